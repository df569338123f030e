/-! CHORDS: levels, and the class's. -/
def hvV (R : Int) (V : Int → P2) : Int → P2 := fun k => if k % 2 = 0 then V (k / 2) else md R (V ((k - 1) / 2)) (V ((k + 1) / 2))
def spn (sd : Int) (p : P2) : Nat → P2
  | 0 => p
  | k + 1 => (-(sd * (spn sd p k).2), sd * (spn sd p k).1)
def lvV (R : Int) (V : Int → P2) : Nat → Int → P2
  | 0 => V
  | i + 1 => hvV R (lvV R V i)
def vS (sd : Int) (p : P2) : Int → P2 := fun k => spn sd p k.toNat
theorem spn_s {sd : Int} {p : P2} {k : Nat} : spn sd p (k + 1) = (-(sd * (spn sd p k).2), sd * (spn sd p k).1) := rfl
theorem spn_ok {sd : Int} (hs : sg1 sd) {p : P2} (hp : p.1 ≠ 0 ∨ p.2 ≠ 0) : ∀ k : Nat, ((spn sd p k).1 ≠ 0 ∨ (spn sd p k).2 ≠ 0) ∧ (spn sd p k).1 * (spn sd p k).1 + (spn sd p k).2 * (spn sd p k).2 = p.1 * p.1 + p.2 * p.2
  | 0 => ⟨hp, rfl⟩
  | k + 1 => by
    obtain ⟨h1, h2⟩ := spn_ok hs hp k
    rw [spn_s]
    refine ⟨?_, ?_⟩
    · show -(sd * (spn sd p k).2) ≠ 0 ∨ sd * (spn sd p k).1 ≠ 0
      rcases hs with e | e <;> subst e <;> omega
    · show -(sd * (spn sd p k).2) * -(sd * (spn sd p k).2) + sd * (spn sd p k).1 * (sd * (spn sd p k).1) = _
      rw [Int.neg_mul_neg, sg_sq hs, sg_sq hs, ← h2, Int.add_comm]
theorem vS_0 {sd : Int} {p : P2} : vS sd p 0 = p := rfl
theorem vS_s {sd : Int} {p : P2} {k : Int} (hk : 0 ≤ k) : vS sd p (k + 1) = (-(sd * (vS sd p k).2), sd * (vS sd p k).1) := by
  unfold vS
  rw [show (k + 1).toNat = k.toNat + 1 by omega, spn_s]
theorem hv_e {R : Int} {V : Int → P2} (j : Int) : hvV R V (2 * j) = V j := by
  unfold hvV
  rw [if_pos (by omega), show 2 * j / 2 = j by omega]
theorem hv_o {R : Int} {V : Int → P2} (j : Int) : hvV R V (2 * j + 1) = md R (V j) (V (j + 1)) := by
  unfold hvV
  rw [if_neg (by omega), show (2 * j + 1 - 1) / 2 = j by omega, show (2 * j + 1 + 1) / 2 = j + 1 by omega]
theorem lv_nz {sd R : Int} {p : P2} (hs : sg1 sd) (hp : p.1 ≠ 0 ∨ p.2 ≠ 0) (hR : R = rt (p.1 * p.1 + p.2 * p.2)) : ∀ (i : Nat), i ≤ 2 → ∀ k : Int, 0 ≤ k → nz2 (lvV R (vS sd p) i k) (lvV R (vS sd p) i (k + 1)) := by
  intro i hi k hk
  have Q : ∀ j : Int, 0 ≤ j → _ := fun j hj => qt_nz (p := vS sd p j) (sd := sd) (R := R) (spn_ok hs hp j.toNat).1 hs (by rw [hR]; exact congrArg rt (spn_ok hs hp j.toNat).2.symm)
  have E : ∀ j : Int, 0 ≤ j → (-(sd * (vS sd p j).2), sd * (vS sd p j).1) = vS sd p (j + 1) := fun j hj => (vS_s hj).symm
  rcases (by omega : i = 0 ∨ i = 1 ∨ i = 2) with e | e | e
  · subst e
    have q := (Q k hk).1
    rw [E k hk] at q
    exact q
  · subst e
    show nz2 (hvV R (vS sd p) k) (hvV R (vS sd p) (k + 1))
    obtain ⟨j, hj⟩ : ∃ j, k = 2 * j ∨ k = 2 * j + 1 := ⟨k / 2, by omega⟩
    have q := (Q j (by omega)).2.1
    rw [E j (by omega)] at q
    rcases hj with hj | hj
    · rw [hj, hv_e, hv_o]
      exact q.1
    · rw [hj, show 2 * j + 1 + 1 = 2 * (j + 1) by omega, hv_e, hv_o]
      exact q.2
  · subst e
    show nz2 (hvV R (hvV R (vS sd p)) k) (hvV R (hvV R (vS sd p)) (k + 1))
    obtain ⟨j, hj⟩ : ∃ j, k = 2 * (2 * j) ∨ k = 2 * (2 * j) + 1 ∨ k = 2 * (2 * j + 1) ∨ k = 2 * (2 * j + 1) + 1 := ⟨k / 4, by omega⟩
    have q := (Q j (by omega)).2.2
    rw [E j (by omega)] at q
    obtain ⟨q1, q2, q3, q4⟩ := q
    rcases hj with hj | hj | hj | hj
    · rw [hj, hv_e, hv_o, hv_e, hv_o]
      exact q1
    · rw [hj, show 2 * (2 * j) + 1 + 1 = 2 * (2 * j + 1) by omega, hv_o, hv_e, hv_e, hv_o]
      exact q2
    · rw [hj, hv_e, hv_o (V := hvV R (vS sd p)), hv_o (V := vS sd p), show 2 * j + 1 + 1 = 2 * (j + 1) by omega, hv_e]
      exact q3
    · rw [hj, show 2 * (2 * j + 1) + 1 + 1 = 2 * (2 * (j + 1)) by omega, hv_o, hv_e, hv_o, show 2 * j + 1 + 1 = 2 * (j + 1) by omega, hv_e]
      exact q4
abbrev bdP (R : Int) (p : P2) : Prop := (-R ≤ p.1 ∧ p.1 ≤ R) ∧ (-R ≤ p.2 ∧ p.2 ≤ R)
theorem lv_b {sd R : Int} {p : P2} (hs : sg1 sd) (hp : p.1 ≠ 0 ∨ p.2 ≠ 0) (hR : R = rt (p.1 * p.1 + p.2 * p.2)) : ∀ (i : Nat), i ≤ 3 → ∀ k : Int, 0 ≤ k → bdP R (lvV R (vS sd p) i k)
  | 0, _, k, hk => by
    have e := (spn_ok hs hp k.toNat).2
    have a := sq_nn (spn sd p k.toNat).1
    have b := sq_nn (spn sd p k.toNat).2
    rw [hR]
    exact ⟨le_rt (g := (spn sd p k.toNat).1) (by omega), le_rt (g := (spn sd p k.toNat).2) (by omega)⟩
  | i + 1, hi, k, hk => by
    have ih := lv_b hs hp hR i (by omega)
    have r0 : 0 ≤ R := by rw [hR]; exact rt_nn _
    show bdP R (hvV R (lvV R (vS sd p) i) k)
    obtain ⟨j, hj⟩ : ∃ j, k = 2 * j ∨ k = 2 * j + 1 := ⟨k / 2, by omega⟩
    rcases hj with hj | hj
    · rw [hj, hv_e]
      exact ih j (by omega)
    · rw [hj, hv_o]
      exact md_b r0 (lv_nz hs hp hR i (by omega) j (by omega))
/-- how often all chords are halved -/
def trL (R tol : Int) (V : Int → P2) : Nat → Nat → Nat
  | 0, i => i
  | r + 1, i => if R - fr (lvV R V i 0) (lvV R V i 1) / 2 ≤ tol then i else trL R tol V r (i + 1)
theorem trL_b {R tol : Int} {V : Int → P2} : ∀ r i : Nat, trL R tol V r i ≤ i + r
  | 0, i => Nat.le_refl i
  | r + 1, i => by
    unfold trL
    split
    · omega
    · have := trL_b (R := R) (tol := tol) (V := V) r (i + 1)
      omega
section
variable {n : Nat}
/-- the class's chords are those of V -/
def CV (h : Hp) (c : Int) (V : Int → P2) : Prop := h 30 3 = c ∧ ∀ k, 0 ≤ k → k ≤ c → h 31 k = (V k).1 ∧ h 32 k = (V k).2
/-- but for chords, h' is as h -/
def FCh (h h' : Hp) : Prop := (∀ c, c < 30 ∨ 33 < c → h' c = h c) ∧ ∀ i, i ≠ 3 → h' 30 i = h 30 i
theorem FCh.rf {h : Hp} : FCh h h := ⟨fun _ _ => rfl, fun _ _ => rfl⟩
theorem FCh.tr {h g k : Hp} (a : FCh h g) (b : FCh g k) : FCh h k := ⟨fun c hc => (b.1 c hc).trans (a.1 c hc), fun i hi => (b.2 i hi).trans (a.2 i hi)⟩
theorem FCh.put {h g : Hp} (a : FCh h g) {c i v : Int} (hc : 31 ≤ c ∧ c ≤ 33) : FCh h (up g c i v) := ⟨fun d hd => (up_row (by omega)).trans (a.1 d hd), fun j hj => (up_c (by omega)).trans (a.2 j hj)⟩
theorem FCh.pf {h g : Hp} (a : FCh h g) {v : Int} : FCh h (up g 30 3 v) := ⟨fun d hd => (up_row (by omega)).trans (a.1 d hd), fun j hj => (up_i hj).trans (a.2 j hj)⟩
theorem spin_l {sd c R : Int} {p : P2} (hs : sg1 sd) (hc : c ≤ 4) (hR : R ≤ 200000) (hb : ∀ k, 0 ≤ k → bdP R (vS sd p k)) : ∀ (r f : Nat) (k : Int) (h : Hp), k + r = c + 1 → r < f → 1 ≤ k → h 30 3 = c → (∀ j, 0 ≤ j → j < k → h 31 j = (vS sd p j).1 ∧ h 32 j = (vS sd p j).2) → ∃ h', BX0_spin_40 n f sd k h = some h' ∧ FCh h h' ∧ (∀ i, h' 33 i = h 33 i) ∧ CV h' c (vS sd p)
  | 0, f + 1, k, h, hk, hf, k1, e3, A => by
    rw [BX0_spin_40, e3, if_pos (by omega)]
    exact ⟨h, rfl, FCh.rf, fun _ => rfl, e3, fun j j0 j1 => A j j0 (by omega)⟩
  | r + 1, f + 1, k, h, hk, hf, k1, e3, A => by
    have a := A (k - 1) (by omega) (by omega)
    have b := hb (k - 1) (by omega)
    have ev : vS sd p k = (-(sd * (vS sd p (k - 1)).2), sd * (vS sd p (k - 1)).1) := by
      have := vS_s (sd := sd) (p := p) (k := k - 1) (by omega)
      rw [Int.sub_add_cancel] at this
      exact this
    have bb : (-200000 ≤ sd * (vS sd p (k - 1)).1 ∧ sd * (vS sd p (k - 1)).1 ≤ 200000) ∧ (-200000 ≤ sd * (vS sd p (k - 1)).2 ∧ sd * (vS sd p (k - 1)).2 ≤ 200000) := by
      rcases hs with e | e <;> subst e <;> omega
    have s1 : -1 ≤ sd ∧ sd ≤ 1 := by rcases hs with e | e <;> omega
    rw [BX0_spin_40, e3, if_neg (by omega), al284, w32_i (x := k - 1) (by omega), grd_t (by omega), grd_t (by omega), w32_i (x := -sd) (by omega), a.2, show -sd * (vS sd p (k - 1)).2 = -(sd * (vS sd p (k - 1)).2) from Int.neg_mul _ _, w32_i (x := -(sd * (vS sd p (k - 1)).2)) (by omega), ltt_e, grd_t (by omega), grd_t (by omega), up_i (by omega), a.1, w32_i (x := sd * (vS sd p (k - 1)).1) (by omega), ltt_e, ltt_e, w32_i (x := k + 1) (by omega)]
    obtain ⟨h', e', F, Z, C⟩ := spin_l hs hc hR hb r f (k + 1) (up (up h 31 k (-(sd * (vS sd p (k - 1)).2))) 32 k (sd * (vS sd p (k - 1)).1)) (by omega) (by omega) (by omega) ((up_c (by decide)).trans ((up_c (by decide)).trans e3)) (fun j j0 j1 => by
      by_cases hj : j = k
      · rw [hj, up_c (by decide), up_s, up_s, ev]
        exact ⟨rfl, rfl⟩
      · rw [up_c (by decide), up_i hj, up_i hj, up_c (by decide)]
        exact A j j0 (by omega))
    exact ⟨h', e', ((FCh.rf.put (by decide)).put (by decide)).tr F, fun i => (Z i).trans ((up_c (by decide)).trans (up_c (by decide))), C⟩
theorem halve_1 {R c : Int} {V : Int → P2} (hc : 2 * c ≤ 32) : ∀ (r f : Nat) (i : Int) (h : Hp), i = r → r < f → i ≤ c → (∀ j, 0 ≤ j → j ≤ i → h 31 j = (V j).1 ∧ h 32 j = (V j).2) → (∀ j, i < j → j ≤ c → h 31 (2 * j) = (V j).1 ∧ h 32 (2 * j) = (V j).2) → ∃ h', BX0_halve_17 n f R i h = some (R, h') ∧ FCh h h' ∧ (∀ i, h' 33 i = h 33 i) ∧ h' 30 3 = h 30 3 ∧ ∀ j, 0 ≤ j → j ≤ c → h' 31 (2 * j) = (V j).1 ∧ h' 32 (2 * j) = (V j).2
  | 0, f + 1, i, h, hi, hf, ic, A, B => by
    rw [BX0_halve_17, if_pos (by omega)]
    refine ⟨h, rfl, FCh.rf, fun _ => rfl, rfl, fun j j0 j1 => ?_⟩
    by_cases hj : j = 0
    · rw [hj]
      exact A 0 (by decide) (by omega)
    · exact B j (by omega) j1
  | r + 1, f + 1, i, h, hi, hf, ic, A, B => by
    have a := A i (by omega) (by omega)
    rw [BX0_halve_17, if_neg (by omega), al284, w32_i (x := 2 * i) (by omega), grd_t (by omega), grd_t (by omega), ltt_e, grd_t (by omega), grd_t (by omega), up_c (b := 32) (by decide), a.1, a.2, ltt_e, ltt_e, w32_i (x := i + -1) (by omega)]
    obtain ⟨h', e', F, Z, e3, C⟩ := halve_1 (R := R) (V := V) hc r f (i + -1) (up (up h 31 (2 * i) (V i).1) 32 (2 * i) (V i).2) (by omega) (by omega) (by omega) (fun j j0 j1 => by
      rw [up_c (by decide), up_i (by omega), up_i (by omega), up_c (by decide)]
      exact A j j0 (by omega)) (fun j j0 j1 => by
      by_cases hj : j = i
      · rw [hj, up_c (by decide), up_s, up_s]
        exact ⟨rfl, rfl⟩
      · rw [up_c (by decide), up_i (by omega), up_i (by omega), up_c (by decide)]
        exact B j (by omega) j1)
    exact ⟨h', e', ((FCh.rf.put (by decide)).put (by decide)).tr F, fun i => (Z i).trans ((up_c (by decide)).trans (up_c (by decide))), e3.trans ((up_c (by decide)).trans (up_c (by decide))), C⟩
theorem halve_2 (hn : 100 ≤ n) {R c : Int} {V : Int → P2} (hc : 2 * c ≤ 32) (hR : 0 ≤ R ∧ R ≤ 200000) (hb : ∀ k, 0 ≤ k → k ≤ c → bdP R (V k)) (hz : ∀ k, 0 ≤ k → k < c → nz2 (V k) (V (k + 1))) : ∀ (r f : Nat) (j : Int) (h : Hp), j + r = c → r < f → 0 ≤ j → h 30 3 = 2 * c → (∀ j, 0 ≤ j → j ≤ c → h 31 (2 * j) = (V j).1 ∧ h 32 (2 * j) = (V j).2) → (∀ i, 0 ≤ i → i < j → h 31 (2 * i + 1) = (hvV R V (2 * i + 1)).1 ∧ h 32 (2 * i + 1) = (hvV R V (2 * i + 1)).2) → ∃ h', BX0_halve_67 n f R (2 * j + 1) h = some h' ∧ FCh h h' ∧ (∀ i, h' 33 i = h 33 i) ∧ CV h' (2 * c) (hvV R V)
  | 0, f + 1, j, h, hj, hf, j0, e3, A, B => by
    rw [BX0_halve_67, e3, if_pos (by omega)]
    refine ⟨h, rfl, FCh.rf, fun _ => rfl, e3, fun k k0 k1 => ?_⟩
    obtain ⟨i, hi⟩ : ∃ i, k = 2 * i ∨ k = 2 * i + 1 := ⟨k / 2, by omega⟩
    rcases hi with hi | hi
    · rw [hi, hv_e]
      exact A i (by omega) (by omega)
    · rw [hi]
      exact B i (by omega) (by omega)
  | r + 1, f + 1, j, h, hj, hf, j0, e3, A, B => by
    have a := A j j0 (by omega)
    have a' := A (j + 1) (by omega) (by omega)
    have b := hb j j0 (by omega)
    have b' := hb (j + 1) (by omega) (by omega)
    have z := hz j j0 (by omega)
    have f1 := fr_1 z
    have fn := fr_nn (V j) (V (j + 1))
    have m := md_b hR.1 z
    have s1 := sq_le (g := (V j).1 + (V (j + 1)).1) (B := 400000) (by omega) (by omega)
    have s2 := sq_le (g := (V j).2 + (V (j + 1)).2) (B := 400000) (by omega) (by omega)
    have n1 := sq_nn ((V j).1 + (V (j + 1)).1)
    have n2 := sq_nn ((V j).2 + (V (j + 1)).2)
    have p1 := mp_b (a := (V j).1 + (V (j + 1)).1) (A := 400000) (b := R) (B := 200000) (by omega) (by omega)
    have p2 := mp_b (a := (V j).2 + (V (j + 1)).2) (A := 400000) (b := R) (B := 200000) (by omega) (by omega)
    have er : rt (((V j).1 + (V (j + 1)).1) * ((V j).1 + (V (j + 1)).1) + ((V j).2 + (V (j + 1)).2) * ((V j).2 + (V (j + 1)).2)) = fr (V j) (V (j + 1)) := rfl
    have em1 : (((V j).1 + (V (j + 1)).1) * R).tdiv (fr (V j) (V (j + 1))) = (md R (V j) (V (j + 1))).1 := rfl
    have em2 : (((V j).2 + (V (j + 1)).2) * R).tdiv (fr (V j) (V (j + 1))) = (md R (V j) (V (j + 1))).2 := rfl
    rw [BX0_halve_67, e3, if_neg (by omega), al284, w32_i (x := 2 * j + 1 - 1) (by omega), w32_i (x := 2 * j + 1 + 1) (by omega), show 2 * j + 1 - 1 = 2 * j by omega, show 2 * j + 1 + 1 = 2 * (j + 1) by omega, grd_t (by omega), grd_t (by omega), a.1, a.2, a'.1, a'.2, ltt_e, grd_t (by omega), grd_t (by omega), ltt_e, w64_i (x := (V j).1 + (V (j + 1)).1) (by omega), w64_i (x := (V j).2 + (V (j + 1)).2) (by omega), w64_i (x := ((V j).1 + (V (j + 1)).1) * ((V j).1 + (V (j + 1)).1)) (by omega), w64_i (x := ((V j).2 + (V (j + 1)).2) * ((V j).2 + (V (j + 1)).2)) (by omega), w64_i (x := ((V j).1 + (V (j + 1)).1) * ((V j).1 + (V (j + 1)).1) + ((V j).2 + (V (j + 1)).2) * ((V j).2 + (V (j + 1)).2)) (by omega), root_c (by omega) (by omega) (by omega), bndp_s, er, ltt_e, w64_i (x := ((V j).1 + (V (j + 1)).1) * R) (by omega), w64_i (x := ((V j).2 + (V (j + 1)).2) * R) (by omega), share_c (by omega) (by rw [em1]; omega), bndp_s, em1, w32_i (x := (md R (V j) (V (j + 1))).1) (by omega), grd_t (by omega), ltt_e, share_c (by omega) (by rw [em2]; omega), bndp_s, em2, w32_i (x := (md R (V j) (V (j + 1))).2) (by omega), grd_t (by omega), ltt_e, ltt_e, w32_i (x := 2 * j + 1 + 2) (by omega), show 2 * j + 1 + 2 = 2 * (j + 1) + 1 by omega]
    obtain ⟨h', e', F, Z, C⟩ := halve_2 hn hc hR hb hz r f (j + 1) (up (up h 31 (2 * j + 1) (md R (V j) (V (j + 1))).1) 32 (2 * j + 1) (md R (V j) (V (j + 1))).2) (by omega) (by omega) (by omega) ((up_c (by decide)).trans ((up_c (by decide)).trans e3)) (fun i i0 i1 => by
      rw [up_c (by decide), up_i (by omega), up_i (by omega), up_c (by decide)]
      exact A i i0 i1) (fun i i0 i1 => by
      by_cases hi : i = j
      · rw [hi, up_c (by decide), up_s, up_s, hv_o]
        exact ⟨rfl, rfl⟩
      · rw [up_c (by decide), up_i (by omega), up_i (by omega), up_c (by decide)]
        exact B i i0 (by omega))
    exact ⟨h', e', ((FCh.rf.put (by decide)).put (by decide)).tr F, fun i => (Z i).trans ((up_c (by decide)).trans (up_c (by decide))), C⟩
theorem halve_c (hn : 100 ≤ n) {R c : Int} {V : Int → P2} (hc : 1 ≤ c ∧ 2 * c ≤ 32) (hR : 0 ≤ R ∧ R ≤ 200000) (hb : ∀ k, 0 ≤ k → k ≤ c → bdP R (V k)) (hz : ∀ k, 0 ≤ k → k < c → nz2 (V k) (V (k + 1))) {h : Hp} (C : CV h c V) : ∃ h', MX0_halve n R h = some h' ∧ FCh h h' ∧ (∀ i, h' 33 i = h 33 i) ∧ CV h' (2 * c) (hvV R V) := by
  obtain ⟨h1, e1, F1, Z1, c1, A1⟩ := halve_1 (n := n) (R := R) (V := V) hc.2 c.toNat n c h (by omega) (by omega) (Int.le_refl c) C.2 (fun j j0 j1 => by omega)
  obtain ⟨h2, e2, F2, Z2, C2⟩ := halve_2 hn hc.2 hR hb hz c.toNat n 0 (up h1 30 3 (2 * c)) (by omega) (by omega) (by decide) up_s (fun j j0 j1 => by rw [up_c (by decide), up_c (by decide)]; exact A1 j j0 j1) (fun i i0 i1 => by omega)
  unfold MX0_halve
  rw [C.1, w32_i (x := c * 2) (by omega), if_pos (by omega), ltt_e]
  unfold LX0_halve_17
  rw [e1, bndx_s]
  show ∃ h', JX0_halve_55 n R h1 = some h' ∧ _
  unfold JX0_halve_55 LX0_halve_67
  rw [c1, C.1, w32_i (x := c * 2) (by omega), show c * 2 = 2 * c by omega, ltt_e, ltt_e]
  exact ⟨h2, e2, (F1.pf).tr F2, fun i => (Z2 i).trans ((up_c (by decide)).trans (Z1 i)), C2⟩
theorem isCoarse_c (hn : 100 ≤ n) {R c tol : Int} {V : Int → P2} (hc : 1 ≤ c) (hR : 0 ≤ R ∧ R ≤ 200000) (hb : ∀ k, 0 ≤ k → k ≤ c → bdP R (V k)) {h : Hp} (C : CV h c V) : MX0_isCoarse n R tol h = some (if R - fr (V 0) (V 1) / 2 ≤ tol then 0 else 1) := by
  have b := hb 0 (by decide) (by omega)
  have b' := hb 1 (by decide) hc
  have c0 := C.2 0 (by decide) (by omega)
  have c1 := C.2 1 (by decide) hc
  have s1 := sq_le (g := (V 0).1 + (V 1).1) (B := 400000) (by omega) (by omega)
  have s2 := sq_le (g := (V 0).2 + (V 1).2) (B := 400000) (by omega) (by omega)
  have n1 := sq_nn ((V 0).1 + (V 1).1)
  have n2 := sq_nn ((V 0).2 + (V 1).2)
  have er : rt (((V 0).1 + (V 1).1) * ((V 0).1 + (V 1).1) + ((V 0).2 + (V 1).2) * ((V 0).2 + (V 1).2)) = fr (V 0) (V 1) := rfl
  have r0 := rt_nn (((V 0).1 + (V 1).1) * ((V 0).1 + (V 1).1) + ((V 0).2 + (V 1).2) * ((V 0).2 + (V 1).2))
  have r1 := rt_lt (n := ((V 0).1 + (V 1).1) * ((V 0).1 + (V 1).1) + ((V 0).2 + (V 1).2) * ((V 0).2 + (V 1).2)) (b := 1000000) (by omega) (by decide) (by omega)
  rw [er] at r0 r1
  unfold MX0_isCoarse
  rw [al284, grd_t (by decide), grd_t (by decide), c0.1, c1.1, square_c, bndp_s, grd_t (by decide), grd_t (by decide), c0.2, c1.2, square_c, bndp_s, w64_i (x := (V 0).1 + (V 1).1) (by omega), w64_i (x := (V 0).2 + (V 1).2) (by omega), w64_i (x := ((V 0).1 + (V 1).1) * ((V 0).1 + (V 1).1)) (by omega), w64_i (x := ((V 0).2 + (V 1).2) * ((V 0).2 + (V 1).2)) (by omega), w64_i (x := ((V 0).1 + (V 1).1) * ((V 0).1 + (V 1).1) + ((V 0).2 + (V 1).2) * ((V 0).2 + (V 1).2)) (by omega), root_c (by omega) (by omega) (by omega), bndp_s, er, grd_t (by decide), Int.tdiv_eq_ediv_of_nonneg r0, w32_i (x := fr (V 0) (V 1) / 2) (by omega), ltt_e, w32_i (x := R - fr (V 0) (V 1) / 2) (by omega)]
  by_cases h1 : R - fr (V 0) (V 1) / 2 ≤ tol
  · rw [if_pos h1, if_pos h1]
  · rw [if_neg h1, if_neg h1]
end
