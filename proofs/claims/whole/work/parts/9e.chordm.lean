/-! CHORDS: the model's. -/
section
variable {n : Nat}
def CVm (h : Hp) (c : Int) (V : Int → P2) : Prop := h 113 30 = c ∧ ∀ k, 0 ≤ k → k ≤ c → h 129 k = (V k).1 ∧ h 130 k = (V k).2
def FCm (h h' : Hp) : Prop := (∀ c, c ≠ 113 → c ≠ 129 → c ≠ 130 → h' c = h c) ∧ ∀ i, i ≠ 30 → h' 113 i = h 113 i
theorem FCm.rf {h : Hp} : FCm h h := ⟨fun _ _ _ _ => rfl, fun _ _ => rfl⟩
theorem FCm.tr {h g k : Hp} (a : FCm h g) (b : FCm g k) : FCm h k := ⟨fun c h1 h2 h3 => (b.1 c h1 h2 h3).trans (a.1 c h1 h2 h3), fun i hi => (b.2 i hi).trans (a.2 i hi)⟩
theorem FCm.put {h g : Hp} (a : FCm h g) {c i v : Int} (hc : c = 129 ∨ c = 130) : FCm h (up g c i v) := ⟨fun d h1 h2 h3 => (up_row (by omega)).trans (a.1 d h1 h2 h3), fun j hj => (up_c (by omega)).trans (a.2 j hj)⟩
theorem FCm.pf {h g : Hp} (a : FCm h g) {v : Int} : FCm h (up g 113 30 v) := ⟨fun d h1 h2 h3 => (up_row h1).trans (a.1 d h1 h2 h3), fun j hj => (up_i hj).trans (a.2 j hj)⟩
theorem spinm_l {sd c R x1 x2 x4 x5 x6 : Int} {p : P2} (hs : sg1 sd) (hc : c ≤ 4) (hR : R ≤ 200000) (hb : ∀ k, 0 ≤ k → bdP R (vS sd p k)) : ∀ (r f : Nat) (k : Int) (h : Hp), k + r = c + 1 → r < f → 1 ≤ k → h 113 30 = c → (∀ j, 0 ≤ j → j < k → h 129 j = (vS sd p j).1 ∧ h 130 j = (vS sd p j).2) → ∃ h', BX12_turns_56 n f x1 x2 x4 x5 x6 (if sd = 1 then 1 else 0) k h = some (x1, x2, x4, x5, x6, h') ∧ FCm h h' ∧ CVm h' c (vS sd p)
  | 0, f + 1, k, h, hk, hf, k1, e3, A => by
    rw [BX12_turns_56, e3, if_pos (by omega)]
    exact ⟨h, rfl, FCm.rf, e3, fun j j0 j1 => A j j0 (by omega)⟩
  | r + 1, f + 1, k, h, hk, hf, k1, e3, A => by
    have a := A (k - 1) (by omega) (by omega)
    have b := hb (k - 1) (by omega)
    have ev : vS sd p k = (-(sd * (vS sd p (k - 1)).2), sd * (vS sd p (k - 1)).1) := by
      have := vS_s (sd := sd) (p := p) (k := k - 1) (by omega)
      rw [Int.sub_add_cancel] at this
      exact this
    have nx := spinm_l (x1 := x1) (x2 := x2) (x4 := x4) (x5 := x5) (x6 := x6) hs hc hR hb r f (k + 1) (up (up h 129 k (-(sd * (vS sd p (k - 1)).2))) 130 k (sd * (vS sd p (k - 1)).1)) (by omega) (by omega) (by omega) ((up_c (by decide)).trans ((up_c (by decide)).trans e3)) (fun j j0 j1 => by
      by_cases hj : j = k
      · rw [hj, up_c (by decide), up_s, up_s, ev]
        exact ⟨rfl, rfl⟩
      · rw [up_c (by decide), up_i hj, up_i hj, up_c (by decide)]
        exact A j j0 (by omega))
    obtain ⟨h', e', F, C⟩ := nx
    refine ⟨h', ?_, ((FCm.rf.put (Or.inl rfl)).put (Or.inr rfl)).tr F, C⟩
    rcases hs with e | e
    · subst e
      rw [if_pos (show (1 : Int) = 1 from rfl), Int.one_mul, Int.one_mul] at e'
      rw [BX12_turns_56, e3, if_neg (show ¬ c < k by omega), if_pos (show (1 : Int) = 1 from rfl), if_neg (show ¬ (1 : Int) = 0 by decide), al285, w32_i (x := k - 1) (by omega), grd_t (by omega)]
      unfold JX12_turns_98 JX12_turns_132
      rw [al285, grd_t (by omega), ltt_e, if_neg (show ¬ (1 : Int) = 0 by decide), w32_i (x := k - 1) (by omega), grd_t (by omega), grd_t (by omega), ltt_e, ltt_e, w32_i (x := k + 1) (by omega), up_i (by omega), a.1, a.2, w64_i (x := -(vS 1 p (k - 1)).2) (by omega)]
      exact e'
    · subst e
      rw [if_neg (show ¬ (-1 : Int) = 1 by decide), Int.neg_one_mul, Int.neg_one_mul, Int.neg_neg] at e'
      rw [BX12_turns_56, e3, if_neg (show ¬ c < k by omega), if_neg (show ¬ (-1 : Int) = 1 by decide), if_pos (show (0 : Int) = 0 from rfl), al285, w32_i (x := k - 1) (by omega), grd_t (by omega)]
      unfold JX12_turns_98 JX12_turns_132
      rw [al285, grd_t (by omega), ltt_e, if_pos (show (0 : Int) = 0 from rfl), w32_i (x := k - 1) (by omega), grd_t (by omega), grd_t (by omega), ltt_e, ltt_e, w32_i (x := k + 1) (by omega), up_i (by omega), a.1, a.2, w64_i (x := -(vS (-1) p (k - 1)).1) (by omega)]
      exact e'
theorem halvem_1 {R c : Int} {V : Int → P2} (hc : 2 * c ≤ 32) : ∀ (r f : Nat) (i : Int) (h : Hp), i = r → r < f → i ≤ c → (∀ j, 0 ≤ j → j ≤ i → h 129 j = (V j).1 ∧ h 130 j = (V j).2) → (∀ j, i < j → j ≤ c → h 129 (2 * j) = (V j).1 ∧ h 130 (2 * j) = (V j).2) → ∃ h', BX12_halves_5 n f R i h = some (R, h') ∧ FCm h h' ∧ h' 113 30 = h 113 30 ∧ ∀ j, 0 ≤ j → j ≤ c → h' 129 (2 * j) = (V j).1 ∧ h' 130 (2 * j) = (V j).2
  | 0, f + 1, i, h, hi, hf, ic, A, B => by
    rw [BX12_halves_5, if_pos (by omega)]
    refine ⟨h, rfl, FCm.rf, rfl, fun j j0 j1 => ?_⟩
    by_cases hj : j = 0
    · rw [hj]
      exact A 0 (by decide) (by omega)
    · exact B j (by omega) j1
  | r + 1, f + 1, i, h, hi, hf, ic, A, B => by
    have a := A i (by omega) (by omega)
    rw [BX12_halves_5, if_neg (by omega), al285, w32_i (x := 2 * i) (by omega), grd_t (by omega), grd_t (by omega), ltt_e, grd_t (by omega), grd_t (by omega), up_c (b := 130) (by decide), a.1, a.2, ltt_e, ltt_e, w32_i (x := i + -1) (by omega)]
    obtain ⟨h', e', F, e3, C⟩ := halvem_1 (R := R) (V := V) hc r f (i + -1) (up (up h 129 (2 * i) (V i).1) 130 (2 * i) (V i).2) (by omega) (by omega) (by omega) (fun j j0 j1 => by
      rw [up_c (by decide), up_i (by omega), up_i (by omega), up_c (by decide)]
      exact A j j0 (by omega)) (fun j j0 j1 => by
      by_cases hj : j = i
      · rw [hj, up_c (by decide), up_s, up_s]
        exact ⟨rfl, rfl⟩
      · rw [up_c (by decide), up_i (by omega), up_i (by omega), up_c (by decide)]
        exact B j (by omega) j1)
    exact ⟨h', e', ((FCm.rf.put (Or.inl rfl)).put (Or.inr rfl)).tr F, e3.trans ((up_c (by decide)).trans (up_c (by decide))), C⟩
theorem halvem_2 (hn : 100 ≤ n) {R c : Int} {V : Int → P2} (hc : 2 * c ≤ 32) (hR : 0 ≤ R ∧ R ≤ 200000) (hb : ∀ k, 0 ≤ k → k ≤ c → bdP R (V k)) (hz : ∀ k, 0 ≤ k → k < c → nz2 (V k) (V (k + 1))) : ∀ (r f : Nat) (j : Int) (h : Hp), j + r = c → r < f → 0 ≤ j → h 113 30 = 2 * c → (∀ j, 0 ≤ j → j ≤ c → h 129 (2 * j) = (V j).1 ∧ h 130 (2 * j) = (V j).2) → (∀ i, 0 ≤ i → i < j → h 129 (2 * i + 1) = (hvV R V (2 * i + 1)).1 ∧ h 130 (2 * i + 1) = (hvV R V (2 * i + 1)).2) → ∃ h', BX12_halves_55 n f R (2 * j + 1) h = some h' ∧ FCm h h' ∧ CVm h' (2 * c) (hvV R V)
  | 0, f + 1, j, h, hj, hf, j0, e3, A, B => by
    rw [BX12_halves_55, e3, if_pos (by omega)]
    refine ⟨h, rfl, FCm.rf, e3, fun k k0 k1 => ?_⟩
    obtain ⟨i, hi⟩ : ∃ i, k = 2 * i ∨ k = 2 * i + 1 := ⟨k / 2, by omega⟩
    rcases hi with hi | hi
    · rw [hi, hv_e]
      exact A i (by omega) (by omega)
    · rw [hi]
      exact B i (by omega) (by omega)
  | r + 1, f + 1, j, h, hj, hf, j0, e3, A, B => by
    have a := A j j0 (by omega)
    have a' := A (j + 1) (by omega) (by omega)
    have b := hb j j0 (by omega)
    have b' := hb (j + 1) (by omega) (by omega)
    have z := hz j j0 (by omega)
    have f1 := fr_1 z
    have fn := fr_nn (V j) (V (j + 1))
    have m := md_b hR.1 z
    have s1 := sq_le (g := (V j).1 + (V (j + 1)).1) (B := 400000) (by omega) (by omega)
    have s2 := sq_le (g := (V j).2 + (V (j + 1)).2) (B := 400000) (by omega) (by omega)
    have n1 := sq_nn ((V j).1 + (V (j + 1)).1)
    have n2 := sq_nn ((V j).2 + (V (j + 1)).2)
    have p1 := mp_b (a := (V j).1 + (V (j + 1)).1) (A := 400000) (b := R) (B := 200000) (by omega) (by omega)
    have p2 := mp_b (a := (V j).2 + (V (j + 1)).2) (A := 400000) (b := R) (B := 200000) (by omega) (by omega)
    have er : rt (((V j).1 + (V (j + 1)).1) * ((V j).1 + (V (j + 1)).1) + ((V j).2 + (V (j + 1)).2) * ((V j).2 + (V (j + 1)).2)) = fr (V j) (V (j + 1)) := rfl
    have em1 : (((V j).1 + (V (j + 1)).1) * R).tdiv (fr (V j) (V (j + 1))) = (md R (V j) (V (j + 1))).1 := rfl
    have em2 : (((V j).2 + (V (j + 1)).2) * R).tdiv (fr (V j) (V (j + 1))) = (md R (V j) (V (j + 1))).2 := rfl
    rw [BX12_halves_55, e3, if_neg (by omega), al285, w32_i (x := 2 * j + 1 - 1) (by omega), w32_i (x := 2 * j + 1 + 1) (by omega), show 2 * j + 1 - 1 = 2 * j by omega, show 2 * j + 1 + 1 = 2 * (j + 1) by omega, grd_t (by omega), grd_t (by omega), a.1, a.2, a'.1, a'.2, ltt_e, grd_t (by omega), grd_t (by omega), ltt_e, w64_i (x := (V j).1 + (V (j + 1)).1) (by omega), w64_i (x := (V j).2 + (V (j + 1)).2) (by omega), w64_i (x := ((V j).1 + (V (j + 1)).1) * ((V j).1 + (V (j + 1)).1)) (by omega), w64_i (x := ((V j).2 + (V (j + 1)).2) * ((V j).2 + (V (j + 1)).2)) (by omega), w64_i (x := ((V j).1 + (V (j + 1)).1) * ((V j).1 + (V (j + 1)).1) + ((V j).2 + (V (j + 1)).2) * ((V j).2 + (V (j + 1)).2)) (by omega), root_m (by omega) (by omega) (by omega), bndp_s, er, ltt_e, grd_t (by omega), grd_t (by omega), w64_i (x := ((V j).1 + (V (j + 1)).1) * R) (by omega), w64_i (x := ((V j).2 + (V (j + 1)).2) * R) (by omega), em1, em2, w64_i (x := (md R (V j) (V (j + 1))).1) (by omega), w64_i (x := (md R (V j) (V (j + 1))).2) (by omega), ltt_e, grd_t (by omega), grd_t (by omega), ltt_e, ltt_e, w32_i (x := 2 * j + 1 + 2) (by omega), show 2 * j + 1 + 2 = 2 * (j + 1) + 1 by omega]
    obtain ⟨h', e', F, C⟩ := halvem_2 hn hc hR hb hz r f (j + 1) (up (up h 129 (2 * j + 1) (md R (V j) (V (j + 1))).1) 130 (2 * j + 1) (md R (V j) (V (j + 1))).2) (by omega) (by omega) (by omega) ((up_c (by decide)).trans ((up_c (by decide)).trans e3)) (fun i i0 i1 => by
      rw [up_c (by decide), up_i (by omega), up_i (by omega), up_c (by decide)]
      exact A i i0 i1) (fun i i0 i1 => by
      by_cases hi : i = j
      · rw [hi, up_c (by decide), up_s, up_s, hv_o]
        exact ⟨rfl, rfl⟩
      · rw [up_c (by decide), up_i (by omega), up_i (by omega), up_c (by decide)]
        exact B i i0 (by omega))
    exact ⟨h', e', ((FCm.rf.put (Or.inl rfl)).put (Or.inr rfl)).tr F, C⟩
theorem halves_m (hn : 100 ≤ n) {R c : Int} {V : Int → P2} (hc : 1 ≤ c ∧ 2 * c ≤ 32) (hR : 0 ≤ R ∧ R ≤ 200000) (hb : ∀ k, 0 ≤ k → k ≤ c → bdP R (V k)) (hz : ∀ k, 0 ≤ k → k < c → nz2 (V k) (V (k + 1))) {h : Hp} (C : CVm h c V) : ∃ h', MX12_halves n R h = some h' ∧ FCm h h' ∧ CVm h' (2 * c) (hvV R V) := by
  obtain ⟨h1, e1, F1, c1, A1⟩ := halvem_1 (n := n) (R := R) (V := V) hc.2 c.toNat n c h (by omega) (by omega) (Int.le_refl c) C.2 (fun j j0 j1 => by omega)
  obtain ⟨h2, e2, F2, C2⟩ := halvem_2 hn hc.2 hR hb hz c.toNat n 0 (up h1 113 30 (2 * c)) (by omega) (by omega) (by decide) up_s (fun j j0 j1 => by rw [up_c (by decide), up_c (by decide)]; exact A1 j j0 j1) (fun i i0 i1 => by omega)
  unfold MX12_halves
  rw [C.1, ltt_e]
  unfold LX12_halves_5
  rw [e1, bndx_s]
  show ∃ h', JX12_halves_43 n R h1 = some h' ∧ _
  unfold JX12_halves_43 LX12_halves_55
  rw [c1, C.1, w32_i (x := c * 2) (by omega), show c * 2 = 2 * c by omega, ltt_e, ltt_e]
  exact ⟨h2, e2, (F1.pf).tr F2, C2⟩
theorem bulge_m (hn : 100 ≤ n) {R c : Int} {V : Int → P2} (hc : 1 ≤ c) (hR : 0 ≤ R ∧ R ≤ 200000) (hb : ∀ k, 0 ≤ k → k ≤ c → bdP R (V k)) {h : Hp} (C : CVm h c V) : MX12_bulge n R h = some (R - fr (V 0) (V 1) / 2) := by
  have b := hb 0 (by decide) (by omega)
  have b' := hb 1 (by decide) hc
  have c0 := C.2 0 (by decide) (by omega)
  have c1 := C.2 1 (by decide) hc
  have s1 := sq_le (g := (V 0).1 + (V 1).1) (B := 400000) (by omega) (by omega)
  have s2 := sq_le (g := (V 0).2 + (V 1).2) (B := 400000) (by omega) (by omega)
  have n1 := sq_nn ((V 0).1 + (V 1).1)
  have n2 := sq_nn ((V 0).2 + (V 1).2)
  have er : rt (((V 0).1 + (V 1).1) * ((V 0).1 + (V 1).1) + ((V 0).2 + (V 1).2) * ((V 0).2 + (V 1).2)) = fr (V 0) (V 1) := rfl
  have r0 := rt_nn (((V 0).1 + (V 1).1) * ((V 0).1 + (V 1).1) + ((V 0).2 + (V 1).2) * ((V 0).2 + (V 1).2))
  have r1 := rt_lt (n := ((V 0).1 + (V 1).1) * ((V 0).1 + (V 1).1) + ((V 0).2 + (V 1).2) * ((V 0).2 + (V 1).2)) (b := 1000000) (by omega) (by decide) (by omega)
  rw [er] at r0 r1
  unfold MX12_bulge
  rw [al285, grd_t (by decide), grd_t (by decide), c0.1, c1.1, square_m, bndp_s, grd_t (by decide), grd_t (by decide), c0.2, c1.2, square_m, bndp_s, w64_i (x := (V 0).1 + (V 1).1) (by omega), w64_i (x := (V 0).2 + (V 1).2) (by omega), w64_i (x := ((V 0).1 + (V 1).1) * ((V 0).1 + (V 1).1)) (by omega), w64_i (x := ((V 0).2 + (V 1).2) * ((V 0).2 + (V 1).2)) (by omega), w64_i (x := ((V 0).1 + (V 1).1) * ((V 0).1 + (V 1).1) + ((V 0).2 + (V 1).2) * ((V 0).2 + (V 1).2)) (by omega), root_m (by omega) (by omega) (by omega), bndp_s, er, grd_t (by decide), Int.tdiv_eq_ediv_of_nonneg r0, w32_i (x := fr (V 0) (V 1) / 2) (by omega), w32_i (x := R - fr (V 0) (V 1) / 2) (by omega)]
theorem trn_m (hn : 100 ≤ n) {a b c tol x1 x2 x4 x5 : Int} (ha : far_ a) (hb : far_ b) (hab : a ≠ 0 ∨ b ≠ 0) (hc : 1 ≤ c * sdq c ∧ c * sdq c ≤ 4) : ∀ (r f i : Nat) (h : Hp), i + r = 3 → r < f → h 114 7 = tol → CVm h (cL (c * sdq c) i) (lvV (tR_ a b) (tV a b c) i) → ∃ h', BX12_turns_142 n f x1 x2 x4 x5 (tR_ a b) (i : Int) h = some (x1, x2, x4, x5, h') ∧ FCm h h' ∧ CVm h' (cL (c * sdq c) (trL (tR_ a b) tol (tV a b c) r i)) (lvV (tR_ a b) (tV a b c) (trL (tR_ a b) tol (tV a b c) r i))
  | 0, f + 1, i, h, hi, hf, et, C => by
    rw [BX12_turns_142, if_pos (by omega)]
    exact ⟨h, rfl, FCm.rf, C⟩
  | r + 1, f + 1, i, h, hi, hf, et, C => by
    have hp : (-a, -b).1 ≠ 0 ∨ (-a, -b).2 ≠ 0 := hab.elim (fun q => Or.inl (by show -a ≠ 0; omega)) (fun q => Or.inr (by show -b ≠ 0; omega))
    have cb := cL_b hc i
    have bd := lv_b (sdq_1 c) hp (tR_e a b) i (by omega)
    have nz := lv_nz (sdq_1 c) hp (tR_e a b) i (by omega)
    have eL : trL (tR_ a b) tol (tV a b c) (r + 1) i = if tR_ a b - fr (lvV (tR_ a b) (tV a b c) i 0) (lvV (tR_ a b) (tV a b c) i 1) / 2 ≤ tol then i else trL (tR_ a b) tol (tV a b c) r (i + 1) := rfl
    rw [BX12_turns_142, if_neg (by omega), bulge_m hn (cb.1 (by omega)).1 (tR_b ha hb) (fun k k0 _ => bd k k0) C, bndp_s, al84, grd_t (by decide), et, eL]
    by_cases h1 : tR_ a b - fr (lvV (tR_ a b) (tV a b c) i 0) (lvV (tR_ a b) (tV a b c) i 1) / 2 ≤ tol
    · rw [if_pos h1, if_pos h1]
      exact ⟨h, rfl, FCm.rf, C⟩
    · obtain ⟨g, e, F, C'⟩ := halves_m hn ⟨(cb.1 (by omega)).1, cb.2 (by omega)⟩ (tR_b ha hb) (fun k k0 _ => bd k k0) (fun k k0 _ => nz k k0) C
      obtain ⟨h', e', F', C2⟩ := trn_m hn (x1 := x1) (x2 := x2) (x4 := x4) (x5 := x5) (tol := tol) ha hb hab hc r f (i + 1) g (by omega) (by omega) (by rw [F.1 114 (by decide) (by decide) (by decide)]; exact et) C'
      rw [if_neg h1, if_neg h1, e, bndh_s, ltt_e, w32_i (x := (i : Int) + 1) (by omega), show (i : Int) + 1 = ((i + 1 : Nat) : Int) by omega]
      exact ⟨h', e', F.tr F', C2⟩
end
