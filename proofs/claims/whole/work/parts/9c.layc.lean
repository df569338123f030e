/-! A MOVE'S POINTS: the class. -/
def sdq (q : Int) : Int := if 0 ≤ q then 1 else -1
def cL (q : Int) : Nat → Int
  | 0 => q
  | i + 1 => 2 * cL q i
theorem cL_b {q : Int} (hq : 1 ≤ q ∧ q ≤ 4) : ∀ i : Nat, (i ≤ 3 → 1 ≤ cL q i ∧ cL q i ≤ 32) ∧ (i ≤ 2 → 2 * cL q i ≤ 32) := by
  intro i
  have e0 : cL q 0 = q := rfl
  have e1 : cL q 1 = 2 * q := rfl
  have e2 : cL q 2 = 2 * (2 * q) := rfl
  have e3 : cL q 3 = 2 * (2 * (2 * q)) := rfl
  refine ⟨fun h => ?_, fun h => ?_⟩
  · rcases (by omega : i = 0 ∨ i = 1 ∨ i = 2 ∨ i = 3) with e | e | e | e <;> subst e <;> omega
  · rcases (by omega : i = 0 ∨ i = 1 ∨ i = 2) with e | e | e <;> subst e <;> omega
abbrev tR_ (a b : Int) : Int := rt (a * a + b * b)
abbrev tV (a b c : Int) : Int → P2 := vS (sdq c) (-a, -b)
abbrev tL (tol a b c : Int) : Nat := trL (tR_ a b) tol (tV a b c) 3 0
/-- how many chords a move has, and where they end -/
def mvN (tol k a b c : Int) : Int := if k = 5 then cL (c * sdq c) (tL tol a b c) else 1
def mvX (tol k a b c x i : Int) : Int := if k = 5 then x + a + (lvV (tR_ a b) (tV a b c) (tL tol a b c) i).1 else if i = 0 then x else if k = 4 then a + x else a
def mvY (tol k a b c y i : Int) : Int := if k = 5 then y + b + (lvV (tR_ a b) (tV a b c) (tL tol a b c) i).2 else if i = 0 then y else if k = 4 then b + y else b
def mvZ (tol k a b c d z i : Int) : Int := if k = 5 then z + (d * i).tdiv (mvN tol k a b c) else if i = 0 then z else if k = 4 then c + z else c
abbrev far_ (v : Int) : Prop := -100000 ≤ v ∧ v ≤ 100000
/-- a move that is right -/
def VR (k a b c d f : Int) : Prop := (far_ a ∧ far_ b ∧ far_ d) ∧ ((k = 5 ∧ (a ≠ 0 ∨ b ≠ 0) ∧ (1 ≤ c * sdq c ∧ c * sdq c ≤ 4)) ∨ ((k = 3 ∨ k = 4) ∧ far_ c)) ∧ (1 ≤ f ∧ f ≤ 5000)
theorem sdq_1 (q : Int) : sg1 (sdq q) := by
  unfold sdq
  split
  · exact Or.inl rfl
  · exact Or.inr rfl
theorem tR_b {a b : Int} (ha : far_ a) (hb : far_ b) : 0 ≤ tR_ a b ∧ tR_ a b ≤ 200000 := by
  have s1 := sq_le ha.1 ha.2
  have s2 := sq_le hb.1 hb.2
  have n1 := sq_nn a
  have n2 := sq_nn b
  have := rt_lt (n := a * a + b * b) (b := 200000) (by omega) (by decide) (by omega)
  exact ⟨rt_nn _, by show rt (a * a + b * b) ≤ 200000; omega⟩
theorem tR_e (a b : Int) : tR_ a b = rt ((-a, -b).1 * (-a, -b).1 + (-a, -b).2 * (-a, -b).2) := by
  show rt (a * a + b * b) = rt (-a * -a + -b * -b)
  rw [Int.neg_mul_neg, Int.neg_mul_neg]
section
variable {n : Nat}
theorem trn_c (hn : 100 ≤ n) {a b c d tol x y z : Int} (ha : far_ a) (hb : far_ b) (hab : a ≠ 0 ∨ b ≠ 0) (hc : 1 ≤ c * sdq c ∧ c * sdq c ≤ 4) : ∀ (r f i : Nat) (h : Hp), i + r = 3 → r < f → CV h (cL (c * sdq c) i) (lvV (tR_ a b) (tV a b c) i) → ∃ h', BX0_turn_56 n f d tol x y z (tR_ a b) (i : Int) h = some (d, x, y, z, h') ∧ FCh h h' ∧ (∀ i, h' 33 i = h 33 i) ∧ CV h' (cL (c * sdq c) (trL (tR_ a b) tol (tV a b c) r i)) (lvV (tR_ a b) (tV a b c) (trL (tR_ a b) tol (tV a b c) r i))
  | 0, f + 1, i, h, hi, hf, C => by
    rw [BX0_turn_56, if_pos (by omega)]
    exact ⟨h, rfl, FCh.rf, fun _ => rfl, C⟩
  | r + 1, f + 1, i, h, hi, hf, C => by
    have hp : (-a, -b).1 ≠ 0 ∨ (-a, -b).2 ≠ 0 := hab.elim (fun q => Or.inl (by show -a ≠ 0; omega)) (fun q => Or.inr (by show -b ≠ 0; omega))
    have cb := cL_b hc i
    have bd := lv_b (sdq_1 c) hp (tR_e a b) i (by omega)
    have nz := lv_nz (sdq_1 c) hp (tR_e a b) i (by omega)
    have eL : trL (tR_ a b) tol (tV a b c) (r + 1) i = if tR_ a b - fr (lvV (tR_ a b) (tV a b c) i 0) (lvV (tR_ a b) (tV a b c) i 1) / 2 ≤ tol then i else trL (tR_ a b) tol (tV a b c) r (i + 1) := rfl
    rw [BX0_turn_56, if_neg (by omega), isCoarse_c hn (cb.1 (by omega)).1 (tR_b ha hb) (fun k k0 _ => bd k k0) C, bndp_s, eL]
    by_cases h1 : tR_ a b - fr (lvV (tR_ a b) (tV a b c) i 0) (lvV (tR_ a b) (tV a b c) i 1) / 2 ≤ tol
    · rw [if_pos h1, if_pos rfl, if_pos h1]
      exact ⟨h, rfl, FCh.rf, fun _ => rfl, C⟩
    · obtain ⟨g, e, F, Z, C'⟩ := halve_c hn ⟨(cb.1 (by omega)).1, cb.2 (by omega)⟩ (tR_b ha hb) (fun k k0 _ => bd k k0) (fun k k0 _ => nz k k0) C
      obtain ⟨h', e', F', Z', C2⟩ := trn_c hn (d := d) (tol := tol) (x := x) (y := y) (z := z) ha hb hab hc r f (i + 1) g (by omega) (by omega) C'
      rw [if_neg h1, if_neg (by decide), if_neg h1, e, bndh_s, ltt_e, w32_i (x := (i : Int) + 1) (by omega), show (i : Int) + 1 = ((i + 1 : Nat) : Int) by omega]
      exact ⟨h', e', F.tr F', fun i => (Z' i).trans (Z i), C2⟩
theorem turn_l {R c d x y z : Int} {V : Int → P2} (hc : 1 ≤ c ∧ c ≤ 32) (hR : R ≤ 200000) (hx : -300000 ≤ x ∧ x ≤ 300000) (hy : -300000 ≤ y ∧ y ≤ 300000) (hz : far_ z) (hd : far_ d) (hb : ∀ k, 0 ≤ k → k ≤ c → bdP R (V k)) : ∀ (r f : Nat) (i : Int) (h : Hp), i + r = c + 1 → r < f → 0 ≤ i → h 30 3 = c → (∀ k, i ≤ k → k ≤ c → h 31 k = (V k).1 ∧ h 32 k = (V k).2) → (∀ k, 0 ≤ k → k < i → h 31 k = x + (V k).1 ∧ h 32 k = y + (V k).2 ∧ h 33 k = z + (d * k).tdiv c) → ∃ h', BX0_turn_88 n f d x y z i h = some h' ∧ FCh h h' ∧ h' 30 3 = c ∧ ∀ k, 0 ≤ k → k ≤ c → h' 31 k = x + (V k).1 ∧ h' 32 k = y + (V k).2 ∧ h' 33 k = z + (d * k).tdiv c
  | 0, f + 1, i, h, hi, hf, i0, e3, A, B => by
    rw [BX0_turn_88, e3, if_pos (by omega)]
    exact ⟨h, rfl, FCh.rf, e3, fun k k0 k1 => B k k0 (by omega)⟩
  | r + 1, f + 1, i, h, hi, hf, i0, e3, A, B => by
    have a := A i (Int.le_refl i) (by omega)
    have b := hb i i0 (by omega)
    have p := mp_b (a := d) (A := 100000) (b := i) (B := 32) (by omega) (by omega)
    have t := td_b (x := d * i) (y := c) (B := 3200000) (by omega) (by omega)
    rw [BX0_turn_88, e3, if_neg (by omega), if_neg (by omega), al284, grd_t (by omega), grd_t (by omega), a.1, Int.add_comm (V i).1 x, w32_i (x := x + (V i).1) (by omega), ltt_e, grd_t (by omega), grd_t (by omega), up_c (b := 32) (by decide), a.2, Int.add_comm (V i).2 y, w32_i (x := y + (V i).2) (by omega), ltt_e, up_c (b := 30) (by decide), up_c (b := 30) (by decide), e3, w64_i (x := d * i) (by omega), share_c (by omega) (by omega), bndp_s, w32_i (x := (d * i).tdiv c) (by omega), grd_t (by omega), w32_i (x := z + (d * i).tdiv c) (by omega), ltt_e, ltt_e, w32_i (x := i + 1) (by omega)]
    obtain ⟨h', e', F, c3, C⟩ := turn_l hc hR hx hy hz hd hb r f (i + 1) (up (up (up h 31 i (x + (V i).1)) 32 i (y + (V i).2)) 33 i (z + (d * i).tdiv c)) (by omega) (by omega) (by omega) ((up_c (by decide)).trans ((up_c (by decide)).trans ((up_c (by decide)).trans e3))) (fun k k0 k1 => by
      rw [up_c (by decide), up_c (by decide), up_i (by omega), up_c (by decide), up_i (by omega), up_c (by decide)]
      exact A k (by omega) k1) (fun k k0 k1 => by
      by_cases hk : k = i
      · rw [hk, up_c (by decide), up_c (by decide), up_s, up_c (by decide), up_s, up_s]
        exact ⟨rfl, rfl, rfl⟩
      · rw [up_c (by decide), up_c (by decide), up_i hk, up_c (by decide), up_i hk, up_c (by decide), up_i hk, up_c (by decide), up_c (by decide)]
        exact B k k0 (by omega))
    exact ⟨h', e', (((FCh.rf.put (by decide)).put (by decide)).put (by decide)).tr F, c3, C⟩
theorem turn_c (hn : 100 ≤ n) {a b c d tol x y z : Int} (ha : far_ a) (hb : far_ b) (hd : far_ d) (hx : far_ x) (hy : far_ y) (hz : far_ z) (hab : a ≠ 0 ∨ b ≠ 0) (hc : 1 ≤ c * sdq c ∧ c * sdq c ≤ 4) {h : Hp} (e1 : h 31 0 = x) (e2 : h 32 0 = y) (e3 : h 33 0 = z) : ∃ h', MX0_turn n a b c d tol h = some h' ∧ FCh h h' ∧ h' 30 3 = mvN tol 5 a b c ∧ ∀ k, 0 ≤ k → k ≤ mvN tol 5 a b c → h' 31 k = mvX tol 5 a b c x k ∧ h' 32 k = mvY tol 5 a b c y k ∧ h' 33 k = mvZ tol 5 a b c d z k := by
  have s1 := sq_le ha.1 ha.2
  have s2 := sq_le hb.1 hb.2
  have n1 := sq_nn a
  have n2 := sq_nn b
  have tb' := tR_b ha hb
  have hp : (-a, -b).1 ≠ 0 ∨ (-a, -b).2 ≠ 0 := hab.elim (fun q => Or.inl (by show -a ≠ 0; omega)) (fun q => Or.inr (by show -b ≠ 0; omega))
  have bd0 := lv_b (sdq_1 c) hp (tR_e a b) 0 (by decide)
  have lb' := trL_b (R := tR_ a b) (tol := tol) (V := tV a b c) 3 0
  have bdL := lv_b (sdq_1 c) hp (tR_e a b) (tL tol a b c) (by omega)
  have cb := (cL_b hc (tL tol a b c)).1 (by omega)
  have eN : mvN tol 5 a b c = cL (c * sdq c) (tL tol a b c) := if_pos rfl
  have eX : ∀ k, mvX tol 5 a b c x k = x + a + (lvV (tR_ a b) (tV a b c) (tL tol a b c) k).1 := fun k => if_pos rfl
  have eY : ∀ k, mvY tol 5 a b c y k = y + b + (lvV (tR_ a b) (tV a b c) (tL tol a b c) k).2 := fun k => if_pos rfl
  have eZ : ∀ k, mvZ tol 5 a b c d z k = z + (d * k).tdiv (cL (c * sdq c) (tL tol a b c)) := fun k => (if_pos rfl).trans (by rw [eN])
  -- the quarters
  have sp : ∃ h', MX0_spin n (-a) (-b) c h = some h' ∧ FCh h h' ∧ (∀ i, h' 33 i = h 33 i) ∧ CV h' (cL (c * sdq c) 0) (lvV (tR_ a b) (tV a b c) 0) := by
    have J : JX0_spin_9 n (-a) (-b) c (sdq c) h = BX0_spin_40 n n (sdq c) 1 (up (up (up h 30 3 (c * sdq c)) 31 0 (-a)) 32 0 (-b)) := by
      unfold JX0_spin_9 LX0_spin_40
      rw [ltt_e, w32_i (x := c * sdq c) (by omega), Int.min_eq_left (by omega), ltt_e, al284, grd_t (by decide), ltt_e, grd_t (by decide), ltt_e, ltt_e]
    have e : MX0_spin n (-a) (-b) c h = JX0_spin_9 n (-a) (-b) c (sdq c) h := by
      unfold MX0_spin sdq
      by_cases h0 : 0 ≤ c
      · rw [if_pos h0, if_pos h0]
      · rw [if_neg h0, if_neg h0]
    rw [e, J]
    obtain ⟨h', e', F, Z, C⟩ := spin_l (n := n) (sdq_1 c) (p := (-a, -b)) (R := tR_ a b) hc.2 tb'.2 (fun k k0 => bd0 k k0) (c * sdq c).toNat n 1 (up (up (up h 30 3 (c * sdq c)) 31 0 (-a)) 32 0 (-b)) (by omega) (by omega) (by decide) ((up_c (by decide)).trans ((up_c (by decide)).trans up_s)) (fun j j0 j1 => by
      have ej : j = 0 := by omega
      subst ej
      rw [up_c (by decide), up_s, up_s]
      exact ⟨rfl, rfl⟩)
    exact ⟨h', e', (((FCh.rf.pf).put (by decide)).put (by decide)).tr F, fun i => (Z i).trans ((up_c (by decide)).trans ((up_c (by decide)).trans (up_c (by decide)))), C⟩
  obtain ⟨h1, q1, F1, Z1, C1⟩ := sp
  obtain ⟨h2, q2, F2, Z2, C2⟩ := trn_c (n := n) hn (d := d) (tol := tol) (x := x + a) (y := y + b) (z := z) ha hb hab hc 3 n 0 h1 (by decide) (by omega) C1
  obtain ⟨h3, q3, F3, c3, A3⟩ := turn_l (n := n) (d := d) (x := x + a) (y := y + b) (z := z) cb tb'.2 (by omega) (by omega) hz hd (fun k k0 _ => bdL k k0) (cL (c * sdq c) (tL tol a b c) + 1).toNat n 0 h2 (by omega) (by omega) (by decide) C2.1 (fun k k0 k1 => C2.2 k k0 k1) (fun k k0 k1 => by omega)
  refine ⟨h3, ?_, (F1.tr F2).tr F3, by rw [eN]; exact c3, fun k k0 k1 => ?_⟩
  · unfold MX0_turn
    rw [al284, grd_t (by decide), e1, w32_i (x := x + a) (by omega), ltt_e, grd_t (by decide), e2, w32_i (x := y + b) (by omega), ltt_e, grd_t (by decide), e3, ltt_e, square_c, bndp_s, square_c, bndp_s, w64_i (x := a * a) (by omega), w64_i (x := b * b) (by omega), w64_i (x := a * a + b * b) (by omega), root_c (by omega) (by omega) (by omega), bndp_s, ltt_e, w32_i (x := -a) (by omega), w32_i (x := -b) (by omega), q1, bndh_s, ltt_e]
    unfold LX0_turn_56
    have q2' : BX0_turn_56 n n d tol (x + a) (y + b) z (tR_ a b) 0 h1 = some (d, x + a, y + b, z, h2) := q2
    rw [q2', bndx_s]
    show JX0_turn_85 n d (x + a) (y + b) z h2 = _
    unfold JX0_turn_85 LX0_turn_88
    rw [ltt_e]
    exact q3
  · rw [eN] at k1
    rw [eX, eY, eZ]
    exact A3 k k0 k1
theorem last_c {h : Hp} {w a N : Int} (a0 : 0 ≤ a) (a1 : a < 3) (eN : h w 11 = N) (N0 : 0 ≤ N) (N1 : N ≤ 64) : MX10_last w a h = some (h (w + 2 + 1 + a) N) := by
  unfold MX10_last
  rw [isAxis_c, bndp_s, if_pos (show 0 ≤ a ∧ a < 3 from ⟨a0, a1⟩), if_neg (by decide), al50, grd_t (by omega), eN, al540, grd_t (by omega)]
/-- the points of the move in a row -/
theorem lay_c (hn : 100 ≤ n) {h : Hp} {w row N k a b c d f tol x y z : Int} (hw : w = 1 ∨ w = 14) (hr : 0 ≤ row ∧ row ≤ 240) (eN : h w 11 = N) (hN : 0 ≤ N ∧ N ≤ 64) (et : h w 10 = tol) (ex : h (w + 2 + 1 + 0) N = x) (ey : h (w + 2 + 1 + 1) N = y) (ez : h (w + 2 + 1 + 2) N = z) (hx : far_ x) (hy : far_ y) (hz : far_ z) (ek : h 34 row = k) (ea : h 34 (row + 1) = a) (eb : h 34 (row + 2) = b) (ec : h 34 (row + 3) = c) (ed : h 34 (row + 4) = d) (V : VR k a b c d f) : ∃ h', MX0_lay n w row h = some h' ∧ FCh h h' ∧ h' 30 3 = mvN tol k a b c ∧ ∀ i, 0 ≤ i → i ≤ mvN tol k a b c → h' 31 i = mvX tol k a b c x i ∧ h' 32 i = mvY tol k a b c y i ∧ h' 33 i = mvZ tol k a b c d z i := by
  obtain ⟨⟨va, vb, vd⟩, vk, vf⟩ := V
  have F3 : FCh h (up (up (up h 31 0 x) 32 0 y) 33 0 z) := ((FCh.rf.put (by decide)).put (by decide)).put (by decide)
  have c1 : up (up (up h 31 0 x) 32 0 y) 33 0 z 31 0 = x := by rw [up_c (by decide), up_c (by decide), up_s]
  have c2 : up (up (up h 31 0 x) 32 0 y) 33 0 z 32 0 = y := by rw [up_c (by decide), up_s]
  have c3 : up (up (up h 31 0 x) 32 0 y) 33 0 z 33 0 = z := up_s
  have e34 : up (up (up h 31 0 x) 32 0 y) 33 0 z 34 = h 34 := F3.1 34 (by decide)
  have ew : up (up (up h 31 0 x) 32 0 y) 33 0 z w = h w := F3.1 w (by omega)
  unfold MX0_lay
  rw [if_neg (by omega), al1988, w32_i (x := row + 4) (by omega), if_pos (by omega), al284, last_c (by decide) (by decide) eN hN.1 hN.2, bndp_s, grd_t (by decide), ltt_e, ex, last_c (a := 1) (N := N) (by decide) (by decide) (by rw [up_row (by omega)]; exact eN) hN.1 hN.2, bndp_s, up_row (b := w + 2 + 1 + 1) (by omega), ey, grd_t (by decide), ltt_e, last_c (a := 2) (N := N) (by decide) (by decide) (by rw [up_row (by omega), up_row (by omega)]; exact eN) hN.1 hN.2, bndp_s, up_row (b := w + 2 + 1 + 2) (by omega), up_row (b := w + 2 + 1 + 2) (by omega), ez, grd_t (by decide), ltt_e, grd_t (by omega), e34, ek]
  generalize up (up (up h 31 0 x) 32 0 y) 33 0 z = g at *
  by_cases k5 : k = 5
  · subst k5
    have vc : (a ≠ 0 ∨ b ≠ 0) ∧ (1 ≤ c * sdq c ∧ c * sdq c ≤ 4) := by
      rcases vk with q | q
      · exact q.2
      · omega
    obtain ⟨h', e', F, A1, A2⟩ := turn_c hn va vb vd hx hy hz vc.1 vc.2 (tol := tol) c1 c2 c3
    rw [if_neg (fun q => q rfl), w32_i (x := row + 1) (by omega), w32_i (x := row + 2) (by omega), w32_i (x := row + 3) (by omega), grd_t (by omega), grd_t (by omega), grd_t (by omega), grd_t (by omega), ea, eb, ec, ed, ew, et, e', bndh_s]
    exact ⟨h', rfl, F3.tr F, A1, A2⟩
  · have vc : (k = 3 ∨ k = 4) ∧ far_ c := by
      rcases vk with q | q
      · exact absurd q.1 k5
      · exact q
    have m1 : mvN tol k a b c = 1 := if_neg k5
    have mx : ∀ i, mvX tol k a b c x i = if i = 0 then x else if k = 4 then a + x else a := fun i => if_neg k5
    have my : ∀ i, mvY tol k a b c y i = if i = 0 then y else if k = 4 then b + y else b := fun i => if_neg k5
    have mz : ∀ i, mvZ tol k a b c d z i = if i = 0 then z else if k = 4 then c + z else c := fun i => if_neg k5
    have fin : ∀ s : Int, (s = 0 ∧ k = 3 ∨ s = 1 ∧ k = 4) → ∃ h', JX0_lay_96 n row s g = some h' ∧ FCh h h' ∧ h' 30 3 = mvN tol k a b c ∧ ∀ i, 0 ≤ i → i ≤ mvN tol k a b c → h' 31 i = mvX tol k a b c x i ∧ h' 32 i = mvY tol k a b c y i ∧ h' 33 i = mvZ tol k a b c d z i := fun s hs => by
      have F4 : ∀ p q r : Int, FCh h (up (up (up (up g 30 3 1) 31 1 p) 32 1 q) 33 1 r) := fun p q r => ((F3.pf.put (by decide)).put (by decide)).put (by decide)
      have val : ∀ p q r : Int, ∀ i, 0 ≤ i → i ≤ 1 → up (up (up (up g 30 3 1) 31 1 p) 32 1 q) 33 1 r 31 i = (if i = 0 then x else p) ∧ up (up (up (up g 30 3 1) 31 1 p) 32 1 q) 33 1 r 32 i = (if i = 0 then y else q) ∧ up (up (up (up g 30 3 1) 31 1 p) 32 1 q) 33 1 r 33 i = (if i = 0 then z else r) := fun p q r i i0 i1 => by
        by_cases hi : i = 0
        · subst hi
          rw [if_pos rfl, if_pos rfl, if_pos rfl, up_c (by decide), up_c (by decide), up_i (by decide), up_c (by decide), c1, up_c (by decide), up_i (by decide), up_c (by decide), up_c (by decide), c2, up_i (by decide), up_c (by decide), up_c (by decide), up_c (by decide), c3]
          exact ⟨rfl, rfl, rfl⟩
        · have : i = 1 := by omega
          subst this
          rw [if_neg (by decide), if_neg (by decide), if_neg (by decide), up_c (by decide), up_c (by decide), up_s, up_c (by decide), up_s, up_s]
          exact ⟨rfl, rfl, rfl⟩
      have n3 : ∀ p q r : Int, up (up (up (up g 30 3 1) 31 1 p) 32 1 q) 33 1 r 30 3 = 1 := fun p q r => by rw [up_c (by decide), up_c (by decide), up_c (by decide), up_s]
      unfold JX0_lay_96 JX0_lay_128 JX0_lay_155
      rcases hs with ⟨s0, k3⟩ | ⟨s1, k4⟩
      · subst s0
        subst k3
        rw [ltt_e, ltt_e, w32_i (x := row + 1) (by omega), w32_i (x := row + 2) (by omega), w32_i (x := row + 3) (by omega), al1988, al284, grd_t (by omega), if_pos rfl, grd_t (by decide), ltt_e, grd_t (by omega), if_pos rfl, grd_t (by decide), ltt_e, grd_t (by omega), if_pos rfl, grd_t (by decide), ltt_e]
        simp only [up_row (b := 34) (show (34 : Int) ≠ 30 by decide), up_row (b := 34) (show (34 : Int) ≠ 31 by decide), up_row (b := 34) (show (34 : Int) ≠ 32 by decide), e34, ea, eb, ec]
        rw [Int.add_zero, Int.add_zero, Int.add_zero, w32_i (x := a) (by omega), w32_i (x := b) (by omega), w32_i (x := c) (by omega)]
        refine ⟨_, rfl, F4 _ _ _, by rw [m1]; exact n3 _ _ _, fun i i0 i1 => ?_⟩
        rw [m1] at i1
        rw [mx, my, mz, if_neg (show ¬ (3 : Int) = 4 by decide), if_neg (show ¬ (3 : Int) = 4 by decide), if_neg (show ¬ (3 : Int) = 4 by decide)]
        exact val a b c i i0 i1
      · subst s1
        subst k4
        rw [ltt_e, ltt_e, w32_i (x := row + 1) (by omega), w32_i (x := row + 2) (by omega), w32_i (x := row + 3) (by omega), al1988, al284, grd_t (by omega), if_neg (by decide), grd_t (by decide), grd_t (by decide), ltt_e, grd_t (by omega), if_neg (by decide), grd_t (by decide), grd_t (by decide), ltt_e, grd_t (by omega), if_neg (by decide), grd_t (by decide), grd_t (by decide), ltt_e]
        simp only [up_row (b := 34) (show (34 : Int) ≠ 30 by decide), up_row (b := 34) (show (34 : Int) ≠ 31 by decide), up_row (b := 34) (show (34 : Int) ≠ 32 by decide), e34, ea, eb, ec]
        rw [up_c (b := 31) (j := 0) (by decide), c1, up_c (b := 32) (j := 0) (by decide), up_c (b := 32) (j := 0) (by decide), c2, up_c (b := 33) (j := 0) (by decide), up_c (b := 33) (j := 0) (by decide), up_c (b := 33) (j := 0) (by decide), c3, w32_i (x := a + x) (by omega), w32_i (x := b + y) (by omega), w32_i (x := c + z) (by omega)]
        refine ⟨_, rfl, F4 _ _ _, by rw [m1]; exact n3 _ _ _, fun i i0 i1 => ?_⟩
        rw [m1] at i1
        rw [mx, my, mz, if_pos rfl, if_pos rfl, if_pos rfl]
        exact val (a + x) (b + y) (c + z) i i0 i1
    rw [if_pos k5, grd_t (by omega)]
    rcases vc.1 with k3 | k4
    · rw [if_pos (by omega)]
      exact fin 0 (Or.inl ⟨rfl, k3⟩)
    · rw [if_neg (fun q => q k4)]
      exact fin 1 (Or.inr ⟨rfl, k4⟩)
end
