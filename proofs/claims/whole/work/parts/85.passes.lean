/-! THE FASTEST PASSING. -/
def pP (m : Hp) (tol j x : Int) : Int := if 1 ≤ x ∧ x < nB m then paceS m tol j (x - 1) * j else 0
def ovr (m : Hp) (b v : Int) : Int := rt (v * v + 2 * lb m b 3 * ln m b)
/-- from the end back: r places, x the one now -/
def pB (m : Hp) : Nat → Int → (Int → Int) → (Int → Int)
  | 0, _, P => P
  | r + 1, x, P => pB m r (x - 1) (updI P x (min (P x) (ovr m x (P (x + 1)))))
def pF (m : Hp) : Nat → Int → (Int → Int) → (Int → Int)
  | 0, _, P => P
  | r + 1, x, P => pF m r (x + 1) (updI P (x + 1) (min (P (x + 1)) (ovr m x (P x))))
def passS (m : Hp) (tol j : Int) : Int → Int := pF m (nB m).toNat 0 (pB m (nB m - 1).toNat (nB m - 1) (pP m tol j))
def PBd (m : Hp) (P : Int → Int) : Prop := ∀ x, 0 ≤ x → x ≤ nB m → 0 ≤ P x ∧ P x ≤ 5000
section
variable {n : Nat} {m : Hp}
theorem ovr_b (H : WFp m) {b v : Int} (b0 : 0 ≤ b) (b1 : b < nB m) (hv : 0 ≤ v ∧ v ≤ 5000) : (0 ≤ v * v ∧ v * v ≤ 25000000) ∧ (0 ≤ 2 * lb m b 3 * ln m b ∧ 2 * lb m b 3 * ln m b ≤ 692820000) ∧ 0 ≤ ovr m b v := by
  have hl := lb_ok H (k := 3) (Or.inr rfl) b0 b1
  have l3 := hl.2.2 rfl
  have hL := (wf_blk H b0 b1).1
  have s1 := sq_nn v
  have s2 := sq_le (g := v) (B := 5000) (by omega) hv.2
  have q0 : 0 ≤ 2 * lb m b 3 * ln m b := Int.mul_nonneg (by omega) (by omega)
  have q1 : 2 * lb m b 3 * ln m b ≤ 2000 * 346410 := Int.mul_le_mul (by omega) hL.2 (by omega) (by decide)
  exact ⟨by omega, by omega, rt_nn _⟩
theorem PB_u (H : WFp m) {P : Int → Int} (B : PBd m P) {x b v : Int} (b0 : 0 ≤ b) (b1 : b < nB m) (hv : 0 ≤ v ∧ v ≤ 5000) (x0 : 0 ≤ x) (x1 : x ≤ nB m) : PBd m (updI P x (min (P x) (ovr m b v))) := fun y y0 y1 => by
  have o := (ovr_b H b0 b1 hv).2.2
  have b := B x x0 x1
  by_cases h : y = x
  · rw [h, updI_s]
    omega
  · rw [updI_o h]
    exact B y y0 y1
/-- row c holds P -/
def RwP (m h : Hp) (c : Int) (P : Int → Int) : Prop := ∀ x, 0 ≤ x → x ≤ nB m → h c x = P x
theorem RwP.u {h : Hp} {c : Int} {P : Int → Int} (A : RwP m h c P) {x v : Int} : RwP m (up h c x v) c (updI P x v) := fun y y0 y1 => by
  by_cases hy : y = x
  · rw [hy, up_s, updI_s]
  · rw [up_i hy, updI_o hy]
    exact A y y0 y1
theorem over_c (hn : 100 ≤ n) {h : Hp} (H : WFp m) {w L : Int} (R : RW m h w) (hL : h L 0 = w) {b v : Int} (b0 : 0 ≤ b) (b1 : b < nB m) (hv : 0 ≤ v ∧ v ≤ 5000) : MX4_speedOver n L b v h = some (ovr m b v) := by
  have hB := H.1
  have o := ovr_b H b0 b1 hv
  have hl := lb_ok H (k := 3) (Or.inr rfl) b0 b1
  have r := R.2.2.2.1 b b0 b1
  unfold MX4_speedOver
  rw [square_c, bndp_s, al532, grd_t (by omega), grd_t (by omega), hL, r.2.2.2.2.1, r.1, w64_i (x := v * v) (by omega), w64_i (x := 2 * lb m b 3) (by omega), w64_i (x := 2 * lb m b 3 * ln m b) (by omega), w64_i (x := v * v + 2 * lb m b 3 * ln m b) (by omega), root_c (by omega) (by omega) (by omega), bndp_s]
  rfl
theorem pi_1 {g : Hp} (H : WFp m) {w L tol j : Int} (hwL : w + 12 < L) (R : RW m g w) (hL : g L 0 = w) (hJ : g L 1 = j) (hj : 1 ≤ j ∧ j ≤ 50) (Q : ∀ i : Int, 0 ≤ i → i + 1 < nB m → g (L + 3) i = paceS m tol j i) {y : Int} : ∀ (r f : Nat) (x : Int) (h : Hp), x + r = max 1 (nB m) → r < f → 1 ≤ x → KR (L + 4) g h → (∀ z, 0 ≤ z → z ≤ nB m → (z < x ∨ z = nB m) → h (L + 4) z = pP m tol j z) → ∃ h', BX4_passInto_24 n f L y (nB m) x h = some (L, y, nB m, h') ∧ KR (L + 4) g h' ∧ RwP m h' (L + 4) (pP m tol j)
  | r, f + 1, x, h, hx, hf, x1, K, A => by
    have hB := H.1
    rw [BX4_passInto_24]
    by_cases hd : nB m ≤ x
    · rw [if_pos hd]
      exact ⟨h, rfl, K, fun z z0 z1 => A z z0 z1 (by omega)⟩
    · obtain ⟨r, rfl⟩ : ∃ r', r = r' + 1 := ⟨r - 1, by omega⟩
      have e1 : h (L + 3) (x - 1) = paceS m tol j (x - 1) := by
        rw [K (L + 3) (by omega)]
        exact Q (x - 1) (by omega) (by omega)
      have e2 : h L 1 = j := by
        rw [K L (by omega)]
        exact hJ
      have hc : 1 ≤ paceS m tol j (x - 1) ∧ paceS m tol j (x - 1) ≤ 100 := by
        unfold paceS clm
        split <;> omega
      have m1 : 0 ≤ paceS m tol j (x - 1) * j := Int.mul_nonneg (by omega) (by omega)
      have m2 : paceS m tol j (x - 1) * j ≤ 100 * 50 := Int.mul_le_mul hc.2 hj.2 (by omega) (by decide)
      rw [if_neg hd, al532, al540, w32_i (x := x - 1) (by omega), w32_i (x := x + 1) (by omega), grd_t (by omega), grd_t (by omega), ltt_e, ltt_e, e1, e2, w32_i (x := paceS m tol j (x - 1) * j) (by omega)]
      refine pi_1 H hwL R hL hJ hj Q r f (x + 1) _ (by omega) (by omega) (by omega) K.put (fun z z0 z1 zz => ?_)
      by_cases hz' : z = x
      · rw [hz', up_s]
        unfold pP
        rw [if_pos ⟨x1, by omega⟩]
      · rw [up_i hz']
        exact A z z0 z1 (by omega)
theorem pi_2 (hn : 100 ≤ n) {g : Hp} (H : WFp m) {w L : Int} (hwL : w + 12 < L) (R : RW m g w) (hL : g L 0 = w) {y : Int} : ∀ (r f : Nat) (x : Int) (h : Hp) (P : Int → Int), x = r → r < f → x < max 1 (nB m) → KR (L + 4) g h → RwP m h (L + 4) P → PBd m P → ∃ h', BX4_passInto_58 n f L y (nB m) x h = some (L, y, nB m, h') ∧ KR (L + 4) g h' ∧ RwP m h' (L + 4) (pB m r x P) ∧ PBd m (pB m r x P)
  | 0, f + 1, x, h, P, hx, hf, x1, K, A, B => by
    rw [BX4_passInto_58, if_pos (by omega)]
    exact ⟨h, rfl, K, A, B⟩
  | r + 1, f + 1, x, h, P, hx, hf, x1, K, A, B => by
    have hB := H.1
    have R' : RW m h w := R.mv (fun c c1 c2 => K c (by omega))
    have hL' : h L 0 = w := by rw [K L (by omega)]; exact hL
    have bx := B (x + 1) (by omega) (by omega)
    rw [BX4_passInto_58, if_neg (by omega), al540, w32_i (x := x + 1) (by omega), w32_i (x := x + -1) (by omega), grd_t (by omega), grd_t (by omega), A (x + 1) (by omega) (by omega), over_c hn H R' hL' (by omega) (by omega) bx, bndp_s, grd_t (by omega), ltt_e, ltt_e, A x (by omega) (by omega)]
    exact pi_2 hn H hwL R hL r f (x - 1) _ _ (by omega) (by omega) (by omega) K.put A.u (PB_u H B (by omega) (by omega) bx (by omega) (by omega))
theorem pi_3 (hn : 100 ≤ n) {g : Hp} (H : WFp m) {w L : Int} (hwL : w + 12 < L) (R : RW m g w) (hL : g L 0 = w) {y : Int} : ∀ (r f : Nat) (x : Int) (h : Hp) (P : Int → Int), x + r = nB m → r < f → 0 ≤ x → KR (L + 4) g h → RwP m h (L + 4) P → PBd m P → ∃ h', BX4_passInto_98 n f L y (nB m) x h = some (L, y, h') ∧ KR (L + 4) g h' ∧ RwP m h' (L + 4) (pF m r x P) ∧ PBd m (pF m r x P)
  | 0, f + 1, x, h, P, hx, hf, x1, K, A, B => by
    rw [BX4_passInto_98, if_pos (by omega)]
    exact ⟨h, rfl, K, A, B⟩
  | r + 1, f + 1, x, h, P, hx, hf, x1, K, A, B => by
    have hB := H.1
    have R' : RW m h w := R.mv (fun c c1 c2 => K c (by omega))
    have hL' : h L 0 = w := by rw [K L (by omega)]; exact hL
    have bx := B x (by omega) (by omega)
    rw [BX4_passInto_98, if_neg (by omega), al540, w32_i (x := x + 1) (by omega), grd_t (by omega), grd_t (by omega), A x (by omega) (by omega), over_c hn H R' hL' (by omega) (by omega) bx, bndp_s, grd_t (by omega), ltt_e, ltt_e, A (x + 1) (by omega) (by omega)]
    exact pi_3 hn H hwL R hL r f (x + 1) _ _ (by omega) (by omega) (by omega) K.put A.u (PB_u H B (by omega) (by omega) bx (by omega) (by omega))
end
