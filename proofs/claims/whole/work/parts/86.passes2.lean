/-! THE FASTEST PASSING: the answers. -/
section
variable {n : Nat} {m : Hp}
theorem pP_b (H : WFp m) {tol j : Int} (hj : 1 ≤ j ∧ j ≤ 50) : PBd m (pP m tol j) := fun x x0 x1 => by
  unfold pP
  by_cases h : 1 ≤ x ∧ x < nB m
  · rw [if_pos h]
    have hc : 1 ≤ paceS m tol j (x - 1) ∧ paceS m tol j (x - 1) ≤ 100 := by
      unfold paceS clm
      split <;> omega
    have m1 : 0 ≤ paceS m tol j (x - 1) * j := Int.mul_nonneg (by omega) (by omega)
    have m2 : paceS m tol j (x - 1) * j ≤ 100 * 50 := Int.mul_le_mul hc.2 hj.2 (by omega) (by decide)
    omega
  · rw [if_neg h]
    omega
theorem passInto_c (hn : 200 ≤ n) {g : Hp} (H : WFp m) {w L tol j : Int} (hwL : w + 12 < L) (R : RW m g w) (hL : g L 0 = w) (hJ : g L 1 = j) (hj : 1 ≤ j ∧ j ≤ 50) (Q : ∀ i : Int, 0 ≤ i → i + 1 < nB m → g (L + 3) i = paceS m tol j i) {b : Int} (b0 : 0 ≤ b) (b1 : b < nB m) : ∃ h', MX4_passInto n L b g = some (passS m tol j b, h') ∧ KR (L + 4) g h' := by
  have hB := H.1
  have K0 : KR (L + 4) g (up (up g (L + 4) 0 0) (L + 4) (nB m) 0) := KR.rf.put.put
  obtain ⟨h1, e1, K1, A1⟩ := pi_1 (n := n) H hwL R hL hJ hj Q (y := b) (nB m - 1).toNat n 1 (up (up g (L + 4) 0 0) (L + 4) (nB m) 0) (by omega) (by omega) (by decide) K0 (fun z z0 z1 zz => by
    have ez : pP m tol j z = 0 := if_neg (by omega)
    rw [ez]
    by_cases hz' : z = nB m
    · rw [hz', up_s]
    · rw [up_i hz']
      have : z = 0 := by omega
      rw [this, up_s])
  obtain ⟨h2, e2, K2, A2, B2⟩ := pi_2 (n := n) (by omega) H hwL R hL (y := b) (nB m - 1).toNat n (nB m - 1) h1 _ (by omega) (by omega) (by omega) K1 A1 (pP_b H hj)
  obtain ⟨h3, e3, K3, A3, B3⟩ := pi_3 (n := n) (by omega) H hwL R hL (y := b) (nB m).toNat n 0 h2 _ (by omega) (by omega) (by decide) K2 A2 B2
  refine ⟨h3, ?_, K3⟩
  unfold MX4_passInto LX4_passInto_24
  rw [hL, R.1.2.2.1, ltt_e, al540, grd_t (by decide), ltt_e, grd_t (by omega), ltt_e, ltt_e, e1, bndx_s]
  show JX4_passInto_54 n L b (nB m) h1 = _
  unfold JX4_passInto_54 LX4_passInto_58
  rw [ltt_e, w32_i (x := nB m - 1) (by omega), e2, bndx_s]
  show JX4_passInto_96 n L b (nB m) h2 = _
  unfold JX4_passInto_96 LX4_passInto_98
  rw [ltt_e, e3, bndx_s]
  show JX4_passInto_139 n L b h3 = _
  unfold JX4_passInto_139
  have R3 : RW m h3 w := R.mv (fun c c1 c2 => K3 c (by omega))
  have hL3 : h3 L 0 = w := by rw [K3 L (by omega)]; exact hL
  rw [hL3, has_c R3, bndp_s, if_pos (show 0 ≤ b ∧ b < nB m from ⟨b0, b1⟩), if_neg (by decide), al540, grd_t (by omega), A3 b b0 (by omega)]
  rfl
theorem over_m (hn : 100 ≤ n) {h : Hp} (H : WFp m) {b v : Int} (b0 : 0 ≤ b) (b1 : b < nB m) (hv : 0 ≤ v ∧ v ≤ 5000) (e3 : h 133 b = lb m b 3) (eL : h 125 b = ln m b) : MX12_root n (w64 (w64 (v * v) + w64 (w64 (2 * h 133 b) * h 125 b))) = some (ovr m b v) := by
  have o := ovr_b H b0 b1 hv
  have hl := lb_ok H (k := 3) (Or.inr rfl) b0 b1
  rw [e3, eL, w64_i (x := v * v) (by omega), w64_i (x := 2 * lb m b 3) (by omega), w64_i (x := 2 * lb m b 3 * ln m b) (by omega), w64_i (x := v * v + 2 * lb m b 3 * ln m b) (by omega), root_m (by omega) (by omega) (by omega)]
  rfl
/-- what the model's passes read -/
def PR (m g : Hp) (tol j : Int) : Prop := g 113 6 = nB m ∧ g 113 40 = j ∧ (∀ i : Int, 0 ≤ i → i < nB m → g 133 i = lb m i 3 ∧ g 125 i = ln m i) ∧ ∀ i : Int, 0 ≤ i → i + 1 < nB m → g 137 i = paceS m tol j i
theorem pm_1 {g : Hp} (H : WFp m) {tol j : Int} (hj : 1 ≤ j ∧ j ≤ 50) (Q : PR m g tol j) {y : Int} : ∀ (r f : Nat) (x : Int) (h : Hp), x + r = max 1 (nB m) → r < f → 1 ≤ x → KR 139 g h → (∀ z, 0 ≤ z → z ≤ nB m → (z < x ∨ z = nB m) → h 139 z = pP m tol j z) → ∃ h', BX12_passes_19 n f y x h = some (y, h') ∧ KR 139 g h' ∧ RwP m h' 139 (pP m tol j)
  | r, f + 1, x, h, hx, hf, x1, K, A => by
    have hB := H.1
    rw [BX12_passes_19, K 113 (by decide), Q.1]
    by_cases hd : nB m ≤ x
    · rw [if_pos hd]
      exact ⟨h, rfl, K, fun z z0 z1 => A z z0 z1 (by omega)⟩
    · obtain ⟨r, rfl⟩ : ∃ r', r = r' + 1 := ⟨r - 1, by omega⟩
      have e1 : h 137 (x - 1) = paceS m tol j (x - 1) := by
        rw [K 137 (by decide)]
        exact Q.2.2.2 (x - 1) (by omega) (by omega)
      have hc : 1 ≤ paceS m tol j (x - 1) ∧ paceS m tol j (x - 1) ≤ 100 := by
        unfold paceS clm
        split <;> omega
      have m1 : 0 ≤ paceS m tol j (x - 1) * j := Int.mul_nonneg (by omega) (by omega)
      have m2 : paceS m tol j (x - 1) * j ≤ 100 * 50 := Int.mul_le_mul hc.2 hj.2 (by omega) (by decide)
      rw [if_neg hd, al532, al540, w32_i (x := x - 1) (by omega), w32_i (x := x + 1) (by omega), grd_t (by omega), grd_t (by omega), ltt_e, ltt_e, e1, Q.2.1, w32_i (x := paceS m tol j (x - 1) * j) (by omega)]
      refine pm_1 H hj Q r f (x + 1) _ (by omega) (by omega) (by omega) K.put (fun z z0 z1 zz => ?_)
      by_cases hz' : z = x
      · rw [hz', up_s]
        unfold pP
        rw [if_pos ⟨x1, by omega⟩]
      · rw [up_i hz']
        exact A z z0 z1 (by omega)
theorem pm_2 (hn : 100 ≤ n) {g : Hp} (H : WFp m) (hN : 0 < nB m) {tol j : Int} (Q : PR m g tol j) {y : Int} : ∀ (r f : Nat) (x : Int) (h : Hp) (P : Int → Int), x = r → r + 1 < f → x < nB m → KR 139 g h → RwP m h 139 P → PBd m P → P 0 = 0 → ∃ h', BX12_passes_59 n f y x h = some (y, h') ∧ KR 139 g h' ∧ RwP m h' 139 (pB m r x P) ∧ PBd m (pB m r x P)
  | 0, f + 2, x, h, P, hx, hf, x1, K, A, B, Z => by
    have hx0 : x = 0 := by omega
    subst hx0
    have hB := H.1
    have q := Q.2.2.1 0 (by decide) hN
    have e3 : h 133 0 = lb m 0 3 := by rw [K 133 (by decide)]; exact q.1
    have eL : h 125 0 = ln m 0 := by rw [K 125 (by decide)]; exact q.2
    have bx := B (0 + 1) (by decide) (by omega)
    have o := (ovr_b H (b := 0) (by decide) hN bx).2.2
    rw [BX12_passes_59, if_neg (by decide), al540, al532, w32_i (x := 0 + 1) (by decide), w32_i (x := 0 + -1) (by decide), grd_t (by decide), grd_t (by decide), A (0 + 1) (by decide) (by omega), square_m, bndp_s, grd_t (by decide), grd_t (by decide), over_m hn H (by decide) hN bx e3 eL, bndp_s, grd_t (by decide), ltt_e, ltt_e, A 0 (by decide) (by omega), BX12_passes_59, if_pos (by decide)]
    refine ⟨_, rfl, K.put, fun z z0 z1 => ?_, B⟩
    show _ = P z
    by_cases hz' : z = 0
    · rw [hz', up_s, Z, Int.min_eq_left o]
    · rw [up_i hz']
      exact A z z0 z1
  | r + 1, f + 1, x, h, P, hx, hf, x1, K, A, B, Z => by
    have hB := H.1
    have q := Q.2.2.1 x (by omega) x1
    have e3 : h 133 x = lb m x 3 := by rw [K 133 (by decide)]; exact q.1
    have eL : h 125 x = ln m x := by rw [K 125 (by decide)]; exact q.2
    have bx := B (x + 1) (by omega) (by omega)
    rw [BX12_passes_59, if_neg (by omega), al540, al532, w32_i (x := x + 1) (by omega), w32_i (x := x + -1) (by omega), grd_t (by omega), grd_t (by omega), A (x + 1) (by omega) (by omega), square_m, bndp_s, grd_t (by omega), grd_t (by omega), over_m hn H (by omega) x1 bx e3 eL, bndp_s, grd_t (by omega), ltt_e, ltt_e, A x (by omega) (by omega)]
    exact pm_2 hn H hN Q r f (x - 1) _ _ (by omega) (by omega) (by omega) K.put A.u (PB_u H B (by omega) x1 bx (by omega) (by omega)) (by rw [updI_o (by omega)]; exact Z)
theorem pm_3 (hn : 100 ≤ n) {g : Hp} (H : WFp m) {tol j : Int} (Q : PR m g tol j) {y : Int} (y0 : 0 ≤ y) (y1 : y < nB m) : ∀ (r f : Nat) (x : Int) (h : Hp) (P : Int → Int), x + r = nB m → r < f → 0 ≤ x → KR 139 g h → RwP m h 139 P → PBd m P → ∃ h', BX12_passes_121 n f y x h = some (pF m r x P y, h') ∧ KR 139 g h'
  | 0, f + 1, x, h, P, hx, hf, x1, K, A, B => by
    have hB := H.1
    rw [BX12_passes_121, K 113 (by decide), Q.1, if_pos (by omega), al540, grd_t (by omega), A y y0 (by omega)]
    exact ⟨h, rfl, K⟩
  | r + 1, f + 1, x, h, P, hx, hf, x1, K, A, B => by
    have hB := H.1
    have q := Q.2.2.1 x (by omega) (by omega)
    have e3 : h 133 x = lb m x 3 := by rw [K 133 (by decide)]; exact q.1
    have eL : h 125 x = ln m x := by rw [K 125 (by decide)]; exact q.2
    have bx := B x (by omega) (by omega)
    rw [BX12_passes_121, K 113 (by decide), Q.1, if_neg (by omega), al540, al532, w32_i (x := x + 1) (by omega), grd_t (by omega), grd_t (by omega), A x (by omega) (by omega), square_m, bndp_s, grd_t (by omega), grd_t (by omega), over_m hn H (by omega) (by omega) bx e3 eL, bndp_s, grd_t (by omega), ltt_e, ltt_e, A (x + 1) (by omega) (by omega)]
    exact pm_3 hn H Q y0 y1 r f (x + 1) _ _ (by omega) (by omega) (by omega) K.put A.u (PB_u H B (by omega) (by omega) bx (by omega) (by omega))
end
