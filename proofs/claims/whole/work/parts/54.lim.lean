/-! THE CLASS'S LIMITS. -/
/-- the class's way w holds the program that the model's cells m have -/
def RW (m h : Hp) (w : Int) : Prop :=
  (h w 9 = m 115 6 ∧ h w 10 = m 115 7 ∧ h w 11 = nB m ∧ h w 12 = m 113 5 ∧ h w 13 = m 113 7 ∧ h w 14 = bg m (nB m)) ∧ (∀ k : Int, 0 ≤ k → k < 6 → h (w + 1) k = m 115 k) ∧ (∀ a k : Int, 0 ≤ a → a < 3 → 0 ≤ k → k ≤ nB m → h (w + 2 + 1 + a) k = m 122 (3 * k + a)) ∧
  (∀ b : Int, 0 ≤ b → b < nB m → h (w + 6) b = ln m b ∧ h (w + 7) b = bg m (b + 1) ∧ h (w + 8) b = m 123 b ∧ h (w + 9) b = lb m b 0 ∧ h (w + 10) b = lb m b 3 ∧ h (w + 11) b = m 124 b) ∧ ∀ b : Int, 0 ≤ b → b + 1 < nB m → h (w + 12) b = shp m b
theorem RW.mv {m h h' : Hp} {w : Int} (R : RW m h w) (hw : ∀ c : Int, w ≤ c → c ≤ w + 12 → h' c = h c) : RW m h' w := by
  obtain ⟨r1, r2, r3, r4, r5⟩ := R
  refine ⟨by rw [hw w (by omega) (by omega)]; exact r1, fun k k0 k1 => by rw [hw _ (by omega) (by omega)]; exact r2 k k0 k1, fun a k a0 a1 k0 k1 => by rw [hw _ (by omega) (by omega)]; exact r3 a k a0 a1 k0 k1, fun b b0 b1 => ?_, fun b b0 b1 => by rw [hw _ (by omega) (by omega)]; exact r5 b b0 b1⟩
  rw [hw (w + 6) (by omega) (by omega), hw (w + 7) (by omega) (by omega), hw (w + 8) (by omega) (by omega), hw (w + 9) (by omega) (by omega), hw (w + 10) (by omega) (by omega), hw (w + 11) (by omega) (by omega)]
  exact r4 b b0 b1
theorem clm_e (v : Int) : (if 1 ≤ v then (if v ≤ 100 then v else 100) else 1) = clm v := by
  unfold clm
  split
  · split <;> omega
  · omega
theorem share_n {x y : Int} (hx : 0 ≤ x) (hb : x < 2147483648) (hy : 0 < y) : MX11_share x y = some (x / y) := by
  have h1 : x / y ≤ x := Int.ediv_le_self _ hx
  have h2 : 0 ≤ x / y := Int.ediv_nonneg hx (by omega)
  rw [share_c (by omega) (by rw [Int.tdiv_eq_ediv_of_nonneg hx]; omega), Int.tdiv_eq_ediv_of_nonneg hx, w32_i (by omega)]
section
variable {n : Nat} {m h : Hp} {w L : Int}
theorem cutOf_c (H : WFp m) (R : RW m h w) (hL : h L 0 = w) {tol k : Int} (ht : 0 ≤ tol ∧ tol ≤ 2000) (k0 : 0 ≤ k) (k1 : k + 1 < nB m) : MX4_cutOf L k tol h = some (cutS m tol k) := by
  have hB := H.1
  have l1 := (wf_blk H k0 (by omega)).1
  have l2 := (wf_blk H (b := k + 1) (by omega) k1).1
  have hs := (shp_ok H k0 k1).2
  unfold MX4_cutOf cutS
  rw [al532, grd_t (by omega), hL, R.2.2.2.2 k k0 k1]
  by_cases z : shp m k = 0
  · rw [if_neg (fun q => q z), if_pos z]
  · have x1 : 0 ≤ 4 * tol * 32768 / shp m k := Int.ediv_nonneg (by omega) (by omega)
    have x2 : 4 * tol * 32768 / shp m k ≤ 4 * tol * 32768 := Int.ediv_le_self _ (by omega)
    rw [if_pos z, if_neg z, grd_t (by omega), w32_i (x := k + 1) (by omega), grd_t (by omega), grd_t (by decide), ltt_e, grd_t (by omega), (R.2.2.2.1 k k0 (by omega)).1, (R.2.2.2.1 (k + 1) (by omega) k1).1]
    rw [w64_i (x := 4 * tol) (by omega), w64_i (x := 4 * tol * 32768) (by omega), share_n (by omega) (by omega) (by omega), bndp_s, Int.tdiv_eq_ediv_of_nonneg (a := min (ln m k) (ln m (k + 1))) (by omega), w32_i (x := min (ln m k) (ln m (k + 1)) / 2) (by omega)]
    congr 1
    omega
theorem paceOf_c (hn : 40 ≤ n) (H : WFp m) (R : RW m h w) (hL : h L 0 = w) {tol j k : Int} (ht : 0 ≤ tol ∧ tol ≤ 2000) (hj : 1 ≤ j ∧ j ≤ 50) (hJ : h L 1 = j) (k0 : 0 ≤ k) (k1 : k + 1 < nB m) (hc : h (L + 2) k = cutS m tol k) : MX4_paceOf n L k h = some (paceS m tol j k) := by
  have hB := H.1
  have hs := (shp_ok H k0 k1).2
  have c1 := cut_ok H ht k0 k1
  have hp := pn_ok H ht k0 k1
  unfold MX4_paceOf paceS
  rw [al532, grd_t (by omega), hL, R.2.2.2.2 k k0 k1]
  by_cases z : shp m k = 0
  · rw [if_neg (fun q => q z), if_pos z]
  · have u1 : 0 ≤ 2 * cutS m tol k * min (lb m k 3) (lb m (k + 1) 3) * 32768 / shp m k := Int.ediv_nonneg (by omega) (by omega)
    have u2 : 2 * cutS m tol k * min (lb m k 3) (lb m (k + 1) 3) * 32768 / shp m k ≤ 2 * cutS m tol k * min (lb m k 3) (lb m (k + 1) 3) * 32768 := Int.ediv_le_self _ (by omega)
    have v1 := rt_nn (2 * cutS m tol k * min (lb m k 3) (lb m (k + 1) 3) * 32768 / shp m k)
    have v2 : rt (2 * cutS m tol k * min (lb m k 3) (lb m (k + 1) 3) * 32768 / shp m k) < 10000000 := rt_lt u1 (by decide) (by
      have : (10000000 : Int) * 10000000 = 100000000000000 := by decide
      omega)
    rw [if_pos z, if_neg z, grd_t (by omega), w32_i (x := k + 1) (by omega), grd_t (by omega), ltt_e, (R.2.2.2.1 k k0 (by omega)).2.2.2.2.1, (R.2.2.2.1 (k + 1) (by omega) k1).2.2.2.2.1, hc, hJ, grd_t (by omega), grd_t (by omega), show max 1 (shp m k) = shp m k by omega, grd_t z]
    rw [w64_i (x := 2 * cutS m tol k) (by omega), w64_i (x := 2 * cutS m tol k * min (lb m k 3) (lb m (k + 1) 3)) (by omega), w64_i (x := 2 * cutS m tol k * min (lb m k 3) (lb m (k + 1) 3) * 32768) (by omega), Int.tdiv_eq_ediv_of_nonneg (a := 2 * cutS m tol k * min (lb m k 3) (lb m (k + 1) 3) * 32768) (by omega), w64_i (by omega), root_c (by omega) u1 (by omega), bndp_s, ltt_e, share_n v1 (by omega) (by omega), bndp_s, within_c, bndp_s, clm_e]
/-- what settle writes -/
def SetF (L : Int) (h h' : Hp) : Prop := (∀ c : Int, c ≠ L → c ≠ L + 2 → c ≠ L + 3 → h' c = h c) ∧ ∀ i : Int, i ≠ 0 → i ≠ 1 → i ≠ 3 → h' L i = h L i
theorem settle_l1 (H : WFp m) {tol j : Int} (hj : 1 ≤ j ∧ j ≤ 50) (hwL : w + 12 < L) : ∀ (r k f : Nat) (h : Hp), nB m = (k : Int) + r → r < f → RW m h w → h L 0 = w → h L 1 = j → h L 3 = max 1 (rchN m j k) → ∃ h', BX4_settle_19 n f L tol k h = some (L, tol, h') ∧ (∀ c : Int, c ≠ L → h' c = h c) ∧ (∀ i : Int, i ≠ 3 → h' L i = h L i) ∧ h' L 3 = rchS m j
  | r, k, f + 1, h, hk, hf, R, e0, e1, e3 => by
    have hB := H.1
    rw [BX4_settle_19, e0, R.1.2.2.1]
    by_cases hd : nB m ≤ (k : Int)
    · rw [if_pos hd]
      refine ⟨h, rfl, fun _ _ => rfl, fun _ _ => rfl, ?_⟩
      unfold rchS
      rw [show (nB m).toNat = k by omega]
      exact e3
    · have k0 : (0 : Int) ≤ (k : Int) := by omega
      have k1 : (k : Int) < nB m := by omega
      have f2 := lb_ok H (k := 3) (Or.inr rfl) k0 k1
      rw [if_neg hd, al532, grd_t (by omega), e1, (R.2.2.2.1 k k0 k1).2.2.2.2.1, share_n (by omega) (by omega) (by omega), bndp_s, ltt_e, ltt_e, e3, w32_i (x := (k : Int) + 1) (by omega)]
      obtain ⟨r', rfl⟩ : ∃ r', r = r' + 1 := ⟨r - 1, by omega⟩
      have hr : min (max 1 (rchN m j k)) (max 1 (lb m k 3 / j)) = max 1 (rchN m j (k + 1)) := by
        show _ = max 1 (min (rchN m j k) (lb m k 3 / j))
        omega
      rw [hr]
      obtain ⟨h', p1, p2, p3, p4⟩ := settle_l1 H hj hwL r' (k + 1) f (up h L 3 (max 1 (rchN m j (k + 1)))) (by omega) (by omega) (R.mv (fun c c0 c1 => up_row (by omega))) (by rw [up_i (by decide)]; exact e0) (by rw [up_i (by decide)]; exact e1) (by rw [up_s])
      exact ⟨h', p1, fun c hc => (p2 c hc).trans (up_row hc), fun i hi => (p3 i hi).trans (up_i hi), p4⟩
theorem settle_l2 (hn : 40 ≤ n) (H : WFp m) {tol j : Int} (ht : 0 ≤ tol ∧ tol ≤ 2000) (hj : 1 ≤ j ∧ j ≤ 50) (hwL : w + 12 < L) : ∀ (r k f : Nat) (h : Hp), (nB m - 1 ≤ (k : Int) + r) → r < f → k ≤ 64 → RW m h w → h L 0 = w → h L 1 = j → (∀ i : Int, 0 ≤ i → i < k → i + 1 < nB m → h (L + 2) i = cutS m tol i ∧ h (L + 3) i = paceS m tol j i) → ∃ h', BX4_settle_74 n f L tol k h = some h' ∧ (∀ c : Int, c ≠ L + 2 → c ≠ L + 3 → h' c = h c) ∧ ∀ i : Int, 0 ≤ i → i + 1 < nB m → h' (L + 2) i = cutS m tol i ∧ h' (L + 3) i = paceS m tol j i
  | r, k, f + 1, h, hk, hf, hk64, R, e0, e1, ec => by
    have hB := H.1
    rw [BX4_settle_74, e0, R.1.2.2.1, w32_i (x := (k : Int) + 1) (by omega)]
    by_cases hd : nB m ≤ (k : Int) + 1
    · rw [if_pos hd]
      exact ⟨h, rfl, fun _ _ _ => rfl, fun i i0 i1 => ec i i0 (by omega) i1⟩
    · have k0 : (0 : Int) ≤ (k : Int) := by omega
      have k1 : (k : Int) + 1 < nB m := by omega
      have R1 : RW m (up h (L + 2) k (cutS m tol k)) w := R.mv (fun c c0 c1 => up_row (by omega))
      rw [if_neg hd, cutOf_c H R e0 ht k0 k1, bndp_s, al532, grd_t (by omega), ltt_e, paceOf_c hn H R1 (by rw [up_c (by omega)]; exact e0) ht hj (by rw [up_c (by omega)]; exact e1) k0 k1 up_s, bndp_s, grd_t (by omega), ltt_e, ltt_e]
      obtain ⟨r', rfl⟩ : ∃ r', r = r' + 1 := ⟨r - 1, by omega⟩
      obtain ⟨h', p1, p2, p3⟩ := settle_l2 hn H ht hj hwL r' (k + 1) f (up (up h (L + 2) k (cutS m tol k)) (L + 3) k (paceS m tol j k)) (by omega) (by omega) (by omega) (R1.mv (fun c c0 c1 => up_row (by omega))) (by rw [up_c (by omega), up_c (by omega)]; exact e0) (by rw [up_c (by omega), up_c (by omega)]; exact e1) (fun i i0 i1 i2 => by
        rw [up_c (b := L + 2) (by omega)]
        by_cases hi : i = (k : Int)
        · subst hi
          rw [up_s, up_s]
          exact ⟨rfl, rfl⟩
        · rw [up_i hi, up_i hi, up_c (by omega)]
          exact ec i i0 (by omega) i2)
      exact ⟨h', p1, fun c c1 c2 => by rw [p2 c c1 c2, up_row c2, up_row c1], p3⟩
/-- a Limits holds what a tolerance and a jerk make of a program -/
def RLc (m h : Hp) (L tol j : Int) : Prop := h L 1 = j ∧ h L 3 = rchS m j ∧ ∀ i : Int, 0 ≤ i → i + 1 < nB m → h (L + 2) i = cutS m tol i ∧ h (L + 3) i = paceS m tol j i
theorem settle_c (hn : 100 ≤ n) (H : WFp m) (R : RW m h w) {tol j : Int} (ht : 0 ≤ tol ∧ tol ≤ 2000) (hj : 1 ≤ j ∧ j ≤ 50) (hwL : w + 12 < L) : ∃ h', MX4_settle n L w tol j h = some h' ∧ SetF L h h' ∧ h' L 0 = w ∧ RLc m h' L tol j := by
  have hB := H.1
  have g0 : ∀ c : Int, c ≠ L → up (up (up h L 0 w) L 1 j) L 3 12 c = h c := fun c hc => by rw [up_row hc, up_row hc, up_row hc]
  have g1 : ∀ i : Int, i ≠ 0 → i ≠ 1 → i ≠ 3 → up (up (up h L 0 w) L 1 j) L 3 12 L i = h L i := fun i i0 i1 i3 => by rw [up_i i3, up_i i1, up_i i0]
  have d0 : up (up (up h L 0 w) L 1 j) L 3 12 L 0 = w := by rw [up_i (by decide), up_i (by decide), up_s]
  have d1 : up (up (up h L 0 w) L 1 j) L 3 12 L 1 = j := by rw [up_i (by decide), up_s]
  have d3 : up (up (up h L 0 w) L 1 j) L 3 12 L 3 = 12 := up_s
  obtain ⟨h1, p1, p2, p3, p4⟩ := settle_l1 (n := n) H (tol := tol) hj hwL (nB m).toNat 0 n (up (up (up h L 0 w) L 1 j) L 3 12) (by omega) (by omega) (R.mv (fun c c0 c1 => g0 c (by omega))) d0 d1 d3
  obtain ⟨h2, q1, q2, q3⟩ := settle_l2 (n := n) (by omega) H ht hj hwL 64 0 n h1 (by omega) (by omega) (by omega) (R.mv (fun c c0 c1 => (p2 c (by omega)).trans (g0 c (by omega)))) ((p3 0 (by decide)).trans d0) ((p3 1 (by decide)).trans d1) (fun i i0 i1 => by omega)
  have hL : ∀ i : Int, h2 L i = h1 L i := fun i => by rw [q2 L (by omega) (by omega)]
  refine ⟨h2, ?_, ⟨fun c c0 c2 c3 => by rw [q2 c c2 c3, p2 c c0, g0 c c0], fun i i0 i1 i3 => by rw [hL, p3 i i3, g1 i i0 i1 i3]⟩, by rw [hL, p3 0 (by decide), d0], by rw [hL, p3 1 (by decide), d1], by rw [hL, p4], q3⟩
  unfold MX4_settle
  rw [ltt_e, ltt_e, ltt_e, ltt_e]
  unfold LX4_settle_19
  have p1' : BX4_settle_19 n n L tol 0 (up (up (up h L 0 w) L 1 j) L 3 12) = some (L, tol, h1) := p1
  rw [p1', bndx_s]
  show JX4_settle_71 n L tol h1 = some h2
  unfold JX4_settle_71 LX4_settle_74
  rw [ltt_e]
  exact q1
theorem freeLimit_c (H : WFp m) (R : RW m h w) (hL : h L 0 = w) {j pc k : Int} (hj : 1 ≤ j ∧ j ≤ 50) (hp : 1 ≤ pc ∧ pc ≤ 200) (hJ : h L 1 = j) (hP : h L 2 = pc) (k0 : 0 ≤ k) (k1 : k < nB m) : MX4_fedSpeed L k h = some (m 123 k * pc / 100) ∧ MX4_freeLimit L k h = some (min (m 123 k * pc / 100) (lb m k 0) / j) ∧ 0 ≤ m 123 k * pc / 100 ∧ m 123 k * pc / 100 ≤ 10000 := by
  have hB := H.1
  have hfd := (H.2.2.2.2.2.1 k k0 k1).2.2.2.1
  have p0 : 0 ≤ m 123 k * pc := Int.mul_nonneg (by omega) (by omega)
  have p1 : m 123 k * pc ≤ 5000 * 200 := Int.mul_le_mul (by omega) (by omega) (by omega) (by decide)
  have f1 := lb_ok H (k := 0) (Or.inl rfl) k0 k1
  have e1 : MX4_fedSpeed L k h = some (m 123 k * pc / 100) := by
    unfold MX4_fedSpeed
    rw [al532, grd_t (by omega), grd_t (by decide), hL, hP, (R.2.2.2.1 k k0 k1).2.2.1, w32_i (x := m 123 k * pc) (by omega), Int.tdiv_eq_ediv_of_nonneg p0, w32_i (by omega)]
  refine ⟨e1, ?_, by omega, by omega⟩
  unfold MX4_freeLimit
  rw [e1, bndp_s, al532, grd_t (by omega), hL, hJ, (R.2.2.2.1 k k0 k1).2.2.2.1, share_n (by omega) (by omega) (by omega), bndp_s]
theorem grant_l (H : WFp m) {j pc : Int} (hj : 1 ≤ j ∧ j ≤ 50) (hp : 1 ≤ pc ∧ pc ≤ 200) (hwL : w + 12 < L) : ∀ (r k f : Nat) (o : Int) (h : Hp), nB m = (k : Int) + r → r < f → (o = 0 ∨ o = 1) → RW m h w → h L 0 = w → h L 1 = j → h L 2 = pc → ∃ o' h', BX4_grant_9 n f L o k h = some (o', h') ∧ (o' = 0 ∨ o' = 1) ∧ (o' = 0 → o = 0 ∧ ∀ i : Int, k ≤ i → i < nB m → h' (L + 1) i = h (L + 1) i) ∧ (∀ c : Int, c ≠ L + 1 → h' c = h c) ∧ (∀ i : Int, i < k → h' (L + 1) i = h (L + 1) i) ∧ ∀ i : Int, k ≤ i → i < nB m → h' (L + 1) i = limS m j pc i
  | r, k, f + 1, o, h, hk, hf, ho, R, e0, e1, e2 => by
    have hB := H.1
    rw [BX4_grant_9, e0, R.1.2.2.1]
    by_cases hd : nB m ≤ (k : Int)
    · rw [if_pos hd, grd_t ho]
      exact ⟨o, h, rfl, ho, fun q => ⟨q, fun _ _ _ => rfl⟩, fun _ _ => rfl, fun _ _ => rfl, fun i i0 i1 => by omega⟩
    · have k0 : (0 : Int) ≤ (k : Int) := by omega
      have k1 : (k : Int) < nB m := by omega
      rw [if_neg hd, (freeLimit_c H R e0 hj hp e1 e2 k0 k1).2.1, bndp_s, within_c, bndp_s, clm_e, ltt_e]
      rw [show clm (min (m 123 k * pc / 100) (lb m k 0) / j) = limS m j pc k from rfl]
      obtain ⟨r', rfl⟩ : ∃ r', r = r' + 1 := ⟨r - 1, by omega⟩
      have go1 : ∀ o2 : Int, (o2 = 0 ∨ o2 = 1) → (o2 = 0 → o = 0 ∧ limS m j pc k = h (L + 1) k) → ∃ o' h', JX4_grant_53 n (BX4_grant_9 n f) L k (limS m j pc k) o2 h = some (o', h') ∧ (o' = 0 ∨ o' = 1) ∧ (o' = 0 → o = 0 ∧ ∀ i : Int, k ≤ i → i < nB m → h' (L + 1) i = h (L + 1) i) ∧ (∀ c : Int, c ≠ L + 1 → h' c = h c) ∧ (∀ i : Int, i < k → h' (L + 1) i = h (L + 1) i) ∧ ∀ i : Int, k ≤ i → i < nB m → h' (L + 1) i = limS m j pc i := by
        intro o2 ho2 hz
        unfold JX4_grant_53
        rw [ltt_e, al532, grd_t (by omega), ltt_e, ltt_e, w32_i (x := (k : Int) + 1) (by omega)]
        obtain ⟨o', h', p1, p2, p3, p4, p5, p6⟩ := grant_l H hj hp hwL r' (k + 1) f o2 (up h (L + 1) k (limS m j pc k)) (by omega) (by omega) ho2 (R.mv (fun c c0 c1 => up_row (by omega))) (by rw [up_c (by omega)]; exact e0) (by rw [up_c (by omega)]; exact e1) (by rw [up_c (by omega)]; exact e2)
        refine ⟨o', h', p1, p2, fun q => ?_, fun c hc => (p4 c hc).trans (up_row hc), fun i hi => by rw [p5 i (by omega), up_i (by omega)], fun i i0 i1 => ?_⟩
        · obtain ⟨q1, q2⟩ := p3 q
          obtain ⟨z1, z2⟩ := hz q1
          refine ⟨z1, fun i i0 i1 => ?_⟩
          by_cases hi : i = (k : Int)
          · subst hi
            rw [p5 _ (by omega), up_s]
            exact z2
          · rw [q2 i (by omega) i1, up_i hi]
        · by_cases hi : i = (k : Int)
          · subst hi
            rw [p5 _ (by omega), up_s]
          · exact p6 i (by omega) i1
      by_cases hz : o ≠ 0
      · rw [if_pos hz]
        exact go1 1 (Or.inr rfl) (fun q => by cases q)
      · rw [if_neg hz, al532, grd_t (by omega)]
        by_cases hq : limS m j pc k = h (L + 1) k
        · rw [if_pos hq]
          exact go1 0 (Or.inl rfl) (fun _ => ⟨by omega, hq⟩)
        · rw [if_neg hq]
          exact go1 1 (Or.inr rfl) (fun q => by cases q)
theorem grant_c (hn : 100 ≤ n) (H : WFp m) (R : RW m h w) {j pc : Int} (hj : 1 ≤ j ∧ j ≤ 50) (hp : 1 ≤ pc ∧ pc ≤ 200) (hwL : w + 12 < L) (e0 : h L 0 = w) (e1 : h L 1 = j) : ∃ o h', MX4_grant n L pc h = some (o, h') ∧ (o = 0 ∨ o = 1) ∧ (o = 0 → ∀ i : Int, 0 ≤ i → i < nB m → h' (L + 1) i = h (L + 1) i) ∧ (∀ c : Int, c ≠ L → c ≠ L + 1 → h' c = h c) ∧ (∀ i : Int, i ≠ 2 → h' L i = h L i) ∧ h' L 2 = pc ∧ ∀ i : Int, 0 ≤ i → i < nB m → h' (L + 1) i = limS m j pc i := by
  have hB := H.1
  obtain ⟨o', h', p1, p2, p3, p4, p5, p6⟩ := grant_l (n := n) H hj hp hwL (nB m).toNat 0 n 0 (up h L 2 pc) (by omega) (by omega) (Or.inl rfl) (R.mv (fun c c0 c1 => up_row (by omega))) (by rw [up_i (by decide)]; exact e0) (by rw [up_i (by decide)]; exact e1) up_s
  refine ⟨o', h', ?_, p2, fun q i i0 i1 => by rw [(p3 q).2 i i0 i1, up_c (by omega)], fun c c0 c1 => (p4 c c1).trans (up_row c0), fun i hi => by rw [p4 L (by omega), up_i hi], by rw [p4 L (by omega), up_s], p6⟩
  unfold MX4_grant LX4_grant_9
  rw [ltt_e, ltt_e, ltt_e]
  exact p1
end
