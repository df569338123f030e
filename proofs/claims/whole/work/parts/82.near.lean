/-! THE NEAREST SPOT. -/
def sqS (m : Hp) (a b c x : Int) : Int := (spV m 0 x - a) * (spV m 0 x - a) + (spV m 1 x - b) * (spV m 1 x - b) + (spV m 2 x - c) * (spV m 2 x - c)
def nrR (d : Int → Int) : Nat → Int → Int → Int
  | 0, _, g => g
  | r + 1, x, g => nrR d r (x + 1) (if d x < d g then x else g)
def nearS (m : Hp) (a b c y : Int) : Int :=
  if (spT m).1 ≠ 0 ∧ (0 ≤ y ∧ y ≤ 1) ∧ (-100000 ≤ a ∧ a ≤ 100000) ∧ (-100000 ≤ b ∧ b ≤ 100000) ∧ (-100000 ≤ c ∧ c ≤ 100000) then
    (if y = 0 then nrR (sqS m a b c) ((spT m).1 - 1).toNat 1 0 else rt (sqS m a b c (nrR (sqS m a b c) ((spT m).1 - 1).toNat 1 0)))
  else -1
theorem nrR_b {d : Int → Int} {N : Int} : ∀ (r : Nat) (x g : Int), x + r = N → 0 ≤ g → g < N → 0 ≤ x → 0 ≤ nrR d r x g ∧ nrR d r x g < N
  | 0, x, g, hx, g0, g1, x0 => ⟨g0, g1⟩
  | r + 1, x, g, hx, g0, g1, x0 => by
    show 0 ≤ nrR d r (x + 1) (if d x < d g then x else g) ∧ nrR d r (x + 1) (if d x < d g then x else g) < N
    by_cases h : d x < d g
    · rw [if_pos h]
      exact nrR_b r (x + 1) x (by omega) x0 (by omega) (by omega)
    · rw [if_neg h]
      exact nrR_b r (x + 1) g (by omega) g0 g1 (by omega)
section
variable {n : Nat} {m : Hp}
theorem spV_b (H : WFp m) {a x : Int} (a0 : 0 ≤ a) (a1 : a < 3) (x0 : 0 ≤ x) (x1 : x < (spT m).1) : -100000 ≤ spV m a x ∧ spV m a x ≤ 100000 := by
  have b := (spT_ok H).2 x x0 x1
  exact H.2.2.2.2.1 (3 * (spT m).2.1 x + a) (by omega) (by omega)
theorem sqd_b {v a : Int} (hv : -100000 ≤ v ∧ v ≤ 100000) (ha : -100000 ≤ a ∧ a ≤ 100000) : 0 ≤ (v - a) * (v - a) ∧ (v - a) * (v - a) ≤ 40000000000 :=
  ⟨sq_nn _, by
    have := sq_le (g := v - a) (B := 200000) (by omega) (by omega)
    omega⟩
theorem sqS_b (H : WFp m) {a b c x : Int} (ha : -100000 ≤ a ∧ a ≤ 100000) (hb : -100000 ≤ b ∧ b ≤ 100000) (hc : -100000 ≤ c ∧ c ≤ 100000) (x0 : 0 ≤ x) (x1 : x < (spT m).1) : 0 ≤ sqS m a b c x ∧ sqS m a b c x ≤ 120000000000 := by
  have v0 := sqd_b (spV_b H (a := 0) (by decide) (by decide) x0 x1) ha
  have v1 := sqd_b (spV_b H (a := 1) (by decide) (by decide) x0 x1) hb
  have v2 := sqd_b (spV_b H (a := 2) (by decide) (by decide) x0 x1) hc
  unfold sqS
  omega
theorem sqt_c {h : Hp} (H : WFp m) (C : CSp m h (spT m)) {a b c x : Int} (ha : -100000 ≤ a ∧ a ≤ 100000) (hb : -100000 ≤ b ∧ b ≤ 100000) (hc : -100000 ≤ c ∧ c ≤ 100000) (x0 : 0 ≤ x) (x1 : x < (spT m).1) : MX7_squareTo x a b c h = some (sqS m a b c x) := by
  have hT := (spT_ok H).1
  have b0 := spV_b H (a := 0) (by decide) (by decide) x0 x1
  have b1 := spV_b H (a := 1) (by decide) (by decide) x0 x1
  have b2 := spV_b H (a := 2) (by decide) (by decide) x0 x1
  have v0 := sqd_b b0 ha
  have v1 := sqd_b b1 hb
  have v2 := sqd_b b2 hc
  unfold MX7_squareTo sqS
  rw [if_neg (by omega), if_pos (by omega), al50, al540, grd_t (by decide), grd_t (by omega), square_c, bndp_s, grd_t (by decide), grd_t (by omega), square_c, bndp_s, grd_t (by decide), grd_t (by omega), square_c, bndp_s, C.row (a := 0) (by decide) (by decide) x0 x1, C.row (a := 1) (by decide) (by decide) x0 x1, C.row (a := 2) (by decide) (by decide) x0 x1]
  rw [w32_i (x := spV m 0 x - a) (by omega), w32_i (x := spV m 1 x - b) (by omega), w32_i (x := spV m 2 x - c) (by omega)]
  generalize (spV m 0 x - a) * (spV m 0 x - a) = q0 at *
  generalize (spV m 1 x - b) * (spV m 1 x - b) = q1 at *
  generalize (spV m 2 x - c) * (spV m 2 x - c) = q2 at *
  rw [w64_i (x := q0) (by omega), w64_i (x := q1) (by omega), w64_i (x := q2) (by omega), w64_i (x := q0 + q1) (by omega), w64_i (x := q0 + q1 + q2) (by omega)]
theorem near_l {h : Hp} (H : WFp m) (C : CSp m h (spT m)) {a b c : Int} (ha : -100000 ≤ a ∧ a ≤ 100000) (hb : -100000 ≤ b ∧ b ≤ 100000) (hc : -100000 ≤ c ∧ c ≤ 100000) : ∀ (r f : Nat) (x g : Int), x + r = (spT m).1 → r < f → 0 ≤ x → 0 ≤ g → g < (spT m).1 → BX7_nearest_6 n f a b c g x h = some (nrR (sqS m a b c) r x g)
  | 0, f + 1, x, g, hx, hf, x0, g0, g1 => by
    rw [BX7_nearest_6, C.1, if_pos (by omega)]
    rfl
  | r + 1, f + 1, x, g, hx, hf, x0, g0, g1 => by
    have hT := (spT_ok H).1
    have nxt := fun g' (q0 : 0 ≤ g') (q1 : g' < (spT m).1) => near_l H C ha hb hc r f (x + 1) g' (by omega) (by omega) (by omega) q0 q1
    rw [BX7_nearest_6, C.1, if_neg (by omega), sqt_c H C ha hb hc x0 (by omega), bndp_s, sqt_c H C ha hb hc g0 g1, bndp_s]
    simp only [ltt_e, lcp_ge]
    rw [w32_i (x := x + 1) (by omega)]
    show _ = some (nrR (sqS m a b c) r (x + 1) (if sqS m a b c x < sqS m a b c g then x else g))
    by_cases hq : sqS m a b c x < sqS m a b c g
    · rw [if_neg (by omega), if_pos hq]
      exact nxt x x0 (by omega)
    · rw [if_pos (by omega), if_neg hq]
      exact nxt g g0 g1
theorem near_a (hn : 100 ≤ n) {h : Hp} (H : WFp m) (C : CSp m h (spT m)) (a b c y : Int) : MX11_near n a b c y h = some (nearS m a b c y) := by
  have hT := (spT_ok H).1
  unfold MX11_near nearS
  rw [beyond_c, beyond_c, beyond_c, bndp_s, bndp_s, bndp_s, C.1]
  by_cases ha : -100000 ≤ a ∧ a ≤ 100000
  · rw [if_pos ha, if_neg (by decide)]
    by_cases hb : -100000 ≤ b ∧ b ≤ 100000
    · rw [if_pos hb, if_neg (by decide)]
      by_cases hc : -100000 ≤ c ∧ c ≤ 100000
      · rw [if_pos hc, if_neg (by decide)]
        by_cases h1 : y < 0
        · rw [if_pos h1, if_neg (fun q => by omega)]
        · rw [if_neg h1]
          by_cases h2 : 1 < y
          · rw [if_pos h2, if_neg (fun q => by omega)]
          · rw [if_neg h2]
            by_cases h4 : (spT m).1 ≠ 0
            · have eN : MX7_nearest n a b c h = some (nrR (sqS m a b c) ((spT m).1 - 1).toNat 1 0) := by
                unfold MX7_nearest LX7_nearest_6
                rw [ltt_e, ltt_e]
                exact near_l H C ha hb hc _ n 1 0 (by omega) (by omega) (by decide) (by decide) (by omega)
              have gb := nrR_b (d := sqS m a b c) (N := (spT m).1) ((spT m).1 - 1).toNat 1 0 (by omega) (by decide) (by omega) (by decide)
              have sb := sqS_b H ha hb hc gb.1 gb.2
              rw [if_pos h4, if_pos (show (spT m).1 ≠ 0 ∧ (0 ≤ y ∧ y ≤ 1) ∧ (-100000 ≤ a ∧ a ≤ 100000) ∧ (-100000 ≤ b ∧ b ≤ 100000) ∧ (-100000 ≤ c ∧ c ≤ 100000) from ⟨h4, by omega, ha, hb, hc⟩), eN, bndp_s, ltt_e, sqt_c H C ha hb hc gb.1 gb.2, bndp_s, root_c (by omega) sb.1 (by omega), bndp_s]
              by_cases hy : y = 0
              · rw [if_neg (fun q => q hy), if_pos hy]
              · rw [if_pos hy, if_neg hy]
            · rw [if_neg h4, if_neg (fun q => h4 q.1)]
      · rw [if_neg hc, if_pos (by decide), if_neg (fun q => hc q.2.2.2.2)]
    · rw [if_neg hb, if_pos (by decide), if_neg (fun q => hb q.2.2.2.1)]
  · rw [if_neg ha, if_pos (by decide), if_neg (fun q => ha q.2.2.1)]
theorem near_st {f : Nat} {h : Hp} (H : WFp m) (K : KM m h) (M : MSp h (spT m)) {a b c y : Int} (ha : -100000 ≤ a ∧ a ≤ 100000) (hb : -100000 ≤ b ∧ b ≤ 100000) (hc : -100000 ≤ c ∧ c ≤ 100000) {x g d : Int} (x0 : 0 ≤ x) (x1 : x < (spT m).1) : BX12_near_75 n (f + 1) a b c y g d x h = if g = -1 then BX12_near_75 n f a b c y x (sqS m a b c x) (x + 1) h else if d ≤ sqS m a b c x then BX12_near_75 n f a b c y g d (x + 1) h else BX12_near_75 n f a b c y x (sqS m a b c x) (x + 1) h := by
  have hT := spT_ok H
  have hB := H.1
  have bb := hT.2 x x0 x1
  have b0 := spV_b H (a := 0) (by decide) (by decide) x0 x1
  have b1 := spV_b H (a := 1) (by decide) (by decide) x0 x1
  have b2 := spV_b H (a := 2) (by decide) (by decide) x0 x1
  have v0 := sqd_b b0 ha
  have v1 := sqd_b b1 hb
  have v2 := sqd_b b2 hc
  have e2 : h 122 = m 122 := K.r (by decide)
  have r0 : m 122 (3 * (spT m).2.1 x) = spV m 0 x := by unfold spV; rw [Int.add_zero]
  have r1 : m 122 (3 * (spT m).2.1 x + 1) = spV m 1 x := rfl
  have r2 : m 122 (3 * (spT m).2.1 x + 2) = spV m 2 x := rfl
  rw [BX12_near_75, M.1, if_neg (by omega), al540, al1580, grd_t (by omega), (M.2 x x0 x1).1, ltt_e, w32_i (x := 3 * (spT m).2.1 x) (by omega), w32_i (x := 3 * (spT m).2.1 x + 1) (by omega), w32_i (x := 3 * (spT m).2.1 x + 2) (by omega), grd_t (by omega), square_m, bndp_s, grd_t (by omega), square_m, bndp_s, grd_t (by omega), square_m, bndp_s, e2, r0, r1, r2]
  unfold JX12_near_156
  simp only [ltt_e, lcp_ge]
  rw [w32_i (x := x + 1) (by omega), w32_i (x := spV m 0 x - a) (by omega), w32_i (x := spV m 1 x - b) (by omega), w32_i (x := spV m 2 x - c) (by omega)]
  have es : sqS m a b c x = (spV m 0 x - a) * (spV m 0 x - a) + (spV m 1 x - b) * (spV m 1 x - b) + (spV m 2 x - c) * (spV m 2 x - c) := rfl
  rw [es]
  generalize (spV m 0 x - a) * (spV m 0 x - a) = q0 at *
  generalize (spV m 1 x - b) * (spV m 1 x - b) = q1 at *
  generalize (spV m 2 x - c) * (spV m 2 x - c) = q2 at *
  rw [w64_i (x := q0) (by omega), w64_i (x := q1) (by omega), w64_i (x := q2) (by omega), w64_i (x := q0 + q1) (by omega), w64_i (x := q0 + q1 + q2) (by omega)]
theorem near_ml {h : Hp} (H : WFp m) (K : KM m h) (M : MSp h (spT m)) {a b c y : Int} (ha : -100000 ≤ a ∧ a ≤ 100000) (hb : -100000 ≤ b ∧ b ≤ 100000) (hc : -100000 ≤ c ∧ c ≤ 100000) : ∀ (r f : Nat) (x g : Int), x + r = (spT m).1 → r < f → 0 ≤ x → 0 ≤ g → BX12_near_75 n f a b c y g (sqS m a b c g) x h = some (y, nrR (sqS m a b c) r x g, sqS m a b c (nrR (sqS m a b c) r x g))
  | 0, f + 1, x, g, hx, hf, x0, g0 => by
    rw [BX12_near_75, M.1, if_pos (by omega)]
    rfl
  | r + 1, f + 1, x, g, hx, hf, x0, g0 => by
    have nxt := fun g' (q0 : 0 ≤ g') => near_ml H K M (y := y) ha hb hc r f (x + 1) g' (by omega) (by omega) (by omega) q0
    rw [near_st H K M ha hb hc x0 (by omega), if_neg (show ¬ g = -1 by omega)]
    show _ = some (y, nrR (sqS m a b c) r (x + 1) (if sqS m a b c x < sqS m a b c g then x else g), sqS m a b c (nrR (sqS m a b c) r (x + 1) (if sqS m a b c x < sqS m a b c g then x else g)))
    by_cases hq : sqS m a b c x < sqS m a b c g
    · rw [if_neg (by omega), if_pos hq]
      exact nxt x x0
    · rw [if_pos (by omega), if_neg hq]
      exact nxt g g0
theorem near_b (hn : 100 ≤ n) (H : WFp m) (a b c y : Int) : ∃ h', MX12_near n a b c y m = some (nearS m a b c y, h') ∧ KM m h' := by
  have hT := (spT_ok H).1
  obtain ⟨h', e, K, M⟩ := laysSpots_m hn H
  refine ⟨h', ?_, K⟩
  unfold MX12_near nearS
  rw [e, bndh_s, M.1]
  by_cases h4 : (spT m).1 = 0
  · rw [if_pos h4, if_neg (fun q => q.1 h4)]
  · rw [if_neg h4, in_m, bndp_s]
    by_cases h2 : 0 ≤ y ∧ y ≤ 1
    · rw [if_pos h2, if_neg (by decide), in_m, bndp_s]
      by_cases ha : -100000 ≤ a ∧ a ≤ 100000
      · rw [if_pos ha, if_neg (by decide), in_m, bndp_s]
        by_cases hb : -100000 ≤ b ∧ b ≤ 100000
        · rw [if_pos hb, if_neg (by decide), in_m, bndp_s]
          by_cases hc : -100000 ≤ c ∧ c ≤ 100000
          · have gb := nrR_b (d := sqS m a b c) (N := (spT m).1) ((spT m).1 - 1).toNat 1 0 (by omega) (by decide) (by omega) (by decide)
            have sb := sqS_b H ha hb hc gb.1 gb.2
            rw [if_pos hc, if_pos (by decide), if_pos (show (spT m).1 ≠ 0 ∧ (0 ≤ y ∧ y ≤ 1) ∧ (-100000 ≤ a ∧ a ≤ 100000) ∧ (-100000 ≤ b ∧ b ≤ 100000) ∧ (-100000 ≤ c ∧ c ≤ 100000) from ⟨h4, h2, ha, hb, hc⟩), ltt_e, ltt_e, ltt_e]
            obtain ⟨n', en⟩ : ∃ n', n = n' + 1 := ⟨n - 1, by omega⟩
            have l : BX12_near_75 n n a b c y (-1) 0 0 h' = some (y, nrR (sqS m a b c) ((spT m).1 - 1).toNat 1 0, sqS m a b c (nrR (sqS m a b c) ((spT m).1 - 1).toNat 1 0)) := by
              have l' : BX12_near_75 n (n' + 1) a b c y (-1) 0 0 h' = some (y, nrR (sqS m a b c) ((spT m).1 - 1).toNat 1 0, sqS m a b c (nrR (sqS m a b c) ((spT m).1 - 1).toNat 1 0)) := by
                rw [near_st H K M ha hb hc (by decide) (by omega), if_pos rfl]
                exact near_ml H K M ha hb hc _ n' 1 0 (by omega) (by omega) (by decide) (by decide)
              rw [← en] at l'
              exact l'
            unfold LX12_near_75
            rw [l, bndx_s]
            show JX12_near_170 n y _ _ h' = _
            unfold JX12_near_170
            by_cases hy : y = 0
            · rw [if_neg (fun q => q hy), if_pos hy]
            · rw [if_pos hy, if_neg hy, root_m (by omega) sb.1 (by omega), bndp_s]
          · rw [if_neg hc, if_neg (by decide), if_neg (fun q => hc q.2.2.2.2)]
        · rw [if_neg hb, if_pos rfl, if_neg (fun q => hb q.2.2.2.1)]
      · rw [if_neg ha, if_pos rfl, if_neg (fun q => ha q.2.2.1)]
    · rw [if_neg h2, if_pos rfl, if_neg (fun q => h2 q.2.1)]
end
