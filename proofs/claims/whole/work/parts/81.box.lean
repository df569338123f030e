/-! THE BOX. -/
def edR (v : Int → Int) (hi : Int) : Nat → Int → Int → Int
  | 0, _, acc => acc
  | r + 1, x, acc => edR v hi r (x + 1) (if hi = 0 then min acc (v x) else max acc (v x))
def spV (m : Hp) (a x : Int) : Int := m 122 (3 * (spT m).2.1 x + a)
def boxS (m : Hp) (a y : Int) : Int := if (0 ≤ a ∧ a ≤ 2) ∧ (0 ≤ y ∧ y ≤ 1) ∧ (spT m).1 ≠ 0 then edR (spV m a) y ((spT m).1 - 1).toNat 1 (spV m a 0) else -2147483648
section
variable {n : Nat} {m : Hp}
theorem CSp.row {h : Hp} (C : CSp m h (spT m)) {a x : Int} (a0 : 0 ≤ a) (a1 : a < 3) (x0 : 0 ≤ x) (x1 : x < (spT m).1) : h (41 + a) x = spV m a x := by
  have c := (C.2 x x0 x1).1
  unfold spV
  rcases (show a = 0 ∨ a = 1 ∨ a = 2 by omega) with rfl | rfl | rfl
  · rw [Int.add_zero (3 * (spT m).2.1 x)]
    exact c.1
  · exact c.2.1
  · exact c.2.2
theorem edge_l {h : Hp} (H : WFp m) (C : CSp m h (spT m)) {a y : Int} (a0 : 0 ≤ a) (a1 : a < 3) : ∀ (r f : Nat) (x acc : Int), x + r = (spT m).1 → r < f → 0 ≤ x → BX7_edge_22 n f a y acc x h = some (edR (spV m a) y r x acc)
  | 0, f + 1, x, acc, hx, hf, x0 => by
    rw [BX7_edge_22, C.1, if_pos (by omega)]
    rfl
  | r + 1, f + 1, x, acc, hx, hf, x0 => by
    have hT := spT_ok H
    have ih := fun acc' => edge_l H C (y := y) a0 a1 r f (x + 1) acc' (by omega) (by omega) (by omega)
    rw [BX7_edge_22, C.1, if_neg (by omega), al50, al540, grd_t (by omega), grd_t (by omega), ltt_e, C.row a0 a1 x0 (by omega)]
    unfold JX7_edge_61
    simp only [ltt_e]
    rw [w32_i (x := x + 1) (by omega), ih, ih]
    show _ = some (edR (spV m a) y r (x + 1) (if y = 0 then min acc (spV m a x) else max acc (spV m a x)))
    by_cases hy : y = 0
    · rw [if_pos hy, if_pos hy]
    · rw [if_neg hy, if_neg hy]
theorem edge_c (hn : 100 ≤ n) {h : Hp} (H : WFp m) (C : CSp m h (spT m)) {a y : Int} (a0 : 0 ≤ a) (a1 : a < 3) (hs : (spT m).1 ≠ 0) : MX7_edge n a y h = some (edR (spV m a) y ((spT m).1 - 1).toNat 1 (spV m a 0)) := by
  have hT := spT_ok H
  unfold MX7_edge LX7_edge_22
  rw [isAxis_c, bndp_s, if_pos (show 0 ≤ a ∧ a < 3 from ⟨a0, a1⟩), if_pos (by decide), al50, al540, grd_t ⟨a0, a1⟩, grd_t (by decide), ltt_e, ltt_e, C.row a0 a1 (by decide) (by omega)]
  exact edge_l H C a0 a1 _ n 1 _ (by omega) (by omega) (by decide)
theorem box_a (hn : 100 ≤ n) {h : Hp} (H : WFp m) (C : CSp m h (spT m)) (a y : Int) : MX11_box n a y h = some (boxS m a y) := by
  unfold MX11_box boxS
  rw [isAxis_c, bndp_s, C.1]
  by_cases h1 : 0 ≤ a ∧ a < 3
  · rw [if_pos h1, if_neg (by decide)]
    by_cases h2 : y < 0
    · rw [if_pos h2, if_neg (fun q => by omega)]
    · rw [if_neg h2]
      by_cases h3 : 1 < y
      · rw [if_pos h3, if_neg (fun q => by omega)]
      · rw [if_neg h3]
        by_cases h4 : (spT m).1 ≠ 0
        · rw [if_pos h4, if_pos (show (0 ≤ a ∧ a ≤ 2) ∧ (0 ≤ y ∧ y ≤ 1) ∧ (spT m).1 ≠ 0 from ⟨by omega, by omega, h4⟩), edge_c hn H C h1.1 h1.2 h4, edge_c hn H C h1.1 h1.2 h4, bndp_s, bndp_s]
          by_cases h5 : y = 1
          · rw [if_neg (fun q => q h5), h5]
          · have : y = 0 := by omega
            rw [if_pos h5, this]
        · rw [if_neg h4, if_neg (fun q => h4 q.2.2)]
  · rw [if_neg h1, if_pos rfl, if_neg (fun q => h1 (by omega))]
theorem box_l {h : Hp} (H : WFp m) (K : KM m h) (M : MSp h (spT m)) {a y : Int} (a0 : 0 ≤ a) (a1 : a < 3) : ∀ (r f : Nat) (x acc : Int), x + r = (spT m).1 → r < f → 0 ≤ x → BX12_box_56 n f a y acc x h = some (edR (spV m a) y r x acc, h)
  | 0, f + 1, x, acc, hx, hf, x0 => by
    rw [BX12_box_56, M.1, if_pos (by omega)]
    rfl
  | r + 1, f + 1, x, acc, hx, hf, x0 => by
    have hT := spT_ok H
    have hB := H.1
    have b := hT.2 x x0 (by omega)
    have e2 : h 122 = m 122 := K.r (by decide)
    have ih := fun acc' => box_l H K M (y := y) a0 a1 r f (x + 1) acc' (by omega) (by omega) (by omega)
    have ev : m 122 (3 * (spT m).2.1 x + a) = spV m a x := rfl
    rw [BX12_box_56, M.1, if_neg (by omega), al540, al1580, grd_t (by omega), (M.2 x x0 (by omega)).1, w32_i (x := 3 * (spT m).2.1 x) (by omega), w32_i (x := 3 * (spT m).2.1 x + a) (by omega), grd_t (by omega), ltt_e, e2, ev]
    unfold JX12_box_102
    simp only [ltt_e]
    rw [w32_i (x := x + 1) (by omega), ih, ih]
    show _ = some (edR (spV m a) y r (x + 1) (if y = 0 then min acc (spV m a x) else max acc (spV m a x)), h)
    by_cases hy : y = 0
    · rw [if_neg (fun q => q hy), if_pos hy]
    · rw [if_pos hy, if_neg hy]
theorem box_b (hn : 100 ≤ n) (H : WFp m) (a y : Int) : ∃ h', MX12_box n a y m = some (boxS m a y, h') ∧ KM m h' := by
  have hT := spT_ok H
  have hB := H.1
  obtain ⟨h', e, K, M⟩ := laysSpots_m hn H
  refine ⟨h', ?_, K⟩
  unfold MX12_box LX12_box_56 boxS
  rw [e, bndh_s, in_m, bndp_s, M.1]
  by_cases h1 : 0 ≤ a ∧ a ≤ 2
  · rw [if_pos h1, if_neg (by decide), in_m, bndp_s]
    by_cases h2 : 0 ≤ y ∧ y ≤ 1
    · rw [if_pos h2, if_neg (by decide)]
      by_cases h4 : (spT m).1 ≠ 0
      · have b := hT.2 0 (by decide) (by omega)
        have e2 : h' 122 = m 122 := K.r (by decide)
        have ev : m 122 (3 * (spT m).2.1 0 + a) = spV m a 0 := rfl
        rw [if_pos h4, if_pos (show (0 ≤ a ∧ a ≤ 2) ∧ (0 ≤ y ∧ y ≤ 1) ∧ (spT m).1 ≠ 0 from ⟨h1, h2, h4⟩), al540, al1580, grd_t (by decide), (M.2 0 (by decide) (by omega)).1, w32_i (x := 3 * (spT m).2.1 0) (by omega), w32_i (x := 3 * (spT m).2.1 0 + a) (by omega), grd_t (by omega), ltt_e, ltt_e, e2, ev]
        exact box_l H K M h1.1 (by omega) _ n 1 _ (by omega) (by omega) (by decide)
      · rw [if_neg h4, if_neg (fun q => h4 q.2.2)]
    · rw [if_neg h2, if_pos rfl, if_neg (fun q => h2 q.2.1)]
  · rw [if_neg h1, if_pos rfl, if_neg (fun q => h1 q.1)]
end
