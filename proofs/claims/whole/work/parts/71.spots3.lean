/-! THE ANSWERS OF THE SPOTS. -/
section
variable {n : Nat} {m : Hp}
theorem spT_ok (H : WFp m) : (0 ≤ (spT m).1 ∧ (spT m).1 ≤ 65) ∧ (∀ x, 0 ≤ x → x < (spT m).1 → 0 ≤ (spT m).2.1 x ∧ (spT m).2.1 x ≤ nB m) := by
  have hB := H.1
  unfold spT
  by_cases hz : nB m ≤ 0
  · rw [if_pos hz]
    exact ⟨by show (0 : Int) ≤ 0 ∧ (0 : Int) ≤ 65; decide, fun x x0 x1 => absurd x1 (by show ¬ x < 0; omega)⟩
  · rw [if_neg hz]
    obtain ⟨i1, i2, -⟩ := spR_ok (m := m) (nB m + 1).toNat
    generalize spR m (nB m + 1).toNat = S at *
    exact ⟨by omega, fun x x0 x1 => by have := i2 x x0 x1; omega⟩
def spotS (m : Hp) (x y : Int) : Int := if (0 ≤ x ∧ x < (spT m).1) ∧ (0 ≤ y ∧ y ≤ 3) then (if y ≠ 3 then m 122 (3 * (spT m).2.1 x + y) else (spT m).2.2 x) else -2147483648
theorem spots_a {h : Hp} (C : CSp m h (spT m)) : MX11_spots h = some (spT m).1 := by
  unfold MX11_spots
  rw [C.1]
theorem spots_b (hn : 100 ≤ n) (H : WFp m) : ∃ h', MX12_spots n m = some ((spT m).1, h') ∧ KM m h' := by
  obtain ⟨h', e, K, M⟩ := laysSpots_m hn H
  unfold MX12_spots
  rw [e, bndh_s, M.1]
  exact ⟨h', rfl, K⟩
theorem spot_a {h : Hp} (H : WFp m) (C : CSp m h (spT m)) (x y : Int) : MX11_spot x y h = some (spotS m x y) := by
  have hT := spT_ok H
  unfold MX11_spot spotS
  rw [C.1]
  by_cases h1 : x < 0
  · rw [if_pos h1, if_neg (by omega)]
  by_cases h2 : (spT m).1 ≤ x
  · rw [if_neg h1, if_pos h2, if_neg (by omega)]
  by_cases h3 : y < 0
  · rw [if_neg h1, if_neg h2, if_pos h3, if_neg (by omega)]
  by_cases h4 : y ≤ 3
  · rw [if_neg h1, if_neg h2, if_neg h3, if_pos h4, if_pos (c := (0 ≤ x ∧ x < (spT m).1) ∧ (0 ≤ y ∧ y ≤ 3)) (by omega)]
    have c := C.2 x (by omega) (by omega)
    rw [al50, al540]
    by_cases h5 : y ≠ 3
    · rw [if_pos h5, if_pos h5, grd_t (by omega), grd_t (by omega)]
      rcases (show y = 0 ∨ y = 1 ∨ y = 2 by omega) with rfl | rfl | rfl
      · rw [c.1.1, Int.add_zero]
      · rw [c.1.2.1]
      · rw [c.1.2.2]
    · rw [if_neg h5, if_neg h5, grd_t (by omega), c.2]
  · rw [if_neg h1, if_neg h2, if_neg h3, if_neg h4, if_neg (by omega)]
theorem spot_b (hn : 100 ≤ n) (H : WFp m) (x y : Int) : ∃ h', MX12_spot n x y m = some (spotS m x y, h') ∧ KM m h' := by
  have hT := spT_ok H
  have hB := H.1
  obtain ⟨h', e, K, M⟩ := laysSpots_m hn H
  have e2 : h' 122 = m 122 := K.r (by decide)
  refine ⟨h', ?_, K⟩
  unfold MX12_spot spotS
  rw [e, bndh_s, M.1, w32_i (x := (spT m).1 - 1) (by omega), in_m, bndp_s]
  by_cases h1 : 0 ≤ x ∧ x ≤ (spT m).1 - 1
  · rw [if_pos h1, if_neg (by decide), in_m, bndp_s]
    by_cases h2 : 0 ≤ y ∧ y ≤ 3
    · rw [if_pos h2, if_pos (by decide), if_pos (c := (0 ≤ x ∧ x < (spT m).1) ∧ (0 ≤ y ∧ y ≤ 3)) (by omega)]
      have c := M.2 x (by omega) (by omega)
      have b := hT.2 x (by omega) (by omega)
      rw [al540, al1580, c.1, c.2, e2, w32_i (x := 3 * (spT m).2.1 x) (by omega), w32_i (x := 3 * (spT m).2.1 x + y) (by omega)]
      by_cases h5 : y ≠ 3
      · rw [if_pos h5, if_pos h5, grd_t (by omega), grd_t (by omega)]
      · rw [if_neg h5, if_neg h5, grd_t (by omega)]
    · rw [if_neg h2, if_neg (by decide), if_neg (fun q => h2 q.2)]
  · rw [if_neg h1, if_pos rfl, if_neg (by omega)]
def comesS (m : Hp) (a b c : Int) : Int := if fnd (ptb m (spT m).2.1 a b c) (spT m).1.toNat 0 = (spT m).1 then 0 else (spT m).2.2 (fnd (ptb m (spT m).2.1 a b c) (spT m).1.toNat 0)
theorem comes_a (hn : 100 ≤ n) {h : Hp} (H : WFp m) (C : CSp m h (spT m)) (a b c : Int) : MX11_comes n a b c h = some (comesS m a b c) := by
  have hT := spT_ok H
  have hf := (fnd_ok (p := ptb m (spT m).2.1 a b c) (spT m).1.toNat 0).1
  unfold MX11_comes comesS
  rw [find_c hn C hT.1.1 hT.1.2, bndp_s, ltt_e]
  by_cases hz : fnd (ptb m (spT m).2.1 a b c) (spT m).1.toNat 0 = (spT m).1
  · rw [if_pos hz, if_pos hz, if_neg (by decide)]
  · rw [if_neg hz, if_neg hz, if_pos (by omega), al540, grd_t (by omega), (C.2 _ hf.1 (by omega)).2]
theorem comes_l {h : Hp} (H : WFp m) (K : KM m h) (M : MSp h (spT m)) {a b c : Int} : ∀ (r f : Nat) (x : Int), x + r = (spT m).1 → r < f → 0 ≤ x → BX12_comes_7 n f a b c x h = some (if fnd (ptb m (spT m).2.1 a b c) r x = (spT m).1 then 0 else (spT m).2.2 (fnd (ptb m (spT m).2.1 a b c) r x), h)
  | 0, f + 1, x, hx, hf, x0 => by
    rw [BX12_comes_7, M.1, if_pos (by omega)]
    show _ = some (if x = (spT m).1 then 0 else (spT m).2.2 x, h)
    rw [if_pos (by omega)]
  | r + 1, f + 1, x, hx, hf, x0 => by
    have hT := spT_ok H
    have hB := H.1
    have c1 := M.2 x x0 (by omega)
    have b1 := hT.2 x x0 (by omega)
    have e2 : h 122 = m 122 := K.r (by decide)
    have ih := comes_l H K M (a := a) (b := b) (c := c) r f (x + 1) (by omega) (by omega) (by omega)
    have hp : ptb m (spT m).2.1 a b c x = decide (m 122 (3 * (spT m).2.1 x) = a ∧ m 122 (3 * (spT m).2.1 x + 1) = b ∧ m 122 (3 * (spT m).2.1 x + 2) = c) := rfl
    rw [BX12_comes_7, M.1, if_neg (by omega), al540, al1580, grd_t (by omega), c1.1, c1.2, ltt_e, w32_i (x := 3 * (spT m).2.1 x) (by omega), w32_i (x := 3 * (spT m).2.1 x + 1) (by omega), w32_i (x := 3 * (spT m).2.1 x + 2) (by omega), grd_t (by omega), e2, grd_t (by omega), grd_t (by omega), grd_t (by omega)]
    simp only [ltt_e]
    rw [w32_i (x := x + 1) (by omega), ih, fnd_s, hp]
    by_cases h1 : m 122 (3 * (spT m).2.1 x) = a
    · rw [if_neg (fun q => q h1)]
      by_cases h2 : m 122 (3 * (spT m).2.1 x + 1) = b
      · rw [if_neg (fun q => q h2)]
        by_cases h3 : m 122 (3 * (spT m).2.1 x + 2) = c
        · rw [if_neg (fun q => q h3), if_pos (show decide (m 122 (3 * (spT m).2.1 x) = a ∧ m 122 (3 * (spT m).2.1 x + 1) = b ∧ m 122 (3 * (spT m).2.1 x + 2) = c) = true by rw [decide_eq_true_eq]; exact ⟨h1, h2, h3⟩), if_neg (show ¬ x = (spT m).1 by omega)]
        · rw [if_pos h3, if_neg (show ¬ decide (m 122 (3 * (spT m).2.1 x) = a ∧ m 122 (3 * (spT m).2.1 x + 1) = b ∧ m 122 (3 * (spT m).2.1 x + 2) = c) = true by rw [decide_eq_true_eq]; exact fun q => h3 q.2.2)]
      · rw [if_pos h2, if_neg (show ¬ decide (m 122 (3 * (spT m).2.1 x) = a ∧ m 122 (3 * (spT m).2.1 x + 1) = b ∧ m 122 (3 * (spT m).2.1 x + 2) = c) = true by rw [decide_eq_true_eq]; exact fun q => h2 q.2.1)]
    · rw [if_pos h1, if_neg (show ¬ decide (m 122 (3 * (spT m).2.1 x) = a ∧ m 122 (3 * (spT m).2.1 x + 1) = b ∧ m 122 (3 * (spT m).2.1 x + 2) = c) = true by rw [decide_eq_true_eq]; exact fun q => h1 q.1)]
theorem comes_b (hn : 100 ≤ n) (H : WFp m) (a b c : Int) : ∃ h', MX12_comes n a b c m = some (comesS m a b c, h') ∧ KM m h' := by
  have hT := spT_ok H
  obtain ⟨h', e, K, M⟩ := laysSpots_m hn H
  refine ⟨h', ?_, K⟩
  unfold MX12_comes LX12_comes_7 comesS
  rw [e, bndh_s, ltt_e, comes_l H K M (spT m).1.toNat n 0 (by omega) (by omega) (by decide)]
end
