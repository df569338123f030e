/-! CORNERS. -/
def cornerS (m : Hp) (x y : Int) : Int := if 0 ≤ x ∧ x + 1 < nB m then (if y = 0 then shp m x else if y = 1 then cutS m (m 115 7) x else if y = 2 then paceS m (m 115 7) (m 115 6) x else -1) else -1
section
variable {n : Nat} {m : Hp}
theorem corner_a {h : Hp} (H : WFp m) {w p : Int} (hw : h 0 2 = w) (C : CE m h 50 w (m 115 7) (m 115 6) p) (x y : Int) : MX11_corner x y h = some (cornerS m x y) := by
  have hB := H.1
  obtain ⟨-, R, c3, c4, c5, -⟩ := C
  unfold MX11_corner cornerS MX10_hasCorner
  rw [hw, R.1.2.2.1, w32_i (x := nB m - 1) (by omega)]
  by_cases h1 : x < 0
  · rw [if_pos h1, bndp_s, if_neg (by decide), if_neg (fun q => by omega)]
  · rw [if_neg h1]
    by_cases h2 : nB m - 1 ≤ x
    · rw [if_pos h2, bndp_s, if_neg (by decide), if_neg (fun q => by omega)]
    · have hx : 0 ≤ x ∧ x + 1 < nB m := by omega
      rw [if_neg h2, bndp_s, if_pos (by decide), if_pos hx, al532]
      have hX : 0 ≤ x ∧ x < 64 := by omega
      have e0 := R.2.2.2.2 x hx.1 hx.2
      have e1 : h 54 x = cutS m (m 115 7) x := (c4.2.2 x hx.1 hx.2).1
      have e2 : h 55 x = paceS m (m 115 7) (m 115 6) x := (c4.2.2 x hx.1 hx.2).2
      rw [grd_t hX, grd_t hX, grd_t hX, e0, e1, e2]
      by_cases y0 : y = 0
      · rw [if_pos y0, if_pos y0]
      · rw [if_neg y0, if_neg y0]
        by_cases y1 : y = 1
        · rw [if_pos y1, if_pos y1]
        · rw [if_neg y1, if_neg y1]
          by_cases y2 : y = 2
          · rw [if_pos y2, if_pos y2]
          · rw [if_neg y2, if_neg y2]
theorem corner_b (hn : 100 ≤ n) (H : WFp m) (hp : 1 ≤ m 113 45 ∧ m 113 45 ≤ 200) (x y : Int) : ∃ h', MX12_corner n x y m = some (cornerS m x y, h') ∧ KM m h' := by
  have hB := H.1
  unfold MX12_corner cornerS
  rw [show m 113 6 = nB m from rfl, w32_i (x := nB m - 2) (by omega), in_m, bndp_s]
  by_cases hx : 0 ≤ x ∧ x + 1 < nB m
  · obtain ⟨h', e, D⟩ := laysNow_m hn H hp
    obtain ⟨K, ej, er, ea, ec⟩ := D
    obtain ⟨e0, e1, e2⟩ := ec x hx.1 (by omega) hx.2
    have hX : 0 ≤ x ∧ x < 64 := by omega
    refine ⟨h', ?_, K⟩
    rw [if_pos (show 0 ≤ x ∧ x ≤ nB m - 2 by omega), if_pos (by decide), if_pos hx, e, bndh_s, al532, grd_t hX, grd_t hX, grd_t hX, e0, e1, e2]
    by_cases y0 : y = 0
    · rw [if_pos y0, if_pos y0]
    · rw [if_neg y0, if_neg y0]
      by_cases y1 : y = 1
      · rw [if_pos y1, if_pos y1]
      · rw [if_neg y1, if_neg y1]
        by_cases y2 : y = 2
        · rw [if_pos y2, if_pos y2]
        · rw [if_neg y2, if_neg y2]
  · rw [if_neg (show ¬ (0 ≤ x ∧ x ≤ nB m - 2) by omega), if_neg (by decide), if_neg hx]
    exact ⟨m, rfl, KM.rf⟩
end
