/-! BLOCKS. -/
def blockS (m : Hp) (x y : Int) : Int := if 0 ≤ x ∧ x < nB m then (if 0 ≤ y ∧ y ≤ 2 then m 122 (3 * (x + 1) + y) else if y = 3 then ln m x else if y = 4 then m 123 x else if y = 5 then lb m x 0 else if y = 6 then lb m x 3 else if y = 7 then limS m (m 115 6) (m 113 45) x else if y = 8 then passS m (m 115 7) (m 115 6) x else if y = 9 then m 124 x else -1) else -1
section
variable {n : Nat} {m : Hp}
theorem passes_m (hn : 200 ≤ n) {g : Hp} (H : WFp m) {tol j : Int} (hj : 1 ≤ j ∧ j ≤ 50) (Q : PR m g tol j) {b : Int} (b0 : 0 ≤ b) (b1 : b < nB m) : ∃ h', MX12_passes n b g = some (passS m tol j b, h') ∧ KR 139 g h' := by
  have hB := H.1
  have K0 : KR 139 g (up (up g 139 0 0) 139 (nB m) 0) := KR.rf.put.put
  obtain ⟨h1, e1, K1, A1⟩ := pm_1 (n := n) H hj Q (y := b) (nB m - 1).toNat n 1 (up (up g 139 0 0) 139 (nB m) 0) (by omega) (by omega) (by decide) K0 (fun z z0 z1 zz => by
    have ez : pP m tol j z = 0 := if_neg (by omega)
    rw [ez]
    by_cases hz' : z = nB m
    · rw [hz', up_s]
    · rw [up_i hz']
      have : z = 0 := by omega
      rw [this, up_s])
  obtain ⟨h2, e2, K2, A2, B2⟩ := pm_2 (n := n) (by omega) H (by omega) Q (y := b) (nB m - 1).toNat n (nB m - 1) h1 _ (by omega) (by omega) (by omega) K1 A1 (pP_b H hj) (if_neg (by omega))
  obtain ⟨h3, e3, K3⟩ := pm_3 (n := n) (by omega) H Q (y := b) b0 b1 (nB m).toNat n 0 h2 _ (by omega) (by omega) (by decide) K2 A2 B2
  refine ⟨h3, ?_, K3⟩
  unfold MX12_passes LX12_passes_19
  rw [al540, grd_t (by decide), ltt_e, up_c (by decide), Q.1, grd_t (by omega), ltt_e, ltt_e, e1, bndx_s]
  show JX12_passes_52 n b h1 = _
  unfold JX12_passes_52 LX12_passes_59
  rw [ltt_e, K1 113 (by decide), Q.1, w32_i (x := nB m - 1) (by omega), e2, bndx_s]
  show JX12_passes_119 n b h2 = _
  unfold JX12_passes_119 LX12_passes_121
  rw [ltt_e, e3]
  rfl
theorem block_a (hn : 200 ≤ n) {h : Hp} (H : WFp m) {w : Int} (hw : h 0 2 = w) (C : CE m h 50 w (m 115 7) (m 115 6) (m 113 45)) (x y : Int) : ∃ h', MX11_block n x y h = some (blockS m x y, h') ∧ KR 56 h h' := by
  have hB := H.1
  obtain ⟨hD, R, c3, c4, c5, -⟩ := C
  unfold MX11_block
  rw [hw, has_c R, bndp_s]
  by_cases hx : 0 ≤ x ∧ x < nB m
  · have r := R.2.2.2.1 x hx.1 hx.2
    have e7 : h 53 x = limS m (m 115 6) (m 113 45) x := c5 x hx.1 hx.2
    have hX : 0 ≤ x ∧ x < 64 := by omega
    rw [if_pos hx, if_neg (by decide)]
    have eS : blockS m x y = (if 0 ≤ y ∧ y ≤ 2 then m 122 (3 * (x + 1) + y) else if y = 3 then ln m x else if y = 4 then m 123 x else if y = 5 then lb m x 0 else if y = 6 then lb m x 3 else if y = 7 then limS m (m 115 6) (m 113 45) x else if y = 8 then passS m (m 115 7) (m 115 6) x else if y = 9 then m 124 x else -1) := if_pos hx
    rw [eS]
    by_cases y0 : y < 0
    · rw [if_pos y0, if_neg (by omega), if_neg (by omega), if_neg (by omega), if_neg (by omega), if_neg (by omega), if_neg (by omega), if_neg (by omega), if_neg (by omega)]
      exact ⟨h, rfl, KR.rf⟩
    · by_cases y9 : y ≤ 9
      · rw [if_neg y0, if_pos y9, al532, grd_t hX, grd_t hX, grd_t hX, grd_t hX, grd_t hX, grd_t hX, r.1, r.2.2.1, r.2.2.2.1, r.2.2.2.2.1, r.2.2.2.2.2, e7]
        by_cases y3 : y = 3
        · rw [if_pos y3, if_neg (show ¬ (0 ≤ y ∧ y ≤ 2) by omega), if_pos y3]
          exact ⟨h, rfl, KR.rf⟩
        · by_cases y4 : y = 4
          · rw [if_neg y3, if_pos y4, if_neg (show ¬ (0 ≤ y ∧ y ≤ 2) by omega), if_neg y3, if_pos y4]
            exact ⟨h, rfl, KR.rf⟩
          · by_cases y5 : y = 5
            · rw [if_neg y3, if_neg y4, if_pos y5, if_neg (show ¬ (0 ≤ y ∧ y ≤ 2) by omega), if_neg y3, if_neg y4, if_pos y5]
              exact ⟨h, rfl, KR.rf⟩
            · by_cases y6 : y = 6
              · rw [if_neg y3, if_neg y4, if_neg y5, if_pos y6, if_neg (show ¬ (0 ≤ y ∧ y ≤ 2) by omega), if_neg y3, if_neg y4, if_neg y5, if_pos y6]
                exact ⟨h, rfl, KR.rf⟩
              · by_cases y7 : y = 7
                · rw [if_neg y3, if_neg y4, if_neg y5, if_neg y6, if_pos y7, if_neg (show ¬ (0 ≤ y ∧ y ≤ 2) by omega), if_neg y3, if_neg y4, if_neg y5, if_neg y6, if_pos y7]
                  exact ⟨h, rfl, KR.rf⟩
                · by_cases y8 : y = 8
                  · obtain ⟨h', e, K⟩ := passInto_c (L := 52) hn H (by omega) R c3 c4.1 H.2.2.1 (fun i i0 i1 => (c4.2.2 i i0 i1).2) hx.1 hx.2
                    rw [if_neg y3, if_neg y4, if_neg y5, if_neg y6, if_neg y7, if_pos y8, if_neg (show ¬ (0 ≤ y ∧ y ≤ 2) by omega), if_neg y3, if_neg y4, if_neg y5, if_neg y6, if_neg y7, if_pos y8, e, bnd_s]
                    exact ⟨h', rfl, K⟩
                  · by_cases yy : y = 9
                    · rw [if_neg y3, if_neg y4, if_neg y5, if_neg y6, if_neg y7, if_neg y8, if_pos yy, if_neg (show ¬ (0 ≤ y ∧ y ≤ 2) by omega), if_neg y3, if_neg y4, if_neg y5, if_neg y6, if_neg y7, if_neg y8, if_pos yy]
                      exact ⟨h, rfl, KR.rf⟩
                    · have p := R.2.2.1 y (x + 1) (by omega) (by omega) (by omega) (by omega)
                      rw [if_neg y3, if_neg y4, if_neg y5, if_neg y6, if_neg y7, if_neg y8, if_neg yy, if_pos (show 0 ≤ y ∧ y ≤ 2 by omega), al50, al540, w32_i (x := x + 1) (by omega), grd_t (by omega), grd_t (by omega), p]
                      exact ⟨h, rfl, KR.rf⟩
      · rw [if_neg y0, if_neg y9, if_neg (by omega), if_neg (by omega), if_neg (by omega), if_neg (by omega), if_neg (by omega), if_neg (by omega), if_neg (by omega), if_neg (by omega)]
        exact ⟨h, rfl, KR.rf⟩
  · rw [if_neg hx, if_pos rfl, show blockS m x y = -1 from if_neg hx]
    exact ⟨h, rfl, KR.rf⟩
theorem LD.pr (H : WFp m) {h : Hp} {tol j p : Int} (D : LD m tol j p h) : PR m h tol j := by
  have hB := H.1
  obtain ⟨K, ej, er, ea, ec⟩ := D
  refine ⟨K.eN, ej, fun i i0 i1 => ⟨(ea i i0 i1).2.1, by rw [K.r (c := 125) (by decide)]; rfl⟩, fun i i0 i1 => ?_⟩
  by_cases hi : i < 64
  · exact (ec i i0 (by omega) i1).2.2
  · omega
theorem block_b (hn : 200 ≤ n) (H : WFp m) (hp : 1 ≤ m 113 45 ∧ m 113 45 ≤ 200) (x y : Int) : ∃ h', MX12_block n x y m = some (blockS m x y, h') ∧ KM m h' := by
  have hB := H.1
  unfold MX12_block
  rw [show m 113 6 = nB m from rfl, w32_i (x := nB m - 1) (by omega), in_m, bndp_s]
  by_cases hx : 0 ≤ x ∧ x < nB m
  · obtain ⟨h', e, D⟩ := laysNow_m (n := n) (by omega) H hp
    have P := D.pr H
    obtain ⟨K, ej, er, ea, ec⟩ := D
    obtain ⟨a1, a2, a3⟩ := ea x hx.1 hx.2
    have e25 : h' 125 x = ln m x := by rw [K.r (c := 125) (by decide)]; rfl
    have hX : 0 ≤ x ∧ x < 64 := by omega
    have eS : blockS m x y = (if 0 ≤ y ∧ y ≤ 2 then m 122 (3 * (x + 1) + y) else if y = 3 then ln m x else if y = 4 then m 123 x else if y = 5 then lb m x 0 else if y = 6 then lb m x 3 else if y = 7 then limS m (m 115 6) (m 113 45) x else if y = 8 then passS m (m 115 7) (m 115 6) x else if y = 9 then m 124 x else -1) := if_pos hx
    have J : 0 ≤ y ∧ y ≤ 2 → JX12_block_76 n x y h' = some (m 122 (3 * (x + 1) + y), h') := fun hy => by
      unfold JX12_block_76
      rw [w32_i (x := x + 1) (by omega), w32_i (x := 3 * (x + 1)) (by omega), w32_i (x := 3 * (x + 1) + y) (by omega), al1580, grd_t (by omega), K.r (c := 122) (by decide)]
    rw [eS, if_pos (show 0 ≤ x ∧ x ≤ nB m - 1 by omega), if_pos (by decide), e, bndh_s, al532, grd_t hX, grd_t hX, grd_t hX, grd_t hX, grd_t hX, grd_t hX, a1, a2, a3, e25, K.r (c := 123) (by decide), K.r (c := 124) (by decide)]
    by_cases y0 : y = 0
    · rw [if_pos y0, J (by omega), if_pos (by omega)]
      exact ⟨h', rfl, K⟩
    · by_cases y1 : y = 1
      · rw [if_neg y0, if_pos y1, J (by omega), if_pos (by omega)]
        exact ⟨h', rfl, K⟩
      · by_cases y2 : y = 2
        · rw [if_neg y0, if_neg y1, if_pos y2, J (by omega), if_pos (by omega)]
          exact ⟨h', rfl, K⟩
        · rw [if_neg y0, if_neg y1, if_neg y2, if_neg (show ¬ (0 ≤ y ∧ y ≤ 2) by omega)]
          by_cases y3 : y = 3
          · rw [if_pos y3, if_pos y3]
            exact ⟨h', rfl, K⟩
          · by_cases y4 : y = 4
            · rw [if_neg y3, if_pos y4, if_neg y3, if_pos y4]
              exact ⟨h', rfl, K⟩
            · by_cases y5 : y = 5
              · rw [if_neg y3, if_neg y4, if_pos y5, if_neg y3, if_neg y4, if_pos y5]
                exact ⟨h', rfl, K⟩
              · by_cases y6 : y = 6
                · rw [if_neg y3, if_neg y4, if_neg y5, if_pos y6, if_neg y3, if_neg y4, if_neg y5, if_pos y6]
                  exact ⟨h', rfl, K⟩
                · by_cases y7 : y = 7
                  · rw [if_neg y3, if_neg y4, if_neg y5, if_neg y6, if_pos y7, if_neg y3, if_neg y4, if_neg y5, if_neg y6, if_pos y7]
                    exact ⟨h', rfl, K⟩
                  · by_cases y8 : y = 8
                    · obtain ⟨h2, e2, K2⟩ := passes_m hn H H.2.2.1 P hx.1 hx.2
                      rw [if_neg y3, if_neg y4, if_neg y5, if_neg y6, if_neg y7, if_pos y8, if_neg y3, if_neg y4, if_neg y5, if_neg y6, if_neg y7, if_pos y8, e2, bnd_s]
                      exact ⟨h2, rfl, K.tr (K2.km (by decide))⟩
                    · rw [if_neg y3, if_neg y4, if_neg y5, if_neg y6, if_neg y7, if_neg y8, if_neg y3, if_neg y4, if_neg y5, if_neg y6, if_neg y7, if_neg y8]
                      by_cases yy : y = 9
                      · rw [if_pos yy, if_pos yy]
                        exact ⟨h', rfl, K⟩
                      · rw [if_neg yy, if_neg yy]
                        exact ⟨h', rfl, K⟩
  · rw [if_neg (show ¬ (0 ≤ x ∧ x ≤ nB m - 1) by omega), if_neg (by decide), show blockS m x y = -1 from if_neg hx]
    exact ⟨m, rfl, KM.rf⟩
end
