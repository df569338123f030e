/-! WHAT BINDS A BLOCK. -/
abbrev slw (m : Hp) (b a : Int) : Prop := gD m b a ≠ 0 ∧ m 115 a * ln m b / jabs (gD m b a) = lb m b 0
theorem mn3 {N q0 q1 q2 d0 d1 d2 : Int} (h : (d0 ≠ 0 ∧ q0 < N) ∨ (d1 ≠ 0 ∧ q1 < N) ∨ (d2 ≠ 0 ∧ q2 < N)) :
    (d0 ≠ 0 ∧ q0 = (if d2 = 0 then (if d1 = 0 then (if d0 = 0 then N else min N q0) else min (if d0 = 0 then N else min N q0) q1) else min (if d1 = 0 then (if d0 = 0 then N else min N q0) else min (if d0 = 0 then N else min N q0) q1) q2)) ∨
    (d1 ≠ 0 ∧ q1 = (if d2 = 0 then (if d1 = 0 then (if d0 = 0 then N else min N q0) else min (if d0 = 0 then N else min N q0) q1) else min (if d1 = 0 then (if d0 = 0 then N else min N q0) else min (if d0 = 0 then N else min N q0) q1) q2)) ∨
    (d2 ≠ 0 ∧ q2 = (if d2 = 0 then (if d1 = 0 then (if d0 = 0 then N else min N q0) else min (if d0 = 0 then N else min N q0) q1) else min (if d1 = 0 then (if d0 = 0 then N else min N q0) else min (if d0 = 0 then N else min N q0) q1) q2)) := by
  by_cases z0 : d0 = 0
  · by_cases z1 : d1 = 0
    · by_cases z2 : d2 = 0
      · omega
      · simp only [if_pos z0, if_pos z1, if_neg z2]
        omega
    · by_cases z2 : d2 = 0
      · simp only [if_pos z0, if_neg z1, if_pos z2]
        omega
      · simp only [if_pos z0, if_neg z1, if_neg z2]
        omega
  · by_cases z1 : d1 = 0
    · by_cases z2 : d2 = 0
      · simp only [if_neg z0, if_pos z1, if_pos z2]
        omega
      · simp only [if_neg z0, if_pos z1, if_neg z2]
        omega
    · by_cases z2 : d2 = 0
      · simp only [if_neg z0, if_neg z1, if_pos z2]
        omega
      · simp only [if_neg z0, if_neg z1, if_neg z2]
        omega
theorem slw_ex {m : Hp} (H : WFp m) {b : Int} (b0 : 0 ≤ b) (b1 : b < nB m) : slw m b 0 ∨ slw m b 1 ∨ slw m b 2 := by
  have hL := (wf_blk H b0 b1).1
  obtain ⟨a, ⟨a0, a1⟩, hz', hq⟩ := (wf_blk H b0 b1).2.2
  have hs := wf_set H (k := 0) (Or.inl rfl) a0 a1
  have h2 := q2_ok hs hL (wf_go H b0 b1 a0 a1) hz' hq
  rw [Int.zero_add] at h2 hs
  refine mn3 (N := 163840000) ?_
  rcases (show a = 0 ∨ a = 1 ∨ a = 2 by omega) with rfl | rfl | rfl
  · exact Or.inl ⟨hz', by omega⟩
  · exact Or.inr (Or.inl ⟨hz', by show m 115 1 * ln m b / jabs (gD m b 1) < 163840000; omega⟩)
  · exact Or.inr (Or.inr ⟨hz', by show m 115 2 * ln m b / jabs (gD m b 2) < 163840000; omega⟩)
def bindS (m : Hp) (b : Int) : Int :=
  if 0 ≤ b ∧ b < nB m then
    (if 1 ≤ min (m 123 b * m 113 45 / 100) (lb m b 0) / m 115 6 ∧ min (m 123 b * m 113 45 / 100) (lb m b 0) / m 115 6 ≤ 100 then
      (if lb m b 0 < m 123 b * m 113 45 / 100 then (if slw m b 0 then 0 else if slw m b 1 then 1 else 2) else 3) else 4) else -1
section
variable {n : Nat} {m : Hp}
theorem slow_by {h : Hp} (H : WFp m) {w : Int} (R : RW m h w) {b a : Int} (b0 : 0 ≤ b) (b1 : b < nB m) (a0 : 0 ≤ a) (a1 : a < 3) : MX10_isSlowedBy w b a h = some (if slw m b a then 1 else 0) := by
  have hB := H.1
  have hL := (wf_blk H b0 b1).1
  have hs := wf_set H (k := 0) (Or.inl rfl) a0 a1
  rw [Int.zero_add] at hs
  have hd := wf_go H b0 b1 a0 a1
  have r := R.2.2.2.1 b b0 b1
  unfold MX10_isSlowedBy
  rw [step_f H R b0 b1 a0 a1, bndp_s, ltt_e]
  by_cases hz' : gD m b a = 0
  · rw [if_pos hz', if_neg (c := slw m b a) (fun q => q.1 hz')]
  · have hj := jabs_p hd hz'
    have hq := qt_ok hs hL hd hz'
    rw [if_neg hz', al68, al532, grd_t (by omega)]
    unfold MX10_rateAlong
    rw [al532, grd_t (by omega), R.2.1 a a0 (by omega), r.1, w64_i (x := m 115 a * ln m b) (by omega), share_n (by omega) (by omega) (by omega), bndp_s, bndp_s, grd_t (by omega), r.2.2.2.1]
    by_cases hs' : m 115 a * ln m b / jabs (gD m b a) = lb m b 0
    · rw [if_neg (fun q => q hs'), if_pos (c := slw m b a) ⟨hz', hs'⟩]
    · rw [if_pos hs', if_neg (c := slw m b a) (fun q => hs' q.2)]
theorem binds_a {h : Hp} (H : WFp m) {w : Int} (R : RW m h w) (hw : h 0 2 = w) (hL : h 52 0 = w) (hJ : h 52 1 = m 115 6) (hP : h 52 2 = m 113 45) (hp : 1 ≤ m 113 45 ∧ m 113 45 ≤ 200) (b : Int) : MX11_binds b h = some (bindS m b) := by
  have hB := H.1
  unfold MX11_binds bindS
  rw [hw, has_c R, bndp_s]
  by_cases hb : 0 ≤ b ∧ b < nB m
  · have F := freeLimit_c H R hL H.2.2.1 hp hJ hP hb.1 hb.2
    rw [if_pos hb, if_neg (by decide), if_pos hb]
    unfold MX4_bindOf
    rw [F.1, F.2.1, bndp_s, ltt_e, bndp_s, al532, grd_t (by omega), hL, (R.2.2.2.1 b hb.1 hb.2).2.2.2.1, slow_by H R hb.1 hb.2 (by decide) (by decide), bndp_s, slow_by H R hb.1 hb.2 (by decide) (by decide), bndp_s]
    by_cases h1 : min (m 123 b * m 113 45 / 100) (lb m b 0) / m 115 6 < 1
    · rw [if_pos h1, if_neg (fun q => by omega), bndp_s]
    · rw [if_neg h1]
      by_cases h2 : min (m 123 b * m 113 45 / 100) (lb m b 0) / m 115 6 ≤ 100
      · rw [if_pos h2, if_pos (show 1 ≤ min (m 123 b * m 113 45 / 100) (lb m b 0) / m 115 6 ∧ min (m 123 b * m 113 45 / 100) (lb m b 0) / m 115 6 ≤ 100 from ⟨by omega, h2⟩)]
        by_cases h3 : lb m b 0 < m 123 b * m 113 45 / 100
        · rw [if_pos h3, if_pos h3]
          by_cases s0 : slw m b 0
          · rw [if_pos s0, if_neg (by decide), if_pos s0, bndp_s]
          · rw [if_neg s0, if_pos rfl, if_neg s0]
            by_cases s1 : slw m b 1
            · rw [if_pos s1, if_neg (by decide), if_pos s1, bndp_s]
            · rw [if_neg s1, if_pos rfl, if_neg s1, bndp_s]
        · rw [if_neg h3, if_neg h3, bndp_s]
      · rw [if_neg h2, if_neg (fun q => h2 q.2), bndp_s]
  · rw [if_neg hb, if_pos rfl, if_neg hb]
theorem bind_st {f : Nat} {h : Hp} (H : WFp m) (K : KM m h) {b a : Int} (b0 : 0 ≤ b) (b1 : b < nB m) (e : h 132 b = lb m b 0) (a0 : 0 ≤ a) (a1 : a < 3) : BX12_binds_82 n (f + 1) b a h = if slw m b a then some (a, h) else BX12_binds_82 n f b (a + 1) h := by
  have hB := H.1
  have hL := (wf_blk H b0 b1).1
  have hs := wf_set H (k := 0) (Or.inl rfl) a0 a1
  rw [Int.zero_add] at hs
  have hd := wf_go H b0 b1 a0 a1
  have eg : MX12_goes b a h = some (gD m b a) := by
    rw [goes_m (K.wf H) b0 (by rw [K.eN]; exact b1) a0 a1, K.eG]
  have e15 : h 115 a = m 115 a := by rw [K.r (c := 115) (by decide)]
  have e25 : h 125 b = ln m b := by rw [K.r (c := 125) (by decide)]; rfl
  rw [BX12_binds_82, eg, bndp_s, bndp_s, ltt_e, w32_i (x := a + 1) (by omega)]
  by_cases hz' : gD m b a = 0
  · rw [if_pos hz', if_neg (c := slw m b a) (fun q => q.1 hz')]
  · have hj := jabs_p hd hz'
    have hq := qt_ok hs hL hd hz'
    rw [if_neg hz', al84, al532, grd_t (by omega), grd_t (by omega), grd_t (by omega), grd_t (by omega), e, e15, e25, w64_i (x := m 115 a * ln m b) (by omega), Int.tdiv_eq_ediv_of_nonneg (by omega), w64_i (x := m 115 a * ln m b / jabs (gD m b a)) (by omega)]
    simp only [lcp_eq, ltt_e]
    by_cases hs' : m 115 a * ln m b / jabs (gD m b a) = lb m b 0
    · rw [if_pos hs', if_pos (c := slw m b a) ⟨hz', hs'⟩]
    · rw [if_neg hs', if_neg (c := slw m b a) (fun q => hs' q.2)]
theorem binds_b (hn : 100 ≤ n) (H : WFp m) (hp : 1 ≤ m 113 45 ∧ m 113 45 ≤ 200) (b : Int) : ∃ h', MX12_binds n b m = some (bindS m b, h') ∧ KM m h' := by
  have hB := H.1
  unfold MX12_binds bindS
  rw [show m 113 6 = nB m from rfl, w32_i (x := nB m - 1) (by omega), in_m, bndp_s]
  by_cases hb : 0 ≤ b ∧ b < nB m
  · obtain ⟨h', e, D⟩ := laysNow_m hn H hp
    obtain ⟨K, ej, er, ea, ec⟩ := D
    have hj := H.2.2.1
    have hfd := (H.2.2.2.2.2.1 b hb.1 hb.2).2.2.2.1
    have p0 : 0 ≤ m 123 b * m 113 45 := Int.mul_nonneg (by omega) (by omega)
    have p1 : m 123 b * m 113 45 ≤ 5000 * 200 := Int.mul_le_mul (by omega) (by omega) (by omega) (by decide)
    have f1 := lb_ok H (k := 0) (Or.inl rfl) hb.1 hb.2
    have e45 : h' 113 45 = m 113 45 := K.2 45 (by decide) (by decide) (by decide) (by decide)
    have e23 : h' 123 b = m 123 b := by rw [K.r (c := 123) (by decide)]
    have eb := (ea b hb.1 hb.2).1
    have q0 : 0 ≤ min (m 123 b * m 113 45 / 100) (lb m b 0) := by omega
    have q1 : min (m 123 b * m 113 45 / 100) (lb m b 0) / m 115 6 ≤ min (m 123 b * m 113 45 / 100) (lb m b 0) := Int.ediv_le_self _ q0
    have q2 : 0 ≤ min (m 123 b * m 113 45 / 100) (lb m b 0) / m 115 6 := Int.ediv_nonneg q0 (by omega)
    refine ⟨h', ?_, K⟩
    rw [if_pos (show 0 ≤ b ∧ b ≤ nB m - 1 by omega), if_pos (by decide), if_pos hb, e, bndh_s, al532, grd_t (by omega), grd_t (by decide), ltt_e, grd_t (by omega), grd_t (by omega), ltt_e, grd_t (by omega), e45, e23, eb, ej, w32_i (x := m 123 b * m 113 45) (by omega), Int.tdiv_eq_ediv_of_nonneg p0, w32_i (x := m 123 b * m 113 45 / 100) (by omega), Int.tdiv_eq_ediv_of_nonneg q0, w32_i (x := min (m 123 b * m 113 45 / 100) (lb m b 0) / m 115 6) (by omega), in_m, bndp_s]
    by_cases h1 : 1 ≤ min (m 123 b * m 113 45 / 100) (lb m b 0) / m 115 6 ∧ min (m 123 b * m 113 45 / 100) (lb m b 0) / m 115 6 ≤ 100
    · rw [if_pos h1, if_pos (by decide), if_pos h1]
      by_cases h3 : lb m b 0 < m 123 b * m 113 45 / 100
      · rw [if_pos h3, if_pos h3, ltt_e]
        obtain ⟨n', en⟩ : ∃ n', n = n' + 4 := ⟨n - 4, by omega⟩
        have l : BX12_binds_82 n (n' + 4) b 0 h' = some ((if slw m b 0 then 0 else if slw m b 1 then 1 else 2), h') := by
          rw [bind_st H K hb.1 hb.2 eb (by decide) (by decide)]
          by_cases s0 : slw m b 0
          · rw [if_pos s0, if_pos s0]
          · rw [if_neg s0, if_neg s0, bind_st H K hb.1 hb.2 eb (by decide) (by decide), show (0 + 1 : Int) = 1 from rfl]
            by_cases s1 : slw m b 1
            · rw [if_pos s1, if_pos s1]
            · have s2 : slw m b 2 := (slw_ex H hb.1 hb.2).elim (fun q => absurd q s0) (fun q => q.elim (fun q => absurd q s1) id)
              rw [if_neg s1, if_neg s1, bind_st H K hb.1 hb.2 eb (by decide) (by decide), show (1 + 1 : Int) = 2 from rfl, if_pos s2]
        rw [← en] at l
        exact l
      · rw [if_neg h3, if_neg h3]
    · rw [if_neg h1, if_neg (by decide), if_neg h1]
  · rw [if_neg (show ¬ (0 ≤ b ∧ b ≤ nB m - 1) by omega), if_neg (by decide), if_neg hb]
    exact ⟨m, rfl, KM.rf⟩
end
