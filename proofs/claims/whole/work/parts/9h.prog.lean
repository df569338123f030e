/-! THE PROGRAM THAT IS TOLD, as a program. -/
def lnP (hm : Hp) (b : Int) : Int := rt ((hm 119 (3 * (b + 1) + 0) - hm 119 (3 * b + 0)) * (hm 119 (3 * (b + 1) + 0) - hm 119 (3 * b + 0)) + (hm 119 (3 * (b + 1) + 1) - hm 119 (3 * b + 1)) * (hm 119 (3 * (b + 1) + 1) - hm 119 (3 * b + 1)) + (hm 119 (3 * (b + 1) + 2) - hm 119 (3 * b + 2)) * (hm 119 (3 * (b + 1) + 2) - hm 119 (3 * b + 2)))
def bgP (hm : Hp) : Nat → Int
  | 0 => 0
  | k + 1 => bgP hm k + lnP hm k
/-- the program that is told now, in the cells of one that was told -/
def pv (hm : Hp) : Hp := fun c i => if c = 115 then hm 114 i else if c = 122 then hm 119 i else if c = 123 then hm 120 i else if c = 124 then hm 121 i else if c = 125 then lnP hm i else if c = 126 then bgP hm i.toNat else if c = 113 then (if i = 5 then hm 113 2 else if i = 6 then hm 113 3 else if i = 7 then hm 113 4 else 0) else 0
theorem pv_115 (hm : Hp) (i : Int) : pv hm 115 i = hm 114 i := rfl
theorem pv_122 (hm : Hp) (i : Int) : pv hm 122 i = hm 119 i := rfl
theorem pv_123 (hm : Hp) (i : Int) : pv hm 123 i = hm 120 i := rfl
theorem pv_124 (hm : Hp) (i : Int) : pv hm 124 i = hm 121 i := rfl
theorem pv_125 (hm : Hp) (i : Int) : pv hm 125 i = lnP hm i := rfl
theorem pv_126 (hm : Hp) (i : Int) : pv hm 126 i = bgP hm i.toNat := rfl
theorem pv_5 (hm : Hp) : pv hm 113 5 = hm 113 2 := rfl
theorem pv_6 (hm : Hp) : nB (pv hm) = hm 113 3 := rfl
theorem pv_7 (hm : Hp) : pv hm 113 7 = hm 113 4 := rfl
theorem pv_b (hm : Hp) {b : Int} (hb : 0 ≤ b) : bg (pv hm) (b + 1) = bg (pv hm) b + ln (pv hm) b := by
  show bgP hm (b + 1).toNat = bgP hm b.toNat + lnP hm b
  have e : (b + 1).toNat = b.toNat + 1 := by omega
  have e2 : ((b.toNat : Nat) : Int) = b := by omega
  rw [e]
  show bgP hm b.toNat + lnP hm (b.toNat : Int) = _
  rw [e2]
/-- the first N blocks of a program, with M moves -/
def trP (m : Hp) (N M : Int) : Hp := fun c i => if c = 113 ∧ i = 6 then N else if c = 113 ∧ i = 5 then M else m c i
theorem trP_o {m : Hp} {N M c : Int} (hc : c ≠ 113) : trP m N M c = m c := by
  funext i
  unfold trP
  rw [if_neg (fun q => hc q.1), if_neg (fun q => hc q.1)]
theorem trP_6 {m : Hp} {N M : Int} : nB (trP m N M) = N := rfl
theorem trP_5 {m : Hp} {N M : Int} : trP m N M 113 5 = M := rfl
theorem trP_7 {m : Hp} {N M : Int} : trP m N M 113 7 = m 113 7 := rfl
theorem trP_me {m : Hp} : trP m (nB m) (m 113 5) = m := by
  funext c i
  unfold trP
  by_cases h1 : c = 113 ∧ i = 6
  · rw [if_pos h1, h1.1, h1.2]
    rfl
  · rw [if_neg h1]
    by_cases h2 : c = 113 ∧ i = 5
    · rw [if_pos h2, h2.1, h2.2]
    · rw [if_neg h2]
theorem trP_gD {m : Hp} {N M : Int} : gD (trP m N M) = gD m := by
  funext b a
  unfold gD
  rw [trP_o (by decide)]
theorem trP_ln {m : Hp} {N M : Int} : ln (trP m N M) = ln m := by
  funext b
  unfold ln
  rw [trP_o (by decide)]
theorem trP_bg {m : Hp} {N M : Int} : bg (trP m N M) = bg m := by
  funext b
  unfold bg
  rw [trP_o (by decide)]
theorem trP_wf {m : Hp} (H : WFp m) {N M : Int} (hN : 0 ≤ N ∧ N ≤ nB m) (hM : 0 ≤ M ∧ M ≤ 40) : WFp (trP m N M) := by
  have hB := H.1
  unfold WFp
  rw [trP_6, trP_5, trP_7, trP_bg, trP_o (c := 115) (by decide), trP_o (c := 122) (by decide)]
  refine ⟨by omega, H.2.1, H.2.2.1, H.2.2.2.1, fun k k0 k1 => H.2.2.2.2.1 k k0 (by omega), fun b b0 b1 => ?_, H.2.2.2.2.2.2.1, hM, H.2.2.2.2.2.2.2.2⟩
  have := H.2.2.2.2.2.1 b b0 (by omega)
  unfold WFb at this ⊢
  rw [trP_gD, trP_ln, trP_bg, trP_o (c := 123) (by decide), trP_o (c := 124) (by decide)]
  exact this
/-- what a way holds depends on these numbers alone -/
theorem RW.cg {m m' h : Hp} {w : Int} (R : RW m h w) (hN : nB m ≤ 64) (e6 : nB m' = nB m) (e5 : m' 113 5 = m 113 5) (e7 : m' 113 7 = m 113 7) (e15 : m' 115 = m 115) (e22 : ∀ i, 0 ≤ i → i < 3 * (nB m + 1) → m' 122 i = m 122 i) (eb : ∀ b, 0 ≤ b → b < nB m → m' 123 b = m 123 b ∧ m' 124 b = m 124 b ∧ ln m' b = ln m b) (eg : ∀ b, 0 ≤ b → b ≤ nB m → bg m' b = bg m b) (h0 : 0 ≤ nB m) : RW m' h w := by
  obtain ⟨r1, r2, r3, r4, r5⟩ := R
  have eD : ∀ b a, 0 ≤ b → b < nB m → 0 ≤ a → a < 3 → gD m' b a = gD m b a := fun b a b0 b1 a0 a1 => by
    unfold gD
    rw [e22 _ (by omega) (by omega), e22 _ (by omega) (by omega)]
  have eL : ∀ b k, 0 ≤ b → b < nB m → lb m' b k = lb m b k := fun b k b0 b1 => by
    unfold lb
    rw [e15, (eb b b0 b1).2.2, eD b 0 b0 b1 (by decide) (by decide), eD b 1 b0 b1 (by decide) (by decide), eD b 2 b0 b1 (by decide) (by decide)]
  refine ⟨by rw [e15, e6, e5, e7, eg _ h0 (Int.le_refl _)]; exact r1, fun k k0 k1 => by rw [e15]; exact r2 k k0 k1, fun a k a0 a1 k0 k1 => by rw [e6] at k1; rw [e22 _ (by omega) (by omega)]; exact r3 a k a0 a1 k0 k1, fun b b0 b1 => ?_, fun b b0 b1 => ?_⟩
  · rw [e6] at b1
    obtain ⟨q1, q2, q3⟩ := eb b b0 b1
    rw [q1, q2, q3, eg _ (by omega) (by omega), eL b 0 b0 b1, eL b 3 b0 b1]
    exact r4 b b0 b1
  · rw [e6] at b1
    have es : shp m' b = shp m b := by
      unfold shp bend
      rw [eD b 0 b0 (by omega) (by decide) (by decide), eD b 1 b0 (by omega) (by decide) (by decide), eD b 2 b0 (by omega) (by decide) (by decide), eD (b + 1) 0 (by omega) b1 (by decide) (by decide), eD (b + 1) 1 (by omega) b1 (by decide) (by decide), eD (b + 1) 2 (by omega) b1 (by decide) (by decide), (eb b b0 (by omega)).2.2, (eb (b + 1) (by omega) b1).2.2]
    rw [es]
    exact r5 b b0 b1
section
variable {n : Nat} {m : Hp}
theorem rate_st {f : Nat} {h : Hp} (H : WFp m) {w b k acc a : Int} (hst : MX10_step w b a h = some (gD m b a)) (hl : h (w + 6) b = ln m b) (hr : h (w + 1) (k + a) = m 115 (k + a)) (hk : k = 0 ∨ k = 3) (b0 : 0 ≤ b) (b1 : b < nB m) (a0 : 0 ≤ a) (a1 : a < 3) : BX10_leastRate_6 n (f + 1) w b k acc a h = BX10_leastRate_6 n f w b k (stm acc (m 115 (k + a)) (ln m b) (gD m b a)) (a + 1) h := by
  have hB := H.1
  have hL := (wf_blk H b0 b1).1
  have hs := wf_set H hk a0 a1
  have hd := wf_go H b0 b1 a0 a1
  rw [BX10_leastRate_6, if_neg (by omega), hst, bndp_s, ltt_e, ltt_e, w32_i (x := a + 1) (by omega), w32_i (x := k + a) (by omega)]
  unfold stm
  by_cases hz : gD m b a = 0
  · rw [if_pos hz, if_pos hz]
  · have hj := jabs_p hd hz
    have hq := qt_ok hs hL hd hz
    unfold MX10_rateAlong
    rw [if_neg hz, if_neg hz, al68, al532, grd_t (by omega), hr, hl, grd_t (by omega), w64_i (x := m 115 (k + a) * ln m b) (by omega), share_n (by omega) (by omega) (by omega), bndp_s, bndp_s, ltt_e, ltt_e]
theorem rate_c (hn : 4 ≤ n) {h : Hp} (H : WFp m) {w b k : Int} (hst : ∀ a, 0 ≤ a → a < 3 → MX10_step w b a h = some (gD m b a)) (hl : h (w + 6) b = ln m b) (hr : ∀ i, 0 ≤ i → i < 6 → h (w + 1) i = m 115 i) (hk : k = 0 ∨ k = 3) (b0 : 0 ≤ b) (b1 : b < nB m) : MX10_leastRate n w b k h = some (lb m b k) := by
  unfold MX10_leastRate LX10_leastRate_6
  rw [ltt_e, ltt_e]
  obtain ⟨n', en⟩ : ∃ n', n = n' + 4 := ⟨n - 4, by omega⟩
  have l : BX10_leastRate_6 n (n' + 4) w b k 163840000 0 h = some (lb m b k) := by
    rw [rate_st H (hst 0 (by decide) (by decide)) hl (hr _ (by omega) (by omega)) hk b0 b1 (by decide) (by decide), show (0 + 1 : Int) = 1 from rfl, rate_st H (hst 1 (by decide) (by decide)) hl (hr _ (by omega) (by omega)) hk b0 b1 (by decide) (by decide), show (1 + 1 : Int) = 2 from rfl, rate_st H (hst 2 (by decide) (by decide)) hl (hr _ (by omega) (by omega)) hk b0 b1 (by decide) (by decide), show (2 + 1 : Int) = 3 from rfl, BX10_leastRate_6, if_pos (by decide), Int.add_zero]
    rfl
  rw [← en] at l
  exact l
theorem sharpc_st {f : Nat} {h : Hp} (H : WFp m) {w b acc a : Int} (hst : MX10_step w b a h = some (gD m b a)) (hst' : MX10_step w (b + 1) a h = some (gD m (b + 1) a)) (hl : h (w + 6) b = ln m b) (hl' : h (w + 6) (b + 1) = ln m (b + 1)) (b0 : 0 ≤ b) (b1 : b + 1 < nB m) (a0 : 0 ≤ a) (a1 : a < 3) (hacc : 0 ≤ acc ∧ acc ≤ 12884901888) : BX10_sharpness_5 n (f + 1) w b acc a h = BX10_sharpness_5 n f w b (acc + bend m b a * bend m b a) (a + 1) h := by
  have hB := H.1
  have k1 := wf_blk H b0 (by omega)
  have k2 := wf_blk H (b := b + 1) (by omega) b1
  have q1 := bq_ok k1.1.1 (k1.2.1 a a0 a1)
  have q2 := bq_ok k2.1.1 (k2.2.1 a a0 a1)
  have g1 := wf_go H b0 (by omega) a0 a1
  have g2 := wf_go H (b := b + 1) (by omega) b1 a0 a1
  have bb := bend_ok H b0 b1 a0 a1
  have s1 := sq_le bb.1 bb.2
  have s2 := sq_nn (bend m b a)
  rw [BX10_sharpness_5, if_neg (by omega), w32_i (x := b + 1) (by omega), hst', bndp_s, al532, grd_t (by omega), hl', w64_i (x := gD m (b + 1) a * 32768) (by omega), share_c (by omega) (by omega), bndp_s, hst, bndp_s, grd_t (by omega), hl, w64_i (x := gD m b a * 32768) (by omega), share_c (by omega) (by omega), bndp_s, w32_i (x := (gD m (b + 1) a * 32768).tdiv (ln m (b + 1))) (by omega), w32_i (x := (gD m b a * 32768).tdiv (ln m b)) (by omega), show (gD m (b + 1) a * 32768).tdiv (ln m (b + 1)) - (gD m b a * 32768).tdiv (ln m b) = bend m b a from rfl, w32_i (x := bend m b a) (by omega), ltt_e, square_c, bndp_s, w64_i (x := bend m b a * bend m b a) (by omega), w64_i (x := acc + bend m b a * bend m b a) (by omega), ltt_e, ltt_e, w32_i (x := a + 1) (by omega)]
theorem sharp_c (hn : 40 ≤ n) {h : Hp} (H : WFp m) {w b : Int} (hst : ∀ a, 0 ≤ a → a < 3 → MX10_step w b a h = some (gD m b a)) (hst' : ∀ a, 0 ≤ a → a < 3 → MX10_step w (b + 1) a h = some (gD m (b + 1) a)) (hl : h (w + 6) b = ln m b) (hl' : h (w + 6) (b + 1) = ln m (b + 1)) (b0 : 0 ≤ b) (b1 : b + 1 < nB m) : MX10_sharpness n w b h = some (shp m b) := by
  have sh := shp_ok H b0 b1
  have bb0 := bend_ok H b0 b1 (a := 0) (by decide) (by decide)
  have bb1 := bend_ok H b0 b1 (a := 1) (by decide) (by decide)
  have c0 := sq_le bb0.1 bb0.2
  have c1 := sq_le bb1.1 bb1.2
  have d0 := sq_nn (bend m b 0)
  have d1 := sq_nn (bend m b 1)
  have d2 := sq_nn (bend m b 2)
  unfold MX10_sharpness LX10_sharpness_5
  rw [ltt_e, ltt_e]
  obtain ⟨n', en⟩ : ∃ n', n = n' + 4 := ⟨n - 4, by omega⟩
  have l : BX10_sharpness_5 n (n' + 4) w b 0 0 h = some (shp m b) := by
    rw [sharpc_st H (hst 0 (by decide) (by decide)) (hst' 0 (by decide) (by decide)) hl hl' b0 b1 (by decide) (by decide) (by omega), show (0 + 1 : Int) = 1 from rfl, sharpc_st H (hst 1 (by decide) (by decide)) (hst' 1 (by decide) (by decide)) hl hl' b0 b1 (by decide) (by decide) (by omega), show (1 + 1 : Int) = 2 from rfl, sharpc_st H (hst 2 (by decide) (by decide)) (hst' 2 (by decide) (by decide)) hl hl' b0 b1 (by decide) (by decide) (by omega), show (2 + 1 : Int) = 3 from rfl, BX10_sharpness_5, if_pos (by decide), Int.zero_add, root_c (by omega) (by omega) (by omega), bndp_s]
    rfl
  rw [← en] at l
  exact l
end
