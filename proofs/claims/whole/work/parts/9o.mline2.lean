/-! A LINE WITH A MOVE: both programs. -/
theorem pv_of {hm hm' : Hp} (e114 : hm' 114 = hm 114) (e119 : hm' 119 = hm 119) (e120 : hm' 120 = hm 120) (e121 : hm' 121 = hm 121) (e2 : hm' 113 2 = hm 113 2) (e3 : hm' 113 3 = hm 113 3) (e4 : hm' 113 4 = hm 113 4) : pv hm' = pv hm := by
  have el : lnP hm' = lnP hm := by
    funext b
    unfold lnP
    rw [e119]
  have eb : ∀ k : Nat, bgP hm' k = bgP hm k := fun k => by
    induction k with
    | zero => rfl
    | succ k ih =>
      show bgP hm' k + lnP hm' k = bgP hm k + lnP hm k
      rw [ih, el]
  funext c i
  unfold pv
  rw [e114, e119, e120, e121, e2, e3, e4, el, eb]
theorem PG.mv {hc hm hc' hm' : Hp} {T : Int → Int} {z w : Int} (P : PG hc hm T z w) (ew : ∀ c, w ≤ c → c ≤ w + 12 → hc' c = hc c) (e34 : ∀ i, 0 ≤ i → i < 6 * hm 113 2 → hc' 34 i = hc 34 i) (e35 : hc' 35 = hc 35) (e36 : hc' 36 = hc 36) (e37 : hc' 37 = hc 37) (e114 : hm' 114 = hm 114) (e119 : hm' 119 = hm 119) (e120 : hm' 120 = hm 120) (e121 : hm' 121 = hm 121) (e2 : hm' 113 2 = hm 113 2) (e3 : hm' 113 3 = hm 113 3) (e4 : hm' 113 4 = hm 113 4) (e128 : hm' 128 = hm 128) (e116 : ∀ i, 0 ≤ i → i < 6 * hm 113 2 → hm' 116 i = hm 116 i) (e117 : hm' 117 = hm 117) (e118 : hm' 118 = hm 118) : PG hc' hm' T z w := by
  obtain ⟨p1, p2, p3, p4, p5, p6, p7⟩ := P
  unfold PG
  rw [pv_of e114 e119 e120 e121 e2 e3 e4, e128, e119, e2, e3, e4]
  refine ⟨p1, p2.mv ew, p3, fun i i0 i1 => ?_, fun k k0 k1 => ?_, ?_, ?_⟩
  · rw [e34 i i0 i1, e116 i i0 i1]
    exact p4 i i0 i1
  · rw [e116 _ (by omega) (by omega), e116 _ (by omega) (by omega), e116 _ (by omega) (by omega), e116 _ (by omega) (by omega), e116 _ (by omega) (by omega), e116 _ (by omega) (by omega)]
    exact p5 k k0 k1
  · unfold MKS
    rw [e35, e36, e117]
    exact p6
  · rw [e37, e118]
    exact p7
theorem PG.str {hc hm : Hp} {T : Int → Int} {z w : Int} (P : PG hc hm T z w) : STR hc hm w := by
  obtain ⟨H, R, -⟩ := P
  have s1 := H.2.1
  have s2 := H.2.2.1
  have s3 := H.2.2.2.1
  simp only [pv_115] at s1 s2 s3
  refine ⟨fun k k0 k1 => ⟨R.2.1 k k0 k1, ?_⟩, ⟨R.1.1, s2⟩, R.1.2.1, s3⟩
  by_cases h3 : k < 3
  · rw [if_pos h3]
    exact (s1 k k0 h3).1
  · rw [if_neg h3]
    have t := (s1 (k - 3) (by omega) (by omega)).2
    rw [show 3 + (k - 3) = k by omega] at t
    exact t
/-- where nothing but settings is told -/
theorem PG.of0 {hc hm : Hp} {T : Int → Int} {z w : Int} (S : STR hc hm w) (c11 : hc w 11 = 0) (c12 : hc w 12 = 0) (c13 : hc w 13 = 0) (c14 : hc w 14 = 0) (m2 : hm 113 2 = 0) (m3 : hm 113 3 = 0) (m4 : hm 113 4 = 0) (pl : ∀ a, 0 ≤ a → a < 3 → hc (w + 2 + 1 + a) 0 = hm 119 a ∧ hm 128 a = hm 119 a ∧ far_ (hm 119 a)) : PG hc hm T z w := by
  have n0 : nB (pv hm) = 0 := m3
  refine ⟨?_, ?_, fun a a0 a1 => ?_, fun i i0 i1 => ?_, fun k k0 k1 => ?_, fun k k0 k1 => ?_, fun k k0 k1 => ?_⟩
  · unfold WFp
    rw [n0, pv_5, pv_7, m2, m4]
    refine ⟨by decide, fun k k0 k1 => ?_, S.2.1.2, S.2.2.2, fun k k0 k1 => ?_, fun b b0 b1 => by omega, rfl, by decide, by decide⟩
    · have a := (S.1 k k0 (by omega)).2
      have b := (S.1 (3 + k) (by omega) (by omega)).2
      rw [if_pos k1] at a
      rw [if_neg (by omega)] at b
      exact ⟨a, b⟩
    · rw [pv_122]
      exact (pl k k0 (by omega)).2.2
  · refine ⟨⟨S.2.1.1, S.2.2.1, by rw [n0]; exact c11, by rw [pv_5, m2]; exact c12, by rw [pv_7, m4]; exact c13, by rw [n0]; exact c14⟩, fun k k0 k1 => (S.1 k k0 k1).1, fun a k a0 a1 k0 k1 => ?_, fun b b0 b1 => by rw [n0] at b1; omega, fun b b0 b1 => by rw [n0] at b1; omega⟩
    rw [n0] at k1
    have ek : k = 0 := by omega
    subst ek
    have t := pl a a0 a1
    rw [pv_122, t.1, show 3 * 0 + a = a by omega]
  · rw [m3, show 3 * 0 + a = a by omega, (pl a a0 a1).2.1]
  · omega
  · omega
  · omega
  · omega
section
variable {n : Nat}
theorem told_l {M : Int} (hM : 0 ≤ M ∧ M < 40) {at_ : Int} {g : Hp} : ∀ (r f : Nat) (i : Int) (h : Hp), i + r = 6 → r < f → 0 ≤ i → KR 116 g h → g 113 2 = M → (∀ j, (j < 6 * M ∨ 6 * M + 6 ≤ j) → h 116 j = g 116 j) → (∀ j, 0 ≤ j → j < i → h 116 (6 * M + j) = g 131 j) → ∃ h', BX12_readsMove_187 n f at_ i h = some (at_, h') ∧ KR 116 g h' ∧ (∀ j, (j < 6 * M ∨ 6 * M + 6 ≤ j) → h' 116 j = g 116 j) ∧ ∀ j, 0 ≤ j → j < 6 → h' 116 (6 * M + j) = g 131 j
  | 0, f + 1, i, h, hi, hf, i0, K, e2, A, B => by
    rw [BX12_readsMove_187, if_pos (by omega)]
    exact ⟨h, rfl, K, A, fun j j0 j1 => B j j0 (by omega)⟩
  | r + 1, f + 1, i, h, hi, hf, i0, K, e2, A, B => by
    rw [BX12_readsMove_187, if_neg (by omega), al68, al1940, grd_t (by omega), K 113 (by decide), e2, w32_i (x := 6 * M) (by omega), w32_i (x := 6 * M + i) (by omega), grd_t (by omega), K 131 (by decide), ltt_e, ltt_e, w32_i (x := i + 1) (by omega)]
    exact told_l hM r f (i + 1) _ (by omega) (by omega) (by omega) K.put e2 (fun j hj => (up_i (by omega)).trans (A j hj)) (fun j j0 j1 => by
      by_cases hj : j = i
      · rw [hj, up_s]
      · rw [up_i (by omega)]
        exact B j j0 (by omega))
/-- what reading may change in the class -/
def FRA (w : Int) (h h' : Hp) : Prop := (∀ c, c ≠ 27 → c ≠ 29 → (c < 30 ∨ 37 < c) → (c < w ∨ w + 12 < c) → h' c = h c) ∧ (∀ i, i < 2 → h' 27 i = h 27 i) ∧ ∀ i, i < 8 ∨ i = 10 → h' 29 i = h 29 i
theorem FRA.tr {w : Int} {h g k : Hp} (a : FRA w h g) (b : FRA w g k) : FRA w h k := ⟨fun c h1 h2 h3 h4 => (b.1 c h1 h2 h3 h4).trans (a.1 c h1 h2 h3 h4), fun i hi => (b.2.1 i hi).trans (a.2.1 i hi), fun i hi => (b.2.2 i hi).trans (a.2.2 i hi)⟩
theorem FRm.ra {row w : Int} {h g : Hp} (a : FRm row h g) : FRA w h g := ⟨fun c h1 h2 h3 _ => a.1 c h1 h2 (by omega), a.2.1, fun i hi => a.2.2.1 i (by omega)⟩
theorem FRd.ra {w : Int} {h g : Hp} (a : FRd h g) : FRA w h g := ⟨fun c h1 h2 _ _ => a.1 c h1 h2, a.2.1, fun i hi => a.2.2 i (by omega)⟩
theorem FTl.ra {w : Int} {h g : Hp} (hw : w = 1 ∨ w = 14) (a : FTl w h g) : FRA w h g := ⟨fun c _ h2 h3 h4 => a.1 c h2 (by omega) h4, fun i _ => by rw [a.1 27 (by decide) (by decide) (by omega)], fun i hi => a.2 i (by omega)⟩
/-- what a line with a move may change in the model -/
def FML (h h' : Hp) : Prop := (∀ c, c ≠ 113 → (c < 116 ∨ 121 < c) → c ≠ 128 → c ≠ 129 → c ≠ 130 → c ≠ 131 → h' c = h c) ∧ ∀ i, i ≠ 2 → i ≠ 3 → i ≠ 4 → (i < 21 ∨ 27 < i) → i ≠ 30 → h' 113 i = h 113 i
theorem FML.tr {h g k : Hp} (a : FML h g) (b : FML g k) : FML h k := ⟨fun c h1 h2 h3 h4 h5 h6 => (b.1 c h1 h2 h3 h4 h5 h6).trans (a.1 c h1 h2 h3 h4 h5 h6), fun i h1 h2 h3 h4 h5 => (b.2 i h1 h2 h3 h4 h5).trans (a.2 i h1 h2 h3 h4 h5)⟩
theorem FMm.ml {h g : Hp} (a : FMm h g) : FML h g := ⟨fun c h1 _ _ _ _ h6 => a.1 c h1 h6, fun i _ _ _ h4 _ => a.2 i (by omega)⟩
/-- the three ends of a move that was told -/
theorem told_end {hc hc' hm' : Hp} {T : Int → Int} {z w at_ : Int} {s : St3} (hat : 0 ≤ at_ ∧ at_ ≤ 1000) (hs : s.1 = -1) (A : Rc hc T z s) (hw : w = 1 ∨ w = 14) (F : FTl w hc hc') (B : Rm hm' T z s) (Q : (hm' 113 26 = 1 ∧ hc' 29 8 = 8 * at_ + 5) ∨ (hm' 113 26 = 0 ∧ hm' 113 27 = 1 ∧ hc' 29 8 = 8 * at_ + 4) ∨ (hm' 113 26 = 0 ∧ hm' 113 27 = 0 ∧ hc' 29 8 = -1)) : ∃ s' hm'', MX12_judges at_ hm' = some hm'' ∧ Rc hc' T z s' ∧ Rm hm'' T z s' ∧ FMr hm' hm'' ∧ (s'.1 = -1 → hm'' = hm' ∧ hm' 113 26 = 0 ∧ hm' 113 27 = 0 ∧ s' = s) := by
  have e22 : hm' 113 22 = -1 := B.1.trans hs
  rw [judges_m hat e22]
  rcases Q with ⟨q1, q2⟩ | ⟨q1, q2, q3⟩ | ⟨q1, q2, q3⟩
  · rw [if_neg (show ¬ hm' 113 26 = 0 by omega)]
    exact ⟨(8 * at_ + 5, s.2), _, rfl, ⟨q2, fun t => by have : 8 * at_ + 5 = -1 := t; omega, fun _ => by show 0 ≤ 8 * at_ + 5; omega⟩, ⟨up_s, fun t => by have : 8 * at_ + 5 = -1 := t; omega, fun _ => by show 0 ≤ 8 * at_ + 5; omega⟩, FMr.rf.put (by decide), fun t => by have : 8 * at_ + 5 = -1 := t; omega⟩
  · rw [if_pos q1, if_neg (show ¬ hm' 113 27 = 0 by omega)]
    exact ⟨(8 * at_ + 4, s.2), _, rfl, ⟨q3, fun t => by have : 8 * at_ + 4 = -1 := t; omega, fun _ => by show 0 ≤ 8 * at_ + 4; omega⟩, ⟨up_s, fun t => by have : 8 * at_ + 4 = -1 := t; omega, fun _ => by show 0 ≤ 8 * at_ + 4; omega⟩, FMr.rf.put (by decide), fun t => by have : 8 * at_ + 4 = -1 := t; omega⟩
  · rw [if_pos q1, if_pos q2]
    refine ⟨s, hm', rfl, ?_, B, FMr.rf, fun _ => ⟨rfl, q1, q2, rfl⟩⟩
    exact A.mv (F.1 27 (by decide) (by decide) (by omega)) (F.1 28 (by decide) (by decide) (by omega)) (q3.trans (A.1.trans hs).symm)
theorem moveLine (hn : 1000 ≤ n) {hc hm : Hp} {T : Int → Int} {z w k at_ : Int} {s : St3} (hk : 3 ≤ k ∧ k ≤ 5) (hw : w = 1 ∨ w = 14) (A : Rc hc T z s) (B : Rm hm T z s) (hs : s.1 = -1) (P : PG hc hm T z w) (e7 : hc 29 7 = w) (e9 : hc 29 9 = at_) (hat : 0 ≤ at_ ∧ at_ ≤ 1000) : ∃ hc1 hc2 hm' s', MX6_readMove n k hc = some hc1 ∧ JX6_readLine_65 n k hc1 = some (k, hc2) ∧ MX12_readsMove n k at_ hm = some hm' ∧ Rm hm' T z s' ∧ FML hm hm' ∧ FRA w hc hc2 ∧ ((hc2 29 8 ≠ -1 ∧ Rc hc2 T z s' ∧ s'.1 ≠ -1) ∨ (hc2 29 8 = -1 ∧ ∃ hc3, MX6_tellMove n hc2 = some hc3 ∧ FRA w hc hc3 ∧ Rc hc3 T z s' ∧ (s'.1 = -1 → PG hc3 hm' T z w ∧ hm' 113 4 = hm 113 4 ∧ s.2.1 < s'.2.1))) := by
  have hMv := P.1.2.2.2.2.2.2.2.1
  rw [pv_5] at hMv
  have hB := P.1.1
  rw [pv_6] at hB
  have bs := A.bd hs
  have eMc : hc w 12 = hm 113 2 := P.2.1.1.2.2.2.1
  obtain ⟨hc1, x1, F1, R1, V1⟩ := readMove_c hn hk hw hMv A e7 eMc
  obtain ⟨hc2, x2, F2, R2⟩ := endLine_c (x := k) hn R1
  obtain ⟨hm1, G1, S1, T1, y1⟩ := readsMove_m (at_ := at_) hn hk B
  have FA : FRA w hc hc2 := F1.ra.tr F2.ra
  refine ⟨hc1, hc2, ?_⟩
  by_cases ok : (rdE T z (q6_ T z k s).1).1 = -1
  · have ok6 := rdE_ok ok
    obtain ⟨⟨r0, r1, r2, r3, r4, r5⟩, V⟩ := V1 ok6
    obtain ⟨t0, t1, t2, t3, t4, t5⟩ := T1 ok
    rw [if_pos ok] at y1
    -- both still hold the same program
    have P1 : PG hc2 (up (up hm1 113 26 0) 113 27 0) T z w := P.mv (fun c c0 c1 => by rw [F2.1 c (by omega) (by omega), F1.1 c (by omega) (by omega) (by omega)]) (fun i i0 i1 => by rw [F2.1 34 (by decide) (by decide), F1.2.2.2 i (by omega)]) (by rw [F2.1 35 (by decide) (by decide), F1.1 35 (by decide) (by decide) (by decide)]) (by rw [F2.1 36 (by decide) (by decide), F1.1 36 (by decide) (by decide) (by decide)]) (by rw [F2.1 37 (by decide) (by decide), F1.1 37 (by decide) (by decide) (by decide)]) (by rw [up_row (by decide), up_row (by decide), G1.1 114 (by decide) (by decide)]) (by rw [up_row (by decide), up_row (by decide), G1.1 119 (by decide) (by decide)]) (by rw [up_row (by decide), up_row (by decide), G1.1 120 (by decide) (by decide)]) (by rw [up_row (by decide), up_row (by decide), G1.1 121 (by decide) (by decide)]) (by rw [up_i (by decide), up_i (by decide), G1.2 2 (by decide)]) (by rw [up_i (by decide), up_i (by decide), G1.2 3 (by decide)]) (by rw [up_i (by decide), up_i (by decide), G1.2 4 (by decide)]) (by rw [up_row (by decide), up_row (by decide), G1.1 128 (by decide) (by decide)]) (fun i _ _ => by rw [up_row (by decide), up_row (by decide), G1.1 116 (by decide) (by decide)]) (by rw [up_row (by decide), up_row (by decide), G1.1 117 (by decide) (by decide)]) (by rw [up_row (by decide), up_row (by decide), G1.1 118 (by decide) (by decide)])
    have h6F : FML hm (up (up hm1 113 26 0) 113 27 0) := ⟨fun c h1 _ _ _ _ h6 => (up_row h1).trans ((up_row h1).trans (G1.1 c h1 h6)), fun i h1 h2 h3 h4 _ => (up_i (by omega)).trans ((up_i (by omega)).trans (G1.2 i (by omega)))⟩
    have m2 : up (up hm1 113 26 0) 113 27 0 113 2 = hm 113 2 := by rw [up_i (by decide), up_i (by decide), G1.2 2 (by decide)]
    have m3 : up (up hm1 113 26 0) 113 27 0 113 3 = hm 113 3 := by rw [up_i (by decide), up_i (by decide), G1.2 3 (by decide)]
    have m26 : up (up hm1 113 26 0) 113 27 0 113 26 = 0 := by rw [up_i (by decide), up_s]
    have m27 : up (up hm1 113 26 0) 113 27 0 113 27 = 0 := up_s
    have m131 : up (up hm1 113 26 0) 113 27 0 131 = hm1 131 := by rw [up_row (by decide), up_row (by decide)]
    have S6 : Rm (up (up hm1 113 26 0) 113 27 0) T z (rdE T z (q6_ T z k s).1) := S1.mv (by rw [up_i (by decide), up_i (by decide)]) (by rw [up_i (by decide), up_i (by decide)]) (by rw [up_i (by decide), up_i (by decide)]) (by rw [up_row (by decide), up_row (by decide)])
    have c8 : hc2 29 8 = -1 := R2.1.trans ok
    have c7 : hc2 29 7 = w := by rw [F2.2.2 7 (by decide), F1.2.2.1 7 (by decide)]; exact e7
    have c9 : hc2 29 9 = at_ := by rw [F2.2.2 9 (by decide), F1.2.2.1 9 (by decide)]; exact e9
    have er : hc2 34 (6 * hm 113 2) = k ∧ hc2 34 (6 * hm 113 2 + 1) = (q1_ T z s).2 ∧ hc2 34 (6 * hm 113 2 + 2) = (q2_ T z s).2 ∧ hc2 34 (6 * hm 113 2 + 3) = (q4_ T z k s).2 ∧ hc2 34 (6 * hm 113 2 + 4) = (q5_ T z k s).2 ∧ hc2 34 (6 * hm 113 2 + 5) = (q6_ T z k s).2 := by
      rw [F2.1 34 (by decide) (by decide)]
      exact ⟨r0, r1, r2, r3, r4, r5⟩
    have hh : ∀ a, 0 ≤ a → a < 3 → far_ (up (up hm1 113 26 0) 113 27 0 128 a) := fun a a0 a1 => by
      rw [P1.2.2.1 a a0 a1, m3]
      have t := P1.1.2.2.2.2.1 (3 * hm 113 3 + a) (by omega) (by rw [pv_6, m3]; omega)
      rw [pv_122] at t
      exact t
    rw [y1]
    unfold restM
    rw [ltt_e, ltt_e, m2]
    by_cases h40 : 40 ≤ hm 113 2
    · have e40 : hm 113 2 = 40 := by omega
      obtain ⟨g, z1, D1, D2, D3, D4⟩ := lastMove_m (n := n) (by omega) (h := up (up hm1 113 26 0) 113 27 0) (by rw [m131]; exact ⟨t0, t1, t2, t3, t4, t5⟩) V hh (by rw [m3]; exact hB) (by rw [m2]; exact hMv) m26
      obtain ⟨hc3, u1, u2, u3⟩ := tell_40 (n := n) (by omega) hw P1 V c7 c8 c9 hat (by rw [m2]; exact er) (by rw [m2]; exact e40)
      have Sg : Rm g T z (rdE T z (q6_ T z k s).1) := S6.mv (D2 20 (by decide) (by decide) (by decide) (by decide)) (D2 21 (by decide) (by decide) (by decide) (by decide)) (D2 22 (by decide) (by decide) (by decide) (by decide)) (D1 127 (by decide) (by decide) (by decide) (by decide) (by decide) (by decide) (by decide))
      have Q : (g 113 26 = 1 ∧ hc3 29 8 = 8 * at_ + 5) ∨ (g 113 26 = 0 ∧ g 113 27 = 1 ∧ hc3 29 8 = 8 * at_ + 4) ∨ (g 113 26 = 0 ∧ g 113 27 = 0 ∧ hc3 29 8 = -1) := by
        rw [D3, D4, u3]
        by_cases hb : ∃ j : Int, 1 ≤ j ∧ j ≤ mvN (up (up hm1 113 26 0) 113 27 0 114 7) k (q1_ T z s).2 (q2_ T z s).2 (q4_ T z k s).2 ∧ beyP (mvX (up (up hm1 113 26 0) 113 27 0 114 7) k (q1_ T z s).2 (q2_ T z s).2 (q4_ T z k s).2 (up (up hm1 113 26 0) 113 27 0 128 0)) (mvY (up (up hm1 113 26 0) 113 27 0 114 7) k (q1_ T z s).2 (q2_ T z s).2 (q4_ T z k s).2 (up (up hm1 113 26 0) 113 27 0 128 1)) (mvZ (up (up hm1 113 26 0) 113 27 0 114 7) k (q1_ T z s).2 (q2_ T z s).2 (q4_ T z k s).2 (q5_ T z k s).2 (up (up hm1 113 26 0) 113 27 0 128 2)) j
        · rw [ci_t hb, ci_t hb]
          exact Or.inl ⟨rfl, rfl⟩
        · rw [ci_f hb, ci_f hb]
          exact Or.inr (Or.inl ⟨rfl, rfl, rfl⟩)
      obtain ⟨s', hm'', j1, j2, j3, j4, j5⟩ := told_end hat ok R2 hw u2 Sg Q
      rw [if_pos h40, z1, bndh_s]
      unfold JX12_readsMove_237
      rw [j1, bndh_s]
      refine ⟨hm'', s', x1, x2, rfl, j3, ?_, FA, Or.inr ⟨c8, hc3, u1, FA.tr (u2.ra hw), j2, fun t => ?_⟩⟩
      · refine h6F.tr ⟨fun c h1 h2 h3 h4 h5 h6 => (j4.1 c h1).trans (D1 c h1 (by omega) (by omega) (by omega) h3 h4 h5), fun i i1 i2 i3 i4 i5 => (j4.2 i (by omega)).trans (D2 i i2 (by omega) (by omega) i5)⟩
      · have := (j5 t).2.2.1
        rw [D4] at this
        omega
    · obtain ⟨g, z1, K, K1, K2⟩ := told_l (n := n) (M := hm 113 2) (at_ := at_) (by omega) (g := up (up hm1 113 26 0) 113 27 0) 6 n 0 _ (by decide) (by omega) (by decide) KR.rf m2 (fun _ _ => rfl) (fun j j0 j1 => by omega)
      have g2 : g 113 2 = hm 113 2 := by rw [K 113 (by decide)]; exact m2
      have rv : g 116 (6 * hm 113 2) = k ∧ g 116 (6 * hm 113 2 + 1) = (q1_ T z s).2 ∧ g 116 (6 * hm 113 2 + 2) = (q2_ T z s).2 ∧ g 116 (6 * hm 113 2 + 3) = (q4_ T z k s).2 ∧ g 116 (6 * hm 113 2 + 4) = (q5_ T z k s).2 ∧ g 116 (6 * hm 113 2 + 5) = (q6_ T z k s).2 := by
        have t := K2 0 (by decide) (by decide)
        rw [Int.add_zero] at t
        rw [t, K2 1 (by decide) (by decide), K2 2 (by decide) (by decide), K2 3 (by decide) (by decide), K2 4 (by decide) (by decide), K2 5 (by decide) (by decide), m131]
        exact ⟨t0, t1, t2, t3, t4, t5⟩
      have Pg : PG hc2 g T z w := P1.mv (fun _ _ _ => rfl) (fun _ _ _ => rfl) rfl rfl rfl (K 114 (by decide)) (K 119 (by decide)) (K 120 (by decide)) (K 121 (by decide)) (by rw [K 113 (by decide)]) (by rw [K 113 (by decide)]) (by rw [K 113 (by decide)]) (K 128 (by decide)) (fun i i0 i1 => by rw [m2] at i1; exact K1 i (Or.inl i1)) (K 117 (by decide)) (K 118 (by decide))
      obtain ⟨h', z2, Q0⟩ := makes_m (n := n) (by omega) (h := g) (k' := hm 113 2) (by omega) (by rw [g2]; exact Int.le_refl _) rv V (fun a a0 a1 => by rw [K 128 (by decide)]; exact hh a a0 a1) (by rw [K 113 (by decide), m3]; exact hB) (by rw [g2]; exact hMv) (by rw [K 113 (by decide)]; exact m26) (by rw [K 113 (by decide)]; exact m27)
      obtain ⟨hc3, u1, u2, u3⟩ := tell_j (n := n) (by omega) hw Pg V c7 c8 c9 hat (by rw [g2]; exact er) rfl rfl Q0
      have Sg : Rm h' T z (rdE T z (q6_ T z k s).1) := S6.mv ((Q0.2.1 20 (by decide) (by decide) (by decide) (by decide) (by decide)).trans (by rw [K 113 (by decide)])) ((Q0.2.1 21 (by decide) (by decide) (by decide) (by decide) (by decide)).trans (by rw [K 113 (by decide)])) ((Q0.2.1 22 (by decide) (by decide) (by decide) (by decide) (by decide)).trans (by rw [K 113 (by decide)])) ((Q0.1 127 (by decide) (by decide) (by decide) (by decide) (by decide) (by decide) (by decide) (by decide)).trans (K 127 (by decide)))
      obtain ⟨s', hm'', j1, j2, j3, j4, j5⟩ := told_end hat ok R2 hw u2 Sg (u3.imp id (fun t => t.imp id (fun t => ⟨t.1, t.2.1, t.2.2.1⟩)))
      rw [if_neg h40, ltt_e]
      unfold LX12_readsMove_187
      rw [z1, bndx_s]
      show ∃ hm' s', _ ∧ _ ∧ JX12_readsMove_222 n at_ g = some hm' ∧ _
      unfold JX12_readsMove_222
      rw [g2, z2, bndh_s]
      unfold JX12_readsMove_237
      rw [j1, bndh_s]
      refine ⟨hm'', s', x1, x2, rfl, j3, ?_, FA, Or.inr ⟨c8, hc3, u1, FA.tr (u2.ra hw), j2, fun t => ?_⟩⟩
      · refine h6F.tr ⟨fun c h1 h2 h3 h4 h5 h6 => (j4.1 c h1).trans ((Q0.1 c h1 (by omega) (by omega) (by omega) (by omega) h3 h4 h5).trans (K c (by omega))), fun i i1 i2 i3 i4 i5 => (j4.2 i (by omega)).trans ((Q0.2.1 i i1 i2 (by omega) (by omega) i5).trans (by rw [K 113 (by decide)]))⟩
      · obtain ⟨v1, v2, v3, v4⟩ := j5 t
        rw [v1]
        rcases u3 with q | q | q
        · omega
        · omega
        · refine ⟨q.2.2.2.1, ?_, ?_⟩
          rotate_left
          · have m6 := q6_mo bs.1 bs.2 ok6
            have me := rdE_mo (by omega) m6.2 ok
            rw [v4]
            omega
          rw [Q0.2.1 4 (by decide) (by decide) (by decide) (by decide) (by decide), K 113 (by decide), up_i (by decide), up_i (by decide), G1.2 4 (by decide)]
  · rw [if_neg ok] at y1
    have c8 : hc2 29 8 ≠ -1 := fun q => ok (R2.1.symm.trans q)
    exact ⟨hm1, _, x1, x2, y1, S1, G1.ml, FA, Or.inl ⟨c8, R2, ok⟩⟩
end
