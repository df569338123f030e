/-! A LINE WITH AGAIN. -/
section
variable {n : Nat}
theorem acopy_l {x1 x2 x3 a b : Int} (ha : 0 ≤ a ∧ a ≤ 234) (hb : 0 ≤ b ∧ b ≤ 240) (hd : a + 6 ≤ b) {g : Hp} : ∀ (r f : Nat) (i : Int) (h : Hp), i + r = 6 → r < f → 0 ≤ i → KR 34 g h → (∀ j, (j < b ∨ b + 6 ≤ j) → h 34 j = g 34 j) → (∀ j, 0 ≤ j → j < i → h 34 (b + j) = g 34 (a + j)) → ∃ h', BX6_tellAgain_87 n f x1 x2 x3 a b i h = some (x1, x2, x3, h') ∧ KR 34 g h' ∧ (∀ j, (j < b ∨ b + 6 ≤ j) → h' 34 j = g 34 j) ∧ ∀ j, 0 ≤ j → j < 6 → h' 34 (b + j) = g 34 (a + j)
  | 0, f + 1, i, h, hi, hf, i0, K, A, B => by
    rw [BX6_tellAgain_87, if_pos (by omega)]
    exact ⟨h, rfl, K, A, fun j j0 j1 => B j j0 (by omega)⟩
  | r + 1, f + 1, i, h, hi, hf, i0, K, A, B => by
    rw [BX6_tellAgain_87, if_neg (by omega), al1988, w32_i (x := a + i) (by omega), w32_i (x := b + i) (by omega), grd_t (by omega), grd_t (by omega), A (a + i) (by omega), ltt_e, ltt_e, w32_i (x := i + 1) (by omega)]
    exact acopy_l ha hb hd r f (i + 1) _ (by omega) (by omega) (by omega) K.put (fun j hj => (up_i (by omega)).trans (A j hj)) (fun j j0 j1 => by
      by_cases hj : j = i
      · rw [hj, up_s]
      · rw [up_i (by omega)]
        exact B j j0 (by omega))
/-- what telling again keeps in the class -/
def FAg (w : Int) (h h' : Hp) : Prop := (∀ c, c ≠ 29 → (c < 30 ∨ 34 < c) → (c < w ∨ w + 12 < c) → h' c = h c) ∧ ∀ i, i ≠ 8 → h' 29 i = h 29 i
theorem FAg.rf {w : Int} {h : Hp} : FAg w h h := ⟨fun _ _ _ _ => rfl, fun _ _ => rfl⟩
theorem FAg.tr {w : Int} {h g k : Hp} (a : FAg w h g) (b : FAg w g k) : FAg w h k := ⟨fun c h1 h2 h3 => (b.1 c h1 h2 h3).trans (a.1 c h1 h2 h3), fun i hi => (b.2 i hi).trans (a.2 i hi)⟩
theorem FAg.ra {w : Int} {h g : Hp} (hw : w = 1 ∨ w = 14) (a : FAg w h g) : FRA w h g := ⟨fun c _ h2 h3 h4 => a.1 c h2 (by omega) h4, fun i _ => by rw [a.1 27 (by decide) (by decide) (by omega)], fun i hi => a.2 i (by omega)⟩
/-- one move told again -/
theorem againOne (hn : 1000 ≤ n) {hc hm : Hp} {T : Int → Int} {z w at_ k : Int} {s : St3} (hw : w = 1 ∨ w = 14) (A : Rc hc T z s) (B : Rm hm T z s) (hs : s.1 = -1) (P : PG hc hm T z w) (e7 : hc 29 7 = w) (e9 : hc 29 9 = at_) (hat : 0 ≤ at_ ∧ at_ ≤ 1000) (hk : 0 ≤ k ∧ k < hm 113 2) : ∃ hc1 hc2 hm1 hm2 s', (∀ x1 x2 x3 : Int, BX6_tellAgain_87 n n x1 x2 x3 (6 * k) (6 * hm 113 2) 0 hc = some (x1, x2, x3, hc1)) ∧ MX6_tellMove n hc1 = some hc2 ∧ MX12_makes n k (up (up hm 113 26 0) 113 27 0) = some hm1 ∧ MX12_judges at_ hm1 = some hm2 ∧ FAg w hc hc2 ∧ FML hm hm2 ∧ (∀ c, c = 117 ∨ c = 118 → hm2 c = hm c) ∧ hm2 113 4 = hm 113 4 ∧ Rc hc2 T z s' ∧ Rm hm2 T z s' ∧ (s'.1 = -1 → PG hc2 hm2 T z w ∧ hm2 113 2 = hm 113 2 + 1 ∧ s' = s) := by
  have hMv := P.1.2.2.2.2.2.2.2.1
  rw [pv_5] at hMv
  have hB := P.1.1
  rw [pv_6] at hB
  have V := P.2.2.2.2.1 k hk.1 hk.2
  have cp : ∀ x1 x2 x3 : Int, ∃ h', BX6_tellAgain_87 n n x1 x2 x3 (6 * k) (6 * hm 113 2) 0 hc = some (x1, x2, x3, h') ∧ KR 34 hc h' ∧ (∀ j, (j < 6 * hm 113 2 ∨ 6 * hm 113 2 + 6 ≤ j) → h' 34 j = hc 34 j) ∧ ∀ j, 0 ≤ j → j < 6 → h' 34 (6 * hm 113 2 + j) = hc 34 (6 * k + j) := fun x1 x2 x3 => acopy_l (n := n) (x1 := x1) (x2 := x2) (x3 := x3) (a := 6 * k) (b := 6 * hm 113 2) (by omega) (by omega) (by omega) (g := hc) 6 n 0 hc (by decide) (by omega) (by decide) KR.rf (fun _ _ => rfl) (fun j j0 j1 => by omega)
  obtain ⟨hc1, z0, K, K1, K2⟩ := cp 0 0 0
  have z1 : ∀ x1 x2 x3 : Int, BX6_tellAgain_87 n n x1 x2 x3 (6 * k) (6 * hm 113 2) 0 hc = some (x1, x2, x3, hc1) := fun x1 x2 x3 => by
    obtain ⟨h', t, t1, t2, t3⟩ := cp x1 x2 x3
    have eh : h' = hc1 := by
      funext c i
      by_cases hc' : c = 34
      · subst hc'
        by_cases hi : i < 6 * hm 113 2 ∨ 6 * hm 113 2 + 6 ≤ i
        · rw [t2 i hi, K1 i hi]
        · have e : i = 6 * hm 113 2 + (i - 6 * hm 113 2) := by omega
          rw [e, t3 _ (by omega) (by omega), K2 _ (by omega) (by omega)]
      · rw [t1 c hc', K c hc']
    rw [← eh]
    exact t
  have rows := P.2.2.2.1
  have r : ∀ j, 0 ≤ j → j < 6 → hc1 34 (6 * hm 113 2 + j) = hm 116 (6 * k + j) := fun j j0 j1 => by
    rw [K2 j j0 j1]
    exact rows _ (by omega) (by omega)
  have F26 : ∀ c, c ≠ 113 → up (up hm 113 26 0) 113 27 0 c = hm c := fun c hc' => by rw [up_row hc', up_row hc']
  have F113 : ∀ i, i ≠ 26 → i ≠ 27 → up (up hm 113 26 0) 113 27 0 113 i = hm 113 i := fun i h1 h2 => by rw [up_i h2, up_i h1]
  have P1 : PG hc1 (up (up hm 113 26 0) 113 27 0) T z w := P.mv (fun c c0 c1 => K c (by omega)) (fun i i0 i1 => K1 i (Or.inl i1)) (K 35 (by decide)) (K 36 (by decide)) (K 37 (by decide)) (F26 114 (by decide)) (F26 119 (by decide)) (F26 120 (by decide)) (F26 121 (by decide)) (F113 2 (by decide) (by decide)) (F113 3 (by decide) (by decide)) (F113 4 (by decide) (by decide)) (F26 128 (by decide)) (fun i _ _ => by rw [F26 116 (by decide)]) (F26 117 (by decide)) (F26 118 (by decide))
  have m2 : up (up hm 113 26 0) 113 27 0 113 2 = hm 113 2 := F113 2 (by decide) (by decide)
  have hh : ∀ a, 0 ≤ a → a < 3 → far_ (up (up hm 113 26 0) 113 27 0 128 a) := fun a a0 a1 => by
    rw [P1.2.2.1 a a0 a1, F113 3 (by decide) (by decide)]
    have t := P1.1.2.2.2.2.1 (3 * hm 113 3 + a) (by omega) (by rw [pv_6, F113 3 (by decide) (by decide)]; omega)
    rw [pv_122] at t
    exact t
  obtain ⟨hm1, y1, Q0⟩ := makes_m (n := n) (by omega) (h := up (up hm 113 26 0) 113 27 0) (k' := k) (by omega) (by rw [m2]; omega) ⟨rfl, rfl, rfl, rfl, rfl, rfl⟩ (by rw [F26 116 (by decide)]; exact V) hh (by rw [F113 3 (by decide) (by decide)]; exact hB) (by rw [m2]; exact hMv) (by rw [up_i (by decide), up_s]) up_s
  have S6 : Rm hm1 T z s := B.mv ((Q0.2.1 20 (by decide) (by decide) (by decide) (by decide) (by decide)).trans (F113 20 (by decide) (by decide))) ((Q0.2.1 21 (by decide) (by decide) (by decide) (by decide) (by decide)).trans (F113 21 (by decide) (by decide))) ((Q0.2.1 22 (by decide) (by decide) (by decide) (by decide) (by decide)).trans (F113 22 (by decide) (by decide))) ((Q0.1 127 (by decide) (by decide) (by decide) (by decide) (by decide) (by decide) (by decide) (by decide)).trans (F26 127 (by decide)))
  have A1 : Rc hc1 T z s := A.mv (K 27 (by decide)) (K 28 (by decide)) (by rw [K 29 (by decide)])
  have er : hc1 34 (6 * hm 113 2) = up (up hm 113 26 0) 113 27 0 116 (6 * k) ∧ hc1 34 (6 * hm 113 2 + 1) = up (up hm 113 26 0) 113 27 0 116 (6 * k + 1) ∧ hc1 34 (6 * hm 113 2 + 2) = up (up hm 113 26 0) 113 27 0 116 (6 * k + 2) ∧ hc1 34 (6 * hm 113 2 + 3) = up (up hm 113 26 0) 113 27 0 116 (6 * k + 3) ∧ hc1 34 (6 * hm 113 2 + 4) = up (up hm 113 26 0) 113 27 0 116 (6 * k + 4) ∧ hc1 34 (6 * hm 113 2 + 5) = up (up hm 113 26 0) 113 27 0 116 (6 * k + 5) := by
    have t := r 0 (by decide) (by decide)
    rw [Int.add_zero, Int.add_zero] at t
    rw [F26 116 (by decide)]
    exact ⟨t, r 1 (by decide) (by decide), r 2 (by decide) (by decide), r 3 (by decide) (by decide), r 4 (by decide) (by decide), r 5 (by decide) (by decide)⟩
  obtain ⟨hc2, u1, u2, u3⟩ := tell_j (n := n) (by omega) hw P1 (by rw [F26 116 (by decide)]; exact V) (by rw [K 29 (by decide)]; exact e7) (by rw [K 29 (by decide)]; exact A.1.trans hs) (by rw [K 29 (by decide)]; exact e9) hat (by rw [m2]; exact er) rfl rfl Q0
  obtain ⟨s', hm2, j1, j2, j3, j4, j5⟩ := told_end hat hs A1 hw u2 S6 (u3.imp id (fun t => t.imp id (fun t => ⟨t.1, t.2.1, t.2.2.1⟩)))
  have e4 : hm2 113 4 = hm 113 4 := (j4.2 4 (by decide)).trans ((Q0.2.1 4 (by decide) (by decide) (by decide) (by decide) (by decide)).trans (F113 4 (by decide) (by decide)))
  refine ⟨hc1, hc2, hm1, hm2, s', z1, u1, y1, j1, ⟨fun c h1 h2 h3 => (u2.1 c h1 (by omega) h3).trans (K c (by omega)), fun i hi => (u2.2 i hi).trans (by rw [K 29 (by decide)])⟩, ⟨fun c h1 h2 h3 h4 h5 h6 => (j4.1 c h1).trans ((Q0.1 c h1 (by omega) (by omega) (by omega) (by omega) h3 h4 h5).trans (F26 c h1)), fun i i1 i2 i3 i4 i5 => (j4.2 i (by omega)).trans ((Q0.2.1 i i1 i2 (by omega) (by omega) i5).trans (F113 i (by omega) (by omega)))⟩, fun c hc' => (j4.1 c (by omega)).trans ((Q0.1 c (by omega) (by omega) (by omega) (by omega) (by omega) (by omega) (by omega) (by omega)).trans (F26 c (by omega))), e4, j2, j3, fun t => ?_⟩
  obtain ⟨v1, v2, v3, v4⟩ := j5 t
  rw [v1]
  rcases u3 with q | q | q
  · omega
  · omega
  · exact ⟨q.2.2.2.1, q.2.2.2.2.trans (by rw [m2]), v4⟩
theorem again_in (hn : 1000 ≤ n) {T : Int → Int} {z w at_ U mk tms t x2 : Int} (hw : w = 1 ∨ w = 14) (hat : 0 ≤ at_ ∧ at_ ≤ 1000) (hU : U ≤ 40) : ∀ (r f g : Nat) (k : Int) (s : St3) (hc hm : Hp), k + r = max k U → r < f → r < g → 0 ≤ k → Rc hc T z s → Rm hm T z s → hc 29 7 = w → hc 29 9 = at_ → (s.1 = -1 → PG hc hm T z w ∧ U ≤ hm 113 2) → ∃ hc' hm' s', BX6_tellAgain_53 n f U x2 k hc = some (U, x2, hc') ∧ BX12_readsAgain_89 n g at_ mk tms U t k hm = some (at_, mk, tms, U, t, hm') ∧ FAg w hc hc' ∧ FML hm hm' ∧ (∀ c, c = 117 ∨ c = 118 → hm' c = hm c) ∧ hm' 113 4 = hm 113 4 ∧ Rc hc' T z s' ∧ Rm hm' T z s' ∧ (s'.1 = -1 → PG hc' hm' T z w ∧ U ≤ hm' 113 2 ∧ s' = s)
  | 0, f + 1, g + 1, k, s, hc, hm, hr, hf, hg, k0, A, B, e7, e9, P => by
    rw [BX6_tellAgain_53, BX12_readsAgain_89, if_pos (by omega), if_pos (by omega)]
    exact ⟨hc, hm, s, rfl, rfl, FAg.rf, ⟨fun _ _ _ _ _ _ _ => rfl, fun _ _ _ _ _ _ => rfl⟩, fun _ _ => rfl, rfl, A, B, fun q => ⟨(P q).1, (P q).2, rfl⟩⟩
  | r + 1, f + 1, g + 1, k, s, hc, hm, hr, hf, hg, k0, A, B, e7, e9, P => by
    rw [BX6_tellAgain_53, BX12_readsAgain_89, if_neg (show ¬ U ≤ k by omega), if_neg (show ¬ U ≤ k by omega), isRight_m, bndp_s, B.1, A.1]
    by_cases hs : s.1 = -1
    · obtain ⟨P1, P2⟩ := P hs
      have hMv := P1.1.2.2.2.2.2.2.2.1
      rw [pv_5] at hMv
      have eMc : hc w 12 = hm 113 2 := P1.2.1.1.2.2.2.1
      obtain ⟨hc1, hc2, hm1, hm2, s', z1, u1, y1, y2, FA, FM, M7, M4, A2, B2, Q⟩ := againOne hn hw A B hs P1 e7 e9 hat (k := k) (by omega)
      rw [if_neg (fun q => q hs), if_pos hs, if_neg (by decide), rowOf_c (M := k) (by omega), bndp_s, ltt_e, e7, eMc, rowOf_c hMv, bndp_s, ltt_e, ltt_e, ltt_e, ltt_e, y1, bndh_s, y2, bndh_s, ltt_e, w32_i (x := k + 1) (by omega)]
      unfold LX6_tellAgain_87
      rw [z1, bndx_s]
      show ∃ hc' hm' s', JX6_tellAgain_120 n (BX6_tellAgain_53 n f) U x2 k hc1 = _ ∧ _
      unfold JX6_tellAgain_120
      rw [u1, bndh_s, ltt_e, w32_i (x := k + 1) (by omega)]
      obtain ⟨hc', hm', s2, p1, p2, p3, p4, p5, p6, p7, p8, p9⟩ := again_in hn (mk := mk) (tms := tms) (t := t) (x2 := x2) hw hat hU r f g (k + 1) s' hc2 hm2 (by omega) (by omega) (by omega) (by omega) A2 B2 (by rw [FA.2 7 (by decide)]; exact e7) (by rw [FA.2 9 (by decide)]; exact e9) (fun q => ⟨(Q q).1, by have := (Q q).2.1; omega⟩)
      exact ⟨hc', hm', s2, p1, p2, FA.tr p3, FM.tr p4, fun c hc' => (p5 c hc').trans (M7 c hc'), p6.trans M4, p7, p8, fun q => by
        obtain ⟨a1, a2, a3⟩ := p9 q
        refine ⟨a1, a2, ?_⟩
        rw [a3] at q
        rw [a3]
        exact (Q q).2.2⟩
    · rw [if_pos hs, if_neg hs, if_pos rfl]
      exact ⟨hc, hm, s, rfl, rfl, FAg.rf, ⟨fun _ _ _ _ _ _ _ => rfl, fun _ _ _ _ _ _ => rfl⟩, fun _ _ => rfl, rfl, A, B, fun q => ⟨(P q).1, (P q).2, rfl⟩⟩
theorem again_out (hn : 1000 ≤ n) {T : Int → Int} {z w at_ U mk tms : Int} (hw : w = 1 ∨ w = 14) (hat : 0 ≤ at_ ∧ at_ ≤ 1000) (hU : U ≤ 40) (hmk : 0 ≤ mk ∧ mk < 8) (ht : tms ≤ 3) : ∀ (r f g : Nat) (t : Int) (s : St3) (hc hm : Hp), t + r = max t tms → r < f → r < g → 0 ≤ t → Rc hc T z s → Rm hm T z s → hc 29 7 = w → hc 29 9 = at_ → hc 29 13 = mk → hc 29 14 = tms → (s.1 = -1 → PG hc hm T z w ∧ U ≤ hm 113 2 ∧ mk < hm 113 4) → ∃ hc' hm' s', BX6_tellAgain_27 n f U t hc = some hc' ∧ BX12_readsAgain_66 n g at_ mk tms U t hm = some hm' ∧ FAg w hc hc' ∧ FML hm hm' ∧ Rc hc' T z s' ∧ Rm hm' T z s' ∧ (s'.1 = -1 → PG hc' hm' T z w ∧ s' = s)
  | 0, f + 1, g + 1, t, s, hc, hm, hr, hf, hg, t0, A, B, e7, e9, e13, e14, P => by
    rw [BX6_tellAgain_27, BX12_readsAgain_66, e14, if_pos (by omega), if_pos (by omega)]
    exact ⟨hc, hm, s, rfl, rfl, FAg.rf, ⟨fun _ _ _ _ _ _ _ => rfl, fun _ _ _ _ _ _ => rfl⟩, A, B, fun q => ⟨(P q).1, rfl⟩⟩
  | r + 1, f + 1, g + 1, t, s, hc, hm, hr, hf, hg, t0, A, B, e7, e9, e13, e14, P => by
    rw [BX6_tellAgain_27, BX12_readsAgain_66, e14, if_neg (show ¬ tms ≤ t by omega), if_neg (show ¬ tms ≤ t by omega), isRight_m, bndp_s, B.1, A.1]
    by_cases hs : s.1 = -1
    · obtain ⟨P1, P2, P3⟩ := P hs
      have b := P1.2.2.2.2.2.2 mk hmk.1 P3
      obtain ⟨hc', hm', s', p1, p2, p3, p4, p5, p6, p7, p8, p9⟩ := again_in hn (mk := mk) (tms := tms) (t := t) (x2 := t) hw hat hU (max (hm 118 mk) U - hm 118 mk).toNat n n (hm 118 mk) s hc hm (by omega) (by omega) (by omega) b.2.1 A B e7 e9 (fun _ => ⟨P1, P2⟩)
      obtain ⟨hc2, hm2, s2, q1, q2, q3, q4, q5, q6, q7⟩ := again_out hn hw hat hU hmk ht r f g (t + 1) s' hc' hm' (by omega) (by omega) (by omega) (by omega) p7 p8 (by rw [p3.2 7 (by decide)]; exact e7) (by rw [p3.2 9 (by decide)]; exact e9) (by rw [p3.2 13 (by decide)]; exact e13) (by rw [p3.2 14 (by decide)]; exact e14) (fun q => ⟨(p9 q).1, (p9 q).2.1, by rw [p6]; exact P3⟩)
      rw [if_neg (fun q => q hs), if_pos hs, if_neg (by decide), e13, al84, grd_t (by omega), grd_t (by omega), ltt_e, ltt_e, b.1]
      unfold LX6_tellAgain_53 LX12_readsAgain_89
      rw [p1, p2, bndx_s, bndx_s]
      show ∃ hc2 hm2 s2, JX6_tellAgain_130 n (BX6_tellAgain_27 n f) U t hc' = some hc2 ∧ JX12_readsAgain_130 n (BX12_readsAgain_66 n g) at_ mk tms U t hm' = some hm2 ∧ _
      unfold JX6_tellAgain_130 JX12_readsAgain_130
      rw [ltt_e, ltt_e, w32_i (x := t + 1) (by omega)]
      exact ⟨hc2, hm2, s2, q1, q2, p3.tr q3, p4.tr q4, q5, q6, fun q => by
        obtain ⟨a1, a2⟩ := q7 q
        refine ⟨a1, ?_⟩
        rw [a2] at q
        rw [a2]
        exact (p9 q).2.2⟩
    · rw [if_pos hs, if_neg hs, if_pos rfl]
      exact ⟨hc, hm, s, rfl, rfl, FAg.rf, ⟨fun _ _ _ _ _ _ _ => rfl, fun _ _ _ _ _ _ => rfl⟩, A, B, fun q => ⟨(P q).1, rfl⟩⟩
theorem againLine (hn : 1000 ≤ n) {hc hm : Hp} {T : Int → Int} {z w at_ : Int} {s : St3} (hw : w = 1 ∨ w = 14) (A : Rc hc T z s) (B : Rm hm T z s) (hs : s.1 = -1) (P : PG hc hm T z w) (e7 : hc 29 7 = w) (e9 : hc 29 9 = at_) (hat : 0 ≤ at_ ∧ at_ ≤ 1000) : ∃ hc1 hc2 hm' s', MX6_readName n 7 hc = some hc1 ∧ JX6_readLine_65 n 7 hc1 = some (7, hc2) ∧ MX12_readsAgain n at_ hm = some hm' ∧ Rm hm' T z s' ∧ FML hm hm' ∧ FRA w hc hc2 ∧ ((hc2 29 8 ≠ -1 ∧ Rc hc2 T z s' ∧ s'.1 ≠ -1) ∨ (hc2 29 8 = -1 ∧ ∃ hc3, MX6_tellAgain n hc2 = some hc3 ∧ FRA w hc hc3 ∧ Rc hc3 T z s' ∧ (s'.1 = -1 → PG hc3 hm' T z w ∧ s.2.1 < s'.2.1))) := by
  have hMk := P.1.2.2.2.2.2.2.2.2
  rw [pv_7] at hMk
  have hMv := P.1.2.2.2.2.2.2.2.1
  rw [pv_5] at hMv
  have e13 : hc w 13 = hm 113 4 := P.2.1.1.2.2.2.2.1
  have e12 : hc w 12 = hm 113 2 := P.2.1.1.2.2.2.1
  have bs := A.bd hs
  obtain ⟨hc1, x1, F1, R1, V1, T1⟩ := readName_c (M := hm 113 4) hn (Or.inr rfl) A hs e7 (by omega) e13 hMk P.2.2.2.2.2.1
  rw [if_pos rfl] at R1
  obtain ⟨hc2, x2, F2, R2⟩ := endLine_c (x := 7) hn R1
  obtain ⟨v, h1, y1, G1, S1, e117, y2, W1⟩ := nameM (k := 7) hn (Or.inr rfl) B hs rfl hMk
  obtain ⟨h2, y3, G2, S2⟩ := rdM_m (k := 7) (M := hm 113 4) (N := hm 117) hn S1 W1
  obtain ⟨tm, h3, y4, G3, S3, V3⟩ := numU_m hn (lo := 1) (hi := 3) (by decide) S2
  obtain ⟨h4, y5, G4, S4⟩ := ends_m hn S3
  have GG := ((G1.tr G2).tr G3).tr G4
  have FA : FRA w hc hc2 := ⟨fun c h1 h2 _ _ => (F2.1 c h1 h2).trans (F1.1 c h1 h2), fun i hi => (F2.2.1 i hi).trans (F1.2.1 i hi), fun i hi => (F2.2.2 i (by omega)).trans (F1.2.2 i (by omega))⟩
  have J : ∀ mk : Int, JX12_readsAgain_45 n at_ mk h2 = BX12_readsAgain_66 n n at_ mk tm (h4 113 2) 0 h4 := fun mk => by
    unfold JX12_readsAgain_45 LX12_readsAgain_66
    rw [y4, bnd_s, ltt_e, y5, bndh_s, ltt_e, ltt_e]
  have y : ∃ mk : Int, MX12_readsAgain n at_ hm = BX12_readsAgain_66 n n at_ mk tm (h4 113 2) 0 h4 ∧ ((rdW T z s).1 = -1 → mk = mkF (hm 117) v (hm 113 4)) := by
    unfold MX12_readsAgain
    rw [y1, bnd_s, ltt_e, isRight_m, bndp_s, S1.1]
    by_cases ok : (rdW T z s).1 = -1
    · rw [if_pos ok] at y3
      refine ⟨mkF (hm 117) v (hm 113 4), ?_, fun _ => rfl⟩
      rw [if_pos ok, if_neg (by decide), y2, bndp_s]
      unfold JX12_readsAgain_21
      rw [ltt_e, isRight_m, bndp_s, S1.1, if_pos ok, if_neg (by decide)]
      by_cases hf : mkF (hm 117) v (hm 113 4) = -1
      · rw [if_pos ⟨fun _ => rfl, fun _ => hf⟩] at y3
        rw [if_neg (fun q => q hf), y3, bndh_s]
        exact J _
      · rw [if_neg (fun q => hf (q.mpr rfl))] at y3
        cases y3
        rw [if_pos hf]
        exact J _
    · rw [if_neg ok] at y3
      cases y3
      refine ⟨0, ?_, fun q => absurd q ok⟩
      rw [if_neg ok, if_pos rfl]
      unfold JX12_readsAgain_21
      rw [ltt_e, isRight_m, bndp_s, S1.1, if_neg ok, if_pos rfl]
      exact J _
  obtain ⟨mk, ey, emk⟩ := y
  refine ⟨hc1, hc2, ?_⟩
  rw [ey]
  by_cases ok : (rdE T z (rdU T z 1 3 (rdM T z (hm 117) (hm 113 4) 7 s)).1).1 = -1
  · have okU := rdE_ok ok
    have okM := rdU_ok okU
    obtain ⟨okW, eM, nf⟩ := rdM_W hs bs.1 bs.2 okM
    obtain ⟨t11, t12, t13⟩ := V1 okM
    obtain ⟨w1, -, -⟩ := W1 okW
    have t14 := T1 rfl okU
    have vt := V3 okU
    have bM := S2.2.1 okM
    have tv := rdU_v okU bM.2.2.1.2.1 bM.2.2.1.1
    rw [← vt] at tv t14
    have emk' := emk okW
    rw [← w1] at nf t13
    have mkb' := mkF_b (N := hm 117) (v := v) hMk.1
    have nf' : ¬ mkF (hm 117) v (hm 113 4) = -1 := fun q => nf ⟨fun _ => rfl, fun _ => q⟩
    rw [← emk'] at mkb' nf' t13
    have c8 : hc2 29 8 = -1 := R2.1.trans ok
    have k7 : hc2 29 7 = w := by rw [F2.2.2 7 (by decide), F1.2.2 7 (by decide)]; exact e7
    have k9 : hc2 29 9 = at_ := by rw [F2.2.2 9 (by decide), F1.2.2 9 (by decide)]; exact e9
    have k13 : hc2 29 13 = mk := (F2.2.2 13 (by decide)).trans t13
    have k14 : hc2 29 14 = tm := (F2.2.2 14 (by decide)).trans t14
    have kw : hc2 w 12 = hm 113 2 := by rw [F2.1 w (by omega) (by omega), F1.1 w (by omega) (by omega)]; exact e12
    have n2 : h4 113 2 = hm 113 2 := GG.2 2 (by decide)
    have kc : ∀ c, c ≠ 27 → c ≠ 29 → hc2 c = hc c := fun c h1 h2 => (F2.1 c h1 h2).trans (F1.1 c h1 h2)
    have P1 : PG hc2 h4 T z w := P.mv (fun c c0 c1 => kc c (by omega) (by omega)) (fun i _ _ => by rw [kc 34 (by decide) (by decide)]) (kc 35 (by decide) (by decide)) (kc 36 (by decide) (by decide)) (kc 37 (by decide) (by decide)) (GG.1 114 (by decide)) (GG.1 119 (by decide)) (GG.1 120 (by decide)) (GG.1 121 (by decide)) n2 (GG.2 3 (by decide)) (GG.2 4 (by decide)) (GG.1 128 (by decide)) (fun i _ _ => by rw [GG.1 116 (by decide)]) (GG.1 117 (by decide)) (GG.1 118 (by decide))
    obtain ⟨hc3, hm', s', q1, q2, q3, q4, q5, q6, q7⟩ := again_out hn hw hat (U := hm 113 2) (mk := mk) (tms := tm) hMv.2 (by omega) tv.2 tm.toNat n n 0 _ hc2 h4 (by omega) (by omega) (by omega) (by decide) R2 S4 k7 k9 k13 k14 (fun _ => ⟨P1, by omega, by rw [GG.2 4 (by decide)]; omega⟩)
    rw [n2]
    refine ⟨hm', s', x1, x2, q2, q6, ⟨fun c h1 h2 h3 h4 h5 h6 => (q4.1 c h1 h2 h3 h4 h5 h6).trans (GG.1 c h1), fun i h1 h2 h3 h4 h5 => (q4.2 i h1 h2 h3 h4 h5).trans (GG.2 i (by omega))⟩, FA, Or.inr ⟨c8, hc3, ?_, FA.tr (q3.ra hw), q5, fun q => ⟨(q7 q).1, by
      have m1 := rdW_mo bs.1 bs.2 hs okW
      rw [← eM] at m1
      have m2 := rdU_mo (by omega) m1.2 okU
      have me := rdE_mo (by omega) m2.2 ok
      rw [(q7 q).2]
      omega⟩⟩⟩
    unfold MX6_tellAgain LX6_tellAgain_27
    rw [k13, if_neg (by omega), if_pos (by omega), k7, kw, ltt_e, ltt_e]
    exact q1
  · have c8 : hc2 29 8 ≠ -1 := fun q => ok (R2.1.symm.trans q)
    refine ⟨h4, _, x1, x2, ?_, S4, ⟨fun c h1 _ _ _ _ _ => GG.1 c h1, fun i _ _ _ h4 _ => GG.2 i (by omega)⟩, FA, Or.inl ⟨c8, R2, ok⟩⟩
    obtain ⟨n', en⟩ : ∃ n', n = n' + 1 := ⟨n - 1, by omega⟩
    have : BX12_readsAgain_66 n (n' + 1) at_ mk tm (h4 113 2) 0 h4 = some h4 := by
      rw [BX12_readsAgain_66]
      by_cases h0 : tm ≤ 0
      · rw [if_pos h0]
      · rw [if_neg h0, isRight_m, bndp_s, S4.1, if_neg ok, if_pos rfl]
    rw [← en] at this
    exact this
end
