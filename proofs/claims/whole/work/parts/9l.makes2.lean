/-! A MOVE IS MADE: whole, and the last one. -/
section
variable {n : Nat}
theorem makes_68 (hn : 100 ≤ n) {h : Hp} {row k a b c d f tol x y z N0 f0 M : Int} (hr : 0 ≤ row ∧ row ≤ 234) (er : h 116 row = k ∧ h 116 (row + 1) = a ∧ h 116 (row + 2) = b ∧ h 116 (row + 3) = c ∧ h 116 (row + 4) = d ∧ h 116 (row + 5) = f) (V : VR k a b c d f) (hx : far_ x) (hy : far_ y) (hz : far_ z) (et : h 114 7 = tol) (W : WS h x y z N0 0 f0 M) (hN : 0 ≤ N0 ∧ N0 ≤ 64) (hM : 0 ≤ M ∧ M ≤ 40) (hf : f0 = 0 ∨ f0 = 1) : ∃ h', JX12_makes_68 n row h = some h' ∧ MVd h h' (mvX tol k a b c x) (mvY tol k a b c y) (mvZ tol k a b c d z) (mvN tol k a b c) N0 f0 M f := by
  obtain ⟨e0, e1, e2, e3, e4, e5⟩ := er
  obtain ⟨⟨va, vb, vd⟩, vk, vf⟩ := V
  unfold JX12_makes_68
  rw [al1940, al44, w32_i (x := row + 1) (by omega), w32_i (x := row + 2) (by omega), w32_i (x := row + 3) (by omega), w32_i (x := row + 4) (by omega), w32_i (x := row + 5) (by omega), grd_t (by omega), e1, ltt_e, grd_t (by omega), e2, ltt_e, grd_t (by omega), e3, ltt_e, grd_t (by omega), e0, grd_t (by omega), grd_t (by decide), grd_t (by decide), grd_t (by decide), grd_t (by omega), grd_t (by omega), grd_t (by omega), e4, e5, W.1.1, W.1.2.1, W.1.2.2]
  have m0 := mv_0 (tol := tol) (k := k) (a := a) (b := b) (c := c) (d := d) (x := x) (y := y) (z := z)
  have W0 : WS h (mvX tol k a b c x 0) (mvY tol k a b c y 0) (mvZ tol k a b c d z 0) N0 0 f0 M := by
    rw [m0.1, m0.2.1, m0.2.2]
    exact W
  rcases vk with ⟨k5, hab, hc⟩ | ⟨k34, vc⟩
  · subst k5
    obtain ⟨h', e, D⟩ := turns_m hn (f := f) (f0 := f0) va vb vd hx hy hz hab hc et W hN hM hf
    rw [if_neg (by decide), if_neg (by decide), e, bndh_s]
    exact ⟨h', rfl, D⟩
  · have k5 : ¬ k = 5 := by omega
    have cn : mvN tol k a b c = 1 := if_neg k5
    have one : ∀ p q r : Int, p = mvX tol k a b c x 1 → q = mvY tol k a b c y 1 → r = mvZ tol k a b c d z 1 → ∃ h', MX12_comesTo n p q r f h = some h' ∧ MVd h h' (mvX tol k a b c x) (mvY tol k a b c y) (mvZ tol k a b c d z) (mvN tol k a b c) N0 f0 M f := fun p q r hp hq hr' => by
      obtain ⟨h', e, -, P⟩ := PS_st (n := n) (by omega) (PS_0 (f := f) W0 hN hf) hN hM (p := p) (q := q) (r := r) hp hq hr'
      rw [cn]
      exact ⟨h', e, PS.mvd (by decide) FCm.rf P⟩
    rcases k34 with e | e
    · subst e
      obtain ⟨h', e', D⟩ := one a b c rfl rfl rfl
      rw [if_pos rfl, e', bndh_s]
      exact ⟨h', rfl, D⟩
    · subst e
      have px : mvX tol 4 a b c x 1 = a + x := rfl
      have py : mvY tol 4 a b c y 1 = b + y := rfl
      have pz : mvZ tol 4 a b c d z 1 = c + z := rfl
      obtain ⟨h', e', D⟩ := one (x + a) (y + b) (z + c) (by rw [px]; omega) (by rw [py]; omega) (by rw [pz]; omega)
      rw [if_neg (by decide), if_pos rfl, w32_i (x := x + a) (by omega), w32_i (x := y + b) (by omega), w32_i (x := z + c) (by omega), e', bndh_s]
      exact ⟨h', rfl, D⟩
theorem mcopy_l {x2 M : Int} (hx : 0 ≤ x2 ∧ x2 ≤ 234) (hM : 0 ≤ M ∧ M < 40) (hd : x2 = 6 * M ∨ x2 + 6 ≤ 6 * M) {g : Hp} : ∀ (r f : Nat) (i : Int) (h : Hp), i + r = 6 → r < f → 0 ≤ i → KR 116 g h → g 113 2 = M → (∀ j, (j < 6 * M ∨ 6 * M + 6 ≤ j) → h 116 j = g 116 j) → (∀ j, 0 ≤ j → j < 6 → h 116 (6 * M + j) = if j < i then g 116 (x2 + j) else g 116 (6 * M + j)) → ∃ h', BX12_makes_24 n f x2 i h = some (x2, h') ∧ KR 116 g h' ∧ (∀ j, (j < 6 * M ∨ 6 * M + 6 ≤ j) → h' 116 j = g 116 j) ∧ ∀ j, 0 ≤ j → j < 6 → h' 116 (6 * M + j) = g 116 (x2 + j)
  | 0, f + 1, i, h, hi, hf, i0, K, e2, A, B => by
    rw [BX12_makes_24, if_pos (by omega)]
    exact ⟨h, rfl, K, A, fun j j0 j1 => by rw [B j j0 j1, if_pos (by omega)]⟩
  | r + 1, f + 1, i, h, hi, hf, i0, K, e2, A, B => by
    have src : h 116 (x2 + i) = g 116 (x2 + i) := by
      rcases hd with e | e
      · rw [e, B i i0 (by omega), if_neg (by omega)]
      · exact A _ (by omega)
    rw [BX12_makes_24, if_neg (by omega), al1940, w32_i (x := x2 + i) (by omega), K 113 (by decide), e2, w32_i (x := 6 * M) (by omega), w32_i (x := 6 * M + i) (by omega), grd_t (by omega), grd_t (by omega), src, ltt_e, ltt_e, w32_i (x := i + 1) (by omega)]
    exact mcopy_l hx hM hd r f (i + 1) _ (by omega) (by omega) (by omega) K.put e2 (fun j hj => (up_i (by omega)).trans (A j hj)) (fun j j0 j1 => by
      by_cases hj : j = i
      · rw [hj, up_s, if_pos (by omega)]
      · rw [up_i (by omega), B j j0 j1]
        by_cases h1 : j < i
        · rw [if_pos h1, if_pos (by omega)]
        · rw [if_neg h1, if_neg (by omega)])
theorem makes_m (hn : 100 ≤ n) {h : Hp} {k' k a b c d f : Int} (hk : 0 ≤ k' ∧ k' ≤ 39) (hd : k' ≤ h 113 2) (er : h 116 (6 * k') = k ∧ h 116 (6 * k' + 1) = a ∧ h 116 (6 * k' + 2) = b ∧ h 116 (6 * k' + 3) = c ∧ h 116 (6 * k' + 4) = d ∧ h 116 (6 * k' + 5) = f) (V : VR k a b c d f) (hh : ∀ a, 0 ≤ a → a < 3 → far_ (h 128 a)) (hN : 0 ≤ h 113 3 ∧ h 113 3 ≤ 64) (hM : 0 ≤ h 113 2 ∧ h 113 2 ≤ 40) (e26 : h 113 26 = 0) (e27 : h 113 27 = 0) : ∃ h', MX12_makes n k' h = some h' ∧ MVr h h' k a b c d f (if h 113 2 < 40 then 0 else 1) (if h 113 2 < 40 then h 113 2 + 1 else h 113 2) := by
  unfold MX12_makes
  rw [w32_i (x := 6 * k') (by omega), ltt_e]
  by_cases h40 : h 113 2 < 40
  · obtain ⟨g, e, K, A, B⟩ := mcopy_l (n := n) (x2 := 6 * k') (M := h 113 2) (by omega) (by omega) (by omega) (g := h) 6 n 0 h (by decide) (by omega) (by decide) KR.rf rfl (fun _ _ => rfl) (fun j j0 j1 => by rw [if_neg (by omega)])
    rw [if_pos (show h 113 2 ≠ 40 by omega), ltt_e]
    unfold LX12_makes_24
    rw [e, bndx_s]
    show ∃ h', JX12_makes_58 n (6 * k') g = some h' ∧ _
    unfold JX12_makes_58
    rw [K 113 (by decide), w32_i (x := h 113 2 + 1) (by omega), ltt_e, if_pos h40, if_pos h40]
    have F : ∀ c, c ≠ 113 → c ≠ 116 → up g 113 2 (h 113 2 + 1) c = h c := fun c c1 c2 => (up_row c1).trans (K c c2)
    have F2 : ∀ i, i ≠ 2 → up g 113 2 (h 113 2 + 1) 113 i = h 113 i := fun i hi => (up_i hi).trans (by rw [K 113 (by decide)])
    have r116 : ∀ j, 0 ≤ j → j < 6 → g 116 (6 * k' + j) = h 116 (6 * k' + j) := fun j j0 j1 => by
      by_cases hkM : k' = h 113 2
      · rw [hkM, B j j0 j1, hkM]
      · exact A _ (by omega)
    have er' : up g 113 2 (h 113 2 + 1) 116 (6 * k') = k ∧ up g 113 2 (h 113 2 + 1) 116 (6 * k' + 1) = a ∧ up g 113 2 (h 113 2 + 1) 116 (6 * k' + 2) = b ∧ up g 113 2 (h 113 2 + 1) 116 (6 * k' + 3) = c ∧ up g 113 2 (h 113 2 + 1) 116 (6 * k' + 4) = d ∧ up g 113 2 (h 113 2 + 1) 116 (6 * k' + 5) = f := by
      have t := r116 0 (by decide) (by decide)
      rw [Int.add_zero] at t
      rw [up_row (by decide), t, r116 1 (by decide) (by decide), r116 2 (by decide) (by decide), r116 3 (by decide) (by decide), r116 4 (by decide) (by decide), r116 5 (by decide) (by decide)]
      exact er
    obtain ⟨h', e', D1, D2, D3, D4, D5, D6⟩ := makes_68 hn (tol := h 114 7) (x := h 128 0) (y := h 128 1) (z := h 128 2) (N0 := h 113 3) (f0 := 0) (M := h 113 2 + 1) (by omega) er' V (hh 0 (by decide) (by decide)) (hh 1 (by decide) (by decide)) (hh 2 (by decide) (by decide)) (by rw [F 114 (by decide) (by decide)]) ⟨⟨by rw [F 128 (by decide) (by decide)], by rw [F 128 (by decide) (by decide)], by rw [F 128 (by decide) (by decide)]⟩, F2 3 (by decide), (F2 26 (by decide)).trans e26, (F2 27 (by decide)).trans e27, up_s⟩ hN (by omega) (Or.inl rfl)
    refine ⟨h', e', fun c c1 c2 c3 c4 c5 c6 c7 c8 => (D1 c c1 c3 c4 c5 c6 c7 c8).trans (F c c1 c2), fun i i1 i2 i3 i4 i5 => (D2 i i2 i3 i4 i5).trans (F2 i i1), fun i hi => ?_, fun _ => ?_, D3, fun i hi => (D4 i hi).trans (by rw [F 119 (by decide) (by decide)]), fun b hb => ?_, D6⟩
    · rw [D1 116 (by decide) (by decide) (by decide) (by decide) (by decide) (by decide) (by decide), up_row (by decide)]
      exact A i (Or.inl hi)
    · have t := B 0 (by decide) (by decide)
      rw [Int.add_zero, Int.add_zero] at t
      rw [D1 116 (by decide) (by decide) (by decide) (by decide) (by decide) (by decide) (by decide), up_row (by decide), t, B 1 (by decide) (by decide), B 2 (by decide) (by decide), B 3 (by decide) (by decide), B 4 (by decide) (by decide), B 5 (by decide) (by decide)]
      exact er
    · have t := D5 b hb
      rw [F 120 (by decide) (by decide), F 121 (by decide) (by decide)] at t
      exact t
  · rw [if_neg (show ¬ h 113 2 ≠ 40 by omega), ltt_e, if_neg h40, if_neg h40]
    have F : ∀ c, c ≠ 113 → up h 113 27 1 c = h c := fun c c1 => up_row c1
    have F2 : ∀ i, i ≠ 27 → up h 113 27 1 113 i = h 113 i := fun i hi => up_i hi
    obtain ⟨h', e', D1, D2, D3, D4, D5, D6⟩ := makes_68 hn (h := up h 113 27 1) (row := 6 * k') (tol := h 114 7) (x := h 128 0) (y := h 128 1) (z := h 128 2) (N0 := h 113 3) (f0 := 1) (M := h 113 2) (by omega) (by rw [up_row (by decide)]; exact er) V (hh 0 (by decide) (by decide)) (hh 1 (by decide) (by decide)) (hh 2 (by decide) (by decide)) (by rw [F 114 (by decide)]) ⟨⟨by rw [F 128 (by decide)], by rw [F 128 (by decide)], by rw [F 128 (by decide)]⟩, F2 3 (by decide), (F2 26 (by decide)).trans e26, up_s, F2 2 (by decide)⟩ hN hM (Or.inr rfl)
    refine ⟨h', e', fun c c1 c2 c3 c4 c5 c6 c7 c8 => (D1 c c1 c3 c4 c5 c6 c7 c8).trans (F c c1), fun i i1 i2 i3 i4 i5 => (D2 i i2 i3 i4 i5).trans (F2 i i4), fun i hi => ?_, fun q => absurd q h40, D3, fun i hi => (D4 i hi).trans (by rw [F 119 (by decide)]), fun b hb => ?_, D6⟩
    · rw [D1 116 (by decide) (by decide) (by decide) (by decide) (by decide) (by decide) (by decide), up_row (by decide)]
    · have t := D5 b hb
      rw [F 120 (by decide), F 121 (by decide)] at t
      exact t
/-- a move beyond the fortieth, in the class -/
theorem tell_40 (hn : 100 ≤ n) {hc hm : Hp} {T : Int → Int} {z w k a b c d f at_ : Int} (hw : w = 1 ∨ w = 14) (P : PG hc hm T z w) (V : VR k a b c d f) (e7 : hc 29 7 = w) (e8 : hc 29 8 = -1) (e9 : hc 29 9 = at_) (hat : 0 ≤ at_ ∧ at_ ≤ 1000) (er : hc 34 (6 * hm 113 2) = k ∧ hc 34 (6 * hm 113 2 + 1) = a ∧ hc 34 (6 * hm 113 2 + 2) = b ∧ hc 34 (6 * hm 113 2 + 3) = c ∧ hc 34 (6 * hm 113 2 + 4) = d ∧ hc 34 (6 * hm 113 2 + 5) = f) (h40 : hm 113 2 = 40) : ∃ hc', MX6_tellMove n hc = some hc' ∧ FTl w hc hc' ∧ hc' 29 8 = ci (∃ j : Int, 1 ≤ j ∧ j ≤ mvN (hm 114 7) k a b c ∧ beyP (mvX (hm 114 7) k a b c (hm 128 0)) (mvY (hm 114 7) k a b c (hm 128 1)) (mvZ (hm 114 7) k a b c d (hm 128 2)) j) (8 * at_ + 5) (8 * at_ + 4) := by
  obtain ⟨H, R, hh, -⟩ := P
  have hB := H.1
  rw [pv_6] at hB
  have hp : ∀ a, 0 ≤ a → a < 3 → far_ (hm 128 a) := fun a a0 a1 => by
    rw [hh a a0 a1]
    exact H.2.2.2.2.1 _ (by omega) (by rw [pv_6]; omega)
  have R3 : ∀ a, 0 ≤ a → a < 3 → hc (w + 2 + 1 + a) (hm 113 3) = hm 128 a := fun a a0 a1 => by
    have := R.2.2.1 a (hm 113 3) a0 a1 hB.1 (by rw [pv_6]; exact Int.le_refl _)
    rw [this, hh a a0 a1]
    rfl
  have eN : hc w 11 = hm 113 3 := R.1.2.2.1
  have eT : hc w 10 = hm 114 7 := R.1.2.1
  have eMc : hc w 12 = hm 113 2 := R.1.2.2.2.1
  obtain ⟨g, e1, F1, c1, A1⟩ := lay_c hn hw (row := 6 * hm 113 2) (N := hm 113 3) (tol := hm 114 7) (x := hm 128 0) (y := hm 128 1) (z := hm 128 2) (by omega) eN hB eT (R3 0 (by decide) (by decide)) (R3 1 (by decide) (by decide)) (R3 2 (by decide) (by decide)) (hp 0 (by decide) (by decide)) (hp 1 (by decide) (by decide)) (hp 2 (by decide) (by decide)) er.1 er.2.1 er.2.2.1 er.2.2.2.1 er.2.2.2.2.1 V
  have nb := mvN_b (tol := hm 114 7) V
  have gB := goBeyond_c (n := n) (px := mvX (hm 114 7) k a b c (hm 128 0)) (py := mvY (hm 114 7) k a b c (hm 128 1)) (pz := mvZ (hm 114 7) k a b c d (hm 128 2)) hn (by omega) ⟨c1, A1⟩
  have g7 : g 29 7 = w := by rw [F1.1 29 (by decide)]; exact e7
  have g8 : g 29 8 = -1 := by rw [F1.1 29 (by decide)]; exact e8
  have g9 : g 29 9 = at_ := by rw [F1.1 29 (by decide)]; exact e9
  have g12 : g w 12 = hm 113 2 := by rw [F1.1 w (by omega)]; exact eMc
  have FLp : ∀ v, FTl w hc (up g 29 8 v) := fun v => ⟨fun c h1 h2 h3 => (up_row h1).trans (F1.1 c h2), fun i hi => (up_i hi).trans (by rw [F1.1 29 (by decide)])⟩
  unfold MX6_tellMove JX6_tellMove_81
  rw [e7, eMc, rowOf_c (by omega), bndp_s, ltt_e, e1, bndh_s, gB, bndp_s, g7, g12]
  rcases ci_01 (∃ j : Int, 1 ≤ j ∧ j ≤ mvN (hm 114 7) k a b c ∧ beyP (mvX (hm 114 7) k a b c (hm 128 0)) (mvY (hm 114 7) k a b c (hm 128 1)) (mvZ (hm 114 7) k a b c d (hm 128 2)) j) with q | q
  · rw [q.1, if_pos rfl, if_pos (by omega), g9, fail_c (by decide) hat, g8, if_pos rfl, bndh_s, ci_f q.2]
    exact ⟨_, rfl, FLp _, up_s⟩
  · rw [q.1, if_neg (by decide), g9, fail_c (by decide) hat, g8, if_pos rfl, bndh_s, ci_t q.2]
    exact ⟨_, rfl, FLp _, up_s⟩
/-- a move beyond the fortieth, in the model -/
theorem lastMove_m (hn : 100 ≤ n) {h : Hp} {k a b c d f : Int} (er : h 131 0 = k ∧ h 131 1 = a ∧ h 131 2 = b ∧ h 131 3 = c ∧ h 131 4 = d ∧ h 131 5 = f) (V : VR k a b c d f) (hh : ∀ a, 0 ≤ a → a < 3 → far_ (h 128 a)) (hN : 0 ≤ h 113 3 ∧ h 113 3 ≤ 64) (hM : 0 ≤ h 113 2 ∧ h 113 2 ≤ 40) (e26 : h 113 26 = 0) : ∃ h', MX12_lastMove n h = some h' ∧ (∀ c, c ≠ 113 → c ≠ 119 → c ≠ 120 → c ≠ 121 → c ≠ 128 → c ≠ 129 → c ≠ 130 → h' c = h c) ∧ (∀ i, i ≠ 3 → i ≠ 26 → i ≠ 27 → i ≠ 30 → h' 113 i = h 113 i) ∧ h' 113 26 = ci (∃ j : Int, 1 ≤ j ∧ j ≤ mvN (h 114 7) k a b c ∧ beyP (mvX (h 114 7) k a b c (h 128 0)) (mvY (h 114 7) k a b c (h 128 1)) (mvZ (h 114 7) k a b c d (h 128 2)) j) 1 0 ∧ h' 113 27 = 1 := by
  obtain ⟨e0, e1, e2, e3, e4, e5⟩ := er
  have nb := mvN_b (tol := h 114 7) V
  have m0 := mv_0 (tol := h 114 7) (k := k) (a := a) (b := b) (c := c) (d := d) (x := h 128 0) (y := h 128 1) (z := h 128 2)
  have b0 : ¬ beyP (mvX (h 114 7) k a b c (h 128 0)) (mvY (h 114 7) k a b c (h 128 1)) (mvZ (h 114 7) k a b c d (h 128 2)) 0 := fun q => by
    have q0 := hh 0 (by decide) (by decide)
    have q1 := hh 1 (by decide) (by decide)
    have q2 := hh 2 (by decide) (by decide)
    rw [← m0.1] at q0
    rw [← m0.2.1] at q1
    rw [← m0.2.2] at q2
    exact q.elim (fun q => q q0) (fun q => q.elim (fun q => q q1) (fun q => q q2))
  obtain ⟨⟨va, vb, vd⟩, vk, vf⟩ := V
  have W : WS (up h 113 27 1) (h 128 0) (h 128 1) (h 128 2) (h 113 3) 0 1 (h 113 2) := ⟨⟨by rw [up_row (by decide)], by rw [up_row (by decide)], by rw [up_row (by decide)]⟩, up_i (by decide), (up_i (by decide)).trans e26, up_s, up_i (by decide)⟩
  have fin : ∀ h', MVd (up h 113 27 1) h' (mvX (h 114 7) k a b c (h 128 0)) (mvY (h 114 7) k a b c (h 128 1)) (mvZ (h 114 7) k a b c d (h 128 2)) (mvN (h 114 7) k a b c) (h 113 3) 1 (h 113 2) f → (∀ c, c ≠ 113 → c ≠ 119 → c ≠ 120 → c ≠ 121 → c ≠ 128 → c ≠ 129 → c ≠ 130 → h' c = h c) ∧ (∀ i, i ≠ 3 → i ≠ 26 → i ≠ 27 → i ≠ 30 → h' 113 i = h 113 i) ∧ h' 113 26 = ci (∃ j : Int, 1 ≤ j ∧ j ≤ mvN (h 114 7) k a b c ∧ beyP (mvX (h 114 7) k a b c (h 128 0)) (mvY (h 114 7) k a b c (h 128 1)) (mvZ (h 114 7) k a b c d (h 128 2)) j) 1 0 ∧ h' 113 27 = 1 := fun h' D => by
    obtain ⟨D1, D2, D3, -⟩ := D
    refine ⟨fun c c1 c2 c3 c4 c5 c6 c7 => (D1 c c1 c2 c3 c4 c5 c6 c7).trans (up_row c1), fun i i1 i2 i3 i4 => (D2 i i1 i2 i3 i4).trans (up_i i3), ?_, ?_⟩
    · rw [D3.2.2.1]
      exact ci_c (bey_iff b0)
    · rw [D3.2.2.2.1, if_pos (Or.inl rfl)]
  unfold MX12_lastMove
  rw [ltt_e, al68, al44, grd_t (by decide), grd_t (by decide), up_row (b := 131) (by decide), up_row (b := 128) (by decide), e0, e1, e2, e3, e4, e5]
  rcases vk with ⟨k5, hab, hc⟩ | ⟨k34, vc⟩
  · subst k5
    obtain ⟨h', e, D⟩ := turns_m hn (h := up h 113 27 1) (f := f) (tol := h 114 7) va vb vd (hh 0 (by decide) (by decide)) (hh 1 (by decide) (by decide)) (hh 2 (by decide) (by decide)) hab hc (by rw [up_row (by decide)]) W hN hM (Or.inr rfl)
    rw [if_neg (fun q => q rfl), grd_t (by decide), grd_t (by decide), grd_t (by decide), grd_t (by decide), grd_t (by decide), e, bndh_s]
    exact ⟨h', rfl, fin h' D⟩
  · have k5 : k ≠ 5 := by omega
    have cn : mvN (h 114 7) k a b c = 1 := if_neg k5
    rw [if_pos k5]
    rcases k34 with e | e
    · subst e
      rw [if_pos (by decide)]
      refine ⟨_, rfl, fun c c1 _ _ _ _ _ _ => up_row c1, fun i _ _ i3 _ => up_i i3, ?_, up_s⟩
      rw [up_i (by decide), e26, ci_f (fun q => by
        obtain ⟨j, j1, j2, j3⟩ := q
        have ej : j = 1 := by omega
        subst ej
        exact j3.elim (fun t => t va) (fun t => t.elim (fun t => t vb) (fun t => t vc)))]
    · subst e
      have px : mvX (h 114 7) 4 a b c (h 128 0) 1 = a + h 128 0 := rfl
      have py : mvY (h 114 7) 4 a b c (h 128 1) 1 = b + h 128 1 := rfl
      have pz : mvZ (h 114 7) 4 a b c d (h 128 2) 1 = c + h 128 2 := rfl
      have q0 := hh 0 (by decide) (by decide)
      have q1 := hh 1 (by decide) (by decide)
      have q2 := hh 2 (by decide) (by decide)
      have W0 : WS (up h 113 27 1) (mvX (h 114 7) 4 a b c (h 128 0) 0) (mvY (h 114 7) 4 a b c (h 128 1) 0) (mvZ (h 114 7) 4 a b c d (h 128 2) 0) (h 113 3) 0 1 (h 113 2) := by
        rw [m0.1, m0.2.1, m0.2.2]
        exact W
      obtain ⟨h', e, -, P⟩ := PS_st (n := n) (by omega) (PS_0 (f := f) W0 hN (Or.inr rfl)) hN hM (p := h 128 0 + a) (q := h 128 1 + b) (r := h 128 2 + c) (by show h 128 0 + a = a + h 128 0; omega) (by show h 128 1 + b = b + h 128 1; omega) (by show h 128 2 + c = c + h 128 2; omega)
      rw [if_neg (fun q => q rfl), grd_t (by decide), grd_t (by decide), grd_t (by decide), grd_t (by decide), grd_t (by decide), grd_t (by decide), grd_t (by decide), w32_i (x := h 128 0 + a) (by omega), w32_i (x := h 128 1 + b) (by omega), w32_i (x := h 128 2 + c) (by omega), e, bndh_s]
      refine ⟨h', rfl, fin h' ?_⟩
      rw [cn]
      exact PS.mvd (by decide) FCm.rf P
/-- what is wrong by a move -/
theorem judges_m {h : Hp} {at_ : Int} (hat : 0 ≤ at_ ∧ at_ ≤ 1000) (h22 : h 113 22 = -1) : MX12_judges at_ h = some (if h 113 26 = 0 then (if h 113 27 = 0 then h else up h 113 22 (8 * at_ + 4)) else up h 113 22 (8 * at_ + 5)) := by
  unfold MX12_judges
  rw [fails_m (by decide) hat, fails_m (by decide) hat, h22, if_pos rfl, if_pos rfl, bndh_s, bndh_s]
  by_cases h1 : h 113 26 = 0
  · rw [if_pos h1, if_pos h1]
    by_cases h2 : h 113 27 = 0
    · rw [if_pos h2, if_pos h2]
    · rw [if_neg h2, if_neg h2]
  · rw [if_neg h1, if_neg h1]
end
