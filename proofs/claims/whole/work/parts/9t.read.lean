/-! A PROGRAM IS READ: both programs. -/
section
variable {n : Nat}
theorem prog_l (hn : 1000 ≤ n) {T : Int → Int} {z w : Int} (hw : w = 1 ∨ w = 14) : ∀ (r f g : Nat) (x2 : Int) (s : St3) (hc hm : Hp), (s.1 = -1 → z - s.2.1 ≤ r) → r + 1 < f → r + 1 < g → 0 ≤ x2 → (s.1 = -1 → x2 ≤ s.2.1) → (s.1 = -1 → LNI hc hm T z w s) → Rk hc T z s → Rm hm T z s → ∃ v hc' hm', BX6_read_55 n f x2 hc = some (v, hc') ∧ BX12_program_24 n g hm = some hm' ∧ hm' 113 22 = v ∧ (v = -1 ∨ 0 ≤ v) ∧ FRB w hc hc' ∧ FMB hm hm' ∧ (v = -1 → PG hc' hm' T z w) := by
  -- a fault ends both
  have bad : ∀ (f g : Nat) (x2 : Int) (s : St3) (hc hm : Hp), ¬ s.1 = -1 → Rk hc T z s → Rm hm T z s → ∃ v hc' hm', BX6_read_55 n (f + 1) x2 hc = some (v, hc') ∧ BX12_program_24 n (g + 1) hm = some hm' ∧ hm' 113 22 = v ∧ (v = -1 ∨ 0 ≤ v) ∧ FRB w hc hc' ∧ FMB hm hm' ∧ (v = -1 → PG hc' hm' T z w) := fun f g x2 s hc hm hs A B => by
    refine ⟨s.1, hc, hm, ?_, ?_, B.1, Or.inr (A.2.2 hs), FRB.rf, FMB.rf, fun q => absurd q hs⟩
    · rw [BX6_read_55, A.1]
      by_cases h4 : 400 < x2
      · rw [if_pos h4]
      · rw [if_neg h4, if_pos hs]
    · rw [BX12_program_24, isRight_m, B.1, if_neg hs, bndp_s, if_pos rfl]
  intro r
  induction r with
  | zero =>
    intro f g x2 s hc hm hr hf hg x0 xs L A B
    obtain ⟨f, rfl⟩ : ∃ f', f = f' + 1 := ⟨f - 1, by omega⟩
    obtain ⟨g, rfl⟩ : ∃ g', g = g' + 1 := ⟨g - 1, by omega⟩
    by_cases hs : s.1 = -1
    · have A1 := A.2.1 hs
      have b := A1.2.2.1
      have sb := skp_b (T := T) (z := z) (p := s.2.1) b.2.1
      have P := (L hs).2.2.2.1 hs
      have := hr hs
      have := xs hs
      obtain ⟨gc, x1, F, g3, g2, Ag, -⟩ := next_c hn A1
      obtain ⟨hm1, y1, G, Bg⟩ := next_m hn (B.2.1 hs)
      have ez : skp T z s.2.1 = z := by omega
      refine ⟨-1, gc, hm1, ?_, ?_, by rw [G.2 22 (by decide), B.1]; exact hs, Or.inl rfl, ⟨fun c h1 _ _ _ => F.1 c h1, F.2⟩, ⟨fun c h1 _ _ _ _ _ _ => G.1 c h1, fun i _ _ _ h4 _ _ _ => G.2 i (by omega)⟩, fun _ => ?_⟩
      · rw [BX6_read_55, if_neg (by omega), A.1, if_neg (fun q => q hs), x1, bndh_s, g2, tk0.mpr (by omega), if_neg (fun q => q rfl)]
      · rw [BX12_program_24, isRight_m, B.1, if_pos hs, bndp_s, if_neg (by decide), y1, bnd_s, show sgn T z (skp T z s.2.1) = -1 from if_neg (by omega), if_pos rfl]
      · exact P.mv (fun c c0 c1 => F.1 c (by omega)) (fun i _ _ => by rw [F.1 34 (by decide)]) (F.1 35 (by decide)) (F.1 36 (by decide)) (F.1 37 (by decide)) (G.1 114 (by decide)) (G.1 119 (by decide)) (G.1 120 (by decide)) (G.1 121 (by decide)) (G.2 2 (by decide)) (G.2 3 (by decide)) (G.2 4 (by decide)) (G.1 128 (by decide)) (fun i _ _ => by rw [G.1 116 (by decide)]) (G.1 117 (by decide)) (G.1 118 (by decide))
    · exact bad f g x2 s hc hm hs A B
  | succ r ih =>
    intro f g x2 s hc hm hr hf hg x0 xs L A B
    obtain ⟨f, rfl⟩ : ∃ f', f = f' + 1 := ⟨f - 1, by omega⟩
    obtain ⟨g, rfl⟩ : ∃ g', g = g' + 1 := ⟨g - 1, by omega⟩
    by_cases hs : s.1 = -1
    · have A1 := A.2.1 hs
      have b := A1.2.2.1
      have sb := skp_b (T := T) (z := z) (p := s.2.1) b.2.1
      have Ls := L hs
      have P := Ls.2.2.2.1 hs
      have := hr hs
      have := xs hs
      by_cases hz : skp T z s.2.1 < z
      · obtain ⟨hm1, hm', s', y1, y2, S, FM, tri⟩ := lineStep hn hw Ls hs hz
        have em : BX12_program_24 n (g + 1) hm = BX12_program_24 n g hm' := by
          have t := (A1.2.2.2 (skp T z s.2.1) (by omega) hz).2.1
          rw [BX12_program_24, isRight_m, B.1, if_pos hs, bndp_s, if_neg (by decide), y1, bnd_s, show sgn T z (skp T z s.2.1) = T (skp T z s.2.1) from if_pos hz, if_neg (by omega), y2, bndh_s]
        rw [em]
        rcases tri with ⟨hc', t1, t2, t3, t4⟩ | ⟨hc', t1, t2, t3, t4⟩
        · obtain ⟨g', rfl⟩ : ∃ g', g = g' + 1 := ⟨g - 1, by omega⟩
          refine ⟨s'.1, hc', hm', t4 f x2 x0 (by omega), ?_, S.1, Or.inr (S.2.2 t3), t1, FM, fun q => absurd q t3⟩
          rw [BX12_program_24, isRight_m, S.1, if_neg t3, bndp_s, if_pos rfl]
        · rw [t4 f x2 x0 (by omega)]
          obtain ⟨v, hc2, hm2, q1, q2, q3, q4, q5, q6, q7⟩ := ih f g (x2 + 1) s' hc' hm' (fun q => by have := (t3 q).2; omega) (by omega) (by omega) (by omega) (fun q => by have := (t3 q).2; omega) (fun q => (t3 q).1) t2.k S
          exact ⟨v, hc2, hm2, q1, q2, q3, q4, t1.tr q5, FM.tr q6, q7⟩
      · obtain ⟨gc, x1, F, g3, g2, Ag, -⟩ := next_c hn A1
        obtain ⟨hm1, y1, G, Bg⟩ := next_m hn (B.2.1 hs)
        refine ⟨-1, gc, hm1, ?_, ?_, by rw [G.2 22 (by decide), B.1]; exact hs, Or.inl rfl, ⟨fun c h1 _ _ _ => F.1 c h1, F.2⟩, ⟨fun c h1 _ _ _ _ _ _ => G.1 c h1, fun i _ _ _ h4 _ _ _ => G.2 i (by omega)⟩, fun _ => ?_⟩
        · rw [BX6_read_55, if_neg (by omega), A.1, if_neg (fun q => q hs), x1, bndh_s, g2, tk0.mpr (by omega), if_neg (fun q => q rfl)]
        · rw [BX12_program_24, isRight_m, B.1, if_pos hs, bndp_s, if_neg (by decide), y1, bnd_s, show sgn T z (skp T z s.2.1) = -1 from if_neg hz, if_pos rfl]
        · exact P.mv (fun c c0 c1 => F.1 c (by omega)) (fun i _ _ => by rw [F.1 34 (by decide)]) (F.1 35 (by decide)) (F.1 36 (by decide)) (F.1 37 (by decide)) (G.1 114 (by decide)) (G.1 119 (by decide)) (G.1 120 (by decide)) (G.1 121 (by decide)) (G.2 2 (by decide)) (G.2 3 (by decide)) (G.2 4 (by decide)) (G.1 128 (by decide)) (fun i _ _ => by rw [G.1 116 (by decide)]) (G.1 117 (by decide)) (G.1 118 (by decide))
    · exact bad f g x2 s hc hm hs A B
theorem clear_l {w : Int} {g : Hp} : ∀ (r f : Nat) (a : Int) (h : Hp), a + r = 3 → r < f → 0 ≤ a → (∀ c, c ≠ w + 1 → c ≠ w + 2 + 1 + 0 → c ≠ w + 2 + 1 + 1 → c ≠ w + 2 + 1 + 2 → h c = g c) → (∀ k, 0 ≤ k → k < a → h (w + 1) k = 2000 ∧ h (w + 1) (3 + k) = 100 ∧ h (w + 2 + 1 + k) 0 = 0) → ∃ h', BX10_clear_2 n f w a h = some h' ∧ (∀ c, c ≠ w → c ≠ w + 1 → c ≠ w + 2 + 1 + 0 → c ≠ w + 2 + 1 + 1 → c ≠ w + 2 + 1 + 2 → h' c = g c) ∧ (∀ k, 0 ≤ k → k < 3 → h' (w + 1) k = 2000 ∧ h' (w + 1) (3 + k) = 100 ∧ h' (w + 2 + 1 + k) 0 = 0) ∧ h' w 9 = 10 ∧ h' w 10 = 50 ∧ h' w 11 = 0 ∧ h' w 12 = 0 ∧ h' w 13 = 0 ∧ h' w 14 = 0
  | 0, f + 1, a, h, ha, hf, a0, K, A => by
    rw [BX10_clear_2, if_pos (by omega), ltt_e, ltt_e, ltt_e, ltt_e, ltt_e, ltt_e]
    refine ⟨_, rfl, fun c c0 c1 c2 c3 c4 => by rw [up_row c0, up_row c0, up_row c0, up_row c0, up_row c0, up_row c0]; exact K c c1 c2 c3 c4, fun k k0 k1 => ?_, ?_, ?_, ?_, ?_, ?_, up_s⟩
    · rw [up_row (b := w + 1) (by omega), up_row (b := w + 1) (by omega), up_row (b := w + 1) (by omega), up_row (b := w + 1) (by omega), up_row (b := w + 1) (by omega), up_row (b := w + 1) (by omega), up_row (b := w + 2 + 1 + k) (by omega), up_row (b := w + 2 + 1 + k) (by omega), up_row (b := w + 2 + 1 + k) (by omega), up_row (b := w + 2 + 1 + k) (by omega), up_row (b := w + 2 + 1 + k) (by omega), up_row (b := w + 2 + 1 + k) (by omega)]
      exact A k k0 (by omega)
    · rw [up_i (by decide), up_i (by decide), up_i (by decide), up_i (by decide), up_i (by decide), up_s]
    · rw [up_i (by decide), up_i (by decide), up_i (by decide), up_i (by decide), up_s]
    · rw [up_i (by decide), up_i (by decide), up_i (by decide), up_s]
    · rw [up_i (by decide), up_i (by decide), up_s]
    · rw [up_i (by decide), up_s]
  | r + 1, f + 1, a, h, ha, hf, a0, K, A => by
    rw [BX10_clear_2, if_neg (by omega), al68, al50, al540, grd_t (by omega), ltt_e, w32_i (x := 3 + a) (by omega), grd_t (by omega), ltt_e, grd_t (by omega), grd_t (by decide), ltt_e, ltt_e, w32_i (x := a + 1) (by omega)]
    refine clear_l r f (a + 1) _ (by omega) (by omega) (by omega) (fun c c1 c2 c3 c4 => ?_) (fun k k0 k1 => ?_)
    · have : c ≠ w + 2 + 1 + a := by
        rcases (by omega : a = 0 ∨ a = 1 ∨ a = 2) with e | e | e <;> subst e <;> assumption
      rw [up_row this, up_row c1, up_row c1]
      exact K c c1 c2 c3 c4
    · by_cases hk : k = a
      · subst hk
        rw [up_c (by omega), up_i (by omega), up_s, up_c (by omega), up_s, up_s]
        exact ⟨rfl, rfl, rfl⟩
      · have t := A k k0 (by omega)
        rw [up_c (by omega), up_i (by omega), up_i (by omega), up_c (by omega), up_i (by omega), up_i (by omega), up_c (by omega), up_c (by omega), up_c (by omega)]
        exact t
theorem told0_l {g : Hp} : ∀ (r f : Nat) (k : Int) (h : Hp), k + r = 3 → r < f → 0 ≤ k → KR 38 g h → (∀ j, 0 ≤ j → j < k → h 38 j = 0) → ∃ h', BX6_read_31 n f k h = some h' ∧ KR 38 g h' ∧ ∀ j, 0 ≤ j → j < 3 → h' 38 j = 0
  | 0, f + 1, k, h, hk, hf, k0, K, A => by
    rw [BX6_read_31, al46, if_pos (by omega)]
    exact ⟨h, rfl, K, fun j j0 j1 => A j j0 (by omega)⟩
  | r + 1, f + 1, k, h, hk, hf, k0, K, A => by
    rw [BX6_read_31, al46, if_neg (by omega), grd_t (by omega), ltt_e, ltt_e, w32_i (x := k + 1) (by omega)]
    exact told0_l r f (k + 1) _ (by omega) (by omega) (by omega) K.put (fun j j0 j1 => by
      by_cases hj : j = k
      · rw [hj, up_s]
        rfl
      · rw [up_i hj]
        exact A j j0 (by omega))
theorem set0_l {g : Hp} : ∀ (r f : Nat) (k : Int) (h : Hp), k + r = 3 → r < f → 0 ≤ k → KR 114 g h → (∀ j, 0 ≤ j → j < k → h 114 j = 2000 ∧ h 114 (3 + j) = 100) → ∃ h', BX12_laysSettings_2 n f k h = some h' ∧ KR 114 g h' ∧ ∀ j, 0 ≤ j → j < 3 → h' 114 j = 2000 ∧ h' 114 (3 + j) = 100
  | 0, f + 1, k, h, hk, hf, k0, K, A => by
    rw [BX12_laysSettings_2, if_pos (by omega)]
    exact ⟨h, rfl, K, fun j j0 j1 => A j j0 (by omega)⟩
  | r + 1, f + 1, k, h, hk, hf, k0, K, A => by
    rw [BX12_laysSettings_2, if_neg (by omega), al84, grd_t (by omega), ltt_e, w32_i (x := 3 + k) (by omega), grd_t (by omega), ltt_e, ltt_e, w32_i (x := k + 1) (by omega)]
    exact set0_l r f (k + 1) _ (by omega) (by omega) (by omega) K.put.put (fun j j0 j1 => by
      by_cases hj : j = k
      · subst hj
        rw [up_i (by omega), up_s, up_s]
        exact ⟨rfl, rfl⟩
      · rw [up_i (by omega), up_i (by omega), up_i (by omega), up_i (by omega)]
        exact A j j0 (by omega))
theorem here0_l {g : Hp} : ∀ (r f : Nat) (k : Int) (h : Hp), k + r = 3 → r < f → 0 ≤ k → (∀ c, c ≠ 119 → c ≠ 128 → h c = g c) → (∀ j, 0 ≤ j → j < k → h 119 j = 0 ∧ h 128 j = 0) → ∃ h', BX12_laysSettings_67 n f k h = some h' ∧ (∀ c, c ≠ 119 → c ≠ 128 → h' c = g c) ∧ ∀ j, 0 ≤ j → j < 3 → h' 119 j = 0 ∧ h' 128 j = 0
  | 0, f + 1, k, h, hk, hf, k0, K, A => by
    rw [BX12_laysSettings_67, if_pos (by omega)]
    exact ⟨h, rfl, K, fun j j0 j1 => A j j0 (by omega)⟩
  | r + 1, f + 1, k, h, hk, hf, k0, K, A => by
    rw [BX12_laysSettings_67, if_neg (by omega), al1580, al44, grd_t (by omega), ltt_e, grd_t (by omega), ltt_e, ltt_e, w32_i (x := k + 1) (by omega)]
    exact here0_l r f (k + 1) _ (by omega) (by omega) (by omega) (fun c c1 c2 => by rw [up_row c2, up_row c1]; exact K c c1 c2) (fun j j0 j1 => by
      by_cases hj : j = k
      · subst hj
        rw [up_c (by decide), up_s, up_s]
        exact ⟨rfl, rfl⟩
      · rw [up_c (by decide), up_i hj, up_i hj, up_c (by decide)]
        exact A j j0 (by omega))
/-- the tapes of both programs -/
def TPR (hc hm : Hp) : Prop := (0 ≤ hc 27 1 ∧ hc 27 1 ≤ 400) ∧ hm 113 20 = hc 27 1 ∧ ∀ i, 0 ≤ i → i < hc 27 1 → hm 127 i = rawB (hc 28 i) ∧ 0 ≤ hc 28 i ∧ hc 28 i < 256
/-- what is read is the same in both programs -/
theorem read_cm (hn : 1000 ≤ n) {hc hm : Hp} {w : Int} (hw : w = 1 ∨ w = 14) (R : TPR hc hm) : ∃ v hc' hm', MX6_read n w hc = some (v, hc') ∧ MX12_program n hm = JX12_program_46 n hm' ∧ hm' 113 22 = v ∧ (v = -1 ∨ 0 ≤ v) ∧ FRB w hc hc' ∧ FMB hm hm' ∧ (v = -1 → PG hc' hm' (hc 28) (hc 27 1) w) := by
  obtain ⟨r1, r2, r3⟩ := R
  -- the class begins
  obtain ⟨h2, x2, K2, S2, c9, c10, c11, c12, c13, c14⟩ := clear_l (n := n) (w := w) (g := up hc 29 7 w) 3 n 0 (up hc 29 7 w) (by decide) (by omega) (by decide) (fun _ _ _ _ _ => rfl) (fun k k0 k1 => by omega)
  obtain ⟨h3, x3, K3, S3⟩ := told0_l (n := n) (g := up (up (up h2 27 4 0) 29 8 (-1)) 29 10 0) 3 n 0 _ (by decide) (by omega) (by decide) KR.rf (fun j j0 j1 => by omega)
  have kc : ∀ c, c ≠ 27 → c ≠ 29 → c ≠ 38 → c ≠ w → c ≠ w + 1 → c ≠ w + 2 + 1 + 0 → c ≠ w + 2 + 1 + 1 → c ≠ w + 2 + 1 + 2 → h3 c = hc c := fun c d0 d1 d2 d3 d4 d5 d6 d7 => by
    rw [K3 c d2, up_row d1, up_row d1, up_row d0, K2 c d3 d4 d5 d6 d7, up_row d1]
  have k2 : ∀ c, c ≠ 27 → c ≠ 29 → c ≠ 38 → h3 c = h2 c := fun c d0 d1 d2 => by rw [K3 c d2, up_row d1, up_row d1, up_row d0]
  have h27 : h2 27 = hc 27 := by rw [K2 27 (by omega) (by omega) (by omega) (by omega) (by omega), up_row (by decide)]
  have k27 : ∀ i, i ≠ 4 → h3 27 i = hc 27 i := fun i hi => by rw [K3 27 (by decide), up_row (by decide), up_row (by decide), up_i hi, h27]
  have k274 : h3 27 4 = 0 := by rw [K3 27 (by decide), up_row (by decide), up_row (by decide), up_s]
  have k298 : h3 29 8 = -1 := by rw [K3 29 (by decide), up_i (by decide), up_s]
  have k2910 : h3 29 10 = 0 := by rw [K3 29 (by decide), up_s]
  have k297 : h3 29 7 = w := by rw [K3 29 (by decide), up_i (by decide), up_i (by decide), up_c (by decide), K2 29 (by omega) (by omega) (by omega) (by omega) (by omega), up_s]
  have k28 : h3 28 = hc 28 := kc 28 (by decide) (by decide) (by decide) (by omega) (by omega) (by omega) (by omega) (by omega)
  -- the model begins
  obtain ⟨m1, y1, M1, N1⟩ := set0_l (n := n) (g := up (up (up (up hm 113 21 0) 113 22 (-1)) 113 32 0) 113 33 0) 3 n 0 _ (by decide) (by omega) (by decide) KR.rf (fun j j0 j1 => by omega)
  obtain ⟨m2, y2, M2, N2⟩ := here0_l (n := n) (g := up (up (up (up (up m1 114 6 10) 114 7 50) 113 2 0) 113 3 0) 113 4 0) 3 n 0 _ (by decide) (by omega) (by decide) (fun _ _ _ => rfl) (fun j j0 j1 => by omega)
  have mc : ∀ c, c ≠ 113 → c ≠ 114 → c ≠ 119 → c ≠ 128 → m2 c = hm c := fun c d0 d1 d2 d3 => by
    rw [M2 c d2 d3, up_row d0, up_row d0, up_row d0, up_row d1, up_row d1, M1 c d1, up_row d0, up_row d0, up_row d0, up_row d0]
  have mi : ∀ i, i ≠ 2 → i ≠ 3 → i ≠ 4 → i ≠ 21 → i ≠ 22 → i ≠ 32 → i ≠ 33 → m2 113 i = hm 113 i := fun i d1 d2 d3 d4 d5 d6 d7 => by
    rw [M2 113 (by decide) (by decide), up_i d3, up_i d2, up_i d1, up_c (by decide), up_c (by decide), M1 113 (by decide), up_i d7, up_i d6, up_i d5, up_i d4]
  have m22 : m2 113 22 = -1 := by rw [M2 113 (by decide) (by decide), up_i (by decide), up_i (by decide), up_i (by decide), up_c (by decide), up_c (by decide), M1 113 (by decide), up_i (by decide), up_i (by decide), up_s]
  have m21 : m2 113 21 = 0 := by rw [M2 113 (by decide) (by decide), up_i (by decide), up_i (by decide), up_i (by decide), up_c (by decide), up_c (by decide), M1 113 (by decide), up_i (by decide), up_i (by decide), up_i (by decide), up_s]
  have m32 : m2 113 32 = 0 := by rw [M2 113 (by decide) (by decide), up_i (by decide), up_i (by decide), up_i (by decide), up_c (by decide), up_c (by decide), M1 113 (by decide), up_i (by decide), up_s]
  have m33 : m2 113 33 = 0 := by rw [M2 113 (by decide) (by decide), up_i (by decide), up_i (by decide), up_i (by decide), up_c (by decide), up_c (by decide), M1 113 (by decide), up_s]
  have n2 : m2 113 2 = 0 := by rw [M2 113 (by decide) (by decide), up_i (by decide), up_i (by decide), up_s]
  have n3 : m2 113 3 = 0 := by rw [M2 113 (by decide) (by decide), up_i (by decide), up_s]
  have n4 : m2 113 4 = 0 := by rw [M2 113 (by decide) (by decide), up_s]
  have s114 : ∀ k, k ≠ 6 → k ≠ 7 → m2 114 k = m1 114 k := fun k d1 d2 => by rw [M2 114 (by decide) (by decide), up_c (by decide), up_c (by decide), up_c (by decide), up_i d2, up_i d1]
  have s6 : m2 114 6 = 10 := by rw [M2 114 (by decide) (by decide), up_c (by decide), up_c (by decide), up_c (by decide), up_i (by decide), up_s]
  have s7 : m2 114 7 = 50 := by rw [M2 114 (by decide) (by decide), up_c (by decide), up_c (by decide), up_c (by decide), up_s]
  -- both hold the program without lines
  have St : STR h3 m2 w := by
    refine ⟨fun k k0 k1 => ?_, ?_, ?_⟩
    · rw [k2 (w + 1) (by omega) (by omega) (by omega), s114 k (by omega) (by omega)]
      by_cases h3' : k < 3
      · rw [(S2 k k0 h3').1, (N1 k k0 h3').1, if_pos h3']
        decide
      · have a := (S2 (k - 3) (by omega) (by omega)).2.1
        have b := (N1 (k - 3) (by omega) (by omega)).2
        rw [show 3 + (k - 3) = k by omega] at a b
        rw [a, b, if_neg h3']
        decide
    · rw [k2 w (by omega) (by omega) (by omega), c9, s6]
      decide
    · rw [k2 w (by omega) (by omega) (by omega), c10, s7]
      decide
  have P0 : PG h3 m2 (hc 28) (hc 27 1) w := PG.of0 St (by rw [k2 w (by omega) (by omega) (by omega)]; exact c11) (by rw [k2 w (by omega) (by omega) (by omega)]; exact c12) (by rw [k2 w (by omega) (by omega) (by omega)]; exact c13) (by rw [k2 w (by omega) (by omega) (by omega)]; exact c14) n2 n3 n4 (fun a a0 a1 => by
    have t := N2 a a0 a1
    rw [k2 _ (by omega) (by omega) (by omega), (S2 a a0 a1).2.2, t.1, t.2]
    exact ⟨rfl, rfl, by decide⟩)
  have TA : TPc h3 (hc 28) (hc 27 1) 0 := ⟨k27 1 (by decide), k274, by omega, fun i i0 i1 => by rw [k28]; exact ⟨rfl, (r3 i i0 i1).2⟩⟩
  have TB : TPm m2 (hc 28) (hc 27 1) 0 := ⟨(mi 20 (by decide) (by decide) (by decide) (by decide) (by decide) (by decide) (by decide)).trans r2, m21, by omega, fun i i0 i1 => by rw [mc 127 (by decide) (by decide) (by decide) (by decide)]; exact r3 i i0 i1⟩
  have K : FRB w hc h3 := ⟨fun c d1 d2 d3 d4 => kc c d1 d2 (by omega) (by omega) (by omega) (by omega) (by omega) (by omega), fun i hi => k27 i (by omega)⟩
  have M : FMB hm m2 := ⟨fun c d1 d2 d3 d4 _ _ _ => mc c d1 d2 (by omega) d4, fun i d1 d2 d3 d4 _ d6 d7 => mi i d1 d2 d3 (by omega) (by omega) d6 d7⟩
  have em : MX12_program n hm = bndx (BX12_program_24 n n m2) (fun h1 => JX12_program_46 n h1) := by
    unfold MX12_program
    rw [ltt_e, ltt_e, ltt_e, ltt_e]
    unfold MX12_laysSettings LX12_laysSettings_2
    rw [ltt_e, y1, bndx_s]
    show bndh (JX12_laysSettings_32 n m1) (fun h5 => LX12_program_24 n h5) = _
    unfold JX12_laysSettings_32 LX12_laysSettings_67
    rw [al84, grd_t (by decide), ltt_e, grd_t (by decide), ltt_e, ltt_e, ltt_e, ltt_e, ltt_e, y2, bndh_s]
    rfl
  have ec : MX6_read n w hc = BX6_read_55 n n 0 h3 := by
    unfold MX6_read
    rw [ltt_e, up_s]
    unfold MX10_clear LX10_clear_2
    rw [ltt_e, x2, bndh_s]
    unfold MX9_rewind
    rw [ltt_e, bndh_s, ltt_e, ltt_e, ltt_e]
    unfold LX6_read_31
    rw [x3, bndx_s]
    show JX6_read_53 n h3 = _
    unfold JX6_read_53 LX6_read_55
    rw [ltt_e]
  have A0 : Rk h3 (hc 28) (hc 27 1) (-1, 0, 0) := ⟨k298, fun _ => TA, fun q => absurd rfl q⟩
  have B0 : Rm m2 (hc 28) (hc 27 1) (-1, 0, 0) := ⟨m22, fun _ => TB, fun q => absurd rfl q⟩
  obtain ⟨v, hc', hm', q1, q2, q3, q4, q5, q6, q7⟩ := prog_l hn hw 400 n n 0 (-1, 0, 0) h3 m2 (fun _ => by show hc 27 1 - 0 ≤ _; omega) (by omega) (by omega) (by decide) (fun _ => Int.le_refl 0) (fun _ => ⟨A0, B0, k297, fun _ => P0, ⟨by rw [k2910, m33], Or.inl m33⟩, ⟨by rw [m32]; decide, fun k k0 k1 => by
    rw [S3 k k0 k1, m32]
    rcases (by omega : k = 0 ∨ k = 1 ∨ k = 2) with e | e | e <;> subst e <;> rfl⟩, fun _ _ => ⟨n2, n3, n4⟩⟩) A0 B0
  exact ⟨v, hc', hm', ec.trans q1, by rw [em, q2, bndx_s], q3, q4, K.tr q5, M.tr q6, q7⟩
end
