/-! A BLOCK IS ADDED to the class's way. -/
section
variable {n : Nat} {m : Hp}
theorem step_p {h : Hp} (H : WFp m) {w b a K : Int} (e11 : h w 11 = K) (b0 : 0 ≤ b) (b1 : b < K) (hK : K ≤ nB m) (a0 : 0 ≤ a) (a1 : a < 3) (p1 : h (w + 2 + 1 + a) (b + 1) = m 122 (3 * (b + 1) + a)) (p0 : h (w + 2 + 1 + a) b = m 122 (3 * b + a)) : MX10_step w b a h = some (gD m b a) := by
  have hB := H.1
  have g := wf_go H b0 (by omega) a0 a1
  unfold MX10_step MX10_has
  rw [e11, if_neg (by omega), if_neg (by omega), bndp_s, if_neg (by decide), isAxis_c, bndp_s, if_pos (show 0 ≤ a ∧ a < 3 from ⟨a0, a1⟩), if_neg (by decide), al50, al540, w32_i (x := b + 1) (by omega), grd_t (by omega), grd_t (by omega), grd_t (by omega), grd_t (by omega), p1, p0]
  rw [show m 122 (3 * (b + 1) + a) - m 122 (3 * b + a) = gD m b a from rfl, w32_i (by omega)]
/-- but for the way at w, h' is as h -/
def FWy (w : Int) (h h' : Hp) : Prop := (∀ c, (c < w ∨ w + 12 < c) → h' c = h c) ∧ (∀ i, i ≠ 11 → i ≠ 14 → h' w i = h w i) ∧ h' (w + 1) = h (w + 1)
theorem FWy.rf {w : Int} {h : Hp} : FWy w h h := ⟨fun _ _ => rfl, fun _ _ _ => rfl, rfl⟩
theorem FWy.tr {w : Int} {h g k : Hp} (a : FWy w h g) (b : FWy w g k) : FWy w h k := ⟨fun c hc => (b.1 c hc).trans (a.1 c hc), fun i h1 h2 => (b.2.1 i h1 h2).trans (a.2.1 i h1 h2), b.2.2.trans a.2.2⟩
theorem add_c (hn : 100 ≤ n) (H : WFp m) {N M : Int} (hN : 0 ≤ N ∧ N < nB m) (hM : 0 ≤ M ∧ M ≤ 40) {h : Hp} {w p q r f : Int} (R : RW (trP m N M) h w) (ep : p = m 122 (3 * (N + 1))) (eq' : q = m 122 (3 * (N + 1) + 1)) (er : r = m 122 (3 * (N + 1) + 2)) (ef : f = m 123 N) (eM : m 124 N = M) : ∃ h', MX10_add n w p q r f h = some h' ∧ FWy w h h' ∧ RW (trP m (N + 1) M) h' w := by
  subst ep
  subst eq'
  subst er
  subst ef
  have hB := H.1
  obtain ⟨⟨r9, r10, r11, r12, r13, r14⟩, r2, r3, r4, r5⟩ := R
  rw [trP_6] at r11 r4 r5
  have r3' : ∀ a k, 0 ≤ a → a < 3 → 0 ≤ k → k ≤ N → h (w + 2 + 1 + a) k = m 122 (3 * k + a) := fun a k a0 a1 k0 k1 => r3 a k a0 a1 k0 k1
  rw [trP_6, trP_bg] at r14
  have B := H.2.2.2.2.2.1 N hN.1 hN.2
  have k := wf_blk H hN.1 hN.2
  have bgN := wf_bgi H (b := N) hN.1 (by omega)
  have bgs := wf_bgs H hN.1 hN.2
  have bg1 := wf_bgi H (b := N + 1) (by omega) (by omega)
  have l0 := last_c (a := 0) (by decide) (by decide) r11 hN.1 (by omega)
  have l1 := last_c (a := 1) (by decide) (by decide) r11 hN.1 (by omega)
  have l2 := last_c (a := 2) (by decide) (by decide) r11 hN.1 (by omega)
  rw [r3' 0 N (by decide) (by decide) hN.1 (Int.le_refl N)] at l0
  rw [r3' 1 N (by decide) (by decide) hN.1 (Int.le_refl N)] at l1
  rw [r3' 2 N (by decide) (by decide) hN.1 (Int.le_refl N)] at l2
  -- it goes somewhere
  have J : MX10_add n w (m 122 (3 * (N + 1))) (m 122 (3 * (N + 1) + 1)) (m 122 (3 * (N + 1) + 2)) (m 123 N) h = JX10_add_41 n w (m 122 (3 * (N + 1))) (m 122 (3 * (N + 1) + 1)) (m 122 (3 * (N + 1) + 2)) (m 123 N) N h := by
    unfold MX10_add
    rw [r11, ltt_e, if_neg (by omega), l0, bndp_s, l1, bndp_s, l2, bndp_s]
    by_cases h1 : m 122 (3 * (N + 1)) = m 122 (3 * N + 0)
    · rw [if_neg (fun t => t h1)]
      by_cases h2 : m 122 (3 * (N + 1) + 1) = m 122 (3 * N + 1)
      · rw [if_neg (fun t => t h2)]
        by_cases h3 : m 122 (3 * (N + 1) + 2) = m 122 (3 * N + 2)
        · exfalso
          rcases B.1 with t | t | t
          · exact t (by unfold gD; rw [show 3 * (N + 1) + 0 = 3 * (N + 1) by omega]; omega)
          · exact t (by unfold gD; omega)
          · exact t (by unfold gD; omega)
        · rw [if_pos h3]
      · rw [if_pos h2]
    · rw [if_pos h1]
  rw [J]
  unfold JX10_add_41
  rw [al50, al540, al532, w32_i (x := N + 1) (by omega), grd_t (by decide), grd_t (by omega), ltt_e, grd_t (by decide), grd_t (by omega), ltt_e, grd_t (by decide), grd_t (by omega), ltt_e, ltt_e]
  -- the heap with the new place
  have G3 : ∀ c, c ≠ w → c ≠ w + 2 + 1 + 0 → c ≠ w + 2 + 1 + 1 → c ≠ w + 2 + 1 + 2 → up (up (up (up h (w + 2 + 1 + 0) (N + 1) (m 122 (3 * (N + 1)))) (w + 2 + 1 + 1) (N + 1) (m 122 (3 * (N + 1) + 1))) (w + 2 + 1 + 2) (N + 1) (m 122 (3 * (N + 1) + 2))) w 11 (N + 1) c = h c := fun c c0 c1 c2 c3 => by
    rw [up_row c0, up_row c3, up_row c2, up_row c1]
  have G4 : ∀ i, i ≠ 11 → up (up (up (up h (w + 2 + 1 + 0) (N + 1) (m 122 (3 * (N + 1)))) (w + 2 + 1 + 1) (N + 1) (m 122 (3 * (N + 1) + 1))) (w + 2 + 1 + 2) (N + 1) (m 122 (3 * (N + 1) + 2))) w 11 (N + 1) w i = h w i := fun i hi => by
    rw [up_i hi, up_c (by omega), up_c (by omega), up_c (by omega)]
  have G1 : up (up (up (up h (w + 2 + 1 + 0) (N + 1) (m 122 (3 * (N + 1)))) (w + 2 + 1 + 1) (N + 1) (m 122 (3 * (N + 1) + 1))) (w + 2 + 1 + 2) (N + 1) (m 122 (3 * (N + 1) + 2))) w 11 (N + 1) w 11 = N + 1 := up_s
  have G2 : ∀ a k, 0 ≤ a → a < 3 → 0 ≤ k → k ≤ N + 1 → up (up (up (up h (w + 2 + 1 + 0) (N + 1) (m 122 (3 * (N + 1)))) (w + 2 + 1 + 1) (N + 1) (m 122 (3 * (N + 1) + 1))) (w + 2 + 1 + 2) (N + 1) (m 122 (3 * (N + 1) + 2))) w 11 (N + 1) (w + 2 + 1 + a) k = m 122 (3 * k + a) := fun a k a0 a1 k0 k1 => by
    rw [up_c (by omega)]
    by_cases hk : k = N + 1
    · subst hk
      rcases (by omega : a = 0 ∨ a = 1 ∨ a = 2) with e | e | e
      · subst e
        rw [up_c (by omega), up_c (by omega), up_s, Int.add_zero]
      · subst e
        rw [up_c (by omega), up_s]
      · subst e
        rw [up_s]
    · rw [← r3' a k a0 a1 k0 (by omega)]
      rcases (by omega : a = 0 ∨ a = 1 ∨ a = 2) with e | e | e
      · subst e
        rw [up_c (by omega), up_c (by omega), up_i hk]
      · subst e
        rw [up_c (by omega), up_i hk, up_c (by omega)]
      · subst e
        rw [up_i hk, up_c (by omega), up_c (by omega)]
  generalize up (up (up (up h (w + 2 + 1 + 0) (N + 1) (m 122 (3 * (N + 1)))) (w + 2 + 1 + 1) (N + 1) (m 122 (3 * (N + 1) + 1))) (w + 2 + 1 + 2) (N + 1) (m 122 (3 * (N + 1) + 2))) w 11 (N + 1) = g at *
  have S : ∀ g' : Hp, g' w 11 = N + 1 → (∀ a, 0 ≤ a → a < 3 → g' (w + 2 + 1 + a) = g (w + 2 + 1 + a)) → ∀ b a, 0 ≤ b → b ≤ N → 0 ≤ a → a < 3 → MX10_step w b a g' = some (gD m b a) := fun g' e1 e2 b a b0 b1 a0 a1 => step_p H e1 b0 (by omega) (by omega) a0 a1 (by rw [e2 a a0 a1]; exact G2 a (b + 1) a0 a1 (by omega) (by omega)) (by rw [e2 a a0 a1]; exact G2 a b a0 a1 b0 (by omega))
  have d0 := wf_go H hN.1 hN.2 (a := 0) (by decide) (by decide)
  have d1 := wf_go H hN.1 hN.2 (a := 1) (by decide) (by decide)
  have d2 := wf_go H hN.1 hN.2 (a := 2) (by decide) (by decide)
  have q0 := sq_le d0.1 d0.2
  have q1 := sq_le d1.1 d1.2
  have q2 := sq_le d2.1 d2.2
  have n0 := sq_nn (gD m N 0)
  have n1 := sq_nn (gD m N 1)
  have n2 := sq_nn (gD m N 2)
  rw [S g G1 (fun _ _ _ => rfl) N 0 hN.1 (Int.le_refl N) (by decide) (by decide), bndp_s, square_c, bndp_s, S g G1 (fun _ _ _ => rfl) N 1 hN.1 (Int.le_refl N) (by decide) (by decide), bndp_s, square_c, bndp_s, S g G1 (fun _ _ _ => rfl) N 2 hN.1 (Int.le_refl N) (by decide) (by decide), bndp_s, square_c, bndp_s, w64_i (x := gD m N 0 * gD m N 0) (by omega), w64_i (x := gD m N 1 * gD m N 1) (by omega), w64_i (x := gD m N 2 * gD m N 2) (by omega), w64_i (x := gD m N 0 * gD m N 0 + gD m N 1 * gD m N 1) (by omega), w64_i (x := gD m N 0 * gD m N 0 + gD m N 1 * gD m N 1 + gD m N 2 * gD m N 2) (by omega), root_c (by omega) (by omega) (by omega), bndp_s, ← B.2.1, grd_t (by omega), ltt_e, grd_t (by omega), up_s, up_c (b := w) (by omega), G4 14 (by decide), r14, w32_i (x := bg m N + ln m N) (by omega), ← bgs, ltt_e, grd_t (by omega), up_s, ltt_e, grd_t (by omega), ltt_e, grd_t (by omega), up_c (b := w) (j := 12) (by omega), up_c (b := w) (j := 12) (by omega), up_i (j := 12) (by decide), up_c (b := w) (j := 12) (by omega), G4 12 (by decide), show h w 12 = M from r12, ltt_e]
  -- the heap behind the numbers
  have K1 : ∀ c, c ≠ w → c ≠ w + 6 → c ≠ w + 7 → c ≠ w + 8 → c ≠ w + 11 → up (up (up (up (up g (w + 6) N (ln m N)) w 14 (bg m (N + 1))) (w + 7) N (bg m (N + 1))) (w + 8) N (m 123 N)) (w + 11) N M c = g c := fun c c0 c1 c2 c3 c4 => by
    rw [up_row c4, up_row c3, up_row c2, up_row c0, up_row c1]
  have K2 : ∀ i, i ≠ 14 → up (up (up (up (up g (w + 6) N (ln m N)) w 14 (bg m (N + 1))) (w + 7) N (bg m (N + 1))) (w + 8) N (m 123 N)) (w + 11) N M w i = g w i := fun i hi => by
    rw [up_c (by omega), up_c (by omega), up_c (by omega), up_i hi, up_c (by omega)]
  have K3 : up (up (up (up (up g (w + 6) N (ln m N)) w 14 (bg m (N + 1))) (w + 7) N (bg m (N + 1))) (w + 8) N (m 123 N)) (w + 11) N M w 14 = bg m (N + 1) := by rw [up_c (by omega), up_c (by omega), up_c (by omega), up_s]
  have K6 : ∀ b, 0 ≤ b → b ≤ N → (b < N → True) → up (up (up (up (up g (w + 6) N (ln m N)) w 14 (bg m (N + 1))) (w + 7) N (bg m (N + 1))) (w + 8) N (m 123 N)) (w + 11) N M (w + 6) b = ln m b ∧ up (up (up (up (up g (w + 6) N (ln m N)) w 14 (bg m (N + 1))) (w + 7) N (bg m (N + 1))) (w + 8) N (m 123 N)) (w + 11) N M (w + 7) b = bg m (b + 1) ∧ up (up (up (up (up g (w + 6) N (ln m N)) w 14 (bg m (N + 1))) (w + 7) N (bg m (N + 1))) (w + 8) N (m 123 N)) (w + 11) N M (w + 8) b = m 123 b ∧ up (up (up (up (up g (w + 6) N (ln m N)) w 14 (bg m (N + 1))) (w + 7) N (bg m (N + 1))) (w + 8) N (m 123 N)) (w + 11) N M (w + 11) b = m 124 b := fun b b0 b1 _ => by
    rw [up_c (b := w + 6) (by omega), up_c (b := w + 6) (by omega), up_c (b := w + 6) (by omega), up_c (b := w + 6) (by omega), up_c (b := w + 7) (by omega), up_c (b := w + 7) (by omega), up_c (b := w + 8) (by omega)]
    by_cases hb : b = N
    · subst hb
      rw [up_s, up_s, up_s, up_s, eM]
      exact ⟨rfl, rfl, rfl, rfl⟩
    · have t := r4 b b0 (by omega)
      rw [trP_ln, trP_bg, trP_o (c := 123) (by decide), trP_o (c := 124) (by decide)] at t
      rw [up_i hb, up_i hb, up_i hb, up_i hb, up_c (by omega), up_c (by omega), up_c (by omega), up_c (by omega), up_c (by omega), up_c (by omega), up_c (by omega), up_c (by omega), up_c (by omega), G3 (w + 6) (by omega) (by omega) (by omega) (by omega), G3 (w + 7) (by omega) (by omega) (by omega) (by omega), G3 (w + 8) (by omega) (by omega) (by omega) (by omega), G3 (w + 11) (by omega) (by omega) (by omega) (by omega)]
      exact ⟨t.1, t.2.1, t.2.2.1, t.2.2.2.2.2⟩
  generalize up (up (up (up (up g (w + 6) N (ln m N)) w 14 (bg m (N + 1))) (w + 7) N (bg m (N + 1))) (w + 8) N (m 123 N)) (w + 11) N M = y at *
  have y11 : y w 11 = N + 1 := (K2 11 (by decide)).trans G1
  have yp : ∀ a, 0 ≤ a → a < 3 → y (w + 2 + 1 + a) = g (w + 2 + 1 + a) := fun a a0 a1 => K1 _ (by omega) (by omega) (by omega) (by omega) (by omega)
  have yr : ∀ i, 0 ≤ i → i < 6 → y (w + 1) i = m 115 i := fun i i0 i1 => by
    rw [K1 (w + 1) (by omega) (by omega) (by omega) (by omega) (by omega), G3 (w + 1) (by omega) (by omega) (by omega) (by omega)]
    exact r2 i i0 i1
  have z1 : ∀ c, c ≠ w + 9 → c ≠ w + 10 → up (up y (w + 9) N (lb m N 0)) (w + 10) N (lb m N 3) c = y c := fun c c1 c2 => by rw [up_row c2, up_row c1]
  rw [rate_c (by omega) H (fun a a0 a1 => S y y11 yp N a hN.1 (Int.le_refl N) a0 a1) (K6 N hN.1 (Int.le_refl N) (fun _ => trivial)).1 yr (Or.inl rfl) hN.1 hN.2, bndp_s, grd_t (by omega), ltt_e, rate_c (by omega) H (fun a a0 a1 => S _ (by rw [up_row (by omega)]; exact y11) (fun a a0 a1 => by rw [up_row (by omega)]; exact yp a a0 a1) N a hN.1 (Int.le_refl N) a0 a1) (by rw [up_row (by omega)]; exact (K6 N hN.1 (Int.le_refl N) (fun _ => trivial)).1) (fun i i0 i1 => by rw [up_row (by omega)]; exact yr i i0 i1) (Or.inr rfl) hN.1 hN.2, bndp_s, grd_t (by omega), ltt_e]
  have z9 : ∀ b, 0 ≤ b → b ≤ N → up (up y (w + 9) N (lb m N 0)) (w + 10) N (lb m N 3) (w + 9) b = lb m b 0 ∧ up (up y (w + 9) N (lb m N 0)) (w + 10) N (lb m N 3) (w + 10) b = lb m b 3 := fun b b0 b1 => by
    rw [up_c (b := w + 9) (by omega)]
    by_cases hb : b = N
    · subst hb
      rw [up_s, up_s]
      exact ⟨rfl, rfl⟩
    · have t := r4 b b0 (by omega)
      have e1 : ∀ k, lb (trP m N M) b k = lb m b k := fun k => by
        unfold lb
        rw [trP_ln, trP_gD, trP_o (c := 115) (by decide)]
      rw [e1, e1] at t
      rw [up_i hb, up_i hb, up_c (by omega), K1 (w + 9) (by omega) (by omega) (by omega) (by omega) (by omega), G3 (w + 9) (by omega) (by omega) (by omega) (by omega), K1 (w + 10) (by omega) (by omega) (by omega) (by omega) (by omega), G3 (w + 10) (by omega) (by omega) (by omega) (by omega)]
      exact ⟨t.2.2.2.1, t.2.2.2.2.1⟩
  generalize up (up y (w + 9) N (lb m N 0)) (w + 10) N (lb m N 3) = x at *
  have xF : FWy w h x := ⟨fun c hc => by
    rw [z1 c (by omega) (by omega), K1 c (by omega) (by omega) (by omega) (by omega) (by omega), G3 c (by omega) (by omega) (by omega) (by omega)], fun i i1 i2 => by
    rw [z1 w (by omega) (by omega), K2 i i2, G4 i i1], by
    rw [z1 (w + 1) (by omega) (by omega), K1 (w + 1) (by omega) (by omega) (by omega) (by omega) (by omega), G3 (w + 1) (by omega) (by omega) (by omega) (by omega)]⟩
  -- what the way holds then
  have fin : ∀ h' : Hp, (∀ c, c ≠ w + 12 → h' c = x c) → (∀ b, 0 ≤ b → b + 1 < N + 1 → h' (w + 12) b = shp m b) → FWy w h h' ∧ RW (trP m (N + 1) M) h' w := fun h' e1 e2 => by
    have eb : ∀ b k, lb (trP m (N + 1) M) b k = lb m b k := fun b k => by
      unfold lb
      rw [trP_ln, trP_gD, trP_o (c := 115) (by decide)]
    have es : ∀ b, shp (trP m (N + 1) M) b = shp m b := fun b => by
      unfold shp bend
      rw [trP_ln, trP_gD]
    refine ⟨⟨fun c hc => (e1 c (by omega)).trans (xF.1 c hc), fun i i1 i2 => by rw [e1 w (by omega)]; exact xF.2.1 i i1 i2, (e1 (w + 1) (by omega)).trans xF.2.2⟩, ⟨?_, ?_, ?_, ?_, ?_, ?_⟩, fun k k0 k1 => ?_, fun a k a0 a1 k0 k1 => ?_, fun b b0 b1 => ?_, fun b b0 b1 => ?_⟩
    · rw [e1 w (by omega), xF.2.1 9 (by decide) (by decide)]
      exact r9
    · rw [e1 w (by omega), xF.2.1 10 (by decide) (by decide)]
      exact r10
    · rw [e1 w (by omega), z1 w (by omega) (by omega), trP_6]
      exact y11
    · rw [e1 w (by omega), xF.2.1 12 (by decide) (by decide)]
      exact r12
    · rw [e1 w (by omega), xF.2.1 13 (by decide) (by decide)]
      exact r13
    · rw [e1 w (by omega), z1 w (by omega) (by omega), trP_6, trP_bg]
      exact K3
    · rw [e1 (w + 1) (by omega), z1 (w + 1) (by omega) (by omega)]
      exact yr k k0 k1
    · rw [trP_6] at k1
      rw [e1 _ (by omega), z1 _ (by omega) (by omega), yp a a0 a1]
      exact G2 a k a0 a1 k0 k1
    · rw [trP_6] at b1
      have t := K6 b b0 (by omega) (fun _ => trivial)
      have t9 := z9 b b0 (by omega)
      rw [trP_ln, trP_bg, trP_o (c := 123) (by decide), trP_o (c := 124) (by decide), eb, eb, e1 (w + 6) (by omega), e1 (w + 7) (by omega), e1 (w + 8) (by omega), e1 (w + 9) (by omega), e1 (w + 10) (by omega), e1 (w + 11) (by omega), z1 (w + 6) (by omega) (by omega), z1 (w + 7) (by omega) (by omega), z1 (w + 8) (by omega) (by omega), z1 (w + 11) (by omega) (by omega)]
      exact ⟨t.1, t.2.1, t.2.2.1, t9.1, t9.2, t.2.2.2⟩
    · rw [trP_6] at b1
      rw [es]
      exact e2 b b0 b1
  have x12 : ∀ b, x (w + 12) b = h (w + 12) b := fun b => by
    rw [z1 _ (by omega) (by omega), K1 _ (by omega) (by omega) (by omega) (by omega) (by omega), G3 _ (by omega) (by omega) (by omega) (by omega)]
  have r5' : ∀ b, 0 ≤ b → b + 1 < N → h (w + 12) b = shp m b := fun b b0 b1 => by
    have t := r5 b b0 b1
    unfold shp bend at t
    rw [trP_ln, trP_gD] at t
    exact t
  by_cases hN0 : N ≤ 0
  · rw [if_pos hN0]
    exact ⟨x, rfl, fin x (fun _ _ => rfl) (fun b b0 b1 => by omega)⟩
  · have x6 : ∀ b, 0 ≤ b → b ≤ N → x (w + 6) b = ln m b := fun b b0 b1 => by
      rw [z1 _ (by omega) (by omega)]
      exact (K6 b b0 b1 (fun _ => trivial)).1
    have xs : ∀ b a, 0 ≤ b → b ≤ N → 0 ≤ a → a < 3 → MX10_step w b a x = some (gD m b a) := fun b a b0 b1 a0 a1 => S x (by rw [z1 w (by omega) (by omega)]; exact y11) (fun a a0 a1 => (z1 _ (by omega) (by omega)).trans (yp a a0 a1)) b a b0 b1 a0 a1
    rw [if_neg hN0, w32_i (x := N - 1) (by omega), sharp_c (by omega) H (b := N - 1) (fun a a0 a1 => xs (N - 1) a (by omega) (by omega) a0 a1) (fun a a0 a1 => by rw [Int.sub_add_cancel]; exact xs N a hN.1 (Int.le_refl N) a0 a1) (x6 (N - 1) (by omega) (by omega)) (by rw [Int.sub_add_cancel]; exact x6 N hN.1 (Int.le_refl N)) (by omega) (by omega), bndp_s, grd_t (by omega), ltt_e]
    refine ⟨_, rfl, fin _ (fun c hc => up_row hc) (fun b b0 b1 => ?_)⟩
    by_cases hb : b = N - 1
    · rw [hb, up_s]
    · rw [up_i hb, x12]
      exact r5' b b0 (by omega)
end
