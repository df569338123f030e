/-! A MOVE'S POINTS: the model. -/
/-- what a point that is come to may change -/
def FW0 (h h' : Hp) : Prop := (∀ c, c ≠ 113 → c ≠ 119 → c ≠ 120 → c ≠ 121 → c ≠ 128 → h' c = h c) ∧ ∀ i, i ≠ 3 → i ≠ 26 → i ≠ 27 → h' 113 i = h 113 i
theorem FW0.rf {h : Hp} : FW0 h h := ⟨fun _ _ _ _ _ _ => rfl, fun _ _ _ _ => rfl⟩
theorem FW0.tr {h g k : Hp} (a : FW0 h g) (b : FW0 g k) : FW0 h k := ⟨fun c h1 h2 h3 h4 h5 => (b.1 c h1 h2 h3 h4 h5).trans (a.1 c h1 h2 h3 h4 h5), fun i h1 h2 h3 => (b.2 i h1 h2 h3).trans (a.2 i h1 h2 h3)⟩
theorem FW0.put {h g : Hp} (a : FW0 h g) {c i v : Int} (hc : c = 119 ∨ c = 120 ∨ c = 121 ∨ c = 128) : FW0 h (up g c i v) := ⟨fun d h1 h2 h3 h4 h5 => (up_row (by omega)).trans (a.1 d h1 h2 h3 h4 h5), fun j h1 h2 h3 => (up_c (by omega)).trans (a.2 j h1 h2 h3)⟩
theorem FW0.pf {h g : Hp} (a : FW0 h g) {i v : Int} (hi : i = 3 ∨ i = 26 ∨ i = 27) : FW0 h (up g 113 i v) := ⟨fun d h1 h2 h3 h4 h5 => (up_row h1).trans (a.1 d h1 h2 h3 h4 h5), fun j h1 h2 h3 => (up_i (by omega)).trans (a.2 j h1 h2 h3)⟩
/-- where the model is: the place, how many blocks, beyond, full, how many moves -/
def WS (h : Hp) (x y z N be fu M : Int) : Prop := (h 128 0 = x ∧ h 128 1 = y ∧ h 128 2 = z) ∧ h 113 3 = N ∧ h 113 26 = be ∧ h 113 27 = fu ∧ h 113 2 = M
section
variable {n : Nat}
theorem cmt_l {N : Int} (hN : 1 ≤ N ∧ N ≤ 64) : ∀ (r f : Nat) (a : Int) (h : Hp), a + r = 3 → r < f → 0 ≤ a → h 113 3 = N → (∀ z, 0 ≤ z → z < a → h 119 (3 * N + z) = h 128 z) → ∃ h', BX12_comesTo_164 n f a h = some h' ∧ (∀ c, c ≠ 119 → h' c = h c) ∧ (∀ i, (i < 3 * N ∨ 3 * N + 3 ≤ i) → h' 119 i = h 119 i) ∧ ∀ z, 0 ≤ z → z < 3 → h' 119 (3 * N + z) = h 128 z
  | 0, f + 1, a, h, ha, hf, a0, e3, A => by
    rw [BX12_comesTo_164, if_pos (by omega)]
    exact ⟨h, rfl, fun _ _ => rfl, fun _ _ => rfl, fun z z0 z1 => A z z0 (by omega)⟩
  | r + 1, f + 1, a, h, ha, hf, a0, e3, A => by
    rw [BX12_comesTo_164, if_neg (by omega), al44, al1580, grd_t (by omega), e3, w32_i (x := 3 * N) (by omega), w32_i (x := 3 * N + a) (by omega), grd_t (by omega), ltt_e, ltt_e, w32_i (x := a + 1) (by omega)]
    obtain ⟨h', e, K, O, V⟩ := cmt_l hN r f (a + 1) (up h 119 (3 * N + a) (h 128 a)) (by omega) (by omega) (by omega) ((up_c (by decide)).trans e3) (fun z z0 z1 => by
      rw [up_c (b := 128) (by decide)]
      by_cases hz : z = a
      · rw [hz, up_s]
      · rw [up_i (by omega)]
        exact A z z0 (by omega))
    exact ⟨h', e, fun c hc => (K c hc).trans (up_row hc), fun i hi => (O i hi).trans (up_i (by omega)), fun z z0 z1 => (V z z0 z1).trans (up_c (by decide))⟩
theorem comesTo_m (hn : 10 ≤ n) {h : Hp} {x y z N be fu M p q r f : Int} (W : WS h x y z N be fu M) (hN : 0 ≤ N ∧ N ≤ 64) (hM : 0 ≤ M ∧ M ≤ 40) (hb : be = 0 ∨ be = 1) : ∃ h', MX12_comesTo n p q r f h = some h' ∧ FW0 h h' ∧ WS h' p q r (if (p ≠ x ∨ q ≠ y ∨ r ≠ z) ∧ N < 64 then N + 1 else N) (if (p ≠ x ∨ q ≠ y ∨ r ≠ z) ∧ (¬ far_ p ∨ ¬ far_ q ∨ ¬ far_ r) then 1 else be) (if (p ≠ x ∨ q ≠ y ∨ r ≠ z) ∧ N = 64 then 1 else fu) M ∧ (∀ i, i < 3 * (N + 1) → h' 119 i = h 119 i) ∧ (∀ b, b < N → h' 120 b = h 120 b ∧ h' 121 b = h 121 b) ∧ ((p ≠ x ∨ q ≠ y ∨ r ≠ z) ∧ N < 64 → (h' 119 (3 * (N + 1)) = p ∧ h' 119 (3 * (N + 1) + 1) = q ∧ h' 119 (3 * (N + 1) + 2) = r) ∧ h' 120 N = f ∧ h' 121 N = M - 1) := by
  obtain ⟨⟨w1, w2, w3⟩, w4, w5, w6, w7⟩ := W
  by_cases hc : p ≠ x ∨ q ≠ y ∨ r ≠ z
  · have J : MX12_comesTo n p q r f h = JX12_comesTo_31 n p q r f h := by
      unfold MX12_comesTo
      rw [al44, grd_t (by decide), grd_t (by decide), grd_t (by decide), w1, w2, w3]
      by_cases h1 : p = x
      · by_cases h2 : q = y
        · have h3 : r ≠ z := by rcases hc with t | t | t; exact absurd h1 t; exact absurd h2 t; exact t
          rw [if_neg (fun t => t h1), if_neg (fun t => t h2), if_pos h3]
        · rw [if_neg (fun t => t h1), if_pos h2]
      · rw [if_pos h1]
    have main : ∀ v : Int, (v = 0 ∨ v = 1) → (v = if (p ≠ x ∨ q ≠ y ∨ r ≠ z) ∧ (¬ far_ p ∨ ¬ far_ q ∨ ¬ far_ r) then 1 else be) → ∃ h', JX12_comesTo_86 n p q r f v h = some h' ∧ FW0 h h' ∧ WS h' p q r (if (p ≠ x ∨ q ≠ y ∨ r ≠ z) ∧ N < 64 then N + 1 else N) (if (p ≠ x ∨ q ≠ y ∨ r ≠ z) ∧ (¬ far_ p ∨ ¬ far_ q ∨ ¬ far_ r) then 1 else be) (if (p ≠ x ∨ q ≠ y ∨ r ≠ z) ∧ N = 64 then 1 else fu) M ∧ (∀ i, i < 3 * (N + 1) → h' 119 i = h 119 i) ∧ (∀ b, b < N → h' 120 b = h 120 b ∧ h' 121 b = h 121 b) ∧ ((p ≠ x ∨ q ≠ y ∨ r ≠ z) ∧ N < 64 → (h' 119 (3 * (N + 1)) = p ∧ h' 119 (3 * (N + 1) + 1) = q ∧ h' 119 (3 * (N + 1) + 2) = r) ∧ h' 120 N = f ∧ h' 121 N = M - 1) := fun v hv ev => by
      have F4 : FW0 h (up (up (up (up h 113 26 v) 128 0 p) 128 1 q) 128 2 r) := (((FW0.rf.pf (Or.inr (Or.inl rfl))).put (by decide)).put (by decide)).put (by decide)
      have g3 : up (up (up (up h 113 26 v) 128 0 p) 128 1 q) 128 2 r 113 3 = N := by rw [up_c (by decide), up_c (by decide), up_c (by decide), up_i (by decide)]; exact w4
      have g26 : up (up (up (up h 113 26 v) 128 0 p) 128 1 q) 128 2 r 113 26 = v := by rw [up_c (by decide), up_c (by decide), up_c (by decide), up_s]
      have g27 : up (up (up (up h 113 26 v) 128 0 p) 128 1 q) 128 2 r 113 27 = fu := by rw [up_c (by decide), up_c (by decide), up_c (by decide), up_i (by decide)]; exact w6
      have g2 : up (up (up (up h 113 26 v) 128 0 p) 128 1 q) 128 2 r 113 2 = M := by rw [up_c (by decide), up_c (by decide), up_c (by decide), up_i (by decide)]; exact w7
      have p0 : up (up (up (up h 113 26 v) 128 0 p) 128 1 q) 128 2 r 128 0 = p := by rw [up_i (by decide), up_i (by decide), up_s]
      have p1 : up (up (up (up h 113 26 v) 128 0 p) 128 1 q) 128 2 r 128 1 = q := by rw [up_i (by decide), up_s]
      have p2 : up (up (up (up h 113 26 v) 128 0 p) 128 1 q) 128 2 r 128 2 = r := up_s
      have r119 : up (up (up (up h 113 26 v) 128 0 p) 128 1 q) 128 2 r 119 = h 119 := by rw [up_row (by decide), up_row (by decide), up_row (by decide), up_row (by decide)]
      have r120 : up (up (up (up h 113 26 v) 128 0 p) 128 1 q) 128 2 r 120 = h 120 := by rw [up_row (by decide), up_row (by decide), up_row (by decide), up_row (by decide)]
      have r121 : up (up (up (up h 113 26 v) 128 0 p) 128 1 q) 128 2 r 121 = h 121 := by rw [up_row (by decide), up_row (by decide), up_row (by decide), up_row (by decide)]
      unfold JX12_comesTo_86
      rw [grd_t hv, ltt_e, al44, grd_t (by decide), ltt_e, grd_t (by decide), ltt_e, grd_t (by decide), ltt_e, g3, ← ev]
      generalize up (up (up (up h 113 26 v) 128 0 p) 128 1 q) 128 2 r = g at *
      by_cases h64 : N = 64
      · rw [if_neg (fun t => t h64), ltt_e, if_neg (fun t => by omega), if_pos ⟨hc, h64⟩]
        exact ⟨_, rfl, F4.pf (Or.inr (Or.inr rfl)), ⟨⟨(up_c (by decide)).trans p0, (up_c (by decide)).trans p1, (up_c (by decide)).trans p2⟩, (up_i (by decide)).trans g3, (up_i (by decide)).trans g26, up_s, (up_i (by decide)).trans g2⟩, fun i _ => by rw [up_row (by decide), r119], fun b _ => by rw [up_row (by decide), up_row (by decide), r120, r121]; exact ⟨rfl, rfl⟩, fun t => by omega⟩
      · unfold LX12_comesTo_164
        rw [if_pos h64, al532, grd_t (by omega), ltt_e, up_c (b := 113) (by decide), g3, up_c (b := 113) (by decide), g2, grd_t (by omega), w32_i (x := M - 1) (by omega), ltt_e, up_c (b := 113) (by decide), up_c (b := 113) (by decide), g3, w32_i (x := N + 1) (by omega), ltt_e, ltt_e, if_pos ⟨hc, by omega⟩, if_neg (show ¬ ((p ≠ x ∨ q ≠ y ∨ r ≠ z) ∧ N = 64) from fun t => h64 t.2)]
        have k3 : up (up (up g 120 N f) 121 N (M - 1)) 113 3 (N + 1) 113 3 = N + 1 := up_s
        obtain ⟨h', e, K, O, V⟩ := cmt_l (n := n) (N := N + 1) (by omega) 3 n 0 (up (up (up g 120 N f) 121 N (M - 1)) 113 3 (N + 1)) (by decide) (by omega) (by decide) k3 (fun z z0 z1 => by omega)
        have K' : ∀ c, c ≠ 119 → c ≠ 113 → c ≠ 120 → c ≠ 121 → h' c = g c := fun c c1 c2 c3 c4 => (K c c1).trans ((up_row c2).trans ((up_row c4).trans (up_row c3)))
        have v0 := V 0 (by decide) (by decide)
        have v1 := V 1 (by decide) (by decide)
        have v2 := V 2 (by decide) (by decide)
        rw [Int.add_zero] at v0
        have e128 : up (up (up g 120 N f) 121 N (M - 1)) 113 3 (N + 1) 128 = g 128 := by rw [up_row (by decide), up_row (by decide), up_row (by decide)]
        rw [e128] at v0 v1 v2
        refine ⟨h', e, ⟨fun c c1 c2 c3 c4 c5 => (K' c c2 c1 c3 c4).trans (F4.1 c c1 c2 c3 c4 c5), fun i i1 i2 i3 => ?_⟩, ⟨⟨?_, ?_, ?_⟩, ?_, ?_, ?_, ?_⟩, fun i hi => ?_, fun b hb' => ?_, fun _ => ⟨⟨v0.trans p0, v1.trans p1, v2.trans p2⟩, ?_, ?_⟩⟩
        · rw [K 113 (by decide), up_i i1, up_c (by decide), up_c (by decide)]
          exact F4.2 i i1 i2 i3
        · rw [K' 128 (by decide) (by decide) (by decide) (by decide)]
          exact p0
        · rw [K' 128 (by decide) (by decide) (by decide) (by decide)]
          exact p1
        · rw [K' 128 (by decide) (by decide) (by decide) (by decide)]
          exact p2
        · rw [K 113 (by decide), up_s]
        · rw [K 113 (by decide), up_i (by decide), up_c (by decide), up_c (by decide)]
          exact g26
        · rw [K 113 (by decide), up_i (by decide), up_c (by decide), up_c (by decide)]
          exact g27
        · rw [K 113 (by decide), up_i (by decide), up_c (by decide), up_c (by decide)]
          exact g2
        · rw [O i (by omega), up_row (by decide), up_row (by decide), up_row (by decide), r119]
        · rw [K 120 (by decide), K 121 (by decide), up_c (by decide), up_c (by decide), up_i (by omega), up_c (by decide), up_i (by omega), up_c (by decide), r120, r121]
          exact ⟨rfl, rfl⟩
        · rw [K 120 (by decide), up_c (by decide), up_c (by decide), up_s]
        · rw [K 121 (by decide), up_c (by decide), up_s]
    rw [J]
    unfold JX12_comesTo_31 JX12_comesTo_81
    rw [w5, in_m, bndp_s, in_m, bndp_s, in_m, bndp_s]
    by_cases hbe : be = 0
    · rw [if_neg (fun t => t hbe)]
      by_cases h1 : -100000 ≤ p ∧ p ≤ 100000
      · rw [if_pos h1, if_neg (by decide)]
        by_cases h2 : -100000 ≤ q ∧ q ≤ 100000
        · rw [if_pos h2, if_neg (by decide)]
          by_cases h3 : -100000 ≤ r ∧ r ≤ 100000
          · rw [if_pos h3, if_pos (by decide)]
            exact main 0 (Or.inl rfl) (by rw [if_neg (fun t => t.2.elim (fun t => t h1) (fun t => t.elim (fun t => t h2) (fun t => t h3))), hbe])
          · rw [if_neg h3, if_neg (by decide)]
            exact main 1 (Or.inr rfl) (by rw [if_pos ⟨hc, Or.inr (Or.inr h3)⟩])
        · rw [if_neg h2, if_pos rfl]
          exact main 1 (Or.inr rfl) (by rw [if_pos ⟨hc, Or.inr (Or.inl h2)⟩])
      · rw [if_neg h1, if_pos rfl]
        exact main 1 (Or.inr rfl) (by rw [if_pos ⟨hc, Or.inl h1⟩])
    · rw [if_pos hbe]
      exact main 1 (Or.inr rfl) (by
        have : be = 1 := hb.elim (fun t => absurd t hbe) id
        rw [this]
        split <;> rfl)
  · have e1 : p = x := Classical.not_not.mp (fun t => hc (Or.inl t))
    have e2 : q = y := Classical.not_not.mp (fun t => hc (Or.inr (Or.inl t)))
    have e3 : r = z := Classical.not_not.mp (fun t => hc (Or.inr (Or.inr t)))
    unfold MX12_comesTo
    rw [al44, grd_t (by decide), grd_t (by decide), grd_t (by decide), w1, w2, w3, if_neg (fun t => t e1), if_neg (fun t => t e2), if_neg (fun t => t e3), if_neg (fun t => hc t.1), if_neg (fun t => hc t.1), if_neg (fun t => hc t.1)]
    exact ⟨h, rfl, FW0.rf, ⟨⟨w1.trans e1.symm, w2.trans e2.symm, w3.trans e3.symm⟩, w4, w5, w6, w7⟩, fun _ _ => rfl, fun _ _ => ⟨rfl, rfl⟩, fun t => absurd t.1 hc⟩
end
