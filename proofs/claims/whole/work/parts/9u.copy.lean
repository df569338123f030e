/-! THE PROGRAM IS TAKEN OVER. -/
section
variable {n : Nat}
theorem cpA : ∀ (r f : Nat) (x : Int) (h : Hp), (r : Int) = 8 - x → 0 ≤ x → r < f → ∃ h', BX12_copiesProgram_2 n f x h = some h' ∧ (∀ c, c ≠ 115 → h' c = h c) ∧ (∀ i, i < x → h' 115 i = h 115 i) ∧ ∀ i, x ≤ i → i < 8 → h' 115 i = h 114 i
  | 0, f + 1, x, h, e, x0, hf => ⟨h, by rw [BX12_copiesProgram_2, if_pos (by omega)], fun _ _ => rfl, fun _ _ => rfl, fun i i0 i1 => by omega⟩
  | r + 1, f + 1, x, h, e, x0, hf => by
    obtain ⟨h', q1, q2, q3, q4⟩ := cpA r f (x + 1) (up h 115 x (h 114 x)) (by omega) (by omega) (by omega)
    refine ⟨h', ?_, fun c hc => by rw [q2 c hc, up_ne hc], fun i hi => by rw [q3 i (by omega), up_i (by omega)], fun i i0 i1 => ?_⟩
    · rw [BX12_copiesProgram_2, if_neg (by omega), al84, grd_t (by omega), grd_t (by omega), ltt_e, w32_i (x := x + 1) (by omega), ltt_e]
      exact q1
    · by_cases hx : i = x
      · rw [q3 i (by omega), hx, up_at]
      · rw [q4 i (by omega) i1, up_ne (by decide)]
theorem cpB {N : Int} (hN : 0 ≤ N ∧ N ≤ 64) : ∀ (r f : Nat) (x : Int) (h : Hp), h 113 6 = N → (r : Int) = 3 * (N + 1) - x → 0 ≤ x → r < f → ∃ h', BX12_copiesProgram_52 n f x h = some h' ∧ (∀ c, c ≠ 122 → h' c = h c) ∧ (∀ i, i < x → h' 122 i = h 122 i) ∧ ∀ i, x ≤ i → i < 3 * (N + 1) → h' 122 i = h 119 i
  | 0, f + 1, x, h, e6, e, x0, hf => ⟨h, by rw [BX12_copiesProgram_52, e6, w32_i (x := N + 1) (by omega), w32_i (x := 3 * (N + 1)) (by omega), if_pos (by omega)], fun _ _ => rfl, fun _ _ => rfl, fun i i0 i1 => by omega⟩
  | r + 1, f + 1, x, h, e6, e, x0, hf => by
    obtain ⟨h', q1, q2, q3, q4⟩ := cpB hN r f (x + 1) (up h 122 x (h 119 x)) (by rw [up_c (by decide)]; exact e6) (by omega) (by omega) (by omega)
    refine ⟨h', ?_, fun c hc => by rw [q2 c hc, up_ne hc], fun i hi => by rw [q3 i (by omega), up_i (by omega)], fun i i0 i1 => ?_⟩
    · rw [BX12_copiesProgram_52, e6, w32_i (x := N + 1) (by omega), w32_i (x := 3 * (N + 1)) (by omega), if_neg (by omega), al1580, grd_t (by omega), grd_t (by omega), ltt_e, w32_i (x := x + 1) (by omega), ltt_e]
      exact q1
    · by_cases hx : i = x
      · rw [q3 i (by omega), hx, up_at]
      · rw [q4 i (by omega) i1, up_ne (by decide)]
/-- the leg of a block of the told program -/
def gP (g : Hp) (b a : Int) : Int := g 119 (3 * (b + 1) + a) - g 119 (3 * b + a)
theorem goes_r {h : Hp} {b a d : Int} (b0 : 0 ≤ b) (b1 : b < 64) (a0 : 0 ≤ a) (a1 : a < 3) (e : h 122 (3 * (b + 1) + a) - h 122 (3 * b + a) = d) (hd : -200000 ≤ d ∧ d ≤ 200000) : MX12_goes b a h = some d := by
  unfold MX12_goes
  rw [w32_i (x := b + 1) (by omega), w32_i (x := 3 * (b + 1)) (by omega), w32_i (x := 3 * (b + 1) + a) (by omega), w32_i (x := 3 * b) (by omega), w32_i (x := 3 * b + a) (by omega), al1580, grd_t (by omega), grd_t (by omega), e, w32_i (by omega)]
theorem cpC (hn : 40 ≤ n) {g : Hp} (H : WFp (pv g)) : ∀ (r f : Nat) (k : Nat) (h : Hp), h 113 6 = g 113 3 → (∀ i, 0 ≤ i → i < 3 * (g 113 3 + 1) → h 122 i = g 119 i) → h 126 k = bgP g k → (r : Int) + k = g 113 3 → r < f → ∃ h', BX12_copiesProgram_91 n f k h = some h' ∧ (∀ c, c ≠ 123 → c ≠ 124 → c ≠ 125 → c ≠ 126 → h' c = h c) ∧ (∀ i, i < (k : Int) → h' 123 i = h 123 i ∧ h' 124 i = h 124 i ∧ h' 125 i = h 125 i) ∧ (∀ i, i ≤ (k : Int) → h' 126 i = h 126 i) ∧ ∀ i : Int, (k : Int) ≤ i → i < g 113 3 → h' 123 i = h 120 i ∧ h' 124 i = h 121 i ∧ h' 125 i = lnP g i ∧ h' 126 (i + 1) = bgP g (i + 1).toNat
  | 0, f + 1, k, h, e6, _, _, e, hf => ⟨h, by rw [BX12_copiesProgram_91, e6, if_pos (by omega)], fun _ _ _ _ _ => rfl, fun _ _ => ⟨rfl, rfl, rfl⟩, fun _ _ => rfl, fun i i0 i1 => by omega⟩
  | r + 1, f + 1, k, h, e6, e22, e26, e, hf => by
    have hB : 0 ≤ g 113 3 ∧ g 113 3 ≤ 64 := H.1
    have k1 : (k : Int) < nB (pv g) := by show (k : Int) < g 113 3; omega
    have w0 := wf_go H (b := (k : Int)) (a := 0) (by omega) k1 (by decide) (by decide)
    have w1 := wf_go H (b := (k : Int)) (a := 1) (by omega) k1 (by decide) (by decide)
    have w2 := wf_go H (b := (k : Int)) (a := 2) (by omega) k1 (by decide) (by decide)
    have s0 := sq_le w0.1 w0.2
    have s1 := sq_le w1.1 w1.2
    have s2 := sq_le w2.1 w2.2
    have t0 := sq_nn (gD (pv g) k 0)
    have t1 := sq_nn (gD (pv g) k 1)
    have t2 := sq_nn (gD (pv g) k 2)
    have hb := wf_bg H k (by omega)
    have hl := (wf_blk H (b := (k : Int)) (by omega) k1).1
    have hb' : bgP g k ≤ 346410 * k ∧ 0 ≤ bgP g k := by
      have : bg (pv g) (k : Int) = bgP g k := rfl
      rw [← this]
      omega
    have hl' : 1 ≤ lnP g k ∧ lnP g k ≤ 346410 := hl
    have go : ∀ a : Int, 0 ≤ a → a < 3 → ∀ h2 : Hp, h2 122 = h 122 → MX12_goes k a h2 = some (gD (pv g) k a) := fun a a0 a1 h2 q => by
      refine goes_r (by omega) (by omega) a0 a1 ?_ (wf_go H (by omega) k1 a0 a1)
      rw [q, e22 _ (by omega) (by omega), e22 _ (by omega) (by omega)]
      rfl
    obtain ⟨h', q1, q2, q3, q4, q5⟩ := cpC hn H r f (k + 1) (up (up (up (up h 123 k (h 120 k)) 124 k (h 121 k)) 125 k (lnP g k)) 126 (k + 1) (bgP g k + lnP g k)) (by rw [up_c (by decide), up_c (by decide), up_c (by decide), up_c (by decide)]; exact e6) (fun i i0 i1 => by rw [up_c (by decide), up_c (by decide), up_c (by decide), up_c (by decide)]; exact e22 i i0 i1) (by
      rw [show ((k + 1 : Nat) : Int) = (k : Int) + 1 by omega, up_at]
      rfl) (by omega) (by omega)
    have ek : ((k + 1 : Nat) : Int) = (k : Int) + 1 := by omega
    rw [ek] at q1 q3 q4 q5
    refine ⟨h', ?_, fun c d3 d4 d5 d6 => by rw [q2 c d3 d4 d5 d6, up_ne d6, up_ne d5, up_ne d4, up_ne d3], fun i hi => ?_, fun i hi => ?_, fun i i0 i1 => ?_⟩
    · rw [BX12_copiesProgram_91, e6, if_neg (by omega), al532, grd_t (by omega), grd_t (by omega), ltt_e, grd_t (by omega), grd_t (by omega), ltt_e, go 0 (by decide) (by decide) _ (by rw [up_ne (by decide), up_ne (by decide)]), bndp_s, square_m, bndp_s, go 1 (by decide) (by decide) _ (by rw [up_ne (by decide), up_ne (by decide)]), bndp_s, square_m, bndp_s, go 2 (by decide) (by decide) _ (by rw [up_ne (by decide), up_ne (by decide)]), bndp_s, square_m, bndp_s]
      rw [w64_i (x := gD (pv g) k 0 * gD (pv g) k 0) (by omega), w64_i (x := gD (pv g) k 1 * gD (pv g) k 1) (by omega), w64_i (x := gD (pv g) k 2 * gD (pv g) k 2) (by omega), w64_i (x := gD (pv g) k 0 * gD (pv g) k 0 + gD (pv g) k 1 * gD (pv g) k 1) (by omega), w64_i (x := gD (pv g) k 0 * gD (pv g) k 0 + gD (pv g) k 1 * gD (pv g) k 1 + gD (pv g) k 2 * gD (pv g) k 2) (by omega), root_m hn (by omega) (by omega), bndp_s, grd_t (by omega), ltt_e, al540, grd_t (by omega), grd_t (by omega), w32_i (x := (k : Int) + 1) (by omega), grd_t (by omega)]
      rw [show rt (gD (pv g) k 0 * gD (pv g) k 0 + gD (pv g) k 1 * gD (pv g) k 1 + gD (pv g) k 2 * gD (pv g) k 2) = lnP g k from rfl]
      rw [up_c (b := 126) (by decide), up_c (b := 126) (by decide), up_c (b := 126) (by decide), up_at, e26, w32_i (x := bgP g k + lnP g k) (by omega), ltt_e, ltt_e, up_c (b := 121) (by decide)]
      exact q1
    · obtain ⟨a1, a2, a3⟩ := q3 i (by omega)
      rw [a1, a2, a3]
      refine ⟨by rw [up_c (by decide), up_c (by decide), up_c (by decide), up_i (by omega)], by rw [up_c (by decide), up_c (by decide), up_i (by omega), up_c (by decide)], by rw [up_c (by decide), up_i (by omega), up_c (by decide), up_c (by decide)]⟩
    · rw [q4 i (by omega), up_i (by omega), up_c (by decide), up_c (by decide), up_c (by decide)]
    · by_cases hx : i = k
      · obtain ⟨a1, a2, a3⟩ := q3 i (by omega)
        rw [a1, a2, a3, q4 (i + 1) (by omega), hx]
        refine ⟨by rw [up_c (by decide), up_c (by decide), up_c (by decide), up_at], by rw [up_c (by decide), up_c (by decide), up_at], by rw [up_c (by decide), up_at], ?_⟩
        rw [up_at, show ((k : Int) + 1).toNat = k + 1 by omega]
        rfl
      · obtain ⟨a1, a2, a3, a4⟩ := q5 i (by omega) i1
        rw [a1, a2, a3, a4]
        refine ⟨by rw [up_c (by decide), up_c (by decide), up_c (by decide), up_c (by decide)], by rw [up_c (by decide), up_c (by decide), up_c (by decide), up_c (by decide)], rfl, rfl⟩
theorem cpD : ∀ (r f : Nat) (x : Int) (h : Hp), (r : Int) = 3 - x → 0 ≤ x → r < f → ∃ h', BX12_copiesProgram_229 n f x h = some h' ∧ (∀ c, c ≠ 147 → h' c = h c) ∧ (∀ i, i < x → h' 147 i = h 147 i) ∧ ∀ i, x ≤ i → i < 3 → h' 147 i = 0
  | 0, f + 1, x, h, e, x0, hf => ⟨h, by rw [BX12_copiesProgram_229, if_pos (by omega)], fun _ _ => rfl, fun _ _ => rfl, fun i i0 i1 => by omega⟩
  | r + 1, f + 1, x, h, e, x0, hf => by
    obtain ⟨h', q1, q2, q3, q4⟩ := cpD r f (x + 1) (up h 147 x 0) (by omega) (by omega) (by omega)
    refine ⟨h', ?_, fun c hc => by rw [q2 c hc, up_ne hc], fun i hi => by rw [q3 i (by omega), up_i (by omega)], fun i i0 i1 => ?_⟩
    · rw [BX12_copiesProgram_229, if_neg (by omega), al46, grd_t (by omega), ltt_e, w32_i (x := x + 1) (by omega), ltt_e]
      exact q1
    · by_cases hx : i = x
      · rw [q3 i (by omega), hx, up_at]
      · exact q4 i (by omega) i1
/-- what is when the program was taken over -/
def CPY (g m : Hp) : Prop :=
  (∀ c, c ≠ 113 → c ≠ 115 → (c < 122 ∨ 126 < c) → c ≠ 147 → m c = g c) ∧ (∀ i, (i < 5 ∨ 7 < i) → (i < 42 ∨ 47 < i) → i ≠ 54 → m 113 i = g 113 i) ∧ (m 113 5 = g 113 2 ∧ m 113 6 = g 113 3 ∧ m 113 7 = g 113 4) ∧ (m 113 45 = 100 ∧ m 113 47 = 0 ∧ m 113 42 = 0 ∧ m 113 43 = 0 ∧ m 113 44 = 0 ∧ m 113 46 = 0 ∧ m 113 54 = 0) ∧ (∀ k, 0 ≤ k → k < 8 → m 115 k = g 114 k) ∧ (∀ k, 0 ≤ k → k < 3 * (g 113 3 + 1) → m 122 k = g 119 k) ∧ (∀ b, 0 ≤ b → b < g 113 3 → m 123 b = g 120 b ∧ m 124 b = g 121 b ∧ m 125 b = lnP g b) ∧ (∀ b, 0 ≤ b → b ≤ g 113 3 → m 126 b = bgP g b.toNat) ∧ ∀ k, 0 ≤ k → k < 3 → m 147 k = 0
theorem lnP_of {g h : Hp} (e : h 119 = g 119) : lnP h = lnP g := by
  funext b
  unfold lnP
  rw [e]
theorem bgP_e {g h : Hp} (e : h 119 = g 119) : bgP h = bgP g := by
  funext k
  induction k with
  | zero => rfl
  | succ k ih =>
    show bgP h k + lnP h k = bgP g k + lnP g k
    rw [ih, lnP_of e]
theorem copies_m (hn : 300 ≤ n) {g : Hp} (H : WFp (pv g)) : ∃ m, MX12_copiesProgram n g = some m ∧ CPY g m := by
  have hB : 0 ≤ g 113 3 ∧ g 113 3 ≤ 64 := H.1
  obtain ⟨h1, x1, f1, -, s1⟩ := cpA (n := n) 8 n 0 g rfl (by decide) (by omega)
  have a3 : up (up (up h1 113 5 (h1 113 2)) 113 6 (h1 113 3)) 113 7 (h1 113 4) 113 6 = g 113 3 := by rw [up_i (by decide), up_at, f1 113 (by decide)]
  obtain ⟨h2, x2, f2, -, s2⟩ := cpB (n := n) hB (3 * (g 113 3 + 1)).toNat n 0 _ a3 (by omega) (by decide) (by omega)
  have a6 : up h2 126 0 0 113 6 = g 113 3 := by rw [up_c (by decide), f2 113 (by decide)]; exact a3
  have a19 : up h2 126 0 0 119 = g 119 := by rw [up_ne (by decide), f2 119 (by decide), up_ne (by decide), up_ne (by decide), up_ne (by decide), f1 119 (by decide)]
  have k2 : ∀ i, 0 ≤ i → i < 3 * (g 113 3 + 1) → up h2 126 0 0 122 i = g 119 i := fun i i0 i1 => by
    rw [up_c (by decide), s2 i i0 i1, up_c (by decide), up_c (by decide), up_c (by decide), f1 119 (by decide)]
  obtain ⟨h3, x3, f3, -, t3, s3⟩ := cpC (n := n) (by omega) H (g 113 3).toNat n 0 (up h2 126 0 0) a6 k2 (up_at) (by omega) (by omega)
  obtain ⟨h4, x4, f4, -, s4⟩ := cpD (n := n) 3 n 0 (up (up (up (up (up (up (up h3 113 45 100) 113 47 0) 113 42 0) 113 43 0) 113 44 0) 113 46 0) 113 54 0) rfl (by decide) (by omega)
  have c113 : ∀ i, h3 113 i = up (up (up h1 113 5 (h1 113 2)) 113 6 (h1 113 3)) 113 7 (h1 113 4) 113 i := fun i => by rw [f3 113 (by decide) (by decide) (by decide) (by decide), up_ne (by decide), f2 113 (by decide)]
  have far : ∀ c, c ≠ 113 → c ≠ 147 → h4 c = h3 c := fun c d1 d2 => by rw [f4 c d2, up_ne d1, up_ne d1, up_ne d1, up_ne d1, up_ne d1, up_ne d1, up_ne d1]
  have mid : ∀ c, c ≠ 113 → c ≠ 122 → c ≠ 126 → up h2 126 0 0 c = h1 c := fun c d1 d2 d3 => by rw [up_ne d3, f2 c d2, up_ne d1, up_ne d1, up_ne d1]
  refine ⟨h4, ?_, fun c d1 d2 d3 d4 => ?_, fun i i1 i2 i3 => ?_, ⟨?_, ?_, ?_⟩, ⟨?_, ?_, ?_, ?_, ?_, ?_, ?_⟩, fun k k0 k1 => ?_, fun k k0 k1 => ?_, fun b b0 b1 => ?_, fun b b0 b1 => ?_, fun k k0 k1 => s4 k k0 k1⟩
  · unfold MX12_copiesProgram LX12_copiesProgram_2
    rw [ltt_e, x1, bndx_s]
    show JX12_copiesProgram_26 n h1 = _
    unfold JX12_copiesProgram_26 LX12_copiesProgram_52
    have v6 : up h1 113 5 (h1 113 2) 113 3 = h1 113 3 := up_i (by decide)
    have v7 : up (up h1 113 5 (h1 113 2)) 113 6 (h1 113 3) 113 4 = h1 113 4 := by rw [up_i (by decide), up_i (by decide)]
    rw [ltt_e, v6, ltt_e, v7, ltt_e, ltt_e, x2, bndx_s]
    show JX12_copiesProgram_82 n h2 = _
    unfold JX12_copiesProgram_82 LX12_copiesProgram_91
    have x3' : BX12_copiesProgram_91 n n 0 (up h2 126 0 0) = some h3 := x3
    rw [al540, grd_t (by decide), ltt_e, ltt_e, x3', bndx_s]
    show JX12_copiesProgram_191 n h3 = _
    unfold JX12_copiesProgram_191 LX12_copiesProgram_229
    rw [ltt_e, ltt_e, ltt_e, ltt_e, ltt_e, ltt_e, ltt_e, ltt_e]
    exact x4
  · rw [far c d1 d4, f3 c (by omega) (by omega) (by omega) (by omega), mid c d1 (by omega) (by omega), f1 c d2]
  · rw [f4 113 (by decide), up_i (by omega), up_i (by omega), up_i (by omega), up_i (by omega), up_i (by omega), up_i (by omega), up_i (by omega), c113, up_i (by omega), up_i (by omega), up_i (by omega), f1 113 (by decide)]
  · rw [f4 113 (by decide), up_i (by decide), up_i (by decide), up_i (by decide), up_i (by decide), up_i (by decide), up_i (by decide), up_i (by decide), c113, up_i (by decide), up_i (by decide), up_at, f1 113 (by decide)]
  · rw [f4 113 (by decide), up_i (by decide), up_i (by decide), up_i (by decide), up_i (by decide), up_i (by decide), up_i (by decide), up_i (by decide), c113, a3]
  · rw [f4 113 (by decide), up_i (by decide), up_i (by decide), up_i (by decide), up_i (by decide), up_i (by decide), up_i (by decide), up_i (by decide), c113, up_at, f1 113 (by decide)]
  · rw [f4 113 (by decide), up_i (by decide), up_i (by decide), up_i (by decide), up_i (by decide), up_i (by decide), up_i (by decide), up_at]
  · rw [f4 113 (by decide), up_i (by decide), up_i (by decide), up_i (by decide), up_i (by decide), up_i (by decide), up_at]
  · rw [f4 113 (by decide), up_i (by decide), up_i (by decide), up_i (by decide), up_i (by decide), up_at]
  · rw [f4 113 (by decide), up_i (by decide), up_i (by decide), up_i (by decide), up_at]
  · rw [f4 113 (by decide), up_i (by decide), up_i (by decide), up_at]
  · rw [f4 113 (by decide), up_i (by decide), up_at]
  · rw [f4 113 (by decide), up_at]
  · rw [far 115 (by decide) (by decide), f3 115 (by decide) (by decide) (by decide) (by decide), mid 115 (by decide) (by decide) (by decide), s1 k k0 k1]
  · rw [far 122 (by decide) (by decide), f3 122 (by decide) (by decide) (by decide) (by decide), k2 k k0 k1]
  · obtain ⟨b2, b3, b4, -⟩ := s3 b (by omega) b1
    rw [far 123 (by decide) (by decide), far 124 (by decide) (by decide), far 125 (by decide) (by decide), b2, b3, b4, mid 120 (by decide) (by decide) (by decide), mid 121 (by decide) (by decide) (by decide), f1 120 (by decide), f1 121 (by decide)]
    exact ⟨rfl, rfl, rfl⟩
  · rw [far 126 (by decide) (by decide)]
    by_cases hb : b = 0
    · rw [hb, t3 0 (by decide), up_at]
      rfl
    · have := (s3 (b - 1) (by omega) (by omega)).2.2.2
      rw [show b - 1 + 1 = b by omega] at this
      exact this
end
/-- two heaps whose model holds the same program -/
def SMp (m m' : Hp) : Prop := nB m' = nB m ∧ m' 113 5 = m 113 5 ∧ m' 113 7 = m 113 7 ∧ (∀ k, 0 ≤ k → k < 8 → m' 115 k = m 115 k) ∧ (∀ i, 0 ≤ i → i < 3 * (nB m + 1) → m' 122 i = m 122 i) ∧ (∀ b, 0 ≤ b → b < nB m → m' 123 b = m 123 b ∧ m' 124 b = m 124 b ∧ ln m' b = ln m b) ∧ ∀ b, 0 ≤ b → b ≤ nB m → bg m' b = bg m b
theorem SMp.go {m m' : Hp} (S : SMp m m') {b a : Int} (b0 : 0 ≤ b) (b1 : b < nB m) (a0 : 0 ≤ a) (a1 : a < 3) : gD m' b a = gD m b a := by
  unfold gD
  rw [S.2.2.2.2.1 _ (by omega) (by omega), S.2.2.2.2.1 _ (by omega) (by omega)]
theorem SMp.wf {m m' : Hp} (S : SMp m m') (H : WFp m) : WFp m' := by
  have hB := H.1
  obtain ⟨e6, e5, e7, e15, e22, eb, eg⟩ := S
  refine ⟨by rw [e6]; exact hB, fun k k0 k1 => by rw [e15 k k0 (by omega), e15 (3 + k) (by omega) (by omega)]; exact H.2.1 k k0 k1, by rw [e15 6 (by decide) (by decide)]; exact H.2.2.1, by rw [e15 7 (by decide) (by decide)]; exact H.2.2.2.1, fun k k0 k1 => by rw [e6] at k1; rw [e22 k k0 k1]; exact H.2.2.2.2.1 k k0 k1, fun b b0 b1 => ?_, by rw [eg 0 (by decide) hB.1]; exact H.2.2.2.2.2.2.1, by rw [e5]; exact H.2.2.2.2.2.2.2.1, by rw [e7]; exact H.2.2.2.2.2.2.2.2⟩
  rw [e6] at b1
  have := H.2.2.2.2.2.1 b b0 b1
  obtain ⟨b3, b4, b5⟩ := eb b b0 b1
  have S' : SMp m m' := ⟨e6, e5, e7, e15, e22, eb, eg⟩
  unfold WFb at this ⊢
  rw [S'.go b0 b1 (by decide) (by decide), S'.go b0 b1 (by decide) (by decide), S'.go b0 b1 (by decide) (by decide), b3, b4, b5, eg b b0 (by omega), eg (b + 1) (by omega) (by omega)]
  exact this
theorem SMp.rw {m m' h : Hp} {w : Int} (S : SMp m m') (H : WFp m) (R : RW m h w) : RW m' h w := by
  have hB := H.1
  obtain ⟨e6, e5, e7, e15, e22, eb, eg⟩ := S
  have S' : SMp m m' := ⟨e6, e5, e7, e15, e22, eb, eg⟩
  obtain ⟨r1, r2, r3, r4, r5⟩ := R
  have eL : ∀ b k, 0 ≤ b → b < nB m → k = 0 ∨ k = 3 → lb m' b k = lb m b k := fun b k b0 b1 hk => by
    unfold lb
    rw [e15 k (by omega) (by omega), e15 (k + 1) (by omega) (by omega), e15 (k + 2) (by omega) (by omega), (eb b b0 b1).2.2, S'.go b0 b1 (by decide) (by decide), S'.go b0 b1 (by decide) (by decide), S'.go b0 b1 (by decide) (by decide)]
  refine ⟨by rw [e15 6 (by decide) (by decide), e15 7 (by decide) (by decide), e6, e5, e7, eg _ hB.1 (Int.le_refl _)]; exact r1, fun k k0 k1 => by rw [e15 k k0 (by omega)]; exact r2 k k0 k1, fun a k a0 a1 k0 k1 => by rw [e6] at k1; rw [e22 _ (by omega) (by omega)]; exact r3 a k a0 a1 k0 k1, fun b b0 b1 => ?_, fun b b0 b1 => ?_⟩
  · rw [e6] at b1
    obtain ⟨q1, q2, q3⟩ := eb b b0 b1
    rw [q1, q2, q3, eg _ (by omega) (by omega), eL b 0 b0 b1 (Or.inl rfl), eL b 3 b0 b1 (Or.inr rfl)]
    exact r4 b b0 b1
  · rw [e6] at b1
    have es : shp m' b = shp m b := by
      unfold shp bend
      rw [S'.go (b := b) b0 (by omega) (a := 0) (by decide) (by decide), S'.go (b := b) b0 (by omega) (a := 1) (by decide) (by decide), S'.go (b := b) b0 (by omega) (a := 2) (by decide) (by decide), S'.go (b := b + 1) (by omega) b1 (a := 0) (by decide) (by decide), S'.go (b := b + 1) (by omega) b1 (a := 1) (by decide) (by decide), S'.go (b := b + 1) (by omega) b1 (a := 2) (by decide) (by decide), (eb b b0 (by omega)).2.2, (eb (b + 1) (by omega) b1).2.2]
    rw [es]
    exact r5 b b0 b1
theorem CPY.sm {g m : Hp} (C : CPY g m) : SMp (pv g) m := by
  obtain ⟨-, -, ⟨c5, c6, c7⟩, -, c8, c9, c10, c11, -⟩ := C
  exact ⟨c6, c5, c7, c8, c9, c10, c11⟩
