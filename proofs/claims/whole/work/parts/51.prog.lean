/-! THE PROGRAM, as the model's cells have it. -/
theorem sq_le {g B : Int} (h1 : -B ≤ g) (h2 : g ≤ B) : g * g ≤ B * B := by
  by_cases h : 0 ≤ g
  · exact Int.mul_self_le_mul_self h h2
  · have := Int.mul_self_le_mul_self (a := -g) (b := B) (by omega) (by omega)
    rw [Int.neg_mul_neg] at this
    exact this
theorem le_rt {g n : Int} (h : g * g ≤ n) : -(rt n) ≤ g ∧ g ≤ rt n := by
  by_cases h0 : 0 ≤ g
  · have := rt_ge h0 h
    have := rt_nn n
    omega
  · have := rt_ge (b := -g) (by omega) (by rw [Int.neg_mul_neg]; exact h)
    have := rt_nn n
    omega
theorem sq_pos {g : Int} (h : g ≠ 0) : 1 ≤ g * g := by
  have := sq_nn g
  by_cases h2 : g * g = 0
  · rcases Int.mul_eq_zero.mp h2 with h3 | h3 <;> exact absurd h3 h
  · omega
def nB (m : Hp) : Int := m 113 6
def gD (m : Hp) (b a : Int) : Int := m 122 (3 * (b + 1) + a) - m 122 (3 * b + a)
def ln (m : Hp) (b : Int) : Int := m 125 b
def bg (m : Hp) (b : Int) : Int := m 126 b
def WFb (m : Hp) (b : Int) : Prop := (gD m b 0 ≠ 0 ∨ gD m b 1 ≠ 0 ∨ gD m b 2 ≠ 0) ∧ ln m b = rt (gD m b 0 * gD m b 0 + gD m b 1 * gD m b 1 + gD m b 2 * gD m b 2) ∧ bg m (b + 1) = bg m b + ln m b ∧ (1 ≤ m 123 b ∧ m 123 b ≤ 5000) ∧ (0 ≤ m 124 b ∧ m 124 b < 40)
def WFp (m : Hp) : Prop :=
  (0 ≤ nB m ∧ nB m ≤ 64) ∧ (∀ k, 0 ≤ k → k < 3 → (1 ≤ m 115 k ∧ m 115 k ≤ 5000) ∧ (1 ≤ m 115 (3 + k) ∧ m 115 (3 + k) ≤ 500)) ∧ (1 ≤ m 115 6 ∧ m 115 6 ≤ 50) ∧ (0 ≤ m 115 7 ∧ m 115 7 ≤ 2000) ∧
  (∀ k, 0 ≤ k → k < 3 * (nB m + 1) → -100000 ≤ m 122 k ∧ m 122 k ≤ 100000) ∧ (∀ b, 0 ≤ b → b < nB m → WFb m b) ∧ bg m 0 = 0 ∧ (0 ≤ m 113 5 ∧ m 113 5 ≤ 40) ∧ (0 ≤ m 113 7 ∧ m 113 7 ≤ 8)
theorem len_ok {d0 d1 d2 : Int} (h0 : -200000 ≤ d0 ∧ d0 ≤ 200000) (h1 : -200000 ≤ d1 ∧ d1 ≤ 200000) (h2 : -200000 ≤ d2 ∧ d2 ≤ 200000) (hn : d0 ≠ 0 ∨ d1 ≠ 0 ∨ d2 ≠ 0) :
    let L := rt (d0 * d0 + d1 * d1 + d2 * d2)
    (1 ≤ L ∧ L ≤ 346410) ∧ (-L ≤ d0 ∧ d0 ≤ L) ∧ (-L ≤ d1 ∧ d1 ≤ L) ∧ (-L ≤ d2 ∧ d2 ≤ L) ∧ ((L ≤ 2 * d0 ∨ L ≤ -2 * d0) ∨ (L ≤ 2 * d1 ∨ L ≤ -2 * d1) ∨ (L ≤ 2 * d2 ∨ L ≤ -2 * d2)) := by
  intro L
  have a0 := sq_nn d0
  have a1 := sq_nn d1
  have a2 := sq_nn d2
  have b0 := sq_le h0.1 h0.2
  have b1 := sq_le h1.1 h1.2
  have b2 := sq_le h2.1 h2.2
  have hp : 1 ≤ d0 * d0 + d1 * d1 + d2 * d2 := by
    rcases hn with h | h | h
    · have := sq_pos h; omega
    · have := sq_pos h; omega
    · have := sq_pos h; omega
  have hub : L < 346411 := rt_lt (by omega) (by decide) (by
    have : (346411 : Int) * 346411 = 120000580921 := by decide
    omega)
  have hlb : 1 ≤ L := rt_ge (by decide) (by omega)
  refine ⟨⟨hlb, by omega⟩, le_rt (by omega), le_rt (by omega), le_rt (by omega), ?_⟩
  have hL := (rt_ok (n := d0 * d0 + d1 * d1 + d2 * d2) (by omega)).2.1
  have hL2 : L * L ≤ d0 * d0 + d1 * d1 + d2 * d2 := hL
  by_cases c0 : L ≤ 2 * d0 ∨ L ≤ -2 * d0
  · exact Or.inl c0
  · by_cases c1 : L ≤ 2 * d1 ∨ L ≤ -2 * d1
    · exact Or.inr (Or.inl c1)
    · by_cases c2 : L ≤ 2 * d2 ∨ L ≤ -2 * d2
      · exact Or.inr (Or.inr c2)
      · exfalso
        have e0 := sq_le (g := 2 * d0) (B := L - 1) (by omega) (by omega)
        have e1 := sq_le (g := 2 * d1) (B := L - 1) (by omega) (by omega)
        have e2 := sq_le (g := 2 * d2) (B := L - 1) (by omega) (by omega)
        have f : ∀ x : Int, 2 * x * (2 * x) = 4 * (x * x) := fun x => by
          rw [Int.mul_assoc, Int.mul_left_comm x 2 x, ← Int.mul_assoc]
          rfl
        rw [f] at e0 e1 e2
        have g : (L - 1) * (L - 1) = L * L - 2 * L + 1 := by
          rw [Int.sub_mul, Int.mul_sub, Int.one_mul, Int.mul_one]
          omega
        rw [g] at e0 e1 e2
        omega
theorem wf_go {m : Hp} (H : WFp m) {b a : Int} (h0 : 0 ≤ b) (h1 : b < nB m) (a0 : 0 ≤ a) (a1 : a < 3) : -200000 ≤ gD m b a ∧ gD m b a ≤ 200000 := by
  have e1 := H.2.2.2.2.1 (3 * (b + 1) + a) (by omega) (by omega)
  have e2 := H.2.2.2.2.1 (3 * b + a) (by omega) (by omega)
  unfold gD
  omega
/-- what is known of a block -/
theorem wf_blk {m : Hp} (H : WFp m) {b : Int} (h0 : 0 ≤ b) (h1 : b < nB m) : (1 ≤ ln m b ∧ ln m b ≤ 346410) ∧ (∀ a, 0 ≤ a → a < 3 → -(ln m b) ≤ gD m b a ∧ gD m b a ≤ ln m b) ∧ (∃ a, (0 ≤ a ∧ a < 3) ∧ gD m b a ≠ 0 ∧ (ln m b ≤ 2 * gD m b a ∨ ln m b ≤ -2 * gD m b a)) := by
  obtain ⟨hn, hl, -⟩ := H.2.2.2.2.2.1 b h0 h1
  obtain ⟨c1, c2, c3, c4, c5⟩ := len_ok (wf_go H h0 h1 (a := 0) (by decide) (by decide)) (wf_go H h0 h1 (a := 1) (by decide) (by decide)) (wf_go H h0 h1 (a := 2) (by decide) (by decide)) hn
  rw [← hl] at c1 c2 c3 c4 c5
  refine ⟨c1, fun a a0 a1 => ?_, ?_⟩
  · rcases (show a = 0 ∨ a = 1 ∨ a = 2 by omega) with rfl | rfl | rfl
    · exact c2
    · exact c3
    · exact c4
  · rcases c5 with h | h | h
    · exact ⟨0, by decide, by omega, h⟩
    · exact ⟨1, by decide, by omega, h⟩
    · exact ⟨2, by decide, by omega, h⟩
theorem wf_bg {m : Hp} (H : WFp m) : ∀ k : Nat, (k : Int) ≤ nB m → (k : Int) ≤ bg m k ∧ bg m k ≤ 346410 * k
  | 0, _ => by
    have : bg m ((0 : Nat) : Int) = 0 := H.2.2.2.2.2.2.1
    rw [this]
    omega
  | k + 1, h => by
    have ih := wf_bg H k (by omega)
    have h1 := H.2.2.2.2.2.1 (k : Int) (by omega) (by omega)
    have h2 := (wf_blk H (b := (k : Int)) (by omega) (by omega)).1
    have e : ((k + 1 : Nat) : Int) = (k : Int) + 1 := by omega
    rw [e, h1.2.2.1]
    omega
theorem wf_bgi {m : Hp} (H : WFp m) {b : Int} (h0 : 0 ≤ b) (h1 : b ≤ nB m) : b ≤ bg m b ∧ bg m b ≤ 22170240 := by
  have := wf_bg H b.toNat (by omega)
  have e : ((b.toNat : Nat) : Int) = b := by omega
  rw [e] at this
  have := H.1
  omega
theorem wf_bgs {m : Hp} (H : WFp m) {b : Int} (h0 : 0 ≤ b) (h1 : b < nB m) : bg m (b + 1) = bg m b + ln m b := (H.2.2.2.2.2.1 b h0 h1).2.2.1
/-! derived numbers -/
def stm (acc s L d : Int) : Int := if d = 0 then acc else min acc (s * L / jabs d)
/-- the least of what axes may (from k on), times the length, by how far it goes there -/
def lb (m : Hp) (b k : Int) : Int := stm (stm (stm 163840000 (m 115 k) (ln m b) (gD m b 0)) (m 115 (k + 1)) (ln m b) (gD m b 1)) (m 115 (k + 2)) (ln m b) (gD m b 2)
def bend (m : Hp) (b a : Int) : Int := (gD m (b + 1) a * 32768).tdiv (ln m (b + 1)) - (gD m b a * 32768).tdiv (ln m b)
def shp (m : Hp) (b : Int) : Int := rt (bend m b 0 * bend m b 0 + bend m b 1 * bend m b 1 + bend m b 2 * bend m b 2)
def clm (v : Int) : Int := max 1 (min 100 v)
def cutS (m : Hp) (tol b : Int) : Int := if shp m b = 0 then 0 else min (4 * tol * 32768 / shp m b) (min (ln m b / 2) (ln m (b + 1) / 2))
def paceS (m : Hp) (tol j b : Int) : Int := if shp m b = 0 then 100 else clm (rt (2 * cutS m tol b * min (lb m b 3) (lb m (b + 1) 3) * 32768 / shp m b) / j)
def limS (m : Hp) (j pc b : Int) : Int := clm (min (m 123 b * pc / 100) (lb m b 0) / j)
def rchN (m : Hp) (j : Int) : Nat → Int
  | 0 => 12
  | k + 1 => min (rchN m j k) (lb m k 3 / j)
def rchS (m : Hp) (j : Int) : Int := max 1 (rchN m j (nB m).toNat)
theorem jabs_e {d : Int} (h : -200000 ≤ d ∧ d ≤ 200000) : jabs d = if d < 0 then -d else d := by
  unfold jabs
  split
  · rw [w32_i (by omega)]
  · rfl
theorem jabs_p {d : Int} (h : -200000 ≤ d ∧ d ≤ 200000) (hd : d ≠ 0) : 1 ≤ jabs d ∧ jabs d ≤ 200000 := by
  rw [jabs_e h]
  split <;> omega
theorem stm_le (acc s L d : Int) : stm acc s L d ≤ acc := by
  unfold stm
  split
  · exact Int.le_refl _
  · omega
theorem stm_q {acc s L d : Int} (hd : d ≠ 0) : stm acc s L d ≤ s * L / jabs d := by
  unfold stm
  rw [if_neg hd]
  omega
theorem qt_ok {s L d : Int} (hs : 1 ≤ s ∧ s ≤ 5000) (hL : 1 ≤ L ∧ L ≤ 346410) (hd : -200000 ≤ d ∧ d ≤ 200000) (hn : d ≠ 0) : 0 ≤ s * L / jabs d ∧ s * L / jabs d ≤ 1732050000 ∧ 0 ≤ s * L ∧ s * L ≤ 1732050000 := by
  have h1 := jabs_p hd hn
  have h2 : 0 ≤ s * L := Int.mul_nonneg (by omega) (by omega)
  have h3 : s * L ≤ 5000 * 346410 := Int.mul_le_mul (by omega) hL.2 (by omega) (by decide)
  have h4 : s * L / jabs d ≤ s * L := Int.ediv_le_self _ h2
  have h5 : 0 ≤ s * L / jabs d := Int.ediv_nonneg h2 (by omega)
  omega
theorem stm_pos {acc s L d : Int} (ha : 0 ≤ acc) (hs : 1 ≤ s ∧ s ≤ 5000) (hL : 1 ≤ L ∧ L ≤ 346410) (hd : -200000 ≤ d ∧ d ≤ 200000) : 0 ≤ stm acc s L d := by
  unfold stm
  split
  · exact ha
  · rename_i hn
    have := (qt_ok hs hL hd hn).1
    omega
theorem q2_ok {s L d : Int} (hs : 1 ≤ s ∧ s ≤ 5000) (hL : 1 ≤ L ∧ L ≤ 346410) (hd : -200000 ≤ d ∧ d ≤ 200000) (hn : d ≠ 0) (h : L ≤ 2 * d ∨ L ≤ -2 * d) : s * L / jabs d ≤ 2 * s := by
  have h1 := jabs_p hd hn
  have h2 : L ≤ 2 * jabs d := by
    rw [jabs_e hd]
    split <;> omega
  have h3 : s * L ≤ s * (2 * jabs d) := Int.mul_le_mul_of_nonneg_left h2 (by omega)
  have h4 : s * (2 * jabs d) = 2 * s * jabs d := by rw [← Int.mul_assoc, Int.mul_comm s 2]
  rw [h4] at h3
  exact Int.ediv_le_of_le_mul (by omega) h3
/-- the settings that bound a speed (k = 0) or a push (k = 3) -/
theorem wf_set {m : Hp} (H : WFp m) {k a : Int} (hk : k = 0 ∨ k = 3) (a0 : 0 ≤ a) (a1 : a < 3) : 1 ≤ m 115 (k + a) ∧ m 115 (k + a) ≤ 5000 := by
  have := H.2.1 a a0 a1
  rcases hk with rfl | rfl
  · rw [Int.zero_add]; exact this.1
  · exact ⟨this.2.1, by omega⟩
theorem lb_ok {m : Hp} (H : WFp m) {b k : Int} (hk : k = 0 ∨ k = 3) (h0 : 0 ≤ b) (h1 : b < nB m) : 0 ≤ lb m b k ∧ lb m b k ≤ 10000 ∧ (k = 3 → lb m b k ≤ 1000) := by
  have hL := (wf_blk H h0 h1).1
  have s0 := wf_set H hk (a := 0) (by decide) (by decide)
  have s1 := wf_set H hk (a := 1) (by decide) (by decide)
  have s2 := wf_set H hk (a := 2) (by decide) (by decide)
  rw [Int.add_zero] at s0
  have d0 := wf_go H h0 h1 (a := 0) (by decide) (by decide)
  have d1 := wf_go H h0 h1 (a := 1) (by decide) (by decide)
  have d2 := wf_go H h0 h1 (a := 2) (by decide) (by decide)
  have ub : ∃ s : Int, (1 ≤ s ∧ s ≤ 5000) ∧ (k = 3 → s ≤ 500) ∧ lb m b k ≤ 2 * s := by
    obtain ⟨a, ⟨a0, a1⟩, hn, hq⟩ := (wf_blk H h0 h1).2.2
    have hs3 : k = 3 → m 115 (k + a) ≤ 500 := fun e => by subst e; exact (H.2.1 a a0 a1).2.2
    refine ⟨m 115 (k + a), wf_set H hk a0 a1, hs3, Int.le_trans ?_ (q2_ok (wf_set H hk a0 a1) hL (wf_go H h0 h1 a0 a1) hn hq)⟩
    rcases (show a = 0 ∨ a = 1 ∨ a = 2 by omega) with rfl | rfl | rfl
    · rw [Int.add_zero]
      exact Int.le_trans (stm_le _ _ _ _) (Int.le_trans (stm_le _ _ _ _) (stm_q hn))
    · exact Int.le_trans (stm_le _ _ _ _) (stm_q hn)
    · exact stm_q hn
  obtain ⟨s, hs, hs3, hle⟩ := ub
  refine ⟨?_, by omega, fun e => by have := hs3 e; omega⟩
  unfold lb
  exact stm_pos (stm_pos (stm_pos (by decide) s0 hL d0) s1 hL d1) s2 hL d2
theorem bq_ok {g L : Int} (h1 : 1 ≤ L) (h : -L ≤ g ∧ g ≤ L) : -32768 ≤ (g * 32768).tdiv L ∧ (g * 32768).tdiv L ≤ 32768 := by
  by_cases h0 : 0 ≤ g
  · rw [Int.tdiv_eq_ediv_of_nonneg (by omega)]
    have a1 : 0 ≤ g * 32768 / L := Int.ediv_nonneg (by omega) (by omega)
    have a2 : g * 32768 / L ≤ 32768 := Int.ediv_le_of_le_mul (by omega) (by omega)
    omega
  · have e : g * 32768 = -(-g * 32768) := by omega
    rw [e, Int.neg_tdiv, Int.tdiv_eq_ediv_of_nonneg (by omega)]
    have a1 : 0 ≤ -g * 32768 / L := Int.ediv_nonneg (by omega) (by omega)
    have a2 : -g * 32768 / L ≤ 32768 := Int.ediv_le_of_le_mul (by omega) (by omega)
    omega
theorem bend_ok {m : Hp} (H : WFp m) {b a : Int} (h0 : 0 ≤ b) (h1 : b + 1 < nB m) (a0 : 0 ≤ a) (a1 : a < 3) : -65536 ≤ bend m b a ∧ bend m b a ≤ 65536 := by
  have e1 := bq_ok (wf_blk H h0 (by omega)).1.1 ((wf_blk H h0 (by omega)).2.1 a a0 a1)
  have e2 := bq_ok (wf_blk H (b := b + 1) (by omega) h1).1.1 ((wf_blk H (b := b + 1) (by omega) h1).2.1 a a0 a1)
  unfold bend
  omega
theorem shp_ok {m : Hp} (H : WFp m) {b : Int} (h0 : 0 ≤ b) (h1 : b + 1 < nB m) : (0 ≤ bend m b 0 * bend m b 0 + bend m b 1 * bend m b 1 + bend m b 2 * bend m b 2 ∧ bend m b 0 * bend m b 0 + bend m b 1 * bend m b 1 + bend m b 2 * bend m b 2 ≤ 12884901888) ∧ 0 ≤ shp m b ∧ shp m b ≤ 113511 := by
  have b0 := bend_ok H h0 h1 (a := 0) (by decide) (by decide)
  have b1 := bend_ok H h0 h1 (a := 1) (by decide) (by decide)
  have b2 := bend_ok H h0 h1 (a := 2) (by decide) (by decide)
  have c0 := sq_le b0.1 b0.2
  have c1 := sq_le b1.1 b1.2
  have c2 := sq_le b2.1 b2.2
  have e0 := sq_nn (bend m b 0)
  have e1 := sq_nn (bend m b 1)
  have e2 := sq_nn (bend m b 2)
  have hs : 0 ≤ bend m b 0 * bend m b 0 + bend m b 1 * bend m b 1 + bend m b 2 * bend m b 2 ∧ bend m b 0 * bend m b 0 + bend m b 1 * bend m b 1 + bend m b 2 * bend m b 2 ≤ 12884901888 := by omega
  refine ⟨hs, rt_nn _, ?_⟩
  have : shp m b < 113512 := rt_lt hs.1 (by decide) (by
    have : (113512 : Int) * 113512 = 12884974144 := by decide
    omega)
  omega
theorem clm_ok (v : Int) : 1 ≤ clm v ∧ clm v ≤ 100 := by unfold clm; omega
theorem cut_ok {m : Hp} (H : WFp m) {tol b : Int} (ht : 0 ≤ tol ∧ tol ≤ 2000) (h0 : 0 ≤ b) (h1 : b + 1 < nB m) : 0 ≤ cutS m tol b ∧ cutS m tol b ≤ 173205 ∧ 2 * cutS m tol b ≤ ln m b ∧ 2 * cutS m tol b ≤ ln m (b + 1) := by
  have l1 := (wf_blk H h0 (by omega)).1
  have l2 := (wf_blk H (b := b + 1) (by omega) h1).1
  have hs := (shp_ok H h0 h1).2
  unfold cutS
  split
  · omega
  · have : 0 ≤ 4 * tol * 32768 / shp m b := Int.ediv_nonneg (by omega) (by omega)
    omega
theorem pn_ok {m : Hp} (H : WFp m) {tol b : Int} (ht : 0 ≤ tol ∧ tol ≤ 2000) (h0 : 0 ≤ b) (h1 : b + 1 < nB m) : 0 ≤ 2 * cutS m tol b * min (lb m b 3) (lb m (b + 1) 3) ∧ 2 * cutS m tol b * min (lb m b 3) (lb m (b + 1) 3) ≤ 346410000 := by
  have hc := cut_ok H ht h0 h1
  have p1 := lb_ok H (k := 3) (Or.inr rfl) h0 (by omega)
  have p2 := lb_ok H (k := 3) (Or.inr rfl) (b := b + 1) (by omega) h1
  have q1 := p1.2.2 rfl
  have a1 : 0 ≤ 2 * cutS m tol b * min (lb m b 3) (lb m (b + 1) 3) := Int.mul_nonneg (by omega) (by omega)
  have a2 : 2 * cutS m tol b * min (lb m b 3) (lb m (b + 1) 3) ≤ 346410 * 1000 := Int.mul_le_mul (by omega) (by omega) (by omega) (by decide)
  omega
