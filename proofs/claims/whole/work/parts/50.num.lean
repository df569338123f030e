/-! NUMBERS. -/
theorem ltt_e {α β : Type} (v : α) (f : α → β) : ltt v f = f v := rfl
theorem grd_t {α : Type} {c : Prop} [Decidable c] (h : c) (x : Option α) : grd c x = x := if_pos h
theorem bndp_s {α : Type} (v : Int) (f : Int → Option α) : bndp (some v) f = f v := rfl
theorem bndh_s {α : Type} (v : Hp) (f : Hp → Option α) : bndh (some v) f = f v := rfl
theorem bnd_s {α : Type} (v : Int) (h : Hp) (f : Int → Hp → Option α) : bnd (some (v, h)) f = f v h := rfl
theorem bndx_s {β α : Type} (v : β) (f : β → Option α) : bndx (some v) f = f v := rfl
theorem bnds_l {β γ α : Type} (v : β) (f : β → Option α) (g : γ → Option α) : bnds (some (.inl v)) f g = f v := rfl
theorem bnds_r {β γ α : Type} (v : γ) (f : β → Option α) (g : γ → Option α) : bnds (some (.inr v)) f g = g v := rfl
theorem w32_i {x : Int} (h : -2147483648 ≤ x ∧ x < 2147483648) : w32 x = x := w32_id h.1 h.2
theorem w64_i {x : Int} (h : -9223372036854775808 ≤ x ∧ x < 9223372036854775808) : w64 x = x := w64_id h.1 h.2
theorem lcp_gt (x y : Int) : (0 < lcp x y) = (y < x) := by
  unfold lcp
  apply propext
  split
  · omega
  · split <;> omega
theorem lcp_lt (x y : Int) : (lcp x y < 0) = (x < y) := by
  unfold lcp
  apply propext
  split
  · omega
  · split <;> omega
theorem lcp_ge (x y : Int) : (0 ≤ lcp x y) = (y ≤ x) := by
  unfold lcp
  apply propext
  split
  · omega
  · split <;> omega
theorem lcp_le (x y : Int) : (lcp x y ≤ 0) = (x ≤ y) := by
  unfold lcp
  apply propext
  split
  · omega
  · split <;> omega
theorem lcp_ne (x y : Int) : (lcp x y ≠ 0) = (x ≠ y) := by
  unfold lcp
  apply propext
  split
  · omega
  · split <;> omega
theorem lcp_eq (x y : Int) : (lcp x y = 0) = (x = y) := by
  unfold lcp
  apply propext
  split
  · omega
  · split <;> omega
theorem al50 : alen 50 = 3 := by decide
theorem al68 : alen 68 = 6 := by decide
theorem al84 : alen 84 = 8 := by decide
theorem al85 : alen 85 = 8 := by decide
theorem al46 : alen 46 = 3 := by decide
theorem al284 : alen 284 = 33 := by decide
theorem al285 : alen 285 = 33 := by decide
theorem al532 : alen 532 = 64 := by decide
theorem al540 : alen 540 = 65 := by decide
theorem al1580 : alen 1580 = 195 := by decide
theorem al1940 : alen 1940 = 240 := by decide
theorem al1988 : alen 1988 = 246 := by decide
theorem al3220 : alen 3220 = 400 := by decide
theorem al3223 : alen 3223 = 400 := by decide
theorem al44 : alen 44 = 3 := by decide
theorem al41 : alen 41 = 2 := by decide
theorem al48 : alen 48 = 3 := by decide
theorem al36 : alen 36 = 2 := by decide
theorem al74 : alen 74 = 6 := by decide
theorem al184 : alen 184 = 20 := by decide
theorem al164 : alen 164 = 18 := by decide
theorem al980 : alen 980 = 120 := by decide
theorem al6164 : alen 6164 = 768 := by decide
theorem al6364 : alen 6364 = 793 := by decide
theorem al20220 : alen 20220 = 2525 := by decide
theorem al60 : alen 60 = 5 := by decide
theorem up_s {h : Hp} {a i v : Int} : up h a i v a i = v := up_at
theorem up_c {h : Hp} {a i v b j : Int} (hb : b ≠ a) : up h a i v b j = h b j := by
  unfold up
  rw [if_neg (fun q => hb q.1)]
theorem up_i {h : Hp} {a i v j : Int} (hj : j ≠ i) : up h a i v a j = h a j := by
  unfold up
  rw [if_neg (fun q => hj q.2)]
theorem up_e {h : Hp} {a i v b j : Int} (hb : b = a) (hj : j = i) : up h a i v b j = v := by
  subst hb; subst hj; exact up_at
/-! roots -/
theorem sq_nn (g : Int) : 0 ≤ g * g := by
  by_cases h : 0 ≤ g
  · exact Int.mul_nonneg h h
  · have := Int.mul_nonneg (a := -g) (b := -g) (by omega) (by omega)
    rw [Int.neg_mul_neg] at this
    exact this
def rtN : Nat → Int → Int
  | 0, _ => 0
  | k + 1, n => if (rtN k n + 1) * (rtN k n + 1) ≤ n then rtN k n + 1 else rtN k n
/-- the square root, downwards -/
def rt (n : Int) : Int := rtN n.toNat n
theorem rtN_ok {n : Int} (h0 : 0 ≤ n) : ∀ k : Nat, 0 ≤ rtN k n ∧ rtN k n * rtN k n ≤ n ∧ rtN k n ≤ k ∧ (rtN k n = k ∨ n < (rtN k n + 1) * (rtN k n + 1))
  | 0 => by
    have e : rtN 0 n = 0 := rfl
    rw [e]
    exact ⟨Int.le_refl _, by omega, by omega, Or.inl rfl⟩
  | k + 1 => by
    obtain ⟨h1, h2, h3, h4⟩ := rtN_ok h0 k
    have e : rtN (k + 1) n = if (rtN k n + 1) * (rtN k n + 1) ≤ n then rtN k n + 1 else rtN k n := rfl
    rw [e]
    by_cases hc : (rtN k n + 1) * (rtN k n + 1) ≤ n
    · rw [if_pos hc]
      rcases h4 with h4 | h4
      · exact ⟨by omega, hc, by omega, Or.inl (by omega)⟩
      · omega
    · rw [if_neg hc]
      exact ⟨h1, h2, by omega, Or.inr (by omega)⟩
theorem rt_ok {n : Int} (h0 : 0 ≤ n) : 0 ≤ rt n ∧ rt n * rt n ≤ n ∧ n < (rt n + 1) * (rt n + 1) := by
  obtain ⟨h1, h2, h3, h4⟩ := rtN_ok h0 n.toNat
  refine ⟨h1, h2, ?_⟩
  rcases h4 with h4 | h4
  · show n < (rtN n.toNat n + 1) * (rtN n.toNat n + 1)
    have e : rtN n.toNat n = n := by omega
    rw [e]
    have : (1 : Int) * (n + 1) ≤ (n + 1) * (n + 1) := Int.mul_le_mul_of_nonneg_right (by omega) (by omega)
    omega
  · exact h4
theorem sq_lt {a b : Int} (ha : 0 ≤ a) (hb : 0 ≤ b) (h : a * a < b * b) : a < b := by
  by_cases hc : a < b
  · exact hc
  · have := Int.mul_self_le_mul_self hb (Int.not_lt.mp hc)
    omega
theorem rt_uq {n r : Int} (h0 : 0 ≤ r) (h1 : r * r ≤ n) (h2 : n < (r + 1) * (r + 1)) : r = rt n := by
  have hn : 0 ≤ n := Int.le_trans (sq_nn r) h1
  obtain ⟨g0, g1, g2⟩ := rt_ok hn
  have a1 := sq_lt h0 (by omega) (Int.lt_of_le_of_lt h1 g2)
  have a2 := sq_lt g0 (by omega) (Int.lt_of_le_of_lt g1 h2)
  omega
theorem rt_lt {n b : Int} (h0 : 0 ≤ n) (hb : 0 ≤ b) (h : n < b * b) : rt n < b := by
  obtain ⟨g0, g1, -⟩ := rt_ok h0
  exact sq_lt g0 hb (Int.lt_of_le_of_lt g1 h)
theorem rt_ge {n b : Int} (hb : 0 ≤ b) (h : b * b ≤ n) : b ≤ rt n := by
  have hn : 0 ≤ n := Int.le_trans (sq_nn b) h
  obtain ⟨g0, -, g2⟩ := rt_ok hn
  have := sq_lt hb (by omega) (Int.lt_of_le_of_lt h g2)
  omega
theorem rt_nn (n : Int) : 0 ≤ rt n := by
  by_cases h : 0 ≤ n
  · exact (rt_ok h).1
  · unfold rt
    rw [show n.toNat = 0 by omega]
    exact Int.le_refl _
theorem rt_mono {a b : Int} (h0 : 0 ≤ a) (h : a ≤ b) : rt a ≤ rt b := rt_ge (rt_nn a) (Int.le_trans (rt_ok h0).2.1 h)
theorem shl1 : ∀ k : Nat, k < 31 → lshl 1 (k : Int) = 2 ^ k := by decide +kernel
theorem p31 : ∀ k : Nat, k < 31 → (2 : Int) ^ k ≤ 1073741824 ∧ 0 < (2 : Int) ^ k := by decide +kernel
theorem root_lp {n : Nat} {x : Int} (hx : x < 4611686018427387904) : ∀ (k f : Nat) (r : Int), k ≤ 31 → k < f → 0 ≤ r → r + 2 ^ k ≤ 2147483648 → r * r ≤ x → x < (r + 2 ^ k) * (r + 2 ^ k) → BX11_root_6 n f x r ((k : Int) - 1) = some (rt x)
  | 0, f + 1, r, _, _, h0, hb, h1, h2 => by
    have e : (2 : Int) ^ 0 = 1 := rfl
    rw [e] at hb h2
    unfold BX11_root_6
    rw [if_pos (by omega), w32_i (by omega), ← rt_uq h0 h1 h2]
  | k + 1, f + 1, r, hk, hf, h0, hb, h1, h2 => by
    unfold BX11_root_6
    have e : (2 : Int) ^ (k + 1) = 2 ^ k * 2 := Int.pow_succ 2 k
    have e3 : ((k + 1 : Nat) : Int) - 1 = (k : Int) := by omega
    have e4 := p31 k (by omega)
    rw [e] at hb h2
    rw [if_neg (by omega), ltt_e, e3, shl1 k (by omega)]
    generalize hP : (2 : Int) ^ k = P at *
    have e5 : r + P * 2 = r + P + P := by omega
    rw [e5] at h2
    rw [w64_i (x := r + P) (by omega)]
    have b1 : (r + P) * (r + P) ≤ 2147483648 * 2147483648 := Int.mul_self_le_mul_self (by omega) (by omega)
    have b2 := sq_nn (r + P)
    rw [w64_i (x := (r + P) * (r + P)) (by omega)]
    have e6 : w32 ((k : Int) + -1) = (k : Int) - 1 := by rw [w32_i (by omega)]; omega
    simp only [lcp_gt]
    by_cases hc : x < (r + P) * (r + P)
    · rw [if_pos hc, ltt_e, e6]
      exact root_lp hx k f r (by omega) (by omega) h0 (by rw [hP]; omega) h1 (by rw [hP]; exact hc)
    · rw [if_neg hc, ltt_e, ltt_e, e6]
      exact root_lp hx k f (r + P) (by omega) (by omega) (by omega) (by rw [hP]; omega) (by omega) (by rw [hP]; exact h2)
theorem root_c {n : Nat} {x : Int} (hn : 32 ≤ n) (h0 : 0 ≤ x) (hx : x < 4611686018427387904) : MX11_root n x = some (rt x) := by
  unfold MX11_root LX11_root_6
  rw [ltt_e, ltt_e]
  exact root_lp hx 31 n 0 (by omega) (by omega) (by omega) (by decide) (by omega) (by
    show x < (0 + 2 ^ 31) * (0 + 2 ^ 31)
    have : ((0 : Int) + 2 ^ 31) * (0 + 2 ^ 31) = 4611686018427387904 := by decide
    rw [this]
    exact hx)
theorem rootm_lp {n : Nat} {x : Int} : ∀ (k f : Nat) (lo hi : Int), k < f → hi - lo < 2 ^ k → 0 ≤ lo → lo ≤ hi → hi ≤ 3037000499 → lo * lo ≤ x → x < (hi + 1) * (hi + 1) → BX12_root_7 n f x lo hi = some (w32 (rt x))
  | k, f + 1, lo, hi, hf, hd, h0, hle, hh, h1, h2 => by
    unfold BX12_root_7
    simp only [lcp_ge, lcp_gt]
    by_cases he : hi ≤ lo
    · have e : lo = hi := by omega
      subst e
      rw [if_pos he, ← rt_uq h0 h1 h2]
    · rw [if_neg he, grd_t (by decide), ltt_e, w64_i (x := lo + hi) (by omega), w64_i (x := lo + hi + 1) (by omega), Int.tdiv_eq_ediv_of_nonneg (a := lo + hi + 1) (by omega), w64_i (x := (lo + hi + 1) / 2) (by omega)]
      match k, hd with
      | 0, hd => exact absurd hd (by have : (2 : Int) ^ 0 = 1 := rfl; omega)
      | k + 1, hd =>
        have e : (2 : Int) ^ (k + 1) = 2 ^ k * 2 := Int.pow_succ 2 k
        rw [e] at hd
        generalize hm : (lo + hi + 1) / 2 = mid at *
        have m1 : lo < mid := by omega
        have m2 : mid ≤ hi := by omega
        have b1 : mid * mid ≤ 3037000499 * 3037000499 := Int.mul_self_le_mul_self (by omega) (by omega)
        have b2 := sq_nn mid
        rw [w64_i (x := mid * mid) (by omega)]
        by_cases hc : x < mid * mid
        · rw [if_pos hc, ltt_e, w64_i (by omega)]
          exact rootm_lp k f lo (mid - 1) (by omega) (by omega) h0 (by omega) (by omega) h1 (by rw [Int.sub_add_cancel]; exact hc)
        · rw [if_neg hc, ltt_e]
          exact rootm_lp k f mid hi (by omega) (by omega) (by omega) (by omega) hh (by omega) h2
theorem root_m {n : Nat} {x : Int} (hn : 40 ≤ n) (h0 : 0 ≤ x) (hx : x < 4611686018427387904) : MX12_root n x = some (rt x) := by
  unfold MX12_root LX12_root_7
  rw [ltt_e, ltt_e, rootm_lp 32 n 0 3037000499 (by omega) (by decide) (by omega) (by omega) (by omega) (by omega) (by
    have : ((3037000499 : Int) + 1) * (3037000499 + 1) = 9223372037000250000 := by decide
    rw [this]
    omega)]
  have := rt_lt h0 (b := 2147483648) (by omega) (by
    have : (2147483648 : Int) * 2147483648 = 4611686018427387904 := by decide
    omega)
  rw [w32_i ⟨by have := rt_nn x; omega, this⟩]
theorem share_c {x y : Int} (hy : y ≠ 0) (hx : -9223372036854775808 ≤ x.tdiv y ∧ x.tdiv y < 9223372036854775808) : MX11_share x y = some (w32 (x.tdiv y)) := by
  unfold MX11_share
  simp only [lcp_ne]
  rw [if_pos hy, grd_t hy, w64_i hx]
theorem square_c (x : Int) : MX11_square x = some (w64 (x * x)) := rfl
theorem square_m (x : Int) : MX12_square x = some (w64 (x * x)) := rfl
theorem within_c {a x b : Int} : MX11_within a x b = some (if a ≤ x then (if x ≤ b then x else b) else a) := by
  unfold MX11_within
  split
  · split <;> rfl
  · rfl
theorem isAxis_c (x : Int) : MX11_isAxis x = some (if 0 ≤ x ∧ x < 3 then 1 else 0) := by
  unfold MX11_isAxis
  by_cases h1 : x < 0
  · rw [if_pos h1, if_neg (by omega)]
  · rw [if_neg h1]
    by_cases h2 : 3 ≤ x
    · rw [if_pos h2, if_neg (by omega)]
    · rw [if_neg h2, if_pos (by omega)]
theorem in_m (x a b : Int) : MX12_in x a b = some (if a ≤ x ∧ x ≤ b then 1 else 0) := by
  unfold MX12_in
  simp only [lcp_lt, lcp_gt]
  by_cases h1 : x < a
  · rw [if_pos h1, if_neg (by omega)]
  · rw [if_neg h1]
    by_cases h2 : b < x
    · rw [if_pos h2, if_neg (by omega)]
    · rw [if_neg h2, if_pos (by omega)]
theorem beyond_c (x : Int) : MX11_isBeyond x = some (if -100000 ≤ x ∧ x ≤ 100000 then 0 else 1) := by
  unfold MX11_isBeyond
  by_cases h1 : 100000 < x
  · rw [if_pos h1, if_neg (by omega)]
  · rw [if_neg h1]
    by_cases h2 : -100000 ≤ x
    · rw [if_pos h2, if_pos (by omega)]
    · rw [if_neg h2, if_neg (by omega)]
