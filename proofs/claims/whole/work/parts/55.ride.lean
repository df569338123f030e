/-! THE RIDE, in plain numbers: N blocks that end at e, J the jerk, R the reach, lim and pc what blocks and corners bear. -/
noncomputable def ci {α : Type} (p : Prop) (a b : α) : α := @ite α p (Classical.propDecidable p) a b
theorem ci_t {α : Type} {p : Prop} {a b : α} (h : p) : ci p a b = a := by
  unfold ci
  exact if_pos h
theorem ci_f {α : Type} {p : Prop} {a b : α} (h : ¬ p) : ci p a b = b := by
  unfold ci
  exact if_neg h
theorem ci_c {α : Type} {p q : Prop} {a b : α} (h : p ↔ q) : ci p a b = ci q a b := by
  by_cases hp : p
  · rw [ci_t hp, ci_t (h.mp hp)]
  · rw [ci_f hp, ci_f (fun z => hp (h.mpr z))]
def AL (N : Int) (e : Int → Int) : Int := if N ≤ 0 then 0 else e (N - 1)
def EnvOK (N J R : Int) (e lim pc : Int → Int) : Prop := (0 ≤ N ∧ N ≤ 64) ∧ (1 ≤ J ∧ J ≤ 50) ∧ (1 ≤ R ∧ R ≤ 12) ∧ (∀ b, 0 ≤ b → b < N → 1 ≤ e b ∧ e b ≤ 22170240 ∧ (b + 1 < N → e b < e (b + 1))) ∧ (∀ b, 0 ≤ b → b < N → 1 ≤ lim b ∧ lim b ≤ 100) ∧ ∀ b, 0 ≤ b → b + 1 < N → 1 ≤ pc b ∧ pc b ≤ 100
def blkL (e : Int → Int) (N s : Int) : Nat → Int → Int
  | 0, _ => N - 1
  | k + 1, b => if s < e b then b else blkL e N s k (b + 1)
/-- the block of s -/
def blk (e : Int → Int) (N s : Int) : Int := blkL e N s N.toNat 0
section
variable {N J R : Int} {e lim pc : Int → Int}
theorem e_mono (E : EnvOK N J R e lim pc) {a : Int} (a0 : 0 ≤ a) : ∀ k : Nat, a + k < N → e a + k ≤ e (a + k)
  | 0, _ => by
    rw [show a + ((0 : Nat) : Int) = a by omega]
    omega
  | k + 1, h => by
    have ih := e_mono E a0 k (by omega)
    have h1 := (E.2.2.2.1 (a + k) (by omega) (by omega)).2.2 (by omega)
    rw [show a + ((k + 1 : Nat) : Int) = a + k + 1 by omega]
    omega
theorem e_le (E : EnvOK N J R e lim pc) {a b : Int} (a0 : 0 ≤ a) (h : a ≤ b) (hb : b < N) : e a ≤ e b := by
  have := e_mono E a0 (b - a).toNat (by omega)
  rw [show a + ((b - a).toNat : Int) = b by omega] at this
  omega
theorem e_lt (E : EnvOK N J R e lim pc) {a b : Int} (a0 : 0 ≤ a) (h : a < b) (hb : b < N) : e a < e b := by
  have := e_mono E a0 (b - a).toNat (by omega)
  rw [show a + ((b - a).toNat : Int) = b by omega] at this
  omega
theorem AL_e (hN : 0 < N) : AL N e = e (N - 1) := if_neg (by omega)
theorem blkL_uq (E : EnvOK N J R e lim pc) {s b : Int} (b1 : b < N) (h1 : b = 0 ∨ e (b - 1) ≤ s) (h2 : s < e b ∨ b = N - 1) : ∀ (k : Nat) (a : Int), 0 ≤ a → a ≤ b → N = a + k → blkL e N s k a = b
  | 0, a, a0, h, hk => by omega
  | k + 1, a, a0, h, hk => by
    unfold blkL
    by_cases hc : s < e a
    · rw [if_pos hc]
      by_cases hab : a = b
      · exact hab
      · rcases h1 with h1 | h1
        · omega
        · have := e_le E a0 (show a ≤ b - 1 by omega) (by omega)
          omega
    · rw [if_neg hc]
      by_cases hab : a = b
      · subst hab
        rcases h2 with h2 | h2
        · exact absurd h2 hc
        · have : k = 0 := by omega
          subst this
          unfold blkL
          omega
      · exact blkL_uq E b1 h1 h2 k (a + 1) (by omega) (by omega) (by omega)
theorem blk_uq (E : EnvOK N J R e lim pc) {s b : Int} (b0 : 0 ≤ b) (b1 : b < N) (h1 : b = 0 ∨ e (b - 1) ≤ s) (h2 : s < e b ∨ b = N - 1) : blk e N s = b :=
  blkL_uq E b1 h1 h2 N.toNat 0 (by omega) b0 (by omega)
theorem blkL_ok (E : EnvOK N J R e lim pc) {s : Int} (hN : 0 < N) : ∀ (k : Nat) (a : Int), 0 ≤ a → N = a + k → (a = 0 ∨ e (a - 1) ≤ s) → (0 ≤ blkL e N s k a ∧ blkL e N s k a < N) ∧ (blkL e N s k a = 0 ∨ e (blkL e N s k a - 1) ≤ s) ∧ (s < e (blkL e N s k a) ∨ blkL e N s k a = N - 1)
  | 0, a, a0, hk, h => by
    unfold blkL
    refine ⟨by omega, ?_, Or.inr rfl⟩
    rcases h with h | h
    · omega
    · have ea : a = N := by omega
      subst ea
      by_cases hz : a - 1 = 0
      · exact Or.inl hz
      · have := e_le E (a := a - 1 - 1) (b := a - 1) (by omega) (by omega) (by omega)
        exact Or.inr (by omega)
  | k + 1, a, a0, hk, h => by
    unfold blkL
    by_cases hc : s < e a
    · rw [if_pos hc]
      exact ⟨by omega, h, Or.inl hc⟩
    · rw [if_neg hc]
      exact blkL_ok E hN k (a + 1) (by omega) (by omega) (Or.inr (by rw [Int.add_sub_cancel]; omega))
theorem blk_ok (E : EnvOK N J R e lim pc) {s : Int} (hN : 0 < N) : (0 ≤ blk e N s ∧ blk e N s < N) ∧ (blk e N s = 0 ∨ e (blk e N s - 1) ≤ s) ∧ (s < e (blk e N s) ∨ blk e N s = N - 1) :=
  blkL_ok E hN N.toNat 0 (by omega) (by omega) (Or.inl rfl)
theorem blk_mono (E : EnvOK N J R e lim pc) {s t : Int} (hN : 0 < N) (h : s ≤ t) : blk e N s ≤ blk e N t := by
  obtain ⟨a1, a2, a3⟩ := blk_ok E (s := s) hN
  obtain ⟨b1, b2, b3⟩ := blk_ok E (s := t) hN
  by_cases hc : blk e N s ≤ blk e N t
  · exact hc
  · rcases b3 with b3 | b3
    · rcases a2 with a2 | a2
      · omega
      · have := e_le E (a := blk e N t) (b := blk e N s - 1) b1.1 (by omega) (by omega)
        omega
    · omega
theorem blk0 (hN : N ≤ 0) (s : Int) : blk e N s = N - 1 := by
  unfold blk
  rw [show N.toNat = 0 by omega]
  rfl
/-! brakes -/
def bears (R w u : Int) : Prop := -R ≤ u ∧ 0 ≤ w ∧ (0 ≤ u ∨ u * (u + 1) ≤ 2 * w)
def brk (R w u : Int) : Int := if -R ≤ u - 1 ∧ 0 ≤ w + u - 1 ∧ (0 ≤ u - 1 ∨ (u - 1) * u ≤ 2 * (w + u - 1)) then -1 else if -R ≤ u ∧ 0 ≤ w + u ∧ (0 ≤ u ∨ u * (u + 1) ≤ 2 * (w + u)) then 0 else 1
theorem tri_m (u : Int) : (u - 1) * u = u * (u + 1) - 2 * u := by
  rw [Int.sub_mul, Int.mul_add, Int.one_mul, Int.mul_one]
  omega
theorem tri_p (u : Int) : (u + 1) * (u + 2) = u * (u + 1) + 2 * u + 2 := by
  rw [Int.add_mul, Int.mul_add, Int.one_mul, Int.mul_add, Int.mul_one]
  omega
theorem tri_0 (u : Int) : 0 ≤ u * (u + 1) := by
  by_cases h : 0 ≤ u
  · exact Int.mul_nonneg h (by omega)
  · have := Int.mul_nonneg (a := -u) (b := -(u + 1)) (by omega) (by omega)
    rw [Int.neg_mul_neg] at this
    exact this
/-- behind a brake it bears still, and it comes nearer to rest -/
theorem brk_ok {w u : Int} (hR : 1 ≤ R) (hb : bears R w u) (hn : ¬ (w = 0 ∧ u = 0)) : bears R (w + (u + brk R w u)) (u + brk R w u) ∧ (-1 ≤ brk R w u ∧ brk R w u ≤ 1) ∧ (1 ≤ u → brk R w u = -1) ∧ (u ≤ 0 → u + brk R w u ≤ 0 ∧ ((w + (u + brk R w u) = 0 ∧ u + brk R w u = 0) ∨ w + (u + brk R w u) ≤ w - 1)) := by
  obtain ⟨b1, b2, b3⟩ := hb
  have t1 := tri_m u
  have t2 := tri_p u
  have t3 := tri_0 u
  have t4 := tri_0 (u - 1)
  rw [Int.sub_add_cancel] at t4
  have t5 := tri_0 (u + 1)
  have t6 : (u + 1) * (u + 1 + 1) = (u + 1) * (u + 2) := by rw [Int.add_assoc]; rfl
  rw [t6] at t5
  unfold brk bears
  by_cases c1 : -R ≤ u - 1 ∧ 0 ≤ w + u - 1 ∧ (0 ≤ u - 1 ∨ (u - 1) * u ≤ 2 * (w + u - 1))
  · rw [if_pos c1]
    have e1 : u + -1 = u - 1 := by omega
    have e2 : (u - 1) * (u - 1 + 1) = (u - 1) * u := by rw [Int.sub_add_cancel]
    rw [e1, e2]
    refine ⟨⟨c1.1, by omega, by omega⟩, by omega, fun _ => rfl, fun h => ⟨by omega, Or.inr (by omega)⟩⟩
  · rw [if_neg c1]
    by_cases c2 : -R ≤ u ∧ 0 ≤ w + u ∧ (0 ≤ u ∨ u * (u + 1) ≤ 2 * (w + u))
    · rw [if_pos c2, Int.add_zero]
      refine ⟨⟨c2.1, c2.2.1, c2.2.2⟩, by omega, fun h => by omega, fun h => ⟨h, ?_⟩⟩
      by_cases hz : u = 0
      · subst hz
        left
        have e0 : (0 - 1 : Int) * 0 = 0 := rfl
        rw [e0] at c1
        omega
      · right; omega
    · rw [if_neg c2]
      have e2 : (u + 1) * (u + 1 + 1) = (u + 1) * (u + 2) := by rw [Int.add_assoc]; rfl
      rw [e2]
      refine ⟨⟨by omega, by omega, by omega⟩, by omega, fun h => by omega, fun h => ?_⟩
      by_cases hz : u = -1
      · subst hz
        have e0 : (-1 - 1 : Int) * -1 = 2 := rfl
        have e3 : (-1 : Int) * (-1 + 1) = 0 := rfl
        rw [e0] at c1
        rw [e3] at c2
        omega
      · by_cases hz2 : u = 0
        · subst hz2
          have e3 : (0 : Int) * (0 + 1) = 0 := rfl
          rw [e3] at c2
          omega
        · omega
/-- how many brakes at most -/
def nu (w u : Int) : Nat := (2 * w + 24 * max u 0 + min 1 (max (-u) 0)).toNat
theorem nu_dec {w u : Int} (hR : 1 ≤ R) (hb : bears R w u) (hu : u ≤ 12) (hn : ¬ (w = 0 ∧ u = 0)) : (w + (u + brk R w u) = 0 ∧ u + brk R w u = 0) ∨ nu (w + (u + brk R w u)) (u + brk R w u) < nu w u := by
  obtain ⟨q1, q2, q3, q4⟩ := brk_ok hR hb hn
  have b2 := hb.2.1
  have c2 := q1.2.1
  by_cases h : 1 ≤ u
  · have := q3 h
    right
    rw [this] at c2 ⊢
    unfold nu
    omega
  · obtain ⟨r1, r2⟩ := q4 (by omega)
    rcases r2 with r2 | r2
    · exact Or.inl r2
    · right
      unfold nu
      omega
theorem brk_u {w u : Int} (hR : 1 ≤ R) (hb : bears R w u) (hn : ¬ (w = 0 ∧ u = 0)) : u + brk R w u ≤ max u 0 := by
  obtain ⟨q1, q2, q3, q4⟩ := brk_ok hR hb hn
  by_cases h : 1 ≤ u
  · have := q3 h; omega
  · have := (q4 (by omega)).1; omega
theorem brk_m {w u : Int} (hR : 1 ≤ R) (hb : bears R w u) (hu : u ≤ 12) (hn : ¬ (w = 0 ∧ u = 0)) : w + (u + brk R w u) + 12 * max (u + brk R w u) 0 ≤ w + 12 * max u 0 := by
  obtain ⟨q1, q2, q3, q4⟩ := brk_ok hR hb hn
  have b2 := hb.2.1
  by_cases h : 1 ≤ u
  · have := q3 h; omega
  · have := q4 (by omega); omega
theorem nu_ne {w u : Int} (hb : bears R w u) (hn : ¬ (w = 0 ∧ u = 0)) : nu w u ≠ 0 := by
  have b2 := hb.2.1
  unfold nu
  omega
/-- how far brakes gD to rest, by jerk -/
def farF (R : Int) : Nat → Int → Int → Int
  | 0, _, _ => 0
  | f + 1, w, u => if w = 0 ∧ u = 0 then 0 else (w + (u + brk R w u)) + farF R f (w + (u + brk R w u)) (u + brk R w u)
theorem farF_rest (R : Int) (f : Nat) : farF R f 0 0 = 0 := by
  cases f with
  | zero => rfl
  | succ f => rw [farF, if_pos ⟨rfl, rfl⟩]
theorem farF_eq (hR : 1 ≤ R) : ∀ (f g : Nat) (w u : Int), bears R w u → u ≤ 12 → nu w u < f → nu w u < g → farF R f w u = farF R g w u
  | f + 1, g + 1, w, u, hb, hu, hf, hg => by
    by_cases hn : w = 0 ∧ u = 0
    · rw [farF, farF, if_pos hn, if_pos hn]
    · rw [farF, farF, if_neg hn, if_neg hn]
      obtain ⟨q1, -, -, -⟩ := brk_ok hR hb hn
      have hu2 := brk_u hR hb hn
      rcases nu_dec hR hb hu hn with h | h
      · rw [h.1, h.2, farF_rest, farF_rest]
      · rw [farF_eq hR f g _ _ q1 (by omega) (by omega) (by omega)]
def far (R w u : Int) : Int := farF R 1000 w u
theorem far_rest (R : Int) : far R 0 0 = 0 := farF_rest R 1000
theorem far_st {w u : Int} (hR : 1 ≤ R) (hb : bears R w u) (hu : u ≤ 12) (hw : w ≤ 300) (hn : ¬ (w = 0 ∧ u = 0)) : far R w u = (w + (u + brk R w u)) + far R (w + (u + brk R w u)) (u + brk R w u) := by
  have h1 : nu w u < 1000 := by unfold nu; omega
  unfold far
  rw [farF, if_neg hn]
  obtain ⟨q1, -, -, -⟩ := brk_ok hR hb hn
  have hu2 := brk_u hR hb hn
  rcases nu_dec hR hb hu hn with h | h
  · rw [h.1, h.2, farF_rest, farF_rest]
  · rw [farF_eq hR 999 1000 _ _ q1 (by omega) (by omega) (by omega)]
theorem farF_bd (hR : 1 ≤ R) : ∀ (f : Nat) (w u : Int), bears R w u → u ≤ 12 → w + 12 * max u 0 ≤ 300 → 0 ≤ farF R f w u ∧ farF R f w u ≤ 300 * f
  | 0, w, u, _, _, _ => by
    show (0 : Int) ≤ 0 ∧ (0 : Int) ≤ _
    omega
  | f + 1, w, u, hb, hu, hw => by
    rw [farF]
    by_cases hn : w = 0 ∧ u = 0
    · rw [if_pos hn]; omega
    · rw [if_neg hn]
      obtain ⟨q1, q2, q3, q4⟩ := brk_ok hR hb hn
      have hu2 := brk_u hR hb hn
      have hm := brk_m hR hb hu hn
      have c2 := q1.2.1
      have b2 := hb.2.1
      have ih := farF_bd hR f _ _ q1 (by omega) (by omega)
      omega
theorem far_bd {w u : Int} (hR : 1 ≤ R) (hb : bears R w u) (hu : u ≤ 12) (hw : w ≤ 150) : 0 ≤ far R w u ∧ far R w u ≤ 300000 := by
  have := farF_bd hR 1000 w u hb hu (by omega)
  unfold far
  omega
/-! what may be gone -/
def Bear (e lim pc : Int → Int) (N s t v : Int) : Prop := ∀ b, blk e N s ≤ b → b ≤ blk e N t → v ≤ lim b ∧ (b < blk e N t → v ≤ pc b)
def May (N J R : Int) (e lim pc : Int → Int) (s w u j : Int) : Prop := u + j ≤ R ∧ bears R (w + (u + j)) (u + j) ∧ s + (w + (u + j)) * J ≤ AL N e ∧ Bear e lim pc N s (s + (w + (u + j)) * J) (w + (u + j))
def SafeF (N J R : Int) (e lim pc : Int → Int) : Nat → Int → Int → Int → Prop
  | 0, _, _, _ => False
  | f + 1, s, w, u => (w = 0 ∧ u = 0) ∨ (¬ (w = 0 ∧ u = 0) ∧ May N J R e lim pc s w u (brk R w u) ∧ SafeF N J R e lim pc f (s + (w + (u + brk R w u)) * J) (w + (u + brk R w u)) (u + brk R w u))
theorem SafeF_eq (hR : 1 ≤ R) : ∀ (f g : Nat) (s w u : Int), bears R w u → u ≤ 12 → nu w u < f → nu w u < g → (SafeF N J R e lim pc f s w u ↔ SafeF N J R e lim pc g s w u)
  | f + 1, g + 1, s, w, u, hb, hu, hf, hg => by
    by_cases hn : w = 0 ∧ u = 0
    · rw [SafeF, SafeF]
      exact ⟨fun _ => Or.inl hn, fun _ => Or.inl hn⟩
    · rw [SafeF, SafeF]
      obtain ⟨q1, -, -, -⟩ := brk_ok hR hb hn
      have hu2 := brk_u hR hb hn
      have key : SafeF N J R e lim pc f (s + (w + (u + brk R w u)) * J) (w + (u + brk R w u)) (u + brk R w u) ↔ SafeF N J R e lim pc g (s + (w + (u + brk R w u)) * J) (w + (u + brk R w u)) (u + brk R w u) := by
        have hz := nu_ne hb hn
        rcases nu_dec hR hb hu hn with h | h
        · obtain ⟨f', rfl⟩ : ∃ f', f = f' + 1 := ⟨f - 1, by omega⟩
          obtain ⟨g', rfl⟩ : ∃ g', g = g' + 1 := ⟨g - 1, by omega⟩
          rw [SafeF, SafeF]
          exact ⟨fun _ => Or.inl h, fun _ => Or.inl h⟩
        · exact SafeF_eq hR f g _ _ _ q1 (by omega) (by omega) (by omega)
      constructor
      · rintro (h | ⟨h1, h2, h3⟩)
        · exact Or.inl h
        · exact Or.inr ⟨h1, h2, key.mp h3⟩
      · rintro (h | ⟨h1, h2, h3⟩)
        · exact Or.inl h
        · exact Or.inr ⟨h1, h2, key.mpr h3⟩
end
