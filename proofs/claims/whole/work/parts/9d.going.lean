/-! A MOVE'S POINTS: beyond all, and how many go anywhere. -/
abbrev PF := Int → Int
abbrev beyP (px py pz : PF) (i : Int) : Prop := ¬ far_ (px i) ∨ ¬ far_ (py i) ∨ ¬ far_ (pz i)
abbrev chg (px py pz : PF) (i : Int) : Prop := px i ≠ px (i - 1) ∨ py i ≠ py (i - 1) ∨ pz i ≠ pz (i - 1)
def gN (px py pz : PF) : Nat → Int
  | 0 => 0
  | k + 1 => gN px py pz k + (if chg px py pz ((k : Int) + 1) then 1 else 0)
theorem gN_s {px py pz : PF} {k : Nat} : gN px py pz (k + 1) = gN px py pz k + (if chg px py pz ((k : Int) + 1) then 1 else 0) := rfl
theorem gN_b {px py pz : PF} : ∀ k : Nat, 0 ≤ gN px py pz k ∧ gN px py pz k ≤ k
  | 0 => ⟨Int.le_refl _, Int.le_refl _⟩
  | k + 1 => by
    have := gN_b (px := px) (py := py) (pz := pz) k
    rw [gN_s]
    split <;> omega
theorem gN_m {px py pz : PF} : ∀ d k : Nat, gN px py pz k ≤ gN px py pz (k + d)
  | 0, k => Int.le_refl _
  | d + 1, k => by
    have := gN_m (px := px) (py := py) (pz := pz) d k
    rw [show k + (d + 1) = (k + d) + 1 by omega, gN_s]
    split <;> omega
section
variable {n : Nat} {px py pz : PF}
/-- the class's points are these -/
def CPt (h : Hp) (c : Int) (px py pz : PF) : Prop := h 30 3 = c ∧ ∀ i, 0 ≤ i → i ≤ c → h 31 i = px i ∧ h 32 i = py i ∧ h 33 i = pz i
theorem goBeyond_l {h : Hp} {c : Int} (hc : c ≤ 32) (C : CPt h c px py pz) : ∀ (r f : Nat) (i : Int), i + r = max i (c + 1) → r < f → 1 ≤ i → BX0_goBeyond_2 n f i h = some (ci (∃ j, i ≤ j ∧ j ≤ c ∧ beyP px py pz j) 1 0)
  | 0, f + 1, i, hi, hf, i1 => by
    rw [BX0_goBeyond_2, C.1, if_pos (by omega), ci_f (fun q => by
      obtain ⟨j, j0, j1, -⟩ := q
      omega)]
  | r + 1, f + 1, i, hi, hf, i1 => by
    have a := C.2 i (by omega) (by omega)
    have nx := goBeyond_l hc C r f (i + 1) (by omega) (by omega) (by omega)
    rw [BX0_goBeyond_2, C.1, if_neg (by omega), if_neg (by omega), al284, grd_t (by omega), grd_t (by omega), grd_t (by omega), a.1, a.2.1, a.2.2, beyond_c, bndp_s, beyond_c, bndp_s, beyond_c, bndp_s, ltt_e, w32_i (x := i + 1) (by omega), nx]
    have st : (∃ j, i ≤ j ∧ j ≤ c ∧ beyP px py pz j) ↔ beyP px py pz i ∨ ∃ j, i + 1 ≤ j ∧ j ≤ c ∧ beyP px py pz j := by
      constructor
      · rintro ⟨j, j0, j1, j2⟩
        by_cases hj : j = i
        · exact Or.inl (hj ▸ j2)
        · exact Or.inr ⟨j, by omega, j1, j2⟩
      · rintro (q | ⟨j, j0, j1, j2⟩)
        · exact ⟨i, Int.le_refl i, by omega, q⟩
        · exact ⟨j, by omega, j1, j2⟩
    by_cases h1 : -100000 ≤ px i ∧ px i ≤ 100000
    · rw [if_pos h1, if_neg (by decide)]
      by_cases h2 : -100000 ≤ py i ∧ py i ≤ 100000
      · rw [if_pos h2, if_neg (by decide)]
        by_cases h3 : -100000 ≤ pz i ∧ pz i ≤ 100000
        · rw [if_pos h3, if_pos rfl]
          congr 1
          exact ci_c (by rw [st]; exact ⟨Or.inr, fun q => q.elim (fun q => q.elim (fun q => absurd h1 q) (fun q => q.elim (fun q => absurd h2 q) (fun q => absurd h3 q))) id⟩)
        · rw [if_neg h3, if_neg (by decide), ci_t (st.mpr (Or.inl (Or.inr (Or.inr h3))))]
      · rw [if_neg h2, if_pos (by decide), ci_t (st.mpr (Or.inl (Or.inr (Or.inl h2))))]
    · rw [if_neg h1, if_pos (by decide), ci_t (st.mpr (Or.inl (Or.inl h1)))]
theorem goBeyond_c (hn : 100 ≤ n) {h : Hp} {c : Int} (hc : c ≤ 32) (C : CPt h c px py pz) : MX0_goBeyond n h = some (ci (∃ j, 1 ≤ j ∧ j ≤ c ∧ beyP px py pz j) 1 0) := by
  unfold MX0_goBeyond LX0_goBeyond_2
  rw [ltt_e]
  exact goBeyond_l hc C c.toNat n 1 (by omega) (by omega) (by decide)
theorem goings_l {h : Hp} {c : Int} (hc : 0 ≤ c ∧ c ≤ 32) (C : CPt h c px py pz) : ∀ (r k f : Nat), (k : Int) + r = c → r < f → BX0_goings_4 n f (gN px py pz k) ((k : Int) + 1) h = some (gN px py pz c.toNat)
  | 0, k, f + 1, hk, hf => by
    rw [BX0_goings_4, C.1, if_pos (by omega), show c.toNat = k by omega]
  | r + 1, k, f + 1, hk, hf => by
    have a := C.2 ((k : Int) + 1) (by omega) (by omega)
    have b := C.2 (k : Int) (by omega) (by omega)
    have g := gN_b (px := px) (py := py) (pz := pz) k
    have nx := goings_l hc C r (k + 1) f (by omega) (by omega)
    rw [BX0_goings_4, C.1, if_neg (by omega), if_neg (by omega), al284, w32_i (x := (k : Int) + 1 - 1) (by omega), Int.add_sub_cancel, grd_t (by omega), grd_t (by omega), grd_t (by omega), grd_t (by omega), grd_t (by omega), grd_t (by omega), a.1, a.2.1, a.2.2, b.1, b.2.1, b.2.2, ltt_e, ltt_e, ltt_e, w32_i (x := (k : Int) + 1 + 1) (by omega), w32_i (x := gN px py pz k + 1) (by omega)]
    rw [gN_s, show ((k + 1 : Nat) : Int) = (k : Int) + 1 by omega] at nx
    have ec : chg px py pz ((k : Int) + 1) ↔ (px ((k : Int) + 1) ≠ px k ∨ py ((k : Int) + 1) ≠ py k ∨ pz ((k : Int) + 1) ≠ pz k) := by
      unfold chg
      rw [Int.add_sub_cancel]
    by_cases h1 : px ((k : Int) + 1) = px k
    · rw [if_neg (fun q => q h1)]
      by_cases h2 : py ((k : Int) + 1) = py k
      · rw [if_neg (fun q => q h2)]
        by_cases h3 : pz ((k : Int) + 1) = pz k
        · rw [if_pos h3]
          rw [if_neg (fun q => (ec.mp q).elim (fun q => q h1) (fun q => q.elim (fun q => q h2) (fun q => q h3))), Int.add_zero] at nx
          exact nx
        · rw [if_neg h3]
          rw [if_pos (ec.mpr (Or.inr (Or.inr h3)))] at nx
          exact nx
      · rw [if_pos h2]
        rw [if_pos (ec.mpr (Or.inr (Or.inl h2)))] at nx
        exact nx
    · rw [if_pos h1]
      rw [if_pos (ec.mpr (Or.inl h1))] at nx
      exact nx
theorem goings_c (hn : 100 ≤ n) {h : Hp} {c : Int} (hc : 0 ≤ c ∧ c ≤ 32) (C : CPt h c px py pz) : MX0_goings n h = some (gN px py pz c.toNat) := by
  unfold MX0_goings LX0_goings_4
  rw [ltt_e, ltt_e]
  exact goings_l hc C c.toNat 0 n (by omega) (by omega)
end
