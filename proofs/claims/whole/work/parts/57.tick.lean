/-! A TICK, in plain numbers. -/
section
variable {N J R : Int} {e lim pc : Int → Int}
def Fit (N J R : Int) (e lim pc : Int → Int) (s w u j : Int) : Prop := May N J R e lim pc s w u j ∧ SafeF N J R e lim pc 1000 (s + (w + (u + j)) * J) (w + (u + j)) (u + j)
def goS (J s w u j : Int) : Int × Int × Int × Int := (s + (w + (u + j)) * J, w + (u + j), u + j, j)
noncomputable def tickS (N J R : Int) (e lim pc : Int → Int) (held : Prop) (s w u : Int) : Int × Int × Int × Int :=
  ci ((w = 0 ∧ u = 0) ∧ (held ∨ s = AL N e)) (s, w, u, 0) (ci held (goS J s w u (brk R w u)) (ci (w = 0 ∧ u = 0) (ci (Fit N J R e lim pc s w u 1) (goS J s w u 1) (ci (AL N e - s < 2 * J) (AL N e, w, u, 0) (s, w, u, 0))) (ci (Fit N J R e lim pc s w u 1) (goS J s w u 1) (ci (Fit N J R e lim pc s w u 0) (goS J s w u 0) (ci (Fit N J R e lim pc s w u (-1)) (goS J s w u (-1)) (goS J s w u (brk R w u)))))))
/-- what is always true of a ride -/
def RS (N J R : Int) (e : Int → Int) (s w u : Int) : Prop := bears R w u ∧ u ≤ R ∧ w ≤ 100 ∧ pk w u 100 ∧ 0 ≤ s ∧ s + far R w u * J ≤ AL N e ∧ (0 < N ∨ (w = 0 ∧ u = 0))
theorem RS.le (E : EnvOK N J R e lim pc) {s w u : Int} (h : RS N J R e s w u) : s ≤ AL N e := by
  obtain ⟨b, hu, hw, -, -, h2, -⟩ := h
  have h1 := (far_bd E.2.2.1.1 b (by have := E.2.2.1.2; omega) (by omega)).1
  have := Int.mul_nonneg h1 (show 0 ≤ J by have := E.2.1; omega)
  omega
theorem AL_bd (E : EnvOK N J R e lim pc) : 0 ≤ AL N e ∧ AL N e ≤ 22170240 := by
  unfold AL
  split
  · omega
  · have := (E.2.2.2.1 (N - 1) (by omega) (by omega))
    omega
theorem pk_st {w u l : Int} (hl : w + (u - 1) ≤ l) (h : pk (w + (u - 1)) (u - 1) l) (hu : 1 ≤ u) : pk w u l := by
  have t1 := tri_m (u - 1)
  rw [Int.sub_add_cancel] at t1
  unfold pk at *
  right
  rcases h with h | h
  · have : u = 1 := by omega
    subst this
    have e0 : (1 - 1 : Int) * 1 = 0 := rfl
    rw [e0]
    omega
  · generalize (u - 1) * u = X at *
    generalize (u - 1 - 1) * (u - 1) = Y at *
    omega
theorem pk_dn {w u l : Int} (h : pk w u l) (hu : 1 ≤ u) : pk (w + (u - 1)) (u - 1) l ∧ w + (u - 1) ≤ l := by
  have t1 := tri_m (u - 1)
  rw [Int.sub_add_cancel] at t1
  have t4 := tri_0 (u - 1 - 1)
  rw [Int.sub_add_cancel] at t4
  unfold pk at *
  generalize (u - 1) * u = X at *
  generalize (u - 1 - 1) * (u - 1) = Y at *
  omega
theorem bear_lim (E : EnvOK N J R e lim pc) (hN : 0 < N) {s t v : Int} (hst : s ≤ t) (h : Bear e lim pc N s t v) : v ≤ lim (blk e N s) ∧ v ≤ lim (blk e N t) ∧ v ≤ 100 := by
  have h1 := blk_mono E hN hst
  have a1 := (h (blk e N s) (Int.le_refl _) h1).1
  have b1 := (h (blk e N t) h1 (Int.le_refl _)).1
  have := (E.2.2.2.2.1 (blk e N s) (blk_ok E hN).1.1 (blk_ok E hN).1.2).2
  exact ⟨a1, b1, by omega⟩
theorem safe_pk (E : EnvOK N J R e lim pc) (hN : 0 < N) : ∀ (f : Nat) (s w u : Int), bears R w u → u ≤ R → SafeF N J R e lim pc f s w u → pk w u 100
  | f + 1, s, w, u, hb, hu, hS => by
    have hR := E.2.2.1.1
    have hJ := E.2.1
    rw [SafeF] at hS
    rcases hS with h | ⟨hn, hM, h3⟩
    · exact Or.inl (by omega)
    · obtain ⟨q1, q2, q3, q4⟩ := brk_ok hR hb hn
      have hu2 := brk_u hR hb hn
      by_cases hu1 : 1 ≤ u
      · have e1 := q3 hu1
        rw [e1] at hM h3 q1
        have e2 : u + -1 = u - 1 := by omega
        obtain ⟨-, -, -, hB⟩ := hM
        rw [e2] at hB h3 q1
        have c2 := q1.2.1
        have hm2 : 0 ≤ (w + (u - 1)) * J := Int.mul_nonneg c2 (by omega)
        exact pk_st (bear_lim E hN (by omega) hB).2.2 (safe_pk E hN f _ _ _ q1 (by omega) h3) hu1
      · exact Or.inl (by omega)
theorem RS_go (E : EnvOK N J R e lim pc) {s w u j : Int} (h : RS N J R e s w u) (hN : 0 < N) (hF : Fit N J R e lim pc s w u j) : RS N J R e (s + (w + (u + j)) * J) (w + (u + j)) (u + j) := by
  have hR := E.2.2.1
  have hJ := E.2.1
  obtain ⟨⟨m1, m2, m3, m4⟩, hS⟩ := hF
  have c2 := m2.2.1
  have hm2 : 0 ≤ (w + (u + j)) * J := Int.mul_nonneg c2 (by omega)
  have hl := (bear_lim E hN (by omega) m4).2.2
  refine ⟨m2, m1, hl, safe_pk E hN 1000 _ _ _ m2 m1 hS, ?_, safe_end E 1000 _ _ _ m2 (by omega) (by omega) m3 hS, Or.inl hN⟩
  have := h.2.2.2.2.1
  omega
theorem RS_brk (E : EnvOK N J R e lim pc) {s w u : Int} (h : RS N J R e s w u) (hn : ¬ (w = 0 ∧ u = 0)) : RS N J R e (s + (w + (u + brk R w u)) * J) (w + (u + brk R w u)) (u + brk R w u) := by
  have hR := E.2.2.1
  have hJ := E.2.1
  obtain ⟨b, hu, hw, hp, h0, h2, h3⟩ := h
  obtain ⟨q1, q2, q3, q4⟩ := brk_ok hR.1 b hn
  have hu2 := brk_u hR.1 b hn
  have c2 := q1.2.1
  have hm2 : 0 ≤ (w + (u + brk R w u)) * J := Int.mul_nonneg c2 (by omega)
  have hf := far_st hR.1 b (by omega) (by omega) hn
  rw [hf, Int.add_mul] at h2
  refine ⟨q1, by have := b.1; omega, ?_, ?_, by omega, by omega, h3.imp id (fun z => absurd z hn)⟩
  · by_cases hu1 : 1 ≤ u
    · have := (pk_dn hp hu1).2
      have := q3 hu1
      omega
    · have := (q4 (by omega)).2
      omega
  · by_cases hu1 : 1 ≤ u
    · have e1 := q3 hu1
      rw [e1]
      exact (pk_dn hp hu1).1
    · exact Or.inl (by have := (q4 (by omega)).1; omega)
theorem RS_at {s : Int} (hR : 1 ≤ R) (h0 : 0 ≤ s) (h1 : s ≤ AL N e) : RS N J R e s 0 0 :=
  ⟨⟨by omega, by omega, Or.inl (by omega)⟩, by omega, by omega, Or.inl (by omega), h0, by rw [far_rest]; omega, Or.inr ⟨rfl, rfl⟩⟩
theorem RS_tick (E : EnvOK N J R e lim pc) {held : Prop} {s w u : Int} (h : RS N J R e s w u) : RS N J R e (tickS N J R e lim pc held s w u).1 (tickS N J R e lim pc held s w u).2.1 (tickS N J R e lim pc held s w u).2.2.1 := by
  unfold tickS
  by_cases c1 : (w = 0 ∧ u = 0) ∧ (held ∨ s = AL N e)
  · rw [ci_t c1]; exact h
  · rw [ci_f c1]
    by_cases c2 : held
    · have hn : ¬ (w = 0 ∧ u = 0) := fun z => c1 ⟨z, Or.inl c2⟩
      rw [ci_t c2]; exact RS_brk E h hn
    · rw [ci_f c2]
      have hle := h.le E
      have hA := AL_bd E
      have hN : 0 < N := by
        rcases h.2.2.2.2.2.2 with hN | hN
        · exact hN
        · by_cases h9 : 0 < N
          · exact h9
          · have h0 := h.2.2.2.2.1
            have : AL N e = 0 := if_pos (by omega)
            exact absurd ⟨hN, Or.inr (by omega)⟩ c1
      by_cases c3 : w = 0 ∧ u = 0
      · rw [ci_t c3]
        by_cases c4 : Fit N J R e lim pc s w u 1
        · rw [ci_t c4]; exact RS_go E h hN c4
        · rw [ci_f c4]
          by_cases c5 : AL N e - s < 2 * J
          · rw [ci_t c5, c3.1, c3.2]
            exact RS_at E.2.2.1.1 hA.1 (Int.le_refl _)
          · rw [ci_f c5]; exact h
      · rw [ci_f c3]
        by_cases c4 : Fit N J R e lim pc s w u 1
        · rw [ci_t c4]; exact RS_go E h hN c4
        · rw [ci_f c4]
          by_cases c5 : Fit N J R e lim pc s w u 0
          · rw [ci_t c5]; exact RS_go E h hN c5
          · rw [ci_f c5]
            by_cases c6 : Fit N J R e lim pc s w u (-1)
            · rw [ci_t c6]; exact RS_go E h hN c6
            · rw [ci_f c6]; exact RS_brk E h c3
end
