/-! SAFE, in plain numbers: what the class's short ways answer. -/
section
variable {N J R : Int} {e lim pc : Int → Int}
theorem bears_hi {w u : Int} (hb : bears R w u) : 0 ≤ w := hb.2.1
/-- if it is safe, brakes end at the end at most -/
theorem safe_end (E : EnvOK N J R e lim pc) : ∀ (f : Nat) (s w u : Int), bears R w u → u ≤ 12 → w + 12 * max u 0 ≤ 300 → s ≤ AL N e → SafeF N J R e lim pc f s w u → s + far R w u * J ≤ AL N e
  | f + 1, s, w, u, hb, hu, hw, hs, hS => by
    have hR := E.2.2.1.1
    rw [SafeF] at hS
    rcases hS with h | ⟨h1, h2, h3⟩
    · rw [h.1, h.2, far_rest]
      omega
    · obtain ⟨q1, q2, q3, q4⟩ := brk_ok hR hb h1
      have hu2 := brk_u hR hb h1
      have hm := brk_m hR hb hu h1
      have c2 := q1.2.1
      have b2 := hb.2.1
      have ih := safe_end E f _ _ _ q1 (by omega) (by omega) h2.2.2.1 h3
      rw [far_st hR hb hu (by omega) h1, Int.add_mul]
      omega
/-- where brakes stay in one block -/
theorem bear_one (E : EnvOK N J R e lim pc) (hN : 0 < N) {s t v : Int} (hst : s ≤ t) (hc : blk e N s = N - 1 ∨ t < e (blk e N s)) : blk e N t = blk e N s ∧ (Bear e lim pc N s t v ↔ v ≤ lim (blk e N s)) := by
  obtain ⟨a1, a2, a3⟩ := blk_ok E (s := s) hN
  have hb : blk e N t = blk e N s := by
    refine blk_uq E a1.1 a1.2 ?_ ?_
    · rcases a2 with h | h
      · exact Or.inl h
      · exact Or.inr (by omega)
    · rcases hc with h | h
      · exact Or.inr h
      · exact Or.inl h
  refine ⟨hb, ?_⟩
  unfold Bear
  rw [hb]
  constructor
  · intro h
    exact (h _ (Int.le_refl _) (Int.le_refl _)).1
  · intro h b b0 b1
    have : b = blk e N s := by omega
    subst this
    exact ⟨h, fun z => absurd z (by omega)⟩
def pk (w u l : Int) : Prop := u ≤ 0 ∨ 2 * w + (u - 1) * u ≤ 2 * l
theorem safe_one (E : EnvOK N J R e lim pc) (hN : 0 < N) : ∀ (f : Nat) (s w u : Int), bears R w u → u ≤ R → w + 12 * max u 0 ≤ 300 → nu w u < f → s + far R w u * J ≤ AL N e → (blk e N s = N - 1 ∨ s + far R w u * J < e (blk e N s)) → (u ≤ 0 → w ≤ lim (blk e N s)) → (SafeF N J R e lim pc f s w u ↔ pk w u (lim (blk e N s)))
  | f + 1, s, w, u, hb, hu, hw, hf, hA, hc, hl => by
    have hR := E.2.2.1.1
    have hR2 := E.2.2.1.2
    have hJ := E.2.1
    rw [SafeF]
    by_cases hn : w = 0 ∧ u = 0
    · exact ⟨fun _ => Or.inl (by omega), fun _ => Or.inl hn⟩
    · obtain ⟨q1, q2, q3, q4⟩ := brk_ok hR hb hn
      have hu2 := brk_u hR hb hn
      have hnu := nu_dec hR hb (by omega) hn
      have c2 := q1.2.1
      have b2 := hb.2.1
      have hfs := far_st hR hb (by omega) (by omega) hn
      have hmu : w + (u + brk R w u) + 12 * max (u + brk R w u) 0 ≤ 300 := Int.le_trans (brk_m hR hb (by omega) hn) hw
      have hfb := farF_bd hR 1000 _ _ q1 (by omega) hmu
      have hfb1 : 0 ≤ far R (w + (u + brk R w u)) (u + brk R w u) := hfb.1
      have hm1 : 0 ≤ far R (w + (u + brk R w u)) (u + brk R w u) * J := Int.mul_nonneg hfb1 (by omega)
      have hm2 : 0 ≤ (w + (u + brk R w u)) * J := Int.mul_nonneg c2 (by omega)
      rw [hfs, Int.add_mul] at hA hc
      generalize hv : w + (u + brk R w u) = v at *
      generalize hg : u + brk R w u = g at *
      have hone := bear_one E hN (s := s) (t := s + v * J) (v := v) (by omega) (by rcases hc with h | h; exact Or.inl h; exact Or.inr (by omega))
      have hMay : May N J R e lim pc s w u (brk R w u) ↔ v ≤ lim (blk e N s) := by
        unfold May
        rw [hg, hv]
        exact ⟨fun h => hone.2.mp h.2.2.2, fun h => ⟨by omega, q1, by omega, hone.2.mpr h⟩⟩
      have hl1 := (E.2.2.2.2.1 (blk e N s) (blk_ok E hN).1.1 (blk_ok E hN).1.2).1
      have t1 := tri_m (u - 1)
      rw [Int.sub_add_cancel] at t1
      have t4 := tri_0 (u - 1 - 1)
      rw [Int.sub_add_cancel] at t4
      have t7 : u ≠ 1 ∨ (u - 1) * u = 0 := by
        by_cases z : u = 1
        · right; rw [z]; rfl
        · exact Or.inl z
      by_cases hM : v ≤ lim (blk e N s)
      · have hone1 := hone.1
        have ih := safe_one E hN f (s + v * J) v g q1 (by omega) hmu (by
          rcases hnu with h | h
          · rw [h.1, h.2]
            have h0 := nu_ne hb hn
            show (0 : Nat) < f
            omega
          · omega) (by omega) (by rw [hone1]; rcases hc with h | h; exact Or.inl h; exact Or.inr (by omega)) (fun _ => by rw [hone1]; exact hM)
        rw [hone1] at ih
        have hpk : pk v g (lim (blk e N s)) ↔ pk w u (lim (blk e N s)) := by
          unfold pk
          by_cases hu1 : 1 ≤ u
          · have := q3 hu1
            have eg : g = u - 1 := by omega
            rw [eg]
            generalize (u - 1) * u = X at *
            generalize (u - 1 - 1) * (u - 1) = Y at *
            omega
          · have := (q4 (by omega)).1
            exact ⟨fun _ => Or.inl (by omega), fun _ => Or.inl (by omega)⟩
        rw [← hpk, ← ih]
        constructor
        · rintro (h | ⟨-, -, h⟩)
          · exact absurd h hn
          · exact h
        · intro h
          exact Or.inr ⟨hn, hMay.mpr hM, h⟩
      · constructor
        · rintro (h | ⟨-, h, -⟩)
          · exact absurd h hn
          · exact absurd (hMay.mp h) hM
        · intro h
          exfalso
          unfold pk at h
          by_cases hu1 : 1 ≤ u
          · have := q3 hu1
            generalize (u - 1) * u = X at *
            generalize (u - 1 - 1) * (u - 1) = Y at *
            omega
          · have h5 := hl (by omega)
            have h6 := (q4 (by omega)).2
            omega
end
