section
variable {m m' h h' : Hp} {n : Nat}
theorem keepsIn2_m {r : Int} (r0 : 0 ≤ r) (r1 : r + 5 < 18) (h7 : m 113 47 = 0 ∨ m 113 47 = 1) : ∃ m', MX12_keepsIn_v2 r m = some m' ∧ (∀ c, c ≠ 146 → m' c = m c) ∧ (∀ i, (i < r ∨ r + 5 < i) → m' 146 i = m 146 i) ∧ m' 146 r = m 113 42 ∧ m' 146 (r + 1) = m 113 43 ∧ m' 146 (r + 2) = m 113 44 ∧ m' 146 (r + 3) = m 113 45 ∧ m' 146 (r + 4) = m 113 47 ∧ m' 146 (r + 5) = m 113 46 := by
  have g : ∀ i v, ∀ k : Hp, up k 146 i v 113 = k 113 := fun i v k => up_ne (by decide)
  have tr : ∀ x : Int, x = 0 ∨ x = 1 → MX12_truth x = some x := fun x hx => by
    unfold MX12_truth
    rcases hx with q | q <;> subst q
    · rw [if_pos rfl]
    · rw [if_neg (by decide)]
  refine ⟨up (up (up (up (up (up m 146 r (m 113 42)) 146 (r + 1) (m 113 43)) 146 (r + 2) (m 113 44)) 146 (r + 3) (m 113 45)) 146 (r + 4) (m 113 47)) 146 (r + 5) (m 113 46), ?_, fun c hc => by rw [up_ne hc, up_ne hc, up_ne hc, up_ne hc, up_ne hc, up_ne hc], fun i hi => by rw [up_i (by omega), up_i (by omega), up_i (by omega), up_i (by omega), up_i (by omega), up_i (by omega)], ?_, ?_, ?_, ?_, ?_, ?_⟩
  · unfold MX12_keepsIn_v2
    rw [w32_i (x := r + 1) (by omega), w32_i (x := r + 2) (by omega), w32_i (x := r + 3) (by omega), w32_i (x := r + 4) (by omega), w32_i (x := r + 5) (by omega), al164, grd_t (by omega), ltt_e, grd_t (by omega), g, ltt_e, grd_t (by omega), g, g, ltt_e, grd_t (by omega), g, g, g, ltt_e, g, g, g, g, tr _ h7, bndp_s, grd_t (by omega), ltt_e, grd_t (by omega), g, g, g, g, g, ltt_e]
  · rw [up_i (by omega), up_i (by omega), up_i (by omega), up_i (by omega), up_i (by omega), up_at]
  · rw [up_i (by omega), up_i (by omega), up_i (by omega), up_i (by omega), up_at]
  · rw [up_i (by omega), up_i (by omega), up_i (by omega), up_at]
  · rw [up_i (by omega), up_i (by omega), up_at]
  · rw [up_i (by omega), up_at]
  · rw [up_at]
theorem laysFrom2_m {r : Int} (r0 : 0 ≤ r) (r1 : r + 5 < 18) (h4 : m 146 (r + 4) = 0 ∨ m 146 (r + 4) = 1) : ∃ m', MX12_laysFrom_v2 r m = some m' ∧ (∀ c, c ≠ 113 → m' c = m c) ∧ (∀ i, (i < 42 ∨ 47 < i) → m' 113 i = m 113 i) ∧ m' 113 42 = m 146 r ∧ m' 113 43 = m 146 (r + 1) ∧ m' 113 44 = m 146 (r + 2) ∧ m' 113 45 = m 146 (r + 3) ∧ m' 113 47 = m 146 (r + 4) ∧ m' 113 46 = m 146 (r + 5) := by
  have g : ∀ i v, ∀ k : Hp, up k 113 i v 146 = k 146 := fun i v k => up_ne (by decide)
  refine ⟨up (up (up (up (up (up m 113 42 (m 146 r)) 113 43 (m 146 (r + 1))) 113 44 (m 146 (r + 2))) 113 45 (m 146 (r + 3))) 113 47 (m 146 (r + 4))) 113 46 (m 146 (r + 5)), ?_, fun c hc => by rw [up_ne hc, up_ne hc, up_ne hc, up_ne hc, up_ne hc, up_ne hc], fun i hi => by rw [up_i (by omega), up_i (by omega), up_i (by omega), up_i (by omega), up_i (by omega), up_i (by omega)], ?_, ?_, ?_, ?_, ?_, ?_⟩
  · have J : ∀ z : Int, z = 0 ∨ z = 1 → ∀ k : Hp, k 146 = m 146 → JX12_laysFrom_v2_49 r z k = some (up (up k 113 47 z) 113 46 (m 146 (r + 5))) := fun z hz k ek => by
      unfold JX12_laysFrom_v2_49
      rw [grd_t hz, ltt_e, w32_i (x := r + 5) (by omega), al164, grd_t (by omega), g, ek, ltt_e]
    unfold MX12_laysFrom_v2
    rw [w32_i (x := r + 1) (by omega), w32_i (x := r + 2) (by omega), w32_i (x := r + 3) (by omega), w32_i (x := r + 4) (by omega), al164, grd_t (by omega), ltt_e, grd_t (by omega), g, ltt_e, grd_t (by omega), g, g, ltt_e, grd_t (by omega), g, g, g, ltt_e, grd_t (by omega), g, g, g, g]
    rcases h4 with q | q
    · rw [if_pos (by rw [q]; decide), J 0 (Or.inl rfl) _ (by rw [g, g, g, g]), q]
    · rw [if_neg (by rw [q]; decide), J 1 (Or.inr rfl) _ (by rw [g, g, g, g]), q]
  · rw [up_i (by decide), up_i (by decide), up_i (by decide), up_i (by decide), up_i (by decide), up_at]
  · rw [up_i (by decide), up_i (by decide), up_i (by decide), up_i (by decide), up_at]
  · rw [up_i (by decide), up_i (by decide), up_i (by decide), up_at]
  · rw [up_i (by decide), up_i (by decide), up_at]
  · rw [up_i (by decide), up_at]
  · rw [up_at]
theorem q_image (x : Int) : Two (MX11_image x) (MX12_image x) := fun m h I => by
  have N := I.nw
  have L := I.mnw
  have w := I.w
  unfold MX11_image MX12_image
  rw [in_m, bndp_s]
  by_cases h1x : x < 0
  · rw [if_pos h1x, if_neg (c := 0 ≤ x ∧ x ≤ 2) (by omega), if_neg (by decide)]
    exact ⟨_, _, _, rfl, rfl, fun _ _ => rfl, fun _ _ => rfl, I⟩
  rw [if_neg h1x]
  by_cases h2x : x < 3
  · obtain ⟨h1, b1, b2, b3⟩ := become_c (h := h) (x := 89 + x) (y := 64) (by omega) (by rw [N.2.2.1]; exact L.2.1)
    obtain ⟨m1, a1, a2, a3, c0, c1, c2, c3, c4, c5⟩ := keepsIn2_m (m := m) (r := 6 * x) (by omega) (by omega) L.2.1
    have e : pg (up m1 147 x 1) = pg m := pg_of (by rw [up_ne (by decide), a2 113 (by decide)]) (by rw [up_ne (by decide), a2 113 (by decide)]) (by rw [up_ne (by decide), a2 113 (by decide)]) (by rw [up_ne (by decide), a2 _ (by decide)]) (by rw [up_ne (by decide), a2 _ (by decide)]) (by rw [up_ne (by decide), a2 _ (by decide)]) (by rw [up_ne (by decide), a2 _ (by decide)]) (by rw [up_ne (by decide), a2 _ (by decide)]) (by rw [up_ne (by decide), a2 _ (by decide)])
    have mo : ∀ c, c ≠ 146 → c ≠ 147 → up m1 147 x 1 c = m c := fun c c0 c1 => by rw [up_ne c1, a2 c c0]
    have lo : ∀ c, c ≠ 89 + x → c ≠ 92 → up h1 92 x 1 c = h c := fun c c0 c1 => by rw [up_ne c1, b2 c c0]
    have m46 : ∀ i, up m1 147 x 1 146 i = m1 146 i := fun i => up_c (by decide)
    rw [if_pos h2x, if_pos (c := 0 ≤ x ∧ x ≤ 2) (by omega), if_pos (by decide), al48, grd_t (by omega), b1, bndh_s, al46, grd_t (by omega), show (1 % 2 : Int) = 1 by decide, ltt_e, w32_i (x := 6 * x) (by omega), a1, bndh_s, grd_t (by omega), ltt_e, lo 64 (by omega) (by decide), mo 113 (by decide) (by decide), N.1.1]
    refine ⟨_, _, _, rfl, rfl, fun c q => lo c (by omega) (by omega), fun c q => mo c (by omega) (by omega), I.act e (mo _ (by decide) (by decide)) (mo _ (by decide) (by decide)) (mo _ (by decide) (by decide)) (by rw [mo 113 (by decide) (by decide)]) (fun c _ q1 q2 => lo c (by omega) (by omega)) (L.mv e fun i _ _ _ => by rw [mo 113 (by decide) (by decide)]) (I.mrg.mv e (by rw [mo 113 (by decide) (by decide)]) (mo _ (by decide) (by decide))) ?_ (I.dr.mv w.1 e (by rw [mo 113 (by decide) (by decide)]) (by rw [lo 0 (by omega) (by decide)]) (fun c _ _ => lo c (by omega) (by omega)) (fun c _ _ _ => lo c (by omega) (by omega)) (I.f5.mv (lo _ (by omega) (by decide)))) (N.mv e (fun i _ _ => by rw [mo 113 (by decide) (by decide)]) (fun i _ _ => by rw [lo 64 (by omega) (by decide)])) (I.rg.mv e (by rw [mo 113 (by decide) (by decide)]) (mo _ (by decide) (by decide)) (fun c _ _ => lo c (by omega) (by omega))) ?_⟩
    · intro k k0 k1
      by_cases hk : k = x
      · subst hk
        refine ⟨Or.inr up_at, fun _ => ?_⟩
        unfold RWo
        rw [m46, m46, m46, m46, m46, c0, c1, c2, c3, c4]
        exact ⟨pg_rst e L.2.2, L.1, L.2.1⟩
      · rw [up_i (a := 147) hk, a2 147 (by decide)]
        refine ⟨(I.mmg k k0 k1).1, fun q => ((I.mmg k k0 k1).2 q).mv e (fun z z0 z1 => by rw [m46, a3 _ (by omega)])⟩
    · intro k k0 k1
      by_cases hk : k = x
      · subst hk
        refine ⟨by rw [up_at, up_at], fun _ => ?_⟩
        unfold SRo
        rw [m46, m46, m46, m46, m46, m46, c0, c1, c2, c3, c4, c5]
        have N1 := pg_cr e N.1
        unfold CR at N1 ⊢
        rw [up_ne (b := 89 + k) (a := 92) (by omega), b3 0 (by decide) (by decide), b3 1 (by decide) (by decide), b3 2 (by decide) (by decide), b3 3 (by decide) (by decide), b3 4 (by decide) (by decide), b3 5 (by decide) (by decide), b3 6 (by decide) (by decide)]
        exact ⟨N1, N.2⟩
      · rw [up_i (a := 147) hk, a2 147 (by decide), up_i (a := 92) hk, b2 92 (by omega)]
        refine ⟨(I.mg k k0 k1).1, fun q => ((I.mg k k0 k1).2 q).mv e (fun z z0 z1 => by rw [m46, a3 _ (by omega)]) (lo _ (by omega) (by omega))⟩
  · rw [if_neg h2x, if_neg (c := 0 ≤ x ∧ x ≤ 2) (by omega), if_neg (by decide)]
    exact ⟨_, _, _, rfl, rfl, fun _ _ => rfl, fun _ _ => rfl, I⟩
theorem q_back (hn : 100 ≤ n) (x : Int) : Two (MX11_back n x) (MX12_back x) := fun m h I => by
  have N := I.nw
  have R := I.rg
  unfold MX11_back MX12_back
  rw [in_m, bndp_s]
  by_cases h1x : x < 0
  · rw [if_pos h1x, if_neg (c := 0 ≤ x ∧ x ≤ 2) (by omega), if_pos (by decide)]
    exact ⟨_, _, _, rfl, rfl, fun _ _ => rfl, fun _ _ => rfl, I⟩
  rw [if_neg h1x]
  by_cases h2x : 3 ≤ x
  · rw [if_pos h2x, if_neg (c := 0 ≤ x ∧ x ≤ 2) (by omega), if_pos (by decide)]
    exact ⟨_, _, _, rfl, rfl, fun _ _ => rfl, fun _ _ => rfl, I⟩
  rw [if_neg h2x, if_pos (c := 0 ≤ x ∧ x ≤ 2) (by omega), if_neg (c := (1 : Int) = 0) (by decide), al46, al48, grd_t (by omega), grd_t (by omega), grd_t (by omega)]
  obtain ⟨u1, u2⟩ := I.mmg x (by omega) (by omega)
  obtain ⟨v1, v2⟩ := I.mg x (by omega) (by omega)
  rw [v1]
  by_cases hz : m 147 x ≠ 0
  · have hr := u2 (by omega)
    have hs := v2 (by omega)
    obtain ⟨m1, a1, a2, a3, b42, b43, b44, b45, b47, b46⟩ := laysFrom2_m (m := m) (r := 6 * x) (by omega) (by omega) hr.2.2
    have f1 : ∀ c, c ≠ 113 → up m1 113 54 0 c = m c := fun c c0 => by rw [up_ne c0, a2 c c0]
    have f2 : ∀ i, (i < 42 ∨ 47 < i) → i ≠ 54 → up m1 113 54 0 113 i = m 113 i := fun i i0 i1 => by rw [up_i i1, a3 i i0]
    obtain ⟨e, L', h1, e1, g1, z0, z4, N'⟩ := laid hn I (x := 89 + x) (m1 := up m1 113 54 0) (by omega) hr hs f1 f2 (by rw [up_i (by decide), b42]) (by rw [up_i (by decide), b43]) (by rw [up_i (by decide), b44]) (by rw [up_i (by decide), b45]) (by rw [up_i (by decide), b47]) (by rw [up_i (by decide), b46])
    obtain ⟨o, k', q1, q2, q3⟩ := regrant (n := n) (m' := up m1 113 54 0) (k := h1) (x := up m1 113 54 0 113 45) (by omega) I L'.1 e rfl (fun c c0 => g1 c (by omega))
    have ko : ∀ c, c ≠ 64 → c ≠ 66 → c ≠ 52 → c ≠ 53 → up k' 66 2 0 c = h c := fun c c0 c1 c2 c3 => by rw [up_ne c1, q2 c c2 c3, g1 c c0]
    have k64 : up k' 66 2 0 64 = h1 64 := by rw [up_ne (by decide), q2 64 (by decide) (by decide)]
    rw [if_pos hz, if_pos hz, e1, bndh_s, z4, q1, bnd_s]
    unfold MX5_forget
    rw [ltt_e, bndh_s, w32_i (x := 6 * x) (by omega), a1, bndh_s, ltt_e, k64, z0]
    refine ⟨_, _, _, rfl, rfl, fun c c0 => ko c (by omega) (by omega) (by omega) (by omega), fun c c0 => f1 c (by omega), I.act e (f1 _ (by decide)) (f1 _ (by decide)) (f1 _ (by decide)) (f2 _ (by decide) (by decide)) (fun c _ c1 c2 => ko c (by omega) (by omega) (by omega) (by omega)) L' ⟨by rw [up_at]; decide, fun k k0 k1 => by rw [up_at] at k1; omega⟩ (I.mmg.mv e (f1 _ (by decide)) (f1 _ (by decide))) (q3.mv (by rw [q2 0 (by decide) (by decide), g1 0 (by decide)]; exact I.w.1) rfl rfl (by rw [up_ne (by decide)]) (fun c _ c3 => up_ne (by rw [q2 0 (by decide) (by decide), g1 0 (by decide)] at c3; have := I.w.1; omega)) (fun c _ _ _ => up_ne (by omega)) (q3.1.2.2.2.2.2.mv (up_ne (by decide)))) (N'.mv rfl (fun _ _ _ => rfl) (fun i _ _ => by rw [k64])) ⟨by rw [up_at, up_at], by rw [up_i (by decide), q2 66 (by decide) (by decide), g1 66 (by decide)]; exact R.2.1, fun k k0 k1 => by rw [up_at] at k1; omega⟩ (I.mg.mv e (f1 _ (by decide)) (f1 _ (by decide)) (fun c _ _ => ko c (by omega) (by omega) (by omega) (by omega)))⟩
  · rw [if_neg hz, if_neg hz]
    exact ⟨_, _, _, rfl, rfl, fun _ _ => rfl, fun _ _ => rfl, I⟩
theorem q_end (x : Int) : Two (MX11_end x) (MX12_end x) := fun m h I => by
  have w := I.w
  obtain ⟨t1, t2, t3⟩ := I.tp
  unfold MX11_end MX12_end
  rw [t2]
  by_cases h1x : x < 0
  · rw [if_pos h1x, if_pos h1x]
    exact ⟨_, _, _, rfl, rfl, fun _ _ => rfl, fun _ _ => rfl, I⟩
  rw [if_neg h1x, if_neg h1x]
  by_cases h2x : x ≤ h 27 1
  · rw [if_pos h2x, if_pos h2x, ltt_e, ltt_e]
    have e : pg (up m 113 20 x) = pg m := pg_of (up_i (by decide)) (up_i (by decide)) (up_i (by decide)) (up_ne (by decide)) (up_ne (by decide)) (up_ne (by decide)) (up_ne (by decide)) (up_ne (by decide)) (up_ne (by decide))
    have mf : ∀ i, i ≠ 20 → up m 113 20 x 113 i = m 113 i := fun i i0 => up_i i0
    refine ⟨_, _, _, rfl, rfl, fun c c0 => up_ne (by omega), fun c c0 => up_ne (by omega), mkInv2 (pg_wf2 e I.wf) (I.mnw.mv e fun i _ _ _ => mf i (by omega)) (I.mrg.mv e (mf _ (by decide)) (up_ne (by decide))) (I.mmg.mv e (up_ne (by decide)) (up_ne (by decide))) (by rw [up_ne (by decide)]; exact w) (I.dr.mv w.1 e (mf _ (by decide)) (by rw [up_ne (by decide)]) (fun c _ _ => up_ne (by omega)) (fun c _ _ _ => up_ne (by omega)) (I.f5.mv (up_ne (by decide)))) (I.tr.mv (by rw [up_ne (by decide)]) (up_ne (by decide))) (I.nw.mv e (fun i _ _ => mf i (by omega)) (fun i _ _ => by rw [up_ne (by decide)])) (I.rg.mv e (mf _ (by decide)) (up_ne (by decide)) (fun c _ _ => up_ne (by omega))) (I.mg.mv e (up_ne (by decide)) (up_ne (by decide)) (fun c _ _ => up_ne (by omega))) ?_ (I.rk.mv (up_ne (by decide)) (up_ne (by decide)) (fun c _ _ => up_ne (by omega))) (I.rl.mv (up_ne (by decide)) (up_ne (by decide))) ?_⟩
    · rw [up_ne (b := 0) (by decide)]
      exact I.sh.mv2 e (fun c _ _ => up_ne (by omega))
    · unfold TPR
      rw [up_at, up_at, up_ne (b := 127) (by decide), up_ne (b := 28) (by decide)]
      exact ⟨by omega, rfl, fun i i0 i1 => t3 i i0 (by omega)⟩
  · rw [if_neg h2x, if_neg h2x]
    exact ⟨_, _, _, rfl, rfl, fun _ _ => rfl, fun _ _ => rfl, I⟩
end
