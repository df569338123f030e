/-! ACTS, in both programs. -/
section
variable {m m' h h' : Hp} {n : Nat}
theorem laysFrom_m {r : Int} (r0 : 0 ≤ r) (r1 : r + 5 < 120) (h4 : m 138 (r + 4) = 0 ∨ m 138 (r + 4) = 1) : ∃ m', MX12_laysFrom r m = some m' ∧ (∀ c, c ≠ 113 → m' c = m c) ∧ (∀ i, (i < 42 ∨ 47 < i) → m' 113 i = m 113 i) ∧ m' 113 42 = m 138 r ∧ m' 113 43 = m 138 (r + 1) ∧ m' 113 44 = m 138 (r + 2) ∧ m' 113 45 = m 138 (r + 3) ∧ m' 113 47 = m 138 (r + 4) ∧ m' 113 46 = m 138 (r + 5) := by
  have g : ∀ i v, ∀ k : Hp, up k 113 i v 138 = k 138 := fun i v k => up_ne (by decide)
  refine ⟨up (up (up (up (up (up m 113 42 (m 138 r)) 113 43 (m 138 (r + 1))) 113 44 (m 138 (r + 2))) 113 45 (m 138 (r + 3))) 113 47 (m 138 (r + 4))) 113 46 (m 138 (r + 5)), ?_, fun c hc => by rw [up_ne hc, up_ne hc, up_ne hc, up_ne hc, up_ne hc, up_ne hc], fun i hi => by rw [up_i (by omega), up_i (by omega), up_i (by omega), up_i (by omega), up_i (by omega), up_i (by omega)], ?_, ?_, ?_, ?_, ?_, ?_⟩
  · have J : ∀ z : Int, z = 0 ∨ z = 1 → ∀ k : Hp, k 138 = m 138 → JX12_laysFrom_49 r z k = some (up (up k 113 47 z) 113 46 (m 138 (r + 5))) := fun z hz k ek => by
      unfold JX12_laysFrom_49
      rw [grd_t hz, ltt_e, w32_i (x := r + 5) (by omega), alen980, grd_t (by omega), g, ek, ltt_e]
    unfold MX12_laysFrom
    rw [w32_i (x := r + 1) (by omega), w32_i (x := r + 2) (by omega), w32_i (x := r + 3) (by omega), w32_i (x := r + 4) (by omega), alen980, grd_t (by omega), ltt_e, grd_t (by omega), g, ltt_e, grd_t (by omega), g, g, ltt_e, grd_t (by omega), g, g, g, ltt_e, grd_t (by omega), g, g, g, g]
    rcases h4 with q | q
    · rw [if_pos (by rw [q]; decide), J 0 (Or.inl rfl) _ (by rw [g, g, g, g]), q]
    · rw [if_neg (by rw [q]; decide), J 1 (Or.inr rfl) _ (by rw [g, g, g, g]), q]
  · rw [up_i (by decide), up_i (by decide), up_i (by decide), up_i (by decide), up_i (by decide), up_at]
  · rw [up_i (by decide), up_i (by decide), up_i (by decide), up_i (by decide), up_at]
  · rw [up_i (by decide), up_i (by decide), up_i (by decide), up_at]
  · rw [up_i (by decide), up_i (by decide), up_at]
  · rw [up_i (by decide), up_at]
  · rw [up_at]
/-- what was is noted -/
theorem noted (hn : 200 ≤ n) (I : Inv2 m h) : ∃ h1 m1, MX5_note 64 h = some h1 ∧ MX12_remembers n m = some m1 ∧ NTc h h1 ∧ NTm m m1 ∧ CRg m1 h1 ∧ MRg m1 := by
  have N := I.nw
  have L := I.mnw
  have R := I.rg
  have M := I.mrg
  obtain ⟨h1, e1, a⟩ := note_c (h := h) R.2.1 (by rw [R.1]; exact M.1) (by rw [N.2.2.1]; exact L.2.1)
  obtain ⟨m1, e2, b⟩ := remembers_m (m := m) hn M.1 L.2.1
  obtain ⟨c1, c2⟩ := ring_nt R M N L a b
  exact ⟨h1, m1, e1, e2, a, b, c1, c2⟩
theorem NTc.lo (a : NTc h h') (hr : 0 ≤ h 66 1 ∧ h 66 1 < 20) {c : Int} (hc : c < 66 ∨ c = 67 ∨ 87 < c) : h' c = h c := a.1 c (by omega) (by omega)
/-- an act behind a note, that lays the state in one field -/
theorem held_a (I : Inv2 m h) {h1 m1 : Hp} {x : Int} (hx : x = 0 ∨ x = 1) (a : NTc h h1) (b : NTm m m1) (C : CRg m1 h1) (M : MRg m1) : Inv2 (up m1 113 47 x) (up h1 64 5 x) := by
  have R := I.rg.2.1
  have e1 := b.p
  have e : pg (up m1 113 47 x) = pg m1 := pg_of (up_i (by decide)) (up_i (by decide)) (up_i (by decide)) (up_ne (by decide)) (up_ne (by decide)) (up_ne (by decide)) (up_ne (by decide)) (up_ne (by decide)) (up_ne (by decide))
  have lo : ∀ c, c < 66 ∨ c = 67 ∨ 87 < c → c ≠ 64 → up h1 64 5 x c = h c := fun c c0 c1 => by rw [up_ne c1, a.lo R c0]
  have mo : ∀ c, c ≠ 113 → c ≠ 138 → up m1 113 47 x c = m c := fun c c0 c1 => by rw [up_ne c0, b.1 c c0 c1]
  have mf : ∀ i, i ≠ 54 → i ≠ 47 → up m1 113 47 x 113 i = m 113 i := fun i i0 i1 => by rw [up_i i1, b.2.1 i i0]
  have h64 : h1 64 = h 64 := a.lo R (by decide)
  have w := I.w
  refine I.act (e.trans e1) (mo _ (by decide) (by decide)) (mo _ (by decide) (by decide)) (mo _ (by decide) (by decide)) (mf _ (by decide) (by decide)) (fun c _ c1 c2 => lo c (by omega) (by omega)) ?_ ?_ (I.mmg.mv (e.trans e1) (mo _ (by decide) (by decide)) (mo _ (by decide) (by decide))) ?_ ?_ ?_ ?_
  · have L := I.mnw
    refine ⟨by rw [mf 45 (by decide) (by decide)]; exact L.1, by rw [up_at]; exact hx, ?_⟩
    rw [mf 42 (by decide) (by decide), mf 43 (by decide) (by decide), mf 44 (by decide) (by decide)]
    exact pg_rst (e.trans e1) L.2.2
  · exact M.mv e (up_i (by decide)) (up_ne (by decide))
  · exact I.dr.mv w.1 (e.trans e1) (mf 45 (by decide) (by decide)) (by rw [lo 0 (by decide) (by decide)]) (fun c _ _ => lo c (by omega) (by omega)) (fun c _ _ _ => lo c (by omega) (by omega)) (I.f5.mv (lo _ (by decide) (by decide)))
  · have N := I.nw
    unfold CNw at N ⊢
    rw [mf 42 (by decide) (by decide), mf 43 (by decide) (by decide), mf 44 (by decide) (by decide), mf 45 (by decide) (by decide), mf 46 (by decide) (by decide), up_at, up_at, up_i (a := 64) (j := 4) (by decide), up_i (a := 64) (j := 6) (by decide), h64]
    refine ⟨?_, N.2.1, rfl, N.2.2.2⟩
    have N1 := pg_cr (e.trans e1) N.1
    unfold CR at N1 ⊢
    rw [up_i (by decide), up_i (by decide), up_i (by decide), up_i (by decide), h64]
    exact N1
  · exact C.mv e (up_i (by decide)) (up_ne (by decide)) (fun c _ _ => up_ne (by omega))
  · exact I.mg.mv (e.trans e1) (mo _ (by decide) (by decide)) (mo _ (by decide) (by decide)) (fun c _ _ => lo c (by omega) (by omega))
theorem q_hold (hn : 200 ≤ n) : Two MX11_hold (MX12_hold n) := fun m h I => by
  obtain ⟨h1, m1, e1, e2, a, b, C, M⟩ := noted hn I
  have N := I.nw.2.2.1
  have R := I.rg.2.1
  unfold MX11_hold MX12_hold
  rw [N]
  by_cases hz : m 113 47 = 0
  · rw [if_pos hz, if_pos hz, e1, bndh_s, e2, bndh_s, ltt_e, ltt_e]
    exact ⟨_, _, _, rfl, rfl, fun c c0 => by rw [up_ne (by omega), a.lo R (by omega)], fun c c0 => by rw [up_ne (by omega), b.1 c (by omega) (by omega)], held_a I (Or.inr rfl) a b C M⟩
  · rw [if_neg hz, if_neg hz]
    exact ⟨_, _, _, rfl, rfl, fun _ _ => rfl, fun _ _ => rfl, I⟩
theorem q_letGo (hn : 200 ≤ n) : Two MX11_letGo (MX12_letGo n) := fun m h I => by
  obtain ⟨h1, m1, e1, e2, a, b, C, M⟩ := noted hn I
  have N := I.nw.2.2.1
  have R := I.rg.2.1
  unfold MX11_letGo MX12_letGo
  rw [N]
  by_cases hz : m 113 47 = 0
  · rw [if_neg (not_not_intro hz), if_neg (not_not_intro hz)]
    exact ⟨_, _, _, rfl, rfl, fun _ _ => rfl, fun _ _ => rfl, I⟩
  · rw [if_pos hz, if_pos hz, e1, bndh_s, e2, bndh_s, ltt_e, ltt_e]
    exact ⟨_, _, _, rfl, rfl, fun c c0 => by rw [up_ne (by omega), a.lo R (by omega)], fun c c0 => by rw [up_ne (by omega), b.1 c (by omega) (by omega)], held_a I (Or.inl rfl) a b C M⟩
end
