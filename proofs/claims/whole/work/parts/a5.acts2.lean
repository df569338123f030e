section
variable {m m' h h' : Hp} {n : Nat}
theorem regrant (hn : 100 ≤ n) (I : Inv2 m h) {k : Hp} {x : Int} (hx : 1 ≤ x ∧ x ≤ 200) (e : pg m' = pg m) (e4 : m' 113 45 = x) (gk : ∀ c, c < 64 → k c = h c) : ∃ o k', MX1_grant n 50 x k = some (o, k') ∧ (∀ c, c ≠ 52 → c ≠ 53 → k' c = k c) ∧ CDr m' k' := by
  have w := I.w
  have H' := pg_wf2 e I.wf
  have C := pg_ce e I.ce
  have r7 : m' 115 = m 115 := congrFun e 115
  rw [← r7] at C
  have eR : rchS m' = rchS m := by rw [← pg_rch (h := m'), e, pg_rch]
  obtain ⟨q1, q2, q3, q4, q5, q6⟩ := C
  obtain ⟨o, k', a1, a2, a3, a4, a5, a6, a7⟩ := grant1_c (n := n) (m := m') (h := k) (x := 50) (pc := x) (tol := m' 115 7) hn H' (q2.mv (fun c _ _ => gk c (by omega))) H'.2.2.1 hx (by omega) (by omega) (by rw [gk _ (by decide)]; exact q3) (by
    unfold RLc at q4 ⊢
    rw [gk (50 + 2) (by decide), gk (50 + 2 + 2) (by decide), gk (50 + 2 + 3) (by decide)]
    exact q4) (q6.mv (gk _ (by decide)))
  refine ⟨o, k', a1, a4, ?_, by rw [e4]; exact a6, ?_⟩
  · rw [a4 0 (by decide) (by decide), gk 0 (by decide), e4]
    exact a7
  · rw [a4 50 (by decide) (by decide), gk 50 (by decide), r7, eR]
    exact I.dr.2.2
theorem q_give (hn : 200 ≤ n) (x : Int) : Two (MX11_give n x) (MX12_give n x) := fun m h I => by
  have N := I.nw
  have R := I.rg.2.1
  have L := I.mnw
  unfold MX11_give MX12_give
  rw [N.2.1, in_m, bndp_s]
  by_cases h1x : x < 1
  · rw [if_pos h1x, if_neg (c := 1 ≤ x ∧ x ≤ 200) (by omega), if_pos rfl]
    exact ⟨_, _, _, rfl, rfl, fun _ _ => rfl, fun _ _ => rfl, I⟩
  rw [if_neg h1x]
  by_cases h2x : 200 < x
  · rw [if_pos h2x, if_neg (c := 1 ≤ x ∧ x ≤ 200) (by omega), if_pos rfl]
    exact ⟨_, _, _, rfl, rfl, fun _ _ => rfl, fun _ _ => rfl, I⟩
  rw [if_neg h2x, if_pos (c := 1 ≤ x ∧ x ≤ 200) (by omega), if_neg (c := (1 : Int) = 0) (by decide)]
  by_cases hz : x ≠ m 113 45
  · obtain ⟨h1, m1, e1, e2, a, b, C, M⟩ := noted hn I
    have e0 := b.p
    have e : pg (up m1 113 45 x) = pg m1 := pg_of (up_i (by decide)) (up_i (by decide)) (up_i (by decide)) (up_ne (by decide)) (up_ne (by decide)) (up_ne (by decide)) (up_ne (by decide)) (up_ne (by decide)) (up_ne (by decide))
    have lo : ∀ c, c < 66 ∨ c = 67 ∨ 87 < c → c ≠ 64 → up h1 64 4 x c = h c := fun c c0 c1 => by rw [up_ne c1, a.lo R c0]
    have h64 : h1 64 = h 64 := a.lo R (by decide)
    obtain ⟨o, k', g1, g2, g3⟩ := regrant (n := n) (m' := up m1 113 45 x) (k := up h1 64 4 x) (x := x) (by omega) I (by omega) (e.trans e0) up_at (fun c c0 => lo c (by omega) (by omega))
    have mo : ∀ c, c ≠ 113 → c ≠ 138 → up m1 113 45 x c = m c := fun c c0 c1 => by rw [up_ne c0, b.1 c c0 c1]
    have mf : ∀ i, i ≠ 54 → i ≠ 45 → up m1 113 45 x 113 i = m 113 i := fun i i0 i1 => by rw [up_i i1, b.2.1 i i0]
    have ko : ∀ c, c < 66 ∨ c = 67 ∨ 87 < c → c ≠ 64 → c ≠ 52 → c ≠ 53 → k' c = h c := fun c c0 c1 c2 c3 => by rw [g2 c c2 c3, lo c c0 c1]
    have k64 : ∀ i, i ≠ 4 → k' 64 i = h 64 i := fun i hi => by rw [g2 64 (by decide) (by decide), up_i hi, h64]
    rw [if_pos hz, if_pos hz, ltt_e, e1, bndh_s, ltt_e, g1, bnd_s, e2, bndh_s, ltt_e, b.2.1 45 (by decide), ltt_e]
    refine ⟨_, _, _, rfl, rfl, fun c c0 => ko c (by omega) (by omega) (by omega) (by omega), fun c c0 => mo c (by omega) (by omega), I.act (e.trans e0) (mo _ (by decide) (by decide)) (mo _ (by decide) (by decide)) (mo _ (by decide) (by decide)) (mf _ (by decide) (by decide)) (fun c _ c1 c2 => ko c (by omega) (by omega) (by omega) (by omega)) ?_ (M.mv e (up_i (by decide)) (up_ne (by decide))) (I.mmg.mv (e.trans e0) (mo _ (by decide) (by decide)) (mo _ (by decide) (by decide))) g3 ?_ (C.mv e (up_i (by decide)) (up_ne (by decide)) (fun c _ _ => by rw [g2 c (by omega) (by omega), up_ne (by omega)])) (I.mg.mv (e.trans e0) (mo _ (by decide) (by decide)) (mo _ (by decide) (by decide)) (fun c _ _ => ko c (by omega) (by omega) (by omega) (by omega)))⟩
    · refine ⟨by rw [up_at]; omega, by rw [mf 47 (by decide) (by decide)]; exact L.2.1, ?_⟩
      rw [mf 42 (by decide) (by decide), mf 43 (by decide) (by decide), mf 44 (by decide) (by decide)]
      exact pg_rst (e.trans e0) L.2.2
    · unfold CNw at N ⊢
      rw [mf 42 (by decide) (by decide), mf 43 (by decide) (by decide), mf 44 (by decide) (by decide), mf 47 (by decide) (by decide), mf 46 (by decide) (by decide), up_at, k64 5 (by decide), k64 6 (by decide), g2 64 (by decide) (by decide), up_at]
      refine ⟨?_, rfl, N.2.2⟩
      have N1 := pg_cr (e.trans e0) N.1
      unfold CR at N1 ⊢
      rw [k64 0 (by decide), k64 1 (by decide), k64 2 (by decide), k64 3 (by decide)]
      exact N1
  · rw [if_neg hz, if_neg hz]
    exact ⟨_, _, _, rfl, rfl, fun _ _ => rfl, fun _ _ => rfl, I⟩
/-- a state laid from a row, in both -/
theorem laid (hn : 100 ≤ n) (I : Inv2 m h) {x c r : Int} {m1 : Hp} (hx : 68 ≤ x ∧ x ≤ 91) (hr : RWo m c r) (hs : SRo m h x c r) (f1 : ∀ c, c ≠ 113 → m1 c = m c) (f2 : ∀ i, (i < 42 ∨ 47 < i) → i ≠ 54 → m1 113 i = m 113 i) (g42 : m1 113 42 = m c r) (g43 : m1 113 43 = m c (r + 1)) (g44 : m1 113 44 = m c (r + 2)) (g45 : m1 113 45 = m c (r + 3)) (g47 : m1 113 47 = m c (r + 4)) (g46 : m1 113 46 = m c (r + 5)) : pg m1 = pg m ∧ MNw m1 ∧ ∃ h1, MX8_become 64 x h = some h1 ∧ (∀ c, c ≠ 64 → h1 c = h c) ∧ h1 64 0 = m1 113 42 ∧ h1 64 4 = m1 113 45 ∧ CNw m1 h1 := by
  have e : pg m1 = pg m := pg_of (f2 _ (by decide) (by decide)) (f2 _ (by decide) (by decide)) (f2 _ (by decide) (by decide)) (f1 _ (by decide)) (f1 _ (by decide)) (f1 _ (by decide)) (f1 _ (by decide)) (f1 _ (by decide)) (f1 _ (by decide))
  obtain ⟨h1, b1, b2, b3⟩ := become_c (h := h) (x := 64) (y := x) (by omega) (by rw [hs.2.2.1]; exact hr.2.2)
  refine ⟨e, ⟨by rw [g45]; exact hr.2.1, by rw [g47]; exact hr.2.2, by rw [g42, g43, g44]; exact pg_rst e hr.1⟩, h1, b1, b2, by rw [b3 0 (by decide) (by decide), g42]; exact hs.1.1, by rw [b3 4 (by decide) (by decide), g45]; exact hs.2.1, ?_⟩
  unfold CNw
  rw [g42, g43, g44, g45, g46, g47]
  have N1 := pg_cr e hs.1
  unfold CR at N1 ⊢
  rw [b3 0 (by decide) (by decide), b3 1 (by decide) (by decide), b3 2 (by decide) (by decide), b3 3 (by decide) (by decide), b3 4 (by decide) (by decide), b3 5 (by decide) (by decide), b3 6 (by decide) (by decide)]
  exact ⟨N1, hs.2⟩
theorem q_undo (hn : 100 ≤ n) : Two (MX11_undo n) MX12_undo := fun m h I => by
  have N := I.nw
  have R := I.rg
  have M := I.mrg
  have M1 : 0 ≤ m 113 54 ∧ m 113 54 ≤ 20 := M.1
  have R1 : 0 ≤ h 66 1 ∧ h 66 1 < 20 := R.2.1
  unfold MX11_undo MX12_undo
  rw [R.1]
  by_cases hz : m 113 54 ≠ 0
  · have hr := M.2 (m 113 54 - 1) (by omega) (by omega)
    have hs := R.2.2 (m 113 54 - 1) (by omega) (by omega)
    have sl : slot (h 66 1) (h 66 2) (m 113 54 - 1) = (h 66 1 - 1) % 20 := by
      unfold slot
      rw [R.1]
      omega
    have sk := slot_ok (x := h 66 1) (y := h 66 2) (k := m 113 54 - 1)
    rw [sl] at hs sk
    have g38 : ∀ v, up m 113 54 v 138 = m 138 := fun v => up_ne (by decide)
    obtain ⟨m1, a1, a2, a3, b42, b43, b44, b45, b47, b46⟩ := laysFrom_m (m := up m 113 54 (m 113 54 - 1)) (r := 6 * (m 113 54 - 1)) (by omega) (by omega) (by rw [g38]; exact hr.2.2)
    rw [g38] at b42 b43 b44 b45 b46 b47
    have f1 : ∀ c, c ≠ 113 → m1 c = m c := fun c c0 => by rw [a2 c c0, up_ne c0]
    have f2 : ∀ i, (i < 42 ∨ 47 < i) → i ≠ 54 → m1 113 i = m 113 i := fun i i0 i1 => by rw [a3 i i0, up_i i1]
    have f54 : m1 113 54 = m 113 54 - 1 := by rw [a3 54 (by decide), up_at]
    obtain ⟨e, L', h1, e1, g1, z0, z4, N'⟩ := laid hn I (x := 68 + (h 66 1 - 1) % 20) (by omega) hr hs f1 f2 b42 b43 b44 b45 b47 b46
    have J : ∀ z, z = (h 66 1 - 1) % 20 → JX5_recall_18 64 z h = some (up (up h1 66 1 z) 66 2 (m 113 54 - 1)) := fun z hz' => by
      unfold JX5_recall_18
      rw [ltt_e, R.1, if_neg hz, if_neg (by omega), if_pos (by omega), show alen 184 = 20 by decide, grd_t (by omega), hz', e1, bndh_s, ltt_e, up_i (j := 2) (i := 1) (by decide), g1 66 (by decide), R.1, w32_i (x := m 113 54 - 1) (by omega), ltt_e]
    have er : MX5_recall 64 h = some (up (up h1 66 1 ((h 66 1 - 1) % 20)) 66 2 (m 113 54 - 1)) := by
      unfold MX5_recall
      by_cases h0 : h 66 1 ≠ 0
      · rw [if_pos h0, w32_i (x := h 66 1 - 1) (by omega), J _ (by omega), show (h 66 1 - 1) % 20 = h 66 1 - 1 by omega]
      · rw [if_neg h0, J 19 (by omega), show (h 66 1 - 1) % 20 = 19 by omega]
    obtain ⟨o, k', q1, q2, q3⟩ := regrant (n := n) (m' := m1) (k := up (up h1 66 1 ((h 66 1 - 1) % 20)) 66 2 (m 113 54 - 1)) (x := m1 113 45) (by omega) I L'.1 e rfl (fun c c0 => by rw [up_ne (by omega), up_ne (by omega), g1 c (by omega)])
    have k66 : k' 66 2 = m 113 54 - 1 := by rw [q2 66 (by decide) (by decide), up_at]
    have k661 : k' 66 1 = (h 66 1 - 1) % 20 := by rw [q2 66 (by decide) (by decide), up_i (by decide), up_at]
    have ko : ∀ c, c ≠ 64 → c ≠ 66 → c ≠ 52 → c ≠ 53 → k' c = h c := fun c c0 c1 c2 c3 => by rw [q2 c c2 c3, up_ne c1, up_ne c1, g1 c c0]
    have k64 : k' 64 = h1 64 := by rw [q2 64 (by decide) (by decide), up_ne (by decide), up_ne (by decide)]
    rw [if_pos hz, if_pos hz, er, bndh_s, show up (up h1 66 1 ((h 66 1 - 1) % 20)) 66 2 (m 113 54 - 1) 64 4 = m1 113 45 by rw [up_ne (by decide), up_ne (by decide), z4], q1, bnd_s, w32_i (x := m 113 54 - 1) (by omega), ltt_e, up_at, w32_i (x := 6 * (m 113 54 - 1)) (by omega), a1, bndh_s, k66, f54]
    refine ⟨_, _, _, rfl, rfl, fun c c0 => ko c (by omega) (by omega) (by omega) (by omega), fun c c0 => f1 c (by omega), I.act e (f1 _ (by decide)) (f1 _ (by decide)) (f1 _ (by decide)) (f2 _ (by decide) (by decide)) (fun c _ c1 c2 => ko c (by omega) (by omega) (by omega) (by omega)) L' ?_ (I.mmg.mv e (f1 _ (by decide)) (f1 _ (by decide))) q3 (N'.mv rfl (fun _ _ _ => rfl) (fun i _ _ => by rw [k64])) ?_ (I.mg.mv e (f1 _ (by decide)) (f1 _ (by decide)) (fun c _ _ => ko c (by omega) (by omega) (by omega) (by omega)))⟩
    · refine ⟨by rw [f54]; have := M.1; omega, fun k k0 k1 => ?_⟩
      rw [f54] at k1
      exact (M.2 k k0 (by omega)).mv e (fun z _ _ => by rw [f1 138 (by decide)])
    · refine ⟨by rw [k66, f54], by rw [k661]; omega, fun k k0 k1 => ?_⟩
      rw [f54] at k1
      have es : slot (k' 66 1) (k' 66 2) k = slot (h 66 1) (h 66 2) k := by
        unfold slot
        rw [k66, k661, R.1]
        omega
      have s2 := slot_ok (x := h 66 1) (y := h 66 2) (k := k)
      rw [es]
      exact (R.2.2 k k0 (by omega)).mv e (fun z _ _ => by rw [f1 138 (by decide)]) (ko _ (by omega) (by omega) (by omega) (by omega))
  · rw [if_neg hz, if_neg hz]
    exact ⟨_, _, _, rfl, rfl, fun _ _ => rfl, fun _ _ => rfl, I⟩
end
