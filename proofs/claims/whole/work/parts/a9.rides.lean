section
variable {m m' h h' : Hp} {n : Nat}
noncomputable def itM (m : Hp) (hd : Prop) (k : Nat) (q : Int × Int × Int) : Int × Int × Int := itS (nB m) (m 115 6) (rchS m (m 115 6)) (ee m) (limS m (m 115 6) (m 113 45)) (paceS m (m 115 7) (m 115 6)) hd k q
abbrev now (m : Hp) : Int × Int × Int := (m 113 42, m 113 43, m 113 44)
theorem Inv2.rsq (I : Inv2 m h) : RSq (nB m) (m 115 6) (rchS m (m 115 6)) (ee m) (now m) := I.mnw.2.2
theorem nu_l {R N J : Int} {e : Int → Int} {w u : Int} (s : Int) (hR : 1 ≤ R ∧ R ≤ 12) (S : RS N J R e s w u) : nu w u < 1000 := by
  have a := S.1
  have b := S.2.1
  have c := S.2.2.1
  unfold nu
  unfold bears at a
  omega
theorem went (hn : 5000 ≤ n) (I : Inv2 m h) {x : Int} (hx : 0 ≤ x ∧ x ≤ 300) : ∃ h1 h2 g3, MX8_become 65 64 h = some h1 ∧ MX1_goOn n 50 65 x h1 = some h2 ∧ MX12_goesOn n x m = some g3 ∧ (∀ c, c ≠ 51 → c ≠ 65 → h2 c = h c) ∧ FC h2 50 (rchS m (m 115 6)) ∧ CE m h2 50 (h 0 2) (m 115 7) (m 115 6) (m 113 45) ∧ CQ m h2 65 (itM m (m 113 47 ≠ 0) x.toNat (now m)) ∧ RSq (nB m) (m 115 6) (rchS m (m 115 6)) (ee m) (itM m (m 113 47 ≠ 0) x.toNat (now m)) ∧ LD m (m 115 7) (m 115 6) (m 113 45) g3 ∧ MQr g3 (itM m (m 113 47 ≠ 0) x.toNat (now m)) := by
  have H := I.wf
  have hj := H.2.2.1
  have E := env_ok H (tol := m 115 7) (p := m 113 45) hj
  obtain ⟨h1, e1, f1, C1, Q1, x5⟩ := trip I
  obtain ⟨h2, e2, F2, FC2, Q2⟩ := goOn_l (n := n) (D := 50) (x := 65) (hd := m 113 47 ≠ 0) (cnt := x) (by omega) H hj (by decide) (by omega) x.toNat n 0 h1 (now m) (by omega) (by omega) (by decide) C1 Q1 I.rsq (by rw [x5])
  obtain ⟨g1, g2, a1, a2, -, D2, M2, x52⟩ := ride0 (n := n) (by omega) I
  obtain ⟨g3, a3, F3, M3⟩ := goesOn_l (n := n) (hd := m 113 47 ≠ 0) (cnt := x) (by omega) H hj (by omega) x.toNat n 0 g2 (now m) (by omega) (by omega) (by decide) D2 M2 I.rsq (by rw [x52])
  refine ⟨h1, h2, g3, e1, ?_, ?_, fun c c0 c1 => by rw [F2.1 c c1 (by omega), f1 c c1], FC2, C1.ft (by decide) F2 FC2, Q2, RSq_it E _ _ I.rsq, D2.fr F3, M3⟩
  · unfold MX1_goOn LX1_goOn_2
    rw [ltt_e]
    exact e2
  · unfold MX12_goesOn LX12_goesOn_10
    rw [a1, bndh_s, a2, bndh_s, ltt_e]
    exact a3
theorem q_ahead (hn : 5000 ≤ n) (x y : Int) : Two (MX11_ahead n x y) (MX12_ahead n x y) := fun m h I => by
  have H := I.wf
  unfold MX11_ahead MX12_ahead
  rw [in_m, bndp_s]
  have no : ∃ v h' m', (some (-2147483648, h) : Option (Int × Hp)) = some (v, h') ∧ (some (-2147483648, m) : Option (Int × Hp)) = some (v, m') ∧ (∀ c, c < 0 ∨ 113 ≤ c → h' c = h c) ∧ (∀ c, c < 113 → m' c = m c) ∧ Inv2 m' h' := ⟨_, _, _, rfl, rfl, fun _ _ => rfl, fun _ _ => rfl, I⟩
  by_cases c0 : x < 0
  · rw [if_pos c0, if_neg (c := 0 ≤ x ∧ x ≤ 300) (by omega), if_pos rfl]
    exact no
  rw [if_neg c0]
  by_cases c1 : 300 < x
  · rw [if_pos c1, if_neg (c := 0 ≤ x ∧ x ≤ 300) (by omega), if_pos rfl]
    exact no
  rw [if_neg c1, if_pos (c := 0 ≤ x ∧ x ≤ 300) (by omega), if_neg (c := (1 : Int) = 0) (by decide), in_m, bndp_s]
  by_cases c2 : y < 0
  · rw [if_pos c2, if_neg (c := 0 ≤ y ∧ y ≤ 3) (by omega), if_neg (by decide)]
    exact no
  rw [if_neg c2]
  by_cases c3 : y ≤ 3
  · obtain ⟨h1, h2, g3, e1, e2, e3, f2, F2, -, Q2, -, D3, M3⟩ := went hn I (x := x) (by omega)
    have K3 := D3.km
    have A := I.ask K3 (fun c c0 c1 _ => f2 c c0 c1) F2
    rw [if_pos c3, if_pos (c := 0 ≤ y ∧ y ≤ 3) (by omega), if_pos (c := (1 : Int) ≠ 0) (by decide), e1, bndh_s, e2, bndh_s, e3, bndh_s, Q2.1, Q2.2.1, Q2.2.2.1, Q2.2.2.2, M3.1, M3.2.1, M3.2.2, blockAt_m (by omega) H K3.eN (K3.r (by decide)), bndp_s]
    by_cases d0 : y = 0
    · rw [if_pos d0, if_neg (c := y ≠ 0) (by omega)]
      exact ⟨_, _, _, rfl, rfl, A⟩
    rw [if_neg d0, if_pos (c := y ≠ 0) d0]
    by_cases d1 : y = 1
    · rw [if_pos d1, if_neg (c := y ≠ 1) (by omega)]
      exact ⟨_, _, _, rfl, rfl, A⟩
    rw [if_neg d1, if_pos (c := y ≠ 1) d1]
    by_cases d2 : y = 2
    · rw [if_pos d2, if_neg (c := y ≠ 2) (by omega)]
      exact ⟨_, _, _, rfl, rfl, A⟩
    rw [if_neg d2, if_pos (c := y ≠ 2) d2]
    exact ⟨_, _, _, rfl, rfl, A⟩
  · rw [if_neg c3, if_neg (c := 0 ≤ y ∧ y ≤ 3) (by omega), if_neg (by decide)]
    exact no
theorem q_halt (hn : 5000 ≤ n) (x : Int) : Two (MX11_halt n x) (MX12_halt n x) := fun m h I => by
  have H := I.wf
  have hj := H.2.2.1
  have E := env_ok H (tol := m 115 7) (p := m 113 45) hj
  unfold MX11_halt MX12_halt
  rw [in_m, bndp_s]
  by_cases c0 : x < 0
  · rw [if_pos c0, if_neg (c := 0 ≤ x ∧ x ≤ 300) (by omega), if_neg (by decide)]
    exact ⟨_, _, _, rfl, rfl, fun _ _ => rfl, fun _ _ => rfl, I⟩
  rw [if_neg c0]
  by_cases c1 : x ≤ 300
  · obtain ⟨h1, h2, g3, e1, e2, e3, f2, F2, C2, Q2, S2, D3, M3⟩ := went hn I (x := x) (by omega)
    have hnu := nu_l _ E.2.2.1 S2
    obtain ⟨h4, e4, F4, Q4⟩ := btr_l (n := n) (D := 50) (x := 65) (by omega) H hj (by decide) 1000 n 0 h2 _ _ _ (by decide) (by omega) (by decide) C2 Q2 S2 (Or.inl hnu)
    obtain ⟨g4, e5, F5⟩ := haltM_l (n := n) (by omega) H hj 1000 n g3 _ _ _ (by omega) D3 M3 S2 (Or.inl hnu)
    have A := I.ask (D3.fr F5).km (fun c c0 c1 _ => by rw [F4.1 c c1, f2 c c0 c1]) (F2.mv (F4.1 _ (by decide)))
    have b : MX1_brakeToRest n 50 65 h2 = some (0 + brn (rchS m (m 115 6)) 1000 (itM m (m 113 47 ≠ 0) x.toNat (now m)).2.1 (itM m (m 113 47 ≠ 0) x.toNat (now m)).2.2, h4) := by
      unfold MX1_brakeToRest LX1_brakeToRest_2
      rw [ltt_e]
      exact e4
    rw [if_pos c1, if_pos (c := 0 ≤ x ∧ x ≤ 300) (by omega), if_pos (by decide), e1, bndh_s, e2, bndh_s, b, bnd_s, Q4.1, e3, bndh_s]
    exact ⟨_, _, _, rfl, e5, A⟩
  · rw [if_neg c1, if_neg (c := 0 ≤ x ∧ x ≤ 300) (by omega), if_neg (by decide)]
    exact ⟨_, _, _, rfl, rfl, fun _ _ => rfl, fun _ _ => rfl, I⟩
theorem q_brakes (hn : 5000 ≤ n) (x : Int) : Two (MX11_brakes n x) (MX12_brakes n x) := fun m h I => by
  have H := I.wf
  have hj := H.2.2.1
  have E := env_ok H (tol := m 115 7) (p := m 113 45) hj
  have hnu := nu_l _ E.2.2.1 I.rsq
  obtain ⟨h1, e1, f1, C1, Q1, x5⟩ := trip I
  obtain ⟨g1, g2, a1, a2, -, D2, M2, x52⟩ := ride0 (n := n) (by omega) I
  obtain ⟨h4, e4, F4, Q4⟩ := btr_l (n := n) (D := 50) (x := 65) (by omega) H hj (by decide) 1000 n 0 h1 _ _ _ (by decide) (by omega) (by decide) C1 Q1 I.rsq (Or.inl hnu)
  obtain ⟨g4, e5, F5, M5⟩ := brkM_l (n := n) (by omega) H hj x 1000 n 0 g2 _ _ _ (by omega) (by decide) (by decide) D2 M2 I.rsq (Or.inl hnu)
  have K := (D2.fr F5).km
  have A := I.ask (h' := h4) K (fun c c0 c1 _ => by rw [F4.1 c c1, f1 c c1]) (I.f5.mv (by rw [F4.1 _ (by decide), f1 _ (by decide)]))
  have b : MX1_brakeToRest n 50 65 h1 = some (0 + brn (rchS m (m 115 6)) 1000 (now m).2.1 (now m).2.2, h4) := by
    unfold MX1_brakeToRest LX1_brakeToRest_2
    rw [ltt_e]
    exact e4
  have cl : JX11_brakes_11 n x h = some (if x ≠ 0 then w32 (h4 65 0 - h4 64 0) else 0 + brn (rchS m (m 115 6)) 1000 (now m).2.1 (now m).2.2, h4) := by
    unfold JX11_brakes_11
    rw [e1, bndh_s, b, bnd_s, ltt_e]
    split <;> rfl
  have ev : h4 65 0 - h4 64 0 = g4 113 48 - g4 113 42 := by
    rw [Q4.1, M5.1, F4.1 64 (by decide), f1 64 (by decide), I.nw.1.1, K.2 42 (by decide) (by decide) (by decide) (by decide)]
  rw [ev] at cl
  have mo : (0 ≤ x ∧ x ≤ 1) → MX12_brakes n x m = some (if x ≠ 0 then w32 (g4 113 48 - g4 113 42) else 0 + brn (rchS m (m 115 6)) 1000 (now m).2.1 (now m).2.2, g4) := fun hx => by
    unfold MX12_brakes LX12_brakes_22
    rw [in_m, bndp_s, if_pos hx, if_pos (by decide), a1, bndh_s, a2, bndh_s, ltt_e, e5, bndx_s]
    show JX12_brakes_39 n x _ g4 = _
    unfold JX12_brakes_39
    split <;> rfl
  unfold MX11_brakes
  by_cases c0 : x = 0
  · rw [if_pos c0, cl, mo (by omega)]
    exact ⟨_, _, _, rfl, rfl, A⟩
  rw [if_neg c0]
  by_cases c1 : x = 1
  · rw [if_pos c1, cl, mo (by omega)]
    exact ⟨_, _, _, rfl, rfl, A⟩
  rw [if_neg c1]
  unfold MX12_brakes
  rw [in_m, bndp_s, if_neg (c := 0 ≤ x ∧ x ≤ 1) (by omega), if_neg (by decide)]
  exact ⟨_, _, _, rfl, rfl, fun _ _ => rfl, fun _ _ => rfl, I⟩
theorem q_due (hn : 5000 ≤ n) (x : Int) : Two (MX11_due n x) (MX12_due n x) := fun m h I => by
  have H := I.wf
  have hj := H.2.2.1
  have N := I.nw
  have R : h (h 0 2) 14 = AL (nB m) (ee m) := by rw [I.rw.1.2.2.2.2.2, AL_m H]
  unfold MX11_due MX12_due
  rw [all_m (h := m) H rfl rfl, bndp_s, in_m, bndp_s, R]
  by_cases c0 : x < 0
  · rw [if_pos c0, if_neg (c := 0 ≤ x ∧ x ≤ AL (nB m) (ee m)) (by omega), if_neg (by decide)]
    exact ⟨_, _, _, rfl, rfl, fun _ _ => rfl, fun _ _ => rfl, I⟩
  rw [if_neg c0]
  by_cases c1 : x ≤ AL (nB m) (ee m)
  · obtain ⟨g1, g2, a1, a2, -, D2, M2, x52⟩ := ride0 (n := n) (by omega) I
    have A0 := I.ask D2.km (h' := h) (fun _ _ _ _ => rfl) I.f5
    have z1 : g2 113 48 = m 113 42 := M2.1
    have z2 : h 64 0 = m 113 42 := N.1.1
    rw [if_pos c1, if_pos (c := 0 ≤ x ∧ x ≤ AL (nB m) (ee m)) (by omega), if_pos (c := (1 : Int) ≠ 0) (by decide), a1, bndh_s, a2, bndh_s, z1, z2, N.2.2.1, x52]
    by_cases c2 : m 113 42 < x
    · rw [if_pos c2, if_pos c2]
      by_cases c3 : m 113 47 = 0
      · obtain ⟨h1, e1, f1, C1, Q1, x5⟩ := trip I
        obtain ⟨h2, e2, F2, FC2⟩ := due_l (n := n) (hd := False) (a := x) (by omega) H hj (by decide) 3000 n 1 h1 (now m) (by decide) (by omega) (by decide) C1 Q1 I.rsq (by rw [x5, c3]; simp)
        obtain ⟨g3, e3, F3⟩ := dueM_l (n := n) (hd := False) (a := x) (by omega) H hj 3000 n 1 g2 (now m) (by decide) (by omega) (by decide) D2 M2 I.rsq (by rw [x52, c3]; simp)
        have A := I.ask (D2.fr F3).km (fun c c0 c1 _ => by rw [F2.1 c c1 (by omega), f1 c c1]) FC2
        rw [if_pos c3, if_pos c3, e1, bndh_s, ltt_e, ltt_e]
        exact ⟨_, _, _, e2, e3, A⟩
      · rw [if_neg c3, if_neg c3]
        exact ⟨_, _, _, rfl, rfl, A0⟩
    · rw [if_neg c2, if_neg c2]
      exact ⟨_, _, _, rfl, rfl, A0⟩
  · rw [if_neg c1, if_neg (c := 0 ≤ x ∧ x ≤ AL (nB m) (ee m)) (by omega), if_neg (by decide)]
    exact ⟨_, _, _, rfl, rfl, fun _ _ => rfl, fun _ _ => rfl, I⟩
end
