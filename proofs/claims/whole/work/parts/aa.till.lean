section
variable {m m' h h' : Hp} {n : Nat}
theorem Inv2.ask2 (I : Inv2 m h) (K : KM m m') (hc : ∀ c, ¬ scr c → h' c = h c) (h51 : h' 51 = h 51) (h1 : h' 110 = h 110) (h2 : h' 111 = h 111) {R : Int} (hR : 1 ≤ R ∧ R ≤ 12) (e2 : h' 57 2 = R) (F : FC h' 57 R) : (∀ c, c < 0 ∨ 113 ≤ c → h' c = h c) ∧ (∀ c, c < 113 → m' c = m c) ∧ Inv2 m' h' :=
  ⟨fun c c0 => hc c (by unfold scr; omega), fun c c0 => K.1 c (by omega) (by omega) (by omega) (by omega), I.1.mv (KQ.of K), I.2.mv (KQ.of K) (fun c _ c1 => hc c c1) (I.f5.mv h51) (by rw [e2]; exact ⟨F, hR⟩) (I.rl.mv h1 h2)⟩
noncomputable def tilM (m : Hp) (tol j p : Int) (hd : Prop) (k : Nat) (q : Int × Int × Int) : Int := tillS (nB m) j (rchS m j) (ee m) (limS m j p) (paceS m tol j) hd k 0 q
theorem ticksTo_c (hn : 5000 ≤ n) (H : WFp m) {D w tol j p x : Int} (hj : 1 ≤ j ∧ j ≤ 50) (hx : D + 6 < x) (C : CE m h D w tol j p) {q : Int × Int × Int} (Q : CQ m h x q) (S : RSq (nB m) j (rchS m j) (ee m) q) (x5 : h x 5 = 0) {k : Int} (hk : 0 ≤ k ∧ k ≤ 3000) : ∃ h', MX1_ticksToEnd n D x k h = some (tilM m tol j p False k.toNat q, h') ∧ FT D x h h' ∧ FC h' D (rchS m j) := by
  obtain ⟨h', e, F, FC'⟩ := till_l (n := n) (hd := False) (cnt := k) (by omega) H hj hx (by omega) k.toNat n 0 h q (by omega) (by omega) (by decide) C Q S (by rw [x5]; simp)
  refine ⟨h', ?_, F, FC'⟩
  unfold MX1_ticksToEnd LX1_ticksToEnd_2
  rw [ltt_e]
  exact e
theorem tilM_dn {tol j p : Int} {hd : Prop} {k : Nat} {q : Int × Int × Int} (d : dn (nB m) (ee m) q) : tilM m tol j p hd (k + 1) q = 0 := ci_t d
theorem q_till (hn : 5000 ≤ n) : Two (MX11_till n) (MX12_till n) := fun m h I => by
  have H := I.wf
  have hj := H.2.2.1
  have N := I.nw
  have E := env_ok H (tol := m 115 7) (p := m 113 45) hj
  obtain ⟨g1, g2, a1, a2, -, D2, M2, x52⟩ := ride0 (n := n) (by omega) I
  have dc : MX1_isDone 50 64 h = some (ci (dn (nB m) (ee m) (now m)) 1 0) := isDone_cq H I.ce (q := now m) N.1 (RS.le E I.rsq)
  have dm : MX12_isDone g2 = some (ci (dn (nB m) (ee m) (now m)) 1 0) := isDone_mq H D2.km M2
  have A0 := I.ask D2.km (h' := h) (fun _ _ _ _ => rfl) I.f5
  unfold MX11_till MX12_till
  rw [dc, bndp_s, a1, bndh_s, a2, bndh_s, x52, N.2.2.1]
  by_cases c0 : m 113 47 = 0
  · obtain ⟨g3, e3, F3⟩ := tillDone_m (n := n) (cnt := 3000) hn H hj (by decide) D2 M2 I.rsq (by rw [x52, c0])
    have e3' : MX12_tillDone n g2 = some (tilM m (m 115 7) (m 115 6) (m 113 45) False 3000 (now m), g3) := by
      unfold MX12_tillDone
      rw [show MX12_tillDone_ n 3000 g2 = _ from e3, bnd_s]
      rfl
    rw [if_pos c0, if_pos c0, e3', bnd_s]
    by_cases d : dn (nB m) (ee m) (now m)
    · rw [ci_t d, if_neg (by decide), tilM_dn d]
      exact ⟨_, _, _, rfl, rfl, I.ask (D2.fr F3).km (h' := h) (fun _ _ _ _ => rfl) I.f5⟩
    · obtain ⟨h1, e1, f1, C1, Q1, x5⟩ := trip I
      obtain ⟨h2, e2, F2, FC2⟩ := ticksTo_c (n := n) (k := 3000) hn H hj (by decide) C1 Q1 I.rsq (by rw [x5, c0]) (by decide)
      rw [ci_f d, if_pos rfl, e1, bndh_s, e2, bnd_s]
      exact ⟨_, _, _, rfl, rfl, I.ask (D2.fr F3).km (fun c c0 c1 _ => by rw [F2.1 c c1 (by omega), f1 c c1]) FC2⟩
  · rw [if_neg c0, if_neg c0, dm, bndp_s]
    by_cases d : dn (nB m) (ee m) (now m)
    · have e3 : MX12_tillDone n g2 = some (0, g2) := by
        obtain ⟨f, ef⟩ : ∃ f, n = f + 1 := ⟨n - 1, by omega⟩
        have b : BX12_tillDone__2 n (f + 1) 3000 0 g2 = some (0, g2) := by
          rw [BX12_tillDone__2, dm, ci_t d, bndp_s, if_pos (by decide)]
        rw [← ef] at b
        unfold MX12_tillDone MX12_tillDone_ LX12_tillDone__2
        rw [ltt_e, b, bnd_s]
      rw [ci_t d, if_neg (by decide), if_pos (by decide), e3, bnd_s]
      exact ⟨_, _, _, rfl, rfl, A0⟩
    · rw [ci_f d, if_pos rfl, if_neg (by decide)]
      exact ⟨_, _, _, rfl, rfl, A0⟩
theorem tal0 : ∀ (r f : Nat) (k : Int) (h : Hp), (r : Int) = 5 - k → 0 ≤ k → r < f → ∃ h', BX11_survey_2 n f k h = some h' ∧ (∀ c, c ≠ 112 → h' c = h c) ∧ (∀ i, i < k → h' 112 i = h 112 i) ∧ ∀ i, k ≤ i → i < 5 → h' 112 i = 0
  | 0, f + 1, k, h, e, x0, hf => ⟨h, by rw [BX11_survey_2, if_pos (by omega)], fun _ _ => rfl, fun _ _ => rfl, fun i i0 i1 => by omega⟩
  | r + 1, f + 1, k, h, e, x0, hf => by
    obtain ⟨h', q1, q2, q3, q4⟩ := tal0 r f (k + 1) (up h 112 k 0) (by omega) (by omega) (by omega)
    refine ⟨h', ?_, fun c hc => by rw [q2 c hc, up_ne hc], fun i hi => by rw [q3 i (by omega), up_i (by omega)], fun i i0 i1 => ?_⟩
    · rw [BX11_survey_2, if_neg (by omega), al60, grd_t (by omega), ltt_e, w32_i (x := k + 1) (by omega), ltt_e]
      exact q1
    · by_cases hx : i = k
      · rw [q3 i (by omega), hx, up_at]
      · exact q4 i (by omega) i1
theorem q_run (hn : 5000 ≤ n) (x : Int) : Two (MX11_run n x) (MX12_run n x) := fun m h I => by
  have H := I.wf
  have hj := H.2.2.1
  have N := I.nw
  unfold MX11_run MX12_run
  rw [in_m, bndp_s]
  by_cases c0 : x < 0
  · rw [if_pos c0, if_neg (c := 0 ≤ x ∧ x ≤ 4) (by omega), if_neg (by decide)]
    exact ⟨_, _, _, rfl, rfl, fun _ _ => rfl, fun _ _ => rfl, I⟩
  rw [if_neg c0]
  by_cases c1 : x ≤ 4
  · obtain ⟨h0, e0, f0, -, s0⟩ := tal0 (n := n) 5 n 0 h (by decide) (by decide) (by omega)
    have I0 : Inv2 m h0 := ⟨I.1, I.2.mv KQ.rf (fun c _ c1 => f0 c (by unfold scr at c1; omega)) (I.f5.mv (f0 _ (by decide))) (I.tr.mv (by rw [f0 57 (by decide)]) (f0 _ (by decide))) (I.rl.mv (f0 _ (by decide)) (f0 _ (by decide)))⟩
    have w0 : h0 0 2 = h 0 2 := by rw [f0 0 (by decide)]
    obtain ⟨h1, e1, f1, C1, Q1, x5⟩ := trip I0
    have C2 : CE m (up h1 65 5 0) 50 (h0 0 2) (m 115 7) (m 115 6) (m 113 45) := C1.mv (x := 65) (by decide) (fun c d0 _ => up_ne d0) (C1.2.2.2.2.2.mv (up_ne (by decide)))
    have Q2 : CQ m (up h1 65 5 0) 65 (now m) := by
      unfold CQ CR at Q1 ⊢
      rw [up_i (by decide), up_i (by decide), up_i (by decide), up_i (by decide)]
      exact Q1
    have T0 : TL (up h1 65 5 0) 0 0 0 0 0 := by
      unfold TL
      rw [up_ne (b := 112) (by decide), f1 112 (by decide)]
      exact ⟨s0 0 (by decide) (by decide), s0 1 (by decide) (by decide), s0 2 (by decide) (by decide), s0 3 (by decide) (by decide), s0 4 (by decide) (by decide)⟩
    obtain ⟨o, h3, e3, F3, FC3, R3⟩ := survey_l (n := n) (by omega) H hj 3000 n 0 (-2) 0 0 0 0 0 (up h1 65 5 0) (now m) (by decide) (by omega) (by decide) C2 Q2 I.rsq up_at T0 (by decide) (by decide) (by decide) (by decide)
    obtain ⟨g1, g2, a1, a2, -, D2, M2, x52⟩ := ride0 (n := n) (by omega) I
    have M3 : MQr (up g2 113 52 0) (now m) := by
      unfold MQr MR at M2 ⊢
      rw [up_i (by decide), up_i (by decide), up_i (by decide)]
      exact M2
    obtain ⟨g4, F4, R4⟩ := runM_l (n := n) (by omega) H hj x 3000 n 0 (-2) 0 0 0 0 0 (up g2 113 52 0) (now m) (by decide) (by omega) (by decide) (D2.up (by decide)) M3 I.rsq up_at (by decide) (by decide) (by decide) (by decide)
    have A := I.ask (h' := h3) ((D2.up (i := 52) (v := 0) (by decide)).fr F4).km (fun c d0 d1 d2 => by rw [F3.1 c d1 d0 d2, up_ne d1, f1 c d1, f0 c d2]) FC3
    have es : MX11_survey n h = some (o, h3) := by
      unfold MX11_survey LX11_survey_2
      rw [ltt_e, e0, bndx_s]
      show JX11_survey_20 n h0 = _
      unfold JX11_survey_20 LX11_survey_44
      rw [e1, bndh_s, ltt_e, ltt_e, ltt_e]
      exact e3
    rw [if_pos c1, if_pos (c := 0 ≤ x ∧ x ≤ 4) (by omega), if_pos (by decide), es, bnd_s, a1, bndh_s, a2, bndh_s, ltt_e, ltt_e, ltt_e, ltt_e, ltt_e, ltt_e, ltt_e, ltt_e]
    unfold LX12_run_47
    cases hq : runS (nB m) (m 115 6) (rchS m (m 115 6)) (ee m) (limS m (m 115 6) (m 113 45)) (paceS m (m 115 7) (m 115 6)) 3000 (-2) 0 0 0 0 0 (now m) with
    | none =>
      rw [hq] at R3 R4
      have R3' : o = 0 := R3
      have R4' : BX12_run_47 n n x 0 0 0 0 0 (-2) 0 (up g2 113 52 0) = some (.inr (-2, g4)) := R4
      rw [if_pos R3', R4']
      exact ⟨_, _, _, rfl, rfl, A⟩
    | some t =>
      rw [hq] at R3 R4
      have R3' : o = 1 ∧ TL h3 t.1 t.2.1 t.2.2.1 t.2.2.2.1 t.2.2.2.2 := R3
      have R4' : BX12_run_47 n n x 0 0 0 0 0 (-2) 0 (up g2 113 52 0) = some (.inl (x, t.1, t.2.1, t.2.2.1, t.2.2.2.1, t.2.2.2.2, g4)) := R4
      rw [if_neg (by omega), R4', al60, grd_t (by omega)]
      have ej : (bnds (some (Sum.inl (x, t.1, t.2.1, t.2.2.1, t.2.2.2.1, t.2.2.2.2, g4)) : Option ((Int × Int × Int × Int × Int × Int × Hp) ⊕ (Int × Hp))) (fun (e1, e2, e3, e4, e5, e6, h1) => JX12_run_185 n e1 e2 e3 e4 e5 e6 h1) (fun e => some e)) = some (selT x t, g4) := by
        show JX12_run_185 n x t.1 t.2.1 t.2.2.1 t.2.2.2.1 t.2.2.2.2 g4 = _
        unfold JX12_run_185 selT
        split
        · rfl
        · split
          · rfl
          · split
            · rfl
            · split <;> rfl
      have ec : h3 112 x = selT x t := by
        obtain ⟨t0, t1, t2, t3, t4⟩ := R3'.2
        unfold selT
        rcases (by omega : x = 0 ∨ x = 1 ∨ x = 2 ∨ x = 3 ∨ x = 4) with q | q | q | q | q <;> subst q
        · exact t0
        · exact t1
        · exact t2
        · exact t3
        · exact t4
      rw [ec]
      exact ⟨_, _, _, rfl, ej, A⟩
  · rw [if_neg c1, if_neg (c := 0 ≤ x ∧ x ≤ 4) (by omega), if_neg (by decide)]
    exact ⟨_, _, _, rfl, rfl, fun _ _ => rfl, fun _ _ => rfl, I⟩
end
