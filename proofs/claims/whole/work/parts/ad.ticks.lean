section
variable {m m' h h' : Hp} {n : Nat}
noncomputable def tkM (m : Hp) (tol j p : Int) (hd : Prop) (q : Int × Int × Int) : Int × Int × Int := tk (nB m) j (rchS m j) (ee m) (limS m j p) (paceS m tol j) hd q
theorem tkM_pg (e : pg m' = pg m) {tol j p : Int} {hd : Prop} {q : Int × Int × Int} : tkM m' tol j p hd q = tkM m tol j p hd q := by
  have a1 : nB m' = nB m := (show nB (pg m') = nB (pg m) from congrArg nB e)
  have a2 : rchS m' = rchS m := by rw [← pg_rch (h := m'), e, pg_rch]
  have a3 : ee m' = ee m := (show ee (pg m') = ee (pg m) from congrArg ee e)
  have a4 : paceS m' = paceS m := (show paceS (pg m') = paceS (pg m) from congrArg paceS e)
  have a5 : limS m' = limS m := (show limS (pg m') = limS (pg m) from congrArg limS e)
  unfold tkM
  rw [a1, a2, a3, a4, a5]
/-- what is laid stays laid under another state -/
theorem LD.re {tol j p : Int} {g : Hp} (D : LD m tol j p g) (e : pg m' = pg m) (e40 : m' 113 40 = g 113 40) (e41 : m' 113 41 = g 113 41) (ec : ∀ c, 132 ≤ c → c ≤ 137 → m' c = g c) : LD m' tol j p m' := by
  have a1 : nB m' = nB m := (show nB (pg m') = nB (pg m) from congrArg nB e)
  have a2 : rchS m' = rchS m := by rw [← pg_rch (h := m'), e, pg_rch]
  have a3 : lb m' = lb m := (show lb (pg m') = lb (pg m) from congrArg lb e)
  have a4 : paceS m' = paceS m := (show paceS (pg m') = paceS (pg m) from congrArg paceS e)
  have a5 : limS m' = limS m := (show limS (pg m') = limS (pg m) from congrArg limS e)
  have a6 : cutS m' = cutS m := (show cutS (pg m') = cutS (pg m) from congrArg cutS e)
  have a7 : shp m' = shp m := (show shp (pg m') = shp (pg m) from congrArg shp e)
  obtain ⟨K, q1, q2, q3, q4⟩ := D
  refine ⟨KM.rf, by rw [e40]; exact q1, by rw [e41, a2]; exact q2, fun i i0 i1 => ?_, fun i i0 i1 i2 => ?_⟩
  · rw [ec 132 (by decide) (by decide), ec 133 (by decide) (by decide), ec 134 (by decide) (by decide), a3, a5]
    exact q3 i i0 (by rw [← a1]; exact i1)
  · rw [ec 135 (by decide) (by decide), ec 136 (by decide) (by decide), ec 137 (by decide) (by decide), a4, a6, a7]
    exact q4 i i0 i1 (by rw [← a1]; exact i2)
/-- between two ticks -/
def TI (m h : Hp) : Prop := Inv2 m h ∧ LD m (m 115 7) (m 115 6) (m 113 45) m ∧ MQr m (now m) ∧ m 113 52 = m 113 47
theorem tick1 (hn : 5000 ≤ n) (T : TI m h) : ∃ h1 h2 m1 m2, MX5_note 64 h = some h1 ∧ (∃ b, MX1_tick n 50 64 h1 = some (b, h2)) ∧ MX12_remembers n m = some m1 ∧ MX12_tick n m1 = some m2 ∧ (∀ c, c < 0 ∨ 113 ≤ c → up h2 64 6 (w32 (h2 64 6 + 1)) c = h c) ∧ (∀ c, c < 113 → up (up (up (up m2 113 42 (m2 113 48)) 113 43 (m2 113 49)) 113 44 (m2 113 50)) 113 46 (w32 (m2 113 46 + 1)) c = m c) ∧ TI (up (up (up (up m2 113 42 (m2 113 48)) 113 43 (m2 113 49)) 113 44 (m2 113 50)) 113 46 (w32 (m2 113 46 + 1))) (up h2 64 6 (w32 (h2 64 6 + 1))) := by
  obtain ⟨I, D, Mq, x52⟩ := T
  have H := I.wf
  have hj := H.2.2.1
  have E := env_ok H (tol := m 115 7) (p := m 113 45) hj
  have w := I.w
  have R := I.rg.2.1
  have N := I.nw
  have L := I.mnw
  obtain ⟨h1, m1, e1, e2, a, b, C, M⟩ := noted (n := n) (by omega) I
  have ep1 := b.p
  have C1 : CDr m h1 := I.dr.mv w.1 rfl rfl (by rw [a.lo R (by decide)]) (fun c _ _ => a.lo R (by omega)) (fun c _ _ _ => a.lo R (by omega)) (I.f5.mv (a.lo R (by decide)))
  have w1 : h1 0 2 = h 0 2 := by rw [a.lo R (by decide)]
  have h64 : h1 64 = h 64 := a.lo R (by decide)
  have Q1 : CQ m h1 64 (now m) := by
    have N1 := N.1
    unfold CR at N1
    unfold CQ CR
    rw [h64]
    exact N1
  obtain ⟨h2, t2, F2, FC2, Q2⟩ := tick_cq (n := n) (D := 50) (x := 64) (hd := m 113 47 ≠ 0) (by omega) H hj C1.1 (by decide) Q1 I.rsq (by rw [h64, N.2.2.1])
  have r15 : m1 115 = m 115 := congrFun ep1 115
  have D1 : LD m1 (m 115 7) (m 115 6) (m 113 45) m1 := D.re ep1 (b.2.1 40 (by decide)) (b.2.1 41 (by decide)) (fun c c0 c1 => b.1 c (by omega) (by omega))
  have Mq1 : MQr m1 (now m) := by
    unfold MQr MR at Mq ⊢
    rw [b.2.1 48 (by decide), b.2.1 49 (by decide), b.2.1 50 (by decide)]
    exact Mq
  have S1 : RSq (nB m1) (m 115 6) (rchS m1 (m 115 6)) (ee m1) (now m) := by
    have q := pg_rst ep1 L.2.2
    unfold RSt at q
    rw [r15] at q
    exact q
  obtain ⟨m2, t3, F3, Q3, -⟩ := tick_mq (n := n) (hd := m 113 47 ≠ 0) (by omega) (pg_wf2 ep1 H) hj D1 Mq1 S1 (by rw [b.2.1 52 (by decide), x52])
  have Q2' : CQ m h2 64 (tkM m (m 115 7) (m 115 6) (m 113 45) (m 113 47 ≠ 0) (now m)) := Q2
  have Q3' : MQr m2 (tkM m (m 115 7) (m 115 6) (m 113 45) (m 113 47 ≠ 0) (now m)) := by
    have : MQr m2 (tkM m1 (m 115 7) (m 115 6) (m 113 45) (m 113 47 ≠ 0) (now m)) := Q3
    rw [tkM_pg ep1] at this
    exact this
  have St : RSq (nB m) (m 115 6) (rchS m (m 115 6)) (ee m) (tkM m (m 115 7) (m 115 6) (m 113 45) (m 113 47 ≠ 0) (now m)) := RSq_tk E I.rsq
  have V1 : m2 113 48 = (tkM m (m 115 7) (m 115 6) (m 113 45) (m 113 47 ≠ 0) (now m)).1 := Q3'.1
  have V2 : m2 113 49 = (tkM m (m 115 7) (m 115 6) (m 113 45) (m 113 47 ≠ 0) (now m)).2.1 := Q3'.2.1
  have V3 : m2 113 50 = (tkM m (m 115 7) (m 115 6) (m 113 45) (m 113 47 ≠ 0) (now m)).2.2 := Q3'.2.2
  have lo3 : ∀ c, c ≠ 51 → c ≠ 64 → c < 66 ∨ c = 67 ∨ 87 < c → up h2 64 6 (w32 (h2 64 6 + 1)) c = h c := fun c c0 c1 c2 => by rw [up_ne c1, F2.1 c c1 (by omega), a.lo R c2]
  have k64 : ∀ i, (i < 0 ∨ 3 < i) → h2 64 i = h 64 i := fun i hi => by rw [F2.2 i hi, h64]
  have mo3 : ∀ c, c ≠ 113 → up (up (up (up m2 113 42 (m2 113 48)) 113 43 (m2 113 49)) 113 44 (m2 113 50)) 113 46 (w32 (m2 113 46 + 1)) c = m1 c := fun c c0 => by rw [up_ne c0, up_ne c0, up_ne c0, up_ne c0, F3.1 c c0]
  have mf3 : ∀ i, (i < 42 ∨ 44 < i) → i ≠ 46 → up (up (up (up m2 113 42 (m2 113 48)) 113 43 (m2 113 49)) 113 44 (m2 113 50)) 113 46 (w32 (m2 113 46 + 1)) 113 i = m2 113 i := fun i i0 i1 => by rw [up_i i1, up_i (by omega), up_i (by omega), up_i (by omega)]
  have z42 : up (up (up (up m2 113 42 (m2 113 48)) 113 43 (m2 113 49)) 113 44 (m2 113 50)) 113 46 (w32 (m2 113 46 + 1)) 113 42 = m2 113 48 := by rw [up_i (by decide), up_i (by decide), up_i (by decide), up_at]
  have z43 : up (up (up (up m2 113 42 (m2 113 48)) 113 43 (m2 113 49)) 113 44 (m2 113 50)) 113 46 (w32 (m2 113 46 + 1)) 113 43 = m2 113 49 := by rw [up_i (by decide), up_i (by decide), up_at]
  have z44 : up (up (up (up m2 113 42 (m2 113 48)) 113 43 (m2 113 49)) 113 44 (m2 113 50)) 113 46 (w32 (m2 113 46 + 1)) 113 44 = m2 113 50 := by rw [up_i (by decide), up_at]
  have z46 : up (up (up (up m2 113 42 (m2 113 48)) 113 43 (m2 113 49)) 113 44 (m2 113 50)) 113 46 (w32 (m2 113 46 + 1)) 113 46 = w32 (m 113 46 + 1) := by rw [up_at, F3.2 46 (by decide), b.2.1 46 (by decide)]
  have mg3 : ∀ i, (i < 42 ∨ 44 < i) → i ≠ 46 → (i < 48 ∨ 51 < i) → i ≠ 54 → up (up (up (up m2 113 42 (m2 113 48)) 113 43 (m2 113 49)) 113 44 (m2 113 50)) 113 46 (w32 (m2 113 46 + 1)) 113 i = m 113 i := fun i i0 i1 i2 i3 => by rw [mf3 i i0 i1, F3.2 i i2, b.2.1 i i3]
  have g54 : up (up (up (up m2 113 42 (m2 113 48)) 113 43 (m2 113 49)) 113 44 (m2 113 50)) 113 46 (w32 (m2 113 46 + 1)) 113 54 = m1 113 54 := by rw [mf3 54 (by decide) (by decide), F3.2 54 (by decide)]
  refine ⟨h1, h2, m1, m2, e1, ⟨_, t2⟩, e2, t3, fun c c0 => lo3 c (by omega) (by omega) (by omega), fun c c0 => by rw [mo3 c (by omega), b.1 c (by omega) (by omega)], ?_⟩
  generalize up (up (up (up m2 113 42 (m2 113 48)) 113 43 (m2 113 49)) 113 44 (m2 113 50)) 113 46 (w32 (m2 113 46 + 1)) = m3 at mo3 mf3 z42 z43 z44 z46 mg3 g54
  have mo : ∀ c, c ≠ 113 → c ≠ 138 → m3 c = m c := fun c c0 c1 => by rw [mo3 c c0, b.1 c c0 c1]
  have e3 : pg m3 = pg m := pg_of (mg3 _ (by decide) (by decide) (by decide) (by decide)) (mg3 _ (by decide) (by decide) (by decide) (by decide)) (mg3 _ (by decide) (by decide) (by decide) (by decide)) (mo _ (by decide) (by decide)) (mo _ (by decide) (by decide)) (mo _ (by decide) (by decide)) (mo _ (by decide) (by decide)) (mo _ (by decide) (by decide)) (mo _ (by decide) (by decide))
  have e31 : pg m3 = pg m1 := e3.trans ep1.symm
  have q15 : m3 115 = m 115 := congrFun e3 115
  have g45 := mg3 45 (by decide) (by decide) (by decide) (by decide)
  have g47 := mg3 47 (by decide) (by decide) (by decide) (by decide)
  have I3 : Inv2 m3 (up h2 64 6 (w32 (h2 64 6 + 1))) := by
    refine I.act e3 (mo _ (by decide) (by decide)) (mo _ (by decide) (by decide)) (mo _ (by decide) (by decide)) (mg3 _ (by decide) (by decide) (by decide) (by decide)) (fun c _ c1 c2 => lo3 c (by omega) (by omega) (by omega)) ?_ ?_ ?_ ?_ ?_ ?_ ?_
    · refine ⟨by rw [g45]; exact L.1, by rw [g47]; exact L.2.1, ?_⟩
      rw [z42, z43, z44, V1, V2, V3]
      exact pg_rst e3 St
    · exact M.mv e31 g54 (mo3 138 (by decide))
    · exact I.mmg.mv e3 (mo _ (by decide) (by decide)) (mo _ (by decide) (by decide))
    · exact I.dr.mv w.1 e3 g45 (by rw [lo3 0 (by decide) (by decide) (by decide)]) (fun c _ _ => lo3 c (by omega) (by omega) (by omega)) (fun c c0 c1 c2 => lo3 c c2 (by omega) (by omega)) (FC2.mv (up_ne (by decide)))
    · unfold CNw
      rw [z42, z43, z44, V1, V2, V3, g45, g47, z46, up_at, up_i (a := 64) (j := 4) (by decide), up_i (a := 64) (j := 5) (by decide), k64 4 (by decide), k64 5 (by decide), k64 6 (by decide), N.2.2.2]
      refine ⟨?_, N.2.1, N.2.2.1, rfl⟩
      have N1 := pg_cr e3 Q2'
      unfold CR at N1 ⊢
      rw [up_i (by decide), up_i (by decide), up_i (by decide), up_i (by decide)]
      exact N1
    · exact C.mv e31 g54 (mo3 138 (by decide)) (fun c c0 c1 => by rw [up_ne (by omega), F2.1 c (by omega) (by omega)])
    · exact I.mg.mv e3 (mo _ (by decide) (by decide)) (mo _ (by decide) (by decide)) (fun c _ _ => lo3 c (by omega) (by omega) (by omega))
  refine ⟨I3, ?_, ?_, ?_⟩
  · rw [q15, g45]
    exact D.re e3 (mg3 40 (by decide) (by decide) (by decide) (by decide)) (mg3 41 (by decide) (by decide) (by decide) (by decide)) (fun c c0 c1 => mo c (by omega) (by omega))
  · refine ⟨?_, ?_, ?_⟩
    · show m3 113 48 = m3 113 42
      rw [z42, mf3 48 (by decide) (by decide)]
    · show m3 113 49 = m3 113 43
      rw [z43, mf3 49 (by decide) (by decide)]
    · show m3 113 50 = m3 113 44
      rw [z44, mf3 50 (by decide) (by decide)]
  · rw [g47, mg3 52 (by decide) (by decide) (by decide) (by decide)]
    exact x52
theorem ticks_l (hn : 5000 ≤ n) {x : Int} : ∀ (r f : Nat) (k : Int) (m h : Hp), (r : Int) = x - k → 0 ≤ k → x ≤ 60 → r < f → TI m h → ∃ v h' m', BX11_ticks_32 n f x k h = some (v, h') ∧ BX12_ticks_34 n f x k m = some (v, m') ∧ (∀ c, c < 0 ∨ 113 ≤ c → h' c = h c) ∧ (∀ c, c < 113 → m' c = m c) ∧ Inv2 m' h'
  | 0, f + 1, k, m, h, hk, k0, hx, hf, T => ⟨m 113 42, h, m, by rw [BX11_ticks_32, if_pos (by omega), T.1.nw.1.1], by rw [BX12_ticks_34, if_pos (by omega)], fun _ _ => rfl, fun _ _ => rfl, T.1⟩
  | r + 1, f + 1, k, m, h, hk, k0, hx, hf, T => by
    have I := T.1
    have H := I.wf
    have hj := H.2.2.1
    have E := env_ok H (tol := m 115 7) (p := m 113 45) hj
    have dc : MX1_isDone 50 64 h = some (ci (dn (nB m) (ee m) (now m)) 1 0) := isDone_cq H I.ce (q := now m) I.nw.1 (RS.le E I.rsq)
    have dm : MX12_isDone m = some (ci (dn (nB m) (ee m) (now m)) 1 0) := isDone_mq H KM.rf T.2.2.1
    rw [BX11_ticks_32, BX12_ticks_34, if_neg (by omega), if_neg (by omega), dc, bndp_s, dm, bndp_s]
    by_cases d : dn (nB m) (ee m) (now m)
    · rw [ci_t d, if_pos (by decide), if_pos (by decide), I.nw.1.1]
      exact ⟨_, _, _, rfl, rfl, fun _ _ => rfl, fun _ _ => rfl, I⟩
    · obtain ⟨h1, h2, m1, m2, e1, ⟨b, e2⟩, e3, e4, f1, f2, T'⟩ := tick1 hn T
      obtain ⟨v, h', m', q1, q2, q3, q4, q5⟩ := ticks_l hn r f (k + 1) _ _ (by omega) (by omega) hx (by omega) T'
      have u1 : up m2 113 42 (m2 113 48) 113 49 = m2 113 49 := up_i (by decide)
      have u2 : up (up m2 113 42 (m2 113 48)) 113 43 (m2 113 49) 113 50 = m2 113 50 := by rw [up_i (by decide), up_i (by decide)]
      have u3 : up (up (up m2 113 42 (m2 113 48)) 113 43 (m2 113 49)) 113 44 (m2 113 50) 113 46 = m2 113 46 := by rw [up_i (by decide), up_i (by decide), up_i (by decide)]
      rw [ci_f d, if_neg (by decide), if_neg (by decide), e1, bndh_s, e2, bnd_s, ltt_e, ltt_e, e3, bndh_s, e4, bndh_s, ltt_e, u1, ltt_e, u2, ltt_e, u3, ltt_e, w32_i (x := k + 1) (by omega), ltt_e]
      exact ⟨v, h', m', q1, q2, fun c c0 => by rw [q3 c c0, f1 c c0], fun c c0 => by rw [q4 c c0, f2 c c0], q5⟩
theorem q_ticks (hn : 5000 ≤ n) (x : Int) : Two (MX11_ticks n x) (MX12_ticks n x) := fun m h I => by
  have H := I.wf
  have hj := H.2.2.1
  have E := env_ok H (tol := m 115 7) (p := m 113 45) hj
  unfold MX11_ticks MX12_ticks
  rw [in_m, bndp_s]
  by_cases c0 : x < 1
  · rw [if_pos c0, if_neg (c := 1 ≤ x ∧ x ≤ 60) (by omega), if_neg (by decide)]
    exact ⟨_, _, _, rfl, rfl, fun _ _ => rfl, fun _ _ => rfl, I⟩
  rw [if_neg c0]
  by_cases c1 : x ≤ 60
  · obtain ⟨g1, g2, a1, a2, -, D2, M2, x52⟩ := ride0 (n := n) (by omega) I
    have K := D2.km
    have K' := KQ.of K
    have e := K'.p
    have dc : MX1_isDone 50 64 h = some (ci (dn (nB m) (ee m) (now m)) 1 0) := isDone_cq H I.ce (q := now m) I.nw.1 (RS.le E I.rsq)
    have dm : MX12_isDone g2 = some (ci (dn (nB m) (ee m) (now m)) 1 0) := isDone_mq H K M2
    have A0 := I.ask K (h' := h) (fun _ _ _ _ => rfl) I.f5
    rw [if_pos c1, if_pos (c := 1 ≤ x ∧ x ≤ 60) (by omega), if_pos (c := (1 : Int) ≠ 0) (by decide), dc, bndp_s, a1, bndh_s, a2, bndh_s, dm, bndp_s]
    by_cases d : dn (nB m) (ee m) (now m)
    · rw [ci_t d, if_neg (by decide), if_neg (by decide)]
      exact ⟨_, _, _, rfl, rfl, A0⟩
    · have f : ∀ i : Int, i ≠ 40 → i ≠ 41 → (i < 48 ∨ 52 < i) → i ≠ 59 → g2 113 i = m 113 i := K.2
      have en : now g2 = now m := by
        unfold now
        rw [f 42 (by decide) (by decide) (by decide) (by decide), f 43 (by decide) (by decide) (by decide) (by decide), f 44 (by decide) (by decide) (by decide) (by decide)]
      have q15 : g2 115 = m 115 := K.r (by decide)
      have T : TI g2 h := by
        refine ⟨A0.2.2, ?_, by rw [en]; exact M2, by rw [f 47 (by decide) (by decide) (by decide) (by decide)]; exact x52⟩
        rw [q15, f 45 (by decide) (by decide) (by decide) (by decide)]
        exact D2.re e rfl rfl (fun _ _ _ => rfl)
      obtain ⟨v, h', m', q1, q2, q3, q4, q5⟩ := ticks_l (n := n) hn x.toNat n 0 g2 h (by omega) (by decide) c1 (by omega) T
      rw [ci_f d, if_pos rfl, if_pos rfl, ltt_e, ltt_e]
      exact ⟨v, h', m', q1, q2, q3, fun c c0 => by rw [q4 c c0, A0.2.1 c c0], q5⟩
  · rw [if_neg c1, if_neg (c := 1 ≤ x ∧ x ≤ 60) (by omega), if_neg (by decide)]
    exact ⟨_, _, _, rfl, rfl, fun _ _ => rfl, fun _ _ => rfl, I⟩
end
