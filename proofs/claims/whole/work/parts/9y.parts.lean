/-! THE PARTS OF WHAT IS ALWAYS TRUE, each moved alone. -/
def CDr (m h : Hp) : Prop := CE m h 50 (h 0 2) (m 115 7) (m 115 6) (m 113 45) ∧ h 52 2 = m 113 45 ∧ h 50 2 = rchS m (m 115 6)
def CTr (h : Hp) : Prop := FC h 57 (h 57 2) ∧ 1 ≤ h 57 2 ∧ h 57 2 ≤ 12
def CNw (m h : Hp) : Prop := CR m h 64 (m 113 42) (m 113 43) (m 113 44) ∧ h 64 4 = m 113 45 ∧ h 64 5 = m 113 47 ∧ h 64 6 = m 113 46
def CRg (m h : Hp) : Prop := h 66 2 = m 113 54 ∧ (0 ≤ h 66 1 ∧ h 66 1 < 20) ∧ ∀ k, 0 ≤ k → k < m 113 54 → SRo m h (68 + slot (h 66 1) (h 66 2) k) 138 (6 * k)
def CMg (m h : Hp) : Prop := ∀ k, 0 ≤ k → k < 3 → h 92 k = m 147 k ∧ (m 147 k = 1 → SRo m h (89 + k) 146 (6 * k))
def MRg (m : Hp) : Prop := (0 ≤ m 113 54 ∧ m 113 54 ≤ 20) ∧ ∀ k, 0 ≤ k → k < m 113 54 → RWo m 138 (6 * k)
def MMg (m : Hp) : Prop := ∀ k, 0 ≤ k → k < 3 → (m 147 k = 0 ∨ m 147 k = 1) ∧ (m 147 k = 1 → RWo m 146 (6 * k))
def MNw (m : Hp) : Prop := (1 ≤ m 113 45 ∧ m 113 45 ≤ 200) ∧ (m 113 47 = 0 ∨ m 113 47 = 1) ∧ RSt m (m 113 42) (m 113 43) (m 113 44)
theorem mkInv {h : Hp} (H : WFp h) (a : MNw h) (b : MRg h) (c : MMg h) (d : (h 0 2 = 1 ∨ h 0 2 = 14) ∧ h 0 3 = 15 - h 0 2) (e : CDr h h) (f : CTr h) (g : CNw h h) (i : CRg h h) (j : CMg h h) (k : RSh h h (h 0 2)) (l : RK h h) (o : RLs h) (p : TPR h h) : Inv h :=
  ⟨⟨H, a.1, a.2.1, a.2.2, b.1, b.2, c, fun k k0 k1 => (l k k0 k1).2.1⟩, d, e, f, g, i, j, k, l, o, p⟩
theorem Inv.mnw {h : Hp} (I : Inv h) : MNw h := ⟨I.1.2.1, I.1.2.2.1, I.1.2.2.2.1⟩
theorem Inv.mrg {h : Hp} (I : Inv h) : MRg h := ⟨I.1.2.2.2.2.1, I.1.2.2.2.2.2.1⟩
theorem Inv.mmg {h : Hp} (I : Inv h) : MMg h := I.1.2.2.2.2.2.2.1
theorem Inv.w {h : Hp} (I : Inv h) : (h 0 2 = 1 ∨ h 0 2 = 14) ∧ h 0 3 = 15 - h 0 2 := I.2.1
theorem Inv.dr {h : Hp} (I : Inv h) : CDr h h := I.2.2.1
theorem Inv.tr {h : Hp} (I : Inv h) : CTr h := I.2.2.2.1
theorem Inv.nw {h : Hp} (I : Inv h) : CNw h h := I.2.2.2.2.1
theorem Inv.rg {h : Hp} (I : Inv h) : CRg h h := I.2.2.2.2.2.1
theorem Inv.mg {h : Hp} (I : Inv h) : CMg h h := I.2.2.2.2.2.2.1
theorem Inv.tp {h : Hp} (I : Inv h) : TPR h h := I.2.2.2.2.2.2.2.2.2.2
section
variable {m m' h h' : Hp}
theorem MNw.mv (M : MNw m) (e : pg m' = pg m) (f : ∀ i, 42 ≤ i → i ≤ 47 → i ≠ 46 → m' 113 i = m 113 i) : MNw m' := by
  unfold MNw at M ⊢
  rw [f 45 (by decide) (by decide) (by decide), f 47 (by decide) (by decide) (by decide), f 42 (by decide) (by decide) (by decide), f 43 (by decide) (by decide) (by decide), f 44 (by decide) (by decide) (by decide)]
  exact ⟨M.1, M.2.1, pg_rst e M.2.2⟩
theorem MRg.mv (M : MRg m) (e : pg m' = pg m) (e5 : m' 113 54 = m 113 54) (e8 : m' 138 = m 138) : MRg m' := by
  refine ⟨by rw [e5]; exact M.1, fun k k0 k1 => ?_⟩
  rw [e5] at k1
  exact (M.2 k k0 k1).mv e (fun z _ _ => by rw [e8])
theorem MMg.mv (M : MMg m) (e : pg m' = pg m) (e6 : m' 146 = m 146) (e7 : m' 147 = m 147) : MMg m' := fun k k0 k1 => by
  rw [e7]
  exact ⟨(M k k0 k1).1, fun q => ((M k k0 k1).2 q).mv e (fun z _ _ => by rw [e6])⟩
theorem CDr.mv (C : CDr m h) (hw : h 0 2 = 1 ∨ h 0 2 = 14) (e : pg m' = pg m) (e4 : m' 113 45 = m 113 45) (g0 : h' 0 2 = h 0 2) (gw : ∀ c, h 0 2 ≤ c → c ≤ h 0 2 + 12 → h' c = h c) (g : ∀ c, 50 ≤ c → c ≤ 55 → c ≠ 51 → h' c = h c) (F50 : FC h' 50 (rchS m (m 115 6))) : CDr m' h' := by
  obtain ⟨b2, b2', b2''⟩ := C
  have r7 : m' 115 = m 115 := congrFun e 115
  refine ⟨?_, ?_, ?_⟩
  · rw [g0, r7, e4]
    refine pg_ce e ?_
    obtain ⟨q1, q2, q3, q4, q5, q6⟩ := b2
    refine ⟨q1, q2.mv gw, by rw [g (50 + 2) (by decide) (by decide) (by decide)]; exact q3, ?_, fun i i0 i1 => by rw [g (50 + 2 + 1) (by decide) (by decide) (by decide)]; exact q5 i i0 i1, F50⟩
    unfold RLc at q4 ⊢
    rw [g (50 + 2) (by decide) (by decide) (by decide), g (50 + 2 + 2) (by decide) (by decide) (by decide), g (50 + 2 + 3) (by decide) (by decide) (by decide)]
    exact q4
  · rw [g 52 (by decide) (by decide) (by decide), e4]
    exact b2'
  · rw [g 50 (by decide) (by decide) (by decide), r7, ← pg_rch, e, pg_rch]
    exact b2''
theorem CTr.mv (C : CTr h) (g7 : h' 57 2 = h 57 2) (g8 : h' 58 = h 58) : CTr h' := by
  refine ⟨?_, by rw [g7]; exact C.2⟩
  rw [g7]
  exact C.1.mv g8
theorem CNw.mv (C : CNw m h) (e : pg m' = pg m) (f : ∀ i, 42 ≤ i → i ≤ 47 → m' 113 i = m 113 i) (g : ∀ i, 0 ≤ i → i ≤ 6 → h' 64 i = h 64 i) : CNw m' h' := by
  unfold CNw CR at C ⊢
  have a1 : nB m' = nB m := (show nB (pg m') = nB (pg m) from congrArg nB e)
  have a3 : ee m' = ee m := (show ee (pg m') = ee (pg m) from congrArg ee e)
  rw [a1, a3, f 42 (by decide) (by decide), f 43 (by decide) (by decide), f 44 (by decide) (by decide), f 45 (by decide) (by decide), f 46 (by decide) (by decide), f 47 (by decide) (by decide), g 0 (by decide) (by decide), g 1 (by decide) (by decide), g 2 (by decide) (by decide), g 3 (by decide) (by decide), g 4 (by decide) (by decide), g 5 (by decide) (by decide), g 6 (by decide) (by decide)]
  exact C
theorem CRg.mv (C : CRg m h) (e : pg m' = pg m) (e5 : m' 113 54 = m 113 54) (e8 : m' 138 = m 138) (g : ∀ c, 66 ≤ c → c ≤ 87 → h' c = h c) : CRg m' h' := by
  obtain ⟨b5, b5', b5''⟩ := C
  refine ⟨by rw [g 66 (by decide) (by decide), e5]; exact b5, by rw [g 66 (by decide) (by decide)]; exact b5', fun k k0 k1 => ?_⟩
  rw [e5] at k1
  rw [g 66 (by decide) (by decide)]
  have sl := slot_ok (x := h 66 1) (y := h 66 2) (k := k)
  exact (b5'' k k0 k1).mv e (fun z _ _ => by rw [e8]) (g _ (by omega) (by omega))
theorem CMg.mv (C : CMg m h) (e : pg m' = pg m) (e6 : m' 146 = m 146) (e7 : m' 147 = m 147) (g : ∀ c, 89 ≤ c → c ≤ 92 → h' c = h c) : CMg m' h' := fun k k0 k1 => by
  rw [e7, g 92 (by decide) (by decide)]
  exact ⟨(C k k0 k1).1, fun q => ((C k k0 k1).2 q).mv e (fun z _ _ => by rw [e6]) (g _ (by omega) (by omega))⟩
theorem RSh.mv2 {w : Int} (C : RSh m h w) (e : pg m' = pg m) (g : ∀ c, 39 ≤ c → c ≤ 49 → h' c = h c) : RSh m' h' w := by
  refine pg_sh e ?_
  unfold RSh CSp CFi CLy CM at C ⊢
  rw [g 39 (by decide) (by decide), g (41 + 0) (by decide) (by decide), g (41 + 1) (by decide) (by decide), g (41 + 2) (by decide) (by decide), g 44 (by decide) (by decide), g 46 (by decide) (by decide), g 47 (by decide) (by decide), g 48 (by decide) (by decide), g 49 (by decide) (by decide)]
  exact C
theorem RK.mv (C : RK m h) (e3 : m' 143 = m 143) (e4 : m' 144 = m 144) (g : ∀ c, 94 ≤ c → c ≤ 109 → h' c = h c) : RK m' h' := fun k k0 k1 => by
  obtain ⟨q1, q2, q3⟩ := C k k0 k1
  rw [e4, g (94 + 8 * k) (by omega) (by omega)]
  refine ⟨q1, q2, fun i z i0 i1 z0 z1 => ?_⟩
  rw [g (94 + 8 * k + 2 + z) (by omega) (by omega), q3 i z i0 i1 z0 z1]
  unfold kl
  rw [e3]
theorem TPR.mv (C : TPR h m) (g1 : h' 27 1 = h 27 1) (g2 : h' 28 = h 28) (e2 : m' 113 20 = m 113 20) (e7 : m' 127 = m 127) : TPR h' m' := by
  unfold TPR at C ⊢
  rw [g1, g2, e2, e7]
  exact C
end
theorem q_keep {n : Nat} {h : Hp} (hn : 100 ≤ n) (I : Inv h) (k : Int) : ∃ v h1 h2, MX11_keep n k h = some (v, h1) ∧ MX12_keep n k h1 = some (v, h2) ∧ Inv h2 ∧ SE h h1 ∧ SE h h2 := by
  have hB := I.wf.1
  obtain ⟨h1, e1, A, A'⟩ := keep_a hn I.wf I.2.1.1 I.rw I.sh k
  by_cases hk : 0 ≤ k ∧ k ≤ 1
  · obtain ⟨⟨F, F'⟩, K1⟩ := A hk
    have hi : ∀ c, 113 ≤ c → h1 c = h c := fun c c0 => F c (by omega)
    have ep : pg h1 = pg h := KQ.p (KQ.lo hi)
    obtain ⟨h2, e2, B, -⟩ := keep_b hn (pg_wf2 ep I.wf) k
    obtain ⟨⟨B1, B1', B1''⟩, B2, B3⟩ := B hk
    have g : ∀ c, c ≠ 143 → c ≠ 144 → (c < 94 + 8 * k ∨ 94 + 8 * k + 7 < c) → h2 c = h c := fun c c1 c2 c3 => by rw [B1 c c1 c2, F c c3]
    have e : pg h2 = pg h := pg_of (by rw [g 113 (by decide) (by decide) (by omega)]) (by rw [g 113 (by decide) (by decide) (by omega)]) (by rw [g 113 (by decide) (by decide) (by omega)]) (g _ (by decide) (by decide) (by omega)) (g _ (by decide) (by decide) (by omega)) (g _ (by decide) (by decide) (by omega)) (g _ (by decide) (by decide) (by omega)) (g _ (by decide) (by decide) (by omega)) (g _ (by decide) (by decide) (by omega))
    have eN : nB h1 = nB h := congrFun (hi 113 (by decide)) 6
    have ek : kpN h1 = kpN h := by funext i; rw [← pg_kpN (h := h1), ep, pg_kpN]
    have e22 : h1 122 = h 122 := hi 122 (by decide)
    have ef : flk h1 = flk h := (show flk (pg h1) = flk (pg h) from congrArg flk ep)
    rw [eN, ek] at B3
    refine ⟨_, h1, h2, e1, by rw [e2, pg_keep ep], ?_, SE.fr (fun c _ => F c (by omega)), SE.fr (fun c _ => g c (by omega) (by omega) (by omega))⟩
    refine mkInv (pg_wf2 e I.wf) (I.mnw.mv e fun i _ _ _ => by rw [g 113 (by decide) (by decide) (by omega)]) (I.mrg.mv e (by rw [g 113 (by decide) (by decide) (by omega)]) (g _ (by decide) (by decide) (by omega))) (I.mmg.mv e (g _ (by decide) (by decide) (by omega)) (g _ (by decide) (by decide) (by omega))) (by rw [g 0 (by decide) (by decide) (by omega)]; exact I.w) ?_ ?_ ?_ ?_ ?_ ?_ ?_ ?_ ?_
    · exact I.dr.mv I.w.1 e (by rw [g 113 (by decide) (by decide) (by omega)]) (by rw [g 0 (by decide) (by decide) (by omega)]) (fun c c0 c1 => g c (by have := I.w.1; omega) (by have := I.w.1; omega) (by have := I.w.1; omega)) (fun c c0 c1 _ => g c (by omega) (by omega) (by omega)) (I.f5.mv (g _ (by decide) (by decide) (by omega)))
    · exact I.tr.mv (by rw [g 57 (by decide) (by decide) (by omega)]) (g _ (by decide) (by decide) (by omega))
    · exact I.nw.mv e (fun i _ _ => by rw [g 113 (by decide) (by decide) (by omega)]) (fun i _ _ => by rw [g 64 (by decide) (by decide) (by omega)])
    · exact I.rg.mv e (by rw [g 113 (by decide) (by decide) (by omega)]) (g _ (by decide) (by decide) (by omega)) (fun c _ _ => g _ (by omega) (by omega) (by omega))
    · exact I.mg.mv e (g _ (by decide) (by decide) (by omega)) (g _ (by decide) (by decide) (by omega)) (fun c _ _ => g _ (by omega) (by omega) (by omega))
    · rw [g 0 (by decide) (by decide) (by omega)]
      exact I.sh.mv2 e (fun c _ _ => g _ (by omega) (by omega) (by omega))
    · intro q q0 q1
      by_cases hq : q = k
      · subst hq
        have kb := kpN_b (m := h) (nB h).toNat
        rw [B3]
        refine ⟨?_, by omega, fun i z i0 i1 z0 z1 => ?_⟩
        · rw [if_neg (by omega), B1 _ (by omega) (by omega)]
          exact K1.1
        · obtain ⟨b, b1, b2, b3⟩ := kpN_ex (m := h) _ i i0 i1
          have c1 := K1.2 b b1 b2 z z0 z1
          have c2 := B2 b (by rw [eN]; exact b1) (by rw [ef]; exact b2) z z0 z1
          rw [b3] at c1
          rw [ek, e22, b3] at c2
          rw [B1 _ (by omega) (by omega), c1]
          exact c2.symm
      · obtain ⟨c1, c2, c3⟩ := I.rk q q0 q1
        have e4 : h2 144 q = h 144 q := by rw [B1' q hq, hi 144 (by decide)]
        have gg : ∀ z, 0 ≤ z → z ≤ 7 → h2 (94 + 8 * q + z) = h (94 + 8 * q + z) := fun z z0 z1 => g _ (by omega) (by omega) (by omega)
        have gg0 := gg 0 (by decide) (by decide)
        rw [Int.add_zero] at gg0
        rw [e4, gg0]
        refine ⟨c1, c2, fun i z i0 i1 z0 z1 => ?_⟩
        have := gg (2 + z) (by omega) (by omega)
        rw [← Int.add_assoc] at this
        rw [this, c3 i z i0 i1 z0 z1]
        unfold kl
        rw [B1'' _ (by omega), hi 143 (by decide)]
    · exact I.rl.mv (g _ (by decide) (by decide) (by omega)) (g _ (by decide) (by decide) (by omega))
    · exact I.tp.mv (by rw [g 27 (by decide) (by decide) (by omega)]) (g _ (by decide) (by decide) (by omega)) (by rw [g 113 (by decide) (by decide) (by omega)]) (g _ (by decide) (by decide) (by omega))
  · have q := A' hk
    subst q
    obtain ⟨h2, e2, -, B⟩ := keep_b hn I.wf k
    have q := B hk
    subst q
    exact ⟨_, _, _, e1, e2, I, ⟨rfl, rfl⟩, ⟨rfl, rfl⟩⟩
