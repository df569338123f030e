/-- the model but for the scratch of its questions -/
def KQ (m h : Hp) : Prop := (∀ c : Int, 113 < c → (c < 132 ∨ 137 < c) → (c < 139 ∨ 142 < c) → c ≠ 145 → h c = m c) ∧ ∀ i : Int, i ≠ 40 → i ≠ 41 → (i < 48 ∨ 52 < i) → i ≠ 59 → h 113 i = m 113 i
theorem KQ.of {m h : Hp} (K : KM m h) : KQ m h := ⟨fun c c0 c1 c2 c3 => K.1 c (by omega) c1 c2 c3, K.2⟩
theorem KQ.rf {h : Hp} : KQ h h := ⟨fun _ _ _ _ _ => rfl, fun _ _ _ _ _ => rfl⟩
theorem KQ.lo {m h : Hp} (hc : ∀ c, 113 ≤ c → h c = m c) : KQ m h := ⟨fun c c0 _ _ _ => hc c (by omega), fun i _ _ _ _ => by rw [hc 113 (by decide)]⟩
theorem KQ.tr {a b c : Hp} (K : KQ a b) (L : KQ b c) : KQ a c := ⟨fun x c0 c1 c2 c3 => (L.1 x c0 c1 c2 c3).trans (K.1 x c0 c1 c2 c3), fun i i0 i1 i2 i3 => (L.2 i i0 i1 i2 i3).trans (K.2 i i0 i1 i2 i3)⟩
theorem pg_of {m h : Hp} (e5 : h 113 5 = m 113 5) (e6 : h 113 6 = m 113 6) (e7 : h 113 7 = m 113 7) (e15 : h 115 = m 115) (e22 : h 122 = m 122) (e23 : h 123 = m 123) (e24 : h 124 = m 124) (e25 : h 125 = m 125) (e26 : h 126 = m 126) : pg h = pg m := by
  unfold pg
  rw [e5, e6, e7, e15, e22, e23, e24, e25, e26]
theorem KQ.p {m h : Hp} (K : KQ m h) : pg h = pg m := pg_of (K.2 5 (by decide) (by decide) (by decide) (by decide)) (K.2 6 (by decide) (by decide) (by decide) (by decide)) (K.2 7 (by decide) (by decide) (by decide) (by decide)) (K.1 115 (by decide) (by decide) (by decide) (by decide)) (K.1 122 (by decide) (by decide) (by decide) (by decide)) (K.1 123 (by decide) (by decide) (by decide) (by decide)) (K.1 124 (by decide) (by decide) (by decide) (by decide)) (K.1 125 (by decide) (by decide) (by decide) (by decide)) (K.1 126 (by decide) (by decide) (by decide) (by decide))
theorem pg_wf2 {m m' : Hp} (e : pg m' = pg m) (H : WFp m) : WFp m' := by
  have : WFp (pg m') = WFp (pg m) := congrArg WFp e
  exact this.symm.mp H
theorem pg_rw2 {m m' h : Hp} {w : Int} (e : pg m' = pg m) (R : RW m h w) : RW m' h w := by
  have : RW (pg m') h w = RW (pg m) h w := congrArg (fun x => RW x h w) e
  exact this.symm.mp R
theorem pg_cr {m m' h : Hp} {x s w u : Int} (e : pg m' = pg m) (R : CR m h x s w u) : CR m' h x s w u := by
  have : CR (pg m') h x s w u = CR (pg m) h x s w u := congrArg (fun z => CR z h x s w u) e
  exact this.symm.mp R
theorem RWo.mv {m m' : Hp} {c r : Int} (e : pg m' = pg m) (ec : ∀ z, 0 ≤ z → z < 5 → m' c (r + z) = m c (r + z)) (R : RWo m c r) : RWo m' c r := by
  have e0 := ec 0 (by decide) (by decide)
  rw [Int.add_zero] at e0
  unfold RWo at R ⊢
  rw [e0, ec 1 (by decide) (by decide), ec 2 (by decide) (by decide), ec 3 (by decide) (by decide), ec 4 (by decide) (by decide)]
  exact ⟨pg_rst e R.1, R.2⟩
theorem SRo.mv {m m' h h' : Hp} {x c r : Int} (e : pg m' = pg m) (ec : ∀ z, 0 ≤ z → z < 6 → m' c (r + z) = m c (r + z)) (hx : h' x = h x) (R : SRo m h x c r) : SRo m' h' x c r := by
  have e0 := ec 0 (by decide) (by decide)
  rw [Int.add_zero] at e0
  unfold SRo at R ⊢
  rw [e0, ec 1 (by decide) (by decide), ec 2 (by decide) (by decide), ec 3 (by decide) (by decide), ec 4 (by decide) (by decide), ec 5 (by decide) (by decide)]
  unfold CR at R ⊢
  rw [hx]
  exact ⟨pg_cr (h := h) e R.1, R.2⟩
theorem MI.mv {m m' : Hp} (K : KQ m m') (I : MI m) : MI m' := by
  obtain ⟨a1, a2, a3, a4, a5, a6, a7, a8⟩ := I
  have e := K.p
  have f : ∀ i : Int, i ≠ 40 → i ≠ 41 → (i < 48 ∨ 52 < i) → i ≠ 59 → m' 113 i = m 113 i := K.2
  have r1 : m' 138 = m 138 := K.1 138 (by decide) (by decide) (by decide) (by decide)
  have r2 : m' 146 = m 146 := K.1 146 (by decide) (by decide) (by decide) (by decide)
  have r3 : m' 147 = m 147 := K.1 147 (by decide) (by decide) (by decide) (by decide)
  have r4 : m' 144 = m 144 := K.1 144 (by decide) (by decide) (by decide) (by decide)
  refine ⟨pg_wf2 e a1, by rw [f 45 (by decide) (by decide) (by decide) (by decide)]; exact a2, by rw [f 47 (by decide) (by decide) (by decide) (by decide)]; exact a3, ?_, by rw [f 54 (by decide) (by decide) (by decide) (by decide)]; exact a5, fun k k0 k1 => ?_, fun k k0 k1 => ?_, fun k k0 k1 => by rw [r4]; exact a8 k k0 k1⟩
  · rw [f 42 (by decide) (by decide) (by decide) (by decide), f 43 (by decide) (by decide) (by decide) (by decide), f 44 (by decide) (by decide) (by decide) (by decide)]
    exact pg_rst e a4
  · rw [f 54 (by decide) (by decide) (by decide) (by decide)] at k1
    exact (a6 k k0 k1).mv e (fun z _ _ => by rw [r1])
  · rw [r3]
    exact ⟨(a7 k k0 k1).1, fun q => ((a7 k k0 k1).2 q).mv e (fun z _ _ => by rw [r2])⟩
theorem slot_ok {x y k : Int} : 0 ≤ slot x y k ∧ slot x y k < 20 := by
  unfold slot
  omega
theorem FC.mv {h h' : Hp} {D R : Int} (F : FC h D R) (e : h' (D + 1) = h (D + 1)) : FC h' D R := fun w u a b c d => by
  rw [e]
  exact F w u a b c d
/-- the class's scratch and that of the model's questions may change -/
theorem CI.mv {m m' h h' : Hp} (K : KQ m m') (hc : ∀ c, c < 113 → ¬ scr c → h' c = h c) (F50 : FC h' 50 (rchS m (m 115 6))) (F57 : FC h' 57 (h' 57 2) ∧ 1 ≤ h' 57 2 ∧ h' 57 2 ≤ 12) (hL : RLs h') (I : CI m h) : CI m' h' := by
  obtain ⟨b1, ⟨b2, b2', b2''⟩, b3, b4, ⟨b5, b5', b5''⟩, b6, b7, b8, b9, b10⟩ := I
  have e := K.p
  have f : ∀ i : Int, i ≠ 40 → i ≠ 41 → (i < 48 ∨ 52 < i) → i ≠ 59 → m' 113 i = m 113 i := K.2
  have r1 : m' 138 = m 138 := K.1 138 (by decide) (by decide) (by decide) (by decide)
  have r2 : m' 146 = m 146 := K.1 146 (by decide) (by decide) (by decide) (by decide)
  have r3 : m' 147 = m 147 := K.1 147 (by decide) (by decide) (by decide) (by decide)
  have r4 : m' 144 = m 144 := K.1 144 (by decide) (by decide) (by decide) (by decide)
  have r5 : m' 143 = m 143 := K.1 143 (by decide) (by decide) (by decide) (by decide)
  have r6 : m' 127 = m 127 := K.1 127 (by decide) (by decide) (by decide) (by decide)
  have r7 : m' 115 = m 115 := K.1 115 (by decide) (by decide) (by decide) (by decide)
  have g : ∀ c, c < 51 ∨ (51 < c ∧ c < 56) ∨ c = 64 ∨ (65 < c ∧ c < 110) → h' c = h c := fun c q => hc c (by omega) (by unfold scr; omega)
  have gw : ∀ c, h 0 2 ≤ c → c ≤ h 0 2 + 12 → h' c = h c := fun c c0 c1 => g c (by omega)
  refine ⟨by rw [g 0 (by decide)]; exact b1, ⟨?_, ?_, ?_⟩, F57, ⟨?_, ?_, ?_, ?_⟩, ⟨?_, ?_, fun k k0 k1 => ?_⟩, fun k k0 k1 => ?_, ?_, ?_, hL, ?_⟩
  · rw [g 0 (by decide), r7, f 45 (by decide) (by decide) (by decide) (by decide)]
    refine pg_ce e ?_
    obtain ⟨q1, q2, q3, q4, q5, q6⟩ := b2
    refine ⟨q1, q2.mv gw, by rw [g (50 + 2) (by decide)]; exact q3, ?_, fun i i0 i1 => by rw [g (50 + 2 + 1) (by decide)]; exact q5 i i0 i1, F50⟩
    unfold RLc at q4 ⊢
    rw [g (50 + 2) (by decide), g (50 + 2 + 2) (by decide), g (50 + 2 + 3) (by decide)]
    exact q4
  · rw [g 52 (by decide), f 45 (by decide) (by decide) (by decide) (by decide)]
    exact b2'
  · rw [g 50 (by decide), r7, ← pg_rch, e, pg_rch]
    exact b2''
  · rw [f 42 (by decide) (by decide) (by decide) (by decide), f 43 (by decide) (by decide) (by decide) (by decide), f 44 (by decide) (by decide) (by decide) (by decide)]
    refine pg_cr e ?_
    have := b4.1
    unfold CR at this ⊢
    rw [g 64 (by decide)]
    exact this
  · rw [g 64 (by decide), f 45 (by decide) (by decide) (by decide) (by decide)]
    exact b4.2.1
  · rw [g 64 (by decide), f 47 (by decide) (by decide) (by decide) (by decide)]
    exact b4.2.2.1
  · rw [g 64 (by decide), f 46 (by decide) (by decide) (by decide) (by decide)]
    exact b4.2.2.2
  · rw [g 66 (by decide), f 54 (by decide) (by decide) (by decide) (by decide)]
    exact b5
  · rw [g 66 (by decide)]
    exact b5'
  · rw [f 54 (by decide) (by decide) (by decide) (by decide)] at k1
    rw [g 66 (by decide)]
    have sl := slot_ok (x := h 66 1) (y := h 66 2) (k := k)
    exact (b5'' k k0 k1).mv e (fun z _ _ => by rw [r1]) (g _ (by omega))
  · rw [r3, g 92 (by decide)]
    exact ⟨(b6 k k0 k1).1, fun q => ((b6 k k0 k1).2 q).mv e (fun z _ _ => by rw [r2]) (g _ (by omega))⟩
  · rw [g 0 (by decide)]
    refine pg_sh e ?_
    unfold RSh CSp CFi CLy CM at b7 ⊢
    rw [g 39 (by decide), g (41 + 0) (by decide), g (41 + 1) (by decide), g (41 + 2) (by decide), g 44 (by decide), g 46 (by decide), g 47 (by decide), g 48 (by decide), g 49 (by decide)]
    exact b7
  · intro k k0 k1
    obtain ⟨q1, q2, q3⟩ := b8 k k0 k1
    rw [r4, g (94 + 8 * k) (by omega)]
    refine ⟨q1, q2, fun i z i0 i1 z0 z1 => ?_⟩
    rw [g (94 + 8 * k + 2 + z) (by omega), q3 i z i0 i1 z0 z1]
    unfold kl
    rw [r5]
  · unfold TPR at b10 ⊢
    rw [g 27 (by decide), g 28 (by decide), r6, f 20 (by decide) (by decide) (by decide) (by decide)]
    exact b10
/-- the class's scratch, then that of the model -/
theorem Inv.mv {h h' : Hp} (I : Inv h) (K : KQ h h') (hc : ∀ c, c < 113 → ¬ scr c → h' c = h c) (F50 : FC h' 50 (rchS h (h 115 6))) (F57 : FC h' 57 (h' 57 2) ∧ 1 ≤ h' 57 2 ∧ h' 57 2 ≤ 12) (hL : RLs h') : Inv h' := ⟨I.1.mv K, I.2.mv K hc F50 F57 hL⟩
theorem Inv.km {h h' : Hp} (I : Inv h) (K : KM h h') : Inv h' := by
  have g : ∀ c, c < 113 → h' c = h c := fun c c0 => K.1 c (by omega) (by omega) (by omega) (by omega)
  refine I.mv (KQ.of K) (fun c c0 _ => g c c0) ?_ ?_ ?_
  · exact FC.mv I.2.2.1.1.2.2.2.2.2 (g (50 + 1) (by decide))
  · rw [g 57 (by decide)]
    exact ⟨FC.mv I.2.2.2.1.1 (g (57 + 1) (by decide)), I.2.2.2.1.2⟩
  · have := I.2.2.2.2.2.2.2.2.2.1
    unfold RLs at this ⊢
    unfold vC at this ⊢
    rw [g 110 (by decide), g 111 (by decide)]
    exact this
