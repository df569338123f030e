/-! A LINE WITH A MOVE: its numbers. -/
def q1_ (T : Int → Int) (z : Int) (s : St3) : St3 × Int := rdS T z 0 100000 s
def q2_ (T : Int → Int) (z : Int) (s : St3) : St3 × Int := rdS T z 0 100000 (q1_ T z s).1
def q3_ (T : Int → Int) (z k : Int) (s : St3) : St3 := if k = 5 ∧ (q2_ T z s).1.1 = -1 ∧ (q1_ T z s).2 = 0 ∧ (q2_ T z s).2 = 0 then (8 * (q2_ T z s).1.2.2 + 2, (q2_ T z s).1.2) else (q2_ T z s).1
def q4_ (T : Int → Int) (z k : Int) (s : St3) : St3 × Int := if k = 5 then rdS T z 1 4 (q3_ T z k s) else rdS T z 0 100000 (q3_ T z k s)
def q5_ (T : Int → Int) (z k : Int) (s : St3) : St3 × Int := if k = 5 then rdS T z 0 100000 (q4_ T z k s).1 else ((q4_ T z k s).1, 0)
def q6_ (T : Int → Int) (z k : Int) (s : St3) : St3 × Int := rdU T z 1 5000 (q5_ T z k s).1
theorem rdS_v {T : Int → Int} {z lo hi : Int} {s : St3} (h : (rdS T z lo hi s).1.1 = -1) (hz : s.2.1 ≤ z) (h0 : 0 ≤ s.2.1) (hl : 0 ≤ lo) : (lo ≤ (rdS T z lo hi s).2 * sdq (rdS T z lo hi s).2 ∧ (rdS T z lo hi s).2 * sdq (rdS T z lo hi s).2 ≤ hi) ∧ (-hi ≤ (rdS T z lo hi s).2 ∧ (rdS T z lo hi s).2 ≤ hi) := by
  have hs := rdS_ok h
  have sb := skp_b (T := T) (z := z) (p := s.2.1) hz
  have key : ∀ (a : Int) (neg : Bool), 0 ≤ a → (rdN T z lo hi a neg).1.1 = -1 → (lo ≤ (rdN T z lo hi a neg).2 * sdq (rdN T z lo hi a neg).2 ∧ (rdN T z lo hi a neg).2 * sdq (rdN T z lo hi a neg).2 ≤ hi) ∧ (-hi ≤ (rdN T z lo hi a neg).2 ∧ (rdN T z lo hi a neg).2 ≤ hi) := fun a neg a0 q => by
    by_cases hd : a < z ∧ dgt (T a)
    · by_cases hv : lo ≤ nmV 10000000 T a (dnd T z a) ∧ nmV 10000000 T a (dnd T z a) ≤ hi
      · rw [rdN_o hd hv]
        generalize nmV 10000000 T a (dnd T z a) = V at *
        cases neg
        · show (lo ≤ V * sdq V ∧ V * sdq V ≤ hi) ∧ (-hi ≤ V ∧ V ≤ hi)
          have : sdq V = 1 := if_pos (by omega)
          rw [this]
          omega
        · show (lo ≤ -V * sdq (-V) ∧ -V * sdq (-V) ≤ hi) ∧ (-hi ≤ -V ∧ -V ≤ hi)
          by_cases hV : V = 0
          · subst hV
            have : sdq (-0) = 1 := by decide
            rw [this]
            omega
          · have : sdq (-V) = -1 := if_neg (by omega)
            rw [this]
            omega
      · rw [rdN_r hd hv] at q
        have t : 8 * a + 2 = -1 := q
        omega
    · rw [rdN_f hd] at q
      have t : 8 * a + 1 = -1 := q
      omega
  have eu : rdS T z lo hi s = (if sgn T z (skp T z s.2.1) = 45 then rdN T z lo hi (skp T z (skp T z s.2.1 + 1)) true else rdN T z lo hi (skp T z s.2.1) false) := if_pos hs
  rw [eu] at h ⊢
  by_cases h45 : sgn T z (skp T z s.2.1) = 45
  · rw [if_pos h45] at h ⊢
    have ee := en_1 (Or.inl h45)
    have sb2 := skp_b (T := T) (z := z) (p := skp T z s.2.1 + 1) (by omega)
    exact key _ _ (by omega) h
  · rw [if_neg h45] at h ⊢
    exact key _ _ (by omega) h
/-- what a line with a move tells is right -/
theorem mline_v {T : Int → Int} {z k : Int} {s : St3} (hk : 3 ≤ k ∧ k ≤ 5) (R : ∀ s' : St3, s'.1 = -1 → True) (h1 : (q6_ T z k s).1.1 = -1) (b0 : s.1 = -1 → 0 ≤ s.2.1 ∧ s.2.1 ≤ z) (b1 : (q1_ T z s).1.1 = -1 → 0 ≤ (q1_ T z s).1.2.1 ∧ (q1_ T z s).1.2.1 ≤ z) (b3 : (q3_ T z k s).1 = -1 → 0 ≤ (q3_ T z k s).2.1 ∧ (q3_ T z k s).2.1 ≤ z) (b4 : (q4_ T z k s).1.1 = -1 → 0 ≤ (q4_ T z k s).1.2.1 ∧ (q4_ T z k s).1.2.1 ≤ z) (b5 : (q5_ T z k s).1.1 = -1 → 0 ≤ (q5_ T z k s).1.2.1 ∧ (q5_ T z k s).1.2.1 ≤ z) : VR k (q1_ T z s).2 (q2_ T z s).2 (q4_ T z k s).2 (q5_ T z k s).2 (q6_ T z k s).2 := by
  have k5 := rdU_ok h1
  have v6 := rdU_v h1 (b5 k5).2 (b5 k5).1
  have k4 : (q4_ T z k s).1.1 = -1 := by
    unfold q5_ at k5
    by_cases e : k = 5
    · rw [if_pos e] at k5
      exact rdS_ok k5
    · rw [if_neg e] at k5
      exact k5
  have k3 : (q3_ T z k s).1 = -1 := by
    unfold q4_ at k4
    by_cases e : k = 5
    · rw [if_pos e] at k4
      exact rdS_ok k4
    · rw [if_neg e] at k4
      exact rdS_ok k4
  have k2 : (q2_ T z s).1.1 = -1 ∧ ¬ (k = 5 ∧ (q1_ T z s).2 = 0 ∧ (q2_ T z s).2 = 0) := by
    unfold q3_ at k3
    by_cases e : k = 5 ∧ (q2_ T z s).1.1 = -1 ∧ (q1_ T z s).2 = 0 ∧ (q2_ T z s).2 = 0
    · rw [if_pos e] at k3
      have t : 8 * (q2_ T z s).1.2.2 + 2 = -1 := k3
      omega
    · rw [if_neg e] at k3
      exact ⟨k3, fun q => e ⟨q.1, k3, q.2⟩⟩
  have k1 : (q1_ T z s).1.1 = -1 := rdS_ok k2.1
  have k0 : s.1 = -1 := rdS_ok k1
  have v1 := rdS_v k1 (b0 k0).2 (b0 k0).1 (Int.le_refl 0)
  have v2 := rdS_v k2.1 (b1 k1).2 (b1 k1).1 (Int.le_refl 0)
  have a1 : far_ (q1_ T z s).2 := v1.2
  have a2 : far_ (q2_ T z s).2 := v2.2
  by_cases e : k = 5
  · have e4 : q4_ T z k s = rdS T z 1 4 (q3_ T z k s) := if_pos e
    have e5 : q5_ T z k s = rdS T z 0 100000 (q4_ T z k s).1 := if_pos e
    have v4 := rdS_v (by rw [← e4]; exact k4) (b3 k3).2 (b3 k3).1 (by decide)
    rw [← e4] at v4
    have v5 := rdS_v (by rw [← e5]; exact k5) (b4 k4).2 (b4 k4).1 (Int.le_refl 0)
    rw [← e5] at v5
    refine ⟨⟨a1, a2, v5.2⟩, Or.inl ⟨e, ?_, v4.1⟩, v6⟩
    by_cases t : (q1_ T z s).2 = 0
    · exact Or.inr (fun q => k2.2 ⟨e, t, q⟩)
    · exact Or.inl t
  · have e4 : q4_ T z k s = rdS T z 0 100000 (q3_ T z k s) := if_neg e
    have e5 : q5_ T z k s = ((q4_ T z k s).1, 0) := if_neg e
    have v4 := rdS_v (by rw [← e4]; exact k4) (b3 k3).2 (b3 k3).1 (Int.le_refl 0)
    rw [← e4] at v4
    refine ⟨⟨a1, a2, by rw [e5]; show far_ 0; decide⟩, Or.inr ⟨by omega, v4.2⟩, v6⟩
section
variable {n : Nat}
/-- what the numbers of a move may change in the class -/
def FRm (row : Int) (h h' : Hp) : Prop := (∀ c, c ≠ 27 → c ≠ 29 → c ≠ 34 → h' c = h c) ∧ (∀ i, i < 2 → h' 27 i = h 27 i) ∧ (∀ i, i ≠ 8 → h' 29 i = h 29 i) ∧ ∀ i, (i < row ∨ row + 6 ≤ i) → h' 34 i = h 34 i
theorem FRm.rf {row : Int} {h : Hp} : FRm row h h := ⟨fun _ _ _ _ => rfl, fun _ _ => rfl, fun _ _ => rfl, fun _ _ => rfl⟩
theorem FRm.tr {row : Int} {h g k : Hp} (a : FRm row h g) (b : FRm row g k) : FRm row h k := ⟨fun c h1 h2 h3 => (b.1 c h1 h2 h3).trans (a.1 c h1 h2 h3), fun i hi => (b.2.1 i hi).trans (a.2.1 i hi), fun i hi => (b.2.2.1 i hi).trans (a.2.2.1 i hi), fun i hi => (b.2.2.2 i hi).trans (a.2.2.2 i hi)⟩
theorem FRd.rm {row : Int} {h g : Hp} (a : FRd h g) : FRm row h g := ⟨fun c h1 h2 _ => a.1 c h1 h2, a.2.1, a.2.2, fun i _ => by rw [a.1 34 (by decide) (by decide)]⟩
theorem FRm.put {row : Int} {h g : Hp} (a : FRm row h g) {i v : Int} (hi : row ≤ i ∧ i < row + 6) : FRm row h (up g 34 i v) := ⟨fun c h1 h2 h3 => (up_row h3).trans (a.1 c h1 h2 h3), fun j hj => (up_c (by decide)).trans (a.2.1 j hj), fun j hj => (up_c (by decide)).trans (a.2.2.1 j hj), fun j hj => (up_i (by omega)).trans (a.2.2.2 j hj)⟩
theorem Rc.up34 {h : Hp} {T : Int → Int} {z : Int} {s : St3} (A : Rc h T z s) {i v : Int} : Rc (up h 34 i v) T z s := A.mv (up_row (by decide)) (up_row (by decide)) (up_c (by decide))
theorem Rc.bd {h : Hp} {T : Int → Int} {z : Int} {s : St3} (A : Rc h T z s) : s.1 = -1 → 0 ≤ s.2.1 ∧ s.2.1 ≤ z := fun q => ⟨(A.2.1 q).1.2.2.1.1, (A.2.1 q).1.2.2.1.2.1⟩
theorem readMove_c (hn : 1000 ≤ n) {T : Int → Int} {z k w M : Int} {s : St3} {h : Hp} (hk : 3 ≤ k ∧ k ≤ 5) (hw : w = 1 ∨ w = 14) (hM : 0 ≤ M ∧ M ≤ 40) (A : Rc h T z s) (e7 : h 29 7 = w) (e12 : h w 12 = M) : ∃ h', MX6_readMove n k h = some h' ∧ FRm (6 * M) h h' ∧ Rc h' T z (q6_ T z k s).1 ∧ ((q6_ T z k s).1.1 = -1 → (h' 34 (6 * M) = k ∧ h' 34 (6 * M + 1) = (q1_ T z s).2 ∧ h' 34 (6 * M + 2) = (q2_ T z s).2 ∧ h' 34 (6 * M + 3) = (q4_ T z k s).2 ∧ h' 34 (6 * M + 4) = (q5_ T z k s).2 ∧ h' 34 (6 * M + 5) = (q6_ T z k s).2) ∧ VR k (q1_ T z s).2 (q2_ T z s).2 (q4_ T z k s).2 (q5_ T z k s).2 (q6_ T z k s).2) := by
  have A0 : Rc (up h 34 (6 * M) k) T z s := A.up34
  obtain ⟨v1, g1, e1, F1, R1, V1⟩ := readSigned_c hn (lo := 0) (hi := 100000) (by decide) A0
  have R1' : Rc (up g1 34 (6 * M + 1) v1) T z (q1_ T z s).1 := R1.up34
  obtain ⟨v2, g2, e2, F2, R2, V2⟩ := readSigned_c hn (lo := 0) (hi := 100000) (by decide) R1'
  have R2' : Rc (up (up g2 34 (6 * M + 2) v2) 34 (6 * M + 4) 0) T z (q2_ T z s).1 := R2.up34.up34
  have G2 : FRm (6 * M) h (up (up g2 34 (6 * M + 2) v2) 34 (6 * M + 4) 0) := (((((FRm.rf.put (by omega)).tr F1.rm).put (by omega)).tr F2.rm).put (by omega)).put (by omega)
  have a0 : up (up g2 34 (6 * M + 2) v2) 34 (6 * M + 4) 0 34 (6 * M) = k := by rw [up_i (by omega), up_i (by omega), F2.1 34 (by decide) (by decide), up_i (by omega), F1.1 34 (by decide) (by decide), up_s]
  have a1 : up (up g2 34 (6 * M + 2) v2) 34 (6 * M + 4) 0 34 (6 * M + 1) = v1 := by rw [up_i (by omega), up_i (by omega), F2.1 34 (by decide) (by decide), up_s]
  have a2 : up (up g2 34 (6 * M + 2) v2) 34 (6 * M + 4) 0 34 (6 * M + 2) = v2 := by rw [up_i (by omega), up_s]
  have a4 : up (up g2 34 (6 * M + 2) v2) 34 (6 * M + 4) 0 34 (6 * M + 4) = 0 := up_s
  have c3 : up (up g2 34 (6 * M + 2) v2) 34 (6 * M + 4) 0 27 3 = (g2 27 3) := by rw [up_c (by decide), up_c (by decide)]
  -- the feed
  have last : ∀ (s5 : St3) (y : Hp), Rc y T z s5 → FRm (6 * M) h y → s5 = (q5_ T z k s).1 → (s5.1 = -1 → y 34 (6 * M) = k ∧ y 34 (6 * M + 1) = (q1_ T z s).2 ∧ y 34 (6 * M + 2) = (q2_ T z s).2 ∧ y 34 (6 * M + 3) = (q4_ T z k s).2 ∧ y 34 (6 * M + 4) = (q5_ T z k s).2) → ∃ h', JX6_readMove_151 n (6 * M) y = some h' ∧ FRm (6 * M) h h' ∧ Rc h' T z (q6_ T z k s).1 ∧ ((q6_ T z k s).1.1 = -1 → (h' 34 (6 * M) = k ∧ h' 34 (6 * M + 1) = (q1_ T z s).2 ∧ h' 34 (6 * M + 2) = (q2_ T z s).2 ∧ h' 34 (6 * M + 3) = (q4_ T z k s).2 ∧ h' 34 (6 * M + 4) = (q5_ T z k s).2 ∧ h' 34 (6 * M + 5) = (q6_ T z k s).2)) := fun s5 y Ry Fy es vy => by
    subst es
    obtain ⟨v6, g6, e6, F6, R6, V6⟩ := readNumber_c hn (lo := 1) (hi := 5000) (by decide) Ry
    unfold JX6_readMove_151
    rw [e6, bnd_s, al1988, w32_i (x := 6 * M + 5) (by omega), grd_t (by omega), ltt_e]
    refine ⟨_, rfl, (Fy.tr F6.rm).put (by omega), R6.up34, fun ok => ?_⟩
    have t := vy (rdU_ok ok)
    rw [up_i (by omega), up_i (by omega), up_i (by omega), up_i (by omega), up_i (by omega), up_s, F6.1 34 (by decide) (by decide)]
    exact ⟨t.1, t.2.1, t.2.2.1, t.2.2.2.1, t.2.2.2.2, V6 ok⟩
  have withV : (∃ h', MX6_readMove n k h = some h' ∧ FRm (6 * M) h h' ∧ Rc h' T z (q6_ T z k s).1 ∧ ((q6_ T z k s).1.1 = -1 → (h' 34 (6 * M) = k ∧ h' 34 (6 * M + 1) = (q1_ T z s).2 ∧ h' 34 (6 * M + 2) = (q2_ T z s).2 ∧ h' 34 (6 * M + 3) = (q4_ T z k s).2 ∧ h' 34 (6 * M + 4) = (q5_ T z k s).2 ∧ h' 34 (6 * M + 5) = (q6_ T z k s).2))) ∧ ((q3_ T z k s).1 = -1 → 0 ≤ (q3_ T z k s).2.1 ∧ (q3_ T z k s).2.1 ≤ z) ∧ ((q4_ T z k s).1.1 = -1 → 0 ≤ (q4_ T z k s).1.2.1 ∧ (q4_ T z k s).1.2.1 ≤ z) ∧ ((q5_ T z k s).1.1 = -1 → 0 ≤ (q5_ T z k s).1.2.1 ∧ (q5_ T z k s).1.2.1 ≤ z) := by
    unfold MX6_readMove
    rw [e7, e12, rowOf_c hM, bndp_s, ltt_e, al1988, grd_t (by omega), ltt_e, e1, bnd_s, w32_i (x := 6 * M + 1) (by omega), grd_t (by omega), ltt_e, e2, bnd_s, w32_i (x := 6 * M + 2) (by omega), grd_t (by omega), ltt_e, w32_i (x := 6 * M + 4) (by omega), grd_t (by omega), ltt_e, w32_i (x := 6 * M + 3) (by omega), R2'.1, a1, a2, c3]
    by_cases k5 : k = 5
    · have e4 : q4_ T z k s = rdS T z 1 4 (q3_ T z k s) := if_pos k5
      have e5 : q5_ T z k s = rdS T z 0 100000 (q4_ T z k s).1 := if_pos k5
      -- the rest of a turn
      have tn : ∀ y : Hp, Rc y T z (q3_ T z k s) → FRm (6 * M) h y → ((q3_ T z k s).1 = -1 → y 34 (6 * M) = k ∧ y 34 (6 * M + 1) = (q1_ T z s).2 ∧ y 34 (6 * M + 2) = (q2_ T z s).2) → (∃ h', JX6_readMove_104 n (6 * M) y = some h' ∧ FRm (6 * M) h h' ∧ Rc h' T z (q6_ T z k s).1 ∧ ((q6_ T z k s).1.1 = -1 → (h' 34 (6 * M) = k ∧ h' 34 (6 * M + 1) = (q1_ T z s).2 ∧ h' 34 (6 * M + 2) = (q2_ T z s).2 ∧ h' 34 (6 * M + 3) = (q4_ T z k s).2 ∧ h' 34 (6 * M + 4) = (q5_ T z k s).2 ∧ h' 34 (6 * M + 5) = (q6_ T z k s).2))) ∧ ((q3_ T z k s).1 = -1 → 0 ≤ (q3_ T z k s).2.1 ∧ (q3_ T z k s).2.1 ≤ z) ∧ ((q4_ T z k s).1.1 = -1 → 0 ≤ (q4_ T z k s).1.2.1 ∧ (q4_ T z k s).1.2.1 ≤ z) ∧ ((q5_ T z k s).1.1 = -1 → 0 ≤ (q5_ T z k s).1.2.1 ∧ (q5_ T z k s).1.2.1 ≤ z) := fun y Ry Fy vy => by
        obtain ⟨v3, g3, x3, F3, R3, V3⟩ := readSigned_c hn (lo := 1) (hi := 4) (by decide) Ry
        rw [← e4] at R3 V3
        have R3' : Rc (up g3 34 (6 * M + 3) v3) T z (q4_ T z k s).1 := R3.up34
        obtain ⟨v4, g4, x4, F4, R4, V4⟩ := readSigned_c hn (lo := 0) (hi := 100000) (by decide) R3'
        rw [← e5] at R4 V4
        have R4' : Rc (up g4 34 (6 * M + 4) v4) T z (q5_ T z k s).1 := R4.up34
        refine ⟨?_, Ry.bd, R3.bd, R4.bd⟩
        unfold JX6_readMove_104
        rw [x3, bnd_s, al1988, w32_i (x := 6 * M + 3) (by omega), grd_t (by omega), ltt_e, x4, bnd_s, w32_i (x := 6 * M + 4) (by omega), grd_t (by omega), ltt_e]
        refine last (q5_ T z k s).1 _ R4' ((((Fy.tr F3.rm).put (by omega)).tr F4.rm).put (by omega)) rfl (fun ok => ?_)
        have ok4 : (q4_ T z k s).1.1 = -1 := by rw [e5] at ok; exact rdS_ok ok
        have ok3 : (q3_ T z k s).1 = -1 := by rw [e4] at ok4; exact rdS_ok ok4
        have t := vy ok3
        rw [up_i (by omega), up_i (by omega), up_i (by omega), up_i (by omega), up_s, F4.1 34 (by decide) (by decide), up_i (by omega), up_i (by omega), up_i (by omega), up_s, F3.1 34 (by decide) (by decide)]
        exact ⟨t.1, t.2.1, t.2.2, V3 ok4, V4 ok⟩
      rw [if_neg (fun q => q k5)]
      have plain : ¬ (k = 5 ∧ (q2_ T z s).1.1 = -1 ∧ (q1_ T z s).2 = 0 ∧ (q2_ T z s).2 = 0) → (∃ h', JX6_readMove_104 n (6 * M) (up (up g2 34 (6 * M + 2) v2) 34 (6 * M + 4) 0) = some h' ∧ FRm (6 * M) h h' ∧ Rc h' T z (q6_ T z k s).1 ∧ ((q6_ T z k s).1.1 = -1 → (h' 34 (6 * M) = k ∧ h' 34 (6 * M + 1) = (q1_ T z s).2 ∧ h' 34 (6 * M + 2) = (q2_ T z s).2 ∧ h' 34 (6 * M + 3) = (q4_ T z k s).2 ∧ h' 34 (6 * M + 4) = (q5_ T z k s).2 ∧ h' 34 (6 * M + 5) = (q6_ T z k s).2))) ∧ ((q3_ T z k s).1 = -1 → 0 ≤ (q3_ T z k s).2.1 ∧ (q3_ T z k s).2.1 ≤ z) ∧ ((q4_ T z k s).1.1 = -1 → 0 ≤ (q4_ T z k s).1.2.1 ∧ (q4_ T z k s).1.2.1 ≤ z) ∧ ((q5_ T z k s).1.1 = -1 → 0 ≤ (q5_ T z k s).1.2.1 ∧ (q5_ T z k s).1.2.1 ≤ z) := fun hq => by
        have e3 : q3_ T z k s = (q2_ T z s).1 := if_neg hq
        refine tn _ (by rw [e3]; exact R2') G2 (fun ok => ?_)
        rw [e3] at ok
        exact ⟨a0, a1.trans (V1 (rdS_ok ok)), a2.trans (V2 ok)⟩
      by_cases ok2 : (q2_ T z s).1.1 = -1
      · have w1 := V1 (rdS_ok ok2)
        have w2 := V2 ok2
        have w1' : v1 = (q1_ T z s).2 := w1
        have w2' : v2 = (q2_ T z s).2 := w2
        rw [if_neg (fun q => q ok2), grd_t (by omega), grd_t (by omega)]
        by_cases z1 : v1 = 0
        · rw [if_neg (fun q => q z1)]
          by_cases z2 : v2 = 0
          · have hq : k = 5 ∧ (q2_ T z s).1.1 = -1 ∧ (q1_ T z s).2 = 0 ∧ (q2_ T z s).2 = 0 := ⟨k5, ok2, w1'.symm.trans z1, w2'.symm.trans z2⟩
            have e3 : q3_ T z k s = (8 * (q2_ T z s).1.2.2 + 2, (q2_ T z s).1.2) := if_pos hq
            have r := R2.2.1 ok2
            have g27 : g2 27 3 = (q2_ T z s).1.2.2 := r.2.1
            have bb := R2.bd ok2
            have bb' : 0 ≤ (q2_ T z s).1.2.2 ∧ (q2_ T z s).1.2.2 ≤ (q2_ T z s).1.2.1 := r.2.2
            have bz : (q2_ T z s).1.2.1 ≤ z := bb.2
            have bq : z ≤ 400 := r.1.2.2.1.2.2
            rw [if_neg (fun q => q z2), g27, fail_c (by decide) (by omega), R2'.1, if_pos ok2, bndh_s]
            refine tn _ ?_ ?_ (fun ok => ?_)
            · rw [e3]
              exact ⟨up_s, fun q => by have : 8 * (q2_ T z s).1.2.2 + 2 = -1 := q; omega, fun _ => by show 0 ≤ 8 * (q2_ T z s).1.2.2 + 2; omega⟩
            · exact ⟨fun c h1 h2 h3 => (up_row h2).trans (G2.1 c h1 h2 h3), fun i hi => (up_c (by decide)).trans (G2.2.1 i hi), fun i hi => (up_i hi).trans (G2.2.2.1 i hi), fun i hi => (up_c (by decide)).trans (G2.2.2.2 i hi)⟩
            · rw [e3] at ok
              have t : 8 * (q2_ T z s).1.2.2 + 2 = -1 := ok
              omega
          · rw [if_pos z2]
            exact plain (fun q => z2 (w2'.trans q.2.2.2))
        · rw [if_pos z1]
          exact plain (fun q => z1 (w1'.trans q.2.2.1))
      · rw [if_pos ok2]
        exact plain (fun q => ok2 q.2.1)
    · have e3 : q3_ T z k s = (q2_ T z s).1 := if_neg (fun q => k5 q.1)
      have e4 : q4_ T z k s = rdS T z 0 100000 (q3_ T z k s) := if_neg k5
      have e5 : q5_ T z k s = ((q4_ T z k s).1, 0) := if_neg k5
      obtain ⟨v3, g3, x3, F3, R3, V3⟩ := readSigned_c hn (lo := 0) (hi := 100000) (by decide) R2'
      rw [← e3, ← e4] at R3 V3
      refine ⟨?_, by rw [e3]; exact R2.bd, R3.bd, by rw [e5]; exact R3.bd⟩
      rw [if_pos k5, x3, bnd_s, grd_t (by omega), ltt_e]
      refine last (q5_ T z k s).1 _ (by rw [e5]; exact R3.up34) ((G2.tr F3.rm).put (by omega)) rfl (fun ok => ?_)
      have ok4 : (q4_ T z k s).1.1 = -1 := by rw [e5] at ok; exact ok
      have ok2 : (q2_ T z s).1.1 = -1 := by rw [e4] at ok4; have := rdS_ok ok4; rw [e3] at this; exact this
      rw [up_i (by omega), up_i (by omega), up_i (by omega), up_s, up_i (by omega), F3.1 34 (by decide) (by decide), a0, a1, a2, a4]
      exact ⟨rfl, V1 (rdS_ok ok2), V2 ok2, V3 ok4, by rw [e5]⟩
  obtain ⟨⟨h', e, F, R, V⟩, b3, b4, b5⟩ := withV
  exact ⟨h', e, F, R, fun ok => ⟨V ok, mline_v hk (fun _ _ => trivial) ok A.bd R1.bd b3 b4 b5⟩⟩
end
