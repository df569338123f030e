/-! A LINE WITH A MOVE: the model's numbers. -/
section
variable {n : Nat}
def restM (n : Nat) (at_ : Int) (h : Hp) : Option Hp :=
  ltt (up h 113 26 0) fun h5 => ltt (up h5 113 27 0) fun h6 => if 40 ≤ h6 113 2 then bndh (MX12_lastMove n h6) fun h7 => JX12_readsMove_237 n at_ h7 else ltt 0 fun y1 => LX12_readsMove_187 n at_ y1 h6
def FMm (h h' : Hp) : Prop := (∀ c, c ≠ 113 → c ≠ 131 → h' c = h c) ∧ ∀ i, (i < 21 ∨ 24 < i) → h' 113 i = h 113 i
theorem FMm.rf {h : Hp} : FMm h h := ⟨fun _ _ _ => rfl, fun _ _ => rfl⟩
theorem FMm.tr {h g k : Hp} (a : FMm h g) (b : FMm g k) : FMm h k := ⟨fun c h1 h2 => (b.1 c h1 h2).trans (a.1 c h1 h2), fun i hi => (b.2 i hi).trans (a.2 i hi)⟩
theorem FMr.mm {h g : Hp} (a : FMr h g) : FMm h g := ⟨fun c h1 _ => a.1 c h1, a.2⟩
theorem FMm.put {h g : Hp} (a : FMm h g) {i v : Int} : FMm h (up g 131 i v) := ⟨fun c h1 h2 => (up_row h2).trans (a.1 c h1 h2), fun j hj => (up_c (by decide)).trans (a.2 j hj)⟩
theorem Rm.up131 {h : Hp} {T : Int → Int} {z : Int} {s : St3} (A : Rm h T z s) {i v : Int} : Rm (up h 131 i v) T z s := A.mv (up_c (by decide)) (up_c (by decide)) (up_c (by decide)) (up_row (by decide))
/-- what a line with a move has told -/
def TLD (h : Hp) (T : Int → Int) (z k : Int) (s : St3) : Prop := h 131 0 = k ∧ h 131 1 = (q1_ T z s).2 ∧ h 131 2 = (q2_ T z s).2 ∧ h 131 3 = (q4_ T z k s).2 ∧ h 131 4 = (q5_ T z k s).2 ∧ h 131 5 = (q6_ T z k s).2
theorem readsMove_m (hn : 1000 ≤ n) {T : Int → Int} {z k at_ : Int} {s : St3} {h : Hp} (hk : 3 ≤ k ∧ k ≤ 5) (A : Rm h T z s) : ∃ h', FMm h h' ∧ Rm h' T z (rdE T z (q6_ T z k s).1) ∧ ((rdE T z (q6_ T z k s).1).1 = -1 → TLD h' T z k s) ∧ MX12_readsMove n k at_ h = (if (rdE T z (q6_ T z k s).1).1 = -1 then restM n at_ h' else some h') := by
  have A0 : Rm (up h 131 0 k) T z s := A.up131
  obtain ⟨v1, g1, e1, F1, R1, V1⟩ := numS_m hn (hi := 100000) (lo := -100000) (by decide) rfl A0
  have R1' : Rm (up g1 131 1 v1) T z (q1_ T z s).1 := R1.up131
  obtain ⟨v2, g2, e2, F2, R2, V2⟩ := numS_m hn (hi := 100000) (lo := -100000) (by decide) rfl R1'
  have R2' : Rm (up g2 131 2 v2) T z (q2_ T z s).1 := R2.up131
  have G2 : FMm h (up g2 131 2 v2) := (((FMm.rf.put.tr F1.mm).put).tr F2.mm).put
  have a0 : up g2 131 2 v2 131 0 = k := by rw [up_i (by decide), F2.1 131 (by decide), up_i (by decide), F1.1 131 (by decide), up_s]
  have a1 : up g2 131 2 v2 131 1 = v1 := by rw [up_i (by decide), F2.1 131 (by decide), up_s]
  have a2 : up g2 131 2 v2 131 2 = v2 := up_s
  have a23 : up g2 131 2 v2 113 23 = g2 113 23 := up_c (by decide)
  -- the feed and the end
  have last : ∀ (y : Hp) (z2 : Int), Rm y T z (q5_ T z k s).1 → FMm h y → ((q5_ T z k s).1.1 = -1 → (y 131 0 = k ∧ y 131 1 = (q1_ T z s).2 ∧ y 131 2 = (q2_ T z s).2 ∧ y 131 3 = (q4_ T z k s).2) ∧ z2 = (q5_ T z k s).2) → ∃ h', FMm h h' ∧ Rm h' T z (rdE T z (q6_ T z k s).1) ∧ ((rdE T z (q6_ T z k s).1).1 = -1 → TLD h' T z k s) ∧ JX12_readsMove_138 n at_ 131 4 z2 y = (if (rdE T z (q6_ T z k s).1).1 = -1 then restM n at_ h' else some h') := fun y z2 Ry Fy vy => by
    have Ry' : Rm (up y 131 4 z2) T z (q5_ T z k s).1 := Ry.up131
    obtain ⟨v6, g6, e6, F6, R6, V6⟩ := numU_m hn (lo := 1) (hi := 5000) (by decide) Ry'
    have R6' : Rm (up g6 131 5 v6) T z (q6_ T z k s).1 := R6.up131
    obtain ⟨g7, e7, F7, R7⟩ := ends_m hn R6'
    refine ⟨g7, (((Fy.put).tr F6.mm).put).tr F7.mm, R7, fun ok => ?_, ?_⟩
    · have ok6 := rdE_ok ok
      have ok5 := rdU_ok ok6
      have t := vy ok5
      unfold TLD
      rw [F7.1 131 (by decide), up_i (by decide), up_i (by decide), up_i (by decide), up_i (by decide), up_i (by decide), up_s, F6.1 131 (by decide), up_i (by decide), up_i (by decide), up_i (by decide), up_i (by decide), up_s]
      exact ⟨t.1.1, t.1.2.1, t.1.2.2.1, t.1.2.2.2, t.2, V6 ok6⟩
    · unfold JX12_readsMove_138
      rw [al68, grd_t (by decide), ltt_e, e6, bnd_s, grd_t (by decide), ltt_e, e7, bndh_s, isRight_m, bndp_s, R7.1]
      by_cases ok : (rdE T z (q6_ T z k s).1).1 = -1
      · rw [if_pos ok, if_pos (by decide), if_pos ok]
        rfl
      · rw [if_neg ok, if_neg (by decide), if_neg ok]
  unfold MX12_readsMove
  by_cases k5 : k = 5
  · have e4 : q4_ T z k s = rdS T z 1 4 (q3_ T z k s) := if_pos k5
    have e5 : q5_ T z k s = rdS T z 0 100000 (q4_ T z k s).1 := if_pos k5
    rw [if_neg (fun q => q k5)]
    have tn : ∀ y : Hp, Rm y T z (q3_ T z k s) → FMm h y → ((q3_ T z k s).1 = -1 → y 131 0 = k ∧ y 131 1 = (q1_ T z s).2 ∧ y 131 2 = (q2_ T z s).2) → ∃ h', FMm h h' ∧ Rm h' T z (rdE T z (q6_ T z k s).1) ∧ ((rdE T z (q6_ T z k s).1).1 = -1 → TLD h' T z k s) ∧ JX12_readsMove_88 n at_ 1 y = (if (rdE T z (q6_ T z k s).1).1 = -1 then restM n at_ h' else some h') := fun y Ry Fy vy => by
      obtain ⟨v3, g3, x3, F3, R3, V3⟩ := quarters_m hn Ry
      rw [← e4] at R3 V3
      have R3' : Rm (up g3 131 3 v3) T z (q4_ T z k s).1 := R3.up131
      obtain ⟨v4, g4, x4, F4, R4, V4⟩ := numS_m hn (hi := 100000) (lo := -100000) (by decide) rfl R3'
      rw [← e5] at R4 V4
      unfold JX12_readsMove_88 JX12_readsMove_114
      rw [if_neg (by decide), x3, bnd_s, al68, grd_t (by decide), ltt_e, if_neg (by decide), x4, bnd_s]
      refine last g4 v4 R4 (((Fy.tr F3.mm).put).tr F4.mm) (fun ok => ?_)
      have ok4 : (q4_ T z k s).1.1 = -1 := by rw [e5] at ok; exact rdS_ok ok
      have ok3 : (q3_ T z k s).1 = -1 := by rw [e4] at ok4; exact rdS_ok ok4
      have t := vy ok3
      rw [F4.1 131 (by decide), up_i (by decide), up_i (by decide), up_i (by decide), up_s, F3.1 131 (by decide)]
      exact ⟨⟨t.1, t.2.1, t.2.2, V3 ok4⟩, (V4 ok).1⟩
    have plain : ¬ (k = 5 ∧ (q2_ T z s).1.1 = -1 ∧ (q1_ T z s).2 = 0 ∧ (q2_ T z s).2 = 0) → ∃ h', FMm h h' ∧ Rm h' T z (rdE T z (q6_ T z k s).1) ∧ ((rdE T z (q6_ T z k s).1).1 = -1 → TLD h' T z k s) ∧ JX12_readsMove_88 n at_ 1 (up g2 131 2 v2) = (if (rdE T z (q6_ T z k s).1).1 = -1 then restM n at_ h' else some h') := fun hq => by
      have e3 : q3_ T z k s = (q2_ T z s).1 := if_neg hq
      refine tn _ (by rw [e3]; exact R2') G2 (fun ok => ?_)
      rw [e3] at ok
      exact ⟨a0, a1.trans (V1 (rdS_ok ok)).1, a2.trans (V2 ok).1⟩
    unfold JX12_readsMove_10
    rw [ltt_e, al68, grd_t (by decide), ltt_e, e1, bnd_s, grd_t (by decide), ltt_e, e2, bnd_s, grd_t (by decide), ltt_e, if_neg (by decide), isRight_m, bndp_s, R2'.1]
    by_cases ok2 : (q2_ T z s).1.1 = -1
    · have w1 : v1 = (q1_ T z s).2 := (V1 (rdS_ok ok2)).1
      have w2 : v2 = (q2_ T z s).2 := (V2 ok2).1
      have w23 : g2 113 23 = (q2_ T z s).1.2.2 := (V2 ok2).2
      rw [if_pos ok2, if_neg (by decide), grd_t (by decide), a1, grd_t (by decide), a2]
      by_cases z1 : v1 = 0
      · rw [if_neg (fun q => q z1)]
        by_cases z2 : v2 = 0
        · have hq : k = 5 ∧ (q2_ T z s).1.1 = -1 ∧ (q1_ T z s).2 = 0 ∧ (q2_ T z s).2 = 0 := ⟨k5, ok2, w1.symm.trans z1, w2.symm.trans z2⟩
          have e3 : q3_ T z k s = (8 * (q2_ T z s).1.2.2 + 2, (q2_ T z s).1.2) := if_pos hq
          have bb : 0 ≤ (q2_ T z s).1.2.2 ∧ (q2_ T z s).1.2.2 ≤ 400 := by
            have b1 := (R1.2.1 (rdS_ok ok2)).2.2.1
            have sb := skp_b (T := T) (z := z) (p := (q1_ T z s).1.2.1) b1.2.1
            have key : ∀ (a : Int) (neg : Bool), (rdN T z 0 100000 a neg).1.2.2 = a := fun a neg => by
              unfold rdN
              split
              · split <;> rfl
              · rfl
            have eu : q2_ T z s = (if sgn T z (skp T z (q1_ T z s).1.2.1) = 45 then rdN T z 0 100000 (skp T z (skp T z (q1_ T z s).1.2.1 + 1)) true else rdN T z 0 100000 (skp T z (q1_ T z s).1.2.1) false) := if_pos (rdS_ok ok2)
            have b1' : 0 ≤ (q1_ T z s).1.2.1 := b1.1
            have b2' : z ≤ 400 := b1.2.2
            rw [eu]
            by_cases h45 : sgn T z (skp T z (q1_ T z s).1.2.1) = 45
            · have ee := en_1 (Or.inl h45)
              have sb2 := skp_b (T := T) (z := z) (p := skp T z (q1_ T z s).1.2.1 + 1) (by omega)
              rw [if_pos h45, key]
              omega
            · rw [if_neg h45, key]
              omega
          rw [if_neg (fun q => q z2), a23, w23, fails_m (by decide) (by omega), R2'.1, if_pos ok2, bndh_s]
          refine tn _ ?_ ?_ (fun ok => ?_)
          · rw [e3]
            exact ⟨up_s, fun q => by have : 8 * (q2_ T z s).1.2.2 + 2 = -1 := q; omega, fun _ => by show 0 ≤ 8 * (q2_ T z s).1.2.2 + 2; omega⟩
          · exact ⟨fun c h1 h2 => (up_row h1).trans (G2.1 c h1 h2), fun i hi => (up_i (by omega)).trans (G2.2 i hi)⟩
          · rw [e3] at ok
            have t : 8 * (q2_ T z s).1.2.2 + 2 = -1 := ok
            omega
        · rw [if_pos z2]
          exact plain (fun q => z2 (w2.trans q.2.2.2))
      · rw [if_pos z1]
        exact plain (fun q => z1 (w1.trans q.2.2.1))
    · rw [if_neg ok2, if_pos rfl]
      exact plain (fun q => ok2 q.2.1)
  · have e3 : q3_ T z k s = (q2_ T z s).1 := if_neg (fun q => k5 q.1)
    have e4 : q4_ T z k s = rdS T z 0 100000 (q3_ T z k s) := if_neg k5
    have e5 : q5_ T z k s = ((q4_ T z k s).1, 0) := if_neg k5
    obtain ⟨v3, g3, x3, F3, R3, V3⟩ := numS_m hn (hi := 100000) (lo := -100000) (by decide) rfl R2'
    rw [← e3, ← e4] at R3 V3
    rw [if_pos k5]
    unfold JX12_readsMove_10
    rw [ltt_e, al68, grd_t (by decide), ltt_e, e1, bnd_s, grd_t (by decide), ltt_e, e2, bnd_s, grd_t (by decide), ltt_e, if_pos rfl]
    unfold JX12_readsMove_88 JX12_readsMove_114
    rw [if_pos rfl, x3, bnd_s, al68, grd_t (by decide), ltt_e, if_pos rfl]
    refine last (up g3 131 3 v3) 0 (by rw [e5]; exact R3.up131) ((G2.tr F3.mm).put) (fun ok => ?_)
    have ok4 : (q4_ T z k s).1.1 = -1 := by rw [e5] at ok; exact ok
    have ok2 : (q2_ T z s).1.1 = -1 := by rw [e4] at ok4; have := rdS_ok ok4; rw [e3] at this; exact this
    rw [up_i (by decide), up_i (by decide), up_i (by decide), up_s, F3.1 131 (by decide), a0, a1, a2]
    exact ⟨⟨rfl, (V1 (rdS_ok ok2)).1, (V2 ok2).1, (V3 ok4).1⟩, by rw [e5]⟩
end
