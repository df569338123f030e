/-! NUMBERS IN A LINE: the model, as the class. -/
section
variable {n : Nat}
theorem rdN_f {T : Int → Int} {z lo hi a : Int} {neg : Bool} (h : ¬ (a < z ∧ dgt (T a))) : rdN T z lo hi a neg = ((8 * a + 1, a, a), 0) := if_neg h
theorem rdN_o {T : Int → Int} {z lo hi a : Int} {neg : Bool} (h : a < z ∧ dgt (T a)) (hv : lo ≤ nmV 10000000 T a (dnd T z a) ∧ nmV 10000000 T a (dnd T z a) ≤ hi) : rdN T z lo hi a neg = ((-1, dnd T z a, a), if neg then -(nmV 10000000 T a (dnd T z a)) else nmV 10000000 T a (dnd T z a)) := (if_pos h).trans (if_pos hv)
theorem rdN_r {T : Int → Int} {z lo hi a : Int} {neg : Bool} (h : a < z ∧ dgt (T a)) (hv : ¬ (lo ≤ nmV 10000000 T a (dnd T z a) ∧ nmV 10000000 T a (dnd T z a) ≤ hi)) : rdN T z lo hi a neg = ((8 * a + 2, dnd T z a, a), 0) := (if_pos h).trans (if_neg hv)
/-- a number read from its first digit on: what the model's reader is then -/
theorem Rm_N (hn : 1000 ≤ n) {T : Int → Int} {z a x1 x2 x3 lo hi : Int} {neg : Bool} {h : Hp} (A : TPm h T z a) (h22 : h 113 22 = -1) (hneg : neg = true ↔ x3 = 45) (hq : a < z → dgt (T a) → ((x1 ≤ (if x3 = 45 then -(nmV 10000000 T a (dnd T z a)) else nmV 10000000 T a (dnd T z a)) ∧ (if x3 = 45 then -(nmV 10000000 T a (dnd T z a)) else nmV 10000000 T a (dnd T z a)) ≤ x2) ↔ (lo ≤ nmV 10000000 T a (dnd T z a) ∧ nmV 10000000 T a (dnd T z a) ≤ hi))) : ∃ v h', JX12_number_39 n x1 x2 x3 h = some (v, h') ∧ FMr h h' ∧ Rm h' T z (rdN T z lo hi a neg).1 ∧ ((rdN T z lo hi a neg).1.1 = -1 → v = (rdN T z lo hi a neg).2 ∧ h' 113 23 = a) := by
  have b := A.2.2.1
  obtain ⟨v, h', e, F, e23, f1, f2⟩ := num_m (x1 := x1) (x2 := x2) (x3 := x3) hn A h22
  refine ⟨v, h', e, F, ?_⟩
  by_cases hd : a < z ∧ dgt (T a)
  · obtain ⟨v1, v2, v3⟩ := f2 hd
    have q := hq hd.1 hd.2
    rw [← v1] at q
    by_cases hr : lo ≤ nmV 10000000 T a (dnd T z a) ∧ nmV 10000000 T a (dnd T z a) ≤ hi
    · obtain ⟨w1, w2⟩ := v2 (q.mpr hr)
      rw [rdN_o hd hr]
      refine ⟨⟨w1, fun _ => w2, fun q => absurd rfl q⟩, fun _ => ⟨?_, e23⟩⟩
      rw [v1]
      by_cases h45 : x3 = 45
      · rw [if_pos h45, if_pos (hneg.mpr h45)]
      · rw [if_neg h45, if_neg (fun t => h45 (hneg.mp t))]
    · have w := v3 (fun t => hr (q.mp t))
      rw [rdN_r hd hr]
      exact ⟨⟨w, fun q => by have : 8 * a + 2 = -1 := q; omega, fun _ => by show 0 ≤ 8 * a + 2; omega⟩, fun q => by have : 8 * a + 2 = -1 := q; omega⟩
  · rw [rdN_f hd]
    exact ⟨⟨f1 hd, fun q => by have : 8 * a + 1 = -1 := q; omega, fun _ => by show 0 ≤ 8 * a + 1; omega⟩, fun q => by have : 8 * a + 1 = -1 := q; omega⟩
/-- a number of the model that may not be below 0 -/
theorem numU_m (hn : 1000 ≤ n) {T : Int → Int} {z lo hi : Int} {s : St3} {h : Hp} (hb : 0 ≤ lo) (A : Rm h T z s) : ∃ v h', MX12_number n lo hi h = some (v, h') ∧ FMr h h' ∧ Rm h' T z (rdU T z lo hi s).1 ∧ ((rdU T z lo hi s).1.1 = -1 → v = (rdU T z lo hi s).2) := by
  unfold MX12_number
  rw [isRight_m, bndp_s, A.1]
  by_cases h1 : s.1 = -1
  · have A1 := A.2.1 h1
    have b := A1.2.2.1
    have sb := skp_b (T := T) (z := z) (p := s.2.1) b.2.1
    obtain ⟨g, e, F, Ag⟩ := next_m hn A1
    have e22 : g 113 22 = -1 := by rw [F.2 22 (by decide), A.1]; exact h1
    have eu : rdU T z lo hi s = rdN T z lo hi (skp T z s.2.1) false := if_pos h1
    have hd45 : skp T z s.2.1 < z → dgt (T (skp T z s.2.1)) → ¬ sgn T z (skp T z s.2.1) = 45 := fun q1 q2 q3 => by
      unfold sgn at q3
      rw [if_pos q1] at q3
      omega
    have fin : ∀ x3 : Int, (skp T z s.2.1 < z → dgt (T (skp T z s.2.1)) → ¬ x3 = 45) → ∃ v h', JX12_number_39 n lo hi x3 g = some (v, h') ∧ FMr h h' ∧ Rm h' T z (rdU T z lo hi s).1 ∧ ((rdU T z lo hi s).1.1 = -1 → v = (rdU T z lo hi s).2) := fun x3 hx => by
      rw [eu]
      by_cases hd : skp T z s.2.1 < z ∧ dgt (T (skp T z s.2.1))
      · have n45 := hx hd.1 hd.2
        obtain ⟨v, h', e', F', R1, R2⟩ := Rm_N (x1 := lo) (x2 := hi) (lo := lo) (hi := hi) (neg := false) hn Ag e22 (x3 := x3) ⟨fun q => absurd q (by decide), fun q => absurd q n45⟩ (fun _ _ => by rw [if_neg n45])
        exact ⟨v, h', e', F.mr.tr F', R1, fun q => (R2 q).1⟩
      · obtain ⟨v, h', e', F', e23, f1, -⟩ := num_m (x1 := lo) (x2 := hi) (x3 := x3) hn Ag e22
        rw [rdN_f hd]
        exact ⟨v, h', e', F.mr.tr F', ⟨f1 hd, fun q => by have : 8 * skp T z s.2.1 + 1 = -1 := q; omega, fun _ => by show 0 ≤ 8 * skp T z s.2.1 + 1; omega⟩, fun q => by have : 8 * skp T z s.2.1 + 1 = -1 := q; omega⟩
    rw [if_pos h1, if_pos (by decide), e, bnd_s, ltt_e]
    by_cases hs : sgn T z (skp T z s.2.1) = 45
    · rw [if_neg (fun q => q hs), if_pos hb]
      exact fin _ hd45
    · rw [if_pos hs]
      exact fin _ hd45
  · rw [if_neg h1, if_neg (by decide), rdU_f h1]
    exact ⟨0, h, rfl, FMr.rf, A, fun _ => rfl⟩
/-- a number of the model that may be below 0 -/
theorem numS_m (hn : 1000 ≤ n) {T : Int → Int} {z hi lo : Int} {s : St3} {h : Hp} (hb : 0 < hi ∧ hi ≤ 100000) (hl : lo = -hi) (A : Rm h T z s) : ∃ v h', MX12_number n lo hi h = some (v, h') ∧ FMr h h' ∧ Rm h' T z (rdS T z 0 hi s).1 ∧ ((rdS T z 0 hi s).1.1 = -1 → v = (rdS T z 0 hi s).2 ∧ h' 113 23 = (rdS T z 0 hi s).1.2.2) := by
  subst hl
  unfold MX12_number
  rw [isRight_m, bndp_s, A.1]
  by_cases h1 : s.1 = -1
  · have A1 := A.2.1 h1
    have b := A1.2.2.1
    have sb := skp_b (T := T) (z := z) (p := s.2.1) b.2.1
    obtain ⟨g, e, F, Ag⟩ := next_m hn A1
    have e22 : g 113 22 = -1 := by rw [F.2 22 (by decide), A.1]; exact h1
    have e3 : ∀ (a : Int) (neg : Bool), (rdN T z 0 hi a neg).1.1 = -1 → (rdN T z 0 hi a neg).1.2.2 = a := fun a neg q => by
      unfold rdN
      split
      · split <;> rfl
      · rfl
    rw [if_pos h1, if_pos (by decide), e, bnd_s, ltt_e]
    have eu : rdS T z 0 hi s = (if sgn T z (skp T z s.2.1) = 45 then rdN T z 0 hi (skp T z (skp T z s.2.1 + 1)) true else rdN T z 0 hi (skp T z s.2.1) false) := if_pos h1
    rw [eu]
    by_cases hs : sgn T z (skp T z s.2.1) = 45
    · have ee := en_1 (Or.inl hs)
      have sb2 := skp_b (T := T) (z := z) (p := skp T z s.2.1 + 1) (by omega)
      have Ag' : TPm (up g 113 21 (skp T z s.2.1 + 1)) T z (skp T z s.2.1 + 1) := Ag.go (by omega)
      obtain ⟨k, ek, Fk, Ak⟩ := next_m hn Ag'
      have e22' : k 113 22 = -1 := by rw [Fk.2 22 (by decide), up_i (by decide)]; exact e22
      have nb := nmV_b (T := T) (z := z) (p := skp T z (skp T z s.2.1 + 1)) (by omega)
      obtain ⟨v, h', e', F', R1, R2⟩ := Rm_N (x1 := -hi) (x2 := hi) (lo := 0) (hi := hi) (neg := true) (x3 := sgn T z (skp T z s.2.1)) hn Ak e22' ⟨fun _ => hs, fun _ => rfl⟩ (fun _ _ => by
        rw [if_pos hs]
        constructor <;> intro q <;> omega)
      rw [if_neg (fun q => q hs), if_neg (by omega), ltt_e, Ag.2.1, w32_i (x := skp T z s.2.1 + 1) (by omega), ek, bnd_s, if_pos hs]
      exact ⟨v, h', e', (((F.mr).put (by decide)).tr Fk.mr).tr F', R1, fun q => ⟨(R2 q).1, (R2 q).2.trans (e3 _ _ q).symm⟩⟩
    · have nb := nmV_b (T := T) (z := z) (p := skp T z s.2.1) (by omega)
      obtain ⟨v, h', e', F', R1, R2⟩ := Rm_N (x1 := -hi) (x2 := hi) (lo := 0) (hi := hi) (neg := false) (x3 := sgn T z (skp T z s.2.1)) hn Ag e22 ⟨fun q => absurd q (by decide), fun q => absurd q hs⟩ (fun _ _ => by
        rw [if_neg hs]
        constructor <;> intro q <;> omega)
      rw [if_pos hs, if_neg hs]
      exact ⟨v, h', e', F.mr.tr F', R1, fun q => ⟨(R2 q).1, (R2 q).2.trans (e3 _ _ q).symm⟩⟩
  · rw [if_neg h1, if_neg (by decide), rdS_f h1]
    exact ⟨0, h, rfl, FMr.rf, A, fun q => absurd q h1⟩
theorem rdN_4 {T : Int → Int} {z a : Int} {neg : Bool} (a0 : 0 ≤ a) : rdN T z 1 4 a neg = (if (rdN T z 0 4 a neg).1.1 = -1 ∧ (rdN T z 0 4 a neg).2 = 0 then ((8 * (rdN T z 0 4 a neg).1.2.2 + 2, (rdN T z 0 4 a neg).1.2), 0) else rdN T z 0 4 a neg) := by
  by_cases hd : a < z ∧ dgt (T a)
  · by_cases h4 : 0 ≤ nmV 10000000 T a (dnd T z a) ∧ nmV 10000000 T a (dnd T z a) ≤ 4
    · rw [rdN_o (lo := 0) hd h4]
      by_cases h0 : nmV 10000000 T a (dnd T z a) = 0
      · rw [rdN_r hd (by omega), h0, if_pos ⟨rfl, by cases neg <;> rfl⟩]
      · rw [rdN_o hd (by omega)]
        have hz : ¬ (if neg = true then -(nmV 10000000 T a (dnd T z a)) else nmV 10000000 T a (dnd T z a)) = 0 := by
          cases neg
          · exact h0
          · show ¬ -(nmV 10000000 T a (dnd T z a)) = 0
            omega
        exact (if_neg (fun q => hz q.2)).symm
    · rw [rdN_r (lo := 0) hd h4, rdN_r hd (by omega), if_neg (fun q => by
        have t : 8 * a + 2 = -1 := q.1
        omega)]
  · rw [rdN_f hd, rdN_f hd, if_neg (fun q => by
      have t : 8 * a + 1 = -1 := q.1
      omega)]
/-- how many quarters, in the model -/
theorem quarters_m (hn : 1000 ≤ n) {T : Int → Int} {z : Int} {s : St3} {h : Hp} (A : Rm h T z s) : ∃ v h', MX12_quarters n h = some (v, h') ∧ FMr h h' ∧ Rm h' T z (rdS T z 1 4 s).1 ∧ ((rdS T z 1 4 s).1.1 = -1 → v = (rdS T z 1 4 s).2) := by
  obtain ⟨v, h', e, F, R1, R2⟩ := numS_m hn (hi := 4) (lo := -4) (by decide) rfl A
  unfold MX12_quarters
  rw [e, bnd_s, ltt_e, isRight_m, bndp_s, R1.1]
  by_cases h1 : s.1 = -1
  · have A1 := A.2.1 h1
    have b := A1.2.2.1
    have sb := skp_b (T := T) (z := z) (p := s.2.1) b.2.1
    have ex : ∃ (a : Int) (neg : Bool), (0 ≤ a ∧ a ≤ z) ∧ rdS T z 0 4 s = rdN T z 0 4 a neg ∧ rdS T z 1 4 s = rdN T z 1 4 a neg := by
      have eu : ∀ lo, rdS T z lo 4 s = (if sgn T z (skp T z s.2.1) = 45 then rdN T z lo 4 (skp T z (skp T z s.2.1 + 1)) true else rdN T z lo 4 (skp T z s.2.1) false) := fun lo => if_pos h1
      by_cases hs : sgn T z (skp T z s.2.1) = 45
      · have ee := en_1 (Or.inl hs)
        have sb2 := skp_b (T := T) (z := z) (p := skp T z s.2.1 + 1) (by omega)
        exact ⟨skp T z (skp T z s.2.1 + 1), true, by omega, by rw [eu, if_pos hs], by rw [eu, if_pos hs]⟩
      · exact ⟨skp T z s.2.1, false, by omega, by rw [eu, if_neg hs], by rw [eu, if_neg hs]⟩
    obtain ⟨a, neg, ab, e0, e1⟩ := ex
    have e4 := rdN_4 (T := T) (z := z) (a := a) (neg := neg) ab.1
    have ea : (rdN T z 0 4 a neg).1.2.2 = a := by
      unfold rdN
      split
      · split <;> rfl
      · rfl
    rw [e0] at R1 R2
    rw [e1, e4, e0]
    by_cases hq : (rdN T z 0 4 a neg).1.1 = -1
    · obtain ⟨r1, r2⟩ := R2 hq
      rw [if_pos hq, if_neg (by decide)]
      by_cases hv : (rdN T z 0 4 a neg).2 = 0
      · rw [if_neg (fun q => q (r1.trans hv)), if_pos ⟨hq, hv⟩, r2, ea, fails_m (by decide) (by omega), R1.1, if_pos hq, bndh_s]
        exact ⟨v, _, rfl, F.put (by decide), ⟨up_s, fun q => by have : 8 * a + 2 = -1 := q; omega, fun _ => by show 0 ≤ 8 * a + 2; omega⟩, fun q => by have : 8 * a + 2 = -1 := q; omega⟩
      · rw [if_pos (fun q => hv (r1.symm.trans q)), if_neg (fun q => hv q.2)]
        exact ⟨v, h', rfl, F, R1, fun _ => r1⟩
    · rw [if_neg hq, if_pos rfl, if_neg (fun q => hq q.1)]
      exact ⟨v, h', rfl, F, R1, fun q => absurd q hq⟩
  · rw [rdS_f h1] at R1
    rw [rdS_f h1, if_neg h1, if_pos rfl, rdS_f h1]
    exact ⟨v, h', rfl, F, R1, fun q => absurd q h1⟩
/-- the end of a line in the model -/
theorem ends_m (hn : 1000 ≤ n) {T : Int → Int} {z : Int} {s : St3} {h : Hp} (A : Rm h T z s) : ∃ h', MX12_ends n h = some h' ∧ FMr h h' ∧ Rm h' T z (rdE T z s) := by
  unfold MX12_ends JX12_ends_25
  rw [isRight_m, bndp_s, A.1]
  by_cases h1 : s.1 = -1
  · have A1 := A.2.1 h1
    have b := A1.2.2.1
    have sb := skp_b (T := T) (z := z) (p := s.2.1) b.2.1
    obtain ⟨g, e, F, Ag⟩ := next_m hn A1
    have e22 : g 113 22 = -1 := by rw [F.2 22 (by decide), A.1]; exact h1
    rw [if_pos h1, if_neg (by decide), e, bnd_s, ltt_e]
    have eu : rdE T z s = (if sgn T z (skp T z s.2.1) = 59 then (-1, skp T z s.2.1 + 1, skp T z s.2.1) else (8 * skp T z s.2.1 + 1, skp T z s.2.1, skp T z s.2.1)) := if_pos h1
    rw [eu]
    by_cases hs : sgn T z (skp T z s.2.1) = 59
    · have ee := en_1 (Or.inr hs)
      rw [if_pos hs, if_pos hs, Ag.2.1, w32_i (x := skp T z s.2.1 + 1) (by omega)]
      exact ⟨_, rfl, F.mr.put (by decide), (up_i (by decide)).trans e22, fun _ => Ag.go (by omega), fun q => absurd rfl q⟩
    · rw [if_neg hs, if_neg hs, Ag.2.1, fails_m (by decide) (by omega), e22, if_pos rfl, bndh_s, ltt_e]
      exact ⟨_, rfl, (F.mr.put (by decide)).put (by decide), (up_i (by decide)).trans up_s, fun q => by have : 8 * skp T z s.2.1 + 1 = -1 := q; omega, fun _ => by show 0 ≤ 8 * skp T z s.2.1 + 1; omega⟩
  · rw [if_neg h1, if_pos rfl, ltt_e, rdE_f h1]
    exact ⟨_, rfl, FMr.rf.put (by decide), (up_i (by decide)).trans A.1, fun q => absurd q h1, A.2.2⟩
end
