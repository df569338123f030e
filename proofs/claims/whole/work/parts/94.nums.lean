/-! NUMBERS IN A LINE: a state is the fault, the place, where the last token began. -/
abbrev St3 := Int × Int × Int
def rdN (T : Int → Int) (z lo hi a : Int) (neg : Bool) : St3 × Int :=
  if a < z ∧ dgt (T a) then
    (if lo ≤ nmV 10000000 T a (dnd T z a) ∧ nmV 10000000 T a (dnd T z a) ≤ hi then ((-1, dnd T z a, a), if neg then -(nmV 10000000 T a (dnd T z a)) else nmV 10000000 T a (dnd T z a)) else ((8 * a + 2, dnd T z a, a), 0))
  else ((8 * a + 1, a, a), 0)
def rdU (T : Int → Int) (z lo hi : Int) (s : St3) : St3 × Int := if s.1 = -1 then rdN T z lo hi (skp T z s.2.1) false else (s, 0)
def rdS (T : Int → Int) (z lo hi : Int) (s : St3) : St3 × Int := if s.1 = -1 then (if sgn T z (skp T z s.2.1) = 45 then rdN T z lo hi (skp T z (skp T z s.2.1 + 1)) true else rdN T z lo hi (skp T z s.2.1) false) else (s, 0)
def rdE (T : Int → Int) (z : Int) (s : St3) : St3 := if s.1 = -1 then (if sgn T z (skp T z s.2.1) = 59 then (-1, skp T z s.2.1 + 1, skp T z s.2.1) else (8 * skp T z s.2.1 + 1, skp T z s.2.1, skp T z s.2.1)) else s
def flS (s : St3) (v : Int) : St3 := if s.1 = -1 then (v, s.2) else s
theorem rdU_f {T : Int → Int} {z lo hi : Int} {s : St3} (h : ¬ s.1 = -1) : rdU T z lo hi s = (s, 0) := if_neg h
theorem rdS_f {T : Int → Int} {z lo hi : Int} {s : St3} (h : ¬ s.1 = -1) : rdS T z lo hi s = (s, 0) := if_neg h
theorem rdE_f {T : Int → Int} {z : Int} {s : St3} (h : ¬ s.1 = -1) : rdE T z s = s := if_neg h
theorem rdU_ok {T : Int → Int} {z lo hi : Int} {s : St3} (h : (rdU T z lo hi s).1.1 = -1) : s.1 = -1 := by
  by_cases h1 : s.1 = -1
  · exact h1
  · rw [rdU_f h1] at h
    exact h
theorem rdS_ok {T : Int → Int} {z lo hi : Int} {s : St3} (h : (rdS T z lo hi s).1.1 = -1) : s.1 = -1 := by
  by_cases h1 : s.1 = -1
  · exact h1
  · rw [rdS_f h1] at h
    exact h
theorem rdE_ok {T : Int → Int} {z : Int} {s : St3} (h : (rdE T z s).1 = -1) : s.1 = -1 := by
  by_cases h1 : s.1 = -1
  · exact h1
  · rw [rdE_f h1] at h
    exact h
theorem flS_ok {s : St3} {v : Int} (hv : v ≠ -1) : (flS s v).1 ≠ -1 := by
  unfold flS
  by_cases h1 : s.1 = -1
  · rw [if_pos h1]
    exact hv
  · rw [if_neg h1]
    exact h1
theorem skp_b {T : Int → Int} {z p : Int} (h : p ≤ z) : p ≤ skp T z p ∧ skp T z p ≤ z := (fnd_r (p := nbk T) h).1
theorem dnd_b {T : Int → Int} {z p : Int} (h : p ≤ z) : p ≤ dnd T z p ∧ dnd T z p ≤ z := (fnd_r (p := ndg T) h).1
theorem wnd_b {T : Int → Int} {z p : Int} (h : p ≤ z) : p ≤ wnd T z p ∧ wnd T z p ≤ z := (fnd_r (p := nlt T) h).1
theorem dnd_d {T : Int → Int} {z p : Int} (h : p ≤ z) {y : Int} (y0 : p ≤ y) (y1 : y < dnd T z p) : dgt (T y) := by
  have := (fnd_r (p := ndg T) h).2.2 y y0 y1
  unfold ndg at this
  rw [decide_eq_false_iff_not] at this
  exact Classical.not_not.mp this
theorem wnd_d {T : Int → Int} {z p : Int} (h : p ≤ z) {y : Int} (y0 : p ≤ y) (y1 : y < wnd T z p) : ltr (T y) := by
  have := (fnd_r (p := nlt T) h).2.2 y y0 y1
  unfold nlt at this
  rw [decide_eq_false_iff_not] at this
  exact Classical.not_not.mp this
theorem nmV_b {T : Int → Int} {z p : Int} (h : p ≤ z) : (0 ≤ nmV 10000000 T p (dnd T z p) ∧ nmV 10000000 T p (dnd T z p) ≤ 10000000) ∧ nmV 1000000 T p (dnd T z p) = min 1000000 (nmV 10000000 T p (dnd T z p)) := by
  have b := dnd_b (T := T) h
  have hT : ∀ y, p ≤ y → y < p + (dnd T z p - p).toNat → 48 ≤ T y := fun y y0 y1 => (dnd_d h y0 (by omega)).1
  exact ⟨nmR_b (by decide) _ _ _ (by decide) (by decide) hT, nmR_2 _ _ _ _ (by decide) (by decide) (by decide) hT⟩
section
variable {n : Nat}
/-- the class's reader is at s -/
def Rc (h : Hp) (T : Int → Int) (z : Int) (s : St3) : Prop := h 29 8 = s.1 ∧ (s.1 = -1 → TPc h T z s.2.1 ∧ h 27 3 = s.2.2 ∧ 0 ≤ s.2.2 ∧ s.2.2 ≤ s.2.1) ∧ (s.1 ≠ -1 → 0 ≤ s.1)
/-- but for tokens and the fault, h' is as h -/
def FRd (h h' : Hp) : Prop := (∀ c, c ≠ 27 → c ≠ 29 → h' c = h c) ∧ (∀ i, i < 2 → h' 27 i = h 27 i) ∧ ∀ i, i ≠ 8 → h' 29 i = h 29 i
theorem FRd.rf {h : Hp} : FRd h h := ⟨fun _ _ _ => rfl, fun _ _ => rfl, fun _ _ => rfl⟩
theorem FRd.tr {h g k : Hp} (a : FRd h g) (b : FRd g k) : FRd h k := ⟨fun c h1 h2 => (b.1 c h1 h2).trans (a.1 c h1 h2), fun i hi => (b.2.1 i hi).trans (a.2.1 i hi), fun i hi => (b.2.2 i hi).trans (a.2.2 i hi)⟩
theorem FTk.rd {h g : Hp} (a : FTk h g) : FRd h g := ⟨fun c h1 _ => a.1 c h1, a.2, fun i _ => by rw [a.1 29 (by decide)]⟩
theorem FRd.pf {h g : Hp} (a : FRd h g) {v : Int} : FRd h (up g 29 8 v) := ⟨fun c h1 h2 => (up_row h2).trans (a.1 c h1 h2), fun i hi => (up_c (by decide)).trans (a.2.1 i hi), fun i hi => (up_i hi).trans (a.2.2 i hi)⟩
theorem fail_c {h : Hp} {k p : Int} (hk : 0 ≤ k ∧ k ≤ 7) (hp : 0 ≤ p ∧ p ≤ 1000) : MX6_fail k p h = some (if h 29 8 = -1 then up h 29 8 (8 * p + k) else h) := by
  unfold MX6_fail
  by_cases h1 : h 29 8 = -1
  · rw [if_neg (fun q => q h1), if_pos h1, w32_i (x := 8 * p) (by omega), w32_i (x := 8 * p + k) (by omega), ltt_e]
  · rw [if_pos h1, if_neg h1]
theorem Rc.fl {h : Hp} {T : Int → Int} {z : Int} {s : St3} (A : Rc h T z s) {v : Int} (hv : 0 ≤ v) : Rc (if h 29 8 = -1 then up h 29 8 v else h) T z (flS s v) ∧ FRd h (if h 29 8 = -1 then up h 29 8 v else h) := by
  unfold flS
  rw [A.1]
  by_cases h1 : s.1 = -1
  · rw [if_pos h1, if_pos h1]
    exact ⟨⟨up_s, fun q => by have : v = -1 := q; omega, fun _ => hv⟩, FRd.rf.pf⟩
  · rw [if_neg h1, if_neg h1]
    exact ⟨A, FRd.rf⟩
theorem kd_d {T : Int → Int} {z a : Int} : tkK T z a = 2 ↔ (a < z ∧ dgt (T a)) := by
  unfold tkK
  by_cases h1 : z ≤ a
  · rw [if_pos h1]
    constructor <;> intro q <;> omega
  · rw [if_neg h1]
    by_cases h2 : ltr (T a)
    · rw [if_pos h2]
      constructor <;> intro q <;> omega
    · rw [if_neg h2]
      by_cases h3 : dgt (T a)
      · rw [if_pos h3]
        exact ⟨fun _ => ⟨by omega, h3⟩, fun _ => rfl⟩
      · rw [if_neg h3]
        constructor
        · intro q
          split at q
          · omega
          · split at q <;> omega
        · exact fun q => absurd q.2 h3
theorem kd_m {T : Int → Int} {z a : Int} : tkK T z a = 3 ↔ sgn T z a = 45 := by
  unfold tkK sgn
  by_cases h1 : z ≤ a
  · rw [if_pos h1, if_neg (by omega)]
    constructor <;> intro q <;> omega
  · rw [if_neg h1, if_pos (show a < z by omega)]
    by_cases h2 : ltr (T a)
    · rw [if_pos h2]
      constructor <;> intro q <;> omega
    · rw [if_neg h2]
      by_cases h3 : dgt (T a)
      · rw [if_pos h3]
        constructor <;> intro q <;> omega
      · rw [if_neg h3]
        by_cases h4 : T a = 45
        · rw [if_pos h4]
          exact ⟨fun _ => h4, fun _ => rfl⟩
        · rw [if_neg h4]
          constructor
          · intro q
            split at q <;> omega
          · exact fun q => absurd q h4
theorem kd_s {T : Int → Int} {z a : Int} : tkK T z a = 4 ↔ sgn T z a = 59 := by
  unfold tkK sgn
  by_cases h1 : z ≤ a
  · rw [if_pos h1, if_neg (by omega)]
    constructor <;> intro q <;> omega
  · rw [if_neg h1, if_pos (show a < z by omega)]
    by_cases h2 : ltr (T a)
    · rw [if_pos h2]
      constructor <;> intro q <;> omega
    · rw [if_neg h2]
      by_cases h3 : dgt (T a)
      · rw [if_pos h3]
        constructor <;> intro q <;> omega
      · rw [if_neg h3]
        by_cases h4 : T a = 45
        · rw [if_pos h4]
          constructor <;> intro q <;> omega
        · rw [if_neg h4]
          by_cases h5 : T a = 59
          · rw [if_pos h5]
            exact ⟨fun _ => h5, fun _ => rfl⟩
          · rw [if_neg h5]
            constructor <;> intro q <;> omega
theorem en_d {T : Int → Int} {z a : Int} (h : a < z ∧ dgt (T a)) : tkE T z a = dnd T z a := by
  unfold tkE
  rw [if_neg (by omega), if_neg (by omega), if_pos h.2]
theorem en_1 {T : Int → Int} {z a : Int} (h : sgn T z a = 45 ∨ sgn T z a = 59) : tkE T z a = a + 1 ∧ a < z := by
  unfold sgn at h
  by_cases h1 : a < z
  · rw [if_pos h1] at h
    unfold tkE
    rw [if_neg (by omega), if_neg (by omega), if_neg (by omega)]
    exact ⟨rfl, h1⟩
  · rw [if_neg h1] at h
    omega
/-- a number of the class, behind its token -/
theorem numberOf_c {T : Int → Int} {z lo hi a : Int} {h : Hp} (hb : (0 ≤ lo ∧ lo ≤ 1) ∧ hi ≤ 100000) (a0 : 0 ≤ a) (a1 : a ≤ z) (h8 : h 29 8 = -1) (h3 : h 27 3 = a) (h2 : h 27 2 = tkK T z a) (A : TPc h T z (tkE T z a)) (h5 : tkK T z a = 2 → h 27 5 = nmV 1000000 T a (dnd T z a)) : ∃ v h', MX6_numberOf lo hi h = some (v, h') ∧ FRd h h' ∧ (∀ neg : Bool, Rc h' T z (rdN T z lo hi a neg).1 ∧ ((rdN T z lo hi a neg).1.1 = -1 → (0 ≤ v ∧ v ≤ 100000) ∧ (rdN T z lo hi a neg).2 = if neg then -v else v)) := by
  have b := A.2.2.1
  unfold MX6_numberOf
  rw [h2]
  by_cases hd : a < z ∧ dgt (T a)
  · have ek := kd_d.mpr hd
    have ev := h5 ek
    have nb := nmV_b (T := T) (z := z) (p := a) a1
    have ee := en_d hd
    have J : ∀ neg : Bool, rdN T z lo hi a neg = (if lo ≤ nmV 10000000 T a (dnd T z a) ∧ nmV 10000000 T a (dnd T z a) ≤ hi then ((-1, dnd T z a, a), if neg then -(nmV 10000000 T a (dnd T z a)) else nmV 10000000 T a (dnd T z a)) else ((8 * a + 2, dnd T z a, a), 0)) := fun neg => if_pos hd
    have db := dnd_b (T := T) (z := z) (p := a) a1
    rw [if_pos ek]
    generalize nmV 10000000 T a (dnd T z a) = V at *
    rw [nb.2] at ev
    by_cases hv : lo ≤ V ∧ V ≤ hi
    · rw [ev, if_neg (by omega), if_pos (by omega)]
      unfold JX6_numberOf_59
      rw [ev, show min 1000000 V = V by omega]
      refine ⟨V, h, rfl, FRd.rf, fun neg => ?_⟩
      rw [J neg, if_pos hv]
      exact ⟨⟨h8, fun _ => ⟨ee ▸ A, h3, a0, db.1⟩, fun q => absurd rfl q⟩, fun _ => ⟨by omega, rfl⟩⟩
    · have fin : ∃ v h', JX6_numberOf_47 h = some (v, h') ∧ FRd h h' ∧ (∀ neg : Bool, Rc h' T z (rdN T z lo hi a neg).1 ∧ ((rdN T z lo hi a neg).1.1 = -1 → (0 ≤ v ∧ v ≤ 100000) ∧ (rdN T z lo hi a neg).2 = if neg then -v else v)) := by
        unfold JX6_numberOf_47
        rw [h3, fail_c (by decide) (by omega), h8, if_pos rfl, bndh_s]
        refine ⟨_, _, rfl, FRd.rf.pf, fun neg => ?_⟩
        rw [J neg, if_neg hv]
        exact ⟨⟨up_s, fun q => by have : 8 * a + 2 = -1 := q; omega, fun _ => by show 0 ≤ 8 * a + 2; omega⟩, fun q => by have : 8 * a + 2 = -1 := q; omega⟩
      rw [ev]
      by_cases h1 : min 1000000 V < lo
      · rw [if_pos h1]
        exact fin
      · rw [if_neg h1, if_neg (by omega)]
        exact fin
  · have ek : ¬ tkK T z a = 2 := fun q => hd (kd_d.mp q)
    rw [if_neg ek, h3, fail_c (by decide) (by omega), h8, if_pos rfl, bndh_s]
    refine ⟨_, _, rfl, FRd.rf.pf, fun neg => ?_⟩
    rw [show rdN T z lo hi a neg = ((8 * a + 1, a, a), 0) from if_neg hd]
    exact ⟨⟨up_s, fun q => by have : 8 * a + 1 = -1 := q; omega, fun _ => by show 0 ≤ 8 * a + 1; omega⟩, fun q => by have : 8 * a + 1 = -1 := q; omega⟩
theorem readNumber_c (hn : 1000 ≤ n) {T : Int → Int} {z lo hi : Int} {s : St3} {h : Hp} (hb : (0 ≤ lo ∧ lo ≤ 1) ∧ hi ≤ 100000) (A : Rc h T z s) : ∃ v h', MX6_readNumber n lo hi h = some (v, h') ∧ FRd h h' ∧ Rc h' T z (rdU T z lo hi s).1 ∧ ((rdU T z lo hi s).1.1 = -1 → v = (rdU T z lo hi s).2) := by
  unfold MX6_readNumber
  rw [A.1]
  by_cases h1 : s.1 = -1
  · obtain ⟨A1, -⟩ := A.2.1 h1
    have b := A1.2.2.1
    have sb := skp_b (T := T) (z := z) (p := s.2.1) b.2.1
    obtain ⟨g, e, F, g3, g2, Ag, g5⟩ := next_c hn A1
    have e8 : g 29 8 = -1 := by rw [F.1 29 (by decide), A.1]; exact h1
    obtain ⟨v, h', e', F', R⟩ := numberOf_c hb (by omega) sb.2 e8 g3 g2 Ag g5
    rw [if_pos h1, e, bndh_s, e', bnd_s]
    have eu : rdU T z lo hi s = rdN T z lo hi (skp T z s.2.1) false := if_pos h1
    rw [eu]
    exact ⟨v, h', rfl, F.rd.tr F', (R false).1, fun q => (((R false).2 q).2).symm⟩
  · rw [if_neg h1, rdU_f h1]
    exact ⟨0, h, rfl, FRd.rf, A, fun _ => rfl⟩
theorem readSigned_c (hn : 1000 ≤ n) {T : Int → Int} {z lo hi : Int} {s : St3} {h : Hp} (hb : (0 ≤ lo ∧ lo ≤ 1) ∧ hi ≤ 100000) (A : Rc h T z s) : ∃ v h', MX6_readSigned n lo hi h = some (v, h') ∧ FRd h h' ∧ Rc h' T z (rdS T z lo hi s).1 ∧ ((rdS T z lo hi s).1.1 = -1 → v = (rdS T z lo hi s).2) := by
  unfold MX6_readSigned
  rw [A.1]
  by_cases h1 : s.1 = -1
  · obtain ⟨A1, -⟩ := A.2.1 h1
    have b := A1.2.2.1
    have sb := skp_b (T := T) (z := z) (p := s.2.1) b.2.1
    obtain ⟨g, e, F, g3, g2, Ag, g5⟩ := next_c hn A1
    have e8 : g 29 8 = -1 := by rw [F.1 29 (by decide), A.1]; exact h1
    rw [if_pos h1, e, bndh_s, g2]
    have eu : rdS T z lo hi s = (if sgn T z (skp T z s.2.1) = 45 then rdN T z lo hi (skp T z (skp T z s.2.1 + 1)) true else rdN T z lo hi (skp T z s.2.1) false) := if_pos h1
    rw [eu]
    by_cases hs : sgn T z (skp T z s.2.1) = 45
    · have ee := en_1 (Or.inl hs)
      have Ag' : TPc g T z (skp T z s.2.1 + 1) := by rw [ee.1] at Ag; exact Ag
      have sb2 := skp_b (T := T) (z := z) (p := skp T z s.2.1 + 1) (by omega)
      obtain ⟨k, ek, Fk, k3, k2, Ak, k5⟩ := next_c hn Ag'
      have e8' : k 29 8 = -1 := by rw [Fk.1 29 (by decide)]; exact e8
      obtain ⟨v, h', e', F', R⟩ := numberOf_c hb (by omega) sb2.2 e8' k3 k2 Ak k5
      rw [if_pos (kd_m.mpr hs), ek, bndh_s, e', bnd_s, if_pos hs]
      refine ⟨_, h', rfl, (F.rd.tr Fk.rd).tr F', (R true).1, fun q => ?_⟩
      have r := (R true).2 q
      rw [r.2, if_pos rfl, w32_i (by omega)]
    · obtain ⟨v, h', e', F', R⟩ := numberOf_c hb (by omega) sb.2 e8 g3 g2 Ag g5
      rw [if_neg (fun q => hs (kd_m.mp q)), e', bnd_s, if_neg hs]
      exact ⟨v, h', rfl, F.rd.tr F', (R false).1, fun q => (((R false).2 q).2).symm⟩
  · rw [if_neg h1, rdS_f h1]
    exact ⟨0, h, rfl, FRd.rf, A, fun _ => rfl⟩
/-- the end of a line in the class -/
theorem endLine_c (hn : 1000 ≤ n) {T : Int → Int} {z x : Int} {s : St3} {h : Hp} (A : Rc h T z s) : ∃ h', JX6_readLine_65 n x h = some (x, h') ∧ FRd h h' ∧ Rc h' T z (rdE T z s) := by
  unfold JX6_readLine_65
  rw [A.1]
  by_cases h1 : s.1 = -1
  · obtain ⟨A1, -⟩ := A.2.1 h1
    have b := A1.2.2.1
    have sb := skp_b (T := T) (z := z) (p := s.2.1) b.2.1
    obtain ⟨g, e, F, g3, g2, Ag, g5⟩ := next_c hn A1
    have e8 : g 29 8 = -1 := by rw [F.1 29 (by decide), A.1]; exact h1
    rw [if_neg (fun q => q h1), e, bndh_s, g2]
    have eu : rdE T z s = (if sgn T z (skp T z s.2.1) = 59 then (-1, skp T z s.2.1 + 1, skp T z s.2.1) else (8 * skp T z s.2.1 + 1, skp T z s.2.1, skp T z s.2.1)) := if_pos h1
    rw [eu]
    by_cases hs : sgn T z (skp T z s.2.1) = 59
    · have ee := en_1 (Or.inr hs)
      have Ag' : TPc g T z (skp T z s.2.1 + 1) := by rw [ee.1] at Ag; exact Ag
      rw [if_pos (kd_s.mpr hs), if_pos hs]
      exact ⟨g, rfl, F.rd, e8, fun _ => ⟨Ag', g3, by show 0 ≤ skp T z s.2.1; omega, by show skp T z s.2.1 ≤ skp T z s.2.1 + 1; omega⟩, fun q => absurd rfl q⟩
    · rw [if_neg (fun q => hs (kd_s.mp q)), if_neg hs, g3, fail_c (by decide) (by omega), e8, if_pos rfl, bndh_s]
      exact ⟨_, rfl, F.rd.pf, up_s, fun q => by have : 8 * skp T z s.2.1 + 1 = -1 := q; omega, fun _ => by show 0 ≤ 8 * skp T z s.2.1 + 1; omega⟩
  · rw [if_pos h1, rdE_f h1]
    exact ⟨h, rfl, FRd.rf, A⟩
end
