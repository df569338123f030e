/-! NUMBERS IN A LINE: the model. -/
section
variable {n : Nat}
/-- the model's reader is at s -/
def Rm (h : Hp) (T : Int → Int) (z : Int) (s : St3) : Prop := h 113 22 = s.1 ∧ (s.1 = -1 → TPm h T z s.2.1) ∧ (s.1 ≠ -1 → 0 ≤ s.1)
/-- but for the place, the fault and where a number was, h' is as h -/
def FMr (h h' : Hp) : Prop := (∀ c, c ≠ 113 → h' c = h c) ∧ ∀ i, (i < 21 ∨ 24 < i) → h' 113 i = h 113 i
theorem FMr.rf {h : Hp} : FMr h h := ⟨fun _ _ => rfl, fun _ _ => rfl⟩
theorem FMr.tr {h g k : Hp} (a : FMr h g) (b : FMr g k) : FMr h k := ⟨fun c h1 => (b.1 c h1).trans (a.1 c h1), fun i hi => (b.2 i hi).trans (a.2 i hi)⟩
theorem FMr.put {h g : Hp} (a : FMr h g) {i v : Int} (hi : 21 ≤ i ∧ i ≤ 24) : FMr h (up g 113 i v) := ⟨fun c h1 => (up_row h1).trans (a.1 c h1), fun j hj => (up_i (by omega)).trans (a.2 j hj)⟩
theorem FPl.mr {h g : Hp} (a : FPl h g) : FMr h g := ⟨a.1, fun i hi => a.2 i (by omega)⟩
theorem isRight_m (h : Hp) : MX12_isRight h = some (if h 113 22 = -1 then 1 else 0) := by
  unfold MX12_isRight
  by_cases h1 : h 113 22 = -1
  · rw [if_neg (fun q => q h1), if_pos h1]
  · rw [if_pos h1, if_neg h1]
theorem fails_m {h : Hp} {k p : Int} (hk : 0 ≤ k ∧ k ≤ 7) (hp : 0 ≤ p ∧ p ≤ 1000) : MX12_fails k p h = some (if h 113 22 = -1 then up h 113 22 (8 * p + k) else h) := by
  unfold MX12_fails
  by_cases h1 : h 113 22 = -1
  · rw [if_neg (fun q => q h1), if_pos h1, w32_i (x := 8 * p) (by omega), w32_i (x := 8 * p + k) (by omega), ltt_e]
  · rw [if_pos h1, if_neg h1]
theorem Rm.fl {h : Hp} {T : Int → Int} {z : Int} {s : St3} (A : Rm h T z s) {v : Int} (hv : 0 ≤ v) : Rm (if h 113 22 = -1 then up h 113 22 v else h) T z (flS s v) ∧ FMr h (if h 113 22 = -1 then up h 113 22 v else h) := by
  unfold flS
  rw [A.1]
  by_cases h1 : s.1 = -1
  · rw [if_pos h1, if_pos h1]
    exact ⟨⟨up_s, fun q => by have : v = -1 := q; omega, fun _ => hv⟩, FMr.rf.put (by decide)⟩
  · rw [if_neg h1, if_neg h1]
    exact ⟨A, FMr.rf⟩
theorem isDigit_m {h : Hp} {T : Int → Int} {z p : Int} (A : TPm h T z p) : MX12_isDigit h = some (if p < z ∧ dgt (T p) then 1 else 0) := by
  have b := A.2.2.1
  unfold MX12_isDigit
  rw [sign_m A, bndp_s, in_m, bndp_s]
  have e : (48 ≤ sgn T z p ∧ sgn T z p ≤ 57) ↔ (p < z ∧ dgt (T p)) := by
    unfold sgn
    by_cases h1 : p < z
    · rw [if_pos h1]
      exact ⟨fun q => ⟨h1, q⟩, fun q => q.2⟩
    · rw [if_neg h1]
      constructor <;> intro q <;> omega
  by_cases hd : p < z ∧ dgt (T p)
  · rw [if_pos (e.mpr hd), if_pos hd, grd_t (Or.inr rfl)]
  · rw [if_neg (fun q => hd (e.mp q)), if_neg hd, grd_t (Or.inl rfl)]
theorem digs_m {T : Int → Int} {z x1 x2 x3 : Int} : ∀ (r f : Nat) (p v : Int) (h : Hp), p + r = z → r < f → TPm h T z p → 0 ≤ v → v ≤ 10000000 → ∃ h', BX12_number_68 n f x1 x2 x3 v h = some (x1, x2, x3, nmR 10000000 T (dnd T z p - p).toNat p v, h') ∧ FPl h h' ∧ TPm h' T z (dnd T z p)
  | 0, f + 1, p, v, h, hr, hf, A, v0, v1 => by
    have e : dnd T z p = p := fnd_z (by omega)
    rw [BX12_number_68, isDigit_m A, bndp_s, if_neg (show ¬ (p < z ∧ dgt (T p)) by omega), if_pos rfl, e, Int.sub_self]
    exact ⟨h, rfl, FPl.rf, A⟩
  | r + 1, f + 1, p, v, h, hr, hf, A, v0, v1 => by
    have b := A.2.2.1
    rw [BX12_number_68, isDigit_m A, bndp_s]
    by_cases hb : dgt (T p)
    · have e : dnd T z p = dnd T z (p + 1) := fnd_f (by omega) (by unfold ndg; rw [decide_eq_true_eq]; exact fun q => q hb)
      have q := dnd_b (T := T) (z := z) (p := p + 1) (by omega)
      have es : sgn T z p = T p := if_pos (by omega)
      rw [if_pos (show p < z ∧ dgt (T p) from ⟨by omega, hb⟩), if_neg (by decide), sign_m A, bndp_s, es, Int.mul_comm 10 v, w32_i (x := v * 10) (by omega), w32_i (x := v * 10 + T p) (by omega), w32_i (x := v * 10 + T p - 48) (by omega), ltt_e, ltt_e, A.2.1, w32_i (x := p + 1) (by omega), e]
      obtain ⟨h', e', F, A'⟩ := digs_m r f (p + 1) (min 10000000 (v * 10 + T p - 48)) (up h 113 21 (p + 1)) (by omega) (by omega) (A.go (by omega)) (by omega) (by omega)
      refine ⟨h', ?_, (FPl.rf.put).tr F, A'⟩
      rw [e', show (dnd T z (p + 1) - p).toNat = (dnd T z (p + 1) - (p + 1)).toNat + 1 by omega]
      rfl
    · have e : dnd T z p = p := fnd_t (by omega) (by unfold ndg; rw [decide_eq_true_eq]; exact hb)
      rw [if_neg (show ¬ (p < z ∧ dgt (T p)) from fun q => hb q.2), if_pos rfl, e, Int.sub_self]
      exact ⟨h, rfl, FPl.rf, A⟩
/-- a number of the model, from its first digit on -/
theorem num_m (hn : 1000 ≤ n) {T : Int → Int} {z a x1 x2 x3 : Int} {h : Hp} (A : TPm h T z a) (h22 : h 113 22 = -1) : ∃ v h', JX12_number_39 n x1 x2 x3 h = some (v, h') ∧ FMr h h' ∧ h' 113 23 = a ∧ (¬ (a < z ∧ dgt (T a)) → h' 113 22 = 8 * a + 1) ∧ (a < z ∧ dgt (T a) → v = (if x3 = 45 then -(nmV 10000000 T a (dnd T z a)) else nmV 10000000 T a (dnd T z a)) ∧ (x1 ≤ v ∧ v ≤ x2 → h' 113 22 = -1 ∧ TPm h' T z (dnd T z a)) ∧ (¬ (x1 ≤ v ∧ v ≤ x2) → h' 113 22 = 8 * a + 2)) := by
  have b := A.2.2.1
  have A1 : TPm (up h 113 23 a) T z a := A.st (up_row (by decide)) (up_i (by decide)) ((up_i (by decide)).trans A.2.1) (by omega)
  unfold JX12_number_39
  rw [A.2.1, ltt_e, isDigit_m A1, bndp_s]
  by_cases hd : a < z ∧ dgt (T a)
  · obtain ⟨h1, e1, F1, A2⟩ := digs_m (n := n) (x1 := x1) (x2 := x2) (x3 := x3) (z - a).toNat n a 0 _ (by omega) (by omega) A1 (by decide) (by decide)
    have nb := (nmV_b (T := T) (z := z) (p := a) (by omega)).1
    have F2 : FMr h h1 := (FMr.rf.put (by decide)).tr F1.mr
    have e22 : h1 113 22 = -1 := by rw [F1.2 22 (by decide), up_i (by decide)]; exact h22
    have e23 : h1 113 23 = a := by rw [F1.2 23 (by decide), up_s]
    unfold LX12_number_68
    rw [if_pos hd, if_pos (by decide), ltt_e, e1, bndx_s]
    show ∃ v h', JX12_number_109 n x1 x2 x3 (nmV 10000000 T a (dnd T z a)) h1 = some (v, h') ∧ _
    generalize nmV 10000000 T a (dnd T z a) = V at *
    have J : ∀ v : Int, v = (if x3 = 45 then -V else V) → ∃ h', JX12_number_123 n x1 x2 v h1 = some (v, h') ∧ FMr h h' ∧ h' 113 23 = a ∧ (¬ (a < z ∧ dgt (T a)) → h' 113 22 = 8 * a + 1) ∧ (a < z ∧ dgt (T a) → v = (if x3 = 45 then -V else V) ∧ (x1 ≤ v ∧ v ≤ x2 → h' 113 22 = -1 ∧ TPm h' T z (dnd T z a)) ∧ (¬ (x1 ≤ v ∧ v ≤ x2) → h' 113 22 = 8 * a + 2)) := fun v hv => by
      unfold JX12_number_123
      rw [ltt_e, in_m, bndp_s]
      by_cases hr : x1 ≤ v ∧ v ≤ x2
      · rw [if_pos hr, if_pos (by decide)]
        exact ⟨h1, rfl, F2, e23, fun q => absurd hd q, fun _ => ⟨hv, fun _ => ⟨e22, A2⟩, fun q => absurd hr q⟩⟩
      · rw [if_neg hr, if_neg (by decide), e23, fails_m (by decide) (by omega), e22, if_pos rfl, bndh_s]
        exact ⟨_, rfl, F2.put (by decide), (up_i (by decide)).trans e23, fun q => absurd hd q, fun _ => ⟨hv, fun q => absurd q hr, fun _ => up_s⟩⟩
    unfold JX12_number_109
    by_cases h45 : x3 = 45
    · rw [if_neg (fun q => q h45), w32_i (x := -V) (by omega)]
      obtain ⟨h', e, r⟩ := J (-V) (by rw [if_pos h45])
      exact ⟨-V, h', e, r⟩
    · rw [if_pos h45]
      obtain ⟨h', e, r⟩ := J V (by rw [if_neg h45])
      exact ⟨V, h', e, r⟩
  · rw [if_neg hd, if_neg (by decide), up_i (by decide), A.2.1, fails_m (by decide) (by omega), up_i (by decide), h22, if_pos rfl, bndh_s]
    exact ⟨0, _, rfl, (FMr.rf.put (by decide)).put (by decide), (up_i (by decide)).trans up_s, fun _ => up_s, fun q => absurd q hd⟩
end
