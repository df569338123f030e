/-! DO TWO LEGS MEET: the answers. -/
theorem lsgn_e (v : Int) : lsgn v = sg v := by
  unfold lsgn sg
  split <;> split <;> (try split) <;> omega
abbrev inb (m : Hp) (i p a : Int) : Prop := min (pX m i a) (pX m (i + 1) a) ≤ pX m p a ∧ pX m p a ≤ max (pX m i a) (pX m (i + 1) a)
abbrev onl (m : Hp) (i p : Int) : Prop := crs m i p = 0 ∧ inb m i p 0 ∧ inb m i p 1
abbrev mR (m : Hp) (i k : Int) : Prop := onl m i k ∨ onl m i (k + 1) ∨ onl m k i ∨ onl m k (i + 1) ∨ (SPp (crs m i k) (crs m i (k + 1)) ∧ SPp (crs m k i) (crs m k (i + 1)))
abbrev flt (m : Hp) (i k : Int) : Prop := gD m i 2 = 0 ∧ gD m k 2 = 0 ∧ hz m i = hz m k
section
variable {n : Nat} {m : Hp}
theorem mLR (H : WFp m) {i k : Int} (i0 : 0 ≤ i) (i1 : i < nB m) (k0 : 0 ≤ k) (k1 : k < nB m) (F : flt m i k) : mL m i k ↔ mR m i k := by
  have di := (H.2.2.2.2.2.1 i i0 i1).1
  have dk := (H.2.2.2.2.2.1 k k0 k1).1
  have hd : gD m i 0 ≠ 0 ∨ gD m i 1 ≠ 0 := by
    have := F.1
    omega
  have he : gD m k 0 ≠ 0 ∨ gD m k 1 ≠ 0 := by
    have := F.2.1
    omega
  have g := geo (D := gD m i 0 * gD m k 1 - gD m i 1 * gD m k 0) (C1 := crs m i k) (C3 := crs m k i) (a := gD m i 0) (b := gD m i 1) (c := gD m k 0) (f := gD m k 1) (x := pX m k 0 - pX m i 0) (y := pX m k 1 - pX m i 1) rfl rfl (by
    unfold crs
    rw [show pX m i 1 - pX m k 1 = -(pX m k 1 - pX m i 1) by omega, show pX m i 0 - pX m k 0 = -(pX m k 0 - pX m i 0) by omega, Int.mul_neg, Int.mul_neg]
    omega) hd he
  refine g.trans ?_
  unfold geoR mR onl inb
  rw [crs_k, crs_i, gD_x (i := i) (a := 0), gD_x (i := i) (a := 1), gD_x (i := k) (a := 0), gD_x (i := k) (a := 1)]
  clear g hd he di dk F
  generalize gD m i 0 * gD m k 1 - gD m i 1 * gD m k 0 = D
  generalize crs m i k = C1
  generalize crs m k i = C3
  generalize gD m i 0 = a
  generalize gD m i 1 = b
  generalize gD m k 0 = c
  generalize gD m k 1 = f
  generalize pX m i 0 = P0
  generalize pX m i 1 = P1
  generalize pX m k 0 = Q0
  generalize pX m k 1 = Q1
  refine or_congr (and_congr Iff.rfl (and_congr ?_ ?_)) (or_congr (and_congr Iff.rfl (and_congr ?_ ?_)) (or_congr (and_congr Iff.rfl (and_congr ?_ ?_)) (or_congr (and_congr Iff.rfl (and_congr ?_ ?_)) Iff.rfl)))
  all_goals
    constructor
    · intro q
      omega
    · intro q
      omega
theorem one_c {h : Hp} (H : WFp m) {w : Int} (R : RW m h w) (hw : h 39 0 = w) {i k : Int} (i0 : 0 ≤ i) (i1 : i < nB m) (k0 : 0 ≤ k) (k1 : k < nB m) : MX7_isOneLayer i k h = some (if flt m i k then 1 else 0) := by
  have hB := H.1
  have hi : 0 ≤ i ∧ i < 65 := by omega
  have hk : 0 ≤ k ∧ k < 65 := by omega
  have r0 : h (w + 2 + 1 + 2) i = hz m i := R.2.2.1 2 i (by decide) (by decide) i0 (Int.le_of_lt i1)
  have r1 : h (w + 2 + 1 + 2) k = hz m k := R.2.2.1 2 k (by decide) (by decide) k0 (Int.le_of_lt k1)
  unfold MX7_isOneLayer
  rw [hw, step_f H R i0 i1 (by decide) (by decide), bndp_s, step_f H R k0 k1 (by decide) (by decide), bndp_s, al50, al540]
  simp only [grd_t hi, grd_t hk]
  rw [r0, r1]
  by_cases f1 : gD m i 2 = 0
  · rw [if_neg (fun q => q f1)]
    by_cases f2 : gD m k 2 = 0
    · rw [if_neg (fun q => q f2)]
      by_cases f3 : hz m i = hz m k
      · rw [if_neg (fun q => q f3), if_pos (c := flt m i k) ⟨f1, f2, f3⟩]
        rfl
      · rw [if_pos f3, if_neg (c := flt m i k) (fun q => f3 q.2.2)]
        rfl
    · rw [if_pos f2, if_neg (c := flt m i k) (fun q => f2 q.2.1)]
  · rw [if_pos f1, if_neg (c := flt m i k) (fun q => f1 q.1)]
theorem meet_c {h : Hp} (H : WFp m) {w : Int} (R : RW m h w) (hw : h 39 0 = w) {i k : Int} (i0 : 0 ≤ i) (i1 : i < nB m) (k0 : 0 ≤ k) (k1 : k < nB m) : MX7_doMeet i k h = some (if mL m i k then 1 else 0) := by
  have hB := H.1
  have e1 := @crs_k m i k
  have e2 := @crs_i m i k
  unfold MX7_doMeet
  rw [w32_i (x := i + 1) (by omega), w32_i (x := k + 1) (by omega), ov_c H R hw i0 i1 k0 k1 (by decide) (by decide), bndp_s, ov_c H R hw i0 i1 k0 k1 (by decide) (by decide), side_c H R hw i0 i1 k0 (by omega), bndp_s, bndp_s, side_c H R hw i0 i1 (p := k + 1) (by omega) (by omega), bndp_s, side_c H R hw k0 k1 i0 (by omega), bndp_s, side_c H R hw k0 k1 (p := i + 1) (by omega) (by omega), bndp_s, e1, e2]
  by_cases o1 : OVp (gD m i 0) (pX m k 0 - pX m i 0) (gD m k 0)
  · rw [if_pos o1, if_neg (by decide)]
    by_cases o2 : OVp (gD m i 1) (pX m k 1 - pX m i 1) (gD m k 1)
    · rw [if_pos o2, if_neg (by decide)]
      by_cases p1 : NPp (crs m i k) (crs m i k + (gD m i 0 * gD m k 1 - gD m i 1 * gD m k 0))
      · rw [if_neg (fun q => p1 ((sg_pp _ _).mp q))]
        by_cases p2 : NPp (crs m k i) (crs m k i - (gD m i 0 * gD m k 1 - gD m i 1 * gD m k 0))
        · rw [if_neg (fun q => p2 ((sg_pp _ _).mp q)), if_pos (c := mL m i k) ⟨o1, o2, p1, p2⟩]
        · rw [if_pos ((sg_pp _ _).mpr (Decidable.of_not_not p2)), if_neg (c := mL m i k) (fun q => p2 q.2.2.2)]
      · rw [if_pos ((sg_pp _ _).mpr (Decidable.of_not_not p1)), if_neg (c := mL m i k) (fun q => p1 q.2.2.1)]
    · rw [if_neg o2, if_pos rfl, if_neg (c := mL m i k) (fun q => o2 q.2.1)]
  · rw [if_neg o1, if_pos rfl, if_neg (c := mL m i k) (fun q => o1 q.1)]
theorem side_m (H : WFp m) {i p : Int} (i0 : 0 ≤ i) (i1 : i < nB m) (p0 : 0 ≤ p) (p1 : p ≤ nB m) : MX12_sideOf i p m = some (sg (crs m i p)) := by
  have hB := H.1
  have a0 := pX_b H p0 p1 (a := 0) (by decide) (by decide)
  have a1 := pX_b H p0 p1 (a := 1) (by decide) (by decide)
  have b0 := pX_b H i0 (Int.le_of_lt i1) (a := 0) (by decide) (by decide)
  have b1 := pX_b H i0 (Int.le_of_lt i1) (a := 1) (by decide) (by decide)
  have c1 := mbd (wf_go H i0 i1 (a := 0) (by decide) (by decide)) (v := pX m p 1 - pX m i 1) (by omega)
  have c2 := mbd (wf_go H i0 i1 (a := 1) (by decide) (by decide)) (v := pX m p 0 - pX m i 0) (by omega)
  have hb := crs_b H i0 i1 p0 p1
  have r0 : m 122 (3 * p) = pX m p 0 := by unfold pX; rw [Int.add_zero]
  have r1 : m 122 (3 * p + 1) = pX m p 1 := rfl
  have s0 : m 122 (3 * i) = pX m i 0 := by unfold pX; rw [Int.add_zero]
  have s1 : m 122 (3 * i + 1) = pX m i 1 := rfl
  unfold MX12_sideOf
  rw [al1580, w32_i (x := 3 * p) (by omega), w32_i (x := 3 * i) (by omega), w32_i (x := 3 * p + 1) (by omega), w32_i (x := 3 * i + 1) (by omega), grd_t (by omega), grd_t (by omega), ltt_e, grd_t (by omega), grd_t (by omega), ltt_e, goes_m H i0 i1 (by decide) (by decide), bndp_s, goes_m H i0 i1 (by decide) (by decide), bndp_s, r0, r1, s0, s1]
  rw [w32_i (x := pX m p 1 - pX m i 1) (by omega), w32_i (x := pX m p 0 - pX m i 0) (by omega), w64_i (x := gD m i 0 * (pX m p 1 - pX m i 1)) (by omega), w64_i (x := gD m i 1 * (pX m p 0 - pX m i 0)) (by omega)]
  rw [show gD m i 0 * (pX m p 1 - pX m i 1) - gD m i 1 * (pX m p 0 - pX m i 0) = crs m i p from rfl, w64_i (x := crs m i p) (by omega), lsgn_e]
theorem btw_st {f : Nat} (H : WFp m) {i p a : Int} (i0 : 0 ≤ i) (i1 : i < nB m) (p0 : 0 ≤ p) (p1 : p ≤ nB m) (a0 : 0 ≤ a) (a1 : a < 2) : BX12_isBetween_2 n (f + 1) i p a m = if inb m i p a then BX12_isBetween_2 n f i p (a + 1) m else some 0 := by
  have hB := H.1
  have r0 : m 122 (3 * i + a) = pX m i a := rfl
  have r1 : m 122 (3 * (i + 1) + a) = pX m (i + 1) a := rfl
  have r2 : m 122 (3 * p + a) = pX m p a := rfl
  rw [BX12_isBetween_2, if_neg (by omega), al1580, w32_i (x := i + 1) (by omega), w32_i (x := 3 * i) (by omega), w32_i (x := 3 * i + a) (by omega), w32_i (x := 3 * (i + 1)) (by omega), w32_i (x := 3 * (i + 1) + a) (by omega), w32_i (x := 3 * p) (by omega), w32_i (x := 3 * p + a) (by omega), w32_i (x := a + 1) (by omega), grd_t (by omega), ltt_e, grd_t (by omega), ltt_e, grd_t (by omega), ltt_e, r0, r1, r2, in_m, bndp_s]
  by_cases hi : inb m i p a
  · rw [if_pos hi, if_pos hi, if_pos (by decide)]
  · rw [if_neg hi, if_neg hi, if_neg (by decide)]
theorem on_m (hn : 10 ≤ n) (H : WFp m) {i p : Int} (i0 : 0 ≤ i) (i1 : i < nB m) (p0 : 0 ≤ p) (p1 : p ≤ nB m) : MX12_isOn n i p m = some (if onl m i p then 1 else 0) := by
  obtain ⟨n', e⟩ : ∃ n', n = n' + 3 := ⟨n - 3, by omega⟩
  have st : BX12_isBetween_2 n n i p 0 m = some (if inb m i p 0 ∧ inb m i p 1 then 1 else 0) := by
    have : BX12_isBetween_2 n (n' + 3) i p 0 m = some (if inb m i p 0 ∧ inb m i p 1 then 1 else 0) := by
      rw [btw_st H i0 i1 p0 p1 (by decide) (by decide)]
      by_cases h0 : inb m i p 0
      · rw [if_pos h0, btw_st H i0 i1 p0 p1 (by decide) (by decide), show (0 + 1 : Int) = 1 from rfl]
        by_cases h1 : inb m i p 1
        · rw [if_pos (c := inb m i p 1) h1, BX12_isBetween_2, if_pos (by decide), if_pos (show inb m i p 0 ∧ inb m i p 1 from ⟨h0, h1⟩)]
        · rw [if_neg (c := inb m i p 1) h1, if_neg (show ¬ (inb m i p 0 ∧ inb m i p 1) from fun q => h1 q.2)]
      · rw [if_neg h0, if_neg (show ¬ (inb m i p 0 ∧ inb m i p 1) from fun q => h0 q.1)]
    rw [← e] at this
    exact this
  unfold MX12_isOn MX12_isBetween LX12_isBetween_2
  rw [side_m H i0 i1 p0 p1, bndp_s, ltt_e, st, bndp_s]
  by_cases hc : crs m i p = 0
  · rw [if_neg (fun q => (sg_z _).mp q hc)]
    by_cases hb : inb m i p 0 ∧ inb m i p 1
    · rw [if_pos hb, if_neg (by decide), if_pos (c := onl m i p) ⟨hc, hb⟩]
    · rw [if_neg hb, if_pos rfl, if_neg (c := onl m i p) (fun q => hb q.2)]
  · rw [if_pos ((sg_z _).mpr hc), if_neg (c := onl m i p) (fun q => hc q.1)]
theorem meet_m (hn : 10 ≤ n) (H : WFp m) {i k : Int} (i0 : 0 ≤ i) (ik : i + 2 ≤ k) (k1 : k < nB m) : MX12_doMeet n i k m = some (if flt m i k ∧ mR m i k then 1 else 0) := by
  have hB := H.1
  unfold MX12_doMeet
  rw [isFlat_m H i0 (by omega), bndp_s, isFlat_m H (b := k) (by omega) k1, bndp_s, height_m (m := m) rfl i0 (by omega), bndp_s, height_m (m := m) rfl (b := k) (by omega) (by omega), bndp_s, w32_i (x := k - i) (by omega), w32_i (x := i + 1) (by omega), w32_i (x := k + 1) (by omega), if_pos (show 2 ≤ k - i by omega)]
  rw [on_m hn H i0 (by omega) (p := k) (by omega) (by omega), bndp_s, on_m hn H i0 (by omega) (p := k + 1) (by omega) (by omega), bndp_s, on_m hn H (i := k) (by omega) k1 i0 (by omega), bndp_s, on_m hn H (i := k) (by omega) k1 (p := i + 1) (by omega) (by omega), bndp_s]
  rw [side_m H i0 (by omega) (p := k) (by omega) (by omega), bndp_s, side_m H i0 (by omega) (p := k + 1) (by omega) (by omega), bndp_s, side_m H (i := k) (by omega) k1 i0 (by omega), bndp_s, side_m H (i := k) (by omega) k1 (p := i + 1) (by omega) (by omega), bndp_s]
  by_cases f1 : gD m i 2 = 0
  · rw [if_pos f1, if_neg (by decide)]
    by_cases f2 : gD m k 2 = 0
    · rw [if_pos f2, if_neg (by decide)]
      by_cases f3 : hz m i = hz m k
      · have F : flt m i k := ⟨f1, f2, f3⟩
        rw [if_neg (fun q => q f3)]
        by_cases o1 : onl m i k
        · rw [if_pos o1, if_pos (by decide), if_pos (show flt m i k ∧ mR m i k from ⟨F, Or.inl o1⟩)]
        by_cases o2 : onl m i (k + 1)
        · rw [if_neg o1, if_neg (by decide), if_pos o2, if_pos (by decide), if_pos (show flt m i k ∧ mR m i k from ⟨F, Or.inr (Or.inl o2)⟩)]
        by_cases o3 : onl m k i
        · rw [if_neg o1, if_neg (by decide), if_neg o2, if_neg (by decide), if_pos o3, if_pos (by decide), if_pos (show flt m i k ∧ mR m i k from ⟨F, Or.inr (Or.inr (Or.inl o3))⟩)]
        by_cases o4 : onl m k (i + 1)
        · rw [if_neg o1, if_neg (by decide), if_neg o2, if_neg (by decide), if_neg o3, if_neg (by decide), if_pos o4, if_neg (by decide), if_pos (show flt m i k ∧ mR m i k from ⟨F, Or.inr (Or.inr (Or.inr (Or.inl o4)))⟩)]
        rw [if_neg o1, if_neg (by decide), if_neg o2, if_neg (by decide), if_neg o3, if_neg (by decide), if_neg o4, if_pos rfl]
        by_cases p1 : SPp (crs m i k) (crs m i (k + 1))
        · rw [if_neg (fun q => (sg_nn _ _).mp q p1)]
          by_cases p2 : SPp (crs m k i) (crs m k (i + 1))
          · rw [if_neg (fun q => (sg_nn _ _).mp q p2), if_pos (show flt m i k ∧ mR m i k from ⟨F, Or.inr (Or.inr (Or.inr (Or.inr ⟨p1, p2⟩)))⟩)]
          · rw [if_pos ((sg_nn _ _).mpr p2), if_neg (show ¬ (flt m i k ∧ mR m i k) from fun q => q.2.elim o1 (fun q => q.elim o2 (fun q => q.elim o3 (fun q => q.elim o4 (fun q => p2 q.2)))))]
        · rw [if_pos ((sg_nn _ _).mpr p1), if_neg (show ¬ (flt m i k ∧ mR m i k) from fun q => q.2.elim o1 (fun q => q.elim o2 (fun q => q.elim o3 (fun q => q.elim o4 (fun q => p1 q.1)))))]
      · rw [if_pos f3, if_neg (show ¬ (flt m i k ∧ mR m i k) from fun q => f3 q.1.2.2)]
    · rw [if_neg f2, if_pos rfl, if_neg (show ¬ (flt m i k ∧ mR m i k) from fun q => f2 q.1.2.1)]
  · rw [if_neg f1, if_pos rfl, if_neg (show ¬ (flt m i k ∧ mR m i k) from fun q => f1 q.1.1)]
end
