/-! DO TWO LEGS MEET: both programs. -/
theorem mbd {u v : Int} (hu : -200000 ≤ u ∧ u ≤ 200000) (hv : -200000 ≤ v ∧ v ≤ 200000) : -40000000000 ≤ u * v ∧ u * v ≤ 40000000000 := by
  rcases (show 0 ≤ v ∨ v ≤ 0 by omega) with h | h
  · have := mul_up (c := u) (s := v) (D := 200000) h hv.2
    omega
  · have := mul_up (c := u) (s := -v) (D := 200000) (by omega) (by omega)
    rw [Int.mul_neg] at this
    omega
def sg (v : Int) : Int := if 0 ≤ v then (if v ≤ 0 then 0 else 1) else -1
theorem sg_pp (p q : Int) : 0 < w32 (sg p * sg q) ↔ ((0 < p ∧ 0 < q) ∨ (p < 0 ∧ q < 0)) := by
  have e : w32 (sg p * sg q) = sg p * sg q := by
    unfold sg
    split <;> split <;> (try split) <;> (try split) <;> exact w32_i (by decide)
  rw [e]
  unfold sg
  split <;> split <;> (try split) <;> (try split) <;> omega
theorem sg_nn (p q : Int) : 0 ≤ w32 (sg p * sg q) ↔ ¬ ((0 < p ∧ q < 0) ∨ (p < 0 ∧ 0 < q)) := by
  have e : w32 (sg p * sg q) = sg p * sg q := by
    unfold sg
    split <;> split <;> (try split) <;> (try split) <;> exact w32_i (by decide)
  rw [e]
  unfold sg
  split <;> split <;> (try split) <;> (try split) <;> omega
theorem sg_z (p : Int) : sg p ≠ 0 ↔ p ≠ 0 := by
  unfold sg
  split <;> (try split) <;> omega
def pX (m : Hp) (p a : Int) : Int := m 122 (3 * p + a)
/-- on which side of the way of block i point p lies -/
def crs (m : Hp) (i p : Int) : Int := gD m i 0 * (pX m p 1 - pX m i 1) - gD m i 1 * (pX m p 0 - pX m i 0)
abbrev mL (m : Hp) (i k : Int) : Prop :=
  geoL (gD m i 0 * gD m k 1 - gD m i 1 * gD m k 0) (crs m i k) (crs m k i) (gD m i 0) (gD m i 1) (gD m k 0) (gD m k 1) (pX m k 0 - pX m i 0) (pX m k 1 - pX m i 1)
section
variable {n : Nat} {m : Hp}
theorem pX_b (H : WFp m) {p a : Int} (p0 : 0 ≤ p) (p1 : p ≤ nB m) (a0 : 0 ≤ a) (a1 : a < 3) : -100000 ≤ pX m p a ∧ pX m p a ≤ 100000 := H.2.2.2.2.1 (3 * p + a) (by omega) (by omega)
theorem gD_x {i a : Int} : pX m (i + 1) a = pX m i a + gD m i a := by
  unfold pX gD
  omega
theorem crs_k {i k : Int} : crs m i (k + 1) = crs m i k + (gD m i 0 * gD m k 1 - gD m i 1 * gD m k 0) := by
  unfold crs
  rw [gD_x (a := 0), gD_x (a := 1)]
  rw [show pX m k 1 + gD m k 1 - pX m i 1 = (pX m k 1 - pX m i 1) + gD m k 1 by omega, show pX m k 0 + gD m k 0 - pX m i 0 = (pX m k 0 - pX m i 0) + gD m k 0 by omega, Int.mul_add, Int.mul_add]
  omega
theorem crs_i {i k : Int} : crs m k (i + 1) = crs m k i - (gD m i 0 * gD m k 1 - gD m i 1 * gD m k 0) := by
  rw [crs_k, Int.mul_comm (gD m k 0), Int.mul_comm (gD m k 1)]
  omega
theorem crs_b (H : WFp m) {i p : Int} (i0 : 0 ≤ i) (i1 : i < nB m) (p0 : 0 ≤ p) (p1 : p ≤ nB m) : -80000000000 ≤ crs m i p ∧ crs m i p ≤ 80000000000 := by
  have a0 := pX_b H p0 p1 (a := 0) (by decide) (by decide)
  have a1 := pX_b H p0 p1 (a := 1) (by decide) (by decide)
  have b0 := pX_b H i0 (Int.le_of_lt i1) (a := 0) (by decide) (by decide)
  have b1 := pX_b H i0 (Int.le_of_lt i1) (a := 1) (by decide) (by decide)
  have c1 := mbd (wf_go H i0 i1 (a := 0) (by decide) (by decide)) (v := pX m p 1 - pX m i 1) (by omega)
  have c2 := mbd (wf_go H i0 i1 (a := 1) (by decide) (by decide)) (v := pX m p 0 - pX m i 0) (by omega)
  unfold crs
  omega
theorem side_c {h : Hp} (H : WFp m) {w : Int} (R : RW m h w) (hw : h 39 0 = w) {i p : Int} (i0 : 0 ≤ i) (i1 : i < nB m) (p0 : 0 ≤ p) (p1 : p ≤ nB m) : MX7_side i p h = some (sg (crs m i p)) := by
  have hB := H.1
  have a0 := pX_b H p0 p1 (a := 0) (by decide) (by decide)
  have a1 := pX_b H p0 p1 (a := 1) (by decide) (by decide)
  have b0 := pX_b H i0 (Int.le_of_lt i1) (a := 0) (by decide) (by decide)
  have b1 := pX_b H i0 (Int.le_of_lt i1) (a := 1) (by decide) (by decide)
  have c1 := mbd (wf_go H i0 i1 (a := 0) (by decide) (by decide)) (v := pX m p 1 - pX m i 1) (by omega)
  have c2 := mbd (wf_go H i0 i1 (a := 1) (by decide) (by decide)) (v := pX m p 0 - pX m i 0) (by omega)
  have hb := crs_b H i0 i1 p0 p1
  have r := R.2.2.1
  have hi : 0 ≤ i ∧ i < 65 := by omega
  have hp : 0 ≤ p ∧ p < 65 := by omega
  unfold MX7_side
  rw [hw, al50, al540, grd_t (by decide), grd_t hp, grd_t (by decide), grd_t hi, ltt_e, grd_t (by decide), grd_t hp, grd_t (by decide), grd_t hi, ltt_e, step_f H R i0 i1 (by decide) (by decide), bndp_s, step_f H R i0 i1 (by decide) (by decide), bndp_s, ltt_e]
  have r0 : h (w + 2 + 1 + 0) p = pX m p 0 := r 0 p (by decide) (by decide) p0 p1
  have r1 : h (w + 2 + 1 + 1) p = pX m p 1 := r 1 p (by decide) (by decide) p0 p1
  have s0 : h (w + 2 + 1 + 0) i = pX m i 0 := r 0 i (by decide) (by decide) i0 (Int.le_of_lt i1)
  have s1 : h (w + 2 + 1 + 1) i = pX m i 1 := r 1 i (by decide) (by decide) i0 (Int.le_of_lt i1)
  rw [r0, r1, s0, s1]
  rw [w32_i (x := pX m p 1 - pX m i 1) (by omega), w32_i (x := pX m p 0 - pX m i 0) (by omega), w64_i (x := gD m i 0 * (pX m p 1 - pX m i 1)) (by omega), w64_i (x := gD m i 1 * (pX m p 0 - pX m i 0)) (by omega)]
  rw [show gD m i 0 * (pX m p 1 - pX m i 1) - gD m i 1 * (pX m p 0 - pX m i 0) = crs m i p from rfl, w64_i (x := crs m i p) (by omega)]
  simp only [lcp_ge, lcp_le]
  unfold sg
  by_cases g1 : 0 ≤ crs m i p
  · rw [if_pos g1, if_pos g1]
    by_cases g2 : crs m i p ≤ 0
    · rw [if_pos g2, if_pos g2]
    · rw [if_neg g2, if_neg g2]
  · rw [if_neg g1, if_neg g1]
theorem ov_c {h : Hp} (H : WFp m) {w : Int} (R : RW m h w) (hw : h 39 0 = w) {i k a : Int} (i0 : 0 ≤ i) (i1 : i < nB m) (k0 : 0 ≤ k) (k1 : k < nB m) (a0 : 0 ≤ a) (a1 : a < 3) : MX7_doOverlap i k a h = some (if OVp (gD m i a) (pX m k a - pX m i a) (gD m k a) then 1 else 0) := by
  have hB := H.1
  have r := fun p p0 p1 => R.2.2.1 a p a0 a1 p0 p1
  have hi : 0 ≤ i ∧ i < 65 := by omega
  have hk : 0 ≤ k ∧ k < 65 := by omega
  have hi1 : 0 ≤ i + 1 ∧ i + 1 < 65 := by omega
  have hk1 : 0 ≤ k + 1 ∧ k + 1 < 65 := by omega
  have ha : 0 ≤ a ∧ a < 3 := ⟨a0, a1⟩
  unfold MX7_doOverlap
  rw [hw, al50, al540, w32_i (x := i + 1) (by omega), w32_i (x := k + 1) (by omega)]
  simp only [grd_t hi, grd_t hk, grd_t hi1, grd_t hk1, grd_t ha]
  rw [r i i0 (by omega), r k k0 (by omega), r (i + 1) (by omega) (by omega), r (k + 1) (by omega) (by omega)]
  have e1 : m 122 (3 * i + a) = pX m i a := rfl
  have e2 : m 122 (3 * k + a) = pX m k a := rfl
  have e3 : m 122 (3 * (i + 1) + a) = pX m i a + gD m i a := gD_x
  have e4 : m 122 (3 * (k + 1) + a) = pX m k a + gD m k a := gD_x
  rw [e1, e2, e3, e4]
  clear r e1 e2 e3 e4 R
  generalize pX m i a = P at *
  generalize pX m k a = Q at *
  generalize gD m i a = d at *
  generalize gD m k a = e at *
  by_cases g1 : max Q (Q + e) < min P (P + d)
  · rw [if_pos g1, if_neg (c := OVp d (Q - P) e) (fun q => q.1 (by omega))]
  · by_cases g2 : max P (P + d) < min Q (Q + e)
    · rw [if_neg g1, if_pos g2, if_neg (c := OVp d (Q - P) e) (fun q => q.2 (by omega))]
    · rw [if_neg g1, if_neg g2, if_pos (c := OVp d (Q - P) e) ⟨by omega, by omega⟩]
end
