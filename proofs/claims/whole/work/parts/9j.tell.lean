/-! A MOVE IS TOLD: both programs. -/
theorem bey_iff {px py pz : PF} {c : Int} (h0 : ¬ beyP px py pz 0) : (∃ j : Int, 1 ≤ j ∧ j ≤ c ∧ chg px py pz j ∧ beyP px py pz j) ↔ ∃ j : Int, 1 ≤ j ∧ j ≤ c ∧ beyP px py pz j := by
  constructor
  · rintro ⟨j, j0, j1, j2, j3⟩
    exact ⟨j, j0, j1, j3⟩
  · rintro ⟨j, j0, j1, j2⟩
    have ind : ∀ k : Nat, (k : Int) ≤ c → beyP px py pz k → ∃ j : Int, 1 ≤ j ∧ j ≤ c ∧ chg px py pz j ∧ beyP px py pz j := fun k => by
      induction k with
      | zero => exact fun _ q => absurd q h0
      | succ k ih =>
        intro hk hb
        have ek : ((k + 1 : Nat) : Int) = (k : Int) + 1 := by omega
        rw [ek] at hk hb
        by_cases hc : chg px py pz ((k : Int) + 1)
        · exact ⟨(k : Int) + 1, by omega, hk, hc, hb⟩
        · unfold chg at hc
          rw [Int.add_sub_cancel] at hc
          have e1 : px ((k : Int) + 1) = px k := Classical.not_not.mp (fun t => hc (Or.inl t))
          have e2 : py ((k : Int) + 1) = py k := Classical.not_not.mp (fun t => hc (Or.inr (Or.inl t)))
          have e3 : pz ((k : Int) + 1) = pz k := Classical.not_not.mp (fun t => hc (Or.inr (Or.inr t)))
          refine ih (by omega) ?_
          unfold beyP at hb ⊢
          rw [e1, e2, e3] at hb
          exact hb
    have ej : ((j.toNat : Nat) : Int) = j := by omega
    exact ind j.toNat (by omega) (by rw [ej]; exact j2)
theorem gN_ex {px py pz : PF} : ∀ (K : Nat) (i : Int), 0 ≤ i → i < gN px py pz K → ∃ j : Nat, j < K ∧ gN px py pz j = i ∧ chg px py pz ((j : Int) + 1)
  | 0, i, h0, h1 => by
    have : gN px py pz 0 = 0 := rfl
    omega
  | K + 1, i, h0, h1 => by
    by_cases hi : i < gN px py pz K
    · obtain ⟨j, j1, j2⟩ := gN_ex K i h0 hi
      exact ⟨j, by omega, j2⟩
    · rw [gN_s] at h1
      by_cases hc : chg px py pz ((K : Int) + 1)
      · rw [if_pos hc] at h1
        exact ⟨K, by omega, by omega, hc⟩
      · rw [if_neg hc] at h1
        omega
theorem bgP_of {hm hm' : Hp} {N : Int} (e : ∀ i, i < 3 * (N + 1) → hm' 119 i = hm 119 i) : ∀ k : Nat, (k : Int) ≤ N → bgP hm' k = bgP hm k
  | 0, _ => rfl
  | k + 1, hk => by
    have ih := bgP_of e k (by omega)
    show bgP hm' k + lnP hm' k = bgP hm k + lnP hm k
    rw [ih]
    unfold lnP
    rw [e _ (by omega), e _ (by omega), e _ (by omega), e _ (by omega), e _ (by omega), e _ (by omega)]
section
variable {n : Nat} {m : Hp}
theorem RW.mv5 {h : Hp} {w N M M' : Int} (R : RW (trP m N M) h w) : RW (trP m N M') (up h w 12 M') w := by
  obtain ⟨⟨r9, r10, r11, r12, r13, r14⟩, r2, r3, r4, r5⟩ := R
  have eb : ∀ b k M, lb (trP m N M) b k = lb m b k := fun b k M => by
    unfold lb
    rw [trP_ln, trP_gD, trP_o (c := 115) (by decide)]
  have es : ∀ b M, shp (trP m N M) b = shp m b := fun b M => by
    unfold shp bend
    rw [trP_ln, trP_gD]
  refine ⟨⟨(up_i (by decide)).trans r9, (up_i (by decide)).trans r10, (up_i (by decide)).trans r11, up_s, (up_i (by decide)).trans r13, (up_i (by decide)).trans r14⟩, fun k k0 k1 => (up_c (by omega)).trans (r2 k k0 k1), fun a k a0 a1 k0 k1 => (up_c (by omega)).trans (r3 a k a0 a1 k0 k1), fun b b0 b1 => ?_, fun b b0 b1 => ?_⟩
  · have t := r4 b b0 b1
    rw [up_row (by omega), up_row (by omega), up_row (by omega), up_row (by omega), up_row (by omega), up_row (by omega), trP_ln, trP_bg, eb, eb]
    rw [trP_ln, trP_bg, eb, eb] at t
    exact t
  · have t := r5 b b0 b1
    rw [up_row (by omega), es]
    rw [es] at t
    exact t
theorem add_n {h : Hp} {w N p q r f : Int} (e11 : h w 11 = N) (hN : 0 ≤ N ∧ N ≤ 64) (ep : h (w + 2 + 1 + 0) N = p) (eq' : h (w + 2 + 1 + 1) N = q) (er : h (w + 2 + 1 + 2) N = r) : MX10_add n w p q r f h = some h := by
  unfold MX10_add
  rw [e11, ltt_e]
  by_cases h64 : 64 ≤ N
  · rw [if_pos h64]
  · rw [if_neg h64, last_c (by decide) (by decide) e11 hN.1 hN.2, bndp_s, last_c (by decide) (by decide) e11 hN.1 hN.2, bndp_s, last_c (by decide) (by decide) e11 hN.1 hN.2, bndp_s, ep, eq', er, if_neg (fun t => t rfl), if_neg (fun t => t rfl), if_neg (fun t => t rfl)]
/-- what the telling of a move may change in the class -/
def FTl (w : Int) (h h' : Hp) : Prop := (∀ c, c ≠ 29 → (c < 30 ∨ 33 < c) → (c < w ∨ w + 12 < c) → h' c = h c) ∧ ∀ i, i ≠ 8 → h' 29 i = h 29 i
theorem adds_l (hn : 100 ≤ n) (H : WFp m) {px py pz : PF} {N0 M0 f w c row : Int} (hw : w = 1 ∨ w = 14) (hr : 0 ≤ row ∧ row ≤ 240) (h0 : 0 ≤ N0) (hM : 0 ≤ M0 ∧ M0 ≤ 40) (hc : 1 ≤ c ∧ c ≤ 32) (hN : N0 + gN px py pz c.toNat = nB m) (PL : ∀ k : Nat, (k : Int) ≤ c → m 122 (3 * (N0 + gN px py pz k)) = px k ∧ m 122 (3 * (N0 + gN px py pz k) + 1) = py k ∧ m 122 (3 * (N0 + gN px py pz k) + 2) = pz k) (FD : ∀ b, N0 ≤ b → b < nB m → m 123 b = f ∧ m 124 b = M0) : ∀ (r k fu : Nat) (h : Hp), (k : Int) + r = c → r < fu → CPt h c px py pz → h 29 7 = w → h 34 (row + 5) = f → RW (trP m (N0 + gN px py pz k) M0) h w → ∃ h', BX6_tellMove_95 n fu row ((k : Int) + 1) h = some h' ∧ FWy w h h' ∧ RW (trP m (nB m) M0) h' w
  | 0, k, fu + 1, h, hk, hf, C, e7, e5, R => by
    have ek : c.toNat = k := by omega
    rw [ek] at hN
    rw [BX6_tellMove_95, C.1, if_pos (by omega)]
    rw [hN] at R
    exact ⟨h, rfl, FWy.rf, R⟩
  | r + 1, k, fu + 1, h, hk, hf, C, e7, e5, R => by
    have hB := H.1
    have gb := gN_b (px := px) (py := py) (pz := pz) k
    have mono := gN_m (px := px) (py := py) (pz := pz) (c.toNat - k) k
    have mono' := gN_m (px := px) (py := py) (pz := pz) (c.toNat - (k + 1)) (k + 1)
    rw [show k + (c.toNat - k) = c.toNat by omega] at mono
    rw [show k + 1 + (c.toNat - (k + 1)) = c.toNat by omega] at mono'
    have P1 := PL (k + 1) (by omega)
    have P0 := PL k (by omega)
    have a := C.2 ((k : Int) + 1) (by omega) (by omega)
    have ek : ((k + 1 : Nat) : Int) = (k : Int) + 1 := by omega
    have eg := gN_s (px := px) (py := py) (pz := pz) (k := k)
    rw [ek] at P1
    have main : ∃ g, MX10_add n w (px ((k : Int) + 1)) (py ((k : Int) + 1)) (pz ((k : Int) + 1)) f h = some g ∧ FWy w h g ∧ RW (trP m (N0 + gN px py pz (k + 1)) M0) g w := by
      by_cases hch : chg px py pz ((k : Int) + 1)
      · rw [eg, if_pos hch, ← Int.add_assoc] at P1
        rw [eg, if_pos hch] at mono'
        have fd := FD (N0 + gN px py pz k) (by omega) (by omega)
        obtain ⟨g, e, F, R'⟩ := add_c (n := n) hn H (N := N0 + gN px py pz k) (by omega) hM R (p := px ((k : Int) + 1)) (q := py ((k : Int) + 1)) (r := pz ((k : Int) + 1)) (f := f) P1.1.symm P1.2.1.symm P1.2.2.symm fd.1.symm fd.2
        refine ⟨g, e, F, ?_⟩
        rw [eg, if_pos hch, ← Int.add_assoc]
        exact R'
      · rw [eg, if_neg hch, Int.add_zero] at P1
        have r3 := R.2.2.1
        have q0 := r3 0 (N0 + gN px py pz k) (by decide) (by decide) (by omega) (Int.le_refl _)
        have q1 := r3 1 (N0 + gN px py pz k) (by decide) (by decide) (by omega) (Int.le_refl _)
        have q2 := r3 2 (N0 + gN px py pz k) (by decide) (by decide) (by omega) (Int.le_refl _)
        rw [trP_o (by decide)] at q0 q1 q2
        rw [show 3 * (N0 + gN px py pz k) + 0 = 3 * (N0 + gN px py pz k) by omega] at q0
        refine ⟨h, add_n (N := N0 + gN px py pz k) R.1.2.2.1 (by omega) (q0.trans P1.1) (q1.trans P1.2.1) (q2.trans P1.2.2), FWy.rf, ?_⟩
        rw [eg, if_neg hch, Int.add_zero]
        exact R
    obtain ⟨g, e, F, R'⟩ := main
    have C' : CPt g c px py pz := ⟨by rw [F.1 30 (by omega)]; exact C.1, fun i i0 i1 => by rw [F.1 31 (by omega), F.1 32 (by omega), F.1 33 (by omega)]; exact C.2 i i0 i1⟩
    obtain ⟨h', e', F', R2⟩ := adds_l hn H hw hr h0 hM hc hN PL FD r (k + 1) fu g (by omega) (by omega) C' (by rw [F.1 29 (by omega)]; exact e7) (by rw [F.1 34 (by omega)]; exact e5) R'
    rw [BX6_tellMove_95, C.1, if_neg (by omega), if_neg (by omega), al284, al1988, grd_t (by omega), grd_t (by omega), grd_t (by omega), w32_i (x := row + 5) (by omega), grd_t (by omega), e7, a.1, a.2.1, a.2.2, e5, e, bndh_s, ltt_e, w32_i (x := (k : Int) + 1 + 1) (by omega), ← ek]
    exact ⟨h', e', F.tr F', R2⟩
/-- both programs hold the same program -/
def PG (hc hm : Hp) (T : Int → Int) (z w : Int) : Prop :=
  WFp (pv hm) ∧ RW (pv hm) hc w ∧ (∀ a, 0 ≤ a → a < 3 → hm 128 a = hm 119 (3 * hm 113 3 + a)) ∧ (∀ i, 0 ≤ i → i < 6 * hm 113 2 → hc 34 i = hm 116 i) ∧ (∀ k, 0 ≤ k → k < hm 113 2 → VR (hm 116 (6 * k)) (hm 116 (6 * k + 1)) (hm 116 (6 * k + 2)) (hm 116 (6 * k + 3)) (hm 116 (6 * k + 4)) (hm 116 (6 * k + 5))) ∧ MKS hc hm T z (hm 113 4) ∧ ∀ k, 0 ≤ k → k < hm 113 4 → hc 37 k = hm 118 k ∧ 0 ≤ hm 118 k ∧ hm 118 k ≤ hm 113 2
theorem rowOf_c {M : Int} (hM : 0 ≤ M ∧ M ≤ 40) : MX6_rowOf M = some (6 * M) := by
  unfold MX6_rowOf
  rw [within_c, bndp_s, if_pos hM.1, if_pos hM.2, Int.mul_comm M 6, w32_i (by omega)]
/-- what the model has behind a move that it made, against what it had before -/
def MVr (hm hm' : Hp) (k a b c d f : Int) (f0 M' : Int) : Prop :=
  (∀ c, c ≠ 113 → c ≠ 116 → c ≠ 119 → c ≠ 120 → c ≠ 121 → c ≠ 128 → c ≠ 129 → c ≠ 130 → hm' c = hm c) ∧ (∀ i, i ≠ 2 → i ≠ 3 → i ≠ 26 → i ≠ 27 → i ≠ 30 → hm' 113 i = hm 113 i) ∧ (∀ i, i < 6 * hm 113 2 → hm' 116 i = hm 116 i) ∧ (hm 113 2 < 40 → hm' 116 (6 * hm 113 2) = k ∧ hm' 116 (6 * hm 113 2 + 1) = a ∧ hm' 116 (6 * hm 113 2 + 2) = b ∧ hm' 116 (6 * hm 113 2 + 3) = c ∧ hm' 116 (6 * hm 113 2 + 4) = d ∧ hm' 116 (6 * hm 113 2 + 5) = f) ∧
  (WS hm' (mvX (hm 114 7) k a b c (hm 128 0) (mvN (hm 114 7) k a b c)) (mvY (hm 114 7) k a b c (hm 128 1) (mvN (hm 114 7) k a b c)) (mvZ (hm 114 7) k a b c d (hm 128 2) (mvN (hm 114 7) k a b c)) (min 64 (hm 113 3 + gN (mvX (hm 114 7) k a b c (hm 128 0)) (mvY (hm 114 7) k a b c (hm 128 1)) (mvZ (hm 114 7) k a b c d (hm 128 2)) (mvN (hm 114 7) k a b c).toNat)) (ci (∃ j : Int, 1 ≤ j ∧ j ≤ mvN (hm 114 7) k a b c ∧ chg (mvX (hm 114 7) k a b c (hm 128 0)) (mvY (hm 114 7) k a b c (hm 128 1)) (mvZ (hm 114 7) k a b c d (hm 128 2)) j ∧ beyP (mvX (hm 114 7) k a b c (hm 128 0)) (mvY (hm 114 7) k a b c (hm 128 1)) (mvZ (hm 114 7) k a b c d (hm 128 2)) j) 1 0) (if f0 = 1 ∨ 64 < hm 113 3 + gN (mvX (hm 114 7) k a b c (hm 128 0)) (mvY (hm 114 7) k a b c (hm 128 1)) (mvZ (hm 114 7) k a b c d (hm 128 2)) (mvN (hm 114 7) k a b c).toNat then 1 else 0) M' ∧ (∀ i, i < 3 * (hm 113 3 + 1) → hm' 119 i = hm 119 i) ∧ (∀ b, b < hm 113 3 → hm' 120 b = hm 120 b ∧ hm' 121 b = hm 121 b) ∧
  ∀ j : Int, 1 ≤ j → j ≤ mvN (hm 114 7) k a b c → chg (mvX (hm 114 7) k a b c (hm 128 0)) (mvY (hm 114 7) k a b c (hm 128 1)) (mvZ (hm 114 7) k a b c d (hm 128 2)) j → hm 113 3 + gN (mvX (hm 114 7) k a b c (hm 128 0)) (mvY (hm 114 7) k a b c (hm 128 1)) (mvZ (hm 114 7) k a b c d (hm 128 2)) j.toNat ≤ 64 → (hm' 119 (3 * (hm 113 3 + gN (mvX (hm 114 7) k a b c (hm 128 0)) (mvY (hm 114 7) k a b c (hm 128 1)) (mvZ (hm 114 7) k a b c d (hm 128 2)) j.toNat)) = mvX (hm 114 7) k a b c (hm 128 0) j ∧ hm' 119 (3 * (hm 113 3 + gN (mvX (hm 114 7) k a b c (hm 128 0)) (mvY (hm 114 7) k a b c (hm 128 1)) (mvZ (hm 114 7) k a b c d (hm 128 2)) j.toNat) + 1) = mvY (hm 114 7) k a b c (hm 128 1) j ∧ hm' 119 (3 * (hm 113 3 + gN (mvX (hm 114 7) k a b c (hm 128 0)) (mvY (hm 114 7) k a b c (hm 128 1)) (mvZ (hm 114 7) k a b c d (hm 128 2)) j.toNat) + 2) = mvZ (hm 114 7) k a b c d (hm 128 2) j) ∧ hm' 120 (hm 113 3 + gN (mvX (hm 114 7) k a b c (hm 128 0)) (mvY (hm 114 7) k a b c (hm 128 1)) (mvZ (hm 114 7) k a b c d (hm 128 2)) j.toNat - 1) = f ∧ hm' 121 (hm 113 3 + gN (mvX (hm 114 7) k a b c (hm 128 0)) (mvY (hm 114 7) k a b c (hm 128 1)) (mvZ (hm 114 7) k a b c d (hm 128 2)) j.toNat - 1) = M' - 1)
end
