/-! THE CLASS'S LAYERS. -/
section
variable {n : Nat} {m : Hp}
/-- but for the layers' cells, h is as g -/
def CY (g h : Hp) : Prop := KS g h ∧ (∀ c, c ≠ 39 → c ≠ 47 → c ≠ 48 → c ≠ 49 → h c = g c) ∧ ∀ i, i ≠ 10 → h 39 i = g 39 i
theorem CY.rf {g : Hp} : CY g g := ⟨KS.rf, fun _ _ _ _ _ => rfl, fun _ _ => rfl⟩
theorem CY.put {g h : Hp} (K : CY g h) {c i v : Int} (hc : c = 47 ∨ c = 48 ∨ c = 49) : CY g (up h c i v) := ⟨K.1.put (by omega), fun b b1 b2 b3 b4 => by rw [up_row (by omega)]; exact K.2.1 b b1 b2 b3 b4, fun i hi => by rw [up_c (by omega)]; exact K.2.2 i hi⟩
theorem CY.pf {g h : Hp} (K : CY g h) {v : Int} : CY g (up h 39 10 v) := ⟨K.1.pf (by decide), fun b b1 b2 b3 b4 => by rw [up_row b1]; exact K.2.1 b b1 b2 b3 b4, fun i hi => by rw [up_i hi]; exact K.2.2 i hi⟩
/-- the class's layers of the blocks before k -/
def CLy (m h : Hp) (k : Nat) (S : Int × (Int → Int)) : Prop := h 39 10 = S.1 ∧ ∀ x, 0 ≤ x → x < S.1 → h 47 x = S.2 x ∧ h 48 x = lcR m (S.2 x) k ∧ h 49 x = llR m (S.2 x) k
theorem step_f {h : Hp} (H : WFp m) {w : Int} (R : RW m h w) {b a : Int} (b0 : 0 ≤ b) (b1 : b < nB m) (a0 : 0 ≤ a) (a1 : a < 3) : MX10_step w b a h = some (gD m b a) := by
  have hB := H.1
  have g := wf_go H b0 b1 a0 a1
  unfold MX10_step
  rw [has_c R, bndp_s, if_pos (show 0 ≤ b ∧ b < nB m from ⟨b0, b1⟩), if_neg (by decide), isAxis_c, bndp_s, if_pos (show 0 ≤ a ∧ a < 3 from ⟨a0, a1⟩), if_neg (by decide), al50, al540, w32_i (x := b + 1) (by omega), grd_t (by omega), grd_t (by omega), grd_t (by omega), grd_t (by omega), R.2.2.1 a (b + 1) a0 a1 (by omega) (by omega), R.2.2.1 a b a0 a1 b0 (by omega)]
  rw [show m 122 (3 * (b + 1) + a) - m 122 (3 * b + a) = gD m b a from rfl, w32_i (by omega)]
theorem lof_l {h : Hp} {S : Int × (Int → Int)} {k : Int} (A : h 39 10 = S.1) (M : ∀ x, 0 ≤ x → x < S.1 → h 47 x = S.2 x) (hS : S.1 ≤ 63) : ∀ (r f : Nat) (x : Int), x + r = S.1 → r < f → 0 ≤ x → BX7_layerOf_2 n f (hz m k) x h = some (if fnd (hzb m S.2 k) r x = S.1 then (S.1, up (up (up (up h 47 S.1 (hz m k)) 48 S.1 0) 49 S.1 0) 39 10 (S.1 + 1)) else (fnd (hzb m S.2 k) r x, h))
  | 0, f + 1, x, hx, hf, x0 => by
    have e : x = S.1 := by omega
    rw [BX7_layerOf_2, A, if_pos (by omega), al532, Int.min_eq_left (by omega), ltt_e, grd_t (by omega), ltt_e, grd_t (by omega), ltt_e, grd_t (by omega), ltt_e, ltt_e, w32_i (by omega)]
    have e0 : fnd (hzb m S.2 k) 0 x = S.1 := e
    rw [if_pos e0]
  | r + 1, f + 1, x, hx, hf, x0 => by
    have ih := lof_l (k := k) A M hS r f (x + 1) (by omega) (by omega) (by omega)
    rw [BX7_layerOf_2, A, if_neg (by omega), al532, grd_t (by omega), M x x0 (by omega), ltt_e, w32_i (x := x + 1) (by omega), ih, fnd_s]
    have hb : hzb m S.2 k x = decide (S.2 x = hz m k) := rfl
    rw [hb]
    by_cases hl : S.2 x = hz m k
    · rw [if_neg (fun q => q hl), if_pos (show decide (S.2 x = hz m k) = true by rw [decide_eq_true_eq]; exact hl), if_neg (show ¬ x = S.1 by omega)]
    · rw [if_pos hl, if_neg (show ¬ decide (S.2 x = hz m k) = true by rw [decide_eq_true_eq]; exact hl)]
theorem ly_cl (hn : 200 ≤ n) (H : WFp m) {g : Hp} {w : Int} (hw : w = 1 ∨ w = 14) (R : RW m g w) (g0 : g 39 0 = w) : ∀ (r k f : Nat) (h : Hp), (k : Int) + r = nB m → r < f → CY g h → CLy m h k (lyR m k) → ∃ h', BX7_findLayers_7 n f (k : Int) h = some h' ∧ CY g h' ∧ CLy m h' (nB m).toNat (lyR m (nB m).toNat)
  | r, k, f + 1, h, hk, hf, K, C => by
    have hB := H.1
    have R' := K.1.rw' R (by omega)
    have e0 : h 39 0 = w := K.1.2.trans g0
    rw [BX7_findLayers_7, e0, R'.1.2.2.1]
    by_cases hd : nB m ≤ (k : Int)
    · have e : (nB m).toNat = k := by omega
      rw [if_pos hd, e]
      exact ⟨h, rfl, K, C⟩
    · obtain ⟨r, rfl⟩ : ∃ r', r = r' + 1 := ⟨r - 1, by omega⟩
      have nxt := fun (h' : Hp) (K' : CY g h') (M' : CLy m h' (k + 1) (lyR m (k + 1))) => ly_cl hn H hw R g0 r (k + 1) f h' (by omega) (by omega) K' M'
      rw [lyR_s] at nxt
      obtain ⟨i1, i2, i3⟩ := lyR_ok (m := m) k
      generalize lyR m k = S at *
      obtain ⟨f1, f2, f3⟩ := lyF_ok (m := m) (S := S) (k := (k : Int)) i1.1
      have ll := (wf_blk H (b := (k : Int)) (by omega) (by omega)).1
      have hK : 0 ≤ (k : Int) ∧ (k : Int) < 64 := by omega
      have hK2 : 0 ≤ (k : Int) ∧ (k : Int) < 65 := by omega
      have hS : S.1 ≤ 63 := by omega
      have st := step_f H R' (b := (k : Int)) (a := 2) (by omega) (by omega) (by decide) (by decide)
      have lf : MX7_layerOf n (hz m k) h = some (if lyF m S k = S.1 then (S.1, up (up (up (up h 47 S.1 (hz m k)) 48 S.1 0) 49 S.1 0) 39 10 (S.1 + 1)) else (lyF m S k, h)) := by
        unfold MX7_layerOf LX7_layerOf_2
        rw [ltt_e]
        exact lof_l C.1 (fun x x0 x1 => (C.2 x x0 x1).1) hS S.1.toNat n 0 (by omega) (by omega) (by decide)
      have eh : h (w + 2 + 1 + 2) (k : Int) = hz m k := R'.2.2.1 2 (k : Int) (by decide) (by decide) (by omega) (by omega)
      have b1 := fun v => lsum_ok H (v := v) k (by omega)
      unfold lyS at nxt
      have low : w + 6 ≠ 39 ∧ w + 6 ≠ 47 ∧ w + 6 ≠ 48 ∧ w + 6 ≠ 49 := by omega
      have eL : h (w + 6) (k : Int) = ln m k := (R'.2.2.2.1 (k : Int) (by omega) (by omega)).1
      have e1 : w32 ((k : Int) + 1) = ((k + 1 : Nat) : Int) := by rw [w32_i (by omega)]; omega
      rw [if_neg hd, st, bndp_s, al50, al540, al532]
      by_cases hfl : gD m k 2 = 0
      · rw [if_neg (fun q => q hfl), grd_t (by decide), grd_t hK2, eh, lf]
        by_cases hx : lyF m S k = S.1
        · rw [if_pos hx, bnd_s]
          rw [if_pos ⟨hfl, hx⟩] at nxt
          have f3' := f3
          generalize lyF m S (k : Int) = x at *
          subst hx
          have z := i3 (hz m k) f3'
          have hX : 0 ≤ S.1 ∧ S.1 < 64 := by omega
          have K4 : CY g (up (up (up (up h 47 S.1 (hz m k)) 48 S.1 0) 49 S.1 0) 39 10 (S.1 + 1)) := (((K.put (by decide)).put (by decide)).put (by decide)).pf
          have q1 : up (up (up (up h 47 S.1 (hz m k)) 48 S.1 0) 49 S.1 0) 39 10 (S.1 + 1) 39 10 = S.1 + 1 := up_s
          have q2 : ∀ x, x ≠ S.1 → up (up (up (up h 47 S.1 (hz m k)) 48 S.1 0) 49 S.1 0) 39 10 (S.1 + 1) 47 x = h 47 x ∧ up (up (up (up h 47 S.1 (hz m k)) 48 S.1 0) 49 S.1 0) 39 10 (S.1 + 1) 48 x = h 48 x ∧ up (up (up (up h 47 S.1 (hz m k)) 48 S.1 0) 49 S.1 0) 39 10 (S.1 + 1) 49 x = h 49 x := fun x hx => by
            simp (disch := omega) only [up_c, up_i, up_s]
            exact ⟨trivial, trivial, trivial⟩
          have q3 : up (up (up (up h 47 S.1 (hz m k)) 48 S.1 0) 49 S.1 0) 39 10 (S.1 + 1) 47 S.1 = hz m k ∧ up (up (up (up h 47 S.1 (hz m k)) 48 S.1 0) 49 S.1 0) 39 10 (S.1 + 1) 48 S.1 = 0 ∧ up (up (up (up h 47 S.1 (hz m k)) 48 S.1 0) 49 S.1 0) 39 10 (S.1 + 1) 49 S.1 = 0 := by
            simp (disch := omega) only [up_c, up_i, up_s]
            exact ⟨trivial, trivial, trivial⟩
          generalize up (up (up (up h 47 S.1 (hz m k)) 48 S.1 0) 49 S.1 0) 39 10 (S.1 + 1) = h2 at *
          have eL2 : h2 (w + 6) (k : Int) = ln m k := by
            rw [K4.2.1 (w + 6) low.1 low.2.1 low.2.2.1 low.2.2.2, ← K.2.1 (w + 6) low.1 low.2.1 low.2.2.1 low.2.2.2]
            exact eL
          have e02 : h2 39 0 = w := K4.1.2.trans g0
          rw [ltt_e, grd_t hX, grd_t hX, ltt_e, grd_t hX, grd_t hK, grd_t hX, ltt_e, ltt_e, e1, q3.2.1, up_c (h := h2) (a := 48) (b := 39) (by decide), e02, up_c (h := h2) (a := 48) (b := w + 6) (by omega), eL2, up_c (h := h2) (a := 48) (b := 49) (by decide), q3.2.2]
          clear e1
          rw [w32_i (x := 0 + 1) (by decide), w32_i (x := 0 + ln m (k : Int)) (by omega)]
          refine nxt _ ((K4.put (by decide)).put (by decide)) ⟨?_, fun x x0 x1 => ?_⟩
          · rw [up_c (by decide), up_c (by decide)]
            exact q1
          · have x1' : x < S.1 + 1 := x1
            show _ = updI S.2 S.1 (hz m k) x ∧ _ = lcR m (updI S.2 S.1 (hz m k) x) (k + 1) ∧ _ = llR m (updI S.2 S.1 (hz m k) x) (k + 1)
            by_cases hq : x = S.1
            · rw [hq, updI_s, lcR_s, llR_s, if_pos ⟨hfl, rfl⟩, if_pos ⟨hfl, rfl⟩, z.1, z.2]
              simp (disch := omega) only [up_c, up_i, up_s]
              exact ⟨q3.1, trivial, trivial⟩
            · have c := C.2 x x0 (by omega)
              have ne := f3' x x0 (by omega)
              have q := q2 x hq
              rw [updI_o hq, lcR_s, llR_s, if_neg (fun q => ne q.2.symm), if_neg (fun q => ne q.2.symm), Int.add_zero, Int.add_zero]
              simp (disch := omega) only [up_c, up_i, up_s]
              rw [q.1, q.2.1, q.2.2]
              exact c
        · have hl : lyF m S k < S.1 := by omega
          have fz := f2 hl
          rw [if_neg hx, bnd_s]
          rw [if_neg (fun q => hx q.2)] at nxt
          generalize lyF m S (k : Int) = x at *
          have hX : 0 ≤ x ∧ x < 64 := by omega
          have c := C.2 x f1.1 hl
          have bx := b1 (S.2 x)
          rw [ltt_e, grd_t hX, grd_t hX, ltt_e, grd_t hX, grd_t hK, grd_t hX, ltt_e, ltt_e, e1, c.2.1, up_c (h := h) (a := 48) (b := 39) (by decide), e0, up_c (h := h) (a := 48) (b := w + 6) (by omega), eL, up_c (h := h) (a := 48) (b := 49) (by decide), c.2.2]
          clear e1
          rw [w32_i (x := lcR m (S.2 x) k + 1) (by omega), w32_i (x := llR m (S.2 x) k + ln m (k : Int)) (by omega)]
          refine nxt _ ((K.put (by decide)).put (by decide)) ⟨?_, fun y y0 y1 => ?_⟩
          · rw [up_c (by decide), up_c (by decide)]
            exact C.1
          · have cy := C.2 y y0 y1
            by_cases hq : y = x
            · rw [hq, lcR_s, llR_s, if_pos ⟨hfl, fz.symm⟩, if_pos ⟨hfl, fz.symm⟩]
              simp (disch := omega) only [up_c, up_i, up_s]
              exact ⟨c.1, trivial, trivial⟩
            · have ne : ¬ hz m k = S.2 y := fun q => hq (i2 y x y0 y1 f1.1 hl (q.symm.trans fz.symm))
              rw [lcR_s, llR_s, if_neg (fun q => ne q.2), if_neg (fun q => ne q.2), Int.add_zero, Int.add_zero]
              simp (disch := omega) only [up_c, up_i, up_s]
              exact cy
      · rw [if_pos hfl, ltt_e, e1]
        clear e1
        rw [if_neg (fun q => hfl q.1)] at nxt
        refine nxt h K ⟨C.1, fun x x0 x1 => ?_⟩
        rw [lcR_s, llR_s, if_neg (fun q => hfl q.1), if_neg (fun q => hfl q.1), Int.add_zero, Int.add_zero]
        exact C.2 x x0 x1
theorem findLayers_c (hn : 200 ≤ n) (H : WFp m) {g : Hp} {w : Int} (hw : w = 1 ∨ w = 14) (R : RW m g w) (g0 : g 39 0 = w) : ∃ h', MX7_findLayers n g = some h' ∧ CY g h' ∧ CLy m h' (nB m).toNat (lyR m (nB m).toNat) := by
  have hB := H.1
  unfold MX7_findLayers LX7_findLayers_7
  rw [ltt_e, ltt_e]
  exact ly_cl hn H hw R g0 (nB m).toNat 0 n _ (by omega) (by omega) CY.rf.pf ⟨up_s, fun x x0 x1 => absurd x1 (by show ¬ x < 0; omega)⟩
theorem layer_a {h : Hp} (H : WFp m) (C : CLy m h (nB m).toNat (lyR m (nB m).toNat)) (x y : Int) : MX11_layer x y h = some (layerS m x y) := by
  have hB := H.1
  have hT := (lyR_ok (m := m) (nB m).toNat).1
  unfold MX11_layer layerS
  rw [C.1]
  by_cases h1 : x = -1
  · rw [if_neg (fun q => q h1), if_pos h1]
  · rw [if_pos h1, if_neg h1]
    by_cases h2 : x < 0
    · rw [if_pos h2, if_neg (by omega)]
    · rw [if_neg h2]
      by_cases h3 : x < (lyR m (nB m).toNat).1
      · have c := C.2 x (by omega) h3
        rw [if_pos h3, al532, grd_t (by omega), grd_t (by omega), grd_t (by omega), c.1, c.2.1, c.2.2]
        by_cases y0 : y = 0
        · rw [if_pos y0, if_pos (c := (0 ≤ x ∧ x < (lyR m (nB m).toNat).1) ∧ (0 ≤ y ∧ y ≤ 2)) (by omega), if_pos y0]
        · by_cases y1 : y = 1
          · rw [if_neg y0, if_pos y1, if_pos (c := (0 ≤ x ∧ x < (lyR m (nB m).toNat).1) ∧ (0 ≤ y ∧ y ≤ 2)) (by omega), if_neg y0, if_pos y1]
          · by_cases y2 : y = 2
            · rw [if_neg y0, if_neg y1, if_pos y2, if_pos (c := (0 ≤ x ∧ x < (lyR m (nB m).toNat).1) ∧ (0 ≤ y ∧ y ≤ 2)) (by omega), if_neg y0, if_neg y1]
            · rw [if_neg y0, if_neg y1, if_neg y2, if_neg (by omega)]
      · rw [if_neg h3, if_neg (fun q => h3 q.1.2)]
end
