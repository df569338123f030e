/-! THE CLASS'S RIDE. -/
/-- what is kept of how far brakes gD -/
def FC (h : Hp) (D R : Int) : Prop := ∀ w u : Int, 0 ≤ w → w ≤ 100 → -12 ≤ u → u ≤ 12 → h (D + 1) ((u + 12) * 101 + w) = 0 ∨ h (D + 1) ((u + 12) * 101 + w) = far R w u + 1
/-- a drive by a tolerance, a jerk, a feed -/
def CE (m h : Hp) (D w tol j p : Int) : Prop := (w + 12 < D ∧ 0 < w) ∧ RW m h w ∧ h (D + 2) 0 = w ∧ RLc m h (D + 2) tol j ∧ (∀ i : Int, 0 ≤ i → i < nB m → h (D + 2 + 1) i = limS m j p i) ∧ FC h D (rchS m j)
theorem CE.mv {m h h' : Hp} {D w tol j p x : Int} (C : CE m h D w tol j p) (hx : D + 6 < x) (hc : ∀ c : Int, c ≠ x → c ≠ D + 1 → h' c = h c) (hF : FC h' D (rchS m j)) : CE m h' D w tol j p := by
  obtain ⟨c1, c2, c3, c4, c5, c6⟩ := C
  refine ⟨c1, c2.mv (fun c c0 c9 => hc c (by omega) (by omega)), by rw [hc _ (by omega) (by omega)]; exact c3, ⟨by rw [hc _ (by omega) (by omega)]; exact c4.1, by rw [hc _ (by omega) (by omega)]; exact c4.2.1, fun i i0 i1 => by rw [hc _ (by omega) (by omega), hc _ (by omega) (by omega)]; exact c4.2.2 i i0 i1⟩, fun i i0 i1 => by rw [hc _ (by omega) (by omega)]; exact c5 i i0 i1, hF⟩
theorem FC.of {h h' : Hp} {D R : Int} (F : FC h D R) (hc : h' (D + 1) = h (D + 1)) : FC h' D R := fun w u h1 h2 h3 h4 => by rw [hc]; exact F w u h1 h2 h3 h4
section
variable {n : Nat} {m h : Hp} {D w0 tol j p : Int}
theorem bears_c {R : Int} (hR : h (D + 2) 3 = R) (hRb : 1 ≤ R ∧ R ≤ 12) {w u : Int} (hw : -10000 ≤ w ∧ w ≤ 10000) (hu : -200 ≤ u ∧ u ≤ 200) : MX1_bears D w u h = some (if -R ≤ u ∧ 0 ≤ w ∧ (0 ≤ u ∨ u * (u + 1) ≤ 2 * w) then 1 else 0) := by
  have ht := tri_bd hu
  unfold MX1_bears
  rw [hR, w32_i (x := -R) (by omega), w32_i (x := 2 * w) (by omega), w32_i (x := u + 1) (by omega), w32_i (x := u * (u + 1)) (by omega)]
  by_cases h0 : u < -R
  · rw [if_pos h0, if_neg (by omega)]
  · rw [if_neg h0]
    by_cases h1 : w < 0
    · rw [if_pos h1, if_neg (by omega)]
    · rw [if_neg h1]
      by_cases h2 : 0 ≤ u
      · rw [if_pos h2, if_pos (by omega)]
      · rw [if_neg h2]
        by_cases h3 : 2 * w < u * (u + 1)
        · rw [if_pos h3, if_neg (by omega)]
        · rw [if_neg h3, if_pos (by omega)]
theorem brake_c {R : Int} (hR : h (D + 2) 3 = R) (hRb : 1 ≤ R ∧ R ≤ 12) {w u : Int} (hw : -1000 ≤ w ∧ w ≤ 1000) (hu : -100 ≤ u ∧ u ≤ 100) : MX1_brake D w u h = some (brk R w u) := by
  unfold MX1_brake brk
  rw [w32_i (x := w + u) (by omega), w32_i (x := w + u - 1) (by omega), w32_i (x := u - 1) (by omega), bears_c hR hRb (by omega) (by omega), bndp_s, bears_c hR hRb (by omega) (by omega), bndp_s, Int.sub_add_cancel]
  split
  · rw [if_neg (by decide)]
  · rw [if_pos rfl]
    split
    · rw [if_neg (by decide)]
    · rw [if_pos rfl]
theorem reached_l (H : WFp m) (hj : 1 ≤ j ∧ j ≤ 50) (C : CE m h D w0 tol j p) (hN : 0 < nB m) {t v : Int} : ∀ (r k f : Nat), blk (ee m) (nB m) t = (k : Int) + r → r < f → BX1_reached_46 n f D t v k h = some (ci (∀ b : Int, (k : Int) ≤ b → b < blk (ee m) (nB m) t → v ≤ paceS m tol j b ∧ v ≤ limS m j p (b + 1)) (blk (ee m) (nB m) t) (-1))
  | r, k, f + 1, hk, hf => by
    have hB := H.1
    have E := env_ok H (tol := tol) (p := p) hj
    obtain ⟨b1, b2, b3⟩ := blk_ok E (s := t) hN
    obtain ⟨c1, R, e0, cL, cl, cF⟩ := C
    rw [BX1_reached_46, e0, R.1.2.2.1, w32_i (x := (k : Int) + 1) (by omega)]
    by_cases h1 : nB m ≤ (k : Int) + 1
    · rw [if_pos h1, ci_t (fun b b4 b5 => by omega)]
      congr 1
      omega
    · rw [if_neg h1, al532, grd_t (by omega), (R.2.2.2.1 k (by omega) (by omega)).2.1]
      by_cases h2 : t < bg m (k + 1)
      · rw [if_pos h2]
        have hkb : blk (ee m) (nB m) t = (k : Int) := by
          by_cases hz : blk (ee m) (nB m) t = (k : Int)
          · exact hz
          · rcases b2 with b2 | b2
            · omega
            · have := e_le E (a := (k : Int)) (b := blk (ee m) (nB m) t - 1) (by omega) (by omega) (by omega)
              have h4 : ee m (k : Int) = bg m (k + 1) := rfl
              omega
        rw [ci_t (fun b b4 b5 => by omega), hkb]
      · have hkb : (k : Int) < blk (ee m) (nB m) t := by
          rcases b3 with b3 | b3
          · by_cases hz : (k : Int) < blk (ee m) (nB m) t
            · exact hz
            · have : blk (ee m) (nB m) t = (k : Int) := by omega
              rw [this] at b3
              exact absurd b3 h2
          · omega
        obtain ⟨r', rfl⟩ : ∃ r', r = r' + 1 := ⟨r - 1, by omega⟩
        have eP : h (D + 2 + 3) (k : Int) = paceS m tol j k := (cL.2.2 k (by omega) (by omega)).2
        have eL : h (D + 2 + 1) ((k : Int) + 1) = limS m j p (k + 1) := cl _ (by omega) (by omega)
        rw [if_neg h2, grd_t (by omega), eP]
        by_cases h3 : paceS m tol j k < v
        · rw [if_pos h3, ci_f (fun q => by have := (q k (Int.le_refl _) hkb).1; omega)]
        · rw [if_neg h3, grd_t (by omega), eL]
          by_cases h4 : v ≤ limS m j p (k + 1)
          · have ih := reached_l H hj ⟨c1, R, e0, cL, cl, cF⟩ hN (t := t) (v := v) r' (k + 1) f (by omega) (by omega)
            have e1 : ((k + 1 : Nat) : Int) = (k : Int) + 1 := by omega
            rw [e1] at ih
            rw [if_pos h4, ltt_e, ih]
            refine congrArg some (ci_c ⟨fun q b b4 b5 => ?_, fun q b b4 b5 => q b (by omega) b5⟩)
            by_cases hb : b = (k : Int)
            · subst hb
              exact ⟨by omega, h4⟩
            · exact q b (by omega) b5
          · rw [if_neg h4, ci_f (fun q => h4 (q k (Int.le_refl _) hkb).2)]
theorem has_c {w b : Int} (R : RW m h w) : MX10_has w b h = some (if 0 ≤ b ∧ b < nB m then 1 else 0) := by
  unfold MX10_has
  rw [R.1.2.2.1]
  by_cases h1 : b < 0
  · rw [if_pos h1, if_neg (by omega)]
  · rw [if_neg h1]
    by_cases h2 : nB m ≤ b
    · rw [if_pos h2, if_neg (by omega)]
    · rw [if_neg h2, if_pos (by omega)]
theorem reached_c (hn : 100 ≤ n) (H : WFp m) (hj : 1 ≤ j ∧ j ≤ 50) (C : CE m h D w0 tol j p) (hN : 0 < nB m) {s t v : Int} (hst : s ≤ t) : MX1_reached n D (blk (ee m) (nB m) s) t v h = some (ci (t ≤ AL (nB m) (ee m) ∧ Bear (ee m) (limS m j p) (paceS m tol j) (nB m) s t v) (blk (ee m) (nB m) t) (-1)) := by
  have hB := H.1
  have E := env_ok H (tol := tol) (p := p) hj
  have b1 := (blk_ok E (s := s) hN).1
  have b2 := (blk_ok E (s := t) hN).1
  have b3 := blk_mono E hN hst
  have R := C.2.1
  have e0 := C.2.2.1
  unfold MX1_reached
  rw [e0, R.1.2.2.2.2.2, ← AL_m H]
  by_cases h1 : AL (nB m) (ee m) < t
  · rw [if_pos h1, ci_f (fun q => by omega)]
  · have eL : h (D + 2 + 1) (blk (ee m) (nB m) s) = limS m j p (blk (ee m) (nB m) s) := C.2.2.2.2.1 _ b1.1 b1.2
    rw [if_neg h1, has_c R, bndp_s, if_pos b1, if_neg (by decide), al532, grd_t (by omega), eL]
    by_cases h2 : v ≤ limS m j p (blk (ee m) (nB m) s)
    · have ll := reached_l (n := n) H hj C hN (t := t) (v := v) (blk (ee m) (nB m) t - blk (ee m) (nB m) s).toNat (blk (ee m) (nB m) s).toNat n (by omega) (by omega)
      rw [show (((blk (ee m) (nB m) s).toNat : Nat) : Int) = blk (ee m) (nB m) s by omega] at ll
      unfold LX1_reached_46
      rw [if_pos h2, ltt_e, ll]
      refine congrArg some (ci_c ⟨fun q => ⟨by omega, fun b b4 b5 => ⟨?_, fun b6 => (q b b4 b6).1⟩⟩, fun q b b4 b5 => ⟨(q.2 b b4 (by omega)).2 b5, (q.2 (b + 1) (by omega) (by omega)).1⟩⟩)
      by_cases hb : b = blk (ee m) (nB m) s
      · rw [hb]; exact h2
      · have := (q (b - 1) (by omega) (by omega)).2
        rw [Int.sub_add_cancel] at this
        exact this
    · rw [if_neg h2, ci_f (fun q => h2 (q.2 _ (Int.le_refl _) b3).1)]
theorem farness_l {R : Int} (hR : h (D + 2) 3 = R) (hRb : 1 ≤ R ∧ R ≤ 12) (y : Int) : ∀ (r f : Nat) (w u acc k : Int), k + r = 1000 → r < f → bears R w u → u ≤ 12 → w + 12 * max u 0 ≤ 300 → 0 ≤ acc → acc ≤ 300 * k → BX1_farness_56 n f D w u y acc k h = some (D, y, acc + farF R r w u)
  | 0, f + 1, w, u, acc, k, hk, hf, hb, hu, hw, a0, a1 => by
    rw [BX1_farness_56, if_pos (by omega)]
    show some (D, y, acc) = some (D, y, acc + 0)
    rw [Int.add_zero]
  | r + 1, f + 1, w, u, acc, k, hk, hf, hb, hu, hw, a0, a1 => by
    have b1 := hb.1
    have b2 := hb.2.1
    have go1 : ¬ (w = 0 ∧ u = 0) → JX1_farness_72 n (BX1_farness_56 n f) D w u y acc k h = some (D, y, acc + farF R (r + 1) w u) := by
      intro hn0
      obtain ⟨q1, q2, q3, q4⟩ := brk_ok hRb.1 hb hn0
      have hu2 := brk_u hRb.1 hb hn0
      have hmu := brk_m hRb.1 hb hu hn0
      have c1 := q1.1
      have c2 := q1.2.1
      unfold JX1_farness_72
      rw [brake_c hR hRb (by omega) (by omega), bndp_s, ltt_e, w32_i (x := u + brk R w u) (by omega), ltt_e, w32_i (x := w + (u + brk R w u)) (by omega), ltt_e, w32_i (x := acc + (w + (u + brk R w u))) (by omega), ltt_e, w32_i (x := k + 1) (by omega), farness_l hR hRb y r f _ _ _ (k + 1) (by omega) (by omega) q1 (by omega) (by omega) (by omega) (by omega), farF, if_neg hn0, Int.add_assoc]
    rw [BX1_farness_56, if_neg (by omega)]
    by_cases hw1 : w = 0
    · rw [if_neg (fun q => q hw1)]
      by_cases hu1 : u = 0
      · rw [if_pos hu1, hw1, hu1, farF_rest, Int.add_zero]
      · rw [if_neg hu1]
        exact go1 (fun q => hu1 q.2)
    · rw [if_pos hw1]
      exact go1 (fun q => hw1 q.1)
theorem farness_c (hn : 2000 ≤ n) {R : Int} (hR : h (D + 2) 3 = R) (hRb : 1 ≤ R ∧ R ≤ 12) (F : FC h D R) {w u : Int} (hb : bears R w u) (hu : u ≤ R) (hw : w ≤ 100) : ∃ h', MX1_farness n D w u h = some (far R w u, h') ∧ FC h' D R ∧ ∀ c : Int, c ≠ D + 1 → h' c = h c := by
  have b1 := hb.1
  have b2 := hb.2.1
  have hbd := far_bd hRb.1 hb (by omega) (by omega)
  have hF := F w u b2 hw (by omega) (by omega)
  unfold MX1_farness
  rw [ltt_e, w32_i (x := u + 12) (by omega), w32_i (x := (u + 12) * 101) (by omega), w32_i (x := (u + 12) * 101 + w) (by omega), if_neg (by omega), if_neg (by omega), if_neg (by omega), al20220, if_pos (by omega), grd_t (by omega), ltt_e]
  rcases hF with hF | hF
  · rw [hF, w32_i (x := 0 - 1) (by decide), if_neg (by decide), ltt_e, ltt_e]
    unfold LX1_farness_56
    rw [farness_l hR hRb _ 1000 n w u 0 0 (by decide) (by omega) hb (by omega) (by omega) (by decide) (by decide), bndx_s]
    show ∃ h', JX1_farness_97 n D ((u + 12) * 101 + w) (0 + far R w u) h = _ ∧ _
    unfold JX1_farness_97
    rw [Int.zero_add, al20220, grd_t (by omega), ltt_e, w32_i (x := far R w u + 1) (by omega)]
    refine ⟨_, rfl, fun w2 u2 h1 h2 h3 h4 => ?_, fun c hc => up_row hc⟩
    by_cases he : (u2 + 12) * 101 + w2 = (u + 12) * 101 + w
    · have e1 : u2 = u := by omega
      have e2 : w2 = w := by omega
      subst e1
      subst e2
      right
      rw [up_s]
    · rw [up_i he]
      exact F w2 u2 h1 h2 h3 h4
  · rw [hF, Int.add_sub_cancel, w32_i (x := far R w u) (by omega), if_pos (by omega)]
    exact ⟨h, rfl, F, fun _ _ => rfl⟩
theorem brakesBear_l (hn : 100 ≤ n) (H : WFp m) (hj : 1 ≤ j ∧ j ≤ 50) (C : CE m h D w0 tol j p) (hN : 0 < nB m) : ∀ (r f : Nat) (s w u k : Int), k + r = 1000 → r < f → 0 ≤ k → bears (rchS m j) w u → u ≤ rchS m j → w + 12 * max u 0 ≤ 300 → (0 ≤ s ∧ s ≤ AL (nB m) (ee m)) → BX1_brakesBear_3 n f D s w u (blk (ee m) (nB m) s) k h = some (ci (SafeF (nB m) j (rchS m j) (ee m) (limS m j p) (paceS m tol j) r s w u) 1 0)
  | 0, f + 1, s, w, u, k, hk, hf, hk0, hb, hu, hw, hs => by
    rw [BX1_brakesBear_3, if_pos (by omega)]
    exact congrArg some (ci_f (fun q => q)).symm
  | r + 1, f + 1, s, w, u, k, hk, hf, hk0, hb, hu, hw, hs => by
    have E := env_ok H (tol := tol) (p := p) hj
    have hR := E.2.2.1
    have hA := AL_bd E
    have er := C.2.2.2.1.2.1
    have ej := C.2.2.2.1.1
    have b1 := hb.1
    have b2 := hb.2.1
    have go1 : ¬ (w = 0 ∧ u = 0) → JX1_brakesBear_21 n (BX1_brakesBear_3 n f) D s w u (blk (ee m) (nB m) s) k h = some (ci (SafeF (nB m) j (rchS m j) (ee m) (limS m j p) (paceS m tol j) (r + 1) s w u) 1 0) := by
      intro hn0
      obtain ⟨q1, q2, q3, q4⟩ := brk_ok hR.1 hb hn0
      have hu2 := brk_u hR.1 hb hn0
      have hmu := brk_m hR.1 hb (by omega) hn0
      have c1 := q1.1
      have c2 := q1.2.1
      have hm2 : 0 ≤ (w + (u + brk (rchS m j) w u)) * j := Int.mul_nonneg c2 (by omega)
      have hm3 : (w + (u + brk (rchS m j) w u)) * j ≤ 300 * 50 := Int.mul_le_mul (by omega) hj.2 (by omega) (by decide)
      unfold JX1_brakesBear_21
      rw [brake_c er hR (by omega) (by omega), bndp_s, ltt_e, w32_i (x := u + brk (rchS m j) w u) (by omega), ltt_e, w32_i (x := w + (u + brk (rchS m j) w u)) (by omega), ltt_e, ej, w32_i (x := (w + (u + brk (rchS m j) w u)) * j) (by omega), w32_i (x := s + (w + (u + brk (rchS m j) w u)) * j) (by omega), reached_c hn H hj C hN (by omega), bndp_s, ltt_e]
      by_cases hM : s + (w + (u + brk (rchS m j) w u)) * j ≤ AL (nB m) (ee m) ∧ Bear (ee m) (limS m j p) (paceS m tol j) (nB m) s (s + (w + (u + brk (rchS m j) w u)) * j) (w + (u + brk (rchS m j) w u))
      · have hb2 := (blk_ok E (s := s + (w + (u + brk (rchS m j) w u)) * j) hN).1
        rw [ci_t hM, if_pos (by omega), ltt_e, w32_i (x := k + 1) (by omega), brakesBear_l hn H hj C hN r f _ _ _ (k + 1) (by omega) (by omega) (by omega) q1 (by omega) (by omega) ⟨by omega, hM.1⟩]
        refine congrArg some (ci_c ⟨fun q => Or.inr ⟨hn0, ⟨by omega, q1, hM.1, hM.2⟩, q⟩, fun q => ?_⟩)
        rw [SafeF] at q
        rcases q with q | q
        · exact absurd q hn0
        · exact q.2.2
      · rw [ci_f hM, if_neg (fun q => q rfl), ci_f (fun q => by
          rw [SafeF] at q
          rcases q with q | q
          · exact hn0 q
          · exact hM ⟨q.2.1.2.2.1, q.2.1.2.2.2⟩)]
    rw [BX1_brakesBear_3, if_neg (by omega)]
    by_cases hw1 : w = 0
    · rw [if_neg (fun q => q hw1)]
      by_cases hu1 : u = 0
      · rw [if_neg (fun q => q hu1), ci_t (by rw [SafeF]; exact Or.inl ⟨hw1, hu1⟩)]
      · rw [if_pos hu1]
        exact go1 (fun q => hu1 q.2)
    · rw [if_pos hw1]
      exact go1 (fun q => hw1 q.1)
end
