/-! THE MODEL LAYS ITS BOUNDS. -/
/-- but for what is laid anew for each question, h is as m -/
def KM (m h : Hp) : Prop := (∀ c : Int, c ≠ 113 → (c < 132 ∨ 137 < c) → (c < 139 ∨ 142 < c) → c ≠ 145 → h c = m c) ∧ ∀ i : Int, i ≠ 40 → i ≠ 41 → (i < 48 ∨ 52 < i) → i ≠ 59 → h 113 i = m 113 i
theorem KM.rf {m : Hp} : KM m m := ⟨fun _ _ _ _ _ => rfl, fun _ _ _ _ _ => rfl⟩
theorem KM.tr {m h g : Hp} (a : KM m h) (b : KM h g) : KM m g := ⟨fun c h1 h2 h3 h4 => (b.1 c h1 h2 h3 h4).trans (a.1 c h1 h2 h3 h4), fun i h1 h2 h3 h4 => (b.2 i h1 h2 h3 h4).trans (a.2 i h1 h2 h3 h4)⟩
theorem up_row {h : Hp} {c i v b : Int} (hb : b ≠ c) : up h c i v b = h b := up_ne hb
theorem KM.put {m h : Hp} {c i v : Int} (K : KM m h) (hc : (132 ≤ c ∧ c ≤ 137) ∨ (139 ≤ c ∧ c ≤ 142) ∨ c = 145) : KM m (up h c i v) :=
  ⟨fun b h1 h2 h3 h4 => by rw [up_row (by omega)]; exact K.1 b h1 h2 h3 h4, fun j h1 h2 h3 h4 => by rw [up_c (by omega)]; exact K.2 j h1 h2 h3 h4⟩
theorem KM.pf {m h : Hp} {i v : Int} (K : KM m h) (hi : i = 40 ∨ i = 41 ∨ (48 ≤ i ∧ i ≤ 52) ∨ i = 59) : KM m (up h 113 i v) :=
  ⟨fun b h1 h2 h3 h4 => by rw [up_row h1]; exact K.1 b h1 h2 h3 h4, fun j h1 h2 h3 h4 => by rw [up_i (by omega)]; exact K.2 j h1 h2 h3 h4⟩
theorem WFp_of {m h : Hp} (e5 : h 113 5 = m 113 5) (e6 : h 113 6 = m 113 6) (e7 : h 113 7 = m 113 7) (e15 : h 115 = m 115) (e22 : h 122 = m 122) (e23 : h 123 = m 123) (e24 : h 124 = m 124) (e25 : h 125 = m 125) (e26 : h 126 = m 126) (H : WFp m) : WFp h := by
  unfold WFp WFb nB gD ln bg at *
  rw [e5, e6, e7, e15, e22, e23, e24, e25, e26]
  exact H
theorem KM.eN {m h : Hp} (K : KM m h) : nB h = nB m := K.2 6 (by decide) (by decide) (by decide) (by decide)
theorem KM.r {m h : Hp} (K : KM m h) {c : Int} (hc : (114 ≤ c ∧ c < 132) ∨ c = 138 ∨ c = 143 ∨ c = 144 ∨ c = 146 ∨ c = 147 ∨ c < 113) : h c = m c := K.1 c (by omega) (by omega) (by omega) (by omega)
theorem KM.wf {m h : Hp} (K : KM m h) (H : WFp m) : WFp h :=
  WFp_of (K.2 5 (by decide) (by decide) (by decide) (by decide)) K.eN (K.2 7 (by decide) (by decide) (by decide) (by decide)) (K.r (by decide)) (K.r (by decide)) (K.r (by decide)) (K.r (by decide)) (K.r (by decide)) (K.r (by decide)) H
theorem KM.eG {m h : Hp} (K : KM m h) : gD h = gD m := by
  funext b a
  unfold gD
  rw [K.r (c := 122) (by decide)]
theorem KM.eL {m h : Hp} (K : KM m h) : ln h = ln m := by
  funext b
  unfold ln
  rw [K.r (c := 125) (by decide)]
theorem KM.eB {m h : Hp} (K : KM m h) : bg h = bg m := by
  funext b
  unfold bg
  rw [K.r (c := 126) (by decide)]
theorem KM.eb {m h : Hp} (K : KM m h) : lb h = lb m := by
  funext b k
  unfold lb
  rw [K.r (c := 115) (by decide), K.eL, K.eG]
theorem KM.eS {m h : Hp} (K : KM m h) : shp h = shp m := by
  funext b
  unfold shp bend
  rw [K.eL, K.eG]
theorem goes_m {h : Hp} (H : WFp h) {b a : Int} (h0 : 0 ≤ b) (h1 : b < nB h) (a0 : 0 ≤ a) (a1 : a < 3) : MX12_goes b a h = some (gD h b a) := by
  have hn := H.1
  have e1 := H.2.2.2.2.1 (3 * (b + 1) + a) (by omega) (by omega)
  have e2 := H.2.2.2.2.1 (3 * b + a) (by omega) (by omega)
  unfold MX12_goes
  rw [w32_i (x := b + 1) (by omega), w32_i (x := 3 * (b + 1)) (by omega), w32_i (x := 3 * (b + 1) + a) (by omega), w32_i (x := 3 * b) (by omega), w32_i (x := 3 * b + a) (by omega), al1580, grd_t (by omega), grd_t (by omega), w32_i (by omega)]
  rfl
theorem leastBy_st {n f : Nat} {h : Hp} (H : WFp h) {b k acc a : Int} (hk : k = 0 ∨ k = 3) (h0 : 0 ≤ b) (h1 : b < nB h) (a0 : 0 ≤ a) (a1 : a < 3) : BX12_leastBy_7 n (f + 1) b k acc a h = BX12_leastBy_7 n f b k (stm acc (h 115 (k + a)) (ln h b) (gD h b a)) (a + 1) h := by
  have hn := H.1
  have hd := wf_go H h0 h1 a0 a1
  have hL := (wf_blk H h0 h1).1
  have hs := wf_set H hk a0 a1
  rw [BX12_leastBy_7, if_neg (by omega), goes_m H h0 h1 a0 a1, bndp_s, ltt_e]
  simp only [lcp_le]
  rw [w32_i (x := a + 1) (by omega), w32_i (x := k + a) (by omega)]
  unfold stm
  by_cases hz : gD h b a = 0
  · rw [if_pos hz, if_pos (by rw [jabs_e hd, hz]; decide), ltt_e]
  · have hj := jabs_p hd hz
    have hq := qt_ok hs hL hd hz
    rw [if_neg hz, if_neg (by omega), al84, grd_t (by omega), al532, grd_t (by omega), grd_t (by omega), ltt_e, ltt_e]
    show BX12_leastBy_7 n f b k (min acc (w64 ((w64 (h 115 (k + a) * ln h b)).tdiv (jabs (gD h b a))))) (a + 1) h = _
    rw [w64_i (x := h 115 (k + a) * ln h b) (by omega), Int.tdiv_eq_ediv_of_nonneg (by omega), w64_i (by omega)]
theorem leastBy_m {n : Nat} (hn : 4 ≤ n) {h : Hp} (H : WFp h) {b k : Int} (hk : k = 0 ∨ k = 3) (h0 : 0 ≤ b) (h1 : b < nB h) : MX12_leastBy n b k h = some (lb h b k) := by
  obtain ⟨n', rfl⟩ : ∃ n', n = n' + 4 := ⟨n - 4, by omega⟩
  unfold MX12_leastBy LX12_leastBy_7
  rw [ltt_e, ltt_e, leastBy_st (f := n' + 3) H hk h0 h1 (by decide) (by decide), leastBy_st (f := n' + 2) H hk h0 h1 (by decide) (by decide), leastBy_st (f := n' + 1) H hk h0 h1 (by decide) (by decide), BX12_leastBy_7, if_pos (by decide)]
  have hl := lb_ok H hk h0 h1
  have key : stm (stm (stm 9223372036854775807 (h 115 (k + 0)) (ln h b) (gD h b 0)) (h 115 (k + (0 + 1))) (ln h b) (gD h b (0 + 1))) (h 115 (k + (0 + 1 + 1))) (ln h b) (gD h b (0 + 1 + 1)) = lb h b k := by
    have hL := (wf_blk H h0 h1).1
    obtain ⟨a, ⟨a0, a1⟩, hz, hq⟩ := (wf_blk H h0 h1).2.2
    have hs := wf_set H hk a0 a1
    have h2 := q2_ok hs hL (wf_go H h0 h1 a0 a1) hz hq
    unfold lb stm
    rw [Int.add_zero, show (0 + 1 : Int) = 1 from rfl, show (1 + 1 : Int) = 2 from rfl]
    rcases (show a = 0 ∨ a = 1 ∨ a = 2 by omega) with rfl | rfl | rfl
    · rw [Int.add_zero] at h2 hs
      rw [if_neg hz, if_neg hz]
      generalize h 115 k * ln h b / jabs (gD h b 0) = q0 at *
      repeat' split
      all_goals omega
    · rw [if_neg hz, if_neg hz]
      generalize h 115 (k + 1) * ln h b / jabs (gD h b 1) = q0 at *
      repeat' split
      all_goals omega
    · rw [if_neg hz, if_neg hz]
      generalize h 115 (k + 2) * ln h b / jabs (gD h b 2) = q0 at *
      repeat' split
      all_goals omega
  rw [key, w32_i (by omega)]
theorem held_m (v : Int) : MX12_held v = some (clm v) := by
  unfold MX12_held clm
  rw [w32_i (by omega)]
theorem sharp_st {n f : Nat} {h : Hp} (H : WFp h) {b acc a : Int} (h0 : 0 ≤ b) (h1 : b + 1 < nB h) (a0 : 0 ≤ a) (a1 : a < 3) (hacc : 0 ≤ acc ∧ acc ≤ 12884901888) : BX12_sharpOf_5 n (f + 1) b acc a h = BX12_sharpOf_5 n f b (acc + bend h b a * bend h b a) (a + 1) h := by
  have hn := H.1
  have g1 := wf_go H h0 (by omega) a0 a1
  have g2 := wf_go H (b := b + 1) (by omega) h1 a0 a1
  have l1 := (wf_blk H h0 (by omega)).1
  have l2 := (wf_blk H (b := b + 1) (by omega) h1).1
  have e1 := bq_ok (wf_blk H h0 (by omega)).1.1 ((wf_blk H h0 (by omega)).2.1 a a0 a1)
  have e2 := bq_ok (wf_blk H (b := b + 1) (by omega) h1).1.1 ((wf_blk H (b := b + 1) (by omega) h1).2.1 a a0 a1)
  have hb := bend_ok H h0 h1 a0 a1
  have hb2 := sq_le hb.1 hb.2
  have hb3 := sq_nn (bend h b a)
  rw [BX12_sharpOf_5, if_neg (by omega), goes_m H h0 (by omega) a0 a1, bndp_s, al532, grd_t (by omega)]
  show grd (¬ ln h b = 0) (ltt (w64 ((w64 (gD h b a * 32768)).tdiv (ln h b))) _) = _
  rw [grd_t (by omega), ltt_e, w32_i (x := b + 1) (by omega), goes_m H (by omega) h1 a0 a1, bndp_s, grd_t (by omega)]
  show grd (¬ ln h (b + 1) = 0) (ltt (w64 ((w64 (gD h (b + 1) a * 32768)).tdiv (ln h (b + 1)))) _) = _
  rw [grd_t (by omega), ltt_e, square_m, bndp_s, ltt_e, ltt_e, w64_i (x := gD h b a * 32768) (by omega), w64_i (x := gD h (b + 1) a * 32768) (by omega), w64_i (x := (gD h b a * 32768).tdiv (ln h b)) (by omega), w64_i (x := (gD h (b + 1) a * 32768).tdiv (ln h (b + 1))) (by omega)]
  have eb : w64 ((gD h (b + 1) a * 32768).tdiv (ln h (b + 1)) - (gD h b a * 32768).tdiv (ln h b)) = bend h b a := w64_i (by omega)
  rw [eb, w64_i (x := bend h b a * bend h b a) (by omega), w64_i (by omega), w32_i (by omega)]
theorem sharp_m {n : Nat} (hn : 40 ≤ n) {h : Hp} (H : WFp h) {b : Int} (h0 : 0 ≤ b) (h1 : b + 1 < nB h) : MX12_sharpOf n b h = some (shp h b) := by
  obtain ⟨n', e⟩ : ∃ n', n = n' + 4 := ⟨n - 4, by omega⟩
  have hs := shp_ok H h0 h1
  have e0 := sq_nn (bend h b 0)
  have e1 := sq_nn (bend h b 1)
  have e2 := sq_nn (bend h b 2)
  unfold MX12_sharpOf LX12_sharpOf_5
  rw [ltt_e, ltt_e]
  have st : BX12_sharpOf_5 n (n' + 4) b 0 0 h = some (shp h b) := by
    rw [sharp_st (f := n' + 3) H h0 h1 (by decide) (by decide) (by decide), sharp_st (f := n' + 2) H h0 h1 (by decide) (by decide) (by rw [Int.zero_add]; omega), sharp_st (f := n' + 1) H h0 h1 (by decide) (by decide) (by rw [Int.zero_add, show (0 + 1 : Int) = 1 from rfl]; omega), BX12_sharpOf_5, if_pos (by decide), Int.zero_add, show (0 + 1 : Int) = 1 from rfl, show (1 + 1 : Int) = 2 from rfl, root_m hn hs.1.1 (by omega), bndp_s]
    rfl
  rw [← e] at st
  exact st
/-- the first k blocks are laid -/
def LA (m : Hp) (j pc : Int) (k : Nat) (h : Hp) : Prop := KM m h ∧ h 113 40 = j ∧ h 113 41 = rchN m j k ∧ ∀ i : Int, 0 ≤ i → i < k → h 132 i = lb m i 0 ∧ h 133 i = lb m i 3 ∧ h 134 i = limS m j pc i
theorem rchN_ok {m : Hp} (H : WFp m) {j : Int} (hj : 1 ≤ j) : ∀ k : Nat, (k : Int) ≤ nB m → 0 ≤ rchN m j k ∧ rchN m j k ≤ 12
  | 0, _ => by
    show (0 : Int) ≤ 12 ∧ (12 : Int) ≤ 12
    decide
  | k + 1, h => by
    have ih := rchN_ok H hj k (by omega)
    have h1 := lb_ok H (k := 3) (Or.inr rfl) (b := (k : Int)) (by omega) (by omega)
    have h2 : 0 ≤ lb m k 3 / j := Int.ediv_nonneg h1.1 (by omega)
    show 0 ≤ min (rchN m j k) (lb m k 3 / j) ∧ min (rchN m j k) (lb m k 3 / j) ≤ 12
    omega
theorem lays_l1 {n : Nat} (hn : 40 ≤ n) {m : Hp} (H : WFp m) {tol j pc : Int} (hj : 1 ≤ j ∧ j ≤ 50) (hp : 1 ≤ pc ∧ pc ≤ 200) : ∀ (r k f : Nat) (h : Hp), nB m = (k : Int) + r → r < f → LA m j pc k h → ∃ h', BX12_lays_14 n f tol pc k h = some (tol, h') ∧ LA m j pc (nB m).toNat h'
  | r, k, f + 1, h, hk, hf, hA => by
    have hB := H.1
    obtain ⟨K, ej, er, ea⟩ := hA
    have Hh := K.wf H
    rw [BX12_lays_14]
    have eN : h 113 6 = nB m := K.eN
    rw [eN]
    by_cases hd : nB m ≤ (k : Int)
    · rw [if_pos hd]
      refine ⟨h, rfl, ?_⟩
      rw [show (nB m).toNat = k by omega]
      exact ⟨K, ej, er, ea⟩
    · rw [if_neg hd]
      have eN2 : nB h = nB m := K.eN
      have k0 : (0 : Int) ≤ (k : Int) := by omega
      have k1 : (k : Int) < nB m := by omega
      have f1 := lb_ok H (k := 0) (Or.inl rfl) k0 k1
      have f2 := lb_ok H (k := 3) (Or.inr rfl) k0 k1
      have hfd := (H.2.2.2.2.2.1 (k : Int) k0 k1).2.2.2.1
      rw [leastBy_m (by omega) Hh (Or.inl rfl) k0 (by omega), bndp_s, al532, grd_t (by omega), ltt_e, K.eb]
      have K1 : KM m (up h 132 k (lb m k 0)) := K.put (by omega)
      rw [leastBy_m (by omega) (K1.wf H) (Or.inr rfl) k0 (by rw [K1.eN]; exact k1), bndp_s, grd_t (by omega), ltt_e, K1.eb]
      have K2 : KM m (up (up h 132 k (lb m k 0)) 133 k (lb m k 3)) := K1.put (by omega)
      rw [grd_t (by omega), grd_t (by decide), grd_t (by omega)]
      have e1 : up (up h 132 (k : Int) (lb m k 0)) 133 k (lb m k 3) 113 40 = j := by rw [up_c (by decide), up_c (by decide)]; exact ej
      have e2 : up (up h 132 (k : Int) (lb m k 0)) 133 k (lb m k 3) 132 k = lb m k 0 := by rw [up_c (by decide), up_s]
      have e3 : up (up h 132 (k : Int) (lb m k 0)) 133 k (lb m k 3) 123 = m 123 := K2.r (by decide)
      rw [e1, grd_t (by omega), e2, e3]
      have p0 : 0 ≤ m 123 k * pc := Int.mul_nonneg (by omega) (by omega)
      have p1 : m 123 k * pc ≤ 5000 * 200 := Int.mul_le_mul (by omega) (by omega) (by omega) (by decide)
      rw [w32_i (x := m 123 k * pc) (by omega), Int.tdiv_eq_ediv_of_nonneg p0, w32_i (x := m 123 k * pc / 100) (by omega), Int.tdiv_eq_ediv_of_nonneg (by omega)]
      have q1 : 0 ≤ min (m 123 k * pc / 100) (lb m k 0) / j := Int.ediv_nonneg (by omega) (by omega)
      have q2 : min (m 123 k * pc / 100) (lb m k 0) / j ≤ min (m 123 k * pc / 100) (lb m k 0) := Int.ediv_le_self _ (by omega)
      rw [w32_i (by omega), held_m, bndp_s, grd_t (by omega), ltt_e, grd_t (by omega)]
      have K3 : KM m (up (up (up h 132 k (lb m k 0)) 133 k (lb m k 3)) 134 k (limS m j pc k)) := K2.put (by omega)
      rw [show clm (min (m 123 k * pc / 100) (lb m k 0) / j) = limS m j pc k from rfl]
      have e4 : up (up (up h 132 (k : Int) (lb m k 0)) 133 k (lb m k 3)) 134 k (limS m j pc k) 113 40 = j := by rw [up_c (by decide)]; exact e1
      have e5 : up (up (up h 132 (k : Int) (lb m k 0)) 133 k (lb m k 3)) 134 k (limS m j pc k) 113 41 = rchN m j k := by rw [up_c (by decide), up_c (by decide), up_c (by decide)]; exact er
      have e6 : up (up (up h 132 (k : Int) (lb m k 0)) 133 k (lb m k 3)) 134 k (limS m j pc k) 133 k = lb m k 3 := by rw [up_c (by decide), up_s]
      rw [e4, grd_t (by omega), ltt_e, ltt_e, e5, e6, Int.tdiv_eq_ediv_of_nonneg f2.1]
      have q3 : 0 ≤ lb m k 3 / j := Int.ediv_nonneg f2.1 (by omega)
      have q4 : lb m k 3 / j ≤ lb m k 3 := Int.ediv_le_self _ f2.1
      rw [w32_i (x := lb m k 3 / j) (by omega), w32_i (x := (k : Int) + 1) (by omega)]
      obtain ⟨r', rfl⟩ : ∃ r', r = r' + 1 := ⟨r - 1, by omega⟩
      refine lays_l1 hn H hj hp r' (k + 1) f _ (by omega) (by omega) ⟨K3.pf (by decide), ?_, ?_, fun i i0 i1 => ?_⟩
      · rw [up_i (by decide)]; exact e4
      · rw [up_s]; rfl
      · by_cases hi : i = (k : Int)
        · subst hi
          refine ⟨?_, ?_, ?_⟩ <;> simp (disch := omega) only [up_c, up_i, up_s]
        · simp (disch := omega) only [up_c, up_i, up_s]
          exact ea i i0 (by omega)
