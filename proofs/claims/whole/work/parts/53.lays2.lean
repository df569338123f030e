/-- all blocks and the first k corners are laid -/
def LB (m : Hp) (tol j pc : Int) (k : Nat) (h : Hp) : Prop := KM m h ∧ h 113 40 = j ∧ h 113 41 = rchS m j ∧ (∀ i : Int, 0 ≤ i → i < nB m → h 132 i = lb m i 0 ∧ h 133 i = lb m i 3 ∧ h 134 i = limS m j pc i) ∧ ∀ i : Int, 0 ≤ i → i < k → i + 1 < nB m → h 135 i = shp m i ∧ h 136 i = cutS m tol i ∧ h 137 i = paceS m tol j i
/-- everything is laid -/
def LD (m : Hp) (tol j pc : Int) (h : Hp) : Prop := LB m tol j pc 64 h
theorem lays_l2 {n : Nat} (hn : 40 ≤ n) {m : Hp} (H : WFp m) {tol j pc : Int} (ht : 0 ≤ tol ∧ tol ≤ 2000) (hj : 1 ≤ j ∧ j ≤ 50) : ∀ (r k f : Nat) (h : Hp), (nB m - 1 ≤ (k : Int) + r) → r < f → k ≤ 64 → LB m tol j pc k h → ∃ h', BX12_lays_133 n f tol k h = some h' ∧ LD m tol j pc h'
  | r, k, f + 1, h, hk, hf, hk64, hA => by
    have hB := H.1
    obtain ⟨K, ej, er, ea, ec⟩ := hA
    have Hh := K.wf H
    have eN : h 113 6 = nB m := K.eN
    rw [BX12_lays_133, eN, w32_i (x := (k : Int) + 1) (by omega)]
    by_cases hd : nB m ≤ (k : Int) + 1
    · rw [if_pos hd]
      exact ⟨h, rfl, K, ej, er, ea, fun i i0 i1 i2 => ec i i0 (by omega) i2⟩
    · rw [if_neg hd]
      have k0 : (0 : Int) ≤ (k : Int) := by omega
      have k1 : (k : Int) + 1 < nB m := by omega
      have hs := shp_ok H k0 k1
      rw [sharp_m hn Hh k0 (by rw [K.eN]; exact k1), bndp_s, al532, grd_t (by omega), ltt_e, grd_t (by omega), ltt_e, grd_t (by omega), ltt_e, grd_t (by omega), K.eS]
      have K1 : KM m (up h 135 k (shp m k)) := K.put (by omega)
      have K2 : KM m (up (up h 135 k (shp m k)) 136 k 0) := K1.put (by omega)
      have K3 : KM m (up (up (up h 135 k (shp m k)) 136 k 0) 137 k 100) := K2.put (by omega)
      have e1 : up (up (up h 135 (k : Int) (shp m k)) 136 k 0) 137 k 100 135 k = shp m k := by rw [up_c (by decide), up_c (by decide), up_s]
      have g1 : ∀ c : Int, c ≠ 135 → c ≠ 136 → c ≠ 137 → up (up (up h 135 (k : Int) (shp m k)) 136 k 0) 137 k 100 c = h c := fun c c1 c2 c3 => by rw [up_row c3, up_row c2, up_row c1]
      have g2 : ∀ c i : Int, i ≠ (k : Int) → up (up (up h 135 (k : Int) (shp m k)) 136 k 0) 137 k 100 c i = h c i := fun c i hi => by
        unfold up
        rw [if_neg (fun q => hi q.2), if_neg (fun q => hi q.2), if_neg (fun q => hi q.2)]
      have e36 : up (up (up h 135 (k : Int) (shp m k)) 136 k 0) 137 k 100 136 k = 0 := by rw [up_c (by decide), up_s]
      have e37 : up (up (up h 135 (k : Int) (shp m k)) 136 k 0) 137 k 100 137 k = 100 := by rw [up_s]
      have e32 := g1 132 (by decide) (by decide) (by decide)
      have e33 := g1 133 (by decide) (by decide) (by decide)
      have e34 := g1 134 (by decide) (by decide) (by decide)
      have e13 := g1 113 (by decide) (by decide) (by decide)
      generalize up (up (up h 135 (k : Int) (shp m k)) 136 k 0) 137 k 100 = h3 at *
      rw [e1]
      obtain ⟨r', rfl⟩ : ∃ r', r = r' + 1 := ⟨r - 1, by omega⟩
      by_cases hz : shp m k ≤ 0
      · rw [if_pos hz, ltt_e]
        refine lays_l2 hn H ht hj r' (k + 1) f h3 (by omega) (by omega) (by omega) ⟨K3, by rw [e13]; exact ej, by rw [e13]; exact er, fun i i0 i1 => by rw [e32, e33, e34]; exact ea i i0 i1, fun i i0 i1 i2 => ?_⟩
        by_cases hi : i = (k : Int)
        · subst hi
          have z : shp m k = 0 := by omega
          rw [e1, e36, e37]
          unfold cutS paceS
          rw [if_pos z, if_pos z]
          exact ⟨rfl, rfl, rfl⟩
        · rw [g2 _ _ hi, g2 _ _ hi, g2 _ _ hi]
          exact ec i i0 (by omega) i2
      · have z : ¬ shp m k = 0 := by omega
        have l1 := (wf_blk H k0 (by omega)).1
        have l2 := (wf_blk H (b := (k : Int) + 1) (by omega) k1).1
        have eL : h3 125 = m 125 := K3.r (by decide)
        have x1 : 0 ≤ 4 * tol * 32768 / shp m k := Int.ediv_nonneg (by omega) (by omega)
        have x2 : 4 * tol * 32768 / shp m k ≤ 4 * tol * 32768 := Int.ediv_le_self _ (by omega)
        rw [if_neg hz, grd_t (by omega), grd_t (by omega), ltt_e, grd_t (by omega), grd_t (by decide), grd_t (by omega), grd_t (by decide), grd_t (by omega), ltt_e, eL]
        rw [w64_i (x := 4 * tol) (by omega), w64_i (x := 4 * tol * 32768) (by omega), Int.tdiv_eq_ediv_of_nonneg (a := 4 * tol * 32768) (by omega), w64_i (x := 4 * tol * 32768 / shp m k) (by omega)]
        have y1 : w32 ((m 125 (k : Int)).tdiv 2) = ln m k / 2 := by
          rw [Int.tdiv_eq_ediv_of_nonneg (by show 0 ≤ ln m k; omega)]
          exact w32_i (by show _ ≤ ln m k / 2 ∧ ln m k / 2 < _; omega)
        have y2 : w32 ((m 125 ((k : Int) + 1)).tdiv 2) = ln m (k + 1) / 2 := by
          rw [Int.tdiv_eq_ediv_of_nonneg (by show 0 ≤ ln m (k + 1); omega)]
          exact w32_i (by show _ ≤ ln m (k + 1) / 2 ∧ ln m (k + 1) / 2 < _; omega)
        have y3 : w32 (min (4 * tol * 32768 / shp m k) (min (ln m k / 2) (ln m (k + 1) / 2))) = cutS m tol k := by
          unfold cutS
          rw [if_neg z]
          exact w32_i (by omega)
        rw [y1, y2, y3]
        have K4 : KM m (up h3 136 k (cutS m tol k)) := K3.put (by omega)
        have c36 : up h3 136 (k : Int) (cutS m tol k) 136 k = cutS m tol k := up_s
        have c1 : ∀ c : Int, c ≠ 136 → up h3 136 (k : Int) (cutS m tol k) c = h3 c := fun c hc => up_row hc
        have c2 : ∀ c i : Int, i ≠ (k : Int) → up h3 136 (k : Int) (cutS m tol k) c i = h3 c i := fun c i hi => by
          unfold up
          rw [if_neg (fun q => hi q.2)]
        generalize up h3 136 (k : Int) (cutS m tol k) = h4 at *
        have d35 : h4 135 (k : Int) = shp m k := by rw [c1 _ (by decide)]; exact e1
        have d33 : h4 133 = h 133 := by rw [c1 _ (by decide)]; exact e33
        have d40 : h4 113 40 = j := by rw [c1 _ (by decide), e13]; exact ej
        have q3 : h4 133 (k : Int) = lb m k 3 := by rw [d33]; exact (ea k k0 (by omega)).2.1
        have q4 : h4 133 ((k : Int) + 1) = lb m (k + 1) 3 := by rw [d33]; exact (ea (k + 1) (by omega) k1).2.1
        rw [grd_t (by omega), grd_t (by omega), grd_t (by omega), grd_t (by omega), d35, grd_t z, c36, q3, q4, d40]
        have hc := cut_ok H ht k0 k1
        have hp := pn_ok H ht k0 k1
        rw [w64_i (x := 2 * cutS m tol k) (by omega), w64_i (x := 2 * cutS m tol k * min (lb m k 3) (lb m (k + 1) 3)) (by omega), w64_i (x := 2 * cutS m tol k * min (lb m k 3) (lb m (k + 1) 3) * 32768) (by omega), Int.tdiv_eq_ediv_of_nonneg (a := 2 * cutS m tol k * min (lb m k 3) (lb m (k + 1) 3) * 32768) (by omega)]
        have u1 : 0 ≤ 2 * cutS m tol k * min (lb m k 3) (lb m (k + 1) 3) * 32768 / shp m k := Int.ediv_nonneg (by omega) (by omega)
        have u2 : 2 * cutS m tol k * min (lb m k 3) (lb m (k + 1) 3) * 32768 / shp m k ≤ 2 * cutS m tol k * min (lb m k 3) (lb m (k + 1) 3) * 32768 := Int.ediv_le_self _ (by omega)
        rw [w64_i (by omega), root_m hn u1 (by omega), bndp_s, grd_t (by omega)]
        have v1 := rt_nn (2 * cutS m tol k * min (lb m k 3) (lb m (k + 1) 3) * 32768 / shp m k)
        have v2 : rt (2 * cutS m tol k * min (lb m k 3) (lb m (k + 1) 3) * 32768 / shp m k) < 10000000 := rt_lt u1 (by decide) (by
          have : (10000000 : Int) * 10000000 = 100000000000000 := by decide
          omega)
        have v3 : 0 ≤ rt (2 * cutS m tol k * min (lb m k 3) (lb m (k + 1) 3) * 32768 / shp m k) / j := Int.ediv_nonneg v1 (by omega)
        have v4 : rt (2 * cutS m tol k * min (lb m k 3) (lb m (k + 1) 3) * 32768 / shp m k) / j ≤ rt (2 * cutS m tol k * min (lb m k 3) (lb m (k + 1) 3) * 32768 / shp m k) := Int.ediv_le_self _ v1
        rw [Int.tdiv_eq_ediv_of_nonneg v1, w32_i (by omega), held_m, bndp_s, grd_t (by omega), ltt_e, ltt_e]
        have v5 : clm (rt (2 * cutS m tol k * min (lb m k 3) (lb m (k + 1) 3) * 32768 / shp m k) / j) = paceS m tol j k := by
          unfold paceS
          rw [if_neg z]
        rw [v5]
        have w1 : ∀ c : Int, c ≠ 137 → up h4 137 (k : Int) (paceS m tol j k) c = h4 c := fun c hc => up_row hc
        refine lays_l2 hn H ht hj r' (k + 1) f _ (by omega) (by omega) (by omega) ⟨K4.put (by omega), by rw [w1 _ (by decide)]; exact d40, by rw [w1 _ (by decide), c1 _ (by decide), e13]; exact er, fun i i0 i1 => by rw [w1 _ (by decide), w1 _ (by decide), w1 _ (by decide), c1 _ (by decide), c1 _ (by decide), c1 _ (by decide), e32, e33, e34]; exact ea i i0 i1, fun i i0 i1 i2 => ?_⟩
        by_cases hi : i = (k : Int)
        · subst hi
          rw [w1 _ (by decide), w1 _ (by decide), up_s, d35, c36]
          exact ⟨rfl, rfl, rfl⟩
        · rw [w1 _ (by decide), w1 _ (by decide), up_i hi, c2 _ _ hi, c2 _ _ hi, c2 _ _ hi, g2 _ _ hi, g2 _ _ hi, g2 _ _ hi]
          exact ec i i0 (by omega) i2
/-- the model lays all bounds -/
theorem lays_m {n : Nat} (hn : 100 ≤ n) {m : Hp} (H : WFp m) {tol j pc : Int} (ht : 0 ≤ tol ∧ tol ≤ 2000) (hj : 1 ≤ j ∧ j ≤ 50) (hp : 1 ≤ pc ∧ pc ≤ 200) : ∃ h', MX12_lays n tol j pc m = some h' ∧ LD m tol j pc h' := by
  have hB := H.1
  have K0 : KM m (up (up m 113 40 j) 113 41 12) := (KM.rf.pf (by decide)).pf (by decide)
  obtain ⟨h1, e1, K1, a1, a2, a3⟩ := lays_l1 (n := n) (by omega) H (tol := tol) hj hp (nB m).toNat 0 n (up (up m 113 40 j) 113 41 12) (by omega) (by omega) ⟨K0, by rw [up_i (by decide), up_s], by rw [up_s]; rfl, fun i i0 i1 => by omega⟩
  have hr := rchN_ok H hj.1 (nB m).toNat (by omega)
  have K2 : KM m (up h1 113 41 (rchS m j)) := K1.pf (by decide)
  obtain ⟨h2, e2, D⟩ := lays_l2 (n := n) (by omega) H (pc := pc) ht hj 64 0 n (up h1 113 41 (rchS m j)) (by omega) (by omega) (by omega) ⟨K2, by rw [up_i (by decide)]; exact a1, by rw [up_s], fun i i0 i1 => by rw [up_c (by decide), up_c (by decide), up_c (by decide)]; exact a3 i i0 (by omega), fun i i0 i1 i2 => by omega⟩
  refine ⟨h2, ?_, D⟩
  unfold MX12_lays
  rw [ltt_e, ltt_e, ltt_e]
  unfold LX12_lays_14
  have e1' : BX12_lays_14 n n tol pc 0 (up (up m 113 40 j) 113 41 12) = some (tol, h1) := e1
  rw [e1', bndx_s]
  show JX12_lays_118 n tol h1 = some h2
  unfold JX12_lays_118 LX12_lays_133
  rw [ltt_e, ltt_e, a2]
  exact e2
theorem laysNow_m {n : Nat} (hn : 100 ≤ n) {m : Hp} (H : WFp m) (hp : 1 ≤ m 113 45 ∧ m 113 45 ≤ 200) : ∃ h', MX12_laysNow n m = some h' ∧ LD m (m 115 7) (m 115 6) (m 113 45) h' := by
  obtain ⟨h', e, D⟩ := lays_m hn H H.2.2.2.1 H.2.2.1 hp
  refine ⟨h', ?_, D⟩
  unfold MX12_laysNow
  rw [al84, grd_t (by decide), grd_t (by decide), e]
  rfl
