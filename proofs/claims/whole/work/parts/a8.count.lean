/-! QUESTIONS ABOUT THE RIDE, in both programs. -/
section
variable {m m' h h' : Hp} {n : Nat}
theorem Inv2.ask (I : Inv2 m h) (K : KM m m') (hc : ∀ c, c ≠ 51 → c ≠ 65 → c ≠ 112 → h' c = h c) (F : FC h' 50 (rchS m (m 115 6))) : (∀ c, c < 0 ∨ 113 ≤ c → h' c = h c) ∧ (∀ c, c < 113 → m' c = m c) ∧ Inv2 m' h' := by
  refine ⟨fun c c0 => hc c (by omega) (by omega) (by omega), fun c c0 => K.1 c (by omega) (by omega) (by omega) (by omega), I.1.mv (KQ.of K), I.2.mv (KQ.of K) (fun c c0 c1 => hc c (by unfold scr at c1; omega) (by unfold scr at c1; omega) (by unfold scr at c1; omega)) F ?_ (I.rl.mv (hc _ (by decide) (by decide) (by decide)) (hc _ (by decide) (by decide) (by decide)))⟩
  exact I.tr.mv (by rw [hc 57 (by decide) (by decide) (by decide)]) (hc _ (by decide) (by decide) (by decide))
theorem LD.up {tol j p : Int} {g : Hp} (D : LD m tol j p g) {i v : Int} (hi : 48 ≤ i ∧ i ≤ 52) : LD m tol j p (up g 113 i v) := by
  obtain ⟨K, q1, q2, q3, q4⟩ := D
  refine ⟨⟨fun c c0 c1 c2 c3 => by rw [up_ne c0]; exact K.1 c c0 c1 c2 c3, fun k k0 k1 k2 k3 => by rw [up_i (by omega)]; exact K.2 k k0 k1 k2 k3⟩, by rw [up_i (by omega)]; exact q1, by rw [up_i (by omega)]; exact q2, fun i i0 i1 => ?_, fun i i0 i1 i2 => ?_⟩
  · rw [up_ne (b := 132) (by decide), up_ne (b := 133) (by decide), up_ne (b := 134) (by decide)]
    exact q3 i i0 i1
  · rw [up_ne (b := 135) (by decide), up_ne (b := 136) (by decide), up_ne (b := 137) (by decide)]
    exact q4 i i0 i1 i2
/-- a trip begins in the class -/
theorem trip (I : Inv2 m h) : ∃ h1, MX8_become 65 64 h = some h1 ∧ (∀ c, c ≠ 65 → h1 c = h c) ∧ CE m h1 50 (h 0 2) (m 115 7) (m 115 6) (m 113 45) ∧ CQ m h1 65 (m 113 42, m 113 43, m 113 44) ∧ h1 65 5 = m 113 47 := by
  have N := I.nw
  obtain ⟨h1, e1, f1, g1⟩ := become_c (h := h) (x := 65) (y := 64) (by decide) (by rw [N.2.2.1]; exact I.mnw.2.1)
  refine ⟨h1, e1, f1, I.ce.mv (x := 65) (by decide) (fun c c0 _ => f1 c c0) (I.f5.mv (f1 _ (by decide))), ?_, by rw [g1 5 (by decide) (by decide)]; exact N.2.2.1⟩
  have N1 := N.1
  unfold CQ CR
  unfold CR at N1
  rw [g1 0 (by decide) (by decide), g1 1 (by decide) (by decide), g1 2 (by decide) (by decide), g1 3 (by decide) (by decide)]
  exact N1
/-- and in the model -/
theorem begun {tol j p : Int} {g : Hp} (D : LD m tol j p g) (h7 : m 113 47 = 0 ∨ m 113 47 = 1) : ∃ g', MX12_begins g = some g' ∧ LD m tol j p g' ∧ MQr g' (m 113 42, m 113 43, m 113 44) ∧ g' 113 52 = m 113 47 := by
  have K := D.km
  have f : ∀ i : Int, i ≠ 40 → i ≠ 41 → (i < 48 ∨ 52 < i) → i ≠ 59 → g 113 i = m 113 i := K.2
  refine ⟨up (up (up (up g 113 48 (m 113 42)) 113 49 (m 113 43)) 113 50 (m 113 44)) 113 52 (m 113 47), ?_, (((D.up (by decide)).up (by decide)).up (by decide)).up (by decide), ⟨?_, ?_, ?_⟩, up_at⟩
  · unfold MX12_begins
    rw [f 42 (by decide) (by decide) (by decide) (by decide), ltt_e, up_i (j := 43) (by decide), f 43 (by decide) (by decide) (by decide) (by decide), ltt_e, up_i (j := 44) (by decide), up_i (j := 44) (by decide), f 44 (by decide) (by decide) (by decide) (by decide), ltt_e, up_i (j := 47) (by decide), up_i (j := 47) (by decide), up_i (j := 47) (by decide), f 47 (by decide) (by decide) (by decide) (by decide), grd_t h7, ltt_e]
  · rw [up_i (by decide), up_i (by decide), up_i (by decide), up_at]
  · rw [up_i (by decide), up_i (by decide), up_at]
  · rw [up_i (by decide), up_at]
theorem ride0 (hn : 100 ≤ n) (I : Inv2 m h) : ∃ g1 g2, MX12_laysNow n m = some g1 ∧ MX12_begins g1 = some g2 ∧ LD m (m 115 7) (m 115 6) (m 113 45) g1 ∧ LD m (m 115 7) (m 115 6) (m 113 45) g2 ∧ MQr g2 (m 113 42, m 113 43, m 113 44) ∧ g2 113 52 = m 113 47 := by
  obtain ⟨g1, e1, D1⟩ := laysNow_m hn I.wf I.mnw.1
  obtain ⟨g2, e2, D2, M2, f2⟩ := begun D1 I.mnw.2.1
  exact ⟨g1, g2, e1, e2, D1, D2, M2, f2⟩
theorem q_count (hn : 100 ≤ n) (I : Inv h) (x : Int) : ∃ v h2, MX11_count x h = some v ∧ MX12_count n x h = some (v, h2) ∧ Inv h2 ∧ SE h h2 := by
  have N : CNw h h := I.nw
  have R := I.rw.1
  obtain ⟨g1, e1, D1⟩ := laysNow_m hn I.wf I.p
  have K := D1.km
  have f : ∀ i : Int, i ≠ 40 → i ≠ 41 → (i < 48 ∨ 52 < i) → i ≠ 59 → g1 113 i = h 113 i := K.2
  have q15 : g1 115 = h 115 := K.r (by decide)
  have J : Inv g1 ∧ SE h g1 := ⟨I.km K, SE.km K⟩
  unfold MX11_count MX12_count
  rw [e1, bndh_s]
  by_cases c0 : x = 0
  · rw [if_pos c0, if_pos c0, f 6 (by decide) (by decide) (by decide) (by decide), R.2.2.1]
    exact ⟨_, _, rfl, rfl, J⟩
  rw [if_neg c0, if_neg c0]
  by_cases c1 : x = 1
  · rw [if_pos c1, if_pos c1, f 5 (by decide) (by decide) (by decide) (by decide), R.2.2.2.1]
    exact ⟨_, _, rfl, rfl, J⟩
  rw [if_neg c1, if_neg c1]
  by_cases c2 : x = 2
  · rw [if_pos c2, if_pos c2, f 7 (by decide) (by decide) (by decide) (by decide), R.2.2.2.2.1]
    exact ⟨_, _, rfl, rfl, J⟩
  rw [if_neg c2, if_neg c2]
  by_cases c3 : x = 3
  · rw [if_pos c3, if_pos c3, all_m I.wf K.eN (K.r (by decide)), bndp_s, R.2.2.2.2.2, AL_m I.wf]
    exact ⟨_, _, rfl, rfl, J⟩
  rw [if_neg c3, if_neg c3]
  by_cases c4 : x = 4
  · rw [if_pos c4, if_pos c4, f 42 (by decide) (by decide) (by decide) (by decide), N.1.1]
    exact ⟨_, _, rfl, rfl, J⟩
  rw [if_neg c4, if_neg c4]
  by_cases c5 : x = 5
  · rw [if_pos c5, if_pos c5, f 43 (by decide) (by decide) (by decide) (by decide), N.1.2.1]
    exact ⟨_, _, rfl, rfl, J⟩
  rw [if_neg c5, if_neg c5]
  by_cases c6 : x = 6
  · rw [if_pos c6, if_pos c6, f 44 (by decide) (by decide) (by decide) (by decide), N.1.2.2.1]
    exact ⟨_, _, rfl, rfl, J⟩
  rw [if_neg c6, if_neg c6]
  by_cases c7 : x = 7
  · rw [if_pos c7, if_pos c7, f 42 (by decide) (by decide) (by decide) (by decide), blockAt_m hn I.wf K.eN (K.r (by decide)), bndp_s, N.1.2.2.2]
    exact ⟨_, _, rfl, rfl, J⟩
  rw [if_neg c7, if_neg c7]
  by_cases c8 : x = 8
  · rw [if_pos c8, if_pos c8, f 45 (by decide) (by decide) (by decide) (by decide), N.2.1]
    exact ⟨_, _, rfl, rfl, J⟩
  rw [if_neg c8, if_neg c8]
  by_cases c9 : x = 9
  · rw [if_pos c9, if_pos c9, f 47 (by decide) (by decide) (by decide) (by decide), N.2.2.1]
    unfold MX12_truth
    by_cases z : h 113 47 = 0
    · rw [if_pos z, bndp_s]
      exact ⟨_, _, rfl, rfl, J⟩
    · rw [if_neg z, bndp_s]
      exact ⟨_, _, rfl, rfl, J⟩
  rw [if_neg c9, if_neg c9]
  by_cases d0 : x = 10
  · have L : RLc h h (50 + 2) (h 115 7) (h 115 6) := I.ce.2.2.2.1
    rw [if_pos d0, if_pos d0, D1.2.2.1, show h 52 3 = rchS h (h 115 6) from L.2.1]
    exact ⟨_, _, rfl, rfl, J⟩
  rw [if_neg d0, if_neg d0]
  by_cases d1 : x = 11
  · rw [if_pos d1, if_pos d1, al84, grd_t (by decide), q15, R.1]
    exact ⟨_, _, rfl, rfl, J⟩
  rw [if_neg d1, if_neg d1]
  by_cases d2 : x = 12
  · rw [if_pos d2, if_pos d2, al84, grd_t (by decide), q15, R.2.1]
    exact ⟨_, _, rfl, rfl, J⟩
  rw [if_neg d2, if_neg d2]
  by_cases d3 : x = 13
  · rw [if_pos d3, if_pos d3, f 54 (by decide) (by decide) (by decide) (by decide), I.rg.1]
    exact ⟨_, _, rfl, rfl, J⟩
  rw [if_neg d3, if_neg d3]
  by_cases d4 : x = 14
  · rw [if_pos d4, if_pos d4, f 20 (by decide) (by decide) (by decide) (by decide), I.tp.2.1]
    exact ⟨_, _, rfl, rfl, J⟩
  rw [if_neg d4, if_neg d4]
  by_cases d5 : x = 15
  · rw [if_pos d5, if_pos d5, f 46 (by decide) (by decide) (by decide) (by decide), N.2.2.2]
    exact ⟨_, _, rfl, rfl, J⟩
  rw [if_neg d5, if_neg d5]
  exact ⟨_, _, rfl, rfl, J⟩
end
