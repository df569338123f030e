/-! FEEDING. -/
theorem byte_ia (z : Int) : iand z 255 = (((BitVec.ofInt 32 z).toNat % 256 : Nat) : Int) := by
  have e : ((BitVec.ofInt 32 z) &&& 255#32).toNat = (BitVec.ofInt 32 z).toNat % 256 := by
    rw [BitVec.toNat_and]
    exact Nat.and_two_pow_sub_one_eq_mod _ 8
  show ((BitVec.ofInt 32 z) &&& 255#32).toInt = _
  rw [BitVec.toInt_eq_toNat_of_lt (by rw [e]; omega), e]
theorem byte_iu (x : Int) {k : Int} {j : Nat} (hk : (((Int32.ofInt k).toUInt32 &&& Int32.toUInt32 31).toNat % 32) = j) : (BitVec.ofInt 32 (iushr x k)).toNat = (BitVec.ofInt 32 x).toNat / 2 ^ j := by
  have e : Int32.ofInt (iushr x k) = ((Int32.ofInt x).toUInt32 >>> ((Int32.ofInt k).toUInt32 &&& Int32.toUInt32 31)).toInt32 := Int32.ofInt_toInt _
  have e2 : BitVec.ofInt 32 (iushr x k) = ((Int32.ofInt x).toUInt32 >>> ((Int32.ofInt k).toUInt32 &&& Int32.toUInt32 31)).toBitVec := congrArg Int32.toBitVec e
  rw [e2]
  show ((Int32.ofInt x).toUInt32 >>> ((Int32.ofInt k).toUInt32 &&& Int32.toUInt32 31)).toNat = _
  rw [UInt32.toNat_shiftRight, hk, Nat.shiftRight_eq_div_pow]
  rfl
theorem byte_is (x : Int) {k : Int} {j : Nat} (hk : ((Int32.ofInt k &&& 31).toBitVec.smod 32).toNat = j) : ishr x k = (BitVec.ofInt 32 x).toInt / 2 ^ j := by
  show (Int32.ofInt x >>> (Int32.ofInt k &&& 31)).toBitVec.toInt = _
  rw [Int32.toBitVec_shiftRight, BitVec.toInt_sshiftRight', hk, Int.shiftRight_eq_div_pow]
  rw [Int.natCast_pow]
  rfl
theorem rawB_bm {t : Nat} {y : Int} (h : ∃ q : Int, y = (t : Int) + 256 * q) : rawB ((t % 256 : Nat) : Int) = w8 (w8 y) := by
  obtain ⟨q, e⟩ := h
  have h1 : (y.bmod 256) = rawB ((t % 256 : Nat) : Int) := by
    unfold rawB
    rw [e]
    unfold Int.bmod
    have : ((256 : Nat) : Int) = 256 := rfl
    simp only [this]
    split <;> split <;> omega
  rw [w8_bmod y, h1, w8_id]
  · unfold rawB
    split <;> omega
  · unfold rawB
    split <;> omega
theorem byte_24 (x : Int) : rawB (iand (iushr x 24) 255) = w8 (w8 (ishr x 24)) := by
  have hN := (BitVec.ofInt 32 x).isLt
  rw [byte_ia, byte_iu x (j := 24) (by decide), byte_is x (j := 24) (by decide)]
  refine rawB_bm ?_
  rw [BitVec.toInt_eq_toNat_cond]
  generalize (BitVec.ofInt 32 x).toNat = N at hN
  split
  · exact ⟨0, by omega⟩
  · exact ⟨-1, by omega⟩
theorem byte_16 (x : Int) : rawB (iand (iushr x 16) 255) = w8 (w8 (ishr x 16)) := by
  have hN := (BitVec.ofInt 32 x).isLt
  rw [byte_ia, byte_iu x (j := 16) (by decide), byte_is x (j := 16) (by decide)]
  refine rawB_bm ?_
  rw [BitVec.toInt_eq_toNat_cond]
  generalize (BitVec.ofInt 32 x).toNat = N at hN
  split
  · exact ⟨0, by omega⟩
  · exact ⟨-256, by omega⟩
theorem byte_8 (x : Int) : rawB (iand (iushr x 8) 255) = w8 (w8 (ishr x 8)) := by
  have hN := (BitVec.ofInt 32 x).isLt
  rw [byte_ia, byte_iu x (j := 8) (by decide), byte_is x (j := 8) (by decide)]
  refine rawB_bm ?_
  rw [BitVec.toInt_eq_toNat_cond]
  generalize (BitVec.ofInt 32 x).toNat = N at hN
  split
  · exact ⟨0, by omega⟩
  · exact ⟨-65536, by omega⟩
theorem byte_0 (x : Int) : rawB (iand x 255) = w8 (w8 (ishr x 0)) := by
  have hN := (BitVec.ofInt 32 x).isLt
  rw [byte_ia, byte_is x (j := 0) (by decide)]
  refine rawB_bm ?_
  rw [BitVec.toInt_eq_toNat_cond]
  generalize (BitVec.ofInt 32 x).toNat = N at hN
  split
  · exact ⟨0, by omega⟩
  · exact ⟨-16777216, by omega⟩
theorem byte_b (z : Int) : 0 ≤ iand z 255 ∧ iand z 255 < 256 := by
  rw [byte_ia]
  omega
section
variable {m h : Hp} {n : Nat}
theorem addByte_c {p x : Int} (e : h 27 1 = p) (hp : 0 ≤ p ∧ p < 400) : MX9_addByte x h = some (up (up h 28 p (iand x 255)) 27 1 (p + 1)) := by
  unfold MX9_addByte
  rw [e, if_neg (by omega), if_neg (by omega), show alen 3220 = 400 by decide, grd_t (by omega), ltt_e, up_ne (b := 27) (by decide), e, w32_i (x := p + 1) (by omega), ltt_e]
theorem addNumber_c {p x : Int} (e : h 27 1 = p) (hp : 0 ≤ p ∧ p + 4 ≤ 400) : ∃ h', MX9_addNumber x h = some h' ∧ (∀ c, c ≠ 27 → c ≠ 28 → h' c = h c) ∧ h' 27 1 = p + 4 ∧ (∀ i, i < p → h' 28 i = h 28 i) ∧ h' 28 p = iand (iushr x 24) 255 ∧ h' 28 (p + 1) = iand (iushr x 16) 255 ∧ h' 28 (p + 2) = iand (iushr x 8) 255 ∧ h' 28 (p + 3) = iand x 255 := by
  unfold MX9_addNumber
  rw [addByte_c e (by omega), bndh_s, addByte_c (p := p + 1) up_at (by omega), bndh_s, addByte_c (p := p + 1 + 1) up_at (by omega), bndh_s, addByte_c (p := p + 1 + 1 + 1) up_at (by omega), bndh_s]
  refine ⟨_, rfl, fun c c0 c1 => by rw [up_ne c0, up_ne c1, up_ne c0, up_ne c1, up_ne c0, up_ne c1, up_ne c0, up_ne c1], by rw [up_at]; omega, fun i hi => ?_, ?_, ?_, ?_, ?_⟩
  · rw [up_c (by decide), up_i (by omega), up_c (by decide), up_i (by omega), up_c (by decide), up_i (by omega), up_c (by decide), up_i (by omega)]
  · rw [up_c (by decide), up_i (by omega), up_c (by decide), up_i (by omega), up_c (by decide), up_i (by omega), up_c (by decide), up_at]
  · rw [up_c (by decide), up_i (by omega), up_c (by decide), up_i (by omega), up_c (by decide), up_at]
  · rw [up_c (by decide), up_i (by omega), up_c (by decide), up_e rfl (by omega)]
  · rw [up_c (by decide), up_e rfl (by omega)]
theorem put_st {f : Nat} {p x k : Int} (e : m 113 20 = p) (hp : 0 ≤ p ∧ p < 400) (hk : 0 ≤ k ∧ k ≤ 24) : BX12_put4_3 n (f + 1) x k m = BX12_put4_3 n f x (k - 8) (up (up m 127 p (w8 (w8 (ishr x k)))) 113 20 (p + 1)) := by
  rw [BX12_put4_3, if_neg (by omega), e, show alen 3223 = 400 by decide, grd_t (by omega), ltt_e, up_ne (b := 113) (by decide), e, w32_i (x := p + 1) (by omega), ltt_e, w32_i (x := k + -8) (by omega), ltt_e]
  rfl
theorem put4_m (hn : 6 ≤ n) {p x : Int} (e : m 113 20 = p) (hp : 0 ≤ p ∧ p + 4 ≤ 400) : ∃ m', MX12_put4 n x m = some m' ∧ (∀ c, c ≠ 113 → c ≠ 127 → m' c = m c) ∧ (∀ i, i ≠ 20 → m' 113 i = m 113 i) ∧ m' 113 20 = p + 4 ∧ (∀ i, i < p → m' 127 i = m 127 i) ∧ m' 127 p = w8 (w8 (ishr x 24)) ∧ m' 127 (p + 1) = w8 (w8 (ishr x 16)) ∧ m' 127 (p + 2) = w8 (w8 (ishr x 8)) ∧ m' 127 (p + 3) = w8 (w8 (ishr x 0)) := by
  obtain ⟨f, ef⟩ : ∃ f, n = f + 5 := ⟨n - 5, by omega⟩
  unfold MX12_put4 LX12_put4_3
  rw [ltt_e]
  have l : BX12_put4_3 n (f + 5) x 24 m = some (up (up (up (up (up (up (up (up m 127 p (w8 (w8 (ishr x 24)))) 113 20 (p + 1)) 127 (p + 1) (w8 (w8 (ishr x 16)))) 113 20 (p + 1 + 1)) 127 (p + 1 + 1) (w8 (w8 (ishr x 8)))) 113 20 (p + 1 + 1 + 1)) 127 (p + 1 + 1 + 1) (w8 (w8 (ishr x 0)))) 113 20 (p + 1 + 1 + 1 + 1)) := by
    rw [put_st e (by omega) (by decide), show (24 - 8 : Int) = 16 by decide, put_st (p := p + 1) up_at (by omega) (by decide), show (16 - 8 : Int) = 8 by decide, put_st (p := p + 1 + 1) up_at (by omega) (by decide), show (8 - 8 : Int) = 0 by decide, put_st (p := p + 1 + 1 + 1) up_at (by omega) (by decide), BX12_put4_3, if_pos (by decide)]
  rw [← ef] at l
  rw [l]
  refine ⟨_, rfl, fun c c0 c1 => by rw [up_ne c0, up_ne c1, up_ne c0, up_ne c1, up_ne c0, up_ne c1, up_ne c0, up_ne c1], fun i hi => ?_, by rw [up_at]; omega, fun i hi => ?_, ?_, ?_, ?_, ?_⟩
  · rw [up_i hi, up_c (by decide), up_i hi, up_c (by decide), up_i hi, up_c (by decide), up_i hi, up_c (by decide)]
  · rw [up_c (by decide), up_i (by omega), up_c (by decide), up_i (by omega), up_c (by decide), up_i (by omega), up_c (by decide), up_i (by omega)]
  · rw [up_c (by decide), up_i (by omega), up_c (by decide), up_i (by omega), up_c (by decide), up_i (by omega), up_c (by decide), up_at]
  · rw [up_c (by decide), up_i (by omega), up_c (by decide), up_i (by omega), up_c (by decide), up_at]
  · rw [up_c (by decide), up_i (by omega), up_c (by decide), up_e rfl (by omega)]
  · rw [up_c (by decide), up_e rfl (by omega)]
theorem fed (hn : 6 ≤ n) (I : Inv2 m h) (x : Int) (hp : h 27 1 + 4 ≤ 400) : ∃ h' m', MX9_addNumber x h = some h' ∧ MX12_put4 n x m = some m' ∧ (∀ c, c < 0 ∨ 113 ≤ c → h' c = h c) ∧ (∀ c, c < 113 → m' c = m c) ∧ h' 27 1 = h 27 1 + 4 ∧ Inv2 m' h' := by
  have w := I.w
  obtain ⟨t1, t2, t3⟩ := I.tp
  obtain ⟨h', a1, lo, a3, a4, a5, a6, a7, a8⟩ := addNumber_c (h := h) (x := x) rfl (by omega)
  obtain ⟨m', b1, mo, mf, b4, b5, b6, b7, b8, b9⟩ := put4_m (m := m) (x := x) hn t2 (by omega)
  have e : pg m' = pg m := pg_of (mf _ (by decide)) (mf _ (by decide)) (mf _ (by decide)) (mo _ (by decide) (by decide)) (mo _ (by decide) (by decide)) (mo _ (by decide) (by decide)) (mo _ (by decide) (by decide)) (mo _ (by decide) (by decide)) (mo _ (by decide) (by decide))
  refine ⟨h', m', a1, b1, fun c c0 => lo c (by omega) (by omega), fun c c0 => mo c (by omega) (by omega), a3, mkInv2 (pg_wf2 e I.wf) (I.mnw.mv e fun i _ _ _ => mf i (by omega)) (I.mrg.mv e (mf _ (by decide)) (mo _ (by decide) (by decide))) (I.mmg.mv e (mo _ (by decide) (by decide)) (mo _ (by decide) (by decide))) (by rw [lo 0 (by decide) (by decide)]; exact w) (I.dr.mv w.1 e (mf _ (by decide)) (by rw [lo 0 (by decide) (by decide)]) (fun c _ _ => lo c (by omega) (by omega)) (fun c _ _ _ => lo c (by omega) (by omega)) (I.f5.mv (lo _ (by decide) (by decide)))) (I.tr.mv (by rw [lo 57 (by decide) (by decide)]) (lo _ (by decide) (by decide))) (I.nw.mv e (fun i _ _ => mf i (by omega)) (fun i _ _ => by rw [lo 64 (by decide) (by decide)])) (I.rg.mv e (mf _ (by decide)) (mo _ (by decide) (by decide)) (fun c _ _ => lo c (by omega) (by omega))) (I.mg.mv e (mo _ (by decide) (by decide)) (mo _ (by decide) (by decide)) (fun c _ _ => lo c (by omega) (by omega))) ?_ (I.rk.mv (mo _ (by decide) (by decide)) (mo _ (by decide) (by decide)) (fun c _ _ => lo c (by omega) (by omega))) (I.rl.mv (lo _ (by decide) (by decide)) (lo _ (by decide) (by decide))) ?_⟩
  · rw [lo 0 (by decide) (by decide)]
    exact I.sh.mv2 e (fun c _ _ => lo c (by omega) (by omega))
  · refine ⟨by rw [a3]; omega, by rw [a3, b4], fun i i0 i1 => ?_⟩
    rw [a3] at i1
    rcases (by omega : i < h 27 1 ∨ i = h 27 1 ∨ i = h 27 1 + 1 ∨ i = h 27 1 + 2 ∨ i = h 27 1 + 3) with q | q | q | q | q
    · rw [a4 i q, b5 i q]
      exact t3 i i0 q
    · rw [q, a5, b6, byte_24]
      exact ⟨rfl, byte_b _⟩
    · rw [q, a6, b7, byte_16]
      exact ⟨rfl, byte_b _⟩
    · rw [q, a7, b8, byte_8]
      exact ⟨rfl, byte_b _⟩
    · rw [q, a8, b9, byte_0]
      exact ⟨rfl, byte_b _⟩
theorem q_feed (hn : 6 ≤ n) (x1 x2 x3 x4 x5 : Int) : Two (MX11_feed x1 x2 x3 x4 x5) (MX12_feed n x1 x2 x3 x4 x5) := fun m h I => by
  obtain ⟨t1, t2, t3⟩ := I.tp
  unfold MX11_feed MX12_feed
  rw [t2, w32_i (x := h 27 1 + 20) (by omega)]
  by_cases hp : h 27 1 + 20 ≤ 400
  · obtain ⟨h1, m1, a1, b1, f1, g1, p1, I1⟩ := fed hn I x1 (by omega)
    obtain ⟨h2, m2, a2, b2, f2, g2, p2, I2⟩ := fed hn I1 x2 (by omega)
    obtain ⟨h3, m3, a3, b3, f3, g3, p3, I3⟩ := fed hn I2 x3 (by omega)
    obtain ⟨h4, m4, a4, b4, f4, g4, p4, I4⟩ := fed hn I3 x4 (by omega)
    obtain ⟨h5, m5, a5, b5, f5, g5, p5, I5⟩ := fed hn I4 x5 (by omega)
    rw [if_pos hp, if_pos hp, a1, bndh_s, a2, bndh_s, a3, bndh_s, a4, bndh_s, a5, bndh_s, b1, bndh_s, b2, bndh_s, b3, bndh_s, b4, bndh_s, b5, bndh_s, I5.tp.2.1]
    exact ⟨_, _, _, rfl, rfl, fun c c0 => by rw [f5 c c0, f4 c c0, f3 c c0, f2 c c0, f1 c c0], fun c c0 => by rw [g5 c c0, g4 c c0, g3 c c0, g2 c c0, g1 c c0], I5⟩
  · rw [if_neg hp, if_neg hp]
    exact ⟨_, _, _, rfl, rfl, fun _ _ => rfl, fun _ _ => rfl, I⟩
end
