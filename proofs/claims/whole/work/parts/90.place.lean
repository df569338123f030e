/-! WHERE IT IS. -/
theorem td_b {x y B : Int} (hx : -B ≤ x ∧ x ≤ B) (hy : 0 < y) : -B ≤ x.tdiv y ∧ x.tdiv y ≤ B := by
  by_cases h0 : 0 ≤ x
  · rw [Int.tdiv_eq_ediv_of_nonneg h0]
    have a1 : 0 ≤ x / y := Int.ediv_nonneg h0 (by omega)
    have a2 : x / y ≤ x := Int.ediv_le_self _ h0
    omega
  · have e : x = -(-x) := by omega
    rw [e, Int.neg_tdiv, Int.tdiv_eq_ediv_of_nonneg (by omega)]
    have a1 : 0 ≤ -x / y := Int.ediv_nonneg (by omega) (by omega)
    have a2 : -x / y ≤ -x := Int.ediv_le_self _ (by omega)
    omega
theorem mp_b {a b A B : Int} (ha : -A ≤ a ∧ a ≤ A) (hb : 0 ≤ b ∧ b ≤ B) : -(A * B) ≤ a * b ∧ a * b ≤ A * B := by
  have hA : 0 ≤ A := by omega
  constructor
  · have h1 : -a * b ≤ A * B := Int.mul_le_mul (by omega) hb.2 hb.1 hA
    rw [Int.neg_mul] at h1
    omega
  · exact Int.mul_le_mul ha.2 hb.2 hb.1 hA
theorem tq_ok {g L x : Int} (h1 : 1 ≤ L) (h : -L ≤ g ∧ g ≤ L) (x0 : 0 ≤ x) : -x ≤ (g * x).tdiv L ∧ (g * x).tdiv L ≤ x := by
  by_cases h0 : 0 ≤ g
  · have p : 0 ≤ g * x := Int.mul_nonneg h0 x0
    rw [Int.tdiv_eq_ediv_of_nonneg p]
    have a1 : 0 ≤ g * x / L := Int.ediv_nonneg p (by omega)
    have a2 : g * x / L ≤ x := Int.ediv_le_of_le_mul (by omega) (by rw [Int.mul_comm x L]; exact Int.mul_le_mul_of_nonneg_right h.2 x0)
    omega
  · have e : g * x = -(-g * x) := by rw [Int.neg_mul, Int.neg_neg]
    have p : 0 ≤ -g * x := Int.mul_nonneg (by omega) x0
    rw [e, Int.neg_tdiv, Int.tdiv_eq_ediv_of_nonneg p]
    have a1 : 0 ≤ -g * x / L := Int.ediv_nonneg p (by omega)
    have a2 : -g * x / L ≤ x := Int.ediv_le_of_le_mul (by omega) (by rw [Int.mul_comm x L]; exact Int.mul_le_mul_of_nonneg_right (by omega) x0)
    omega
def prt (m : Hp) (b a x : Int) : Int := (gD m b a * x).tdiv (ln m b)
/-- the number that a round corner gives, C its place, P and Q those ahead of it and behind it, z its cut, t how far it is gone round -/
def qdr (P C Q z t : Int) : Int := P * (2 * z - t) * (2 * z - t) + C * 2 * t * (2 * z - t) + Q * t * t
def rnd (m : Hp) (tol c s a : Int) : Int :=
  w32 ((qdr (m 122 (3 * (c + 1) + a) - prt m c a (cutS m tol c)) (m 122 (3 * (c + 1) + a)) (m 122 (3 * (c + 1) + a) + prt m (c + 1) a (cutS m tol c)) (cutS m tol c) (s - (bg m (c + 1) - cutS m tol c))).tdiv (4 * cutS m tol c * cutS m tol c))
abbrev nrc (m : Hp) (tol s c : Int) : Prop := (0 ≤ c ∧ c + 1 < nB m) ∧ 0 < cutS m tol c ∧ bg m (c + 1) - cutS m tol c ≤ s ∧ s ≤ bg m (c + 1) + cutS m tol c
def plc (m : Hp) (tol s a : Int) : Int :=
  if nB m ≤ 0 then 0
  else if nrc m tol s (blk (ee m) (nB m) s - 1) then rnd m tol (blk (ee m) (nB m) s - 1) s a
  else if nrc m tol s (blk (ee m) (nB m) s) then rnd m tol (blk (ee m) (nB m) s) s a
  else w32 (m 122 (3 * blk (ee m) (nB m) s + a) + w32 (prt m (blk (ee m) (nB m) s) a (s - bg m (blk (ee m) (nB m) s))))
section
variable {n : Nat} {m : Hp}
theorem wf_pl (H : WFp m) {b a : Int} (b0 : 0 ≤ b) (b1 : b ≤ nB m) (a0 : 0 ≤ a) (a1 : a < 3) : -100000 ≤ m 122 (3 * b + a) ∧ m 122 (3 * b + a) ≤ 100000 := H.2.2.2.2.1 _ (by omega) (by omega)
theorem qdr_b {P C Q z t : Int} (hP : -300000 ≤ P ∧ P ≤ 300000) (hC : -100000 ≤ C ∧ C ≤ 100000) (hQ : -300000 ≤ Q ∧ Q ≤ 300000) (hz : 0 ≤ z ∧ z ≤ 173205) (ht : 0 ≤ t ∧ t ≤ 2 * z) : (-103923000000 ≤ P * (2 * z - t) ∧ P * (2 * z - t) ≤ 103923000000) ∧ (-36000000000000000 ≤ P * (2 * z - t) * (2 * z - t) ∧ P * (2 * z - t) * (2 * z - t) ≤ 36000000000000000) ∧ (-69282000000 ≤ C * 2 * t ∧ C * 2 * t ≤ 69282000000) ∧ (-24000000000000000 ≤ C * 2 * t * (2 * z - t) ∧ C * 2 * t * (2 * z - t) ≤ 24000000000000000) ∧ (-103923000000 ≤ Q * t ∧ Q * t ≤ 103923000000) ∧ (-36000000000000000 ≤ Q * t * t ∧ Q * t * t ≤ 36000000000000000) := by
  have l : 0 ≤ 2 * z - t ∧ 2 * z - t ≤ 346410 := by omega
  have t' : 0 ≤ t ∧ t ≤ 346410 := by omega
  have a1 := mp_b hP l
  have a2 := mp_b (a := P * (2 * z - t)) (A := 300000 * 346410) (by omega) l
  have a3 := mp_b (a := C * 2) (A := 200000) (by omega) t'
  have a4 := mp_b (a := C * 2 * t) (A := 200000 * 346410) (by omega) l
  have a5 := mp_b hQ t'
  have a6 := mp_b (a := Q * t) (A := 300000 * 346410) (by omega) t'
  refine ⟨?_, ?_, ?_, ?_, ?_, ?_⟩ <;> omega
theorem sq4 (z : Int) : 2 * z * (2 * z) = 4 * z * z := by
  have e : (2 : Int) * 2 = 4 := rfl
  rw [Int.mul_assoc 2 z (2 * z), Int.mul_left_comm z 2 z, ← Int.mul_assoc 2 2 (z * z), e, ← Int.mul_assoc 4 z z]
theorem cut4 {z : Int} (hz : 0 < z ∧ z ≤ 173205) : 0 < 4 * z * z ∧ 4 * z * z ≤ 120000000000 := by
  have h1 : 0 < 4 * z * z := Int.mul_pos (by omega) hz.1
  have h2 : 4 * z * z ≤ 692820 * 173205 := Int.mul_le_mul (by omega) hz.2 (by omega) (by decide)
  omega
theorem part_c {h : Hp} (H : WFp m) {w L : Int} (R : RW m h w) (hL : h L 0 = w) {b x a : Int} (b0 : 0 ≤ b) (b1 : b < nB m) (a0 : 0 ≤ a) (a1 : a < 3) (hx : 0 ≤ x ∧ x ≤ 346410) : MX4_part L b x a h = some (prt m b a x) ∧ -x ≤ prt m b a x ∧ prt m b a x ≤ x := by
  have hB := H.1
  have k := wf_blk H b0 b1
  have q := tq_ok k.1.1 (k.2.1 a a0 a1) hx.1
  have g := wf_go H b0 b1 a0 a1
  have p := mp_b (a := gD m b a) (A := 200000) (by omega) hx
  refine ⟨?_, q⟩
  unfold MX4_part
  rw [hL, step_f H R b0 b1 a0 a1, bndp_s, al532, grd_t (by omega), (R.2.2.2.1 b b0 b1).1, w64_i (x := gD m b a * x) (by omega), share_c (by omega) (by omega), bndp_s]
  show some (w32 (prt m b a x)) = _
  unfold prt
  rw [w32_i (by omega)]
theorem isR_c {h : Hp} (H : WFp m) {w L tol j c s : Int} (ht : 0 ≤ tol ∧ tol ≤ 2000) (R : RW m h w) (hL : h L 0 = w) (C : RLc m h L tol j) : MX4_isRounded L c s h = some (if nrc m tol s c then 1 else 0) := by
  have hB := H.1
  unfold MX4_isRounded
  rw [hL, corner_c H R, bndp_s]
  by_cases hc : 0 ≤ c ∧ c + 1 < nB m
  · have e1 := (C.2.2 c hc.1 hc.2).1
    have e2 := (R.2.2.2.1 c hc.1 (by omega)).2.1
    have k := cut_ok H ht hc.1 hc.2
    have b := wf_bgi H (b := c + 1) (by omega) (by omega)
    rw [if_pos hc, if_neg (by decide), al532, grd_t (by omega), grd_t (by omega), grd_t (by omega), grd_t (by omega), grd_t (by omega), e1, e2, w32_i (x := bg m (c + 1) - cutS m tol c) (by omega), w32_i (x := bg m (c + 1) + cutS m tol c) (by omega)]
    by_cases h1 : cutS m tol c ≤ 0
    · rw [if_pos h1, if_neg (c := nrc m tol s c) (fun q => by omega)]
    · rw [if_neg h1]
      by_cases h2 : s < bg m (c + 1) - cutS m tol c
      · rw [if_pos h2, if_neg (c := nrc m tol s c) (fun q => by omega)]
      · rw [if_neg h2]
        by_cases h3 : bg m (c + 1) + cutS m tol c < s
        · rw [if_pos h3, if_neg (c := nrc m tol s c) (fun q => by omega)]
        · rw [if_neg h3, if_pos (c := nrc m tol s c) ⟨hc, by omega, by omega, by omega⟩]
  · rw [if_neg hc, if_pos rfl, if_neg (c := nrc m tol s c) (fun q => hc q.1)]
theorem rnd_c {h : Hp} (H : WFp m) {w L tol j c s a : Int} (ht : 0 ≤ tol ∧ tol ≤ 2000) (R : RW m h w) (hL : h L 0 = w) (C : RLc m h L tol j) (Q : nrc m tol s c) (a0 : 0 ≤ a) (a1 : a < 3) : MX4_roundedAt L c s a h = some (rnd m tol c s a) := by
  have hB := H.1
  obtain ⟨hc, c1, c2, c3⟩ := Q
  have e1 := (C.2.2 c hc.1 hc.2).1
  have e2 := (R.2.2.2.1 c hc.1 (by omega)).2.1
  have k := cut_ok H ht hc.1 hc.2
  have b := wf_bgi H (b := c + 1) (by omega) (by omega)
  have p0 := wf_pl H (b := c + 1) (a := a) (by omega) (by omega) a0 a1
  have p1 := part_c H R hL hc.1 (by omega) a0 a1 (x := cutS m tol c) (by omega)
  have p2 := part_c H R hL (b := c + 1) (by omega) hc.2 a0 a1 (x := cutS m tol c) (by omega)
  have q := qdr_b (P := m 122 (3 * (c + 1) + a) - prt m c a (cutS m tol c)) (C := m 122 (3 * (c + 1) + a)) (Q := m 122 (3 * (c + 1) + a) + prt m (c + 1) a (cutS m tol c)) (z := cutS m tol c) (t := s - (bg m (c + 1) - cutS m tol c)) (by omega) (by omega) (by omega) (by omega) (by omega)
  have s4 := cut4 (z := cutS m tol c) (by omega)
  unfold MX4_roundedAt rnd
  have er := R.2.2.1 a (c + 1) a0 a1 (by omega) (by omega)
  rw [al50, al540, al532, grd_t (by omega), w32_i (x := c + 1) (by omega), grd_t (by omega), hL, er, ltt_e, grd_t (by omega), e1, p1.1, bndp_s, ltt_e, grd_t (by omega), p2.1, bndp_s, ltt_e, grd_t (by omega), ltt_e, grd_t (by omega), grd_t (by omega), e2, ltt_e, ltt_e]
  generalize hP : prt m c a (cutS m tol c) = u at *
  generalize hQ : prt m (c + 1) a (cutS m tol c) = v at *
  generalize hz : cutS m tol c = z at *
  generalize hg : bg m (c + 1) = g at *
  generalize hC : m 122 (3 * (c + 1) + a) = e at *
  rw [w64_i (x := e - u) (by omega), w64_i (x := e + v) (by omega), w64_i (x := 2 * z) (by omega), w32_i (x := g - z) (by omega), w32_i (x := s - (g - z)) (by omega), w64_i (x := 2 * z - (s - (g - z))) (by omega)]
  generalize ht' : s - (g - z) = t at *
  rw [w64_i (x := (e - u) * (2 * z - t)) (by omega), w64_i (x := (e - u) * (2 * z - t) * (2 * z - t)) (by omega), w64_i (x := e * 2) (by omega), w64_i (x := e * 2 * t) (by omega), w64_i (x := e * 2 * t * (2 * z - t)) (by omega), w64_i (x := (e - u) * (2 * z - t) * (2 * z - t) + e * 2 * t * (2 * z - t)) (by omega), w64_i (x := (e + v) * t) (by omega), w64_i (x := (e + v) * t * t) (by omega), w64_i (x := (e - u) * (2 * z - t) * (2 * z - t) + e * 2 * t * (2 * z - t) + (e + v) * t * t) (by omega), sq4, w64_i (x := 4 * z * z) (by omega)]
  have d := td_b (x := qdr (e - u) e (e + v) z t) (B := 96000000000000000) (by unfold qdr; omega) s4.1
  unfold qdr at d
  unfold qdr
  rw [share_c (by omega) (by omega), bndp_s]
theorem blockOf_l {h : Hp} {w : Int} (H : WFp m) (R : RW m h w) (s : Int) : ∀ (r k f : Nat), nB m = (k : Int) + r → r < f → BX10_blockOf_2 n f w s k h = some (blkL (ee m) (nB m) s r k)
  | 0, k, f + 1, hk, hf => by
    have hB := H.1
    rw [BX10_blockOf_2, R.1.2.2.1, if_pos (by omega), w32_i (by omega)]
    rfl
  | r + 1, k, f + 1, hk, hf => by
    have hB := H.1
    have ih := blockOf_l H R s r (k + 1) f (by omega) (by omega)
    rw [BX10_blockOf_2, R.1.2.2.1, if_neg (by omega), al532, grd_t (by omega), (R.2.2.2.1 k (by omega) (by omega)).2.1, ltt_e, w32_i (x := (k : Int) + 1) (by omega), show ((k : Int) + 1) = ((k + 1 : Nat) : Int) by omega, ih]
    rw [show blkL (ee m) (nB m) s (r + 1) k = if s < ee m k then (k : Int) else blkL (ee m) (nB m) s r (k + 1) from rfl]
    by_cases hs : s < ee m k
    · rw [if_pos hs, if_neg (show ¬ bg m ((k + 1 : Nat) : Int) ≤ s by
        have : ee m k = bg m ((k : Int) + 1) := rfl
        rw [show ((k + 1 : Nat) : Int) = (k : Int) + 1 by omega]
        omega)]
    · rw [if_neg hs, if_pos (show bg m ((k + 1 : Nat) : Int) ≤ s by
        have : ee m k = bg m ((k : Int) + 1) := rfl
        rw [show ((k + 1 : Nat) : Int) = (k : Int) + 1 by omega]
        omega)]
      rw [show ((k + 1 : Nat) : Int) = (k : Int) + 1 by omega]
theorem blockOf_c (hn : 100 ≤ n) {h : Hp} {w : Int} (H : WFp m) (R : RW m h w) (s : Int) : MX10_blockOf n w s h = some (blk (ee m) (nB m) s) := by
  have hB := H.1
  unfold MX10_blockOf LX10_blockOf_2 blk
  rw [ltt_e]
  exact blockOf_l H R s (nB m).toNat 0 n (by omega) (by omega)
theorem placeAt_c (hn : 100 ≤ n) {h : Hp} (H : WFp m) {w L tol j s a : Int} (ht : 0 ≤ tol ∧ tol ≤ 2000) (R : RW m h w) (hL : h L 0 = w) (C : RLc m h L tol j) (s0 : 0 ≤ s) (s1 : s ≤ AL (nB m) (ee m)) (a0 : 0 ≤ a) (a1 : a < 3) : MX4_placeAt n L s a h = some (plc m tol s a) := by
  have hB := H.1
  unfold MX4_placeAt plc
  rw [hL, blockOf_c hn H R, bndp_s, ltt_e, has_c R, bndp_s]
  by_cases hN : nB m ≤ 0
  · rw [if_pos hN, if_neg (show ¬ (0 ≤ blk (ee m) (nB m) s ∧ blk (ee m) (nB m) s < nB m) by omega), if_pos rfl]
  · have E := env_ok (p := 100) (tol := tol) H H.2.2.1
    have b := blk_ok E (s := s) (by omega)
    generalize hb : blk (ee m) (nB m) s = y at *
    have eA := AL_m H
    have g1 := wf_bgi H (b := y) (by omega) (by omega)
    have gs := wf_bgs H (b := y) (by omega) (by omega)
    have k := wf_blk H (b := y) (by omega) (by omega)
    have g2 : bg m y ≤ s := by
      rcases b.2.1 with e | e
      · rw [e, H.2.2.2.2.2.2.1]
        exact s0
      · have : ee m (y - 1) = bg m y := by
          unfold ee
          rw [Int.sub_add_cancel]
        omega
    have g3 : s ≤ bg m (y + 1) := by
      rcases b.2.2 with e | e
      · have : ee m y = bg m (y + 1) := rfl
        omega
      · rw [e, Int.sub_add_cancel]
        omega
    rw [if_neg hN, if_pos (show 0 ≤ y ∧ y < nB m by omega), if_neg (by decide), isAxis_c, bndp_s, if_pos (show 0 ≤ a ∧ a < 3 from ⟨a0, a1⟩), if_pos (by decide), w32_i (x := y - 1) (by omega), isR_c H ht R hL C, bndp_s]
    by_cases h1 : nrc m tol s (y - 1)
    · rw [if_pos h1, if_neg (by decide), if_pos h1, rnd_c H ht R hL C h1 a0 a1, bndp_s]
    · rw [if_neg h1, if_pos rfl, if_neg h1, isR_c H ht R hL C, bndp_s]
      by_cases h2 : nrc m tol s y
      · rw [if_pos h2, if_neg (by decide), if_pos h2, rnd_c H ht R hL C h2 a0 a1, bndp_s]
      · have r := R.2.2.2.1 y (by omega) (by omega)
        have er := R.2.2.1 a y a0 a1 (by omega) (by omega)
        have e1 : bg m (y + 1) - ln m y = bg m y := by omega
        have p := part_c H R hL (b := y) (by omega) (by omega) a0 a1 (x := s - bg m y) (by omega)
        have p0 := wf_pl H (b := y) (a := a) (by omega) (by omega) a0 a1
        rw [if_neg h2, if_pos rfl, if_neg h2, al532, al50, al540, grd_t (by omega), grd_t (by omega), r.1, r.2.1, e1, w32_i (x := bg m y) (by omega), ltt_e, grd_t (by omega), grd_t (by omega), w32_i (x := s - bg m y) (by omega), p.1, bndp_s, er, w32_i (x := prt m y a (s - bg m y)) (by omega)]
end
