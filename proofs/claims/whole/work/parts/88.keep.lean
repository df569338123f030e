/-! LEGS THAT ARE KEPT. -/
def kpN (m : Hp) : Nat → Int
  | 0 => 0
  | k + 1 => kpN m k + (if flk m k = k then 1 else 0)
theorem kpN_s {m : Hp} {k : Nat} : kpN m (k + 1) = kpN m k + (if flk m k = k then 1 else 0) := rfl
theorem kpN_b {m : Hp} : ∀ k : Nat, 0 ≤ kpN m k ∧ kpN m k ≤ k
  | 0 => ⟨Int.le_refl _, Int.le_refl _⟩
  | k + 1 => by
    have := kpN_b (m := m) k
    rw [kpN_s]
    split <;> omega
theorem kpN_ex {m : Hp} : ∀ (k : Nat) (i : Int), 0 ≤ i → i < kpN m k → ∃ b : Nat, b < k ∧ flk m b = b ∧ kpN m b = i
  | 0, i, h0, h1 => by
    have : kpN m 0 = 0 := rfl
    omega
  | k + 1, i, h0, h1 => by
    by_cases hi : i < kpN m k
    · obtain ⟨b, b1, b2, b3⟩ := kpN_ex k i h0 hi
      exact ⟨b, by omega, b2, b3⟩
    · rw [kpN_s] at h1
      by_cases hf : flk m k = k
      · rw [if_pos hf] at h1
        exact ⟨k, by omega, hf, by omega⟩
      · rw [if_neg hf] at h1
        omega
theorem flk_of {m h : Hp} (e : h 122 = m 122) (k : Int) : flk h k = flk m k := by
  have e2 : likb h k = likb m k := by
    funext i
    unfold likb lik sme
    rw [e]
  unfold flk
  rw [e2]
def keepS (m : Hp) (k : Int) : Int := if 0 ≤ k ∧ k ≤ 1 then kpN m (nB m).toNat else -1
/-- but for the kept legs at x, h is as g -/
def FK (x : Int) (g h : Hp) : Prop := (∀ c, c < x ∨ x + 7 < c → h c = g c) ∧ ∀ i, i ≠ 1 → h x i = g x i
theorem FK.rf {x : Int} {g : Hp} : FK x g g := ⟨fun _ _ => rfl, fun _ _ => rfl⟩
theorem FK.put {x : Int} {g h : Hp} (K : FK x g h) {c i v : Int} (hc : x < c ∧ c ≤ x + 7) : FK x g (up h c i v) := ⟨fun d hd => (up_row (by omega)).trans (K.1 d hd), fun j hj => (up_c (by omega)).trans (K.2 j hj)⟩
theorem FK.pf {x : Int} {g h : Hp} (K : FK x g h) {v : Int} : FK x g (up h x 1 v) := ⟨fun d hd => (up_row (by omega)).trans (K.1 d hd), fun j hj => (up_i hj).trans (K.2 j hj)⟩
section
variable {n : Nat} {m : Hp}
theorem tk_in (H : WFp m) {g0 g : Hp} {w x0 : Int} (hw : w = 1 ∨ w = 14) (hx : x0 = 94 ∨ x0 = 102) (R : RW m g0 w) (z0 : g0 39 0 = w) {k q : Int} (k0 : 0 ≤ k) (k1 : k < nB m) (q0 : 0 ≤ q) (q1 : q < 64) (G : FK x0 g0 g) : ∀ (r f : Nat) (a : Int) (h : Hp), a + r = 3 → r < f → 0 ≤ a → FK x0 g0 h → h x0 1 = q → (∀ z i, 0 ≤ z → z < 6 → i ≠ q → h (x0 + 2 + z) i = g (x0 + 2 + z) i) → (∀ z, 0 ≤ z → z < a → h (x0 + 2 + z) q = m 122 (3 * k + z) ∧ h (x0 + 2 + (3 + z)) q = m 122 (3 * k + (3 + z))) → ∃ h', BX2_take_30 n f x0 k a h = some (x0, k, h') ∧ FK x0 g0 h' ∧ h' x0 1 = q ∧ (∀ z i, 0 ≤ z → z < 6 → i ≠ q → h' (x0 + 2 + z) i = g (x0 + 2 + z) i) ∧ ∀ z, 0 ≤ z → z < 6 → h' (x0 + 2 + z) q = m 122 (3 * k + z)
  | 0, f + 1, a, h, ha, hf, a0, K, e1, O, W => by
    rw [BX2_take_30, if_pos (by omega)]
    refine ⟨h, rfl, K, e1, O, fun z z0 z1 => ?_⟩
    by_cases hz : z < 3
    · exact (W z z0 (by omega)).1
    · have := (W (z - 3) (by omega) (by omega)).2
      rw [show 3 + (z - 3) = z by omega] at this
      exact this
  | r + 1, f + 1, a, h, ha, hf, a0, K, e1, O, W => by
    have hB := H.1
    have e39 : h 39 0 = w := by rw [K.1 39 (by omega)]; exact z0
    have p1 : h (w + 2 + 1 + a) k = m 122 (3 * k + a) := by
      rw [K.1 (w + 2 + 1 + a) (by omega)]
      exact R.2.2.1 a k a0 (by omega) k0 (by omega)
    have p2 : h (w + 2 + 1 + a) (k + 1) = m 122 (3 * k + (3 + a)) := by
      rw [K.1 (w + 2 + 1 + a) (by omega), R.2.2.1 a (k + 1) a0 (by omega) (by omega) (by omega), show 3 * (k + 1) + a = 3 * k + (3 + a) by omega]
    rw [BX2_take_30, if_neg (by omega), al74, al50, al540, al532, e1, e39, p1, grd_t (by omega), grd_t (by omega), grd_t (by omega), grd_t (by omega), ltt_e, show x0 + 1 + 1 + a = x0 + 2 + a by omega, w32_i (x := 3 + a) (by omega), w32_i (x := k + 1) (by omega), grd_t (by omega), grd_t (by omega), grd_t (by omega), up_c (b := x0) (by omega), up_c (b := 39) (by omega), e1, e39, grd_t (by omega), ltt_e, up_c (b := w + 2 + 1 + a) (by omega), p2, show x0 + 1 + 1 + (3 + a) = x0 + 2 + (3 + a) by omega, ltt_e, w32_i (x := a + 1) (by omega)]
    refine tk_in H hw hx R z0 k0 k1 q0 q1 G r f (a + 1) _ (by omega) (by omega) (by omega) ((K.put (by omega)).put (by omega)) ?_ (fun z i z0 z1 hi => ?_) (fun z z0 z1 => ?_)
    · rw [up_c (by omega), up_c (by omega), e1]
    · by_cases h1 : x0 + 2 + z = x0 + 2 + (3 + a)
      · rw [h1, up_i hi, up_c (by omega), ← h1]
        exact O z i z0 z1 hi
      · rw [up_c h1]
        by_cases h2 : x0 + 2 + z = x0 + 2 + a
        · rw [h2, up_i hi, ← h2]
          exact O z i z0 z1 hi
        · rw [up_c h2]
          exact O z i z0 z1 hi
    · by_cases hz : z = a
      · subst hz
        rw [up_c (by omega), up_s, up_s]
        exact ⟨rfl, rfl⟩
      · rw [up_c (by omega), up_c (by omega), up_c (by omega), up_c (by omega)]
        exact W z z0 (by omega)
/-- the legs of the first k blocks are kept -/
def KL (m h : Hp) (x0 : Int) (k : Nat) : Prop := h x0 1 = kpN m k ∧ ∀ b : Nat, b < k → flk m b = b → ∀ z, 0 ≤ z → z < 6 → h (x0 + 2 + z) (kpN m b) = m 122 (3 * b + z)
theorem kpN_lt {m : Hp} : ∀ (k b : Nat), b < k → flk m b = b → kpN m b < kpN m k
  | 0, b, hb, hf => by omega
  | k + 1, b, hb, hf => by
    rw [kpN_s]
    by_cases h : b = k
    · subst h
      rw [if_pos hf]
      omega
    · have := kpN_lt k b (by omega) hf
      split <;> omega
theorem take_l (hn : 10 ≤ n) (H : WFp m) {g : Hp} {w x0 : Int} (hw : w = 1 ∨ w = 14) (hx : x0 = 94 ∨ x0 = 102) (R : RW m g w) (z0 : g 39 0 = w) (C : CFi m g (nB m).toNat) : ∀ (r k f : Nat) (h : Hp), (k : Int) + r = nB m → r < f → FK x0 g h → KL m h x0 k → ∃ h', BX2_take_7 n f x0 k h = some (kpN m (nB m).toNat, h') ∧ FK x0 g h' ∧ KL m h' x0 (nB m).toNat
  | 0, k, f + 1, h, hk, hf, K, T => by
    have hB := H.1
    have e39 : h 39 0 = w := by rw [K.1 39 (by omega)]; exact z0
    have eN : h w 11 = nB m := by rw [K.1 w (by omega)]; exact R.1.2.2.1
    have ek : (nB m).toNat = k := by omega
    rw [BX2_take_7, e39, eN, if_pos (by omega), ek, T.1]
    exact ⟨h, rfl, K, T⟩
  | r + 1, k, f + 1, h, hk, hf, K, T => by
    have hB := H.1
    have e39 : h 39 0 = w := by rw [K.1 39 (by omega)]; exact z0
    have eN : h w 11 = nB m := by rw [K.1 w (by omega)]; exact R.1.2.2.1
    have e46 : h 46 (k : Int) = flk m k := by rw [K.1 46 (by omega)]; exact C.1 k (by omega) (by omega)
    have kb := kpN_b (m := m) k
    have ec : ((k + 1 : Nat) : Int) = (k : Int) + 1 := by omega
    rw [BX2_take_7, e39, eN, if_neg (by omega), al532, grd_t (by omega), e46, ltt_e, ltt_e, w32_i (x := (k : Int) + 1) (by omega)]
    by_cases hF : flk m k = k
    · rw [if_neg (fun q => q hF)]
      obtain ⟨h1, e1, K1, f1, o1, v1⟩ := tk_in (n := n) H hw hx R z0 (k := k) (q := kpN m k) (by omega) (by omega) kb.1 (by omega) K 3 n 0 h (by omega) (by omega) (by decide) K T.1 (fun _ _ _ _ _ => rfl) (fun z z0 z1 => by omega)
      unfold LX2_take_30
      rw [e1, bndx_s]
      show ∃ h', JX2_take_89 n (BX2_take_7 n f) x0 k h1 = _ ∧ _
      unfold JX2_take_89
      rw [ltt_e, ltt_e, f1, w32_i (x := kpN m k + 1) (by omega), w32_i (x := (k : Int) + 1) (by omega), ← ec]
      refine take_l hn H hw hx R z0 C r (k + 1) f _ (by omega) (by omega) K1.pf ⟨?_, fun b hb hf' z z0 z1 => ?_⟩
      · rw [up_s, kpN_s, if_pos hF]
      · rw [up_c (by omega)]
        by_cases hbk : b = k
        · subst hbk
          exact v1 z z0 z1
        · have lt := kpN_lt k b (by omega) hf'
          rw [o1 z _ z0 z1 (by omega)]
          exact T.2 b (by omega) hf' z z0 z1
    · rw [if_pos hF, ← ec]
      refine take_l hn H hw hx R z0 C r (k + 1) f _ (by omega) (by omega) K ⟨?_, fun b hb hf' z z0 z1 => ?_⟩
      · rw [T.1, kpN_s, if_neg hF, Int.add_zero]
      · by_cases hbk : b = k
        · subst hbk
          exact absurd hf' hF
        · exact T.2 b (by omega) hf' z z0 z1
theorem keep_a (hn : 100 ≤ n) {g : Hp} (H : WFp m) {w : Int} (hw : w = 1 ∨ w = 14) (R : RW m g w) (S : RSh m g w) (k : Int) : ∃ h', MX11_keep n k g = some (keepS m k, h') ∧ (0 ≤ k ∧ k ≤ 1 → FK (94 + 8 * k) g h' ∧ KL m h' (94 + 8 * k) (nB m).toNat) ∧ (¬ (0 ≤ k ∧ k ≤ 1) → h' = g) := by
  have hB := H.1
  unfold MX11_keep keepS
  by_cases k0 : k < 0
  · rw [if_pos k0, if_neg (by omega)]
    exact ⟨g, rfl, fun q => by omega, fun _ => rfl⟩
  · by_cases k2 : k < 2
    · have hx : 94 + 8 * k = 94 ∨ 94 + 8 * k = 102 := by omega
      have R' : RW m (up g (94 + 8 * k) 1 0) w := R.mv (fun c c1 c2 => up_row (by omega))
      have C' : CFi m (up g (94 + 8 * k) 1 0) (nB m).toNat := by
        unfold CFi
        rw [up_row (b := 46) (by omega), up_row (b := 39) (by omega)]
        exact S.2.2.1
      have z' : up g (94 + 8 * k) 1 0 39 0 = w := by rw [up_c (by omega)]; exact S.1
      obtain ⟨h', e, K, T⟩ := take_l (n := n) (by omega) H hw hx R' z' C' (nB m).toNat 0 n _ (by omega) (by omega) FK.rf ⟨up_s, fun b hb => by omega⟩
      rw [if_neg k0, if_pos k2, if_pos (by omega), al41, grd_t (by omega)]
      unfold MX2_take LX2_take_7
      refine ⟨h', ?_, fun _ => ⟨⟨fun c hc => (K.1 c hc).trans (up_row (by omega)), fun i hi => (K.2 i hi).trans (up_i hi)⟩, T⟩, fun q => by omega⟩
      have e' : BX2_take_7 n n (94 + 8 * k) 0 (up g (94 + 8 * k) 1 0) = some (kpN m (nB m).toNat, h') := e
      rw [ltt_e, ltt_e, e', bnd_s]
    · rw [if_neg k0, if_neg k2, if_neg (by omega)]
      exact ⟨g, rfl, fun q => by omega, fun _ => rfl⟩
/-- the model keeps the leg of block b as the q-th -/
theorem mk_in (H : WFp m) {g : Hp} (G : KR 143 m g) {k q b : Int} (hk : 0 ≤ k ∧ k ≤ 1) (q0 : 0 ≤ q) (q1 : q < 64) (b0 : 0 ≤ b) (b1 : b < nB m) : ∀ (r f : Nat) (a : Int) (h : Hp), a + r = 6 → r < f → 0 ≤ a → KR 143 m h → (∀ i, (i < 6 * (64 * k + q) ∨ 6 * (64 * k + q) + 6 ≤ i) → h 143 i = g 143 i) → (∀ z, 0 ≤ z → z < a → h 143 (6 * (64 * k + q) + z) = m 122 (3 * b + z)) → ∃ h', BX12_keep_36 n f k q b a h = some (k, q, b, h') ∧ KR 143 m h' ∧ (∀ i, (i < 6 * (64 * k + q) ∨ 6 * (64 * k + q) + 6 ≤ i) → h' 143 i = g 143 i) ∧ ∀ z, 0 ≤ z → z < 6 → h' 143 (6 * (64 * k + q) + z) = m 122 (3 * b + z)
  | 0, f + 1, a, h, ha, hf, a0, K, O, W => by
    rw [BX12_keep_36, if_pos (by omega)]
    exact ⟨h, rfl, K, O, fun z z0 z1 => W z z0 (by omega)⟩
  | r + 1, f + 1, a, h, ha, hf, a0, K, O, W => by
    have hB := H.1
    rw [BX12_keep_36, if_neg (by omega), al1580, al6164, w32_i (x := 3 * b) (by omega), w32_i (x := 3 * b + a) (by omega), w32_i (x := 64 * k) (by omega), w32_i (x := 64 * k + q) (by omega), w32_i (x := 6 * (64 * k + q)) (by omega), w32_i (x := 6 * (64 * k + q) + a) (by omega), grd_t (by omega), grd_t (by omega), ltt_e, ltt_e, w32_i (x := a + 1) (by omega), K 122 (by decide)]
    refine mk_in H G hk q0 q1 b0 b1 r f (a + 1) _ (by omega) (by omega) (by omega) K.put (fun i hi => ?_) (fun z z0 z1 => ?_)
    · rw [up_i (by omega)]
      exact O i hi
    · by_cases hz : z = a
      · rw [hz, up_s]
      · rw [up_i (by omega)]
        exact W z z0 (by omega)
/-- the model's legs of the first blocks are kept -/
def ML (m h : Hp) (k : Int) (b' : Nat) : Prop := ∀ b : Nat, b < b' → flk m b = b → ∀ z, 0 ≤ z → z < 6 → h 143 (6 * (64 * k + kpN m b) + z) = m 122 (3 * b + z)
/-- but for the kept legs k, h is as m -/
def FM (m h : Hp) (k : Int) : Prop := (∀ c, c ≠ 143 → c ≠ 144 → h c = m c) ∧ (∀ i, i ≠ k → h 144 i = m 144 i) ∧ ∀ i, (i < 384 * k ∨ 384 * k + 384 ≤ i) → h 143 i = m 143 i
theorem keep_l (hn : 100 ≤ n) (H : WFp m) {k : Int} (hk : 0 ≤ k ∧ k ≤ 1) : ∀ (r b f : Nat) (h : Hp), (b : Int) + r = nB m → r < f → KR 143 m h → (∀ i, (i < 384 * k ∨ 384 * k + 384 ≤ i) → h 143 i = m 143 i) → ML m h k b → ∃ h', BX12_keep_16 n f k (kpN m b) b h = some (kpN m (nB m).toNat, h') ∧ FM m h' k ∧ ML m h' k (nB m).toNat ∧ h' 144 k = kpN m (nB m).toNat
  | 0, b, f + 1, h, hb, hf, K, O, T => by
    have hB := H.1
    have ek : (nB m).toNat = b := by omega
    rw [BX12_keep_16, K 113 (by decide), show m 113 6 = nB m from rfl, if_pos (by omega), al36, grd_t (by omega), ltt_e, ek]
    refine ⟨_, rfl, ⟨fun c c1 c2 => (up_row c2).trans (K c c1), fun i hi => ?_, fun i hi => ?_⟩, fun b' hb' hf' z z0 z1 => ?_, up_s⟩
    · rw [up_i hi, K 144 (by decide)]
    · rw [up_c (by decide)]
      exact O i hi
    · rw [up_c (by decide)]
      exact T b' hb' hf' z z0 z1
  | r + 1, b, f + 1, h, hb, hf, K, O, T => by
    have hB := H.1
    have kb := kpN_b (m := m) b
    have ec : ((b + 1 : Nat) : Int) = (b : Int) + 1 := by omega
    have e1 : MX12_firstLike n b h = some (flk m b) := by
      rw [first_m hn (by omega) (by omega), flk_of (K 122 (by decide))]
    rw [BX12_keep_16, K 113 (by decide), show m 113 6 = nB m from rfl, if_neg (by omega), e1, bndp_s, ltt_e, ltt_e, w32_i (x := (b : Int) + 1) (by omega)]
    by_cases hF : flk m b = b
    · rw [if_neg (fun q => q hF)]
      obtain ⟨h1, e2, K1, o1, v1⟩ := mk_in (n := n) H K hk kb.1 (by omega) (b := b) (by omega) (by omega) 6 n 0 h (by omega) (by omega) (by decide) K (fun _ _ => rfl) (fun z z0 z1 => by omega)
      unfold LX12_keep_36
      rw [e2, bndx_s]
      show ∃ h', JX12_keep_77 n (BX12_keep_16 n f) k (kpN m b) b h1 = _ ∧ _
      unfold JX12_keep_77
      rw [ltt_e, ltt_e, w32_i (x := kpN m b + 1) (by omega), w32_i (x := (b : Int) + 1) (by omega), show kpN m b + 1 = kpN m (b + 1) by rw [kpN_s, if_pos hF], ← ec]
      refine keep_l hn H hk r (b + 1) f _ (by omega) (by omega) K1 (fun i hi => ?_) (fun b' hb' hf' z z0 z1 => ?_)
      · rw [o1 i (by omega)]
        exact O i hi
      · by_cases hbk : b' = b
        · subst hbk
          exact v1 z z0 z1
        · have lt := kpN_lt b b' (by omega) hf'
          rw [o1 _ (by omega)]
          exact T b' (by omega) hf' z z0 z1
    · rw [if_pos hF, ← ec, show kpN m b = kpN m (b + 1) by rw [kpN_s, if_neg hF, Int.add_zero]]
      refine keep_l hn H hk r (b + 1) f _ (by omega) (by omega) K O (fun b' hb' hf' z z0 z1 => ?_)
      by_cases hbk : b' = b
      · subst hbk
        exact absurd hf' hF
      · exact T b' (by omega) hf' z z0 z1
theorem keep_b (hn : 100 ≤ n) (H : WFp m) (k : Int) : ∃ h', MX12_keep n k m = some (keepS m k, h') ∧ (0 ≤ k ∧ k ≤ 1 → FM m h' k ∧ ML m h' k (nB m).toNat ∧ h' 144 k = kpN m (nB m).toNat) ∧ (¬ (0 ≤ k ∧ k ≤ 1) → h' = m) := by
  have hB := H.1
  unfold MX12_keep keepS
  rw [in_m, bndp_s]
  by_cases hk : 0 ≤ k ∧ k ≤ 1
  · obtain ⟨h', e, F, T, E⟩ := keep_l (n := n) hn H hk (nB m).toNat 0 n m (by omega) (by omega) KR.rf (fun _ _ => rfl) (fun b hb => by omega)
    rw [if_pos hk, if_pos (by decide), if_pos hk, ltt_e, ltt_e]
    exact ⟨h', e, fun _ => ⟨F, T, E⟩, fun q => absurd hk q⟩
  · rw [if_neg hk, if_neg (by decide), if_neg hk]
    exact ⟨m, rfl, fun q => absurd q hk, fun _ => rfl⟩
end
