/-! THE SPOTS. -/
def fnd (p : Int → Bool) : Nat → Int → Int
  | 0, x => x
  | r + 1, x => if p x = true then x else fnd p r (x + 1)
theorem fnd_ok {p : Int → Bool} : ∀ (r : Nat) (x : Int), (x ≤ fnd p r x ∧ fnd p r x ≤ x + r) ∧ (fnd p r x < x + r → p (fnd p r x) = true) ∧ ∀ z, x ≤ z → z < fnd p r x → p z = false
  | 0, x => by
    show (x ≤ x ∧ x ≤ x + ((0 : Nat) : Int)) ∧ (x < x + ((0 : Nat) : Int) → _) ∧ ∀ z, x ≤ z → z < x → _
    exact ⟨by omega, fun h => by omega, fun z h1 h2 => by omega⟩
  | r + 1, x => by
    unfold fnd
    by_cases hp : p x = true
    · rw [if_pos hp]
      exact ⟨by omega, fun _ => hp, fun z h1 h2 => by omega⟩
    · rw [if_neg hp]
      obtain ⟨i1, i2, i3⟩ := fnd_ok (p := p) r (x + 1)
      refine ⟨by omega, fun h => i2 (by omega), fun z h1 h2 => ?_⟩
      by_cases hz : z = x
      · rw [hz]
        exact Bool.not_eq_true _ |>.mp hp
      · exact i3 z (by omega) h2
def ptb (m : Hp) (at' : Int → Int) (a b c x : Int) : Bool := decide (m 122 (3 * at' x) = a ∧ m 122 (3 * at' x + 1) = b ∧ m 122 (3 * at' x + 2) = c)
abbrev sme (m : Hp) (i k : Int) : Prop := m 122 (3 * i) = m 122 (3 * k) ∧ m 122 (3 * i + 1) = m 122 (3 * k + 1) ∧ m 122 (3 * i + 2) = m 122 (3 * k + 2)
def updI (v : Int → Int) (x y : Int) : Int → Int := fun z => if z = x then y else v z
theorem updI_s {v : Int → Int} {x y : Int} : updI v x y x = y := if_pos rfl
theorem updI_o {v : Int → Int} {x y z : Int} (h : z ≠ x) : updI v x y z = v z := if_neg h
def spf (m : Hp) (S : Int × (Int → Int) × (Int → Int)) (k : Int) : Int := fnd (ptb m S.2.1 (m 122 (3 * k)) (m 122 (3 * k + 1)) (m 122 (3 * k + 2))) S.1.toNat 0
def spS (m : Hp) (S : Int × (Int → Int) × (Int → Int)) (k : Int) : Int × (Int → Int) × (Int → Int) :=
  if spf m S k = S.1 then (S.1 + 1, updI S.2.1 (spf m S k) k, updI S.2.2 (spf m S k) 1) else (S.1, S.2.1, updI S.2.2 (spf m S k) (S.2.2 (spf m S k) + 1))
def spR (m : Hp) : Nat → Int × (Int → Int) × (Int → Int)
  | 0 => (0, fun _ => 0, fun _ => 0)
  | k + 1 => spS m (spR m k) (k : Int)
theorem spf_ok {m : Hp} {S : Int × (Int → Int) × (Int → Int)} {k : Int} (h : 0 ≤ S.1) : (0 ≤ spf m S k ∧ spf m S k ≤ S.1) ∧ (spf m S k < S.1 → sme m (S.2.1 (spf m S k)) k) ∧ ∀ z, 0 ≤ z → z < spf m S k → ¬ sme m (S.2.1 z) k := by
  obtain ⟨i1, i2, i3⟩ := fnd_ok (p := ptb m S.2.1 (m 122 (3 * k)) (m 122 (3 * k + 1)) (m 122 (3 * k + 2))) S.1.toNat 0
  refine ⟨⟨i1.1, ?_⟩, fun hl => ?_, fun z z0 z1 => ?_⟩
  · have := i1.2
    unfold spf
    omega
  · have := i2 (by unfold spf at hl; omega)
    unfold ptb at this
    rw [decide_eq_true_eq] at this
    exact this
  · have := i3 z z0 z1
    unfold ptb at this
    rw [decide_eq_false_iff_not] at this
    exact this
theorem sme_s {m : Hp} {i k : Int} (h : sme m i k) : sme m k i := ⟨h.1.symm, h.2.1.symm, h.2.2.symm⟩
theorem sme_t {m : Hp} {i k j : Int} (h : sme m i k) (g : sme m k j) : sme m i j := ⟨h.1.trans g.1, h.2.1.trans g.2.1, h.2.2.trans g.2.2⟩
def SPI (m : Hp) (k : Nat) (S : Int × (Int → Int) × (Int → Int)) : Prop := (0 ≤ S.1 ∧ S.1 ≤ k) ∧ (∀ x, 0 ≤ x → x < S.1 → (0 ≤ S.2.1 x ∧ S.2.1 x < k) ∧ (0 ≤ S.2.2 x ∧ S.2.2 x ≤ k)) ∧ ∀ x y, 0 ≤ x → x < S.1 → 0 ≤ y → y < S.1 → sme m (S.2.1 x) (S.2.1 y) → x = y
theorem spR_ok {m : Hp} : ∀ k : Nat, SPI m k (spR m k)
  | 0 => ⟨⟨Int.le_refl _, Int.le_refl _⟩, fun x h0 h1 => absurd h1 (by show ¬ x < 0; omega), fun x y h0 h1 => absurd h1 (by show ¬ x < 0; omega)⟩
  | k + 1 => by
    obtain ⟨i1, i2, i3⟩ := spR_ok (m := m) k
    unfold spR
    generalize spR m k = S at *
    obtain ⟨f1, f2, f3⟩ := spf_ok (m := m) (S := S) (k := (k : Int)) i1.1
    unfold spS
    by_cases h : spf m S k = S.1
    · rw [if_pos h]
      generalize spf m S k = x at *
      subst h
      refine ⟨by show 0 ≤ S.1 + 1 ∧ S.1 + 1 ≤ ((k + 1 : Nat) : Int); omega, fun z z0 z1 => ?_, fun z y z0 z1 y0 y1 hs => ?_⟩
      · have z1' : z < S.1 + 1 := z1
        show (0 ≤ updI S.2.1 S.1 k z ∧ updI S.2.1 S.1 k z < _) ∧ (0 ≤ updI S.2.2 S.1 1 z ∧ updI S.2.2 S.1 1 z ≤ _)
        by_cases hz : z = S.1
        · rw [hz, updI_s, updI_s]
          omega
        · rw [updI_o hz, updI_o hz]
          have := i2 z z0 (by omega)
          omega
      · have z1' : z < S.1 + 1 := z1
        have y1' : y < S.1 + 1 := y1
        have hs' : sme m (updI S.2.1 S.1 k z) (updI S.2.1 S.1 k y) := hs
        by_cases hz : z = S.1
        · by_cases hy : y = S.1
          · omega
          · rw [hz, updI_s, updI_o hy] at hs'
            exact absurd (sme_s hs') (f3 y y0 (by omega))
        · by_cases hy : y = S.1
          · rw [hy, updI_s, updI_o hz] at hs'
            exact absurd hs' (f3 z z0 (by omega))
          · rw [updI_o hz, updI_o hy] at hs'
            exact i3 z y z0 (by omega) y0 (by omega) hs'
    · rw [if_neg h]
      refine ⟨by show 0 ≤ S.1 ∧ S.1 ≤ ((k + 1 : Nat) : Int); omega, fun z z0 z1 => ?_, fun z y z0 z1 y0 y1 hs => i3 z y z0 z1 y0 y1 hs⟩
      have z1' : z < S.1 := z1
      have q := i2 z z0 z1'
      refine ⟨⟨q.1.1, by show S.2.1 z < _; omega⟩, ?_⟩
      show 0 ≤ updI S.2.2 (spf m S k) (S.2.2 (spf m S k) + 1) z ∧ updI S.2.2 (spf m S k) (S.2.2 (spf m S k) + 1) z ≤ _
      by_cases hz : z = spf m S k
      · rw [hz, updI_s]
        rw [hz] at q
        omega
      · rw [updI_o hz]
        omega
/-- all spots of the program -/
def spT (m : Hp) : Int × (Int → Int) × (Int → Int) := if nB m ≤ 0 then spR m 0 else spR m (nB m + 1).toNat
section
variable {n : Nat} {m : Hp}
theorem same_m {h : Hp} (e : h 122 = m 122) {i k : Int} (i0 : 0 ≤ i) (i1 : i ≤ 64) (k0 : 0 ≤ k) (k1 : k ≤ 64) : MX12_isSame i k h = some (if sme m i k then 1 else 0) := by
  unfold MX12_isSame
  rw [al1580, w32_i (x := 3 * i) (by omega), w32_i (x := 3 * k) (by omega), w32_i (x := 3 * i + 1) (by omega), w32_i (x := 3 * k + 1) (by omega), w32_i (x := 3 * i + 2) (by omega), w32_i (x := 3 * k + 2) (by omega), grd_t (by omega), grd_t (by omega), grd_t (by omega), grd_t (by omega), grd_t (by omega), grd_t (by omega), e]
  by_cases h1 : m 122 (3 * i) = m 122 (3 * k)
  · rw [if_neg (fun q => q h1)]
    by_cases h2 : m 122 (3 * i + 1) = m 122 (3 * k + 1)
    · rw [if_neg (fun q => q h2)]
      by_cases h3 : m 122 (3 * i + 2) = m 122 (3 * k + 2)
      · rw [if_neg (fun q => q h3), if_pos (c := sme m i k) ⟨h1, h2, h3⟩]
      · rw [if_pos h3, if_neg (c := sme m i k) (fun q => h3 q.2.2)]
    · rw [if_pos h2, if_neg (c := sme m i k) (fun q => h2 q.2.1)]
  · rw [if_pos h1, if_neg (c := sme m i k) (fun q => h1 q.1)]
/-- the model's spots are S -/
def MSp (h : Hp) (S : Int × (Int → Int) × (Int → Int)) : Prop := h 113 59 = S.1 ∧ ∀ x, 0 ≤ x → x < S.1 → h 141 x = S.2.1 x ∧ h 142 x = S.2.2 x
theorem sp_find {h : Hp} {S : Int × (Int → Int) × (Int → Int)} (e : h 122 = m 122) (M : MSp h S) (B : ∀ x, 0 ≤ x → x < S.1 → 0 ≤ S.2.1 x ∧ S.2.1 x ≤ 64) (hS : S.1 ≤ 65) {k : Int} (k0 : 0 ≤ k) (k1 : k ≤ 64) : ∀ (r f : Nat) (x : Int), x + r = S.1 → r < f → 0 ≤ x → BX12_laysSpots_24 n f k x h = some (k, fnd (ptb m S.2.1 (m 122 (3 * k)) (m 122 (3 * k + 1)) (m 122 (3 * k + 2))) r x)
  | 0, f + 1, x, hx, hf, x0 => by
    rw [BX12_laysSpots_24, M.1, if_pos (by omega)]
    rfl
  | r + 1, f + 1, x, hx, hf, x0 => by
    have b := B x x0 (by omega)
    rw [BX12_laysSpots_24, M.1, if_neg (by omega), al540, grd_t (by omega), (M.2 x x0 (by omega)).1, same_m e b.1 b.2 k0 k1, bndp_s]
    unfold fnd ptb
    by_cases hs : sme m (S.2.1 x) k
    · rw [if_pos hs, if_pos (by decide), if_pos (by rw [decide_eq_true_eq]; exact hs)]
    · rw [if_neg hs, if_neg (by decide), if_neg (by rw [decide_eq_true_eq]; exact hs), ltt_e, w32_i (by omega)]
      exact sp_find e M B hS k0 k1 r f (x + 1) (by omega) (by omega) (by omega)
theorem spots_l (hn : 100 ≤ n) (H : WFp m) (hp : 0 < nB m) : ∀ (r k f : Nat) (h : Hp), (k : Int) + r = nB m + 1 → r < f → KM m h → MSp h (spR m k) → ∃ h', BX12_laysSpots_7 n f (k : Int) h = some h' ∧ KM m h' ∧ MSp h' (spR m (nB m + 1).toNat)
  | r, k, f + 1, h, hk, hf, K, M => by
    have hB := H.1
    rw [BX12_laysSpots_7, show h 113 6 = nB m from K.eN]
    by_cases hd : nB m < (k : Int)
    · rw [if_pos hd]
      have : (nB m + 1).toNat = k := by omega
      rw [this]
      exact ⟨h, rfl, K, M⟩
    · rw [if_neg hd, if_neg (by omega), ltt_e]
      obtain ⟨r, rfl⟩ : ∃ r', r = r' + 1 := ⟨r - 1, by omega⟩
      have I := spR_ok (m := m) k
      obtain ⟨i1, i2, i3⟩ := I
      have nx : spR m (k + 1) = spS m (spR m k) (k : Int) := rfl
      have nxt := fun (h' : Hp) (K' : KM m h') (M' : MSp h' (spR m (k + 1))) => spots_l hn H hp r (k + 1) f h' (by omega) (by omega) K' M'
      rw [nx] at nxt
      generalize spR m k = S at *
      obtain ⟨f1, f2, f3⟩ := spf_ok (m := m) (S := S) (k := (k : Int)) i1.1
      have e : h 122 = m 122 := K.r (by decide)
      have st := sp_find (n := n) (m := m) e M (fun x x0 x1 => by have := i2 x x0 x1; omega) (by omega) (k := (k : Int)) (by omega) (by omega) S.1.toNat n 0 (by omega) (by omega) (by decide)
      have st' : BX12_laysSpots_24 n n (k : Int) 0 h = some ((k : Int), spf m S k) := st
      unfold LX12_laysSpots_24
      rw [st', bndx_s]
      show ∃ h', JX12_laysSpots_52 n (BX12_laysSpots_7 n f) (k : Int) (spf m S k) h = some h' ∧ _
      unfold JX12_laysSpots_52 JX12_laysSpots_84
      rw [M.1, al540]
      unfold spS at nxt
      have kk : w32 ((k : Int) + 1) = ((k + 1 : Nat) : Int) := by rw [w32_i (by omega)]; omega
      by_cases hz : spf m S k = S.1
      · rw [if_neg (fun q => q hz), grd_t (by omega), ltt_e, grd_t (by omega), ltt_e, ltt_e, grd_t (by omega), grd_t (by omega), ltt_e, ltt_e, kk]
        rw [if_pos hz] at nxt
        generalize spf m S k = x at *
        subst hz
        have e1 : up (up h 141 S.1 (k : Int)) 142 S.1 0 113 59 = S.1 := by rw [up_c (by decide), up_c (by decide)]; exact M.1
        rw [e1, w32_i (x := S.1 + 1) (by omega)]
        refine nxt _ (((K.put (by decide)).put (by decide)).pf (by decide) |>.put (by decide)) ⟨?_, fun z z0 z1 => ?_⟩
        · rw [up_c (by decide), up_s]
        · have z1' : z < S.1 + 1 := z1
          show _ = updI S.2.1 S.1 k z ∧ _ = updI S.2.2 S.1 1 z
          rw [up_c (by decide), up_c (by decide), up_c (by decide)]
          by_cases hq : z = S.1
          · rw [hq, updI_s, updI_s, up_s, up_s, up_c (by decide), up_s]
            exact ⟨rfl, w32_i (by decide)⟩
          · rw [updI_o hq, updI_o hq, up_i hq, up_i hq, up_c (by decide), up_i hq, up_c (by decide)]
            exact M.2 z z0 (by omega)
      · rw [if_pos hz, grd_t (by omega), grd_t (by omega), ltt_e, ltt_e, kk]
        rw [if_neg hz] at nxt
        have q := i2 _ f1.1 (show spf m S k < S.1 by omega)
        have M2 := M.2 _ f1.1 (show spf m S k < S.1 by omega)
        rw [M2.2, w32_i (x := S.2.2 (spf m S k) + 1) (by omega)]
        refine nxt _ (K.put (by decide)) ⟨?_, fun z z0 z1 => ?_⟩
        · rw [up_c (by decide)]
          exact M.1
        · show _ = S.2.1 z ∧ _ = updI S.2.2 (spf m S k) _ z
          rw [up_c (by decide)]
          by_cases hq : z = spf m S k
          · rw [hq, updI_s, up_s]
            exact ⟨M2.1, rfl⟩
          · rw [updI_o hq, up_i hq]
            exact M.2 z z0 z1
theorem laysSpots_m (hn : 100 ≤ n) (H : WFp m) : ∃ h', MX12_laysSpots n m = some h' ∧ KM m h' ∧ MSp h' (spT m) := by
  have hB := H.1
  unfold MX12_laysSpots LX12_laysSpots_7 spT
  rw [ltt_e, ltt_e]
  have K0 : KM m (up m 113 59 0) := KM.rf.pf (by decide)
  by_cases hz : nB m ≤ 0
  · rw [if_pos hz]
    obtain ⟨n', rfl⟩ : ∃ n', n = n' + 1 := ⟨n - 1, by omega⟩
    rw [BX12_laysSpots_7, show up m 113 59 0 113 6 = nB m from K0.eN]
    refine ⟨up m 113 59 0, ?_, K0, up_s, fun x x0 x1 => absurd x1 (by show ¬ x < 0; omega)⟩
    by_cases hq : nB m < 0
    · rw [if_pos hq]
    · rw [if_neg hq, if_pos hz]
  · rw [if_neg hz]
    exact spots_l hn H (by omega) (nB m + 1).toNat 0 n _ (by omega) (by omega) K0 ⟨up_s, fun x x0 x1 => absurd x1 (by show ¬ x < 0; omega)⟩
end
