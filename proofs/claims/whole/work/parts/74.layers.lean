/-! THE LAYERS. -/
def hz (m : Hp) (k : Int) : Int := m 122 (3 * k + 2)
def lcR (m : Hp) (v : Int) : Nat → Int
  | 0 => 0
  | k + 1 => lcR m v k + (if gD m k 2 = 0 ∧ hz m k = v then 1 else 0)
def llR (m : Hp) (v : Int) : Nat → Int
  | 0 => 0
  | k + 1 => llR m v k + (if gD m k 2 = 0 ∧ hz m k = v then ln m k else 0)
theorem lcR_s {m : Hp} {v : Int} {k : Nat} : lcR m v (k + 1) = lcR m v k + (if gD m k 2 = 0 ∧ hz m k = v then 1 else 0) := rfl
theorem llR_s {m : Hp} {v : Int} {k : Nat} : llR m v (k + 1) = llR m v k + (if gD m k 2 = 0 ∧ hz m k = v then ln m k else 0) := rfl
def hzb (m : Hp) (z : Int → Int) (k i : Int) : Bool := decide (z i = hz m k)
def lyF (m : Hp) (S : Int × (Int → Int)) (k : Int) : Int := fnd (hzb m S.2 k) S.1.toNat 0
def lyS (m : Hp) (S : Int × (Int → Int)) (k : Int) : Int × (Int → Int) := if gD m k 2 = 0 ∧ lyF m S k = S.1 then (S.1 + 1, updI S.2 S.1 (hz m k)) else S
def lyR (m : Hp) : Nat → Int × (Int → Int)
  | 0 => (0, fun _ => 0)
  | k + 1 => lyS m (lyR m k) (k : Int)
theorem lyR_s {m : Hp} {k : Nat} : lyR m (k + 1) = lyS m (lyR m k) (k : Int) := rfl
theorem lyF_ok {m : Hp} {S : Int × (Int → Int)} {k : Int} (h : 0 ≤ S.1) : (0 ≤ lyF m S k ∧ lyF m S k ≤ S.1) ∧ (lyF m S k < S.1 → S.2 (lyF m S k) = hz m k) ∧ ∀ z, 0 ≤ z → z < lyF m S k → S.2 z ≠ hz m k := by
  obtain ⟨i1, i2, i3⟩ := fnd_ok (p := hzb m S.2 k) S.1.toNat 0
  refine ⟨⟨i1.1, ?_⟩, fun hl => ?_, fun z z0 z1 => ?_⟩
  · have := i1.2
    unfold lyF
    omega
  · have := i2 (by unfold lyF at hl; omega)
    unfold hzb at this
    rw [decide_eq_true_eq] at this
    exact this
  · have := i3 z z0 z1
    unfold hzb at this
    rw [decide_eq_false_iff_not] at this
    exact this
/-- the layers' heights differ, and each block's height is there -/
def LYI (m : Hp) (k : Nat) (S : Int × (Int → Int)) : Prop := (0 ≤ S.1 ∧ S.1 ≤ k) ∧ (∀ x y, 0 ≤ x → x < S.1 → 0 ≤ y → y < S.1 → S.2 x = S.2 y → x = y) ∧ ∀ v, (∀ x, 0 ≤ x → x < S.1 → S.2 x ≠ v) → lcR m v k = 0 ∧ llR m v k = 0
theorem lyR_ok {m : Hp} : ∀ k : Nat, LYI m k (lyR m k)
  | 0 => ⟨⟨Int.le_refl _, Int.le_refl _⟩, fun x y h0 h1 => absurd h1 (by show ¬ x < 0; omega), fun v _ => ⟨rfl, rfl⟩⟩
  | k + 1 => by
    obtain ⟨i1, i2, i3⟩ := lyR_ok (m := m) k
    rw [lyR_s]
    generalize lyR m k = S at *
    obtain ⟨f1, f2, f3⟩ := lyF_ok (m := m) (S := S) (k := (k : Int)) i1.1
    unfold lyS
    by_cases h : gD m k 2 = 0 ∧ lyF m S k = S.1
    · rw [if_pos h]
      refine ⟨by show 0 ≤ S.1 + 1 ∧ S.1 + 1 ≤ ((k + 1 : Nat) : Int); omega, fun z y z0 z1 y0 y1 hs => ?_, fun v hv => ?_⟩
      · have z1' : z < S.1 + 1 := z1
        have y1' : y < S.1 + 1 := y1
        have hs' : updI S.2 S.1 (hz m k) z = updI S.2 S.1 (hz m k) y := hs
        by_cases hz' : z = S.1
        · by_cases hy : y = S.1
          · omega
          · rw [hz', updI_s, updI_o hy] at hs'
            exact absurd hs'.symm (f3 y y0 (by omega))
        · by_cases hy : y = S.1
          · rw [hy, updI_s, updI_o hz'] at hs'
            exact absurd hs' (f3 z z0 (by omega))
          · rw [updI_o hz', updI_o hy] at hs'
            exact i2 z y z0 (by omega) y0 (by omega) hs'
      · have hv' : ∀ x, 0 ≤ x → x < S.1 + 1 → updI S.2 S.1 (hz m k) x ≠ v := hv
        have v0 := i3 v (fun x x0 x1 => by
          have := hv' x x0 (by omega)
          rw [updI_o (by omega)] at this
          exact this)
        have v1 := hv' S.1 i1.1 (by omega)
        rw [updI_s] at v1
        rw [lcR_s, llR_s, if_neg (fun q => v1 q.2), if_neg (fun q => v1 q.2)]
        omega
    · rw [if_neg h]
      refine ⟨by omega, i2, fun v hv => ?_⟩
      have v0 := i3 v hv
      have v1 : ¬ (gD m k 2 = 0 ∧ hz m k = v) := fun q => by
        by_cases hl : lyF m S k < S.1
        · exact hv _ f1.1 hl ((f2 hl).trans q.2)
        · exact h ⟨q.1, by omega⟩
      rw [lcR_s, llR_s, if_neg v1, if_neg v1]
      omega
theorem lsum_ok {m : Hp} (H : WFp m) {v : Int} : ∀ k : Nat, (k : Int) ≤ nB m → (0 ≤ lcR m v k ∧ lcR m v k ≤ k) ∧ (0 ≤ llR m v k ∧ llR m v k ≤ 346410 * k)
  | 0, _ => ⟨⟨Int.le_refl _, Int.le_refl _⟩, Int.le_refl _, Int.le_refl _⟩
  | k + 1, hk => by
    have ih := lsum_ok H (v := v) k (by omega)
    have l := (wf_blk H (b := (k : Int)) (by omega) (by omega)).1
    rw [lcR_s, llR_s]
    split <;> omega
def layerS (m : Hp) (x y : Int) : Int :=
  if x = -1 then (lyR m (nB m).toNat).1 else
  if (0 ≤ x ∧ x < (lyR m (nB m).toNat).1) ∧ (0 ≤ y ∧ y ≤ 2) then (if y = 0 then (lyR m (nB m).toNat).2 x else if y = 1 then lcR m ((lyR m (nB m).toNat).2 x) (nB m).toNat else llR m ((lyR m (nB m).toNat).2 x) (nB m).toNat) else -2147483648
section
variable {n : Nat} {m : Hp}
theorem isFlat_m {h : Hp} (H : WFp h) {b : Int} (b0 : 0 ≤ b) (b1 : b < nB h) : MX12_isFlat b h = some (if gD h b 2 = 0 then 1 else 0) := by
  unfold MX12_isFlat
  rw [goes_m H b0 b1 (by decide) (by decide), bndp_s]
  by_cases hz : gD h b 2 = 0
  · rw [if_neg (fun q => q hz), if_pos hz]
  · rw [if_pos hz, if_neg hz]
theorem height_m {h : Hp} (e : h 122 = m 122) {b : Int} (b0 : 0 ≤ b) (b1 : b ≤ 64) : MX12_heightOf b h = some (hz m b) := by
  unfold MX12_heightOf hz
  rw [w32_i (x := 3 * b) (by omega), w32_i (x := 3 * b + 2) (by omega), al1580, grd_t (by omega), e]
/-- the model's layers are S -/
def MLy (h : Hp) (S : Int × (Int → Int)) : Prop := ∀ x, 0 ≤ x → x < S.1 → h 145 x = S.2 x
theorem ly_in {h : Hp} {S : Int × (Int → Int)} (e : h 122 = m 122) (M : MLy h S) (hS : S.1 ≤ 64) {k : Int} (k0 : 0 ≤ k) (k1 : k ≤ 64) : ∀ (r f : Nat) (x : Int), x + r = S.1 → r < f → 0 ≤ x → BX12_laysLayers_21 n (f + 1) S.1 k 1 x h = some (S.1, k, if fnd (hzb m S.2 k) r x = S.1 then 1 else 0)
  | 0, f, x, hx, hf, x0 => by
    rw [BX12_laysLayers_21, if_pos (by omega)]
    have e0 : fnd (hzb m S.2 k) 0 x = S.1 := by show x = S.1; omega
    rw [if_pos e0]
  | r + 1, f, x, hx, hf, x0 => by
    obtain ⟨f, rfl⟩ : ∃ f', f = f' + 1 := ⟨f - 1, by omega⟩
    have ih := ly_in e M hS k0 k1 r f (x + 1) (by omega) (by omega) (by omega)
    have hv := fnd_v (p := hzb m S.2 k) (r := r) (x := x + 1) (k := S.1) (by omega)
    rw [BX12_laysLayers_21, if_neg (by omega), if_neg (by decide), al532, grd_t (by omega), height_m e k0 k1, bndp_s, M x x0 (by omega), fnd_s]
    unfold JX12_laysLayers_51
    rw [ltt_e, ltt_e, ltt_e, ltt_e, w32_i (x := x + 1) (by omega)]
    have hb : hzb m S.2 k x = decide (S.2 x = hz m k) := rfl
    rw [hb]
    by_cases hl : S.2 x = hz m k
    · rw [if_pos hl, if_pos (show decide (S.2 x = hz m k) = true by rw [decide_eq_true_eq]; exact hl), if_neg (show ¬ x = S.1 by omega), BX12_laysLayers_21]
      by_cases hq : S.1 ≤ x + 1
      · rw [if_pos hq]
      · rw [if_neg hq, if_pos rfl]
    · rw [if_neg hl, if_neg (show ¬ decide (S.2 x = hz m k) = true by rw [decide_eq_true_eq]; exact hl)]
      exact ih
theorem lays_ly (hn : 200 ≤ n) (H : WFp m) : ∀ (r k f : Nat) (h : Hp), (k : Int) + r = nB m → r < f → KM m h → MLy h (lyR m k) → ∃ h', BX12_laysLayers_4 n f (lyR m k).1 (k : Int) h = some ((lyR m (nB m).toNat).1, h') ∧ KM m h' ∧ MLy h' (lyR m (nB m).toNat)
  | r, k, f + 1, h, hk, hf, K, M => by
    have hB := H.1
    rw [BX12_laysLayers_4, show h 113 6 = nB m from K.eN]
    by_cases hd : nB m ≤ (k : Int)
    · have : (nB m).toNat = k := by omega
      rw [if_pos hd, this]
      exact ⟨h, rfl, K, M⟩
    · obtain ⟨r, rfl⟩ : ∃ r', r = r' + 1 := ⟨r - 1, by omega⟩
      have nxt := fun (h' : Hp) (K' : KM m h') (M' : MLy h' (lyR m (k + 1))) => lays_ly hn H r (k + 1) f h' (by omega) (by omega) K' M'
      rw [lyR_s] at nxt
      obtain ⟨i1, i2, i3⟩ := lyR_ok (m := m) k
      generalize lyR m k = S at *
      have hf' := lyF_ok (m := m) (S := S) (k := (k : Int)) i1.1
      have e : h 122 = m 122 := K.r (by decide)
      obtain ⟨n', en⟩ : ∃ n', n = n' + 1 := ⟨n - 1, by omega⟩
      have st : BX12_laysLayers_21 n (n' + 1) S.1 (k : Int) 1 0 h = some (S.1, (k : Int), if fnd (hzb m S.2 (k : Int)) S.1.toNat 0 = S.1 then 1 else 0) := ly_in e M (by omega) (by omega) (by omega) S.1.toNat n' 0 (by omega) (by omega) (by decide)
      have st' : BX12_laysLayers_21 n n S.1 (k : Int) 1 0 h = some (S.1, (k : Int), if lyF m S (k : Int) = S.1 then 1 else 0) := by
        rw [← en] at st
        exact st
      have sz : BX12_laysLayers_21 n n S.1 (k : Int) 0 0 h = some (S.1, (k : Int), 0) := by
        have : BX12_laysLayers_21 n (n' + 1) S.1 (k : Int) 0 0 h = some (S.1, (k : Int), 0) := by
          rw [BX12_laysLayers_21]
          by_cases hq : S.1 ≤ 0
          · rw [if_pos hq]
          · rw [if_neg hq, if_pos rfl]
        rw [← en] at this
        exact this
      have g2 : gD h = gD m := K.eG
      have eH : MX12_isFlat (k : Int) h = some (if gD m k 2 = 0 then 1 else 0) := by
        rw [isFlat_m (K.wf H) (by omega) (by rw [K.eN]; omega), g2]
      have hS : 0 ≤ S.1 ∧ S.1 < 64 := by omega
      have hk64 : 0 ≤ (k : Int) ∧ (k : Int) ≤ 64 := by omega
      have hx : w32 (S.1 + 1) = S.1 + 1 := w32_i (by omega)
      have e1 : w32 ((k : Int) + 1) = ((k + 1 : Nat) : Int) := by rw [w32_i (by omega)]; omega
      unfold lyS at nxt
      rw [if_neg hd, eH, bndp_s, ltt_e, ltt_e]
      unfold LX12_laysLayers_21
      by_cases hfl : gD m k 2 = 0
      · rw [if_pos hfl, st', bndx_s]
        show ∃ h', JX12_laysLayers_58 n (BX12_laysLayers_4 n f) S.1 (k : Int) (if lyF m S (k : Int) = S.1 then 1 else 0) h = some _ ∧ _
        unfold JX12_laysLayers_58
        by_cases hz' : lyF m S (k : Int) = S.1
        · rw [if_pos hz', if_neg (by decide), height_m e hk64.1 hk64.2, bndp_s, al532, grd_t hS, ltt_e, ltt_e, ltt_e, hx, e1]
          rw [if_pos ⟨hfl, hz'⟩] at nxt
          clear e1
          refine nxt _ (K.put (by decide)) (fun x x0 x1 => ?_)
          have x1' : x < S.1 + 1 := x1
          show _ = updI S.2 S.1 (hz m k) x
          by_cases hq : x = S.1
          · rw [hq, updI_s, up_s]
          · rw [updI_o hq, up_i hq]
            exact M x x0 (by omega)
        · rw [if_neg hz', if_pos rfl, ltt_e, e1]
          rw [if_neg (fun q => hz' q.2)] at nxt
          exact nxt h K M
      · rw [if_neg hfl, sz, bndx_s]
        show ∃ h', JX12_laysLayers_58 n (BX12_laysLayers_4 n f) S.1 (k : Int) 0 h = some _ ∧ _
        unfold JX12_laysLayers_58
        rw [if_pos rfl, ltt_e, e1]
        rw [if_neg (fun q => hfl q.1)] at nxt
        exact nxt h K M
theorem layer_l {h : Hp} (H : WFp m) (K : KM m h) {x y v : Int} (hx : 0 ≤ x ∧ x < 64) (hv : h 145 x = v) (hy : y = 1 ∨ y = 2) : ∀ (r k f : Nat), (k : Int) + r = nB m → r < f → BX12_layer_58 n f x y (if y = 1 then lcR m v k else llR m v k) (k : Int) h = some (if y = 1 then lcR m v (nB m).toNat else llR m v (nB m).toNat, h)
  | r, k, f + 1, hk, hf => by
    have hB := H.1
    rw [BX12_layer_58, show h 113 6 = nB m from K.eN]
    by_cases hd : nB m ≤ (k : Int)
    · have : (nB m).toNat = k := by omega
      rw [if_pos hd, this]
    · obtain ⟨r, rfl⟩ : ∃ r', r = r' + 1 := ⟨r - 1, by omega⟩
      have ih := layer_l H K hx hv hy r (k + 1) f (by omega) (by omega)
      have hs := lsum_ok H (v := v) k (by omega)
      have l := (wf_blk H (b := (k : Int)) (by omega) (by omega)).1
      have eH : MX12_isFlat (k : Int) h = some (if gD m k 2 = 0 then 1 else 0) := by
        rw [isFlat_m (K.wf H) (by omega) (by rw [K.eN]; omega), K.eG]
      have hk64 : 0 ≤ (k : Int) ∧ (k : Int) < 64 := by omega
      have eL : h 125 (k : Int) = ln m k := by rw [K.r (c := 125) (by decide)]; rfl
      have a1 : w32 (lcR m v k + 1) = lcR m v k + 1 := w32_i (by omega)
      have a2 : w32 (llR m v k + ln m k) = llR m v k + ln m k := w32_i (by omega)
      have e1 : w32 ((k : Int) + 1) = ((k + 1 : Nat) : Int) := by rw [w32_i (by omega)]; omega
      rw [lcR_s, llR_s] at ih
      rw [if_neg hd, eH, bndp_s, e1]
      simp only [ltt_e]
      by_cases hfl : gD m k 2 = 0
      · rw [if_pos hfl, if_neg (by decide), height_m (m := m) (K.r (by decide)) hk64.1 (Int.le_of_lt hk64.2), bndp_s, al532, grd_t hx, hv]
        by_cases hh : hz m k = v
        · rw [if_neg (fun q => q hh), grd_t hk64, eL]
          simp only [if_pos (show (gD m (k : Int) 2 = 0 ∧ hz m (k : Int) = v) from ⟨hfl, hh⟩)] at ih
          by_cases h1 : y = 1
          · simp only [if_pos h1] at ih ⊢
            rw [if_neg (fun q => q h1), a1]
            exact ih
          · simp only [if_neg h1] at ih ⊢
            rw [if_pos h1, a2]
            exact ih
        · rw [if_pos hh]
          simp only [if_neg (show ¬ (gD m (k : Int) 2 = 0 ∧ hz m (k : Int) = v) from fun q => hh q.2), Int.add_zero] at ih
          exact ih
      · rw [if_neg hfl, if_pos rfl]
        simp only [if_neg (show ¬ (gD m (k : Int) 2 = 0 ∧ hz m (k : Int) = v) from fun q => hfl q.1), Int.add_zero] at ih
        exact ih
theorem layer_b (hn : 200 ≤ n) (H : WFp m) (x y : Int) : ∃ h', MX12_layer n x y m = some (layerS m x y, h') ∧ KM m h' := by
  have hB := H.1
  have hT := lyR_ok (m := m) (nB m).toNat
  obtain ⟨h', e, K, M⟩ := lays_ly (n := n) hn H (nB m).toNat 0 n m (by omega) (by omega) KM.rf (fun x x0 x1 => absurd x1 (by show ¬ x < 0; omega))
  have e' : MX12_laysLayers n m = some ((lyR m (nB m).toNat).1, h') := by
    unfold MX12_laysLayers LX12_laysLayers_4
    rw [ltt_e, ltt_e]
    exact e
  refine ⟨h', ?_, K⟩
  unfold MX12_layer layerS
  rw [e', bnd_s, ltt_e]
  have hT1 := hT.1
  by_cases h1 : x = -1
  · rw [if_neg (fun q => q h1), if_pos h1]
  · rw [if_pos h1, if_neg h1, w32_i (x := (lyR m (nB m).toNat).1 - 1) (by omega), in_m, bndp_s]
    by_cases h2 : 0 ≤ x ∧ x ≤ (lyR m (nB m).toNat).1 - 1
    · rw [if_pos h2, if_neg (by decide), in_m, bndp_s]
      by_cases h3 : 0 ≤ y ∧ y ≤ 2
      · rw [if_pos h3, if_pos (by decide), if_pos (c := (0 ≤ x ∧ x < (lyR m (nB m).toNat).1) ∧ (0 ≤ y ∧ y ≤ 2)) (by omega)]
        by_cases h4 : y = 0
        · rw [if_neg (fun q => q h4), if_pos h4, al532, grd_t (by omega), M x h2.1 (by omega)]
        · rw [if_pos h4, if_neg h4, ltt_e, ltt_e]
          have := layer_l (n := n) H K (x := x) (y := y) (by omega) (M x h2.1 (by omega)) (by omega) (nB m).toNat 0 n (by omega) (by omega)
          have z : (if y = 1 then lcR m ((lyR m (nB m).toNat).2 x) 0 else llR m ((lyR m (nB m).toNat).2 x) 0) = 0 := by split <;> rfl
          rw [z] at this
          exact this
      · rw [if_neg h3, if_neg (by decide), if_neg (fun q => h3 q.2)]
    · rw [if_neg h2, if_pos rfl, if_neg (by omega)]
end
