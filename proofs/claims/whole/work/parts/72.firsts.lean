/-! THE FIRST LIKE. -/
abbrev lik (m : Hp) (i k : Int) : Prop := (sme m i k ∧ sme m (i + 1) (k + 1)) ∨ (sme m i (k + 1) ∧ sme m (i + 1) k)
def likb (m : Hp) (k i : Int) : Bool := decide (lik m i k)
def flk (m : Hp) (k : Int) : Int := fnd (likb m k) k.toNat 0
def twR (m : Hp) : Nat → Int
  | 0 => 0
  | k + 1 => twR m k + (if flk m k = k then 0 else 1)
theorem twR_s {m : Hp} {k : Nat} : twR m (k + 1) = twR m k + (if flk m k = k then 0 else 1) := rfl
theorem twR_ok {m : Hp} : ∀ k : Nat, 0 ≤ twR m k ∧ twR m k ≤ k
  | 0 => ⟨Int.le_refl _, Int.le_refl _⟩
  | k + 1 => by
    have := twR_ok (m := m) k
    unfold twR
    split <;> omega
def twiceS (m : Hp) (x : Int) : Int := if x = -1 then twR m (nB m).toNat else if 0 ≤ x ∧ x < nB m then flk m x else -1
theorem lik_r {m : Hp} {k : Int} : lik m k k := Or.inl ⟨⟨rfl, rfl, rfl⟩, rfl, rfl, rfl⟩
section
variable {n : Nat} {m : Hp}
theorem isLike_m (e : m 122 = m 122) {i k : Int} (i0 : 0 ≤ i) (i1 : i < 64) (k0 : 0 ≤ k) (k1 : k < 64) : MX12_isLike i k m = some (if lik m i k then 1 else 0) := by
  unfold MX12_isLike JX12_isLike_22
  rw [w32_i (x := i + 1) (by omega), w32_i (x := k + 1) (by omega), same_m e i0 (by omega) k0 (by omega), same_m e (i := i + 1) (k := k + 1) (by omega) (by omega) (by omega) (by omega), same_m e (i := i) (k := k + 1) i0 (by omega) (by omega) (by omega), same_m e (i := i + 1) (k := k) (by omega) (by omega) k0 (by omega)]
  simp only [bndp_s]
  by_cases a1 : sme m i k
  · by_cases a2 : sme m (i + 1) (k + 1)
    · rw [if_pos a1, if_neg (by decide), if_pos a2, if_pos (by decide), if_pos (c := lik m i k) (Or.inl ⟨a1, a2⟩)]
    · rw [if_pos a1, if_neg (by decide), if_neg a2, if_neg (by decide)]
      by_cases a3 : sme m i (k + 1)
      · by_cases a4 : sme m (i + 1) k
        · rw [if_pos a3, if_neg (by decide), if_pos a4, if_neg (by decide), if_pos (c := lik m i k) (Or.inr ⟨a3, a4⟩)]
        · rw [if_pos a3, if_neg (by decide), if_neg a4, if_pos (by decide), if_neg (c := lik m i k) (fun q => q.elim (fun q => a2 q.2) (fun q => a4 q.2))]
      · rw [if_neg a3, if_pos (by decide), if_neg (c := lik m i k) (fun q => q.elim (fun q => a2 q.2) (fun q => a3 q.1))]
  · rw [if_neg a1, if_pos (by decide)]
    by_cases a3 : sme m i (k + 1)
    · by_cases a4 : sme m (i + 1) k
      · rw [if_pos a3, if_neg (by decide), if_pos a4, if_neg (by decide), if_pos (c := lik m i k) (Or.inr ⟨a3, a4⟩)]
      · rw [if_pos a3, if_neg (by decide), if_neg a4, if_pos (by decide), if_neg (c := lik m i k) (fun q => q.elim (fun q => a1 q.1) (fun q => a4 q.2))]
    · rw [if_neg a3, if_pos (by decide), if_neg (c := lik m i k) (fun q => q.elim (fun q => a1 q.1) (fun q => a3 q.1))]
theorem first_l {k : Int} (k0 : 0 ≤ k) (k1 : k < 64) : ∀ (r f : Nat) (x : Int), x + r = k → r < f → 0 ≤ x → BX12_firstLike_2 n f k x m = some (fnd (likb m k) r x)
  | 0, f + 1, x, hx, hf, x0 => by
    have e : x = k := by omega
    subst e
    rw [BX12_firstLike_2, isLike_m rfl k0 k1 k0 k1, bndp_s, if_pos (c := lik m x x) lik_r, if_pos (by decide)]
    rfl
  | r + 1, f + 1, x, hx, hf, x0 => by
    have ih := first_l k0 k1 r f (x + 1) (by omega) (by omega) (by omega)
    rw [BX12_firstLike_2, isLike_m rfl x0 (by omega) k0 k1, bndp_s, ltt_e, w32_i (x := x + 1) (by omega), ih, fnd_s]
    unfold likb
    by_cases hl : lik m x k
    · rw [if_pos hl, if_pos (by decide), if_pos (by rw [decide_eq_true_eq]; exact hl)]
    · rw [if_neg hl, if_neg (by decide), if_neg (by rw [decide_eq_true_eq]; exact hl)]
theorem first_m (hn : 100 ≤ n) {k : Int} (k0 : 0 ≤ k) (k1 : k < 64) : MX12_firstLike n k m = some (flk m k) := by
  unfold MX12_firstLike LX12_firstLike_2
  rw [ltt_e]
  exact first_l k0 k1 k.toNat n 0 (by omega) (by omega) (by decide)
theorem twice_l (hn : 100 ≤ n) (H : WFp m) : ∀ (r k f : Nat), (k : Int) + r = nB m → r < f → BX12_twice_35 n f (twR m k) (k : Int) m = some (twR m (nB m).toNat)
  | r, k, f + 1, hk, hf => by
    have hB := H.1
    rw [BX12_twice_35]
    by_cases hd : m 113 6 ≤ (k : Int)
    · have hd' : nB m ≤ (k : Int) := hd
      have e : (nB m).toNat = k := by omega
      rw [if_pos hd, e]
    · have hd' : ¬ nB m ≤ (k : Int) := hd
      obtain ⟨r, rfl⟩ : ∃ r', r = r' + 1 := ⟨r - 1, by omega⟩
      have ih := twice_l hn H r (k + 1) f (by omega) (by omega)
      have ht := twR_ok (m := m) k
      rw [if_neg hd, first_m hn (by omega) (by omega), bndp_s]
      unfold JX12_twice_58 MX12_truth
      have e1 : w32 ((k : Int) + 1) = ((k + 1 : Nat) : Int) := by rw [w32_i (by omega)]; omega
      rw [if_pos rfl, if_neg (show ¬ (1 : Int) = 0 by decide), bndp_s, bndp_s, ltt_e, ltt_e, ltt_e, ltt_e, e1, w32_i (x := twR m k + 0) (by omega), w32_i (x := twR m k + 1) (by omega)]
      rw [twR_s] at ih
      by_cases hf : flk m k = k
      · rw [if_pos hf]
        rw [if_pos hf] at ih
        exact ih
      · rw [if_neg hf]
        rw [if_neg hf] at ih
        exact ih
theorem twice_b (hn : 100 ≤ n) (H : WFp m) (x : Int) : MX12_twice n x m = some (twiceS m x) := by
  have hB := H.1
  unfold MX12_twice twiceS
  rw [show m 113 6 = nB m from rfl, w32_i (by omega), in_m, bndp_s]
  by_cases h1 : x = -1
  · rw [if_pos (show -1 ≤ x ∧ x ≤ nB m - 1 by omega), if_pos (by decide), if_pos h1, if_pos h1, ltt_e, ltt_e]
    exact twice_l hn H (nB m).toNat 0 n (by omega) (by omega)
  · rw [if_neg h1]
    by_cases h2 : 0 ≤ x ∧ x < nB m
    · rw [if_pos (show -1 ≤ x ∧ x ≤ nB m - 1 by omega), if_pos (by decide), if_neg h1, if_pos h2, first_m hn h2.1 (by omega), bndp_s]
    · rw [if_neg (show ¬ (-1 ≤ x ∧ x ≤ nB m - 1) by omega), if_neg (by decide), if_neg h1, if_neg h2]
theorem CSp.mv {h g : Hp} {S : Int × (Int → Int) × (Int → Int)} (C : CSp m g S) (hw : ∀ c, 40 < c → c < 45 → h c = g c) (e : h 39 4 = g 39 4) : CSp m h S := by
  refine ⟨e.trans C.1, fun x x0 x1 => ?_⟩
  rw [hw (41 + 0) (by decide) (by decide), hw (41 + 1) (by decide) (by decide), hw (41 + 2) (by decide) (by decide), hw 44 (by decide) (by decide)]
  exact C.2 x x0 x1
/-- the class's firsts of the blocks before k -/
def CFi (m h : Hp) (k : Nat) : Prop := (∀ i, 0 ≤ i → i < (k : Int) → h 46 i = flk m i) ∧ h 39 6 = twR m k
theorem leg_c {h : Hp} (H : WFp m) (hp : 0 < nB m) (O : CSo m h (spT m) (nB m + 1)) {i k : Int} (i0 : 0 ≤ i) (i1 : i < nB m) (k0 : 0 ≤ k) (k1 : k < nB m) : MX7_isSameLeg i k h = some (if lik m i k then 1 else 0) := by
  have hB := H.1
  have key : ∀ a b : Int, 0 ≤ a → a ≤ nB m → 0 ≤ b → b ≤ nB m → (h 45 a = h 45 b ↔ sme m a b) := fun a b a0 a1 b0 b1 => by
    have oa := O a a0 (by omega)
    have ob := O b b0 (by omega)
    have D : ∀ x y, 0 ≤ x → x < (spT m).1 → 0 ≤ y → y < (spT m).1 → sme m ((spT m).2.1 x) ((spT m).2.1 y) → x = y := by
      unfold spT
      rw [if_neg (by omega)]
      exact (spR_ok (nB m + 1).toNat).2.2
    constructor
    · intro e
      rw [e] at oa
      exact sme_t (sme_s oa.2) ob.2
    · intro s
      exact D _ _ oa.1.1 oa.1.2 ob.1.1 ob.1.2 (sme_t (sme_t oa.2 s) (sme_s ob.2))
  have g1 := key i k i0 (by omega) k0 (by omega)
  have g2 := key (i + 1) (k + 1) (by omega) (by omega) (by omega) (by omega)
  have g3 := key i (k + 1) i0 (by omega) (by omega) (by omega)
  have g4 := key (i + 1) k (by omega) (by omega) k0 (by omega)
  unfold MX7_isSameLeg JX7_isSameLeg_34
  rw [al540, w32_i (x := i + 1) (by omega), w32_i (x := k + 1) (by omega)]
  have a1 : 0 ≤ i ∧ i < 65 := by omega
  have a2 : 0 ≤ k ∧ k < 65 := by omega
  have a3 : 0 ≤ i + 1 ∧ i + 1 < 65 := by omega
  have a4 : 0 ≤ k + 1 ∧ k + 1 < 65 := by omega
  simp only [grd_t a1, grd_t a2, grd_t a3, grd_t a4]
  clear O
  by_cases b1 : sme m i k
  · rw [if_neg (fun q => q (g1.mpr b1))]
    by_cases b2 : sme m (i + 1) (k + 1)
    · rw [if_pos (g2.mpr b2), if_pos (c := lik m i k) (Or.inl ⟨b1, b2⟩)]
    · rw [if_neg (fun q => b2 (g2.mp q))]
      by_cases b3 : sme m i (k + 1)
      · rw [if_neg (fun q => q (g3.mpr b3))]
        by_cases b4 : sme m (i + 1) k
        · rw [if_neg (fun q => q (g4.mpr b4)), if_pos (c := lik m i k) (Or.inr ⟨b3, b4⟩)]
        · rw [if_pos (fun q => b4 (g4.mp q)), if_neg (c := lik m i k) (fun q => q.elim (fun q => b2 q.2) (fun q => b4 q.2))]
      · rw [if_pos (fun q => b3 (g3.mp q)), if_neg (c := lik m i k) (fun q => q.elim (fun q => b2 q.2) (fun q => b3 q.1))]
  · rw [if_pos (fun q => b1 (g1.mp q))]
    by_cases b3 : sme m i (k + 1)
    · rw [if_neg (fun q => q (g3.mpr b3))]
      by_cases b4 : sme m (i + 1) k
      · rw [if_neg (fun q => q (g4.mpr b4)), if_pos (c := lik m i k) (Or.inr ⟨b3, b4⟩)]
      · rw [if_pos (fun q => b4 (g4.mp q)), if_neg (c := lik m i k) (fun q => q.elim (fun q => b1 q.1) (fun q => b4 q.2))]
    · rw [if_pos (fun q => b3 (g3.mp q)), if_neg (c := lik m i k) (fun q => q.elim (fun q => b1 q.1) (fun q => b3 q.1))]
end
