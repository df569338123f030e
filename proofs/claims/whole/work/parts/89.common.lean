/-! LEGS THAT ARE KEPT: how many there are here. -/
def kl (m : Hp) (k i z : Int) : Int := m 143 (6 * (64 * k + i) + z)
abbrev mtF (m : Hp) (k i b t : Int) : Prop := ∀ z, 0 ≤ z → z < 6 → kl m k i z = m 122 (3 * b + (z + t) % 6)
abbrev mt (m : Hp) (k i b : Int) : Prop := mtF m k i b 0 ∨ mtF m k i b 3
abbrev mtE (m : Hp) (k i b : Int) (x : Int) : Prop := ∃ j : Int, x ≤ j ∧ j < i ∧ mt m k j b
noncomputable def cmR (m : Hp) (k c : Int) : Nat → Int
  | 0 => 0
  | b + 1 => cmR m k c b + (if flk m b = b then ci (mtE m k c b 0) 1 0 else 0)
theorem cmR_s {m : Hp} {k c : Int} {b : Nat} : cmR m k c (b + 1) = cmR m k c b + (if flk m b = b then ci (mtE m k c b 0) 1 0 else 0) := rfl
theorem ci_01 (p : Prop) : (ci p (1 : Int) 0 = 0 ∧ ¬ p) ∨ (ci p (1 : Int) 0 = 1 ∧ p) := by
  by_cases h : p
  · exact Or.inr ⟨ci_t h, h⟩
  · exact Or.inl ⟨ci_f h, h⟩
theorem cmR_b {m : Hp} {k c : Int} : ∀ b : Nat, 0 ≤ cmR m k c b ∧ cmR m k c b ≤ b
  | 0 => ⟨Int.le_refl _, Int.le_refl _⟩
  | b + 1 => by
    have := cmR_b (m := m) (k := k) (c := c) b
    rw [cmR_s]
    rcases ci_01 (mtE m k c b 0) with h | h <;> split <;> omega
noncomputable def commonS (m : Hp) (k : Int) : Int := if 0 ≤ k ∧ k ≤ 1 then (if m 144 k = -1 then -2 else cmR m k (m 144 k) (nB m).toNat) else -1
/-- the class's kept legs are the model's -/
def RK (m h : Hp) : Prop := ∀ k : Int, 0 ≤ k → k ≤ 1 → (h (94 + 8 * k) 1 = if m 144 k = -1 then -2 else m 144 k) ∧ (-1 ≤ m 144 k ∧ m 144 k ≤ 64) ∧ ∀ i z : Int, 0 ≤ i → i < m 144 k → 0 ≤ z → z < 6 → h (94 + 8 * k + 2 + z) i = kl m k i z
theorem mt6 {m : Hp} {k i b t : Int} {p : Int → Prop} (hp : ∀ z, p z ↔ kl m k i z = m 122 (3 * b + (z + t) % 6)) : (((p 0 ∧ p 1 ∧ p 2) ∧ p 3 ∧ p 4 ∧ p 5) ↔ mtF m k i b t) := by
  constructor
  · rintro ⟨⟨p0, p1, p2⟩, p3, p4, p5⟩ z z0 z1
    rcases (by omega : z = 0 ∨ z = 1 ∨ z = 2 ∨ z = 3 ∨ z = 4 ∨ z = 5) with e | e | e | e | e | e <;> subst e
    · exact (hp 0).mp p0
    · exact (hp 1).mp p1
    · exact (hp 2).mp p2
    · exact (hp 3).mp p3
    · exact (hp 4).mp p4
    · exact (hp 5).mp p5
  · intro A
    exact ⟨⟨(hp 0).mpr (A 0 (by decide) (by decide)), (hp 1).mpr (A 1 (by decide) (by decide)), (hp 2).mpr (A 2 (by decide) (by decide))⟩, (hp 3).mpr (A 3 (by decide) (by decide)), (hp 4).mpr (A 4 (by decide) (by decide)), (hp 5).mpr (A 5 (by decide) (by decide))⟩
section
variable {n : Nat} {m : Hp}
theorem isEnd_c {h : Hp} {w x0 i first p : Int} (H : WFp m) (R : RW m h w) (hf : first = 0 ∨ first = 3) (i0 : 0 ≤ i) (i1 : i < 64) (p0 : 0 ≤ p) (p1 : p ≤ nB m) : MX2_isEnd x0 i first w p h = some (if h (x0 + 2 + first) i = m 122 (3 * p) ∧ h (x0 + 2 + (first + 1)) i = m 122 (3 * p + 1) ∧ h (x0 + 2 + (first + 2)) i = m 122 (3 * p + 2) then 1 else 0) := by
  have hB := H.1
  have r0 := R.2.2.1 0 p (by decide) (by decide) p0 p1
  have r1 := R.2.2.1 1 p (by decide) (by decide) p0 p1
  have r2 := R.2.2.1 2 p (by decide) (by decide) p0 p1
  unfold MX2_isEnd
  rw [al74, al532, al50, al540, grd_t (by omega), grd_t (by omega), grd_t (by decide), grd_t (by omega), w32_i (x := first + 1) (by omega), w32_i (x := first + 2) (by omega), grd_t (by omega), grd_t (by omega), grd_t (by decide), grd_t (by omega), grd_t (by omega), grd_t (by omega), grd_t (by decide), grd_t (by omega), r0, r1, r2, show x0 + 1 + 1 + first = x0 + 2 + first by omega, show x0 + 1 + 1 + (first + 1) = x0 + 2 + (first + 1) by omega, show x0 + 1 + 1 + (first + 2) = x0 + 2 + (first + 2) by omega, show 3 * p + 0 = 3 * p by omega]
  by_cases a : h (x0 + 2 + first) i = m 122 (3 * p)
  · rw [if_neg (fun q => q a)]
    by_cases b : h (x0 + 2 + (first + 1)) i = m 122 (3 * p + 1)
    · rw [if_neg (fun q => q b)]
      by_cases c : h (x0 + 2 + (first + 2)) i = m 122 (3 * p + 2)
      · rw [if_neg (fun q => q c), if_pos ⟨a, b, c⟩]
      · rw [if_pos c, if_neg (fun q => c q.2.2)]
    · rw [if_pos b, if_neg (fun q => b q.2.1)]
  · rw [if_pos a, if_neg (fun q => a q.1)]
theorem holds_l {h : Hp} {w k c b : Int} (H : WFp m) (R : RW m h w) (hk : 0 ≤ k ∧ k ≤ 1) (e1 : h (94 + 8 * k) 1 = c) (c1 : c ≤ 64) (V : ∀ i z : Int, 0 ≤ i → i < c → 0 ≤ z → z < 6 → h (94 + 8 * k + 2 + z) i = kl m k i z) (b0 : 0 ≤ b) (b1 : b < nB m) : ∀ (r f : Nat) (i : Int), i + r = max i c → r < f → 0 ≤ i → BX2_holds_2 n f (94 + 8 * k) w b i h = some (ci (mtE m k c b i) 1 0)
  | 0, f + 1, i, hi, hf, i0 => by
    rw [BX2_holds_2, e1, if_pos (by omega), ci_f (fun q => by
      obtain ⟨j, j0, j1, -⟩ := q
      omega)]
  | r + 1, f + 1, i, hi, hf, i0 => by
    have hB := H.1
    have ic : i < c := by omega
    have v := V i
    have nx := holds_l H R hk e1 c1 V b0 b1 r f (i + 1) (by omega) (by omega) (by omega)
    have m0 : ((h (94 + 8 * k + 2 + 0) i = m 122 (3 * b) ∧ h (94 + 8 * k + 2 + (0 + 1)) i = m 122 (3 * b + 1) ∧ h (94 + 8 * k + 2 + (0 + 2)) i = m 122 (3 * b + 2)) ∧ (h (94 + 8 * k + 2 + 3) i = m 122 (3 * (b + 1)) ∧ h (94 + 8 * k + 2 + (3 + 1)) i = m 122 (3 * (b + 1) + 1) ∧ h (94 + 8 * k + 2 + (3 + 2)) i = m 122 (3 * (b + 1) + 2))) ↔ mtF m k i b 0 := by
      have := mt6 (m := m) (k := k) (i := i) (b := b) (t := 0) (p := fun z => kl m k i z = m 122 (3 * b + (z + 0) % 6)) (fun z => Iff.rfl)
      rw [← this, v 0 i0 ic (by decide) (by decide), v (0 + 1) i0 ic (by decide) (by decide), v (0 + 2) i0 ic (by decide) (by decide), v 3 i0 ic (by decide) (by decide), v (3 + 1) i0 ic (by decide) (by decide), v (3 + 2) i0 ic (by decide) (by decide), show 3 * (b + 1) = 3 * b + 3 by omega, show 3 * b + 3 + 1 = 3 * b + 4 by omega, show 3 * b + 3 + 2 = 3 * b + 5 by omega]
      show _ ↔ ((kl m k i 0 = m 122 (3 * b + 0) ∧ _) ∧ _)
      rw [show 3 * b + 0 = 3 * b by omega]
      exact Iff.rfl
    have m3 : ((h (94 + 8 * k + 2 + 0) i = m 122 (3 * (b + 1)) ∧ h (94 + 8 * k + 2 + (0 + 1)) i = m 122 (3 * (b + 1) + 1) ∧ h (94 + 8 * k + 2 + (0 + 2)) i = m 122 (3 * (b + 1) + 2)) ∧ (h (94 + 8 * k + 2 + 3) i = m 122 (3 * b) ∧ h (94 + 8 * k + 2 + (3 + 1)) i = m 122 (3 * b + 1) ∧ h (94 + 8 * k + 2 + (3 + 2)) i = m 122 (3 * b + 2))) ↔ mtF m k i b 3 := by
      have := mt6 (m := m) (k := k) (i := i) (b := b) (t := 3) (p := fun z => kl m k i z = m 122 (3 * b + (z + 3) % 6)) (fun z => Iff.rfl)
      rw [← this, v 0 i0 ic (by decide) (by decide), v (0 + 1) i0 ic (by decide) (by decide), v (0 + 2) i0 ic (by decide) (by decide), v 3 i0 ic (by decide) (by decide), v (3 + 1) i0 ic (by decide) (by decide), v (3 + 2) i0 ic (by decide) (by decide), show 3 * (b + 1) = 3 * b + 3 by omega, show 3 * b + 3 + 1 = 3 * b + 4 by omega, show 3 * b + 3 + 2 = 3 * b + 5 by omega]
      show _ ↔ ((kl m k i 0 = m 122 (3 * b + 3) ∧ _) ∧ (kl m k i 3 = m 122 (3 * b + 0) ∧ _))
      rw [show 3 * b + 0 = 3 * b by omega]
      exact Iff.rfl
    have st : mtE m k c b i ↔ (mt m k i b ∨ mtE m k c b (i + 1)) := by
      constructor
      · rintro ⟨j, j0, j1, j2⟩
        by_cases hj : j = i
        · subst hj
          exact Or.inl j2
        · exact Or.inr ⟨j, by omega, j1, j2⟩
      · rintro (q | ⟨j, j0, j1, j2⟩)
        · exact ⟨i, by omega, ic, q⟩
        · exact ⟨j, by omega, j1, j2⟩
    rw [BX2_holds_2, e1, if_neg (by omega), isEnd_c H R (Or.inl rfl) i0 (by omega) b0 (by omega), bndp_s, w32_i (x := b + 1) (by omega), isEnd_c H R (Or.inr rfl) i0 (by omega) (p := b + 1) (by omega) (by omega), bndp_s]
    have jx : JX2_holds_34 n (BX2_holds_2 n f) (94 + 8 * k) w b i h = some (ci (mtF m k i b 3 ∨ mtE m k c b (i + 1)) 1 0) := by
      unfold JX2_holds_34
      rw [w32_i (x := b + 1) (by omega), w32_i (x := i + 1) (by omega), isEnd_c H R (Or.inl rfl) i0 (by omega) (p := b + 1) (by omega) (by omega), bndp_s, isEnd_c H R (Or.inr rfl) i0 (by omega) (p := b) (by omega) (by omega), bndp_s, ltt_e, nx]
      by_cases a1 : h (94 + 8 * k + 2 + 0) i = m 122 (3 * (b + 1)) ∧ h (94 + 8 * k + 2 + (0 + 1)) i = m 122 (3 * (b + 1) + 1) ∧ h (94 + 8 * k + 2 + (0 + 2)) i = m 122 (3 * (b + 1) + 2)
      · rw [if_pos a1, if_neg (by decide)]
        by_cases a2 : h (94 + 8 * k + 2 + 3) i = m 122 (3 * b) ∧ h (94 + 8 * k + 2 + (3 + 1)) i = m 122 (3 * b + 1) ∧ h (94 + 8 * k + 2 + (3 + 2)) i = m 122 (3 * b + 2)
        · rw [if_pos a2, if_neg (by decide), ci_t (Or.inl (m3.mp ⟨a1, a2⟩))]
        · rw [if_neg a2, if_pos rfl, ci_c (p := mtF m k i b 3 ∨ mtE m k c b (i + 1)) (q := mtE m k c b (i + 1)) ⟨fun q => q.elim (fun q => absurd (m3.mpr q).2 a2) id, Or.inr⟩]
      · rw [if_neg a1, if_pos rfl, ci_c (p := mtF m k i b 3 ∨ mtE m k c b (i + 1)) (q := mtE m k c b (i + 1)) ⟨fun q => q.elim (fun q => absurd (m3.mpr q).1 a1) id, Or.inr⟩]
    rw [jx]
    by_cases a1 : h (94 + 8 * k + 2 + 0) i = m 122 (3 * b) ∧ h (94 + 8 * k + 2 + (0 + 1)) i = m 122 (3 * b + 1) ∧ h (94 + 8 * k + 2 + (0 + 2)) i = m 122 (3 * b + 2)
    · rw [if_pos a1, if_neg (by decide)]
      by_cases a2 : h (94 + 8 * k + 2 + 3) i = m 122 (3 * (b + 1)) ∧ h (94 + 8 * k + 2 + (3 + 1)) i = m 122 (3 * (b + 1) + 1) ∧ h (94 + 8 * k + 2 + (3 + 2)) i = m 122 (3 * (b + 1) + 2)
      · rw [if_pos a2, if_pos (by decide), ci_t (st.mpr (Or.inl (Or.inl (m0.mp ⟨a1, a2⟩))))]
      · rw [if_neg a2, if_neg (by decide), ci_c (p := mtE m k c b i) (q := mtF m k i b 3 ∨ mtE m k c b (i + 1)) ⟨fun q => (st.mp q).elim (fun q => q.elim (fun q => absurd (m0.mpr q).2 a2) Or.inl) Or.inr, fun q => st.mpr (q.elim (fun q => Or.inl (Or.inr q)) Or.inr)⟩]
    · rw [if_neg a1, if_pos rfl, ci_c (p := mtE m k c b i) (q := mtF m k i b 3 ∨ mtE m k c b (i + 1)) ⟨fun q => (st.mp q).elim (fun q => q.elim (fun q => absurd (m0.mpr q).1 a1) Or.inl) Or.inr, fun q => st.mpr (q.elim (fun q => Or.inl (Or.inr q)) Or.inr)⟩]
theorem alike_l (hn : 100 ≤ n) (H : WFp m) {h : Hp} {w k c : Int} (hw : w = 1 ∨ w = 14) (R : RW m h w) (z0 : h 39 0 = w) (C : CFi m h (nB m).toNat) (hk : 0 ≤ k ∧ k ≤ 1) (e1 : h (94 + 8 * k) 1 = c) (c0 : 0 ≤ c) (c1 : c ≤ 64) (V : ∀ i z : Int, 0 ≤ i → i < c → 0 ≤ z → z < 6 → h (94 + 8 * k + 2 + z) i = kl m k i z) : ∀ (r b f : Nat), (b : Int) + r = nB m → r < f → BX2_alike_16 n f (94 + 8 * k) (cmR m k c b) b h = some (cmR m k c (nB m).toNat)
  | 0, b, f + 1, hb, hf => by
    have hB := H.1
    rw [BX2_alike_16, z0, R.1.2.2.1, if_pos (by omega), show (nB m).toNat = b by omega]
  | r + 1, b, f + 1, hb, hf => by
    have hB := H.1
    have e46 : h 46 (b : Int) = flk m b := C.1 b (by omega) (by omega)
    have kb := cmR_b (m := m) (k := k) (c := c) b
    have ec : ((b + 1 : Nat) : Int) = (b : Int) + 1 := by omega
    have nx := alike_l hn H hw R z0 C hk e1 c0 c1 V r (b + 1) f (by omega) (by omega)
    have hh : MX2_holds n (94 + 8 * k) w b h = some (ci (mtE m k c b 0) 1 0) := by
      unfold MX2_holds LX2_holds_2
      rw [ltt_e]
      exact holds_l H R hk e1 c1 V (by omega) (by omega) c.toNat n 0 (by omega) (by omega) (by decide)
    rw [BX2_alike_16, z0, R.1.2.2.1, if_neg (by omega), al532, grd_t (by omega), e46, hh, bndp_s, ltt_e, ltt_e, ltt_e, w32_i (x := (b : Int) + 1) (by omega), w32_i (x := cmR m k c b + 1) (by omega), ← ec]
    by_cases hF : flk m b = b
    · rw [if_neg (fun q => q hF)]
      rw [cmR_s, if_pos hF] at nx
      rcases ci_01 (mtE m k c b 0) with q | q
      · rw [q.1, Int.add_zero] at nx
        rw [q.1, if_pos rfl]
        exact nx
      · rw [q.1] at nx
        rw [q.1, if_neg (by decide)]
        exact nx
    · rw [cmR_s, if_neg hF, Int.add_zero] at nx
      rw [if_pos hF]
      exact nx
theorem common_a (hn : 100 ≤ n) (H : WFp m) {h : Hp} {w : Int} (hw : w = 1 ∨ w = 14) (R : RW m h w) (S : RSh m h w) (K : RK m h) (k : Int) : MX11_common n k h = some (commonS m k) := by
  have hB := H.1
  unfold MX11_common commonS
  by_cases k0 : k < 0
  · rw [if_pos k0, if_neg (by omega)]
  · by_cases k2 : k < 2
    · obtain ⟨K1, K2, K3⟩ := K k (by omega) (by omega)
      rw [if_neg k0, if_pos k2, if_pos (by omega), al41, grd_t (by omega)]
      unfold MX2_alike LX2_alike_16
      by_cases hM : m 144 k = -1
      · rw [if_pos hM] at K1
        rw [K1, if_neg (fun q => q rfl), if_pos hM, bndp_s]
      · rw [if_neg hM] at K1
        have l := alike_l (n := n) hn H hw R S.1 S.2.2.1 (k := k) (by omega) K1 (by omega) K2.2 K3 (nB m).toNat 0 n (by omega) (by omega)
        have l' : BX2_alike_16 n n (94 + 8 * k) 0 0 h = some (cmR m k (m 144 k) (nB m).toNat) := l
        rw [if_pos (by omega), if_neg hM, ltt_e, ltt_e, l', bndp_s]
    · rw [if_neg k0, if_neg k2, if_neg (by omega)]
/-- one number of a leg of the model -/
theorem kept_l {k i b t : Int} (H : WFp m) (hk : 0 ≤ k ∧ k ≤ 1) (i0 : 0 ≤ i) (i1 : i < 64) (b0 : 0 ≤ b) (b1 : b < nB m) (ht : t = 0 ∨ t = 3) : ∀ (r f : Nat) (a : Int), a + r = 6 → r < f → 0 ≤ a → BX12_isKept_3 n f b (6 * (64 * k + i)) t a m = some (ci (∀ z, a ≤ z → z < 6 → kl m k i z = m 122 (3 * b + (z + t) % 6)) 1 0)
  | 0, f + 1, a, ha, hf, a0 => by
    rw [BX12_isKept_3, if_pos (by omega), ci_t (fun z z0 z1 => by omega)]
  | r + 1, f + 1, a, ha, hf, a0 => by
    have hB := H.1
    have nx := kept_l H hk i0 i1 b0 b1 ht r f (a + 1) (by omega) (by omega) (by omega)
    have ed : (a + t).tdiv 6 = (a + t) / 6 := Int.tdiv_eq_ediv_of_nonneg (by omega)
    rw [BX12_isKept_3, if_neg (by omega), al6164, al1580, w32_i (x := 6 * (64 * k + i) + a) (by omega), w32_i (x := 3 * b) (by omega), w32_i (x := a + t) (by omega), ed, w32_i (x := (a + t) / 6) (by omega), w32_i (x := (a + t) / 6 * 6) (by omega), w32_i (x := a + t - (a + t) / 6 * 6) (by omega), show a + t - (a + t) / 6 * 6 = (a + t) % 6 by omega, w32_i (x := 3 * b + (a + t) % 6) (by omega), grd_t (by omega), grd_t (by decide), grd_t (by omega), ltt_e, w32_i (x := a + 1) (by omega), nx]
    by_cases h1 : m 143 (6 * (64 * k + i) + a) = m 122 (3 * b + (a + t) % 6)
    · rw [if_pos h1]
      congr 1
      refine ci_c ⟨fun q z z0 z1 => ?_, fun q z z0 z1 => q z (by omega) z1⟩
      by_cases hz : z = a
      · subst hz
        exact h1
      · exact q z (by omega) z1
    · rw [if_neg h1, ci_f (fun q => h1 (q a (Int.le_refl a) (by omega)))]
theorem isKept_m (hn : 10 ≤ n) {k i b t : Int} (H : WFp m) (hk : 0 ≤ k ∧ k ≤ 1) (i0 : 0 ≤ i) (i1 : i < 64) (b0 : 0 ≤ b) (b1 : b < nB m) (ht : t = 0 ∨ t = 3) : MX12_isKept n b (6 * (64 * k + i)) t m = some (ci (mtF m k i b t) 1 0) := by
  unfold MX12_isKept LX12_isKept_3
  rw [ltt_e]
  exact kept_l H hk i0 i1 b0 b1 ht 6 n 0 (by omega) (by omega) (by decide)
theorem com_in (hn : 100 ≤ n) {k b c y : Int} (H : WFp m) (hk : 0 ≤ k ∧ k ≤ 1) (ec : m 144 k = c) (c1 : c ≤ 64) (b0 : 0 ≤ b) (b1 : b < nB m) (hF : flk m b = b) : ∀ (r f : Nat) (x i : Int), i + r = max i c → r < f → 0 ≤ i → (x = 0 ∨ x = 1) → BX12_common_43 n f k y b x i m = some (k, y, b, ci (x = 1 ∨ mtE m k c b i) 1 0)
  | 0, f + 1, x, i, hi, hf, i0, hx => by
    rw [BX12_common_43, al36, grd_t (by omega), ec, if_pos (by omega)]
    congr 4
    rcases hx with e | e
    · rw [ci_f (fun q => q.elim (fun q => by omega) (fun ⟨j, j0, j1, _⟩ => by omega)), e]
    · rw [ci_t (Or.inl e), e]
  | r + 1, f + 1, x, i, hi, hf, i0, hx => by
    have hB := H.1
    have ic : i < c := by omega
    have nx := fun x hx => com_in (y := y) hn H hk ec c1 b0 b1 hF r f x (i + 1) (by omega) (by omega) (by omega) hx
    have st : mtE m k c b i ↔ (mt m k i b ∨ mtE m k c b (i + 1)) := by
      constructor
      · rintro ⟨j, j0, j1, j2⟩
        by_cases hj : j = i
        · subst hj
          exact Or.inl j2
        · exact Or.inr ⟨j, by omega, j1, j2⟩
      · rintro (q | ⟨j, j0, j1, j2⟩)
        · exact ⟨i, by omega, ic, q⟩
        · exact ⟨j, by omega, j1, j2⟩
    have e1 : MX12_firstLike n b m = some b := by
      rw [first_m hn b0 (by omega), hF]
    rw [BX12_common_43, al36, grd_t (by omega), ec, if_neg (by omega), e1, bndp_s, if_neg (fun q => q rfl), w32_i (x := 64 * k) (by omega), w32_i (x := 64 * k + i) (by omega), w32_i (x := 6 * (64 * k + i)) (by omega), ltt_e, isKept_m (by omega) H hk i0 (by omega) b0 b1 (Or.inl rfl), isKept_m (by omega) H hk i0 (by omega) b0 b1 (Or.inr rfl), bndp_s, bndp_s]
    unfold JX12_common_102 JX12_common_107
    rw [ltt_e, ltt_e, ltt_e, ltt_e, w32_i (x := i + 1) (by omega), nx 1 (Or.inr rfl), nx 0 (Or.inl rfl)]
    rcases hx with e | e
    · rw [if_neg (fun q => q e)]
      rcases ci_01 (mtF m k i b 0) with q | q
      · rw [q.1, if_neg (by decide)]
        rcases ci_01 (mtF m k i b 3) with p | p
        · rw [p.1, if_pos rfl]
          congr 4
          exact ci_c ⟨fun t => t.elim (fun t => absurd t (by decide)) (fun t => Or.inr (st.mpr (Or.inr t))), fun t => t.elim (fun t => by omega) (fun t => (st.mp t).elim (fun t => t.elim (fun t => absurd t q.2) (fun t => absurd t p.2)) Or.inr)⟩
        · rw [p.1, if_neg (by decide), ci_t (Or.inl rfl), ci_t (Or.inr (st.mpr (Or.inl (Or.inr p.2))))]
      · rw [q.1, if_pos (by decide), ci_t (Or.inl rfl), ci_t (Or.inr (st.mpr (Or.inl (Or.inl q.2))))]
    · rw [if_pos (by omega), ci_t (Or.inl rfl), ci_t (Or.inl e)]
theorem common_l (hn : 100 ≤ n) {k c : Int} (H : WFp m) (hk : 0 ≤ k ∧ k ≤ 1) (ec : m 144 k = c) (c0 : 0 ≤ c) (c1 : c ≤ 64) : ∀ (r b f : Nat), (b : Int) + r = nB m → r < f → BX12_common_29 n f k (cmR m k c b) b m = some (cmR m k c (nB m).toNat)
  | 0, b, f + 1, hb, hf => by
    have hB := H.1
    rw [BX12_common_29, show m 113 6 = nB m from rfl, if_pos (by omega), show (nB m).toNat = b by omega]
  | r + 1, b, f + 1, hb, hf => by
    have hB := H.1
    have kb := cmR_b (m := m) (k := k) (c := c) b
    have e2 : ((b + 1 : Nat) : Int) = (b : Int) + 1 := by omega
    have nx := common_l hn H hk ec c0 c1 r (b + 1) f (by omega) (by omega)
    rw [BX12_common_29, show m 113 6 = nB m from rfl, if_neg (by omega), ltt_e, ltt_e]
    unfold LX12_common_43
    have fin : ∀ v : Int, v = (if flk m b = b then ci (mtE m k c b 0) 1 0 else 0) → JX12_common_115 n (BX12_common_29 n f) k (cmR m k c b) b v m = some (cmR m k c (nB m).toNat) := fun v hv => by
      have hv1 : v = 0 ∨ v = 1 := by
        rw [hv]
        rcases ci_01 (mtE m k c b 0) with q | q <;> split <;> omega
      have et : MX12_truth v = some v := by
        unfold MX12_truth
        rcases hv1 with e | e <;> rw [e] <;> rfl
      unfold JX12_common_115
      rw [et, bndp_s, ltt_e, ltt_e, w32_i (x := cmR m k c b + v) (by omega), w32_i (x := (b : Int) + 1) (by omega), ← e2, hv, ← cmR_s]
      exact nx
    by_cases hF : flk m b = b
    · rw [com_in hn H hk ec c1 (by omega) (by omega) hF c.toNat n 0 0 (by omega) (by omega) (by decide) (Or.inl rfl), bndx_s]
      refine fin _ ?_
      rw [if_pos hF]
      exact ci_c ⟨fun q => q.elim (fun q => absurd q (by decide)) id, Or.inr⟩
    · have e3 : BX12_common_43 n n k (cmR m k c b) b 0 0 m = some (k, cmR m k c b, (b : Int), 0) := by
        obtain ⟨n', en⟩ : ∃ n', n = n' + 1 := ⟨n - 1, by omega⟩
        have e1 : MX12_firstLike n b m = some (flk m b) := first_m hn (by omega) (by omega)
        have : BX12_common_43 n (n' + 1) k (cmR m k c b) b 0 0 m = some (k, cmR m k c b, (b : Int), 0) := by
          rw [BX12_common_43, al36, grd_t (by omega), ec]
          by_cases h1 : c ≤ 0
          · rw [if_pos h1]
          · rw [if_neg h1, e1, bndp_s, if_pos hF]
        rw [← en] at this
        exact this
      rw [e3, bndx_s]
      exact fin 0 (by rw [if_neg hF])
theorem common_b (hn : 100 ≤ n) (H : WFp m) (hK : ∀ k : Int, 0 ≤ k → k ≤ 1 → -1 ≤ m 144 k ∧ m 144 k ≤ 64) (k : Int) : MX12_common n k m = some (commonS m k) := by
  have hB := H.1
  unfold MX12_common commonS LX12_common_29
  rw [in_m, bndp_s]
  by_cases hk : 0 ≤ k ∧ k ≤ 1
  · have b := hK k hk.1 hk.2
    rw [if_pos hk, if_pos (by decide), if_pos hk, al36, grd_t (by omega)]
    by_cases hM : m 144 k = -1
    · rw [if_neg (fun q => q hM), if_pos hM]
    · have l := common_l (n := n) hn H hk rfl (by omega) b.2 (nB m).toNat 0 n (by omega) (by omega)
      rw [if_pos hM, if_neg hM, ltt_e, ltt_e]
      exact l
  · rw [if_neg hk, if_neg (by decide), if_neg hk]
end
