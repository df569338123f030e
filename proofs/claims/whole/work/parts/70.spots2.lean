/-! THE CLASS'S SPOTS. -/
theorem fnd_s {p : Int → Bool} {r : Nat} {x : Int} : fnd p (r + 1) x = if p x = true then x else fnd p r (x + 1) := rfl
/-- the class's spots are S -/
def CSp (m h : Hp) (S : Int × (Int → Int) × (Int → Int)) : Prop :=
  h 39 4 = S.1 ∧ ∀ x, 0 ≤ x → x < S.1 → (h (41 + 0) x = m 122 (3 * S.2.1 x) ∧ h (41 + 1) x = m 122 (3 * S.2.1 x + 1) ∧ h (41 + 2) x = m 122 (3 * S.2.1 x + 2)) ∧ h 44 x = S.2.2 x
def CSo (m h : Hp) (S : Int × (Int → Int) × (Int → Int)) (k : Int) : Prop := ∀ i, 0 ≤ i → i < k → (0 ≤ h 45 i ∧ h 45 i < S.1) ∧ sme m (S.2.1 (h 45 i)) i
/-- but for the shape, h is as g -/
def KS (g h : Hp) : Prop := (∀ c, c < 39 ∨ 49 < c → h c = g c) ∧ h 39 0 = g 39 0
theorem KS.rf {g : Hp} : KS g g := ⟨fun _ _ => rfl, rfl⟩
theorem KS.tr {g h k : Hp} (a : KS g h) (b : KS h k) : KS g k := ⟨fun c hc => (b.1 c hc).trans (a.1 c hc), b.2.trans a.2⟩
theorem KS.put {g h : Hp} {c i v : Int} (K : KS g h) (hc : 39 < c ∧ c ≤ 49) : KS g (up h c i v) :=
  ⟨fun b hb => by rw [up_row (by omega)]; exact K.1 b hb, by rw [up_c (by omega)]; exact K.2⟩
theorem KS.pf {g h : Hp} {i v : Int} (K : KS g h) (hi : i ≠ 0) : KS g (up h 39 i v) :=
  ⟨fun b hb => by rw [up_row (by omega)]; exact K.1 b hb, by rw [up_i (by omega)]; exact K.2⟩
theorem KS.rw' {m g h : Hp} {w : Int} (K : KS g h) (R : RW m g w) (hw : w + 12 < 39) : RW m h w := R.mv (fun c c1 c2 => K.1 c (by omega))
section
variable {n : Nat} {m : Hp}
theorem find_l {h : Hp} {S : Int × (Int → Int) × (Int → Int)} (C : CSp m h S) (hS : S.1 ≤ 65) {a b c : Int} : ∀ (r f : Nat) (x : Int), x + r = S.1 → r < f → 0 ≤ x → BX7_find_3 n f a b c x h = some (if fnd (ptb m S.2.1 a b c) r x = S.1 then -1 else fnd (ptb m S.2.1 a b c) r x)
  | 0, f + 1, x, hx, hf, x0 => by
    rw [BX7_find_3, C.1, if_pos (by omega)]
    show _ = some (if x = S.1 then -1 else x)
    rw [if_pos (by omega)]
  | r + 1, f + 1, x, hx, hf, x0 => by
    obtain ⟨⟨c0, c1, c2⟩, -⟩ := C.2 x x0 (by omega)
    have ih := find_l C hS (a := a) (b := b) (c := c) r f (x + 1) (by omega) (by omega) (by omega)
    have i3 := fnd_ok (p := ptb m S.2.1 a b c) r (x + 1)
    rw [BX7_find_3, C.1, if_neg (by omega), al50, al540, grd_t (by decide), grd_t (by omega), c0, grd_t (by decide), grd_t (by omega), c1, grd_t (by decide), grd_t (by omega), c2]
    simp only [ltt_e]
    rw [w32_i (x := x + 1) (by omega), ih]
    have hp : ptb m S.2.1 a b c x = decide (m 122 (3 * S.2.1 x) = a ∧ m 122 (3 * S.2.1 x + 1) = b ∧ m 122 (3 * S.2.1 x + 2) = c) := rfl
    rw [fnd_s, hp]
    by_cases h1 : m 122 (3 * S.2.1 x) = a
    · rw [if_neg (fun q => q h1)]
      by_cases h2 : m 122 (3 * S.2.1 x + 1) = b
      · rw [if_neg (fun q => q h2)]
        by_cases h3 : m 122 (3 * S.2.1 x + 2) = c
        · rw [if_neg (fun q => q h3), if_pos (show decide (m 122 (3 * S.2.1 x) = a ∧ m 122 (3 * S.2.1 x + 1) = b ∧ m 122 (3 * S.2.1 x + 2) = c) = true by rw [decide_eq_true_eq]; exact ⟨h1, h2, h3⟩), if_neg (show ¬ x = S.1 by omega)]
        · rw [if_pos h3, if_neg (show ¬ decide (m 122 (3 * S.2.1 x) = a ∧ m 122 (3 * S.2.1 x + 1) = b ∧ m 122 (3 * S.2.1 x + 2) = c) = true by rw [decide_eq_true_eq]; exact fun q => h3 q.2.2)]
      · rw [if_pos h2, if_neg (show ¬ decide (m 122 (3 * S.2.1 x) = a ∧ m 122 (3 * S.2.1 x + 1) = b ∧ m 122 (3 * S.2.1 x + 2) = c) = true by rw [decide_eq_true_eq]; exact fun q => h2 q.2.1)]
    · rw [if_pos h1, if_neg (show ¬ decide (m 122 (3 * S.2.1 x) = a ∧ m 122 (3 * S.2.1 x + 1) = b ∧ m 122 (3 * S.2.1 x + 2) = c) = true by rw [decide_eq_true_eq]; exact fun q => h1 q.1)]
theorem find_c (hn : 100 ≤ n) {h : Hp} {S : Int × (Int → Int) × (Int → Int)} (C : CSp m h S) (h0 : 0 ≤ S.1) (hS : S.1 ≤ 65) (a b c : Int) : MX7_find n a b c h = some (if fnd (ptb m S.2.1 a b c) S.1.toNat 0 = S.1 then -1 else fnd (ptb m S.2.1 a b c) S.1.toNat 0) := by
  unfold MX7_find LX7_find_3
  rw [ltt_e]
  exact find_l C hS _ _ _ (by omega) (by omega) (by decide)
theorem spots_cl (hn : 100 ≤ n) (H : WFp m) {g : Hp} {w : Int} (hw : w = 1 ∨ w = 14) (R : RW m g w) (g0 : g 39 0 = w) : ∀ (r k f : Nat) (h : Hp), (k : Int) + r = nB m + 1 → r < f → KS g h → CSp m h (spR m k) → CSo m h (spR m k) k → ∃ h', BX7_findSpots_18 n f (k : Int) h = some h' ∧ KS g h' ∧ CSp m h' (spR m (nB m + 1).toNat) ∧ CSo m h' (spR m (nB m + 1).toNat) (nB m + 1)
  | r, k, f + 1, h, hk, hf, K, C, O => by
    have hB := H.1
    have R' := K.rw' R (by omega)
    have e0 : h 39 0 = w := K.2.trans g0
    rw [BX7_findSpots_18, e0, R'.1.2.2.1]
    by_cases hd : nB m < (k : Int)
    · rw [if_pos hd]
      have e1 : (nB m + 1).toNat = k := by omega
      have e2 : nB m + 1 = (k : Int) := by omega
      rw [e1, e2]
      exact ⟨h, rfl, K, C, O⟩
    · rw [if_neg hd]
      obtain ⟨r, rfl⟩ : ∃ r', r = r' + 1 := ⟨r - 1, by omega⟩
      obtain ⟨i1, i2, i3⟩ := spR_ok (m := m) k
      have nx : spR m (k + 1) = spS m (spR m k) (k : Int) := rfl
      have nxt := fun (h' : Hp) (K' : KS g h') (M' : CSp m h' (spR m (k + 1))) (O' : CSo m h' (spR m (k + 1)) ((k + 1 : Nat) : Int)) => spots_cl hn H hw R g0 r (k + 1) f h' (by omega) (by omega) K' M' O'
      rw [nx] at nxt
      generalize spR m k = S at *
      obtain ⟨f1, f2, f3⟩ := spf_ok (m := m) (S := S) (k := (k : Int)) i1.1
      have hG : 0 ≤ S.1 ∧ S.1 < 65 := ⟨i1.1, by omega⟩
      have hK : 0 ≤ (k : Int) ∧ (k : Int) < 65 := by omega
      have a0 : h (w + 2 + 1 + 0) (k : Int) = m 122 (3 * (k : Int)) := by
        have := R'.2.2.1 0 (k : Int) (by decide) (by decide) (by omega) (by omega)
        rw [this, Int.add_zero]
      have a1 : h (w + 2 + 1 + 1) (k : Int) = m 122 (3 * (k : Int) + 1) := R'.2.2.1 1 (k : Int) (by decide) (by decide) (by omega) (by omega)
      have a2 : h (w + 2 + 1 + 2) (k : Int) = m 122 (3 * (k : Int) + 2) := R'.2.2.1 2 (k : Int) (by decide) (by decide) (by omega) (by omega)
      have fc := find_c hn C i1.1 (by omega) (m 122 (3 * (k : Int))) (m 122 (3 * (k : Int) + 1)) (m 122 (3 * (k : Int) + 2))
      have fc' : MX7_find n (m 122 (3 * (k : Int))) (m 122 (3 * (k : Int) + 1)) (m 122 (3 * (k : Int) + 2)) h = some (if spf m S k = S.1 then -1 else spf m S k) := fc
      rw [al50, al540, grd_t (by decide), grd_t (by omega), ltt_e, grd_t (by decide), grd_t (by omega), ltt_e, grd_t (by decide), grd_t (by omega), ltt_e, a0, a1, a2, fc', bndp_s, ltt_e]
      have kk : w32 ((k : Int) + 1) = ((k + 1 : Nat) : Int) := by rw [w32_i (by omega)]; omega
      have kc : ((k + 1 : Nat) : Int) = (k : Int) + 1 := by omega
      unfold spS at nxt
      unfold JX7_findSpots_137
      rw [al540]
      clear a0 a1 a2 fc fc'
      generalize spf m S k = x at *
      by_cases hz : x = S.1
      · rw [if_pos hz, if_neg (by decide), ltt_e, C.1, grd_t (by decide), grd_t hG, ltt_e, grd_t (by decide), grd_t hG, ltt_e, grd_t (by decide), grd_t hG, ltt_e, grd_t hG, ltt_e, ltt_e, grd_t hG, grd_t hG, ltt_e, grd_t hK, ltt_e, ltt_e, kk]
        rw [if_pos hz] at nxt
        subst hz
        have e1 : up (up (up (up h (41 + 0) S.1 (m 122 (3 * (k : Int)))) (41 + 1) S.1 (m 122 (3 * (k : Int) + 1))) (41 + 2) S.1 (m 122 (3 * (k : Int) + 2))) 44 S.1 0 39 4 = S.1 := by
          rw [up_c (by decide), up_c (by decide), up_c (by decide), up_c (by decide)]
          exact C.1
        rw [e1, w32_i (x := S.1 + 1) (by omega)]
        have K5 : KS g (up (up (up (up (up h (41 + 0) S.1 (m 122 (3 * (k : Int)))) (41 + 1) S.1 (m 122 (3 * (k : Int) + 1))) (41 + 2) S.1 (m 122 (3 * (k : Int) + 2))) 44 S.1 0) 39 4 (S.1 + 1)) := ((((K.put (by decide)).put (by decide)).put (by decide)).put (by decide)).pf (by decide)
        refine nxt _ ((K5.put (by decide)).put (by decide)) ⟨?_, fun z z0 z1 => ?_⟩ (fun i i0 i1' => ?_)
        · rw [up_c (by decide), up_c (by decide), up_s]
        · have z1' : z < S.1 + 1 := z1
          show (_ = m 122 (3 * updI S.2.1 S.1 k z) ∧ _ = m 122 (3 * updI S.2.1 S.1 k z + 1) ∧ _ = m 122 (3 * updI S.2.1 S.1 k z + 2)) ∧ _ = updI S.2.2 S.1 1 z
          by_cases hq : z = S.1
          · rw [hq, updI_s, updI_s]
            simp (disch := omega) only [up_c, up_i, up_s, Int.reduceAdd]
            exact ⟨⟨trivial, trivial, trivial⟩, w32_i (by decide)⟩
          · rw [updI_o hq, updI_o hq]
            have := C.2 z z0 (by omega)
            simp (disch := omega) only [up_c, up_i, up_s, Int.reduceAdd]
            exact this
        · rw [kc] at i1'
          show (_ ∧ _ < S.1 + 1) ∧ sme m (updI S.2.1 S.1 k _) i
          by_cases hi : i = (k : Int)
          · rw [hi, up_s, updI_s]
            exact ⟨by omega, ⟨rfl, rfl, rfl⟩⟩
          · rw [up_i hi]
            simp (disch := omega) only [up_c]
            have q := O i i0 (by omega)
            rw [updI_o (by omega)]
            exact ⟨by omega, q.2⟩
      · have hl : x < S.1 := by omega
        have hX : 0 ≤ x ∧ x < 65 := by omega
        rw [if_neg hz, if_pos (show x ≠ -1 by omega), grd_t hX, grd_t hX, ltt_e, grd_t hK, ltt_e, ltt_e, kk]
        rw [if_neg hz] at nxt
        have q := i2 _ f1.1 hl
        have M2 := C.2 _ f1.1 hl
        rw [M2.2, w32_i (x := S.2.2 (x) + 1) (by omega)]
        refine nxt _ ((K.put (by decide)).put (by decide)) ⟨?_, fun z z0 z1 => ?_⟩ (fun i i0 i1' => ?_)
        · rw [up_c (by decide), up_c (by decide)]
          exact C.1
        · show (_ = m 122 (3 * S.2.1 z) ∧ _ = m 122 (3 * S.2.1 z + 1) ∧ _ = m 122 (3 * S.2.1 z + 2)) ∧ _ = updI S.2.2 (x) _ z
          have := C.2 z z0 z1
          by_cases hq : z = x
          · rw [hq, updI_s]
            simp (disch := omega) only [up_c, up_i, up_s, Int.reduceAdd]
            exact ⟨M2.1, trivial⟩
          · rw [updI_o hq]
            simp (disch := omega) only [up_c, up_i, up_s, Int.reduceAdd]
            exact this
        · rw [kc] at i1'
          show (_ ∧ _ < S.1) ∧ sme m (S.2.1 _) i
          by_cases hi : i = (k : Int)
          · rw [hi, up_s]
            exact ⟨⟨f1.1, hl⟩, f2 hl⟩
          · rw [up_i hi]
            simp (disch := omega) only [up_c]
            exact O i i0 (by omega)
theorem findSpots_c (hn : 100 ≤ n) (H : WFp m) {g : Hp} {w : Int} (hw : w = 1 ∨ w = 14) (R : RW m g w) (g0 : g 39 0 = w) : ∃ h', MX7_findSpots n g = some h' ∧ KS g h' ∧ CSp m h' (spT m) ∧ (0 < nB m → CSo m h' (spT m) (nB m + 1)) := by
  have hB := H.1
  unfold MX7_findSpots LX7_findSpots_18
  have K0 : KS g (up g 39 4 0) := KS.rf.pf (by decide)
  have R' := K0.rw' R (by omega)
  have C0 : CSp m (up g 39 4 0) (spR m 0) := ⟨up_s, fun x x0 x1 => absurd x1 (by show ¬ x < 0; omega)⟩
  rw [ltt_e, K0.2.trans g0, R'.1.2.2.1]
  unfold spT
  by_cases hz : nB m = 0
  · rw [if_neg (fun q => q hz), if_pos (by omega)]
    exact ⟨_, rfl, K0, C0, fun q => by omega⟩
  · rw [if_pos hz, if_neg (by omega), ltt_e]
    obtain ⟨h', e, K1, C1, O1⟩ := spots_cl hn H hw R g0 (nB m + 1).toNat 0 n _ (by omega) (by omega) K0 C0 (fun i i0 i1 => absurd i1 (by show ¬ i < 0; omega))
    exact ⟨h', e, K1, C1, fun _ => O1⟩
end
