/-! THE CLASS'S FIRSTS. -/
section
variable {n : Nat} {m : Hp}
/-- what the search for the firsts keeps -/
def CX (m g h : Hp) : Prop := KS g h ∧ (∀ c, c ≠ 39 → c ≠ 46 → h c = g c) ∧ ∀ i, i ≠ 6 → h 39 i = g 39 i
theorem CX.rf {g : Hp} : CX m g g := ⟨KS.rf, fun _ _ _ => rfl, fun _ _ => rfl⟩
theorem CX.put {g h : Hp} (K : CX m g h) {i v : Int} : CX m g (up h 46 i v) := ⟨K.1.put (by decide), fun c c1 c2 => by rw [up_row c2]; exact K.2.1 c c1 c2, fun i hi => by rw [up_c (by decide)]; exact K.2.2 i hi⟩
theorem CX.pf {g h : Hp} (K : CX m g h) {v : Int} : CX m g (up h 39 6 v) := ⟨K.1.pf (by decide), fun c c1 c2 => by rw [up_row c1]; exact K.2.1 c c1 c2, fun i hi => by rw [up_i hi]; exact K.2.2 i hi⟩
theorem CX.sp {g h : Hp} (K : CX m g h) {S : Int × (Int → Int) × (Int → Int)} (C : CSp m g S) : CSp m h S := C.mv (fun c c1 c2 => K.2.1 c (by omega) (by omega)) (K.2.2 4 (by decide))
theorem CX.so {g h : Hp} (K : CX m g h) {S : Int × (Int → Int) × (Int → Int)} {k : Int} (C : CSo m g S k) : CSo m h S k := by
  unfold CSo
  rw [K.2.1 45 (by decide) (by decide)]
  exact C
theorem fnd_v {p : Int → Bool} {r : Nat} {x k : Int} (hk : x + r = k) : fnd p r x ≤ k ∧ x ≤ fnd p r x := by
  have := (fnd_ok (p := p) r x).1
  omega
theorem firsts_in (H : WFp m) (hp : 0 < nB m) {g : Hp} (O : CSo m g (spT m) (nB m + 1)) {k : Nat} (k1 : (k : Int) < nB m) : ∀ (r f : Nat) (x : Int) (h : Hp), x + r = k → r < f → 0 ≤ x → CX m g h → (∀ i, 0 ≤ i → i < (k : Int) → h 46 i = flk m i) → h 39 6 = twR m k → h 46 k = k → ∃ h', BX7_findFirsts_27 n f (k : Int) x h = some ((k : Int), h') ∧ CX m g h' ∧ (∀ i, 0 ≤ i → i < (k : Int) → h' 46 i = flk m i) ∧ h' 46 k = fnd (likb m k) r x ∧ h' 39 6 = twR m k + (if fnd (likb m k) r x = k then 0 else 1)
  | 0, f + 1, x, h, hx, hf, x0, K, A, B, D => by
    rw [BX7_findFirsts_27, if_pos (by omega)]
    have e : fnd (likb m k) 0 x = k := by show x = (k : Int); omega
    rw [e, if_pos rfl]
    exact ⟨h, rfl, K, A, D, by omega⟩
  | r + 1, f + 1, x, h, hx, hf, x0, K, A, B, D => by
    have hB := H.1
    have ht := twR_ok (m := m) k
    have nxt := fun (h' : Hp) => firsts_in H hp O k1 r f (x + 1) h' (by omega) (by omega) (by omega)
    rw [BX7_findFirsts_27, if_neg (by omega), al532, grd_t (by omega), D, if_neg (fun q => q rfl), leg_c H hp (K.so O) x0 (by omega) (by omega) k1, bndp_s, fnd_s]
    have ew : w32 (x + 1) = x + 1 := w32_i (by omega)
    have hb : likb m k x = decide (lik m x k) := rfl
    rw [hb]
    by_cases hl : lik m x k
    · rw [if_pos hl, if_neg (by decide), grd_t (by omega), ltt_e, ltt_e, ltt_e, ew]
      rw [if_pos (c := decide (lik m x k) = true) (by rw [decide_eq_true_eq]; exact hl), if_neg (c := x = (k : Int)) (by omega)]
      have e6 : up h 46 (k : Int) x 39 6 = twR m k := by rw [up_c (by decide)]; exact B
      rw [e6, w32_i (x := twR m k + 1) (by omega)]
      have K2 : CX m g (up (up h 46 (k : Int) x) 39 6 (twR m k + 1)) := K.put.pf
      have v1 : up (up h 46 (k : Int) x) 39 6 (twR m k + 1) 46 (k : Int) = x := by rw [up_c (by decide), up_s]
      have v2 : ∀ i, 0 ≤ i → i < (k : Int) → up (up h 46 (k : Int) x) 39 6 (twR m k + 1) 46 i = flk m i := fun i i0 i1 => by
        rw [up_c (by decide), up_i (by omega)]
        exact A i i0 i1
      have v3 : up (up h 46 (k : Int) x) 39 6 (twR m k + 1) 39 6 = twR m k + 1 := up_s
      generalize up (up h 46 (k : Int) x) 39 6 (twR m k + 1) = h2 at *
      refine ⟨h2, ?_, K2, v2, v1, v3⟩
      cases f with
      | zero => omega
      | succ f =>
        rw [BX7_findFirsts_27]
        by_cases hq : (k : Int) ≤ x + 1
        · rw [if_pos hq]
        · rw [if_neg hq, al532, grd_t (by omega), v1, if_pos (by omega)]
    · rw [if_neg hl, if_pos (by decide), ltt_e, ew]
      rw [if_neg (c := decide (lik m x k) = true) (by rw [decide_eq_true_eq]; exact hl)]
      exact nxt h K A B D
theorem firsts_l (hn : 100 ≤ n) (H : WFp m) (hp : 0 < nB m) {g : Hp} {w : Int} (hw : w = 1 ∨ w = 14) (R : RW m g w) (g0 : g 39 0 = w) (O : CSo m g (spT m) (nB m + 1)) : ∀ (r k f : Nat) (h : Hp), (k : Int) + r = nB m → r < f → CX m g h → CFi m h k → ∃ h', BX7_findFirsts_7 n f (k : Int) h = some h' ∧ CX m g h' ∧ CFi m h' (nB m).toNat
  | r, k, f + 1, h, hk, hf, K, F => by
    have hB := H.1
    have R' := K.1.rw' R (by omega)
    have e0 : h 39 0 = w := K.1.2.trans g0
    rw [BX7_findFirsts_7, e0, R'.1.2.2.1]
    by_cases hd : nB m ≤ (k : Int)
    · have e : (nB m).toNat = k := by omega
      rw [if_pos hd, e]
      exact ⟨h, rfl, K, F⟩
    · obtain ⟨r, rfl⟩ : ∃ r', r = r' + 1 := ⟨r - 1, by omega⟩
      obtain ⟨h2, e2, K2, A2, D2, B2⟩ := firsts_in (n := n) H hp O (k := k) (by omega) k n 0 (up h 46 (k : Int) (k : Int)) (by omega) (by omega) (by decide) K.put (fun i i0 i1 => by rw [up_i (by omega)]; exact F.1 i i0 i1) (by rw [up_c (by decide)]; exact F.2) up_s
      rw [if_neg hd, al532, grd_t (by omega), ltt_e, ltt_e]
      unfold LX7_findFirsts_27
      rw [e2, bndx_s]
      show ∃ h', JX7_findFirsts_74 n (BX7_findFirsts_7 n f) (k : Int) h2 = some h' ∧ _
      unfold JX7_findFirsts_74
      have e1 : w32 ((k : Int) + 1) = ((k + 1 : Nat) : Int) := by rw [w32_i (by omega)]; omega
      rw [ltt_e, e1]
      clear e1
      have ek : fnd (likb m (k : Int)) k 0 = flk m (k : Int) := by
        unfold flk
        rw [show ((k : Int)).toNat = k by omega]
      rw [ek] at D2 B2
      refine firsts_l hn H hp hw R g0 O r (k + 1) f h2 (by omega) (by omega) K2 ⟨fun i i0 i1 => ?_, B2⟩
      by_cases hi : i = (k : Int)
      · rw [hi]
        exact D2
      · exact A2 i i0 (by omega)
theorem findFirsts_c (hn : 100 ≤ n) (H : WFp m) {g : Hp} {w : Int} (hw : w = 1 ∨ w = 14) (R : RW m g w) (g0 : g 39 0 = w) (O : 0 < nB m → CSo m g (spT m) (nB m + 1)) : ∃ h', MX7_findFirsts n g = some h' ∧ CX m g h' ∧ CFi m h' (nB m).toNat := by
  have hB := H.1
  have K0 : CX m g (up g 39 6 0) := CX.rf.pf
  unfold MX7_findFirsts LX7_findFirsts_7
  rw [ltt_e, ltt_e]
  by_cases hz : 0 < nB m
  · exact firsts_l hn H hz hw R g0 (O hz) (nB m).toNat 0 n _ (by omega) (by omega) K0 ⟨fun i i0 i1 => by omega, up_s⟩
  · obtain ⟨n', rfl⟩ : ∃ n', n = n' + 1 := ⟨n - 1, by omega⟩
    have R' := K0.1.rw' R (by omega)
    have e : (nB m).toNat = 0 := by omega
    rw [BX7_findFirsts_7, K0.1.2.trans g0, R'.1.2.2.1, if_pos (by omega), e]
    exact ⟨_, rfl, K0, fun i i0 i1 => by omega, up_s⟩
theorem twice_a {h : Hp} {w : Int} (R : RW m h w) (hw : h 0 2 = w) (H : WFp m) (F : CFi m h (nB m).toNat) (x : Int) : MX11_twice x h = some (twiceS m x) := by
  have hB := H.1
  unfold MX11_twice twiceS
  by_cases h1 : x = -1
  · rw [if_neg (fun q => q h1), if_pos h1, F.2]
  · rw [if_pos h1, if_neg h1, hw, has_c R, bndp_s]
    by_cases h2 : 0 ≤ x ∧ x < nB m
    · rw [if_pos h2, if_neg (by decide), if_pos h2, al532, grd_t (by omega), F.1 x h2.1 (by omega)]
    · rw [if_neg h2, if_pos rfl, if_neg h2]
end
