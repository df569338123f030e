/-! ALL MEETINGS. -/
def mtS (m : Hp) (T : Int × Int × Int) (i k : Int) : Int × Int × Int := if flt m i k ∧ mR m i k then (T.1 + 1, (if T.1 ≠ 0 then T.2.1 else i), (if T.1 ≠ 0 then T.2.2 else k)) else T
def mtI (m : Hp) (i : Int) : Nat → Int → Int × Int × Int → Int × Int × Int
  | 0, _, T => T
  | r + 1, k, T => mtI m i r (k + 1) (mtS m T i k)
def mtO (m : Hp) : Nat → Int → Int × Int × Int → Int × Int × Int
  | 0, _, T => T
  | r + 1, i, T => mtO m r (i + 1) (mtI m i (nB m - (i + 2)).toNat (i + 2) T)
def mtA (m : Hp) : Int × Int × Int := mtO m (nB m).toNat 0 (0, -2, -2)
theorem mtI_b {m : Hp} {i : Int} : ∀ (r : Nat) (k : Int) (T : Int × Int × Int), (0 ≤ T.1) → 0 ≤ (mtI m i r k T).1 ∧ (mtI m i r k T).1 ≤ T.1 + r
  | 0, k, T, h0 => by
    show 0 ≤ T.1 ∧ T.1 ≤ T.1 + ((0 : Nat) : Int)
    omega
  | r + 1, k, T, h0 => by
    have e : 0 ≤ (mtS m T i k).1 ∧ (mtS m T i k).1 ≤ T.1 + 1 := by
      unfold mtS
      split
      · show 0 ≤ T.1 + 1 ∧ T.1 + 1 ≤ T.1 + 1
        omega
      · omega
    have := mtI_b (m := m) (i := i) r (k + 1) (mtS m T i k) e.1
    show 0 ≤ (mtI m i r (k + 1) (mtS m T i k)).1 ∧ (mtI m i r (k + 1) (mtS m T i k)).1 ≤ _
    omega
section
variable {n : Nat} {m : Hp}
def CM (h : Hp) (T : Int × Int × Int) : Prop := h 39 11 = T.1 ∧ h 39 12 = T.2.1 ∧ h 39 13 = T.2.2
def CW (g h : Hp) : Prop := (∀ c, c ≠ 39 → h c = g c) ∧ ∀ i, i ≠ 11 → i ≠ 12 → i ≠ 13 → h 39 i = g 39 i
theorem CW.rf {g : Hp} : CW g g := ⟨fun _ _ => rfl, fun _ _ _ _ => rfl⟩
theorem CW.pf {g h : Hp} (K : CW g h) {i v : Int} (hi : i = 11 ∨ i = 12 ∨ i = 13) : CW g (up h 39 i v) := ⟨fun c hc => by rw [up_row hc]; exact K.1 c hc, fun j j1 j2 j3 => by rw [up_i (by omega)]; exact K.2 j j1 j2 j3⟩
theorem CW.ks {g h : Hp} (K : CW g h) : KS g h := ⟨fun c hc => K.1 c (by omega), K.2 0 (by decide) (by decide) (by decide)⟩
theorem meets_ci (H : WFp m) {g : Hp} {w : Int} (hw : w = 1 ∨ w = 14) (R : RW m g w) (g0 : g 39 0 = w) {i : Int} (i0 : 0 ≤ i) (i1 : i < nB m) : ∀ (r f : Nat) (k : Int) (h : Hp) (T : Int × Int × Int), r = (nB m - k).toNat → r < f → i + 2 ≤ k → k ≤ 66 → CW g h → CM h T → 0 ≤ T.1 → T.1 ≤ 64 * i + k → ∃ h', BX7_findMeetings_34 n f i k h = some (i, h') ∧ CW g h' ∧ CM h' (mtI m i r k T)
  | r, f + 1, k, h, T, hr, hf, ik, k66, K, C, t0, t1 => by
    have hB := H.1
    have R' := K.ks.rw' R (by omega)
    have e0 : h 39 0 = w := K.ks.2.trans g0
    rw [BX7_findMeetings_34, e0, R'.1.2.2.1]
    by_cases hd : nB m ≤ k
    · have : r = 0 := by omega
      subst this
      rw [if_pos hd]
      exact ⟨h, rfl, K, C⟩
    · obtain ⟨r, rfl⟩ : ∃ r', r = r' + 1 := ⟨r - 1, by omega⟩
      have nxt := fun (h' : Hp) (T' : Int × Int × Int) (K' : CW g h') (C' : CM h' T') (a0 : 0 ≤ T'.1) (a1 : T'.1 ≤ 64 * i + (k + 1)) => meets_ci H hw R g0 i0 i1 r f (k + 1) h' T' (by omega) (by omega) (by omega) (by omega) K' C' a0 a1
      have k0 : 0 ≤ k := by omega
      have k1 : k < nB m := by omega
      have ek : w32 (k + 1) = k + 1 := w32_i (by omega)
      rw [if_neg hd, one_c H R' e0 i0 i1 k0 k1, bndp_s, meet_c H R' e0 i0 i1 k0 k1, bndp_s, ltt_e, ek]
      show ∃ h', _ = _ ∧ _ ∧ CM h' (mtI m i r (k + 1) (mtS m T i k))
      unfold mtS
      by_cases hfl : flt m i k
      · have LR := mLR H i0 i1 k0 k1 hfl
        rw [if_pos hfl, if_neg (by decide)]
        by_cases hm : mL m i k
        · rw [if_pos hm, if_neg (by decide), if_pos (show flt m i k ∧ mR m i k from ⟨hfl, LR.mp hm⟩)]
          unfold JX7_findMeetings_79 JX7_findMeetings_98
          rw [C.1, C.2.1]
          simp only [ltt_e]
          rw [ek]
          have et : w32 (T.1 + 1) = T.1 + 1 := w32_i (by omega)
          by_cases hz' : T.1 ≠ 0
          · rw [if_pos hz', up_i (h := h) (a := 39) (i := 12) (j := 11) (by decide), C.1, if_pos hz', up_i (h := h) (a := 39) (i := 12) (j := 13) (by decide), C.2.2]
            have z : up (up h 39 12 T.2.1) 39 13 T.2.2 39 11 = T.1 := by rw [up_i (by decide), up_i (by decide)]; exact C.1
            rw [z, et]
            refine nxt _ (T.1 + 1, (if T.1 ≠ 0 then T.2.1 else i), (if T.1 ≠ 0 then T.2.2 else k)) (((K.pf (by decide)).pf (by decide)).pf (by decide)) ?_ (by show 0 ≤ T.1 + 1; omega) (by show T.1 + 1 ≤ _; omega)
            rw [if_pos hz', if_pos hz']
            exact ⟨up_s, by rw [up_i (by decide), up_i (by decide), up_s], by rw [up_i (by decide), up_s]⟩
          · rw [if_neg hz', up_i (h := h) (a := 39) (i := 12) (j := 11) (by decide), C.1, if_neg hz']
            have z : up (up h 39 12 i) 39 13 k 39 11 = T.1 := by rw [up_i (by decide), up_i (by decide)]; exact C.1
            rw [z, et]
            refine nxt _ (T.1 + 1, (if T.1 ≠ 0 then T.2.1 else i), (if T.1 ≠ 0 then T.2.2 else k)) (((K.pf (by decide)).pf (by decide)).pf (by decide)) ?_ (by show 0 ≤ T.1 + 1; omega) (by show T.1 + 1 ≤ _; omega)
            rw [if_neg hz', if_neg hz']
            exact ⟨up_s, by rw [up_i (by decide), up_i (by decide), up_s], by rw [up_i (by decide), up_s]⟩
        · rw [if_neg hm, if_pos rfl, if_neg (show ¬ (flt m i k ∧ mR m i k) from fun q => hm (LR.mpr q.2))]
          exact nxt h T K C t0 (by omega)
      · rw [if_neg hfl, if_pos rfl, if_neg (show ¬ (flt m i k ∧ mR m i k) from fun q => hfl q.1)]
        exact nxt h T K C t0 (by omega)
theorem meets_co (hn : 200 ≤ n) (H : WFp m) {g : Hp} {w : Int} (hw : w = 1 ∨ w = 14) (R : RW m g w) (g0 : g 39 0 = w) : ∀ (r f : Nat) (i : Int) (h : Hp) (T : Int × Int × Int), i + r = nB m → r < f → 0 ≤ i → CW g h → CM h T → 0 ≤ T.1 → T.1 ≤ 64 * i → ∃ h', BX7_findMeetings_19 n f i h = some h' ∧ CW g h' ∧ CM h' (mtO m r i T)
  | r, f + 1, i, h, T, hr, hf, i0, K, C, t0, t1 => by
    have hB := H.1
    have R' := K.ks.rw' R (by omega)
    have e0 : h 39 0 = w := K.ks.2.trans g0
    rw [BX7_findMeetings_19, e0, R'.1.2.2.1]
    by_cases hd : nB m ≤ i
    · have : r = 0 := by omega
      subst this
      rw [if_pos hd]
      exact ⟨h, rfl, K, C⟩
    · obtain ⟨r, rfl⟩ : ∃ r', r = r' + 1 := ⟨r - 1, by omega⟩
      obtain ⟨h1, e1, K1, C1⟩ := meets_ci (n := n) H hw R g0 i0 (by omega) (nB m - (i + 2)).toNat n (i + 2) h T rfl (by omega) (by omega) (by omega) K C t0 (by omega)
      have b := mtI_b (m := m) (i := i) (nB m - (i + 2)).toNat (i + 2) T t0
      rw [if_neg hd, ltt_e, w32_i (x := i + 2) (by omega)]
      unfold LX7_findMeetings_34
      rw [e1, bndx_s]
      show ∃ h', JX7_findMeetings_117 n (BX7_findMeetings_19 n f) i h1 = some h' ∧ _
      unfold JX7_findMeetings_117
      rw [ltt_e, w32_i (x := i + 1) (by omega)]
      exact meets_co hn H hw R g0 r f (i + 1) h1 _ (by omega) (by omega) (by omega) K1 C1 b.1 (by omega)
theorem findMeetings_c (hn : 200 ≤ n) (H : WFp m) {g : Hp} {w : Int} (hw : w = 1 ∨ w = 14) (R : RW m g w) (g0 : g 39 0 = w) : ∃ h', MX7_findMeetings n g = some h' ∧ CW g h' ∧ CM h' (mtA m) := by
  have hB := H.1
  unfold MX7_findMeetings LX7_findMeetings_19
  rw [ltt_e, ltt_e, ltt_e, ltt_e]
  exact meets_co hn H hw R g0 (nB m).toNat n 0 _ (0, -2, -2) (by omega) (by omega) (by decide) (((CW.rf.pf (by decide)).pf (by decide)).pf (by decide)) ⟨by rw [up_i (by decide), up_i (by decide), up_s], by rw [up_i (by decide), up_s], up_s⟩ (by decide) (by decide)
def meetsS (m : Hp) (x : Int) : Int := if x = 0 then (mtA m).1 else if x = 1 then (mtA m).2.1 else if x = 2 then (mtA m).2.2 else -1
theorem meets_a {h : Hp} (C : CM h (mtA m)) (x : Int) : MX11_meets x h = some (meetsS m x) := by
  unfold MX11_meets meetsS
  rw [C.1, C.2.1, C.2.2]
  split
  · rfl
  · split
    · rfl
    · split
      · rfl
      · rfl
theorem meets_mi (hn : 10 ≤ n) (H : WFp m) {i : Int} (i0 : 0 ≤ i) (i1 : i < nB m) {x : Int} : ∀ (r f : Nat) (k : Int) (T : Int × Int × Int), r = (nB m - k).toNat → r < f → i + 2 ≤ k → k ≤ 66 → 0 ≤ T.1 → T.1 ≤ 64 * i + k → BX12_meets_41 n f x T.1 T.2.1 T.2.2 i k m = some (x, (mtI m i r k T).1, (mtI m i r k T).2.1, (mtI m i r k T).2.2, i)
  | r, f + 1, k, T, hr, hf, ik, k66, t0, t1 => by
    have hB := H.1
    rw [BX12_meets_41, show m 113 6 = nB m from rfl]
    by_cases hd : nB m ≤ k
    · have : r = 0 := by omega
      subst this
      rw [if_pos hd]
      rfl
    · obtain ⟨r, rfl⟩ : ∃ r', r = r' + 1 := ⟨r - 1, by omega⟩
      have nxt := fun (T' : Int × Int × Int) (a0 : 0 ≤ T'.1) (a1 : T'.1 ≤ 64 * i + (k + 1)) => meets_mi hn H i0 i1 (x := x) r f (k + 1) T' (by omega) (by omega) (by omega) (by omega) a0 a1
      have ek : w32 (k + 1) = k + 1 := w32_i (by omega)
      have et : w32 (T.1 + 1) = T.1 + 1 := w32_i (by omega)
      show _ = some (x, (mtI m i r (k + 1) (mtS m T i k)).1, (mtI m i r (k + 1) (mtS m T i k)).2.1, (mtI m i r (k + 1) (mtS m T i k)).2.2, i)
      rw [if_neg hd, meet_m hn H i0 ik (by omega), bndp_s]
      unfold mtS JX12_meets_71
      simp only [ltt_e]
      rw [ek, et]
      by_cases hm : flt m i k ∧ mR m i k
      · rw [if_pos hm, if_neg (by decide), if_pos hm]
        have z := nxt (T.1 + 1, (if T.1 ≠ 0 then T.2.1 else i), (if T.1 ≠ 0 then T.2.2 else k)) (by show 0 ≤ T.1 + 1; omega) (by show T.1 + 1 ≤ _; omega)
        by_cases hz' : T.1 ≠ 0
        · rw [if_pos hz', if_pos hz'] at z ⊢
          simp only [if_pos hz'] at z ⊢
          exact z
        · rw [if_neg hz', if_neg hz'] at z ⊢
          simp only [if_neg hz'] at z ⊢
          exact z
      · rw [if_neg hm, if_pos rfl, if_neg hm]
        exact nxt T t0 (by omega)
theorem meets_mo (hn : 200 ≤ n) (H : WFp m) {x : Int} : ∀ (r f : Nat) (i : Int) (T : Int × Int × Int), i + r = nB m → r < f → 0 ≤ i → 0 ≤ T.1 → T.1 ≤ 64 * i → BX12_meets_26 n f x T.1 T.2.1 T.2.2 i m = some (x, (mtO m r i T).1, (mtO m r i T).2.1, (mtO m r i T).2.2)
  | r, f + 1, i, T, hr, hf, i0, t0, t1 => by
    have hB := H.1
    rw [BX12_meets_26, show m 113 6 = nB m from rfl]
    by_cases hd : nB m ≤ i
    · have : r = 0 := by omega
      subst this
      rw [if_pos hd]
      rfl
    · obtain ⟨r, rfl⟩ : ∃ r', r = r' + 1 := ⟨r - 1, by omega⟩
      have e1 := meets_mi (n := n) (by omega) H i0 (by omega) (x := x) (nB m - (i + 2)).toNat n (i + 2) T rfl (by omega) (by omega) (by omega) t0 (by omega)
      have b := mtI_b (m := m) (i := i) (nB m - (i + 2)).toNat (i + 2) T t0
      rw [if_neg hd, ltt_e, w32_i (x := i + 2) (by omega)]
      unfold LX12_meets_41
      rw [e1, bndx_s]
      show JX12_meets_94 n (BX12_meets_26 n f) x _ _ _ i m = _
      unfold JX12_meets_94
      rw [ltt_e, w32_i (x := i + 1) (by omega)]
      exact meets_mo hn H r f (i + 1) _ (by omega) (by omega) (by omega) b.1 (by omega)
theorem meets_b (hn : 200 ≤ n) (H : WFp m) (x : Int) : MX12_meets n x m = some (meetsS m x) := by
  have hB := H.1
  unfold MX12_meets meetsS
  rw [in_m, bndp_s]
  by_cases h1 : 0 ≤ x ∧ x ≤ 2
  · rw [if_pos h1, if_pos (by decide), ltt_e, ltt_e, ltt_e, ltt_e]
    unfold LX12_meets_26
    have e : BX12_meets_26 n n x 0 (-2) (-2) 0 m = some (x, (mtA m).1, (mtA m).2.1, (mtA m).2.2) := meets_mo hn H (x := x) (nB m).toNat n 0 (0, -2, -2) (by omega) (by omega) (by decide) (by decide) (by decide)
    rw [e, bndx_s]
    show JX12_meets_100 n x (mtA m).1 (mtA m).2.1 (mtA m).2.2 m = _
    unfold JX12_meets_100
    by_cases y0 : x = 0
    · rw [if_neg (fun q => q y0), if_pos y0]
    · by_cases y1 : x = 1
      · rw [if_pos y0, if_neg (fun q => q y1), if_neg y0, if_pos y1]
      · rw [if_pos y0, if_pos y1, if_neg y0, if_neg y1, if_pos (show x = 2 by omega)]
  · rw [if_neg h1, if_neg (by decide), if_neg (by omega), if_neg (by omega), if_neg (by omega)]
end
