/-! ARRAYS. -/
theorem aknd_0 {t : Nat} (h : aknd t = 0) : aetag t = 0 := by unfold aetag; rw [h]; rfl
theorem aknd_1 {t : Nat} (h : aknd t = 1) : aetag t = 1 := by unfold aetag; rw [h]; rfl
theorem aknd_2 {t : Nat} (h : aknd t = 2) : aetag t = 0 := by unfold aetag; rw [h]; rfl
theorem aknd_3 {t : Nat} (h : aknd t = 3) : aetag t = 0 := by unfold aetag; rw [h]; rfl
theorem aetag_4 {t : Nat} (h : 4 ≤ aknd t) : 4 ≤ aetag t := by
  unfold aetag
  split
  all_goals first | omega | skip
  split <;> omega
theorem ix_ok {g : Bool} {n : Nat} {i : Int} {t : Nat} (hi : okv g n 0 i) (h1 : 0 ≤ i) (h2 : i < alen t) : vp_in (Int32.ofInt i) ((t - 20) / 8) ∧ (Int32.ofInt i).toNatClampNeg = i.toNat := by
  have e := i32_id hi.1 hi.2
  refine ⟨vp_in_iff.mpr ⟨by rw [e]; exact h1, by rw [e]; exact h2⟩, ?_⟩
  show (Int32.ofInt i).toInt.toNat = _
  rw [e]
theorem fx_arr {t k i : Nat} (ht : 20 ≤ t) (h : aknd t < 4) : fxv t k i = none := by
  unfold fxv
  rw [Nat.ble_eq_true_of_le ht]
  dsimp only
  split
  all_goals first | rfl | (rename_i h9; omega)
theorem ok_mod2 {g : Bool} {n : Nat} (v : Int) : okv g n 0 (v % 2) := ⟨by omega, by omega⟩
theorem nar_z {g : Bool} {n : Nat} {v : Int} (hv : okv g n 0 v) : vp_nar .boolean (Int32.ofInt v) = Int32.ofInt (v % 2) := by
  show Int32.ofInt v &&& 1 = _
  rw [pk_and (Int32.ofInt v) (m := 1) 1 rfl]
  apply Int32.toInt_inj.mp
  have e1 : (Int32.ofInt v).toBitVec.toNat = (v % 4294967296).toNat := by
    show (BitVec.ofInt 32 v).toNat = _
    rw [BitVec.toNat_ofInt]
    rfl
  rw [e1, nI_toInt (by omega), i32_id (by omega) (by omega)]
  omega
theorem okv_w8 {g : Bool} {n : Nat} (v : Int) : okv g n 0 (w8 v) := okw8 (z := false) (g := g) (n := n) v
section
variable {p : Program} {l : Launch} {e : Env} {R : Room} {s : State} {m : MethodId} {args : Array Value} {below : List Frame} {meth : Method} {c : Code}
variable {D : va_G} {ca : Nat → ClassId} {sa : Nat → Nat} {b : Nat} {A : Nat → Prop} {cc : ByteArray} {own : String} {nL : Nat} {z g : Bool} {N : Nat} {xs : Nat → Int32} {n0 : Nat} {h0 : Hp} {ad0 : Nat → Nat} {Q : State → Prop}
variable {ρ : Type} {pc len : Nat} {k : Lc → List AV → Hp → Option ρ} {j : Nat → Lc → List AV → Hp → Option ρ} {L : Lc} {h : Hp} {r : ρ}
theorem i_nat {i : Int} (h : 0 ≤ i) : Int.ofNat i.toNat = i := by simp only [Int.ofNat_eq_natCast]; omega
theorem p_iaload {t : Nat} {i a : Int} {rr : List AV} (ht : 20 ≤ t) (he : aknd t = 0) (hg0 : g = true → 0 ≤ a) (hi : 0 ≤ i ∧ i < alen t) (C : Cx p s m args c D ca sa b A cc own nL z N xs h0) (hk : ∀ L' S' h', k L' S' h' = some r → Cfg p l e R s m args below meth c D ca sa b A nL z g n0 h0 ad0 Q (pc + 1) L' S' h') (hd : decode cc pc = .ok (.iaload, 1)) (H : k L ((0, h a i) :: rr) h = some r) : Cfg p l e R s m args below meth c D ca sa b A nL z g n0 h0 ad0 Q pc L ((0, i) :: (t, a) :: rr) h := by
  intro ad Hh locs ls q
  have hiv : okv g (nOf h) 0 i := OKS.hd q.2.2.2.2.1
  have hix := ix_ok hiv hi.1 hi.2
  obtain ⟨w1, w2, w3⟩ := okref (Nat.le_trans (by decide) ht) (OKS.hd (OKS.tl q.2.2.2.2.1)) hg0
  have hw := q.1.arr ht w1 w2 w3
  rw [he] at hw
  have hin : i.toNat < isz t := by rw [isz_arr ht]; have := hi.2; unfold alen at this; simp only [Int.ofNat_eq_natCast] at this; omega
  have hsl := q.1.slot w1 w2 w3 hin
  rw [i_nat hi.1, itag_arr ht, aknd_0 he] at hsl
  have hnx := hk _ _ _ H ad Hh locs ls (q.stk (OKS.cons (v := (0, _)) hsl.1 (OKS.tl (OKS.tl q.2.2.2.2.1))))
  rw [List.map_cons, cv0] at hnx
  rw [List.map_cons, List.map_cons, cv0, cv_ok (Nat.le_trans (by decide) ht) w1]
  refine va_iald C.1 C.2.1 C.2.2.2.2.2.1 q.1.1 a.toNat 0 hw rfl hix.1 hd ?_
  rw [hix.2]
  dsimp only
  rw [i_nat hi.1]
  exact hnx
theorem p_laload {t : Nat} {i a : Int} {rr : List AV} (ht : 20 ≤ t) (he : aknd t = 1) (hg0 : g = true → 0 ≤ a) (hi : 0 ≤ i ∧ i < alen t) (C : Cx p s m args c D ca sa b A cc own nL z N xs h0) (hk : ∀ L' S' h', k L' S' h' = some r → Cfg p l e R s m args below meth c D ca sa b A nL z g n0 h0 ad0 Q (pc + 1) L' S' h') (hd : decode cc pc = .ok (.laload, 1)) (H : k L ((1, h a i) :: rr) h = some r) : Cfg p l e R s m args below meth c D ca sa b A nL z g n0 h0 ad0 Q pc L ((0, i) :: (t, a) :: rr) h := by
  intro ad Hh locs ls q
  have hiv : okv g (nOf h) 0 i := OKS.hd q.2.2.2.2.1
  have hix := ix_ok hiv hi.1 hi.2
  obtain ⟨w1, w2, w3⟩ := okref (Nat.le_trans (by decide) ht) (OKS.hd (OKS.tl q.2.2.2.2.1)) hg0
  have hw := q.1.arr ht w1 w2 w3
  rw [he] at hw
  have hin : i.toNat < isz t := by rw [isz_arr ht]; have := hi.2; unfold alen at this; simp only [Int.ofNat_eq_natCast] at this; omega
  have hsl := q.1.slot w1 w2 w3 hin
  rw [i_nat hi.1, itag_arr ht, aknd_1 he] at hsl
  have hnx := hk _ _ _ H ad Hh locs ls (q.stk (OKS.cons (v := (1, _)) hsl.1 (OKS.tl (OKS.tl q.2.2.2.2.1))))
  rw [List.map_cons, cv1] at hnx
  rw [List.map_cons, List.map_cons, cv0, cv_ok (Nat.le_trans (by decide) ht) w1]
  refine va_lald C.1 C.2.1 C.2.2.2.2.2.1 q.1.1 a.toNat 1 hw rfl hix.1 hd ?_
  rw [hix.2]
  dsimp only
  rw [i_nat hi.1]
  exact hnx
theorem p_zaload {t : Nat} {i a : Int} {rr : List AV} (ht : 20 ≤ t) (he : aknd t = 2) (hg0 : g = true → 0 ≤ a) (hi : 0 ≤ i ∧ i < alen t) (C : Cx p s m args c D ca sa b A cc own nL z N xs h0) (hk : ∀ L' S' h', k L' S' h' = some r → Cfg p l e R s m args below meth c D ca sa b A nL z g n0 h0 ad0 Q (pc + 1) L' S' h') (hd : decode cc pc = .ok (.baload, 1)) (H : k L ((0, h a i) :: rr) h = some r) : Cfg p l e R s m args below meth c D ca sa b A nL z g n0 h0 ad0 Q pc L ((0, i) :: (t, a) :: rr) h := by
  intro ad Hh locs ls q
  have hiv : okv g (nOf h) 0 i := OKS.hd q.2.2.2.2.1
  have hix := ix_ok hiv hi.1 hi.2
  obtain ⟨w1, w2, w3⟩ := okref (Nat.le_trans (by decide) ht) (OKS.hd (OKS.tl q.2.2.2.2.1)) hg0
  have hw := q.1.arr ht w1 w2 w3
  rw [he] at hw
  have hin : i.toNat < isz t := by rw [isz_arr ht]; have := hi.2; unfold alen at this; simp only [Int.ofNat_eq_natCast] at this; omega
  have hsl := q.1.slot w1 w2 w3 hin
  rw [i_nat hi.1, itag_arr ht, aknd_2 he] at hsl
  have hnx := hk _ _ _ H ad Hh locs ls (q.stk (OKS.cons (v := (0, _)) hsl.1 (OKS.tl (OKS.tl q.2.2.2.2.1))))
  rw [List.map_cons, cv0] at hnx
  rw [List.map_cons, List.map_cons, cv0, cv_ok (Nat.le_trans (by decide) ht) w1]
  refine va_zald C.1 C.2.1 C.2.2.2.2.2.1 q.1.1 a.toNat 2 hw rfl hix.1 hd ?_
  rw [hix.2]
  dsimp only
  rw [i_nat hi.1]
  exact hnx
theorem p_baload {t : Nat} {i a : Int} {rr : List AV} (ht : 20 ≤ t) (he : aknd t = 3) (hg0 : g = true → 0 ≤ a) (hi : 0 ≤ i ∧ i < alen t) (C : Cx p s m args c D ca sa b A cc own nL z N xs h0) (hk : ∀ L' S' h', k L' S' h' = some r → Cfg p l e R s m args below meth c D ca sa b A nL z g n0 h0 ad0 Q (pc + 1) L' S' h') (hd : decode cc pc = .ok (.baload, 1)) (H : k L ((0, h a i) :: rr) h = some r) : Cfg p l e R s m args below meth c D ca sa b A nL z g n0 h0 ad0 Q pc L ((0, i) :: (t, a) :: rr) h := by
  intro ad Hh locs ls q
  have hiv : okv g (nOf h) 0 i := OKS.hd q.2.2.2.2.1
  have hix := ix_ok hiv hi.1 hi.2
  obtain ⟨w1, w2, w3⟩ := okref (Nat.le_trans (by decide) ht) (OKS.hd (OKS.tl q.2.2.2.2.1)) hg0
  have hw := q.1.arr ht w1 w2 w3
  rw [he] at hw
  have hin : i.toNat < isz t := by rw [isz_arr ht]; have := hi.2; unfold alen at this; simp only [Int.ofNat_eq_natCast] at this; omega
  have hsl := q.1.slot w1 w2 w3 hin
  rw [i_nat hi.1, itag_arr ht, aknd_3 he] at hsl
  have hnx := hk _ _ _ H ad Hh locs ls (q.stk (OKS.cons (v := (0, _)) hsl.1 (OKS.tl (OKS.tl q.2.2.2.2.1))))
  rw [List.map_cons, cv0] at hnx
  rw [List.map_cons, List.map_cons, cv0, cv_ok (Nat.le_trans (by decide) ht) w1]
  refine va_bald C.1 C.2.1 C.2.2.2.2.2.1 q.1.1 a.toNat 3 hw rfl hix.1 hd ?_
  rw [hix.2]
  dsimp only
  rw [i_nat hi.1]
  exact hnx
theorem p_iastore {t : Nat} {i a v : Int} {rr : List AV} (ht : 20 ≤ t) (he : aknd t = 0) (hg0 : g = true → 0 ≤ a) (hi : 0 ≤ i ∧ i < alen t) (C : Cx p s m args c D ca sa b A cc own nL z N xs h0) (hk : ∀ L' S' h', k L' S' h' = some r → Cfg p l e R s m args below meth c D ca sa b A nL z g n0 h0 ad0 Q (pc + 1) L' S' h') (hd : decode cc pc = .ok (.iastore, 1)) (H : ltt (up h a i v) (fun h' => k L rr h') = some r) : Cfg p l e R s m args below meth c D ca sa b A nL z g n0 h0 ad0 Q pc L ((0, v) :: (0, i) :: (t, a) :: rr) h := by
  intro ad Hh locs ls q
  have hv : okv g (nOf h) 0 v := OKS.hd q.2.2.2.2.1
  have hiv : okv g (nOf h) 0 i := OKS.hd (OKS.tl q.2.2.2.2.1)
  have hix := ix_ok hiv hi.1 hi.2
  obtain ⟨w1, w2, w3⟩ := okref (Nat.le_trans (by decide) ht) (OKS.hd (OKS.tl (OKS.tl q.2.2.2.2.1))) hg0
  have hw := q.1.arr ht w1 w2 w3
  rw [he] at hw
  rw [List.map_cons, List.map_cons, List.map_cons, cv0, cv0, cv_ok (Nat.le_trans (by decide) ht) w1]
  unfold ltt at H
  have hin : i.toNat < isz t := by rw [isz_arr ht]; have := hi.2; unfold alen at this; simp only [Int.ofNat_eq_natCast] at this; omega
  have hnx := fun (H1 : Heap) (locs1 : List Loc) e9 he9 p1 d1 s1 => hk _ _ _ H ad H1 locs1 ls (q.wr (S' := rr) (e := e9) w1 hi.1 w2 (by rw [w3, itag_arr ht, aknd_0 he]; exact hv) (fun hg => by rw [w3]; exact fx_arr ht (by rw [he]; decide)) (OKS.tl (OKS.tl (OKS.tl q.2.2.2.2.1))) he9 p1 d1 s1)
  rw [nOf_up w1] at hnx
  refine va_iast C.1 C.2.1 C.2.2.2.2.2.1 q.1.1 q.1.2.1 q.2.1 a.toNat 0 hw rfl hix.1 hd (fun H1 locs1 p1 d1 s1 => hnx H1 locs1 _ ?_ p1 d1 s1)
  rw [w3, entry_arr ht, he, hix.2]
  unfold abody
  dsimp only
  congr 4
  funext q9
  unfold upd
  by_cases hq9 : q9 = i.toNat
  · rw [if_pos hq9]
    have e9 : Int.ofNat q9 = i := by rw [hq9, i_nat hi.1]
    rw [e9, up_at]
    try rfl
  · rw [if_neg hq9, up_of]
    intro h9
    apply hq9
    have := h9.2
    rw [← this]; rfl
theorem p_lastore {t : Nat} {i a v : Int} {rr : List AV} (ht : 20 ≤ t) (he : aknd t = 1) (hg0 : g = true → 0 ≤ a) (hi : 0 ≤ i ∧ i < alen t) (C : Cx p s m args c D ca sa b A cc own nL z N xs h0) (hk : ∀ L' S' h', k L' S' h' = some r → Cfg p l e R s m args below meth c D ca sa b A nL z g n0 h0 ad0 Q (pc + 1) L' S' h') (hd : decode cc pc = .ok (.lastore, 1)) (H : ltt (up h a i v) (fun h' => k L rr h') = some r) : Cfg p l e R s m args below meth c D ca sa b A nL z g n0 h0 ad0 Q pc L ((1, v) :: (0, i) :: (t, a) :: rr) h := by
  intro ad Hh locs ls q
  have hv : okv g (nOf h) 1 v := OKS.hd q.2.2.2.2.1
  have hiv : okv g (nOf h) 0 i := OKS.hd (OKS.tl q.2.2.2.2.1)
  have hix := ix_ok hiv hi.1 hi.2
  obtain ⟨w1, w2, w3⟩ := okref (Nat.le_trans (by decide) ht) (OKS.hd (OKS.tl (OKS.tl q.2.2.2.2.1))) hg0
  have hw := q.1.arr ht w1 w2 w3
  rw [he] at hw
  rw [List.map_cons, List.map_cons, List.map_cons, cv1, cv0, cv_ok (Nat.le_trans (by decide) ht) w1]
  unfold ltt at H
  have hin : i.toNat < isz t := by rw [isz_arr ht]; have := hi.2; unfold alen at this; simp only [Int.ofNat_eq_natCast] at this; omega
  have hnx := fun (H1 : Heap) (locs1 : List Loc) e9 he9 p1 d1 s1 => hk _ _ _ H ad H1 locs1 ls (q.wr (S' := rr) (e := e9) w1 hi.1 w2 (by rw [w3, itag_arr ht, aknd_1 he]; exact hv) (fun hg => by rw [w3]; exact fx_arr ht (by rw [he]; decide)) (OKS.tl (OKS.tl (OKS.tl q.2.2.2.2.1))) he9 p1 d1 s1)
  rw [nOf_up w1] at hnx
  refine va_last C.1 C.2.1 C.2.2.2.2.2.1 q.1.1 q.1.2.1 q.2.1 a.toNat 1 hw rfl hix.1 hd (fun H1 locs1 p1 d1 s1 => hnx H1 locs1 _ ?_ p1 d1 s1)
  rw [w3, entry_arr ht, he, hix.2]
  unfold abody
  dsimp only
  congr 5
  funext q9
  unfold vp_updL
  by_cases hq9 : q9 = i.toNat
  · rw [if_pos hq9]
    have e9 : Int.ofNat q9 = i := by rw [hq9, i_nat hi.1]
    rw [e9, up_at]
    try rfl
  · rw [if_neg hq9, up_of]
    intro h9
    apply hq9
    have := h9.2
    rw [← this]; rfl
theorem p_zastore {t : Nat} {i a v : Int} {rr : List AV} (ht : 20 ≤ t) (he : aknd t = 2) (hg0 : g = true → 0 ≤ a) (hi : 0 ≤ i ∧ i < alen t) (C : Cx p s m args c D ca sa b A cc own nL z N xs h0) (hk : ∀ L' S' h', k L' S' h' = some r → Cfg p l e R s m args below meth c D ca sa b A nL z g n0 h0 ad0 Q (pc + 1) L' S' h') (hd : decode cc pc = .ok (.bastore, 1)) (H : ltt (up h a i (v % 2)) (fun h' => k L rr h') = some r) : Cfg p l e R s m args below meth c D ca sa b A nL z g n0 h0 ad0 Q pc L ((0, v) :: (0, i) :: (t, a) :: rr) h := by
  intro ad Hh locs ls q
  have hv : okv g (nOf h) 0 v := OKS.hd q.2.2.2.2.1
  have hiv : okv g (nOf h) 0 i := OKS.hd (OKS.tl q.2.2.2.2.1)
  have hix := ix_ok hiv hi.1 hi.2
  obtain ⟨w1, w2, w3⟩ := okref (Nat.le_trans (by decide) ht) (OKS.hd (OKS.tl (OKS.tl q.2.2.2.2.1))) hg0
  have hw := q.1.arr ht w1 w2 w3
  rw [he] at hw
  rw [List.map_cons, List.map_cons, List.map_cons, cv0, cv0, cv_ok (Nat.le_trans (by decide) ht) w1]
  unfold ltt at H
  have hin : i.toNat < isz t := by rw [isz_arr ht]; have := hi.2; unfold alen at this; simp only [Int.ofNat_eq_natCast] at this; omega
  have hnx := fun (H1 : Heap) (locs1 : List Loc) e9 he9 p1 d1 s1 => hk _ _ _ H ad H1 locs1 ls (q.wr (S' := rr) (e := e9) w1 hi.1 w2 (by rw [w3, itag_arr ht, aknd_2 he]; exact (ok_mod2 v)) (fun hg => by rw [w3]; exact fx_arr ht (by rw [he]; decide)) (OKS.tl (OKS.tl (OKS.tl q.2.2.2.2.1))) he9 p1 d1 s1)
  rw [nOf_up w1] at hnx
  refine va_zast C.1 C.2.1 C.2.2.2.2.2.1 q.1.1 q.1.2.1 q.2.1 a.toNat 2 hw rfl hix.1 hd (fun H1 locs1 p1 d1 s1 => hnx H1 locs1 _ ?_ p1 d1 s1)
  rw [w3, entry_arr ht, he, hix.2]
  unfold abody
  dsimp only
  congr 4
  funext q9
  unfold upd
  by_cases hq9 : q9 = i.toNat
  · rw [if_pos hq9]
    have e9 : Int.ofNat q9 = i := by rw [hq9, i_nat hi.1]
    rw [e9, up_at]
    exact nar_z hv
  · rw [if_neg hq9, up_of]
    intro h9
    apply hq9
    have := h9.2
    rw [← this]; rfl
theorem p_bastore {t : Nat} {i a v : Int} {rr : List AV} (ht : 20 ≤ t) (he : aknd t = 3) (hg0 : g = true → 0 ≤ a) (hi : 0 ≤ i ∧ i < alen t) (C : Cx p s m args c D ca sa b A cc own nL z N xs h0) (hk : ∀ L' S' h', k L' S' h' = some r → Cfg p l e R s m args below meth c D ca sa b A nL z g n0 h0 ad0 Q (pc + 1) L' S' h') (hd : decode cc pc = .ok (.bastore, 1)) (H : ltt (up h a i (w8 v)) (fun h' => k L rr h') = some r) : Cfg p l e R s m args below meth c D ca sa b A nL z g n0 h0 ad0 Q pc L ((0, v) :: (0, i) :: (t, a) :: rr) h := by
  intro ad Hh locs ls q
  have hv : okv g (nOf h) 0 v := OKS.hd q.2.2.2.2.1
  have hiv : okv g (nOf h) 0 i := OKS.hd (OKS.tl q.2.2.2.2.1)
  have hix := ix_ok hiv hi.1 hi.2
  obtain ⟨w1, w2, w3⟩ := okref (Nat.le_trans (by decide) ht) (OKS.hd (OKS.tl (OKS.tl q.2.2.2.2.1))) hg0
  have hw := q.1.arr ht w1 w2 w3
  rw [he] at hw
  rw [List.map_cons, List.map_cons, List.map_cons, cv0, cv0, cv_ok (Nat.le_trans (by decide) ht) w1]
  unfold ltt at H
  have hin : i.toNat < isz t := by rw [isz_arr ht]; have := hi.2; unfold alen at this; simp only [Int.ofNat_eq_natCast] at this; omega
  have hnx := fun (H1 : Heap) (locs1 : List Loc) e9 he9 p1 d1 s1 => hk _ _ _ H ad H1 locs1 ls (q.wr (S' := rr) (e := e9) w1 hi.1 w2 (by rw [w3, itag_arr ht, aknd_3 he]; exact okv_w8 v) (fun hg => by rw [w3]; exact fx_arr ht (by rw [he]; decide)) (OKS.tl (OKS.tl (OKS.tl q.2.2.2.2.1))) he9 p1 d1 s1)
  rw [nOf_up w1] at hnx
  refine va_bast C.1 C.2.1 C.2.2.2.2.2.1 q.1.1 q.1.2.1 q.2.1 a.toNat 3 hw rfl hix.1 hd (fun H1 locs1 p1 d1 s1 => hnx H1 locs1 _ ?_ p1 d1 s1)
  rw [w3, entry_arr ht, he, hix.2]
  unfold abody
  dsimp only
  congr 4
  funext q9
  unfold upd
  by_cases hq9 : q9 = i.toNat
  · rw [if_pos hq9]
    have e9 : Int.ofNat q9 = i := by rw [hq9, i_nat hi.1]
    rw [e9, up_at]
    rw [vp_nar_byte]; exact n_i2b hv
  · rw [if_neg hq9, up_of]
    intro h9
    apply hq9
    have := h9.2
    rw [← this]; rfl
end
