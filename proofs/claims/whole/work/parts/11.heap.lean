/-! FIELDS AND ARRAYS. -/
def fld (c s : Nat) : String × String × String × Bool := (vwCl.getD c ("", TX0, 0)).2.1 s
theorem fld_eq {c : Nat} {q : vw_C} (h : vwCl[c]? = some q) (s : Nat) : fld c s = q.2.1 s := by
  unfold fld
  rw [List.getD_eq_getElem?_getD, h]; rfl
theorem nn_some {ρ : Type} {g : Bool} {o : Int} {x : Option ρ} {r : ρ} (h : nn g o x = some r) : (g = true → 0 ≤ o) ∧ x = some r := by
  unfold nn at h
  cases g with
  | false => exact ⟨(fun q => by cases q), h⟩
  | true =>
    dsimp only at h
    split at h
    · rename_i hd
      exact ⟨fun _ => of_decide_eq_true hd, h⟩
    · cases h
theorem okref {z g : Bool} {n t : Nat} {o : Int} (ht : 4 ≤ t) (h : okz z g n t o) (h0 : g = true → 0 ≤ o) : 0 ≤ o ∧ o < Int.ofNat n ∧ kd o.toNat = t := by
  obtain ⟨u, rfl⟩ : ∃ u, t = u + 4 := ⟨t - 4, by omega⟩
  rcases (show (0 ≤ o ∧ o < Int.ofNat n ∧ kd o.toNat = u + 4) ∨ (g = true ∧ o = -1) from h) with h | ⟨h1, h2⟩
  · exact h
  · have := h0 h1
    omega
theorem okz_of {z g : Bool} {n t : Nat} {v : Int} (ht : t ≠ 3) (h : okv g n t v) : okz z g n t v := by
  unfold okz
  split
  · exact absurd rfl ht
  · exact h
theorem cf_cv {ad sa : Nat → Nat} {b t : Nat} {x : Int} (h2 : t ≠ 2) (h3 : t ≠ 3) : cf ad t x = cv ad sa b (t, x) := by
  match t, h2, h3 with
  | 0, _, _ => rfl
  | 1, _, _ => rfl
  | 2, h, _ => exact absurd rfl h
  | 3, _, h => exact absurd rfl h
  | t + 4, _, _ => rfl
theorem fbody_get {ad : Nat → Nat} {t s : Nat} {f : Int → Int} (hs : s < (fts (t - 4)).length) : (fbody ad t f)[s]? = some (cf ad ((fts (t - 4)).getD s 0) (f (Int.ofNat s))) := by
  unfold fbody
  rw [List.getElem?_map, List.getElem?_range hs]; rfl
theorem fbody_len {ad : Nat → Nat} {t : Nat} {f : Int → Int} : (fbody ad t f).length = (fts (t - 4)).length := by unfold fbody; simp
theorem entry_obj {ca : Nat → ClassId} {ad : Nat → Nat} {c : Nat} {f : Int → Int} (hc : c < 13) : entry ca ad (4 + c) f = .inr (c, fbody ad (4 + c) f) := by
  unfold entry
  have h1 : Nat.ble 20 (4 + c) = false := by
    rw [← Bool.not_eq_true, Nat.ble_eq]
    omega
  rw [h1]
  show Sum.inr (4 + c - 4, fbody ad (4 + c) f) = _
  rw [Nat.add_sub_cancel_left]
theorem entry_arr {ca : Nat → ClassId} {ad : Nat → Nat} {t : Nat} {f : Int → Int} (ht : 20 ≤ t) : entry ca ad t f = .inl (ca (aknd t), (t - 20) / 8, abody ad (aknd t) ((t - 20) / 8) f) := by
  unfold entry
  rw [Nat.ble_eq_true_of_le ht]
theorem isz_obj {c : Nat} (hc : c < 13) : isz (4 + c) = (fts c).length := by
  unfold isz
  have h1 : Nat.ble 20 (4 + c) = false := by
    rw [← Bool.not_eq_true, Nat.ble_eq]
    omega
  rw [h1]
  show (fts (4 + c - 4)).length = _
  rw [Nat.add_sub_cancel_left]
theorem itag_obj {c s : Nat} (hc : c < 13) : itag (4 + c) s = (fts c).getD s 0 := by
  unfold itag
  have h1 : Nat.ble 20 (4 + c) = false := by
    rw [← Bool.not_eq_true, Nat.ble_eq]
    omega
  rw [h1]
  show (fts (4 + c - 4)).getD s 0 = _
  rw [Nat.add_sub_cancel_left]
theorem isz_arr {t : Nat} (ht : 20 ≤ t) : isz t = (t - 20) / 8 := by
  unfold isz
  rw [Nat.ble_eq_true_of_le ht]
theorem itag_arr {t s : Nat} (ht : 20 ≤ t) : itag t s = aetag t := by
  unfold itag
  rw [Nat.ble_eq_true_of_le ht]
theorem fxv_obj {c k s : Nat} (hc : c < 13) (hd : (dll.getD c []).getD s 0 ≠ 0) : fxv (4 + c) k s = some (Int.ofNat k + (Int.ofNat ((dll.getD c []).getD s 0) - 1000)) := by
  unfold fxv
  have h1 : Nat.ble 20 (4 + c) = false := by
    rw [← Bool.not_eq_true, Nat.ble_eq]
    omega
  rw [h1]
  show (match (dll.getD (4 + c - 4) []).getD s 0 with
    | 0 => none
    | d => some (Int.ofNat k + (Int.ofNat d - 1000))) = _
  rw [Nat.add_sub_cancel_left]
  split
  · rename_i h9
    exact absurd h9 hd
  · rfl
theorem fxv_none {c k s : Nat} (hc : c < 13) (hd : (dll.getD c []).getD s 0 = 0) : fxv (4 + c) k s = none := by
  unfold fxv
  have h1 : Nat.ble 20 (4 + c) = false := by
    rw [← Bool.not_eq_true, Nat.ble_eq]
    omega
  rw [h1]
  show (match (dll.getD (4 + c - 4) []).getD s 0 with
    | 0 => none
    | d => some (Int.ofNat k + (Int.ofNat d - 1000))) = _
  rw [Nat.add_sub_cancel_left, hd]
  rfl
section
variable {p : Program} {l : Launch} {e : Env} {R : Room} {s : State} {m : MethodId} {args : Array Value} {below : List Frame} {meth : Method} {c : Code}
variable {D : va_G} {ca : Nat → ClassId} {sa : Nat → Nat} {b : Nat} {A : Nat → Prop} {cc : ByteArray} {own : String} {nL : Nat} {z g : Bool} {N : Nat} {xs : Nat → Int32} {n0 : Nat} {h0 : Hp} {ad0 : Nat → Nat} {Q : State → Prop}
variable {ρ : Type} {pc len : Nat} {k : Lc → List AV → Hp → Option ρ} {j : Nat → Lc → List AV → Hp → Option ρ} {L : Lc} {h : Hp} {r : ρ}
theorem Wl.obj {ad : Nat → Nat} {H : Heap} {c : Nat} {o : Int} (w : Wl D ca A g ad h H) (hc : c < 13) (h1 : 0 ≤ o) (h2 : o < Int.ofNat (nOf h)) (h3 : kd o.toNat = 4 + c) : (wsl ca ad (nOf h) h)[o.toNat]? = some (ad o.toNat, .inr (c, fbody ad (4 + c) (h o))) := by
  have hlt : o.toNat < nOf h := by simp only [Int.ofNat_eq_natCast] at h2; omega
  have ho : Int.ofNat o.toNat = o := by simp only [Int.ofNat_eq_natCast]; omega
  rw [wsl_get hlt, h3, ho, entry_obj hc]
theorem Wl.arr {ad : Nat → Nat} {H : Heap} {t : Nat} {o : Int} (w : Wl D ca A g ad h H) (ht : 20 ≤ t) (h1 : 0 ≤ o) (h2 : o < Int.ofNat (nOf h)) (h3 : kd o.toNat = t) : (wsl ca ad (nOf h) h)[o.toNat]? = some (ad o.toNat, .inl (ca (aknd t), (t - 20) / 8, abody ad (aknd t) ((t - 20) / 8) (h o))) := by
  have hlt : o.toNat < nOf h := by simp only [Int.ofNat_eq_natCast] at h2; omega
  have ho : Int.ofNat o.toNat = o := by simp only [Int.ofNat_eq_natCast]; omega
  rw [wsl_get hlt, h3, ho, entry_arr ht]
theorem Wl.slot {ad : Nat → Nat} {H : Heap} {t i : Nat} {o : Int} (w : Wl D ca A g ad h H) (h1 : 0 ≤ o) (h2 : o < Int.ofNat (nOf h)) (h3 : kd o.toNat = t) (hi : i < isz t) : okv g (nOf h) (itag t i) (h o (Int.ofNat i)) ∧ (g = false → ∀ x, fxv t o.toNat i = some x → h o (Int.ofNat i) = x) := by
  have hlt : o.toNat < nOf h := by simp only [Int.ofNat_eq_natCast] at h2; omega
  have ho : Int.ofNat o.toNat = o := by simp only [Int.ofNat_eq_natCast]; omega
  have := w.2.2.1 o.toNat hlt i (by rw [h3]; exact hi)
  rw [ho, h3] at this
  exact this
theorem cv_ok {ad : Nat → Nat} {t : Nat} {o : Int} (ht : 4 ≤ t) (h1 : 0 ≤ o) : cv ad sa b (t, o) = .ref (ad o.toNat) := by
  rw [cv4 ht, if_neg (by omega)]
theorem p_getfield {cn sn ft i : Nat} {o y : Int} {rr : List AV} (hc : cn < 13) (hs : sn < (fts cn).length) (hft : (fts cn).getD sn 0 = ft) (h23 : ft ≠ 2 ∧ ft ≠ 3) (hg0 : g = true → 0 ≤ o) (hy : y = h o (Int.ofNat sn) ∨ (g = false ∧ (dll.getD cn []).getD sn 0 ≠ 0 ∧ y = o + (Int.ofNat ((dll.getD cn []).getD sn 0) - 1000)))
    (hlink : (Cond.fieldLink own i (fld cn sn).1 (fld cn sn).2.1 (fld cn sn).2.2.1) ∈ lw_u ∨ ∃ host, (Cond.fieldLinkNest own i (fld cn sn).1 (fld cn sn).2.1 (fld cn sn).2.2.1 host) ∈ lw_n) (C : Cx p s m args c D ca sa b A cc own nL z N xs h0) (hk : ∀ L' S' h', k L' S' h' = some r → Cfg p l e R s m args below meth c D ca sa b A nL z g n0 h0 ad0 Q (pc + 3) L' S' h') (hd : decode cc pc = .ok (.getfield i, 3)) (H : k L ((ft, y) :: rr) h = some r) : Cfg p l e R s m args below meth c D ca sa b A nL z g n0 h0 ad0 Q pc L ((4 + cn, o) :: rr) h := by
  intro ad Hh locs ls q
  obtain ⟨w1, w2, w3⟩ := okref (by omega) (OKS.hd q.2.2.2.2.1) hg0
  obtain ⟨qc, hqc, hqn⟩ := vw_at hc
  have hf := fld_eq hqc sn
  rw [hf] at hlink
  have hw := q.1.obj hc w1 w2 w3
  have hsl := q.1.slot (i := sn) w1 w2 w3 (by rw [isz_obj hc]; exact hs)
  rw [itag_obj hc, hft] at hsl
  have hyv : y = h o (Int.ofNat sn) := by
    rcases hy with hy | ⟨hgf, hdl, hy⟩
    · exact hy
    · rw [hsl.2 hgf _ (fxv_obj hc hdl), hy]
      simp only [Int.ofNat_eq_natCast]
      omega
  subst hyv
  have hnx := hk _ _ _ H ad Hh locs ls (q.stk (OKS.cons (v := (ft, _)) (okz_of h23.2 hsl.1) (OKS.tl q.2.2.2.2.1)))
  rw [List.map_cons] at hnx ⊢
  rw [cv_ok (by omega) w1]
  have hv : (fbody ad (4 + cn) (h o))[sn]? = some (cv ad sa b (ft, h o (Int.ofNat sn))) := by
    rw [fbody_get (by rw [Nat.add_sub_cancel_left]; exact hs), Nat.add_sub_cancel_left, hft, cf_cv h23.1 h23.2]
  rcases hlink with hlink | ⟨host, hlink⟩
  · exact va_get (C := qc.1) (T := qc.2.1) (N := qc.2.2) C.1 C.2.1 C.2.2.2.2.1 (vw_in hqc) C.2.2.2.1 C.2.2.2.2.2.1 q.1.1 o.toNat hw hqc sn (by rw [hqn]; exact hs) (C.2.2.2.2.1 _ hlink) (fun _ h9 => h9) hv hd hnx
  · exact va_getN (C := qc.1) (T := qc.2.1) (N := qc.2.2) C.1 C.2.1 C.2.2.2.2.1 (vw_in hqc) C.2.2.2.1 C.2.2.2.2.2.1 q.1.1 o.toNat hw hqc sn (by rw [hqn]; exact hs) (va_Nw.use rfl (C.2.2.2.2.2.2.1.2.2.2.2.2.2 _ hlink)) (fun _ h9 => h9) hv hd hnx
theorem cnt_up {a i v : Int} (ha : 0 ≤ a) : cnt (up h a i v) = cnt h := by
  unfold cnt
  rw [up_ne (by omega)]
theorem nOf_up {a i v : Int} (ha : 0 ≤ a) : nOf (up h a i v) = nOf h := by
  unfold nOf
  rw [cnt_up ha]
theorem WT_up {n : Nat} {a i v : Int} (w : WT g n h) (ha : 0 ≤ a) (hi : 0 ≤ i) (hv : okv g n (itag (kd a.toNat) i.toNat) v) (hf : g = false → fxv (kd a.toNat) a.toNat i.toNat = none) : WT g n (up h a i v) := by
  intro k hk q hq
  have hkq := w k hk q hq
  by_cases e : Int.ofNat k = a ∧ Int.ofNat q = i
  · obtain ⟨e1, e2⟩ := e
    have e3 : a.toNat = k := by rw [← e1]; rfl
    have e4 : i.toNat = q := by rw [← e2]; rfl
    rw [e3, e4] at hv hf
    rw [e1, e2, up_at]
    exact ⟨hv, fun hg x hx => by rw [hf hg] at hx; cases hx⟩
  · rw [up_of e]
    exact hkq
theorem NE_up {a i v : Int} (hn : NE h0 h) (ha : 0 ≤ a) : NE h0 (up h a i v) := by
  obtain ⟨h1, h2⟩ := hn
  exact ⟨by rw [up_ne (by omega)]; exact h1, by rw [up_ne (by omega)]; exact h2⟩
theorem Sat.wr {a i v : Int} {S S' : List AV} {ad : Nat → Nat} {H H1 : Heap} {locs locs1 : List Loc} {ls : Array Slot} (q : Sat s D ca sa b A nL z g n0 h0 ad0 L S h ad H locs ls) (ha : 0 ≤ a) (hi : 0 ≤ i) (hlt : a < Int.ofNat (nOf h)) (hv : okv g (nOf h) (itag (kd a.toNat) i.toNat) v) (hf : g = false → fxv (kd a.toNat) a.toNat i.toNat = none) (hS : OKS z g (nOf h) S') {e : va_E} (he : e = entry ca ad (kd a.toNat) (up h a i v a))
    (p1 : va_P D vwCl ((wsl ca ad (nOf h) h).set a.toNat (ad a.toNat, e)) H1) (d1 : va_D A ((wsl ca ad (nOf h) h).set a.toNat (ad a.toNat, e))) (s1 : va_S A s.heap H1 locs1) : Sat s D ca sa b A nL z g n0 h0 ad0 L S' (up h a i v) ad H1 locs1 ls := by
  obtain ⟨⟨q1, q2, q3, q4, q5, q6⟩, -, q8, q9, -, q11, q12, q13⟩ := q
  have hn : nOf (up h a i v) = nOf h := nOf_up ha
  have haa : Int.ofNat a.toNat = a := by simp only [Int.ofNat_eq_natCast]; omega
  have hl : a.toNat < nOf h := by simp only [Int.ofNat_eq_natCast] at hlt; omega
  have hset : (wsl ca ad (nOf h) h).set a.toNat (ad a.toNat, e) = wsl ca ad (nOf h) (up h a i v) := by
    refine wsl_set hl (fun q hq => up_ne ?_) (by rw [haa]; exact he)
    intro h9
    apply hq
    have : Int.ofNat q = Int.ofNat a.toNat := by rw [haa]; exact h9
    simp only [Int.ofNat_eq_natCast] at this
    omega
  rw [hset] at p1 d1
  refine ⟨⟨by rw [hn]; exact p1, by rw [hn]; exact d1, by rw [hn]; exact WT_up q3 ha hi hv hf, by rw [cnt_up ha]; exact q4, by rw [hn]; exact q5, fun hg => by rw [hn]; exact q6 hg⟩, s1, q8, by rw [hn]; exact q9, by rw [hn]; exact hS, NE_up q11 ha, by rw [hn]; exact q12, q13⟩
theorem fbody_set {ad : Nat → Nat} {t sn : Nat} {a v : Int} (hs : sn < (fts (t - 4)).length) : (fbody ad t (h a)).set sn (cf ad ((fts (t - 4)).getD sn 0) v) = fbody ad t (up h a (Int.ofNat sn) v a) := by
  apply List.ext_getElem?
  intro i
  by_cases hi : i < (fts (t - 4)).length
  · by_cases his : i = sn
    · subst his
      rw [List.getElem?_set_self (by rw [fbody_len]; exact hi), fbody_get hi, up_at]
    · rw [List.getElem?_set_ne (Ne.symm his), fbody_get hi, fbody_get hi, up_of]
      intro h9
      apply his
      have := h9.2
      simp only [Int.ofNat_eq_natCast] at this
      omega
  · rw [List.getElem?_eq_none (by rw [List.length_set, fbody_len]; omega), List.getElem?_eq_none (by rw [fbody_len]; omega)]
theorem p_putfield {cn sn ft i : Nat} {o v : Int} {rr : List AV} (hc : cn < 13) (hs : sn < (fts cn).length) (hft : (fts cn).getD sn 0 = ft) (h23 : ft ≠ 2 ∧ ft ≠ 3) (hg0 : g = true → 0 ≤ o) (hz : vty cn sn = .boolean → v = 0 ∨ v = 1) (hty : (vty cn sn = .int ∧ ft = 0) ∨ (vty cn sn = .boolean ∧ ft = 0) ∨ ((∃ n, vty cn sn = .object n) ∧ 4 ≤ ft) ∨ ((∃ t, vty cn sn = .array t) ∧ 4 ≤ ft))
    (hfin : (fld cn sn).2.2.2 = false ∨ meth.name = "<init>") (hfx : g = false → (dll.getD cn []).getD sn 0 = 0) (hlink : (Cond.fieldLink own i (fld cn sn).1 (fld cn sn).2.1 (fld cn sn).2.2.1) ∈ lw_u) (hown9 : (fld cn sn).2.2.2 = true → own = (fld cn sn).1) (C : Cx p s m args c D ca sa b A cc own nL z N xs h0) (hk : ∀ L' S' h', k L' S' h' = some r → Cfg p l e R s m args below meth c D ca sa b A nL z g n0 h0 ad0 Q (pc + 3) L' S' h') (hd : decode cc pc = .ok (.putfield i, 3)) (H : ltt (up h o (Int.ofNat sn) v) (fun h' => k L rr h') = some r) : Cfg p l e R s m args below meth c D ca sa b A nL z g n0 h0 ad0 Q pc L ((ft, v) :: (4 + cn, o) :: rr) h := by
  intro ad Hh locs ls q
  have hv9 := OKS.hd q.2.2.2.2.1
  obtain ⟨w1, w2, w3⟩ := okref (by omega) (OKS.hd (OKS.tl q.2.2.2.2.1)) hg0
  obtain ⟨qc, hqc, hqn⟩ := vw_at hc
  have hf := fld_eq hqc sn
  have hsn : sn < qc.2.2 := by rw [hqn]; exact hs
  have htyk := vw_ty hqc sn hsn
  rw [hf] at hlink hfin hown9
  have hw := q.1.obj hc w1 w2 w3
  rw [List.map_cons, List.map_cons, cv_ok (by omega) w1]
  unfold ltt at H
  have hokv : okv g (nOf h) ft v := by
    rcases hty with ⟨_, h9⟩ | ⟨_, h9⟩ | ⟨_, h9⟩ | ⟨_, h9⟩
    · subst h9; exact hv9
    · subst h9; exact hv9
    · obtain ⟨u, rfl⟩ : ∃ u, ft = u + 4 := ⟨ft - 4, by omega⟩; exact hv9
    · obtain ⟨u, rfl⟩ : ∃ u, ft = u + 4 := ⟨ft - 4, by omega⟩; exact hv9
  have hnar : narrow (vty cn sn) (cv ad sa b (ft, v)) = cv ad sa b (ft, v) ∧ fits (vty cn sn) (cv ad sa b (ft, v)) = true := by
    rcases hty with ⟨h8, h9⟩ | ⟨h8, h9⟩ | ⟨⟨n9, h8⟩, h9⟩ | ⟨⟨n9, h8⟩, h9⟩
    · subst h9; rw [h8]; exact ⟨rfl, rfl⟩
    · subst h9
      rcases hz h8 with h7 | h7
      · subst h7; rw [h8]; exact ⟨rfl, rfl⟩
      · subst h7; rw [h8]; exact ⟨rfl, rfl⟩
    · rw [h8, cv4 h9]
      by_cases hx : v < 0
      · rw [if_pos hx]; exact ⟨rfl, rfl⟩
      · rw [if_neg hx]; exact ⟨rfl, rfl⟩
    · rw [h8, cv4 h9]
      by_cases hx : v < 0
      · rw [if_pos hx]; exact ⟨rfl, rfl⟩
      · rw [if_neg hx]; exact ⟨rfl, rfl⟩
  have hset : Sum.inr (cn, (fbody ad (4 + cn) (h o)).set sn (cv ad sa b (ft, v))) = entry ca ad (kd o.toNat) (up h o (Int.ofNat sn) v o) := by
    rw [w3, entry_obj hc, ← cf_cv h23.1 h23.2, ← hft]
    have := fbody_set (h := h) (ad := ad) (t := 4 + cn) (sn := sn) (a := o) (v := v) (by rw [Nat.add_sub_cancel_left]; exact hs)
    rw [Nat.add_sub_cancel_left] at this
    rw [this]
  have hnx := fun (H1 : Heap) (locs1 : List Loc) p1 d1 s1 => hk _ _ _ H ad H1 locs1 ls (q.wr (S' := rr) w1 (by simp only [Int.ofNat_eq_natCast]; omega) w2 (by rw [w3, itag_obj hc]; show okv g (nOf h) ((fts cn).getD sn 0) v; rw [hft]; exact hokv) (fun hg => by rw [w3]; exact fxv_none hc (hfx hg)) (OKS.tl (OKS.tl q.2.2.2.2.1)) hset p1 d1 s1)
  rw [nOf_up w1] at hnx
  by_cases hfl : (qc.2.1 sn).2.2.2 = true
  · exact va_putF (C := qc.1) (T := qc.2.1) (N := qc.2.2) C.1 C.2.1 C.2.2.2.2.1 (vw_in hqc) (vty cn) (vw_ty hqc) (vw_nm hqc) C.2.2.2.1 C.2.2.2.2.2.1 q.1.1 q.1.2.1 q.2.1 o.toNat hw hqc sn hsn (C.2.2.2.2.1 _ hlink) (fun _ h9 => h9) hfl (hfin.resolve_left (by rw [hfl]; decide)) (hown9 hfl).symm htyk hnar.1 hnar.2 (by rw [fbody_len, Nat.add_sub_cancel_left]; exact hs) hd hnx
  · exact va_put (C := qc.1) (T := qc.2.1) (N := qc.2.2) C.1 C.2.1 C.2.2.2.2.1 (vw_in hqc) (vty cn) (vw_ty hqc) (vw_nm hqc) C.2.2.2.1 C.2.2.2.2.2.1 q.1.1 q.1.2.1 q.2.1 o.toNat hw hqc sn hsn (C.2.2.2.2.1 _ hlink) (fun _ h9 => h9) (by simpa using hfl) htyk hnar.1 hnar.2 (by rw [fbody_len, Nat.add_sub_cancel_left]; exact hs) hd hnx
end
