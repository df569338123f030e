/-! MAKING. -/
theorem vty_tag_all : ((List.range 13).all fun c => (List.range (fts c).length).all fun k => match vty c k with
    | .int => Nat.beq ((fts c).getD k 0) 0
    | .boolean => Nat.beq ((fts c).getD k 0) 0
    | .object _ => Nat.ble 4 ((fts c).getD k 0)
    | .array _ => Nat.ble 4 ((fts c).getD k 0)
    | _ => false) = true := by decide +kernel
theorem vty_tag {c k : Nat} (hc : c < 13) (hk : k < (fts c).length) : (vty c k = .int ∧ (fts c).getD k 0 = 0) ∨ (vty c k = .boolean ∧ (fts c).getD k 0 = 0) ∨ ((∃ n, vty c k = .object n) ∧ 4 ≤ (fts c).getD k 0) ∨ ((∃ t, vty c k = .array t) ∧ 4 ≤ (fts c).getD k 0) := by
  have h1 := List.all_eq_true.mp (List.all_eq_true.mp vty_tag_all c (List.mem_range.mpr hc)) k (List.mem_range.mpr hk)
  split at h1
  · rename_i h2; exact Or.inl ⟨h2, Nat.eq_of_beq_eq_true h1⟩
  · rename_i h2; exact Or.inr (Or.inl ⟨h2, Nat.eq_of_beq_eq_true h1⟩)
  · rename_i h2; exact Or.inr (Or.inr (Or.inl ⟨⟨_, h2⟩, Nat.le_of_ble_eq_true h1⟩))
  · rename_i h2; exact Or.inr (Or.inr (Or.inr ⟨⟨_, h2⟩, Nat.le_of_ble_eq_true h1⟩))
  · cases h1
theorem dflt_4 {t : Nat} {i : Int} (h : 2 ≤ itag t i.toNat) : dflt t i = -1 := by
  unfold dflt
  rw [Nat.ble_eq_true_of_le h]
theorem dflt_0 {t : Nat} {i : Int} (h : itag t i.toNat < 2) : dflt t i = 0 := by
  unfold dflt
  have : Nat.ble 2 (itag t i.toNat) = false := by
    rw [← Bool.not_eq_true, Nat.ble_eq]
    omega
  rw [this]
theorem alc_at {h : Hp} {t : Nat} {i : Int} : alc h t (cnt h) i = dflt t i := by unfold alc; rw [if_pos rfl]
theorem alc_ne {h : Hp} {t : Nat} {b i : Int} (h1 : b ≠ cnt h) (h2 : ¬ (b = -1 ∧ i = 0)) : alc h t b i = h b i := by unfold alc; rw [if_neg h1, if_neg h2]
theorem cnt_alc {h : Hp} {t : Nat} (h0 : 0 ≤ cnt h) : cnt (alc h t) = cnt h + 1 := by
  show alc h t (-1) 0 = _
  unfold alc
  rw [if_neg (by omega), if_pos ⟨rfl, rfl⟩]
theorem nOf_alc {h : Hp} {t : Nat} (h0 : 0 ≤ cnt h) : nOf (alc h t) = nOf h + 1 := by
  unfold nOf
  rw [cnt_alc h0]
  omega
theorem slc_succ (n : Nat) : slc (n + 1) = slc n + isz (kd n) := by
  unfold slc
  rw [List.range_succ, List.map_append, List.sum_append]
  simp
theorem okv_mono {g : Bool} {n n' t : Nat} {v : Int} (hn : n ≤ n') (h : okv g n t v) : okv g n' t v := by
  match t, h with
  | 0, h => exact h
  | 1, h => exact h
  | 2, h => exact h
  | 3, h => exact h
  | t + 4, h =>
    rcases (show (0 ≤ v ∧ v < Int.ofNat n ∧ kd v.toNat = t + 4) ∨ (g = true ∧ v = -1) from h) with h | h
    · exact Or.inl ⟨h.1, by have := h.2.1; simp only [Int.ofNat_eq_natCast] at this ⊢; omega, h.2.2⟩
    · exact Or.inr h
theorem okv_dflt {n t : Nat} {i : Int} (h : itag t i.toNat ≠ 2 ∧ itag t i.toNat ≠ 3) : okv true n (itag t i.toNat) (dflt t i) := by
  by_cases h2 : 2 ≤ itag t i.toNat
  · rw [dflt_4 h2]
    obtain ⟨u, hu⟩ : ∃ u, itag t i.toNat = u + 4 := ⟨itag t i.toNat - 4, by omega⟩
    rw [hu]
    exact Or.inr ⟨rfl, rfl⟩
  · rw [dflt_0 (by omega)]
    rcases (show itag t i.toNat = 0 ∨ itag t i.toNat = 1 by omega) with h9 | h9 <;> rw [h9] <;> exact ⟨by decide, by decide⟩
theorem cf_ad {ad ad' : Nat → Nat} {g : Bool} {n t : Nat} {v : Int} (h2 : t ≠ 2) (h3 : t ≠ 3) (h : okv g n t v) (ha : ∀ k, k < n → ad' k = ad k) : cf ad' t v = cf ad t v := by
  rw [cf_cv (sa := fun _ => 0) (b := 0) h2 h3, cf_cv (sa := fun _ => 0) (b := 0) h2 h3]
  exact cv_ad (okz_of (z := false) h3 h) ha
theorem tag_all : (ftl.all fun l => l.all fun t => !Nat.beq t 2 && !Nat.beq t 3) = true := by decide +kernel
theorem itag_ne {t i : Nat} (hi : i < isz t) : itag t i ≠ 2 ∧ itag t i ≠ 3 := by
  unfold itag
  unfold isz at hi
  cases hb : Nat.ble 20 t with
  | true =>
    dsimp only
    unfold aetag
    split
    all_goals first | (constructor <;> decide) | skip
    split <;> constructor <;> decide
  | false =>
    rw [hb] at hi
    dsimp only at hi ⊢
    unfold fts at hi ⊢
    cases hq : ftl[t - 4]? with
    | none =>
      rw [List.getD_eq_getElem?_getD, hq] at hi
      exact absurd hi (Nat.not_lt_zero _)
    | some l =>
      have e9 : ftl.getD (t - 4) [] = l := by rw [List.getD_eq_getElem?_getD, hq]; rfl
      rw [e9] at hi ⊢
      have hl : l ∈ ftl := List.mem_of_getElem? hq
      have hi2 : i < l.length := hi
      have h1 := List.all_eq_true.mp (List.all_eq_true.mp tag_all l hl) _ (List.getElem_mem hi2)
      show l.getD i 0 ≠ 2 ∧ l.getD i 0 ≠ 3
      rw [List.getD_eq_getElem?_getD, List.getElem?_eq_getElem hi2]
      rw [nbq, nbq] at h1
      simp only [Bool.and_eq_true, Bool.not_eq_true', beq_eq_false_iff_ne] at h1
      exact h1
theorem entry_ad {ca : Nat → ClassId} {ad ad' : Nat → Nat} {g : Bool} {n t : Nat} {f : Int → Int} (h : ∀ i : Nat, i < isz t → okv g n (itag t i) (f (Int.ofNat i))) (ha : ∀ k, k < n → ad' k = ad k) : entry ca ad' t f = entry ca ad t f := by
  unfold entry
  cases hb : Nat.ble 20 t with
  | true =>
    have ht := Nat.le_of_ble_eq_true hb
    dsimp only
    congr 3
    by_cases h4 : 4 ≤ aknd t
    · rw [abody_q h4, abody_q h4]
      congr 4
      funext j
      by_cases hj : f (Int.ofNat j) < 0 ∨ (t - 20) / 8 ≤ j
      · rw [if_pos hj, if_pos hj]
      · rw [if_neg hj, if_neg hj]
        have h1 := h j (by rw [isz_arr ht]; omega)
        rw [itag_arr ht] at h1
        have h5 := aetag_4 h4
        obtain ⟨u, hu⟩ : ∃ u, aetag t = u + 4 := ⟨aetag t - 4, by omega⟩
        rw [hu] at h1
        rcases (show (0 ≤ f (Int.ofNat j) ∧ f (Int.ofNat j) < Int.ofNat n ∧ kd (f (Int.ofNat j)).toNat = u + 4) ∨ (g = true ∧ f (Int.ofNat j) = -1) from h1) with h1 | h1
        · have h7 : f (Int.ofNat j) < (n : Int) := h1.2.1
          rw [ha _ (by omega)]
        · omega
    · have h9 : aknd t = 0 ∨ aknd t = 1 ∨ aknd t = 2 ∨ aknd t = 3 := by omega
      rcases h9 with h9 | h9 | h9 | h9 <;> rw [h9] <;> rfl
  | false =>
    dsimp only
    congr 2
    unfold fbody
    apply List.map_congr_left
    intro i hi
    have hi := List.mem_range.mp hi
    have hz : i < isz t := by unfold isz; rw [hb]; exact hi
    have h1 := h i hz
    have h2 := itag_ne hz
    have h3 : itag t i = (fts (t - 4)).getD i 0 := by unfold itag; rw [hb]
    rw [h3] at h1 h2
    exact cf_ad h2.1 h2.2 h1 ha
section
variable {p : Program} {l : Launch} {e : Env} {R : Room} {s : State} {m : MethodId} {args : Array Value} {below : List Frame} {meth : Method} {c : Code}
variable {D : va_G} {ca : Nat → ClassId} {sa : Nat → Nat} {b : Nat} {A : Nat → Prop} {cc : ByteArray} {own : String} {nL : Nat} {z g : Bool} {N : Nat} {xs : Nat → Int32} {n0 : Nat} {h0 : Hp} {ad0 : Nat → Nat} {Q : State → Prop}
variable {ρ : Type} {pc len : Nat} {k : Lc → List AV → Hp → Option ρ} {j : Nat → Lc → List AV → Hp → Option ρ} {L : Lc} {h : Hp} {r : ρ}
theorem wsl_push {ad : Nat → Nat} {H : Heap} {t qa : Nat} (w : Wl D ca A true ad h H) (hk : kd (nOf h) = t) : wsl ca (fun k => if k = nOf h then qa else ad k) (nOf h + 1) (alc h t) = wsl ca ad (nOf h) h ++ [(qa, entry ca (fun k => if k = nOf h then qa else ad k) t (dflt t))] := by
  have h0 := w.2.2.2.1
  have hc : Int.ofNat (nOf h) = cnt h := by unfold nOf; simp only [Int.ofNat_eq_natCast]; omega
  unfold wsl
  rw [List.range_succ, List.map_append, List.map_cons, List.map_nil]
  congr 1
  · apply List.map_congr_left
    intro k hk9
    have hk9 := List.mem_range.mp hk9
    have hne : k ≠ nOf h := by omega
    have hrow : alc h t (Int.ofNat k) = h (Int.ofNat k) := by
      funext i
      exact alc_ne (by rw [← hc]; simp only [Int.ofNat_eq_natCast]; omega) (fun q => by have := q.1; simp only [Int.ofNat_eq_natCast] at this; omega)
    dsimp only
    rw [if_neg hne, hrow]
    congr 1
    exact entry_ad (g := true) (n := nOf h) (fun i hi => (w.2.2.1 k hk9 i hi).1) (fun k9 h9 => if_neg (by omega))
  · dsimp only
    rw [if_pos rfl, hk, hc]
    congr 3
    funext i
    exact alc_at
theorem sat_push {ad : Nat → Nat} {H H1 : Heap} {locs locs1 : List Loc} {ls : Array Slot} {S S' : List AV} {t qa : Nat} (q : Sat s D ca sa b A nL z g n0 h0 ad0 L S h ad H locs ls) (hg : g = true) (hk : kd (nOf h) = t) (hlt : nOf h < 148) (hS' : OKS z g (nOf h + 1) S')
    (p1 : va_P D vwCl (wsl ca ad (nOf h) h ++ [(qa, entry ca (fun k => if k = nOf h then qa else ad k) t (dflt t))]) H1) (d1 : va_D A (wsl ca ad (nOf h) h ++ [(qa, entry ca (fun k => if k = nOf h then qa else ad k) t (dflt t))])) (s1 : va_S A s.heap H1 locs1) : Sat s D ca sa b A nL z g n0 h0 ad0 L S' (alc h t) (fun k => if k = nOf h then qa else ad k) H1 locs1 ls := by
  subst hg
  have h0 := q.1.2.2.2.1
  have hc : Int.ofNat (nOf h) = cnt h := by unfold nOf; simp only [Int.ofNat_eq_natCast]; omega
  rw [← wsl_push q.1 hk] at p1 d1
  have hn : nOf (alc h t) = nOf h + 1 := nOf_alc h0
  have hadk : ∀ k, k < nOf h → (if k = nOf h then qa else ad k) = ad k := fun k hk9 => if_neg (by omega)
  refine ⟨⟨by rw [hn]; exact p1, by rw [hn]; exact d1, ?_, by rw [cnt_alc h0]; omega, by omega, (fun h9 => by cases h9)⟩, s1, ?_, fun q9 h9 => okz_mono (by omega) (q.2.2.2.1 q9 h9), by rw [hn]; exact hS', ?_, by have := q.2.2.2.2.2.2.1; omega, fun k9 h9 => ?_⟩
  · rw [hn]
    intro k9 hk9 i hi
    refine ⟨?_, (fun h9 => by cases h9)⟩
    by_cases e : k9 = nOf h
    · subst e
      rw [hc, alc_at, hk]
      rw [hk] at hi
      have := okv_dflt (n := nOf h + 1) (t := t) (i := Int.ofNat i) (itag_ne hi)
      exact this
    · rw [alc_ne (by rw [← hc]; simp only [Int.ofNat_eq_natCast]; omega) (fun q9 => by have := q9.1; simp only [Int.ofNat_eq_natCast] at this; omega)]
      exact okv_mono (by omega) (q.1.2.2.1 k9 (by omega) i hi).1
  · have : cvl (fun k => if k = nOf h then qa else ad k) sa b L = cvl ad sa b L := by
      unfold cvl
      apply List.map_congr_left
      intro q9 h9
      rw [cv_ad (q.2.2.2.1 q9 h9) hadk]
    rw [this]
    exact q.2.2.1
  · have hne := q.2.2.2.2.2.1
    refine ⟨?_, ?_⟩
    · rw [← hne.1]
      funext i
      exact alc_ne (by omega) (fun q9 => by omega)
    · rw [← hne.2]
      exact alc_ne (by omega) (fun q9 => by omega)
  · show (if k9 = nOf h then qa else ad k9) = _
    have := q.2.2.2.2.2.2.1
    rw [if_neg (by omega)]
    exact q.2.2.2.2.2.2.2 k9 h9
theorem map_push {ad : Nat → Nat} {H : Heap} {locs : List Loc} {ls : Array Slot} {S : List AV} {qa : Nat} (q : Sat s D ca sa b A nL z g n0 h0 ad0 L S h ad H locs ls) : S.map (cv (fun k => if k = nOf h then qa else ad k) sa b) = S.map (cv ad sa b) := List.map_congr_left (fun vv hv => cv_ad (q.2.2.2.2.1 vv hv) (fun k hk9 => if_neg (by omega)))
theorem okz_new {t : Nat} (ht : 4 ≤ t) (h0 : 0 ≤ cnt h) (hk : kd (nOf h) = t) : okz z true (nOf h + 1) t (cnt h) := by
  obtain ⟨u, rfl⟩ : ∃ u, t = u + 4 := ⟨t - 4, by omega⟩
  refine Or.inl ⟨h0, ?_, hk⟩
  unfold nOf
  simp only [Int.ofNat_eq_natCast]
  omega
theorem p_new {cn i : Nat} {S : List AV} {qc : vw_C} (hg : g = true) (hc : cn < 13) (hqc : vwCl[cn]? = some qc) (hk9 : kd (nOf h) = 4 + cn) (hlt : nOf h < 148) (hbd : ∀ L' S' h', k L' S' h' = some r → nOf h' - n0 ≤ R.cells ∧ slc (nOf h') - slc n0 ≤ R.slots) (w1 : (Cond.classLink own i qc.1) ∈ lw_u) (w2 : (Cond.instantiable qc.1 qc.2.2) ∈ lw_u) (w3 : (Cond.initialized qc.1) ∈ lw_u) (C : Cx p s m args c D ca sa b A cc own nL z N xs h0) (hk : ∀ L' S' h', k L' S' h' = some r → Cfg p l e R s m args below meth c D ca sa b A nL z g n0 h0 ad0 Q (pc + 3) L' S' h') (hd : decode cc pc = .ok (.new i, 3)) (H : ltt (alc h (4 + cn)) (fun h' => k L ((4 + cn, cnt h) :: S) h') = some r) : Cfg p l e R s m args below meth c D ca sa b A nL z g n0 h0 ad0 Q pc L S h := by
  intro ad Hh locs ls q
  unfold ltt at H
  have h0 := q.1.2.2.2.1
  have hn : nOf (alc h (4 + cn)) = nOf h + 1 := nOf_alc h0
  have hb := hbd _ _ _ H
  rw [hn] at hb
  obtain ⟨qc', hqc', hN⟩ := vw_at hc
  rw [hqc] at hqc'
  cases hqc'
  have hsz : isz (4 + cn) = qc.2.2 := by rw [isz_obj hc, hN]
  have hsl := slc_succ (nOf h)
  rw [hk9, hsz] at hsl
  have hle := q.2.2.2.2.2.2.1
  have hm := slc_mono hle
  rw [hsl] at hb
  subst hg
  refine va_new (ci := cn) (fs := fbody (fun k => if k = nOf h then 0 else ad k) (4 + cn) (dflt (4 + cn))) (C := qc.1) (T := qc.2.1) (N := qc.2.2) C.1 C.2.1 C.2.2.2.2.1 (vw_in hqc) (vty cn) (vw_ty hqc) C.2.2.2.1 (C.2.2.2.2.1 _ w1) (C.2.2.2.2.1 _ w2) (C.2.2.2.2.1 _ w3) C.2.2.2.2.2.1 q.1.1 q.1.2.1 q.2.1 C.2.2.2.2.2.2.2.1 hqc ?_ (by omega) (by omega) hd (fun qa H1 p1 d1 s1 => ?_)
  · intro jj hj
    have hj2 : jj < (fts cn).length := by omega
    unfold vp_V
    rw [List.getD_eq_getElem?_getD, fbody_get (by rw [Nat.add_sub_cancel_left]; exact hj2), Nat.add_sub_cancel_left]
    rw [Option.getD_some]
    have ht := itag_obj (s := jj) hc
    rcases vty_tag hc hj2 with ⟨h1, h2⟩ | ⟨h1, h2⟩ | ⟨⟨n9, h1⟩, h2⟩ | ⟨⟨n9, h1⟩, h2⟩
    · rw [h1, h2, dflt_0 (by show itag (4 + cn) jj < 2; rw [ht, h2]; decide)]; rfl
    · rw [h1, h2, dflt_0 (by show itag (4 + cn) jj < 2; rw [ht, h2]; decide)]; rfl
    · rw [h1, dflt_4 (by show 2 ≤ itag (4 + cn) jj; rw [ht]; omega), cf_cv (sa := sa) (b := b) (by omega) (by omega), cv4 h2]; rfl
    · rw [h1, dflt_4 (by show 2 ≤ itag (4 + cn) jj; rw [ht]; omega), cf_cv (sa := sa) (b := b) (by omega) (by omega), cv4 h2]; rfl
  · have hent : (Sum.inr (cn, fbody (fun k => if k = nOf h then 0 else ad k) (4 + cn) (dflt (4 + cn))) : va_E) = entry ca (fun k => if k = nOf h then qa else ad k) (4 + cn) (dflt (4 + cn)) := by
      rw [entry_obj hc]
      congr 2
      unfold fbody
      apply List.map_congr_left
      intro i9 hi9
      have hi9 := List.mem_range.mp hi9
      rw [Nat.add_sub_cancel_left] at hi9 ⊢
      have ht := itag_obj (s := i9) hc
      rcases vty_tag hc hi9 with ⟨h1, h2⟩ | ⟨h1, h2⟩ | ⟨⟨n9, h1⟩, h2⟩ | ⟨⟨n9, h1⟩, h2⟩
      · rw [h2]; rfl
      · rw [h2]; rfl
      · rw [dflt_4 (by show 2 ≤ itag (4 + cn) i9; rw [ht]; omega), cf_cv (sa := sa) (b := b) (by omega) (by omega), cf_cv (sa := sa) (b := b) (by omega) (by omega), cv4 h2, cv4 h2]; rfl
      · rw [dflt_4 (by show 2 ≤ itag (4 + cn) i9; rw [ht]; omega), cf_cv (sa := sa) (b := b) (by omega) (by omega), cf_cv (sa := sa) (b := b) (by omega) (by omega), cv4 h2, cv4 h2]; rfl
    rw [hent] at p1 d1
    have hoks : OKS z true (nOf h + 1) ((4 + cn, cnt h) :: S) := OKS.cons (okz_new (by omega) h0 hk9) (fun vv hv => okz_mono (by omega) (q.2.2.2.2.1 vv hv))
    have hnx := hk _ _ _ H _ H1 locs ls (sat_push q rfl hk9 hlt hoks p1 d1 s1)
    rw [hn, List.map_cons, map_push q, cv_ok (by omega) h0] at hnx
    have hq : (if (cnt h).toNat = nOf h then qa else ad (cnt h).toNat) = qa := if_pos rfl
    rw [hq] at hnx
    have e1 : nOf h - n0 + 1 = nOf h + 1 - n0 := by omega
    have e2 : slc (nOf h) - slc n0 + qc.2.2 = slc (nOf h + 1) - slc n0 := by omega
    rw [e1, e2]
    exact hnx
end
