/-! ONE INSTRUCTION, whichever. -/
theorem andb {a b : Bool} (h : (a && b) = true) : a = true ∧ b = true := by rwa [Bool.and_eq_true] at h
theorem beqn {a b : Nat} (h : Nat.beq a b = true) : a = b := Nat.eq_of_beq_eq_true h
theorem blen {a b : Nat} (h : Nat.ble a b = true) : a ≤ b := Nat.le_of_ble_eq_true h
theorem decb {p : Prop} [Decidable p] (h : decide p = true) : p := of_decide_eq_true h
theorem kd_ge {k : Nat} (h : 148 ≤ k) : kd k = 0 := by
  unfold kd
  rw [List.getD_eq_getElem?_getD, List.getElem?_eq_none (by show kdl.length ≤ k; exact Nat.le_trans (by decide +kernel) h)]
  rfl
theorem nbf {t : Nat} (h : Nat.beq t 1 = false) : t ≠ 1 := fun q => by
  subst q
  cases h
theorem kd_small (k : Nat) : (kd k - 20) / 8 < 2147483648 := by
  have h1 : (kdl.all fun t => Nat.ble t 60000) = true := by decide +kernel
  unfold kd
  rw [List.getD_eq_getElem?_getD]
  cases hq : kdl[k]? with
  | none => decide
  | some t =>
    have := Nat.le_of_ble_eq_true (List.all_eq_true.mp h1 t (List.mem_of_getElem? hq))
    show (t - 20) / 8 < _
    omega
theorem kd_small60 (k : Nat) : kd k ≤ 60000 := by
  have h1 : (kdl.all fun t => Nat.ble t 60000) = true := by decide +kernel
  unfold kd
  rw [List.getD_eq_getElem?_getD]
  cases hq : kdl[k]? with
  | none => decide
  | some t => exact Nat.le_of_ble_eq_true (List.all_eq_true.mp h1 t (List.mem_of_getElem? hq))
theorem fldOK_spec {c s ft fx : Nat} {rv : Int} (h : fldOK c s ft fx rv = true) : c < 13 ∧ s < (fts c).length ∧ (fts c).getD s 0 = ft ∧ ft ≠ 2 ∧ ft ≠ 3 ∧ ((fx = 0 → (dll.getD c []).getD s 0 = 0) ∧ ((fx = 0 → False) → (dll.getD c []).getD s 0 ≠ 0 ∧ rv = Int.ofNat ((dll.getD c []).getD s 0) - 1000)) := by
  unfold fldOK at h
  have a1 := andb h
  have a2 := andb a1.1
  have a3 := andb a2.1
  have a4 := andb a3.1
  have a5 := andb a4.1
  have e2 := a3.2
  have e3 := a2.2
  rw [nbq] at e2 e3
  refine ⟨blen a5.1, blen a5.2, beqn a4.2, by simpa using e2, by simpa using e3, ?_⟩
  have h9 := a1.2
  constructor
  · intro hx
    subst hx
    exact beqn h9
  · intro hx
    split at h9
    · exact absurd rfl hx
    · have a6 := andb h9
      have e4 := a6.1
      rw [nbq] at e4
      exact ⟨by simpa using e4, decb a6.2⟩
theorem mok_base {I : MInf} {np mq : Nat} {ps : List Nat} (h : mokb (I, np, mq, ps) = true) : MOK I np ∧ ∃ p2 p3, (match mq with
    | 0 => wd p2 (.instanceMethod I.1) && wd p3 (.selects I.1.cls I.1 I.1) && Nat.beq I.2.2.2.2.2.2.2.length (np + 1) && rcvb (I.2.2.2.2.2.2.2.headD 0) I.1.cls
    | 1 => wd p2 (.static I.1) && Nat.beq I.2.2.2.2.2.2.2.length np
    | _ => wd p2 (.instanceMethod I.1) && decide (I.2.2.2.1 = none) && decide (I.1.name = "<init>") && Nat.beq I.2.2.2.2.2.2.2.length (np + 1) && Nat.ble 4 (I.2.2.2.2.2.2.2.headD 0)) = true := by
  unfold mokb at h
  split at h
  · rename_i p0 p1 p2 p3 _ heq
    cases heq
    have a1 := andb h
    have a2 := andb a1.1
    have a3 := andb a2.1
    have a4 := andb a3.1
    have a5 := andb a4.1
    have a6 := andb a5.1
    have a7 := andb a6.1
    refine ⟨⟨wd_in a7.1, wd_in a7.2, ⟨decb a6.2, decb a5.2, decb a4.2⟩, fun t ht => ?_, blen a2.2⟩, _, _, a1.2⟩
    have := List.all_eq_true.mp a3.2 t ht
    rw [nbq] at this
    simpa using this
  · cases h
theorem mok_V {I : MInf} {np : Nat} {ps : List Nat} (h : mokb (I, np, 0, ps) = true) : MOK I np ∧ (Cond.instanceMethod I.1) ∈ lw_u ∧ (Cond.selects I.1.cls I.1 I.1) ∈ lw_u ∧ I.2.2.2.2.2.2.2.length = np + 1 ∧ ∃ t0 ts0, I.2.2.2.2.2.2.2 = t0 :: ts0 ∧ ((t0 = 2 ∧ I.1.cls = "java/lang/String") ∨ ∃ c0 qc, t0 = 4 + c0 ∧ c0 < 13 ∧ vwCl[c0]? = some qc ∧ qc.1 = I.1.cls) := by
  obtain ⟨hm, p2, p3, h⟩ := mok_base h
  have a1 := andb h
  have a2 := andb a1.1
  have a3 := andb a2.1
  have hln := beqn a2.2
  refine ⟨hm, wd_in a3.1, wd_in a3.2, hln, ?_⟩
  cases hts : I.2.2.2.2.2.2.2 with
  | nil => rw [hts] at hln; cases hln
  | cons t0 ts0 =>
    refine ⟨t0, ts0, rfl, ?_⟩
    have h9 := a1.2
    rw [hts] at h9
    unfold rcvb at h9
    rw [Bool.or_eq_true] at h9
    rcases h9 with h9 | h9
    · have b1 := andb h9
      exact Or.inl ⟨beqn b1.1, decb b1.2⟩
    · have b1 := andb h9
      have b2 := andb b1.1
      have h4 := blen b2.1
      have h16 := blen b2.2
      have h5 := decb b1.2
      have h6 : List.headD (t0 :: ts0) 0 = t0 := rfl
      rw [h6] at h4 h16 h5
      cases hq : vwCl[t0 - 4]? with
      | none => rw [hq] at h5; cases h5
      | some qc =>
        rw [hq] at h5
        exact Or.inr ⟨t0 - 4, qc, by omega, by omega, hq, Option.some.inj h5⟩
theorem mok_S {I : MInf} {np : Nat} {ps : List Nat} (h : mokb (I, np, 1, ps) = true) : MOK I np ∧ (Cond.static I.1) ∈ lw_u ∧ np = I.2.2.2.2.2.2.2.length := by
  obtain ⟨hm, p2, p3, h⟩ := mok_base h
  have a1 := andb h
  exact ⟨hm, wd_in a1.1, (beqn a1.2).symm⟩
theorem mok_I {I : MInf} {np : Nat} {ps : List Nat} (h : mokb (I, np, 2, ps) = true) : MOK I np ∧ (Cond.instanceMethod I.1) ∈ lw_u ∧ I.2.2.2.1 = none ∧ I.1.name = "<init>" ∧ I.2.2.2.2.2.2.2.length = np + 1 ∧ ∃ t0 ts0, I.2.2.2.2.2.2.2 = t0 :: ts0 ∧ 4 ≤ t0 := by
  obtain ⟨hm, p2, p3, h⟩ := mok_base h
  have a1 := andb h
  have a2 := andb a1.1
  have a3 := andb a2.1
  have a4 := andb a3.1
  have hln := beqn a2.2
  refine ⟨hm, wd_in a4.1, decb a4.2, decb a3.2, hln, ?_⟩
  cases hts : I.2.2.2.2.2.2.2 with
  | nil => rw [hts] at hln; cases hln
  | cons t0 ts0 =>
    have h9 := blen a1.2
    rw [hts] at h9
    exact ⟨t0, ts0, rfl, h9⟩
theorem zip_rev {α β : Type} {a : List α} {b : List β} (h : b.length = a.length) : a.reverse.zip b = (a.zip b.reverse).reverse := by
  rw [List.zip_eq_zipWith, List.zip_eq_zipWith, List.reverse_zipWith (by rw [List.length_reverse, h]), List.reverse_reverse]
theorem okz_f {z g : Bool} {n t : Nat} {v : Int} (h3 : t ≠ 3) (h : okz z g n t v) : okz false g n t v := by
  match t, h3, h with
  | 0, _, h => exact h
  | 1, _, h => exact h
  | 2, _, h => exact h
  | 3, h3, _ => exact absurd rfl h3
  | t + 4, _, h => exact h
/-! new int[][] -/
theorem alcs_row {t : Nat} {h : Hp} (h0 : 0 ≤ cnt h) : ∀ (k : Nat) (b i : Int), alcs t k h b i = if cnt h ≤ b ∧ b < cnt h + Int.ofNat k then dflt t i else if b = -1 ∧ i = 0 then cnt h + Int.ofNat k else h b i
  | 0, b, i => by
    show h b i = _
    have e : Int.ofNat 0 = 0 := rfl
    rw [e]
    by_cases hb : b = -1 ∧ i = 0
    · rw [if_neg (by omega), if_pos hb, hb.1, hb.2]
      show cnt h = _
      omega
    · rw [if_neg (by omega), if_neg hb]
  | k + 1, b, i => by
    have ih := alcs_row (t := t) h0 k
    have e : Int.ofNat (k + 1) = Int.ofNat k + 1 := rfl
    have e0 : 0 ≤ Int.ofNat k := Int.natCast_nonneg k
    have hc : cnt (alcs t k h) = cnt h + Int.ofNat k := by
      show alcs t k h (-1) 0 = _
      rw [ih, if_neg (by omega), if_pos ⟨rfl, rfl⟩]
    show alc (alcs t k h) t b i = _
    unfold alc
    rw [hc, ih, e]
    generalize Int.ofNat k = K at e0 ⊢
    repeat' split
    all_goals first | rfl | (exfalso; omega) | omega
theorem alcm_row {t k : Nat} {h : Hp} (h0 : 0 ≤ cnt h) (b i : Int) : alcm h t k b i = if b = cnt h then (if 0 ≤ i ∧ i < Int.ofNat k then cnt h + 1 + i else dflt t i) else if cnt h < b ∧ b < cnt h + 1 + Int.ofNat k then dflt (aetag t) i else if b = -1 ∧ i = 0 then cnt h + 1 + Int.ofNat k else h b i := by
  unfold alcm
  have e0 : 0 ≤ Int.ofNat k := Int.natCast_nonneg k
  rw [alcs_row (by rw [cnt_alc h0]; omega), cnt_alc h0]
  unfold alc
  generalize Int.ofNat k = K at e0 ⊢
  repeat' split
  all_goals first | rfl | (exfalso; omega) | omega
theorem my_outer (c : ClassId) (N h0 : Nat) : ∀ i : Nat, Jvm.Free.Multi.outerC c N h0 i = arrV c N (fun j => va_rf (if j < i then some (h0 + 1 + j) else none))
  | 0 => by
    show ({ cls := c, slots := Array.replicate N .null, vm := .none } : Cell) = _
    rw [arrV_new]
    congr 1
  | i + 1 => by
    show (Jvm.Free.Multi.outerC c N h0 i).setSlot i (.ref (h0 + 1 + i)) = _
    rw [my_outer c N h0 i, arrV_store]
    congr 1
    funext j
    unfold updV
    by_cases e : j = i
    · rw [if_pos e, if_pos (by omega), e]; rfl
    · rw [if_neg e]
      show va_rf (if j < i then some (h0 + 1 + j) else none) = _
      by_cases h : j < i
      · rw [if_pos h, if_pos (by omega)]
      · rw [if_neg h, if_neg (by omega)]
section
variable {p : Program} {l : Launch} {e : Env} {R : Room} {s : State} {m : MethodId} {args : Array Value} {below : List Frame} {meth : Method} {c : Code}
variable {D : va_G} {ca : Nat → ClassId} {sa : Nat → Nat} {b : Nat} {A : Nat → Prop} {cc : ByteArray} {own : String} {nL : Nat} {z g : Bool} {N : Nat} {xs : Nat → Int32} {n0 : Nat} {h0 : Hp} {ad0 : Nat → Nat} {Q : State → Prop}
variable {ρ : Type} {pc len : Nat} {k : Lc → List AV → Hp → Option ρ} {j : Nat → Lc → List AV → Hp → Option ρ} {L : Lc} {h : Hp} {r : ρ}
theorem sat_multi {N8 : Nat} {ad : Nat → Nat} {H H1 : Heap} {locs : List Loc} {ls : Array Slot} {S S' : List AV} {N M t : Nat} (ht : t = 20 + 8 * N + 6) (k2 : aetag t = 20 + 8 * M) (k1 : kd (nOf h) = t) (k3 : ∀ i, i < N → kd (nOf h + 1 + i) = 20 + 8 * M) (hN : nOf h + N < 148) (C : Cx p s m args c D ca sa b A cc own nL z N8 xs h0) (q : Sat s D ca sa b A nL z true n0 h0 ad0 L S h ad H locs ls) (hS' : OKS z true (nOf h + 1 + N) S')
    (hold : ∀ x : Nat, x < H.size → H1[x]? = H[x]?) (hout : H1[H.size]? = some (vp_cell (ca 6) (N, .inr (.inr (.inr (.inr (fun i => if i < N then some (H.size + 1 + i) else none))))))) (hin : ∀ j : Nat, j < N → H1[H.size + 1 + j]? = some (vp_cell (ca 0) (M, .inl (fun _ => 0)))) (hsz : H.size ≤ H1.size) :
    nOf (alcm h t N) = nOf h + 1 + N ∧ Sat s D ca sa b A nL z true n0 h0 ad0 L S' (alcm h t N) (fun k => if k < nOf h then ad k else H.size + (k - nOf h)) H1 locs ls := by
  have c0 := q.1.2.2.2.1
  have hnc : Int.ofNat (nOf h) = cnt h := by unfold nOf; simp only [Int.ofNat_eq_natCast]; omega
  have hnc' : ((nOf h : Nat) : Int) = cnt h := hnc
  have t20 : 20 ≤ t := by omega
  have hcm : cnt (alcm h t N) = cnt h + 1 + Int.ofNat N := by
    show alcm h t N (-1) 0 = _
    rw [alcm_row c0, if_neg (by omega), if_neg (by omega), if_pos ⟨rfl, rfl⟩]
  have hn' : nOf (alcm h t N) = nOf h + 1 + N := by
    unfold nOf
    rw [hcm]
    simp only [Int.ofNat_eq_natCast]
    omega
  have hadk : ∀ k, k < nOf h → (if k < nOf h then ad k else H.size + (k - nOf h)) = ad k := fun k hk => if_pos hk
  have hrow : ∀ k, k < nOf h → alcm h t N (Int.ofNat k) = h (Int.ofNat k) := fun k hk => by
    funext i
    rw [alcm_row c0, if_neg (by simp only [Int.ofNat_eq_natCast]; omega), if_neg (by simp only [Int.ofNat_eq_natCast]; omega), if_neg (by simp only [Int.ofNat_eq_natCast]; omega)]
  have hlt : ∀ k, k < nOf h → ad k < H.size := fun k hk => (q.1.1 k _ (wsl_get hk)).lt
  have hak6 : aknd t = 6 := by unfold aknd; omega
  have hi0 : aknd (20 + 8 * M) = 0 := by unfold aknd; omega
  have hid : (20 + 8 * M - 20) / 8 = M := by omega
  have htd : (t - 20) / 8 = N := by omega
  refine ⟨hn', ⟨?_, ?_, ?_, by rw [hcm]; simp only [Int.ofNat_eq_natCast]; omega, by omega, (fun h9 => by cases h9)⟩, ⟨Nat.le_trans q.2.1.1 hsz, fun x h1 h2 => (hold x (Nat.lt_of_lt_of_le h1 q.2.1.1)).trans (q.2.1.2.1 x h1 h2), q.2.1.2.2⟩, ?_, fun q9 h9 => okz_mono (by omega) (q.2.2.2.1 q9 h9), by rw [hn']; exact hS', ?_, by have := q.2.2.2.2.2.2.1; omega, fun k9 h9 => ?_⟩
  · intro k9 x hx
    have hk9 : k9 < nOf (alcm h t N) := by
      have := (List.getElem?_eq_some_iff.mp hx).1
      rw [wsl_len] at this
      exact this
    rw [wsl_get hk9] at hx
    cases hx
    rw [hn'] at hk9
    by_cases ho : k9 < nOf h
    · have h1 := (q.1.1.kept (fun k9 x hx => hold x.1 ((q.1.1 k9 x hx).lt))) k9 _ (wsl_get ho)
      rw [hrow k9 ho, entry_ad (g := true) (n := nOf h) (ad := ad) (fun i hi => (q.1.2.2.1 k9 ho i hi).1) hadk]
      show va_at D vwCl ((if k9 < nOf h then ad k9 else H.size + (k9 - nOf h)), entry ca ad (kd k9) (h (Int.ofNat k9))) H1
      rw [if_pos ho]
      exact h1
    · by_cases he : k9 = nOf h
      · subst he
        rw [k1, entry_arr t20, hak6, abody_q (by decide), htd]
        show H1[if nOf h < nOf h then ad (nOf h) else H.size + (nOf h - nOf h)]? = some (vp_cell (ca 6) (N, _))
        rw [if_neg (by omega), Nat.sub_self, Nat.add_zero, hout]
        congr 7
        funext i
        rw [hnc, alcm_row c0, if_pos rfl]
        by_cases hi : i < N
        · have e9 : (if 0 ≤ Int.ofNat i ∧ Int.ofNat i < Int.ofNat N then cnt h + 1 + Int.ofNat i else dflt t (Int.ofNat i)) = cnt h + 1 + Int.ofNat i := if_pos (by simp only [Int.ofNat_eq_natCast]; omega)
          rw [if_pos hi, e9, if_neg (by simp only [Int.ofNat_eq_natCast]; omega), if_neg (by simp only [Int.ofNat_eq_natCast]; omega)]
          congr 1
          simp only [Int.ofNat_eq_natCast]
          omega
        · rw [if_neg hi, if_pos (Or.inr (by omega))]
      · have hj : kd k9 = 20 + 8 * M := by
          have := k3 (k9 - nOf h - 1) (by omega)
          rw [show nOf h + 1 + (k9 - nOf h - 1) = k9 by omega] at this
          exact this
        rw [hj, entry_arr (by omega), hi0, hid]
        show H1[if k9 < nOf h then ad k9 else H.size + (k9 - nOf h)]? = some (vp_cell (ca 0) (M, .inl _))
        have h1 := hin (k9 - nOf h - 1) (by omega)
        rw [if_neg ho, show H.size + (k9 - nOf h) = H.size + 1 + (k9 - nOf h - 1) by omega, h1]
        congr 4
        funext j9
        rw [alcm_row c0, if_neg (by simp only [Int.ofNat_eq_natCast]; omega), if_pos (by simp only [Int.ofNat_eq_natCast]; omega), k2, dflt_0 (by rw [itag_arr (by omega), aknd_0 hi0]; decide)]
        rfl
  · rw [hn']
    have hx1 : ∀ (k9 : Nat) (x : Nat × va_E), (wsl ca (fun k => if k < nOf h then ad k else H.size + (k - nOf h)) (nOf h + 1 + N) (alcm h t N))[k9]? = some x → k9 < nOf h + 1 + N ∧ x.1 = if k9 < nOf h then ad k9 else H.size + (k9 - nOf h) := fun k9 x hx => by
      have hk9 : k9 < nOf h + 1 + N := by
        have := (List.getElem?_eq_some_iff.mp hx).1
        rw [wsl_len] at this
        exact this
      rw [wsl_get hk9] at hx
      cases hx
      exact ⟨hk9, rfl⟩
    refine ⟨fun i9 j9 x y hx hy hxy => ?_, fun k9 x hx => ?_⟩
    · obtain ⟨i1, i2⟩ := hx1 _ _ hx
      obtain ⟨j1, j2⟩ := hx1 _ _ hy
      rw [i2, j2] at hxy
      by_cases hi : i9 < nOf h <;> by_cases hj : j9 < nOf h
      · rw [if_pos hi, if_pos hj] at hxy
        exact q.1.2.1.1 i9 j9 _ _ (wsl_get hi) (wsl_get hj) hxy
      · rw [if_pos hi, if_neg hj] at hxy
        have := hlt i9 hi
        omega
      · rw [if_neg hi, if_pos hj] at hxy
        have := hlt j9 hj
        omega
      · rw [if_neg hi, if_neg hj] at hxy
        omega
    · obtain ⟨i1, i2⟩ := hx1 _ _ hx
      rw [i2]
      by_cases hi : k9 < nOf h
      · rw [if_pos hi]
        exact q.1.2.1.2 k9 _ (wsl_get hi)
      · rw [if_neg hi]
        exact C.2.2.2.2.2.2.2.1 _ (by have := q.2.1.1; omega)
  · rw [hn']
    intro k9 hk9 i hi
    refine ⟨?_, (fun h9 => by cases h9)⟩
    by_cases ho : k9 < nOf h
    · rw [hrow k9 ho]
      exact okv_mono (by omega) (q.1.2.2.1 k9 ho i hi).1
    · by_cases he : k9 = nOf h
      · subst he
        rw [k1] at hi ⊢
        rw [isz_arr t20, htd] at hi
        rw [hnc, alcm_row c0, if_pos rfl, if_pos (by simp only [Int.ofNat_eq_natCast]; omega), itag_arr t20, k2]
        rw [show 20 + 8 * M = (16 + 8 * M) + 4 by omega]
        refine Or.inl ⟨by simp only [Int.ofNat_eq_natCast]; omega, by simp only [Int.ofNat_eq_natCast]; omega, ?_⟩
        have := k3 i hi
        rw [show nOf h + 1 + i = (cnt h + 1 + Int.ofNat i).toNat by simp only [Int.ofNat_eq_natCast]; omega] at this
        rw [this]
        omega
      · have hj : kd k9 = 20 + 8 * M := by
          have := k3 (k9 - nOf h - 1) (by omega)
          rw [show nOf h + 1 + (k9 - nOf h - 1) = k9 by omega] at this
          exact this
        rw [hj, itag_arr (by omega), aknd_0 hi0, alcm_row c0, if_neg (by simp only [Int.ofNat_eq_natCast]; omega), if_pos (by simp only [Int.ofNat_eq_natCast]; omega), k2, dflt_0 (by rw [itag_arr (by omega), aknd_0 hi0]; decide)]
        exact ⟨by decide, by decide⟩
  · have : cvl (fun k => if k < nOf h then ad k else H.size + (k - nOf h)) sa b L = cvl ad sa b L := by
      unfold cvl
      apply List.map_congr_left
      intro q9 h9
      rw [cv_ad (q.2.2.2.1 q9 h9) hadk]
    rw [this]
    exact q.2.2.1
  · have hne := q.2.2.2.2.2.1
    refine ⟨?_, ?_⟩
    · rw [← hne.1]
      funext i
      rw [alcm_row c0, if_neg (by omega), if_neg (by omega), if_neg (by omega)]
    · rw [← hne.2, alcm_row c0, if_neg (by omega), if_neg (by omega), if_neg (by omega)]
  · have := q.2.2.2.2.2.2.1
    show (if k9 < nOf h then ad k9 else H.size + (k9 - nOf h)) = _
    rw [if_pos (by omega)]
    exact q.2.2.2.2.2.2.2 k9 h9
theorem slc_multi {n N M : Nat} (k1 : isz (kd n) = N) (k3 : ∀ i, i < N → isz (kd (n + 1 + i)) = M) : ∀ j, j ≤ N → slc (n + 1 + j) = slc n + N + j * M
  | 0, _ => by
    rw [Nat.add_zero, slc_succ, k1]
    omega
  | j + 1, hj => by
    have ih := slc_multi k1 k3 j (by omega)
    rw [show n + 1 + (j + 1) = (n + 1 + j) + 1 by omega, slc_succ, ih, k3 j (by omega), Nat.succ_mul]
    omega
theorem p_multi {m9 q9 : Int} {i : Nat} {S : List AV} (hg9 : (g && decide (0 ≤ q9) && decide (0 ≤ m9) && Nat.beq (kd (cnt h).toNat) (20 + 8 * q9.toNat + 6) && Nat.beq (aetag (20 + 8 * q9.toNat + 6)) (20 + 8 * m9.toNat) && (List.range q9.toNat).all (fun i => Nat.beq (kd ((cnt h).toNat + 1 + i)) (20 + 8 * m9.toNat))) = true) (w1 : (Cond.classLink own i "[[I") ∈ lw_u) (w2 : (Cond.arrayClass .int) ∈ lw_u) (hbd : g = true → ∀ L' S' h', k L' S' h' = some r → nOf h' - n0 ≤ R.cells ∧ slc (nOf h') - slc n0 ≤ R.slots) (C : Cx p s m args c D ca sa b A cc own nL z N xs h0) (hk : ∀ L' S' h', k L' S' h' = some r → Cfg p l e R s m args below meth c D ca sa b A nL z g n0 h0 ad0 Q (pc + 4) L' S' h') (hd : decode cc pc = .ok (.multianewarray i 2, 4)) (H : ltt (alcm h (20 + 8 * q9.toNat + 6) q9.toNat) (fun h' => k L ((20 + 8 * q9.toNat + 6, cnt h) :: S) h') = some r) : Cfg p l e R s m args below meth c D ca sa b A nL z g n0 h0 ad0 Q pc L ((0, m9) :: (0, q9) :: S) h := by
  intro ad Hh locs ls q
  unfold ltt at H
  have a1 := andb hg9
  have a2 := andb a1.1
  have a3 := andb a2.1
  have a4 := andb a3.1
  have a5 := andb a4.1
  have hg : g = true := a5.1
  have hq0 : 0 ≤ q9 := decb a5.2
  have hm0 : 0 ≤ m9 := decb a4.2
  subst hg
  have ob1 : -2147483648 ≤ m9 ∧ m9 < 2147483648 := q.2.2.2.2.1 (0, m9) List.mem_cons_self
  have ob2 : -2147483648 ≤ q9 ∧ q9 < 2147483648 := q.2.2.2.2.1 (0, q9) (List.mem_cons_of_mem _ List.mem_cons_self)
  have e1 : (Int32.ofInt q9).toNatClampNeg = q9.toNat := by
    show (Int32.ofInt q9).toInt.toNat = _
    rw [i32_id ob2.1 ob2.2]
  have e2 : (Int32.ofInt m9).toNatClampNeg = m9.toNat := by
    show (Int32.ofInt m9).toInt.toNat = _
    rw [i32_id ob1.1 ob1.2]
  have hn1 : ¬ Int32.ofInt q9 < 0 := by
    rw [Int32.lt_iff_toInt_lt, i32_id ob2.1 ob2.2]
    show ¬ q9 < 0
    omega
  have hn2 : ¬ Int32.ofInt m9 < 0 := by
    rw [Int32.lt_iff_toInt_lt, i32_id ob1.1 ob1.2]
    show ¬ m9 < 0
    omega
  generalize hN : q9.toNat = N at *
  generalize hM : m9.toNat = M at *
  have k1 : kd (nOf h) = 20 + 8 * N + 6 := beqn a3.2
  have k2 : aetag (20 + 8 * N + 6) = 20 + 8 * M := beqn a2.2
  have k3 : ∀ i, i < N → kd (nOf h + 1 + i) = 20 + 8 * M := fun i hi => beqn (List.all_eq_true.mp a1.2 i (List.mem_range.mpr hi))
  have hM65 : M ≤ 65 := by
    have hk6 : aknd (20 + 8 * N + 6) = 6 := by unfold aknd; omega
    unfold aetag at k2
    rw [hk6] at k2
    repeat' split at k2
    all_goals omega
  have hN148 : nOf h + N < 148 := by
    rcases Nat.eq_zero_or_pos N with h9 | h9
    · subst h9
      by_cases h8 : nOf h < 148
      · omega
      · rw [kd_ge (by omega)] at k1
        omega
    · by_cases h8 : nOf h + N < 148
      · exact h8
      · have := k3 (N - 1) (by omega)
        rw [kd_ge (by omega)] at this
        omega
  have c0 := q.1.2.2.2.1
  have hcm : cnt (alcm h (20 + 8 * N + 6) N) = cnt h + 1 + Int.ofNat N := by
    show alcm h (20 + 8 * N + 6) N (-1) 0 = _
    rw [alcm_row c0, if_neg (by omega), if_neg (by omega), if_pos ⟨rfl, rfl⟩]
  have hnn : nOf (alcm h (20 + 8 * N + 6) N) = nOf h + 1 + N := by
    unfold nOf
    rw [hcm]
    simp only [Int.ofNat_eq_natCast]
    omega
  have hsl : slc (nOf h + 1 + N) = slc (nOf h) + N + N * M := slc_multi (n := nOf h) (N := N) (M := M) (by rw [k1, isz_arr (by omega)]; omega) (fun i hi => by rw [k3 i hi, isz_arr (by omega)]; omega) N (Nat.le_refl _)
  have hb := hbd rfl _ _ _ H
  rw [hnn, hsl] at hb
  have hle := q.2.2.2.2.2.2.1
  have hmo := slc_mono hle
  intro T hT Xs
  obtain ⟨vm₁, cA, comp, -, fA, fC, hO, -, X', step⟩ := Xs.multianewarray2F C.1 (ty := .int) C.2.2.2.1 (C.2.2.2.2.1 _ w1) C.2.2.2.2.2.2.1.2.2.2.2.2.1 (C.2.2.2.2.1 _ w2) (g := F0 m pc ls (((0, m9) :: (0, q9) :: S).map (cv ad sa b))) rfl (by rw [C.2.1]; exact hd) (n := Int32.ofInt q9) (k := Int32.ofInt m9) (rest := S.map (cv ad sa b)) rfl hn1 hn2 (by rw [e1]; omega) (by rw [e2]; show M * 4 ≤ _; omega) (by rw [e2]; omega) rfl rfl (by rw [e1]; omega) (by rw [e1, e2]; omega)
  rw [e1, e2] at X' step
  have eA : cA = ca 6 := Option.some.inj (fA.symm.trans (C.2.2.2.2.2.1.2 6 (ca 6, .array .int) rfl).2)
  have eC : comp = ca 0 := Option.some.inj (fC.symm.trans (C.2.2.2.2.2.1.2 0 (ca 0, .int) rfl).2)
  subst eA
  subst eC
  generalize hF : Jvm.Free.Multi.fill (T.setVm vm₁) (ca 6) (ca 0) N M (defaultValue .int) N = F at X' step
  have hTh : (T.setVm vm₁).heap = Hh := hT
  obtain ⟨f1, f2, -, -⟩ := Jvm.Free.Multi.fill_facts (T.setVm vm₁) (ca 6) (ca 0) N M (defaultValue .int) N
  rw [hF, hTh] at f1 f2
  have hold : ∀ x : Nat, x < Hh.size → F.heap[x]? = Hh[x]? := fun x hx => by
    have := Jvm.Free.Multi.fill_old (T.setVm vm₁) (ca 6) (ca 0) N M (defaultValue .int) (a := x) (by rw [hTh]; exact hx) N
    rw [hF, hTh] at this
    exact this
  have hin : ∀ j : Nat, j < N → F.heap[Hh.size + 1 + j]? = some (vp_cell (ca 0) (M, .inl (fun _ => 0))) := fun j hj => by
    have := Jvm.Free.Multi.fill_inner (T.setVm vm₁) (ca 6) (ca 0) N M (defaultValue .int) N j hj
    rw [hF, hTh] at this
    rw [this]
    show some ({ cls := ca 0, slots := Array.replicate M (.int 0), vm := .none } : Cell) = _
    rw [arrV_new]
    rfl
  rw [my_outer] at f2
  have hoks : OKS z true (nOf h + 1 + N) ((20 + 8 * N + 6, cnt h) :: S) := OKS.cons (by
    show okz z true (nOf h + 1 + N) (20 + 8 * N + 6) (cnt h)
    rw [show 20 + 8 * N + 6 = (22 + 8 * N) + 4 by omega]
    refine Or.inl ⟨c0, ?_, ?_⟩
    · unfold nOf
      simp only [Int.ofNat_eq_natCast]
      omega
    · show kd (nOf h) = _
      rw [k1]
      omega) (fun vv hv => okz_mono (by omega) (q.2.2.2.2.1 vv (List.mem_cons_of_mem _ (List.mem_cons_of_mem _ hv))))
  obtain ⟨hn9, hsat⟩ := sat_multi rfl k2 k1 k3 hN148 C q hoks hold f2 hin (by rw [f1]; omega)
  have hnx := hk _ _ _ H _ F.heap locs ls hsat
  rw [hn9, List.map_cons, cv_ok (by omega) c0] at hnx
  have hq : (if (cnt h).toNat < nOf h then ad (cnt h).toNat else Hh.size + ((cnt h).toNat - nOf h)) = Hh.size := by
    show (if nOf h < nOf h then ad (nOf h) else Hh.size + (nOf h - nOf h)) = _
    rw [if_neg (by omega), Nat.sub_self, Nat.add_zero]
  rw [hq] at hnx
  have hmap : S.map (cv (fun k => if k < nOf h then ad k else Hh.size + (k - nOf h)) sa b) = S.map (cv ad sa b) := List.map_congr_left (fun vv hv => cv_ad (q.2.2.2.2.1 vv (List.mem_cons_of_mem _ (List.mem_cons_of_mem _ hv))) (fun k hk9 => if_pos hk9))
  rw [hmap] at hnx
  have g1 : nOf h + 1 + N - n0 = nOf h - n0 + 1 + N := by omega
  have g2 : slc (nOf h + 1 + N) - slc n0 = slc (nOf h) - slc n0 + N + N * M := by rw [hsl]; omega
  rw [g1, g2] at hnx
  obtain ⟨t', b1, b2⟩ := hnx F rfl X'
  refine ⟨t', step t' ?_, b2⟩
  rw [hT]
  exact b1
end
section
variable {p : Program} {l : Launch} {e : Env} {R : Room} {s : State} {m : MethodId} {args : Array Value} {below : List Frame} {meth : Method} {c : Code}
variable {D : va_G} {ca : Nat → ClassId} {sa : Nat → Nat} {b : Nat} {A : Nat → Prop} {cc : ByteArray} {own : String} {nL : Nat} {z g : Bool} {N : Nat} {xs : Nat → Int32} {n0 : Nat} {h0 : Hp} {ad0 : Nat → Nat} {Q : State → Prop}
variable {ρ : Type} {pc len : Nat} {k : Lc → List AV → Hp → Option ρ} {j : Nat → Lc → List AV → Hp → Option ρ} {L : Lc} {h : Hp} {r : ρ}
/-- how a method is left -/
def Rets (cc : ByteArray) (rk : Nat) (fin : Int → Hp → Option ρ) (r : ρ) (P : Nat → Lc → List AV → Hp → Prop) : Prop :=
  (rk = 1 ∨ rk = 4 → ∀ (pc : Nat) (L : Lc) (v : Int) (h : Hp), decode cc pc = .ok (.ireturn, 1) → (rk = 4 → v = 0 ∨ v = 1) → fin v h = some r → P pc L [(0, v)] h) ∧
  (rk = 2 → ∀ (pc : Nat) (L : Lc) (v : Int) (h : Hp), decode cc pc = .ok (.lreturn, 1) → fin v h = some r → P pc L [(1, v)] h) ∧
  (rk = 3 → ∀ (pc : Nat) (L : Lc) (v : Int) (h : Hp), decode cc pc = .ok (.areturn, 1) → fin v h = some r → P pc L [(2, v)] h) ∧
  (rk = 0 → ∀ (pc : Nat) (L : Lc) (h : Hp), decode cc pc = .ok (.return_, 1) → fin 0 h = some r → P pc L [] h)
set_option maxHeartbeats 4000000 in
theorem q_one {fs : List (FN ρ)} {fin : Int → Hp → Option ρ} {mi : Nat → Mx} {fr lo : Nat} {cals : List Nat} {ini : Bool} {rk : Nat} {ins : Instr} {res : List Nat} {rv : Int} {S : List AV} (hok : insOK mi own nL fr lo cals ini rk pc ins len res rv = true) (hd : decode cc pc = .ok (ins, len)) (hini : ini = true → meth.name = "<init>") (hR : fr ≤ R.frames ∧ lo ≤ R.locals) (hn0 : g = false → 148 - n0 ≤ R.cells ∧ slc 148 - slc n0 ≤ R.slots)
    (hfs : ∀ (f jj : Nat) (fn : FN ρ), cals[f]? = some jj → fs[f]? = some fn → SndF l g (mi jj).1 fn) (hbd : g = true → ∀ L' S' h', k L' S' h' = some r → nOf h' - n0 ≤ R.cells ∧ slc (nOf h') - slc n0 ≤ R.slots) (hret : Rets cc rk fin r (Cfg p l e R s m args below meth c D ca sa b A nL z g n0 h0 ad0 Q)) (C : Cx p s m args c D ca sa b A cc own nL z N xs h0) (hk : ∀ L' S' h', k L' S' h' = some r → Cfg p l e R s m args below meth c D ca sa b A nL z g n0 h0 ad0 Q (pc + len) L' S' h') (hj : ∀ t L' S' h', j t L' S' h' = some r → Cfg p l e R s m args below meth c D ca sa b A nL z g n0 h0 ad0 Q t L' S' h') (H : sem g fs fin ins res rv pc k j L S h = some r) : Cfg p l e R s m args below meth c D ca sa b A nL z g n0 h0 ad0 Q pc L S h := by
  cases ins
  case iload i =>
    have e1 := beqn hok
    subst e1
    exact p_iload C hk (Or.inl ⟨hd, rfl⟩) H
  case iload_n i =>
    have e1 := beqn hok
    subst e1
    exact p_iload C hk (Or.inr ⟨i, rfl, hd, rfl⟩) H
  case lload i =>
    have e1 := beqn hok
    subst e1
    exact p_lload C hk (Or.inl ⟨hd, rfl⟩) H
  case lload_n i =>
    have e1 := beqn hok
    subst e1
    exact p_lload C hk (Or.inr ⟨i, rfl, hd, rfl⟩) H
  case aload i =>
    have e1 := beqn hok
    subst e1
    exact p_aload C hk (Or.inl ⟨hd, rfl⟩) H
  case aload_n i =>
    have e1 := beqn hok
    subst e1
    exact p_aload C hk (Or.inr ⟨i, rfl, hd, rfl⟩) H
  case istore i =>
    have e1 := andb hok
    have e2 := beqn e1.1
    subst e2
    unfold sem at H
    dsimp only at H
    split at H
    · exact p_istore (blen e1.2) C hk (Or.inl ⟨hd, rfl⟩) H
    · cases H
  case istore_n i =>
    have e1 := andb hok
    have e2 := beqn e1.1
    subst e2
    unfold sem at H
    dsimp only at H
    split at H
    · exact p_istore (blen e1.2) C hk (Or.inr ⟨i, rfl, hd, rfl⟩) H
    · cases H
  case lstore i =>
    have e1 := andb hok
    have e2 := beqn e1.1
    subst e2
    unfold sem at H
    dsimp only at H
    split at H
    · exact p_lstore (blen e1.2) C hk (Or.inl ⟨hd, rfl⟩) H
    · cases H
  case lstore_n i =>
    have e1 := andb hok
    have e2 := beqn e1.1
    subst e2
    unfold sem at H
    dsimp only at H
    split at H
    · exact p_lstore (blen e1.2) C hk (Or.inr ⟨i, rfl, hd, rfl⟩) H
    · cases H
  case astore i =>
    have e1 := andb hok
    have e2 := beqn e1.1
    subst e2
    unfold sem at H
    dsimp only at H
    split at H
    · split at H
      · rename_i ht
        exact p_astore (blen e1.2) (blen ht) C hk (Or.inl ⟨hd, rfl⟩) H
      · cases H
    · cases H
  case astore_n i =>
    have e1 := andb hok
    have e2 := beqn e1.1
    subst e2
    unfold sem at H
    dsimp only at H
    split at H
    · split at H
      · rename_i ht
        exact p_astore (blen e1.2) (blen ht) C hk (Or.inr ⟨i, rfl, hd, rfl⟩) H
      · cases H
    · cases H
  case iinc i cn =>
    have e1 := andb hok
    have e3 := andb e1.1
    have e2 := beqn e3.1
    subst e2
    exact p_iinc (blen e3.2) (decb e1.2) C hk hd H
  case iconst cn =>
    have e1 := andb hok
    have e2 := beqn e1.1
    subst e2
    exact p_const C hk (Or.inl ⟨hd, rfl, (decb e1.2).1, (decb e1.2).2⟩) H
  case bipush cn =>
    have e1 := andb hok
    have e2 := beqn e1.1
    subst e2
    exact p_const C hk (Or.inr (Or.inl ⟨hd, rfl, (decb e1.2).1, (decb e1.2).2⟩)) H
  case sipush cn =>
    have e1 := andb hok
    have e2 := beqn e1.1
    subst e2
    exact p_const C hk (Or.inr (Or.inr ⟨hd, rfl, (decb e1.2).1, (decb e1.2).2⟩)) H
  case lconst cn =>
    have e1 := beqn hok
    subst e1
    exact p_lconst C hk hd H
  case ldc i =>
    have e1 := andb hok
    have e2 := beqn e1.1
    subst e2
    have e3 := e1.2
    unfold sem at H
    dsimp only at H
    split at e3
    · have e4 := andb e3
      have e5 := decb e4.2
      exact p_ldc (wd_in e4.1) e5.1 e5.2 C hk (Or.inl ⟨hd, rfl⟩) H
    · have e4 := andb e3
      have e5 := decb e4.2
      exact p_ldcS (decb e4.1) e5.1 e5.2 C hk hd H
    · cases e3
  case ldc_w i =>
    have e1 := andb hok
    have e2 := beqn e1.1
    subst e2
    have e3 := e1.2
    split at e3
    · have e4 := andb e3
      have e5 := decb e4.2
      exact p_ldc (wd_in e4.1) e5.1 e5.2 C hk (Or.inr ⟨hd, rfl⟩) H
    · cases e3
  case ldc2_w i =>
    have e1 := andb hok
    have e2 := beqn e1.1
    subst e2
    have e3 := e1.2
    split at e3
    · have e4 := andb e3
      have e5 := decb e4.2
      exact p_ldc2 (wd_in e4.1) e5.1 e5.2 C hk hd H
    · cases e3
  case iadd =>
    have e1 := beqn hok
    subst e1
    unfold sem at H
    dsimp only at H
    split at H
    · exact p_iadd C hk hd H
    · cases H
  case isub =>
    have e1 := beqn hok
    subst e1
    unfold sem at H
    dsimp only at H
    split at H
    · exact p_isub C hk hd H
    · cases H
  case imul =>
    have e1 := beqn hok
    subst e1
    unfold sem at H
    dsimp only at H
    split at H
    · exact p_imul C hk hd H
    · cases H
  case ladd =>
    have e1 := beqn hok
    subst e1
    unfold sem at H
    dsimp only at H
    split at H
    · exact p_ladd C hk hd H
    · cases H
  case lsub =>
    have e1 := beqn hok
    subst e1
    unfold sem at H
    dsimp only at H
    split at H
    · exact p_lsub C hk hd H
    · cases H
  case lmul =>
    have e1 := beqn hok
    subst e1
    unfold sem at H
    dsimp only at H
    split at H
    · exact p_lmul C hk hd H
    · cases H
  case ineg =>
    have e1 := beqn hok
    subst e1
    unfold sem at H
    dsimp only at H
    split at H
    · exact p_ineg C hk hd H
    · cases H
  case lneg =>
    have e1 := beqn hok
    subst e1
    unfold sem at H
    dsimp only at H
    split at H
    · exact p_lneg C hk hd H
    · cases H
  case iand =>
    have e1 := beqn hok
    subst e1
    unfold sem at H
    dsimp only at H
    split at H
    · exact p_iand C hk hd H
    · cases H
  case ior =>
    have e1 := beqn hok
    subst e1
    unfold sem at H
    dsimp only at H
    split at H
    · exact p_ior C hk hd H
    · cases H
  case ishl =>
    have e1 := beqn hok
    subst e1
    unfold sem at H
    dsimp only at H
    split at H
    · exact p_ishl C hk hd H
    · cases H
  case ishr =>
    have e1 := beqn hok
    subst e1
    unfold sem at H
    dsimp only at H
    split at H
    · exact p_ishr C hk hd H
    · cases H
  case iushr =>
    have e1 := beqn hok
    subst e1
    unfold sem at H
    dsimp only at H
    split at H
    · exact p_iushr C hk hd H
    · cases H
  case lshl =>
    have e1 := beqn hok
    subst e1
    unfold sem at H
    dsimp only at H
    split at H
    · exact p_lshl C hk hd H
    · cases H
  case lshr =>
    have e1 := beqn hok
    subst e1
    unfold sem at H
    dsimp only at H
    split at H
    · exact p_lshr C hk hd H
    · cases H
  case lushr =>
    have e1 := beqn hok
    subst e1
    unfold sem at H
    dsimp only at H
    split at H
    · exact p_lushr C hk hd H
    · cases H
  case lor =>
    have e1 := beqn hok
    subst e1
    unfold sem at H
    dsimp only at H
    split at H
    · exact p_lor C hk hd H
    · cases H
  case lcmp =>
    have e1 := beqn hok
    subst e1
    unfold sem at H
    dsimp only at H
    split at H
    · exact p_lcmp C hk hd H
    · cases H
  case i2l =>
    have e1 := beqn hok
    subst e1
    unfold sem at H
    dsimp only at H
    split at H
    · exact p_i2l C hk hd H
    · cases H
  case l2i =>
    have e1 := beqn hok
    subst e1
    unfold sem at H
    dsimp only at H
    split at H
    · exact p_l2i C hk hd H
    · cases H
  case i2b =>
    have e1 := beqn hok
    subst e1
    unfold sem at H
    dsimp only at H
    split at H
    · exact p_i2b C hk hd H
    · cases H
  case idiv =>
    have e1 := beqn hok
    subst e1
    unfold sem at H
    dsimp only at H
    split at H
    · have e3 := grd_some H
      exact p_idiv e3.1 C hk hd e3.2
    · cases H
  case ldiv =>
    have e1 := beqn hok
    subst e1
    unfold sem at H
    dsimp only at H
    split at H
    · have e3 := grd_some H
      exact p_ldiv e3.1 C hk hd e3.2
    · cases H
  case irem =>
    have e1 := beqn hok
    subst e1
    unfold sem at H
    dsimp only at H
    split at H
    · have e3 := grd_some H
      exact p_irem e3.1 C hk hd e3.2
    · cases H
  case dup =>
    have e1 := beqn hok
    subst e1
    unfold sem at H
    dsimp only at H
    split at H
    · split at H
      · cases H
      · rename_i ht
        exact p_dup (nbf ht) C hk hd H
    · cases H
  case pop =>
    have e1 := beqn hok
    subst e1
    unfold sem at H
    dsimp only at H
    split at H
    · split at H
      · cases H
      · rename_i ht
        exact p_pop (nbf ht) C hk hd H
    · cases H
  case dup2 =>
    have e1 := beqn hok
    subst e1
    unfold sem at H
    dsimp only at H
    split at H
    · split at H
      · rename_i ht
        have e3 := beqn ht
        subst e3
        exact p_dup2_2 C hk hd H
      · rename_i ht
        split at H
        · split at H
          · cases H
          · rename_i ht2
            exact p_dup2_11 (nbf ht) (nbf ht2) C hk hd H
        · cases H
    · cases H
  case ifCond cn off =>
    have e1 := andb hok
    have e2 := beqn e1.1
    subst e2
    unfold sem at H
    dsimp only at H
    split at H
    · cases cn
      · exact p_if_eq (decb e1.2) C hk hj hd H
      · exact p_if_ne (decb e1.2) C hk hj hd H
      · exact p_if_lt (decb e1.2) C hk hj hd H
      · exact p_if_ge (decb e1.2) C hk hj hd H
      · exact p_if_gt (decb e1.2) C hk hj hd H
      · exact p_if_le (decb e1.2) C hk hj hd H
    · cases H
  case if_icmp cn off =>
    have e1 := andb hok
    have e2 := beqn e1.1
    subst e2
    unfold sem at H
    dsimp only at H
    split at H
    · cases cn
      · exact p_icmp_eq (decb e1.2) C hk hj hd H
      · exact p_icmp_ne (decb e1.2) C hk hj hd H
      · exact p_icmp_lt (decb e1.2) C hk hj hd H
      · exact p_icmp_ge (decb e1.2) C hk hj hd H
      · exact p_icmp_gt (decb e1.2) C hk hj hd H
      · exact p_icmp_le (decb e1.2) C hk hj hd H
    · cases H
  case goto off =>
    have e1 := andb hok
    have e2 := beqn e1.1
    subst e2
    exact p_goto (decb e1.2) C hj hd H
  case tableswitch d lo9 hi offs =>
    have e1 := andb hok
    have e2 := andb e1.1
    unfold sem at H
    dsimp only at H
    split at H
    · exact p_tsw (decb e2.1) ⟨decb e2.2, fun o9 ho9 => decb (List.all_eq_true.mp e1.2 o9 ho9)⟩ C hj hd H
    · cases H
  case lookupswitch d ps =>
    have e1 := andb hok
    have e2 := andb e1.1
    unfold sem at H
    dsimp only at H
    split at H
    · exact p_lsw e2.1 ⟨decb e2.2, fun o9 ho9 => decb (List.all_eq_true.mp e1.2 o9 ho9)⟩ C hj hd H
    · cases H
  case ireturn =>
    have e1 := andb hok
    have e2 := beqn e1.1
    subst e2
    have e3 := e1.2
    unfold sem at H
    dsimp only at H
    split at H
    · split at H
      · have e5 := beqn e3
        exact hret.1 (Or.inl e5) _ _ _ _ hd (fun hb => by omega) H
      · have e4 := grd_some H
        have e5 : rk = 4 := by
          split at e3
          · rename_i hne
            exact absurd rfl hne
          · exact beqn e3
        exact hret.1 (Or.inr e5) _ _ _ _ hd (fun _ => e4.1) e4.2
    · cases H
  case lreturn =>
    have e1 := andb hok
    have e2 := beqn e1.1
    subst e2
    unfold sem at H
    dsimp only at H
    split at H
    · exact hret.2.1 (beqn e1.2) _ _ _ _ hd H
    · cases H
  case areturn =>
    have e1 := andb hok
    have e2 := beqn e1.1
    subst e2
    unfold sem at H
    dsimp only at H
    split at H
    · exact hret.2.2.1 (beqn e1.2) _ _ _ _ hd H
    · cases H
  case return_ =>
    have e1 := andb hok
    have e2 := beqn e1.1
    subst e2
    unfold sem at H
    dsimp only at H
    split at H
    · exact hret.2.2.2 (beqn e1.2) _ _ _ hd H
    · cases H
  case getfield i =>
    have e1 := andb hok
    have e2 := beqn e1.1
    subst e2
    have e3 := e1.2
    unfold sem at H
    dsimp only at H
    split at e3
    · rename_i cn sn ft fx p9 nest
      have e4 := andb e3
      have e5 := fldOK_spec e4.1
      obtain ⟨f1, f2, f3, f4, f5, f6⟩ := e5
      have e6 := e4.2
      have hlink : (Cond.fieldLink own i (fld cn sn).1 (fld cn sn).2.1 (fld cn sn).2.2.1) ∈ lw_u ∨ ∃ host, (Cond.fieldLinkNest own i (fld cn sn).1 (fld cn sn).2.1 (fld cn sn).2.2.1 host) ∈ lw_n := by
        split at e6
        · exact Or.inl (wd_in e6)
        · exact Or.inr ⟨_, wn_in e6⟩
      split at H
      · dsimp only at H
        split at H
        · rename_i ht
          have e7 := beqn ht
          subst e7
          split at H
          · split at H
            · exact p_getfield f1 f2 f3 ⟨f4, f5⟩ (fun h9 => by cases h9) (Or.inl rfl) hlink C hk hd H
            · rename_i hfx
              obtain ⟨g1, g2⟩ := f6.2 hfx
              exact p_getfield f1 f2 f3 ⟨f4, f5⟩ (fun h9 => by cases h9) (Or.inr ⟨rfl, g1, by rw [g2]⟩) hlink C hk hd H
          · have e8 := nn_some H
            exact p_getfield f1 f2 f3 ⟨f4, f5⟩ e8.1 (Or.inl rfl) hlink C hk hd e8.2
        · cases H
      · cases H
    · cases e3
  case putfield i =>
    have e1 := andb hok
    have e2 := beqn e1.1
    subst e2
    have e3 := e1.2
    unfold sem at H
    dsimp only at H
    split at e3
    · rename_i cn sn ft fx z9 p9
      have e4 := andb e3
      have e5 := andb e4.1
      have e6 := andb e5.1
      obtain ⟨f1, f2, f3, f4, f5, f6⟩ := fldOK_spec e6.1
      have hfin : (fld cn sn).2.2.2 = false ∨ meth.name = "<init>" := by
        have := e5.2
        rw [Bool.or_eq_true] at this
        rcases this with h9 | h9
        · exact Or.inl (by simpa using h9)
        · exact Or.inr (hini (andb h9).1)
      have hown9 : (fld cn sn).2.2.2 = true → own = (fld cn sn).1 := by
        intro h8
        have := e5.2
        rw [Bool.or_eq_true, h8] at this
        rcases this with h9 | h9
        · cases h9
        · exact decb (andb h9).2
      have hty := vty_tag f1 f2
      rw [f3] at hty
      split at H
      · dsimp only at H
        split at H
        · rename_i ht
          have e7 := andb ht
          have e8 := andb e7.1
          have e9 := beqn e8.1
          have e10 := beqn e8.2
          subst e9
          subst e10
          have hfx : g = false → (dll.getD cn []).getD sn 0 = 0 := by
            intro hg
            have := e7.2
            rw [hg] at this
            exact f6.1 (beqn this)
          split at H
          · have e11 := nn_some H
            have hz : ∀ v9 : Int, vty cn sn = .boolean → v9 = 0 ∨ v9 = 1 := fun v9 hb => by
              have := e4.2
              rw [Bool.or_eq_true] at this
              rcases this with h9 | h9
              · rw [hb] at h9; cases h9
              · cases h9
            exact p_putfield f1 f2 f3 ⟨f4, f5⟩ e11.1 (hz _) hty hfin hfx (wd_in e6.2) hown9 C hk hd e11.2
          · have e11 := nn_some H
            have e12 := grd_some e11.2
            exact p_putfield f1 f2 f3 ⟨f4, f5⟩ e11.1 (fun _ => e12.1) hty hfin hfx (wd_in e6.2) hown9 C hk hd e12.2
        · cases H
      · cases H
    · cases e3
  case iaload =>
    have e1 := beqn hok
    subst e1
    unfold sem at H
    dsimp only at H
    split at H
    · split at H
      · rename_i ht
        have e3 := beqn ht
        subst e3
        have e4 := grd_some H
        exact p_sload e4.1 C hk hd e4.2
      · split at H
        · rename_i ht
          have e3 := andb ht
          have e4 := nn_some H
          have e5 := grd_some e4.2
          exact p_iaload (blen e3.1) (beqn e3.2) e4.1 e5.1 C hk hd e5.2
        · cases H
    · cases H
  case laload =>
    have e1 := beqn hok
    subst e1
    unfold sem at H
    dsimp only at H
    split at H
    · split at H
      · rename_i ht
        have e3 := andb ht
        have e4 := nn_some H
        have e5 := grd_some e4.2
        exact p_laload (blen e3.1) (beqn e3.2) e4.1 e5.1 C hk hd e5.2
      · cases H
    · cases H
  case baload =>
    have e1 := beqn hok
    subst e1
    unfold sem at H
    dsimp only at H
    split at H
    · split at H
      · rename_i ht
        have e3 := andb ht
        have e4 := nn_some H
        have e5 := grd_some e4.2
        have e6 := e3.2
        rw [Bool.or_eq_true] at e6
        rcases e6 with e6 | e6
        · exact p_zaload (blen e3.1) (beqn e6) e4.1 e5.1 C hk hd e5.2
        · exact p_baload (blen e3.1) (beqn e6) e4.1 e5.1 C hk hd e5.2
      · cases H
    · cases H
  case aaload =>
    have e1 := beqn hok
    subst e1
    unfold sem at H
    dsimp only at H
    split at H
    · rename_i i9 t9 a9 rr9
      split at H
      · rename_i ht
        have e3 := andb ht
        have h20 := blen e3.1
        have h4 := blen e3.2
        have h6 : ∀ (n : Nat), okz z g n t9 a9 → n ≤ 148 → (g = true → 0 ≤ a9) → aknd t9 ≤ 6 := fun n ho hn hg0 => by
          obtain ⟨w1, w2, w3⟩ := okref (by omega) ho hg0
          have := (kd_4 (k := a9.toNat) (by simp only [Int.ofNat_eq_natCast] at w2; omega)).2.2
          rw [w3] at this
          exact this h20
        split at H
        · split at H
          · rename_i h5
            have e5 := grd_some H
            intro ad Hh locs ls q
            exact p_aaload h20 ⟨h4, h6 _ (OKS.hd (OKS.tl q.2.2.2.2.1)) q.1.2.2.2.2.1 (fun h9 => by cases h9)⟩ (fun h9 => by cases h9) e5.1 (Or.inr ⟨rfl, Or.inl ⟨h5, rfl⟩⟩) C hk hd e5.2 ad Hh locs ls q
          · rename_i h5
            have e5 := grd_some H
            intro ad Hh locs ls q
            exact p_aaload h20 ⟨h4, h6 _ (OKS.hd (OKS.tl q.2.2.2.2.1)) q.1.2.2.2.2.1 (fun h9 => by cases h9)⟩ (fun h9 => by cases h9) e5.1 (Or.inr ⟨rfl, Or.inr ⟨h5, rfl⟩⟩) C hk hd e5.2 ad Hh locs ls q
        · have e4 := nn_some H
          have e5 := grd_some e4.2
          intro ad Hh locs ls q
          exact p_aaload h20 ⟨h4, h6 _ (OKS.hd (OKS.tl q.2.2.2.2.1)) q.1.2.2.2.2.1 e4.1⟩ e4.1 e5.1 (Or.inl rfl) C hk hd e5.2 ad Hh locs ls q
      · cases H
    · cases H
  case iastore =>
    have e1 := beqn hok
    subst e1
    unfold sem at H
    dsimp only at H
    split at H
    · split at H
      · rename_i ht
        have e3 := andb ht
        have e4 := nn_some H
        have e5 := grd_some e4.2
        exact p_iastore (blen e3.1) (beqn e3.2) e4.1 e5.1 C hk hd e5.2
      · cases H
    · cases H
  case lastore =>
    have e1 := beqn hok
    subst e1
    unfold sem at H
    dsimp only at H
    split at H
    · split at H
      · rename_i ht
        have e3 := andb ht
        have e4 := nn_some H
        have e5 := grd_some e4.2
        exact p_lastore (blen e3.1) (beqn e3.2) e4.1 e5.1 C hk hd e5.2
      · cases H
    · cases H
  case bastore =>
    have e1 := beqn hok
    subst e1
    unfold sem at H
    dsimp only at H
    split at H
    · split at H
      · rename_i ht
        have e3 := andb ht
        have e4 := nn_some H
        have e5 := grd_some e4.2
        exact p_zastore (blen e3.1) (beqn e3.2) e4.1 e5.1 C hk hd e5.2
      · split at H
        · rename_i ht
          have e3 := andb ht
          have e4 := nn_some H
          have e5 := grd_some e4.2
          exact p_bastore (blen e3.1) (beqn e3.2) e4.1 e5.1 C hk hd e5.2
        · cases H
    · cases H
  case aastore =>
    have e1 := beqn hok
    subst e1
    unfold sem at H
    dsimp only at H
    split at H
    · split at H
      · rename_i ht
        have e3 := andb ht
        have e4 := andb e3.1
        have e5 := andb e4.1
        have e6 := andb e5.1
        have e7 := nn_some H
        have e8 := grd_some e7.2
        have e9 := beqn e4.2
        subst e9
        have e10 := e5.2
        rw [Bool.or_eq_true] at e10
        exact p_aastore e6.1 (blen e6.2) (e10.imp beqn beqn) (e7.1 e6.1) (decb e3.2) e8.1 C hk hd e8.2
      · cases H
    · cases H
  case arraylength =>
    have e1 := beqn hok
    subst e1
    unfold sem at H
    dsimp only at H
    split at H
    · rename_i t9 a9 rr9
      split at H
      · rename_i ht
        have e3 := beqn ht
        subst e3
        exact p_slen C hk hd H
      · split at H
        · rename_i ht
          have h20 := blen ht
          have e4 := nn_some H
          intro ad Hh locs ls q
          obtain ⟨w1, w2, w3⟩ := okref (by omega) (OKS.hd q.2.2.2.2.1) e4.1
          have hk4 := kd_4 (k := a9.toNat) (by have := q.1.2.2.2.2.1; simp only [Int.ofNat_eq_natCast] at w2; omega)
          have h6 := hk4.2.2
          rw [w3] at h6
          have w4 : kd a9.toNat = t9 := w3
          have hsm : (t9 - 20) / 8 < 2147483648 := by rw [← w4]; exact kd_small a9.toNat
          exact p_alen h20 (h6 h20) hsm e4.1 C hk hd e4.2 ad Hh locs ls q
        · cases H
    · cases H
  case invokevirtual i =>
    have e1 := andb hok
    have e2 := beqn e1.1
    subst e2
    have e3 := e1.2
    unfold sem at H
    dsimp only at H
    split at e3
    · rename_i rt f kd9 jj p9 ts
      dsimp only at H
      cases hI : mi jj with
      | mk I x9 =>
        obtain ⟨np, mq, ps⟩ := x9
        rw [hI] at e3
        dsimp only at e3
        have a1 := andb e3
        have a2 := andb a1.1
        have a3 := andb a2.1
        have a4 := andb a3.1
        have a5 := andb a4.1
        have a6 := andb a5.1
        have a7 := andb a6.1
        have hcal := decb a7.1
        have hmq := beqn a6.2
        have hrt := beqn a5.2
        have hts := decb a4.2
        have hfr := blen a3.2
        have hlo := blen a2.2
        have hlw := a1.2
        subst hmq
        subst hrt
        subst hts
        obtain ⟨b1, S', hl1, hl2, H1⟩ := popA_some H
        rw [List.append_nil] at H1
        split at H1
        · rename_i hdp
          have hdp := blen hdp
          have a8 := mok_V a7.2
          obtain ⟨hm, hinst, hsel, hln, t0, ts0, hts0, hrcv⟩ := a8
          have hlink : (Cond.methodLink own i I.1) ∈ lw_u ∨ ∃ host, (Cond.methodLinkNest own i I.1 host) ∈ lw_n := by
            split at hlw
            · exact Or.inr ⟨_, wn_in hlw⟩
            · exact Or.inl (wd_in hlw)
          have e4 := nn_some H1
          obtain ⟨fn, hfn, H2⟩ := nthF_some e4.2
          have hS := hfs f jj fn hcal hfn
          rw [hI] at hS
          intro ad Hh locs ls q
          have hzz : S = (I.2.2.2.2.2.2.2.zip b1.reverse).reverse ++ S' := by rw [hl2, zip_rev (by rw [hl1, List.length_reverse])]
          have hsub : ∀ vv ∈ S', vv ∈ S := fun vv hv => by rw [hzz]; exact List.mem_append_right _ hv
          have hlen : b1.reverse.length = I.2.2.2.2.2.2.2.length := by rw [List.length_reverse, hl1, List.length_reverse]
          have hoka : OKS false g (nOf h) (I.2.2.2.2.2.2.2.zip b1.reverse) := fun vv hv => okz_f (hm.2.2.2.1 vv.1 (List.of_mem_zip (show (vv.1, vv.2) ∈ _ from hv)).1) (q.2.2.2.2.1 vv (by rw [hzz]; exact List.mem_append_left _ (List.mem_reverse.mpr hv)))
          obtain ⟨v, h', H3, hM, hmn⟩ := hS b1.reverse h _ r H2 hlen hoka q.1.2.2.2.2.1 q.1.2.2.2.2.2
          have hkx : Cfg p l e R s m args below meth c D ca sa b A nL z g n0 h0 ad0 Q (pc + 3) L ((match I.2.2.2.2.2.2.1 with | 0 => [] | t + 1 => [(t, v)]) ++ S') h' := by
            generalize I.2.2.2.2.2.2.1 = rt9 at H3 ⊢
            cases rt9 with
            | zero => exact hk _ _ _ H3
            | succ t => exact hk _ _ _ H3
          have hbd9 : g = true → nOf h' - n0 ≤ R.cells ∧ slc (nOf h') - slc n0 ≤ R.slots := fun hg => by
            generalize I.2.2.2.2.2.2.1 = rt9 at H3
            cases rt9 with
            | zero => exact hbd hg _ _ _ H3
            | succ t => exact hbd hg _ _ _ H3
          subst hzz
          generalize b1.reverse = bb at q hkx hlen hoka hM e4 ⊢
          cases bb with
          | nil => rw [hts0] at hlen; cases hlen
          | cons o9 a9 =>
            rw [hts0] at hlen
            have hla : a9.length = ts0.length := Nat.succ.inj hlen
            refine p_call (a := o9 :: a9) hm hn0 hdp hbd9 hmn C hkx (fun vv hv => List.mem_append_right _ hv) (run_V hm hts0 hla (by rw [hts0] at hln; exact (Nat.succ.inj hln).symm) hdp hinst hsel hlink ⟨Nat.le_trans hfr hR.1, Nat.le_trans hlo hR.2⟩ hM C ?_ hd) ad Hh locs ls q
            intro ad2 H2 locs2 ls2 q2
            have ho : okz z g (nOf h) t0 o9 := q2.2.2.2.2.1 (t0, o9) (List.mem_append_left _ (List.mem_reverse.mpr (by rw [hts0]; exact List.mem_cons_self)))
            rcases hrcv with ⟨r1, r2⟩ | ⟨c0, qc, r1, r2, r3, r4⟩
            · subst r1
              rw [r2]
              exact ⟨_, cv2, recv_str C q2 ho⟩
            · subst r1
              obtain ⟨r5, r6⟩ := recv_cls r2 r3 C q2 ho e4.1
              rw [← r4]
              exact ⟨_, cv_ok (by omega) r5, r6⟩
        · cases H1
    · cases e3
  case invokestatic i =>
    have e1 := andb hok
    have e2 := beqn e1.1
    subst e2
    have e3 := e1.2
    unfold sem at H
    dsimp only at H
    split at e3
    · rename_i rt f kd9 jj p9 ts
      dsimp only at H
      cases hI : mi jj with
      | mk I x9 =>
        obtain ⟨np, mq, ps⟩ := x9
        rw [hI] at e3
        dsimp only at e3
        have a1 := andb e3
        have a2 := andb a1.1
        have a3 := andb a2.1
        have a4 := andb a3.1
        have a5 := andb a4.1
        have a6 := andb a5.1
        have a7 := andb a6.1
        have hcal := decb a7.1
        have hmq := beqn a6.2
        have hrt := beqn a5.2
        have hts := decb a4.2
        have hfr := blen a3.2
        have hlo := blen a2.2
        have hlw := a1.2
        subst hmq
        subst hrt
        subst hts
        obtain ⟨b1, S', hl1, hl2, H1⟩ := popA_some H
        rw [List.append_nil] at H1
        split at H1
        · rename_i hdp
          have hdp := blen hdp
          have a8 := mok_S a7.2
          obtain ⟨hm, hst, hln⟩ := a8
          have hlink : (Cond.methodLink own i I.1) ∈ lw_u ∨ ∃ host, (Cond.methodLinkNest own i I.1 host) ∈ lw_n := by
            split at hlw
            · exact Or.inr ⟨_, wn_in hlw⟩
            · exact Or.inl (wd_in hlw)
          obtain ⟨fn, hfn, H2⟩ := nthF_some H1
          have hS := hfs f jj fn hcal hfn
          rw [hI] at hS
          intro ad Hh locs ls q
          have hzz : S = (I.2.2.2.2.2.2.2.zip b1.reverse).reverse ++ S' := by rw [hl2, zip_rev (by rw [hl1, List.length_reverse])]
          have hsub : ∀ vv ∈ S', vv ∈ S := fun vv hv => by rw [hzz]; exact List.mem_append_right _ hv
          have hlen : b1.reverse.length = I.2.2.2.2.2.2.2.length := by rw [List.length_reverse, hl1, List.length_reverse]
          have hoka : OKS false g (nOf h) (I.2.2.2.2.2.2.2.zip b1.reverse) := fun vv hv => okz_f (hm.2.2.2.1 vv.1 (List.of_mem_zip (show (vv.1, vv.2) ∈ _ from hv)).1) (q.2.2.2.2.1 vv (by rw [hzz]; exact List.mem_append_left _ (List.mem_reverse.mpr hv)))
          obtain ⟨v, h', H3, hM, hmn⟩ := hS b1.reverse h _ r H2 hlen hoka q.1.2.2.2.2.1 q.1.2.2.2.2.2
          have hkx : Cfg p l e R s m args below meth c D ca sa b A nL z g n0 h0 ad0 Q (pc + 3) L ((match I.2.2.2.2.2.2.1 with | 0 => [] | t + 1 => [(t, v)]) ++ S') h' := by
            generalize I.2.2.2.2.2.2.1 = rt9 at H3 ⊢
            cases rt9 with
            | zero => exact hk _ _ _ H3
            | succ t => exact hk _ _ _ H3
          have hbd9 : g = true → nOf h' - n0 ≤ R.cells ∧ slc (nOf h') - slc n0 ≤ R.slots := fun hg => by
            generalize I.2.2.2.2.2.2.1 = rt9 at H3
            cases rt9 with
            | zero => exact hbd hg _ _ _ H3
            | succ t => exact hbd hg _ _ _ H3
          subst hzz
          exact p_call (a := b1.reverse) hm hn0 hdp hbd9 hmn C hkx (fun vv hv => List.mem_append_right _ hv) (run_S hm hlen hln hdp hst hlink ⟨Nat.le_trans hfr hR.1, Nat.le_trans hlo hR.2⟩ hM C hd) ad Hh locs ls q
        · cases H1
    · cases e3
  case invokespecial i =>
    have e1 := andb hok
    have e2 := beqn e1.1
    subst e2
    have e3 := e1.2
    unfold sem at H
    dsimp only at H
    split at e3
    · rename_i rt f kd9 jj p9 ts
      cases kd9 with
      | zero =>
        dsimp only at H e3
        have a1 := andb e3
        have a2 := andb a1.1
        have a3 := andb a2.1
        have a4 := andb a3.1
        replace H : (match (generalizing := false) S with
          | (t, o) :: r9 => match (generalizing := false) Nat.ble 4 t && Nat.ble (dpt r9) 8 && decide (0 ≤ o) with
            | true => k L r9 h
            | false => none
          | _ => none) = some r := H
        split at H
        · rename_i t9 o9 rr9
          split at H
          · rename_i hg9
            have b1 := andb hg9
            have b2 := andb b1.1
            exact p_objinit (blen b2.1) (blen b2.2) (decb b1.2) (wd_in a4.1) (decb a4.2) (decb a3.2) ⟨Nat.le_trans (blen a2.2) hR.1, Nat.le_trans (blen a1.2) hR.2⟩ C hk hd H
          · cases H
        · cases H
      | succ kd9 =>
        dsimp only at e3
        replace H : popA ts S [] (fun a r9 => match (generalizing := false) Nat.ble (dpt r9) 8 && g with
          | true => nn g (a.headD 0) (nthF fs f (fun fn => fn a h (fun v h' => match (generalizing := false) rt with
            | 0 => k L r9 h'
            | t + 1 => k L ((t, v) :: r9) h')))
          | false => none) = some r := H
        cases hI : mi jj with
        | mk I x9 =>
          obtain ⟨np, mq, ps⟩ := x9
          rw [hI] at e3
          dsimp only at e3
          have a1 := andb e3
          have a2 := andb a1.1
          have a3 := andb a2.1
          have a4 := andb a3.1
          have a5 := andb a4.1
          have a6 := andb a5.1
          have a7 := andb a6.1
          have hcal := decb a7.1
          have hmq := beqn a6.2
          have hrt := beqn a5.2
          have hts := decb a4.2
          have hfr := blen a3.2
          have hlo := blen a2.2
          have hlw := a1.2
          subst hmq
          subst hrt
          subst hts
          obtain ⟨b1, S', hl1, hl2, H1⟩ := popA_some H
          rw [List.append_nil] at H1
          split at H1
          · rename_i hdp
            have hdp2 := andb hdp
            have hdp := blen hdp2.1
            have hg := hdp2.2
            have a8 := mok_I a7.2
            obtain ⟨hm, hinst, hrn, hnm, hln, t0, ts0, hts0, ht04⟩ := a8
            have hlink : (Cond.methodLink own i I.1) ∈ lw_u ∨ ∃ host, (Cond.methodLinkNest own i I.1 host) ∈ lw_n := by
              split at hlw
              · exact Or.inr ⟨_, wn_in hlw⟩
              · exact Or.inl (wd_in hlw)
            have e4 := nn_some H1
            obtain ⟨fn, hfn, H2⟩ := nthF_some e4.2
            have hS := hfs f jj fn hcal hfn
            rw [hI] at hS
            intro ad Hh locs ls q
            have hzz : S = (I.2.2.2.2.2.2.2.zip b1.reverse).reverse ++ S' := by rw [hl2, zip_rev (by rw [hl1, List.length_reverse])]
            have hlen : b1.reverse.length = I.2.2.2.2.2.2.2.length := by rw [List.length_reverse, hl1, List.length_reverse]
            have hoka : OKS false g (nOf h) (I.2.2.2.2.2.2.2.zip b1.reverse) := fun vv hv => okz_f (hm.2.2.2.1 vv.1 (List.of_mem_zip (show (vv.1, vv.2) ∈ _ from hv)).1) (q.2.2.2.2.1 vv (by rw [hzz]; exact List.mem_append_left _ (List.mem_reverse.mpr hv)))
            obtain ⟨v, h', H3, hM, hmn⟩ := hS b1.reverse h _ r H2 hlen hoka q.1.2.2.2.2.1 q.1.2.2.2.2.2
            have hkx : Cfg p l e R s m args below meth c D ca sa b A nL z g n0 h0 ad0 Q (pc + 3) L ((match I.2.2.2.2.2.2.1 with | 0 => [] | t + 1 => [(t, v)]) ++ S') h' := by
              generalize I.2.2.2.2.2.2.1 = rt9 at H3 ⊢
              cases rt9 with
              | zero => exact hk _ _ _ H3
              | succ t => exact hk _ _ _ H3
            have hbd9 : g = true → nOf h' - n0 ≤ R.cells ∧ slc (nOf h') - slc n0 ≤ R.slots := fun hg => by
              generalize I.2.2.2.2.2.2.1 = rt9 at H3
              cases rt9 with
              | zero => exact hbd hg _ _ _ H3
              | succ t => exact hbd hg _ _ _ H3
            subst hzz
            generalize b1.reverse = bb at q hkx hlen hoka hM e4 ⊢
            cases bb with
            | nil => rw [hts0] at hlen; cases hlen
            | cons o9 a9 =>
              rw [hts0] at hlen
              have hla : a9.length = ts0.length := Nat.succ.inj hlen
              exact p_call (a := o9 :: a9) hm hn0 hdp hbd9 hmn C hkx (fun vv hv => List.mem_append_right _ hv) (run_I hm hrn hnm hts0 hla (by rw [hts0] at hln; exact (Nat.succ.inj hln).symm) hdp hinst ht04 (e4.1 hg) hlink ⟨Nat.le_trans hfr hR.1, Nat.le_trans hlo hR.2⟩ hM C hd) ad Hh locs ls q
          · cases H1
    · cases e3
  case new i =>
    have e1 := andb hok
    have e2 := beqn e1.1
    subst e2
    have e3 := e1.2
    unfold sem at H
    dsimp only at H
    split at e3
    · rename_i cn p1 p2 p3
      dsimp only at H
      split at e3
      · rename_i qc hqc
        have a1 := andb e3
        have a2 := andb a1.1
        have a3 := andb a2.1
        split at H
        · rename_i hg9
          have b1 := andb hg9
          have hkd := beqn b1.2
          have hlt : nOf h < 148 := by
            rcases Nat.lt_or_ge (nOf h) 148 with h9 | h9
            · exact h9
            · have := kd_ge h9
              unfold nOf at this
              omega
          exact p_new b1.1 (blen a3.1) hqc hkd hlt (hbd b1.1) (wd_in a3.2) (wd_in a2.2) (wd_in a1.2) C hk hd H
        · cases H
      · cases e3
    · cases e3
  case newarray at9 =>
    have e1 := andb hok
    have e2 := beqn e1.1
    subst e2
    have e3 := e1.2
    unfold sem at H
    dsimp only at H
    split at e3
    · rename_i ek p9
      have a1 := andb e3
      have a2 := andb a1.1
      split at H
      · dsimp only at H
        split at H
        · rename_i hg9
          have b1 := andb hg9
          have b2 := andb b1.1
          have hkd := beqn b1.2
          have hlt : nOf h < 148 := by
            rcases Nat.lt_or_ge (nOf h) 148 with h9 | h9
            · exact h9
            · have := kd_ge h9
              unfold nOf at this
              omega
          have hsm : _ := kd_small60 (nOf h)
          exact p_newarr b2.1 (blen a2.1) (decb a2.2) (decb b2.2) (by unfold nOf at hsm; rw [hkd] at hsm; omega) hkd hlt (hbd b2.1) (wd_in a1.2) C hk hd H
        · cases H
      · cases H
    · cases e3
  case anewarray i =>
    have e1 := andb hok
    have e2 := beqn e1.1
    subst e2
    have e3 := e1.2
    unfold sem at H
    dsimp only at H
    have key : ∀ ek (Cn : String), ((ek = 4 ∧ Cn = "PathRide$State") ∨ (ek = 5 ∧ Cn = "PathRide$Kept")) → (Cond.classLink own i Cn) ∈ lw_u → (match S with
        | (0, m9) :: r9 => match g && decide (0 ≤ m9) && Nat.beq (kd (cnt h).toNat) (20 + 8 * m9.toNat + ek) with
          | true => ltt (alc h (20 + 8 * m9.toNat + ek)) (fun h' => k L ((20 + 8 * m9.toNat + ek, cnt h) :: r9) h')
          | false => none
        | _ => none) = some r → Cfg p l e R s m args below meth c D ca sa b A nL z g n0 h0 ad0 Q pc L S h := by
      intro ek Cn hek hw H
      split at H
      · split at H
        · rename_i hg9
          have b1 := andb hg9
          have b2 := andb b1.1
          have hkd := beqn b1.2
          have hlt : nOf h < 148 := by
            rcases Nat.lt_or_ge (nOf h) 148 with h9 | h9
            · exact h9
            · have := kd_ge h9
              unfold nOf at this
              omega
          have hsm : _ := kd_small60 (nOf h)
          exact p_anew b2.1 hek (decb b2.2) (by unfold nOf at hsm; rw [hkd] at hsm; omega) hkd hlt (hbd b2.1) hw C hk hd H
        · cases H
      · cases H
    split at e3
    · exact key 4 _ (Or.inl ⟨rfl, rfl⟩) (wd_in e3) H
    · exact key 5 _ (Or.inr ⟨rfl, rfl⟩) (wd_in e3) H
    · cases e3
  case multianewarray i dm =>
    have e1 := andb hok
    have e2 := andb e1.1
    have e4 := beqn e2.1
    have e5 := beqn e2.2
    subst e4
    subst e5
    have e3 := e1.2
    unfold sem at H
    dsimp only at H
    split at e3
    · have a1 := andb e3
      split at H
      · split at H
        · rename_i hg9
          exact p_multi hg9 (wd_in a1.1) (wd_in a1.2) hbd C hk hd H
        · cases H
      · cases H
    · cases e3
  all_goals cases H
end
