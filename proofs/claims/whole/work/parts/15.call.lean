/-! A CALL. -/
theorem okz_mono {z g : Bool} {n n' t : Nat} {v : Int} (hn : n ≤ n') (h : okz z g n t v) : okz z g n' t v := by
  match t, h with
  | 0, h => exact h
  | 1, h => exact h
  | 2, h => exact h
  | 3, h => exact h
  | t + 4, h =>
    rcases (show (0 ≤ v ∧ v < Int.ofNat n ∧ kd v.toNat = t + 4) ∨ (g = true ∧ v = -1) from h) with h | h
    · exact Or.inl ⟨h.1, by have := h.2.1; simp only [Int.ofNat_eq_natCast] at this ⊢; omega, h.2.2⟩
    · exact Or.inr h
theorem cv_ad {ad ad' sa : Nat → Nat} {b n : Nat} {z g : Bool} {v : AV} (h : okz z g n v.1 v.2) (ha : ∀ k, k < n → ad' k = ad k) : cv ad' sa b v = cv ad sa b v := by
  obtain ⟨t, x⟩ := v
  match t, h with
  | 0, h => rfl
  | 1, h => rfl
  | 2, h => rfl
  | 3, h => rfl
  | t + 4, h =>
    rw [cv4 (Nat.le_add_left 4 t), cv4 (Nat.le_add_left 4 t)]
    rcases (show (0 ≤ x ∧ x < Int.ofNat n ∧ kd x.toNat = t + 4) ∨ (g = true ∧ x = -1) from h) with h | h
    · rw [if_neg (by omega), if_neg (by omega), ha _ (by have := h.2.1; simp only [Int.ofNat_eq_natCast] at this; omega)]
    · rw [if_pos (by omega), if_pos (by omega)]
theorem slc_mono {n n' : Nat} (h : n ≤ n') : slc n ≤ slc n' := by
  induction n' with
  | zero =>
    have : n = 0 := by omega
    subst this
    exact Nat.le_refl _
  | succ m ih =>
    by_cases e : n = m + 1
    · subst e; exact Nat.le_refl _
    · refine Nat.le_trans (ih (by omega)) ?_
      unfold slc
      rw [List.range_succ, List.map_append, List.sum_append]
      exact Nat.le_add_right _ _
def MOK (I : MInf) (np : Nat) : Prop :=
  (Cond.code I.1 I.2.1 I.2.2.1 I.2.2.2.1) ∈ lw_u ∧ (Cond.initialized I.1.cls) ∈ lw_u ∧ (I.1.cls ≠ "java/lang/invoke/MethodHandle" ∧ I.1.cls ≠ "java/lang/invoke/VarHandle" ∧ (parseMethodDescriptor I.1.desc).map (fun d => d.parameters.length) = some np) ∧ (∀ t ∈ I.2.2.2.2.2.2.2, t ≠ 3) ∧ I.2.2.2.2.2.2.1 ≤ 3
theorem MOK.good {I : MInf} {np : Nat} (h : MOK I np) : GoodIn lw_u (.code I.1 I.2.1 I.2.2.1 I.2.2.2.1 :: lw_u) := fun w hw => by
  rcases List.mem_cons.mp hw with rfl | hw
  · exact lw_uu_good _ h.1
  · exact lw_uu_good _ hw
section
variable {p : Program} {l : Launch} {e : Env} {R : Room} {s : State} {m : MethodId} {args : Array Value} {below : List Frame} {meth : Method} {c : Code}
variable {D : va_G} {ca : Nat → ClassId} {sa : Nat → Nat} {b : Nat} {A : Nat → Prop} {cc : ByteArray} {own : String} {nL : Nat} {z g : Bool} {N : Nat} {xs : Nat → Int32} {n0 : Nat} {h0 : Hp} {ad0 : Nat → Nat} {Q : State → Prop}
variable {ρ : Type} {pc len : Nat} {k : Lc → List AV → Hp → Option ρ} {j : Nat → Lc → List AV → Hp → Option ρ} {L : Lc} {h : Hp} {r : ρ}
theorem free_A {ad : Nat → Nat} {H : Heap} {locs : List Loc} (w : Wl D ca A g ad h H) (hS : va_S A s.heap H locs) (hA : ∀ q, s.heap.size ≤ q → A q) : ∀ q, va_A (wsl ca ad (nOf h) h) H.size q → A q := by
  intro q hq
  rcases hq with ⟨i, e9, hi⟩ | hq
  · exact w.2.1.2 i (q, e9) hi
  · exact hA q (Nat.le_trans hS.1 hq)
theorem pcv_pre {I : MInf} {np : Nat} {a : List Int} {ad : Nat → Nat} {H : Heap} {locs : List Loc} {ls : Array Slot} {S : List AV} (hm : MOK I np) (C : Cx p s m args c D ca sa b A cc own nL z N xs h0) (q : Sat s D ca sa b A nL z g n0 h0 ad0 L S h ad H locs ls) :
    ∀ U : State, U.heap = H → s.WarmedH U.vm → Pcv D ca sa g ad h I.2.2.2.2.2.2.2 a H.size ((I.2.2.2.2.2.2.2.zip a).map (cv ad sa b)).toArray U := by
  intro U hU hW
  obtain ⟨q1, q2, q3, q4, q5, q6⟩ := q.1
  refine ⟨?_, by rw [hU], ⟨by rw [hU]; exact q1, q2.weaken (fun _ _ _ _ => trivial), q3, q4, q5, q6⟩, va_K.moved hW.alike C.2.2.2.2.2.1, ?_⟩
  · congr 1
    apply List.map_congr_left
    intro v hv
    exact cv_b (hm.2.2.2.1 v.1 (List.of_mem_zip (show (v.1, v.2) ∈ _ from hv)).1)
  · rw [hU]
    exact SW_moved hW (fun a9 h1 h2 => q.2.1.2.1 a9 h1 h2) (free_A q.1 q.2.1 C.2.2.2.2.2.2.2.1) C.2.2.2.2.2.2.1
theorem sat_after {I : MInf} {ad : Nat → Nat} {H H1 : Heap} {locs locs1 : List Loc} {ls : Array Slot} {S S' : List AV} {t : State} {v : Int} {h' : Hp} (C : Cx p s m args c D ca sa b A cc own nL z N xs h0) (q : Sat s D ca sa b A nL z g n0 h0 ad0 L S h ad H locs ls) (hS' : OKS z g (nOf h) S') (ht : t.heap = H1) (hB : Bp D ca (va_A (wsl ca ad (nOf h) h) H.size) g ad I.2.2.2.2.2.2.1 v h h' t) (hs1 : va_S A s.heap H1 locs1) :
    ∃ ad', nOf h ≤ nOf h' ∧ (∀ k, k < nOf h → ad' k = ad k) ∧ (I.2.2.2.2.2.2.1 ≠ 0 → okz z g (nOf h') (I.2.2.2.2.2.2.1 - 1) v) ∧ ∀ S'' : List AV, OKS z g (nOf h') S'' → Sat s D ca sa b A nL z g n0 h0 ad0 L S'' h' ad' H1 locs1 ls := by
  obtain ⟨ad', e1, ⟨w1, w2, w3, w4, w5, w6⟩, e2, e3, e4⟩ := hB
  have hfree := free_A q.1 q.2.1 C.2.2.2.2.2.2.2.1
  refine ⟨ad', e4, e1, fun hr => ?_, fun S'' hS'' => ?_⟩
  · have := e2 hr
    generalize I.2.2.2.2.2.2.1 - 1 = t9 at this ⊢
    match t9, this with
    | 0, h => exact h
    | 1, h => exact h
    | 2, h => exact h
    | 3, h => exact absurd h.1 (by decide)
    | t + 4, h => exact h
  · rw [ht] at w1
    refine ⟨⟨w1, w2.weaken (fun _ _ _ h9 => hfree _ h9), w3, w4, w5, w6⟩, hs1, ?_, fun q9 h9 => okz_mono e4 (q.2.2.2.1 q9 h9), hS'', ⟨e3.1.trans q.2.2.2.2.2.1.1, e3.2.trans q.2.2.2.2.2.1.2⟩, Nat.le_trans q.2.2.2.2.2.2.1 e4, fun k9 h9 => (e1 k9 (Nat.lt_of_lt_of_le h9 q.2.2.2.2.2.2.1)).trans (q.2.2.2.2.2.2.2 k9 h9)⟩
    have : cvl ad' sa b L = cvl ad sa b L := by
      unfold cvl
      apply List.map_congr_left
      intro q9 h9
      rw [cv_ad (q.2.2.2.1 q9 h9) e1]
    rw [this]
    exact q.2.2.1
theorem p_call {I : MInf} {np : Nat} {a : List Int} {S S' : List AV} {v : Int} {h' : Hp} (hm : MOK I np) (hn0 : g = false → 148 - n0 ≤ R.cells ∧ slc 148 - slc n0 ≤ R.slots) (hdp : dpt S' ≤ 8) (hbc : g = true → nOf h' - n0 ≤ R.cells ∧ slc (nOf h') - slc n0 ≤ R.slots) (hmono : g = true → nOf h ≤ nOf h') (C : Cx p s m args c D ca sa b A cc own nL z N xs h0)
    (hkx : Cfg p l e R s m args below meth c D ca sa b A nL z g n0 h0 ad0 Q (pc + 3) L ((match I.2.2.2.2.2.2.1 with | 0 => [] | t + 1 => [(t, v)]) ++ S') h') (hS : ∀ vv ∈ S', vv ∈ S)
    (hrun : ∀ (ad : Nat → Nat) (H : Heap) (locs : List Loc) (ls : Array Slot), Sat s D ca sa b A nL z g n0 h0 ad0 L S h ad H locs ls → (nOf h - n0) + mcf g h h' ≤ R.cells ∧ (slc (nOf h) - slc n0) + msf g h h' ≤ R.slots →
      va_Run p l e R s m args below meth c H locs (nOf h - n0) (slc (nOf h) - slc n0) (mcf g h h') (msf g h h') (F0 m pc ls (S.map (cv ad sa b))) (S'.map (cv ad sa b)) (QcOf sa I.2.2.2.2.2.2.1 v (Bp D ca (va_A (wsl ca ad (nOf h) h) H.size) g ad I.2.2.2.2.2.2.1 v h h') (va_A (wsl ca ad (nOf h) h) H.size) ((I.2.2.2.2.2.2.2.zip a).map (cv ad sa b)).toArray) (va_A (wsl ca ad (nOf h) h) H.size)) : Cfg p l e R s m args below meth c D ca sa b A nL z g n0 h0 ad0 Q pc L S h := by
  intro ad H locs ls q
  have hfree := free_A q.1 q.2.1 C.2.2.2.2.2.2.2.1
  have hS' : OKS z g (nOf h) S' := fun vv hv => q.2.2.2.2.1 vv (hS vv hv)
  have hle := q.2.2.2.2.2.2.1
  have hbd : (nOf h - n0) + mcf g h h' ≤ R.cells ∧ (slc (nOf h) - slc n0) + msf g h h' ≤ R.slots := by
    cases hg : g with
    | false =>
      have h1 := q.1.2.2.2.2.2 hg
      rw [h1]
      exact hn0 hg
    | true =>
      have h1 := hbc hg
      have h2 := hmono hg
      have h3 := slc_mono hle
      have h4 := slc_mono h2
      show nOf h - n0 + (nOf h' - nOf h) ≤ _ ∧ slc (nOf h) - slc n0 + (slc (nOf h') - slc (nOf h)) ≤ _
      omega
  refine p_after (ad := ad) (b := b) (A0 := A) (H0 := s.heap) hm.2.2.2.2 (hrun ad H locs ls q hbd) q.2.1 (fun q9 _ h9 => hfree q9 h9) hfree (fun t H1 locs1 ht hB hz1 ho1 hs1 => ?_)
  obtain ⟨ad', e4, e1, e2, e3⟩ := sat_after C q hS' ht hB hs1
  have hcells : nOf h - n0 + mcf g h h' = nOf h' - n0 ∧ slc (nOf h) - slc n0 + msf g h h' = slc (nOf h') - slc n0 := by
    cases hg : g with
    | false =>
      obtain ⟨ad9, -, w9, -⟩ := hB
      have h1 := q.1.2.2.2.2.2 hg
      have h2 := w9.2.2.2.2.2 hg
      rw [h1, h2]
      exact ⟨rfl, rfl⟩
    | true =>
      have h3 := slc_mono hle
      have h4 := slc_mono e4
      show nOf h - n0 + (nOf h' - nOf h) = _ ∧ slc (nOf h) - slc n0 + (slc (nOf h') - slc (nOf h)) = _
      omega
  rw [hcells.1, hcells.2]
  have hSS : OKS z g (nOf h') S' := fun vv hv => okz_mono e4 (hS' vv hv)
  have hmap : S'.map (cv ad sa b) = S'.map (cv ad' sa b) := List.map_congr_left (fun vv hv => (cv_ad (hS' vv hv) e1).symm)
  generalize hrt : I.2.2.2.2.2.2.1 = rt at hkx e2
  match rt, hkx, e2 with
  | 0, hkx, e2 =>
    have := hkx ad' H1 locs1 ls (e3 _ hSS)
    rw [hmap]
    exact this
  | t + 1, hkx, e2 =>
    have := hkx ad' H1 locs1 ls (e3 _ (OKS.cons (v := (t, v)) (e2 (by omega)) hSS))
    rw [hmap]
    have hcv : cv ad sa b (t, v) = cv ad' sa b (t, v) := by
      have ht3 := hm.2.2.2.2
      rw [hrt] at ht3
      match t, ht3 with
      | 0, _ => rfl
      | 1, _ => rfl
      | 2, _ => rfl
    show W p l e R s m args below meth c H1 locs1 _ _ Q (F0 m (pc + 3) ls (cv ad sa b (t, v) :: _))
    rw [hcv]
    exact this
end
