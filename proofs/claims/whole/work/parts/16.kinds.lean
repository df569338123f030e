/-! THE KINDS OF CALLS. -/
section
variable {p : Program} {l : Launch} {e : Env} {R : Room} {s : State} {m : MethodId} {args : Array Value} {below : List Frame} {meth : Method} {c : Code}
variable {D : va_G} {ca : Nat → ClassId} {sa : Nat → Nat} {b : Nat} {A : Nat → Prop} {cc : ByteArray} {own : String} {nL : Nat} {z g : Bool} {N : Nat} {xs : Nat → Int32} {n0 : Nat} {h0 : Hp} {ad0 : Nat → Nat} {Q : State → Prop}
variable {ρ : Type} {pc len : Nat} {k : Lc → List AV → Hp → Option ρ} {j : Nat → Lc → List AV → Hp → Option ρ} {L : Lc} {h : Hp} {r : ρ}
theorem callB_mk {I : MInf} {np i : Nat} {h' : Hp} (hm : MOK I np) (C : Cx p s m args c D ca sa b A cc own nL z N xs h0) (hl : (Cond.methodLink own i I.1) ∈ lw_u) (hR : I.2.2.2.2.1 + 1 ≤ R.frames ∧ 8 + (I.2.2.1 + 11) + I.2.2.2.2.2.1 ≤ R.locals) : CallB R s args own i I.1 I.2.1 I.2.2.1 I.2.2.2.1 (.code I.1 I.2.1 I.2.2.1 I.2.2.2.1 :: lw_u) (rmOf I g h h') (mcf g h h') (msf g h h') np :=
  callB_of np C.2.2.2.2.1 hm.good rfl rfl rfl (C.2.2.2.2.1 _ hm.2.1) (C.2.2.2.2.1 _ hl) hm.2.2.1 hR
theorem callN_mk {I : MInf} {np i : Nat} {h' : Hp} {host : String} (hm : MOK I np) (C : Cx p s m args c D ca sa b A cc own nL z N xs h0) (hl : (Cond.methodLinkNest own i I.1 host) ∈ lw_n) (hR : I.2.2.2.2.1 + 1 ≤ R.frames ∧ 8 + (I.2.2.1 + 11) + I.2.2.2.2.2.1 ≤ R.locals) : va_CN R s args own i I.1 host I.2.1 I.2.2.1 I.2.2.2.1 (.code I.1 I.2.1 I.2.2.1 I.2.2.2.1 :: lw_u) (rmOf I g h h') (mcf g h h') (msf g h h') np :=
  va_cnB np C.2.2.2.2.1 hm.good rfl rfl rfl (C.2.2.2.2.2.2.1.2.2.2.2.2.2 _ hl) (C.2.2.2.2.1 _ hm.2.1) hm.2.2.1 hR
theorem cfix (C : Cx p s m args c D ca sa b A cc own nL z N xs h0) : CallFix p m c cc nL s args lw_u own := ⟨C.1, C.2.1, C.2.2.1, C.2.2.2.1, C.2.2.2.2.1⟩
/-- the receiver of a call -/
theorem recv_cls {c0 : Nat} {qc : vw_C} {o : Int} {ad : Nat → Nat} {H : Heap} {locs : List Loc} {ls : Array Slot} {S : List AV} (hc : c0 < 13) (hqc : vwCl[c0]? = some qc) (C : Cx p s m args c D ca sa b A cc own nL z N xs h0) (q : Sat s D ca sa b A nL z g n0 h0 ad0 L S h ad H locs ls) (ho : okz z g (nOf h) (4 + c0) o) (hg0 : g = true → 0 ≤ o) : 0 ≤ o ∧ ∃ cell : Cell, H[ad o.toNat]? = some cell ∧ cell.vm.isStatics = false ∧ s.vm.findClass qc.1 = some cell.cls := by
  obtain ⟨w1, w2, w3⟩ := okref (by omega) ho hg0
  exact ⟨w1, va_recv C.2.2.2.2.2.1 q.1.1 hqc (q.1.obj hc w1 w2 w3)⟩
theorem recv_str {o : Int} {ad : Nat → Nat} {H : Heap} {locs : List Loc} {ls : Array Slot} {S : List AV} (C : Cx p s m args c D ca sa b A cc own nL z N xs h0) (q : Sat s D ca sa b A nL z g n0 h0 ad0 L S h ad H locs ls) (ho : okz z g (nOf h) 2 o) : ∃ cell : Cell, H[sa o.toNat]? = some cell ∧ cell.vm.isStatics = false ∧ s.vm.findClass "java/lang/String" = some cell.cls := by
  obtain ⟨⟨sv, h1, -⟩, -⟩ := C.2.2.2.2.2.2.1
  have ho2 : 0 ≤ o ∧ o < 8 := ho
  have h2 := (h1.kept (H1 := H) (fun a9 h3 h4 => q.2.1.2.1 a9 h3 h4)).1 o.toNat (by omega)
  obtain ⟨⟨cell, c1, c2, c3, -⟩, -⟩ := h2
  exact ⟨cell, c1, c2, c3⟩
theorem run_V {I : MInf} {np i : Nat} {a : List Int} {ts : List Nat} {t0 : Nat} {o : Int} {S' : List AV} {v : Int} {h' : Hp} (hm : MOK I np) (hts : I.2.2.2.2.2.2.2 = t0 :: ts) (hla : a.length = ts.length) (hnp : np = ts.length) (hdp : dpt S' ≤ 8) (hinst : (Cond.instanceMethod I.1) ∈ lw_u) (hsel : (Cond.selects I.1.cls I.1 I.1) ∈ lw_u)
    (hl : (Cond.methodLink own i I.1) ∈ lw_u ∨ ∃ host, (Cond.methodLinkNest own i I.1 host) ∈ lw_n) (hR : I.2.2.2.2.1 + 1 ≤ R.frames ∧ 8 + (I.2.2.1 + 11) + I.2.2.2.2.2.1 ≤ R.locals) (hM : MetOf l g I (o :: a) h v h') (C : Cx p s m args c D ca sa b A cc own nL z N xs h0)
    (hrc : ∀ (ad : Nat → Nat) (H : Heap) (locs : List Loc) (ls : Array Slot), Sat s D ca sa b A nL z g n0 h0 ad0 L ((I.2.2.2.2.2.2.2.zip (o :: a)).reverse ++ S') h ad H locs ls → ∃ adr, cv ad sa b (t0, o) = .ref adr ∧ ∃ cell : Cell, H[adr]? = some cell ∧ cell.vm.isStatics = false ∧ s.vm.findClass I.1.cls = some cell.cls) (hd : decode cc pc = .ok (.invokevirtual i, 3)) :
    ∀ (ad : Nat → Nat) (H : Heap) (locs : List Loc) (ls : Array Slot), Sat s D ca sa b A nL z g n0 h0 ad0 L ((I.2.2.2.2.2.2.2.zip (o :: a)).reverse ++ S') h ad H locs ls → (nOf h - n0) + mcf g h h' ≤ R.cells ∧ (slc (nOf h) - slc n0) + msf g h h' ≤ R.slots →
      va_Run p l e R s m args below meth c H locs (nOf h - n0) (slc (nOf h) - slc n0) (mcf g h h') (msf g h h') (F0 m pc ls (((I.2.2.2.2.2.2.2.zip (o :: a)).reverse ++ S').map (cv ad sa b))) (S'.map (cv ad sa b)) (QcOf sa I.2.2.2.2.2.2.1 v (Bp D ca (va_A (wsl ca ad (nOf h) h) H.size) g ad I.2.2.2.2.2.2.1 v h h') (va_A (wsl ca ad (nOf h) h) H.size) ((I.2.2.2.2.2.2.2.zip (o :: a)).map (cv ad sa b)).toArray) (va_A (wsl ca ad (nOf h) h) H.size) := by
  intro ad H locs ls q hbd
  obtain ⟨adr, hcv, hcell⟩ := hrc ad H locs ls q
  have hpre := pcv_pre (a := o :: a) hm C q
  have hzip : (I.2.2.2.2.2.2.2.zip (o :: a)).map (cv ad sa b) = .ref adr :: (ts.zip a).map (cv ad sa b) := by rw [hts, List.zip_cons_cons, List.map_cons, hcv]
  have hstk : ((I.2.2.2.2.2.2.2.zip (o :: a)).reverse ++ S').map (cv ad sa b) = ((ts.zip a).map (cv ad sa b)).reverse ++ .ref adr :: S'.map (cv ad sa b) := by
    rw [List.map_append, List.map_reverse, hzip, List.reverse_cons, List.append_assoc]
    rfl
  rw [hzip] at hpre ⊢
  have hlen : ((ts.zip a).map (cv ad sa b)).length = np := by rw [List.length_map, List.length_zip, hla, Nat.min_self, hnp]
  rcases hl with hl | ⟨host, hl⟩
  · exact va_runV (cfix C) (hM D ca sa ad H.size) ⟨callB_mk hm C hl hR, C.2.2.2.2.1 _ hinst, C.2.2.2.2.1 _ hsel⟩ ⟨Pcv_blind, hcell, hpre⟩ rfl hlen q.2.2.1.1 hstk (by rw [dpt_cat]; show 2 * 0 + _ ≤ 8; omega) hd hbd
  · exact va_runVN (cfix C) (hM D ca sa ad H.size) ⟨callN_mk hm C hl hR, C.2.2.2.2.1 _ hinst, C.2.2.2.2.1 _ hsel⟩ ⟨Pcv_blind, hcell, hpre⟩ rfl hlen q.2.2.1.1 hstk (by rw [dpt_cat]; show 2 * 0 + _ ≤ 8; omega) hd hbd
theorem run_S {I : MInf} {np i : Nat} {a : List Int} {S' : List AV} {v : Int} {h' : Hp} (hm : MOK I np) (hla : a.length = I.2.2.2.2.2.2.2.length) (hnp : np = I.2.2.2.2.2.2.2.length) (hdp : dpt S' ≤ 8) (hst : (Cond.static I.1) ∈ lw_u)
    (hl : (Cond.methodLink own i I.1) ∈ lw_u ∨ ∃ host, (Cond.methodLinkNest own i I.1 host) ∈ lw_n) (hR : I.2.2.2.2.1 + 1 ≤ R.frames ∧ 8 + (I.2.2.1 + 11) + I.2.2.2.2.2.1 ≤ R.locals) (hM : MetOf l g I a h v h') (C : Cx p s m args c D ca sa b A cc own nL z N xs h0) (hd : decode cc pc = .ok (.invokestatic i, 3)) :
    ∀ (ad : Nat → Nat) (H : Heap) (locs : List Loc) (ls : Array Slot), Sat s D ca sa b A nL z g n0 h0 ad0 L ((I.2.2.2.2.2.2.2.zip a).reverse ++ S') h ad H locs ls → (nOf h - n0) + mcf g h h' ≤ R.cells ∧ (slc (nOf h) - slc n0) + msf g h h' ≤ R.slots →
      va_Run p l e R s m args below meth c H locs (nOf h - n0) (slc (nOf h) - slc n0) (mcf g h h') (msf g h h') (F0 m pc ls (((I.2.2.2.2.2.2.2.zip a).reverse ++ S').map (cv ad sa b))) (S'.map (cv ad sa b)) (QcOf sa I.2.2.2.2.2.2.1 v (Bp D ca (va_A (wsl ca ad (nOf h) h) H.size) g ad I.2.2.2.2.2.2.1 v h h') (va_A (wsl ca ad (nOf h) h) H.size) ((I.2.2.2.2.2.2.2.zip a).map (cv ad sa b)).toArray) (va_A (wsl ca ad (nOf h) h) H.size) := by
  intro ad H locs ls q hbd
  have hpre := pcv_pre (a := a) hm C q
  have hstk : ((I.2.2.2.2.2.2.2.zip a).reverse ++ S').map (cv ad sa b) = ((I.2.2.2.2.2.2.2.zip a).map (cv ad sa b)).reverse ++ S'.map (cv ad sa b) := by
    rw [List.map_append, List.map_reverse]
  have hlen : ((I.2.2.2.2.2.2.2.zip a).map (cv ad sa b)).length = np := by rw [List.length_map, List.length_zip, hla, Nat.min_self, hnp]
  rcases hl with hl | ⟨host, hl⟩
  · exact va_runS (cfix C) (hM D ca sa ad H.size) ⟨callB_mk hm C hl hR, C.2.2.2.2.1 _ hst⟩ ⟨Pcv_blind, hpre⟩ rfl hlen q.2.2.1.1 hstk (by rw [dpt_cat]; show 2 * 0 + _ ≤ 8; omega) hd hbd
  · exact va_runSN (cfix C) (hM D ca sa ad H.size) ⟨callN_mk hm C hl hR, C.2.2.2.2.1 _ hst, trivial⟩ ⟨Pcv_blind, hpre⟩ rfl hlen q.2.2.1.1 hstk (by rw [dpt_cat]; show 2 * 0 + _ ≤ 8; omega) hd hbd
theorem run_I {I : MInf} {np i : Nat} {a : List Int} {ts : List Nat} {t0 : Nat} {o : Int} {S' : List AV} {v : Int} {h' : Hp} (hm : MOK I np) (hret : I.2.2.2.1 = none) (hname : I.1.name = "<init>") (hts : I.2.2.2.2.2.2.2 = t0 :: ts) (hla : a.length = ts.length) (hnp : np = ts.length) (hdp : dpt S' ≤ 8) (hinst : (Cond.instanceMethod I.1) ∈ lw_u) (ht0 : 4 ≤ t0) (ho : 0 ≤ o)
    (hl : (Cond.methodLink own i I.1) ∈ lw_u ∨ ∃ host, (Cond.methodLinkNest own i I.1 host) ∈ lw_n) (hR : I.2.2.2.2.1 + 1 ≤ R.frames ∧ 8 + (I.2.2.1 + 11) + I.2.2.2.2.2.1 ≤ R.locals) (hM : MetOf l g I (o :: a) h v h') (C : Cx p s m args c D ca sa b A cc own nL z N xs h0) (hd : decode cc pc = .ok (.invokespecial i, 3)) :
    ∀ (ad : Nat → Nat) (H : Heap) (locs : List Loc) (ls : Array Slot), Sat s D ca sa b A nL z g n0 h0 ad0 L ((I.2.2.2.2.2.2.2.zip (o :: a)).reverse ++ S') h ad H locs ls → (nOf h - n0) + mcf g h h' ≤ R.cells ∧ (slc (nOf h) - slc n0) + msf g h h' ≤ R.slots →
      va_Run p l e R s m args below meth c H locs (nOf h - n0) (slc (nOf h) - slc n0) (mcf g h h') (msf g h h') (F0 m pc ls (((I.2.2.2.2.2.2.2.zip (o :: a)).reverse ++ S').map (cv ad sa b))) (S'.map (cv ad sa b)) (QcOf sa I.2.2.2.2.2.2.1 v (Bp D ca (va_A (wsl ca ad (nOf h) h) H.size) g ad I.2.2.2.2.2.2.1 v h h') (va_A (wsl ca ad (nOf h) h) H.size) ((I.2.2.2.2.2.2.2.zip (o :: a)).map (cv ad sa b)).toArray) (va_A (wsl ca ad (nOf h) h) H.size) := by
  intro ad H locs ls q hbd
  have hpre := pcv_pre (a := o :: a) hm C q
  have hzip : (I.2.2.2.2.2.2.2.zip (o :: a)).map (cv ad sa b) = .ref (ad o.toNat) :: (ts.zip a).map (cv ad sa b) := by rw [hts, List.zip_cons_cons, List.map_cons, cv_ok ht0 ho]
  have hstk : ((I.2.2.2.2.2.2.2.zip (o :: a)).reverse ++ S').map (cv ad sa b) = ((ts.zip a).map (cv ad sa b)).reverse ++ .ref (ad o.toNat) :: S'.map (cv ad sa b) := by
    rw [List.map_append, List.map_reverse, hzip, List.reverse_cons, List.append_assoc]
    rfl
  rw [hzip] at hpre ⊢
  have hlen : ((ts.zip a).map (cv ad sa b)).length = np := by rw [List.length_map, List.length_zip, hla, Nat.min_self, hnp]
  rcases hl with hl | ⟨host, hl⟩
  · have cb := callB_mk (g := g) (h := h) (h' := h') (R := R) hm C hl hR
    have hM9 := hM D ca sa ad H.size
    rw [hret] at cb hM9
    exact va_runI (cfix C) hM9 ⟨cb, hname, C.2.2.2.2.1 _ hinst⟩ ⟨Pcv_blind, hpre⟩ rfl hlen q.2.2.1.1 hstk (by rw [dpt_cat]; show 2 * 0 + _ ≤ 8; omega) hd hbd
  · have cb := callN_mk (g := g) (h := h) (h' := h') (R := R) hm C hl hR
    have hM9 := hM D ca sa ad H.size
    rw [hret] at cb hM9
    exact va_runIN (cfix C) hM9 ⟨cb, hname, C.2.2.2.2.1 _ hinst⟩ ⟨Pcv_blind, hpre⟩ rfl hlen q.2.2.1.1 hstk (by rw [dpt_cat]; show 2 * 0 + _ ≤ 8; omega) hd hbd
end
