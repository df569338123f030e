/-! A METHOD from its table. -/
/-- a method's locals at its start -/
def entL : Nat → List AV → Lc
  | _, [] => []
  | i, v :: t => (i, v) :: entL (match Nat.beq v.1 1 with | true => i + 2 | false => i + 1) t
theorem entL_cvl {ad sa : Nat → Nat} {b : Nat} : ∀ (S : List AV) (i : Nat), cvl ad sa b (entL i S) = lv_args i (S.map (cv ad sa b))
  | [], _ => rfl
  | v :: t, i => by
    show (i, cv ad sa b v) :: cvl ad sa b (entL _ t) = (i, cv ad sa b v) :: lv_args _ _
    rw [entL_cvl t]
    congr 2
    rw [cv_cat, nbq]
    by_cases h : v.1 = 1
    · rw [if_pos h, h]; rfl
    · rw [if_neg h, beq_eq_false_iff_ne.mpr h]; rfl
theorem entL_mem : ∀ (S : List AV) (i : Nat), ∀ q ∈ entL i S, q.2 ∈ S
  | [], _, q, hq => by cases hq
  | v :: t, i, q, hq => by
    rcases List.mem_cons.mp (show q ∈ (i, v) :: entL _ t from hq) with h | h
    · rw [h]; exact List.mem_cons_self
    · exact List.mem_cons_of_mem _ (entL_mem t _ q h)
theorem sl_len {ad sa : Nat → Nat} {b : Nat} : ∀ S : List AV, (lg_sl (S.map (cv ad sa b))).length = dpt S
  | [] => rfl
  | v :: t => by
    have ih := sl_len (ad := ad) (sa := sa) (b := b) t
    show ((if (cv ad sa b v).category = 2 then [Slot.val (cv ad sa b v), Slot.second] else [Slot.val (cv ad sa b v)]) ++ lg_sl (t.map (cv ad sa b))).length = (match Nat.beq v.1 1 with | true => 2 | false => 1) + dpt t
    rw [List.length_append, ih, cv_cat, nbq]
    by_cases h : v.1 = 1
    · rw [if_pos h, h]; rfl
    · rw [if_neg h, beq_eq_false_iff_ne.mpr h]; rfl
/-- the kit's own row of this kind asks more of the class's name -/
theorem met_ofW {l : Launch} {y : MethodName} {ws ws' : List Cond} {rm : Room} {Pc : Array Value → State → Prop} {Qc : Array Value → State → Outcome → State → Prop} {mc ms : Nat} {free : Addr → Prop} {cc : ByteArray} {maxL : Nat} {ret : Option FieldType}
    (hy : plainFor y = true) (hw : ws = Cond.code y cc maxL ret :: ws')
    (body : ∀ p e s m args below meth c s₁, BodyLoose p l y (headSpec ws rm) cc maxL ret e s m args below meth c s₁ → c.maxLocals = maxL → Pc args s →
      W p l e (headSpec ws rm).room s m args below meth c s.heap [] 0 0 (MQ below Qc args s mc ms free) (entryFrame m args maxL)) : Met l y ws rm Pc Qc mc ms free := by
  refine MetFree.of_bodySF (code := cc) (maxLocals := maxL) (ret := ret) hy (fun a9 s9 m9 h9 hn => ?_) (fun p e s m args below meth c s₁ B hml hP _ => ?_)
  · obtain ⟨meth, c, h1, h2, h3, h4, h5, h6, -, -⟩ := Cond.code_spec hn (atoms_spec (ws := ws) h9 _ (by rw [hw]; exact List.mem_cons_self))
    exact ⟨meth, c, h1, h2, h3, h4, h5, h6⟩
  · have hh0 : s₁.heap = s.heap := by rw [B.state]; rfl
    obtain ⟨t, a1, o, b1, b2, b3⟩ := body p e s m args below meth c s₁ B hml hP s₁ hh0 (Stand.of_body B)
    exact ⟨t, o, a1, b1, b2, ⟨b3.1, b3.2⟩⟩
theorem met_mk {l : Launch} {g : Bool} {I : MInf} {np : Nat} {a : List Int} {h h' : Hp} {v : Int} (hm : MOK I np) (hpl : plainFor I.1 = true) (hdp : dpt (I.2.2.2.2.2.2.2.zip a) ≤ I.2.2.1) (ho : OKS false g (nOf h) (I.2.2.2.2.2.2.2.zip a))
    (hcfg : ∀ (p : Program) (e : Env) (s : State) (m : MethodId) (args : Array Value) (below : List Frame) (meth : Method) (c : Code) (D : va_G) (ca sa ad : Nat → Nat), Cx p s m args c D ca sa 0 (va_A (wsl ca ad (nOf h) h) s.heap.size) I.2.1 I.1.cls I.2.2.1 false 0 (fun _ => 0) h → meth.sig.returnType = I.2.2.2.1 → meth.locks = false → s.methodNamed? I.1 = some m → s.vm.method? m = some meth →
      Cfg p l e (rmOf I g h h') s m args below meth c D ca sa 0 (va_A (wsl ca ad (nOf h) h) s.heap.size) I.2.2.1 false g (nOf h) h ad (MQ below (QcOf sa I.2.2.2.2.2.2.1 v (Bp D ca (va_A (wsl ca ad (nOf h) h) s.heap.size) g ad I.2.2.2.2.2.2.1 v h h') (va_A (wsl ca ad (nOf h) h) s.heap.size)) args s (mcf g h h') (msf g h h') (va_A (wsl ca ad (nOf h) h) s.heap.size)) 0 (entL 0 (I.2.2.2.2.2.2.2.zip a)) [] h) : MetOf l g I a h v h' := by
  intro D ca sa ad sz
  refine met_ofW (cc := I.2.1) (maxL := I.2.2.1) (ret := I.2.2.2.1) hpl rfl ?_
  intro p e s m args below meth c s₁ B hml hv
  obtain ⟨hargs, hsz, hW, hK, hSW⟩ := hv
  subst hsz
  have hws : ∀ w ∈ lw_u, w.before args s = true := fun w hw => atoms_spec (ws := .code I.1 I.2.1 I.2.2.1 I.2.2.2.1 :: lw_u) B.pre w (List.mem_cons_of_mem _ hw)
  have hC : Cx p s m args c D ca sa 0 (va_A (wsl ca ad (nOf h) h) s.heap.size) I.2.1 I.1.cls I.2.2.1 false 0 (fun _ => 0) h :=
    ⟨B.exec, B.bytes, hml, findClass_of_methodNamed B.named, hws, hK, hSW, fun q hq => Or.inr hq, (fun q => (by cases q)), (fun q => (by cases q))⟩
  have hc := hcfg p e s m args below meth c D ca sa ad hC B.returns B.notSynchronized B.named B.method
  subst hargs
  rw [lg_entry_eq]
  have hlen : (lg_sl ((I.2.2.2.2.2.2.2.zip a).map (cv ad sa 0))).length ≤ I.2.2.1 := by rw [sl_len]; exact hdp
  have hl := lv_entry _ hlen
  rw [← entL_cvl] at hl
  have := hc ad s.heap [] _ ⟨⟨hW.1, ⟨hW.2.1.1, fun k q hq => Or.inl ⟨k, q.2, hq⟩⟩, hW.2.2.1, hW.2.2.2.1, hW.2.2.2.2.1, hW.2.2.2.2.2⟩, va_S.rf, hl, (fun q hq => ho q.2 (entL_mem _ _ q hq)), (fun q hq => (by cases hq)), ⟨rfl, rfl⟩, Nat.le_refl _, fun _ _ => rfl⟩
  rw [Nat.sub_self, Nat.sub_self] at this
  exact this
theorem rets_mk {p : Program} {l : Launch} {e : Env} {R : Room} {s : State} {m : MethodId} {args : Array Value} {below : List Frame} {meth : Method} {c : Code} {D : va_G} {ca sa : Nat → Nat} {A : Nat → Prop} {cc : ByteArray} {own : String} {nL : Nat} {g : Bool} {h h' : Hp} {ad : Nat → Nat} {ρ : Type} {r : ρ} {fin : Int → Hp → Option ρ} {rk rt : Nat} {v : Int} {ret : Option FieldType}
    (hrk : (rk = 0 ∧ rt = 0 ∧ ret = none) ∨ (rk = 1 ∧ rt = 1 ∧ ret = some .int) ∨ (rk = 4 ∧ rt = 1 ∧ ret = some .boolean) ∨ (rk = 2 ∧ rt = 2 ∧ ret = some .long) ∨ (rk = 3 ∧ rt = 3 ∧ ∃ n, ret = some (.object n))) (hret : meth.sig.returnType = ret) (hlk : meth.locks = false) (hg : g = false → nOf h = 148) (hfin : ∀ v1 h1, fin v1 h1 = some r → h1 = h' ∧ (rt ≠ 0 → v1 = v)) (C : Cx p s m args c D ca sa 0 A cc own nL false 0 (fun _ => 0) h) :
    Rets cc rk fin r (Cfg p l e R s m args below meth c D ca sa 0 A nL false g (nOf h) h ad (MQ below (QcOf sa rt v (Bp D ca A g ad rt v h h') A) args s (mcf g h h') (msf g h h') A)) := by
  have hcs : ∀ {h1 : Hp} {L : Lc} {S : List AV} {ad1 : Nat → Nat} {H : Heap} {locs : List Loc} {ls : Array Slot}, h1 = h' → Sat s D ca sa 0 A nL false g (nOf h) h ad L S h1 ad1 H locs ls → nOf h1 - nOf h = mcf g h h' ∧ slc (nOf h1) - slc (nOf h) = msf g h h' := fun {h1 L S ad1 H locs ls} e1 q => by
    subst e1
    cases hgg : g with
    | false =>
      have h1 := q.1.2.2.2.2.2 hgg
      have h2 := hg hgg
      rw [h1, h2]
      exact ⟨Nat.sub_self _, Nat.sub_self _⟩
    | true => exact ⟨rfl, rfl⟩
  have hB : ∀ {h1 : Hp} {L : Lc} {S : List AV} {ad1 : Nat → Nat} {H : Heap} {locs : List Loc} {ls : Array Slot} {t : State}, h1 = h' → Sat s D ca sa 0 A nL false g (nOf h) h ad L S h1 ad1 H locs ls → (rt ≠ 0 → okz false g (nOf h') (rt - 1) v) → t.heap = H → Bp D ca A g ad rt v h h' t := fun {h1 L S ad1 H locs ls t} e1 q ho ht => by
    subst e1
    exact ⟨ad1, q.2.2.2.2.2.2.2, by rw [ht]; exact q.1, ho, q.2.2.2.2.2.1, q.2.2.2.2.2.2.1⟩
  refine ⟨fun hk pc L v1 h1 hd hz hf => ?_, fun hk pc L v1 h1 hd hf => ?_, fun hk pc L v1 h1 hd hf => ?_, fun hk pc L h1 hd hf => ?_⟩
  · obtain ⟨f1, f2⟩ := hfin _ _ hf
    intro ad1 H locs ls q
    have hrt : rt = 1 := by omega
    subst hrt
    have f3 := f2 (by decide)
    subst f3
    rw [(hcs f1 q).1, (hcs f1 q).2]
    have ho := OKS.hd q.2.2.2.2.1
    rw [f1] at ho
    rcases hk with hk | hk
    · have hr : meth.sig.returnType = some .int := by
        rw [hret]
        rcases hrk with ⟨a1, -⟩ | ⟨-, -, a2⟩ | ⟨a1, -⟩ | ⟨a1, -⟩ | ⟨a1, -⟩
        · omega
        · exact a2
        · omega
        · omega
        · omega
      exact W.iret C.1 C.2.1 hr (fun t ht _ => ⟨⟨_, (), rfl, rfl, hB f1 q (fun _ => ho) ht⟩, q.2.1.F ht⟩) q.2.1.2.2 hd hlk
    · have hr : meth.sig.returnType = some .boolean := by
        rw [hret]
        rcases hrk with ⟨a1, -⟩ | ⟨a1, -⟩ | ⟨-, -, a2⟩ | ⟨a1, -⟩ | ⟨a1, -⟩
        · omega
        · omega
        · exact a2
        · omega
        · omega
      refine W.zret C.1 C.2.1 hr ?_ (fun t ht _ => ⟨⟨_, (), rfl, rfl, hB f1 q (fun _ => ho) ht⟩, q.2.1.F ht⟩) q.2.1.2.2 hd hlk
      rcases hz hk with h9 | h9 <;> subst h9 <;> rfl
  · obtain ⟨f1, f2⟩ := hfin _ _ hf
    intro ad1 H locs ls q
    have hr : rt = 2 ∧ meth.sig.returnType = some .long := by
      rw [hret]
      rcases hrk with ⟨a1, -⟩ | ⟨a1, -⟩ | ⟨a1, -⟩ | ⟨-, a3, a2⟩ | ⟨a1, -⟩
      · omega
      · omega
      · omega
      · exact ⟨a3, a2⟩
      · omega
    obtain ⟨hrt, hr⟩ := hr
    subst hrt
    have f3 := f2 (by decide)
    subst f3
    rw [(hcs f1 q).1, (hcs f1 q).2]
    have ho := OKS.hd q.2.2.2.2.1
    rw [f1] at ho
    exact W.lret C.1 C.2.1 hr (fun t ht _ => ⟨⟨_, (), rfl, rfl, hB f1 q (fun _ => ho) ht⟩, q.2.1.F ht⟩) q.2.1.2.2 hd hlk
  · obtain ⟨f1, f2⟩ := hfin _ _ hf
    intro ad1 H locs ls q
    have hr : rt = 3 ∧ ∃ n, meth.sig.returnType = some (.object n) := by
      rw [hret]
      rcases hrk with ⟨a1, -⟩ | ⟨a1, -⟩ | ⟨a1, -⟩ | ⟨a1, -⟩ | ⟨-, a3, a2⟩
      · omega
      · omega
      · omega
      · omega
      · exact ⟨a3, a2⟩
    obtain ⟨hrt, n, hr⟩ := hr
    subst hrt
    have f3 := f2 (by decide)
    subst f3
    rw [(hcs f1 q).1, (hcs f1 q).2]
    have ho := OKS.hd q.2.2.2.2.1
    rw [f1] at ho
    exact W.aret C.1 C.2.1 hr (Or.inl ⟨n, rfl⟩) (Or.inr ⟨_, rfl⟩) (fun t ht _ => ⟨⟨(), _, rfl, trivial, rfl, hB f1 q (fun _ => ho) ht⟩, q.2.1.F ht⟩) q.2.1.2.2 hd hlk
  · obtain ⟨f1, f2⟩ := hfin _ _ hf
    intro ad1 H locs ls q
    have hr : rt = 0 ∧ meth.sig.returnType = none := by
      rw [hret]
      rcases hrk with ⟨-, a3, a2⟩ | ⟨a1, -⟩ | ⟨a1, -⟩ | ⟨a1, -⟩ | ⟨a1, -⟩
      · exact ⟨a3, a2⟩
      · omega
      · omega
      · omega
      · omega
    obtain ⟨hrt, hr⟩ := hr
    subst hrt
    rw [(hcs f1 q).1, (hcs f1 q).2]
    exact W.vret C.1 C.2.1 hr (fun t ht _ => ⟨⟨(), rfl, trivial, hB f1 q (fun h9 => absurd rfl h9) ht⟩, q.2.1.F ht⟩) q.2.1.2.2 hd hlk
