/-! THE CONTEXT of a method's run. -/
/-- the String constants: class, entry, which -/
def strl : List (String × Nat × Nat) := [("PathRide$Reader", 103, 0), ("PathRide$Reader", 109, 1), ("PathRide$Reader", 111, 2), ("PathRide$Reader", 113, 3), ("PathRide$Reader", 115, 4), ("PathRide$Reader", 117, 5), ("PathRide$Reader", 119, 6), ("PathRide$Reader", 121, 7), ("PathRideModel", 197, 0), ("PathRideModel", 199, 1), ("PathRideModel", 201, 2), ("PathRideModel", 203, 3), ("PathRideModel", 205, 4), ("PathRideModel", 207, 5), ("PathRideModel", 209, 6), ("PathRideModel", 211, 7)]
def stx : List String := ["axes", "jerk", "tolerance", "to", "by", "turn", "mark", "again"]
def slens : List Nat := stx.map (fun t => t.length)
def sbyts : List (List Int32) := stx.map (fun t => t.toList.map (fun ch => Int32.ofNat ch.toNat))
def AOA (U : State) : Prop := (Cond.arrayOver (.array .int)).before #[] U = true
/-- what a method knows of what it never changes -/
def SW (sa : Nat → Nat) (A : Nat → Prop) (U : State) (H : Heap) : Prop :=
  (∃ sv : Nat → Nat, vk_S 8 slens sbyts sa sv A U H ∧ va_Zq "jdk/internal/util/Preconditions" "SIOOBE_FORMATTER" "Ljava/util/function/BiFunction;" A U H) ∧ va_Z "java/lang/String" "COMPACT_STRINGS" "Z" (.int 1) A U H ∧ (∀ q ∈ strl, vk_R q.1 q.2.1 (stx.getD q.2.2 "") (sa q.2.2) U) ∧ va_AO "PathRide$State" U ∧ va_AO "PathRide$Kept" U ∧ AOA U ∧ (∀ w ∈ lw_n, va_Nw w U)
theorem AOA_spec {U : State} (h : AOA U) : ∃ comp c k, U.vm.findClass (FieldType.array FieldType.int).toString = some comp ∧ (U.vm.classes.findIdx? fun (x : Class) => match x.kind with | .array component _ => component == comp | _ => false) = some c ∧ U.vm.classes[c]? = some k ∧ k.kind = .array comp (.array .int) ∧ U.vm.findClass ("[" ++ (FieldType.array FieldType.int).toString) = some c := by
  unfold AOA Cond.before Cond.holds at h
  simp only [Cond.value, beq_iff_eq] at h
  cases hc : U.vm.findClass (FieldType.array FieldType.int).toString with
  | none => rw [hc] at h; cases h
  | some comp =>
    simp only [hc, Option.bind_some, Option.bind_eq_some_iff, Option.map_eq_some_iff] at h
    obtain ⟨c, hi, k, hk, hb⟩ := h
    obtain ⟨hlt, hp, -⟩ := Array.findIdx?_eq_some_iff_getElem.mp hi
    have hkk : U.vm.classes[c] = k := (Array.getElem?_eq_some_iff.mp hk).2
    rw [hkk] at hp
    cases hkind : k.kind with
    | array component ty =>
      rw [hkind] at hb hp
      simp at hb hp
      exact ⟨comp, c, k, rfl, hi, hk, by rw [hkind, hp, hb.1], hb.2⟩
    | _ => rw [hkind] at hb; simp at hb
theorem AOA_moved {u U : State} (hvm : u.vm.Alike U.vm) (h : AOA u) : AOA U := by
  obtain ⟨comp, c, k, h1, h2, h3, h4, h5⟩ := AOA_spec h
  obtain ⟨k', hk', he⟩ := hvm.2.2 _ _ h3
  have hi : (U.vm.classes.findIdx? fun (x : Class) => match x.kind with | .array component _ => component == comp | _ => false) = some c := by
    have e1 := va_idx_bare U.vm comp
    have e2 := va_idx_bare u.vm comp
    have e3 : u.vm.bare = U.vm.bare := by first | exact hvm.bare_eq | exact hvm.bare_eq.symm
    rw [e3] at e2
    exact e1.symm.trans (e2.trans h2)
  have hkind : k'.kind = .array comp (.array .int) := by rw [he]; exact h4
  have f1 : U.vm.findClass (FieldType.array FieldType.int).toString = some comp := by rw [hvm.findClass]; exact h1
  have f2 : U.vm.findClass ("[" ++ (FieldType.array FieldType.int).toString) = some c := by rw [hvm.findClass]; exact h5
  unfold AOA Cond.before Cond.holds
  simp only [Cond.value]
  rw [f1, Option.bind_some]
  refine (congrArg (fun o : Option Nat => (o.bind (fun c => (U.vm.classes[c]?).map fun (k : Class) => match k.kind with | .array _ ty => decide (ty = FieldType.array .int) && decide (U.vm.findClass ("[" ++ (FieldType.array FieldType.int).toString) = some c) | _ => false) == some true)) hi).trans ?_
  simp [hk', hkind, f2]
theorem lw_n_all : (lw_n.all isNest) = true := by decide +kernel
theorem va_Nw_nest {w : Cond} {s U : State} (hw : isNest w = true) (hW : s.WarmedH U.vm) (h : va_Nw w s) : va_Nw w U := by
  cases w <;> first | (cases hw; done) | exact va_Nw.warmM hW h | exact va_Nw.warmF hW h
theorem SW_moved {sa : Nat → Nat} {A B : Nat → Prop} {u U : State} {H H1 : Heap} (hW : u.WarmedH U.vm) (hq : ∀ a : Nat, a < H.size → ¬ A a → H1[a]? = H[a]?) (hAB : ∀ q, B q → A q) (h : SW sa A u H) : SW sa B U H1 := by
  obtain ⟨⟨sv, h1, h1f⟩, h2, h3, h4, h5, h6, h7⟩ := h
  exact ⟨⟨sv, ((h1.moved hW.alike).kept hq).narrow hAB, ((h1f.moved hW.alike).kept hq).narrow hAB⟩, ((h2.moved hW.alike).kept hq).narrow hAB, fun q hq => vk_R.warm hW (h3 q hq), h4.moved hW.alike, h5.moved hW.alike, AOA_moved hW.alike h6, fun w hw => va_Nw_nest (List.all_eq_true.mp lw_n_all w hw) hW (h7 w hw)⟩
theorem nest_tab {w : Cond} (h : isNest w = true) : w.onTables = true := by
  cases w <;> first | rfl | cases h
theorem SW_same {sa : Nat → Nat} {A : Nat → Prop} {u U : State} {H : Heap} (hv : U.vm = u.vm) (h : SW sa A u H) : SW sa A U H := by
  have ha : u.vm.Alike U.vm := by rw [hv]; exact Vm.Alike.refl u.vm
  obtain ⟨⟨sv, h1, h1f⟩, h2, h3, h4, h5, h6, h7⟩ := h
  exact ⟨⟨sv, h1.moved ha, h1f.moved ha⟩, h2.moved ha, fun q hq => vk_R.same hv (h3 q hq), h4.moved ha, h5.moved ha, AOA_moved ha h6, fun w hw => va_Nw.same (nest_tab (List.all_eq_true.mp lw_n_all w hw)) hv.symm (h7 w hw)⟩
