/-! WHAT THE STATEMENT GIVES at the entry: the classes, the arrays' classes, the constants. -/
theorem vw_inst : (vwCl.all fun q => decide (Cond.instantiable q.1 q.2.2 ∈ lw_tbl)) = true := by decide +kernel
theorem arr_c {s : State} {args : Array Value} {t : FieldType} (h : (Cond.arrayClass t).before args s = true) : ∃ c, ArrOfT s c t ∧ s.vm.findClass ("[" ++ t.toString) = some c := by
  obtain ⟨c, k, comp, h1, h2, h3⟩ := Cond.arrayClass_spec h
  exact ⟨c, fun n z => ⟨fun k h => (by cases h), k, h2, comp, h3⟩, h1⟩
theorem arr_o {s : State} {args : Array Value} {C : String} (h : (Cond.arrayOver (.object C)).before args s = true) : ∃ c, ArrOfT s c (.object C) ∧ va_RA s c (.object C) := by
  obtain ⟨comp, c, k, h1, h2, h3, h4, h5⟩ := Cond.arrayOver_spec h
  exact ⟨c, fun n z => ⟨fun k h => (by cases h), k, h3, comp, h4⟩, k, comp, h3, h4, h1, h5⟩
theorem aoa_of {s : State} {args : Array Value} (h : (Cond.arrayOver (.array .int)).before args s = true) : AOA s := h
theorem arr_a {s : State} {args : Array Value} (h : (Cond.arrayOver (.array .int)).before args s = true) : ∃ c, ArrOfT s c (.array .int) ∧ va_RA s c (.array .int) := by
  obtain ⟨comp, c, k, h1, h2, h3, h4, h5⟩ := AOA_spec (aoa_of h)
  exact ⟨c, fun n z => ⟨fun k h => (by cases h), k, h3, comp, h4⟩, h5⟩
theorem k_start {s : State} {args : Array Value} (hts : ∀ w ∈ lw_tbl, w.before args s = true) : ∃ (D : va_G) (ca : Nat → ClassId), va_K D vwCl (tysl ca) s := by
  have hu : ∀ w ∈ lw_u, w.before args s = true := fun w hw => hts w (List.mem_filter.mp hw).1
  have h0 : ∀ k : Nat, ∃ x : ClassId × (Nat → Nat), ∀ q, vwCl[k]? = some q → u_Kn s q.1 q.2.1 q.2.2 x.1 x.2 := fun k => by
    cases hq : vwCl[k]? with
    | none => exact ⟨(0, fun _ => 0), fun q h => by cases h⟩
    | some q =>
      have hm := of_decide_eq_true (List.all_eq_true.mp vw_inst q (List.mem_of_getElem? hq))
      obtain ⟨c, iS, hK⟩ := u_known (C := q.1) (T := q.2.1) (N := q.2.2) (n := q.2.2) hu (vw_in hq) (hts _ hm)
      exact ⟨(c, iS), fun q' h => by cases h; exact hK⟩
  obtain ⟨f, hf⟩ := Classical.axiomOfChoice h0
  obtain ⟨c0, i0, n0⟩ := arr_c (hts (.arrayClass .int) (by decide +kernel))
  obtain ⟨c1, i1, n1⟩ := arr_c (hts (.arrayClass .long) (by decide +kernel))
  obtain ⟨c2, i2, n2⟩ := arr_c (hts (.arrayClass .boolean) (by decide +kernel))
  obtain ⟨c3, i3, n3⟩ := arr_c (hts (.arrayClass .byte) (by decide +kernel))
  obtain ⟨c4, i4, n4⟩ := arr_o (hts (.arrayOver (.object "PathRide$State")) (by decide +kernel))
  obtain ⟨c5, i5, n5⟩ := arr_o (hts (.arrayOver (.object "PathRide$Kept")) (by decide +kernel))
  obtain ⟨c6, i6, n6⟩ := arr_a (hts (.arrayOver (.array .int)) (by decide +kernel))
  refine ⟨(fun k => (f k).1, fun k => (f k).2), (fun k => match k with | 0 => c0 | 1 => c1 | 2 => c2 | 3 => c3 | 4 => c4 | 5 => c5 | _ => c6), fun k q hq => hf k q hq, fun k q hq => ?_⟩
  match k, hq with
  | 0, hq => cases hq; exact ⟨i0, n0⟩
  | 1, hq => cases hq; exact ⟨i1, n1⟩
  | 2, hq => cases hq; exact ⟨i2, n2⟩
  | 3, hq => cases hq; exact ⟨i3, n3⟩
  | 4, hq => cases hq; exact ⟨i4, n4⟩
  | 5, hq => cases hq; exact ⟨i5, n5⟩
  | 6, hq => cases hq; exact ⟨i6, n6⟩
  | k + 7, hq => cases hq
/-- the constants' entries: the class's, the reference's -/
def rix (i : Nat) : Nat := [103, 109, 111, 113, 115, 117, 119, 121].getD i 0
def mix (i : Nat) : Nat := [197, 199, 201, 203, 205, 207, 209, 211].getD i 0
def gvn : List Cond := flatC (Jvm.Cond.and given_1 narrow_1)
def tmR (i : Nat) : Term := .string "PathRide$Reader" (rix i)
set_option maxRecDepth 100000 in
theorem g_ex : ∀ i, i < 8 → Cond.exactly (tmR i) "java/lang/String" ∈ gvn := by decide +kernel
set_option maxRecDepth 100000 in
theorem g_co : ∀ i, i < 8 → Cond.eq (.field (tmR i) "java/lang/String" "coder" "B") (.int 0) ∈ gvn := by decide +kernel
set_option maxRecDepth 100000 in
theorem g_ar : ∀ i, i < 8 → Cond.arrayOf (.field (tmR i) "java/lang/String" "value" "[B") .byte ∈ gvn := by decide +kernel
set_option maxRecDepth 100000 in
theorem g_le : ∀ i, i < 8 → Cond.eq (.length (.field (tmR i) "java/lang/String" "value" "[B")) (.int (Int32.ofNat (slens.getD i 0))) ∈ gvn := by decide +kernel
set_option maxRecDepth 100000 in
theorem g_el : ∀ i, i < 8 → ∀ j, j < slens.getD i 0 → Cond.eq (.elem (.field (tmR i) "java/lang/String" "value" "[B") (.int (Int32.ofNat j))) (.int ((sbyts.getD i []).getD j 0)) ∈ gvn := by decide +kernel
set_option maxRecDepth 100000 in
theorem g_ne : ∀ i, i < 8 → ∀ j, j < 8 → i ≠ j → (Cond.not (Cond.eq (tmR i) (tmR j)) ∈ gvn) ∨ (Cond.not (Cond.eq (tmR j) (tmR i)) ∈ gvn) := by decide +kernel
set_option maxRecDepth 100000 in
theorem g_eq : ∀ i, i < 8 → Cond.eq (tmR i) (.string "PathRideModel" (mix i)) ∈ gvn := by decide +kernel
set_option maxRecDepth 100000 in
theorem g_cs : Cond.eq (.static "java/lang/String" "COMPACT_STRINGS" "Z") (.int 1) ∈ gvn := by decide +kernel
set_option maxRecDepth 100000 in
theorem g_sf : Cond.isRef (.static "jdk/internal/util/Preconditions" "SIOOBE_FORMATTER" "Ljava/util/function/BiFunction;") ∈ gvn := by decide +kernel
theorem str_all : (strl.all fun q => decide (Cond.stringRef q.1 q.2.1 (stx.getD q.2.2 "") ∈ lw_tbl) && (Nat.ble (q.2.2 + 1) 8 && ((decide (q.1 = "PathRide$Reader") && Nat.beq q.2.1 (rix q.2.2)) || (decide (q.1 = "PathRideModel") && Nat.beq q.2.1 (mix q.2.2))))) = true := by decide +kernel
theorem sw_start {s : State} {args : Array Value} (hts : ∀ w ∈ lw_tbl, w.before args s = true) (hgv : (Jvm.Cond.and given_1 narrow_1).before args s = true) : ∃ sa : Nat → Nat, SW sa (fun q => s.heap.size ≤ q) s s.heap := by
  have hs : ∀ c ∈ gvn, c.before args s = true := flat_of_before _ hgv
  have hA : ∀ a : Nat, a < s.heap.size → ¬ (fun q : Nat => s.heap.size ≤ q) a := fun a h => Nat.not_le.mpr h
  obtain ⟨sa, sv, hS, hE⟩ := vk_Sof (args := args) (s := s) (N := 8) (tm := tmR) (len := slens) (byt := sbyts) (A := fun q => s.heap.size ≤ q) (fun i hi => (lens_ok i hi).1) (fun i hi => hs _ (g_ex i hi)) (fun i hi => hs _ (g_co i hi)) (fun i hi => hs _ (g_ar i hi)) (fun i hi => hs _ (g_le i hi)) (fun i hi j hj => hs _ (g_el i hi j hj)) (fun i j hi hj hn => by
    rcases g_ne i hi j hj hn with h | h
    · exact Or.inl (hs _ h)
    · exact Or.inr (hs _ h)) hA
  refine ⟨sa, ⟨sv, hS, va_Zqof (hts (.laysStatic "jdk/internal/util/Preconditions" "SIOOBE_FORMATTER" "Ljava/util/function/BiFunction;") (by decide +kernel)) (hts (.initialized "jdk/internal/util/Preconditions") (by decide +kernel)) (hs _ g_sf) hA⟩, va_Zof (hts (.laysStatic "java/lang/String" "COMPACT_STRINGS" "Z") (by decide +kernel)) (hts (.initialized "java/lang/String") (by decide +kernel)) (va_eqi (hs _ g_cs)) hA, fun q hq => ?_, va_AO.of (hts (.arrayOver (.object "PathRide$State")) (by decide +kernel)), va_AO.of (hts (.arrayOver (.object "PathRide$Kept")) (by decide +kernel)), aoa_of (hts (.arrayOver (.array .int)) (by decide +kernel)), fun w hw => va_Nw.of (nest_tab (List.all_eq_true.mp lw_n_all w hw)) (hts w (List.mem_filter.mp hw).1)⟩
  obtain ⟨own, ix, i⟩ := q
  have h1 := List.all_eq_true.mp str_all _ hq
  have h2 := andb h1
  have h3 := andb h2.2
  have hi : i < 8 := Nat.le_of_ble_eq_true h3.1
  have hm := hts _ (of_decide_eq_true h2.1)
  refine vk_R.of (A := args) hm ?_
  have h4 := h3.2
  rw [Bool.or_eq_true] at h4
  rcases h4 with h4 | h4
  · have h5 := andb h4
    have e1 : own = "PathRide$Reader" := of_decide_eq_true h5.1
    have e2 : ix = rix i := beqn h5.2
    subst e1
    subst e2
    exact hE i hi
  · have h5 := andb h4
    have e1 : own = "PathRideModel" := of_decide_eq_true h5.1
    have e2 : ix = mix i := beqn h5.2
    subst e1
    subst e2
    exact va_eqR (hs _ (g_eq i hi)) (hE i hi)
