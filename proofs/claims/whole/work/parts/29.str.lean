/-! TEXT: length and charAt of the constants. -/
theorem dtJ0_coder_7d493_0 : decode cJ0_coder_7d493 0 = .ok (.getstatic 38, 3) := by decide +kernel
theorem dtJ0_coder_7d493_3 : decode cJ0_coder_7d493 3 = .ok (.ifCond .eq 10, 3) := by decide +kernel
theorem dtJ0_coder_7d493_6 : decode cJ0_coder_7d493 6 = .ok (.aload_n 0, 1) := by decide +kernel
theorem dtJ0_coder_7d493_7 : decode cJ0_coder_7d493 7 = .ok (.getfield 15, 3) := by decide +kernel
theorem dtJ0_coder_7d493_10 : decode cJ0_coder_7d493 10 = .ok (.goto 4, 3) := by decide +kernel
theorem dtJ0_coder_7d493_13 : decode cJ0_coder_7d493 13 = .ok (.iconst 1, 1) := by decide +kernel
theorem dtJ0_coder_7d493_14 : decode cJ0_coder_7d493 14 = .ok (.ireturn, 1) := by decide +kernel
theorem dtJ0_isLatin1_aae02_0 : decode cJ0_isLatin1_aae02 0 = .ok (.getstatic 38, 3) := by decide +kernel
theorem dtJ0_isLatin1_aae02_3 : decode cJ0_isLatin1_aae02 3 = .ok (.ifCond .eq 14, 3) := by decide +kernel
theorem dtJ0_isLatin1_aae02_6 : decode cJ0_isLatin1_aae02 6 = .ok (.aload_n 0, 1) := by decide +kernel
theorem dtJ0_isLatin1_aae02_7 : decode cJ0_isLatin1_aae02 7 = .ok (.getfield 15, 3) := by decide +kernel
theorem dtJ0_isLatin1_aae02_10 : decode cJ0_isLatin1_aae02 10 = .ok (.ifCond .ne 7, 3) := by decide +kernel
theorem dtJ0_isLatin1_aae02_13 : decode cJ0_isLatin1_aae02 13 = .ok (.iconst 1, 1) := by decide +kernel
theorem dtJ0_isLatin1_aae02_14 : decode cJ0_isLatin1_aae02 14 = .ok (.goto 4, 3) := by decide +kernel
theorem dtJ0_isLatin1_aae02_17 : decode cJ0_isLatin1_aae02 17 = .ok (.iconst 0, 1) := by decide +kernel
theorem dtJ0_isLatin1_aae02_18 : decode cJ0_isLatin1_aae02 18 = .ok (.ireturn, 1) := by decide +kernel
theorem dtJ0_checkIndex_df160_0 : decode cJ0_checkIndex_df160 0 = .ok (.iload_n 0, 1) := by decide +kernel
theorem dtJ0_checkIndex_df160_1 : decode cJ0_checkIndex_df160 1 = .ok (.iload_n 1, 1) := by decide +kernel
theorem dtJ0_checkIndex_df160_2 : decode cJ0_checkIndex_df160 2 = .ok (.getstatic 1053, 3) := by decide +kernel
theorem dtJ0_checkIndex_df160_5 : decode cJ0_checkIndex_df160 5 = .ok (.invokestatic 1059, 3) := by decide +kernel
theorem dtJ0_checkIndex_df160_8 : decode cJ0_checkIndex_df160 8 = .ok (.pop, 1) := by decide +kernel
theorem dtJ0_checkIndex_df160_9 : decode cJ0_checkIndex_df160 9 = .ok (.return_, 1) := by decide +kernel
theorem dtJ1_charAt_3b067_0 : decode cJ1_charAt_3b067 0 = .ok (.iload_n 1, 1) := by decide +kernel
theorem dtJ1_charAt_3b067_1 : decode cJ1_charAt_3b067 1 = .ok (.aload_n 0, 1) := by decide +kernel
theorem dtJ1_charAt_3b067_2 : decode cJ1_charAt_3b067 2 = .ok (.arraylength, 1) := by decide +kernel
theorem dtJ1_charAt_3b067_3 : decode cJ1_charAt_3b067 3 = .ok (.invokestatic 9, 3) := by decide +kernel
theorem dtJ1_charAt_3b067_6 : decode cJ1_charAt_3b067 6 = .ok (.aload_n 0, 1) := by decide +kernel
theorem dtJ1_charAt_3b067_7 : decode cJ1_charAt_3b067 7 = .ok (.iload_n 1, 1) := by decide +kernel
theorem dtJ1_charAt_3b067_8 : decode cJ1_charAt_3b067 8 = .ok (.baload, 1) := by decide +kernel
theorem dtJ1_charAt_3b067_9 : decode cJ1_charAt_3b067 9 = .ok (.sipush 255, 3) := by decide +kernel
theorem dtJ1_charAt_3b067_12 : decode cJ1_charAt_3b067 12 = .ok (.iand, 1) := by decide +kernel
theorem dtJ1_charAt_3b067_13 : decode cJ1_charAt_3b067 13 = .ok (.i2c, 1) := by decide +kernel
theorem dtJ1_charAt_3b067_14 : decode cJ1_charAt_3b067 14 = .ok (.ireturn, 1) := by decide +kernel
theorem dtJ3_checkIndex_8e157_0 : decode cJ3_checkIndex_8e157 0 = .ok (.iload_n 0, 1) := by decide +kernel
theorem dtJ3_checkIndex_8e157_1 : decode cJ3_checkIndex_8e157 1 = .ok (.ifCond .lt 8, 3) := by decide +kernel
theorem dtJ3_checkIndex_8e157_4 : decode cJ3_checkIndex_8e157 4 = .ok (.iload_n 0, 1) := by decide +kernel
theorem dtJ3_checkIndex_8e157_5 : decode cJ3_checkIndex_8e157 5 = .ok (.iload_n 1, 1) := by decide +kernel
theorem dtJ3_checkIndex_8e157_6 : decode cJ3_checkIndex_8e157 6 = .ok (.if_icmp .lt 10, 3) := by decide +kernel
theorem dtJ3_checkIndex_8e157_9 : decode cJ3_checkIndex_8e157 9 = .ok (.aload_n 2, 1) := by decide +kernel
theorem dtJ3_checkIndex_8e157_10 : decode cJ3_checkIndex_8e157 10 = .ok (.iload_n 0, 1) := by decide +kernel
theorem dtJ3_checkIndex_8e157_11 : decode cJ3_checkIndex_8e157 11 = .ok (.iload_n 1, 1) := by decide +kernel
theorem dtJ3_checkIndex_8e157_12 : decode cJ3_checkIndex_8e157 12 = .ok (.invokestatic 95, 3) := by decide +kernel
theorem dtJ3_checkIndex_8e157_15 : decode cJ3_checkIndex_8e157 15 = .ok (.athrow, 1) := by decide +kernel
theorem dtJ3_checkIndex_8e157_16 : decode cJ3_checkIndex_8e157 16 = .ok (.iload_n 0, 1) := by decide +kernel
theorem dtJ3_checkIndex_8e157_17 : decode cJ3_checkIndex_8e157 17 = .ok (.ireturn, 1) := by decide +kernel
theorem dtJ0_length_8abf5_0 : decode cJ0_length_8abf5 0 = .ok (.aload_n 0, 1) := by decide +kernel
theorem dtJ0_length_8abf5_1 : decode cJ0_length_8abf5 1 = .ok (.getfield 9, 3) := by decide +kernel
theorem dtJ0_length_8abf5_4 : decode cJ0_length_8abf5 4 = .ok (.arraylength, 1) := by decide +kernel
theorem dtJ0_length_8abf5_5 : decode cJ0_length_8abf5 5 = .ok (.aload_n 0, 1) := by decide +kernel
theorem dtJ0_length_8abf5_6 : decode cJ0_length_8abf5 6 = .ok (.invokevirtual 335, 3) := by decide +kernel
theorem dtJ0_length_8abf5_9 : decode cJ0_length_8abf5 9 = .ok (.ishr, 1) := by decide +kernel
theorem dtJ0_length_8abf5_10 : decode cJ0_length_8abf5 10 = .ok (.ireturn, 1) := by decide +kernel
theorem dtJ0_charAt_5068e_0 : decode cJ0_charAt_5068e 0 = .ok (.aload_n 0, 1) := by decide +kernel
theorem dtJ0_charAt_5068e_1 : decode cJ0_charAt_5068e 1 = .ok (.invokevirtual 492, 3) := by decide +kernel
theorem dtJ0_charAt_5068e_4 : decode cJ0_charAt_5068e 4 = .ok (.ifCond .eq 12, 3) := by decide +kernel
theorem dtJ0_charAt_5068e_7 : decode cJ0_charAt_5068e 7 = .ok (.aload_n 0, 1) := by decide +kernel
theorem dtJ0_charAt_5068e_8 : decode cJ0_charAt_5068e 8 = .ok (.getfield 9, 3) := by decide +kernel
theorem dtJ0_charAt_5068e_11 : decode cJ0_charAt_5068e 11 = .ok (.iload_n 1, 1) := by decide +kernel
theorem dtJ0_charAt_5068e_12 : decode cJ0_charAt_5068e 12 = .ok (.invokestatic 495, 3) := by decide +kernel
theorem dtJ0_charAt_5068e_15 : decode cJ0_charAt_5068e 15 = .ok (.ireturn, 1) := by decide +kernel
def IJ0_coder_7d493 : MInf := (yJ0_coder_7d493, cJ0_coder_7d493, 1, (some .byte), 0, 0, 1, [2])
theorem mokJ0_coder_7d493 : MOK IJ0_coder_7d493 0 := ⟨wd_in (i := 808) (by decide +kernel), wd_in (i := 140) (by decide +kernel), ⟨by decide, by decide, by decide +kernel⟩, by decide, by decide⟩
def IJ0_isLatin1_aae02 : MInf := (yJ0_isLatin1_aae02, cJ0_isLatin1_aae02, 1, (some .boolean), 0, 0, 1, [2])
theorem mokJ0_isLatin1_aae02 : MOK IJ0_isLatin1_aae02 0 := ⟨wd_in (i := 818) (by decide +kernel), wd_in (i := 140) (by decide +kernel), ⟨by decide, by decide, by decide +kernel⟩, by decide, by decide⟩
def IJ3_checkIndex_8e157 : MInf := (yJ3_checkIndex_8e157, cJ3_checkIndex_8e157, 3, (some .int), 0, 0, 1, [0, 0, 4])
theorem mokJ3_checkIndex_8e157 : MOK IJ3_checkIndex_8e157 3 := ⟨wd_in (i := 829) (by decide +kernel), wd_in (i := 142) (by decide +kernel), ⟨by decide, by decide, by decide +kernel⟩, by decide, by decide⟩
def IJ0_checkIndex_df160 : MInf := (yJ0_checkIndex_df160, cJ0_checkIndex_df160, 2, none, 1, 22, 0, [0, 0])
theorem mokJ0_checkIndex_df160 : MOK IJ0_checkIndex_df160 2 := ⟨wd_in (i := 824) (by decide +kernel), wd_in (i := 140) (by decide +kernel), ⟨by decide, by decide, by decide +kernel⟩, by decide, by decide⟩
def IJ1_charAt_3b067 : MInf := (yJ1_charAt_3b067, cJ1_charAt_3b067, 2, (some .char), 2, 43, 1, [4, 0])
theorem mokJ1_charAt_3b067 : MOK IJ1_charAt_3b067 2 := ⟨wd_in (i := 821) (by decide +kernel), wd_in (i := 141) (by decide +kernel), ⟨by decide, by decide, by decide +kernel⟩, by decide, by decide⟩
def TW (sa : Nat → Nat) (Wd : Heap → Prop) (A : Nat → Prop) (U : State) : Prop := Wd U.heap ∧ SW sa A U U.heap
theorem TW_blind {sa : Nat → Nat} {Wd : Heap → Prop} {A : Nat → Prop} {av : List Value} : FrameBlind (va_Pc av (TW sa Wd A)) := by
  intro a U gg mk q
  obtain ⟨q0, q1, q4⟩ := q
  exact ⟨q0, q1, SW_same (u := U) (U := U.calling gg mk a) rfl q4⟩
theorem lens_ok : ∀ i, i < 8 → (slens.getD i 0 < 2 ^ 31 ∧ Int.ofNat (slens.getD i 0) = slen (Int.ofNat i) ∧ (Int32.ofNat (slens.getD i 0) >>> ((0 : Int32) &&& 31)) = Int32.ofInt (slen (Int.ofNat i))) := by decide +kernel
theorem chs_ok : ∀ i, i < 8 → ∀ j, j < slens.getD i 0 → ((((sbyts.getD i []).getD j 0 &&& 255).toUInt32 % 65536).toInt32 = Int32.ofInt (sch (Int.ofNat i) (Int.ofNat j))) ∧ narrow .char (.int (Int32.ofInt (sch (Int.ofNat i) (Int.ofNat j)))) = .int (Int32.ofInt (sch (Int.ofNat i) (Int.ofNat j))) := by decide +kernel
theorem i255 : (Int16.ofInt 255).toInt32 = 255 := by decide +kernel
section
variable {l : Launch} {sa : Nat → Nat} {Wd : Heap → Prop} {A : Nat → Prop}
theorem t_J0_coder_7d493 {i : Nat} (hi : i < 8) : Met l yJ0_coder_7d493 (.code yJ0_coder_7d493 cJ0_coder_7d493 1 (some .byte) :: lw_u) { frames := 0, cells := 0, slots := 0, locals := 0 } (va_Pc [.ref (sa i)] (TW sa Wd A)) (va_Qi (fun (r : Int32) (_ : Unit) => r = 0) (fun _ t => Wd t.heap) A) 0 0 A := by
  refine met_ofW (cc := cJ0_coder_7d493) (maxL := 1) (ret := (some .byte)) (by decide) rfl ?_
  intro p e s m args below meth c s₁ B hml hv
  obtain ⟨hargs, hWd, hSW⟩ := hv
  have hws : ∀ w ∈ lw_u, w.before args s = true := fun w hw => atoms_spec (ws := .code yJ0_coder_7d493 cJ0_coder_7d493 1 (some .byte) :: lw_u) B.pre w (List.mem_cons_of_mem _ hw)
  have hb := B.bytes
  have hx := B.exec
  have ho := findClass_of_methodNamed B.named
  have hSW0 := hSW
  obtain ⟨⟨sv, hS, hF⟩, hZ, -⟩ := hSW
  subst hargs
  have hl := lv_entry ([.ref (sa i)]) (n := 1) (Nat.le_of_ble_eq_true rfl)
  rw [lg_entry_eq]
  generalize (lg_sl ([.ref (sa i)]) ++ List.replicate (1 - (lg_sl ([.ref (sa i)])).length) Slot.unset).toArray = ls at hl ⊢
  have hl : lv_has ls 1 [(0, .ref (sa i))] := hl
  obtain ⟨-, hC, -, -⟩ := hS.1 i hi
  refine va_gets hx hb hZ va_S.rf ho (hws _ (wd_in (i := 809) (by decide +kernel))) (fun _ h => h) dtJ0_coder_7d493_0 ?_
  refine lv_if_eq (tgt := 13) hx hb dtJ0_coder_7d493_3 rfl (fun h => absurd h (by decide)) (fun _ => ?_)
  refine lv_aload_n hx hb dtJ0_coder_7d493_6 rfl (lv_at hl 0 rfl) ?_
  refine vk_getf hx hb hC va_S.rf ho (hws _ (wd_in (i := 1988) (by decide +kernel))) (fun _ h => h) dtJ0_coder_7d493_7 ?_
  refine lv_goto (tgt := 14) hx hb dtJ0_coder_7d493_10 rfl ?_
  exact W.zret hx hb B.returns rfl (fun t ht _ => ⟨⟨_, (), rfl, rfl, by show Wd _; rw [ht]; exact hWd⟩, va_S.rf.F ht⟩) (fun q hq => by cases hq) dtJ0_coder_7d493_14 B.notSynchronized
theorem t_J0_isLatin1_aae02 {i : Nat} (hi : i < 8) : Met l yJ0_isLatin1_aae02 (.code yJ0_isLatin1_aae02 cJ0_isLatin1_aae02 1 (some .boolean) :: lw_u) { frames := 0, cells := 0, slots := 0, locals := 0 } (va_Pc [.ref (sa i)] (TW sa Wd A)) (va_Qi (fun (r : Int32) (_ : Unit) => r = 1) (fun _ t => Wd t.heap) A) 0 0 A := by
  refine met_ofW (cc := cJ0_isLatin1_aae02) (maxL := 1) (ret := (some .boolean)) (by decide) rfl ?_
  intro p e s m args below meth c s₁ B hml hv
  obtain ⟨hargs, hWd, hSW⟩ := hv
  have hws : ∀ w ∈ lw_u, w.before args s = true := fun w hw => atoms_spec (ws := .code yJ0_isLatin1_aae02 cJ0_isLatin1_aae02 1 (some .boolean) :: lw_u) B.pre w (List.mem_cons_of_mem _ hw)
  have hb := B.bytes
  have hx := B.exec
  have ho := findClass_of_methodNamed B.named
  have hSW0 := hSW
  obtain ⟨⟨sv, hS, hF⟩, hZ, -⟩ := hSW
  subst hargs
  have hl := lv_entry ([.ref (sa i)]) (n := 1) (Nat.le_of_ble_eq_true rfl)
  rw [lg_entry_eq]
  generalize (lg_sl ([.ref (sa i)]) ++ List.replicate (1 - (lg_sl ([.ref (sa i)])).length) Slot.unset).toArray = ls at hl ⊢
  have hl : lv_has ls 1 [(0, .ref (sa i))] := hl
  obtain ⟨-, hC, -, -⟩ := hS.1 i hi
  refine va_gets hx hb hZ va_S.rf ho (hws _ (wd_in (i := 809) (by decide +kernel))) (fun _ h => h) dtJ0_isLatin1_aae02_0 ?_
  refine lv_if_eq (tgt := 17) hx hb dtJ0_isLatin1_aae02_3 rfl (fun h => absurd h (by decide)) (fun _ => ?_)
  refine lv_aload_n hx hb dtJ0_isLatin1_aae02_6 rfl (lv_at hl 0 rfl) ?_
  refine vk_getf hx hb hC va_S.rf ho (hws _ (wd_in (i := 1988) (by decide +kernel))) (fun _ h => h) dtJ0_isLatin1_aae02_7 ?_
  refine lv_if_ne (tgt := 17) hx hb dtJ0_isLatin1_aae02_10 rfl (fun h => absurd rfl h) (fun _ => ?_)
  refine lv_iconst (v := 1) hx hb dtJ0_isLatin1_aae02_13 (by decide) ?_
  refine lv_goto (tgt := 18) hx hb dtJ0_isLatin1_aae02_14 rfl ?_
  exact W.zret hx hb B.returns rfl (fun t ht _ => ⟨⟨_, (), rfl, rfl, by show Wd _; rw [ht]; exact hWd⟩, va_S.rf.F ht⟩) (fun q hq => by cases hq) dtJ0_isLatin1_aae02_18 B.notSynchronized
theorem t_J3_checkIndex_8e157 {x y : Int32} {z : Nat} (h0 : ¬ x < 0) (h1 : x < y) : Met l yJ3_checkIndex_8e157 (.code yJ3_checkIndex_8e157 cJ3_checkIndex_8e157 3 (some .int) :: lw_u) { frames := 0, cells := 0, slots := 0, locals := 0 } (va_Pc [.int x, .int y, .ref z] (TW sa Wd A)) (va_Qi (fun (r : Int32) (_ : Unit) => r = x) (fun _ t => Wd t.heap) A) 0 0 A := by
  refine met_ofW (cc := cJ3_checkIndex_8e157) (maxL := 3) (ret := (some .int)) (by decide) rfl ?_
  intro p e s m args below meth c s₁ B hml hv
  obtain ⟨hargs, hWd, hSW⟩ := hv
  have hws : ∀ w ∈ lw_u, w.before args s = true := fun w hw => atoms_spec (ws := .code yJ3_checkIndex_8e157 cJ3_checkIndex_8e157 3 (some .int) :: lw_u) B.pre w (List.mem_cons_of_mem _ hw)
  have hb := B.bytes
  have hx := B.exec
  have ho := findClass_of_methodNamed B.named
  have hSW0 := hSW
  obtain ⟨⟨sv, hS, hF⟩, hZ, -⟩ := hSW
  subst hargs
  have hl := lv_entry ([.int x, .int y, .ref z]) (n := 3) (Nat.le_of_ble_eq_true rfl)
  rw [lg_entry_eq]
  generalize (lg_sl ([.int x, .int y, .ref z]) ++ List.replicate (3 - (lg_sl ([.int x, .int y, .ref z])).length) Slot.unset).toArray = ls at hl ⊢
  have hl : lv_has ls 3 [(0, .int x), (1, .int y), (2, .ref z)] := hl
  refine lv_iload_n hx hb dtJ3_checkIndex_8e157_0 rfl (lv_at hl 0 rfl) ?_
  refine lv_if_lt (tgt := 9) hx hb dtJ3_checkIndex_8e157_1 rfl (fun h => absurd h h0) (fun _ => ?_)
  refine lv_iload_n hx hb dtJ3_checkIndex_8e157_4 rfl (lv_at hl 0 rfl) ?_
  refine lv_iload_n hx hb dtJ3_checkIndex_8e157_5 rfl (lv_at hl 1 rfl) ?_
  refine lv_icmp_lt (tgt := 16) hx hb dtJ3_checkIndex_8e157_6 rfl (fun _ => ?_) (fun h => absurd h1 h)
  refine lv_iload_n hx hb dtJ3_checkIndex_8e157_16 rfl (lv_at hl 0 rfl) ?_
  exact W.iret hx hb B.returns (fun t ht _ => ⟨⟨_, (), rfl, rfl, by show Wd _; rw [ht]; exact hWd⟩, va_S.rf.F ht⟩) (fun q hq => by cases hq) dtJ3_checkIndex_8e157_17 B.notSynchronized
theorem t_J3_checkIndex_null {x y : Int32} (h0 : ¬ x < 0) (h1 : x < y) : Met l yJ3_checkIndex_8e157 (.code yJ3_checkIndex_8e157 cJ3_checkIndex_8e157 3 (some .int) :: lw_u) { frames := 0, cells := 0, slots := 0, locals := 0 } (va_Pc [.int x, .int y, .null] (TW sa Wd A)) (va_Qi (fun (r : Int32) (_ : Unit) => r = x) (fun _ t => Wd t.heap) A) 0 0 A := by
  refine met_ofW (cc := cJ3_checkIndex_8e157) (maxL := 3) (ret := (some .int)) (by decide) rfl ?_
  intro p e s m args below meth c s₁ B hml hv
  obtain ⟨hargs, hWd, hSW⟩ := hv
  have hws : ∀ w ∈ lw_u, w.before args s = true := fun w hw => atoms_spec (ws := .code yJ3_checkIndex_8e157 cJ3_checkIndex_8e157 3 (some .int) :: lw_u) B.pre w (List.mem_cons_of_mem _ hw)
  have hb := B.bytes
  have hx := B.exec
  have ho := findClass_of_methodNamed B.named
  have hSW0 := hSW
  obtain ⟨⟨sv, hS, hF⟩, hZ, -⟩ := hSW
  subst hargs
  have hl := lv_entry ([.int x, .int y, .null]) (n := 3) (Nat.le_of_ble_eq_true rfl)
  rw [lg_entry_eq]
  generalize (lg_sl ([.int x, .int y, .null]) ++ List.replicate (3 - (lg_sl ([.int x, .int y, .null])).length) Slot.unset).toArray = ls at hl ⊢
  have hl : lv_has ls 3 [(0, .int x), (1, .int y), (2, .null)] := hl
  refine lv_iload_n hx hb dtJ3_checkIndex_8e157_0 rfl (lv_at hl 0 rfl) ?_
  refine lv_if_lt (tgt := 9) hx hb dtJ3_checkIndex_8e157_1 rfl (fun h => absurd h h0) (fun _ => ?_)
  refine lv_iload_n hx hb dtJ3_checkIndex_8e157_4 rfl (lv_at hl 0 rfl) ?_
  refine lv_iload_n hx hb dtJ3_checkIndex_8e157_5 rfl (lv_at hl 1 rfl) ?_
  refine lv_icmp_lt (tgt := 16) hx hb dtJ3_checkIndex_8e157_6 rfl (fun _ => ?_) (fun h => absurd h1 h)
  refine lv_iload_n hx hb dtJ3_checkIndex_8e157_16 rfl (lv_at hl 0 rfl) ?_
  exact W.iret hx hb B.returns (fun t ht _ => ⟨⟨_, (), rfl, rfl, by show Wd _; rw [ht]; exact hWd⟩, va_S.rf.F ht⟩) (fun q hq => by cases hq) dtJ3_checkIndex_8e157_17 B.notSynchronized
theorem t_J0_checkIndex_df160 {x y : Int32} (h0 : ¬ x < 0) (h1 : x < y) : Met l yJ0_checkIndex_df160 (.code yJ0_checkIndex_df160 cJ0_checkIndex_df160 2 none :: lw_u) { frames := 1, cells := 0, slots := 0, locals := 22 } (va_Pc [.int x, .int y] (TW sa Wd A)) (va_Qv (fun _ : Unit => True) (fun _ t => Wd t.heap) A) 0 0 A := by
  refine met_ofW (cc := cJ0_checkIndex_df160) (maxL := 2) (ret := none) (by decide) rfl ?_
  intro p e s m args below meth c s₁ B hml hv
  obtain ⟨hargs, hWd, hSW⟩ := hv
  have hws : ∀ w ∈ lw_u, w.before args s = true := fun w hw => atoms_spec (ws := .code yJ0_checkIndex_df160 cJ0_checkIndex_df160 2 none :: lw_u) B.pre w (List.mem_cons_of_mem _ hw)
  have hb := B.bytes
  have hx := B.exec
  have ho := findClass_of_methodNamed B.named
  have hSW0 := hSW
  obtain ⟨⟨sv, hS, hF⟩, hZ, -⟩ := hSW
  subst hargs
  have hl := lv_entry ([.int x, .int y]) (n := 2) (Nat.le_of_ble_eq_true rfl)
  rw [lg_entry_eq]
  generalize (lg_sl ([.int x, .int y]) ++ List.replicate (2 - (lg_sl ([.int x, .int y])).length) Slot.unset).toArray = ls at hl ⊢
  have hl : lv_has ls 2 [(0, .int x), (1, .int y)] := hl
  refine lv_iload_n hx hb dtJ0_checkIndex_df160_0 rfl (lv_at hl 0 rfl) ?_
  refine lv_iload_n hx hb dtJ0_checkIndex_df160_1 rfl (lv_at hl 1 rfl) ?_
  rcases hF with hF | ⟨fv, hF⟩
  · refine va_gets hx hb hF va_S.rf ho (hws _ (wd_in (i := 825) (by decide +kernel))) (fun _ h => h) dtJ0_checkIndex_df160_2 ?_
    have cf : CallFix p m c cJ0_checkIndex_df160 2 s _ lw_u RJ0 := ⟨hx, hb, hml, ho, hws⟩
    have hr := va_runS (l := l) (g := F0 m 5 ls [.null, .int y, .int x]) (As := [.int x, .int y, .null]) (rest := []) (cells := 0) (slots := 0) (H := s.heap) (locs := []) (e := e) (below := below) (meth := meth) cf (t_J3_checkIndex_null (sa := sa) (Wd := Wd) (A := A) h0 h1) ⟨(callB_of (R := { frames := 1, cells := 0, slots := 0, locals := 22 }) 3 hws mokJ3_checkIndex_8e157.good rfl rfl rfl (hws _ mokJ3_checkIndex_8e157.2.1) (hws _ (wd_in (i := 827) (by decide +kernel))) mokJ3_checkIndex_8e157.2.2.1 ⟨by decide, by decide⟩), hws _ (wd_in (i := 828) (by decide +kernel))⟩ ⟨TW_blind, fun U hU hW => ⟨rfl, by rw [hU]; exact hWd, by rw [hU]; exact SW_moved hW (fun _ _ _ => rfl) (fun _ h => h) hSW0⟩⟩ rfl rfl hl.1 rfl (Nat.le_of_ble_eq_true rfl) dtJ0_checkIndex_df160_5 ⟨Nat.zero_le _, Nat.zero_le _⟩
    refine va_calli hr va_S.rf (fun _ _ h => h) (fun _ h => h) (fun r u t H1 locs1 ht _ hp hB h2 h3 h4 => ?_)
    refine lv_pop hx hb dtJ0_checkIndex_df160_8 rfl ?_
    exact W.vret hx hb B.returns (fun t9 ht9 _ => ⟨⟨(), rfl, trivial, by show Wd _; rw [ht9, ← ht]; exact hB⟩, h4.F ht9⟩) h4.2.2 dtJ0_checkIndex_df160_9 B.notSynchronized
  · refine va_gets hx hb hF va_S.rf ho (hws _ (wd_in (i := 825) (by decide +kernel))) (fun _ h => h) dtJ0_checkIndex_df160_2 ?_
    have cf : CallFix p m c cJ0_checkIndex_df160 2 s _ lw_u RJ0 := ⟨hx, hb, hml, ho, hws⟩
    have hr := va_runS (l := l) (g := F0 m 5 ls [.ref fv, .int y, .int x]) (As := [.int x, .int y, .ref fv]) (rest := []) (cells := 0) (slots := 0) (H := s.heap) (locs := []) (e := e) (below := below) (meth := meth) cf (t_J3_checkIndex_8e157 (sa := sa) (Wd := Wd) (A := A) (z := fv) h0 h1) ⟨(callB_of (R := { frames := 1, cells := 0, slots := 0, locals := 22 }) 3 hws mokJ3_checkIndex_8e157.good rfl rfl rfl (hws _ mokJ3_checkIndex_8e157.2.1) (hws _ (wd_in (i := 827) (by decide +kernel))) mokJ3_checkIndex_8e157.2.2.1 ⟨by decide, by decide⟩), hws _ (wd_in (i := 828) (by decide +kernel))⟩ ⟨TW_blind, fun U hU hW => ⟨rfl, by rw [hU]; exact hWd, by rw [hU]; exact SW_moved hW (fun _ _ _ => rfl) (fun _ h => h) hSW0⟩⟩ rfl rfl hl.1 rfl (Nat.le_of_ble_eq_true rfl) dtJ0_checkIndex_df160_5 ⟨Nat.zero_le _, Nat.zero_le _⟩
    refine va_calli hr va_S.rf (fun _ _ h => h) (fun _ h => h) (fun r u t H1 locs1 ht _ hp hB h2 h3 h4 => ?_)
    refine lv_pop hx hb dtJ0_checkIndex_df160_8 rfl ?_
    exact W.vret hx hb B.returns (fun t9 ht9 _ => ⟨⟨(), rfl, trivial, by show Wd _; rw [ht9, ← ht]; exact hB⟩, h4.F ht9⟩) h4.2.2 dtJ0_checkIndex_df160_9 B.notSynchronized
def TX (sa : Nat → Nat) (Wd : Heap → Prop) (A : Nat → Prop) (i a : Nat) (U : State) : Prop := TW sa Wd A U ∧ va_T .byte a (slens.getD i 0) (fun j => .int ((sbyts.getD i []).getD j 0)) A U U.heap
theorem TX_blind {i a : Nat} {av : List Value} : FrameBlind (va_Pc av (TX sa Wd A i a)) := by
  intro a9 U gg mk q
  obtain ⟨q0, q1, q4⟩ := q
  exact ⟨q0, (TW_blind (av := av) a9 U gg mk ⟨q0, q1⟩).2, q4.moved (u := U) (U := U.calling gg mk a9) (Vm.Alike.refl U.vm)⟩
theorem t_J0_length_8abf5 {i : Nat} (hi : i < 8) : Met l yJ0_length_8abf5 (.code yJ0_length_8abf5 cJ0_length_8abf5 1 (some .int) :: lw_u) { frames := 1, cells := 0, slots := 0, locals := 20 } (va_Pc [.ref (sa i)] (TW sa Wd A)) (va_Qi (fun (r : Int32) (_ : Unit) => r = Int32.ofInt (slen (Int.ofNat i))) (fun _ t => Wd t.heap) A) 0 0 A := by
  refine met_ofW (cc := cJ0_length_8abf5) (maxL := 1) (ret := (some .int)) (by decide) rfl ?_
  intro p e s m args below meth c s₁ B hml hv
  obtain ⟨hargs, hWd, hSW⟩ := hv
  have hws : ∀ w ∈ lw_u, w.before args s = true := fun w hw => atoms_spec (ws := .code yJ0_length_8abf5 cJ0_length_8abf5 1 (some .int) :: lw_u) B.pre w (List.mem_cons_of_mem _ hw)
  have hb := B.bytes
  have hx := B.exec
  have ho := findClass_of_methodNamed B.named
  have hSW0 := hSW
  obtain ⟨⟨sv, hS, hF⟩, hZ, -⟩ := hSW
  subst hargs
  have hl := lv_entry ([.ref (sa i)]) (n := 1) (Nat.le_of_ble_eq_true rfl)
  rw [lg_entry_eq]
  generalize (lg_sl ([.ref (sa i)]) ++ List.replicate (1 - (lg_sl ([.ref (sa i)])).length) Slot.unset).toArray = ls at hl ⊢
  have hl : lv_has ls 1 [(0, .ref (sa i))] := hl
  obtain ⟨-, -, hV, hA9⟩ := hS.1 i hi
  refine lv_aload_n hx hb dtJ0_length_8abf5_0 rfl (lv_at hl 0 rfl) ?_
  refine vk_getf hx hb hV va_S.rf ho (hws _ (wd_in (i := 1987) (by decide +kernel))) (fun _ h => h) dtJ0_length_8abf5_1 ?_
  refine va_tlen hx hb hA9 va_S.rf rfl dtJ0_length_8abf5_4 ?_
  refine lv_aload_n hx hb dtJ0_length_8abf5_5 rfl (lv_at hl 0 rfl) ?_
  have cf : CallFix p m c cJ0_length_8abf5 1 s _ lw_u RJ0 := ⟨hx, hb, hml, ho, hws⟩
  have hr := va_runV (l := l) (C := RJ0) (g := F0 m 6 ls [.ref (sa i), .int (Int32.ofNat (slens.getD i 0))]) (b := sa i) (As := []) (rest := [.int (Int32.ofNat (slens.getD i 0))]) (cells := 0) (slots := 0) (H := s.heap) (locs := []) (e := e) (below := below) (meth := meth) cf (t_J0_coder_7d493 (sa := sa) (Wd := Wd) (A := A) hi) ⟨(callB_of (R := { frames := 1, cells := 0, slots := 0, locals := 20 }) 0 hws mokJ0_coder_7d493.good rfl rfl rfl (hws _ mokJ0_coder_7d493.2.1) (hws _ (wd_in (i := 805) (by decide +kernel))) mokJ0_coder_7d493.2.2.1 ⟨by decide, by decide⟩), hws _ (wd_in (i := 806) (by decide +kernel)), hws _ (wd_in (i := 807) (by decide +kernel))⟩ ⟨TW_blind, vk_recv hS hi va_S.rf, fun U hU hW => ⟨rfl, by rw [hU]; exact hWd, by rw [hU]; exact SW_moved hW (fun _ _ _ => rfl) (fun _ h => h) hSW0⟩⟩ rfl rfl hl.1 rfl (Nat.le_of_ble_eq_true rfl) dtJ0_length_8abf5_6 ⟨Nat.zero_le _, Nat.zero_le _⟩
  refine va_calli hr va_S.rf (fun _ _ h => h) (fun _ h => h) (fun r u t H1 locs1 ht _ hp hB h2 h3 h4 => ?_)
  subst hp
  refine lv_ishr hx hb dtJ0_length_8abf5_9 ?_
  rw [(lens_ok i hi).2.2]
  exact W.iret hx hb B.returns (fun t9 ht9 _ => ⟨⟨_, (), rfl, rfl, by show Wd _; rw [ht9, ← ht]; exact hB⟩, h4.F ht9⟩) h4.2.2 dtJ0_length_8abf5_10 B.notSynchronized
theorem t_J1_charAt_3b067 {i a : Nat} {x : Int32} (hi : i < 8) (h9 : vp_in x (slens.getD i 0)) : Met l yJ1_charAt_3b067 (.code yJ1_charAt_3b067 cJ1_charAt_3b067 2 (some .char) :: lw_u) { frames := 2, cells := 0, slots := 0, locals := 43 } (va_Pc [.ref a, .int x] (TX sa Wd A i a)) (va_Qi (fun (r : Int32) (_ : Unit) => r = Int32.ofInt (sch (Int.ofNat i) (Int.ofNat x.toNatClampNeg))) (fun _ t => Wd t.heap) A) 0 0 A := by
  refine met_ofW (cc := cJ1_charAt_3b067) (maxL := 2) (ret := (some .char)) (by decide) rfl ?_
  intro p e s m args below meth c s₁ B hml hv
  obtain ⟨hargs, ⟨hWd, hSW⟩, hTa⟩ := hv
  have hws : ∀ w ∈ lw_u, w.before args s = true := fun w hw => atoms_spec (ws := .code yJ1_charAt_3b067 cJ1_charAt_3b067 2 (some .char) :: lw_u) B.pre w (List.mem_cons_of_mem _ hw)
  have hb := B.bytes
  have hx := B.exec
  have ho := findClass_of_methodNamed B.named
  have hSW0 := hSW
  obtain ⟨⟨sv, hS, hF⟩, hZ, -⟩ := hSW
  subst hargs
  have hl := lv_entry ([.ref a, .int x]) (n := 2) (Nat.le_of_ble_eq_true rfl)
  rw [lg_entry_eq]
  generalize (lg_sl ([.ref a, .int x]) ++ List.replicate (2 - (lg_sl ([.ref a, .int x])).length) Slot.unset).toArray = ls at hl ⊢
  have hl : lv_has ls 2 [(0, .ref a), (1, .int x)] := hl
  have hlt : x.toNatClampNeg < slens.getD i 0 := Nat.not_le.mp fun q => h9 (Or.inr q)
  have hx0 : ¬ x < 0 := fun q => h9 (Or.inl q)
  have hx1 : x < Int32.ofNat (slens.getD i 0) := by
    rw [Int32.lt_iff_toInt_lt, Int32.toInt_ofNat_of_lt (lens_ok i hi).1]
    have h0 : (0 : Int) ≤ x.toInt := by
      have := Int32.not_lt.mp hx0
      simpa using Int32.le_iff_toInt_le.mp this
    have : x.toInt = (x.toNatClampNeg : Int) := by
      show x.toInt = ((x.toInt.toNat : Nat) : Int)
      omega
    omega
  refine lv_iload_n hx hb dtJ1_charAt_3b067_0 rfl (lv_at hl 1 rfl) ?_
  refine lv_aload_n hx hb dtJ1_charAt_3b067_1 rfl (lv_at hl 0 rfl) ?_
  refine va_tlen hx hb hTa va_S.rf rfl dtJ1_charAt_3b067_2 ?_
  have cf : CallFix p m c cJ1_charAt_3b067 2 s _ lw_u RJ1 := ⟨hx, hb, hml, ho, hws⟩
  have hr := va_runS (l := l) (g := F0 m 3 ls [.int (Int32.ofNat (slens.getD i 0)), .int x]) (As := [.int x, .int (Int32.ofNat (slens.getD i 0))]) (rest := []) (cells := 0) (slots := 0) (H := s.heap) (locs := []) (e := e) (below := below) (meth := meth) cf (t_J0_checkIndex_df160 (sa := sa) (Wd := Wd) (A := A) hx0 hx1) ⟨(callB_of (R := { frames := 2, cells := 0, slots := 0, locals := 43 }) 2 hws mokJ0_checkIndex_df160.good rfl rfl rfl (hws _ mokJ0_checkIndex_df160.2.1) (hws _ (wd_in (i := 822) (by decide +kernel))) mokJ0_checkIndex_df160.2.2.1 ⟨by decide, by decide⟩), hws _ (wd_in (i := 823) (by decide +kernel))⟩ ⟨TW_blind, fun U hU hW => ⟨rfl, by rw [hU]; exact hWd, by rw [hU]; exact SW_moved hW (fun _ _ _ => rfl) (fun _ h => h) hSW0⟩⟩ rfl rfl hl.1 rfl (Nat.le_of_ble_eq_true rfl) dtJ1_charAt_3b067_3 ⟨Nat.zero_le _, Nat.zero_le _⟩
  refine va_callv hr va_S.rf (fun _ _ h => h) (fun _ h => h) (fun u t H1 locs1 ht _ _ hB h2 h3 h4 => ?_)
  refine lv_aload_n hx hb dtJ1_charAt_3b067_6 rfl (lv_at hl 0 rfl) ?_
  refine lv_iload_n hx hb dtJ1_charAt_3b067_7 rfl (lv_at hl 1 rfl) ?_
  refine va_tb hx hb hTa h4 h9 rfl dtJ1_charAt_3b067_8 ?_
  refine lv_sipush (v := 255) hx hb dtJ1_charAt_3b067_9 i255 ?_
  refine lv_iand hx hb dtJ1_charAt_3b067_12 ?_
  refine lv_i2c hx hb dtJ1_charAt_3b067_13 (chs_ok i hi _ hlt).1 ?_
  exact W.zret hx hb B.returns (chs_ok i hi _ hlt).2 (fun t9 ht9 _ => ⟨⟨_, (), rfl, rfl, by show Wd _; rw [ht9, ← ht]; exact hB⟩, h4.F ht9⟩) h4.2.2 dtJ1_charAt_3b067_14 B.notSynchronized
theorem t_J0_charAt_5068e {i : Nat} {x : Int32} (hi : i < 8) (h9 : vp_in x (slens.getD i 0)) : Met l yJ0_charAt_5068e (.code yJ0_charAt_5068e cJ0_charAt_5068e 2 (some .char) :: lw_u) { frames := 4, cells := 0, slots := 0, locals := 85 } (va_Pc [.ref (sa i), .int x] (TW sa Wd A)) (va_Qi (fun (r : Int32) (_ : Unit) => r = Int32.ofInt (sch (Int.ofNat i) (Int.ofNat x.toNatClampNeg))) (fun _ t => Wd t.heap) A) 0 0 A := by
  refine met_ofW (cc := cJ0_charAt_5068e) (maxL := 2) (ret := (some .char)) (by decide) rfl ?_
  intro p e s m args below meth c s₁ B hml hv
  obtain ⟨hargs, hWd, hSW⟩ := hv
  have hws : ∀ w ∈ lw_u, w.before args s = true := fun w hw => atoms_spec (ws := .code yJ0_charAt_5068e cJ0_charAt_5068e 2 (some .char) :: lw_u) B.pre w (List.mem_cons_of_mem _ hw)
  have hb := B.bytes
  have hx := B.exec
  have ho := findClass_of_methodNamed B.named
  have hSW0 := hSW
  obtain ⟨⟨sv, hS, hF⟩, hZ, -⟩ := hSW
  subst hargs
  have hl := lv_entry ([.ref (sa i), .int x]) (n := 2) (Nat.le_of_ble_eq_true rfl)
  rw [lg_entry_eq]
  generalize (lg_sl ([.ref (sa i), .int x]) ++ List.replicate (2 - (lg_sl ([.ref (sa i), .int x])).length) Slot.unset).toArray = ls at hl ⊢
  have hl : lv_has ls 2 [(0, .ref (sa i)), (1, .int x)] := hl
  have hlt : x.toNatClampNeg < slens.getD i 0 := Nat.not_le.mp fun q => h9 (Or.inr q)
  obtain ⟨-, -, hV, hA9⟩ := hS.1 i hi
  refine lv_aload_n hx hb dtJ0_charAt_5068e_0 rfl (lv_at hl 0 rfl) ?_
  have cf : CallFix p m c cJ0_charAt_5068e 2 s _ lw_u RJ0 := ⟨hx, hb, hml, ho, hws⟩
  have hr := va_runV (l := l) (C := RJ0) (g := F0 m 1 ls [.ref (sa i)]) (b := sa i) (As := []) (rest := []) (cells := 0) (slots := 0) (H := s.heap) (locs := []) (e := e) (below := below) (meth := meth) cf (t_J0_isLatin1_aae02 (sa := sa) (Wd := Wd) (A := A) hi) ⟨(callB_of (R := { frames := 4, cells := 0, slots := 0, locals := 85 }) 0 hws mokJ0_isLatin1_aae02.good rfl rfl rfl (hws _ mokJ0_isLatin1_aae02.2.1) (hws _ (wd_in (i := 815) (by decide +kernel))) mokJ0_isLatin1_aae02.2.2.1 ⟨by decide, by decide⟩), hws _ (wd_in (i := 816) (by decide +kernel)), hws _ (wd_in (i := 817) (by decide +kernel))⟩ ⟨TW_blind, vk_recv hS hi va_S.rf, fun U hU hW => ⟨rfl, by rw [hU]; exact hWd, by rw [hU]; exact SW_moved hW (fun _ _ _ => rfl) (fun _ h => h) hSW0⟩⟩ rfl rfl hl.1 rfl (Nat.le_of_ble_eq_true rfl) dtJ0_charAt_5068e_1 ⟨Nat.zero_le _, Nat.zero_le _⟩
  refine va_calli hr va_S.rf (fun _ _ h => h) (fun _ h => h) (fun r u t H1 locs1 ht _ hp hB h2 h3 h4 => ?_)
  subst hp
  refine lv_if_eq (tgt := 16) hx hb dtJ0_charAt_5068e_4 rfl (fun h => absurd h (by decide)) (fun _ => ?_)
  refine lv_aload_n hx hb dtJ0_charAt_5068e_7 rfl (lv_at hl 0 rfl) ?_
  refine vk_getf hx hb hV h4 ho (hws _ (wd_in (i := 1987) (by decide +kernel))) (fun _ h => h) dtJ0_charAt_5068e_8 ?_
  refine lv_iload_n hx hb dtJ0_charAt_5068e_11 rfl (lv_at hl 1 rfl) ?_
  have hr2 := va_runS (l := l) (g := F0 m 12 ls [.int x, .ref (sv i)]) (As := [.ref (sv i), .int x]) (rest := []) (cells := 0 + 0) (slots := 0 + 0) (H := H1) (locs := locs1) (e := e) (below := below) (meth := meth) cf (t_J1_charAt_3b067 (sa := sa) (Wd := Wd) (A := A) (a := sv i) hi h9) ⟨(callB_of (R := { frames := 4, cells := 0, slots := 0, locals := 85 }) 2 hws mokJ1_charAt_3b067.good rfl rfl rfl (hws _ mokJ1_charAt_3b067.2.1) (hws _ (wd_in (i := 819) (by decide +kernel))) mokJ1_charAt_3b067.2.2.1 ⟨by decide, by decide⟩), hws _ (wd_in (i := 820) (by decide +kernel))⟩ ⟨TX_blind, fun U hU hW => ⟨rfl, ⟨by rw [hU, ← ht]; exact hB, by rw [hU]; exact SW_moved hW h4.2.1 (fun _ h => h) hSW0⟩, by rw [hU]; exact (hA9.moved hW.alike).kept h4.2.1⟩⟩ rfl rfl hl.1 rfl (Nat.le_of_ble_eq_true rfl) dtJ0_charAt_5068e_12 ⟨Nat.zero_le _, Nat.zero_le _⟩
  refine va_calli hr2 h4 (fun _ _ h => h) (fun _ h => h) (fun r2 u2 t2 H2 locs2 ht2 _ hp2 hB2 _ _ h5 => ?_)
  subst hp2
  exact W.zret hx hb B.returns (chs_ok i hi _ hlt).2 (fun t9 ht9 _ => ⟨⟨_, (), rfl, rfl, by show Wd _; rw [ht9, ← ht2]; exact hB2⟩, h5.F ht9⟩) h5.2.2 dtJ0_charAt_5068e_15 B.notSynchronized
end
theorem t_conv {l : Launch} {y : MethodName} {cc : ByteArray} {mL fr lo : Nat} {ret : Option FieldType} {v : Int} {D : va_G} {ca : Nat → ClassId} {sa ad : Nat → Nat} {h : Hp} {ts : List Nat} {a : List Int} {sz : Nat} {av : List Value} (hav : (ts.zip a).map (cv ad sa 0) = av) (hv : -2147483648 ≤ v ∧ v < 2147483648)
    (h0 : Met l y (.code y cc mL ret :: lw_u) { frames := fr, cells := 0, slots := 0, locals := lo } (va_Pc av (TW sa (fun H => Wl D ca (va_A (wsl ca ad (nOf h) h) sz) false ad h H) (va_A (wsl ca ad (nOf h) h) sz))) (va_Qi (fun (r : Int32) (_ : Unit) => r = Int32.ofInt v) (fun _ t => Wl D ca (va_A (wsl ca ad (nOf h) h) sz) false ad h t.heap) (va_A (wsl ca ad (nOf h) h) sz)) 0 0 (va_A (wsl ca ad (nOf h) h) sz)) :
    Met l y (.code y cc mL ret :: lw_u) { frames := fr, cells := 0, slots := 0, locals := lo } (Pcv D ca sa false ad h ts a sz) (QcOf sa 1 v (Bp D ca (va_A (wsl ca ad (nOf h) h) sz) false ad 1 v h h) (va_A (wsl ca ad (nOf h) h) sz)) 0 0 (va_A (wsl ca ad (nOf h) h) sz) := by
  refine MetFree.mono h0 (fun a9 s q => ?_) (fun _ _ _ _ _ h => h) (fun a9 s o t q q2 => ?_)
  · obtain ⟨q1, q2, q3, q4, q5⟩ := q
    refine ⟨by rw [q1, hav], ⟨q3.1, ⟨q3.2.1.1, fun k q hq => Or.inl ⟨k, q.2, hq⟩⟩, q3.2.2.1, q3.2.2.2.1, q3.2.2.2.2.1, q3.2.2.2.2.2⟩, q5⟩
  · obtain ⟨⟨⟨r, u, e1, e2, e3⟩, e4⟩, e5⟩ := q2
    exact ⟨⟨⟨r, u, e1, e2, ⟨ad, fun _ _ => rfl, e3, fun _ => hv, ⟨rfl, rfl⟩, Nat.le_refl _⟩⟩, e4⟩, e5⟩
theorem slen_bd : ∀ i, i < 8 → (-2147483648 ≤ slen (Int.ofNat i) ∧ slen (Int.ofNat i) < 2147483648) := by decide +kernel
theorem sch_bd : ∀ i, i < 8 → ∀ j, j < slens.getD i 0 → (-2147483648 ≤ sch (Int.ofNat i) (Int.ofNat j) ∧ sch (Int.ofNat i) (Int.ofNat j) < 2147483648) := by decide +kernel
theorem snd_slen {ρ : Type} {l : Launch} : SndF (ρ := ρ) l false (mi 267).1 fslen := by
  intro a h k r H ha ho hn hf
  obtain ⟨x, rfl⟩ := len1 (show a.length = 1 from ha)
  have hx : 0 ≤ x ∧ x < 8 := ho (2, x) List.mem_cons_self
  obtain ⟨i, hi, rfl⟩ : ∃ i : Nat, i < 8 ∧ x = Int.ofNat i := ⟨x.toNat, by omega, by simp only [Int.ofNat_eq_natCast]; omega⟩
  refine ⟨slen (Int.ofNat i), h, H, ?_, fun q => by cases q⟩
  intro D ca sa ad sz
  exact t_conv (av := [.ref (sa i)]) rfl (slen_bd i hi) (t_J0_length_8abf5 hi)
theorem snd_schar {ρ : Type} {l : Launch} : SndF (ρ := ρ) l false (mi 268).1 fsch := by
  intro a h k r H ha ho hn hf
  obtain ⟨x, y, rfl⟩ := len2 (show a.length = 2 from ha)
  have hx : 0 ≤ x ∧ x < 8 := ho (2, x) List.mem_cons_self
  have hy : -2147483648 ≤ y ∧ y < 2147483648 := ho (0, y) (List.mem_cons_of_mem _ List.mem_cons_self)
  obtain ⟨i, hi, rfl⟩ : ∃ i : Nat, i < 8 ∧ x = Int.ofNat i := ⟨x.toNat, by omega, by simp only [Int.ofNat_eq_natCast]; omega⟩
  replace H : grd (0 ≤ y ∧ y < slen (Int.ofNat i)) (k (sch (Int.ofNat i) y) h) = some r := H
  unfold grd at H
  split at H
  case isFalse => cases H
  rename_i hg
  have hj : y.toNat < slens.getD i 0 := by
    have := (lens_ok i hi).2.1
    rw [← this] at hg
    simp only [Int.ofNat_eq_natCast] at hg
    omega
  have ey : Int.ofNat y.toNat = y := by simp only [Int.ofNat_eq_natCast]; omega
  have ec : (Int32.ofInt y).toNatClampNeg = y.toNat := by
    show (Int32.ofInt y).toInt.toNat = y.toNat
    rw [i32_id hy.1 hy.2]
  refine ⟨sch (Int.ofNat i) y, h, H, ?_, fun q => by cases q⟩
  intro D ca sa ad sz
  have hb := sch_bd i hi y.toNat hj
  rw [ey] at hb
  have h1 := t_J0_charAt_5068e (l := l) (sa := sa) (Wd := fun H => Wl D ca (va_A (wsl ca ad (nOf h) h) sz) false ad h H) (A := va_A (wsl ca ad (nOf h) h) sz) (x := Int32.ofInt y) hi (vp_in_iff.mpr ⟨by rw [i32_id hy.1 hy.2]; exact hg.1, by rw [i32_id hy.1 hy.2]; omega⟩)
  rw [ec, ey] at h1
  exact t_conv (av := [.ref (sa i), .int (Int32.ofInt y)]) rfl hb h1
theorem ro_slen {ρ : Type} : RoF (fslen : FN ρ) := fun a h k k2 hk => by
  unfold fslen
  split
  · exact hk _
  · rfl
theorem ro_schar {ρ : Type} : RoF (fsch : FN ρ) := fun a h k k2 hk => by
  unfold fsch
  split
  · unfold grd
    split
    · exact hk _
    · rfl
  · rfl
theorem sar63 (X : Int64) : X >>> 63 = if X.toInt < 0 then -1 else 0 := by
  apply Int64.toInt_inj.mp
  have h1 : (X >>> 63).toInt = X.toInt >>> 63 := by
    show (BitVec.sshiftRight' X.toBitVec ((63 : Int64).toBitVec.smod 64)).toInt = _
    rw [BitVec.toInt_sshiftRight']
    rfl
  have h2 := Int64.le_toInt X
  have h3 := Int64.toInt_lt X
  rw [h1, Int.shiftRight_eq_div_pow]
  split
  · show _ = (-1 : Int)
    omega
  · show _ = (0 : Int)
    omega
theorem shr63 (Y : Int64) : (Y.toUInt64 >>> 63).toInt64 = if Y.toInt < 0 then 1 else 0 := by
  apply Int64.toInt_inj.mp
  have e : (Y.toUInt64 >>> 63).toBitVec.toNat = Y.toBitVec.toNat / 2 ^ 63 := by
    show (Y.toUInt64 >>> 63).toNat = _
    rw [UInt64.toNat_shiftRight]
    show Y.toBitVec.toNat >>> 63 = _
    rw [Nat.shiftRight_eq_div_pow]
  have b1 := BitVec.toInt_eq_toNat_cond (Y.toUInt64 >>> 63).toBitVec
  have b2 : Y.toInt = _ := BitVec.toInt_eq_toNat_cond Y.toBitVec
  have b3 := Y.toBitVec.isLt
  have e1 : (Y.toUInt64 >>> 63).toInt64.toInt = (Y.toUInt64 >>> 63).toBitVec.toInt := rfl
  have hc : Y.toBitVec.toNat / 2 ^ 63 < 2 := by omega
  rw [e1, b1, e, if_pos (by omega)]
  split at b2
  · rw [if_neg (by omega)]
    show _ = (0 : Int)
    omega
  · rw [if_pos (by omega)]
    show _ = (1 : Int)
    omega
theorem sig_eq {x : Int} (h1 : -9223372036854775808 ≤ x) (h2 : x < 9223372036854775808) : w32 (lor (lshr x 63) (lushr (w64 (-x)) 63)) = lsgn x := by
  have e1 : lshr x 63 = if x < 0 then -1 else 0 := by
    show (Int64.ofInt x >>> 63).toInt = _
    rw [sar63, i64_id h1 h2]
    split <;> rfl
  have e2 : lushr (w64 (-x)) 63 = if (Int64.ofInt (-x)).toInt < 0 then 1 else 0 := by
    show ((Int64.ofInt (w64 (-x))).toUInt64 >>> 63).toInt64.toInt = _
    rw [shr63, i64_w]
    split <;> rfl
  rw [e1, e2]
  unfold lsgn
  by_cases hx : x < 0
  · rw [if_pos hx, if_pos hx]
    by_cases hm : (Int64.ofInt (-x)).toInt < 0
    · rw [if_pos hm]; exact w32_id (by decide) (by decide)
    · rw [if_neg hm]; exact w32_id (by decide) (by decide)
  · rw [if_neg hx, if_neg hx, i64_id (by omega) (by omega)]
    by_cases h0 : x = 0
    · subst h0
      rw [if_neg (by decide), if_pos rfl]; exact w32_id (by decide) (by decide)
    · rw [if_pos (by omega), if_neg h0]; exact w32_id (by decide) (by decide)
theorem snd_lsig {ρ : Type} {l : Launch} : SndF (ρ := ρ) l false (mi 266).1 fsig := by
  intro a h k r H ha ho hn hf
  obtain ⟨x, rfl⟩ := len1 (show a.length = 1 from ha)
  have hx : -9223372036854775808 ≤ x ∧ x < 9223372036854775808 := ho (1, x) List.mem_cons_self
  have H2 : k (lsgn x) h = some r := H
  refine sndJ13_signum_95d88 [x] h k r ?_ ha ho hn hf
  show bndp (MJ13_signum_95d88 x) (fun r => k r h) = some r
  unfold MJ13_signum_95d88
  rw [sig_eq hx.1 hx.2]
  exact H2
theorem ro_lsig {ρ : Type} : RoF (fsig : FN ρ) := fun a h k k2 hk => by
  unfold fsig
  split
  · exact hk _
  · rfl
