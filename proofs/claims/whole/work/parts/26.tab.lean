def jabs (x : Int) : Int := if x < 0 then w32 (-x) else x
def lsgn (x : Int) : Int := if x < 0 then -1 else if x = 0 then 0 else 1
def fmin {ρ : Type} : FN ρ := fun a h k => match a with
  | [x, y] => k (min x y) h
  | _ => none
def fmax {ρ : Type} : FN ρ := fun a h k => match a with
  | [x, y] => k (max x y) h
  | _ => none
def fabs {ρ : Type} : FN ρ := fun a h k => match a with
  | [x] => k (jabs x) h
  | _ => none
def fsig {ρ : Type} : FN ρ := fun a h k => match a with
  | [x] => k (lsgn x) h
  | _ => none
/-- the String constants: their letters -/
def stl : List (List Int) := [[97, 120, 101, 115], [106, 101, 114, 107], [116, 111, 108, 101, 114, 97, 110, 99, 101], [116, 111], [98, 121], [116, 117, 114, 110], [109, 97, 114, 107], [97, 103, 97, 105, 110]]
def slen (s : Int) : Int := Int.ofNat (stl.getD s.toNat []).length
def sch (s i : Int) : Int := (stl.getD s.toNat []).getD i.toNat 0
def fslen {ρ : Type} : FN ρ := fun a h k => match a with
  | [s] => k (slen s) h
  | _ => none
def fsch {ρ : Type} : FN ρ := fun a h k => match a with
  | [s, i] => grd (0 ≤ i ∧ i < slen s) (k (sch s i) h)
  | _ => none

/-! SMALL ROWS for the methods. -/
theorem len1 {a : List Int} (h : a.length = 1) : ∃ x0 : Int, a = [x0] := by
  match a, h with
  | [w0], _ => exact ⟨w0, rfl⟩
theorem len2 {a : List Int} (h : a.length = 2) : ∃ x0 x1 : Int, a = [x0, x1] := by
  match a, h with
  | [w0, w1], _ => exact ⟨w0, w1, rfl⟩
theorem len3 {a : List Int} (h : a.length = 3) : ∃ x0 x1 x2 : Int, a = [x0, x1, x2] := by
  match a, h with
  | [w0, w1, w2], _ => exact ⟨w0, w1, w2, rfl⟩
theorem len4 {a : List Int} (h : a.length = 4) : ∃ x0 x1 x2 x3 : Int, a = [x0, x1, x2, x3] := by
  match a, h with
  | [w0, w1, w2, w3], _ => exact ⟨w0, w1, w2, w3, rfl⟩
theorem len5 {a : List Int} (h : a.length = 5) : ∃ x0 x1 x2 x3 x4 : Int, a = [x0, x1, x2, x3, x4] := by
  match a, h with
  | [w0, w1, w2, w3, w4], _ => exact ⟨w0, w1, w2, w3, w4, rfl⟩
theorem len6 {a : List Int} (h : a.length = 6) : ∃ x0 x1 x2 x3 x4 x5 : Int, a = [x0, x1, x2, x3, x4, x5] := by
  match a, h with
  | [w0, w1, w2, w3, w4, w5], _ => exact ⟨w0, w1, w2, w3, w4, w5, rfl⟩
theorem len7 {a : List Int} (h : a.length = 7) : ∃ x0 x1 x2 x3 x4 x5 x6 : Int, a = [x0, x1, x2, x3, x4, x5, x6] := by
  match a, h with
  | [w0, w1, w2, w3, w4, w5, w6], _ => exact ⟨w0, w1, w2, w3, w4, w5, w6, rfl⟩
theorem len8 {a : List Int} (h : a.length = 8) : ∃ x0 x1 x2 x3 x4 x5 x6 x7 : Int, a = [x0, x1, x2, x3, x4, x5, x6, x7] := by
  match a, h with
  | [w0, w1, w2, w3, w4, w5, w6, w7], _ => exact ⟨w0, w1, w2, w3, w4, w5, w6, w7, rfl⟩
theorem uq_of {t c n : Nat} {o : Int} (ht : 4 ≤ t) (h : ((List.range 148).all fun k => !Nat.beq (kd k) t || Nat.beq k c) = true) (hn : n ≤ 148) (ho : okz false false n t o) : o = Int.ofNat c := by
  obtain ⟨w1, w2, w3⟩ := okref ht ho (fun q => by cases q)
  have h2 : o.toNat < 148 := by simp only [Int.ofNat_eq_natCast] at w2; omega
  have h3 := List.all_eq_true.mp h o.toNat (List.mem_range.mpr h2)
  rw [w3, Nat.beq_refl, Bool.not_true, Bool.false_or] at h3
  have := beqn h3
  simp only [Int.ofNat_eq_natCast]
  omega
theorem uq4 {n : Nat} {o : Int} (hn : n ≤ 148) (ho : okz false false n 4 o) : o = 30 := uq_of (by decide) (by decide +kernel) hn ho
theorem uq7 {n : Nat} {o : Int} (hn : n ≤ 148) (ho : okz false false n 7 o) : o = 110 := uq_of (by decide) (by decide +kernel) hn ho
theorem uq9 {n : Nat} {o : Int} (hn : n ≤ 148) (ho : okz false false n 9 o) : o = 66 := uq_of (by decide) (by decide +kernel) hn ho
theorem uq10 {n : Nat} {o : Int} (hn : n ≤ 148) (ho : okz false false n 10 o) : o = 29 := uq_of (by decide) (by decide +kernel) hn ho
theorem uq11 {n : Nat} {o : Int} (hn : n ≤ 148) (ho : okz false false n 11 o) : o = 39 := uq_of (by decide) (by decide +kernel) hn ho
theorem uq13 {n : Nat} {o : Int} (hn : n ≤ 148) (ho : okz false false n 13 o) : o = 27 := uq_of (by decide) (by decide +kernel) hn ho
theorem uq15 {n : Nat} {o : Int} (hn : n ≤ 148) (ho : okz false false n 15 o) : o = 0 := uq_of (by decide) (by decide +kernel) hn ho
theorem uq16 {n : Nat} {o : Int} (hn : n ≤ 148) (ho : okz false false n 16 o) : o = 113 := uq_of (by decide) (by decide +kernel) hn ho
theorem uq36 {n : Nat} {o : Int} (hn : n ≤ 148) (ho : okz false false n 36 o) : o = 144 := uq_of (by decide) (by decide +kernel) hn ho
theorem uq41 {n : Nat} {o : Int} (hn : n ≤ 148) (ho : okz false false n 41 o) : o = 93 := uq_of (by decide) (by decide +kernel) hn ho
theorem uq44 {n : Nat} {o : Int} (hn : n ≤ 148) (ho : okz false false n 44 o) : o = 128 := uq_of (by decide) (by decide +kernel) hn ho
theorem uq48 {n : Nat} {o : Int} (hn : n ≤ 148) (ho : okz false false n 48 o) : o = 88 := uq_of (by decide) (by decide +kernel) hn ho
theorem uq60 {n : Nat} {o : Int} (hn : n ≤ 148) (ho : okz false false n 60 o) : o = 112 := uq_of (by decide) (by decide +kernel) hn ho
theorem uq85 {n : Nat} {o : Int} (hn : n ≤ 148) (ho : okz false false n 85 o) : o = 117 := uq_of (by decide) (by decide +kernel) hn ho
theorem uq164 {n : Nat} {o : Int} (hn : n ≤ 148) (ho : okz false false n 164 o) : o = 146 := uq_of (by decide) (by decide +kernel) hn ho
theorem uq184 {n : Nat} {o : Int} (hn : n ≤ 148) (ho : okz false false n 184 o) : o = 67 := uq_of (by decide) (by decide +kernel) hn ho
theorem uq980 {n : Nat} {o : Int} (hn : n ≤ 148) (ho : okz false false n 980 o) : o = 138 := uq_of (by decide) (by decide +kernel) hn ho
theorem uq1940 {n : Nat} {o : Int} (hn : n ≤ 148) (ho : okz false false n 1940 o) : o = 116 := uq_of (by decide) (by decide +kernel) hn ho
theorem uq1988 {n : Nat} {o : Int} (hn : n ≤ 148) (ho : okz false false n 1988 o) : o = 34 := uq_of (by decide) (by decide +kernel) hn ho
theorem uq3220 {n : Nat} {o : Int} (hn : n ≤ 148) (ho : okz false false n 3220 o) : o = 28 := uq_of (by decide) (by decide +kernel) hn ho
theorem uq3223 {n : Nat} {o : Int} (hn : n ≤ 148) (ho : okz false false n 3223 o) : o = 127 := uq_of (by decide) (by decide +kernel) hn ho
theorem uq6164 {n : Nat} {o : Int} (hn : n ≤ 148) (ho : okz false false n 6164 o) : o = 143 := uq_of (by decide) (by decide +kernel) hn ho
theorem bndx_some {β α : Type} {o : Option β} {f : β → Option α} {r : α} (h : bndx o f = some r) : ∃ x, o = some x ∧ f x = some r := by
  unfold bndx at h
  split at h
  · exact ⟨_, rfl, h⟩
  · cases h
theorem bnds_some {β γ α : Type} {o : Option (β ⊕ γ)} {f : β → Option α} {g : γ → Option α} {r : α} (h : bnds o f g = some r) : (∃ x, o = some (.inl x) ∧ f x = some r) ∨ ∃ x, o = some (.inr x) ∧ g x = some r := by
  unfold bnds at h
  split at h
  · exact Or.inl ⟨_, rfl, h⟩
  · exact Or.inr ⟨_, rfl, h⟩
  · cases h
theorem bndp_ro {α : Type} {o : Option Int} {f g : Int → Option α} (h : ∀ v, f v = g v) : bndp o f = bndp o g := by
  unfold bndp
  split
  · exact h _
  · rfl
def gWV (v : Int) (h' : Hp) (x : Int × Hp) : Prop := x.2 = h' ∧ x.1 = v
def gW (h' : Hp) (x : Hp) : Prop := x = h'
def gV (v : Int) (x : Int) : Prop := x = v
def gU (_ : Unit) : Prop := True
/-! THE METHODS, by number. -/
def mtab0 : List Mx := [((yX9_addByte, cX9_addByte, 2, none, 0, 0, 0, [13, 0]), 1, 0, [747, 128, 746, 15]),
  ((yX9_addNumber, cX9_addNumber, 2, none, 1, 21, 0, [13, 0]), 1, 0, [743, 128, 741, 742]),
  ((yX11_feed, cX11_feed, 6, (some .int), 2, 42, 1, [15, 0, 0, 0, 0, 0]), 5, 0, [739, 126, 737, 738]),
  ((yX12_put4, cX12_put4, 3, none, 0, 0, 0, [16, 0]), 1, 0, [1526, 139, 1525, 60]),
  ((yX12_feed, cX12_feed, 6, (some .int), 1, 22, 1, [16, 0, 0, 0, 0, 0]), 5, 0, [1522, 139, 1520, 1521]),
  ((yX11_end, cX11_end, 2, (some .int), 0, 0, 1, [15, 0]), 1, 0, [751, 126, 749, 750]),
  ((yX12_end, cX12_end, 2, (some .int), 0, 0, 1, [16, 0]), 1, 0, [1530, 139, 1528, 1529]),
  ((yX10_clear, cX10_clear, 2, none, 0, 0, 0, [14]), 0, 0, [164, 127, 162, 163]),
  ((yX9_rewind, cX9_rewind, 1, none, 0, 0, 0, [13]), 0, 0, [764, 128, 762, 763]),
  ((yX9_isBlank, cX9_isBlank, 1, (some .boolean), 0, 0, 1, [0]), 1, 1, [771, 128, 770, 0]),
  ((yX9_isLetter, cX9_isLetter, 1, (some .boolean), 0, 0, 1, [0]), 1, 1, [774, 128, 773, 0]),
  ((yX9_takeWord, cX9_takeWord, 1, none, 1, 20, 0, [13]), 0, 0, [778, 128, 777, 16]),
  ((yX9_isDigit, cX9_isDigit, 1, (some .boolean), 0, 0, 1, [0]), 1, 1, [781, 128, 780, 0]),
  ((yX9_takeDigits, cX9_takeDigits, 1, none, 1, 21, 0, [13]), 0, 0, [785, 128, 784, 17]),
  ((yX9_next, cX9_next, 1, none, 2, 41, 0, [13]), 0, 0, [768, 128, 766, 767]),
  ((yX9_reads, cX9_reads, 3, (some .boolean), 5, 106, 1, [13, 2]), 1, 0, [800, 128, 798, 799]),
  ((yX6_keyword, cX6_keyword, 1, (some .int), 6, 128, 1, [10]), 0, 0, [795, 129, 794, 19]),
  ((yX6_fail, cX6_fail, 3, none, 0, 0, 0, [10, 0, 0]), 2, 0, [859, 129, 858, 20]),
  ((yX6_numberOf, cX6_numberOf, 3, (some .int), 1, 22, 1, [10, 0, 0]), 2, 0, [871, 129, 870, 23]),
  ((yX6_readNumber, cX6_readNumber, 3, (some .int), 3, 61, 1, [10, 0, 0]), 2, 0, [867, 129, 866, 22]),
  ((yX6_readSetting, cX6_readSetting, 3, none, 4, 83, 0, [10, 0]), 1, 0, [863, 129, 862, 21]),
  ((yX11_within, cX11_within, 3, (some .int), 0, 0, 1, [0, 0, 0]), 3, 1, [600, 126, 599, 0]),
  ((yX6_rowOf, cX6_rowOf, 1, (some .int), 1, 22, 1, [0]), 1, 1, [878, 129, 877, 0]),
  ((yX6_readSigned, cX6_readSigned, 3, (some .int), 3, 61, 1, [10, 0, 0]), 2, 0, [884, 129, 883, 25]),
  ((yX6_readMove, cX6_readMove, 3, none, 4, 83, 0, [10, 0]), 1, 0, [875, 129, 874, 24]),
  ((yX9_repeats, cX9_repeats, 4, (some .boolean), 0, 0, 1, [13, 0, 0]), 2, 0, [896, 128, 894, 895]),
  ((yX6_findMark, cX6_findMark, 2, (some .int), 1, 23, 1, [10]), 0, 0, [892, 129, 891, 27]),
  ((yX6_readName, cX6_readName, 3, none, 7, 148, 0, [10, 0]), 1, 0, [888, 129, 887, 26]),
  ((yX6_readLine, cX6_readLine, 2, (some .int), 8, 170, 1, [10]), 0, 0, [791, 129, 790, 18]),
  ((yX6_putMark, cX6_putMark, 2, none, 1, 22, 0, [10]), 0, 0, [900, 129, 899, 28]),
  ((yX11_isAxis, cX11_isAxis, 1, (some .boolean), 0, 0, 1, [0]), 1, 1, [651, 126, 650, 0]),
  ((yX10_last, cX10_last, 2, (some .int), 1, 20, 1, [14, 0]), 1, 0, [916, 127, 914, 915]),
  ((yX11_square, cX11_square, 2, (some .long), 0, 0, 2, [1]), 1, 1, [923, 126, 922, 0]),
  ((yX11_root, cX11_root, 7, (some .int), 0, 0, 1, [1]), 1, 1, [597, 126, 596, 0]),
  ((yX0_spin, cX0_spin, 6, none, 1, 21, 0, [4, 0, 0, 0]), 3, 0, [928, 130, 927, 32]),
  ((yX0_isCoarse, cX0_isCoarse, 4, (some .boolean), 1, 26, 1, [4, 0, 0]), 2, 0, [933, 130, 932, 33]),
  ((yX11_share, cX11_share, 4, (some .int), 0, 0, 1, [1, 1]), 2, 1, [577, 126, 576, 0]),
  ((yX0_halve, cX0_halve, 8, none, 1, 26, 0, [4, 0]), 1, 0, [937, 130, 936, 34]),
  ((yX0_turn, cX0_turn, 11, none, 2, 53, 0, [4, 0, 0, 0, 0, 0]), 5, 0, [920, 130, 919, 31]),
  ((yX0_lay, cX0_lay, 5, none, 3, 83, 0, [4, 14, 1988, 0]), 3, 0, [912, 130, 910, 911])]
def mtab1 : List Mx := [((yX11_isBeyond, cX11_isBeyond, 1, (some .boolean), 0, 0, 1, [0]), 1, 1, [945, 126, 944, 0]),
  ((yX0_goBeyond, cX0_goBeyond, 2, (some .boolean), 1, 20, 1, [4]), 0, 0, [942, 130, 940, 941]),
  ((yX0_goings, cX0_goings, 3, (some .int), 0, 0, 1, [4]), 0, 0, [951, 130, 949, 950]),
  ((yX10_has, cX10_has, 2, (some .boolean), 0, 0, 1, [14, 0]), 1, 0, [648, 127, 646, 647]),
  ((yX10_step, cX10_step, 3, (some .int), 1, 21, 1, [14, 0, 0]), 2, 0, [644, 127, 642, 643]),
  ((yX10_rateAlong, cX10_rateAlong, 4, (some .int), 1, 23, 1, [14, 0, 0, 0]), 3, 0, [968, 127, 967, 36]),
  ((yX10_leastRate, cX10_leastRate, 6, (some .int), 2, 46, 1, [14, 0, 0]), 2, 0, [963, 127, 962, 35]),
  ((yX10_sharpness, cX10_sharpness, 6, (some .int), 2, 43, 1, [14, 0]), 1, 0, [977, 127, 976, 37]),
  ((yX10_add, cX10_add, 6, none, 3, 71, 0, [14, 0, 0, 0, 0]), 4, 0, [955, 127, 953, 954]),
  ((yX6_tellMove, cX6_tellMove, 3, none, 4, 107, 0, [10]), 0, 0, [908, 129, 907, 30]),
  ((yX6_tellAgain, cX6_tellAgain, 7, none, 5, 129, 0, [10]), 0, 0, [904, 129, 903, 29]),
  ((yX6_read, cX6_read, 4, (some .int), 9, 191, 1, [10, 14]), 1, 0, [759, 129, 757, 758]),
  ((yX4_cutOf, cX4_cutOf, 4, (some .int), 1, 23, 1, [8, 0, 0]), 2, 0, [587, 133, 586, 1]),
  ((yX4_paceOf, cX4_paceOf, 4, (some .int), 1, 26, 1, [8, 0]), 1, 0, [593, 133, 592, 2]),
  ((yX4_settle, cX4_settle, 5, none, 2, 49, 0, [8, 14, 0, 0]), 3, 0, [574, 133, 572, 573]),
  ((yX1_settle, cX1_settle, 5, none, 3, 73, 0, [5, 14, 0, 0]), 3, 0, [570, 132, 568, 569]),
  ((yX4_fedSpeed, cX4_fedSpeed, 2, (some .int), 0, 0, 1, [8, 0]), 1, 0, [616, 133, 615, 4]),
  ((yX4_freeLimit, cX4_freeLimit, 2, (some .int), 1, 23, 1, [8, 0]), 1, 0, [612, 133, 611, 3]),
  ((yX4_grant, cX4_grant, 5, (some .boolean), 2, 44, 1, [8, 0]), 1, 0, [608, 133, 606, 607]),
  ((yX1_grant, cX1_grant, 2, (some .boolean), 3, 68, 1, [5, 0]), 1, 0, [604, 132, 602, 603]),
  ((yX7_find, cX7_find, 5, (some .int), 0, 0, 1, [11, 0, 0, 0]), 3, 0, [628, 131, 626, 627]),
  ((yX7_findSpots, cX7_findSpots, 6, none, 1, 24, 0, [11]), 0, 0, [624, 131, 623, 5]),
  ((yX7_isSameLeg, cX7_isSameLeg, 3, (some .boolean), 0, 0, 1, [11, 0, 0]), 2, 0, [636, 131, 635, 7]),
  ((yX7_findFirsts, cX7_findFirsts, 3, none, 1, 22, 0, [11]), 0, 0, [632, 131, 631, 6]),
  ((yX7_layerOf, cX7_layerOf, 3, (some .int), 1, 21, 1, [11, 0]), 1, 0, [655, 131, 654, 9]),
  ((yX7_findLayers, cX7_findLayers, 3, none, 2, 43, 0, [11]), 0, 0, [640, 131, 639, 8]),
  ((yX7_isOneLayer, cX7_isOneLayer, 3, (some .boolean), 2, 43, 1, [11, 0, 0]), 2, 0, [664, 131, 663, 11]),
  ((yX7_doOverlap, cX7_doOverlap, 5, (some .boolean), 1, 21, 1, [11, 0, 0, 0]), 3, 0, [672, 131, 671, 13]),
  ((yX7_side, cX7_side, 9, (some .int), 2, 43, 1, [11, 0, 0]), 2, 0, [677, 131, 676, 14]),
  ((yX7_doMeet, cX7_doMeet, 3, (some .boolean), 3, 71, 1, [11, 0, 0]), 2, 0, [668, 131, 667, 12]),
  ((yX7_findMeetings, cX7_findMeetings, 3, none, 4, 93, 0, [11]), 0, 0, [660, 131, 659, 10]),
  ((yX7_look, cX7_look, 2, none, 5, 115, 0, [11, 14]), 1, 0, [620, 131, 618, 619]),
  ((yX10_blockOf, cX10_blockOf, 3, (some .int), 0, 0, 1, [14, 0]), 1, 0, [685, 127, 683, 684]),
  ((yX8_begin, cX8_begin, 3, none, 1, 22, 0, [12, 14, 0]), 2, 0, [681, 134, 679, 680]),
  ((yX5_forget, cX5_forget, 1, none, 0, 0, 0, [9]), 0, 0, [689, 135, 687, 688]),
  ((yX11_startAnew, cX11_startAnew, 2, none, 6, 136, 0, [15]), 0, 0, [566, 126, 565, 0]),
  ((yX11_program, cX11_program, 3, (some .int), 10, 214, 1, [15]), 0, 0, [755, 126, 753, 754]),
  ((yX12_laysSettings, cX12_laysSettings, 2, none, 0, 0, 0, [16]), 0, 0, [1305, 139, 1304, 57]),
  ((yX12_isRight, cX12_isRight, 1, (some .boolean), 0, 0, 1, [16]), 0, 0, [1538, 139, 1537, 61]),
  ((yX12_sign, cX12_sign, 1, (some .int), 0, 0, 1, [16]), 0, 0, [1546, 139, 1545, 63])]
def mtab2 : List Mx := [((yX12_next, cX12_next, 1, (some .int), 1, 20, 1, [16]), 0, 0, [1542, 139, 1541, 62]),
  ((yX12_in, cX12_in, 6, (some .boolean), 0, 0, 1, [1, 1, 1]), 3, 1, [1563, 139, 1562, 0]),
  ((yX12_wordLength, cX12_wordLength, 2, (some .int), 1, 25, 1, [16]), 0, 0, [1558, 139, 1557, 66]),
  ((yX12_wordOf, cX12_wordOf, 1, (some (.object "java/lang/String")), 0, 0, 3, [0]), 1, 1, [1566, 139, 1565, 0]),
  ((yX12_wordHere, cX12_wordHere, 5, (some .int), 5, 106, 1, [16]), 0, 0, [1554, 139, 1553, 65]),
  ((yX12_fails, cX12_fails, 3, none, 0, 0, 0, [16, 0, 0]), 2, 0, [1580, 139, 1579, 67]),
  ((yX12_isDigit, cX12_isDigit, 1, (some .boolean), 1, 25, 1, [16]), 0, 0, [1592, 139, 1591, 70]),
  ((yX12_number, cX12_number, 5, (some .int), 2, 45, 1, [16, 0, 0]), 2, 0, [1588, 139, 1587, 69]),
  ((yX12_ends, cX12_ends, 1, none, 2, 40, 0, [16]), 0, 0, [1600, 139, 1599, 71]),
  ((yX12_readsSetting, cX12_readsSetting, 3, none, 3, 69, 0, [16, 0]), 1, 0, [1584, 139, 1583, 68]),
  ((yX12_quarters, cX12_quarters, 2, (some .int), 3, 69, 1, [16]), 0, 0, [1610, 139, 1609, 73]),
  ((yX12_comesTo, cX12_comesTo, 6, none, 1, 25, 0, [16, 0, 0, 0, 0]), 4, 0, [1618, 139, 1617, 75]),
  ((yX12_square, cX12_square, 2, (some .long), 0, 0, 2, [1]), 1, 1, [1316, 139, 1315, 0]),
  ((yX12_root, cX12_root, 8, (some .int), 0, 0, 1, [1]), 1, 1, [1319, 139, 1318, 0]),
  ((yX12_bulge, cX12_bulge, 2, (some .int), 1, 27, 1, [16, 0]), 1, 0, [1629, 139, 1628, 77]),
  ((yX12_halves, cX12_halves, 9, none, 1, 27, 0, [16, 0]), 1, 0, [1633, 139, 1632, 78]),
  ((yX12_turns, cX12_turns, 12, none, 2, 55, 0, [16, 0, 0, 0, 0, 0]), 5, 0, [1624, 139, 1623, 76]),
  ((yX12_makes, cX12_makes, 6, none, 3, 86, 0, [16, 0]), 1, 0, [1614, 139, 1613, 74]),
  ((yX12_lastMove, cX12_lastMove, 1, none, 3, 86, 0, [16]), 0, 0, [1637, 139, 1636, 79]),
  ((yX12_judges, cX12_judges, 2, none, 1, 22, 0, [16, 0]), 1, 0, [1641, 139, 1640, 80]),
  ((yX12_readsMove, cX12_readsMove, 5, none, 4, 111, 0, [16, 0, 0]), 2, 0, [1604, 139, 1603, 72]),
  ((yX12_name, cX12_name, 5, (some .long), 6, 130, 2, [16]), 0, 0, [1649, 139, 1648, 82]),
  ((yX12_markOf, cX12_markOf, 4, (some .int), 0, 0, 1, [16, 1]), 1, 0, [1655, 139, 1654, 83]),
  ((yX12_readsMark, cX12_readsMark, 4, none, 7, 154, 0, [16, 0]), 1, 0, [1645, 139, 1644, 81]),
  ((yX12_readsAgain, cX12_readsAgain, 9, none, 7, 154, 0, [16, 0]), 1, 0, [1659, 139, 1658, 84]),
  ((yX12_readsLine, cX12_readsLine, 3, none, 8, 182, 0, [16]), 0, 0, [1550, 139, 1549, 64]),
  ((yX12_goes, cX12_goes, 3, (some .int), 0, 0, 1, [16, 0, 0]), 2, 0, [1313, 139, 1312, 59]),
  ((yX12_copiesProgram, cX12_copiesProgram, 2, none, 1, 27, 0, [16]), 0, 0, [1309, 139, 1308, 58]),
  ((yX12_program, cX12_program, 1, (some .int), 9, 204, 1, [16]), 0, 0, [1534, 139, 1532, 1533]),
  ((yX4_speedOver, cX4_speedOver, 3, (some .int), 1, 26, 1, [8, 0, 0]), 2, 0, [992, 133, 991, 38]),
  ((yX4_passInto, cX4_passInto, 4, (some .int), 2, 48, 1, [8, 0]), 1, 0, [988, 133, 986, 987]),
  ((yX11_block, cX11_block, 3, (some .int), 3, 71, 1, [15, 0, 0]), 2, 0, [983, 126, 981, 982]),
  ((yX12_leastBy, cX12_leastBy, 8, (some .int), 1, 23, 1, [16, 0, 0]), 2, 0, [1684, 139, 1683, 88]),
  ((yX12_held, cX12_held, 2, (some .int), 1, 23, 1, [1]), 1, 1, [1691, 139, 1690, 0]),
  ((yX12_sharpOf, cX12_sharpOf, 9, (some .int), 1, 27, 1, [16, 0]), 1, 0, [1700, 139, 1699, 89]),
  ((yX12_lays, cX12_lays, 7, none, 2, 55, 0, [16, 0, 0, 0]), 3, 0, [1680, 139, 1679, 87]),
  ((yX12_laysNow, cX12_laysNow, 1, none, 3, 81, 0, [16]), 0, 0, [1676, 139, 1675, 86]),
  ((yX12_passes, cX12_passes, 3, (some .int), 1, 27, 1, [16, 0]), 1, 0, [1785, 139, 1784, 104]),
  ((yX12_block, cX12_block, 3, (some .int), 4, 101, 1, [16, 0, 0]), 2, 0, [1781, 139, 1779, 1780]),
  ((yX10_hasCorner, cX10_hasCorner, 2, (some .boolean), 0, 0, 1, [14, 0]), 1, 0, [1002, 127, 1000, 1001])]
def mtab3 : List Mx := [((yX11_corner, cX11_corner, 3, (some .int), 1, 21, 1, [15, 0, 0]), 2, 0, [998, 126, 996, 997]),
  ((yX12_corner, cX12_corner, 3, (some .int), 4, 101, 1, [16, 0, 0]), 2, 0, [1789, 139, 1787, 1788]),
  ((yX8_rests, cX8_rests, 1, (some .boolean), 0, 0, 1, [12]), 0, 0, [1014, 134, 1012, 1013]),
  ((yX1_isDone, cX1_isDone, 2, (some .boolean), 1, 20, 1, [5, 12]), 1, 0, [1010, 132, 1008, 1009]),
  ((yX8_become, cX8_become, 2, none, 0, 0, 0, [12, 12]), 1, 0, [1022, 134, 1020, 1021]),
  ((yX5_note, cX5_note, 2, none, 1, 21, 0, [9, 12]), 1, 0, [1018, 135, 1016, 1017]),
  ((yX1_bears, cX1_bears, 3, (some .boolean), 0, 0, 1, [5, 0, 0]), 2, 0, [1035, 132, 1034, 40]),
  ((yX1_reached, cX1_reached, 5, (some .int), 1, 21, 1, [5, 0, 0, 0]), 3, 0, [1039, 132, 1038, 41]),
  ((yX1_brake, cX1_brake, 3, (some .int), 1, 22, 1, [5, 0, 0]), 2, 0, [1052, 132, 1051, 44]),
  ((yX1_farness, cX1_farness, 6, (some .int), 2, 44, 1, [5, 0, 0]), 2, 0, [1048, 132, 1047, 43]),
  ((yX1_brakesBear, cX1_brakesBear, 6, (some .boolean), 2, 45, 1, [5, 0, 0, 0, 0]), 4, 0, [1057, 132, 1056, 45]),
  ((yX1_isSafe, cX1_isSafe, 8, (some .boolean), 3, 70, 1, [5, 0, 0, 0, 0]), 4, 0, [1044, 132, 1043, 42]),
  ((yX1_isFit, cX1_isFit, 7, (some .boolean), 4, 97, 1, [5, 12, 0]), 2, 0, [1031, 132, 1030, 39]),
  ((yX1_go, cX1_go, 3, (some .int), 0, 0, 1, [5, 12, 0]), 2, 0, [1061, 132, 1060, 46]),
  ((yX1_creep, cX1_creep, 2, none, 0, 0, 0, [5, 12]), 1, 0, [1065, 132, 1064, 47]),
  ((yX1_tick, cX1_tick, 5, (some .int), 5, 123, 1, [5, 12]), 1, 0, [1027, 132, 1025, 1026]),
  ((yX11_ticks, cX11_ticks, 3, (some .int), 6, 147, 1, [15, 0]), 1, 0, [1006, 126, 1004, 1005]),
  ((yX12_begins, cX12_begins, 1, none, 0, 0, 0, [16]), 0, 0, [1706, 139, 1705, 90]),
  ((yX12_isRest, cX12_isRest, 1, (some .boolean), 0, 0, 1, [16]), 0, 0, [1714, 139, 1713, 92]),
  ((yX12_all, cX12_all, 1, (some .int), 0, 0, 1, [16]), 0, 0, [1718, 139, 1717, 93]),
  ((yX12_isDone, cX12_isDone, 1, (some .boolean), 1, 20, 1, [16]), 0, 0, [1710, 139, 1709, 91]),
  ((yX12_truth, cX12_truth, 1, (some .int), 0, 0, 1, [0]), 1, 1, [1729, 139, 1728, 0]),
  ((yX12_keepsIn, cX12_keepsIn, 3, none, 1, 20, 0, [16, 980, 0]), 2, 0, [1726, 139, 1725, 95]),
  ((yX12_remembers, cX12_remembers, 2, none, 2, 42, 0, [16]), 0, 0, [1722, 139, 1721, 94]),
  ((yX12_isSteady, cX12_isSteady, 2, (some .boolean), 0, 0, 1, [0, 0]), 2, 1, [1744, 139, 1743, 0]),
  ((yX12_brakeOf, cX12_brakeOf, 4, (some .int), 1, 21, 1, [16, 0, 0]), 2, 0, [1741, 139, 1740, 98]),
  ((yX12_goesBy, cX12_goesBy, 2, none, 0, 0, 0, [16, 0]), 1, 0, [1748, 139, 1747, 99]),
  ((yX12_slows, cX12_slows, 1, none, 2, 44, 0, [16]), 0, 0, [1737, 139, 1736, 97]),
  ((yX12_blockAt, cX12_blockAt, 3, (some .int), 0, 0, 1, [16, 0]), 1, 0, [1760, 139, 1759, 102]),
  ((yX12_may, cX12_may, 11, (some .boolean), 1, 25, 1, [16, 0, 0, 0, 0]), 4, 0, [1756, 139, 1755, 101]),
  ((yX12_isSafe, cX12_isSafe, 8, (some .boolean), 2, 55, 1, [16, 0, 0, 0]), 3, 0, [1764, 139, 1763, 103]),
  ((yX12_goesIfSafe, cX12_goesIfSafe, 4, (some .boolean), 3, 82, 1, [16, 0]), 1, 0, [1752, 139, 1751, 100]),
  ((yX12_tick, cX12_tick, 2, none, 4, 105, 0, [16]), 0, 0, [1733, 139, 1732, 96]),
  ((yX12_ticks, cX12_ticks, 3, (some .int), 5, 126, 1, [16, 0]), 1, 0, [1671, 139, 1669, 1670]),
  ((yX11_give, cX11_give, 3, (some .int), 4, 89, 1, [15, 0]), 1, 0, [1069, 126, 1067, 1068]),
  ((yX12_give, cX12_give, 3, (some .int), 3, 63, 1, [16, 0]), 1, 0, [1768, 139, 1766, 1767]),
  ((yX11_hold, cX11_hold, 1, (some .boolean), 2, 42, 1, [15]), 0, 0, [1073, 126, 1071, 1072]),
  ((yX12_hold, cX12_hold, 1, (some .boolean), 3, 63, 1, [16]), 0, 0, [1773, 139, 1771, 1772]),
  ((yX11_letGo, cX11_letGo, 1, (some .boolean), 2, 42, 1, [15]), 0, 0, [1077, 126, 1075, 1076]),
  ((yX12_letGo, cX12_letGo, 1, (some .boolean), 3, 63, 1, [16]), 0, 0, [1777, 139, 1775, 1776])]
def mtab4 : List Mx := [((yX5_recall, cX5_recall, 3, none, 1, 21, 0, [9, 12]), 1, 0, [1085, 135, 1083, 1084]),
  ((yX11_undo, cX11_undo, 1, (some .int), 4, 89, 1, [15]), 0, 0, [1081, 126, 1079, 1080]),
  ((yX12_laysFrom, cX12_laysFrom, 3, none, 0, 0, 0, [16, 980, 0]), 2, 0, [1667, 139, 1666, 85]),
  ((yX12_undo, cX12_undo, 1, (some .int), 1, 22, 1, [16]), 0, 0, [1663, 139, 1661, 1662]),
  ((yX4_isRounded, cX4_isRounded, 3, (some .boolean), 1, 21, 1, [8, 0, 0]), 2, 0, [1101, 133, 1100, 48]),
  ((yX4_part, cX4_part, 4, (some .int), 2, 43, 1, [8, 0, 0, 0]), 3, 0, [1110, 133, 1109, 50]),
  ((yX4_roundedAt, cX4_roundedAt, 16, (some .int), 3, 66, 1, [8, 0, 0, 0]), 3, 0, [1106, 133, 1105, 49]),
  ((yX4_placeAt, cX4_placeAt, 5, (some .int), 4, 101, 1, [8, 0, 0]), 2, 0, [1095, 133, 1093, 1094]),
  ((yX11_where, cX11_where, 2, (some .int), 5, 125, 1, [15, 0]), 1, 0, [1089, 126, 1087, 1088]),
  ((yX12_cornerAt, cX12_cornerAt, 3, (some .int), 1, 20, 1, [16, 0]), 1, 0, [1805, 139, 1804, 106]),
  ((yX12_placeAt, cX12_placeAt, 16, (some .int), 4, 101, 1, [16, 0, 0]), 2, 0, [1801, 139, 1800, 105]),
  ((yX12_where, cX12_where, 2, (some .int), 5, 136, 1, [16, 0]), 1, 0, [1797, 139, 1795, 1796]),
  ((yX11_place, cX11_place, 3, (some .int), 5, 125, 1, [15, 0, 0]), 2, 0, [1115, 126, 1113, 1114]),
  ((yX12_place, cX12_place, 3, (some .int), 5, 136, 1, [16, 0, 0]), 2, 0, [1810, 139, 1808, 1809]),
  ((yX1_goOn, cX1_goOn, 4, none, 6, 147, 0, [5, 12, 0]), 2, 0, [1124, 132, 1122, 1123]),
  ((yX11_ahead, cX11_ahead, 3, (some .int), 7, 170, 1, [15, 0, 0]), 2, 0, [1119, 126, 1117, 1118]),
  ((yX12_goesOn, cX12_goesOn, 3, none, 5, 126, 0, [16, 0]), 1, 0, [1820, 139, 1819, 107]),
  ((yX12_ahead, cX12_ahead, 3, (some .int), 6, 148, 1, [16, 0, 0]), 2, 0, [1814, 139, 1812, 1813]),
  ((yX1_ticksToEnd, cX1_ticksToEnd, 4, (some .int), 6, 147, 1, [5, 12, 0]), 2, 0, [1134, 132, 1132, 1133]),
  ((yX11_till, cX11_till, 1, (some .int), 7, 170, 1, [15]), 0, 0, [1130, 126, 1128, 1129]),
  ((yX12_tillDone_, cX12_tillDone_, 3, (some .int), 5, 126, 1, [16, 0]), 1, 0, [1832, 139, 1831, 109]),
  ((yX12_tillDone, cX12_tillDone, 1, (some .int), 6, 148, 1, [16]), 0, 0, [1828, 139, 1827, 108]),
  ((yX12_till, cX12_till, 1, (some .int), 7, 168, 1, [16]), 0, 0, [1824, 139, 1822, 1823]),
  ((yX11_canTry, cX11_canTry, 2, (some .boolean), 0, 0, 1, [0, 0]), 2, 1, [1141, 126, 1140, 0]),
  ((yX11_tried, cX11_tried, 6, (some .int), 7, 170, 1, [15, 0, 0]), 2, 0, [1138, 126, 1136, 1137]),
  ((yX12_tillFromBegin, cX12_tillFromBegin, 1, (some .int), 7, 168, 1, [16]), 0, 0, [1841, 139, 1840, 110]),
  ((yX12_tried, cX12_tried, 3, (some .int), 8, 188, 1, [16, 0, 0]), 2, 0, [1836, 139, 1834, 1835]),
  ((yX11_slowest, cX11_slowest, 4, (some .int), 7, 170, 1, [15, 0]), 1, 0, [1145, 126, 1143, 1144]),
  ((yX12_slowest, cX12_slowest, 3, (some .int), 6, 148, 1, [16, 0]), 1, 0, [1846, 139, 1844, 1845]),
  ((yX1_brakeToRest, cX1_brakeToRest, 3, (some .int), 2, 44, 1, [5, 12]), 1, 0, [1153, 132, 1151, 1152]),
  ((yX11_brakes, cX11_brakes, 3, (some .int), 3, 66, 1, [15, 0]), 1, 0, [1149, 126, 1147, 1148]),
  ((yX12_brakes, cX12_brakes, 3, (some .int), 4, 101, 1, [16, 0]), 1, 0, [1851, 139, 1849, 1850]),
  ((yX3_sumOf, cX3_sumOf, 3, (some .int), 0, 0, 1, [7, 0, 0]), 2, 0, [1174, 137, 1173, 53]),
  ((yX3_improve, cX3_improve, 7, (some .boolean), 1, 22, 1, [7, 0, 0]), 2, 0, [1170, 137, 1169, 52]),
  ((yX3_findAll, cX3_findAll, 5, none, 2, 48, 0, [7]), 0, 0, [1165, 137, 1164, 51]),
  ((yX3_wayFrom, cX3_wayFrom, 4, (some .int), 3, 72, 1, [7, 0, 0]), 2, 0, [1161, 137, 1159, 1160]),
  ((yX11_least, cX11_least, 3, (some .int), 4, 95, 1, [15, 0, 0]), 2, 0, [1157, 126, 1155, 1156]),
  ((yX12_paceAt, cX12_paceAt, 2, (some .int), 0, 0, 1, [0, 0]), 2, 1, [1874, 139, 1873, 0]),
  ((yX12_leastFrom, cX12_leastFrom, 7, (some .int), 1, 25, 1, [16, 0, 0]), 2, 0, [1882, 139, 1881, 112]),
  ((yX12_falls, cX12_falls, 5, (some .boolean), 2, 51, 1, [16]), 0, 0, [1878, 139, 1877, 111])]
def mtab5 : List Mx := [((yX12_least, cX12_least, 5, (some .int), 3, 75, 1, [16, 0, 0]), 2, 0, [1867, 139, 1865, 1866]),
  ((yX11_spots, cX11_spots, 1, (some .int), 0, 0, 1, [15]), 0, 0, [1212, 126, 1210, 1211]),
  ((yX12_isSame, cX12_isSame, 3, (some .boolean), 0, 0, 1, [16, 0, 0]), 2, 0, [1894, 139, 1893, 114]),
  ((yX12_laysSpots, cX12_laysSpots, 3, none, 1, 22, 0, [16]), 0, 0, [1890, 139, 1889, 113]),
  ((yX12_spots, cX12_spots, 1, (some .int), 2, 44, 1, [16]), 0, 0, [1886, 139, 1884, 1885]),
  ((yX11_spot, cX11_spot, 3, (some .int), 0, 0, 1, [15, 0, 0]), 2, 0, [1216, 126, 1214, 1215]),
  ((yX12_spot, cX12_spot, 3, (some .int), 2, 44, 1, [16, 0, 0]), 2, 0, [1898, 139, 1896, 1897]),
  ((yX11_comes, cX11_comes, 5, (some .int), 1, 24, 1, [15, 0, 0, 0]), 3, 0, [1220, 126, 1218, 1219]),
  ((yX12_comes, cX12_comes, 6, (some .int), 2, 44, 1, [16, 0, 0, 0]), 3, 0, [1902, 139, 1900, 1901]),
  ((yX11_twice, cX11_twice, 2, (some .int), 1, 21, 1, [15, 0]), 1, 0, [1225, 126, 1223, 1224]),
  ((yX12_isLike, cX12_isLike, 3, (some .boolean), 1, 22, 1, [16, 0, 0]), 2, 0, [1923, 139, 1922, 116]),
  ((yX12_firstLike, cX12_firstLike, 3, (some .int), 2, 44, 1, [16, 0]), 1, 0, [1919, 139, 1918, 115]),
  ((yX12_twice, cX12_twice, 4, (some .int), 3, 66, 1, [16, 0]), 1, 0, [1914, 139, 1912, 1913]),
  ((yX1_isAtLimit, cX1_isAtLimit, 2, (some .boolean), 1, 21, 1, [5, 12]), 1, 0, [1188, 132, 1186, 1187]),
  ((yX11_survey, cX11_survey, 4, (some .boolean), 6, 147, 1, [15]), 0, 0, [1183, 126, 1182, 54]),
  ((yX11_run, cX11_run, 2, (some .int), 7, 170, 1, [15, 0]), 1, 0, [1179, 126, 1177, 1178]),
  ((yX12_run, cX12_run, 9, (some .int), 5, 126, 1, [16, 0]), 1, 0, [1863, 139, 1861, 1862]),
  ((yX11_halt, cX11_halt, 2, (some .int), 7, 170, 1, [15, 0]), 1, 0, [1192, 126, 1190, 1191]),
  ((yX12_halt, cX12_halt, 2, (some .int), 6, 148, 1, [16, 0]), 1, 0, [1855, 139, 1853, 1854]),
  ((yX11_due, cX11_due, 3, (some .int), 6, 147, 1, [15, 0]), 1, 0, [1196, 126, 1194, 1195]),
  ((yX12_due, cX12_due, 3, (some .int), 5, 126, 1, [16, 0]), 1, 0, [1859, 139, 1857, 1858]),
  ((yX10_isSlowedBy, cX10_isSlowedBy, 4, (some .boolean), 2, 46, 1, [14, 0, 0]), 2, 0, [1208, 127, 1206, 1207]),
  ((yX4_bindOf, cX4_bindOf, 3, (some .int), 3, 69, 1, [8, 0]), 1, 0, [1204, 133, 1202, 1203]),
  ((yX11_binds, cX11_binds, 2, (some .int), 4, 91, 1, [15, 0]), 1, 0, [1200, 126, 1198, 1199]),
  ((yX12_binds, cX12_binds, 5, (some .int), 4, 101, 1, [16, 0]), 1, 0, [1793, 139, 1791, 1792]),
  ((yX11_layer, cX11_layer, 3, (some .int), 0, 0, 1, [15, 0, 0]), 2, 0, [1229, 126, 1227, 1228]),
  ((yX12_isFlat, cX12_isFlat, 2, (some .boolean), 1, 22, 1, [16, 0]), 1, 0, [1947, 139, 1946, 119]),
  ((yX12_heightOf, cX12_heightOf, 2, (some .int), 0, 0, 1, [16, 0]), 1, 0, [1951, 139, 1950, 120]),
  ((yX12_laysLayers, cX12_laysLayers, 5, (some .int), 2, 43, 1, [16]), 0, 0, [1943, 139, 1942, 118]),
  ((yX12_layer, cX12_layer, 6, (some .int), 3, 67, 1, [16, 0, 0]), 2, 0, [1939, 139, 1937, 1938]),
  ((yX11_meets, cX11_meets, 2, (some .int), 0, 0, 1, [15, 0]), 1, 0, [1233, 126, 1231, 1232]),
  ((yX12_sideOf, cX12_sideOf, 7, (some .int), 1, 22, 1, [16, 0, 0]), 2, 0, [1967, 139, 1966, 123]),
  ((yX12_isBetween, cX12_isBetween, 6, (some .boolean), 1, 25, 1, [16, 0, 0]), 2, 0, [1974, 139, 1973, 124]),
  ((yX12_isOn, cX12_isOn, 3, (some .boolean), 2, 50, 1, [16, 0, 0]), 2, 0, [1963, 139, 1962, 122]),
  ((yX12_doMeet, cX12_doMeet, 3, (some .boolean), 3, 72, 1, [16, 0, 0]), 2, 0, [1959, 139, 1958, 121]),
  ((yX12_meets, cX12_meets, 7, (some .int), 4, 94, 1, [16, 0]), 1, 0, [1955, 139, 1953, 1954]),
  ((yX7_edge, cX7_edge, 6, (some .int), 1, 21, 1, [11, 0, 0]), 2, 0, [1241, 131, 1239, 1240]),
  ((yX11_box, cX11_box, 3, (some .int), 2, 46, 1, [15, 0, 0]), 2, 0, [1237, 126, 1235, 1236]),
  ((yX12_box, cX12_box, 6, (some .int), 2, 44, 1, [16, 0, 0]), 2, 0, [1906, 139, 1904, 1905]),
  ((yX7_squareTo, cX7_squareTo, 5, (some .long), 1, 21, 2, [11, 0, 0, 0, 0]), 4, 0, [1256, 131, 1254, 1255])]
def mtab6 : List Mx := [((yX7_nearest, cX7_nearest, 6, (some .int), 2, 45, 1, [11, 0, 0, 0]), 3, 0, [1252, 131, 1250, 1251]),
  ((yX11_near, cX11_near, 6, (some .int), 3, 70, 1, [15, 0, 0, 0, 0]), 4, 0, [1247, 126, 1245, 1246]),
  ((yX12_near, cX12_near, 12, (some .int), 2, 44, 1, [16, 0, 0, 0, 0]), 4, 0, [1910, 139, 1908, 1909]),
  ((yX2_take, cX2_take, 4, (some .int), 0, 0, 1, [6, 11]), 1, 0, [1267, 136, 1265, 1266]),
  ((yX11_keep, cX11_keep, 2, (some .int), 1, 23, 1, [15, 0]), 1, 0, [1263, 126, 1261, 1262]),
  ((yX12_keep, cX12_keep, 5, (some .int), 3, 66, 1, [16, 0]), 1, 0, [1927, 139, 1925, 1926]),
  ((yX2_isEnd, cX2_isEnd, 5, (some .boolean), 0, 0, 1, [6, 0, 0, 14, 0]), 4, 0, [1283, 136, 1282, 56]),
  ((yX2_holds, cX2_holds, 4, (some .boolean), 1, 24, 1, [6, 14, 0]), 2, 0, [1279, 136, 1278, 55]),
  ((yX2_alike, cX2_alike, 4, (some .int), 2, 47, 1, [6, 11]), 1, 0, [1275, 136, 1273, 1274]),
  ((yX11_common, cX11_common, 2, (some .int), 3, 70, 1, [15, 0]), 1, 0, [1271, 126, 1269, 1270]),
  ((yX12_isKept, cX12_isKept, 5, (some .boolean), 0, 0, 1, [16, 0, 0, 0]), 3, 0, [1935, 139, 1934, 117]),
  ((yX12_common, cX12_common, 7, (some .int), 3, 66, 1, [16, 0]), 1, 0, [1931, 139, 1929, 1930]),
  ((yX11_image, cX11_image, 2, (some .int), 1, 21, 1, [15, 0]), 1, 0, [1287, 126, 1285, 1286]),
  ((yX12_keepsIn, cX12_keepsIn, 3, none, 1, 20, 0, [16, 164, 0]), 2, 0, [1726, 139, 1725, 95]),
  ((yX12_image, cX12_image, 2, (some .int), 2, 42, 1, [16, 0]), 1, 0, [1978, 139, 1976, 1977]),
  ((yX11_back, cX11_back, 2, (some .int), 4, 89, 1, [15, 0]), 1, 0, [1291, 126, 1289, 1290]),
  ((yX12_laysFrom, cX12_laysFrom, 3, none, 0, 0, 0, [16, 164, 0]), 2, 0, [1667, 139, 1666, 85]),
  ((yX12_back, cX12_back, 2, (some .int), 1, 25, 1, [16, 0]), 1, 0, [1982, 139, 1980, 1981]),
  ((yX11_count, cX11_count, 2, (some .int), 0, 0, 1, [15, 0]), 1, 0, [1295, 126, 1293, 1294]),
  ((yX12_count, cX12_count, 2, (some .int), 4, 101, 1, [16, 0]), 1, 0, [1986, 139, 1984, 1985]),
  ((yL_law, cL_law, 0, none, 0, 0, 0, []), 0, 0, []),
  ((yJ9_min_7cf53, cJ9_min_7cf53, 2, (some .int), 0, 0, 1, [0, 0]), 2, 1, [583, 138, 582, 0]),
  ((yJ9_max_7cf53, cJ9_max_7cf53, 2, (some .int), 0, 0, 1, [0, 0]), 2, 1, [580, 138, 579, 0]),
  ((yJ9_abs_0f7a4, cJ9_abs_0f7a4, 1, (some .int), 0, 0, 1, [0]), 1, 1, [971, 138, 970, 0]),
  ((yJ9_min_f86c9, cJ9_min_f86c9, 4, (some .long), 0, 0, 2, [1, 1]), 2, 1, [1688, 138, 1687, 0]),
  ((yJ9_max_f86c9, cJ9_max_f86c9, 4, (some .long), 0, 0, 2, [1, 1]), 2, 1, [1695, 138, 1694, 0]),
  ((yJ13_signum_95d88, cJ13_signum_95d88, 2, (some .int), 0, 0, 1, [1]), 1, 1, [1970, 144, 1969, 0]),
  ((yJ0_length_8abf5, cJ0_length_8abf5, 1, (some .int), 1, 20, 1, [2]), 0, 0, [804, 140, 802, 803]),
  ((yJ0_charAt_5068e, cJ0_charAt_5068e, 2, (some .char), 4, 85, 1, [2, 0]), 1, 0, [814, 140, 812, 813])]
def mtab : List Mx := mtab0 ++ (mtab1 ++ (mtab2 ++ (mtab3 ++ (mtab4 ++ (mtab5 ++ (mtab6))))))
def mi (j : Nat) : Mx := mtab.getD j ((yL_law, cL_law, 0, none, 0, 0, 0, []), 0, 0, [])
