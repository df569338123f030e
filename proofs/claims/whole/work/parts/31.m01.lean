/-! X6_readMove -/
def sdX6_readMove : SD := [(0, [(0, .aload_n 0, 1, [], 0), (1, .getfield 39, 3, [6, 7, 14, 0, 314, 0], 0), (4, .getfield 134, 3, [10, 12, 0, 0, 208, 0], 0), (7, .invokestatic 137, 3, [1, 0, 3, 22, 876, 0], 0), (10, .istore_n 2, 1, [], 0), (11, .aload_n 0, 1, [], 0), (12, .getfield 18, 3, [6, 2, 1988, 1, 309, 0], 5), (15, .iload_n 2, 1, [], 0), (16, .iload_n 1, 1, [], 0), (17, .iastore, 1, [], 0), (18, .aload_n 0, 1, [], 0), (19, .getfield 18, 3, [6, 2, 1988, 1, 309, 0], 5), (22, .iload_n 2, 1, [], 0), (23, .iconst 1, 1, [], 0), (24, .iadd, 1, [], 0), (25, .aload_n 0, 1, [], 0), (26, .iconst 0, 1, [], 0), (27, .ldc 141, 2, [0, 880], 100000), (29, .invokevirtual 142, 3, [1, 1, 1, 23, 881, 0, 0, 10], 0), (32, .iastore, 1, [], 0), (33, .aload_n 0, 1, [], 0), (34, .getfield 18, 3, [6, 2, 1988, 1, 309, 0], 5), (37, .iload_n 2, 1, [], 0), (38, .iconst 2, 1, [], 0), (39, .iadd, 1, [], 0), (40, .aload_n 0, 1, [], 0), (41, .iconst 0, 1, [], 0), (42, .ldc 141, 2, [0, 880], 100000), (44, .invokevirtual 142, 3, [1, 1, 1, 23, 881, 0, 0, 10], 0), (47, .iastore, 1, [], 0), (48, .aload_n 0, 1, [], 0), (49, .getfield 18, 3, [6, 2, 1988, 1, 309, 0], 5), (52, .iload_n 2, 1, [], 0), (53, .iconst 4, 1, [], 0), (54, .iadd, 1, [], 0), (55, .iconst 0, 1, [], 0), (56, .iastore, 1, [], 0), (57, .iload_n 1, 1, [], 0), (58, .iconst 5, 1, [], 0), (59, .if_icmp .ne 77, 3, [], 0)]),
  (62, [(62, .aload_n 0, 1, [], 0), (63, .getfield 53, 3, [6, 8, 0, 0, 315, 0], 0), (66, .iconst (-1), 1, [], 0), (67, .if_icmp .ne 37, 3, [], 0)]),
  (70, [(70, .aload_n 0, 1, [], 0), (71, .getfield 18, 3, [6, 2, 1988, 1, 309, 0], 5), (74, .iload_n 2, 1, [], 0), (75, .iconst 1, 1, [], 0), (76, .iadd, 1, [], 0), (77, .iaload, 1, [], 0), (78, .ifCond .ne 26, 3, [], 0)]),
  (81, [(81, .aload_n 0, 1, [], 0), (82, .getfield 18, 3, [6, 2, 1988, 1, 309, 0], 5), (85, .iload_n 2, 1, [], 0), (86, .iconst 2, 1, [], 0), (87, .iadd, 1, [], 0), (88, .iaload, 1, [], 0), (89, .ifCond .ne 15, 3, [], 0)]),
  (92, [(92, .aload_n 0, 1, [], 0), (93, .iconst 2, 1, [], 0), (94, .aload_n 0, 1, [], 0), (95, .getfield 35, 3, [6, 0, 13, 1, 307, 0], (-2)), (98, .getfield 67, 3, [9, 3, 0, 0, 259, 0], 0), (101, .invokevirtual 89, 3, [0, 2, 1, 17, 856, 0, 0, 10], 0)]),
  (104, [(104, .aload_n 0, 1, [], 0), (105, .getfield 18, 3, [6, 2, 1988, 1, 309, 0], 5), (108, .iload_n 2, 1, [], 0), (109, .iconst 3, 1, [], 0), (110, .iadd, 1, [], 0), (111, .aload_n 0, 1, [], 0), (112, .iconst 1, 1, [], 0), (113, .iconst 4, 1, [], 0), (114, .invokevirtual 142, 3, [1, 1, 1, 23, 881, 0, 0, 10], 0), (117, .iastore, 1, [], 0), (118, .aload_n 0, 1, [], 0), (119, .getfield 18, 3, [6, 2, 1988, 1, 309, 0], 5), (122, .iload_n 2, 1, [], 0), (123, .iconst 4, 1, [], 0), (124, .iadd, 1, [], 0), (125, .aload_n 0, 1, [], 0), (126, .iconst 0, 1, [], 0), (127, .ldc 141, 2, [0, 880], 100000), (129, .invokevirtual 142, 3, [1, 1, 1, 23, 881, 0, 0, 10], 0), (132, .iastore, 1, [], 0), (133, .goto 18, 3, [], 0)]),
  (136, [(136, .aload_n 0, 1, [], 0), (137, .getfield 18, 3, [6, 2, 1988, 1, 309, 0], 5), (140, .iload_n 2, 1, [], 0), (141, .iconst 3, 1, [], 0), (142, .iadd, 1, [], 0), (143, .aload_n 0, 1, [], 0), (144, .iconst 0, 1, [], 0), (145, .ldc 141, 2, [0, 880], 100000), (147, .invokevirtual 142, 3, [1, 1, 1, 23, 881, 0, 0, 10], 0), (150, .iastore, 1, [], 0)]),
  (151, [(151, .aload_n 0, 1, [], 0), (152, .getfield 18, 3, [6, 2, 1988, 1, 309, 0], 5), (155, .iload_n 2, 1, [], 0), (156, .iconst 5, 1, [], 0), (157, .iadd, 1, [], 0), (158, .aload_n 0, 1, [], 0), (159, .iconst 1, 1, [], 0), (160, .sipush 5000, 3, [], 0), (163, .invokevirtual 123, 3, [1, 3, 1, 19, 864, 0, 0, 10], 0), (166, .iastore, 1, [], 0), (167, .return_, 1, [], 0)])]
def JX6_readMove_151 (n : Nat) (x2 : Int) (h : Hp) : Option (Hp) :=
(bnd (MX6_readNumber n 1 5000 h) fun r1 h1 =>
(grd (0 ≤ (w32 (x2 + 5)) ∧ (w32 (x2 + 5)) < alen 1988)
(ltt (up h1 34 (w32 (x2 + 5)) r1) fun h2 =>
(some h2))))
def JX6_readMove_104 (n : Nat) (x2 : Int) (h : Hp) : Option (Hp) :=
(bnd (MX6_readSigned n 1 4 h) fun r1 h1 =>
(grd (0 ≤ (w32 (x2 + 3)) ∧ (w32 (x2 + 3)) < alen 1988)
(ltt (up h1 34 (w32 (x2 + 3)) r1) fun h2 =>
(bnd (MX6_readSigned n 0 100000 h2) fun r2 h3 =>
(grd (0 ≤ (w32 (x2 + 4)) ∧ (w32 (x2 + 4)) < alen 1988)
(ltt (up h3 34 (w32 (x2 + 4)) r2) fun h4 =>
(JX6_readMove_151 n x2 h4)))))))
def MX6_readMove (n : Nat) (x1 : Int) (h : Hp) : Option (Hp) :=
(bndp (MX6_rowOf (h (h 29 7) 12)) fun r1 =>
(ltt r1 fun y1 =>
(grd (0 ≤ y1 ∧ y1 < alen 1988)
(ltt (up h 34 y1 x1) fun h1 =>
(bnd (MX6_readSigned n 0 100000 h1) fun r2 h2 =>
(grd (0 ≤ (w32 (y1 + 1)) ∧ (w32 (y1 + 1)) < alen 1988)
(ltt (up h2 34 (w32 (y1 + 1)) r2) fun h3 =>
(bnd (MX6_readSigned n 0 100000 h3) fun r3 h4 =>
(grd (0 ≤ (w32 (y1 + 2)) ∧ (w32 (y1 + 2)) < alen 1988)
(ltt (up h4 34 (w32 (y1 + 2)) r3) fun h5 =>
(grd (0 ≤ (w32 (y1 + 4)) ∧ (w32 (y1 + 4)) < alen 1988)
(ltt (up h5 34 (w32 (y1 + 4)) 0) fun h6 =>
(if x1 ≠ 5 then
(bnd (MX6_readSigned n 0 100000 h6) fun r4 h7 =>
(grd (0 ≤ (w32 (y1 + 3)) ∧ (w32 (y1 + 3)) < alen 1988)
(ltt (up h7 34 (w32 (y1 + 3)) r4) fun h8 =>
(JX6_readMove_151 n y1 h8))))
else
(if (h6 29 8) ≠ (-1) then
(JX6_readMove_104 n y1 h6)
else
(grd (0 ≤ (w32 (y1 + 1)) ∧ (w32 (y1 + 1)) < alen 1988)
(if (h6 34 (w32 (y1 + 1))) ≠ 0 then
(JX6_readMove_104 n y1 h6)
else
(grd (0 ≤ (w32 (y1 + 2)) ∧ (w32 (y1 + 2)) < alen 1988)
(if (h6 34 (w32 (y1 + 2))) ≠ 0 then
(JX6_readMove_104 n y1 h6)
else
(bndh (MX6_fail 2 (h6 27 3) h6) fun h9 =>
(JX6_readMove_104 n y1 h9))))))))))))))))))))
def wX6_readMove {ρ : Type} (n : Nat) : FN ρ := fun a h k => match a with
  | [_, x1] => bndh (MX6_readMove n x1 h) (fun h2 => k 0 h2)
  | _ => none
def fsX6_readMove (n : Nat) (ρ : Type) : List (FN ρ) := [wX6_rowOf, wX6_readSigned n, wX6_fail, wX6_readNumber n]
def KJX6_readMove_151 (_ : Nat) : CT (Hp) := []
set_option maxRecDepth 100000 in
theorem eJX6_readMove_151 (n : Nat) (x2 : Int) (h : Hp) : JX6_readMove_151 n x2 h =
  goAt false (kct (KJX6_readMove_151 n)) (fun _ h => some (h)) (fsX6_readMove n _) sdX6_readMove 1000 151 [(0, 10, 29), (2, 0, x2)] [] h := rfl
def KJX6_readMove_104 (n : Nat) : CT (Hp) := [(151, [(0, 10, (some 29)), (2, 0, none)], [], fun a c h => match a, c with
    | [x2], [] => JX6_readMove_151 n x2 h
    | _, _ => none)]
set_option maxRecDepth 100000 in
theorem eJX6_readMove_104 (n : Nat) (x2 : Int) (h : Hp) : JX6_readMove_104 n x2 h =
  goAt false (kct (KJX6_readMove_104 n)) (fun _ h => some (h)) (fsX6_readMove n _) sdX6_readMove 1000 104 [(0, 10, 29), (2, 0, x2)] [] h := rfl
def KMX6_readMove (n : Nat) : CT (Hp) := [(151, [(0, 10, (some 29)), (2, 0, none)], [], fun a c h => match a, c with
    | [x2], [] => JX6_readMove_151 n x2 h
    | _, _ => none),
  (104, [(0, 10, (some 29)), (2, 0, none)], [], fun a c h => match a, c with
    | [x2], [] => JX6_readMove_104 n x2 h
    | _, _ => none)]
set_option maxRecDepth 100000 in
theorem eMX6_readMove (n : Nat) (x1 : Int) (h : Hp) : MX6_readMove n x1 h =
  goAt false (kct (KMX6_readMove n)) (fun _ h => some (h)) (fsX6_readMove n _) sdX6_readMove 1000 0 [(0, 10, 29), (1, 0, x1)] [] h := rfl
theorem okX6_readMove : mokb (mi 24) = true := by decide +kernel
theorem rkX6_readMove : rkOK 0 (mi 24).1.2.2.2.2.2.2.1 (mi 24).1.2.2.2.1 := Or.inl ⟨rfl, rfl, rfl⟩
def calX6_readMove : List Nat := [22, 23, 17, 19]
theorem foX6_readMove {l : Launch} {ρ : Type} (n : Nat) : fsOK l false mi calX6_readMove (fsX6_readMove n ρ) := ⟨sndX6_rowOf, ⟨(sndX6_readSigned n), ⟨sndX6_fail, ⟨(sndX6_readNumber n), trivial⟩⟩⟩⟩
theorem ok_sdX6_readMove : sdb (mi 24).1.2.1 (insOK mi (mi 24).1.1.cls (mi 24).1.2.2.1 (mi 24).1.2.2.2.2.1 (mi 24).1.2.2.2.2.2.1 calX6_readMove false 0) sdX6_readMove = true := by decide +kernel
theorem sJX6_readMove_151 {l : Launch} {h0 h' : Hp} {v : Int} (h8 : nOf h0 = 148) (n : Nat) (x2 : Int) (h : Hp) {r : Hp} (H : JX6_readMove_151 n x2 h = some r) (hG : gW h' r) : PAt l false (mi 24).1 h0 v h' 151 [(0, 10, 29), (2, 0, x2)] [] h :=
  pat_w ok_sdX6_readMove rkX6_readMove h8 (foX6_readMove n) (fun v1 h1 q => by
    cases q
    exact ⟨hG, fun q9 => absurd rfl q9⟩) (fun q9 h9 => by cases h9) ((eJX6_readMove_151 n x2 h).symm.trans H)
theorem sJX6_readMove_104 {l : Launch} {h0 h' : Hp} {v : Int} (h8 : nOf h0 = 148) (n : Nat) (x2 : Int) (h : Hp) {r : Hp} (H : JX6_readMove_104 n x2 h = some r) (hG : gW h' r) : PAt l false (mi 24).1 h0 v h' 104 [(0, 10, 29), (2, 0, x2)] [] h :=
  pat_w ok_sdX6_readMove rkX6_readMove h8 (foX6_readMove n) (fun v1 h1 q => by
    cases q
    exact ⟨hG, fun q9 => absurd rfl q9⟩) (List.forall_mem_cons.mpr ⟨(fun a c h H => by
      dsimp only at H
      split at H
      · exact sJX6_readMove_151 h8 n _ _ H hG
      · cases H), (fun q9 h9 => by cases h9)⟩) ((eJX6_readMove_104 n x2 h).symm.trans H)
theorem sMX6_readMove {l : Launch} {h0 h' : Hp} {v : Int} (h8 : nOf h0 = 148) (n : Nat) (x1 : Int) (h : Hp) {r : Hp} (H : MX6_readMove n x1 h = some r) (hG : gW h' r) : PAt l false (mi 24).1 h0 v h' 0 [(0, 10, 29), (1, 0, x1)] [] h :=
  pat_w ok_sdX6_readMove rkX6_readMove h8 (foX6_readMove n) (fun v1 h1 q => by
    cases q
    exact ⟨hG, fun q9 => absurd rfl q9⟩) (List.forall_mem_cons.mpr ⟨(fun a c h H => by
      dsimp only at H
      split at H
      · exact sJX6_readMove_151 h8 n _ _ H hG
      · cases H), (List.forall_mem_cons.mpr ⟨(fun a c h H => by
      dsimp only at H
      split at H
      · exact sJX6_readMove_104 h8 n _ _ H hG
      · cases H), (fun q9 h9 => by cases h9)⟩)⟩) ((eMX6_readMove n x1 h).symm.trans H)
theorem sndX6_readMove {ρ : Type} {l : Launch} (n : Nat) : SndF (ρ := ρ) l false (mi 24).1 (wX6_readMove n) := by
    intro a h k r H ha ho hn hf
    have h8 := hf rfl
    obtain ⟨x0, x1, rfl⟩ := len2 (show a.length = 2 from ha)
    have u0 := uq10 hn (ho (10, x0) (List.mem_cons_self))
    subst u0
    replace H : bndh (MX6_readMove n x1 h) (fun h2 => k 0 h2) = some r := H
    obtain ⟨h2, H1, H2⟩ := bndh_some H
    exact ⟨0, h2, H2, met_mk (mok_base okX6_readMove).1 (by decide +kernel) (Nat.le_of_ble_eq_true rfl) ho (sMX6_readMove h8 n x1 h H1 rfl), fun q => by cases q⟩
/-! X9_repeats -/
def sdX9_repeats : SD := [(0, [(0, .aload_n 0, 1, [], 0), (1, .getfield 23, 3, [9, 4, 0, 0, 261, 0], 0), (4, .aload_n 0, 1, [], 0), (5, .getfield 30, 3, [9, 3, 0, 0, 260, 0], 0), (8, .isub, 1, [], 0), (9, .iload_n 2, 1, [], 0), (10, .if_icmp .ne 28, 3, [], 0)]),
  (13, [(13, .aload_n 0, 1, [], 0), (14, .getfield 23, 3, [9, 4, 0, 0, 261, 0], 0), (17, .aload_n 0, 1, [], 0), (18, .getfield 19, 3, [9, 1, 0, 0, 256, 0], 0), (21, .if_icmp .gt 17, 3, [], 0)]),
  (24, [(24, .iload_n 1, 1, [], 0), (25, .ifCond .lt 13, 3, [], 0)]),
  (28, [(28, .iload_n 1, 1, [], 0), (29, .iload_n 2, 1, [], 0), (30, .iadd, 1, [], 0), (31, .aload_n 0, 1, [], 0), (32, .getfield 19, 3, [9, 1, 0, 0, 256, 0], 0), (35, .if_icmp .le 5, 3, [], 0)]),
  (38, [(38, .iconst 0, 1, [], 0), (39, .ireturn, 1, [1], 0)]),
  (40, [(40, .iconst 0, 1, [], 0), (41, .istore_n 3, 1, [], 0)]),
  (42, [(42, .iload_n 3, 1, [], 0), (43, .iload_n 2, 1, [], 0), (44, .if_icmp .ge 33, 3, [], 0)]),
  (47, [(47, .aload_n 0, 1, [], 0), (48, .getfield 9, 3, [9, 0, 3220, 1, 254, 0], 1), (51, .aload_n 0, 1, [], 0), (52, .getfield 30, 3, [9, 3, 0, 0, 260, 0], 0), (55, .iload_n 3, 1, [], 0), (56, .iadd, 1, [], 0), (57, .iaload, 1, [], 0), (58, .aload_n 0, 1, [], 0), (59, .getfield 9, 3, [9, 0, 3220, 1, 254, 0], 1), (62, .iload_n 1, 1, [], 0), (63, .iload_n 3, 1, [], 0), (64, .iadd, 1, [], 0), (65, .iaload, 1, [], 0), (66, .if_icmp .eq 5, 3, [], 0)]),
  (69, [(69, .iconst 0, 1, [], 0), (70, .ireturn, 1, [1], 0)]),
  (71, [(71, .iinc 3 1, 3, [], 0), (74, .goto (-32), 3, [], 0)]),
  (77, [(77, .iconst 1, 1, [], 0), (78, .ireturn, 1, [1], 0)])]
def BX9_repeats_42 (n : Nat) : Nat → Int → Int → Int → Hp → Option (Int)
  | 0, _, _, _, _ => none
  | f + 1, x1, x2, x3, h =>
    (if x2 ≤ x3 then
    (some 1)
    else
    (grd (0 ≤ (w32 ((h 27 3) + x3)) ∧ (w32 ((h 27 3) + x3)) < alen 3220)
    (grd (0 ≤ (w32 (x1 + x3)) ∧ (w32 (x1 + x3)) < alen 3220)
    (if (h 28 (w32 ((h 27 3) + x3))) = (h 28 (w32 (x1 + x3))) then
    (ltt (w32 (x3 + 1)) fun y1 =>
    (BX9_repeats_42 n f x1 x2 y1 h))
    else
    (some 0)))))
def LX9_repeats_42 (n : Nat) (x1 x2 x3 : Int) (h : Hp) : Option (Int) :=
(BX9_repeats_42 n n x1 x2 x3 h)
def MX9_repeats (n : Nat) (x1 x2 : Int) (h : Hp) : Option (Int) :=
(if (w32 ((h 27 4) - (h 27 3))) ≠ x2 then
(some 0)
else
(if (h 27 1) < (h 27 4) then
(some 0)
else
(if x1 < 0 then
(some 0)
else
(if (w32 (x1 + x2)) ≤ (h 27 1) then
(ltt 0 fun y1 =>
(LX9_repeats_42 n x1 x2 y1 h))
else
(some 0)))))
def wX9_repeats {ρ : Type} (n : Nat) : FN ρ := fun a h k => match a with
  | [_, x1, x2] => bndp (MX9_repeats n x1 x2 h) (fun r => k r h)
  | _ => none
def fsX9_repeats (n : Nat) (ρ : Type) : List (FN ρ) := []
def KBX9_repeats_42 (_ : Nat) (bk : Int → Int → Int → Hp → Option (Int)) : CT (Int) := [(42, [(0, 13, (some 27)), (1, 0, none), (2, 0, none), (3, 0, none)], [], fun a c h => match a, c with
    | [x1, x2, x3], [] => bk x1 x2 x3 h
    | _, _ => none)]
set_option maxRecDepth 100000 in
theorem eBX9_repeats_42 (n f : Nat) (x1 : Int) (x2 : Int) (x3 : Int) (h : Hp) : BX9_repeats_42 n (f + 1) x1 x2 x3 h =
  goAt false (kct (KBX9_repeats_42 n (BX9_repeats_42 n f))) (fun v _ => some (v)) (fsX9_repeats n _) sdX9_repeats 1000 42 [(0, 13, 27), (1, 0, x1), (2, 0, x2), (3, 0, x3)] [] h := rfl
def KMX9_repeats (n : Nat) : CT (Int) := [(42, [(0, 13, (some 27)), (1, 0, none), (2, 0, none), (3, 0, none)], [], fun a c h => match a, c with
    | [x1, x2, x3], [] => LX9_repeats_42 n x1 x2 x3 h
    | _, _ => none)]
set_option maxRecDepth 100000 in
theorem eMX9_repeats (n : Nat) (x1 : Int) (x2 : Int) (h : Hp) : MX9_repeats n x1 x2 h =
  goAt false (kct (KMX9_repeats n)) (fun v _ => some (v)) (fsX9_repeats n _) sdX9_repeats 1000 0 [(0, 13, 27), (1, 0, x1), (2, 0, x2)] [] h := rfl
theorem okX9_repeats : mokb (mi 25) = true := by decide +kernel
theorem rkX9_repeats : rkOK 4 (mi 25).1.2.2.2.2.2.2.1 (mi 25).1.2.2.2.1 := Or.inr (Or.inr (Or.inl ⟨rfl, rfl, rfl⟩))
def calX9_repeats : List Nat := []
theorem foX9_repeats {l : Launch} {ρ : Type} (n : Nat) : fsOK l false mi calX9_repeats (fsX9_repeats n ρ) := trivial
theorem frX9_repeats {ρ : Type} (n : Nat) : ∀ fn ∈ fsX9_repeats n ρ, RoF fn := (fun q9 h9 => by cases h9)
theorem ok_sdX9_repeats : sdb (mi 25).1.2.1 (insOK mi (mi 25).1.1.cls (mi 25).1.2.2.1 (mi 25).1.2.2.2.2.1 (mi 25).1.2.2.2.2.2.1 calX9_repeats false 4) sdX9_repeats = true := by decide +kernel
theorem sBX9_repeats_42 {l : Launch} {h0 : Hp} {v : Int} (h8 : nOf h0 = 148) (n : Nat) (h : Hp) : ∀ (f : Nat) (x1 : Int) (x2 : Int) (x3 : Int) {r : Int}, BX9_repeats_42 n f x1 x2 x3 h = some r → gV v r → PAt l false (mi 25).1 h0 v h 42 [(0, 13, 27), (1, 0, x1), (2, 0, x2), (3, 0, x3)] [] h := by
  intro f
  induction f with
  | zero =>
    intro x1 x2 x3 r H _
    have H2 : (none : Option (Int)) = some r := H
    cases H2
  | succ f ih =>
    intro x1 x2 x3 r H hG
    exact pat_ro ok_sdX9_repeats rfl rkX9_repeats h8 (foX9_repeats n) (frX9_repeats n) (fun v1 q => by
    cases q
    exact ⟨rfl, fun _ => hG⟩) (List.forall_mem_cons.mpr ⟨(fun a c H => by
      dsimp only at H
      split at H
      · exact ih _ _ _ H hG
      · cases H), (fun q9 h9 => by cases h9)⟩) ((eBX9_repeats_42 n f x1 x2 x3 h).symm.trans H)
theorem sLX9_repeats_42 {l : Launch} {h0 : Hp} {v : Int} (h8 : nOf h0 = 148) (n : Nat) (x1 : Int) (x2 : Int) (x3 : Int) (h : Hp) {r : Int} (H : LX9_repeats_42 n x1 x2 x3 h = some r) (hG : gV v r) : PAt l false (mi 25).1 h0 v h 42 [(0, 13, 27), (1, 0, x1), (2, 0, x2), (3, 0, x3)] [] h :=
  sBX9_repeats_42 h8 n h n x1 x2 x3 H hG
theorem sMX9_repeats {l : Launch} {h0 : Hp} {v : Int} (h8 : nOf h0 = 148) (n : Nat) (x1 : Int) (x2 : Int) (h : Hp) {r : Int} (H : MX9_repeats n x1 x2 h = some r) (hG : gV v r) : PAt l false (mi 25).1 h0 v h 0 [(0, 13, 27), (1, 0, x1), (2, 0, x2)] [] h :=
  pat_ro ok_sdX9_repeats rfl rkX9_repeats h8 (foX9_repeats n) (frX9_repeats n) (fun v1 q => by
    cases q
    exact ⟨rfl, fun _ => hG⟩) (List.forall_mem_cons.mpr ⟨(fun a c H => by
      dsimp only at H
      split at H
      · exact sLX9_repeats_42 h8 n _ _ _ _ H hG
      · cases H), (fun q9 h9 => by cases h9)⟩) ((eMX9_repeats n x1 x2 h).symm.trans H)
theorem sndX9_repeats {ρ : Type} {l : Launch} (n : Nat) : SndF (ρ := ρ) l false (mi 25).1 (wX9_repeats n) := by
    intro a h k r H ha ho hn hf
    have h8 := hf rfl
    obtain ⟨x0, x1, x2, rfl⟩ := len3 (show a.length = 3 from ha)
    have u0 := uq13 hn (ho (13, x0) (List.mem_cons_self))
    subst u0
    replace H : bndp (MX9_repeats n x1 x2 h) (fun r => k r h) = some r := H
    obtain ⟨v2, H1, H2⟩ := bndp_some H
    exact ⟨v2, h, H2, met_mk (mok_base okX9_repeats).1 (by decide +kernel) (Nat.le_of_ble_eq_true rfl) ho (sMX9_repeats h8 n x1 x2 h H1 rfl), fun q => by cases q⟩
theorem roX9_repeats {ρ : Type} (n : Nat) : RoF (wX9_repeats n : FN ρ) := fun a h k k2 hk => by
  unfold wX9_repeats
  split
  · exact bndp_ro hk
  · rfl
/-! X6_findMark -/
def sdX6_findMark : SD := [(0, [(0, .iconst 0, 1, [], 0), (1, .istore_n 1, 1, [], 0)]),
  (2, [(2, .iload_n 1, 1, [], 0), (3, .aload_n 0, 1, [], 0), (4, .getfield 39, 3, [6, 7, 14, 0, 314, 0], 0), (7, .getfield 167, 3, [10, 13, 0, 0, 211, 0], 0), (10, .if_icmp .ge 39, 3, [], 0)]),
  (13, [(13, .iload_n 1, 1, [], 0), (14, .bipush 8, 2, [], 0), (16, .if_icmp .ge 33, 3, [], 0)]),
  (19, [(19, .aload_n 0, 1, [], 0), (20, .getfield 35, 3, [6, 0, 13, 1, 307, 0], (-2)), (23, .aload_n 0, 1, [], 0), (24, .getfield 22, 3, [6, 3, 84, 1, 310, 0], 6), (27, .iload_n 1, 1, [], 0), (28, .iaload, 1, [], 0), (29, .aload_n 0, 1, [], 0), (30, .getfield 25, 3, [6, 4, 84, 1, 311, 0], 7), (33, .iload_n 1, 1, [], 0), (34, .iaload, 1, [], 0), (35, .invokevirtual 170, 3, [1, 0, 1, 25, 893, 0, 0, 13], 0), (38, .ifCond .eq 5, 3, [], 0)]),
  (41, [(41, .iload_n 1, 1, [], 0), (42, .ireturn, 1, [], 0)]),
  (43, [(43, .iinc 1 1, 3, [], 0), (46, .goto (-44), 3, [], 0)]),
  (49, [(49, .iconst (-1), 1, [], 0), (50, .ireturn, 1, [], 0)])]
def BX6_findMark_2 (n : Nat) : Nat → Int → Hp → Option (Int)
  | 0, _, _ => none
  | f + 1, x1, h =>
    (if (h (h 29 7) 13) ≤ x1 then
    (some (-1))
    else
    (if 8 ≤ x1 then
    (some (-1))
    else
    (grd (0 ≤ x1 ∧ x1 < alen 84)
    (grd (0 ≤ x1 ∧ x1 < alen 84)
    (bndp (MX9_repeats n (h 35 x1) (h 36 x1) h) fun r1 =>
    (if r1 = 0 then
    (ltt (w32 (x1 + 1)) fun y1 =>
    (BX6_findMark_2 n f y1 h))
    else
    (some x1)))))))
def LX6_findMark_2 (n : Nat) (x1 : Int) (h : Hp) : Option (Int) :=
(BX6_findMark_2 n n x1 h)
def MX6_findMark (n : Nat) (h : Hp) : Option (Int) :=
(ltt 0 fun y1 =>
(LX6_findMark_2 n y1 h))
def wX6_findMark {ρ : Type} (n : Nat) : FN ρ := fun a h k => match a with
  | [_] => bndp (MX6_findMark n h) (fun r => k r h)
  | _ => none
def fsX6_findMark (n : Nat) (ρ : Type) : List (FN ρ) := [wX9_repeats n]
def KBX6_findMark_2 (_ : Nat) (bk : Int → Hp → Option (Int)) : CT (Int) := [(2, [(0, 10, (some 29)), (1, 0, none)], [], fun a c h => match a, c with
    | [x1], [] => bk x1 h
    | _, _ => none)]
set_option maxRecDepth 100000 in
theorem eBX6_findMark_2 (n f : Nat) (x1 : Int) (h : Hp) : BX6_findMark_2 n (f + 1) x1 h =
  goAt false (kct (KBX6_findMark_2 n (BX6_findMark_2 n f))) (fun v _ => some (v)) (fsX6_findMark n _) sdX6_findMark 1000 2 [(0, 10, 29), (1, 0, x1)] [] h := rfl
def KMX6_findMark (n : Nat) : CT (Int) := [(2, [(0, 10, (some 29)), (1, 0, none)], [], fun a c h => match a, c with
    | [x1], [] => LX6_findMark_2 n x1 h
    | _, _ => none)]
set_option maxRecDepth 100000 in
theorem eMX6_findMark (n : Nat) (h : Hp) : MX6_findMark n h =
  goAt false (kct (KMX6_findMark n)) (fun v _ => some (v)) (fsX6_findMark n _) sdX6_findMark 1000 0 [(0, 10, 29)] [] h := rfl
theorem okX6_findMark : mokb (mi 26) = true := by decide +kernel
theorem rkX6_findMark : rkOK 1 (mi 26).1.2.2.2.2.2.2.1 (mi 26).1.2.2.2.1 := Or.inr (Or.inl ⟨rfl, rfl, rfl⟩)
def calX6_findMark : List Nat := [25]
theorem foX6_findMark {l : Launch} {ρ : Type} (n : Nat) : fsOK l false mi calX6_findMark (fsX6_findMark n ρ) := ⟨(sndX9_repeats n), trivial⟩
theorem frX6_findMark {ρ : Type} (n : Nat) : ∀ fn ∈ fsX6_findMark n ρ, RoF fn := (List.forall_mem_cons.mpr ⟨(roX9_repeats n), (fun q9 h9 => by cases h9)⟩)
theorem ok_sdX6_findMark : sdb (mi 26).1.2.1 (insOK mi (mi 26).1.1.cls (mi 26).1.2.2.1 (mi 26).1.2.2.2.2.1 (mi 26).1.2.2.2.2.2.1 calX6_findMark false 1) sdX6_findMark = true := by decide +kernel
theorem sBX6_findMark_2 {l : Launch} {h0 : Hp} {v : Int} (h8 : nOf h0 = 148) (n : Nat) (h : Hp) : ∀ (f : Nat) (x1 : Int) {r : Int}, BX6_findMark_2 n f x1 h = some r → gV v r → PAt l false (mi 26).1 h0 v h 2 [(0, 10, 29), (1, 0, x1)] [] h := by
  intro f
  induction f with
  | zero =>
    intro x1 r H _
    have H2 : (none : Option (Int)) = some r := H
    cases H2
  | succ f ih =>
    intro x1 r H hG
    exact pat_ro ok_sdX6_findMark rfl rkX6_findMark h8 (foX6_findMark n) (frX6_findMark n) (fun v1 q => by
    cases q
    exact ⟨rfl, fun _ => hG⟩) (List.forall_mem_cons.mpr ⟨(fun a c H => by
      dsimp only at H
      split at H
      · exact ih _ H hG
      · cases H), (fun q9 h9 => by cases h9)⟩) ((eBX6_findMark_2 n f x1 h).symm.trans H)
theorem sLX6_findMark_2 {l : Launch} {h0 : Hp} {v : Int} (h8 : nOf h0 = 148) (n : Nat) (x1 : Int) (h : Hp) {r : Int} (H : LX6_findMark_2 n x1 h = some r) (hG : gV v r) : PAt l false (mi 26).1 h0 v h 2 [(0, 10, 29), (1, 0, x1)] [] h :=
  sBX6_findMark_2 h8 n h n x1 H hG
theorem sMX6_findMark {l : Launch} {h0 : Hp} {v : Int} (h8 : nOf h0 = 148) (n : Nat)  (h : Hp) {r : Int} (H : MX6_findMark n h = some r) (hG : gV v r) : PAt l false (mi 26).1 h0 v h 0 [(0, 10, 29)] [] h :=
  pat_ro ok_sdX6_findMark rfl rkX6_findMark h8 (foX6_findMark n) (frX6_findMark n) (fun v1 q => by
    cases q
    exact ⟨rfl, fun _ => hG⟩) (List.forall_mem_cons.mpr ⟨(fun a c H => by
      dsimp only at H
      split at H
      · exact sLX6_findMark_2 h8 n _ _ H hG
      · cases H), (fun q9 h9 => by cases h9)⟩) ((eMX6_findMark n h).symm.trans H)
theorem sndX6_findMark {ρ : Type} {l : Launch} (n : Nat) : SndF (ρ := ρ) l false (mi 26).1 (wX6_findMark n) := by
    intro a h k r H ha ho hn hf
    have h8 := hf rfl
    obtain ⟨x0, rfl⟩ := len1 (show a.length = 1 from ha)
    have u0 := uq10 hn (ho (10, x0) (List.mem_cons_self))
    subst u0
    replace H : bndp (MX6_findMark n h) (fun r => k r h) = some r := H
    obtain ⟨v2, H1, H2⟩ := bndp_some H
    exact ⟨v2, h, H2, met_mk (mok_base okX6_findMark).1 (by decide +kernel) (Nat.le_of_ble_eq_true rfl) ho (sMX6_findMark h8 n  h H1 rfl), fun q => by cases q⟩
theorem roX6_findMark {ρ : Type} (n : Nat) : RoF (wX6_findMark n : FN ρ) := fun a h k k2 hk => by
  unfold wX6_findMark
  split
  · exact bndp_ro hk
  · rfl
/-! X6_readName -/
def sdX6_readName : SD := [(0, [(0, .aload_n 0, 1, [], 0), (1, .getfield 35, 3, [6, 0, 13, 1, 307, 0], (-2)), (4, .invokevirtual 61, 3, [0, 0, 1, 14, 765, 13], 0), (7, .aload_n 0, 1, [], 0), (8, .aload_n 0, 1, [], 0), (9, .getfield 35, 3, [6, 0, 13, 1, 307, 0], (-2)), (12, .getfield 149, 3, [9, 4, 0, 0, 262, 0], 0), (15, .aload_n 0, 1, [], 0), (16, .getfield 35, 3, [6, 0, 13, 1, 307, 0], (-2)), (19, .getfield 67, 3, [9, 3, 0, 0, 259, 0], 0), (22, .isub, 1, [], 0), (23, .putfield 152, 3, [6, 12, 0, 0, 0, 319], 0), (26, .aload_n 0, 1, [], 0), (27, .getfield 35, 3, [6, 0, 13, 1, 307, 0], (-2)), (30, .getfield 64, 3, [9, 2, 0, 0, 257, 0], 0), (33, .iconst 1, 1, [], 0), (34, .if_icmp .ne 20, 3, [], 0)]),
  (37, [(37, .aload_n 0, 1, [], 0), (38, .getfield 152, 3, [6, 12, 0, 0, 319, 0], 0), (41, .bipush 7, 2, [], 0), (43, .if_icmp .gt 11, 3, [], 0)]),
  (46, [(46, .aload_n 0, 1, [], 0), (47, .invokevirtual 86, 3, [1, 1, 1, 16, 792, 10], 0), (50, .iconst (-1), 1, [], 0), (51, .if_icmp .eq 16, 3, [], 0)]),
  (54, [(54, .aload_n 0, 1, [], 0), (55, .iconst 1, 1, [], 0), (56, .aload_n 0, 1, [], 0), (57, .getfield 35, 3, [6, 0, 13, 1, 307, 0], (-2)), (60, .getfield 67, 3, [9, 3, 0, 0, 259, 0], 0), (63, .invokevirtual 89, 3, [0, 2, 1, 17, 856, 0, 0, 10], 0), (66, .return_, 1, [], 0)]),
  (67, [(67, .aload_n 0, 1, [], 0), (68, .aload_n 0, 1, [], 0), (69, .getfield 35, 3, [6, 0, 13, 1, 307, 0], (-2)), (72, .getfield 67, 3, [9, 3, 0, 0, 259, 0], 0), (75, .putfield 155, 3, [6, 11, 0, 0, 0, 318], 0), (78, .aload_n 0, 1, [], 0), (79, .aload_n 0, 1, [], 0), (80, .invokevirtual 158, 3, [1, 3, 1, 26, 889, 10], 0), (83, .putfield 161, 3, [6, 13, 0, 0, 0, 320], 0), (86, .aload_n 0, 1, [], 0), (87, .getfield 161, 3, [6, 13, 0, 0, 320, 0], 0), (90, .iconst (-1), 1, [], 0), (91, .if_icmp .eq 7, 3, [], 0)]),
  (94, [(94, .iconst 1, 1, [], 0), (95, .goto 4, 3, [], 0)]),
  (98, [(98, .iconst 0, 1, [], 0)]),
  (99, [(99, .istore_n 2, 1, [], 0), (100, .iload_n 2, 1, [], 0), (101, .iload_n 1, 1, [], 0), (102, .bipush 6, 2, [], 0), (104, .if_icmp .ne 7, 3, [], 0)]),
  (107, [(107, .iconst 1, 1, [], 0), (108, .goto 4, 3, [], 0)]),
  (111, [(111, .iconst 0, 1, [], 0)]),
  (112, [(112, .if_icmp .ne 15, 3, [], 0)]),
  (115, [(115, .aload_n 0, 1, [], 0), (116, .iconst 3, 1, [], 0), (117, .aload_n 0, 1, [], 0), (118, .getfield 35, 3, [6, 0, 13, 1, 307, 0], (-2)), (121, .getfield 67, 3, [9, 3, 0, 0, 259, 0], 0), (124, .invokevirtual 89, 3, [0, 2, 1, 17, 856, 0, 0, 10], 0)]),
  (127, [(127, .iload_n 1, 1, [], 0), (128, .bipush 7, 2, [], 0), (130, .if_icmp .ne 13, 3, [], 0)]),
  (133, [(133, .aload_n 0, 1, [], 0), (134, .aload_n 0, 1, [], 0), (135, .iconst 1, 1, [], 0), (136, .iconst 3, 1, [], 0), (137, .invokevirtual 123, 3, [1, 4, 1, 19, 864, 0, 0, 10], 0), (140, .putfield 164, 3, [6, 14, 0, 0, 0, 321], 0)]),
  (143, [(143, .return_, 1, [], 0)])]
def JX6_readName_54 (n : Nat) (h : Hp) : Option (Hp) :=
(bndh (MX6_fail 1 (h 27 3) h) fun h1 =>
(some h1))
def JX6_readName_127 (n : Nat) (x1 : Int) (h : Hp) : Option (Hp) :=
(if x1 ≠ 7 then
(some h)
else
(bnd (MX6_readNumber n 1 3 h) fun r1 h1 =>
(ltt (up h1 29 14 r1) fun h2 =>
(some h2))))
def JX6_readName_112 (n : Nat) (x1 z0 z1 : Int) (h : Hp) : Option (Hp) :=
(if z0 ≠ z1 then
(JX6_readName_127 n x1 h)
else
(bndh (MX6_fail 3 (h 27 3) h) fun h1 =>
(JX6_readName_127 n x1 h1)))
def JX6_readName_99 (n : Nat) (x1 z0 : Int) (h : Hp) : Option (Hp) :=
(ltt z0 fun y1 =>
(if x1 ≠ 6 then
(JX6_readName_112 n x1 y1 0 h)
else
(JX6_readName_112 n x1 y1 1 h)))
def MX6_readName (n : Nat) (x1 : Int) (h : Hp) : Option (Hp) :=
(bndh (MX9_next n h) fun h1 =>
(ltt (up h1 29 12 (w32 ((h1 27 4) - (h1 27 3)))) fun h2 =>
(if (h2 27 2) ≠ 1 then
(JX6_readName_54 n h2)
else
(if 7 < (h2 29 12) then
(JX6_readName_54 n h2)
else
(bndp (MX6_keyword n h2) fun r1 =>
(if r1 = (-1) then
(ltt (up h2 29 11 (h2 27 3)) fun h3 =>
(bndp (MX6_findMark n h3) fun r2 =>
(ltt (up h3 29 13 r2) fun h4 =>
(if (h4 29 13) = (-1) then
(JX6_readName_99 n x1 0 h4)
else
(JX6_readName_99 n x1 1 h4)))))
else
(JX6_readName_54 n h2)))))))
def wX6_readName {ρ : Type} (n : Nat) : FN ρ := fun a h k => match a with
  | [_, x1] => bndh (MX6_readName n x1 h) (fun h2 => k 0 h2)
  | _ => none
def fsX6_readName (n : Nat) (ρ : Type) : List (FN ρ) := [wX9_next n, wX6_keyword n, wX6_fail, wX6_findMark n, wX6_readNumber n]
def KJX6_readName_54 (_ : Nat) : CT (Hp) := []
set_option maxRecDepth 100000 in
theorem eJX6_readName_54 (n : Nat) (h : Hp) : JX6_readName_54 n h =
  goAt false (kct (KJX6_readName_54 n)) (fun _ h => some (h)) (fsX6_readName n _) sdX6_readName 1000 54 [(0, 10, 29)] [] h := rfl
def KJX6_readName_127 (_ : Nat) : CT (Hp) := []
set_option maxRecDepth 100000 in
theorem eJX6_readName_127 (n : Nat) (x1 : Int) (h : Hp) : JX6_readName_127 n x1 h =
  goAt false (kct (KJX6_readName_127 n)) (fun _ h => some (h)) (fsX6_readName n _) sdX6_readName 1000 127 [(0, 10, 29), (1, 0, x1)] [] h := rfl
def KJX6_readName_112 (n : Nat) : CT (Hp) := [(127, [(0, 10, (some 29)), (1, 0, none)], [], fun a c h => match a, c with
    | [x1], [] => JX6_readName_127 n x1 h
    | _, _ => none)]
set_option maxRecDepth 100000 in
theorem eJX6_readName_112 (n : Nat) (x1 : Int) (z0 : Int) (z1 : Int) (h : Hp) : JX6_readName_112 n x1 z0 z1 h =
  goAt false (kct (KJX6_readName_112 n)) (fun _ h => some (h)) (fsX6_readName n _) sdX6_readName 1000 112 [(0, 10, 29), (1, 0, x1)] [(0, z1), (0, z0)] h := rfl
def KJX6_readName_99 (n : Nat) : CT (Hp) := [(112, [(0, 10, (some 29)), (1, 0, none)], [(0, none), (0, none)], fun a c h => match a, c with
    | [x1], [z1, z0] => JX6_readName_112 n x1 z0 z1 h
    | _, _ => none)]
set_option maxRecDepth 100000 in
theorem eJX6_readName_99 (n : Nat) (x1 : Int) (z0 : Int) (h : Hp) : JX6_readName_99 n x1 z0 h =
  goAt false (kct (KJX6_readName_99 n)) (fun _ h => some (h)) (fsX6_readName n _) sdX6_readName 1000 99 [(0, 10, 29), (1, 0, x1)] [(0, z0)] h := rfl
def KMX6_readName (n : Nat) : CT (Hp) := [(54, [(0, 10, (some 29))], [], fun a c h => match a, c with
    | [], [] => JX6_readName_54 n h
    | _, _ => none),
  (99, [(0, 10, (some 29)), (1, 0, none)], [(0, none)], fun a c h => match a, c with
    | [x1], [z0] => JX6_readName_99 n x1 z0 h
    | _, _ => none)]
set_option maxRecDepth 100000 in
theorem eMX6_readName (n : Nat) (x1 : Int) (h : Hp) : MX6_readName n x1 h =
  goAt false (kct (KMX6_readName n)) (fun _ h => some (h)) (fsX6_readName n _) sdX6_readName 1000 0 [(0, 10, 29), (1, 0, x1)] [] h := rfl
theorem okX6_readName : mokb (mi 27) = true := by decide +kernel
theorem rkX6_readName : rkOK 0 (mi 27).1.2.2.2.2.2.2.1 (mi 27).1.2.2.2.1 := Or.inl ⟨rfl, rfl, rfl⟩
def calX6_readName : List Nat := [14, 16, 17, 26, 19]
theorem foX6_readName {l : Launch} {ρ : Type} (n : Nat) : fsOK l false mi calX6_readName (fsX6_readName n ρ) := ⟨(sndX9_next n), ⟨(sndX6_keyword n), ⟨sndX6_fail, ⟨(sndX6_findMark n), ⟨(sndX6_readNumber n), trivial⟩⟩⟩⟩⟩
theorem ok_sdX6_readName : sdb (mi 27).1.2.1 (insOK mi (mi 27).1.1.cls (mi 27).1.2.2.1 (mi 27).1.2.2.2.2.1 (mi 27).1.2.2.2.2.2.1 calX6_readName false 0) sdX6_readName = true := by decide +kernel
theorem sJX6_readName_54 {l : Launch} {h0 h' : Hp} {v : Int} (h8 : nOf h0 = 148) (n : Nat)  (h : Hp) {r : Hp} (H : JX6_readName_54 n h = some r) (hG : gW h' r) : PAt l false (mi 27).1 h0 v h' 54 [(0, 10, 29)] [] h :=
  pat_w ok_sdX6_readName rkX6_readName h8 (foX6_readName n) (fun v1 h1 q => by
    cases q
    exact ⟨hG, fun q9 => absurd rfl q9⟩) (fun q9 h9 => by cases h9) ((eJX6_readName_54 n h).symm.trans H)
theorem sJX6_readName_127 {l : Launch} {h0 h' : Hp} {v : Int} (h8 : nOf h0 = 148) (n : Nat) (x1 : Int) (h : Hp) {r : Hp} (H : JX6_readName_127 n x1 h = some r) (hG : gW h' r) : PAt l false (mi 27).1 h0 v h' 127 [(0, 10, 29), (1, 0, x1)] [] h :=
  pat_w ok_sdX6_readName rkX6_readName h8 (foX6_readName n) (fun v1 h1 q => by
    cases q
    exact ⟨hG, fun q9 => absurd rfl q9⟩) (fun q9 h9 => by cases h9) ((eJX6_readName_127 n x1 h).symm.trans H)
theorem sJX6_readName_112 {l : Launch} {h0 h' : Hp} {v : Int} (h8 : nOf h0 = 148) (n : Nat) (x1 : Int) (z0 : Int) (z1 : Int) (h : Hp) {r : Hp} (H : JX6_readName_112 n x1 z0 z1 h = some r) (hG : gW h' r) : PAt l false (mi 27).1 h0 v h' 112 [(0, 10, 29), (1, 0, x1)] [(0, z1), (0, z0)] h :=
  pat_w ok_sdX6_readName rkX6_readName h8 (foX6_readName n) (fun v1 h1 q => by
    cases q
    exact ⟨hG, fun q9 => absurd rfl q9⟩) (List.forall_mem_cons.mpr ⟨(fun a c h H => by
      dsimp only at H
      split at H
      · exact sJX6_readName_127 h8 n _ _ H hG
      · cases H), (fun q9 h9 => by cases h9)⟩) ((eJX6_readName_112 n x1 z0 z1 h).symm.trans H)
theorem sJX6_readName_99 {l : Launch} {h0 h' : Hp} {v : Int} (h8 : nOf h0 = 148) (n : Nat) (x1 : Int) (z0 : Int) (h : Hp) {r : Hp} (H : JX6_readName_99 n x1 z0 h = some r) (hG : gW h' r) : PAt l false (mi 27).1 h0 v h' 99 [(0, 10, 29), (1, 0, x1)] [(0, z0)] h :=
  pat_w ok_sdX6_readName rkX6_readName h8 (foX6_readName n) (fun v1 h1 q => by
    cases q
    exact ⟨hG, fun q9 => absurd rfl q9⟩) (List.forall_mem_cons.mpr ⟨(fun a c h H => by
      dsimp only at H
      split at H
      · exact sJX6_readName_112 h8 n _ _ _ _ H hG
      · cases H), (fun q9 h9 => by cases h9)⟩) ((eJX6_readName_99 n x1 z0 h).symm.trans H)
theorem sMX6_readName {l : Launch} {h0 h' : Hp} {v : Int} (h8 : nOf h0 = 148) (n : Nat) (x1 : Int) (h : Hp) {r : Hp} (H : MX6_readName n x1 h = some r) (hG : gW h' r) : PAt l false (mi 27).1 h0 v h' 0 [(0, 10, 29), (1, 0, x1)] [] h :=
  pat_w ok_sdX6_readName rkX6_readName h8 (foX6_readName n) (fun v1 h1 q => by
    cases q
    exact ⟨hG, fun q9 => absurd rfl q9⟩) (List.forall_mem_cons.mpr ⟨(fun a c h H => by
      dsimp only at H
      split at H
      · exact sJX6_readName_54 h8 n _ H hG
      · cases H), (List.forall_mem_cons.mpr ⟨(fun a c h H => by
      dsimp only at H
      split at H
      · exact sJX6_readName_99 h8 n _ _ _ H hG
      · cases H), (fun q9 h9 => by cases h9)⟩)⟩) ((eMX6_readName n x1 h).symm.trans H)
theorem sndX6_readName {ρ : Type} {l : Launch} (n : Nat) : SndF (ρ := ρ) l false (mi 27).1 (wX6_readName n) := by
    intro a h k r H ha ho hn hf
    have h8 := hf rfl
    obtain ⟨x0, x1, rfl⟩ := len2 (show a.length = 2 from ha)
    have u0 := uq10 hn (ho (10, x0) (List.mem_cons_self))
    subst u0
    replace H : bndh (MX6_readName n x1 h) (fun h2 => k 0 h2) = some r := H
    obtain ⟨h2, H1, H2⟩ := bndh_some H
    exact ⟨0, h2, H2, met_mk (mok_base okX6_readName).1 (by decide +kernel) (Nat.le_of_ble_eq_true rfl) ho (sMX6_readName h8 n x1 h H1 rfl), fun q => by cases q⟩
/-! X6_readLine -/
def sdX6_readLine : SD := [(0, [(0, .aload_n 0, 1, [], 0), (1, .invokevirtual 86, 3, [1, 0, 1, 16, 792, 10], 0), (4, .istore_n 1, 1, [], 0), (5, .iload_n 1, 1, [], 0), (6, .iconst (-1), 1, [], 0), (7, .if_icmp .ne 17, 3, [], 0)]),
  (10, [(10, .aload_n 0, 1, [], 0), (11, .iconst 1, 1, [], 0), (12, .aload_n 0, 1, [], 0), (13, .getfield 35, 3, [6, 0, 13, 1, 307, 0], (-2)), (16, .getfield 67, 3, [9, 3, 0, 0, 259, 0], 0), (19, .invokevirtual 89, 3, [0, 1, 1, 17, 856, 0, 0, 10], 0), (22, .iconst (-1), 1, [], 0), (23, .ireturn, 1, [], 0)]),
  (24, [(24, .iload_n 1, 1, [], 0), (25, .iconst 2, 1, [], 0), (26, .if_icmp .gt 11, 3, [], 0)]),
  (29, [(29, .aload_n 0, 1, [], 0), (30, .iload_n 1, 1, [], 0), (31, .invokevirtual 93, 3, [0, 2, 1, 20, 860, 0, 10], 0), (34, .goto 31, 3, [], 0)]),
  (37, [(37, .iload_n 1, 1, [], 0), (38, .iconst 5, 1, [], 0), (39, .if_icmp .gt 16, 3, [], 0)]),
  (42, [(42, .aload_n 0, 1, [], 0), (43, .iconst 1, 1, [], 0), (44, .putfield 57, 3, [6, 10, 0, 0, 1, 317], 0), (47, .aload_n 0, 1, [], 0), (48, .iload_n 1, 1, [], 0), (49, .invokevirtual 97, 3, [0, 3, 1, 24, 872, 0, 10], 0), (52, .goto 13, 3, [], 0)]),
  (55, [(55, .aload_n 0, 1, [], 0), (56, .iconst 1, 1, [], 0), (57, .putfield 57, 3, [6, 10, 0, 0, 1, 317], 0), (60, .aload_n 0, 1, [], 0), (61, .iload_n 1, 1, [], 0), (62, .invokevirtual 100, 3, [0, 4, 1, 27, 885, 0, 10], 0)]),
  (65, [(65, .aload_n 0, 1, [], 0), (66, .getfield 53, 3, [6, 8, 0, 0, 315, 0], 0), (69, .iconst (-1), 1, [], 0), (70, .if_icmp .ne 33, 3, [], 0)]),
  (73, [(73, .aload_n 0, 1, [], 0), (74, .getfield 35, 3, [6, 0, 13, 1, 307, 0], (-2)), (77, .invokevirtual 61, 3, [0, 5, 1, 14, 765, 13], 0), (80, .aload_n 0, 1, [], 0), (81, .getfield 35, 3, [6, 0, 13, 1, 307, 0], (-2)), (84, .getfield 64, 3, [9, 2, 0, 0, 257, 0], 0), (87, .iconst 4, 1, [], 0), (88, .if_icmp .eq 15, 3, [], 0)]),
  (91, [(91, .aload_n 0, 1, [], 0), (92, .iconst 1, 1, [], 0), (93, .aload_n 0, 1, [], 0), (94, .getfield 35, 3, [6, 0, 13, 1, 307, 0], (-2)), (97, .getfield 67, 3, [9, 3, 0, 0, 259, 0], 0), (100, .invokevirtual 89, 3, [0, 1, 1, 17, 856, 0, 0, 10], 0)]),
  (103, [(103, .iload_n 1, 1, [], 0), (104, .ireturn, 1, [], 0)])]
def JX6_readLine_65 (n : Nat) (x1 : Int) (h : Hp) : Option (Int × Hp) :=
(if (h 29 8) ≠ (-1) then
(some (x1, h))
else
(bndh (MX9_next n h) fun h1 =>
(if (h1 27 2) = 4 then
(some (x1, h1))
else
(bndh (MX6_fail 1 (h1 27 3) h1) fun h2 =>
(some (x1, h2))))))
def MX6_readLine (n : Nat) (h : Hp) : Option (Int × Hp) :=
(bndp (MX6_keyword n h) fun r1 =>
(ltt r1 fun y1 =>
(if y1 ≠ (-1) then
(if 2 < y1 then
(if 5 < y1 then
(ltt (up h 29 10 1) fun h1 =>
(bndh (MX6_readName n y1 h1) fun h2 =>
(JX6_readLine_65 n y1 h2)))
else
(ltt (up h 29 10 1) fun h3 =>
(bndh (MX6_readMove n y1 h3) fun h4 =>
(JX6_readLine_65 n y1 h4))))
else
(bndh (MX6_readSetting n y1 h) fun h5 =>
(JX6_readLine_65 n y1 h5)))
else
(bndh (MX6_fail 1 (h 27 3) h) fun h6 =>
(some ((-1), h6))))))
def wX6_readLine {ρ : Type} (n : Nat) : FN ρ := fun a h k => match a with
  | [_] => bnd (MX6_readLine n h) (fun r h2 => k r h2)
  | _ => none
def fsX6_readLine (n : Nat) (ρ : Type) : List (FN ρ) := [wX6_keyword n, wX6_fail, wX6_readSetting n, wX6_readMove n, wX6_readName n, wX9_next n]
def KJX6_readLine_65 (_ : Nat) : CT (Int × Hp) := []
set_option maxRecDepth 100000 in
theorem eJX6_readLine_65 (n : Nat) (x1 : Int) (h : Hp) : JX6_readLine_65 n x1 h =
  goAt false (kct (KJX6_readLine_65 n)) (fun v h => some ((v, h))) (fsX6_readLine n _) sdX6_readLine 1000 65 [(0, 10, 29), (1, 0, x1)] [] h := rfl
def KMX6_readLine (n : Nat) : CT (Int × Hp) := [(65, [(0, 10, (some 29)), (1, 0, none)], [], fun a c h => match a, c with
    | [x1], [] => JX6_readLine_65 n x1 h
    | _, _ => none)]
set_option maxRecDepth 100000 in
theorem eMX6_readLine (n : Nat) (h : Hp) : MX6_readLine n h =
  goAt false (kct (KMX6_readLine n)) (fun v h => some ((v, h))) (fsX6_readLine n _) sdX6_readLine 1000 0 [(0, 10, 29)] [] h := rfl
theorem okX6_readLine : mokb (mi 28) = true := by decide +kernel
theorem rkX6_readLine : rkOK 1 (mi 28).1.2.2.2.2.2.2.1 (mi 28).1.2.2.2.1 := Or.inr (Or.inl ⟨rfl, rfl, rfl⟩)
def calX6_readLine : List Nat := [16, 17, 20, 24, 27, 14]
theorem foX6_readLine {l : Launch} {ρ : Type} (n : Nat) : fsOK l false mi calX6_readLine (fsX6_readLine n ρ) := ⟨(sndX6_keyword n), ⟨sndX6_fail, ⟨(sndX6_readSetting n), ⟨(sndX6_readMove n), ⟨(sndX6_readName n), ⟨(sndX9_next n), trivial⟩⟩⟩⟩⟩⟩
theorem ok_sdX6_readLine : sdb (mi 28).1.2.1 (insOK mi (mi 28).1.1.cls (mi 28).1.2.2.1 (mi 28).1.2.2.2.2.1 (mi 28).1.2.2.2.2.2.1 calX6_readLine false 1) sdX6_readLine = true := by decide +kernel
theorem sJX6_readLine_65 {l : Launch} {h0 h' : Hp} {v : Int} (h8 : nOf h0 = 148) (n : Nat) (x1 : Int) (h : Hp) {r : Int × Hp} (H : JX6_readLine_65 n x1 h = some r) (hG : gWV v h' r) : PAt l false (mi 28).1 h0 v h' 65 [(0, 10, 29), (1, 0, x1)] [] h :=
  pat_w ok_sdX6_readLine rkX6_readLine h8 (foX6_readLine n) (fun v1 h1 q => by
    cases q
    exact ⟨hG.1, fun _ => hG.2⟩) (fun q9 h9 => by cases h9) ((eJX6_readLine_65 n x1 h).symm.trans H)
theorem sMX6_readLine {l : Launch} {h0 h' : Hp} {v : Int} (h8 : nOf h0 = 148) (n : Nat)  (h : Hp) {r : Int × Hp} (H : MX6_readLine n h = some r) (hG : gWV v h' r) : PAt l false (mi 28).1 h0 v h' 0 [(0, 10, 29)] [] h :=
  pat_w ok_sdX6_readLine rkX6_readLine h8 (foX6_readLine n) (fun v1 h1 q => by
    cases q
    exact ⟨hG.1, fun _ => hG.2⟩) (List.forall_mem_cons.mpr ⟨(fun a c h H => by
      dsimp only at H
      split at H
      · exact sJX6_readLine_65 h8 n _ _ H hG
      · cases H), (fun q9 h9 => by cases h9)⟩) ((eMX6_readLine n h).symm.trans H)
theorem sndX6_readLine {ρ : Type} {l : Launch} (n : Nat) : SndF (ρ := ρ) l false (mi 28).1 (wX6_readLine n) := by
    intro a h k r H ha ho hn hf
    have h8 := hf rfl
    obtain ⟨x0, rfl⟩ := len1 (show a.length = 1 from ha)
    have u0 := uq10 hn (ho (10, x0) (List.mem_cons_self))
    subst u0
    replace H : bnd (MX6_readLine n h) (fun r h2 => k r h2) = some r := H
    obtain ⟨v2, h2, H1, H2⟩ := bnd_some H
    exact ⟨v2, h2, H2, met_mk (mok_base okX6_readLine).1 (by decide +kernel) (Nat.le_of_ble_eq_true rfl) ho (sMX6_readLine h8 n  h H1 ⟨rfl, rfl⟩), fun q => by cases q⟩
/-! X6_putMark -/
def sdX6_putMark : SD := [(0, [(0, .aload_n 0, 1, [], 0), (1, .getfield 39, 3, [6, 7, 14, 0, 314, 0], 0), (4, .getfield 167, 3, [10, 13, 0, 0, 211, 0], 0), (7, .istore_n 1, 1, [], 0), (8, .iload_n 1, 1, [], 0), (9, .ifCond .lt 9, 3, [], 0)]),
  (12, [(12, .iload_n 1, 1, [], 0), (13, .bipush 8, 2, [], 0), (15, .if_icmp .lt 13, 3, [], 0)]),
  (18, [(18, .aload_n 0, 1, [], 0), (19, .iconst 4, 1, [], 0), (20, .aload_n 0, 1, [], 0), (21, .getfield 70, 3, [6, 9, 0, 0, 316, 0], 0), (24, .invokevirtual 89, 3, [0, 0, 1, 17, 856, 0, 0, 10], 0), (27, .return_, 1, [], 0)]),
  (28, [(28, .aload_n 0, 1, [], 0), (29, .getfield 22, 3, [6, 3, 84, 1, 310, 0], 6), (32, .iload_n 1, 1, [], 0), (33, .aload_n 0, 1, [], 0), (34, .getfield 155, 3, [6, 11, 0, 0, 318, 0], 0), (37, .iastore, 1, [], 0), (38, .aload_n 0, 1, [], 0), (39, .getfield 25, 3, [6, 4, 84, 1, 311, 0], 7), (42, .iload_n 1, 1, [], 0), (43, .aload_n 0, 1, [], 0), (44, .getfield 152, 3, [6, 12, 0, 0, 319, 0], 0), (47, .iastore, 1, [], 0), (48, .aload_n 0, 1, [], 0), (49, .getfield 28, 3, [6, 5, 84, 1, 312, 0], 8), (52, .iload_n 1, 1, [], 0), (53, .aload_n 0, 1, [], 0), (54, .getfield 39, 3, [6, 7, 14, 0, 314, 0], 0), (57, .getfield 134, 3, [10, 12, 0, 0, 208, 0], 0), (60, .iastore, 1, [], 0), (61, .aload_n 0, 1, [], 0), (62, .getfield 39, 3, [6, 7, 14, 0, 314, 0], 0), (65, .iload_n 1, 1, [], 0), (66, .iconst 1, 1, [], 0), (67, .iadd, 1, [], 0), (68, .putfield 167, 3, [10, 13, 0, 0, 0, 211], 0), (71, .return_, 1, [], 0)])]
def JX6_putMark_18 (h : Hp) : Option (Hp) :=
(bndh (MX6_fail 4 (h 29 9) h) fun h1 =>
(some h1))
def MX6_putMark (h : Hp) : Option (Hp) :=
(ltt (h (h 29 7) 13) fun y1 =>
(if y1 < 0 then
(JX6_putMark_18 h)
else
(if y1 < 8 then
(grd (0 ≤ y1 ∧ y1 < alen 84)
(ltt (up h 35 y1 (h 29 11)) fun h1 =>
(grd (0 ≤ y1 ∧ y1 < alen 84)
(ltt (up h1 36 y1 (h1 29 12)) fun h2 =>
(grd (0 ≤ y1 ∧ y1 < alen 84)
(ltt (up h2 37 y1 (h2 (h2 29 7) 12)) fun h3 =>
(ltt (up h3 (h3 29 7) 13 (w32 (y1 + 1))) fun h4 =>
(some h4))))))))
else
(JX6_putMark_18 h))))
def wX6_putMark {ρ : Type} : FN ρ := fun a h k => match a with
  | [_] => bndh (MX6_putMark h) (fun h2 => k 0 h2)
  | _ => none
def fsX6_putMark (ρ : Type) : List (FN ρ) := [wX6_fail]
def KJX6_putMark_18  : CT (Hp) := []
set_option maxRecDepth 100000 in
theorem eJX6_putMark_18 (h : Hp) : JX6_putMark_18 h =
  goAt false (kct (KJX6_putMark_18)) (fun _ h => some (h)) (fsX6_putMark _) sdX6_putMark 1000 18 [(0, 10, 29)] [] h := rfl
def KMX6_putMark  : CT (Hp) := [(18, [(0, 10, (some 29))], [], fun a c h => match a, c with
    | [], [] => JX6_putMark_18 h
    | _, _ => none)]
set_option maxRecDepth 100000 in
theorem eMX6_putMark (h : Hp) : MX6_putMark h =
  goAt false (kct (KMX6_putMark)) (fun _ h => some (h)) (fsX6_putMark _) sdX6_putMark 1000 0 [(0, 10, 29)] [] h := rfl
theorem okX6_putMark : mokb (mi 29) = true := by decide +kernel
theorem rkX6_putMark : rkOK 0 (mi 29).1.2.2.2.2.2.2.1 (mi 29).1.2.2.2.1 := Or.inl ⟨rfl, rfl, rfl⟩
def calX6_putMark : List Nat := [17]
theorem foX6_putMark {l : Launch} {ρ : Type} : fsOK l false mi calX6_putMark (fsX6_putMark ρ) := ⟨sndX6_fail, trivial⟩
theorem ok_sdX6_putMark : sdb (mi 29).1.2.1 (insOK mi (mi 29).1.1.cls (mi 29).1.2.2.1 (mi 29).1.2.2.2.2.1 (mi 29).1.2.2.2.2.2.1 calX6_putMark false 0) sdX6_putMark = true := by decide +kernel
theorem sJX6_putMark_18 {l : Launch} {h0 h' : Hp} {v : Int} (h8 : nOf h0 = 148)   (h : Hp) {r : Hp} (H : JX6_putMark_18 h = some r) (hG : gW h' r) : PAt l false (mi 29).1 h0 v h' 18 [(0, 10, 29)] [] h :=
  pat_w ok_sdX6_putMark rkX6_putMark h8 (foX6_putMark) (fun v1 h1 q => by
    cases q
    exact ⟨hG, fun q9 => absurd rfl q9⟩) (fun q9 h9 => by cases h9) ((eJX6_putMark_18 h).symm.trans H)
theorem sMX6_putMark {l : Launch} {h0 h' : Hp} {v : Int} (h8 : nOf h0 = 148)   (h : Hp) {r : Hp} (H : MX6_putMark h = some r) (hG : gW h' r) : PAt l false (mi 29).1 h0 v h' 0 [(0, 10, 29)] [] h :=
  pat_w ok_sdX6_putMark rkX6_putMark h8 (foX6_putMark) (fun v1 h1 q => by
    cases q
    exact ⟨hG, fun q9 => absurd rfl q9⟩) (List.forall_mem_cons.mpr ⟨(fun a c h H => by
      dsimp only at H
      split at H
      · exact sJX6_putMark_18 h8 _ H hG
      · cases H), (fun q9 h9 => by cases h9)⟩) ((eMX6_putMark h).symm.trans H)
theorem sndX6_putMark {ρ : Type} {l : Launch} : SndF (ρ := ρ) l false (mi 29).1 (wX6_putMark) := by
    intro a h k r H ha ho hn hf
    have h8 := hf rfl
    obtain ⟨x0, rfl⟩ := len1 (show a.length = 1 from ha)
    have u0 := uq10 hn (ho (10, x0) (List.mem_cons_self))
    subst u0
    replace H : bndh (MX6_putMark h) (fun h2 => k 0 h2) = some r := H
    obtain ⟨h2, H1, H2⟩ := bndh_some H
    exact ⟨0, h2, H2, met_mk (mok_base okX6_putMark).1 (by decide +kernel) (Nat.le_of_ble_eq_true rfl) ho (sMX6_putMark h8  h H1 rfl), fun q => by cases q⟩
/-! X11_isAxis -/
def sdX11_isAxis : SD := [(0, [(0, .iload_n 0, 1, [], 0), (1, .ifCond .lt 12, 3, [], 0)]),
  (4, [(4, .iload_n 0, 1, [], 0), (5, .iconst 3, 1, [], 0), (6, .if_icmp .ge 7, 3, [], 0)]),
  (9, [(9, .iconst 1, 1, [], 0), (10, .goto 4, 3, [], 0)]),
  (13, [(13, .iconst 0, 1, [], 0)]),
  (14, [(14, .ireturn, 1, [1], 0)])]
def MX11_isAxis (x0 : Int) : Option (Int) :=
(if x0 < 0 then
(some 0)
else
(if 3 ≤ x0 then
(some 0)
else
(some 1)))
def wX11_isAxis {ρ : Type} : FN ρ := fun a h k => match a with
  | [x0] => bndp (MX11_isAxis x0) (fun r => k r h)
  | _ => none
def fsX11_isAxis (ρ : Type) : List (FN ρ) := []
def KMX11_isAxis  : CT (Int) := []
set_option maxRecDepth 100000 in
theorem eMX11_isAxis (x0 : Int) (h : Hp) : MX11_isAxis x0 =
  goAt false (kct (KMX11_isAxis)) (fun v _ => some (v)) (fsX11_isAxis _) sdX11_isAxis 1000 0 [(0, 0, x0)] [] h := rfl
theorem okX11_isAxis : mokb (mi 30) = true := by decide +kernel
theorem rkX11_isAxis : rkOK 4 (mi 30).1.2.2.2.2.2.2.1 (mi 30).1.2.2.2.1 := Or.inr (Or.inr (Or.inl ⟨rfl, rfl, rfl⟩))
def calX11_isAxis : List Nat := []
theorem foX11_isAxis {l : Launch} {ρ : Type} : fsOK l false mi calX11_isAxis (fsX11_isAxis ρ) := trivial
theorem frX11_isAxis {ρ : Type} : ∀ fn ∈ fsX11_isAxis ρ, RoF fn := (fun q9 h9 => by cases h9)
theorem ok_sdX11_isAxis : sdb (mi 30).1.2.1 (insOK mi (mi 30).1.1.cls (mi 30).1.2.2.1 (mi 30).1.2.2.2.2.1 (mi 30).1.2.2.2.2.2.1 calX11_isAxis false 4) sdX11_isAxis = true := by decide +kernel
theorem sMX11_isAxis {l : Launch} {h0 : Hp} {v : Int} (h8 : nOf h0 = 148)  (x0 : Int) (h : Hp) {r : Int} (H : MX11_isAxis x0 = some r) (hG : gV v r) : PAt l false (mi 30).1 h0 v h 0 [(0, 0, x0)] [] h :=
  pat_ro ok_sdX11_isAxis rfl rkX11_isAxis h8 (foX11_isAxis) (frX11_isAxis) (fun v1 q => by
    cases q
    exact ⟨rfl, fun _ => hG⟩) (fun q9 h9 => by cases h9) ((eMX11_isAxis x0 h).symm.trans H)
theorem sndX11_isAxis {ρ : Type} {l : Launch} : SndF (ρ := ρ) l false (mi 30).1 (wX11_isAxis) := by
    intro a h k r H ha ho hn hf
    have h8 := hf rfl
    obtain ⟨x0, rfl⟩ := len1 (show a.length = 1 from ha)
    replace H : bndp (MX11_isAxis x0) (fun r => k r h) = some r := H
    obtain ⟨v2, H1, H2⟩ := bndp_some H
    exact ⟨v2, h, H2, met_mk (mok_base okX11_isAxis).1 (by decide +kernel) (Nat.le_of_ble_eq_true rfl) ho (sMX11_isAxis h8 x0 h H1 rfl), fun q => by cases q⟩
theorem roX11_isAxis {ρ : Type} : RoF (wX11_isAxis : FN ρ) := fun a h k k2 hk => by
  unfold wX11_isAxis
  split
  · exact bndp_ro hk
  · rfl
/-! X10_last -/
def sdX10_last : SD := [(0, [(0, .iload_n 1, 1, [], 0), (1, .invokestatic 63, 3, [1, 0, 4, 30, 649, 0], 0), (4, .ifCond .eq 17, 3, [], 0)]),
  (7, [(7, .aload_n 0, 1, [], 0), (8, .getfield 17, 3, [10, 1, 50, 1, 167, 0], 2), (11, .iload_n 1, 1, [], 0), (12, .aaload, 1, [], 0), (13, .aload_n 0, 1, [], 0), (14, .getfield 51, 3, [10, 11, 0, 0, 202, 0], 0), (17, .iaload, 1, [], 0), (18, .goto 4, 3, [], 0)]),
  (21, [(21, .iconst 0, 1, [], 0)]),
  (22, [(22, .ireturn, 1, [], 0)])]
def MX10_last (x0 x1 : Int) (h : Hp) : Option (Int) :=
(bndp (MX11_isAxis x1) fun r1 =>
(if r1 = 0 then
(some 0)
else
(grd (0 ≤ x1 ∧ x1 < alen 50)
(grd (0 ≤ (h x0 11) ∧ (h x0 11) < alen 540)
(some (h ((x0 + 2) + 1 + x1) (h x0 11)))))))
def wX10_last {ρ : Type} : FN ρ := fun a h k => match a with
  | [x0, x1] => bndp (MX10_last x0 x1 h) (fun r => k r h)
  | _ => none
def fsX10_last (ρ : Type) : List (FN ρ) := [wX11_isAxis]
def KMX10_last  : CT (Int) := []
set_option maxRecDepth 100000 in
theorem eMX10_last (x0 : Int) (x1 : Int) (h : Hp) : MX10_last x0 x1 h =
  goAt false (kct (KMX10_last)) (fun v _ => some (v)) (fsX10_last _) sdX10_last 1000 0 [(0, 14, x0), (1, 0, x1)] [] h := rfl
theorem okX10_last : mokb (mi 31) = true := by decide +kernel
theorem rkX10_last : rkOK 1 (mi 31).1.2.2.2.2.2.2.1 (mi 31).1.2.2.2.1 := Or.inr (Or.inl ⟨rfl, rfl, rfl⟩)
def calX10_last : List Nat := [30]
theorem foX10_last {l : Launch} {ρ : Type} : fsOK l false mi calX10_last (fsX10_last ρ) := ⟨sndX11_isAxis, trivial⟩
theorem frX10_last {ρ : Type} : ∀ fn ∈ fsX10_last ρ, RoF fn := (List.forall_mem_cons.mpr ⟨roX11_isAxis, (fun q9 h9 => by cases h9)⟩)
theorem ok_sdX10_last : sdb (mi 31).1.2.1 (insOK mi (mi 31).1.1.cls (mi 31).1.2.2.1 (mi 31).1.2.2.2.2.1 (mi 31).1.2.2.2.2.2.1 calX10_last false 1) sdX10_last = true := by decide +kernel
theorem sMX10_last {l : Launch} {h0 : Hp} {v : Int} (h8 : nOf h0 = 148)  (x0 : Int) (x1 : Int) (h : Hp) {r : Int} (H : MX10_last x0 x1 h = some r) (hG : gV v r) : PAt l false (mi 31).1 h0 v h 0 [(0, 14, x0), (1, 0, x1)] [] h :=
  pat_ro ok_sdX10_last rfl rkX10_last h8 (foX10_last) (frX10_last) (fun v1 q => by
    cases q
    exact ⟨rfl, fun _ => hG⟩) (fun q9 h9 => by cases h9) ((eMX10_last x0 x1 h).symm.trans H)
theorem sndX10_last {ρ : Type} {l : Launch} : SndF (ρ := ρ) l false (mi 31).1 (wX10_last) := by
    intro a h k r H ha ho hn hf
    have h8 := hf rfl
    obtain ⟨x0, x1, rfl⟩ := len2 (show a.length = 2 from ha)
    replace H : bndp (MX10_last x0 x1 h) (fun r => k r h) = some r := H
    obtain ⟨v2, H1, H2⟩ := bndp_some H
    exact ⟨v2, h, H2, met_mk (mok_base okX10_last).1 (by decide +kernel) (Nat.le_of_ble_eq_true rfl) ho (sMX10_last h8 x0 x1 h H1 rfl), fun q => by cases q⟩
theorem roX10_last {ρ : Type} : RoF (wX10_last : FN ρ) := fun a h k k2 hk => by
  unfold wX10_last
  split
  · exact bndp_ro hk
  · rfl
/-! X11_square -/
def sdX11_square : SD := [(0, [(0, .lload_n 0, 1, [], 0), (1, .lload_n 0, 1, [], 0), (2, .lmul, 1, [], 0), (3, .lreturn, 1, [], 0)])]
def MX11_square (x0 : Int) : Option (Int) :=
(some (w64 (x0 * x0)))
def wX11_square {ρ : Type} : FN ρ := fun a h k => match a with
  | [x0] => bndp (MX11_square x0) (fun r => k r h)
  | _ => none
def fsX11_square (ρ : Type) : List (FN ρ) := []
def KMX11_square  : CT (Int) := []
set_option maxRecDepth 100000 in
theorem eMX11_square (x0 : Int) (h : Hp) : MX11_square x0 =
  goAt false (kct (KMX11_square)) (fun v _ => some (v)) (fsX11_square _) sdX11_square 1000 0 [(0, 1, x0)] [] h := rfl
theorem okX11_square : mokb (mi 32) = true := by decide +kernel
theorem rkX11_square : rkOK 2 (mi 32).1.2.2.2.2.2.2.1 (mi 32).1.2.2.2.1 := Or.inr (Or.inr (Or.inr (Or.inl ⟨rfl, rfl, rfl⟩)))
def calX11_square : List Nat := []
theorem foX11_square {l : Launch} {ρ : Type} : fsOK l false mi calX11_square (fsX11_square ρ) := trivial
theorem frX11_square {ρ : Type} : ∀ fn ∈ fsX11_square ρ, RoF fn := (fun q9 h9 => by cases h9)
theorem ok_sdX11_square : sdb (mi 32).1.2.1 (insOK mi (mi 32).1.1.cls (mi 32).1.2.2.1 (mi 32).1.2.2.2.2.1 (mi 32).1.2.2.2.2.2.1 calX11_square false 2) sdX11_square = true := by decide +kernel
theorem sMX11_square {l : Launch} {h0 : Hp} {v : Int} (h8 : nOf h0 = 148)  (x0 : Int) (h : Hp) {r : Int} (H : MX11_square x0 = some r) (hG : gV v r) : PAt l false (mi 32).1 h0 v h 0 [(0, 1, x0)] [] h :=
  pat_ro ok_sdX11_square rfl rkX11_square h8 (foX11_square) (frX11_square) (fun v1 q => by
    cases q
    exact ⟨rfl, fun _ => hG⟩) (fun q9 h9 => by cases h9) ((eMX11_square x0 h).symm.trans H)
theorem sndX11_square {ρ : Type} {l : Launch} : SndF (ρ := ρ) l false (mi 32).1 (wX11_square) := by
    intro a h k r H ha ho hn hf
    have h8 := hf rfl
    obtain ⟨x0, rfl⟩ := len1 (show a.length = 1 from ha)
    replace H : bndp (MX11_square x0) (fun r => k r h) = some r := H
    obtain ⟨v2, H1, H2⟩ := bndp_some H
    exact ⟨v2, h, H2, met_mk (mok_base okX11_square).1 (by decide +kernel) (Nat.le_of_ble_eq_true rfl) ho (sMX11_square h8 x0 h H1 rfl), fun q => by cases q⟩
theorem roX11_square {ρ : Type} : RoF (wX11_square : FN ρ) := fun a h k k2 hk => by
  unfold wX11_square
  split
  · exact bndp_ro hk
  · rfl
/-! X11_root -/
def sdX11_root : SD := [(0, [(0, .lconst 0, 1, [], 0), (1, .lstore_n 2, 1, [], 0), (2, .bipush 30, 2, [], 0), (4, .istore 4, 2, [], 0)]),
  (6, [(6, .iload 4, 2, [], 0), (8, .ifCond .lt 30, 3, [], 0)]),
  (11, [(11, .lload_n 2, 1, [], 0), (12, .lconst 1, 1, [], 0), (13, .iload 4, 2, [], 0), (15, .lshl, 1, [], 0), (16, .ladd, 1, [], 0), (17, .lstore 5, 2, [], 0), (19, .lload 5, 2, [], 0), (21, .lload 5, 2, [], 0), (23, .lmul, 1, [], 0), (24, .lload_n 0, 1, [], 0), (25, .lcmp, 1, [], 0), (26, .ifCond .gt 6, 3, [], 0)]),
  (29, [(29, .lload 5, 2, [], 0), (31, .lstore_n 2, 1, [], 0)]),
  (32, [(32, .iinc 4 (-1), 3, [], 0), (35, .goto (-29), 3, [], 0)]),
  (38, [(38, .lload_n 2, 1, [], 0), (39, .l2i, 1, [], 0), (40, .ireturn, 1, [], 0)])]
def BX11_root_6 (n : Nat) : Nat → Int → Int → Int → Option (Int)
  | 0, _, _, _ => none
  | f + 1, x0, x2, x4 =>
    (if x4 < 0 then
    (some (w32 x2))
    else
    (ltt (w64 (x2 + (lshl 1 x4))) fun y1 =>
    (if 0 < (lcp (w64 (y1 * y1)) x0) then
    (ltt (w32 (x4 + (-1))) fun y2 =>
    (BX11_root_6 n f x0 x2 y2))
    else
    (ltt y1 fun y3 =>
    (ltt (w32 (x4 + (-1))) fun y4 =>
    (BX11_root_6 n f x0 y3 y4))))))
def LX11_root_6 (n : Nat) (x0 x2 x4 : Int) : Option (Int) :=
(BX11_root_6 n n x0 x2 x4)
def MX11_root (n : Nat) (x0 : Int) : Option (Int) :=
(ltt 0 fun y1 =>
(ltt 30 fun y2 =>
(LX11_root_6 n x0 y1 y2)))
def wX11_root {ρ : Type} (n : Nat) : FN ρ := fun a h k => match a with
  | [x0] => bndp (MX11_root n x0) (fun r => k r h)
  | _ => none
def fsX11_root (n : Nat) (ρ : Type) : List (FN ρ) := []
def KBX11_root_6 (_ : Nat) (bk : Int → Int → Int → Option (Int)) : CT (Int) := [(6, [(0, 1, none), (2, 1, none), (4, 0, none)], [], fun a c _ => match a, c with
    | [x0, x2, x4], [] => bk x0 x2 x4
    | _, _ => none)]
set_option maxRecDepth 100000 in
theorem eBX11_root_6 (n f : Nat) (x0 : Int) (x2 : Int) (x4 : Int) (h : Hp) : BX11_root_6 n (f + 1) x0 x2 x4 =
  goAt false (kct (KBX11_root_6 n (BX11_root_6 n f))) (fun v _ => some (v)) (fsX11_root n _) sdX11_root 1000 6 [(0, 1, x0), (2, 1, x2), (4, 0, x4)] [] h := rfl
def KMX11_root (n : Nat) : CT (Int) := [(6, [(0, 1, none), (2, 1, none), (4, 0, none)], [], fun a c _ => match a, c with
    | [x0, x2, x4], [] => LX11_root_6 n x0 x2 x4
    | _, _ => none)]
set_option maxRecDepth 100000 in
theorem eMX11_root (n : Nat) (x0 : Int) (h : Hp) : MX11_root n x0 =
  goAt false (kct (KMX11_root n)) (fun v _ => some (v)) (fsX11_root n _) sdX11_root 1000 0 [(0, 1, x0)] [] h := rfl
theorem okX11_root : mokb (mi 33) = true := by decide +kernel
theorem rkX11_root : rkOK 1 (mi 33).1.2.2.2.2.2.2.1 (mi 33).1.2.2.2.1 := Or.inr (Or.inl ⟨rfl, rfl, rfl⟩)
def calX11_root : List Nat := []
theorem foX11_root {l : Launch} {ρ : Type} (n : Nat) : fsOK l false mi calX11_root (fsX11_root n ρ) := trivial
theorem frX11_root {ρ : Type} (n : Nat) : ∀ fn ∈ fsX11_root n ρ, RoF fn := (fun q9 h9 => by cases h9)
theorem ok_sdX11_root : sdb (mi 33).1.2.1 (insOK mi (mi 33).1.1.cls (mi 33).1.2.2.1 (mi 33).1.2.2.2.2.1 (mi 33).1.2.2.2.2.2.1 calX11_root false 1) sdX11_root = true := by decide +kernel
theorem sBX11_root_6 {l : Launch} {h0 : Hp} {v : Int} (h8 : nOf h0 = 148) (n : Nat) (h : Hp) : ∀ (f : Nat) (x0 : Int) (x2 : Int) (x4 : Int) {r : Int}, BX11_root_6 n f x0 x2 x4 = some r → gV v r → PAt l false (mi 33).1 h0 v h 6 [(0, 1, x0), (2, 1, x2), (4, 0, x4)] [] h := by
  intro f
  induction f with
  | zero =>
    intro x0 x2 x4 r H _
    have H2 : (none : Option (Int)) = some r := H
    cases H2
  | succ f ih =>
    intro x0 x2 x4 r H hG
    exact pat_ro ok_sdX11_root rfl rkX11_root h8 (foX11_root n) (frX11_root n) (fun v1 q => by
    cases q
    exact ⟨rfl, fun _ => hG⟩) (List.forall_mem_cons.mpr ⟨(fun a c H => by
      dsimp only at H
      split at H
      · exact ih _ _ _ H hG
      · cases H), (fun q9 h9 => by cases h9)⟩) ((eBX11_root_6 n f x0 x2 x4 h).symm.trans H)
theorem sLX11_root_6 {l : Launch} {h0 : Hp} {v : Int} (h8 : nOf h0 = 148) (n : Nat) (x0 : Int) (x2 : Int) (x4 : Int) (h : Hp) {r : Int} (H : LX11_root_6 n x0 x2 x4 = some r) (hG : gV v r) : PAt l false (mi 33).1 h0 v h 6 [(0, 1, x0), (2, 1, x2), (4, 0, x4)] [] h :=
  sBX11_root_6 h8 n h n x0 x2 x4 H hG
theorem sMX11_root {l : Launch} {h0 : Hp} {v : Int} (h8 : nOf h0 = 148) (n : Nat) (x0 : Int) (h : Hp) {r : Int} (H : MX11_root n x0 = some r) (hG : gV v r) : PAt l false (mi 33).1 h0 v h 0 [(0, 1, x0)] [] h :=
  pat_ro ok_sdX11_root rfl rkX11_root h8 (foX11_root n) (frX11_root n) (fun v1 q => by
    cases q
    exact ⟨rfl, fun _ => hG⟩) (List.forall_mem_cons.mpr ⟨(fun a c H => by
      dsimp only at H
      split at H
      · exact sLX11_root_6 h8 n _ _ _ _ H hG
      · cases H), (fun q9 h9 => by cases h9)⟩) ((eMX11_root n x0 h).symm.trans H)
theorem sndX11_root {ρ : Type} {l : Launch} (n : Nat) : SndF (ρ := ρ) l false (mi 33).1 (wX11_root n) := by
    intro a h k r H ha ho hn hf
    have h8 := hf rfl
    obtain ⟨x0, rfl⟩ := len1 (show a.length = 1 from ha)
    replace H : bndp (MX11_root n x0) (fun r => k r h) = some r := H
    obtain ⟨v2, H1, H2⟩ := bndp_some H
    exact ⟨v2, h, H2, met_mk (mok_base okX11_root).1 (by decide +kernel) (Nat.le_of_ble_eq_true rfl) ho (sMX11_root h8 n x0 h H1 rfl), fun q => by cases q⟩
theorem roX11_root {ρ : Type} (n : Nat) : RoF (wX11_root n : FN ρ) := fun a h k k2 hk => by
  unfold wX11_root
  split
  · exact bndp_ro hk
  · rfl
/-! X0_spin -/
def sdX0_spin : SD := [(0, [(0, .iload_n 3, 1, [], 0), (1, .ifCond .ge 7, 3, [], 0)]),
  (4, [(4, .iconst (-1), 1, [], 0), (5, .goto 4, 3, [], 0)]),
  (8, [(8, .iconst 1, 1, [], 0)]),
  (9, [(9, .istore 4, 2, [], 0), (11, .aload_n 0, 1, [], 0), (12, .iload_n 3, 1, [], 0), (13, .iload 4, 2, [], 0), (15, .imul, 1, [], 0), (16, .iconst 4, 1, [], 0), (17, .invokestatic 64, 3, [1, 0, 3, 261, 929, 0, 0], 0), (20, .putfield 35, 3, [0, 3, 0, 0, 0, 296], 0), (23, .aload_n 0, 1, [], 0), (24, .getfield 9, 3, [0, 0, 284, 1, 290, 0], 1), (27, .iconst 0, 1, [], 0), (28, .iload_n 1, 1, [], 0), (29, .iastore, 1, [], 0), (30, .aload_n 0, 1, [], 0), (31, .getfield 13, 3, [0, 1, 284, 1, 292, 0], 2), (34, .iconst 0, 1, [], 0), (35, .iload_n 2, 1, [], 0), (36, .iastore, 1, [], 0), (37, .iconst 1, 1, [], 0), (38, .istore 5, 2, [], 0)]),
  (40, [(40, .iload 5, 2, [], 0), (42, .aload_n 0, 1, [], 0), (43, .getfield 35, 3, [0, 3, 0, 0, 296, 0], 0), (46, .if_icmp .gt 48, 3, [], 0)]),
  (49, [(49, .aload_n 0, 1, [], 0), (50, .getfield 9, 3, [0, 0, 284, 1, 290, 0], 1), (53, .iload 5, 2, [], 0), (55, .iload 4, 2, [], 0), (57, .ineg, 1, [], 0), (58, .aload_n 0, 1, [], 0), (59, .getfield 13, 3, [0, 1, 284, 1, 292, 0], 2), (62, .iload 5, 2, [], 0), (64, .iconst 1, 1, [], 0), (65, .isub, 1, [], 0), (66, .iaload, 1, [], 0), (67, .imul, 1, [], 0), (68, .iastore, 1, [], 0), (69, .aload_n 0, 1, [], 0), (70, .getfield 13, 3, [0, 1, 284, 1, 292, 0], 2), (73, .iload 5, 2, [], 0), (75, .iload 4, 2, [], 0), (77, .aload_n 0, 1, [], 0), (78, .getfield 9, 3, [0, 0, 284, 1, 290, 0], 1), (81, .iload 5, 2, [], 0), (83, .iconst 1, 1, [], 0), (84, .isub, 1, [], 0), (85, .iaload, 1, [], 0), (86, .imul, 1, [], 0), (87, .iastore, 1, [], 0), (88, .iinc 5 1, 3, [], 0), (91, .goto (-51), 3, [], 0)]),
  (94, [(94, .return_, 1, [], 0)])]
def BX0_spin_40 (n : Nat) : Nat → Int → Int → Hp → Option (Hp)
  | 0, _, _, _ => none
  | f + 1, x4, x5, h =>
    (if (h 30 3) < x5 then
    (some h)
    else
    (grd (0 ≤ (w32 (x5 - 1)) ∧ (w32 (x5 - 1)) < alen 284)
    (grd (0 ≤ x5 ∧ x5 < alen 284)
    (ltt (up h 31 x5 (w32 ((w32 (-x4)) * (h 32 (w32 (x5 - 1)))))) fun h1 =>
    (grd (0 ≤ (w32 (x5 - 1)) ∧ (w32 (x5 - 1)) < alen 284)
    (grd (0 ≤ x5 ∧ x5 < alen 284)
    (ltt (up h1 32 x5 (w32 (x4 * (h1 31 (w32 (x5 - 1)))))) fun h2 =>
    (ltt (w32 (x5 + 1)) fun y1 =>
    (BX0_spin_40 n f x4 y1 h2)))))))))
def LX0_spin_40 (n : Nat) (x4 x5 : Int) (h : Hp) : Option (Hp) :=
(BX0_spin_40 n n x4 x5 h)
def JX0_spin_9 (n : Nat) (x1 x2 x3 z0 : Int) (h : Hp) : Option (Hp) :=
(ltt z0 fun y1 =>
(ltt (up h 30 3 (min (w32 (x3 * y1)) 4)) fun h1 =>
(grd (0 ≤ 0 ∧ 0 < alen 284)
(ltt (up h1 31 0 x1) fun h2 =>
(grd (0 ≤ 0 ∧ 0 < alen 284)
(ltt (up h2 32 0 x2) fun h3 =>
(ltt 1 fun y2 =>
(LX0_spin_40 n y1 y2 h3))))))))
def MX0_spin (n : Nat) (x1 x2 x3 : Int) (h : Hp) : Option (Hp) :=
(if 0 ≤ x3 then
(JX0_spin_9 n x1 x2 x3 1 h)
else
(JX0_spin_9 n x1 x2 x3 (-1) h))
def wX0_spin {ρ : Type} (n : Nat) : FN ρ := fun a h k => match a with
  | [_, x1, x2, x3] => bndh (MX0_spin n x1 x2 x3 h) (fun h2 => k 0 h2)
  | _ => none
def fsX0_spin (n : Nat) (ρ : Type) : List (FN ρ) := [fmin]
def KBX0_spin_40 (_ : Nat) (bk : Int → Int → Hp → Option (Hp)) : CT (Hp) := [(40, [(0, 4, (some 30)), (4, 0, none), (5, 0, none)], [], fun a c h => match a, c with
    | [x4, x5], [] => bk x4 x5 h
    | _, _ => none)]
set_option maxRecDepth 100000 in
theorem eBX0_spin_40 (n f : Nat) (x4 : Int) (x5 : Int) (h : Hp) : BX0_spin_40 n (f + 1) x4 x5 h =
  goAt false (kct (KBX0_spin_40 n (BX0_spin_40 n f))) (fun _ h => some (h)) (fsX0_spin n _) sdX0_spin 1000 40 [(0, 4, 30), (4, 0, x4), (5, 0, x5)] [] h := rfl
def KJX0_spin_9 (n : Nat) : CT (Hp) := [(40, [(0, 4, (some 30)), (4, 0, none), (5, 0, none)], [], fun a c h => match a, c with
    | [x4, x5], [] => LX0_spin_40 n x4 x5 h
    | _, _ => none)]
set_option maxRecDepth 100000 in
theorem eJX0_spin_9 (n : Nat) (x1 : Int) (x2 : Int) (x3 : Int) (z0 : Int) (h : Hp) : JX0_spin_9 n x1 x2 x3 z0 h =
  goAt false (kct (KJX0_spin_9 n)) (fun _ h => some (h)) (fsX0_spin n _) sdX0_spin 1000 9 [(0, 4, 30), (1, 0, x1), (2, 0, x2), (3, 0, x3)] [(0, z0)] h := rfl
def KMX0_spin (n : Nat) : CT (Hp) := [(9, [(0, 4, (some 30)), (1, 0, none), (2, 0, none), (3, 0, none)], [(0, none)], fun a c h => match a, c with
    | [x1, x2, x3], [z0] => JX0_spin_9 n x1 x2 x3 z0 h
    | _, _ => none)]
set_option maxRecDepth 100000 in
theorem eMX0_spin (n : Nat) (x1 : Int) (x2 : Int) (x3 : Int) (h : Hp) : MX0_spin n x1 x2 x3 h =
  goAt false (kct (KMX0_spin n)) (fun _ h => some (h)) (fsX0_spin n _) sdX0_spin 1000 0 [(0, 4, 30), (1, 0, x1), (2, 0, x2), (3, 0, x3)] [] h := rfl
theorem okX0_spin : mokb (mi 34) = true := by decide +kernel
theorem rkX0_spin : rkOK 0 (mi 34).1.2.2.2.2.2.2.1 (mi 34).1.2.2.2.1 := Or.inl ⟨rfl, rfl, rfl⟩
def calX0_spin : List Nat := [261]
theorem foX0_spin {l : Launch} {ρ : Type} (n : Nat) : fsOK l false mi calX0_spin (fsX0_spin n ρ) := ⟨snd_mmin, trivial⟩
theorem ok_sdX0_spin : sdb (mi 34).1.2.1 (insOK mi (mi 34).1.1.cls (mi 34).1.2.2.1 (mi 34).1.2.2.2.2.1 (mi 34).1.2.2.2.2.2.1 calX0_spin false 0) sdX0_spin = true := by decide +kernel
theorem sBX0_spin_40 {l : Launch} {h0 h' : Hp} {v : Int} (h8 : nOf h0 = 148) (n : Nat) : ∀ (f : Nat) (x4 : Int) (x5 : Int) (h : Hp) {r : Hp}, BX0_spin_40 n f x4 x5 h = some r → gW h' r → PAt l false (mi 34).1 h0 v h' 40 [(0, 4, 30), (4, 0, x4), (5, 0, x5)] [] h := by
  intro f
  induction f with
  | zero =>
    intro x4 x5 h r H _
    have H2 : (none : Option (Hp)) = some r := H
    cases H2
  | succ f ih =>
    intro x4 x5 h r H hG
    exact pat_w ok_sdX0_spin rkX0_spin h8 (foX0_spin n) (fun v1 h1 q => by
    cases q
    exact ⟨hG, fun q9 => absurd rfl q9⟩) (List.forall_mem_cons.mpr ⟨(fun a c h H => by
      dsimp only at H
      split at H
      · exact ih _ _ _ H hG
      · cases H), (fun q9 h9 => by cases h9)⟩) ((eBX0_spin_40 n f x4 x5 h).symm.trans H)
theorem sLX0_spin_40 {l : Launch} {h0 h' : Hp} {v : Int} (h8 : nOf h0 = 148) (n : Nat) (x4 : Int) (x5 : Int) (h : Hp) {r : Hp} (H : LX0_spin_40 n x4 x5 h = some r) (hG : gW h' r) : PAt l false (mi 34).1 h0 v h' 40 [(0, 4, 30), (4, 0, x4), (5, 0, x5)] [] h :=
  sBX0_spin_40 h8 n n x4 x5 h H hG
theorem sJX0_spin_9 {l : Launch} {h0 h' : Hp} {v : Int} (h8 : nOf h0 = 148) (n : Nat) (x1 : Int) (x2 : Int) (x3 : Int) (z0 : Int) (h : Hp) {r : Hp} (H : JX0_spin_9 n x1 x2 x3 z0 h = some r) (hG : gW h' r) : PAt l false (mi 34).1 h0 v h' 9 [(0, 4, 30), (1, 0, x1), (2, 0, x2), (3, 0, x3)] [(0, z0)] h :=
  pat_w ok_sdX0_spin rkX0_spin h8 (foX0_spin n) (fun v1 h1 q => by
    cases q
    exact ⟨hG, fun q9 => absurd rfl q9⟩) (List.forall_mem_cons.mpr ⟨(fun a c h H => by
      dsimp only at H
      split at H
      · exact sLX0_spin_40 h8 n _ _ _ H hG
      · cases H), (fun q9 h9 => by cases h9)⟩) ((eJX0_spin_9 n x1 x2 x3 z0 h).symm.trans H)
theorem sMX0_spin {l : Launch} {h0 h' : Hp} {v : Int} (h8 : nOf h0 = 148) (n : Nat) (x1 : Int) (x2 : Int) (x3 : Int) (h : Hp) {r : Hp} (H : MX0_spin n x1 x2 x3 h = some r) (hG : gW h' r) : PAt l false (mi 34).1 h0 v h' 0 [(0, 4, 30), (1, 0, x1), (2, 0, x2), (3, 0, x3)] [] h :=
  pat_w ok_sdX0_spin rkX0_spin h8 (foX0_spin n) (fun v1 h1 q => by
    cases q
    exact ⟨hG, fun q9 => absurd rfl q9⟩) (List.forall_mem_cons.mpr ⟨(fun a c h H => by
      dsimp only at H
      split at H
      · exact sJX0_spin_9 h8 n _ _ _ _ _ H hG
      · cases H), (fun q9 h9 => by cases h9)⟩) ((eMX0_spin n x1 x2 x3 h).symm.trans H)
theorem sndX0_spin {ρ : Type} {l : Launch} (n : Nat) : SndF (ρ := ρ) l false (mi 34).1 (wX0_spin n) := by
    intro a h k r H ha ho hn hf
    have h8 := hf rfl
    obtain ⟨x0, x1, x2, x3, rfl⟩ := len4 (show a.length = 4 from ha)
    have u0 := uq4 hn (ho (4, x0) (List.mem_cons_self))
    subst u0
    replace H : bndh (MX0_spin n x1 x2 x3 h) (fun h2 => k 0 h2) = some r := H
    obtain ⟨h2, H1, H2⟩ := bndh_some H
    exact ⟨0, h2, H2, met_mk (mok_base okX0_spin).1 (by decide +kernel) (Nat.le_of_ble_eq_true rfl) ho (sMX0_spin h8 n x1 x2 x3 h H1 rfl), fun q => by cases q⟩
/-! X0_isCoarse -/
def sdX0_isCoarse : SD := [(0, [(0, .aload_n 0, 1, [], 0), (1, .getfield 9, 3, [0, 0, 284, 1, 290, 0], 1), (4, .iconst 0, 1, [], 0), (5, .iaload, 1, [], 0), (6, .i2l, 1, [], 0), (7, .aload_n 0, 1, [], 0), (8, .getfield 9, 3, [0, 0, 284, 1, 290, 0], 1), (11, .iconst 1, 1, [], 0), (12, .iaload, 1, [], 0), (13, .i2l, 1, [], 0), (14, .ladd, 1, [], 0), (15, .invokestatic 38, 3, [2, 0, 4, 32, 921, 1], 0), (18, .aload_n 0, 1, [], 0), (19, .getfield 13, 3, [0, 1, 284, 1, 292, 0], 2), (22, .iconst 0, 1, [], 0), (23, .iaload, 1, [], 0), (24, .i2l, 1, [], 0), (25, .aload_n 0, 1, [], 0), (26, .getfield 13, 3, [0, 1, 284, 1, 292, 0], 2), (29, .iconst 1, 1, [], 0), (30, .iaload, 1, [], 0), (31, .i2l, 1, [], 0), (32, .ladd, 1, [], 0), (33, .invokestatic 38, 3, [2, 0, 4, 32, 921, 1], 0), (36, .ladd, 1, [], 0), (37, .invokestatic 44, 3, [1, 1, 4, 33, 924, 1], 0), (40, .iconst 2, 1, [], 0), (41, .idiv, 1, [], 0), (42, .istore_n 3, 1, [], 0), (43, .iload_n 1, 1, [], 0), (44, .iload_n 3, 1, [], 0), (45, .isub, 1, [], 0), (46, .iload_n 2, 1, [], 0), (47, .if_icmp .le 7, 3, [], 0)]),
  (50, [(50, .iconst 1, 1, [], 0), (51, .goto 4, 3, [], 0)]),
  (54, [(54, .iconst 0, 1, [], 0)]),
  (55, [(55, .ireturn, 1, [1], 0)])]
def MX0_isCoarse (n : Nat) (x1 x2 : Int) (h : Hp) : Option (Int) :=
(grd (0 ≤ 0 ∧ 0 < alen 284)
(grd (0 ≤ 1 ∧ 1 < alen 284)
(bndp (MX11_square (w64 ((h 31 0) + (h 31 1)))) fun r1 =>
(grd (0 ≤ 0 ∧ 0 < alen 284)
(grd (0 ≤ 1 ∧ 1 < alen 284)
(bndp (MX11_square (w64 ((h 32 0) + (h 32 1)))) fun r2 =>
(bndp (MX11_root n (w64 (r1 + r2))) fun r3 =>
(grd (¬ 2 = 0)
(ltt (w32 (Int.tdiv r3 2)) fun y1 =>
(if (w32 (x1 - y1)) ≤ x2 then
(some 0)
else
(some 1)))))))))))
def wX0_isCoarse {ρ : Type} (n : Nat) : FN ρ := fun a h k => match a with
  | [_, x1, x2] => bndp (MX0_isCoarse n x1 x2 h) (fun r => k r h)
  | _ => none
def fsX0_isCoarse (n : Nat) (ρ : Type) : List (FN ρ) := [wX11_square, wX11_root n]
def KMX0_isCoarse (_ : Nat) : CT (Int) := []
set_option maxRecDepth 100000 in
theorem eMX0_isCoarse (n : Nat) (x1 : Int) (x2 : Int) (h : Hp) : MX0_isCoarse n x1 x2 h =
  goAt false (kct (KMX0_isCoarse n)) (fun v _ => some (v)) (fsX0_isCoarse n _) sdX0_isCoarse 1000 0 [(0, 4, 30), (1, 0, x1), (2, 0, x2)] [] h := rfl
theorem okX0_isCoarse : mokb (mi 35) = true := by decide +kernel
theorem rkX0_isCoarse : rkOK 4 (mi 35).1.2.2.2.2.2.2.1 (mi 35).1.2.2.2.1 := Or.inr (Or.inr (Or.inl ⟨rfl, rfl, rfl⟩))
def calX0_isCoarse : List Nat := [32, 33]
theorem foX0_isCoarse {l : Launch} {ρ : Type} (n : Nat) : fsOK l false mi calX0_isCoarse (fsX0_isCoarse n ρ) := ⟨sndX11_square, ⟨(sndX11_root n), trivial⟩⟩
theorem frX0_isCoarse {ρ : Type} (n : Nat) : ∀ fn ∈ fsX0_isCoarse n ρ, RoF fn := (List.forall_mem_cons.mpr ⟨roX11_square, (List.forall_mem_cons.mpr ⟨(roX11_root n), (fun q9 h9 => by cases h9)⟩)⟩)
theorem ok_sdX0_isCoarse : sdb (mi 35).1.2.1 (insOK mi (mi 35).1.1.cls (mi 35).1.2.2.1 (mi 35).1.2.2.2.2.1 (mi 35).1.2.2.2.2.2.1 calX0_isCoarse false 4) sdX0_isCoarse = true := by decide +kernel
theorem sMX0_isCoarse {l : Launch} {h0 : Hp} {v : Int} (h8 : nOf h0 = 148) (n : Nat) (x1 : Int) (x2 : Int) (h : Hp) {r : Int} (H : MX0_isCoarse n x1 x2 h = some r) (hG : gV v r) : PAt l false (mi 35).1 h0 v h 0 [(0, 4, 30), (1, 0, x1), (2, 0, x2)] [] h :=
  pat_ro ok_sdX0_isCoarse rfl rkX0_isCoarse h8 (foX0_isCoarse n) (frX0_isCoarse n) (fun v1 q => by
    cases q
    exact ⟨rfl, fun _ => hG⟩) (fun q9 h9 => by cases h9) ((eMX0_isCoarse n x1 x2 h).symm.trans H)
theorem sndX0_isCoarse {ρ : Type} {l : Launch} (n : Nat) : SndF (ρ := ρ) l false (mi 35).1 (wX0_isCoarse n) := by
    intro a h k r H ha ho hn hf
    have h8 := hf rfl
    obtain ⟨x0, x1, x2, rfl⟩ := len3 (show a.length = 3 from ha)
    have u0 := uq4 hn (ho (4, x0) (List.mem_cons_self))
    subst u0
    replace H : bndp (MX0_isCoarse n x1 x2 h) (fun r => k r h) = some r := H
    obtain ⟨v2, H1, H2⟩ := bndp_some H
    exact ⟨v2, h, H2, met_mk (mok_base okX0_isCoarse).1 (by decide +kernel) (Nat.le_of_ble_eq_true rfl) ho (sMX0_isCoarse h8 n x1 x2 h H1 rfl), fun q => by cases q⟩
theorem roX0_isCoarse {ρ : Type} (n : Nat) : RoF (wX0_isCoarse n : FN ρ) := fun a h k k2 hk => by
  unfold wX0_isCoarse
  split
  · exact bndp_ro hk
  · rfl
/-! X11_share -/
def sdX11_share : SD := [(0, [(0, .lload_n 2, 1, [], 0), (1, .lconst 0, 1, [], 0), (2, .lcmp, 1, [], 0), (3, .ifCond .ne 7, 3, [], 0)]),
  (6, [(6, .iconst 0, 1, [], 0), (7, .goto 7, 3, [], 0)]),
  (10, [(10, .lload_n 0, 1, [], 0), (11, .lload_n 2, 1, [], 0), (12, .ldiv, 1, [], 0), (13, .l2i, 1, [], 0)]),
  (14, [(14, .ireturn, 1, [], 0)])]
def MX11_share (x0 x2 : Int) : Option (Int) :=
(if (lcp x2 0) ≠ 0 then
(grd (¬ x2 = 0)
(some (w32 (w64 (Int.tdiv x0 x2)))))
else
(some 0))
def wX11_share {ρ : Type} : FN ρ := fun a h k => match a with
  | [x0, x2] => bndp (MX11_share x0 x2) (fun r => k r h)
  | _ => none
def fsX11_share (ρ : Type) : List (FN ρ) := []
def KMX11_share  : CT (Int) := []
set_option maxRecDepth 100000 in
theorem eMX11_share (x0 : Int) (x2 : Int) (h : Hp) : MX11_share x0 x2 =
  goAt false (kct (KMX11_share)) (fun v _ => some (v)) (fsX11_share _) sdX11_share 1000 0 [(0, 1, x0), (2, 1, x2)] [] h := rfl
theorem okX11_share : mokb (mi 36) = true := by decide +kernel
theorem rkX11_share : rkOK 1 (mi 36).1.2.2.2.2.2.2.1 (mi 36).1.2.2.2.1 := Or.inr (Or.inl ⟨rfl, rfl, rfl⟩)
def calX11_share : List Nat := []
theorem foX11_share {l : Launch} {ρ : Type} : fsOK l false mi calX11_share (fsX11_share ρ) := trivial
theorem frX11_share {ρ : Type} : ∀ fn ∈ fsX11_share ρ, RoF fn := (fun q9 h9 => by cases h9)
theorem ok_sdX11_share : sdb (mi 36).1.2.1 (insOK mi (mi 36).1.1.cls (mi 36).1.2.2.1 (mi 36).1.2.2.2.2.1 (mi 36).1.2.2.2.2.2.1 calX11_share false 1) sdX11_share = true := by decide +kernel
theorem sMX11_share {l : Launch} {h0 : Hp} {v : Int} (h8 : nOf h0 = 148)  (x0 : Int) (x2 : Int) (h : Hp) {r : Int} (H : MX11_share x0 x2 = some r) (hG : gV v r) : PAt l false (mi 36).1 h0 v h 0 [(0, 1, x0), (2, 1, x2)] [] h :=
  pat_ro ok_sdX11_share rfl rkX11_share h8 (foX11_share) (frX11_share) (fun v1 q => by
    cases q
    exact ⟨rfl, fun _ => hG⟩) (fun q9 h9 => by cases h9) ((eMX11_share x0 x2 h).symm.trans H)
theorem sndX11_share {ρ : Type} {l : Launch} : SndF (ρ := ρ) l false (mi 36).1 (wX11_share) := by
    intro a h k r H ha ho hn hf
    have h8 := hf rfl
    obtain ⟨x0, x2, rfl⟩ := len2 (show a.length = 2 from ha)
    replace H : bndp (MX11_share x0 x2) (fun r => k r h) = some r := H
    obtain ⟨v2, H1, H2⟩ := bndp_some H
    exact ⟨v2, h, H2, met_mk (mok_base okX11_share).1 (by decide +kernel) (Nat.le_of_ble_eq_true rfl) ho (sMX11_share h8 x0 x2 h H1 rfl), fun q => by cases q⟩
theorem roX11_share {ρ : Type} : RoF (wX11_share : FN ρ) := fun a h k k2 hk => by
  unfold wX11_share
  split
  · exact bndp_ro hk
  · rfl
/-! X0_halve -/
def sdX0_halve : SD := [(0, [(0, .aload_n 0, 1, [], 0), (1, .getfield 35, 3, [0, 3, 0, 0, 296, 0], 0), (4, .iconst 2, 1, [], 0), (5, .imul, 1, [], 0), (6, .bipush 33, 2, [], 0), (8, .if_icmp .lt 4, 3, [], 0)]),
  (11, [(11, .return_, 1, [], 0)]),
  (12, [(12, .aload_n 0, 1, [], 0), (13, .getfield 35, 3, [0, 3, 0, 0, 296, 0], 0), (16, .istore_n 2, 1, [], 0)]),
  (17, [(17, .iload_n 2, 1, [], 0), (18, .ifCond .le 37, 3, [], 0)]),
  (21, [(21, .aload_n 0, 1, [], 0), (22, .getfield 9, 3, [0, 0, 284, 1, 290, 0], 1), (25, .iconst 2, 1, [], 0), (26, .iload_n 2, 1, [], 0), (27, .imul, 1, [], 0), (28, .aload_n 0, 1, [], 0), (29, .getfield 9, 3, [0, 0, 284, 1, 290, 0], 1), (32, .iload_n 2, 1, [], 0), (33, .iaload, 1, [], 0), (34, .iastore, 1, [], 0), (35, .aload_n 0, 1, [], 0), (36, .getfield 13, 3, [0, 1, 284, 1, 292, 0], 2), (39, .iconst 2, 1, [], 0), (40, .iload_n 2, 1, [], 0), (41, .imul, 1, [], 0), (42, .aload_n 0, 1, [], 0), (43, .getfield 13, 3, [0, 1, 284, 1, 292, 0], 2), (46, .iload_n 2, 1, [], 0), (47, .iaload, 1, [], 0), (48, .iastore, 1, [], 0), (49, .iinc 2 (-1), 3, [], 0), (52, .goto (-35), 3, [], 0)]),
  (55, [(55, .aload_n 0, 1, [], 0), (56, .dup, 1, [], 0), (57, .getfield 35, 3, [0, 3, 0, 0, 296, 0], 0), (60, .iconst 2, 1, [], 0), (61, .imul, 1, [], 0), (62, .putfield 35, 3, [0, 3, 0, 0, 0, 296], 0), (65, .iconst 1, 1, [], 0), (66, .istore_n 2, 1, [], 0)]),
  (67, [(67, .iload_n 2, 1, [], 0), (68, .aload_n 0, 1, [], 0), (69, .getfield 35, 3, [0, 3, 0, 0, 296, 0], 0), (72, .if_icmp .ge 97, 3, [], 0)]),
  (75, [(75, .aload_n 0, 1, [], 0), (76, .getfield 9, 3, [0, 0, 284, 1, 290, 0], 1), (79, .iload_n 2, 1, [], 0), (80, .iconst 1, 1, [], 0), (81, .isub, 1, [], 0), (82, .iaload, 1, [], 0), (83, .i2l, 1, [], 0), (84, .aload_n 0, 1, [], 0), (85, .getfield 9, 3, [0, 0, 284, 1, 290, 0], 1), (88, .iload_n 2, 1, [], 0), (89, .iconst 1, 1, [], 0), (90, .iadd, 1, [], 0), (91, .iaload, 1, [], 0), (92, .i2l, 1, [], 0), (93, .ladd, 1, [], 0), (94, .lstore_n 3, 1, [], 0), (95, .aload_n 0, 1, [], 0), (96, .getfield 13, 3, [0, 1, 284, 1, 292, 0], 2), (99, .iload_n 2, 1, [], 0), (100, .iconst 1, 1, [], 0), (101, .isub, 1, [], 0), (102, .iaload, 1, [], 0), (103, .i2l, 1, [], 0), (104, .aload_n 0, 1, [], 0), (105, .getfield 13, 3, [0, 1, 284, 1, 292, 0], 2), (108, .iload_n 2, 1, [], 0), (109, .iconst 1, 1, [], 0), (110, .iadd, 1, [], 0), (111, .iaload, 1, [], 0), (112, .i2l, 1, [], 0), (113, .ladd, 1, [], 0), (114, .lstore 5, 2, [], 0), (116, .lload_n 3, 1, [], 0), (117, .lload_n 3, 1, [], 0), (118, .lmul, 1, [], 0), (119, .lload 5, 2, [], 0), (121, .lload 5, 2, [], 0), (123, .lmul, 1, [], 0), (124, .ladd, 1, [], 0), (125, .invokestatic 44, 3, [1, 0, 4, 33, 924, 1], 0), (128, .istore 7, 2, [], 0), (130, .aload_n 0, 1, [], 0), (131, .getfield 9, 3, [0, 0, 284, 1, 290, 0], 1), (134, .iload_n 2, 1, [], 0), (135, .lload_n 3, 1, [], 0), (136, .iload_n 1, 1, [], 0), (137, .i2l, 1, [], 0), (138, .lmul, 1, [], 0), (139, .iload 7, 2, [], 0), (141, .i2l, 1, [], 0), (142, .invokestatic 60, 3, [1, 1, 4, 36, 938, 1, 1], 0), (145, .iastore, 1, [], 0), (146, .aload_n 0, 1, [], 0), (147, .getfield 13, 3, [0, 1, 284, 1, 292, 0], 2), (150, .iload_n 2, 1, [], 0), (151, .lload 5, 2, [], 0), (153, .iload_n 1, 1, [], 0), (154, .i2l, 1, [], 0), (155, .lmul, 1, [], 0), (156, .iload 7, 2, [], 0), (158, .i2l, 1, [], 0), (159, .invokestatic 60, 3, [1, 1, 4, 36, 938, 1, 1], 0), (162, .iastore, 1, [], 0), (163, .iinc 2 2, 3, [], 0), (166, .goto (-99), 3, [], 0)]),
  (169, [(169, .return_, 1, [], 0)])]
def BX0_halve_17 (n : Nat) : Nat → Int → Int → Hp → Option (Int × Hp)
  | 0, _, _, _ => none
  | f + 1, x1, x2, h =>
    (if x2 ≤ 0 then
    (some (x1, h))
    else
    (grd (0 ≤ x2 ∧ x2 < alen 284)
    (grd (0 ≤ (w32 (2 * x2)) ∧ (w32 (2 * x2)) < alen 284)
    (ltt (up h 31 (w32 (2 * x2)) (h 31 x2)) fun h1 =>
    (grd (0 ≤ x2 ∧ x2 < alen 284)
    (grd (0 ≤ (w32 (2 * x2)) ∧ (w32 (2 * x2)) < alen 284)
    (ltt (up h1 32 (w32 (2 * x2)) (h1 32 x2)) fun h2 =>
    (ltt (w32 (x2 + (-1))) fun y1 =>
    (BX0_halve_17 n f x1 y1 h2)))))))))
def BX0_halve_67 (n : Nat) : Nat → Int → Int → Hp → Option (Hp)
  | 0, _, _, _ => none
  | f + 1, x1, x2, h =>
    (if (h 30 3) ≤ x2 then
    (some h)
    else
    (grd (0 ≤ (w32 (x2 - 1)) ∧ (w32 (x2 - 1)) < alen 284)
    (grd (0 ≤ (w32 (x2 + 1)) ∧ (w32 (x2 + 1)) < alen 284)
    (ltt (w64 ((h 31 (w32 (x2 - 1))) + (h 31 (w32 (x2 + 1))))) fun y1 =>
    (grd (0 ≤ (w32 (x2 - 1)) ∧ (w32 (x2 - 1)) < alen 284)
    (grd (0 ≤ (w32 (x2 + 1)) ∧ (w32 (x2 + 1)) < alen 284)
    (ltt (w64 ((h 32 (w32 (x2 - 1))) + (h 32 (w32 (x2 + 1))))) fun y2 =>
    (bndp (MX11_root n (w64 ((w64 (y1 * y1)) + (w64 (y2 * y2))))) fun r1 =>
    (ltt r1 fun y3 =>
    (bndp (MX11_share (w64 (y1 * x1)) y3) fun r2 =>
    (grd (0 ≤ x2 ∧ x2 < alen 284)
    (ltt (up h 31 x2 r2) fun h1 =>
    (bndp (MX11_share (w64 (y2 * x1)) y3) fun r3 =>
    (grd (0 ≤ x2 ∧ x2 < alen 284)
    (ltt (up h1 32 x2 r3) fun h2 =>
    (ltt (w32 (x2 + 2)) fun y4 =>
    (BX0_halve_67 n f x1 y4 h2)))))))))))))))))
def LX0_halve_67 (n : Nat) (x1 x2 : Int) (h : Hp) : Option (Hp) :=
(BX0_halve_67 n n x1 x2 h)
def JX0_halve_55 (n : Nat) (x1 : Int) (h : Hp) : Option (Hp) :=
(ltt (up h 30 3 (w32 ((h 30 3) * 2))) fun h1 =>
(ltt 1 fun y1 =>
(LX0_halve_67 n x1 y1 h1)))
def LX0_halve_17 (n : Nat) (x1 x2 : Int) (h : Hp) : Option (Hp) :=
(bndx (BX0_halve_17 n n x1 x2 h) fun (e1, h1) =>
(JX0_halve_55 n e1 h1))
def MX0_halve (n : Nat) (x1 : Int) (h : Hp) : Option (Hp) :=
(if (w32 ((h 30 3) * 2)) < 33 then
(ltt (h 30 3) fun y1 =>
(LX0_halve_17 n x1 y1 h))
else
(some h))
def wX0_halve {ρ : Type} (n : Nat) : FN ρ := fun a h k => match a with
  | [_, x1] => bndh (MX0_halve n x1 h) (fun h2 => k 0 h2)
  | _ => none
def fsX0_halve (n : Nat) (ρ : Type) : List (FN ρ) := [wX11_root n, wX11_share]
def KBX0_halve_17 (_ : Nat) (bk : Int → Int → Hp → Option (Int × Hp)) : CT (Int × Hp) := [(17, [(0, 4, (some 30)), (1, 0, none), (2, 0, none)], [], fun a c h => match a, c with
    | [x1, x2], [] => bk x1 x2 h
    | _, _ => none),
  (55, [(0, 4, (some 30)), (1, 0, none)], [], fun a c h => match a, c with
    | [x1], [] => some (x1, h)
    | _, _ => none)]
set_option maxRecDepth 100000 in
theorem eBX0_halve_17 (n f : Nat) (x1 : Int) (x2 : Int) (h : Hp) : BX0_halve_17 n (f + 1) x1 x2 h =
  goAt false (kct (KBX0_halve_17 n (BX0_halve_17 n f))) (fun _ _ => none) (fsX0_halve n _) sdX0_halve 1000 17 [(0, 4, 30), (1, 0, x1), (2, 0, x2)] [] h := rfl
def KBX0_halve_67 (_ : Nat) (bk : Int → Int → Hp → Option (Hp)) : CT (Hp) := [(67, [(0, 4, (some 30)), (1, 0, none), (2, 0, none)], [], fun a c h => match a, c with
    | [x1, x2], [] => bk x1 x2 h
    | _, _ => none)]
set_option maxRecDepth 100000 in
theorem eBX0_halve_67 (n f : Nat) (x1 : Int) (x2 : Int) (h : Hp) : BX0_halve_67 n (f + 1) x1 x2 h =
  goAt false (kct (KBX0_halve_67 n (BX0_halve_67 n f))) (fun _ h => some (h)) (fsX0_halve n _) sdX0_halve 1000 67 [(0, 4, 30), (1, 0, x1), (2, 0, x2)] [] h := rfl
def KJX0_halve_55 (n : Nat) : CT (Hp) := [(67, [(0, 4, (some 30)), (1, 0, none), (2, 0, none)], [], fun a c h => match a, c with
    | [x1, x2], [] => LX0_halve_67 n x1 x2 h
    | _, _ => none)]
set_option maxRecDepth 100000 in
theorem eJX0_halve_55 (n : Nat) (x1 : Int) (h : Hp) : JX0_halve_55 n x1 h =
  goAt false (kct (KJX0_halve_55 n)) (fun _ h => some (h)) (fsX0_halve n _) sdX0_halve 1000 55 [(0, 4, 30), (1, 0, x1)] [] h := rfl
def KMX0_halve (n : Nat) : CT (Hp) := [(17, [(0, 4, (some 30)), (1, 0, none), (2, 0, none)], [], fun a c h => match a, c with
    | [x1, x2], [] => LX0_halve_17 n x1 x2 h
    | _, _ => none)]
set_option maxRecDepth 100000 in
theorem eMX0_halve (n : Nat) (x1 : Int) (h : Hp) : MX0_halve n x1 h =
  goAt false (kct (KMX0_halve n)) (fun _ h => some (h)) (fsX0_halve n _) sdX0_halve 1000 0 [(0, 4, 30), (1, 0, x1)] [] h := rfl
theorem okX0_halve : mokb (mi 37) = true := by decide +kernel
theorem rkX0_halve : rkOK 0 (mi 37).1.2.2.2.2.2.2.1 (mi 37).1.2.2.2.1 := Or.inl ⟨rfl, rfl, rfl⟩
def calX0_halve : List Nat := [33, 36]
theorem foX0_halve {l : Launch} {ρ : Type} (n : Nat) : fsOK l false mi calX0_halve (fsX0_halve n ρ) := ⟨(sndX11_root n), ⟨sndX11_share, trivial⟩⟩
theorem ok_sdX0_halve : sdb (mi 37).1.2.1 (insOK mi (mi 37).1.1.cls (mi 37).1.2.2.1 (mi 37).1.2.2.2.2.1 (mi 37).1.2.2.2.2.2.1 calX0_halve false 0) sdX0_halve = true := by decide +kernel
def GX0_halve_17 (l : Launch) (h0 : Hp) (h' : Hp) (v : Int) (_ : Hp) : (Int × Hp) → Prop
  | (e1, h1) => PAt l false (mi 37).1 h0 v h' 55 [(0, 4, 30), (1, 0, e1)] [] h1
theorem sBX0_halve_17 {l : Launch} {h0 h' : Hp} {v : Int} (h8 : nOf h0 = 148) (n : Nat) : ∀ (f : Nat) (x1 : Int) (x2 : Int) (h : Hp) {r : Int × Hp}, BX0_halve_17 n f x1 x2 h = some r → GX0_halve_17 l h0 h' v h r → PAt l false (mi 37).1 h0 v h' 17 [(0, 4, 30), (1, 0, x1), (2, 0, x2)] [] h := by
  intro f
  induction f with
  | zero =>
    intro x1 x2 h r H _
    have H2 : (none : Option (Int × Hp)) = some r := H
    cases H2
  | succ f ih =>
    intro x1 x2 h r H hG
    exact pat_w ok_sdX0_halve rkX0_halve h8 (foX0_halve n) (fun v1 h1 q => by cases q) (List.forall_mem_cons.mpr ⟨(fun a c h H => by
      dsimp only at H
      split at H
      · exact ih _ _ _ H hG
      · cases H), (List.forall_mem_cons.mpr ⟨(fun a c h H => by
      dsimp only at H
      split at H
      · cases H
        exact hG
      · cases H), (fun q9 h9 => by cases h9)⟩)⟩) ((eBX0_halve_17 n f x1 x2 h).symm.trans H)
theorem sBX0_halve_67 {l : Launch} {h0 h' : Hp} {v : Int} (h8 : nOf h0 = 148) (n : Nat) : ∀ (f : Nat) (x1 : Int) (x2 : Int) (h : Hp) {r : Hp}, BX0_halve_67 n f x1 x2 h = some r → gW h' r → PAt l false (mi 37).1 h0 v h' 67 [(0, 4, 30), (1, 0, x1), (2, 0, x2)] [] h := by
  intro f
  induction f with
  | zero =>
    intro x1 x2 h r H _
    have H2 : (none : Option (Hp)) = some r := H
    cases H2
  | succ f ih =>
    intro x1 x2 h r H hG
    exact pat_w ok_sdX0_halve rkX0_halve h8 (foX0_halve n) (fun v1 h1 q => by
    cases q
    exact ⟨hG, fun q9 => absurd rfl q9⟩) (List.forall_mem_cons.mpr ⟨(fun a c h H => by
      dsimp only at H
      split at H
      · exact ih _ _ _ H hG
      · cases H), (fun q9 h9 => by cases h9)⟩) ((eBX0_halve_67 n f x1 x2 h).symm.trans H)
theorem sLX0_halve_67 {l : Launch} {h0 h' : Hp} {v : Int} (h8 : nOf h0 = 148) (n : Nat) (x1 : Int) (x2 : Int) (h : Hp) {r : Hp} (H : LX0_halve_67 n x1 x2 h = some r) (hG : gW h' r) : PAt l false (mi 37).1 h0 v h' 67 [(0, 4, 30), (1, 0, x1), (2, 0, x2)] [] h :=
  sBX0_halve_67 h8 n n x1 x2 h H hG
theorem sJX0_halve_55 {l : Launch} {h0 h' : Hp} {v : Int} (h8 : nOf h0 = 148) (n : Nat) (x1 : Int) (h : Hp) {r : Hp} (H : JX0_halve_55 n x1 h = some r) (hG : gW h' r) : PAt l false (mi 37).1 h0 v h' 55 [(0, 4, 30), (1, 0, x1)] [] h :=
  pat_w ok_sdX0_halve rkX0_halve h8 (foX0_halve n) (fun v1 h1 q => by
    cases q
    exact ⟨hG, fun q9 => absurd rfl q9⟩) (List.forall_mem_cons.mpr ⟨(fun a c h H => by
      dsimp only at H
      split at H
      · exact sLX0_halve_67 h8 n _ _ _ H hG
      · cases H), (fun q9 h9 => by cases h9)⟩) ((eJX0_halve_55 n x1 h).symm.trans H)
theorem sLX0_halve_17 {l : Launch} {h0 h' : Hp} {v : Int} (h8 : nOf h0 = 148) (n : Nat) (x1 : Int) (x2 : Int) (h : Hp) {r : Hp} (H : LX0_halve_17 n x1 x2 h = some r) (hG : gW h' r) : PAt l false (mi 37).1 h0 v h' 17 [(0, 4, 30), (1, 0, x1), (2, 0, x2)] [] h := by
  obtain ⟨e9, h2, h3⟩ := bndx_some H
  obtain ⟨e1, h1⟩ := e9
  exact sBX0_halve_17 h8 n n x1 x2 h h2 (sJX0_halve_55 h8 n e1 h1 h3 hG)
theorem sMX0_halve {l : Launch} {h0 h' : Hp} {v : Int} (h8 : nOf h0 = 148) (n : Nat) (x1 : Int) (h : Hp) {r : Hp} (H : MX0_halve n x1 h = some r) (hG : gW h' r) : PAt l false (mi 37).1 h0 v h' 0 [(0, 4, 30), (1, 0, x1)] [] h :=
  pat_w ok_sdX0_halve rkX0_halve h8 (foX0_halve n) (fun v1 h1 q => by
    cases q
    exact ⟨hG, fun q9 => absurd rfl q9⟩) (List.forall_mem_cons.mpr ⟨(fun a c h H => by
      dsimp only at H
      split at H
      · exact sLX0_halve_17 h8 n _ _ _ H hG
      · cases H), (fun q9 h9 => by cases h9)⟩) ((eMX0_halve n x1 h).symm.trans H)
theorem sndX0_halve {ρ : Type} {l : Launch} (n : Nat) : SndF (ρ := ρ) l false (mi 37).1 (wX0_halve n) := by
    intro a h k r H ha ho hn hf
    have h8 := hf rfl
    obtain ⟨x0, x1, rfl⟩ := len2 (show a.length = 2 from ha)
    have u0 := uq4 hn (ho (4, x0) (List.mem_cons_self))
    subst u0
    replace H : bndh (MX0_halve n x1 h) (fun h2 => k 0 h2) = some r := H
    obtain ⟨h2, H1, H2⟩ := bndh_some H
    exact ⟨0, h2, H2, met_mk (mok_base okX0_halve).1 (by decide +kernel) (Nat.le_of_ble_eq_true rfl) ho (sMX0_halve h8 n x1 h H1 rfl), fun q => by cases q⟩
/-! X0_turn -/
def sdX0_turn : SD := [(0, [(0, .aload_n 0, 1, [], 0), (1, .getfield 9, 3, [0, 0, 284, 1, 290, 0], 1), (4, .iconst 0, 1, [], 0), (5, .iaload, 1, [], 0), (6, .iload_n 1, 1, [], 0), (7, .iadd, 1, [], 0), (8, .istore 6, 2, [], 0), (10, .aload_n 0, 1, [], 0), (11, .getfield 13, 3, [0, 1, 284, 1, 292, 0], 2), (14, .iconst 0, 1, [], 0), (15, .iaload, 1, [], 0), (16, .iload_n 2, 1, [], 0), (17, .iadd, 1, [], 0), (18, .istore 7, 2, [], 0), (20, .aload_n 0, 1, [], 0), (21, .getfield 16, 3, [0, 2, 284, 1, 294, 0], 3), (24, .iconst 0, 1, [], 0), (25, .iaload, 1, [], 0), (26, .istore 8, 2, [], 0), (28, .iload_n 1, 1, [], 0), (29, .i2l, 1, [], 0), (30, .invokestatic 38, 3, [2, 0, 4, 32, 921, 1], 0), (33, .iload_n 2, 1, [], 0), (34, .i2l, 1, [], 0), (35, .invokestatic 38, 3, [2, 0, 4, 32, 921, 1], 0), (38, .ladd, 1, [], 0), (39, .invokestatic 44, 3, [1, 1, 4, 33, 924, 1], 0), (42, .istore 9, 2, [], 0), (44, .aload_n 0, 1, [], 0), (45, .iload_n 1, 1, [], 0), (46, .ineg, 1, [], 0), (47, .iload_n 2, 1, [], 0), (48, .ineg, 1, [], 0), (49, .iload_n 3, 1, [], 0), (50, .invokevirtual 48, 3, [0, 2, 1, 34, 925, 0, 0, 0, 4], 0), (53, .iconst 0, 1, [], 0), (54, .istore 10, 2, [], 0)]),
  (56, [(56, .iload 10, 2, [], 0), (58, .iconst 3, 1, [], 0), (59, .if_icmp .ge 26, 3, [], 0)]),
  (62, [(62, .aload_n 0, 1, [], 0), (63, .iload 9, 2, [], 0), (65, .iload 5, 2, [], 0), (67, .invokevirtual 52, 3, [1, 3, 1, 35, 930, 0, 0, 4], 0), (70, .ifCond .eq 15, 3, [], 0)]),
  (73, [(73, .aload_n 0, 1, [], 0), (74, .iload 9, 2, [], 0), (76, .invokevirtual 56, 3, [0, 4, 1, 37, 934, 0, 4], 0), (79, .iinc 10 1, 3, [], 0), (82, .goto (-26), 3, [], 0)]),
  (85, [(85, .iconst 0, 1, [], 0), (86, .istore 10, 2, [], 0)]),
  (88, [(88, .iload 10, 2, [], 0), (90, .aload_n 0, 1, [], 0), (91, .getfield 35, 3, [0, 3, 0, 0, 296, 0], 0), (94, .if_icmp .gt 65, 3, [], 0)]),
  (97, [(97, .iload 10, 2, [], 0), (99, .bipush 33, 2, [], 0), (101, .if_icmp .ge 58, 3, [], 0)]),
  (104, [(104, .aload_n 0, 1, [], 0), (105, .getfield 9, 3, [0, 0, 284, 1, 290, 0], 1), (108, .iload 10, 2, [], 0), (110, .dup2, 1, [], 0), (111, .iaload, 1, [], 0), (112, .iload 6, 2, [], 0), (114, .iadd, 1, [], 0), (115, .iastore, 1, [], 0), (116, .aload_n 0, 1, [], 0), (117, .getfield 13, 3, [0, 1, 284, 1, 292, 0], 2), (120, .iload 10, 2, [], 0), (122, .dup2, 1, [], 0), (123, .iaload, 1, [], 0), (124, .iload 7, 2, [], 0), (126, .iadd, 1, [], 0), (127, .iastore, 1, [], 0), (128, .aload_n 0, 1, [], 0), (129, .getfield 16, 3, [0, 2, 284, 1, 294, 0], 3), (132, .iload 10, 2, [], 0), (134, .iload 8, 2, [], 0), (136, .iload 4, 2, [], 0), (138, .i2l, 1, [], 0), (139, .iload 10, 2, [], 0), (141, .i2l, 1, [], 0), (142, .lmul, 1, [], 0), (143, .aload_n 0, 1, [], 0), (144, .getfield 35, 3, [0, 3, 0, 0, 296, 0], 0), (147, .i2l, 1, [], 0), (148, .invokestatic 60, 3, [1, 5, 4, 36, 938, 1, 1], 0), (151, .iadd, 1, [], 0), (152, .iastore, 1, [], 0), (153, .iinc 10 1, 3, [], 0), (156, .goto (-68), 3, [], 0)]),
  (159, [(159, .return_, 1, [], 0)])]
def BX0_turn_56 (n : Nat) : Nat → Int → Int → Int → Int → Int → Int → Int → Hp → Option (Int × Int × Int × Int × Hp)
  | 0, _, _, _, _, _, _, _, _ => none
  | f + 1, x4, x5, x6, x7, x8, x9, x10, h =>
    (if 3 ≤ x10 then
    (some (x4, x6, x7, x8, h))
    else
    (bndp (MX0_isCoarse n x9 x5 h) fun r1 =>
    (if r1 = 0 then
    (some (x4, x6, x7, x8, h))
    else
    (bndh (MX0_halve n x9 h) fun h1 =>
    (ltt (w32 (x10 + 1)) fun y1 =>
    (BX0_turn_56 n f x4 x5 x6 x7 x8 x9 y1 h1))))))
def BX0_turn_88 (n : Nat) : Nat → Int → Int → Int → Int → Int → Hp → Option (Hp)
  | 0, _, _, _, _, _, _ => none
  | f + 1, x4, x6, x7, x8, x10, h =>
    (if (h 30 3) < x10 then
    (some h)
    else
    (if 33 ≤ x10 then
    (some h)
    else
    (grd (0 ≤ x10 ∧ x10 < alen 284)
    (grd (0 ≤ x10 ∧ x10 < alen 284)
    (ltt (up h 31 x10 (w32 ((h 31 x10) + x6))) fun h1 =>
    (grd (0 ≤ x10 ∧ x10 < alen 284)
    (grd (0 ≤ x10 ∧ x10 < alen 284)
    (ltt (up h1 32 x10 (w32 ((h1 32 x10) + x7))) fun h2 =>
    (bndp (MX11_share (w64 (x4 * x10)) (h2 30 3)) fun r1 =>
    (grd (0 ≤ x10 ∧ x10 < alen 284)
    (ltt (up h2 33 x10 (w32 (x8 + r1))) fun h3 =>
    (ltt (w32 (x10 + 1)) fun y1 =>
    (BX0_turn_88 n f x4 x6 x7 x8 y1 h3)))))))))))))
def LX0_turn_88 (n : Nat) (x4 x6 x7 x8 x10 : Int) (h : Hp) : Option (Hp) :=
(BX0_turn_88 n n x4 x6 x7 x8 x10 h)
def JX0_turn_85 (n : Nat) (x4 x6 x7 x8 : Int) (h : Hp) : Option (Hp) :=
(ltt 0 fun y1 =>
(LX0_turn_88 n x4 x6 x7 x8 y1 h))
def LX0_turn_56 (n : Nat) (x4 x5 x6 x7 x8 x9 x10 : Int) (h : Hp) : Option (Hp) :=
(bndx (BX0_turn_56 n n x4 x5 x6 x7 x8 x9 x10 h) fun (e4, e6, e7, e8, h1) =>
(JX0_turn_85 n e4 e6 e7 e8 h1))
def MX0_turn (n : Nat) (x1 x2 x3 x4 x5 : Int) (h : Hp) : Option (Hp) :=
(grd (0 ≤ 0 ∧ 0 < alen 284)
(ltt (w32 ((h 31 0) + x1)) fun y1 =>
(grd (0 ≤ 0 ∧ 0 < alen 284)
(ltt (w32 ((h 32 0) + x2)) fun y2 =>
(grd (0 ≤ 0 ∧ 0 < alen 284)
(ltt (h 33 0) fun y3 =>
(bndp (MX11_square x1) fun r1 =>
(bndp (MX11_square x2) fun r2 =>
(bndp (MX11_root n (w64 (r1 + r2))) fun r3 =>
(ltt r3 fun y4 =>
(bndh (MX0_spin n (w32 (-x1)) (w32 (-x2)) x3 h) fun h1 =>
(ltt 0 fun y5 =>
(LX0_turn_56 n x4 x5 y1 y2 y3 y4 y5 h1)))))))))))))
def wX0_turn {ρ : Type} (n : Nat) : FN ρ := fun a h k => match a with
  | [_, x1, x2, x3, x4, x5] => bndh (MX0_turn n x1 x2 x3 x4 x5 h) (fun h2 => k 0 h2)
  | _ => none
def fsX0_turn (n : Nat) (ρ : Type) : List (FN ρ) := [wX11_square, wX11_root n, wX0_spin n, wX0_isCoarse n, wX0_halve n, wX11_share]
def KBX0_turn_56 (_ : Nat) (bk : Int → Int → Int → Int → Int → Int → Int → Hp → Option (Int × Int × Int × Int × Hp)) : CT (Int × Int × Int × Int × Hp) := [(56, [(0, 4, (some 30)), (4, 0, none), (5, 0, none), (6, 0, none), (7, 0, none), (8, 0, none), (9, 0, none), (10, 0, none)], [], fun a c h => match a, c with
    | [x4, x5, x6, x7, x8, x9, x10], [] => bk x4 x5 x6 x7 x8 x9 x10 h
    | _, _ => none),
  (85, [(0, 4, (some 30)), (4, 0, none), (6, 0, none), (7, 0, none), (8, 0, none)], [], fun a c h => match a, c with
    | [x4, x6, x7, x8], [] => some (x4, x6, x7, x8, h)
    | _, _ => none)]
set_option maxRecDepth 100000 in
theorem eBX0_turn_56 (n f : Nat) (x4 : Int) (x5 : Int) (x6 : Int) (x7 : Int) (x8 : Int) (x9 : Int) (x10 : Int) (h : Hp) : BX0_turn_56 n (f + 1) x4 x5 x6 x7 x8 x9 x10 h =
  goAt false (kct (KBX0_turn_56 n (BX0_turn_56 n f))) (fun _ _ => none) (fsX0_turn n _) sdX0_turn 1000 56 [(0, 4, 30), (4, 0, x4), (5, 0, x5), (6, 0, x6), (7, 0, x7), (8, 0, x8), (9, 0, x9), (10, 0, x10)] [] h := rfl
def KBX0_turn_88 (_ : Nat) (bk : Int → Int → Int → Int → Int → Hp → Option (Hp)) : CT (Hp) := [(88, [(0, 4, (some 30)), (4, 0, none), (6, 0, none), (7, 0, none), (8, 0, none), (10, 0, none)], [], fun a c h => match a, c with
    | [x4, x6, x7, x8, x10], [] => bk x4 x6 x7 x8 x10 h
    | _, _ => none)]
set_option maxRecDepth 100000 in
theorem eBX0_turn_88 (n f : Nat) (x4 : Int) (x6 : Int) (x7 : Int) (x8 : Int) (x10 : Int) (h : Hp) : BX0_turn_88 n (f + 1) x4 x6 x7 x8 x10 h =
  goAt false (kct (KBX0_turn_88 n (BX0_turn_88 n f))) (fun _ h => some (h)) (fsX0_turn n _) sdX0_turn 1000 88 [(0, 4, 30), (4, 0, x4), (6, 0, x6), (7, 0, x7), (8, 0, x8), (10, 0, x10)] [] h := rfl
def KJX0_turn_85 (n : Nat) : CT (Hp) := [(88, [(0, 4, (some 30)), (4, 0, none), (6, 0, none), (7, 0, none), (8, 0, none), (10, 0, none)], [], fun a c h => match a, c with
    | [x4, x6, x7, x8, x10], [] => LX0_turn_88 n x4 x6 x7 x8 x10 h
    | _, _ => none)]
set_option maxRecDepth 100000 in
theorem eJX0_turn_85 (n : Nat) (x4 : Int) (x6 : Int) (x7 : Int) (x8 : Int) (h : Hp) : JX0_turn_85 n x4 x6 x7 x8 h =
  goAt false (kct (KJX0_turn_85 n)) (fun _ h => some (h)) (fsX0_turn n _) sdX0_turn 1000 85 [(0, 4, 30), (4, 0, x4), (6, 0, x6), (7, 0, x7), (8, 0, x8)] [] h := rfl
def KMX0_turn (n : Nat) : CT (Hp) := [(56, [(0, 4, (some 30)), (4, 0, none), (5, 0, none), (6, 0, none), (7, 0, none), (8, 0, none), (9, 0, none), (10, 0, none)], [], fun a c h => match a, c with
    | [x4, x5, x6, x7, x8, x9, x10], [] => LX0_turn_56 n x4 x5 x6 x7 x8 x9 x10 h
    | _, _ => none)]
set_option maxRecDepth 100000 in
theorem eMX0_turn (n : Nat) (x1 : Int) (x2 : Int) (x3 : Int) (x4 : Int) (x5 : Int) (h : Hp) : MX0_turn n x1 x2 x3 x4 x5 h =
  goAt false (kct (KMX0_turn n)) (fun _ h => some (h)) (fsX0_turn n _) sdX0_turn 1000 0 [(0, 4, 30), (1, 0, x1), (2, 0, x2), (3, 0, x3), (4, 0, x4), (5, 0, x5)] [] h := rfl
theorem okX0_turn : mokb (mi 38) = true := by decide +kernel
theorem rkX0_turn : rkOK 0 (mi 38).1.2.2.2.2.2.2.1 (mi 38).1.2.2.2.1 := Or.inl ⟨rfl, rfl, rfl⟩
def calX0_turn : List Nat := [32, 33, 34, 35, 37, 36]
theorem foX0_turn {l : Launch} {ρ : Type} (n : Nat) : fsOK l false mi calX0_turn (fsX0_turn n ρ) := ⟨sndX11_square, ⟨(sndX11_root n), ⟨(sndX0_spin n), ⟨(sndX0_isCoarse n), ⟨(sndX0_halve n), ⟨sndX11_share, trivial⟩⟩⟩⟩⟩⟩
theorem ok_sdX0_turn : sdb (mi 38).1.2.1 (insOK mi (mi 38).1.1.cls (mi 38).1.2.2.1 (mi 38).1.2.2.2.2.1 (mi 38).1.2.2.2.2.2.1 calX0_turn false 0) sdX0_turn = true := by decide +kernel
def GX0_turn_56 (l : Launch) (h0 : Hp) (h' : Hp) (v : Int) (_ : Hp) : (Int × Int × Int × Int × Hp) → Prop
  | (e4, e6, e7, e8, h1) => PAt l false (mi 38).1 h0 v h' 85 [(0, 4, 30), (4, 0, e4), (6, 0, e6), (7, 0, e7), (8, 0, e8)] [] h1
theorem sBX0_turn_56 {l : Launch} {h0 h' : Hp} {v : Int} (h8 : nOf h0 = 148) (n : Nat) : ∀ (f : Nat) (x4 : Int) (x5 : Int) (x6 : Int) (x7 : Int) (x8 : Int) (x9 : Int) (x10 : Int) (h : Hp) {r : Int × Int × Int × Int × Hp}, BX0_turn_56 n f x4 x5 x6 x7 x8 x9 x10 h = some r → GX0_turn_56 l h0 h' v h r → PAt l false (mi 38).1 h0 v h' 56 [(0, 4, 30), (4, 0, x4), (5, 0, x5), (6, 0, x6), (7, 0, x7), (8, 0, x8), (9, 0, x9), (10, 0, x10)] [] h := by
  intro f
  induction f with
  | zero =>
    intro x4 x5 x6 x7 x8 x9 x10 h r H _
    have H2 : (none : Option (Int × Int × Int × Int × Hp)) = some r := H
    cases H2
  | succ f ih =>
    intro x4 x5 x6 x7 x8 x9 x10 h r H hG
    exact pat_w ok_sdX0_turn rkX0_turn h8 (foX0_turn n) (fun v1 h1 q => by cases q) (List.forall_mem_cons.mpr ⟨(fun a c h H => by
      dsimp only at H
      split at H
      · exact ih _ _ _ _ _ _ _ _ H hG
      · cases H), (List.forall_mem_cons.mpr ⟨(fun a c h H => by
      dsimp only at H
      split at H
      · cases H
        exact hG
      · cases H), (fun q9 h9 => by cases h9)⟩)⟩) ((eBX0_turn_56 n f x4 x5 x6 x7 x8 x9 x10 h).symm.trans H)
theorem sBX0_turn_88 {l : Launch} {h0 h' : Hp} {v : Int} (h8 : nOf h0 = 148) (n : Nat) : ∀ (f : Nat) (x4 : Int) (x6 : Int) (x7 : Int) (x8 : Int) (x10 : Int) (h : Hp) {r : Hp}, BX0_turn_88 n f x4 x6 x7 x8 x10 h = some r → gW h' r → PAt l false (mi 38).1 h0 v h' 88 [(0, 4, 30), (4, 0, x4), (6, 0, x6), (7, 0, x7), (8, 0, x8), (10, 0, x10)] [] h := by
  intro f
  induction f with
  | zero =>
    intro x4 x6 x7 x8 x10 h r H _
    have H2 : (none : Option (Hp)) = some r := H
    cases H2
  | succ f ih =>
    intro x4 x6 x7 x8 x10 h r H hG
    exact pat_w ok_sdX0_turn rkX0_turn h8 (foX0_turn n) (fun v1 h1 q => by
    cases q
    exact ⟨hG, fun q9 => absurd rfl q9⟩) (List.forall_mem_cons.mpr ⟨(fun a c h H => by
      dsimp only at H
      split at H
      · exact ih _ _ _ _ _ _ H hG
      · cases H), (fun q9 h9 => by cases h9)⟩) ((eBX0_turn_88 n f x4 x6 x7 x8 x10 h).symm.trans H)
theorem sLX0_turn_88 {l : Launch} {h0 h' : Hp} {v : Int} (h8 : nOf h0 = 148) (n : Nat) (x4 : Int) (x6 : Int) (x7 : Int) (x8 : Int) (x10 : Int) (h : Hp) {r : Hp} (H : LX0_turn_88 n x4 x6 x7 x8 x10 h = some r) (hG : gW h' r) : PAt l false (mi 38).1 h0 v h' 88 [(0, 4, 30), (4, 0, x4), (6, 0, x6), (7, 0, x7), (8, 0, x8), (10, 0, x10)] [] h :=
  sBX0_turn_88 h8 n n x4 x6 x7 x8 x10 h H hG
theorem sJX0_turn_85 {l : Launch} {h0 h' : Hp} {v : Int} (h8 : nOf h0 = 148) (n : Nat) (x4 : Int) (x6 : Int) (x7 : Int) (x8 : Int) (h : Hp) {r : Hp} (H : JX0_turn_85 n x4 x6 x7 x8 h = some r) (hG : gW h' r) : PAt l false (mi 38).1 h0 v h' 85 [(0, 4, 30), (4, 0, x4), (6, 0, x6), (7, 0, x7), (8, 0, x8)] [] h :=
  pat_w ok_sdX0_turn rkX0_turn h8 (foX0_turn n) (fun v1 h1 q => by
    cases q
    exact ⟨hG, fun q9 => absurd rfl q9⟩) (List.forall_mem_cons.mpr ⟨(fun a c h H => by
      dsimp only at H
      split at H
      · exact sLX0_turn_88 h8 n _ _ _ _ _ _ H hG
      · cases H), (fun q9 h9 => by cases h9)⟩) ((eJX0_turn_85 n x4 x6 x7 x8 h).symm.trans H)
theorem sLX0_turn_56 {l : Launch} {h0 h' : Hp} {v : Int} (h8 : nOf h0 = 148) (n : Nat) (x4 : Int) (x5 : Int) (x6 : Int) (x7 : Int) (x8 : Int) (x9 : Int) (x10 : Int) (h : Hp) {r : Hp} (H : LX0_turn_56 n x4 x5 x6 x7 x8 x9 x10 h = some r) (hG : gW h' r) : PAt l false (mi 38).1 h0 v h' 56 [(0, 4, 30), (4, 0, x4), (5, 0, x5), (6, 0, x6), (7, 0, x7), (8, 0, x8), (9, 0, x9), (10, 0, x10)] [] h := by
  obtain ⟨e9, h2, h3⟩ := bndx_some H
  obtain ⟨e4, e6, e7, e8, h1⟩ := e9
  exact sBX0_turn_56 h8 n n x4 x5 x6 x7 x8 x9 x10 h h2 (sJX0_turn_85 h8 n e4 e6 e7 e8 h1 h3 hG)
theorem sMX0_turn {l : Launch} {h0 h' : Hp} {v : Int} (h8 : nOf h0 = 148) (n : Nat) (x1 : Int) (x2 : Int) (x3 : Int) (x4 : Int) (x5 : Int) (h : Hp) {r : Hp} (H : MX0_turn n x1 x2 x3 x4 x5 h = some r) (hG : gW h' r) : PAt l false (mi 38).1 h0 v h' 0 [(0, 4, 30), (1, 0, x1), (2, 0, x2), (3, 0, x3), (4, 0, x4), (5, 0, x5)] [] h :=
  pat_w ok_sdX0_turn rkX0_turn h8 (foX0_turn n) (fun v1 h1 q => by
    cases q
    exact ⟨hG, fun q9 => absurd rfl q9⟩) (List.forall_mem_cons.mpr ⟨(fun a c h H => by
      dsimp only at H
      split at H
      · exact sLX0_turn_56 h8 n _ _ _ _ _ _ _ _ H hG
      · cases H), (fun q9 h9 => by cases h9)⟩) ((eMX0_turn n x1 x2 x3 x4 x5 h).symm.trans H)
theorem sndX0_turn {ρ : Type} {l : Launch} (n : Nat) : SndF (ρ := ρ) l false (mi 38).1 (wX0_turn n) := by
    intro a h k r H ha ho hn hf
    have h8 := hf rfl
    obtain ⟨x0, x1, x2, x3, x4, x5, rfl⟩ := len6 (show a.length = 6 from ha)
    have u0 := uq4 hn (ho (4, x0) (List.mem_cons_self))
    subst u0
    replace H : bndh (MX0_turn n x1 x2 x3 x4 x5 h) (fun h2 => k 0 h2) = some r := H
    obtain ⟨h2, H1, H2⟩ := bndh_some H
    exact ⟨0, h2, H2, met_mk (mok_base okX0_turn).1 (by decide +kernel) (Nat.le_of_ble_eq_true rfl) ho (sMX0_turn h8 n x1 x2 x3 x4 x5 h H1 rfl), fun q => by cases q⟩
/-! X0_lay -/
def sdX0_lay : SD := [(0, [(0, .iload_n 3, 1, [], 0), (1, .ifCond .lt 11, 3, [], 0)]),
  (4, [(4, .iload_n 3, 1, [], 0), (5, .iconst 4, 1, [], 0), (6, .iadd, 1, [], 0), (7, .aload_n 2, 1, [], 0), (8, .arraylength, 1, [], 0), (9, .if_icmp .lt 4, 3, [], 0)]),
  (12, [(12, .return_, 1, [], 0)]),
  (13, [(13, .aload_n 0, 1, [], 0), (14, .getfield 9, 3, [0, 0, 284, 1, 290, 0], 1), (17, .iconst 0, 1, [], 0), (18, .aload_n 1, 1, [], 0), (19, .iconst 0, 1, [], 0), (20, .invokevirtual 19, 3, [1, 0, 1, 31, 913, 0, 14], 0), (23, .iastore, 1, [], 0), (24, .aload_n 0, 1, [], 0), (25, .getfield 13, 3, [0, 1, 284, 1, 292, 0], 2), (28, .iconst 0, 1, [], 0), (29, .aload_n 1, 1, [], 0), (30, .iconst 1, 1, [], 0), (31, .invokevirtual 19, 3, [1, 0, 1, 31, 913, 0, 14], 0), (34, .iastore, 1, [], 0), (35, .aload_n 0, 1, [], 0), (36, .getfield 16, 3, [0, 2, 284, 1, 294, 0], 3), (39, .iconst 0, 1, [], 0), (40, .aload_n 1, 1, [], 0), (41, .iconst 2, 1, [], 0), (42, .invokevirtual 19, 3, [1, 0, 1, 31, 913, 0, 14], 0), (45, .iastore, 1, [], 0), (46, .aload_n 2, 1, [], 0), (47, .iload_n 3, 1, [], 0), (48, .iaload, 1, [], 0), (49, .iconst 5, 1, [], 0), (50, .if_icmp .ne 34, 3, [], 0)]),
  (53, [(53, .aload_n 0, 1, [], 0), (54, .aload_n 2, 1, [], 0), (55, .iload_n 3, 1, [], 0), (56, .iconst 1, 1, [], 0), (57, .iadd, 1, [], 0), (58, .iaload, 1, [], 0), (59, .aload_n 2, 1, [], 0), (60, .iload_n 3, 1, [], 0), (61, .iconst 2, 1, [], 0), (62, .iadd, 1, [], 0), (63, .iaload, 1, [], 0), (64, .aload_n 2, 1, [], 0), (65, .iload_n 3, 1, [], 0), (66, .iconst 3, 1, [], 0), (67, .iadd, 1, [], 0), (68, .iaload, 1, [], 0), (69, .aload_n 2, 1, [], 0), (70, .iload_n 3, 1, [], 0), (71, .iconst 4, 1, [], 0), (72, .iadd, 1, [], 0), (73, .iaload, 1, [], 0), (74, .aload_n 1, 1, [], 0), (75, .getfield 27, 3, [10, 10, 0, 0, 197, 0], 0), (78, .invokevirtual 31, 3, [0, 1, 1, 38, 917, 0, 0, 0, 0, 0, 4], 0), (81, .goto 103, 3, [], 0)]),
  (84, [(84, .aload_n 2, 1, [], 0), (85, .iload_n 3, 1, [], 0), (86, .iaload, 1, [], 0), (87, .iconst 4, 1, [], 0), (88, .if_icmp .ne 7, 3, [], 0)]),
  (91, [(91, .iconst 1, 1, [], 0), (92, .goto 4, 3, [], 0)]),
  (95, [(95, .iconst 0, 1, [], 0)]),
  (96, [(96, .istore 4, 2, [], 0), (98, .aload_n 0, 1, [], 0), (99, .iconst 1, 1, [], 0), (100, .putfield 35, 3, [0, 3, 0, 0, 0, 296], 0), (103, .aload_n 0, 1, [], 0), (104, .getfield 9, 3, [0, 0, 284, 1, 290, 0], 1), (107, .iconst 1, 1, [], 0), (108, .aload_n 2, 1, [], 0), (109, .iload_n 3, 1, [], 0), (110, .iconst 1, 1, [], 0), (111, .iadd, 1, [], 0), (112, .iaload, 1, [], 0), (113, .iload 4, 2, [], 0), (115, .ifCond .eq 12, 3, [], 0)]),
  (118, [(118, .aload_n 0, 1, [], 0), (119, .getfield 9, 3, [0, 0, 284, 1, 290, 0], 1), (122, .iconst 0, 1, [], 0), (123, .iaload, 1, [], 0), (124, .goto 4, 3, [], 0)]),
  (127, [(127, .iconst 0, 1, [], 0)]),
  (128, [(128, .iadd, 1, [], 0), (129, .iastore, 1, [], 0), (130, .aload_n 0, 1, [], 0), (131, .getfield 13, 3, [0, 1, 284, 1, 292, 0], 2), (134, .iconst 1, 1, [], 0), (135, .aload_n 2, 1, [], 0), (136, .iload_n 3, 1, [], 0), (137, .iconst 2, 1, [], 0), (138, .iadd, 1, [], 0), (139, .iaload, 1, [], 0), (140, .iload 4, 2, [], 0), (142, .ifCond .eq 12, 3, [], 0)]),
  (145, [(145, .aload_n 0, 1, [], 0), (146, .getfield 13, 3, [0, 1, 284, 1, 292, 0], 2), (149, .iconst 0, 1, [], 0), (150, .iaload, 1, [], 0), (151, .goto 4, 3, [], 0)]),
  (154, [(154, .iconst 0, 1, [], 0)]),
  (155, [(155, .iadd, 1, [], 0), (156, .iastore, 1, [], 0), (157, .aload_n 0, 1, [], 0), (158, .getfield 16, 3, [0, 2, 284, 1, 294, 0], 3), (161, .iconst 1, 1, [], 0), (162, .aload_n 2, 1, [], 0), (163, .iload_n 3, 1, [], 0), (164, .iconst 3, 1, [], 0), (165, .iadd, 1, [], 0), (166, .iaload, 1, [], 0), (167, .iload 4, 2, [], 0), (169, .ifCond .eq 12, 3, [], 0)]),
  (172, [(172, .aload_n 0, 1, [], 0), (173, .getfield 16, 3, [0, 2, 284, 1, 294, 0], 3), (176, .iconst 0, 1, [], 0), (177, .iaload, 1, [], 0), (178, .goto 4, 3, [], 0)]),
  (181, [(181, .iconst 0, 1, [], 0)]),
  (182, [(182, .iadd, 1, [], 0), (183, .iastore, 1, [], 0)]),
  (184, [(184, .return_, 1, [], 0)])]
def JX0_lay_155 (n : Nat) (x3 x4 z0 z1 z2 z3 : Int) (h : Hp) : Option (Hp) :=
(grd (0 ≤ z1 ∧ z1 < alen 284)
(ltt (up h z0 z1 (w32 (z2 + z3))) fun h1 =>
(grd (0 ≤ (w32 (x3 + 3)) ∧ (w32 (x3 + 3)) < alen 1988)
(if x4 = 0 then
(grd (0 ≤ 1 ∧ 1 < alen 284)
(ltt (up h1 33 1 (w32 ((h1 34 (w32 (x3 + 3))) + 0))) fun h2 =>
(some h2)))
else
(grd (0 ≤ 0 ∧ 0 < alen 284)
(grd (0 ≤ 1 ∧ 1 < alen 284)
(ltt (up h1 33 1 (w32 ((h1 34 (w32 (x3 + 3))) + (h1 33 0)))) fun h3 =>
(some h3))))))))
def JX0_lay_128 (n : Nat) (x3 x4 z0 z1 z2 z3 : Int) (h : Hp) : Option (Hp) :=
(grd (0 ≤ z1 ∧ z1 < alen 284)
(ltt (up h z0 z1 (w32 (z2 + z3))) fun h1 =>
(grd (0 ≤ (w32 (x3 + 2)) ∧ (w32 (x3 + 2)) < alen 1988)
(if x4 = 0 then
(JX0_lay_155 n x3 x4 32 1 (h1 34 (w32 (x3 + 2))) 0 h1)
else
(grd (0 ≤ 0 ∧ 0 < alen 284)
(JX0_lay_155 n x3 x4 32 1 (h1 34 (w32 (x3 + 2))) (h1 32 0) h1))))))
def JX0_lay_96 (n : Nat) (x3 z0 : Int) (h : Hp) : Option (Hp) :=
(ltt z0 fun y1 =>
(ltt (up h 30 3 1) fun h1 =>
(grd (0 ≤ (w32 (x3 + 1)) ∧ (w32 (x3 + 1)) < alen 1988)
(if y1 = 0 then
(JX0_lay_128 n x3 y1 31 1 (h1 34 (w32 (x3 + 1))) 0 h1)
else
(grd (0 ≤ 0 ∧ 0 < alen 284)
(JX0_lay_128 n x3 y1 31 1 (h1 34 (w32 (x3 + 1))) (h1 31 0) h1))))))
def MX0_lay (n : Nat) (x1 x3 : Int) (h : Hp) : Option (Hp) :=
(if x3 < 0 then
(some h)
else
(if (w32 (x3 + 4)) < (alen 1988) then
(bndp (MX10_last x1 0 h) fun r1 =>
(grd (0 ≤ 0 ∧ 0 < alen 284)
(ltt (up h 31 0 r1) fun h1 =>
(bndp (MX10_last x1 1 h1) fun r2 =>
(grd (0 ≤ 0 ∧ 0 < alen 284)
(ltt (up h1 32 0 r2) fun h2 =>
(bndp (MX10_last x1 2 h2) fun r3 =>
(grd (0 ≤ 0 ∧ 0 < alen 284)
(ltt (up h2 33 0 r3) fun h3 =>
(grd (0 ≤ x3 ∧ x3 < alen 1988)
(if (h3 34 x3) ≠ 5 then
(grd (0 ≤ x3 ∧ x3 < alen 1988)
(if (h3 34 x3) ≠ 4 then
(JX0_lay_96 n x3 0 h3)
else
(JX0_lay_96 n x3 1 h3)))
else
(grd (0 ≤ (w32 (x3 + 1)) ∧ (w32 (x3 + 1)) < alen 1988)
(grd (0 ≤ (w32 (x3 + 2)) ∧ (w32 (x3 + 2)) < alen 1988)
(grd (0 ≤ (w32 (x3 + 3)) ∧ (w32 (x3 + 3)) < alen 1988)
(grd (0 ≤ (w32 (x3 + 4)) ∧ (w32 (x3 + 4)) < alen 1988)
(bndh (MX0_turn n (h3 34 (w32 (x3 + 1))) (h3 34 (w32 (x3 + 2))) (h3 34 (w32 (x3 + 3))) (h3 34 (w32 (x3 + 4))) (h3 x1 10) h3) fun h4 =>
(some h4)))))))))))))))))
else
(some h)))
def wX0_lay {ρ : Type} (n : Nat) : FN ρ := fun a h k => match a with
  | [_, x1, _, x3] => bndh (MX0_lay n x1 x3 h) (fun h2 => k 0 h2)
  | _ => none
def fsX0_lay (n : Nat) (ρ : Type) : List (FN ρ) := [wX10_last, wX0_turn n]
def KJX0_lay_155 (_ : Nat) : CT (Hp) := []
set_option maxRecDepth 100000 in
theorem eJX0_lay_155 (n : Nat) (x3 : Int) (x4 : Int) (z0 : Int) (z1 : Int) (z2 : Int) (z3 : Int) (h : Hp) : JX0_lay_155 n x3 x4 z0 z1 z2 z3 h =
  goAt false (kct (KJX0_lay_155 n)) (fun _ h => some (h)) (fsX0_lay n _) sdX0_lay 1000 155 [(0, 4, 30), (2, 1988, 34), (3, 0, x3), (4, 0, x4)] [(0, z3), (0, z2), (0, z1), (284, z0)] h := rfl
def KJX0_lay_128 (n : Nat) : CT (Hp) := [(155, [(0, 4, (some 30)), (2, 1988, (some 34)), (3, 0, none), (4, 0, none)], [(0, none), (0, none), (0, none), (284, none)], fun a c h => match a, c with
    | [x3, x4], [z3, z2, z1, z0] => JX0_lay_155 n x3 x4 z0 z1 z2 z3 h
    | _, _ => none)]
set_option maxRecDepth 100000 in
theorem eJX0_lay_128 (n : Nat) (x3 : Int) (x4 : Int) (z0 : Int) (z1 : Int) (z2 : Int) (z3 : Int) (h : Hp) : JX0_lay_128 n x3 x4 z0 z1 z2 z3 h =
  goAt false (kct (KJX0_lay_128 n)) (fun _ h => some (h)) (fsX0_lay n _) sdX0_lay 1000 128 [(0, 4, 30), (2, 1988, 34), (3, 0, x3), (4, 0, x4)] [(0, z3), (0, z2), (0, z1), (284, z0)] h := rfl
def KJX0_lay_96 (n : Nat) : CT (Hp) := [(128, [(0, 4, (some 30)), (2, 1988, (some 34)), (3, 0, none), (4, 0, none)], [(0, none), (0, none), (0, none), (284, none)], fun a c h => match a, c with
    | [x3, x4], [z3, z2, z1, z0] => JX0_lay_128 n x3 x4 z0 z1 z2 z3 h
    | _, _ => none)]
set_option maxRecDepth 100000 in
theorem eJX0_lay_96 (n : Nat) (x3 : Int) (z0 : Int) (h : Hp) : JX0_lay_96 n x3 z0 h =
  goAt false (kct (KJX0_lay_96 n)) (fun _ h => some (h)) (fsX0_lay n _) sdX0_lay 1000 96 [(0, 4, 30), (2, 1988, 34), (3, 0, x3)] [(0, z0)] h := rfl
def KMX0_lay (n : Nat) : CT (Hp) := [(96, [(0, 4, (some 30)), (2, 1988, (some 34)), (3, 0, none)], [(0, none)], fun a c h => match a, c with
    | [x3], [z0] => JX0_lay_96 n x3 z0 h
    | _, _ => none)]
set_option maxRecDepth 100000 in
theorem eMX0_lay (n : Nat) (x1 : Int) (x3 : Int) (h : Hp) : MX0_lay n x1 x3 h =
  goAt false (kct (KMX0_lay n)) (fun _ h => some (h)) (fsX0_lay n _) sdX0_lay 1000 0 [(0, 4, 30), (1, 14, x1), (2, 1988, 34), (3, 0, x3)] [] h := rfl
theorem okX0_lay : mokb (mi 39) = true := by decide +kernel
theorem rkX0_lay : rkOK 0 (mi 39).1.2.2.2.2.2.2.1 (mi 39).1.2.2.2.1 := Or.inl ⟨rfl, rfl, rfl⟩
def calX0_lay : List Nat := [31, 38]
theorem foX0_lay {l : Launch} {ρ : Type} (n : Nat) : fsOK l false mi calX0_lay (fsX0_lay n ρ) := ⟨sndX10_last, ⟨(sndX0_turn n), trivial⟩⟩
theorem ok_sdX0_lay : sdb (mi 39).1.2.1 (insOK mi (mi 39).1.1.cls (mi 39).1.2.2.1 (mi 39).1.2.2.2.2.1 (mi 39).1.2.2.2.2.2.1 calX0_lay false 0) sdX0_lay = true := by decide +kernel
theorem sJX0_lay_155 {l : Launch} {h0 h' : Hp} {v : Int} (h8 : nOf h0 = 148) (n : Nat) (x3 : Int) (x4 : Int) (z0 : Int) (z1 : Int) (z2 : Int) (z3 : Int) (h : Hp) {r : Hp} (H : JX0_lay_155 n x3 x4 z0 z1 z2 z3 h = some r) (hG : gW h' r) : PAt l false (mi 39).1 h0 v h' 155 [(0, 4, 30), (2, 1988, 34), (3, 0, x3), (4, 0, x4)] [(0, z3), (0, z2), (0, z1), (284, z0)] h :=
  pat_w ok_sdX0_lay rkX0_lay h8 (foX0_lay n) (fun v1 h1 q => by
    cases q
    exact ⟨hG, fun q9 => absurd rfl q9⟩) (fun q9 h9 => by cases h9) ((eJX0_lay_155 n x3 x4 z0 z1 z2 z3 h).symm.trans H)
theorem sJX0_lay_128 {l : Launch} {h0 h' : Hp} {v : Int} (h8 : nOf h0 = 148) (n : Nat) (x3 : Int) (x4 : Int) (z0 : Int) (z1 : Int) (z2 : Int) (z3 : Int) (h : Hp) {r : Hp} (H : JX0_lay_128 n x3 x4 z0 z1 z2 z3 h = some r) (hG : gW h' r) : PAt l false (mi 39).1 h0 v h' 128 [(0, 4, 30), (2, 1988, 34), (3, 0, x3), (4, 0, x4)] [(0, z3), (0, z2), (0, z1), (284, z0)] h :=
  pat_w ok_sdX0_lay rkX0_lay h8 (foX0_lay n) (fun v1 h1 q => by
    cases q
    exact ⟨hG, fun q9 => absurd rfl q9⟩) (List.forall_mem_cons.mpr ⟨(fun a c h H => by
      dsimp only at H
      split at H
      · exact sJX0_lay_155 h8 n _ _ _ _ _ _ _ H hG
      · cases H), (fun q9 h9 => by cases h9)⟩) ((eJX0_lay_128 n x3 x4 z0 z1 z2 z3 h).symm.trans H)
theorem sJX0_lay_96 {l : Launch} {h0 h' : Hp} {v : Int} (h8 : nOf h0 = 148) (n : Nat) (x3 : Int) (z0 : Int) (h : Hp) {r : Hp} (H : JX0_lay_96 n x3 z0 h = some r) (hG : gW h' r) : PAt l false (mi 39).1 h0 v h' 96 [(0, 4, 30), (2, 1988, 34), (3, 0, x3)] [(0, z0)] h :=
  pat_w ok_sdX0_lay rkX0_lay h8 (foX0_lay n) (fun v1 h1 q => by
    cases q
    exact ⟨hG, fun q9 => absurd rfl q9⟩) (List.forall_mem_cons.mpr ⟨(fun a c h H => by
      dsimp only at H
      split at H
      · exact sJX0_lay_128 h8 n _ _ _ _ _ _ _ H hG
      · cases H), (fun q9 h9 => by cases h9)⟩) ((eJX0_lay_96 n x3 z0 h).symm.trans H)
theorem sMX0_lay {l : Launch} {h0 h' : Hp} {v : Int} (h8 : nOf h0 = 148) (n : Nat) (x1 : Int) (x3 : Int) (h : Hp) {r : Hp} (H : MX0_lay n x1 x3 h = some r) (hG : gW h' r) : PAt l false (mi 39).1 h0 v h' 0 [(0, 4, 30), (1, 14, x1), (2, 1988, 34), (3, 0, x3)] [] h :=
  pat_w ok_sdX0_lay rkX0_lay h8 (foX0_lay n) (fun v1 h1 q => by
    cases q
    exact ⟨hG, fun q9 => absurd rfl q9⟩) (List.forall_mem_cons.mpr ⟨(fun a c h H => by
      dsimp only at H
      split at H
      · exact sJX0_lay_96 h8 n _ _ _ H hG
      · cases H), (fun q9 h9 => by cases h9)⟩) ((eMX0_lay n x1 x3 h).symm.trans H)
theorem sndX0_lay {ρ : Type} {l : Launch} (n : Nat) : SndF (ρ := ρ) l false (mi 39).1 (wX0_lay n) := by
    intro a h k r H ha ho hn hf
    have h8 := hf rfl
    obtain ⟨x0, x1, x2, x3, rfl⟩ := len4 (show a.length = 4 from ha)
    have u0 := uq4 hn (ho (4, x0) (List.mem_cons_self))
    subst u0
    have u2 := uq1988 hn (ho (1988, x2) (List.mem_cons_of_mem _ (List.mem_cons_of_mem _ List.mem_cons_self)))
    subst u2
    replace H : bndh (MX0_lay n x1 x3 h) (fun h2 => k 0 h2) = some r := H
    obtain ⟨h2, H1, H2⟩ := bndh_some H
    exact ⟨0, h2, H2, met_mk (mok_base okX0_lay).1 (by decide +kernel) (Nat.le_of_ble_eq_true rfl) ho (sMX0_lay h8 n x1 x3 h H1 rfl), fun q => by cases q⟩
/-! X11_isBeyond -/
def sdX11_isBeyond : SD := [(0, [(0, .iload_n 0, 1, [], 0), (1, .ldc_w 344, 3, [0, 946], 100000), (4, .if_icmp .gt 10, 3, [], 0)]),
  (7, [(7, .iload_n 0, 1, [], 0), (8, .ldc_w 345, 3, [0, 947], (-100000)), (11, .if_icmp .ge 7, 3, [], 0)]),
  (14, [(14, .iconst 1, 1, [], 0), (15, .goto 4, 3, [], 0)]),
  (18, [(18, .iconst 0, 1, [], 0)]),
  (19, [(19, .ireturn, 1, [1], 0)])]
def MX11_isBeyond (x0 : Int) : Option (Int) :=
(if 100000 < x0 then
(some 1)
else
(if (-100000) ≤ x0 then
(some 0)
else
(some 1)))
def wX11_isBeyond {ρ : Type} : FN ρ := fun a h k => match a with
  | [x0] => bndp (MX11_isBeyond x0) (fun r => k r h)
  | _ => none
def fsX11_isBeyond (ρ : Type) : List (FN ρ) := []
def KMX11_isBeyond  : CT (Int) := []
set_option maxRecDepth 100000 in
theorem eMX11_isBeyond (x0 : Int) (h : Hp) : MX11_isBeyond x0 =
  goAt false (kct (KMX11_isBeyond)) (fun v _ => some (v)) (fsX11_isBeyond _) sdX11_isBeyond 1000 0 [(0, 0, x0)] [] h := rfl
theorem okX11_isBeyond : mokb (mi 40) = true := by decide +kernel
theorem rkX11_isBeyond : rkOK 4 (mi 40).1.2.2.2.2.2.2.1 (mi 40).1.2.2.2.1 := Or.inr (Or.inr (Or.inl ⟨rfl, rfl, rfl⟩))
def calX11_isBeyond : List Nat := []
theorem foX11_isBeyond {l : Launch} {ρ : Type} : fsOK l false mi calX11_isBeyond (fsX11_isBeyond ρ) := trivial
theorem frX11_isBeyond {ρ : Type} : ∀ fn ∈ fsX11_isBeyond ρ, RoF fn := (fun q9 h9 => by cases h9)
theorem ok_sdX11_isBeyond : sdb (mi 40).1.2.1 (insOK mi (mi 40).1.1.cls (mi 40).1.2.2.1 (mi 40).1.2.2.2.2.1 (mi 40).1.2.2.2.2.2.1 calX11_isBeyond false 4) sdX11_isBeyond = true := by decide +kernel
theorem sMX11_isBeyond {l : Launch} {h0 : Hp} {v : Int} (h8 : nOf h0 = 148)  (x0 : Int) (h : Hp) {r : Int} (H : MX11_isBeyond x0 = some r) (hG : gV v r) : PAt l false (mi 40).1 h0 v h 0 [(0, 0, x0)] [] h :=
  pat_ro ok_sdX11_isBeyond rfl rkX11_isBeyond h8 (foX11_isBeyond) (frX11_isBeyond) (fun v1 q => by
    cases q
    exact ⟨rfl, fun _ => hG⟩) (fun q9 h9 => by cases h9) ((eMX11_isBeyond x0 h).symm.trans H)
theorem sndX11_isBeyond {ρ : Type} {l : Launch} : SndF (ρ := ρ) l false (mi 40).1 (wX11_isBeyond) := by
    intro a h k r H ha ho hn hf
    have h8 := hf rfl
    obtain ⟨x0, rfl⟩ := len1 (show a.length = 1 from ha)
    replace H : bndp (MX11_isBeyond x0) (fun r => k r h) = some r := H
    obtain ⟨v2, H1, H2⟩ := bndp_some H
    exact ⟨v2, h, H2, met_mk (mok_base okX11_isBeyond).1 (by decide +kernel) (Nat.le_of_ble_eq_true rfl) ho (sMX11_isBeyond h8 x0 h H1 rfl), fun q => by cases q⟩
theorem roX11_isBeyond {ρ : Type} : RoF (wX11_isBeyond : FN ρ) := fun a h k k2 hk => by
  unfold wX11_isBeyond
  split
  · exact bndp_ro hk
  · rfl
/-! X0_goBeyond -/
def sdX0_goBeyond : SD := [(0, [(0, .iconst 1, 1, [], 0), (1, .istore_n 1, 1, [], 0)]),
  (2, [(2, .iload_n 1, 1, [], 0), (3, .aload_n 0, 1, [], 0), (4, .getfield 35, 3, [0, 3, 0, 0, 296, 0], 0), (7, .if_icmp .gt 53, 3, [], 0)]),
  (10, [(10, .iload_n 1, 1, [], 0), (11, .bipush 33, 2, [], 0), (13, .if_icmp .ge 47, 3, [], 0)]),
  (16, [(16, .aload_n 0, 1, [], 0), (17, .getfield 9, 3, [0, 0, 284, 1, 290, 0], 1), (20, .iload_n 1, 1, [], 0), (21, .iaload, 1, [], 0), (22, .invokestatic 70, 3, [1, 0, 4, 40, 943, 0], 0), (25, .ifCond .ne 27, 3, [], 0)]),
  (28, [(28, .aload_n 0, 1, [], 0), (29, .getfield 13, 3, [0, 1, 284, 1, 292, 0], 2), (32, .iload_n 1, 1, [], 0), (33, .iaload, 1, [], 0), (34, .invokestatic 70, 3, [1, 0, 4, 40, 943, 0], 0), (37, .ifCond .ne 15, 3, [], 0)]),
  (40, [(40, .aload_n 0, 1, [], 0), (41, .getfield 16, 3, [0, 2, 284, 1, 294, 0], 3), (44, .iload_n 1, 1, [], 0), (45, .iaload, 1, [], 0), (46, .invokestatic 70, 3, [1, 0, 4, 40, 943, 0], 0), (49, .ifCond .eq 5, 3, [], 0)]),
  (52, [(52, .iconst 1, 1, [], 0), (53, .ireturn, 1, [1], 0)]),
  (54, [(54, .iinc 1 1, 3, [], 0), (57, .goto (-55), 3, [], 0)]),
  (60, [(60, .iconst 0, 1, [], 0), (61, .ireturn, 1, [1], 0)])]
def BX0_goBeyond_2 (n : Nat) : Nat → Int → Hp → Option (Int)
  | 0, _, _ => none
  | f + 1, x1, h =>
    (if (h 30 3) < x1 then
    (some 0)
    else
    (if 33 ≤ x1 then
    (some 0)
    else
    (grd (0 ≤ x1 ∧ x1 < alen 284)
    (bndp (MX11_isBeyond (h 31 x1)) fun r1 =>
    (if r1 ≠ 0 then
    (some 1)
    else
    (grd (0 ≤ x1 ∧ x1 < alen 284)
    (bndp (MX11_isBeyond (h 32 x1)) fun r2 =>
    (if r2 ≠ 0 then
    (some 1)
    else
    (grd (0 ≤ x1 ∧ x1 < alen 284)
    (bndp (MX11_isBeyond (h 33 x1)) fun r3 =>
    (if r3 = 0 then
    (ltt (w32 (x1 + 1)) fun y1 =>
    (BX0_goBeyond_2 n f y1 h))
    else
    (some 1))))))))))))
def LX0_goBeyond_2 (n : Nat) (x1 : Int) (h : Hp) : Option (Int) :=
(BX0_goBeyond_2 n n x1 h)
def MX0_goBeyond (n : Nat) (h : Hp) : Option (Int) :=
(ltt 1 fun y1 =>
(LX0_goBeyond_2 n y1 h))
def wX0_goBeyond {ρ : Type} (n : Nat) : FN ρ := fun a h k => match a with
  | [_] => bndp (MX0_goBeyond n h) (fun r => k r h)
  | _ => none
def fsX0_goBeyond (n : Nat) (ρ : Type) : List (FN ρ) := [wX11_isBeyond]
def KBX0_goBeyond_2 (_ : Nat) (bk : Int → Hp → Option (Int)) : CT (Int) := [(2, [(0, 4, (some 30)), (1, 0, none)], [], fun a c h => match a, c with
    | [x1], [] => bk x1 h
    | _, _ => none)]
set_option maxRecDepth 100000 in
theorem eBX0_goBeyond_2 (n f : Nat) (x1 : Int) (h : Hp) : BX0_goBeyond_2 n (f + 1) x1 h =
  goAt false (kct (KBX0_goBeyond_2 n (BX0_goBeyond_2 n f))) (fun v _ => some (v)) (fsX0_goBeyond n _) sdX0_goBeyond 1000 2 [(0, 4, 30), (1, 0, x1)] [] h := rfl
def KMX0_goBeyond (n : Nat) : CT (Int) := [(2, [(0, 4, (some 30)), (1, 0, none)], [], fun a c h => match a, c with
    | [x1], [] => LX0_goBeyond_2 n x1 h
    | _, _ => none)]
set_option maxRecDepth 100000 in
theorem eMX0_goBeyond (n : Nat) (h : Hp) : MX0_goBeyond n h =
  goAt false (kct (KMX0_goBeyond n)) (fun v _ => some (v)) (fsX0_goBeyond n _) sdX0_goBeyond 1000 0 [(0, 4, 30)] [] h := rfl
theorem okX0_goBeyond : mokb (mi 41) = true := by decide +kernel
theorem rkX0_goBeyond : rkOK 4 (mi 41).1.2.2.2.2.2.2.1 (mi 41).1.2.2.2.1 := Or.inr (Or.inr (Or.inl ⟨rfl, rfl, rfl⟩))
def calX0_goBeyond : List Nat := [40]
theorem foX0_goBeyond {l : Launch} {ρ : Type} (n : Nat) : fsOK l false mi calX0_goBeyond (fsX0_goBeyond n ρ) := ⟨sndX11_isBeyond, trivial⟩
theorem frX0_goBeyond {ρ : Type} (n : Nat) : ∀ fn ∈ fsX0_goBeyond n ρ, RoF fn := (List.forall_mem_cons.mpr ⟨roX11_isBeyond, (fun q9 h9 => by cases h9)⟩)
theorem ok_sdX0_goBeyond : sdb (mi 41).1.2.1 (insOK mi (mi 41).1.1.cls (mi 41).1.2.2.1 (mi 41).1.2.2.2.2.1 (mi 41).1.2.2.2.2.2.1 calX0_goBeyond false 4) sdX0_goBeyond = true := by decide +kernel
theorem sBX0_goBeyond_2 {l : Launch} {h0 : Hp} {v : Int} (h8 : nOf h0 = 148) (n : Nat) (h : Hp) : ∀ (f : Nat) (x1 : Int) {r : Int}, BX0_goBeyond_2 n f x1 h = some r → gV v r → PAt l false (mi 41).1 h0 v h 2 [(0, 4, 30), (1, 0, x1)] [] h := by
  intro f
  induction f with
  | zero =>
    intro x1 r H _
    have H2 : (none : Option (Int)) = some r := H
    cases H2
  | succ f ih =>
    intro x1 r H hG
    exact pat_ro ok_sdX0_goBeyond rfl rkX0_goBeyond h8 (foX0_goBeyond n) (frX0_goBeyond n) (fun v1 q => by
    cases q
    exact ⟨rfl, fun _ => hG⟩) (List.forall_mem_cons.mpr ⟨(fun a c H => by
      dsimp only at H
      split at H
      · exact ih _ H hG
      · cases H), (fun q9 h9 => by cases h9)⟩) ((eBX0_goBeyond_2 n f x1 h).symm.trans H)
theorem sLX0_goBeyond_2 {l : Launch} {h0 : Hp} {v : Int} (h8 : nOf h0 = 148) (n : Nat) (x1 : Int) (h : Hp) {r : Int} (H : LX0_goBeyond_2 n x1 h = some r) (hG : gV v r) : PAt l false (mi 41).1 h0 v h 2 [(0, 4, 30), (1, 0, x1)] [] h :=
  sBX0_goBeyond_2 h8 n h n x1 H hG
theorem sMX0_goBeyond {l : Launch} {h0 : Hp} {v : Int} (h8 : nOf h0 = 148) (n : Nat)  (h : Hp) {r : Int} (H : MX0_goBeyond n h = some r) (hG : gV v r) : PAt l false (mi 41).1 h0 v h 0 [(0, 4, 30)] [] h :=
  pat_ro ok_sdX0_goBeyond rfl rkX0_goBeyond h8 (foX0_goBeyond n) (frX0_goBeyond n) (fun v1 q => by
    cases q
    exact ⟨rfl, fun _ => hG⟩) (List.forall_mem_cons.mpr ⟨(fun a c H => by
      dsimp only at H
      split at H
      · exact sLX0_goBeyond_2 h8 n _ _ H hG
      · cases H), (fun q9 h9 => by cases h9)⟩) ((eMX0_goBeyond n h).symm.trans H)
theorem sndX0_goBeyond {ρ : Type} {l : Launch} (n : Nat) : SndF (ρ := ρ) l false (mi 41).1 (wX0_goBeyond n) := by
    intro a h k r H ha ho hn hf
    have h8 := hf rfl
    obtain ⟨x0, rfl⟩ := len1 (show a.length = 1 from ha)
    have u0 := uq4 hn (ho (4, x0) (List.mem_cons_self))
    subst u0
    replace H : bndp (MX0_goBeyond n h) (fun r => k r h) = some r := H
    obtain ⟨v2, H1, H2⟩ := bndp_some H
    exact ⟨v2, h, H2, met_mk (mok_base okX0_goBeyond).1 (by decide +kernel) (Nat.le_of_ble_eq_true rfl) ho (sMX0_goBeyond h8 n  h H1 rfl), fun q => by cases q⟩
theorem roX0_goBeyond {ρ : Type} (n : Nat) : RoF (wX0_goBeyond n : FN ρ) := fun a h k k2 hk => by
  unfold wX0_goBeyond
  split
  · exact bndp_ro hk
  · rfl
/-! X0_goings -/
def sdX0_goings : SD := [(0, [(0, .iconst 0, 1, [], 0), (1, .istore_n 1, 1, [], 0), (2, .iconst 1, 1, [], 0), (3, .istore_n 2, 1, [], 0)]),
  (4, [(4, .iload_n 2, 1, [], 0), (5, .aload_n 0, 1, [], 0), (6, .getfield 35, 3, [0, 3, 0, 0, 296, 0], 0), (9, .if_icmp .gt 69, 3, [], 0)]),
  (12, [(12, .iload_n 2, 1, [], 0), (13, .bipush 33, 2, [], 0), (15, .if_icmp .ge 63, 3, [], 0)]),
  (18, [(18, .aload_n 0, 1, [], 0), (19, .getfield 9, 3, [0, 0, 284, 1, 290, 0], 1), (22, .iload_n 2, 1, [], 0), (23, .iaload, 1, [], 0), (24, .aload_n 0, 1, [], 0), (25, .getfield 9, 3, [0, 0, 284, 1, 290, 0], 1), (28, .iload_n 2, 1, [], 0), (29, .iconst 1, 1, [], 0), (30, .isub, 1, [], 0), (31, .iaload, 1, [], 0), (32, .if_icmp .ne 37, 3, [], 0)]),
  (35, [(35, .aload_n 0, 1, [], 0), (36, .getfield 13, 3, [0, 1, 284, 1, 292, 0], 2), (39, .iload_n 2, 1, [], 0), (40, .iaload, 1, [], 0), (41, .aload_n 0, 1, [], 0), (42, .getfield 13, 3, [0, 1, 284, 1, 292, 0], 2), (45, .iload_n 2, 1, [], 0), (46, .iconst 1, 1, [], 0), (47, .isub, 1, [], 0), (48, .iaload, 1, [], 0), (49, .if_icmp .ne 20, 3, [], 0)]),
  (52, [(52, .aload_n 0, 1, [], 0), (53, .getfield 16, 3, [0, 2, 284, 1, 294, 0], 3), (56, .iload_n 2, 1, [], 0), (57, .iaload, 1, [], 0), (58, .aload_n 0, 1, [], 0), (59, .getfield 16, 3, [0, 2, 284, 1, 294, 0], 3), (62, .iload_n 2, 1, [], 0), (63, .iconst 1, 1, [], 0), (64, .isub, 1, [], 0), (65, .iaload, 1, [], 0), (66, .if_icmp .eq 6, 3, [], 0)]),
  (69, [(69, .iinc 1 1, 3, [], 0)]),
  (72, [(72, .iinc 2 1, 3, [], 0), (75, .goto (-71), 3, [], 0)]),
  (78, [(78, .iload_n 1, 1, [], 0), (79, .ireturn, 1, [], 0)])]
def BX0_goings_4 (n : Nat) : Nat → Int → Int → Hp → Option (Int)
  | 0, _, _, _ => none
  | f + 1, x1, x2, h =>
    (if (h 30 3) < x2 then
    (some x1)
    else
    (if 33 ≤ x2 then
    (some x1)
    else
    (grd (0 ≤ x2 ∧ x2 < alen 284)
    (grd (0 ≤ (w32 (x2 - 1)) ∧ (w32 (x2 - 1)) < alen 284)
    (if (h 31 x2) ≠ (h 31 (w32 (x2 - 1))) then
    (ltt (w32 (x1 + 1)) fun y1 =>
    (ltt (w32 (x2 + 1)) fun y2 =>
    (BX0_goings_4 n f y1 y2 h)))
    else
    (grd (0 ≤ x2 ∧ x2 < alen 284)
    (grd (0 ≤ (w32 (x2 - 1)) ∧ (w32 (x2 - 1)) < alen 284)
    (if (h 32 x2) ≠ (h 32 (w32 (x2 - 1))) then
    (ltt (w32 (x1 + 1)) fun y3 =>
    (ltt (w32 (x2 + 1)) fun y4 =>
    (BX0_goings_4 n f y3 y4 h)))
    else
    (grd (0 ≤ x2 ∧ x2 < alen 284)
    (grd (0 ≤ (w32 (x2 - 1)) ∧ (w32 (x2 - 1)) < alen 284)
    (if (h 33 x2) = (h 33 (w32 (x2 - 1))) then
    (ltt (w32 (x2 + 1)) fun y5 =>
    (BX0_goings_4 n f x1 y5 h))
    else
    (ltt (w32 (x1 + 1)) fun y6 =>
    (ltt (w32 (x2 + 1)) fun y7 =>
    (BX0_goings_4 n f y6 y7 h))))))))))))))
def LX0_goings_4 (n : Nat) (x1 x2 : Int) (h : Hp) : Option (Int) :=
(BX0_goings_4 n n x1 x2 h)
def MX0_goings (n : Nat) (h : Hp) : Option (Int) :=
(ltt 0 fun y1 =>
(ltt 1 fun y2 =>
(LX0_goings_4 n y1 y2 h)))
def wX0_goings {ρ : Type} (n : Nat) : FN ρ := fun a h k => match a with
  | [_] => bndp (MX0_goings n h) (fun r => k r h)
  | _ => none
def fsX0_goings (n : Nat) (ρ : Type) : List (FN ρ) := []
def KBX0_goings_4 (_ : Nat) (bk : Int → Int → Hp → Option (Int)) : CT (Int) := [(4, [(0, 4, (some 30)), (1, 0, none), (2, 0, none)], [], fun a c h => match a, c with
    | [x1, x2], [] => bk x1 x2 h
    | _, _ => none)]
set_option maxRecDepth 100000 in
theorem eBX0_goings_4 (n f : Nat) (x1 : Int) (x2 : Int) (h : Hp) : BX0_goings_4 n (f + 1) x1 x2 h =
  goAt false (kct (KBX0_goings_4 n (BX0_goings_4 n f))) (fun v _ => some (v)) (fsX0_goings n _) sdX0_goings 1000 4 [(0, 4, 30), (1, 0, x1), (2, 0, x2)] [] h := rfl
def KMX0_goings (n : Nat) : CT (Int) := [(4, [(0, 4, (some 30)), (1, 0, none), (2, 0, none)], [], fun a c h => match a, c with
    | [x1, x2], [] => LX0_goings_4 n x1 x2 h
    | _, _ => none)]
set_option maxRecDepth 100000 in
theorem eMX0_goings (n : Nat) (h : Hp) : MX0_goings n h =
  goAt false (kct (KMX0_goings n)) (fun v _ => some (v)) (fsX0_goings n _) sdX0_goings 1000 0 [(0, 4, 30)] [] h := rfl
theorem okX0_goings : mokb (mi 42) = true := by decide +kernel
theorem rkX0_goings : rkOK 1 (mi 42).1.2.2.2.2.2.2.1 (mi 42).1.2.2.2.1 := Or.inr (Or.inl ⟨rfl, rfl, rfl⟩)
def calX0_goings : List Nat := []
theorem foX0_goings {l : Launch} {ρ : Type} (n : Nat) : fsOK l false mi calX0_goings (fsX0_goings n ρ) := trivial
theorem frX0_goings {ρ : Type} (n : Nat) : ∀ fn ∈ fsX0_goings n ρ, RoF fn := (fun q9 h9 => by cases h9)
theorem ok_sdX0_goings : sdb (mi 42).1.2.1 (insOK mi (mi 42).1.1.cls (mi 42).1.2.2.1 (mi 42).1.2.2.2.2.1 (mi 42).1.2.2.2.2.2.1 calX0_goings false 1) sdX0_goings = true := by decide +kernel
theorem sBX0_goings_4 {l : Launch} {h0 : Hp} {v : Int} (h8 : nOf h0 = 148) (n : Nat) (h : Hp) : ∀ (f : Nat) (x1 : Int) (x2 : Int) {r : Int}, BX0_goings_4 n f x1 x2 h = some r → gV v r → PAt l false (mi 42).1 h0 v h 4 [(0, 4, 30), (1, 0, x1), (2, 0, x2)] [] h := by
  intro f
  induction f with
  | zero =>
    intro x1 x2 r H _
    have H2 : (none : Option (Int)) = some r := H
    cases H2
  | succ f ih =>
    intro x1 x2 r H hG
    exact pat_ro ok_sdX0_goings rfl rkX0_goings h8 (foX0_goings n) (frX0_goings n) (fun v1 q => by
    cases q
    exact ⟨rfl, fun _ => hG⟩) (List.forall_mem_cons.mpr ⟨(fun a c H => by
      dsimp only at H
      split at H
      · exact ih _ _ H hG
      · cases H), (fun q9 h9 => by cases h9)⟩) ((eBX0_goings_4 n f x1 x2 h).symm.trans H)
theorem sLX0_goings_4 {l : Launch} {h0 : Hp} {v : Int} (h8 : nOf h0 = 148) (n : Nat) (x1 : Int) (x2 : Int) (h : Hp) {r : Int} (H : LX0_goings_4 n x1 x2 h = some r) (hG : gV v r) : PAt l false (mi 42).1 h0 v h 4 [(0, 4, 30), (1, 0, x1), (2, 0, x2)] [] h :=
  sBX0_goings_4 h8 n h n x1 x2 H hG
theorem sMX0_goings {l : Launch} {h0 : Hp} {v : Int} (h8 : nOf h0 = 148) (n : Nat)  (h : Hp) {r : Int} (H : MX0_goings n h = some r) (hG : gV v r) : PAt l false (mi 42).1 h0 v h 0 [(0, 4, 30)] [] h :=
  pat_ro ok_sdX0_goings rfl rkX0_goings h8 (foX0_goings n) (frX0_goings n) (fun v1 q => by
    cases q
    exact ⟨rfl, fun _ => hG⟩) (List.forall_mem_cons.mpr ⟨(fun a c H => by
      dsimp only at H
      split at H
      · exact sLX0_goings_4 h8 n _ _ _ H hG
      · cases H), (fun q9 h9 => by cases h9)⟩) ((eMX0_goings n h).symm.trans H)
theorem sndX0_goings {ρ : Type} {l : Launch} (n : Nat) : SndF (ρ := ρ) l false (mi 42).1 (wX0_goings n) := by
    intro a h k r H ha ho hn hf
    have h8 := hf rfl
    obtain ⟨x0, rfl⟩ := len1 (show a.length = 1 from ha)
    have u0 := uq4 hn (ho (4, x0) (List.mem_cons_self))
    subst u0
    replace H : bndp (MX0_goings n h) (fun r => k r h) = some r := H
    obtain ⟨v2, H1, H2⟩ := bndp_some H
    exact ⟨v2, h, H2, met_mk (mok_base okX0_goings).1 (by decide +kernel) (Nat.le_of_ble_eq_true rfl) ho (sMX0_goings h8 n  h H1 rfl), fun q => by cases q⟩
theorem roX0_goings {ρ : Type} (n : Nat) : RoF (wX0_goings n : FN ρ) := fun a h k k2 hk => by
  unfold wX0_goings
  split
  · exact bndp_ro hk
  · rfl
/-! X10_has -/
def sdX10_has : SD := [(0, [(0, .iload_n 1, 1, [], 0), (1, .ifCond .lt 15, 3, [], 0)]),
  (4, [(4, .iload_n 1, 1, [], 0), (5, .aload_n 0, 1, [], 0), (6, .getfield 51, 3, [10, 11, 0, 0, 202, 0], 0), (9, .if_icmp .ge 7, 3, [], 0)]),
  (12, [(12, .iconst 1, 1, [], 0), (13, .goto 4, 3, [], 0)]),
  (16, [(16, .iconst 0, 1, [], 0)]),
  (17, [(17, .ireturn, 1, [1], 0)])]
def MX10_has (x0 x1 : Int) (h : Hp) : Option (Int) :=
(if x1 < 0 then
(some 0)
else
(if (h x0 11) ≤ x1 then
(some 0)
else
(some 1)))
def wX10_has {ρ : Type} : FN ρ := fun a h k => match a with
  | [x0, x1] => bndp (MX10_has x0 x1 h) (fun r => k r h)
  | _ => none
def fsX10_has (ρ : Type) : List (FN ρ) := []
def KMX10_has  : CT (Int) := []
set_option maxRecDepth 100000 in
theorem eMX10_has (x0 : Int) (x1 : Int) (h : Hp) : MX10_has x0 x1 h =
  goAt false (kct (KMX10_has)) (fun v _ => some (v)) (fsX10_has _) sdX10_has 1000 0 [(0, 14, x0), (1, 0, x1)] [] h := rfl
theorem okX10_has : mokb (mi 43) = true := by decide +kernel
theorem rkX10_has : rkOK 4 (mi 43).1.2.2.2.2.2.2.1 (mi 43).1.2.2.2.1 := Or.inr (Or.inr (Or.inl ⟨rfl, rfl, rfl⟩))
def calX10_has : List Nat := []
theorem foX10_has {l : Launch} {ρ : Type} : fsOK l false mi calX10_has (fsX10_has ρ) := trivial
theorem frX10_has {ρ : Type} : ∀ fn ∈ fsX10_has ρ, RoF fn := (fun q9 h9 => by cases h9)
theorem ok_sdX10_has : sdb (mi 43).1.2.1 (insOK mi (mi 43).1.1.cls (mi 43).1.2.2.1 (mi 43).1.2.2.2.2.1 (mi 43).1.2.2.2.2.2.1 calX10_has false 4) sdX10_has = true := by decide +kernel
theorem sMX10_has {l : Launch} {h0 : Hp} {v : Int} (h8 : nOf h0 = 148)  (x0 : Int) (x1 : Int) (h : Hp) {r : Int} (H : MX10_has x0 x1 h = some r) (hG : gV v r) : PAt l false (mi 43).1 h0 v h 0 [(0, 14, x0), (1, 0, x1)] [] h :=
  pat_ro ok_sdX10_has rfl rkX10_has h8 (foX10_has) (frX10_has) (fun v1 q => by
    cases q
    exact ⟨rfl, fun _ => hG⟩) (fun q9 h9 => by cases h9) ((eMX10_has x0 x1 h).symm.trans H)
theorem sndX10_has {ρ : Type} {l : Launch} : SndF (ρ := ρ) l false (mi 43).1 (wX10_has) := by
    intro a h k r H ha ho hn hf
    have h8 := hf rfl
    obtain ⟨x0, x1, rfl⟩ := len2 (show a.length = 2 from ha)
    replace H : bndp (MX10_has x0 x1 h) (fun r => k r h) = some r := H
    obtain ⟨v2, H1, H2⟩ := bndp_some H
    exact ⟨v2, h, H2, met_mk (mok_base okX10_has).1 (by decide +kernel) (Nat.le_of_ble_eq_true rfl) ho (sMX10_has h8 x0 x1 h H1 rfl), fun q => by cases q⟩
theorem roX10_has {ρ : Type} : RoF (wX10_has : FN ρ) := fun a h k k2 hk => by
  unfold wX10_has
  split
  · exact bndp_ro hk
  · rfl
/-! X10_step -/
def sdX10_step : SD := [(0, [(0, .aload_n 0, 1, [], 0), (1, .iload_n 1, 1, [], 0), (2, .invokevirtual 89, 3, [1, 0, 1, 43, 645, 0, 14], 0), (5, .ifCond .eq 32, 3, [], 0)]),
  (8, [(8, .iload_n 2, 1, [], 0), (9, .invokestatic 63, 3, [1, 1, 4, 30, 649, 0], 0), (12, .ifCond .eq 25, 3, [], 0)]),
  (15, [(15, .aload_n 0, 1, [], 0), (16, .getfield 17, 3, [10, 1, 50, 1, 167, 0], 2), (19, .iload_n 2, 1, [], 0), (20, .aaload, 1, [], 0), (21, .iload_n 1, 1, [], 0), (22, .iconst 1, 1, [], 0), (23, .iadd, 1, [], 0), (24, .iaload, 1, [], 0), (25, .aload_n 0, 1, [], 0), (26, .getfield 17, 3, [10, 1, 50, 1, 167, 0], 2), (29, .iload_n 2, 1, [], 0), (30, .aaload, 1, [], 0), (31, .iload_n 1, 1, [], 0), (32, .iaload, 1, [], 0), (33, .isub, 1, [], 0), (34, .goto 4, 3, [], 0)]),
  (37, [(37, .iconst 0, 1, [], 0)]),
  (38, [(38, .ireturn, 1, [], 0)])]
def MX10_step (x0 x1 x2 : Int) (h : Hp) : Option (Int) :=
(bndp (MX10_has x0 x1 h) fun r1 =>
(if r1 = 0 then
(some 0)
else
(bndp (MX11_isAxis x2) fun r2 =>
(if r2 = 0 then
(some 0)
else
(grd (0 ≤ x2 ∧ x2 < alen 50)
(grd (0 ≤ (w32 (x1 + 1)) ∧ (w32 (x1 + 1)) < alen 540)
(grd (0 ≤ x2 ∧ x2 < alen 50)
(grd (0 ≤ x1 ∧ x1 < alen 540)
(some (w32 ((h ((x0 + 2) + 1 + x2) (w32 (x1 + 1))) - (h ((x0 + 2) + 1 + x2) x1))))))))))))
def wX10_step {ρ : Type} : FN ρ := fun a h k => match a with
  | [x0, x1, x2] => bndp (MX10_step x0 x1 x2 h) (fun r => k r h)
  | _ => none
def fsX10_step (ρ : Type) : List (FN ρ) := [wX10_has, wX11_isAxis]
def KMX10_step  : CT (Int) := []
set_option maxRecDepth 100000 in
theorem eMX10_step (x0 : Int) (x1 : Int) (x2 : Int) (h : Hp) : MX10_step x0 x1 x2 h =
  goAt false (kct (KMX10_step)) (fun v _ => some (v)) (fsX10_step _) sdX10_step 1000 0 [(0, 14, x0), (1, 0, x1), (2, 0, x2)] [] h := rfl
theorem okX10_step : mokb (mi 44) = true := by decide +kernel
theorem rkX10_step : rkOK 1 (mi 44).1.2.2.2.2.2.2.1 (mi 44).1.2.2.2.1 := Or.inr (Or.inl ⟨rfl, rfl, rfl⟩)
def calX10_step : List Nat := [43, 30]
theorem foX10_step {l : Launch} {ρ : Type} : fsOK l false mi calX10_step (fsX10_step ρ) := ⟨sndX10_has, ⟨sndX11_isAxis, trivial⟩⟩
theorem frX10_step {ρ : Type} : ∀ fn ∈ fsX10_step ρ, RoF fn := (List.forall_mem_cons.mpr ⟨roX10_has, (List.forall_mem_cons.mpr ⟨roX11_isAxis, (fun q9 h9 => by cases h9)⟩)⟩)
theorem ok_sdX10_step : sdb (mi 44).1.2.1 (insOK mi (mi 44).1.1.cls (mi 44).1.2.2.1 (mi 44).1.2.2.2.2.1 (mi 44).1.2.2.2.2.2.1 calX10_step false 1) sdX10_step = true := by decide +kernel
theorem sMX10_step {l : Launch} {h0 : Hp} {v : Int} (h8 : nOf h0 = 148)  (x0 : Int) (x1 : Int) (x2 : Int) (h : Hp) {r : Int} (H : MX10_step x0 x1 x2 h = some r) (hG : gV v r) : PAt l false (mi 44).1 h0 v h 0 [(0, 14, x0), (1, 0, x1), (2, 0, x2)] [] h :=
  pat_ro ok_sdX10_step rfl rkX10_step h8 (foX10_step) (frX10_step) (fun v1 q => by
    cases q
    exact ⟨rfl, fun _ => hG⟩) (fun q9 h9 => by cases h9) ((eMX10_step x0 x1 x2 h).symm.trans H)
theorem sndX10_step {ρ : Type} {l : Launch} : SndF (ρ := ρ) l false (mi 44).1 (wX10_step) := by
    intro a h k r H ha ho hn hf
    have h8 := hf rfl
    obtain ⟨x0, x1, x2, rfl⟩ := len3 (show a.length = 3 from ha)
    replace H : bndp (MX10_step x0 x1 x2 h) (fun r => k r h) = some r := H
    obtain ⟨v2, H1, H2⟩ := bndp_some H
    exact ⟨v2, h, H2, met_mk (mok_base okX10_step).1 (by decide +kernel) (Nat.le_of_ble_eq_true rfl) ho (sMX10_step h8 x0 x1 x2 h H1 rfl), fun q => by cases q⟩
theorem roX10_step {ρ : Type} : RoF (wX10_step : FN ρ) := fun a h k k2 hk => by
  unfold wX10_step
  split
  · exact bndp_ro hk
  · rfl
/-! X10_rateAlong -/
def sdX10_rateAlong : SD := [(0, [(0, .iload_n 3, 1, [], 0), (1, .i2l, 1, [], 0), (2, .aload_n 0, 1, [], 0), (3, .getfield 20, 3, [10, 2, 532, 1, 172, 0], 6), (6, .iload_n 1, 1, [], 0), (7, .iaload, 1, [], 0), (8, .i2l, 1, [], 0), (9, .lmul, 1, [], 0), (10, .iload_n 2, 1, [], 0), (11, .invokestatic 102, 3, [1, 0, 3, 263, 969, 0], 0), (14, .i2l, 1, [], 0), (15, .invokestatic 105, 3, [1, 1, 4, 36, 972, 1, 1], 0), (18, .ireturn, 1, [], 0)])]
def MX10_rateAlong (x0 x1 x2 x3 : Int) (h : Hp) : Option (Int) :=
(grd (0 ≤ x1 ∧ x1 < alen 532)
(bndp (MX11_share (w64 (x3 * (h (x0 + 6) x1))) (jabs x2)) fun r1 =>
(some r1)))
def wX10_rateAlong {ρ : Type} : FN ρ := fun a h k => match a with
  | [x0, x1, x2, x3] => bndp (MX10_rateAlong x0 x1 x2 x3 h) (fun r => k r h)
  | _ => none
def fsX10_rateAlong (ρ : Type) : List (FN ρ) := [fabs, wX11_share]
def KMX10_rateAlong  : CT (Int) := []
set_option maxRecDepth 100000 in
theorem eMX10_rateAlong (x0 : Int) (x1 : Int) (x2 : Int) (x3 : Int) (h : Hp) : MX10_rateAlong x0 x1 x2 x3 h =
  goAt false (kct (KMX10_rateAlong)) (fun v _ => some (v)) (fsX10_rateAlong _) sdX10_rateAlong 1000 0 [(0, 14, x0), (1, 0, x1), (2, 0, x2), (3, 0, x3)] [] h := rfl
theorem okX10_rateAlong : mokb (mi 45) = true := by decide +kernel
theorem rkX10_rateAlong : rkOK 1 (mi 45).1.2.2.2.2.2.2.1 (mi 45).1.2.2.2.1 := Or.inr (Or.inl ⟨rfl, rfl, rfl⟩)
def calX10_rateAlong : List Nat := [263, 36]
theorem foX10_rateAlong {l : Launch} {ρ : Type} : fsOK l false mi calX10_rateAlong (fsX10_rateAlong ρ) := ⟨snd_mabs, ⟨sndX11_share, trivial⟩⟩
theorem frX10_rateAlong {ρ : Type} : ∀ fn ∈ fsX10_rateAlong ρ, RoF fn := (List.forall_mem_cons.mpr ⟨ro_mabs, (List.forall_mem_cons.mpr ⟨roX11_share, (fun q9 h9 => by cases h9)⟩)⟩)
theorem ok_sdX10_rateAlong : sdb (mi 45).1.2.1 (insOK mi (mi 45).1.1.cls (mi 45).1.2.2.1 (mi 45).1.2.2.2.2.1 (mi 45).1.2.2.2.2.2.1 calX10_rateAlong false 1) sdX10_rateAlong = true := by decide +kernel
theorem sMX10_rateAlong {l : Launch} {h0 : Hp} {v : Int} (h8 : nOf h0 = 148)  (x0 : Int) (x1 : Int) (x2 : Int) (x3 : Int) (h : Hp) {r : Int} (H : MX10_rateAlong x0 x1 x2 x3 h = some r) (hG : gV v r) : PAt l false (mi 45).1 h0 v h 0 [(0, 14, x0), (1, 0, x1), (2, 0, x2), (3, 0, x3)] [] h :=
  pat_ro ok_sdX10_rateAlong rfl rkX10_rateAlong h8 (foX10_rateAlong) (frX10_rateAlong) (fun v1 q => by
    cases q
    exact ⟨rfl, fun _ => hG⟩) (fun q9 h9 => by cases h9) ((eMX10_rateAlong x0 x1 x2 x3 h).symm.trans H)
theorem sndX10_rateAlong {ρ : Type} {l : Launch} : SndF (ρ := ρ) l false (mi 45).1 (wX10_rateAlong) := by
    intro a h k r H ha ho hn hf
    have h8 := hf rfl
    obtain ⟨x0, x1, x2, x3, rfl⟩ := len4 (show a.length = 4 from ha)
    replace H : bndp (MX10_rateAlong x0 x1 x2 x3 h) (fun r => k r h) = some r := H
    obtain ⟨v2, H1, H2⟩ := bndp_some H
    exact ⟨v2, h, H2, met_mk (mok_base okX10_rateAlong).1 (by decide +kernel) (Nat.le_of_ble_eq_true rfl) ho (sMX10_rateAlong h8 x0 x1 x2 x3 h H1 rfl), fun q => by cases q⟩
theorem roX10_rateAlong {ρ : Type} : RoF (wX10_rateAlong : FN ρ) := fun a h k k2 hk => by
  unfold wX10_rateAlong
  split
  · exact bndp_ro hk
  · rfl
/-! X10_leastRate -/
def sdX10_leastRate : SD := [(0, [(0, .ldc 92, 2, [0, 964], 163840000), (2, .istore_n 3, 1, [], 0), (3, .iconst 0, 1, [], 0), (4, .istore 4, 2, [], 0)]),
  (6, [(6, .iload 4, 2, [], 0), (8, .iconst 3, 1, [], 0), (9, .if_icmp .ge 44, 3, [], 0)]),
  (12, [(12, .aload_n 0, 1, [], 0), (13, .iload_n 1, 1, [], 0), (14, .iload 4, 2, [], 0), (16, .invokevirtual 71, 3, [1, 0, 1, 44, 957, 0, 0, 14], 0), (19, .istore 5, 2, [], 0), (21, .iload 5, 2, [], 0), (23, .ifCond .eq 24, 3, [], 0)]),
  (26, [(26, .iload_n 3, 1, [], 0), (27, .aload_n 0, 1, [], 0), (28, .iload_n 1, 1, [], 0), (29, .iload 5, 2, [], 0), (31, .aload_n 0, 1, [], 0), (32, .getfield 9, 3, [10, 0, 68, 1, 165, 0], 1), (35, .iload_n 2, 1, [], 0), (36, .iload 4, 2, [], 0), (38, .iadd, 1, [], 0), (39, .iaload, 1, [], 0), (40, .invokevirtual 93, 3, [1, 1, 1, 45, 965, 0, 0, 0, 14], 0), (43, .invokestatic 97, 3, [1, 2, 3, 261, 973, 0, 0], 0), (46, .istore_n 3, 1, [], 0)]),
  (47, [(47, .iinc 4 1, 3, [], 0), (50, .goto (-44), 3, [], 0)]),
  (53, [(53, .iload_n 3, 1, [], 0), (54, .ireturn, 1, [], 0)])]
def BX10_leastRate_6 (n : Nat) : Nat → Int → Int → Int → Int → Int → Hp → Option (Int)
  | 0, _, _, _, _, _, _ => none
  | f + 1, x0, x1, x2, x3, x4, h =>
    (if 3 ≤ x4 then
    (some x3)
    else
    (bndp (MX10_step x0 x1 x4 h) fun r1 =>
    (ltt r1 fun y1 =>
    (if y1 = 0 then
    (ltt (w32 (x4 + 1)) fun y2 =>
    (BX10_leastRate_6 n f x0 x1 x2 x3 y2 h))
    else
    (grd (0 ≤ (w32 (x2 + x4)) ∧ (w32 (x2 + x4)) < alen 68)
    (bndp (MX10_rateAlong x0 x1 y1 (h (x0 + 1) (w32 (x2 + x4))) h) fun r2 =>
    (ltt (min x3 r2) fun y3 =>
    (ltt (w32 (x4 + 1)) fun y4 =>
    (BX10_leastRate_6 n f x0 x1 x2 y3 y4 h)))))))))
def LX10_leastRate_6 (n : Nat) (x0 x1 x2 x3 x4 : Int) (h : Hp) : Option (Int) :=
(BX10_leastRate_6 n n x0 x1 x2 x3 x4 h)
def MX10_leastRate (n : Nat) (x0 x1 x2 : Int) (h : Hp) : Option (Int) :=
(ltt 163840000 fun y1 =>
(ltt 0 fun y2 =>
(LX10_leastRate_6 n x0 x1 x2 y1 y2 h)))
def wX10_leastRate {ρ : Type} (n : Nat) : FN ρ := fun a h k => match a with
  | [x0, x1, x2] => bndp (MX10_leastRate n x0 x1 x2 h) (fun r => k r h)
  | _ => none
def fsX10_leastRate (n : Nat) (ρ : Type) : List (FN ρ) := [wX10_step, wX10_rateAlong, fmin]
def KBX10_leastRate_6 (_ : Nat) (bk : Int → Int → Int → Int → Int → Hp → Option (Int)) : CT (Int) := [(6, [(0, 14, none), (1, 0, none), (2, 0, none), (3, 0, none), (4, 0, none)], [], fun a c h => match a, c with
    | [x0, x1, x2, x3, x4], [] => bk x0 x1 x2 x3 x4 h
    | _, _ => none)]
set_option maxRecDepth 100000 in
theorem eBX10_leastRate_6 (n f : Nat) (x0 : Int) (x1 : Int) (x2 : Int) (x3 : Int) (x4 : Int) (h : Hp) : BX10_leastRate_6 n (f + 1) x0 x1 x2 x3 x4 h =
  goAt false (kct (KBX10_leastRate_6 n (BX10_leastRate_6 n f))) (fun v _ => some (v)) (fsX10_leastRate n _) sdX10_leastRate 1000 6 [(0, 14, x0), (1, 0, x1), (2, 0, x2), (3, 0, x3), (4, 0, x4)] [] h := rfl
def KMX10_leastRate (n : Nat) : CT (Int) := [(6, [(0, 14, none), (1, 0, none), (2, 0, none), (3, 0, none), (4, 0, none)], [], fun a c h => match a, c with
    | [x0, x1, x2, x3, x4], [] => LX10_leastRate_6 n x0 x1 x2 x3 x4 h
    | _, _ => none)]
set_option maxRecDepth 100000 in
theorem eMX10_leastRate (n : Nat) (x0 : Int) (x1 : Int) (x2 : Int) (h : Hp) : MX10_leastRate n x0 x1 x2 h =
  goAt false (kct (KMX10_leastRate n)) (fun v _ => some (v)) (fsX10_leastRate n _) sdX10_leastRate 1000 0 [(0, 14, x0), (1, 0, x1), (2, 0, x2)] [] h := rfl
theorem okX10_leastRate : mokb (mi 46) = true := by decide +kernel
theorem rkX10_leastRate : rkOK 1 (mi 46).1.2.2.2.2.2.2.1 (mi 46).1.2.2.2.1 := Or.inr (Or.inl ⟨rfl, rfl, rfl⟩)
def calX10_leastRate : List Nat := [44, 45, 261]
theorem foX10_leastRate {l : Launch} {ρ : Type} (n : Nat) : fsOK l false mi calX10_leastRate (fsX10_leastRate n ρ) := ⟨sndX10_step, ⟨sndX10_rateAlong, ⟨snd_mmin, trivial⟩⟩⟩
theorem frX10_leastRate {ρ : Type} (n : Nat) : ∀ fn ∈ fsX10_leastRate n ρ, RoF fn := (List.forall_mem_cons.mpr ⟨roX10_step, (List.forall_mem_cons.mpr ⟨roX10_rateAlong, (List.forall_mem_cons.mpr ⟨ro_mmin, (fun q9 h9 => by cases h9)⟩)⟩)⟩)
theorem ok_sdX10_leastRate : sdb (mi 46).1.2.1 (insOK mi (mi 46).1.1.cls (mi 46).1.2.2.1 (mi 46).1.2.2.2.2.1 (mi 46).1.2.2.2.2.2.1 calX10_leastRate false 1) sdX10_leastRate = true := by decide +kernel
theorem sBX10_leastRate_6 {l : Launch} {h0 : Hp} {v : Int} (h8 : nOf h0 = 148) (n : Nat) (h : Hp) : ∀ (f : Nat) (x0 : Int) (x1 : Int) (x2 : Int) (x3 : Int) (x4 : Int) {r : Int}, BX10_leastRate_6 n f x0 x1 x2 x3 x4 h = some r → gV v r → PAt l false (mi 46).1 h0 v h 6 [(0, 14, x0), (1, 0, x1), (2, 0, x2), (3, 0, x3), (4, 0, x4)] [] h := by
  intro f
  induction f with
  | zero =>
    intro x0 x1 x2 x3 x4 r H _
    have H2 : (none : Option (Int)) = some r := H
    cases H2
  | succ f ih =>
    intro x0 x1 x2 x3 x4 r H hG
    exact pat_ro ok_sdX10_leastRate rfl rkX10_leastRate h8 (foX10_leastRate n) (frX10_leastRate n) (fun v1 q => by
    cases q
    exact ⟨rfl, fun _ => hG⟩) (List.forall_mem_cons.mpr ⟨(fun a c H => by
      dsimp only at H
      split at H
      · exact ih _ _ _ _ _ H hG
      · cases H), (fun q9 h9 => by cases h9)⟩) ((eBX10_leastRate_6 n f x0 x1 x2 x3 x4 h).symm.trans H)
theorem sLX10_leastRate_6 {l : Launch} {h0 : Hp} {v : Int} (h8 : nOf h0 = 148) (n : Nat) (x0 : Int) (x1 : Int) (x2 : Int) (x3 : Int) (x4 : Int) (h : Hp) {r : Int} (H : LX10_leastRate_6 n x0 x1 x2 x3 x4 h = some r) (hG : gV v r) : PAt l false (mi 46).1 h0 v h 6 [(0, 14, x0), (1, 0, x1), (2, 0, x2), (3, 0, x3), (4, 0, x4)] [] h :=
  sBX10_leastRate_6 h8 n h n x0 x1 x2 x3 x4 H hG
theorem sMX10_leastRate {l : Launch} {h0 : Hp} {v : Int} (h8 : nOf h0 = 148) (n : Nat) (x0 : Int) (x1 : Int) (x2 : Int) (h : Hp) {r : Int} (H : MX10_leastRate n x0 x1 x2 h = some r) (hG : gV v r) : PAt l false (mi 46).1 h0 v h 0 [(0, 14, x0), (1, 0, x1), (2, 0, x2)] [] h :=
  pat_ro ok_sdX10_leastRate rfl rkX10_leastRate h8 (foX10_leastRate n) (frX10_leastRate n) (fun v1 q => by
    cases q
    exact ⟨rfl, fun _ => hG⟩) (List.forall_mem_cons.mpr ⟨(fun a c H => by
      dsimp only at H
      split at H
      · exact sLX10_leastRate_6 h8 n _ _ _ _ _ _ H hG
      · cases H), (fun q9 h9 => by cases h9)⟩) ((eMX10_leastRate n x0 x1 x2 h).symm.trans H)
theorem sndX10_leastRate {ρ : Type} {l : Launch} (n : Nat) : SndF (ρ := ρ) l false (mi 46).1 (wX10_leastRate n) := by
    intro a h k r H ha ho hn hf
    have h8 := hf rfl
    obtain ⟨x0, x1, x2, rfl⟩ := len3 (show a.length = 3 from ha)
    replace H : bndp (MX10_leastRate n x0 x1 x2 h) (fun r => k r h) = some r := H
    obtain ⟨v2, H1, H2⟩ := bndp_some H
    exact ⟨v2, h, H2, met_mk (mok_base okX10_leastRate).1 (by decide +kernel) (Nat.le_of_ble_eq_true rfl) ho (sMX10_leastRate h8 n x0 x1 x2 h H1 rfl), fun q => by cases q⟩
theorem roX10_leastRate {ρ : Type} (n : Nat) : RoF (wX10_leastRate n : FN ρ) := fun a h k k2 hk => by
  unfold wX10_leastRate
  split
  · exact bndp_ro hk
  · rfl
/-! X10_sharpness -/
def sdX10_sharpness : SD := [(0, [(0, .lconst 0, 1, [], 0), (1, .lstore_n 2, 1, [], 0), (2, .iconst 0, 1, [], 0), (3, .istore 4, 2, [], 0)]),
  (5, [(5, .iload 4, 2, [], 0), (7, .iconst 3, 1, [], 0), (8, .if_icmp .ge 69, 3, [], 0)]),
  (11, [(11, .aload_n 0, 1, [], 0), (12, .iload_n 1, 1, [], 0), (13, .iconst 1, 1, [], 0), (14, .iadd, 1, [], 0), (15, .iload 4, 2, [], 0), (17, .invokevirtual 71, 3, [1, 0, 1, 44, 957, 0, 0, 14], 0), (20, .i2l, 1, [], 0), (21, .ldc2_w 109, 3, [1, 978], 32768), (24, .lmul, 1, [], 0), (25, .aload_n 0, 1, [], 0), (26, .getfield 20, 3, [10, 2, 532, 1, 172, 0], 6), (29, .iload_n 1, 1, [], 0), (30, .iconst 1, 1, [], 0), (31, .iadd, 1, [], 0), (32, .iaload, 1, [], 0), (33, .i2l, 1, [], 0), (34, .invokestatic 105, 3, [1, 1, 4, 36, 972, 1, 1], 0), (37, .aload_n 0, 1, [], 0), (38, .iload_n 1, 1, [], 0), (39, .iload 4, 2, [], 0), (41, .invokevirtual 71, 3, [1, 0, 1, 44, 957, 0, 0, 14], 0), (44, .i2l, 1, [], 0), (45, .ldc2_w 109, 3, [1, 978], 32768), (48, .lmul, 1, [], 0), (49, .aload_n 0, 1, [], 0), (50, .getfield 20, 3, [10, 2, 532, 1, 172, 0], 6), (53, .iload_n 1, 1, [], 0), (54, .iaload, 1, [], 0), (55, .i2l, 1, [], 0), (56, .invokestatic 105, 3, [1, 1, 4, 36, 972, 1, 1], 0), (59, .isub, 1, [], 0), (60, .istore 5, 2, [], 0), (62, .lload_n 2, 1, [], 0), (63, .iload 5, 2, [], 0), (65, .i2l, 1, [], 0), (66, .invokestatic 75, 3, [2, 2, 4, 32, 958, 1], 0), (69, .ladd, 1, [], 0), (70, .lstore_n 2, 1, [], 0), (71, .iinc 4 1, 3, [], 0), (74, .goto (-69), 3, [], 0)]),
  (77, [(77, .lload_n 2, 1, [], 0), (78, .invokestatic 79, 3, [1, 3, 4, 33, 959, 1], 0), (81, .ireturn, 1, [], 0)])]
def BX10_sharpness_5 (n : Nat) : Nat → Int → Int → Int → Int → Hp → Option (Int)
  | 0, _, _, _, _, _ => none
  | f + 1, x0, x1, x2, x4, h =>
    (if 3 ≤ x4 then
    (bndp (MX11_root n x2) fun r1 =>
    (some r1))
    else
    (bndp (MX10_step x0 (w32 (x1 + 1)) x4 h) fun r2 =>
    (grd (0 ≤ (w32 (x1 + 1)) ∧ (w32 (x1 + 1)) < alen 532)
    (bndp (MX11_share (w64 (r2 * 32768)) (h (x0 + 6) (w32 (x1 + 1)))) fun r3 =>
    (bndp (MX10_step x0 x1 x4 h) fun r4 =>
    (grd (0 ≤ x1 ∧ x1 < alen 532)
    (bndp (MX11_share (w64 (r4 * 32768)) (h (x0 + 6) x1)) fun r5 =>
    (ltt (w32 (r3 - r5)) fun y1 =>
    (bndp (MX11_square y1) fun r6 =>
    (ltt (w64 (x2 + r6)) fun y2 =>
    (ltt (w32 (x4 + 1)) fun y3 =>
    (BX10_sharpness_5 n f x0 x1 y2 y3 h))))))))))))
def LX10_sharpness_5 (n : Nat) (x0 x1 x2 x4 : Int) (h : Hp) : Option (Int) :=
(BX10_sharpness_5 n n x0 x1 x2 x4 h)
def MX10_sharpness (n : Nat) (x0 x1 : Int) (h : Hp) : Option (Int) :=
(ltt 0 fun y1 =>
(ltt 0 fun y2 =>
(LX10_sharpness_5 n x0 x1 y1 y2 h)))
def wX10_sharpness {ρ : Type} (n : Nat) : FN ρ := fun a h k => match a with
  | [x0, x1] => bndp (MX10_sharpness n x0 x1 h) (fun r => k r h)
  | _ => none
def fsX10_sharpness (n : Nat) (ρ : Type) : List (FN ρ) := [wX10_step, wX11_share, wX11_square, wX11_root n]
def KBX10_sharpness_5 (_ : Nat) (bk : Int → Int → Int → Int → Hp → Option (Int)) : CT (Int) := [(5, [(0, 14, none), (1, 0, none), (2, 1, none), (4, 0, none)], [], fun a c h => match a, c with
    | [x0, x1, x2, x4], [] => bk x0 x1 x2 x4 h
    | _, _ => none)]
set_option maxRecDepth 100000 in
theorem eBX10_sharpness_5 (n f : Nat) (x0 : Int) (x1 : Int) (x2 : Int) (x4 : Int) (h : Hp) : BX10_sharpness_5 n (f + 1) x0 x1 x2 x4 h =
  goAt false (kct (KBX10_sharpness_5 n (BX10_sharpness_5 n f))) (fun v _ => some (v)) (fsX10_sharpness n _) sdX10_sharpness 1000 5 [(0, 14, x0), (1, 0, x1), (2, 1, x2), (4, 0, x4)] [] h := rfl
def KMX10_sharpness (n : Nat) : CT (Int) := [(5, [(0, 14, none), (1, 0, none), (2, 1, none), (4, 0, none)], [], fun a c h => match a, c with
    | [x0, x1, x2, x4], [] => LX10_sharpness_5 n x0 x1 x2 x4 h
    | _, _ => none)]
set_option maxRecDepth 100000 in
theorem eMX10_sharpness (n : Nat) (x0 : Int) (x1 : Int) (h : Hp) : MX10_sharpness n x0 x1 h =
  goAt false (kct (KMX10_sharpness n)) (fun v _ => some (v)) (fsX10_sharpness n _) sdX10_sharpness 1000 0 [(0, 14, x0), (1, 0, x1)] [] h := rfl
theorem okX10_sharpness : mokb (mi 47) = true := by decide +kernel
theorem rkX10_sharpness : rkOK 1 (mi 47).1.2.2.2.2.2.2.1 (mi 47).1.2.2.2.1 := Or.inr (Or.inl ⟨rfl, rfl, rfl⟩)
def calX10_sharpness : List Nat := [44, 36, 32, 33]
theorem foX10_sharpness {l : Launch} {ρ : Type} (n : Nat) : fsOK l false mi calX10_sharpness (fsX10_sharpness n ρ) := ⟨sndX10_step, ⟨sndX11_share, ⟨sndX11_square, ⟨(sndX11_root n), trivial⟩⟩⟩⟩
theorem frX10_sharpness {ρ : Type} (n : Nat) : ∀ fn ∈ fsX10_sharpness n ρ, RoF fn := (List.forall_mem_cons.mpr ⟨roX10_step, (List.forall_mem_cons.mpr ⟨roX11_share, (List.forall_mem_cons.mpr ⟨roX11_square, (List.forall_mem_cons.mpr ⟨(roX11_root n), (fun q9 h9 => by cases h9)⟩)⟩)⟩)⟩)
theorem ok_sdX10_sharpness : sdb (mi 47).1.2.1 (insOK mi (mi 47).1.1.cls (mi 47).1.2.2.1 (mi 47).1.2.2.2.2.1 (mi 47).1.2.2.2.2.2.1 calX10_sharpness false 1) sdX10_sharpness = true := by decide +kernel
theorem sBX10_sharpness_5 {l : Launch} {h0 : Hp} {v : Int} (h8 : nOf h0 = 148) (n : Nat) (h : Hp) : ∀ (f : Nat) (x0 : Int) (x1 : Int) (x2 : Int) (x4 : Int) {r : Int}, BX10_sharpness_5 n f x0 x1 x2 x4 h = some r → gV v r → PAt l false (mi 47).1 h0 v h 5 [(0, 14, x0), (1, 0, x1), (2, 1, x2), (4, 0, x4)] [] h := by
  intro f
  induction f with
  | zero =>
    intro x0 x1 x2 x4 r H _
    have H2 : (none : Option (Int)) = some r := H
    cases H2
  | succ f ih =>
    intro x0 x1 x2 x4 r H hG
    exact pat_ro ok_sdX10_sharpness rfl rkX10_sharpness h8 (foX10_sharpness n) (frX10_sharpness n) (fun v1 q => by
    cases q
    exact ⟨rfl, fun _ => hG⟩) (List.forall_mem_cons.mpr ⟨(fun a c H => by
      dsimp only at H
      split at H
      · exact ih _ _ _ _ H hG
      · cases H), (fun q9 h9 => by cases h9)⟩) ((eBX10_sharpness_5 n f x0 x1 x2 x4 h).symm.trans H)
theorem sLX10_sharpness_5 {l : Launch} {h0 : Hp} {v : Int} (h8 : nOf h0 = 148) (n : Nat) (x0 : Int) (x1 : Int) (x2 : Int) (x4 : Int) (h : Hp) {r : Int} (H : LX10_sharpness_5 n x0 x1 x2 x4 h = some r) (hG : gV v r) : PAt l false (mi 47).1 h0 v h 5 [(0, 14, x0), (1, 0, x1), (2, 1, x2), (4, 0, x4)] [] h :=
  sBX10_sharpness_5 h8 n h n x0 x1 x2 x4 H hG
theorem sMX10_sharpness {l : Launch} {h0 : Hp} {v : Int} (h8 : nOf h0 = 148) (n : Nat) (x0 : Int) (x1 : Int) (h : Hp) {r : Int} (H : MX10_sharpness n x0 x1 h = some r) (hG : gV v r) : PAt l false (mi 47).1 h0 v h 0 [(0, 14, x0), (1, 0, x1)] [] h :=
  pat_ro ok_sdX10_sharpness rfl rkX10_sharpness h8 (foX10_sharpness n) (frX10_sharpness n) (fun v1 q => by
    cases q
    exact ⟨rfl, fun _ => hG⟩) (List.forall_mem_cons.mpr ⟨(fun a c H => by
      dsimp only at H
      split at H
      · exact sLX10_sharpness_5 h8 n _ _ _ _ _ H hG
      · cases H), (fun q9 h9 => by cases h9)⟩) ((eMX10_sharpness n x0 x1 h).symm.trans H)
theorem sndX10_sharpness {ρ : Type} {l : Launch} (n : Nat) : SndF (ρ := ρ) l false (mi 47).1 (wX10_sharpness n) := by
    intro a h k r H ha ho hn hf
    have h8 := hf rfl
    obtain ⟨x0, x1, rfl⟩ := len2 (show a.length = 2 from ha)
    replace H : bndp (MX10_sharpness n x0 x1 h) (fun r => k r h) = some r := H
    obtain ⟨v2, H1, H2⟩ := bndp_some H
    exact ⟨v2, h, H2, met_mk (mok_base okX10_sharpness).1 (by decide +kernel) (Nat.le_of_ble_eq_true rfl) ho (sMX10_sharpness h8 n x0 x1 h H1 rfl), fun q => by cases q⟩
theorem roX10_sharpness {ρ : Type} (n : Nat) : RoF (wX10_sharpness n : FN ρ) := fun a h k k2 hk => by
  unfold wX10_sharpness
  split
  · exact bndp_ro hk
  · rfl
