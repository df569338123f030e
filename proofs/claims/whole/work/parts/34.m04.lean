/-! X12_turns -/
def sdX12_turns : SD := [(0, [(0, .iload_n 1, 1, [], 0), (1, .i2l, 1, [], 0), (2, .invokestatic 150, 3, [2, 0, 3, 92, 1314, 1], 0), (5, .iload_n 2, 1, [], 0), (6, .i2l, 1, [], 0), (7, .invokestatic 150, 3, [2, 0, 3, 92, 1314, 1], 0), (10, .ladd, 1, [], 0), (11, .invokestatic 154, 3, [1, 1, 3, 93, 1317, 1], 0), (14, .istore 6, 2, [], 0), (16, .iload_n 3, 1, [], 0), (17, .ifCond .le 7, 3, [], 0)]),
  (20, [(20, .iconst 1, 1, [], 0), (21, .goto 4, 3, [], 0)]),
  (24, [(24, .iconst 0, 1, [], 0)]),
  (25, [(25, .istore 7, 2, [], 0), (27, .aload_n 0, 1, [], 0), (28, .iload_n 3, 1, [], 0), (29, .invokestatic 286, 3, [1, 2, 3, 263, 1625, 0], 0), (32, .putfield 283, 3, [12, 30, 0, 0, 0, 1352], 0), (35, .aload_n 0, 1, [], 0), (36, .getfield 59, 3, [12, 28, 285, 1, 1350, 0], 16), (39, .iconst 0, 1, [], 0), (40, .iload_n 1, 1, [], 0), (41, .ineg, 1, [], 0), (42, .i2l, 1, [], 0), (43, .lastore, 1, [], 0), (44, .aload_n 0, 1, [], 0), (45, .getfield 62, 3, [12, 29, 285, 1, 1351, 0], 17), (48, .iconst 0, 1, [], 0), (49, .iload_n 2, 1, [], 0), (50, .ineg, 1, [], 0), (51, .i2l, 1, [], 0), (52, .lastore, 1, [], 0), (53, .iconst 1, 1, [], 0), (54, .istore 8, 2, [], 0)]),
  (56, [(56, .iload 8, 2, [], 0), (58, .aload_n 0, 1, [], 0), (59, .getfield 283, 3, [12, 30, 0, 0, 1352, 0], 0), (62, .if_icmp .gt 77, 3, [], 0)]),
  (65, [(65, .aload_n 0, 1, [], 0), (66, .getfield 59, 3, [12, 28, 285, 1, 1350, 0], 16), (69, .iload 8, 2, [], 0), (71, .iload 7, 2, [], 0), (73, .ifCond .eq 16, 3, [], 0)]),
  (76, [(76, .aload_n 0, 1, [], 0), (77, .getfield 62, 3, [12, 29, 285, 1, 1351, 0], 17), (80, .iload 8, 2, [], 0), (82, .iconst 1, 1, [], 0), (83, .isub, 1, [], 0), (84, .laload, 1, [], 0), (85, .lneg, 1, [], 0), (86, .goto 12, 3, [], 0)]),
  (89, [(89, .aload_n 0, 1, [], 0), (90, .getfield 62, 3, [12, 29, 285, 1, 1351, 0], 17), (93, .iload 8, 2, [], 0), (95, .iconst 1, 1, [], 0), (96, .isub, 1, [], 0), (97, .laload, 1, [], 0)]),
  (98, [(98, .lastore, 1, [], 0), (99, .aload_n 0, 1, [], 0), (100, .getfield 62, 3, [12, 29, 285, 1, 1351, 0], 17), (103, .iload 8, 2, [], 0), (105, .iload 7, 2, [], 0), (107, .ifCond .eq 15, 3, [], 0)]),
  (110, [(110, .aload_n 0, 1, [], 0), (111, .getfield 59, 3, [12, 28, 285, 1, 1350, 0], 16), (114, .iload 8, 2, [], 0), (116, .iconst 1, 1, [], 0), (117, .isub, 1, [], 0), (118, .laload, 1, [], 0), (119, .goto 13, 3, [], 0)]),
  (122, [(122, .aload_n 0, 1, [], 0), (123, .getfield 59, 3, [12, 28, 285, 1, 1350, 0], 16), (126, .iload 8, 2, [], 0), (128, .iconst 1, 1, [], 0), (129, .isub, 1, [], 0), (130, .laload, 1, [], 0), (131, .lneg, 1, [], 0)]),
  (132, [(132, .lastore, 1, [], 0), (133, .iinc 8 1, 3, [], 0), (136, .goto (-80), 3, [], 0)]),
  (139, [(139, .iconst 0, 1, [], 0), (140, .istore 8, 2, [], 0)]),
  (142, [(142, .iload 8, 2, [], 0), (144, .iconst 3, 1, [], 0), (145, .if_icmp .ge 31, 3, [], 0)]),
  (148, [(148, .aload_n 0, 1, [], 0), (149, .iload 6, 2, [], 0), (151, .invokevirtual 290, 3, [1, 3, 1, 94, 1626, 0, 16], 0), (154, .aload_n 0, 1, [], 0), (155, .getfield 11, 3, [12, 0, 84, 1, 1322, 0], 1), (158, .bipush 7, 2, [], 0), (160, .iaload, 1, [], 0), (161, .if_icmp .le 15, 3, [], 0)]),
  (164, [(164, .aload_n 0, 1, [], 0), (165, .iload 6, 2, [], 0), (167, .invokevirtual 293, 3, [0, 4, 1, 95, 1630, 0, 16], 0), (170, .iinc 8 1, 3, [], 0), (173, .goto (-31), 3, [], 0)]),
  (176, [(176, .aload_n 0, 1, [], 0), (177, .getfield 56, 3, [12, 25, 44, 1, 1347, 0], 15), (180, .iconst 0, 1, [], 0), (181, .iaload, 1, [], 0), (182, .iload_n 1, 1, [], 0), (183, .iadd, 1, [], 0), (184, .istore 8, 2, [], 0), (186, .aload_n 0, 1, [], 0), (187, .getfield 56, 3, [12, 25, 44, 1, 1347, 0], 15), (190, .iconst 1, 1, [], 0), (191, .iaload, 1, [], 0), (192, .iload_n 2, 1, [], 0), (193, .iadd, 1, [], 0), (194, .istore 9, 2, [], 0), (196, .aload_n 0, 1, [], 0), (197, .getfield 56, 3, [12, 25, 44, 1, 1347, 0], 15), (200, .iconst 2, 1, [], 0), (201, .iaload, 1, [], 0), (202, .istore 10, 2, [], 0), (204, .iconst 1, 1, [], 0), (205, .istore 11, 2, [], 0)]),
  (207, [(207, .iload 11, 2, [], 0), (209, .aload_n 0, 1, [], 0), (210, .getfield 283, 3, [12, 30, 0, 0, 1352, 0], 0), (213, .if_icmp .gt 54, 3, [], 0)]),
  (216, [(216, .aload_n 0, 1, [], 0), (217, .iload 8, 2, [], 0), (219, .aload_n 0, 1, [], 0), (220, .getfield 59, 3, [12, 28, 285, 1, 1350, 0], 16), (223, .iload 11, 2, [], 0), (225, .laload, 1, [], 0), (226, .l2i, 1, [], 0), (227, .iadd, 1, [], 0), (228, .iload 9, 2, [], 0), (230, .aload_n 0, 1, [], 0), (231, .getfield 62, 3, [12, 29, 285, 1, 1351, 0], 17), (234, .iload 11, 2, [], 0), (236, .laload, 1, [], 0), (237, .l2i, 1, [], 0), (238, .iadd, 1, [], 0), (239, .iload 10, 2, [], 0), (241, .iload 4, 2, [], 0), (243, .i2l, 1, [], 0), (244, .iload 11, 2, [], 0), (246, .i2l, 1, [], 0), (247, .lmul, 1, [], 0), (248, .aload_n 0, 1, [], 0), (249, .getfield 283, 3, [12, 30, 0, 0, 1352, 0], 0), (252, .i2l, 1, [], 0), (253, .ldiv, 1, [], 0), (254, .l2i, 1, [], 0), (255, .iadd, 1, [], 0), (256, .iload 5, 2, [], 0), (258, .invokevirtual 296, 3, [0, 5, 1, 91, 1615, 0, 0, 0, 0, 16], 0), (261, .iinc 11 1, 3, [], 0), (264, .goto (-57), 3, [], 0)]),
  (267, [(267, .return_, 1, [], 0)])]
def JX12_turns_132 (n : Nat) (bk : Int → Int → Int → Int → Int → Int → Int → Hp → Option (Int × Int × Int × Int × Int × Hp)) (x1 x2 x4 x5 x6 x7 x8 z0 z1 z2 : Int) (h : Hp) : Option (Int × Int × Int × Int × Int × Hp) :=
(grd (0 ≤ z1 ∧ z1 < alen 285)
(ltt (up h z0 z1 z2) fun h1 =>
(ltt (w32 (x8 + 1)) fun y1 =>
(bk x1 x2 x4 x5 x6 x7 y1 h1))))
def JX12_turns_98 (n : Nat) (bk : Int → Int → Int → Int → Int → Int → Int → Hp → Option (Int × Int × Int × Int × Int × Hp)) (x1 x2 x4 x5 x6 x7 x8 z0 z1 z2 : Int) (h : Hp) : Option (Int × Int × Int × Int × Int × Hp) :=
(grd (0 ≤ z1 ∧ z1 < alen 285)
(ltt (up h z0 z1 z2) fun h1 =>
(if x7 = 0 then
(grd (0 ≤ (w32 (x8 - 1)) ∧ (w32 (x8 - 1)) < alen 285)
(JX12_turns_132 n bk x1 x2 x4 x5 x6 x7 x8 130 x8 (w64 (-(h1 129 (w32 (x8 - 1))))) h1))
else
(grd (0 ≤ (w32 (x8 - 1)) ∧ (w32 (x8 - 1)) < alen 285)
(JX12_turns_132 n bk x1 x2 x4 x5 x6 x7 x8 130 x8 (h1 129 (w32 (x8 - 1))) h1)))))
def BX12_turns_56 (n : Nat) : Nat → Int → Int → Int → Int → Int → Int → Int → Hp → Option (Int × Int × Int × Int × Int × Hp)
  | 0, _, _, _, _, _, _, _, _ => none
  | f + 1, x1, x2, x4, x5, x6, x7, x8, h =>
    (if (h 113 30) < x8 then
    (some (x1, x2, x4, x5, x6, h))
    else
    (if x7 = 0 then
    (grd (0 ≤ (w32 (x8 - 1)) ∧ (w32 (x8 - 1)) < alen 285)
    (JX12_turns_98 n (BX12_turns_56 n f) x1 x2 x4 x5 x6 x7 x8 129 x8 (h 130 (w32 (x8 - 1))) h))
    else
    (grd (0 ≤ (w32 (x8 - 1)) ∧ (w32 (x8 - 1)) < alen 285)
    (JX12_turns_98 n (BX12_turns_56 n f) x1 x2 x4 x5 x6 x7 x8 129 x8 (w64 (-(h 130 (w32 (x8 - 1))))) h))))
def BX12_turns_142 (n : Nat) : Nat → Int → Int → Int → Int → Int → Int → Hp → Option (Int × Int × Int × Int × Hp)
  | 0, _, _, _, _, _, _, _ => none
  | f + 1, x1, x2, x4, x5, x6, x8, h =>
    (if 3 ≤ x8 then
    (some (x1, x2, x4, x5, h))
    else
    (bndp (MX12_bulge n x6 h) fun r1 =>
    (grd (0 ≤ 7 ∧ 7 < alen 84)
    (if r1 ≤ (h 114 7) then
    (some (x1, x2, x4, x5, h))
    else
    (bndh (MX12_halves n x6 h) fun h1 =>
    (ltt (w32 (x8 + 1)) fun y1 =>
    (BX12_turns_142 n f x1 x2 x4 x5 x6 y1 h1)))))))
def BX12_turns_207 (n : Nat) : Nat → Int → Int → Int → Int → Int → Int → Hp → Option (Hp)
  | 0, _, _, _, _, _, _, _ => none
  | f + 1, x4, x5, x8, x9, x10, x11, h =>
    (if (h 113 30) < x11 then
    (some h)
    else
    (grd (0 ≤ x11 ∧ x11 < alen 285)
    (grd (0 ≤ x11 ∧ x11 < alen 285)
    (grd (¬ (h 113 30) = 0)
    (bndh (MX12_comesTo n (w32 (x8 + (w32 (h 129 x11)))) (w32 (x9 + (w32 (h 130 x11)))) (w32 (x10 + (w32 (w64 (Int.tdiv (w64 (x4 * x11)) (h 113 30)))))) x5 h) fun h1 =>
    (ltt (w32 (x11 + 1)) fun y1 =>
    (BX12_turns_207 n f x4 x5 x8 x9 x10 y1 h1)))))))
def LX12_turns_207 (n : Nat) (x4 x5 x8 x9 x10 x11 : Int) (h : Hp) : Option (Hp) :=
(BX12_turns_207 n n x4 x5 x8 x9 x10 x11 h)
def JX12_turns_176 (n : Nat) (x1 x2 x4 x5 : Int) (h : Hp) : Option (Hp) :=
(grd (0 ≤ 0 ∧ 0 < alen 44)
(ltt (w32 ((h 128 0) + x1)) fun y1 =>
(grd (0 ≤ 1 ∧ 1 < alen 44)
(ltt (w32 ((h 128 1) + x2)) fun y2 =>
(grd (0 ≤ 2 ∧ 2 < alen 44)
(ltt (h 128 2) fun y3 =>
(ltt 1 fun y4 =>
(LX12_turns_207 n x4 x5 y1 y2 y3 y4 h))))))))
def LX12_turns_142 (n : Nat) (x1 x2 x4 x5 x6 x8 : Int) (h : Hp) : Option (Hp) :=
(bndx (BX12_turns_142 n n x1 x2 x4 x5 x6 x8 h) fun (e1, e2, e4, e5, h1) =>
(JX12_turns_176 n e1 e2 e4 e5 h1))
def JX12_turns_139 (n : Nat) (x1 x2 x4 x5 x6 : Int) (h : Hp) : Option (Hp) :=
(ltt 0 fun y1 =>
(LX12_turns_142 n x1 x2 x4 x5 x6 y1 h))
def LX12_turns_56 (n : Nat) (x1 x2 x4 x5 x6 x7 x8 : Int) (h : Hp) : Option (Hp) :=
(bndx (BX12_turns_56 n n x1 x2 x4 x5 x6 x7 x8 h) fun (e1, e2, e4, e5, e6, h1) =>
(JX12_turns_139 n e1 e2 e4 e5 e6 h1))
def JX12_turns_25 (n : Nat) (x1 x2 x3 x4 x5 x6 z0 : Int) (h : Hp) : Option (Hp) :=
(ltt z0 fun y1 =>
(ltt (up h 113 30 (jabs x3)) fun h1 =>
(grd (0 ≤ 0 ∧ 0 < alen 285)
(ltt (up h1 129 0 (w32 (-x1))) fun h2 =>
(grd (0 ≤ 0 ∧ 0 < alen 285)
(ltt (up h2 130 0 (w32 (-x2))) fun h3 =>
(ltt 1 fun y2 =>
(LX12_turns_56 n x1 x2 x4 x5 x6 y1 y2 h3))))))))
def MX12_turns (n : Nat) (x1 x2 x3 x4 x5 : Int) (h : Hp) : Option (Hp) :=
(bndp (MX12_square x1) fun r1 =>
(bndp (MX12_square x2) fun r2 =>
(bndp (MX12_root n (w64 (r1 + r2))) fun r3 =>
(ltt r3 fun y1 =>
(if x3 ≤ 0 then
(JX12_turns_25 n x1 x2 x3 x4 x5 y1 0 h)
else
(JX12_turns_25 n x1 x2 x3 x4 x5 y1 1 h))))))
def wX12_turns {ρ : Type} (n : Nat) : FN ρ := fun a h k => match a with
  | [_, x1, x2, x3, x4, x5] => bndh (MX12_turns n x1 x2 x3 x4 x5 h) (fun h2 => k 0 h2)
  | _ => none
def fsX12_turns (n : Nat) (ρ : Type) : List (FN ρ) := [wX12_square, wX12_root n, fabs, wX12_bulge n, wX12_halves n, wX12_comesTo n]
def KJX12_turns_132 (_ : Nat) (bk : Int → Int → Int → Int → Int → Int → Int → Hp → Option (Int × Int × Int × Int × Int × Hp)) : CT (Int × Int × Int × Int × Int × Hp) := [(56, [(0, 16, (some 113)), (1, 0, none), (2, 0, none), (4, 0, none), (5, 0, none), (6, 0, none), (7, 0, none), (8, 0, none)], [], fun a c h => match a, c with
    | [x1, x2, x4, x5, x6, x7, x8], [] => bk x1 x2 x4 x5 x6 x7 x8 h
    | _, _ => none),
  (139, [(0, 16, (some 113)), (1, 0, none), (2, 0, none), (4, 0, none), (5, 0, none), (6, 0, none)], [], fun a c h => match a, c with
    | [x1, x2, x4, x5, x6], [] => some (x1, x2, x4, x5, x6, h)
    | _, _ => none)]
set_option maxRecDepth 100000 in
theorem eJX12_turns_132 (n : Nat) (bk : Int → Int → Int → Int → Int → Int → Int → Hp → Option (Int × Int × Int × Int × Int × Hp)) (x1 : Int) (x2 : Int) (x4 : Int) (x5 : Int) (x6 : Int) (x7 : Int) (x8 : Int) (z0 : Int) (z1 : Int) (z2 : Int) (h : Hp) : JX12_turns_132 n bk x1 x2 x4 x5 x6 x7 x8 z0 z1 z2 h =
  goAt false (kct (KJX12_turns_132 n bk)) (fun _ _ => none) (fsX12_turns n _) sdX12_turns 1000 132 [(0, 16, 113), (1, 0, x1), (2, 0, x2), (4, 0, x4), (5, 0, x5), (6, 0, x6), (7, 0, x7), (8, 0, x8)] [(1, z2), (0, z1), (285, z0)] h := rfl
def KJX12_turns_98 (n : Nat) (bk : Int → Int → Int → Int → Int → Int → Int → Hp → Option (Int × Int × Int × Int × Int × Hp)) : CT (Int × Int × Int × Int × Int × Hp) := [(56, [(0, 16, (some 113)), (1, 0, none), (2, 0, none), (4, 0, none), (5, 0, none), (6, 0, none), (7, 0, none), (8, 0, none)], [], fun a c h => match a, c with
    | [x1, x2, x4, x5, x6, x7, x8], [] => bk x1 x2 x4 x5 x6 x7 x8 h
    | _, _ => none),
  (139, [(0, 16, (some 113)), (1, 0, none), (2, 0, none), (4, 0, none), (5, 0, none), (6, 0, none)], [], fun a c h => match a, c with
    | [x1, x2, x4, x5, x6], [] => some (x1, x2, x4, x5, x6, h)
    | _, _ => none),
  (132, [(0, 16, (some 113)), (1, 0, none), (2, 0, none), (4, 0, none), (5, 0, none), (6, 0, none), (7, 0, none), (8, 0, none)], [(1, none), (0, none), (285, none)], fun a c h => match a, c with
    | [x1, x2, x4, x5, x6, x7, x8], [z2, z1, z0] => JX12_turns_132 n bk x1 x2 x4 x5 x6 x7 x8 z0 z1 z2 h
    | _, _ => none)]
set_option maxRecDepth 100000 in
theorem eJX12_turns_98 (n : Nat) (bk : Int → Int → Int → Int → Int → Int → Int → Hp → Option (Int × Int × Int × Int × Int × Hp)) (x1 : Int) (x2 : Int) (x4 : Int) (x5 : Int) (x6 : Int) (x7 : Int) (x8 : Int) (z0 : Int) (z1 : Int) (z2 : Int) (h : Hp) : JX12_turns_98 n bk x1 x2 x4 x5 x6 x7 x8 z0 z1 z2 h =
  goAt false (kct (KJX12_turns_98 n bk)) (fun _ _ => none) (fsX12_turns n _) sdX12_turns 1000 98 [(0, 16, 113), (1, 0, x1), (2, 0, x2), (4, 0, x4), (5, 0, x5), (6, 0, x6), (7, 0, x7), (8, 0, x8)] [(1, z2), (0, z1), (285, z0)] h := rfl
def KBX12_turns_56 (n : Nat) (bk : Int → Int → Int → Int → Int → Int → Int → Hp → Option (Int × Int × Int × Int × Int × Hp)) : CT (Int × Int × Int × Int × Int × Hp) := [(56, [(0, 16, (some 113)), (1, 0, none), (2, 0, none), (4, 0, none), (5, 0, none), (6, 0, none), (7, 0, none), (8, 0, none)], [], fun a c h => match a, c with
    | [x1, x2, x4, x5, x6, x7, x8], [] => bk x1 x2 x4 x5 x6 x7 x8 h
    | _, _ => none),
  (139, [(0, 16, (some 113)), (1, 0, none), (2, 0, none), (4, 0, none), (5, 0, none), (6, 0, none)], [], fun a c h => match a, c with
    | [x1, x2, x4, x5, x6], [] => some (x1, x2, x4, x5, x6, h)
    | _, _ => none),
  (98, [(0, 16, (some 113)), (1, 0, none), (2, 0, none), (4, 0, none), (5, 0, none), (6, 0, none), (7, 0, none), (8, 0, none)], [(1, none), (0, none), (285, none)], fun a c h => match a, c with
    | [x1, x2, x4, x5, x6, x7, x8], [z2, z1, z0] => JX12_turns_98 n bk x1 x2 x4 x5 x6 x7 x8 z0 z1 z2 h
    | _, _ => none)]
set_option maxRecDepth 100000 in
theorem eBX12_turns_56 (n f : Nat) (x1 : Int) (x2 : Int) (x4 : Int) (x5 : Int) (x6 : Int) (x7 : Int) (x8 : Int) (h : Hp) : BX12_turns_56 n (f + 1) x1 x2 x4 x5 x6 x7 x8 h =
  goAt false (kct (KBX12_turns_56 n (BX12_turns_56 n f))) (fun _ _ => none) (fsX12_turns n _) sdX12_turns 1000 56 [(0, 16, 113), (1, 0, x1), (2, 0, x2), (4, 0, x4), (5, 0, x5), (6, 0, x6), (7, 0, x7), (8, 0, x8)] [] h := rfl
def KBX12_turns_142 (_ : Nat) (bk : Int → Int → Int → Int → Int → Int → Hp → Option (Int × Int × Int × Int × Hp)) : CT (Int × Int × Int × Int × Hp) := [(142, [(0, 16, (some 113)), (1, 0, none), (2, 0, none), (4, 0, none), (5, 0, none), (6, 0, none), (8, 0, none)], [], fun a c h => match a, c with
    | [x1, x2, x4, x5, x6, x8], [] => bk x1 x2 x4 x5 x6 x8 h
    | _, _ => none),
  (176, [(0, 16, (some 113)), (1, 0, none), (2, 0, none), (4, 0, none), (5, 0, none)], [], fun a c h => match a, c with
    | [x1, x2, x4, x5], [] => some (x1, x2, x4, x5, h)
    | _, _ => none)]
set_option maxRecDepth 100000 in
theorem eBX12_turns_142 (n f : Nat) (x1 : Int) (x2 : Int) (x4 : Int) (x5 : Int) (x6 : Int) (x8 : Int) (h : Hp) : BX12_turns_142 n (f + 1) x1 x2 x4 x5 x6 x8 h =
  goAt false (kct (KBX12_turns_142 n (BX12_turns_142 n f))) (fun _ _ => none) (fsX12_turns n _) sdX12_turns 1000 142 [(0, 16, 113), (1, 0, x1), (2, 0, x2), (4, 0, x4), (5, 0, x5), (6, 0, x6), (8, 0, x8)] [] h := rfl
def KBX12_turns_207 (_ : Nat) (bk : Int → Int → Int → Int → Int → Int → Hp → Option (Hp)) : CT (Hp) := [(207, [(0, 16, (some 113)), (4, 0, none), (5, 0, none), (8, 0, none), (9, 0, none), (10, 0, none), (11, 0, none)], [], fun a c h => match a, c with
    | [x4, x5, x8, x9, x10, x11], [] => bk x4 x5 x8 x9 x10 x11 h
    | _, _ => none)]
set_option maxRecDepth 100000 in
theorem eBX12_turns_207 (n f : Nat) (x4 : Int) (x5 : Int) (x8 : Int) (x9 : Int) (x10 : Int) (x11 : Int) (h : Hp) : BX12_turns_207 n (f + 1) x4 x5 x8 x9 x10 x11 h =
  goAt false (kct (KBX12_turns_207 n (BX12_turns_207 n f))) (fun _ h => some (h)) (fsX12_turns n _) sdX12_turns 1000 207 [(0, 16, 113), (4, 0, x4), (5, 0, x5), (8, 0, x8), (9, 0, x9), (10, 0, x10), (11, 0, x11)] [] h := rfl
def KJX12_turns_176 (n : Nat) : CT (Hp) := [(207, [(0, 16, (some 113)), (4, 0, none), (5, 0, none), (8, 0, none), (9, 0, none), (10, 0, none), (11, 0, none)], [], fun a c h => match a, c with
    | [x4, x5, x8, x9, x10, x11], [] => LX12_turns_207 n x4 x5 x8 x9 x10 x11 h
    | _, _ => none)]
set_option maxRecDepth 100000 in
theorem eJX12_turns_176 (n : Nat) (x1 : Int) (x2 : Int) (x4 : Int) (x5 : Int) (h : Hp) : JX12_turns_176 n x1 x2 x4 x5 h =
  goAt false (kct (KJX12_turns_176 n)) (fun _ h => some (h)) (fsX12_turns n _) sdX12_turns 1000 176 [(0, 16, 113), (1, 0, x1), (2, 0, x2), (4, 0, x4), (5, 0, x5)] [] h := rfl
def KJX12_turns_139 (n : Nat) : CT (Hp) := [(142, [(0, 16, (some 113)), (1, 0, none), (2, 0, none), (4, 0, none), (5, 0, none), (6, 0, none), (8, 0, none)], [], fun a c h => match a, c with
    | [x1, x2, x4, x5, x6, x8], [] => LX12_turns_142 n x1 x2 x4 x5 x6 x8 h
    | _, _ => none)]
set_option maxRecDepth 100000 in
theorem eJX12_turns_139 (n : Nat) (x1 : Int) (x2 : Int) (x4 : Int) (x5 : Int) (x6 : Int) (h : Hp) : JX12_turns_139 n x1 x2 x4 x5 x6 h =
  goAt false (kct (KJX12_turns_139 n)) (fun _ h => some (h)) (fsX12_turns n _) sdX12_turns 1000 139 [(0, 16, 113), (1, 0, x1), (2, 0, x2), (4, 0, x4), (5, 0, x5), (6, 0, x6)] [] h := rfl
def KJX12_turns_25 (n : Nat) : CT (Hp) := [(56, [(0, 16, (some 113)), (1, 0, none), (2, 0, none), (4, 0, none), (5, 0, none), (6, 0, none), (7, 0, none), (8, 0, none)], [], fun a c h => match a, c with
    | [x1, x2, x4, x5, x6, x7, x8], [] => LX12_turns_56 n x1 x2 x4 x5 x6 x7 x8 h
    | _, _ => none)]
set_option maxRecDepth 100000 in
theorem eJX12_turns_25 (n : Nat) (x1 : Int) (x2 : Int) (x3 : Int) (x4 : Int) (x5 : Int) (x6 : Int) (z0 : Int) (h : Hp) : JX12_turns_25 n x1 x2 x3 x4 x5 x6 z0 h =
  goAt false (kct (KJX12_turns_25 n)) (fun _ h => some (h)) (fsX12_turns n _) sdX12_turns 1000 25 [(0, 16, 113), (1, 0, x1), (2, 0, x2), (3, 0, x3), (4, 0, x4), (5, 0, x5), (6, 0, x6)] [(0, z0)] h := rfl
def KMX12_turns (n : Nat) : CT (Hp) := [(25, [(0, 16, (some 113)), (1, 0, none), (2, 0, none), (3, 0, none), (4, 0, none), (5, 0, none), (6, 0, none)], [(0, none)], fun a c h => match a, c with
    | [x1, x2, x3, x4, x5, x6], [z0] => JX12_turns_25 n x1 x2 x3 x4 x5 x6 z0 h
    | _, _ => none)]
set_option maxRecDepth 100000 in
theorem eMX12_turns (n : Nat) (x1 : Int) (x2 : Int) (x3 : Int) (x4 : Int) (x5 : Int) (h : Hp) : MX12_turns n x1 x2 x3 x4 x5 h =
  goAt false (kct (KMX12_turns n)) (fun _ h => some (h)) (fsX12_turns n _) sdX12_turns 1000 0 [(0, 16, 113), (1, 0, x1), (2, 0, x2), (3, 0, x3), (4, 0, x4), (5, 0, x5)] [] h := rfl
theorem okX12_turns : mokb (mi 96) = true := by decide +kernel
theorem rkX12_turns : rkOK 0 (mi 96).1.2.2.2.2.2.2.1 (mi 96).1.2.2.2.1 := Or.inl ⟨rfl, rfl, rfl⟩
def calX12_turns : List Nat := [92, 93, 263, 94, 95, 91]
theorem foX12_turns {l : Launch} {ρ : Type} (n : Nat) : fsOK l false mi calX12_turns (fsX12_turns n ρ) := ⟨sndX12_square, ⟨(sndX12_root n), ⟨snd_mabs, ⟨(sndX12_bulge n), ⟨(sndX12_halves n), ⟨(sndX12_comesTo n), trivial⟩⟩⟩⟩⟩⟩
theorem ok_sdX12_turns : sdb (mi 96).1.2.1 (insOK mi (mi 96).1.1.cls (mi 96).1.2.2.1 (mi 96).1.2.2.2.2.1 (mi 96).1.2.2.2.2.2.1 calX12_turns false 0) sdX12_turns = true := by decide +kernel
def GX12_turns_142 (l : Launch) (h0 : Hp) (h' : Hp) (v : Int) (_ : Hp) : (Int × Int × Int × Int × Hp) → Prop
  | (e1, e2, e4, e5, h1) => PAt l false (mi 96).1 h0 v h' 176 [(0, 16, 113), (1, 0, e1), (2, 0, e2), (4, 0, e4), (5, 0, e5)] [] h1
def GX12_turns_56 (l : Launch) (h0 : Hp) (h' : Hp) (v : Int) (_ : Hp) : (Int × Int × Int × Int × Int × Hp) → Prop
  | (e1, e2, e4, e5, e6, h1) => PAt l false (mi 96).1 h0 v h' 139 [(0, 16, 113), (1, 0, e1), (2, 0, e2), (4, 0, e4), (5, 0, e5), (6, 0, e6)] [] h1
theorem sJX12_turns_132 {l : Launch} {h0 h' : Hp} {v : Int} (h8 : nOf h0 = 148) (n : Nat) (bk : Int → Int → Int → Int → Int → Int → Int → Hp → Option (Int × Int × Int × Int × Int × Hp)) (hbk : ∀ (x1 : Int) (x2 : Int) (x4 : Int) (x5 : Int) (x6 : Int) (x7 : Int) (x8 : Int) (h : Hp) (r : Int × Int × Int × Int × Int × Hp), bk x1 x2 x4 x5 x6 x7 x8 h = some r → GX12_turns_56 l h0 h' v h r → PAt l false (mi 96).1 h0 v h' 56 [(0, 16, 113), (1, 0, x1), (2, 0, x2), (4, 0, x4), (5, 0, x5), (6, 0, x6), (7, 0, x7), (8, 0, x8)] [] h) (x1 : Int) (x2 : Int) (x4 : Int) (x5 : Int) (x6 : Int) (x7 : Int) (x8 : Int) (z0 : Int) (z1 : Int) (z2 : Int) (h : Hp) {r : Int × Int × Int × Int × Int × Hp} (H : JX12_turns_132 n bk x1 x2 x4 x5 x6 x7 x8 z0 z1 z2 h = some r) (hG : GX12_turns_56 l h0 h' v h r) : PAt l false (mi 96).1 h0 v h' 132 [(0, 16, 113), (1, 0, x1), (2, 0, x2), (4, 0, x4), (5, 0, x5), (6, 0, x6), (7, 0, x7), (8, 0, x8)] [(1, z2), (0, z1), (285, z0)] h :=
  pat_w ok_sdX12_turns rkX12_turns h8 (foX12_turns n) (fun v1 h1 q => by cases q) (List.forall_mem_cons.mpr ⟨(fun a c h H => by
      dsimp only at H
      split at H
      · exact hbk _ _ _ _ _ _ _ _ _ H hG
      · cases H), (List.forall_mem_cons.mpr ⟨(fun a c h H => by
      dsimp only at H
      split at H
      · cases H
        exact hG
      · cases H), (fun q9 h9 => by cases h9)⟩)⟩) ((eJX12_turns_132 n bk x1 x2 x4 x5 x6 x7 x8 z0 z1 z2 h).symm.trans H)
theorem sJX12_turns_98 {l : Launch} {h0 h' : Hp} {v : Int} (h8 : nOf h0 = 148) (n : Nat) (bk : Int → Int → Int → Int → Int → Int → Int → Hp → Option (Int × Int × Int × Int × Int × Hp)) (hbk : ∀ (x1 : Int) (x2 : Int) (x4 : Int) (x5 : Int) (x6 : Int) (x7 : Int) (x8 : Int) (h : Hp) (r : Int × Int × Int × Int × Int × Hp), bk x1 x2 x4 x5 x6 x7 x8 h = some r → GX12_turns_56 l h0 h' v h r → PAt l false (mi 96).1 h0 v h' 56 [(0, 16, 113), (1, 0, x1), (2, 0, x2), (4, 0, x4), (5, 0, x5), (6, 0, x6), (7, 0, x7), (8, 0, x8)] [] h) (x1 : Int) (x2 : Int) (x4 : Int) (x5 : Int) (x6 : Int) (x7 : Int) (x8 : Int) (z0 : Int) (z1 : Int) (z2 : Int) (h : Hp) {r : Int × Int × Int × Int × Int × Hp} (H : JX12_turns_98 n bk x1 x2 x4 x5 x6 x7 x8 z0 z1 z2 h = some r) (hG : GX12_turns_56 l h0 h' v h r) : PAt l false (mi 96).1 h0 v h' 98 [(0, 16, 113), (1, 0, x1), (2, 0, x2), (4, 0, x4), (5, 0, x5), (6, 0, x6), (7, 0, x7), (8, 0, x8)] [(1, z2), (0, z1), (285, z0)] h :=
  pat_w ok_sdX12_turns rkX12_turns h8 (foX12_turns n) (fun v1 h1 q => by cases q) (List.forall_mem_cons.mpr ⟨(fun a c h H => by
      dsimp only at H
      split at H
      · exact hbk _ _ _ _ _ _ _ _ _ H hG
      · cases H), (List.forall_mem_cons.mpr ⟨(fun a c h H => by
      dsimp only at H
      split at H
      · cases H
        exact hG
      · cases H), (List.forall_mem_cons.mpr ⟨(fun a c h H => by
      dsimp only at H
      split at H
      · exact sJX12_turns_132 h8 n bk hbk _ _ _ _ _ _ _ _ _ _ _ H hG
      · cases H), (fun q9 h9 => by cases h9)⟩)⟩)⟩) ((eJX12_turns_98 n bk x1 x2 x4 x5 x6 x7 x8 z0 z1 z2 h).symm.trans H)
theorem sBX12_turns_56 {l : Launch} {h0 h' : Hp} {v : Int} (h8 : nOf h0 = 148) (n : Nat) : ∀ (f : Nat) (x1 : Int) (x2 : Int) (x4 : Int) (x5 : Int) (x6 : Int) (x7 : Int) (x8 : Int) (h : Hp) {r : Int × Int × Int × Int × Int × Hp}, BX12_turns_56 n f x1 x2 x4 x5 x6 x7 x8 h = some r → GX12_turns_56 l h0 h' v h r → PAt l false (mi 96).1 h0 v h' 56 [(0, 16, 113), (1, 0, x1), (2, 0, x2), (4, 0, x4), (5, 0, x5), (6, 0, x6), (7, 0, x7), (8, 0, x8)] [] h := by
  intro f
  induction f with
  | zero =>
    intro x1 x2 x4 x5 x6 x7 x8 h r H _
    have H2 : (none : Option (Int × Int × Int × Int × Int × Hp)) = some r := H
    cases H2
  | succ f ih =>
    intro x1 x2 x4 x5 x6 x7 x8 h r H hG
    have ihk : ∀ (x1 : Int) (x2 : Int) (x4 : Int) (x5 : Int) (x6 : Int) (x7 : Int) (x8 : Int) (h : Hp) (r : Int × Int × Int × Int × Int × Hp), BX12_turns_56 n f x1 x2 x4 x5 x6 x7 x8 h = some r → GX12_turns_56 l h0 h' v h r → PAt l false (mi 96).1 h0 v h' 56 [(0, 16, 113), (1, 0, x1), (2, 0, x2), (4, 0, x4), (5, 0, x5), (6, 0, x6), (7, 0, x7), (8, 0, x8)] [] h := fun x1 x2 x4 x5 x6 x7 x8 h r9 a9 b9 => ih x1 x2 x4 x5 x6 x7 x8 h a9 b9
    exact pat_w ok_sdX12_turns rkX12_turns h8 (foX12_turns n) (fun v1 h1 q => by cases q) (List.forall_mem_cons.mpr ⟨(fun a c h H => by
      dsimp only at H
      split at H
      · exact ih _ _ _ _ _ _ _ _ H hG
      · cases H), (List.forall_mem_cons.mpr ⟨(fun a c h H => by
      dsimp only at H
      split at H
      · cases H
        exact hG
      · cases H), (List.forall_mem_cons.mpr ⟨(fun a c h H => by
      dsimp only at H
      split at H
      · exact sJX12_turns_98 h8 n (BX12_turns_56 n f) ihk _ _ _ _ _ _ _ _ _ _ _ H hG
      · cases H), (fun q9 h9 => by cases h9)⟩)⟩)⟩) ((eBX12_turns_56 n f x1 x2 x4 x5 x6 x7 x8 h).symm.trans H)
theorem sBX12_turns_142 {l : Launch} {h0 h' : Hp} {v : Int} (h8 : nOf h0 = 148) (n : Nat) : ∀ (f : Nat) (x1 : Int) (x2 : Int) (x4 : Int) (x5 : Int) (x6 : Int) (x8 : Int) (h : Hp) {r : Int × Int × Int × Int × Hp}, BX12_turns_142 n f x1 x2 x4 x5 x6 x8 h = some r → GX12_turns_142 l h0 h' v h r → PAt l false (mi 96).1 h0 v h' 142 [(0, 16, 113), (1, 0, x1), (2, 0, x2), (4, 0, x4), (5, 0, x5), (6, 0, x6), (8, 0, x8)] [] h := by
  intro f
  induction f with
  | zero =>
    intro x1 x2 x4 x5 x6 x8 h r H _
    have H2 : (none : Option (Int × Int × Int × Int × Hp)) = some r := H
    cases H2
  | succ f ih =>
    intro x1 x2 x4 x5 x6 x8 h r H hG
    exact pat_w ok_sdX12_turns rkX12_turns h8 (foX12_turns n) (fun v1 h1 q => by cases q) (List.forall_mem_cons.mpr ⟨(fun a c h H => by
      dsimp only at H
      split at H
      · exact ih _ _ _ _ _ _ _ H hG
      · cases H), (List.forall_mem_cons.mpr ⟨(fun a c h H => by
      dsimp only at H
      split at H
      · cases H
        exact hG
      · cases H), (fun q9 h9 => by cases h9)⟩)⟩) ((eBX12_turns_142 n f x1 x2 x4 x5 x6 x8 h).symm.trans H)
theorem sBX12_turns_207 {l : Launch} {h0 h' : Hp} {v : Int} (h8 : nOf h0 = 148) (n : Nat) : ∀ (f : Nat) (x4 : Int) (x5 : Int) (x8 : Int) (x9 : Int) (x10 : Int) (x11 : Int) (h : Hp) {r : Hp}, BX12_turns_207 n f x4 x5 x8 x9 x10 x11 h = some r → gW h' r → PAt l false (mi 96).1 h0 v h' 207 [(0, 16, 113), (4, 0, x4), (5, 0, x5), (8, 0, x8), (9, 0, x9), (10, 0, x10), (11, 0, x11)] [] h := by
  intro f
  induction f with
  | zero =>
    intro x4 x5 x8 x9 x10 x11 h r H _
    have H2 : (none : Option (Hp)) = some r := H
    cases H2
  | succ f ih =>
    intro x4 x5 x8 x9 x10 x11 h r H hG
    exact pat_w ok_sdX12_turns rkX12_turns h8 (foX12_turns n) (fun v1 h1 q => by
    cases q
    exact ⟨hG, fun q9 => absurd rfl q9⟩) (List.forall_mem_cons.mpr ⟨(fun a c h H => by
      dsimp only at H
      split at H
      · exact ih _ _ _ _ _ _ _ H hG
      · cases H), (fun q9 h9 => by cases h9)⟩) ((eBX12_turns_207 n f x4 x5 x8 x9 x10 x11 h).symm.trans H)
theorem sLX12_turns_207 {l : Launch} {h0 h' : Hp} {v : Int} (h8 : nOf h0 = 148) (n : Nat) (x4 : Int) (x5 : Int) (x8 : Int) (x9 : Int) (x10 : Int) (x11 : Int) (h : Hp) {r : Hp} (H : LX12_turns_207 n x4 x5 x8 x9 x10 x11 h = some r) (hG : gW h' r) : PAt l false (mi 96).1 h0 v h' 207 [(0, 16, 113), (4, 0, x4), (5, 0, x5), (8, 0, x8), (9, 0, x9), (10, 0, x10), (11, 0, x11)] [] h :=
  sBX12_turns_207 h8 n n x4 x5 x8 x9 x10 x11 h H hG
theorem sJX12_turns_176 {l : Launch} {h0 h' : Hp} {v : Int} (h8 : nOf h0 = 148) (n : Nat) (x1 : Int) (x2 : Int) (x4 : Int) (x5 : Int) (h : Hp) {r : Hp} (H : JX12_turns_176 n x1 x2 x4 x5 h = some r) (hG : gW h' r) : PAt l false (mi 96).1 h0 v h' 176 [(0, 16, 113), (1, 0, x1), (2, 0, x2), (4, 0, x4), (5, 0, x5)] [] h :=
  pat_w ok_sdX12_turns rkX12_turns h8 (foX12_turns n) (fun v1 h1 q => by
    cases q
    exact ⟨hG, fun q9 => absurd rfl q9⟩) (List.forall_mem_cons.mpr ⟨(fun a c h H => by
      dsimp only at H
      split at H
      · exact sLX12_turns_207 h8 n _ _ _ _ _ _ _ H hG
      · cases H), (fun q9 h9 => by cases h9)⟩) ((eJX12_turns_176 n x1 x2 x4 x5 h).symm.trans H)
theorem sLX12_turns_142 {l : Launch} {h0 h' : Hp} {v : Int} (h8 : nOf h0 = 148) (n : Nat) (x1 : Int) (x2 : Int) (x4 : Int) (x5 : Int) (x6 : Int) (x8 : Int) (h : Hp) {r : Hp} (H : LX12_turns_142 n x1 x2 x4 x5 x6 x8 h = some r) (hG : gW h' r) : PAt l false (mi 96).1 h0 v h' 142 [(0, 16, 113), (1, 0, x1), (2, 0, x2), (4, 0, x4), (5, 0, x5), (6, 0, x6), (8, 0, x8)] [] h := by
  obtain ⟨e9, h2, h3⟩ := bndx_some H
  obtain ⟨e1, e2, e4, e5, h1⟩ := e9
  exact sBX12_turns_142 h8 n n x1 x2 x4 x5 x6 x8 h h2 (sJX12_turns_176 h8 n e1 e2 e4 e5 h1 h3 hG)
theorem sJX12_turns_139 {l : Launch} {h0 h' : Hp} {v : Int} (h8 : nOf h0 = 148) (n : Nat) (x1 : Int) (x2 : Int) (x4 : Int) (x5 : Int) (x6 : Int) (h : Hp) {r : Hp} (H : JX12_turns_139 n x1 x2 x4 x5 x6 h = some r) (hG : gW h' r) : PAt l false (mi 96).1 h0 v h' 139 [(0, 16, 113), (1, 0, x1), (2, 0, x2), (4, 0, x4), (5, 0, x5), (6, 0, x6)] [] h :=
  pat_w ok_sdX12_turns rkX12_turns h8 (foX12_turns n) (fun v1 h1 q => by
    cases q
    exact ⟨hG, fun q9 => absurd rfl q9⟩) (List.forall_mem_cons.mpr ⟨(fun a c h H => by
      dsimp only at H
      split at H
      · exact sLX12_turns_142 h8 n _ _ _ _ _ _ _ H hG
      · cases H), (fun q9 h9 => by cases h9)⟩) ((eJX12_turns_139 n x1 x2 x4 x5 x6 h).symm.trans H)
theorem sLX12_turns_56 {l : Launch} {h0 h' : Hp} {v : Int} (h8 : nOf h0 = 148) (n : Nat) (x1 : Int) (x2 : Int) (x4 : Int) (x5 : Int) (x6 : Int) (x7 : Int) (x8 : Int) (h : Hp) {r : Hp} (H : LX12_turns_56 n x1 x2 x4 x5 x6 x7 x8 h = some r) (hG : gW h' r) : PAt l false (mi 96).1 h0 v h' 56 [(0, 16, 113), (1, 0, x1), (2, 0, x2), (4, 0, x4), (5, 0, x5), (6, 0, x6), (7, 0, x7), (8, 0, x8)] [] h := by
  obtain ⟨e9, h2, h3⟩ := bndx_some H
  obtain ⟨e1, e2, e4, e5, e6, h1⟩ := e9
  exact sBX12_turns_56 h8 n n x1 x2 x4 x5 x6 x7 x8 h h2 (sJX12_turns_139 h8 n e1 e2 e4 e5 e6 h1 h3 hG)
theorem sJX12_turns_25 {l : Launch} {h0 h' : Hp} {v : Int} (h8 : nOf h0 = 148) (n : Nat) (x1 : Int) (x2 : Int) (x3 : Int) (x4 : Int) (x5 : Int) (x6 : Int) (z0 : Int) (h : Hp) {r : Hp} (H : JX12_turns_25 n x1 x2 x3 x4 x5 x6 z0 h = some r) (hG : gW h' r) : PAt l false (mi 96).1 h0 v h' 25 [(0, 16, 113), (1, 0, x1), (2, 0, x2), (3, 0, x3), (4, 0, x4), (5, 0, x5), (6, 0, x6)] [(0, z0)] h :=
  pat_w ok_sdX12_turns rkX12_turns h8 (foX12_turns n) (fun v1 h1 q => by
    cases q
    exact ⟨hG, fun q9 => absurd rfl q9⟩) (List.forall_mem_cons.mpr ⟨(fun a c h H => by
      dsimp only at H
      split at H
      · exact sLX12_turns_56 h8 n _ _ _ _ _ _ _ _ H hG
      · cases H), (fun q9 h9 => by cases h9)⟩) ((eJX12_turns_25 n x1 x2 x3 x4 x5 x6 z0 h).symm.trans H)
theorem sMX12_turns {l : Launch} {h0 h' : Hp} {v : Int} (h8 : nOf h0 = 148) (n : Nat) (x1 : Int) (x2 : Int) (x3 : Int) (x4 : Int) (x5 : Int) (h : Hp) {r : Hp} (H : MX12_turns n x1 x2 x3 x4 x5 h = some r) (hG : gW h' r) : PAt l false (mi 96).1 h0 v h' 0 [(0, 16, 113), (1, 0, x1), (2, 0, x2), (3, 0, x3), (4, 0, x4), (5, 0, x5)] [] h :=
  pat_w ok_sdX12_turns rkX12_turns h8 (foX12_turns n) (fun v1 h1 q => by
    cases q
    exact ⟨hG, fun q9 => absurd rfl q9⟩) (List.forall_mem_cons.mpr ⟨(fun a c h H => by
      dsimp only at H
      split at H
      · exact sJX12_turns_25 h8 n _ _ _ _ _ _ _ _ H hG
      · cases H), (fun q9 h9 => by cases h9)⟩) ((eMX12_turns n x1 x2 x3 x4 x5 h).symm.trans H)
theorem sndX12_turns {ρ : Type} {l : Launch} (n : Nat) : SndF (ρ := ρ) l false (mi 96).1 (wX12_turns n) := by
    intro a h k r H ha ho hn hf
    have h8 := hf rfl
    obtain ⟨x0, x1, x2, x3, x4, x5, rfl⟩ := len6 (show a.length = 6 from ha)
    have u0 := uq16 hn (ho (16, x0) (List.mem_cons_self))
    subst u0
    replace H : bndh (MX12_turns n x1 x2 x3 x4 x5 h) (fun h2 => k 0 h2) = some r := H
    obtain ⟨h2, H1, H2⟩ := bndh_some H
    exact ⟨0, h2, H2, met_mk (mok_base okX12_turns).1 (by decide +kernel) (Nat.le_of_ble_eq_true rfl) ho (sMX12_turns h8 n x1 x2 x3 x4 x5 h H1 rfl), fun q => by cases q⟩
/-! X12_makes -/
def sdX12_makes : SD := [(0, [(0, .bipush 6, 2, [], 0), (2, .iload_n 1, 1, [], 0), (3, .imul, 1, [], 0), (4, .istore_n 2, 1, [], 0), (5, .aload_n 0, 1, [], 0), (6, .getfield 127, 3, [12, 2, 0, 0, 1324, 0], 0), (9, .bipush 40, 2, [], 0), (11, .if_icmp .ne 11, 3, [], 0)]),
  (14, [(14, .aload_n 0, 1, [], 0), (15, .iconst 1, 1, [], 0), (16, .putfield 280, 3, [12, 27, 0, 0, 1, 1349], 0), (19, .goto 49, 3, [], 0)]),
  (22, [(22, .iconst 0, 1, [], 0), (23, .istore_n 3, 1, [], 0)]),
  (24, [(24, .iload_n 3, 1, [], 0), (25, .bipush 6, 2, [], 0), (27, .if_icmp .ge 31, 3, [], 0)]),
  (30, [(30, .aload_n 0, 1, [], 0), (31, .getfield 18, 3, [12, 8, 1940, 1, 1330, 0], 3), (34, .bipush 6, 2, [], 0), (36, .aload_n 0, 1, [], 0), (37, .getfield 127, 3, [12, 2, 0, 0, 1324, 0], 0), (40, .imul, 1, [], 0), (41, .iload_n 3, 1, [], 0), (42, .iadd, 1, [], 0), (43, .aload_n 0, 1, [], 0), (44, .getfield 18, 3, [12, 8, 1940, 1, 1330, 0], 3), (47, .iload_n 2, 1, [], 0), (48, .iload_n 3, 1, [], 0), (49, .iadd, 1, [], 0), (50, .iaload, 1, [], 0), (51, .iastore, 1, [], 0), (52, .iinc 3 1, 3, [], 0), (55, .goto (-31), 3, [], 0)]),
  (58, [(58, .aload_n 0, 1, [], 0), (59, .dup, 1, [], 0), (60, .getfield 127, 3, [12, 2, 0, 0, 1324, 0], 0), (63, .iconst 1, 1, [], 0), (64, .iadd, 1, [], 0), (65, .putfield 127, 3, [12, 2, 0, 0, 0, 1324], 0)]),
  (68, [(68, .aload_n 0, 1, [], 0), (69, .getfield 18, 3, [12, 8, 1940, 1, 1330, 0], 3), (72, .iload_n 2, 1, [], 0), (73, .iconst 1, 1, [], 0), (74, .iadd, 1, [], 0), (75, .iaload, 1, [], 0), (76, .istore_n 3, 1, [], 0), (77, .aload_n 0, 1, [], 0), (78, .getfield 18, 3, [12, 8, 1940, 1, 1330, 0], 3), (81, .iload_n 2, 1, [], 0), (82, .iconst 2, 1, [], 0), (83, .iadd, 1, [], 0), (84, .iaload, 1, [], 0), (85, .istore 4, 2, [], 0), (87, .aload_n 0, 1, [], 0), (88, .getfield 18, 3, [12, 8, 1940, 1, 1330, 0], 3), (91, .iload_n 2, 1, [], 0), (92, .iconst 3, 1, [], 0), (93, .iadd, 1, [], 0), (94, .iaload, 1, [], 0), (95, .istore 5, 2, [], 0), (97, .aload_n 0, 1, [], 0), (98, .getfield 18, 3, [12, 8, 1940, 1, 1330, 0], 3), (101, .iload_n 2, 1, [], 0), (102, .iaload, 1, [], 0), (103, .lookupswitch 86 #[(3, 25), (4, 45)], 25, [], 0)]),
  (128, [(128, .aload_n 0, 1, [], 0), (129, .iload_n 3, 1, [], 0), (130, .iload 4, 2, [], 0), (132, .iload 5, 2, [], 0), (134, .aload_n 0, 1, [], 0), (135, .getfield 18, 3, [12, 8, 1940, 1, 1330, 0], 3), (138, .iload_n 2, 1, [], 0), (139, .iconst 5, 1, [], 0), (140, .iadd, 1, [], 0), (141, .iaload, 1, [], 0), (142, .invokevirtual 296, 3, [0, 0, 1, 91, 1615, 0, 0, 0, 0, 16], 0), (145, .goto 69, 3, [], 0)]),
  (148, [(148, .aload_n 0, 1, [], 0), (149, .aload_n 0, 1, [], 0), (150, .getfield 56, 3, [12, 25, 44, 1, 1347, 0], 15), (153, .iconst 0, 1, [], 0), (154, .iaload, 1, [], 0), (155, .iload_n 3, 1, [], 0), (156, .iadd, 1, [], 0), (157, .aload_n 0, 1, [], 0), (158, .getfield 56, 3, [12, 25, 44, 1, 1347, 0], 15), (161, .iconst 1, 1, [], 0), (162, .iaload, 1, [], 0), (163, .iload 4, 2, [], 0), (165, .iadd, 1, [], 0), (166, .aload_n 0, 1, [], 0), (167, .getfield 56, 3, [12, 25, 44, 1, 1347, 0], 15), (170, .iconst 2, 1, [], 0), (171, .iaload, 1, [], 0), (172, .iload 5, 2, [], 0), (174, .iadd, 1, [], 0), (175, .aload_n 0, 1, [], 0), (176, .getfield 18, 3, [12, 8, 1940, 1, 1330, 0], 3), (179, .iload_n 2, 1, [], 0), (180, .iconst 5, 1, [], 0), (181, .iadd, 1, [], 0), (182, .iaload, 1, [], 0), (183, .invokevirtual 296, 3, [0, 0, 1, 91, 1615, 0, 0, 0, 0, 16], 0), (186, .goto 28, 3, [], 0)]),
  (189, [(189, .aload_n 0, 1, [], 0), (190, .iload_n 3, 1, [], 0), (191, .iload 4, 2, [], 0), (193, .iload 5, 2, [], 0), (195, .aload_n 0, 1, [], 0), (196, .getfield 18, 3, [12, 8, 1940, 1, 1330, 0], 3), (199, .iload_n 2, 1, [], 0), (200, .iconst 4, 1, [], 0), (201, .iadd, 1, [], 0), (202, .iaload, 1, [], 0), (203, .aload_n 0, 1, [], 0), (204, .getfield 18, 3, [12, 8, 1940, 1, 1330, 0], 3), (207, .iload_n 2, 1, [], 0), (208, .iconst 5, 1, [], 0), (209, .iadd, 1, [], 0), (210, .iaload, 1, [], 0), (211, .invokevirtual 300, 3, [0, 1, 1, 96, 1621, 0, 0, 0, 0, 0, 16], 0)]),
  (214, [(214, .return_, 1, [], 0)])]
def BX12_makes_24 (n : Nat) : Nat → Int → Int → Hp → Option (Int × Hp)
  | 0, _, _, _ => none
  | f + 1, x2, x3, h =>
    (if 6 ≤ x3 then
    (some (x2, h))
    else
    (grd (0 ≤ (w32 (x2 + x3)) ∧ (w32 (x2 + x3)) < alen 1940)
    (grd (0 ≤ (w32 ((w32 (6 * (h 113 2))) + x3)) ∧ (w32 ((w32 (6 * (h 113 2))) + x3)) < alen 1940)
    (ltt (up h 116 (w32 ((w32 (6 * (h 113 2))) + x3)) (h 116 (w32 (x2 + x3)))) fun h1 =>
    (ltt (w32 (x3 + 1)) fun y1 =>
    (BX12_makes_24 n f x2 y1 h1))))))
def JX12_makes_68 (n : Nat) (x2 : Int) (h : Hp) : Option (Hp) :=
(grd (0 ≤ (w32 (x2 + 1)) ∧ (w32 (x2 + 1)) < alen 1940)
(ltt (h 116 (w32 (x2 + 1))) fun y1 =>
(grd (0 ≤ (w32 (x2 + 2)) ∧ (w32 (x2 + 2)) < alen 1940)
(ltt (h 116 (w32 (x2 + 2))) fun y2 =>
(grd (0 ≤ (w32 (x2 + 3)) ∧ (w32 (x2 + 3)) < alen 1940)
(ltt (h 116 (w32 (x2 + 3))) fun y3 =>
(grd (0 ≤ x2 ∧ x2 < alen 1940)
(if (h 116 x2) = 3 then
(grd (0 ≤ (w32 (x2 + 5)) ∧ (w32 (x2 + 5)) < alen 1940)
(bndh (MX12_comesTo n y1 y2 y3 (h 116 (w32 (x2 + 5))) h) fun h3 =>
(some h3)))
else
(if (h 116 x2) = 4 then
(grd (0 ≤ 0 ∧ 0 < alen 44)
(grd (0 ≤ 1 ∧ 1 < alen 44)
(grd (0 ≤ 2 ∧ 2 < alen 44)
(grd (0 ≤ (w32 (x2 + 5)) ∧ (w32 (x2 + 5)) < alen 1940)
(bndh (MX12_comesTo n (w32 ((h 128 0) + y1)) (w32 ((h 128 1) + y2)) (w32 ((h 128 2) + y3)) (h 116 (w32 (x2 + 5))) h) fun h2 =>
(some h2))))))
else
(grd (0 ≤ (w32 (x2 + 4)) ∧ (w32 (x2 + 4)) < alen 1940)
(grd (0 ≤ (w32 (x2 + 5)) ∧ (w32 (x2 + 5)) < alen 1940)
(bndh (MX12_turns n y1 y2 y3 (h 116 (w32 (x2 + 4))) (h 116 (w32 (x2 + 5))) h) fun h1 =>
(some h1)))))))))))))
def JX12_makes_58 (n : Nat) (x2 : Int) (h : Hp) : Option (Hp) :=
(ltt (up h 113 2 (w32 ((h 113 2) + 1))) fun h1 =>
(JX12_makes_68 n x2 h1))
def LX12_makes_24 (n : Nat) (x2 x3 : Int) (h : Hp) : Option (Hp) :=
(bndx (BX12_makes_24 n n x2 x3 h) fun (e2, h1) =>
(JX12_makes_58 n e2 h1))
def MX12_makes (n : Nat) (x1 : Int) (h : Hp) : Option (Hp) :=
(ltt (w32 (6 * x1)) fun y1 =>
(if (h 113 2) ≠ 40 then
(ltt 0 fun y2 =>
(LX12_makes_24 n y1 y2 h))
else
(ltt (up h 113 27 1) fun h1 =>
(JX12_makes_68 n y1 h1))))
def wX12_makes {ρ : Type} (n : Nat) : FN ρ := fun a h k => match a with
  | [_, x1] => bndh (MX12_makes n x1 h) (fun h2 => k 0 h2)
  | _ => none
def fsX12_makes (n : Nat) (ρ : Type) : List (FN ρ) := [wX12_comesTo n, wX12_turns n]
def KBX12_makes_24 (_ : Nat) (bk : Int → Int → Hp → Option (Int × Hp)) : CT (Int × Hp) := [(24, [(0, 16, (some 113)), (2, 0, none), (3, 0, none)], [], fun a c h => match a, c with
    | [x2, x3], [] => bk x2 x3 h
    | _, _ => none),
  (58, [(0, 16, (some 113)), (2, 0, none)], [], fun a c h => match a, c with
    | [x2], [] => some (x2, h)
    | _, _ => none)]
set_option maxRecDepth 100000 in
theorem eBX12_makes_24 (n f : Nat) (x2 : Int) (x3 : Int) (h : Hp) : BX12_makes_24 n (f + 1) x2 x3 h =
  goAt false (kct (KBX12_makes_24 n (BX12_makes_24 n f))) (fun _ _ => none) (fsX12_makes n _) sdX12_makes 1000 24 [(0, 16, 113), (2, 0, x2), (3, 0, x3)] [] h := rfl
def KJX12_makes_68 (_ : Nat) : CT (Hp) := []
set_option maxRecDepth 100000 in
theorem eJX12_makes_68 (n : Nat) (x2 : Int) (h : Hp) : JX12_makes_68 n x2 h =
  goAt false (kct (KJX12_makes_68 n)) (fun _ h => some (h)) (fsX12_makes n _) sdX12_makes 1000 68 [(0, 16, 113), (2, 0, x2)] [] h := rfl
def KJX12_makes_58 (n : Nat) : CT (Hp) := [(68, [(0, 16, (some 113)), (2, 0, none)], [], fun a c h => match a, c with
    | [x2], [] => JX12_makes_68 n x2 h
    | _, _ => none)]
set_option maxRecDepth 100000 in
theorem eJX12_makes_58 (n : Nat) (x2 : Int) (h : Hp) : JX12_makes_58 n x2 h =
  goAt false (kct (KJX12_makes_58 n)) (fun _ h => some (h)) (fsX12_makes n _) sdX12_makes 1000 58 [(0, 16, 113), (2, 0, x2)] [] h := rfl
def KMX12_makes (n : Nat) : CT (Hp) := [(68, [(0, 16, (some 113)), (2, 0, none)], [], fun a c h => match a, c with
    | [x2], [] => JX12_makes_68 n x2 h
    | _, _ => none),
  (24, [(0, 16, (some 113)), (2, 0, none), (3, 0, none)], [], fun a c h => match a, c with
    | [x2, x3], [] => LX12_makes_24 n x2 x3 h
    | _, _ => none)]
set_option maxRecDepth 100000 in
theorem eMX12_makes (n : Nat) (x1 : Int) (h : Hp) : MX12_makes n x1 h =
  goAt false (kct (KMX12_makes n)) (fun _ h => some (h)) (fsX12_makes n _) sdX12_makes 1000 0 [(0, 16, 113), (1, 0, x1)] [] h := rfl
theorem okX12_makes : mokb (mi 97) = true := by decide +kernel
theorem rkX12_makes : rkOK 0 (mi 97).1.2.2.2.2.2.2.1 (mi 97).1.2.2.2.1 := Or.inl ⟨rfl, rfl, rfl⟩
def calX12_makes : List Nat := [91, 96]
theorem foX12_makes {l : Launch} {ρ : Type} (n : Nat) : fsOK l false mi calX12_makes (fsX12_makes n ρ) := ⟨(sndX12_comesTo n), ⟨(sndX12_turns n), trivial⟩⟩
theorem ok_sdX12_makes : sdb (mi 97).1.2.1 (insOK mi (mi 97).1.1.cls (mi 97).1.2.2.1 (mi 97).1.2.2.2.2.1 (mi 97).1.2.2.2.2.2.1 calX12_makes false 0) sdX12_makes = true := by decide +kernel
def GX12_makes_24 (l : Launch) (h0 : Hp) (h' : Hp) (v : Int) (_ : Hp) : (Int × Hp) → Prop
  | (e2, h1) => PAt l false (mi 97).1 h0 v h' 58 [(0, 16, 113), (2, 0, e2)] [] h1
theorem sBX12_makes_24 {l : Launch} {h0 h' : Hp} {v : Int} (h8 : nOf h0 = 148) (n : Nat) : ∀ (f : Nat) (x2 : Int) (x3 : Int) (h : Hp) {r : Int × Hp}, BX12_makes_24 n f x2 x3 h = some r → GX12_makes_24 l h0 h' v h r → PAt l false (mi 97).1 h0 v h' 24 [(0, 16, 113), (2, 0, x2), (3, 0, x3)] [] h := by
  intro f
  induction f with
  | zero =>
    intro x2 x3 h r H _
    have H2 : (none : Option (Int × Hp)) = some r := H
    cases H2
  | succ f ih =>
    intro x2 x3 h r H hG
    exact pat_w ok_sdX12_makes rkX12_makes h8 (foX12_makes n) (fun v1 h1 q => by cases q) (List.forall_mem_cons.mpr ⟨(fun a c h H => by
      dsimp only at H
      split at H
      · exact ih _ _ _ H hG
      · cases H), (List.forall_mem_cons.mpr ⟨(fun a c h H => by
      dsimp only at H
      split at H
      · cases H
        exact hG
      · cases H), (fun q9 h9 => by cases h9)⟩)⟩) ((eBX12_makes_24 n f x2 x3 h).symm.trans H)
theorem sJX12_makes_68 {l : Launch} {h0 h' : Hp} {v : Int} (h8 : nOf h0 = 148) (n : Nat) (x2 : Int) (h : Hp) {r : Hp} (H : JX12_makes_68 n x2 h = some r) (hG : gW h' r) : PAt l false (mi 97).1 h0 v h' 68 [(0, 16, 113), (2, 0, x2)] [] h :=
  pat_w ok_sdX12_makes rkX12_makes h8 (foX12_makes n) (fun v1 h1 q => by
    cases q
    exact ⟨hG, fun q9 => absurd rfl q9⟩) (fun q9 h9 => by cases h9) ((eJX12_makes_68 n x2 h).symm.trans H)
theorem sJX12_makes_58 {l : Launch} {h0 h' : Hp} {v : Int} (h8 : nOf h0 = 148) (n : Nat) (x2 : Int) (h : Hp) {r : Hp} (H : JX12_makes_58 n x2 h = some r) (hG : gW h' r) : PAt l false (mi 97).1 h0 v h' 58 [(0, 16, 113), (2, 0, x2)] [] h :=
  pat_w ok_sdX12_makes rkX12_makes h8 (foX12_makes n) (fun v1 h1 q => by
    cases q
    exact ⟨hG, fun q9 => absurd rfl q9⟩) (List.forall_mem_cons.mpr ⟨(fun a c h H => by
      dsimp only at H
      split at H
      · exact sJX12_makes_68 h8 n _ _ H hG
      · cases H), (fun q9 h9 => by cases h9)⟩) ((eJX12_makes_58 n x2 h).symm.trans H)
theorem sLX12_makes_24 {l : Launch} {h0 h' : Hp} {v : Int} (h8 : nOf h0 = 148) (n : Nat) (x2 : Int) (x3 : Int) (h : Hp) {r : Hp} (H : LX12_makes_24 n x2 x3 h = some r) (hG : gW h' r) : PAt l false (mi 97).1 h0 v h' 24 [(0, 16, 113), (2, 0, x2), (3, 0, x3)] [] h := by
  obtain ⟨e9, h2, h3⟩ := bndx_some H
  obtain ⟨e2, h1⟩ := e9
  exact sBX12_makes_24 h8 n n x2 x3 h h2 (sJX12_makes_58 h8 n e2 h1 h3 hG)
theorem sMX12_makes {l : Launch} {h0 h' : Hp} {v : Int} (h8 : nOf h0 = 148) (n : Nat) (x1 : Int) (h : Hp) {r : Hp} (H : MX12_makes n x1 h = some r) (hG : gW h' r) : PAt l false (mi 97).1 h0 v h' 0 [(0, 16, 113), (1, 0, x1)] [] h :=
  pat_w ok_sdX12_makes rkX12_makes h8 (foX12_makes n) (fun v1 h1 q => by
    cases q
    exact ⟨hG, fun q9 => absurd rfl q9⟩) (List.forall_mem_cons.mpr ⟨(fun a c h H => by
      dsimp only at H
      split at H
      · exact sJX12_makes_68 h8 n _ _ H hG
      · cases H), (List.forall_mem_cons.mpr ⟨(fun a c h H => by
      dsimp only at H
      split at H
      · exact sLX12_makes_24 h8 n _ _ _ H hG
      · cases H), (fun q9 h9 => by cases h9)⟩)⟩) ((eMX12_makes n x1 h).symm.trans H)
theorem sndX12_makes {ρ : Type} {l : Launch} (n : Nat) : SndF (ρ := ρ) l false (mi 97).1 (wX12_makes n) := by
    intro a h k r H ha ho hn hf
    have h8 := hf rfl
    obtain ⟨x0, x1, rfl⟩ := len2 (show a.length = 2 from ha)
    have u0 := uq16 hn (ho (16, x0) (List.mem_cons_self))
    subst u0
    replace H : bndh (MX12_makes n x1 h) (fun h2 => k 0 h2) = some r := H
    obtain ⟨h2, H1, H2⟩ := bndh_some H
    exact ⟨0, h2, H2, met_mk (mok_base okX12_makes).1 (by decide +kernel) (Nat.le_of_ble_eq_true rfl) ho (sMX12_makes h8 n x1 h H1 rfl), fun q => by cases q⟩
/-! X12_lastMove -/
def sdX12_lastMove : SD := [(0, [(0, .aload_n 0, 1, [], 0), (1, .iconst 1, 1, [], 0), (2, .putfield 280, 3, [12, 27, 0, 0, 1, 1349], 0), (5, .aload_n 0, 1, [], 0), (6, .getfield 65, 3, [12, 31, 68, 1, 1353, 0], 18), (9, .iconst 0, 1, [], 0), (10, .iaload, 1, [], 0), (11, .iconst 5, 1, [], 0), (12, .if_icmp .ne 40, 3, [], 0)]),
  (15, [(15, .aload_n 0, 1, [], 0), (16, .aload_n 0, 1, [], 0), (17, .getfield 65, 3, [12, 31, 68, 1, 1353, 0], 18), (20, .iconst 1, 1, [], 0), (21, .iaload, 1, [], 0), (22, .aload_n 0, 1, [], 0), (23, .getfield 65, 3, [12, 31, 68, 1, 1353, 0], 18), (26, .iconst 2, 1, [], 0), (27, .iaload, 1, [], 0), (28, .aload_n 0, 1, [], 0), (29, .getfield 65, 3, [12, 31, 68, 1, 1353, 0], 18), (32, .iconst 3, 1, [], 0), (33, .iaload, 1, [], 0), (34, .aload_n 0, 1, [], 0), (35, .getfield 65, 3, [12, 31, 68, 1, 1353, 0], 18), (38, .iconst 4, 1, [], 0), (39, .iaload, 1, [], 0), (40, .aload_n 0, 1, [], 0), (41, .getfield 65, 3, [12, 31, 68, 1, 1353, 0], 18), (44, .iconst 5, 1, [], 0), (45, .iaload, 1, [], 0), (46, .invokevirtual 300, 3, [0, 0, 1, 96, 1621, 0, 0, 0, 0, 0, 16], 0), (49, .goto 62, 3, [], 0)]),
  (52, [(52, .aload_n 0, 1, [], 0), (53, .getfield 65, 3, [12, 31, 68, 1, 1353, 0], 18), (56, .iconst 0, 1, [], 0), (57, .iaload, 1, [], 0), (58, .iconst 4, 1, [], 0), (59, .if_icmp .ne 52, 3, [], 0)]),
  (62, [(62, .aload_n 0, 1, [], 0), (63, .aload_n 0, 1, [], 0), (64, .getfield 56, 3, [12, 25, 44, 1, 1347, 0], 15), (67, .iconst 0, 1, [], 0), (68, .iaload, 1, [], 0), (69, .aload_n 0, 1, [], 0), (70, .getfield 65, 3, [12, 31, 68, 1, 1353, 0], 18), (73, .iconst 1, 1, [], 0), (74, .iaload, 1, [], 0), (75, .iadd, 1, [], 0), (76, .aload_n 0, 1, [], 0), (77, .getfield 56, 3, [12, 25, 44, 1, 1347, 0], 15), (80, .iconst 1, 1, [], 0), (81, .iaload, 1, [], 0), (82, .aload_n 0, 1, [], 0), (83, .getfield 65, 3, [12, 31, 68, 1, 1353, 0], 18), (86, .iconst 2, 1, [], 0), (87, .iaload, 1, [], 0), (88, .iadd, 1, [], 0), (89, .aload_n 0, 1, [], 0), (90, .getfield 56, 3, [12, 25, 44, 1, 1347, 0], 15), (93, .iconst 2, 1, [], 0), (94, .iaload, 1, [], 0), (95, .aload_n 0, 1, [], 0), (96, .getfield 65, 3, [12, 31, 68, 1, 1353, 0], 18), (99, .iconst 3, 1, [], 0), (100, .iaload, 1, [], 0), (101, .iadd, 1, [], 0), (102, .aload_n 0, 1, [], 0), (103, .getfield 65, 3, [12, 31, 68, 1, 1353, 0], 18), (106, .iconst 5, 1, [], 0), (107, .iaload, 1, [], 0), (108, .invokevirtual 296, 3, [0, 1, 1, 91, 1615, 0, 0, 0, 0, 16], 0)]),
  (111, [(111, .return_, 1, [], 0)])]
def MX12_lastMove (n : Nat) (h : Hp) : Option (Hp) :=
(ltt (up h 113 27 1) fun h1 =>
(grd (0 ≤ 0 ∧ 0 < alen 68)
(if (h1 131 0) ≠ 5 then
(grd (0 ≤ 0 ∧ 0 < alen 68)
(if (h1 131 0) ≠ 4 then
(some h1)
else
(grd (0 ≤ 0 ∧ 0 < alen 44)
(grd (0 ≤ 1 ∧ 1 < alen 68)
(grd (0 ≤ 1 ∧ 1 < alen 44)
(grd (0 ≤ 2 ∧ 2 < alen 68)
(grd (0 ≤ 2 ∧ 2 < alen 44)
(grd (0 ≤ 3 ∧ 3 < alen 68)
(grd (0 ≤ 5 ∧ 5 < alen 68)
(bndh (MX12_comesTo n (w32 ((h1 128 0) + (h1 131 1))) (w32 ((h1 128 1) + (h1 131 2))) (w32 ((h1 128 2) + (h1 131 3))) (h1 131 5) h1) fun h2 =>
(some h2)))))))))))
else
(grd (0 ≤ 1 ∧ 1 < alen 68)
(grd (0 ≤ 2 ∧ 2 < alen 68)
(grd (0 ≤ 3 ∧ 3 < alen 68)
(grd (0 ≤ 4 ∧ 4 < alen 68)
(grd (0 ≤ 5 ∧ 5 < alen 68)
(bndh (MX12_turns n (h1 131 1) (h1 131 2) (h1 131 3) (h1 131 4) (h1 131 5) h1) fun h3 =>
(some h3))))))))))
def wX12_lastMove {ρ : Type} (n : Nat) : FN ρ := fun a h k => match a with
  | [_] => bndh (MX12_lastMove n h) (fun h2 => k 0 h2)
  | _ => none
def fsX12_lastMove (n : Nat) (ρ : Type) : List (FN ρ) := [wX12_turns n, wX12_comesTo n]
def KMX12_lastMove (_ : Nat) : CT (Hp) := []
set_option maxRecDepth 100000 in
theorem eMX12_lastMove (n : Nat) (h : Hp) : MX12_lastMove n h =
  goAt false (kct (KMX12_lastMove n)) (fun _ h => some (h)) (fsX12_lastMove n _) sdX12_lastMove 1000 0 [(0, 16, 113)] [] h := rfl
theorem okX12_lastMove : mokb (mi 98) = true := by decide +kernel
theorem rkX12_lastMove : rkOK 0 (mi 98).1.2.2.2.2.2.2.1 (mi 98).1.2.2.2.1 := Or.inl ⟨rfl, rfl, rfl⟩
def calX12_lastMove : List Nat := [96, 91]
theorem foX12_lastMove {l : Launch} {ρ : Type} (n : Nat) : fsOK l false mi calX12_lastMove (fsX12_lastMove n ρ) := ⟨(sndX12_turns n), ⟨(sndX12_comesTo n), trivial⟩⟩
theorem ok_sdX12_lastMove : sdb (mi 98).1.2.1 (insOK mi (mi 98).1.1.cls (mi 98).1.2.2.1 (mi 98).1.2.2.2.2.1 (mi 98).1.2.2.2.2.2.1 calX12_lastMove false 0) sdX12_lastMove = true := by decide +kernel
theorem sMX12_lastMove {l : Launch} {h0 h' : Hp} {v : Int} (h8 : nOf h0 = 148) (n : Nat)  (h : Hp) {r : Hp} (H : MX12_lastMove n h = some r) (hG : gW h' r) : PAt l false (mi 98).1 h0 v h' 0 [(0, 16, 113)] [] h :=
  pat_w ok_sdX12_lastMove rkX12_lastMove h8 (foX12_lastMove n) (fun v1 h1 q => by
    cases q
    exact ⟨hG, fun q9 => absurd rfl q9⟩) (fun q9 h9 => by cases h9) ((eMX12_lastMove n h).symm.trans H)
theorem sndX12_lastMove {ρ : Type} {l : Launch} (n : Nat) : SndF (ρ := ρ) l false (mi 98).1 (wX12_lastMove n) := by
    intro a h k r H ha ho hn hf
    have h8 := hf rfl
    obtain ⟨x0, rfl⟩ := len1 (show a.length = 1 from ha)
    have u0 := uq16 hn (ho (16, x0) (List.mem_cons_self))
    subst u0
    replace H : bndh (MX12_lastMove n h) (fun h2 => k 0 h2) = some r := H
    obtain ⟨h2, H1, H2⟩ := bndh_some H
    exact ⟨0, h2, H2, met_mk (mok_base okX12_lastMove).1 (by decide +kernel) (Nat.le_of_ble_eq_true rfl) ho (sMX12_lastMove h8 n  h H1 rfl), fun q => by cases q⟩
/-! X12_judges -/
def sdX12_judges : SD := [(0, [(0, .aload_n 0, 1, [], 0), (1, .getfield 273, 3, [12, 26, 0, 0, 1348, 0], 0), (4, .ifCond .eq 12, 3, [], 0)]),
  (7, [(7, .aload_n 0, 1, [], 0), (8, .iconst 5, 1, [], 0), (9, .iload_n 1, 1, [], 0), (10, .invokevirtual 253, 3, [0, 0, 1, 85, 1577, 0, 0, 16], 0), (13, .goto 16, 3, [], 0)]),
  (16, [(16, .aload_n 0, 1, [], 0), (17, .getfield 280, 3, [12, 27, 0, 0, 1349, 0], 0), (20, .ifCond .eq 9, 3, [], 0)]),
  (23, [(23, .aload_n 0, 1, [], 0), (24, .iconst 4, 1, [], 0), (25, .iload_n 1, 1, [], 0), (26, .invokevirtual 253, 3, [0, 0, 1, 85, 1577, 0, 0, 16], 0)]),
  (29, [(29, .return_, 1, [], 0)])]
def MX12_judges (x1 : Int) (h : Hp) : Option (Hp) :=
(if (h 113 26) = 0 then
(if (h 113 27) = 0 then
(some h)
else
(bndh (MX12_fails 4 x1 h) fun h1 =>
(some h1)))
else
(bndh (MX12_fails 5 x1 h) fun h2 =>
(some h2)))
def wX12_judges {ρ : Type} : FN ρ := fun a h k => match a with
  | [_, x1] => bndh (MX12_judges x1 h) (fun h2 => k 0 h2)
  | _ => none
def fsX12_judges (ρ : Type) : List (FN ρ) := [wX12_fails]
def KMX12_judges  : CT (Hp) := []
set_option maxRecDepth 100000 in
theorem eMX12_judges (x1 : Int) (h : Hp) : MX12_judges x1 h =
  goAt false (kct (KMX12_judges)) (fun _ h => some (h)) (fsX12_judges _) sdX12_judges 1000 0 [(0, 16, 113), (1, 0, x1)] [] h := rfl
theorem okX12_judges : mokb (mi 99) = true := by decide +kernel
theorem rkX12_judges : rkOK 0 (mi 99).1.2.2.2.2.2.2.1 (mi 99).1.2.2.2.1 := Or.inl ⟨rfl, rfl, rfl⟩
def calX12_judges : List Nat := [85]
theorem foX12_judges {l : Launch} {ρ : Type} : fsOK l false mi calX12_judges (fsX12_judges ρ) := ⟨sndX12_fails, trivial⟩
theorem ok_sdX12_judges : sdb (mi 99).1.2.1 (insOK mi (mi 99).1.1.cls (mi 99).1.2.2.1 (mi 99).1.2.2.2.2.1 (mi 99).1.2.2.2.2.2.1 calX12_judges false 0) sdX12_judges = true := by decide +kernel
theorem sMX12_judges {l : Launch} {h0 h' : Hp} {v : Int} (h8 : nOf h0 = 148)  (x1 : Int) (h : Hp) {r : Hp} (H : MX12_judges x1 h = some r) (hG : gW h' r) : PAt l false (mi 99).1 h0 v h' 0 [(0, 16, 113), (1, 0, x1)] [] h :=
  pat_w ok_sdX12_judges rkX12_judges h8 (foX12_judges) (fun v1 h1 q => by
    cases q
    exact ⟨hG, fun q9 => absurd rfl q9⟩) (fun q9 h9 => by cases h9) ((eMX12_judges x1 h).symm.trans H)
theorem sndX12_judges {ρ : Type} {l : Launch} : SndF (ρ := ρ) l false (mi 99).1 (wX12_judges) := by
    intro a h k r H ha ho hn hf
    have h8 := hf rfl
    obtain ⟨x0, x1, rfl⟩ := len2 (show a.length = 2 from ha)
    have u0 := uq16 hn (ho (16, x0) (List.mem_cons_self))
    subst u0
    replace H : bndh (MX12_judges x1 h) (fun h2 => k 0 h2) = some r := H
    obtain ⟨h2, H1, H2⟩ := bndh_some H
    exact ⟨0, h2, H2, met_mk (mok_base okX12_judges).1 (by decide +kernel) (Nat.le_of_ble_eq_true rfl) ho (sMX12_judges h8 x1 h H1 rfl), fun q => by cases q⟩
/-! X12_readsMove -/
def sdX12_readsMove : SD := [(0, [(0, .iload_n 1, 1, [], 0), (1, .iconst 5, 1, [], 0), (2, .if_icmp .ne 7, 3, [], 0)]),
  (5, [(5, .iconst 1, 1, [], 0), (6, .goto 4, 3, [], 0)]),
  (9, [(9, .iconst 0, 1, [], 0)]),
  (10, [(10, .istore_n 3, 1, [], 0), (11, .aload_n 0, 1, [], 0), (12, .getfield 65, 3, [12, 31, 68, 1, 1353, 0], 18), (15, .iconst 0, 1, [], 0), (16, .iload_n 1, 1, [], 0), (17, .iastore, 1, [], 0), (18, .aload_n 0, 1, [], 0), (19, .getfield 65, 3, [12, 31, 68, 1, 1353, 0], 18), (22, .iconst 1, 1, [], 0), (23, .aload_n 0, 1, [], 0), (24, .ldc_w 304, 3, [0, 1605], (-100000)), (27, .ldc_w 305, 3, [0, 1606], 100000), (30, .invokevirtual 306, 3, [1, 0, 1, 87, 1585, 0, 0, 16], 0), (33, .iastore, 1, [], 0), (34, .aload_n 0, 1, [], 0), (35, .getfield 65, 3, [12, 31, 68, 1, 1353, 0], 18), (38, .iconst 2, 1, [], 0), (39, .aload_n 0, 1, [], 0), (40, .ldc_w 304, 3, [0, 1605], (-100000)), (43, .ldc_w 305, 3, [0, 1606], 100000), (46, .invokevirtual 306, 3, [1, 0, 1, 87, 1585, 0, 0, 16], 0), (49, .iastore, 1, [], 0), (50, .iload_n 3, 1, [], 0), (51, .ifCond .eq 37, 3, [], 0)]),
  (54, [(54, .aload_n 0, 1, [], 0), (55, .invokevirtual 240, 3, [1, 1, 1, 78, 1535, 16], 0), (58, .ifCond .eq 30, 3, [], 0)]),
  (61, [(61, .aload_n 0, 1, [], 0), (62, .getfield 65, 3, [12, 31, 68, 1, 1353, 0], 18), (65, .iconst 1, 1, [], 0), (66, .iaload, 1, [], 0), (67, .ifCond .ne 21, 3, [], 0)]),
  (70, [(70, .aload_n 0, 1, [], 0), (71, .getfield 65, 3, [12, 31, 68, 1, 1353, 0], 18), (74, .iconst 2, 1, [], 0), (75, .iaload, 1, [], 0), (76, .ifCond .ne 12, 3, [], 0)]),
  (79, [(79, .aload_n 0, 1, [], 0), (80, .iconst 2, 1, [], 0), (81, .aload_n 0, 1, [], 0), (82, .getfield 247, 3, [12, 23, 0, 0, 1345, 0], 0), (85, .invokevirtual 253, 3, [0, 2, 1, 85, 1577, 0, 0, 16], 0)]),
  (88, [(88, .aload_n 0, 1, [], 0), (89, .getfield 65, 3, [12, 31, 68, 1, 1353, 0], 18), (92, .iconst 3, 1, [], 0), (93, .iload_n 3, 1, [], 0), (94, .ifCond .eq 10, 3, [], 0)]),
  (97, [(97, .aload_n 0, 1, [], 0), (98, .invokevirtual 309, 3, [1, 3, 1, 90, 1607, 16], 0), (101, .goto 13, 3, [], 0)]),
  (104, [(104, .aload_n 0, 1, [], 0), (105, .ldc_w 304, 3, [0, 1605], (-100000)), (108, .ldc_w 305, 3, [0, 1606], 100000), (111, .invokevirtual 306, 3, [1, 0, 1, 87, 1585, 0, 0, 16], 0)]),
  (114, [(114, .iastore, 1, [], 0), (115, .aload_n 0, 1, [], 0), (116, .getfield 65, 3, [12, 31, 68, 1, 1353, 0], 18), (119, .iconst 4, 1, [], 0), (120, .iload_n 3, 1, [], 0), (121, .ifCond .eq 16, 3, [], 0)]),
  (124, [(124, .aload_n 0, 1, [], 0), (125, .ldc_w 304, 3, [0, 1605], (-100000)), (128, .ldc_w 305, 3, [0, 1606], 100000), (131, .invokevirtual 306, 3, [1, 0, 1, 87, 1585, 0, 0, 16], 0), (134, .goto 4, 3, [], 0)]),
  (137, [(137, .iconst 0, 1, [], 0)]),
  (138, [(138, .iastore, 1, [], 0), (139, .aload_n 0, 1, [], 0), (140, .getfield 65, 3, [12, 31, 68, 1, 1353, 0], 18), (143, .iconst 5, 1, [], 0), (144, .aload_n 0, 1, [], 0), (145, .iconst 1, 1, [], 0), (146, .sipush 5000, 3, [], 0), (149, .invokevirtual 306, 3, [1, 0, 1, 87, 1585, 0, 0, 16], 0), (152, .iastore, 1, [], 0), (153, .aload_n 0, 1, [], 0), (154, .invokevirtual 312, 3, [0, 4, 1, 88, 1597, 16], 0), (157, .aload_n 0, 1, [], 0), (158, .invokevirtual 240, 3, [1, 1, 1, 78, 1535, 16], 0), (161, .ifCond .ne 4, 3, [], 0)]),
  (164, [(164, .return_, 1, [], 0)]),
  (165, [(165, .aload_n 0, 1, [], 0), (166, .iconst 0, 1, [], 0), (167, .putfield 273, 3, [12, 26, 0, 0, 1, 1348], 0), (170, .aload_n 0, 1, [], 0), (171, .iconst 0, 1, [], 0), (172, .putfield 280, 3, [12, 27, 0, 0, 1, 1349], 0), (175, .aload_n 0, 1, [], 0), (176, .getfield 127, 3, [12, 2, 0, 0, 1324, 0], 0), (179, .bipush 40, 2, [], 0), (181, .if_icmp .ge 52, 3, [], 0)]),
  (184, [(184, .iconst 0, 1, [], 0), (185, .istore 4, 2, [], 0)]),
  (187, [(187, .iload 4, 2, [], 0), (189, .bipush 6, 2, [], 0), (191, .if_icmp .ge 31, 3, [], 0)]),
  (194, [(194, .aload_n 0, 1, [], 0), (195, .getfield 18, 3, [12, 8, 1940, 1, 1330, 0], 3), (198, .bipush 6, 2, [], 0), (200, .aload_n 0, 1, [], 0), (201, .getfield 127, 3, [12, 2, 0, 0, 1324, 0], 0), (204, .imul, 1, [], 0), (205, .iload 4, 2, [], 0), (207, .iadd, 1, [], 0), (208, .aload_n 0, 1, [], 0), (209, .getfield 65, 3, [12, 31, 68, 1, 1353, 0], 18), (212, .iload 4, 2, [], 0), (214, .iaload, 1, [], 0), (215, .iastore, 1, [], 0), (216, .iinc 4 1, 3, [], 0), (219, .goto (-32), 3, [], 0)]),
  (222, [(222, .aload_n 0, 1, [], 0), (223, .aload_n 0, 1, [], 0), (224, .getfield 127, 3, [12, 2, 0, 0, 1324, 0], 0), (227, .invokevirtual 315, 3, [0, 5, 1, 97, 1611, 0, 16], 0), (230, .goto 7, 3, [], 0)]),
  (233, [(233, .aload_n 0, 1, [], 0), (234, .invokevirtual 318, 3, [0, 6, 1, 98, 1634, 16], 0)]),
  (237, [(237, .aload_n 0, 1, [], 0), (238, .iload_n 2, 1, [], 0), (239, .invokevirtual 321, 3, [0, 7, 1, 99, 1638, 0, 16], 0), (242, .return_, 1, [], 0)])]
def JX12_readsMove_237 (n : Nat) (x2 : Int) (h : Hp) : Option (Hp) :=
(bndh (MX12_judges x2 h) fun h1 =>
(some h1))
def BX12_readsMove_187 (n : Nat) : Nat → Int → Int → Hp → Option (Int × Hp)
  | 0, _, _, _ => none
  | f + 1, x2, x4, h =>
    (if 6 ≤ x4 then
    (some (x2, h))
    else
    (grd (0 ≤ x4 ∧ x4 < alen 68)
    (grd (0 ≤ (w32 ((w32 (6 * (h 113 2))) + x4)) ∧ (w32 ((w32 (6 * (h 113 2))) + x4)) < alen 1940)
    (ltt (up h 116 (w32 ((w32 (6 * (h 113 2))) + x4)) (h 131 x4)) fun h1 =>
    (ltt (w32 (x4 + 1)) fun y1 =>
    (BX12_readsMove_187 n f x2 y1 h1))))))
def JX12_readsMove_222 (n : Nat) (x2 : Int) (h : Hp) : Option (Hp) :=
(bndh (MX12_makes n (h 113 2) h) fun h1 =>
(JX12_readsMove_237 n x2 h1))
def LX12_readsMove_187 (n : Nat) (x2 x4 : Int) (h : Hp) : Option (Hp) :=
(bndx (BX12_readsMove_187 n n x2 x4 h) fun (e2, h1) =>
(JX12_readsMove_222 n e2 h1))
def JX12_readsMove_138 (n : Nat) (x2 z0 z1 z2 : Int) (h : Hp) : Option (Hp) :=
(grd (0 ≤ z1 ∧ z1 < alen 68)
(ltt (up h z0 z1 z2) fun h1 =>
(bnd (MX12_number n 1 5000 h1) fun r1 h2 =>
(grd (0 ≤ 5 ∧ 5 < alen 68)
(ltt (up h2 131 5 r1) fun h3 =>
(bndh (MX12_ends n h3) fun h4 =>
(bndp (MX12_isRight h4) fun r2 =>
(if r2 ≠ 0 then
(ltt (up h4 113 26 0) fun h5 =>
(ltt (up h5 113 27 0) fun h6 =>
(if 40 ≤ (h6 113 2) then
(bndh (MX12_lastMove n h6) fun h7 =>
(JX12_readsMove_237 n x2 h7))
else
(ltt 0 fun y1 =>
(LX12_readsMove_187 n x2 y1 h6)))))
else
(some h4)))))))))
def JX12_readsMove_114 (n : Nat) (x2 x3 z0 z1 z2 : Int) (h : Hp) : Option (Hp) :=
(grd (0 ≤ z1 ∧ z1 < alen 68)
(ltt (up h z0 z1 z2) fun h1 =>
(if x3 = 0 then
(JX12_readsMove_138 n x2 131 4 0 h1)
else
(bnd (MX12_number n (-100000) 100000 h1) fun r1 h2 =>
(JX12_readsMove_138 n x2 131 4 r1 h2)))))
def JX12_readsMove_88 (n : Nat) (x2 x3 : Int) (h : Hp) : Option (Hp) :=
(if x3 = 0 then
(bnd (MX12_number n (-100000) 100000 h) fun r1 h1 =>
(JX12_readsMove_114 n x2 x3 131 3 r1 h1))
else
(bnd (MX12_quarters n h) fun r2 h2 =>
(JX12_readsMove_114 n x2 x3 131 3 r2 h2)))
def JX12_readsMove_10 (n : Nat) (x1 x2 z0 : Int) (h : Hp) : Option (Hp) :=
(ltt z0 fun y1 =>
(grd (0 ≤ 0 ∧ 0 < alen 68)
(ltt (up h 131 0 x1) fun h1 =>
(bnd (MX12_number n (-100000) 100000 h1) fun r1 h2 =>
(grd (0 ≤ 1 ∧ 1 < alen 68)
(ltt (up h2 131 1 r1) fun h3 =>
(bnd (MX12_number n (-100000) 100000 h3) fun r2 h4 =>
(grd (0 ≤ 2 ∧ 2 < alen 68)
(ltt (up h4 131 2 r2) fun h5 =>
(if y1 = 0 then
(JX12_readsMove_88 n x2 y1 h5)
else
(bndp (MX12_isRight h5) fun r3 =>
(if r3 = 0 then
(JX12_readsMove_88 n x2 y1 h5)
else
(grd (0 ≤ 1 ∧ 1 < alen 68)
(if (h5 131 1) ≠ 0 then
(JX12_readsMove_88 n x2 y1 h5)
else
(grd (0 ≤ 2 ∧ 2 < alen 68)
(if (h5 131 2) ≠ 0 then
(JX12_readsMove_88 n x2 y1 h5)
else
(bndh (MX12_fails 2 (h5 113 23) h5) fun h6 =>
(JX12_readsMove_88 n x2 y1 h6))))))))))))))))))
def MX12_readsMove (n : Nat) (x1 x2 : Int) (h : Hp) : Option (Hp) :=
(if x1 ≠ 5 then
(JX12_readsMove_10 n x1 x2 0 h)
else
(JX12_readsMove_10 n x1 x2 1 h))
def wX12_readsMove {ρ : Type} (n : Nat) : FN ρ := fun a h k => match a with
  | [_, x1, x2] => bndh (MX12_readsMove n x1 x2 h) (fun h2 => k 0 h2)
  | _ => none
def fsX12_readsMove (n : Nat) (ρ : Type) : List (FN ρ) := [wX12_number n, wX12_isRight, wX12_fails, wX12_quarters n, wX12_ends n, wX12_makes n, wX12_lastMove n, wX12_judges]
def KJX12_readsMove_237 (_ : Nat) : CT (Hp) := []
set_option maxRecDepth 100000 in
theorem eJX12_readsMove_237 (n : Nat) (x2 : Int) (h : Hp) : JX12_readsMove_237 n x2 h =
  goAt false (kct (KJX12_readsMove_237 n)) (fun _ h => some (h)) (fsX12_readsMove n _) sdX12_readsMove 1000 237 [(0, 16, 113), (2, 0, x2)] [] h := rfl
def KBX12_readsMove_187 (_ : Nat) (bk : Int → Int → Hp → Option (Int × Hp)) : CT (Int × Hp) := [(187, [(0, 16, (some 113)), (2, 0, none), (4, 0, none)], [], fun a c h => match a, c with
    | [x2, x4], [] => bk x2 x4 h
    | _, _ => none),
  (222, [(0, 16, (some 113)), (2, 0, none)], [], fun a c h => match a, c with
    | [x2], [] => some (x2, h)
    | _, _ => none)]
set_option maxRecDepth 100000 in
theorem eBX12_readsMove_187 (n f : Nat) (x2 : Int) (x4 : Int) (h : Hp) : BX12_readsMove_187 n (f + 1) x2 x4 h =
  goAt false (kct (KBX12_readsMove_187 n (BX12_readsMove_187 n f))) (fun _ _ => none) (fsX12_readsMove n _) sdX12_readsMove 1000 187 [(0, 16, 113), (2, 0, x2), (4, 0, x4)] [] h := rfl
def KJX12_readsMove_222 (n : Nat) : CT (Hp) := [(237, [(0, 16, (some 113)), (2, 0, none)], [], fun a c h => match a, c with
    | [x2], [] => JX12_readsMove_237 n x2 h
    | _, _ => none)]
set_option maxRecDepth 100000 in
theorem eJX12_readsMove_222 (n : Nat) (x2 : Int) (h : Hp) : JX12_readsMove_222 n x2 h =
  goAt false (kct (KJX12_readsMove_222 n)) (fun _ h => some (h)) (fsX12_readsMove n _) sdX12_readsMove 1000 222 [(0, 16, 113), (2, 0, x2)] [] h := rfl
def KJX12_readsMove_138 (n : Nat) : CT (Hp) := [(237, [(0, 16, (some 113)), (2, 0, none)], [], fun a c h => match a, c with
    | [x2], [] => JX12_readsMove_237 n x2 h
    | _, _ => none),
  (187, [(0, 16, (some 113)), (2, 0, none), (4, 0, none)], [], fun a c h => match a, c with
    | [x2, x4], [] => LX12_readsMove_187 n x2 x4 h
    | _, _ => none)]
set_option maxRecDepth 100000 in
theorem eJX12_readsMove_138 (n : Nat) (x2 : Int) (z0 : Int) (z1 : Int) (z2 : Int) (h : Hp) : JX12_readsMove_138 n x2 z0 z1 z2 h =
  goAt false (kct (KJX12_readsMove_138 n)) (fun _ h => some (h)) (fsX12_readsMove n _) sdX12_readsMove 1000 138 [(0, 16, 113), (2, 0, x2)] [(0, z2), (0, z1), (68, z0)] h := rfl
def KJX12_readsMove_114 (n : Nat) : CT (Hp) := [(138, [(0, 16, (some 113)), (2, 0, none)], [(0, none), (0, none), (68, none)], fun a c h => match a, c with
    | [x2], [z2, z1, z0] => JX12_readsMove_138 n x2 z0 z1 z2 h
    | _, _ => none)]
set_option maxRecDepth 100000 in
theorem eJX12_readsMove_114 (n : Nat) (x2 : Int) (x3 : Int) (z0 : Int) (z1 : Int) (z2 : Int) (h : Hp) : JX12_readsMove_114 n x2 x3 z0 z1 z2 h =
  goAt false (kct (KJX12_readsMove_114 n)) (fun _ h => some (h)) (fsX12_readsMove n _) sdX12_readsMove 1000 114 [(0, 16, 113), (2, 0, x2), (3, 0, x3)] [(0, z2), (0, z1), (68, z0)] h := rfl
def KJX12_readsMove_88 (n : Nat) : CT (Hp) := [(114, [(0, 16, (some 113)), (2, 0, none), (3, 0, none)], [(0, none), (0, none), (68, none)], fun a c h => match a, c with
    | [x2, x3], [z2, z1, z0] => JX12_readsMove_114 n x2 x3 z0 z1 z2 h
    | _, _ => none)]
set_option maxRecDepth 100000 in
theorem eJX12_readsMove_88 (n : Nat) (x2 : Int) (x3 : Int) (h : Hp) : JX12_readsMove_88 n x2 x3 h =
  goAt false (kct (KJX12_readsMove_88 n)) (fun _ h => some (h)) (fsX12_readsMove n _) sdX12_readsMove 1000 88 [(0, 16, 113), (2, 0, x2), (3, 0, x3)] [] h := rfl
def KJX12_readsMove_10 (n : Nat) : CT (Hp) := [(88, [(0, 16, (some 113)), (2, 0, none), (3, 0, none)], [], fun a c h => match a, c with
    | [x2, x3], [] => JX12_readsMove_88 n x2 x3 h
    | _, _ => none)]
set_option maxRecDepth 100000 in
theorem eJX12_readsMove_10 (n : Nat) (x1 : Int) (x2 : Int) (z0 : Int) (h : Hp) : JX12_readsMove_10 n x1 x2 z0 h =
  goAt false (kct (KJX12_readsMove_10 n)) (fun _ h => some (h)) (fsX12_readsMove n _) sdX12_readsMove 1000 10 [(0, 16, 113), (1, 0, x1), (2, 0, x2)] [(0, z0)] h := rfl
def KMX12_readsMove (n : Nat) : CT (Hp) := [(10, [(0, 16, (some 113)), (1, 0, none), (2, 0, none)], [(0, none)], fun a c h => match a, c with
    | [x1, x2], [z0] => JX12_readsMove_10 n x1 x2 z0 h
    | _, _ => none)]
set_option maxRecDepth 100000 in
theorem eMX12_readsMove (n : Nat) (x1 : Int) (x2 : Int) (h : Hp) : MX12_readsMove n x1 x2 h =
  goAt false (kct (KMX12_readsMove n)) (fun _ h => some (h)) (fsX12_readsMove n _) sdX12_readsMove 1000 0 [(0, 16, 113), (1, 0, x1), (2, 0, x2)] [] h := rfl
theorem okX12_readsMove : mokb (mi 100) = true := by decide +kernel
theorem rkX12_readsMove : rkOK 0 (mi 100).1.2.2.2.2.2.2.1 (mi 100).1.2.2.2.1 := Or.inl ⟨rfl, rfl, rfl⟩
def calX12_readsMove : List Nat := [87, 78, 85, 90, 88, 97, 98, 99]
theorem foX12_readsMove {l : Launch} {ρ : Type} (n : Nat) : fsOK l false mi calX12_readsMove (fsX12_readsMove n ρ) := ⟨(sndX12_number n), ⟨sndX12_isRight, ⟨sndX12_fails, ⟨(sndX12_quarters n), ⟨(sndX12_ends n), ⟨(sndX12_makes n), ⟨(sndX12_lastMove n), ⟨sndX12_judges, trivial⟩⟩⟩⟩⟩⟩⟩⟩
theorem ok_sdX12_readsMove : sdb (mi 100).1.2.1 (insOK mi (mi 100).1.1.cls (mi 100).1.2.2.1 (mi 100).1.2.2.2.2.1 (mi 100).1.2.2.2.2.2.1 calX12_readsMove false 0) sdX12_readsMove = true := by decide +kernel
def GX12_readsMove_187 (l : Launch) (h0 : Hp) (h' : Hp) (v : Int) (_ : Hp) : (Int × Hp) → Prop
  | (e2, h1) => PAt l false (mi 100).1 h0 v h' 222 [(0, 16, 113), (2, 0, e2)] [] h1
theorem sJX12_readsMove_237 {l : Launch} {h0 h' : Hp} {v : Int} (h8 : nOf h0 = 148) (n : Nat) (x2 : Int) (h : Hp) {r : Hp} (H : JX12_readsMove_237 n x2 h = some r) (hG : gW h' r) : PAt l false (mi 100).1 h0 v h' 237 [(0, 16, 113), (2, 0, x2)] [] h :=
  pat_w ok_sdX12_readsMove rkX12_readsMove h8 (foX12_readsMove n) (fun v1 h1 q => by
    cases q
    exact ⟨hG, fun q9 => absurd rfl q9⟩) (fun q9 h9 => by cases h9) ((eJX12_readsMove_237 n x2 h).symm.trans H)
theorem sBX12_readsMove_187 {l : Launch} {h0 h' : Hp} {v : Int} (h8 : nOf h0 = 148) (n : Nat) : ∀ (f : Nat) (x2 : Int) (x4 : Int) (h : Hp) {r : Int × Hp}, BX12_readsMove_187 n f x2 x4 h = some r → GX12_readsMove_187 l h0 h' v h r → PAt l false (mi 100).1 h0 v h' 187 [(0, 16, 113), (2, 0, x2), (4, 0, x4)] [] h := by
  intro f
  induction f with
  | zero =>
    intro x2 x4 h r H _
    have H2 : (none : Option (Int × Hp)) = some r := H
    cases H2
  | succ f ih =>
    intro x2 x4 h r H hG
    exact pat_w ok_sdX12_readsMove rkX12_readsMove h8 (foX12_readsMove n) (fun v1 h1 q => by cases q) (List.forall_mem_cons.mpr ⟨(fun a c h H => by
      dsimp only at H
      split at H
      · exact ih _ _ _ H hG
      · cases H), (List.forall_mem_cons.mpr ⟨(fun a c h H => by
      dsimp only at H
      split at H
      · cases H
        exact hG
      · cases H), (fun q9 h9 => by cases h9)⟩)⟩) ((eBX12_readsMove_187 n f x2 x4 h).symm.trans H)
theorem sJX12_readsMove_222 {l : Launch} {h0 h' : Hp} {v : Int} (h8 : nOf h0 = 148) (n : Nat) (x2 : Int) (h : Hp) {r : Hp} (H : JX12_readsMove_222 n x2 h = some r) (hG : gW h' r) : PAt l false (mi 100).1 h0 v h' 222 [(0, 16, 113), (2, 0, x2)] [] h :=
  pat_w ok_sdX12_readsMove rkX12_readsMove h8 (foX12_readsMove n) (fun v1 h1 q => by
    cases q
    exact ⟨hG, fun q9 => absurd rfl q9⟩) (List.forall_mem_cons.mpr ⟨(fun a c h H => by
      dsimp only at H
      split at H
      · exact sJX12_readsMove_237 h8 n _ _ H hG
      · cases H), (fun q9 h9 => by cases h9)⟩) ((eJX12_readsMove_222 n x2 h).symm.trans H)
theorem sLX12_readsMove_187 {l : Launch} {h0 h' : Hp} {v : Int} (h8 : nOf h0 = 148) (n : Nat) (x2 : Int) (x4 : Int) (h : Hp) {r : Hp} (H : LX12_readsMove_187 n x2 x4 h = some r) (hG : gW h' r) : PAt l false (mi 100).1 h0 v h' 187 [(0, 16, 113), (2, 0, x2), (4, 0, x4)] [] h := by
  obtain ⟨e9, h2, h3⟩ := bndx_some H
  obtain ⟨e2, h1⟩ := e9
  exact sBX12_readsMove_187 h8 n n x2 x4 h h2 (sJX12_readsMove_222 h8 n e2 h1 h3 hG)
theorem sJX12_readsMove_138 {l : Launch} {h0 h' : Hp} {v : Int} (h8 : nOf h0 = 148) (n : Nat) (x2 : Int) (z0 : Int) (z1 : Int) (z2 : Int) (h : Hp) {r : Hp} (H : JX12_readsMove_138 n x2 z0 z1 z2 h = some r) (hG : gW h' r) : PAt l false (mi 100).1 h0 v h' 138 [(0, 16, 113), (2, 0, x2)] [(0, z2), (0, z1), (68, z0)] h :=
  pat_w ok_sdX12_readsMove rkX12_readsMove h8 (foX12_readsMove n) (fun v1 h1 q => by
    cases q
    exact ⟨hG, fun q9 => absurd rfl q9⟩) (List.forall_mem_cons.mpr ⟨(fun a c h H => by
      dsimp only at H
      split at H
      · exact sJX12_readsMove_237 h8 n _ _ H hG
      · cases H), (List.forall_mem_cons.mpr ⟨(fun a c h H => by
      dsimp only at H
      split at H
      · exact sLX12_readsMove_187 h8 n _ _ _ H hG
      · cases H), (fun q9 h9 => by cases h9)⟩)⟩) ((eJX12_readsMove_138 n x2 z0 z1 z2 h).symm.trans H)
theorem sJX12_readsMove_114 {l : Launch} {h0 h' : Hp} {v : Int} (h8 : nOf h0 = 148) (n : Nat) (x2 : Int) (x3 : Int) (z0 : Int) (z1 : Int) (z2 : Int) (h : Hp) {r : Hp} (H : JX12_readsMove_114 n x2 x3 z0 z1 z2 h = some r) (hG : gW h' r) : PAt l false (mi 100).1 h0 v h' 114 [(0, 16, 113), (2, 0, x2), (3, 0, x3)] [(0, z2), (0, z1), (68, z0)] h :=
  pat_w ok_sdX12_readsMove rkX12_readsMove h8 (foX12_readsMove n) (fun v1 h1 q => by
    cases q
    exact ⟨hG, fun q9 => absurd rfl q9⟩) (List.forall_mem_cons.mpr ⟨(fun a c h H => by
      dsimp only at H
      split at H
      · exact sJX12_readsMove_138 h8 n _ _ _ _ _ H hG
      · cases H), (fun q9 h9 => by cases h9)⟩) ((eJX12_readsMove_114 n x2 x3 z0 z1 z2 h).symm.trans H)
theorem sJX12_readsMove_88 {l : Launch} {h0 h' : Hp} {v : Int} (h8 : nOf h0 = 148) (n : Nat) (x2 : Int) (x3 : Int) (h : Hp) {r : Hp} (H : JX12_readsMove_88 n x2 x3 h = some r) (hG : gW h' r) : PAt l false (mi 100).1 h0 v h' 88 [(0, 16, 113), (2, 0, x2), (3, 0, x3)] [] h :=
  pat_w ok_sdX12_readsMove rkX12_readsMove h8 (foX12_readsMove n) (fun v1 h1 q => by
    cases q
    exact ⟨hG, fun q9 => absurd rfl q9⟩) (List.forall_mem_cons.mpr ⟨(fun a c h H => by
      dsimp only at H
      split at H
      · exact sJX12_readsMove_114 h8 n _ _ _ _ _ _ H hG
      · cases H), (fun q9 h9 => by cases h9)⟩) ((eJX12_readsMove_88 n x2 x3 h).symm.trans H)
theorem sJX12_readsMove_10 {l : Launch} {h0 h' : Hp} {v : Int} (h8 : nOf h0 = 148) (n : Nat) (x1 : Int) (x2 : Int) (z0 : Int) (h : Hp) {r : Hp} (H : JX12_readsMove_10 n x1 x2 z0 h = some r) (hG : gW h' r) : PAt l false (mi 100).1 h0 v h' 10 [(0, 16, 113), (1, 0, x1), (2, 0, x2)] [(0, z0)] h :=
  pat_w ok_sdX12_readsMove rkX12_readsMove h8 (foX12_readsMove n) (fun v1 h1 q => by
    cases q
    exact ⟨hG, fun q9 => absurd rfl q9⟩) (List.forall_mem_cons.mpr ⟨(fun a c h H => by
      dsimp only at H
      split at H
      · exact sJX12_readsMove_88 h8 n _ _ _ H hG
      · cases H), (fun q9 h9 => by cases h9)⟩) ((eJX12_readsMove_10 n x1 x2 z0 h).symm.trans H)
theorem sMX12_readsMove {l : Launch} {h0 h' : Hp} {v : Int} (h8 : nOf h0 = 148) (n : Nat) (x1 : Int) (x2 : Int) (h : Hp) {r : Hp} (H : MX12_readsMove n x1 x2 h = some r) (hG : gW h' r) : PAt l false (mi 100).1 h0 v h' 0 [(0, 16, 113), (1, 0, x1), (2, 0, x2)] [] h :=
  pat_w ok_sdX12_readsMove rkX12_readsMove h8 (foX12_readsMove n) (fun v1 h1 q => by
    cases q
    exact ⟨hG, fun q9 => absurd rfl q9⟩) (List.forall_mem_cons.mpr ⟨(fun a c h H => by
      dsimp only at H
      split at H
      · exact sJX12_readsMove_10 h8 n _ _ _ _ H hG
      · cases H), (fun q9 h9 => by cases h9)⟩) ((eMX12_readsMove n x1 x2 h).symm.trans H)
theorem sndX12_readsMove {ρ : Type} {l : Launch} (n : Nat) : SndF (ρ := ρ) l false (mi 100).1 (wX12_readsMove n) := by
    intro a h k r H ha ho hn hf
    have h8 := hf rfl
    obtain ⟨x0, x1, x2, rfl⟩ := len3 (show a.length = 3 from ha)
    have u0 := uq16 hn (ho (16, x0) (List.mem_cons_self))
    subst u0
    replace H : bndh (MX12_readsMove n x1 x2 h) (fun h2 => k 0 h2) = some r := H
    obtain ⟨h2, H1, H2⟩ := bndh_some H
    exact ⟨0, h2, H2, met_mk (mok_base okX12_readsMove).1 (by decide +kernel) (Nat.le_of_ble_eq_true rfl) ho (sMX12_readsMove h8 n x1 x2 h H1 rfl), fun q => by cases q⟩
/-! X12_name -/
def sdX12_name : SD := [(0, [(0, .aload_n 0, 1, [], 0), (1, .invokevirtual 244, 3, [1, 0, 1, 80, 1539, 16], 0), (4, .pop, 1, [], 0), (5, .aload_n 0, 1, [], 0), (6, .aload_n 0, 1, [], 0), (7, .getfield 190, 3, [12, 21, 0, 0, 1343, 0], 0), (10, .putfield 263, 3, [12, 24, 0, 0, 0, 1346], 0), (13, .aload_n 0, 1, [], 0), (14, .invokevirtual 221, 3, [1, 1, 1, 82, 1555, 16], 0), (17, .istore_n 1, 1, [], 0), (18, .aload_n 0, 1, [], 0), (19, .invokevirtual 240, 3, [1, 2, 1, 78, 1535, 16], 0), (22, .ifCond .eq 32, 3, [], 0)]),
  (25, [(25, .iload_n 1, 1, [], 0), (26, .i2l, 1, [], 0), (27, .lconst 1, 1, [], 0), (28, .ldc2_w 266, 3, [1, 1650], 7), (31, .invokestatic 217, 3, [1, 3, 3, 81, 1561, 1, 1, 1], 0), (34, .ifCond .eq 11, 3, [], 0)]),
  (37, [(37, .aload_n 0, 1, [], 0), (38, .invokevirtual 268, 3, [1, 4, 1, 84, 1551, 16], 0), (41, .iconst (-1), 1, [], 0), (42, .if_icmp .eq 12, 3, [], 0)]),
  (45, [(45, .aload_n 0, 1, [], 0), (46, .iconst 1, 1, [], 0), (47, .aload_n 0, 1, [], 0), (48, .getfield 190, 3, [12, 21, 0, 0, 1343, 0], 0), (51, .invokevirtual 253, 3, [0, 5, 1, 85, 1577, 0, 0, 16], 0)]),
  (54, [(54, .lconst 0, 1, [], 0), (55, .lstore_n 2, 1, [], 0), (56, .iconst 0, 1, [], 0), (57, .istore 4, 2, [], 0)]),
  (59, [(59, .iload 4, 2, [], 0), (61, .iload_n 1, 1, [], 0), (62, .if_icmp .ge 42, 3, [], 0)]),
  (65, [(65, .aload_n 0, 1, [], 0), (66, .invokevirtual 240, 3, [1, 2, 1, 78, 1535, 16], 0), (69, .ifCond .eq 35, 3, [], 0)]),
  (72, [(72, .ldc2_w 271, 3, [1, 1651], 32), (75, .lload_n 2, 1, [], 0), (76, .lmul, 1, [], 0), (77, .aload_n 0, 1, [], 0), (78, .getfield 52, 3, [12, 19, 3223, 1, 1341, 0], 14), (81, .aload_n 0, 1, [], 0), (82, .getfield 190, 3, [12, 21, 0, 0, 1343, 0], 0), (85, .iload 4, 2, [], 0), (87, .iadd, 1, [], 0), (88, .baload, 1, [], 0), (89, .i2l, 1, [], 0), (90, .ladd, 1, [], 0), (91, .ldc2_w 213, 3, [1, 1559], 97), (94, .lsub, 1, [], 0), (95, .lconst 1, 1, [], 0), (96, .ladd, 1, [], 0), (97, .lstore_n 2, 1, [], 0), (98, .iinc 4 1, 3, [], 0), (101, .goto (-42), 3, [], 0)]),
  (104, [(104, .aload_n 0, 1, [], 0), (105, .dup, 1, [], 0), (106, .getfield 190, 3, [12, 21, 0, 0, 1343, 0], 0), (109, .iload_n 1, 1, [], 0), (110, .iadd, 1, [], 0), (111, .putfield 190, 3, [12, 21, 0, 0, 0, 1343], 0), (114, .lload_n 2, 1, [], 0), (115, .lreturn, 1, [], 0)])]
def BX12_name_59 (n : Nat) : Nat → Int → Int → Int → Hp → Option (Int × Hp)
  | 0, _, _, _, _ => none
  | f + 1, x1, x2, x4, h =>
    (if x1 ≤ x4 then
    (ltt (up h 113 21 (w32 ((h 113 21) + x1))) fun h1 =>
    (some (x2, h1)))
    else
    (bndp (MX12_isRight h) fun r1 =>
    (if r1 = 0 then
    (ltt (up h 113 21 (w32 ((h 113 21) + x1))) fun h2 =>
    (some (x2, h2)))
    else
    (grd (0 ≤ (w32 ((h 113 21) + x4)) ∧ (w32 ((h 113 21) + x4)) < alen 3223)
    (ltt (w64 ((w64 ((w64 ((w64 (32 * x2)) + (h 127 (w32 ((h 113 21) + x4))))) - 97)) + 1)) fun y1 =>
    (ltt (w32 (x4 + 1)) fun y2 =>
    (BX12_name_59 n f x1 y1 y2 h)))))))
def LX12_name_59 (n : Nat) (x1 x2 x4 : Int) (h : Hp) : Option (Int × Hp) :=
(BX12_name_59 n n x1 x2 x4 h)
def JX12_name_54 (n : Nat) (x1 : Int) (h : Hp) : Option (Int × Hp) :=
(ltt 0 fun y1 =>
(ltt 0 fun y2 =>
(LX12_name_59 n x1 y1 y2 h)))
def JX12_name_45 (n : Nat) (x1 : Int) (h : Hp) : Option (Int × Hp) :=
(bndh (MX12_fails 1 (h 113 21) h) fun h1 =>
(JX12_name_54 n x1 h1))
def MX12_name (n : Nat) (h : Hp) : Option (Int × Hp) :=
(bnd (MX12_next n h) fun r1 h1 =>
(ltt (up h1 113 24 (h1 113 21)) fun h2 =>
(bndp (MX12_wordLength n h2) fun r2 =>
(ltt r2 fun y1 =>
(bndp (MX12_isRight h2) fun r3 =>
(if r3 = 0 then
(JX12_name_54 n y1 h2)
else
(bndp (MX12_in y1 1 7) fun r4 =>
(if r4 = 0 then
(JX12_name_45 n y1 h2)
else
(bndp (MX12_wordHere n h2) fun r5 =>
(if r5 = (-1) then
(JX12_name_54 n y1 h2)
else
(JX12_name_45 n y1 h2)))))))))))
def wX12_name {ρ : Type} (n : Nat) : FN ρ := fun a h k => match a with
  | [_] => bnd (MX12_name n h) (fun r h2 => k r h2)
  | _ => none
def fsX12_name (n : Nat) (ρ : Type) : List (FN ρ) := [wX12_next n, wX12_wordLength n, wX12_isRight, wX12_in, wX12_wordHere n, wX12_fails]
def KBX12_name_59 (_ : Nat) (bk : Int → Int → Int → Hp → Option (Int × Hp)) : CT (Int × Hp) := [(59, [(0, 16, (some 113)), (1, 0, none), (2, 1, none), (4, 0, none)], [], fun a c h => match a, c with
    | [x1, x2, x4], [] => bk x1 x2 x4 h
    | _, _ => none)]
set_option maxRecDepth 100000 in
theorem eBX12_name_59 (n f : Nat) (x1 : Int) (x2 : Int) (x4 : Int) (h : Hp) : BX12_name_59 n (f + 1) x1 x2 x4 h =
  goAt false (kct (KBX12_name_59 n (BX12_name_59 n f))) (fun v h => some ((v, h))) (fsX12_name n _) sdX12_name 1000 59 [(0, 16, 113), (1, 0, x1), (2, 1, x2), (4, 0, x4)] [] h := rfl
def KJX12_name_54 (n : Nat) : CT (Int × Hp) := [(59, [(0, 16, (some 113)), (1, 0, none), (2, 1, none), (4, 0, none)], [], fun a c h => match a, c with
    | [x1, x2, x4], [] => LX12_name_59 n x1 x2 x4 h
    | _, _ => none)]
set_option maxRecDepth 100000 in
theorem eJX12_name_54 (n : Nat) (x1 : Int) (h : Hp) : JX12_name_54 n x1 h =
  goAt false (kct (KJX12_name_54 n)) (fun v h => some ((v, h))) (fsX12_name n _) sdX12_name 1000 54 [(0, 16, 113), (1, 0, x1)] [] h := rfl
def KJX12_name_45 (n : Nat) : CT (Int × Hp) := [(54, [(0, 16, (some 113)), (1, 0, none)], [], fun a c h => match a, c with
    | [x1], [] => JX12_name_54 n x1 h
    | _, _ => none)]
set_option maxRecDepth 100000 in
theorem eJX12_name_45 (n : Nat) (x1 : Int) (h : Hp) : JX12_name_45 n x1 h =
  goAt false (kct (KJX12_name_45 n)) (fun v h => some ((v, h))) (fsX12_name n _) sdX12_name 1000 45 [(0, 16, 113), (1, 0, x1)] [] h := rfl
def KMX12_name (n : Nat) : CT (Int × Hp) := [(54, [(0, 16, (some 113)), (1, 0, none)], [], fun a c h => match a, c with
    | [x1], [] => JX12_name_54 n x1 h
    | _, _ => none),
  (45, [(0, 16, (some 113)), (1, 0, none)], [], fun a c h => match a, c with
    | [x1], [] => JX12_name_45 n x1 h
    | _, _ => none)]
set_option maxRecDepth 100000 in
theorem eMX12_name (n : Nat) (h : Hp) : MX12_name n h =
  goAt false (kct (KMX12_name n)) (fun v h => some ((v, h))) (fsX12_name n _) sdX12_name 1000 0 [(0, 16, 113)] [] h := rfl
theorem okX12_name : mokb (mi 101) = true := by decide +kernel
theorem rkX12_name : rkOK 2 (mi 101).1.2.2.2.2.2.2.1 (mi 101).1.2.2.2.1 := Or.inr (Or.inr (Or.inr (Or.inl ⟨rfl, rfl, rfl⟩)))
def calX12_name : List Nat := [80, 82, 78, 81, 84, 85]
theorem foX12_name {l : Launch} {ρ : Type} (n : Nat) : fsOK l false mi calX12_name (fsX12_name n ρ) := ⟨(sndX12_next n), ⟨(sndX12_wordLength n), ⟨sndX12_isRight, ⟨sndX12_in, ⟨(sndX12_wordHere n), ⟨sndX12_fails, trivial⟩⟩⟩⟩⟩⟩
theorem ok_sdX12_name : sdb (mi 101).1.2.1 (insOK mi (mi 101).1.1.cls (mi 101).1.2.2.1 (mi 101).1.2.2.2.2.1 (mi 101).1.2.2.2.2.2.1 calX12_name false 2) sdX12_name = true := by decide +kernel
theorem sBX12_name_59 {l : Launch} {h0 h' : Hp} {v : Int} (h8 : nOf h0 = 148) (n : Nat) : ∀ (f : Nat) (x1 : Int) (x2 : Int) (x4 : Int) (h : Hp) {r : Int × Hp}, BX12_name_59 n f x1 x2 x4 h = some r → gWV v h' r → PAt l false (mi 101).1 h0 v h' 59 [(0, 16, 113), (1, 0, x1), (2, 1, x2), (4, 0, x4)] [] h := by
  intro f
  induction f with
  | zero =>
    intro x1 x2 x4 h r H _
    have H2 : (none : Option (Int × Hp)) = some r := H
    cases H2
  | succ f ih =>
    intro x1 x2 x4 h r H hG
    exact pat_w ok_sdX12_name rkX12_name h8 (foX12_name n) (fun v1 h1 q => by
    cases q
    exact ⟨hG.1, fun _ => hG.2⟩) (List.forall_mem_cons.mpr ⟨(fun a c h H => by
      dsimp only at H
      split at H
      · exact ih _ _ _ _ H hG
      · cases H), (fun q9 h9 => by cases h9)⟩) ((eBX12_name_59 n f x1 x2 x4 h).symm.trans H)
theorem sLX12_name_59 {l : Launch} {h0 h' : Hp} {v : Int} (h8 : nOf h0 = 148) (n : Nat) (x1 : Int) (x2 : Int) (x4 : Int) (h : Hp) {r : Int × Hp} (H : LX12_name_59 n x1 x2 x4 h = some r) (hG : gWV v h' r) : PAt l false (mi 101).1 h0 v h' 59 [(0, 16, 113), (1, 0, x1), (2, 1, x2), (4, 0, x4)] [] h :=
  sBX12_name_59 h8 n n x1 x2 x4 h H hG
theorem sJX12_name_54 {l : Launch} {h0 h' : Hp} {v : Int} (h8 : nOf h0 = 148) (n : Nat) (x1 : Int) (h : Hp) {r : Int × Hp} (H : JX12_name_54 n x1 h = some r) (hG : gWV v h' r) : PAt l false (mi 101).1 h0 v h' 54 [(0, 16, 113), (1, 0, x1)] [] h :=
  pat_w ok_sdX12_name rkX12_name h8 (foX12_name n) (fun v1 h1 q => by
    cases q
    exact ⟨hG.1, fun _ => hG.2⟩) (List.forall_mem_cons.mpr ⟨(fun a c h H => by
      dsimp only at H
      split at H
      · exact sLX12_name_59 h8 n _ _ _ _ H hG
      · cases H), (fun q9 h9 => by cases h9)⟩) ((eJX12_name_54 n x1 h).symm.trans H)
theorem sJX12_name_45 {l : Launch} {h0 h' : Hp} {v : Int} (h8 : nOf h0 = 148) (n : Nat) (x1 : Int) (h : Hp) {r : Int × Hp} (H : JX12_name_45 n x1 h = some r) (hG : gWV v h' r) : PAt l false (mi 101).1 h0 v h' 45 [(0, 16, 113), (1, 0, x1)] [] h :=
  pat_w ok_sdX12_name rkX12_name h8 (foX12_name n) (fun v1 h1 q => by
    cases q
    exact ⟨hG.1, fun _ => hG.2⟩) (List.forall_mem_cons.mpr ⟨(fun a c h H => by
      dsimp only at H
      split at H
      · exact sJX12_name_54 h8 n _ _ H hG
      · cases H), (fun q9 h9 => by cases h9)⟩) ((eJX12_name_45 n x1 h).symm.trans H)
theorem sMX12_name {l : Launch} {h0 h' : Hp} {v : Int} (h8 : nOf h0 = 148) (n : Nat)  (h : Hp) {r : Int × Hp} (H : MX12_name n h = some r) (hG : gWV v h' r) : PAt l false (mi 101).1 h0 v h' 0 [(0, 16, 113)] [] h :=
  pat_w ok_sdX12_name rkX12_name h8 (foX12_name n) (fun v1 h1 q => by
    cases q
    exact ⟨hG.1, fun _ => hG.2⟩) (List.forall_mem_cons.mpr ⟨(fun a c h H => by
      dsimp only at H
      split at H
      · exact sJX12_name_54 h8 n _ _ H hG
      · cases H), (List.forall_mem_cons.mpr ⟨(fun a c h H => by
      dsimp only at H
      split at H
      · exact sJX12_name_45 h8 n _ _ H hG
      · cases H), (fun q9 h9 => by cases h9)⟩)⟩) ((eMX12_name n h).symm.trans H)
theorem sndX12_name {ρ : Type} {l : Launch} (n : Nat) : SndF (ρ := ρ) l false (mi 101).1 (wX12_name n) := by
    intro a h k r H ha ho hn hf
    have h8 := hf rfl
    obtain ⟨x0, rfl⟩ := len1 (show a.length = 1 from ha)
    have u0 := uq16 hn (ho (16, x0) (List.mem_cons_self))
    subst u0
    replace H : bnd (MX12_name n h) (fun r h2 => k r h2) = some r := H
    obtain ⟨v2, h2, H1, H2⟩ := bnd_some H
    exact ⟨v2, h2, H2, met_mk (mok_base okX12_name).1 (by decide +kernel) (Nat.le_of_ble_eq_true rfl) ho (sMX12_name h8 n  h H1 ⟨rfl, rfl⟩), fun q => by cases q⟩
/-! X12_markOf -/
def sdX12_markOf : SD := [(0, [(0, .iconst 0, 1, [], 0), (1, .istore_n 3, 1, [], 0)]),
  (2, [(2, .iload_n 3, 1, [], 0), (3, .aload_n 0, 1, [], 0), (4, .getfield 134, 3, [12, 4, 0, 0, 1326, 0], 0), (7, .if_icmp .ge 22, 3, [], 0)]),
  (10, [(10, .aload_n 0, 1, [], 0), (11, .getfield 21, 3, [12, 9, 85, 1, 1331, 0], 4), (14, .iload_n 3, 1, [], 0), (15, .laload, 1, [], 0), (16, .lload_n 1, 1, [], 0), (17, .lcmp, 1, [], 0), (18, .ifCond .ne 5, 3, [], 0)]),
  (21, [(21, .iload_n 3, 1, [], 0), (22, .ireturn, 1, [], 0)]),
  (23, [(23, .iinc 3 1, 3, [], 0), (26, .goto (-24), 3, [], 0)]),
  (29, [(29, .iconst (-1), 1, [], 0), (30, .ireturn, 1, [], 0)])]
def BX12_markOf_2 (n : Nat) : Nat → Int → Int → Hp → Option (Int)
  | 0, _, _, _ => none
  | f + 1, x1, x3, h =>
    (if (h 113 4) ≤ x3 then
    (some (-1))
    else
    (grd (0 ≤ x3 ∧ x3 < alen 85)
    (if (lcp (h 117 x3) x1) ≠ 0 then
    (ltt (w32 (x3 + 1)) fun y1 =>
    (BX12_markOf_2 n f x1 y1 h))
    else
    (some x3))))
def LX12_markOf_2 (n : Nat) (x1 x3 : Int) (h : Hp) : Option (Int) :=
(BX12_markOf_2 n n x1 x3 h)
def MX12_markOf (n : Nat) (x1 : Int) (h : Hp) : Option (Int) :=
(ltt 0 fun y1 =>
(LX12_markOf_2 n x1 y1 h))
def wX12_markOf {ρ : Type} (n : Nat) : FN ρ := fun a h k => match a with
  | [_, x1] => bndp (MX12_markOf n x1 h) (fun r => k r h)
  | _ => none
def fsX12_markOf (n : Nat) (ρ : Type) : List (FN ρ) := []
def KBX12_markOf_2 (_ : Nat) (bk : Int → Int → Hp → Option (Int)) : CT (Int) := [(2, [(0, 16, (some 113)), (1, 1, none), (3, 0, none)], [], fun a c h => match a, c with
    | [x1, x3], [] => bk x1 x3 h
    | _, _ => none)]
set_option maxRecDepth 100000 in
theorem eBX12_markOf_2 (n f : Nat) (x1 : Int) (x3 : Int) (h : Hp) : BX12_markOf_2 n (f + 1) x1 x3 h =
  goAt false (kct (KBX12_markOf_2 n (BX12_markOf_2 n f))) (fun v _ => some (v)) (fsX12_markOf n _) sdX12_markOf 1000 2 [(0, 16, 113), (1, 1, x1), (3, 0, x3)] [] h := rfl
def KMX12_markOf (n : Nat) : CT (Int) := [(2, [(0, 16, (some 113)), (1, 1, none), (3, 0, none)], [], fun a c h => match a, c with
    | [x1, x3], [] => LX12_markOf_2 n x1 x3 h
    | _, _ => none)]
set_option maxRecDepth 100000 in
theorem eMX12_markOf (n : Nat) (x1 : Int) (h : Hp) : MX12_markOf n x1 h =
  goAt false (kct (KMX12_markOf n)) (fun v _ => some (v)) (fsX12_markOf n _) sdX12_markOf 1000 0 [(0, 16, 113), (1, 1, x1)] [] h := rfl
theorem okX12_markOf : mokb (mi 102) = true := by decide +kernel
theorem rkX12_markOf : rkOK 1 (mi 102).1.2.2.2.2.2.2.1 (mi 102).1.2.2.2.1 := Or.inr (Or.inl ⟨rfl, rfl, rfl⟩)
def calX12_markOf : List Nat := []
theorem foX12_markOf {l : Launch} {ρ : Type} (n : Nat) : fsOK l false mi calX12_markOf (fsX12_markOf n ρ) := trivial
theorem frX12_markOf {ρ : Type} (n : Nat) : ∀ fn ∈ fsX12_markOf n ρ, RoF fn := (fun q9 h9 => by cases h9)
theorem ok_sdX12_markOf : sdb (mi 102).1.2.1 (insOK mi (mi 102).1.1.cls (mi 102).1.2.2.1 (mi 102).1.2.2.2.2.1 (mi 102).1.2.2.2.2.2.1 calX12_markOf false 1) sdX12_markOf = true := by decide +kernel
theorem sBX12_markOf_2 {l : Launch} {h0 : Hp} {v : Int} (h8 : nOf h0 = 148) (n : Nat) (h : Hp) : ∀ (f : Nat) (x1 : Int) (x3 : Int) {r : Int}, BX12_markOf_2 n f x1 x3 h = some r → gV v r → PAt l false (mi 102).1 h0 v h 2 [(0, 16, 113), (1, 1, x1), (3, 0, x3)] [] h := by
  intro f
  induction f with
  | zero =>
    intro x1 x3 r H _
    have H2 : (none : Option (Int)) = some r := H
    cases H2
  | succ f ih =>
    intro x1 x3 r H hG
    exact pat_ro ok_sdX12_markOf rfl rkX12_markOf h8 (foX12_markOf n) (frX12_markOf n) (fun v1 q => by
    cases q
    exact ⟨rfl, fun _ => hG⟩) (List.forall_mem_cons.mpr ⟨(fun a c H => by
      dsimp only at H
      split at H
      · exact ih _ _ H hG
      · cases H), (fun q9 h9 => by cases h9)⟩) ((eBX12_markOf_2 n f x1 x3 h).symm.trans H)
theorem sLX12_markOf_2 {l : Launch} {h0 : Hp} {v : Int} (h8 : nOf h0 = 148) (n : Nat) (x1 : Int) (x3 : Int) (h : Hp) {r : Int} (H : LX12_markOf_2 n x1 x3 h = some r) (hG : gV v r) : PAt l false (mi 102).1 h0 v h 2 [(0, 16, 113), (1, 1, x1), (3, 0, x3)] [] h :=
  sBX12_markOf_2 h8 n h n x1 x3 H hG
theorem sMX12_markOf {l : Launch} {h0 : Hp} {v : Int} (h8 : nOf h0 = 148) (n : Nat) (x1 : Int) (h : Hp) {r : Int} (H : MX12_markOf n x1 h = some r) (hG : gV v r) : PAt l false (mi 102).1 h0 v h 0 [(0, 16, 113), (1, 1, x1)] [] h :=
  pat_ro ok_sdX12_markOf rfl rkX12_markOf h8 (foX12_markOf n) (frX12_markOf n) (fun v1 q => by
    cases q
    exact ⟨rfl, fun _ => hG⟩) (List.forall_mem_cons.mpr ⟨(fun a c H => by
      dsimp only at H
      split at H
      · exact sLX12_markOf_2 h8 n _ _ _ H hG
      · cases H), (fun q9 h9 => by cases h9)⟩) ((eMX12_markOf n x1 h).symm.trans H)
theorem sndX12_markOf {ρ : Type} {l : Launch} (n : Nat) : SndF (ρ := ρ) l false (mi 102).1 (wX12_markOf n) := by
    intro a h k r H ha ho hn hf
    have h8 := hf rfl
    obtain ⟨x0, x1, rfl⟩ := len2 (show a.length = 2 from ha)
    have u0 := uq16 hn (ho (16, x0) (List.mem_cons_self))
    subst u0
    replace H : bndp (MX12_markOf n x1 h) (fun r => k r h) = some r := H
    obtain ⟨v2, H1, H2⟩ := bndp_some H
    exact ⟨v2, h, H2, met_mk (mok_base okX12_markOf).1 (by decide +kernel) (Nat.le_of_ble_eq_true rfl) ho (sMX12_markOf h8 n x1 h H1 rfl), fun q => by cases q⟩
theorem roX12_markOf {ρ : Type} (n : Nat) : RoF (wX12_markOf n : FN ρ) := fun a h k k2 hk => by
  unfold wX12_markOf
  split
  · exact bndp_ro hk
  · rfl
/-! X12_readsMark -/
def sdX12_readsMark : SD := [(0, [(0, .aload_n 0, 1, [], 0), (1, .invokevirtual 324, 3, [2, 0, 1, 101, 1646, 16], 0), (4, .lstore_n 2, 1, [], 0), (5, .aload_n 0, 1, [], 0), (6, .invokevirtual 240, 3, [1, 1, 1, 78, 1535, 16], 0), (9, .ifCond .eq 21, 3, [], 0)]),
  (12, [(12, .aload_n 0, 1, [], 0), (13, .lload_n 2, 1, [], 0), (14, .invokevirtual 328, 3, [1, 2, 1, 102, 1652, 1, 16], 0), (17, .iconst (-1), 1, [], 0), (18, .if_icmp .eq 12, 3, [], 0)]),
  (21, [(21, .aload_n 0, 1, [], 0), (22, .iconst 3, 1, [], 0), (23, .aload_n 0, 1, [], 0), (24, .getfield 263, 3, [12, 24, 0, 0, 1346, 0], 0), (27, .invokevirtual 253, 3, [0, 3, 1, 85, 1577, 0, 0, 16], 0)]),
  (30, [(30, .aload_n 0, 1, [], 0), (31, .invokevirtual 312, 3, [0, 4, 1, 88, 1597, 16], 0), (34, .aload_n 0, 1, [], 0), (35, .invokevirtual 240, 3, [1, 1, 1, 78, 1535, 16], 0), (38, .ifCond .eq 18, 3, [], 0)]),
  (41, [(41, .aload_n 0, 1, [], 0), (42, .getfield 134, 3, [12, 4, 0, 0, 1326, 0], 0), (45, .bipush 8, 2, [], 0), (47, .if_icmp .ne 9, 3, [], 0)]),
  (50, [(50, .aload_n 0, 1, [], 0), (51, .iconst 4, 1, [], 0), (52, .iload_n 1, 1, [], 0), (53, .invokevirtual 253, 3, [0, 3, 1, 85, 1577, 0, 0, 16], 0)]),
  (56, [(56, .aload_n 0, 1, [], 0), (57, .invokevirtual 240, 3, [1, 1, 1, 78, 1535, 16], 0), (60, .ifCond .eq 36, 3, [], 0)]),
  (63, [(63, .aload_n 0, 1, [], 0), (64, .getfield 21, 3, [12, 9, 85, 1, 1331, 0], 4), (67, .aload_n 0, 1, [], 0), (68, .getfield 134, 3, [12, 4, 0, 0, 1326, 0], 0), (71, .lload_n 2, 1, [], 0), (72, .lastore, 1, [], 0), (73, .aload_n 0, 1, [], 0), (74, .getfield 25, 3, [12, 10, 84, 1, 1332, 0], 5), (77, .aload_n 0, 1, [], 0), (78, .getfield 134, 3, [12, 4, 0, 0, 1326, 0], 0), (81, .aload_n 0, 1, [], 0), (82, .getfield 127, 3, [12, 2, 0, 0, 1324, 0], 0), (85, .iastore, 1, [], 0), (86, .aload_n 0, 1, [], 0), (87, .dup, 1, [], 0), (88, .getfield 134, 3, [12, 4, 0, 0, 1326, 0], 0), (91, .iconst 1, 1, [], 0), (92, .iadd, 1, [], 0), (93, .putfield 134, 3, [12, 4, 0, 0, 0, 1326], 0)]),
  (96, [(96, .return_, 1, [], 0)])]
def JX12_readsMark_56 (n : Nat) (x2 : Int) (h : Hp) : Option (Hp) :=
(bndp (MX12_isRight h) fun r1 =>
(if r1 = 0 then
(some h)
else
(grd (0 ≤ (h 113 4) ∧ (h 113 4) < alen 85)
(ltt (up h 117 (h 113 4) x2) fun h1 =>
(grd (0 ≤ (h1 113 4) ∧ (h1 113 4) < alen 84)
(ltt (up h1 118 (h1 113 4) (h1 113 2)) fun h2 =>
(ltt (up h2 113 4 (w32 ((h2 113 4) + 1))) fun h3 =>
(some h3))))))))
def JX12_readsMark_30 (n : Nat) (x1 x2 : Int) (h : Hp) : Option (Hp) :=
(bndh (MX12_ends n h) fun h1 =>
(bndp (MX12_isRight h1) fun r1 =>
(if r1 = 0 then
(JX12_readsMark_56 n x2 h1)
else
(if (h1 113 4) ≠ 8 then
(JX12_readsMark_56 n x2 h1)
else
(bndh (MX12_fails 4 x1 h1) fun h2 =>
(JX12_readsMark_56 n x2 h2))))))
def MX12_readsMark (n : Nat) (x1 : Int) (h : Hp) : Option (Hp) :=
(bnd (MX12_name n h) fun r1 h1 =>
(ltt r1 fun y1 =>
(bndp (MX12_isRight h1) fun r2 =>
(if r2 = 0 then
(JX12_readsMark_30 n x1 y1 h1)
else
(bndp (MX12_markOf n y1 h1) fun r3 =>
(if r3 = (-1) then
(JX12_readsMark_30 n x1 y1 h1)
else
(bndh (MX12_fails 3 (h1 113 24) h1) fun h2 =>
(JX12_readsMark_30 n x1 y1 h2))))))))
def wX12_readsMark {ρ : Type} (n : Nat) : FN ρ := fun a h k => match a with
  | [_, x1] => bndh (MX12_readsMark n x1 h) (fun h2 => k 0 h2)
  | _ => none
def fsX12_readsMark (n : Nat) (ρ : Type) : List (FN ρ) := [wX12_name n, wX12_isRight, wX12_markOf n, wX12_fails, wX12_ends n]
def KJX12_readsMark_56 (_ : Nat) : CT (Hp) := []
set_option maxRecDepth 100000 in
theorem eJX12_readsMark_56 (n : Nat) (x2 : Int) (h : Hp) : JX12_readsMark_56 n x2 h =
  goAt false (kct (KJX12_readsMark_56 n)) (fun _ h => some (h)) (fsX12_readsMark n _) sdX12_readsMark 1000 56 [(0, 16, 113), (2, 1, x2)] [] h := rfl
def KJX12_readsMark_30 (n : Nat) : CT (Hp) := [(56, [(0, 16, (some 113)), (2, 1, none)], [], fun a c h => match a, c with
    | [x2], [] => JX12_readsMark_56 n x2 h
    | _, _ => none)]
set_option maxRecDepth 100000 in
theorem eJX12_readsMark_30 (n : Nat) (x1 : Int) (x2 : Int) (h : Hp) : JX12_readsMark_30 n x1 x2 h =
  goAt false (kct (KJX12_readsMark_30 n)) (fun _ h => some (h)) (fsX12_readsMark n _) sdX12_readsMark 1000 30 [(0, 16, 113), (1, 0, x1), (2, 1, x2)] [] h := rfl
def KMX12_readsMark (n : Nat) : CT (Hp) := [(30, [(0, 16, (some 113)), (1, 0, none), (2, 1, none)], [], fun a c h => match a, c with
    | [x1, x2], [] => JX12_readsMark_30 n x1 x2 h
    | _, _ => none)]
set_option maxRecDepth 100000 in
theorem eMX12_readsMark (n : Nat) (x1 : Int) (h : Hp) : MX12_readsMark n x1 h =
  goAt false (kct (KMX12_readsMark n)) (fun _ h => some (h)) (fsX12_readsMark n _) sdX12_readsMark 1000 0 [(0, 16, 113), (1, 0, x1)] [] h := rfl
theorem okX12_readsMark : mokb (mi 103) = true := by decide +kernel
theorem rkX12_readsMark : rkOK 0 (mi 103).1.2.2.2.2.2.2.1 (mi 103).1.2.2.2.1 := Or.inl ⟨rfl, rfl, rfl⟩
def calX12_readsMark : List Nat := [101, 78, 102, 85, 88]
theorem foX12_readsMark {l : Launch} {ρ : Type} (n : Nat) : fsOK l false mi calX12_readsMark (fsX12_readsMark n ρ) := ⟨(sndX12_name n), ⟨sndX12_isRight, ⟨(sndX12_markOf n), ⟨sndX12_fails, ⟨(sndX12_ends n), trivial⟩⟩⟩⟩⟩
theorem ok_sdX12_readsMark : sdb (mi 103).1.2.1 (insOK mi (mi 103).1.1.cls (mi 103).1.2.2.1 (mi 103).1.2.2.2.2.1 (mi 103).1.2.2.2.2.2.1 calX12_readsMark false 0) sdX12_readsMark = true := by decide +kernel
theorem sJX12_readsMark_56 {l : Launch} {h0 h' : Hp} {v : Int} (h8 : nOf h0 = 148) (n : Nat) (x2 : Int) (h : Hp) {r : Hp} (H : JX12_readsMark_56 n x2 h = some r) (hG : gW h' r) : PAt l false (mi 103).1 h0 v h' 56 [(0, 16, 113), (2, 1, x2)] [] h :=
  pat_w ok_sdX12_readsMark rkX12_readsMark h8 (foX12_readsMark n) (fun v1 h1 q => by
    cases q
    exact ⟨hG, fun q9 => absurd rfl q9⟩) (fun q9 h9 => by cases h9) ((eJX12_readsMark_56 n x2 h).symm.trans H)
theorem sJX12_readsMark_30 {l : Launch} {h0 h' : Hp} {v : Int} (h8 : nOf h0 = 148) (n : Nat) (x1 : Int) (x2 : Int) (h : Hp) {r : Hp} (H : JX12_readsMark_30 n x1 x2 h = some r) (hG : gW h' r) : PAt l false (mi 103).1 h0 v h' 30 [(0, 16, 113), (1, 0, x1), (2, 1, x2)] [] h :=
  pat_w ok_sdX12_readsMark rkX12_readsMark h8 (foX12_readsMark n) (fun v1 h1 q => by
    cases q
    exact ⟨hG, fun q9 => absurd rfl q9⟩) (List.forall_mem_cons.mpr ⟨(fun a c h H => by
      dsimp only at H
      split at H
      · exact sJX12_readsMark_56 h8 n _ _ H hG
      · cases H), (fun q9 h9 => by cases h9)⟩) ((eJX12_readsMark_30 n x1 x2 h).symm.trans H)
theorem sMX12_readsMark {l : Launch} {h0 h' : Hp} {v : Int} (h8 : nOf h0 = 148) (n : Nat) (x1 : Int) (h : Hp) {r : Hp} (H : MX12_readsMark n x1 h = some r) (hG : gW h' r) : PAt l false (mi 103).1 h0 v h' 0 [(0, 16, 113), (1, 0, x1)] [] h :=
  pat_w ok_sdX12_readsMark rkX12_readsMark h8 (foX12_readsMark n) (fun v1 h1 q => by
    cases q
    exact ⟨hG, fun q9 => absurd rfl q9⟩) (List.forall_mem_cons.mpr ⟨(fun a c h H => by
      dsimp only at H
      split at H
      · exact sJX12_readsMark_30 h8 n _ _ _ H hG
      · cases H), (fun q9 h9 => by cases h9)⟩) ((eMX12_readsMark n x1 h).symm.trans H)
theorem sndX12_readsMark {ρ : Type} {l : Launch} (n : Nat) : SndF (ρ := ρ) l false (mi 103).1 (wX12_readsMark n) := by
    intro a h k r H ha ho hn hf
    have h8 := hf rfl
    obtain ⟨x0, x1, rfl⟩ := len2 (show a.length = 2 from ha)
    have u0 := uq16 hn (ho (16, x0) (List.mem_cons_self))
    subst u0
    replace H : bndh (MX12_readsMark n x1 h) (fun h2 => k 0 h2) = some r := H
    obtain ⟨h2, H1, H2⟩ := bndh_some H
    exact ⟨0, h2, H2, met_mk (mok_base okX12_readsMark).1 (by decide +kernel) (Nat.le_of_ble_eq_true rfl) ho (sMX12_readsMark h8 n x1 h H1 rfl), fun q => by cases q⟩
/-! X12_readsAgain -/
def sdX12_readsAgain : SD := [(0, [(0, .aload_n 0, 1, [], 0), (1, .invokevirtual 324, 3, [2, 0, 1, 101, 1646, 16], 0), (4, .lstore_n 2, 1, [], 0), (5, .aload_n 0, 1, [], 0), (6, .invokevirtual 240, 3, [1, 1, 1, 78, 1535, 16], 0), (9, .ifCond .eq 11, 3, [], 0)]),
  (12, [(12, .aload_n 0, 1, [], 0), (13, .lload_n 2, 1, [], 0), (14, .invokevirtual 328, 3, [1, 2, 1, 102, 1652, 1, 16], 0), (17, .goto 4, 3, [], 0)]),
  (20, [(20, .iconst 0, 1, [], 0)]),
  (21, [(21, .istore 4, 2, [], 0), (23, .aload_n 0, 1, [], 0), (24, .invokevirtual 240, 3, [1, 1, 1, 78, 1535, 16], 0), (27, .ifCond .eq 18, 3, [], 0)]),
  (30, [(30, .iload 4, 2, [], 0), (32, .iconst (-1), 1, [], 0), (33, .if_icmp .ne 12, 3, [], 0)]),
  (36, [(36, .aload_n 0, 1, [], 0), (37, .iconst 3, 1, [], 0), (38, .aload_n 0, 1, [], 0), (39, .getfield 263, 3, [12, 24, 0, 0, 1346, 0], 0), (42, .invokevirtual 253, 3, [0, 3, 1, 85, 1577, 0, 0, 16], 0)]),
  (45, [(45, .aload_n 0, 1, [], 0), (46, .iconst 1, 1, [], 0), (47, .iconst 3, 1, [], 0), (48, .invokevirtual 306, 3, [1, 4, 1, 87, 1585, 0, 0, 16], 0), (51, .istore 5, 2, [], 0), (53, .aload_n 0, 1, [], 0), (54, .invokevirtual 312, 3, [0, 5, 1, 88, 1597, 16], 0), (57, .aload_n 0, 1, [], 0), (58, .getfield 127, 3, [12, 2, 0, 0, 1324, 0], 0), (61, .istore 6, 2, [], 0), (63, .iconst 0, 1, [], 0), (64, .istore 7, 2, [], 0)]),
  (66, [(66, .iload 7, 2, [], 0), (68, .iload 5, 2, [], 0), (70, .if_icmp .ge 66, 3, [], 0)]),
  (73, [(73, .aload_n 0, 1, [], 0), (74, .invokevirtual 240, 3, [1, 1, 1, 78, 1535, 16], 0), (77, .ifCond .eq 59, 3, [], 0)]),
  (80, [(80, .aload_n 0, 1, [], 0), (81, .getfield 25, 3, [12, 10, 84, 1, 1332, 0], 5), (84, .iload 4, 2, [], 0), (86, .iaload, 1, [], 0), (87, .istore 8, 2, [], 0)]),
  (89, [(89, .iload 8, 2, [], 0), (91, .iload 6, 2, [], 0), (93, .if_icmp .ge 37, 3, [], 0)]),
  (96, [(96, .aload_n 0, 1, [], 0), (97, .invokevirtual 240, 3, [1, 1, 1, 78, 1535, 16], 0), (100, .ifCond .eq 30, 3, [], 0)]),
  (103, [(103, .aload_n 0, 1, [], 0), (104, .iconst 0, 1, [], 0), (105, .putfield 273, 3, [12, 26, 0, 0, 1, 1348], 0), (108, .aload_n 0, 1, [], 0), (109, .iconst 0, 1, [], 0), (110, .putfield 280, 3, [12, 27, 0, 0, 1, 1349], 0), (113, .aload_n 0, 1, [], 0), (114, .iload 8, 2, [], 0), (116, .invokevirtual 315, 3, [0, 6, 1, 97, 1611, 0, 16], 0), (119, .aload_n 0, 1, [], 0), (120, .iload_n 1, 1, [], 0), (121, .invokevirtual 321, 3, [0, 7, 1, 99, 1638, 0, 16], 0), (124, .iinc 8 1, 3, [], 0), (127, .goto (-38), 3, [], 0)]),
  (130, [(130, .iinc 7 1, 3, [], 0), (133, .goto (-67), 3, [], 0)]),
  (136, [(136, .return_, 1, [], 0)])]
def BX12_readsAgain_89 (n : Nat) : Nat → Int → Int → Int → Int → Int → Int → Hp → Option (Int × Int × Int × Int × Int × Hp)
  | 0, _, _, _, _, _, _, _ => none
  | f + 1, x1, x4, x5, x6, x7, x8, h =>
    (if x6 ≤ x8 then
    (some (x1, x4, x5, x6, x7, h))
    else
    (bndp (MX12_isRight h) fun r1 =>
    (if r1 = 0 then
    (some (x1, x4, x5, x6, x7, h))
    else
    (ltt (up h 113 26 0) fun h1 =>
    (ltt (up h1 113 27 0) fun h2 =>
    (bndh (MX12_makes n x8 h2) fun h3 =>
    (bndh (MX12_judges x1 h3) fun h4 =>
    (ltt (w32 (x8 + 1)) fun y1 =>
    (BX12_readsAgain_89 n f x1 x4 x5 x6 x7 y1 h4)))))))))
def JX12_readsAgain_130 (n : Nat) (bk : Int → Int → Int → Int → Int → Hp → Option (Hp)) (x1 x4 x5 x6 x7 : Int) (h : Hp) : Option (Hp) :=
(ltt (w32 (x7 + 1)) fun y1 =>
(bk x1 x4 x5 x6 y1 h))
def LX12_readsAgain_89 (n : Nat) (bk : Int → Int → Int → Int → Int → Hp → Option (Hp)) (x1 x4 x5 x6 x7 x8 : Int) (h : Hp) : Option (Hp) :=
(bndx (BX12_readsAgain_89 n n x1 x4 x5 x6 x7 x8 h) fun (e1, e4, e5, e6, e7, h1) =>
(JX12_readsAgain_130 n bk e1 e4 e5 e6 e7 h1))
def BX12_readsAgain_66 (n : Nat) : Nat → Int → Int → Int → Int → Int → Hp → Option (Hp)
  | 0, _, _, _, _, _, _ => none
  | f + 1, x1, x4, x5, x6, x7, h =>
    (if x5 ≤ x7 then
    (some h)
    else
    (bndp (MX12_isRight h) fun r1 =>
    (if r1 = 0 then
    (some h)
    else
    (grd (0 ≤ x4 ∧ x4 < alen 84)
    (ltt (h 118 x4) fun y1 =>
    (LX12_readsAgain_89 n (BX12_readsAgain_66 n f) x1 x4 x5 x6 x7 y1 h))))))
def LX12_readsAgain_66 (n : Nat) (x1 x4 x5 x6 x7 : Int) (h : Hp) : Option (Hp) :=
(BX12_readsAgain_66 n n x1 x4 x5 x6 x7 h)
def JX12_readsAgain_45 (n : Nat) (x1 x4 : Int) (h : Hp) : Option (Hp) :=
(bnd (MX12_number n 1 3 h) fun r1 h1 =>
(ltt r1 fun y1 =>
(bndh (MX12_ends n h1) fun h2 =>
(ltt (h2 113 2) fun y2 =>
(ltt 0 fun y3 =>
(LX12_readsAgain_66 n x1 x4 y1 y2 y3 h2))))))
def JX12_readsAgain_21 (n : Nat) (x1 z0 : Int) (h : Hp) : Option (Hp) :=
(ltt z0 fun y1 =>
(bndp (MX12_isRight h) fun r1 =>
(if r1 = 0 then
(JX12_readsAgain_45 n x1 y1 h)
else
(if y1 ≠ (-1) then
(JX12_readsAgain_45 n x1 y1 h)
else
(bndh (MX12_fails 3 (h 113 24) h) fun h1 =>
(JX12_readsAgain_45 n x1 y1 h1))))))
def MX12_readsAgain (n : Nat) (x1 : Int) (h : Hp) : Option (Hp) :=
(bnd (MX12_name n h) fun r1 h1 =>
(ltt r1 fun y1 =>
(bndp (MX12_isRight h1) fun r2 =>
(if r2 = 0 then
(JX12_readsAgain_21 n x1 0 h1)
else
(bndp (MX12_markOf n y1 h1) fun r3 =>
(JX12_readsAgain_21 n x1 r3 h1))))))
def wX12_readsAgain {ρ : Type} (n : Nat) : FN ρ := fun a h k => match a with
  | [_, x1] => bndh (MX12_readsAgain n x1 h) (fun h2 => k 0 h2)
  | _ => none
def fsX12_readsAgain (n : Nat) (ρ : Type) : List (FN ρ) := [wX12_name n, wX12_isRight, wX12_markOf n, wX12_fails, wX12_number n, wX12_ends n, wX12_makes n, wX12_judges]
def KBX12_readsAgain_89 (_ : Nat) (bk : Int → Int → Int → Int → Int → Int → Hp → Option (Int × Int × Int × Int × Int × Hp)) : CT (Int × Int × Int × Int × Int × Hp) := [(89, [(0, 16, (some 113)), (1, 0, none), (4, 0, none), (5, 0, none), (6, 0, none), (7, 0, none), (8, 0, none)], [], fun a c h => match a, c with
    | [x1, x4, x5, x6, x7, x8], [] => bk x1 x4 x5 x6 x7 x8 h
    | _, _ => none),
  (130, [(0, 16, (some 113)), (1, 0, none), (4, 0, none), (5, 0, none), (6, 0, none), (7, 0, none)], [], fun a c h => match a, c with
    | [x1, x4, x5, x6, x7], [] => some (x1, x4, x5, x6, x7, h)
    | _, _ => none)]
set_option maxRecDepth 100000 in
theorem eBX12_readsAgain_89 (n f : Nat) (x1 : Int) (x4 : Int) (x5 : Int) (x6 : Int) (x7 : Int) (x8 : Int) (h : Hp) : BX12_readsAgain_89 n (f + 1) x1 x4 x5 x6 x7 x8 h =
  goAt false (kct (KBX12_readsAgain_89 n (BX12_readsAgain_89 n f))) (fun _ _ => none) (fsX12_readsAgain n _) sdX12_readsAgain 1000 89 [(0, 16, 113), (1, 0, x1), (4, 0, x4), (5, 0, x5), (6, 0, x6), (7, 0, x7), (8, 0, x8)] [] h := rfl
def KJX12_readsAgain_130 (_ : Nat) (bk : Int → Int → Int → Int → Int → Hp → Option (Hp)) : CT (Hp) := [(66, [(0, 16, (some 113)), (1, 0, none), (4, 0, none), (5, 0, none), (6, 0, none), (7, 0, none)], [], fun a c h => match a, c with
    | [x1, x4, x5, x6, x7], [] => bk x1 x4 x5 x6 x7 h
    | _, _ => none)]
set_option maxRecDepth 100000 in
theorem eJX12_readsAgain_130 (n : Nat) (bk : Int → Int → Int → Int → Int → Hp → Option (Hp)) (x1 : Int) (x4 : Int) (x5 : Int) (x6 : Int) (x7 : Int) (h : Hp) : JX12_readsAgain_130 n bk x1 x4 x5 x6 x7 h =
  goAt false (kct (KJX12_readsAgain_130 n bk)) (fun _ h => some (h)) (fsX12_readsAgain n _) sdX12_readsAgain 1000 130 [(0, 16, 113), (1, 0, x1), (4, 0, x4), (5, 0, x5), (6, 0, x6), (7, 0, x7)] [] h := rfl
def KBX12_readsAgain_66 (n : Nat) (bk : Int → Int → Int → Int → Int → Hp → Option (Hp)) : CT (Hp) := [(66, [(0, 16, (some 113)), (1, 0, none), (4, 0, none), (5, 0, none), (6, 0, none), (7, 0, none)], [], fun a c h => match a, c with
    | [x1, x4, x5, x6, x7], [] => bk x1 x4 x5 x6 x7 h
    | _, _ => none),
  (89, [(0, 16, (some 113)), (1, 0, none), (4, 0, none), (5, 0, none), (6, 0, none), (7, 0, none), (8, 0, none)], [], fun a c h => match a, c with
    | [x1, x4, x5, x6, x7, x8], [] => LX12_readsAgain_89 n bk x1 x4 x5 x6 x7 x8 h
    | _, _ => none)]
set_option maxRecDepth 100000 in
theorem eBX12_readsAgain_66 (n f : Nat) (x1 : Int) (x4 : Int) (x5 : Int) (x6 : Int) (x7 : Int) (h : Hp) : BX12_readsAgain_66 n (f + 1) x1 x4 x5 x6 x7 h =
  goAt false (kct (KBX12_readsAgain_66 n (BX12_readsAgain_66 n f))) (fun _ h => some (h)) (fsX12_readsAgain n _) sdX12_readsAgain 1000 66 [(0, 16, 113), (1, 0, x1), (4, 0, x4), (5, 0, x5), (6, 0, x6), (7, 0, x7)] [] h := rfl
def KJX12_readsAgain_45 (n : Nat) : CT (Hp) := [(66, [(0, 16, (some 113)), (1, 0, none), (4, 0, none), (5, 0, none), (6, 0, none), (7, 0, none)], [], fun a c h => match a, c with
    | [x1, x4, x5, x6, x7], [] => LX12_readsAgain_66 n x1 x4 x5 x6 x7 h
    | _, _ => none)]
set_option maxRecDepth 100000 in
theorem eJX12_readsAgain_45 (n : Nat) (x1 : Int) (x4 : Int) (h : Hp) : JX12_readsAgain_45 n x1 x4 h =
  goAt false (kct (KJX12_readsAgain_45 n)) (fun _ h => some (h)) (fsX12_readsAgain n _) sdX12_readsAgain 1000 45 [(0, 16, 113), (1, 0, x1), (4, 0, x4)] [] h := rfl
def KJX12_readsAgain_21 (n : Nat) : CT (Hp) := [(45, [(0, 16, (some 113)), (1, 0, none), (4, 0, none)], [], fun a c h => match a, c with
    | [x1, x4], [] => JX12_readsAgain_45 n x1 x4 h
    | _, _ => none)]
set_option maxRecDepth 100000 in
theorem eJX12_readsAgain_21 (n : Nat) (x1 : Int) (z0 : Int) (h : Hp) : JX12_readsAgain_21 n x1 z0 h =
  goAt false (kct (KJX12_readsAgain_21 n)) (fun _ h => some (h)) (fsX12_readsAgain n _) sdX12_readsAgain 1000 21 [(0, 16, 113), (1, 0, x1)] [(0, z0)] h := rfl
def KMX12_readsAgain (n : Nat) : CT (Hp) := [(21, [(0, 16, (some 113)), (1, 0, none)], [(0, none)], fun a c h => match a, c with
    | [x1], [z0] => JX12_readsAgain_21 n x1 z0 h
    | _, _ => none)]
set_option maxRecDepth 100000 in
theorem eMX12_readsAgain (n : Nat) (x1 : Int) (h : Hp) : MX12_readsAgain n x1 h =
  goAt false (kct (KMX12_readsAgain n)) (fun _ h => some (h)) (fsX12_readsAgain n _) sdX12_readsAgain 1000 0 [(0, 16, 113), (1, 0, x1)] [] h := rfl
theorem okX12_readsAgain : mokb (mi 104) = true := by decide +kernel
theorem rkX12_readsAgain : rkOK 0 (mi 104).1.2.2.2.2.2.2.1 (mi 104).1.2.2.2.1 := Or.inl ⟨rfl, rfl, rfl⟩
def calX12_readsAgain : List Nat := [101, 78, 102, 85, 87, 88, 97, 99]
theorem foX12_readsAgain {l : Launch} {ρ : Type} (n : Nat) : fsOK l false mi calX12_readsAgain (fsX12_readsAgain n ρ) := ⟨(sndX12_name n), ⟨sndX12_isRight, ⟨(sndX12_markOf n), ⟨sndX12_fails, ⟨(sndX12_number n), ⟨(sndX12_ends n), ⟨(sndX12_makes n), ⟨sndX12_judges, trivial⟩⟩⟩⟩⟩⟩⟩⟩
theorem ok_sdX12_readsAgain : sdb (mi 104).1.2.1 (insOK mi (mi 104).1.1.cls (mi 104).1.2.2.1 (mi 104).1.2.2.2.2.1 (mi 104).1.2.2.2.2.2.1 calX12_readsAgain false 0) sdX12_readsAgain = true := by decide +kernel
def GX12_readsAgain_89 (l : Launch) (h0 : Hp) (h' : Hp) (v : Int) (_ : Hp) : (Int × Int × Int × Int × Int × Hp) → Prop
  | (e1, e4, e5, e6, e7, h1) => PAt l false (mi 104).1 h0 v h' 130 [(0, 16, 113), (1, 0, e1), (4, 0, e4), (5, 0, e5), (6, 0, e6), (7, 0, e7)] [] h1
theorem sBX12_readsAgain_89 {l : Launch} {h0 h' : Hp} {v : Int} (h8 : nOf h0 = 148) (n : Nat) : ∀ (f : Nat) (x1 : Int) (x4 : Int) (x5 : Int) (x6 : Int) (x7 : Int) (x8 : Int) (h : Hp) {r : Int × Int × Int × Int × Int × Hp}, BX12_readsAgain_89 n f x1 x4 x5 x6 x7 x8 h = some r → GX12_readsAgain_89 l h0 h' v h r → PAt l false (mi 104).1 h0 v h' 89 [(0, 16, 113), (1, 0, x1), (4, 0, x4), (5, 0, x5), (6, 0, x6), (7, 0, x7), (8, 0, x8)] [] h := by
  intro f
  induction f with
  | zero =>
    intro x1 x4 x5 x6 x7 x8 h r H _
    have H2 : (none : Option (Int × Int × Int × Int × Int × Hp)) = some r := H
    cases H2
  | succ f ih =>
    intro x1 x4 x5 x6 x7 x8 h r H hG
    exact pat_w ok_sdX12_readsAgain rkX12_readsAgain h8 (foX12_readsAgain n) (fun v1 h1 q => by cases q) (List.forall_mem_cons.mpr ⟨(fun a c h H => by
      dsimp only at H
      split at H
      · exact ih _ _ _ _ _ _ _ H hG
      · cases H), (List.forall_mem_cons.mpr ⟨(fun a c h H => by
      dsimp only at H
      split at H
      · cases H
        exact hG
      · cases H), (fun q9 h9 => by cases h9)⟩)⟩) ((eBX12_readsAgain_89 n f x1 x4 x5 x6 x7 x8 h).symm.trans H)
theorem sJX12_readsAgain_130 {l : Launch} {h0 h' : Hp} {v : Int} (h8 : nOf h0 = 148) (n : Nat) (bk : Int → Int → Int → Int → Int → Hp → Option (Hp)) (hbk : ∀ (x1 : Int) (x4 : Int) (x5 : Int) (x6 : Int) (x7 : Int) (h : Hp) (r : Hp), bk x1 x4 x5 x6 x7 h = some r → gW h' r → PAt l false (mi 104).1 h0 v h' 66 [(0, 16, 113), (1, 0, x1), (4, 0, x4), (5, 0, x5), (6, 0, x6), (7, 0, x7)] [] h) (x1 : Int) (x4 : Int) (x5 : Int) (x6 : Int) (x7 : Int) (h : Hp) {r : Hp} (H : JX12_readsAgain_130 n bk x1 x4 x5 x6 x7 h = some r) (hG : gW h' r) : PAt l false (mi 104).1 h0 v h' 130 [(0, 16, 113), (1, 0, x1), (4, 0, x4), (5, 0, x5), (6, 0, x6), (7, 0, x7)] [] h :=
  pat_w ok_sdX12_readsAgain rkX12_readsAgain h8 (foX12_readsAgain n) (fun v1 h1 q => by
    cases q
    exact ⟨hG, fun q9 => absurd rfl q9⟩) (List.forall_mem_cons.mpr ⟨(fun a c h H => by
      dsimp only at H
      split at H
      · exact hbk _ _ _ _ _ _ _ H hG
      · cases H), (fun q9 h9 => by cases h9)⟩) ((eJX12_readsAgain_130 n bk x1 x4 x5 x6 x7 h).symm.trans H)
theorem sLX12_readsAgain_89 {l : Launch} {h0 h' : Hp} {v : Int} (h8 : nOf h0 = 148) (n : Nat) (bk : Int → Int → Int → Int → Int → Hp → Option (Hp)) (hbk : ∀ (x1 : Int) (x4 : Int) (x5 : Int) (x6 : Int) (x7 : Int) (h : Hp) (r : Hp), bk x1 x4 x5 x6 x7 h = some r → gW h' r → PAt l false (mi 104).1 h0 v h' 66 [(0, 16, 113), (1, 0, x1), (4, 0, x4), (5, 0, x5), (6, 0, x6), (7, 0, x7)] [] h) (x1 : Int) (x4 : Int) (x5 : Int) (x6 : Int) (x7 : Int) (x8 : Int) (h : Hp) {r : Hp} (H : LX12_readsAgain_89 n bk x1 x4 x5 x6 x7 x8 h = some r) (hG : gW h' r) : PAt l false (mi 104).1 h0 v h' 89 [(0, 16, 113), (1, 0, x1), (4, 0, x4), (5, 0, x5), (6, 0, x6), (7, 0, x7), (8, 0, x8)] [] h := by
  obtain ⟨e9, h2, h3⟩ := bndx_some H
  obtain ⟨e1, e4, e5, e6, e7, h1⟩ := e9
  exact sBX12_readsAgain_89 h8 n n x1 x4 x5 x6 x7 x8 h h2 (sJX12_readsAgain_130 h8 n bk hbk e1 e4 e5 e6 e7 h1 h3 hG)
theorem sBX12_readsAgain_66 {l : Launch} {h0 h' : Hp} {v : Int} (h8 : nOf h0 = 148) (n : Nat) : ∀ (f : Nat) (x1 : Int) (x4 : Int) (x5 : Int) (x6 : Int) (x7 : Int) (h : Hp) {r : Hp}, BX12_readsAgain_66 n f x1 x4 x5 x6 x7 h = some r → gW h' r → PAt l false (mi 104).1 h0 v h' 66 [(0, 16, 113), (1, 0, x1), (4, 0, x4), (5, 0, x5), (6, 0, x6), (7, 0, x7)] [] h := by
  intro f
  induction f with
  | zero =>
    intro x1 x4 x5 x6 x7 h r H _
    have H2 : (none : Option (Hp)) = some r := H
    cases H2
  | succ f ih =>
    intro x1 x4 x5 x6 x7 h r H hG
    have ihk : ∀ (x1 : Int) (x4 : Int) (x5 : Int) (x6 : Int) (x7 : Int) (h : Hp) (r : Hp), BX12_readsAgain_66 n f x1 x4 x5 x6 x7 h = some r → gW h' r → PAt l false (mi 104).1 h0 v h' 66 [(0, 16, 113), (1, 0, x1), (4, 0, x4), (5, 0, x5), (6, 0, x6), (7, 0, x7)] [] h := fun x1 x4 x5 x6 x7 h r9 a9 b9 => ih x1 x4 x5 x6 x7 h a9 b9
    exact pat_w ok_sdX12_readsAgain rkX12_readsAgain h8 (foX12_readsAgain n) (fun v1 h1 q => by
    cases q
    exact ⟨hG, fun q9 => absurd rfl q9⟩) (List.forall_mem_cons.mpr ⟨(fun a c h H => by
      dsimp only at H
      split at H
      · exact ih _ _ _ _ _ _ H hG
      · cases H), (List.forall_mem_cons.mpr ⟨(fun a c h H => by
      dsimp only at H
      split at H
      · exact sLX12_readsAgain_89 h8 n (BX12_readsAgain_66 n f) ihk _ _ _ _ _ _ _ H hG
      · cases H), (fun q9 h9 => by cases h9)⟩)⟩) ((eBX12_readsAgain_66 n f x1 x4 x5 x6 x7 h).symm.trans H)
theorem sLX12_readsAgain_66 {l : Launch} {h0 h' : Hp} {v : Int} (h8 : nOf h0 = 148) (n : Nat) (x1 : Int) (x4 : Int) (x5 : Int) (x6 : Int) (x7 : Int) (h : Hp) {r : Hp} (H : LX12_readsAgain_66 n x1 x4 x5 x6 x7 h = some r) (hG : gW h' r) : PAt l false (mi 104).1 h0 v h' 66 [(0, 16, 113), (1, 0, x1), (4, 0, x4), (5, 0, x5), (6, 0, x6), (7, 0, x7)] [] h :=
  sBX12_readsAgain_66 h8 n n x1 x4 x5 x6 x7 h H hG
theorem sJX12_readsAgain_45 {l : Launch} {h0 h' : Hp} {v : Int} (h8 : nOf h0 = 148) (n : Nat) (x1 : Int) (x4 : Int) (h : Hp) {r : Hp} (H : JX12_readsAgain_45 n x1 x4 h = some r) (hG : gW h' r) : PAt l false (mi 104).1 h0 v h' 45 [(0, 16, 113), (1, 0, x1), (4, 0, x4)] [] h :=
  pat_w ok_sdX12_readsAgain rkX12_readsAgain h8 (foX12_readsAgain n) (fun v1 h1 q => by
    cases q
    exact ⟨hG, fun q9 => absurd rfl q9⟩) (List.forall_mem_cons.mpr ⟨(fun a c h H => by
      dsimp only at H
      split at H
      · exact sLX12_readsAgain_66 h8 n _ _ _ _ _ _ H hG
      · cases H), (fun q9 h9 => by cases h9)⟩) ((eJX12_readsAgain_45 n x1 x4 h).symm.trans H)
theorem sJX12_readsAgain_21 {l : Launch} {h0 h' : Hp} {v : Int} (h8 : nOf h0 = 148) (n : Nat) (x1 : Int) (z0 : Int) (h : Hp) {r : Hp} (H : JX12_readsAgain_21 n x1 z0 h = some r) (hG : gW h' r) : PAt l false (mi 104).1 h0 v h' 21 [(0, 16, 113), (1, 0, x1)] [(0, z0)] h :=
  pat_w ok_sdX12_readsAgain rkX12_readsAgain h8 (foX12_readsAgain n) (fun v1 h1 q => by
    cases q
    exact ⟨hG, fun q9 => absurd rfl q9⟩) (List.forall_mem_cons.mpr ⟨(fun a c h H => by
      dsimp only at H
      split at H
      · exact sJX12_readsAgain_45 h8 n _ _ _ H hG
      · cases H), (fun q9 h9 => by cases h9)⟩) ((eJX12_readsAgain_21 n x1 z0 h).symm.trans H)
theorem sMX12_readsAgain {l : Launch} {h0 h' : Hp} {v : Int} (h8 : nOf h0 = 148) (n : Nat) (x1 : Int) (h : Hp) {r : Hp} (H : MX12_readsAgain n x1 h = some r) (hG : gW h' r) : PAt l false (mi 104).1 h0 v h' 0 [(0, 16, 113), (1, 0, x1)] [] h :=
  pat_w ok_sdX12_readsAgain rkX12_readsAgain h8 (foX12_readsAgain n) (fun v1 h1 q => by
    cases q
    exact ⟨hG, fun q9 => absurd rfl q9⟩) (List.forall_mem_cons.mpr ⟨(fun a c h H => by
      dsimp only at H
      split at H
      · exact sJX12_readsAgain_21 h8 n _ _ _ H hG
      · cases H), (fun q9 h9 => by cases h9)⟩) ((eMX12_readsAgain n x1 h).symm.trans H)
theorem sndX12_readsAgain {ρ : Type} {l : Launch} (n : Nat) : SndF (ρ := ρ) l false (mi 104).1 (wX12_readsAgain n) := by
    intro a h k r H ha ho hn hf
    have h8 := hf rfl
    obtain ⟨x0, x1, rfl⟩ := len2 (show a.length = 2 from ha)
    have u0 := uq16 hn (ho (16, x0) (List.mem_cons_self))
    subst u0
    replace H : bndh (MX12_readsAgain n x1 h) (fun h2 => k 0 h2) = some r := H
    obtain ⟨h2, H1, H2⟩ := bndh_some H
    exact ⟨0, h2, H2, met_mk (mok_base okX12_readsAgain).1 (by decide +kernel) (Nat.le_of_ble_eq_true rfl) ho (sMX12_readsAgain h8 n x1 h H1 rfl), fun q => by cases q⟩
/-! X12_readsLine -/
def sdX12_readsLine : SD := [(0, [(0, .aload_n 0, 1, [], 0), (1, .getfield 190, 3, [12, 21, 0, 0, 1343, 0], 0), (4, .istore_n 1, 1, [], 0), (5, .aload_n 0, 1, [], 0), (6, .invokevirtual 268, 3, [1, 0, 1, 84, 1551, 16], 0), (9, .istore_n 2, 1, [], 0), (10, .iload_n 2, 1, [], 0), (11, .iconst (-1), 1, [], 0), (12, .if_icmp .eq 15, 3, [], 0)]),
  (15, [(15, .iload_n 2, 1, [], 0), (16, .iconst 2, 1, [], 0), (17, .if_icmp .gt 17, 3, [], 0)]),
  (20, [(20, .aload_n 0, 1, [], 0), (21, .getfield 334, 3, [12, 33, 0, 0, 1355, 0], 0), (24, .ifCond .eq 10, 3, [], 0)]),
  (27, [(27, .aload_n 0, 1, [], 0), (28, .iconst 1, 1, [], 0), (29, .iload_n 1, 1, [], 0), (30, .invokevirtual 253, 3, [0, 1, 1, 85, 1577, 0, 0, 16], 0), (33, .return_, 1, [], 0)]),
  (34, [(34, .iload_n 2, 1, [], 0), (35, .iconst 2, 1, [], 0), (36, .if_icmp .gt 22, 3, [], 0)]),
  (39, [(39, .aload_n 0, 1, [], 0), (40, .getfield 331, 3, [12, 32, 0, 0, 1354, 0], 0), (43, .iload_n 2, 1, [], 0), (44, .ishr, 1, [], 0), (45, .iconst 1, 1, [], 0), (46, .iand, 1, [], 0), (47, .iconst 1, 1, [], 0), (48, .if_icmp .ne 10, 3, [], 0)]),
  (51, [(51, .aload_n 0, 1, [], 0), (52, .iconst 3, 1, [], 0), (53, .iload_n 1, 1, [], 0), (54, .invokevirtual 253, 3, [0, 1, 1, 85, 1577, 0, 0, 16], 0), (57, .return_, 1, [], 0)]),
  (58, [(58, .aload_n 0, 1, [], 0), (59, .dup, 1, [], 0), (60, .getfield 190, 3, [12, 21, 0, 0, 1343, 0], 0), (63, .aload_n 0, 1, [], 0), (64, .invokevirtual 221, 3, [1, 2, 1, 82, 1555, 16], 0), (67, .iadd, 1, [], 0), (68, .putfield 190, 3, [12, 21, 0, 0, 0, 1343], 0), (71, .aload_n 0, 1, [], 0), (72, .aload_n 0, 1, [], 0), (73, .getfield 334, 3, [12, 33, 0, 0, 1355, 0], 0), (76, .ifCond .ne 8, 3, [], 0)]),
  (79, [(79, .iload_n 2, 1, [], 0), (80, .iconst 2, 1, [], 0), (81, .if_icmp .le 7, 3, [], 0)]),
  (84, [(84, .iconst 1, 1, [], 0), (85, .goto 4, 3, [], 0)]),
  (88, [(88, .iconst 0, 1, [], 0)]),
  (89, [(89, .putfield 334, 3, [12, 33, 0, 0, 1, 1355], 0), (92, .iload_n 2, 1, [], 0), (93, .iconst 2, 1, [], 0), (94, .if_icmp .gt 11, 3, [], 0)]),
  (97, [(97, .aload_n 0, 1, [], 0), (98, .iload_n 2, 1, [], 0), (99, .invokevirtual 337, 3, [0, 3, 1, 89, 1581, 0, 16], 0), (102, .goto 36, 3, [], 0)]),
  (105, [(105, .iload_n 2, 1, [], 0), (106, .iconst 5, 1, [], 0), (107, .if_icmp .gt 12, 3, [], 0)]),
  (110, [(110, .aload_n 0, 1, [], 0), (111, .iload_n 2, 1, [], 0), (112, .iload_n 1, 1, [], 0), (113, .invokevirtual 340, 3, [0, 4, 1, 100, 1601, 0, 0, 16], 0), (116, .goto 22, 3, [], 0)]),
  (119, [(119, .iload_n 2, 1, [], 0), (120, .bipush 6, 2, [], 0), (122, .if_icmp .ne 11, 3, [], 0)]),
  (125, [(125, .aload_n 0, 1, [], 0), (126, .iload_n 1, 1, [], 0), (127, .invokevirtual 343, 3, [0, 5, 1, 103, 1642, 0, 16], 0), (130, .goto 8, 3, [], 0)]),
  (133, [(133, .aload_n 0, 1, [], 0), (134, .iload_n 1, 1, [], 0), (135, .invokevirtual 346, 3, [0, 6, 1, 104, 1656, 0, 16], 0)]),
  (138, [(138, .return_, 1, [], 0)])]
def JX12_readsLine_27 (n : Nat) (x1 : Int) (h : Hp) : Option (Hp) :=
(bndh (MX12_fails 1 x1 h) fun h1 =>
(some h1))
def JX12_readsLine_89 (n : Nat) (x1 x2 z1 : Int) (h : Hp) : Option (Hp) :=
(grd (z1 = 0 ∨ z1 = 1)
(ltt (up h 113 33 z1) fun h1 =>
(if 2 < x2 then
(if 5 < x2 then
(if x2 ≠ 6 then
(bndh (MX12_readsAgain n x1 h1) fun h2 =>
(some h2))
else
(bndh (MX12_readsMark n x1 h1) fun h3 =>
(some h3)))
else
(bndh (MX12_readsMove n x2 x1 h1) fun h4 =>
(some h4)))
else
(bndh (MX12_readsSetting n x2 h1) fun h5 =>
(some h5)))))
def JX12_readsLine_84 (n : Nat) (x1 x2 : Int) (h : Hp) : Option (Hp) :=
(JX12_readsLine_89 n x1 x2 1 h)
def JX12_readsLine_58 (n : Nat) (x1 x2 : Int) (h : Hp) : Option (Hp) :=
(bndp (MX12_wordLength n h) fun r1 =>
(ltt (up h 113 21 (w32 ((h 113 21) + r1))) fun h1 =>
(if (h1 113 33) ≠ 0 then
(JX12_readsLine_84 n x1 x2 h1)
else
(if x2 ≤ 2 then
(JX12_readsLine_89 n x1 x2 0 h1)
else
(JX12_readsLine_84 n x1 x2 h1)))))
def JX12_readsLine_34 (n : Nat) (x1 x2 : Int) (h : Hp) : Option (Hp) :=
(if 2 < x2 then
(JX12_readsLine_58 n x1 x2 h)
else
(if (iand (ishr (h 113 32) x2) 1) ≠ 1 then
(JX12_readsLine_58 n x1 x2 h)
else
(bndh (MX12_fails 3 x1 h) fun h1 =>
(some h1))))
def MX12_readsLine (n : Nat) (h : Hp) : Option (Hp) :=
(ltt (h 113 21) fun y1 =>
(bndp (MX12_wordHere n h) fun r1 =>
(ltt r1 fun y2 =>
(if y2 = (-1) then
(JX12_readsLine_27 n y1 h)
else
(if 2 < y2 then
(JX12_readsLine_34 n y1 y2 h)
else
(if (h 113 33) = 0 then
(JX12_readsLine_34 n y1 y2 h)
else
(JX12_readsLine_27 n y1 h)))))))
def wX12_readsLine {ρ : Type} (n : Nat) : FN ρ := fun a h k => match a with
  | [_] => bndh (MX12_readsLine n h) (fun h2 => k 0 h2)
  | _ => none
def fsX12_readsLine (n : Nat) (ρ : Type) : List (FN ρ) := [wX12_wordHere n, wX12_fails, wX12_wordLength n, wX12_readsSetting n, wX12_readsMove n, wX12_readsMark n, wX12_readsAgain n]
def KJX12_readsLine_27 (_ : Nat) : CT (Hp) := []
set_option maxRecDepth 100000 in
theorem eJX12_readsLine_27 (n : Nat) (x1 : Int) (h : Hp) : JX12_readsLine_27 n x1 h =
  goAt false (kct (KJX12_readsLine_27 n)) (fun _ h => some (h)) (fsX12_readsLine n _) sdX12_readsLine 1000 27 [(0, 16, 113), (1, 0, x1)] [] h := rfl
def KJX12_readsLine_89 (_ : Nat) : CT (Hp) := []
set_option maxRecDepth 100000 in
theorem eJX12_readsLine_89 (n : Nat) (x1 : Int) (x2 : Int) (z1 : Int) (h : Hp) : JX12_readsLine_89 n x1 x2 z1 h =
  goAt false (kct (KJX12_readsLine_89 n)) (fun _ h => some (h)) (fsX12_readsLine n _) sdX12_readsLine 1000 89 [(0, 16, 113), (1, 0, x1), (2, 0, x2)] [(0, z1), (16, 113)] h := rfl
def KJX12_readsLine_84 (n : Nat) : CT (Hp) := [(89, [(0, 16, (some 113)), (1, 0, none), (2, 0, none)], [(0, none), (16, (some 113))], fun a c h => match a, c with
    | [x1, x2], [z1] => JX12_readsLine_89 n x1 x2 z1 h
    | _, _ => none)]
set_option maxRecDepth 100000 in
theorem eJX12_readsLine_84 (n : Nat) (x1 : Int) (x2 : Int) (h : Hp) : JX12_readsLine_84 n x1 x2 h =
  goAt false (kct (KJX12_readsLine_84 n)) (fun _ h => some (h)) (fsX12_readsLine n _) sdX12_readsLine 1000 84 [(0, 16, 113), (1, 0, x1), (2, 0, x2)] [(16, 113)] h := rfl
def KJX12_readsLine_58 (n : Nat) : CT (Hp) := [(89, [(0, 16, (some 113)), (1, 0, none), (2, 0, none)], [(0, none), (16, (some 113))], fun a c h => match a, c with
    | [x1, x2], [z1] => JX12_readsLine_89 n x1 x2 z1 h
    | _, _ => none),
  (84, [(0, 16, (some 113)), (1, 0, none), (2, 0, none)], [(16, (some 113))], fun a c h => match a, c with
    | [x1, x2], [] => JX12_readsLine_84 n x1 x2 h
    | _, _ => none)]
set_option maxRecDepth 100000 in
theorem eJX12_readsLine_58 (n : Nat) (x1 : Int) (x2 : Int) (h : Hp) : JX12_readsLine_58 n x1 x2 h =
  goAt false (kct (KJX12_readsLine_58 n)) (fun _ h => some (h)) (fsX12_readsLine n _) sdX12_readsLine 1000 58 [(0, 16, 113), (1, 0, x1), (2, 0, x2)] [] h := rfl
def KJX12_readsLine_34 (n : Nat) : CT (Hp) := [(58, [(0, 16, (some 113)), (1, 0, none), (2, 0, none)], [], fun a c h => match a, c with
    | [x1, x2], [] => JX12_readsLine_58 n x1 x2 h
    | _, _ => none)]
set_option maxRecDepth 100000 in
theorem eJX12_readsLine_34 (n : Nat) (x1 : Int) (x2 : Int) (h : Hp) : JX12_readsLine_34 n x1 x2 h =
  goAt false (kct (KJX12_readsLine_34 n)) (fun _ h => some (h)) (fsX12_readsLine n _) sdX12_readsLine 1000 34 [(0, 16, 113), (1, 0, x1), (2, 0, x2)] [] h := rfl
def KMX12_readsLine (n : Nat) : CT (Hp) := [(27, [(0, 16, (some 113)), (1, 0, none)], [], fun a c h => match a, c with
    | [x1], [] => JX12_readsLine_27 n x1 h
    | _, _ => none),
  (34, [(0, 16, (some 113)), (1, 0, none), (2, 0, none)], [], fun a c h => match a, c with
    | [x1, x2], [] => JX12_readsLine_34 n x1 x2 h
    | _, _ => none)]
set_option maxRecDepth 100000 in
theorem eMX12_readsLine (n : Nat) (h : Hp) : MX12_readsLine n h =
  goAt false (kct (KMX12_readsLine n)) (fun _ h => some (h)) (fsX12_readsLine n _) sdX12_readsLine 1000 0 [(0, 16, 113)] [] h := rfl
theorem okX12_readsLine : mokb (mi 105) = true := by decide +kernel
theorem rkX12_readsLine : rkOK 0 (mi 105).1.2.2.2.2.2.2.1 (mi 105).1.2.2.2.1 := Or.inl ⟨rfl, rfl, rfl⟩
def calX12_readsLine : List Nat := [84, 85, 82, 89, 100, 103, 104]
theorem foX12_readsLine {l : Launch} {ρ : Type} (n : Nat) : fsOK l false mi calX12_readsLine (fsX12_readsLine n ρ) := ⟨(sndX12_wordHere n), ⟨sndX12_fails, ⟨(sndX12_wordLength n), ⟨(sndX12_readsSetting n), ⟨(sndX12_readsMove n), ⟨(sndX12_readsMark n), ⟨(sndX12_readsAgain n), trivial⟩⟩⟩⟩⟩⟩⟩
theorem ok_sdX12_readsLine : sdb (mi 105).1.2.1 (insOK mi (mi 105).1.1.cls (mi 105).1.2.2.1 (mi 105).1.2.2.2.2.1 (mi 105).1.2.2.2.2.2.1 calX12_readsLine false 0) sdX12_readsLine = true := by decide +kernel
theorem sJX12_readsLine_27 {l : Launch} {h0 h' : Hp} {v : Int} (h8 : nOf h0 = 148) (n : Nat) (x1 : Int) (h : Hp) {r : Hp} (H : JX12_readsLine_27 n x1 h = some r) (hG : gW h' r) : PAt l false (mi 105).1 h0 v h' 27 [(0, 16, 113), (1, 0, x1)] [] h :=
  pat_w ok_sdX12_readsLine rkX12_readsLine h8 (foX12_readsLine n) (fun v1 h1 q => by
    cases q
    exact ⟨hG, fun q9 => absurd rfl q9⟩) (fun q9 h9 => by cases h9) ((eJX12_readsLine_27 n x1 h).symm.trans H)
theorem sJX12_readsLine_89 {l : Launch} {h0 h' : Hp} {v : Int} (h8 : nOf h0 = 148) (n : Nat) (x1 : Int) (x2 : Int) (z1 : Int) (h : Hp) {r : Hp} (H : JX12_readsLine_89 n x1 x2 z1 h = some r) (hG : gW h' r) : PAt l false (mi 105).1 h0 v h' 89 [(0, 16, 113), (1, 0, x1), (2, 0, x2)] [(0, z1), (16, 113)] h :=
  pat_w ok_sdX12_readsLine rkX12_readsLine h8 (foX12_readsLine n) (fun v1 h1 q => by
    cases q
    exact ⟨hG, fun q9 => absurd rfl q9⟩) (fun q9 h9 => by cases h9) ((eJX12_readsLine_89 n x1 x2 z1 h).symm.trans H)
theorem sJX12_readsLine_84 {l : Launch} {h0 h' : Hp} {v : Int} (h8 : nOf h0 = 148) (n : Nat) (x1 : Int) (x2 : Int) (h : Hp) {r : Hp} (H : JX12_readsLine_84 n x1 x2 h = some r) (hG : gW h' r) : PAt l false (mi 105).1 h0 v h' 84 [(0, 16, 113), (1, 0, x1), (2, 0, x2)] [(16, 113)] h :=
  pat_w ok_sdX12_readsLine rkX12_readsLine h8 (foX12_readsLine n) (fun v1 h1 q => by
    cases q
    exact ⟨hG, fun q9 => absurd rfl q9⟩) (List.forall_mem_cons.mpr ⟨(fun a c h H => by
      dsimp only at H
      split at H
      · exact sJX12_readsLine_89 h8 n _ _ _ _ H hG
      · cases H), (fun q9 h9 => by cases h9)⟩) ((eJX12_readsLine_84 n x1 x2 h).symm.trans H)
theorem sJX12_readsLine_58 {l : Launch} {h0 h' : Hp} {v : Int} (h8 : nOf h0 = 148) (n : Nat) (x1 : Int) (x2 : Int) (h : Hp) {r : Hp} (H : JX12_readsLine_58 n x1 x2 h = some r) (hG : gW h' r) : PAt l false (mi 105).1 h0 v h' 58 [(0, 16, 113), (1, 0, x1), (2, 0, x2)] [] h :=
  pat_w ok_sdX12_readsLine rkX12_readsLine h8 (foX12_readsLine n) (fun v1 h1 q => by
    cases q
    exact ⟨hG, fun q9 => absurd rfl q9⟩) (List.forall_mem_cons.mpr ⟨(fun a c h H => by
      dsimp only at H
      split at H
      · exact sJX12_readsLine_89 h8 n _ _ _ _ H hG
      · cases H), (List.forall_mem_cons.mpr ⟨(fun a c h H => by
      dsimp only at H
      split at H
      · exact sJX12_readsLine_84 h8 n _ _ _ H hG
      · cases H), (fun q9 h9 => by cases h9)⟩)⟩) ((eJX12_readsLine_58 n x1 x2 h).symm.trans H)
theorem sJX12_readsLine_34 {l : Launch} {h0 h' : Hp} {v : Int} (h8 : nOf h0 = 148) (n : Nat) (x1 : Int) (x2 : Int) (h : Hp) {r : Hp} (H : JX12_readsLine_34 n x1 x2 h = some r) (hG : gW h' r) : PAt l false (mi 105).1 h0 v h' 34 [(0, 16, 113), (1, 0, x1), (2, 0, x2)] [] h :=
  pat_w ok_sdX12_readsLine rkX12_readsLine h8 (foX12_readsLine n) (fun v1 h1 q => by
    cases q
    exact ⟨hG, fun q9 => absurd rfl q9⟩) (List.forall_mem_cons.mpr ⟨(fun a c h H => by
      dsimp only at H
      split at H
      · exact sJX12_readsLine_58 h8 n _ _ _ H hG
      · cases H), (fun q9 h9 => by cases h9)⟩) ((eJX12_readsLine_34 n x1 x2 h).symm.trans H)
theorem sMX12_readsLine {l : Launch} {h0 h' : Hp} {v : Int} (h8 : nOf h0 = 148) (n : Nat)  (h : Hp) {r : Hp} (H : MX12_readsLine n h = some r) (hG : gW h' r) : PAt l false (mi 105).1 h0 v h' 0 [(0, 16, 113)] [] h :=
  pat_w ok_sdX12_readsLine rkX12_readsLine h8 (foX12_readsLine n) (fun v1 h1 q => by
    cases q
    exact ⟨hG, fun q9 => absurd rfl q9⟩) (List.forall_mem_cons.mpr ⟨(fun a c h H => by
      dsimp only at H
      split at H
      · exact sJX12_readsLine_27 h8 n _ _ H hG
      · cases H), (List.forall_mem_cons.mpr ⟨(fun a c h H => by
      dsimp only at H
      split at H
      · exact sJX12_readsLine_34 h8 n _ _ _ H hG
      · cases H), (fun q9 h9 => by cases h9)⟩)⟩) ((eMX12_readsLine n h).symm.trans H)
theorem sndX12_readsLine {ρ : Type} {l : Launch} (n : Nat) : SndF (ρ := ρ) l false (mi 105).1 (wX12_readsLine n) := by
    intro a h k r H ha ho hn hf
    have h8 := hf rfl
    obtain ⟨x0, rfl⟩ := len1 (show a.length = 1 from ha)
    have u0 := uq16 hn (ho (16, x0) (List.mem_cons_self))
    subst u0
    replace H : bndh (MX12_readsLine n h) (fun h2 => k 0 h2) = some r := H
    obtain ⟨h2, H1, H2⟩ := bndh_some H
    exact ⟨0, h2, H2, met_mk (mok_base okX12_readsLine).1 (by decide +kernel) (Nat.le_of_ble_eq_true rfl) ho (sMX12_readsLine h8 n  h H1 rfl), fun q => by cases q⟩
/-! X12_goes -/
def sdX12_goes : SD := [(0, [(0, .aload_n 0, 1, [], 0), (1, .getfield 37, 3, [12, 14, 1580, 1, 1336, 0], 9), (4, .iconst 3, 1, [], 0), (5, .iload_n 1, 1, [], 0), (6, .iconst 1, 1, [], 0), (7, .iadd, 1, [], 0), (8, .imul, 1, [], 0), (9, .iload_n 2, 1, [], 0), (10, .iadd, 1, [], 0), (11, .iaload, 1, [], 0), (12, .aload_n 0, 1, [], 0), (13, .getfield 37, 3, [12, 14, 1580, 1, 1336, 0], 9), (16, .iconst 3, 1, [], 0), (17, .iload_n 1, 1, [], 0), (18, .imul, 1, [], 0), (19, .iload_n 2, 1, [], 0), (20, .iadd, 1, [], 0), (21, .iaload, 1, [], 0), (22, .isub, 1, [], 0), (23, .ireturn, 1, [], 0)])]
def MX12_goes (x1 x2 : Int) (h : Hp) : Option (Int) :=
(grd (0 ≤ (w32 ((w32 (3 * (w32 (x1 + 1)))) + x2)) ∧ (w32 ((w32 (3 * (w32 (x1 + 1)))) + x2)) < alen 1580)
(grd (0 ≤ (w32 ((w32 (3 * x1)) + x2)) ∧ (w32 ((w32 (3 * x1)) + x2)) < alen 1580)
(some (w32 ((h 122 (w32 ((w32 (3 * (w32 (x1 + 1)))) + x2))) - (h 122 (w32 ((w32 (3 * x1)) + x2))))))))
def wX12_goes {ρ : Type} : FN ρ := fun a h k => match a with
  | [_, x1, x2] => bndp (MX12_goes x1 x2 h) (fun r => k r h)
  | _ => none
def fsX12_goes (ρ : Type) : List (FN ρ) := []
def KMX12_goes  : CT (Int) := []
set_option maxRecDepth 100000 in
theorem eMX12_goes (x1 : Int) (x2 : Int) (h : Hp) : MX12_goes x1 x2 h =
  goAt false (kct (KMX12_goes)) (fun v _ => some (v)) (fsX12_goes _) sdX12_goes 1000 0 [(0, 16, 113), (1, 0, x1), (2, 0, x2)] [] h := rfl
theorem okX12_goes : mokb (mi 106) = true := by decide +kernel
theorem rkX12_goes : rkOK 1 (mi 106).1.2.2.2.2.2.2.1 (mi 106).1.2.2.2.1 := Or.inr (Or.inl ⟨rfl, rfl, rfl⟩)
def calX12_goes : List Nat := []
theorem foX12_goes {l : Launch} {ρ : Type} : fsOK l false mi calX12_goes (fsX12_goes ρ) := trivial
theorem frX12_goes {ρ : Type} : ∀ fn ∈ fsX12_goes ρ, RoF fn := (fun q9 h9 => by cases h9)
theorem ok_sdX12_goes : sdb (mi 106).1.2.1 (insOK mi (mi 106).1.1.cls (mi 106).1.2.2.1 (mi 106).1.2.2.2.2.1 (mi 106).1.2.2.2.2.2.1 calX12_goes false 1) sdX12_goes = true := by decide +kernel
theorem sMX12_goes {l : Launch} {h0 : Hp} {v : Int} (h8 : nOf h0 = 148)  (x1 : Int) (x2 : Int) (h : Hp) {r : Int} (H : MX12_goes x1 x2 h = some r) (hG : gV v r) : PAt l false (mi 106).1 h0 v h 0 [(0, 16, 113), (1, 0, x1), (2, 0, x2)] [] h :=
  pat_ro ok_sdX12_goes rfl rkX12_goes h8 (foX12_goes) (frX12_goes) (fun v1 q => by
    cases q
    exact ⟨rfl, fun _ => hG⟩) (fun q9 h9 => by cases h9) ((eMX12_goes x1 x2 h).symm.trans H)
theorem sndX12_goes {ρ : Type} {l : Launch} : SndF (ρ := ρ) l false (mi 106).1 (wX12_goes) := by
    intro a h k r H ha ho hn hf
    have h8 := hf rfl
    obtain ⟨x0, x1, x2, rfl⟩ := len3 (show a.length = 3 from ha)
    have u0 := uq16 hn (ho (16, x0) (List.mem_cons_self))
    subst u0
    replace H : bndp (MX12_goes x1 x2 h) (fun r => k r h) = some r := H
    obtain ⟨v2, H1, H2⟩ := bndp_some H
    exact ⟨v2, h, H2, met_mk (mok_base okX12_goes).1 (by decide +kernel) (Nat.le_of_ble_eq_true rfl) ho (sMX12_goes h8 x1 x2 h H1 rfl), fun q => by cases q⟩
theorem roX12_goes {ρ : Type} : RoF (wX12_goes : FN ρ) := fun a h k k2 hk => by
  unfold wX12_goes
  split
  · exact bndp_ro hk
  · rfl
/-! X12_copiesProgram -/
def sdX12_copiesProgram : SD := [(0, [(0, .iconst 0, 1, [], 0), (1, .istore_n 1, 1, [], 0)]),
  (2, [(2, .iload_n 1, 1, [], 0), (3, .bipush 8, 2, [], 0), (5, .if_icmp .ge 21, 3, [], 0)]),
  (8, [(8, .aload_n 0, 1, [], 0), (9, .getfield 15, 3, [12, 1, 84, 1, 1323, 0], 2), (12, .iload_n 1, 1, [], 0), (13, .aload_n 0, 1, [], 0), (14, .getfield 11, 3, [12, 0, 84, 1, 1322, 0], 1), (17, .iload_n 1, 1, [], 0), (18, .iaload, 1, [], 0), (19, .iastore, 1, [], 0), (20, .iinc 1 1, 3, [], 0), (23, .goto (-21), 3, [], 0)]),
  (26, [(26, .aload_n 0, 1, [], 0), (27, .aload_n 0, 1, [], 0), (28, .getfield 127, 3, [12, 2, 0, 0, 1324, 0], 0), (31, .putfield 137, 3, [12, 5, 0, 0, 0, 1327], 0), (34, .aload_n 0, 1, [], 0), (35, .aload_n 0, 1, [], 0), (36, .getfield 131, 3, [12, 3, 0, 0, 1325, 0], 0), (39, .putfield 140, 3, [12, 6, 0, 0, 0, 1328], 0), (42, .aload_n 0, 1, [], 0), (43, .aload_n 0, 1, [], 0), (44, .getfield 134, 3, [12, 4, 0, 0, 1326, 0], 0), (47, .putfield 143, 3, [12, 7, 0, 0, 0, 1329], 0), (50, .iconst 0, 1, [], 0), (51, .istore_n 1, 1, [], 0)]),
  (52, [(52, .iload_n 1, 1, [], 0), (53, .iconst 3, 1, [], 0), (54, .aload_n 0, 1, [], 0), (55, .getfield 140, 3, [12, 6, 0, 0, 1328, 0], 0), (58, .iconst 1, 1, [], 0), (59, .iadd, 1, [], 0), (60, .imul, 1, [], 0), (61, .if_icmp .ge 21, 3, [], 0)]),
  (64, [(64, .aload_n 0, 1, [], 0), (65, .getfield 37, 3, [12, 14, 1580, 1, 1336, 0], 9), (68, .iload_n 1, 1, [], 0), (69, .aload_n 0, 1, [], 0), (70, .getfield 28, 3, [12, 11, 1580, 1, 1333, 0], 6), (73, .iload_n 1, 1, [], 0), (74, .iaload, 1, [], 0), (75, .iastore, 1, [], 0), (76, .iinc 1 1, 3, [], 0), (79, .goto (-27), 3, [], 0)]),
  (82, [(82, .aload_n 0, 1, [], 0), (83, .getfield 49, 3, [12, 18, 540, 1, 1340, 0], 13), (86, .iconst 0, 1, [], 0), (87, .iconst 0, 1, [], 0), (88, .iastore, 1, [], 0), (89, .iconst 0, 1, [], 0), (90, .istore_n 1, 1, [], 0)]),
  (91, [(91, .iload_n 1, 1, [], 0), (92, .aload_n 0, 1, [], 0), (93, .getfield 140, 3, [12, 6, 0, 0, 1328, 0], 0), (96, .if_icmp .ge 95, 3, [], 0)]),
  (99, [(99, .aload_n 0, 1, [], 0), (100, .getfield 40, 3, [12, 15, 532, 1, 1337, 0], 10), (103, .iload_n 1, 1, [], 0), (104, .aload_n 0, 1, [], 0), (105, .getfield 31, 3, [12, 12, 532, 1, 1334, 0], 7), (108, .iload_n 1, 1, [], 0), (109, .iaload, 1, [], 0), (110, .iastore, 1, [], 0), (111, .aload_n 0, 1, [], 0), (112, .getfield 43, 3, [12, 16, 532, 1, 1338, 0], 11), (115, .iload_n 1, 1, [], 0), (116, .aload_n 0, 1, [], 0), (117, .getfield 34, 3, [12, 13, 532, 1, 1335, 0], 8), (120, .iload_n 1, 1, [], 0), (121, .iaload, 1, [], 0), (122, .iastore, 1, [], 0), (123, .aload_n 0, 1, [], 0), (124, .getfield 46, 3, [12, 17, 532, 1, 1339, 0], 12), (127, .iload_n 1, 1, [], 0), (128, .aload_n 0, 1, [], 0), (129, .iload_n 1, 1, [], 0), (130, .iconst 0, 1, [], 0), (131, .invokevirtual 146, 3, [1, 0, 1, 106, 1310, 0, 0, 16], 0), (134, .i2l, 1, [], 0), (135, .invokestatic 150, 3, [2, 1, 3, 92, 1314, 1], 0), (138, .aload_n 0, 1, [], 0), (139, .iload_n 1, 1, [], 0), (140, .iconst 1, 1, [], 0), (141, .invokevirtual 146, 3, [1, 0, 1, 106, 1310, 0, 0, 16], 0), (144, .i2l, 1, [], 0), (145, .invokestatic 150, 3, [2, 1, 3, 92, 1314, 1], 0), (148, .ladd, 1, [], 0), (149, .aload_n 0, 1, [], 0), (150, .iload_n 1, 1, [], 0), (151, .iconst 2, 1, [], 0), (152, .invokevirtual 146, 3, [1, 0, 1, 106, 1310, 0, 0, 16], 0), (155, .i2l, 1, [], 0), (156, .invokestatic 150, 3, [2, 1, 3, 92, 1314, 1], 0), (159, .ladd, 1, [], 0), (160, .invokestatic 154, 3, [1, 2, 3, 93, 1317, 1], 0), (163, .iastore, 1, [], 0), (164, .aload_n 0, 1, [], 0), (165, .getfield 49, 3, [12, 18, 540, 1, 1340, 0], 13), (168, .iload_n 1, 1, [], 0), (169, .iconst 1, 1, [], 0), (170, .iadd, 1, [], 0), (171, .aload_n 0, 1, [], 0), (172, .getfield 49, 3, [12, 18, 540, 1, 1340, 0], 13), (175, .iload_n 1, 1, [], 0), (176, .iaload, 1, [], 0), (177, .aload_n 0, 1, [], 0), (178, .getfield 46, 3, [12, 17, 532, 1, 1339, 0], 12), (181, .iload_n 1, 1, [], 0), (182, .iaload, 1, [], 0), (183, .iadd, 1, [], 0), (184, .iastore, 1, [], 0), (185, .iinc 1 1, 3, [], 0), (188, .goto (-97), 3, [], 0)]),
  (191, [(191, .aload_n 0, 1, [], 0), (192, .bipush 100, 2, [], 0), (194, .putfield 158, 3, [12, 45, 0, 0, 0, 1367], 0), (197, .aload_n 0, 1, [], 0), (198, .iconst 0, 1, [], 0), (199, .putfield 161, 3, [12, 47, 0, 0, 1, 1369], 0), (202, .aload_n 0, 1, [], 0), (203, .iconst 0, 1, [], 0), (204, .putfield 165, 3, [12, 42, 0, 0, 0, 1364], 0), (207, .aload_n 0, 1, [], 0), (208, .iconst 0, 1, [], 0), (209, .putfield 168, 3, [12, 43, 0, 0, 0, 1365], 0), (212, .aload_n 0, 1, [], 0), (213, .iconst 0, 1, [], 0), (214, .putfield 171, 3, [12, 44, 0, 0, 0, 1366], 0), (217, .aload_n 0, 1, [], 0), (218, .iconst 0, 1, [], 0), (219, .putfield 174, 3, [12, 46, 0, 0, 0, 1368], 0), (222, .aload_n 0, 1, [], 0), (223, .iconst 0, 1, [], 0), (224, .putfield 177, 3, [12, 54, 0, 0, 0, 1376], 0), (227, .iconst 0, 1, [], 0), (228, .istore_n 1, 1, [], 0)]),
  (229, [(229, .iload_n 1, 1, [], 0), (230, .iconst 3, 1, [], 0), (231, .if_icmp .ge 16, 3, [], 0)]),
  (234, [(234, .aload_n 0, 1, [], 0), (235, .getfield 113, 3, [12, 64, 46, 1, 1386, 0], 34), (238, .iload_n 1, 1, [], 0), (239, .iconst 0, 1, [], 0), (240, .bastore, 1, [], 0), (241, .iinc 1 1, 3, [], 0), (244, .goto (-15), 3, [], 0)]),
  (247, [(247, .return_, 1, [], 0)])]
def BX12_copiesProgram_2 (n : Nat) : Nat → Int → Hp → Option (Hp)
  | 0, _, _ => none
  | f + 1, x1, h =>
    (if 8 ≤ x1 then
    (some (h))
    else
    (grd (0 ≤ x1 ∧ x1 < alen 84)
    (grd (0 ≤ x1 ∧ x1 < alen 84)
    (ltt (up h 115 x1 (h 114 x1)) fun h1 =>
    (ltt (w32 (x1 + 1)) fun y1 =>
    (BX12_copiesProgram_2 n f y1 h1))))))
def BX12_copiesProgram_52 (n : Nat) : Nat → Int → Hp → Option (Hp)
  | 0, _, _ => none
  | f + 1, x1, h =>
    (if (w32 (3 * (w32 ((h 113 6) + 1)))) ≤ x1 then
    (some (h))
    else
    (grd (0 ≤ x1 ∧ x1 < alen 1580)
    (grd (0 ≤ x1 ∧ x1 < alen 1580)
    (ltt (up h 122 x1 (h 119 x1)) fun h1 =>
    (ltt (w32 (x1 + 1)) fun y1 =>
    (BX12_copiesProgram_52 n f y1 h1))))))
def BX12_copiesProgram_91 (n : Nat) : Nat → Int → Hp → Option (Hp)
  | 0, _, _ => none
  | f + 1, x1, h =>
    (if (h 113 6) ≤ x1 then
    (some (h))
    else
    (grd (0 ≤ x1 ∧ x1 < alen 532)
    (grd (0 ≤ x1 ∧ x1 < alen 532)
    (ltt (up h 123 x1 (h 120 x1)) fun h1 =>
    (grd (0 ≤ x1 ∧ x1 < alen 532)
    (grd (0 ≤ x1 ∧ x1 < alen 532)
    (ltt (up h1 124 x1 (h1 121 x1)) fun h2 =>
    (bndp (MX12_goes x1 0 h2) fun r1 =>
    (bndp (MX12_square r1) fun r2 =>
    (bndp (MX12_goes x1 1 h2) fun r3 =>
    (bndp (MX12_square r3) fun r4 =>
    (bndp (MX12_goes x1 2 h2) fun r5 =>
    (bndp (MX12_square r5) fun r6 =>
    (bndp (MX12_root n (w64 ((w64 (r2 + r4)) + r6))) fun r7 =>
    (grd (0 ≤ x1 ∧ x1 < alen 532)
    (ltt (up h2 125 x1 r7) fun h3 =>
    (grd (0 ≤ x1 ∧ x1 < alen 540)
    (grd (0 ≤ x1 ∧ x1 < alen 532)
    (grd (0 ≤ (w32 (x1 + 1)) ∧ (w32 (x1 + 1)) < alen 540)
    (ltt (up h3 126 (w32 (x1 + 1)) (w32 ((h3 126 x1) + (h3 125 x1)))) fun h4 =>
    (ltt (w32 (x1 + 1)) fun y1 =>
    (BX12_copiesProgram_91 n f y1 h4))))))))))))))))))))))
def BX12_copiesProgram_229 (n : Nat) : Nat → Int → Hp → Option (Hp)
  | 0, _, _ => none
  | f + 1, x1, h =>
    (if 3 ≤ x1 then
    (some h)
    else
    (grd (0 ≤ x1 ∧ x1 < alen 46)
    (ltt (up h 147 x1 (0 % 2)) fun h1 =>
    (ltt (w32 (x1 + 1)) fun y1 =>
    (BX12_copiesProgram_229 n f y1 h1)))))
def LX12_copiesProgram_229 (n : Nat) (x1 : Int) (h : Hp) : Option (Hp) :=
(BX12_copiesProgram_229 n n x1 h)
def JX12_copiesProgram_191 (n : Nat) (h : Hp) : Option (Hp) :=
(ltt (up h 113 45 100) fun h1 =>
(ltt (up h1 113 47 0) fun h2 =>
(ltt (up h2 113 42 0) fun h3 =>
(ltt (up h3 113 43 0) fun h4 =>
(ltt (up h4 113 44 0) fun h5 =>
(ltt (up h5 113 46 0) fun h6 =>
(ltt (up h6 113 54 0) fun h7 =>
(ltt 0 fun y1 =>
(LX12_copiesProgram_229 n y1 h7)))))))))
def LX12_copiesProgram_91 (n : Nat) (x1 : Int) (h : Hp) : Option (Hp) :=
(bndx (BX12_copiesProgram_91 n n x1 h) fun h1 =>
(JX12_copiesProgram_191 n h1))
def JX12_copiesProgram_82 (n : Nat) (h : Hp) : Option (Hp) :=
(grd (0 ≤ 0 ∧ 0 < alen 540)
(ltt (up h 126 0 0) fun h1 =>
(ltt 0 fun y1 =>
(LX12_copiesProgram_91 n y1 h1))))
def LX12_copiesProgram_52 (n : Nat) (x1 : Int) (h : Hp) : Option (Hp) :=
(bndx (BX12_copiesProgram_52 n n x1 h) fun h1 =>
(JX12_copiesProgram_82 n h1))
def JX12_copiesProgram_26 (n : Nat) (h : Hp) : Option (Hp) :=
(ltt (up h 113 5 (h 113 2)) fun h1 =>
(ltt (up h1 113 6 (h1 113 3)) fun h2 =>
(ltt (up h2 113 7 (h2 113 4)) fun h3 =>
(ltt 0 fun y1 =>
(LX12_copiesProgram_52 n y1 h3)))))
def LX12_copiesProgram_2 (n : Nat) (x1 : Int) (h : Hp) : Option (Hp) :=
(bndx (BX12_copiesProgram_2 n n x1 h) fun h1 =>
(JX12_copiesProgram_26 n h1))
def MX12_copiesProgram (n : Nat) (h : Hp) : Option (Hp) :=
(ltt 0 fun y1 =>
(LX12_copiesProgram_2 n y1 h))
def wX12_copiesProgram {ρ : Type} (n : Nat) : FN ρ := fun a h k => match a with
  | [_] => bndh (MX12_copiesProgram n h) (fun h2 => k 0 h2)
  | _ => none
def fsX12_copiesProgram (n : Nat) (ρ : Type) : List (FN ρ) := [wX12_goes, wX12_square, wX12_root n]
def KBX12_copiesProgram_2 (_ : Nat) (bk : Int → Hp → Option (Hp)) : CT (Hp) := [(2, [(0, 16, (some 113)), (1, 0, none)], [], fun a c h => match a, c with
    | [x1], [] => bk x1 h
    | _, _ => none),
  (26, [(0, 16, (some 113))], [], fun a c h => match a, c with
    | [], [] => some (h)
    | _, _ => none)]
set_option maxRecDepth 100000 in
theorem eBX12_copiesProgram_2 (n f : Nat) (x1 : Int) (h : Hp) : BX12_copiesProgram_2 n (f + 1) x1 h =
  goAt false (kct (KBX12_copiesProgram_2 n (BX12_copiesProgram_2 n f))) (fun _ _ => none) (fsX12_copiesProgram n _) sdX12_copiesProgram 1000 2 [(0, 16, 113), (1, 0, x1)] [] h := rfl
def KBX12_copiesProgram_52 (_ : Nat) (bk : Int → Hp → Option (Hp)) : CT (Hp) := [(52, [(0, 16, (some 113)), (1, 0, none)], [], fun a c h => match a, c with
    | [x1], [] => bk x1 h
    | _, _ => none),
  (82, [(0, 16, (some 113))], [], fun a c h => match a, c with
    | [], [] => some (h)
    | _, _ => none)]
set_option maxRecDepth 100000 in
theorem eBX12_copiesProgram_52 (n f : Nat) (x1 : Int) (h : Hp) : BX12_copiesProgram_52 n (f + 1) x1 h =
  goAt false (kct (KBX12_copiesProgram_52 n (BX12_copiesProgram_52 n f))) (fun _ _ => none) (fsX12_copiesProgram n _) sdX12_copiesProgram 1000 52 [(0, 16, 113), (1, 0, x1)] [] h := rfl
def KBX12_copiesProgram_91 (_ : Nat) (bk : Int → Hp → Option (Hp)) : CT (Hp) := [(91, [(0, 16, (some 113)), (1, 0, none)], [], fun a c h => match a, c with
    | [x1], [] => bk x1 h
    | _, _ => none),
  (191, [(0, 16, (some 113))], [], fun a c h => match a, c with
    | [], [] => some (h)
    | _, _ => none)]
set_option maxRecDepth 100000 in
theorem eBX12_copiesProgram_91 (n f : Nat) (x1 : Int) (h : Hp) : BX12_copiesProgram_91 n (f + 1) x1 h =
  goAt false (kct (KBX12_copiesProgram_91 n (BX12_copiesProgram_91 n f))) (fun _ _ => none) (fsX12_copiesProgram n _) sdX12_copiesProgram 1000 91 [(0, 16, 113), (1, 0, x1)] [] h := rfl
def KBX12_copiesProgram_229 (_ : Nat) (bk : Int → Hp → Option (Hp)) : CT (Hp) := [(229, [(0, 16, (some 113)), (1, 0, none)], [], fun a c h => match a, c with
    | [x1], [] => bk x1 h
    | _, _ => none)]
set_option maxRecDepth 100000 in
theorem eBX12_copiesProgram_229 (n f : Nat) (x1 : Int) (h : Hp) : BX12_copiesProgram_229 n (f + 1) x1 h =
  goAt false (kct (KBX12_copiesProgram_229 n (BX12_copiesProgram_229 n f))) (fun _ h => some (h)) (fsX12_copiesProgram n _) sdX12_copiesProgram 1000 229 [(0, 16, 113), (1, 0, x1)] [] h := rfl
def KJX12_copiesProgram_191 (n : Nat) : CT (Hp) := [(229, [(0, 16, (some 113)), (1, 0, none)], [], fun a c h => match a, c with
    | [x1], [] => LX12_copiesProgram_229 n x1 h
    | _, _ => none)]
set_option maxRecDepth 100000 in
theorem eJX12_copiesProgram_191 (n : Nat) (h : Hp) : JX12_copiesProgram_191 n h =
  goAt false (kct (KJX12_copiesProgram_191 n)) (fun _ h => some (h)) (fsX12_copiesProgram n _) sdX12_copiesProgram 1000 191 [(0, 16, 113)] [] h := rfl
def KJX12_copiesProgram_82 (n : Nat) : CT (Hp) := [(91, [(0, 16, (some 113)), (1, 0, none)], [], fun a c h => match a, c with
    | [x1], [] => LX12_copiesProgram_91 n x1 h
    | _, _ => none)]
set_option maxRecDepth 100000 in
theorem eJX12_copiesProgram_82 (n : Nat) (h : Hp) : JX12_copiesProgram_82 n h =
  goAt false (kct (KJX12_copiesProgram_82 n)) (fun _ h => some (h)) (fsX12_copiesProgram n _) sdX12_copiesProgram 1000 82 [(0, 16, 113)] [] h := rfl
def KJX12_copiesProgram_26 (n : Nat) : CT (Hp) := [(52, [(0, 16, (some 113)), (1, 0, none)], [], fun a c h => match a, c with
    | [x1], [] => LX12_copiesProgram_52 n x1 h
    | _, _ => none)]
set_option maxRecDepth 100000 in
theorem eJX12_copiesProgram_26 (n : Nat) (h : Hp) : JX12_copiesProgram_26 n h =
  goAt false (kct (KJX12_copiesProgram_26 n)) (fun _ h => some (h)) (fsX12_copiesProgram n _) sdX12_copiesProgram 1000 26 [(0, 16, 113)] [] h := rfl
def KMX12_copiesProgram (n : Nat) : CT (Hp) := [(2, [(0, 16, (some 113)), (1, 0, none)], [], fun a c h => match a, c with
    | [x1], [] => LX12_copiesProgram_2 n x1 h
    | _, _ => none)]
set_option maxRecDepth 100000 in
theorem eMX12_copiesProgram (n : Nat) (h : Hp) : MX12_copiesProgram n h =
  goAt false (kct (KMX12_copiesProgram n)) (fun _ h => some (h)) (fsX12_copiesProgram n _) sdX12_copiesProgram 1000 0 [(0, 16, 113)] [] h := rfl
theorem okX12_copiesProgram : mokb (mi 107) = true := by decide +kernel
theorem rkX12_copiesProgram : rkOK 0 (mi 107).1.2.2.2.2.2.2.1 (mi 107).1.2.2.2.1 := Or.inl ⟨rfl, rfl, rfl⟩
def calX12_copiesProgram : List Nat := [106, 92, 93]
theorem foX12_copiesProgram {l : Launch} {ρ : Type} (n : Nat) : fsOK l false mi calX12_copiesProgram (fsX12_copiesProgram n ρ) := ⟨sndX12_goes, ⟨sndX12_square, ⟨(sndX12_root n), trivial⟩⟩⟩
theorem ok_sdX12_copiesProgram : sdb (mi 107).1.2.1 (insOK mi (mi 107).1.1.cls (mi 107).1.2.2.1 (mi 107).1.2.2.2.2.1 (mi 107).1.2.2.2.2.2.1 calX12_copiesProgram false 0) sdX12_copiesProgram = true := by decide +kernel
def GX12_copiesProgram_52 (l : Launch) (h0 : Hp) (h' : Hp) (v : Int) (_ : Hp) : (Hp) → Prop
  | h1 => PAt l false (mi 107).1 h0 v h' 82 [(0, 16, 113)] [] h1
def GX12_copiesProgram_91 (l : Launch) (h0 : Hp) (h' : Hp) (v : Int) (_ : Hp) : (Hp) → Prop
  | h1 => PAt l false (mi 107).1 h0 v h' 191 [(0, 16, 113)] [] h1
def GX12_copiesProgram_2 (l : Launch) (h0 : Hp) (h' : Hp) (v : Int) (_ : Hp) : (Hp) → Prop
  | h1 => PAt l false (mi 107).1 h0 v h' 26 [(0, 16, 113)] [] h1
theorem sBX12_copiesProgram_2 {l : Launch} {h0 h' : Hp} {v : Int} (h8 : nOf h0 = 148) (n : Nat) : ∀ (f : Nat) (x1 : Int) (h : Hp) {r : Hp}, BX12_copiesProgram_2 n f x1 h = some r → GX12_copiesProgram_2 l h0 h' v h r → PAt l false (mi 107).1 h0 v h' 2 [(0, 16, 113), (1, 0, x1)] [] h := by
  intro f
  induction f with
  | zero =>
    intro x1 h r H _
    have H2 : (none : Option (Hp)) = some r := H
    cases H2
  | succ f ih =>
    intro x1 h r H hG
    exact pat_w ok_sdX12_copiesProgram rkX12_copiesProgram h8 (foX12_copiesProgram n) (fun v1 h1 q => by cases q) (List.forall_mem_cons.mpr ⟨(fun a c h H => by
      dsimp only at H
      split at H
      · exact ih _ _ H hG
      · cases H), (List.forall_mem_cons.mpr ⟨(fun a c h H => by
      dsimp only at H
      split at H
      · cases H
        exact hG
      · cases H), (fun q9 h9 => by cases h9)⟩)⟩) ((eBX12_copiesProgram_2 n f x1 h).symm.trans H)
theorem sBX12_copiesProgram_52 {l : Launch} {h0 h' : Hp} {v : Int} (h8 : nOf h0 = 148) (n : Nat) : ∀ (f : Nat) (x1 : Int) (h : Hp) {r : Hp}, BX12_copiesProgram_52 n f x1 h = some r → GX12_copiesProgram_52 l h0 h' v h r → PAt l false (mi 107).1 h0 v h' 52 [(0, 16, 113), (1, 0, x1)] [] h := by
  intro f
  induction f with
  | zero =>
    intro x1 h r H _
    have H2 : (none : Option (Hp)) = some r := H
    cases H2
  | succ f ih =>
    intro x1 h r H hG
    exact pat_w ok_sdX12_copiesProgram rkX12_copiesProgram h8 (foX12_copiesProgram n) (fun v1 h1 q => by cases q) (List.forall_mem_cons.mpr ⟨(fun a c h H => by
      dsimp only at H
      split at H
      · exact ih _ _ H hG
      · cases H), (List.forall_mem_cons.mpr ⟨(fun a c h H => by
      dsimp only at H
      split at H
      · cases H
        exact hG
      · cases H), (fun q9 h9 => by cases h9)⟩)⟩) ((eBX12_copiesProgram_52 n f x1 h).symm.trans H)
theorem sBX12_copiesProgram_91 {l : Launch} {h0 h' : Hp} {v : Int} (h8 : nOf h0 = 148) (n : Nat) : ∀ (f : Nat) (x1 : Int) (h : Hp) {r : Hp}, BX12_copiesProgram_91 n f x1 h = some r → GX12_copiesProgram_91 l h0 h' v h r → PAt l false (mi 107).1 h0 v h' 91 [(0, 16, 113), (1, 0, x1)] [] h := by
  intro f
  induction f with
  | zero =>
    intro x1 h r H _
    have H2 : (none : Option (Hp)) = some r := H
    cases H2
  | succ f ih =>
    intro x1 h r H hG
    exact pat_w ok_sdX12_copiesProgram rkX12_copiesProgram h8 (foX12_copiesProgram n) (fun v1 h1 q => by cases q) (List.forall_mem_cons.mpr ⟨(fun a c h H => by
      dsimp only at H
      split at H
      · exact ih _ _ H hG
      · cases H), (List.forall_mem_cons.mpr ⟨(fun a c h H => by
      dsimp only at H
      split at H
      · cases H
        exact hG
      · cases H), (fun q9 h9 => by cases h9)⟩)⟩) ((eBX12_copiesProgram_91 n f x1 h).symm.trans H)
theorem sBX12_copiesProgram_229 {l : Launch} {h0 h' : Hp} {v : Int} (h8 : nOf h0 = 148) (n : Nat) : ∀ (f : Nat) (x1 : Int) (h : Hp) {r : Hp}, BX12_copiesProgram_229 n f x1 h = some r → gW h' r → PAt l false (mi 107).1 h0 v h' 229 [(0, 16, 113), (1, 0, x1)] [] h := by
  intro f
  induction f with
  | zero =>
    intro x1 h r H _
    have H2 : (none : Option (Hp)) = some r := H
    cases H2
  | succ f ih =>
    intro x1 h r H hG
    exact pat_w ok_sdX12_copiesProgram rkX12_copiesProgram h8 (foX12_copiesProgram n) (fun v1 h1 q => by
    cases q
    exact ⟨hG, fun q9 => absurd rfl q9⟩) (List.forall_mem_cons.mpr ⟨(fun a c h H => by
      dsimp only at H
      split at H
      · exact ih _ _ H hG
      · cases H), (fun q9 h9 => by cases h9)⟩) ((eBX12_copiesProgram_229 n f x1 h).symm.trans H)
theorem sLX12_copiesProgram_229 {l : Launch} {h0 h' : Hp} {v : Int} (h8 : nOf h0 = 148) (n : Nat) (x1 : Int) (h : Hp) {r : Hp} (H : LX12_copiesProgram_229 n x1 h = some r) (hG : gW h' r) : PAt l false (mi 107).1 h0 v h' 229 [(0, 16, 113), (1, 0, x1)] [] h :=
  sBX12_copiesProgram_229 h8 n n x1 h H hG
theorem sJX12_copiesProgram_191 {l : Launch} {h0 h' : Hp} {v : Int} (h8 : nOf h0 = 148) (n : Nat)  (h : Hp) {r : Hp} (H : JX12_copiesProgram_191 n h = some r) (hG : gW h' r) : PAt l false (mi 107).1 h0 v h' 191 [(0, 16, 113)] [] h :=
  pat_w ok_sdX12_copiesProgram rkX12_copiesProgram h8 (foX12_copiesProgram n) (fun v1 h1 q => by
    cases q
    exact ⟨hG, fun q9 => absurd rfl q9⟩) (List.forall_mem_cons.mpr ⟨(fun a c h H => by
      dsimp only at H
      split at H
      · exact sLX12_copiesProgram_229 h8 n _ _ H hG
      · cases H), (fun q9 h9 => by cases h9)⟩) ((eJX12_copiesProgram_191 n h).symm.trans H)
theorem sLX12_copiesProgram_91 {l : Launch} {h0 h' : Hp} {v : Int} (h8 : nOf h0 = 148) (n : Nat) (x1 : Int) (h : Hp) {r : Hp} (H : LX12_copiesProgram_91 n x1 h = some r) (hG : gW h' r) : PAt l false (mi 107).1 h0 v h' 91 [(0, 16, 113), (1, 0, x1)] [] h := by
  obtain ⟨h1, h2, h3⟩ := bndx_some H
  exact sBX12_copiesProgram_91 h8 n n x1 h h2 (sJX12_copiesProgram_191 h8 n h1 h3 hG)
theorem sJX12_copiesProgram_82 {l : Launch} {h0 h' : Hp} {v : Int} (h8 : nOf h0 = 148) (n : Nat)  (h : Hp) {r : Hp} (H : JX12_copiesProgram_82 n h = some r) (hG : gW h' r) : PAt l false (mi 107).1 h0 v h' 82 [(0, 16, 113)] [] h :=
  pat_w ok_sdX12_copiesProgram rkX12_copiesProgram h8 (foX12_copiesProgram n) (fun v1 h1 q => by
    cases q
    exact ⟨hG, fun q9 => absurd rfl q9⟩) (List.forall_mem_cons.mpr ⟨(fun a c h H => by
      dsimp only at H
      split at H
      · exact sLX12_copiesProgram_91 h8 n _ _ H hG
      · cases H), (fun q9 h9 => by cases h9)⟩) ((eJX12_copiesProgram_82 n h).symm.trans H)
theorem sLX12_copiesProgram_52 {l : Launch} {h0 h' : Hp} {v : Int} (h8 : nOf h0 = 148) (n : Nat) (x1 : Int) (h : Hp) {r : Hp} (H : LX12_copiesProgram_52 n x1 h = some r) (hG : gW h' r) : PAt l false (mi 107).1 h0 v h' 52 [(0, 16, 113), (1, 0, x1)] [] h := by
  obtain ⟨h1, h2, h3⟩ := bndx_some H
  exact sBX12_copiesProgram_52 h8 n n x1 h h2 (sJX12_copiesProgram_82 h8 n h1 h3 hG)
theorem sJX12_copiesProgram_26 {l : Launch} {h0 h' : Hp} {v : Int} (h8 : nOf h0 = 148) (n : Nat)  (h : Hp) {r : Hp} (H : JX12_copiesProgram_26 n h = some r) (hG : gW h' r) : PAt l false (mi 107).1 h0 v h' 26 [(0, 16, 113)] [] h :=
  pat_w ok_sdX12_copiesProgram rkX12_copiesProgram h8 (foX12_copiesProgram n) (fun v1 h1 q => by
    cases q
    exact ⟨hG, fun q9 => absurd rfl q9⟩) (List.forall_mem_cons.mpr ⟨(fun a c h H => by
      dsimp only at H
      split at H
      · exact sLX12_copiesProgram_52 h8 n _ _ H hG
      · cases H), (fun q9 h9 => by cases h9)⟩) ((eJX12_copiesProgram_26 n h).symm.trans H)
theorem sLX12_copiesProgram_2 {l : Launch} {h0 h' : Hp} {v : Int} (h8 : nOf h0 = 148) (n : Nat) (x1 : Int) (h : Hp) {r : Hp} (H : LX12_copiesProgram_2 n x1 h = some r) (hG : gW h' r) : PAt l false (mi 107).1 h0 v h' 2 [(0, 16, 113), (1, 0, x1)] [] h := by
  obtain ⟨h1, h2, h3⟩ := bndx_some H
  exact sBX12_copiesProgram_2 h8 n n x1 h h2 (sJX12_copiesProgram_26 h8 n h1 h3 hG)
theorem sMX12_copiesProgram {l : Launch} {h0 h' : Hp} {v : Int} (h8 : nOf h0 = 148) (n : Nat)  (h : Hp) {r : Hp} (H : MX12_copiesProgram n h = some r) (hG : gW h' r) : PAt l false (mi 107).1 h0 v h' 0 [(0, 16, 113)] [] h :=
  pat_w ok_sdX12_copiesProgram rkX12_copiesProgram h8 (foX12_copiesProgram n) (fun v1 h1 q => by
    cases q
    exact ⟨hG, fun q9 => absurd rfl q9⟩) (List.forall_mem_cons.mpr ⟨(fun a c h H => by
      dsimp only at H
      split at H
      · exact sLX12_copiesProgram_2 h8 n _ _ H hG
      · cases H), (fun q9 h9 => by cases h9)⟩) ((eMX12_copiesProgram n h).symm.trans H)
theorem sndX12_copiesProgram {ρ : Type} {l : Launch} (n : Nat) : SndF (ρ := ρ) l false (mi 107).1 (wX12_copiesProgram n) := by
    intro a h k r H ha ho hn hf
    have h8 := hf rfl
    obtain ⟨x0, rfl⟩ := len1 (show a.length = 1 from ha)
    have u0 := uq16 hn (ho (16, x0) (List.mem_cons_self))
    subst u0
    replace H : bndh (MX12_copiesProgram n h) (fun h2 => k 0 h2) = some r := H
    obtain ⟨h2, H1, H2⟩ := bndh_some H
    exact ⟨0, h2, H2, met_mk (mok_base okX12_copiesProgram).1 (by decide +kernel) (Nat.le_of_ble_eq_true rfl) ho (sMX12_copiesProgram h8 n  h H1 rfl), fun q => by cases q⟩
/-! X12_program -/
def sdX12_program : SD := [(0, [(0, .aload_n 0, 1, [], 0), (1, .iconst 0, 1, [], 0), (2, .putfield 190, 3, [12, 21, 0, 0, 0, 1343], 0), (5, .aload_n 0, 1, [], 0), (6, .iconst (-1), 1, [], 0), (7, .putfield 187, 3, [12, 22, 0, 0, 0, 1344], 0), (10, .aload_n 0, 1, [], 0), (11, .iconst 0, 1, [], 0), (12, .putfield 331, 3, [12, 32, 0, 0, 0, 1354], 0), (15, .aload_n 0, 1, [], 0), (16, .iconst 0, 1, [], 0), (17, .putfield 334, 3, [12, 33, 0, 0, 1, 1355], 0), (20, .aload_n 0, 1, [], 0), (21, .invokevirtual 117, 3, [0, 0, 1, 77, 1302, 16], 0)]),
  (24, [(24, .aload_n 0, 1, [], 0), (25, .invokevirtual 240, 3, [1, 1, 1, 78, 1535, 16], 0), (28, .ifCond .eq 18, 3, [], 0)]),
  (31, [(31, .aload_n 0, 1, [], 0), (32, .invokevirtual 244, 3, [1, 2, 1, 80, 1539, 16], 0), (35, .iconst (-1), 1, [], 0), (36, .if_icmp .eq 10, 3, [], 0)]),
  (39, [(39, .aload_n 0, 1, [], 0), (40, .invokevirtual 349, 3, [0, 3, 1, 105, 1547, 16], 0), (43, .goto (-19), 3, [], 0)]),
  (46, [(46, .aload_n 0, 1, [], 0), (47, .iconst 0, 1, [], 0), (48, .putfield 180, 3, [12, 20, 0, 0, 0, 1342], 0), (51, .aload_n 0, 1, [], 0), (52, .invokevirtual 240, 3, [1, 1, 1, 78, 1535, 16], 0), (55, .ifCond .ne 11, 3, [], 0)]),
  (58, [(58, .bipush (-2), 2, [], 0), (60, .aload_n 0, 1, [], 0), (61, .getfield 187, 3, [12, 22, 0, 0, 1344, 0], 0), (64, .isub, 1, [], 0), (65, .ireturn, 1, [], 0)]),
  (66, [(66, .aload_n 0, 1, [], 0), (67, .invokevirtual 120, 3, [0, 4, 1, 107, 1306, 16], 0), (70, .aload_n 0, 1, [], 0), (71, .getfield 140, 3, [12, 6, 0, 0, 1328, 0], 0), (74, .ireturn, 1, [], 0)])]
def BX12_program_24 (n : Nat) : Nat → Hp → Option (Hp)
  | 0, _ => none
  | f + 1, h =>
    (bndp (MX12_isRight h) fun r1 =>
    (if r1 = 0 then
    (some (h))
    else
    (bnd (MX12_next n h) fun r2 h1 =>
    (if r2 = (-1) then
    (some (h1))
    else
    (bndh (MX12_readsLine n h1) fun h2 =>
    (BX12_program_24 n f h2))))))
def JX12_program_46 (n : Nat) (h : Hp) : Option (Int × Hp) :=
(ltt (up h 113 20 0) fun h1 =>
(bndp (MX12_isRight h1) fun r1 =>
(if r1 ≠ 0 then
(bndh (MX12_copiesProgram n h1) fun h2 =>
(some ((h2 113 6), h2)))
else
(some ((w32 ((-2) - (h1 113 22))), h1)))))
def LX12_program_24 (n : Nat) (h : Hp) : Option (Int × Hp) :=
(bndx (BX12_program_24 n n h) fun h1 =>
(JX12_program_46 n h1))
def MX12_program (n : Nat) (h : Hp) : Option (Int × Hp) :=
(ltt (up h 113 21 0) fun h1 =>
(ltt (up h1 113 22 (-1)) fun h2 =>
(ltt (up h2 113 32 0) fun h3 =>
(ltt (up h3 113 33 0) fun h4 =>
(bndh (MX12_laysSettings n h4) fun h5 =>
(LX12_program_24 n h5))))))
def wX12_program {ρ : Type} (n : Nat) : FN ρ := fun a h k => match a with
  | [_] => bnd (MX12_program n h) (fun r h2 => k r h2)
  | _ => none
def fsX12_program (n : Nat) (ρ : Type) : List (FN ρ) := [wX12_laysSettings n, wX12_isRight, wX12_next n, wX12_readsLine n, wX12_copiesProgram n]
def KBX12_program_24 (_ : Nat) (bk : Hp → Option (Hp)) : CT (Hp) := [(24, [(0, 16, (some 113))], [], fun a c h => match a, c with
    | [], [] => bk h
    | _, _ => none),
  (46, [(0, 16, (some 113))], [], fun a c h => match a, c with
    | [], [] => some (h)
    | _, _ => none)]
set_option maxRecDepth 100000 in
theorem eBX12_program_24 (n f : Nat) (h : Hp) : BX12_program_24 n (f + 1) h =
  goAt false (kct (KBX12_program_24 n (BX12_program_24 n f))) (fun _ _ => none) (fsX12_program n _) sdX12_program 1000 24 [(0, 16, 113)] [] h := rfl
def KJX12_program_46 (_ : Nat) : CT (Int × Hp) := []
set_option maxRecDepth 100000 in
theorem eJX12_program_46 (n : Nat) (h : Hp) : JX12_program_46 n h =
  goAt false (kct (KJX12_program_46 n)) (fun v h => some ((v, h))) (fsX12_program n _) sdX12_program 1000 46 [(0, 16, 113)] [] h := rfl
def KMX12_program (n : Nat) : CT (Int × Hp) := [(24, [(0, 16, (some 113))], [], fun a c h => match a, c with
    | [], [] => LX12_program_24 n h
    | _, _ => none)]
set_option maxRecDepth 100000 in
theorem eMX12_program (n : Nat) (h : Hp) : MX12_program n h =
  goAt false (kct (KMX12_program n)) (fun v h => some ((v, h))) (fsX12_program n _) sdX12_program 1000 0 [(0, 16, 113)] [] h := rfl
theorem okX12_program : mokb (mi 108) = true := by decide +kernel
theorem rkX12_program : rkOK 1 (mi 108).1.2.2.2.2.2.2.1 (mi 108).1.2.2.2.1 := Or.inr (Or.inl ⟨rfl, rfl, rfl⟩)
def calX12_program : List Nat := [77, 78, 80, 105, 107]
theorem foX12_program {l : Launch} {ρ : Type} (n : Nat) : fsOK l false mi calX12_program (fsX12_program n ρ) := ⟨(sndX12_laysSettings n), ⟨sndX12_isRight, ⟨(sndX12_next n), ⟨(sndX12_readsLine n), ⟨(sndX12_copiesProgram n), trivial⟩⟩⟩⟩⟩
theorem ok_sdX12_program : sdb (mi 108).1.2.1 (insOK mi (mi 108).1.1.cls (mi 108).1.2.2.1 (mi 108).1.2.2.2.2.1 (mi 108).1.2.2.2.2.2.1 calX12_program false 1) sdX12_program = true := by decide +kernel
def GX12_program_24 (l : Launch) (h0 : Hp) (h' : Hp) (v : Int) (_ : Hp) : (Hp) → Prop
  | h1 => PAt l false (mi 108).1 h0 v h' 46 [(0, 16, 113)] [] h1
theorem sBX12_program_24 {l : Launch} {h0 h' : Hp} {v : Int} (h8 : nOf h0 = 148) (n : Nat) : ∀ (f : Nat)  (h : Hp) {r : Hp}, BX12_program_24 n f h = some r → GX12_program_24 l h0 h' v h r → PAt l false (mi 108).1 h0 v h' 24 [(0, 16, 113)] [] h := by
  intro f
  induction f with
  | zero =>
    intro h r H _
    have H2 : (none : Option (Hp)) = some r := H
    cases H2
  | succ f ih =>
    intro h r H hG
    exact pat_w ok_sdX12_program rkX12_program h8 (foX12_program n) (fun v1 h1 q => by cases q) (List.forall_mem_cons.mpr ⟨(fun a c h H => by
      dsimp only at H
      split at H
      · exact ih _ H hG
      · cases H), (List.forall_mem_cons.mpr ⟨(fun a c h H => by
      dsimp only at H
      split at H
      · cases H
        exact hG
      · cases H), (fun q9 h9 => by cases h9)⟩)⟩) ((eBX12_program_24 n f  h).symm.trans H)
theorem sJX12_program_46 {l : Launch} {h0 h' : Hp} {v : Int} (h8 : nOf h0 = 148) (n : Nat)  (h : Hp) {r : Int × Hp} (H : JX12_program_46 n h = some r) (hG : gWV v h' r) : PAt l false (mi 108).1 h0 v h' 46 [(0, 16, 113)] [] h :=
  pat_w ok_sdX12_program rkX12_program h8 (foX12_program n) (fun v1 h1 q => by
    cases q
    exact ⟨hG.1, fun _ => hG.2⟩) (fun q9 h9 => by cases h9) ((eJX12_program_46 n h).symm.trans H)
theorem sLX12_program_24 {l : Launch} {h0 h' : Hp} {v : Int} (h8 : nOf h0 = 148) (n : Nat)  (h : Hp) {r : Int × Hp} (H : LX12_program_24 n h = some r) (hG : gWV v h' r) : PAt l false (mi 108).1 h0 v h' 24 [(0, 16, 113)] [] h := by
  obtain ⟨h1, h2, h3⟩ := bndx_some H
  exact sBX12_program_24 h8 n n h h2 (sJX12_program_46 h8 n h1 h3 hG)
theorem sMX12_program {l : Launch} {h0 h' : Hp} {v : Int} (h8 : nOf h0 = 148) (n : Nat)  (h : Hp) {r : Int × Hp} (H : MX12_program n h = some r) (hG : gWV v h' r) : PAt l false (mi 108).1 h0 v h' 0 [(0, 16, 113)] [] h :=
  pat_w ok_sdX12_program rkX12_program h8 (foX12_program n) (fun v1 h1 q => by
    cases q
    exact ⟨hG.1, fun _ => hG.2⟩) (List.forall_mem_cons.mpr ⟨(fun a c h H => by
      dsimp only at H
      split at H
      · exact sLX12_program_24 h8 n _ H hG
      · cases H), (fun q9 h9 => by cases h9)⟩) ((eMX12_program n h).symm.trans H)
theorem sndX12_program {ρ : Type} {l : Launch} (n : Nat) : SndF (ρ := ρ) l false (mi 108).1 (wX12_program n) := by
    intro a h k r H ha ho hn hf
    have h8 := hf rfl
    obtain ⟨x0, rfl⟩ := len1 (show a.length = 1 from ha)
    have u0 := uq16 hn (ho (16, x0) (List.mem_cons_self))
    subst u0
    replace H : bnd (MX12_program n h) (fun r h2 => k r h2) = some r := H
    obtain ⟨v2, h2, H1, H2⟩ := bnd_some H
    exact ⟨v2, h2, H2, met_mk (mok_base okX12_program).1 (by decide +kernel) (Nat.le_of_ble_eq_true rfl) ho (sMX12_program h8 n  h H1 ⟨rfl, rfl⟩), fun q => by cases q⟩
/-! X4_speedOver -/
def sdX4_speedOver : SD := [(0, [(0, .iload_n 2, 1, [], 0), (1, .i2l, 1, [], 0), (2, .invokestatic 109, 3, [2, 0, 4, 32, 993, 1], 0), (5, .ldc2_w 76, 3, [1, 594], 2), (8, .aload_n 0, 1, [], 0), (9, .getfield 34, 3, [4, 0, 14, 0, 430, 0], 0), (12, .getfield 43, 3, [10, 6, 532, 1, 186, 0], 10), (15, .iload_n 1, 1, [], 0), (16, .iaload, 1, [], 0), (17, .i2l, 1, [], 0), (18, .lmul, 1, [], 0), (19, .aload_n 0, 1, [], 0), (20, .getfield 34, 3, [4, 0, 14, 0, 430, 0], 0), (23, .getfield 69, 3, [10, 2, 532, 1, 173, 0], 6), (26, .iload_n 1, 1, [], 0), (27, .iaload, 1, [], 0), (28, .i2l, 1, [], 0), (29, .lmul, 1, [], 0), (30, .ladd, 1, [], 0), (31, .invokestatic 78, 3, [1, 1, 4, 33, 595, 1], 0), (34, .ireturn, 1, [], 0)])]
def MX4_speedOver (n : Nat) (x0 x1 x2 : Int) (h : Hp) : Option (Int) :=
(bndp (MX11_square x2) fun r1 =>
(grd (0 ≤ x1 ∧ x1 < alen 532)
(grd (0 ≤ x1 ∧ x1 < alen 532)
(bndp (MX11_root n (w64 (r1 + (w64 ((w64 (2 * (h ((h x0 0) + 10) x1))) * (h ((h x0 0) + 6) x1)))))) fun r2 =>
(some r2)))))
def wX4_speedOver {ρ : Type} (n : Nat) : FN ρ := fun a h k => match a with
  | [x0, x1, x2] => bndp (MX4_speedOver n x0 x1 x2 h) (fun r => k r h)
  | _ => none
def fsX4_speedOver (n : Nat) (ρ : Type) : List (FN ρ) := [wX11_square, wX11_root n]
def KMX4_speedOver (_ : Nat) : CT (Int) := []
set_option maxRecDepth 100000 in
theorem eMX4_speedOver (n : Nat) (x0 : Int) (x1 : Int) (x2 : Int) (h : Hp) : MX4_speedOver n x0 x1 x2 h =
  goAt false (kct (KMX4_speedOver n)) (fun v _ => some (v)) (fsX4_speedOver n _) sdX4_speedOver 1000 0 [(0, 8, x0), (1, 0, x1), (2, 0, x2)] [] h := rfl
theorem okX4_speedOver : mokb (mi 109) = true := by decide +kernel
theorem rkX4_speedOver : rkOK 1 (mi 109).1.2.2.2.2.2.2.1 (mi 109).1.2.2.2.1 := Or.inr (Or.inl ⟨rfl, rfl, rfl⟩)
def calX4_speedOver : List Nat := [32, 33]
theorem foX4_speedOver {l : Launch} {ρ : Type} (n : Nat) : fsOK l false mi calX4_speedOver (fsX4_speedOver n ρ) := ⟨sndX11_square, ⟨(sndX11_root n), trivial⟩⟩
theorem frX4_speedOver {ρ : Type} (n : Nat) : ∀ fn ∈ fsX4_speedOver n ρ, RoF fn := (List.forall_mem_cons.mpr ⟨roX11_square, (List.forall_mem_cons.mpr ⟨(roX11_root n), (fun q9 h9 => by cases h9)⟩)⟩)
theorem ok_sdX4_speedOver : sdb (mi 109).1.2.1 (insOK mi (mi 109).1.1.cls (mi 109).1.2.2.1 (mi 109).1.2.2.2.2.1 (mi 109).1.2.2.2.2.2.1 calX4_speedOver false 1) sdX4_speedOver = true := by decide +kernel
theorem sMX4_speedOver {l : Launch} {h0 : Hp} {v : Int} (h8 : nOf h0 = 148) (n : Nat) (x0 : Int) (x1 : Int) (x2 : Int) (h : Hp) {r : Int} (H : MX4_speedOver n x0 x1 x2 h = some r) (hG : gV v r) : PAt l false (mi 109).1 h0 v h 0 [(0, 8, x0), (1, 0, x1), (2, 0, x2)] [] h :=
  pat_ro ok_sdX4_speedOver rfl rkX4_speedOver h8 (foX4_speedOver n) (frX4_speedOver n) (fun v1 q => by
    cases q
    exact ⟨rfl, fun _ => hG⟩) (fun q9 h9 => by cases h9) ((eMX4_speedOver n x0 x1 x2 h).symm.trans H)
theorem sndX4_speedOver {ρ : Type} {l : Launch} (n : Nat) : SndF (ρ := ρ) l false (mi 109).1 (wX4_speedOver n) := by
    intro a h k r H ha ho hn hf
    have h8 := hf rfl
    obtain ⟨x0, x1, x2, rfl⟩ := len3 (show a.length = 3 from ha)
    replace H : bndp (MX4_speedOver n x0 x1 x2 h) (fun r => k r h) = some r := H
    obtain ⟨v2, H1, H2⟩ := bndp_some H
    exact ⟨v2, h, H2, met_mk (mok_base okX4_speedOver).1 (by decide +kernel) (Nat.le_of_ble_eq_true rfl) ho (sMX4_speedOver h8 n x0 x1 x2 h H1 rfl), fun q => by cases q⟩
theorem roX4_speedOver {ρ : Type} (n : Nat) : RoF (wX4_speedOver n : FN ρ) := fun a h k k2 hk => by
  unfold wX4_speedOver
  split
  · exact bndp_ro hk
  · rfl
/-! X4_passInto -/
def sdX4_passInto : SD := [(0, [(0, .aload_n 0, 1, [], 0), (1, .getfield 34, 3, [4, 0, 14, 0, 430, 0], 0), (4, .getfield 38, 3, [10, 11, 0, 0, 201, 0], 0), (7, .istore_n 2, 1, [], 0), (8, .aload_n 0, 1, [], 0), (9, .getfield 31, 3, [4, 7, 540, 1, 446, 0], 4), (12, .iconst 0, 1, [], 0), (13, .iconst 0, 1, [], 0), (14, .iastore, 1, [], 0), (15, .aload_n 0, 1, [], 0), (16, .getfield 31, 3, [4, 7, 540, 1, 446, 0], 4), (19, .iload_n 2, 1, [], 0), (20, .iconst 0, 1, [], 0), (21, .iastore, 1, [], 0), (22, .iconst 1, 1, [], 0), (23, .istore_n 3, 1, [], 0)]),
  (24, [(24, .iload_n 3, 1, [], 0), (25, .iload_n 2, 1, [], 0), (26, .if_icmp .ge 28, 3, [], 0)]),
  (29, [(29, .aload_n 0, 1, [], 0), (30, .getfield 31, 3, [4, 7, 540, 1, 446, 0], 4), (33, .iload_n 3, 1, [], 0), (34, .aload_n 0, 1, [], 0), (35, .getfield 28, 3, [4, 6, 532, 1, 443, 0], 3), (38, .iload_n 3, 1, [], 0), (39, .iconst 1, 1, [], 0), (40, .isub, 1, [], 0), (41, .iaload, 1, [], 0), (42, .aload_n 0, 1, [], 0), (43, .getfield 9, 3, [4, 1, 0, 0, 432, 0], 0), (46, .imul, 1, [], 0), (47, .iastore, 1, [], 0), (48, .iinc 3 1, 3, [], 0), (51, .goto (-27), 3, [], 0)]),
  (54, [(54, .iload_n 2, 1, [], 0), (55, .iconst 1, 1, [], 0), (56, .isub, 1, [], 0), (57, .istore_n 3, 1, [], 0)]),
  (58, [(58, .iload_n 3, 1, [], 0), (59, .ifCond .le 37, 3, [], 0)]),
  (62, [(62, .aload_n 0, 1, [], 0), (63, .getfield 31, 3, [4, 7, 540, 1, 446, 0], 4), (66, .iload_n 3, 1, [], 0), (67, .aload_n 0, 1, [], 0), (68, .getfield 31, 3, [4, 7, 540, 1, 446, 0], 4), (71, .iload_n 3, 1, [], 0), (72, .iaload, 1, [], 0), (73, .aload_n 0, 1, [], 0), (74, .iload_n 3, 1, [], 0), (75, .aload_n 0, 1, [], 0), (76, .getfield 31, 3, [4, 7, 540, 1, 446, 0], 4), (79, .iload_n 3, 1, [], 0), (80, .iconst 1, 1, [], 0), (81, .iadd, 1, [], 0), (82, .iaload, 1, [], 0), (83, .invokevirtual 102, 3, [1, 0, 1, 109, 989, 0, 0, 8], 0), (86, .invokestatic 56, 3, [1, 1, 3, 261, 581, 0, 0], 0), (89, .iastore, 1, [], 0), (90, .iinc 3 (-1), 3, [], 0), (93, .goto (-35), 3, [], 0)]),
  (96, [(96, .iconst 0, 1, [], 0), (97, .istore_n 3, 1, [], 0)]),
  (98, [(98, .iload_n 3, 1, [], 0), (99, .iload_n 2, 1, [], 0), (100, .if_icmp .ge 39, 3, [], 0)]),
  (103, [(103, .aload_n 0, 1, [], 0), (104, .getfield 31, 3, [4, 7, 540, 1, 446, 0], 4), (107, .iload_n 3, 1, [], 0), (108, .iconst 1, 1, [], 0), (109, .iadd, 1, [], 0), (110, .aload_n 0, 1, [], 0), (111, .getfield 31, 3, [4, 7, 540, 1, 446, 0], 4), (114, .iload_n 3, 1, [], 0), (115, .iconst 1, 1, [], 0), (116, .iadd, 1, [], 0), (117, .iaload, 1, [], 0), (118, .aload_n 0, 1, [], 0), (119, .iload_n 3, 1, [], 0), (120, .aload_n 0, 1, [], 0), (121, .getfield 31, 3, [4, 7, 540, 1, 446, 0], 4), (124, .iload_n 3, 1, [], 0), (125, .iaload, 1, [], 0), (126, .invokevirtual 102, 3, [1, 0, 1, 109, 989, 0, 0, 8], 0), (129, .invokestatic 56, 3, [1, 1, 3, 261, 581, 0, 0], 0), (132, .iastore, 1, [], 0), (133, .iinc 3 1, 3, [], 0), (136, .goto (-38), 3, [], 0)]),
  (139, [(139, .aload_n 0, 1, [], 0), (140, .getfield 34, 3, [4, 0, 14, 0, 430, 0], 0), (143, .iload_n 1, 1, [], 0), (144, .invokevirtual 105, 3, [1, 2, 1, 43, 994, 0, 14], 0), (147, .ifCond .eq 12, 3, [], 0)]),
  (150, [(150, .aload_n 0, 1, [], 0), (151, .getfield 31, 3, [4, 7, 540, 1, 446, 0], 4), (154, .iload_n 1, 1, [], 0), (155, .iaload, 1, [], 0), (156, .goto 4, 3, [], 0)]),
  (159, [(159, .iconst (-1), 1, [], 0)]),
  (160, [(160, .ireturn, 1, [], 0)])]
def BX4_passInto_24 (n : Nat) : Nat → Int → Int → Int → Int → Hp → Option (Int × Int × Int × Hp)
  | 0, _, _, _, _, _ => none
  | f + 1, x0, x1, x2, x3, h =>
    (if x2 ≤ x3 then
    (some (x0, x1, x2, h))
    else
    (grd (0 ≤ (w32 (x3 - 1)) ∧ (w32 (x3 - 1)) < alen 532)
    (grd (0 ≤ x3 ∧ x3 < alen 540)
    (ltt (up h (x0 + 4) x3 (w32 ((h (x0 + 3) (w32 (x3 - 1))) * (h x0 1)))) fun h1 =>
    (ltt (w32 (x3 + 1)) fun y1 =>
    (BX4_passInto_24 n f x0 x1 x2 y1 h1))))))
def BX4_passInto_58 (n : Nat) : Nat → Int → Int → Int → Int → Hp → Option (Int × Int × Int × Hp)
  | 0, _, _, _, _, _ => none
  | f + 1, x0, x1, x2, x3, h =>
    (if x3 ≤ 0 then
    (some (x0, x1, x2, h))
    else
    (grd (0 ≤ x3 ∧ x3 < alen 540)
    (grd (0 ≤ (w32 (x3 + 1)) ∧ (w32 (x3 + 1)) < alen 540)
    (bndp (MX4_speedOver n x0 x3 (h (x0 + 4) (w32 (x3 + 1))) h) fun r1 =>
    (grd (0 ≤ x3 ∧ x3 < alen 540)
    (ltt (up h (x0 + 4) x3 (min (h (x0 + 4) x3) r1)) fun h1 =>
    (ltt (w32 (x3 + (-1))) fun y1 =>
    (BX4_passInto_58 n f x0 x1 x2 y1 h1))))))))
def BX4_passInto_98 (n : Nat) : Nat → Int → Int → Int → Int → Hp → Option (Int × Int × Hp)
  | 0, _, _, _, _, _ => none
  | f + 1, x0, x1, x2, x3, h =>
    (if x2 ≤ x3 then
    (some (x0, x1, h))
    else
    (grd (0 ≤ (w32 (x3 + 1)) ∧ (w32 (x3 + 1)) < alen 540)
    (grd (0 ≤ x3 ∧ x3 < alen 540)
    (bndp (MX4_speedOver n x0 x3 (h (x0 + 4) x3) h) fun r1 =>
    (grd (0 ≤ (w32 (x3 + 1)) ∧ (w32 (x3 + 1)) < alen 540)
    (ltt (up h (x0 + 4) (w32 (x3 + 1)) (min (h (x0 + 4) (w32 (x3 + 1))) r1)) fun h1 =>
    (ltt (w32 (x3 + 1)) fun y1 =>
    (BX4_passInto_98 n f x0 x1 x2 y1 h1))))))))
def JX4_passInto_139 (n : Nat) (x0 x1 : Int) (h : Hp) : Option (Int × Hp) :=
(bndp (MX10_has (h x0 0) x1 h) fun r1 =>
(if r1 = 0 then
(some ((-1), h))
else
(grd (0 ≤ x1 ∧ x1 < alen 540)
(some ((h (x0 + 4) x1), h)))))
def LX4_passInto_98 (n : Nat) (x0 x1 x2 x3 : Int) (h : Hp) : Option (Int × Hp) :=
(bndx (BX4_passInto_98 n n x0 x1 x2 x3 h) fun (e0, e1, h1) =>
(JX4_passInto_139 n e0 e1 h1))
def JX4_passInto_96 (n : Nat) (x0 x1 x2 : Int) (h : Hp) : Option (Int × Hp) :=
(ltt 0 fun y1 =>
(LX4_passInto_98 n x0 x1 x2 y1 h))
def LX4_passInto_58 (n : Nat) (x0 x1 x2 x3 : Int) (h : Hp) : Option (Int × Hp) :=
(bndx (BX4_passInto_58 n n x0 x1 x2 x3 h) fun (e0, e1, e2, h1) =>
(JX4_passInto_96 n e0 e1 e2 h1))
def JX4_passInto_54 (n : Nat) (x0 x1 x2 : Int) (h : Hp) : Option (Int × Hp) :=
(ltt (w32 (x2 - 1)) fun y1 =>
(LX4_passInto_58 n x0 x1 x2 y1 h))
def LX4_passInto_24 (n : Nat) (x0 x1 x2 x3 : Int) (h : Hp) : Option (Int × Hp) :=
(bndx (BX4_passInto_24 n n x0 x1 x2 x3 h) fun (e0, e1, e2, h1) =>
(JX4_passInto_54 n e0 e1 e2 h1))
def MX4_passInto (n : Nat) (x0 x1 : Int) (h : Hp) : Option (Int × Hp) :=
(ltt (h (h x0 0) 11) fun y1 =>
(grd (0 ≤ 0 ∧ 0 < alen 540)
(ltt (up h (x0 + 4) 0 0) fun h1 =>
(grd (0 ≤ y1 ∧ y1 < alen 540)
(ltt (up h1 (x0 + 4) y1 0) fun h2 =>
(ltt 1 fun y2 =>
(LX4_passInto_24 n x0 x1 y1 y2 h2)))))))
def wX4_passInto {ρ : Type} (n : Nat) : FN ρ := fun a h k => match a with
  | [x0, x1] => bnd (MX4_passInto n x0 x1 h) (fun r h2 => k r h2)
  | _ => none
def fsX4_passInto (n : Nat) (ρ : Type) : List (FN ρ) := [wX4_speedOver n, fmin, wX10_has]
def KBX4_passInto_24 (_ : Nat) (bk : Int → Int → Int → Int → Hp → Option (Int × Int × Int × Hp)) : CT (Int × Int × Int × Hp) := [(24, [(0, 8, none), (1, 0, none), (2, 0, none), (3, 0, none)], [], fun a c h => match a, c with
    | [x0, x1, x2, x3], [] => bk x0 x1 x2 x3 h
    | _, _ => none),
  (54, [(0, 8, none), (1, 0, none), (2, 0, none)], [], fun a c h => match a, c with
    | [x0, x1, x2], [] => some (x0, x1, x2, h)
    | _, _ => none)]
set_option maxRecDepth 100000 in
theorem eBX4_passInto_24 (n f : Nat) (x0 : Int) (x1 : Int) (x2 : Int) (x3 : Int) (h : Hp) : BX4_passInto_24 n (f + 1) x0 x1 x2 x3 h =
  goAt false (kct (KBX4_passInto_24 n (BX4_passInto_24 n f))) (fun _ _ => none) (fsX4_passInto n _) sdX4_passInto 1000 24 [(0, 8, x0), (1, 0, x1), (2, 0, x2), (3, 0, x3)] [] h := rfl
def KBX4_passInto_58 (_ : Nat) (bk : Int → Int → Int → Int → Hp → Option (Int × Int × Int × Hp)) : CT (Int × Int × Int × Hp) := [(58, [(0, 8, none), (1, 0, none), (2, 0, none), (3, 0, none)], [], fun a c h => match a, c with
    | [x0, x1, x2, x3], [] => bk x0 x1 x2 x3 h
    | _, _ => none),
  (96, [(0, 8, none), (1, 0, none), (2, 0, none)], [], fun a c h => match a, c with
    | [x0, x1, x2], [] => some (x0, x1, x2, h)
    | _, _ => none)]
set_option maxRecDepth 100000 in
theorem eBX4_passInto_58 (n f : Nat) (x0 : Int) (x1 : Int) (x2 : Int) (x3 : Int) (h : Hp) : BX4_passInto_58 n (f + 1) x0 x1 x2 x3 h =
  goAt false (kct (KBX4_passInto_58 n (BX4_passInto_58 n f))) (fun _ _ => none) (fsX4_passInto n _) sdX4_passInto 1000 58 [(0, 8, x0), (1, 0, x1), (2, 0, x2), (3, 0, x3)] [] h := rfl
def KBX4_passInto_98 (_ : Nat) (bk : Int → Int → Int → Int → Hp → Option (Int × Int × Hp)) : CT (Int × Int × Hp) := [(98, [(0, 8, none), (1, 0, none), (2, 0, none), (3, 0, none)], [], fun a c h => match a, c with
    | [x0, x1, x2, x3], [] => bk x0 x1 x2 x3 h
    | _, _ => none),
  (139, [(0, 8, none), (1, 0, none)], [], fun a c h => match a, c with
    | [x0, x1], [] => some (x0, x1, h)
    | _, _ => none)]
set_option maxRecDepth 100000 in
theorem eBX4_passInto_98 (n f : Nat) (x0 : Int) (x1 : Int) (x2 : Int) (x3 : Int) (h : Hp) : BX4_passInto_98 n (f + 1) x0 x1 x2 x3 h =
  goAt false (kct (KBX4_passInto_98 n (BX4_passInto_98 n f))) (fun _ _ => none) (fsX4_passInto n _) sdX4_passInto 1000 98 [(0, 8, x0), (1, 0, x1), (2, 0, x2), (3, 0, x3)] [] h := rfl
def KJX4_passInto_139 (_ : Nat) : CT (Int × Hp) := []
set_option maxRecDepth 100000 in
theorem eJX4_passInto_139 (n : Nat) (x0 : Int) (x1 : Int) (h : Hp) : JX4_passInto_139 n x0 x1 h =
  goAt false (kct (KJX4_passInto_139 n)) (fun v h => some ((v, h))) (fsX4_passInto n _) sdX4_passInto 1000 139 [(0, 8, x0), (1, 0, x1)] [] h := rfl
def KJX4_passInto_96 (n : Nat) : CT (Int × Hp) := [(98, [(0, 8, none), (1, 0, none), (2, 0, none), (3, 0, none)], [], fun a c h => match a, c with
    | [x0, x1, x2, x3], [] => LX4_passInto_98 n x0 x1 x2 x3 h
    | _, _ => none)]
set_option maxRecDepth 100000 in
theorem eJX4_passInto_96 (n : Nat) (x0 : Int) (x1 : Int) (x2 : Int) (h : Hp) : JX4_passInto_96 n x0 x1 x2 h =
  goAt false (kct (KJX4_passInto_96 n)) (fun v h => some ((v, h))) (fsX4_passInto n _) sdX4_passInto 1000 96 [(0, 8, x0), (1, 0, x1), (2, 0, x2)] [] h := rfl
def KJX4_passInto_54 (n : Nat) : CT (Int × Hp) := [(58, [(0, 8, none), (1, 0, none), (2, 0, none), (3, 0, none)], [], fun a c h => match a, c with
    | [x0, x1, x2, x3], [] => LX4_passInto_58 n x0 x1 x2 x3 h
    | _, _ => none)]
set_option maxRecDepth 100000 in
theorem eJX4_passInto_54 (n : Nat) (x0 : Int) (x1 : Int) (x2 : Int) (h : Hp) : JX4_passInto_54 n x0 x1 x2 h =
  goAt false (kct (KJX4_passInto_54 n)) (fun v h => some ((v, h))) (fsX4_passInto n _) sdX4_passInto 1000 54 [(0, 8, x0), (1, 0, x1), (2, 0, x2)] [] h := rfl
def KMX4_passInto (n : Nat) : CT (Int × Hp) := [(24, [(0, 8, none), (1, 0, none), (2, 0, none), (3, 0, none)], [], fun a c h => match a, c with
    | [x0, x1, x2, x3], [] => LX4_passInto_24 n x0 x1 x2 x3 h
    | _, _ => none)]
set_option maxRecDepth 100000 in
theorem eMX4_passInto (n : Nat) (x0 : Int) (x1 : Int) (h : Hp) : MX4_passInto n x0 x1 h =
  goAt false (kct (KMX4_passInto n)) (fun v h => some ((v, h))) (fsX4_passInto n _) sdX4_passInto 1000 0 [(0, 8, x0), (1, 0, x1)] [] h := rfl
theorem okX4_passInto : mokb (mi 110) = true := by decide +kernel
theorem rkX4_passInto : rkOK 1 (mi 110).1.2.2.2.2.2.2.1 (mi 110).1.2.2.2.1 := Or.inr (Or.inl ⟨rfl, rfl, rfl⟩)
def calX4_passInto : List Nat := [109, 261, 43]
theorem foX4_passInto {l : Launch} {ρ : Type} (n : Nat) : fsOK l false mi calX4_passInto (fsX4_passInto n ρ) := ⟨(sndX4_speedOver n), ⟨snd_mmin, ⟨sndX10_has, trivial⟩⟩⟩
theorem ok_sdX4_passInto : sdb (mi 110).1.2.1 (insOK mi (mi 110).1.1.cls (mi 110).1.2.2.1 (mi 110).1.2.2.2.2.1 (mi 110).1.2.2.2.2.2.1 calX4_passInto false 1) sdX4_passInto = true := by decide +kernel
def GX4_passInto_98 (l : Launch) (h0 : Hp) (h' : Hp) (v : Int) (_ : Hp) : (Int × Int × Hp) → Prop
  | (e0, e1, h1) => PAt l false (mi 110).1 h0 v h' 139 [(0, 8, e0), (1, 0, e1)] [] h1
def GX4_passInto_24 (l : Launch) (h0 : Hp) (h' : Hp) (v : Int) (_ : Hp) : (Int × Int × Int × Hp) → Prop
  | (e0, e1, e2, h1) => PAt l false (mi 110).1 h0 v h' 54 [(0, 8, e0), (1, 0, e1), (2, 0, e2)] [] h1
def GX4_passInto_58 (l : Launch) (h0 : Hp) (h' : Hp) (v : Int) (_ : Hp) : (Int × Int × Int × Hp) → Prop
  | (e0, e1, e2, h1) => PAt l false (mi 110).1 h0 v h' 96 [(0, 8, e0), (1, 0, e1), (2, 0, e2)] [] h1
theorem sBX4_passInto_24 {l : Launch} {h0 h' : Hp} {v : Int} (h8 : nOf h0 = 148) (n : Nat) : ∀ (f : Nat) (x0 : Int) (x1 : Int) (x2 : Int) (x3 : Int) (h : Hp) {r : Int × Int × Int × Hp}, BX4_passInto_24 n f x0 x1 x2 x3 h = some r → GX4_passInto_24 l h0 h' v h r → PAt l false (mi 110).1 h0 v h' 24 [(0, 8, x0), (1, 0, x1), (2, 0, x2), (3, 0, x3)] [] h := by
  intro f
  induction f with
  | zero =>
    intro x0 x1 x2 x3 h r H _
    have H2 : (none : Option (Int × Int × Int × Hp)) = some r := H
    cases H2
  | succ f ih =>
    intro x0 x1 x2 x3 h r H hG
    exact pat_w ok_sdX4_passInto rkX4_passInto h8 (foX4_passInto n) (fun v1 h1 q => by cases q) (List.forall_mem_cons.mpr ⟨(fun a c h H => by
      dsimp only at H
      split at H
      · exact ih _ _ _ _ _ H hG
      · cases H), (List.forall_mem_cons.mpr ⟨(fun a c h H => by
      dsimp only at H
      split at H
      · cases H
        exact hG
      · cases H), (fun q9 h9 => by cases h9)⟩)⟩) ((eBX4_passInto_24 n f x0 x1 x2 x3 h).symm.trans H)
theorem sBX4_passInto_58 {l : Launch} {h0 h' : Hp} {v : Int} (h8 : nOf h0 = 148) (n : Nat) : ∀ (f : Nat) (x0 : Int) (x1 : Int) (x2 : Int) (x3 : Int) (h : Hp) {r : Int × Int × Int × Hp}, BX4_passInto_58 n f x0 x1 x2 x3 h = some r → GX4_passInto_58 l h0 h' v h r → PAt l false (mi 110).1 h0 v h' 58 [(0, 8, x0), (1, 0, x1), (2, 0, x2), (3, 0, x3)] [] h := by
  intro f
  induction f with
  | zero =>
    intro x0 x1 x2 x3 h r H _
    have H2 : (none : Option (Int × Int × Int × Hp)) = some r := H
    cases H2
  | succ f ih =>
    intro x0 x1 x2 x3 h r H hG
    exact pat_w ok_sdX4_passInto rkX4_passInto h8 (foX4_passInto n) (fun v1 h1 q => by cases q) (List.forall_mem_cons.mpr ⟨(fun a c h H => by
      dsimp only at H
      split at H
      · exact ih _ _ _ _ _ H hG
      · cases H), (List.forall_mem_cons.mpr ⟨(fun a c h H => by
      dsimp only at H
      split at H
      · cases H
        exact hG
      · cases H), (fun q9 h9 => by cases h9)⟩)⟩) ((eBX4_passInto_58 n f x0 x1 x2 x3 h).symm.trans H)
theorem sBX4_passInto_98 {l : Launch} {h0 h' : Hp} {v : Int} (h8 : nOf h0 = 148) (n : Nat) : ∀ (f : Nat) (x0 : Int) (x1 : Int) (x2 : Int) (x3 : Int) (h : Hp) {r : Int × Int × Hp}, BX4_passInto_98 n f x0 x1 x2 x3 h = some r → GX4_passInto_98 l h0 h' v h r → PAt l false (mi 110).1 h0 v h' 98 [(0, 8, x0), (1, 0, x1), (2, 0, x2), (3, 0, x3)] [] h := by
  intro f
  induction f with
  | zero =>
    intro x0 x1 x2 x3 h r H _
    have H2 : (none : Option (Int × Int × Hp)) = some r := H
    cases H2
  | succ f ih =>
    intro x0 x1 x2 x3 h r H hG
    exact pat_w ok_sdX4_passInto rkX4_passInto h8 (foX4_passInto n) (fun v1 h1 q => by cases q) (List.forall_mem_cons.mpr ⟨(fun a c h H => by
      dsimp only at H
      split at H
      · exact ih _ _ _ _ _ H hG
      · cases H), (List.forall_mem_cons.mpr ⟨(fun a c h H => by
      dsimp only at H
      split at H
      · cases H
        exact hG
      · cases H), (fun q9 h9 => by cases h9)⟩)⟩) ((eBX4_passInto_98 n f x0 x1 x2 x3 h).symm.trans H)
theorem sJX4_passInto_139 {l : Launch} {h0 h' : Hp} {v : Int} (h8 : nOf h0 = 148) (n : Nat) (x0 : Int) (x1 : Int) (h : Hp) {r : Int × Hp} (H : JX4_passInto_139 n x0 x1 h = some r) (hG : gWV v h' r) : PAt l false (mi 110).1 h0 v h' 139 [(0, 8, x0), (1, 0, x1)] [] h :=
  pat_w ok_sdX4_passInto rkX4_passInto h8 (foX4_passInto n) (fun v1 h1 q => by
    cases q
    exact ⟨hG.1, fun _ => hG.2⟩) (fun q9 h9 => by cases h9) ((eJX4_passInto_139 n x0 x1 h).symm.trans H)
theorem sLX4_passInto_98 {l : Launch} {h0 h' : Hp} {v : Int} (h8 : nOf h0 = 148) (n : Nat) (x0 : Int) (x1 : Int) (x2 : Int) (x3 : Int) (h : Hp) {r : Int × Hp} (H : LX4_passInto_98 n x0 x1 x2 x3 h = some r) (hG : gWV v h' r) : PAt l false (mi 110).1 h0 v h' 98 [(0, 8, x0), (1, 0, x1), (2, 0, x2), (3, 0, x3)] [] h := by
  obtain ⟨e9, h2, h3⟩ := bndx_some H
  obtain ⟨e0, e1, h1⟩ := e9
  exact sBX4_passInto_98 h8 n n x0 x1 x2 x3 h h2 (sJX4_passInto_139 h8 n e0 e1 h1 h3 hG)
theorem sJX4_passInto_96 {l : Launch} {h0 h' : Hp} {v : Int} (h8 : nOf h0 = 148) (n : Nat) (x0 : Int) (x1 : Int) (x2 : Int) (h : Hp) {r : Int × Hp} (H : JX4_passInto_96 n x0 x1 x2 h = some r) (hG : gWV v h' r) : PAt l false (mi 110).1 h0 v h' 96 [(0, 8, x0), (1, 0, x1), (2, 0, x2)] [] h :=
  pat_w ok_sdX4_passInto rkX4_passInto h8 (foX4_passInto n) (fun v1 h1 q => by
    cases q
    exact ⟨hG.1, fun _ => hG.2⟩) (List.forall_mem_cons.mpr ⟨(fun a c h H => by
      dsimp only at H
      split at H
      · exact sLX4_passInto_98 h8 n _ _ _ _ _ H hG
      · cases H), (fun q9 h9 => by cases h9)⟩) ((eJX4_passInto_96 n x0 x1 x2 h).symm.trans H)
theorem sLX4_passInto_58 {l : Launch} {h0 h' : Hp} {v : Int} (h8 : nOf h0 = 148) (n : Nat) (x0 : Int) (x1 : Int) (x2 : Int) (x3 : Int) (h : Hp) {r : Int × Hp} (H : LX4_passInto_58 n x0 x1 x2 x3 h = some r) (hG : gWV v h' r) : PAt l false (mi 110).1 h0 v h' 58 [(0, 8, x0), (1, 0, x1), (2, 0, x2), (3, 0, x3)] [] h := by
  obtain ⟨e9, h2, h3⟩ := bndx_some H
  obtain ⟨e0, e1, e2, h1⟩ := e9
  exact sBX4_passInto_58 h8 n n x0 x1 x2 x3 h h2 (sJX4_passInto_96 h8 n e0 e1 e2 h1 h3 hG)
theorem sJX4_passInto_54 {l : Launch} {h0 h' : Hp} {v : Int} (h8 : nOf h0 = 148) (n : Nat) (x0 : Int) (x1 : Int) (x2 : Int) (h : Hp) {r : Int × Hp} (H : JX4_passInto_54 n x0 x1 x2 h = some r) (hG : gWV v h' r) : PAt l false (mi 110).1 h0 v h' 54 [(0, 8, x0), (1, 0, x1), (2, 0, x2)] [] h :=
  pat_w ok_sdX4_passInto rkX4_passInto h8 (foX4_passInto n) (fun v1 h1 q => by
    cases q
    exact ⟨hG.1, fun _ => hG.2⟩) (List.forall_mem_cons.mpr ⟨(fun a c h H => by
      dsimp only at H
      split at H
      · exact sLX4_passInto_58 h8 n _ _ _ _ _ H hG
      · cases H), (fun q9 h9 => by cases h9)⟩) ((eJX4_passInto_54 n x0 x1 x2 h).symm.trans H)
theorem sLX4_passInto_24 {l : Launch} {h0 h' : Hp} {v : Int} (h8 : nOf h0 = 148) (n : Nat) (x0 : Int) (x1 : Int) (x2 : Int) (x3 : Int) (h : Hp) {r : Int × Hp} (H : LX4_passInto_24 n x0 x1 x2 x3 h = some r) (hG : gWV v h' r) : PAt l false (mi 110).1 h0 v h' 24 [(0, 8, x0), (1, 0, x1), (2, 0, x2), (3, 0, x3)] [] h := by
  obtain ⟨e9, h2, h3⟩ := bndx_some H
  obtain ⟨e0, e1, e2, h1⟩ := e9
  exact sBX4_passInto_24 h8 n n x0 x1 x2 x3 h h2 (sJX4_passInto_54 h8 n e0 e1 e2 h1 h3 hG)
theorem sMX4_passInto {l : Launch} {h0 h' : Hp} {v : Int} (h8 : nOf h0 = 148) (n : Nat) (x0 : Int) (x1 : Int) (h : Hp) {r : Int × Hp} (H : MX4_passInto n x0 x1 h = some r) (hG : gWV v h' r) : PAt l false (mi 110).1 h0 v h' 0 [(0, 8, x0), (1, 0, x1)] [] h :=
  pat_w ok_sdX4_passInto rkX4_passInto h8 (foX4_passInto n) (fun v1 h1 q => by
    cases q
    exact ⟨hG.1, fun _ => hG.2⟩) (List.forall_mem_cons.mpr ⟨(fun a c h H => by
      dsimp only at H
      split at H
      · exact sLX4_passInto_24 h8 n _ _ _ _ _ H hG
      · cases H), (fun q9 h9 => by cases h9)⟩) ((eMX4_passInto n x0 x1 h).symm.trans H)
theorem sndX4_passInto {ρ : Type} {l : Launch} (n : Nat) : SndF (ρ := ρ) l false (mi 110).1 (wX4_passInto n) := by
    intro a h k r H ha ho hn hf
    have h8 := hf rfl
    obtain ⟨x0, x1, rfl⟩ := len2 (show a.length = 2 from ha)
    replace H : bnd (MX4_passInto n x0 x1 h) (fun r h2 => k r h2) = some r := H
    obtain ⟨v2, h2, H1, H2⟩ := bnd_some H
    exact ⟨v2, h2, H2, met_mk (mok_base okX4_passInto).1 (by decide +kernel) (Nat.le_of_ble_eq_true rfl) ho (sMX4_passInto h8 n x0 x1 h H1 ⟨rfl, rfl⟩), fun q => by cases q⟩
/-! X11_block -/
def sdX11_block : SD := [(0, [(0, .aload_n 0, 1, [], 0), (1, .getfield 10, 3, [11, 2, 14, 0, 692, 0], 0), (4, .iload_n 1, 1, [], 0), (5, .invokevirtual 142, 3, [1, 0, 1, 43, 984, 0, 14], 0), (8, .ifCond .eq 13, 3, [], 0)]),
  (11, [(11, .iload_n 2, 1, [], 0), (12, .ifCond .lt 9, 3, [], 0)]),
  (15, [(15, .iload_n 2, 1, [], 0), (16, .bipush 9, 2, [], 0), (18, .if_icmp .le 5, 3, [], 0)]),
  (21, [(21, .iconst (-1), 1, [], 0), (22, .ireturn, 1, [], 0)]),
  (23, [(23, .iload_n 2, 1, [], 0), (24, .tableswitch 119 3 9 #[44, 54, 64, 74, 84, 97, 109], 44, [], 0)]),
  (68, [(68, .aload_n 0, 1, [], 0), (69, .getfield 10, 3, [11, 2, 14, 0, 692, 0], 0), (72, .getfield 145, 3, [10, 2, 532, 1, 174, 0], 6), (75, .iload_n 1, 1, [], 0), (76, .iaload, 1, [], 0), (77, .ireturn, 1, [], 0)]),
  (78, [(78, .aload_n 0, 1, [], 0), (79, .getfield 10, 3, [11, 2, 14, 0, 692, 0], 0), (82, .getfield 148, 3, [10, 4, 532, 1, 181, 0], 8), (85, .iload_n 1, 1, [], 0), (86, .iaload, 1, [], 0), (87, .ireturn, 1, [], 0)]),
  (88, [(88, .aload_n 0, 1, [], 0), (89, .getfield 10, 3, [11, 2, 14, 0, 692, 0], 0), (92, .getfield 151, 3, [10, 5, 532, 1, 183, 0], 9), (95, .iload_n 1, 1, [], 0), (96, .iaload, 1, [], 0), (97, .ireturn, 1, [], 0)]),
  (98, [(98, .aload_n 0, 1, [], 0), (99, .getfield 10, 3, [11, 2, 14, 0, 692, 0], 0), (102, .getfield 154, 3, [10, 6, 532, 1, 187, 0], 10), (105, .iload_n 1, 1, [], 0), (106, .iaload, 1, [], 0), (107, .ireturn, 1, [], 0)]),
  (108, [(108, .aload_n 0, 1, [], 0), (109, .getfield 47, 3, [11, 5, 5, 1, 695, 0], 50), (112, .getfield 157, 3, [1, 0, 8, 1, 465, 0], 2), (115, .getfield 161, 3, [4, 4, 532, 1, 440, 0], 1), (118, .iload_n 1, 1, [], 0), (119, .iaload, 1, [], 0), (120, .ireturn, 1, [], 0)]),
  (121, [(121, .aload_n 0, 1, [], 0), (122, .getfield 47, 3, [11, 5, 5, 1, 695, 0], 50), (125, .getfield 157, 3, [1, 0, 8, 1, 465, 0], 2), (128, .iload_n 1, 1, [], 0), (129, .invokevirtual 165, 3, [1, 1, 1, 110, 985, 0, 8], 0), (132, .ireturn, 1, [], 0)]),
  (133, [(133, .aload_n 0, 1, [], 0), (134, .getfield 10, 3, [11, 2, 14, 0, 692, 0], 0), (137, .getfield 169, 3, [10, 7, 532, 1, 189, 0], 11), (140, .iload_n 1, 1, [], 0), (141, .iaload, 1, [], 0), (142, .ireturn, 1, [], 0)]),
  (143, [(143, .aload_n 0, 1, [], 0), (144, .getfield 10, 3, [11, 2, 14, 0, 692, 0], 0), (147, .getfield 172, 3, [10, 1, 50, 1, 170, 0], 2), (150, .iload_n 2, 1, [], 0), (151, .aaload, 1, [], 0), (152, .iload_n 1, 1, [], 0), (153, .iconst 1, 1, [], 0), (154, .iadd, 1, [], 0), (155, .iaload, 1, [], 0), (156, .ireturn, 1, [], 0)])]
def MX11_block (n : Nat) (x1 x2 : Int) (h : Hp) : Option (Int × Hp) :=
(bndp (MX10_has (h 0 2) x1 h) fun r1 =>
(if r1 = 0 then
(some ((-1), h))
else
(if x2 < 0 then
(some ((-1), h))
else
(if x2 ≤ 9 then
(if x2 = 3 then
(grd (0 ≤ x1 ∧ x1 < alen 532)
(some ((h ((h 0 2) + 6) x1), h)))
else
(if x2 = 4 then
(grd (0 ≤ x1 ∧ x1 < alen 532)
(some ((h ((h 0 2) + 8) x1), h)))
else
(if x2 = 5 then
(grd (0 ≤ x1 ∧ x1 < alen 532)
(some ((h ((h 0 2) + 9) x1), h)))
else
(if x2 = 6 then
(grd (0 ≤ x1 ∧ x1 < alen 532)
(some ((h ((h 0 2) + 10) x1), h)))
else
(if x2 = 7 then
(grd (0 ≤ x1 ∧ x1 < alen 532)
(some ((h 53 x1), h)))
else
(if x2 = 8 then
(bnd (MX4_passInto n 52 x1 h) fun r2 h1 =>
(some (r2, h1)))
else
(if x2 = 9 then
(grd (0 ≤ x1 ∧ x1 < alen 532)
(some ((h ((h 0 2) + 11) x1), h)))
else
(grd (0 ≤ x2 ∧ x2 < alen 50)
(grd (0 ≤ (w32 (x1 + 1)) ∧ (w32 (x1 + 1)) < alen 540)
(some ((h (((h 0 2) + 2) + 1 + x2) (w32 (x1 + 1))), h)))))))))))
else
(some ((-1), h))))))
def wX11_block {ρ : Type} (n : Nat) : FN ρ := fun a h k => match a with
  | [_, x1, x2] => bnd (MX11_block n x1 x2 h) (fun r h2 => k r h2)
  | _ => none
def fsX11_block (n : Nat) (ρ : Type) : List (FN ρ) := [wX10_has, wX4_passInto n]
def KMX11_block (_ : Nat) : CT (Int × Hp) := []
set_option maxRecDepth 100000 in
theorem eMX11_block (n : Nat) (x1 : Int) (x2 : Int) (h : Hp) : MX11_block n x1 x2 h =
  goAt false (kct (KMX11_block n)) (fun v h => some ((v, h))) (fsX11_block n _) sdX11_block 1000 0 [(0, 15, 0), (1, 0, x1), (2, 0, x2)] [] h := rfl
theorem okX11_block : mokb (mi 111) = true := by decide +kernel
theorem rkX11_block : rkOK 1 (mi 111).1.2.2.2.2.2.2.1 (mi 111).1.2.2.2.1 := Or.inr (Or.inl ⟨rfl, rfl, rfl⟩)
def calX11_block : List Nat := [43, 110]
theorem foX11_block {l : Launch} {ρ : Type} (n : Nat) : fsOK l false mi calX11_block (fsX11_block n ρ) := ⟨sndX10_has, ⟨(sndX4_passInto n), trivial⟩⟩
theorem ok_sdX11_block : sdb (mi 111).1.2.1 (insOK mi (mi 111).1.1.cls (mi 111).1.2.2.1 (mi 111).1.2.2.2.2.1 (mi 111).1.2.2.2.2.2.1 calX11_block false 1) sdX11_block = true := by decide +kernel
theorem sMX11_block {l : Launch} {h0 h' : Hp} {v : Int} (h8 : nOf h0 = 148) (n : Nat) (x1 : Int) (x2 : Int) (h : Hp) {r : Int × Hp} (H : MX11_block n x1 x2 h = some r) (hG : gWV v h' r) : PAt l false (mi 111).1 h0 v h' 0 [(0, 15, 0), (1, 0, x1), (2, 0, x2)] [] h :=
  pat_w ok_sdX11_block rkX11_block h8 (foX11_block n) (fun v1 h1 q => by
    cases q
    exact ⟨hG.1, fun _ => hG.2⟩) (fun q9 h9 => by cases h9) ((eMX11_block n x1 x2 h).symm.trans H)
theorem sndX11_block {ρ : Type} {l : Launch} (n : Nat) : SndF (ρ := ρ) l false (mi 111).1 (wX11_block n) := by
    intro a h k r H ha ho hn hf
    have h8 := hf rfl
    obtain ⟨x0, x1, x2, rfl⟩ := len3 (show a.length = 3 from ha)
    have u0 := uq15 hn (ho (15, x0) (List.mem_cons_self))
    subst u0
    replace H : bnd (MX11_block n x1 x2 h) (fun r h2 => k r h2) = some r := H
    obtain ⟨v2, h2, H1, H2⟩ := bnd_some H
    exact ⟨v2, h2, H2, met_mk (mok_base okX11_block).1 (by decide +kernel) (Nat.le_of_ble_eq_true rfl) ho (sMX11_block h8 n x1 x2 h H1 ⟨rfl, rfl⟩), fun q => by cases q⟩
/-! X12_leastBy -/
def sdX12_leastBy : SD := [(0, [(0, .ldc2_w 354, 3, [1, 1685], 9223372036854775807), (3, .lstore_n 3, 1, [], 0), (4, .iconst 0, 1, [], 0), (5, .istore 5, 2, [], 0)]),
  (7, [(7, .iload 5, 2, [], 0), (9, .iconst 3, 1, [], 0), (10, .if_icmp .ge 55, 3, [], 0)]),
  (13, [(13, .aload_n 0, 1, [], 0), (14, .iload_n 1, 1, [], 0), (15, .iload 5, 2, [], 0), (17, .invokevirtual 146, 3, [1, 0, 1, 106, 1310, 0, 0, 16], 0), (20, .invokestatic 286, 3, [1, 1, 3, 263, 1625, 0], 0), (23, .i2l, 1, [], 0), (24, .lstore 6, 2, [], 0), (26, .lload 6, 2, [], 0), (28, .lconst 0, 1, [], 0), (29, .lcmp, 1, [], 0), (30, .ifCond .le 29, 3, [], 0)]),
  (33, [(33, .lload_n 3, 1, [], 0), (34, .aload_n 0, 1, [], 0), (35, .getfield 15, 3, [12, 1, 84, 1, 1323, 0], 2), (38, .iload_n 2, 1, [], 0), (39, .iload 5, 2, [], 0), (41, .iadd, 1, [], 0), (42, .iaload, 1, [], 0), (43, .i2l, 1, [], 0), (44, .aload_n 0, 1, [], 0), (45, .getfield 46, 3, [12, 17, 532, 1, 1339, 0], 12), (48, .iload_n 1, 1, [], 0), (49, .iaload, 1, [], 0), (50, .i2l, 1, [], 0), (51, .lmul, 1, [], 0), (52, .lload 6, 2, [], 0), (54, .ldiv, 1, [], 0), (55, .invokestatic 356, 3, [2, 2, 3, 264, 1686, 1, 1], 0), (58, .lstore_n 3, 1, [], 0)]),
  (59, [(59, .iinc 5 1, 3, [], 0), (62, .goto (-55), 3, [], 0)]),
  (65, [(65, .lload_n 3, 1, [], 0), (66, .l2i, 1, [], 0), (67, .ireturn, 1, [], 0)])]
def BX12_leastBy_7 (n : Nat) : Nat → Int → Int → Int → Int → Hp → Option (Int)
  | 0, _, _, _, _, _ => none
  | f + 1, x1, x2, x3, x5, h =>
    (if 3 ≤ x5 then
    (some (w32 x3))
    else
    (bndp (MX12_goes x1 x5 h) fun r1 =>
    (ltt (jabs r1) fun y1 =>
    (if (lcp y1 0) ≤ 0 then
    (ltt (w32 (x5 + 1)) fun y2 =>
    (BX12_leastBy_7 n f x1 x2 x3 y2 h))
    else
    (grd (0 ≤ (w32 (x2 + x5)) ∧ (w32 (x2 + x5)) < alen 84)
    (grd (0 ≤ x1 ∧ x1 < alen 532)
    (grd (¬ y1 = 0)
    (ltt (min x3 (w64 (Int.tdiv (w64 ((h 115 (w32 (x2 + x5))) * (h 125 x1))) y1))) fun y3 =>
    (ltt (w32 (x5 + 1)) fun y4 =>
    (BX12_leastBy_7 n f x1 x2 y3 y4 h))))))))))
def LX12_leastBy_7 (n : Nat) (x1 x2 x3 x5 : Int) (h : Hp) : Option (Int) :=
(BX12_leastBy_7 n n x1 x2 x3 x5 h)
def MX12_leastBy (n : Nat) (x1 x2 : Int) (h : Hp) : Option (Int) :=
(ltt 9223372036854775807 fun y1 =>
(ltt 0 fun y2 =>
(LX12_leastBy_7 n x1 x2 y1 y2 h)))
def wX12_leastBy {ρ : Type} (n : Nat) : FN ρ := fun a h k => match a with
  | [_, x1, x2] => bndp (MX12_leastBy n x1 x2 h) (fun r => k r h)
  | _ => none
def fsX12_leastBy (n : Nat) (ρ : Type) : List (FN ρ) := [wX12_goes, fabs, fmin]
def KBX12_leastBy_7 (_ : Nat) (bk : Int → Int → Int → Int → Hp → Option (Int)) : CT (Int) := [(7, [(0, 16, (some 113)), (1, 0, none), (2, 0, none), (3, 1, none), (5, 0, none)], [], fun a c h => match a, c with
    | [x1, x2, x3, x5], [] => bk x1 x2 x3 x5 h
    | _, _ => none)]
set_option maxRecDepth 100000 in
theorem eBX12_leastBy_7 (n f : Nat) (x1 : Int) (x2 : Int) (x3 : Int) (x5 : Int) (h : Hp) : BX12_leastBy_7 n (f + 1) x1 x2 x3 x5 h =
  goAt false (kct (KBX12_leastBy_7 n (BX12_leastBy_7 n f))) (fun v _ => some (v)) (fsX12_leastBy n _) sdX12_leastBy 1000 7 [(0, 16, 113), (1, 0, x1), (2, 0, x2), (3, 1, x3), (5, 0, x5)] [] h := rfl
def KMX12_leastBy (n : Nat) : CT (Int) := [(7, [(0, 16, (some 113)), (1, 0, none), (2, 0, none), (3, 1, none), (5, 0, none)], [], fun a c h => match a, c with
    | [x1, x2, x3, x5], [] => LX12_leastBy_7 n x1 x2 x3 x5 h
    | _, _ => none)]
set_option maxRecDepth 100000 in
theorem eMX12_leastBy (n : Nat) (x1 : Int) (x2 : Int) (h : Hp) : MX12_leastBy n x1 x2 h =
  goAt false (kct (KMX12_leastBy n)) (fun v _ => some (v)) (fsX12_leastBy n _) sdX12_leastBy 1000 0 [(0, 16, 113), (1, 0, x1), (2, 0, x2)] [] h := rfl
theorem okX12_leastBy : mokb (mi 112) = true := by decide +kernel
theorem rkX12_leastBy : rkOK 1 (mi 112).1.2.2.2.2.2.2.1 (mi 112).1.2.2.2.1 := Or.inr (Or.inl ⟨rfl, rfl, rfl⟩)
def calX12_leastBy : List Nat := [106, 263, 264]
theorem foX12_leastBy {l : Launch} {ρ : Type} (n : Nat) : fsOK l false mi calX12_leastBy (fsX12_leastBy n ρ) := ⟨sndX12_goes, ⟨snd_mabs, ⟨snd_lmin, trivial⟩⟩⟩
theorem frX12_leastBy {ρ : Type} (n : Nat) : ∀ fn ∈ fsX12_leastBy n ρ, RoF fn := (List.forall_mem_cons.mpr ⟨roX12_goes, (List.forall_mem_cons.mpr ⟨ro_mabs, (List.forall_mem_cons.mpr ⟨ro_lmin, (fun q9 h9 => by cases h9)⟩)⟩)⟩)
theorem ok_sdX12_leastBy : sdb (mi 112).1.2.1 (insOK mi (mi 112).1.1.cls (mi 112).1.2.2.1 (mi 112).1.2.2.2.2.1 (mi 112).1.2.2.2.2.2.1 calX12_leastBy false 1) sdX12_leastBy = true := by decide +kernel
theorem sBX12_leastBy_7 {l : Launch} {h0 : Hp} {v : Int} (h8 : nOf h0 = 148) (n : Nat) (h : Hp) : ∀ (f : Nat) (x1 : Int) (x2 : Int) (x3 : Int) (x5 : Int) {r : Int}, BX12_leastBy_7 n f x1 x2 x3 x5 h = some r → gV v r → PAt l false (mi 112).1 h0 v h 7 [(0, 16, 113), (1, 0, x1), (2, 0, x2), (3, 1, x3), (5, 0, x5)] [] h := by
  intro f
  induction f with
  | zero =>
    intro x1 x2 x3 x5 r H _
    have H2 : (none : Option (Int)) = some r := H
    cases H2
  | succ f ih =>
    intro x1 x2 x3 x5 r H hG
    exact pat_ro ok_sdX12_leastBy rfl rkX12_leastBy h8 (foX12_leastBy n) (frX12_leastBy n) (fun v1 q => by
    cases q
    exact ⟨rfl, fun _ => hG⟩) (List.forall_mem_cons.mpr ⟨(fun a c H => by
      dsimp only at H
      split at H
      · exact ih _ _ _ _ H hG
      · cases H), (fun q9 h9 => by cases h9)⟩) ((eBX12_leastBy_7 n f x1 x2 x3 x5 h).symm.trans H)
theorem sLX12_leastBy_7 {l : Launch} {h0 : Hp} {v : Int} (h8 : nOf h0 = 148) (n : Nat) (x1 : Int) (x2 : Int) (x3 : Int) (x5 : Int) (h : Hp) {r : Int} (H : LX12_leastBy_7 n x1 x2 x3 x5 h = some r) (hG : gV v r) : PAt l false (mi 112).1 h0 v h 7 [(0, 16, 113), (1, 0, x1), (2, 0, x2), (3, 1, x3), (5, 0, x5)] [] h :=
  sBX12_leastBy_7 h8 n h n x1 x2 x3 x5 H hG
theorem sMX12_leastBy {l : Launch} {h0 : Hp} {v : Int} (h8 : nOf h0 = 148) (n : Nat) (x1 : Int) (x2 : Int) (h : Hp) {r : Int} (H : MX12_leastBy n x1 x2 h = some r) (hG : gV v r) : PAt l false (mi 112).1 h0 v h 0 [(0, 16, 113), (1, 0, x1), (2, 0, x2)] [] h :=
  pat_ro ok_sdX12_leastBy rfl rkX12_leastBy h8 (foX12_leastBy n) (frX12_leastBy n) (fun v1 q => by
    cases q
    exact ⟨rfl, fun _ => hG⟩) (List.forall_mem_cons.mpr ⟨(fun a c H => by
      dsimp only at H
      split at H
      · exact sLX12_leastBy_7 h8 n _ _ _ _ _ H hG
      · cases H), (fun q9 h9 => by cases h9)⟩) ((eMX12_leastBy n x1 x2 h).symm.trans H)
theorem sndX12_leastBy {ρ : Type} {l : Launch} (n : Nat) : SndF (ρ := ρ) l false (mi 112).1 (wX12_leastBy n) := by
    intro a h k r H ha ho hn hf
    have h8 := hf rfl
    obtain ⟨x0, x1, x2, rfl⟩ := len3 (show a.length = 3 from ha)
    have u0 := uq16 hn (ho (16, x0) (List.mem_cons_self))
    subst u0
    replace H : bndp (MX12_leastBy n x1 x2 h) (fun r => k r h) = some r := H
    obtain ⟨v2, H1, H2⟩ := bndp_some H
    exact ⟨v2, h, H2, met_mk (mok_base okX12_leastBy).1 (by decide +kernel) (Nat.le_of_ble_eq_true rfl) ho (sMX12_leastBy h8 n x1 x2 h H1 rfl), fun q => by cases q⟩
theorem roX12_leastBy {ρ : Type} (n : Nat) : RoF (wX12_leastBy n : FN ρ) := fun a h k k2 hk => by
  unfold wX12_leastBy
  split
  · exact bndp_ro hk
  · rfl
/-! X12_held -/
def sdX12_held : SD := [(0, [(0, .lconst 1, 1, [], 0), (1, .ldc2_w 359, 3, [1, 1692], 100), (4, .lload_n 0, 1, [], 0), (5, .invokestatic 356, 3, [2, 0, 3, 264, 1686, 1, 1], 0), (8, .invokestatic 361, 3, [2, 1, 3, 265, 1693, 1, 1], 0), (11, .l2i, 1, [], 0), (12, .ireturn, 1, [], 0)])]
def MX12_held (x0 : Int) : Option (Int) :=
(some (w32 (max 1 (min 100 x0))))
def wX12_held {ρ : Type} : FN ρ := fun a h k => match a with
  | [x0] => bndp (MX12_held x0) (fun r => k r h)
  | _ => none
def fsX12_held (ρ : Type) : List (FN ρ) := [fmin, fmax]
def KMX12_held  : CT (Int) := []
set_option maxRecDepth 100000 in
theorem eMX12_held (x0 : Int) (h : Hp) : MX12_held x0 =
  goAt false (kct (KMX12_held)) (fun v _ => some (v)) (fsX12_held _) sdX12_held 1000 0 [(0, 1, x0)] [] h := rfl
theorem okX12_held : mokb (mi 113) = true := by decide +kernel
theorem rkX12_held : rkOK 1 (mi 113).1.2.2.2.2.2.2.1 (mi 113).1.2.2.2.1 := Or.inr (Or.inl ⟨rfl, rfl, rfl⟩)
def calX12_held : List Nat := [264, 265]
theorem foX12_held {l : Launch} {ρ : Type} : fsOK l false mi calX12_held (fsX12_held ρ) := ⟨snd_lmin, ⟨snd_lmax, trivial⟩⟩
theorem frX12_held {ρ : Type} : ∀ fn ∈ fsX12_held ρ, RoF fn := (List.forall_mem_cons.mpr ⟨ro_lmin, (List.forall_mem_cons.mpr ⟨ro_lmax, (fun q9 h9 => by cases h9)⟩)⟩)
theorem ok_sdX12_held : sdb (mi 113).1.2.1 (insOK mi (mi 113).1.1.cls (mi 113).1.2.2.1 (mi 113).1.2.2.2.2.1 (mi 113).1.2.2.2.2.2.1 calX12_held false 1) sdX12_held = true := by decide +kernel
theorem sMX12_held {l : Launch} {h0 : Hp} {v : Int} (h8 : nOf h0 = 148)  (x0 : Int) (h : Hp) {r : Int} (H : MX12_held x0 = some r) (hG : gV v r) : PAt l false (mi 113).1 h0 v h 0 [(0, 1, x0)] [] h :=
  pat_ro ok_sdX12_held rfl rkX12_held h8 (foX12_held) (frX12_held) (fun v1 q => by
    cases q
    exact ⟨rfl, fun _ => hG⟩) (fun q9 h9 => by cases h9) ((eMX12_held x0 h).symm.trans H)
theorem sndX12_held {ρ : Type} {l : Launch} : SndF (ρ := ρ) l false (mi 113).1 (wX12_held) := by
    intro a h k r H ha ho hn hf
    have h8 := hf rfl
    obtain ⟨x0, rfl⟩ := len1 (show a.length = 1 from ha)
    replace H : bndp (MX12_held x0) (fun r => k r h) = some r := H
    obtain ⟨v2, H1, H2⟩ := bndp_some H
    exact ⟨v2, h, H2, met_mk (mok_base okX12_held).1 (by decide +kernel) (Nat.le_of_ble_eq_true rfl) ho (sMX12_held h8 x0 h H1 rfl), fun q => by cases q⟩
theorem roX12_held {ρ : Type} : RoF (wX12_held : FN ρ) := fun a h k k2 hk => by
  unfold wX12_held
  split
  · exact bndp_ro hk
  · rfl
/-! X12_sharpOf -/
def sdX12_sharpOf : SD := [(0, [(0, .lconst 0, 1, [], 0), (1, .lstore_n 2, 1, [], 0), (2, .iconst 0, 1, [], 0), (3, .istore 4, 2, [], 0)]),
  (5, [(5, .iload 4, 2, [], 0), (7, .iconst 3, 1, [], 0), (8, .if_icmp .ge 68, 3, [], 0)]),
  (11, [(11, .aload_n 0, 1, [], 0), (12, .iload_n 1, 1, [], 0), (13, .iload 4, 2, [], 0), (15, .invokevirtual 146, 3, [1, 0, 1, 106, 1310, 0, 0, 16], 0), (18, .i2l, 1, [], 0), (19, .ldc2_w 364, 3, [1, 1701], 32768), (22, .lmul, 1, [], 0), (23, .aload_n 0, 1, [], 0), (24, .getfield 46, 3, [12, 17, 532, 1, 1339, 0], 12), (27, .iload_n 1, 1, [], 0), (28, .iaload, 1, [], 0), (29, .i2l, 1, [], 0), (30, .ldiv, 1, [], 0), (31, .lstore 5, 2, [], 0), (33, .aload_n 0, 1, [], 0), (34, .iload_n 1, 1, [], 0), (35, .iconst 1, 1, [], 0), (36, .iadd, 1, [], 0), (37, .iload 4, 2, [], 0), (39, .invokevirtual 146, 3, [1, 0, 1, 106, 1310, 0, 0, 16], 0), (42, .i2l, 1, [], 0), (43, .ldc2_w 364, 3, [1, 1701], 32768), (46, .lmul, 1, [], 0), (47, .aload_n 0, 1, [], 0), (48, .getfield 46, 3, [12, 17, 532, 1, 1339, 0], 12), (51, .iload_n 1, 1, [], 0), (52, .iconst 1, 1, [], 0), (53, .iadd, 1, [], 0), (54, .iaload, 1, [], 0), (55, .i2l, 1, [], 0), (56, .ldiv, 1, [], 0), (57, .lstore 7, 2, [], 0), (59, .lload_n 2, 1, [], 0), (60, .lload 7, 2, [], 0), (62, .lload 5, 2, [], 0), (64, .lsub, 1, [], 0), (65, .invokestatic 150, 3, [2, 1, 3, 92, 1314, 1], 0), (68, .ladd, 1, [], 0), (69, .lstore_n 2, 1, [], 0), (70, .iinc 4 1, 3, [], 0), (73, .goto (-68), 3, [], 0)]),
  (76, [(76, .lload_n 2, 1, [], 0), (77, .invokestatic 154, 3, [1, 2, 3, 93, 1317, 1], 0), (80, .ireturn, 1, [], 0)])]
def BX12_sharpOf_5 (n : Nat) : Nat → Int → Int → Int → Hp → Option (Int)
  | 0, _, _, _, _ => none
  | f + 1, x1, x2, x4, h =>
    (if 3 ≤ x4 then
    (bndp (MX12_root n x2) fun r1 =>
    (some r1))
    else
    (bndp (MX12_goes x1 x4 h) fun r2 =>
    (grd (0 ≤ x1 ∧ x1 < alen 532)
    (grd (¬ (h 125 x1) = 0)
    (ltt (w64 (Int.tdiv (w64 (r2 * 32768)) (h 125 x1))) fun y1 =>
    (bndp (MX12_goes (w32 (x1 + 1)) x4 h) fun r3 =>
    (grd (0 ≤ (w32 (x1 + 1)) ∧ (w32 (x1 + 1)) < alen 532)
    (grd (¬ (h 125 (w32 (x1 + 1))) = 0)
    (ltt (w64 (Int.tdiv (w64 (r3 * 32768)) (h 125 (w32 (x1 + 1))))) fun y2 =>
    (bndp (MX12_square (w64 (y2 - y1))) fun r4 =>
    (ltt (w64 (x2 + r4)) fun y3 =>
    (ltt (w32 (x4 + 1)) fun y4 =>
    (BX12_sharpOf_5 n f x1 y3 y4 h)))))))))))))
def LX12_sharpOf_5 (n : Nat) (x1 x2 x4 : Int) (h : Hp) : Option (Int) :=
(BX12_sharpOf_5 n n x1 x2 x4 h)
def MX12_sharpOf (n : Nat) (x1 : Int) (h : Hp) : Option (Int) :=
(ltt 0 fun y1 =>
(ltt 0 fun y2 =>
(LX12_sharpOf_5 n x1 y1 y2 h)))
def wX12_sharpOf {ρ : Type} (n : Nat) : FN ρ := fun a h k => match a with
  | [_, x1] => bndp (MX12_sharpOf n x1 h) (fun r => k r h)
  | _ => none
def fsX12_sharpOf (n : Nat) (ρ : Type) : List (FN ρ) := [wX12_goes, wX12_square, wX12_root n]
def KBX12_sharpOf_5 (_ : Nat) (bk : Int → Int → Int → Hp → Option (Int)) : CT (Int) := [(5, [(0, 16, (some 113)), (1, 0, none), (2, 1, none), (4, 0, none)], [], fun a c h => match a, c with
    | [x1, x2, x4], [] => bk x1 x2 x4 h
    | _, _ => none)]
set_option maxRecDepth 100000 in
theorem eBX12_sharpOf_5 (n f : Nat) (x1 : Int) (x2 : Int) (x4 : Int) (h : Hp) : BX12_sharpOf_5 n (f + 1) x1 x2 x4 h =
  goAt false (kct (KBX12_sharpOf_5 n (BX12_sharpOf_5 n f))) (fun v _ => some (v)) (fsX12_sharpOf n _) sdX12_sharpOf 1000 5 [(0, 16, 113), (1, 0, x1), (2, 1, x2), (4, 0, x4)] [] h := rfl
def KMX12_sharpOf (n : Nat) : CT (Int) := [(5, [(0, 16, (some 113)), (1, 0, none), (2, 1, none), (4, 0, none)], [], fun a c h => match a, c with
    | [x1, x2, x4], [] => LX12_sharpOf_5 n x1 x2 x4 h
    | _, _ => none)]
set_option maxRecDepth 100000 in
theorem eMX12_sharpOf (n : Nat) (x1 : Int) (h : Hp) : MX12_sharpOf n x1 h =
  goAt false (kct (KMX12_sharpOf n)) (fun v _ => some (v)) (fsX12_sharpOf n _) sdX12_sharpOf 1000 0 [(0, 16, 113), (1, 0, x1)] [] h := rfl
theorem okX12_sharpOf : mokb (mi 114) = true := by decide +kernel
theorem rkX12_sharpOf : rkOK 1 (mi 114).1.2.2.2.2.2.2.1 (mi 114).1.2.2.2.1 := Or.inr (Or.inl ⟨rfl, rfl, rfl⟩)
def calX12_sharpOf : List Nat := [106, 92, 93]
theorem foX12_sharpOf {l : Launch} {ρ : Type} (n : Nat) : fsOK l false mi calX12_sharpOf (fsX12_sharpOf n ρ) := ⟨sndX12_goes, ⟨sndX12_square, ⟨(sndX12_root n), trivial⟩⟩⟩
theorem frX12_sharpOf {ρ : Type} (n : Nat) : ∀ fn ∈ fsX12_sharpOf n ρ, RoF fn := (List.forall_mem_cons.mpr ⟨roX12_goes, (List.forall_mem_cons.mpr ⟨roX12_square, (List.forall_mem_cons.mpr ⟨(roX12_root n), (fun q9 h9 => by cases h9)⟩)⟩)⟩)
theorem ok_sdX12_sharpOf : sdb (mi 114).1.2.1 (insOK mi (mi 114).1.1.cls (mi 114).1.2.2.1 (mi 114).1.2.2.2.2.1 (mi 114).1.2.2.2.2.2.1 calX12_sharpOf false 1) sdX12_sharpOf = true := by decide +kernel
theorem sBX12_sharpOf_5 {l : Launch} {h0 : Hp} {v : Int} (h8 : nOf h0 = 148) (n : Nat) (h : Hp) : ∀ (f : Nat) (x1 : Int) (x2 : Int) (x4 : Int) {r : Int}, BX12_sharpOf_5 n f x1 x2 x4 h = some r → gV v r → PAt l false (mi 114).1 h0 v h 5 [(0, 16, 113), (1, 0, x1), (2, 1, x2), (4, 0, x4)] [] h := by
  intro f
  induction f with
  | zero =>
    intro x1 x2 x4 r H _
    have H2 : (none : Option (Int)) = some r := H
    cases H2
  | succ f ih =>
    intro x1 x2 x4 r H hG
    exact pat_ro ok_sdX12_sharpOf rfl rkX12_sharpOf h8 (foX12_sharpOf n) (frX12_sharpOf n) (fun v1 q => by
    cases q
    exact ⟨rfl, fun _ => hG⟩) (List.forall_mem_cons.mpr ⟨(fun a c H => by
      dsimp only at H
      split at H
      · exact ih _ _ _ H hG
      · cases H), (fun q9 h9 => by cases h9)⟩) ((eBX12_sharpOf_5 n f x1 x2 x4 h).symm.trans H)
theorem sLX12_sharpOf_5 {l : Launch} {h0 : Hp} {v : Int} (h8 : nOf h0 = 148) (n : Nat) (x1 : Int) (x2 : Int) (x4 : Int) (h : Hp) {r : Int} (H : LX12_sharpOf_5 n x1 x2 x4 h = some r) (hG : gV v r) : PAt l false (mi 114).1 h0 v h 5 [(0, 16, 113), (1, 0, x1), (2, 1, x2), (4, 0, x4)] [] h :=
  sBX12_sharpOf_5 h8 n h n x1 x2 x4 H hG
theorem sMX12_sharpOf {l : Launch} {h0 : Hp} {v : Int} (h8 : nOf h0 = 148) (n : Nat) (x1 : Int) (h : Hp) {r : Int} (H : MX12_sharpOf n x1 h = some r) (hG : gV v r) : PAt l false (mi 114).1 h0 v h 0 [(0, 16, 113), (1, 0, x1)] [] h :=
  pat_ro ok_sdX12_sharpOf rfl rkX12_sharpOf h8 (foX12_sharpOf n) (frX12_sharpOf n) (fun v1 q => by
    cases q
    exact ⟨rfl, fun _ => hG⟩) (List.forall_mem_cons.mpr ⟨(fun a c H => by
      dsimp only at H
      split at H
      · exact sLX12_sharpOf_5 h8 n _ _ _ _ H hG
      · cases H), (fun q9 h9 => by cases h9)⟩) ((eMX12_sharpOf n x1 h).symm.trans H)
theorem sndX12_sharpOf {ρ : Type} {l : Launch} (n : Nat) : SndF (ρ := ρ) l false (mi 114).1 (wX12_sharpOf n) := by
    intro a h k r H ha ho hn hf
    have h8 := hf rfl
    obtain ⟨x0, x1, rfl⟩ := len2 (show a.length = 2 from ha)
    have u0 := uq16 hn (ho (16, x0) (List.mem_cons_self))
    subst u0
    replace H : bndp (MX12_sharpOf n x1 h) (fun r => k r h) = some r := H
    obtain ⟨v2, H1, H2⟩ := bndp_some H
    exact ⟨v2, h, H2, met_mk (mok_base okX12_sharpOf).1 (by decide +kernel) (Nat.le_of_ble_eq_true rfl) ho (sMX12_sharpOf h8 n x1 h H1 rfl), fun q => by cases q⟩
theorem roX12_sharpOf {ρ : Type} (n : Nat) : RoF (wX12_sharpOf n : FN ρ) := fun a h k k2 hk => by
  unfold wX12_sharpOf
  split
  · exact bndp_ro hk
  · rfl
/-! X12_lays -/
def sdX12_lays : SD := [(0, [(0, .aload_n 0, 1, [], 0), (1, .iload_n 2, 1, [], 0), (2, .putfield 366, 3, [12, 40, 0, 0, 0, 1362], 0), (5, .aload_n 0, 1, [], 0), (6, .bipush 12, 2, [], 0), (8, .putfield 369, 3, [12, 41, 0, 0, 0, 1363], 0), (11, .iconst 0, 1, [], 0), (12, .istore 4, 2, [], 0)]),
  (14, [(14, .iload 4, 2, [], 0), (16, .aload_n 0, 1, [], 0), (17, .getfield 140, 3, [12, 6, 0, 0, 1328, 0], 0), (20, .if_icmp .ge 98, 3, [], 0)]),
  (23, [(23, .aload_n 0, 1, [], 0), (24, .getfield 68, 3, [12, 34, 532, 1, 1356, 0], 19), (27, .iload 4, 2, [], 0), (29, .aload_n 0, 1, [], 0), (30, .iload 4, 2, [], 0), (32, .iconst 0, 1, [], 0), (33, .invokevirtual 372, 3, [1, 0, 1, 112, 1681, 0, 0, 16], 0), (36, .iastore, 1, [], 0), (37, .aload_n 0, 1, [], 0), (38, .getfield 71, 3, [12, 35, 532, 1, 1357, 0], 20), (41, .iload 4, 2, [], 0), (43, .aload_n 0, 1, [], 0), (44, .iload 4, 2, [], 0), (46, .iconst 3, 1, [], 0), (47, .invokevirtual 372, 3, [1, 0, 1, 112, 1681, 0, 0, 16], 0), (50, .iastore, 1, [], 0), (51, .aload_n 0, 1, [], 0), (52, .getfield 74, 3, [12, 36, 532, 1, 1358, 0], 21), (55, .iload 4, 2, [], 0), (57, .aload_n 0, 1, [], 0), (58, .getfield 40, 3, [12, 15, 532, 1, 1337, 0], 10), (61, .iload 4, 2, [], 0), (63, .iaload, 1, [], 0), (64, .iload_n 3, 1, [], 0), (65, .imul, 1, [], 0), (66, .bipush 100, 2, [], 0), (68, .idiv, 1, [], 0), (69, .aload_n 0, 1, [], 0), (70, .getfield 68, 3, [12, 34, 532, 1, 1356, 0], 19), (73, .iload 4, 2, [], 0), (75, .iaload, 1, [], 0), (76, .invokestatic 258, 3, [1, 1, 3, 261, 1596, 0, 0], 0), (79, .aload_n 0, 1, [], 0), (80, .getfield 366, 3, [12, 40, 0, 0, 1362, 0], 0), (83, .idiv, 1, [], 0), (84, .i2l, 1, [], 0), (85, .invokestatic 375, 3, [1, 2, 3, 113, 1689, 1], 0), (88, .iastore, 1, [], 0), (89, .aload_n 0, 1, [], 0), (90, .aload_n 0, 1, [], 0), (91, .getfield 369, 3, [12, 41, 0, 0, 1363, 0], 0), (94, .aload_n 0, 1, [], 0), (95, .getfield 71, 3, [12, 35, 532, 1, 1357, 0], 20), (98, .iload 4, 2, [], 0), (100, .iaload, 1, [], 0), (101, .aload_n 0, 1, [], 0), (102, .getfield 366, 3, [12, 40, 0, 0, 1362, 0], 0), (105, .idiv, 1, [], 0), (106, .invokestatic 258, 3, [1, 1, 3, 261, 1596, 0, 0], 0), (109, .putfield 369, 3, [12, 41, 0, 0, 0, 1363], 0), (112, .iinc 4 1, 3, [], 0), (115, .goto (-101), 3, [], 0)]),
  (118, [(118, .aload_n 0, 1, [], 0), (119, .iconst 1, 1, [], 0), (120, .aload_n 0, 1, [], 0), (121, .getfield 369, 3, [12, 41, 0, 0, 1363, 0], 0), (124, .invokestatic 378, 3, [1, 3, 3, 262, 1696, 0, 0], 0), (127, .putfield 369, 3, [12, 41, 0, 0, 0, 1363], 0), (130, .iconst 0, 1, [], 0), (131, .istore 4, 2, [], 0)]),
  (133, [(133, .iload 4, 2, [], 0), (135, .iconst 1, 1, [], 0), (136, .iadd, 1, [], 0), (137, .aload_n 0, 1, [], 0), (138, .getfield 140, 3, [12, 6, 0, 0, 1328, 0], 0), (141, .if_icmp .ge 172, 3, [], 0)]),
  (144, [(144, .aload_n 0, 1, [], 0), (145, .getfield 77, 3, [12, 37, 532, 1, 1359, 0], 22), (148, .iload 4, 2, [], 0), (150, .aload_n 0, 1, [], 0), (151, .iload 4, 2, [], 0), (153, .invokevirtual 380, 3, [1, 4, 1, 114, 1697, 0, 16], 0), (156, .iastore, 1, [], 0), (157, .aload_n 0, 1, [], 0), (158, .getfield 80, 3, [12, 38, 532, 1, 1360, 0], 23), (161, .iload 4, 2, [], 0), (163, .iconst 0, 1, [], 0), (164, .iastore, 1, [], 0), (165, .aload_n 0, 1, [], 0), (166, .getfield 83, 3, [12, 39, 532, 1, 1361, 0], 24), (169, .iload 4, 2, [], 0), (171, .bipush 100, 2, [], 0), (173, .iastore, 1, [], 0), (174, .aload_n 0, 1, [], 0), (175, .getfield 77, 3, [12, 37, 532, 1, 1359, 0], 22), (178, .iload 4, 2, [], 0), (180, .iaload, 1, [], 0), (181, .ifCond .le 126, 3, [], 0)]),
  (184, [(184, .ldc2_w 383, 3, [1, 1702], 4), (187, .iload_n 1, 1, [], 0), (188, .i2l, 1, [], 0), (189, .lmul, 1, [], 0), (190, .ldc2_w 364, 3, [1, 1701], 32768), (193, .lmul, 1, [], 0), (194, .aload_n 0, 1, [], 0), (195, .getfield 77, 3, [12, 37, 532, 1, 1359, 0], 22), (198, .iload 4, 2, [], 0), (200, .iaload, 1, [], 0), (201, .i2l, 1, [], 0), (202, .ldiv, 1, [], 0), (203, .lstore 5, 2, [], 0), (205, .aload_n 0, 1, [], 0), (206, .getfield 80, 3, [12, 38, 532, 1, 1360, 0], 23), (209, .iload 4, 2, [], 0), (211, .lload 5, 2, [], 0), (213, .aload_n 0, 1, [], 0), (214, .getfield 46, 3, [12, 17, 532, 1, 1339, 0], 12), (217, .iload 4, 2, [], 0), (219, .iaload, 1, [], 0), (220, .iconst 2, 1, [], 0), (221, .idiv, 1, [], 0), (222, .aload_n 0, 1, [], 0), (223, .getfield 46, 3, [12, 17, 532, 1, 1339, 0], 12), (226, .iload 4, 2, [], 0), (228, .iconst 1, 1, [], 0), (229, .iadd, 1, [], 0), (230, .iaload, 1, [], 0), (231, .iconst 2, 1, [], 0), (232, .idiv, 1, [], 0), (233, .invokestatic 258, 3, [1, 1, 3, 261, 1596, 0, 0], 0), (236, .i2l, 1, [], 0), (237, .invokestatic 356, 3, [2, 5, 3, 264, 1686, 1, 1], 0), (240, .l2i, 1, [], 0), (241, .iastore, 1, [], 0), (242, .aload_n 0, 1, [], 0), (243, .getfield 83, 3, [12, 39, 532, 1, 1361, 0], 24), (246, .iload 4, 2, [], 0), (248, .ldc2_w 125, 3, [1, 1321], 2), (251, .aload_n 0, 1, [], 0), (252, .getfield 80, 3, [12, 38, 532, 1, 1360, 0], 23), (255, .iload 4, 2, [], 0), (257, .iaload, 1, [], 0), (258, .i2l, 1, [], 0), (259, .lmul, 1, [], 0), (260, .aload_n 0, 1, [], 0), (261, .getfield 71, 3, [12, 35, 532, 1, 1357, 0], 20), (264, .iload 4, 2, [], 0), (266, .iaload, 1, [], 0), (267, .aload_n 0, 1, [], 0), (268, .getfield 71, 3, [12, 35, 532, 1, 1357, 0], 20), (271, .iload 4, 2, [], 0), (273, .iconst 1, 1, [], 0), (274, .iadd, 1, [], 0), (275, .iaload, 1, [], 0), (276, .invokestatic 258, 3, [1, 1, 3, 261, 1596, 0, 0], 0), (279, .i2l, 1, [], 0), (280, .lmul, 1, [], 0), (281, .ldc2_w 364, 3, [1, 1701], 32768), (284, .lmul, 1, [], 0), (285, .aload_n 0, 1, [], 0), (286, .getfield 77, 3, [12, 37, 532, 1, 1359, 0], 22), (289, .iload 4, 2, [], 0), (291, .iaload, 1, [], 0), (292, .i2l, 1, [], 0), (293, .ldiv, 1, [], 0), (294, .invokestatic 154, 3, [1, 6, 3, 93, 1317, 1], 0), (297, .aload_n 0, 1, [], 0), (298, .getfield 366, 3, [12, 40, 0, 0, 1362, 0], 0), (301, .idiv, 1, [], 0), (302, .i2l, 1, [], 0), (303, .invokestatic 375, 3, [1, 2, 3, 113, 1689, 1], 0), (306, .iastore, 1, [], 0)]),
  (307, [(307, .iinc 4 1, 3, [], 0), (310, .goto (-177), 3, [], 0)]),
  (313, [(313, .return_, 1, [], 0)])]
def BX12_lays_14 (n : Nat) : Nat → Int → Int → Int → Hp → Option (Int × Hp)
  | 0, _, _, _, _ => none
  | f + 1, x1, x3, x4, h =>
    (if (h 113 6) ≤ x4 then
    (some (x1, h))
    else
    (bndp (MX12_leastBy n x4 0 h) fun r1 =>
    (grd (0 ≤ x4 ∧ x4 < alen 532)
    (ltt (up h 132 x4 r1) fun h1 =>
    (bndp (MX12_leastBy n x4 3 h1) fun r2 =>
    (grd (0 ≤ x4 ∧ x4 < alen 532)
    (ltt (up h1 133 x4 r2) fun h2 =>
    (grd (0 ≤ x4 ∧ x4 < alen 532)
    (grd (¬ 100 = 0)
    (grd (0 ≤ x4 ∧ x4 < alen 532)
    (grd (¬ (h2 113 40) = 0)
    (bndp (MX12_held (w32 (Int.tdiv (min (w32 (Int.tdiv (w32 ((h2 123 x4) * x3)) 100)) (h2 132 x4)) (h2 113 40)))) fun r3 =>
    (grd (0 ≤ x4 ∧ x4 < alen 532)
    (ltt (up h2 134 x4 r3) fun h3 =>
    (grd (0 ≤ x4 ∧ x4 < alen 532)
    (grd (¬ (h3 113 40) = 0)
    (ltt (up h3 113 41 (min (h3 113 41) (w32 (Int.tdiv (h3 133 x4) (h3 113 40))))) fun h4 =>
    (ltt (w32 (x4 + 1)) fun y1 =>
    (BX12_lays_14 n f x1 x3 y1 h4)))))))))))))))))))
def BX12_lays_133 (n : Nat) : Nat → Int → Int → Hp → Option (Hp)
  | 0, _, _, _ => none
  | f + 1, x1, x4, h =>
    (if (h 113 6) ≤ (w32 (x4 + 1)) then
    (some h)
    else
    (bndp (MX12_sharpOf n x4 h) fun r1 =>
    (grd (0 ≤ x4 ∧ x4 < alen 532)
    (ltt (up h 135 x4 r1) fun h1 =>
    (grd (0 ≤ x4 ∧ x4 < alen 532)
    (ltt (up h1 136 x4 0) fun h2 =>
    (grd (0 ≤ x4 ∧ x4 < alen 532)
    (ltt (up h2 137 x4 100) fun h3 =>
    (grd (0 ≤ x4 ∧ x4 < alen 532)
    (if (h3 135 x4) ≤ 0 then
    (ltt (w32 (x4 + 1)) fun y1 =>
    (BX12_lays_133 n f x1 y1 h3))
    else
    (grd (0 ≤ x4 ∧ x4 < alen 532)
    (grd (¬ (h3 135 x4) = 0)
    (ltt (w64 (Int.tdiv (w64 ((w64 (4 * x1)) * 32768)) (h3 135 x4))) fun y2 =>
    (grd (0 ≤ x4 ∧ x4 < alen 532)
    (grd (¬ 2 = 0)
    (grd (0 ≤ (w32 (x4 + 1)) ∧ (w32 (x4 + 1)) < alen 532)
    (grd (¬ 2 = 0)
    (grd (0 ≤ x4 ∧ x4 < alen 532)
    (ltt (up h3 136 x4 (w32 (min y2 (min (w32 (Int.tdiv (h3 125 x4) 2)) (w32 (Int.tdiv (h3 125 (w32 (x4 + 1))) 2)))))) fun h4 =>
    (grd (0 ≤ x4 ∧ x4 < alen 532)
    (grd (0 ≤ x4 ∧ x4 < alen 532)
    (grd (0 ≤ (w32 (x4 + 1)) ∧ (w32 (x4 + 1)) < alen 532)
    (grd (0 ≤ x4 ∧ x4 < alen 532)
    (grd (¬ (h4 135 x4) = 0)
    (bndp (MX12_root n (w64 (Int.tdiv (w64 ((w64 ((w64 (2 * (h4 136 x4))) * (min (h4 133 x4) (h4 133 (w32 (x4 + 1)))))) * 32768)) (h4 135 x4)))) fun r2 =>
    (grd (¬ (h4 113 40) = 0)
    (bndp (MX12_held (w32 (Int.tdiv r2 (h4 113 40)))) fun r3 =>
    (grd (0 ≤ x4 ∧ x4 < alen 532)
    (ltt (up h4 137 x4 r3) fun h5 =>
    (ltt (w32 (x4 + 1)) fun y3 =>
    (BX12_lays_133 n f x1 y3 h5)))))))))))))))))))))))))))))))
def LX12_lays_133 (n : Nat) (x1 x4 : Int) (h : Hp) : Option (Hp) :=
(BX12_lays_133 n n x1 x4 h)
def JX12_lays_118 (n : Nat) (x1 : Int) (h : Hp) : Option (Hp) :=
(ltt (up h 113 41 (max 1 (h 113 41))) fun h1 =>
(ltt 0 fun y1 =>
(LX12_lays_133 n x1 y1 h1)))
def LX12_lays_14 (n : Nat) (x1 x3 x4 : Int) (h : Hp) : Option (Hp) :=
(bndx (BX12_lays_14 n n x1 x3 x4 h) fun (e1, h1) =>
(JX12_lays_118 n e1 h1))
def MX12_lays (n : Nat) (x1 x2 x3 : Int) (h : Hp) : Option (Hp) :=
(ltt (up h 113 40 x2) fun h1 =>
(ltt (up h1 113 41 12) fun h2 =>
(ltt 0 fun y1 =>
(LX12_lays_14 n x1 x3 y1 h2))))
def wX12_lays {ρ : Type} (n : Nat) : FN ρ := fun a h k => match a with
  | [_, x1, x2, x3] => bndh (MX12_lays n x1 x2 x3 h) (fun h2 => k 0 h2)
  | _ => none
def fsX12_lays (n : Nat) (ρ : Type) : List (FN ρ) := [wX12_leastBy n, fmin, wX12_held, fmax, wX12_sharpOf n, fmin, wX12_root n]
def KBX12_lays_14 (_ : Nat) (bk : Int → Int → Int → Hp → Option (Int × Hp)) : CT (Int × Hp) := [(14, [(0, 16, (some 113)), (1, 0, none), (3, 0, none), (4, 0, none)], [], fun a c h => match a, c with
    | [x1, x3, x4], [] => bk x1 x3 x4 h
    | _, _ => none),
  (118, [(0, 16, (some 113)), (1, 0, none)], [], fun a c h => match a, c with
    | [x1], [] => some (x1, h)
    | _, _ => none)]
set_option maxRecDepth 100000 in
theorem eBX12_lays_14 (n f : Nat) (x1 : Int) (x3 : Int) (x4 : Int) (h : Hp) : BX12_lays_14 n (f + 1) x1 x3 x4 h =
  goAt false (kct (KBX12_lays_14 n (BX12_lays_14 n f))) (fun _ _ => none) (fsX12_lays n _) sdX12_lays 1000 14 [(0, 16, 113), (1, 0, x1), (3, 0, x3), (4, 0, x4)] [] h := rfl
def KBX12_lays_133 (_ : Nat) (bk : Int → Int → Hp → Option (Hp)) : CT (Hp) := [(133, [(0, 16, (some 113)), (1, 0, none), (4, 0, none)], [], fun a c h => match a, c with
    | [x1, x4], [] => bk x1 x4 h
    | _, _ => none)]
set_option maxRecDepth 100000 in
theorem eBX12_lays_133 (n f : Nat) (x1 : Int) (x4 : Int) (h : Hp) : BX12_lays_133 n (f + 1) x1 x4 h =
  goAt false (kct (KBX12_lays_133 n (BX12_lays_133 n f))) (fun _ h => some (h)) (fsX12_lays n _) sdX12_lays 1000 133 [(0, 16, 113), (1, 0, x1), (4, 0, x4)] [] h := rfl
def KJX12_lays_118 (n : Nat) : CT (Hp) := [(133, [(0, 16, (some 113)), (1, 0, none), (4, 0, none)], [], fun a c h => match a, c with
    | [x1, x4], [] => LX12_lays_133 n x1 x4 h
    | _, _ => none)]
set_option maxRecDepth 100000 in
theorem eJX12_lays_118 (n : Nat) (x1 : Int) (h : Hp) : JX12_lays_118 n x1 h =
  goAt false (kct (KJX12_lays_118 n)) (fun _ h => some (h)) (fsX12_lays n _) sdX12_lays 1000 118 [(0, 16, 113), (1, 0, x1)] [] h := rfl
def KMX12_lays (n : Nat) : CT (Hp) := [(14, [(0, 16, (some 113)), (1, 0, none), (3, 0, none), (4, 0, none)], [], fun a c h => match a, c with
    | [x1, x3, x4], [] => LX12_lays_14 n x1 x3 x4 h
    | _, _ => none)]
set_option maxRecDepth 100000 in
theorem eMX12_lays (n : Nat) (x1 : Int) (x2 : Int) (x3 : Int) (h : Hp) : MX12_lays n x1 x2 x3 h =
  goAt false (kct (KMX12_lays n)) (fun _ h => some (h)) (fsX12_lays n _) sdX12_lays 1000 0 [(0, 16, 113), (1, 0, x1), (2, 0, x2), (3, 0, x3)] [] h := rfl
theorem okX12_lays : mokb (mi 115) = true := by decide +kernel
theorem rkX12_lays : rkOK 0 (mi 115).1.2.2.2.2.2.2.1 (mi 115).1.2.2.2.1 := Or.inl ⟨rfl, rfl, rfl⟩
def calX12_lays : List Nat := [112, 261, 113, 262, 114, 264, 93]
theorem foX12_lays {l : Launch} {ρ : Type} (n : Nat) : fsOK l false mi calX12_lays (fsX12_lays n ρ) := ⟨(sndX12_leastBy n), ⟨snd_mmin, ⟨sndX12_held, ⟨snd_mmax, ⟨(sndX12_sharpOf n), ⟨snd_lmin, ⟨(sndX12_root n), trivial⟩⟩⟩⟩⟩⟩⟩
theorem ok_sdX12_lays : sdb (mi 115).1.2.1 (insOK mi (mi 115).1.1.cls (mi 115).1.2.2.1 (mi 115).1.2.2.2.2.1 (mi 115).1.2.2.2.2.2.1 calX12_lays false 0) sdX12_lays = true := by decide +kernel
def GX12_lays_14 (l : Launch) (h0 : Hp) (h' : Hp) (v : Int) (_ : Hp) : (Int × Hp) → Prop
  | (e1, h1) => PAt l false (mi 115).1 h0 v h' 118 [(0, 16, 113), (1, 0, e1)] [] h1
theorem sBX12_lays_14 {l : Launch} {h0 h' : Hp} {v : Int} (h8 : nOf h0 = 148) (n : Nat) : ∀ (f : Nat) (x1 : Int) (x3 : Int) (x4 : Int) (h : Hp) {r : Int × Hp}, BX12_lays_14 n f x1 x3 x4 h = some r → GX12_lays_14 l h0 h' v h r → PAt l false (mi 115).1 h0 v h' 14 [(0, 16, 113), (1, 0, x1), (3, 0, x3), (4, 0, x4)] [] h := by
  intro f
  induction f with
  | zero =>
    intro x1 x3 x4 h r H _
    have H2 : (none : Option (Int × Hp)) = some r := H
    cases H2
  | succ f ih =>
    intro x1 x3 x4 h r H hG
    exact pat_w ok_sdX12_lays rkX12_lays h8 (foX12_lays n) (fun v1 h1 q => by cases q) (List.forall_mem_cons.mpr ⟨(fun a c h H => by
      dsimp only at H
      split at H
      · exact ih _ _ _ _ H hG
      · cases H), (List.forall_mem_cons.mpr ⟨(fun a c h H => by
      dsimp only at H
      split at H
      · cases H
        exact hG
      · cases H), (fun q9 h9 => by cases h9)⟩)⟩) ((eBX12_lays_14 n f x1 x3 x4 h).symm.trans H)
theorem sBX12_lays_133 {l : Launch} {h0 h' : Hp} {v : Int} (h8 : nOf h0 = 148) (n : Nat) : ∀ (f : Nat) (x1 : Int) (x4 : Int) (h : Hp) {r : Hp}, BX12_lays_133 n f x1 x4 h = some r → gW h' r → PAt l false (mi 115).1 h0 v h' 133 [(0, 16, 113), (1, 0, x1), (4, 0, x4)] [] h := by
  intro f
  induction f with
  | zero =>
    intro x1 x4 h r H _
    have H2 : (none : Option (Hp)) = some r := H
    cases H2
  | succ f ih =>
    intro x1 x4 h r H hG
    exact pat_w ok_sdX12_lays rkX12_lays h8 (foX12_lays n) (fun v1 h1 q => by
    cases q
    exact ⟨hG, fun q9 => absurd rfl q9⟩) (List.forall_mem_cons.mpr ⟨(fun a c h H => by
      dsimp only at H
      split at H
      · exact ih _ _ _ H hG
      · cases H), (fun q9 h9 => by cases h9)⟩) ((eBX12_lays_133 n f x1 x4 h).symm.trans H)
theorem sLX12_lays_133 {l : Launch} {h0 h' : Hp} {v : Int} (h8 : nOf h0 = 148) (n : Nat) (x1 : Int) (x4 : Int) (h : Hp) {r : Hp} (H : LX12_lays_133 n x1 x4 h = some r) (hG : gW h' r) : PAt l false (mi 115).1 h0 v h' 133 [(0, 16, 113), (1, 0, x1), (4, 0, x4)] [] h :=
  sBX12_lays_133 h8 n n x1 x4 h H hG
theorem sJX12_lays_118 {l : Launch} {h0 h' : Hp} {v : Int} (h8 : nOf h0 = 148) (n : Nat) (x1 : Int) (h : Hp) {r : Hp} (H : JX12_lays_118 n x1 h = some r) (hG : gW h' r) : PAt l false (mi 115).1 h0 v h' 118 [(0, 16, 113), (1, 0, x1)] [] h :=
  pat_w ok_sdX12_lays rkX12_lays h8 (foX12_lays n) (fun v1 h1 q => by
    cases q
    exact ⟨hG, fun q9 => absurd rfl q9⟩) (List.forall_mem_cons.mpr ⟨(fun a c h H => by
      dsimp only at H
      split at H
      · exact sLX12_lays_133 h8 n _ _ _ H hG
      · cases H), (fun q9 h9 => by cases h9)⟩) ((eJX12_lays_118 n x1 h).symm.trans H)
theorem sLX12_lays_14 {l : Launch} {h0 h' : Hp} {v : Int} (h8 : nOf h0 = 148) (n : Nat) (x1 : Int) (x3 : Int) (x4 : Int) (h : Hp) {r : Hp} (H : LX12_lays_14 n x1 x3 x4 h = some r) (hG : gW h' r) : PAt l false (mi 115).1 h0 v h' 14 [(0, 16, 113), (1, 0, x1), (3, 0, x3), (4, 0, x4)] [] h := by
  obtain ⟨e9, h2, h3⟩ := bndx_some H
  obtain ⟨e1, h1⟩ := e9
  exact sBX12_lays_14 h8 n n x1 x3 x4 h h2 (sJX12_lays_118 h8 n e1 h1 h3 hG)
theorem sMX12_lays {l : Launch} {h0 h' : Hp} {v : Int} (h8 : nOf h0 = 148) (n : Nat) (x1 : Int) (x2 : Int) (x3 : Int) (h : Hp) {r : Hp} (H : MX12_lays n x1 x2 x3 h = some r) (hG : gW h' r) : PAt l false (mi 115).1 h0 v h' 0 [(0, 16, 113), (1, 0, x1), (2, 0, x2), (3, 0, x3)] [] h :=
  pat_w ok_sdX12_lays rkX12_lays h8 (foX12_lays n) (fun v1 h1 q => by
    cases q
    exact ⟨hG, fun q9 => absurd rfl q9⟩) (List.forall_mem_cons.mpr ⟨(fun a c h H => by
      dsimp only at H
      split at H
      · exact sLX12_lays_14 h8 n _ _ _ _ H hG
      · cases H), (fun q9 h9 => by cases h9)⟩) ((eMX12_lays n x1 x2 x3 h).symm.trans H)
theorem sndX12_lays {ρ : Type} {l : Launch} (n : Nat) : SndF (ρ := ρ) l false (mi 115).1 (wX12_lays n) := by
    intro a h k r H ha ho hn hf
    have h8 := hf rfl
    obtain ⟨x0, x1, x2, x3, rfl⟩ := len4 (show a.length = 4 from ha)
    have u0 := uq16 hn (ho (16, x0) (List.mem_cons_self))
    subst u0
    replace H : bndh (MX12_lays n x1 x2 x3 h) (fun h2 => k 0 h2) = some r := H
    obtain ⟨h2, H1, H2⟩ := bndh_some H
    exact ⟨0, h2, H2, met_mk (mok_base okX12_lays).1 (by decide +kernel) (Nat.le_of_ble_eq_true rfl) ho (sMX12_lays h8 n x1 x2 x3 h H1 rfl), fun q => by cases q⟩
/-! X12_laysNow -/
def sdX12_laysNow : SD := [(0, [(0, .aload_n 0, 1, [], 0), (1, .aload_n 0, 1, [], 0), (2, .getfield 15, 3, [12, 1, 84, 1, 1323, 0], 2), (5, .bipush 7, 2, [], 0), (7, .iaload, 1, [], 0), (8, .aload_n 0, 1, [], 0), (9, .getfield 15, 3, [12, 1, 84, 1, 1323, 0], 2), (12, .bipush 6, 2, [], 0), (14, .iaload, 1, [], 0), (15, .aload_n 0, 1, [], 0), (16, .getfield 158, 3, [12, 45, 0, 0, 1367, 0], 0), (19, .invokevirtual 385, 3, [0, 0, 1, 115, 1677, 0, 0, 0, 16], 0), (22, .return_, 1, [], 0)])]
def MX12_laysNow (n : Nat) (h : Hp) : Option (Hp) :=
(grd (0 ≤ 7 ∧ 7 < alen 84)
(grd (0 ≤ 6 ∧ 6 < alen 84)
(bndh (MX12_lays n (h 115 7) (h 115 6) (h 113 45) h) fun h1 =>
(some h1))))
def wX12_laysNow {ρ : Type} (n : Nat) : FN ρ := fun a h k => match a with
  | [_] => bndh (MX12_laysNow n h) (fun h2 => k 0 h2)
  | _ => none
def fsX12_laysNow (n : Nat) (ρ : Type) : List (FN ρ) := [wX12_lays n]
def KMX12_laysNow (_ : Nat) : CT (Hp) := []
set_option maxRecDepth 100000 in
theorem eMX12_laysNow (n : Nat) (h : Hp) : MX12_laysNow n h =
  goAt false (kct (KMX12_laysNow n)) (fun _ h => some (h)) (fsX12_laysNow n _) sdX12_laysNow 1000 0 [(0, 16, 113)] [] h := rfl
theorem okX12_laysNow : mokb (mi 116) = true := by decide +kernel
theorem rkX12_laysNow : rkOK 0 (mi 116).1.2.2.2.2.2.2.1 (mi 116).1.2.2.2.1 := Or.inl ⟨rfl, rfl, rfl⟩
def calX12_laysNow : List Nat := [115]
theorem foX12_laysNow {l : Launch} {ρ : Type} (n : Nat) : fsOK l false mi calX12_laysNow (fsX12_laysNow n ρ) := ⟨(sndX12_lays n), trivial⟩
theorem ok_sdX12_laysNow : sdb (mi 116).1.2.1 (insOK mi (mi 116).1.1.cls (mi 116).1.2.2.1 (mi 116).1.2.2.2.2.1 (mi 116).1.2.2.2.2.2.1 calX12_laysNow false 0) sdX12_laysNow = true := by decide +kernel
theorem sMX12_laysNow {l : Launch} {h0 h' : Hp} {v : Int} (h8 : nOf h0 = 148) (n : Nat)  (h : Hp) {r : Hp} (H : MX12_laysNow n h = some r) (hG : gW h' r) : PAt l false (mi 116).1 h0 v h' 0 [(0, 16, 113)] [] h :=
  pat_w ok_sdX12_laysNow rkX12_laysNow h8 (foX12_laysNow n) (fun v1 h1 q => by
    cases q
    exact ⟨hG, fun q9 => absurd rfl q9⟩) (fun q9 h9 => by cases h9) ((eMX12_laysNow n h).symm.trans H)
theorem sndX12_laysNow {ρ : Type} {l : Launch} (n : Nat) : SndF (ρ := ρ) l false (mi 116).1 (wX12_laysNow n) := by
    intro a h k r H ha ho hn hf
    have h8 := hf rfl
    obtain ⟨x0, rfl⟩ := len1 (show a.length = 1 from ha)
    have u0 := uq16 hn (ho (16, x0) (List.mem_cons_self))
    subst u0
    replace H : bndh (MX12_laysNow n h) (fun h2 => k 0 h2) = some r := H
    obtain ⟨h2, H1, H2⟩ := bndh_some H
    exact ⟨0, h2, H2, met_mk (mok_base okX12_laysNow).1 (by decide +kernel) (Nat.le_of_ble_eq_true rfl) ho (sMX12_laysNow h8 n  h H1 rfl), fun q => by cases q⟩
/-! X12_passes -/
def sdX12_passes : SD := [(0, [(0, .aload_n 0, 1, [], 0), (1, .getfield 89, 3, [12, 55, 540, 1, 1377, 0], 26), (4, .iconst 0, 1, [], 0), (5, .iconst 0, 1, [], 0), (6, .iastore, 1, [], 0), (7, .aload_n 0, 1, [], 0), (8, .getfield 89, 3, [12, 55, 540, 1, 1377, 0], 26), (11, .aload_n 0, 1, [], 0), (12, .getfield 140, 3, [12, 6, 0, 0, 1328, 0], 0), (15, .iconst 0, 1, [], 0), (16, .iastore, 1, [], 0), (17, .iconst 1, 1, [], 0), (18, .istore_n 2, 1, [], 0)]),
  (19, [(19, .iload_n 2, 1, [], 0), (20, .aload_n 0, 1, [], 0), (21, .getfield 140, 3, [12, 6, 0, 0, 1328, 0], 0), (24, .if_icmp .ge 28, 3, [], 0)]),
  (27, [(27, .aload_n 0, 1, [], 0), (28, .getfield 89, 3, [12, 55, 540, 1, 1377, 0], 26), (31, .iload_n 2, 1, [], 0), (32, .aload_n 0, 1, [], 0), (33, .getfield 83, 3, [12, 39, 532, 1, 1361, 0], 24), (36, .iload_n 2, 1, [], 0), (37, .iconst 1, 1, [], 0), (38, .isub, 1, [], 0), (39, .iaload, 1, [], 0), (40, .aload_n 0, 1, [], 0), (41, .getfield 366, 3, [12, 40, 0, 0, 1362, 0], 0), (44, .imul, 1, [], 0), (45, .iastore, 1, [], 0), (46, .iinc 2 1, 3, [], 0), (49, .goto (-30), 3, [], 0)]),
  (52, [(52, .aload_n 0, 1, [], 0), (53, .getfield 140, 3, [12, 6, 0, 0, 1328, 0], 0), (56, .iconst 1, 1, [], 0), (57, .isub, 1, [], 0), (58, .istore_n 2, 1, [], 0)]),
  (59, [(59, .iload_n 2, 1, [], 0), (60, .ifCond .lt 59, 3, [], 0)]),
  (63, [(63, .aload_n 0, 1, [], 0), (64, .getfield 89, 3, [12, 55, 540, 1, 1377, 0], 26), (67, .iload_n 2, 1, [], 0), (68, .aload_n 0, 1, [], 0), (69, .getfield 89, 3, [12, 55, 540, 1, 1377, 0], 26), (72, .iload_n 2, 1, [], 0), (73, .iaload, 1, [], 0), (74, .aload_n 0, 1, [], 0), (75, .getfield 89, 3, [12, 55, 540, 1, 1377, 0], 26), (78, .iload_n 2, 1, [], 0), (79, .iconst 1, 1, [], 0), (80, .iadd, 1, [], 0), (81, .iaload, 1, [], 0), (82, .i2l, 1, [], 0), (83, .invokestatic 150, 3, [2, 0, 3, 92, 1314, 1], 0), (86, .ldc2_w 125, 3, [1, 1321], 2), (89, .aload_n 0, 1, [], 0), (90, .getfield 71, 3, [12, 35, 532, 1, 1357, 0], 20), (93, .iload_n 2, 1, [], 0), (94, .iaload, 1, [], 0), (95, .i2l, 1, [], 0), (96, .lmul, 1, [], 0), (97, .aload_n 0, 1, [], 0), (98, .getfield 46, 3, [12, 17, 532, 1, 1339, 0], 12), (101, .iload_n 2, 1, [], 0), (102, .iaload, 1, [], 0), (103, .i2l, 1, [], 0), (104, .lmul, 1, [], 0), (105, .ladd, 1, [], 0), (106, .invokestatic 154, 3, [1, 1, 3, 93, 1317, 1], 0), (109, .invokestatic 258, 3, [1, 2, 3, 261, 1596, 0, 0], 0), (112, .iastore, 1, [], 0), (113, .iinc 2 (-1), 3, [], 0), (116, .goto (-57), 3, [], 0)]),
  (119, [(119, .iconst 0, 1, [], 0), (120, .istore_n 2, 1, [], 0)]),
  (121, [(121, .iload_n 2, 1, [], 0), (122, .aload_n 0, 1, [], 0), (123, .getfield 140, 3, [12, 6, 0, 0, 1328, 0], 0), (126, .if_icmp .ge 61, 3, [], 0)]),
  (129, [(129, .aload_n 0, 1, [], 0), (130, .getfield 89, 3, [12, 55, 540, 1, 1377, 0], 26), (133, .iload_n 2, 1, [], 0), (134, .iconst 1, 1, [], 0), (135, .iadd, 1, [], 0), (136, .aload_n 0, 1, [], 0), (137, .getfield 89, 3, [12, 55, 540, 1, 1377, 0], 26), (140, .iload_n 2, 1, [], 0), (141, .iconst 1, 1, [], 0), (142, .iadd, 1, [], 0), (143, .iaload, 1, [], 0), (144, .aload_n 0, 1, [], 0), (145, .getfield 89, 3, [12, 55, 540, 1, 1377, 0], 26), (148, .iload_n 2, 1, [], 0), (149, .iaload, 1, [], 0), (150, .i2l, 1, [], 0), (151, .invokestatic 150, 3, [2, 0, 3, 92, 1314, 1], 0), (154, .ldc2_w 125, 3, [1, 1321], 2), (157, .aload_n 0, 1, [], 0), (158, .getfield 71, 3, [12, 35, 532, 1, 1357, 0], 20), (161, .iload_n 2, 1, [], 0), (162, .iaload, 1, [], 0), (163, .i2l, 1, [], 0), (164, .lmul, 1, [], 0), (165, .aload_n 0, 1, [], 0), (166, .getfield 46, 3, [12, 17, 532, 1, 1339, 0], 12), (169, .iload_n 2, 1, [], 0), (170, .iaload, 1, [], 0), (171, .i2l, 1, [], 0), (172, .lmul, 1, [], 0), (173, .ladd, 1, [], 0), (174, .invokestatic 154, 3, [1, 1, 3, 93, 1317, 1], 0), (177, .invokestatic 258, 3, [1, 2, 3, 261, 1596, 0, 0], 0), (180, .iastore, 1, [], 0), (181, .iinc 2 1, 3, [], 0), (184, .goto (-63), 3, [], 0)]),
  (187, [(187, .aload_n 0, 1, [], 0), (188, .getfield 89, 3, [12, 55, 540, 1, 1377, 0], 26), (191, .iload_n 1, 1, [], 0), (192, .iaload, 1, [], 0), (193, .ireturn, 1, [], 0)])]
def BX12_passes_19 (n : Nat) : Nat → Int → Int → Hp → Option (Int × Hp)
  | 0, _, _, _ => none
  | f + 1, x1, x2, h =>
    (if (h 113 6) ≤ x2 then
    (some (x1, h))
    else
    (grd (0 ≤ (w32 (x2 - 1)) ∧ (w32 (x2 - 1)) < alen 532)
    (grd (0 ≤ x2 ∧ x2 < alen 540)
    (ltt (up h 139 x2 (w32 ((h 137 (w32 (x2 - 1))) * (h 113 40)))) fun h1 =>
    (ltt (w32 (x2 + 1)) fun y1 =>
    (BX12_passes_19 n f x1 y1 h1))))))
def BX12_passes_59 (n : Nat) : Nat → Int → Int → Hp → Option (Int × Hp)
  | 0, _, _, _ => none
  | f + 1, x1, x2, h =>
    (if x2 < 0 then
    (some (x1, h))
    else
    (grd (0 ≤ x2 ∧ x2 < alen 540)
    (grd (0 ≤ (w32 (x2 + 1)) ∧ (w32 (x2 + 1)) < alen 540)
    (bndp (MX12_square (h 139 (w32 (x2 + 1)))) fun r1 =>
    (grd (0 ≤ x2 ∧ x2 < alen 532)
    (grd (0 ≤ x2 ∧ x2 < alen 532)
    (bndp (MX12_root n (w64 (r1 + (w64 ((w64 (2 * (h 133 x2))) * (h 125 x2)))))) fun r2 =>
    (grd (0 ≤ x2 ∧ x2 < alen 540)
    (ltt (up h 139 x2 (min (h 139 x2) r2)) fun h1 =>
    (ltt (w32 (x2 + (-1))) fun y1 =>
    (BX12_passes_59 n f x1 y1 h1)))))))))))
def BX12_passes_121 (n : Nat) : Nat → Int → Int → Hp → Option (Int × Hp)
  | 0, _, _, _ => none
  | f + 1, x1, x2, h =>
    (if (h 113 6) ≤ x2 then
    (grd (0 ≤ x1 ∧ x1 < alen 540)
    (some ((h 139 x1), h)))
    else
    (grd (0 ≤ (w32 (x2 + 1)) ∧ (w32 (x2 + 1)) < alen 540)
    (grd (0 ≤ x2 ∧ x2 < alen 540)
    (bndp (MX12_square (h 139 x2)) fun r1 =>
    (grd (0 ≤ x2 ∧ x2 < alen 532)
    (grd (0 ≤ x2 ∧ x2 < alen 532)
    (bndp (MX12_root n (w64 (r1 + (w64 ((w64 (2 * (h 133 x2))) * (h 125 x2)))))) fun r2 =>
    (grd (0 ≤ (w32 (x2 + 1)) ∧ (w32 (x2 + 1)) < alen 540)
    (ltt (up h 139 (w32 (x2 + 1)) (min (h 139 (w32 (x2 + 1))) r2)) fun h1 =>
    (ltt (w32 (x2 + 1)) fun y1 =>
    (BX12_passes_121 n f x1 y1 h1)))))))))))
def LX12_passes_121 (n : Nat) (x1 x2 : Int) (h : Hp) : Option (Int × Hp) :=
(BX12_passes_121 n n x1 x2 h)
def JX12_passes_119 (n : Nat) (x1 : Int) (h : Hp) : Option (Int × Hp) :=
(ltt 0 fun y1 =>
(LX12_passes_121 n x1 y1 h))
def LX12_passes_59 (n : Nat) (x1 x2 : Int) (h : Hp) : Option (Int × Hp) :=
(bndx (BX12_passes_59 n n x1 x2 h) fun (e1, h1) =>
(JX12_passes_119 n e1 h1))
def JX12_passes_52 (n : Nat) (x1 : Int) (h : Hp) : Option (Int × Hp) :=
(ltt (w32 ((h 113 6) - 1)) fun y1 =>
(LX12_passes_59 n x1 y1 h))
def LX12_passes_19 (n : Nat) (x1 x2 : Int) (h : Hp) : Option (Int × Hp) :=
(bndx (BX12_passes_19 n n x1 x2 h) fun (e1, h1) =>
(JX12_passes_52 n e1 h1))
def MX12_passes (n : Nat) (x1 : Int) (h : Hp) : Option (Int × Hp) :=
(grd (0 ≤ 0 ∧ 0 < alen 540)
(ltt (up h 139 0 0) fun h1 =>
(grd (0 ≤ (h1 113 6) ∧ (h1 113 6) < alen 540)
(ltt (up h1 139 (h1 113 6) 0) fun h2 =>
(ltt 1 fun y1 =>
(LX12_passes_19 n x1 y1 h2))))))
def wX12_passes {ρ : Type} (n : Nat) : FN ρ := fun a h k => match a with
  | [_, x1] => bnd (MX12_passes n x1 h) (fun r h2 => k r h2)
  | _ => none
def fsX12_passes (n : Nat) (ρ : Type) : List (FN ρ) := [wX12_square, wX12_root n, fmin]
def KBX12_passes_19 (_ : Nat) (bk : Int → Int → Hp → Option (Int × Hp)) : CT (Int × Hp) := [(19, [(0, 16, (some 113)), (1, 0, none), (2, 0, none)], [], fun a c h => match a, c with
    | [x1, x2], [] => bk x1 x2 h
    | _, _ => none),
  (52, [(0, 16, (some 113)), (1, 0, none)], [], fun a c h => match a, c with
    | [x1], [] => some (x1, h)
    | _, _ => none)]
set_option maxRecDepth 100000 in
theorem eBX12_passes_19 (n f : Nat) (x1 : Int) (x2 : Int) (h : Hp) : BX12_passes_19 n (f + 1) x1 x2 h =
  goAt false (kct (KBX12_passes_19 n (BX12_passes_19 n f))) (fun _ _ => none) (fsX12_passes n _) sdX12_passes 1000 19 [(0, 16, 113), (1, 0, x1), (2, 0, x2)] [] h := rfl
def KBX12_passes_59 (_ : Nat) (bk : Int → Int → Hp → Option (Int × Hp)) : CT (Int × Hp) := [(59, [(0, 16, (some 113)), (1, 0, none), (2, 0, none)], [], fun a c h => match a, c with
    | [x1, x2], [] => bk x1 x2 h
    | _, _ => none),
  (119, [(0, 16, (some 113)), (1, 0, none)], [], fun a c h => match a, c with
    | [x1], [] => some (x1, h)
    | _, _ => none)]
set_option maxRecDepth 100000 in
theorem eBX12_passes_59 (n f : Nat) (x1 : Int) (x2 : Int) (h : Hp) : BX12_passes_59 n (f + 1) x1 x2 h =
  goAt false (kct (KBX12_passes_59 n (BX12_passes_59 n f))) (fun _ _ => none) (fsX12_passes n _) sdX12_passes 1000 59 [(0, 16, 113), (1, 0, x1), (2, 0, x2)] [] h := rfl
def KBX12_passes_121 (_ : Nat) (bk : Int → Int → Hp → Option (Int × Hp)) : CT (Int × Hp) := [(121, [(0, 16, (some 113)), (1, 0, none), (2, 0, none)], [], fun a c h => match a, c with
    | [x1, x2], [] => bk x1 x2 h
    | _, _ => none)]
set_option maxRecDepth 100000 in
theorem eBX12_passes_121 (n f : Nat) (x1 : Int) (x2 : Int) (h : Hp) : BX12_passes_121 n (f + 1) x1 x2 h =
  goAt false (kct (KBX12_passes_121 n (BX12_passes_121 n f))) (fun v h => some ((v, h))) (fsX12_passes n _) sdX12_passes 1000 121 [(0, 16, 113), (1, 0, x1), (2, 0, x2)] [] h := rfl
def KJX12_passes_119 (n : Nat) : CT (Int × Hp) := [(121, [(0, 16, (some 113)), (1, 0, none), (2, 0, none)], [], fun a c h => match a, c with
    | [x1, x2], [] => LX12_passes_121 n x1 x2 h
    | _, _ => none)]
set_option maxRecDepth 100000 in
theorem eJX12_passes_119 (n : Nat) (x1 : Int) (h : Hp) : JX12_passes_119 n x1 h =
  goAt false (kct (KJX12_passes_119 n)) (fun v h => some ((v, h))) (fsX12_passes n _) sdX12_passes 1000 119 [(0, 16, 113), (1, 0, x1)] [] h := rfl
def KJX12_passes_52 (n : Nat) : CT (Int × Hp) := [(59, [(0, 16, (some 113)), (1, 0, none), (2, 0, none)], [], fun a c h => match a, c with
    | [x1, x2], [] => LX12_passes_59 n x1 x2 h
    | _, _ => none)]
set_option maxRecDepth 100000 in
theorem eJX12_passes_52 (n : Nat) (x1 : Int) (h : Hp) : JX12_passes_52 n x1 h =
  goAt false (kct (KJX12_passes_52 n)) (fun v h => some ((v, h))) (fsX12_passes n _) sdX12_passes 1000 52 [(0, 16, 113), (1, 0, x1)] [] h := rfl
def KMX12_passes (n : Nat) : CT (Int × Hp) := [(19, [(0, 16, (some 113)), (1, 0, none), (2, 0, none)], [], fun a c h => match a, c with
    | [x1, x2], [] => LX12_passes_19 n x1 x2 h
    | _, _ => none)]
set_option maxRecDepth 100000 in
theorem eMX12_passes (n : Nat) (x1 : Int) (h : Hp) : MX12_passes n x1 h =
  goAt false (kct (KMX12_passes n)) (fun v h => some ((v, h))) (fsX12_passes n _) sdX12_passes 1000 0 [(0, 16, 113), (1, 0, x1)] [] h := rfl
theorem okX12_passes : mokb (mi 117) = true := by decide +kernel
theorem rkX12_passes : rkOK 1 (mi 117).1.2.2.2.2.2.2.1 (mi 117).1.2.2.2.1 := Or.inr (Or.inl ⟨rfl, rfl, rfl⟩)
def calX12_passes : List Nat := [92, 93, 261]
theorem foX12_passes {l : Launch} {ρ : Type} (n : Nat) : fsOK l false mi calX12_passes (fsX12_passes n ρ) := ⟨sndX12_square, ⟨(sndX12_root n), ⟨snd_mmin, trivial⟩⟩⟩
theorem ok_sdX12_passes : sdb (mi 117).1.2.1 (insOK mi (mi 117).1.1.cls (mi 117).1.2.2.1 (mi 117).1.2.2.2.2.1 (mi 117).1.2.2.2.2.2.1 calX12_passes false 1) sdX12_passes = true := by decide +kernel
def GX12_passes_19 (l : Launch) (h0 : Hp) (h' : Hp) (v : Int) (_ : Hp) : (Int × Hp) → Prop
  | (e1, h1) => PAt l false (mi 117).1 h0 v h' 52 [(0, 16, 113), (1, 0, e1)] [] h1
def GX12_passes_59 (l : Launch) (h0 : Hp) (h' : Hp) (v : Int) (_ : Hp) : (Int × Hp) → Prop
  | (e1, h1) => PAt l false (mi 117).1 h0 v h' 119 [(0, 16, 113), (1, 0, e1)] [] h1
theorem sBX12_passes_19 {l : Launch} {h0 h' : Hp} {v : Int} (h8 : nOf h0 = 148) (n : Nat) : ∀ (f : Nat) (x1 : Int) (x2 : Int) (h : Hp) {r : Int × Hp}, BX12_passes_19 n f x1 x2 h = some r → GX12_passes_19 l h0 h' v h r → PAt l false (mi 117).1 h0 v h' 19 [(0, 16, 113), (1, 0, x1), (2, 0, x2)] [] h := by
  intro f
  induction f with
  | zero =>
    intro x1 x2 h r H _
    have H2 : (none : Option (Int × Hp)) = some r := H
    cases H2
  | succ f ih =>
    intro x1 x2 h r H hG
    exact pat_w ok_sdX12_passes rkX12_passes h8 (foX12_passes n) (fun v1 h1 q => by cases q) (List.forall_mem_cons.mpr ⟨(fun a c h H => by
      dsimp only at H
      split at H
      · exact ih _ _ _ H hG
      · cases H), (List.forall_mem_cons.mpr ⟨(fun a c h H => by
      dsimp only at H
      split at H
      · cases H
        exact hG
      · cases H), (fun q9 h9 => by cases h9)⟩)⟩) ((eBX12_passes_19 n f x1 x2 h).symm.trans H)
theorem sBX12_passes_59 {l : Launch} {h0 h' : Hp} {v : Int} (h8 : nOf h0 = 148) (n : Nat) : ∀ (f : Nat) (x1 : Int) (x2 : Int) (h : Hp) {r : Int × Hp}, BX12_passes_59 n f x1 x2 h = some r → GX12_passes_59 l h0 h' v h r → PAt l false (mi 117).1 h0 v h' 59 [(0, 16, 113), (1, 0, x1), (2, 0, x2)] [] h := by
  intro f
  induction f with
  | zero =>
    intro x1 x2 h r H _
    have H2 : (none : Option (Int × Hp)) = some r := H
    cases H2
  | succ f ih =>
    intro x1 x2 h r H hG
    exact pat_w ok_sdX12_passes rkX12_passes h8 (foX12_passes n) (fun v1 h1 q => by cases q) (List.forall_mem_cons.mpr ⟨(fun a c h H => by
      dsimp only at H
      split at H
      · exact ih _ _ _ H hG
      · cases H), (List.forall_mem_cons.mpr ⟨(fun a c h H => by
      dsimp only at H
      split at H
      · cases H
        exact hG
      · cases H), (fun q9 h9 => by cases h9)⟩)⟩) ((eBX12_passes_59 n f x1 x2 h).symm.trans H)
theorem sBX12_passes_121 {l : Launch} {h0 h' : Hp} {v : Int} (h8 : nOf h0 = 148) (n : Nat) : ∀ (f : Nat) (x1 : Int) (x2 : Int) (h : Hp) {r : Int × Hp}, BX12_passes_121 n f x1 x2 h = some r → gWV v h' r → PAt l false (mi 117).1 h0 v h' 121 [(0, 16, 113), (1, 0, x1), (2, 0, x2)] [] h := by
  intro f
  induction f with
  | zero =>
    intro x1 x2 h r H _
    have H2 : (none : Option (Int × Hp)) = some r := H
    cases H2
  | succ f ih =>
    intro x1 x2 h r H hG
    exact pat_w ok_sdX12_passes rkX12_passes h8 (foX12_passes n) (fun v1 h1 q => by
    cases q
    exact ⟨hG.1, fun _ => hG.2⟩) (List.forall_mem_cons.mpr ⟨(fun a c h H => by
      dsimp only at H
      split at H
      · exact ih _ _ _ H hG
      · cases H), (fun q9 h9 => by cases h9)⟩) ((eBX12_passes_121 n f x1 x2 h).symm.trans H)
theorem sLX12_passes_121 {l : Launch} {h0 h' : Hp} {v : Int} (h8 : nOf h0 = 148) (n : Nat) (x1 : Int) (x2 : Int) (h : Hp) {r : Int × Hp} (H : LX12_passes_121 n x1 x2 h = some r) (hG : gWV v h' r) : PAt l false (mi 117).1 h0 v h' 121 [(0, 16, 113), (1, 0, x1), (2, 0, x2)] [] h :=
  sBX12_passes_121 h8 n n x1 x2 h H hG
theorem sJX12_passes_119 {l : Launch} {h0 h' : Hp} {v : Int} (h8 : nOf h0 = 148) (n : Nat) (x1 : Int) (h : Hp) {r : Int × Hp} (H : JX12_passes_119 n x1 h = some r) (hG : gWV v h' r) : PAt l false (mi 117).1 h0 v h' 119 [(0, 16, 113), (1, 0, x1)] [] h :=
  pat_w ok_sdX12_passes rkX12_passes h8 (foX12_passes n) (fun v1 h1 q => by
    cases q
    exact ⟨hG.1, fun _ => hG.2⟩) (List.forall_mem_cons.mpr ⟨(fun a c h H => by
      dsimp only at H
      split at H
      · exact sLX12_passes_121 h8 n _ _ _ H hG
      · cases H), (fun q9 h9 => by cases h9)⟩) ((eJX12_passes_119 n x1 h).symm.trans H)
theorem sLX12_passes_59 {l : Launch} {h0 h' : Hp} {v : Int} (h8 : nOf h0 = 148) (n : Nat) (x1 : Int) (x2 : Int) (h : Hp) {r : Int × Hp} (H : LX12_passes_59 n x1 x2 h = some r) (hG : gWV v h' r) : PAt l false (mi 117).1 h0 v h' 59 [(0, 16, 113), (1, 0, x1), (2, 0, x2)] [] h := by
  obtain ⟨e9, h2, h3⟩ := bndx_some H
  obtain ⟨e1, h1⟩ := e9
  exact sBX12_passes_59 h8 n n x1 x2 h h2 (sJX12_passes_119 h8 n e1 h1 h3 hG)
theorem sJX12_passes_52 {l : Launch} {h0 h' : Hp} {v : Int} (h8 : nOf h0 = 148) (n : Nat) (x1 : Int) (h : Hp) {r : Int × Hp} (H : JX12_passes_52 n x1 h = some r) (hG : gWV v h' r) : PAt l false (mi 117).1 h0 v h' 52 [(0, 16, 113), (1, 0, x1)] [] h :=
  pat_w ok_sdX12_passes rkX12_passes h8 (foX12_passes n) (fun v1 h1 q => by
    cases q
    exact ⟨hG.1, fun _ => hG.2⟩) (List.forall_mem_cons.mpr ⟨(fun a c h H => by
      dsimp only at H
      split at H
      · exact sLX12_passes_59 h8 n _ _ _ H hG
      · cases H), (fun q9 h9 => by cases h9)⟩) ((eJX12_passes_52 n x1 h).symm.trans H)
theorem sLX12_passes_19 {l : Launch} {h0 h' : Hp} {v : Int} (h8 : nOf h0 = 148) (n : Nat) (x1 : Int) (x2 : Int) (h : Hp) {r : Int × Hp} (H : LX12_passes_19 n x1 x2 h = some r) (hG : gWV v h' r) : PAt l false (mi 117).1 h0 v h' 19 [(0, 16, 113), (1, 0, x1), (2, 0, x2)] [] h := by
  obtain ⟨e9, h2, h3⟩ := bndx_some H
  obtain ⟨e1, h1⟩ := e9
  exact sBX12_passes_19 h8 n n x1 x2 h h2 (sJX12_passes_52 h8 n e1 h1 h3 hG)
theorem sMX12_passes {l : Launch} {h0 h' : Hp} {v : Int} (h8 : nOf h0 = 148) (n : Nat) (x1 : Int) (h : Hp) {r : Int × Hp} (H : MX12_passes n x1 h = some r) (hG : gWV v h' r) : PAt l false (mi 117).1 h0 v h' 0 [(0, 16, 113), (1, 0, x1)] [] h :=
  pat_w ok_sdX12_passes rkX12_passes h8 (foX12_passes n) (fun v1 h1 q => by
    cases q
    exact ⟨hG.1, fun _ => hG.2⟩) (List.forall_mem_cons.mpr ⟨(fun a c h H => by
      dsimp only at H
      split at H
      · exact sLX12_passes_19 h8 n _ _ _ H hG
      · cases H), (fun q9 h9 => by cases h9)⟩) ((eMX12_passes n x1 h).symm.trans H)
theorem sndX12_passes {ρ : Type} {l : Launch} (n : Nat) : SndF (ρ := ρ) l false (mi 117).1 (wX12_passes n) := by
    intro a h k r H ha ho hn hf
    have h8 := hf rfl
    obtain ⟨x0, x1, rfl⟩ := len2 (show a.length = 2 from ha)
    have u0 := uq16 hn (ho (16, x0) (List.mem_cons_self))
    subst u0
    replace H : bnd (MX12_passes n x1 h) (fun r h2 => k r h2) = some r := H
    obtain ⟨v2, h2, H1, H2⟩ := bnd_some H
    exact ⟨v2, h2, H2, met_mk (mok_base okX12_passes).1 (by decide +kernel) (Nat.le_of_ble_eq_true rfl) ho (sMX12_passes h8 n x1 h H1 ⟨rfl, rfl⟩), fun q => by cases q⟩
/-! X12_block -/
def sdX12_block : SD := [(0, [(0, .iload_n 1, 1, [], 0), (1, .i2l, 1, [], 0), (2, .lconst 0, 1, [], 0), (3, .aload_n 0, 1, [], 0), (4, .getfield 140, 3, [12, 6, 0, 0, 1328, 0], 0), (7, .iconst 1, 1, [], 0), (8, .isub, 1, [], 0), (9, .i2l, 1, [], 0), (10, .invokestatic 217, 3, [1, 0, 3, 81, 1561, 1, 1, 1], 0), (13, .ifCond .ne 5, 3, [], 0)]),
  (16, [(16, .iconst (-1), 1, [], 0), (17, .ireturn, 1, [], 0)]),
  (18, [(18, .aload_n 0, 1, [], 0), (19, .invokevirtual 459, 3, [0, 1, 1, 116, 1673, 16], 0), (22, .iload_n 2, 1, [], 0), (23, .tableswitch 114 0 9 #[53, 53, 53, 66, 73, 80, 87, 94, 101, 107], 53, [], 0)]),
  (76, [(76, .aload_n 0, 1, [], 0), (77, .getfield 37, 3, [12, 14, 1580, 1, 1336, 0], 9), (80, .iconst 3, 1, [], 0), (81, .iload_n 1, 1, [], 0), (82, .iconst 1, 1, [], 0), (83, .iadd, 1, [], 0), (84, .imul, 1, [], 0), (85, .iload_n 2, 1, [], 0), (86, .iadd, 1, [], 0), (87, .iaload, 1, [], 0), (88, .ireturn, 1, [], 0)]),
  (89, [(89, .aload_n 0, 1, [], 0), (90, .getfield 46, 3, [12, 17, 532, 1, 1339, 0], 12), (93, .iload_n 1, 1, [], 0), (94, .iaload, 1, [], 0), (95, .ireturn, 1, [], 0)]),
  (96, [(96, .aload_n 0, 1, [], 0), (97, .getfield 40, 3, [12, 15, 532, 1, 1337, 0], 10), (100, .iload_n 1, 1, [], 0), (101, .iaload, 1, [], 0), (102, .ireturn, 1, [], 0)]),
  (103, [(103, .aload_n 0, 1, [], 0), (104, .getfield 68, 3, [12, 34, 532, 1, 1356, 0], 19), (107, .iload_n 1, 1, [], 0), (108, .iaload, 1, [], 0), (109, .ireturn, 1, [], 0)]),
  (110, [(110, .aload_n 0, 1, [], 0), (111, .getfield 71, 3, [12, 35, 532, 1, 1357, 0], 20), (114, .iload_n 1, 1, [], 0), (115, .iaload, 1, [], 0), (116, .ireturn, 1, [], 0)]),
  (117, [(117, .aload_n 0, 1, [], 0), (118, .getfield 74, 3, [12, 36, 532, 1, 1358, 0], 21), (121, .iload_n 1, 1, [], 0), (122, .iaload, 1, [], 0), (123, .ireturn, 1, [], 0)]),
  (124, [(124, .aload_n 0, 1, [], 0), (125, .iload_n 1, 1, [], 0), (126, .invokevirtual 470, 3, [1, 2, 1, 117, 1782, 0, 16], 0), (129, .ireturn, 1, [], 0)]),
  (130, [(130, .aload_n 0, 1, [], 0), (131, .getfield 43, 3, [12, 16, 532, 1, 1338, 0], 11), (134, .iload_n 1, 1, [], 0), (135, .iaload, 1, [], 0), (136, .ireturn, 1, [], 0)]),
  (137, [(137, .iconst (-1), 1, [], 0), (138, .ireturn, 1, [], 0)])]
def JX12_block_76 (n : Nat) (x1 x2 : Int) (h : Hp) : Option (Int × Hp) :=
(grd (0 ≤ (w32 ((w32 (3 * (w32 (x1 + 1)))) + x2)) ∧ (w32 ((w32 (3 * (w32 (x1 + 1)))) + x2)) < alen 1580)
(some ((h 122 (w32 ((w32 (3 * (w32 (x1 + 1)))) + x2))), h)))
def MX12_block (n : Nat) (x1 x2 : Int) (h : Hp) : Option (Int × Hp) :=
(bndp (MX12_in x1 0 (w32 ((h 113 6) - 1))) fun r1 =>
(if r1 ≠ 0 then
(bndh (MX12_laysNow n h) fun h1 =>
(if x2 = 0 then
(JX12_block_76 n x1 x2 h1)
else
(if x2 = 1 then
(JX12_block_76 n x1 x2 h1)
else
(if x2 = 2 then
(JX12_block_76 n x1 x2 h1)
else
(if x2 = 3 then
(grd (0 ≤ x1 ∧ x1 < alen 532)
(some ((h1 125 x1), h1)))
else
(if x2 = 4 then
(grd (0 ≤ x1 ∧ x1 < alen 532)
(some ((h1 123 x1), h1)))
else
(if x2 = 5 then
(grd (0 ≤ x1 ∧ x1 < alen 532)
(some ((h1 132 x1), h1)))
else
(if x2 = 6 then
(grd (0 ≤ x1 ∧ x1 < alen 532)
(some ((h1 133 x1), h1)))
else
(if x2 = 7 then
(grd (0 ≤ x1 ∧ x1 < alen 532)
(some ((h1 134 x1), h1)))
else
(if x2 = 8 then
(bnd (MX12_passes n x1 h1) fun r2 h2 =>
(some (r2, h2)))
else
(if x2 = 9 then
(grd (0 ≤ x1 ∧ x1 < alen 532)
(some ((h1 124 x1), h1)))
else
(some ((-1), h1)))))))))))))
else
(some ((-1), h))))
def wX12_block {ρ : Type} (n : Nat) : FN ρ := fun a h k => match a with
  | [_, x1, x2] => bnd (MX12_block n x1 x2 h) (fun r h2 => k r h2)
  | _ => none
def fsX12_block (n : Nat) (ρ : Type) : List (FN ρ) := [wX12_in, wX12_laysNow n, wX12_passes n]
def KJX12_block_76 (_ : Nat) : CT (Int × Hp) := []
set_option maxRecDepth 100000 in
theorem eJX12_block_76 (n : Nat) (x1 : Int) (x2 : Int) (h : Hp) : JX12_block_76 n x1 x2 h =
  goAt false (kct (KJX12_block_76 n)) (fun v h => some ((v, h))) (fsX12_block n _) sdX12_block 1000 76 [(0, 16, 113), (1, 0, x1), (2, 0, x2)] [] h := rfl
def KMX12_block (n : Nat) : CT (Int × Hp) := [(76, [(0, 16, (some 113)), (1, 0, none), (2, 0, none)], [], fun a c h => match a, c with
    | [x1, x2], [] => JX12_block_76 n x1 x2 h
    | _, _ => none)]
set_option maxRecDepth 100000 in
theorem eMX12_block (n : Nat) (x1 : Int) (x2 : Int) (h : Hp) : MX12_block n x1 x2 h =
  goAt false (kct (KMX12_block n)) (fun v h => some ((v, h))) (fsX12_block n _) sdX12_block 1000 0 [(0, 16, 113), (1, 0, x1), (2, 0, x2)] [] h := rfl
theorem okX12_block : mokb (mi 118) = true := by decide +kernel
theorem rkX12_block : rkOK 1 (mi 118).1.2.2.2.2.2.2.1 (mi 118).1.2.2.2.1 := Or.inr (Or.inl ⟨rfl, rfl, rfl⟩)
def calX12_block : List Nat := [81, 116, 117]
theorem foX12_block {l : Launch} {ρ : Type} (n : Nat) : fsOK l false mi calX12_block (fsX12_block n ρ) := ⟨sndX12_in, ⟨(sndX12_laysNow n), ⟨(sndX12_passes n), trivial⟩⟩⟩
theorem ok_sdX12_block : sdb (mi 118).1.2.1 (insOK mi (mi 118).1.1.cls (mi 118).1.2.2.1 (mi 118).1.2.2.2.2.1 (mi 118).1.2.2.2.2.2.1 calX12_block false 1) sdX12_block = true := by decide +kernel
theorem sJX12_block_76 {l : Launch} {h0 h' : Hp} {v : Int} (h8 : nOf h0 = 148) (n : Nat) (x1 : Int) (x2 : Int) (h : Hp) {r : Int × Hp} (H : JX12_block_76 n x1 x2 h = some r) (hG : gWV v h' r) : PAt l false (mi 118).1 h0 v h' 76 [(0, 16, 113), (1, 0, x1), (2, 0, x2)] [] h :=
  pat_w ok_sdX12_block rkX12_block h8 (foX12_block n) (fun v1 h1 q => by
    cases q
    exact ⟨hG.1, fun _ => hG.2⟩) (fun q9 h9 => by cases h9) ((eJX12_block_76 n x1 x2 h).symm.trans H)
theorem sMX12_block {l : Launch} {h0 h' : Hp} {v : Int} (h8 : nOf h0 = 148) (n : Nat) (x1 : Int) (x2 : Int) (h : Hp) {r : Int × Hp} (H : MX12_block n x1 x2 h = some r) (hG : gWV v h' r) : PAt l false (mi 118).1 h0 v h' 0 [(0, 16, 113), (1, 0, x1), (2, 0, x2)] [] h :=
  pat_w ok_sdX12_block rkX12_block h8 (foX12_block n) (fun v1 h1 q => by
    cases q
    exact ⟨hG.1, fun _ => hG.2⟩) (List.forall_mem_cons.mpr ⟨(fun a c h H => by
      dsimp only at H
      split at H
      · exact sJX12_block_76 h8 n _ _ _ H hG
      · cases H), (fun q9 h9 => by cases h9)⟩) ((eMX12_block n x1 x2 h).symm.trans H)
theorem sndX12_block {ρ : Type} {l : Launch} (n : Nat) : SndF (ρ := ρ) l false (mi 118).1 (wX12_block n) := by
    intro a h k r H ha ho hn hf
    have h8 := hf rfl
    obtain ⟨x0, x1, x2, rfl⟩ := len3 (show a.length = 3 from ha)
    have u0 := uq16 hn (ho (16, x0) (List.mem_cons_self))
    subst u0
    replace H : bnd (MX12_block n x1 x2 h) (fun r h2 => k r h2) = some r := H
    obtain ⟨v2, h2, H1, H2⟩ := bnd_some H
    exact ⟨v2, h2, H2, met_mk (mok_base okX12_block).1 (by decide +kernel) (Nat.le_of_ble_eq_true rfl) ho (sMX12_block h8 n x1 x2 h H1 ⟨rfl, rfl⟩), fun q => by cases q⟩
/-! X10_hasCorner -/
def sdX10_hasCorner : SD := [(0, [(0, .iload_n 1, 1, [], 0), (1, .ifCond .lt 17, 3, [], 0)]),
  (4, [(4, .iload_n 1, 1, [], 0), (5, .aload_n 0, 1, [], 0), (6, .getfield 51, 3, [10, 11, 0, 0, 202, 0], 0), (9, .iconst 1, 1, [], 0), (10, .isub, 1, [], 0), (11, .if_icmp .ge 7, 3, [], 0)]),
  (14, [(14, .iconst 1, 1, [], 0), (15, .goto 4, 3, [], 0)]),
  (18, [(18, .iconst 0, 1, [], 0)]),
  (19, [(19, .ireturn, 1, [1], 0)])]
def MX10_hasCorner (x0 x1 : Int) (h : Hp) : Option (Int) :=
(if x1 < 0 then
(some 0)
else
(if (w32 ((h x0 11) - 1)) ≤ x1 then
(some 0)
else
(some 1)))
def wX10_hasCorner {ρ : Type} : FN ρ := fun a h k => match a with
  | [x0, x1] => bndp (MX10_hasCorner x0 x1 h) (fun r => k r h)
  | _ => none
def fsX10_hasCorner (ρ : Type) : List (FN ρ) := []
def KMX10_hasCorner  : CT (Int) := []
set_option maxRecDepth 100000 in
theorem eMX10_hasCorner (x0 : Int) (x1 : Int) (h : Hp) : MX10_hasCorner x0 x1 h =
  goAt false (kct (KMX10_hasCorner)) (fun v _ => some (v)) (fsX10_hasCorner _) sdX10_hasCorner 1000 0 [(0, 14, x0), (1, 0, x1)] [] h := rfl
theorem okX10_hasCorner : mokb (mi 119) = true := by decide +kernel
theorem rkX10_hasCorner : rkOK 4 (mi 119).1.2.2.2.2.2.2.1 (mi 119).1.2.2.2.1 := Or.inr (Or.inr (Or.inl ⟨rfl, rfl, rfl⟩))
def calX10_hasCorner : List Nat := []
theorem foX10_hasCorner {l : Launch} {ρ : Type} : fsOK l false mi calX10_hasCorner (fsX10_hasCorner ρ) := trivial
theorem frX10_hasCorner {ρ : Type} : ∀ fn ∈ fsX10_hasCorner ρ, RoF fn := (fun q9 h9 => by cases h9)
theorem ok_sdX10_hasCorner : sdb (mi 119).1.2.1 (insOK mi (mi 119).1.1.cls (mi 119).1.2.2.1 (mi 119).1.2.2.2.2.1 (mi 119).1.2.2.2.2.2.1 calX10_hasCorner false 4) sdX10_hasCorner = true := by decide +kernel
theorem sMX10_hasCorner {l : Launch} {h0 : Hp} {v : Int} (h8 : nOf h0 = 148)  (x0 : Int) (x1 : Int) (h : Hp) {r : Int} (H : MX10_hasCorner x0 x1 h = some r) (hG : gV v r) : PAt l false (mi 119).1 h0 v h 0 [(0, 14, x0), (1, 0, x1)] [] h :=
  pat_ro ok_sdX10_hasCorner rfl rkX10_hasCorner h8 (foX10_hasCorner) (frX10_hasCorner) (fun v1 q => by
    cases q
    exact ⟨rfl, fun _ => hG⟩) (fun q9 h9 => by cases h9) ((eMX10_hasCorner x0 x1 h).symm.trans H)
theorem sndX10_hasCorner {ρ : Type} {l : Launch} : SndF (ρ := ρ) l false (mi 119).1 (wX10_hasCorner) := by
    intro a h k r H ha ho hn hf
    have h8 := hf rfl
    obtain ⟨x0, x1, rfl⟩ := len2 (show a.length = 2 from ha)
    replace H : bndp (MX10_hasCorner x0 x1 h) (fun r => k r h) = some r := H
    obtain ⟨v2, H1, H2⟩ := bndp_some H
    exact ⟨v2, h, H2, met_mk (mok_base okX10_hasCorner).1 (by decide +kernel) (Nat.le_of_ble_eq_true rfl) ho (sMX10_hasCorner h8 x0 x1 h H1 rfl), fun q => by cases q⟩
theorem roX10_hasCorner {ρ : Type} : RoF (wX10_hasCorner : FN ρ) := fun a h k k2 hk => by
  unfold wX10_hasCorner
  split
  · exact bndp_ro hk
  · rfl
