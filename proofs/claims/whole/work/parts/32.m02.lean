/-! X10_add -/
def sdX10_add : SD := [(0, [(0, .aload_n 0, 1, [], 0), (1, .getfield 51, 3, [10, 11, 0, 0, 202, 0], 0), (4, .istore 5, 2, [], 0), (6, .iload 5, 2, [], 0), (8, .bipush 64, 2, [], 0), (10, .if_icmp .ge 30, 3, [], 0)]),
  (13, [(13, .iload_n 1, 1, [], 0), (14, .aload_n 0, 1, [], 0), (15, .iconst 0, 1, [], 0), (16, .invokevirtual 67, 3, [1, 0, 1, 31, 956, 0, 14], 0), (19, .if_icmp .ne 22, 3, [], 0)]),
  (22, [(22, .iload_n 2, 1, [], 0), (23, .aload_n 0, 1, [], 0), (24, .iconst 1, 1, [], 0), (25, .invokevirtual 67, 3, [1, 0, 1, 31, 956, 0, 14], 0), (28, .if_icmp .ne 13, 3, [], 0)]),
  (31, [(31, .iload_n 3, 1, [], 0), (32, .aload_n 0, 1, [], 0), (33, .iconst 2, 1, [], 0), (34, .invokevirtual 67, 3, [1, 0, 1, 31, 956, 0, 14], 0), (37, .if_icmp .ne 4, 3, [], 0)]),
  (40, [(40, .return_, 1, [], 0)]),
  (41, [(41, .aload_n 0, 1, [], 0), (42, .getfield 17, 3, [10, 1, 50, 1, 167, 0], 2), (45, .iconst 0, 1, [], 0), (46, .aaload, 1, [], 0), (47, .iload 5, 2, [], 0), (49, .iconst 1, 1, [], 0), (50, .iadd, 1, [], 0), (51, .iload_n 1, 1, [], 0), (52, .iastore, 1, [], 0), (53, .aload_n 0, 1, [], 0), (54, .getfield 17, 3, [10, 1, 50, 1, 167, 0], 2), (57, .iconst 1, 1, [], 0), (58, .aaload, 1, [], 0), (59, .iload 5, 2, [], 0), (61, .iconst 1, 1, [], 0), (62, .iadd, 1, [], 0), (63, .iload_n 2, 1, [], 0), (64, .iastore, 1, [], 0), (65, .aload_n 0, 1, [], 0), (66, .getfield 17, 3, [10, 1, 50, 1, 167, 0], 2), (69, .iconst 2, 1, [], 0), (70, .aaload, 1, [], 0), (71, .iload 5, 2, [], 0), (73, .iconst 1, 1, [], 0), (74, .iadd, 1, [], 0), (75, .iload_n 3, 1, [], 0), (76, .iastore, 1, [], 0), (77, .aload_n 0, 1, [], 0), (78, .iload 5, 2, [], 0), (80, .iconst 1, 1, [], 0), (81, .iadd, 1, [], 0), (82, .putfield 51, 3, [10, 11, 0, 0, 0, 202], 0), (85, .aload_n 0, 1, [], 0), (86, .getfield 20, 3, [10, 2, 532, 1, 172, 0], 6), (89, .iload 5, 2, [], 0), (91, .aload_n 0, 1, [], 0), (92, .iload 5, 2, [], 0), (94, .iconst 0, 1, [], 0), (95, .invokevirtual 71, 3, [1, 1, 1, 44, 957, 0, 0, 14], 0), (98, .i2l, 1, [], 0), (99, .invokestatic 75, 3, [2, 2, 4, 32, 958, 1], 0), (102, .aload_n 0, 1, [], 0), (103, .iload 5, 2, [], 0), (105, .iconst 1, 1, [], 0), (106, .invokevirtual 71, 3, [1, 1, 1, 44, 957, 0, 0, 14], 0), (109, .i2l, 1, [], 0), (110, .invokestatic 75, 3, [2, 2, 4, 32, 958, 1], 0), (113, .ladd, 1, [], 0), (114, .aload_n 0, 1, [], 0), (115, .iload 5, 2, [], 0), (117, .iconst 2, 1, [], 0), (118, .invokevirtual 71, 3, [1, 1, 1, 44, 957, 0, 0, 14], 0), (121, .i2l, 1, [], 0), (122, .invokestatic 75, 3, [2, 2, 4, 32, 958, 1], 0), (125, .ladd, 1, [], 0), (126, .invokestatic 79, 3, [1, 3, 4, 33, 959, 1], 0), (129, .iastore, 1, [], 0), (130, .aload_n 0, 1, [], 0), (131, .dup, 1, [], 0), (132, .getfield 60, 3, [10, 14, 0, 0, 213, 0], 0), (135, .aload_n 0, 1, [], 0), (136, .getfield 20, 3, [10, 2, 532, 1, 172, 0], 6), (139, .iload 5, 2, [], 0), (141, .iaload, 1, [], 0), (142, .iadd, 1, [], 0), (143, .putfield 60, 3, [10, 14, 0, 0, 0, 213], 0), (146, .aload_n 0, 1, [], 0), (147, .getfield 23, 3, [10, 3, 532, 1, 176, 0], 7), (150, .iload 5, 2, [], 0), (152, .aload_n 0, 1, [], 0), (153, .getfield 60, 3, [10, 14, 0, 0, 213, 0], 0), (156, .iastore, 1, [], 0), (157, .aload_n 0, 1, [], 0), (158, .getfield 26, 3, [10, 4, 532, 1, 179, 0], 8), (161, .iload 5, 2, [], 0), (163, .iload 4, 2, [], 0), (165, .iastore, 1, [], 0), (166, .aload_n 0, 1, [], 0), (167, .getfield 35, 3, [10, 7, 532, 1, 188, 0], 11), (170, .iload 5, 2, [], 0), (172, .aload_n 0, 1, [], 0), (173, .getfield 54, 3, [10, 12, 0, 0, 207, 0], 0), (176, .iastore, 1, [], 0), (177, .aload_n 0, 1, [], 0), (178, .getfield 29, 3, [10, 5, 532, 1, 182, 0], 9), (181, .iload 5, 2, [], 0), (183, .aload_n 0, 1, [], 0), (184, .iload 5, 2, [], 0), (186, .iconst 0, 1, [], 0), (187, .invokevirtual 83, 3, [1, 4, 1, 46, 960, 0, 0, 14], 0), (190, .iastore, 1, [], 0), (191, .aload_n 0, 1, [], 0), (192, .getfield 32, 3, [10, 6, 532, 1, 185, 0], 10), (195, .iload 5, 2, [], 0), (197, .aload_n 0, 1, [], 0), (198, .iload 5, 2, [], 0), (200, .iconst 3, 1, [], 0), (201, .invokevirtual 83, 3, [1, 4, 1, 46, 960, 0, 0, 14], 0), (204, .iastore, 1, [], 0), (205, .iload 5, 2, [], 0), (207, .ifCond .le 20, 3, [], 0)]),
  (210, [(210, .aload_n 0, 1, [], 0), (211, .getfield 38, 3, [10, 8, 532, 1, 190, 0], 12), (214, .iload 5, 2, [], 0), (216, .iconst 1, 1, [], 0), (217, .isub, 1, [], 0), (218, .aload_n 0, 1, [], 0), (219, .iload 5, 2, [], 0), (221, .iconst 1, 1, [], 0), (222, .isub, 1, [], 0), (223, .invokevirtual 86, 3, [1, 5, 1, 47, 974, 0, 14], 0), (226, .iastore, 1, [], 0)]),
  (227, [(227, .return_, 1, [], 0)])]
def JX10_add_41 (n : Nat) (x0 x1 x2 x3 x4 x5 : Int) (h : Hp) : Option (Hp) :=
(grd (0 ≤ 0 ∧ 0 < alen 50)
(grd (0 ≤ (w32 (x5 + 1)) ∧ (w32 (x5 + 1)) < alen 540)
(ltt (up h ((x0 + 2) + 1 + 0) (w32 (x5 + 1)) x1) fun h1 =>
(grd (0 ≤ 1 ∧ 1 < alen 50)
(grd (0 ≤ (w32 (x5 + 1)) ∧ (w32 (x5 + 1)) < alen 540)
(ltt (up h1 ((x0 + 2) + 1 + 1) (w32 (x5 + 1)) x2) fun h2 =>
(grd (0 ≤ 2 ∧ 2 < alen 50)
(grd (0 ≤ (w32 (x5 + 1)) ∧ (w32 (x5 + 1)) < alen 540)
(ltt (up h2 ((x0 + 2) + 1 + 2) (w32 (x5 + 1)) x3) fun h3 =>
(ltt (up h3 x0 11 (w32 (x5 + 1))) fun h4 =>
(bndp (MX10_step x0 x5 0 h4) fun r1 =>
(bndp (MX11_square r1) fun r2 =>
(bndp (MX10_step x0 x5 1 h4) fun r3 =>
(bndp (MX11_square r3) fun r4 =>
(bndp (MX10_step x0 x5 2 h4) fun r5 =>
(bndp (MX11_square r5) fun r6 =>
(bndp (MX11_root n (w64 ((w64 (r2 + r4)) + r6))) fun r7 =>
(grd (0 ≤ x5 ∧ x5 < alen 532)
(ltt (up h4 (x0 + 6) x5 r7) fun h5 =>
(grd (0 ≤ x5 ∧ x5 < alen 532)
(ltt (up h5 x0 14 (w32 ((h5 x0 14) + (h5 (x0 + 6) x5)))) fun h6 =>
(grd (0 ≤ x5 ∧ x5 < alen 532)
(ltt (up h6 (x0 + 7) x5 (h6 x0 14)) fun h7 =>
(grd (0 ≤ x5 ∧ x5 < alen 532)
(ltt (up h7 (x0 + 8) x5 x4) fun h8 =>
(grd (0 ≤ x5 ∧ x5 < alen 532)
(ltt (up h8 (x0 + 11) x5 (h8 x0 12)) fun h9 =>
(bndp (MX10_leastRate n x0 x5 0 h9) fun r8 =>
(grd (0 ≤ x5 ∧ x5 < alen 532)
(ltt (up h9 (x0 + 9) x5 r8) fun h10 =>
(bndp (MX10_leastRate n x0 x5 3 h10) fun r9 =>
(grd (0 ≤ x5 ∧ x5 < alen 532)
(ltt (up h10 (x0 + 10) x5 r9) fun h11 =>
(if x5 ≤ 0 then
(some h11)
else
(bndp (MX10_sharpness n x0 (w32 (x5 - 1)) h11) fun r10 =>
(grd (0 ≤ (w32 (x5 - 1)) ∧ (w32 (x5 - 1)) < alen 532)
(ltt (up h11 (x0 + 12) (w32 (x5 - 1)) r10) fun h12 =>
(some h12))))))))))))))))))))))))))))))))))))))
def MX10_add (n : Nat) (x0 x1 x2 x3 x4 : Int) (h : Hp) : Option (Hp) :=
(ltt (h x0 11) fun y1 =>
(if 64 ≤ y1 then
(some h)
else
(bndp (MX10_last x0 0 h) fun r1 =>
(if x1 ≠ r1 then
(JX10_add_41 n x0 x1 x2 x3 x4 y1 h)
else
(bndp (MX10_last x0 1 h) fun r2 =>
(if x2 ≠ r2 then
(JX10_add_41 n x0 x1 x2 x3 x4 y1 h)
else
(bndp (MX10_last x0 2 h) fun r3 =>
(if x3 ≠ r3 then
(JX10_add_41 n x0 x1 x2 x3 x4 y1 h)
else
(some h)))))))))
def wX10_add {ρ : Type} (n : Nat) : FN ρ := fun a h k => match a with
  | [x0, x1, x2, x3, x4] => bndh (MX10_add n x0 x1 x2 x3 x4 h) (fun h2 => k 0 h2)
  | _ => none
def fsX10_add (n : Nat) (ρ : Type) : List (FN ρ) := [wX10_last, wX10_step, wX11_square, wX11_root n, wX10_leastRate n, wX10_sharpness n]
def KJX10_add_41 (_ : Nat) : CT (Hp) := []
set_option maxRecDepth 100000 in
theorem eJX10_add_41 (n : Nat) (x0 : Int) (x1 : Int) (x2 : Int) (x3 : Int) (x4 : Int) (x5 : Int) (h : Hp) : JX10_add_41 n x0 x1 x2 x3 x4 x5 h =
  goAt false (kct (KJX10_add_41 n)) (fun _ h => some (h)) (fsX10_add n _) sdX10_add 1000 41 [(0, 14, x0), (1, 0, x1), (2, 0, x2), (3, 0, x3), (4, 0, x4), (5, 0, x5)] [] h := rfl
def KMX10_add (n : Nat) : CT (Hp) := [(41, [(0, 14, none), (1, 0, none), (2, 0, none), (3, 0, none), (4, 0, none), (5, 0, none)], [], fun a c h => match a, c with
    | [x0, x1, x2, x3, x4, x5], [] => JX10_add_41 n x0 x1 x2 x3 x4 x5 h
    | _, _ => none)]
set_option maxRecDepth 100000 in
theorem eMX10_add (n : Nat) (x0 : Int) (x1 : Int) (x2 : Int) (x3 : Int) (x4 : Int) (h : Hp) : MX10_add n x0 x1 x2 x3 x4 h =
  goAt false (kct (KMX10_add n)) (fun _ h => some (h)) (fsX10_add n _) sdX10_add 1000 0 [(0, 14, x0), (1, 0, x1), (2, 0, x2), (3, 0, x3), (4, 0, x4)] [] h := rfl
theorem okX10_add : mokb (mi 48) = true := by decide +kernel
theorem rkX10_add : rkOK 0 (mi 48).1.2.2.2.2.2.2.1 (mi 48).1.2.2.2.1 := Or.inl ⟨rfl, rfl, rfl⟩
def calX10_add : List Nat := [31, 44, 32, 33, 46, 47]
theorem foX10_add {l : Launch} {ρ : Type} (n : Nat) : fsOK l false mi calX10_add (fsX10_add n ρ) := ⟨sndX10_last, ⟨sndX10_step, ⟨sndX11_square, ⟨(sndX11_root n), ⟨(sndX10_leastRate n), ⟨(sndX10_sharpness n), trivial⟩⟩⟩⟩⟩⟩
theorem ok_sdX10_add : sdb (mi 48).1.2.1 (insOK mi (mi 48).1.1.cls (mi 48).1.2.2.1 (mi 48).1.2.2.2.2.1 (mi 48).1.2.2.2.2.2.1 calX10_add false 0) sdX10_add = true := by decide +kernel
theorem sJX10_add_41 {l : Launch} {h0 h' : Hp} {v : Int} (h8 : nOf h0 = 148) (n : Nat) (x0 : Int) (x1 : Int) (x2 : Int) (x3 : Int) (x4 : Int) (x5 : Int) (h : Hp) {r : Hp} (H : JX10_add_41 n x0 x1 x2 x3 x4 x5 h = some r) (hG : gW h' r) : PAt l false (mi 48).1 h0 v h' 41 [(0, 14, x0), (1, 0, x1), (2, 0, x2), (3, 0, x3), (4, 0, x4), (5, 0, x5)] [] h :=
  pat_w ok_sdX10_add rkX10_add h8 (foX10_add n) (fun v1 h1 q => by
    cases q
    exact ⟨hG, fun q9 => absurd rfl q9⟩) (fun q9 h9 => by cases h9) ((eJX10_add_41 n x0 x1 x2 x3 x4 x5 h).symm.trans H)
theorem sMX10_add {l : Launch} {h0 h' : Hp} {v : Int} (h8 : nOf h0 = 148) (n : Nat) (x0 : Int) (x1 : Int) (x2 : Int) (x3 : Int) (x4 : Int) (h : Hp) {r : Hp} (H : MX10_add n x0 x1 x2 x3 x4 h = some r) (hG : gW h' r) : PAt l false (mi 48).1 h0 v h' 0 [(0, 14, x0), (1, 0, x1), (2, 0, x2), (3, 0, x3), (4, 0, x4)] [] h :=
  pat_w ok_sdX10_add rkX10_add h8 (foX10_add n) (fun v1 h1 q => by
    cases q
    exact ⟨hG, fun q9 => absurd rfl q9⟩) (List.forall_mem_cons.mpr ⟨(fun a c h H => by
      dsimp only at H
      split at H
      · exact sJX10_add_41 h8 n _ _ _ _ _ _ _ H hG
      · cases H), (fun q9 h9 => by cases h9)⟩) ((eMX10_add n x0 x1 x2 x3 x4 h).symm.trans H)
theorem sndX10_add {ρ : Type} {l : Launch} (n : Nat) : SndF (ρ := ρ) l false (mi 48).1 (wX10_add n) := by
    intro a h k r H ha ho hn hf
    have h8 := hf rfl
    obtain ⟨x0, x1, x2, x3, x4, rfl⟩ := len5 (show a.length = 5 from ha)
    replace H : bndh (MX10_add n x0 x1 x2 x3 x4 h) (fun h2 => k 0 h2) = some r := H
    obtain ⟨h2, H1, H2⟩ := bndh_some H
    exact ⟨0, h2, H2, met_mk (mok_base okX10_add).1 (by decide +kernel) (Nat.le_of_ble_eq_true rfl) ho (sMX10_add h8 n x0 x1 x2 x3 x4 h H1 rfl), fun q => by cases q⟩
/-! X6_tellMove -/
def sdX6_tellMove : SD := [(0, [(0, .aload_n 0, 1, [], 0), (1, .getfield 39, 3, [6, 7, 14, 0, 314, 0], 0), (4, .getfield 134, 3, [10, 12, 0, 0, 208, 0], 0), (7, .invokestatic 137, 3, [1, 0, 3, 22, 876, 0], 0), (10, .istore_n 1, 1, [], 0), (11, .aload_n 0, 1, [], 0), (12, .getfield 12, 3, [6, 1, 4, 1, 308, 0], 1), (15, .aload_n 0, 1, [], 0), (16, .getfield 39, 3, [6, 7, 14, 0, 314, 0], 0), (19, .aload_n 0, 1, [], 0), (20, .getfield 18, 3, [6, 2, 1988, 1, 309, 0], 5), (23, .iload_n 1, 1, [], 0), (24, .invokevirtual 180, 3, [0, 1, 1, 39, 909, 0, 1988, 14, 4], 0), (27, .aload_n 0, 1, [], 0), (28, .getfield 12, 3, [6, 1, 4, 1, 308, 0], 1), (31, .invokevirtual 184, 3, [1, 2, 1, 41, 939, 4], 0), (34, .ifCond .eq 15, 3, [], 0)]),
  (37, [(37, .aload_n 0, 1, [], 0), (38, .iconst 5, 1, [], 0), (39, .aload_n 0, 1, [], 0), (40, .getfield 70, 3, [6, 9, 0, 0, 316, 0], 0), (43, .invokevirtual 89, 3, [0, 3, 1, 17, 856, 0, 0, 10], 0), (46, .goto 127, 3, [], 0)]),
  (49, [(49, .aload_n 0, 1, [], 0), (50, .getfield 39, 3, [6, 7, 14, 0, 314, 0], 0), (53, .getfield 134, 3, [10, 12, 0, 0, 208, 0], 0), (56, .bipush 40, 2, [], 0), (58, .if_icmp .ge 23, 3, [], 0)]),
  (61, [(61, .aload_n 0, 1, [], 0), (62, .getfield 39, 3, [6, 7, 14, 0, 314, 0], 0), (65, .getfield 188, 3, [10, 11, 0, 0, 206, 0], 0), (68, .aload_n 0, 1, [], 0), (69, .getfield 12, 3, [6, 1, 4, 1, 308, 0], 1), (72, .invokevirtual 191, 3, [1, 4, 1, 42, 948, 4], 0), (75, .iadd, 1, [], 0), (76, .bipush 64, 2, [], 0), (78, .if_icmp .le 15, 3, [], 0)]),
  (81, [(81, .aload_n 0, 1, [], 0), (82, .iconst 4, 1, [], 0), (83, .aload_n 0, 1, [], 0), (84, .getfield 70, 3, [6, 9, 0, 0, 316, 0], 0), (87, .invokevirtual 89, 3, [0, 3, 1, 17, 856, 0, 0, 10], 0), (90, .goto 83, 3, [], 0)]),
  (93, [(93, .iconst 1, 1, [], 0), (94, .istore_n 2, 1, [], 0)]),
  (95, [(95, .iload_n 2, 1, [], 0), (96, .aload_n 0, 1, [], 0), (97, .getfield 12, 3, [6, 1, 4, 1, 308, 0], 1), (100, .getfield 194, 3, [0, 3, 0, 0, 297, 0], 0), (103, .if_icmp .gt 57, 3, [], 0)]),
  (106, [(106, .iload_n 2, 1, [], 0), (107, .bipush 33, 2, [], 0), (109, .if_icmp .ge 51, 3, [], 0)]),
  (112, [(112, .aload_n 0, 1, [], 0), (113, .getfield 39, 3, [6, 7, 14, 0, 314, 0], 0), (116, .aload_n 0, 1, [], 0), (117, .getfield 12, 3, [6, 1, 4, 1, 308, 0], 1), (120, .getfield 197, 3, [0, 0, 284, 1, 291, 0], 1), (123, .iload_n 2, 1, [], 0), (124, .iaload, 1, [], 0), (125, .aload_n 0, 1, [], 0), (126, .getfield 12, 3, [6, 1, 4, 1, 308, 0], 1), (129, .getfield 200, 3, [0, 1, 284, 1, 293, 0], 2), (132, .iload_n 2, 1, [], 0), (133, .iaload, 1, [], 0), (134, .aload_n 0, 1, [], 0), (135, .getfield 12, 3, [6, 1, 4, 1, 308, 0], 1), (138, .getfield 203, 3, [0, 2, 284, 1, 295, 0], 3), (141, .iload_n 2, 1, [], 0), (142, .iaload, 1, [], 0), (143, .aload_n 0, 1, [], 0), (144, .getfield 18, 3, [6, 2, 1988, 1, 309, 0], 5), (147, .iload_n 1, 1, [], 0), (148, .iconst 5, 1, [], 0), (149, .iadd, 1, [], 0), (150, .iaload, 1, [], 0), (151, .invokevirtual 206, 3, [0, 5, 1, 48, 952, 0, 0, 0, 0, 14], 0), (154, .iinc 2 1, 3, [], 0), (157, .goto (-62), 3, [], 0)]),
  (160, [(160, .aload_n 0, 1, [], 0), (161, .getfield 39, 3, [6, 7, 14, 0, 314, 0], 0), (164, .dup, 1, [], 0), (165, .getfield 134, 3, [10, 12, 0, 0, 208, 0], 0), (168, .iconst 1, 1, [], 0), (169, .iadd, 1, [], 0), (170, .putfield 134, 3, [10, 12, 0, 0, 0, 208], 0)]),
  (173, [(173, .return_, 1, [], 0)])]
def JX6_tellMove_81 (n : Nat) (h : Hp) : Option (Hp) :=
(bndh (MX6_fail 4 (h 29 9) h) fun h1 =>
(some h1))
def BX6_tellMove_95 (n : Nat) : Nat → Int → Int → Hp → Option (Hp)
  | 0, _, _, _ => none
  | f + 1, x1, x2, h =>
    (if (h 30 3) < x2 then
    (some (h))
    else
    (if 33 ≤ x2 then
    (some (h))
    else
    (grd (0 ≤ x2 ∧ x2 < alen 284)
    (grd (0 ≤ x2 ∧ x2 < alen 284)
    (grd (0 ≤ x2 ∧ x2 < alen 284)
    (grd (0 ≤ (w32 (x1 + 5)) ∧ (w32 (x1 + 5)) < alen 1988)
    (bndh (MX10_add n (h 29 7) (h 31 x2) (h 32 x2) (h 33 x2) (h 34 (w32 (x1 + 5))) h) fun h1 =>
    (ltt (w32 (x2 + 1)) fun y1 =>
    (BX6_tellMove_95 n f x1 y1 h1)))))))))
def JX6_tellMove_160 (n : Nat) (h : Hp) : Option (Hp) :=
(ltt (up h (h 29 7) 12 (w32 ((h (h 29 7) 12) + 1))) fun h1 =>
(some h1))
def LX6_tellMove_95 (n : Nat) (x1 x2 : Int) (h : Hp) : Option (Hp) :=
(bndx (BX6_tellMove_95 n n x1 x2 h) fun h1 =>
(JX6_tellMove_160 n h1))
def MX6_tellMove (n : Nat) (h : Hp) : Option (Hp) :=
(bndp (MX6_rowOf (h (h 29 7) 12)) fun r1 =>
(ltt r1 fun y1 =>
(bndh (MX0_lay n (h 29 7) y1 h) fun h1 =>
(bndp (MX0_goBeyond n h1) fun r2 =>
(if r2 = 0 then
(if 40 ≤ (h1 (h1 29 7) 12) then
(JX6_tellMove_81 n h1)
else
(bndp (MX0_goings n h1) fun r3 =>
(if (w32 ((h1 (h1 29 7) 11) + r3)) ≤ 64 then
(ltt 1 fun y2 =>
(LX6_tellMove_95 n y1 y2 h1))
else
(JX6_tellMove_81 n h1))))
else
(bndh (MX6_fail 5 (h1 29 9) h1) fun h2 =>
(some h2)))))))
def wX6_tellMove {ρ : Type} (n : Nat) : FN ρ := fun a h k => match a with
  | [_] => bndh (MX6_tellMove n h) (fun h2 => k 0 h2)
  | _ => none
def fsX6_tellMove (n : Nat) (ρ : Type) : List (FN ρ) := [wX6_rowOf, wX0_lay n, wX0_goBeyond n, wX6_fail, wX0_goings n, wX10_add n]
def KJX6_tellMove_81 (_ : Nat) : CT (Hp) := []
set_option maxRecDepth 100000 in
theorem eJX6_tellMove_81 (n : Nat) (h : Hp) : JX6_tellMove_81 n h =
  goAt false (kct (KJX6_tellMove_81 n)) (fun _ h => some (h)) (fsX6_tellMove n _) sdX6_tellMove 1000 81 [(0, 10, 29)] [] h := rfl
def KBX6_tellMove_95 (_ : Nat) (bk : Int → Int → Hp → Option (Hp)) : CT (Hp) := [(95, [(0, 10, (some 29)), (1, 0, none), (2, 0, none)], [], fun a c h => match a, c with
    | [x1, x2], [] => bk x1 x2 h
    | _, _ => none),
  (160, [(0, 10, (some 29))], [], fun a c h => match a, c with
    | [], [] => some (h)
    | _, _ => none)]
set_option maxRecDepth 100000 in
theorem eBX6_tellMove_95 (n f : Nat) (x1 : Int) (x2 : Int) (h : Hp) : BX6_tellMove_95 n (f + 1) x1 x2 h =
  goAt false (kct (KBX6_tellMove_95 n (BX6_tellMove_95 n f))) (fun _ _ => none) (fsX6_tellMove n _) sdX6_tellMove 1000 95 [(0, 10, 29), (1, 0, x1), (2, 0, x2)] [] h := rfl
def KJX6_tellMove_160 (_ : Nat) : CT (Hp) := []
set_option maxRecDepth 100000 in
theorem eJX6_tellMove_160 (n : Nat) (h : Hp) : JX6_tellMove_160 n h =
  goAt false (kct (KJX6_tellMove_160 n)) (fun _ h => some (h)) (fsX6_tellMove n _) sdX6_tellMove 1000 160 [(0, 10, 29)] [] h := rfl
def KMX6_tellMove (n : Nat) : CT (Hp) := [(81, [(0, 10, (some 29))], [], fun a c h => match a, c with
    | [], [] => JX6_tellMove_81 n h
    | _, _ => none),
  (95, [(0, 10, (some 29)), (1, 0, none), (2, 0, none)], [], fun a c h => match a, c with
    | [x1, x2], [] => LX6_tellMove_95 n x1 x2 h
    | _, _ => none)]
set_option maxRecDepth 100000 in
theorem eMX6_tellMove (n : Nat) (h : Hp) : MX6_tellMove n h =
  goAt false (kct (KMX6_tellMove n)) (fun _ h => some (h)) (fsX6_tellMove n _) sdX6_tellMove 1000 0 [(0, 10, 29)] [] h := rfl
theorem okX6_tellMove : mokb (mi 49) = true := by decide +kernel
theorem rkX6_tellMove : rkOK 0 (mi 49).1.2.2.2.2.2.2.1 (mi 49).1.2.2.2.1 := Or.inl ⟨rfl, rfl, rfl⟩
def calX6_tellMove : List Nat := [22, 39, 41, 17, 42, 48]
theorem foX6_tellMove {l : Launch} {ρ : Type} (n : Nat) : fsOK l false mi calX6_tellMove (fsX6_tellMove n ρ) := ⟨sndX6_rowOf, ⟨(sndX0_lay n), ⟨(sndX0_goBeyond n), ⟨sndX6_fail, ⟨(sndX0_goings n), ⟨(sndX10_add n), trivial⟩⟩⟩⟩⟩⟩
theorem ok_sdX6_tellMove : sdb (mi 49).1.2.1 (insOK mi (mi 49).1.1.cls (mi 49).1.2.2.1 (mi 49).1.2.2.2.2.1 (mi 49).1.2.2.2.2.2.1 calX6_tellMove false 0) sdX6_tellMove = true := by decide +kernel
def GX6_tellMove_95 (l : Launch) (h0 : Hp) (h' : Hp) (v : Int) (_ : Hp) : (Hp) → Prop
  | h1 => PAt l false (mi 49).1 h0 v h' 160 [(0, 10, 29)] [] h1
theorem sJX6_tellMove_81 {l : Launch} {h0 h' : Hp} {v : Int} (h8 : nOf h0 = 148) (n : Nat)  (h : Hp) {r : Hp} (H : JX6_tellMove_81 n h = some r) (hG : gW h' r) : PAt l false (mi 49).1 h0 v h' 81 [(0, 10, 29)] [] h :=
  pat_w ok_sdX6_tellMove rkX6_tellMove h8 (foX6_tellMove n) (fun v1 h1 q => by
    cases q
    exact ⟨hG, fun q9 => absurd rfl q9⟩) (fun q9 h9 => by cases h9) ((eJX6_tellMove_81 n h).symm.trans H)
theorem sBX6_tellMove_95 {l : Launch} {h0 h' : Hp} {v : Int} (h8 : nOf h0 = 148) (n : Nat) : ∀ (f : Nat) (x1 : Int) (x2 : Int) (h : Hp) {r : Hp}, BX6_tellMove_95 n f x1 x2 h = some r → GX6_tellMove_95 l h0 h' v h r → PAt l false (mi 49).1 h0 v h' 95 [(0, 10, 29), (1, 0, x1), (2, 0, x2)] [] h := by
  intro f
  induction f with
  | zero =>
    intro x1 x2 h r H _
    have H2 : (none : Option (Hp)) = some r := H
    cases H2
  | succ f ih =>
    intro x1 x2 h r H hG
    exact pat_w ok_sdX6_tellMove rkX6_tellMove h8 (foX6_tellMove n) (fun v1 h1 q => by cases q) (List.forall_mem_cons.mpr ⟨(fun a c h H => by
      dsimp only at H
      split at H
      · exact ih _ _ _ H hG
      · cases H), (List.forall_mem_cons.mpr ⟨(fun a c h H => by
      dsimp only at H
      split at H
      · cases H
        exact hG
      · cases H), (fun q9 h9 => by cases h9)⟩)⟩) ((eBX6_tellMove_95 n f x1 x2 h).symm.trans H)
theorem sJX6_tellMove_160 {l : Launch} {h0 h' : Hp} {v : Int} (h8 : nOf h0 = 148) (n : Nat)  (h : Hp) {r : Hp} (H : JX6_tellMove_160 n h = some r) (hG : gW h' r) : PAt l false (mi 49).1 h0 v h' 160 [(0, 10, 29)] [] h :=
  pat_w ok_sdX6_tellMove rkX6_tellMove h8 (foX6_tellMove n) (fun v1 h1 q => by
    cases q
    exact ⟨hG, fun q9 => absurd rfl q9⟩) (fun q9 h9 => by cases h9) ((eJX6_tellMove_160 n h).symm.trans H)
theorem sLX6_tellMove_95 {l : Launch} {h0 h' : Hp} {v : Int} (h8 : nOf h0 = 148) (n : Nat) (x1 : Int) (x2 : Int) (h : Hp) {r : Hp} (H : LX6_tellMove_95 n x1 x2 h = some r) (hG : gW h' r) : PAt l false (mi 49).1 h0 v h' 95 [(0, 10, 29), (1, 0, x1), (2, 0, x2)] [] h := by
  obtain ⟨h1, h2, h3⟩ := bndx_some H
  exact sBX6_tellMove_95 h8 n n x1 x2 h h2 (sJX6_tellMove_160 h8 n h1 h3 hG)
theorem sMX6_tellMove {l : Launch} {h0 h' : Hp} {v : Int} (h8 : nOf h0 = 148) (n : Nat)  (h : Hp) {r : Hp} (H : MX6_tellMove n h = some r) (hG : gW h' r) : PAt l false (mi 49).1 h0 v h' 0 [(0, 10, 29)] [] h :=
  pat_w ok_sdX6_tellMove rkX6_tellMove h8 (foX6_tellMove n) (fun v1 h1 q => by
    cases q
    exact ⟨hG, fun q9 => absurd rfl q9⟩) (List.forall_mem_cons.mpr ⟨(fun a c h H => by
      dsimp only at H
      split at H
      · exact sJX6_tellMove_81 h8 n _ H hG
      · cases H), (List.forall_mem_cons.mpr ⟨(fun a c h H => by
      dsimp only at H
      split at H
      · exact sLX6_tellMove_95 h8 n _ _ _ H hG
      · cases H), (fun q9 h9 => by cases h9)⟩)⟩) ((eMX6_tellMove n h).symm.trans H)
theorem sndX6_tellMove {ρ : Type} {l : Launch} (n : Nat) : SndF (ρ := ρ) l false (mi 49).1 (wX6_tellMove n) := by
    intro a h k r H ha ho hn hf
    have h8 := hf rfl
    obtain ⟨x0, rfl⟩ := len1 (show a.length = 1 from ha)
    have u0 := uq10 hn (ho (10, x0) (List.mem_cons_self))
    subst u0
    replace H : bndh (MX6_tellMove n h) (fun h2 => k 0 h2) = some r := H
    obtain ⟨h2, H1, H2⟩ := bndh_some H
    exact ⟨0, h2, H2, met_mk (mok_base okX6_tellMove).1 (by decide +kernel) (Nat.le_of_ble_eq_true rfl) ho (sMX6_tellMove h8 n  h H1 rfl), fun q => by cases q⟩
/-! X6_tellAgain -/
def sdX6_tellAgain : SD := [(0, [(0, .aload_n 0, 1, [], 0), (1, .getfield 161, 3, [6, 13, 0, 0, 320, 0], 0), (4, .ifCond .lt 12, 3, [], 0)]),
  (7, [(7, .aload_n 0, 1, [], 0), (8, .getfield 161, 3, [6, 13, 0, 0, 320, 0], 0), (11, .bipush 8, 2, [], 0), (13, .if_icmp .lt 4, 3, [], 0)]),
  (16, [(16, .return_, 1, [], 0)]),
  (17, [(17, .aload_n 0, 1, [], 0), (18, .getfield 39, 3, [6, 7, 14, 0, 314, 0], 0), (21, .getfield 134, 3, [10, 12, 0, 0, 208, 0], 0), (24, .istore_n 1, 1, [], 0), (25, .iconst 0, 1, [], 0), (26, .istore_n 2, 1, [], 0)]),
  (27, [(27, .iload_n 2, 1, [], 0), (28, .aload_n 0, 1, [], 0), (29, .getfield 164, 3, [6, 14, 0, 0, 321, 0], 0), (32, .if_icmp .ge 104, 3, [], 0)]),
  (35, [(35, .aload_n 0, 1, [], 0), (36, .getfield 53, 3, [6, 8, 0, 0, 315, 0], 0), (39, .iconst (-1), 1, [], 0), (40, .if_icmp .ne 96, 3, [], 0)]),
  (43, [(43, .aload_n 0, 1, [], 0), (44, .getfield 28, 3, [6, 5, 84, 1, 312, 0], 8), (47, .aload_n 0, 1, [], 0), (48, .getfield 161, 3, [6, 13, 0, 0, 320, 0], 0), (51, .iaload, 1, [], 0), (52, .istore_n 3, 1, [], 0)]),
  (53, [(53, .iload_n 3, 1, [], 0), (54, .iload_n 1, 1, [], 0), (55, .if_icmp .ge 75, 3, [], 0)]),
  (58, [(58, .aload_n 0, 1, [], 0), (59, .getfield 53, 3, [6, 8, 0, 0, 315, 0], 0), (62, .iconst (-1), 1, [], 0), (63, .if_icmp .ne 67, 3, [], 0)]),
  (66, [(66, .iload_n 3, 1, [], 0), (67, .invokestatic 137, 3, [1, 0, 3, 22, 876, 0], 0), (70, .istore 4, 2, [], 0), (72, .aload_n 0, 1, [], 0), (73, .getfield 39, 3, [6, 7, 14, 0, 314, 0], 0), (76, .getfield 134, 3, [10, 12, 0, 0, 208, 0], 0), (79, .invokestatic 137, 3, [1, 0, 3, 22, 876, 0], 0), (82, .istore 5, 2, [], 0), (84, .iconst 0, 1, [], 0), (85, .istore 6, 2, [], 0)]),
  (87, [(87, .iload 6, 2, [], 0), (89, .bipush 6, 2, [], 0), (91, .if_icmp .ge 29, 3, [], 0)]),
  (94, [(94, .aload_n 0, 1, [], 0), (95, .getfield 18, 3, [6, 2, 1988, 1, 309, 0], 5), (98, .iload 5, 2, [], 0), (100, .iload 6, 2, [], 0), (102, .iadd, 1, [], 0), (103, .aload_n 0, 1, [], 0), (104, .getfield 18, 3, [6, 2, 1988, 1, 309, 0], 5), (107, .iload 4, 2, [], 0), (109, .iload 6, 2, [], 0), (111, .iadd, 1, [], 0), (112, .iaload, 1, [], 0), (113, .iastore, 1, [], 0), (114, .iinc 6 1, 3, [], 0), (117, .goto (-30), 3, [], 0)]),
  (120, [(120, .aload_n 0, 1, [], 0), (121, .invokevirtual 83, 3, [0, 1, 1, 49, 905, 10], 0), (124, .iinc 3 1, 3, [], 0), (127, .goto (-74), 3, [], 0)]),
  (130, [(130, .iinc 2 1, 3, [], 0), (133, .goto (-106), 3, [], 0)]),
  (136, [(136, .return_, 1, [], 0)])]
def BX6_tellAgain_87 (n : Nat) : Nat → Int → Int → Int → Int → Int → Int → Hp → Option (Int × Int × Int × Hp)
  | 0, _, _, _, _, _, _, _ => none
  | f + 1, x1, x2, x3, x4, x5, x6, h =>
    (if 6 ≤ x6 then
    (some (x1, x2, x3, h))
    else
    (grd (0 ≤ (w32 (x4 + x6)) ∧ (w32 (x4 + x6)) < alen 1988)
    (grd (0 ≤ (w32 (x5 + x6)) ∧ (w32 (x5 + x6)) < alen 1988)
    (ltt (up h 34 (w32 (x5 + x6)) (h 34 (w32 (x4 + x6)))) fun h1 =>
    (ltt (w32 (x6 + 1)) fun y1 =>
    (BX6_tellAgain_87 n f x1 x2 x3 x4 x5 y1 h1))))))
def JX6_tellAgain_120 (n : Nat) (bk : Int → Int → Int → Hp → Option (Int × Int × Hp)) (x1 x2 x3 : Int) (h : Hp) : Option (Int × Int × Hp) :=
(bndh (MX6_tellMove n h) fun h1 =>
(ltt (w32 (x3 + 1)) fun y1 =>
(bk x1 x2 y1 h1)))
def LX6_tellAgain_87 (n : Nat) (bk : Int → Int → Int → Hp → Option (Int × Int × Hp)) (x1 x2 x3 x4 x5 x6 : Int) (h : Hp) : Option (Int × Int × Hp) :=
(bndx (BX6_tellAgain_87 n n x1 x2 x3 x4 x5 x6 h) fun (e1, e2, e3, h1) =>
(JX6_tellAgain_120 n bk e1 e2 e3 h1))
def BX6_tellAgain_53 (n : Nat) : Nat → Int → Int → Int → Hp → Option (Int × Int × Hp)
  | 0, _, _, _, _ => none
  | f + 1, x1, x2, x3, h =>
    (if x1 ≤ x3 then
    (some (x1, x2, h))
    else
    (if (h 29 8) ≠ (-1) then
    (some (x1, x2, h))
    else
    (bndp (MX6_rowOf x3) fun r1 =>
    (ltt r1 fun y1 =>
    (bndp (MX6_rowOf (h (h 29 7) 12)) fun r2 =>
    (ltt r2 fun y2 =>
    (ltt 0 fun y3 =>
    (LX6_tellAgain_87 n (BX6_tellAgain_53 n f) x1 x2 x3 y1 y2 y3 h))))))))
def JX6_tellAgain_130 (n : Nat) (bk : Int → Int → Hp → Option (Hp)) (x1 x2 : Int) (h : Hp) : Option (Hp) :=
(ltt (w32 (x2 + 1)) fun y1 =>
(bk x1 y1 h))
def LX6_tellAgain_53 (n : Nat) (bk : Int → Int → Hp → Option (Hp)) (x1 x2 x3 : Int) (h : Hp) : Option (Hp) :=
(bndx (BX6_tellAgain_53 n n x1 x2 x3 h) fun (e1, e2, h1) =>
(JX6_tellAgain_130 n bk e1 e2 h1))
def BX6_tellAgain_27 (n : Nat) : Nat → Int → Int → Hp → Option (Hp)
  | 0, _, _, _ => none
  | f + 1, x1, x2, h =>
    (if (h 29 14) ≤ x2 then
    (some h)
    else
    (if (h 29 8) ≠ (-1) then
    (some h)
    else
    (grd (0 ≤ (h 29 13) ∧ (h 29 13) < alen 84)
    (ltt (h 37 (h 29 13)) fun y1 =>
    (LX6_tellAgain_53 n (BX6_tellAgain_27 n f) x1 x2 y1 h)))))
def LX6_tellAgain_27 (n : Nat) (x1 x2 : Int) (h : Hp) : Option (Hp) :=
(BX6_tellAgain_27 n n x1 x2 h)
def MX6_tellAgain (n : Nat) (h : Hp) : Option (Hp) :=
(if (h 29 13) < 0 then
(some h)
else
(if (h 29 13) < 8 then
(ltt (h (h 29 7) 12) fun y1 =>
(ltt 0 fun y2 =>
(LX6_tellAgain_27 n y1 y2 h)))
else
(some h)))
def wX6_tellAgain {ρ : Type} (n : Nat) : FN ρ := fun a h k => match a with
  | [_] => bndh (MX6_tellAgain n h) (fun h2 => k 0 h2)
  | _ => none
def fsX6_tellAgain (n : Nat) (ρ : Type) : List (FN ρ) := [wX6_rowOf, wX6_tellMove n]
def KBX6_tellAgain_87 (_ : Nat) (bk : Int → Int → Int → Int → Int → Int → Hp → Option (Int × Int × Int × Hp)) : CT (Int × Int × Int × Hp) := [(87, [(0, 10, (some 29)), (1, 0, none), (2, 0, none), (3, 0, none), (4, 0, none), (5, 0, none), (6, 0, none)], [], fun a c h => match a, c with
    | [x1, x2, x3, x4, x5, x6], [] => bk x1 x2 x3 x4 x5 x6 h
    | _, _ => none),
  (120, [(0, 10, (some 29)), (1, 0, none), (2, 0, none), (3, 0, none)], [], fun a c h => match a, c with
    | [x1, x2, x3], [] => some (x1, x2, x3, h)
    | _, _ => none)]
set_option maxRecDepth 100000 in
theorem eBX6_tellAgain_87 (n f : Nat) (x1 : Int) (x2 : Int) (x3 : Int) (x4 : Int) (x5 : Int) (x6 : Int) (h : Hp) : BX6_tellAgain_87 n (f + 1) x1 x2 x3 x4 x5 x6 h =
  goAt false (kct (KBX6_tellAgain_87 n (BX6_tellAgain_87 n f))) (fun _ _ => none) (fsX6_tellAgain n _) sdX6_tellAgain 1000 87 [(0, 10, 29), (1, 0, x1), (2, 0, x2), (3, 0, x3), (4, 0, x4), (5, 0, x5), (6, 0, x6)] [] h := rfl
def KJX6_tellAgain_120 (_ : Nat) (bk : Int → Int → Int → Hp → Option (Int × Int × Hp)) : CT (Int × Int × Hp) := [(53, [(0, 10, (some 29)), (1, 0, none), (2, 0, none), (3, 0, none)], [], fun a c h => match a, c with
    | [x1, x2, x3], [] => bk x1 x2 x3 h
    | _, _ => none),
  (130, [(0, 10, (some 29)), (1, 0, none), (2, 0, none)], [], fun a c h => match a, c with
    | [x1, x2], [] => some (x1, x2, h)
    | _, _ => none)]
set_option maxRecDepth 100000 in
theorem eJX6_tellAgain_120 (n : Nat) (bk : Int → Int → Int → Hp → Option (Int × Int × Hp)) (x1 : Int) (x2 : Int) (x3 : Int) (h : Hp) : JX6_tellAgain_120 n bk x1 x2 x3 h =
  goAt false (kct (KJX6_tellAgain_120 n bk)) (fun _ _ => none) (fsX6_tellAgain n _) sdX6_tellAgain 1000 120 [(0, 10, 29), (1, 0, x1), (2, 0, x2), (3, 0, x3)] [] h := rfl
def KBX6_tellAgain_53 (n : Nat) (bk : Int → Int → Int → Hp → Option (Int × Int × Hp)) : CT (Int × Int × Hp) := [(53, [(0, 10, (some 29)), (1, 0, none), (2, 0, none), (3, 0, none)], [], fun a c h => match a, c with
    | [x1, x2, x3], [] => bk x1 x2 x3 h
    | _, _ => none),
  (130, [(0, 10, (some 29)), (1, 0, none), (2, 0, none)], [], fun a c h => match a, c with
    | [x1, x2], [] => some (x1, x2, h)
    | _, _ => none),
  (87, [(0, 10, (some 29)), (1, 0, none), (2, 0, none), (3, 0, none), (4, 0, none), (5, 0, none), (6, 0, none)], [], fun a c h => match a, c with
    | [x1, x2, x3, x4, x5, x6], [] => LX6_tellAgain_87 n bk x1 x2 x3 x4 x5 x6 h
    | _, _ => none)]
set_option maxRecDepth 100000 in
theorem eBX6_tellAgain_53 (n f : Nat) (x1 : Int) (x2 : Int) (x3 : Int) (h : Hp) : BX6_tellAgain_53 n (f + 1) x1 x2 x3 h =
  goAt false (kct (KBX6_tellAgain_53 n (BX6_tellAgain_53 n f))) (fun _ _ => none) (fsX6_tellAgain n _) sdX6_tellAgain 1000 53 [(0, 10, 29), (1, 0, x1), (2, 0, x2), (3, 0, x3)] [] h := rfl
def KJX6_tellAgain_130 (_ : Nat) (bk : Int → Int → Hp → Option (Hp)) : CT (Hp) := [(27, [(0, 10, (some 29)), (1, 0, none), (2, 0, none)], [], fun a c h => match a, c with
    | [x1, x2], [] => bk x1 x2 h
    | _, _ => none)]
set_option maxRecDepth 100000 in
theorem eJX6_tellAgain_130 (n : Nat) (bk : Int → Int → Hp → Option (Hp)) (x1 : Int) (x2 : Int) (h : Hp) : JX6_tellAgain_130 n bk x1 x2 h =
  goAt false (kct (KJX6_tellAgain_130 n bk)) (fun _ h => some (h)) (fsX6_tellAgain n _) sdX6_tellAgain 1000 130 [(0, 10, 29), (1, 0, x1), (2, 0, x2)] [] h := rfl
def KBX6_tellAgain_27 (n : Nat) (bk : Int → Int → Hp → Option (Hp)) : CT (Hp) := [(27, [(0, 10, (some 29)), (1, 0, none), (2, 0, none)], [], fun a c h => match a, c with
    | [x1, x2], [] => bk x1 x2 h
    | _, _ => none),
  (53, [(0, 10, (some 29)), (1, 0, none), (2, 0, none), (3, 0, none)], [], fun a c h => match a, c with
    | [x1, x2, x3], [] => LX6_tellAgain_53 n bk x1 x2 x3 h
    | _, _ => none)]
set_option maxRecDepth 100000 in
theorem eBX6_tellAgain_27 (n f : Nat) (x1 : Int) (x2 : Int) (h : Hp) : BX6_tellAgain_27 n (f + 1) x1 x2 h =
  goAt false (kct (KBX6_tellAgain_27 n (BX6_tellAgain_27 n f))) (fun _ h => some (h)) (fsX6_tellAgain n _) sdX6_tellAgain 1000 27 [(0, 10, 29), (1, 0, x1), (2, 0, x2)] [] h := rfl
def KMX6_tellAgain (n : Nat) : CT (Hp) := [(27, [(0, 10, (some 29)), (1, 0, none), (2, 0, none)], [], fun a c h => match a, c with
    | [x1, x2], [] => LX6_tellAgain_27 n x1 x2 h
    | _, _ => none)]
set_option maxRecDepth 100000 in
theorem eMX6_tellAgain (n : Nat) (h : Hp) : MX6_tellAgain n h =
  goAt false (kct (KMX6_tellAgain n)) (fun _ h => some (h)) (fsX6_tellAgain n _) sdX6_tellAgain 1000 0 [(0, 10, 29)] [] h := rfl
theorem okX6_tellAgain : mokb (mi 50) = true := by decide +kernel
theorem rkX6_tellAgain : rkOK 0 (mi 50).1.2.2.2.2.2.2.1 (mi 50).1.2.2.2.1 := Or.inl ⟨rfl, rfl, rfl⟩
def calX6_tellAgain : List Nat := [22, 49]
theorem foX6_tellAgain {l : Launch} {ρ : Type} (n : Nat) : fsOK l false mi calX6_tellAgain (fsX6_tellAgain n ρ) := ⟨sndX6_rowOf, ⟨(sndX6_tellMove n), trivial⟩⟩
theorem ok_sdX6_tellAgain : sdb (mi 50).1.2.1 (insOK mi (mi 50).1.1.cls (mi 50).1.2.2.1 (mi 50).1.2.2.2.2.1 (mi 50).1.2.2.2.2.2.1 calX6_tellAgain false 0) sdX6_tellAgain = true := by decide +kernel
def GX6_tellAgain_87 (l : Launch) (h0 : Hp) (h' : Hp) (v : Int) (_ : Hp) : (Int × Int × Int × Hp) → Prop
  | (e1, e2, e3, h1) => PAt l false (mi 50).1 h0 v h' 120 [(0, 10, 29), (1, 0, e1), (2, 0, e2), (3, 0, e3)] [] h1
def GX6_tellAgain_53 (l : Launch) (h0 : Hp) (h' : Hp) (v : Int) (_ : Hp) : (Int × Int × Hp) → Prop
  | (e1, e2, h1) => PAt l false (mi 50).1 h0 v h' 130 [(0, 10, 29), (1, 0, e1), (2, 0, e2)] [] h1
theorem sBX6_tellAgain_87 {l : Launch} {h0 h' : Hp} {v : Int} (h8 : nOf h0 = 148) (n : Nat) : ∀ (f : Nat) (x1 : Int) (x2 : Int) (x3 : Int) (x4 : Int) (x5 : Int) (x6 : Int) (h : Hp) {r : Int × Int × Int × Hp}, BX6_tellAgain_87 n f x1 x2 x3 x4 x5 x6 h = some r → GX6_tellAgain_87 l h0 h' v h r → PAt l false (mi 50).1 h0 v h' 87 [(0, 10, 29), (1, 0, x1), (2, 0, x2), (3, 0, x3), (4, 0, x4), (5, 0, x5), (6, 0, x6)] [] h := by
  intro f
  induction f with
  | zero =>
    intro x1 x2 x3 x4 x5 x6 h r H _
    have H2 : (none : Option (Int × Int × Int × Hp)) = some r := H
    cases H2
  | succ f ih =>
    intro x1 x2 x3 x4 x5 x6 h r H hG
    exact pat_w ok_sdX6_tellAgain rkX6_tellAgain h8 (foX6_tellAgain n) (fun v1 h1 q => by cases q) (List.forall_mem_cons.mpr ⟨(fun a c h H => by
      dsimp only at H
      split at H
      · exact ih _ _ _ _ _ _ _ H hG
      · cases H), (List.forall_mem_cons.mpr ⟨(fun a c h H => by
      dsimp only at H
      split at H
      · cases H
        exact hG
      · cases H), (fun q9 h9 => by cases h9)⟩)⟩) ((eBX6_tellAgain_87 n f x1 x2 x3 x4 x5 x6 h).symm.trans H)
theorem sJX6_tellAgain_120 {l : Launch} {h0 h' : Hp} {v : Int} (h8 : nOf h0 = 148) (n : Nat) (bk : Int → Int → Int → Hp → Option (Int × Int × Hp)) (hbk : ∀ (x1 : Int) (x2 : Int) (x3 : Int) (h : Hp) (r : Int × Int × Hp), bk x1 x2 x3 h = some r → GX6_tellAgain_53 l h0 h' v h r → PAt l false (mi 50).1 h0 v h' 53 [(0, 10, 29), (1, 0, x1), (2, 0, x2), (3, 0, x3)] [] h) (x1 : Int) (x2 : Int) (x3 : Int) (h : Hp) {r : Int × Int × Hp} (H : JX6_tellAgain_120 n bk x1 x2 x3 h = some r) (hG : GX6_tellAgain_53 l h0 h' v h r) : PAt l false (mi 50).1 h0 v h' 120 [(0, 10, 29), (1, 0, x1), (2, 0, x2), (3, 0, x3)] [] h :=
  pat_w ok_sdX6_tellAgain rkX6_tellAgain h8 (foX6_tellAgain n) (fun v1 h1 q => by cases q) (List.forall_mem_cons.mpr ⟨(fun a c h H => by
      dsimp only at H
      split at H
      · exact hbk _ _ _ _ _ H hG
      · cases H), (List.forall_mem_cons.mpr ⟨(fun a c h H => by
      dsimp only at H
      split at H
      · cases H
        exact hG
      · cases H), (fun q9 h9 => by cases h9)⟩)⟩) ((eJX6_tellAgain_120 n bk x1 x2 x3 h).symm.trans H)
theorem sLX6_tellAgain_87 {l : Launch} {h0 h' : Hp} {v : Int} (h8 : nOf h0 = 148) (n : Nat) (bk : Int → Int → Int → Hp → Option (Int × Int × Hp)) (hbk : ∀ (x1 : Int) (x2 : Int) (x3 : Int) (h : Hp) (r : Int × Int × Hp), bk x1 x2 x3 h = some r → GX6_tellAgain_53 l h0 h' v h r → PAt l false (mi 50).1 h0 v h' 53 [(0, 10, 29), (1, 0, x1), (2, 0, x2), (3, 0, x3)] [] h) (x1 : Int) (x2 : Int) (x3 : Int) (x4 : Int) (x5 : Int) (x6 : Int) (h : Hp) {r : Int × Int × Hp} (H : LX6_tellAgain_87 n bk x1 x2 x3 x4 x5 x6 h = some r) (hG : GX6_tellAgain_53 l h0 h' v h r) : PAt l false (mi 50).1 h0 v h' 87 [(0, 10, 29), (1, 0, x1), (2, 0, x2), (3, 0, x3), (4, 0, x4), (5, 0, x5), (6, 0, x6)] [] h := by
  obtain ⟨e9, h2, h3⟩ := bndx_some H
  obtain ⟨e1, e2, e3, h1⟩ := e9
  exact sBX6_tellAgain_87 h8 n n x1 x2 x3 x4 x5 x6 h h2 (sJX6_tellAgain_120 h8 n bk hbk e1 e2 e3 h1 h3 hG)
theorem sBX6_tellAgain_53 {l : Launch} {h0 h' : Hp} {v : Int} (h8 : nOf h0 = 148) (n : Nat) : ∀ (f : Nat) (x1 : Int) (x2 : Int) (x3 : Int) (h : Hp) {r : Int × Int × Hp}, BX6_tellAgain_53 n f x1 x2 x3 h = some r → GX6_tellAgain_53 l h0 h' v h r → PAt l false (mi 50).1 h0 v h' 53 [(0, 10, 29), (1, 0, x1), (2, 0, x2), (3, 0, x3)] [] h := by
  intro f
  induction f with
  | zero =>
    intro x1 x2 x3 h r H _
    have H2 : (none : Option (Int × Int × Hp)) = some r := H
    cases H2
  | succ f ih =>
    intro x1 x2 x3 h r H hG
    have ihk : ∀ (x1 : Int) (x2 : Int) (x3 : Int) (h : Hp) (r : Int × Int × Hp), BX6_tellAgain_53 n f x1 x2 x3 h = some r → GX6_tellAgain_53 l h0 h' v h r → PAt l false (mi 50).1 h0 v h' 53 [(0, 10, 29), (1, 0, x1), (2, 0, x2), (3, 0, x3)] [] h := fun x1 x2 x3 h r9 a9 b9 => ih x1 x2 x3 h a9 b9
    exact pat_w ok_sdX6_tellAgain rkX6_tellAgain h8 (foX6_tellAgain n) (fun v1 h1 q => by cases q) (List.forall_mem_cons.mpr ⟨(fun a c h H => by
      dsimp only at H
      split at H
      · exact ih _ _ _ _ H hG
      · cases H), (List.forall_mem_cons.mpr ⟨(fun a c h H => by
      dsimp only at H
      split at H
      · cases H
        exact hG
      · cases H), (List.forall_mem_cons.mpr ⟨(fun a c h H => by
      dsimp only at H
      split at H
      · exact sLX6_tellAgain_87 h8 n (BX6_tellAgain_53 n f) ihk _ _ _ _ _ _ _ H hG
      · cases H), (fun q9 h9 => by cases h9)⟩)⟩)⟩) ((eBX6_tellAgain_53 n f x1 x2 x3 h).symm.trans H)
theorem sJX6_tellAgain_130 {l : Launch} {h0 h' : Hp} {v : Int} (h8 : nOf h0 = 148) (n : Nat) (bk : Int → Int → Hp → Option (Hp)) (hbk : ∀ (x1 : Int) (x2 : Int) (h : Hp) (r : Hp), bk x1 x2 h = some r → gW h' r → PAt l false (mi 50).1 h0 v h' 27 [(0, 10, 29), (1, 0, x1), (2, 0, x2)] [] h) (x1 : Int) (x2 : Int) (h : Hp) {r : Hp} (H : JX6_tellAgain_130 n bk x1 x2 h = some r) (hG : gW h' r) : PAt l false (mi 50).1 h0 v h' 130 [(0, 10, 29), (1, 0, x1), (2, 0, x2)] [] h :=
  pat_w ok_sdX6_tellAgain rkX6_tellAgain h8 (foX6_tellAgain n) (fun v1 h1 q => by
    cases q
    exact ⟨hG, fun q9 => absurd rfl q9⟩) (List.forall_mem_cons.mpr ⟨(fun a c h H => by
      dsimp only at H
      split at H
      · exact hbk _ _ _ _ H hG
      · cases H), (fun q9 h9 => by cases h9)⟩) ((eJX6_tellAgain_130 n bk x1 x2 h).symm.trans H)
theorem sLX6_tellAgain_53 {l : Launch} {h0 h' : Hp} {v : Int} (h8 : nOf h0 = 148) (n : Nat) (bk : Int → Int → Hp → Option (Hp)) (hbk : ∀ (x1 : Int) (x2 : Int) (h : Hp) (r : Hp), bk x1 x2 h = some r → gW h' r → PAt l false (mi 50).1 h0 v h' 27 [(0, 10, 29), (1, 0, x1), (2, 0, x2)] [] h) (x1 : Int) (x2 : Int) (x3 : Int) (h : Hp) {r : Hp} (H : LX6_tellAgain_53 n bk x1 x2 x3 h = some r) (hG : gW h' r) : PAt l false (mi 50).1 h0 v h' 53 [(0, 10, 29), (1, 0, x1), (2, 0, x2), (3, 0, x3)] [] h := by
  obtain ⟨e9, h2, h3⟩ := bndx_some H
  obtain ⟨e1, e2, h1⟩ := e9
  exact sBX6_tellAgain_53 h8 n n x1 x2 x3 h h2 (sJX6_tellAgain_130 h8 n bk hbk e1 e2 h1 h3 hG)
theorem sBX6_tellAgain_27 {l : Launch} {h0 h' : Hp} {v : Int} (h8 : nOf h0 = 148) (n : Nat) : ∀ (f : Nat) (x1 : Int) (x2 : Int) (h : Hp) {r : Hp}, BX6_tellAgain_27 n f x1 x2 h = some r → gW h' r → PAt l false (mi 50).1 h0 v h' 27 [(0, 10, 29), (1, 0, x1), (2, 0, x2)] [] h := by
  intro f
  induction f with
  | zero =>
    intro x1 x2 h r H _
    have H2 : (none : Option (Hp)) = some r := H
    cases H2
  | succ f ih =>
    intro x1 x2 h r H hG
    have ihk : ∀ (x1 : Int) (x2 : Int) (h : Hp) (r : Hp), BX6_tellAgain_27 n f x1 x2 h = some r → gW h' r → PAt l false (mi 50).1 h0 v h' 27 [(0, 10, 29), (1, 0, x1), (2, 0, x2)] [] h := fun x1 x2 h r9 a9 b9 => ih x1 x2 h a9 b9
    exact pat_w ok_sdX6_tellAgain rkX6_tellAgain h8 (foX6_tellAgain n) (fun v1 h1 q => by
    cases q
    exact ⟨hG, fun q9 => absurd rfl q9⟩) (List.forall_mem_cons.mpr ⟨(fun a c h H => by
      dsimp only at H
      split at H
      · exact ih _ _ _ H hG
      · cases H), (List.forall_mem_cons.mpr ⟨(fun a c h H => by
      dsimp only at H
      split at H
      · exact sLX6_tellAgain_53 h8 n (BX6_tellAgain_27 n f) ihk _ _ _ _ H hG
      · cases H), (fun q9 h9 => by cases h9)⟩)⟩) ((eBX6_tellAgain_27 n f x1 x2 h).symm.trans H)
theorem sLX6_tellAgain_27 {l : Launch} {h0 h' : Hp} {v : Int} (h8 : nOf h0 = 148) (n : Nat) (x1 : Int) (x2 : Int) (h : Hp) {r : Hp} (H : LX6_tellAgain_27 n x1 x2 h = some r) (hG : gW h' r) : PAt l false (mi 50).1 h0 v h' 27 [(0, 10, 29), (1, 0, x1), (2, 0, x2)] [] h :=
  sBX6_tellAgain_27 h8 n n x1 x2 h H hG
theorem sMX6_tellAgain {l : Launch} {h0 h' : Hp} {v : Int} (h8 : nOf h0 = 148) (n : Nat)  (h : Hp) {r : Hp} (H : MX6_tellAgain n h = some r) (hG : gW h' r) : PAt l false (mi 50).1 h0 v h' 0 [(0, 10, 29)] [] h :=
  pat_w ok_sdX6_tellAgain rkX6_tellAgain h8 (foX6_tellAgain n) (fun v1 h1 q => by
    cases q
    exact ⟨hG, fun q9 => absurd rfl q9⟩) (List.forall_mem_cons.mpr ⟨(fun a c h H => by
      dsimp only at H
      split at H
      · exact sLX6_tellAgain_27 h8 n _ _ _ H hG
      · cases H), (fun q9 h9 => by cases h9)⟩) ((eMX6_tellAgain n h).symm.trans H)
theorem sndX6_tellAgain {ρ : Type} {l : Launch} (n : Nat) : SndF (ρ := ρ) l false (mi 50).1 (wX6_tellAgain n) := by
    intro a h k r H ha ho hn hf
    have h8 := hf rfl
    obtain ⟨x0, rfl⟩ := len1 (show a.length = 1 from ha)
    have u0 := uq10 hn (ho (10, x0) (List.mem_cons_self))
    subst u0
    replace H : bndh (MX6_tellAgain n h) (fun h2 => k 0 h2) = some r := H
    obtain ⟨h2, H1, H2⟩ := bndh_some H
    exact ⟨0, h2, H2, met_mk (mok_base okX6_tellAgain).1 (by decide +kernel) (Nat.le_of_ble_eq_true rfl) ho (sMX6_tellAgain h8 n  h H1 rfl), fun q => by cases q⟩
/-! X6_read -/
def sdX6_read : SD := [(0, [(0, .aload_n 0, 1, [], 0), (1, .aload_n 1, 1, [], 0), (2, .putfield 39, 3, [6, 7, 14, 0, 0, 314], 0), (5, .aload_n 0, 1, [], 0), (6, .getfield 39, 3, [6, 7, 14, 0, 314, 0], 0), (9, .invokevirtual 43, 3, [0, 0, 1, 7, 760, 14], 0), (12, .aload_n 0, 1, [], 0), (13, .getfield 35, 3, [6, 0, 13, 1, 307, 0], (-2)), (16, .invokevirtual 48, 3, [0, 1, 1, 8, 761, 13], 0), (19, .aload_n 0, 1, [], 0), (20, .iconst (-1), 1, [], 0), (21, .putfield 53, 3, [6, 8, 0, 0, 0, 315], 0), (24, .aload_n 0, 1, [], 0), (25, .iconst 0, 1, [], 0), (26, .putfield 57, 3, [6, 10, 0, 0, 1, 317], 0), (29, .iconst 0, 1, [], 0), (30, .istore_n 2, 1, [], 0)]),
  (31, [(31, .iload_n 2, 1, [], 0), (32, .aload_n 0, 1, [], 0), (33, .getfield 31, 3, [6, 6, 46, 1, 313, 0], 9), (36, .arraylength, 1, [], 0), (37, .if_icmp .ge 16, 3, [], 0)]),
  (40, [(40, .aload_n 0, 1, [], 0), (41, .getfield 31, 3, [6, 6, 46, 1, 313, 0], 9), (44, .iload_n 2, 1, [], 0), (45, .iconst 0, 1, [], 0), (46, .bastore, 1, [], 0), (47, .iinc 2 1, 3, [], 0), (50, .goto (-19), 3, [], 0)]),
  (53, [(53, .iconst 0, 1, [], 0), (54, .istore_n 2, 1, [], 0)]),
  (55, [(55, .iload_n 2, 1, [], 0), (56, .sipush 400, 3, [], 0), (59, .if_icmp .gt 100, 3, [], 0)]),
  (62, [(62, .aload_n 0, 1, [], 0), (63, .getfield 53, 3, [6, 8, 0, 0, 315, 0], 0), (66, .iconst (-1), 1, [], 0), (67, .if_icmp .ne 92, 3, [], 0)]),
  (70, [(70, .aload_n 0, 1, [], 0), (71, .getfield 35, 3, [6, 0, 13, 1, 307, 0], (-2)), (74, .invokevirtual 61, 3, [0, 2, 1, 14, 765, 13], 0), (77, .aload_n 0, 1, [], 0), (78, .getfield 35, 3, [6, 0, 13, 1, 307, 0], (-2)), (81, .getfield 64, 3, [9, 2, 0, 0, 257, 0], 0), (84, .ifCond .ne 5, 3, [], 0)]),
  (87, [(87, .iconst (-1), 1, [], 0), (88, .ireturn, 1, [], 0)]),
  (89, [(89, .aload_n 0, 1, [], 0), (90, .aload_n 0, 1, [], 0), (91, .getfield 35, 3, [6, 0, 13, 1, 307, 0], (-2)), (94, .getfield 67, 3, [9, 3, 0, 0, 259, 0], 0), (97, .putfield 70, 3, [6, 9, 0, 0, 0, 316], 0), (100, .aload_n 0, 1, [], 0), (101, .invokevirtual 73, 3, [1, 3, 1, 28, 788, 10], 0), (104, .istore_n 3, 1, [], 0), (105, .aload_n 0, 1, [], 0), (106, .getfield 53, 3, [6, 8, 0, 0, 315, 0], 0), (109, .iconst (-1), 1, [], 0), (110, .if_icmp .eq 8, 3, [], 0)]),
  (113, [(113, .aload_n 0, 1, [], 0), (114, .getfield 53, 3, [6, 8, 0, 0, 315, 0], 0), (117, .ireturn, 1, [], 0)]),
  (118, [(118, .iload_n 3, 1, [], 0), (119, .bipush 6, 2, [], 0), (121, .if_icmp .ne 10, 3, [], 0)]),
  (124, [(124, .aload_n 0, 1, [], 0), (125, .invokevirtual 77, 3, [0, 4, 1, 29, 897, 10], 0), (128, .goto 25, 3, [], 0)]),
  (131, [(131, .iload_n 3, 1, [], 0), (132, .bipush 7, 2, [], 0), (134, .if_icmp .ne 10, 3, [], 0)]),
  (137, [(137, .aload_n 0, 1, [], 0), (138, .invokevirtual 80, 3, [0, 5, 1, 50, 901, 10], 0), (141, .goto 12, 3, [], 0)]),
  (144, [(144, .iload_n 3, 1, [], 0), (145, .iconst 3, 1, [], 0), (146, .if_icmp .lt 7, 3, [], 0)]),
  (149, [(149, .aload_n 0, 1, [], 0), (150, .invokevirtual 83, 3, [0, 6, 1, 49, 905, 10], 0)]),
  (153, [(153, .iinc 2 1, 3, [], 0), (156, .goto (-101), 3, [], 0)]),
  (159, [(159, .aload_n 0, 1, [], 0), (160, .getfield 53, 3, [6, 8, 0, 0, 315, 0], 0), (163, .ireturn, 1, [], 0)])]
def BX6_read_31 (n : Nat) : Nat → Int → Hp → Option (Hp)
  | 0, _, _ => none
  | f + 1, x2, h =>
    (if (alen 46) ≤ x2 then
    (some (h))
    else
    (grd (0 ≤ x2 ∧ x2 < alen 46)
    (ltt (up h 38 x2 (0 % 2)) fun h1 =>
    (ltt (w32 (x2 + 1)) fun y1 =>
    (BX6_read_31 n f y1 h1)))))
def BX6_read_55 (n : Nat) : Nat → Int → Hp → Option (Int × Hp)
  | 0, _, _ => none
  | f + 1, x2, h =>
    (if 400 < x2 then
    (some ((h 29 8), h))
    else
    (if (h 29 8) ≠ (-1) then
    (some ((h 29 8), h))
    else
    (bndh (MX9_next n h) fun h1 =>
    (if (h1 27 2) ≠ 0 then
    (ltt (up h1 29 9 (h1 27 3)) fun h2 =>
    (bnd (MX6_readLine n h2) fun r1 h3 =>
    (ltt r1 fun y1 =>
    (if (h3 29 8) = (-1) then
    (if y1 ≠ 6 then
    (if y1 ≠ 7 then
    (if y1 < 3 then
    (ltt (w32 (x2 + 1)) fun y2 =>
    (BX6_read_55 n f y2 h3))
    else
    (bndh (MX6_tellMove n h3) fun h4 =>
    (ltt (w32 (x2 + 1)) fun y3 =>
    (BX6_read_55 n f y3 h4))))
    else
    (bndh (MX6_tellAgain n h3) fun h5 =>
    (ltt (w32 (x2 + 1)) fun y4 =>
    (BX6_read_55 n f y4 h5))))
    else
    (bndh (MX6_putMark h3) fun h6 =>
    (ltt (w32 (x2 + 1)) fun y5 =>
    (BX6_read_55 n f y5 h6))))
    else
    (some ((h3 29 8), h3))))))
    else
    (some ((-1), h1))))))
def LX6_read_55 (n : Nat) (x2 : Int) (h : Hp) : Option (Int × Hp) :=
(BX6_read_55 n n x2 h)
def JX6_read_53 (n : Nat) (h : Hp) : Option (Int × Hp) :=
(ltt 0 fun y1 =>
(LX6_read_55 n y1 h))
def LX6_read_31 (n : Nat) (x2 : Int) (h : Hp) : Option (Int × Hp) :=
(bndx (BX6_read_31 n n x2 h) fun h1 =>
(JX6_read_53 n h1))
def MX6_read (n : Nat) (x1 : Int) (h : Hp) : Option (Int × Hp) :=
(ltt (up h 29 7 x1) fun h1 =>
(bndh (MX10_clear n (h1 29 7) h1) fun h2 =>
(bndh (MX9_rewind h2) fun h3 =>
(ltt (up h3 29 8 (-1)) fun h4 =>
(ltt (up h4 29 10 0) fun h5 =>
(ltt 0 fun y1 =>
(LX6_read_31 n y1 h5)))))))
def wX6_read {ρ : Type} (n : Nat) : FN ρ := fun a h k => match a with
  | [_, x1] => bnd (MX6_read n x1 h) (fun r h2 => k r h2)
  | _ => none
def fsX6_read (n : Nat) (ρ : Type) : List (FN ρ) := [wX10_clear n, wX9_rewind, wX9_next n, wX6_readLine n, wX6_putMark, wX6_tellAgain n, wX6_tellMove n]
def KBX6_read_31 (_ : Nat) (bk : Int → Hp → Option (Hp)) : CT (Hp) := [(31, [(0, 10, (some 29)), (2, 0, none)], [], fun a c h => match a, c with
    | [x2], [] => bk x2 h
    | _, _ => none),
  (53, [(0, 10, (some 29))], [], fun a c h => match a, c with
    | [], [] => some (h)
    | _, _ => none)]
set_option maxRecDepth 100000 in
theorem eBX6_read_31 (n f : Nat) (x2 : Int) (h : Hp) : BX6_read_31 n (f + 1) x2 h =
  goAt false (kct (KBX6_read_31 n (BX6_read_31 n f))) (fun _ _ => none) (fsX6_read n _) sdX6_read 1000 31 [(0, 10, 29), (2, 0, x2)] [] h := rfl
def KBX6_read_55 (_ : Nat) (bk : Int → Hp → Option (Int × Hp)) : CT (Int × Hp) := [(55, [(0, 10, (some 29)), (2, 0, none)], [], fun a c h => match a, c with
    | [x2], [] => bk x2 h
    | _, _ => none)]
set_option maxRecDepth 100000 in
theorem eBX6_read_55 (n f : Nat) (x2 : Int) (h : Hp) : BX6_read_55 n (f + 1) x2 h =
  goAt false (kct (KBX6_read_55 n (BX6_read_55 n f))) (fun v h => some ((v, h))) (fsX6_read n _) sdX6_read 1000 55 [(0, 10, 29), (2, 0, x2)] [] h := rfl
def KJX6_read_53 (n : Nat) : CT (Int × Hp) := [(55, [(0, 10, (some 29)), (2, 0, none)], [], fun a c h => match a, c with
    | [x2], [] => LX6_read_55 n x2 h
    | _, _ => none)]
set_option maxRecDepth 100000 in
theorem eJX6_read_53 (n : Nat) (h : Hp) : JX6_read_53 n h =
  goAt false (kct (KJX6_read_53 n)) (fun v h => some ((v, h))) (fsX6_read n _) sdX6_read 1000 53 [(0, 10, 29)] [] h := rfl
def KMX6_read (n : Nat) : CT (Int × Hp) := [(31, [(0, 10, (some 29)), (2, 0, none)], [], fun a c h => match a, c with
    | [x2], [] => LX6_read_31 n x2 h
    | _, _ => none)]
set_option maxRecDepth 100000 in
theorem eMX6_read (n : Nat) (x1 : Int) (h : Hp) : MX6_read n x1 h =
  goAt false (kct (KMX6_read n)) (fun v h => some ((v, h))) (fsX6_read n _) sdX6_read 1000 0 [(0, 10, 29), (1, 14, x1)] [] h := rfl
theorem okX6_read : mokb (mi 51) = true := by decide +kernel
theorem rkX6_read : rkOK 1 (mi 51).1.2.2.2.2.2.2.1 (mi 51).1.2.2.2.1 := Or.inr (Or.inl ⟨rfl, rfl, rfl⟩)
def calX6_read : List Nat := [7, 8, 14, 28, 29, 50, 49]
theorem foX6_read {l : Launch} {ρ : Type} (n : Nat) : fsOK l false mi calX6_read (fsX6_read n ρ) := ⟨(sndX10_clear n), ⟨sndX9_rewind, ⟨(sndX9_next n), ⟨(sndX6_readLine n), ⟨sndX6_putMark, ⟨(sndX6_tellAgain n), ⟨(sndX6_tellMove n), trivial⟩⟩⟩⟩⟩⟩⟩
theorem ok_sdX6_read : sdb (mi 51).1.2.1 (insOK mi (mi 51).1.1.cls (mi 51).1.2.2.1 (mi 51).1.2.2.2.2.1 (mi 51).1.2.2.2.2.2.1 calX6_read false 1) sdX6_read = true := by decide +kernel
def GX6_read_31 (l : Launch) (h0 : Hp) (h' : Hp) (v : Int) (_ : Hp) : (Hp) → Prop
  | h1 => PAt l false (mi 51).1 h0 v h' 53 [(0, 10, 29)] [] h1
theorem sBX6_read_31 {l : Launch} {h0 h' : Hp} {v : Int} (h8 : nOf h0 = 148) (n : Nat) : ∀ (f : Nat) (x2 : Int) (h : Hp) {r : Hp}, BX6_read_31 n f x2 h = some r → GX6_read_31 l h0 h' v h r → PAt l false (mi 51).1 h0 v h' 31 [(0, 10, 29), (2, 0, x2)] [] h := by
  intro f
  induction f with
  | zero =>
    intro x2 h r H _
    have H2 : (none : Option (Hp)) = some r := H
    cases H2
  | succ f ih =>
    intro x2 h r H hG
    exact pat_w ok_sdX6_read rkX6_read h8 (foX6_read n) (fun v1 h1 q => by cases q) (List.forall_mem_cons.mpr ⟨(fun a c h H => by
      dsimp only at H
      split at H
      · exact ih _ _ H hG
      · cases H), (List.forall_mem_cons.mpr ⟨(fun a c h H => by
      dsimp only at H
      split at H
      · cases H
        exact hG
      · cases H), (fun q9 h9 => by cases h9)⟩)⟩) ((eBX6_read_31 n f x2 h).symm.trans H)
theorem sBX6_read_55 {l : Launch} {h0 h' : Hp} {v : Int} (h8 : nOf h0 = 148) (n : Nat) : ∀ (f : Nat) (x2 : Int) (h : Hp) {r : Int × Hp}, BX6_read_55 n f x2 h = some r → gWV v h' r → PAt l false (mi 51).1 h0 v h' 55 [(0, 10, 29), (2, 0, x2)] [] h := by
  intro f
  induction f with
  | zero =>
    intro x2 h r H _
    have H2 : (none : Option (Int × Hp)) = some r := H
    cases H2
  | succ f ih =>
    intro x2 h r H hG
    exact pat_w ok_sdX6_read rkX6_read h8 (foX6_read n) (fun v1 h1 q => by
    cases q
    exact ⟨hG.1, fun _ => hG.2⟩) (List.forall_mem_cons.mpr ⟨(fun a c h H => by
      dsimp only at H
      split at H
      · exact ih _ _ H hG
      · cases H), (fun q9 h9 => by cases h9)⟩) ((eBX6_read_55 n f x2 h).symm.trans H)
theorem sLX6_read_55 {l : Launch} {h0 h' : Hp} {v : Int} (h8 : nOf h0 = 148) (n : Nat) (x2 : Int) (h : Hp) {r : Int × Hp} (H : LX6_read_55 n x2 h = some r) (hG : gWV v h' r) : PAt l false (mi 51).1 h0 v h' 55 [(0, 10, 29), (2, 0, x2)] [] h :=
  sBX6_read_55 h8 n n x2 h H hG
theorem sJX6_read_53 {l : Launch} {h0 h' : Hp} {v : Int} (h8 : nOf h0 = 148) (n : Nat)  (h : Hp) {r : Int × Hp} (H : JX6_read_53 n h = some r) (hG : gWV v h' r) : PAt l false (mi 51).1 h0 v h' 53 [(0, 10, 29)] [] h :=
  pat_w ok_sdX6_read rkX6_read h8 (foX6_read n) (fun v1 h1 q => by
    cases q
    exact ⟨hG.1, fun _ => hG.2⟩) (List.forall_mem_cons.mpr ⟨(fun a c h H => by
      dsimp only at H
      split at H
      · exact sLX6_read_55 h8 n _ _ H hG
      · cases H), (fun q9 h9 => by cases h9)⟩) ((eJX6_read_53 n h).symm.trans H)
theorem sLX6_read_31 {l : Launch} {h0 h' : Hp} {v : Int} (h8 : nOf h0 = 148) (n : Nat) (x2 : Int) (h : Hp) {r : Int × Hp} (H : LX6_read_31 n x2 h = some r) (hG : gWV v h' r) : PAt l false (mi 51).1 h0 v h' 31 [(0, 10, 29), (2, 0, x2)] [] h := by
  obtain ⟨h1, h2, h3⟩ := bndx_some H
  exact sBX6_read_31 h8 n n x2 h h2 (sJX6_read_53 h8 n h1 h3 hG)
theorem sMX6_read {l : Launch} {h0 h' : Hp} {v : Int} (h8 : nOf h0 = 148) (n : Nat) (x1 : Int) (h : Hp) {r : Int × Hp} (H : MX6_read n x1 h = some r) (hG : gWV v h' r) : PAt l false (mi 51).1 h0 v h' 0 [(0, 10, 29), (1, 14, x1)] [] h :=
  pat_w ok_sdX6_read rkX6_read h8 (foX6_read n) (fun v1 h1 q => by
    cases q
    exact ⟨hG.1, fun _ => hG.2⟩) (List.forall_mem_cons.mpr ⟨(fun a c h H => by
      dsimp only at H
      split at H
      · exact sLX6_read_31 h8 n _ _ H hG
      · cases H), (fun q9 h9 => by cases h9)⟩) ((eMX6_read n x1 h).symm.trans H)
theorem sndX6_read {ρ : Type} {l : Launch} (n : Nat) : SndF (ρ := ρ) l false (mi 51).1 (wX6_read n) := by
    intro a h k r H ha ho hn hf
    have h8 := hf rfl
    obtain ⟨x0, x1, rfl⟩ := len2 (show a.length = 2 from ha)
    have u0 := uq10 hn (ho (10, x0) (List.mem_cons_self))
    subst u0
    replace H : bnd (MX6_read n x1 h) (fun r h2 => k r h2) = some r := H
    obtain ⟨v2, h2, H1, H2⟩ := bnd_some H
    exact ⟨v2, h2, H2, met_mk (mok_base okX6_read).1 (by decide +kernel) (Nat.le_of_ble_eq_true rfl) ho (sMX6_read h8 n x1 h H1 ⟨rfl, rfl⟩), fun q => by cases q⟩
/-! X4_cutOf -/
def sdX4_cutOf : SD := [(0, [(0, .aload_n 0, 1, [], 0), (1, .getfield 34, 3, [4, 0, 14, 0, 430, 0], 0), (4, .getfield 66, 3, [10, 8, 532, 1, 191, 0], 12), (7, .iload_n 1, 1, [], 0), (8, .iaload, 1, [], 0), (9, .ifCond .ne 5, 3, [], 0)]),
  (12, [(12, .iconst 0, 1, [], 0), (13, .ireturn, 1, [], 0)]),
  (14, [(14, .aload_n 0, 1, [], 0), (15, .getfield 34, 3, [4, 0, 14, 0, 430, 0], 0), (18, .getfield 69, 3, [10, 2, 532, 1, 173, 0], 6), (21, .iload_n 1, 1, [], 0), (22, .iaload, 1, [], 0), (23, .aload_n 0, 1, [], 0), (24, .getfield 34, 3, [4, 0, 14, 0, 430, 0], 0), (27, .getfield 69, 3, [10, 2, 532, 1, 173, 0], 6), (30, .iload_n 1, 1, [], 0), (31, .iconst 1, 1, [], 0), (32, .iadd, 1, [], 0), (33, .iaload, 1, [], 0), (34, .invokestatic 56, 3, [1, 0, 3, 261, 581, 0, 0], 0), (37, .iconst 2, 1, [], 0), (38, .idiv, 1, [], 0), (39, .istore_n 3, 1, [], 0), (40, .iload_n 3, 1, [], 0), (41, .ldc2_w 72, 3, [1, 588], 4), (44, .iload_n 2, 1, [], 0), (45, .i2l, 1, [], 0), (46, .lmul, 1, [], 0), (47, .ldc2_w 74, 3, [1, 589], 32768), (50, .lmul, 1, [], 0), (51, .aload_n 0, 1, [], 0), (52, .getfield 34, 3, [4, 0, 14, 0, 430, 0], 0), (55, .getfield 66, 3, [10, 8, 532, 1, 191, 0], 12), (58, .iload_n 1, 1, [], 0), (59, .iaload, 1, [], 0), (60, .i2l, 1, [], 0), (61, .invokestatic 46, 3, [1, 1, 4, 36, 575, 1, 1], 0), (64, .invokestatic 56, 3, [1, 0, 3, 261, 581, 0, 0], 0), (67, .ireturn, 1, [], 0)])]
def MX4_cutOf (x0 x1 x2 : Int) (h : Hp) : Option (Int) :=
(grd (0 ≤ x1 ∧ x1 < alen 532)
(if (h ((h x0 0) + 12) x1) ≠ 0 then
(grd (0 ≤ x1 ∧ x1 < alen 532)
(grd (0 ≤ (w32 (x1 + 1)) ∧ (w32 (x1 + 1)) < alen 532)
(grd (¬ 2 = 0)
(ltt (w32 (Int.tdiv (min (h ((h x0 0) + 6) x1) (h ((h x0 0) + 6) (w32 (x1 + 1)))) 2)) fun y1 =>
(grd (0 ≤ x1 ∧ x1 < alen 532)
(bndp (MX11_share (w64 ((w64 (4 * x2)) * 32768)) (h ((h x0 0) + 12) x1)) fun r1 =>
(some (min y1 r1))))))))
else
(some 0)))
def wX4_cutOf {ρ : Type} : FN ρ := fun a h k => match a with
  | [x0, x1, x2] => bndp (MX4_cutOf x0 x1 x2 h) (fun r => k r h)
  | _ => none
def fsX4_cutOf (ρ : Type) : List (FN ρ) := [fmin, wX11_share]
def KMX4_cutOf  : CT (Int) := []
set_option maxRecDepth 100000 in
theorem eMX4_cutOf (x0 : Int) (x1 : Int) (x2 : Int) (h : Hp) : MX4_cutOf x0 x1 x2 h =
  goAt false (kct (KMX4_cutOf)) (fun v _ => some (v)) (fsX4_cutOf _) sdX4_cutOf 1000 0 [(0, 8, x0), (1, 0, x1), (2, 0, x2)] [] h := rfl
theorem okX4_cutOf : mokb (mi 52) = true := by decide +kernel
theorem rkX4_cutOf : rkOK 1 (mi 52).1.2.2.2.2.2.2.1 (mi 52).1.2.2.2.1 := Or.inr (Or.inl ⟨rfl, rfl, rfl⟩)
def calX4_cutOf : List Nat := [261, 36]
theorem foX4_cutOf {l : Launch} {ρ : Type} : fsOK l false mi calX4_cutOf (fsX4_cutOf ρ) := ⟨snd_mmin, ⟨sndX11_share, trivial⟩⟩
theorem frX4_cutOf {ρ : Type} : ∀ fn ∈ fsX4_cutOf ρ, RoF fn := (List.forall_mem_cons.mpr ⟨ro_mmin, (List.forall_mem_cons.mpr ⟨roX11_share, (fun q9 h9 => by cases h9)⟩)⟩)
theorem ok_sdX4_cutOf : sdb (mi 52).1.2.1 (insOK mi (mi 52).1.1.cls (mi 52).1.2.2.1 (mi 52).1.2.2.2.2.1 (mi 52).1.2.2.2.2.2.1 calX4_cutOf false 1) sdX4_cutOf = true := by decide +kernel
theorem sMX4_cutOf {l : Launch} {h0 : Hp} {v : Int} (h8 : nOf h0 = 148)  (x0 : Int) (x1 : Int) (x2 : Int) (h : Hp) {r : Int} (H : MX4_cutOf x0 x1 x2 h = some r) (hG : gV v r) : PAt l false (mi 52).1 h0 v h 0 [(0, 8, x0), (1, 0, x1), (2, 0, x2)] [] h :=
  pat_ro ok_sdX4_cutOf rfl rkX4_cutOf h8 (foX4_cutOf) (frX4_cutOf) (fun v1 q => by
    cases q
    exact ⟨rfl, fun _ => hG⟩) (fun q9 h9 => by cases h9) ((eMX4_cutOf x0 x1 x2 h).symm.trans H)
theorem sndX4_cutOf {ρ : Type} {l : Launch} : SndF (ρ := ρ) l false (mi 52).1 (wX4_cutOf) := by
    intro a h k r H ha ho hn hf
    have h8 := hf rfl
    obtain ⟨x0, x1, x2, rfl⟩ := len3 (show a.length = 3 from ha)
    replace H : bndp (MX4_cutOf x0 x1 x2 h) (fun r => k r h) = some r := H
    obtain ⟨v2, H1, H2⟩ := bndp_some H
    exact ⟨v2, h, H2, met_mk (mok_base okX4_cutOf).1 (by decide +kernel) (Nat.le_of_ble_eq_true rfl) ho (sMX4_cutOf h8 x0 x1 x2 h H1 rfl), fun q => by cases q⟩
theorem roX4_cutOf {ρ : Type} : RoF (wX4_cutOf : FN ρ) := fun a h k k2 hk => by
  unfold wX4_cutOf
  split
  · exact bndp_ro hk
  · rfl
/-! X4_paceOf -/
def sdX4_paceOf : SD := [(0, [(0, .aload_n 0, 1, [], 0), (1, .getfield 34, 3, [4, 0, 14, 0, 430, 0], 0), (4, .getfield 66, 3, [10, 8, 532, 1, 191, 0], 12), (7, .iload_n 1, 1, [], 0), (8, .iaload, 1, [], 0), (9, .ifCond .ne 6, 3, [], 0)]),
  (12, [(12, .bipush 100, 2, [], 0), (14, .ireturn, 1, [], 0)]),
  (15, [(15, .aload_n 0, 1, [], 0), (16, .getfield 34, 3, [4, 0, 14, 0, 430, 0], 0), (19, .getfield 43, 3, [10, 6, 532, 1, 186, 0], 10), (22, .iload_n 1, 1, [], 0), (23, .iaload, 1, [], 0), (24, .aload_n 0, 1, [], 0), (25, .getfield 34, 3, [4, 0, 14, 0, 430, 0], 0), (28, .getfield 43, 3, [10, 6, 532, 1, 186, 0], 10), (31, .iload_n 1, 1, [], 0), (32, .iconst 1, 1, [], 0), (33, .iadd, 1, [], 0), (34, .iaload, 1, [], 0), (35, .invokestatic 56, 3, [1, 0, 3, 261, 581, 0, 0], 0), (38, .istore_n 2, 1, [], 0), (39, .ldc2_w 76, 3, [1, 594], 2), (42, .aload_n 0, 1, [], 0), (43, .getfield 25, 3, [4, 5, 532, 1, 441, 0], 2), (46, .iload_n 1, 1, [], 0), (47, .iaload, 1, [], 0), (48, .i2l, 1, [], 0), (49, .lmul, 1, [], 0), (50, .iload_n 2, 1, [], 0), (51, .i2l, 1, [], 0), (52, .lmul, 1, [], 0), (53, .ldc2_w 74, 3, [1, 589], 32768), (56, .lmul, 1, [], 0), (57, .iconst 1, 1, [], 0), (58, .aload_n 0, 1, [], 0), (59, .getfield 34, 3, [4, 0, 14, 0, 430, 0], 0), (62, .getfield 66, 3, [10, 8, 532, 1, 191, 0], 12), (65, .iload_n 1, 1, [], 0), (66, .iaload, 1, [], 0), (67, .invokestatic 50, 3, [1, 1, 3, 262, 578, 0, 0], 0), (70, .i2l, 1, [], 0), (71, .ldiv, 1, [], 0), (72, .invokestatic 78, 3, [1, 2, 4, 33, 595, 1], 0), (75, .istore_n 3, 1, [], 0), (76, .iconst 1, 1, [], 0), (77, .iload_n 3, 1, [], 0), (78, .i2l, 1, [], 0), (79, .aload_n 0, 1, [], 0), (80, .getfield 9, 3, [4, 1, 0, 0, 432, 0], 0), (83, .i2l, 1, [], 0), (84, .invokestatic 46, 3, [1, 3, 4, 36, 575, 1, 1], 0), (87, .bipush 100, 2, [], 0), (89, .invokestatic 82, 3, [1, 4, 4, 21, 598, 0, 0, 0], 0), (92, .ireturn, 1, [], 0)])]
def MX4_paceOf (n : Nat) (x0 x1 : Int) (h : Hp) : Option (Int) :=
(grd (0 ≤ x1 ∧ x1 < alen 532)
(if (h ((h x0 0) + 12) x1) ≠ 0 then
(grd (0 ≤ x1 ∧ x1 < alen 532)
(grd (0 ≤ (w32 (x1 + 1)) ∧ (w32 (x1 + 1)) < alen 532)
(ltt (min (h ((h x0 0) + 10) x1) (h ((h x0 0) + 10) (w32 (x1 + 1)))) fun y1 =>
(grd (0 ≤ x1 ∧ x1 < alen 532)
(grd (0 ≤ x1 ∧ x1 < alen 532)
(grd (¬ (max 1 (h ((h x0 0) + 12) x1)) = 0)
(bndp (MX11_root n (w64 (Int.tdiv (w64 ((w64 ((w64 (2 * (h (x0 + 2) x1))) * y1)) * 32768)) (max 1 (h ((h x0 0) + 12) x1))))) fun r1 =>
(ltt r1 fun y2 =>
(bndp (MX11_share y2 (h x0 1)) fun r2 =>
(bndp (MX11_within 1 r2 100) fun r3 =>
(some r3)))))))))))
else
(some 100)))
def wX4_paceOf {ρ : Type} (n : Nat) : FN ρ := fun a h k => match a with
  | [x0, x1] => bndp (MX4_paceOf n x0 x1 h) (fun r => k r h)
  | _ => none
def fsX4_paceOf (n : Nat) (ρ : Type) : List (FN ρ) := [fmin, fmax, wX11_root n, wX11_share, wX11_within]
def KMX4_paceOf (_ : Nat) : CT (Int) := []
set_option maxRecDepth 100000 in
theorem eMX4_paceOf (n : Nat) (x0 : Int) (x1 : Int) (h : Hp) : MX4_paceOf n x0 x1 h =
  goAt false (kct (KMX4_paceOf n)) (fun v _ => some (v)) (fsX4_paceOf n _) sdX4_paceOf 1000 0 [(0, 8, x0), (1, 0, x1)] [] h := rfl
theorem okX4_paceOf : mokb (mi 53) = true := by decide +kernel
theorem rkX4_paceOf : rkOK 1 (mi 53).1.2.2.2.2.2.2.1 (mi 53).1.2.2.2.1 := Or.inr (Or.inl ⟨rfl, rfl, rfl⟩)
def calX4_paceOf : List Nat := [261, 262, 33, 36, 21]
theorem foX4_paceOf {l : Launch} {ρ : Type} (n : Nat) : fsOK l false mi calX4_paceOf (fsX4_paceOf n ρ) := ⟨snd_mmin, ⟨snd_mmax, ⟨(sndX11_root n), ⟨sndX11_share, ⟨sndX11_within, trivial⟩⟩⟩⟩⟩
theorem frX4_paceOf {ρ : Type} (n : Nat) : ∀ fn ∈ fsX4_paceOf n ρ, RoF fn := (List.forall_mem_cons.mpr ⟨ro_mmin, (List.forall_mem_cons.mpr ⟨ro_mmax, (List.forall_mem_cons.mpr ⟨(roX11_root n), (List.forall_mem_cons.mpr ⟨roX11_share, (List.forall_mem_cons.mpr ⟨roX11_within, (fun q9 h9 => by cases h9)⟩)⟩)⟩)⟩)⟩)
theorem ok_sdX4_paceOf : sdb (mi 53).1.2.1 (insOK mi (mi 53).1.1.cls (mi 53).1.2.2.1 (mi 53).1.2.2.2.2.1 (mi 53).1.2.2.2.2.2.1 calX4_paceOf false 1) sdX4_paceOf = true := by decide +kernel
theorem sMX4_paceOf {l : Launch} {h0 : Hp} {v : Int} (h8 : nOf h0 = 148) (n : Nat) (x0 : Int) (x1 : Int) (h : Hp) {r : Int} (H : MX4_paceOf n x0 x1 h = some r) (hG : gV v r) : PAt l false (mi 53).1 h0 v h 0 [(0, 8, x0), (1, 0, x1)] [] h :=
  pat_ro ok_sdX4_paceOf rfl rkX4_paceOf h8 (foX4_paceOf n) (frX4_paceOf n) (fun v1 q => by
    cases q
    exact ⟨rfl, fun _ => hG⟩) (fun q9 h9 => by cases h9) ((eMX4_paceOf n x0 x1 h).symm.trans H)
theorem sndX4_paceOf {ρ : Type} {l : Launch} (n : Nat) : SndF (ρ := ρ) l false (mi 53).1 (wX4_paceOf n) := by
    intro a h k r H ha ho hn hf
    have h8 := hf rfl
    obtain ⟨x0, x1, rfl⟩ := len2 (show a.length = 2 from ha)
    replace H : bndp (MX4_paceOf n x0 x1 h) (fun r => k r h) = some r := H
    obtain ⟨v2, H1, H2⟩ := bndp_some H
    exact ⟨v2, h, H2, met_mk (mok_base okX4_paceOf).1 (by decide +kernel) (Nat.le_of_ble_eq_true rfl) ho (sMX4_paceOf h8 n x0 x1 h H1 rfl), fun q => by cases q⟩
theorem roX4_paceOf {ρ : Type} (n : Nat) : RoF (wX4_paceOf n : FN ρ) := fun a h k k2 hk => by
  unfold wX4_paceOf
  split
  · exact bndp_ro hk
  · rfl
/-! X4_settle -/
def sdX4_settle : SD := [(0, [(0, .aload_n 0, 1, [], 0), (1, .aload_n 1, 1, [], 0), (2, .putfield 34, 3, [4, 0, 14, 0, 0, 430], 0), (5, .aload_n 0, 1, [], 0), (6, .iload_n 3, 1, [], 0), (7, .putfield 9, 3, [4, 1, 0, 0, 0, 432], 0), (10, .aload_n 0, 1, [], 0), (11, .bipush 12, 2, [], 0), (13, .putfield 18, 3, [4, 3, 0, 0, 0, 435], 0), (16, .iconst 0, 1, [], 0), (17, .istore 4, 2, [], 0)]),
  (19, [(19, .iload 4, 2, [], 0), (21, .aload_n 0, 1, [], 0), (22, .getfield 34, 3, [4, 0, 14, 0, 430, 0], 0), (25, .getfield 38, 3, [10, 11, 0, 0, 201, 0], 0), (28, .if_icmp .ge 43, 3, [], 0)]),
  (31, [(31, .aload_n 0, 1, [], 0), (32, .aload_n 0, 1, [], 0), (33, .getfield 18, 3, [4, 3, 0, 0, 435, 0], 0), (36, .iconst 1, 1, [], 0), (37, .aload_n 0, 1, [], 0), (38, .getfield 34, 3, [4, 0, 14, 0, 430, 0], 0), (41, .getfield 43, 3, [10, 6, 532, 1, 186, 0], 10), (44, .iload 4, 2, [], 0), (46, .iaload, 1, [], 0), (47, .i2l, 1, [], 0), (48, .aload_n 0, 1, [], 0), (49, .getfield 9, 3, [4, 1, 0, 0, 432, 0], 0), (52, .i2l, 1, [], 0), (53, .invokestatic 46, 3, [1, 0, 4, 36, 575, 1, 1], 0), (56, .invokestatic 50, 3, [1, 1, 3, 262, 578, 0, 0], 0), (59, .invokestatic 56, 3, [1, 2, 3, 261, 581, 0, 0], 0), (62, .putfield 18, 3, [4, 3, 0, 0, 0, 435], 0), (65, .iinc 4 1, 3, [], 0), (68, .goto (-49), 3, [], 0)]),
  (71, [(71, .iconst 0, 1, [], 0), (72, .istore 4, 2, [], 0)]),
  (74, [(74, .iload 4, 2, [], 0), (76, .iconst 1, 1, [], 0), (77, .iadd, 1, [], 0), (78, .aload_n 0, 1, [], 0), (79, .getfield 34, 3, [4, 0, 14, 0, 430, 0], 0), (82, .getfield 38, 3, [10, 11, 0, 0, 201, 0], 0), (85, .if_icmp .ge 36, 3, [], 0)]),
  (88, [(88, .aload_n 0, 1, [], 0), (89, .getfield 25, 3, [4, 5, 532, 1, 441, 0], 2), (92, .iload 4, 2, [], 0), (94, .aload_n 0, 1, [], 0), (95, .iload 4, 2, [], 0), (97, .iload_n 2, 1, [], 0), (98, .invokevirtual 59, 3, [1, 3, 1, 52, 584, 0, 0, 8], 0), (101, .iastore, 1, [], 0), (102, .aload_n 0, 1, [], 0), (103, .getfield 28, 3, [4, 6, 532, 1, 443, 0], 3), (106, .iload 4, 2, [], 0), (108, .aload_n 0, 1, [], 0), (109, .iload 4, 2, [], 0), (111, .invokevirtual 62, 3, [1, 4, 1, 53, 590, 0, 8], 0), (114, .iastore, 1, [], 0), (115, .iinc 4 1, 3, [], 0), (118, .goto (-44), 3, [], 0)]),
  (121, [(121, .return_, 1, [], 0)])]
def BX4_settle_19 (n : Nat) : Nat → Int → Int → Int → Hp → Option (Int × Int × Hp)
  | 0, _, _, _, _ => none
  | f + 1, x0, x2, x4, h =>
    (if (h (h x0 0) 11) ≤ x4 then
    (some (x0, x2, h))
    else
    (grd (0 ≤ x4 ∧ x4 < alen 532)
    (bndp (MX11_share (h ((h x0 0) + 10) x4) (h x0 1)) fun r1 =>
    (ltt (up h x0 3 (min (h x0 3) (max 1 r1))) fun h1 =>
    (ltt (w32 (x4 + 1)) fun y1 =>
    (BX4_settle_19 n f x0 x2 y1 h1))))))
def BX4_settle_74 (n : Nat) : Nat → Int → Int → Int → Hp → Option (Hp)
  | 0, _, _, _, _ => none
  | f + 1, x0, x2, x4, h =>
    (if (h (h x0 0) 11) ≤ (w32 (x4 + 1)) then
    (some h)
    else
    (bndp (MX4_cutOf x0 x4 x2 h) fun r1 =>
    (grd (0 ≤ x4 ∧ x4 < alen 532)
    (ltt (up h (x0 + 2) x4 r1) fun h1 =>
    (bndp (MX4_paceOf n x0 x4 h1) fun r2 =>
    (grd (0 ≤ x4 ∧ x4 < alen 532)
    (ltt (up h1 (x0 + 3) x4 r2) fun h2 =>
    (ltt (w32 (x4 + 1)) fun y1 =>
    (BX4_settle_74 n f x0 x2 y1 h2)))))))))
def LX4_settle_74 (n : Nat) (x0 x2 x4 : Int) (h : Hp) : Option (Hp) :=
(BX4_settle_74 n n x0 x2 x4 h)
def JX4_settle_71 (n : Nat) (x0 x2 : Int) (h : Hp) : Option (Hp) :=
(ltt 0 fun y1 =>
(LX4_settle_74 n x0 x2 y1 h))
def LX4_settle_19 (n : Nat) (x0 x2 x4 : Int) (h : Hp) : Option (Hp) :=
(bndx (BX4_settle_19 n n x0 x2 x4 h) fun (e0, e2, h1) =>
(JX4_settle_71 n e0 e2 h1))
def MX4_settle (n : Nat) (x0 x1 x2 x3 : Int) (h : Hp) : Option (Hp) :=
(ltt (up h x0 0 x1) fun h1 =>
(ltt (up h1 x0 1 x3) fun h2 =>
(ltt (up h2 x0 3 12) fun h3 =>
(ltt 0 fun y1 =>
(LX4_settle_19 n x0 x2 y1 h3)))))
def wX4_settle {ρ : Type} (n : Nat) : FN ρ := fun a h k => match a with
  | [x0, x1, x2, x3] => bndh (MX4_settle n x0 x1 x2 x3 h) (fun h2 => k 0 h2)
  | _ => none
def fsX4_settle (n : Nat) (ρ : Type) : List (FN ρ) := [wX11_share, fmax, fmin, wX4_cutOf, wX4_paceOf n]
def KBX4_settle_19 (_ : Nat) (bk : Int → Int → Int → Hp → Option (Int × Int × Hp)) : CT (Int × Int × Hp) := [(19, [(0, 8, none), (2, 0, none), (4, 0, none)], [], fun a c h => match a, c with
    | [x0, x2, x4], [] => bk x0 x2 x4 h
    | _, _ => none),
  (71, [(0, 8, none), (2, 0, none)], [], fun a c h => match a, c with
    | [x0, x2], [] => some (x0, x2, h)
    | _, _ => none)]
set_option maxRecDepth 100000 in
theorem eBX4_settle_19 (n f : Nat) (x0 : Int) (x2 : Int) (x4 : Int) (h : Hp) : BX4_settle_19 n (f + 1) x0 x2 x4 h =
  goAt false (kct (KBX4_settle_19 n (BX4_settle_19 n f))) (fun _ _ => none) (fsX4_settle n _) sdX4_settle 1000 19 [(0, 8, x0), (2, 0, x2), (4, 0, x4)] [] h := rfl
def KBX4_settle_74 (_ : Nat) (bk : Int → Int → Int → Hp → Option (Hp)) : CT (Hp) := [(74, [(0, 8, none), (2, 0, none), (4, 0, none)], [], fun a c h => match a, c with
    | [x0, x2, x4], [] => bk x0 x2 x4 h
    | _, _ => none)]
set_option maxRecDepth 100000 in
theorem eBX4_settle_74 (n f : Nat) (x0 : Int) (x2 : Int) (x4 : Int) (h : Hp) : BX4_settle_74 n (f + 1) x0 x2 x4 h =
  goAt false (kct (KBX4_settle_74 n (BX4_settle_74 n f))) (fun _ h => some (h)) (fsX4_settle n _) sdX4_settle 1000 74 [(0, 8, x0), (2, 0, x2), (4, 0, x4)] [] h := rfl
def KJX4_settle_71 (n : Nat) : CT (Hp) := [(74, [(0, 8, none), (2, 0, none), (4, 0, none)], [], fun a c h => match a, c with
    | [x0, x2, x4], [] => LX4_settle_74 n x0 x2 x4 h
    | _, _ => none)]
set_option maxRecDepth 100000 in
theorem eJX4_settle_71 (n : Nat) (x0 : Int) (x2 : Int) (h : Hp) : JX4_settle_71 n x0 x2 h =
  goAt false (kct (KJX4_settle_71 n)) (fun _ h => some (h)) (fsX4_settle n _) sdX4_settle 1000 71 [(0, 8, x0), (2, 0, x2)] [] h := rfl
def KMX4_settle (n : Nat) : CT (Hp) := [(19, [(0, 8, none), (2, 0, none), (4, 0, none)], [], fun a c h => match a, c with
    | [x0, x2, x4], [] => LX4_settle_19 n x0 x2 x4 h
    | _, _ => none)]
set_option maxRecDepth 100000 in
theorem eMX4_settle (n : Nat) (x0 : Int) (x1 : Int) (x2 : Int) (x3 : Int) (h : Hp) : MX4_settle n x0 x1 x2 x3 h =
  goAt false (kct (KMX4_settle n)) (fun _ h => some (h)) (fsX4_settle n _) sdX4_settle 1000 0 [(0, 8, x0), (1, 14, x1), (2, 0, x2), (3, 0, x3)] [] h := rfl
theorem okX4_settle : mokb (mi 54) = true := by decide +kernel
theorem rkX4_settle : rkOK 0 (mi 54).1.2.2.2.2.2.2.1 (mi 54).1.2.2.2.1 := Or.inl ⟨rfl, rfl, rfl⟩
def calX4_settle : List Nat := [36, 262, 261, 52, 53]
theorem foX4_settle {l : Launch} {ρ : Type} (n : Nat) : fsOK l false mi calX4_settle (fsX4_settle n ρ) := ⟨sndX11_share, ⟨snd_mmax, ⟨snd_mmin, ⟨sndX4_cutOf, ⟨(sndX4_paceOf n), trivial⟩⟩⟩⟩⟩
theorem ok_sdX4_settle : sdb (mi 54).1.2.1 (insOK mi (mi 54).1.1.cls (mi 54).1.2.2.1 (mi 54).1.2.2.2.2.1 (mi 54).1.2.2.2.2.2.1 calX4_settle false 0) sdX4_settle = true := by decide +kernel
def GX4_settle_19 (l : Launch) (h0 : Hp) (h' : Hp) (v : Int) (_ : Hp) : (Int × Int × Hp) → Prop
  | (e0, e2, h1) => PAt l false (mi 54).1 h0 v h' 71 [(0, 8, e0), (2, 0, e2)] [] h1
theorem sBX4_settle_19 {l : Launch} {h0 h' : Hp} {v : Int} (h8 : nOf h0 = 148) (n : Nat) : ∀ (f : Nat) (x0 : Int) (x2 : Int) (x4 : Int) (h : Hp) {r : Int × Int × Hp}, BX4_settle_19 n f x0 x2 x4 h = some r → GX4_settle_19 l h0 h' v h r → PAt l false (mi 54).1 h0 v h' 19 [(0, 8, x0), (2, 0, x2), (4, 0, x4)] [] h := by
  intro f
  induction f with
  | zero =>
    intro x0 x2 x4 h r H _
    have H2 : (none : Option (Int × Int × Hp)) = some r := H
    cases H2
  | succ f ih =>
    intro x0 x2 x4 h r H hG
    exact pat_w ok_sdX4_settle rkX4_settle h8 (foX4_settle n) (fun v1 h1 q => by cases q) (List.forall_mem_cons.mpr ⟨(fun a c h H => by
      dsimp only at H
      split at H
      · exact ih _ _ _ _ H hG
      · cases H), (List.forall_mem_cons.mpr ⟨(fun a c h H => by
      dsimp only at H
      split at H
      · cases H
        exact hG
      · cases H), (fun q9 h9 => by cases h9)⟩)⟩) ((eBX4_settle_19 n f x0 x2 x4 h).symm.trans H)
theorem sBX4_settle_74 {l : Launch} {h0 h' : Hp} {v : Int} (h8 : nOf h0 = 148) (n : Nat) : ∀ (f : Nat) (x0 : Int) (x2 : Int) (x4 : Int) (h : Hp) {r : Hp}, BX4_settle_74 n f x0 x2 x4 h = some r → gW h' r → PAt l false (mi 54).1 h0 v h' 74 [(0, 8, x0), (2, 0, x2), (4, 0, x4)] [] h := by
  intro f
  induction f with
  | zero =>
    intro x0 x2 x4 h r H _
    have H2 : (none : Option (Hp)) = some r := H
    cases H2
  | succ f ih =>
    intro x0 x2 x4 h r H hG
    exact pat_w ok_sdX4_settle rkX4_settle h8 (foX4_settle n) (fun v1 h1 q => by
    cases q
    exact ⟨hG, fun q9 => absurd rfl q9⟩) (List.forall_mem_cons.mpr ⟨(fun a c h H => by
      dsimp only at H
      split at H
      · exact ih _ _ _ _ H hG
      · cases H), (fun q9 h9 => by cases h9)⟩) ((eBX4_settle_74 n f x0 x2 x4 h).symm.trans H)
theorem sLX4_settle_74 {l : Launch} {h0 h' : Hp} {v : Int} (h8 : nOf h0 = 148) (n : Nat) (x0 : Int) (x2 : Int) (x4 : Int) (h : Hp) {r : Hp} (H : LX4_settle_74 n x0 x2 x4 h = some r) (hG : gW h' r) : PAt l false (mi 54).1 h0 v h' 74 [(0, 8, x0), (2, 0, x2), (4, 0, x4)] [] h :=
  sBX4_settle_74 h8 n n x0 x2 x4 h H hG
theorem sJX4_settle_71 {l : Launch} {h0 h' : Hp} {v : Int} (h8 : nOf h0 = 148) (n : Nat) (x0 : Int) (x2 : Int) (h : Hp) {r : Hp} (H : JX4_settle_71 n x0 x2 h = some r) (hG : gW h' r) : PAt l false (mi 54).1 h0 v h' 71 [(0, 8, x0), (2, 0, x2)] [] h :=
  pat_w ok_sdX4_settle rkX4_settle h8 (foX4_settle n) (fun v1 h1 q => by
    cases q
    exact ⟨hG, fun q9 => absurd rfl q9⟩) (List.forall_mem_cons.mpr ⟨(fun a c h H => by
      dsimp only at H
      split at H
      · exact sLX4_settle_74 h8 n _ _ _ _ H hG
      · cases H), (fun q9 h9 => by cases h9)⟩) ((eJX4_settle_71 n x0 x2 h).symm.trans H)
theorem sLX4_settle_19 {l : Launch} {h0 h' : Hp} {v : Int} (h8 : nOf h0 = 148) (n : Nat) (x0 : Int) (x2 : Int) (x4 : Int) (h : Hp) {r : Hp} (H : LX4_settle_19 n x0 x2 x4 h = some r) (hG : gW h' r) : PAt l false (mi 54).1 h0 v h' 19 [(0, 8, x0), (2, 0, x2), (4, 0, x4)] [] h := by
  obtain ⟨e9, h2, h3⟩ := bndx_some H
  obtain ⟨e0, e2, h1⟩ := e9
  exact sBX4_settle_19 h8 n n x0 x2 x4 h h2 (sJX4_settle_71 h8 n e0 e2 h1 h3 hG)
theorem sMX4_settle {l : Launch} {h0 h' : Hp} {v : Int} (h8 : nOf h0 = 148) (n : Nat) (x0 : Int) (x1 : Int) (x2 : Int) (x3 : Int) (h : Hp) {r : Hp} (H : MX4_settle n x0 x1 x2 x3 h = some r) (hG : gW h' r) : PAt l false (mi 54).1 h0 v h' 0 [(0, 8, x0), (1, 14, x1), (2, 0, x2), (3, 0, x3)] [] h :=
  pat_w ok_sdX4_settle rkX4_settle h8 (foX4_settle n) (fun v1 h1 q => by
    cases q
    exact ⟨hG, fun q9 => absurd rfl q9⟩) (List.forall_mem_cons.mpr ⟨(fun a c h H => by
      dsimp only at H
      split at H
      · exact sLX4_settle_19 h8 n _ _ _ _ H hG
      · cases H), (fun q9 h9 => by cases h9)⟩) ((eMX4_settle n x0 x1 x2 x3 h).symm.trans H)
theorem sndX4_settle {ρ : Type} {l : Launch} (n : Nat) : SndF (ρ := ρ) l false (mi 54).1 (wX4_settle n) := by
    intro a h k r H ha ho hn hf
    have h8 := hf rfl
    obtain ⟨x0, x1, x2, x3, rfl⟩ := len4 (show a.length = 4 from ha)
    replace H : bndh (MX4_settle n x0 x1 x2 x3 h) (fun h2 => k 0 h2) = some r := H
    obtain ⟨h2, H1, H2⟩ := bndh_some H
    exact ⟨0, h2, H2, met_mk (mok_base okX4_settle).1 (by decide +kernel) (Nat.le_of_ble_eq_true rfl) ho (sMX4_settle h8 n x0 x1 x2 x3 h H1 rfl), fun q => by cases q⟩
/-! X1_settle -/
def sdX1_settle : SD := [(0, [(0, .aload_n 0, 1, [], 0), (1, .getfield 24, 3, [1, 0, 8, 1, 464, 0], 2), (4, .aload_n 1, 1, [], 0), (5, .iload_n 2, 1, [], 0), (6, .iload_n 3, 1, [], 0), (7, .invokevirtual 28, 3, [0, 0, 1, 54, 571, 0, 0, 14, 8], 0), (10, .aload_n 0, 1, [], 0), (11, .getfield 24, 3, [1, 0, 8, 1, 464, 0], 2), (14, .getfield 32, 3, [4, 3, 0, 0, 436, 0], 0), (17, .aload_n 0, 1, [], 0), (18, .getfield 17, 3, [1, 2, 0, 0, 467, 0], 0), (21, .if_icmp .eq 41, 3, [], 0)]),
  (24, [(24, .aload_n 0, 1, [], 0), (25, .aload_n 0, 1, [], 0), (26, .getfield 24, 3, [1, 0, 8, 1, 464, 0], 2), (29, .getfield 32, 3, [4, 3, 0, 0, 436, 0], 0), (32, .putfield 17, 3, [1, 2, 0, 0, 0, 467], 0), (35, .iconst 0, 1, [], 0), (36, .istore 4, 2, [], 0)]),
  (38, [(38, .iload 4, 2, [], 0), (40, .aload_n 0, 1, [], 0), (41, .getfield 13, 3, [1, 1, 20220, 1, 466, 0], 1), (44, .arraylength, 1, [], 0), (45, .if_icmp .ge 17, 3, [], 0)]),
  (48, [(48, .aload_n 0, 1, [], 0), (49, .getfield 13, 3, [1, 1, 20220, 1, 466, 0], 1), (52, .iload 4, 2, [], 0), (54, .iconst 0, 1, [], 0), (55, .iastore, 1, [], 0), (56, .iinc 4 1, 3, [], 0), (59, .goto (-21), 3, [], 0)]),
  (62, [(62, .return_, 1, [], 0)])]
def BX1_settle_38 (n : Nat) : Nat → Int → Int → Hp → Option (Hp)
  | 0, _, _, _ => none
  | f + 1, x0, x4, h =>
    (if (alen 20220) ≤ x4 then
    (some h)
    else
    (grd (0 ≤ x4 ∧ x4 < alen 20220)
    (ltt (up h (x0 + 1) x4 0) fun h1 =>
    (ltt (w32 (x4 + 1)) fun y1 =>
    (BX1_settle_38 n f x0 y1 h1)))))
def LX1_settle_38 (n : Nat) (x0 x4 : Int) (h : Hp) : Option (Hp) :=
(BX1_settle_38 n n x0 x4 h)
def MX1_settle (n : Nat) (x0 x1 x2 x3 : Int) (h : Hp) : Option (Hp) :=
(bndh (MX4_settle n (x0 + 2) x1 x2 x3 h) fun h1 =>
(if (h1 (x0 + 2) 3) = (h1 x0 2) then
(some h1)
else
(ltt (up h1 x0 2 (h1 (x0 + 2) 3)) fun h2 =>
(ltt 0 fun y1 =>
(LX1_settle_38 n x0 y1 h2)))))
def wX1_settle {ρ : Type} (n : Nat) : FN ρ := fun a h k => match a with
  | [x0, x1, x2, x3] => bndh (MX1_settle n x0 x1 x2 x3 h) (fun h2 => k 0 h2)
  | _ => none
def fsX1_settle (n : Nat) (ρ : Type) : List (FN ρ) := [wX4_settle n]
def KBX1_settle_38 (_ : Nat) (bk : Int → Int → Hp → Option (Hp)) : CT (Hp) := [(38, [(0, 5, none), (4, 0, none)], [], fun a c h => match a, c with
    | [x0, x4], [] => bk x0 x4 h
    | _, _ => none)]
set_option maxRecDepth 100000 in
theorem eBX1_settle_38 (n f : Nat) (x0 : Int) (x4 : Int) (h : Hp) : BX1_settle_38 n (f + 1) x0 x4 h =
  goAt false (kct (KBX1_settle_38 n (BX1_settle_38 n f))) (fun _ h => some (h)) (fsX1_settle n _) sdX1_settle 1000 38 [(0, 5, x0), (4, 0, x4)] [] h := rfl
def KMX1_settle (n : Nat) : CT (Hp) := [(38, [(0, 5, none), (4, 0, none)], [], fun a c h => match a, c with
    | [x0, x4], [] => LX1_settle_38 n x0 x4 h
    | _, _ => none)]
set_option maxRecDepth 100000 in
theorem eMX1_settle (n : Nat) (x0 : Int) (x1 : Int) (x2 : Int) (x3 : Int) (h : Hp) : MX1_settle n x0 x1 x2 x3 h =
  goAt false (kct (KMX1_settle n)) (fun _ h => some (h)) (fsX1_settle n _) sdX1_settle 1000 0 [(0, 5, x0), (1, 14, x1), (2, 0, x2), (3, 0, x3)] [] h := rfl
theorem okX1_settle : mokb (mi 55) = true := by decide +kernel
theorem rkX1_settle : rkOK 0 (mi 55).1.2.2.2.2.2.2.1 (mi 55).1.2.2.2.1 := Or.inl ⟨rfl, rfl, rfl⟩
def calX1_settle : List Nat := [54]
theorem foX1_settle {l : Launch} {ρ : Type} (n : Nat) : fsOK l false mi calX1_settle (fsX1_settle n ρ) := ⟨(sndX4_settle n), trivial⟩
theorem ok_sdX1_settle : sdb (mi 55).1.2.1 (insOK mi (mi 55).1.1.cls (mi 55).1.2.2.1 (mi 55).1.2.2.2.2.1 (mi 55).1.2.2.2.2.2.1 calX1_settle false 0) sdX1_settle = true := by decide +kernel
theorem sBX1_settle_38 {l : Launch} {h0 h' : Hp} {v : Int} (h8 : nOf h0 = 148) (n : Nat) : ∀ (f : Nat) (x0 : Int) (x4 : Int) (h : Hp) {r : Hp}, BX1_settle_38 n f x0 x4 h = some r → gW h' r → PAt l false (mi 55).1 h0 v h' 38 [(0, 5, x0), (4, 0, x4)] [] h := by
  intro f
  induction f with
  | zero =>
    intro x0 x4 h r H _
    have H2 : (none : Option (Hp)) = some r := H
    cases H2
  | succ f ih =>
    intro x0 x4 h r H hG
    exact pat_w ok_sdX1_settle rkX1_settle h8 (foX1_settle n) (fun v1 h1 q => by
    cases q
    exact ⟨hG, fun q9 => absurd rfl q9⟩) (List.forall_mem_cons.mpr ⟨(fun a c h H => by
      dsimp only at H
      split at H
      · exact ih _ _ _ H hG
      · cases H), (fun q9 h9 => by cases h9)⟩) ((eBX1_settle_38 n f x0 x4 h).symm.trans H)
theorem sLX1_settle_38 {l : Launch} {h0 h' : Hp} {v : Int} (h8 : nOf h0 = 148) (n : Nat) (x0 : Int) (x4 : Int) (h : Hp) {r : Hp} (H : LX1_settle_38 n x0 x4 h = some r) (hG : gW h' r) : PAt l false (mi 55).1 h0 v h' 38 [(0, 5, x0), (4, 0, x4)] [] h :=
  sBX1_settle_38 h8 n n x0 x4 h H hG
theorem sMX1_settle {l : Launch} {h0 h' : Hp} {v : Int} (h8 : nOf h0 = 148) (n : Nat) (x0 : Int) (x1 : Int) (x2 : Int) (x3 : Int) (h : Hp) {r : Hp} (H : MX1_settle n x0 x1 x2 x3 h = some r) (hG : gW h' r) : PAt l false (mi 55).1 h0 v h' 0 [(0, 5, x0), (1, 14, x1), (2, 0, x2), (3, 0, x3)] [] h :=
  pat_w ok_sdX1_settle rkX1_settle h8 (foX1_settle n) (fun v1 h1 q => by
    cases q
    exact ⟨hG, fun q9 => absurd rfl q9⟩) (List.forall_mem_cons.mpr ⟨(fun a c h H => by
      dsimp only at H
      split at H
      · exact sLX1_settle_38 h8 n _ _ _ H hG
      · cases H), (fun q9 h9 => by cases h9)⟩) ((eMX1_settle n x0 x1 x2 x3 h).symm.trans H)
theorem sndX1_settle {ρ : Type} {l : Launch} (n : Nat) : SndF (ρ := ρ) l false (mi 55).1 (wX1_settle n) := by
    intro a h k r H ha ho hn hf
    have h8 := hf rfl
    obtain ⟨x0, x1, x2, x3, rfl⟩ := len4 (show a.length = 4 from ha)
    replace H : bndh (MX1_settle n x0 x1 x2 x3 h) (fun h2 => k 0 h2) = some r := H
    obtain ⟨h2, H1, H2⟩ := bndh_some H
    exact ⟨0, h2, H2, met_mk (mok_base okX1_settle).1 (by decide +kernel) (Nat.le_of_ble_eq_true rfl) ho (sMX1_settle h8 n x0 x1 x2 x3 h H1 rfl), fun q => by cases q⟩
/-! X4_fedSpeed -/
def sdX4_fedSpeed : SD := [(0, [(0, .aload_n 0, 1, [], 0), (1, .getfield 34, 3, [4, 0, 14, 0, 430, 0], 0), (4, .getfield 89, 3, [10, 4, 532, 1, 180, 0], 8), (7, .iload_n 1, 1, [], 0), (8, .iaload, 1, [], 0), (9, .aload_n 0, 1, [], 0), (10, .getfield 15, 3, [4, 2, 0, 0, 434, 0], 0), (13, .imul, 1, [], 0), (14, .bipush 100, 2, [], 0), (16, .idiv, 1, [], 0), (17, .ireturn, 1, [], 0)])]
def MX4_fedSpeed (x0 x1 : Int) (h : Hp) : Option (Int) :=
(grd (0 ≤ x1 ∧ x1 < alen 532)
(grd (¬ 100 = 0)
(some (w32 (Int.tdiv (w32 ((h ((h x0 0) + 8) x1) * (h x0 2))) 100)))))
def wX4_fedSpeed {ρ : Type} : FN ρ := fun a h k => match a with
  | [x0, x1] => bndp (MX4_fedSpeed x0 x1 h) (fun r => k r h)
  | _ => none
def fsX4_fedSpeed (ρ : Type) : List (FN ρ) := []
def KMX4_fedSpeed  : CT (Int) := []
set_option maxRecDepth 100000 in
theorem eMX4_fedSpeed (x0 : Int) (x1 : Int) (h : Hp) : MX4_fedSpeed x0 x1 h =
  goAt false (kct (KMX4_fedSpeed)) (fun v _ => some (v)) (fsX4_fedSpeed _) sdX4_fedSpeed 1000 0 [(0, 8, x0), (1, 0, x1)] [] h := rfl
theorem okX4_fedSpeed : mokb (mi 56) = true := by decide +kernel
theorem rkX4_fedSpeed : rkOK 1 (mi 56).1.2.2.2.2.2.2.1 (mi 56).1.2.2.2.1 := Or.inr (Or.inl ⟨rfl, rfl, rfl⟩)
def calX4_fedSpeed : List Nat := []
theorem foX4_fedSpeed {l : Launch} {ρ : Type} : fsOK l false mi calX4_fedSpeed (fsX4_fedSpeed ρ) := trivial
theorem frX4_fedSpeed {ρ : Type} : ∀ fn ∈ fsX4_fedSpeed ρ, RoF fn := (fun q9 h9 => by cases h9)
theorem ok_sdX4_fedSpeed : sdb (mi 56).1.2.1 (insOK mi (mi 56).1.1.cls (mi 56).1.2.2.1 (mi 56).1.2.2.2.2.1 (mi 56).1.2.2.2.2.2.1 calX4_fedSpeed false 1) sdX4_fedSpeed = true := by decide +kernel
theorem sMX4_fedSpeed {l : Launch} {h0 : Hp} {v : Int} (h8 : nOf h0 = 148)  (x0 : Int) (x1 : Int) (h : Hp) {r : Int} (H : MX4_fedSpeed x0 x1 h = some r) (hG : gV v r) : PAt l false (mi 56).1 h0 v h 0 [(0, 8, x0), (1, 0, x1)] [] h :=
  pat_ro ok_sdX4_fedSpeed rfl rkX4_fedSpeed h8 (foX4_fedSpeed) (frX4_fedSpeed) (fun v1 q => by
    cases q
    exact ⟨rfl, fun _ => hG⟩) (fun q9 h9 => by cases h9) ((eMX4_fedSpeed x0 x1 h).symm.trans H)
theorem sndX4_fedSpeed {ρ : Type} {l : Launch} : SndF (ρ := ρ) l false (mi 56).1 (wX4_fedSpeed) := by
    intro a h k r H ha ho hn hf
    have h8 := hf rfl
    obtain ⟨x0, x1, rfl⟩ := len2 (show a.length = 2 from ha)
    replace H : bndp (MX4_fedSpeed x0 x1 h) (fun r => k r h) = some r := H
    obtain ⟨v2, H1, H2⟩ := bndp_some H
    exact ⟨v2, h, H2, met_mk (mok_base okX4_fedSpeed).1 (by decide +kernel) (Nat.le_of_ble_eq_true rfl) ho (sMX4_fedSpeed h8 x0 x1 h H1 rfl), fun q => by cases q⟩
theorem roX4_fedSpeed {ρ : Type} : RoF (wX4_fedSpeed : FN ρ) := fun a h k k2 hk => by
  unfold wX4_fedSpeed
  split
  · exact bndp_ro hk
  · rfl
/-! X4_freeLimit -/
def sdX4_freeLimit : SD := [(0, [(0, .aload_n 0, 1, [], 0), (1, .iload_n 1, 1, [], 0), (2, .invokevirtual 92, 3, [1, 0, 1, 56, 613, 0, 8], 0), (5, .aload_n 0, 1, [], 0), (6, .getfield 34, 3, [4, 0, 14, 0, 430, 0], 0), (9, .getfield 95, 3, [10, 5, 532, 1, 184, 0], 9), (12, .iload_n 1, 1, [], 0), (13, .iaload, 1, [], 0), (14, .invokestatic 56, 3, [1, 1, 3, 261, 581, 0, 0], 0), (17, .i2l, 1, [], 0), (18, .aload_n 0, 1, [], 0), (19, .getfield 9, 3, [4, 1, 0, 0, 432, 0], 0), (22, .i2l, 1, [], 0), (23, .invokestatic 46, 3, [1, 2, 4, 36, 575, 1, 1], 0), (26, .ireturn, 1, [], 0)])]
def MX4_freeLimit (x0 x1 : Int) (h : Hp) : Option (Int) :=
(bndp (MX4_fedSpeed x0 x1 h) fun r1 =>
(grd (0 ≤ x1 ∧ x1 < alen 532)
(bndp (MX11_share (min r1 (h ((h x0 0) + 9) x1)) (h x0 1)) fun r2 =>
(some r2))))
def wX4_freeLimit {ρ : Type} : FN ρ := fun a h k => match a with
  | [x0, x1] => bndp (MX4_freeLimit x0 x1 h) (fun r => k r h)
  | _ => none
def fsX4_freeLimit (ρ : Type) : List (FN ρ) := [wX4_fedSpeed, fmin, wX11_share]
def KMX4_freeLimit  : CT (Int) := []
set_option maxRecDepth 100000 in
theorem eMX4_freeLimit (x0 : Int) (x1 : Int) (h : Hp) : MX4_freeLimit x0 x1 h =
  goAt false (kct (KMX4_freeLimit)) (fun v _ => some (v)) (fsX4_freeLimit _) sdX4_freeLimit 1000 0 [(0, 8, x0), (1, 0, x1)] [] h := rfl
theorem okX4_freeLimit : mokb (mi 57) = true := by decide +kernel
theorem rkX4_freeLimit : rkOK 1 (mi 57).1.2.2.2.2.2.2.1 (mi 57).1.2.2.2.1 := Or.inr (Or.inl ⟨rfl, rfl, rfl⟩)
def calX4_freeLimit : List Nat := [56, 261, 36]
theorem foX4_freeLimit {l : Launch} {ρ : Type} : fsOK l false mi calX4_freeLimit (fsX4_freeLimit ρ) := ⟨sndX4_fedSpeed, ⟨snd_mmin, ⟨sndX11_share, trivial⟩⟩⟩
theorem frX4_freeLimit {ρ : Type} : ∀ fn ∈ fsX4_freeLimit ρ, RoF fn := (List.forall_mem_cons.mpr ⟨roX4_fedSpeed, (List.forall_mem_cons.mpr ⟨ro_mmin, (List.forall_mem_cons.mpr ⟨roX11_share, (fun q9 h9 => by cases h9)⟩)⟩)⟩)
theorem ok_sdX4_freeLimit : sdb (mi 57).1.2.1 (insOK mi (mi 57).1.1.cls (mi 57).1.2.2.1 (mi 57).1.2.2.2.2.1 (mi 57).1.2.2.2.2.2.1 calX4_freeLimit false 1) sdX4_freeLimit = true := by decide +kernel
theorem sMX4_freeLimit {l : Launch} {h0 : Hp} {v : Int} (h8 : nOf h0 = 148)  (x0 : Int) (x1 : Int) (h : Hp) {r : Int} (H : MX4_freeLimit x0 x1 h = some r) (hG : gV v r) : PAt l false (mi 57).1 h0 v h 0 [(0, 8, x0), (1, 0, x1)] [] h :=
  pat_ro ok_sdX4_freeLimit rfl rkX4_freeLimit h8 (foX4_freeLimit) (frX4_freeLimit) (fun v1 q => by
    cases q
    exact ⟨rfl, fun _ => hG⟩) (fun q9 h9 => by cases h9) ((eMX4_freeLimit x0 x1 h).symm.trans H)
theorem sndX4_freeLimit {ρ : Type} {l : Launch} : SndF (ρ := ρ) l false (mi 57).1 (wX4_freeLimit) := by
    intro a h k r H ha ho hn hf
    have h8 := hf rfl
    obtain ⟨x0, x1, rfl⟩ := len2 (show a.length = 2 from ha)
    replace H : bndp (MX4_freeLimit x0 x1 h) (fun r => k r h) = some r := H
    obtain ⟨v2, H1, H2⟩ := bndp_some H
    exact ⟨v2, h, H2, met_mk (mok_base okX4_freeLimit).1 (by decide +kernel) (Nat.le_of_ble_eq_true rfl) ho (sMX4_freeLimit h8 x0 x1 h H1 rfl), fun q => by cases q⟩
theorem roX4_freeLimit {ρ : Type} : RoF (wX4_freeLimit : FN ρ) := fun a h k k2 hk => by
  unfold wX4_freeLimit
  split
  · exact bndp_ro hk
  · rfl
/-! X4_grant -/
def sdX4_grant : SD := [(0, [(0, .aload_n 0, 1, [], 0), (1, .iload_n 1, 1, [], 0), (2, .putfield 15, 3, [4, 2, 0, 0, 0, 434], 0), (5, .iconst 0, 1, [], 0), (6, .istore_n 2, 1, [], 0), (7, .iconst 0, 1, [], 0), (8, .istore_n 3, 1, [], 0)]),
  (9, [(9, .iload_n 3, 1, [], 0), (10, .aload_n 0, 1, [], 0), (11, .getfield 34, 3, [4, 0, 14, 0, 430, 0], 0), (14, .getfield 38, 3, [10, 11, 0, 0, 201, 0], 0), (17, .if_icmp .ge 51, 3, [], 0)]),
  (20, [(20, .iconst 1, 1, [], 0), (21, .aload_n 0, 1, [], 0), (22, .iload_n 3, 1, [], 0), (23, .invokevirtual 86, 3, [1, 0, 1, 57, 609, 0, 8], 0), (26, .bipush 100, 2, [], 0), (28, .invokestatic 82, 3, [1, 1, 4, 21, 598, 0, 0, 0], 0), (31, .istore 4, 2, [], 0), (33, .iload_n 2, 1, [], 0), (34, .ifCond .ne 14, 3, [], 0)]),
  (37, [(37, .iload 4, 2, [], 0), (39, .aload_n 0, 1, [], 0), (40, .getfield 21, 3, [4, 4, 532, 1, 438, 0], 1), (43, .iload_n 3, 1, [], 0), (44, .iaload, 1, [], 0), (45, .if_icmp .eq 7, 3, [], 0)]),
  (48, [(48, .iconst 1, 1, [], 0), (49, .goto 4, 3, [], 0)]),
  (52, [(52, .iconst 0, 1, [], 0)]),
  (53, [(53, .istore_n 2, 1, [], 0), (54, .aload_n 0, 1, [], 0), (55, .getfield 21, 3, [4, 4, 532, 1, 438, 0], 1), (58, .iload_n 3, 1, [], 0), (59, .iload 4, 2, [], 0), (61, .iastore, 1, [], 0), (62, .iinc 3 1, 3, [], 0), (65, .goto (-56), 3, [], 0)]),
  (68, [(68, .iload_n 2, 1, [], 0), (69, .ireturn, 1, [1], 0)])]
def JX4_grant_53 (n : Nat) (bk : Int → Int → Int → Hp → Option (Int × Hp)) (x0 x3 x4 z0 : Int) (h : Hp) : Option (Int × Hp) :=
(ltt z0 fun y1 =>
(grd (0 ≤ x3 ∧ x3 < alen 532)
(ltt (up h (x0 + 1) x3 x4) fun h1 =>
(ltt (w32 (x3 + 1)) fun y2 =>
(bk x0 y1 y2 h1)))))
def JX4_grant_48 (n : Nat) (bk : Int → Int → Int → Hp → Option (Int × Hp)) (x0 x3 x4 : Int) (h : Hp) : Option (Int × Hp) :=
(JX4_grant_53 n bk x0 x3 x4 1 h)
def BX4_grant_9 (n : Nat) : Nat → Int → Int → Int → Hp → Option (Int × Hp)
  | 0, _, _, _, _ => none
  | f + 1, x0, x2, x3, h =>
    (if (h (h x0 0) 11) ≤ x3 then
    (grd (x2 = 0 ∨ x2 = 1)
    (some (x2, h)))
    else
    (bndp (MX4_freeLimit x0 x3 h) fun r1 =>
    (bndp (MX11_within 1 r1 100) fun r2 =>
    (ltt r2 fun y1 =>
    (if x2 ≠ 0 then
    (JX4_grant_48 n (BX4_grant_9 n f) x0 x3 y1 h)
    else
    (grd (0 ≤ x3 ∧ x3 < alen 532)
    (if y1 = (h (x0 + 1) x3) then
    (JX4_grant_53 n (BX4_grant_9 n f) x0 x3 y1 0 h)
    else
    (JX4_grant_48 n (BX4_grant_9 n f) x0 x3 y1 h))))))))
def LX4_grant_9 (n : Nat) (x0 x2 x3 : Int) (h : Hp) : Option (Int × Hp) :=
(BX4_grant_9 n n x0 x2 x3 h)
def MX4_grant (n : Nat) (x0 x1 : Int) (h : Hp) : Option (Int × Hp) :=
(ltt (up h x0 2 x1) fun h1 =>
(ltt 0 fun y1 =>
(ltt 0 fun y2 =>
(LX4_grant_9 n x0 y1 y2 h1))))
def wX4_grant {ρ : Type} (n : Nat) : FN ρ := fun a h k => match a with
  | [x0, x1] => bnd (MX4_grant n x0 x1 h) (fun r h2 => k r h2)
  | _ => none
def fsX4_grant (n : Nat) (ρ : Type) : List (FN ρ) := [wX4_freeLimit, wX11_within]
def KJX4_grant_53 (_ : Nat) (bk : Int → Int → Int → Hp → Option (Int × Hp)) : CT (Int × Hp) := [(9, [(0, 8, none), (2, 0, none), (3, 0, none)], [], fun a c h => match a, c with
    | [x0, x2, x3], [] => bk x0 x2 x3 h
    | _, _ => none)]
set_option maxRecDepth 100000 in
theorem eJX4_grant_53 (n : Nat) (bk : Int → Int → Int → Hp → Option (Int × Hp)) (x0 : Int) (x3 : Int) (x4 : Int) (z0 : Int) (h : Hp) : JX4_grant_53 n bk x0 x3 x4 z0 h =
  goAt false (kct (KJX4_grant_53 n bk)) (fun v h => some ((v, h))) (fsX4_grant n _) sdX4_grant 1000 53 [(0, 8, x0), (3, 0, x3), (4, 0, x4)] [(0, z0)] h := rfl
def KJX4_grant_48 (n : Nat) (bk : Int → Int → Int → Hp → Option (Int × Hp)) : CT (Int × Hp) := [(9, [(0, 8, none), (2, 0, none), (3, 0, none)], [], fun a c h => match a, c with
    | [x0, x2, x3], [] => bk x0 x2 x3 h
    | _, _ => none),
  (53, [(0, 8, none), (3, 0, none), (4, 0, none)], [(0, none)], fun a c h => match a, c with
    | [x0, x3, x4], [z0] => JX4_grant_53 n bk x0 x3 x4 z0 h
    | _, _ => none)]
set_option maxRecDepth 100000 in
theorem eJX4_grant_48 (n : Nat) (bk : Int → Int → Int → Hp → Option (Int × Hp)) (x0 : Int) (x3 : Int) (x4 : Int) (h : Hp) : JX4_grant_48 n bk x0 x3 x4 h =
  goAt false (kct (KJX4_grant_48 n bk)) (fun v h => some ((v, h))) (fsX4_grant n _) sdX4_grant 1000 48 [(0, 8, x0), (3, 0, x3), (4, 0, x4)] [] h := rfl
def KBX4_grant_9 (n : Nat) (bk : Int → Int → Int → Hp → Option (Int × Hp)) : CT (Int × Hp) := [(9, [(0, 8, none), (2, 0, none), (3, 0, none)], [], fun a c h => match a, c with
    | [x0, x2, x3], [] => bk x0 x2 x3 h
    | _, _ => none),
  (53, [(0, 8, none), (3, 0, none), (4, 0, none)], [(0, none)], fun a c h => match a, c with
    | [x0, x3, x4], [z0] => JX4_grant_53 n bk x0 x3 x4 z0 h
    | _, _ => none),
  (48, [(0, 8, none), (3, 0, none), (4, 0, none)], [], fun a c h => match a, c with
    | [x0, x3, x4], [] => JX4_grant_48 n bk x0 x3 x4 h
    | _, _ => none)]
set_option maxRecDepth 100000 in
theorem eBX4_grant_9 (n f : Nat) (x0 : Int) (x2 : Int) (x3 : Int) (h : Hp) : BX4_grant_9 n (f + 1) x0 x2 x3 h =
  goAt false (kct (KBX4_grant_9 n (BX4_grant_9 n f))) (fun v h => some ((v, h))) (fsX4_grant n _) sdX4_grant 1000 9 [(0, 8, x0), (2, 0, x2), (3, 0, x3)] [] h := rfl
def KMX4_grant (n : Nat) : CT (Int × Hp) := [(9, [(0, 8, none), (2, 0, none), (3, 0, none)], [], fun a c h => match a, c with
    | [x0, x2, x3], [] => LX4_grant_9 n x0 x2 x3 h
    | _, _ => none)]
set_option maxRecDepth 100000 in
theorem eMX4_grant (n : Nat) (x0 : Int) (x1 : Int) (h : Hp) : MX4_grant n x0 x1 h =
  goAt false (kct (KMX4_grant n)) (fun v h => some ((v, h))) (fsX4_grant n _) sdX4_grant 1000 0 [(0, 8, x0), (1, 0, x1)] [] h := rfl
theorem okX4_grant : mokb (mi 58) = true := by decide +kernel
theorem rkX4_grant : rkOK 4 (mi 58).1.2.2.2.2.2.2.1 (mi 58).1.2.2.2.1 := Or.inr (Or.inr (Or.inl ⟨rfl, rfl, rfl⟩))
def calX4_grant : List Nat := [57, 21]
theorem foX4_grant {l : Launch} {ρ : Type} (n : Nat) : fsOK l false mi calX4_grant (fsX4_grant n ρ) := ⟨sndX4_freeLimit, ⟨sndX11_within, trivial⟩⟩
theorem ok_sdX4_grant : sdb (mi 58).1.2.1 (insOK mi (mi 58).1.1.cls (mi 58).1.2.2.1 (mi 58).1.2.2.2.2.1 (mi 58).1.2.2.2.2.2.1 calX4_grant false 4) sdX4_grant = true := by decide +kernel
theorem sJX4_grant_53 {l : Launch} {h0 h' : Hp} {v : Int} (h8 : nOf h0 = 148) (n : Nat) (bk : Int → Int → Int → Hp → Option (Int × Hp)) (hbk : ∀ (x0 : Int) (x2 : Int) (x3 : Int) (h : Hp) (r : Int × Hp), bk x0 x2 x3 h = some r → gWV v h' r → PAt l false (mi 58).1 h0 v h' 9 [(0, 8, x0), (2, 0, x2), (3, 0, x3)] [] h) (x0 : Int) (x3 : Int) (x4 : Int) (z0 : Int) (h : Hp) {r : Int × Hp} (H : JX4_grant_53 n bk x0 x3 x4 z0 h = some r) (hG : gWV v h' r) : PAt l false (mi 58).1 h0 v h' 53 [(0, 8, x0), (3, 0, x3), (4, 0, x4)] [(0, z0)] h :=
  pat_w ok_sdX4_grant rkX4_grant h8 (foX4_grant n) (fun v1 h1 q => by
    cases q
    exact ⟨hG.1, fun _ => hG.2⟩) (List.forall_mem_cons.mpr ⟨(fun a c h H => by
      dsimp only at H
      split at H
      · exact hbk _ _ _ _ _ H hG
      · cases H), (fun q9 h9 => by cases h9)⟩) ((eJX4_grant_53 n bk x0 x3 x4 z0 h).symm.trans H)
theorem sJX4_grant_48 {l : Launch} {h0 h' : Hp} {v : Int} (h8 : nOf h0 = 148) (n : Nat) (bk : Int → Int → Int → Hp → Option (Int × Hp)) (hbk : ∀ (x0 : Int) (x2 : Int) (x3 : Int) (h : Hp) (r : Int × Hp), bk x0 x2 x3 h = some r → gWV v h' r → PAt l false (mi 58).1 h0 v h' 9 [(0, 8, x0), (2, 0, x2), (3, 0, x3)] [] h) (x0 : Int) (x3 : Int) (x4 : Int) (h : Hp) {r : Int × Hp} (H : JX4_grant_48 n bk x0 x3 x4 h = some r) (hG : gWV v h' r) : PAt l false (mi 58).1 h0 v h' 48 [(0, 8, x0), (3, 0, x3), (4, 0, x4)] [] h :=
  pat_w ok_sdX4_grant rkX4_grant h8 (foX4_grant n) (fun v1 h1 q => by
    cases q
    exact ⟨hG.1, fun _ => hG.2⟩) (List.forall_mem_cons.mpr ⟨(fun a c h H => by
      dsimp only at H
      split at H
      · exact hbk _ _ _ _ _ H hG
      · cases H), (List.forall_mem_cons.mpr ⟨(fun a c h H => by
      dsimp only at H
      split at H
      · exact sJX4_grant_53 h8 n bk hbk _ _ _ _ _ H hG
      · cases H), (fun q9 h9 => by cases h9)⟩)⟩) ((eJX4_grant_48 n bk x0 x3 x4 h).symm.trans H)
theorem sBX4_grant_9 {l : Launch} {h0 h' : Hp} {v : Int} (h8 : nOf h0 = 148) (n : Nat) : ∀ (f : Nat) (x0 : Int) (x2 : Int) (x3 : Int) (h : Hp) {r : Int × Hp}, BX4_grant_9 n f x0 x2 x3 h = some r → gWV v h' r → PAt l false (mi 58).1 h0 v h' 9 [(0, 8, x0), (2, 0, x2), (3, 0, x3)] [] h := by
  intro f
  induction f with
  | zero =>
    intro x0 x2 x3 h r H _
    have H2 : (none : Option (Int × Hp)) = some r := H
    cases H2
  | succ f ih =>
    intro x0 x2 x3 h r H hG
    have ihk : ∀ (x0 : Int) (x2 : Int) (x3 : Int) (h : Hp) (r : Int × Hp), BX4_grant_9 n f x0 x2 x3 h = some r → gWV v h' r → PAt l false (mi 58).1 h0 v h' 9 [(0, 8, x0), (2, 0, x2), (3, 0, x3)] [] h := fun x0 x2 x3 h r9 a9 b9 => ih x0 x2 x3 h a9 b9
    exact pat_w ok_sdX4_grant rkX4_grant h8 (foX4_grant n) (fun v1 h1 q => by
    cases q
    exact ⟨hG.1, fun _ => hG.2⟩) (List.forall_mem_cons.mpr ⟨(fun a c h H => by
      dsimp only at H
      split at H
      · exact ih _ _ _ _ H hG
      · cases H), (List.forall_mem_cons.mpr ⟨(fun a c h H => by
      dsimp only at H
      split at H
      · exact sJX4_grant_53 h8 n (BX4_grant_9 n f) ihk _ _ _ _ _ H hG
      · cases H), (List.forall_mem_cons.mpr ⟨(fun a c h H => by
      dsimp only at H
      split at H
      · exact sJX4_grant_48 h8 n (BX4_grant_9 n f) ihk _ _ _ _ H hG
      · cases H), (fun q9 h9 => by cases h9)⟩)⟩)⟩) ((eBX4_grant_9 n f x0 x2 x3 h).symm.trans H)
theorem sLX4_grant_9 {l : Launch} {h0 h' : Hp} {v : Int} (h8 : nOf h0 = 148) (n : Nat) (x0 : Int) (x2 : Int) (x3 : Int) (h : Hp) {r : Int × Hp} (H : LX4_grant_9 n x0 x2 x3 h = some r) (hG : gWV v h' r) : PAt l false (mi 58).1 h0 v h' 9 [(0, 8, x0), (2, 0, x2), (3, 0, x3)] [] h :=
  sBX4_grant_9 h8 n n x0 x2 x3 h H hG
theorem sMX4_grant {l : Launch} {h0 h' : Hp} {v : Int} (h8 : nOf h0 = 148) (n : Nat) (x0 : Int) (x1 : Int) (h : Hp) {r : Int × Hp} (H : MX4_grant n x0 x1 h = some r) (hG : gWV v h' r) : PAt l false (mi 58).1 h0 v h' 0 [(0, 8, x0), (1, 0, x1)] [] h :=
  pat_w ok_sdX4_grant rkX4_grant h8 (foX4_grant n) (fun v1 h1 q => by
    cases q
    exact ⟨hG.1, fun _ => hG.2⟩) (List.forall_mem_cons.mpr ⟨(fun a c h H => by
      dsimp only at H
      split at H
      · exact sLX4_grant_9 h8 n _ _ _ _ H hG
      · cases H), (fun q9 h9 => by cases h9)⟩) ((eMX4_grant n x0 x1 h).symm.trans H)
theorem sndX4_grant {ρ : Type} {l : Launch} (n : Nat) : SndF (ρ := ρ) l false (mi 58).1 (wX4_grant n) := by
    intro a h k r H ha ho hn hf
    have h8 := hf rfl
    obtain ⟨x0, x1, rfl⟩ := len2 (show a.length = 2 from ha)
    replace H : bnd (MX4_grant n x0 x1 h) (fun r h2 => k r h2) = some r := H
    obtain ⟨v2, h2, H1, H2⟩ := bnd_some H
    exact ⟨v2, h2, H2, met_mk (mok_base okX4_grant).1 (by decide +kernel) (Nat.le_of_ble_eq_true rfl) ho (sMX4_grant h8 n x0 x1 h H1 ⟨rfl, rfl⟩), fun q => by cases q⟩
/-! X1_grant -/
def sdX1_grant : SD := [(0, [(0, .aload_n 0, 1, [], 0), (1, .getfield 24, 3, [1, 0, 8, 1, 464, 0], 2), (4, .iload_n 1, 1, [], 0), (5, .invokevirtual 35, 3, [1, 0, 1, 58, 605, 0, 8], 0), (8, .ireturn, 1, [1], 0)])]
def MX1_grant (n : Nat) (x0 x1 : Int) (h : Hp) : Option (Int × Hp) :=
(bnd (MX4_grant n (x0 + 2) x1 h) fun r1 h1 =>
(grd (r1 = 0 ∨ r1 = 1)
(some (r1, h1))))
def wX1_grant {ρ : Type} (n : Nat) : FN ρ := fun a h k => match a with
  | [x0, x1] => bnd (MX1_grant n x0 x1 h) (fun r h2 => k r h2)
  | _ => none
def fsX1_grant (n : Nat) (ρ : Type) : List (FN ρ) := [wX4_grant n]
def KMX1_grant (_ : Nat) : CT (Int × Hp) := []
set_option maxRecDepth 100000 in
theorem eMX1_grant (n : Nat) (x0 : Int) (x1 : Int) (h : Hp) : MX1_grant n x0 x1 h =
  goAt false (kct (KMX1_grant n)) (fun v h => some ((v, h))) (fsX1_grant n _) sdX1_grant 1000 0 [(0, 5, x0), (1, 0, x1)] [] h := rfl
theorem okX1_grant : mokb (mi 59) = true := by decide +kernel
theorem rkX1_grant : rkOK 4 (mi 59).1.2.2.2.2.2.2.1 (mi 59).1.2.2.2.1 := Or.inr (Or.inr (Or.inl ⟨rfl, rfl, rfl⟩))
def calX1_grant : List Nat := [58]
theorem foX1_grant {l : Launch} {ρ : Type} (n : Nat) : fsOK l false mi calX1_grant (fsX1_grant n ρ) := ⟨(sndX4_grant n), trivial⟩
theorem ok_sdX1_grant : sdb (mi 59).1.2.1 (insOK mi (mi 59).1.1.cls (mi 59).1.2.2.1 (mi 59).1.2.2.2.2.1 (mi 59).1.2.2.2.2.2.1 calX1_grant false 4) sdX1_grant = true := by decide +kernel
theorem sMX1_grant {l : Launch} {h0 h' : Hp} {v : Int} (h8 : nOf h0 = 148) (n : Nat) (x0 : Int) (x1 : Int) (h : Hp) {r : Int × Hp} (H : MX1_grant n x0 x1 h = some r) (hG : gWV v h' r) : PAt l false (mi 59).1 h0 v h' 0 [(0, 5, x0), (1, 0, x1)] [] h :=
  pat_w ok_sdX1_grant rkX1_grant h8 (foX1_grant n) (fun v1 h1 q => by
    cases q
    exact ⟨hG.1, fun _ => hG.2⟩) (fun q9 h9 => by cases h9) ((eMX1_grant n x0 x1 h).symm.trans H)
theorem sndX1_grant {ρ : Type} {l : Launch} (n : Nat) : SndF (ρ := ρ) l false (mi 59).1 (wX1_grant n) := by
    intro a h k r H ha ho hn hf
    have h8 := hf rfl
    obtain ⟨x0, x1, rfl⟩ := len2 (show a.length = 2 from ha)
    replace H : bnd (MX1_grant n x0 x1 h) (fun r h2 => k r h2) = some r := H
    obtain ⟨v2, h2, H1, H2⟩ := bnd_some H
    exact ⟨v2, h2, H2, met_mk (mok_base okX1_grant).1 (by decide +kernel) (Nat.le_of_ble_eq_true rfl) ho (sMX1_grant h8 n x0 x1 h H1 ⟨rfl, rfl⟩), fun q => by cases q⟩
/-! X7_find -/
def sdX7_find : SD := [(0, [(0, .iconst 0, 1, [], 0), (1, .istore 4, 2, [], 0)]),
  (3, [(3, .iload 4, 2, [], 0), (5, .aload_n 0, 1, [], 0), (6, .getfield 51, 3, [7, 4, 0, 0, 368, 0], 0), (9, .if_icmp .ge 51, 3, [], 0)]),
  (12, [(12, .aload_n 0, 1, [], 0), (13, .getfield 11, 3, [7, 1, 50, 1, 363, 0], 1), (16, .iconst 0, 1, [], 0), (17, .aaload, 1, [], 0), (18, .iload 4, 2, [], 0), (20, .iaload, 1, [], 0), (21, .iload_n 1, 1, [], 0), (22, .if_icmp .ne 32, 3, [], 0)]),
  (25, [(25, .aload_n 0, 1, [], 0), (26, .getfield 11, 3, [7, 1, 50, 1, 363, 0], 1), (29, .iconst 1, 1, [], 0), (30, .aaload, 1, [], 0), (31, .iload 4, 2, [], 0), (33, .iaload, 1, [], 0), (34, .iload_n 2, 1, [], 0), (35, .if_icmp .ne 19, 3, [], 0)]),
  (38, [(38, .aload_n 0, 1, [], 0), (39, .getfield 11, 3, [7, 1, 50, 1, 363, 0], 1), (42, .iconst 2, 1, [], 0), (43, .aaload, 1, [], 0), (44, .iload 4, 2, [], 0), (46, .iaload, 1, [], 0), (47, .iload_n 3, 1, [], 0), (48, .if_icmp .ne 6, 3, [], 0)]),
  (51, [(51, .iload 4, 2, [], 0), (53, .ireturn, 1, [], 0)]),
  (54, [(54, .iinc 4 1, 3, [], 0), (57, .goto (-54), 3, [], 0)]),
  (60, [(60, .iconst (-1), 1, [], 0), (61, .ireturn, 1, [], 0)])]
def BX7_find_3 (n : Nat) : Nat → Int → Int → Int → Int → Hp → Option (Int)
  | 0, _, _, _, _, _ => none
  | f + 1, x1, x2, x3, x4, h =>
    (if (h 39 4) ≤ x4 then
    (some (-1))
    else
    (grd (0 ≤ 0 ∧ 0 < alen 50)
    (grd (0 ≤ x4 ∧ x4 < alen 540)
    (if (h (41 + 0) x4) ≠ x1 then
    (ltt (w32 (x4 + 1)) fun y1 =>
    (BX7_find_3 n f x1 x2 x3 y1 h))
    else
    (grd (0 ≤ 1 ∧ 1 < alen 50)
    (grd (0 ≤ x4 ∧ x4 < alen 540)
    (if (h (41 + 1) x4) ≠ x2 then
    (ltt (w32 (x4 + 1)) fun y2 =>
    (BX7_find_3 n f x1 x2 x3 y2 h))
    else
    (grd (0 ≤ 2 ∧ 2 < alen 50)
    (grd (0 ≤ x4 ∧ x4 < alen 540)
    (if (h (41 + 2) x4) ≠ x3 then
    (ltt (w32 (x4 + 1)) fun y3 =>
    (BX7_find_3 n f x1 x2 x3 y3 h))
    else
    (some x4)))))))))))
def LX7_find_3 (n : Nat) (x1 x2 x3 x4 : Int) (h : Hp) : Option (Int) :=
(BX7_find_3 n n x1 x2 x3 x4 h)
def MX7_find (n : Nat) (x1 x2 x3 : Int) (h : Hp) : Option (Int) :=
(ltt 0 fun y1 =>
(LX7_find_3 n x1 x2 x3 y1 h))
def wX7_find {ρ : Type} (n : Nat) : FN ρ := fun a h k => match a with
  | [_, x1, x2, x3] => bndp (MX7_find n x1 x2 x3 h) (fun r => k r h)
  | _ => none
def fsX7_find (n : Nat) (ρ : Type) : List (FN ρ) := []
def KBX7_find_3 (_ : Nat) (bk : Int → Int → Int → Int → Hp → Option (Int)) : CT (Int) := [(3, [(0, 11, (some 39)), (1, 0, none), (2, 0, none), (3, 0, none), (4, 0, none)], [], fun a c h => match a, c with
    | [x1, x2, x3, x4], [] => bk x1 x2 x3 x4 h
    | _, _ => none)]
set_option maxRecDepth 100000 in
theorem eBX7_find_3 (n f : Nat) (x1 : Int) (x2 : Int) (x3 : Int) (x4 : Int) (h : Hp) : BX7_find_3 n (f + 1) x1 x2 x3 x4 h =
  goAt false (kct (KBX7_find_3 n (BX7_find_3 n f))) (fun v _ => some (v)) (fsX7_find n _) sdX7_find 1000 3 [(0, 11, 39), (1, 0, x1), (2, 0, x2), (3, 0, x3), (4, 0, x4)] [] h := rfl
def KMX7_find (n : Nat) : CT (Int) := [(3, [(0, 11, (some 39)), (1, 0, none), (2, 0, none), (3, 0, none), (4, 0, none)], [], fun a c h => match a, c with
    | [x1, x2, x3, x4], [] => LX7_find_3 n x1 x2 x3 x4 h
    | _, _ => none)]
set_option maxRecDepth 100000 in
theorem eMX7_find (n : Nat) (x1 : Int) (x2 : Int) (x3 : Int) (h : Hp) : MX7_find n x1 x2 x3 h =
  goAt false (kct (KMX7_find n)) (fun v _ => some (v)) (fsX7_find n _) sdX7_find 1000 0 [(0, 11, 39), (1, 0, x1), (2, 0, x2), (3, 0, x3)] [] h := rfl
theorem okX7_find : mokb (mi 60) = true := by decide +kernel
theorem rkX7_find : rkOK 1 (mi 60).1.2.2.2.2.2.2.1 (mi 60).1.2.2.2.1 := Or.inr (Or.inl ⟨rfl, rfl, rfl⟩)
def calX7_find : List Nat := []
theorem foX7_find {l : Launch} {ρ : Type} (n : Nat) : fsOK l false mi calX7_find (fsX7_find n ρ) := trivial
theorem frX7_find {ρ : Type} (n : Nat) : ∀ fn ∈ fsX7_find n ρ, RoF fn := (fun q9 h9 => by cases h9)
theorem ok_sdX7_find : sdb (mi 60).1.2.1 (insOK mi (mi 60).1.1.cls (mi 60).1.2.2.1 (mi 60).1.2.2.2.2.1 (mi 60).1.2.2.2.2.2.1 calX7_find false 1) sdX7_find = true := by decide +kernel
theorem sBX7_find_3 {l : Launch} {h0 : Hp} {v : Int} (h8 : nOf h0 = 148) (n : Nat) (h : Hp) : ∀ (f : Nat) (x1 : Int) (x2 : Int) (x3 : Int) (x4 : Int) {r : Int}, BX7_find_3 n f x1 x2 x3 x4 h = some r → gV v r → PAt l false (mi 60).1 h0 v h 3 [(0, 11, 39), (1, 0, x1), (2, 0, x2), (3, 0, x3), (4, 0, x4)] [] h := by
  intro f
  induction f with
  | zero =>
    intro x1 x2 x3 x4 r H _
    have H2 : (none : Option (Int)) = some r := H
    cases H2
  | succ f ih =>
    intro x1 x2 x3 x4 r H hG
    exact pat_ro ok_sdX7_find rfl rkX7_find h8 (foX7_find n) (frX7_find n) (fun v1 q => by
    cases q
    exact ⟨rfl, fun _ => hG⟩) (List.forall_mem_cons.mpr ⟨(fun a c H => by
      dsimp only at H
      split at H
      · exact ih _ _ _ _ H hG
      · cases H), (fun q9 h9 => by cases h9)⟩) ((eBX7_find_3 n f x1 x2 x3 x4 h).symm.trans H)
theorem sLX7_find_3 {l : Launch} {h0 : Hp} {v : Int} (h8 : nOf h0 = 148) (n : Nat) (x1 : Int) (x2 : Int) (x3 : Int) (x4 : Int) (h : Hp) {r : Int} (H : LX7_find_3 n x1 x2 x3 x4 h = some r) (hG : gV v r) : PAt l false (mi 60).1 h0 v h 3 [(0, 11, 39), (1, 0, x1), (2, 0, x2), (3, 0, x3), (4, 0, x4)] [] h :=
  sBX7_find_3 h8 n h n x1 x2 x3 x4 H hG
theorem sMX7_find {l : Launch} {h0 : Hp} {v : Int} (h8 : nOf h0 = 148) (n : Nat) (x1 : Int) (x2 : Int) (x3 : Int) (h : Hp) {r : Int} (H : MX7_find n x1 x2 x3 h = some r) (hG : gV v r) : PAt l false (mi 60).1 h0 v h 0 [(0, 11, 39), (1, 0, x1), (2, 0, x2), (3, 0, x3)] [] h :=
  pat_ro ok_sdX7_find rfl rkX7_find h8 (foX7_find n) (frX7_find n) (fun v1 q => by
    cases q
    exact ⟨rfl, fun _ => hG⟩) (List.forall_mem_cons.mpr ⟨(fun a c H => by
      dsimp only at H
      split at H
      · exact sLX7_find_3 h8 n _ _ _ _ _ H hG
      · cases H), (fun q9 h9 => by cases h9)⟩) ((eMX7_find n x1 x2 x3 h).symm.trans H)
theorem sndX7_find {ρ : Type} {l : Launch} (n : Nat) : SndF (ρ := ρ) l false (mi 60).1 (wX7_find n) := by
    intro a h k r H ha ho hn hf
    have h8 := hf rfl
    obtain ⟨x0, x1, x2, x3, rfl⟩ := len4 (show a.length = 4 from ha)
    have u0 := uq11 hn (ho (11, x0) (List.mem_cons_self))
    subst u0
    replace H : bndp (MX7_find n x1 x2 x3 h) (fun r => k r h) = some r := H
    obtain ⟨v2, H1, H2⟩ := bndp_some H
    exact ⟨v2, h, H2, met_mk (mok_base okX7_find).1 (by decide +kernel) (Nat.le_of_ble_eq_true rfl) ho (sMX7_find h8 n x1 x2 x3 h H1 rfl), fun q => by cases q⟩
theorem roX7_find {ρ : Type} (n : Nat) : RoF (wX7_find n : FN ρ) := fun a h k k2 hk => by
  unfold wX7_find
  split
  · exact bndp_ro hk
  · rfl
/-! X7_findSpots -/
def sdX7_findSpots : SD := [(0, [(0, .aload_n 0, 1, [], 0), (1, .iconst 0, 1, [], 0), (2, .putfield 51, 3, [7, 4, 0, 0, 0, 368], 0), (5, .aload_n 0, 1, [], 0), (6, .getfield 35, 3, [7, 0, 14, 0, 361, 0], 0), (9, .getfield 55, 3, [10, 11, 0, 0, 203, 0], 0), (12, .ifCond .ne 4, 3, [], 0)]),
  (15, [(15, .return_, 1, [], 0)]),
  (16, [(16, .iconst 0, 1, [], 0), (17, .istore_n 1, 1, [], 0)]),
  (18, [(18, .iload_n 1, 1, [], 0), (19, .aload_n 0, 1, [], 0), (20, .getfield 35, 3, [7, 0, 14, 0, 361, 0], 0), (23, .getfield 55, 3, [10, 11, 0, 0, 203, 0], 0), (26, .if_icmp .gt 136, 3, [], 0)]),
  (29, [(29, .aload_n 0, 1, [], 0), (30, .getfield 35, 3, [7, 0, 14, 0, 361, 0], 0), (33, .getfield 60, 3, [10, 1, 50, 1, 169, 0], 2), (36, .iconst 0, 1, [], 0), (37, .aaload, 1, [], 0), (38, .iload_n 1, 1, [], 0), (39, .iaload, 1, [], 0), (40, .istore_n 2, 1, [], 0), (41, .aload_n 0, 1, [], 0), (42, .getfield 35, 3, [7, 0, 14, 0, 361, 0], 0), (45, .getfield 60, 3, [10, 1, 50, 1, 169, 0], 2), (48, .iconst 1, 1, [], 0), (49, .aaload, 1, [], 0), (50, .iload_n 1, 1, [], 0), (51, .iaload, 1, [], 0), (52, .istore_n 3, 1, [], 0), (53, .aload_n 0, 1, [], 0), (54, .getfield 35, 3, [7, 0, 14, 0, 361, 0], 0), (57, .getfield 60, 3, [10, 1, 50, 1, 169, 0], 2), (60, .iconst 2, 1, [], 0), (61, .aaload, 1, [], 0), (62, .iload_n 1, 1, [], 0), (63, .iaload, 1, [], 0), (64, .istore 4, 2, [], 0), (66, .aload_n 0, 1, [], 0), (67, .iload_n 2, 1, [], 0), (68, .iload_n 3, 1, [], 0), (69, .iload 4, 2, [], 0), (71, .invokevirtual 63, 3, [1, 0, 1, 60, 625, 0, 0, 0, 11], 0), (74, .istore 5, 2, [], 0), (76, .iload 5, 2, [], 0), (78, .iconst (-1), 1, [], 0), (79, .if_icmp .ne 58, 3, [], 0)]),
  (82, [(82, .aload_n 0, 1, [], 0), (83, .getfield 51, 3, [7, 4, 0, 0, 368, 0], 0), (86, .istore 5, 2, [], 0), (88, .aload_n 0, 1, [], 0), (89, .getfield 11, 3, [7, 1, 50, 1, 363, 0], 1), (92, .iconst 0, 1, [], 0), (93, .aaload, 1, [], 0), (94, .iload 5, 2, [], 0), (96, .iload_n 2, 1, [], 0), (97, .iastore, 1, [], 0), (98, .aload_n 0, 1, [], 0), (99, .getfield 11, 3, [7, 1, 50, 1, 363, 0], 1), (102, .iconst 1, 1, [], 0), (103, .aaload, 1, [], 0), (104, .iload 5, 2, [], 0), (106, .iload_n 3, 1, [], 0), (107, .iastore, 1, [], 0), (108, .aload_n 0, 1, [], 0), (109, .getfield 11, 3, [7, 1, 50, 1, 363, 0], 1), (112, .iconst 2, 1, [], 0), (113, .aaload, 1, [], 0), (114, .iload 5, 2, [], 0), (116, .iload 4, 2, [], 0), (118, .iastore, 1, [], 0), (119, .aload_n 0, 1, [], 0), (120, .getfield 16, 3, [7, 2, 540, 1, 365, 0], 5), (123, .iload 5, 2, [], 0), (125, .iconst 0, 1, [], 0), (126, .iastore, 1, [], 0), (127, .aload_n 0, 1, [], 0), (128, .dup, 1, [], 0), (129, .getfield 51, 3, [7, 4, 0, 0, 368, 0], 0), (132, .iconst 1, 1, [], 0), (133, .iadd, 1, [], 0), (134, .putfield 51, 3, [7, 4, 0, 0, 0, 368], 0)]),
  (137, [(137, .aload_n 0, 1, [], 0), (138, .getfield 16, 3, [7, 2, 540, 1, 365, 0], 5), (141, .iload 5, 2, [], 0), (143, .dup2, 1, [], 0), (144, .iaload, 1, [], 0), (145, .iconst 1, 1, [], 0), (146, .iadd, 1, [], 0), (147, .iastore, 1, [], 0), (148, .aload_n 0, 1, [], 0), (149, .getfield 20, 3, [7, 3, 540, 1, 367, 0], 6), (152, .iload_n 1, 1, [], 0), (153, .iload 5, 2, [], 0), (155, .iastore, 1, [], 0), (156, .iinc 1 1, 3, [], 0), (159, .goto (-141), 3, [], 0)]),
  (162, [(162, .return_, 1, [], 0)])]
def JX7_findSpots_137 (n : Nat) (bk : Int → Hp → Option (Hp)) (x1 x5 : Int) (h : Hp) : Option (Hp) :=
(grd (0 ≤ x5 ∧ x5 < alen 540)
(grd (0 ≤ x5 ∧ x5 < alen 540)
(ltt (up h 44 x5 (w32 ((h 44 x5) + 1))) fun h1 =>
(grd (0 ≤ x1 ∧ x1 < alen 540)
(ltt (up h1 45 x1 x5) fun h2 =>
(ltt (w32 (x1 + 1)) fun y1 =>
(bk y1 h2)))))))
def BX7_findSpots_18 (n : Nat) : Nat → Int → Hp → Option (Hp)
  | 0, _, _ => none
  | f + 1, x1, h =>
    (if (h (h 39 0) 11) < x1 then
    (some h)
    else
    (grd (0 ≤ 0 ∧ 0 < alen 50)
    (grd (0 ≤ x1 ∧ x1 < alen 540)
    (ltt (h (((h 39 0) + 2) + 1 + 0) x1) fun y1 =>
    (grd (0 ≤ 1 ∧ 1 < alen 50)
    (grd (0 ≤ x1 ∧ x1 < alen 540)
    (ltt (h (((h 39 0) + 2) + 1 + 1) x1) fun y2 =>
    (grd (0 ≤ 2 ∧ 2 < alen 50)
    (grd (0 ≤ x1 ∧ x1 < alen 540)
    (ltt (h (((h 39 0) + 2) + 1 + 2) x1) fun y3 =>
    (bndp (MX7_find n y1 y2 y3 h) fun r1 =>
    (ltt r1 fun y4 =>
    (if y4 ≠ (-1) then
    (JX7_findSpots_137 n (BX7_findSpots_18 n f) x1 y4 h)
    else
    (ltt (h 39 4) fun y5 =>
    (grd (0 ≤ 0 ∧ 0 < alen 50)
    (grd (0 ≤ y5 ∧ y5 < alen 540)
    (ltt (up h (41 + 0) y5 y1) fun h1 =>
    (grd (0 ≤ 1 ∧ 1 < alen 50)
    (grd (0 ≤ y5 ∧ y5 < alen 540)
    (ltt (up h1 (41 + 1) y5 y2) fun h2 =>
    (grd (0 ≤ 2 ∧ 2 < alen 50)
    (grd (0 ≤ y5 ∧ y5 < alen 540)
    (ltt (up h2 (41 + 2) y5 y3) fun h3 =>
    (grd (0 ≤ y5 ∧ y5 < alen 540)
    (ltt (up h3 44 y5 0) fun h4 =>
    (ltt (up h4 39 4 (w32 ((h4 39 4) + 1))) fun h5 =>
    (JX7_findSpots_137 n (BX7_findSpots_18 n f) x1 y5 h5)))))))))))))))))))))))))))
def LX7_findSpots_18 (n : Nat) (x1 : Int) (h : Hp) : Option (Hp) :=
(BX7_findSpots_18 n n x1 h)
def MX7_findSpots (n : Nat) (h : Hp) : Option (Hp) :=
(ltt (up h 39 4 0) fun h1 =>
(if (h1 (h1 39 0) 11) ≠ 0 then
(ltt 0 fun y1 =>
(LX7_findSpots_18 n y1 h1))
else
(some h1)))
def wX7_findSpots {ρ : Type} (n : Nat) : FN ρ := fun a h k => match a with
  | [_] => bndh (MX7_findSpots n h) (fun h2 => k 0 h2)
  | _ => none
def fsX7_findSpots (n : Nat) (ρ : Type) : List (FN ρ) := [wX7_find n]
def KJX7_findSpots_137 (_ : Nat) (bk : Int → Hp → Option (Hp)) : CT (Hp) := [(18, [(0, 11, (some 39)), (1, 0, none)], [], fun a c h => match a, c with
    | [x1], [] => bk x1 h
    | _, _ => none)]
set_option maxRecDepth 100000 in
theorem eJX7_findSpots_137 (n : Nat) (bk : Int → Hp → Option (Hp)) (x1 : Int) (x5 : Int) (h : Hp) : JX7_findSpots_137 n bk x1 x5 h =
  goAt false (kct (KJX7_findSpots_137 n bk)) (fun _ h => some (h)) (fsX7_findSpots n _) sdX7_findSpots 1000 137 [(0, 11, 39), (1, 0, x1), (5, 0, x5)] [] h := rfl
def KBX7_findSpots_18 (n : Nat) (bk : Int → Hp → Option (Hp)) : CT (Hp) := [(18, [(0, 11, (some 39)), (1, 0, none)], [], fun a c h => match a, c with
    | [x1], [] => bk x1 h
    | _, _ => none),
  (137, [(0, 11, (some 39)), (1, 0, none), (5, 0, none)], [], fun a c h => match a, c with
    | [x1, x5], [] => JX7_findSpots_137 n bk x1 x5 h
    | _, _ => none)]
set_option maxRecDepth 100000 in
theorem eBX7_findSpots_18 (n f : Nat) (x1 : Int) (h : Hp) : BX7_findSpots_18 n (f + 1) x1 h =
  goAt false (kct (KBX7_findSpots_18 n (BX7_findSpots_18 n f))) (fun _ h => some (h)) (fsX7_findSpots n _) sdX7_findSpots 1000 18 [(0, 11, 39), (1, 0, x1)] [] h := rfl
def KMX7_findSpots (n : Nat) : CT (Hp) := [(18, [(0, 11, (some 39)), (1, 0, none)], [], fun a c h => match a, c with
    | [x1], [] => LX7_findSpots_18 n x1 h
    | _, _ => none)]
set_option maxRecDepth 100000 in
theorem eMX7_findSpots (n : Nat) (h : Hp) : MX7_findSpots n h =
  goAt false (kct (KMX7_findSpots n)) (fun _ h => some (h)) (fsX7_findSpots n _) sdX7_findSpots 1000 0 [(0, 11, 39)] [] h := rfl
theorem okX7_findSpots : mokb (mi 61) = true := by decide +kernel
theorem rkX7_findSpots : rkOK 0 (mi 61).1.2.2.2.2.2.2.1 (mi 61).1.2.2.2.1 := Or.inl ⟨rfl, rfl, rfl⟩
def calX7_findSpots : List Nat := [60]
theorem foX7_findSpots {l : Launch} {ρ : Type} (n : Nat) : fsOK l false mi calX7_findSpots (fsX7_findSpots n ρ) := ⟨(sndX7_find n), trivial⟩
theorem ok_sdX7_findSpots : sdb (mi 61).1.2.1 (insOK mi (mi 61).1.1.cls (mi 61).1.2.2.1 (mi 61).1.2.2.2.2.1 (mi 61).1.2.2.2.2.2.1 calX7_findSpots false 0) sdX7_findSpots = true := by decide +kernel
theorem sJX7_findSpots_137 {l : Launch} {h0 h' : Hp} {v : Int} (h8 : nOf h0 = 148) (n : Nat) (bk : Int → Hp → Option (Hp)) (hbk : ∀ (x1 : Int) (h : Hp) (r : Hp), bk x1 h = some r → gW h' r → PAt l false (mi 61).1 h0 v h' 18 [(0, 11, 39), (1, 0, x1)] [] h) (x1 : Int) (x5 : Int) (h : Hp) {r : Hp} (H : JX7_findSpots_137 n bk x1 x5 h = some r) (hG : gW h' r) : PAt l false (mi 61).1 h0 v h' 137 [(0, 11, 39), (1, 0, x1), (5, 0, x5)] [] h :=
  pat_w ok_sdX7_findSpots rkX7_findSpots h8 (foX7_findSpots n) (fun v1 h1 q => by
    cases q
    exact ⟨hG, fun q9 => absurd rfl q9⟩) (List.forall_mem_cons.mpr ⟨(fun a c h H => by
      dsimp only at H
      split at H
      · exact hbk _ _ _ H hG
      · cases H), (fun q9 h9 => by cases h9)⟩) ((eJX7_findSpots_137 n bk x1 x5 h).symm.trans H)
theorem sBX7_findSpots_18 {l : Launch} {h0 h' : Hp} {v : Int} (h8 : nOf h0 = 148) (n : Nat) : ∀ (f : Nat) (x1 : Int) (h : Hp) {r : Hp}, BX7_findSpots_18 n f x1 h = some r → gW h' r → PAt l false (mi 61).1 h0 v h' 18 [(0, 11, 39), (1, 0, x1)] [] h := by
  intro f
  induction f with
  | zero =>
    intro x1 h r H _
    have H2 : (none : Option (Hp)) = some r := H
    cases H2
  | succ f ih =>
    intro x1 h r H hG
    have ihk : ∀ (x1 : Int) (h : Hp) (r : Hp), BX7_findSpots_18 n f x1 h = some r → gW h' r → PAt l false (mi 61).1 h0 v h' 18 [(0, 11, 39), (1, 0, x1)] [] h := fun x1 h r9 a9 b9 => ih x1 h a9 b9
    exact pat_w ok_sdX7_findSpots rkX7_findSpots h8 (foX7_findSpots n) (fun v1 h1 q => by
    cases q
    exact ⟨hG, fun q9 => absurd rfl q9⟩) (List.forall_mem_cons.mpr ⟨(fun a c h H => by
      dsimp only at H
      split at H
      · exact ih _ _ H hG
      · cases H), (List.forall_mem_cons.mpr ⟨(fun a c h H => by
      dsimp only at H
      split at H
      · exact sJX7_findSpots_137 h8 n (BX7_findSpots_18 n f) ihk _ _ _ H hG
      · cases H), (fun q9 h9 => by cases h9)⟩)⟩) ((eBX7_findSpots_18 n f x1 h).symm.trans H)
theorem sLX7_findSpots_18 {l : Launch} {h0 h' : Hp} {v : Int} (h8 : nOf h0 = 148) (n : Nat) (x1 : Int) (h : Hp) {r : Hp} (H : LX7_findSpots_18 n x1 h = some r) (hG : gW h' r) : PAt l false (mi 61).1 h0 v h' 18 [(0, 11, 39), (1, 0, x1)] [] h :=
  sBX7_findSpots_18 h8 n n x1 h H hG
theorem sMX7_findSpots {l : Launch} {h0 h' : Hp} {v : Int} (h8 : nOf h0 = 148) (n : Nat)  (h : Hp) {r : Hp} (H : MX7_findSpots n h = some r) (hG : gW h' r) : PAt l false (mi 61).1 h0 v h' 0 [(0, 11, 39)] [] h :=
  pat_w ok_sdX7_findSpots rkX7_findSpots h8 (foX7_findSpots n) (fun v1 h1 q => by
    cases q
    exact ⟨hG, fun q9 => absurd rfl q9⟩) (List.forall_mem_cons.mpr ⟨(fun a c h H => by
      dsimp only at H
      split at H
      · exact sLX7_findSpots_18 h8 n _ _ H hG
      · cases H), (fun q9 h9 => by cases h9)⟩) ((eMX7_findSpots n h).symm.trans H)
theorem sndX7_findSpots {ρ : Type} {l : Launch} (n : Nat) : SndF (ρ := ρ) l false (mi 61).1 (wX7_findSpots n) := by
    intro a h k r H ha ho hn hf
    have h8 := hf rfl
    obtain ⟨x0, rfl⟩ := len1 (show a.length = 1 from ha)
    have u0 := uq11 hn (ho (11, x0) (List.mem_cons_self))
    subst u0
    replace H : bndh (MX7_findSpots n h) (fun h2 => k 0 h2) = some r := H
    obtain ⟨h2, H1, H2⟩ := bndh_some H
    exact ⟨0, h2, H2, met_mk (mok_base okX7_findSpots).1 (by decide +kernel) (Nat.le_of_ble_eq_true rfl) ho (sMX7_findSpots h8 n  h H1 rfl), fun q => by cases q⟩
/-! X7_isSameLeg -/
def sdX7_isSameLeg : SD := [(0, [(0, .aload_n 0, 1, [], 0), (1, .getfield 20, 3, [7, 3, 540, 1, 367, 0], 6), (4, .iload_n 1, 1, [], 0), (5, .iaload, 1, [], 0), (6, .aload_n 0, 1, [], 0), (7, .getfield 20, 3, [7, 3, 540, 1, 367, 0], 6), (10, .iload_n 2, 1, [], 0), (11, .iaload, 1, [], 0), (12, .if_icmp .ne 22, 3, [], 0)]),
  (15, [(15, .aload_n 0, 1, [], 0), (16, .getfield 20, 3, [7, 3, 540, 1, 367, 0], 6), (19, .iload_n 1, 1, [], 0), (20, .iconst 1, 1, [], 0), (21, .iadd, 1, [], 0), (22, .iaload, 1, [], 0), (23, .aload_n 0, 1, [], 0), (24, .getfield 20, 3, [7, 3, 540, 1, 367, 0], 6), (27, .iload_n 2, 1, [], 0), (28, .iconst 1, 1, [], 0), (29, .iadd, 1, [], 0), (30, .iaload, 1, [], 0), (31, .if_icmp .eq 37, 3, [], 0)]),
  (34, [(34, .aload_n 0, 1, [], 0), (35, .getfield 20, 3, [7, 3, 540, 1, 367, 0], 6), (38, .iload_n 1, 1, [], 0), (39, .iaload, 1, [], 0), (40, .aload_n 0, 1, [], 0), (41, .getfield 20, 3, [7, 3, 540, 1, 367, 0], 6), (44, .iload_n 2, 1, [], 0), (45, .iconst 1, 1, [], 0), (46, .iadd, 1, [], 0), (47, .iaload, 1, [], 0), (48, .if_icmp .ne 24, 3, [], 0)]),
  (51, [(51, .aload_n 0, 1, [], 0), (52, .getfield 20, 3, [7, 3, 540, 1, 367, 0], 6), (55, .iload_n 1, 1, [], 0), (56, .iconst 1, 1, [], 0), (57, .iadd, 1, [], 0), (58, .iaload, 1, [], 0), (59, .aload_n 0, 1, [], 0), (60, .getfield 20, 3, [7, 3, 540, 1, 367, 0], 6), (63, .iload_n 2, 1, [], 0), (64, .iaload, 1, [], 0), (65, .if_icmp .ne 7, 3, [], 0)]),
  (68, [(68, .iconst 1, 1, [], 0), (69, .goto 4, 3, [], 0)]),
  (72, [(72, .iconst 0, 1, [], 0)]),
  (73, [(73, .ireturn, 1, [1], 0)])]
def JX7_isSameLeg_34 (x1 x2 : Int) (h : Hp) : Option (Int) :=
(grd (0 ≤ x1 ∧ x1 < alen 540)
(grd (0 ≤ (w32 (x2 + 1)) ∧ (w32 (x2 + 1)) < alen 540)
(if (h 45 x1) ≠ (h 45 (w32 (x2 + 1))) then
(some 0)
else
(grd (0 ≤ (w32 (x1 + 1)) ∧ (w32 (x1 + 1)) < alen 540)
(grd (0 ≤ x2 ∧ x2 < alen 540)
(if (h 45 (w32 (x1 + 1))) ≠ (h 45 x2) then
(some 0)
else
(some 1)))))))
def MX7_isSameLeg (x1 x2 : Int) (h : Hp) : Option (Int) :=
(grd (0 ≤ x1 ∧ x1 < alen 540)
(grd (0 ≤ x2 ∧ x2 < alen 540)
(if (h 45 x1) ≠ (h 45 x2) then
(JX7_isSameLeg_34 x1 x2 h)
else
(grd (0 ≤ (w32 (x1 + 1)) ∧ (w32 (x1 + 1)) < alen 540)
(grd (0 ≤ (w32 (x2 + 1)) ∧ (w32 (x2 + 1)) < alen 540)
(if (h 45 (w32 (x1 + 1))) = (h 45 (w32 (x2 + 1))) then
(some 1)
else
(JX7_isSameLeg_34 x1 x2 h)))))))
def wX7_isSameLeg {ρ : Type} : FN ρ := fun a h k => match a with
  | [_, x1, x2] => bndp (MX7_isSameLeg x1 x2 h) (fun r => k r h)
  | _ => none
def fsX7_isSameLeg (ρ : Type) : List (FN ρ) := []
def KJX7_isSameLeg_34  : CT (Int) := []
set_option maxRecDepth 100000 in
theorem eJX7_isSameLeg_34 (x1 : Int) (x2 : Int) (h : Hp) : JX7_isSameLeg_34 x1 x2 h =
  goAt false (kct (KJX7_isSameLeg_34)) (fun v _ => some (v)) (fsX7_isSameLeg _) sdX7_isSameLeg 1000 34 [(0, 11, 39), (1, 0, x1), (2, 0, x2)] [] h := rfl
def KMX7_isSameLeg  : CT (Int) := [(34, [(0, 11, (some 39)), (1, 0, none), (2, 0, none)], [], fun a c h => match a, c with
    | [x1, x2], [] => JX7_isSameLeg_34 x1 x2 h
    | _, _ => none)]
set_option maxRecDepth 100000 in
theorem eMX7_isSameLeg (x1 : Int) (x2 : Int) (h : Hp) : MX7_isSameLeg x1 x2 h =
  goAt false (kct (KMX7_isSameLeg)) (fun v _ => some (v)) (fsX7_isSameLeg _) sdX7_isSameLeg 1000 0 [(0, 11, 39), (1, 0, x1), (2, 0, x2)] [] h := rfl
theorem okX7_isSameLeg : mokb (mi 62) = true := by decide +kernel
theorem rkX7_isSameLeg : rkOK 4 (mi 62).1.2.2.2.2.2.2.1 (mi 62).1.2.2.2.1 := Or.inr (Or.inr (Or.inl ⟨rfl, rfl, rfl⟩))
def calX7_isSameLeg : List Nat := []
theorem foX7_isSameLeg {l : Launch} {ρ : Type} : fsOK l false mi calX7_isSameLeg (fsX7_isSameLeg ρ) := trivial
theorem frX7_isSameLeg {ρ : Type} : ∀ fn ∈ fsX7_isSameLeg ρ, RoF fn := (fun q9 h9 => by cases h9)
theorem ok_sdX7_isSameLeg : sdb (mi 62).1.2.1 (insOK mi (mi 62).1.1.cls (mi 62).1.2.2.1 (mi 62).1.2.2.2.2.1 (mi 62).1.2.2.2.2.2.1 calX7_isSameLeg false 4) sdX7_isSameLeg = true := by decide +kernel
theorem sJX7_isSameLeg_34 {l : Launch} {h0 : Hp} {v : Int} (h8 : nOf h0 = 148)  (x1 : Int) (x2 : Int) (h : Hp) {r : Int} (H : JX7_isSameLeg_34 x1 x2 h = some r) (hG : gV v r) : PAt l false (mi 62).1 h0 v h 34 [(0, 11, 39), (1, 0, x1), (2, 0, x2)] [] h :=
  pat_ro ok_sdX7_isSameLeg rfl rkX7_isSameLeg h8 (foX7_isSameLeg) (frX7_isSameLeg) (fun v1 q => by
    cases q
    exact ⟨rfl, fun _ => hG⟩) (fun q9 h9 => by cases h9) ((eJX7_isSameLeg_34 x1 x2 h).symm.trans H)
theorem sMX7_isSameLeg {l : Launch} {h0 : Hp} {v : Int} (h8 : nOf h0 = 148)  (x1 : Int) (x2 : Int) (h : Hp) {r : Int} (H : MX7_isSameLeg x1 x2 h = some r) (hG : gV v r) : PAt l false (mi 62).1 h0 v h 0 [(0, 11, 39), (1, 0, x1), (2, 0, x2)] [] h :=
  pat_ro ok_sdX7_isSameLeg rfl rkX7_isSameLeg h8 (foX7_isSameLeg) (frX7_isSameLeg) (fun v1 q => by
    cases q
    exact ⟨rfl, fun _ => hG⟩) (List.forall_mem_cons.mpr ⟨(fun a c H => by
      dsimp only at H
      split at H
      · exact sJX7_isSameLeg_34 h8 _ _ _ H hG
      · cases H), (fun q9 h9 => by cases h9)⟩) ((eMX7_isSameLeg x1 x2 h).symm.trans H)
theorem sndX7_isSameLeg {ρ : Type} {l : Launch} : SndF (ρ := ρ) l false (mi 62).1 (wX7_isSameLeg) := by
    intro a h k r H ha ho hn hf
    have h8 := hf rfl
    obtain ⟨x0, x1, x2, rfl⟩ := len3 (show a.length = 3 from ha)
    have u0 := uq11 hn (ho (11, x0) (List.mem_cons_self))
    subst u0
    replace H : bndp (MX7_isSameLeg x1 x2 h) (fun r => k r h) = some r := H
    obtain ⟨v2, H1, H2⟩ := bndp_some H
    exact ⟨v2, h, H2, met_mk (mok_base okX7_isSameLeg).1 (by decide +kernel) (Nat.le_of_ble_eq_true rfl) ho (sMX7_isSameLeg h8 x1 x2 h H1 rfl), fun q => by cases q⟩
theorem roX7_isSameLeg {ρ : Type} : RoF (wX7_isSameLeg : FN ρ) := fun a h k k2 hk => by
  unfold wX7_isSameLeg
  split
  · exact bndp_ro hk
  · rfl
/-! X7_findFirsts -/
def sdX7_findFirsts : SD := [(0, [(0, .aload_n 0, 1, [], 0), (1, .iconst 0, 1, [], 0), (2, .putfield 67, 3, [7, 6, 0, 0, 0, 373], 0), (5, .iconst 0, 1, [], 0), (6, .istore_n 1, 1, [], 0)]),
  (7, [(7, .iload_n 1, 1, [], 0), (8, .aload_n 0, 1, [], 0), (9, .getfield 35, 3, [7, 0, 14, 0, 361, 0], 0), (12, .getfield 55, 3, [10, 11, 0, 0, 203, 0], 0), (15, .if_icmp .ge 65, 3, [], 0)]),
  (18, [(18, .aload_n 0, 1, [], 0), (19, .getfield 23, 3, [7, 5, 532, 1, 370, 0], 7), (22, .iload_n 1, 1, [], 0), (23, .iload_n 1, 1, [], 0), (24, .iastore, 1, [], 0), (25, .iconst 0, 1, [], 0), (26, .istore_n 2, 1, [], 0)]),
  (27, [(27, .iload_n 2, 1, [], 0), (28, .iload_n 1, 1, [], 0), (29, .if_icmp .ge 45, 3, [], 0)]),
  (32, [(32, .aload_n 0, 1, [], 0), (33, .getfield 23, 3, [7, 5, 532, 1, 370, 0], 7), (36, .iload_n 1, 1, [], 0), (37, .iaload, 1, [], 0), (38, .iload_n 1, 1, [], 0), (39, .if_icmp .ne 35, 3, [], 0)]),
  (42, [(42, .aload_n 0, 1, [], 0), (43, .iload_n 2, 1, [], 0), (44, .iload_n 1, 1, [], 0), (45, .invokevirtual 70, 3, [1, 0, 1, 62, 633, 0, 0, 11], 0), (48, .ifCond .eq 20, 3, [], 0)]),
  (51, [(51, .aload_n 0, 1, [], 0), (52, .getfield 23, 3, [7, 5, 532, 1, 370, 0], 7), (55, .iload_n 1, 1, [], 0), (56, .iload_n 2, 1, [], 0), (57, .iastore, 1, [], 0), (58, .aload_n 0, 1, [], 0), (59, .dup, 1, [], 0), (60, .getfield 67, 3, [7, 6, 0, 0, 373, 0], 0), (63, .iconst 1, 1, [], 0), (64, .iadd, 1, [], 0), (65, .putfield 67, 3, [7, 6, 0, 0, 0, 373], 0)]),
  (68, [(68, .iinc 2 1, 3, [], 0), (71, .goto (-44), 3, [], 0)]),
  (74, [(74, .iinc 1 1, 3, [], 0), (77, .goto (-70), 3, [], 0)]),
  (80, [(80, .return_, 1, [], 0)])]
def BX7_findFirsts_27 (n : Nat) : Nat → Int → Int → Hp → Option (Int × Hp)
  | 0, _, _, _ => none
  | f + 1, x1, x2, h =>
    (if x1 ≤ x2 then
    (some (x1, h))
    else
    (grd (0 ≤ x1 ∧ x1 < alen 532)
    (if (h 46 x1) ≠ x1 then
    (some (x1, h))
    else
    (bndp (MX7_isSameLeg x2 x1 h) fun r1 =>
    (if r1 = 0 then
    (ltt (w32 (x2 + 1)) fun y1 =>
    (BX7_findFirsts_27 n f x1 y1 h))
    else
    (grd (0 ≤ x1 ∧ x1 < alen 532)
    (ltt (up h 46 x1 x2) fun h1 =>
    (ltt (up h1 39 6 (w32 ((h1 39 6) + 1))) fun h2 =>
    (ltt (w32 (x2 + 1)) fun y2 =>
    (BX7_findFirsts_27 n f x1 y2 h2))))))))))
def JX7_findFirsts_74 (n : Nat) (bk : Int → Hp → Option (Hp)) (x1 : Int) (h : Hp) : Option (Hp) :=
(ltt (w32 (x1 + 1)) fun y1 =>
(bk y1 h))
def LX7_findFirsts_27 (n : Nat) (bk : Int → Hp → Option (Hp)) (x1 x2 : Int) (h : Hp) : Option (Hp) :=
(bndx (BX7_findFirsts_27 n n x1 x2 h) fun (e1, h1) =>
(JX7_findFirsts_74 n bk e1 h1))
def BX7_findFirsts_7 (n : Nat) : Nat → Int → Hp → Option (Hp)
  | 0, _, _ => none
  | f + 1, x1, h =>
    (if (h (h 39 0) 11) ≤ x1 then
    (some h)
    else
    (grd (0 ≤ x1 ∧ x1 < alen 532)
    (ltt (up h 46 x1 x1) fun h1 =>
    (ltt 0 fun y1 =>
    (LX7_findFirsts_27 n (BX7_findFirsts_7 n f) x1 y1 h1)))))
def LX7_findFirsts_7 (n : Nat) (x1 : Int) (h : Hp) : Option (Hp) :=
(BX7_findFirsts_7 n n x1 h)
def MX7_findFirsts (n : Nat) (h : Hp) : Option (Hp) :=
(ltt (up h 39 6 0) fun h1 =>
(ltt 0 fun y1 =>
(LX7_findFirsts_7 n y1 h1)))
def wX7_findFirsts {ρ : Type} (n : Nat) : FN ρ := fun a h k => match a with
  | [_] => bndh (MX7_findFirsts n h) (fun h2 => k 0 h2)
  | _ => none
def fsX7_findFirsts (n : Nat) (ρ : Type) : List (FN ρ) := [wX7_isSameLeg]
def KBX7_findFirsts_27 (_ : Nat) (bk : Int → Int → Hp → Option (Int × Hp)) : CT (Int × Hp) := [(27, [(0, 11, (some 39)), (1, 0, none), (2, 0, none)], [], fun a c h => match a, c with
    | [x1, x2], [] => bk x1 x2 h
    | _, _ => none),
  (74, [(0, 11, (some 39)), (1, 0, none)], [], fun a c h => match a, c with
    | [x1], [] => some (x1, h)
    | _, _ => none)]
set_option maxRecDepth 100000 in
theorem eBX7_findFirsts_27 (n f : Nat) (x1 : Int) (x2 : Int) (h : Hp) : BX7_findFirsts_27 n (f + 1) x1 x2 h =
  goAt false (kct (KBX7_findFirsts_27 n (BX7_findFirsts_27 n f))) (fun _ _ => none) (fsX7_findFirsts n _) sdX7_findFirsts 1000 27 [(0, 11, 39), (1, 0, x1), (2, 0, x2)] [] h := rfl
def KJX7_findFirsts_74 (_ : Nat) (bk : Int → Hp → Option (Hp)) : CT (Hp) := [(7, [(0, 11, (some 39)), (1, 0, none)], [], fun a c h => match a, c with
    | [x1], [] => bk x1 h
    | _, _ => none)]
set_option maxRecDepth 100000 in
theorem eJX7_findFirsts_74 (n : Nat) (bk : Int → Hp → Option (Hp)) (x1 : Int) (h : Hp) : JX7_findFirsts_74 n bk x1 h =
  goAt false (kct (KJX7_findFirsts_74 n bk)) (fun _ h => some (h)) (fsX7_findFirsts n _) sdX7_findFirsts 1000 74 [(0, 11, 39), (1, 0, x1)] [] h := rfl
def KBX7_findFirsts_7 (n : Nat) (bk : Int → Hp → Option (Hp)) : CT (Hp) := [(7, [(0, 11, (some 39)), (1, 0, none)], [], fun a c h => match a, c with
    | [x1], [] => bk x1 h
    | _, _ => none),
  (27, [(0, 11, (some 39)), (1, 0, none), (2, 0, none)], [], fun a c h => match a, c with
    | [x1, x2], [] => LX7_findFirsts_27 n bk x1 x2 h
    | _, _ => none)]
set_option maxRecDepth 100000 in
theorem eBX7_findFirsts_7 (n f : Nat) (x1 : Int) (h : Hp) : BX7_findFirsts_7 n (f + 1) x1 h =
  goAt false (kct (KBX7_findFirsts_7 n (BX7_findFirsts_7 n f))) (fun _ h => some (h)) (fsX7_findFirsts n _) sdX7_findFirsts 1000 7 [(0, 11, 39), (1, 0, x1)] [] h := rfl
def KMX7_findFirsts (n : Nat) : CT (Hp) := [(7, [(0, 11, (some 39)), (1, 0, none)], [], fun a c h => match a, c with
    | [x1], [] => LX7_findFirsts_7 n x1 h
    | _, _ => none)]
set_option maxRecDepth 100000 in
theorem eMX7_findFirsts (n : Nat) (h : Hp) : MX7_findFirsts n h =
  goAt false (kct (KMX7_findFirsts n)) (fun _ h => some (h)) (fsX7_findFirsts n _) sdX7_findFirsts 1000 0 [(0, 11, 39)] [] h := rfl
theorem okX7_findFirsts : mokb (mi 63) = true := by decide +kernel
theorem rkX7_findFirsts : rkOK 0 (mi 63).1.2.2.2.2.2.2.1 (mi 63).1.2.2.2.1 := Or.inl ⟨rfl, rfl, rfl⟩
def calX7_findFirsts : List Nat := [62]
theorem foX7_findFirsts {l : Launch} {ρ : Type} (n : Nat) : fsOK l false mi calX7_findFirsts (fsX7_findFirsts n ρ) := ⟨sndX7_isSameLeg, trivial⟩
theorem ok_sdX7_findFirsts : sdb (mi 63).1.2.1 (insOK mi (mi 63).1.1.cls (mi 63).1.2.2.1 (mi 63).1.2.2.2.2.1 (mi 63).1.2.2.2.2.2.1 calX7_findFirsts false 0) sdX7_findFirsts = true := by decide +kernel
def GX7_findFirsts_27 (l : Launch) (h0 : Hp) (h' : Hp) (v : Int) (_ : Hp) : (Int × Hp) → Prop
  | (e1, h1) => PAt l false (mi 63).1 h0 v h' 74 [(0, 11, 39), (1, 0, e1)] [] h1
theorem sBX7_findFirsts_27 {l : Launch} {h0 h' : Hp} {v : Int} (h8 : nOf h0 = 148) (n : Nat) : ∀ (f : Nat) (x1 : Int) (x2 : Int) (h : Hp) {r : Int × Hp}, BX7_findFirsts_27 n f x1 x2 h = some r → GX7_findFirsts_27 l h0 h' v h r → PAt l false (mi 63).1 h0 v h' 27 [(0, 11, 39), (1, 0, x1), (2, 0, x2)] [] h := by
  intro f
  induction f with
  | zero =>
    intro x1 x2 h r H _
    have H2 : (none : Option (Int × Hp)) = some r := H
    cases H2
  | succ f ih =>
    intro x1 x2 h r H hG
    exact pat_w ok_sdX7_findFirsts rkX7_findFirsts h8 (foX7_findFirsts n) (fun v1 h1 q => by cases q) (List.forall_mem_cons.mpr ⟨(fun a c h H => by
      dsimp only at H
      split at H
      · exact ih _ _ _ H hG
      · cases H), (List.forall_mem_cons.mpr ⟨(fun a c h H => by
      dsimp only at H
      split at H
      · cases H
        exact hG
      · cases H), (fun q9 h9 => by cases h9)⟩)⟩) ((eBX7_findFirsts_27 n f x1 x2 h).symm.trans H)
theorem sJX7_findFirsts_74 {l : Launch} {h0 h' : Hp} {v : Int} (h8 : nOf h0 = 148) (n : Nat) (bk : Int → Hp → Option (Hp)) (hbk : ∀ (x1 : Int) (h : Hp) (r : Hp), bk x1 h = some r → gW h' r → PAt l false (mi 63).1 h0 v h' 7 [(0, 11, 39), (1, 0, x1)] [] h) (x1 : Int) (h : Hp) {r : Hp} (H : JX7_findFirsts_74 n bk x1 h = some r) (hG : gW h' r) : PAt l false (mi 63).1 h0 v h' 74 [(0, 11, 39), (1, 0, x1)] [] h :=
  pat_w ok_sdX7_findFirsts rkX7_findFirsts h8 (foX7_findFirsts n) (fun v1 h1 q => by
    cases q
    exact ⟨hG, fun q9 => absurd rfl q9⟩) (List.forall_mem_cons.mpr ⟨(fun a c h H => by
      dsimp only at H
      split at H
      · exact hbk _ _ _ H hG
      · cases H), (fun q9 h9 => by cases h9)⟩) ((eJX7_findFirsts_74 n bk x1 h).symm.trans H)
theorem sLX7_findFirsts_27 {l : Launch} {h0 h' : Hp} {v : Int} (h8 : nOf h0 = 148) (n : Nat) (bk : Int → Hp → Option (Hp)) (hbk : ∀ (x1 : Int) (h : Hp) (r : Hp), bk x1 h = some r → gW h' r → PAt l false (mi 63).1 h0 v h' 7 [(0, 11, 39), (1, 0, x1)] [] h) (x1 : Int) (x2 : Int) (h : Hp) {r : Hp} (H : LX7_findFirsts_27 n bk x1 x2 h = some r) (hG : gW h' r) : PAt l false (mi 63).1 h0 v h' 27 [(0, 11, 39), (1, 0, x1), (2, 0, x2)] [] h := by
  obtain ⟨e9, h2, h3⟩ := bndx_some H
  obtain ⟨e1, h1⟩ := e9
  exact sBX7_findFirsts_27 h8 n n x1 x2 h h2 (sJX7_findFirsts_74 h8 n bk hbk e1 h1 h3 hG)
theorem sBX7_findFirsts_7 {l : Launch} {h0 h' : Hp} {v : Int} (h8 : nOf h0 = 148) (n : Nat) : ∀ (f : Nat) (x1 : Int) (h : Hp) {r : Hp}, BX7_findFirsts_7 n f x1 h = some r → gW h' r → PAt l false (mi 63).1 h0 v h' 7 [(0, 11, 39), (1, 0, x1)] [] h := by
  intro f
  induction f with
  | zero =>
    intro x1 h r H _
    have H2 : (none : Option (Hp)) = some r := H
    cases H2
  | succ f ih =>
    intro x1 h r H hG
    have ihk : ∀ (x1 : Int) (h : Hp) (r : Hp), BX7_findFirsts_7 n f x1 h = some r → gW h' r → PAt l false (mi 63).1 h0 v h' 7 [(0, 11, 39), (1, 0, x1)] [] h := fun x1 h r9 a9 b9 => ih x1 h a9 b9
    exact pat_w ok_sdX7_findFirsts rkX7_findFirsts h8 (foX7_findFirsts n) (fun v1 h1 q => by
    cases q
    exact ⟨hG, fun q9 => absurd rfl q9⟩) (List.forall_mem_cons.mpr ⟨(fun a c h H => by
      dsimp only at H
      split at H
      · exact ih _ _ H hG
      · cases H), (List.forall_mem_cons.mpr ⟨(fun a c h H => by
      dsimp only at H
      split at H
      · exact sLX7_findFirsts_27 h8 n (BX7_findFirsts_7 n f) ihk _ _ _ H hG
      · cases H), (fun q9 h9 => by cases h9)⟩)⟩) ((eBX7_findFirsts_7 n f x1 h).symm.trans H)
theorem sLX7_findFirsts_7 {l : Launch} {h0 h' : Hp} {v : Int} (h8 : nOf h0 = 148) (n : Nat) (x1 : Int) (h : Hp) {r : Hp} (H : LX7_findFirsts_7 n x1 h = some r) (hG : gW h' r) : PAt l false (mi 63).1 h0 v h' 7 [(0, 11, 39), (1, 0, x1)] [] h :=
  sBX7_findFirsts_7 h8 n n x1 h H hG
theorem sMX7_findFirsts {l : Launch} {h0 h' : Hp} {v : Int} (h8 : nOf h0 = 148) (n : Nat)  (h : Hp) {r : Hp} (H : MX7_findFirsts n h = some r) (hG : gW h' r) : PAt l false (mi 63).1 h0 v h' 0 [(0, 11, 39)] [] h :=
  pat_w ok_sdX7_findFirsts rkX7_findFirsts h8 (foX7_findFirsts n) (fun v1 h1 q => by
    cases q
    exact ⟨hG, fun q9 => absurd rfl q9⟩) (List.forall_mem_cons.mpr ⟨(fun a c h H => by
      dsimp only at H
      split at H
      · exact sLX7_findFirsts_7 h8 n _ _ H hG
      · cases H), (fun q9 h9 => by cases h9)⟩) ((eMX7_findFirsts n h).symm.trans H)
theorem sndX7_findFirsts {ρ : Type} {l : Launch} (n : Nat) : SndF (ρ := ρ) l false (mi 63).1 (wX7_findFirsts n) := by
    intro a h k r H ha ho hn hf
    have h8 := hf rfl
    obtain ⟨x0, rfl⟩ := len1 (show a.length = 1 from ha)
    have u0 := uq11 hn (ho (11, x0) (List.mem_cons_self))
    subst u0
    replace H : bndh (MX7_findFirsts n h) (fun h2 => k 0 h2) = some r := H
    obtain ⟨h2, H1, H2⟩ := bndh_some H
    exact ⟨0, h2, H2, met_mk (mok_base okX7_findFirsts).1 (by decide +kernel) (Nat.le_of_ble_eq_true rfl) ho (sMX7_findFirsts h8 n  h H1 rfl), fun q => by cases q⟩
/-! X7_layerOf -/
def sdX7_layerOf : SD := [(0, [(0, .iconst 0, 1, [], 0), (1, .istore_n 2, 1, [], 0)]),
  (2, [(2, .iload_n 2, 1, [], 0), (3, .aload_n 0, 1, [], 0), (4, .getfield 74, 3, [7, 10, 0, 0, 381, 0], 0), (7, .if_icmp .ge 21, 3, [], 0)]),
  (10, [(10, .aload_n 0, 1, [], 0), (11, .getfield 26, 3, [7, 7, 532, 1, 375, 0], 8), (14, .iload_n 2, 1, [], 0), (15, .iaload, 1, [], 0), (16, .iload_n 1, 1, [], 0), (17, .if_icmp .ne 5, 3, [], 0)]),
  (20, [(20, .iload_n 2, 1, [], 0), (21, .ireturn, 1, [], 0)]),
  (22, [(22, .iinc 2 1, 3, [], 0), (25, .goto (-23), 3, [], 0)]),
  (28, [(28, .aload_n 0, 1, [], 0), (29, .getfield 74, 3, [7, 10, 0, 0, 381, 0], 0), (32, .bipush 63, 2, [], 0), (34, .invokestatic 88, 3, [1, 0, 3, 261, 656, 0, 0], 0), (37, .istore_n 2, 1, [], 0), (38, .aload_n 0, 1, [], 0), (39, .getfield 26, 3, [7, 7, 532, 1, 375, 0], 8), (42, .iload_n 2, 1, [], 0), (43, .iload_n 1, 1, [], 0), (44, .iastore, 1, [], 0), (45, .aload_n 0, 1, [], 0), (46, .getfield 29, 3, [7, 8, 532, 1, 377, 0], 9), (49, .iload_n 2, 1, [], 0), (50, .iconst 0, 1, [], 0), (51, .iastore, 1, [], 0), (52, .aload_n 0, 1, [], 0), (53, .getfield 32, 3, [7, 9, 532, 1, 379, 0], 10), (56, .iload_n 2, 1, [], 0), (57, .iconst 0, 1, [], 0), (58, .iastore, 1, [], 0), (59, .aload_n 0, 1, [], 0), (60, .iload_n 2, 1, [], 0), (61, .iconst 1, 1, [], 0), (62, .iadd, 1, [], 0), (63, .putfield 74, 3, [7, 10, 0, 0, 0, 381], 0), (66, .iload_n 2, 1, [], 0), (67, .ireturn, 1, [], 0)])]
def BX7_layerOf_2 (n : Nat) : Nat → Int → Int → Hp → Option (Int × Hp)
  | 0, _, _, _ => none
  | f + 1, x1, x2, h =>
    (if (h 39 10) ≤ x2 then
    (ltt (min (h 39 10) 63) fun y1 =>
    (grd (0 ≤ y1 ∧ y1 < alen 532)
    (ltt (up h 47 y1 x1) fun h1 =>
    (grd (0 ≤ y1 ∧ y1 < alen 532)
    (ltt (up h1 48 y1 0) fun h2 =>
    (grd (0 ≤ y1 ∧ y1 < alen 532)
    (ltt (up h2 49 y1 0) fun h3 =>
    (ltt (up h3 39 10 (w32 (y1 + 1))) fun h4 =>
    (some (y1, h4))))))))))
    else
    (grd (0 ≤ x2 ∧ x2 < alen 532)
    (if (h 47 x2) ≠ x1 then
    (ltt (w32 (x2 + 1)) fun y2 =>
    (BX7_layerOf_2 n f x1 y2 h))
    else
    (some (x2, h)))))
def LX7_layerOf_2 (n : Nat) (x1 x2 : Int) (h : Hp) : Option (Int × Hp) :=
(BX7_layerOf_2 n n x1 x2 h)
def MX7_layerOf (n : Nat) (x1 : Int) (h : Hp) : Option (Int × Hp) :=
(ltt 0 fun y1 =>
(LX7_layerOf_2 n x1 y1 h))
def wX7_layerOf {ρ : Type} (n : Nat) : FN ρ := fun a h k => match a with
  | [_, x1] => bnd (MX7_layerOf n x1 h) (fun r h2 => k r h2)
  | _ => none
def fsX7_layerOf (n : Nat) (ρ : Type) : List (FN ρ) := [fmin]
def KBX7_layerOf_2 (_ : Nat) (bk : Int → Int → Hp → Option (Int × Hp)) : CT (Int × Hp) := [(2, [(0, 11, (some 39)), (1, 0, none), (2, 0, none)], [], fun a c h => match a, c with
    | [x1, x2], [] => bk x1 x2 h
    | _, _ => none)]
set_option maxRecDepth 100000 in
theorem eBX7_layerOf_2 (n f : Nat) (x1 : Int) (x2 : Int) (h : Hp) : BX7_layerOf_2 n (f + 1) x1 x2 h =
  goAt false (kct (KBX7_layerOf_2 n (BX7_layerOf_2 n f))) (fun v h => some ((v, h))) (fsX7_layerOf n _) sdX7_layerOf 1000 2 [(0, 11, 39), (1, 0, x1), (2, 0, x2)] [] h := rfl
def KMX7_layerOf (n : Nat) : CT (Int × Hp) := [(2, [(0, 11, (some 39)), (1, 0, none), (2, 0, none)], [], fun a c h => match a, c with
    | [x1, x2], [] => LX7_layerOf_2 n x1 x2 h
    | _, _ => none)]
set_option maxRecDepth 100000 in
theorem eMX7_layerOf (n : Nat) (x1 : Int) (h : Hp) : MX7_layerOf n x1 h =
  goAt false (kct (KMX7_layerOf n)) (fun v h => some ((v, h))) (fsX7_layerOf n _) sdX7_layerOf 1000 0 [(0, 11, 39), (1, 0, x1)] [] h := rfl
theorem okX7_layerOf : mokb (mi 64) = true := by decide +kernel
theorem rkX7_layerOf : rkOK 1 (mi 64).1.2.2.2.2.2.2.1 (mi 64).1.2.2.2.1 := Or.inr (Or.inl ⟨rfl, rfl, rfl⟩)
def calX7_layerOf : List Nat := [261]
theorem foX7_layerOf {l : Launch} {ρ : Type} (n : Nat) : fsOK l false mi calX7_layerOf (fsX7_layerOf n ρ) := ⟨snd_mmin, trivial⟩
theorem ok_sdX7_layerOf : sdb (mi 64).1.2.1 (insOK mi (mi 64).1.1.cls (mi 64).1.2.2.1 (mi 64).1.2.2.2.2.1 (mi 64).1.2.2.2.2.2.1 calX7_layerOf false 1) sdX7_layerOf = true := by decide +kernel
theorem sBX7_layerOf_2 {l : Launch} {h0 h' : Hp} {v : Int} (h8 : nOf h0 = 148) (n : Nat) : ∀ (f : Nat) (x1 : Int) (x2 : Int) (h : Hp) {r : Int × Hp}, BX7_layerOf_2 n f x1 x2 h = some r → gWV v h' r → PAt l false (mi 64).1 h0 v h' 2 [(0, 11, 39), (1, 0, x1), (2, 0, x2)] [] h := by
  intro f
  induction f with
  | zero =>
    intro x1 x2 h r H _
    have H2 : (none : Option (Int × Hp)) = some r := H
    cases H2
  | succ f ih =>
    intro x1 x2 h r H hG
    exact pat_w ok_sdX7_layerOf rkX7_layerOf h8 (foX7_layerOf n) (fun v1 h1 q => by
    cases q
    exact ⟨hG.1, fun _ => hG.2⟩) (List.forall_mem_cons.mpr ⟨(fun a c h H => by
      dsimp only at H
      split at H
      · exact ih _ _ _ H hG
      · cases H), (fun q9 h9 => by cases h9)⟩) ((eBX7_layerOf_2 n f x1 x2 h).symm.trans H)
theorem sLX7_layerOf_2 {l : Launch} {h0 h' : Hp} {v : Int} (h8 : nOf h0 = 148) (n : Nat) (x1 : Int) (x2 : Int) (h : Hp) {r : Int × Hp} (H : LX7_layerOf_2 n x1 x2 h = some r) (hG : gWV v h' r) : PAt l false (mi 64).1 h0 v h' 2 [(0, 11, 39), (1, 0, x1), (2, 0, x2)] [] h :=
  sBX7_layerOf_2 h8 n n x1 x2 h H hG
theorem sMX7_layerOf {l : Launch} {h0 h' : Hp} {v : Int} (h8 : nOf h0 = 148) (n : Nat) (x1 : Int) (h : Hp) {r : Int × Hp} (H : MX7_layerOf n x1 h = some r) (hG : gWV v h' r) : PAt l false (mi 64).1 h0 v h' 0 [(0, 11, 39), (1, 0, x1)] [] h :=
  pat_w ok_sdX7_layerOf rkX7_layerOf h8 (foX7_layerOf n) (fun v1 h1 q => by
    cases q
    exact ⟨hG.1, fun _ => hG.2⟩) (List.forall_mem_cons.mpr ⟨(fun a c h H => by
      dsimp only at H
      split at H
      · exact sLX7_layerOf_2 h8 n _ _ _ H hG
      · cases H), (fun q9 h9 => by cases h9)⟩) ((eMX7_layerOf n x1 h).symm.trans H)
theorem sndX7_layerOf {ρ : Type} {l : Launch} (n : Nat) : SndF (ρ := ρ) l false (mi 64).1 (wX7_layerOf n) := by
    intro a h k r H ha ho hn hf
    have h8 := hf rfl
    obtain ⟨x0, x1, rfl⟩ := len2 (show a.length = 2 from ha)
    have u0 := uq11 hn (ho (11, x0) (List.mem_cons_self))
    subst u0
    replace H : bnd (MX7_layerOf n x1 h) (fun r h2 => k r h2) = some r := H
    obtain ⟨v2, h2, H1, H2⟩ := bnd_some H
    exact ⟨v2, h2, H2, met_mk (mok_base okX7_layerOf).1 (by decide +kernel) (Nat.le_of_ble_eq_true rfl) ho (sMX7_layerOf h8 n x1 h H1 ⟨rfl, rfl⟩), fun q => by cases q⟩
/-! X7_findLayers -/
def sdX7_findLayers : SD := [(0, [(0, .aload_n 0, 1, [], 0), (1, .iconst 0, 1, [], 0), (2, .putfield 74, 3, [7, 10, 0, 0, 0, 381], 0), (5, .iconst 0, 1, [], 0), (6, .istore_n 1, 1, [], 0)]),
  (7, [(7, .iload_n 1, 1, [], 0), (8, .aload_n 0, 1, [], 0), (9, .getfield 35, 3, [7, 0, 14, 0, 361, 0], 0), (12, .getfield 55, 3, [10, 11, 0, 0, 203, 0], 0), (15, .if_icmp .ge 65, 3, [], 0)]),
  (18, [(18, .aload_n 0, 1, [], 0), (19, .getfield 35, 3, [7, 0, 14, 0, 361, 0], 0), (22, .iload_n 1, 1, [], 0), (23, .iconst 2, 1, [], 0), (24, .invokevirtual 77, 3, [1, 0, 1, 44, 641, 0, 0, 14], 0), (27, .ifCond .ne 47, 3, [], 0)]),
  (30, [(30, .aload_n 0, 1, [], 0), (31, .aload_n 0, 1, [], 0), (32, .getfield 35, 3, [7, 0, 14, 0, 361, 0], 0), (35, .getfield 60, 3, [10, 1, 50, 1, 169, 0], 2), (38, .iconst 2, 1, [], 0), (39, .aaload, 1, [], 0), (40, .iload_n 1, 1, [], 0), (41, .iaload, 1, [], 0), (42, .invokevirtual 81, 3, [1, 1, 1, 64, 652, 0, 11], 0), (45, .istore_n 2, 1, [], 0), (46, .aload_n 0, 1, [], 0), (47, .getfield 29, 3, [7, 8, 532, 1, 377, 0], 9), (50, .iload_n 2, 1, [], 0), (51, .dup2, 1, [], 0), (52, .iaload, 1, [], 0), (53, .iconst 1, 1, [], 0), (54, .iadd, 1, [], 0), (55, .iastore, 1, [], 0), (56, .aload_n 0, 1, [], 0), (57, .getfield 32, 3, [7, 9, 532, 1, 379, 0], 10), (60, .iload_n 2, 1, [], 0), (61, .dup2, 1, [], 0), (62, .iaload, 1, [], 0), (63, .aload_n 0, 1, [], 0), (64, .getfield 35, 3, [7, 0, 14, 0, 361, 0], 0), (67, .getfield 85, 3, [10, 2, 532, 1, 175, 0], 6), (70, .iload_n 1, 1, [], 0), (71, .iaload, 1, [], 0), (72, .iadd, 1, [], 0), (73, .iastore, 1, [], 0)]),
  (74, [(74, .iinc 1 1, 3, [], 0), (77, .goto (-70), 3, [], 0)]),
  (80, [(80, .return_, 1, [], 0)])]
def BX7_findLayers_7 (n : Nat) : Nat → Int → Hp → Option (Hp)
  | 0, _, _ => none
  | f + 1, x1, h =>
    (if (h (h 39 0) 11) ≤ x1 then
    (some h)
    else
    (bndp (MX10_step (h 39 0) x1 2 h) fun r1 =>
    (if r1 ≠ 0 then
    (ltt (w32 (x1 + 1)) fun y1 =>
    (BX7_findLayers_7 n f y1 h))
    else
    (grd (0 ≤ 2 ∧ 2 < alen 50)
    (grd (0 ≤ x1 ∧ x1 < alen 540)
    (bnd (MX7_layerOf n (h (((h 39 0) + 2) + 1 + 2) x1) h) fun r2 h1 =>
    (ltt r2 fun y2 =>
    (grd (0 ≤ y2 ∧ y2 < alen 532)
    (grd (0 ≤ y2 ∧ y2 < alen 532)
    (ltt (up h1 48 y2 (w32 ((h1 48 y2) + 1))) fun h2 =>
    (grd (0 ≤ y2 ∧ y2 < alen 532)
    (grd (0 ≤ x1 ∧ x1 < alen 532)
    (grd (0 ≤ y2 ∧ y2 < alen 532)
    (ltt (up h2 49 y2 (w32 ((h2 49 y2) + (h2 ((h2 39 0) + 6) x1)))) fun h3 =>
    (ltt (w32 (x1 + 1)) fun y3 =>
    (BX7_findLayers_7 n f y3 h3))))))))))))))))
def LX7_findLayers_7 (n : Nat) (x1 : Int) (h : Hp) : Option (Hp) :=
(BX7_findLayers_7 n n x1 h)
def MX7_findLayers (n : Nat) (h : Hp) : Option (Hp) :=
(ltt (up h 39 10 0) fun h1 =>
(ltt 0 fun y1 =>
(LX7_findLayers_7 n y1 h1)))
def wX7_findLayers {ρ : Type} (n : Nat) : FN ρ := fun a h k => match a with
  | [_] => bndh (MX7_findLayers n h) (fun h2 => k 0 h2)
  | _ => none
def fsX7_findLayers (n : Nat) (ρ : Type) : List (FN ρ) := [wX10_step, wX7_layerOf n]
def KBX7_findLayers_7 (_ : Nat) (bk : Int → Hp → Option (Hp)) : CT (Hp) := [(7, [(0, 11, (some 39)), (1, 0, none)], [], fun a c h => match a, c with
    | [x1], [] => bk x1 h
    | _, _ => none)]
set_option maxRecDepth 100000 in
theorem eBX7_findLayers_7 (n f : Nat) (x1 : Int) (h : Hp) : BX7_findLayers_7 n (f + 1) x1 h =
  goAt false (kct (KBX7_findLayers_7 n (BX7_findLayers_7 n f))) (fun _ h => some (h)) (fsX7_findLayers n _) sdX7_findLayers 1000 7 [(0, 11, 39), (1, 0, x1)] [] h := rfl
def KMX7_findLayers (n : Nat) : CT (Hp) := [(7, [(0, 11, (some 39)), (1, 0, none)], [], fun a c h => match a, c with
    | [x1], [] => LX7_findLayers_7 n x1 h
    | _, _ => none)]
set_option maxRecDepth 100000 in
theorem eMX7_findLayers (n : Nat) (h : Hp) : MX7_findLayers n h =
  goAt false (kct (KMX7_findLayers n)) (fun _ h => some (h)) (fsX7_findLayers n _) sdX7_findLayers 1000 0 [(0, 11, 39)] [] h := rfl
theorem okX7_findLayers : mokb (mi 65) = true := by decide +kernel
theorem rkX7_findLayers : rkOK 0 (mi 65).1.2.2.2.2.2.2.1 (mi 65).1.2.2.2.1 := Or.inl ⟨rfl, rfl, rfl⟩
def calX7_findLayers : List Nat := [44, 64]
theorem foX7_findLayers {l : Launch} {ρ : Type} (n : Nat) : fsOK l false mi calX7_findLayers (fsX7_findLayers n ρ) := ⟨sndX10_step, ⟨(sndX7_layerOf n), trivial⟩⟩
theorem ok_sdX7_findLayers : sdb (mi 65).1.2.1 (insOK mi (mi 65).1.1.cls (mi 65).1.2.2.1 (mi 65).1.2.2.2.2.1 (mi 65).1.2.2.2.2.2.1 calX7_findLayers false 0) sdX7_findLayers = true := by decide +kernel
theorem sBX7_findLayers_7 {l : Launch} {h0 h' : Hp} {v : Int} (h8 : nOf h0 = 148) (n : Nat) : ∀ (f : Nat) (x1 : Int) (h : Hp) {r : Hp}, BX7_findLayers_7 n f x1 h = some r → gW h' r → PAt l false (mi 65).1 h0 v h' 7 [(0, 11, 39), (1, 0, x1)] [] h := by
  intro f
  induction f with
  | zero =>
    intro x1 h r H _
    have H2 : (none : Option (Hp)) = some r := H
    cases H2
  | succ f ih =>
    intro x1 h r H hG
    exact pat_w ok_sdX7_findLayers rkX7_findLayers h8 (foX7_findLayers n) (fun v1 h1 q => by
    cases q
    exact ⟨hG, fun q9 => absurd rfl q9⟩) (List.forall_mem_cons.mpr ⟨(fun a c h H => by
      dsimp only at H
      split at H
      · exact ih _ _ H hG
      · cases H), (fun q9 h9 => by cases h9)⟩) ((eBX7_findLayers_7 n f x1 h).symm.trans H)
theorem sLX7_findLayers_7 {l : Launch} {h0 h' : Hp} {v : Int} (h8 : nOf h0 = 148) (n : Nat) (x1 : Int) (h : Hp) {r : Hp} (H : LX7_findLayers_7 n x1 h = some r) (hG : gW h' r) : PAt l false (mi 65).1 h0 v h' 7 [(0, 11, 39), (1, 0, x1)] [] h :=
  sBX7_findLayers_7 h8 n n x1 h H hG
theorem sMX7_findLayers {l : Launch} {h0 h' : Hp} {v : Int} (h8 : nOf h0 = 148) (n : Nat)  (h : Hp) {r : Hp} (H : MX7_findLayers n h = some r) (hG : gW h' r) : PAt l false (mi 65).1 h0 v h' 0 [(0, 11, 39)] [] h :=
  pat_w ok_sdX7_findLayers rkX7_findLayers h8 (foX7_findLayers n) (fun v1 h1 q => by
    cases q
    exact ⟨hG, fun q9 => absurd rfl q9⟩) (List.forall_mem_cons.mpr ⟨(fun a c h H => by
      dsimp only at H
      split at H
      · exact sLX7_findLayers_7 h8 n _ _ H hG
      · cases H), (fun q9 h9 => by cases h9)⟩) ((eMX7_findLayers n h).symm.trans H)
theorem sndX7_findLayers {ρ : Type} {l : Launch} (n : Nat) : SndF (ρ := ρ) l false (mi 65).1 (wX7_findLayers n) := by
    intro a h k r H ha ho hn hf
    have h8 := hf rfl
    obtain ⟨x0, rfl⟩ := len1 (show a.length = 1 from ha)
    have u0 := uq11 hn (ho (11, x0) (List.mem_cons_self))
    subst u0
    replace H : bndh (MX7_findLayers n h) (fun h2 => k 0 h2) = some r := H
    obtain ⟨h2, H1, H2⟩ := bndh_some H
    exact ⟨0, h2, H2, met_mk (mok_base okX7_findLayers).1 (by decide +kernel) (Nat.le_of_ble_eq_true rfl) ho (sMX7_findLayers h8 n  h H1 rfl), fun q => by cases q⟩
/-! X7_isOneLayer -/
def sdX7_isOneLayer : SD := [(0, [(0, .aload_n 0, 1, [], 0), (1, .getfield 35, 3, [7, 0, 14, 0, 361, 0], 0), (4, .iload_n 1, 1, [], 0), (5, .iconst 2, 1, [], 0), (6, .invokevirtual 77, 3, [1, 0, 1, 44, 641, 0, 0, 14], 0), (9, .ifCond .ne 44, 3, [], 0)]),
  (12, [(12, .aload_n 0, 1, [], 0), (13, .getfield 35, 3, [7, 0, 14, 0, 361, 0], 0), (16, .iload_n 2, 1, [], 0), (17, .iconst 2, 1, [], 0), (18, .invokevirtual 77, 3, [1, 0, 1, 44, 641, 0, 0, 14], 0), (21, .ifCond .ne 32, 3, [], 0)]),
  (24, [(24, .aload_n 0, 1, [], 0), (25, .getfield 35, 3, [7, 0, 14, 0, 361, 0], 0), (28, .getfield 60, 3, [10, 1, 50, 1, 169, 0], 2), (31, .iconst 2, 1, [], 0), (32, .aaload, 1, [], 0), (33, .iload_n 1, 1, [], 0), (34, .iaload, 1, [], 0), (35, .aload_n 0, 1, [], 0), (36, .getfield 35, 3, [7, 0, 14, 0, 361, 0], 0), (39, .getfield 60, 3, [10, 1, 50, 1, 169, 0], 2), (42, .iconst 2, 1, [], 0), (43, .aaload, 1, [], 0), (44, .iload_n 2, 1, [], 0), (45, .iaload, 1, [], 0), (46, .if_icmp .ne 7, 3, [], 0)]),
  (49, [(49, .iconst 1, 1, [], 0), (50, .goto 4, 3, [], 0)]),
  (53, [(53, .iconst 0, 1, [], 0)]),
  (54, [(54, .ireturn, 1, [1], 0)])]
def MX7_isOneLayer (x1 x2 : Int) (h : Hp) : Option (Int) :=
(bndp (MX10_step (h 39 0) x1 2 h) fun r1 =>
(if r1 ≠ 0 then
(some 0)
else
(bndp (MX10_step (h 39 0) x2 2 h) fun r2 =>
(if r2 ≠ 0 then
(some 0)
else
(grd (0 ≤ 2 ∧ 2 < alen 50)
(grd (0 ≤ x1 ∧ x1 < alen 540)
(grd (0 ≤ 2 ∧ 2 < alen 50)
(grd (0 ≤ x2 ∧ x2 < alen 540)
(if (h (((h 39 0) + 2) + 1 + 2) x1) ≠ (h (((h 39 0) + 2) + 1 + 2) x2) then
(some 0)
else
(some 1))))))))))
def wX7_isOneLayer {ρ : Type} : FN ρ := fun a h k => match a with
  | [_, x1, x2] => bndp (MX7_isOneLayer x1 x2 h) (fun r => k r h)
  | _ => none
def fsX7_isOneLayer (ρ : Type) : List (FN ρ) := [wX10_step]
def KMX7_isOneLayer  : CT (Int) := []
set_option maxRecDepth 100000 in
theorem eMX7_isOneLayer (x1 : Int) (x2 : Int) (h : Hp) : MX7_isOneLayer x1 x2 h =
  goAt false (kct (KMX7_isOneLayer)) (fun v _ => some (v)) (fsX7_isOneLayer _) sdX7_isOneLayer 1000 0 [(0, 11, 39), (1, 0, x1), (2, 0, x2)] [] h := rfl
theorem okX7_isOneLayer : mokb (mi 66) = true := by decide +kernel
theorem rkX7_isOneLayer : rkOK 4 (mi 66).1.2.2.2.2.2.2.1 (mi 66).1.2.2.2.1 := Or.inr (Or.inr (Or.inl ⟨rfl, rfl, rfl⟩))
def calX7_isOneLayer : List Nat := [44]
theorem foX7_isOneLayer {l : Launch} {ρ : Type} : fsOK l false mi calX7_isOneLayer (fsX7_isOneLayer ρ) := ⟨sndX10_step, trivial⟩
theorem frX7_isOneLayer {ρ : Type} : ∀ fn ∈ fsX7_isOneLayer ρ, RoF fn := (List.forall_mem_cons.mpr ⟨roX10_step, (fun q9 h9 => by cases h9)⟩)
theorem ok_sdX7_isOneLayer : sdb (mi 66).1.2.1 (insOK mi (mi 66).1.1.cls (mi 66).1.2.2.1 (mi 66).1.2.2.2.2.1 (mi 66).1.2.2.2.2.2.1 calX7_isOneLayer false 4) sdX7_isOneLayer = true := by decide +kernel
theorem sMX7_isOneLayer {l : Launch} {h0 : Hp} {v : Int} (h8 : nOf h0 = 148)  (x1 : Int) (x2 : Int) (h : Hp) {r : Int} (H : MX7_isOneLayer x1 x2 h = some r) (hG : gV v r) : PAt l false (mi 66).1 h0 v h 0 [(0, 11, 39), (1, 0, x1), (2, 0, x2)] [] h :=
  pat_ro ok_sdX7_isOneLayer rfl rkX7_isOneLayer h8 (foX7_isOneLayer) (frX7_isOneLayer) (fun v1 q => by
    cases q
    exact ⟨rfl, fun _ => hG⟩) (fun q9 h9 => by cases h9) ((eMX7_isOneLayer x1 x2 h).symm.trans H)
theorem sndX7_isOneLayer {ρ : Type} {l : Launch} : SndF (ρ := ρ) l false (mi 66).1 (wX7_isOneLayer) := by
    intro a h k r H ha ho hn hf
    have h8 := hf rfl
    obtain ⟨x0, x1, x2, rfl⟩ := len3 (show a.length = 3 from ha)
    have u0 := uq11 hn (ho (11, x0) (List.mem_cons_self))
    subst u0
    replace H : bndp (MX7_isOneLayer x1 x2 h) (fun r => k r h) = some r := H
    obtain ⟨v2, H1, H2⟩ := bndp_some H
    exact ⟨v2, h, H2, met_mk (mok_base okX7_isOneLayer).1 (by decide +kernel) (Nat.le_of_ble_eq_true rfl) ho (sMX7_isOneLayer h8 x1 x2 h H1 rfl), fun q => by cases q⟩
theorem roX7_isOneLayer {ρ : Type} : RoF (wX7_isOneLayer : FN ρ) := fun a h k k2 hk => by
  unfold wX7_isOneLayer
  split
  · exact bndp_ro hk
  · rfl
/-! X7_doOverlap -/
def sdX7_doOverlap : SD := [(0, [(0, .aload_n 0, 1, [], 0), (1, .getfield 35, 3, [7, 0, 14, 0, 361, 0], 0), (4, .getfield 60, 3, [10, 1, 50, 1, 169, 0], 2), (7, .iload_n 3, 1, [], 0), (8, .aaload, 1, [], 0), (9, .astore 4, 2, [], 0), (11, .aload 4, 2, [], 0), (13, .iload_n 1, 1, [], 0), (14, .iaload, 1, [], 0), (15, .aload 4, 2, [], 0), (17, .iload_n 1, 1, [], 0), (18, .iconst 1, 1, [], 0), (19, .iadd, 1, [], 0), (20, .iaload, 1, [], 0), (21, .invokestatic 88, 3, [1, 0, 3, 261, 656, 0, 0], 0), (24, .aload 4, 2, [], 0), (26, .iload_n 2, 1, [], 0), (27, .iaload, 1, [], 0), (28, .aload 4, 2, [], 0), (30, .iload_n 2, 1, [], 0), (31, .iconst 1, 1, [], 0), (32, .iadd, 1, [], 0), (33, .iaload, 1, [], 0), (34, .invokestatic 115, 3, [1, 1, 3, 262, 673, 0, 0], 0), (37, .if_icmp .gt 36, 3, [], 0)]),
  (40, [(40, .aload 4, 2, [], 0), (42, .iload_n 2, 1, [], 0), (43, .iaload, 1, [], 0), (44, .aload 4, 2, [], 0), (46, .iload_n 2, 1, [], 0), (47, .iconst 1, 1, [], 0), (48, .iadd, 1, [], 0), (49, .iaload, 1, [], 0), (50, .invokestatic 88, 3, [1, 0, 3, 261, 656, 0, 0], 0), (53, .aload 4, 2, [], 0), (55, .iload_n 1, 1, [], 0), (56, .iaload, 1, [], 0), (57, .aload 4, 2, [], 0), (59, .iload_n 1, 1, [], 0), (60, .iconst 1, 1, [], 0), (61, .iadd, 1, [], 0), (62, .iaload, 1, [], 0), (63, .invokestatic 115, 3, [1, 1, 3, 262, 673, 0, 0], 0), (66, .if_icmp .gt 7, 3, [], 0)]),
  (69, [(69, .iconst 1, 1, [], 0), (70, .goto 4, 3, [], 0)]),
  (73, [(73, .iconst 0, 1, [], 0)]),
  (74, [(74, .ireturn, 1, [1], 0)])]
def MX7_doOverlap (x1 x2 x3 : Int) (h : Hp) : Option (Int) :=
(grd (0 ≤ x3 ∧ x3 < alen 50)
(grd (0 ≤ x1 ∧ x1 < alen 540)
(grd (0 ≤ (w32 (x1 + 1)) ∧ (w32 (x1 + 1)) < alen 540)
(grd (0 ≤ x2 ∧ x2 < alen 540)
(grd (0 ≤ (w32 (x2 + 1)) ∧ (w32 (x2 + 1)) < alen 540)
(if (max (h (((h 39 0) + 2) + 1 + x3) x2) (h (((h 39 0) + 2) + 1 + x3) (w32 (x2 + 1)))) < (min (h (((h 39 0) + 2) + 1 + x3) x1) (h (((h 39 0) + 2) + 1 + x3) (w32 (x1 + 1)))) then
(some 0)
else
(grd (0 ≤ x2 ∧ x2 < alen 540)
(grd (0 ≤ (w32 (x2 + 1)) ∧ (w32 (x2 + 1)) < alen 540)
(grd (0 ≤ x1 ∧ x1 < alen 540)
(grd (0 ≤ (w32 (x1 + 1)) ∧ (w32 (x1 + 1)) < alen 540)
(if (max (h (((h 39 0) + 2) + 1 + x3) x1) (h (((h 39 0) + 2) + 1 + x3) (w32 (x1 + 1)))) < (min (h (((h 39 0) + 2) + 1 + x3) x2) (h (((h 39 0) + 2) + 1 + x3) (w32 (x2 + 1)))) then
(some 0)
else
(some 1))))))))))))
def wX7_doOverlap {ρ : Type} : FN ρ := fun a h k => match a with
  | [_, x1, x2, x3] => bndp (MX7_doOverlap x1 x2 x3 h) (fun r => k r h)
  | _ => none
def fsX7_doOverlap (ρ : Type) : List (FN ρ) := [fmin, fmax]
def KMX7_doOverlap  : CT (Int) := []
set_option maxRecDepth 100000 in
theorem eMX7_doOverlap (x1 : Int) (x2 : Int) (x3 : Int) (h : Hp) : MX7_doOverlap x1 x2 x3 h =
  goAt false (kct (KMX7_doOverlap)) (fun v _ => some (v)) (fsX7_doOverlap _) sdX7_doOverlap 1000 0 [(0, 11, 39), (1, 0, x1), (2, 0, x2), (3, 0, x3)] [] h := rfl
theorem okX7_doOverlap : mokb (mi 67) = true := by decide +kernel
theorem rkX7_doOverlap : rkOK 4 (mi 67).1.2.2.2.2.2.2.1 (mi 67).1.2.2.2.1 := Or.inr (Or.inr (Or.inl ⟨rfl, rfl, rfl⟩))
def calX7_doOverlap : List Nat := [261, 262]
theorem foX7_doOverlap {l : Launch} {ρ : Type} : fsOK l false mi calX7_doOverlap (fsX7_doOverlap ρ) := ⟨snd_mmin, ⟨snd_mmax, trivial⟩⟩
theorem frX7_doOverlap {ρ : Type} : ∀ fn ∈ fsX7_doOverlap ρ, RoF fn := (List.forall_mem_cons.mpr ⟨ro_mmin, (List.forall_mem_cons.mpr ⟨ro_mmax, (fun q9 h9 => by cases h9)⟩)⟩)
theorem ok_sdX7_doOverlap : sdb (mi 67).1.2.1 (insOK mi (mi 67).1.1.cls (mi 67).1.2.2.1 (mi 67).1.2.2.2.2.1 (mi 67).1.2.2.2.2.2.1 calX7_doOverlap false 4) sdX7_doOverlap = true := by decide +kernel
theorem sMX7_doOverlap {l : Launch} {h0 : Hp} {v : Int} (h8 : nOf h0 = 148)  (x1 : Int) (x2 : Int) (x3 : Int) (h : Hp) {r : Int} (H : MX7_doOverlap x1 x2 x3 h = some r) (hG : gV v r) : PAt l false (mi 67).1 h0 v h 0 [(0, 11, 39), (1, 0, x1), (2, 0, x2), (3, 0, x3)] [] h :=
  pat_ro ok_sdX7_doOverlap rfl rkX7_doOverlap h8 (foX7_doOverlap) (frX7_doOverlap) (fun v1 q => by
    cases q
    exact ⟨rfl, fun _ => hG⟩) (fun q9 h9 => by cases h9) ((eMX7_doOverlap x1 x2 x3 h).symm.trans H)
theorem sndX7_doOverlap {ρ : Type} {l : Launch} : SndF (ρ := ρ) l false (mi 67).1 (wX7_doOverlap) := by
    intro a h k r H ha ho hn hf
    have h8 := hf rfl
    obtain ⟨x0, x1, x2, x3, rfl⟩ := len4 (show a.length = 4 from ha)
    have u0 := uq11 hn (ho (11, x0) (List.mem_cons_self))
    subst u0
    replace H : bndp (MX7_doOverlap x1 x2 x3 h) (fun r => k r h) = some r := H
    obtain ⟨v2, H1, H2⟩ := bndp_some H
    exact ⟨v2, h, H2, met_mk (mok_base okX7_doOverlap).1 (by decide +kernel) (Nat.le_of_ble_eq_true rfl) ho (sMX7_doOverlap h8 x1 x2 x3 h H1 rfl), fun q => by cases q⟩
theorem roX7_doOverlap {ρ : Type} : RoF (wX7_doOverlap : FN ρ) := fun a h k k2 hk => by
  unfold wX7_doOverlap
  split
  · exact bndp_ro hk
  · rfl
/-! X7_side -/
def sdX7_side : SD := [(0, [(0, .aload_n 0, 1, [], 0), (1, .getfield 35, 3, [7, 0, 14, 0, 361, 0], 0), (4, .getfield 60, 3, [10, 1, 50, 1, 169, 0], 2), (7, .iconst 0, 1, [], 0), (8, .aaload, 1, [], 0), (9, .iload_n 2, 1, [], 0), (10, .iaload, 1, [], 0), (11, .aload_n 0, 1, [], 0), (12, .getfield 35, 3, [7, 0, 14, 0, 361, 0], 0), (15, .getfield 60, 3, [10, 1, 50, 1, 169, 0], 2), (18, .iconst 0, 1, [], 0), (19, .aaload, 1, [], 0), (20, .iload_n 1, 1, [], 0), (21, .iaload, 1, [], 0), (22, .isub, 1, [], 0), (23, .i2l, 1, [], 0), (24, .lstore_n 3, 1, [], 0), (25, .aload_n 0, 1, [], 0), (26, .getfield 35, 3, [7, 0, 14, 0, 361, 0], 0), (29, .getfield 60, 3, [10, 1, 50, 1, 169, 0], 2), (32, .iconst 1, 1, [], 0), (33, .aaload, 1, [], 0), (34, .iload_n 2, 1, [], 0), (35, .iaload, 1, [], 0), (36, .aload_n 0, 1, [], 0), (37, .getfield 35, 3, [7, 0, 14, 0, 361, 0], 0), (40, .getfield 60, 3, [10, 1, 50, 1, 169, 0], 2), (43, .iconst 1, 1, [], 0), (44, .aaload, 1, [], 0), (45, .iload_n 1, 1, [], 0), (46, .iaload, 1, [], 0), (47, .isub, 1, [], 0), (48, .i2l, 1, [], 0), (49, .lstore 5, 2, [], 0), (51, .aload_n 0, 1, [], 0), (52, .getfield 35, 3, [7, 0, 14, 0, 361, 0], 0), (55, .iload_n 1, 1, [], 0), (56, .iconst 0, 1, [], 0), (57, .invokevirtual 77, 3, [1, 0, 1, 44, 641, 0, 0, 14], 0), (60, .i2l, 1, [], 0), (61, .lload 5, 2, [], 0), (63, .lmul, 1, [], 0), (64, .aload_n 0, 1, [], 0), (65, .getfield 35, 3, [7, 0, 14, 0, 361, 0], 0), (68, .iload_n 1, 1, [], 0), (69, .iconst 1, 1, [], 0), (70, .invokevirtual 77, 3, [1, 0, 1, 44, 641, 0, 0, 14], 0), (73, .i2l, 1, [], 0), (74, .lload_n 3, 1, [], 0), (75, .lmul, 1, [], 0), (76, .lsub, 1, [], 0), (77, .lstore 7, 2, [], 0), (79, .lload 7, 2, [], 0), (81, .lconst 0, 1, [], 0), (82, .lcmp, 1, [], 0), (83, .ifCond .ge 7, 3, [], 0)]),
  (86, [(86, .iconst (-1), 1, [], 0), (87, .goto 15, 3, [], 0)]),
  (90, [(90, .lload 7, 2, [], 0), (92, .lconst 0, 1, [], 0), (93, .lcmp, 1, [], 0), (94, .ifCond .le 7, 3, [], 0)]),
  (97, [(97, .iconst 1, 1, [], 0), (98, .goto 4, 3, [], 0)]),
  (101, [(101, .iconst 0, 1, [], 0)]),
  (102, [(102, .ireturn, 1, [], 0)])]
def MX7_side (x1 x2 : Int) (h : Hp) : Option (Int) :=
(grd (0 ≤ 0 ∧ 0 < alen 50)
(grd (0 ≤ x2 ∧ x2 < alen 540)
(grd (0 ≤ 0 ∧ 0 < alen 50)
(grd (0 ≤ x1 ∧ x1 < alen 540)
(ltt (w32 ((h (((h 39 0) + 2) + 1 + 0) x2) - (h (((h 39 0) + 2) + 1 + 0) x1))) fun y1 =>
(grd (0 ≤ 1 ∧ 1 < alen 50)
(grd (0 ≤ x2 ∧ x2 < alen 540)
(grd (0 ≤ 1 ∧ 1 < alen 50)
(grd (0 ≤ x1 ∧ x1 < alen 540)
(ltt (w32 ((h (((h 39 0) + 2) + 1 + 1) x2) - (h (((h 39 0) + 2) + 1 + 1) x1))) fun y2 =>
(bndp (MX10_step (h 39 0) x1 0 h) fun r1 =>
(bndp (MX10_step (h 39 0) x1 1 h) fun r2 =>
(ltt (w64 ((w64 (r1 * y2)) - (w64 (r2 * y1)))) fun y3 =>
(if 0 ≤ (lcp y3 0) then
(if (lcp y3 0) ≤ 0 then
(some 0)
else
(some 1))
else
(some (-1))))))))))))))))
def wX7_side {ρ : Type} : FN ρ := fun a h k => match a with
  | [_, x1, x2] => bndp (MX7_side x1 x2 h) (fun r => k r h)
  | _ => none
def fsX7_side (ρ : Type) : List (FN ρ) := [wX10_step]
def KMX7_side  : CT (Int) := []
set_option maxRecDepth 100000 in
theorem eMX7_side (x1 : Int) (x2 : Int) (h : Hp) : MX7_side x1 x2 h =
  goAt false (kct (KMX7_side)) (fun v _ => some (v)) (fsX7_side _) sdX7_side 1000 0 [(0, 11, 39), (1, 0, x1), (2, 0, x2)] [] h := rfl
theorem okX7_side : mokb (mi 68) = true := by decide +kernel
theorem rkX7_side : rkOK 1 (mi 68).1.2.2.2.2.2.2.1 (mi 68).1.2.2.2.1 := Or.inr (Or.inl ⟨rfl, rfl, rfl⟩)
def calX7_side : List Nat := [44]
theorem foX7_side {l : Launch} {ρ : Type} : fsOK l false mi calX7_side (fsX7_side ρ) := ⟨sndX10_step, trivial⟩
theorem frX7_side {ρ : Type} : ∀ fn ∈ fsX7_side ρ, RoF fn := (List.forall_mem_cons.mpr ⟨roX10_step, (fun q9 h9 => by cases h9)⟩)
theorem ok_sdX7_side : sdb (mi 68).1.2.1 (insOK mi (mi 68).1.1.cls (mi 68).1.2.2.1 (mi 68).1.2.2.2.2.1 (mi 68).1.2.2.2.2.2.1 calX7_side false 1) sdX7_side = true := by decide +kernel
theorem sMX7_side {l : Launch} {h0 : Hp} {v : Int} (h8 : nOf h0 = 148)  (x1 : Int) (x2 : Int) (h : Hp) {r : Int} (H : MX7_side x1 x2 h = some r) (hG : gV v r) : PAt l false (mi 68).1 h0 v h 0 [(0, 11, 39), (1, 0, x1), (2, 0, x2)] [] h :=
  pat_ro ok_sdX7_side rfl rkX7_side h8 (foX7_side) (frX7_side) (fun v1 q => by
    cases q
    exact ⟨rfl, fun _ => hG⟩) (fun q9 h9 => by cases h9) ((eMX7_side x1 x2 h).symm.trans H)
theorem sndX7_side {ρ : Type} {l : Launch} : SndF (ρ := ρ) l false (mi 68).1 (wX7_side) := by
    intro a h k r H ha ho hn hf
    have h8 := hf rfl
    obtain ⟨x0, x1, x2, rfl⟩ := len3 (show a.length = 3 from ha)
    have u0 := uq11 hn (ho (11, x0) (List.mem_cons_self))
    subst u0
    replace H : bndp (MX7_side x1 x2 h) (fun r => k r h) = some r := H
    obtain ⟨v2, H1, H2⟩ := bndp_some H
    exact ⟨v2, h, H2, met_mk (mok_base okX7_side).1 (by decide +kernel) (Nat.le_of_ble_eq_true rfl) ho (sMX7_side h8 x1 x2 h H1 rfl), fun q => by cases q⟩
theorem roX7_side {ρ : Type} : RoF (wX7_side : FN ρ) := fun a h k k2 hk => by
  unfold wX7_side
  split
  · exact bndp_ro hk
  · rfl
/-! X7_doMeet -/
def sdX7_doMeet : SD := [(0, [(0, .aload_n 0, 1, [], 0), (1, .iload_n 1, 1, [], 0), (2, .iload_n 2, 1, [], 0), (3, .iconst 0, 1, [], 0), (4, .invokevirtual 108, 3, [1, 0, 1, 67, 669, 0, 0, 0, 11], 0), (7, .ifCond .eq 53, 3, [], 0)]),
  (10, [(10, .aload_n 0, 1, [], 0), (11, .iload_n 1, 1, [], 0), (12, .iload_n 2, 1, [], 0), (13, .iconst 1, 1, [], 0), (14, .invokevirtual 108, 3, [1, 0, 1, 67, 669, 0, 0, 0, 11], 0), (17, .ifCond .eq 43, 3, [], 0)]),
  (20, [(20, .aload_n 0, 1, [], 0), (21, .iload_n 1, 1, [], 0), (22, .iload_n 2, 1, [], 0), (23, .invokevirtual 112, 3, [1, 1, 1, 68, 674, 0, 0, 11], 0), (26, .aload_n 0, 1, [], 0), (27, .iload_n 1, 1, [], 0), (28, .iload_n 2, 1, [], 0), (29, .iconst 1, 1, [], 0), (30, .iadd, 1, [], 0), (31, .invokevirtual 112, 3, [1, 1, 1, 68, 674, 0, 0, 11], 0), (34, .imul, 1, [], 0), (35, .ifCond .gt 25, 3, [], 0)]),
  (38, [(38, .aload_n 0, 1, [], 0), (39, .iload_n 2, 1, [], 0), (40, .iload_n 1, 1, [], 0), (41, .invokevirtual 112, 3, [1, 1, 1, 68, 674, 0, 0, 11], 0), (44, .aload_n 0, 1, [], 0), (45, .iload_n 2, 1, [], 0), (46, .iload_n 1, 1, [], 0), (47, .iconst 1, 1, [], 0), (48, .iadd, 1, [], 0), (49, .invokevirtual 112, 3, [1, 1, 1, 68, 674, 0, 0, 11], 0), (52, .imul, 1, [], 0), (53, .ifCond .gt 7, 3, [], 0)]),
  (56, [(56, .iconst 1, 1, [], 0), (57, .goto 4, 3, [], 0)]),
  (60, [(60, .iconst 0, 1, [], 0)]),
  (61, [(61, .ireturn, 1, [1], 0)])]
def MX7_doMeet (x1 x2 : Int) (h : Hp) : Option (Int) :=
(bndp (MX7_doOverlap x1 x2 0 h) fun r1 =>
(if r1 = 0 then
(some 0)
else
(bndp (MX7_doOverlap x1 x2 1 h) fun r2 =>
(if r2 = 0 then
(some 0)
else
(bndp (MX7_side x1 x2 h) fun r3 =>
(bndp (MX7_side x1 (w32 (x2 + 1)) h) fun r4 =>
(if 0 < (w32 (r3 * r4)) then
(some 0)
else
(bndp (MX7_side x2 x1 h) fun r5 =>
(bndp (MX7_side x2 (w32 (x1 + 1)) h) fun r6 =>
(if 0 < (w32 (r5 * r6)) then
(some 0)
else
(some 1)))))))))))
def wX7_doMeet {ρ : Type} : FN ρ := fun a h k => match a with
  | [_, x1, x2] => bndp (MX7_doMeet x1 x2 h) (fun r => k r h)
  | _ => none
def fsX7_doMeet (ρ : Type) : List (FN ρ) := [wX7_doOverlap, wX7_side]
def KMX7_doMeet  : CT (Int) := []
set_option maxRecDepth 100000 in
theorem eMX7_doMeet (x1 : Int) (x2 : Int) (h : Hp) : MX7_doMeet x1 x2 h =
  goAt false (kct (KMX7_doMeet)) (fun v _ => some (v)) (fsX7_doMeet _) sdX7_doMeet 1000 0 [(0, 11, 39), (1, 0, x1), (2, 0, x2)] [] h := rfl
theorem okX7_doMeet : mokb (mi 69) = true := by decide +kernel
theorem rkX7_doMeet : rkOK 4 (mi 69).1.2.2.2.2.2.2.1 (mi 69).1.2.2.2.1 := Or.inr (Or.inr (Or.inl ⟨rfl, rfl, rfl⟩))
def calX7_doMeet : List Nat := [67, 68]
theorem foX7_doMeet {l : Launch} {ρ : Type} : fsOK l false mi calX7_doMeet (fsX7_doMeet ρ) := ⟨sndX7_doOverlap, ⟨sndX7_side, trivial⟩⟩
theorem frX7_doMeet {ρ : Type} : ∀ fn ∈ fsX7_doMeet ρ, RoF fn := (List.forall_mem_cons.mpr ⟨roX7_doOverlap, (List.forall_mem_cons.mpr ⟨roX7_side, (fun q9 h9 => by cases h9)⟩)⟩)
theorem ok_sdX7_doMeet : sdb (mi 69).1.2.1 (insOK mi (mi 69).1.1.cls (mi 69).1.2.2.1 (mi 69).1.2.2.2.2.1 (mi 69).1.2.2.2.2.2.1 calX7_doMeet false 4) sdX7_doMeet = true := by decide +kernel
theorem sMX7_doMeet {l : Launch} {h0 : Hp} {v : Int} (h8 : nOf h0 = 148)  (x1 : Int) (x2 : Int) (h : Hp) {r : Int} (H : MX7_doMeet x1 x2 h = some r) (hG : gV v r) : PAt l false (mi 69).1 h0 v h 0 [(0, 11, 39), (1, 0, x1), (2, 0, x2)] [] h :=
  pat_ro ok_sdX7_doMeet rfl rkX7_doMeet h8 (foX7_doMeet) (frX7_doMeet) (fun v1 q => by
    cases q
    exact ⟨rfl, fun _ => hG⟩) (fun q9 h9 => by cases h9) ((eMX7_doMeet x1 x2 h).symm.trans H)
theorem sndX7_doMeet {ρ : Type} {l : Launch} : SndF (ρ := ρ) l false (mi 69).1 (wX7_doMeet) := by
    intro a h k r H ha ho hn hf
    have h8 := hf rfl
    obtain ⟨x0, x1, x2, rfl⟩ := len3 (show a.length = 3 from ha)
    have u0 := uq11 hn (ho (11, x0) (List.mem_cons_self))
    subst u0
    replace H : bndp (MX7_doMeet x1 x2 h) (fun r => k r h) = some r := H
    obtain ⟨v2, H1, H2⟩ := bndp_some H
    exact ⟨v2, h, H2, met_mk (mok_base okX7_doMeet).1 (by decide +kernel) (Nat.le_of_ble_eq_true rfl) ho (sMX7_doMeet h8 x1 x2 h H1 rfl), fun q => by cases q⟩
theorem roX7_doMeet {ρ : Type} : RoF (wX7_doMeet : FN ρ) := fun a h k k2 hk => by
  unfold wX7_doMeet
  split
  · exact bndp_ro hk
  · rfl
/-! X7_findMeetings -/
def sdX7_findMeetings : SD := [(0, [(0, .aload_n 0, 1, [], 0), (1, .iconst 0, 1, [], 0), (2, .putfield 93, 3, [7, 11, 0, 0, 0, 383], 0), (5, .aload_n 0, 1, [], 0), (6, .bipush (-2), 2, [], 0), (8, .putfield 96, 3, [7, 12, 0, 0, 0, 385], 0), (11, .aload_n 0, 1, [], 0), (12, .bipush (-2), 2, [], 0), (14, .putfield 99, 3, [7, 13, 0, 0, 0, 387], 0), (17, .iconst 0, 1, [], 0), (18, .istore_n 1, 1, [], 0)]),
  (19, [(19, .iload_n 1, 1, [], 0), (20, .aload_n 0, 1, [], 0), (21, .getfield 35, 3, [7, 0, 14, 0, 361, 0], 0), (24, .getfield 55, 3, [10, 11, 0, 0, 203, 0], 0), (27, .if_icmp .ge 96, 3, [], 0)]),
  (30, [(30, .iload_n 1, 1, [], 0), (31, .iconst 2, 1, [], 0), (32, .iadd, 1, [], 0), (33, .istore_n 2, 1, [], 0)]),
  (34, [(34, .iload_n 2, 1, [], 0), (35, .aload_n 0, 1, [], 0), (36, .getfield 35, 3, [7, 0, 14, 0, 361, 0], 0), (39, .getfield 55, 3, [10, 11, 0, 0, 203, 0], 0), (42, .if_icmp .ge 75, 3, [], 0)]),
  (45, [(45, .aload_n 0, 1, [], 0), (46, .iload_n 1, 1, [], 0), (47, .iload_n 2, 1, [], 0), (48, .invokevirtual 102, 3, [1, 0, 1, 66, 661, 0, 0, 11], 0), (51, .ifCond .eq 60, 3, [], 0)]),
  (54, [(54, .aload_n 0, 1, [], 0), (55, .iload_n 1, 1, [], 0), (56, .iload_n 2, 1, [], 0), (57, .invokevirtual 105, 3, [1, 1, 1, 69, 665, 0, 0, 11], 0), (60, .ifCond .eq 51, 3, [], 0)]),
  (63, [(63, .aload_n 0, 1, [], 0), (64, .aload_n 0, 1, [], 0), (65, .getfield 93, 3, [7, 11, 0, 0, 383, 0], 0), (68, .ifCond .ne 7, 3, [], 0)]),
  (71, [(71, .iload_n 1, 1, [], 0), (72, .goto 7, 3, [], 0)]),
  (75, [(75, .aload_n 0, 1, [], 0), (76, .getfield 96, 3, [7, 12, 0, 0, 385, 0], 0)]),
  (79, [(79, .putfield 96, 3, [7, 12, 0, 0, 0, 385], 0), (82, .aload_n 0, 1, [], 0), (83, .aload_n 0, 1, [], 0), (84, .getfield 93, 3, [7, 11, 0, 0, 383, 0], 0), (87, .ifCond .ne 7, 3, [], 0)]),
  (90, [(90, .iload_n 2, 1, [], 0), (91, .goto 7, 3, [], 0)]),
  (94, [(94, .aload_n 0, 1, [], 0), (95, .getfield 99, 3, [7, 13, 0, 0, 387, 0], 0)]),
  (98, [(98, .putfield 99, 3, [7, 13, 0, 0, 0, 387], 0), (101, .aload_n 0, 1, [], 0), (102, .dup, 1, [], 0), (103, .getfield 93, 3, [7, 11, 0, 0, 383, 0], 0), (106, .iconst 1, 1, [], 0), (107, .iadd, 1, [], 0), (108, .putfield 93, 3, [7, 11, 0, 0, 0, 383], 0)]),
  (111, [(111, .iinc 2 1, 3, [], 0), (114, .goto (-80), 3, [], 0)]),
  (117, [(117, .iinc 1 1, 3, [], 0), (120, .goto (-101), 3, [], 0)]),
  (123, [(123, .return_, 1, [], 0)])]
def JX7_findMeetings_98 (n : Nat) (bk : Int → Int → Hp → Option (Int × Hp)) (x1 x2 z1 : Int) (h : Hp) : Option (Int × Hp) :=
(ltt (up h 39 13 z1) fun h1 =>
(ltt (up h1 39 11 (w32 ((h1 39 11) + 1))) fun h2 =>
(ltt (w32 (x2 + 1)) fun y1 =>
(bk x1 y1 h2))))
def JX7_findMeetings_79 (n : Nat) (bk : Int → Int → Hp → Option (Int × Hp)) (x1 x2 z1 : Int) (h : Hp) : Option (Int × Hp) :=
(ltt (up h 39 12 z1) fun h1 =>
(if (h1 39 11) ≠ 0 then
(JX7_findMeetings_98 n bk x1 x2 (h1 39 13) h1)
else
(JX7_findMeetings_98 n bk x1 x2 x2 h1)))
def BX7_findMeetings_34 (n : Nat) : Nat → Int → Int → Hp → Option (Int × Hp)
  | 0, _, _, _ => none
  | f + 1, x1, x2, h =>
    (if (h (h 39 0) 11) ≤ x2 then
    (some (x1, h))
    else
    (bndp (MX7_isOneLayer x1 x2 h) fun r1 =>
    (if r1 = 0 then
    (ltt (w32 (x2 + 1)) fun y1 =>
    (BX7_findMeetings_34 n f x1 y1 h))
    else
    (bndp (MX7_doMeet x1 x2 h) fun r2 =>
    (if r2 = 0 then
    (ltt (w32 (x2 + 1)) fun y2 =>
    (BX7_findMeetings_34 n f x1 y2 h))
    else
    (if (h 39 11) ≠ 0 then
    (JX7_findMeetings_79 n (BX7_findMeetings_34 n f) x1 x2 (h 39 12) h)
    else
    (JX7_findMeetings_79 n (BX7_findMeetings_34 n f) x1 x2 x1 h)))))))
def JX7_findMeetings_117 (n : Nat) (bk : Int → Hp → Option (Hp)) (x1 : Int) (h : Hp) : Option (Hp) :=
(ltt (w32 (x1 + 1)) fun y1 =>
(bk y1 h))
def LX7_findMeetings_34 (n : Nat) (bk : Int → Hp → Option (Hp)) (x1 x2 : Int) (h : Hp) : Option (Hp) :=
(bndx (BX7_findMeetings_34 n n x1 x2 h) fun (e1, h1) =>
(JX7_findMeetings_117 n bk e1 h1))
def BX7_findMeetings_19 (n : Nat) : Nat → Int → Hp → Option (Hp)
  | 0, _, _ => none
  | f + 1, x1, h =>
    (if (h (h 39 0) 11) ≤ x1 then
    (some h)
    else
    (ltt (w32 (x1 + 2)) fun y1 =>
    (LX7_findMeetings_34 n (BX7_findMeetings_19 n f) x1 y1 h)))
def LX7_findMeetings_19 (n : Nat) (x1 : Int) (h : Hp) : Option (Hp) :=
(BX7_findMeetings_19 n n x1 h)
def MX7_findMeetings (n : Nat) (h : Hp) : Option (Hp) :=
(ltt (up h 39 11 0) fun h1 =>
(ltt (up h1 39 12 (-2)) fun h2 =>
(ltt (up h2 39 13 (-2)) fun h3 =>
(ltt 0 fun y1 =>
(LX7_findMeetings_19 n y1 h3)))))
def wX7_findMeetings {ρ : Type} (n : Nat) : FN ρ := fun a h k => match a with
  | [_] => bndh (MX7_findMeetings n h) (fun h2 => k 0 h2)
  | _ => none
def fsX7_findMeetings (n : Nat) (ρ : Type) : List (FN ρ) := [wX7_isOneLayer, wX7_doMeet]
def KJX7_findMeetings_98 (_ : Nat) (bk : Int → Int → Hp → Option (Int × Hp)) : CT (Int × Hp) := [(34, [(0, 11, (some 39)), (1, 0, none), (2, 0, none)], [], fun a c h => match a, c with
    | [x1, x2], [] => bk x1 x2 h
    | _, _ => none),
  (117, [(0, 11, (some 39)), (1, 0, none)], [], fun a c h => match a, c with
    | [x1], [] => some (x1, h)
    | _, _ => none)]
set_option maxRecDepth 100000 in
theorem eJX7_findMeetings_98 (n : Nat) (bk : Int → Int → Hp → Option (Int × Hp)) (x1 : Int) (x2 : Int) (z1 : Int) (h : Hp) : JX7_findMeetings_98 n bk x1 x2 z1 h =
  goAt false (kct (KJX7_findMeetings_98 n bk)) (fun _ _ => none) (fsX7_findMeetings n _) sdX7_findMeetings 1000 98 [(0, 11, 39), (1, 0, x1), (2, 0, x2)] [(0, z1), (11, 39)] h := rfl
def KJX7_findMeetings_79 (n : Nat) (bk : Int → Int → Hp → Option (Int × Hp)) : CT (Int × Hp) := [(34, [(0, 11, (some 39)), (1, 0, none), (2, 0, none)], [], fun a c h => match a, c with
    | [x1, x2], [] => bk x1 x2 h
    | _, _ => none),
  (117, [(0, 11, (some 39)), (1, 0, none)], [], fun a c h => match a, c with
    | [x1], [] => some (x1, h)
    | _, _ => none),
  (98, [(0, 11, (some 39)), (1, 0, none), (2, 0, none)], [(0, none), (11, (some 39))], fun a c h => match a, c with
    | [x1, x2], [z1] => JX7_findMeetings_98 n bk x1 x2 z1 h
    | _, _ => none)]
set_option maxRecDepth 100000 in
theorem eJX7_findMeetings_79 (n : Nat) (bk : Int → Int → Hp → Option (Int × Hp)) (x1 : Int) (x2 : Int) (z1 : Int) (h : Hp) : JX7_findMeetings_79 n bk x1 x2 z1 h =
  goAt false (kct (KJX7_findMeetings_79 n bk)) (fun _ _ => none) (fsX7_findMeetings n _) sdX7_findMeetings 1000 79 [(0, 11, 39), (1, 0, x1), (2, 0, x2)] [(0, z1), (11, 39)] h := rfl
def KBX7_findMeetings_34 (n : Nat) (bk : Int → Int → Hp → Option (Int × Hp)) : CT (Int × Hp) := [(34, [(0, 11, (some 39)), (1, 0, none), (2, 0, none)], [], fun a c h => match a, c with
    | [x1, x2], [] => bk x1 x2 h
    | _, _ => none),
  (117, [(0, 11, (some 39)), (1, 0, none)], [], fun a c h => match a, c with
    | [x1], [] => some (x1, h)
    | _, _ => none),
  (79, [(0, 11, (some 39)), (1, 0, none), (2, 0, none)], [(0, none), (11, (some 39))], fun a c h => match a, c with
    | [x1, x2], [z1] => JX7_findMeetings_79 n bk x1 x2 z1 h
    | _, _ => none)]
set_option maxRecDepth 100000 in
theorem eBX7_findMeetings_34 (n f : Nat) (x1 : Int) (x2 : Int) (h : Hp) : BX7_findMeetings_34 n (f + 1) x1 x2 h =
  goAt false (kct (KBX7_findMeetings_34 n (BX7_findMeetings_34 n f))) (fun _ _ => none) (fsX7_findMeetings n _) sdX7_findMeetings 1000 34 [(0, 11, 39), (1, 0, x1), (2, 0, x2)] [] h := rfl
def KJX7_findMeetings_117 (_ : Nat) (bk : Int → Hp → Option (Hp)) : CT (Hp) := [(19, [(0, 11, (some 39)), (1, 0, none)], [], fun a c h => match a, c with
    | [x1], [] => bk x1 h
    | _, _ => none)]
set_option maxRecDepth 100000 in
theorem eJX7_findMeetings_117 (n : Nat) (bk : Int → Hp → Option (Hp)) (x1 : Int) (h : Hp) : JX7_findMeetings_117 n bk x1 h =
  goAt false (kct (KJX7_findMeetings_117 n bk)) (fun _ h => some (h)) (fsX7_findMeetings n _) sdX7_findMeetings 1000 117 [(0, 11, 39), (1, 0, x1)] [] h := rfl
def KBX7_findMeetings_19 (n : Nat) (bk : Int → Hp → Option (Hp)) : CT (Hp) := [(19, [(0, 11, (some 39)), (1, 0, none)], [], fun a c h => match a, c with
    | [x1], [] => bk x1 h
    | _, _ => none),
  (34, [(0, 11, (some 39)), (1, 0, none), (2, 0, none)], [], fun a c h => match a, c with
    | [x1, x2], [] => LX7_findMeetings_34 n bk x1 x2 h
    | _, _ => none)]
set_option maxRecDepth 100000 in
theorem eBX7_findMeetings_19 (n f : Nat) (x1 : Int) (h : Hp) : BX7_findMeetings_19 n (f + 1) x1 h =
  goAt false (kct (KBX7_findMeetings_19 n (BX7_findMeetings_19 n f))) (fun _ h => some (h)) (fsX7_findMeetings n _) sdX7_findMeetings 1000 19 [(0, 11, 39), (1, 0, x1)] [] h := rfl
def KMX7_findMeetings (n : Nat) : CT (Hp) := [(19, [(0, 11, (some 39)), (1, 0, none)], [], fun a c h => match a, c with
    | [x1], [] => LX7_findMeetings_19 n x1 h
    | _, _ => none)]
set_option maxRecDepth 100000 in
theorem eMX7_findMeetings (n : Nat) (h : Hp) : MX7_findMeetings n h =
  goAt false (kct (KMX7_findMeetings n)) (fun _ h => some (h)) (fsX7_findMeetings n _) sdX7_findMeetings 1000 0 [(0, 11, 39)] [] h := rfl
theorem okX7_findMeetings : mokb (mi 70) = true := by decide +kernel
theorem rkX7_findMeetings : rkOK 0 (mi 70).1.2.2.2.2.2.2.1 (mi 70).1.2.2.2.1 := Or.inl ⟨rfl, rfl, rfl⟩
def calX7_findMeetings : List Nat := [66, 69]
theorem foX7_findMeetings {l : Launch} {ρ : Type} (n : Nat) : fsOK l false mi calX7_findMeetings (fsX7_findMeetings n ρ) := ⟨sndX7_isOneLayer, ⟨sndX7_doMeet, trivial⟩⟩
theorem ok_sdX7_findMeetings : sdb (mi 70).1.2.1 (insOK mi (mi 70).1.1.cls (mi 70).1.2.2.1 (mi 70).1.2.2.2.2.1 (mi 70).1.2.2.2.2.2.1 calX7_findMeetings false 0) sdX7_findMeetings = true := by decide +kernel
def GX7_findMeetings_34 (l : Launch) (h0 : Hp) (h' : Hp) (v : Int) (_ : Hp) : (Int × Hp) → Prop
  | (e1, h1) => PAt l false (mi 70).1 h0 v h' 117 [(0, 11, 39), (1, 0, e1)] [] h1
theorem sJX7_findMeetings_98 {l : Launch} {h0 h' : Hp} {v : Int} (h8 : nOf h0 = 148) (n : Nat) (bk : Int → Int → Hp → Option (Int × Hp)) (hbk : ∀ (x1 : Int) (x2 : Int) (h : Hp) (r : Int × Hp), bk x1 x2 h = some r → GX7_findMeetings_34 l h0 h' v h r → PAt l false (mi 70).1 h0 v h' 34 [(0, 11, 39), (1, 0, x1), (2, 0, x2)] [] h) (x1 : Int) (x2 : Int) (z1 : Int) (h : Hp) {r : Int × Hp} (H : JX7_findMeetings_98 n bk x1 x2 z1 h = some r) (hG : GX7_findMeetings_34 l h0 h' v h r) : PAt l false (mi 70).1 h0 v h' 98 [(0, 11, 39), (1, 0, x1), (2, 0, x2)] [(0, z1), (11, 39)] h :=
  pat_w ok_sdX7_findMeetings rkX7_findMeetings h8 (foX7_findMeetings n) (fun v1 h1 q => by cases q) (List.forall_mem_cons.mpr ⟨(fun a c h H => by
      dsimp only at H
      split at H
      · exact hbk _ _ _ _ H hG
      · cases H), (List.forall_mem_cons.mpr ⟨(fun a c h H => by
      dsimp only at H
      split at H
      · cases H
        exact hG
      · cases H), (fun q9 h9 => by cases h9)⟩)⟩) ((eJX7_findMeetings_98 n bk x1 x2 z1 h).symm.trans H)
theorem sJX7_findMeetings_79 {l : Launch} {h0 h' : Hp} {v : Int} (h8 : nOf h0 = 148) (n : Nat) (bk : Int → Int → Hp → Option (Int × Hp)) (hbk : ∀ (x1 : Int) (x2 : Int) (h : Hp) (r : Int × Hp), bk x1 x2 h = some r → GX7_findMeetings_34 l h0 h' v h r → PAt l false (mi 70).1 h0 v h' 34 [(0, 11, 39), (1, 0, x1), (2, 0, x2)] [] h) (x1 : Int) (x2 : Int) (z1 : Int) (h : Hp) {r : Int × Hp} (H : JX7_findMeetings_79 n bk x1 x2 z1 h = some r) (hG : GX7_findMeetings_34 l h0 h' v h r) : PAt l false (mi 70).1 h0 v h' 79 [(0, 11, 39), (1, 0, x1), (2, 0, x2)] [(0, z1), (11, 39)] h :=
  pat_w ok_sdX7_findMeetings rkX7_findMeetings h8 (foX7_findMeetings n) (fun v1 h1 q => by cases q) (List.forall_mem_cons.mpr ⟨(fun a c h H => by
      dsimp only at H
      split at H
      · exact hbk _ _ _ _ H hG
      · cases H), (List.forall_mem_cons.mpr ⟨(fun a c h H => by
      dsimp only at H
      split at H
      · cases H
        exact hG
      · cases H), (List.forall_mem_cons.mpr ⟨(fun a c h H => by
      dsimp only at H
      split at H
      · exact sJX7_findMeetings_98 h8 n bk hbk _ _ _ _ H hG
      · cases H), (fun q9 h9 => by cases h9)⟩)⟩)⟩) ((eJX7_findMeetings_79 n bk x1 x2 z1 h).symm.trans H)
theorem sBX7_findMeetings_34 {l : Launch} {h0 h' : Hp} {v : Int} (h8 : nOf h0 = 148) (n : Nat) : ∀ (f : Nat) (x1 : Int) (x2 : Int) (h : Hp) {r : Int × Hp}, BX7_findMeetings_34 n f x1 x2 h = some r → GX7_findMeetings_34 l h0 h' v h r → PAt l false (mi 70).1 h0 v h' 34 [(0, 11, 39), (1, 0, x1), (2, 0, x2)] [] h := by
  intro f
  induction f with
  | zero =>
    intro x1 x2 h r H _
    have H2 : (none : Option (Int × Hp)) = some r := H
    cases H2
  | succ f ih =>
    intro x1 x2 h r H hG
    have ihk : ∀ (x1 : Int) (x2 : Int) (h : Hp) (r : Int × Hp), BX7_findMeetings_34 n f x1 x2 h = some r → GX7_findMeetings_34 l h0 h' v h r → PAt l false (mi 70).1 h0 v h' 34 [(0, 11, 39), (1, 0, x1), (2, 0, x2)] [] h := fun x1 x2 h r9 a9 b9 => ih x1 x2 h a9 b9
    exact pat_w ok_sdX7_findMeetings rkX7_findMeetings h8 (foX7_findMeetings n) (fun v1 h1 q => by cases q) (List.forall_mem_cons.mpr ⟨(fun a c h H => by
      dsimp only at H
      split at H
      · exact ih _ _ _ H hG
      · cases H), (List.forall_mem_cons.mpr ⟨(fun a c h H => by
      dsimp only at H
      split at H
      · cases H
        exact hG
      · cases H), (List.forall_mem_cons.mpr ⟨(fun a c h H => by
      dsimp only at H
      split at H
      · exact sJX7_findMeetings_79 h8 n (BX7_findMeetings_34 n f) ihk _ _ _ _ H hG
      · cases H), (fun q9 h9 => by cases h9)⟩)⟩)⟩) ((eBX7_findMeetings_34 n f x1 x2 h).symm.trans H)
theorem sJX7_findMeetings_117 {l : Launch} {h0 h' : Hp} {v : Int} (h8 : nOf h0 = 148) (n : Nat) (bk : Int → Hp → Option (Hp)) (hbk : ∀ (x1 : Int) (h : Hp) (r : Hp), bk x1 h = some r → gW h' r → PAt l false (mi 70).1 h0 v h' 19 [(0, 11, 39), (1, 0, x1)] [] h) (x1 : Int) (h : Hp) {r : Hp} (H : JX7_findMeetings_117 n bk x1 h = some r) (hG : gW h' r) : PAt l false (mi 70).1 h0 v h' 117 [(0, 11, 39), (1, 0, x1)] [] h :=
  pat_w ok_sdX7_findMeetings rkX7_findMeetings h8 (foX7_findMeetings n) (fun v1 h1 q => by
    cases q
    exact ⟨hG, fun q9 => absurd rfl q9⟩) (List.forall_mem_cons.mpr ⟨(fun a c h H => by
      dsimp only at H
      split at H
      · exact hbk _ _ _ H hG
      · cases H), (fun q9 h9 => by cases h9)⟩) ((eJX7_findMeetings_117 n bk x1 h).symm.trans H)
theorem sLX7_findMeetings_34 {l : Launch} {h0 h' : Hp} {v : Int} (h8 : nOf h0 = 148) (n : Nat) (bk : Int → Hp → Option (Hp)) (hbk : ∀ (x1 : Int) (h : Hp) (r : Hp), bk x1 h = some r → gW h' r → PAt l false (mi 70).1 h0 v h' 19 [(0, 11, 39), (1, 0, x1)] [] h) (x1 : Int) (x2 : Int) (h : Hp) {r : Hp} (H : LX7_findMeetings_34 n bk x1 x2 h = some r) (hG : gW h' r) : PAt l false (mi 70).1 h0 v h' 34 [(0, 11, 39), (1, 0, x1), (2, 0, x2)] [] h := by
  obtain ⟨e9, h2, h3⟩ := bndx_some H
  obtain ⟨e1, h1⟩ := e9
  exact sBX7_findMeetings_34 h8 n n x1 x2 h h2 (sJX7_findMeetings_117 h8 n bk hbk e1 h1 h3 hG)
theorem sBX7_findMeetings_19 {l : Launch} {h0 h' : Hp} {v : Int} (h8 : nOf h0 = 148) (n : Nat) : ∀ (f : Nat) (x1 : Int) (h : Hp) {r : Hp}, BX7_findMeetings_19 n f x1 h = some r → gW h' r → PAt l false (mi 70).1 h0 v h' 19 [(0, 11, 39), (1, 0, x1)] [] h := by
  intro f
  induction f with
  | zero =>
    intro x1 h r H _
    have H2 : (none : Option (Hp)) = some r := H
    cases H2
  | succ f ih =>
    intro x1 h r H hG
    have ihk : ∀ (x1 : Int) (h : Hp) (r : Hp), BX7_findMeetings_19 n f x1 h = some r → gW h' r → PAt l false (mi 70).1 h0 v h' 19 [(0, 11, 39), (1, 0, x1)] [] h := fun x1 h r9 a9 b9 => ih x1 h a9 b9
    exact pat_w ok_sdX7_findMeetings rkX7_findMeetings h8 (foX7_findMeetings n) (fun v1 h1 q => by
    cases q
    exact ⟨hG, fun q9 => absurd rfl q9⟩) (List.forall_mem_cons.mpr ⟨(fun a c h H => by
      dsimp only at H
      split at H
      · exact ih _ _ H hG
      · cases H), (List.forall_mem_cons.mpr ⟨(fun a c h H => by
      dsimp only at H
      split at H
      · exact sLX7_findMeetings_34 h8 n (BX7_findMeetings_19 n f) ihk _ _ _ H hG
      · cases H), (fun q9 h9 => by cases h9)⟩)⟩) ((eBX7_findMeetings_19 n f x1 h).symm.trans H)
theorem sLX7_findMeetings_19 {l : Launch} {h0 h' : Hp} {v : Int} (h8 : nOf h0 = 148) (n : Nat) (x1 : Int) (h : Hp) {r : Hp} (H : LX7_findMeetings_19 n x1 h = some r) (hG : gW h' r) : PAt l false (mi 70).1 h0 v h' 19 [(0, 11, 39), (1, 0, x1)] [] h :=
  sBX7_findMeetings_19 h8 n n x1 h H hG
theorem sMX7_findMeetings {l : Launch} {h0 h' : Hp} {v : Int} (h8 : nOf h0 = 148) (n : Nat)  (h : Hp) {r : Hp} (H : MX7_findMeetings n h = some r) (hG : gW h' r) : PAt l false (mi 70).1 h0 v h' 0 [(0, 11, 39)] [] h :=
  pat_w ok_sdX7_findMeetings rkX7_findMeetings h8 (foX7_findMeetings n) (fun v1 h1 q => by
    cases q
    exact ⟨hG, fun q9 => absurd rfl q9⟩) (List.forall_mem_cons.mpr ⟨(fun a c h H => by
      dsimp only at H
      split at H
      · exact sLX7_findMeetings_19 h8 n _ _ H hG
      · cases H), (fun q9 h9 => by cases h9)⟩) ((eMX7_findMeetings n h).symm.trans H)
theorem sndX7_findMeetings {ρ : Type} {l : Launch} (n : Nat) : SndF (ρ := ρ) l false (mi 70).1 (wX7_findMeetings n) := by
    intro a h k r H ha ho hn hf
    have h8 := hf rfl
    obtain ⟨x0, rfl⟩ := len1 (show a.length = 1 from ha)
    have u0 := uq11 hn (ho (11, x0) (List.mem_cons_self))
    subst u0
    replace H : bndh (MX7_findMeetings n h) (fun h2 => k 0 h2) = some r := H
    obtain ⟨h2, H1, H2⟩ := bndh_some H
    exact ⟨0, h2, H2, met_mk (mok_base okX7_findMeetings).1 (by decide +kernel) (Nat.le_of_ble_eq_true rfl) ho (sMX7_findMeetings h8 n  h H1 rfl), fun q => by cases q⟩
/-! X7_look -/
def sdX7_look : SD := [(0, [(0, .aload_n 0, 1, [], 0), (1, .aload_n 1, 1, [], 0), (2, .putfield 35, 3, [7, 0, 14, 0, 0, 361], 0), (5, .aload_n 0, 1, [], 0), (6, .invokevirtual 39, 3, [0, 0, 1, 61, 621, 11], 0), (9, .aload_n 0, 1, [], 0), (10, .invokevirtual 42, 3, [0, 1, 1, 63, 629, 11], 0), (13, .aload_n 0, 1, [], 0), (14, .invokevirtual 45, 3, [0, 2, 1, 65, 637, 11], 0), (17, .aload_n 0, 1, [], 0), (18, .invokevirtual 48, 3, [0, 3, 1, 70, 657, 11], 0), (21, .return_, 1, [], 0)])]
def MX7_look (n : Nat) (x1 : Int) (h : Hp) : Option (Hp) :=
(ltt (up h 39 0 x1) fun h1 =>
(bndh (MX7_findSpots n h1) fun h2 =>
(bndh (MX7_findFirsts n h2) fun h3 =>
(bndh (MX7_findLayers n h3) fun h4 =>
(bndh (MX7_findMeetings n h4) fun h5 =>
(some h5))))))
def wX7_look {ρ : Type} (n : Nat) : FN ρ := fun a h k => match a with
  | [_, x1] => bndh (MX7_look n x1 h) (fun h2 => k 0 h2)
  | _ => none
def fsX7_look (n : Nat) (ρ : Type) : List (FN ρ) := [wX7_findSpots n, wX7_findFirsts n, wX7_findLayers n, wX7_findMeetings n]
def KMX7_look (_ : Nat) : CT (Hp) := []
set_option maxRecDepth 100000 in
theorem eMX7_look (n : Nat) (x1 : Int) (h : Hp) : MX7_look n x1 h =
  goAt false (kct (KMX7_look n)) (fun _ h => some (h)) (fsX7_look n _) sdX7_look 1000 0 [(0, 11, 39), (1, 14, x1)] [] h := rfl
theorem okX7_look : mokb (mi 71) = true := by decide +kernel
theorem rkX7_look : rkOK 0 (mi 71).1.2.2.2.2.2.2.1 (mi 71).1.2.2.2.1 := Or.inl ⟨rfl, rfl, rfl⟩
def calX7_look : List Nat := [61, 63, 65, 70]
theorem foX7_look {l : Launch} {ρ : Type} (n : Nat) : fsOK l false mi calX7_look (fsX7_look n ρ) := ⟨(sndX7_findSpots n), ⟨(sndX7_findFirsts n), ⟨(sndX7_findLayers n), ⟨(sndX7_findMeetings n), trivial⟩⟩⟩⟩
theorem ok_sdX7_look : sdb (mi 71).1.2.1 (insOK mi (mi 71).1.1.cls (mi 71).1.2.2.1 (mi 71).1.2.2.2.2.1 (mi 71).1.2.2.2.2.2.1 calX7_look false 0) sdX7_look = true := by decide +kernel
theorem sMX7_look {l : Launch} {h0 h' : Hp} {v : Int} (h8 : nOf h0 = 148) (n : Nat) (x1 : Int) (h : Hp) {r : Hp} (H : MX7_look n x1 h = some r) (hG : gW h' r) : PAt l false (mi 71).1 h0 v h' 0 [(0, 11, 39), (1, 14, x1)] [] h :=
  pat_w ok_sdX7_look rkX7_look h8 (foX7_look n) (fun v1 h1 q => by
    cases q
    exact ⟨hG, fun q9 => absurd rfl q9⟩) (fun q9 h9 => by cases h9) ((eMX7_look n x1 h).symm.trans H)
theorem sndX7_look {ρ : Type} {l : Launch} (n : Nat) : SndF (ρ := ρ) l false (mi 71).1 (wX7_look n) := by
    intro a h k r H ha ho hn hf
    have h8 := hf rfl
    obtain ⟨x0, x1, rfl⟩ := len2 (show a.length = 2 from ha)
    have u0 := uq11 hn (ho (11, x0) (List.mem_cons_self))
    subst u0
    replace H : bndh (MX7_look n x1 h) (fun h2 => k 0 h2) = some r := H
    obtain ⟨h2, H1, H2⟩ := bndh_some H
    exact ⟨0, h2, H2, met_mk (mok_base okX7_look).1 (by decide +kernel) (Nat.le_of_ble_eq_true rfl) ho (sMX7_look h8 n x1 h H1 rfl), fun q => by cases q⟩
