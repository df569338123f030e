/-! X12_laysFrom_v2 -/
def sdX12_laysFrom_v2 : SD := [(0, [(0, .aload_n 0, 1, [], 0), (1, .aload_n 1, 1, [], 0), (2, .iload_n 2, 1, [], 0), (3, .iaload, 1, [], 0), (4, .putfield 165, 3, [12, 42, 0, 0, 0, 1364], 0), (7, .aload_n 0, 1, [], 0), (8, .aload_n 1, 1, [], 0), (9, .iload_n 2, 1, [], 0), (10, .iconst 1, 1, [], 0), (11, .iadd, 1, [], 0), (12, .iaload, 1, [], 0), (13, .putfield 168, 3, [12, 43, 0, 0, 0, 1365], 0), (16, .aload_n 0, 1, [], 0), (17, .aload_n 1, 1, [], 0), (18, .iload_n 2, 1, [], 0), (19, .iconst 2, 1, [], 0), (20, .iadd, 1, [], 0), (21, .iaload, 1, [], 0), (22, .putfield 171, 3, [12, 44, 0, 0, 0, 1366], 0), (25, .aload_n 0, 1, [], 0), (26, .aload_n 1, 1, [], 0), (27, .iload_n 2, 1, [], 0), (28, .iconst 3, 1, [], 0), (29, .iadd, 1, [], 0), (30, .iaload, 1, [], 0), (31, .putfield 158, 3, [12, 45, 0, 0, 0, 1367], 0), (34, .aload_n 0, 1, [], 0), (35, .aload_n 1, 1, [], 0), (36, .iload_n 2, 1, [], 0), (37, .iconst 4, 1, [], 0), (38, .iadd, 1, [], 0), (39, .iaload, 1, [], 0), (40, .iconst 1, 1, [], 0), (41, .if_icmp .ne 7, 3, [], 0)]),
  (44, [(44, .iconst 1, 1, [], 0), (45, .goto 4, 3, [], 0)]),
  (48, [(48, .iconst 0, 1, [], 0)]),
  (49, [(49, .putfield 161, 3, [12, 47, 0, 0, 1, 1369], 0), (52, .aload_n 0, 1, [], 0), (53, .aload_n 1, 1, [], 0), (54, .iload_n 2, 1, [], 0), (55, .iconst 5, 1, [], 0), (56, .iadd, 1, [], 0), (57, .iaload, 1, [], 0), (58, .putfield 174, 3, [12, 46, 0, 0, 0, 1368], 0), (61, .return_, 1, [], 0)])]
def JX12_laysFrom_v2_49 (x2 z1 : Int) (h : Hp) : Option (Hp) :=
(grd (z1 = 0 ∨ z1 = 1)
(ltt (up h 113 47 z1) fun h1 =>
(grd (0 ≤ (w32 (x2 + 5)) ∧ (w32 (x2 + 5)) < alen 164)
(ltt (up h1 113 46 (h1 146 (w32 (x2 + 5)))) fun h2 =>
(some h2)))))
def MX12_laysFrom_v2 (x2 : Int) (h : Hp) : Option (Hp) :=
(grd (0 ≤ x2 ∧ x2 < alen 164)
(ltt (up h 113 42 (h 146 x2)) fun h1 =>
(grd (0 ≤ (w32 (x2 + 1)) ∧ (w32 (x2 + 1)) < alen 164)
(ltt (up h1 113 43 (h1 146 (w32 (x2 + 1)))) fun h2 =>
(grd (0 ≤ (w32 (x2 + 2)) ∧ (w32 (x2 + 2)) < alen 164)
(ltt (up h2 113 44 (h2 146 (w32 (x2 + 2)))) fun h3 =>
(grd (0 ≤ (w32 (x2 + 3)) ∧ (w32 (x2 + 3)) < alen 164)
(ltt (up h3 113 45 (h3 146 (w32 (x2 + 3)))) fun h4 =>
(grd (0 ≤ (w32 (x2 + 4)) ∧ (w32 (x2 + 4)) < alen 164)
(if (h4 146 (w32 (x2 + 4))) ≠ 1 then
(JX12_laysFrom_v2_49 x2 0 h4)
else
(JX12_laysFrom_v2_49 x2 1 h4)))))))))))
def wX12_laysFrom_v2 {ρ : Type} : FN ρ := fun a h k => match a with
  | [_, _, x2] => bndh (MX12_laysFrom_v2 x2 h) (fun h2 => k 0 h2)
  | _ => none
def fsX12_laysFrom_v2 (ρ : Type) : List (FN ρ) := []
def KJX12_laysFrom_v2_49  : CT (Hp) := []
set_option maxRecDepth 100000 in
theorem eJX12_laysFrom_v2_49 (x2 : Int) (z1 : Int) (h : Hp) : JX12_laysFrom_v2_49 x2 z1 h =
  goAt false (kct (KJX12_laysFrom_v2_49)) (fun _ h => some (h)) (fsX12_laysFrom_v2 _) sdX12_laysFrom_v2 1000 49 [(0, 16, 113), (1, 164, 146), (2, 0, x2)] [(0, z1), (16, 113)] h := rfl
def KMX12_laysFrom_v2  : CT (Hp) := [(49, [(0, 16, (some 113)), (1, 164, (some 146)), (2, 0, none)], [(0, none), (16, (some 113))], fun a c h => match a, c with
    | [x2], [z1] => JX12_laysFrom_v2_49 x2 z1 h
    | _, _ => none)]
set_option maxRecDepth 100000 in
theorem eMX12_laysFrom_v2 (x2 : Int) (h : Hp) : MX12_laysFrom_v2 x2 h =
  goAt false (kct (KMX12_laysFrom_v2)) (fun _ h => some (h)) (fsX12_laysFrom_v2 _) sdX12_laysFrom_v2 1000 0 [(0, 16, 113), (1, 164, 146), (2, 0, x2)] [] h := rfl
theorem okX12_laysFrom_v2 : mokb (mi 256) = true := by decide +kernel
theorem rkX12_laysFrom_v2 : rkOK 0 (mi 256).1.2.2.2.2.2.2.1 (mi 256).1.2.2.2.1 := Or.inl ⟨rfl, rfl, rfl⟩
def calX12_laysFrom_v2 : List Nat := []
theorem foX12_laysFrom_v2 {l : Launch} {ρ : Type} : fsOK l false mi calX12_laysFrom_v2 (fsX12_laysFrom_v2 ρ) := trivial
theorem ok_sdX12_laysFrom_v2 : sdb (mi 256).1.2.1 (insOK mi (mi 256).1.1.cls (mi 256).1.2.2.1 (mi 256).1.2.2.2.2.1 (mi 256).1.2.2.2.2.2.1 calX12_laysFrom_v2 false 0) sdX12_laysFrom_v2 = true := by decide +kernel
theorem sJX12_laysFrom_v2_49 {l : Launch} {h0 h' : Hp} {v : Int} (h8 : nOf h0 = 148)  (x2 : Int) (z1 : Int) (h : Hp) {r : Hp} (H : JX12_laysFrom_v2_49 x2 z1 h = some r) (hG : gW h' r) : PAt l false (mi 256).1 h0 v h' 49 [(0, 16, 113), (1, 164, 146), (2, 0, x2)] [(0, z1), (16, 113)] h :=
  pat_w ok_sdX12_laysFrom_v2 rkX12_laysFrom_v2 h8 (foX12_laysFrom_v2) (fun v1 h1 q => by
    cases q
    exact ⟨hG, fun q9 => absurd rfl q9⟩) (fun q9 h9 => by cases h9) ((eJX12_laysFrom_v2_49 x2 z1 h).symm.trans H)
theorem sMX12_laysFrom_v2 {l : Launch} {h0 h' : Hp} {v : Int} (h8 : nOf h0 = 148)  (x2 : Int) (h : Hp) {r : Hp} (H : MX12_laysFrom_v2 x2 h = some r) (hG : gW h' r) : PAt l false (mi 256).1 h0 v h' 0 [(0, 16, 113), (1, 164, 146), (2, 0, x2)] [] h :=
  pat_w ok_sdX12_laysFrom_v2 rkX12_laysFrom_v2 h8 (foX12_laysFrom_v2) (fun v1 h1 q => by
    cases q
    exact ⟨hG, fun q9 => absurd rfl q9⟩) (List.forall_mem_cons.mpr ⟨(fun a c h H => by
      dsimp only at H
      split at H
      · exact sJX12_laysFrom_v2_49 h8 _ _ _ H hG
      · cases H), (fun q9 h9 => by cases h9)⟩) ((eMX12_laysFrom_v2 x2 h).symm.trans H)
theorem sndX12_laysFrom_v2 {ρ : Type} {l : Launch} : SndF (ρ := ρ) l false (mi 256).1 (wX12_laysFrom_v2) := by
    intro a h k r H ha ho hn hf
    have h8 := hf rfl
    obtain ⟨x0, x1, x2, rfl⟩ := len3 (show a.length = 3 from ha)
    have u0 := uq16 hn (ho (16, x0) (List.mem_cons_self))
    subst u0
    have u1 := uq164 hn (ho (164, x1) (List.mem_cons_of_mem _ List.mem_cons_self))
    subst u1
    replace H : bndh (MX12_laysFrom_v2 x2 h) (fun h2 => k 0 h2) = some r := H
    obtain ⟨h2, H1, H2⟩ := bndh_some H
    exact ⟨0, h2, H2, met_mk (mok_base okX12_laysFrom_v2).1 (by decide +kernel) (Nat.le_of_ble_eq_true rfl) ho (sMX12_laysFrom_v2 h8 x2 h H1 rfl), fun q => by cases q⟩
/-! X12_back -/
def sdX12_back : SD := [(0, [(0, .iload_n 1, 1, [], 0), (1, .i2l, 1, [], 0), (2, .lconst 0, 1, [], 0), (3, .ldc2_w 125, 3, [1, 1321], 2), (6, .invokestatic 217, 3, [1, 0, 3, 81, 1561, 1, 1, 1], 0), (9, .ifCond .eq 12, 3, [], 0)]),
  (12, [(12, .aload_n 0, 1, [], 0), (13, .getfield 113, 3, [12, 64, 46, 1, 1386, 0], 34), (16, .iload_n 1, 1, [], 0), (17, .baload, 1, [], 0), (18, .ifCond .ne 5, 3, [], 0)]),
  (21, [(21, .iconst (-1), 1, [], 0), (22, .ireturn, 1, [], 0)]),
  (23, [(23, .aload_n 0, 1, [], 0), (24, .aload_n 0, 1, [], 0), (25, .getfield 110, 3, [12, 63, 164, 1, 1385, 0], 33), (28, .bipush 6, 2, [], 0), (30, .iload_n 1, 1, [], 0), (31, .imul, 1, [], 0), (32, .invokevirtual 454, 3, [0, 1, 1, 256, 1664, 0, 164, 16], 0), (35, .aload_n 0, 1, [], 0), (36, .iconst 0, 1, [], 0), (37, .putfield 177, 3, [12, 54, 0, 0, 0, 1376], 0), (40, .aload_n 0, 1, [], 0), (41, .getfield 165, 3, [12, 42, 0, 0, 1364, 0], 0), (44, .ireturn, 1, [], 0)])]
def MX12_back (x1 : Int) (h : Hp) : Option (Int × Hp) :=
(bndp (MX12_in x1 0 2) fun r1 =>
(if r1 = 0 then
(some ((-1), h))
else
(grd (0 ≤ x1 ∧ x1 < alen 46)
(if (h 147 x1) ≠ 0 then
(bndh (MX12_laysFrom_v2 (w32 (6 * x1)) h) fun h1 =>
(ltt (up h1 113 54 0) fun h2 =>
(some ((h2 113 42), h2))))
else
(some ((-1), h))))))
def wX12_back {ρ : Type} : FN ρ := fun a h k => match a with
  | [_, x1] => bnd (MX12_back x1 h) (fun r h2 => k r h2)
  | _ => none
def fsX12_back (ρ : Type) : List (FN ρ) := [wX12_in, wX12_laysFrom_v2]
def KMX12_back  : CT (Int × Hp) := []
set_option maxRecDepth 100000 in
theorem eMX12_back (x1 : Int) (h : Hp) : MX12_back x1 h =
  goAt false (kct (KMX12_back)) (fun v h => some ((v, h))) (fsX12_back _) sdX12_back 1000 0 [(0, 16, 113), (1, 0, x1)] [] h := rfl
theorem okX12_back : mokb (mi 257) = true := by decide +kernel
theorem rkX12_back : rkOK 1 (mi 257).1.2.2.2.2.2.2.1 (mi 257).1.2.2.2.1 := Or.inr (Or.inl ⟨rfl, rfl, rfl⟩)
def calX12_back : List Nat := [81, 256]
theorem foX12_back {l : Launch} {ρ : Type} : fsOK l false mi calX12_back (fsX12_back ρ) := ⟨sndX12_in, ⟨sndX12_laysFrom_v2, trivial⟩⟩
theorem ok_sdX12_back : sdb (mi 257).1.2.1 (insOK mi (mi 257).1.1.cls (mi 257).1.2.2.1 (mi 257).1.2.2.2.2.1 (mi 257).1.2.2.2.2.2.1 calX12_back false 1) sdX12_back = true := by decide +kernel
theorem sMX12_back {l : Launch} {h0 h' : Hp} {v : Int} (h8 : nOf h0 = 148)  (x1 : Int) (h : Hp) {r : Int × Hp} (H : MX12_back x1 h = some r) (hG : gWV v h' r) : PAt l false (mi 257).1 h0 v h' 0 [(0, 16, 113), (1, 0, x1)] [] h :=
  pat_w ok_sdX12_back rkX12_back h8 (foX12_back) (fun v1 h1 q => by
    cases q
    exact ⟨hG.1, fun _ => hG.2⟩) (fun q9 h9 => by cases h9) ((eMX12_back x1 h).symm.trans H)
theorem sndX12_back {ρ : Type} {l : Launch} : SndF (ρ := ρ) l false (mi 257).1 (wX12_back) := by
    intro a h k r H ha ho hn hf
    have h8 := hf rfl
    obtain ⟨x0, x1, rfl⟩ := len2 (show a.length = 2 from ha)
    have u0 := uq16 hn (ho (16, x0) (List.mem_cons_self))
    subst u0
    replace H : bnd (MX12_back x1 h) (fun r h2 => k r h2) = some r := H
    obtain ⟨v2, h2, H1, H2⟩ := bnd_some H
    exact ⟨v2, h2, H2, met_mk (mok_base okX12_back).1 (by decide +kernel) (Nat.le_of_ble_eq_true rfl) ho (sMX12_back h8 x1 h H1 ⟨rfl, rfl⟩), fun q => by cases q⟩
/-! X11_count -/
def sdX11_count : SD := [(0, [(0, .iload_n 1, 1, [], 0), (1, .tableswitch 218 0 15 #[79, 87, 95, 103, 111, 119, 127, 135, 143, 151, 167, 178, 186, 194, 202, 210], 79, [], 0)]),
  (80, [(80, .aload_n 0, 1, [], 0), (81, .getfield 10, 3, [11, 2, 14, 0, 692, 0], 0), (84, .getfield 112, 3, [10, 11, 0, 0, 204, 0], 0), (87, .ireturn, 1, [], 0)]),
  (88, [(88, .aload_n 0, 1, [], 0), (89, .getfield 10, 3, [11, 2, 14, 0, 692, 0], 0), (92, .getfield 335, 3, [10, 12, 0, 0, 209, 0], 0), (95, .ireturn, 1, [], 0)]),
  (96, [(96, .aload_n 0, 1, [], 0), (97, .getfield 10, 3, [11, 2, 14, 0, 692, 0], 0), (100, .getfield 338, 3, [10, 13, 0, 0, 212, 0], 0), (103, .ireturn, 1, [], 0)]),
  (104, [(104, .aload_n 0, 1, [], 0), (105, .getfield 10, 3, [11, 2, 14, 0, 692, 0], 0), (108, .getfield 222, 3, [10, 14, 0, 0, 215, 0], 0), (111, .ireturn, 1, [], 0)]),
  (112, [(112, .aload_n 0, 1, [], 0), (113, .getfield 57, 3, [11, 7, 12, 1, 697, 0], 64), (116, .getfield 200, 3, [8, 0, 0, 0, 483, 0], 0), (119, .ireturn, 1, [], 0)]),
  (120, [(120, .aload_n 0, 1, [], 0), (121, .getfield 57, 3, [11, 7, 12, 1, 697, 0], 64), (124, .getfield 232, 3, [8, 1, 0, 0, 486, 0], 0), (127, .ireturn, 1, [], 0)]),
  (128, [(128, .aload_n 0, 1, [], 0), (129, .getfield 57, 3, [11, 7, 12, 1, 697, 0], 64), (132, .getfield 235, 3, [8, 2, 0, 0, 489, 0], 0), (135, .ireturn, 1, [], 0)]),
  (136, [(136, .aload_n 0, 1, [], 0), (137, .getfield 57, 3, [11, 7, 12, 1, 697, 0], 64), (140, .getfield 238, 3, [8, 3, 0, 0, 492, 0], 0), (143, .ireturn, 1, [], 0)]),
  (144, [(144, .aload_n 0, 1, [], 0), (145, .getfield 57, 3, [11, 7, 12, 1, 697, 0], 64), (148, .getfield 203, 3, [8, 4, 0, 0, 494, 0], 0), (151, .ireturn, 1, [], 0)]),
  (152, [(152, .aload_n 0, 1, [], 0), (153, .getfield 57, 3, [11, 7, 12, 1, 697, 0], 64), (156, .getfield 206, 3, [8, 5, 0, 0, 497, 0], 0), (159, .ifCond .eq 7, 3, [], 0)]),
  (162, [(162, .iconst 1, 1, [], 0), (163, .goto 4, 3, [], 0)]),
  (166, [(166, .iconst 0, 1, [], 0)]),
  (167, [(167, .ireturn, 1, [], 0)]),
  (168, [(168, .aload_n 0, 1, [], 0), (169, .getfield 47, 3, [11, 5, 5, 1, 695, 0], 50), (172, .getfield 157, 3, [1, 0, 8, 1, 465, 0], 2), (175, .getfield 341, 3, [4, 3, 0, 0, 437, 0], 0), (178, .ireturn, 1, [], 0)]),
  (179, [(179, .aload_n 0, 1, [], 0), (180, .getfield 10, 3, [11, 2, 14, 0, 692, 0], 0), (183, .getfield 118, 3, [10, 9, 0, 0, 194, 0], 0), (186, .ireturn, 1, [], 0)]),
  (187, [(187, .aload_n 0, 1, [], 0), (188, .getfield 10, 3, [11, 2, 14, 0, 692, 0], 0), (191, .getfield 115, 3, [10, 10, 0, 0, 198, 0], 0), (194, .ireturn, 1, [], 0)]),
  (195, [(195, .aload_n 0, 1, [], 0), (196, .getfield 67, 3, [11, 9, 9, 1, 699, 0], 66), (199, .getfield 210, 3, [5, 2, 0, 0, 527, 0], 0), (202, .ireturn, 1, [], 0)]),
  (203, [(203, .aload_n 0, 1, [], 0), (204, .getfield 22, 3, [11, 0, 13, 1, 690, 0], 27), (207, .getfield 100, 3, [9, 1, 0, 0, 255, 0], 0), (210, .ireturn, 1, [], 0)]),
  (211, [(211, .aload_n 0, 1, [], 0), (212, .getfield 57, 3, [11, 7, 12, 1, 697, 0], 64), (215, .getfield 136, 3, [8, 6, 0, 0, 499, 0], 0), (218, .ireturn, 1, [], 0)]),
  (219, [(219, .iconst (-1), 1, [], 0), (220, .ireturn, 1, [], 0)])]
def MX11_count (x1 : Int) (h : Hp) : Option (Int) :=
(if x1 = 0 then
(some (h (h 0 2) 11))
else
(if x1 = 1 then
(some (h (h 0 2) 12))
else
(if x1 = 2 then
(some (h (h 0 2) 13))
else
(if x1 = 3 then
(some (h (h 0 2) 14))
else
(if x1 = 4 then
(some (h 64 0))
else
(if x1 = 5 then
(some (h 64 1))
else
(if x1 = 6 then
(some (h 64 2))
else
(if x1 = 7 then
(some (h 64 3))
else
(if x1 = 8 then
(some (h 64 4))
else
(if x1 = 9 then
(if (h 64 5) = 0 then
(some 0)
else
(some 1))
else
(if x1 = 10 then
(some (h 52 3))
else
(if x1 = 11 then
(some (h (h 0 2) 9))
else
(if x1 = 12 then
(some (h (h 0 2) 10))
else
(if x1 = 13 then
(some (h 66 2))
else
(if x1 = 14 then
(some (h 27 1))
else
(if x1 = 15 then
(some (h 64 6))
else
(some (-1))))))))))))))))))
def wX11_count {ρ : Type} : FN ρ := fun a h k => match a with
  | [_, x1] => bndp (MX11_count x1 h) (fun r => k r h)
  | _ => none
def fsX11_count (ρ : Type) : List (FN ρ) := []
def KMX11_count  : CT (Int) := []
set_option maxRecDepth 100000 in
theorem eMX11_count (x1 : Int) (h : Hp) : MX11_count x1 h =
  goAt false (kct (KMX11_count)) (fun v _ => some (v)) (fsX11_count _) sdX11_count 1000 0 [(0, 15, 0), (1, 0, x1)] [] h := rfl
theorem okX11_count : mokb (mi 258) = true := by decide +kernel
theorem rkX11_count : rkOK 1 (mi 258).1.2.2.2.2.2.2.1 (mi 258).1.2.2.2.1 := Or.inr (Or.inl ⟨rfl, rfl, rfl⟩)
def calX11_count : List Nat := []
theorem foX11_count {l : Launch} {ρ : Type} : fsOK l false mi calX11_count (fsX11_count ρ) := trivial
theorem frX11_count {ρ : Type} : ∀ fn ∈ fsX11_count ρ, RoF fn := (fun q9 h9 => by cases h9)
theorem ok_sdX11_count : sdb (mi 258).1.2.1 (insOK mi (mi 258).1.1.cls (mi 258).1.2.2.1 (mi 258).1.2.2.2.2.1 (mi 258).1.2.2.2.2.2.1 calX11_count false 1) sdX11_count = true := by decide +kernel
theorem sMX11_count {l : Launch} {h0 : Hp} {v : Int} (h8 : nOf h0 = 148)  (x1 : Int) (h : Hp) {r : Int} (H : MX11_count x1 h = some r) (hG : gV v r) : PAt l false (mi 258).1 h0 v h 0 [(0, 15, 0), (1, 0, x1)] [] h :=
  pat_ro ok_sdX11_count rfl rkX11_count h8 (foX11_count) (frX11_count) (fun v1 q => by
    cases q
    exact ⟨rfl, fun _ => hG⟩) (fun q9 h9 => by cases h9) ((eMX11_count x1 h).symm.trans H)
theorem sndX11_count {ρ : Type} {l : Launch} : SndF (ρ := ρ) l false (mi 258).1 (wX11_count) := by
    intro a h k r H ha ho hn hf
    have h8 := hf rfl
    obtain ⟨x0, x1, rfl⟩ := len2 (show a.length = 2 from ha)
    have u0 := uq15 hn (ho (15, x0) (List.mem_cons_self))
    subst u0
    replace H : bndp (MX11_count x1 h) (fun r => k r h) = some r := H
    obtain ⟨v2, H1, H2⟩ := bndp_some H
    exact ⟨v2, h, H2, met_mk (mok_base okX11_count).1 (by decide +kernel) (Nat.le_of_ble_eq_true rfl) ho (sMX11_count h8 x1 h H1 rfl), fun q => by cases q⟩
theorem roX11_count {ρ : Type} : RoF (wX11_count : FN ρ) := fun a h k k2 hk => by
  unfold wX11_count
  split
  · exact bndp_ro hk
  · rfl
/-! X12_count -/
def sdX12_count : SD := [(0, [(0, .aload_n 0, 1, [], 0), (1, .invokevirtual 459, 3, [0, 0, 1, 116, 1673, 16], 0), (4, .iload_n 1, 1, [], 0), (5, .tableswitch 172 0 15 #[79, 84, 89, 94, 99, 104, 109, 114, 123, 128, 136, 141, 149, 157, 162, 167], 79, [], 0)]),
  (84, [(84, .aload_n 0, 1, [], 0), (85, .getfield 140, 3, [12, 6, 0, 0, 1328, 0], 0), (88, .ireturn, 1, [], 0)]),
  (89, [(89, .aload_n 0, 1, [], 0), (90, .getfield 137, 3, [12, 5, 0, 0, 1327, 0], 0), (93, .ireturn, 1, [], 0)]),
  (94, [(94, .aload_n 0, 1, [], 0), (95, .getfield 143, 3, [12, 7, 0, 0, 1329, 0], 0), (98, .ireturn, 1, [], 0)]),
  (99, [(99, .aload_n 0, 1, [], 0), (100, .invokevirtual 393, 3, [1, 1, 1, 139, 1715, 16], 0), (103, .ireturn, 1, [], 0)]),
  (104, [(104, .aload_n 0, 1, [], 0), (105, .getfield 165, 3, [12, 42, 0, 0, 1364, 0], 0), (108, .ireturn, 1, [], 0)]),
  (109, [(109, .aload_n 0, 1, [], 0), (110, .getfield 168, 3, [12, 43, 0, 0, 1365, 0], 0), (113, .ireturn, 1, [], 0)]),
  (114, [(114, .aload_n 0, 1, [], 0), (115, .getfield 171, 3, [12, 44, 0, 0, 1366, 0], 0), (118, .ireturn, 1, [], 0)]),
  (119, [(119, .aload_n 0, 1, [], 0), (120, .aload_n 0, 1, [], 0), (121, .getfield 165, 3, [12, 42, 0, 0, 1364, 0], 0), (124, .invokevirtual 396, 3, [1, 2, 1, 148, 1757, 0, 16], 0), (127, .ireturn, 1, [], 0)]),
  (128, [(128, .aload_n 0, 1, [], 0), (129, .getfield 158, 3, [12, 45, 0, 0, 1367, 0], 0), (132, .ireturn, 1, [], 0)]),
  (133, [(133, .aload_n 0, 1, [], 0), (134, .getfield 161, 3, [12, 47, 0, 0, 1369, 0], 0), (137, .invokestatic 446, 3, [1, 3, 3, 141, 1727, 0], 0), (140, .ireturn, 1, [], 0)]),
  (141, [(141, .aload_n 0, 1, [], 0), (142, .getfield 369, 3, [12, 41, 0, 0, 1363, 0], 0), (145, .ireturn, 1, [], 0)]),
  (146, [(146, .aload_n 0, 1, [], 0), (147, .getfield 15, 3, [12, 1, 84, 1, 1323, 0], 2), (150, .bipush 6, 2, [], 0), (152, .iaload, 1, [], 0), (153, .ireturn, 1, [], 0)]),
  (154, [(154, .aload_n 0, 1, [], 0), (155, .getfield 15, 3, [12, 1, 84, 1, 1323, 0], 2), (158, .bipush 7, 2, [], 0), (160, .iaload, 1, [], 0), (161, .ireturn, 1, [], 0)]),
  (162, [(162, .aload_n 0, 1, [], 0), (163, .getfield 177, 3, [12, 54, 0, 0, 1376, 0], 0), (166, .ireturn, 1, [], 0)]),
  (167, [(167, .aload_n 0, 1, [], 0), (168, .getfield 180, 3, [12, 20, 0, 0, 1342, 0], 0), (171, .ireturn, 1, [], 0)]),
  (172, [(172, .aload_n 0, 1, [], 0), (173, .getfield 174, 3, [12, 46, 0, 0, 1368, 0], 0), (176, .ireturn, 1, [], 0)]),
  (177, [(177, .iconst (-1), 1, [], 0), (178, .ireturn, 1, [], 0)])]
def MX12_count (n : Nat) (x1 : Int) (h : Hp) : Option (Int × Hp) :=
(bndh (MX12_laysNow n h) fun h1 =>
(if x1 = 0 then
(some ((h1 113 6), h1))
else
(if x1 = 1 then
(some ((h1 113 5), h1))
else
(if x1 = 2 then
(some ((h1 113 7), h1))
else
(if x1 = 3 then
(bndp (MX12_all h1) fun r3 =>
(some (r3, h1)))
else
(if x1 = 4 then
(some ((h1 113 42), h1))
else
(if x1 = 5 then
(some ((h1 113 43), h1))
else
(if x1 = 6 then
(some ((h1 113 44), h1))
else
(if x1 = 7 then
(bndp (MX12_blockAt n (h1 113 42) h1) fun r2 =>
(some (r2, h1)))
else
(if x1 = 8 then
(some ((h1 113 45), h1))
else
(if x1 = 9 then
(bndp (MX12_truth (h1 113 47)) fun r1 =>
(some (r1, h1)))
else
(if x1 = 10 then
(some ((h1 113 41), h1))
else
(if x1 = 11 then
(grd (0 ≤ 6 ∧ 6 < alen 84)
(some ((h1 115 6), h1)))
else
(if x1 = 12 then
(grd (0 ≤ 7 ∧ 7 < alen 84)
(some ((h1 115 7), h1)))
else
(if x1 = 13 then
(some ((h1 113 54), h1))
else
(if x1 = 14 then
(some ((h1 113 20), h1))
else
(if x1 = 15 then
(some ((h1 113 46), h1))
else
(some ((-1), h1)))))))))))))))))))
def wX12_count {ρ : Type} (n : Nat) : FN ρ := fun a h k => match a with
  | [_, x1] => bnd (MX12_count n x1 h) (fun r h2 => k r h2)
  | _ => none
def fsX12_count (n : Nat) (ρ : Type) : List (FN ρ) := [wX12_laysNow n, wX12_all, wX12_blockAt n, wX12_truth]
def KMX12_count (_ : Nat) : CT (Int × Hp) := []
set_option maxRecDepth 100000 in
theorem eMX12_count (n : Nat) (x1 : Int) (h : Hp) : MX12_count n x1 h =
  goAt false (kct (KMX12_count n)) (fun v h => some ((v, h))) (fsX12_count n _) sdX12_count 1000 0 [(0, 16, 113), (1, 0, x1)] [] h := rfl
theorem okX12_count : mokb (mi 259) = true := by decide +kernel
theorem rkX12_count : rkOK 1 (mi 259).1.2.2.2.2.2.2.1 (mi 259).1.2.2.2.1 := Or.inr (Or.inl ⟨rfl, rfl, rfl⟩)
def calX12_count : List Nat := [116, 139, 148, 141]
theorem foX12_count {l : Launch} {ρ : Type} (n : Nat) : fsOK l false mi calX12_count (fsX12_count n ρ) := ⟨(sndX12_laysNow n), ⟨sndX12_all, ⟨(sndX12_blockAt n), ⟨sndX12_truth, trivial⟩⟩⟩⟩
theorem ok_sdX12_count : sdb (mi 259).1.2.1 (insOK mi (mi 259).1.1.cls (mi 259).1.2.2.1 (mi 259).1.2.2.2.2.1 (mi 259).1.2.2.2.2.2.1 calX12_count false 1) sdX12_count = true := by decide +kernel
theorem sMX12_count {l : Launch} {h0 h' : Hp} {v : Int} (h8 : nOf h0 = 148) (n : Nat) (x1 : Int) (h : Hp) {r : Int × Hp} (H : MX12_count n x1 h = some r) (hG : gWV v h' r) : PAt l false (mi 259).1 h0 v h' 0 [(0, 16, 113), (1, 0, x1)] [] h :=
  pat_w ok_sdX12_count rkX12_count h8 (foX12_count n) (fun v1 h1 q => by
    cases q
    exact ⟨hG.1, fun _ => hG.2⟩) (fun q9 h9 => by cases h9) ((eMX12_count n x1 h).symm.trans H)
theorem sndX12_count {ρ : Type} {l : Launch} (n : Nat) : SndF (ρ := ρ) l false (mi 259).1 (wX12_count n) := by
    intro a h k r H ha ho hn hf
    have h8 := hf rfl
    obtain ⟨x0, x1, rfl⟩ := len2 (show a.length = 2 from ha)
    have u0 := uq16 hn (ho (16, x0) (List.mem_cons_self))
    subst u0
    replace H : bnd (MX12_count n x1 h) (fun r h2 => k r h2) = some r := H
    obtain ⟨v2, h2, H1, H2⟩ := bnd_some H
    exact ⟨v2, h2, H2, met_mk (mok_base okX12_count).1 (by decide +kernel) (Nat.le_of_ble_eq_true rfl) ho (sMX12_count h8 n x1 h H1 ⟨rfl, rfl⟩), fun q => by cases q⟩
