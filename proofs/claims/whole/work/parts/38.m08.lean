/-! X12_spots -/
def sdX12_spots : SD := [(0, [(0, .aload_n 0, 1, [], 0), (1, .invokevirtual 520, 3, [0, 0, 1, 203, 1887, 16], 0), (4, .aload_n 0, 1, [], 0), (5, .getfield 514, 3, [12, 59, 0, 0, 1381, 0], 0), (8, .ireturn, 1, [], 0)])]
def MX12_spots (n : Nat) (h : Hp) : Option (Int × Hp) :=
(bndh (MX12_laysSpots n h) fun h1 =>
(some ((h1 113 59), h1)))
def wX12_spots {ρ : Type} (n : Nat) : FN ρ := fun a h k => match a with
  | [_] => bnd (MX12_spots n h) (fun r h2 => k r h2)
  | _ => none
def fsX12_spots (n : Nat) (ρ : Type) : List (FN ρ) := [wX12_laysSpots n]
def KMX12_spots (_ : Nat) : CT (Int × Hp) := []
set_option maxRecDepth 100000 in
theorem eMX12_spots (n : Nat) (h : Hp) : MX12_spots n h =
  goAt false (kct (KMX12_spots n)) (fun v h => some ((v, h))) (fsX12_spots n _) sdX12_spots 1000 0 [(0, 16, 113)] [] h := rfl
theorem okX12_spots : mokb (mi 204) = true := by decide +kernel
theorem rkX12_spots : rkOK 1 (mi 204).1.2.2.2.2.2.2.1 (mi 204).1.2.2.2.1 := Or.inr (Or.inl ⟨rfl, rfl, rfl⟩)
def calX12_spots : List Nat := [203]
theorem foX12_spots {l : Launch} {ρ : Type} (n : Nat) : fsOK l false mi calX12_spots (fsX12_spots n ρ) := ⟨(sndX12_laysSpots n), trivial⟩
theorem ok_sdX12_spots : sdb (mi 204).1.2.1 (insOK mi (mi 204).1.1.cls (mi 204).1.2.2.1 (mi 204).1.2.2.2.2.1 (mi 204).1.2.2.2.2.2.1 calX12_spots false 1) sdX12_spots = true := by decide +kernel
theorem sMX12_spots {l : Launch} {h0 h' : Hp} {v : Int} (h8 : nOf h0 = 148) (n : Nat)  (h : Hp) {r : Int × Hp} (H : MX12_spots n h = some r) (hG : gWV v h' r) : PAt l false (mi 204).1 h0 v h' 0 [(0, 16, 113)] [] h :=
  pat_w ok_sdX12_spots rkX12_spots h8 (foX12_spots n) (fun v1 h1 q => by
    cases q
    exact ⟨hG.1, fun _ => hG.2⟩) (fun q9 h9 => by cases h9) ((eMX12_spots n h).symm.trans H)
theorem sndX12_spots {ρ : Type} {l : Launch} (n : Nat) : SndF (ρ := ρ) l false (mi 204).1 (wX12_spots n) := by
    intro a h k r H ha ho hn hf
    have h8 := hf rfl
    obtain ⟨x0, rfl⟩ := len1 (show a.length = 1 from ha)
    have u0 := uq16 hn (ho (16, x0) (List.mem_cons_self))
    subst u0
    replace H : bnd (MX12_spots n h) (fun r h2 => k r h2) = some r := H
    obtain ⟨v2, h2, H1, H2⟩ := bnd_some H
    exact ⟨v2, h2, H2, met_mk (mok_base okX12_spots).1 (by decide +kernel) (Nat.le_of_ble_eq_true rfl) ho (sMX12_spots h8 n  h H1 ⟨rfl, rfl⟩), fun q => by cases q⟩
/-! X11_spot -/
def sdX11_spot : SD := [(0, [(0, .iload_n 1, 1, [], 0), (1, .ifCond .lt 23, 3, [], 0)]),
  (4, [(4, .iload_n 1, 1, [], 0), (5, .aload_n 0, 1, [], 0), (6, .getfield 40, 3, [11, 4, 11, 1, 694, 0], 39), (9, .getfield 270, 3, [7, 4, 0, 0, 369, 0], 0), (12, .if_icmp .ge 12, 3, [], 0)]),
  (15, [(15, .iload_n 2, 1, [], 0), (16, .ifCond .lt 8, 3, [], 0)]),
  (19, [(19, .iload_n 2, 1, [], 0), (20, .iconst 3, 1, [], 0), (21, .if_icmp .le 6, 3, [], 0)]),
  (24, [(24, .ldc 217, 2, [0, 1091], (-2147483648)), (26, .ireturn, 1, [], 0)]),
  (27, [(27, .iload_n 2, 1, [], 0), (28, .iconst 3, 1, [], 0), (29, .if_icmp .ne 15, 3, [], 0)]),
  (32, [(32, .aload_n 0, 1, [], 0), (33, .getfield 40, 3, [11, 4, 11, 1, 694, 0], 39), (36, .getfield 273, 3, [7, 2, 540, 1, 366, 0], 5), (39, .iload_n 1, 1, [], 0), (40, .iaload, 1, [], 0), (41, .goto 14, 3, [], 0)]),
  (44, [(44, .aload_n 0, 1, [], 0), (45, .getfield 40, 3, [11, 4, 11, 1, 694, 0], 39), (48, .getfield 276, 3, [7, 1, 50, 1, 364, 0], 1), (51, .iload_n 2, 1, [], 0), (52, .aaload, 1, [], 0), (53, .iload_n 1, 1, [], 0), (54, .iaload, 1, [], 0)]),
  (55, [(55, .ireturn, 1, [], 0)])]
def MX11_spot (x1 x2 : Int) (h : Hp) : Option (Int) :=
(if x1 < 0 then
(some (-2147483648))
else
(if (h 39 4) ≤ x1 then
(some (-2147483648))
else
(if x2 < 0 then
(some (-2147483648))
else
(if x2 ≤ 3 then
(if x2 ≠ 3 then
(grd (0 ≤ x2 ∧ x2 < alen 50)
(grd (0 ≤ x1 ∧ x1 < alen 540)
(some (h (41 + x2) x1))))
else
(grd (0 ≤ x1 ∧ x1 < alen 540)
(some (h 44 x1))))
else
(some (-2147483648))))))
def wX11_spot {ρ : Type} : FN ρ := fun a h k => match a with
  | [_, x1, x2] => bndp (MX11_spot x1 x2 h) (fun r => k r h)
  | _ => none
def fsX11_spot (ρ : Type) : List (FN ρ) := []
def KMX11_spot  : CT (Int) := []
set_option maxRecDepth 100000 in
theorem eMX11_spot (x1 : Int) (x2 : Int) (h : Hp) : MX11_spot x1 x2 h =
  goAt false (kct (KMX11_spot)) (fun v _ => some (v)) (fsX11_spot _) sdX11_spot 1000 0 [(0, 15, 0), (1, 0, x1), (2, 0, x2)] [] h := rfl
theorem okX11_spot : mokb (mi 205) = true := by decide +kernel
theorem rkX11_spot : rkOK 1 (mi 205).1.2.2.2.2.2.2.1 (mi 205).1.2.2.2.1 := Or.inr (Or.inl ⟨rfl, rfl, rfl⟩)
def calX11_spot : List Nat := []
theorem foX11_spot {l : Launch} {ρ : Type} : fsOK l false mi calX11_spot (fsX11_spot ρ) := trivial
theorem frX11_spot {ρ : Type} : ∀ fn ∈ fsX11_spot ρ, RoF fn := (fun q9 h9 => by cases h9)
theorem ok_sdX11_spot : sdb (mi 205).1.2.1 (insOK mi (mi 205).1.1.cls (mi 205).1.2.2.1 (mi 205).1.2.2.2.2.1 (mi 205).1.2.2.2.2.2.1 calX11_spot false 1) sdX11_spot = true := by decide +kernel
theorem sMX11_spot {l : Launch} {h0 : Hp} {v : Int} (h8 : nOf h0 = 148)  (x1 : Int) (x2 : Int) (h : Hp) {r : Int} (H : MX11_spot x1 x2 h = some r) (hG : gV v r) : PAt l false (mi 205).1 h0 v h 0 [(0, 15, 0), (1, 0, x1), (2, 0, x2)] [] h :=
  pat_ro ok_sdX11_spot rfl rkX11_spot h8 (foX11_spot) (frX11_spot) (fun v1 q => by
    cases q
    exact ⟨rfl, fun _ => hG⟩) (fun q9 h9 => by cases h9) ((eMX11_spot x1 x2 h).symm.trans H)
theorem sndX11_spot {ρ : Type} {l : Launch} : SndF (ρ := ρ) l false (mi 205).1 (wX11_spot) := by
    intro a h k r H ha ho hn hf
    have h8 := hf rfl
    obtain ⟨x0, x1, x2, rfl⟩ := len3 (show a.length = 3 from ha)
    have u0 := uq15 hn (ho (15, x0) (List.mem_cons_self))
    subst u0
    replace H : bndp (MX11_spot x1 x2 h) (fun r => k r h) = some r := H
    obtain ⟨v2, H1, H2⟩ := bndp_some H
    exact ⟨v2, h, H2, met_mk (mok_base okX11_spot).1 (by decide +kernel) (Nat.le_of_ble_eq_true rfl) ho (sMX11_spot h8 x1 x2 h H1 rfl), fun q => by cases q⟩
theorem roX11_spot {ρ : Type} : RoF (wX11_spot : FN ρ) := fun a h k k2 hk => by
  unfold wX11_spot
  split
  · exact bndp_ro hk
  · rfl
/-! X12_spot -/
def sdX12_spot : SD := [(0, [(0, .aload_n 0, 1, [], 0), (1, .invokevirtual 520, 3, [0, 0, 1, 203, 1887, 16], 0), (4, .iload_n 1, 1, [], 0), (5, .i2l, 1, [], 0), (6, .lconst 0, 1, [], 0), (7, .aload_n 0, 1, [], 0), (8, .getfield 514, 3, [12, 59, 0, 0, 1381, 0], 0), (11, .iconst 1, 1, [], 0), (12, .isub, 1, [], 0), (13, .i2l, 1, [], 0), (14, .invokestatic 217, 3, [1, 1, 3, 81, 1561, 1, 1, 1], 0), (17, .ifCond .eq 15, 3, [], 0)]),
  (20, [(20, .iload_n 2, 1, [], 0), (21, .i2l, 1, [], 0), (22, .lconst 0, 1, [], 0), (23, .ldc2_w 482, 3, [1, 1816], 3), (26, .invokestatic 217, 3, [1, 1, 3, 81, 1561, 1, 1, 1], 0), (29, .ifCond .ne 7, 3, [], 0)]),
  (32, [(32, .ldc_w 479, 3, [0, 1806], (-2147483648)), (35, .ireturn, 1, [], 0)]),
  (36, [(36, .iload_n 2, 1, [], 0), (37, .iconst 3, 1, [], 0), (38, .if_icmp .ne 12, 3, [], 0)]),
  (41, [(41, .aload_n 0, 1, [], 0), (42, .getfield 98, 3, [12, 58, 540, 1, 1380, 0], 29), (45, .iload_n 1, 1, [], 0), (46, .iaload, 1, [], 0), (47, .goto 18, 3, [], 0)]),
  (50, [(50, .aload_n 0, 1, [], 0), (51, .getfield 37, 3, [12, 14, 1580, 1, 1336, 0], 9), (54, .iconst 3, 1, [], 0), (55, .aload_n 0, 1, [], 0), (56, .getfield 95, 3, [12, 57, 540, 1, 1379, 0], 28), (59, .iload_n 1, 1, [], 0), (60, .iaload, 1, [], 0), (61, .imul, 1, [], 0), (62, .iload_n 2, 1, [], 0), (63, .iadd, 1, [], 0), (64, .iaload, 1, [], 0)]),
  (65, [(65, .ireturn, 1, [], 0)])]
def MX12_spot (n : Nat) (x1 x2 : Int) (h : Hp) : Option (Int × Hp) :=
(bndh (MX12_laysSpots n h) fun h1 =>
(bndp (MX12_in x1 0 (w32 ((h1 113 59) - 1))) fun r1 =>
(if r1 = 0 then
(some ((-2147483648), h1))
else
(bndp (MX12_in x2 0 3) fun r2 =>
(if r2 ≠ 0 then
(if x2 ≠ 3 then
(grd (0 ≤ x1 ∧ x1 < alen 540)
(grd (0 ≤ (w32 ((w32 (3 * (h1 141 x1))) + x2)) ∧ (w32 ((w32 (3 * (h1 141 x1))) + x2)) < alen 1580)
(some ((h1 122 (w32 ((w32 (3 * (h1 141 x1))) + x2))), h1))))
else
(grd (0 ≤ x1 ∧ x1 < alen 540)
(some ((h1 142 x1), h1))))
else
(some ((-2147483648), h1)))))))
def wX12_spot {ρ : Type} (n : Nat) : FN ρ := fun a h k => match a with
  | [_, x1, x2] => bnd (MX12_spot n x1 x2 h) (fun r h2 => k r h2)
  | _ => none
def fsX12_spot (n : Nat) (ρ : Type) : List (FN ρ) := [wX12_laysSpots n, wX12_in]
def KMX12_spot (_ : Nat) : CT (Int × Hp) := []
set_option maxRecDepth 100000 in
theorem eMX12_spot (n : Nat) (x1 : Int) (x2 : Int) (h : Hp) : MX12_spot n x1 x2 h =
  goAt false (kct (KMX12_spot n)) (fun v h => some ((v, h))) (fsX12_spot n _) sdX12_spot 1000 0 [(0, 16, 113), (1, 0, x1), (2, 0, x2)] [] h := rfl
theorem okX12_spot : mokb (mi 206) = true := by decide +kernel
theorem rkX12_spot : rkOK 1 (mi 206).1.2.2.2.2.2.2.1 (mi 206).1.2.2.2.1 := Or.inr (Or.inl ⟨rfl, rfl, rfl⟩)
def calX12_spot : List Nat := [203, 81]
theorem foX12_spot {l : Launch} {ρ : Type} (n : Nat) : fsOK l false mi calX12_spot (fsX12_spot n ρ) := ⟨(sndX12_laysSpots n), ⟨sndX12_in, trivial⟩⟩
theorem ok_sdX12_spot : sdb (mi 206).1.2.1 (insOK mi (mi 206).1.1.cls (mi 206).1.2.2.1 (mi 206).1.2.2.2.2.1 (mi 206).1.2.2.2.2.2.1 calX12_spot false 1) sdX12_spot = true := by decide +kernel
theorem sMX12_spot {l : Launch} {h0 h' : Hp} {v : Int} (h8 : nOf h0 = 148) (n : Nat) (x1 : Int) (x2 : Int) (h : Hp) {r : Int × Hp} (H : MX12_spot n x1 x2 h = some r) (hG : gWV v h' r) : PAt l false (mi 206).1 h0 v h' 0 [(0, 16, 113), (1, 0, x1), (2, 0, x2)] [] h :=
  pat_w ok_sdX12_spot rkX12_spot h8 (foX12_spot n) (fun v1 h1 q => by
    cases q
    exact ⟨hG.1, fun _ => hG.2⟩) (fun q9 h9 => by cases h9) ((eMX12_spot n x1 x2 h).symm.trans H)
theorem sndX12_spot {ρ : Type} {l : Launch} (n : Nat) : SndF (ρ := ρ) l false (mi 206).1 (wX12_spot n) := by
    intro a h k r H ha ho hn hf
    have h8 := hf rfl
    obtain ⟨x0, x1, x2, rfl⟩ := len3 (show a.length = 3 from ha)
    have u0 := uq16 hn (ho (16, x0) (List.mem_cons_self))
    subst u0
    replace H : bnd (MX12_spot n x1 x2 h) (fun r h2 => k r h2) = some r := H
    obtain ⟨v2, h2, H1, H2⟩ := bnd_some H
    exact ⟨v2, h2, H2, met_mk (mok_base okX12_spot).1 (by decide +kernel) (Nat.le_of_ble_eq_true rfl) ho (sMX12_spot h8 n x1 x2 h H1 ⟨rfl, rfl⟩), fun q => by cases q⟩
/-! X11_comes -/
def sdX11_comes : SD := [(0, [(0, .aload_n 0, 1, [], 0), (1, .getfield 40, 3, [11, 4, 11, 1, 694, 0], 39), (4, .iload_n 1, 1, [], 0), (5, .iload_n 2, 1, [], 0), (6, .iload_n 3, 1, [], 0), (7, .invokevirtual 279, 3, [1, 0, 1, 60, 1221, 0, 0, 0, 11], 0), (10, .istore 4, 2, [], 0), (12, .iload 4, 2, [], 0), (14, .iconst (-1), 1, [], 0), (15, .if_icmp .ne 7, 3, [], 0)]),
  (18, [(18, .iconst 0, 1, [], 0), (19, .goto 13, 3, [], 0)]),
  (22, [(22, .aload_n 0, 1, [], 0), (23, .getfield 40, 3, [11, 4, 11, 1, 694, 0], 39), (26, .getfield 273, 3, [7, 2, 540, 1, 366, 0], 5), (29, .iload 4, 2, [], 0), (31, .iaload, 1, [], 0)]),
  (32, [(32, .ireturn, 1, [], 0)])]
def MX11_comes (n : Nat) (x1 x2 x3 : Int) (h : Hp) : Option (Int) :=
(bndp (MX7_find n x1 x2 x3 h) fun r1 =>
(ltt r1 fun y1 =>
(if y1 ≠ (-1) then
(grd (0 ≤ y1 ∧ y1 < alen 540)
(some (h 44 y1)))
else
(some 0))))
def wX11_comes {ρ : Type} (n : Nat) : FN ρ := fun a h k => match a with
  | [_, x1, x2, x3] => bndp (MX11_comes n x1 x2 x3 h) (fun r => k r h)
  | _ => none
def fsX11_comes (n : Nat) (ρ : Type) : List (FN ρ) := [wX7_find n]
def KMX11_comes (_ : Nat) : CT (Int) := []
set_option maxRecDepth 100000 in
theorem eMX11_comes (n : Nat) (x1 : Int) (x2 : Int) (x3 : Int) (h : Hp) : MX11_comes n x1 x2 x3 h =
  goAt false (kct (KMX11_comes n)) (fun v _ => some (v)) (fsX11_comes n _) sdX11_comes 1000 0 [(0, 15, 0), (1, 0, x1), (2, 0, x2), (3, 0, x3)] [] h := rfl
theorem okX11_comes : mokb (mi 207) = true := by decide +kernel
theorem rkX11_comes : rkOK 1 (mi 207).1.2.2.2.2.2.2.1 (mi 207).1.2.2.2.1 := Or.inr (Or.inl ⟨rfl, rfl, rfl⟩)
def calX11_comes : List Nat := [60]
theorem foX11_comes {l : Launch} {ρ : Type} (n : Nat) : fsOK l false mi calX11_comes (fsX11_comes n ρ) := ⟨(sndX7_find n), trivial⟩
theorem frX11_comes {ρ : Type} (n : Nat) : ∀ fn ∈ fsX11_comes n ρ, RoF fn := (List.forall_mem_cons.mpr ⟨(roX7_find n), (fun q9 h9 => by cases h9)⟩)
theorem ok_sdX11_comes : sdb (mi 207).1.2.1 (insOK mi (mi 207).1.1.cls (mi 207).1.2.2.1 (mi 207).1.2.2.2.2.1 (mi 207).1.2.2.2.2.2.1 calX11_comes false 1) sdX11_comes = true := by decide +kernel
theorem sMX11_comes {l : Launch} {h0 : Hp} {v : Int} (h8 : nOf h0 = 148) (n : Nat) (x1 : Int) (x2 : Int) (x3 : Int) (h : Hp) {r : Int} (H : MX11_comes n x1 x2 x3 h = some r) (hG : gV v r) : PAt l false (mi 207).1 h0 v h 0 [(0, 15, 0), (1, 0, x1), (2, 0, x2), (3, 0, x3)] [] h :=
  pat_ro ok_sdX11_comes rfl rkX11_comes h8 (foX11_comes n) (frX11_comes n) (fun v1 q => by
    cases q
    exact ⟨rfl, fun _ => hG⟩) (fun q9 h9 => by cases h9) ((eMX11_comes n x1 x2 x3 h).symm.trans H)
theorem sndX11_comes {ρ : Type} {l : Launch} (n : Nat) : SndF (ρ := ρ) l false (mi 207).1 (wX11_comes n) := by
    intro a h k r H ha ho hn hf
    have h8 := hf rfl
    obtain ⟨x0, x1, x2, x3, rfl⟩ := len4 (show a.length = 4 from ha)
    have u0 := uq15 hn (ho (15, x0) (List.mem_cons_self))
    subst u0
    replace H : bndp (MX11_comes n x1 x2 x3 h) (fun r => k r h) = some r := H
    obtain ⟨v2, H1, H2⟩ := bndp_some H
    exact ⟨v2, h, H2, met_mk (mok_base okX11_comes).1 (by decide +kernel) (Nat.le_of_ble_eq_true rfl) ho (sMX11_comes h8 n x1 x2 x3 h H1 rfl), fun q => by cases q⟩
theorem roX11_comes {ρ : Type} (n : Nat) : RoF (wX11_comes n : FN ρ) := fun a h k k2 hk => by
  unfold wX11_comes
  split
  · exact bndp_ro hk
  · rfl
/-! X12_comes -/
def sdX12_comes : SD := [(0, [(0, .aload_n 0, 1, [], 0), (1, .invokevirtual 520, 3, [0, 0, 1, 203, 1887, 16], 0), (4, .iconst 0, 1, [], 0), (5, .istore 4, 2, [], 0)]),
  (7, [(7, .iload 4, 2, [], 0), (9, .aload_n 0, 1, [], 0), (10, .getfield 514, 3, [12, 59, 0, 0, 1381, 0], 0), (13, .if_icmp .ge 65, 3, [], 0)]),
  (16, [(16, .iconst 3, 1, [], 0), (17, .aload_n 0, 1, [], 0), (18, .getfield 95, 3, [12, 57, 540, 1, 1379, 0], 28), (21, .iload 4, 2, [], 0), (23, .iaload, 1, [], 0), (24, .imul, 1, [], 0), (25, .istore 5, 2, [], 0), (27, .aload_n 0, 1, [], 0), (28, .getfield 37, 3, [12, 14, 1580, 1, 1336, 0], 9), (31, .iload 5, 2, [], 0), (33, .iaload, 1, [], 0), (34, .iload_n 1, 1, [], 0), (35, .if_icmp .ne 37, 3, [], 0)]),
  (38, [(38, .aload_n 0, 1, [], 0), (39, .getfield 37, 3, [12, 14, 1580, 1, 1336, 0], 9), (42, .iload 5, 2, [], 0), (44, .iconst 1, 1, [], 0), (45, .iadd, 1, [], 0), (46, .iaload, 1, [], 0), (47, .iload_n 2, 1, [], 0), (48, .if_icmp .ne 24, 3, [], 0)]),
  (51, [(51, .aload_n 0, 1, [], 0), (52, .getfield 37, 3, [12, 14, 1580, 1, 1336, 0], 9), (55, .iload 5, 2, [], 0), (57, .iconst 2, 1, [], 0), (58, .iadd, 1, [], 0), (59, .iaload, 1, [], 0), (60, .iload_n 3, 1, [], 0), (61, .if_icmp .ne 11, 3, [], 0)]),
  (64, [(64, .aload_n 0, 1, [], 0), (65, .getfield 98, 3, [12, 58, 540, 1, 1380, 0], 29), (68, .iload 4, 2, [], 0), (70, .iaload, 1, [], 0), (71, .ireturn, 1, [], 0)]),
  (72, [(72, .iinc 4 1, 3, [], 0), (75, .goto (-68), 3, [], 0)]),
  (78, [(78, .iconst 0, 1, [], 0), (79, .ireturn, 1, [], 0)])]
def sdX12_comes_7 : SD := [(7, [(7, .iload 4, 2, [], 0), (9, .aload_n 0, 1, [], 0), (10, .getfield 514, 3, [12, 59, 0, 0, 1381, 0], 0), (13, .if_icmp .ge 65, 3, [], 0)]),
  (16, [(16, .iconst 3, 1, [], 0), (17, .aload_n 0, 1, [], 0), (18, .getfield 95, 3, [12, 57, 540, 1, 1379, 0], 28), (21, .iload 4, 2, [], 0), (23, .iaload, 1, [], 0), (24, .imul, 1, [], 0), (25, .istore 5, 2, [], 0), (27, .aload_n 0, 1, [], 0), (28, .getfield 37, 3, [12, 14, 1580, 1, 1336, 0], 9), (31, .iload 5, 2, [], 0), (33, .iaload, 1, [], 0), (34, .iload_n 1, 1, [], 0), (35, .if_icmp .ne 37, 3, [], 0)]),
  (38, [(38, .aload_n 0, 1, [], 0), (39, .getfield 37, 3, [12, 14, 1580, 1, 1336, 0], 9), (42, .iload 5, 2, [], 0), (44, .iconst 1, 1, [], 0), (45, .iadd, 1, [], 0), (46, .iaload, 1, [], 0), (47, .iload_n 2, 1, [], 0), (48, .if_icmp .ne 24, 3, [], 0)]),
  (51, [(51, .aload_n 0, 1, [], 0), (52, .getfield 37, 3, [12, 14, 1580, 1, 1336, 0], 9), (55, .iload 5, 2, [], 0), (57, .iconst 2, 1, [], 0), (58, .iadd, 1, [], 0), (59, .iaload, 1, [], 0), (60, .iload_n 3, 1, [], 0), (61, .if_icmp .ne 11, 3, [], 0)]),
  (64, [(64, .aload_n 0, 1, [], 0), (65, .getfield 98, 3, [12, 58, 540, 1, 1380, 0], 29), (68, .iload 4, 2, [], 0), (70, .iaload, 1, [], 0), (71, .ireturn, 1, [], 0)]),
  (72, [(72, .iinc 4 1, 3, [], 0), (75, .goto (-68), 3, [], 0)]),
  (78, [(78, .iconst 0, 1, [], 0), (79, .ireturn, 1, [], 0)])]
def BX12_comes_7 (n : Nat) : Nat → Int → Int → Int → Int → Hp → Option (Int × Hp)
  | 0, _, _, _, _, _ => none
  | f + 1, x1, x2, x3, x4, h =>
    (if (h 113 59) ≤ x4 then
    (some (0, h))
    else
    (grd (0 ≤ x4 ∧ x4 < alen 540)
    (ltt (w32 (3 * (h 141 x4))) fun y1 =>
    (grd (0 ≤ y1 ∧ y1 < alen 1580)
    (if (h 122 y1) ≠ x1 then
    (ltt (w32 (x4 + 1)) fun y2 =>
    (BX12_comes_7 n f x1 x2 x3 y2 h))
    else
    (grd (0 ≤ (w32 (y1 + 1)) ∧ (w32 (y1 + 1)) < alen 1580)
    (if (h 122 (w32 (y1 + 1))) ≠ x2 then
    (ltt (w32 (x4 + 1)) fun y3 =>
    (BX12_comes_7 n f x1 x2 x3 y3 h))
    else
    (grd (0 ≤ (w32 (y1 + 2)) ∧ (w32 (y1 + 2)) < alen 1580)
    (if (h 122 (w32 (y1 + 2))) ≠ x3 then
    (ltt (w32 (x4 + 1)) fun y4 =>
    (BX12_comes_7 n f x1 x2 x3 y4 h))
    else
    (grd (0 ≤ x4 ∧ x4 < alen 540)
    (some ((h 142 x4), h))))))))))))
def LX12_comes_7 (n : Nat) (x1 x2 x3 x4 : Int) (h : Hp) : Option (Int × Hp) :=
(BX12_comes_7 n n x1 x2 x3 x4 h)
def MX12_comes (n : Nat) (x1 x2 x3 : Int) (h : Hp) : Option (Int × Hp) :=
(bndh (MX12_laysSpots n h) fun h1 =>
(ltt 0 fun y1 =>
(LX12_comes_7 n x1 x2 x3 y1 h1)))
def wX12_comes {ρ : Type} (n : Nat) : FN ρ := fun a h k => match a with
  | [_, x1, x2, x3] => bnd (MX12_comes n x1 x2 x3 h) (fun r h2 => k r h2)
  | _ => none
def fsX12_comes (n : Nat) (ρ : Type) : List (FN ρ) := [wX12_laysSpots n]
def fsX12_comes_7 (n : Nat) (ρ : Type) : List (FN ρ) := [nofn]
def KBX12_comes_7 (_ : Nat) (bk : Int → Int → Int → Int → Hp → Option (Int × Hp)) : CT (Int × Hp) := [(7, [(0, 16, (some 113)), (1, 0, none), (2, 0, none), (3, 0, none), (4, 0, none)], [], fun a c h => match a, c with
    | [x1, x2, x3, x4], [] => bk x1 x2 x3 x4 h
    | _, _ => none)]
set_option maxRecDepth 100000 in
theorem eBX12_comes_7 (n f : Nat) (x1 : Int) (x2 : Int) (x3 : Int) (x4 : Int) (h : Hp) : BX12_comes_7 n (f + 1) x1 x2 x3 x4 h =
  goAt false (kct (KBX12_comes_7 n (BX12_comes_7 n f))) (fun v h => some ((v, h))) (fsX12_comes_7 n _) sdX12_comes_7 1000 7 [(0, 16, 113), (1, 0, x1), (2, 0, x2), (3, 0, x3), (4, 0, x4)] [] h := rfl
def KMX12_comes (n : Nat) : CT (Int × Hp) := [(7, [(0, 16, (some 113)), (1, 0, none), (2, 0, none), (3, 0, none), (4, 0, none)], [], fun a c h => match a, c with
    | [x1, x2, x3, x4], [] => LX12_comes_7 n x1 x2 x3 x4 h
    | _, _ => none)]
set_option maxRecDepth 100000 in
theorem eMX12_comes (n : Nat) (x1 : Int) (x2 : Int) (x3 : Int) (h : Hp) : MX12_comes n x1 x2 x3 h =
  goAt false (kct (KMX12_comes n)) (fun v h => some ((v, h))) (fsX12_comes n _) sdX12_comes 1000 0 [(0, 16, 113), (1, 0, x1), (2, 0, x2), (3, 0, x3)] [] h := rfl
theorem okX12_comes : mokb (mi 208) = true := by decide +kernel
theorem rkX12_comes : rkOK 1 (mi 208).1.2.2.2.2.2.2.1 (mi 208).1.2.2.2.1 := Or.inr (Or.inl ⟨rfl, rfl, rfl⟩)
def calX12_comes : List Nat := [203]
theorem foX12_comes {l : Launch} {ρ : Type} (n : Nat) : fsOK l false mi calX12_comes (fsX12_comes n ρ) := ⟨(sndX12_laysSpots n), trivial⟩
theorem ok_sdX12_comes : sdb (mi 208).1.2.1 (insOK mi (mi 208).1.1.cls (mi 208).1.2.2.1 (mi 208).1.2.2.2.2.1 (mi 208).1.2.2.2.2.2.1 calX12_comes false 1) sdX12_comes = true := by decide +kernel
def calX12_comes_7 : List Nat := [0]
theorem foX12_comes_7 {l : Launch} {ρ : Type} (n : Nat) : fsOK l false mi calX12_comes_7 (fsX12_comes_7 n ρ) := ⟨snd_no, trivial⟩
theorem frX12_comes_7 {ρ : Type} (n : Nat) : ∀ fn ∈ fsX12_comes_7 n ρ, RoF fn := (List.forall_mem_cons.mpr ⟨ro_no, (fun q9 h9 => by cases h9)⟩)
theorem ok_sdX12_comes_7 : sdb (mi 208).1.2.1 (insOK mi (mi 208).1.1.cls (mi 208).1.2.2.1 (mi 208).1.2.2.2.2.1 (mi 208).1.2.2.2.2.2.1 calX12_comes_7 false 1) sdX12_comes_7 = true := by decide +kernel
theorem sBX12_comes_7 {l : Launch} {h0 h' : Hp} {v : Int} (h8 : nOf h0 = 148) (n : Nat) (h : Hp) : ∀ (f : Nat) (x1 : Int) (x2 : Int) (x3 : Int) (x4 : Int) {r : Int × Hp}, BX12_comes_7 n f x1 x2 x3 x4 h = some r → gWV v h' r → PAt l false (mi 208).1 h0 v h' 7 [(0, 16, 113), (1, 0, x1), (2, 0, x2), (3, 0, x3), (4, 0, x4)] [] h := by
  intro f
  induction f with
  | zero =>
    intro x1 x2 x3 x4 r H _
    have H2 : (none : Option (Int × Hp)) = some r := H
    cases H2
  | succ f ih =>
    intro x1 x2 x3 x4 r H hG
    exact pat_ro ok_sdX12_comes_7 rfl rkX12_comes h8 (foX12_comes_7 n) (frX12_comes_7 n) (fun v1 q => by
    cases q
    exact ⟨hG.1, fun _ => hG.2⟩) (List.forall_mem_cons.mpr ⟨(fun a c H => by
      dsimp only at H
      split at H
      · exact ih _ _ _ _ H hG
      · cases H), (fun q9 h9 => by cases h9)⟩) ((eBX12_comes_7 n f x1 x2 x3 x4 h).symm.trans H)
theorem sLX12_comes_7 {l : Launch} {h0 h' : Hp} {v : Int} (h8 : nOf h0 = 148) (n : Nat) (x1 : Int) (x2 : Int) (x3 : Int) (x4 : Int) (h : Hp) {r : Int × Hp} (H : LX12_comes_7 n x1 x2 x3 x4 h = some r) (hG : gWV v h' r) : PAt l false (mi 208).1 h0 v h' 7 [(0, 16, 113), (1, 0, x1), (2, 0, x2), (3, 0, x3), (4, 0, x4)] [] h :=
  sBX12_comes_7 h8 n h n x1 x2 x3 x4 H hG
theorem sMX12_comes {l : Launch} {h0 h' : Hp} {v : Int} (h8 : nOf h0 = 148) (n : Nat) (x1 : Int) (x2 : Int) (x3 : Int) (h : Hp) {r : Int × Hp} (H : MX12_comes n x1 x2 x3 h = some r) (hG : gWV v h' r) : PAt l false (mi 208).1 h0 v h' 0 [(0, 16, 113), (1, 0, x1), (2, 0, x2), (3, 0, x3)] [] h :=
  pat_w ok_sdX12_comes rkX12_comes h8 (foX12_comes n) (fun v1 h1 q => by
    cases q
    exact ⟨hG.1, fun _ => hG.2⟩) (List.forall_mem_cons.mpr ⟨(fun a c h H => by
      dsimp only at H
      split at H
      · exact sLX12_comes_7 h8 n _ _ _ _ _ H hG
      · cases H), (fun q9 h9 => by cases h9)⟩) ((eMX12_comes n x1 x2 x3 h).symm.trans H)
theorem sndX12_comes {ρ : Type} {l : Launch} (n : Nat) : SndF (ρ := ρ) l false (mi 208).1 (wX12_comes n) := by
    intro a h k r H ha ho hn hf
    have h8 := hf rfl
    obtain ⟨x0, x1, x2, x3, rfl⟩ := len4 (show a.length = 4 from ha)
    have u0 := uq16 hn (ho (16, x0) (List.mem_cons_self))
    subst u0
    replace H : bnd (MX12_comes n x1 x2 x3 h) (fun r h2 => k r h2) = some r := H
    obtain ⟨v2, h2, H1, H2⟩ := bnd_some H
    exact ⟨v2, h2, H2, met_mk (mok_base okX12_comes).1 (by decide +kernel) (Nat.le_of_ble_eq_true rfl) ho (sMX12_comes h8 n x1 x2 x3 h H1 ⟨rfl, rfl⟩), fun q => by cases q⟩
/-! X11_twice -/
def sdX11_twice : SD := [(0, [(0, .iload_n 1, 1, [], 0), (1, .iconst (-1), 1, [], 0), (2, .if_icmp .ne 11, 3, [], 0)]),
  (5, [(5, .aload_n 0, 1, [], 0), (6, .getfield 40, 3, [11, 4, 11, 1, 694, 0], 39), (9, .getfield 283, 3, [7, 6, 0, 0, 374, 0], 0), (12, .ireturn, 1, [], 0)]),
  (13, [(13, .aload_n 0, 1, [], 0), (14, .getfield 10, 3, [11, 2, 14, 0, 692, 0], 0), (17, .iload_n 1, 1, [], 0), (18, .invokevirtual 142, 3, [1, 0, 1, 43, 984, 0, 14], 0), (21, .ifCond .eq 15, 3, [], 0)]),
  (24, [(24, .aload_n 0, 1, [], 0), (25, .getfield 40, 3, [11, 4, 11, 1, 694, 0], 39), (28, .getfield 286, 3, [7, 5, 532, 1, 372, 0], 7), (31, .iload_n 1, 1, [], 0), (32, .iaload, 1, [], 0), (33, .goto 4, 3, [], 0)]),
  (36, [(36, .iconst (-1), 1, [], 0)]),
  (37, [(37, .ireturn, 1, [], 0)])]
def MX11_twice (x1 : Int) (h : Hp) : Option (Int) :=
(if x1 ≠ (-1) then
(bndp (MX10_has (h 0 2) x1 h) fun r1 =>
(if r1 = 0 then
(some (-1))
else
(grd (0 ≤ x1 ∧ x1 < alen 532)
(some (h 46 x1)))))
else
(some (h 39 6)))
def wX11_twice {ρ : Type} : FN ρ := fun a h k => match a with
  | [_, x1] => bndp (MX11_twice x1 h) (fun r => k r h)
  | _ => none
def fsX11_twice (ρ : Type) : List (FN ρ) := [wX10_has]
def KMX11_twice  : CT (Int) := []
set_option maxRecDepth 100000 in
theorem eMX11_twice (x1 : Int) (h : Hp) : MX11_twice x1 h =
  goAt false (kct (KMX11_twice)) (fun v _ => some (v)) (fsX11_twice _) sdX11_twice 1000 0 [(0, 15, 0), (1, 0, x1)] [] h := rfl
theorem okX11_twice : mokb (mi 209) = true := by decide +kernel
theorem rkX11_twice : rkOK 1 (mi 209).1.2.2.2.2.2.2.1 (mi 209).1.2.2.2.1 := Or.inr (Or.inl ⟨rfl, rfl, rfl⟩)
def calX11_twice : List Nat := [43]
theorem foX11_twice {l : Launch} {ρ : Type} : fsOK l false mi calX11_twice (fsX11_twice ρ) := ⟨sndX10_has, trivial⟩
theorem frX11_twice {ρ : Type} : ∀ fn ∈ fsX11_twice ρ, RoF fn := (List.forall_mem_cons.mpr ⟨roX10_has, (fun q9 h9 => by cases h9)⟩)
theorem ok_sdX11_twice : sdb (mi 209).1.2.1 (insOK mi (mi 209).1.1.cls (mi 209).1.2.2.1 (mi 209).1.2.2.2.2.1 (mi 209).1.2.2.2.2.2.1 calX11_twice false 1) sdX11_twice = true := by decide +kernel
theorem sMX11_twice {l : Launch} {h0 : Hp} {v : Int} (h8 : nOf h0 = 148)  (x1 : Int) (h : Hp) {r : Int} (H : MX11_twice x1 h = some r) (hG : gV v r) : PAt l false (mi 209).1 h0 v h 0 [(0, 15, 0), (1, 0, x1)] [] h :=
  pat_ro ok_sdX11_twice rfl rkX11_twice h8 (foX11_twice) (frX11_twice) (fun v1 q => by
    cases q
    exact ⟨rfl, fun _ => hG⟩) (fun q9 h9 => by cases h9) ((eMX11_twice x1 h).symm.trans H)
theorem sndX11_twice {ρ : Type} {l : Launch} : SndF (ρ := ρ) l false (mi 209).1 (wX11_twice) := by
    intro a h k r H ha ho hn hf
    have h8 := hf rfl
    obtain ⟨x0, x1, rfl⟩ := len2 (show a.length = 2 from ha)
    have u0 := uq15 hn (ho (15, x0) (List.mem_cons_self))
    subst u0
    replace H : bndp (MX11_twice x1 h) (fun r => k r h) = some r := H
    obtain ⟨v2, H1, H2⟩ := bndp_some H
    exact ⟨v2, h, H2, met_mk (mok_base okX11_twice).1 (by decide +kernel) (Nat.le_of_ble_eq_true rfl) ho (sMX11_twice h8 x1 h H1 rfl), fun q => by cases q⟩
theorem roX11_twice {ρ : Type} : RoF (wX11_twice : FN ρ) := fun a h k k2 hk => by
  unfold wX11_twice
  split
  · exact bndp_ro hk
  · rfl
/-! X12_isLike -/
def sdX12_isLike : SD := [(0, [(0, .aload_n 0, 1, [], 0), (1, .iload_n 1, 1, [], 0), (2, .iload_n 2, 1, [], 0), (3, .invokevirtual 517, 3, [1, 0, 1, 202, 1891, 0, 0, 16], 0), (6, .ifCond .eq 16, 3, [], 0)]),
  (9, [(9, .aload_n 0, 1, [], 0), (10, .iload_n 1, 1, [], 0), (11, .iconst 1, 1, [], 0), (12, .iadd, 1, [], 0), (13, .iload_n 2, 1, [], 0), (14, .iconst 1, 1, [], 0), (15, .iadd, 1, [], 0), (16, .invokevirtual 517, 3, [1, 0, 1, 202, 1891, 0, 0, 16], 0), (19, .ifCond .ne 25, 3, [], 0)]),
  (22, [(22, .aload_n 0, 1, [], 0), (23, .iload_n 1, 1, [], 0), (24, .iload_n 2, 1, [], 0), (25, .iconst 1, 1, [], 0), (26, .iadd, 1, [], 0), (27, .invokevirtual 517, 3, [1, 0, 1, 202, 1891, 0, 0, 16], 0), (30, .ifCond .eq 18, 3, [], 0)]),
  (33, [(33, .aload_n 0, 1, [], 0), (34, .iload_n 1, 1, [], 0), (35, .iconst 1, 1, [], 0), (36, .iadd, 1, [], 0), (37, .iload_n 2, 1, [], 0), (38, .invokevirtual 517, 3, [1, 0, 1, 202, 1891, 0, 0, 16], 0), (41, .ifCond .eq 7, 3, [], 0)]),
  (44, [(44, .iconst 1, 1, [], 0), (45, .goto 4, 3, [], 0)]),
  (48, [(48, .iconst 0, 1, [], 0)]),
  (49, [(49, .ireturn, 1, [1], 0)])]
def JX12_isLike_22 (x1 x2 : Int) (h : Hp) : Option (Int) :=
(bndp (MX12_isSame x1 (w32 (x2 + 1)) h) fun r1 =>
(if r1 = 0 then
(some 0)
else
(bndp (MX12_isSame (w32 (x1 + 1)) x2 h) fun r2 =>
(if r2 = 0 then
(some 0)
else
(some 1)))))
def MX12_isLike (x1 x2 : Int) (h : Hp) : Option (Int) :=
(bndp (MX12_isSame x1 x2 h) fun r1 =>
(if r1 = 0 then
(JX12_isLike_22 x1 x2 h)
else
(bndp (MX12_isSame (w32 (x1 + 1)) (w32 (x2 + 1)) h) fun r2 =>
(if r2 ≠ 0 then
(some 1)
else
(JX12_isLike_22 x1 x2 h)))))
def wX12_isLike {ρ : Type} : FN ρ := fun a h k => match a with
  | [_, x1, x2] => bndp (MX12_isLike x1 x2 h) (fun r => k r h)
  | _ => none
def fsX12_isLike (ρ : Type) : List (FN ρ) := [wX12_isSame]
def KJX12_isLike_22  : CT (Int) := []
set_option maxRecDepth 100000 in
theorem eJX12_isLike_22 (x1 : Int) (x2 : Int) (h : Hp) : JX12_isLike_22 x1 x2 h =
  goAt false (kct (KJX12_isLike_22)) (fun v _ => some (v)) (fsX12_isLike _) sdX12_isLike 1000 22 [(0, 16, 113), (1, 0, x1), (2, 0, x2)] [] h := rfl
def KMX12_isLike  : CT (Int) := [(22, [(0, 16, (some 113)), (1, 0, none), (2, 0, none)], [], fun a c h => match a, c with
    | [x1, x2], [] => JX12_isLike_22 x1 x2 h
    | _, _ => none)]
set_option maxRecDepth 100000 in
theorem eMX12_isLike (x1 : Int) (x2 : Int) (h : Hp) : MX12_isLike x1 x2 h =
  goAt false (kct (KMX12_isLike)) (fun v _ => some (v)) (fsX12_isLike _) sdX12_isLike 1000 0 [(0, 16, 113), (1, 0, x1), (2, 0, x2)] [] h := rfl
theorem okX12_isLike : mokb (mi 210) = true := by decide +kernel
theorem rkX12_isLike : rkOK 4 (mi 210).1.2.2.2.2.2.2.1 (mi 210).1.2.2.2.1 := Or.inr (Or.inr (Or.inl ⟨rfl, rfl, rfl⟩))
def calX12_isLike : List Nat := [202]
theorem foX12_isLike {l : Launch} {ρ : Type} : fsOK l false mi calX12_isLike (fsX12_isLike ρ) := ⟨sndX12_isSame, trivial⟩
theorem frX12_isLike {ρ : Type} : ∀ fn ∈ fsX12_isLike ρ, RoF fn := (List.forall_mem_cons.mpr ⟨roX12_isSame, (fun q9 h9 => by cases h9)⟩)
theorem ok_sdX12_isLike : sdb (mi 210).1.2.1 (insOK mi (mi 210).1.1.cls (mi 210).1.2.2.1 (mi 210).1.2.2.2.2.1 (mi 210).1.2.2.2.2.2.1 calX12_isLike false 4) sdX12_isLike = true := by decide +kernel
theorem sJX12_isLike_22 {l : Launch} {h0 : Hp} {v : Int} (h8 : nOf h0 = 148)  (x1 : Int) (x2 : Int) (h : Hp) {r : Int} (H : JX12_isLike_22 x1 x2 h = some r) (hG : gV v r) : PAt l false (mi 210).1 h0 v h 22 [(0, 16, 113), (1, 0, x1), (2, 0, x2)] [] h :=
  pat_ro ok_sdX12_isLike rfl rkX12_isLike h8 (foX12_isLike) (frX12_isLike) (fun v1 q => by
    cases q
    exact ⟨rfl, fun _ => hG⟩) (fun q9 h9 => by cases h9) ((eJX12_isLike_22 x1 x2 h).symm.trans H)
theorem sMX12_isLike {l : Launch} {h0 : Hp} {v : Int} (h8 : nOf h0 = 148)  (x1 : Int) (x2 : Int) (h : Hp) {r : Int} (H : MX12_isLike x1 x2 h = some r) (hG : gV v r) : PAt l false (mi 210).1 h0 v h 0 [(0, 16, 113), (1, 0, x1), (2, 0, x2)] [] h :=
  pat_ro ok_sdX12_isLike rfl rkX12_isLike h8 (foX12_isLike) (frX12_isLike) (fun v1 q => by
    cases q
    exact ⟨rfl, fun _ => hG⟩) (List.forall_mem_cons.mpr ⟨(fun a c H => by
      dsimp only at H
      split at H
      · exact sJX12_isLike_22 h8 _ _ _ H hG
      · cases H), (fun q9 h9 => by cases h9)⟩) ((eMX12_isLike x1 x2 h).symm.trans H)
theorem sndX12_isLike {ρ : Type} {l : Launch} : SndF (ρ := ρ) l false (mi 210).1 (wX12_isLike) := by
    intro a h k r H ha ho hn hf
    have h8 := hf rfl
    obtain ⟨x0, x1, x2, rfl⟩ := len3 (show a.length = 3 from ha)
    have u0 := uq16 hn (ho (16, x0) (List.mem_cons_self))
    subst u0
    replace H : bndp (MX12_isLike x1 x2 h) (fun r => k r h) = some r := H
    obtain ⟨v2, H1, H2⟩ := bndp_some H
    exact ⟨v2, h, H2, met_mk (mok_base okX12_isLike).1 (by decide +kernel) (Nat.le_of_ble_eq_true rfl) ho (sMX12_isLike h8 x1 x2 h H1 rfl), fun q => by cases q⟩
theorem roX12_isLike {ρ : Type} : RoF (wX12_isLike : FN ρ) := fun a h k k2 hk => by
  unfold wX12_isLike
  split
  · exact bndp_ro hk
  · rfl
/-! X12_firstLike -/
def sdX12_firstLike : SD := [(0, [(0, .iconst 0, 1, [], 0), (1, .istore_n 2, 1, [], 0)]),
  (2, [(2, .aload_n 0, 1, [], 0), (3, .iload_n 2, 1, [], 0), (4, .iload_n 1, 1, [], 0), (5, .invokevirtual 523, 3, [1, 0, 1, 210, 1920, 0, 0, 16], 0), (8, .ifCond .ne 9, 3, [], 0)]),
  (11, [(11, .iinc 2 1, 3, [], 0), (14, .goto (-12), 3, [], 0)]),
  (17, [(17, .iload_n 2, 1, [], 0), (18, .ireturn, 1, [], 0)])]
def BX12_firstLike_2 (n : Nat) : Nat → Int → Int → Hp → Option (Int)
  | 0, _, _, _ => none
  | f + 1, x1, x2, h =>
    (bndp (MX12_isLike x2 x1 h) fun r1 =>
    (if r1 ≠ 0 then
    (some x2)
    else
    (ltt (w32 (x2 + 1)) fun y1 =>
    (BX12_firstLike_2 n f x1 y1 h))))
def LX12_firstLike_2 (n : Nat) (x1 x2 : Int) (h : Hp) : Option (Int) :=
(BX12_firstLike_2 n n x1 x2 h)
def MX12_firstLike (n : Nat) (x1 : Int) (h : Hp) : Option (Int) :=
(ltt 0 fun y1 =>
(LX12_firstLike_2 n x1 y1 h))
def wX12_firstLike {ρ : Type} (n : Nat) : FN ρ := fun a h k => match a with
  | [_, x1] => bndp (MX12_firstLike n x1 h) (fun r => k r h)
  | _ => none
def fsX12_firstLike (n : Nat) (ρ : Type) : List (FN ρ) := [wX12_isLike]
def KBX12_firstLike_2 (_ : Nat) (bk : Int → Int → Hp → Option (Int)) : CT (Int) := [(2, [(0, 16, (some 113)), (1, 0, none), (2, 0, none)], [], fun a c h => match a, c with
    | [x1, x2], [] => bk x1 x2 h
    | _, _ => none)]
set_option maxRecDepth 100000 in
theorem eBX12_firstLike_2 (n f : Nat) (x1 : Int) (x2 : Int) (h : Hp) : BX12_firstLike_2 n (f + 1) x1 x2 h =
  goAt false (kct (KBX12_firstLike_2 n (BX12_firstLike_2 n f))) (fun v _ => some (v)) (fsX12_firstLike n _) sdX12_firstLike 1000 2 [(0, 16, 113), (1, 0, x1), (2, 0, x2)] [] h := rfl
def KMX12_firstLike (n : Nat) : CT (Int) := [(2, [(0, 16, (some 113)), (1, 0, none), (2, 0, none)], [], fun a c h => match a, c with
    | [x1, x2], [] => LX12_firstLike_2 n x1 x2 h
    | _, _ => none)]
set_option maxRecDepth 100000 in
theorem eMX12_firstLike (n : Nat) (x1 : Int) (h : Hp) : MX12_firstLike n x1 h =
  goAt false (kct (KMX12_firstLike n)) (fun v _ => some (v)) (fsX12_firstLike n _) sdX12_firstLike 1000 0 [(0, 16, 113), (1, 0, x1)] [] h := rfl
theorem okX12_firstLike : mokb (mi 211) = true := by decide +kernel
theorem rkX12_firstLike : rkOK 1 (mi 211).1.2.2.2.2.2.2.1 (mi 211).1.2.2.2.1 := Or.inr (Or.inl ⟨rfl, rfl, rfl⟩)
def calX12_firstLike : List Nat := [210]
theorem foX12_firstLike {l : Launch} {ρ : Type} (n : Nat) : fsOK l false mi calX12_firstLike (fsX12_firstLike n ρ) := ⟨sndX12_isLike, trivial⟩
theorem frX12_firstLike {ρ : Type} (n : Nat) : ∀ fn ∈ fsX12_firstLike n ρ, RoF fn := (List.forall_mem_cons.mpr ⟨roX12_isLike, (fun q9 h9 => by cases h9)⟩)
theorem ok_sdX12_firstLike : sdb (mi 211).1.2.1 (insOK mi (mi 211).1.1.cls (mi 211).1.2.2.1 (mi 211).1.2.2.2.2.1 (mi 211).1.2.2.2.2.2.1 calX12_firstLike false 1) sdX12_firstLike = true := by decide +kernel
theorem sBX12_firstLike_2 {l : Launch} {h0 : Hp} {v : Int} (h8 : nOf h0 = 148) (n : Nat) (h : Hp) : ∀ (f : Nat) (x1 : Int) (x2 : Int) {r : Int}, BX12_firstLike_2 n f x1 x2 h = some r → gV v r → PAt l false (mi 211).1 h0 v h 2 [(0, 16, 113), (1, 0, x1), (2, 0, x2)] [] h := by
  intro f
  induction f with
  | zero =>
    intro x1 x2 r H _
    have H2 : (none : Option (Int)) = some r := H
    cases H2
  | succ f ih =>
    intro x1 x2 r H hG
    exact pat_ro ok_sdX12_firstLike rfl rkX12_firstLike h8 (foX12_firstLike n) (frX12_firstLike n) (fun v1 q => by
    cases q
    exact ⟨rfl, fun _ => hG⟩) (List.forall_mem_cons.mpr ⟨(fun a c H => by
      dsimp only at H
      split at H
      · exact ih _ _ H hG
      · cases H), (fun q9 h9 => by cases h9)⟩) ((eBX12_firstLike_2 n f x1 x2 h).symm.trans H)
theorem sLX12_firstLike_2 {l : Launch} {h0 : Hp} {v : Int} (h8 : nOf h0 = 148) (n : Nat) (x1 : Int) (x2 : Int) (h : Hp) {r : Int} (H : LX12_firstLike_2 n x1 x2 h = some r) (hG : gV v r) : PAt l false (mi 211).1 h0 v h 2 [(0, 16, 113), (1, 0, x1), (2, 0, x2)] [] h :=
  sBX12_firstLike_2 h8 n h n x1 x2 H hG
theorem sMX12_firstLike {l : Launch} {h0 : Hp} {v : Int} (h8 : nOf h0 = 148) (n : Nat) (x1 : Int) (h : Hp) {r : Int} (H : MX12_firstLike n x1 h = some r) (hG : gV v r) : PAt l false (mi 211).1 h0 v h 0 [(0, 16, 113), (1, 0, x1)] [] h :=
  pat_ro ok_sdX12_firstLike rfl rkX12_firstLike h8 (foX12_firstLike n) (frX12_firstLike n) (fun v1 q => by
    cases q
    exact ⟨rfl, fun _ => hG⟩) (List.forall_mem_cons.mpr ⟨(fun a c H => by
      dsimp only at H
      split at H
      · exact sLX12_firstLike_2 h8 n _ _ _ H hG
      · cases H), (fun q9 h9 => by cases h9)⟩) ((eMX12_firstLike n x1 h).symm.trans H)
theorem sndX12_firstLike {ρ : Type} {l : Launch} (n : Nat) : SndF (ρ := ρ) l false (mi 211).1 (wX12_firstLike n) := by
    intro a h k r H ha ho hn hf
    have h8 := hf rfl
    obtain ⟨x0, x1, rfl⟩ := len2 (show a.length = 2 from ha)
    have u0 := uq16 hn (ho (16, x0) (List.mem_cons_self))
    subst u0
    replace H : bndp (MX12_firstLike n x1 h) (fun r => k r h) = some r := H
    obtain ⟨v2, H1, H2⟩ := bndp_some H
    exact ⟨v2, h, H2, met_mk (mok_base okX12_firstLike).1 (by decide +kernel) (Nat.le_of_ble_eq_true rfl) ho (sMX12_firstLike h8 n x1 h H1 rfl), fun q => by cases q⟩
theorem roX12_firstLike {ρ : Type} (n : Nat) : RoF (wX12_firstLike n : FN ρ) := fun a h k k2 hk => by
  unfold wX12_firstLike
  split
  · exact bndp_ro hk
  · rfl
/-! X12_twice -/
def sdX12_twice : SD := [(0, [(0, .iload_n 1, 1, [], 0), (1, .i2l, 1, [], 0), (2, .ldc2_w 526, 3, [1, 1915], (-1)), (5, .aload_n 0, 1, [], 0), (6, .getfield 140, 3, [12, 6, 0, 0, 1328, 0], 0), (9, .iconst 1, 1, [], 0), (10, .isub, 1, [], 0), (11, .i2l, 1, [], 0), (12, .invokestatic 217, 3, [1, 0, 3, 81, 1561, 1, 1, 1], 0), (15, .ifCond .ne 5, 3, [], 0)]),
  (18, [(18, .iconst (-1), 1, [], 0), (19, .ireturn, 1, [], 0)]),
  (20, [(20, .iload_n 1, 1, [], 0), (21, .iconst (-1), 1, [], 0), (22, .if_icmp .eq 9, 3, [], 0)]),
  (25, [(25, .aload_n 0, 1, [], 0), (26, .iload_n 1, 1, [], 0), (27, .invokevirtual 528, 3, [1, 1, 1, 211, 1916, 0, 16], 0), (30, .ireturn, 1, [], 0)]),
  (31, [(31, .iconst 0, 1, [], 0), (32, .istore_n 2, 1, [], 0), (33, .iconst 0, 1, [], 0), (34, .istore_n 3, 1, [], 0)]),
  (35, [(35, .iload_n 3, 1, [], 0), (36, .aload_n 0, 1, [], 0), (37, .getfield 140, 3, [12, 6, 0, 0, 1328, 0], 0), (40, .if_icmp .ge 29, 3, [], 0)]),
  (43, [(43, .iload_n 2, 1, [], 0), (44, .aload_n 0, 1, [], 0), (45, .iload_n 3, 1, [], 0), (46, .invokevirtual 528, 3, [1, 1, 1, 211, 1916, 0, 16], 0), (49, .iload_n 3, 1, [], 0), (50, .if_icmp .eq 7, 3, [], 0)]),
  (53, [(53, .iconst 1, 1, [], 0), (54, .goto 4, 3, [], 0)]),
  (57, [(57, .iconst 0, 1, [], 0)]),
  (58, [(58, .invokestatic 446, 3, [1, 2, 3, 141, 1727, 0], 0), (61, .iadd, 1, [], 0), (62, .istore_n 2, 1, [], 0), (63, .iinc 3 1, 3, [], 0), (66, .goto (-31), 3, [], 0)]),
  (69, [(69, .iload_n 2, 1, [], 0), (70, .ireturn, 1, [], 0)])]
def JX12_twice_58 (n : Nat) (bk : Int → Int → Hp → Option (Int)) (x3 z0 z1 : Int) (h : Hp) : Option (Int) :=
(bndp (MX12_truth z1) fun r1 =>
(ltt (w32 (z0 + r1)) fun y1 =>
(ltt (w32 (x3 + 1)) fun y2 =>
(bk y1 y2 h))))
def BX12_twice_35 (n : Nat) : Nat → Int → Int → Hp → Option (Int)
  | 0, _, _, _ => none
  | f + 1, x2, x3, h =>
    (if (h 113 6) ≤ x3 then
    (some x2)
    else
    (bndp (MX12_firstLike n x3 h) fun r1 =>
    (if r1 = x3 then
    (JX12_twice_58 n (BX12_twice_35 n f) x3 x2 0 h)
    else
    (JX12_twice_58 n (BX12_twice_35 n f) x3 x2 1 h))))
def LX12_twice_35 (n : Nat) (x2 x3 : Int) (h : Hp) : Option (Int) :=
(BX12_twice_35 n n x2 x3 h)
def MX12_twice (n : Nat) (x1 : Int) (h : Hp) : Option (Int) :=
(bndp (MX12_in x1 (-1) (w32 ((h 113 6) - 1))) fun r1 =>
(if r1 ≠ 0 then
(if x1 = (-1) then
(ltt 0 fun y1 =>
(ltt 0 fun y2 =>
(LX12_twice_35 n y1 y2 h)))
else
(bndp (MX12_firstLike n x1 h) fun r2 =>
(some r2)))
else
(some (-1))))
def wX12_twice {ρ : Type} (n : Nat) : FN ρ := fun a h k => match a with
  | [_, x1] => bndp (MX12_twice n x1 h) (fun r => k r h)
  | _ => none
def fsX12_twice (n : Nat) (ρ : Type) : List (FN ρ) := [wX12_in, wX12_firstLike n, wX12_truth]
def KJX12_twice_58 (_ : Nat) (bk : Int → Int → Hp → Option (Int)) : CT (Int) := [(35, [(0, 16, (some 113)), (2, 0, none), (3, 0, none)], [], fun a c h => match a, c with
    | [x2, x3], [] => bk x2 x3 h
    | _, _ => none)]
set_option maxRecDepth 100000 in
theorem eJX12_twice_58 (n : Nat) (bk : Int → Int → Hp → Option (Int)) (x3 : Int) (z0 : Int) (z1 : Int) (h : Hp) : JX12_twice_58 n bk x3 z0 z1 h =
  goAt false (kct (KJX12_twice_58 n bk)) (fun v _ => some (v)) (fsX12_twice n _) sdX12_twice 1000 58 [(0, 16, 113), (3, 0, x3)] [(0, z1), (0, z0)] h := rfl
def KBX12_twice_35 (n : Nat) (bk : Int → Int → Hp → Option (Int)) : CT (Int) := [(35, [(0, 16, (some 113)), (2, 0, none), (3, 0, none)], [], fun a c h => match a, c with
    | [x2, x3], [] => bk x2 x3 h
    | _, _ => none),
  (58, [(0, 16, (some 113)), (3, 0, none)], [(0, none), (0, none)], fun a c h => match a, c with
    | [x3], [z1, z0] => JX12_twice_58 n bk x3 z0 z1 h
    | _, _ => none)]
set_option maxRecDepth 100000 in
theorem eBX12_twice_35 (n f : Nat) (x2 : Int) (x3 : Int) (h : Hp) : BX12_twice_35 n (f + 1) x2 x3 h =
  goAt false (kct (KBX12_twice_35 n (BX12_twice_35 n f))) (fun v _ => some (v)) (fsX12_twice n _) sdX12_twice 1000 35 [(0, 16, 113), (2, 0, x2), (3, 0, x3)] [] h := rfl
def KMX12_twice (n : Nat) : CT (Int) := [(35, [(0, 16, (some 113)), (2, 0, none), (3, 0, none)], [], fun a c h => match a, c with
    | [x2, x3], [] => LX12_twice_35 n x2 x3 h
    | _, _ => none)]
set_option maxRecDepth 100000 in
theorem eMX12_twice (n : Nat) (x1 : Int) (h : Hp) : MX12_twice n x1 h =
  goAt false (kct (KMX12_twice n)) (fun v _ => some (v)) (fsX12_twice n _) sdX12_twice 1000 0 [(0, 16, 113), (1, 0, x1)] [] h := rfl
theorem okX12_twice : mokb (mi 212) = true := by decide +kernel
theorem rkX12_twice : rkOK 1 (mi 212).1.2.2.2.2.2.2.1 (mi 212).1.2.2.2.1 := Or.inr (Or.inl ⟨rfl, rfl, rfl⟩)
def calX12_twice : List Nat := [81, 211, 141]
theorem foX12_twice {l : Launch} {ρ : Type} (n : Nat) : fsOK l false mi calX12_twice (fsX12_twice n ρ) := ⟨sndX12_in, ⟨(sndX12_firstLike n), ⟨sndX12_truth, trivial⟩⟩⟩
theorem frX12_twice {ρ : Type} (n : Nat) : ∀ fn ∈ fsX12_twice n ρ, RoF fn := (List.forall_mem_cons.mpr ⟨roX12_in, (List.forall_mem_cons.mpr ⟨(roX12_firstLike n), (List.forall_mem_cons.mpr ⟨roX12_truth, (fun q9 h9 => by cases h9)⟩)⟩)⟩)
theorem ok_sdX12_twice : sdb (mi 212).1.2.1 (insOK mi (mi 212).1.1.cls (mi 212).1.2.2.1 (mi 212).1.2.2.2.2.1 (mi 212).1.2.2.2.2.2.1 calX12_twice false 1) sdX12_twice = true := by decide +kernel
theorem sJX12_twice_58 {l : Launch} {h0 : Hp} {v : Int} (h8 : nOf h0 = 148) (n : Nat) (bk : Int → Int → Hp → Option (Int)) {h : Hp} (hbk : ∀ (x2 : Int) (x3 : Int) (r : Int), bk x2 x3 h = some r → gV v r → PAt l false (mi 212).1 h0 v h 35 [(0, 16, 113), (2, 0, x2), (3, 0, x3)] [] h) (x3 : Int) (z0 : Int) (z1 : Int) (_ : Hp) {r : Int} (H : JX12_twice_58 n bk x3 z0 z1 h = some r) (hG : gV v r) : PAt l false (mi 212).1 h0 v h 58 [(0, 16, 113), (3, 0, x3)] [(0, z1), (0, z0)] h :=
  pat_ro ok_sdX12_twice rfl rkX12_twice h8 (foX12_twice n) (frX12_twice n) (fun v1 q => by
    cases q
    exact ⟨rfl, fun _ => hG⟩) (List.forall_mem_cons.mpr ⟨(fun a c H => by
      dsimp only at H
      split at H
      · exact hbk _ _ _ H hG
      · cases H), (fun q9 h9 => by cases h9)⟩) ((eJX12_twice_58 n bk x3 z0 z1 h).symm.trans H)
theorem sBX12_twice_35 {l : Launch} {h0 : Hp} {v : Int} (h8 : nOf h0 = 148) (n : Nat) (h : Hp) : ∀ (f : Nat) (x2 : Int) (x3 : Int) {r : Int}, BX12_twice_35 n f x2 x3 h = some r → gV v r → PAt l false (mi 212).1 h0 v h 35 [(0, 16, 113), (2, 0, x2), (3, 0, x3)] [] h := by
  intro f
  induction f with
  | zero =>
    intro x2 x3 r H _
    have H2 : (none : Option (Int)) = some r := H
    cases H2
  | succ f ih =>
    intro x2 x3 r H hG
    have ihk : ∀ (x2 : Int) (x3 : Int) (r : Int), BX12_twice_35 n f x2 x3 h = some r → gV v r → PAt l false (mi 212).1 h0 v h 35 [(0, 16, 113), (2, 0, x2), (3, 0, x3)] [] h := fun x2 x3 r9 a9 b9 => ih x2 x3 a9 b9
    exact pat_ro ok_sdX12_twice rfl rkX12_twice h8 (foX12_twice n) (frX12_twice n) (fun v1 q => by
    cases q
    exact ⟨rfl, fun _ => hG⟩) (List.forall_mem_cons.mpr ⟨(fun a c H => by
      dsimp only at H
      split at H
      · exact ih _ _ H hG
      · cases H), (List.forall_mem_cons.mpr ⟨(fun a c H => by
      dsimp only at H
      split at H
      · exact sJX12_twice_58 h8 n (BX12_twice_35 n f) ihk _ _ _ _ H hG
      · cases H), (fun q9 h9 => by cases h9)⟩)⟩) ((eBX12_twice_35 n f x2 x3 h).symm.trans H)
theorem sLX12_twice_35 {l : Launch} {h0 : Hp} {v : Int} (h8 : nOf h0 = 148) (n : Nat) (x2 : Int) (x3 : Int) (h : Hp) {r : Int} (H : LX12_twice_35 n x2 x3 h = some r) (hG : gV v r) : PAt l false (mi 212).1 h0 v h 35 [(0, 16, 113), (2, 0, x2), (3, 0, x3)] [] h :=
  sBX12_twice_35 h8 n h n x2 x3 H hG
theorem sMX12_twice {l : Launch} {h0 : Hp} {v : Int} (h8 : nOf h0 = 148) (n : Nat) (x1 : Int) (h : Hp) {r : Int} (H : MX12_twice n x1 h = some r) (hG : gV v r) : PAt l false (mi 212).1 h0 v h 0 [(0, 16, 113), (1, 0, x1)] [] h :=
  pat_ro ok_sdX12_twice rfl rkX12_twice h8 (foX12_twice n) (frX12_twice n) (fun v1 q => by
    cases q
    exact ⟨rfl, fun _ => hG⟩) (List.forall_mem_cons.mpr ⟨(fun a c H => by
      dsimp only at H
      split at H
      · exact sLX12_twice_35 h8 n _ _ _ H hG
      · cases H), (fun q9 h9 => by cases h9)⟩) ((eMX12_twice n x1 h).symm.trans H)
theorem sndX12_twice {ρ : Type} {l : Launch} (n : Nat) : SndF (ρ := ρ) l false (mi 212).1 (wX12_twice n) := by
    intro a h k r H ha ho hn hf
    have h8 := hf rfl
    obtain ⟨x0, x1, rfl⟩ := len2 (show a.length = 2 from ha)
    have u0 := uq16 hn (ho (16, x0) (List.mem_cons_self))
    subst u0
    replace H : bndp (MX12_twice n x1 h) (fun r => k r h) = some r := H
    obtain ⟨v2, H1, H2⟩ := bndp_some H
    exact ⟨v2, h, H2, met_mk (mok_base okX12_twice).1 (by decide +kernel) (Nat.le_of_ble_eq_true rfl) ho (sMX12_twice h8 n x1 h H1 rfl), fun q => by cases q⟩
theorem roX12_twice {ρ : Type} (n : Nat) : RoF (wX12_twice n : FN ρ) := fun a h k k2 hk => by
  unfold wX12_twice
  split
  · exact bndp_ro hk
  · rfl
/-! X1_isAtLimit -/
def sdX1_isAtLimit : SD := [(0, [(0, .aload_n 0, 1, [], 0), (1, .getfield 24, 3, [1, 0, 8, 1, 464, 0], 2), (4, .getfield 48, 3, [4, 0, 14, 0, 431, 0], 0), (7, .aload_n 1, 1, [], 0), (8, .getfield 57, 3, [8, 3, 0, 0, 491, 0], 0), (11, .invokevirtual 60, 3, [1, 0, 1, 43, 1040, 0, 14], 0), (14, .ifCond .eq 26, 3, [], 0)]),
  (17, [(17, .aload_n 1, 1, [], 0), (18, .getfield 63, 3, [8, 1, 0, 0, 485, 0], 0), (21, .aload_n 0, 1, [], 0), (22, .getfield 24, 3, [1, 0, 8, 1, 464, 0], 2), (25, .getfield 66, 3, [4, 4, 532, 1, 439, 0], 1), (28, .aload_n 1, 1, [], 0), (29, .getfield 57, 3, [8, 3, 0, 0, 491, 0], 0), (32, .iaload, 1, [], 0), (33, .if_icmp .ne 7, 3, [], 0)]),
  (36, [(36, .iconst 1, 1, [], 0), (37, .goto 4, 3, [], 0)]),
  (40, [(40, .iconst 0, 1, [], 0)]),
  (41, [(41, .ireturn, 1, [1], 0)])]
def MX1_isAtLimit (x0 x1 : Int) (h : Hp) : Option (Int) :=
(bndp (MX10_has (h (x0 + 2) 0) (h x1 3) h) fun r1 =>
(if r1 = 0 then
(some 0)
else
(grd (0 ≤ (h x1 3) ∧ (h x1 3) < alen 532)
(if (h x1 1) ≠ (h ((x0 + 2) + 1) (h x1 3)) then
(some 0)
else
(some 1)))))
def wX1_isAtLimit {ρ : Type} : FN ρ := fun a h k => match a with
  | [x0, x1] => bndp (MX1_isAtLimit x0 x1 h) (fun r => k r h)
  | _ => none
def fsX1_isAtLimit (ρ : Type) : List (FN ρ) := [wX10_has]
def KMX1_isAtLimit  : CT (Int) := []
set_option maxRecDepth 100000 in
theorem eMX1_isAtLimit (x0 : Int) (x1 : Int) (h : Hp) : MX1_isAtLimit x0 x1 h =
  goAt false (kct (KMX1_isAtLimit)) (fun v _ => some (v)) (fsX1_isAtLimit _) sdX1_isAtLimit 1000 0 [(0, 5, x0), (1, 12, x1)] [] h := rfl
theorem okX1_isAtLimit : mokb (mi 213) = true := by decide +kernel
theorem rkX1_isAtLimit : rkOK 4 (mi 213).1.2.2.2.2.2.2.1 (mi 213).1.2.2.2.1 := Or.inr (Or.inr (Or.inl ⟨rfl, rfl, rfl⟩))
def calX1_isAtLimit : List Nat := [43]
theorem foX1_isAtLimit {l : Launch} {ρ : Type} : fsOK l false mi calX1_isAtLimit (fsX1_isAtLimit ρ) := ⟨sndX10_has, trivial⟩
theorem frX1_isAtLimit {ρ : Type} : ∀ fn ∈ fsX1_isAtLimit ρ, RoF fn := (List.forall_mem_cons.mpr ⟨roX10_has, (fun q9 h9 => by cases h9)⟩)
theorem ok_sdX1_isAtLimit : sdb (mi 213).1.2.1 (insOK mi (mi 213).1.1.cls (mi 213).1.2.2.1 (mi 213).1.2.2.2.2.1 (mi 213).1.2.2.2.2.2.1 calX1_isAtLimit false 4) sdX1_isAtLimit = true := by decide +kernel
theorem sMX1_isAtLimit {l : Launch} {h0 : Hp} {v : Int} (h8 : nOf h0 = 148)  (x0 : Int) (x1 : Int) (h : Hp) {r : Int} (H : MX1_isAtLimit x0 x1 h = some r) (hG : gV v r) : PAt l false (mi 213).1 h0 v h 0 [(0, 5, x0), (1, 12, x1)] [] h :=
  pat_ro ok_sdX1_isAtLimit rfl rkX1_isAtLimit h8 (foX1_isAtLimit) (frX1_isAtLimit) (fun v1 q => by
    cases q
    exact ⟨rfl, fun _ => hG⟩) (fun q9 h9 => by cases h9) ((eMX1_isAtLimit x0 x1 h).symm.trans H)
theorem sndX1_isAtLimit {ρ : Type} {l : Launch} : SndF (ρ := ρ) l false (mi 213).1 (wX1_isAtLimit) := by
    intro a h k r H ha ho hn hf
    have h8 := hf rfl
    obtain ⟨x0, x1, rfl⟩ := len2 (show a.length = 2 from ha)
    replace H : bndp (MX1_isAtLimit x0 x1 h) (fun r => k r h) = some r := H
    obtain ⟨v2, H1, H2⟩ := bndp_some H
    exact ⟨v2, h, H2, met_mk (mok_base okX1_isAtLimit).1 (by decide +kernel) (Nat.le_of_ble_eq_true rfl) ho (sMX1_isAtLimit h8 x0 x1 h H1 rfl), fun q => by cases q⟩
theorem roX1_isAtLimit {ρ : Type} : RoF (wX1_isAtLimit : FN ρ) := fun a h k k2 hk => by
  unfold wX1_isAtLimit
  split
  · exact bndp_ro hk
  · rfl
/-! X11_survey -/
def sdX11_survey : SD := [(0, [(0, .iconst 0, 1, [], 0), (1, .istore_n 1, 1, [], 0)]),
  (2, [(2, .iload_n 1, 1, [], 0), (3, .iconst 5, 1, [], 0), (4, .if_icmp .ge 16, 3, [], 0)]),
  (7, [(7, .aload_n 0, 1, [], 0), (8, .getfield 93, 3, [11, 14, 60, 1, 704, 0], 112), (11, .iload_n 1, 1, [], 0), (12, .iconst 0, 1, [], 0), (13, .iastore, 1, [], 0), (14, .iinc 1 1, 3, [], 0), (17, .goto (-15), 3, [], 0)]),
  (20, [(20, .aload_n 0, 1, [], 0), (21, .getfield 61, 3, [11, 8, 12, 1, 698, 0], 65), (24, .aload_n 0, 1, [], 0), (25, .getfield 57, 3, [11, 7, 12, 1, 697, 0], 64), (28, .invokevirtual 225, 3, [0, 0, 1, 124, 1120, 12, 12], 0), (31, .aload_n 0, 1, [], 0), (32, .getfield 61, 3, [11, 8, 12, 1, 698, 0], 65), (35, .iconst 0, 1, [], 0), (36, .putfield 206, 3, [8, 5, 0, 0, 1, 497], 0), (39, .bipush (-2), 2, [], 0), (41, .istore_n 1, 1, [], 0), (42, .iconst 0, 1, [], 0), (43, .istore_n 2, 1, [], 0)]),
  (44, [(44, .iload_n 2, 1, [], 0), (45, .sipush 3000, 3, [], 0), (48, .if_icmp .ge 142, 3, [], 0)]),
  (51, [(51, .aload_n 0, 1, [], 0), (52, .getfield 47, 3, [11, 5, 5, 1, 695, 0], 50), (55, .aload_n 0, 1, [], 0), (56, .getfield 61, 3, [11, 8, 12, 1, 698, 0], 65), (59, .invokevirtual 188, 3, [1, 1, 1, 123, 1007, 12, 5], 0), (62, .ifCond .ne 128, 3, [], 0)]),
  (65, [(65, .aload_n 0, 1, [], 0), (66, .getfield 47, 3, [11, 5, 5, 1, 695, 0], 50), (69, .aload_n 0, 1, [], 0), (70, .getfield 61, 3, [11, 8, 12, 1, 698, 0], 65), (73, .invokevirtual 196, 3, [1, 2, 1, 135, 1024, 12, 5], 0), (76, .istore_n 3, 1, [], 0), (77, .aload_n 0, 1, [], 0), (78, .getfield 93, 3, [11, 14, 60, 1, 704, 0], 112), (81, .iconst 0, 1, [], 0), (82, .aload_n 0, 1, [], 0), (83, .getfield 93, 3, [11, 14, 60, 1, 704, 0], 112), (86, .iconst 0, 1, [], 0), (87, .iaload, 1, [], 0), (88, .aload_n 0, 1, [], 0), (89, .getfield 61, 3, [11, 8, 12, 1, 698, 0], 65), (92, .getfield 232, 3, [8, 1, 0, 0, 486, 0], 0), (95, .invokestatic 259, 3, [1, 3, 3, 262, 1184, 0, 0], 0), (98, .iastore, 1, [], 0), (99, .aload_n 0, 1, [], 0), (100, .getfield 93, 3, [11, 14, 60, 1, 704, 0], 112), (103, .iconst 1, 1, [], 0), (104, .dup2, 1, [], 0), (105, .iaload, 1, [], 0), (106, .iload_n 3, 1, [], 0), (107, .ifCond .le 7, 3, [], 0)]),
  (110, [(110, .iconst 1, 1, [], 0), (111, .goto 4, 3, [], 0)]),
  (114, [(114, .iconst 0, 1, [], 0)]),
  (115, [(115, .iadd, 1, [], 0), (116, .iastore, 1, [], 0), (117, .aload_n 0, 1, [], 0), (118, .getfield 93, 3, [11, 14, 60, 1, 704, 0], 112), (121, .iconst 2, 1, [], 0), (122, .dup2, 1, [], 0), (123, .iaload, 1, [], 0), (124, .iload_n 3, 1, [], 0), (125, .ifCond .ge 7, 3, [], 0)]),
  (128, [(128, .iconst 1, 1, [], 0), (129, .goto 4, 3, [], 0)]),
  (132, [(132, .iconst 0, 1, [], 0)]),
  (133, [(133, .iadd, 1, [], 0), (134, .iastore, 1, [], 0), (135, .aload_n 0, 1, [], 0), (136, .getfield 93, 3, [11, 14, 60, 1, 704, 0], 112), (139, .iconst 3, 1, [], 0), (140, .dup2, 1, [], 0), (141, .iaload, 1, [], 0), (142, .aload_n 0, 1, [], 0), (143, .getfield 47, 3, [11, 5, 5, 1, 695, 0], 50), (146, .aload_n 0, 1, [], 0), (147, .getfield 61, 3, [11, 8, 12, 1, 698, 0], 65), (150, .invokevirtual 264, 3, [1, 4, 1, 213, 1185, 12, 5], 0), (153, .ifCond .eq 7, 3, [], 0)]),
  (156, [(156, .iconst 1, 1, [], 0), (157, .goto 4, 3, [], 0)]),
  (160, [(160, .iconst 0, 1, [], 0)]),
  (161, [(161, .iadd, 1, [], 0), (162, .iastore, 1, [], 0), (163, .aload_n 0, 1, [], 0), (164, .getfield 93, 3, [11, 14, 60, 1, 704, 0], 112), (167, .iconst 4, 1, [], 0), (168, .dup2, 1, [], 0), (169, .iaload, 1, [], 0), (170, .iload_n 3, 1, [], 0), (171, .iload_n 1, 1, [], 0), (172, .if_icmp .eq 7, 3, [], 0)]),
  (175, [(175, .iconst 1, 1, [], 0), (176, .goto 4, 3, [], 0)]),
  (179, [(179, .iconst 0, 1, [], 0)]),
  (180, [(180, .iadd, 1, [], 0), (181, .iastore, 1, [], 0), (182, .iload_n 3, 1, [], 0), (183, .istore_n 1, 1, [], 0), (184, .iinc 2 1, 3, [], 0), (187, .goto (-143), 3, [], 0)]),
  (190, [(190, .aload_n 0, 1, [], 0), (191, .getfield 47, 3, [11, 5, 5, 1, 695, 0], 50), (194, .aload_n 0, 1, [], 0), (195, .getfield 61, 3, [11, 8, 12, 1, 698, 0], 65), (198, .invokevirtual 188, 3, [1, 1, 1, 123, 1007, 12, 5], 0), (201, .ireturn, 1, [1], 0)])]
def BX11_survey_2 (n : Nat) : Nat → Int → Hp → Option (Hp)
  | 0, _, _ => none
  | f + 1, x1, h =>
    (if 5 ≤ x1 then
    (some (h))
    else
    (grd (0 ≤ x1 ∧ x1 < alen 60)
    (ltt (up h 112 x1 0) fun h1 =>
    (ltt (w32 (x1 + 1)) fun y1 =>
    (BX11_survey_2 n f y1 h1)))))
def JX11_survey_180 (n : Nat) (bk : Int → Int → Hp → Option (Int × Hp)) (x2 x3 z1 z2 z3 : Int) (h : Hp) : Option (Int × Hp) :=
(grd (0 ≤ z1 ∧ z1 < alen 60)
(ltt (up h 112 z1 (w32 (z2 + z3))) fun h1 =>
(ltt x3 fun y1 =>
(ltt (w32 (x2 + 1)) fun y2 =>
(bk y1 y2 h1)))))
def JX11_survey_161 (n : Nat) (bk : Int → Int → Hp → Option (Int × Hp)) (x1 x2 x3 z1 z2 z3 : Int) (h : Hp) : Option (Int × Hp) :=
(grd (0 ≤ z1 ∧ z1 < alen 60)
(ltt (up h 112 z1 (w32 (z2 + z3))) fun h1 =>
(grd (0 ≤ 4 ∧ 4 < alen 60)
(if x3 = x1 then
(JX11_survey_180 n bk x2 x3 4 (h1 112 4) 0 h1)
else
(JX11_survey_180 n bk x2 x3 4 (h1 112 4) 1 h1)))))
def JX11_survey_133 (n : Nat) (bk : Int → Int → Hp → Option (Int × Hp)) (x1 x2 x3 z1 z2 z3 : Int) (h : Hp) : Option (Int × Hp) :=
(grd (0 ≤ z1 ∧ z1 < alen 60)
(ltt (up h 112 z1 (w32 (z2 + z3))) fun h1 =>
(grd (0 ≤ 3 ∧ 3 < alen 60)
(bndp (MX1_isAtLimit 50 65 h1) fun r1 =>
(if r1 = 0 then
(JX11_survey_161 n bk x1 x2 x3 3 (h1 112 3) 0 h1)
else
(JX11_survey_161 n bk x1 x2 x3 3 (h1 112 3) 1 h1))))))
def JX11_survey_115 (n : Nat) (bk : Int → Int → Hp → Option (Int × Hp)) (x1 x2 x3 z1 z2 z3 : Int) (h : Hp) : Option (Int × Hp) :=
(grd (0 ≤ z1 ∧ z1 < alen 60)
(ltt (up h 112 z1 (w32 (z2 + z3))) fun h1 =>
(grd (0 ≤ 2 ∧ 2 < alen 60)
(if 0 ≤ x3 then
(JX11_survey_133 n bk x1 x2 x3 2 (h1 112 2) 0 h1)
else
(JX11_survey_133 n bk x1 x2 x3 2 (h1 112 2) 1 h1)))))
def BX11_survey_44 (n : Nat) : Nat → Int → Int → Hp → Option (Int × Hp)
  | 0, _, _, _ => none
  | f + 1, x1, x2, h =>
    (if 3000 ≤ x2 then
    (bndp (MX1_isDone 50 65 h) fun r1 =>
    (grd (r1 = 0 ∨ r1 = 1)
    (some (r1, h))))
    else
    (bndp (MX1_isDone 50 65 h) fun r2 =>
    (if r2 ≠ 0 then
    (bndp (MX1_isDone 50 65 h) fun r3 =>
    (grd (r3 = 0 ∨ r3 = 1)
    (some (r3, h))))
    else
    (bnd (MX1_tick n 50 65 h) fun r4 h1 =>
    (ltt r4 fun y1 =>
    (grd (0 ≤ 0 ∧ 0 < alen 60)
    (grd (0 ≤ 0 ∧ 0 < alen 60)
    (ltt (up h1 112 0 (max (h1 112 0) (h1 65 1))) fun h2 =>
    (grd (0 ≤ 1 ∧ 1 < alen 60)
    (if y1 ≤ 0 then
    (JX11_survey_115 n (BX11_survey_44 n f) x1 x2 y1 1 (h2 112 1) 0 h2)
    else
    (JX11_survey_115 n (BX11_survey_44 n f) x1 x2 y1 1 (h2 112 1) 1 h2)))))))))))
def LX11_survey_44 (n : Nat) (x1 x2 : Int) (h : Hp) : Option (Int × Hp) :=
(BX11_survey_44 n n x1 x2 h)
def JX11_survey_20 (n : Nat) (h : Hp) : Option (Int × Hp) :=
(bndh (MX8_become 65 64 h) fun h1 =>
(ltt (up h1 65 5 0) fun h2 =>
(ltt (-2) fun y1 =>
(ltt 0 fun y2 =>
(LX11_survey_44 n y1 y2 h2)))))
def LX11_survey_2 (n : Nat) (x1 : Int) (h : Hp) : Option (Int × Hp) :=
(bndx (BX11_survey_2 n n x1 h) fun h1 =>
(JX11_survey_20 n h1))
def MX11_survey (n : Nat) (h : Hp) : Option (Int × Hp) :=
(ltt 0 fun y1 =>
(LX11_survey_2 n y1 h))
def wX11_survey {ρ : Type} (n : Nat) : FN ρ := fun a h k => match a with
  | [_] => bnd (MX11_survey n h) (fun r h2 => k r h2)
  | _ => none
def fsX11_survey (n : Nat) (ρ : Type) : List (FN ρ) := [wX8_become, wX1_isDone, wX1_tick n, fmax, wX1_isAtLimit]
def KBX11_survey_2 (_ : Nat) (bk : Int → Hp → Option (Hp)) : CT (Hp) := [(2, [(0, 15, (some 0)), (1, 0, none)], [], fun a c h => match a, c with
    | [x1], [] => bk x1 h
    | _, _ => none),
  (20, [(0, 15, (some 0))], [], fun a c h => match a, c with
    | [], [] => some (h)
    | _, _ => none)]
set_option maxRecDepth 100000 in
theorem eBX11_survey_2 (n f : Nat) (x1 : Int) (h : Hp) : BX11_survey_2 n (f + 1) x1 h =
  goAt false (kct (KBX11_survey_2 n (BX11_survey_2 n f))) (fun _ _ => none) (fsX11_survey n _) sdX11_survey 1000 2 [(0, 15, 0), (1, 0, x1)] [] h := rfl
def KJX11_survey_180 (_ : Nat) (bk : Int → Int → Hp → Option (Int × Hp)) : CT (Int × Hp) := [(44, [(0, 15, (some 0)), (1, 0, none), (2, 0, none)], [], fun a c h => match a, c with
    | [x1, x2], [] => bk x1 x2 h
    | _, _ => none)]
set_option maxRecDepth 100000 in
theorem eJX11_survey_180 (n : Nat) (bk : Int → Int → Hp → Option (Int × Hp)) (x2 : Int) (x3 : Int) (z1 : Int) (z2 : Int) (z3 : Int) (h : Hp) : JX11_survey_180 n bk x2 x3 z1 z2 z3 h =
  goAt false (kct (KJX11_survey_180 n bk)) (fun v h => some ((v, h))) (fsX11_survey n _) sdX11_survey 1000 180 [(0, 15, 0), (2, 0, x2), (3, 0, x3)] [(0, z3), (0, z2), (0, z1), (60, 112)] h := rfl
def KJX11_survey_161 (n : Nat) (bk : Int → Int → Hp → Option (Int × Hp)) : CT (Int × Hp) := [(44, [(0, 15, (some 0)), (1, 0, none), (2, 0, none)], [], fun a c h => match a, c with
    | [x1, x2], [] => bk x1 x2 h
    | _, _ => none),
  (180, [(0, 15, (some 0)), (2, 0, none), (3, 0, none)], [(0, none), (0, none), (0, none), (60, (some 112))], fun a c h => match a, c with
    | [x2, x3], [z3, z2, z1] => JX11_survey_180 n bk x2 x3 z1 z2 z3 h
    | _, _ => none)]
set_option maxRecDepth 100000 in
theorem eJX11_survey_161 (n : Nat) (bk : Int → Int → Hp → Option (Int × Hp)) (x1 : Int) (x2 : Int) (x3 : Int) (z1 : Int) (z2 : Int) (z3 : Int) (h : Hp) : JX11_survey_161 n bk x1 x2 x3 z1 z2 z3 h =
  goAt false (kct (KJX11_survey_161 n bk)) (fun v h => some ((v, h))) (fsX11_survey n _) sdX11_survey 1000 161 [(0, 15, 0), (1, 0, x1), (2, 0, x2), (3, 0, x3)] [(0, z3), (0, z2), (0, z1), (60, 112)] h := rfl
def KJX11_survey_133 (n : Nat) (bk : Int → Int → Hp → Option (Int × Hp)) : CT (Int × Hp) := [(44, [(0, 15, (some 0)), (1, 0, none), (2, 0, none)], [], fun a c h => match a, c with
    | [x1, x2], [] => bk x1 x2 h
    | _, _ => none),
  (161, [(0, 15, (some 0)), (1, 0, none), (2, 0, none), (3, 0, none)], [(0, none), (0, none), (0, none), (60, (some 112))], fun a c h => match a, c with
    | [x1, x2, x3], [z3, z2, z1] => JX11_survey_161 n bk x1 x2 x3 z1 z2 z3 h
    | _, _ => none)]
set_option maxRecDepth 100000 in
theorem eJX11_survey_133 (n : Nat) (bk : Int → Int → Hp → Option (Int × Hp)) (x1 : Int) (x2 : Int) (x3 : Int) (z1 : Int) (z2 : Int) (z3 : Int) (h : Hp) : JX11_survey_133 n bk x1 x2 x3 z1 z2 z3 h =
  goAt false (kct (KJX11_survey_133 n bk)) (fun v h => some ((v, h))) (fsX11_survey n _) sdX11_survey 1000 133 [(0, 15, 0), (1, 0, x1), (2, 0, x2), (3, 0, x3)] [(0, z3), (0, z2), (0, z1), (60, 112)] h := rfl
def KJX11_survey_115 (n : Nat) (bk : Int → Int → Hp → Option (Int × Hp)) : CT (Int × Hp) := [(44, [(0, 15, (some 0)), (1, 0, none), (2, 0, none)], [], fun a c h => match a, c with
    | [x1, x2], [] => bk x1 x2 h
    | _, _ => none),
  (133, [(0, 15, (some 0)), (1, 0, none), (2, 0, none), (3, 0, none)], [(0, none), (0, none), (0, none), (60, (some 112))], fun a c h => match a, c with
    | [x1, x2, x3], [z3, z2, z1] => JX11_survey_133 n bk x1 x2 x3 z1 z2 z3 h
    | _, _ => none)]
set_option maxRecDepth 100000 in
theorem eJX11_survey_115 (n : Nat) (bk : Int → Int → Hp → Option (Int × Hp)) (x1 : Int) (x2 : Int) (x3 : Int) (z1 : Int) (z2 : Int) (z3 : Int) (h : Hp) : JX11_survey_115 n bk x1 x2 x3 z1 z2 z3 h =
  goAt false (kct (KJX11_survey_115 n bk)) (fun v h => some ((v, h))) (fsX11_survey n _) sdX11_survey 1000 115 [(0, 15, 0), (1, 0, x1), (2, 0, x2), (3, 0, x3)] [(0, z3), (0, z2), (0, z1), (60, 112)] h := rfl
def KBX11_survey_44 (n : Nat) (bk : Int → Int → Hp → Option (Int × Hp)) : CT (Int × Hp) := [(44, [(0, 15, (some 0)), (1, 0, none), (2, 0, none)], [], fun a c h => match a, c with
    | [x1, x2], [] => bk x1 x2 h
    | _, _ => none),
  (115, [(0, 15, (some 0)), (1, 0, none), (2, 0, none), (3, 0, none)], [(0, none), (0, none), (0, none), (60, (some 112))], fun a c h => match a, c with
    | [x1, x2, x3], [z3, z2, z1] => JX11_survey_115 n bk x1 x2 x3 z1 z2 z3 h
    | _, _ => none)]
set_option maxRecDepth 100000 in
theorem eBX11_survey_44 (n f : Nat) (x1 : Int) (x2 : Int) (h : Hp) : BX11_survey_44 n (f + 1) x1 x2 h =
  goAt false (kct (KBX11_survey_44 n (BX11_survey_44 n f))) (fun v h => some ((v, h))) (fsX11_survey n _) sdX11_survey 1000 44 [(0, 15, 0), (1, 0, x1), (2, 0, x2)] [] h := rfl
def KJX11_survey_20 (n : Nat) : CT (Int × Hp) := [(44, [(0, 15, (some 0)), (1, 0, none), (2, 0, none)], [], fun a c h => match a, c with
    | [x1, x2], [] => LX11_survey_44 n x1 x2 h
    | _, _ => none)]
set_option maxRecDepth 100000 in
theorem eJX11_survey_20 (n : Nat) (h : Hp) : JX11_survey_20 n h =
  goAt false (kct (KJX11_survey_20 n)) (fun v h => some ((v, h))) (fsX11_survey n _) sdX11_survey 1000 20 [(0, 15, 0)] [] h := rfl
def KMX11_survey (n : Nat) : CT (Int × Hp) := [(2, [(0, 15, (some 0)), (1, 0, none)], [], fun a c h => match a, c with
    | [x1], [] => LX11_survey_2 n x1 h
    | _, _ => none)]
set_option maxRecDepth 100000 in
theorem eMX11_survey (n : Nat) (h : Hp) : MX11_survey n h =
  goAt false (kct (KMX11_survey n)) (fun v h => some ((v, h))) (fsX11_survey n _) sdX11_survey 1000 0 [(0, 15, 0)] [] h := rfl
theorem okX11_survey : mokb (mi 214) = true := by decide +kernel
theorem rkX11_survey : rkOK 4 (mi 214).1.2.2.2.2.2.2.1 (mi 214).1.2.2.2.1 := Or.inr (Or.inr (Or.inl ⟨rfl, rfl, rfl⟩))
def calX11_survey : List Nat := [124, 123, 135, 262, 213]
theorem foX11_survey {l : Launch} {ρ : Type} (n : Nat) : fsOK l false mi calX11_survey (fsX11_survey n ρ) := ⟨sndX8_become, ⟨sndX1_isDone, ⟨(sndX1_tick n), ⟨snd_mmax, ⟨sndX1_isAtLimit, trivial⟩⟩⟩⟩⟩
theorem ok_sdX11_survey : sdb (mi 214).1.2.1 (insOK mi (mi 214).1.1.cls (mi 214).1.2.2.1 (mi 214).1.2.2.2.2.1 (mi 214).1.2.2.2.2.2.1 calX11_survey false 4) sdX11_survey = true := by decide +kernel
def GX11_survey_2 (l : Launch) (h0 : Hp) (h' : Hp) (v : Int) (_ : Hp) : (Hp) → Prop
  | h1 => PAt l false (mi 214).1 h0 v h' 20 [(0, 15, 0)] [] h1
theorem sBX11_survey_2 {l : Launch} {h0 h' : Hp} {v : Int} (h8 : nOf h0 = 148) (n : Nat) : ∀ (f : Nat) (x1 : Int) (h : Hp) {r : Hp}, BX11_survey_2 n f x1 h = some r → GX11_survey_2 l h0 h' v h r → PAt l false (mi 214).1 h0 v h' 2 [(0, 15, 0), (1, 0, x1)] [] h := by
  intro f
  induction f with
  | zero =>
    intro x1 h r H _
    have H2 : (none : Option (Hp)) = some r := H
    cases H2
  | succ f ih =>
    intro x1 h r H hG
    exact pat_w ok_sdX11_survey rkX11_survey h8 (foX11_survey n) (fun v1 h1 q => by cases q) (List.forall_mem_cons.mpr ⟨(fun a c h H => by
      dsimp only at H
      split at H
      · exact ih _ _ H hG
      · cases H), (List.forall_mem_cons.mpr ⟨(fun a c h H => by
      dsimp only at H
      split at H
      · cases H
        exact hG
      · cases H), (fun q9 h9 => by cases h9)⟩)⟩) ((eBX11_survey_2 n f x1 h).symm.trans H)
theorem sJX11_survey_180 {l : Launch} {h0 h' : Hp} {v : Int} (h8 : nOf h0 = 148) (n : Nat) (bk : Int → Int → Hp → Option (Int × Hp)) (hbk : ∀ (x1 : Int) (x2 : Int) (h : Hp) (r : Int × Hp), bk x1 x2 h = some r → gWV v h' r → PAt l false (mi 214).1 h0 v h' 44 [(0, 15, 0), (1, 0, x1), (2, 0, x2)] [] h) (x2 : Int) (x3 : Int) (z1 : Int) (z2 : Int) (z3 : Int) (h : Hp) {r : Int × Hp} (H : JX11_survey_180 n bk x2 x3 z1 z2 z3 h = some r) (hG : gWV v h' r) : PAt l false (mi 214).1 h0 v h' 180 [(0, 15, 0), (2, 0, x2), (3, 0, x3)] [(0, z3), (0, z2), (0, z1), (60, 112)] h :=
  pat_w ok_sdX11_survey rkX11_survey h8 (foX11_survey n) (fun v1 h1 q => by
    cases q
    exact ⟨hG.1, fun _ => hG.2⟩) (List.forall_mem_cons.mpr ⟨(fun a c h H => by
      dsimp only at H
      split at H
      · exact hbk _ _ _ _ H hG
      · cases H), (fun q9 h9 => by cases h9)⟩) ((eJX11_survey_180 n bk x2 x3 z1 z2 z3 h).symm.trans H)
theorem sJX11_survey_161 {l : Launch} {h0 h' : Hp} {v : Int} (h8 : nOf h0 = 148) (n : Nat) (bk : Int → Int → Hp → Option (Int × Hp)) (hbk : ∀ (x1 : Int) (x2 : Int) (h : Hp) (r : Int × Hp), bk x1 x2 h = some r → gWV v h' r → PAt l false (mi 214).1 h0 v h' 44 [(0, 15, 0), (1, 0, x1), (2, 0, x2)] [] h) (x1 : Int) (x2 : Int) (x3 : Int) (z1 : Int) (z2 : Int) (z3 : Int) (h : Hp) {r : Int × Hp} (H : JX11_survey_161 n bk x1 x2 x3 z1 z2 z3 h = some r) (hG : gWV v h' r) : PAt l false (mi 214).1 h0 v h' 161 [(0, 15, 0), (1, 0, x1), (2, 0, x2), (3, 0, x3)] [(0, z3), (0, z2), (0, z1), (60, 112)] h :=
  pat_w ok_sdX11_survey rkX11_survey h8 (foX11_survey n) (fun v1 h1 q => by
    cases q
    exact ⟨hG.1, fun _ => hG.2⟩) (List.forall_mem_cons.mpr ⟨(fun a c h H => by
      dsimp only at H
      split at H
      · exact hbk _ _ _ _ H hG
      · cases H), (List.forall_mem_cons.mpr ⟨(fun a c h H => by
      dsimp only at H
      split at H
      · exact sJX11_survey_180 h8 n bk hbk _ _ _ _ _ _ H hG
      · cases H), (fun q9 h9 => by cases h9)⟩)⟩) ((eJX11_survey_161 n bk x1 x2 x3 z1 z2 z3 h).symm.trans H)
theorem sJX11_survey_133 {l : Launch} {h0 h' : Hp} {v : Int} (h8 : nOf h0 = 148) (n : Nat) (bk : Int → Int → Hp → Option (Int × Hp)) (hbk : ∀ (x1 : Int) (x2 : Int) (h : Hp) (r : Int × Hp), bk x1 x2 h = some r → gWV v h' r → PAt l false (mi 214).1 h0 v h' 44 [(0, 15, 0), (1, 0, x1), (2, 0, x2)] [] h) (x1 : Int) (x2 : Int) (x3 : Int) (z1 : Int) (z2 : Int) (z3 : Int) (h : Hp) {r : Int × Hp} (H : JX11_survey_133 n bk x1 x2 x3 z1 z2 z3 h = some r) (hG : gWV v h' r) : PAt l false (mi 214).1 h0 v h' 133 [(0, 15, 0), (1, 0, x1), (2, 0, x2), (3, 0, x3)] [(0, z3), (0, z2), (0, z1), (60, 112)] h :=
  pat_w ok_sdX11_survey rkX11_survey h8 (foX11_survey n) (fun v1 h1 q => by
    cases q
    exact ⟨hG.1, fun _ => hG.2⟩) (List.forall_mem_cons.mpr ⟨(fun a c h H => by
      dsimp only at H
      split at H
      · exact hbk _ _ _ _ H hG
      · cases H), (List.forall_mem_cons.mpr ⟨(fun a c h H => by
      dsimp only at H
      split at H
      · exact sJX11_survey_161 h8 n bk hbk _ _ _ _ _ _ _ H hG
      · cases H), (fun q9 h9 => by cases h9)⟩)⟩) ((eJX11_survey_133 n bk x1 x2 x3 z1 z2 z3 h).symm.trans H)
theorem sJX11_survey_115 {l : Launch} {h0 h' : Hp} {v : Int} (h8 : nOf h0 = 148) (n : Nat) (bk : Int → Int → Hp → Option (Int × Hp)) (hbk : ∀ (x1 : Int) (x2 : Int) (h : Hp) (r : Int × Hp), bk x1 x2 h = some r → gWV v h' r → PAt l false (mi 214).1 h0 v h' 44 [(0, 15, 0), (1, 0, x1), (2, 0, x2)] [] h) (x1 : Int) (x2 : Int) (x3 : Int) (z1 : Int) (z2 : Int) (z3 : Int) (h : Hp) {r : Int × Hp} (H : JX11_survey_115 n bk x1 x2 x3 z1 z2 z3 h = some r) (hG : gWV v h' r) : PAt l false (mi 214).1 h0 v h' 115 [(0, 15, 0), (1, 0, x1), (2, 0, x2), (3, 0, x3)] [(0, z3), (0, z2), (0, z1), (60, 112)] h :=
  pat_w ok_sdX11_survey rkX11_survey h8 (foX11_survey n) (fun v1 h1 q => by
    cases q
    exact ⟨hG.1, fun _ => hG.2⟩) (List.forall_mem_cons.mpr ⟨(fun a c h H => by
      dsimp only at H
      split at H
      · exact hbk _ _ _ _ H hG
      · cases H), (List.forall_mem_cons.mpr ⟨(fun a c h H => by
      dsimp only at H
      split at H
      · exact sJX11_survey_133 h8 n bk hbk _ _ _ _ _ _ _ H hG
      · cases H), (fun q9 h9 => by cases h9)⟩)⟩) ((eJX11_survey_115 n bk x1 x2 x3 z1 z2 z3 h).symm.trans H)
theorem sBX11_survey_44 {l : Launch} {h0 h' : Hp} {v : Int} (h8 : nOf h0 = 148) (n : Nat) : ∀ (f : Nat) (x1 : Int) (x2 : Int) (h : Hp) {r : Int × Hp}, BX11_survey_44 n f x1 x2 h = some r → gWV v h' r → PAt l false (mi 214).1 h0 v h' 44 [(0, 15, 0), (1, 0, x1), (2, 0, x2)] [] h := by
  intro f
  induction f with
  | zero =>
    intro x1 x2 h r H _
    have H2 : (none : Option (Int × Hp)) = some r := H
    cases H2
  | succ f ih =>
    intro x1 x2 h r H hG
    have ihk : ∀ (x1 : Int) (x2 : Int) (h : Hp) (r : Int × Hp), BX11_survey_44 n f x1 x2 h = some r → gWV v h' r → PAt l false (mi 214).1 h0 v h' 44 [(0, 15, 0), (1, 0, x1), (2, 0, x2)] [] h := fun x1 x2 h r9 a9 b9 => ih x1 x2 h a9 b9
    exact pat_w ok_sdX11_survey rkX11_survey h8 (foX11_survey n) (fun v1 h1 q => by
    cases q
    exact ⟨hG.1, fun _ => hG.2⟩) (List.forall_mem_cons.mpr ⟨(fun a c h H => by
      dsimp only at H
      split at H
      · exact ih _ _ _ H hG
      · cases H), (List.forall_mem_cons.mpr ⟨(fun a c h H => by
      dsimp only at H
      split at H
      · exact sJX11_survey_115 h8 n (BX11_survey_44 n f) ihk _ _ _ _ _ _ _ H hG
      · cases H), (fun q9 h9 => by cases h9)⟩)⟩) ((eBX11_survey_44 n f x1 x2 h).symm.trans H)
theorem sLX11_survey_44 {l : Launch} {h0 h' : Hp} {v : Int} (h8 : nOf h0 = 148) (n : Nat) (x1 : Int) (x2 : Int) (h : Hp) {r : Int × Hp} (H : LX11_survey_44 n x1 x2 h = some r) (hG : gWV v h' r) : PAt l false (mi 214).1 h0 v h' 44 [(0, 15, 0), (1, 0, x1), (2, 0, x2)] [] h :=
  sBX11_survey_44 h8 n n x1 x2 h H hG
theorem sJX11_survey_20 {l : Launch} {h0 h' : Hp} {v : Int} (h8 : nOf h0 = 148) (n : Nat)  (h : Hp) {r : Int × Hp} (H : JX11_survey_20 n h = some r) (hG : gWV v h' r) : PAt l false (mi 214).1 h0 v h' 20 [(0, 15, 0)] [] h :=
  pat_w ok_sdX11_survey rkX11_survey h8 (foX11_survey n) (fun v1 h1 q => by
    cases q
    exact ⟨hG.1, fun _ => hG.2⟩) (List.forall_mem_cons.mpr ⟨(fun a c h H => by
      dsimp only at H
      split at H
      · exact sLX11_survey_44 h8 n _ _ _ H hG
      · cases H), (fun q9 h9 => by cases h9)⟩) ((eJX11_survey_20 n h).symm.trans H)
theorem sLX11_survey_2 {l : Launch} {h0 h' : Hp} {v : Int} (h8 : nOf h0 = 148) (n : Nat) (x1 : Int) (h : Hp) {r : Int × Hp} (H : LX11_survey_2 n x1 h = some r) (hG : gWV v h' r) : PAt l false (mi 214).1 h0 v h' 2 [(0, 15, 0), (1, 0, x1)] [] h := by
  obtain ⟨h1, h2, h3⟩ := bndx_some H
  exact sBX11_survey_2 h8 n n x1 h h2 (sJX11_survey_20 h8 n h1 h3 hG)
theorem sMX11_survey {l : Launch} {h0 h' : Hp} {v : Int} (h8 : nOf h0 = 148) (n : Nat)  (h : Hp) {r : Int × Hp} (H : MX11_survey n h = some r) (hG : gWV v h' r) : PAt l false (mi 214).1 h0 v h' 0 [(0, 15, 0)] [] h :=
  pat_w ok_sdX11_survey rkX11_survey h8 (foX11_survey n) (fun v1 h1 q => by
    cases q
    exact ⟨hG.1, fun _ => hG.2⟩) (List.forall_mem_cons.mpr ⟨(fun a c h H => by
      dsimp only at H
      split at H
      · exact sLX11_survey_2 h8 n _ _ H hG
      · cases H), (fun q9 h9 => by cases h9)⟩) ((eMX11_survey n h).symm.trans H)
theorem sndX11_survey {ρ : Type} {l : Launch} (n : Nat) : SndF (ρ := ρ) l false (mi 214).1 (wX11_survey n) := by
    intro a h k r H ha ho hn hf
    have h8 := hf rfl
    obtain ⟨x0, rfl⟩ := len1 (show a.length = 1 from ha)
    have u0 := uq15 hn (ho (15, x0) (List.mem_cons_self))
    subst u0
    replace H : bnd (MX11_survey n h) (fun r h2 => k r h2) = some r := H
    obtain ⟨v2, h2, H1, H2⟩ := bnd_some H
    exact ⟨v2, h2, H2, met_mk (mok_base okX11_survey).1 (by decide +kernel) (Nat.le_of_ble_eq_true rfl) ho (sMX11_survey h8 n  h H1 ⟨rfl, rfl⟩), fun q => by cases q⟩
/-! X11_run -/
def sdX11_run : SD := [(0, [(0, .iload_n 1, 1, [], 0), (1, .ifCond .lt 8, 3, [], 0)]),
  (4, [(4, .iload_n 1, 1, [], 0), (5, .iconst 4, 1, [], 0), (6, .if_icmp .le 5, 3, [], 0)]),
  (9, [(9, .iconst (-1), 1, [], 0), (10, .ireturn, 1, [], 0)]),
  (11, [(11, .aload_n 0, 1, [], 0), (12, .invokevirtual 255, 3, [1, 0, 1, 214, 1180, 15], 0), (15, .ifCond .eq 12, 3, [], 0)]),
  (18, [(18, .aload_n 0, 1, [], 0), (19, .getfield 93, 3, [11, 14, 60, 1, 704, 0], 112), (22, .iload_n 1, 1, [], 0), (23, .iaload, 1, [], 0), (24, .goto 5, 3, [], 0)]),
  (27, [(27, .bipush (-2), 2, [], 0)]),
  (29, [(29, .ireturn, 1, [], 0)])]
def MX11_run (n : Nat) (x1 : Int) (h : Hp) : Option (Int × Hp) :=
(if x1 < 0 then
(some ((-1), h))
else
(if x1 ≤ 4 then
(bnd (MX11_survey n h) fun r1 h1 =>
(if r1 = 0 then
(some ((-2), h1))
else
(grd (0 ≤ x1 ∧ x1 < alen 60)
(some ((h1 112 x1), h1)))))
else
(some ((-1), h))))
def wX11_run {ρ : Type} (n : Nat) : FN ρ := fun a h k => match a with
  | [_, x1] => bnd (MX11_run n x1 h) (fun r h2 => k r h2)
  | _ => none
def fsX11_run (n : Nat) (ρ : Type) : List (FN ρ) := [wX11_survey n]
def KMX11_run (_ : Nat) : CT (Int × Hp) := []
set_option maxRecDepth 100000 in
theorem eMX11_run (n : Nat) (x1 : Int) (h : Hp) : MX11_run n x1 h =
  goAt false (kct (KMX11_run n)) (fun v h => some ((v, h))) (fsX11_run n _) sdX11_run 1000 0 [(0, 15, 0), (1, 0, x1)] [] h := rfl
theorem okX11_run : mokb (mi 215) = true := by decide +kernel
theorem rkX11_run : rkOK 1 (mi 215).1.2.2.2.2.2.2.1 (mi 215).1.2.2.2.1 := Or.inr (Or.inl ⟨rfl, rfl, rfl⟩)
def calX11_run : List Nat := [214]
theorem foX11_run {l : Launch} {ρ : Type} (n : Nat) : fsOK l false mi calX11_run (fsX11_run n ρ) := ⟨(sndX11_survey n), trivial⟩
theorem ok_sdX11_run : sdb (mi 215).1.2.1 (insOK mi (mi 215).1.1.cls (mi 215).1.2.2.1 (mi 215).1.2.2.2.2.1 (mi 215).1.2.2.2.2.2.1 calX11_run false 1) sdX11_run = true := by decide +kernel
theorem sMX11_run {l : Launch} {h0 h' : Hp} {v : Int} (h8 : nOf h0 = 148) (n : Nat) (x1 : Int) (h : Hp) {r : Int × Hp} (H : MX11_run n x1 h = some r) (hG : gWV v h' r) : PAt l false (mi 215).1 h0 v h' 0 [(0, 15, 0), (1, 0, x1)] [] h :=
  pat_w ok_sdX11_run rkX11_run h8 (foX11_run n) (fun v1 h1 q => by
    cases q
    exact ⟨hG.1, fun _ => hG.2⟩) (fun q9 h9 => by cases h9) ((eMX11_run n x1 h).symm.trans H)
theorem sndX11_run {ρ : Type} {l : Launch} (n : Nat) : SndF (ρ := ρ) l false (mi 215).1 (wX11_run n) := by
    intro a h k r H ha ho hn hf
    have h8 := hf rfl
    obtain ⟨x0, x1, rfl⟩ := len2 (show a.length = 2 from ha)
    have u0 := uq15 hn (ho (15, x0) (List.mem_cons_self))
    subst u0
    replace H : bnd (MX11_run n x1 h) (fun r h2 => k r h2) = some r := H
    obtain ⟨v2, h2, H1, H2⟩ := bnd_some H
    exact ⟨v2, h2, H2, met_mk (mok_base okX11_run).1 (by decide +kernel) (Nat.le_of_ble_eq_true rfl) ho (sMX11_run h8 n x1 h H1 ⟨rfl, rfl⟩), fun q => by cases q⟩
/-! X12_run -/
def sdX12_run : SD := [(0, [(0, .iload_n 1, 1, [], 0), (1, .i2l, 1, [], 0), (2, .lconst 0, 1, [], 0), (3, .ldc2_w 383, 3, [1, 1702], 4), (6, .invokestatic 217, 3, [1, 0, 3, 81, 1561, 1, 1, 1], 0), (9, .ifCond .ne 5, 3, [], 0)]),
  (12, [(12, .iconst (-1), 1, [], 0), (13, .ireturn, 1, [], 0)]),
  (14, [(14, .aload_n 0, 1, [], 0), (15, .invokevirtual 459, 3, [0, 1, 1, 116, 1673, 16], 0), (18, .aload_n 0, 1, [], 0), (19, .invokevirtual 462, 3, [0, 2, 1, 137, 1703, 16], 0), (22, .aload_n 0, 1, [], 0), (23, .iconst 0, 1, [], 0), (24, .putfield 415, 3, [12, 52, 0, 0, 1, 1374], 0), (27, .iconst 0, 1, [], 0), (28, .istore_n 2, 1, [], 0), (29, .iconst 0, 1, [], 0), (30, .istore_n 3, 1, [], 0), (31, .iconst 0, 1, [], 0), (32, .istore 4, 2, [], 0), (34, .iconst 0, 1, [], 0), (35, .istore 5, 2, [], 0), (37, .iconst 0, 1, [], 0), (38, .istore 6, 2, [], 0), (40, .bipush (-2), 2, [], 0), (42, .istore 7, 2, [], 0), (44, .iconst 0, 1, [], 0), (45, .istore 8, 2, [], 0)]),
  (47, [(47, .aload_n 0, 1, [], 0), (48, .invokevirtual 430, 3, [1, 3, 1, 140, 1707, 16], 0), (51, .ifCond .ne 134, 3, [], 0)]),
  (54, [(54, .iload 8, 2, [], 0), (56, .sipush 3000, 3, [], 0), (59, .if_icmp .ne 6, 3, [], 0)]),
  (62, [(62, .bipush (-2), 2, [], 0), (64, .ireturn, 1, [], 0)]),
  (65, [(65, .aload_n 0, 1, [], 0), (66, .invokevirtual 443, 3, [0, 4, 1, 152, 1730, 16], 0), (69, .iinc 8 1, 3, [], 0), (72, .iload_n 2, 1, [], 0), (73, .aload_n 0, 1, [], 0), (74, .getfield 409, 3, [12, 49, 0, 0, 1371, 0], 0), (77, .invokestatic 378, 3, [1, 5, 3, 262, 1696, 0, 0], 0), (80, .istore_n 2, 1, [], 0), (81, .iload_n 3, 1, [], 0), (82, .aload_n 0, 1, [], 0), (83, .getfield 421, 3, [12, 51, 0, 0, 1373, 0], 0), (86, .iconst 1, 1, [], 0), (87, .if_icmp .ne 7, 3, [], 0)]),
  (90, [(90, .iconst 1, 1, [], 0), (91, .goto 4, 3, [], 0)]),
  (94, [(94, .iconst 0, 1, [], 0)]),
  (95, [(95, .invokestatic 446, 3, [1, 6, 3, 141, 1727, 0], 0), (98, .iadd, 1, [], 0), (99, .istore_n 3, 1, [], 0), (100, .iload 4, 2, [], 0), (102, .aload_n 0, 1, [], 0), (103, .getfield 421, 3, [12, 51, 0, 0, 1373, 0], 0), (106, .iconst (-1), 1, [], 0), (107, .if_icmp .ne 7, 3, [], 0)]),
  (110, [(110, .iconst 1, 1, [], 0), (111, .goto 4, 3, [], 0)]),
  (114, [(114, .iconst 0, 1, [], 0)]),
  (115, [(115, .invokestatic 446, 3, [1, 6, 3, 141, 1727, 0], 0), (118, .iadd, 1, [], 0), (119, .istore 4, 2, [], 0), (121, .iload 5, 2, [], 0), (123, .aload_n 0, 1, [], 0), (124, .getfield 409, 3, [12, 49, 0, 0, 1371, 0], 0), (127, .aload_n 0, 1, [], 0), (128, .getfield 74, 3, [12, 36, 532, 1, 1358, 0], 21), (131, .aload_n 0, 1, [], 0), (132, .aload_n 0, 1, [], 0), (133, .getfield 406, 3, [12, 48, 0, 0, 1370, 0], 0), (136, .invokevirtual 396, 3, [1, 7, 1, 148, 1757, 0, 16], 0), (139, .iaload, 1, [], 0), (140, .if_icmp .ne 7, 3, [], 0)]),
  (143, [(143, .iconst 1, 1, [], 0), (144, .goto 4, 3, [], 0)]),
  (147, [(147, .iconst 0, 1, [], 0)]),
  (148, [(148, .invokestatic 446, 3, [1, 6, 3, 141, 1727, 0], 0), (151, .iadd, 1, [], 0), (152, .istore 5, 2, [], 0), (154, .iload 6, 2, [], 0), (156, .aload_n 0, 1, [], 0), (157, .getfield 421, 3, [12, 51, 0, 0, 1373, 0], 0), (160, .iload 7, 2, [], 0), (162, .if_icmp .eq 7, 3, [], 0)]),
  (165, [(165, .iconst 1, 1, [], 0), (166, .goto 4, 3, [], 0)]),
  (169, [(169, .iconst 0, 1, [], 0)]),
  (170, [(170, .invokestatic 446, 3, [1, 6, 3, 141, 1727, 0], 0), (173, .iadd, 1, [], 0), (174, .istore 6, 2, [], 0), (176, .aload_n 0, 1, [], 0), (177, .getfield 421, 3, [12, 51, 0, 0, 1373, 0], 0), (180, .istore 7, 2, [], 0), (182, .goto (-135), 3, [], 0)]),
  (185, [(185, .iload_n 1, 1, [], 0), (186, .tableswitch 40 0 3 #[30, 32, 34, 37], 30, [], 0)]),
  (216, [(216, .iload_n 2, 1, [], 0), (217, .ireturn, 1, [], 0)]),
  (218, [(218, .iload_n 3, 1, [], 0), (219, .ireturn, 1, [], 0)]),
  (220, [(220, .iload 4, 2, [], 0), (222, .ireturn, 1, [], 0)]),
  (223, [(223, .iload 5, 2, [], 0), (225, .ireturn, 1, [], 0)]),
  (226, [(226, .iload 6, 2, [], 0), (228, .ireturn, 1, [], 0)])]
def JX12_run_170 (n : Nat) (bk : Int → Int → Int → Int → Int → Int → Int → Int → Hp → Option ((Int × Int × Int × Int × Int × Int × Hp) ⊕ (Int × Hp))) (x1 x2 x3 x4 x5 x8 z0 z1 : Int) (h : Hp) : Option ((Int × Int × Int × Int × Int × Int × Hp) ⊕ (Int × Hp)) :=
(bndp (MX12_truth z1) fun r1 =>
(ltt (w32 (z0 + r1)) fun y1 =>
(ltt (h 113 51) fun y2 =>
(bk x1 x2 x3 x4 x5 y1 y2 x8 h))))
def JX12_run_148 (n : Nat) (bk : Int → Int → Int → Int → Int → Int → Int → Int → Hp → Option ((Int × Int × Int × Int × Int × Int × Hp) ⊕ (Int × Hp))) (x1 x2 x3 x4 x6 x7 x8 z0 z1 : Int) (h : Hp) : Option ((Int × Int × Int × Int × Int × Int × Hp) ⊕ (Int × Hp)) :=
(bndp (MX12_truth z1) fun r1 =>
(ltt (w32 (z0 + r1)) fun y1 =>
(if (h 113 51) = x7 then
(JX12_run_170 n bk x1 x2 x3 x4 y1 x8 x6 0 h)
else
(JX12_run_170 n bk x1 x2 x3 x4 y1 x8 x6 1 h))))
def JX12_run_115 (n : Nat) (bk : Int → Int → Int → Int → Int → Int → Int → Int → Hp → Option ((Int × Int × Int × Int × Int × Int × Hp) ⊕ (Int × Hp))) (x1 x2 x3 x5 x6 x7 x8 z0 z1 : Int) (h : Hp) : Option ((Int × Int × Int × Int × Int × Int × Hp) ⊕ (Int × Hp)) :=
(bndp (MX12_truth z1) fun r1 =>
(ltt (w32 (z0 + r1)) fun y1 =>
(bndp (MX12_blockAt n (h 113 48) h) fun r2 =>
(grd (0 ≤ r2 ∧ r2 < alen 532)
(if (h 113 49) ≠ (h 134 r2) then
(JX12_run_148 n bk x1 x2 x3 y1 x6 x7 x8 x5 0 h)
else
(JX12_run_148 n bk x1 x2 x3 y1 x6 x7 x8 x5 1 h))))))
def JX12_run_95 (n : Nat) (bk : Int → Int → Int → Int → Int → Int → Int → Int → Hp → Option ((Int × Int × Int × Int × Int × Int × Hp) ⊕ (Int × Hp))) (x1 x2 x4 x5 x6 x7 x8 z0 z1 : Int) (h : Hp) : Option ((Int × Int × Int × Int × Int × Int × Hp) ⊕ (Int × Hp)) :=
(bndp (MX12_truth z1) fun r1 =>
(ltt (w32 (z0 + r1)) fun y1 =>
(if (h 113 51) ≠ (-1) then
(JX12_run_115 n bk x1 x2 y1 x5 x6 x7 x8 x4 0 h)
else
(JX12_run_115 n bk x1 x2 y1 x5 x6 x7 x8 x4 1 h))))
def BX12_run_47 (n : Nat) : Nat → Int → Int → Int → Int → Int → Int → Int → Int → Hp → Option ((Int × Int × Int × Int × Int × Int × Hp) ⊕ (Int × Hp))
  | 0, _, _, _, _, _, _, _, _, _ => none
  | f + 1, x1, x2, x3, x4, x5, x6, x7, x8, h =>
    (bndp (MX12_isDone h) fun r1 =>
    (if r1 ≠ 0 then
    (some (.inl (x1, x2, x3, x4, x5, x6, h)))
    else
    (if x8 ≠ 3000 then
    (bndh (MX12_tick n h) fun h1 =>
    (ltt (w32 (x8 + 1)) fun y1 =>
    (ltt (max x2 (h1 113 49)) fun y2 =>
    (if (h1 113 51) ≠ 1 then
    (JX12_run_95 n (BX12_run_47 n f) x1 y2 x4 x5 x6 x7 y1 x3 0 h1)
    else
    (JX12_run_95 n (BX12_run_47 n f) x1 y2 x4 x5 x6 x7 y1 x3 1 h1)))))
    else
    (some (.inr ((-2), h))))))
def JX12_run_185 (n : Nat) (x1 x2 x3 x4 x5 x6 : Int) (h : Hp) : Option (Int × Hp) :=
(if x1 = 0 then
(some (x2, h))
else
(if x1 = 1 then
(some (x3, h))
else
(if x1 = 2 then
(some (x4, h))
else
(if x1 = 3 then
(some (x5, h))
else
(some (x6, h))))))
def LX12_run_47 (n : Nat) (x1 x2 x3 x4 x5 x6 x7 x8 : Int) (h : Hp) : Option (Int × Hp) :=
(bnds (BX12_run_47 n n x1 x2 x3 x4 x5 x6 x7 x8 h) (fun (e1, e2, e3, e4, e5, e6, h1) =>
(JX12_run_185 n e1 e2 e3 e4 e5 e6 h1)) (fun e => some e))
def MX12_run (n : Nat) (x1 : Int) (h : Hp) : Option (Int × Hp) :=
(bndp (MX12_in x1 0 4) fun r1 =>
(if r1 ≠ 0 then
(bndh (MX12_laysNow n h) fun h1 =>
(bndh (MX12_begins h1) fun h2 =>
(ltt (up h2 113 52 0) fun h3 =>
(ltt 0 fun y1 =>
(ltt 0 fun y2 =>
(ltt 0 fun y3 =>
(ltt 0 fun y4 =>
(ltt 0 fun y5 =>
(ltt (-2) fun y6 =>
(ltt 0 fun y7 =>
(LX12_run_47 n x1 y1 y2 y3 y4 y5 y6 y7 h3)))))))))))
else
(some ((-1), h))))
def wX12_run {ρ : Type} (n : Nat) : FN ρ := fun a h k => match a with
  | [_, x1] => bnd (MX12_run n x1 h) (fun r h2 => k r h2)
  | _ => none
def fsX12_run (n : Nat) (ρ : Type) : List (FN ρ) := [wX12_in, wX12_laysNow n, wX12_begins, wX12_isDone, wX12_tick n, fmax, wX12_truth, wX12_blockAt n]
def KJX12_run_170 (_ : Nat) (bk : Int → Int → Int → Int → Int → Int → Int → Int → Hp → Option ((Int × Int × Int × Int × Int × Int × Hp) ⊕ (Int × Hp))) : CT ((Int × Int × Int × Int × Int × Int × Hp) ⊕ (Int × Hp)) := [(47, [(0, 16, (some 113)), (1, 0, none), (2, 0, none), (3, 0, none), (4, 0, none), (5, 0, none), (6, 0, none), (7, 0, none), (8, 0, none)], [], fun a c h => match a, c with
    | [x1, x2, x3, x4, x5, x6, x7, x8], [] => bk x1 x2 x3 x4 x5 x6 x7 x8 h
    | _, _ => none),
  (185, [(1, 0, none), (2, 0, none), (3, 0, none), (4, 0, none), (5, 0, none), (6, 0, none)], [], fun a c h => match a, c with
    | [x1, x2, x3, x4, x5, x6], [] => some (.inl (x1, x2, x3, x4, x5, x6, h))
    | _, _ => none)]
set_option maxRecDepth 100000 in
theorem eJX12_run_170 (n : Nat) (bk : Int → Int → Int → Int → Int → Int → Int → Int → Hp → Option ((Int × Int × Int × Int × Int × Int × Hp) ⊕ (Int × Hp))) (x1 : Int) (x2 : Int) (x3 : Int) (x4 : Int) (x5 : Int) (x8 : Int) (z0 : Int) (z1 : Int) (h : Hp) : JX12_run_170 n bk x1 x2 x3 x4 x5 x8 z0 z1 h =
  goAt false (kct (KJX12_run_170 n bk)) (fun v h => some (.inr (v, h))) (fsX12_run n _) sdX12_run 1000 170 [(0, 16, 113), (1, 0, x1), (2, 0, x2), (3, 0, x3), (4, 0, x4), (5, 0, x5), (8, 0, x8)] [(0, z1), (0, z0)] h := rfl
def KJX12_run_148 (n : Nat) (bk : Int → Int → Int → Int → Int → Int → Int → Int → Hp → Option ((Int × Int × Int × Int × Int × Int × Hp) ⊕ (Int × Hp))) : CT ((Int × Int × Int × Int × Int × Int × Hp) ⊕ (Int × Hp)) := [(47, [(0, 16, (some 113)), (1, 0, none), (2, 0, none), (3, 0, none), (4, 0, none), (5, 0, none), (6, 0, none), (7, 0, none), (8, 0, none)], [], fun a c h => match a, c with
    | [x1, x2, x3, x4, x5, x6, x7, x8], [] => bk x1 x2 x3 x4 x5 x6 x7 x8 h
    | _, _ => none),
  (185, [(1, 0, none), (2, 0, none), (3, 0, none), (4, 0, none), (5, 0, none), (6, 0, none)], [], fun a c h => match a, c with
    | [x1, x2, x3, x4, x5, x6], [] => some (.inl (x1, x2, x3, x4, x5, x6, h))
    | _, _ => none),
  (170, [(0, 16, (some 113)), (1, 0, none), (2, 0, none), (3, 0, none), (4, 0, none), (5, 0, none), (8, 0, none)], [(0, none), (0, none)], fun a c h => match a, c with
    | [x1, x2, x3, x4, x5, x8], [z1, z0] => JX12_run_170 n bk x1 x2 x3 x4 x5 x8 z0 z1 h
    | _, _ => none)]
set_option maxRecDepth 100000 in
theorem eJX12_run_148 (n : Nat) (bk : Int → Int → Int → Int → Int → Int → Int → Int → Hp → Option ((Int × Int × Int × Int × Int × Int × Hp) ⊕ (Int × Hp))) (x1 : Int) (x2 : Int) (x3 : Int) (x4 : Int) (x6 : Int) (x7 : Int) (x8 : Int) (z0 : Int) (z1 : Int) (h : Hp) : JX12_run_148 n bk x1 x2 x3 x4 x6 x7 x8 z0 z1 h =
  goAt false (kct (KJX12_run_148 n bk)) (fun v h => some (.inr (v, h))) (fsX12_run n _) sdX12_run 1000 148 [(0, 16, 113), (1, 0, x1), (2, 0, x2), (3, 0, x3), (4, 0, x4), (6, 0, x6), (7, 0, x7), (8, 0, x8)] [(0, z1), (0, z0)] h := rfl
def KJX12_run_115 (n : Nat) (bk : Int → Int → Int → Int → Int → Int → Int → Int → Hp → Option ((Int × Int × Int × Int × Int × Int × Hp) ⊕ (Int × Hp))) : CT ((Int × Int × Int × Int × Int × Int × Hp) ⊕ (Int × Hp)) := [(47, [(0, 16, (some 113)), (1, 0, none), (2, 0, none), (3, 0, none), (4, 0, none), (5, 0, none), (6, 0, none), (7, 0, none), (8, 0, none)], [], fun a c h => match a, c with
    | [x1, x2, x3, x4, x5, x6, x7, x8], [] => bk x1 x2 x3 x4 x5 x6 x7 x8 h
    | _, _ => none),
  (185, [(1, 0, none), (2, 0, none), (3, 0, none), (4, 0, none), (5, 0, none), (6, 0, none)], [], fun a c h => match a, c with
    | [x1, x2, x3, x4, x5, x6], [] => some (.inl (x1, x2, x3, x4, x5, x6, h))
    | _, _ => none),
  (148, [(0, 16, (some 113)), (1, 0, none), (2, 0, none), (3, 0, none), (4, 0, none), (6, 0, none), (7, 0, none), (8, 0, none)], [(0, none), (0, none)], fun a c h => match a, c with
    | [x1, x2, x3, x4, x6, x7, x8], [z1, z0] => JX12_run_148 n bk x1 x2 x3 x4 x6 x7 x8 z0 z1 h
    | _, _ => none)]
set_option maxRecDepth 100000 in
theorem eJX12_run_115 (n : Nat) (bk : Int → Int → Int → Int → Int → Int → Int → Int → Hp → Option ((Int × Int × Int × Int × Int × Int × Hp) ⊕ (Int × Hp))) (x1 : Int) (x2 : Int) (x3 : Int) (x5 : Int) (x6 : Int) (x7 : Int) (x8 : Int) (z0 : Int) (z1 : Int) (h : Hp) : JX12_run_115 n bk x1 x2 x3 x5 x6 x7 x8 z0 z1 h =
  goAt false (kct (KJX12_run_115 n bk)) (fun v h => some (.inr (v, h))) (fsX12_run n _) sdX12_run 1000 115 [(0, 16, 113), (1, 0, x1), (2, 0, x2), (3, 0, x3), (5, 0, x5), (6, 0, x6), (7, 0, x7), (8, 0, x8)] [(0, z1), (0, z0)] h := rfl
def KJX12_run_95 (n : Nat) (bk : Int → Int → Int → Int → Int → Int → Int → Int → Hp → Option ((Int × Int × Int × Int × Int × Int × Hp) ⊕ (Int × Hp))) : CT ((Int × Int × Int × Int × Int × Int × Hp) ⊕ (Int × Hp)) := [(47, [(0, 16, (some 113)), (1, 0, none), (2, 0, none), (3, 0, none), (4, 0, none), (5, 0, none), (6, 0, none), (7, 0, none), (8, 0, none)], [], fun a c h => match a, c with
    | [x1, x2, x3, x4, x5, x6, x7, x8], [] => bk x1 x2 x3 x4 x5 x6 x7 x8 h
    | _, _ => none),
  (185, [(1, 0, none), (2, 0, none), (3, 0, none), (4, 0, none), (5, 0, none), (6, 0, none)], [], fun a c h => match a, c with
    | [x1, x2, x3, x4, x5, x6], [] => some (.inl (x1, x2, x3, x4, x5, x6, h))
    | _, _ => none),
  (115, [(0, 16, (some 113)), (1, 0, none), (2, 0, none), (3, 0, none), (5, 0, none), (6, 0, none), (7, 0, none), (8, 0, none)], [(0, none), (0, none)], fun a c h => match a, c with
    | [x1, x2, x3, x5, x6, x7, x8], [z1, z0] => JX12_run_115 n bk x1 x2 x3 x5 x6 x7 x8 z0 z1 h
    | _, _ => none)]
set_option maxRecDepth 100000 in
theorem eJX12_run_95 (n : Nat) (bk : Int → Int → Int → Int → Int → Int → Int → Int → Hp → Option ((Int × Int × Int × Int × Int × Int × Hp) ⊕ (Int × Hp))) (x1 : Int) (x2 : Int) (x4 : Int) (x5 : Int) (x6 : Int) (x7 : Int) (x8 : Int) (z0 : Int) (z1 : Int) (h : Hp) : JX12_run_95 n bk x1 x2 x4 x5 x6 x7 x8 z0 z1 h =
  goAt false (kct (KJX12_run_95 n bk)) (fun v h => some (.inr (v, h))) (fsX12_run n _) sdX12_run 1000 95 [(0, 16, 113), (1, 0, x1), (2, 0, x2), (4, 0, x4), (5, 0, x5), (6, 0, x6), (7, 0, x7), (8, 0, x8)] [(0, z1), (0, z0)] h := rfl
def KBX12_run_47 (n : Nat) (bk : Int → Int → Int → Int → Int → Int → Int → Int → Hp → Option ((Int × Int × Int × Int × Int × Int × Hp) ⊕ (Int × Hp))) : CT ((Int × Int × Int × Int × Int × Int × Hp) ⊕ (Int × Hp)) := [(47, [(0, 16, (some 113)), (1, 0, none), (2, 0, none), (3, 0, none), (4, 0, none), (5, 0, none), (6, 0, none), (7, 0, none), (8, 0, none)], [], fun a c h => match a, c with
    | [x1, x2, x3, x4, x5, x6, x7, x8], [] => bk x1 x2 x3 x4 x5 x6 x7 x8 h
    | _, _ => none),
  (185, [(1, 0, none), (2, 0, none), (3, 0, none), (4, 0, none), (5, 0, none), (6, 0, none)], [], fun a c h => match a, c with
    | [x1, x2, x3, x4, x5, x6], [] => some (.inl (x1, x2, x3, x4, x5, x6, h))
    | _, _ => none),
  (95, [(0, 16, (some 113)), (1, 0, none), (2, 0, none), (4, 0, none), (5, 0, none), (6, 0, none), (7, 0, none), (8, 0, none)], [(0, none), (0, none)], fun a c h => match a, c with
    | [x1, x2, x4, x5, x6, x7, x8], [z1, z0] => JX12_run_95 n bk x1 x2 x4 x5 x6 x7 x8 z0 z1 h
    | _, _ => none)]
set_option maxRecDepth 100000 in
theorem eBX12_run_47 (n f : Nat) (x1 : Int) (x2 : Int) (x3 : Int) (x4 : Int) (x5 : Int) (x6 : Int) (x7 : Int) (x8 : Int) (h : Hp) : BX12_run_47 n (f + 1) x1 x2 x3 x4 x5 x6 x7 x8 h =
  goAt false (kct (KBX12_run_47 n (BX12_run_47 n f))) (fun v h => some (.inr (v, h))) (fsX12_run n _) sdX12_run 1000 47 [(0, 16, 113), (1, 0, x1), (2, 0, x2), (3, 0, x3), (4, 0, x4), (5, 0, x5), (6, 0, x6), (7, 0, x7), (8, 0, x8)] [] h := rfl
def KJX12_run_185 (_ : Nat) : CT (Int × Hp) := []
set_option maxRecDepth 100000 in
theorem eJX12_run_185 (n : Nat) (x1 : Int) (x2 : Int) (x3 : Int) (x4 : Int) (x5 : Int) (x6 : Int) (h : Hp) : JX12_run_185 n x1 x2 x3 x4 x5 x6 h =
  goAt false (kct (KJX12_run_185 n)) (fun v h => some ((v, h))) (fsX12_run n _) sdX12_run 1000 185 [(1, 0, x1), (2, 0, x2), (3, 0, x3), (4, 0, x4), (5, 0, x5), (6, 0, x6)] [] h := rfl
def KMX12_run (n : Nat) : CT (Int × Hp) := [(47, [(0, 16, (some 113)), (1, 0, none), (2, 0, none), (3, 0, none), (4, 0, none), (5, 0, none), (6, 0, none), (7, 0, none), (8, 0, none)], [], fun a c h => match a, c with
    | [x1, x2, x3, x4, x5, x6, x7, x8], [] => LX12_run_47 n x1 x2 x3 x4 x5 x6 x7 x8 h
    | _, _ => none)]
set_option maxRecDepth 100000 in
theorem eMX12_run (n : Nat) (x1 : Int) (h : Hp) : MX12_run n x1 h =
  goAt false (kct (KMX12_run n)) (fun v h => some ((v, h))) (fsX12_run n _) sdX12_run 1000 0 [(0, 16, 113), (1, 0, x1)] [] h := rfl
theorem okX12_run : mokb (mi 216) = true := by decide +kernel
theorem rkX12_run : rkOK 1 (mi 216).1.2.2.2.2.2.2.1 (mi 216).1.2.2.2.1 := Or.inr (Or.inl ⟨rfl, rfl, rfl⟩)
def calX12_run : List Nat := [81, 116, 137, 140, 152, 262, 141, 148]
theorem foX12_run {l : Launch} {ρ : Type} (n : Nat) : fsOK l false mi calX12_run (fsX12_run n ρ) := ⟨sndX12_in, ⟨(sndX12_laysNow n), ⟨sndX12_begins, ⟨sndX12_isDone, ⟨(sndX12_tick n), ⟨snd_mmax, ⟨sndX12_truth, ⟨(sndX12_blockAt n), trivial⟩⟩⟩⟩⟩⟩⟩⟩
theorem ok_sdX12_run : sdb (mi 216).1.2.1 (insOK mi (mi 216).1.1.cls (mi 216).1.2.2.1 (mi 216).1.2.2.2.2.1 (mi 216).1.2.2.2.2.2.1 calX12_run false 1) sdX12_run = true := by decide +kernel
def GX12_run_47 (l : Launch) (h0 : Hp) (h' : Hp) (v : Int) (_ : Hp) : ((Int × Int × Int × Int × Int × Int × Hp) ⊕ (Int × Hp)) → Prop
  | .inl (e1, e2, e3, e4, e5, e6, h1) => PAt l false (mi 216).1 h0 v h' 185 [(1, 0, e1), (2, 0, e2), (3, 0, e3), (4, 0, e4), (5, 0, e5), (6, 0, e6)] [] h1
  | .inr x => gWV v h' x
theorem sJX12_run_170 {l : Launch} {h0 h' : Hp} {v : Int} (h8 : nOf h0 = 148) (n : Nat) (bk : Int → Int → Int → Int → Int → Int → Int → Int → Hp → Option ((Int × Int × Int × Int × Int × Int × Hp) ⊕ (Int × Hp))) (hbk : ∀ (x1 : Int) (x2 : Int) (x3 : Int) (x4 : Int) (x5 : Int) (x6 : Int) (x7 : Int) (x8 : Int) (h : Hp) (r : (Int × Int × Int × Int × Int × Int × Hp) ⊕ (Int × Hp)), bk x1 x2 x3 x4 x5 x6 x7 x8 h = some r → GX12_run_47 l h0 h' v h r → PAt l false (mi 216).1 h0 v h' 47 [(0, 16, 113), (1, 0, x1), (2, 0, x2), (3, 0, x3), (4, 0, x4), (5, 0, x5), (6, 0, x6), (7, 0, x7), (8, 0, x8)] [] h) (x1 : Int) (x2 : Int) (x3 : Int) (x4 : Int) (x5 : Int) (x8 : Int) (z0 : Int) (z1 : Int) (h : Hp) {r : (Int × Int × Int × Int × Int × Int × Hp) ⊕ (Int × Hp)} (H : JX12_run_170 n bk x1 x2 x3 x4 x5 x8 z0 z1 h = some r) (hG : GX12_run_47 l h0 h' v h r) : PAt l false (mi 216).1 h0 v h' 170 [(0, 16, 113), (1, 0, x1), (2, 0, x2), (3, 0, x3), (4, 0, x4), (5, 0, x5), (8, 0, x8)] [(0, z1), (0, z0)] h :=
  pat_w ok_sdX12_run rkX12_run h8 (foX12_run n) (fun v1 h1 q => by
    cases q
    exact ⟨hG.1, fun _ => hG.2⟩) (List.forall_mem_cons.mpr ⟨(fun a c h H => by
      dsimp only at H
      split at H
      · exact hbk _ _ _ _ _ _ _ _ _ _ H hG
      · cases H), (List.forall_mem_cons.mpr ⟨(fun a c h H => by
      dsimp only at H
      split at H
      · cases H
        exact hG
      · cases H), (fun q9 h9 => by cases h9)⟩)⟩) ((eJX12_run_170 n bk x1 x2 x3 x4 x5 x8 z0 z1 h).symm.trans H)
theorem sJX12_run_148 {l : Launch} {h0 h' : Hp} {v : Int} (h8 : nOf h0 = 148) (n : Nat) (bk : Int → Int → Int → Int → Int → Int → Int → Int → Hp → Option ((Int × Int × Int × Int × Int × Int × Hp) ⊕ (Int × Hp))) (hbk : ∀ (x1 : Int) (x2 : Int) (x3 : Int) (x4 : Int) (x5 : Int) (x6 : Int) (x7 : Int) (x8 : Int) (h : Hp) (r : (Int × Int × Int × Int × Int × Int × Hp) ⊕ (Int × Hp)), bk x1 x2 x3 x4 x5 x6 x7 x8 h = some r → GX12_run_47 l h0 h' v h r → PAt l false (mi 216).1 h0 v h' 47 [(0, 16, 113), (1, 0, x1), (2, 0, x2), (3, 0, x3), (4, 0, x4), (5, 0, x5), (6, 0, x6), (7, 0, x7), (8, 0, x8)] [] h) (x1 : Int) (x2 : Int) (x3 : Int) (x4 : Int) (x6 : Int) (x7 : Int) (x8 : Int) (z0 : Int) (z1 : Int) (h : Hp) {r : (Int × Int × Int × Int × Int × Int × Hp) ⊕ (Int × Hp)} (H : JX12_run_148 n bk x1 x2 x3 x4 x6 x7 x8 z0 z1 h = some r) (hG : GX12_run_47 l h0 h' v h r) : PAt l false (mi 216).1 h0 v h' 148 [(0, 16, 113), (1, 0, x1), (2, 0, x2), (3, 0, x3), (4, 0, x4), (6, 0, x6), (7, 0, x7), (8, 0, x8)] [(0, z1), (0, z0)] h :=
  pat_w ok_sdX12_run rkX12_run h8 (foX12_run n) (fun v1 h1 q => by
    cases q
    exact ⟨hG.1, fun _ => hG.2⟩) (List.forall_mem_cons.mpr ⟨(fun a c h H => by
      dsimp only at H
      split at H
      · exact hbk _ _ _ _ _ _ _ _ _ _ H hG
      · cases H), (List.forall_mem_cons.mpr ⟨(fun a c h H => by
      dsimp only at H
      split at H
      · cases H
        exact hG
      · cases H), (List.forall_mem_cons.mpr ⟨(fun a c h H => by
      dsimp only at H
      split at H
      · exact sJX12_run_170 h8 n bk hbk _ _ _ _ _ _ _ _ _ H hG
      · cases H), (fun q9 h9 => by cases h9)⟩)⟩)⟩) ((eJX12_run_148 n bk x1 x2 x3 x4 x6 x7 x8 z0 z1 h).symm.trans H)
theorem sJX12_run_115 {l : Launch} {h0 h' : Hp} {v : Int} (h8 : nOf h0 = 148) (n : Nat) (bk : Int → Int → Int → Int → Int → Int → Int → Int → Hp → Option ((Int × Int × Int × Int × Int × Int × Hp) ⊕ (Int × Hp))) (hbk : ∀ (x1 : Int) (x2 : Int) (x3 : Int) (x4 : Int) (x5 : Int) (x6 : Int) (x7 : Int) (x8 : Int) (h : Hp) (r : (Int × Int × Int × Int × Int × Int × Hp) ⊕ (Int × Hp)), bk x1 x2 x3 x4 x5 x6 x7 x8 h = some r → GX12_run_47 l h0 h' v h r → PAt l false (mi 216).1 h0 v h' 47 [(0, 16, 113), (1, 0, x1), (2, 0, x2), (3, 0, x3), (4, 0, x4), (5, 0, x5), (6, 0, x6), (7, 0, x7), (8, 0, x8)] [] h) (x1 : Int) (x2 : Int) (x3 : Int) (x5 : Int) (x6 : Int) (x7 : Int) (x8 : Int) (z0 : Int) (z1 : Int) (h : Hp) {r : (Int × Int × Int × Int × Int × Int × Hp) ⊕ (Int × Hp)} (H : JX12_run_115 n bk x1 x2 x3 x5 x6 x7 x8 z0 z1 h = some r) (hG : GX12_run_47 l h0 h' v h r) : PAt l false (mi 216).1 h0 v h' 115 [(0, 16, 113), (1, 0, x1), (2, 0, x2), (3, 0, x3), (5, 0, x5), (6, 0, x6), (7, 0, x7), (8, 0, x8)] [(0, z1), (0, z0)] h :=
  pat_w ok_sdX12_run rkX12_run h8 (foX12_run n) (fun v1 h1 q => by
    cases q
    exact ⟨hG.1, fun _ => hG.2⟩) (List.forall_mem_cons.mpr ⟨(fun a c h H => by
      dsimp only at H
      split at H
      · exact hbk _ _ _ _ _ _ _ _ _ _ H hG
      · cases H), (List.forall_mem_cons.mpr ⟨(fun a c h H => by
      dsimp only at H
      split at H
      · cases H
        exact hG
      · cases H), (List.forall_mem_cons.mpr ⟨(fun a c h H => by
      dsimp only at H
      split at H
      · exact sJX12_run_148 h8 n bk hbk _ _ _ _ _ _ _ _ _ _ H hG
      · cases H), (fun q9 h9 => by cases h9)⟩)⟩)⟩) ((eJX12_run_115 n bk x1 x2 x3 x5 x6 x7 x8 z0 z1 h).symm.trans H)
theorem sJX12_run_95 {l : Launch} {h0 h' : Hp} {v : Int} (h8 : nOf h0 = 148) (n : Nat) (bk : Int → Int → Int → Int → Int → Int → Int → Int → Hp → Option ((Int × Int × Int × Int × Int × Int × Hp) ⊕ (Int × Hp))) (hbk : ∀ (x1 : Int) (x2 : Int) (x3 : Int) (x4 : Int) (x5 : Int) (x6 : Int) (x7 : Int) (x8 : Int) (h : Hp) (r : (Int × Int × Int × Int × Int × Int × Hp) ⊕ (Int × Hp)), bk x1 x2 x3 x4 x5 x6 x7 x8 h = some r → GX12_run_47 l h0 h' v h r → PAt l false (mi 216).1 h0 v h' 47 [(0, 16, 113), (1, 0, x1), (2, 0, x2), (3, 0, x3), (4, 0, x4), (5, 0, x5), (6, 0, x6), (7, 0, x7), (8, 0, x8)] [] h) (x1 : Int) (x2 : Int) (x4 : Int) (x5 : Int) (x6 : Int) (x7 : Int) (x8 : Int) (z0 : Int) (z1 : Int) (h : Hp) {r : (Int × Int × Int × Int × Int × Int × Hp) ⊕ (Int × Hp)} (H : JX12_run_95 n bk x1 x2 x4 x5 x6 x7 x8 z0 z1 h = some r) (hG : GX12_run_47 l h0 h' v h r) : PAt l false (mi 216).1 h0 v h' 95 [(0, 16, 113), (1, 0, x1), (2, 0, x2), (4, 0, x4), (5, 0, x5), (6, 0, x6), (7, 0, x7), (8, 0, x8)] [(0, z1), (0, z0)] h :=
  pat_w ok_sdX12_run rkX12_run h8 (foX12_run n) (fun v1 h1 q => by
    cases q
    exact ⟨hG.1, fun _ => hG.2⟩) (List.forall_mem_cons.mpr ⟨(fun a c h H => by
      dsimp only at H
      split at H
      · exact hbk _ _ _ _ _ _ _ _ _ _ H hG
      · cases H), (List.forall_mem_cons.mpr ⟨(fun a c h H => by
      dsimp only at H
      split at H
      · cases H
        exact hG
      · cases H), (List.forall_mem_cons.mpr ⟨(fun a c h H => by
      dsimp only at H
      split at H
      · exact sJX12_run_115 h8 n bk hbk _ _ _ _ _ _ _ _ _ _ H hG
      · cases H), (fun q9 h9 => by cases h9)⟩)⟩)⟩) ((eJX12_run_95 n bk x1 x2 x4 x5 x6 x7 x8 z0 z1 h).symm.trans H)
theorem sBX12_run_47 {l : Launch} {h0 h' : Hp} {v : Int} (h8 : nOf h0 = 148) (n : Nat) : ∀ (f : Nat) (x1 : Int) (x2 : Int) (x3 : Int) (x4 : Int) (x5 : Int) (x6 : Int) (x7 : Int) (x8 : Int) (h : Hp) {r : (Int × Int × Int × Int × Int × Int × Hp) ⊕ (Int × Hp)}, BX12_run_47 n f x1 x2 x3 x4 x5 x6 x7 x8 h = some r → GX12_run_47 l h0 h' v h r → PAt l false (mi 216).1 h0 v h' 47 [(0, 16, 113), (1, 0, x1), (2, 0, x2), (3, 0, x3), (4, 0, x4), (5, 0, x5), (6, 0, x6), (7, 0, x7), (8, 0, x8)] [] h := by
  intro f
  induction f with
  | zero =>
    intro x1 x2 x3 x4 x5 x6 x7 x8 h r H _
    have H2 : (none : Option ((Int × Int × Int × Int × Int × Int × Hp) ⊕ (Int × Hp))) = some r := H
    cases H2
  | succ f ih =>
    intro x1 x2 x3 x4 x5 x6 x7 x8 h r H hG
    have ihk : ∀ (x1 : Int) (x2 : Int) (x3 : Int) (x4 : Int) (x5 : Int) (x6 : Int) (x7 : Int) (x8 : Int) (h : Hp) (r : (Int × Int × Int × Int × Int × Int × Hp) ⊕ (Int × Hp)), BX12_run_47 n f x1 x2 x3 x4 x5 x6 x7 x8 h = some r → GX12_run_47 l h0 h' v h r → PAt l false (mi 216).1 h0 v h' 47 [(0, 16, 113), (1, 0, x1), (2, 0, x2), (3, 0, x3), (4, 0, x4), (5, 0, x5), (6, 0, x6), (7, 0, x7), (8, 0, x8)] [] h := fun x1 x2 x3 x4 x5 x6 x7 x8 h r9 a9 b9 => ih x1 x2 x3 x4 x5 x6 x7 x8 h a9 b9
    exact pat_w ok_sdX12_run rkX12_run h8 (foX12_run n) (fun v1 h1 q => by
    cases q
    exact ⟨hG.1, fun _ => hG.2⟩) (List.forall_mem_cons.mpr ⟨(fun a c h H => by
      dsimp only at H
      split at H
      · exact ih _ _ _ _ _ _ _ _ _ H hG
      · cases H), (List.forall_mem_cons.mpr ⟨(fun a c h H => by
      dsimp only at H
      split at H
      · cases H
        exact hG
      · cases H), (List.forall_mem_cons.mpr ⟨(fun a c h H => by
      dsimp only at H
      split at H
      · exact sJX12_run_95 h8 n (BX12_run_47 n f) ihk _ _ _ _ _ _ _ _ _ _ H hG
      · cases H), (fun q9 h9 => by cases h9)⟩)⟩)⟩) ((eBX12_run_47 n f x1 x2 x3 x4 x5 x6 x7 x8 h).symm.trans H)
theorem sJX12_run_185 {l : Launch} {h0 h' : Hp} {v : Int} (h8 : nOf h0 = 148) (n : Nat) (x1 : Int) (x2 : Int) (x3 : Int) (x4 : Int) (x5 : Int) (x6 : Int) (h : Hp) {r : Int × Hp} (H : JX12_run_185 n x1 x2 x3 x4 x5 x6 h = some r) (hG : gWV v h' r) : PAt l false (mi 216).1 h0 v h' 185 [(1, 0, x1), (2, 0, x2), (3, 0, x3), (4, 0, x4), (5, 0, x5), (6, 0, x6)] [] h :=
  pat_w ok_sdX12_run rkX12_run h8 (foX12_run n) (fun v1 h1 q => by
    cases q
    exact ⟨hG.1, fun _ => hG.2⟩) (fun q9 h9 => by cases h9) ((eJX12_run_185 n x1 x2 x3 x4 x5 x6 h).symm.trans H)
theorem sLX12_run_47 {l : Launch} {h0 h' : Hp} {v : Int} (h8 : nOf h0 = 148) (n : Nat) (x1 : Int) (x2 : Int) (x3 : Int) (x4 : Int) (x5 : Int) (x6 : Int) (x7 : Int) (x8 : Int) (h : Hp) {r : Int × Hp} (H : LX12_run_47 n x1 x2 x3 x4 x5 x6 x7 x8 h = some r) (hG : gWV v h' r) : PAt l false (mi 216).1 h0 v h' 47 [(0, 16, 113), (1, 0, x1), (2, 0, x2), (3, 0, x3), (4, 0, x4), (5, 0, x5), (6, 0, x6), (7, 0, x7), (8, 0, x8)] [] h := by
  rcases bnds_some H with ⟨e9, h2, h3⟩ | ⟨e8, h2, h3⟩
  · obtain ⟨e1, e2, e3, e4, e5, e6, h1⟩ := e9
    exact sBX12_run_47 h8 n n x1 x2 x3 x4 x5 x6 x7 x8 h h2 (sJX12_run_185 h8 n e1 e2 e3 e4 e5 e6 h1 h3 hG)
  · cases h3
    exact sBX12_run_47 h8 n n x1 x2 x3 x4 x5 x6 x7 x8 h h2 hG
theorem sMX12_run {l : Launch} {h0 h' : Hp} {v : Int} (h8 : nOf h0 = 148) (n : Nat) (x1 : Int) (h : Hp) {r : Int × Hp} (H : MX12_run n x1 h = some r) (hG : gWV v h' r) : PAt l false (mi 216).1 h0 v h' 0 [(0, 16, 113), (1, 0, x1)] [] h :=
  pat_w ok_sdX12_run rkX12_run h8 (foX12_run n) (fun v1 h1 q => by
    cases q
    exact ⟨hG.1, fun _ => hG.2⟩) (List.forall_mem_cons.mpr ⟨(fun a c h H => by
      dsimp only at H
      split at H
      · exact sLX12_run_47 h8 n _ _ _ _ _ _ _ _ _ H hG
      · cases H), (fun q9 h9 => by cases h9)⟩) ((eMX12_run n x1 h).symm.trans H)
theorem sndX12_run {ρ : Type} {l : Launch} (n : Nat) : SndF (ρ := ρ) l false (mi 216).1 (wX12_run n) := by
    intro a h k r H ha ho hn hf
    have h8 := hf rfl
    obtain ⟨x0, x1, rfl⟩ := len2 (show a.length = 2 from ha)
    have u0 := uq16 hn (ho (16, x0) (List.mem_cons_self))
    subst u0
    replace H : bnd (MX12_run n x1 h) (fun r h2 => k r h2) = some r := H
    obtain ⟨v2, h2, H1, H2⟩ := bnd_some H
    exact ⟨v2, h2, H2, met_mk (mok_base okX12_run).1 (by decide +kernel) (Nat.le_of_ble_eq_true rfl) ho (sMX12_run h8 n x1 h H1 ⟨rfl, rfl⟩), fun q => by cases q⟩
/-! X11_halt -/
def sdX11_halt : SD := [(0, [(0, .iload_n 1, 1, [], 0), (1, .ifCond .lt 10, 3, [], 0)]),
  (4, [(4, .iload_n 1, 1, [], 0), (5, .sipush 300, 3, [], 0), (8, .if_icmp .le 5, 3, [], 0)]),
  (11, [(11, .iconst (-1), 1, [], 0), (12, .ireturn, 1, [], 0)]),
  (13, [(13, .aload_n 0, 1, [], 0), (14, .getfield 61, 3, [11, 8, 12, 1, 698, 0], 65), (17, .aload_n 0, 1, [], 0), (18, .getfield 57, 3, [11, 7, 12, 1, 697, 0], 64), (21, .invokevirtual 225, 3, [0, 0, 1, 124, 1120, 12, 12], 0), (24, .aload_n 0, 1, [], 0), (25, .getfield 47, 3, [11, 5, 5, 1, 695, 0], 50), (28, .aload_n 0, 1, [], 0), (29, .getfield 61, 3, [11, 8, 12, 1, 698, 0], 65), (32, .iload_n 1, 1, [], 0), (33, .invokevirtual 228, 3, [0, 1, 1, 174, 1121, 0, 12, 5], 0), (36, .aload_n 0, 1, [], 0), (37, .getfield 47, 3, [11, 5, 5, 1, 695, 0], 50), (40, .aload_n 0, 1, [], 0), (41, .getfield 61, 3, [11, 8, 12, 1, 698, 0], 65), (44, .invokevirtual 249, 3, [1, 2, 1, 189, 1150, 12, 5], 0), (47, .pop, 1, [], 0), (48, .aload_n 0, 1, [], 0), (49, .getfield 61, 3, [11, 8, 12, 1, 698, 0], 65), (52, .getfield 200, 3, [8, 0, 0, 0, 483, 0], 0), (55, .ireturn, 1, [], 0)])]
def MX11_halt (n : Nat) (x1 : Int) (h : Hp) : Option (Int × Hp) :=
(if x1 < 0 then
(some ((-1), h))
else
(if x1 ≤ 300 then
(bndh (MX8_become 65 64 h) fun h1 =>
(bndh (MX1_goOn n 50 65 x1 h1) fun h2 =>
(bnd (MX1_brakeToRest n 50 65 h2) fun r1 h3 =>
(some ((h3 65 0), h3)))))
else
(some ((-1), h))))
def wX11_halt {ρ : Type} (n : Nat) : FN ρ := fun a h k => match a with
  | [_, x1] => bnd (MX11_halt n x1 h) (fun r h2 => k r h2)
  | _ => none
def fsX11_halt (n : Nat) (ρ : Type) : List (FN ρ) := [wX8_become, wX1_goOn n, wX1_brakeToRest n]
def KMX11_halt (_ : Nat) : CT (Int × Hp) := []
set_option maxRecDepth 100000 in
theorem eMX11_halt (n : Nat) (x1 : Int) (h : Hp) : MX11_halt n x1 h =
  goAt false (kct (KMX11_halt n)) (fun v h => some ((v, h))) (fsX11_halt n _) sdX11_halt 1000 0 [(0, 15, 0), (1, 0, x1)] [] h := rfl
theorem okX11_halt : mokb (mi 217) = true := by decide +kernel
theorem rkX11_halt : rkOK 1 (mi 217).1.2.2.2.2.2.2.1 (mi 217).1.2.2.2.1 := Or.inr (Or.inl ⟨rfl, rfl, rfl⟩)
def calX11_halt : List Nat := [124, 174, 189]
theorem foX11_halt {l : Launch} {ρ : Type} (n : Nat) : fsOK l false mi calX11_halt (fsX11_halt n ρ) := ⟨sndX8_become, ⟨(sndX1_goOn n), ⟨(sndX1_brakeToRest n), trivial⟩⟩⟩
theorem ok_sdX11_halt : sdb (mi 217).1.2.1 (insOK mi (mi 217).1.1.cls (mi 217).1.2.2.1 (mi 217).1.2.2.2.2.1 (mi 217).1.2.2.2.2.2.1 calX11_halt false 1) sdX11_halt = true := by decide +kernel
theorem sMX11_halt {l : Launch} {h0 h' : Hp} {v : Int} (h8 : nOf h0 = 148) (n : Nat) (x1 : Int) (h : Hp) {r : Int × Hp} (H : MX11_halt n x1 h = some r) (hG : gWV v h' r) : PAt l false (mi 217).1 h0 v h' 0 [(0, 15, 0), (1, 0, x1)] [] h :=
  pat_w ok_sdX11_halt rkX11_halt h8 (foX11_halt n) (fun v1 h1 q => by
    cases q
    exact ⟨hG.1, fun _ => hG.2⟩) (fun q9 h9 => by cases h9) ((eMX11_halt n x1 h).symm.trans H)
theorem sndX11_halt {ρ : Type} {l : Launch} (n : Nat) : SndF (ρ := ρ) l false (mi 217).1 (wX11_halt n) := by
    intro a h k r H ha ho hn hf
    have h8 := hf rfl
    obtain ⟨x0, x1, rfl⟩ := len2 (show a.length = 2 from ha)
    have u0 := uq15 hn (ho (15, x0) (List.mem_cons_self))
    subst u0
    replace H : bnd (MX11_halt n x1 h) (fun r h2 => k r h2) = some r := H
    obtain ⟨v2, h2, H1, H2⟩ := bnd_some H
    exact ⟨v2, h2, H2, met_mk (mok_base okX11_halt).1 (by decide +kernel) (Nat.le_of_ble_eq_true rfl) ho (sMX11_halt h8 n x1 h H1 ⟨rfl, rfl⟩), fun q => by cases q⟩
/-! X12_halt -/
def sdX12_halt : SD := [(0, [(0, .iload_n 1, 1, [], 0), (1, .i2l, 1, [], 0), (2, .lconst 0, 1, [], 0), (3, .ldc2_w 480, 3, [1, 1815], 300), (6, .invokestatic 217, 3, [1, 0, 3, 81, 1561, 1, 1, 1], 0), (9, .ifCond .ne 5, 3, [], 0)]),
  (12, [(12, .iconst (-1), 1, [], 0), (13, .ireturn, 1, [], 0)]),
  (14, [(14, .aload_n 0, 1, [], 0), (15, .iload_n 1, 1, [], 0), (16, .invokevirtual 484, 3, [0, 1, 1, 176, 1817, 0, 16], 0)]),
  (19, [(19, .aload_n 0, 1, [], 0), (20, .invokevirtual 418, 3, [1, 2, 1, 138, 1711, 16], 0), (23, .ifCond .ne 10, 3, [], 0)]),
  (26, [(26, .aload_n 0, 1, [], 0), (27, .invokevirtual 433, 3, [0, 3, 1, 147, 1734, 16], 0), (30, .goto (-11), 3, [], 0)]),
  (33, [(33, .aload_n 0, 1, [], 0), (34, .getfield 406, 3, [12, 48, 0, 0, 1370, 0], 0), (37, .ireturn, 1, [], 0)])]
def BX12_halt_19 (n : Nat) : Nat → Hp → Option (Int × Hp)
  | 0, _ => none
  | f + 1, h =>
    (bndp (MX12_isRest h) fun r1 =>
    (if r1 ≠ 0 then
    (some ((h 113 48), h))
    else
    (bndh (MX12_slows n h) fun h1 =>
    (BX12_halt_19 n f h1))))
def LX12_halt_19 (n : Nat) (h : Hp) : Option (Int × Hp) :=
(BX12_halt_19 n n h)
def MX12_halt (n : Nat) (x1 : Int) (h : Hp) : Option (Int × Hp) :=
(bndp (MX12_in x1 0 300) fun r1 =>
(if r1 ≠ 0 then
(bndh (MX12_goesOn n x1 h) fun h1 =>
(LX12_halt_19 n h1))
else
(some ((-1), h))))
def wX12_halt {ρ : Type} (n : Nat) : FN ρ := fun a h k => match a with
  | [_, x1] => bnd (MX12_halt n x1 h) (fun r h2 => k r h2)
  | _ => none
def fsX12_halt (n : Nat) (ρ : Type) : List (FN ρ) := [wX12_in, wX12_goesOn n, wX12_isRest, wX12_slows n]
def KBX12_halt_19 (_ : Nat) (bk : Hp → Option (Int × Hp)) : CT (Int × Hp) := [(19, [(0, 16, (some 113))], [], fun a c h => match a, c with
    | [], [] => bk h
    | _, _ => none)]
set_option maxRecDepth 100000 in
theorem eBX12_halt_19 (n f : Nat) (h : Hp) : BX12_halt_19 n (f + 1) h =
  goAt false (kct (KBX12_halt_19 n (BX12_halt_19 n f))) (fun v h => some ((v, h))) (fsX12_halt n _) sdX12_halt 1000 19 [(0, 16, 113)] [] h := rfl
def KMX12_halt (n : Nat) : CT (Int × Hp) := [(19, [(0, 16, (some 113))], [], fun a c h => match a, c with
    | [], [] => LX12_halt_19 n h
    | _, _ => none)]
set_option maxRecDepth 100000 in
theorem eMX12_halt (n : Nat) (x1 : Int) (h : Hp) : MX12_halt n x1 h =
  goAt false (kct (KMX12_halt n)) (fun v h => some ((v, h))) (fsX12_halt n _) sdX12_halt 1000 0 [(0, 16, 113), (1, 0, x1)] [] h := rfl
theorem okX12_halt : mokb (mi 218) = true := by decide +kernel
theorem rkX12_halt : rkOK 1 (mi 218).1.2.2.2.2.2.2.1 (mi 218).1.2.2.2.1 := Or.inr (Or.inl ⟨rfl, rfl, rfl⟩)
def calX12_halt : List Nat := [81, 176, 138, 147]
theorem foX12_halt {l : Launch} {ρ : Type} (n : Nat) : fsOK l false mi calX12_halt (fsX12_halt n ρ) := ⟨sndX12_in, ⟨(sndX12_goesOn n), ⟨sndX12_isRest, ⟨(sndX12_slows n), trivial⟩⟩⟩⟩
theorem ok_sdX12_halt : sdb (mi 218).1.2.1 (insOK mi (mi 218).1.1.cls (mi 218).1.2.2.1 (mi 218).1.2.2.2.2.1 (mi 218).1.2.2.2.2.2.1 calX12_halt false 1) sdX12_halt = true := by decide +kernel
theorem sBX12_halt_19 {l : Launch} {h0 h' : Hp} {v : Int} (h8 : nOf h0 = 148) (n : Nat) : ∀ (f : Nat)  (h : Hp) {r : Int × Hp}, BX12_halt_19 n f h = some r → gWV v h' r → PAt l false (mi 218).1 h0 v h' 19 [(0, 16, 113)] [] h := by
  intro f
  induction f with
  | zero =>
    intro h r H _
    have H2 : (none : Option (Int × Hp)) = some r := H
    cases H2
  | succ f ih =>
    intro h r H hG
    exact pat_w ok_sdX12_halt rkX12_halt h8 (foX12_halt n) (fun v1 h1 q => by
    cases q
    exact ⟨hG.1, fun _ => hG.2⟩) (List.forall_mem_cons.mpr ⟨(fun a c h H => by
      dsimp only at H
      split at H
      · exact ih _ H hG
      · cases H), (fun q9 h9 => by cases h9)⟩) ((eBX12_halt_19 n f  h).symm.trans H)
theorem sLX12_halt_19 {l : Launch} {h0 h' : Hp} {v : Int} (h8 : nOf h0 = 148) (n : Nat)  (h : Hp) {r : Int × Hp} (H : LX12_halt_19 n h = some r) (hG : gWV v h' r) : PAt l false (mi 218).1 h0 v h' 19 [(0, 16, 113)] [] h :=
  sBX12_halt_19 h8 n n h H hG
theorem sMX12_halt {l : Launch} {h0 h' : Hp} {v : Int} (h8 : nOf h0 = 148) (n : Nat) (x1 : Int) (h : Hp) {r : Int × Hp} (H : MX12_halt n x1 h = some r) (hG : gWV v h' r) : PAt l false (mi 218).1 h0 v h' 0 [(0, 16, 113), (1, 0, x1)] [] h :=
  pat_w ok_sdX12_halt rkX12_halt h8 (foX12_halt n) (fun v1 h1 q => by
    cases q
    exact ⟨hG.1, fun _ => hG.2⟩) (List.forall_mem_cons.mpr ⟨(fun a c h H => by
      dsimp only at H
      split at H
      · exact sLX12_halt_19 h8 n _ H hG
      · cases H), (fun q9 h9 => by cases h9)⟩) ((eMX12_halt n x1 h).symm.trans H)
theorem sndX12_halt {ρ : Type} {l : Launch} (n : Nat) : SndF (ρ := ρ) l false (mi 218).1 (wX12_halt n) := by
    intro a h k r H ha ho hn hf
    have h8 := hf rfl
    obtain ⟨x0, x1, rfl⟩ := len2 (show a.length = 2 from ha)
    have u0 := uq16 hn (ho (16, x0) (List.mem_cons_self))
    subst u0
    replace H : bnd (MX12_halt n x1 h) (fun r h2 => k r h2) = some r := H
    obtain ⟨v2, h2, H1, H2⟩ := bnd_some H
    exact ⟨v2, h2, H2, met_mk (mok_base okX12_halt).1 (by decide +kernel) (Nat.le_of_ble_eq_true rfl) ho (sMX12_halt h8 n x1 h H1 ⟨rfl, rfl⟩), fun q => by cases q⟩
/-! X11_due -/
def sdX11_due : SD := [(0, [(0, .iload_n 1, 1, [], 0), (1, .ifCond .lt 14, 3, [], 0)]),
  (4, [(4, .iload_n 1, 1, [], 0), (5, .aload_n 0, 1, [], 0), (6, .getfield 10, 3, [11, 2, 14, 0, 692, 0], 0), (9, .getfield 222, 3, [10, 14, 0, 0, 215, 0], 0), (12, .if_icmp .le 5, 3, [], 0)]),
  (15, [(15, .iconst (-1), 1, [], 0), (16, .ireturn, 1, [], 0)]),
  (17, [(17, .iload_n 1, 1, [], 0), (18, .aload_n 0, 1, [], 0), (19, .getfield 57, 3, [11, 7, 12, 1, 697, 0], 64), (22, .getfield 200, 3, [8, 0, 0, 0, 483, 0], 0), (25, .if_icmp .gt 5, 3, [], 0)]),
  (28, [(28, .iconst 0, 1, [], 0), (29, .ireturn, 1, [], 0)]),
  (30, [(30, .aload_n 0, 1, [], 0), (31, .getfield 57, 3, [11, 7, 12, 1, 697, 0], 64), (34, .getfield 206, 3, [8, 5, 0, 0, 497, 0], 0), (37, .ifCond .eq 6, 3, [], 0)]),
  (40, [(40, .bipush (-2), 2, [], 0), (42, .ireturn, 1, [], 0)]),
  (43, [(43, .aload_n 0, 1, [], 0), (44, .getfield 61, 3, [11, 8, 12, 1, 698, 0], 65), (47, .aload_n 0, 1, [], 0), (48, .getfield 57, 3, [11, 7, 12, 1, 697, 0], 64), (51, .invokevirtual 225, 3, [0, 0, 1, 124, 1120, 12, 12], 0), (54, .iconst 1, 1, [], 0), (55, .istore_n 2, 1, [], 0)]),
  (56, [(56, .iload_n 2, 1, [], 0), (57, .sipush 3000, 3, [], 0), (60, .if_icmp .gt 34, 3, [], 0)]),
  (63, [(63, .aload_n 0, 1, [], 0), (64, .getfield 47, 3, [11, 5, 5, 1, 695, 0], 50), (67, .aload_n 0, 1, [], 0), (68, .getfield 61, 3, [11, 8, 12, 1, 698, 0], 65), (71, .invokevirtual 196, 3, [1, 1, 1, 135, 1024, 12, 5], 0), (74, .pop, 1, [], 0), (75, .aload_n 0, 1, [], 0), (76, .getfield 61, 3, [11, 8, 12, 1, 698, 0], 65), (79, .getfield 200, 3, [8, 0, 0, 0, 483, 0], 0), (82, .iload_n 1, 1, [], 0), (83, .if_icmp .lt 5, 3, [], 0)]),
  (86, [(86, .iload_n 2, 1, [], 0), (87, .ireturn, 1, [], 0)]),
  (88, [(88, .iinc 2 1, 3, [], 0), (91, .goto (-35), 3, [], 0)]),
  (94, [(94, .bipush (-2), 2, [], 0), (96, .ireturn, 1, [], 0)])]
def BX11_due_56 (n : Nat) : Nat → Int → Int → Hp → Option (Int × Hp)
  | 0, _, _, _ => none
  | f + 1, x1, x2, h =>
    (if 3000 < x2 then
    (some ((-2), h))
    else
    (bnd (MX1_tick n 50 65 h) fun r1 h1 =>
    (if (h1 65 0) < x1 then
    (ltt (w32 (x2 + 1)) fun y1 =>
    (BX11_due_56 n f x1 y1 h1))
    else
    (some (x2, h1)))))
def LX11_due_56 (n : Nat) (x1 x2 : Int) (h : Hp) : Option (Int × Hp) :=
(BX11_due_56 n n x1 x2 h)
def MX11_due (n : Nat) (x1 : Int) (h : Hp) : Option (Int × Hp) :=
(if x1 < 0 then
(some ((-1), h))
else
(if x1 ≤ (h (h 0 2) 14) then
(if (h 64 0) < x1 then
(if (h 64 5) = 0 then
(bndh (MX8_become 65 64 h) fun h1 =>
(ltt 1 fun y1 =>
(LX11_due_56 n x1 y1 h1)))
else
(some ((-2), h)))
else
(some (0, h)))
else
(some ((-1), h))))
def wX11_due {ρ : Type} (n : Nat) : FN ρ := fun a h k => match a with
  | [_, x1] => bnd (MX11_due n x1 h) (fun r h2 => k r h2)
  | _ => none
def fsX11_due (n : Nat) (ρ : Type) : List (FN ρ) := [wX8_become, wX1_tick n]
def KBX11_due_56 (_ : Nat) (bk : Int → Int → Hp → Option (Int × Hp)) : CT (Int × Hp) := [(56, [(0, 15, (some 0)), (1, 0, none), (2, 0, none)], [], fun a c h => match a, c with
    | [x1, x2], [] => bk x1 x2 h
    | _, _ => none)]
set_option maxRecDepth 100000 in
theorem eBX11_due_56 (n f : Nat) (x1 : Int) (x2 : Int) (h : Hp) : BX11_due_56 n (f + 1) x1 x2 h =
  goAt false (kct (KBX11_due_56 n (BX11_due_56 n f))) (fun v h => some ((v, h))) (fsX11_due n _) sdX11_due 1000 56 [(0, 15, 0), (1, 0, x1), (2, 0, x2)] [] h := rfl
def KMX11_due (n : Nat) : CT (Int × Hp) := [(56, [(0, 15, (some 0)), (1, 0, none), (2, 0, none)], [], fun a c h => match a, c with
    | [x1, x2], [] => LX11_due_56 n x1 x2 h
    | _, _ => none)]
set_option maxRecDepth 100000 in
theorem eMX11_due (n : Nat) (x1 : Int) (h : Hp) : MX11_due n x1 h =
  goAt false (kct (KMX11_due n)) (fun v h => some ((v, h))) (fsX11_due n _) sdX11_due 1000 0 [(0, 15, 0), (1, 0, x1)] [] h := rfl
theorem okX11_due : mokb (mi 219) = true := by decide +kernel
theorem rkX11_due : rkOK 1 (mi 219).1.2.2.2.2.2.2.1 (mi 219).1.2.2.2.1 := Or.inr (Or.inl ⟨rfl, rfl, rfl⟩)
def calX11_due : List Nat := [124, 135]
theorem foX11_due {l : Launch} {ρ : Type} (n : Nat) : fsOK l false mi calX11_due (fsX11_due n ρ) := ⟨sndX8_become, ⟨(sndX1_tick n), trivial⟩⟩
theorem ok_sdX11_due : sdb (mi 219).1.2.1 (insOK mi (mi 219).1.1.cls (mi 219).1.2.2.1 (mi 219).1.2.2.2.2.1 (mi 219).1.2.2.2.2.2.1 calX11_due false 1) sdX11_due = true := by decide +kernel
theorem sBX11_due_56 {l : Launch} {h0 h' : Hp} {v : Int} (h8 : nOf h0 = 148) (n : Nat) : ∀ (f : Nat) (x1 : Int) (x2 : Int) (h : Hp) {r : Int × Hp}, BX11_due_56 n f x1 x2 h = some r → gWV v h' r → PAt l false (mi 219).1 h0 v h' 56 [(0, 15, 0), (1, 0, x1), (2, 0, x2)] [] h := by
  intro f
  induction f with
  | zero =>
    intro x1 x2 h r H _
    have H2 : (none : Option (Int × Hp)) = some r := H
    cases H2
  | succ f ih =>
    intro x1 x2 h r H hG
    exact pat_w ok_sdX11_due rkX11_due h8 (foX11_due n) (fun v1 h1 q => by
    cases q
    exact ⟨hG.1, fun _ => hG.2⟩) (List.forall_mem_cons.mpr ⟨(fun a c h H => by
      dsimp only at H
      split at H
      · exact ih _ _ _ H hG
      · cases H), (fun q9 h9 => by cases h9)⟩) ((eBX11_due_56 n f x1 x2 h).symm.trans H)
theorem sLX11_due_56 {l : Launch} {h0 h' : Hp} {v : Int} (h8 : nOf h0 = 148) (n : Nat) (x1 : Int) (x2 : Int) (h : Hp) {r : Int × Hp} (H : LX11_due_56 n x1 x2 h = some r) (hG : gWV v h' r) : PAt l false (mi 219).1 h0 v h' 56 [(0, 15, 0), (1, 0, x1), (2, 0, x2)] [] h :=
  sBX11_due_56 h8 n n x1 x2 h H hG
theorem sMX11_due {l : Launch} {h0 h' : Hp} {v : Int} (h8 : nOf h0 = 148) (n : Nat) (x1 : Int) (h : Hp) {r : Int × Hp} (H : MX11_due n x1 h = some r) (hG : gWV v h' r) : PAt l false (mi 219).1 h0 v h' 0 [(0, 15, 0), (1, 0, x1)] [] h :=
  pat_w ok_sdX11_due rkX11_due h8 (foX11_due n) (fun v1 h1 q => by
    cases q
    exact ⟨hG.1, fun _ => hG.2⟩) (List.forall_mem_cons.mpr ⟨(fun a c h H => by
      dsimp only at H
      split at H
      · exact sLX11_due_56 h8 n _ _ _ H hG
      · cases H), (fun q9 h9 => by cases h9)⟩) ((eMX11_due n x1 h).symm.trans H)
theorem sndX11_due {ρ : Type} {l : Launch} (n : Nat) : SndF (ρ := ρ) l false (mi 219).1 (wX11_due n) := by
    intro a h k r H ha ho hn hf
    have h8 := hf rfl
    obtain ⟨x0, x1, rfl⟩ := len2 (show a.length = 2 from ha)
    have u0 := uq15 hn (ho (15, x0) (List.mem_cons_self))
    subst u0
    replace H : bnd (MX11_due n x1 h) (fun r h2 => k r h2) = some r := H
    obtain ⟨v2, h2, H1, H2⟩ := bnd_some H
    exact ⟨v2, h2, H2, met_mk (mok_base okX11_due).1 (by decide +kernel) (Nat.le_of_ble_eq_true rfl) ho (sMX11_due h8 n x1 h H1 ⟨rfl, rfl⟩), fun q => by cases q⟩
/-! X12_due -/
def sdX12_due : SD := [(0, [(0, .iload_n 1, 1, [], 0), (1, .i2l, 1, [], 0), (2, .lconst 0, 1, [], 0), (3, .aload_n 0, 1, [], 0), (4, .invokevirtual 393, 3, [1, 0, 1, 139, 1715, 16], 0), (7, .i2l, 1, [], 0), (8, .invokestatic 217, 3, [1, 1, 3, 81, 1561, 1, 1, 1], 0), (11, .ifCond .ne 5, 3, [], 0)]),
  (14, [(14, .iconst (-1), 1, [], 0), (15, .ireturn, 1, [], 0)]),
  (16, [(16, .aload_n 0, 1, [], 0), (17, .invokevirtual 459, 3, [0, 2, 1, 116, 1673, 16], 0), (20, .aload_n 0, 1, [], 0), (21, .invokevirtual 462, 3, [0, 3, 1, 137, 1703, 16], 0), (24, .aload_n 0, 1, [], 0), (25, .getfield 406, 3, [12, 48, 0, 0, 1370, 0], 0), (28, .iload_n 1, 1, [], 0), (29, .if_icmp .lt 5, 3, [], 0)]),
  (32, [(32, .iconst 0, 1, [], 0), (33, .ireturn, 1, [], 0)]),
  (34, [(34, .aload_n 0, 1, [], 0), (35, .getfield 415, 3, [12, 52, 0, 0, 1374, 0], 0), (38, .ifCond .eq 6, 3, [], 0)]),
  (41, [(41, .bipush (-2), 2, [], 0), (43, .ireturn, 1, [], 0)]),
  (44, [(44, .iconst 1, 1, [], 0), (45, .istore_n 2, 1, [], 0)]),
  (46, [(46, .iload_n 2, 1, [], 0), (47, .sipush 3000, 3, [], 0), (50, .if_icmp .gt 23, 3, [], 0)]),
  (53, [(53, .aload_n 0, 1, [], 0), (54, .invokevirtual 443, 3, [0, 4, 1, 152, 1730, 16], 0), (57, .aload_n 0, 1, [], 0), (58, .getfield 406, 3, [12, 48, 0, 0, 1370, 0], 0), (61, .iload_n 1, 1, [], 0), (62, .if_icmp .lt 5, 3, [], 0)]),
  (65, [(65, .iload_n 2, 1, [], 0), (66, .ireturn, 1, [], 0)]),
  (67, [(67, .iinc 2 1, 3, [], 0), (70, .goto (-24), 3, [], 0)]),
  (73, [(73, .bipush (-2), 2, [], 0), (75, .ireturn, 1, [], 0)])]
def BX12_due_46 (n : Nat) : Nat → Int → Int → Hp → Option (Int × Hp)
  | 0, _, _, _ => none
  | f + 1, x1, x2, h =>
    (if 3000 < x2 then
    (some ((-2), h))
    else
    (bndh (MX12_tick n h) fun h1 =>
    (if (h1 113 48) < x1 then
    (ltt (w32 (x2 + 1)) fun y1 =>
    (BX12_due_46 n f x1 y1 h1))
    else
    (some (x2, h1)))))
def LX12_due_46 (n : Nat) (x1 x2 : Int) (h : Hp) : Option (Int × Hp) :=
(BX12_due_46 n n x1 x2 h)
def MX12_due (n : Nat) (x1 : Int) (h : Hp) : Option (Int × Hp) :=
(bndp (MX12_all h) fun r1 =>
(bndp (MX12_in x1 0 r1) fun r2 =>
(if r2 ≠ 0 then
(bndh (MX12_laysNow n h) fun h1 =>
(bndh (MX12_begins h1) fun h2 =>
(if (h2 113 48) < x1 then
(if (h2 113 52) = 0 then
(ltt 1 fun y1 =>
(LX12_due_46 n x1 y1 h2))
else
(some ((-2), h2)))
else
(some (0, h2)))))
else
(some ((-1), h)))))
def wX12_due {ρ : Type} (n : Nat) : FN ρ := fun a h k => match a with
  | [_, x1] => bnd (MX12_due n x1 h) (fun r h2 => k r h2)
  | _ => none
def fsX12_due (n : Nat) (ρ : Type) : List (FN ρ) := [wX12_all, wX12_in, wX12_laysNow n, wX12_begins, wX12_tick n]
def KBX12_due_46 (_ : Nat) (bk : Int → Int → Hp → Option (Int × Hp)) : CT (Int × Hp) := [(46, [(0, 16, (some 113)), (1, 0, none), (2, 0, none)], [], fun a c h => match a, c with
    | [x1, x2], [] => bk x1 x2 h
    | _, _ => none)]
set_option maxRecDepth 100000 in
theorem eBX12_due_46 (n f : Nat) (x1 : Int) (x2 : Int) (h : Hp) : BX12_due_46 n (f + 1) x1 x2 h =
  goAt false (kct (KBX12_due_46 n (BX12_due_46 n f))) (fun v h => some ((v, h))) (fsX12_due n _) sdX12_due 1000 46 [(0, 16, 113), (1, 0, x1), (2, 0, x2)] [] h := rfl
def KMX12_due (n : Nat) : CT (Int × Hp) := [(46, [(0, 16, (some 113)), (1, 0, none), (2, 0, none)], [], fun a c h => match a, c with
    | [x1, x2], [] => LX12_due_46 n x1 x2 h
    | _, _ => none)]
set_option maxRecDepth 100000 in
theorem eMX12_due (n : Nat) (x1 : Int) (h : Hp) : MX12_due n x1 h =
  goAt false (kct (KMX12_due n)) (fun v h => some ((v, h))) (fsX12_due n _) sdX12_due 1000 0 [(0, 16, 113), (1, 0, x1)] [] h := rfl
theorem okX12_due : mokb (mi 220) = true := by decide +kernel
theorem rkX12_due : rkOK 1 (mi 220).1.2.2.2.2.2.2.1 (mi 220).1.2.2.2.1 := Or.inr (Or.inl ⟨rfl, rfl, rfl⟩)
def calX12_due : List Nat := [139, 81, 116, 137, 152]
theorem foX12_due {l : Launch} {ρ : Type} (n : Nat) : fsOK l false mi calX12_due (fsX12_due n ρ) := ⟨sndX12_all, ⟨sndX12_in, ⟨(sndX12_laysNow n), ⟨sndX12_begins, ⟨(sndX12_tick n), trivial⟩⟩⟩⟩⟩
theorem ok_sdX12_due : sdb (mi 220).1.2.1 (insOK mi (mi 220).1.1.cls (mi 220).1.2.2.1 (mi 220).1.2.2.2.2.1 (mi 220).1.2.2.2.2.2.1 calX12_due false 1) sdX12_due = true := by decide +kernel
theorem sBX12_due_46 {l : Launch} {h0 h' : Hp} {v : Int} (h8 : nOf h0 = 148) (n : Nat) : ∀ (f : Nat) (x1 : Int) (x2 : Int) (h : Hp) {r : Int × Hp}, BX12_due_46 n f x1 x2 h = some r → gWV v h' r → PAt l false (mi 220).1 h0 v h' 46 [(0, 16, 113), (1, 0, x1), (2, 0, x2)] [] h := by
  intro f
  induction f with
  | zero =>
    intro x1 x2 h r H _
    have H2 : (none : Option (Int × Hp)) = some r := H
    cases H2
  | succ f ih =>
    intro x1 x2 h r H hG
    exact pat_w ok_sdX12_due rkX12_due h8 (foX12_due n) (fun v1 h1 q => by
    cases q
    exact ⟨hG.1, fun _ => hG.2⟩) (List.forall_mem_cons.mpr ⟨(fun a c h H => by
      dsimp only at H
      split at H
      · exact ih _ _ _ H hG
      · cases H), (fun q9 h9 => by cases h9)⟩) ((eBX12_due_46 n f x1 x2 h).symm.trans H)
theorem sLX12_due_46 {l : Launch} {h0 h' : Hp} {v : Int} (h8 : nOf h0 = 148) (n : Nat) (x1 : Int) (x2 : Int) (h : Hp) {r : Int × Hp} (H : LX12_due_46 n x1 x2 h = some r) (hG : gWV v h' r) : PAt l false (mi 220).1 h0 v h' 46 [(0, 16, 113), (1, 0, x1), (2, 0, x2)] [] h :=
  sBX12_due_46 h8 n n x1 x2 h H hG
theorem sMX12_due {l : Launch} {h0 h' : Hp} {v : Int} (h8 : nOf h0 = 148) (n : Nat) (x1 : Int) (h : Hp) {r : Int × Hp} (H : MX12_due n x1 h = some r) (hG : gWV v h' r) : PAt l false (mi 220).1 h0 v h' 0 [(0, 16, 113), (1, 0, x1)] [] h :=
  pat_w ok_sdX12_due rkX12_due h8 (foX12_due n) (fun v1 h1 q => by
    cases q
    exact ⟨hG.1, fun _ => hG.2⟩) (List.forall_mem_cons.mpr ⟨(fun a c h H => by
      dsimp only at H
      split at H
      · exact sLX12_due_46 h8 n _ _ _ H hG
      · cases H), (fun q9 h9 => by cases h9)⟩) ((eMX12_due n x1 h).symm.trans H)
theorem sndX12_due {ρ : Type} {l : Launch} (n : Nat) : SndF (ρ := ρ) l false (mi 220).1 (wX12_due n) := by
    intro a h k r H ha ho hn hf
    have h8 := hf rfl
    obtain ⟨x0, x1, rfl⟩ := len2 (show a.length = 2 from ha)
    have u0 := uq16 hn (ho (16, x0) (List.mem_cons_self))
    subst u0
    replace H : bnd (MX12_due n x1 h) (fun r h2 => k r h2) = some r := H
    obtain ⟨v2, h2, H1, H2⟩ := bnd_some H
    exact ⟨v2, h2, H2, met_mk (mok_base okX12_due).1 (by decide +kernel) (Nat.le_of_ble_eq_true rfl) ho (sMX12_due h8 n x1 h H1 ⟨rfl, rfl⟩), fun q => by cases q⟩
/-! X10_isSlowedBy -/
def sdX10_isSlowedBy : SD := [(0, [(0, .aload_n 0, 1, [], 0), (1, .iload_n 1, 1, [], 0), (2, .iload_n 2, 1, [], 0), (3, .invokevirtual 71, 3, [1, 0, 1, 44, 957, 0, 0, 14], 0), (6, .istore_n 3, 1, [], 0), (7, .iload_n 3, 1, [], 0), (8, .ifCond .eq 28, 3, [], 0)]),
  (11, [(11, .aload_n 0, 1, [], 0), (12, .iload_n 1, 1, [], 0), (13, .iload_n 3, 1, [], 0), (14, .aload_n 0, 1, [], 0), (15, .getfield 9, 3, [10, 0, 68, 1, 165, 0], 1), (18, .iload_n 2, 1, [], 0), (19, .iaload, 1, [], 0), (20, .invokevirtual 93, 3, [1, 1, 1, 45, 965, 0, 0, 0, 14], 0), (23, .aload_n 0, 1, [], 0), (24, .getfield 29, 3, [10, 5, 532, 1, 182, 0], 9), (27, .iload_n 1, 1, [], 0), (28, .iaload, 1, [], 0), (29, .if_icmp .ne 7, 3, [], 0)]),
  (32, [(32, .iconst 1, 1, [], 0), (33, .goto 4, 3, [], 0)]),
  (36, [(36, .iconst 0, 1, [], 0)]),
  (37, [(37, .ireturn, 1, [1], 0)])]
def MX10_isSlowedBy (x0 x1 x2 : Int) (h : Hp) : Option (Int) :=
(bndp (MX10_step x0 x1 x2 h) fun r1 =>
(ltt r1 fun y1 =>
(if y1 = 0 then
(some 0)
else
(grd (0 ≤ x2 ∧ x2 < alen 68)
(bndp (MX10_rateAlong x0 x1 y1 (h (x0 + 1) x2) h) fun r2 =>
(grd (0 ≤ x1 ∧ x1 < alen 532)
(if r2 ≠ (h (x0 + 9) x1) then
(some 0)
else
(some 1))))))))
def wX10_isSlowedBy {ρ : Type} : FN ρ := fun a h k => match a with
  | [x0, x1, x2] => bndp (MX10_isSlowedBy x0 x1 x2 h) (fun r => k r h)
  | _ => none
def fsX10_isSlowedBy (ρ : Type) : List (FN ρ) := [wX10_step, wX10_rateAlong]
def KMX10_isSlowedBy  : CT (Int) := []
set_option maxRecDepth 100000 in
theorem eMX10_isSlowedBy (x0 : Int) (x1 : Int) (x2 : Int) (h : Hp) : MX10_isSlowedBy x0 x1 x2 h =
  goAt false (kct (KMX10_isSlowedBy)) (fun v _ => some (v)) (fsX10_isSlowedBy _) sdX10_isSlowedBy 1000 0 [(0, 14, x0), (1, 0, x1), (2, 0, x2)] [] h := rfl
theorem okX10_isSlowedBy : mokb (mi 221) = true := by decide +kernel
theorem rkX10_isSlowedBy : rkOK 4 (mi 221).1.2.2.2.2.2.2.1 (mi 221).1.2.2.2.1 := Or.inr (Or.inr (Or.inl ⟨rfl, rfl, rfl⟩))
def calX10_isSlowedBy : List Nat := [44, 45]
theorem foX10_isSlowedBy {l : Launch} {ρ : Type} : fsOK l false mi calX10_isSlowedBy (fsX10_isSlowedBy ρ) := ⟨sndX10_step, ⟨sndX10_rateAlong, trivial⟩⟩
theorem frX10_isSlowedBy {ρ : Type} : ∀ fn ∈ fsX10_isSlowedBy ρ, RoF fn := (List.forall_mem_cons.mpr ⟨roX10_step, (List.forall_mem_cons.mpr ⟨roX10_rateAlong, (fun q9 h9 => by cases h9)⟩)⟩)
theorem ok_sdX10_isSlowedBy : sdb (mi 221).1.2.1 (insOK mi (mi 221).1.1.cls (mi 221).1.2.2.1 (mi 221).1.2.2.2.2.1 (mi 221).1.2.2.2.2.2.1 calX10_isSlowedBy false 4) sdX10_isSlowedBy = true := by decide +kernel
theorem sMX10_isSlowedBy {l : Launch} {h0 : Hp} {v : Int} (h8 : nOf h0 = 148)  (x0 : Int) (x1 : Int) (x2 : Int) (h : Hp) {r : Int} (H : MX10_isSlowedBy x0 x1 x2 h = some r) (hG : gV v r) : PAt l false (mi 221).1 h0 v h 0 [(0, 14, x0), (1, 0, x1), (2, 0, x2)] [] h :=
  pat_ro ok_sdX10_isSlowedBy rfl rkX10_isSlowedBy h8 (foX10_isSlowedBy) (frX10_isSlowedBy) (fun v1 q => by
    cases q
    exact ⟨rfl, fun _ => hG⟩) (fun q9 h9 => by cases h9) ((eMX10_isSlowedBy x0 x1 x2 h).symm.trans H)
theorem sndX10_isSlowedBy {ρ : Type} {l : Launch} : SndF (ρ := ρ) l false (mi 221).1 (wX10_isSlowedBy) := by
    intro a h k r H ha ho hn hf
    have h8 := hf rfl
    obtain ⟨x0, x1, x2, rfl⟩ := len3 (show a.length = 3 from ha)
    replace H : bndp (MX10_isSlowedBy x0 x1 x2 h) (fun r => k r h) = some r := H
    obtain ⟨v2, H1, H2⟩ := bndp_some H
    exact ⟨v2, h, H2, met_mk (mok_base okX10_isSlowedBy).1 (by decide +kernel) (Nat.le_of_ble_eq_true rfl) ho (sMX10_isSlowedBy h8 x0 x1 x2 h H1 rfl), fun q => by cases q⟩
theorem roX10_isSlowedBy {ρ : Type} : RoF (wX10_isSlowedBy : FN ρ) := fun a h k k2 hk => by
  unfold wX10_isSlowedBy
  split
  · exact bndp_ro hk
  · rfl
/-! X4_bindOf -/
def sdX4_bindOf : SD := [(0, [(0, .aload_n 0, 1, [], 0), (1, .iload_n 1, 1, [], 0), (2, .invokevirtual 86, 3, [1, 0, 1, 57, 609, 0, 8], 0), (5, .istore_n 2, 1, [], 0), (6, .iload_n 2, 1, [], 0), (7, .iconst 1, 1, [], 0), (8, .if_icmp .lt 9, 3, [], 0)]),
  (11, [(11, .iload_n 2, 1, [], 0), (12, .bipush 100, 2, [], 0), (14, .if_icmp .le 5, 3, [], 0)]),
  (17, [(17, .iconst 4, 1, [], 0), (18, .ireturn, 1, [], 0)]),
  (19, [(19, .aload_n 0, 1, [], 0), (20, .iload_n 1, 1, [], 0), (21, .invokevirtual 92, 3, [1, 1, 1, 56, 613, 0, 8], 0), (24, .aload_n 0, 1, [], 0), (25, .getfield 34, 3, [4, 0, 14, 0, 430, 0], 0), (28, .getfield 95, 3, [10, 5, 532, 1, 184, 0], 9), (31, .iload_n 1, 1, [], 0), (32, .iaload, 1, [], 0), (33, .if_icmp .gt 5, 3, [], 0)]),
  (36, [(36, .iconst 3, 1, [], 0), (37, .ireturn, 1, [], 0)]),
  (38, [(38, .aload_n 0, 1, [], 0), (39, .getfield 34, 3, [4, 0, 14, 0, 430, 0], 0), (42, .iload_n 1, 1, [], 0), (43, .iconst 0, 1, [], 0), (44, .invokevirtual 98, 3, [1, 2, 1, 221, 1205, 0, 0, 14], 0), (47, .ifCond .eq 7, 3, [], 0)]),
  (50, [(50, .iconst 0, 1, [], 0), (51, .goto 20, 3, [], 0)]),
  (54, [(54, .aload_n 0, 1, [], 0), (55, .getfield 34, 3, [4, 0, 14, 0, 430, 0], 0), (58, .iload_n 1, 1, [], 0), (59, .iconst 1, 1, [], 0), (60, .invokevirtual 98, 3, [1, 2, 1, 221, 1205, 0, 0, 14], 0), (63, .ifCond .eq 7, 3, [], 0)]),
  (66, [(66, .iconst 1, 1, [], 0), (67, .goto 4, 3, [], 0)]),
  (70, [(70, .iconst 2, 1, [], 0)]),
  (71, [(71, .ireturn, 1, [], 0)])]
def MX4_bindOf (x0 x1 : Int) (h : Hp) : Option (Int) :=
(bndp (MX4_freeLimit x0 x1 h) fun r1 =>
(ltt r1 fun y1 =>
(if y1 < 1 then
(some 4)
else
(if y1 ≤ 100 then
(bndp (MX4_fedSpeed x0 x1 h) fun r2 =>
(grd (0 ≤ x1 ∧ x1 < alen 532)
(if (h ((h x0 0) + 9) x1) < r2 then
(bndp (MX10_isSlowedBy (h x0 0) x1 0 h) fun r3 =>
(if r3 = 0 then
(bndp (MX10_isSlowedBy (h x0 0) x1 1 h) fun r4 =>
(if r4 = 0 then
(some 2)
else
(some 1)))
else
(some 0)))
else
(some 3))))
else
(some 4)))))
def wX4_bindOf {ρ : Type} : FN ρ := fun a h k => match a with
  | [x0, x1] => bndp (MX4_bindOf x0 x1 h) (fun r => k r h)
  | _ => none
def fsX4_bindOf (ρ : Type) : List (FN ρ) := [wX4_freeLimit, wX4_fedSpeed, wX10_isSlowedBy]
def KMX4_bindOf  : CT (Int) := []
set_option maxRecDepth 100000 in
theorem eMX4_bindOf (x0 : Int) (x1 : Int) (h : Hp) : MX4_bindOf x0 x1 h =
  goAt false (kct (KMX4_bindOf)) (fun v _ => some (v)) (fsX4_bindOf _) sdX4_bindOf 1000 0 [(0, 8, x0), (1, 0, x1)] [] h := rfl
theorem okX4_bindOf : mokb (mi 222) = true := by decide +kernel
theorem rkX4_bindOf : rkOK 1 (mi 222).1.2.2.2.2.2.2.1 (mi 222).1.2.2.2.1 := Or.inr (Or.inl ⟨rfl, rfl, rfl⟩)
def calX4_bindOf : List Nat := [57, 56, 221]
theorem foX4_bindOf {l : Launch} {ρ : Type} : fsOK l false mi calX4_bindOf (fsX4_bindOf ρ) := ⟨sndX4_freeLimit, ⟨sndX4_fedSpeed, ⟨sndX10_isSlowedBy, trivial⟩⟩⟩
theorem frX4_bindOf {ρ : Type} : ∀ fn ∈ fsX4_bindOf ρ, RoF fn := (List.forall_mem_cons.mpr ⟨roX4_freeLimit, (List.forall_mem_cons.mpr ⟨roX4_fedSpeed, (List.forall_mem_cons.mpr ⟨roX10_isSlowedBy, (fun q9 h9 => by cases h9)⟩)⟩)⟩)
theorem ok_sdX4_bindOf : sdb (mi 222).1.2.1 (insOK mi (mi 222).1.1.cls (mi 222).1.2.2.1 (mi 222).1.2.2.2.2.1 (mi 222).1.2.2.2.2.2.1 calX4_bindOf false 1) sdX4_bindOf = true := by decide +kernel
theorem sMX4_bindOf {l : Launch} {h0 : Hp} {v : Int} (h8 : nOf h0 = 148)  (x0 : Int) (x1 : Int) (h : Hp) {r : Int} (H : MX4_bindOf x0 x1 h = some r) (hG : gV v r) : PAt l false (mi 222).1 h0 v h 0 [(0, 8, x0), (1, 0, x1)] [] h :=
  pat_ro ok_sdX4_bindOf rfl rkX4_bindOf h8 (foX4_bindOf) (frX4_bindOf) (fun v1 q => by
    cases q
    exact ⟨rfl, fun _ => hG⟩) (fun q9 h9 => by cases h9) ((eMX4_bindOf x0 x1 h).symm.trans H)
theorem sndX4_bindOf {ρ : Type} {l : Launch} : SndF (ρ := ρ) l false (mi 222).1 (wX4_bindOf) := by
    intro a h k r H ha ho hn hf
    have h8 := hf rfl
    obtain ⟨x0, x1, rfl⟩ := len2 (show a.length = 2 from ha)
    replace H : bndp (MX4_bindOf x0 x1 h) (fun r => k r h) = some r := H
    obtain ⟨v2, H1, H2⟩ := bndp_some H
    exact ⟨v2, h, H2, met_mk (mok_base okX4_bindOf).1 (by decide +kernel) (Nat.le_of_ble_eq_true rfl) ho (sMX4_bindOf h8 x0 x1 h H1 rfl), fun q => by cases q⟩
theorem roX4_bindOf {ρ : Type} : RoF (wX4_bindOf : FN ρ) := fun a h k k2 hk => by
  unfold wX4_bindOf
  split
  · exact bndp_ro hk
  · rfl
/-! X11_binds -/
def sdX11_binds : SD := [(0, [(0, .aload_n 0, 1, [], 0), (1, .getfield 10, 3, [11, 2, 14, 0, 692, 0], 0), (4, .iload_n 1, 1, [], 0), (5, .invokevirtual 142, 3, [1, 0, 1, 43, 984, 0, 14], 0), (8, .ifCond .eq 17, 3, [], 0)]),
  (11, [(11, .aload_n 0, 1, [], 0), (12, .getfield 47, 3, [11, 5, 5, 1, 695, 0], 50), (15, .getfield 157, 3, [1, 0, 8, 1, 465, 0], 2), (18, .iload_n 1, 1, [], 0), (19, .invokevirtual 267, 3, [1, 1, 1, 222, 1201, 0, 8], 0), (22, .goto 4, 3, [], 0)]),
  (25, [(25, .iconst (-1), 1, [], 0)]),
  (26, [(26, .ireturn, 1, [], 0)])]
def MX11_binds (x1 : Int) (h : Hp) : Option (Int) :=
(bndp (MX10_has (h 0 2) x1 h) fun r1 =>
(if r1 = 0 then
(some (-1))
else
(bndp (MX4_bindOf 52 x1 h) fun r2 =>
(some r2))))
def wX11_binds {ρ : Type} : FN ρ := fun a h k => match a with
  | [_, x1] => bndp (MX11_binds x1 h) (fun r => k r h)
  | _ => none
def fsX11_binds (ρ : Type) : List (FN ρ) := [wX10_has, wX4_bindOf]
def KMX11_binds  : CT (Int) := []
set_option maxRecDepth 100000 in
theorem eMX11_binds (x1 : Int) (h : Hp) : MX11_binds x1 h =
  goAt false (kct (KMX11_binds)) (fun v _ => some (v)) (fsX11_binds _) sdX11_binds 1000 0 [(0, 15, 0), (1, 0, x1)] [] h := rfl
theorem okX11_binds : mokb (mi 223) = true := by decide +kernel
theorem rkX11_binds : rkOK 1 (mi 223).1.2.2.2.2.2.2.1 (mi 223).1.2.2.2.1 := Or.inr (Or.inl ⟨rfl, rfl, rfl⟩)
def calX11_binds : List Nat := [43, 222]
theorem foX11_binds {l : Launch} {ρ : Type} : fsOK l false mi calX11_binds (fsX11_binds ρ) := ⟨sndX10_has, ⟨sndX4_bindOf, trivial⟩⟩
theorem frX11_binds {ρ : Type} : ∀ fn ∈ fsX11_binds ρ, RoF fn := (List.forall_mem_cons.mpr ⟨roX10_has, (List.forall_mem_cons.mpr ⟨roX4_bindOf, (fun q9 h9 => by cases h9)⟩)⟩)
theorem ok_sdX11_binds : sdb (mi 223).1.2.1 (insOK mi (mi 223).1.1.cls (mi 223).1.2.2.1 (mi 223).1.2.2.2.2.1 (mi 223).1.2.2.2.2.2.1 calX11_binds false 1) sdX11_binds = true := by decide +kernel
theorem sMX11_binds {l : Launch} {h0 : Hp} {v : Int} (h8 : nOf h0 = 148)  (x1 : Int) (h : Hp) {r : Int} (H : MX11_binds x1 h = some r) (hG : gV v r) : PAt l false (mi 223).1 h0 v h 0 [(0, 15, 0), (1, 0, x1)] [] h :=
  pat_ro ok_sdX11_binds rfl rkX11_binds h8 (foX11_binds) (frX11_binds) (fun v1 q => by
    cases q
    exact ⟨rfl, fun _ => hG⟩) (fun q9 h9 => by cases h9) ((eMX11_binds x1 h).symm.trans H)
theorem sndX11_binds {ρ : Type} {l : Launch} : SndF (ρ := ρ) l false (mi 223).1 (wX11_binds) := by
    intro a h k r H ha ho hn hf
    have h8 := hf rfl
    obtain ⟨x0, x1, rfl⟩ := len2 (show a.length = 2 from ha)
    have u0 := uq15 hn (ho (15, x0) (List.mem_cons_self))
    subst u0
    replace H : bndp (MX11_binds x1 h) (fun r => k r h) = some r := H
    obtain ⟨v2, H1, H2⟩ := bndp_some H
    exact ⟨v2, h, H2, met_mk (mok_base okX11_binds).1 (by decide +kernel) (Nat.le_of_ble_eq_true rfl) ho (sMX11_binds h8 x1 h H1 rfl), fun q => by cases q⟩
theorem roX11_binds {ρ : Type} : RoF (wX11_binds : FN ρ) := fun a h k k2 hk => by
  unfold wX11_binds
  split
  · exact bndp_ro hk
  · rfl
/-! X12_binds -/
def sdX12_binds : SD := [(0, [(0, .iload_n 1, 1, [], 0), (1, .i2l, 1, [], 0), (2, .lconst 0, 1, [], 0), (3, .aload_n 0, 1, [], 0), (4, .getfield 140, 3, [12, 6, 0, 0, 1328, 0], 0), (7, .iconst 1, 1, [], 0), (8, .isub, 1, [], 0), (9, .i2l, 1, [], 0), (10, .invokestatic 217, 3, [1, 0, 3, 81, 1561, 1, 1, 1], 0), (13, .ifCond .ne 5, 3, [], 0)]),
  (16, [(16, .iconst (-1), 1, [], 0), (17, .ireturn, 1, [], 0)]),
  (18, [(18, .aload_n 0, 1, [], 0), (19, .invokevirtual 459, 3, [0, 1, 1, 116, 1673, 16], 0), (22, .aload_n 0, 1, [], 0), (23, .getfield 40, 3, [12, 15, 532, 1, 1337, 0], 10), (26, .iload_n 1, 1, [], 0), (27, .iaload, 1, [], 0), (28, .aload_n 0, 1, [], 0), (29, .getfield 158, 3, [12, 45, 0, 0, 1367, 0], 0), (32, .imul, 1, [], 0), (33, .bipush 100, 2, [], 0), (35, .idiv, 1, [], 0), (36, .istore_n 2, 1, [], 0), (37, .iload_n 2, 1, [], 0), (38, .aload_n 0, 1, [], 0), (39, .getfield 68, 3, [12, 34, 532, 1, 1356, 0], 19), (42, .iload_n 1, 1, [], 0), (43, .iaload, 1, [], 0), (44, .invokestatic 258, 3, [1, 2, 3, 261, 1596, 0, 0], 0), (47, .aload_n 0, 1, [], 0), (48, .getfield 366, 3, [12, 40, 0, 0, 1362, 0], 0), (51, .idiv, 1, [], 0), (52, .istore_n 3, 1, [], 0), (53, .iload_n 3, 1, [], 0), (54, .i2l, 1, [], 0), (55, .lconst 1, 1, [], 0), (56, .ldc2_w 359, 3, [1, 1692], 100), (59, .invokestatic 217, 3, [1, 0, 3, 81, 1561, 1, 1, 1], 0), (62, .ifCond .ne 5, 3, [], 0)]),
  (65, [(65, .iconst 4, 1, [], 0), (66, .ireturn, 1, [], 0)]),
  (67, [(67, .iload_n 2, 1, [], 0), (68, .aload_n 0, 1, [], 0), (69, .getfield 68, 3, [12, 34, 532, 1, 1356, 0], 19), (72, .iload_n 1, 1, [], 0), (73, .iaload, 1, [], 0), (74, .if_icmp .gt 5, 3, [], 0)]),
  (77, [(77, .iconst 3, 1, [], 0), (78, .ireturn, 1, [], 0)]),
  (79, [(79, .iconst 0, 1, [], 0), (80, .istore 4, 2, [], 0)]),
  (82, [(82, .aload_n 0, 1, [], 0), (83, .iload_n 1, 1, [], 0), (84, .iload 4, 2, [], 0), (86, .invokevirtual 146, 3, [1, 3, 1, 106, 1310, 0, 0, 16], 0), (89, .ifCond .eq 42, 3, [], 0)]),
  (92, [(92, .aload_n 0, 1, [], 0), (93, .getfield 15, 3, [12, 1, 84, 1, 1323, 0], 2), (96, .iload 4, 2, [], 0), (98, .iaload, 1, [], 0), (99, .i2l, 1, [], 0), (100, .aload_n 0, 1, [], 0), (101, .getfield 46, 3, [12, 17, 532, 1, 1339, 0], 12), (104, .iload_n 1, 1, [], 0), (105, .iaload, 1, [], 0), (106, .i2l, 1, [], 0), (107, .lmul, 1, [], 0), (108, .aload_n 0, 1, [], 0), (109, .iload_n 1, 1, [], 0), (110, .iload 4, 2, [], 0), (112, .invokevirtual 146, 3, [1, 3, 1, 106, 1310, 0, 0, 16], 0), (115, .invokestatic 286, 3, [1, 4, 3, 263, 1625, 0], 0), (118, .i2l, 1, [], 0), (119, .ldiv, 1, [], 0), (120, .aload_n 0, 1, [], 0), (121, .getfield 68, 3, [12, 34, 532, 1, 1356, 0], 19), (124, .iload_n 1, 1, [], 0), (125, .iaload, 1, [], 0), (126, .i2l, 1, [], 0), (127, .lcmp, 1, [], 0), (128, .ifCond .eq 9, 3, [], 0)]),
  (131, [(131, .iinc 4 1, 3, [], 0), (134, .goto (-52), 3, [], 0)]),
  (137, [(137, .iload 4, 2, [], 0), (139, .ireturn, 1, [], 0)])]
def sdX12_binds_82 : SD := [(82, [(82, .aload_n 0, 1, [], 0), (83, .iload_n 1, 1, [], 0), (84, .iload 4, 2, [], 0), (86, .invokevirtual 146, 3, [1, 3, 1, 106, 1310, 0, 0, 16], 0), (89, .ifCond .eq 42, 3, [], 0)]),
  (92, [(92, .aload_n 0, 1, [], 0), (93, .getfield 15, 3, [12, 1, 84, 1, 1323, 0], 2), (96, .iload 4, 2, [], 0), (98, .iaload, 1, [], 0), (99, .i2l, 1, [], 0), (100, .aload_n 0, 1, [], 0), (101, .getfield 46, 3, [12, 17, 532, 1, 1339, 0], 12), (104, .iload_n 1, 1, [], 0), (105, .iaload, 1, [], 0), (106, .i2l, 1, [], 0), (107, .lmul, 1, [], 0), (108, .aload_n 0, 1, [], 0), (109, .iload_n 1, 1, [], 0), (110, .iload 4, 2, [], 0), (112, .invokevirtual 146, 3, [1, 3, 1, 106, 1310, 0, 0, 16], 0), (115, .invokestatic 286, 3, [1, 4, 3, 263, 1625, 0], 0), (118, .i2l, 1, [], 0), (119, .ldiv, 1, [], 0), (120, .aload_n 0, 1, [], 0), (121, .getfield 68, 3, [12, 34, 532, 1, 1356, 0], 19), (124, .iload_n 1, 1, [], 0), (125, .iaload, 1, [], 0), (126, .i2l, 1, [], 0), (127, .lcmp, 1, [], 0), (128, .ifCond .eq 9, 3, [], 0)]),
  (131, [(131, .iinc 4 1, 3, [], 0), (134, .goto (-52), 3, [], 0)]),
  (137, [(137, .iload 4, 2, [], 0), (139, .ireturn, 1, [], 0)])]
def BX12_binds_82 (n : Nat) : Nat → Int → Int → Hp → Option (Int × Hp)
  | 0, _, _, _ => none
  | f + 1, x1, x4, h =>
    (bndp (MX12_goes x1 x4 h) fun r1 =>
    (if r1 = 0 then
    (ltt (w32 (x4 + 1)) fun y1 =>
    (BX12_binds_82 n f x1 y1 h))
    else
    (grd (0 ≤ x4 ∧ x4 < alen 84)
    (grd (0 ≤ x1 ∧ x1 < alen 532)
    (bndp (MX12_goes x1 x4 h) fun r2 =>
    (grd (¬ (jabs r2) = 0)
    (grd (0 ≤ x1 ∧ x1 < alen 532)
    (if (lcp (w64 (Int.tdiv (w64 ((h 115 x4) * (h 125 x1))) (jabs r2))) (h 132 x1)) = 0 then
    (some (x4, h))
    else
    (ltt (w32 (x4 + 1)) fun y2 =>
    (BX12_binds_82 n f x1 y2 h))))))))))
def LX12_binds_82 (n : Nat) (x1 x4 : Int) (h : Hp) : Option (Int × Hp) :=
(BX12_binds_82 n n x1 x4 h)
def MX12_binds (n : Nat) (x1 : Int) (h : Hp) : Option (Int × Hp) :=
(bndp (MX12_in x1 0 (w32 ((h 113 6) - 1))) fun r1 =>
(if r1 ≠ 0 then
(bndh (MX12_laysNow n h) fun h1 =>
(grd (0 ≤ x1 ∧ x1 < alen 532)
(grd (¬ 100 = 0)
(ltt (w32 (Int.tdiv (w32 ((h1 123 x1) * (h1 113 45))) 100)) fun y1 =>
(grd (0 ≤ x1 ∧ x1 < alen 532)
(grd (¬ (h1 113 40) = 0)
(ltt (w32 (Int.tdiv (min y1 (h1 132 x1)) (h1 113 40))) fun y2 =>
(bndp (MX12_in y2 1 100) fun r2 =>
(if r2 ≠ 0 then
(grd (0 ≤ x1 ∧ x1 < alen 532)
(if (h1 132 x1) < y1 then
(ltt 0 fun y3 =>
(LX12_binds_82 n x1 y3 h1))
else
(some (3, h1))))
else
(some (4, h1)))))))))))
else
(some ((-1), h))))
def wX12_binds {ρ : Type} (n : Nat) : FN ρ := fun a h k => match a with
  | [_, x1] => bnd (MX12_binds n x1 h) (fun r h2 => k r h2)
  | _ => none
def fsX12_binds (n : Nat) (ρ : Type) : List (FN ρ) := [wX12_in, wX12_laysNow n, fmin, wX12_goes, fabs]
def fsX12_binds_82 (n : Nat) (ρ : Type) : List (FN ρ) := [nofn, nofn, nofn, wX12_goes, fabs]
def KBX12_binds_82 (_ : Nat) (bk : Int → Int → Hp → Option (Int × Hp)) : CT (Int × Hp) := [(82, [(0, 16, (some 113)), (1, 0, none), (4, 0, none)], [], fun a c h => match a, c with
    | [x1, x4], [] => bk x1 x4 h
    | _, _ => none)]
set_option maxRecDepth 100000 in
theorem eBX12_binds_82 (n f : Nat) (x1 : Int) (x4 : Int) (h : Hp) : BX12_binds_82 n (f + 1) x1 x4 h =
  goAt false (kct (KBX12_binds_82 n (BX12_binds_82 n f))) (fun v h => some ((v, h))) (fsX12_binds_82 n _) sdX12_binds_82 1000 82 [(0, 16, 113), (1, 0, x1), (4, 0, x4)] [] h := rfl
def KMX12_binds (n : Nat) : CT (Int × Hp) := [(82, [(0, 16, (some 113)), (1, 0, none), (4, 0, none)], [], fun a c h => match a, c with
    | [x1, x4], [] => LX12_binds_82 n x1 x4 h
    | _, _ => none)]
set_option maxRecDepth 100000 in
theorem eMX12_binds (n : Nat) (x1 : Int) (h : Hp) : MX12_binds n x1 h =
  goAt false (kct (KMX12_binds n)) (fun v h => some ((v, h))) (fsX12_binds n _) sdX12_binds 1000 0 [(0, 16, 113), (1, 0, x1)] [] h := rfl
theorem okX12_binds : mokb (mi 224) = true := by decide +kernel
theorem rkX12_binds : rkOK 1 (mi 224).1.2.2.2.2.2.2.1 (mi 224).1.2.2.2.1 := Or.inr (Or.inl ⟨rfl, rfl, rfl⟩)
def calX12_binds : List Nat := [81, 116, 261, 106, 263]
theorem foX12_binds {l : Launch} {ρ : Type} (n : Nat) : fsOK l false mi calX12_binds (fsX12_binds n ρ) := ⟨sndX12_in, ⟨(sndX12_laysNow n), ⟨snd_mmin, ⟨sndX12_goes, ⟨snd_mabs, trivial⟩⟩⟩⟩⟩
theorem ok_sdX12_binds : sdb (mi 224).1.2.1 (insOK mi (mi 224).1.1.cls (mi 224).1.2.2.1 (mi 224).1.2.2.2.2.1 (mi 224).1.2.2.2.2.2.1 calX12_binds false 1) sdX12_binds = true := by decide +kernel
def calX12_binds_82 : List Nat := [0, 0, 0, 106, 263]
theorem foX12_binds_82 {l : Launch} {ρ : Type} (n : Nat) : fsOK l false mi calX12_binds_82 (fsX12_binds_82 n ρ) := ⟨snd_no, ⟨snd_no, ⟨snd_no, ⟨sndX12_goes, ⟨snd_mabs, trivial⟩⟩⟩⟩⟩
theorem frX12_binds_82 {ρ : Type} (n : Nat) : ∀ fn ∈ fsX12_binds_82 n ρ, RoF fn := (List.forall_mem_cons.mpr ⟨ro_no, (List.forall_mem_cons.mpr ⟨ro_no, (List.forall_mem_cons.mpr ⟨ro_no, (List.forall_mem_cons.mpr ⟨roX12_goes, (List.forall_mem_cons.mpr ⟨ro_mabs, (fun q9 h9 => by cases h9)⟩)⟩)⟩)⟩)⟩)
theorem ok_sdX12_binds_82 : sdb (mi 224).1.2.1 (insOK mi (mi 224).1.1.cls (mi 224).1.2.2.1 (mi 224).1.2.2.2.2.1 (mi 224).1.2.2.2.2.2.1 calX12_binds_82 false 1) sdX12_binds_82 = true := by decide +kernel
theorem sBX12_binds_82 {l : Launch} {h0 h' : Hp} {v : Int} (h8 : nOf h0 = 148) (n : Nat) (h : Hp) : ∀ (f : Nat) (x1 : Int) (x4 : Int) {r : Int × Hp}, BX12_binds_82 n f x1 x4 h = some r → gWV v h' r → PAt l false (mi 224).1 h0 v h' 82 [(0, 16, 113), (1, 0, x1), (4, 0, x4)] [] h := by
  intro f
  induction f with
  | zero =>
    intro x1 x4 r H _
    have H2 : (none : Option (Int × Hp)) = some r := H
    cases H2
  | succ f ih =>
    intro x1 x4 r H hG
    exact pat_ro ok_sdX12_binds_82 rfl rkX12_binds h8 (foX12_binds_82 n) (frX12_binds_82 n) (fun v1 q => by
    cases q
    exact ⟨hG.1, fun _ => hG.2⟩) (List.forall_mem_cons.mpr ⟨(fun a c H => by
      dsimp only at H
      split at H
      · exact ih _ _ H hG
      · cases H), (fun q9 h9 => by cases h9)⟩) ((eBX12_binds_82 n f x1 x4 h).symm.trans H)
theorem sLX12_binds_82 {l : Launch} {h0 h' : Hp} {v : Int} (h8 : nOf h0 = 148) (n : Nat) (x1 : Int) (x4 : Int) (h : Hp) {r : Int × Hp} (H : LX12_binds_82 n x1 x4 h = some r) (hG : gWV v h' r) : PAt l false (mi 224).1 h0 v h' 82 [(0, 16, 113), (1, 0, x1), (4, 0, x4)] [] h :=
  sBX12_binds_82 h8 n h n x1 x4 H hG
theorem sMX12_binds {l : Launch} {h0 h' : Hp} {v : Int} (h8 : nOf h0 = 148) (n : Nat) (x1 : Int) (h : Hp) {r : Int × Hp} (H : MX12_binds n x1 h = some r) (hG : gWV v h' r) : PAt l false (mi 224).1 h0 v h' 0 [(0, 16, 113), (1, 0, x1)] [] h :=
  pat_w ok_sdX12_binds rkX12_binds h8 (foX12_binds n) (fun v1 h1 q => by
    cases q
    exact ⟨hG.1, fun _ => hG.2⟩) (List.forall_mem_cons.mpr ⟨(fun a c h H => by
      dsimp only at H
      split at H
      · exact sLX12_binds_82 h8 n _ _ _ H hG
      · cases H), (fun q9 h9 => by cases h9)⟩) ((eMX12_binds n x1 h).symm.trans H)
theorem sndX12_binds {ρ : Type} {l : Launch} (n : Nat) : SndF (ρ := ρ) l false (mi 224).1 (wX12_binds n) := by
    intro a h k r H ha ho hn hf
    have h8 := hf rfl
    obtain ⟨x0, x1, rfl⟩ := len2 (show a.length = 2 from ha)
    have u0 := uq16 hn (ho (16, x0) (List.mem_cons_self))
    subst u0
    replace H : bnd (MX12_binds n x1 h) (fun r h2 => k r h2) = some r := H
    obtain ⟨v2, h2, H1, H2⟩ := bnd_some H
    exact ⟨v2, h2, H2, met_mk (mok_base okX12_binds).1 (by decide +kernel) (Nat.le_of_ble_eq_true rfl) ho (sMX12_binds h8 n x1 h H1 ⟨rfl, rfl⟩), fun q => by cases q⟩
/-! X11_layer -/
def sdX11_layer : SD := [(0, [(0, .iload_n 1, 1, [], 0), (1, .iconst (-1), 1, [], 0), (2, .if_icmp .ne 11, 3, [], 0)]),
  (5, [(5, .aload_n 0, 1, [], 0), (6, .getfield 40, 3, [11, 4, 11, 1, 694, 0], 39), (9, .getfield 289, 3, [7, 10, 0, 0, 382, 0], 0), (12, .ireturn, 1, [], 0)]),
  (13, [(13, .iload_n 1, 1, [], 0), (14, .ifCond .lt 14, 3, [], 0)]),
  (17, [(17, .iload_n 1, 1, [], 0), (18, .aload_n 0, 1, [], 0), (19, .getfield 40, 3, [11, 4, 11, 1, 694, 0], 39), (22, .getfield 289, 3, [7, 10, 0, 0, 382, 0], 0), (25, .if_icmp .lt 6, 3, [], 0)]),
  (28, [(28, .ldc 217, 2, [0, 1091], (-2147483648)), (30, .ireturn, 1, [], 0)]),
  (31, [(31, .iload_n 2, 1, [], 0), (32, .tableswitch 58 0 2 #[28, 38, 48], 28, [], 0)]),
  (60, [(60, .aload_n 0, 1, [], 0), (61, .getfield 40, 3, [11, 4, 11, 1, 694, 0], 39), (64, .getfield 292, 3, [7, 7, 532, 1, 376, 0], 8), (67, .iload_n 1, 1, [], 0), (68, .iaload, 1, [], 0), (69, .ireturn, 1, [], 0)]),
  (70, [(70, .aload_n 0, 1, [], 0), (71, .getfield 40, 3, [11, 4, 11, 1, 694, 0], 39), (74, .getfield 295, 3, [7, 8, 532, 1, 378, 0], 9), (77, .iload_n 1, 1, [], 0), (78, .iaload, 1, [], 0), (79, .ireturn, 1, [], 0)]),
  (80, [(80, .aload_n 0, 1, [], 0), (81, .getfield 40, 3, [11, 4, 11, 1, 694, 0], 39), (84, .getfield 298, 3, [7, 9, 532, 1, 380, 0], 10), (87, .iload_n 1, 1, [], 0), (88, .iaload, 1, [], 0), (89, .ireturn, 1, [], 0)]),
  (90, [(90, .ldc 217, 2, [0, 1091], (-2147483648)), (92, .ireturn, 1, [], 0)])]
def MX11_layer (x1 x2 : Int) (h : Hp) : Option (Int) :=
(if x1 ≠ (-1) then
(if x1 < 0 then
(some (-2147483648))
else
(if x1 < (h 39 10) then
(if x2 = 0 then
(grd (0 ≤ x1 ∧ x1 < alen 532)
(some (h 47 x1)))
else
(if x2 = 1 then
(grd (0 ≤ x1 ∧ x1 < alen 532)
(some (h 48 x1)))
else
(if x2 = 2 then
(grd (0 ≤ x1 ∧ x1 < alen 532)
(some (h 49 x1)))
else
(some (-2147483648)))))
else
(some (-2147483648))))
else
(some (h 39 10)))
def wX11_layer {ρ : Type} : FN ρ := fun a h k => match a with
  | [_, x1, x2] => bndp (MX11_layer x1 x2 h) (fun r => k r h)
  | _ => none
def fsX11_layer (ρ : Type) : List (FN ρ) := []
def KMX11_layer  : CT (Int) := []
set_option maxRecDepth 100000 in
theorem eMX11_layer (x1 : Int) (x2 : Int) (h : Hp) : MX11_layer x1 x2 h =
  goAt false (kct (KMX11_layer)) (fun v _ => some (v)) (fsX11_layer _) sdX11_layer 1000 0 [(0, 15, 0), (1, 0, x1), (2, 0, x2)] [] h := rfl
theorem okX11_layer : mokb (mi 225) = true := by decide +kernel
theorem rkX11_layer : rkOK 1 (mi 225).1.2.2.2.2.2.2.1 (mi 225).1.2.2.2.1 := Or.inr (Or.inl ⟨rfl, rfl, rfl⟩)
def calX11_layer : List Nat := []
theorem foX11_layer {l : Launch} {ρ : Type} : fsOK l false mi calX11_layer (fsX11_layer ρ) := trivial
theorem frX11_layer {ρ : Type} : ∀ fn ∈ fsX11_layer ρ, RoF fn := (fun q9 h9 => by cases h9)
theorem ok_sdX11_layer : sdb (mi 225).1.2.1 (insOK mi (mi 225).1.1.cls (mi 225).1.2.2.1 (mi 225).1.2.2.2.2.1 (mi 225).1.2.2.2.2.2.1 calX11_layer false 1) sdX11_layer = true := by decide +kernel
theorem sMX11_layer {l : Launch} {h0 : Hp} {v : Int} (h8 : nOf h0 = 148)  (x1 : Int) (x2 : Int) (h : Hp) {r : Int} (H : MX11_layer x1 x2 h = some r) (hG : gV v r) : PAt l false (mi 225).1 h0 v h 0 [(0, 15, 0), (1, 0, x1), (2, 0, x2)] [] h :=
  pat_ro ok_sdX11_layer rfl rkX11_layer h8 (foX11_layer) (frX11_layer) (fun v1 q => by
    cases q
    exact ⟨rfl, fun _ => hG⟩) (fun q9 h9 => by cases h9) ((eMX11_layer x1 x2 h).symm.trans H)
theorem sndX11_layer {ρ : Type} {l : Launch} : SndF (ρ := ρ) l false (mi 225).1 (wX11_layer) := by
    intro a h k r H ha ho hn hf
    have h8 := hf rfl
    obtain ⟨x0, x1, x2, rfl⟩ := len3 (show a.length = 3 from ha)
    have u0 := uq15 hn (ho (15, x0) (List.mem_cons_self))
    subst u0
    replace H : bndp (MX11_layer x1 x2 h) (fun r => k r h) = some r := H
    obtain ⟨v2, H1, H2⟩ := bndp_some H
    exact ⟨v2, h, H2, met_mk (mok_base okX11_layer).1 (by decide +kernel) (Nat.le_of_ble_eq_true rfl) ho (sMX11_layer h8 x1 x2 h H1 rfl), fun q => by cases q⟩
theorem roX11_layer {ρ : Type} : RoF (wX11_layer : FN ρ) := fun a h k k2 hk => by
  unfold wX11_layer
  split
  · exact bndp_ro hk
  · rfl
/-! X12_isFlat -/
def sdX12_isFlat : SD := [(0, [(0, .aload_n 0, 1, [], 0), (1, .iload_n 1, 1, [], 0), (2, .iconst 2, 1, [], 0), (3, .invokevirtual 146, 3, [1, 0, 1, 106, 1310, 0, 0, 16], 0), (6, .ifCond .ne 7, 3, [], 0)]),
  (9, [(9, .iconst 1, 1, [], 0), (10, .goto 4, 3, [], 0)]),
  (13, [(13, .iconst 0, 1, [], 0)]),
  (14, [(14, .ireturn, 1, [1], 0)])]
def MX12_isFlat (x1 : Int) (h : Hp) : Option (Int) :=
(bndp (MX12_goes x1 2 h) fun r1 =>
(if r1 ≠ 0 then
(some 0)
else
(some 1)))
def wX12_isFlat {ρ : Type} : FN ρ := fun a h k => match a with
  | [_, x1] => bndp (MX12_isFlat x1 h) (fun r => k r h)
  | _ => none
def fsX12_isFlat (ρ : Type) : List (FN ρ) := [wX12_goes]
def KMX12_isFlat  : CT (Int) := []
set_option maxRecDepth 100000 in
theorem eMX12_isFlat (x1 : Int) (h : Hp) : MX12_isFlat x1 h =
  goAt false (kct (KMX12_isFlat)) (fun v _ => some (v)) (fsX12_isFlat _) sdX12_isFlat 1000 0 [(0, 16, 113), (1, 0, x1)] [] h := rfl
theorem okX12_isFlat : mokb (mi 226) = true := by decide +kernel
theorem rkX12_isFlat : rkOK 4 (mi 226).1.2.2.2.2.2.2.1 (mi 226).1.2.2.2.1 := Or.inr (Or.inr (Or.inl ⟨rfl, rfl, rfl⟩))
def calX12_isFlat : List Nat := [106]
theorem foX12_isFlat {l : Launch} {ρ : Type} : fsOK l false mi calX12_isFlat (fsX12_isFlat ρ) := ⟨sndX12_goes, trivial⟩
theorem frX12_isFlat {ρ : Type} : ∀ fn ∈ fsX12_isFlat ρ, RoF fn := (List.forall_mem_cons.mpr ⟨roX12_goes, (fun q9 h9 => by cases h9)⟩)
theorem ok_sdX12_isFlat : sdb (mi 226).1.2.1 (insOK mi (mi 226).1.1.cls (mi 226).1.2.2.1 (mi 226).1.2.2.2.2.1 (mi 226).1.2.2.2.2.2.1 calX12_isFlat false 4) sdX12_isFlat = true := by decide +kernel
theorem sMX12_isFlat {l : Launch} {h0 : Hp} {v : Int} (h8 : nOf h0 = 148)  (x1 : Int) (h : Hp) {r : Int} (H : MX12_isFlat x1 h = some r) (hG : gV v r) : PAt l false (mi 226).1 h0 v h 0 [(0, 16, 113), (1, 0, x1)] [] h :=
  pat_ro ok_sdX12_isFlat rfl rkX12_isFlat h8 (foX12_isFlat) (frX12_isFlat) (fun v1 q => by
    cases q
    exact ⟨rfl, fun _ => hG⟩) (fun q9 h9 => by cases h9) ((eMX12_isFlat x1 h).symm.trans H)
theorem sndX12_isFlat {ρ : Type} {l : Launch} : SndF (ρ := ρ) l false (mi 226).1 (wX12_isFlat) := by
    intro a h k r H ha ho hn hf
    have h8 := hf rfl
    obtain ⟨x0, x1, rfl⟩ := len2 (show a.length = 2 from ha)
    have u0 := uq16 hn (ho (16, x0) (List.mem_cons_self))
    subst u0
    replace H : bndp (MX12_isFlat x1 h) (fun r => k r h) = some r := H
    obtain ⟨v2, H1, H2⟩ := bndp_some H
    exact ⟨v2, h, H2, met_mk (mok_base okX12_isFlat).1 (by decide +kernel) (Nat.le_of_ble_eq_true rfl) ho (sMX12_isFlat h8 x1 h H1 rfl), fun q => by cases q⟩
theorem roX12_isFlat {ρ : Type} : RoF (wX12_isFlat : FN ρ) := fun a h k k2 hk => by
  unfold wX12_isFlat
  split
  · exact bndp_ro hk
  · rfl
/-! X12_heightOf -/
def sdX12_heightOf : SD := [(0, [(0, .aload_n 0, 1, [], 0), (1, .getfield 37, 3, [12, 14, 1580, 1, 1336, 0], 9), (4, .iconst 3, 1, [], 0), (5, .iload_n 1, 1, [], 0), (6, .imul, 1, [], 0), (7, .iconst 2, 1, [], 0), (8, .iadd, 1, [], 0), (9, .iaload, 1, [], 0), (10, .ireturn, 1, [], 0)])]
def MX12_heightOf (x1 : Int) (h : Hp) : Option (Int) :=
(grd (0 ≤ (w32 ((w32 (3 * x1)) + 2)) ∧ (w32 ((w32 (3 * x1)) + 2)) < alen 1580)
(some (h 122 (w32 ((w32 (3 * x1)) + 2)))))
def wX12_heightOf {ρ : Type} : FN ρ := fun a h k => match a with
  | [_, x1] => bndp (MX12_heightOf x1 h) (fun r => k r h)
  | _ => none
def fsX12_heightOf (ρ : Type) : List (FN ρ) := []
def KMX12_heightOf  : CT (Int) := []
set_option maxRecDepth 100000 in
theorem eMX12_heightOf (x1 : Int) (h : Hp) : MX12_heightOf x1 h =
  goAt false (kct (KMX12_heightOf)) (fun v _ => some (v)) (fsX12_heightOf _) sdX12_heightOf 1000 0 [(0, 16, 113), (1, 0, x1)] [] h := rfl
theorem okX12_heightOf : mokb (mi 227) = true := by decide +kernel
theorem rkX12_heightOf : rkOK 1 (mi 227).1.2.2.2.2.2.2.1 (mi 227).1.2.2.2.1 := Or.inr (Or.inl ⟨rfl, rfl, rfl⟩)
def calX12_heightOf : List Nat := []
theorem foX12_heightOf {l : Launch} {ρ : Type} : fsOK l false mi calX12_heightOf (fsX12_heightOf ρ) := trivial
theorem frX12_heightOf {ρ : Type} : ∀ fn ∈ fsX12_heightOf ρ, RoF fn := (fun q9 h9 => by cases h9)
theorem ok_sdX12_heightOf : sdb (mi 227).1.2.1 (insOK mi (mi 227).1.1.cls (mi 227).1.2.2.1 (mi 227).1.2.2.2.2.1 (mi 227).1.2.2.2.2.2.1 calX12_heightOf false 1) sdX12_heightOf = true := by decide +kernel
theorem sMX12_heightOf {l : Launch} {h0 : Hp} {v : Int} (h8 : nOf h0 = 148)  (x1 : Int) (h : Hp) {r : Int} (H : MX12_heightOf x1 h = some r) (hG : gV v r) : PAt l false (mi 227).1 h0 v h 0 [(0, 16, 113), (1, 0, x1)] [] h :=
  pat_ro ok_sdX12_heightOf rfl rkX12_heightOf h8 (foX12_heightOf) (frX12_heightOf) (fun v1 q => by
    cases q
    exact ⟨rfl, fun _ => hG⟩) (fun q9 h9 => by cases h9) ((eMX12_heightOf x1 h).symm.trans H)
theorem sndX12_heightOf {ρ : Type} {l : Launch} : SndF (ρ := ρ) l false (mi 227).1 (wX12_heightOf) := by
    intro a h k r H ha ho hn hf
    have h8 := hf rfl
    obtain ⟨x0, x1, rfl⟩ := len2 (show a.length = 2 from ha)
    have u0 := uq16 hn (ho (16, x0) (List.mem_cons_self))
    subst u0
    replace H : bndp (MX12_heightOf x1 h) (fun r => k r h) = some r := H
    obtain ⟨v2, H1, H2⟩ := bndp_some H
    exact ⟨v2, h, H2, met_mk (mok_base okX12_heightOf).1 (by decide +kernel) (Nat.le_of_ble_eq_true rfl) ho (sMX12_heightOf h8 x1 h H1 rfl), fun q => by cases q⟩
theorem roX12_heightOf {ρ : Type} : RoF (wX12_heightOf : FN ρ) := fun a h k k2 hk => by
  unfold wX12_heightOf
  split
  · exact bndp_ro hk
  · rfl
