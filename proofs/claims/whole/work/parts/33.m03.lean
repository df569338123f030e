/-! X10_blockOf -/
def sdX10_blockOf : SD := [(0, [(0, .iconst 0, 1, [], 0), (1, .istore_n 2, 1, [], 0)]),
  (2, [(2, .iload_n 2, 1, [], 0), (3, .aload_n 0, 1, [], 0), (4, .getfield 51, 3, [10, 11, 0, 0, 202, 0], 0), (7, .if_icmp .ge 21, 3, [], 0)]),
  (10, [(10, .aload_n 0, 1, [], 0), (11, .getfield 23, 3, [10, 3, 532, 1, 176, 0], 7), (14, .iload_n 2, 1, [], 0), (15, .iaload, 1, [], 0), (16, .iload_n 1, 1, [], 0), (17, .if_icmp .le 5, 3, [], 0)]),
  (20, [(20, .iload_n 2, 1, [], 0), (21, .ireturn, 1, [], 0)]),
  (22, [(22, .iinc 2 1, 3, [], 0), (25, .goto (-23), 3, [], 0)]),
  (28, [(28, .aload_n 0, 1, [], 0), (29, .getfield 51, 3, [10, 11, 0, 0, 202, 0], 0), (32, .iconst 1, 1, [], 0), (33, .isub, 1, [], 0), (34, .ireturn, 1, [], 0)])]
def BX10_blockOf_2 (n : Nat) : Nat → Int → Int → Int → Hp → Option (Int)
  | 0, _, _, _, _ => none
  | f + 1, x0, x1, x2, h =>
    (if (h x0 11) ≤ x2 then
    (some (w32 ((h x0 11) - 1)))
    else
    (grd (0 ≤ x2 ∧ x2 < alen 532)
    (if (h (x0 + 7) x2) ≤ x1 then
    (ltt (w32 (x2 + 1)) fun y1 =>
    (BX10_blockOf_2 n f x0 x1 y1 h))
    else
    (some x2))))
def LX10_blockOf_2 (n : Nat) (x0 x1 x2 : Int) (h : Hp) : Option (Int) :=
(BX10_blockOf_2 n n x0 x1 x2 h)
def MX10_blockOf (n : Nat) (x0 x1 : Int) (h : Hp) : Option (Int) :=
(ltt 0 fun y1 =>
(LX10_blockOf_2 n x0 x1 y1 h))
def wX10_blockOf {ρ : Type} (n : Nat) : FN ρ := fun a h k => match a with
  | [x0, x1] => bndp (MX10_blockOf n x0 x1 h) (fun r => k r h)
  | _ => none
def fsX10_blockOf (n : Nat) (ρ : Type) : List (FN ρ) := []
def KBX10_blockOf_2 (_ : Nat) (bk : Int → Int → Int → Hp → Option (Int)) : CT (Int) := [(2, [(0, 14, none), (1, 0, none), (2, 0, none)], [], fun a c h => match a, c with
    | [x0, x1, x2], [] => bk x0 x1 x2 h
    | _, _ => none)]
set_option maxRecDepth 100000 in
theorem eBX10_blockOf_2 (n f : Nat) (x0 : Int) (x1 : Int) (x2 : Int) (h : Hp) : BX10_blockOf_2 n (f + 1) x0 x1 x2 h =
  goAt false (kct (KBX10_blockOf_2 n (BX10_blockOf_2 n f))) (fun v _ => some (v)) (fsX10_blockOf n _) sdX10_blockOf 1000 2 [(0, 14, x0), (1, 0, x1), (2, 0, x2)] [] h := rfl
def KMX10_blockOf (n : Nat) : CT (Int) := [(2, [(0, 14, none), (1, 0, none), (2, 0, none)], [], fun a c h => match a, c with
    | [x0, x1, x2], [] => LX10_blockOf_2 n x0 x1 x2 h
    | _, _ => none)]
set_option maxRecDepth 100000 in
theorem eMX10_blockOf (n : Nat) (x0 : Int) (x1 : Int) (h : Hp) : MX10_blockOf n x0 x1 h =
  goAt false (kct (KMX10_blockOf n)) (fun v _ => some (v)) (fsX10_blockOf n _) sdX10_blockOf 1000 0 [(0, 14, x0), (1, 0, x1)] [] h := rfl
theorem okX10_blockOf : mokb (mi 72) = true := by decide +kernel
theorem rkX10_blockOf : rkOK 1 (mi 72).1.2.2.2.2.2.2.1 (mi 72).1.2.2.2.1 := Or.inr (Or.inl ⟨rfl, rfl, rfl⟩)
def calX10_blockOf : List Nat := []
theorem foX10_blockOf {l : Launch} {ρ : Type} (n : Nat) : fsOK l false mi calX10_blockOf (fsX10_blockOf n ρ) := trivial
theorem frX10_blockOf {ρ : Type} (n : Nat) : ∀ fn ∈ fsX10_blockOf n ρ, RoF fn := (fun q9 h9 => by cases h9)
theorem ok_sdX10_blockOf : sdb (mi 72).1.2.1 (insOK mi (mi 72).1.1.cls (mi 72).1.2.2.1 (mi 72).1.2.2.2.2.1 (mi 72).1.2.2.2.2.2.1 calX10_blockOf false 1) sdX10_blockOf = true := by decide +kernel
theorem sBX10_blockOf_2 {l : Launch} {h0 : Hp} {v : Int} (h8 : nOf h0 = 148) (n : Nat) (h : Hp) : ∀ (f : Nat) (x0 : Int) (x1 : Int) (x2 : Int) {r : Int}, BX10_blockOf_2 n f x0 x1 x2 h = some r → gV v r → PAt l false (mi 72).1 h0 v h 2 [(0, 14, x0), (1, 0, x1), (2, 0, x2)] [] h := by
  intro f
  induction f with
  | zero =>
    intro x0 x1 x2 r H _
    have H2 : (none : Option (Int)) = some r := H
    cases H2
  | succ f ih =>
    intro x0 x1 x2 r H hG
    exact pat_ro ok_sdX10_blockOf rfl rkX10_blockOf h8 (foX10_blockOf n) (frX10_blockOf n) (fun v1 q => by
    cases q
    exact ⟨rfl, fun _ => hG⟩) (List.forall_mem_cons.mpr ⟨(fun a c H => by
      dsimp only at H
      split at H
      · exact ih _ _ _ H hG
      · cases H), (fun q9 h9 => by cases h9)⟩) ((eBX10_blockOf_2 n f x0 x1 x2 h).symm.trans H)
theorem sLX10_blockOf_2 {l : Launch} {h0 : Hp} {v : Int} (h8 : nOf h0 = 148) (n : Nat) (x0 : Int) (x1 : Int) (x2 : Int) (h : Hp) {r : Int} (H : LX10_blockOf_2 n x0 x1 x2 h = some r) (hG : gV v r) : PAt l false (mi 72).1 h0 v h 2 [(0, 14, x0), (1, 0, x1), (2, 0, x2)] [] h :=
  sBX10_blockOf_2 h8 n h n x0 x1 x2 H hG
theorem sMX10_blockOf {l : Launch} {h0 : Hp} {v : Int} (h8 : nOf h0 = 148) (n : Nat) (x0 : Int) (x1 : Int) (h : Hp) {r : Int} (H : MX10_blockOf n x0 x1 h = some r) (hG : gV v r) : PAt l false (mi 72).1 h0 v h 0 [(0, 14, x0), (1, 0, x1)] [] h :=
  pat_ro ok_sdX10_blockOf rfl rkX10_blockOf h8 (foX10_blockOf n) (frX10_blockOf n) (fun v1 q => by
    cases q
    exact ⟨rfl, fun _ => hG⟩) (List.forall_mem_cons.mpr ⟨(fun a c H => by
      dsimp only at H
      split at H
      · exact sLX10_blockOf_2 h8 n _ _ _ _ H hG
      · cases H), (fun q9 h9 => by cases h9)⟩) ((eMX10_blockOf n x0 x1 h).symm.trans H)
theorem sndX10_blockOf {ρ : Type} {l : Launch} (n : Nat) : SndF (ρ := ρ) l false (mi 72).1 (wX10_blockOf n) := by
    intro a h k r H ha ho hn hf
    have h8 := hf rfl
    obtain ⟨x0, x1, rfl⟩ := len2 (show a.length = 2 from ha)
    replace H : bndp (MX10_blockOf n x0 x1 h) (fun r => k r h) = some r := H
    obtain ⟨v2, H1, H2⟩ := bndp_some H
    exact ⟨v2, h, H2, met_mk (mok_base okX10_blockOf).1 (by decide +kernel) (Nat.le_of_ble_eq_true rfl) ho (sMX10_blockOf h8 n x0 x1 h H1 rfl), fun q => by cases q⟩
theorem roX10_blockOf {ρ : Type} (n : Nat) : RoF (wX10_blockOf n : FN ρ) := fun a h k k2 hk => by
  unfold wX10_blockOf
  split
  · exact bndp_ro hk
  · rfl
/-! X8_begin -/
def sdX8_begin : SD := [(0, [(0, .aload_n 0, 1, [], 0), (1, .iconst 0, 1, [], 0), (2, .putfield 18, 3, [8, 0, 0, 0, 0, 481], 0), (5, .aload_n 0, 1, [], 0), (6, .iconst 0, 1, [], 0), (7, .putfield 21, 3, [8, 1, 0, 0, 0, 484], 0), (10, .aload_n 0, 1, [], 0), (11, .iconst 0, 1, [], 0), (12, .putfield 24, 3, [8, 2, 0, 0, 0, 487], 0), (15, .aload_n 0, 1, [], 0), (16, .aload_n 1, 1, [], 0), (17, .iconst 0, 1, [], 0), (18, .invokevirtual 27, 3, [1, 0, 1, 72, 682, 0, 14], 0), (21, .putfield 9, 3, [8, 3, 0, 0, 0, 490], 0), (24, .aload_n 0, 1, [], 0), (25, .iload_n 2, 1, [], 0), (26, .putfield 15, 3, [8, 4, 0, 0, 0, 493], 0), (29, .aload_n 0, 1, [], 0), (30, .iconst 0, 1, [], 0), (31, .putfield 33, 3, [8, 5, 0, 0, 1, 495], 0), (34, .return_, 1, [], 0)])]
def MX8_begin (n : Nat) (x0 x1 x2 : Int) (h : Hp) : Option (Hp) :=
(ltt (up h x0 0 0) fun h1 =>
(ltt (up h1 x0 1 0) fun h2 =>
(ltt (up h2 x0 2 0) fun h3 =>
(bndp (MX10_blockOf n x1 0 h3) fun r1 =>
(ltt (up h3 x0 3 r1) fun h4 =>
(ltt (up h4 x0 4 x2) fun h5 =>
(ltt (up h5 x0 5 0) fun h6 =>
(some h6))))))))
def wX8_begin {ρ : Type} (n : Nat) : FN ρ := fun a h k => match a with
  | [x0, x1, x2] => bndh (MX8_begin n x0 x1 x2 h) (fun h2 => k 0 h2)
  | _ => none
def fsX8_begin (n : Nat) (ρ : Type) : List (FN ρ) := [wX10_blockOf n]
def KMX8_begin (_ : Nat) : CT (Hp) := []
set_option maxRecDepth 100000 in
theorem eMX8_begin (n : Nat) (x0 : Int) (x1 : Int) (x2 : Int) (h : Hp) : MX8_begin n x0 x1 x2 h =
  goAt false (kct (KMX8_begin n)) (fun _ h => some (h)) (fsX8_begin n _) sdX8_begin 1000 0 [(0, 12, x0), (1, 14, x1), (2, 0, x2)] [] h := rfl
theorem okX8_begin : mokb (mi 73) = true := by decide +kernel
theorem rkX8_begin : rkOK 0 (mi 73).1.2.2.2.2.2.2.1 (mi 73).1.2.2.2.1 := Or.inl ⟨rfl, rfl, rfl⟩
def calX8_begin : List Nat := [72]
theorem foX8_begin {l : Launch} {ρ : Type} (n : Nat) : fsOK l false mi calX8_begin (fsX8_begin n ρ) := ⟨(sndX10_blockOf n), trivial⟩
theorem ok_sdX8_begin : sdb (mi 73).1.2.1 (insOK mi (mi 73).1.1.cls (mi 73).1.2.2.1 (mi 73).1.2.2.2.2.1 (mi 73).1.2.2.2.2.2.1 calX8_begin false 0) sdX8_begin = true := by decide +kernel
theorem sMX8_begin {l : Launch} {h0 h' : Hp} {v : Int} (h8 : nOf h0 = 148) (n : Nat) (x0 : Int) (x1 : Int) (x2 : Int) (h : Hp) {r : Hp} (H : MX8_begin n x0 x1 x2 h = some r) (hG : gW h' r) : PAt l false (mi 73).1 h0 v h' 0 [(0, 12, x0), (1, 14, x1), (2, 0, x2)] [] h :=
  pat_w ok_sdX8_begin rkX8_begin h8 (foX8_begin n) (fun v1 h1 q => by
    cases q
    exact ⟨hG, fun q9 => absurd rfl q9⟩) (fun q9 h9 => by cases h9) ((eMX8_begin n x0 x1 x2 h).symm.trans H)
theorem sndX8_begin {ρ : Type} {l : Launch} (n : Nat) : SndF (ρ := ρ) l false (mi 73).1 (wX8_begin n) := by
    intro a h k r H ha ho hn hf
    have h8 := hf rfl
    obtain ⟨x0, x1, x2, rfl⟩ := len3 (show a.length = 3 from ha)
    replace H : bndh (MX8_begin n x0 x1 x2 h) (fun h2 => k 0 h2) = some r := H
    obtain ⟨h2, H1, H2⟩ := bndh_some H
    exact ⟨0, h2, H2, met_mk (mok_base okX8_begin).1 (by decide +kernel) (Nat.le_of_ble_eq_true rfl) ho (sMX8_begin h8 n x0 x1 x2 h H1 rfl), fun q => by cases q⟩
/-! X5_forget -/
def sdX5_forget : SD := [(0, [(0, .aload_n 0, 1, [], 0), (1, .iconst 0, 1, [], 0), (2, .putfield 24, 3, [5, 2, 0, 0, 0, 526], 0), (5, .return_, 1, [], 0)])]
def MX5_forget (h : Hp) : Option (Hp) :=
(ltt (up h 66 2 0) fun h1 =>
(some h1))
def wX5_forget {ρ : Type} : FN ρ := fun a h k => match a with
  | [_] => bndh (MX5_forget h) (fun h2 => k 0 h2)
  | _ => none
def fsX5_forget (ρ : Type) : List (FN ρ) := []
def KMX5_forget  : CT (Hp) := []
set_option maxRecDepth 100000 in
theorem eMX5_forget (h : Hp) : MX5_forget h =
  goAt false (kct (KMX5_forget)) (fun _ h => some (h)) (fsX5_forget _) sdX5_forget 1000 0 [(0, 9, 66)] [] h := rfl
theorem okX5_forget : mokb (mi 74) = true := by decide +kernel
theorem rkX5_forget : rkOK 0 (mi 74).1.2.2.2.2.2.2.1 (mi 74).1.2.2.2.1 := Or.inl ⟨rfl, rfl, rfl⟩
def calX5_forget : List Nat := []
theorem foX5_forget {l : Launch} {ρ : Type} : fsOK l false mi calX5_forget (fsX5_forget ρ) := trivial
theorem ok_sdX5_forget : sdb (mi 74).1.2.1 (insOK mi (mi 74).1.1.cls (mi 74).1.2.2.1 (mi 74).1.2.2.2.2.1 (mi 74).1.2.2.2.2.2.1 calX5_forget false 0) sdX5_forget = true := by decide +kernel
theorem sMX5_forget {l : Launch} {h0 h' : Hp} {v : Int} (h8 : nOf h0 = 148)   (h : Hp) {r : Hp} (H : MX5_forget h = some r) (hG : gW h' r) : PAt l false (mi 74).1 h0 v h' 0 [(0, 9, 66)] [] h :=
  pat_w ok_sdX5_forget rkX5_forget h8 (foX5_forget) (fun v1 h1 q => by
    cases q
    exact ⟨hG, fun q9 => absurd rfl q9⟩) (fun q9 h9 => by cases h9) ((eMX5_forget h).symm.trans H)
theorem sndX5_forget {ρ : Type} {l : Launch} : SndF (ρ := ρ) l false (mi 74).1 (wX5_forget) := by
    intro a h k r H ha ho hn hf
    have h8 := hf rfl
    obtain ⟨x0, rfl⟩ := len1 (show a.length = 1 from ha)
    have u0 := uq9 hn (ho (9, x0) (List.mem_cons_self))
    subst u0
    replace H : bndh (MX5_forget h) (fun h2 => k 0 h2) = some r := H
    obtain ⟨h2, H1, H2⟩ := bndh_some H
    exact ⟨0, h2, H2, met_mk (mok_base okX5_forget).1 (by decide +kernel) (Nat.le_of_ble_eq_true rfl) ho (sMX5_forget h8  h H1 rfl), fun q => by cases q⟩
/-! X11_startAnew -/
def sdX11_startAnew : SD := [(0, [(0, .aload_n 0, 1, [], 0), (1, .getfield 47, 3, [11, 5, 5, 1, 695, 0], 50), (4, .aload_n 0, 1, [], 0), (5, .getfield 10, 3, [11, 2, 14, 0, 692, 0], 0), (8, .aload_n 0, 1, [], 0), (9, .getfield 10, 3, [11, 2, 14, 0, 692, 0], 0), (12, .getfield 115, 3, [10, 10, 0, 0, 198, 0], 0), (15, .aload_n 0, 1, [], 0), (16, .getfield 10, 3, [11, 2, 14, 0, 692, 0], 0), (19, .getfield 118, 3, [10, 9, 0, 0, 194, 0], 0), (22, .invokevirtual 121, 3, [0, 0, 1, 55, 567, 0, 0, 14, 5], 0), (25, .aload_n 0, 1, [], 0), (26, .getfield 47, 3, [11, 5, 5, 1, 695, 0], 50), (29, .bipush 100, 2, [], 0), (31, .invokevirtual 125, 3, [1, 1, 1, 59, 601, 0, 5], 0), (34, .pop, 1, [], 0), (35, .aload_n 0, 1, [], 0), (36, .getfield 40, 3, [11, 4, 11, 1, 694, 0], 39), (39, .aload_n 0, 1, [], 0), (40, .getfield 10, 3, [11, 2, 14, 0, 692, 0], 0), (43, .invokevirtual 129, 3, [0, 2, 1, 71, 617, 14, 11], 0), (46, .aload_n 0, 1, [], 0), (47, .getfield 57, 3, [11, 7, 12, 1, 697, 0], 64), (50, .aload_n 0, 1, [], 0), (51, .getfield 10, 3, [11, 2, 14, 0, 692, 0], 0), (54, .bipush 100, 2, [], 0), (56, .invokevirtual 132, 3, [0, 3, 1, 73, 678, 0, 14, 12], 0), (59, .aload_n 0, 1, [], 0), (60, .getfield 57, 3, [11, 7, 12, 1, 697, 0], 64), (63, .iconst 0, 1, [], 0), (64, .putfield 136, 3, [8, 6, 0, 0, 0, 499], 0), (67, .aload_n 0, 1, [], 0), (68, .getfield 67, 3, [11, 9, 9, 1, 699, 0], 66), (71, .invokevirtual 139, 3, [0, 4, 1, 74, 686, 9], 0), (74, .iconst 0, 1, [], 0), (75, .istore_n 1, 1, [], 0)]),
  (76, [(76, .iload_n 1, 1, [], 0), (77, .iconst 3, 1, [], 0), (78, .if_icmp .ge 16, 3, [], 0)]),
  (81, [(81, .aload_n 0, 1, [], 0), (82, .getfield 75, 3, [11, 11, 46, 1, 701, 0], 92), (85, .iload_n 1, 1, [], 0), (86, .iconst 0, 1, [], 0), (87, .bastore, 1, [], 0), (88, .iinc 1 1, 3, [], 0), (91, .goto (-15), 3, [], 0)]),
  (94, [(94, .return_, 1, [], 0)])]
def BX11_startAnew_76 (n : Nat) : Nat → Int → Hp → Option (Hp)
  | 0, _, _ => none
  | f + 1, x1, h =>
    (if 3 ≤ x1 then
    (some h)
    else
    (grd (0 ≤ x1 ∧ x1 < alen 46)
    (ltt (up h 92 x1 (0 % 2)) fun h1 =>
    (ltt (w32 (x1 + 1)) fun y1 =>
    (BX11_startAnew_76 n f y1 h1)))))
def LX11_startAnew_76 (n : Nat) (x1 : Int) (h : Hp) : Option (Hp) :=
(BX11_startAnew_76 n n x1 h)
def MX11_startAnew (n : Nat) (h : Hp) : Option (Hp) :=
(bndh (MX1_settle n 50 (h 0 2) (h (h 0 2) 10) (h (h 0 2) 9) h) fun h1 =>
(bnd (MX1_grant n 50 100 h1) fun r1 h2 =>
(bndh (MX7_look n (h2 0 2) h2) fun h3 =>
(bndh (MX8_begin n 64 (h3 0 2) 100 h3) fun h4 =>
(ltt (up h4 64 6 0) fun h5 =>
(bndh (MX5_forget h5) fun h6 =>
(ltt 0 fun y1 =>
(LX11_startAnew_76 n y1 h6))))))))
def wX11_startAnew {ρ : Type} (n : Nat) : FN ρ := fun a h k => match a with
  | [_] => bndh (MX11_startAnew n h) (fun h2 => k 0 h2)
  | _ => none
def fsX11_startAnew (n : Nat) (ρ : Type) : List (FN ρ) := [wX1_settle n, wX1_grant n, wX7_look n, wX8_begin n, wX5_forget]
def KBX11_startAnew_76 (_ : Nat) (bk : Int → Hp → Option (Hp)) : CT (Hp) := [(76, [(0, 15, (some 0)), (1, 0, none)], [], fun a c h => match a, c with
    | [x1], [] => bk x1 h
    | _, _ => none)]
set_option maxRecDepth 100000 in
theorem eBX11_startAnew_76 (n f : Nat) (x1 : Int) (h : Hp) : BX11_startAnew_76 n (f + 1) x1 h =
  goAt false (kct (KBX11_startAnew_76 n (BX11_startAnew_76 n f))) (fun _ h => some (h)) (fsX11_startAnew n _) sdX11_startAnew 1000 76 [(0, 15, 0), (1, 0, x1)] [] h := rfl
def KMX11_startAnew (n : Nat) : CT (Hp) := [(76, [(0, 15, (some 0)), (1, 0, none)], [], fun a c h => match a, c with
    | [x1], [] => LX11_startAnew_76 n x1 h
    | _, _ => none)]
set_option maxRecDepth 100000 in
theorem eMX11_startAnew (n : Nat) (h : Hp) : MX11_startAnew n h =
  goAt false (kct (KMX11_startAnew n)) (fun _ h => some (h)) (fsX11_startAnew n _) sdX11_startAnew 1000 0 [(0, 15, 0)] [] h := rfl
theorem okX11_startAnew : mokb (mi 75) = true := by decide +kernel
theorem rkX11_startAnew : rkOK 0 (mi 75).1.2.2.2.2.2.2.1 (mi 75).1.2.2.2.1 := Or.inl ⟨rfl, rfl, rfl⟩
def calX11_startAnew : List Nat := [55, 59, 71, 73, 74]
theorem foX11_startAnew {l : Launch} {ρ : Type} (n : Nat) : fsOK l false mi calX11_startAnew (fsX11_startAnew n ρ) := ⟨(sndX1_settle n), ⟨(sndX1_grant n), ⟨(sndX7_look n), ⟨(sndX8_begin n), ⟨sndX5_forget, trivial⟩⟩⟩⟩⟩
theorem ok_sdX11_startAnew : sdb (mi 75).1.2.1 (insOK mi (mi 75).1.1.cls (mi 75).1.2.2.1 (mi 75).1.2.2.2.2.1 (mi 75).1.2.2.2.2.2.1 calX11_startAnew false 0) sdX11_startAnew = true := by decide +kernel
theorem sBX11_startAnew_76 {l : Launch} {h0 h' : Hp} {v : Int} (h8 : nOf h0 = 148) (n : Nat) : ∀ (f : Nat) (x1 : Int) (h : Hp) {r : Hp}, BX11_startAnew_76 n f x1 h = some r → gW h' r → PAt l false (mi 75).1 h0 v h' 76 [(0, 15, 0), (1, 0, x1)] [] h := by
  intro f
  induction f with
  | zero =>
    intro x1 h r H _
    have H2 : (none : Option (Hp)) = some r := H
    cases H2
  | succ f ih =>
    intro x1 h r H hG
    exact pat_w ok_sdX11_startAnew rkX11_startAnew h8 (foX11_startAnew n) (fun v1 h1 q => by
    cases q
    exact ⟨hG, fun q9 => absurd rfl q9⟩) (List.forall_mem_cons.mpr ⟨(fun a c h H => by
      dsimp only at H
      split at H
      · exact ih _ _ H hG
      · cases H), (fun q9 h9 => by cases h9)⟩) ((eBX11_startAnew_76 n f x1 h).symm.trans H)
theorem sLX11_startAnew_76 {l : Launch} {h0 h' : Hp} {v : Int} (h8 : nOf h0 = 148) (n : Nat) (x1 : Int) (h : Hp) {r : Hp} (H : LX11_startAnew_76 n x1 h = some r) (hG : gW h' r) : PAt l false (mi 75).1 h0 v h' 76 [(0, 15, 0), (1, 0, x1)] [] h :=
  sBX11_startAnew_76 h8 n n x1 h H hG
theorem sMX11_startAnew {l : Launch} {h0 h' : Hp} {v : Int} (h8 : nOf h0 = 148) (n : Nat)  (h : Hp) {r : Hp} (H : MX11_startAnew n h = some r) (hG : gW h' r) : PAt l false (mi 75).1 h0 v h' 0 [(0, 15, 0)] [] h :=
  pat_w ok_sdX11_startAnew rkX11_startAnew h8 (foX11_startAnew n) (fun v1 h1 q => by
    cases q
    exact ⟨hG, fun q9 => absurd rfl q9⟩) (List.forall_mem_cons.mpr ⟨(fun a c h H => by
      dsimp only at H
      split at H
      · exact sLX11_startAnew_76 h8 n _ _ H hG
      · cases H), (fun q9 h9 => by cases h9)⟩) ((eMX11_startAnew n h).symm.trans H)
theorem sndX11_startAnew {ρ : Type} {l : Launch} (n : Nat) : SndF (ρ := ρ) l false (mi 75).1 (wX11_startAnew n) := by
    intro a h k r H ha ho hn hf
    have h8 := hf rfl
    obtain ⟨x0, rfl⟩ := len1 (show a.length = 1 from ha)
    have u0 := uq15 hn (ho (15, x0) (List.mem_cons_self))
    subst u0
    replace H : bndh (MX11_startAnew n h) (fun h2 => k 0 h2) = some r := H
    obtain ⟨h2, H1, H2⟩ := bndh_some H
    exact ⟨0, h2, H2, met_mk (mok_base okX11_startAnew).1 (by decide +kernel) (Nat.le_of_ble_eq_true rfl) ho (sMX11_startAnew h8 n  h H1 rfl), fun q => by cases q⟩
/-! X11_program -/
def sdX11_program : SD := [(0, [(0, .aload_n 0, 1, [], 0), (1, .getfield 31, 3, [11, 1, 10, 1, 691, 0], 29), (4, .aload_n 0, 1, [], 0), (5, .getfield 16, 3, [11, 3, 14, 0, 693, 0], 0), (8, .invokevirtual 108, 3, [1, 0, 1, 51, 756, 14, 10], 0), (11, .istore_n 1, 1, [], 0), (12, .aload_n 0, 1, [], 0), (13, .getfield 22, 3, [11, 0, 13, 1, 690, 0], 27), (16, .iconst 0, 1, [], 0), (17, .putfield 100, 3, [9, 1, 0, 0, 0, 255], 0), (20, .iload_n 1, 1, [], 0), (21, .iconst (-1), 1, [], 0), (22, .if_icmp .eq 8, 3, [], 0)]),
  (25, [(25, .bipush (-2), 2, [], 0), (27, .iload_n 1, 1, [], 0), (28, .isub, 1, [], 0), (29, .ireturn, 1, [], 0)]),
  (30, [(30, .aload_n 0, 1, [], 0), (31, .getfield 16, 3, [11, 3, 14, 0, 693, 0], 0), (34, .astore_n 2, 1, [], 0), (35, .aload_n 0, 1, [], 0), (36, .aload_n 0, 1, [], 0), (37, .getfield 10, 3, [11, 2, 14, 0, 692, 0], 0), (40, .putfield 16, 3, [11, 3, 14, 0, 0, 693], 0), (43, .aload_n 0, 1, [], 0), (44, .aload_n 2, 1, [], 0), (45, .putfield 10, 3, [11, 2, 14, 0, 0, 692], 0), (48, .aload_n 0, 1, [], 0), (49, .invokevirtual 97, 3, [0, 1, 1, 75, 563, 15], 0), (52, .aload_n 0, 1, [], 0), (53, .getfield 10, 3, [11, 2, 14, 0, 692, 0], 0), (56, .getfield 112, 3, [10, 11, 0, 0, 204, 0], 0), (59, .ireturn, 1, [], 0)])]
def MX11_program (n : Nat) (h : Hp) : Option (Int × Hp) :=
(bnd (MX6_read n (h 0 3) h) fun r1 h1 =>
(ltt r1 fun y1 =>
(ltt (up h1 27 1 0) fun h2 =>
(if y1 = (-1) then
(ltt (up h2 0 3 (h2 0 2)) fun h3 =>
(ltt (up h3 0 2 (h2 0 3)) fun h4 =>
(bndh (MX11_startAnew n h4) fun h5 =>
(some ((h5 (h5 0 2) 11), h5)))))
else
(some ((w32 ((-2) - y1)), h2))))))
def wX11_program {ρ : Type} (n : Nat) : FN ρ := fun a h k => match a with
  | [_] => bnd (MX11_program n h) (fun r h2 => k r h2)
  | _ => none
def fsX11_program (n : Nat) (ρ : Type) : List (FN ρ) := [wX6_read n, wX11_startAnew n]
def KMX11_program (_ : Nat) : CT (Int × Hp) := []
set_option maxRecDepth 100000 in
theorem eMX11_program (n : Nat) (h : Hp) : MX11_program n h =
  goAt false (kct (KMX11_program n)) (fun v h => some ((v, h))) (fsX11_program n _) sdX11_program 1000 0 [(0, 15, 0)] [] h := rfl
theorem okX11_program : mokb (mi 76) = true := by decide +kernel
theorem rkX11_program : rkOK 1 (mi 76).1.2.2.2.2.2.2.1 (mi 76).1.2.2.2.1 := Or.inr (Or.inl ⟨rfl, rfl, rfl⟩)
def calX11_program : List Nat := [51, 75]
theorem foX11_program {l : Launch} {ρ : Type} (n : Nat) : fsOK l false mi calX11_program (fsX11_program n ρ) := ⟨(sndX6_read n), ⟨(sndX11_startAnew n), trivial⟩⟩
theorem ok_sdX11_program : sdb (mi 76).1.2.1 (insOK mi (mi 76).1.1.cls (mi 76).1.2.2.1 (mi 76).1.2.2.2.2.1 (mi 76).1.2.2.2.2.2.1 calX11_program false 1) sdX11_program = true := by decide +kernel
theorem sMX11_program {l : Launch} {h0 h' : Hp} {v : Int} (h8 : nOf h0 = 148) (n : Nat)  (h : Hp) {r : Int × Hp} (H : MX11_program n h = some r) (hG : gWV v h' r) : PAt l false (mi 76).1 h0 v h' 0 [(0, 15, 0)] [] h :=
  pat_w ok_sdX11_program rkX11_program h8 (foX11_program n) (fun v1 h1 q => by
    cases q
    exact ⟨hG.1, fun _ => hG.2⟩) (fun q9 h9 => by cases h9) ((eMX11_program n h).symm.trans H)
theorem sndX11_program {ρ : Type} {l : Launch} (n : Nat) : SndF (ρ := ρ) l false (mi 76).1 (wX11_program n) := by
    intro a h k r H ha ho hn hf
    have h8 := hf rfl
    obtain ⟨x0, rfl⟩ := len1 (show a.length = 1 from ha)
    have u0 := uq15 hn (ho (15, x0) (List.mem_cons_self))
    subst u0
    replace H : bnd (MX11_program n h) (fun r h2 => k r h2) = some r := H
    obtain ⟨v2, h2, H1, H2⟩ := bnd_some H
    exact ⟨v2, h2, H2, met_mk (mok_base okX11_program).1 (by decide +kernel) (Nat.le_of_ble_eq_true rfl) ho (sMX11_program h8 n  h H1 ⟨rfl, rfl⟩), fun q => by cases q⟩
/-! X12_laysSettings -/
def sdX12_laysSettings : SD := [(0, [(0, .iconst 0, 1, [], 0), (1, .istore_n 1, 1, [], 0)]),
  (2, [(2, .iload_n 1, 1, [], 0), (3, .iconst 3, 1, [], 0), (4, .if_icmp .ge 28, 3, [], 0)]),
  (7, [(7, .aload_n 0, 1, [], 0), (8, .getfield 11, 3, [12, 0, 84, 1, 1322, 0], 1), (11, .iload_n 1, 1, [], 0), (12, .sipush 2000, 3, [], 0), (15, .iastore, 1, [], 0), (16, .aload_n 0, 1, [], 0), (17, .getfield 11, 3, [12, 0, 84, 1, 1322, 0], 1), (20, .iconst 3, 1, [], 0), (21, .iload_n 1, 1, [], 0), (22, .iadd, 1, [], 0), (23, .bipush 100, 2, [], 0), (25, .iastore, 1, [], 0), (26, .iinc 1 1, 3, [], 0), (29, .goto (-27), 3, [], 0)]),
  (32, [(32, .aload_n 0, 1, [], 0), (33, .getfield 11, 3, [12, 0, 84, 1, 1322, 0], 1), (36, .bipush 6, 2, [], 0), (38, .bipush 10, 2, [], 0), (40, .iastore, 1, [], 0), (41, .aload_n 0, 1, [], 0), (42, .getfield 11, 3, [12, 0, 84, 1, 1322, 0], 1), (45, .bipush 7, 2, [], 0), (47, .bipush 50, 2, [], 0), (49, .iastore, 1, [], 0), (50, .aload_n 0, 1, [], 0), (51, .iconst 0, 1, [], 0), (52, .putfield 127, 3, [12, 2, 0, 0, 0, 1324], 0), (55, .aload_n 0, 1, [], 0), (56, .iconst 0, 1, [], 0), (57, .putfield 131, 3, [12, 3, 0, 0, 0, 1325], 0), (60, .aload_n 0, 1, [], 0), (61, .iconst 0, 1, [], 0), (62, .putfield 134, 3, [12, 4, 0, 0, 0, 1326], 0), (65, .iconst 0, 1, [], 0), (66, .istore_n 1, 1, [], 0)]),
  (67, [(67, .iload_n 1, 1, [], 0), (68, .iconst 3, 1, [], 0), (69, .if_icmp .ge 23, 3, [], 0)]),
  (72, [(72, .aload_n 0, 1, [], 0), (73, .getfield 28, 3, [12, 11, 1580, 1, 1333, 0], 6), (76, .iload_n 1, 1, [], 0), (77, .iconst 0, 1, [], 0), (78, .iastore, 1, [], 0), (79, .aload_n 0, 1, [], 0), (80, .getfield 56, 3, [12, 25, 44, 1, 1347, 0], 15), (83, .iload_n 1, 1, [], 0), (84, .iconst 0, 1, [], 0), (85, .iastore, 1, [], 0), (86, .iinc 1 1, 3, [], 0), (89, .goto (-22), 3, [], 0)]),
  (92, [(92, .return_, 1, [], 0)])]
def BX12_laysSettings_2 (n : Nat) : Nat → Int → Hp → Option (Hp)
  | 0, _, _ => none
  | f + 1, x1, h =>
    (if 3 ≤ x1 then
    (some (h))
    else
    (grd (0 ≤ x1 ∧ x1 < alen 84)
    (ltt (up h 114 x1 2000) fun h1 =>
    (grd (0 ≤ (w32 (3 + x1)) ∧ (w32 (3 + x1)) < alen 84)
    (ltt (up h1 114 (w32 (3 + x1)) 100) fun h2 =>
    (ltt (w32 (x1 + 1)) fun y1 =>
    (BX12_laysSettings_2 n f y1 h2)))))))
def BX12_laysSettings_67 (n : Nat) : Nat → Int → Hp → Option (Hp)
  | 0, _, _ => none
  | f + 1, x1, h =>
    (if 3 ≤ x1 then
    (some h)
    else
    (grd (0 ≤ x1 ∧ x1 < alen 1580)
    (ltt (up h 119 x1 0) fun h1 =>
    (grd (0 ≤ x1 ∧ x1 < alen 44)
    (ltt (up h1 128 x1 0) fun h2 =>
    (ltt (w32 (x1 + 1)) fun y1 =>
    (BX12_laysSettings_67 n f y1 h2)))))))
def LX12_laysSettings_67 (n : Nat) (x1 : Int) (h : Hp) : Option (Hp) :=
(BX12_laysSettings_67 n n x1 h)
def JX12_laysSettings_32 (n : Nat) (h : Hp) : Option (Hp) :=
(grd (0 ≤ 6 ∧ 6 < alen 84)
(ltt (up h 114 6 10) fun h1 =>
(grd (0 ≤ 7 ∧ 7 < alen 84)
(ltt (up h1 114 7 50) fun h2 =>
(ltt (up h2 113 2 0) fun h3 =>
(ltt (up h3 113 3 0) fun h4 =>
(ltt (up h4 113 4 0) fun h5 =>
(ltt 0 fun y1 =>
(LX12_laysSettings_67 n y1 h5)))))))))
def LX12_laysSettings_2 (n : Nat) (x1 : Int) (h : Hp) : Option (Hp) :=
(bndx (BX12_laysSettings_2 n n x1 h) fun h1 =>
(JX12_laysSettings_32 n h1))
def MX12_laysSettings (n : Nat) (h : Hp) : Option (Hp) :=
(ltt 0 fun y1 =>
(LX12_laysSettings_2 n y1 h))
def wX12_laysSettings {ρ : Type} (n : Nat) : FN ρ := fun a h k => match a with
  | [_] => bndh (MX12_laysSettings n h) (fun h2 => k 0 h2)
  | _ => none
def fsX12_laysSettings (n : Nat) (ρ : Type) : List (FN ρ) := []
def KBX12_laysSettings_2 (_ : Nat) (bk : Int → Hp → Option (Hp)) : CT (Hp) := [(2, [(0, 16, (some 113)), (1, 0, none)], [], fun a c h => match a, c with
    | [x1], [] => bk x1 h
    | _, _ => none),
  (32, [(0, 16, (some 113))], [], fun a c h => match a, c with
    | [], [] => some (h)
    | _, _ => none)]
set_option maxRecDepth 100000 in
theorem eBX12_laysSettings_2 (n f : Nat) (x1 : Int) (h : Hp) : BX12_laysSettings_2 n (f + 1) x1 h =
  goAt false (kct (KBX12_laysSettings_2 n (BX12_laysSettings_2 n f))) (fun _ _ => none) (fsX12_laysSettings n _) sdX12_laysSettings 1000 2 [(0, 16, 113), (1, 0, x1)] [] h := rfl
def KBX12_laysSettings_67 (_ : Nat) (bk : Int → Hp → Option (Hp)) : CT (Hp) := [(67, [(0, 16, (some 113)), (1, 0, none)], [], fun a c h => match a, c with
    | [x1], [] => bk x1 h
    | _, _ => none)]
set_option maxRecDepth 100000 in
theorem eBX12_laysSettings_67 (n f : Nat) (x1 : Int) (h : Hp) : BX12_laysSettings_67 n (f + 1) x1 h =
  goAt false (kct (KBX12_laysSettings_67 n (BX12_laysSettings_67 n f))) (fun _ h => some (h)) (fsX12_laysSettings n _) sdX12_laysSettings 1000 67 [(0, 16, 113), (1, 0, x1)] [] h := rfl
def KJX12_laysSettings_32 (n : Nat) : CT (Hp) := [(67, [(0, 16, (some 113)), (1, 0, none)], [], fun a c h => match a, c with
    | [x1], [] => LX12_laysSettings_67 n x1 h
    | _, _ => none)]
set_option maxRecDepth 100000 in
theorem eJX12_laysSettings_32 (n : Nat) (h : Hp) : JX12_laysSettings_32 n h =
  goAt false (kct (KJX12_laysSettings_32 n)) (fun _ h => some (h)) (fsX12_laysSettings n _) sdX12_laysSettings 1000 32 [(0, 16, 113)] [] h := rfl
def KMX12_laysSettings (n : Nat) : CT (Hp) := [(2, [(0, 16, (some 113)), (1, 0, none)], [], fun a c h => match a, c with
    | [x1], [] => LX12_laysSettings_2 n x1 h
    | _, _ => none)]
set_option maxRecDepth 100000 in
theorem eMX12_laysSettings (n : Nat) (h : Hp) : MX12_laysSettings n h =
  goAt false (kct (KMX12_laysSettings n)) (fun _ h => some (h)) (fsX12_laysSettings n _) sdX12_laysSettings 1000 0 [(0, 16, 113)] [] h := rfl
theorem okX12_laysSettings : mokb (mi 77) = true := by decide +kernel
theorem rkX12_laysSettings : rkOK 0 (mi 77).1.2.2.2.2.2.2.1 (mi 77).1.2.2.2.1 := Or.inl ⟨rfl, rfl, rfl⟩
def calX12_laysSettings : List Nat := []
theorem foX12_laysSettings {l : Launch} {ρ : Type} (n : Nat) : fsOK l false mi calX12_laysSettings (fsX12_laysSettings n ρ) := trivial
theorem ok_sdX12_laysSettings : sdb (mi 77).1.2.1 (insOK mi (mi 77).1.1.cls (mi 77).1.2.2.1 (mi 77).1.2.2.2.2.1 (mi 77).1.2.2.2.2.2.1 calX12_laysSettings false 0) sdX12_laysSettings = true := by decide +kernel
def GX12_laysSettings_2 (l : Launch) (h0 : Hp) (h' : Hp) (v : Int) (_ : Hp) : (Hp) → Prop
  | h1 => PAt l false (mi 77).1 h0 v h' 32 [(0, 16, 113)] [] h1
theorem sBX12_laysSettings_2 {l : Launch} {h0 h' : Hp} {v : Int} (h8 : nOf h0 = 148) (n : Nat) : ∀ (f : Nat) (x1 : Int) (h : Hp) {r : Hp}, BX12_laysSettings_2 n f x1 h = some r → GX12_laysSettings_2 l h0 h' v h r → PAt l false (mi 77).1 h0 v h' 2 [(0, 16, 113), (1, 0, x1)] [] h := by
  intro f
  induction f with
  | zero =>
    intro x1 h r H _
    have H2 : (none : Option (Hp)) = some r := H
    cases H2
  | succ f ih =>
    intro x1 h r H hG
    exact pat_w ok_sdX12_laysSettings rkX12_laysSettings h8 (foX12_laysSettings n) (fun v1 h1 q => by cases q) (List.forall_mem_cons.mpr ⟨(fun a c h H => by
      dsimp only at H
      split at H
      · exact ih _ _ H hG
      · cases H), (List.forall_mem_cons.mpr ⟨(fun a c h H => by
      dsimp only at H
      split at H
      · cases H
        exact hG
      · cases H), (fun q9 h9 => by cases h9)⟩)⟩) ((eBX12_laysSettings_2 n f x1 h).symm.trans H)
theorem sBX12_laysSettings_67 {l : Launch} {h0 h' : Hp} {v : Int} (h8 : nOf h0 = 148) (n : Nat) : ∀ (f : Nat) (x1 : Int) (h : Hp) {r : Hp}, BX12_laysSettings_67 n f x1 h = some r → gW h' r → PAt l false (mi 77).1 h0 v h' 67 [(0, 16, 113), (1, 0, x1)] [] h := by
  intro f
  induction f with
  | zero =>
    intro x1 h r H _
    have H2 : (none : Option (Hp)) = some r := H
    cases H2
  | succ f ih =>
    intro x1 h r H hG
    exact pat_w ok_sdX12_laysSettings rkX12_laysSettings h8 (foX12_laysSettings n) (fun v1 h1 q => by
    cases q
    exact ⟨hG, fun q9 => absurd rfl q9⟩) (List.forall_mem_cons.mpr ⟨(fun a c h H => by
      dsimp only at H
      split at H
      · exact ih _ _ H hG
      · cases H), (fun q9 h9 => by cases h9)⟩) ((eBX12_laysSettings_67 n f x1 h).symm.trans H)
theorem sLX12_laysSettings_67 {l : Launch} {h0 h' : Hp} {v : Int} (h8 : nOf h0 = 148) (n : Nat) (x1 : Int) (h : Hp) {r : Hp} (H : LX12_laysSettings_67 n x1 h = some r) (hG : gW h' r) : PAt l false (mi 77).1 h0 v h' 67 [(0, 16, 113), (1, 0, x1)] [] h :=
  sBX12_laysSettings_67 h8 n n x1 h H hG
theorem sJX12_laysSettings_32 {l : Launch} {h0 h' : Hp} {v : Int} (h8 : nOf h0 = 148) (n : Nat)  (h : Hp) {r : Hp} (H : JX12_laysSettings_32 n h = some r) (hG : gW h' r) : PAt l false (mi 77).1 h0 v h' 32 [(0, 16, 113)] [] h :=
  pat_w ok_sdX12_laysSettings rkX12_laysSettings h8 (foX12_laysSettings n) (fun v1 h1 q => by
    cases q
    exact ⟨hG, fun q9 => absurd rfl q9⟩) (List.forall_mem_cons.mpr ⟨(fun a c h H => by
      dsimp only at H
      split at H
      · exact sLX12_laysSettings_67 h8 n _ _ H hG
      · cases H), (fun q9 h9 => by cases h9)⟩) ((eJX12_laysSettings_32 n h).symm.trans H)
theorem sLX12_laysSettings_2 {l : Launch} {h0 h' : Hp} {v : Int} (h8 : nOf h0 = 148) (n : Nat) (x1 : Int) (h : Hp) {r : Hp} (H : LX12_laysSettings_2 n x1 h = some r) (hG : gW h' r) : PAt l false (mi 77).1 h0 v h' 2 [(0, 16, 113), (1, 0, x1)] [] h := by
  obtain ⟨h1, h2, h3⟩ := bndx_some H
  exact sBX12_laysSettings_2 h8 n n x1 h h2 (sJX12_laysSettings_32 h8 n h1 h3 hG)
theorem sMX12_laysSettings {l : Launch} {h0 h' : Hp} {v : Int} (h8 : nOf h0 = 148) (n : Nat)  (h : Hp) {r : Hp} (H : MX12_laysSettings n h = some r) (hG : gW h' r) : PAt l false (mi 77).1 h0 v h' 0 [(0, 16, 113)] [] h :=
  pat_w ok_sdX12_laysSettings rkX12_laysSettings h8 (foX12_laysSettings n) (fun v1 h1 q => by
    cases q
    exact ⟨hG, fun q9 => absurd rfl q9⟩) (List.forall_mem_cons.mpr ⟨(fun a c h H => by
      dsimp only at H
      split at H
      · exact sLX12_laysSettings_2 h8 n _ _ H hG
      · cases H), (fun q9 h9 => by cases h9)⟩) ((eMX12_laysSettings n h).symm.trans H)
theorem sndX12_laysSettings {ρ : Type} {l : Launch} (n : Nat) : SndF (ρ := ρ) l false (mi 77).1 (wX12_laysSettings n) := by
    intro a h k r H ha ho hn hf
    have h8 := hf rfl
    obtain ⟨x0, rfl⟩ := len1 (show a.length = 1 from ha)
    have u0 := uq16 hn (ho (16, x0) (List.mem_cons_self))
    subst u0
    replace H : bndh (MX12_laysSettings n h) (fun h2 => k 0 h2) = some r := H
    obtain ⟨h2, H1, H2⟩ := bndh_some H
    exact ⟨0, h2, H2, met_mk (mok_base okX12_laysSettings).1 (by decide +kernel) (Nat.le_of_ble_eq_true rfl) ho (sMX12_laysSettings h8 n  h H1 rfl), fun q => by cases q⟩
/-! X12_isRight -/
def sdX12_isRight : SD := [(0, [(0, .aload_n 0, 1, [], 0), (1, .getfield 187, 3, [12, 22, 0, 0, 1344, 0], 0), (4, .iconst (-1), 1, [], 0), (5, .if_icmp .ne 7, 3, [], 0)]),
  (8, [(8, .iconst 1, 1, [], 0), (9, .goto 4, 3, [], 0)]),
  (12, [(12, .iconst 0, 1, [], 0)]),
  (13, [(13, .ireturn, 1, [1], 0)])]
def MX12_isRight (h : Hp) : Option (Int) :=
(if (h 113 22) ≠ (-1) then
(some 0)
else
(some 1))
def wX12_isRight {ρ : Type} : FN ρ := fun a h k => match a with
  | [_] => bndp (MX12_isRight h) (fun r => k r h)
  | _ => none
def fsX12_isRight (ρ : Type) : List (FN ρ) := []
def KMX12_isRight  : CT (Int) := []
set_option maxRecDepth 100000 in
theorem eMX12_isRight (h : Hp) : MX12_isRight h =
  goAt false (kct (KMX12_isRight)) (fun v _ => some (v)) (fsX12_isRight _) sdX12_isRight 1000 0 [(0, 16, 113)] [] h := rfl
theorem okX12_isRight : mokb (mi 78) = true := by decide +kernel
theorem rkX12_isRight : rkOK 4 (mi 78).1.2.2.2.2.2.2.1 (mi 78).1.2.2.2.1 := Or.inr (Or.inr (Or.inl ⟨rfl, rfl, rfl⟩))
def calX12_isRight : List Nat := []
theorem foX12_isRight {l : Launch} {ρ : Type} : fsOK l false mi calX12_isRight (fsX12_isRight ρ) := trivial
theorem frX12_isRight {ρ : Type} : ∀ fn ∈ fsX12_isRight ρ, RoF fn := (fun q9 h9 => by cases h9)
theorem ok_sdX12_isRight : sdb (mi 78).1.2.1 (insOK mi (mi 78).1.1.cls (mi 78).1.2.2.1 (mi 78).1.2.2.2.2.1 (mi 78).1.2.2.2.2.2.1 calX12_isRight false 4) sdX12_isRight = true := by decide +kernel
theorem sMX12_isRight {l : Launch} {h0 : Hp} {v : Int} (h8 : nOf h0 = 148)   (h : Hp) {r : Int} (H : MX12_isRight h = some r) (hG : gV v r) : PAt l false (mi 78).1 h0 v h 0 [(0, 16, 113)] [] h :=
  pat_ro ok_sdX12_isRight rfl rkX12_isRight h8 (foX12_isRight) (frX12_isRight) (fun v1 q => by
    cases q
    exact ⟨rfl, fun _ => hG⟩) (fun q9 h9 => by cases h9) ((eMX12_isRight h).symm.trans H)
theorem sndX12_isRight {ρ : Type} {l : Launch} : SndF (ρ := ρ) l false (mi 78).1 (wX12_isRight) := by
    intro a h k r H ha ho hn hf
    have h8 := hf rfl
    obtain ⟨x0, rfl⟩ := len1 (show a.length = 1 from ha)
    have u0 := uq16 hn (ho (16, x0) (List.mem_cons_self))
    subst u0
    replace H : bndp (MX12_isRight h) (fun r => k r h) = some r := H
    obtain ⟨v2, H1, H2⟩ := bndp_some H
    exact ⟨v2, h, H2, met_mk (mok_base okX12_isRight).1 (by decide +kernel) (Nat.le_of_ble_eq_true rfl) ho (sMX12_isRight h8  h H1 rfl), fun q => by cases q⟩
theorem roX12_isRight {ρ : Type} : RoF (wX12_isRight : FN ρ) := fun a h k k2 hk => by
  unfold wX12_isRight
  split
  · exact bndp_ro hk
  · rfl
/-! X12_sign -/
def sdX12_sign : SD := [(0, [(0, .aload_n 0, 1, [], 0), (1, .getfield 190, 3, [12, 21, 0, 0, 1343, 0], 0), (4, .aload_n 0, 1, [], 0), (5, .getfield 180, 3, [12, 20, 0, 0, 1342, 0], 0), (8, .if_icmp .ge 19, 3, [], 0)]),
  (11, [(11, .aload_n 0, 1, [], 0), (12, .getfield 52, 3, [12, 19, 3223, 1, 1341, 0], 14), (15, .aload_n 0, 1, [], 0), (16, .getfield 190, 3, [12, 21, 0, 0, 1343, 0], 0), (19, .baload, 1, [], 0), (20, .sipush 255, 3, [], 0), (23, .iand, 1, [], 0), (24, .goto 4, 3, [], 0)]),
  (27, [(27, .iconst (-1), 1, [], 0)]),
  (28, [(28, .ireturn, 1, [], 0)])]
def MX12_sign (h : Hp) : Option (Int) :=
(if (h 113 20) ≤ (h 113 21) then
(some (-1))
else
(grd (0 ≤ (h 113 21) ∧ (h 113 21) < alen 3223)
(some (iand (h 127 (h 113 21)) 255))))
def wX12_sign {ρ : Type} : FN ρ := fun a h k => match a with
  | [_] => bndp (MX12_sign h) (fun r => k r h)
  | _ => none
def fsX12_sign (ρ : Type) : List (FN ρ) := []
def KMX12_sign  : CT (Int) := []
set_option maxRecDepth 100000 in
theorem eMX12_sign (h : Hp) : MX12_sign h =
  goAt false (kct (KMX12_sign)) (fun v _ => some (v)) (fsX12_sign _) sdX12_sign 1000 0 [(0, 16, 113)] [] h := rfl
theorem okX12_sign : mokb (mi 79) = true := by decide +kernel
theorem rkX12_sign : rkOK 1 (mi 79).1.2.2.2.2.2.2.1 (mi 79).1.2.2.2.1 := Or.inr (Or.inl ⟨rfl, rfl, rfl⟩)
def calX12_sign : List Nat := []
theorem foX12_sign {l : Launch} {ρ : Type} : fsOK l false mi calX12_sign (fsX12_sign ρ) := trivial
theorem frX12_sign {ρ : Type} : ∀ fn ∈ fsX12_sign ρ, RoF fn := (fun q9 h9 => by cases h9)
theorem ok_sdX12_sign : sdb (mi 79).1.2.1 (insOK mi (mi 79).1.1.cls (mi 79).1.2.2.1 (mi 79).1.2.2.2.2.1 (mi 79).1.2.2.2.2.2.1 calX12_sign false 1) sdX12_sign = true := by decide +kernel
theorem sMX12_sign {l : Launch} {h0 : Hp} {v : Int} (h8 : nOf h0 = 148)   (h : Hp) {r : Int} (H : MX12_sign h = some r) (hG : gV v r) : PAt l false (mi 79).1 h0 v h 0 [(0, 16, 113)] [] h :=
  pat_ro ok_sdX12_sign rfl rkX12_sign h8 (foX12_sign) (frX12_sign) (fun v1 q => by
    cases q
    exact ⟨rfl, fun _ => hG⟩) (fun q9 h9 => by cases h9) ((eMX12_sign h).symm.trans H)
theorem sndX12_sign {ρ : Type} {l : Launch} : SndF (ρ := ρ) l false (mi 79).1 (wX12_sign) := by
    intro a h k r H ha ho hn hf
    have h8 := hf rfl
    obtain ⟨x0, rfl⟩ := len1 (show a.length = 1 from ha)
    have u0 := uq16 hn (ho (16, x0) (List.mem_cons_self))
    subst u0
    replace H : bndp (MX12_sign h) (fun r => k r h) = some r := H
    obtain ⟨v2, H1, H2⟩ := bndp_some H
    exact ⟨v2, h, H2, met_mk (mok_base okX12_sign).1 (by decide +kernel) (Nat.le_of_ble_eq_true rfl) ho (sMX12_sign h8  h H1 rfl), fun q => by cases q⟩
theorem roX12_sign {ρ : Type} : RoF (wX12_sign : FN ρ) := fun a h k k2 hk => by
  unfold wX12_sign
  split
  · exact bndp_ro hk
  · rfl
/-! X12_next -/
def sdX12_next : SD := [(0, [(0, .aload_n 0, 1, [], 0), (1, .invokevirtual 193, 3, [1, 0, 1, 79, 1543, 16], 0), (4, .bipush 32, 2, [], 0), (6, .if_icmp .eq 12, 3, [], 0)]),
  (9, [(9, .aload_n 0, 1, [], 0), (10, .invokevirtual 193, 3, [1, 0, 1, 79, 1543, 16], 0), (13, .bipush 10, 2, [], 0), (15, .if_icmp .ne 16, 3, [], 0)]),
  (18, [(18, .aload_n 0, 1, [], 0), (19, .dup, 1, [], 0), (20, .getfield 190, 3, [12, 21, 0, 0, 1343, 0], 0), (23, .iconst 1, 1, [], 0), (24, .iadd, 1, [], 0), (25, .putfield 190, 3, [12, 21, 0, 0, 0, 1343], 0), (28, .goto (-28), 3, [], 0)]),
  (31, [(31, .aload_n 0, 1, [], 0), (32, .invokevirtual 193, 3, [1, 0, 1, 79, 1543, 16], 0), (35, .ireturn, 1, [], 0)])]
def JX12_next_18 (n : Nat) (bk : Hp → Option (Int × Hp)) (h : Hp) : Option (Int × Hp) :=
(ltt (up h 113 21 (w32 ((h 113 21) + 1))) fun h1 =>
(bk h1))
def BX12_next_0 (n : Nat) : Nat → Hp → Option (Int × Hp)
  | 0, _ => none
  | f + 1, h =>
    (bndp (MX12_sign h) fun r1 =>
    (if r1 = 32 then
    (JX12_next_18 n (BX12_next_0 n f) h)
    else
    (bndp (MX12_sign h) fun r2 =>
    (if r2 ≠ 10 then
    (bndp (MX12_sign h) fun r3 =>
    (some (r3, h)))
    else
    (JX12_next_18 n (BX12_next_0 n f) h)))))
def LX12_next_0 (n : Nat) (h : Hp) : Option (Int × Hp) :=
(BX12_next_0 n n h)
def MX12_next (n : Nat) (h : Hp) : Option (Int × Hp) :=
(LX12_next_0 n h)
def wX12_next {ρ : Type} (n : Nat) : FN ρ := fun a h k => match a with
  | [_] => bnd (MX12_next n h) (fun r h2 => k r h2)
  | _ => none
def fsX12_next (n : Nat) (ρ : Type) : List (FN ρ) := [wX12_sign]
def KJX12_next_18 (_ : Nat) (bk : Hp → Option (Int × Hp)) : CT (Int × Hp) := [(0, [(0, 16, (some 113))], [], fun a c h => match a, c with
    | [], [] => bk h
    | _, _ => none)]
set_option maxRecDepth 100000 in
theorem eJX12_next_18 (n : Nat) (bk : Hp → Option (Int × Hp)) (h : Hp) : JX12_next_18 n bk h =
  goAt false (kct (KJX12_next_18 n bk)) (fun v h => some ((v, h))) (fsX12_next n _) sdX12_next 1000 18 [(0, 16, 113)] [] h := rfl
def KBX12_next_0 (n : Nat) (bk : Hp → Option (Int × Hp)) : CT (Int × Hp) := [(0, [(0, 16, (some 113))], [], fun a c h => match a, c with
    | [], [] => bk h
    | _, _ => none),
  (18, [(0, 16, (some 113))], [], fun a c h => match a, c with
    | [], [] => JX12_next_18 n bk h
    | _, _ => none)]
set_option maxRecDepth 100000 in
theorem eBX12_next_0 (n f : Nat) (h : Hp) : BX12_next_0 n (f + 1) h =
  goAt false (kct (KBX12_next_0 n (BX12_next_0 n f))) (fun v h => some ((v, h))) (fsX12_next n _) sdX12_next 1000 0 [(0, 16, 113)] [] h := rfl
theorem okX12_next : mokb (mi 80) = true := by decide +kernel
theorem rkX12_next : rkOK 1 (mi 80).1.2.2.2.2.2.2.1 (mi 80).1.2.2.2.1 := Or.inr (Or.inl ⟨rfl, rfl, rfl⟩)
def calX12_next : List Nat := [79]
theorem foX12_next {l : Launch} {ρ : Type} (n : Nat) : fsOK l false mi calX12_next (fsX12_next n ρ) := ⟨sndX12_sign, trivial⟩
theorem ok_sdX12_next : sdb (mi 80).1.2.1 (insOK mi (mi 80).1.1.cls (mi 80).1.2.2.1 (mi 80).1.2.2.2.2.1 (mi 80).1.2.2.2.2.2.1 calX12_next false 1) sdX12_next = true := by decide +kernel
theorem sJX12_next_18 {l : Launch} {h0 h' : Hp} {v : Int} (h8 : nOf h0 = 148) (n : Nat) (bk : Hp → Option (Int × Hp)) (hbk : ∀ (h : Hp) (r : Int × Hp), bk h = some r → gWV v h' r → PAt l false (mi 80).1 h0 v h' 0 [(0, 16, 113)] [] h)  (h : Hp) {r : Int × Hp} (H : JX12_next_18 n bk h = some r) (hG : gWV v h' r) : PAt l false (mi 80).1 h0 v h' 18 [(0, 16, 113)] [] h :=
  pat_w ok_sdX12_next rkX12_next h8 (foX12_next n) (fun v1 h1 q => by
    cases q
    exact ⟨hG.1, fun _ => hG.2⟩) (List.forall_mem_cons.mpr ⟨(fun a c h H => by
      dsimp only at H
      split at H
      · exact hbk _ _ H hG
      · cases H), (fun q9 h9 => by cases h9)⟩) ((eJX12_next_18 n bk h).symm.trans H)
theorem sBX12_next_0 {l : Launch} {h0 h' : Hp} {v : Int} (h8 : nOf h0 = 148) (n : Nat) : ∀ (f : Nat)  (h : Hp) {r : Int × Hp}, BX12_next_0 n f h = some r → gWV v h' r → PAt l false (mi 80).1 h0 v h' 0 [(0, 16, 113)] [] h := by
  intro f
  induction f with
  | zero =>
    intro h r H _
    have H2 : (none : Option (Int × Hp)) = some r := H
    cases H2
  | succ f ih =>
    intro h r H hG
    have ihk : ∀  (h : Hp) (r : Int × Hp), BX12_next_0 n f h = some r → gWV v h' r → PAt l false (mi 80).1 h0 v h' 0 [(0, 16, 113)] [] h := fun h r9 a9 b9 => ih h a9 b9
    exact pat_w ok_sdX12_next rkX12_next h8 (foX12_next n) (fun v1 h1 q => by
    cases q
    exact ⟨hG.1, fun _ => hG.2⟩) (List.forall_mem_cons.mpr ⟨(fun a c h H => by
      dsimp only at H
      split at H
      · exact ih _ H hG
      · cases H), (List.forall_mem_cons.mpr ⟨(fun a c h H => by
      dsimp only at H
      split at H
      · exact sJX12_next_18 h8 n (BX12_next_0 n f) ihk _ H hG
      · cases H), (fun q9 h9 => by cases h9)⟩)⟩) ((eBX12_next_0 n f  h).symm.trans H)
theorem sLX12_next_0 {l : Launch} {h0 h' : Hp} {v : Int} (h8 : nOf h0 = 148) (n : Nat)  (h : Hp) {r : Int × Hp} (H : LX12_next_0 n h = some r) (hG : gWV v h' r) : PAt l false (mi 80).1 h0 v h' 0 [(0, 16, 113)] [] h :=
  sBX12_next_0 h8 n n h H hG
theorem sMX12_next {l : Launch} {h0 h' : Hp} {v : Int} (h8 : nOf h0 = 148) (n : Nat)  (h : Hp) {r : Int × Hp} (H : MX12_next n h = some r) (hG : gWV v h' r) : PAt l false (mi 80).1 h0 v h' 0 [(0, 16, 113)] [] h :=
  (sLX12_next_0 h8 n h H hG).weak (fun q9 h9 => by
    simp only [List.mem_cons, List.mem_nil_iff, or_false] at h9 ⊢
    first | exact Or.inl h9 | exact h9 | omega)
theorem sndX12_next {ρ : Type} {l : Launch} (n : Nat) : SndF (ρ := ρ) l false (mi 80).1 (wX12_next n) := by
    intro a h k r H ha ho hn hf
    have h8 := hf rfl
    obtain ⟨x0, rfl⟩ := len1 (show a.length = 1 from ha)
    have u0 := uq16 hn (ho (16, x0) (List.mem_cons_self))
    subst u0
    replace H : bnd (MX12_next n h) (fun r h2 => k r h2) = some r := H
    obtain ⟨v2, h2, H1, H2⟩ := bnd_some H
    exact ⟨v2, h2, H2, met_mk (mok_base okX12_next).1 (by decide +kernel) (Nat.le_of_ble_eq_true rfl) ho (sMX12_next h8 n  h H1 ⟨rfl, rfl⟩), fun q => by cases q⟩
/-! X12_in -/
def sdX12_in : SD := [(0, [(0, .lload_n 0, 1, [], 0), (1, .lload_n 2, 1, [], 0), (2, .lcmp, 1, [], 0), (3, .ifCond .lt 14, 3, [], 0)]),
  (6, [(6, .lload_n 0, 1, [], 0), (7, .lload 4, 2, [], 0), (9, .lcmp, 1, [], 0), (10, .ifCond .gt 7, 3, [], 0)]),
  (13, [(13, .iconst 1, 1, [], 0), (14, .goto 4, 3, [], 0)]),
  (17, [(17, .iconst 0, 1, [], 0)]),
  (18, [(18, .ireturn, 1, [1], 0)])]
def MX12_in (x0 x2 x4 : Int) : Option (Int) :=
(if (lcp x0 x2) < 0 then
(some 0)
else
(if 0 < (lcp x0 x4) then
(some 0)
else
(some 1)))
def wX12_in {ρ : Type} : FN ρ := fun a h k => match a with
  | [x0, x2, x4] => bndp (MX12_in x0 x2 x4) (fun r => k r h)
  | _ => none
def fsX12_in (ρ : Type) : List (FN ρ) := []
def KMX12_in  : CT (Int) := []
set_option maxRecDepth 100000 in
theorem eMX12_in (x0 : Int) (x2 : Int) (x4 : Int) (h : Hp) : MX12_in x0 x2 x4 =
  goAt false (kct (KMX12_in)) (fun v _ => some (v)) (fsX12_in _) sdX12_in 1000 0 [(0, 1, x0), (2, 1, x2), (4, 1, x4)] [] h := rfl
theorem okX12_in : mokb (mi 81) = true := by decide +kernel
theorem rkX12_in : rkOK 4 (mi 81).1.2.2.2.2.2.2.1 (mi 81).1.2.2.2.1 := Or.inr (Or.inr (Or.inl ⟨rfl, rfl, rfl⟩))
def calX12_in : List Nat := []
theorem foX12_in {l : Launch} {ρ : Type} : fsOK l false mi calX12_in (fsX12_in ρ) := trivial
theorem frX12_in {ρ : Type} : ∀ fn ∈ fsX12_in ρ, RoF fn := (fun q9 h9 => by cases h9)
theorem ok_sdX12_in : sdb (mi 81).1.2.1 (insOK mi (mi 81).1.1.cls (mi 81).1.2.2.1 (mi 81).1.2.2.2.2.1 (mi 81).1.2.2.2.2.2.1 calX12_in false 4) sdX12_in = true := by decide +kernel
theorem sMX12_in {l : Launch} {h0 : Hp} {v : Int} (h8 : nOf h0 = 148)  (x0 : Int) (x2 : Int) (x4 : Int) (h : Hp) {r : Int} (H : MX12_in x0 x2 x4 = some r) (hG : gV v r) : PAt l false (mi 81).1 h0 v h 0 [(0, 1, x0), (2, 1, x2), (4, 1, x4)] [] h :=
  pat_ro ok_sdX12_in rfl rkX12_in h8 (foX12_in) (frX12_in) (fun v1 q => by
    cases q
    exact ⟨rfl, fun _ => hG⟩) (fun q9 h9 => by cases h9) ((eMX12_in x0 x2 x4 h).symm.trans H)
theorem sndX12_in {ρ : Type} {l : Launch} : SndF (ρ := ρ) l false (mi 81).1 (wX12_in) := by
    intro a h k r H ha ho hn hf
    have h8 := hf rfl
    obtain ⟨x0, x2, x4, rfl⟩ := len3 (show a.length = 3 from ha)
    replace H : bndp (MX12_in x0 x2 x4) (fun r => k r h) = some r := H
    obtain ⟨v2, H1, H2⟩ := bndp_some H
    exact ⟨v2, h, H2, met_mk (mok_base okX12_in).1 (by decide +kernel) (Nat.le_of_ble_eq_true rfl) ho (sMX12_in h8 x0 x2 x4 h H1 rfl), fun q => by cases q⟩
theorem roX12_in {ρ : Type} : RoF (wX12_in : FN ρ) := fun a h k k2 hk => by
  unfold wX12_in
  split
  · exact bndp_ro hk
  · rfl
/-! X12_wordLength -/
def sdX12_wordLength : SD := [(0, [(0, .iconst 0, 1, [], 0), (1, .istore_n 1, 1, [], 0)]),
  (2, [(2, .aload_n 0, 1, [], 0), (3, .getfield 190, 3, [12, 21, 0, 0, 1343, 0], 0), (6, .iload_n 1, 1, [], 0), (7, .iadd, 1, [], 0), (8, .aload_n 0, 1, [], 0), (9, .getfield 180, 3, [12, 20, 0, 0, 1342, 0], 0), (12, .if_icmp .ge 33, 3, [], 0)]),
  (15, [(15, .aload_n 0, 1, [], 0), (16, .getfield 52, 3, [12, 19, 3223, 1, 1341, 0], 14), (19, .aload_n 0, 1, [], 0), (20, .getfield 190, 3, [12, 21, 0, 0, 1343, 0], 0), (23, .iload_n 1, 1, [], 0), (24, .iadd, 1, [], 0), (25, .baload, 1, [], 0), (26, .i2l, 1, [], 0), (27, .ldc2_w 213, 3, [1, 1559], 97), (30, .ldc2_w 215, 3, [1, 1560], 122), (33, .invokestatic 217, 3, [1, 0, 3, 81, 1561, 1, 1, 1], 0), (36, .ifCond .eq 9, 3, [], 0)]),
  (39, [(39, .iinc 1 1, 3, [], 0), (42, .goto (-40), 3, [], 0)]),
  (45, [(45, .iload_n 1, 1, [], 0), (46, .ireturn, 1, [], 0)])]
def BX12_wordLength_2 (n : Nat) : Nat → Int → Hp → Option (Int)
  | 0, _, _ => none
  | f + 1, x1, h =>
    (if (h 113 20) ≤ (w32 ((h 113 21) + x1)) then
    (some x1)
    else
    (grd (0 ≤ (w32 ((h 113 21) + x1)) ∧ (w32 ((h 113 21) + x1)) < alen 3223)
    (bndp (MX12_in (h 127 (w32 ((h 113 21) + x1))) 97 122) fun r1 =>
    (if r1 = 0 then
    (some x1)
    else
    (ltt (w32 (x1 + 1)) fun y1 =>
    (BX12_wordLength_2 n f y1 h))))))
def LX12_wordLength_2 (n : Nat) (x1 : Int) (h : Hp) : Option (Int) :=
(BX12_wordLength_2 n n x1 h)
def MX12_wordLength (n : Nat) (h : Hp) : Option (Int) :=
(ltt 0 fun y1 =>
(LX12_wordLength_2 n y1 h))
def wX12_wordLength {ρ : Type} (n : Nat) : FN ρ := fun a h k => match a with
  | [_] => bndp (MX12_wordLength n h) (fun r => k r h)
  | _ => none
def fsX12_wordLength (n : Nat) (ρ : Type) : List (FN ρ) := [wX12_in]
def KBX12_wordLength_2 (_ : Nat) (bk : Int → Hp → Option (Int)) : CT (Int) := [(2, [(0, 16, (some 113)), (1, 0, none)], [], fun a c h => match a, c with
    | [x1], [] => bk x1 h
    | _, _ => none)]
set_option maxRecDepth 100000 in
theorem eBX12_wordLength_2 (n f : Nat) (x1 : Int) (h : Hp) : BX12_wordLength_2 n (f + 1) x1 h =
  goAt false (kct (KBX12_wordLength_2 n (BX12_wordLength_2 n f))) (fun v _ => some (v)) (fsX12_wordLength n _) sdX12_wordLength 1000 2 [(0, 16, 113), (1, 0, x1)] [] h := rfl
def KMX12_wordLength (n : Nat) : CT (Int) := [(2, [(0, 16, (some 113)), (1, 0, none)], [], fun a c h => match a, c with
    | [x1], [] => LX12_wordLength_2 n x1 h
    | _, _ => none)]
set_option maxRecDepth 100000 in
theorem eMX12_wordLength (n : Nat) (h : Hp) : MX12_wordLength n h =
  goAt false (kct (KMX12_wordLength n)) (fun v _ => some (v)) (fsX12_wordLength n _) sdX12_wordLength 1000 0 [(0, 16, 113)] [] h := rfl
theorem okX12_wordLength : mokb (mi 82) = true := by decide +kernel
theorem rkX12_wordLength : rkOK 1 (mi 82).1.2.2.2.2.2.2.1 (mi 82).1.2.2.2.1 := Or.inr (Or.inl ⟨rfl, rfl, rfl⟩)
def calX12_wordLength : List Nat := [81]
theorem foX12_wordLength {l : Launch} {ρ : Type} (n : Nat) : fsOK l false mi calX12_wordLength (fsX12_wordLength n ρ) := ⟨sndX12_in, trivial⟩
theorem frX12_wordLength {ρ : Type} (n : Nat) : ∀ fn ∈ fsX12_wordLength n ρ, RoF fn := (List.forall_mem_cons.mpr ⟨roX12_in, (fun q9 h9 => by cases h9)⟩)
theorem ok_sdX12_wordLength : sdb (mi 82).1.2.1 (insOK mi (mi 82).1.1.cls (mi 82).1.2.2.1 (mi 82).1.2.2.2.2.1 (mi 82).1.2.2.2.2.2.1 calX12_wordLength false 1) sdX12_wordLength = true := by decide +kernel
theorem sBX12_wordLength_2 {l : Launch} {h0 : Hp} {v : Int} (h8 : nOf h0 = 148) (n : Nat) (h : Hp) : ∀ (f : Nat) (x1 : Int) {r : Int}, BX12_wordLength_2 n f x1 h = some r → gV v r → PAt l false (mi 82).1 h0 v h 2 [(0, 16, 113), (1, 0, x1)] [] h := by
  intro f
  induction f with
  | zero =>
    intro x1 r H _
    have H2 : (none : Option (Int)) = some r := H
    cases H2
  | succ f ih =>
    intro x1 r H hG
    exact pat_ro ok_sdX12_wordLength rfl rkX12_wordLength h8 (foX12_wordLength n) (frX12_wordLength n) (fun v1 q => by
    cases q
    exact ⟨rfl, fun _ => hG⟩) (List.forall_mem_cons.mpr ⟨(fun a c H => by
      dsimp only at H
      split at H
      · exact ih _ H hG
      · cases H), (fun q9 h9 => by cases h9)⟩) ((eBX12_wordLength_2 n f x1 h).symm.trans H)
theorem sLX12_wordLength_2 {l : Launch} {h0 : Hp} {v : Int} (h8 : nOf h0 = 148) (n : Nat) (x1 : Int) (h : Hp) {r : Int} (H : LX12_wordLength_2 n x1 h = some r) (hG : gV v r) : PAt l false (mi 82).1 h0 v h 2 [(0, 16, 113), (1, 0, x1)] [] h :=
  sBX12_wordLength_2 h8 n h n x1 H hG
theorem sMX12_wordLength {l : Launch} {h0 : Hp} {v : Int} (h8 : nOf h0 = 148) (n : Nat)  (h : Hp) {r : Int} (H : MX12_wordLength n h = some r) (hG : gV v r) : PAt l false (mi 82).1 h0 v h 0 [(0, 16, 113)] [] h :=
  pat_ro ok_sdX12_wordLength rfl rkX12_wordLength h8 (foX12_wordLength n) (frX12_wordLength n) (fun v1 q => by
    cases q
    exact ⟨rfl, fun _ => hG⟩) (List.forall_mem_cons.mpr ⟨(fun a c H => by
      dsimp only at H
      split at H
      · exact sLX12_wordLength_2 h8 n _ _ H hG
      · cases H), (fun q9 h9 => by cases h9)⟩) ((eMX12_wordLength n h).symm.trans H)
theorem sndX12_wordLength {ρ : Type} {l : Launch} (n : Nat) : SndF (ρ := ρ) l false (mi 82).1 (wX12_wordLength n) := by
    intro a h k r H ha ho hn hf
    have h8 := hf rfl
    obtain ⟨x0, rfl⟩ := len1 (show a.length = 1 from ha)
    have u0 := uq16 hn (ho (16, x0) (List.mem_cons_self))
    subst u0
    replace H : bndp (MX12_wordLength n h) (fun r => k r h) = some r := H
    obtain ⟨v2, H1, H2⟩ := bndp_some H
    exact ⟨v2, h, H2, met_mk (mok_base okX12_wordLength).1 (by decide +kernel) (Nat.le_of_ble_eq_true rfl) ho (sMX12_wordLength h8 n  h H1 rfl), fun q => by cases q⟩
theorem roX12_wordLength {ρ : Type} (n : Nat) : RoF (wX12_wordLength n : FN ρ) := fun a h k k2 hk => by
  unfold wX12_wordLength
  split
  · exact bndp_ro hk
  · rfl
/-! X12_wordOf -/
def sdX12_wordOf : SD := [(0, [(0, .iload_n 0, 1, [], 0), (1, .tableswitch 64 0 6 #[43, 46, 49, 52, 55, 58, 61], 43, [], 0)]),
  (44, [(44, .ldc 197, 2, [2, 1567], 0), (46, .areturn, 1, [], 0)]),
  (47, [(47, .ldc 199, 2, [2, 1568], 1), (49, .areturn, 1, [], 0)]),
  (50, [(50, .ldc 201, 2, [2, 1569], 2), (52, .areturn, 1, [], 0)]),
  (53, [(53, .ldc 203, 2, [2, 1570], 3), (55, .areturn, 1, [], 0)]),
  (56, [(56, .ldc 205, 2, [2, 1571], 4), (58, .areturn, 1, [], 0)]),
  (59, [(59, .ldc 207, 2, [2, 1572], 5), (61, .areturn, 1, [], 0)]),
  (62, [(62, .ldc 209, 2, [2, 1573], 6), (64, .areturn, 1, [], 0)]),
  (65, [(65, .ldc 211, 2, [2, 1574], 7), (67, .areturn, 1, [], 0)])]
def MX12_wordOf (x0 : Int) : Option (Int) :=
(if x0 = 0 then
(some 0)
else
(if x0 = 1 then
(some 1)
else
(if x0 = 2 then
(some 2)
else
(if x0 = 3 then
(some 3)
else
(if x0 = 4 then
(some 4)
else
(if x0 = 5 then
(some 5)
else
(if x0 = 6 then
(some 6)
else
(some 7))))))))
def wX12_wordOf {ρ : Type} : FN ρ := fun a h k => match a with
  | [x0] => bndp (MX12_wordOf x0) (fun r => k r h)
  | _ => none
def fsX12_wordOf (ρ : Type) : List (FN ρ) := []
def KMX12_wordOf  : CT (Int) := []
set_option maxRecDepth 100000 in
theorem eMX12_wordOf (x0 : Int) (h : Hp) : MX12_wordOf x0 =
  goAt false (kct (KMX12_wordOf)) (fun v _ => some (v)) (fsX12_wordOf _) sdX12_wordOf 1000 0 [(0, 0, x0)] [] h := rfl
theorem okX12_wordOf : mokb (mi 83) = true := by decide +kernel
theorem rkX12_wordOf : rkOK 3 (mi 83).1.2.2.2.2.2.2.1 (mi 83).1.2.2.2.1 := Or.inr (Or.inr (Or.inr (Or.inr ⟨rfl, rfl, _, rfl⟩)))
def calX12_wordOf : List Nat := []
theorem foX12_wordOf {l : Launch} {ρ : Type} : fsOK l false mi calX12_wordOf (fsX12_wordOf ρ) := trivial
theorem frX12_wordOf {ρ : Type} : ∀ fn ∈ fsX12_wordOf ρ, RoF fn := (fun q9 h9 => by cases h9)
theorem ok_sdX12_wordOf : sdb (mi 83).1.2.1 (insOK mi (mi 83).1.1.cls (mi 83).1.2.2.1 (mi 83).1.2.2.2.2.1 (mi 83).1.2.2.2.2.2.1 calX12_wordOf false 3) sdX12_wordOf = true := by decide +kernel
theorem sMX12_wordOf {l : Launch} {h0 : Hp} {v : Int} (h8 : nOf h0 = 148)  (x0 : Int) (h : Hp) {r : Int} (H : MX12_wordOf x0 = some r) (hG : gV v r) : PAt l false (mi 83).1 h0 v h 0 [(0, 0, x0)] [] h :=
  pat_ro ok_sdX12_wordOf rfl rkX12_wordOf h8 (foX12_wordOf) (frX12_wordOf) (fun v1 q => by
    cases q
    exact ⟨rfl, fun _ => hG⟩) (fun q9 h9 => by cases h9) ((eMX12_wordOf x0 h).symm.trans H)
theorem sndX12_wordOf {ρ : Type} {l : Launch} : SndF (ρ := ρ) l false (mi 83).1 (wX12_wordOf) := by
    intro a h k r H ha ho hn hf
    have h8 := hf rfl
    obtain ⟨x0, rfl⟩ := len1 (show a.length = 1 from ha)
    replace H : bndp (MX12_wordOf x0) (fun r => k r h) = some r := H
    obtain ⟨v2, H1, H2⟩ := bndp_some H
    exact ⟨v2, h, H2, met_mk (mok_base okX12_wordOf).1 (by decide +kernel) (Nat.le_of_ble_eq_true rfl) ho (sMX12_wordOf h8 x0 h H1 rfl), fun q => by cases q⟩
theorem roX12_wordOf {ρ : Type} : RoF (wX12_wordOf : FN ρ) := fun a h k k2 hk => by
  unfold wX12_wordOf
  split
  · exact bndp_ro hk
  · rfl
/-! X12_wordHere -/
def sdX12_wordHere : SD := [(0, [(0, .aload_n 0, 1, [], 0), (1, .invokevirtual 221, 3, [1, 0, 1, 82, 1555, 16], 0), (4, .istore_n 1, 1, [], 0), (5, .iconst 0, 1, [], 0), (6, .istore_n 2, 1, [], 0)]),
  (7, [(7, .iload_n 2, 1, [], 0), (8, .bipush 8, 2, [], 0), (10, .if_icmp .ge 81, 3, [], 0)]),
  (13, [(13, .iload_n 2, 1, [], 0), (14, .invokestatic 224, 3, [3, 1, 3, 83, 1564, 0], 0), (17, .invokevirtual 228, 3, [1, 2, 1, 267, 1575, 2], 0), (20, .iload_n 1, 1, [], 0), (21, .if_icmp .ne 7, 3, [], 0)]),
  (24, [(24, .iconst 1, 1, [], 0), (25, .goto 4, 3, [], 0)]),
  (28, [(28, .iconst 0, 1, [], 0)]),
  (29, [(29, .istore_n 3, 1, [], 0), (30, .iconst 0, 1, [], 0), (31, .istore 4, 2, [], 0)]),
  (33, [(33, .iload 4, 2, [], 0), (35, .iload_n 1, 1, [], 0), (36, .if_icmp .ge 43, 3, [], 0)]),
  (39, [(39, .iload_n 3, 1, [], 0), (40, .ifCond .eq 39, 3, [], 0)]),
  (43, [(43, .aload_n 0, 1, [], 0), (44, .getfield 52, 3, [12, 19, 3223, 1, 1341, 0], 14), (47, .aload_n 0, 1, [], 0), (48, .getfield 190, 3, [12, 21, 0, 0, 1343, 0], 0), (51, .iload 4, 2, [], 0), (53, .iadd, 1, [], 0), (54, .baload, 1, [], 0), (55, .iload_n 2, 1, [], 0), (56, .invokestatic 224, 3, [3, 1, 3, 83, 1564, 0], 0), (59, .iload 4, 2, [], 0), (61, .invokevirtual 232, 3, [1, 3, 1, 268, 1576, 0, 2], 0), (64, .if_icmp .ne 7, 3, [], 0)]),
  (67, [(67, .iconst 1, 1, [], 0), (68, .goto 4, 3, [], 0)]),
  (71, [(71, .iconst 0, 1, [], 0)]),
  (72, [(72, .istore_n 3, 1, [], 0), (73, .iinc 4 1, 3, [], 0), (76, .goto (-43), 3, [], 0)]),
  (79, [(79, .iload_n 3, 1, [], 0), (80, .ifCond .eq 5, 3, [], 0)]),
  (83, [(83, .iload_n 2, 1, [], 0), (84, .ireturn, 1, [], 0)]),
  (85, [(85, .iinc 2 1, 3, [], 0), (88, .goto (-81), 3, [], 0)]),
  (91, [(91, .iconst (-1), 1, [], 0), (92, .ireturn, 1, [], 0)])]
def JX12_wordHere_72 (n : Nat) (bk : Int → Int → Int → Int → Hp → Option (Int × Int × Int)) (x1 x2 x4 z0 : Int) (h : Hp) : Option (Int × Int × Int) :=
(ltt z0 fun y1 =>
(ltt (w32 (x4 + 1)) fun y2 =>
(bk x1 x2 y1 y2 h)))
def BX12_wordHere_33 (n : Nat) : Nat → Int → Int → Int → Int → Hp → Option (Int × Int × Int)
  | 0, _, _, _, _, _ => none
  | f + 1, x1, x2, x3, x4, h =>
    (if x1 ≤ x4 then
    (some (x1, x2, x3))
    else
    (if x3 = 0 then
    (some (x1, x2, x3))
    else
    (grd (0 ≤ (w32 ((h 113 21) + x4)) ∧ (w32 ((h 113 21) + x4)) < alen 3223)
    (bndp (MX12_wordOf x2) fun r1 =>
    (grd (0 ≤ x4 ∧ x4 < slen r1)
    (if (h 127 (w32 ((h 113 21) + x4))) ≠ (sch r1 x4) then
    (JX12_wordHere_72 n (BX12_wordHere_33 n f) x1 x2 x4 0 h)
    else
    (JX12_wordHere_72 n (BX12_wordHere_33 n f) x1 x2 x4 1 h)))))))
def JX12_wordHere_79 (n : Nat) (bk : Int → Int → Hp → Option (Int)) (x1 x2 x3 : Int) (h : Hp) : Option (Int) :=
(if x3 = 0 then
(ltt (w32 (x2 + 1)) fun y1 =>
(bk x1 y1 h))
else
(some x2))
def LX12_wordHere_33 (n : Nat) (bk : Int → Int → Hp → Option (Int)) (x1 x2 x3 x4 : Int) (h : Hp) : Option (Int) :=
(bndx (BX12_wordHere_33 n n x1 x2 x3 x4 h) fun (e1, e2, e3) =>
(JX12_wordHere_79 n bk e1 e2 e3 h))
def JX12_wordHere_29 (n : Nat) (bk : Int → Int → Hp → Option (Int)) (x1 x2 z0 : Int) (h : Hp) : Option (Int) :=
(ltt z0 fun y1 =>
(ltt 0 fun y2 =>
(LX12_wordHere_33 n bk x1 x2 y1 y2 h)))
def BX12_wordHere_7 (n : Nat) : Nat → Int → Int → Hp → Option (Int)
  | 0, _, _, _ => none
  | f + 1, x1, x2, h =>
    (if 8 ≤ x2 then
    (some (-1))
    else
    (bndp (MX12_wordOf x2) fun r1 =>
    (if (slen r1) ≠ x1 then
    (JX12_wordHere_29 n (BX12_wordHere_7 n f) x1 x2 0 h)
    else
    (JX12_wordHere_29 n (BX12_wordHere_7 n f) x1 x2 1 h))))
def LX12_wordHere_7 (n : Nat) (x1 x2 : Int) (h : Hp) : Option (Int) :=
(BX12_wordHere_7 n n x1 x2 h)
def MX12_wordHere (n : Nat) (h : Hp) : Option (Int) :=
(bndp (MX12_wordLength n h) fun r1 =>
(ltt r1 fun y1 =>
(ltt 0 fun y2 =>
(LX12_wordHere_7 n y1 y2 h))))
def wX12_wordHere {ρ : Type} (n : Nat) : FN ρ := fun a h k => match a with
  | [_] => bndp (MX12_wordHere n h) (fun r => k r h)
  | _ => none
def fsX12_wordHere (n : Nat) (ρ : Type) : List (FN ρ) := [wX12_wordLength n, wX12_wordOf, fslen, fsch]
def KJX12_wordHere_72 (_ : Nat) (bk : Int → Int → Int → Int → Hp → Option (Int × Int × Int)) : CT (Int × Int × Int) := [(33, [(0, 16, (some 113)), (1, 0, none), (2, 0, none), (3, 0, none), (4, 0, none)], [], fun a c h => match a, c with
    | [x1, x2, x3, x4], [] => bk x1 x2 x3 x4 h
    | _, _ => none),
  (79, [(0, 16, (some 113)), (1, 0, none), (2, 0, none), (3, 0, none)], [], fun a c _ => match a, c with
    | [x1, x2, x3], [] => some (x1, x2, x3)
    | _, _ => none)]
set_option maxRecDepth 100000 in
theorem eJX12_wordHere_72 (n : Nat) (bk : Int → Int → Int → Int → Hp → Option (Int × Int × Int)) (x1 : Int) (x2 : Int) (x4 : Int) (z0 : Int) (h : Hp) : JX12_wordHere_72 n bk x1 x2 x4 z0 h =
  goAt false (kct (KJX12_wordHere_72 n bk)) (fun _ _ => none) (fsX12_wordHere n _) sdX12_wordHere 1000 72 [(0, 16, 113), (1, 0, x1), (2, 0, x2), (4, 0, x4)] [(0, z0)] h := rfl
def KBX12_wordHere_33 (n : Nat) (bk : Int → Int → Int → Int → Hp → Option (Int × Int × Int)) : CT (Int × Int × Int) := [(33, [(0, 16, (some 113)), (1, 0, none), (2, 0, none), (3, 0, none), (4, 0, none)], [], fun a c h => match a, c with
    | [x1, x2, x3, x4], [] => bk x1 x2 x3 x4 h
    | _, _ => none),
  (79, [(0, 16, (some 113)), (1, 0, none), (2, 0, none), (3, 0, none)], [], fun a c _ => match a, c with
    | [x1, x2, x3], [] => some (x1, x2, x3)
    | _, _ => none),
  (72, [(0, 16, (some 113)), (1, 0, none), (2, 0, none), (4, 0, none)], [(0, none)], fun a c h => match a, c with
    | [x1, x2, x4], [z0] => JX12_wordHere_72 n bk x1 x2 x4 z0 h
    | _, _ => none)]
set_option maxRecDepth 100000 in
theorem eBX12_wordHere_33 (n f : Nat) (x1 : Int) (x2 : Int) (x3 : Int) (x4 : Int) (h : Hp) : BX12_wordHere_33 n (f + 1) x1 x2 x3 x4 h =
  goAt false (kct (KBX12_wordHere_33 n (BX12_wordHere_33 n f))) (fun _ _ => none) (fsX12_wordHere n _) sdX12_wordHere 1000 33 [(0, 16, 113), (1, 0, x1), (2, 0, x2), (3, 0, x3), (4, 0, x4)] [] h := rfl
def KJX12_wordHere_79 (_ : Nat) (bk : Int → Int → Hp → Option (Int)) : CT (Int) := [(7, [(0, 16, (some 113)), (1, 0, none), (2, 0, none)], [], fun a c h => match a, c with
    | [x1, x2], [] => bk x1 x2 h
    | _, _ => none)]
set_option maxRecDepth 100000 in
theorem eJX12_wordHere_79 (n : Nat) (bk : Int → Int → Hp → Option (Int)) (x1 : Int) (x2 : Int) (x3 : Int) (h : Hp) : JX12_wordHere_79 n bk x1 x2 x3 h =
  goAt false (kct (KJX12_wordHere_79 n bk)) (fun v _ => some (v)) (fsX12_wordHere n _) sdX12_wordHere 1000 79 [(0, 16, 113), (1, 0, x1), (2, 0, x2), (3, 0, x3)] [] h := rfl
def KJX12_wordHere_29 (n : Nat) (bk : Int → Int → Hp → Option (Int)) : CT (Int) := [(7, [(0, 16, (some 113)), (1, 0, none), (2, 0, none)], [], fun a c h => match a, c with
    | [x1, x2], [] => bk x1 x2 h
    | _, _ => none),
  (33, [(0, 16, (some 113)), (1, 0, none), (2, 0, none), (3, 0, none), (4, 0, none)], [], fun a c h => match a, c with
    | [x1, x2, x3, x4], [] => LX12_wordHere_33 n bk x1 x2 x3 x4 h
    | _, _ => none)]
set_option maxRecDepth 100000 in
theorem eJX12_wordHere_29 (n : Nat) (bk : Int → Int → Hp → Option (Int)) (x1 : Int) (x2 : Int) (z0 : Int) (h : Hp) : JX12_wordHere_29 n bk x1 x2 z0 h =
  goAt false (kct (KJX12_wordHere_29 n bk)) (fun v _ => some (v)) (fsX12_wordHere n _) sdX12_wordHere 1000 29 [(0, 16, 113), (1, 0, x1), (2, 0, x2)] [(0, z0)] h := rfl
def KBX12_wordHere_7 (n : Nat) (bk : Int → Int → Hp → Option (Int)) : CT (Int) := [(7, [(0, 16, (some 113)), (1, 0, none), (2, 0, none)], [], fun a c h => match a, c with
    | [x1, x2], [] => bk x1 x2 h
    | _, _ => none),
  (29, [(0, 16, (some 113)), (1, 0, none), (2, 0, none)], [(0, none)], fun a c h => match a, c with
    | [x1, x2], [z0] => JX12_wordHere_29 n bk x1 x2 z0 h
    | _, _ => none)]
set_option maxRecDepth 100000 in
theorem eBX12_wordHere_7 (n f : Nat) (x1 : Int) (x2 : Int) (h : Hp) : BX12_wordHere_7 n (f + 1) x1 x2 h =
  goAt false (kct (KBX12_wordHere_7 n (BX12_wordHere_7 n f))) (fun v _ => some (v)) (fsX12_wordHere n _) sdX12_wordHere 1000 7 [(0, 16, 113), (1, 0, x1), (2, 0, x2)] [] h := rfl
def KMX12_wordHere (n : Nat) : CT (Int) := [(7, [(0, 16, (some 113)), (1, 0, none), (2, 0, none)], [], fun a c h => match a, c with
    | [x1, x2], [] => LX12_wordHere_7 n x1 x2 h
    | _, _ => none)]
set_option maxRecDepth 100000 in
theorem eMX12_wordHere (n : Nat) (h : Hp) : MX12_wordHere n h =
  goAt false (kct (KMX12_wordHere n)) (fun v _ => some (v)) (fsX12_wordHere n _) sdX12_wordHere 1000 0 [(0, 16, 113)] [] h := rfl
theorem okX12_wordHere : mokb (mi 84) = true := by decide +kernel
theorem rkX12_wordHere : rkOK 1 (mi 84).1.2.2.2.2.2.2.1 (mi 84).1.2.2.2.1 := Or.inr (Or.inl ⟨rfl, rfl, rfl⟩)
def calX12_wordHere : List Nat := [82, 83, 267, 268]
theorem foX12_wordHere {l : Launch} {ρ : Type} (n : Nat) : fsOK l false mi calX12_wordHere (fsX12_wordHere n ρ) := ⟨(sndX12_wordLength n), ⟨sndX12_wordOf, ⟨snd_slen, ⟨snd_schar, trivial⟩⟩⟩⟩
theorem frX12_wordHere {ρ : Type} (n : Nat) : ∀ fn ∈ fsX12_wordHere n ρ, RoF fn := (List.forall_mem_cons.mpr ⟨(roX12_wordLength n), (List.forall_mem_cons.mpr ⟨roX12_wordOf, (List.forall_mem_cons.mpr ⟨ro_slen, (List.forall_mem_cons.mpr ⟨ro_schar, (fun q9 h9 => by cases h9)⟩)⟩)⟩)⟩)
theorem ok_sdX12_wordHere : sdb (mi 84).1.2.1 (insOK mi (mi 84).1.1.cls (mi 84).1.2.2.1 (mi 84).1.2.2.2.2.1 (mi 84).1.2.2.2.2.2.1 calX12_wordHere false 1) sdX12_wordHere = true := by decide +kernel
def GX12_wordHere_33 (l : Launch) (h0 : Hp) (_ : Hp) (v : Int) (h : Hp) : (Int × Int × Int) → Prop
  | (e1, e2, e3) => PAt l false (mi 84).1 h0 v h 79 [(0, 16, 113), (1, 0, e1), (2, 0, e2), (3, 0, e3)] [] h
theorem sJX12_wordHere_72 {l : Launch} {h0 : Hp} {v : Int} (h8 : nOf h0 = 148) (n : Nat) (bk : Int → Int → Int → Int → Hp → Option (Int × Int × Int)) {h : Hp} (hbk : ∀ (x1 : Int) (x2 : Int) (x3 : Int) (x4 : Int) (r : Int × Int × Int), bk x1 x2 x3 x4 h = some r → GX12_wordHere_33 l h0 h v h r → PAt l false (mi 84).1 h0 v h 33 [(0, 16, 113), (1, 0, x1), (2, 0, x2), (3, 0, x3), (4, 0, x4)] [] h) (x1 : Int) (x2 : Int) (x4 : Int) (z0 : Int) (_ : Hp) {r : Int × Int × Int} (H : JX12_wordHere_72 n bk x1 x2 x4 z0 h = some r) (hG : GX12_wordHere_33 l h0 h v h r) : PAt l false (mi 84).1 h0 v h 72 [(0, 16, 113), (1, 0, x1), (2, 0, x2), (4, 0, x4)] [(0, z0)] h :=
  pat_ro ok_sdX12_wordHere rfl rkX12_wordHere h8 (foX12_wordHere n) (frX12_wordHere n) (fun v1 q => by cases q) (List.forall_mem_cons.mpr ⟨(fun a c H => by
      dsimp only at H
      split at H
      · exact hbk _ _ _ _ _ H hG
      · cases H), (List.forall_mem_cons.mpr ⟨(fun a c H => by
      dsimp only at H
      split at H
      · cases H
        exact hG
      · cases H), (fun q9 h9 => by cases h9)⟩)⟩) ((eJX12_wordHere_72 n bk x1 x2 x4 z0 h).symm.trans H)
theorem sBX12_wordHere_33 {l : Launch} {h0 : Hp} {v : Int} (h8 : nOf h0 = 148) (n : Nat) (h : Hp) : ∀ (f : Nat) (x1 : Int) (x2 : Int) (x3 : Int) (x4 : Int) {r : Int × Int × Int}, BX12_wordHere_33 n f x1 x2 x3 x4 h = some r → GX12_wordHere_33 l h0 h v h r → PAt l false (mi 84).1 h0 v h 33 [(0, 16, 113), (1, 0, x1), (2, 0, x2), (3, 0, x3), (4, 0, x4)] [] h := by
  intro f
  induction f with
  | zero =>
    intro x1 x2 x3 x4 r H _
    have H2 : (none : Option (Int × Int × Int)) = some r := H
    cases H2
  | succ f ih =>
    intro x1 x2 x3 x4 r H hG
    have ihk : ∀ (x1 : Int) (x2 : Int) (x3 : Int) (x4 : Int) (r : Int × Int × Int), BX12_wordHere_33 n f x1 x2 x3 x4 h = some r → GX12_wordHere_33 l h0 h v h r → PAt l false (mi 84).1 h0 v h 33 [(0, 16, 113), (1, 0, x1), (2, 0, x2), (3, 0, x3), (4, 0, x4)] [] h := fun x1 x2 x3 x4 r9 a9 b9 => ih x1 x2 x3 x4 a9 b9
    exact pat_ro ok_sdX12_wordHere rfl rkX12_wordHere h8 (foX12_wordHere n) (frX12_wordHere n) (fun v1 q => by cases q) (List.forall_mem_cons.mpr ⟨(fun a c H => by
      dsimp only at H
      split at H
      · exact ih _ _ _ _ H hG
      · cases H), (List.forall_mem_cons.mpr ⟨(fun a c H => by
      dsimp only at H
      split at H
      · cases H
        exact hG
      · cases H), (List.forall_mem_cons.mpr ⟨(fun a c H => by
      dsimp only at H
      split at H
      · exact sJX12_wordHere_72 h8 n (BX12_wordHere_33 n f) ihk _ _ _ _ h H hG
      · cases H), (fun q9 h9 => by cases h9)⟩)⟩)⟩) ((eBX12_wordHere_33 n f x1 x2 x3 x4 h).symm.trans H)
theorem sJX12_wordHere_79 {l : Launch} {h0 : Hp} {v : Int} (h8 : nOf h0 = 148) (n : Nat) (bk : Int → Int → Hp → Option (Int)) {h : Hp} (hbk : ∀ (x1 : Int) (x2 : Int) (r : Int), bk x1 x2 h = some r → gV v r → PAt l false (mi 84).1 h0 v h 7 [(0, 16, 113), (1, 0, x1), (2, 0, x2)] [] h) (x1 : Int) (x2 : Int) (x3 : Int) (_ : Hp) {r : Int} (H : JX12_wordHere_79 n bk x1 x2 x3 h = some r) (hG : gV v r) : PAt l false (mi 84).1 h0 v h 79 [(0, 16, 113), (1, 0, x1), (2, 0, x2), (3, 0, x3)] [] h :=
  pat_ro ok_sdX12_wordHere rfl rkX12_wordHere h8 (foX12_wordHere n) (frX12_wordHere n) (fun v1 q => by
    cases q
    exact ⟨rfl, fun _ => hG⟩) (List.forall_mem_cons.mpr ⟨(fun a c H => by
      dsimp only at H
      split at H
      · exact hbk _ _ _ H hG
      · cases H), (fun q9 h9 => by cases h9)⟩) ((eJX12_wordHere_79 n bk x1 x2 x3 h).symm.trans H)
theorem sLX12_wordHere_33 {l : Launch} {h0 : Hp} {v : Int} (h8 : nOf h0 = 148) (n : Nat) (bk : Int → Int → Hp → Option (Int)) {h : Hp} (hbk : ∀ (x1 : Int) (x2 : Int) (r : Int), bk x1 x2 h = some r → gV v r → PAt l false (mi 84).1 h0 v h 7 [(0, 16, 113), (1, 0, x1), (2, 0, x2)] [] h) (x1 : Int) (x2 : Int) (x3 : Int) (x4 : Int) (_ : Hp) {r : Int} (H : LX12_wordHere_33 n bk x1 x2 x3 x4 h = some r) (hG : gV v r) : PAt l false (mi 84).1 h0 v h 33 [(0, 16, 113), (1, 0, x1), (2, 0, x2), (3, 0, x3), (4, 0, x4)] [] h := by
  obtain ⟨e9, h2, h3⟩ := bndx_some H
  obtain ⟨e1, e2, e3⟩ := e9
  exact sBX12_wordHere_33 h8 n h n x1 x2 x3 x4 h2 (sJX12_wordHere_79 h8 n bk hbk e1 e2 e3 h h3 hG)
theorem sJX12_wordHere_29 {l : Launch} {h0 : Hp} {v : Int} (h8 : nOf h0 = 148) (n : Nat) (bk : Int → Int → Hp → Option (Int)) {h : Hp} (hbk : ∀ (x1 : Int) (x2 : Int) (r : Int), bk x1 x2 h = some r → gV v r → PAt l false (mi 84).1 h0 v h 7 [(0, 16, 113), (1, 0, x1), (2, 0, x2)] [] h) (x1 : Int) (x2 : Int) (z0 : Int) (_ : Hp) {r : Int} (H : JX12_wordHere_29 n bk x1 x2 z0 h = some r) (hG : gV v r) : PAt l false (mi 84).1 h0 v h 29 [(0, 16, 113), (1, 0, x1), (2, 0, x2)] [(0, z0)] h :=
  pat_ro ok_sdX12_wordHere rfl rkX12_wordHere h8 (foX12_wordHere n) (frX12_wordHere n) (fun v1 q => by
    cases q
    exact ⟨rfl, fun _ => hG⟩) (List.forall_mem_cons.mpr ⟨(fun a c H => by
      dsimp only at H
      split at H
      · exact hbk _ _ _ H hG
      · cases H), (List.forall_mem_cons.mpr ⟨(fun a c H => by
      dsimp only at H
      split at H
      · exact sLX12_wordHere_33 h8 n bk hbk _ _ _ _ h H hG
      · cases H), (fun q9 h9 => by cases h9)⟩)⟩) ((eJX12_wordHere_29 n bk x1 x2 z0 h).symm.trans H)
theorem sBX12_wordHere_7 {l : Launch} {h0 : Hp} {v : Int} (h8 : nOf h0 = 148) (n : Nat) (h : Hp) : ∀ (f : Nat) (x1 : Int) (x2 : Int) {r : Int}, BX12_wordHere_7 n f x1 x2 h = some r → gV v r → PAt l false (mi 84).1 h0 v h 7 [(0, 16, 113), (1, 0, x1), (2, 0, x2)] [] h := by
  intro f
  induction f with
  | zero =>
    intro x1 x2 r H _
    have H2 : (none : Option (Int)) = some r := H
    cases H2
  | succ f ih =>
    intro x1 x2 r H hG
    have ihk : ∀ (x1 : Int) (x2 : Int) (r : Int), BX12_wordHere_7 n f x1 x2 h = some r → gV v r → PAt l false (mi 84).1 h0 v h 7 [(0, 16, 113), (1, 0, x1), (2, 0, x2)] [] h := fun x1 x2 r9 a9 b9 => ih x1 x2 a9 b9
    exact pat_ro ok_sdX12_wordHere rfl rkX12_wordHere h8 (foX12_wordHere n) (frX12_wordHere n) (fun v1 q => by
    cases q
    exact ⟨rfl, fun _ => hG⟩) (List.forall_mem_cons.mpr ⟨(fun a c H => by
      dsimp only at H
      split at H
      · exact ih _ _ H hG
      · cases H), (List.forall_mem_cons.mpr ⟨(fun a c H => by
      dsimp only at H
      split at H
      · exact sJX12_wordHere_29 h8 n (BX12_wordHere_7 n f) ihk _ _ _ h H hG
      · cases H), (fun q9 h9 => by cases h9)⟩)⟩) ((eBX12_wordHere_7 n f x1 x2 h).symm.trans H)
theorem sLX12_wordHere_7 {l : Launch} {h0 : Hp} {v : Int} (h8 : nOf h0 = 148) (n : Nat) (x1 : Int) (x2 : Int) (h : Hp) {r : Int} (H : LX12_wordHere_7 n x1 x2 h = some r) (hG : gV v r) : PAt l false (mi 84).1 h0 v h 7 [(0, 16, 113), (1, 0, x1), (2, 0, x2)] [] h :=
  sBX12_wordHere_7 h8 n h n x1 x2 H hG
theorem sMX12_wordHere {l : Launch} {h0 : Hp} {v : Int} (h8 : nOf h0 = 148) (n : Nat)  (h : Hp) {r : Int} (H : MX12_wordHere n h = some r) (hG : gV v r) : PAt l false (mi 84).1 h0 v h 0 [(0, 16, 113)] [] h :=
  pat_ro ok_sdX12_wordHere rfl rkX12_wordHere h8 (foX12_wordHere n) (frX12_wordHere n) (fun v1 q => by
    cases q
    exact ⟨rfl, fun _ => hG⟩) (List.forall_mem_cons.mpr ⟨(fun a c H => by
      dsimp only at H
      split at H
      · exact sLX12_wordHere_7 h8 n _ _ _ H hG
      · cases H), (fun q9 h9 => by cases h9)⟩) ((eMX12_wordHere n h).symm.trans H)
theorem sndX12_wordHere {ρ : Type} {l : Launch} (n : Nat) : SndF (ρ := ρ) l false (mi 84).1 (wX12_wordHere n) := by
    intro a h k r H ha ho hn hf
    have h8 := hf rfl
    obtain ⟨x0, rfl⟩ := len1 (show a.length = 1 from ha)
    have u0 := uq16 hn (ho (16, x0) (List.mem_cons_self))
    subst u0
    replace H : bndp (MX12_wordHere n h) (fun r => k r h) = some r := H
    obtain ⟨v2, H1, H2⟩ := bndp_some H
    exact ⟨v2, h, H2, met_mk (mok_base okX12_wordHere).1 (by decide +kernel) (Nat.le_of_ble_eq_true rfl) ho (sMX12_wordHere h8 n  h H1 rfl), fun q => by cases q⟩
theorem roX12_wordHere {ρ : Type} (n : Nat) : RoF (wX12_wordHere n : FN ρ) := fun a h k k2 hk => by
  unfold wX12_wordHere
  split
  · exact bndp_ro hk
  · rfl
/-! X12_fails -/
def sdX12_fails : SD := [(0, [(0, .aload_n 0, 1, [], 0), (1, .getfield 187, 3, [12, 22, 0, 0, 1344, 0], 0), (4, .iconst (-1), 1, [], 0), (5, .if_icmp .ne 13, 3, [], 0)]),
  (8, [(8, .aload_n 0, 1, [], 0), (9, .bipush 8, 2, [], 0), (11, .iload_n 2, 1, [], 0), (12, .imul, 1, [], 0), (13, .iload_n 1, 1, [], 0), (14, .iadd, 1, [], 0), (15, .putfield 187, 3, [12, 22, 0, 0, 0, 1344], 0)]),
  (18, [(18, .return_, 1, [], 0)])]
def MX12_fails (x1 x2 : Int) (h : Hp) : Option (Hp) :=
(if (h 113 22) ≠ (-1) then
(some h)
else
(ltt (up h 113 22 (w32 ((w32 (8 * x2)) + x1))) fun h1 =>
(some h1)))
def wX12_fails {ρ : Type} : FN ρ := fun a h k => match a with
  | [_, x1, x2] => bndh (MX12_fails x1 x2 h) (fun h2 => k 0 h2)
  | _ => none
def fsX12_fails (ρ : Type) : List (FN ρ) := []
def KMX12_fails  : CT (Hp) := []
set_option maxRecDepth 100000 in
theorem eMX12_fails (x1 : Int) (x2 : Int) (h : Hp) : MX12_fails x1 x2 h =
  goAt false (kct (KMX12_fails)) (fun _ h => some (h)) (fsX12_fails _) sdX12_fails 1000 0 [(0, 16, 113), (1, 0, x1), (2, 0, x2)] [] h := rfl
theorem okX12_fails : mokb (mi 85) = true := by decide +kernel
theorem rkX12_fails : rkOK 0 (mi 85).1.2.2.2.2.2.2.1 (mi 85).1.2.2.2.1 := Or.inl ⟨rfl, rfl, rfl⟩
def calX12_fails : List Nat := []
theorem foX12_fails {l : Launch} {ρ : Type} : fsOK l false mi calX12_fails (fsX12_fails ρ) := trivial
theorem ok_sdX12_fails : sdb (mi 85).1.2.1 (insOK mi (mi 85).1.1.cls (mi 85).1.2.2.1 (mi 85).1.2.2.2.2.1 (mi 85).1.2.2.2.2.2.1 calX12_fails false 0) sdX12_fails = true := by decide +kernel
theorem sMX12_fails {l : Launch} {h0 h' : Hp} {v : Int} (h8 : nOf h0 = 148)  (x1 : Int) (x2 : Int) (h : Hp) {r : Hp} (H : MX12_fails x1 x2 h = some r) (hG : gW h' r) : PAt l false (mi 85).1 h0 v h' 0 [(0, 16, 113), (1, 0, x1), (2, 0, x2)] [] h :=
  pat_w ok_sdX12_fails rkX12_fails h8 (foX12_fails) (fun v1 h1 q => by
    cases q
    exact ⟨hG, fun q9 => absurd rfl q9⟩) (fun q9 h9 => by cases h9) ((eMX12_fails x1 x2 h).symm.trans H)
theorem sndX12_fails {ρ : Type} {l : Launch} : SndF (ρ := ρ) l false (mi 85).1 (wX12_fails) := by
    intro a h k r H ha ho hn hf
    have h8 := hf rfl
    obtain ⟨x0, x1, x2, rfl⟩ := len3 (show a.length = 3 from ha)
    have u0 := uq16 hn (ho (16, x0) (List.mem_cons_self))
    subst u0
    replace H : bndh (MX12_fails x1 x2 h) (fun h2 => k 0 h2) = some r := H
    obtain ⟨h2, H1, H2⟩ := bndh_some H
    exact ⟨0, h2, H2, met_mk (mok_base okX12_fails).1 (by decide +kernel) (Nat.le_of_ble_eq_true rfl) ho (sMX12_fails h8 x1 x2 h H1 rfl), fun q => by cases q⟩
/-! X12_isDigit -/
def sdX12_isDigit : SD := [(0, [(0, .aload_n 0, 1, [], 0), (1, .invokevirtual 193, 3, [1, 0, 1, 79, 1543, 16], 0), (4, .i2l, 1, [], 0), (5, .ldc2_w 236, 3, [1, 1593], 48), (8, .ldc2_w 238, 3, [1, 1594], 57), (11, .invokestatic 217, 3, [1, 1, 3, 81, 1561, 1, 1, 1], 0), (14, .ireturn, 1, [1], 0)])]
def MX12_isDigit (h : Hp) : Option (Int) :=
(bndp (MX12_sign h) fun r1 =>
(bndp (MX12_in r1 48 57) fun r2 =>
(grd (r2 = 0 ∨ r2 = 1)
(some r2))))
def wX12_isDigit {ρ : Type} : FN ρ := fun a h k => match a with
  | [_] => bndp (MX12_isDigit h) (fun r => k r h)
  | _ => none
def fsX12_isDigit (ρ : Type) : List (FN ρ) := [wX12_sign, wX12_in]
def KMX12_isDigit  : CT (Int) := []
set_option maxRecDepth 100000 in
theorem eMX12_isDigit (h : Hp) : MX12_isDigit h =
  goAt false (kct (KMX12_isDigit)) (fun v _ => some (v)) (fsX12_isDigit _) sdX12_isDigit 1000 0 [(0, 16, 113)] [] h := rfl
theorem okX12_isDigit : mokb (mi 86) = true := by decide +kernel
theorem rkX12_isDigit : rkOK 4 (mi 86).1.2.2.2.2.2.2.1 (mi 86).1.2.2.2.1 := Or.inr (Or.inr (Or.inl ⟨rfl, rfl, rfl⟩))
def calX12_isDigit : List Nat := [79, 81]
theorem foX12_isDigit {l : Launch} {ρ : Type} : fsOK l false mi calX12_isDigit (fsX12_isDigit ρ) := ⟨sndX12_sign, ⟨sndX12_in, trivial⟩⟩
theorem frX12_isDigit {ρ : Type} : ∀ fn ∈ fsX12_isDigit ρ, RoF fn := (List.forall_mem_cons.mpr ⟨roX12_sign, (List.forall_mem_cons.mpr ⟨roX12_in, (fun q9 h9 => by cases h9)⟩)⟩)
theorem ok_sdX12_isDigit : sdb (mi 86).1.2.1 (insOK mi (mi 86).1.1.cls (mi 86).1.2.2.1 (mi 86).1.2.2.2.2.1 (mi 86).1.2.2.2.2.2.1 calX12_isDigit false 4) sdX12_isDigit = true := by decide +kernel
theorem sMX12_isDigit {l : Launch} {h0 : Hp} {v : Int} (h8 : nOf h0 = 148)   (h : Hp) {r : Int} (H : MX12_isDigit h = some r) (hG : gV v r) : PAt l false (mi 86).1 h0 v h 0 [(0, 16, 113)] [] h :=
  pat_ro ok_sdX12_isDigit rfl rkX12_isDigit h8 (foX12_isDigit) (frX12_isDigit) (fun v1 q => by
    cases q
    exact ⟨rfl, fun _ => hG⟩) (fun q9 h9 => by cases h9) ((eMX12_isDigit h).symm.trans H)
theorem sndX12_isDigit {ρ : Type} {l : Launch} : SndF (ρ := ρ) l false (mi 86).1 (wX12_isDigit) := by
    intro a h k r H ha ho hn hf
    have h8 := hf rfl
    obtain ⟨x0, rfl⟩ := len1 (show a.length = 1 from ha)
    have u0 := uq16 hn (ho (16, x0) (List.mem_cons_self))
    subst u0
    replace H : bndp (MX12_isDigit h) (fun r => k r h) = some r := H
    obtain ⟨v2, H1, H2⟩ := bndp_some H
    exact ⟨v2, h, H2, met_mk (mok_base okX12_isDigit).1 (by decide +kernel) (Nat.le_of_ble_eq_true rfl) ho (sMX12_isDigit h8  h H1 rfl), fun q => by cases q⟩
theorem roX12_isDigit {ρ : Type} : RoF (wX12_isDigit : FN ρ) := fun a h k k2 hk => by
  unfold wX12_isDigit
  split
  · exact bndp_ro hk
  · rfl
/-! X12_number -/
def sdX12_number : SD := [(0, [(0, .aload_n 0, 1, [], 0), (1, .invokevirtual 240, 3, [1, 0, 1, 78, 1535, 16], 0), (4, .ifCond .ne 5, 3, [], 0)]),
  (7, [(7, .iconst 0, 1, [], 0), (8, .ireturn, 1, [], 0)]),
  (9, [(9, .aload_n 0, 1, [], 0), (10, .invokevirtual 244, 3, [1, 1, 1, 80, 1539, 16], 0), (13, .istore_n 3, 1, [], 0), (14, .iload_n 3, 1, [], 0), (15, .bipush 45, 2, [], 0), (17, .if_icmp .ne 22, 3, [], 0)]),
  (20, [(20, .iload_n 1, 1, [], 0), (21, .ifCond .ge 18, 3, [], 0)]),
  (24, [(24, .aload_n 0, 1, [], 0), (25, .dup, 1, [], 0), (26, .getfield 190, 3, [12, 21, 0, 0, 1343, 0], 0), (29, .iconst 1, 1, [], 0), (30, .iadd, 1, [], 0), (31, .putfield 190, 3, [12, 21, 0, 0, 0, 1343], 0), (34, .aload_n 0, 1, [], 0), (35, .invokevirtual 244, 3, [1, 1, 1, 80, 1539, 16], 0), (38, .pop, 1, [], 0)]),
  (39, [(39, .aload_n 0, 1, [], 0), (40, .aload_n 0, 1, [], 0), (41, .getfield 190, 3, [12, 21, 0, 0, 1343, 0], 0), (44, .putfield 247, 3, [12, 23, 0, 0, 0, 1345], 0), (47, .aload_n 0, 1, [], 0), (48, .invokevirtual 250, 3, [1, 2, 1, 86, 1589, 16], 0), (51, .ifCond .ne 14, 3, [], 0)]),
  (54, [(54, .aload_n 0, 1, [], 0), (55, .iconst 1, 1, [], 0), (56, .aload_n 0, 1, [], 0), (57, .getfield 190, 3, [12, 21, 0, 0, 1343, 0], 0), (60, .invokevirtual 253, 3, [0, 3, 1, 85, 1577, 0, 0, 16], 0), (63, .iconst 0, 1, [], 0), (64, .ireturn, 1, [], 0)]),
  (65, [(65, .iconst 0, 1, [], 0), (66, .istore 4, 2, [], 0)]),
  (68, [(68, .aload_n 0, 1, [], 0), (69, .invokevirtual 250, 3, [1, 2, 1, 86, 1589, 16], 0), (72, .ifCond .eq 37, 3, [], 0)]),
  (75, [(75, .ldc_w 257, 3, [0, 1595], 10000000), (78, .bipush 10, 2, [], 0), (80, .iload 4, 2, [], 0), (82, .imul, 1, [], 0), (83, .aload_n 0, 1, [], 0), (84, .invokevirtual 193, 3, [1, 4, 1, 79, 1543, 16], 0), (87, .iadd, 1, [], 0), (88, .bipush 48, 2, [], 0), (90, .isub, 1, [], 0), (91, .invokestatic 258, 3, [1, 5, 3, 261, 1596, 0, 0], 0), (94, .istore 4, 2, [], 0), (96, .aload_n 0, 1, [], 0), (97, .dup, 1, [], 0), (98, .getfield 190, 3, [12, 21, 0, 0, 1343, 0], 0), (101, .iconst 1, 1, [], 0), (102, .iadd, 1, [], 0), (103, .putfield 190, 3, [12, 21, 0, 0, 0, 1343], 0), (106, .goto (-38), 3, [], 0)]),
  (109, [(109, .iload_n 3, 1, [], 0), (110, .bipush 45, 2, [], 0), (112, .if_icmp .ne 9, 3, [], 0)]),
  (115, [(115, .iload 4, 2, [], 0), (117, .ineg, 1, [], 0), (118, .goto 5, 3, [], 0)]),
  (121, [(121, .iload 4, 2, [], 0)]),
  (123, [(123, .istore 4, 2, [], 0), (125, .iload 4, 2, [], 0), (127, .i2l, 1, [], 0), (128, .iload_n 1, 1, [], 0), (129, .i2l, 1, [], 0), (130, .iload_n 2, 1, [], 0), (131, .i2l, 1, [], 0), (132, .invokestatic 217, 3, [1, 6, 3, 81, 1561, 1, 1, 1], 0), (135, .ifCond .ne 12, 3, [], 0)]),
  (138, [(138, .aload_n 0, 1, [], 0), (139, .iconst 2, 1, [], 0), (140, .aload_n 0, 1, [], 0), (141, .getfield 247, 3, [12, 23, 0, 0, 1345, 0], 0), (144, .invokevirtual 253, 3, [0, 3, 1, 85, 1577, 0, 0, 16], 0)]),
  (147, [(147, .iload 4, 2, [], 0), (149, .ireturn, 1, [], 0)])]
def BX12_number_68 (n : Nat) : Nat → Int → Int → Int → Int → Hp → Option (Int × Int × Int × Int × Hp)
  | 0, _, _, _, _, _ => none
  | f + 1, x1, x2, x3, x4, h =>
    (bndp (MX12_isDigit h) fun r1 =>
    (if r1 = 0 then
    (some (x1, x2, x3, x4, h))
    else
    (bndp (MX12_sign h) fun r2 =>
    (ltt (min 10000000 (w32 ((w32 ((w32 (10 * x4)) + r2)) - 48))) fun y1 =>
    (ltt (up h 113 21 (w32 ((h 113 21) + 1))) fun h1 =>
    (BX12_number_68 n f x1 x2 x3 y1 h1))))))
def JX12_number_123 (n : Nat) (x1 x2 z0 : Int) (h : Hp) : Option (Int × Hp) :=
(ltt z0 fun y1 =>
(bndp (MX12_in y1 x1 x2) fun r1 =>
(if r1 ≠ 0 then
(some (y1, h))
else
(bndh (MX12_fails 2 (h 113 23) h) fun h1 =>
(some (y1, h1))))))
def JX12_number_109 (n : Nat) (x1 x2 x3 x4 : Int) (h : Hp) : Option (Int × Hp) :=
(if x3 ≠ 45 then
(JX12_number_123 n x1 x2 x4 h)
else
(JX12_number_123 n x1 x2 (w32 (-x4)) h))
def LX12_number_68 (n : Nat) (x1 x2 x3 x4 : Int) (h : Hp) : Option (Int × Hp) :=
(bndx (BX12_number_68 n n x1 x2 x3 x4 h) fun (e1, e2, e3, e4, h1) =>
(JX12_number_109 n e1 e2 e3 e4 h1))
def JX12_number_39 (n : Nat) (x1 x2 x3 : Int) (h : Hp) : Option (Int × Hp) :=
(ltt (up h 113 23 (h 113 21)) fun h1 =>
(bndp (MX12_isDigit h1) fun r1 =>
(if r1 ≠ 0 then
(ltt 0 fun y1 =>
(LX12_number_68 n x1 x2 x3 y1 h1))
else
(bndh (MX12_fails 1 (h1 113 21) h1) fun h2 =>
(some (0, h2))))))
def MX12_number (n : Nat) (x1 x2 : Int) (h : Hp) : Option (Int × Hp) :=
(bndp (MX12_isRight h) fun r1 =>
(if r1 ≠ 0 then
(bnd (MX12_next n h) fun r2 h1 =>
(ltt r2 fun y1 =>
(if y1 ≠ 45 then
(JX12_number_39 n x1 x2 y1 h1)
else
(if 0 ≤ x1 then
(JX12_number_39 n x1 x2 y1 h1)
else
(ltt (up h1 113 21 (w32 ((h1 113 21) + 1))) fun h2 =>
(bnd (MX12_next n h2) fun r3 h3 =>
(JX12_number_39 n x1 x2 y1 h3)))))))
else
(some (0, h))))
def wX12_number {ρ : Type} (n : Nat) : FN ρ := fun a h k => match a with
  | [_, x1, x2] => bnd (MX12_number n x1 x2 h) (fun r h2 => k r h2)
  | _ => none
def fsX12_number (n : Nat) (ρ : Type) : List (FN ρ) := [wX12_isRight, wX12_next n, wX12_isDigit, wX12_fails, wX12_sign, fmin, wX12_in]
def KBX12_number_68 (_ : Nat) (bk : Int → Int → Int → Int → Hp → Option (Int × Int × Int × Int × Hp)) : CT (Int × Int × Int × Int × Hp) := [(68, [(0, 16, (some 113)), (1, 0, none), (2, 0, none), (3, 0, none), (4, 0, none)], [], fun a c h => match a, c with
    | [x1, x2, x3, x4], [] => bk x1 x2 x3 x4 h
    | _, _ => none),
  (109, [(0, 16, (some 113)), (1, 0, none), (2, 0, none), (3, 0, none), (4, 0, none)], [], fun a c h => match a, c with
    | [x1, x2, x3, x4], [] => some (x1, x2, x3, x4, h)
    | _, _ => none)]
set_option maxRecDepth 100000 in
theorem eBX12_number_68 (n f : Nat) (x1 : Int) (x2 : Int) (x3 : Int) (x4 : Int) (h : Hp) : BX12_number_68 n (f + 1) x1 x2 x3 x4 h =
  goAt false (kct (KBX12_number_68 n (BX12_number_68 n f))) (fun _ _ => none) (fsX12_number n _) sdX12_number 1000 68 [(0, 16, 113), (1, 0, x1), (2, 0, x2), (3, 0, x3), (4, 0, x4)] [] h := rfl
def KJX12_number_123 (_ : Nat) : CT (Int × Hp) := []
set_option maxRecDepth 100000 in
theorem eJX12_number_123 (n : Nat) (x1 : Int) (x2 : Int) (z0 : Int) (h : Hp) : JX12_number_123 n x1 x2 z0 h =
  goAt false (kct (KJX12_number_123 n)) (fun v h => some ((v, h))) (fsX12_number n _) sdX12_number 1000 123 [(0, 16, 113), (1, 0, x1), (2, 0, x2)] [(0, z0)] h := rfl
def KJX12_number_109 (n : Nat) : CT (Int × Hp) := [(123, [(0, 16, (some 113)), (1, 0, none), (2, 0, none)], [(0, none)], fun a c h => match a, c with
    | [x1, x2], [z0] => JX12_number_123 n x1 x2 z0 h
    | _, _ => none)]
set_option maxRecDepth 100000 in
theorem eJX12_number_109 (n : Nat) (x1 : Int) (x2 : Int) (x3 : Int) (x4 : Int) (h : Hp) : JX12_number_109 n x1 x2 x3 x4 h =
  goAt false (kct (KJX12_number_109 n)) (fun v h => some ((v, h))) (fsX12_number n _) sdX12_number 1000 109 [(0, 16, 113), (1, 0, x1), (2, 0, x2), (3, 0, x3), (4, 0, x4)] [] h := rfl
def KJX12_number_39 (n : Nat) : CT (Int × Hp) := [(68, [(0, 16, (some 113)), (1, 0, none), (2, 0, none), (3, 0, none), (4, 0, none)], [], fun a c h => match a, c with
    | [x1, x2, x3, x4], [] => LX12_number_68 n x1 x2 x3 x4 h
    | _, _ => none)]
set_option maxRecDepth 100000 in
theorem eJX12_number_39 (n : Nat) (x1 : Int) (x2 : Int) (x3 : Int) (h : Hp) : JX12_number_39 n x1 x2 x3 h =
  goAt false (kct (KJX12_number_39 n)) (fun v h => some ((v, h))) (fsX12_number n _) sdX12_number 1000 39 [(0, 16, 113), (1, 0, x1), (2, 0, x2), (3, 0, x3)] [] h := rfl
def KMX12_number (n : Nat) : CT (Int × Hp) := [(39, [(0, 16, (some 113)), (1, 0, none), (2, 0, none), (3, 0, none)], [], fun a c h => match a, c with
    | [x1, x2, x3], [] => JX12_number_39 n x1 x2 x3 h
    | _, _ => none)]
set_option maxRecDepth 100000 in
theorem eMX12_number (n : Nat) (x1 : Int) (x2 : Int) (h : Hp) : MX12_number n x1 x2 h =
  goAt false (kct (KMX12_number n)) (fun v h => some ((v, h))) (fsX12_number n _) sdX12_number 1000 0 [(0, 16, 113), (1, 0, x1), (2, 0, x2)] [] h := rfl
theorem okX12_number : mokb (mi 87) = true := by decide +kernel
theorem rkX12_number : rkOK 1 (mi 87).1.2.2.2.2.2.2.1 (mi 87).1.2.2.2.1 := Or.inr (Or.inl ⟨rfl, rfl, rfl⟩)
def calX12_number : List Nat := [78, 80, 86, 85, 79, 261, 81]
theorem foX12_number {l : Launch} {ρ : Type} (n : Nat) : fsOK l false mi calX12_number (fsX12_number n ρ) := ⟨sndX12_isRight, ⟨(sndX12_next n), ⟨sndX12_isDigit, ⟨sndX12_fails, ⟨sndX12_sign, ⟨snd_mmin, ⟨sndX12_in, trivial⟩⟩⟩⟩⟩⟩⟩
theorem ok_sdX12_number : sdb (mi 87).1.2.1 (insOK mi (mi 87).1.1.cls (mi 87).1.2.2.1 (mi 87).1.2.2.2.2.1 (mi 87).1.2.2.2.2.2.1 calX12_number false 1) sdX12_number = true := by decide +kernel
def GX12_number_68 (l : Launch) (h0 : Hp) (h' : Hp) (v : Int) (_ : Hp) : (Int × Int × Int × Int × Hp) → Prop
  | (e1, e2, e3, e4, h1) => PAt l false (mi 87).1 h0 v h' 109 [(0, 16, 113), (1, 0, e1), (2, 0, e2), (3, 0, e3), (4, 0, e4)] [] h1
theorem sBX12_number_68 {l : Launch} {h0 h' : Hp} {v : Int} (h8 : nOf h0 = 148) (n : Nat) : ∀ (f : Nat) (x1 : Int) (x2 : Int) (x3 : Int) (x4 : Int) (h : Hp) {r : Int × Int × Int × Int × Hp}, BX12_number_68 n f x1 x2 x3 x4 h = some r → GX12_number_68 l h0 h' v h r → PAt l false (mi 87).1 h0 v h' 68 [(0, 16, 113), (1, 0, x1), (2, 0, x2), (3, 0, x3), (4, 0, x4)] [] h := by
  intro f
  induction f with
  | zero =>
    intro x1 x2 x3 x4 h r H _
    have H2 : (none : Option (Int × Int × Int × Int × Hp)) = some r := H
    cases H2
  | succ f ih =>
    intro x1 x2 x3 x4 h r H hG
    exact pat_w ok_sdX12_number rkX12_number h8 (foX12_number n) (fun v1 h1 q => by cases q) (List.forall_mem_cons.mpr ⟨(fun a c h H => by
      dsimp only at H
      split at H
      · exact ih _ _ _ _ _ H hG
      · cases H), (List.forall_mem_cons.mpr ⟨(fun a c h H => by
      dsimp only at H
      split at H
      · cases H
        exact hG
      · cases H), (fun q9 h9 => by cases h9)⟩)⟩) ((eBX12_number_68 n f x1 x2 x3 x4 h).symm.trans H)
theorem sJX12_number_123 {l : Launch} {h0 h' : Hp} {v : Int} (h8 : nOf h0 = 148) (n : Nat) (x1 : Int) (x2 : Int) (z0 : Int) (h : Hp) {r : Int × Hp} (H : JX12_number_123 n x1 x2 z0 h = some r) (hG : gWV v h' r) : PAt l false (mi 87).1 h0 v h' 123 [(0, 16, 113), (1, 0, x1), (2, 0, x2)] [(0, z0)] h :=
  pat_w ok_sdX12_number rkX12_number h8 (foX12_number n) (fun v1 h1 q => by
    cases q
    exact ⟨hG.1, fun _ => hG.2⟩) (fun q9 h9 => by cases h9) ((eJX12_number_123 n x1 x2 z0 h).symm.trans H)
theorem sJX12_number_109 {l : Launch} {h0 h' : Hp} {v : Int} (h8 : nOf h0 = 148) (n : Nat) (x1 : Int) (x2 : Int) (x3 : Int) (x4 : Int) (h : Hp) {r : Int × Hp} (H : JX12_number_109 n x1 x2 x3 x4 h = some r) (hG : gWV v h' r) : PAt l false (mi 87).1 h0 v h' 109 [(0, 16, 113), (1, 0, x1), (2, 0, x2), (3, 0, x3), (4, 0, x4)] [] h :=
  pat_w ok_sdX12_number rkX12_number h8 (foX12_number n) (fun v1 h1 q => by
    cases q
    exact ⟨hG.1, fun _ => hG.2⟩) (List.forall_mem_cons.mpr ⟨(fun a c h H => by
      dsimp only at H
      split at H
      · exact sJX12_number_123 h8 n _ _ _ _ H hG
      · cases H), (fun q9 h9 => by cases h9)⟩) ((eJX12_number_109 n x1 x2 x3 x4 h).symm.trans H)
theorem sLX12_number_68 {l : Launch} {h0 h' : Hp} {v : Int} (h8 : nOf h0 = 148) (n : Nat) (x1 : Int) (x2 : Int) (x3 : Int) (x4 : Int) (h : Hp) {r : Int × Hp} (H : LX12_number_68 n x1 x2 x3 x4 h = some r) (hG : gWV v h' r) : PAt l false (mi 87).1 h0 v h' 68 [(0, 16, 113), (1, 0, x1), (2, 0, x2), (3, 0, x3), (4, 0, x4)] [] h := by
  obtain ⟨e9, h2, h3⟩ := bndx_some H
  obtain ⟨e1, e2, e3, e4, h1⟩ := e9
  exact sBX12_number_68 h8 n n x1 x2 x3 x4 h h2 (sJX12_number_109 h8 n e1 e2 e3 e4 h1 h3 hG)
theorem sJX12_number_39 {l : Launch} {h0 h' : Hp} {v : Int} (h8 : nOf h0 = 148) (n : Nat) (x1 : Int) (x2 : Int) (x3 : Int) (h : Hp) {r : Int × Hp} (H : JX12_number_39 n x1 x2 x3 h = some r) (hG : gWV v h' r) : PAt l false (mi 87).1 h0 v h' 39 [(0, 16, 113), (1, 0, x1), (2, 0, x2), (3, 0, x3)] [] h :=
  pat_w ok_sdX12_number rkX12_number h8 (foX12_number n) (fun v1 h1 q => by
    cases q
    exact ⟨hG.1, fun _ => hG.2⟩) (List.forall_mem_cons.mpr ⟨(fun a c h H => by
      dsimp only at H
      split at H
      · exact sLX12_number_68 h8 n _ _ _ _ _ H hG
      · cases H), (fun q9 h9 => by cases h9)⟩) ((eJX12_number_39 n x1 x2 x3 h).symm.trans H)
theorem sMX12_number {l : Launch} {h0 h' : Hp} {v : Int} (h8 : nOf h0 = 148) (n : Nat) (x1 : Int) (x2 : Int) (h : Hp) {r : Int × Hp} (H : MX12_number n x1 x2 h = some r) (hG : gWV v h' r) : PAt l false (mi 87).1 h0 v h' 0 [(0, 16, 113), (1, 0, x1), (2, 0, x2)] [] h :=
  pat_w ok_sdX12_number rkX12_number h8 (foX12_number n) (fun v1 h1 q => by
    cases q
    exact ⟨hG.1, fun _ => hG.2⟩) (List.forall_mem_cons.mpr ⟨(fun a c h H => by
      dsimp only at H
      split at H
      · exact sJX12_number_39 h8 n _ _ _ _ H hG
      · cases H), (fun q9 h9 => by cases h9)⟩) ((eMX12_number n x1 x2 h).symm.trans H)
theorem sndX12_number {ρ : Type} {l : Launch} (n : Nat) : SndF (ρ := ρ) l false (mi 87).1 (wX12_number n) := by
    intro a h k r H ha ho hn hf
    have h8 := hf rfl
    obtain ⟨x0, x1, x2, rfl⟩ := len3 (show a.length = 3 from ha)
    have u0 := uq16 hn (ho (16, x0) (List.mem_cons_self))
    subst u0
    replace H : bnd (MX12_number n x1 x2 h) (fun r h2 => k r h2) = some r := H
    obtain ⟨v2, h2, H1, H2⟩ := bnd_some H
    exact ⟨v2, h2, H2, met_mk (mok_base okX12_number).1 (by decide +kernel) (Nat.le_of_ble_eq_true rfl) ho (sMX12_number h8 n x1 x2 h H1 ⟨rfl, rfl⟩), fun q => by cases q⟩
/-! X12_ends -/
def sdX12_ends : SD := [(0, [(0, .aload_n 0, 1, [], 0), (1, .invokevirtual 240, 3, [1, 0, 1, 78, 1535, 16], 0), (4, .ifCond .eq 21, 3, [], 0)]),
  (7, [(7, .aload_n 0, 1, [], 0), (8, .invokevirtual 244, 3, [1, 1, 1, 80, 1539, 16], 0), (11, .bipush 59, 2, [], 0), (13, .if_icmp .eq 12, 3, [], 0)]),
  (16, [(16, .aload_n 0, 1, [], 0), (17, .iconst 1, 1, [], 0), (18, .aload_n 0, 1, [], 0), (19, .getfield 190, 3, [12, 21, 0, 0, 1343, 0], 0), (22, .invokevirtual 253, 3, [0, 2, 1, 85, 1577, 0, 0, 16], 0)]),
  (25, [(25, .aload_n 0, 1, [], 0), (26, .dup, 1, [], 0), (27, .getfield 190, 3, [12, 21, 0, 0, 1343, 0], 0), (30, .iconst 1, 1, [], 0), (31, .iadd, 1, [], 0), (32, .putfield 190, 3, [12, 21, 0, 0, 0, 1343], 0), (35, .return_, 1, [], 0)])]
def JX12_ends_25 (n : Nat) (h : Hp) : Option (Hp) :=
(ltt (up h 113 21 (w32 ((h 113 21) + 1))) fun h1 =>
(some h1))
def MX12_ends (n : Nat) (h : Hp) : Option (Hp) :=
(bndp (MX12_isRight h) fun r1 =>
(if r1 = 0 then
(JX12_ends_25 n h)
else
(bnd (MX12_next n h) fun r2 h1 =>
(if r2 = 59 then
(JX12_ends_25 n h1)
else
(bndh (MX12_fails 1 (h1 113 21) h1) fun h2 =>
(JX12_ends_25 n h2))))))
def wX12_ends {ρ : Type} (n : Nat) : FN ρ := fun a h k => match a with
  | [_] => bndh (MX12_ends n h) (fun h2 => k 0 h2)
  | _ => none
def fsX12_ends (n : Nat) (ρ : Type) : List (FN ρ) := [wX12_isRight, wX12_next n, wX12_fails]
def KJX12_ends_25 (_ : Nat) : CT (Hp) := []
set_option maxRecDepth 100000 in
theorem eJX12_ends_25 (n : Nat) (h : Hp) : JX12_ends_25 n h =
  goAt false (kct (KJX12_ends_25 n)) (fun _ h => some (h)) (fsX12_ends n _) sdX12_ends 1000 25 [(0, 16, 113)] [] h := rfl
def KMX12_ends (n : Nat) : CT (Hp) := [(25, [(0, 16, (some 113))], [], fun a c h => match a, c with
    | [], [] => JX12_ends_25 n h
    | _, _ => none)]
set_option maxRecDepth 100000 in
theorem eMX12_ends (n : Nat) (h : Hp) : MX12_ends n h =
  goAt false (kct (KMX12_ends n)) (fun _ h => some (h)) (fsX12_ends n _) sdX12_ends 1000 0 [(0, 16, 113)] [] h := rfl
theorem okX12_ends : mokb (mi 88) = true := by decide +kernel
theorem rkX12_ends : rkOK 0 (mi 88).1.2.2.2.2.2.2.1 (mi 88).1.2.2.2.1 := Or.inl ⟨rfl, rfl, rfl⟩
def calX12_ends : List Nat := [78, 80, 85]
theorem foX12_ends {l : Launch} {ρ : Type} (n : Nat) : fsOK l false mi calX12_ends (fsX12_ends n ρ) := ⟨sndX12_isRight, ⟨(sndX12_next n), ⟨sndX12_fails, trivial⟩⟩⟩
theorem ok_sdX12_ends : sdb (mi 88).1.2.1 (insOK mi (mi 88).1.1.cls (mi 88).1.2.2.1 (mi 88).1.2.2.2.2.1 (mi 88).1.2.2.2.2.2.1 calX12_ends false 0) sdX12_ends = true := by decide +kernel
theorem sJX12_ends_25 {l : Launch} {h0 h' : Hp} {v : Int} (h8 : nOf h0 = 148) (n : Nat)  (h : Hp) {r : Hp} (H : JX12_ends_25 n h = some r) (hG : gW h' r) : PAt l false (mi 88).1 h0 v h' 25 [(0, 16, 113)] [] h :=
  pat_w ok_sdX12_ends rkX12_ends h8 (foX12_ends n) (fun v1 h1 q => by
    cases q
    exact ⟨hG, fun q9 => absurd rfl q9⟩) (fun q9 h9 => by cases h9) ((eJX12_ends_25 n h).symm.trans H)
theorem sMX12_ends {l : Launch} {h0 h' : Hp} {v : Int} (h8 : nOf h0 = 148) (n : Nat)  (h : Hp) {r : Hp} (H : MX12_ends n h = some r) (hG : gW h' r) : PAt l false (mi 88).1 h0 v h' 0 [(0, 16, 113)] [] h :=
  pat_w ok_sdX12_ends rkX12_ends h8 (foX12_ends n) (fun v1 h1 q => by
    cases q
    exact ⟨hG, fun q9 => absurd rfl q9⟩) (List.forall_mem_cons.mpr ⟨(fun a c h H => by
      dsimp only at H
      split at H
      · exact sJX12_ends_25 h8 n _ H hG
      · cases H), (fun q9 h9 => by cases h9)⟩) ((eMX12_ends n h).symm.trans H)
theorem sndX12_ends {ρ : Type} {l : Launch} (n : Nat) : SndF (ρ := ρ) l false (mi 88).1 (wX12_ends n) := by
    intro a h k r H ha ho hn hf
    have h8 := hf rfl
    obtain ⟨x0, rfl⟩ := len1 (show a.length = 1 from ha)
    have u0 := uq16 hn (ho (16, x0) (List.mem_cons_self))
    subst u0
    replace H : bndh (MX12_ends n h) (fun h2 => k 0 h2) = some r := H
    obtain ⟨h2, H1, H2⟩ := bndh_some H
    exact ⟨0, h2, H2, met_mk (mok_base okX12_ends).1 (by decide +kernel) (Nat.le_of_ble_eq_true rfl) ho (sMX12_ends h8 n  h H1 rfl), fun q => by cases q⟩
/-! X12_readsSetting -/
def sdX12_readsSetting : SD := [(0, [(0, .aload_n 0, 1, [], 0), (1, .dup, 1, [], 0), (2, .getfield 331, 3, [12, 32, 0, 0, 1354, 0], 0), (5, .iconst 1, 1, [], 0), (6, .iload_n 1, 1, [], 0), (7, .ishl, 1, [], 0), (8, .ior, 1, [], 0), (9, .putfield 331, 3, [12, 32, 0, 0, 0, 1354], 0), (12, .iload_n 1, 1, [], 0), (13, .ifCond .ne 45, 3, [], 0)]),
  (16, [(16, .iconst 0, 1, [], 0), (17, .istore_n 2, 1, [], 0)]),
  (18, [(18, .iload_n 2, 1, [], 0), (19, .bipush 6, 2, [], 0), (21, .if_icmp .ge 34, 3, [], 0)]),
  (24, [(24, .aload_n 0, 1, [], 0), (25, .getfield 11, 3, [12, 0, 84, 1, 1322, 0], 1), (28, .iload_n 2, 1, [], 0), (29, .aload_n 0, 1, [], 0), (30, .iconst 1, 1, [], 0), (31, .iload_n 2, 1, [], 0), (32, .iconst 3, 1, [], 0), (33, .if_icmp .ge 9, 3, [], 0)]),
  (36, [(36, .sipush 5000, 3, [], 0), (39, .goto 6, 3, [], 0)]),
  (42, [(42, .sipush 500, 3, [], 0)]),
  (45, [(45, .invokevirtual 306, 3, [1, 0, 1, 87, 1585, 0, 0, 16], 0), (48, .iastore, 1, [], 0), (49, .iinc 2 1, 3, [], 0), (52, .goto (-34), 3, [], 0)]),
  (55, [(55, .goto 40, 3, [], 0)]),
  (58, [(58, .iload_n 1, 1, [], 0), (59, .iconst 2, 1, [], 0), (60, .if_icmp .ne 21, 3, [], 0)]),
  (63, [(63, .aload_n 0, 1, [], 0), (64, .getfield 11, 3, [12, 0, 84, 1, 1322, 0], 1), (67, .bipush 7, 2, [], 0), (69, .aload_n 0, 1, [], 0), (70, .iconst 0, 1, [], 0), (71, .sipush 2000, 3, [], 0), (74, .invokevirtual 306, 3, [1, 0, 1, 87, 1585, 0, 0, 16], 0), (77, .iastore, 1, [], 0), (78, .goto 17, 3, [], 0)]),
  (81, [(81, .aload_n 0, 1, [], 0), (82, .getfield 11, 3, [12, 0, 84, 1, 1322, 0], 1), (85, .bipush 6, 2, [], 0), (87, .aload_n 0, 1, [], 0), (88, .iconst 1, 1, [], 0), (89, .bipush 50, 2, [], 0), (91, .invokevirtual 306, 3, [1, 0, 1, 87, 1585, 0, 0, 16], 0), (94, .iastore, 1, [], 0)]),
  (95, [(95, .aload_n 0, 1, [], 0), (96, .invokevirtual 312, 3, [0, 1, 1, 88, 1597, 16], 0), (99, .return_, 1, [], 0)])]
def JX12_readsSetting_45 (n : Nat) (bk : Int → Hp → Option (Hp)) (x2 z0 z1 z3 z4 : Int) (h : Hp) : Option (Hp) :=
(bnd (MX12_number n z3 z4 h) fun r1 h1 =>
(grd (0 ≤ z1 ∧ z1 < alen 84)
(ltt (up h1 z0 z1 r1) fun h2 =>
(ltt (w32 (x2 + 1)) fun y1 =>
(bk y1 h2)))))
def BX12_readsSetting_18 (n : Nat) : Nat → Int → Hp → Option (Hp)
  | 0, _, _ => none
  | f + 1, x2, h =>
    (if 6 ≤ x2 then
    (some (h))
    else
    (if 3 ≤ x2 then
    (JX12_readsSetting_45 n (BX12_readsSetting_18 n f) x2 114 x2 1 500 h)
    else
    (JX12_readsSetting_45 n (BX12_readsSetting_18 n f) x2 114 x2 1 5000 h)))
def JX12_readsSetting_55 (n : Nat) (h : Hp) : Option (Hp) :=
(bndh (MX12_ends n h) fun h1 =>
(some h1))
def LX12_readsSetting_18 (n : Nat) (x2 : Int) (h : Hp) : Option (Hp) :=
(bndx (BX12_readsSetting_18 n n x2 h) fun h1 =>
(JX12_readsSetting_55 n h1))
def MX12_readsSetting (n : Nat) (x1 : Int) (h : Hp) : Option (Hp) :=
(ltt (up h 113 32 (ior (h 113 32) (ishl 1 x1))) fun h1 =>
(if x1 ≠ 0 then
(if x1 ≠ 2 then
(bnd (MX12_number n 1 50 h1) fun r1 h2 =>
(grd (0 ≤ 6 ∧ 6 < alen 84)
(ltt (up h2 114 6 r1) fun h3 =>
(bndh (MX12_ends n h3) fun h4 =>
(some h4)))))
else
(bnd (MX12_number n 0 2000 h1) fun r2 h5 =>
(grd (0 ≤ 7 ∧ 7 < alen 84)
(ltt (up h5 114 7 r2) fun h6 =>
(bndh (MX12_ends n h6) fun h7 =>
(some h7))))))
else
(ltt 0 fun y1 =>
(LX12_readsSetting_18 n y1 h1))))
def wX12_readsSetting {ρ : Type} (n : Nat) : FN ρ := fun a h k => match a with
  | [_, x1] => bndh (MX12_readsSetting n x1 h) (fun h2 => k 0 h2)
  | _ => none
def fsX12_readsSetting (n : Nat) (ρ : Type) : List (FN ρ) := [wX12_number n, wX12_ends n]
def KJX12_readsSetting_45 (_ : Nat) (bk : Int → Hp → Option (Hp)) : CT (Hp) := [(18, [(0, 16, (some 113)), (2, 0, none)], [], fun a c h => match a, c with
    | [x2], [] => bk x2 h
    | _, _ => none),
  (55, [(0, 16, (some 113))], [], fun a c h => match a, c with
    | [], [] => some (h)
    | _, _ => none)]
set_option maxRecDepth 100000 in
theorem eJX12_readsSetting_45 (n : Nat) (bk : Int → Hp → Option (Hp)) (x2 : Int) (z0 : Int) (z1 : Int) (z3 : Int) (z4 : Int) (h : Hp) : JX12_readsSetting_45 n bk x2 z0 z1 z3 z4 h =
  goAt false (kct (KJX12_readsSetting_45 n bk)) (fun _ _ => none) (fsX12_readsSetting n _) sdX12_readsSetting 1000 45 [(0, 16, 113), (2, 0, x2)] [(0, z4), (0, z3), (16, 113), (0, z1), (84, z0)] h := rfl
def KBX12_readsSetting_18 (n : Nat) (bk : Int → Hp → Option (Hp)) : CT (Hp) := [(18, [(0, 16, (some 113)), (2, 0, none)], [], fun a c h => match a, c with
    | [x2], [] => bk x2 h
    | _, _ => none),
  (55, [(0, 16, (some 113))], [], fun a c h => match a, c with
    | [], [] => some (h)
    | _, _ => none),
  (45, [(0, 16, (some 113)), (2, 0, none)], [(0, none), (0, none), (16, (some 113)), (0, none), (84, none)], fun a c h => match a, c with
    | [x2], [z4, z3, z1, z0] => JX12_readsSetting_45 n bk x2 z0 z1 z3 z4 h
    | _, _ => none)]
set_option maxRecDepth 100000 in
theorem eBX12_readsSetting_18 (n f : Nat) (x2 : Int) (h : Hp) : BX12_readsSetting_18 n (f + 1) x2 h =
  goAt false (kct (KBX12_readsSetting_18 n (BX12_readsSetting_18 n f))) (fun _ _ => none) (fsX12_readsSetting n _) sdX12_readsSetting 1000 18 [(0, 16, 113), (2, 0, x2)] [] h := rfl
def KJX12_readsSetting_55 (_ : Nat) : CT (Hp) := []
set_option maxRecDepth 100000 in
theorem eJX12_readsSetting_55 (n : Nat) (h : Hp) : JX12_readsSetting_55 n h =
  goAt false (kct (KJX12_readsSetting_55 n)) (fun _ h => some (h)) (fsX12_readsSetting n _) sdX12_readsSetting 1000 55 [(0, 16, 113)] [] h := rfl
def KMX12_readsSetting (n : Nat) : CT (Hp) := [(18, [(0, 16, (some 113)), (2, 0, none)], [], fun a c h => match a, c with
    | [x2], [] => LX12_readsSetting_18 n x2 h
    | _, _ => none)]
set_option maxRecDepth 100000 in
theorem eMX12_readsSetting (n : Nat) (x1 : Int) (h : Hp) : MX12_readsSetting n x1 h =
  goAt false (kct (KMX12_readsSetting n)) (fun _ h => some (h)) (fsX12_readsSetting n _) sdX12_readsSetting 1000 0 [(0, 16, 113), (1, 0, x1)] [] h := rfl
theorem okX12_readsSetting : mokb (mi 89) = true := by decide +kernel
theorem rkX12_readsSetting : rkOK 0 (mi 89).1.2.2.2.2.2.2.1 (mi 89).1.2.2.2.1 := Or.inl ⟨rfl, rfl, rfl⟩
def calX12_readsSetting : List Nat := [87, 88]
theorem foX12_readsSetting {l : Launch} {ρ : Type} (n : Nat) : fsOK l false mi calX12_readsSetting (fsX12_readsSetting n ρ) := ⟨(sndX12_number n), ⟨(sndX12_ends n), trivial⟩⟩
theorem ok_sdX12_readsSetting : sdb (mi 89).1.2.1 (insOK mi (mi 89).1.1.cls (mi 89).1.2.2.1 (mi 89).1.2.2.2.2.1 (mi 89).1.2.2.2.2.2.1 calX12_readsSetting false 0) sdX12_readsSetting = true := by decide +kernel
def GX12_readsSetting_18 (l : Launch) (h0 : Hp) (h' : Hp) (v : Int) (_ : Hp) : (Hp) → Prop
  | h1 => PAt l false (mi 89).1 h0 v h' 55 [(0, 16, 113)] [] h1
theorem sJX12_readsSetting_45 {l : Launch} {h0 h' : Hp} {v : Int} (h8 : nOf h0 = 148) (n : Nat) (bk : Int → Hp → Option (Hp)) (hbk : ∀ (x2 : Int) (h : Hp) (r : Hp), bk x2 h = some r → GX12_readsSetting_18 l h0 h' v h r → PAt l false (mi 89).1 h0 v h' 18 [(0, 16, 113), (2, 0, x2)] [] h) (x2 : Int) (z0 : Int) (z1 : Int) (z3 : Int) (z4 : Int) (h : Hp) {r : Hp} (H : JX12_readsSetting_45 n bk x2 z0 z1 z3 z4 h = some r) (hG : GX12_readsSetting_18 l h0 h' v h r) : PAt l false (mi 89).1 h0 v h' 45 [(0, 16, 113), (2, 0, x2)] [(0, z4), (0, z3), (16, 113), (0, z1), (84, z0)] h :=
  pat_w ok_sdX12_readsSetting rkX12_readsSetting h8 (foX12_readsSetting n) (fun v1 h1 q => by cases q) (List.forall_mem_cons.mpr ⟨(fun a c h H => by
      dsimp only at H
      split at H
      · exact hbk _ _ _ H hG
      · cases H), (List.forall_mem_cons.mpr ⟨(fun a c h H => by
      dsimp only at H
      split at H
      · cases H
        exact hG
      · cases H), (fun q9 h9 => by cases h9)⟩)⟩) ((eJX12_readsSetting_45 n bk x2 z0 z1 z3 z4 h).symm.trans H)
theorem sBX12_readsSetting_18 {l : Launch} {h0 h' : Hp} {v : Int} (h8 : nOf h0 = 148) (n : Nat) : ∀ (f : Nat) (x2 : Int) (h : Hp) {r : Hp}, BX12_readsSetting_18 n f x2 h = some r → GX12_readsSetting_18 l h0 h' v h r → PAt l false (mi 89).1 h0 v h' 18 [(0, 16, 113), (2, 0, x2)] [] h := by
  intro f
  induction f with
  | zero =>
    intro x2 h r H _
    have H2 : (none : Option (Hp)) = some r := H
    cases H2
  | succ f ih =>
    intro x2 h r H hG
    have ihk : ∀ (x2 : Int) (h : Hp) (r : Hp), BX12_readsSetting_18 n f x2 h = some r → GX12_readsSetting_18 l h0 h' v h r → PAt l false (mi 89).1 h0 v h' 18 [(0, 16, 113), (2, 0, x2)] [] h := fun x2 h r9 a9 b9 => ih x2 h a9 b9
    exact pat_w ok_sdX12_readsSetting rkX12_readsSetting h8 (foX12_readsSetting n) (fun v1 h1 q => by cases q) (List.forall_mem_cons.mpr ⟨(fun a c h H => by
      dsimp only at H
      split at H
      · exact ih _ _ H hG
      · cases H), (List.forall_mem_cons.mpr ⟨(fun a c h H => by
      dsimp only at H
      split at H
      · cases H
        exact hG
      · cases H), (List.forall_mem_cons.mpr ⟨(fun a c h H => by
      dsimp only at H
      split at H
      · exact sJX12_readsSetting_45 h8 n (BX12_readsSetting_18 n f) ihk _ _ _ _ _ _ H hG
      · cases H), (fun q9 h9 => by cases h9)⟩)⟩)⟩) ((eBX12_readsSetting_18 n f x2 h).symm.trans H)
theorem sJX12_readsSetting_55 {l : Launch} {h0 h' : Hp} {v : Int} (h8 : nOf h0 = 148) (n : Nat)  (h : Hp) {r : Hp} (H : JX12_readsSetting_55 n h = some r) (hG : gW h' r) : PAt l false (mi 89).1 h0 v h' 55 [(0, 16, 113)] [] h :=
  pat_w ok_sdX12_readsSetting rkX12_readsSetting h8 (foX12_readsSetting n) (fun v1 h1 q => by
    cases q
    exact ⟨hG, fun q9 => absurd rfl q9⟩) (fun q9 h9 => by cases h9) ((eJX12_readsSetting_55 n h).symm.trans H)
theorem sLX12_readsSetting_18 {l : Launch} {h0 h' : Hp} {v : Int} (h8 : nOf h0 = 148) (n : Nat) (x2 : Int) (h : Hp) {r : Hp} (H : LX12_readsSetting_18 n x2 h = some r) (hG : gW h' r) : PAt l false (mi 89).1 h0 v h' 18 [(0, 16, 113), (2, 0, x2)] [] h := by
  obtain ⟨h1, h2, h3⟩ := bndx_some H
  exact sBX12_readsSetting_18 h8 n n x2 h h2 (sJX12_readsSetting_55 h8 n h1 h3 hG)
theorem sMX12_readsSetting {l : Launch} {h0 h' : Hp} {v : Int} (h8 : nOf h0 = 148) (n : Nat) (x1 : Int) (h : Hp) {r : Hp} (H : MX12_readsSetting n x1 h = some r) (hG : gW h' r) : PAt l false (mi 89).1 h0 v h' 0 [(0, 16, 113), (1, 0, x1)] [] h :=
  pat_w ok_sdX12_readsSetting rkX12_readsSetting h8 (foX12_readsSetting n) (fun v1 h1 q => by
    cases q
    exact ⟨hG, fun q9 => absurd rfl q9⟩) (List.forall_mem_cons.mpr ⟨(fun a c h H => by
      dsimp only at H
      split at H
      · exact sLX12_readsSetting_18 h8 n _ _ H hG
      · cases H), (fun q9 h9 => by cases h9)⟩) ((eMX12_readsSetting n x1 h).symm.trans H)
theorem sndX12_readsSetting {ρ : Type} {l : Launch} (n : Nat) : SndF (ρ := ρ) l false (mi 89).1 (wX12_readsSetting n) := by
    intro a h k r H ha ho hn hf
    have h8 := hf rfl
    obtain ⟨x0, x1, rfl⟩ := len2 (show a.length = 2 from ha)
    have u0 := uq16 hn (ho (16, x0) (List.mem_cons_self))
    subst u0
    replace H : bndh (MX12_readsSetting n x1 h) (fun h2 => k 0 h2) = some r := H
    obtain ⟨h2, H1, H2⟩ := bndh_some H
    exact ⟨0, h2, H2, met_mk (mok_base okX12_readsSetting).1 (by decide +kernel) (Nat.le_of_ble_eq_true rfl) ho (sMX12_readsSetting h8 n x1 h H1 rfl), fun q => by cases q⟩
/-! X12_quarters -/
def sdX12_quarters : SD := [(0, [(0, .aload_n 0, 1, [], 0), (1, .bipush (-4), 2, [], 0), (3, .iconst 4, 1, [], 0), (4, .invokevirtual 306, 3, [1, 0, 1, 87, 1585, 0, 0, 16], 0), (7, .istore_n 1, 1, [], 0), (8, .aload_n 0, 1, [], 0), (9, .invokevirtual 240, 3, [1, 1, 1, 78, 1535, 16], 0), (12, .ifCond .eq 16, 3, [], 0)]),
  (15, [(15, .iload_n 1, 1, [], 0), (16, .ifCond .ne 12, 3, [], 0)]),
  (19, [(19, .aload_n 0, 1, [], 0), (20, .iconst 2, 1, [], 0), (21, .aload_n 0, 1, [], 0), (22, .getfield 247, 3, [12, 23, 0, 0, 1345, 0], 0), (25, .invokevirtual 253, 3, [0, 2, 1, 85, 1577, 0, 0, 16], 0)]),
  (28, [(28, .iload_n 1, 1, [], 0), (29, .ireturn, 1, [], 0)])]
def MX12_quarters (n : Nat) (h : Hp) : Option (Int × Hp) :=
(bnd (MX12_number n (-4) 4 h) fun r1 h1 =>
(ltt r1 fun y1 =>
(bndp (MX12_isRight h1) fun r2 =>
(if r2 = 0 then
(some (y1, h1))
else
(if y1 ≠ 0 then
(some (y1, h1))
else
(bndh (MX12_fails 2 (h1 113 23) h1) fun h2 =>
(some (y1, h2))))))))
def wX12_quarters {ρ : Type} (n : Nat) : FN ρ := fun a h k => match a with
  | [_] => bnd (MX12_quarters n h) (fun r h2 => k r h2)
  | _ => none
def fsX12_quarters (n : Nat) (ρ : Type) : List (FN ρ) := [wX12_number n, wX12_isRight, wX12_fails]
def KMX12_quarters (_ : Nat) : CT (Int × Hp) := []
set_option maxRecDepth 100000 in
theorem eMX12_quarters (n : Nat) (h : Hp) : MX12_quarters n h =
  goAt false (kct (KMX12_quarters n)) (fun v h => some ((v, h))) (fsX12_quarters n _) sdX12_quarters 1000 0 [(0, 16, 113)] [] h := rfl
theorem okX12_quarters : mokb (mi 90) = true := by decide +kernel
theorem rkX12_quarters : rkOK 1 (mi 90).1.2.2.2.2.2.2.1 (mi 90).1.2.2.2.1 := Or.inr (Or.inl ⟨rfl, rfl, rfl⟩)
def calX12_quarters : List Nat := [87, 78, 85]
theorem foX12_quarters {l : Launch} {ρ : Type} (n : Nat) : fsOK l false mi calX12_quarters (fsX12_quarters n ρ) := ⟨(sndX12_number n), ⟨sndX12_isRight, ⟨sndX12_fails, trivial⟩⟩⟩
theorem ok_sdX12_quarters : sdb (mi 90).1.2.1 (insOK mi (mi 90).1.1.cls (mi 90).1.2.2.1 (mi 90).1.2.2.2.2.1 (mi 90).1.2.2.2.2.2.1 calX12_quarters false 1) sdX12_quarters = true := by decide +kernel
theorem sMX12_quarters {l : Launch} {h0 h' : Hp} {v : Int} (h8 : nOf h0 = 148) (n : Nat)  (h : Hp) {r : Int × Hp} (H : MX12_quarters n h = some r) (hG : gWV v h' r) : PAt l false (mi 90).1 h0 v h' 0 [(0, 16, 113)] [] h :=
  pat_w ok_sdX12_quarters rkX12_quarters h8 (foX12_quarters n) (fun v1 h1 q => by
    cases q
    exact ⟨hG.1, fun _ => hG.2⟩) (fun q9 h9 => by cases h9) ((eMX12_quarters n h).symm.trans H)
theorem sndX12_quarters {ρ : Type} {l : Launch} (n : Nat) : SndF (ρ := ρ) l false (mi 90).1 (wX12_quarters n) := by
    intro a h k r H ha ho hn hf
    have h8 := hf rfl
    obtain ⟨x0, rfl⟩ := len1 (show a.length = 1 from ha)
    have u0 := uq16 hn (ho (16, x0) (List.mem_cons_self))
    subst u0
    replace H : bnd (MX12_quarters n h) (fun r h2 => k r h2) = some r := H
    obtain ⟨v2, h2, H1, H2⟩ := bnd_some H
    exact ⟨v2, h2, H2, met_mk (mok_base okX12_quarters).1 (by decide +kernel) (Nat.le_of_ble_eq_true rfl) ho (sMX12_quarters h8 n  h H1 ⟨rfl, rfl⟩), fun q => by cases q⟩
/-! X12_comesTo -/
def sdX12_comesTo : SD := [(0, [(0, .iload_n 1, 1, [], 0), (1, .aload_n 0, 1, [], 0), (2, .getfield 56, 3, [12, 25, 44, 1, 1347, 0], 15), (5, .iconst 0, 1, [], 0), (6, .iaload, 1, [], 0), (7, .if_icmp .ne 24, 3, [], 0)]),
  (10, [(10, .iload_n 2, 1, [], 0), (11, .aload_n 0, 1, [], 0), (12, .getfield 56, 3, [12, 25, 44, 1, 1347, 0], 15), (15, .iconst 1, 1, [], 0), (16, .iaload, 1, [], 0), (17, .if_icmp .ne 14, 3, [], 0)]),
  (20, [(20, .iload_n 3, 1, [], 0), (21, .aload_n 0, 1, [], 0), (22, .getfield 56, 3, [12, 25, 44, 1, 1347, 0], 15), (25, .iconst 2, 1, [], 0), (26, .iaload, 1, [], 0), (27, .if_icmp .ne 4, 3, [], 0)]),
  (30, [(30, .return_, 1, [], 0)]),
  (31, [(31, .aload_n 0, 1, [], 0), (32, .aload_n 0, 1, [], 0), (33, .getfield 273, 3, [12, 26, 0, 0, 1348, 0], 0), (36, .ifCond .ne 45, 3, [], 0)]),
  (39, [(39, .iload_n 1, 1, [], 0), (40, .i2l, 1, [], 0), (41, .ldc2_w 276, 3, [1, 1619], (-100000)), (44, .ldc2_w 278, 3, [1, 1620], 100000), (47, .invokestatic 217, 3, [1, 0, 3, 81, 1561, 1, 1, 1], 0), (50, .ifCond .eq 31, 3, [], 0)]),
  (53, [(53, .iload_n 2, 1, [], 0), (54, .i2l, 1, [], 0), (55, .ldc2_w 276, 3, [1, 1619], (-100000)), (58, .ldc2_w 278, 3, [1, 1620], 100000), (61, .invokestatic 217, 3, [1, 0, 3, 81, 1561, 1, 1, 1], 0), (64, .ifCond .eq 17, 3, [], 0)]),
  (67, [(67, .iload_n 3, 1, [], 0), (68, .i2l, 1, [], 0), (69, .ldc2_w 276, 3, [1, 1619], (-100000)), (72, .ldc2_w 278, 3, [1, 1620], 100000), (75, .invokestatic 217, 3, [1, 0, 3, 81, 1561, 1, 1, 1], 0), (78, .ifCond .ne 7, 3, [], 0)]),
  (81, [(81, .iconst 1, 1, [], 0), (82, .goto 4, 3, [], 0)]),
  (85, [(85, .iconst 0, 1, [], 0)]),
  (86, [(86, .putfield 273, 3, [12, 26, 0, 0, 1, 1348], 0), (89, .aload_n 0, 1, [], 0), (90, .getfield 56, 3, [12, 25, 44, 1, 1347, 0], 15), (93, .iconst 0, 1, [], 0), (94, .iload_n 1, 1, [], 0), (95, .iastore, 1, [], 0), (96, .aload_n 0, 1, [], 0), (97, .getfield 56, 3, [12, 25, 44, 1, 1347, 0], 15), (100, .iconst 1, 1, [], 0), (101, .iload_n 2, 1, [], 0), (102, .iastore, 1, [], 0), (103, .aload_n 0, 1, [], 0), (104, .getfield 56, 3, [12, 25, 44, 1, 1347, 0], 15), (107, .iconst 2, 1, [], 0), (108, .iload_n 3, 1, [], 0), (109, .iastore, 1, [], 0), (110, .aload_n 0, 1, [], 0), (111, .getfield 131, 3, [12, 3, 0, 0, 1325, 0], 0), (114, .bipush 64, 2, [], 0), (116, .if_icmp .ne 9, 3, [], 0)]),
  (119, [(119, .aload_n 0, 1, [], 0), (120, .iconst 1, 1, [], 0), (121, .putfield 280, 3, [12, 27, 0, 0, 1, 1349], 0), (124, .return_, 1, [], 0)]),
  (125, [(125, .aload_n 0, 1, [], 0), (126, .getfield 31, 3, [12, 12, 532, 1, 1334, 0], 7), (129, .aload_n 0, 1, [], 0), (130, .getfield 131, 3, [12, 3, 0, 0, 1325, 0], 0), (133, .iload 4, 2, [], 0), (135, .iastore, 1, [], 0), (136, .aload_n 0, 1, [], 0), (137, .getfield 34, 3, [12, 13, 532, 1, 1335, 0], 8), (140, .aload_n 0, 1, [], 0), (141, .getfield 131, 3, [12, 3, 0, 0, 1325, 0], 0), (144, .aload_n 0, 1, [], 0), (145, .getfield 127, 3, [12, 2, 0, 0, 1324, 0], 0), (148, .iconst 1, 1, [], 0), (149, .isub, 1, [], 0), (150, .iastore, 1, [], 0), (151, .aload_n 0, 1, [], 0), (152, .dup, 1, [], 0), (153, .getfield 131, 3, [12, 3, 0, 0, 1325, 0], 0), (156, .iconst 1, 1, [], 0), (157, .iadd, 1, [], 0), (158, .putfield 131, 3, [12, 3, 0, 0, 0, 1325], 0), (161, .iconst 0, 1, [], 0), (162, .istore 5, 2, [], 0)]),
  (164, [(164, .iload 5, 2, [], 0), (166, .iconst 3, 1, [], 0), (167, .if_icmp .ge 30, 3, [], 0)]),
  (170, [(170, .aload_n 0, 1, [], 0), (171, .getfield 28, 3, [12, 11, 1580, 1, 1333, 0], 6), (174, .iconst 3, 1, [], 0), (175, .aload_n 0, 1, [], 0), (176, .getfield 131, 3, [12, 3, 0, 0, 1325, 0], 0), (179, .imul, 1, [], 0), (180, .iload 5, 2, [], 0), (182, .iadd, 1, [], 0), (183, .aload_n 0, 1, [], 0), (184, .getfield 56, 3, [12, 25, 44, 1, 1347, 0], 15), (187, .iload 5, 2, [], 0), (189, .iaload, 1, [], 0), (190, .iastore, 1, [], 0), (191, .iinc 5 1, 3, [], 0), (194, .goto (-30), 3, [], 0)]),
  (197, [(197, .return_, 1, [], 0)])]
def BX12_comesTo_164 (n : Nat) : Nat → Int → Hp → Option (Hp)
  | 0, _, _ => none
  | f + 1, x5, h =>
    (if 3 ≤ x5 then
    (some h)
    else
    (grd (0 ≤ x5 ∧ x5 < alen 44)
    (grd (0 ≤ (w32 ((w32 (3 * (h 113 3))) + x5)) ∧ (w32 ((w32 (3 * (h 113 3))) + x5)) < alen 1580)
    (ltt (up h 119 (w32 ((w32 (3 * (h 113 3))) + x5)) (h 128 x5)) fun h1 =>
    (ltt (w32 (x5 + 1)) fun y1 =>
    (BX12_comesTo_164 n f y1 h1))))))
def LX12_comesTo_164 (n : Nat) (x5 : Int) (h : Hp) : Option (Hp) :=
(BX12_comesTo_164 n n x5 h)
def JX12_comesTo_86 (n : Nat) (x1 x2 x3 x4 z1 : Int) (h : Hp) : Option (Hp) :=
(grd (z1 = 0 ∨ z1 = 1)
(ltt (up h 113 26 z1) fun h1 =>
(grd (0 ≤ 0 ∧ 0 < alen 44)
(ltt (up h1 128 0 x1) fun h2 =>
(grd (0 ≤ 1 ∧ 1 < alen 44)
(ltt (up h2 128 1 x2) fun h3 =>
(grd (0 ≤ 2 ∧ 2 < alen 44)
(ltt (up h3 128 2 x3) fun h4 =>
(if (h4 113 3) ≠ 64 then
(grd (0 ≤ (h4 113 3) ∧ (h4 113 3) < alen 532)
(ltt (up h4 120 (h4 113 3) x4) fun h5 =>
(grd (0 ≤ (h5 113 3) ∧ (h5 113 3) < alen 532)
(ltt (up h5 121 (h5 113 3) (w32 ((h5 113 2) - 1))) fun h6 =>
(ltt (up h6 113 3 (w32 ((h6 113 3) + 1))) fun h7 =>
(ltt 0 fun y1 =>
(LX12_comesTo_164 n y1 h7)))))))
else
(ltt (up h4 113 27 1) fun h8 =>
(some h8)))))))))))
def JX12_comesTo_81 (n : Nat) (x1 x2 x3 x4 : Int) (h : Hp) : Option (Hp) :=
(JX12_comesTo_86 n x1 x2 x3 x4 1 h)
def JX12_comesTo_31 (n : Nat) (x1 x2 x3 x4 : Int) (h : Hp) : Option (Hp) :=
(if (h 113 26) ≠ 0 then
(JX12_comesTo_81 n x1 x2 x3 x4 h)
else
(bndp (MX12_in x1 (-100000) 100000) fun r1 =>
(if r1 = 0 then
(JX12_comesTo_81 n x1 x2 x3 x4 h)
else
(bndp (MX12_in x2 (-100000) 100000) fun r2 =>
(if r2 = 0 then
(JX12_comesTo_81 n x1 x2 x3 x4 h)
else
(bndp (MX12_in x3 (-100000) 100000) fun r3 =>
(if r3 ≠ 0 then
(JX12_comesTo_86 n x1 x2 x3 x4 0 h)
else
(JX12_comesTo_81 n x1 x2 x3 x4 h))))))))
def MX12_comesTo (n : Nat) (x1 x2 x3 x4 : Int) (h : Hp) : Option (Hp) :=
(grd (0 ≤ 0 ∧ 0 < alen 44)
(if x1 ≠ (h 128 0) then
(JX12_comesTo_31 n x1 x2 x3 x4 h)
else
(grd (0 ≤ 1 ∧ 1 < alen 44)
(if x2 ≠ (h 128 1) then
(JX12_comesTo_31 n x1 x2 x3 x4 h)
else
(grd (0 ≤ 2 ∧ 2 < alen 44)
(if x3 ≠ (h 128 2) then
(JX12_comesTo_31 n x1 x2 x3 x4 h)
else
(some h)))))))
def wX12_comesTo {ρ : Type} (n : Nat) : FN ρ := fun a h k => match a with
  | [_, x1, x2, x3, x4] => bndh (MX12_comesTo n x1 x2 x3 x4 h) (fun h2 => k 0 h2)
  | _ => none
def fsX12_comesTo (n : Nat) (ρ : Type) : List (FN ρ) := [wX12_in]
def KBX12_comesTo_164 (_ : Nat) (bk : Int → Hp → Option (Hp)) : CT (Hp) := [(164, [(0, 16, (some 113)), (5, 0, none)], [], fun a c h => match a, c with
    | [x5], [] => bk x5 h
    | _, _ => none)]
set_option maxRecDepth 100000 in
theorem eBX12_comesTo_164 (n f : Nat) (x5 : Int) (h : Hp) : BX12_comesTo_164 n (f + 1) x5 h =
  goAt false (kct (KBX12_comesTo_164 n (BX12_comesTo_164 n f))) (fun _ h => some (h)) (fsX12_comesTo n _) sdX12_comesTo 1000 164 [(0, 16, 113), (5, 0, x5)] [] h := rfl
def KJX12_comesTo_86 (n : Nat) : CT (Hp) := [(164, [(0, 16, (some 113)), (5, 0, none)], [], fun a c h => match a, c with
    | [x5], [] => LX12_comesTo_164 n x5 h
    | _, _ => none)]
set_option maxRecDepth 100000 in
theorem eJX12_comesTo_86 (n : Nat) (x1 : Int) (x2 : Int) (x3 : Int) (x4 : Int) (z1 : Int) (h : Hp) : JX12_comesTo_86 n x1 x2 x3 x4 z1 h =
  goAt false (kct (KJX12_comesTo_86 n)) (fun _ h => some (h)) (fsX12_comesTo n _) sdX12_comesTo 1000 86 [(0, 16, 113), (1, 0, x1), (2, 0, x2), (3, 0, x3), (4, 0, x4)] [(0, z1), (16, 113)] h := rfl
def KJX12_comesTo_81 (n : Nat) : CT (Hp) := [(86, [(0, 16, (some 113)), (1, 0, none), (2, 0, none), (3, 0, none), (4, 0, none)], [(0, none), (16, (some 113))], fun a c h => match a, c with
    | [x1, x2, x3, x4], [z1] => JX12_comesTo_86 n x1 x2 x3 x4 z1 h
    | _, _ => none)]
set_option maxRecDepth 100000 in
theorem eJX12_comesTo_81 (n : Nat) (x1 : Int) (x2 : Int) (x3 : Int) (x4 : Int) (h : Hp) : JX12_comesTo_81 n x1 x2 x3 x4 h =
  goAt false (kct (KJX12_comesTo_81 n)) (fun _ h => some (h)) (fsX12_comesTo n _) sdX12_comesTo 1000 81 [(0, 16, 113), (1, 0, x1), (2, 0, x2), (3, 0, x3), (4, 0, x4)] [(16, 113)] h := rfl
def KJX12_comesTo_31 (n : Nat) : CT (Hp) := [(86, [(0, 16, (some 113)), (1, 0, none), (2, 0, none), (3, 0, none), (4, 0, none)], [(0, none), (16, (some 113))], fun a c h => match a, c with
    | [x1, x2, x3, x4], [z1] => JX12_comesTo_86 n x1 x2 x3 x4 z1 h
    | _, _ => none),
  (81, [(0, 16, (some 113)), (1, 0, none), (2, 0, none), (3, 0, none), (4, 0, none)], [(16, (some 113))], fun a c h => match a, c with
    | [x1, x2, x3, x4], [] => JX12_comesTo_81 n x1 x2 x3 x4 h
    | _, _ => none)]
set_option maxRecDepth 100000 in
theorem eJX12_comesTo_31 (n : Nat) (x1 : Int) (x2 : Int) (x3 : Int) (x4 : Int) (h : Hp) : JX12_comesTo_31 n x1 x2 x3 x4 h =
  goAt false (kct (KJX12_comesTo_31 n)) (fun _ h => some (h)) (fsX12_comesTo n _) sdX12_comesTo 1000 31 [(0, 16, 113), (1, 0, x1), (2, 0, x2), (3, 0, x3), (4, 0, x4)] [] h := rfl
def KMX12_comesTo (n : Nat) : CT (Hp) := [(31, [(0, 16, (some 113)), (1, 0, none), (2, 0, none), (3, 0, none), (4, 0, none)], [], fun a c h => match a, c with
    | [x1, x2, x3, x4], [] => JX12_comesTo_31 n x1 x2 x3 x4 h
    | _, _ => none)]
set_option maxRecDepth 100000 in
theorem eMX12_comesTo (n : Nat) (x1 : Int) (x2 : Int) (x3 : Int) (x4 : Int) (h : Hp) : MX12_comesTo n x1 x2 x3 x4 h =
  goAt false (kct (KMX12_comesTo n)) (fun _ h => some (h)) (fsX12_comesTo n _) sdX12_comesTo 1000 0 [(0, 16, 113), (1, 0, x1), (2, 0, x2), (3, 0, x3), (4, 0, x4)] [] h := rfl
theorem okX12_comesTo : mokb (mi 91) = true := by decide +kernel
theorem rkX12_comesTo : rkOK 0 (mi 91).1.2.2.2.2.2.2.1 (mi 91).1.2.2.2.1 := Or.inl ⟨rfl, rfl, rfl⟩
def calX12_comesTo : List Nat := [81]
theorem foX12_comesTo {l : Launch} {ρ : Type} (n : Nat) : fsOK l false mi calX12_comesTo (fsX12_comesTo n ρ) := ⟨sndX12_in, trivial⟩
theorem ok_sdX12_comesTo : sdb (mi 91).1.2.1 (insOK mi (mi 91).1.1.cls (mi 91).1.2.2.1 (mi 91).1.2.2.2.2.1 (mi 91).1.2.2.2.2.2.1 calX12_comesTo false 0) sdX12_comesTo = true := by decide +kernel
theorem sBX12_comesTo_164 {l : Launch} {h0 h' : Hp} {v : Int} (h8 : nOf h0 = 148) (n : Nat) : ∀ (f : Nat) (x5 : Int) (h : Hp) {r : Hp}, BX12_comesTo_164 n f x5 h = some r → gW h' r → PAt l false (mi 91).1 h0 v h' 164 [(0, 16, 113), (5, 0, x5)] [] h := by
  intro f
  induction f with
  | zero =>
    intro x5 h r H _
    have H2 : (none : Option (Hp)) = some r := H
    cases H2
  | succ f ih =>
    intro x5 h r H hG
    exact pat_w ok_sdX12_comesTo rkX12_comesTo h8 (foX12_comesTo n) (fun v1 h1 q => by
    cases q
    exact ⟨hG, fun q9 => absurd rfl q9⟩) (List.forall_mem_cons.mpr ⟨(fun a c h H => by
      dsimp only at H
      split at H
      · exact ih _ _ H hG
      · cases H), (fun q9 h9 => by cases h9)⟩) ((eBX12_comesTo_164 n f x5 h).symm.trans H)
theorem sLX12_comesTo_164 {l : Launch} {h0 h' : Hp} {v : Int} (h8 : nOf h0 = 148) (n : Nat) (x5 : Int) (h : Hp) {r : Hp} (H : LX12_comesTo_164 n x5 h = some r) (hG : gW h' r) : PAt l false (mi 91).1 h0 v h' 164 [(0, 16, 113), (5, 0, x5)] [] h :=
  sBX12_comesTo_164 h8 n n x5 h H hG
theorem sJX12_comesTo_86 {l : Launch} {h0 h' : Hp} {v : Int} (h8 : nOf h0 = 148) (n : Nat) (x1 : Int) (x2 : Int) (x3 : Int) (x4 : Int) (z1 : Int) (h : Hp) {r : Hp} (H : JX12_comesTo_86 n x1 x2 x3 x4 z1 h = some r) (hG : gW h' r) : PAt l false (mi 91).1 h0 v h' 86 [(0, 16, 113), (1, 0, x1), (2, 0, x2), (3, 0, x3), (4, 0, x4)] [(0, z1), (16, 113)] h :=
  pat_w ok_sdX12_comesTo rkX12_comesTo h8 (foX12_comesTo n) (fun v1 h1 q => by
    cases q
    exact ⟨hG, fun q9 => absurd rfl q9⟩) (List.forall_mem_cons.mpr ⟨(fun a c h H => by
      dsimp only at H
      split at H
      · exact sLX12_comesTo_164 h8 n _ _ H hG
      · cases H), (fun q9 h9 => by cases h9)⟩) ((eJX12_comesTo_86 n x1 x2 x3 x4 z1 h).symm.trans H)
theorem sJX12_comesTo_81 {l : Launch} {h0 h' : Hp} {v : Int} (h8 : nOf h0 = 148) (n : Nat) (x1 : Int) (x2 : Int) (x3 : Int) (x4 : Int) (h : Hp) {r : Hp} (H : JX12_comesTo_81 n x1 x2 x3 x4 h = some r) (hG : gW h' r) : PAt l false (mi 91).1 h0 v h' 81 [(0, 16, 113), (1, 0, x1), (2, 0, x2), (3, 0, x3), (4, 0, x4)] [(16, 113)] h :=
  pat_w ok_sdX12_comesTo rkX12_comesTo h8 (foX12_comesTo n) (fun v1 h1 q => by
    cases q
    exact ⟨hG, fun q9 => absurd rfl q9⟩) (List.forall_mem_cons.mpr ⟨(fun a c h H => by
      dsimp only at H
      split at H
      · exact sJX12_comesTo_86 h8 n _ _ _ _ _ _ H hG
      · cases H), (fun q9 h9 => by cases h9)⟩) ((eJX12_comesTo_81 n x1 x2 x3 x4 h).symm.trans H)
theorem sJX12_comesTo_31 {l : Launch} {h0 h' : Hp} {v : Int} (h8 : nOf h0 = 148) (n : Nat) (x1 : Int) (x2 : Int) (x3 : Int) (x4 : Int) (h : Hp) {r : Hp} (H : JX12_comesTo_31 n x1 x2 x3 x4 h = some r) (hG : gW h' r) : PAt l false (mi 91).1 h0 v h' 31 [(0, 16, 113), (1, 0, x1), (2, 0, x2), (3, 0, x3), (4, 0, x4)] [] h :=
  pat_w ok_sdX12_comesTo rkX12_comesTo h8 (foX12_comesTo n) (fun v1 h1 q => by
    cases q
    exact ⟨hG, fun q9 => absurd rfl q9⟩) (List.forall_mem_cons.mpr ⟨(fun a c h H => by
      dsimp only at H
      split at H
      · exact sJX12_comesTo_86 h8 n _ _ _ _ _ _ H hG
      · cases H), (List.forall_mem_cons.mpr ⟨(fun a c h H => by
      dsimp only at H
      split at H
      · exact sJX12_comesTo_81 h8 n _ _ _ _ _ H hG
      · cases H), (fun q9 h9 => by cases h9)⟩)⟩) ((eJX12_comesTo_31 n x1 x2 x3 x4 h).symm.trans H)
theorem sMX12_comesTo {l : Launch} {h0 h' : Hp} {v : Int} (h8 : nOf h0 = 148) (n : Nat) (x1 : Int) (x2 : Int) (x3 : Int) (x4 : Int) (h : Hp) {r : Hp} (H : MX12_comesTo n x1 x2 x3 x4 h = some r) (hG : gW h' r) : PAt l false (mi 91).1 h0 v h' 0 [(0, 16, 113), (1, 0, x1), (2, 0, x2), (3, 0, x3), (4, 0, x4)] [] h :=
  pat_w ok_sdX12_comesTo rkX12_comesTo h8 (foX12_comesTo n) (fun v1 h1 q => by
    cases q
    exact ⟨hG, fun q9 => absurd rfl q9⟩) (List.forall_mem_cons.mpr ⟨(fun a c h H => by
      dsimp only at H
      split at H
      · exact sJX12_comesTo_31 h8 n _ _ _ _ _ H hG
      · cases H), (fun q9 h9 => by cases h9)⟩) ((eMX12_comesTo n x1 x2 x3 x4 h).symm.trans H)
theorem sndX12_comesTo {ρ : Type} {l : Launch} (n : Nat) : SndF (ρ := ρ) l false (mi 91).1 (wX12_comesTo n) := by
    intro a h k r H ha ho hn hf
    have h8 := hf rfl
    obtain ⟨x0, x1, x2, x3, x4, rfl⟩ := len5 (show a.length = 5 from ha)
    have u0 := uq16 hn (ho (16, x0) (List.mem_cons_self))
    subst u0
    replace H : bndh (MX12_comesTo n x1 x2 x3 x4 h) (fun h2 => k 0 h2) = some r := H
    obtain ⟨h2, H1, H2⟩ := bndh_some H
    exact ⟨0, h2, H2, met_mk (mok_base okX12_comesTo).1 (by decide +kernel) (Nat.le_of_ble_eq_true rfl) ho (sMX12_comesTo h8 n x1 x2 x3 x4 h H1 rfl), fun q => by cases q⟩
/-! X12_square -/
def sdX12_square : SD := [(0, [(0, .lload_n 0, 1, [], 0), (1, .lload_n 0, 1, [], 0), (2, .lmul, 1, [], 0), (3, .lreturn, 1, [], 0)])]
def MX12_square (x0 : Int) : Option (Int) :=
(some (w64 (x0 * x0)))
def wX12_square {ρ : Type} : FN ρ := fun a h k => match a with
  | [x0] => bndp (MX12_square x0) (fun r => k r h)
  | _ => none
def fsX12_square (ρ : Type) : List (FN ρ) := []
def KMX12_square  : CT (Int) := []
set_option maxRecDepth 100000 in
theorem eMX12_square (x0 : Int) (h : Hp) : MX12_square x0 =
  goAt false (kct (KMX12_square)) (fun v _ => some (v)) (fsX12_square _) sdX12_square 1000 0 [(0, 1, x0)] [] h := rfl
theorem okX12_square : mokb (mi 92) = true := by decide +kernel
theorem rkX12_square : rkOK 2 (mi 92).1.2.2.2.2.2.2.1 (mi 92).1.2.2.2.1 := Or.inr (Or.inr (Or.inr (Or.inl ⟨rfl, rfl, rfl⟩)))
def calX12_square : List Nat := []
theorem foX12_square {l : Launch} {ρ : Type} : fsOK l false mi calX12_square (fsX12_square ρ) := trivial
theorem frX12_square {ρ : Type} : ∀ fn ∈ fsX12_square ρ, RoF fn := (fun q9 h9 => by cases h9)
theorem ok_sdX12_square : sdb (mi 92).1.2.1 (insOK mi (mi 92).1.1.cls (mi 92).1.2.2.1 (mi 92).1.2.2.2.2.1 (mi 92).1.2.2.2.2.2.1 calX12_square false 2) sdX12_square = true := by decide +kernel
theorem sMX12_square {l : Launch} {h0 : Hp} {v : Int} (h8 : nOf h0 = 148)  (x0 : Int) (h : Hp) {r : Int} (H : MX12_square x0 = some r) (hG : gV v r) : PAt l false (mi 92).1 h0 v h 0 [(0, 1, x0)] [] h :=
  pat_ro ok_sdX12_square rfl rkX12_square h8 (foX12_square) (frX12_square) (fun v1 q => by
    cases q
    exact ⟨rfl, fun _ => hG⟩) (fun q9 h9 => by cases h9) ((eMX12_square x0 h).symm.trans H)
theorem sndX12_square {ρ : Type} {l : Launch} : SndF (ρ := ρ) l false (mi 92).1 (wX12_square) := by
    intro a h k r H ha ho hn hf
    have h8 := hf rfl
    obtain ⟨x0, rfl⟩ := len1 (show a.length = 1 from ha)
    replace H : bndp (MX12_square x0) (fun r => k r h) = some r := H
    obtain ⟨v2, H1, H2⟩ := bndp_some H
    exact ⟨v2, h, H2, met_mk (mok_base okX12_square).1 (by decide +kernel) (Nat.le_of_ble_eq_true rfl) ho (sMX12_square h8 x0 h H1 rfl), fun q => by cases q⟩
theorem roX12_square {ρ : Type} : RoF (wX12_square : FN ρ) := fun a h k k2 hk => by
  unfold wX12_square
  split
  · exact bndp_ro hk
  · rfl
/-! X12_root -/
def sdX12_root : SD := [(0, [(0, .lconst 0, 1, [], 0), (1, .lstore_n 2, 1, [], 0), (2, .ldc2_w 123, 3, [1, 1320], 3037000499), (5, .lstore 4, 2, [], 0)]),
  (7, [(7, .lload_n 2, 1, [], 0), (8, .lload 4, 2, [], 0), (10, .lcmp, 1, [], 0), (11, .ifCond .ge 40, 3, [], 0)]),
  (14, [(14, .lload_n 2, 1, [], 0), (15, .lload 4, 2, [], 0), (17, .ladd, 1, [], 0), (18, .lconst 1, 1, [], 0), (19, .ladd, 1, [], 0), (20, .ldc2_w 125, 3, [1, 1321], 2), (23, .ldiv, 1, [], 0), (24, .lstore 6, 2, [], 0), (26, .lload 6, 2, [], 0), (28, .lload 6, 2, [], 0), (30, .lmul, 1, [], 0), (31, .lload_n 0, 1, [], 0), (32, .lcmp, 1, [], 0), (33, .ifCond .gt 9, 3, [], 0)]),
  (36, [(36, .lload 6, 2, [], 0), (38, .lstore_n 2, 1, [], 0), (39, .goto 9, 3, [], 0)]),
  (42, [(42, .lload 6, 2, [], 0), (44, .lconst 1, 1, [], 0), (45, .lsub, 1, [], 0), (46, .lstore 4, 2, [], 0)]),
  (48, [(48, .goto (-41), 3, [], 0)]),
  (51, [(51, .lload_n 2, 1, [], 0), (52, .l2i, 1, [], 0), (53, .ireturn, 1, [], 0)])]
def BX12_root_7 (n : Nat) : Nat → Int → Int → Int → Option (Int)
  | 0, _, _, _ => none
  | f + 1, x0, x2, x4 =>
    (if 0 ≤ (lcp x2 x4) then
    (some (w32 x2))
    else
    (grd (¬ 2 = 0)
    (ltt (w64 (Int.tdiv (w64 ((w64 (x2 + x4)) + 1)) 2)) fun y1 =>
    (if 0 < (lcp (w64 (y1 * y1)) x0) then
    (ltt (w64 (y1 - 1)) fun y2 =>
    (BX12_root_7 n f x0 x2 y2))
    else
    (ltt y1 fun y3 =>
    (BX12_root_7 n f x0 y3 x4))))))
def LX12_root_7 (n : Nat) (x0 x2 x4 : Int) : Option (Int) :=
(BX12_root_7 n n x0 x2 x4)
def MX12_root (n : Nat) (x0 : Int) : Option (Int) :=
(ltt 0 fun y1 =>
(ltt 3037000499 fun y2 =>
(LX12_root_7 n x0 y1 y2)))
def wX12_root {ρ : Type} (n : Nat) : FN ρ := fun a h k => match a with
  | [x0] => bndp (MX12_root n x0) (fun r => k r h)
  | _ => none
def fsX12_root (n : Nat) (ρ : Type) : List (FN ρ) := []
def KBX12_root_7 (_ : Nat) (bk : Int → Int → Int → Option (Int)) : CT (Int) := [(7, [(0, 1, none), (2, 1, none), (4, 1, none)], [], fun a c _ => match a, c with
    | [x0, x2, x4], [] => bk x0 x2 x4
    | _, _ => none)]
set_option maxRecDepth 100000 in
theorem eBX12_root_7 (n f : Nat) (x0 : Int) (x2 : Int) (x4 : Int) (h : Hp) : BX12_root_7 n (f + 1) x0 x2 x4 =
  goAt false (kct (KBX12_root_7 n (BX12_root_7 n f))) (fun v _ => some (v)) (fsX12_root n _) sdX12_root 1000 7 [(0, 1, x0), (2, 1, x2), (4, 1, x4)] [] h := rfl
def KMX12_root (n : Nat) : CT (Int) := [(7, [(0, 1, none), (2, 1, none), (4, 1, none)], [], fun a c _ => match a, c with
    | [x0, x2, x4], [] => LX12_root_7 n x0 x2 x4
    | _, _ => none)]
set_option maxRecDepth 100000 in
theorem eMX12_root (n : Nat) (x0 : Int) (h : Hp) : MX12_root n x0 =
  goAt false (kct (KMX12_root n)) (fun v _ => some (v)) (fsX12_root n _) sdX12_root 1000 0 [(0, 1, x0)] [] h := rfl
theorem okX12_root : mokb (mi 93) = true := by decide +kernel
theorem rkX12_root : rkOK 1 (mi 93).1.2.2.2.2.2.2.1 (mi 93).1.2.2.2.1 := Or.inr (Or.inl ⟨rfl, rfl, rfl⟩)
def calX12_root : List Nat := []
theorem foX12_root {l : Launch} {ρ : Type} (n : Nat) : fsOK l false mi calX12_root (fsX12_root n ρ) := trivial
theorem frX12_root {ρ : Type} (n : Nat) : ∀ fn ∈ fsX12_root n ρ, RoF fn := (fun q9 h9 => by cases h9)
theorem ok_sdX12_root : sdb (mi 93).1.2.1 (insOK mi (mi 93).1.1.cls (mi 93).1.2.2.1 (mi 93).1.2.2.2.2.1 (mi 93).1.2.2.2.2.2.1 calX12_root false 1) sdX12_root = true := by decide +kernel
theorem sBX12_root_7 {l : Launch} {h0 : Hp} {v : Int} (h8 : nOf h0 = 148) (n : Nat) (h : Hp) : ∀ (f : Nat) (x0 : Int) (x2 : Int) (x4 : Int) {r : Int}, BX12_root_7 n f x0 x2 x4 = some r → gV v r → PAt l false (mi 93).1 h0 v h 7 [(0, 1, x0), (2, 1, x2), (4, 1, x4)] [] h := by
  intro f
  induction f with
  | zero =>
    intro x0 x2 x4 r H _
    have H2 : (none : Option (Int)) = some r := H
    cases H2
  | succ f ih =>
    intro x0 x2 x4 r H hG
    exact pat_ro ok_sdX12_root rfl rkX12_root h8 (foX12_root n) (frX12_root n) (fun v1 q => by
    cases q
    exact ⟨rfl, fun _ => hG⟩) (List.forall_mem_cons.mpr ⟨(fun a c H => by
      dsimp only at H
      split at H
      · exact ih _ _ _ H hG
      · cases H), (fun q9 h9 => by cases h9)⟩) ((eBX12_root_7 n f x0 x2 x4 h).symm.trans H)
theorem sLX12_root_7 {l : Launch} {h0 : Hp} {v : Int} (h8 : nOf h0 = 148) (n : Nat) (x0 : Int) (x2 : Int) (x4 : Int) (h : Hp) {r : Int} (H : LX12_root_7 n x0 x2 x4 = some r) (hG : gV v r) : PAt l false (mi 93).1 h0 v h 7 [(0, 1, x0), (2, 1, x2), (4, 1, x4)] [] h :=
  sBX12_root_7 h8 n h n x0 x2 x4 H hG
theorem sMX12_root {l : Launch} {h0 : Hp} {v : Int} (h8 : nOf h0 = 148) (n : Nat) (x0 : Int) (h : Hp) {r : Int} (H : MX12_root n x0 = some r) (hG : gV v r) : PAt l false (mi 93).1 h0 v h 0 [(0, 1, x0)] [] h :=
  pat_ro ok_sdX12_root rfl rkX12_root h8 (foX12_root n) (frX12_root n) (fun v1 q => by
    cases q
    exact ⟨rfl, fun _ => hG⟩) (List.forall_mem_cons.mpr ⟨(fun a c H => by
      dsimp only at H
      split at H
      · exact sLX12_root_7 h8 n _ _ _ _ H hG
      · cases H), (fun q9 h9 => by cases h9)⟩) ((eMX12_root n x0 h).symm.trans H)
theorem sndX12_root {ρ : Type} {l : Launch} (n : Nat) : SndF (ρ := ρ) l false (mi 93).1 (wX12_root n) := by
    intro a h k r H ha ho hn hf
    have h8 := hf rfl
    obtain ⟨x0, rfl⟩ := len1 (show a.length = 1 from ha)
    replace H : bndp (MX12_root n x0) (fun r => k r h) = some r := H
    obtain ⟨v2, H1, H2⟩ := bndp_some H
    exact ⟨v2, h, H2, met_mk (mok_base okX12_root).1 (by decide +kernel) (Nat.le_of_ble_eq_true rfl) ho (sMX12_root h8 n x0 h H1 rfl), fun q => by cases q⟩
theorem roX12_root {ρ : Type} (n : Nat) : RoF (wX12_root n : FN ρ) := fun a h k k2 hk => by
  unfold wX12_root
  split
  · exact bndp_ro hk
  · rfl
/-! X12_bulge -/
def sdX12_bulge : SD := [(0, [(0, .iload_n 1, 1, [], 0), (1, .aload_n 0, 1, [], 0), (2, .getfield 59, 3, [12, 28, 285, 1, 1350, 0], 16), (5, .iconst 0, 1, [], 0), (6, .laload, 1, [], 0), (7, .aload_n 0, 1, [], 0), (8, .getfield 59, 3, [12, 28, 285, 1, 1350, 0], 16), (11, .iconst 1, 1, [], 0), (12, .laload, 1, [], 0), (13, .ladd, 1, [], 0), (14, .invokestatic 150, 3, [2, 0, 3, 92, 1314, 1], 0), (17, .aload_n 0, 1, [], 0), (18, .getfield 62, 3, [12, 29, 285, 1, 1351, 0], 17), (21, .iconst 0, 1, [], 0), (22, .laload, 1, [], 0), (23, .aload_n 0, 1, [], 0), (24, .getfield 62, 3, [12, 29, 285, 1, 1351, 0], 17), (27, .iconst 1, 1, [], 0), (28, .laload, 1, [], 0), (29, .ladd, 1, [], 0), (30, .invokestatic 150, 3, [2, 0, 3, 92, 1314, 1], 0), (33, .ladd, 1, [], 0), (34, .invokestatic 154, 3, [1, 1, 3, 93, 1317, 1], 0), (37, .iconst 2, 1, [], 0), (38, .idiv, 1, [], 0), (39, .isub, 1, [], 0), (40, .ireturn, 1, [], 0)])]
def MX12_bulge (n : Nat) (x1 : Int) (h : Hp) : Option (Int) :=
(grd (0 ≤ 0 ∧ 0 < alen 285)
(grd (0 ≤ 1 ∧ 1 < alen 285)
(bndp (MX12_square (w64 ((h 129 0) + (h 129 1)))) fun r1 =>
(grd (0 ≤ 0 ∧ 0 < alen 285)
(grd (0 ≤ 1 ∧ 1 < alen 285)
(bndp (MX12_square (w64 ((h 130 0) + (h 130 1)))) fun r2 =>
(bndp (MX12_root n (w64 (r1 + r2))) fun r3 =>
(grd (¬ 2 = 0)
(some (w32 (x1 - (w32 (Int.tdiv r3 2)))))))))))))
def wX12_bulge {ρ : Type} (n : Nat) : FN ρ := fun a h k => match a with
  | [_, x1] => bndp (MX12_bulge n x1 h) (fun r => k r h)
  | _ => none
def fsX12_bulge (n : Nat) (ρ : Type) : List (FN ρ) := [wX12_square, wX12_root n]
def KMX12_bulge (_ : Nat) : CT (Int) := []
set_option maxRecDepth 100000 in
theorem eMX12_bulge (n : Nat) (x1 : Int) (h : Hp) : MX12_bulge n x1 h =
  goAt false (kct (KMX12_bulge n)) (fun v _ => some (v)) (fsX12_bulge n _) sdX12_bulge 1000 0 [(0, 16, 113), (1, 0, x1)] [] h := rfl
theorem okX12_bulge : mokb (mi 94) = true := by decide +kernel
theorem rkX12_bulge : rkOK 1 (mi 94).1.2.2.2.2.2.2.1 (mi 94).1.2.2.2.1 := Or.inr (Or.inl ⟨rfl, rfl, rfl⟩)
def calX12_bulge : List Nat := [92, 93]
theorem foX12_bulge {l : Launch} {ρ : Type} (n : Nat) : fsOK l false mi calX12_bulge (fsX12_bulge n ρ) := ⟨sndX12_square, ⟨(sndX12_root n), trivial⟩⟩
theorem frX12_bulge {ρ : Type} (n : Nat) : ∀ fn ∈ fsX12_bulge n ρ, RoF fn := (List.forall_mem_cons.mpr ⟨roX12_square, (List.forall_mem_cons.mpr ⟨(roX12_root n), (fun q9 h9 => by cases h9)⟩)⟩)
theorem ok_sdX12_bulge : sdb (mi 94).1.2.1 (insOK mi (mi 94).1.1.cls (mi 94).1.2.2.1 (mi 94).1.2.2.2.2.1 (mi 94).1.2.2.2.2.2.1 calX12_bulge false 1) sdX12_bulge = true := by decide +kernel
theorem sMX12_bulge {l : Launch} {h0 : Hp} {v : Int} (h8 : nOf h0 = 148) (n : Nat) (x1 : Int) (h : Hp) {r : Int} (H : MX12_bulge n x1 h = some r) (hG : gV v r) : PAt l false (mi 94).1 h0 v h 0 [(0, 16, 113), (1, 0, x1)] [] h :=
  pat_ro ok_sdX12_bulge rfl rkX12_bulge h8 (foX12_bulge n) (frX12_bulge n) (fun v1 q => by
    cases q
    exact ⟨rfl, fun _ => hG⟩) (fun q9 h9 => by cases h9) ((eMX12_bulge n x1 h).symm.trans H)
theorem sndX12_bulge {ρ : Type} {l : Launch} (n : Nat) : SndF (ρ := ρ) l false (mi 94).1 (wX12_bulge n) := by
    intro a h k r H ha ho hn hf
    have h8 := hf rfl
    obtain ⟨x0, x1, rfl⟩ := len2 (show a.length = 2 from ha)
    have u0 := uq16 hn (ho (16, x0) (List.mem_cons_self))
    subst u0
    replace H : bndp (MX12_bulge n x1 h) (fun r => k r h) = some r := H
    obtain ⟨v2, H1, H2⟩ := bndp_some H
    exact ⟨v2, h, H2, met_mk (mok_base okX12_bulge).1 (by decide +kernel) (Nat.le_of_ble_eq_true rfl) ho (sMX12_bulge h8 n x1 h H1 rfl), fun q => by cases q⟩
theorem roX12_bulge {ρ : Type} (n : Nat) : RoF (wX12_bulge n : FN ρ) := fun a h k k2 hk => by
  unfold wX12_bulge
  split
  · exact bndp_ro hk
  · rfl
/-! X12_halves -/
def sdX12_halves : SD := [(0, [(0, .aload_n 0, 1, [], 0), (1, .getfield 283, 3, [12, 30, 0, 0, 1352, 0], 0), (4, .istore_n 2, 1, [], 0)]),
  (5, [(5, .iload_n 2, 1, [], 0), (6, .ifCond .le 37, 3, [], 0)]),
  (9, [(9, .aload_n 0, 1, [], 0), (10, .getfield 59, 3, [12, 28, 285, 1, 1350, 0], 16), (13, .iconst 2, 1, [], 0), (14, .iload_n 2, 1, [], 0), (15, .imul, 1, [], 0), (16, .aload_n 0, 1, [], 0), (17, .getfield 59, 3, [12, 28, 285, 1, 1350, 0], 16), (20, .iload_n 2, 1, [], 0), (21, .laload, 1, [], 0), (22, .lastore, 1, [], 0), (23, .aload_n 0, 1, [], 0), (24, .getfield 62, 3, [12, 29, 285, 1, 1351, 0], 17), (27, .iconst 2, 1, [], 0), (28, .iload_n 2, 1, [], 0), (29, .imul, 1, [], 0), (30, .aload_n 0, 1, [], 0), (31, .getfield 62, 3, [12, 29, 285, 1, 1351, 0], 17), (34, .iload_n 2, 1, [], 0), (35, .laload, 1, [], 0), (36, .lastore, 1, [], 0), (37, .iinc 2 (-1), 3, [], 0), (40, .goto (-35), 3, [], 0)]),
  (43, [(43, .aload_n 0, 1, [], 0), (44, .dup, 1, [], 0), (45, .getfield 283, 3, [12, 30, 0, 0, 1352, 0], 0), (48, .iconst 2, 1, [], 0), (49, .imul, 1, [], 0), (50, .putfield 283, 3, [12, 30, 0, 0, 0, 1352], 0), (53, .iconst 1, 1, [], 0), (54, .istore_n 2, 1, [], 0)]),
  (55, [(55, .iload_n 2, 1, [], 0), (56, .aload_n 0, 1, [], 0), (57, .getfield 283, 3, [12, 30, 0, 0, 1352, 0], 0), (60, .if_icmp .ge 88, 3, [], 0)]),
  (63, [(63, .aload_n 0, 1, [], 0), (64, .getfield 59, 3, [12, 28, 285, 1, 1350, 0], 16), (67, .iload_n 2, 1, [], 0), (68, .iconst 1, 1, [], 0), (69, .isub, 1, [], 0), (70, .laload, 1, [], 0), (71, .aload_n 0, 1, [], 0), (72, .getfield 59, 3, [12, 28, 285, 1, 1350, 0], 16), (75, .iload_n 2, 1, [], 0), (76, .iconst 1, 1, [], 0), (77, .iadd, 1, [], 0), (78, .laload, 1, [], 0), (79, .ladd, 1, [], 0), (80, .lstore_n 3, 1, [], 0), (81, .aload_n 0, 1, [], 0), (82, .getfield 62, 3, [12, 29, 285, 1, 1351, 0], 17), (85, .iload_n 2, 1, [], 0), (86, .iconst 1, 1, [], 0), (87, .isub, 1, [], 0), (88, .laload, 1, [], 0), (89, .aload_n 0, 1, [], 0), (90, .getfield 62, 3, [12, 29, 285, 1, 1351, 0], 17), (93, .iload_n 2, 1, [], 0), (94, .iconst 1, 1, [], 0), (95, .iadd, 1, [], 0), (96, .laload, 1, [], 0), (97, .ladd, 1, [], 0), (98, .lstore 5, 2, [], 0), (100, .lload_n 3, 1, [], 0), (101, .lload_n 3, 1, [], 0), (102, .lmul, 1, [], 0), (103, .lload 5, 2, [], 0), (105, .lload 5, 2, [], 0), (107, .lmul, 1, [], 0), (108, .ladd, 1, [], 0), (109, .invokestatic 154, 3, [1, 0, 3, 93, 1317, 1], 0), (112, .i2l, 1, [], 0), (113, .lstore 7, 2, [], 0), (115, .aload_n 0, 1, [], 0), (116, .getfield 59, 3, [12, 28, 285, 1, 1350, 0], 16), (119, .iload_n 2, 1, [], 0), (120, .lload_n 3, 1, [], 0), (121, .iload_n 1, 1, [], 0), (122, .i2l, 1, [], 0), (123, .lmul, 1, [], 0), (124, .lload 7, 2, [], 0), (126, .ldiv, 1, [], 0), (127, .lastore, 1, [], 0), (128, .aload_n 0, 1, [], 0), (129, .getfield 62, 3, [12, 29, 285, 1, 1351, 0], 17), (132, .iload_n 2, 1, [], 0), (133, .lload 5, 2, [], 0), (135, .iload_n 1, 1, [], 0), (136, .i2l, 1, [], 0), (137, .lmul, 1, [], 0), (138, .lload 7, 2, [], 0), (140, .ldiv, 1, [], 0), (141, .lastore, 1, [], 0), (142, .iinc 2 2, 3, [], 0), (145, .goto (-90), 3, [], 0)]),
  (148, [(148, .return_, 1, [], 0)])]
def BX12_halves_5 (n : Nat) : Nat → Int → Int → Hp → Option (Int × Hp)
  | 0, _, _, _ => none
  | f + 1, x1, x2, h =>
    (if x2 ≤ 0 then
    (some (x1, h))
    else
    (grd (0 ≤ x2 ∧ x2 < alen 285)
    (grd (0 ≤ (w32 (2 * x2)) ∧ (w32 (2 * x2)) < alen 285)
    (ltt (up h 129 (w32 (2 * x2)) (h 129 x2)) fun h1 =>
    (grd (0 ≤ x2 ∧ x2 < alen 285)
    (grd (0 ≤ (w32 (2 * x2)) ∧ (w32 (2 * x2)) < alen 285)
    (ltt (up h1 130 (w32 (2 * x2)) (h1 130 x2)) fun h2 =>
    (ltt (w32 (x2 + (-1))) fun y1 =>
    (BX12_halves_5 n f x1 y1 h2)))))))))
def BX12_halves_55 (n : Nat) : Nat → Int → Int → Hp → Option (Hp)
  | 0, _, _, _ => none
  | f + 1, x1, x2, h =>
    (if (h 113 30) ≤ x2 then
    (some h)
    else
    (grd (0 ≤ (w32 (x2 - 1)) ∧ (w32 (x2 - 1)) < alen 285)
    (grd (0 ≤ (w32 (x2 + 1)) ∧ (w32 (x2 + 1)) < alen 285)
    (ltt (w64 ((h 129 (w32 (x2 - 1))) + (h 129 (w32 (x2 + 1))))) fun y1 =>
    (grd (0 ≤ (w32 (x2 - 1)) ∧ (w32 (x2 - 1)) < alen 285)
    (grd (0 ≤ (w32 (x2 + 1)) ∧ (w32 (x2 + 1)) < alen 285)
    (ltt (w64 ((h 130 (w32 (x2 - 1))) + (h 130 (w32 (x2 + 1))))) fun y2 =>
    (bndp (MX12_root n (w64 ((w64 (y1 * y1)) + (w64 (y2 * y2))))) fun r1 =>
    (ltt r1 fun y3 =>
    (grd (¬ y3 = 0)
    (grd (0 ≤ x2 ∧ x2 < alen 285)
    (ltt (up h 129 x2 (w64 (Int.tdiv (w64 (y1 * x1)) y3))) fun h1 =>
    (grd (¬ y3 = 0)
    (grd (0 ≤ x2 ∧ x2 < alen 285)
    (ltt (up h1 130 x2 (w64 (Int.tdiv (w64 (y2 * x1)) y3))) fun h2 =>
    (ltt (w32 (x2 + 2)) fun y4 =>
    (BX12_halves_55 n f x1 y4 h2)))))))))))))))))
def LX12_halves_55 (n : Nat) (x1 x2 : Int) (h : Hp) : Option (Hp) :=
(BX12_halves_55 n n x1 x2 h)
def JX12_halves_43 (n : Nat) (x1 : Int) (h : Hp) : Option (Hp) :=
(ltt (up h 113 30 (w32 ((h 113 30) * 2))) fun h1 =>
(ltt 1 fun y1 =>
(LX12_halves_55 n x1 y1 h1)))
def LX12_halves_5 (n : Nat) (x1 x2 : Int) (h : Hp) : Option (Hp) :=
(bndx (BX12_halves_5 n n x1 x2 h) fun (e1, h1) =>
(JX12_halves_43 n e1 h1))
def MX12_halves (n : Nat) (x1 : Int) (h : Hp) : Option (Hp) :=
(ltt (h 113 30) fun y1 =>
(LX12_halves_5 n x1 y1 h))
def wX12_halves {ρ : Type} (n : Nat) : FN ρ := fun a h k => match a with
  | [_, x1] => bndh (MX12_halves n x1 h) (fun h2 => k 0 h2)
  | _ => none
def fsX12_halves (n : Nat) (ρ : Type) : List (FN ρ) := [wX12_root n]
def KBX12_halves_5 (_ : Nat) (bk : Int → Int → Hp → Option (Int × Hp)) : CT (Int × Hp) := [(5, [(0, 16, (some 113)), (1, 0, none), (2, 0, none)], [], fun a c h => match a, c with
    | [x1, x2], [] => bk x1 x2 h
    | _, _ => none),
  (43, [(0, 16, (some 113)), (1, 0, none)], [], fun a c h => match a, c with
    | [x1], [] => some (x1, h)
    | _, _ => none)]
set_option maxRecDepth 100000 in
theorem eBX12_halves_5 (n f : Nat) (x1 : Int) (x2 : Int) (h : Hp) : BX12_halves_5 n (f + 1) x1 x2 h =
  goAt false (kct (KBX12_halves_5 n (BX12_halves_5 n f))) (fun _ _ => none) (fsX12_halves n _) sdX12_halves 1000 5 [(0, 16, 113), (1, 0, x1), (2, 0, x2)] [] h := rfl
def KBX12_halves_55 (_ : Nat) (bk : Int → Int → Hp → Option (Hp)) : CT (Hp) := [(55, [(0, 16, (some 113)), (1, 0, none), (2, 0, none)], [], fun a c h => match a, c with
    | [x1, x2], [] => bk x1 x2 h
    | _, _ => none)]
set_option maxRecDepth 100000 in
theorem eBX12_halves_55 (n f : Nat) (x1 : Int) (x2 : Int) (h : Hp) : BX12_halves_55 n (f + 1) x1 x2 h =
  goAt false (kct (KBX12_halves_55 n (BX12_halves_55 n f))) (fun _ h => some (h)) (fsX12_halves n _) sdX12_halves 1000 55 [(0, 16, 113), (1, 0, x1), (2, 0, x2)] [] h := rfl
def KJX12_halves_43 (n : Nat) : CT (Hp) := [(55, [(0, 16, (some 113)), (1, 0, none), (2, 0, none)], [], fun a c h => match a, c with
    | [x1, x2], [] => LX12_halves_55 n x1 x2 h
    | _, _ => none)]
set_option maxRecDepth 100000 in
theorem eJX12_halves_43 (n : Nat) (x1 : Int) (h : Hp) : JX12_halves_43 n x1 h =
  goAt false (kct (KJX12_halves_43 n)) (fun _ h => some (h)) (fsX12_halves n _) sdX12_halves 1000 43 [(0, 16, 113), (1, 0, x1)] [] h := rfl
def KMX12_halves (n : Nat) : CT (Hp) := [(5, [(0, 16, (some 113)), (1, 0, none), (2, 0, none)], [], fun a c h => match a, c with
    | [x1, x2], [] => LX12_halves_5 n x1 x2 h
    | _, _ => none)]
set_option maxRecDepth 100000 in
theorem eMX12_halves (n : Nat) (x1 : Int) (h : Hp) : MX12_halves n x1 h =
  goAt false (kct (KMX12_halves n)) (fun _ h => some (h)) (fsX12_halves n _) sdX12_halves 1000 0 [(0, 16, 113), (1, 0, x1)] [] h := rfl
theorem okX12_halves : mokb (mi 95) = true := by decide +kernel
theorem rkX12_halves : rkOK 0 (mi 95).1.2.2.2.2.2.2.1 (mi 95).1.2.2.2.1 := Or.inl ⟨rfl, rfl, rfl⟩
def calX12_halves : List Nat := [93]
theorem foX12_halves {l : Launch} {ρ : Type} (n : Nat) : fsOK l false mi calX12_halves (fsX12_halves n ρ) := ⟨(sndX12_root n), trivial⟩
theorem ok_sdX12_halves : sdb (mi 95).1.2.1 (insOK mi (mi 95).1.1.cls (mi 95).1.2.2.1 (mi 95).1.2.2.2.2.1 (mi 95).1.2.2.2.2.2.1 calX12_halves false 0) sdX12_halves = true := by decide +kernel
def GX12_halves_5 (l : Launch) (h0 : Hp) (h' : Hp) (v : Int) (_ : Hp) : (Int × Hp) → Prop
  | (e1, h1) => PAt l false (mi 95).1 h0 v h' 43 [(0, 16, 113), (1, 0, e1)] [] h1
theorem sBX12_halves_5 {l : Launch} {h0 h' : Hp} {v : Int} (h8 : nOf h0 = 148) (n : Nat) : ∀ (f : Nat) (x1 : Int) (x2 : Int) (h : Hp) {r : Int × Hp}, BX12_halves_5 n f x1 x2 h = some r → GX12_halves_5 l h0 h' v h r → PAt l false (mi 95).1 h0 v h' 5 [(0, 16, 113), (1, 0, x1), (2, 0, x2)] [] h := by
  intro f
  induction f with
  | zero =>
    intro x1 x2 h r H _
    have H2 : (none : Option (Int × Hp)) = some r := H
    cases H2
  | succ f ih =>
    intro x1 x2 h r H hG
    exact pat_w ok_sdX12_halves rkX12_halves h8 (foX12_halves n) (fun v1 h1 q => by cases q) (List.forall_mem_cons.mpr ⟨(fun a c h H => by
      dsimp only at H
      split at H
      · exact ih _ _ _ H hG
      · cases H), (List.forall_mem_cons.mpr ⟨(fun a c h H => by
      dsimp only at H
      split at H
      · cases H
        exact hG
      · cases H), (fun q9 h9 => by cases h9)⟩)⟩) ((eBX12_halves_5 n f x1 x2 h).symm.trans H)
theorem sBX12_halves_55 {l : Launch} {h0 h' : Hp} {v : Int} (h8 : nOf h0 = 148) (n : Nat) : ∀ (f : Nat) (x1 : Int) (x2 : Int) (h : Hp) {r : Hp}, BX12_halves_55 n f x1 x2 h = some r → gW h' r → PAt l false (mi 95).1 h0 v h' 55 [(0, 16, 113), (1, 0, x1), (2, 0, x2)] [] h := by
  intro f
  induction f with
  | zero =>
    intro x1 x2 h r H _
    have H2 : (none : Option (Hp)) = some r := H
    cases H2
  | succ f ih =>
    intro x1 x2 h r H hG
    exact pat_w ok_sdX12_halves rkX12_halves h8 (foX12_halves n) (fun v1 h1 q => by
    cases q
    exact ⟨hG, fun q9 => absurd rfl q9⟩) (List.forall_mem_cons.mpr ⟨(fun a c h H => by
      dsimp only at H
      split at H
      · exact ih _ _ _ H hG
      · cases H), (fun q9 h9 => by cases h9)⟩) ((eBX12_halves_55 n f x1 x2 h).symm.trans H)
theorem sLX12_halves_55 {l : Launch} {h0 h' : Hp} {v : Int} (h8 : nOf h0 = 148) (n : Nat) (x1 : Int) (x2 : Int) (h : Hp) {r : Hp} (H : LX12_halves_55 n x1 x2 h = some r) (hG : gW h' r) : PAt l false (mi 95).1 h0 v h' 55 [(0, 16, 113), (1, 0, x1), (2, 0, x2)] [] h :=
  sBX12_halves_55 h8 n n x1 x2 h H hG
theorem sJX12_halves_43 {l : Launch} {h0 h' : Hp} {v : Int} (h8 : nOf h0 = 148) (n : Nat) (x1 : Int) (h : Hp) {r : Hp} (H : JX12_halves_43 n x1 h = some r) (hG : gW h' r) : PAt l false (mi 95).1 h0 v h' 43 [(0, 16, 113), (1, 0, x1)] [] h :=
  pat_w ok_sdX12_halves rkX12_halves h8 (foX12_halves n) (fun v1 h1 q => by
    cases q
    exact ⟨hG, fun q9 => absurd rfl q9⟩) (List.forall_mem_cons.mpr ⟨(fun a c h H => by
      dsimp only at H
      split at H
      · exact sLX12_halves_55 h8 n _ _ _ H hG
      · cases H), (fun q9 h9 => by cases h9)⟩) ((eJX12_halves_43 n x1 h).symm.trans H)
theorem sLX12_halves_5 {l : Launch} {h0 h' : Hp} {v : Int} (h8 : nOf h0 = 148) (n : Nat) (x1 : Int) (x2 : Int) (h : Hp) {r : Hp} (H : LX12_halves_5 n x1 x2 h = some r) (hG : gW h' r) : PAt l false (mi 95).1 h0 v h' 5 [(0, 16, 113), (1, 0, x1), (2, 0, x2)] [] h := by
  obtain ⟨e9, h2, h3⟩ := bndx_some H
  obtain ⟨e1, h1⟩ := e9
  exact sBX12_halves_5 h8 n n x1 x2 h h2 (sJX12_halves_43 h8 n e1 h1 h3 hG)
theorem sMX12_halves {l : Launch} {h0 h' : Hp} {v : Int} (h8 : nOf h0 = 148) (n : Nat) (x1 : Int) (h : Hp) {r : Hp} (H : MX12_halves n x1 h = some r) (hG : gW h' r) : PAt l false (mi 95).1 h0 v h' 0 [(0, 16, 113), (1, 0, x1)] [] h :=
  pat_w ok_sdX12_halves rkX12_halves h8 (foX12_halves n) (fun v1 h1 q => by
    cases q
    exact ⟨hG, fun q9 => absurd rfl q9⟩) (List.forall_mem_cons.mpr ⟨(fun a c h H => by
      dsimp only at H
      split at H
      · exact sLX12_halves_5 h8 n _ _ _ H hG
      · cases H), (fun q9 h9 => by cases h9)⟩) ((eMX12_halves n x1 h).symm.trans H)
theorem sndX12_halves {ρ : Type} {l : Launch} (n : Nat) : SndF (ρ := ρ) l false (mi 95).1 (wX12_halves n) := by
    intro a h k r H ha ho hn hf
    have h8 := hf rfl
    obtain ⟨x0, x1, rfl⟩ := len2 (show a.length = 2 from ha)
    have u0 := uq16 hn (ho (16, x0) (List.mem_cons_self))
    subst u0
    replace H : bndh (MX12_halves n x1 h) (fun h2 => k 0 h2) = some r := H
    obtain ⟨h2, H1, H2⟩ := bndh_some H
    exact ⟨0, h2, H2, met_mk (mok_base okX12_halves).1 (by decide +kernel) (Nat.le_of_ble_eq_true rfl) ho (sMX12_halves h8 n x1 h H1 rfl), fun q => by cases q⟩
