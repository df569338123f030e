/-! X12_isSteady -/
def sdX12_isSteady : SD := [(0, [(0, .iload_n 0, 1, [], 0), (1, .ifCond .lt 22, 3, [], 0)]),
  (4, [(4, .iload_n 1, 1, [], 0), (5, .ifCond .ge 14, 3, [], 0)]),
  (8, [(8, .iconst 2, 1, [], 0), (9, .iload_n 0, 1, [], 0), (10, .imul, 1, [], 0), (11, .iload_n 1, 1, [], 0), (12, .iload_n 1, 1, [], 0), (13, .iconst 1, 1, [], 0), (14, .iadd, 1, [], 0), (15, .imul, 1, [], 0), (16, .if_icmp .lt 7, 3, [], 0)]),
  (19, [(19, .iconst 1, 1, [], 0), (20, .goto 4, 3, [], 0)]),
  (23, [(23, .iconst 0, 1, [], 0)]),
  (24, [(24, .ireturn, 1, [1], 0)])]
def MX12_isSteady (x0 x1 : Int) : Option (Int) :=
(if x0 < 0 then
(some 0)
else
(if 0 ≤ x1 then
(some 1)
else
(if (w32 (2 * x0)) < (w32 (x1 * (w32 (x1 + 1)))) then
(some 0)
else
(some 1))))
def wX12_isSteady {ρ : Type} : FN ρ := fun a h k => match a with
  | [x0, x1] => bndp (MX12_isSteady x0 x1) (fun r => k r h)
  | _ => none
def fsX12_isSteady (ρ : Type) : List (FN ρ) := []
def KMX12_isSteady  : CT (Int) := []
set_option maxRecDepth 100000 in
theorem eMX12_isSteady (x0 : Int) (x1 : Int) (h : Hp) : MX12_isSteady x0 x1 =
  goAt false (kct (KMX12_isSteady)) (fun v _ => some (v)) (fsX12_isSteady _) sdX12_isSteady 1000 0 [(0, 0, x0), (1, 0, x1)] [] h := rfl
theorem okX12_isSteady : mokb (mi 144) = true := by decide +kernel
theorem rkX12_isSteady : rkOK 4 (mi 144).1.2.2.2.2.2.2.1 (mi 144).1.2.2.2.1 := Or.inr (Or.inr (Or.inl ⟨rfl, rfl, rfl⟩))
def calX12_isSteady : List Nat := []
theorem foX12_isSteady {l : Launch} {ρ : Type} : fsOK l false mi calX12_isSteady (fsX12_isSteady ρ) := trivial
theorem frX12_isSteady {ρ : Type} : ∀ fn ∈ fsX12_isSteady ρ, RoF fn := (fun q9 h9 => by cases h9)
theorem ok_sdX12_isSteady : sdb (mi 144).1.2.1 (insOK mi (mi 144).1.1.cls (mi 144).1.2.2.1 (mi 144).1.2.2.2.2.1 (mi 144).1.2.2.2.2.2.1 calX12_isSteady false 4) sdX12_isSteady = true := by decide +kernel
theorem sMX12_isSteady {l : Launch} {h0 : Hp} {v : Int} (h8 : nOf h0 = 148)  (x0 : Int) (x1 : Int) (h : Hp) {r : Int} (H : MX12_isSteady x0 x1 = some r) (hG : gV v r) : PAt l false (mi 144).1 h0 v h 0 [(0, 0, x0), (1, 0, x1)] [] h :=
  pat_ro ok_sdX12_isSteady rfl rkX12_isSteady h8 (foX12_isSteady) (frX12_isSteady) (fun v1 q => by
    cases q
    exact ⟨rfl, fun _ => hG⟩) (fun q9 h9 => by cases h9) ((eMX12_isSteady x0 x1 h).symm.trans H)
theorem sndX12_isSteady {ρ : Type} {l : Launch} : SndF (ρ := ρ) l false (mi 144).1 (wX12_isSteady) := by
    intro a h k r H ha ho hn hf
    have h8 := hf rfl
    obtain ⟨x0, x1, rfl⟩ := len2 (show a.length = 2 from ha)
    replace H : bndp (MX12_isSteady x0 x1) (fun r => k r h) = some r := H
    obtain ⟨v2, H1, H2⟩ := bndp_some H
    exact ⟨v2, h, H2, met_mk (mok_base okX12_isSteady).1 (by decide +kernel) (Nat.le_of_ble_eq_true rfl) ho (sMX12_isSteady h8 x0 x1 h H1 rfl), fun q => by cases q⟩
theorem roX12_isSteady {ρ : Type} : RoF (wX12_isSteady : FN ρ) := fun a h k k2 hk => by
  unfold wX12_isSteady
  split
  · exact bndp_ro hk
  · rfl
/-! X12_brakeOf -/
def sdX12_brakeOf : SD := [(0, [(0, .iconst (-1), 1, [], 0), (1, .istore_n 3, 1, [], 0)]),
  (2, [(2, .iload_n 3, 1, [], 0), (3, .iconst 1, 1, [], 0), (4, .if_icmp .ge 36, 3, [], 0)]),
  (7, [(7, .iload_n 2, 1, [], 0), (8, .iload_n 3, 1, [], 0), (9, .iadd, 1, [], 0), (10, .aload_n 0, 1, [], 0), (11, .getfield 369, 3, [12, 41, 0, 0, 1363, 0], 0), (14, .ineg, 1, [], 0), (15, .if_icmp .lt 19, 3, [], 0)]),
  (18, [(18, .iload_n 1, 1, [], 0), (19, .iload_n 2, 1, [], 0), (20, .iadd, 1, [], 0), (21, .iload_n 3, 1, [], 0), (22, .iadd, 1, [], 0), (23, .iload_n 2, 1, [], 0), (24, .iload_n 3, 1, [], 0), (25, .iadd, 1, [], 0), (26, .invokestatic 389, 3, [1, 0, 3, 144, 1742, 0, 0], 0), (29, .ifCond .eq 5, 3, [], 0)]),
  (32, [(32, .iload_n 3, 1, [], 0), (33, .ireturn, 1, [], 0)]),
  (34, [(34, .iinc 3 1, 3, [], 0), (37, .goto (-35), 3, [], 0)]),
  (40, [(40, .iconst 1, 1, [], 0), (41, .ireturn, 1, [], 0)])]
def BX12_brakeOf_2 (n : Nat) : Nat → Int → Int → Int → Hp → Option (Int)
  | 0, _, _, _, _ => none
  | f + 1, x1, x2, x3, h =>
    (if 1 ≤ x3 then
    (some 1)
    else
    (if (w32 (x2 + x3)) < (w32 (-(h 113 41))) then
    (ltt (w32 (x3 + 1)) fun y1 =>
    (BX12_brakeOf_2 n f x1 x2 y1 h))
    else
    (bndp (MX12_isSteady (w32 ((w32 (x1 + x2)) + x3)) (w32 (x2 + x3))) fun r1 =>
    (if r1 = 0 then
    (ltt (w32 (x3 + 1)) fun y2 =>
    (BX12_brakeOf_2 n f x1 x2 y2 h))
    else
    (some x3)))))
def LX12_brakeOf_2 (n : Nat) (x1 x2 x3 : Int) (h : Hp) : Option (Int) :=
(BX12_brakeOf_2 n n x1 x2 x3 h)
def MX12_brakeOf (n : Nat) (x1 x2 : Int) (h : Hp) : Option (Int) :=
(ltt (-1) fun y1 =>
(LX12_brakeOf_2 n x1 x2 y1 h))
def wX12_brakeOf {ρ : Type} (n : Nat) : FN ρ := fun a h k => match a with
  | [_, x1, x2] => bndp (MX12_brakeOf n x1 x2 h) (fun r => k r h)
  | _ => none
def fsX12_brakeOf (n : Nat) (ρ : Type) : List (FN ρ) := [wX12_isSteady]
def KBX12_brakeOf_2 (_ : Nat) (bk : Int → Int → Int → Hp → Option (Int)) : CT (Int) := [(2, [(0, 16, (some 113)), (1, 0, none), (2, 0, none), (3, 0, none)], [], fun a c h => match a, c with
    | [x1, x2, x3], [] => bk x1 x2 x3 h
    | _, _ => none)]
set_option maxRecDepth 100000 in
theorem eBX12_brakeOf_2 (n f : Nat) (x1 : Int) (x2 : Int) (x3 : Int) (h : Hp) : BX12_brakeOf_2 n (f + 1) x1 x2 x3 h =
  goAt false (kct (KBX12_brakeOf_2 n (BX12_brakeOf_2 n f))) (fun v _ => some (v)) (fsX12_brakeOf n _) sdX12_brakeOf 1000 2 [(0, 16, 113), (1, 0, x1), (2, 0, x2), (3, 0, x3)] [] h := rfl
def KMX12_brakeOf (n : Nat) : CT (Int) := [(2, [(0, 16, (some 113)), (1, 0, none), (2, 0, none), (3, 0, none)], [], fun a c h => match a, c with
    | [x1, x2, x3], [] => LX12_brakeOf_2 n x1 x2 x3 h
    | _, _ => none)]
set_option maxRecDepth 100000 in
theorem eMX12_brakeOf (n : Nat) (x1 : Int) (x2 : Int) (h : Hp) : MX12_brakeOf n x1 x2 h =
  goAt false (kct (KMX12_brakeOf n)) (fun v _ => some (v)) (fsX12_brakeOf n _) sdX12_brakeOf 1000 0 [(0, 16, 113), (1, 0, x1), (2, 0, x2)] [] h := rfl
theorem okX12_brakeOf : mokb (mi 145) = true := by decide +kernel
theorem rkX12_brakeOf : rkOK 1 (mi 145).1.2.2.2.2.2.2.1 (mi 145).1.2.2.2.1 := Or.inr (Or.inl ⟨rfl, rfl, rfl⟩)
def calX12_brakeOf : List Nat := [144]
theorem foX12_brakeOf {l : Launch} {ρ : Type} (n : Nat) : fsOK l false mi calX12_brakeOf (fsX12_brakeOf n ρ) := ⟨sndX12_isSteady, trivial⟩
theorem frX12_brakeOf {ρ : Type} (n : Nat) : ∀ fn ∈ fsX12_brakeOf n ρ, RoF fn := (List.forall_mem_cons.mpr ⟨roX12_isSteady, (fun q9 h9 => by cases h9)⟩)
theorem ok_sdX12_brakeOf : sdb (mi 145).1.2.1 (insOK mi (mi 145).1.1.cls (mi 145).1.2.2.1 (mi 145).1.2.2.2.2.1 (mi 145).1.2.2.2.2.2.1 calX12_brakeOf false 1) sdX12_brakeOf = true := by decide +kernel
theorem sBX12_brakeOf_2 {l : Launch} {h0 : Hp} {v : Int} (h8 : nOf h0 = 148) (n : Nat) (h : Hp) : ∀ (f : Nat) (x1 : Int) (x2 : Int) (x3 : Int) {r : Int}, BX12_brakeOf_2 n f x1 x2 x3 h = some r → gV v r → PAt l false (mi 145).1 h0 v h 2 [(0, 16, 113), (1, 0, x1), (2, 0, x2), (3, 0, x3)] [] h := by
  intro f
  induction f with
  | zero =>
    intro x1 x2 x3 r H _
    have H2 : (none : Option (Int)) = some r := H
    cases H2
  | succ f ih =>
    intro x1 x2 x3 r H hG
    exact pat_ro ok_sdX12_brakeOf rfl rkX12_brakeOf h8 (foX12_brakeOf n) (frX12_brakeOf n) (fun v1 q => by
    cases q
    exact ⟨rfl, fun _ => hG⟩) (List.forall_mem_cons.mpr ⟨(fun a c H => by
      dsimp only at H
      split at H
      · exact ih _ _ _ H hG
      · cases H), (fun q9 h9 => by cases h9)⟩) ((eBX12_brakeOf_2 n f x1 x2 x3 h).symm.trans H)
theorem sLX12_brakeOf_2 {l : Launch} {h0 : Hp} {v : Int} (h8 : nOf h0 = 148) (n : Nat) (x1 : Int) (x2 : Int) (x3 : Int) (h : Hp) {r : Int} (H : LX12_brakeOf_2 n x1 x2 x3 h = some r) (hG : gV v r) : PAt l false (mi 145).1 h0 v h 2 [(0, 16, 113), (1, 0, x1), (2, 0, x2), (3, 0, x3)] [] h :=
  sBX12_brakeOf_2 h8 n h n x1 x2 x3 H hG
theorem sMX12_brakeOf {l : Launch} {h0 : Hp} {v : Int} (h8 : nOf h0 = 148) (n : Nat) (x1 : Int) (x2 : Int) (h : Hp) {r : Int} (H : MX12_brakeOf n x1 x2 h = some r) (hG : gV v r) : PAt l false (mi 145).1 h0 v h 0 [(0, 16, 113), (1, 0, x1), (2, 0, x2)] [] h :=
  pat_ro ok_sdX12_brakeOf rfl rkX12_brakeOf h8 (foX12_brakeOf n) (frX12_brakeOf n) (fun v1 q => by
    cases q
    exact ⟨rfl, fun _ => hG⟩) (List.forall_mem_cons.mpr ⟨(fun a c H => by
      dsimp only at H
      split at H
      · exact sLX12_brakeOf_2 h8 n _ _ _ _ H hG
      · cases H), (fun q9 h9 => by cases h9)⟩) ((eMX12_brakeOf n x1 x2 h).symm.trans H)
theorem sndX12_brakeOf {ρ : Type} {l : Launch} (n : Nat) : SndF (ρ := ρ) l false (mi 145).1 (wX12_brakeOf n) := by
    intro a h k r H ha ho hn hf
    have h8 := hf rfl
    obtain ⟨x0, x1, x2, rfl⟩ := len3 (show a.length = 3 from ha)
    have u0 := uq16 hn (ho (16, x0) (List.mem_cons_self))
    subst u0
    replace H : bndp (MX12_brakeOf n x1 x2 h) (fun r => k r h) = some r := H
    obtain ⟨v2, H1, H2⟩ := bndp_some H
    exact ⟨v2, h, H2, met_mk (mok_base okX12_brakeOf).1 (by decide +kernel) (Nat.le_of_ble_eq_true rfl) ho (sMX12_brakeOf h8 n x1 x2 h H1 rfl), fun q => by cases q⟩
theorem roX12_brakeOf {ρ : Type} (n : Nat) : RoF (wX12_brakeOf n : FN ρ) := fun a h k k2 hk => by
  unfold wX12_brakeOf
  split
  · exact bndp_ro hk
  · rfl
/-! X12_goesBy -/
def sdX12_goesBy : SD := [(0, [(0, .aload_n 0, 1, [], 0), (1, .iload_n 1, 1, [], 0), (2, .putfield 421, 3, [12, 51, 0, 0, 0, 1373], 0), (5, .aload_n 0, 1, [], 0), (6, .dup, 1, [], 0), (7, .getfield 412, 3, [12, 50, 0, 0, 1372, 0], 0), (10, .iload_n 1, 1, [], 0), (11, .iadd, 1, [], 0), (12, .putfield 412, 3, [12, 50, 0, 0, 0, 1372], 0), (15, .aload_n 0, 1, [], 0), (16, .dup, 1, [], 0), (17, .getfield 409, 3, [12, 49, 0, 0, 1371, 0], 0), (20, .aload_n 0, 1, [], 0), (21, .getfield 412, 3, [12, 50, 0, 0, 1372, 0], 0), (24, .iadd, 1, [], 0), (25, .putfield 409, 3, [12, 49, 0, 0, 0, 1371], 0), (28, .aload_n 0, 1, [], 0), (29, .dup, 1, [], 0), (30, .getfield 406, 3, [12, 48, 0, 0, 1370, 0], 0), (33, .aload_n 0, 1, [], 0), (34, .getfield 409, 3, [12, 49, 0, 0, 1371, 0], 0), (37, .aload_n 0, 1, [], 0), (38, .getfield 366, 3, [12, 40, 0, 0, 1362, 0], 0), (41, .imul, 1, [], 0), (42, .iadd, 1, [], 0), (43, .putfield 406, 3, [12, 48, 0, 0, 0, 1370], 0), (46, .return_, 1, [], 0)])]
def MX12_goesBy (x1 : Int) (h : Hp) : Option (Hp) :=
(ltt (up h 113 51 x1) fun h1 =>
(ltt (up h1 113 50 (w32 ((h1 113 50) + x1))) fun h2 =>
(ltt (up h2 113 49 (w32 ((h2 113 49) + (h2 113 50)))) fun h3 =>
(ltt (up h3 113 48 (w32 ((h3 113 48) + (w32 ((h3 113 49) * (h3 113 40)))))) fun h4 =>
(some h4)))))
def wX12_goesBy {ρ : Type} : FN ρ := fun a h k => match a with
  | [_, x1] => bndh (MX12_goesBy x1 h) (fun h2 => k 0 h2)
  | _ => none
def fsX12_goesBy (ρ : Type) : List (FN ρ) := []
def KMX12_goesBy  : CT (Hp) := []
set_option maxRecDepth 100000 in
theorem eMX12_goesBy (x1 : Int) (h : Hp) : MX12_goesBy x1 h =
  goAt false (kct (KMX12_goesBy)) (fun _ h => some (h)) (fsX12_goesBy _) sdX12_goesBy 1000 0 [(0, 16, 113), (1, 0, x1)] [] h := rfl
theorem okX12_goesBy : mokb (mi 146) = true := by decide +kernel
theorem rkX12_goesBy : rkOK 0 (mi 146).1.2.2.2.2.2.2.1 (mi 146).1.2.2.2.1 := Or.inl ⟨rfl, rfl, rfl⟩
def calX12_goesBy : List Nat := []
theorem foX12_goesBy {l : Launch} {ρ : Type} : fsOK l false mi calX12_goesBy (fsX12_goesBy ρ) := trivial
theorem ok_sdX12_goesBy : sdb (mi 146).1.2.1 (insOK mi (mi 146).1.1.cls (mi 146).1.2.2.1 (mi 146).1.2.2.2.2.1 (mi 146).1.2.2.2.2.2.1 calX12_goesBy false 0) sdX12_goesBy = true := by decide +kernel
theorem sMX12_goesBy {l : Launch} {h0 h' : Hp} {v : Int} (h8 : nOf h0 = 148)  (x1 : Int) (h : Hp) {r : Hp} (H : MX12_goesBy x1 h = some r) (hG : gW h' r) : PAt l false (mi 146).1 h0 v h' 0 [(0, 16, 113), (1, 0, x1)] [] h :=
  pat_w ok_sdX12_goesBy rkX12_goesBy h8 (foX12_goesBy) (fun v1 h1 q => by
    cases q
    exact ⟨hG, fun q9 => absurd rfl q9⟩) (fun q9 h9 => by cases h9) ((eMX12_goesBy x1 h).symm.trans H)
theorem sndX12_goesBy {ρ : Type} {l : Launch} : SndF (ρ := ρ) l false (mi 146).1 (wX12_goesBy) := by
    intro a h k r H ha ho hn hf
    have h8 := hf rfl
    obtain ⟨x0, x1, rfl⟩ := len2 (show a.length = 2 from ha)
    have u0 := uq16 hn (ho (16, x0) (List.mem_cons_self))
    subst u0
    replace H : bndh (MX12_goesBy x1 h) (fun h2 => k 0 h2) = some r := H
    obtain ⟨h2, H1, H2⟩ := bndh_some H
    exact ⟨0, h2, H2, met_mk (mok_base okX12_goesBy).1 (by decide +kernel) (Nat.le_of_ble_eq_true rfl) ho (sMX12_goesBy h8 x1 h H1 rfl), fun q => by cases q⟩
/-! X12_slows -/
def sdX12_slows : SD := [(0, [(0, .aload_n 0, 1, [], 0), (1, .aload_n 0, 1, [], 0), (2, .aload_n 0, 1, [], 0), (3, .getfield 409, 3, [12, 49, 0, 0, 1371, 0], 0), (6, .aload_n 0, 1, [], 0), (7, .getfield 412, 3, [12, 50, 0, 0, 1372, 0], 0), (10, .invokevirtual 399, 3, [1, 0, 1, 145, 1738, 0, 0, 16], 0), (13, .invokevirtual 427, 3, [0, 1, 1, 146, 1745, 0, 16], 0), (16, .return_, 1, [], 0)])]
def MX12_slows (n : Nat) (h : Hp) : Option (Hp) :=
(bndp (MX12_brakeOf n (h 113 49) (h 113 50) h) fun r1 =>
(bndh (MX12_goesBy r1 h) fun h1 =>
(some h1)))
def wX12_slows {ρ : Type} (n : Nat) : FN ρ := fun a h k => match a with
  | [_] => bndh (MX12_slows n h) (fun h2 => k 0 h2)
  | _ => none
def fsX12_slows (n : Nat) (ρ : Type) : List (FN ρ) := [wX12_brakeOf n, wX12_goesBy]
def KMX12_slows (_ : Nat) : CT (Hp) := []
set_option maxRecDepth 100000 in
theorem eMX12_slows (n : Nat) (h : Hp) : MX12_slows n h =
  goAt false (kct (KMX12_slows n)) (fun _ h => some (h)) (fsX12_slows n _) sdX12_slows 1000 0 [(0, 16, 113)] [] h := rfl
theorem okX12_slows : mokb (mi 147) = true := by decide +kernel
theorem rkX12_slows : rkOK 0 (mi 147).1.2.2.2.2.2.2.1 (mi 147).1.2.2.2.1 := Or.inl ⟨rfl, rfl, rfl⟩
def calX12_slows : List Nat := [145, 146]
theorem foX12_slows {l : Launch} {ρ : Type} (n : Nat) : fsOK l false mi calX12_slows (fsX12_slows n ρ) := ⟨(sndX12_brakeOf n), ⟨sndX12_goesBy, trivial⟩⟩
theorem ok_sdX12_slows : sdb (mi 147).1.2.1 (insOK mi (mi 147).1.1.cls (mi 147).1.2.2.1 (mi 147).1.2.2.2.2.1 (mi 147).1.2.2.2.2.2.1 calX12_slows false 0) sdX12_slows = true := by decide +kernel
theorem sMX12_slows {l : Launch} {h0 h' : Hp} {v : Int} (h8 : nOf h0 = 148) (n : Nat)  (h : Hp) {r : Hp} (H : MX12_slows n h = some r) (hG : gW h' r) : PAt l false (mi 147).1 h0 v h' 0 [(0, 16, 113)] [] h :=
  pat_w ok_sdX12_slows rkX12_slows h8 (foX12_slows n) (fun v1 h1 q => by
    cases q
    exact ⟨hG, fun q9 => absurd rfl q9⟩) (fun q9 h9 => by cases h9) ((eMX12_slows n h).symm.trans H)
theorem sndX12_slows {ρ : Type} {l : Launch} (n : Nat) : SndF (ρ := ρ) l false (mi 147).1 (wX12_slows n) := by
    intro a h k r H ha ho hn hf
    have h8 := hf rfl
    obtain ⟨x0, rfl⟩ := len1 (show a.length = 1 from ha)
    have u0 := uq16 hn (ho (16, x0) (List.mem_cons_self))
    subst u0
    replace H : bndh (MX12_slows n h) (fun h2 => k 0 h2) = some r := H
    obtain ⟨h2, H1, H2⟩ := bndh_some H
    exact ⟨0, h2, H2, met_mk (mok_base okX12_slows).1 (by decide +kernel) (Nat.le_of_ble_eq_true rfl) ho (sMX12_slows h8 n  h H1 rfl), fun q => by cases q⟩
/-! X12_blockAt -/
def sdX12_blockAt : SD := [(0, [(0, .iconst 0, 1, [], 0), (1, .istore_n 2, 1, [], 0)]),
  (2, [(2, .iload_n 2, 1, [], 0), (3, .aload_n 0, 1, [], 0), (4, .getfield 140, 3, [12, 6, 0, 0, 1328, 0], 0), (7, .if_icmp .ge 23, 3, [], 0)]),
  (10, [(10, .aload_n 0, 1, [], 0), (11, .getfield 49, 3, [12, 18, 540, 1, 1340, 0], 13), (14, .iload_n 2, 1, [], 0), (15, .iconst 1, 1, [], 0), (16, .iadd, 1, [], 0), (17, .iaload, 1, [], 0), (18, .iload_n 1, 1, [], 0), (19, .if_icmp .le 5, 3, [], 0)]),
  (22, [(22, .iload_n 2, 1, [], 0), (23, .ireturn, 1, [], 0)]),
  (24, [(24, .iinc 2 1, 3, [], 0), (27, .goto (-25), 3, [], 0)]),
  (30, [(30, .aload_n 0, 1, [], 0), (31, .getfield 140, 3, [12, 6, 0, 0, 1328, 0], 0), (34, .iconst 1, 1, [], 0), (35, .isub, 1, [], 0), (36, .ireturn, 1, [], 0)])]
def BX12_blockAt_2 (n : Nat) : Nat → Int → Int → Hp → Option (Int)
  | 0, _, _, _ => none
  | f + 1, x1, x2, h =>
    (if (h 113 6) ≤ x2 then
    (some (w32 ((h 113 6) - 1)))
    else
    (grd (0 ≤ (w32 (x2 + 1)) ∧ (w32 (x2 + 1)) < alen 540)
    (if (h 126 (w32 (x2 + 1))) ≤ x1 then
    (ltt (w32 (x2 + 1)) fun y1 =>
    (BX12_blockAt_2 n f x1 y1 h))
    else
    (some x2))))
def LX12_blockAt_2 (n : Nat) (x1 x2 : Int) (h : Hp) : Option (Int) :=
(BX12_blockAt_2 n n x1 x2 h)
def MX12_blockAt (n : Nat) (x1 : Int) (h : Hp) : Option (Int) :=
(ltt 0 fun y1 =>
(LX12_blockAt_2 n x1 y1 h))
def wX12_blockAt {ρ : Type} (n : Nat) : FN ρ := fun a h k => match a with
  | [_, x1] => bndp (MX12_blockAt n x1 h) (fun r => k r h)
  | _ => none
def fsX12_blockAt (n : Nat) (ρ : Type) : List (FN ρ) := []
def KBX12_blockAt_2 (_ : Nat) (bk : Int → Int → Hp → Option (Int)) : CT (Int) := [(2, [(0, 16, (some 113)), (1, 0, none), (2, 0, none)], [], fun a c h => match a, c with
    | [x1, x2], [] => bk x1 x2 h
    | _, _ => none)]
set_option maxRecDepth 100000 in
theorem eBX12_blockAt_2 (n f : Nat) (x1 : Int) (x2 : Int) (h : Hp) : BX12_blockAt_2 n (f + 1) x1 x2 h =
  goAt false (kct (KBX12_blockAt_2 n (BX12_blockAt_2 n f))) (fun v _ => some (v)) (fsX12_blockAt n _) sdX12_blockAt 1000 2 [(0, 16, 113), (1, 0, x1), (2, 0, x2)] [] h := rfl
def KMX12_blockAt (n : Nat) : CT (Int) := [(2, [(0, 16, (some 113)), (1, 0, none), (2, 0, none)], [], fun a c h => match a, c with
    | [x1, x2], [] => LX12_blockAt_2 n x1 x2 h
    | _, _ => none)]
set_option maxRecDepth 100000 in
theorem eMX12_blockAt (n : Nat) (x1 : Int) (h : Hp) : MX12_blockAt n x1 h =
  goAt false (kct (KMX12_blockAt n)) (fun v _ => some (v)) (fsX12_blockAt n _) sdX12_blockAt 1000 0 [(0, 16, 113), (1, 0, x1)] [] h := rfl
theorem okX12_blockAt : mokb (mi 148) = true := by decide +kernel
theorem rkX12_blockAt : rkOK 1 (mi 148).1.2.2.2.2.2.2.1 (mi 148).1.2.2.2.1 := Or.inr (Or.inl ⟨rfl, rfl, rfl⟩)
def calX12_blockAt : List Nat := []
theorem foX12_blockAt {l : Launch} {ρ : Type} (n : Nat) : fsOK l false mi calX12_blockAt (fsX12_blockAt n ρ) := trivial
theorem frX12_blockAt {ρ : Type} (n : Nat) : ∀ fn ∈ fsX12_blockAt n ρ, RoF fn := (fun q9 h9 => by cases h9)
theorem ok_sdX12_blockAt : sdb (mi 148).1.2.1 (insOK mi (mi 148).1.1.cls (mi 148).1.2.2.1 (mi 148).1.2.2.2.2.1 (mi 148).1.2.2.2.2.2.1 calX12_blockAt false 1) sdX12_blockAt = true := by decide +kernel
theorem sBX12_blockAt_2 {l : Launch} {h0 : Hp} {v : Int} (h8 : nOf h0 = 148) (n : Nat) (h : Hp) : ∀ (f : Nat) (x1 : Int) (x2 : Int) {r : Int}, BX12_blockAt_2 n f x1 x2 h = some r → gV v r → PAt l false (mi 148).1 h0 v h 2 [(0, 16, 113), (1, 0, x1), (2, 0, x2)] [] h := by
  intro f
  induction f with
  | zero =>
    intro x1 x2 r H _
    have H2 : (none : Option (Int)) = some r := H
    cases H2
  | succ f ih =>
    intro x1 x2 r H hG
    exact pat_ro ok_sdX12_blockAt rfl rkX12_blockAt h8 (foX12_blockAt n) (frX12_blockAt n) (fun v1 q => by
    cases q
    exact ⟨rfl, fun _ => hG⟩) (List.forall_mem_cons.mpr ⟨(fun a c H => by
      dsimp only at H
      split at H
      · exact ih _ _ H hG
      · cases H), (fun q9 h9 => by cases h9)⟩) ((eBX12_blockAt_2 n f x1 x2 h).symm.trans H)
theorem sLX12_blockAt_2 {l : Launch} {h0 : Hp} {v : Int} (h8 : nOf h0 = 148) (n : Nat) (x1 : Int) (x2 : Int) (h : Hp) {r : Int} (H : LX12_blockAt_2 n x1 x2 h = some r) (hG : gV v r) : PAt l false (mi 148).1 h0 v h 2 [(0, 16, 113), (1, 0, x1), (2, 0, x2)] [] h :=
  sBX12_blockAt_2 h8 n h n x1 x2 H hG
theorem sMX12_blockAt {l : Launch} {h0 : Hp} {v : Int} (h8 : nOf h0 = 148) (n : Nat) (x1 : Int) (h : Hp) {r : Int} (H : MX12_blockAt n x1 h = some r) (hG : gV v r) : PAt l false (mi 148).1 h0 v h 0 [(0, 16, 113), (1, 0, x1)] [] h :=
  pat_ro ok_sdX12_blockAt rfl rkX12_blockAt h8 (foX12_blockAt n) (frX12_blockAt n) (fun v1 q => by
    cases q
    exact ⟨rfl, fun _ => hG⟩) (List.forall_mem_cons.mpr ⟨(fun a c H => by
      dsimp only at H
      split at H
      · exact sLX12_blockAt_2 h8 n _ _ _ H hG
      · cases H), (fun q9 h9 => by cases h9)⟩) ((eMX12_blockAt n x1 h).symm.trans H)
theorem sndX12_blockAt {ρ : Type} {l : Launch} (n : Nat) : SndF (ρ := ρ) l false (mi 148).1 (wX12_blockAt n) := by
    intro a h k r H ha ho hn hf
    have h8 := hf rfl
    obtain ⟨x0, x1, rfl⟩ := len2 (show a.length = 2 from ha)
    have u0 := uq16 hn (ho (16, x0) (List.mem_cons_self))
    subst u0
    replace H : bndp (MX12_blockAt n x1 h) (fun r => k r h) = some r := H
    obtain ⟨v2, H1, H2⟩ := bndp_some H
    exact ⟨v2, h, H2, met_mk (mok_base okX12_blockAt).1 (by decide +kernel) (Nat.le_of_ble_eq_true rfl) ho (sMX12_blockAt h8 n x1 h H1 rfl), fun q => by cases q⟩
theorem roX12_blockAt {ρ : Type} (n : Nat) : RoF (wX12_blockAt n : FN ρ) := fun a h k k2 hk => by
  unfold wX12_blockAt
  split
  · exact bndp_ro hk
  · rfl
/-! X12_may -/
def sdX12_may : SD := [(0, [(0, .iload_n 3, 1, [], 0), (1, .iload 4, 2, [], 0), (3, .iadd, 1, [], 0), (4, .istore 5, 2, [], 0), (6, .iload_n 2, 1, [], 0), (7, .iload 5, 2, [], 0), (9, .iadd, 1, [], 0), (10, .istore 6, 2, [], 0), (12, .iload_n 1, 1, [], 0), (13, .iload 6, 2, [], 0), (15, .aload_n 0, 1, [], 0), (16, .getfield 366, 3, [12, 40, 0, 0, 1362, 0], 0), (19, .imul, 1, [], 0), (20, .iadd, 1, [], 0), (21, .istore 7, 2, [], 0), (23, .iload 5, 2, [], 0), (25, .i2l, 1, [], 0), (26, .aload_n 0, 1, [], 0), (27, .getfield 369, 3, [12, 41, 0, 0, 1363, 0], 0), (30, .ineg, 1, [], 0), (31, .i2l, 1, [], 0), (32, .aload_n 0, 1, [], 0), (33, .getfield 369, 3, [12, 41, 0, 0, 1363, 0], 0), (36, .i2l, 1, [], 0), (37, .invokestatic 217, 3, [1, 0, 3, 81, 1561, 1, 1, 1], 0), (40, .ifCond .eq 22, 3, [], 0)]),
  (43, [(43, .iload 6, 2, [], 0), (45, .iload 5, 2, [], 0), (47, .invokestatic 389, 3, [1, 1, 3, 144, 1742, 0, 0], 0), (50, .ifCond .eq 12, 3, [], 0)]),
  (53, [(53, .iload 7, 2, [], 0), (55, .aload_n 0, 1, [], 0), (56, .invokevirtual 393, 3, [1, 2, 1, 139, 1715, 16], 0), (59, .if_icmp .le 5, 3, [], 0)]),
  (62, [(62, .iconst 0, 1, [], 0), (63, .ireturn, 1, [1], 0)]),
  (64, [(64, .aload_n 0, 1, [], 0), (65, .iload_n 1, 1, [], 0), (66, .invokevirtual 396, 3, [1, 3, 1, 148, 1757, 0, 16], 0), (69, .istore 8, 2, [], 0), (71, .aload_n 0, 1, [], 0), (72, .iload 7, 2, [], 0), (74, .invokevirtual 396, 3, [1, 3, 1, 148, 1757, 0, 16], 0), (77, .istore 9, 2, [], 0), (79, .iload 8, 2, [], 0), (81, .istore 10, 2, [], 0)]),
  (83, [(83, .iload 10, 2, [], 0), (85, .iload 9, 2, [], 0), (87, .if_icmp .gt 47, 3, [], 0)]),
  (90, [(90, .iload 10, 2, [], 0), (92, .ifCond .lt 36, 3, [], 0)]),
  (95, [(95, .iload 6, 2, [], 0), (97, .aload_n 0, 1, [], 0), (98, .getfield 74, 3, [12, 36, 532, 1, 1358, 0], 21), (101, .iload 10, 2, [], 0), (103, .iaload, 1, [], 0), (104, .if_icmp .gt 22, 3, [], 0)]),
  (107, [(107, .iload 10, 2, [], 0), (109, .iload 9, 2, [], 0), (111, .if_icmp .ge 17, 3, [], 0)]),
  (114, [(114, .iload 6, 2, [], 0), (116, .aload_n 0, 1, [], 0), (117, .getfield 83, 3, [12, 39, 532, 1, 1361, 0], 24), (120, .iload 10, 2, [], 0), (122, .iaload, 1, [], 0), (123, .if_icmp .le 5, 3, [], 0)]),
  (126, [(126, .iconst 0, 1, [], 0), (127, .ireturn, 1, [1], 0)]),
  (128, [(128, .iinc 10 1, 3, [], 0), (131, .goto (-48), 3, [], 0)]),
  (134, [(134, .iconst 1, 1, [], 0), (135, .ireturn, 1, [1], 0)])]
def BX12_may_83 (n : Nat) : Nat → Int → Int → Int → Hp → Option (Int)
  | 0, _, _, _, _ => none
  | f + 1, x6, x9, x10, h =>
    (if x9 < x10 then
    (some 1)
    else
    (if x10 < 0 then
    (ltt (w32 (x10 + 1)) fun y1 =>
    (BX12_may_83 n f x6 x9 y1 h))
    else
    (grd (0 ≤ x10 ∧ x10 < alen 532)
    (if (h 134 x10) < x6 then
    (some 0)
    else
    (if x9 ≤ x10 then
    (ltt (w32 (x10 + 1)) fun y2 =>
    (BX12_may_83 n f x6 x9 y2 h))
    else
    (grd (0 ≤ x10 ∧ x10 < alen 532)
    (if x6 ≤ (h 137 x10) then
    (ltt (w32 (x10 + 1)) fun y3 =>
    (BX12_may_83 n f x6 x9 y3 h))
    else
    (some 0))))))))
def LX12_may_83 (n : Nat) (x6 x9 x10 : Int) (h : Hp) : Option (Int) :=
(BX12_may_83 n n x6 x9 x10 h)
def MX12_may (n : Nat) (x1 x2 x3 x4 : Int) (h : Hp) : Option (Int) :=
(ltt (w32 (x3 + x4)) fun y1 =>
(ltt (w32 (x2 + y1)) fun y2 =>
(ltt (w32 (x1 + (w32 (y2 * (h 113 40))))) fun y3 =>
(bndp (MX12_in y1 (w32 (-(h 113 41))) (h 113 41)) fun r1 =>
(if r1 = 0 then
(some 0)
else
(bndp (MX12_isSteady y2 y1) fun r2 =>
(if r2 = 0 then
(some 0)
else
(bndp (MX12_all h) fun r3 =>
(if y3 ≤ r3 then
(bndp (MX12_blockAt n x1 h) fun r4 =>
(ltt r4 fun y4 =>
(bndp (MX12_blockAt n y3 h) fun r5 =>
(ltt r5 fun y5 =>
(ltt y4 fun y6 =>
(LX12_may_83 n y2 y5 y6 h))))))
else
(some 0))))))))))
def wX12_may {ρ : Type} (n : Nat) : FN ρ := fun a h k => match a with
  | [_, x1, x2, x3, x4] => bndp (MX12_may n x1 x2 x3 x4 h) (fun r => k r h)
  | _ => none
def fsX12_may (n : Nat) (ρ : Type) : List (FN ρ) := [wX12_in, wX12_isSteady, wX12_all, wX12_blockAt n]
def KBX12_may_83 (_ : Nat) (bk : Int → Int → Int → Hp → Option (Int)) : CT (Int) := [(83, [(0, 16, (some 113)), (6, 0, none), (9, 0, none), (10, 0, none)], [], fun a c h => match a, c with
    | [x6, x9, x10], [] => bk x6 x9 x10 h
    | _, _ => none)]
set_option maxRecDepth 100000 in
theorem eBX12_may_83 (n f : Nat) (x6 : Int) (x9 : Int) (x10 : Int) (h : Hp) : BX12_may_83 n (f + 1) x6 x9 x10 h =
  goAt false (kct (KBX12_may_83 n (BX12_may_83 n f))) (fun v _ => some (v)) (fsX12_may n _) sdX12_may 1000 83 [(0, 16, 113), (6, 0, x6), (9, 0, x9), (10, 0, x10)] [] h := rfl
def KMX12_may (n : Nat) : CT (Int) := [(83, [(0, 16, (some 113)), (6, 0, none), (9, 0, none), (10, 0, none)], [], fun a c h => match a, c with
    | [x6, x9, x10], [] => LX12_may_83 n x6 x9 x10 h
    | _, _ => none)]
set_option maxRecDepth 100000 in
theorem eMX12_may (n : Nat) (x1 : Int) (x2 : Int) (x3 : Int) (x4 : Int) (h : Hp) : MX12_may n x1 x2 x3 x4 h =
  goAt false (kct (KMX12_may n)) (fun v _ => some (v)) (fsX12_may n _) sdX12_may 1000 0 [(0, 16, 113), (1, 0, x1), (2, 0, x2), (3, 0, x3), (4, 0, x4)] [] h := rfl
theorem okX12_may : mokb (mi 149) = true := by decide +kernel
theorem rkX12_may : rkOK 4 (mi 149).1.2.2.2.2.2.2.1 (mi 149).1.2.2.2.1 := Or.inr (Or.inr (Or.inl ⟨rfl, rfl, rfl⟩))
def calX12_may : List Nat := [81, 144, 139, 148]
theorem foX12_may {l : Launch} {ρ : Type} (n : Nat) : fsOK l false mi calX12_may (fsX12_may n ρ) := ⟨sndX12_in, ⟨sndX12_isSteady, ⟨sndX12_all, ⟨(sndX12_blockAt n), trivial⟩⟩⟩⟩
theorem frX12_may {ρ : Type} (n : Nat) : ∀ fn ∈ fsX12_may n ρ, RoF fn := (List.forall_mem_cons.mpr ⟨roX12_in, (List.forall_mem_cons.mpr ⟨roX12_isSteady, (List.forall_mem_cons.mpr ⟨roX12_all, (List.forall_mem_cons.mpr ⟨(roX12_blockAt n), (fun q9 h9 => by cases h9)⟩)⟩)⟩)⟩)
theorem ok_sdX12_may : sdb (mi 149).1.2.1 (insOK mi (mi 149).1.1.cls (mi 149).1.2.2.1 (mi 149).1.2.2.2.2.1 (mi 149).1.2.2.2.2.2.1 calX12_may false 4) sdX12_may = true := by decide +kernel
theorem sBX12_may_83 {l : Launch} {h0 : Hp} {v : Int} (h8 : nOf h0 = 148) (n : Nat) (h : Hp) : ∀ (f : Nat) (x6 : Int) (x9 : Int) (x10 : Int) {r : Int}, BX12_may_83 n f x6 x9 x10 h = some r → gV v r → PAt l false (mi 149).1 h0 v h 83 [(0, 16, 113), (6, 0, x6), (9, 0, x9), (10, 0, x10)] [] h := by
  intro f
  induction f with
  | zero =>
    intro x6 x9 x10 r H _
    have H2 : (none : Option (Int)) = some r := H
    cases H2
  | succ f ih =>
    intro x6 x9 x10 r H hG
    exact pat_ro ok_sdX12_may rfl rkX12_may h8 (foX12_may n) (frX12_may n) (fun v1 q => by
    cases q
    exact ⟨rfl, fun _ => hG⟩) (List.forall_mem_cons.mpr ⟨(fun a c H => by
      dsimp only at H
      split at H
      · exact ih _ _ _ H hG
      · cases H), (fun q9 h9 => by cases h9)⟩) ((eBX12_may_83 n f x6 x9 x10 h).symm.trans H)
theorem sLX12_may_83 {l : Launch} {h0 : Hp} {v : Int} (h8 : nOf h0 = 148) (n : Nat) (x6 : Int) (x9 : Int) (x10 : Int) (h : Hp) {r : Int} (H : LX12_may_83 n x6 x9 x10 h = some r) (hG : gV v r) : PAt l false (mi 149).1 h0 v h 83 [(0, 16, 113), (6, 0, x6), (9, 0, x9), (10, 0, x10)] [] h :=
  sBX12_may_83 h8 n h n x6 x9 x10 H hG
theorem sMX12_may {l : Launch} {h0 : Hp} {v : Int} (h8 : nOf h0 = 148) (n : Nat) (x1 : Int) (x2 : Int) (x3 : Int) (x4 : Int) (h : Hp) {r : Int} (H : MX12_may n x1 x2 x3 x4 h = some r) (hG : gV v r) : PAt l false (mi 149).1 h0 v h 0 [(0, 16, 113), (1, 0, x1), (2, 0, x2), (3, 0, x3), (4, 0, x4)] [] h :=
  pat_ro ok_sdX12_may rfl rkX12_may h8 (foX12_may n) (frX12_may n) (fun v1 q => by
    cases q
    exact ⟨rfl, fun _ => hG⟩) (List.forall_mem_cons.mpr ⟨(fun a c H => by
      dsimp only at H
      split at H
      · exact sLX12_may_83 h8 n _ _ _ _ H hG
      · cases H), (fun q9 h9 => by cases h9)⟩) ((eMX12_may n x1 x2 x3 x4 h).symm.trans H)
theorem sndX12_may {ρ : Type} {l : Launch} (n : Nat) : SndF (ρ := ρ) l false (mi 149).1 (wX12_may n) := by
    intro a h k r H ha ho hn hf
    have h8 := hf rfl
    obtain ⟨x0, x1, x2, x3, x4, rfl⟩ := len5 (show a.length = 5 from ha)
    have u0 := uq16 hn (ho (16, x0) (List.mem_cons_self))
    subst u0
    replace H : bndp (MX12_may n x1 x2 x3 x4 h) (fun r => k r h) = some r := H
    obtain ⟨v2, H1, H2⟩ := bndp_some H
    exact ⟨v2, h, H2, met_mk (mok_base okX12_may).1 (by decide +kernel) (Nat.le_of_ble_eq_true rfl) ho (sMX12_may h8 n x1 x2 x3 x4 h H1 rfl), fun q => by cases q⟩
theorem roX12_may {ρ : Type} (n : Nat) : RoF (wX12_may n : FN ρ) := fun a h k k2 hk => by
  unfold wX12_may
  split
  · exact bndp_ro hk
  · rfl
/-! X12_isSafe -/
def sdX12_isSafe : SD := [(0, [(0, .iload_n 1, 1, [], 0), (1, .istore 4, 2, [], 0), (3, .iload_n 2, 1, [], 0), (4, .istore 5, 2, [], 0), (6, .iload_n 3, 1, [], 0), (7, .istore 6, 2, [], 0)]),
  (9, [(9, .iload 5, 2, [], 0), (11, .ifCond .ne 8, 3, [], 0)]),
  (14, [(14, .iload 6, 2, [], 0), (16, .ifCond .eq 59, 3, [], 0)]),
  (19, [(19, .aload_n 0, 1, [], 0), (20, .iload 5, 2, [], 0), (22, .iload 6, 2, [], 0), (24, .invokevirtual 399, 3, [1, 0, 1, 145, 1738, 0, 0, 16], 0), (27, .istore 7, 2, [], 0), (29, .aload_n 0, 1, [], 0), (30, .iload 4, 2, [], 0), (32, .iload 5, 2, [], 0), (34, .iload 6, 2, [], 0), (36, .iload 7, 2, [], 0), (38, .invokevirtual 402, 3, [1, 1, 1, 149, 1753, 0, 0, 0, 0, 16], 0), (41, .ifCond .ne 5, 3, [], 0)]),
  (44, [(44, .iconst 0, 1, [], 0), (45, .ireturn, 1, [1], 0)]),
  (46, [(46, .iload 6, 2, [], 0), (48, .iload 7, 2, [], 0), (50, .iadd, 1, [], 0), (51, .istore 6, 2, [], 0), (53, .iload 5, 2, [], 0), (55, .iload 6, 2, [], 0), (57, .iadd, 1, [], 0), (58, .istore 5, 2, [], 0), (60, .iload 4, 2, [], 0), (62, .iload 5, 2, [], 0), (64, .aload_n 0, 1, [], 0), (65, .getfield 366, 3, [12, 40, 0, 0, 1362, 0], 0), (68, .imul, 1, [], 0), (69, .iadd, 1, [], 0), (70, .istore 4, 2, [], 0), (72, .goto (-63), 3, [], 0)]),
  (75, [(75, .iconst 1, 1, [], 0), (76, .ireturn, 1, [1], 0)])]
def JX12_isSafe_19 (n : Nat) (bk : Int → Int → Int → Hp → Option (Int)) (x4 x5 x6 : Int) (h : Hp) : Option (Int) :=
(bndp (MX12_brakeOf n x5 x6 h) fun r1 =>
(ltt r1 fun y1 =>
(bndp (MX12_may n x4 x5 x6 y1 h) fun r2 =>
(if r2 ≠ 0 then
(ltt (w32 (x6 + y1)) fun y2 =>
(ltt (w32 (x5 + y2)) fun y3 =>
(ltt (w32 (x4 + (w32 (y3 * (h 113 40))))) fun y4 =>
(bk y4 y3 y2 h))))
else
(some 0)))))
def BX12_isSafe_9 (n : Nat) : Nat → Int → Int → Int → Hp → Option (Int)
  | 0, _, _, _, _ => none
  | f + 1, x4, x5, x6, h =>
    (if x5 ≠ 0 then
    (JX12_isSafe_19 n (BX12_isSafe_9 n f) x4 x5 x6 h)
    else
    (if x6 = 0 then
    (some 1)
    else
    (JX12_isSafe_19 n (BX12_isSafe_9 n f) x4 x5 x6 h)))
def LX12_isSafe_9 (n : Nat) (x4 x5 x6 : Int) (h : Hp) : Option (Int) :=
(BX12_isSafe_9 n n x4 x5 x6 h)
def MX12_isSafe (n : Nat) (x1 x2 x3 : Int) (h : Hp) : Option (Int) :=
(ltt x1 fun y1 =>
(ltt x2 fun y2 =>
(ltt x3 fun y3 =>
(LX12_isSafe_9 n y1 y2 y3 h))))
def wX12_isSafe {ρ : Type} (n : Nat) : FN ρ := fun a h k => match a with
  | [_, x1, x2, x3] => bndp (MX12_isSafe n x1 x2 x3 h) (fun r => k r h)
  | _ => none
def fsX12_isSafe (n : Nat) (ρ : Type) : List (FN ρ) := [wX12_brakeOf n, wX12_may n]
def KJX12_isSafe_19 (_ : Nat) (bk : Int → Int → Int → Hp → Option (Int)) : CT (Int) := [(9, [(0, 16, (some 113)), (4, 0, none), (5, 0, none), (6, 0, none)], [], fun a c h => match a, c with
    | [x4, x5, x6], [] => bk x4 x5 x6 h
    | _, _ => none)]
set_option maxRecDepth 100000 in
theorem eJX12_isSafe_19 (n : Nat) (bk : Int → Int → Int → Hp → Option (Int)) (x4 : Int) (x5 : Int) (x6 : Int) (h : Hp) : JX12_isSafe_19 n bk x4 x5 x6 h =
  goAt false (kct (KJX12_isSafe_19 n bk)) (fun v _ => some (v)) (fsX12_isSafe n _) sdX12_isSafe 1000 19 [(0, 16, 113), (4, 0, x4), (5, 0, x5), (6, 0, x6)] [] h := rfl
def KBX12_isSafe_9 (n : Nat) (bk : Int → Int → Int → Hp → Option (Int)) : CT (Int) := [(9, [(0, 16, (some 113)), (4, 0, none), (5, 0, none), (6, 0, none)], [], fun a c h => match a, c with
    | [x4, x5, x6], [] => bk x4 x5 x6 h
    | _, _ => none),
  (19, [(0, 16, (some 113)), (4, 0, none), (5, 0, none), (6, 0, none)], [], fun a c h => match a, c with
    | [x4, x5, x6], [] => JX12_isSafe_19 n bk x4 x5 x6 h
    | _, _ => none)]
set_option maxRecDepth 100000 in
theorem eBX12_isSafe_9 (n f : Nat) (x4 : Int) (x5 : Int) (x6 : Int) (h : Hp) : BX12_isSafe_9 n (f + 1) x4 x5 x6 h =
  goAt false (kct (KBX12_isSafe_9 n (BX12_isSafe_9 n f))) (fun v _ => some (v)) (fsX12_isSafe n _) sdX12_isSafe 1000 9 [(0, 16, 113), (4, 0, x4), (5, 0, x5), (6, 0, x6)] [] h := rfl
def KMX12_isSafe (n : Nat) : CT (Int) := [(9, [(0, 16, (some 113)), (4, 0, none), (5, 0, none), (6, 0, none)], [], fun a c h => match a, c with
    | [x4, x5, x6], [] => LX12_isSafe_9 n x4 x5 x6 h
    | _, _ => none)]
set_option maxRecDepth 100000 in
theorem eMX12_isSafe (n : Nat) (x1 : Int) (x2 : Int) (x3 : Int) (h : Hp) : MX12_isSafe n x1 x2 x3 h =
  goAt false (kct (KMX12_isSafe n)) (fun v _ => some (v)) (fsX12_isSafe n _) sdX12_isSafe 1000 0 [(0, 16, 113), (1, 0, x1), (2, 0, x2), (3, 0, x3)] [] h := rfl
theorem okX12_isSafe : mokb (mi 150) = true := by decide +kernel
theorem rkX12_isSafe : rkOK 4 (mi 150).1.2.2.2.2.2.2.1 (mi 150).1.2.2.2.1 := Or.inr (Or.inr (Or.inl ⟨rfl, rfl, rfl⟩))
def calX12_isSafe : List Nat := [145, 149]
theorem foX12_isSafe {l : Launch} {ρ : Type} (n : Nat) : fsOK l false mi calX12_isSafe (fsX12_isSafe n ρ) := ⟨(sndX12_brakeOf n), ⟨(sndX12_may n), trivial⟩⟩
theorem frX12_isSafe {ρ : Type} (n : Nat) : ∀ fn ∈ fsX12_isSafe n ρ, RoF fn := (List.forall_mem_cons.mpr ⟨(roX12_brakeOf n), (List.forall_mem_cons.mpr ⟨(roX12_may n), (fun q9 h9 => by cases h9)⟩)⟩)
theorem ok_sdX12_isSafe : sdb (mi 150).1.2.1 (insOK mi (mi 150).1.1.cls (mi 150).1.2.2.1 (mi 150).1.2.2.2.2.1 (mi 150).1.2.2.2.2.2.1 calX12_isSafe false 4) sdX12_isSafe = true := by decide +kernel
theorem sJX12_isSafe_19 {l : Launch} {h0 : Hp} {v : Int} (h8 : nOf h0 = 148) (n : Nat) (bk : Int → Int → Int → Hp → Option (Int)) {h : Hp} (hbk : ∀ (x4 : Int) (x5 : Int) (x6 : Int) (r : Int), bk x4 x5 x6 h = some r → gV v r → PAt l false (mi 150).1 h0 v h 9 [(0, 16, 113), (4, 0, x4), (5, 0, x5), (6, 0, x6)] [] h) (x4 : Int) (x5 : Int) (x6 : Int) (_ : Hp) {r : Int} (H : JX12_isSafe_19 n bk x4 x5 x6 h = some r) (hG : gV v r) : PAt l false (mi 150).1 h0 v h 19 [(0, 16, 113), (4, 0, x4), (5, 0, x5), (6, 0, x6)] [] h :=
  pat_ro ok_sdX12_isSafe rfl rkX12_isSafe h8 (foX12_isSafe n) (frX12_isSafe n) (fun v1 q => by
    cases q
    exact ⟨rfl, fun _ => hG⟩) (List.forall_mem_cons.mpr ⟨(fun a c H => by
      dsimp only at H
      split at H
      · exact hbk _ _ _ _ H hG
      · cases H), (fun q9 h9 => by cases h9)⟩) ((eJX12_isSafe_19 n bk x4 x5 x6 h).symm.trans H)
theorem sBX12_isSafe_9 {l : Launch} {h0 : Hp} {v : Int} (h8 : nOf h0 = 148) (n : Nat) (h : Hp) : ∀ (f : Nat) (x4 : Int) (x5 : Int) (x6 : Int) {r : Int}, BX12_isSafe_9 n f x4 x5 x6 h = some r → gV v r → PAt l false (mi 150).1 h0 v h 9 [(0, 16, 113), (4, 0, x4), (5, 0, x5), (6, 0, x6)] [] h := by
  intro f
  induction f with
  | zero =>
    intro x4 x5 x6 r H _
    have H2 : (none : Option (Int)) = some r := H
    cases H2
  | succ f ih =>
    intro x4 x5 x6 r H hG
    have ihk : ∀ (x4 : Int) (x5 : Int) (x6 : Int) (r : Int), BX12_isSafe_9 n f x4 x5 x6 h = some r → gV v r → PAt l false (mi 150).1 h0 v h 9 [(0, 16, 113), (4, 0, x4), (5, 0, x5), (6, 0, x6)] [] h := fun x4 x5 x6 r9 a9 b9 => ih x4 x5 x6 a9 b9
    exact pat_ro ok_sdX12_isSafe rfl rkX12_isSafe h8 (foX12_isSafe n) (frX12_isSafe n) (fun v1 q => by
    cases q
    exact ⟨rfl, fun _ => hG⟩) (List.forall_mem_cons.mpr ⟨(fun a c H => by
      dsimp only at H
      split at H
      · exact ih _ _ _ H hG
      · cases H), (List.forall_mem_cons.mpr ⟨(fun a c H => by
      dsimp only at H
      split at H
      · exact sJX12_isSafe_19 h8 n (BX12_isSafe_9 n f) ihk _ _ _ h H hG
      · cases H), (fun q9 h9 => by cases h9)⟩)⟩) ((eBX12_isSafe_9 n f x4 x5 x6 h).symm.trans H)
theorem sLX12_isSafe_9 {l : Launch} {h0 : Hp} {v : Int} (h8 : nOf h0 = 148) (n : Nat) (x4 : Int) (x5 : Int) (x6 : Int) (h : Hp) {r : Int} (H : LX12_isSafe_9 n x4 x5 x6 h = some r) (hG : gV v r) : PAt l false (mi 150).1 h0 v h 9 [(0, 16, 113), (4, 0, x4), (5, 0, x5), (6, 0, x6)] [] h :=
  sBX12_isSafe_9 h8 n h n x4 x5 x6 H hG
theorem sMX12_isSafe {l : Launch} {h0 : Hp} {v : Int} (h8 : nOf h0 = 148) (n : Nat) (x1 : Int) (x2 : Int) (x3 : Int) (h : Hp) {r : Int} (H : MX12_isSafe n x1 x2 x3 h = some r) (hG : gV v r) : PAt l false (mi 150).1 h0 v h 0 [(0, 16, 113), (1, 0, x1), (2, 0, x2), (3, 0, x3)] [] h :=
  pat_ro ok_sdX12_isSafe rfl rkX12_isSafe h8 (foX12_isSafe n) (frX12_isSafe n) (fun v1 q => by
    cases q
    exact ⟨rfl, fun _ => hG⟩) (List.forall_mem_cons.mpr ⟨(fun a c H => by
      dsimp only at H
      split at H
      · exact sLX12_isSafe_9 h8 n _ _ _ _ H hG
      · cases H), (fun q9 h9 => by cases h9)⟩) ((eMX12_isSafe n x1 x2 x3 h).symm.trans H)
theorem sndX12_isSafe {ρ : Type} {l : Launch} (n : Nat) : SndF (ρ := ρ) l false (mi 150).1 (wX12_isSafe n) := by
    intro a h k r H ha ho hn hf
    have h8 := hf rfl
    obtain ⟨x0, x1, x2, x3, rfl⟩ := len4 (show a.length = 4 from ha)
    have u0 := uq16 hn (ho (16, x0) (List.mem_cons_self))
    subst u0
    replace H : bndp (MX12_isSafe n x1 x2 x3 h) (fun r => k r h) = some r := H
    obtain ⟨v2, H1, H2⟩ := bndp_some H
    exact ⟨v2, h, H2, met_mk (mok_base okX12_isSafe).1 (by decide +kernel) (Nat.le_of_ble_eq_true rfl) ho (sMX12_isSafe h8 n x1 x2 x3 h H1 rfl), fun q => by cases q⟩
theorem roX12_isSafe {ρ : Type} (n : Nat) : RoF (wX12_isSafe n : FN ρ) := fun a h k k2 hk => by
  unfold wX12_isSafe
  split
  · exact bndp_ro hk
  · rfl
/-! X12_goesIfSafe -/
def sdX12_goesIfSafe : SD := [(0, [(0, .aload_n 0, 1, [], 0), (1, .getfield 412, 3, [12, 50, 0, 0, 1372, 0], 0), (4, .iload_n 1, 1, [], 0), (5, .iadd, 1, [], 0), (6, .istore_n 2, 1, [], 0), (7, .aload_n 0, 1, [], 0), (8, .getfield 409, 3, [12, 49, 0, 0, 1371, 0], 0), (11, .iload_n 2, 1, [], 0), (12, .iadd, 1, [], 0), (13, .istore_n 3, 1, [], 0), (14, .aload_n 0, 1, [], 0), (15, .aload_n 0, 1, [], 0), (16, .getfield 406, 3, [12, 48, 0, 0, 1370, 0], 0), (19, .aload_n 0, 1, [], 0), (20, .getfield 409, 3, [12, 49, 0, 0, 1371, 0], 0), (23, .aload_n 0, 1, [], 0), (24, .getfield 412, 3, [12, 50, 0, 0, 1372, 0], 0), (27, .iload_n 1, 1, [], 0), (28, .invokevirtual 402, 3, [1, 0, 1, 149, 1753, 0, 0, 0, 0, 16], 0), (31, .ifCond .eq 23, 3, [], 0)]),
  (34, [(34, .aload_n 0, 1, [], 0), (35, .aload_n 0, 1, [], 0), (36, .getfield 406, 3, [12, 48, 0, 0, 1370, 0], 0), (39, .iload_n 3, 1, [], 0), (40, .aload_n 0, 1, [], 0), (41, .getfield 366, 3, [12, 40, 0, 0, 1362, 0], 0), (44, .imul, 1, [], 0), (45, .iadd, 1, [], 0), (46, .iload_n 3, 1, [], 0), (47, .iload_n 2, 1, [], 0), (48, .invokevirtual 423, 3, [1, 1, 1, 150, 1761, 0, 0, 0, 16], 0), (51, .ifCond .ne 5, 3, [], 0)]),
  (54, [(54, .iconst 0, 1, [], 0), (55, .ireturn, 1, [1], 0)]),
  (56, [(56, .aload_n 0, 1, [], 0), (57, .iload_n 1, 1, [], 0), (58, .invokevirtual 427, 3, [0, 2, 1, 146, 1745, 0, 16], 0), (61, .iconst 1, 1, [], 0), (62, .ireturn, 1, [1], 0)])]
def MX12_goesIfSafe (n : Nat) (x1 : Int) (h : Hp) : Option (Int × Hp) :=
(ltt (w32 ((h 113 50) + x1)) fun y1 =>
(ltt (w32 ((h 113 49) + y1)) fun y2 =>
(bndp (MX12_may n (h 113 48) (h 113 49) (h 113 50) x1 h) fun r1 =>
(if r1 = 0 then
(some (0, h))
else
(bndp (MX12_isSafe n (w32 ((h 113 48) + (w32 (y2 * (h 113 40))))) y2 y1 h) fun r2 =>
(if r2 ≠ 0 then
(bndh (MX12_goesBy x1 h) fun h1 =>
(some (1, h1)))
else
(some (0, h))))))))
def wX12_goesIfSafe {ρ : Type} (n : Nat) : FN ρ := fun a h k => match a with
  | [_, x1] => bnd (MX12_goesIfSafe n x1 h) (fun r h2 => k r h2)
  | _ => none
def fsX12_goesIfSafe (n : Nat) (ρ : Type) : List (FN ρ) := [wX12_may n, wX12_isSafe n, wX12_goesBy]
def KMX12_goesIfSafe (_ : Nat) : CT (Int × Hp) := []
set_option maxRecDepth 100000 in
theorem eMX12_goesIfSafe (n : Nat) (x1 : Int) (h : Hp) : MX12_goesIfSafe n x1 h =
  goAt false (kct (KMX12_goesIfSafe n)) (fun v h => some ((v, h))) (fsX12_goesIfSafe n _) sdX12_goesIfSafe 1000 0 [(0, 16, 113), (1, 0, x1)] [] h := rfl
theorem okX12_goesIfSafe : mokb (mi 151) = true := by decide +kernel
theorem rkX12_goesIfSafe : rkOK 4 (mi 151).1.2.2.2.2.2.2.1 (mi 151).1.2.2.2.1 := Or.inr (Or.inr (Or.inl ⟨rfl, rfl, rfl⟩))
def calX12_goesIfSafe : List Nat := [149, 150, 146]
theorem foX12_goesIfSafe {l : Launch} {ρ : Type} (n : Nat) : fsOK l false mi calX12_goesIfSafe (fsX12_goesIfSafe n ρ) := ⟨(sndX12_may n), ⟨(sndX12_isSafe n), ⟨sndX12_goesBy, trivial⟩⟩⟩
theorem ok_sdX12_goesIfSafe : sdb (mi 151).1.2.1 (insOK mi (mi 151).1.1.cls (mi 151).1.2.2.1 (mi 151).1.2.2.2.2.1 (mi 151).1.2.2.2.2.2.1 calX12_goesIfSafe false 4) sdX12_goesIfSafe = true := by decide +kernel
theorem sMX12_goesIfSafe {l : Launch} {h0 h' : Hp} {v : Int} (h8 : nOf h0 = 148) (n : Nat) (x1 : Int) (h : Hp) {r : Int × Hp} (H : MX12_goesIfSafe n x1 h = some r) (hG : gWV v h' r) : PAt l false (mi 151).1 h0 v h' 0 [(0, 16, 113), (1, 0, x1)] [] h :=
  pat_w ok_sdX12_goesIfSafe rkX12_goesIfSafe h8 (foX12_goesIfSafe n) (fun v1 h1 q => by
    cases q
    exact ⟨hG.1, fun _ => hG.2⟩) (fun q9 h9 => by cases h9) ((eMX12_goesIfSafe n x1 h).symm.trans H)
theorem sndX12_goesIfSafe {ρ : Type} {l : Launch} (n : Nat) : SndF (ρ := ρ) l false (mi 151).1 (wX12_goesIfSafe n) := by
    intro a h k r H ha ho hn hf
    have h8 := hf rfl
    obtain ⟨x0, x1, rfl⟩ := len2 (show a.length = 2 from ha)
    have u0 := uq16 hn (ho (16, x0) (List.mem_cons_self))
    subst u0
    replace H : bnd (MX12_goesIfSafe n x1 h) (fun r h2 => k r h2) = some r := H
    obtain ⟨v2, h2, H1, H2⟩ := bnd_some H
    exact ⟨v2, h2, H2, met_mk (mok_base okX12_goesIfSafe).1 (by decide +kernel) (Nat.le_of_ble_eq_true rfl) ho (sMX12_goesIfSafe h8 n x1 h H1 ⟨rfl, rfl⟩), fun q => by cases q⟩
/-! X12_tick -/
def sdX12_tick : SD := [(0, [(0, .aload_n 0, 1, [], 0), (1, .iconst 0, 1, [], 0), (2, .putfield 421, 3, [12, 51, 0, 0, 0, 1373], 0), (5, .aload_n 0, 1, [], 0), (6, .invokevirtual 430, 3, [1, 0, 1, 140, 1707, 16], 0), (9, .ifCond .ne 17, 3, [], 0)]),
  (12, [(12, .aload_n 0, 1, [], 0), (13, .getfield 415, 3, [12, 52, 0, 0, 1374, 0], 0), (16, .ifCond .eq 11, 3, [], 0)]),
  (19, [(19, .aload_n 0, 1, [], 0), (20, .invokevirtual 418, 3, [1, 1, 1, 138, 1711, 16], 0), (23, .ifCond .eq 4, 3, [], 0)]),
  (26, [(26, .return_, 1, [], 0)]),
  (27, [(27, .aload_n 0, 1, [], 0), (28, .getfield 415, 3, [12, 52, 0, 0, 1374, 0], 0), (31, .ifCond .eq 8, 3, [], 0)]),
  (34, [(34, .aload_n 0, 1, [], 0), (35, .invokevirtual 433, 3, [0, 2, 1, 147, 1734, 16], 0), (38, .return_, 1, [], 0)]),
  (39, [(39, .aload_n 0, 1, [], 0), (40, .invokevirtual 418, 3, [1, 1, 1, 138, 1711, 16], 0), (43, .ifCond .eq 38, 3, [], 0)]),
  (46, [(46, .aload_n 0, 1, [], 0), (47, .iconst 1, 1, [], 0), (48, .invokevirtual 436, 3, [1, 3, 1, 151, 1749, 0, 16], 0), (51, .ifCond .ne 29, 3, [], 0)]),
  (54, [(54, .aload_n 0, 1, [], 0), (55, .invokevirtual 393, 3, [1, 4, 1, 139, 1715, 16], 0), (58, .aload_n 0, 1, [], 0), (59, .getfield 406, 3, [12, 48, 0, 0, 1370, 0], 0), (62, .isub, 1, [], 0), (63, .iconst 2, 1, [], 0), (64, .aload_n 0, 1, [], 0), (65, .getfield 366, 3, [12, 40, 0, 0, 1362, 0], 0), (68, .imul, 1, [], 0), (69, .if_icmp .ge 11, 3, [], 0)]),
  (72, [(72, .aload_n 0, 1, [], 0), (73, .aload_n 0, 1, [], 0), (74, .invokevirtual 393, 3, [1, 4, 1, 139, 1715, 16], 0), (77, .putfield 406, 3, [12, 48, 0, 0, 0, 1370], 0)]),
  (80, [(80, .return_, 1, [], 0)]),
  (81, [(81, .iconst 1, 1, [], 0), (82, .istore_n 1, 1, [], 0)]),
  (83, [(83, .iload_n 1, 1, [], 0), (84, .iconst (-1), 1, [], 0), (85, .if_icmp .lt 18, 3, [], 0)]),
  (88, [(88, .aload_n 0, 1, [], 0), (89, .iload_n 1, 1, [], 0), (90, .invokevirtual 436, 3, [1, 3, 1, 151, 1749, 0, 16], 0), (93, .ifCond .eq 4, 3, [], 0)]),
  (96, [(96, .return_, 1, [], 0)]),
  (97, [(97, .iinc 1 (-1), 3, [], 0), (100, .goto (-17), 3, [], 0)]),
  (103, [(103, .aload_n 0, 1, [], 0), (104, .invokevirtual 433, 3, [0, 2, 1, 147, 1734, 16], 0), (107, .return_, 1, [], 0)])]
def BX12_tick_83 (n : Nat) : Nat → Int → Hp → Option (Hp)
  | 0, _, _ => none
  | f + 1, x1, h =>
    (if x1 < (-1) then
    (bndh (MX12_slows n h) fun h1 =>
    (some h1))
    else
    (bnd (MX12_goesIfSafe n x1 h) fun r1 h2 =>
    (if r1 = 0 then
    (ltt (w32 (x1 + (-1))) fun y1 =>
    (BX12_tick_83 n f y1 h2))
    else
    (some h2))))
def LX12_tick_83 (n : Nat) (x1 : Int) (h : Hp) : Option (Hp) :=
(BX12_tick_83 n n x1 h)
def JX12_tick_27 (n : Nat) (h : Hp) : Option (Hp) :=
(if (h 113 52) = 0 then
(bndp (MX12_isRest h) fun r1 =>
(if r1 = 0 then
(ltt 1 fun y1 =>
(LX12_tick_83 n y1 h))
else
(bnd (MX12_goesIfSafe n 1 h) fun r2 h1 =>
(if r2 ≠ 0 then
(some h1)
else
(bndp (MX12_all h1) fun r3 =>
(if (w32 (2 * (h1 113 40))) ≤ (w32 (r3 - (h1 113 48))) then
(some h1)
else
(bndp (MX12_all h1) fun r4 =>
(ltt (up h1 113 48 r4) fun h2 =>
(some h2)))))))))
else
(bndh (MX12_slows n h) fun h3 =>
(some h3)))
def MX12_tick (n : Nat) (h : Hp) : Option (Hp) :=
(ltt (up h 113 51 0) fun h1 =>
(bndp (MX12_isDone h1) fun r1 =>
(if r1 ≠ 0 then
(some h1)
else
(if (h1 113 52) = 0 then
(JX12_tick_27 n h1)
else
(bndp (MX12_isRest h1) fun r2 =>
(if r2 = 0 then
(JX12_tick_27 n h1)
else
(some h1)))))))
def wX12_tick {ρ : Type} (n : Nat) : FN ρ := fun a h k => match a with
  | [_] => bndh (MX12_tick n h) (fun h2 => k 0 h2)
  | _ => none
def fsX12_tick (n : Nat) (ρ : Type) : List (FN ρ) := [wX12_isDone, wX12_isRest, wX12_slows n, wX12_goesIfSafe n, wX12_all]
def KBX12_tick_83 (_ : Nat) (bk : Int → Hp → Option (Hp)) : CT (Hp) := [(83, [(0, 16, (some 113)), (1, 0, none)], [], fun a c h => match a, c with
    | [x1], [] => bk x1 h
    | _, _ => none)]
set_option maxRecDepth 100000 in
theorem eBX12_tick_83 (n f : Nat) (x1 : Int) (h : Hp) : BX12_tick_83 n (f + 1) x1 h =
  goAt false (kct (KBX12_tick_83 n (BX12_tick_83 n f))) (fun _ h => some (h)) (fsX12_tick n _) sdX12_tick 1000 83 [(0, 16, 113), (1, 0, x1)] [] h := rfl
def KJX12_tick_27 (n : Nat) : CT (Hp) := [(83, [(0, 16, (some 113)), (1, 0, none)], [], fun a c h => match a, c with
    | [x1], [] => LX12_tick_83 n x1 h
    | _, _ => none)]
set_option maxRecDepth 100000 in
theorem eJX12_tick_27 (n : Nat) (h : Hp) : JX12_tick_27 n h =
  goAt false (kct (KJX12_tick_27 n)) (fun _ h => some (h)) (fsX12_tick n _) sdX12_tick 1000 27 [(0, 16, 113)] [] h := rfl
def KMX12_tick (n : Nat) : CT (Hp) := [(27, [(0, 16, (some 113))], [], fun a c h => match a, c with
    | [], [] => JX12_tick_27 n h
    | _, _ => none)]
set_option maxRecDepth 100000 in
theorem eMX12_tick (n : Nat) (h : Hp) : MX12_tick n h =
  goAt false (kct (KMX12_tick n)) (fun _ h => some (h)) (fsX12_tick n _) sdX12_tick 1000 0 [(0, 16, 113)] [] h := rfl
theorem okX12_tick : mokb (mi 152) = true := by decide +kernel
theorem rkX12_tick : rkOK 0 (mi 152).1.2.2.2.2.2.2.1 (mi 152).1.2.2.2.1 := Or.inl ⟨rfl, rfl, rfl⟩
def calX12_tick : List Nat := [140, 138, 147, 151, 139]
theorem foX12_tick {l : Launch} {ρ : Type} (n : Nat) : fsOK l false mi calX12_tick (fsX12_tick n ρ) := ⟨sndX12_isDone, ⟨sndX12_isRest, ⟨(sndX12_slows n), ⟨(sndX12_goesIfSafe n), ⟨sndX12_all, trivial⟩⟩⟩⟩⟩
theorem ok_sdX12_tick : sdb (mi 152).1.2.1 (insOK mi (mi 152).1.1.cls (mi 152).1.2.2.1 (mi 152).1.2.2.2.2.1 (mi 152).1.2.2.2.2.2.1 calX12_tick false 0) sdX12_tick = true := by decide +kernel
theorem sBX12_tick_83 {l : Launch} {h0 h' : Hp} {v : Int} (h8 : nOf h0 = 148) (n : Nat) : ∀ (f : Nat) (x1 : Int) (h : Hp) {r : Hp}, BX12_tick_83 n f x1 h = some r → gW h' r → PAt l false (mi 152).1 h0 v h' 83 [(0, 16, 113), (1, 0, x1)] [] h := by
  intro f
  induction f with
  | zero =>
    intro x1 h r H _
    have H2 : (none : Option (Hp)) = some r := H
    cases H2
  | succ f ih =>
    intro x1 h r H hG
    exact pat_w ok_sdX12_tick rkX12_tick h8 (foX12_tick n) (fun v1 h1 q => by
    cases q
    exact ⟨hG, fun q9 => absurd rfl q9⟩) (List.forall_mem_cons.mpr ⟨(fun a c h H => by
      dsimp only at H
      split at H
      · exact ih _ _ H hG
      · cases H), (fun q9 h9 => by cases h9)⟩) ((eBX12_tick_83 n f x1 h).symm.trans H)
theorem sLX12_tick_83 {l : Launch} {h0 h' : Hp} {v : Int} (h8 : nOf h0 = 148) (n : Nat) (x1 : Int) (h : Hp) {r : Hp} (H : LX12_tick_83 n x1 h = some r) (hG : gW h' r) : PAt l false (mi 152).1 h0 v h' 83 [(0, 16, 113), (1, 0, x1)] [] h :=
  sBX12_tick_83 h8 n n x1 h H hG
theorem sJX12_tick_27 {l : Launch} {h0 h' : Hp} {v : Int} (h8 : nOf h0 = 148) (n : Nat)  (h : Hp) {r : Hp} (H : JX12_tick_27 n h = some r) (hG : gW h' r) : PAt l false (mi 152).1 h0 v h' 27 [(0, 16, 113)] [] h :=
  pat_w ok_sdX12_tick rkX12_tick h8 (foX12_tick n) (fun v1 h1 q => by
    cases q
    exact ⟨hG, fun q9 => absurd rfl q9⟩) (List.forall_mem_cons.mpr ⟨(fun a c h H => by
      dsimp only at H
      split at H
      · exact sLX12_tick_83 h8 n _ _ H hG
      · cases H), (fun q9 h9 => by cases h9)⟩) ((eJX12_tick_27 n h).symm.trans H)
theorem sMX12_tick {l : Launch} {h0 h' : Hp} {v : Int} (h8 : nOf h0 = 148) (n : Nat)  (h : Hp) {r : Hp} (H : MX12_tick n h = some r) (hG : gW h' r) : PAt l false (mi 152).1 h0 v h' 0 [(0, 16, 113)] [] h :=
  pat_w ok_sdX12_tick rkX12_tick h8 (foX12_tick n) (fun v1 h1 q => by
    cases q
    exact ⟨hG, fun q9 => absurd rfl q9⟩) (List.forall_mem_cons.mpr ⟨(fun a c h H => by
      dsimp only at H
      split at H
      · exact sJX12_tick_27 h8 n _ H hG
      · cases H), (fun q9 h9 => by cases h9)⟩) ((eMX12_tick n h).symm.trans H)
theorem sndX12_tick {ρ : Type} {l : Launch} (n : Nat) : SndF (ρ := ρ) l false (mi 152).1 (wX12_tick n) := by
    intro a h k r H ha ho hn hf
    have h8 := hf rfl
    obtain ⟨x0, rfl⟩ := len1 (show a.length = 1 from ha)
    have u0 := uq16 hn (ho (16, x0) (List.mem_cons_self))
    subst u0
    replace H : bndh (MX12_tick n h) (fun h2 => k 0 h2) = some r := H
    obtain ⟨h2, H1, H2⟩ := bndh_some H
    exact ⟨0, h2, H2, met_mk (mok_base okX12_tick).1 (by decide +kernel) (Nat.le_of_ble_eq_true rfl) ho (sMX12_tick h8 n  h H1 rfl), fun q => by cases q⟩
/-! X12_ticks -/
def sdX12_ticks : SD := [(0, [(0, .iload_n 1, 1, [], 0), (1, .i2l, 1, [], 0), (2, .lconst 1, 1, [], 0), (3, .ldc2_w 457, 3, [1, 1672], 60), (6, .invokestatic 217, 3, [1, 0, 3, 81, 1561, 1, 1, 1], 0), (9, .ifCond .ne 5, 3, [], 0)]),
  (12, [(12, .iconst (-1), 1, [], 0), (13, .ireturn, 1, [], 0)]),
  (14, [(14, .aload_n 0, 1, [], 0), (15, .invokevirtual 459, 3, [0, 1, 1, 116, 1673, 16], 0), (18, .aload_n 0, 1, [], 0), (19, .invokevirtual 462, 3, [0, 2, 1, 137, 1703, 16], 0), (22, .aload_n 0, 1, [], 0), (23, .invokevirtual 430, 3, [1, 3, 1, 140, 1707, 16], 0), (26, .ifCond .eq 6, 3, [], 0)]),
  (29, [(29, .bipush (-2), 2, [], 0), (31, .ireturn, 1, [], 0)]),
  (32, [(32, .iconst 0, 1, [], 0), (33, .istore_n 2, 1, [], 0)]),
  (34, [(34, .iload_n 2, 1, [], 0), (35, .iload_n 1, 1, [], 0), (36, .if_icmp .ge 58, 3, [], 0)]),
  (39, [(39, .aload_n 0, 1, [], 0), (40, .invokevirtual 430, 3, [1, 3, 1, 140, 1707, 16], 0), (43, .ifCond .ne 51, 3, [], 0)]),
  (46, [(46, .aload_n 0, 1, [], 0), (47, .invokevirtual 465, 3, [0, 4, 1, 143, 1719, 16], 0), (50, .aload_n 0, 1, [], 0), (51, .invokevirtual 443, 3, [0, 5, 1, 152, 1730, 16], 0), (54, .aload_n 0, 1, [], 0), (55, .aload_n 0, 1, [], 0), (56, .getfield 406, 3, [12, 48, 0, 0, 1370, 0], 0), (59, .putfield 165, 3, [12, 42, 0, 0, 0, 1364], 0), (62, .aload_n 0, 1, [], 0), (63, .aload_n 0, 1, [], 0), (64, .getfield 409, 3, [12, 49, 0, 0, 1371, 0], 0), (67, .putfield 168, 3, [12, 43, 0, 0, 0, 1365], 0), (70, .aload_n 0, 1, [], 0), (71, .aload_n 0, 1, [], 0), (72, .getfield 412, 3, [12, 50, 0, 0, 1372, 0], 0), (75, .putfield 171, 3, [12, 44, 0, 0, 0, 1366], 0), (78, .aload_n 0, 1, [], 0), (79, .dup, 1, [], 0), (80, .getfield 174, 3, [12, 46, 0, 0, 1368, 0], 0), (83, .iconst 1, 1, [], 0), (84, .iadd, 1, [], 0), (85, .putfield 174, 3, [12, 46, 0, 0, 0, 1368], 0), (88, .iinc 2 1, 3, [], 0), (91, .goto (-57), 3, [], 0)]),
  (94, [(94, .aload_n 0, 1, [], 0), (95, .getfield 165, 3, [12, 42, 0, 0, 1364, 0], 0), (98, .ireturn, 1, [], 0)])]
def BX12_ticks_34 (n : Nat) : Nat → Int → Int → Hp → Option (Int × Hp)
  | 0, _, _, _ => none
  | f + 1, x1, x2, h =>
    (if x1 ≤ x2 then
    (some ((h 113 42), h))
    else
    (bndp (MX12_isDone h) fun r1 =>
    (if r1 ≠ 0 then
    (some ((h 113 42), h))
    else
    (bndh (MX12_remembers n h) fun h1 =>
    (bndh (MX12_tick n h1) fun h2 =>
    (ltt (up h2 113 42 (h2 113 48)) fun h3 =>
    (ltt (up h3 113 43 (h3 113 49)) fun h4 =>
    (ltt (up h4 113 44 (h4 113 50)) fun h5 =>
    (ltt (up h5 113 46 (w32 ((h5 113 46) + 1))) fun h6 =>
    (ltt (w32 (x2 + 1)) fun y1 =>
    (BX12_ticks_34 n f x1 y1 h6)))))))))))
def LX12_ticks_34 (n : Nat) (x1 x2 : Int) (h : Hp) : Option (Int × Hp) :=
(BX12_ticks_34 n n x1 x2 h)
def MX12_ticks (n : Nat) (x1 : Int) (h : Hp) : Option (Int × Hp) :=
(bndp (MX12_in x1 1 60) fun r1 =>
(if r1 ≠ 0 then
(bndh (MX12_laysNow n h) fun h1 =>
(bndh (MX12_begins h1) fun h2 =>
(bndp (MX12_isDone h2) fun r2 =>
(if r2 = 0 then
(ltt 0 fun y1 =>
(LX12_ticks_34 n x1 y1 h2))
else
(some ((-2), h2))))))
else
(some ((-1), h))))
def wX12_ticks {ρ : Type} (n : Nat) : FN ρ := fun a h k => match a with
  | [_, x1] => bnd (MX12_ticks n x1 h) (fun r h2 => k r h2)
  | _ => none
def fsX12_ticks (n : Nat) (ρ : Type) : List (FN ρ) := [wX12_in, wX12_laysNow n, wX12_begins, wX12_isDone, wX12_remembers n, wX12_tick n]
def KBX12_ticks_34 (_ : Nat) (bk : Int → Int → Hp → Option (Int × Hp)) : CT (Int × Hp) := [(34, [(0, 16, (some 113)), (1, 0, none), (2, 0, none)], [], fun a c h => match a, c with
    | [x1, x2], [] => bk x1 x2 h
    | _, _ => none)]
set_option maxRecDepth 100000 in
theorem eBX12_ticks_34 (n f : Nat) (x1 : Int) (x2 : Int) (h : Hp) : BX12_ticks_34 n (f + 1) x1 x2 h =
  goAt false (kct (KBX12_ticks_34 n (BX12_ticks_34 n f))) (fun v h => some ((v, h))) (fsX12_ticks n _) sdX12_ticks 1000 34 [(0, 16, 113), (1, 0, x1), (2, 0, x2)] [] h := rfl
def KMX12_ticks (n : Nat) : CT (Int × Hp) := [(34, [(0, 16, (some 113)), (1, 0, none), (2, 0, none)], [], fun a c h => match a, c with
    | [x1, x2], [] => LX12_ticks_34 n x1 x2 h
    | _, _ => none)]
set_option maxRecDepth 100000 in
theorem eMX12_ticks (n : Nat) (x1 : Int) (h : Hp) : MX12_ticks n x1 h =
  goAt false (kct (KMX12_ticks n)) (fun v h => some ((v, h))) (fsX12_ticks n _) sdX12_ticks 1000 0 [(0, 16, 113), (1, 0, x1)] [] h := rfl
theorem okX12_ticks : mokb (mi 153) = true := by decide +kernel
theorem rkX12_ticks : rkOK 1 (mi 153).1.2.2.2.2.2.2.1 (mi 153).1.2.2.2.1 := Or.inr (Or.inl ⟨rfl, rfl, rfl⟩)
def calX12_ticks : List Nat := [81, 116, 137, 140, 143, 152]
theorem foX12_ticks {l : Launch} {ρ : Type} (n : Nat) : fsOK l false mi calX12_ticks (fsX12_ticks n ρ) := ⟨sndX12_in, ⟨(sndX12_laysNow n), ⟨sndX12_begins, ⟨sndX12_isDone, ⟨(sndX12_remembers n), ⟨(sndX12_tick n), trivial⟩⟩⟩⟩⟩⟩
theorem ok_sdX12_ticks : sdb (mi 153).1.2.1 (insOK mi (mi 153).1.1.cls (mi 153).1.2.2.1 (mi 153).1.2.2.2.2.1 (mi 153).1.2.2.2.2.2.1 calX12_ticks false 1) sdX12_ticks = true := by decide +kernel
theorem sBX12_ticks_34 {l : Launch} {h0 h' : Hp} {v : Int} (h8 : nOf h0 = 148) (n : Nat) : ∀ (f : Nat) (x1 : Int) (x2 : Int) (h : Hp) {r : Int × Hp}, BX12_ticks_34 n f x1 x2 h = some r → gWV v h' r → PAt l false (mi 153).1 h0 v h' 34 [(0, 16, 113), (1, 0, x1), (2, 0, x2)] [] h := by
  intro f
  induction f with
  | zero =>
    intro x1 x2 h r H _
    have H2 : (none : Option (Int × Hp)) = some r := H
    cases H2
  | succ f ih =>
    intro x1 x2 h r H hG
    exact pat_w ok_sdX12_ticks rkX12_ticks h8 (foX12_ticks n) (fun v1 h1 q => by
    cases q
    exact ⟨hG.1, fun _ => hG.2⟩) (List.forall_mem_cons.mpr ⟨(fun a c h H => by
      dsimp only at H
      split at H
      · exact ih _ _ _ H hG
      · cases H), (fun q9 h9 => by cases h9)⟩) ((eBX12_ticks_34 n f x1 x2 h).symm.trans H)
theorem sLX12_ticks_34 {l : Launch} {h0 h' : Hp} {v : Int} (h8 : nOf h0 = 148) (n : Nat) (x1 : Int) (x2 : Int) (h : Hp) {r : Int × Hp} (H : LX12_ticks_34 n x1 x2 h = some r) (hG : gWV v h' r) : PAt l false (mi 153).1 h0 v h' 34 [(0, 16, 113), (1, 0, x1), (2, 0, x2)] [] h :=
  sBX12_ticks_34 h8 n n x1 x2 h H hG
theorem sMX12_ticks {l : Launch} {h0 h' : Hp} {v : Int} (h8 : nOf h0 = 148) (n : Nat) (x1 : Int) (h : Hp) {r : Int × Hp} (H : MX12_ticks n x1 h = some r) (hG : gWV v h' r) : PAt l false (mi 153).1 h0 v h' 0 [(0, 16, 113), (1, 0, x1)] [] h :=
  pat_w ok_sdX12_ticks rkX12_ticks h8 (foX12_ticks n) (fun v1 h1 q => by
    cases q
    exact ⟨hG.1, fun _ => hG.2⟩) (List.forall_mem_cons.mpr ⟨(fun a c h H => by
      dsimp only at H
      split at H
      · exact sLX12_ticks_34 h8 n _ _ _ H hG
      · cases H), (fun q9 h9 => by cases h9)⟩) ((eMX12_ticks n x1 h).symm.trans H)
theorem sndX12_ticks {ρ : Type} {l : Launch} (n : Nat) : SndF (ρ := ρ) l false (mi 153).1 (wX12_ticks n) := by
    intro a h k r H ha ho hn hf
    have h8 := hf rfl
    obtain ⟨x0, x1, rfl⟩ := len2 (show a.length = 2 from ha)
    have u0 := uq16 hn (ho (16, x0) (List.mem_cons_self))
    subst u0
    replace H : bnd (MX12_ticks n x1 h) (fun r h2 => k r h2) = some r := H
    obtain ⟨v2, h2, H1, H2⟩ := bnd_some H
    exact ⟨v2, h2, H2, met_mk (mok_base okX12_ticks).1 (by decide +kernel) (Nat.le_of_ble_eq_true rfl) ho (sMX12_ticks h8 n x1 h H1 ⟨rfl, rfl⟩), fun q => by cases q⟩
/-! X11_give -/
def sdX11_give : SD := [(0, [(0, .iload_n 1, 1, [], 0), (1, .iconst 1, 1, [], 0), (2, .if_icmp .lt 21, 3, [], 0)]),
  (5, [(5, .iload_n 1, 1, [], 0), (6, .sipush 200, 3, [], 0), (9, .if_icmp .gt 14, 3, [], 0)]),
  (12, [(12, .iload_n 1, 1, [], 0), (13, .aload_n 0, 1, [], 0), (14, .getfield 57, 3, [11, 7, 12, 1, 697, 0], 64), (17, .getfield 203, 3, [8, 4, 0, 0, 494, 0], 0), (20, .if_icmp .ne 5, 3, [], 0)]),
  (23, [(23, .iconst (-1), 1, [], 0), (24, .ireturn, 1, [], 0)]),
  (25, [(25, .aload_n 0, 1, [], 0), (26, .getfield 57, 3, [11, 7, 12, 1, 697, 0], 64), (29, .getfield 203, 3, [8, 4, 0, 0, 494, 0], 0), (32, .istore_n 2, 1, [], 0), (33, .aload_n 0, 1, [], 0), (34, .getfield 67, 3, [11, 9, 9, 1, 699, 0], 66), (37, .aload_n 0, 1, [], 0), (38, .getfield 57, 3, [11, 7, 12, 1, 697, 0], 64), (41, .invokevirtual 192, 3, [0, 0, 1, 125, 1015, 12, 9], 0), (44, .aload_n 0, 1, [], 0), (45, .getfield 57, 3, [11, 7, 12, 1, 697, 0], 64), (48, .iload_n 1, 1, [], 0), (49, .putfield 203, 3, [8, 4, 0, 0, 0, 494], 0), (52, .aload_n 0, 1, [], 0), (53, .getfield 47, 3, [11, 5, 5, 1, 695, 0], 50), (56, .iload_n 1, 1, [], 0), (57, .invokevirtual 125, 3, [1, 1, 1, 59, 601, 0, 5], 0), (60, .pop, 1, [], 0), (61, .iload_n 2, 1, [], 0), (62, .ireturn, 1, [], 0)])]
def MX11_give (n : Nat) (x1 : Int) (h : Hp) : Option (Int × Hp) :=
(if x1 < 1 then
(some ((-1), h))
else
(if 200 < x1 then
(some ((-1), h))
else
(if x1 ≠ (h 64 4) then
(ltt (h 64 4) fun y1 =>
(bndh (MX5_note 64 h) fun h1 =>
(ltt (up h1 64 4 x1) fun h2 =>
(bnd (MX1_grant n 50 x1 h2) fun r1 h3 =>
(some (y1, h3))))))
else
(some ((-1), h)))))
def wX11_give {ρ : Type} (n : Nat) : FN ρ := fun a h k => match a with
  | [_, x1] => bnd (MX11_give n x1 h) (fun r h2 => k r h2)
  | _ => none
def fsX11_give (n : Nat) (ρ : Type) : List (FN ρ) := [wX5_note, wX1_grant n]
def KMX11_give (_ : Nat) : CT (Int × Hp) := []
set_option maxRecDepth 100000 in
theorem eMX11_give (n : Nat) (x1 : Int) (h : Hp) : MX11_give n x1 h =
  goAt false (kct (KMX11_give n)) (fun v h => some ((v, h))) (fsX11_give n _) sdX11_give 1000 0 [(0, 15, 0), (1, 0, x1)] [] h := rfl
theorem okX11_give : mokb (mi 154) = true := by decide +kernel
theorem rkX11_give : rkOK 1 (mi 154).1.2.2.2.2.2.2.1 (mi 154).1.2.2.2.1 := Or.inr (Or.inl ⟨rfl, rfl, rfl⟩)
def calX11_give : List Nat := [125, 59]
theorem foX11_give {l : Launch} {ρ : Type} (n : Nat) : fsOK l false mi calX11_give (fsX11_give n ρ) := ⟨sndX5_note, ⟨(sndX1_grant n), trivial⟩⟩
theorem ok_sdX11_give : sdb (mi 154).1.2.1 (insOK mi (mi 154).1.1.cls (mi 154).1.2.2.1 (mi 154).1.2.2.2.2.1 (mi 154).1.2.2.2.2.2.1 calX11_give false 1) sdX11_give = true := by decide +kernel
theorem sMX11_give {l : Launch} {h0 h' : Hp} {v : Int} (h8 : nOf h0 = 148) (n : Nat) (x1 : Int) (h : Hp) {r : Int × Hp} (H : MX11_give n x1 h = some r) (hG : gWV v h' r) : PAt l false (mi 154).1 h0 v h' 0 [(0, 15, 0), (1, 0, x1)] [] h :=
  pat_w ok_sdX11_give rkX11_give h8 (foX11_give n) (fun v1 h1 q => by
    cases q
    exact ⟨hG.1, fun _ => hG.2⟩) (fun q9 h9 => by cases h9) ((eMX11_give n x1 h).symm.trans H)
theorem sndX11_give {ρ : Type} {l : Launch} (n : Nat) : SndF (ρ := ρ) l false (mi 154).1 (wX11_give n) := by
    intro a h k r H ha ho hn hf
    have h8 := hf rfl
    obtain ⟨x0, x1, rfl⟩ := len2 (show a.length = 2 from ha)
    have u0 := uq15 hn (ho (15, x0) (List.mem_cons_self))
    subst u0
    replace H : bnd (MX11_give n x1 h) (fun r h2 => k r h2) = some r := H
    obtain ⟨v2, h2, H1, H2⟩ := bnd_some H
    exact ⟨v2, h2, H2, met_mk (mok_base okX11_give).1 (by decide +kernel) (Nat.le_of_ble_eq_true rfl) ho (sMX11_give h8 n x1 h H1 ⟨rfl, rfl⟩), fun q => by cases q⟩
/-! X12_give -/
def sdX12_give : SD := [(0, [(0, .iload_n 1, 1, [], 0), (1, .i2l, 1, [], 0), (2, .lconst 1, 1, [], 0), (3, .ldc2_w 468, 3, [1, 1769], 200), (6, .invokestatic 217, 3, [1, 0, 3, 81, 1561, 1, 1, 1], 0), (9, .ifCond .eq 11, 3, [], 0)]),
  (12, [(12, .iload_n 1, 1, [], 0), (13, .aload_n 0, 1, [], 0), (14, .getfield 158, 3, [12, 45, 0, 0, 1367, 0], 0), (17, .if_icmp .ne 5, 3, [], 0)]),
  (20, [(20, .iconst (-1), 1, [], 0), (21, .ireturn, 1, [], 0)]),
  (22, [(22, .aload_n 0, 1, [], 0), (23, .invokevirtual 465, 3, [0, 1, 1, 143, 1719, 16], 0), (26, .aload_n 0, 1, [], 0), (27, .getfield 158, 3, [12, 45, 0, 0, 1367, 0], 0), (30, .istore_n 2, 1, [], 0), (31, .aload_n 0, 1, [], 0), (32, .iload_n 1, 1, [], 0), (33, .putfield 158, 3, [12, 45, 0, 0, 0, 1367], 0), (36, .iload_n 2, 1, [], 0), (37, .ireturn, 1, [], 0)])]
def MX12_give (n : Nat) (x1 : Int) (h : Hp) : Option (Int × Hp) :=
(bndp (MX12_in x1 1 200) fun r1 =>
(if r1 = 0 then
(some ((-1), h))
else
(if x1 ≠ (h 113 45) then
(bndh (MX12_remembers n h) fun h1 =>
(ltt (h1 113 45) fun y1 =>
(ltt (up h1 113 45 x1) fun h2 =>
(some (y1, h2)))))
else
(some ((-1), h)))))
def wX12_give {ρ : Type} (n : Nat) : FN ρ := fun a h k => match a with
  | [_, x1] => bnd (MX12_give n x1 h) (fun r h2 => k r h2)
  | _ => none
def fsX12_give (n : Nat) (ρ : Type) : List (FN ρ) := [wX12_in, wX12_remembers n]
def KMX12_give (_ : Nat) : CT (Int × Hp) := []
set_option maxRecDepth 100000 in
theorem eMX12_give (n : Nat) (x1 : Int) (h : Hp) : MX12_give n x1 h =
  goAt false (kct (KMX12_give n)) (fun v h => some ((v, h))) (fsX12_give n _) sdX12_give 1000 0 [(0, 16, 113), (1, 0, x1)] [] h := rfl
theorem okX12_give : mokb (mi 155) = true := by decide +kernel
theorem rkX12_give : rkOK 1 (mi 155).1.2.2.2.2.2.2.1 (mi 155).1.2.2.2.1 := Or.inr (Or.inl ⟨rfl, rfl, rfl⟩)
def calX12_give : List Nat := [81, 143]
theorem foX12_give {l : Launch} {ρ : Type} (n : Nat) : fsOK l false mi calX12_give (fsX12_give n ρ) := ⟨sndX12_in, ⟨(sndX12_remembers n), trivial⟩⟩
theorem ok_sdX12_give : sdb (mi 155).1.2.1 (insOK mi (mi 155).1.1.cls (mi 155).1.2.2.1 (mi 155).1.2.2.2.2.1 (mi 155).1.2.2.2.2.2.1 calX12_give false 1) sdX12_give = true := by decide +kernel
theorem sMX12_give {l : Launch} {h0 h' : Hp} {v : Int} (h8 : nOf h0 = 148) (n : Nat) (x1 : Int) (h : Hp) {r : Int × Hp} (H : MX12_give n x1 h = some r) (hG : gWV v h' r) : PAt l false (mi 155).1 h0 v h' 0 [(0, 16, 113), (1, 0, x1)] [] h :=
  pat_w ok_sdX12_give rkX12_give h8 (foX12_give n) (fun v1 h1 q => by
    cases q
    exact ⟨hG.1, fun _ => hG.2⟩) (fun q9 h9 => by cases h9) ((eMX12_give n x1 h).symm.trans H)
theorem sndX12_give {ρ : Type} {l : Launch} (n : Nat) : SndF (ρ := ρ) l false (mi 155).1 (wX12_give n) := by
    intro a h k r H ha ho hn hf
    have h8 := hf rfl
    obtain ⟨x0, x1, rfl⟩ := len2 (show a.length = 2 from ha)
    have u0 := uq16 hn (ho (16, x0) (List.mem_cons_self))
    subst u0
    replace H : bnd (MX12_give n x1 h) (fun r h2 => k r h2) = some r := H
    obtain ⟨v2, h2, H1, H2⟩ := bnd_some H
    exact ⟨v2, h2, H2, met_mk (mok_base okX12_give).1 (by decide +kernel) (Nat.le_of_ble_eq_true rfl) ho (sMX12_give h8 n x1 h H1 ⟨rfl, rfl⟩), fun q => by cases q⟩
/-! X11_hold -/
def sdX11_hold : SD := [(0, [(0, .aload_n 0, 1, [], 0), (1, .getfield 57, 3, [11, 7, 12, 1, 697, 0], 64), (4, .getfield 206, 3, [8, 5, 0, 0, 497, 0], 0), (7, .ifCond .eq 5, 3, [], 0)]),
  (10, [(10, .iconst 0, 1, [], 0), (11, .ireturn, 1, [1], 0)]),
  (12, [(12, .aload_n 0, 1, [], 0), (13, .getfield 67, 3, [11, 9, 9, 1, 699, 0], 66), (16, .aload_n 0, 1, [], 0), (17, .getfield 57, 3, [11, 7, 12, 1, 697, 0], 64), (20, .invokevirtual 192, 3, [0, 0, 1, 125, 1015, 12, 9], 0), (23, .aload_n 0, 1, [], 0), (24, .getfield 57, 3, [11, 7, 12, 1, 697, 0], 64), (27, .iconst 1, 1, [], 0), (28, .putfield 206, 3, [8, 5, 0, 0, 1, 497], 0), (31, .iconst 1, 1, [], 0), (32, .ireturn, 1, [1], 0)])]
def MX11_hold (h : Hp) : Option (Int × Hp) :=
(if (h 64 5) = 0 then
(bndh (MX5_note 64 h) fun h1 =>
(ltt (up h1 64 5 1) fun h2 =>
(some (1, h2))))
else
(some (0, h)))
def wX11_hold {ρ : Type} : FN ρ := fun a h k => match a with
  | [_] => bnd (MX11_hold h) (fun r h2 => k r h2)
  | _ => none
def fsX11_hold (ρ : Type) : List (FN ρ) := [wX5_note]
def KMX11_hold  : CT (Int × Hp) := []
set_option maxRecDepth 100000 in
theorem eMX11_hold (h : Hp) : MX11_hold h =
  goAt false (kct (KMX11_hold)) (fun v h => some ((v, h))) (fsX11_hold _) sdX11_hold 1000 0 [(0, 15, 0)] [] h := rfl
theorem okX11_hold : mokb (mi 156) = true := by decide +kernel
theorem rkX11_hold : rkOK 4 (mi 156).1.2.2.2.2.2.2.1 (mi 156).1.2.2.2.1 := Or.inr (Or.inr (Or.inl ⟨rfl, rfl, rfl⟩))
def calX11_hold : List Nat := [125]
theorem foX11_hold {l : Launch} {ρ : Type} : fsOK l false mi calX11_hold (fsX11_hold ρ) := ⟨sndX5_note, trivial⟩
theorem ok_sdX11_hold : sdb (mi 156).1.2.1 (insOK mi (mi 156).1.1.cls (mi 156).1.2.2.1 (mi 156).1.2.2.2.2.1 (mi 156).1.2.2.2.2.2.1 calX11_hold false 4) sdX11_hold = true := by decide +kernel
theorem sMX11_hold {l : Launch} {h0 h' : Hp} {v : Int} (h8 : nOf h0 = 148)   (h : Hp) {r : Int × Hp} (H : MX11_hold h = some r) (hG : gWV v h' r) : PAt l false (mi 156).1 h0 v h' 0 [(0, 15, 0)] [] h :=
  pat_w ok_sdX11_hold rkX11_hold h8 (foX11_hold) (fun v1 h1 q => by
    cases q
    exact ⟨hG.1, fun _ => hG.2⟩) (fun q9 h9 => by cases h9) ((eMX11_hold h).symm.trans H)
theorem sndX11_hold {ρ : Type} {l : Launch} : SndF (ρ := ρ) l false (mi 156).1 (wX11_hold) := by
    intro a h k r H ha ho hn hf
    have h8 := hf rfl
    obtain ⟨x0, rfl⟩ := len1 (show a.length = 1 from ha)
    have u0 := uq15 hn (ho (15, x0) (List.mem_cons_self))
    subst u0
    replace H : bnd (MX11_hold h) (fun r h2 => k r h2) = some r := H
    obtain ⟨v2, h2, H1, H2⟩ := bnd_some H
    exact ⟨v2, h2, H2, met_mk (mok_base okX11_hold).1 (by decide +kernel) (Nat.le_of_ble_eq_true rfl) ho (sMX11_hold h8  h H1 ⟨rfl, rfl⟩), fun q => by cases q⟩
/-! X12_hold -/
def sdX12_hold : SD := [(0, [(0, .aload_n 0, 1, [], 0), (1, .getfield 161, 3, [12, 47, 0, 0, 1369, 0], 0), (4, .ifCond .eq 5, 3, [], 0)]),
  (7, [(7, .iconst 0, 1, [], 0), (8, .ireturn, 1, [1], 0)]),
  (9, [(9, .aload_n 0, 1, [], 0), (10, .invokevirtual 465, 3, [0, 0, 1, 143, 1719, 16], 0), (13, .aload_n 0, 1, [], 0), (14, .iconst 1, 1, [], 0), (15, .putfield 161, 3, [12, 47, 0, 0, 1, 1369], 0), (18, .iconst 1, 1, [], 0), (19, .ireturn, 1, [1], 0)])]
def MX12_hold (n : Nat) (h : Hp) : Option (Int × Hp) :=
(if (h 113 47) = 0 then
(bndh (MX12_remembers n h) fun h1 =>
(ltt (up h1 113 47 1) fun h2 =>
(some (1, h2))))
else
(some (0, h)))
def wX12_hold {ρ : Type} (n : Nat) : FN ρ := fun a h k => match a with
  | [_] => bnd (MX12_hold n h) (fun r h2 => k r h2)
  | _ => none
def fsX12_hold (n : Nat) (ρ : Type) : List (FN ρ) := [wX12_remembers n]
def KMX12_hold (_ : Nat) : CT (Int × Hp) := []
set_option maxRecDepth 100000 in
theorem eMX12_hold (n : Nat) (h : Hp) : MX12_hold n h =
  goAt false (kct (KMX12_hold n)) (fun v h => some ((v, h))) (fsX12_hold n _) sdX12_hold 1000 0 [(0, 16, 113)] [] h := rfl
theorem okX12_hold : mokb (mi 157) = true := by decide +kernel
theorem rkX12_hold : rkOK 4 (mi 157).1.2.2.2.2.2.2.1 (mi 157).1.2.2.2.1 := Or.inr (Or.inr (Or.inl ⟨rfl, rfl, rfl⟩))
def calX12_hold : List Nat := [143]
theorem foX12_hold {l : Launch} {ρ : Type} (n : Nat) : fsOK l false mi calX12_hold (fsX12_hold n ρ) := ⟨(sndX12_remembers n), trivial⟩
theorem ok_sdX12_hold : sdb (mi 157).1.2.1 (insOK mi (mi 157).1.1.cls (mi 157).1.2.2.1 (mi 157).1.2.2.2.2.1 (mi 157).1.2.2.2.2.2.1 calX12_hold false 4) sdX12_hold = true := by decide +kernel
theorem sMX12_hold {l : Launch} {h0 h' : Hp} {v : Int} (h8 : nOf h0 = 148) (n : Nat)  (h : Hp) {r : Int × Hp} (H : MX12_hold n h = some r) (hG : gWV v h' r) : PAt l false (mi 157).1 h0 v h' 0 [(0, 16, 113)] [] h :=
  pat_w ok_sdX12_hold rkX12_hold h8 (foX12_hold n) (fun v1 h1 q => by
    cases q
    exact ⟨hG.1, fun _ => hG.2⟩) (fun q9 h9 => by cases h9) ((eMX12_hold n h).symm.trans H)
theorem sndX12_hold {ρ : Type} {l : Launch} (n : Nat) : SndF (ρ := ρ) l false (mi 157).1 (wX12_hold n) := by
    intro a h k r H ha ho hn hf
    have h8 := hf rfl
    obtain ⟨x0, rfl⟩ := len1 (show a.length = 1 from ha)
    have u0 := uq16 hn (ho (16, x0) (List.mem_cons_self))
    subst u0
    replace H : bnd (MX12_hold n h) (fun r h2 => k r h2) = some r := H
    obtain ⟨v2, h2, H1, H2⟩ := bnd_some H
    exact ⟨v2, h2, H2, met_mk (mok_base okX12_hold).1 (by decide +kernel) (Nat.le_of_ble_eq_true rfl) ho (sMX12_hold h8 n  h H1 ⟨rfl, rfl⟩), fun q => by cases q⟩
/-! X11_letGo -/
def sdX11_letGo : SD := [(0, [(0, .aload_n 0, 1, [], 0), (1, .getfield 57, 3, [11, 7, 12, 1, 697, 0], 64), (4, .getfield 206, 3, [8, 5, 0, 0, 497, 0], 0), (7, .ifCond .ne 5, 3, [], 0)]),
  (10, [(10, .iconst 0, 1, [], 0), (11, .ireturn, 1, [1], 0)]),
  (12, [(12, .aload_n 0, 1, [], 0), (13, .getfield 67, 3, [11, 9, 9, 1, 699, 0], 66), (16, .aload_n 0, 1, [], 0), (17, .getfield 57, 3, [11, 7, 12, 1, 697, 0], 64), (20, .invokevirtual 192, 3, [0, 0, 1, 125, 1015, 12, 9], 0), (23, .aload_n 0, 1, [], 0), (24, .getfield 57, 3, [11, 7, 12, 1, 697, 0], 64), (27, .iconst 0, 1, [], 0), (28, .putfield 206, 3, [8, 5, 0, 0, 1, 497], 0), (31, .iconst 1, 1, [], 0), (32, .ireturn, 1, [1], 0)])]
def MX11_letGo (h : Hp) : Option (Int × Hp) :=
(if (h 64 5) ≠ 0 then
(bndh (MX5_note 64 h) fun h1 =>
(ltt (up h1 64 5 0) fun h2 =>
(some (1, h2))))
else
(some (0, h)))
def wX11_letGo {ρ : Type} : FN ρ := fun a h k => match a with
  | [_] => bnd (MX11_letGo h) (fun r h2 => k r h2)
  | _ => none
def fsX11_letGo (ρ : Type) : List (FN ρ) := [wX5_note]
def KMX11_letGo  : CT (Int × Hp) := []
set_option maxRecDepth 100000 in
theorem eMX11_letGo (h : Hp) : MX11_letGo h =
  goAt false (kct (KMX11_letGo)) (fun v h => some ((v, h))) (fsX11_letGo _) sdX11_letGo 1000 0 [(0, 15, 0)] [] h := rfl
theorem okX11_letGo : mokb (mi 158) = true := by decide +kernel
theorem rkX11_letGo : rkOK 4 (mi 158).1.2.2.2.2.2.2.1 (mi 158).1.2.2.2.1 := Or.inr (Or.inr (Or.inl ⟨rfl, rfl, rfl⟩))
def calX11_letGo : List Nat := [125]
theorem foX11_letGo {l : Launch} {ρ : Type} : fsOK l false mi calX11_letGo (fsX11_letGo ρ) := ⟨sndX5_note, trivial⟩
theorem ok_sdX11_letGo : sdb (mi 158).1.2.1 (insOK mi (mi 158).1.1.cls (mi 158).1.2.2.1 (mi 158).1.2.2.2.2.1 (mi 158).1.2.2.2.2.2.1 calX11_letGo false 4) sdX11_letGo = true := by decide +kernel
theorem sMX11_letGo {l : Launch} {h0 h' : Hp} {v : Int} (h8 : nOf h0 = 148)   (h : Hp) {r : Int × Hp} (H : MX11_letGo h = some r) (hG : gWV v h' r) : PAt l false (mi 158).1 h0 v h' 0 [(0, 15, 0)] [] h :=
  pat_w ok_sdX11_letGo rkX11_letGo h8 (foX11_letGo) (fun v1 h1 q => by
    cases q
    exact ⟨hG.1, fun _ => hG.2⟩) (fun q9 h9 => by cases h9) ((eMX11_letGo h).symm.trans H)
theorem sndX11_letGo {ρ : Type} {l : Launch} : SndF (ρ := ρ) l false (mi 158).1 (wX11_letGo) := by
    intro a h k r H ha ho hn hf
    have h8 := hf rfl
    obtain ⟨x0, rfl⟩ := len1 (show a.length = 1 from ha)
    have u0 := uq15 hn (ho (15, x0) (List.mem_cons_self))
    subst u0
    replace H : bnd (MX11_letGo h) (fun r h2 => k r h2) = some r := H
    obtain ⟨v2, h2, H1, H2⟩ := bnd_some H
    exact ⟨v2, h2, H2, met_mk (mok_base okX11_letGo).1 (by decide +kernel) (Nat.le_of_ble_eq_true rfl) ho (sMX11_letGo h8  h H1 ⟨rfl, rfl⟩), fun q => by cases q⟩
/-! X12_letGo -/
def sdX12_letGo : SD := [(0, [(0, .aload_n 0, 1, [], 0), (1, .getfield 161, 3, [12, 47, 0, 0, 1369, 0], 0), (4, .ifCond .ne 5, 3, [], 0)]),
  (7, [(7, .iconst 0, 1, [], 0), (8, .ireturn, 1, [1], 0)]),
  (9, [(9, .aload_n 0, 1, [], 0), (10, .invokevirtual 465, 3, [0, 0, 1, 143, 1719, 16], 0), (13, .aload_n 0, 1, [], 0), (14, .iconst 0, 1, [], 0), (15, .putfield 161, 3, [12, 47, 0, 0, 1, 1369], 0), (18, .iconst 1, 1, [], 0), (19, .ireturn, 1, [1], 0)])]
def MX12_letGo (n : Nat) (h : Hp) : Option (Int × Hp) :=
(if (h 113 47) ≠ 0 then
(bndh (MX12_remembers n h) fun h1 =>
(ltt (up h1 113 47 0) fun h2 =>
(some (1, h2))))
else
(some (0, h)))
def wX12_letGo {ρ : Type} (n : Nat) : FN ρ := fun a h k => match a with
  | [_] => bnd (MX12_letGo n h) (fun r h2 => k r h2)
  | _ => none
def fsX12_letGo (n : Nat) (ρ : Type) : List (FN ρ) := [wX12_remembers n]
def KMX12_letGo (_ : Nat) : CT (Int × Hp) := []
set_option maxRecDepth 100000 in
theorem eMX12_letGo (n : Nat) (h : Hp) : MX12_letGo n h =
  goAt false (kct (KMX12_letGo n)) (fun v h => some ((v, h))) (fsX12_letGo n _) sdX12_letGo 1000 0 [(0, 16, 113)] [] h := rfl
theorem okX12_letGo : mokb (mi 159) = true := by decide +kernel
theorem rkX12_letGo : rkOK 4 (mi 159).1.2.2.2.2.2.2.1 (mi 159).1.2.2.2.1 := Or.inr (Or.inr (Or.inl ⟨rfl, rfl, rfl⟩))
def calX12_letGo : List Nat := [143]
theorem foX12_letGo {l : Launch} {ρ : Type} (n : Nat) : fsOK l false mi calX12_letGo (fsX12_letGo n ρ) := ⟨(sndX12_remembers n), trivial⟩
theorem ok_sdX12_letGo : sdb (mi 159).1.2.1 (insOK mi (mi 159).1.1.cls (mi 159).1.2.2.1 (mi 159).1.2.2.2.2.1 (mi 159).1.2.2.2.2.2.1 calX12_letGo false 4) sdX12_letGo = true := by decide +kernel
theorem sMX12_letGo {l : Launch} {h0 h' : Hp} {v : Int} (h8 : nOf h0 = 148) (n : Nat)  (h : Hp) {r : Int × Hp} (H : MX12_letGo n h = some r) (hG : gWV v h' r) : PAt l false (mi 159).1 h0 v h' 0 [(0, 16, 113)] [] h :=
  pat_w ok_sdX12_letGo rkX12_letGo h8 (foX12_letGo n) (fun v1 h1 q => by
    cases q
    exact ⟨hG.1, fun _ => hG.2⟩) (fun q9 h9 => by cases h9) ((eMX12_letGo n h).symm.trans H)
theorem sndX12_letGo {ρ : Type} {l : Launch} (n : Nat) : SndF (ρ := ρ) l false (mi 159).1 (wX12_letGo n) := by
    intro a h k r H ha ho hn hf
    have h8 := hf rfl
    obtain ⟨x0, rfl⟩ := len1 (show a.length = 1 from ha)
    have u0 := uq16 hn (ho (16, x0) (List.mem_cons_self))
    subst u0
    replace H : bnd (MX12_letGo n h) (fun r h2 => k r h2) = some r := H
    obtain ⟨v2, h2, H1, H2⟩ := bnd_some H
    exact ⟨v2, h2, H2, met_mk (mok_base okX12_letGo).1 (by decide +kernel) (Nat.le_of_ble_eq_true rfl) ho (sMX12_letGo h8 n  h H1 ⟨rfl, rfl⟩), fun q => by cases q⟩
/-! X5_recall -/
def sdX5_recall : SD := [(0, [(0, .aload_n 0, 1, [], 0), (1, .getfield 16, 3, [5, 1, 0, 0, 525, 0], 0), (4, .ifCond .ne 8, 3, [], 0)]),
  (7, [(7, .bipush 19, 2, [], 0), (9, .goto 9, 3, [], 0)]),
  (12, [(12, .aload_n 0, 1, [], 0), (13, .getfield 16, 3, [5, 1, 0, 0, 525, 0], 0), (16, .iconst 1, 1, [], 0), (17, .isub, 1, [], 0)]),
  (18, [(18, .istore_n 2, 1, [], 0), (19, .aload_n 0, 1, [], 0), (20, .getfield 24, 3, [5, 2, 0, 0, 526, 0], 0), (23, .ifCond .eq 13, 3, [], 0)]),
  (26, [(26, .iload_n 2, 1, [], 0), (27, .ifCond .lt 9, 3, [], 0)]),
  (30, [(30, .iload_n 2, 1, [], 0), (31, .bipush 20, 2, [], 0), (33, .if_icmp .lt 4, 3, [], 0)]),
  (36, [(36, .return_, 1, [], 0)]),
  (37, [(37, .aload_n 1, 1, [], 0), (38, .aload_n 0, 1, [], 0), (39, .getfield 11, 3, [5, 0, 184, 1, 524, 0], 1), (42, .iload_n 2, 1, [], 0), (43, .aaload, 1, [], 0), (44, .invokevirtual 20, 3, [0, 0, 1, 124, 1019, 12, 12], 0), (47, .aload_n 0, 1, [], 0), (48, .iload_n 2, 1, [], 0), (49, .putfield 16, 3, [5, 1, 0, 0, 0, 525], 0), (52, .aload_n 0, 1, [], 0), (53, .dup, 1, [], 0), (54, .getfield 24, 3, [5, 2, 0, 0, 526, 0], 0), (57, .iconst 1, 1, [], 0), (58, .isub, 1, [], 0), (59, .putfield 24, 3, [5, 2, 0, 0, 0, 526], 0), (62, .return_, 1, [], 0)])]
def JX5_recall_18 (x1 z0 : Int) (h : Hp) : Option (Hp) :=
(ltt z0 fun y1 =>
(if (h 66 2) = 0 then
(some h)
else
(if y1 < 0 then
(some h)
else
(if y1 < 20 then
(grd (0 ≤ y1 ∧ y1 < alen 184)
(bndh (MX8_become x1 (68 + y1) h) fun h1 =>
(ltt (up h1 66 1 y1) fun h2 =>
(ltt (up h2 66 2 (w32 ((h2 66 2) - 1))) fun h3 =>
(some h3)))))
else
(some h)))))
def MX5_recall (x1 : Int) (h : Hp) : Option (Hp) :=
(if (h 66 1) ≠ 0 then
(JX5_recall_18 x1 (w32 ((h 66 1) - 1)) h)
else
(JX5_recall_18 x1 19 h))
def wX5_recall {ρ : Type} : FN ρ := fun a h k => match a with
  | [_, x1] => bndh (MX5_recall x1 h) (fun h2 => k 0 h2)
  | _ => none
def fsX5_recall (ρ : Type) : List (FN ρ) := [wX8_become]
def KJX5_recall_18  : CT (Hp) := []
set_option maxRecDepth 100000 in
theorem eJX5_recall_18 (x1 : Int) (z0 : Int) (h : Hp) : JX5_recall_18 x1 z0 h =
  goAt false (kct (KJX5_recall_18)) (fun _ h => some (h)) (fsX5_recall _) sdX5_recall 1000 18 [(0, 9, 66), (1, 12, x1)] [(0, z0)] h := rfl
def KMX5_recall  : CT (Hp) := [(18, [(0, 9, (some 66)), (1, 12, none)], [(0, none)], fun a c h => match a, c with
    | [x1], [z0] => JX5_recall_18 x1 z0 h
    | _, _ => none)]
set_option maxRecDepth 100000 in
theorem eMX5_recall (x1 : Int) (h : Hp) : MX5_recall x1 h =
  goAt false (kct (KMX5_recall)) (fun _ h => some (h)) (fsX5_recall _) sdX5_recall 1000 0 [(0, 9, 66), (1, 12, x1)] [] h := rfl
theorem okX5_recall : mokb (mi 160) = true := by decide +kernel
theorem rkX5_recall : rkOK 0 (mi 160).1.2.2.2.2.2.2.1 (mi 160).1.2.2.2.1 := Or.inl ⟨rfl, rfl, rfl⟩
def calX5_recall : List Nat := [124]
theorem foX5_recall {l : Launch} {ρ : Type} : fsOK l false mi calX5_recall (fsX5_recall ρ) := ⟨sndX8_become, trivial⟩
theorem ok_sdX5_recall : sdb (mi 160).1.2.1 (insOK mi (mi 160).1.1.cls (mi 160).1.2.2.1 (mi 160).1.2.2.2.2.1 (mi 160).1.2.2.2.2.2.1 calX5_recall false 0) sdX5_recall = true := by decide +kernel
theorem sJX5_recall_18 {l : Launch} {h0 h' : Hp} {v : Int} (h8 : nOf h0 = 148)  (x1 : Int) (z0 : Int) (h : Hp) {r : Hp} (H : JX5_recall_18 x1 z0 h = some r) (hG : gW h' r) : PAt l false (mi 160).1 h0 v h' 18 [(0, 9, 66), (1, 12, x1)] [(0, z0)] h :=
  pat_w ok_sdX5_recall rkX5_recall h8 (foX5_recall) (fun v1 h1 q => by
    cases q
    exact ⟨hG, fun q9 => absurd rfl q9⟩) (fun q9 h9 => by cases h9) ((eJX5_recall_18 x1 z0 h).symm.trans H)
theorem sMX5_recall {l : Launch} {h0 h' : Hp} {v : Int} (h8 : nOf h0 = 148)  (x1 : Int) (h : Hp) {r : Hp} (H : MX5_recall x1 h = some r) (hG : gW h' r) : PAt l false (mi 160).1 h0 v h' 0 [(0, 9, 66), (1, 12, x1)] [] h :=
  pat_w ok_sdX5_recall rkX5_recall h8 (foX5_recall) (fun v1 h1 q => by
    cases q
    exact ⟨hG, fun q9 => absurd rfl q9⟩) (List.forall_mem_cons.mpr ⟨(fun a c h H => by
      dsimp only at H
      split at H
      · exact sJX5_recall_18 h8 _ _ _ H hG
      · cases H), (fun q9 h9 => by cases h9)⟩) ((eMX5_recall x1 h).symm.trans H)
theorem sndX5_recall {ρ : Type} {l : Launch} : SndF (ρ := ρ) l false (mi 160).1 (wX5_recall) := by
    intro a h k r H ha ho hn hf
    have h8 := hf rfl
    obtain ⟨x0, x1, rfl⟩ := len2 (show a.length = 2 from ha)
    have u0 := uq9 hn (ho (9, x0) (List.mem_cons_self))
    subst u0
    replace H : bndh (MX5_recall x1 h) (fun h2 => k 0 h2) = some r := H
    obtain ⟨h2, H1, H2⟩ := bndh_some H
    exact ⟨0, h2, H2, met_mk (mok_base okX5_recall).1 (by decide +kernel) (Nat.le_of_ble_eq_true rfl) ho (sMX5_recall h8 x1 h H1 rfl), fun q => by cases q⟩
/-! X11_undo -/
def sdX11_undo : SD := [(0, [(0, .aload_n 0, 1, [], 0), (1, .getfield 67, 3, [11, 9, 9, 1, 699, 0], 66), (4, .getfield 210, 3, [5, 2, 0, 0, 527, 0], 0), (7, .ifCond .ne 6, 3, [], 0)]),
  (10, [(10, .bipush (-2), 2, [], 0), (12, .ireturn, 1, [], 0)]),
  (13, [(13, .aload_n 0, 1, [], 0), (14, .getfield 67, 3, [11, 9, 9, 1, 699, 0], 66), (17, .aload_n 0, 1, [], 0), (18, .getfield 57, 3, [11, 7, 12, 1, 697, 0], 64), (21, .invokevirtual 211, 3, [0, 0, 1, 160, 1082, 12, 9], 0), (24, .aload_n 0, 1, [], 0), (25, .getfield 47, 3, [11, 5, 5, 1, 695, 0], 50), (28, .aload_n 0, 1, [], 0), (29, .getfield 57, 3, [11, 7, 12, 1, 697, 0], 64), (32, .getfield 203, 3, [8, 4, 0, 0, 494, 0], 0), (35, .invokevirtual 125, 3, [1, 1, 1, 59, 601, 0, 5], 0), (38, .pop, 1, [], 0), (39, .aload_n 0, 1, [], 0), (40, .getfield 67, 3, [11, 9, 9, 1, 699, 0], 66), (43, .getfield 210, 3, [5, 2, 0, 0, 527, 0], 0), (46, .ireturn, 1, [], 0)])]
def MX11_undo (n : Nat) (h : Hp) : Option (Int × Hp) :=
(if (h 66 2) ≠ 0 then
(bndh (MX5_recall 64 h) fun h1 =>
(bnd (MX1_grant n 50 (h1 64 4) h1) fun r1 h2 =>
(some ((h2 66 2), h2))))
else
(some ((-2), h)))
def wX11_undo {ρ : Type} (n : Nat) : FN ρ := fun a h k => match a with
  | [_] => bnd (MX11_undo n h) (fun r h2 => k r h2)
  | _ => none
def fsX11_undo (n : Nat) (ρ : Type) : List (FN ρ) := [wX5_recall, wX1_grant n]
def KMX11_undo (_ : Nat) : CT (Int × Hp) := []
set_option maxRecDepth 100000 in
theorem eMX11_undo (n : Nat) (h : Hp) : MX11_undo n h =
  goAt false (kct (KMX11_undo n)) (fun v h => some ((v, h))) (fsX11_undo n _) sdX11_undo 1000 0 [(0, 15, 0)] [] h := rfl
theorem okX11_undo : mokb (mi 161) = true := by decide +kernel
theorem rkX11_undo : rkOK 1 (mi 161).1.2.2.2.2.2.2.1 (mi 161).1.2.2.2.1 := Or.inr (Or.inl ⟨rfl, rfl, rfl⟩)
def calX11_undo : List Nat := [160, 59]
theorem foX11_undo {l : Launch} {ρ : Type} (n : Nat) : fsOK l false mi calX11_undo (fsX11_undo n ρ) := ⟨sndX5_recall, ⟨(sndX1_grant n), trivial⟩⟩
theorem ok_sdX11_undo : sdb (mi 161).1.2.1 (insOK mi (mi 161).1.1.cls (mi 161).1.2.2.1 (mi 161).1.2.2.2.2.1 (mi 161).1.2.2.2.2.2.1 calX11_undo false 1) sdX11_undo = true := by decide +kernel
theorem sMX11_undo {l : Launch} {h0 h' : Hp} {v : Int} (h8 : nOf h0 = 148) (n : Nat)  (h : Hp) {r : Int × Hp} (H : MX11_undo n h = some r) (hG : gWV v h' r) : PAt l false (mi 161).1 h0 v h' 0 [(0, 15, 0)] [] h :=
  pat_w ok_sdX11_undo rkX11_undo h8 (foX11_undo n) (fun v1 h1 q => by
    cases q
    exact ⟨hG.1, fun _ => hG.2⟩) (fun q9 h9 => by cases h9) ((eMX11_undo n h).symm.trans H)
theorem sndX11_undo {ρ : Type} {l : Launch} (n : Nat) : SndF (ρ := ρ) l false (mi 161).1 (wX11_undo n) := by
    intro a h k r H ha ho hn hf
    have h8 := hf rfl
    obtain ⟨x0, rfl⟩ := len1 (show a.length = 1 from ha)
    have u0 := uq15 hn (ho (15, x0) (List.mem_cons_self))
    subst u0
    replace H : bnd (MX11_undo n h) (fun r h2 => k r h2) = some r := H
    obtain ⟨v2, h2, H1, H2⟩ := bnd_some H
    exact ⟨v2, h2, H2, met_mk (mok_base okX11_undo).1 (by decide +kernel) (Nat.le_of_ble_eq_true rfl) ho (sMX11_undo h8 n  h H1 ⟨rfl, rfl⟩), fun q => by cases q⟩
/-! X12_laysFrom -/
def sdX12_laysFrom : SD := [(0, [(0, .aload_n 0, 1, [], 0), (1, .aload_n 1, 1, [], 0), (2, .iload_n 2, 1, [], 0), (3, .iaload, 1, [], 0), (4, .putfield 165, 3, [12, 42, 0, 0, 0, 1364], 0), (7, .aload_n 0, 1, [], 0), (8, .aload_n 1, 1, [], 0), (9, .iload_n 2, 1, [], 0), (10, .iconst 1, 1, [], 0), (11, .iadd, 1, [], 0), (12, .iaload, 1, [], 0), (13, .putfield 168, 3, [12, 43, 0, 0, 0, 1365], 0), (16, .aload_n 0, 1, [], 0), (17, .aload_n 1, 1, [], 0), (18, .iload_n 2, 1, [], 0), (19, .iconst 2, 1, [], 0), (20, .iadd, 1, [], 0), (21, .iaload, 1, [], 0), (22, .putfield 171, 3, [12, 44, 0, 0, 0, 1366], 0), (25, .aload_n 0, 1, [], 0), (26, .aload_n 1, 1, [], 0), (27, .iload_n 2, 1, [], 0), (28, .iconst 3, 1, [], 0), (29, .iadd, 1, [], 0), (30, .iaload, 1, [], 0), (31, .putfield 158, 3, [12, 45, 0, 0, 0, 1367], 0), (34, .aload_n 0, 1, [], 0), (35, .aload_n 1, 1, [], 0), (36, .iload_n 2, 1, [], 0), (37, .iconst 4, 1, [], 0), (38, .iadd, 1, [], 0), (39, .iaload, 1, [], 0), (40, .iconst 1, 1, [], 0), (41, .if_icmp .ne 7, 3, [], 0)]),
  (44, [(44, .iconst 1, 1, [], 0), (45, .goto 4, 3, [], 0)]),
  (48, [(48, .iconst 0, 1, [], 0)]),
  (49, [(49, .putfield 161, 3, [12, 47, 0, 0, 1, 1369], 0), (52, .aload_n 0, 1, [], 0), (53, .aload_n 1, 1, [], 0), (54, .iload_n 2, 1, [], 0), (55, .iconst 5, 1, [], 0), (56, .iadd, 1, [], 0), (57, .iaload, 1, [], 0), (58, .putfield 174, 3, [12, 46, 0, 0, 0, 1368], 0), (61, .return_, 1, [], 0)])]
def JX12_laysFrom_49 (x2 z1 : Int) (h : Hp) : Option (Hp) :=
(grd (z1 = 0 ∨ z1 = 1)
(ltt (up h 113 47 z1) fun h1 =>
(grd (0 ≤ (w32 (x2 + 5)) ∧ (w32 (x2 + 5)) < alen 980)
(ltt (up h1 113 46 (h1 138 (w32 (x2 + 5)))) fun h2 =>
(some h2)))))
def MX12_laysFrom (x2 : Int) (h : Hp) : Option (Hp) :=
(grd (0 ≤ x2 ∧ x2 < alen 980)
(ltt (up h 113 42 (h 138 x2)) fun h1 =>
(grd (0 ≤ (w32 (x2 + 1)) ∧ (w32 (x2 + 1)) < alen 980)
(ltt (up h1 113 43 (h1 138 (w32 (x2 + 1)))) fun h2 =>
(grd (0 ≤ (w32 (x2 + 2)) ∧ (w32 (x2 + 2)) < alen 980)
(ltt (up h2 113 44 (h2 138 (w32 (x2 + 2)))) fun h3 =>
(grd (0 ≤ (w32 (x2 + 3)) ∧ (w32 (x2 + 3)) < alen 980)
(ltt (up h3 113 45 (h3 138 (w32 (x2 + 3)))) fun h4 =>
(grd (0 ≤ (w32 (x2 + 4)) ∧ (w32 (x2 + 4)) < alen 980)
(if (h4 138 (w32 (x2 + 4))) ≠ 1 then
(JX12_laysFrom_49 x2 0 h4)
else
(JX12_laysFrom_49 x2 1 h4)))))))))))
def wX12_laysFrom {ρ : Type} : FN ρ := fun a h k => match a with
  | [_, _, x2] => bndh (MX12_laysFrom x2 h) (fun h2 => k 0 h2)
  | _ => none
def fsX12_laysFrom (ρ : Type) : List (FN ρ) := []
def KJX12_laysFrom_49  : CT (Hp) := []
set_option maxRecDepth 100000 in
theorem eJX12_laysFrom_49 (x2 : Int) (z1 : Int) (h : Hp) : JX12_laysFrom_49 x2 z1 h =
  goAt false (kct (KJX12_laysFrom_49)) (fun _ h => some (h)) (fsX12_laysFrom _) sdX12_laysFrom 1000 49 [(0, 16, 113), (1, 980, 138), (2, 0, x2)] [(0, z1), (16, 113)] h := rfl
def KMX12_laysFrom  : CT (Hp) := [(49, [(0, 16, (some 113)), (1, 980, (some 138)), (2, 0, none)], [(0, none), (16, (some 113))], fun a c h => match a, c with
    | [x2], [z1] => JX12_laysFrom_49 x2 z1 h
    | _, _ => none)]
set_option maxRecDepth 100000 in
theorem eMX12_laysFrom (x2 : Int) (h : Hp) : MX12_laysFrom x2 h =
  goAt false (kct (KMX12_laysFrom)) (fun _ h => some (h)) (fsX12_laysFrom _) sdX12_laysFrom 1000 0 [(0, 16, 113), (1, 980, 138), (2, 0, x2)] [] h := rfl
theorem okX12_laysFrom : mokb (mi 162) = true := by decide +kernel
theorem rkX12_laysFrom : rkOK 0 (mi 162).1.2.2.2.2.2.2.1 (mi 162).1.2.2.2.1 := Or.inl ⟨rfl, rfl, rfl⟩
def calX12_laysFrom : List Nat := []
theorem foX12_laysFrom {l : Launch} {ρ : Type} : fsOK l false mi calX12_laysFrom (fsX12_laysFrom ρ) := trivial
theorem ok_sdX12_laysFrom : sdb (mi 162).1.2.1 (insOK mi (mi 162).1.1.cls (mi 162).1.2.2.1 (mi 162).1.2.2.2.2.1 (mi 162).1.2.2.2.2.2.1 calX12_laysFrom false 0) sdX12_laysFrom = true := by decide +kernel
theorem sJX12_laysFrom_49 {l : Launch} {h0 h' : Hp} {v : Int} (h8 : nOf h0 = 148)  (x2 : Int) (z1 : Int) (h : Hp) {r : Hp} (H : JX12_laysFrom_49 x2 z1 h = some r) (hG : gW h' r) : PAt l false (mi 162).1 h0 v h' 49 [(0, 16, 113), (1, 980, 138), (2, 0, x2)] [(0, z1), (16, 113)] h :=
  pat_w ok_sdX12_laysFrom rkX12_laysFrom h8 (foX12_laysFrom) (fun v1 h1 q => by
    cases q
    exact ⟨hG, fun q9 => absurd rfl q9⟩) (fun q9 h9 => by cases h9) ((eJX12_laysFrom_49 x2 z1 h).symm.trans H)
theorem sMX12_laysFrom {l : Launch} {h0 h' : Hp} {v : Int} (h8 : nOf h0 = 148)  (x2 : Int) (h : Hp) {r : Hp} (H : MX12_laysFrom x2 h = some r) (hG : gW h' r) : PAt l false (mi 162).1 h0 v h' 0 [(0, 16, 113), (1, 980, 138), (2, 0, x2)] [] h :=
  pat_w ok_sdX12_laysFrom rkX12_laysFrom h8 (foX12_laysFrom) (fun v1 h1 q => by
    cases q
    exact ⟨hG, fun q9 => absurd rfl q9⟩) (List.forall_mem_cons.mpr ⟨(fun a c h H => by
      dsimp only at H
      split at H
      · exact sJX12_laysFrom_49 h8 _ _ _ H hG
      · cases H), (fun q9 h9 => by cases h9)⟩) ((eMX12_laysFrom x2 h).symm.trans H)
theorem sndX12_laysFrom {ρ : Type} {l : Launch} : SndF (ρ := ρ) l false (mi 162).1 (wX12_laysFrom) := by
    intro a h k r H ha ho hn hf
    have h8 := hf rfl
    obtain ⟨x0, x1, x2, rfl⟩ := len3 (show a.length = 3 from ha)
    have u0 := uq16 hn (ho (16, x0) (List.mem_cons_self))
    subst u0
    have u1 := uq980 hn (ho (980, x1) (List.mem_cons_of_mem _ List.mem_cons_self))
    subst u1
    replace H : bndh (MX12_laysFrom x2 h) (fun h2 => k 0 h2) = some r := H
    obtain ⟨h2, H1, H2⟩ := bndh_some H
    exact ⟨0, h2, H2, met_mk (mok_base okX12_laysFrom).1 (by decide +kernel) (Nat.le_of_ble_eq_true rfl) ho (sMX12_laysFrom h8 x2 h H1 rfl), fun q => by cases q⟩
/-! X12_undo -/
def sdX12_undo : SD := [(0, [(0, .aload_n 0, 1, [], 0), (1, .getfield 177, 3, [12, 54, 0, 0, 1376, 0], 0), (4, .ifCond .ne 6, 3, [], 0)]),
  (7, [(7, .bipush (-2), 2, [], 0), (9, .ireturn, 1, [], 0)]),
  (10, [(10, .aload_n 0, 1, [], 0), (11, .dup, 1, [], 0), (12, .getfield 177, 3, [12, 54, 0, 0, 1376, 0], 0), (15, .iconst 1, 1, [], 0), (16, .isub, 1, [], 0), (17, .putfield 177, 3, [12, 54, 0, 0, 0, 1376], 0), (20, .aload_n 0, 1, [], 0), (21, .aload_n 0, 1, [], 0), (22, .getfield 86, 3, [12, 53, 980, 1, 1375, 0], 25), (25, .bipush 6, 2, [], 0), (27, .aload_n 0, 1, [], 0), (28, .getfield 177, 3, [12, 54, 0, 0, 1376, 0], 0), (31, .imul, 1, [], 0), (32, .invokevirtual 454, 3, [0, 0, 1, 162, 1664, 0, 980, 16], 0), (35, .aload_n 0, 1, [], 0), (36, .getfield 177, 3, [12, 54, 0, 0, 1376, 0], 0), (39, .ireturn, 1, [], 0)])]
def MX12_undo (h : Hp) : Option (Int × Hp) :=
(if (h 113 54) ≠ 0 then
(ltt (up h 113 54 (w32 ((h 113 54) - 1))) fun h1 =>
(bndh (MX12_laysFrom (w32 (6 * (h1 113 54))) h1) fun h2 =>
(some ((h2 113 54), h2))))
else
(some ((-2), h)))
def wX12_undo {ρ : Type} : FN ρ := fun a h k => match a with
  | [_] => bnd (MX12_undo h) (fun r h2 => k r h2)
  | _ => none
def fsX12_undo (ρ : Type) : List (FN ρ) := [wX12_laysFrom]
def KMX12_undo  : CT (Int × Hp) := []
set_option maxRecDepth 100000 in
theorem eMX12_undo (h : Hp) : MX12_undo h =
  goAt false (kct (KMX12_undo)) (fun v h => some ((v, h))) (fsX12_undo _) sdX12_undo 1000 0 [(0, 16, 113)] [] h := rfl
theorem okX12_undo : mokb (mi 163) = true := by decide +kernel
theorem rkX12_undo : rkOK 1 (mi 163).1.2.2.2.2.2.2.1 (mi 163).1.2.2.2.1 := Or.inr (Or.inl ⟨rfl, rfl, rfl⟩)
def calX12_undo : List Nat := [162]
theorem foX12_undo {l : Launch} {ρ : Type} : fsOK l false mi calX12_undo (fsX12_undo ρ) := ⟨sndX12_laysFrom, trivial⟩
theorem ok_sdX12_undo : sdb (mi 163).1.2.1 (insOK mi (mi 163).1.1.cls (mi 163).1.2.2.1 (mi 163).1.2.2.2.2.1 (mi 163).1.2.2.2.2.2.1 calX12_undo false 1) sdX12_undo = true := by decide +kernel
theorem sMX12_undo {l : Launch} {h0 h' : Hp} {v : Int} (h8 : nOf h0 = 148)   (h : Hp) {r : Int × Hp} (H : MX12_undo h = some r) (hG : gWV v h' r) : PAt l false (mi 163).1 h0 v h' 0 [(0, 16, 113)] [] h :=
  pat_w ok_sdX12_undo rkX12_undo h8 (foX12_undo) (fun v1 h1 q => by
    cases q
    exact ⟨hG.1, fun _ => hG.2⟩) (fun q9 h9 => by cases h9) ((eMX12_undo h).symm.trans H)
theorem sndX12_undo {ρ : Type} {l : Launch} : SndF (ρ := ρ) l false (mi 163).1 (wX12_undo) := by
    intro a h k r H ha ho hn hf
    have h8 := hf rfl
    obtain ⟨x0, rfl⟩ := len1 (show a.length = 1 from ha)
    have u0 := uq16 hn (ho (16, x0) (List.mem_cons_self))
    subst u0
    replace H : bnd (MX12_undo h) (fun r h2 => k r h2) = some r := H
    obtain ⟨v2, h2, H1, H2⟩ := bnd_some H
    exact ⟨v2, h2, H2, met_mk (mok_base okX12_undo).1 (by decide +kernel) (Nat.le_of_ble_eq_true rfl) ho (sMX12_undo h8  h H1 ⟨rfl, rfl⟩), fun q => by cases q⟩
/-! X4_isRounded -/
def sdX4_isRounded : SD := [(0, [(0, .aload_n 0, 1, [], 0), (1, .getfield 34, 3, [4, 0, 14, 0, 430, 0], 0), (4, .iload_n 1, 1, [], 0), (5, .invokevirtual 138, 3, [1, 0, 1, 119, 1102, 0, 14], 0), (8, .ifCond .eq 56, 3, [], 0)]),
  (11, [(11, .aload_n 0, 1, [], 0), (12, .getfield 25, 3, [4, 5, 532, 1, 441, 0], 2), (15, .iload_n 1, 1, [], 0), (16, .iaload, 1, [], 0), (17, .ifCond .le 47, 3, [], 0)]),
  (20, [(20, .iload_n 2, 1, [], 0), (21, .aload_n 0, 1, [], 0), (22, .getfield 34, 3, [4, 0, 14, 0, 430, 0], 0), (25, .getfield 125, 3, [10, 3, 532, 1, 178, 0], 7), (28, .iload_n 1, 1, [], 0), (29, .iaload, 1, [], 0), (30, .aload_n 0, 1, [], 0), (31, .getfield 25, 3, [4, 5, 532, 1, 441, 0], 2), (34, .iload_n 1, 1, [], 0), (35, .iaload, 1, [], 0), (36, .isub, 1, [], 0), (37, .if_icmp .lt 27, 3, [], 0)]),
  (40, [(40, .iload_n 2, 1, [], 0), (41, .aload_n 0, 1, [], 0), (42, .getfield 34, 3, [4, 0, 14, 0, 430, 0], 0), (45, .getfield 125, 3, [10, 3, 532, 1, 178, 0], 7), (48, .iload_n 1, 1, [], 0), (49, .iaload, 1, [], 0), (50, .aload_n 0, 1, [], 0), (51, .getfield 25, 3, [4, 5, 532, 1, 441, 0], 2), (54, .iload_n 1, 1, [], 0), (55, .iaload, 1, [], 0), (56, .iadd, 1, [], 0), (57, .if_icmp .gt 7, 3, [], 0)]),
  (60, [(60, .iconst 1, 1, [], 0), (61, .goto 4, 3, [], 0)]),
  (64, [(64, .iconst 0, 1, [], 0)]),
  (65, [(65, .ireturn, 1, [1], 0)])]
def MX4_isRounded (x0 x1 x2 : Int) (h : Hp) : Option (Int) :=
(bndp (MX10_hasCorner (h x0 0) x1 h) fun r1 =>
(if r1 = 0 then
(some 0)
else
(grd (0 ≤ x1 ∧ x1 < alen 532)
(if (h (x0 + 2) x1) ≤ 0 then
(some 0)
else
(grd (0 ≤ x1 ∧ x1 < alen 532)
(grd (0 ≤ x1 ∧ x1 < alen 532)
(if x2 < (w32 ((h ((h x0 0) + 7) x1) - (h (x0 + 2) x1))) then
(some 0)
else
(grd (0 ≤ x1 ∧ x1 < alen 532)
(grd (0 ≤ x1 ∧ x1 < alen 532)
(if (w32 ((h ((h x0 0) + 7) x1) + (h (x0 + 2) x1))) < x2 then
(some 0)
else
(some 1)))))))))))
def wX4_isRounded {ρ : Type} : FN ρ := fun a h k => match a with
  | [x0, x1, x2] => bndp (MX4_isRounded x0 x1 x2 h) (fun r => k r h)
  | _ => none
def fsX4_isRounded (ρ : Type) : List (FN ρ) := [wX10_hasCorner]
def KMX4_isRounded  : CT (Int) := []
set_option maxRecDepth 100000 in
theorem eMX4_isRounded (x0 : Int) (x1 : Int) (x2 : Int) (h : Hp) : MX4_isRounded x0 x1 x2 h =
  goAt false (kct (KMX4_isRounded)) (fun v _ => some (v)) (fsX4_isRounded _) sdX4_isRounded 1000 0 [(0, 8, x0), (1, 0, x1), (2, 0, x2)] [] h := rfl
theorem okX4_isRounded : mokb (mi 164) = true := by decide +kernel
theorem rkX4_isRounded : rkOK 4 (mi 164).1.2.2.2.2.2.2.1 (mi 164).1.2.2.2.1 := Or.inr (Or.inr (Or.inl ⟨rfl, rfl, rfl⟩))
def calX4_isRounded : List Nat := [119]
theorem foX4_isRounded {l : Launch} {ρ : Type} : fsOK l false mi calX4_isRounded (fsX4_isRounded ρ) := ⟨sndX10_hasCorner, trivial⟩
theorem frX4_isRounded {ρ : Type} : ∀ fn ∈ fsX4_isRounded ρ, RoF fn := (List.forall_mem_cons.mpr ⟨roX10_hasCorner, (fun q9 h9 => by cases h9)⟩)
theorem ok_sdX4_isRounded : sdb (mi 164).1.2.1 (insOK mi (mi 164).1.1.cls (mi 164).1.2.2.1 (mi 164).1.2.2.2.2.1 (mi 164).1.2.2.2.2.2.1 calX4_isRounded false 4) sdX4_isRounded = true := by decide +kernel
theorem sMX4_isRounded {l : Launch} {h0 : Hp} {v : Int} (h8 : nOf h0 = 148)  (x0 : Int) (x1 : Int) (x2 : Int) (h : Hp) {r : Int} (H : MX4_isRounded x0 x1 x2 h = some r) (hG : gV v r) : PAt l false (mi 164).1 h0 v h 0 [(0, 8, x0), (1, 0, x1), (2, 0, x2)] [] h :=
  pat_ro ok_sdX4_isRounded rfl rkX4_isRounded h8 (foX4_isRounded) (frX4_isRounded) (fun v1 q => by
    cases q
    exact ⟨rfl, fun _ => hG⟩) (fun q9 h9 => by cases h9) ((eMX4_isRounded x0 x1 x2 h).symm.trans H)
theorem sndX4_isRounded {ρ : Type} {l : Launch} : SndF (ρ := ρ) l false (mi 164).1 (wX4_isRounded) := by
    intro a h k r H ha ho hn hf
    have h8 := hf rfl
    obtain ⟨x0, x1, x2, rfl⟩ := len3 (show a.length = 3 from ha)
    replace H : bndp (MX4_isRounded x0 x1 x2 h) (fun r => k r h) = some r := H
    obtain ⟨v2, H1, H2⟩ := bndp_some H
    exact ⟨v2, h, H2, met_mk (mok_base okX4_isRounded).1 (by decide +kernel) (Nat.le_of_ble_eq_true rfl) ho (sMX4_isRounded h8 x0 x1 x2 h H1 rfl), fun q => by cases q⟩
theorem roX4_isRounded {ρ : Type} : RoF (wX4_isRounded : FN ρ) := fun a h k k2 hk => by
  unfold wX4_isRounded
  split
  · exact bndp_ro hk
  · rfl
/-! X4_part -/
def sdX4_part : SD := [(0, [(0, .aload_n 0, 1, [], 0), (1, .getfield 34, 3, [4, 0, 14, 0, 430, 0], 0), (4, .iload_n 1, 1, [], 0), (5, .iload_n 3, 1, [], 0), (6, .invokevirtual 135, 3, [1, 0, 1, 44, 1111, 0, 0, 14], 0), (9, .i2l, 1, [], 0), (10, .iload_n 2, 1, [], 0), (11, .i2l, 1, [], 0), (12, .lmul, 1, [], 0), (13, .aload_n 0, 1, [], 0), (14, .getfield 34, 3, [4, 0, 14, 0, 430, 0], 0), (17, .getfield 69, 3, [10, 2, 532, 1, 173, 0], 6), (20, .iload_n 1, 1, [], 0), (21, .iaload, 1, [], 0), (22, .i2l, 1, [], 0), (23, .invokestatic 46, 3, [1, 1, 4, 36, 575, 1, 1], 0), (26, .ireturn, 1, [], 0)])]
def MX4_part (x0 x1 x2 x3 : Int) (h : Hp) : Option (Int) :=
(bndp (MX10_step (h x0 0) x1 x3 h) fun r1 =>
(grd (0 ≤ x1 ∧ x1 < alen 532)
(bndp (MX11_share (w64 (r1 * x2)) (h ((h x0 0) + 6) x1)) fun r2 =>
(some r2))))
def wX4_part {ρ : Type} : FN ρ := fun a h k => match a with
  | [x0, x1, x2, x3] => bndp (MX4_part x0 x1 x2 x3 h) (fun r => k r h)
  | _ => none
def fsX4_part (ρ : Type) : List (FN ρ) := [wX10_step, wX11_share]
def KMX4_part  : CT (Int) := []
set_option maxRecDepth 100000 in
theorem eMX4_part (x0 : Int) (x1 : Int) (x2 : Int) (x3 : Int) (h : Hp) : MX4_part x0 x1 x2 x3 h =
  goAt false (kct (KMX4_part)) (fun v _ => some (v)) (fsX4_part _) sdX4_part 1000 0 [(0, 8, x0), (1, 0, x1), (2, 0, x2), (3, 0, x3)] [] h := rfl
theorem okX4_part : mokb (mi 165) = true := by decide +kernel
theorem rkX4_part : rkOK 1 (mi 165).1.2.2.2.2.2.2.1 (mi 165).1.2.2.2.1 := Or.inr (Or.inl ⟨rfl, rfl, rfl⟩)
def calX4_part : List Nat := [44, 36]
theorem foX4_part {l : Launch} {ρ : Type} : fsOK l false mi calX4_part (fsX4_part ρ) := ⟨sndX10_step, ⟨sndX11_share, trivial⟩⟩
theorem frX4_part {ρ : Type} : ∀ fn ∈ fsX4_part ρ, RoF fn := (List.forall_mem_cons.mpr ⟨roX10_step, (List.forall_mem_cons.mpr ⟨roX11_share, (fun q9 h9 => by cases h9)⟩)⟩)
theorem ok_sdX4_part : sdb (mi 165).1.2.1 (insOK mi (mi 165).1.1.cls (mi 165).1.2.2.1 (mi 165).1.2.2.2.2.1 (mi 165).1.2.2.2.2.2.1 calX4_part false 1) sdX4_part = true := by decide +kernel
theorem sMX4_part {l : Launch} {h0 : Hp} {v : Int} (h8 : nOf h0 = 148)  (x0 : Int) (x1 : Int) (x2 : Int) (x3 : Int) (h : Hp) {r : Int} (H : MX4_part x0 x1 x2 x3 h = some r) (hG : gV v r) : PAt l false (mi 165).1 h0 v h 0 [(0, 8, x0), (1, 0, x1), (2, 0, x2), (3, 0, x3)] [] h :=
  pat_ro ok_sdX4_part rfl rkX4_part h8 (foX4_part) (frX4_part) (fun v1 q => by
    cases q
    exact ⟨rfl, fun _ => hG⟩) (fun q9 h9 => by cases h9) ((eMX4_part x0 x1 x2 x3 h).symm.trans H)
theorem sndX4_part {ρ : Type} {l : Launch} : SndF (ρ := ρ) l false (mi 165).1 (wX4_part) := by
    intro a h k r H ha ho hn hf
    have h8 := hf rfl
    obtain ⟨x0, x1, x2, x3, rfl⟩ := len4 (show a.length = 4 from ha)
    replace H : bndp (MX4_part x0 x1 x2 x3 h) (fun r => k r h) = some r := H
    obtain ⟨v2, H1, H2⟩ := bndp_some H
    exact ⟨v2, h, H2, met_mk (mok_base okX4_part).1 (by decide +kernel) (Nat.le_of_ble_eq_true rfl) ho (sMX4_part h8 x0 x1 x2 x3 h H1 rfl), fun q => by cases q⟩
theorem roX4_part {ρ : Type} : RoF (wX4_part : FN ρ) := fun a h k k2 hk => by
  unfold wX4_part
  split
  · exact bndp_ro hk
  · rfl
/-! X4_roundedAt -/
def sdX4_roundedAt : SD := [(0, [(0, .aload_n 0, 1, [], 0), (1, .getfield 34, 3, [4, 0, 14, 0, 430, 0], 0), (4, .getfield 128, 3, [10, 1, 50, 1, 171, 0], 2), (7, .iload_n 3, 1, [], 0), (8, .aaload, 1, [], 0), (9, .iload_n 1, 1, [], 0), (10, .iconst 1, 1, [], 0), (11, .iadd, 1, [], 0), (12, .iaload, 1, [], 0), (13, .i2l, 1, [], 0), (14, .lstore 4, 2, [], 0), (16, .lload 4, 2, [], 0), (18, .aload_n 0, 1, [], 0), (19, .iload_n 1, 1, [], 0), (20, .aload_n 0, 1, [], 0), (21, .getfield 25, 3, [4, 5, 532, 1, 441, 0], 2), (24, .iload_n 1, 1, [], 0), (25, .iaload, 1, [], 0), (26, .iload_n 3, 1, [], 0), (27, .invokevirtual 132, 3, [1, 0, 1, 165, 1107, 0, 0, 0, 8], 0), (30, .i2l, 1, [], 0), (31, .lsub, 1, [], 0), (32, .lstore 6, 2, [], 0), (34, .lload 4, 2, [], 0), (36, .aload_n 0, 1, [], 0), (37, .iload_n 1, 1, [], 0), (38, .iconst 1, 1, [], 0), (39, .iadd, 1, [], 0), (40, .aload_n 0, 1, [], 0), (41, .getfield 25, 3, [4, 5, 532, 1, 441, 0], 2), (44, .iload_n 1, 1, [], 0), (45, .iaload, 1, [], 0), (46, .iload_n 3, 1, [], 0), (47, .invokevirtual 132, 3, [1, 0, 1, 165, 1107, 0, 0, 0, 8], 0), (50, .i2l, 1, [], 0), (51, .ladd, 1, [], 0), (52, .lstore 8, 2, [], 0), (54, .ldc2_w 76, 3, [1, 594], 2), (57, .aload_n 0, 1, [], 0), (58, .getfield 25, 3, [4, 5, 532, 1, 441, 0], 2), (61, .iload_n 1, 1, [], 0), (62, .iaload, 1, [], 0), (63, .i2l, 1, [], 0), (64, .lmul, 1, [], 0), (65, .lstore 10, 2, [], 0), (67, .iload_n 2, 1, [], 0), (68, .aload_n 0, 1, [], 0), (69, .getfield 34, 3, [4, 0, 14, 0, 430, 0], 0), (72, .getfield 125, 3, [10, 3, 532, 1, 178, 0], 7), (75, .iload_n 1, 1, [], 0), (76, .iaload, 1, [], 0), (77, .aload_n 0, 1, [], 0), (78, .getfield 25, 3, [4, 5, 532, 1, 441, 0], 2), (81, .iload_n 1, 1, [], 0), (82, .iaload, 1, [], 0), (83, .isub, 1, [], 0), (84, .isub, 1, [], 0), (85, .i2l, 1, [], 0), (86, .lstore 12, 2, [], 0), (88, .lload 10, 2, [], 0), (90, .lload 12, 2, [], 0), (92, .lsub, 1, [], 0), (93, .lstore 14, 2, [], 0), (95, .lload 6, 2, [], 0), (97, .lload 14, 2, [], 0), (99, .lmul, 1, [], 0), (100, .lload 14, 2, [], 0), (102, .lmul, 1, [], 0), (103, .lload 4, 2, [], 0), (105, .ldc2_w 76, 3, [1, 594], 2), (108, .lmul, 1, [], 0), (109, .lload 12, 2, [], 0), (111, .lmul, 1, [], 0), (112, .lload 14, 2, [], 0), (114, .lmul, 1, [], 0), (115, .ladd, 1, [], 0), (116, .lload 8, 2, [], 0), (118, .lload 12, 2, [], 0), (120, .lmul, 1, [], 0), (121, .lload 12, 2, [], 0), (123, .lmul, 1, [], 0), (124, .ladd, 1, [], 0), (125, .lload 10, 2, [], 0), (127, .lload 10, 2, [], 0), (129, .lmul, 1, [], 0), (130, .invokestatic 46, 3, [1, 1, 4, 36, 575, 1, 1], 0), (133, .ireturn, 1, [], 0)])]
def MX4_roundedAt (x0 x1 x2 x3 : Int) (h : Hp) : Option (Int) :=
(grd (0 ≤ x3 ∧ x3 < alen 50)
(grd (0 ≤ (w32 (x1 + 1)) ∧ (w32 (x1 + 1)) < alen 540)
(ltt (h (((h x0 0) + 2) + 1 + x3) (w32 (x1 + 1))) fun y1 =>
(grd (0 ≤ x1 ∧ x1 < alen 532)
(bndp (MX4_part x0 x1 (h (x0 + 2) x1) x3 h) fun r1 =>
(ltt (w64 (y1 - r1)) fun y2 =>
(grd (0 ≤ x1 ∧ x1 < alen 532)
(bndp (MX4_part x0 (w32 (x1 + 1)) (h (x0 + 2) x1) x3 h) fun r2 =>
(ltt (w64 (y1 + r2)) fun y3 =>
(grd (0 ≤ x1 ∧ x1 < alen 532)
(ltt (w64 (2 * (h (x0 + 2) x1))) fun y4 =>
(grd (0 ≤ x1 ∧ x1 < alen 532)
(grd (0 ≤ x1 ∧ x1 < alen 532)
(ltt (w32 (x2 - (w32 ((h ((h x0 0) + 7) x1) - (h (x0 + 2) x1))))) fun y5 =>
(ltt (w64 (y4 - y5)) fun y6 =>
(bndp (MX11_share (w64 ((w64 ((w64 ((w64 (y2 * y6)) * y6)) + (w64 ((w64 ((w64 (y1 * 2)) * y5)) * y6)))) + (w64 ((w64 (y3 * y5)) * y5)))) (w64 (y4 * y4))) fun r3 =>
(some r3)))))))))))))))))
def wX4_roundedAt {ρ : Type} : FN ρ := fun a h k => match a with
  | [x0, x1, x2, x3] => bndp (MX4_roundedAt x0 x1 x2 x3 h) (fun r => k r h)
  | _ => none
def fsX4_roundedAt (ρ : Type) : List (FN ρ) := [wX4_part, wX11_share]
def KMX4_roundedAt  : CT (Int) := []
set_option maxRecDepth 100000 in
theorem eMX4_roundedAt (x0 : Int) (x1 : Int) (x2 : Int) (x3 : Int) (h : Hp) : MX4_roundedAt x0 x1 x2 x3 h =
  goAt false (kct (KMX4_roundedAt)) (fun v _ => some (v)) (fsX4_roundedAt _) sdX4_roundedAt 1000 0 [(0, 8, x0), (1, 0, x1), (2, 0, x2), (3, 0, x3)] [] h := rfl
theorem okX4_roundedAt : mokb (mi 166) = true := by decide +kernel
theorem rkX4_roundedAt : rkOK 1 (mi 166).1.2.2.2.2.2.2.1 (mi 166).1.2.2.2.1 := Or.inr (Or.inl ⟨rfl, rfl, rfl⟩)
def calX4_roundedAt : List Nat := [165, 36]
theorem foX4_roundedAt {l : Launch} {ρ : Type} : fsOK l false mi calX4_roundedAt (fsX4_roundedAt ρ) := ⟨sndX4_part, ⟨sndX11_share, trivial⟩⟩
theorem frX4_roundedAt {ρ : Type} : ∀ fn ∈ fsX4_roundedAt ρ, RoF fn := (List.forall_mem_cons.mpr ⟨roX4_part, (List.forall_mem_cons.mpr ⟨roX11_share, (fun q9 h9 => by cases h9)⟩)⟩)
theorem ok_sdX4_roundedAt : sdb (mi 166).1.2.1 (insOK mi (mi 166).1.1.cls (mi 166).1.2.2.1 (mi 166).1.2.2.2.2.1 (mi 166).1.2.2.2.2.2.1 calX4_roundedAt false 1) sdX4_roundedAt = true := by decide +kernel
theorem sMX4_roundedAt {l : Launch} {h0 : Hp} {v : Int} (h8 : nOf h0 = 148)  (x0 : Int) (x1 : Int) (x2 : Int) (x3 : Int) (h : Hp) {r : Int} (H : MX4_roundedAt x0 x1 x2 x3 h = some r) (hG : gV v r) : PAt l false (mi 166).1 h0 v h 0 [(0, 8, x0), (1, 0, x1), (2, 0, x2), (3, 0, x3)] [] h :=
  pat_ro ok_sdX4_roundedAt rfl rkX4_roundedAt h8 (foX4_roundedAt) (frX4_roundedAt) (fun v1 q => by
    cases q
    exact ⟨rfl, fun _ => hG⟩) (fun q9 h9 => by cases h9) ((eMX4_roundedAt x0 x1 x2 x3 h).symm.trans H)
theorem sndX4_roundedAt {ρ : Type} {l : Launch} : SndF (ρ := ρ) l false (mi 166).1 (wX4_roundedAt) := by
    intro a h k r H ha ho hn hf
    have h8 := hf rfl
    obtain ⟨x0, x1, x2, x3, rfl⟩ := len4 (show a.length = 4 from ha)
    replace H : bndp (MX4_roundedAt x0 x1 x2 x3 h) (fun r => k r h) = some r := H
    obtain ⟨v2, H1, H2⟩ := bndp_some H
    exact ⟨v2, h, H2, met_mk (mok_base okX4_roundedAt).1 (by decide +kernel) (Nat.le_of_ble_eq_true rfl) ho (sMX4_roundedAt h8 x0 x1 x2 x3 h H1 rfl), fun q => by cases q⟩
theorem roX4_roundedAt {ρ : Type} : RoF (wX4_roundedAt : FN ρ) := fun a h k k2 hk => by
  unfold wX4_roundedAt
  split
  · exact bndp_ro hk
  · rfl
/-! X4_placeAt -/
def sdX4_placeAt : SD := [(0, [(0, .aload_n 0, 1, [], 0), (1, .getfield 34, 3, [4, 0, 14, 0, 430, 0], 0), (4, .iload_n 1, 1, [], 0), (5, .invokevirtual 113, 3, [1, 0, 1, 72, 1096, 0, 14], 0), (8, .istore_n 3, 1, [], 0), (9, .aload_n 0, 1, [], 0), (10, .getfield 34, 3, [4, 0, 14, 0, 430, 0], 0), (13, .iload_n 3, 1, [], 0), (14, .invokevirtual 105, 3, [1, 1, 1, 43, 994, 0, 14], 0), (17, .ifCond .eq 10, 3, [], 0)]),
  (20, [(20, .iload_n 2, 1, [], 0), (21, .invokestatic 116, 3, [1, 2, 4, 30, 1097, 0], 0), (24, .ifCond .ne 5, 3, [], 0)]),
  (27, [(27, .iconst 0, 1, [], 0), (28, .ireturn, 1, [], 0)]),
  (29, [(29, .aload_n 0, 1, [], 0), (30, .iload_n 3, 1, [], 0), (31, .iconst 1, 1, [], 0), (32, .isub, 1, [], 0), (33, .iload_n 1, 1, [], 0), (34, .invokevirtual 119, 3, [1, 3, 1, 164, 1098, 0, 0, 8], 0), (37, .ifCond .eq 13, 3, [], 0)]),
  (40, [(40, .aload_n 0, 1, [], 0), (41, .iload_n 3, 1, [], 0), (42, .iconst 1, 1, [], 0), (43, .isub, 1, [], 0), (44, .iload_n 1, 1, [], 0), (45, .iload_n 2, 1, [], 0), (46, .invokevirtual 122, 3, [1, 4, 1, 166, 1103, 0, 0, 0, 8], 0), (49, .ireturn, 1, [], 0)]),
  (50, [(50, .aload_n 0, 1, [], 0), (51, .iload_n 3, 1, [], 0), (52, .iload_n 1, 1, [], 0), (53, .invokevirtual 119, 3, [1, 3, 1, 164, 1098, 0, 0, 8], 0), (56, .ifCond .eq 11, 3, [], 0)]),
  (59, [(59, .aload_n 0, 1, [], 0), (60, .iload_n 3, 1, [], 0), (61, .iload_n 1, 1, [], 0), (62, .iload_n 2, 1, [], 0), (63, .invokevirtual 122, 3, [1, 4, 1, 166, 1103, 0, 0, 0, 8], 0), (66, .ireturn, 1, [], 0)]),
  (67, [(67, .aload_n 0, 1, [], 0), (68, .getfield 34, 3, [4, 0, 14, 0, 430, 0], 0), (71, .getfield 125, 3, [10, 3, 532, 1, 178, 0], 7), (74, .iload_n 3, 1, [], 0), (75, .iaload, 1, [], 0), (76, .aload_n 0, 1, [], 0), (77, .getfield 34, 3, [4, 0, 14, 0, 430, 0], 0), (80, .getfield 69, 3, [10, 2, 532, 1, 173, 0], 6), (83, .iload_n 3, 1, [], 0), (84, .iaload, 1, [], 0), (85, .isub, 1, [], 0), (86, .istore 4, 2, [], 0), (88, .aload_n 0, 1, [], 0), (89, .getfield 34, 3, [4, 0, 14, 0, 430, 0], 0), (92, .getfield 128, 3, [10, 1, 50, 1, 171, 0], 2), (95, .iload_n 2, 1, [], 0), (96, .aaload, 1, [], 0), (97, .iload_n 3, 1, [], 0), (98, .iaload, 1, [], 0), (99, .aload_n 0, 1, [], 0), (100, .iload_n 3, 1, [], 0), (101, .iload_n 1, 1, [], 0), (102, .iload 4, 2, [], 0), (104, .isub, 1, [], 0), (105, .iload_n 2, 1, [], 0), (106, .invokevirtual 132, 3, [1, 5, 1, 165, 1107, 0, 0, 0, 8], 0), (109, .iadd, 1, [], 0), (110, .ireturn, 1, [], 0)])]
def MX4_placeAt (n : Nat) (x0 x1 x2 : Int) (h : Hp) : Option (Int) :=
(bndp (MX10_blockOf n (h x0 0) x1 h) fun r1 =>
(ltt r1 fun y1 =>
(bndp (MX10_has (h x0 0) y1 h) fun r2 =>
(if r2 = 0 then
(some 0)
else
(bndp (MX11_isAxis x2) fun r3 =>
(if r3 ≠ 0 then
(bndp (MX4_isRounded x0 (w32 (y1 - 1)) x1 h) fun r4 =>
(if r4 = 0 then
(bndp (MX4_isRounded x0 y1 x1 h) fun r5 =>
(if r5 = 0 then
(grd (0 ≤ y1 ∧ y1 < alen 532)
(grd (0 ≤ y1 ∧ y1 < alen 532)
(ltt (w32 ((h ((h x0 0) + 7) y1) - (h ((h x0 0) + 6) y1))) fun y2 =>
(grd (0 ≤ x2 ∧ x2 < alen 50)
(grd (0 ≤ y1 ∧ y1 < alen 540)
(bndp (MX4_part x0 y1 (w32 (x1 - y2)) x2 h) fun r6 =>
(some (w32 ((h (((h x0 0) + 2) + 1 + x2) y1) + r6)))))))))
else
(bndp (MX4_roundedAt x0 y1 x1 x2 h) fun r7 =>
(some r7))))
else
(bndp (MX4_roundedAt x0 (w32 (y1 - 1)) x1 x2 h) fun r8 =>
(some r8))))
else
(some 0)))))))
def wX4_placeAt {ρ : Type} (n : Nat) : FN ρ := fun a h k => match a with
  | [x0, x1, x2] => bndp (MX4_placeAt n x0 x1 x2 h) (fun r => k r h)
  | _ => none
def fsX4_placeAt (n : Nat) (ρ : Type) : List (FN ρ) := [wX10_blockOf n, wX10_has, wX11_isAxis, wX4_isRounded, wX4_roundedAt, wX4_part]
def KMX4_placeAt (_ : Nat) : CT (Int) := []
set_option maxRecDepth 100000 in
theorem eMX4_placeAt (n : Nat) (x0 : Int) (x1 : Int) (x2 : Int) (h : Hp) : MX4_placeAt n x0 x1 x2 h =
  goAt false (kct (KMX4_placeAt n)) (fun v _ => some (v)) (fsX4_placeAt n _) sdX4_placeAt 1000 0 [(0, 8, x0), (1, 0, x1), (2, 0, x2)] [] h := rfl
theorem okX4_placeAt : mokb (mi 167) = true := by decide +kernel
theorem rkX4_placeAt : rkOK 1 (mi 167).1.2.2.2.2.2.2.1 (mi 167).1.2.2.2.1 := Or.inr (Or.inl ⟨rfl, rfl, rfl⟩)
def calX4_placeAt : List Nat := [72, 43, 30, 164, 166, 165]
theorem foX4_placeAt {l : Launch} {ρ : Type} (n : Nat) : fsOK l false mi calX4_placeAt (fsX4_placeAt n ρ) := ⟨(sndX10_blockOf n), ⟨sndX10_has, ⟨sndX11_isAxis, ⟨sndX4_isRounded, ⟨sndX4_roundedAt, ⟨sndX4_part, trivial⟩⟩⟩⟩⟩⟩
theorem frX4_placeAt {ρ : Type} (n : Nat) : ∀ fn ∈ fsX4_placeAt n ρ, RoF fn := (List.forall_mem_cons.mpr ⟨(roX10_blockOf n), (List.forall_mem_cons.mpr ⟨roX10_has, (List.forall_mem_cons.mpr ⟨roX11_isAxis, (List.forall_mem_cons.mpr ⟨roX4_isRounded, (List.forall_mem_cons.mpr ⟨roX4_roundedAt, (List.forall_mem_cons.mpr ⟨roX4_part, (fun q9 h9 => by cases h9)⟩)⟩)⟩)⟩)⟩)⟩)
theorem ok_sdX4_placeAt : sdb (mi 167).1.2.1 (insOK mi (mi 167).1.1.cls (mi 167).1.2.2.1 (mi 167).1.2.2.2.2.1 (mi 167).1.2.2.2.2.2.1 calX4_placeAt false 1) sdX4_placeAt = true := by decide +kernel
theorem sMX4_placeAt {l : Launch} {h0 : Hp} {v : Int} (h8 : nOf h0 = 148) (n : Nat) (x0 : Int) (x1 : Int) (x2 : Int) (h : Hp) {r : Int} (H : MX4_placeAt n x0 x1 x2 h = some r) (hG : gV v r) : PAt l false (mi 167).1 h0 v h 0 [(0, 8, x0), (1, 0, x1), (2, 0, x2)] [] h :=
  pat_ro ok_sdX4_placeAt rfl rkX4_placeAt h8 (foX4_placeAt n) (frX4_placeAt n) (fun v1 q => by
    cases q
    exact ⟨rfl, fun _ => hG⟩) (fun q9 h9 => by cases h9) ((eMX4_placeAt n x0 x1 x2 h).symm.trans H)
theorem sndX4_placeAt {ρ : Type} {l : Launch} (n : Nat) : SndF (ρ := ρ) l false (mi 167).1 (wX4_placeAt n) := by
    intro a h k r H ha ho hn hf
    have h8 := hf rfl
    obtain ⟨x0, x1, x2, rfl⟩ := len3 (show a.length = 3 from ha)
    replace H : bndp (MX4_placeAt n x0 x1 x2 h) (fun r => k r h) = some r := H
    obtain ⟨v2, H1, H2⟩ := bndp_some H
    exact ⟨v2, h, H2, met_mk (mok_base okX4_placeAt).1 (by decide +kernel) (Nat.le_of_ble_eq_true rfl) ho (sMX4_placeAt h8 n x0 x1 x2 h H1 rfl), fun q => by cases q⟩
theorem roX4_placeAt {ρ : Type} (n : Nat) : RoF (wX4_placeAt n : FN ρ) := fun a h k k2 hk => by
  unfold wX4_placeAt
  split
  · exact bndp_ro hk
  · rfl
