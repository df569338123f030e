/-! X3_sumOf -/
def sdX3_sumOf : SD := [(0, [(0, .iload_n 1, 1, [], 0), (1, .ifCond .lt 21, 3, [], 0)]),
  (4, [(4, .iload_n 1, 1, [], 0), (5, .bipush 61, 2, [], 0), (7, .if_icmp .ge 15, 3, [], 0)]),
  (10, [(10, .iload_n 2, 1, [], 0), (11, .bipush (-6), 2, [], 0), (13, .if_icmp .lt 9, 3, [], 0)]),
  (16, [(16, .iload_n 2, 1, [], 0), (17, .bipush 6, 2, [], 0), (19, .if_icmp .le 6, 3, [], 0)]),
  (22, [(22, .ldc 26, 2, [0, 1166], 1000000000), (24, .ireturn, 1, [], 0)]),
  (25, [(25, .aload_n 0, 1, [], 0), (26, .getfield 11, 3, [3, 0, 6364, 1, 556, 0], 1), (29, .iload_n 2, 1, [], 0), (30, .bipush 6, 2, [], 0), (32, .iadd, 1, [], 0), (33, .bipush 61, 2, [], 0), (35, .imul, 1, [], 0), (36, .iload_n 1, 1, [], 0), (37, .iadd, 1, [], 0), (38, .iaload, 1, [], 0), (39, .ireturn, 1, [], 0)])]
def MX3_sumOf (x1 x2 : Int) (h : Hp) : Option (Int) :=
(if x1 < 0 then
(some 1000000000)
else
(if 61 ≤ x1 then
(some 1000000000)
else
(if x2 < (-6) then
(some 1000000000)
else
(if x2 ≤ 6 then
(grd (0 ≤ (w32 ((w32 ((w32 (x2 + 6)) * 61)) + x1)) ∧ (w32 ((w32 ((w32 (x2 + 6)) * 61)) + x1)) < alen 6364)
(some (h 111 (w32 ((w32 ((w32 (x2 + 6)) * 61)) + x1)))))
else
(some 1000000000)))))
def wX3_sumOf {ρ : Type} : FN ρ := fun a h k => match a with
  | [_, x1, x2] => bndp (MX3_sumOf x1 x2 h) (fun r => k r h)
  | _ => none
def fsX3_sumOf (ρ : Type) : List (FN ρ) := []
def KMX3_sumOf  : CT (Int) := []
set_option maxRecDepth 100000 in
theorem eMX3_sumOf (x1 : Int) (x2 : Int) (h : Hp) : MX3_sumOf x1 x2 h =
  goAt false (kct (KMX3_sumOf)) (fun v _ => some (v)) (fsX3_sumOf _) sdX3_sumOf 1000 0 [(0, 7, 110), (1, 0, x1), (2, 0, x2)] [] h := rfl
theorem okX3_sumOf : mokb (mi 192) = true := by decide +kernel
theorem rkX3_sumOf : rkOK 1 (mi 192).1.2.2.2.2.2.2.1 (mi 192).1.2.2.2.1 := Or.inr (Or.inl ⟨rfl, rfl, rfl⟩)
def calX3_sumOf : List Nat := []
theorem foX3_sumOf {l : Launch} {ρ : Type} : fsOK l false mi calX3_sumOf (fsX3_sumOf ρ) := trivial
theorem frX3_sumOf {ρ : Type} : ∀ fn ∈ fsX3_sumOf ρ, RoF fn := (fun q9 h9 => by cases h9)
theorem ok_sdX3_sumOf : sdb (mi 192).1.2.1 (insOK mi (mi 192).1.1.cls (mi 192).1.2.2.1 (mi 192).1.2.2.2.2.1 (mi 192).1.2.2.2.2.2.1 calX3_sumOf false 1) sdX3_sumOf = true := by decide +kernel
theorem sMX3_sumOf {l : Launch} {h0 : Hp} {v : Int} (h8 : nOf h0 = 148)  (x1 : Int) (x2 : Int) (h : Hp) {r : Int} (H : MX3_sumOf x1 x2 h = some r) (hG : gV v r) : PAt l false (mi 192).1 h0 v h 0 [(0, 7, 110), (1, 0, x1), (2, 0, x2)] [] h :=
  pat_ro ok_sdX3_sumOf rfl rkX3_sumOf h8 (foX3_sumOf) (frX3_sumOf) (fun v1 q => by
    cases q
    exact ⟨rfl, fun _ => hG⟩) (fun q9 h9 => by cases h9) ((eMX3_sumOf x1 x2 h).symm.trans H)
theorem sndX3_sumOf {ρ : Type} {l : Launch} : SndF (ρ := ρ) l false (mi 192).1 (wX3_sumOf) := by
    intro a h k r H ha ho hn hf
    have h8 := hf rfl
    obtain ⟨x0, x1, x2, rfl⟩ := len3 (show a.length = 3 from ha)
    have u0 := uq7 hn (ho (7, x0) (List.mem_cons_self))
    subst u0
    replace H : bndp (MX3_sumOf x1 x2 h) (fun r => k r h) = some r := H
    obtain ⟨v2, H1, H2⟩ := bndp_some H
    exact ⟨v2, h, H2, met_mk (mok_base okX3_sumOf).1 (by decide +kernel) (Nat.le_of_ble_eq_true rfl) ho (sMX3_sumOf h8 x1 x2 h H1 rfl), fun q => by cases q⟩
theorem roX3_sumOf {ρ : Type} : RoF (wX3_sumOf : FN ρ) := fun a h k k2 hk => by
  unfold wX3_sumOf
  split
  · exact bndp_ro hk
  · rfl
/-! X3_improve -/
def sdX3_improve : SD := [(0, [(0, .aload_n 0, 1, [], 0), (1, .iload_n 1, 1, [], 0), (2, .iload_n 2, 1, [], 0), (3, .invokevirtual 22, 3, [1, 0, 1, 192, 1171, 0, 0, 7], 0), (6, .istore_n 3, 1, [], 0), (7, .iload_n 3, 1, [], 0), (8, .istore 4, 2, [], 0), (10, .iconst (-1), 1, [], 0), (11, .istore 5, 2, [], 0)]),
  (13, [(13, .iload 5, 2, [], 0), (15, .iconst 1, 1, [], 0), (16, .if_icmp .gt 48, 3, [], 0)]),
  (19, [(19, .aload_n 0, 1, [], 0), (20, .iload_n 1, 1, [], 0), (21, .iload_n 2, 1, [], 0), (22, .iadd, 1, [], 0), (23, .iload 5, 2, [], 0), (25, .iadd, 1, [], 0), (26, .iload_n 2, 1, [], 0), (27, .iload 5, 2, [], 0), (29, .iadd, 1, [], 0), (30, .invokevirtual 22, 3, [1, 0, 1, 192, 1171, 0, 0, 7], 0), (33, .istore 6, 2, [], 0), (35, .iload 6, 2, [], 0), (37, .ldc 26, 2, [0, 1166], 1000000000), (39, .if_icmp .ge 19, 3, [], 0)]),
  (42, [(42, .iload 4, 2, [], 0), (44, .iload 6, 2, [], 0), (46, .iload_n 1, 1, [], 0), (47, .iadd, 1, [], 0), (48, .iload_n 2, 1, [], 0), (49, .iadd, 1, [], 0), (50, .iload 5, 2, [], 0), (52, .iadd, 1, [], 0), (53, .invokestatic 31, 3, [1, 1, 3, 261, 1175, 0, 0], 0), (56, .istore 4, 2, [], 0)]),
  (58, [(58, .iinc 5 1, 3, [], 0), (61, .goto (-48), 3, [], 0)]),
  (64, [(64, .iload 4, 2, [], 0), (66, .iload_n 3, 1, [], 0), (67, .if_icmp .ge 19, 3, [], 0)]),
  (70, [(70, .aload_n 0, 1, [], 0), (71, .getfield 11, 3, [3, 0, 6364, 1, 556, 0], 1), (74, .iload_n 2, 1, [], 0), (75, .bipush 6, 2, [], 0), (77, .iadd, 1, [], 0), (78, .bipush 61, 2, [], 0), (80, .imul, 1, [], 0), (81, .iload_n 1, 1, [], 0), (82, .iadd, 1, [], 0), (83, .iload 4, 2, [], 0), (85, .iastore, 1, [], 0)]),
  (86, [(86, .iload 4, 2, [], 0), (88, .iload_n 3, 1, [], 0), (89, .if_icmp .ge 7, 3, [], 0)]),
  (92, [(92, .iconst 1, 1, [], 0), (93, .goto 4, 3, [], 0)]),
  (96, [(96, .iconst 0, 1, [], 0)]),
  (97, [(97, .ireturn, 1, [1], 0)])]
def sdX3_improve_13 : SD := [(13, [(13, .iload 5, 2, [], 0), (15, .iconst 1, 1, [], 0), (16, .if_icmp .gt 48, 3, [], 0)]),
  (19, [(19, .aload_n 0, 1, [], 0), (20, .iload_n 1, 1, [], 0), (21, .iload_n 2, 1, [], 0), (22, .iadd, 1, [], 0), (23, .iload 5, 2, [], 0), (25, .iadd, 1, [], 0), (26, .iload_n 2, 1, [], 0), (27, .iload 5, 2, [], 0), (29, .iadd, 1, [], 0), (30, .invokevirtual 22, 3, [1, 0, 1, 192, 1171, 0, 0, 7], 0), (33, .istore 6, 2, [], 0), (35, .iload 6, 2, [], 0), (37, .ldc 26, 2, [0, 1166], 1000000000), (39, .if_icmp .ge 19, 3, [], 0)]),
  (42, [(42, .iload 4, 2, [], 0), (44, .iload 6, 2, [], 0), (46, .iload_n 1, 1, [], 0), (47, .iadd, 1, [], 0), (48, .iload_n 2, 1, [], 0), (49, .iadd, 1, [], 0), (50, .iload 5, 2, [], 0), (52, .iadd, 1, [], 0), (53, .invokestatic 31, 3, [1, 1, 3, 261, 1175, 0, 0], 0), (56, .istore 4, 2, [], 0)]),
  (58, [(58, .iinc 5 1, 3, [], 0), (61, .goto (-48), 3, [], 0)])]
def BX3_improve_13 (n : Nat) : Nat → Int → Int → Int → Int → Int → Hp → Option (Int × Int × Int × Int)
  | 0, _, _, _, _, _, _ => none
  | f + 1, x1, x2, x3, x4, x5, h =>
    (if 1 < x5 then
    (some (x1, x2, x3, x4))
    else
    (bndp (MX3_sumOf (w32 ((w32 (x1 + x2)) + x5)) (w32 (x2 + x5)) h) fun r1 =>
    (ltt r1 fun y1 =>
    (if 1000000000 ≤ y1 then
    (ltt (w32 (x5 + 1)) fun y2 =>
    (BX3_improve_13 n f x1 x2 x3 x4 y2 h))
    else
    (ltt (min x4 (w32 ((w32 ((w32 (y1 + x1)) + x2)) + x5))) fun y3 =>
    (ltt (w32 (x5 + 1)) fun y4 =>
    (BX3_improve_13 n f x1 x2 x3 y3 y4 h)))))))
def JX3_improve_86 (n : Nat) (x3 x4 : Int) (h : Hp) : Option (Int × Hp) :=
(if x3 ≤ x4 then
(some (0, h))
else
(some (1, h)))
def JX3_improve_64 (n : Nat) (x1 x2 x3 x4 : Int) (h : Hp) : Option (Int × Hp) :=
(if x3 ≤ x4 then
(JX3_improve_86 n x3 x4 h)
else
(grd (0 ≤ (w32 ((w32 ((w32 (x2 + 6)) * 61)) + x1)) ∧ (w32 ((w32 ((w32 (x2 + 6)) * 61)) + x1)) < alen 6364)
(ltt (up h 111 (w32 ((w32 ((w32 (x2 + 6)) * 61)) + x1)) x4) fun h1 =>
(JX3_improve_86 n x3 x4 h1))))
def LX3_improve_13 (n : Nat) (x1 x2 x3 x4 x5 : Int) (h : Hp) : Option (Int × Hp) :=
(bndx (BX3_improve_13 n n x1 x2 x3 x4 x5 h) fun (e1, e2, e3, e4) =>
(JX3_improve_64 n e1 e2 e3 e4 h))
def MX3_improve (n : Nat) (x1 x2 : Int) (h : Hp) : Option (Int × Hp) :=
(bndp (MX3_sumOf x1 x2 h) fun r1 =>
(ltt r1 fun y1 =>
(ltt y1 fun y2 =>
(ltt (-1) fun y3 =>
(LX3_improve_13 n x1 x2 y1 y2 y3 h)))))
def wX3_improve {ρ : Type} (n : Nat) : FN ρ := fun a h k => match a with
  | [_, x1, x2] => bnd (MX3_improve n x1 x2 h) (fun r h2 => k r h2)
  | _ => none
def fsX3_improve (n : Nat) (ρ : Type) : List (FN ρ) := [wX3_sumOf, fmin]
def fsX3_improve_13 (n : Nat) (ρ : Type) : List (FN ρ) := [wX3_sumOf, fmin]
def KBX3_improve_13 (_ : Nat) (bk : Int → Int → Int → Int → Int → Hp → Option (Int × Int × Int × Int)) : CT (Int × Int × Int × Int) := [(13, [(0, 7, (some 110)), (1, 0, none), (2, 0, none), (3, 0, none), (4, 0, none), (5, 0, none)], [], fun a c h => match a, c with
    | [x1, x2, x3, x4, x5], [] => bk x1 x2 x3 x4 x5 h
    | _, _ => none),
  (64, [(0, 7, (some 110)), (1, 0, none), (2, 0, none), (3, 0, none), (4, 0, none)], [], fun a c _ => match a, c with
    | [x1, x2, x3, x4], [] => some (x1, x2, x3, x4)
    | _, _ => none)]
set_option maxRecDepth 100000 in
theorem eBX3_improve_13 (n f : Nat) (x1 : Int) (x2 : Int) (x3 : Int) (x4 : Int) (x5 : Int) (h : Hp) : BX3_improve_13 n (f + 1) x1 x2 x3 x4 x5 h =
  goAt false (kct (KBX3_improve_13 n (BX3_improve_13 n f))) (fun _ _ => none) (fsX3_improve_13 n _) sdX3_improve_13 1000 13 [(0, 7, 110), (1, 0, x1), (2, 0, x2), (3, 0, x3), (4, 0, x4), (5, 0, x5)] [] h := rfl
def KJX3_improve_86 (_ : Nat) : CT (Int × Hp) := []
set_option maxRecDepth 100000 in
theorem eJX3_improve_86 (n : Nat) (x3 : Int) (x4 : Int) (h : Hp) : JX3_improve_86 n x3 x4 h =
  goAt false (kct (KJX3_improve_86 n)) (fun v h => some ((v, h))) (fsX3_improve n _) sdX3_improve 1000 86 [(3, 0, x3), (4, 0, x4)] [] h := rfl
def KJX3_improve_64 (n : Nat) : CT (Int × Hp) := [(86, [(3, 0, none), (4, 0, none)], [], fun a c h => match a, c with
    | [x3, x4], [] => JX3_improve_86 n x3 x4 h
    | _, _ => none)]
set_option maxRecDepth 100000 in
theorem eJX3_improve_64 (n : Nat) (x1 : Int) (x2 : Int) (x3 : Int) (x4 : Int) (h : Hp) : JX3_improve_64 n x1 x2 x3 x4 h =
  goAt false (kct (KJX3_improve_64 n)) (fun v h => some ((v, h))) (fsX3_improve n _) sdX3_improve 1000 64 [(0, 7, 110), (1, 0, x1), (2, 0, x2), (3, 0, x3), (4, 0, x4)] [] h := rfl
def KMX3_improve (n : Nat) : CT (Int × Hp) := [(13, [(0, 7, (some 110)), (1, 0, none), (2, 0, none), (3, 0, none), (4, 0, none), (5, 0, none)], [], fun a c h => match a, c with
    | [x1, x2, x3, x4, x5], [] => LX3_improve_13 n x1 x2 x3 x4 x5 h
    | _, _ => none)]
set_option maxRecDepth 100000 in
theorem eMX3_improve (n : Nat) (x1 : Int) (x2 : Int) (h : Hp) : MX3_improve n x1 x2 h =
  goAt false (kct (KMX3_improve n)) (fun v h => some ((v, h))) (fsX3_improve n _) sdX3_improve 1000 0 [(0, 7, 110), (1, 0, x1), (2, 0, x2)] [] h := rfl
theorem okX3_improve : mokb (mi 193) = true := by decide +kernel
theorem rkX3_improve : rkOK 4 (mi 193).1.2.2.2.2.2.2.1 (mi 193).1.2.2.2.1 := Or.inr (Or.inr (Or.inl ⟨rfl, rfl, rfl⟩))
def calX3_improve : List Nat := [192, 261]
theorem foX3_improve {l : Launch} {ρ : Type} (n : Nat) : fsOK l false mi calX3_improve (fsX3_improve n ρ) := ⟨sndX3_sumOf, ⟨snd_mmin, trivial⟩⟩
theorem ok_sdX3_improve : sdb (mi 193).1.2.1 (insOK mi (mi 193).1.1.cls (mi 193).1.2.2.1 (mi 193).1.2.2.2.2.1 (mi 193).1.2.2.2.2.2.1 calX3_improve false 4) sdX3_improve = true := by decide +kernel
def calX3_improve_13 : List Nat := [192, 261]
theorem foX3_improve_13 {l : Launch} {ρ : Type} (n : Nat) : fsOK l false mi calX3_improve_13 (fsX3_improve_13 n ρ) := ⟨sndX3_sumOf, ⟨snd_mmin, trivial⟩⟩
theorem frX3_improve_13 {ρ : Type} (n : Nat) : ∀ fn ∈ fsX3_improve_13 n ρ, RoF fn := (List.forall_mem_cons.mpr ⟨roX3_sumOf, (List.forall_mem_cons.mpr ⟨ro_mmin, (fun q9 h9 => by cases h9)⟩)⟩)
theorem ok_sdX3_improve_13 : sdb (mi 193).1.2.1 (insOK mi (mi 193).1.1.cls (mi 193).1.2.2.1 (mi 193).1.2.2.2.2.1 (mi 193).1.2.2.2.2.2.1 calX3_improve_13 false 4) sdX3_improve_13 = true := by decide +kernel
def GX3_improve_13 (l : Launch) (h0 : Hp) (h' : Hp) (v : Int) (h : Hp) : (Int × Int × Int × Int) → Prop
  | (e1, e2, e3, e4) => PAt l false (mi 193).1 h0 v h' 64 [(0, 7, 110), (1, 0, e1), (2, 0, e2), (3, 0, e3), (4, 0, e4)] [] h
theorem sBX3_improve_13 {l : Launch} {h0 h' : Hp} {v : Int} (h8 : nOf h0 = 148) (n : Nat) (h : Hp) : ∀ (f : Nat) (x1 : Int) (x2 : Int) (x3 : Int) (x4 : Int) (x5 : Int) {r : Int × Int × Int × Int}, BX3_improve_13 n f x1 x2 x3 x4 x5 h = some r → GX3_improve_13 l h0 h' v h r → PAt l false (mi 193).1 h0 v h' 13 [(0, 7, 110), (1, 0, x1), (2, 0, x2), (3, 0, x3), (4, 0, x4), (5, 0, x5)] [] h := by
  intro f
  induction f with
  | zero =>
    intro x1 x2 x3 x4 x5 r H _
    have H2 : (none : Option (Int × Int × Int × Int)) = some r := H
    cases H2
  | succ f ih =>
    intro x1 x2 x3 x4 x5 r H hG
    exact pat_ro ok_sdX3_improve_13 rfl rkX3_improve h8 (foX3_improve_13 n) (frX3_improve_13 n) (fun v1 q => by cases q) (List.forall_mem_cons.mpr ⟨(fun a c H => by
      dsimp only at H
      split at H
      · exact ih _ _ _ _ _ H hG
      · cases H), (List.forall_mem_cons.mpr ⟨(fun a c H => by
      dsimp only at H
      split at H
      · cases H
        exact hG
      · cases H), (fun q9 h9 => by cases h9)⟩)⟩) ((eBX3_improve_13 n f x1 x2 x3 x4 x5 h).symm.trans H)
theorem sJX3_improve_86 {l : Launch} {h0 h' : Hp} {v : Int} (h8 : nOf h0 = 148) (n : Nat) (x3 : Int) (x4 : Int) (h : Hp) {r : Int × Hp} (H : JX3_improve_86 n x3 x4 h = some r) (hG : gWV v h' r) : PAt l false (mi 193).1 h0 v h' 86 [(3, 0, x3), (4, 0, x4)] [] h :=
  pat_w ok_sdX3_improve rkX3_improve h8 (foX3_improve n) (fun v1 h1 q => by
    cases q
    exact ⟨hG.1, fun _ => hG.2⟩) (fun q9 h9 => by cases h9) ((eJX3_improve_86 n x3 x4 h).symm.trans H)
theorem sJX3_improve_64 {l : Launch} {h0 h' : Hp} {v : Int} (h8 : nOf h0 = 148) (n : Nat) (x1 : Int) (x2 : Int) (x3 : Int) (x4 : Int) (h : Hp) {r : Int × Hp} (H : JX3_improve_64 n x1 x2 x3 x4 h = some r) (hG : gWV v h' r) : PAt l false (mi 193).1 h0 v h' 64 [(0, 7, 110), (1, 0, x1), (2, 0, x2), (3, 0, x3), (4, 0, x4)] [] h :=
  pat_w ok_sdX3_improve rkX3_improve h8 (foX3_improve n) (fun v1 h1 q => by
    cases q
    exact ⟨hG.1, fun _ => hG.2⟩) (List.forall_mem_cons.mpr ⟨(fun a c h H => by
      dsimp only at H
      split at H
      · exact sJX3_improve_86 h8 n _ _ _ H hG
      · cases H), (fun q9 h9 => by cases h9)⟩) ((eJX3_improve_64 n x1 x2 x3 x4 h).symm.trans H)
theorem sLX3_improve_13 {l : Launch} {h0 h' : Hp} {v : Int} (h8 : nOf h0 = 148) (n : Nat) (x1 : Int) (x2 : Int) (x3 : Int) (x4 : Int) (x5 : Int) (h : Hp) {r : Int × Hp} (H : LX3_improve_13 n x1 x2 x3 x4 x5 h = some r) (hG : gWV v h' r) : PAt l false (mi 193).1 h0 v h' 13 [(0, 7, 110), (1, 0, x1), (2, 0, x2), (3, 0, x3), (4, 0, x4), (5, 0, x5)] [] h := by
  obtain ⟨e9, h2, h3⟩ := bndx_some H
  obtain ⟨e1, e2, e3, e4⟩ := e9
  exact sBX3_improve_13 h8 n h n x1 x2 x3 x4 x5 h2 (sJX3_improve_64 h8 n e1 e2 e3 e4 h h3 hG)
theorem sMX3_improve {l : Launch} {h0 h' : Hp} {v : Int} (h8 : nOf h0 = 148) (n : Nat) (x1 : Int) (x2 : Int) (h : Hp) {r : Int × Hp} (H : MX3_improve n x1 x2 h = some r) (hG : gWV v h' r) : PAt l false (mi 193).1 h0 v h' 0 [(0, 7, 110), (1, 0, x1), (2, 0, x2)] [] h :=
  pat_w ok_sdX3_improve rkX3_improve h8 (foX3_improve n) (fun v1 h1 q => by
    cases q
    exact ⟨hG.1, fun _ => hG.2⟩) (List.forall_mem_cons.mpr ⟨(fun a c h H => by
      dsimp only at H
      split at H
      · exact sLX3_improve_13 h8 n _ _ _ _ _ _ H hG
      · cases H), (fun q9 h9 => by cases h9)⟩) ((eMX3_improve n x1 x2 h).symm.trans H)
theorem sndX3_improve {ρ : Type} {l : Launch} (n : Nat) : SndF (ρ := ρ) l false (mi 193).1 (wX3_improve n) := by
    intro a h k r H ha ho hn hf
    have h8 := hf rfl
    obtain ⟨x0, x1, x2, rfl⟩ := len3 (show a.length = 3 from ha)
    have u0 := uq7 hn (ho (7, x0) (List.mem_cons_self))
    subst u0
    replace H : bnd (MX3_improve n x1 x2 h) (fun r h2 => k r h2) = some r := H
    obtain ⟨v2, h2, H1, H2⟩ := bnd_some H
    exact ⟨v2, h2, H2, met_mk (mok_base okX3_improve).1 (by decide +kernel) (Nat.le_of_ble_eq_true rfl) ho (sMX3_improve h8 n x1 x2 h H1 ⟨rfl, rfl⟩), fun q => by cases q⟩
/-! X3_findAll -/
def sdX3_findAll : SD := [(0, [(0, .iconst 0, 1, [], 0), (1, .istore_n 1, 1, [], 0)]),
  (2, [(2, .iload_n 1, 1, [], 0), (3, .aload_n 0, 1, [], 0), (4, .getfield 11, 3, [3, 0, 6364, 1, 556, 0], 1), (7, .arraylength, 1, [], 0), (8, .if_icmp .ge 17, 3, [], 0)]),
  (11, [(11, .aload_n 0, 1, [], 0), (12, .getfield 11, 3, [3, 0, 6364, 1, 556, 0], 1), (15, .iload_n 1, 1, [], 0), (16, .ldc 26, 2, [0, 1166], 1000000000), (18, .iastore, 1, [], 0), (19, .iinc 1 1, 3, [], 0), (22, .goto (-20), 3, [], 0)]),
  (25, [(25, .aload_n 0, 1, [], 0), (26, .getfield 11, 3, [3, 0, 6364, 1, 556, 0], 1), (29, .sipush 366, 3, [], 0), (32, .iconst 0, 1, [], 0), (33, .iastore, 1, [], 0), (34, .iconst 1, 1, [], 0), (35, .istore_n 1, 1, [], 0), (36, .iconst 0, 1, [], 0), (37, .istore_n 2, 1, [], 0)]),
  (38, [(38, .iload_n 2, 1, [], 0), (39, .sipush 1000, 3, [], 0), (42, .if_icmp .ge 66, 3, [], 0)]),
  (45, [(45, .iload_n 1, 1, [], 0), (46, .ifCond .eq 62, 3, [], 0)]),
  (49, [(49, .iconst 0, 1, [], 0), (50, .istore_n 1, 1, [], 0), (51, .bipush (-6), 2, [], 0), (53, .istore_n 3, 1, [], 0)]),
  (54, [(54, .iload_n 3, 1, [], 0), (55, .bipush 6, 2, [], 0), (57, .if_icmp .gt 45, 3, [], 0)]),
  (60, [(60, .iconst 0, 1, [], 0), (61, .istore 4, 2, [], 0)]),
  (63, [(63, .iload 4, 2, [], 0), (65, .bipush 61, 2, [], 0), (67, .if_icmp .ge 29, 3, [], 0)]),
  (70, [(70, .aload_n 0, 1, [], 0), (71, .iload 4, 2, [], 0), (73, .iload_n 3, 1, [], 0), (74, .invokevirtual 27, 3, [1, 0, 1, 193, 1167, 0, 0, 7], 0), (77, .ifCond .ne 7, 3, [], 0)]),
  (80, [(80, .iload_n 1, 1, [], 0), (81, .ifCond .eq 7, 3, [], 0)]),
  (84, [(84, .iconst 1, 1, [], 0), (85, .goto 4, 3, [], 0)]),
  (88, [(88, .iconst 0, 1, [], 0)]),
  (89, [(89, .istore_n 1, 1, [], 0), (90, .iinc 4 1, 3, [], 0), (93, .goto (-30), 3, [], 0)]),
  (96, [(96, .iinc 3 1, 3, [], 0), (99, .goto (-45), 3, [], 0)]),
  (102, [(102, .iinc 2 1, 3, [], 0), (105, .goto (-67), 3, [], 0)]),
  (108, [(108, .return_, 1, [], 0)])]
def BX3_findAll_2 (n : Nat) : Nat → Int → Hp → Option (Hp)
  | 0, _, _ => none
  | f + 1, x1, h =>
    (if (alen 6364) ≤ x1 then
    (some (h))
    else
    (grd (0 ≤ x1 ∧ x1 < alen 6364)
    (ltt (up h 111 x1 1000000000) fun h1 =>
    (ltt (w32 (x1 + 1)) fun y1 =>
    (BX3_findAll_2 n f y1 h1)))))
def JX3_findAll_89 (n : Nat) (bk : Int → Int → Int → Int → Hp → Option (Int × Int × Int × Hp)) (x2 x3 x4 z0 : Int) (h : Hp) : Option (Int × Int × Int × Hp) :=
(ltt z0 fun y1 =>
(ltt (w32 (x4 + 1)) fun y2 =>
(bk y1 x2 x3 y2 h)))
def JX3_findAll_84 (n : Nat) (bk : Int → Int → Int → Int → Hp → Option (Int × Int × Int × Hp)) (x2 x3 x4 : Int) (h : Hp) : Option (Int × Int × Int × Hp) :=
(JX3_findAll_89 n bk x2 x3 x4 1 h)
def BX3_findAll_63 (n : Nat) : Nat → Int → Int → Int → Int → Hp → Option (Int × Int × Int × Hp)
  | 0, _, _, _, _, _ => none
  | f + 1, x1, x2, x3, x4, h =>
    (if 61 ≤ x4 then
    (some (x1, x2, x3, h))
    else
    (bnd (MX3_improve n x4 x3 h) fun r1 h1 =>
    (if r1 ≠ 0 then
    (JX3_findAll_84 n (BX3_findAll_63 n f) x2 x3 x4 h1)
    else
    (if x1 = 0 then
    (JX3_findAll_89 n (BX3_findAll_63 n f) x2 x3 x4 0 h1)
    else
    (JX3_findAll_84 n (BX3_findAll_63 n f) x2 x3 x4 h1)))))
def JX3_findAll_96 (n : Nat) (bk : Int → Int → Int → Hp → Option (Int × Int × Hp)) (x1 x2 x3 : Int) (h : Hp) : Option (Int × Int × Hp) :=
(ltt (w32 (x3 + 1)) fun y1 =>
(bk x1 x2 y1 h))
def LX3_findAll_63 (n : Nat) (bk : Int → Int → Int → Hp → Option (Int × Int × Hp)) (x1 x2 x3 x4 : Int) (h : Hp) : Option (Int × Int × Hp) :=
(bndx (BX3_findAll_63 n n x1 x2 x3 x4 h) fun (e1, e2, e3, h1) =>
(JX3_findAll_96 n bk e1 e2 e3 h1))
def BX3_findAll_54 (n : Nat) : Nat → Int → Int → Int → Hp → Option (Int × Int × Hp)
  | 0, _, _, _, _ => none
  | f + 1, x1, x2, x3, h =>
    (if 6 < x3 then
    (some (x1, x2, h))
    else
    (ltt 0 fun y1 =>
    (LX3_findAll_63 n (BX3_findAll_54 n f) x1 x2 x3 y1 h)))
def JX3_findAll_102 (n : Nat) (bk : Int → Int → Hp → Option (Hp)) (x1 x2 : Int) (h : Hp) : Option (Hp) :=
(ltt (w32 (x2 + 1)) fun y1 =>
(bk x1 y1 h))
def LX3_findAll_54 (n : Nat) (bk : Int → Int → Hp → Option (Hp)) (x1 x2 x3 : Int) (h : Hp) : Option (Hp) :=
(bndx (BX3_findAll_54 n n x1 x2 x3 h) fun (e1, e2, h1) =>
(JX3_findAll_102 n bk e1 e2 h1))
def BX3_findAll_38 (n : Nat) : Nat → Int → Int → Hp → Option (Hp)
  | 0, _, _, _ => none
  | f + 1, x1, x2, h =>
    (if 1000 ≤ x2 then
    (some h)
    else
    (if x1 = 0 then
    (some h)
    else
    (ltt 0 fun y1 =>
    (ltt (-6) fun y2 =>
    (LX3_findAll_54 n (BX3_findAll_38 n f) y1 x2 y2 h)))))
def LX3_findAll_38 (n : Nat) (x1 x2 : Int) (h : Hp) : Option (Hp) :=
(BX3_findAll_38 n n x1 x2 h)
def JX3_findAll_25 (n : Nat) (h : Hp) : Option (Hp) :=
(grd (0 ≤ 366 ∧ 366 < alen 6364)
(ltt (up h 111 366 0) fun h1 =>
(ltt 1 fun y1 =>
(ltt 0 fun y2 =>
(LX3_findAll_38 n y1 y2 h1)))))
def LX3_findAll_2 (n : Nat) (x1 : Int) (h : Hp) : Option (Hp) :=
(bndx (BX3_findAll_2 n n x1 h) fun h1 =>
(JX3_findAll_25 n h1))
def MX3_findAll (n : Nat) (h : Hp) : Option (Hp) :=
(ltt 0 fun y1 =>
(LX3_findAll_2 n y1 h))
def wX3_findAll {ρ : Type} (n : Nat) : FN ρ := fun a h k => match a with
  | [_] => bndh (MX3_findAll n h) (fun h2 => k 0 h2)
  | _ => none
def fsX3_findAll (n : Nat) (ρ : Type) : List (FN ρ) := [wX3_improve n]
def KBX3_findAll_2 (_ : Nat) (bk : Int → Hp → Option (Hp)) : CT (Hp) := [(2, [(0, 7, (some 110)), (1, 0, none)], [], fun a c h => match a, c with
    | [x1], [] => bk x1 h
    | _, _ => none),
  (25, [(0, 7, (some 110))], [], fun a c h => match a, c with
    | [], [] => some (h)
    | _, _ => none)]
set_option maxRecDepth 100000 in
theorem eBX3_findAll_2 (n f : Nat) (x1 : Int) (h : Hp) : BX3_findAll_2 n (f + 1) x1 h =
  goAt false (kct (KBX3_findAll_2 n (BX3_findAll_2 n f))) (fun _ _ => none) (fsX3_findAll n _) sdX3_findAll 1000 2 [(0, 7, 110), (1, 0, x1)] [] h := rfl
def KJX3_findAll_89 (_ : Nat) (bk : Int → Int → Int → Int → Hp → Option (Int × Int × Int × Hp)) : CT (Int × Int × Int × Hp) := [(63, [(0, 7, (some 110)), (1, 0, none), (2, 0, none), (3, 0, none), (4, 0, none)], [], fun a c h => match a, c with
    | [x1, x2, x3, x4], [] => bk x1 x2 x3 x4 h
    | _, _ => none),
  (96, [(0, 7, (some 110)), (1, 0, none), (2, 0, none), (3, 0, none)], [], fun a c h => match a, c with
    | [x1, x2, x3], [] => some (x1, x2, x3, h)
    | _, _ => none)]
set_option maxRecDepth 100000 in
theorem eJX3_findAll_89 (n : Nat) (bk : Int → Int → Int → Int → Hp → Option (Int × Int × Int × Hp)) (x2 : Int) (x3 : Int) (x4 : Int) (z0 : Int) (h : Hp) : JX3_findAll_89 n bk x2 x3 x4 z0 h =
  goAt false (kct (KJX3_findAll_89 n bk)) (fun _ _ => none) (fsX3_findAll n _) sdX3_findAll 1000 89 [(0, 7, 110), (2, 0, x2), (3, 0, x3), (4, 0, x4)] [(0, z0)] h := rfl
def KJX3_findAll_84 (n : Nat) (bk : Int → Int → Int → Int → Hp → Option (Int × Int × Int × Hp)) : CT (Int × Int × Int × Hp) := [(63, [(0, 7, (some 110)), (1, 0, none), (2, 0, none), (3, 0, none), (4, 0, none)], [], fun a c h => match a, c with
    | [x1, x2, x3, x4], [] => bk x1 x2 x3 x4 h
    | _, _ => none),
  (96, [(0, 7, (some 110)), (1, 0, none), (2, 0, none), (3, 0, none)], [], fun a c h => match a, c with
    | [x1, x2, x3], [] => some (x1, x2, x3, h)
    | _, _ => none),
  (89, [(0, 7, (some 110)), (2, 0, none), (3, 0, none), (4, 0, none)], [(0, none)], fun a c h => match a, c with
    | [x2, x3, x4], [z0] => JX3_findAll_89 n bk x2 x3 x4 z0 h
    | _, _ => none)]
set_option maxRecDepth 100000 in
theorem eJX3_findAll_84 (n : Nat) (bk : Int → Int → Int → Int → Hp → Option (Int × Int × Int × Hp)) (x2 : Int) (x3 : Int) (x4 : Int) (h : Hp) : JX3_findAll_84 n bk x2 x3 x4 h =
  goAt false (kct (KJX3_findAll_84 n bk)) (fun _ _ => none) (fsX3_findAll n _) sdX3_findAll 1000 84 [(0, 7, 110), (2, 0, x2), (3, 0, x3), (4, 0, x4)] [] h := rfl
def KBX3_findAll_63 (n : Nat) (bk : Int → Int → Int → Int → Hp → Option (Int × Int × Int × Hp)) : CT (Int × Int × Int × Hp) := [(63, [(0, 7, (some 110)), (1, 0, none), (2, 0, none), (3, 0, none), (4, 0, none)], [], fun a c h => match a, c with
    | [x1, x2, x3, x4], [] => bk x1 x2 x3 x4 h
    | _, _ => none),
  (96, [(0, 7, (some 110)), (1, 0, none), (2, 0, none), (3, 0, none)], [], fun a c h => match a, c with
    | [x1, x2, x3], [] => some (x1, x2, x3, h)
    | _, _ => none),
  (89, [(0, 7, (some 110)), (2, 0, none), (3, 0, none), (4, 0, none)], [(0, none)], fun a c h => match a, c with
    | [x2, x3, x4], [z0] => JX3_findAll_89 n bk x2 x3 x4 z0 h
    | _, _ => none),
  (84, [(0, 7, (some 110)), (2, 0, none), (3, 0, none), (4, 0, none)], [], fun a c h => match a, c with
    | [x2, x3, x4], [] => JX3_findAll_84 n bk x2 x3 x4 h
    | _, _ => none)]
set_option maxRecDepth 100000 in
theorem eBX3_findAll_63 (n f : Nat) (x1 : Int) (x2 : Int) (x3 : Int) (x4 : Int) (h : Hp) : BX3_findAll_63 n (f + 1) x1 x2 x3 x4 h =
  goAt false (kct (KBX3_findAll_63 n (BX3_findAll_63 n f))) (fun _ _ => none) (fsX3_findAll n _) sdX3_findAll 1000 63 [(0, 7, 110), (1, 0, x1), (2, 0, x2), (3, 0, x3), (4, 0, x4)] [] h := rfl
def KJX3_findAll_96 (_ : Nat) (bk : Int → Int → Int → Hp → Option (Int × Int × Hp)) : CT (Int × Int × Hp) := [(54, [(0, 7, (some 110)), (1, 0, none), (2, 0, none), (3, 0, none)], [], fun a c h => match a, c with
    | [x1, x2, x3], [] => bk x1 x2 x3 h
    | _, _ => none),
  (102, [(0, 7, (some 110)), (1, 0, none), (2, 0, none)], [], fun a c h => match a, c with
    | [x1, x2], [] => some (x1, x2, h)
    | _, _ => none)]
set_option maxRecDepth 100000 in
theorem eJX3_findAll_96 (n : Nat) (bk : Int → Int → Int → Hp → Option (Int × Int × Hp)) (x1 : Int) (x2 : Int) (x3 : Int) (h : Hp) : JX3_findAll_96 n bk x1 x2 x3 h =
  goAt false (kct (KJX3_findAll_96 n bk)) (fun _ _ => none) (fsX3_findAll n _) sdX3_findAll 1000 96 [(0, 7, 110), (1, 0, x1), (2, 0, x2), (3, 0, x3)] [] h := rfl
def KBX3_findAll_54 (n : Nat) (bk : Int → Int → Int → Hp → Option (Int × Int × Hp)) : CT (Int × Int × Hp) := [(54, [(0, 7, (some 110)), (1, 0, none), (2, 0, none), (3, 0, none)], [], fun a c h => match a, c with
    | [x1, x2, x3], [] => bk x1 x2 x3 h
    | _, _ => none),
  (102, [(0, 7, (some 110)), (1, 0, none), (2, 0, none)], [], fun a c h => match a, c with
    | [x1, x2], [] => some (x1, x2, h)
    | _, _ => none),
  (63, [(0, 7, (some 110)), (1, 0, none), (2, 0, none), (3, 0, none), (4, 0, none)], [], fun a c h => match a, c with
    | [x1, x2, x3, x4], [] => LX3_findAll_63 n bk x1 x2 x3 x4 h
    | _, _ => none)]
set_option maxRecDepth 100000 in
theorem eBX3_findAll_54 (n f : Nat) (x1 : Int) (x2 : Int) (x3 : Int) (h : Hp) : BX3_findAll_54 n (f + 1) x1 x2 x3 h =
  goAt false (kct (KBX3_findAll_54 n (BX3_findAll_54 n f))) (fun _ _ => none) (fsX3_findAll n _) sdX3_findAll 1000 54 [(0, 7, 110), (1, 0, x1), (2, 0, x2), (3, 0, x3)] [] h := rfl
def KJX3_findAll_102 (_ : Nat) (bk : Int → Int → Hp → Option (Hp)) : CT (Hp) := [(38, [(0, 7, (some 110)), (1, 0, none), (2, 0, none)], [], fun a c h => match a, c with
    | [x1, x2], [] => bk x1 x2 h
    | _, _ => none)]
set_option maxRecDepth 100000 in
theorem eJX3_findAll_102 (n : Nat) (bk : Int → Int → Hp → Option (Hp)) (x1 : Int) (x2 : Int) (h : Hp) : JX3_findAll_102 n bk x1 x2 h =
  goAt false (kct (KJX3_findAll_102 n bk)) (fun _ h => some (h)) (fsX3_findAll n _) sdX3_findAll 1000 102 [(0, 7, 110), (1, 0, x1), (2, 0, x2)] [] h := rfl
def KBX3_findAll_38 (n : Nat) (bk : Int → Int → Hp → Option (Hp)) : CT (Hp) := [(38, [(0, 7, (some 110)), (1, 0, none), (2, 0, none)], [], fun a c h => match a, c with
    | [x1, x2], [] => bk x1 x2 h
    | _, _ => none),
  (54, [(0, 7, (some 110)), (1, 0, none), (2, 0, none), (3, 0, none)], [], fun a c h => match a, c with
    | [x1, x2, x3], [] => LX3_findAll_54 n bk x1 x2 x3 h
    | _, _ => none)]
set_option maxRecDepth 100000 in
theorem eBX3_findAll_38 (n f : Nat) (x1 : Int) (x2 : Int) (h : Hp) : BX3_findAll_38 n (f + 1) x1 x2 h =
  goAt false (kct (KBX3_findAll_38 n (BX3_findAll_38 n f))) (fun _ h => some (h)) (fsX3_findAll n _) sdX3_findAll 1000 38 [(0, 7, 110), (1, 0, x1), (2, 0, x2)] [] h := rfl
def KJX3_findAll_25 (n : Nat) : CT (Hp) := [(38, [(0, 7, (some 110)), (1, 0, none), (2, 0, none)], [], fun a c h => match a, c with
    | [x1, x2], [] => LX3_findAll_38 n x1 x2 h
    | _, _ => none)]
set_option maxRecDepth 100000 in
theorem eJX3_findAll_25 (n : Nat) (h : Hp) : JX3_findAll_25 n h =
  goAt false (kct (KJX3_findAll_25 n)) (fun _ h => some (h)) (fsX3_findAll n _) sdX3_findAll 1000 25 [(0, 7, 110)] [] h := rfl
def KMX3_findAll (n : Nat) : CT (Hp) := [(2, [(0, 7, (some 110)), (1, 0, none)], [], fun a c h => match a, c with
    | [x1], [] => LX3_findAll_2 n x1 h
    | _, _ => none)]
set_option maxRecDepth 100000 in
theorem eMX3_findAll (n : Nat) (h : Hp) : MX3_findAll n h =
  goAt false (kct (KMX3_findAll n)) (fun _ h => some (h)) (fsX3_findAll n _) sdX3_findAll 1000 0 [(0, 7, 110)] [] h := rfl
theorem okX3_findAll : mokb (mi 194) = true := by decide +kernel
theorem rkX3_findAll : rkOK 0 (mi 194).1.2.2.2.2.2.2.1 (mi 194).1.2.2.2.1 := Or.inl ⟨rfl, rfl, rfl⟩
def calX3_findAll : List Nat := [193]
theorem foX3_findAll {l : Launch} {ρ : Type} (n : Nat) : fsOK l false mi calX3_findAll (fsX3_findAll n ρ) := ⟨(sndX3_improve n), trivial⟩
theorem ok_sdX3_findAll : sdb (mi 194).1.2.1 (insOK mi (mi 194).1.1.cls (mi 194).1.2.2.1 (mi 194).1.2.2.2.2.1 (mi 194).1.2.2.2.2.2.1 calX3_findAll false 0) sdX3_findAll = true := by decide +kernel
def GX3_findAll_2 (l : Launch) (h0 : Hp) (h' : Hp) (v : Int) (_ : Hp) : (Hp) → Prop
  | h1 => PAt l false (mi 194).1 h0 v h' 25 [(0, 7, 110)] [] h1
def GX3_findAll_63 (l : Launch) (h0 : Hp) (h' : Hp) (v : Int) (_ : Hp) : (Int × Int × Int × Hp) → Prop
  | (e1, e2, e3, h1) => PAt l false (mi 194).1 h0 v h' 96 [(0, 7, 110), (1, 0, e1), (2, 0, e2), (3, 0, e3)] [] h1
def GX3_findAll_54 (l : Launch) (h0 : Hp) (h' : Hp) (v : Int) (_ : Hp) : (Int × Int × Hp) → Prop
  | (e1, e2, h1) => PAt l false (mi 194).1 h0 v h' 102 [(0, 7, 110), (1, 0, e1), (2, 0, e2)] [] h1
theorem sBX3_findAll_2 {l : Launch} {h0 h' : Hp} {v : Int} (h8 : nOf h0 = 148) (n : Nat) : ∀ (f : Nat) (x1 : Int) (h : Hp) {r : Hp}, BX3_findAll_2 n f x1 h = some r → GX3_findAll_2 l h0 h' v h r → PAt l false (mi 194).1 h0 v h' 2 [(0, 7, 110), (1, 0, x1)] [] h := by
  intro f
  induction f with
  | zero =>
    intro x1 h r H _
    have H2 : (none : Option (Hp)) = some r := H
    cases H2
  | succ f ih =>
    intro x1 h r H hG
    exact pat_w ok_sdX3_findAll rkX3_findAll h8 (foX3_findAll n) (fun v1 h1 q => by cases q) (List.forall_mem_cons.mpr ⟨(fun a c h H => by
      dsimp only at H
      split at H
      · exact ih _ _ H hG
      · cases H), (List.forall_mem_cons.mpr ⟨(fun a c h H => by
      dsimp only at H
      split at H
      · cases H
        exact hG
      · cases H), (fun q9 h9 => by cases h9)⟩)⟩) ((eBX3_findAll_2 n f x1 h).symm.trans H)
theorem sJX3_findAll_89 {l : Launch} {h0 h' : Hp} {v : Int} (h8 : nOf h0 = 148) (n : Nat) (bk : Int → Int → Int → Int → Hp → Option (Int × Int × Int × Hp)) (hbk : ∀ (x1 : Int) (x2 : Int) (x3 : Int) (x4 : Int) (h : Hp) (r : Int × Int × Int × Hp), bk x1 x2 x3 x4 h = some r → GX3_findAll_63 l h0 h' v h r → PAt l false (mi 194).1 h0 v h' 63 [(0, 7, 110), (1, 0, x1), (2, 0, x2), (3, 0, x3), (4, 0, x4)] [] h) (x2 : Int) (x3 : Int) (x4 : Int) (z0 : Int) (h : Hp) {r : Int × Int × Int × Hp} (H : JX3_findAll_89 n bk x2 x3 x4 z0 h = some r) (hG : GX3_findAll_63 l h0 h' v h r) : PAt l false (mi 194).1 h0 v h' 89 [(0, 7, 110), (2, 0, x2), (3, 0, x3), (4, 0, x4)] [(0, z0)] h :=
  pat_w ok_sdX3_findAll rkX3_findAll h8 (foX3_findAll n) (fun v1 h1 q => by cases q) (List.forall_mem_cons.mpr ⟨(fun a c h H => by
      dsimp only at H
      split at H
      · exact hbk _ _ _ _ _ _ H hG
      · cases H), (List.forall_mem_cons.mpr ⟨(fun a c h H => by
      dsimp only at H
      split at H
      · cases H
        exact hG
      · cases H), (fun q9 h9 => by cases h9)⟩)⟩) ((eJX3_findAll_89 n bk x2 x3 x4 z0 h).symm.trans H)
theorem sJX3_findAll_84 {l : Launch} {h0 h' : Hp} {v : Int} (h8 : nOf h0 = 148) (n : Nat) (bk : Int → Int → Int → Int → Hp → Option (Int × Int × Int × Hp)) (hbk : ∀ (x1 : Int) (x2 : Int) (x3 : Int) (x4 : Int) (h : Hp) (r : Int × Int × Int × Hp), bk x1 x2 x3 x4 h = some r → GX3_findAll_63 l h0 h' v h r → PAt l false (mi 194).1 h0 v h' 63 [(0, 7, 110), (1, 0, x1), (2, 0, x2), (3, 0, x3), (4, 0, x4)] [] h) (x2 : Int) (x3 : Int) (x4 : Int) (h : Hp) {r : Int × Int × Int × Hp} (H : JX3_findAll_84 n bk x2 x3 x4 h = some r) (hG : GX3_findAll_63 l h0 h' v h r) : PAt l false (mi 194).1 h0 v h' 84 [(0, 7, 110), (2, 0, x2), (3, 0, x3), (4, 0, x4)] [] h :=
  pat_w ok_sdX3_findAll rkX3_findAll h8 (foX3_findAll n) (fun v1 h1 q => by cases q) (List.forall_mem_cons.mpr ⟨(fun a c h H => by
      dsimp only at H
      split at H
      · exact hbk _ _ _ _ _ _ H hG
      · cases H), (List.forall_mem_cons.mpr ⟨(fun a c h H => by
      dsimp only at H
      split at H
      · cases H
        exact hG
      · cases H), (List.forall_mem_cons.mpr ⟨(fun a c h H => by
      dsimp only at H
      split at H
      · exact sJX3_findAll_89 h8 n bk hbk _ _ _ _ _ H hG
      · cases H), (fun q9 h9 => by cases h9)⟩)⟩)⟩) ((eJX3_findAll_84 n bk x2 x3 x4 h).symm.trans H)
theorem sBX3_findAll_63 {l : Launch} {h0 h' : Hp} {v : Int} (h8 : nOf h0 = 148) (n : Nat) : ∀ (f : Nat) (x1 : Int) (x2 : Int) (x3 : Int) (x4 : Int) (h : Hp) {r : Int × Int × Int × Hp}, BX3_findAll_63 n f x1 x2 x3 x4 h = some r → GX3_findAll_63 l h0 h' v h r → PAt l false (mi 194).1 h0 v h' 63 [(0, 7, 110), (1, 0, x1), (2, 0, x2), (3, 0, x3), (4, 0, x4)] [] h := by
  intro f
  induction f with
  | zero =>
    intro x1 x2 x3 x4 h r H _
    have H2 : (none : Option (Int × Int × Int × Hp)) = some r := H
    cases H2
  | succ f ih =>
    intro x1 x2 x3 x4 h r H hG
    have ihk : ∀ (x1 : Int) (x2 : Int) (x3 : Int) (x4 : Int) (h : Hp) (r : Int × Int × Int × Hp), BX3_findAll_63 n f x1 x2 x3 x4 h = some r → GX3_findAll_63 l h0 h' v h r → PAt l false (mi 194).1 h0 v h' 63 [(0, 7, 110), (1, 0, x1), (2, 0, x2), (3, 0, x3), (4, 0, x4)] [] h := fun x1 x2 x3 x4 h r9 a9 b9 => ih x1 x2 x3 x4 h a9 b9
    exact pat_w ok_sdX3_findAll rkX3_findAll h8 (foX3_findAll n) (fun v1 h1 q => by cases q) (List.forall_mem_cons.mpr ⟨(fun a c h H => by
      dsimp only at H
      split at H
      · exact ih _ _ _ _ _ H hG
      · cases H), (List.forall_mem_cons.mpr ⟨(fun a c h H => by
      dsimp only at H
      split at H
      · cases H
        exact hG
      · cases H), (List.forall_mem_cons.mpr ⟨(fun a c h H => by
      dsimp only at H
      split at H
      · exact sJX3_findAll_89 h8 n (BX3_findAll_63 n f) ihk _ _ _ _ _ H hG
      · cases H), (List.forall_mem_cons.mpr ⟨(fun a c h H => by
      dsimp only at H
      split at H
      · exact sJX3_findAll_84 h8 n (BX3_findAll_63 n f) ihk _ _ _ _ H hG
      · cases H), (fun q9 h9 => by cases h9)⟩)⟩)⟩)⟩) ((eBX3_findAll_63 n f x1 x2 x3 x4 h).symm.trans H)
theorem sJX3_findAll_96 {l : Launch} {h0 h' : Hp} {v : Int} (h8 : nOf h0 = 148) (n : Nat) (bk : Int → Int → Int → Hp → Option (Int × Int × Hp)) (hbk : ∀ (x1 : Int) (x2 : Int) (x3 : Int) (h : Hp) (r : Int × Int × Hp), bk x1 x2 x3 h = some r → GX3_findAll_54 l h0 h' v h r → PAt l false (mi 194).1 h0 v h' 54 [(0, 7, 110), (1, 0, x1), (2, 0, x2), (3, 0, x3)] [] h) (x1 : Int) (x2 : Int) (x3 : Int) (h : Hp) {r : Int × Int × Hp} (H : JX3_findAll_96 n bk x1 x2 x3 h = some r) (hG : GX3_findAll_54 l h0 h' v h r) : PAt l false (mi 194).1 h0 v h' 96 [(0, 7, 110), (1, 0, x1), (2, 0, x2), (3, 0, x3)] [] h :=
  pat_w ok_sdX3_findAll rkX3_findAll h8 (foX3_findAll n) (fun v1 h1 q => by cases q) (List.forall_mem_cons.mpr ⟨(fun a c h H => by
      dsimp only at H
      split at H
      · exact hbk _ _ _ _ _ H hG
      · cases H), (List.forall_mem_cons.mpr ⟨(fun a c h H => by
      dsimp only at H
      split at H
      · cases H
        exact hG
      · cases H), (fun q9 h9 => by cases h9)⟩)⟩) ((eJX3_findAll_96 n bk x1 x2 x3 h).symm.trans H)
theorem sLX3_findAll_63 {l : Launch} {h0 h' : Hp} {v : Int} (h8 : nOf h0 = 148) (n : Nat) (bk : Int → Int → Int → Hp → Option (Int × Int × Hp)) (hbk : ∀ (x1 : Int) (x2 : Int) (x3 : Int) (h : Hp) (r : Int × Int × Hp), bk x1 x2 x3 h = some r → GX3_findAll_54 l h0 h' v h r → PAt l false (mi 194).1 h0 v h' 54 [(0, 7, 110), (1, 0, x1), (2, 0, x2), (3, 0, x3)] [] h) (x1 : Int) (x2 : Int) (x3 : Int) (x4 : Int) (h : Hp) {r : Int × Int × Hp} (H : LX3_findAll_63 n bk x1 x2 x3 x4 h = some r) (hG : GX3_findAll_54 l h0 h' v h r) : PAt l false (mi 194).1 h0 v h' 63 [(0, 7, 110), (1, 0, x1), (2, 0, x2), (3, 0, x3), (4, 0, x4)] [] h := by
  obtain ⟨e9, h2, h3⟩ := bndx_some H
  obtain ⟨e1, e2, e3, h1⟩ := e9
  exact sBX3_findAll_63 h8 n n x1 x2 x3 x4 h h2 (sJX3_findAll_96 h8 n bk hbk e1 e2 e3 h1 h3 hG)
theorem sBX3_findAll_54 {l : Launch} {h0 h' : Hp} {v : Int} (h8 : nOf h0 = 148) (n : Nat) : ∀ (f : Nat) (x1 : Int) (x2 : Int) (x3 : Int) (h : Hp) {r : Int × Int × Hp}, BX3_findAll_54 n f x1 x2 x3 h = some r → GX3_findAll_54 l h0 h' v h r → PAt l false (mi 194).1 h0 v h' 54 [(0, 7, 110), (1, 0, x1), (2, 0, x2), (3, 0, x3)] [] h := by
  intro f
  induction f with
  | zero =>
    intro x1 x2 x3 h r H _
    have H2 : (none : Option (Int × Int × Hp)) = some r := H
    cases H2
  | succ f ih =>
    intro x1 x2 x3 h r H hG
    have ihk : ∀ (x1 : Int) (x2 : Int) (x3 : Int) (h : Hp) (r : Int × Int × Hp), BX3_findAll_54 n f x1 x2 x3 h = some r → GX3_findAll_54 l h0 h' v h r → PAt l false (mi 194).1 h0 v h' 54 [(0, 7, 110), (1, 0, x1), (2, 0, x2), (3, 0, x3)] [] h := fun x1 x2 x3 h r9 a9 b9 => ih x1 x2 x3 h a9 b9
    exact pat_w ok_sdX3_findAll rkX3_findAll h8 (foX3_findAll n) (fun v1 h1 q => by cases q) (List.forall_mem_cons.mpr ⟨(fun a c h H => by
      dsimp only at H
      split at H
      · exact ih _ _ _ _ H hG
      · cases H), (List.forall_mem_cons.mpr ⟨(fun a c h H => by
      dsimp only at H
      split at H
      · cases H
        exact hG
      · cases H), (List.forall_mem_cons.mpr ⟨(fun a c h H => by
      dsimp only at H
      split at H
      · exact sLX3_findAll_63 h8 n (BX3_findAll_54 n f) ihk _ _ _ _ _ H hG
      · cases H), (fun q9 h9 => by cases h9)⟩)⟩)⟩) ((eBX3_findAll_54 n f x1 x2 x3 h).symm.trans H)
theorem sJX3_findAll_102 {l : Launch} {h0 h' : Hp} {v : Int} (h8 : nOf h0 = 148) (n : Nat) (bk : Int → Int → Hp → Option (Hp)) (hbk : ∀ (x1 : Int) (x2 : Int) (h : Hp) (r : Hp), bk x1 x2 h = some r → gW h' r → PAt l false (mi 194).1 h0 v h' 38 [(0, 7, 110), (1, 0, x1), (2, 0, x2)] [] h) (x1 : Int) (x2 : Int) (h : Hp) {r : Hp} (H : JX3_findAll_102 n bk x1 x2 h = some r) (hG : gW h' r) : PAt l false (mi 194).1 h0 v h' 102 [(0, 7, 110), (1, 0, x1), (2, 0, x2)] [] h :=
  pat_w ok_sdX3_findAll rkX3_findAll h8 (foX3_findAll n) (fun v1 h1 q => by
    cases q
    exact ⟨hG, fun q9 => absurd rfl q9⟩) (List.forall_mem_cons.mpr ⟨(fun a c h H => by
      dsimp only at H
      split at H
      · exact hbk _ _ _ _ H hG
      · cases H), (fun q9 h9 => by cases h9)⟩) ((eJX3_findAll_102 n bk x1 x2 h).symm.trans H)
theorem sLX3_findAll_54 {l : Launch} {h0 h' : Hp} {v : Int} (h8 : nOf h0 = 148) (n : Nat) (bk : Int → Int → Hp → Option (Hp)) (hbk : ∀ (x1 : Int) (x2 : Int) (h : Hp) (r : Hp), bk x1 x2 h = some r → gW h' r → PAt l false (mi 194).1 h0 v h' 38 [(0, 7, 110), (1, 0, x1), (2, 0, x2)] [] h) (x1 : Int) (x2 : Int) (x3 : Int) (h : Hp) {r : Hp} (H : LX3_findAll_54 n bk x1 x2 x3 h = some r) (hG : gW h' r) : PAt l false (mi 194).1 h0 v h' 54 [(0, 7, 110), (1, 0, x1), (2, 0, x2), (3, 0, x3)] [] h := by
  obtain ⟨e9, h2, h3⟩ := bndx_some H
  obtain ⟨e1, e2, h1⟩ := e9
  exact sBX3_findAll_54 h8 n n x1 x2 x3 h h2 (sJX3_findAll_102 h8 n bk hbk e1 e2 h1 h3 hG)
theorem sBX3_findAll_38 {l : Launch} {h0 h' : Hp} {v : Int} (h8 : nOf h0 = 148) (n : Nat) : ∀ (f : Nat) (x1 : Int) (x2 : Int) (h : Hp) {r : Hp}, BX3_findAll_38 n f x1 x2 h = some r → gW h' r → PAt l false (mi 194).1 h0 v h' 38 [(0, 7, 110), (1, 0, x1), (2, 0, x2)] [] h := by
  intro f
  induction f with
  | zero =>
    intro x1 x2 h r H _
    have H2 : (none : Option (Hp)) = some r := H
    cases H2
  | succ f ih =>
    intro x1 x2 h r H hG
    have ihk : ∀ (x1 : Int) (x2 : Int) (h : Hp) (r : Hp), BX3_findAll_38 n f x1 x2 h = some r → gW h' r → PAt l false (mi 194).1 h0 v h' 38 [(0, 7, 110), (1, 0, x1), (2, 0, x2)] [] h := fun x1 x2 h r9 a9 b9 => ih x1 x2 h a9 b9
    exact pat_w ok_sdX3_findAll rkX3_findAll h8 (foX3_findAll n) (fun v1 h1 q => by
    cases q
    exact ⟨hG, fun q9 => absurd rfl q9⟩) (List.forall_mem_cons.mpr ⟨(fun a c h H => by
      dsimp only at H
      split at H
      · exact ih _ _ _ H hG
      · cases H), (List.forall_mem_cons.mpr ⟨(fun a c h H => by
      dsimp only at H
      split at H
      · exact sLX3_findAll_54 h8 n (BX3_findAll_38 n f) ihk _ _ _ _ H hG
      · cases H), (fun q9 h9 => by cases h9)⟩)⟩) ((eBX3_findAll_38 n f x1 x2 h).symm.trans H)
theorem sLX3_findAll_38 {l : Launch} {h0 h' : Hp} {v : Int} (h8 : nOf h0 = 148) (n : Nat) (x1 : Int) (x2 : Int) (h : Hp) {r : Hp} (H : LX3_findAll_38 n x1 x2 h = some r) (hG : gW h' r) : PAt l false (mi 194).1 h0 v h' 38 [(0, 7, 110), (1, 0, x1), (2, 0, x2)] [] h :=
  sBX3_findAll_38 h8 n n x1 x2 h H hG
theorem sJX3_findAll_25 {l : Launch} {h0 h' : Hp} {v : Int} (h8 : nOf h0 = 148) (n : Nat)  (h : Hp) {r : Hp} (H : JX3_findAll_25 n h = some r) (hG : gW h' r) : PAt l false (mi 194).1 h0 v h' 25 [(0, 7, 110)] [] h :=
  pat_w ok_sdX3_findAll rkX3_findAll h8 (foX3_findAll n) (fun v1 h1 q => by
    cases q
    exact ⟨hG, fun q9 => absurd rfl q9⟩) (List.forall_mem_cons.mpr ⟨(fun a c h H => by
      dsimp only at H
      split at H
      · exact sLX3_findAll_38 h8 n _ _ _ H hG
      · cases H), (fun q9 h9 => by cases h9)⟩) ((eJX3_findAll_25 n h).symm.trans H)
theorem sLX3_findAll_2 {l : Launch} {h0 h' : Hp} {v : Int} (h8 : nOf h0 = 148) (n : Nat) (x1 : Int) (h : Hp) {r : Hp} (H : LX3_findAll_2 n x1 h = some r) (hG : gW h' r) : PAt l false (mi 194).1 h0 v h' 2 [(0, 7, 110), (1, 0, x1)] [] h := by
  obtain ⟨h1, h2, h3⟩ := bndx_some H
  exact sBX3_findAll_2 h8 n n x1 h h2 (sJX3_findAll_25 h8 n h1 h3 hG)
theorem sMX3_findAll {l : Launch} {h0 h' : Hp} {v : Int} (h8 : nOf h0 = 148) (n : Nat)  (h : Hp) {r : Hp} (H : MX3_findAll n h = some r) (hG : gW h' r) : PAt l false (mi 194).1 h0 v h' 0 [(0, 7, 110)] [] h :=
  pat_w ok_sdX3_findAll rkX3_findAll h8 (foX3_findAll n) (fun v1 h1 q => by
    cases q
    exact ⟨hG, fun q9 => absurd rfl q9⟩) (List.forall_mem_cons.mpr ⟨(fun a c h H => by
      dsimp only at H
      split at H
      · exact sLX3_findAll_2 h8 n _ _ H hG
      · cases H), (fun q9 h9 => by cases h9)⟩) ((eMX3_findAll n h).symm.trans H)
theorem sndX3_findAll {ρ : Type} {l : Launch} (n : Nat) : SndF (ρ := ρ) l false (mi 194).1 (wX3_findAll n) := by
    intro a h k r H ha ho hn hf
    have h8 := hf rfl
    obtain ⟨x0, rfl⟩ := len1 (show a.length = 1 from ha)
    have u0 := uq7 hn (ho (7, x0) (List.mem_cons_self))
    subst u0
    replace H : bndh (MX3_findAll n h) (fun h2 => k 0 h2) = some r := H
    obtain ⟨h2, H1, H2⟩ := bndh_some H
    exact ⟨0, h2, H2, met_mk (mok_base okX3_findAll).1 (by decide +kernel) (Nat.le_of_ble_eq_true rfl) ho (sMX3_findAll h8 n  h H1 rfl), fun q => by cases q⟩
/-! X3_wayFrom -/
def sdX3_wayFrom : SD := [(0, [(0, .iload_n 1, 1, [], 0), (1, .ifCond .lt 21, 3, [], 0)]),
  (4, [(4, .iload_n 1, 1, [], 0), (5, .bipush 40, 2, [], 0), (7, .if_icmp .gt 15, 3, [], 0)]),
  (10, [(10, .iload_n 2, 1, [], 0), (11, .bipush (-6), 2, [], 0), (13, .if_icmp .lt 9, 3, [], 0)]),
  (16, [(16, .iload_n 2, 1, [], 0), (17, .bipush 6, 2, [], 0), (19, .if_icmp .le 5, 3, [], 0)]),
  (22, [(22, .iconst (-1), 1, [], 0), (23, .ireturn, 1, [], 0)]),
  (24, [(24, .aload_n 0, 1, [], 0), (25, .getfield 15, 3, [3, 1, 0, 0, 557, 0], 0), (28, .ifCond .ne 12, 3, [], 0)]),
  (31, [(31, .aload_n 0, 1, [], 0), (32, .invokevirtual 19, 3, [0, 0, 1, 194, 1162, 7], 0), (35, .aload_n 0, 1, [], 0), (36, .iconst 1, 1, [], 0), (37, .putfield 15, 3, [3, 1, 0, 0, 1, 557], 0)]),
  (40, [(40, .aload_n 0, 1, [], 0), (41, .iload_n 1, 1, [], 0), (42, .iload_n 2, 1, [], 0), (43, .invokevirtual 22, 3, [1, 1, 1, 192, 1171, 0, 0, 7], 0), (46, .istore_n 3, 1, [], 0), (47, .iload_n 3, 1, [], 0), (48, .ldc 26, 2, [0, 1166], 1000000000), (50, .if_icmp .lt 8, 3, [], 0)]),
  (53, [(53, .bipush (-2), 2, [], 0), (55, .goto 4, 3, [], 0)]),
  (58, [(58, .iload_n 3, 1, [], 0)]),
  (59, [(59, .ireturn, 1, [], 0)])]
def JX3_wayFrom_40 (n : Nat) (x1 x2 : Int) (h : Hp) : Option (Int × Hp) :=
(bndp (MX3_sumOf x1 x2 h) fun r1 =>
(ltt r1 fun y1 =>
(if y1 < 1000000000 then
(some (y1, h))
else
(some ((-2), h)))))
def MX3_wayFrom (n : Nat) (x1 x2 : Int) (h : Hp) : Option (Int × Hp) :=
(if x1 < 0 then
(some ((-1), h))
else
(if 40 < x1 then
(some ((-1), h))
else
(if x2 < (-6) then
(some ((-1), h))
else
(if x2 ≤ 6 then
(if (h 110 1) ≠ 0 then
(JX3_wayFrom_40 n x1 x2 h)
else
(bndh (MX3_findAll n h) fun h1 =>
(ltt (up h1 110 1 1) fun h2 =>
(JX3_wayFrom_40 n x1 x2 h2))))
else
(some ((-1), h))))))
def wX3_wayFrom {ρ : Type} (n : Nat) : FN ρ := fun a h k => match a with
  | [_, x1, x2] => bnd (MX3_wayFrom n x1 x2 h) (fun r h2 => k r h2)
  | _ => none
def fsX3_wayFrom (n : Nat) (ρ : Type) : List (FN ρ) := [wX3_findAll n, wX3_sumOf]
def KJX3_wayFrom_40 (_ : Nat) : CT (Int × Hp) := []
set_option maxRecDepth 100000 in
theorem eJX3_wayFrom_40 (n : Nat) (x1 : Int) (x2 : Int) (h : Hp) : JX3_wayFrom_40 n x1 x2 h =
  goAt false (kct (KJX3_wayFrom_40 n)) (fun v h => some ((v, h))) (fsX3_wayFrom n _) sdX3_wayFrom 1000 40 [(0, 7, 110), (1, 0, x1), (2, 0, x2)] [] h := rfl
def KMX3_wayFrom (n : Nat) : CT (Int × Hp) := [(40, [(0, 7, (some 110)), (1, 0, none), (2, 0, none)], [], fun a c h => match a, c with
    | [x1, x2], [] => JX3_wayFrom_40 n x1 x2 h
    | _, _ => none)]
set_option maxRecDepth 100000 in
theorem eMX3_wayFrom (n : Nat) (x1 : Int) (x2 : Int) (h : Hp) : MX3_wayFrom n x1 x2 h =
  goAt false (kct (KMX3_wayFrom n)) (fun v h => some ((v, h))) (fsX3_wayFrom n _) sdX3_wayFrom 1000 0 [(0, 7, 110), (1, 0, x1), (2, 0, x2)] [] h := rfl
theorem okX3_wayFrom : mokb (mi 195) = true := by decide +kernel
theorem rkX3_wayFrom : rkOK 1 (mi 195).1.2.2.2.2.2.2.1 (mi 195).1.2.2.2.1 := Or.inr (Or.inl ⟨rfl, rfl, rfl⟩)
def calX3_wayFrom : List Nat := [194, 192]
theorem foX3_wayFrom {l : Launch} {ρ : Type} (n : Nat) : fsOK l false mi calX3_wayFrom (fsX3_wayFrom n ρ) := ⟨(sndX3_findAll n), ⟨sndX3_sumOf, trivial⟩⟩
theorem ok_sdX3_wayFrom : sdb (mi 195).1.2.1 (insOK mi (mi 195).1.1.cls (mi 195).1.2.2.1 (mi 195).1.2.2.2.2.1 (mi 195).1.2.2.2.2.2.1 calX3_wayFrom false 1) sdX3_wayFrom = true := by decide +kernel
theorem sJX3_wayFrom_40 {l : Launch} {h0 h' : Hp} {v : Int} (h8 : nOf h0 = 148) (n : Nat) (x1 : Int) (x2 : Int) (h : Hp) {r : Int × Hp} (H : JX3_wayFrom_40 n x1 x2 h = some r) (hG : gWV v h' r) : PAt l false (mi 195).1 h0 v h' 40 [(0, 7, 110), (1, 0, x1), (2, 0, x2)] [] h :=
  pat_w ok_sdX3_wayFrom rkX3_wayFrom h8 (foX3_wayFrom n) (fun v1 h1 q => by
    cases q
    exact ⟨hG.1, fun _ => hG.2⟩) (fun q9 h9 => by cases h9) ((eJX3_wayFrom_40 n x1 x2 h).symm.trans H)
theorem sMX3_wayFrom {l : Launch} {h0 h' : Hp} {v : Int} (h8 : nOf h0 = 148) (n : Nat) (x1 : Int) (x2 : Int) (h : Hp) {r : Int × Hp} (H : MX3_wayFrom n x1 x2 h = some r) (hG : gWV v h' r) : PAt l false (mi 195).1 h0 v h' 0 [(0, 7, 110), (1, 0, x1), (2, 0, x2)] [] h :=
  pat_w ok_sdX3_wayFrom rkX3_wayFrom h8 (foX3_wayFrom n) (fun v1 h1 q => by
    cases q
    exact ⟨hG.1, fun _ => hG.2⟩) (List.forall_mem_cons.mpr ⟨(fun a c h H => by
      dsimp only at H
      split at H
      · exact sJX3_wayFrom_40 h8 n _ _ _ H hG
      · cases H), (fun q9 h9 => by cases h9)⟩) ((eMX3_wayFrom n x1 x2 h).symm.trans H)
theorem sndX3_wayFrom {ρ : Type} {l : Launch} (n : Nat) : SndF (ρ := ρ) l false (mi 195).1 (wX3_wayFrom n) := by
    intro a h k r H ha ho hn hf
    have h8 := hf rfl
    obtain ⟨x0, x1, x2, rfl⟩ := len3 (show a.length = 3 from ha)
    have u0 := uq7 hn (ho (7, x0) (List.mem_cons_self))
    subst u0
    replace H : bnd (MX3_wayFrom n x1 x2 h) (fun r h2 => k r h2) = some r := H
    obtain ⟨v2, h2, H1, H2⟩ := bnd_some H
    exact ⟨v2, h2, H2, met_mk (mok_base okX3_wayFrom).1 (by decide +kernel) (Nat.le_of_ble_eq_true rfl) ho (sMX3_wayFrom h8 n x1 x2 h H1 ⟨rfl, rfl⟩), fun q => by cases q⟩
/-! X11_least -/
def sdX11_least : SD := [(0, [(0, .aload_n 0, 1, [], 0), (1, .getfield 89, 3, [11, 13, 7, 1, 703, 0], 110), (4, .iload_n 1, 1, [], 0), (5, .iload_n 2, 1, [], 0), (6, .invokevirtual 252, 3, [1, 0, 1, 195, 1158, 0, 0, 7], 0), (9, .ireturn, 1, [], 0)])]
def MX11_least (n : Nat) (x1 x2 : Int) (h : Hp) : Option (Int × Hp) :=
(bnd (MX3_wayFrom n x1 x2 h) fun r1 h1 =>
(some (r1, h1)))
def wX11_least {ρ : Type} (n : Nat) : FN ρ := fun a h k => match a with
  | [_, x1, x2] => bnd (MX11_least n x1 x2 h) (fun r h2 => k r h2)
  | _ => none
def fsX11_least (n : Nat) (ρ : Type) : List (FN ρ) := [wX3_wayFrom n]
def KMX11_least (_ : Nat) : CT (Int × Hp) := []
set_option maxRecDepth 100000 in
theorem eMX11_least (n : Nat) (x1 : Int) (x2 : Int) (h : Hp) : MX11_least n x1 x2 h =
  goAt false (kct (KMX11_least n)) (fun v h => some ((v, h))) (fsX11_least n _) sdX11_least 1000 0 [(0, 15, 0), (1, 0, x1), (2, 0, x2)] [] h := rfl
theorem okX11_least : mokb (mi 196) = true := by decide +kernel
theorem rkX11_least : rkOK 1 (mi 196).1.2.2.2.2.2.2.1 (mi 196).1.2.2.2.1 := Or.inr (Or.inl ⟨rfl, rfl, rfl⟩)
def calX11_least : List Nat := [195]
theorem foX11_least {l : Launch} {ρ : Type} (n : Nat) : fsOK l false mi calX11_least (fsX11_least n ρ) := ⟨(sndX3_wayFrom n), trivial⟩
theorem ok_sdX11_least : sdb (mi 196).1.2.1 (insOK mi (mi 196).1.1.cls (mi 196).1.2.2.1 (mi 196).1.2.2.2.2.1 (mi 196).1.2.2.2.2.2.1 calX11_least false 1) sdX11_least = true := by decide +kernel
theorem sMX11_least {l : Launch} {h0 h' : Hp} {v : Int} (h8 : nOf h0 = 148) (n : Nat) (x1 : Int) (x2 : Int) (h : Hp) {r : Int × Hp} (H : MX11_least n x1 x2 h = some r) (hG : gWV v h' r) : PAt l false (mi 196).1 h0 v h' 0 [(0, 15, 0), (1, 0, x1), (2, 0, x2)] [] h :=
  pat_w ok_sdX11_least rkX11_least h8 (foX11_least n) (fun v1 h1 q => by
    cases q
    exact ⟨hG.1, fun _ => hG.2⟩) (fun q9 h9 => by cases h9) ((eMX11_least n x1 x2 h).symm.trans H)
theorem sndX11_least {ρ : Type} {l : Launch} (n : Nat) : SndF (ρ := ρ) l false (mi 196).1 (wX11_least n) := by
    intro a h k r H ha ho hn hf
    have h8 := hf rfl
    obtain ⟨x0, x1, x2, rfl⟩ := len3 (show a.length = 3 from ha)
    have u0 := uq15 hn (ho (15, x0) (List.mem_cons_self))
    subst u0
    replace H : bnd (MX11_least n x1 x2 h) (fun r h2 => k r h2) = some r := H
    obtain ⟨v2, h2, H1, H2⟩ := bnd_some H
    exact ⟨v2, h2, H2, met_mk (mok_base okX11_least).1 (by decide +kernel) (Nat.le_of_ble_eq_true rfl) ho (sMX11_least h8 n x1 x2 h H1 ⟨rfl, rfl⟩), fun q => by cases q⟩
/-! X12_paceAt -/
def sdX12_paceAt : SD := [(0, [(0, .bipush 13, 2, [], 0), (2, .iload_n 0, 1, [], 0), (3, .imul, 1, [], 0), (4, .iload_n 1, 1, [], 0), (5, .iadd, 1, [], 0), (6, .bipush 6, 2, [], 0), (8, .iadd, 1, [], 0), (9, .ireturn, 1, [], 0)])]
def MX12_paceAt (x0 x1 : Int) : Option (Int) :=
(some (w32 ((w32 ((w32 (13 * x0)) + x1)) + 6)))
def wX12_paceAt {ρ : Type} : FN ρ := fun a h k => match a with
  | [x0, x1] => bndp (MX12_paceAt x0 x1) (fun r => k r h)
  | _ => none
def fsX12_paceAt (ρ : Type) : List (FN ρ) := []
def KMX12_paceAt  : CT (Int) := []
set_option maxRecDepth 100000 in
theorem eMX12_paceAt (x0 : Int) (x1 : Int) (h : Hp) : MX12_paceAt x0 x1 =
  goAt false (kct (KMX12_paceAt)) (fun v _ => some (v)) (fsX12_paceAt _) sdX12_paceAt 1000 0 [(0, 0, x0), (1, 0, x1)] [] h := rfl
theorem okX12_paceAt : mokb (mi 197) = true := by decide +kernel
theorem rkX12_paceAt : rkOK 1 (mi 197).1.2.2.2.2.2.2.1 (mi 197).1.2.2.2.1 := Or.inr (Or.inl ⟨rfl, rfl, rfl⟩)
def calX12_paceAt : List Nat := []
theorem foX12_paceAt {l : Launch} {ρ : Type} : fsOK l false mi calX12_paceAt (fsX12_paceAt ρ) := trivial
theorem frX12_paceAt {ρ : Type} : ∀ fn ∈ fsX12_paceAt ρ, RoF fn := (fun q9 h9 => by cases h9)
theorem ok_sdX12_paceAt : sdb (mi 197).1.2.1 (insOK mi (mi 197).1.1.cls (mi 197).1.2.2.1 (mi 197).1.2.2.2.2.1 (mi 197).1.2.2.2.2.2.1 calX12_paceAt false 1) sdX12_paceAt = true := by decide +kernel
theorem sMX12_paceAt {l : Launch} {h0 : Hp} {v : Int} (h8 : nOf h0 = 148)  (x0 : Int) (x1 : Int) (h : Hp) {r : Int} (H : MX12_paceAt x0 x1 = some r) (hG : gV v r) : PAt l false (mi 197).1 h0 v h 0 [(0, 0, x0), (1, 0, x1)] [] h :=
  pat_ro ok_sdX12_paceAt rfl rkX12_paceAt h8 (foX12_paceAt) (frX12_paceAt) (fun v1 q => by
    cases q
    exact ⟨rfl, fun _ => hG⟩) (fun q9 h9 => by cases h9) ((eMX12_paceAt x0 x1 h).symm.trans H)
theorem sndX12_paceAt {ρ : Type} {l : Launch} : SndF (ρ := ρ) l false (mi 197).1 (wX12_paceAt) := by
    intro a h k r H ha ho hn hf
    have h8 := hf rfl
    obtain ⟨x0, x1, rfl⟩ := len2 (show a.length = 2 from ha)
    replace H : bndp (MX12_paceAt x0 x1) (fun r => k r h) = some r := H
    obtain ⟨v2, H1, H2⟩ := bndp_some H
    exact ⟨v2, h, H2, met_mk (mok_base okX12_paceAt).1 (by decide +kernel) (Nat.le_of_ble_eq_true rfl) ho (sMX12_paceAt h8 x0 x1 h H1 rfl), fun q => by cases q⟩
theorem roX12_paceAt {ρ : Type} : RoF (wX12_paceAt : FN ρ) := fun a h k k2 hk => by
  unfold wX12_paceAt
  split
  · exact bndp_ro hk
  · rfl
/-! X12_leastFrom -/
def sdX12_leastFrom : SD := [(0, [(0, .ldc_w 498, 3, [0, 1871], 1000000), (3, .istore_n 3, 1, [], 0), (4, .iconst (-1), 1, [], 0), (5, .istore 4, 2, [], 0)]),
  (7, [(7, .iload 4, 2, [], 0), (9, .iconst 1, 1, [], 0), (10, .if_icmp .gt 69, 3, [], 0)]),
  (13, [(13, .iload_n 2, 1, [], 0), (14, .iload 4, 2, [], 0), (16, .iadd, 1, [], 0), (17, .istore 5, 2, [], 0), (19, .iload_n 1, 1, [], 0), (20, .iload 5, 2, [], 0), (22, .iadd, 1, [], 0), (23, .istore 6, 2, [], 0), (25, .iload 5, 2, [], 0), (27, .i2l, 1, [], 0), (28, .ldc2_w 499, 3, [1, 1869], (-6)), (31, .ldc2_w 501, 3, [1, 1870], 6), (34, .invokestatic 217, 3, [1, 0, 3, 81, 1561, 1, 1, 1], 0), (37, .ifCond .eq 36, 3, [], 0)]),
  (40, [(40, .iload 6, 2, [], 0), (42, .i2l, 1, [], 0), (43, .lconst 0, 1, [], 0), (44, .ldc2_w 457, 3, [1, 1672], 60), (47, .invokestatic 217, 3, [1, 0, 3, 81, 1561, 1, 1, 1], 0), (50, .ifCond .eq 23, 3, [], 0)]),
  (53, [(53, .iload_n 3, 1, [], 0), (54, .iload 6, 2, [], 0), (56, .aload_n 0, 1, [], 0), (57, .getfield 92, 3, [12, 56, 6364, 1, 1378, 0], 27), (60, .iload 6, 2, [], 0), (62, .iload 5, 2, [], 0), (64, .invokestatic 503, 3, [1, 1, 3, 197, 1872, 0, 0], 0), (67, .iaload, 1, [], 0), (68, .iadd, 1, [], 0), (69, .invokestatic 258, 3, [1, 2, 3, 261, 1596, 0, 0], 0), (72, .istore_n 3, 1, [], 0)]),
  (73, [(73, .iinc 4 1, 3, [], 0), (76, .goto (-69), 3, [], 0)]),
  (79, [(79, .iload_n 3, 1, [], 0), (80, .ireturn, 1, [], 0)])]
def BX12_leastFrom_7 (n : Nat) : Nat → Int → Int → Int → Int → Hp → Option (Int)
  | 0, _, _, _, _, _ => none
  | f + 1, x1, x2, x3, x4, h =>
    (if 1 < x4 then
    (some x3)
    else
    (ltt (w32 (x2 + x4)) fun y1 =>
    (ltt (w32 (x1 + y1)) fun y2 =>
    (bndp (MX12_in y1 (-6) 6) fun r1 =>
    (if r1 = 0 then
    (ltt (w32 (x4 + 1)) fun y3 =>
    (BX12_leastFrom_7 n f x1 x2 x3 y3 h))
    else
    (bndp (MX12_in y2 0 60) fun r2 =>
    (if r2 = 0 then
    (ltt (w32 (x4 + 1)) fun y4 =>
    (BX12_leastFrom_7 n f x1 x2 x3 y4 h))
    else
    (bndp (MX12_paceAt y2 y1) fun r3 =>
    (grd (0 ≤ r3 ∧ r3 < alen 6364)
    (ltt (min x3 (w32 (y2 + (h 140 r3)))) fun y5 =>
    (ltt (w32 (x4 + 1)) fun y6 =>
    (BX12_leastFrom_7 n f x1 x2 y5 y6 h))))))))))))
def LX12_leastFrom_7 (n : Nat) (x1 x2 x3 x4 : Int) (h : Hp) : Option (Int) :=
(BX12_leastFrom_7 n n x1 x2 x3 x4 h)
def MX12_leastFrom (n : Nat) (x1 x2 : Int) (h : Hp) : Option (Int) :=
(ltt 1000000 fun y1 =>
(ltt (-1) fun y2 =>
(LX12_leastFrom_7 n x1 x2 y1 y2 h)))
def wX12_leastFrom {ρ : Type} (n : Nat) : FN ρ := fun a h k => match a with
  | [_, x1, x2] => bndp (MX12_leastFrom n x1 x2 h) (fun r => k r h)
  | _ => none
def fsX12_leastFrom (n : Nat) (ρ : Type) : List (FN ρ) := [wX12_in, wX12_paceAt, fmin]
def KBX12_leastFrom_7 (_ : Nat) (bk : Int → Int → Int → Int → Hp → Option (Int)) : CT (Int) := [(7, [(0, 16, (some 113)), (1, 0, none), (2, 0, none), (3, 0, none), (4, 0, none)], [], fun a c h => match a, c with
    | [x1, x2, x3, x4], [] => bk x1 x2 x3 x4 h
    | _, _ => none)]
set_option maxRecDepth 100000 in
theorem eBX12_leastFrom_7 (n f : Nat) (x1 : Int) (x2 : Int) (x3 : Int) (x4 : Int) (h : Hp) : BX12_leastFrom_7 n (f + 1) x1 x2 x3 x4 h =
  goAt false (kct (KBX12_leastFrom_7 n (BX12_leastFrom_7 n f))) (fun v _ => some (v)) (fsX12_leastFrom n _) sdX12_leastFrom 1000 7 [(0, 16, 113), (1, 0, x1), (2, 0, x2), (3, 0, x3), (4, 0, x4)] [] h := rfl
def KMX12_leastFrom (n : Nat) : CT (Int) := [(7, [(0, 16, (some 113)), (1, 0, none), (2, 0, none), (3, 0, none), (4, 0, none)], [], fun a c h => match a, c with
    | [x1, x2, x3, x4], [] => LX12_leastFrom_7 n x1 x2 x3 x4 h
    | _, _ => none)]
set_option maxRecDepth 100000 in
theorem eMX12_leastFrom (n : Nat) (x1 : Int) (x2 : Int) (h : Hp) : MX12_leastFrom n x1 x2 h =
  goAt false (kct (KMX12_leastFrom n)) (fun v _ => some (v)) (fsX12_leastFrom n _) sdX12_leastFrom 1000 0 [(0, 16, 113), (1, 0, x1), (2, 0, x2)] [] h := rfl
theorem okX12_leastFrom : mokb (mi 198) = true := by decide +kernel
theorem rkX12_leastFrom : rkOK 1 (mi 198).1.2.2.2.2.2.2.1 (mi 198).1.2.2.2.1 := Or.inr (Or.inl ⟨rfl, rfl, rfl⟩)
def calX12_leastFrom : List Nat := [81, 197, 261]
theorem foX12_leastFrom {l : Launch} {ρ : Type} (n : Nat) : fsOK l false mi calX12_leastFrom (fsX12_leastFrom n ρ) := ⟨sndX12_in, ⟨sndX12_paceAt, ⟨snd_mmin, trivial⟩⟩⟩
theorem frX12_leastFrom {ρ : Type} (n : Nat) : ∀ fn ∈ fsX12_leastFrom n ρ, RoF fn := (List.forall_mem_cons.mpr ⟨roX12_in, (List.forall_mem_cons.mpr ⟨roX12_paceAt, (List.forall_mem_cons.mpr ⟨ro_mmin, (fun q9 h9 => by cases h9)⟩)⟩)⟩)
theorem ok_sdX12_leastFrom : sdb (mi 198).1.2.1 (insOK mi (mi 198).1.1.cls (mi 198).1.2.2.1 (mi 198).1.2.2.2.2.1 (mi 198).1.2.2.2.2.2.1 calX12_leastFrom false 1) sdX12_leastFrom = true := by decide +kernel
theorem sBX12_leastFrom_7 {l : Launch} {h0 : Hp} {v : Int} (h8 : nOf h0 = 148) (n : Nat) (h : Hp) : ∀ (f : Nat) (x1 : Int) (x2 : Int) (x3 : Int) (x4 : Int) {r : Int}, BX12_leastFrom_7 n f x1 x2 x3 x4 h = some r → gV v r → PAt l false (mi 198).1 h0 v h 7 [(0, 16, 113), (1, 0, x1), (2, 0, x2), (3, 0, x3), (4, 0, x4)] [] h := by
  intro f
  induction f with
  | zero =>
    intro x1 x2 x3 x4 r H _
    have H2 : (none : Option (Int)) = some r := H
    cases H2
  | succ f ih =>
    intro x1 x2 x3 x4 r H hG
    exact pat_ro ok_sdX12_leastFrom rfl rkX12_leastFrom h8 (foX12_leastFrom n) (frX12_leastFrom n) (fun v1 q => by
    cases q
    exact ⟨rfl, fun _ => hG⟩) (List.forall_mem_cons.mpr ⟨(fun a c H => by
      dsimp only at H
      split at H
      · exact ih _ _ _ _ H hG
      · cases H), (fun q9 h9 => by cases h9)⟩) ((eBX12_leastFrom_7 n f x1 x2 x3 x4 h).symm.trans H)
theorem sLX12_leastFrom_7 {l : Launch} {h0 : Hp} {v : Int} (h8 : nOf h0 = 148) (n : Nat) (x1 : Int) (x2 : Int) (x3 : Int) (x4 : Int) (h : Hp) {r : Int} (H : LX12_leastFrom_7 n x1 x2 x3 x4 h = some r) (hG : gV v r) : PAt l false (mi 198).1 h0 v h 7 [(0, 16, 113), (1, 0, x1), (2, 0, x2), (3, 0, x3), (4, 0, x4)] [] h :=
  sBX12_leastFrom_7 h8 n h n x1 x2 x3 x4 H hG
theorem sMX12_leastFrom {l : Launch} {h0 : Hp} {v : Int} (h8 : nOf h0 = 148) (n : Nat) (x1 : Int) (x2 : Int) (h : Hp) {r : Int} (H : MX12_leastFrom n x1 x2 h = some r) (hG : gV v r) : PAt l false (mi 198).1 h0 v h 0 [(0, 16, 113), (1, 0, x1), (2, 0, x2)] [] h :=
  pat_ro ok_sdX12_leastFrom rfl rkX12_leastFrom h8 (foX12_leastFrom n) (frX12_leastFrom n) (fun v1 q => by
    cases q
    exact ⟨rfl, fun _ => hG⟩) (List.forall_mem_cons.mpr ⟨(fun a c H => by
      dsimp only at H
      split at H
      · exact sLX12_leastFrom_7 h8 n _ _ _ _ _ H hG
      · cases H), (fun q9 h9 => by cases h9)⟩) ((eMX12_leastFrom n x1 x2 h).symm.trans H)
theorem sndX12_leastFrom {ρ : Type} {l : Launch} (n : Nat) : SndF (ρ := ρ) l false (mi 198).1 (wX12_leastFrom n) := by
    intro a h k r H ha ho hn hf
    have h8 := hf rfl
    obtain ⟨x0, x1, x2, rfl⟩ := len3 (show a.length = 3 from ha)
    have u0 := uq16 hn (ho (16, x0) (List.mem_cons_self))
    subst u0
    replace H : bndp (MX12_leastFrom n x1 x2 h) (fun r => k r h) = some r := H
    obtain ⟨v2, H1, H2⟩ := bndp_some H
    exact ⟨v2, h, H2, met_mk (mok_base okX12_leastFrom).1 (by decide +kernel) (Nat.le_of_ble_eq_true rfl) ho (sMX12_leastFrom h8 n x1 x2 h H1 rfl), fun q => by cases q⟩
theorem roX12_leastFrom {ρ : Type} (n : Nat) : RoF (wX12_leastFrom n : FN ρ) := fun a h k k2 hk => by
  unfold wX12_leastFrom
  split
  · exact bndp_ro hk
  · rfl
/-! X12_falls -/
def sdX12_falls : SD := [(0, [(0, .iconst 0, 1, [], 0), (1, .istore_n 1, 1, [], 0), (2, .iconst 0, 1, [], 0), (3, .istore_n 2, 1, [], 0)]),
  (4, [(4, .iload_n 2, 1, [], 0), (5, .bipush 61, 2, [], 0), (7, .if_icmp .ge 61, 3, [], 0)]),
  (10, [(10, .bipush (-6), 2, [], 0), (12, .istore_n 3, 1, [], 0)]),
  (13, [(13, .iload_n 3, 1, [], 0), (14, .bipush 6, 2, [], 0), (16, .if_icmp .gt 46, 3, [], 0)]),
  (19, [(19, .aload_n 0, 1, [], 0), (20, .iload_n 2, 1, [], 0), (21, .iload_n 3, 1, [], 0), (22, .invokevirtual 506, 3, [1, 0, 1, 198, 1879, 0, 0, 16], 0), (25, .istore 4, 2, [], 0), (27, .iload 4, 2, [], 0), (29, .aload_n 0, 1, [], 0), (30, .getfield 92, 3, [12, 56, 6364, 1, 1378, 0], 27), (33, .iload_n 2, 1, [], 0), (34, .iload_n 3, 1, [], 0), (35, .invokestatic 503, 3, [1, 1, 3, 197, 1872, 0, 0], 0), (38, .iaload, 1, [], 0), (39, .if_icmp .ge 17, 3, [], 0)]),
  (42, [(42, .aload_n 0, 1, [], 0), (43, .getfield 92, 3, [12, 56, 6364, 1, 1378, 0], 27), (46, .iload_n 2, 1, [], 0), (47, .iload_n 3, 1, [], 0), (48, .invokestatic 503, 3, [1, 1, 3, 197, 1872, 0, 0], 0), (51, .iload 4, 2, [], 0), (53, .iastore, 1, [], 0), (54, .iconst 1, 1, [], 0), (55, .istore_n 1, 1, [], 0)]),
  (56, [(56, .iinc 3 1, 3, [], 0), (59, .goto (-46), 3, [], 0)]),
  (62, [(62, .iinc 2 1, 3, [], 0), (65, .goto (-61), 3, [], 0)]),
  (68, [(68, .iload_n 1, 1, [], 0), (69, .ireturn, 1, [1], 0)])]
def BX12_falls_13 (n : Nat) : Nat → Int → Int → Int → Hp → Option (Int × Int × Hp)
  | 0, _, _, _, _ => none
  | f + 1, x1, x2, x3, h =>
    (if 6 < x3 then
    (some (x1, x2, h))
    else
    (bndp (MX12_leastFrom n x2 x3 h) fun r1 =>
    (ltt r1 fun y1 =>
    (bndp (MX12_paceAt x2 x3) fun r2 =>
    (grd (0 ≤ r2 ∧ r2 < alen 6364)
    (if (h 140 r2) ≤ y1 then
    (ltt (w32 (x3 + 1)) fun y2 =>
    (BX12_falls_13 n f x1 x2 y2 h))
    else
    (bndp (MX12_paceAt x2 x3) fun r3 =>
    (grd (0 ≤ r3 ∧ r3 < alen 6364)
    (ltt (up h 140 r3 y1) fun h1 =>
    (ltt 1 fun y3 =>
    (ltt (w32 (x3 + 1)) fun y4 =>
    (BX12_falls_13 n f y3 x2 y4 h1))))))))))))
def JX12_falls_62 (n : Nat) (bk : Int → Int → Hp → Option (Int × Hp)) (x1 x2 : Int) (h : Hp) : Option (Int × Hp) :=
(ltt (w32 (x2 + 1)) fun y1 =>
(bk x1 y1 h))
def LX12_falls_13 (n : Nat) (bk : Int → Int → Hp → Option (Int × Hp)) (x1 x2 x3 : Int) (h : Hp) : Option (Int × Hp) :=
(bndx (BX12_falls_13 n n x1 x2 x3 h) fun (e1, e2, h1) =>
(JX12_falls_62 n bk e1 e2 h1))
def BX12_falls_4 (n : Nat) : Nat → Int → Int → Hp → Option (Int × Hp)
  | 0, _, _, _ => none
  | f + 1, x1, x2, h =>
    (if 61 ≤ x2 then
    (grd (x1 = 0 ∨ x1 = 1)
    (some (x1, h)))
    else
    (ltt (-6) fun y1 =>
    (LX12_falls_13 n (BX12_falls_4 n f) x1 x2 y1 h)))
def LX12_falls_4 (n : Nat) (x1 x2 : Int) (h : Hp) : Option (Int × Hp) :=
(BX12_falls_4 n n x1 x2 h)
def MX12_falls (n : Nat) (h : Hp) : Option (Int × Hp) :=
(ltt 0 fun y1 =>
(ltt 0 fun y2 =>
(LX12_falls_4 n y1 y2 h)))
def wX12_falls {ρ : Type} (n : Nat) : FN ρ := fun a h k => match a with
  | [_] => bnd (MX12_falls n h) (fun r h2 => k r h2)
  | _ => none
def fsX12_falls (n : Nat) (ρ : Type) : List (FN ρ) := [wX12_leastFrom n, wX12_paceAt]
def KBX12_falls_13 (_ : Nat) (bk : Int → Int → Int → Hp → Option (Int × Int × Hp)) : CT (Int × Int × Hp) := [(13, [(0, 16, (some 113)), (1, 0, none), (2, 0, none), (3, 0, none)], [], fun a c h => match a, c with
    | [x1, x2, x3], [] => bk x1 x2 x3 h
    | _, _ => none),
  (62, [(0, 16, (some 113)), (1, 0, none), (2, 0, none)], [], fun a c h => match a, c with
    | [x1, x2], [] => some (x1, x2, h)
    | _, _ => none)]
set_option maxRecDepth 100000 in
theorem eBX12_falls_13 (n f : Nat) (x1 : Int) (x2 : Int) (x3 : Int) (h : Hp) : BX12_falls_13 n (f + 1) x1 x2 x3 h =
  goAt false (kct (KBX12_falls_13 n (BX12_falls_13 n f))) (fun _ _ => none) (fsX12_falls n _) sdX12_falls 1000 13 [(0, 16, 113), (1, 0, x1), (2, 0, x2), (3, 0, x3)] [] h := rfl
def KJX12_falls_62 (_ : Nat) (bk : Int → Int → Hp → Option (Int × Hp)) : CT (Int × Hp) := [(4, [(0, 16, (some 113)), (1, 0, none), (2, 0, none)], [], fun a c h => match a, c with
    | [x1, x2], [] => bk x1 x2 h
    | _, _ => none)]
set_option maxRecDepth 100000 in
theorem eJX12_falls_62 (n : Nat) (bk : Int → Int → Hp → Option (Int × Hp)) (x1 : Int) (x2 : Int) (h : Hp) : JX12_falls_62 n bk x1 x2 h =
  goAt false (kct (KJX12_falls_62 n bk)) (fun v h => some ((v, h))) (fsX12_falls n _) sdX12_falls 1000 62 [(0, 16, 113), (1, 0, x1), (2, 0, x2)] [] h := rfl
def KBX12_falls_4 (n : Nat) (bk : Int → Int → Hp → Option (Int × Hp)) : CT (Int × Hp) := [(4, [(0, 16, (some 113)), (1, 0, none), (2, 0, none)], [], fun a c h => match a, c with
    | [x1, x2], [] => bk x1 x2 h
    | _, _ => none),
  (13, [(0, 16, (some 113)), (1, 0, none), (2, 0, none), (3, 0, none)], [], fun a c h => match a, c with
    | [x1, x2, x3], [] => LX12_falls_13 n bk x1 x2 x3 h
    | _, _ => none)]
set_option maxRecDepth 100000 in
theorem eBX12_falls_4 (n f : Nat) (x1 : Int) (x2 : Int) (h : Hp) : BX12_falls_4 n (f + 1) x1 x2 h =
  goAt false (kct (KBX12_falls_4 n (BX12_falls_4 n f))) (fun v h => some ((v, h))) (fsX12_falls n _) sdX12_falls 1000 4 [(0, 16, 113), (1, 0, x1), (2, 0, x2)] [] h := rfl
def KMX12_falls (n : Nat) : CT (Int × Hp) := [(4, [(0, 16, (some 113)), (1, 0, none), (2, 0, none)], [], fun a c h => match a, c with
    | [x1, x2], [] => LX12_falls_4 n x1 x2 h
    | _, _ => none)]
set_option maxRecDepth 100000 in
theorem eMX12_falls (n : Nat) (h : Hp) : MX12_falls n h =
  goAt false (kct (KMX12_falls n)) (fun v h => some ((v, h))) (fsX12_falls n _) sdX12_falls 1000 0 [(0, 16, 113)] [] h := rfl
theorem okX12_falls : mokb (mi 199) = true := by decide +kernel
theorem rkX12_falls : rkOK 4 (mi 199).1.2.2.2.2.2.2.1 (mi 199).1.2.2.2.1 := Or.inr (Or.inr (Or.inl ⟨rfl, rfl, rfl⟩))
def calX12_falls : List Nat := [198, 197]
theorem foX12_falls {l : Launch} {ρ : Type} (n : Nat) : fsOK l false mi calX12_falls (fsX12_falls n ρ) := ⟨(sndX12_leastFrom n), ⟨sndX12_paceAt, trivial⟩⟩
theorem ok_sdX12_falls : sdb (mi 199).1.2.1 (insOK mi (mi 199).1.1.cls (mi 199).1.2.2.1 (mi 199).1.2.2.2.2.1 (mi 199).1.2.2.2.2.2.1 calX12_falls false 4) sdX12_falls = true := by decide +kernel
def GX12_falls_13 (l : Launch) (h0 : Hp) (h' : Hp) (v : Int) (_ : Hp) : (Int × Int × Hp) → Prop
  | (e1, e2, h1) => PAt l false (mi 199).1 h0 v h' 62 [(0, 16, 113), (1, 0, e1), (2, 0, e2)] [] h1
theorem sBX12_falls_13 {l : Launch} {h0 h' : Hp} {v : Int} (h8 : nOf h0 = 148) (n : Nat) : ∀ (f : Nat) (x1 : Int) (x2 : Int) (x3 : Int) (h : Hp) {r : Int × Int × Hp}, BX12_falls_13 n f x1 x2 x3 h = some r → GX12_falls_13 l h0 h' v h r → PAt l false (mi 199).1 h0 v h' 13 [(0, 16, 113), (1, 0, x1), (2, 0, x2), (3, 0, x3)] [] h := by
  intro f
  induction f with
  | zero =>
    intro x1 x2 x3 h r H _
    have H2 : (none : Option (Int × Int × Hp)) = some r := H
    cases H2
  | succ f ih =>
    intro x1 x2 x3 h r H hG
    exact pat_w ok_sdX12_falls rkX12_falls h8 (foX12_falls n) (fun v1 h1 q => by cases q) (List.forall_mem_cons.mpr ⟨(fun a c h H => by
      dsimp only at H
      split at H
      · exact ih _ _ _ _ H hG
      · cases H), (List.forall_mem_cons.mpr ⟨(fun a c h H => by
      dsimp only at H
      split at H
      · cases H
        exact hG
      · cases H), (fun q9 h9 => by cases h9)⟩)⟩) ((eBX12_falls_13 n f x1 x2 x3 h).symm.trans H)
theorem sJX12_falls_62 {l : Launch} {h0 h' : Hp} {v : Int} (h8 : nOf h0 = 148) (n : Nat) (bk : Int → Int → Hp → Option (Int × Hp)) (hbk : ∀ (x1 : Int) (x2 : Int) (h : Hp) (r : Int × Hp), bk x1 x2 h = some r → gWV v h' r → PAt l false (mi 199).1 h0 v h' 4 [(0, 16, 113), (1, 0, x1), (2, 0, x2)] [] h) (x1 : Int) (x2 : Int) (h : Hp) {r : Int × Hp} (H : JX12_falls_62 n bk x1 x2 h = some r) (hG : gWV v h' r) : PAt l false (mi 199).1 h0 v h' 62 [(0, 16, 113), (1, 0, x1), (2, 0, x2)] [] h :=
  pat_w ok_sdX12_falls rkX12_falls h8 (foX12_falls n) (fun v1 h1 q => by
    cases q
    exact ⟨hG.1, fun _ => hG.2⟩) (List.forall_mem_cons.mpr ⟨(fun a c h H => by
      dsimp only at H
      split at H
      · exact hbk _ _ _ _ H hG
      · cases H), (fun q9 h9 => by cases h9)⟩) ((eJX12_falls_62 n bk x1 x2 h).symm.trans H)
theorem sLX12_falls_13 {l : Launch} {h0 h' : Hp} {v : Int} (h8 : nOf h0 = 148) (n : Nat) (bk : Int → Int → Hp → Option (Int × Hp)) (hbk : ∀ (x1 : Int) (x2 : Int) (h : Hp) (r : Int × Hp), bk x1 x2 h = some r → gWV v h' r → PAt l false (mi 199).1 h0 v h' 4 [(0, 16, 113), (1, 0, x1), (2, 0, x2)] [] h) (x1 : Int) (x2 : Int) (x3 : Int) (h : Hp) {r : Int × Hp} (H : LX12_falls_13 n bk x1 x2 x3 h = some r) (hG : gWV v h' r) : PAt l false (mi 199).1 h0 v h' 13 [(0, 16, 113), (1, 0, x1), (2, 0, x2), (3, 0, x3)] [] h := by
  obtain ⟨e9, h2, h3⟩ := bndx_some H
  obtain ⟨e1, e2, h1⟩ := e9
  exact sBX12_falls_13 h8 n n x1 x2 x3 h h2 (sJX12_falls_62 h8 n bk hbk e1 e2 h1 h3 hG)
theorem sBX12_falls_4 {l : Launch} {h0 h' : Hp} {v : Int} (h8 : nOf h0 = 148) (n : Nat) : ∀ (f : Nat) (x1 : Int) (x2 : Int) (h : Hp) {r : Int × Hp}, BX12_falls_4 n f x1 x2 h = some r → gWV v h' r → PAt l false (mi 199).1 h0 v h' 4 [(0, 16, 113), (1, 0, x1), (2, 0, x2)] [] h := by
  intro f
  induction f with
  | zero =>
    intro x1 x2 h r H _
    have H2 : (none : Option (Int × Hp)) = some r := H
    cases H2
  | succ f ih =>
    intro x1 x2 h r H hG
    have ihk : ∀ (x1 : Int) (x2 : Int) (h : Hp) (r : Int × Hp), BX12_falls_4 n f x1 x2 h = some r → gWV v h' r → PAt l false (mi 199).1 h0 v h' 4 [(0, 16, 113), (1, 0, x1), (2, 0, x2)] [] h := fun x1 x2 h r9 a9 b9 => ih x1 x2 h a9 b9
    exact pat_w ok_sdX12_falls rkX12_falls h8 (foX12_falls n) (fun v1 h1 q => by
    cases q
    exact ⟨hG.1, fun _ => hG.2⟩) (List.forall_mem_cons.mpr ⟨(fun a c h H => by
      dsimp only at H
      split at H
      · exact ih _ _ _ H hG
      · cases H), (List.forall_mem_cons.mpr ⟨(fun a c h H => by
      dsimp only at H
      split at H
      · exact sLX12_falls_13 h8 n (BX12_falls_4 n f) ihk _ _ _ _ H hG
      · cases H), (fun q9 h9 => by cases h9)⟩)⟩) ((eBX12_falls_4 n f x1 x2 h).symm.trans H)
theorem sLX12_falls_4 {l : Launch} {h0 h' : Hp} {v : Int} (h8 : nOf h0 = 148) (n : Nat) (x1 : Int) (x2 : Int) (h : Hp) {r : Int × Hp} (H : LX12_falls_4 n x1 x2 h = some r) (hG : gWV v h' r) : PAt l false (mi 199).1 h0 v h' 4 [(0, 16, 113), (1, 0, x1), (2, 0, x2)] [] h :=
  sBX12_falls_4 h8 n n x1 x2 h H hG
theorem sMX12_falls {l : Launch} {h0 h' : Hp} {v : Int} (h8 : nOf h0 = 148) (n : Nat)  (h : Hp) {r : Int × Hp} (H : MX12_falls n h = some r) (hG : gWV v h' r) : PAt l false (mi 199).1 h0 v h' 0 [(0, 16, 113)] [] h :=
  pat_w ok_sdX12_falls rkX12_falls h8 (foX12_falls n) (fun v1 h1 q => by
    cases q
    exact ⟨hG.1, fun _ => hG.2⟩) (List.forall_mem_cons.mpr ⟨(fun a c h H => by
      dsimp only at H
      split at H
      · exact sLX12_falls_4 h8 n _ _ _ H hG
      · cases H), (fun q9 h9 => by cases h9)⟩) ((eMX12_falls n h).symm.trans H)
theorem sndX12_falls {ρ : Type} {l : Launch} (n : Nat) : SndF (ρ := ρ) l false (mi 199).1 (wX12_falls n) := by
    intro a h k r H ha ho hn hf
    have h8 := hf rfl
    obtain ⟨x0, rfl⟩ := len1 (show a.length = 1 from ha)
    have u0 := uq16 hn (ho (16, x0) (List.mem_cons_self))
    subst u0
    replace H : bnd (MX12_falls n h) (fun r h2 => k r h2) = some r := H
    obtain ⟨v2, h2, H1, H2⟩ := bnd_some H
    exact ⟨v2, h2, H2, met_mk (mok_base okX12_falls).1 (by decide +kernel) (Nat.le_of_ble_eq_true rfl) ho (sMX12_falls h8 n  h H1 ⟨rfl, rfl⟩), fun q => by cases q⟩
/-! X12_least -/
def sdX12_least : SD := [(0, [(0, .iload_n 1, 1, [], 0), (1, .i2l, 1, [], 0), (2, .lconst 0, 1, [], 0), (3, .ldc2_w 509, 3, [1, 1868], 40), (6, .invokestatic 217, 3, [1, 0, 3, 81, 1561, 1, 1, 1], 0), (9, .ifCond .eq 17, 3, [], 0)]),
  (12, [(12, .iload_n 2, 1, [], 0), (13, .i2l, 1, [], 0), (14, .ldc2_w 499, 3, [1, 1869], (-6)), (17, .ldc2_w 501, 3, [1, 1870], 6), (20, .invokestatic 217, 3, [1, 0, 3, 81, 1561, 1, 1, 1], 0), (23, .ifCond .ne 5, 3, [], 0)]),
  (26, [(26, .iconst (-1), 1, [], 0), (27, .ireturn, 1, [], 0)]),
  (28, [(28, .iconst 0, 1, [], 0), (29, .istore_n 3, 1, [], 0)]),
  (30, [(30, .iload_n 3, 1, [], 0), (31, .sipush 793, 3, [], 0), (34, .if_icmp .ge 18, 3, [], 0)]),
  (37, [(37, .aload_n 0, 1, [], 0), (38, .getfield 92, 3, [12, 56, 6364, 1, 1378, 0], 27), (41, .iload_n 3, 1, [], 0), (42, .ldc_w 498, 3, [0, 1871], 1000000), (45, .iastore, 1, [], 0), (46, .iinc 3 1, 3, [], 0), (49, .goto (-19), 3, [], 0)]),
  (52, [(52, .aload_n 0, 1, [], 0), (53, .getfield 92, 3, [12, 56, 6364, 1, 1378, 0], 27), (56, .iconst 0, 1, [], 0), (57, .iconst 0, 1, [], 0), (58, .invokestatic 503, 3, [1, 1, 3, 197, 1872, 0, 0], 0), (61, .iconst 0, 1, [], 0), (62, .iastore, 1, [], 0), (63, .iconst 1, 1, [], 0), (64, .istore_n 3, 1, [], 0)]),
  (65, [(65, .iload_n 3, 1, [], 0), (66, .ifCond .eq 11, 3, [], 0)]),
  (69, [(69, .aload_n 0, 1, [], 0), (70, .invokevirtual 511, 3, [1, 2, 1, 199, 1875, 16], 0), (73, .istore_n 3, 1, [], 0), (74, .goto (-9), 3, [], 0)]),
  (77, [(77, .aload_n 0, 1, [], 0), (78, .getfield 92, 3, [12, 56, 6364, 1, 1378, 0], 27), (81, .iload_n 1, 1, [], 0), (82, .iload_n 2, 1, [], 0), (83, .invokestatic 503, 3, [1, 1, 3, 197, 1872, 0, 0], 0), (86, .iaload, 1, [], 0), (87, .istore 4, 2, [], 0), (89, .iload 4, 2, [], 0), (91, .ldc_w 498, 3, [0, 1871], 1000000), (94, .if_icmp .lt 8, 3, [], 0)]),
  (97, [(97, .bipush (-2), 2, [], 0), (99, .goto 5, 3, [], 0)]),
  (102, [(102, .iload 4, 2, [], 0)]),
  (104, [(104, .ireturn, 1, [], 0)])]
def BX12_least_30 (n : Nat) : Nat → Int → Int → Int → Hp → Option (Int × Int × Hp)
  | 0, _, _, _, _ => none
  | f + 1, x1, x2, x3, h =>
    (if 793 ≤ x3 then
    (some (x1, x2, h))
    else
    (grd (0 ≤ x3 ∧ x3 < alen 6364)
    (ltt (up h 140 x3 1000000) fun h1 =>
    (ltt (w32 (x3 + 1)) fun y1 =>
    (BX12_least_30 n f x1 x2 y1 h1)))))
def BX12_least_65 (n : Nat) : Nat → Int → Int → Int → Hp → Option (Int × Int × Hp)
  | 0, _, _, _, _ => none
  | f + 1, x1, x2, x3, h =>
    (if x3 = 0 then
    (some (x1, x2, h))
    else
    (bnd (MX12_falls n h) fun r1 h1 =>
    (ltt r1 fun y1 =>
    (BX12_least_65 n f x1 x2 y1 h1))))
def JX12_least_77 (n : Nat) (x1 x2 : Int) (h : Hp) : Option (Int × Hp) :=
(bndp (MX12_paceAt x1 x2) fun r1 =>
(grd (0 ≤ r1 ∧ r1 < alen 6364)
(ltt (h 140 r1) fun y1 =>
(if y1 < 1000000 then
(some (y1, h))
else
(some ((-2), h))))))
def LX12_least_65 (n : Nat) (x1 x2 x3 : Int) (h : Hp) : Option (Int × Hp) :=
(bndx (BX12_least_65 n n x1 x2 x3 h) fun (e1, e2, h1) =>
(JX12_least_77 n e1 e2 h1))
def JX12_least_52 (n : Nat) (x1 x2 : Int) (h : Hp) : Option (Int × Hp) :=
(bndp (MX12_paceAt 0 0) fun r1 =>
(grd (0 ≤ r1 ∧ r1 < alen 6364)
(ltt (up h 140 r1 0) fun h1 =>
(ltt 1 fun y1 =>
(LX12_least_65 n x1 x2 y1 h1)))))
def LX12_least_30 (n : Nat) (x1 x2 x3 : Int) (h : Hp) : Option (Int × Hp) :=
(bndx (BX12_least_30 n n x1 x2 x3 h) fun (e1, e2, h1) =>
(JX12_least_52 n e1 e2 h1))
def MX12_least (n : Nat) (x1 x2 : Int) (h : Hp) : Option (Int × Hp) :=
(bndp (MX12_in x1 0 40) fun r1 =>
(if r1 = 0 then
(some ((-1), h))
else
(bndp (MX12_in x2 (-6) 6) fun r2 =>
(if r2 ≠ 0 then
(ltt 0 fun y1 =>
(LX12_least_30 n x1 x2 y1 h))
else
(some ((-1), h))))))
def wX12_least {ρ : Type} (n : Nat) : FN ρ := fun a h k => match a with
  | [_, x1, x2] => bnd (MX12_least n x1 x2 h) (fun r h2 => k r h2)
  | _ => none
def fsX12_least (n : Nat) (ρ : Type) : List (FN ρ) := [wX12_in, wX12_paceAt, wX12_falls n]
def KBX12_least_30 (_ : Nat) (bk : Int → Int → Int → Hp → Option (Int × Int × Hp)) : CT (Int × Int × Hp) := [(30, [(0, 16, (some 113)), (1, 0, none), (2, 0, none), (3, 0, none)], [], fun a c h => match a, c with
    | [x1, x2, x3], [] => bk x1 x2 x3 h
    | _, _ => none),
  (52, [(0, 16, (some 113)), (1, 0, none), (2, 0, none)], [], fun a c h => match a, c with
    | [x1, x2], [] => some (x1, x2, h)
    | _, _ => none)]
set_option maxRecDepth 100000 in
theorem eBX12_least_30 (n f : Nat) (x1 : Int) (x2 : Int) (x3 : Int) (h : Hp) : BX12_least_30 n (f + 1) x1 x2 x3 h =
  goAt false (kct (KBX12_least_30 n (BX12_least_30 n f))) (fun _ _ => none) (fsX12_least n _) sdX12_least 1000 30 [(0, 16, 113), (1, 0, x1), (2, 0, x2), (3, 0, x3)] [] h := rfl
def KBX12_least_65 (_ : Nat) (bk : Int → Int → Int → Hp → Option (Int × Int × Hp)) : CT (Int × Int × Hp) := [(65, [(0, 16, (some 113)), (1, 0, none), (2, 0, none), (3, 0, none)], [], fun a c h => match a, c with
    | [x1, x2, x3], [] => bk x1 x2 x3 h
    | _, _ => none),
  (77, [(0, 16, (some 113)), (1, 0, none), (2, 0, none)], [], fun a c h => match a, c with
    | [x1, x2], [] => some (x1, x2, h)
    | _, _ => none)]
set_option maxRecDepth 100000 in
theorem eBX12_least_65 (n f : Nat) (x1 : Int) (x2 : Int) (x3 : Int) (h : Hp) : BX12_least_65 n (f + 1) x1 x2 x3 h =
  goAt false (kct (KBX12_least_65 n (BX12_least_65 n f))) (fun _ _ => none) (fsX12_least n _) sdX12_least 1000 65 [(0, 16, 113), (1, 0, x1), (2, 0, x2), (3, 0, x3)] [] h := rfl
def KJX12_least_77 (_ : Nat) : CT (Int × Hp) := []
set_option maxRecDepth 100000 in
theorem eJX12_least_77 (n : Nat) (x1 : Int) (x2 : Int) (h : Hp) : JX12_least_77 n x1 x2 h =
  goAt false (kct (KJX12_least_77 n)) (fun v h => some ((v, h))) (fsX12_least n _) sdX12_least 1000 77 [(0, 16, 113), (1, 0, x1), (2, 0, x2)] [] h := rfl
def KJX12_least_52 (n : Nat) : CT (Int × Hp) := [(65, [(0, 16, (some 113)), (1, 0, none), (2, 0, none), (3, 0, none)], [], fun a c h => match a, c with
    | [x1, x2, x3], [] => LX12_least_65 n x1 x2 x3 h
    | _, _ => none)]
set_option maxRecDepth 100000 in
theorem eJX12_least_52 (n : Nat) (x1 : Int) (x2 : Int) (h : Hp) : JX12_least_52 n x1 x2 h =
  goAt false (kct (KJX12_least_52 n)) (fun v h => some ((v, h))) (fsX12_least n _) sdX12_least 1000 52 [(0, 16, 113), (1, 0, x1), (2, 0, x2)] [] h := rfl
def KMX12_least (n : Nat) : CT (Int × Hp) := [(30, [(0, 16, (some 113)), (1, 0, none), (2, 0, none), (3, 0, none)], [], fun a c h => match a, c with
    | [x1, x2, x3], [] => LX12_least_30 n x1 x2 x3 h
    | _, _ => none)]
set_option maxRecDepth 100000 in
theorem eMX12_least (n : Nat) (x1 : Int) (x2 : Int) (h : Hp) : MX12_least n x1 x2 h =
  goAt false (kct (KMX12_least n)) (fun v h => some ((v, h))) (fsX12_least n _) sdX12_least 1000 0 [(0, 16, 113), (1, 0, x1), (2, 0, x2)] [] h := rfl
theorem okX12_least : mokb (mi 200) = true := by decide +kernel
theorem rkX12_least : rkOK 1 (mi 200).1.2.2.2.2.2.2.1 (mi 200).1.2.2.2.1 := Or.inr (Or.inl ⟨rfl, rfl, rfl⟩)
def calX12_least : List Nat := [81, 197, 199]
theorem foX12_least {l : Launch} {ρ : Type} (n : Nat) : fsOK l false mi calX12_least (fsX12_least n ρ) := ⟨sndX12_in, ⟨sndX12_paceAt, ⟨(sndX12_falls n), trivial⟩⟩⟩
theorem ok_sdX12_least : sdb (mi 200).1.2.1 (insOK mi (mi 200).1.1.cls (mi 200).1.2.2.1 (mi 200).1.2.2.2.2.1 (mi 200).1.2.2.2.2.2.1 calX12_least false 1) sdX12_least = true := by decide +kernel
def GX12_least_30 (l : Launch) (h0 : Hp) (h' : Hp) (v : Int) (_ : Hp) : (Int × Int × Hp) → Prop
  | (e1, e2, h1) => PAt l false (mi 200).1 h0 v h' 52 [(0, 16, 113), (1, 0, e1), (2, 0, e2)] [] h1
def GX12_least_65 (l : Launch) (h0 : Hp) (h' : Hp) (v : Int) (_ : Hp) : (Int × Int × Hp) → Prop
  | (e1, e2, h1) => PAt l false (mi 200).1 h0 v h' 77 [(0, 16, 113), (1, 0, e1), (2, 0, e2)] [] h1
theorem sBX12_least_30 {l : Launch} {h0 h' : Hp} {v : Int} (h8 : nOf h0 = 148) (n : Nat) : ∀ (f : Nat) (x1 : Int) (x2 : Int) (x3 : Int) (h : Hp) {r : Int × Int × Hp}, BX12_least_30 n f x1 x2 x3 h = some r → GX12_least_30 l h0 h' v h r → PAt l false (mi 200).1 h0 v h' 30 [(0, 16, 113), (1, 0, x1), (2, 0, x2), (3, 0, x3)] [] h := by
  intro f
  induction f with
  | zero =>
    intro x1 x2 x3 h r H _
    have H2 : (none : Option (Int × Int × Hp)) = some r := H
    cases H2
  | succ f ih =>
    intro x1 x2 x3 h r H hG
    exact pat_w ok_sdX12_least rkX12_least h8 (foX12_least n) (fun v1 h1 q => by cases q) (List.forall_mem_cons.mpr ⟨(fun a c h H => by
      dsimp only at H
      split at H
      · exact ih _ _ _ _ H hG
      · cases H), (List.forall_mem_cons.mpr ⟨(fun a c h H => by
      dsimp only at H
      split at H
      · cases H
        exact hG
      · cases H), (fun q9 h9 => by cases h9)⟩)⟩) ((eBX12_least_30 n f x1 x2 x3 h).symm.trans H)
theorem sBX12_least_65 {l : Launch} {h0 h' : Hp} {v : Int} (h8 : nOf h0 = 148) (n : Nat) : ∀ (f : Nat) (x1 : Int) (x2 : Int) (x3 : Int) (h : Hp) {r : Int × Int × Hp}, BX12_least_65 n f x1 x2 x3 h = some r → GX12_least_65 l h0 h' v h r → PAt l false (mi 200).1 h0 v h' 65 [(0, 16, 113), (1, 0, x1), (2, 0, x2), (3, 0, x3)] [] h := by
  intro f
  induction f with
  | zero =>
    intro x1 x2 x3 h r H _
    have H2 : (none : Option (Int × Int × Hp)) = some r := H
    cases H2
  | succ f ih =>
    intro x1 x2 x3 h r H hG
    exact pat_w ok_sdX12_least rkX12_least h8 (foX12_least n) (fun v1 h1 q => by cases q) (List.forall_mem_cons.mpr ⟨(fun a c h H => by
      dsimp only at H
      split at H
      · exact ih _ _ _ _ H hG
      · cases H), (List.forall_mem_cons.mpr ⟨(fun a c h H => by
      dsimp only at H
      split at H
      · cases H
        exact hG
      · cases H), (fun q9 h9 => by cases h9)⟩)⟩) ((eBX12_least_65 n f x1 x2 x3 h).symm.trans H)
theorem sJX12_least_77 {l : Launch} {h0 h' : Hp} {v : Int} (h8 : nOf h0 = 148) (n : Nat) (x1 : Int) (x2 : Int) (h : Hp) {r : Int × Hp} (H : JX12_least_77 n x1 x2 h = some r) (hG : gWV v h' r) : PAt l false (mi 200).1 h0 v h' 77 [(0, 16, 113), (1, 0, x1), (2, 0, x2)] [] h :=
  pat_w ok_sdX12_least rkX12_least h8 (foX12_least n) (fun v1 h1 q => by
    cases q
    exact ⟨hG.1, fun _ => hG.2⟩) (fun q9 h9 => by cases h9) ((eJX12_least_77 n x1 x2 h).symm.trans H)
theorem sLX12_least_65 {l : Launch} {h0 h' : Hp} {v : Int} (h8 : nOf h0 = 148) (n : Nat) (x1 : Int) (x2 : Int) (x3 : Int) (h : Hp) {r : Int × Hp} (H : LX12_least_65 n x1 x2 x3 h = some r) (hG : gWV v h' r) : PAt l false (mi 200).1 h0 v h' 65 [(0, 16, 113), (1, 0, x1), (2, 0, x2), (3, 0, x3)] [] h := by
  obtain ⟨e9, h2, h3⟩ := bndx_some H
  obtain ⟨e1, e2, h1⟩ := e9
  exact sBX12_least_65 h8 n n x1 x2 x3 h h2 (sJX12_least_77 h8 n e1 e2 h1 h3 hG)
theorem sJX12_least_52 {l : Launch} {h0 h' : Hp} {v : Int} (h8 : nOf h0 = 148) (n : Nat) (x1 : Int) (x2 : Int) (h : Hp) {r : Int × Hp} (H : JX12_least_52 n x1 x2 h = some r) (hG : gWV v h' r) : PAt l false (mi 200).1 h0 v h' 52 [(0, 16, 113), (1, 0, x1), (2, 0, x2)] [] h :=
  pat_w ok_sdX12_least rkX12_least h8 (foX12_least n) (fun v1 h1 q => by
    cases q
    exact ⟨hG.1, fun _ => hG.2⟩) (List.forall_mem_cons.mpr ⟨(fun a c h H => by
      dsimp only at H
      split at H
      · exact sLX12_least_65 h8 n _ _ _ _ H hG
      · cases H), (fun q9 h9 => by cases h9)⟩) ((eJX12_least_52 n x1 x2 h).symm.trans H)
theorem sLX12_least_30 {l : Launch} {h0 h' : Hp} {v : Int} (h8 : nOf h0 = 148) (n : Nat) (x1 : Int) (x2 : Int) (x3 : Int) (h : Hp) {r : Int × Hp} (H : LX12_least_30 n x1 x2 x3 h = some r) (hG : gWV v h' r) : PAt l false (mi 200).1 h0 v h' 30 [(0, 16, 113), (1, 0, x1), (2, 0, x2), (3, 0, x3)] [] h := by
  obtain ⟨e9, h2, h3⟩ := bndx_some H
  obtain ⟨e1, e2, h1⟩ := e9
  exact sBX12_least_30 h8 n n x1 x2 x3 h h2 (sJX12_least_52 h8 n e1 e2 h1 h3 hG)
theorem sMX12_least {l : Launch} {h0 h' : Hp} {v : Int} (h8 : nOf h0 = 148) (n : Nat) (x1 : Int) (x2 : Int) (h : Hp) {r : Int × Hp} (H : MX12_least n x1 x2 h = some r) (hG : gWV v h' r) : PAt l false (mi 200).1 h0 v h' 0 [(0, 16, 113), (1, 0, x1), (2, 0, x2)] [] h :=
  pat_w ok_sdX12_least rkX12_least h8 (foX12_least n) (fun v1 h1 q => by
    cases q
    exact ⟨hG.1, fun _ => hG.2⟩) (List.forall_mem_cons.mpr ⟨(fun a c h H => by
      dsimp only at H
      split at H
      · exact sLX12_least_30 h8 n _ _ _ _ H hG
      · cases H), (fun q9 h9 => by cases h9)⟩) ((eMX12_least n x1 x2 h).symm.trans H)
theorem sndX12_least {ρ : Type} {l : Launch} (n : Nat) : SndF (ρ := ρ) l false (mi 200).1 (wX12_least n) := by
    intro a h k r H ha ho hn hf
    have h8 := hf rfl
    obtain ⟨x0, x1, x2, rfl⟩ := len3 (show a.length = 3 from ha)
    have u0 := uq16 hn (ho (16, x0) (List.mem_cons_self))
    subst u0
    replace H : bnd (MX12_least n x1 x2 h) (fun r h2 => k r h2) = some r := H
    obtain ⟨v2, h2, H1, H2⟩ := bnd_some H
    exact ⟨v2, h2, H2, met_mk (mok_base okX12_least).1 (by decide +kernel) (Nat.le_of_ble_eq_true rfl) ho (sMX12_least h8 n x1 x2 h H1 ⟨rfl, rfl⟩), fun q => by cases q⟩
/-! X11_spots -/
def sdX11_spots : SD := [(0, [(0, .aload_n 0, 1, [], 0), (1, .getfield 40, 3, [11, 4, 11, 1, 694, 0], 39), (4, .getfield 270, 3, [7, 4, 0, 0, 369, 0], 0), (7, .ireturn, 1, [], 0)])]
def MX11_spots (h : Hp) : Option (Int) :=
(some (h 39 4))
def wX11_spots {ρ : Type} : FN ρ := fun a h k => match a with
  | [_] => bndp (MX11_spots h) (fun r => k r h)
  | _ => none
def fsX11_spots (ρ : Type) : List (FN ρ) := []
def KMX11_spots  : CT (Int) := []
set_option maxRecDepth 100000 in
theorem eMX11_spots (h : Hp) : MX11_spots h =
  goAt false (kct (KMX11_spots)) (fun v _ => some (v)) (fsX11_spots _) sdX11_spots 1000 0 [(0, 15, 0)] [] h := rfl
theorem okX11_spots : mokb (mi 201) = true := by decide +kernel
theorem rkX11_spots : rkOK 1 (mi 201).1.2.2.2.2.2.2.1 (mi 201).1.2.2.2.1 := Or.inr (Or.inl ⟨rfl, rfl, rfl⟩)
def calX11_spots : List Nat := []
theorem foX11_spots {l : Launch} {ρ : Type} : fsOK l false mi calX11_spots (fsX11_spots ρ) := trivial
theorem frX11_spots {ρ : Type} : ∀ fn ∈ fsX11_spots ρ, RoF fn := (fun q9 h9 => by cases h9)
theorem ok_sdX11_spots : sdb (mi 201).1.2.1 (insOK mi (mi 201).1.1.cls (mi 201).1.2.2.1 (mi 201).1.2.2.2.2.1 (mi 201).1.2.2.2.2.2.1 calX11_spots false 1) sdX11_spots = true := by decide +kernel
theorem sMX11_spots {l : Launch} {h0 : Hp} {v : Int} (h8 : nOf h0 = 148)   (h : Hp) {r : Int} (H : MX11_spots h = some r) (hG : gV v r) : PAt l false (mi 201).1 h0 v h 0 [(0, 15, 0)] [] h :=
  pat_ro ok_sdX11_spots rfl rkX11_spots h8 (foX11_spots) (frX11_spots) (fun v1 q => by
    cases q
    exact ⟨rfl, fun _ => hG⟩) (fun q9 h9 => by cases h9) ((eMX11_spots h).symm.trans H)
theorem sndX11_spots {ρ : Type} {l : Launch} : SndF (ρ := ρ) l false (mi 201).1 (wX11_spots) := by
    intro a h k r H ha ho hn hf
    have h8 := hf rfl
    obtain ⟨x0, rfl⟩ := len1 (show a.length = 1 from ha)
    have u0 := uq15 hn (ho (15, x0) (List.mem_cons_self))
    subst u0
    replace H : bndp (MX11_spots h) (fun r => k r h) = some r := H
    obtain ⟨v2, H1, H2⟩ := bndp_some H
    exact ⟨v2, h, H2, met_mk (mok_base okX11_spots).1 (by decide +kernel) (Nat.le_of_ble_eq_true rfl) ho (sMX11_spots h8  h H1 rfl), fun q => by cases q⟩
theorem roX11_spots {ρ : Type} : RoF (wX11_spots : FN ρ) := fun a h k k2 hk => by
  unfold wX11_spots
  split
  · exact bndp_ro hk
  · rfl
/-! X12_isSame -/
def sdX12_isSame : SD := [(0, [(0, .aload_n 0, 1, [], 0), (1, .getfield 37, 3, [12, 14, 1580, 1, 1336, 0], 9), (4, .iconst 3, 1, [], 0), (5, .iload_n 1, 1, [], 0), (6, .imul, 1, [], 0), (7, .iaload, 1, [], 0), (8, .aload_n 0, 1, [], 0), (9, .getfield 37, 3, [12, 14, 1580, 1, 1336, 0], 9), (12, .iconst 3, 1, [], 0), (13, .iload_n 2, 1, [], 0), (14, .imul, 1, [], 0), (15, .iaload, 1, [], 0), (16, .if_icmp .ne 53, 3, [], 0)]),
  (19, [(19, .aload_n 0, 1, [], 0), (20, .getfield 37, 3, [12, 14, 1580, 1, 1336, 0], 9), (23, .iconst 3, 1, [], 0), (24, .iload_n 1, 1, [], 0), (25, .imul, 1, [], 0), (26, .iconst 1, 1, [], 0), (27, .iadd, 1, [], 0), (28, .iaload, 1, [], 0), (29, .aload_n 0, 1, [], 0), (30, .getfield 37, 3, [12, 14, 1580, 1, 1336, 0], 9), (33, .iconst 3, 1, [], 0), (34, .iload_n 2, 1, [], 0), (35, .imul, 1, [], 0), (36, .iconst 1, 1, [], 0), (37, .iadd, 1, [], 0), (38, .iaload, 1, [], 0), (39, .if_icmp .ne 30, 3, [], 0)]),
  (42, [(42, .aload_n 0, 1, [], 0), (43, .getfield 37, 3, [12, 14, 1580, 1, 1336, 0], 9), (46, .iconst 3, 1, [], 0), (47, .iload_n 1, 1, [], 0), (48, .imul, 1, [], 0), (49, .iconst 2, 1, [], 0), (50, .iadd, 1, [], 0), (51, .iaload, 1, [], 0), (52, .aload_n 0, 1, [], 0), (53, .getfield 37, 3, [12, 14, 1580, 1, 1336, 0], 9), (56, .iconst 3, 1, [], 0), (57, .iload_n 2, 1, [], 0), (58, .imul, 1, [], 0), (59, .iconst 2, 1, [], 0), (60, .iadd, 1, [], 0), (61, .iaload, 1, [], 0), (62, .if_icmp .ne 7, 3, [], 0)]),
  (65, [(65, .iconst 1, 1, [], 0), (66, .goto 4, 3, [], 0)]),
  (69, [(69, .iconst 0, 1, [], 0)]),
  (70, [(70, .ireturn, 1, [1], 0)])]
def MX12_isSame (x1 x2 : Int) (h : Hp) : Option (Int) :=
(grd (0 ≤ (w32 (3 * x1)) ∧ (w32 (3 * x1)) < alen 1580)
(grd (0 ≤ (w32 (3 * x2)) ∧ (w32 (3 * x2)) < alen 1580)
(if (h 122 (w32 (3 * x1))) ≠ (h 122 (w32 (3 * x2))) then
(some 0)
else
(grd (0 ≤ (w32 ((w32 (3 * x1)) + 1)) ∧ (w32 ((w32 (3 * x1)) + 1)) < alen 1580)
(grd (0 ≤ (w32 ((w32 (3 * x2)) + 1)) ∧ (w32 ((w32 (3 * x2)) + 1)) < alen 1580)
(if (h 122 (w32 ((w32 (3 * x1)) + 1))) ≠ (h 122 (w32 ((w32 (3 * x2)) + 1))) then
(some 0)
else
(grd (0 ≤ (w32 ((w32 (3 * x1)) + 2)) ∧ (w32 ((w32 (3 * x1)) + 2)) < alen 1580)
(grd (0 ≤ (w32 ((w32 (3 * x2)) + 2)) ∧ (w32 ((w32 (3 * x2)) + 2)) < alen 1580)
(if (h 122 (w32 ((w32 (3 * x1)) + 2))) ≠ (h 122 (w32 ((w32 (3 * x2)) + 2))) then
(some 0)
else
(some 1))))))))))
def wX12_isSame {ρ : Type} : FN ρ := fun a h k => match a with
  | [_, x1, x2] => bndp (MX12_isSame x1 x2 h) (fun r => k r h)
  | _ => none
def fsX12_isSame (ρ : Type) : List (FN ρ) := []
def KMX12_isSame  : CT (Int) := []
set_option maxRecDepth 100000 in
theorem eMX12_isSame (x1 : Int) (x2 : Int) (h : Hp) : MX12_isSame x1 x2 h =
  goAt false (kct (KMX12_isSame)) (fun v _ => some (v)) (fsX12_isSame _) sdX12_isSame 1000 0 [(0, 16, 113), (1, 0, x1), (2, 0, x2)] [] h := rfl
theorem okX12_isSame : mokb (mi 202) = true := by decide +kernel
theorem rkX12_isSame : rkOK 4 (mi 202).1.2.2.2.2.2.2.1 (mi 202).1.2.2.2.1 := Or.inr (Or.inr (Or.inl ⟨rfl, rfl, rfl⟩))
def calX12_isSame : List Nat := []
theorem foX12_isSame {l : Launch} {ρ : Type} : fsOK l false mi calX12_isSame (fsX12_isSame ρ) := trivial
theorem frX12_isSame {ρ : Type} : ∀ fn ∈ fsX12_isSame ρ, RoF fn := (fun q9 h9 => by cases h9)
theorem ok_sdX12_isSame : sdb (mi 202).1.2.1 (insOK mi (mi 202).1.1.cls (mi 202).1.2.2.1 (mi 202).1.2.2.2.2.1 (mi 202).1.2.2.2.2.2.1 calX12_isSame false 4) sdX12_isSame = true := by decide +kernel
theorem sMX12_isSame {l : Launch} {h0 : Hp} {v : Int} (h8 : nOf h0 = 148)  (x1 : Int) (x2 : Int) (h : Hp) {r : Int} (H : MX12_isSame x1 x2 h = some r) (hG : gV v r) : PAt l false (mi 202).1 h0 v h 0 [(0, 16, 113), (1, 0, x1), (2, 0, x2)] [] h :=
  pat_ro ok_sdX12_isSame rfl rkX12_isSame h8 (foX12_isSame) (frX12_isSame) (fun v1 q => by
    cases q
    exact ⟨rfl, fun _ => hG⟩) (fun q9 h9 => by cases h9) ((eMX12_isSame x1 x2 h).symm.trans H)
theorem sndX12_isSame {ρ : Type} {l : Launch} : SndF (ρ := ρ) l false (mi 202).1 (wX12_isSame) := by
    intro a h k r H ha ho hn hf
    have h8 := hf rfl
    obtain ⟨x0, x1, x2, rfl⟩ := len3 (show a.length = 3 from ha)
    have u0 := uq16 hn (ho (16, x0) (List.mem_cons_self))
    subst u0
    replace H : bndp (MX12_isSame x1 x2 h) (fun r => k r h) = some r := H
    obtain ⟨v2, H1, H2⟩ := bndp_some H
    exact ⟨v2, h, H2, met_mk (mok_base okX12_isSame).1 (by decide +kernel) (Nat.le_of_ble_eq_true rfl) ho (sMX12_isSame h8 x1 x2 h H1 rfl), fun q => by cases q⟩
theorem roX12_isSame {ρ : Type} : RoF (wX12_isSame : FN ρ) := fun a h k k2 hk => by
  unfold wX12_isSame
  split
  · exact bndp_ro hk
  · rfl
/-! X12_laysSpots -/
def sdX12_laysSpots : SD := [(0, [(0, .aload_n 0, 1, [], 0), (1, .iconst 0, 1, [], 0), (2, .putfield 514, 3, [12, 59, 0, 0, 0, 1381], 0), (5, .iconst 0, 1, [], 0), (6, .istore_n 1, 1, [], 0)]),
  (7, [(7, .iload_n 1, 1, [], 0), (8, .aload_n 0, 1, [], 0), (9, .getfield 140, 3, [12, 6, 0, 0, 1328, 0], 0), (12, .if_icmp .gt 88, 3, [], 0)]),
  (15, [(15, .aload_n 0, 1, [], 0), (16, .getfield 140, 3, [12, 6, 0, 0, 1328, 0], 0), (19, .ifCond .le 81, 3, [], 0)]),
  (22, [(22, .iconst 0, 1, [], 0), (23, .istore_n 2, 1, [], 0)]),
  (24, [(24, .iload_n 2, 1, [], 0), (25, .aload_n 0, 1, [], 0), (26, .getfield 514, 3, [12, 59, 0, 0, 1381, 0], 0), (29, .if_icmp .ge 23, 3, [], 0)]),
  (32, [(32, .aload_n 0, 1, [], 0), (33, .aload_n 0, 1, [], 0), (34, .getfield 95, 3, [12, 57, 540, 1, 1379, 0], 28), (37, .iload_n 2, 1, [], 0), (38, .iaload, 1, [], 0), (39, .iload_n 1, 1, [], 0), (40, .invokevirtual 517, 3, [1, 0, 1, 202, 1891, 0, 0, 16], 0), (43, .ifCond .ne 9, 3, [], 0)]),
  (46, [(46, .iinc 2 1, 3, [], 0), (49, .goto (-25), 3, [], 0)]),
  (52, [(52, .iload_n 2, 1, [], 0), (53, .aload_n 0, 1, [], 0), (54, .getfield 514, 3, [12, 59, 0, 0, 1381, 0], 0), (57, .if_icmp .ne 27, 3, [], 0)]),
  (60, [(60, .aload_n 0, 1, [], 0), (61, .getfield 95, 3, [12, 57, 540, 1, 1379, 0], 28), (64, .iload_n 2, 1, [], 0), (65, .iload_n 1, 1, [], 0), (66, .iastore, 1, [], 0), (67, .aload_n 0, 1, [], 0), (68, .getfield 98, 3, [12, 58, 540, 1, 1380, 0], 29), (71, .iload_n 2, 1, [], 0), (72, .iconst 0, 1, [], 0), (73, .iastore, 1, [], 0), (74, .aload_n 0, 1, [], 0), (75, .dup, 1, [], 0), (76, .getfield 514, 3, [12, 59, 0, 0, 1381, 0], 0), (79, .iconst 1, 1, [], 0), (80, .iadd, 1, [], 0), (81, .putfield 514, 3, [12, 59, 0, 0, 0, 1381], 0)]),
  (84, [(84, .aload_n 0, 1, [], 0), (85, .getfield 98, 3, [12, 58, 540, 1, 1380, 0], 29), (88, .iload_n 2, 1, [], 0), (89, .dup2, 1, [], 0), (90, .iaload, 1, [], 0), (91, .iconst 1, 1, [], 0), (92, .iadd, 1, [], 0), (93, .iastore, 1, [], 0), (94, .iinc 1 1, 3, [], 0), (97, .goto (-90), 3, [], 0)]),
  (100, [(100, .return_, 1, [], 0)])]
def sdX12_laysSpots_24 : SD := [(24, [(24, .iload_n 2, 1, [], 0), (25, .aload_n 0, 1, [], 0), (26, .getfield 514, 3, [12, 59, 0, 0, 1381, 0], 0), (29, .if_icmp .ge 23, 3, [], 0)]),
  (32, [(32, .aload_n 0, 1, [], 0), (33, .aload_n 0, 1, [], 0), (34, .getfield 95, 3, [12, 57, 540, 1, 1379, 0], 28), (37, .iload_n 2, 1, [], 0), (38, .iaload, 1, [], 0), (39, .iload_n 1, 1, [], 0), (40, .invokevirtual 517, 3, [1, 0, 1, 202, 1891, 0, 0, 16], 0), (43, .ifCond .ne 9, 3, [], 0)]),
  (46, [(46, .iinc 2 1, 3, [], 0), (49, .goto (-25), 3, [], 0)])]
def BX12_laysSpots_24 (n : Nat) : Nat → Int → Int → Hp → Option (Int × Int)
  | 0, _, _, _ => none
  | f + 1, x1, x2, h =>
    (if (h 113 59) ≤ x2 then
    (some (x1, x2))
    else
    (grd (0 ≤ x2 ∧ x2 < alen 540)
    (bndp (MX12_isSame (h 141 x2) x1 h) fun r1 =>
    (if r1 ≠ 0 then
    (some (x1, x2))
    else
    (ltt (w32 (x2 + 1)) fun y1 =>
    (BX12_laysSpots_24 n f x1 y1 h))))))
def JX12_laysSpots_84 (n : Nat) (bk : Int → Hp → Option (Hp)) (x1 x2 : Int) (h : Hp) : Option (Hp) :=
(grd (0 ≤ x2 ∧ x2 < alen 540)
(grd (0 ≤ x2 ∧ x2 < alen 540)
(ltt (up h 142 x2 (w32 ((h 142 x2) + 1))) fun h1 =>
(ltt (w32 (x1 + 1)) fun y1 =>
(bk y1 h1)))))
def JX12_laysSpots_52 (n : Nat) (bk : Int → Hp → Option (Hp)) (x1 x2 : Int) (h : Hp) : Option (Hp) :=
(if x2 ≠ (h 113 59) then
(JX12_laysSpots_84 n bk x1 x2 h)
else
(grd (0 ≤ x2 ∧ x2 < alen 540)
(ltt (up h 141 x2 x1) fun h1 =>
(grd (0 ≤ x2 ∧ x2 < alen 540)
(ltt (up h1 142 x2 0) fun h2 =>
(ltt (up h2 113 59 (w32 ((h2 113 59) + 1))) fun h3 =>
(JX12_laysSpots_84 n bk x1 x2 h3)))))))
def LX12_laysSpots_24 (n : Nat) (bk : Int → Hp → Option (Hp)) (x1 x2 : Int) (h : Hp) : Option (Hp) :=
(bndx (BX12_laysSpots_24 n n x1 x2 h) fun (e1, e2) =>
(JX12_laysSpots_52 n bk e1 e2 h))
def BX12_laysSpots_7 (n : Nat) : Nat → Int → Hp → Option (Hp)
  | 0, _, _ => none
  | f + 1, x1, h =>
    (if (h 113 6) < x1 then
    (some h)
    else
    (if (h 113 6) ≤ 0 then
    (some h)
    else
    (ltt 0 fun y1 =>
    (LX12_laysSpots_24 n (BX12_laysSpots_7 n f) x1 y1 h))))
def LX12_laysSpots_7 (n : Nat) (x1 : Int) (h : Hp) : Option (Hp) :=
(BX12_laysSpots_7 n n x1 h)
def MX12_laysSpots (n : Nat) (h : Hp) : Option (Hp) :=
(ltt (up h 113 59 0) fun h1 =>
(ltt 0 fun y1 =>
(LX12_laysSpots_7 n y1 h1)))
def wX12_laysSpots {ρ : Type} (n : Nat) : FN ρ := fun a h k => match a with
  | [_] => bndh (MX12_laysSpots n h) (fun h2 => k 0 h2)
  | _ => none
def fsX12_laysSpots (n : Nat) (ρ : Type) : List (FN ρ) := [wX12_isSame]
def fsX12_laysSpots_24 (n : Nat) (ρ : Type) : List (FN ρ) := [wX12_isSame]
def KBX12_laysSpots_24 (_ : Nat) (bk : Int → Int → Hp → Option (Int × Int)) : CT (Int × Int) := [(24, [(0, 16, (some 113)), (1, 0, none), (2, 0, none)], [], fun a c h => match a, c with
    | [x1, x2], [] => bk x1 x2 h
    | _, _ => none),
  (52, [(0, 16, (some 113)), (1, 0, none), (2, 0, none)], [], fun a c _ => match a, c with
    | [x1, x2], [] => some (x1, x2)
    | _, _ => none)]
set_option maxRecDepth 100000 in
theorem eBX12_laysSpots_24 (n f : Nat) (x1 : Int) (x2 : Int) (h : Hp) : BX12_laysSpots_24 n (f + 1) x1 x2 h =
  goAt false (kct (KBX12_laysSpots_24 n (BX12_laysSpots_24 n f))) (fun _ _ => none) (fsX12_laysSpots_24 n _) sdX12_laysSpots_24 1000 24 [(0, 16, 113), (1, 0, x1), (2, 0, x2)] [] h := rfl
def KJX12_laysSpots_84 (_ : Nat) (bk : Int → Hp → Option (Hp)) : CT (Hp) := [(7, [(0, 16, (some 113)), (1, 0, none)], [], fun a c h => match a, c with
    | [x1], [] => bk x1 h
    | _, _ => none)]
set_option maxRecDepth 100000 in
theorem eJX12_laysSpots_84 (n : Nat) (bk : Int → Hp → Option (Hp)) (x1 : Int) (x2 : Int) (h : Hp) : JX12_laysSpots_84 n bk x1 x2 h =
  goAt false (kct (KJX12_laysSpots_84 n bk)) (fun _ h => some (h)) (fsX12_laysSpots n _) sdX12_laysSpots 1000 84 [(0, 16, 113), (1, 0, x1), (2, 0, x2)] [] h := rfl
def KJX12_laysSpots_52 (n : Nat) (bk : Int → Hp → Option (Hp)) : CT (Hp) := [(7, [(0, 16, (some 113)), (1, 0, none)], [], fun a c h => match a, c with
    | [x1], [] => bk x1 h
    | _, _ => none),
  (84, [(0, 16, (some 113)), (1, 0, none), (2, 0, none)], [], fun a c h => match a, c with
    | [x1, x2], [] => JX12_laysSpots_84 n bk x1 x2 h
    | _, _ => none)]
set_option maxRecDepth 100000 in
theorem eJX12_laysSpots_52 (n : Nat) (bk : Int → Hp → Option (Hp)) (x1 : Int) (x2 : Int) (h : Hp) : JX12_laysSpots_52 n bk x1 x2 h =
  goAt false (kct (KJX12_laysSpots_52 n bk)) (fun _ h => some (h)) (fsX12_laysSpots n _) sdX12_laysSpots 1000 52 [(0, 16, 113), (1, 0, x1), (2, 0, x2)] [] h := rfl
def KBX12_laysSpots_7 (n : Nat) (bk : Int → Hp → Option (Hp)) : CT (Hp) := [(7, [(0, 16, (some 113)), (1, 0, none)], [], fun a c h => match a, c with
    | [x1], [] => bk x1 h
    | _, _ => none),
  (24, [(0, 16, (some 113)), (1, 0, none), (2, 0, none)], [], fun a c h => match a, c with
    | [x1, x2], [] => LX12_laysSpots_24 n bk x1 x2 h
    | _, _ => none)]
set_option maxRecDepth 100000 in
theorem eBX12_laysSpots_7 (n f : Nat) (x1 : Int) (h : Hp) : BX12_laysSpots_7 n (f + 1) x1 h =
  goAt false (kct (KBX12_laysSpots_7 n (BX12_laysSpots_7 n f))) (fun _ h => some (h)) (fsX12_laysSpots n _) sdX12_laysSpots 1000 7 [(0, 16, 113), (1, 0, x1)] [] h := rfl
def KMX12_laysSpots (n : Nat) : CT (Hp) := [(7, [(0, 16, (some 113)), (1, 0, none)], [], fun a c h => match a, c with
    | [x1], [] => LX12_laysSpots_7 n x1 h
    | _, _ => none)]
set_option maxRecDepth 100000 in
theorem eMX12_laysSpots (n : Nat) (h : Hp) : MX12_laysSpots n h =
  goAt false (kct (KMX12_laysSpots n)) (fun _ h => some (h)) (fsX12_laysSpots n _) sdX12_laysSpots 1000 0 [(0, 16, 113)] [] h := rfl
theorem okX12_laysSpots : mokb (mi 203) = true := by decide +kernel
theorem rkX12_laysSpots : rkOK 0 (mi 203).1.2.2.2.2.2.2.1 (mi 203).1.2.2.2.1 := Or.inl ⟨rfl, rfl, rfl⟩
def calX12_laysSpots : List Nat := [202]
theorem foX12_laysSpots {l : Launch} {ρ : Type} (n : Nat) : fsOK l false mi calX12_laysSpots (fsX12_laysSpots n ρ) := ⟨sndX12_isSame, trivial⟩
theorem ok_sdX12_laysSpots : sdb (mi 203).1.2.1 (insOK mi (mi 203).1.1.cls (mi 203).1.2.2.1 (mi 203).1.2.2.2.2.1 (mi 203).1.2.2.2.2.2.1 calX12_laysSpots false 0) sdX12_laysSpots = true := by decide +kernel
def calX12_laysSpots_24 : List Nat := [202]
theorem foX12_laysSpots_24 {l : Launch} {ρ : Type} (n : Nat) : fsOK l false mi calX12_laysSpots_24 (fsX12_laysSpots_24 n ρ) := ⟨sndX12_isSame, trivial⟩
theorem frX12_laysSpots_24 {ρ : Type} (n : Nat) : ∀ fn ∈ fsX12_laysSpots_24 n ρ, RoF fn := (List.forall_mem_cons.mpr ⟨roX12_isSame, (fun q9 h9 => by cases h9)⟩)
theorem ok_sdX12_laysSpots_24 : sdb (mi 203).1.2.1 (insOK mi (mi 203).1.1.cls (mi 203).1.2.2.1 (mi 203).1.2.2.2.2.1 (mi 203).1.2.2.2.2.2.1 calX12_laysSpots_24 false 0) sdX12_laysSpots_24 = true := by decide +kernel
def GX12_laysSpots_24 (l : Launch) (h0 : Hp) (h' : Hp) (v : Int) (h : Hp) : (Int × Int) → Prop
  | (e1, e2) => PAt l false (mi 203).1 h0 v h' 52 [(0, 16, 113), (1, 0, e1), (2, 0, e2)] [] h
theorem sBX12_laysSpots_24 {l : Launch} {h0 h' : Hp} {v : Int} (h8 : nOf h0 = 148) (n : Nat) (h : Hp) : ∀ (f : Nat) (x1 : Int) (x2 : Int) {r : Int × Int}, BX12_laysSpots_24 n f x1 x2 h = some r → GX12_laysSpots_24 l h0 h' v h r → PAt l false (mi 203).1 h0 v h' 24 [(0, 16, 113), (1, 0, x1), (2, 0, x2)] [] h := by
  intro f
  induction f with
  | zero =>
    intro x1 x2 r H _
    have H2 : (none : Option (Int × Int)) = some r := H
    cases H2
  | succ f ih =>
    intro x1 x2 r H hG
    exact pat_ro ok_sdX12_laysSpots_24 rfl rkX12_laysSpots h8 (foX12_laysSpots_24 n) (frX12_laysSpots_24 n) (fun v1 q => by cases q) (List.forall_mem_cons.mpr ⟨(fun a c H => by
      dsimp only at H
      split at H
      · exact ih _ _ H hG
      · cases H), (List.forall_mem_cons.mpr ⟨(fun a c H => by
      dsimp only at H
      split at H
      · cases H
        exact hG
      · cases H), (fun q9 h9 => by cases h9)⟩)⟩) ((eBX12_laysSpots_24 n f x1 x2 h).symm.trans H)
theorem sJX12_laysSpots_84 {l : Launch} {h0 h' : Hp} {v : Int} (h8 : nOf h0 = 148) (n : Nat) (bk : Int → Hp → Option (Hp)) (hbk : ∀ (x1 : Int) (h : Hp) (r : Hp), bk x1 h = some r → gW h' r → PAt l false (mi 203).1 h0 v h' 7 [(0, 16, 113), (1, 0, x1)] [] h) (x1 : Int) (x2 : Int) (h : Hp) {r : Hp} (H : JX12_laysSpots_84 n bk x1 x2 h = some r) (hG : gW h' r) : PAt l false (mi 203).1 h0 v h' 84 [(0, 16, 113), (1, 0, x1), (2, 0, x2)] [] h :=
  pat_w ok_sdX12_laysSpots rkX12_laysSpots h8 (foX12_laysSpots n) (fun v1 h1 q => by
    cases q
    exact ⟨hG, fun q9 => absurd rfl q9⟩) (List.forall_mem_cons.mpr ⟨(fun a c h H => by
      dsimp only at H
      split at H
      · exact hbk _ _ _ H hG
      · cases H), (fun q9 h9 => by cases h9)⟩) ((eJX12_laysSpots_84 n bk x1 x2 h).symm.trans H)
theorem sJX12_laysSpots_52 {l : Launch} {h0 h' : Hp} {v : Int} (h8 : nOf h0 = 148) (n : Nat) (bk : Int → Hp → Option (Hp)) (hbk : ∀ (x1 : Int) (h : Hp) (r : Hp), bk x1 h = some r → gW h' r → PAt l false (mi 203).1 h0 v h' 7 [(0, 16, 113), (1, 0, x1)] [] h) (x1 : Int) (x2 : Int) (h : Hp) {r : Hp} (H : JX12_laysSpots_52 n bk x1 x2 h = some r) (hG : gW h' r) : PAt l false (mi 203).1 h0 v h' 52 [(0, 16, 113), (1, 0, x1), (2, 0, x2)] [] h :=
  pat_w ok_sdX12_laysSpots rkX12_laysSpots h8 (foX12_laysSpots n) (fun v1 h1 q => by
    cases q
    exact ⟨hG, fun q9 => absurd rfl q9⟩) (List.forall_mem_cons.mpr ⟨(fun a c h H => by
      dsimp only at H
      split at H
      · exact hbk _ _ _ H hG
      · cases H), (List.forall_mem_cons.mpr ⟨(fun a c h H => by
      dsimp only at H
      split at H
      · exact sJX12_laysSpots_84 h8 n bk hbk _ _ _ H hG
      · cases H), (fun q9 h9 => by cases h9)⟩)⟩) ((eJX12_laysSpots_52 n bk x1 x2 h).symm.trans H)
theorem sLX12_laysSpots_24 {l : Launch} {h0 h' : Hp} {v : Int} (h8 : nOf h0 = 148) (n : Nat) (bk : Int → Hp → Option (Hp)) (hbk : ∀ (x1 : Int) (h : Hp) (r : Hp), bk x1 h = some r → gW h' r → PAt l false (mi 203).1 h0 v h' 7 [(0, 16, 113), (1, 0, x1)] [] h) (x1 : Int) (x2 : Int) (h : Hp) {r : Hp} (H : LX12_laysSpots_24 n bk x1 x2 h = some r) (hG : gW h' r) : PAt l false (mi 203).1 h0 v h' 24 [(0, 16, 113), (1, 0, x1), (2, 0, x2)] [] h := by
  obtain ⟨e9, h2, h3⟩ := bndx_some H
  obtain ⟨e1, e2⟩ := e9
  exact sBX12_laysSpots_24 h8 n h n x1 x2 h2 (sJX12_laysSpots_52 h8 n bk hbk e1 e2 h h3 hG)
theorem sBX12_laysSpots_7 {l : Launch} {h0 h' : Hp} {v : Int} (h8 : nOf h0 = 148) (n : Nat) : ∀ (f : Nat) (x1 : Int) (h : Hp) {r : Hp}, BX12_laysSpots_7 n f x1 h = some r → gW h' r → PAt l false (mi 203).1 h0 v h' 7 [(0, 16, 113), (1, 0, x1)] [] h := by
  intro f
  induction f with
  | zero =>
    intro x1 h r H _
    have H2 : (none : Option (Hp)) = some r := H
    cases H2
  | succ f ih =>
    intro x1 h r H hG
    have ihk : ∀ (x1 : Int) (h : Hp) (r : Hp), BX12_laysSpots_7 n f x1 h = some r → gW h' r → PAt l false (mi 203).1 h0 v h' 7 [(0, 16, 113), (1, 0, x1)] [] h := fun x1 h r9 a9 b9 => ih x1 h a9 b9
    exact pat_w ok_sdX12_laysSpots rkX12_laysSpots h8 (foX12_laysSpots n) (fun v1 h1 q => by
    cases q
    exact ⟨hG, fun q9 => absurd rfl q9⟩) (List.forall_mem_cons.mpr ⟨(fun a c h H => by
      dsimp only at H
      split at H
      · exact ih _ _ H hG
      · cases H), (List.forall_mem_cons.mpr ⟨(fun a c h H => by
      dsimp only at H
      split at H
      · exact sLX12_laysSpots_24 h8 n (BX12_laysSpots_7 n f) ihk _ _ _ H hG
      · cases H), (fun q9 h9 => by cases h9)⟩)⟩) ((eBX12_laysSpots_7 n f x1 h).symm.trans H)
theorem sLX12_laysSpots_7 {l : Launch} {h0 h' : Hp} {v : Int} (h8 : nOf h0 = 148) (n : Nat) (x1 : Int) (h : Hp) {r : Hp} (H : LX12_laysSpots_7 n x1 h = some r) (hG : gW h' r) : PAt l false (mi 203).1 h0 v h' 7 [(0, 16, 113), (1, 0, x1)] [] h :=
  sBX12_laysSpots_7 h8 n n x1 h H hG
theorem sMX12_laysSpots {l : Launch} {h0 h' : Hp} {v : Int} (h8 : nOf h0 = 148) (n : Nat)  (h : Hp) {r : Hp} (H : MX12_laysSpots n h = some r) (hG : gW h' r) : PAt l false (mi 203).1 h0 v h' 0 [(0, 16, 113)] [] h :=
  pat_w ok_sdX12_laysSpots rkX12_laysSpots h8 (foX12_laysSpots n) (fun v1 h1 q => by
    cases q
    exact ⟨hG, fun q9 => absurd rfl q9⟩) (List.forall_mem_cons.mpr ⟨(fun a c h H => by
      dsimp only at H
      split at H
      · exact sLX12_laysSpots_7 h8 n _ _ H hG
      · cases H), (fun q9 h9 => by cases h9)⟩) ((eMX12_laysSpots n h).symm.trans H)
theorem sndX12_laysSpots {ρ : Type} {l : Launch} (n : Nat) : SndF (ρ := ρ) l false (mi 203).1 (wX12_laysSpots n) := by
    intro a h k r H ha ho hn hf
    have h8 := hf rfl
    obtain ⟨x0, rfl⟩ := len1 (show a.length = 1 from ha)
    have u0 := uq16 hn (ho (16, x0) (List.mem_cons_self))
    subst u0
    replace H : bndh (MX12_laysSpots n h) (fun h2 => k 0 h2) = some r := H
    obtain ⟨h2, H1, H2⟩ := bndh_some H
    exact ⟨0, h2, H2, met_mk (mok_base okX12_laysSpots).1 (by decide +kernel) (Nat.le_of_ble_eq_true rfl) ho (sMX12_laysSpots h8 n  h H1 rfl), fun q => by cases q⟩
/-! X12_spots -/
def sdX12_spots : SD := [(0, [(0, .aload_n 0, 1, [], 0), (1, .invokevirtual 520, 3, [0, 0, 1, 203, 1887, 16], 0), (4, .aload_n 0, 1, [], 0), (5, .getfield 514, 3, [12, 59, 0, 0, 1381, 0], 0), (8, .ireturn, 1, [], 0)])]
def MX12_spots (n : Nat) (h : Hp) : Option (Int × Hp) :=
(bndh (MX12_laysSpots n h) fun h1 =>
(some ((h1 113 59), h1)))
def wX12_spots {ρ : Type} (n : Nat) : FN ρ := fun a h k => match a with
  | [_] => bnd (MX12_spots n h) (fun r h2 => k r h2)
  | _ => none
def fsX12_spots (n : Nat) (ρ : Type) : List (FN ρ) := [wX12_laysSpots n]
def KMX12_spots (_ : Nat) : CT (Int × Hp) := []
set_option maxRecDepth 100000 in
theorem eMX12_spots (n : Nat) (h : Hp) : MX12_spots n h =
  goAt false (kct (KMX12_spots n)) (fun v h => some ((v, h))) (fsX12_spots n _) sdX12_spots 1000 0 [(0, 16, 113)] [] h := rfl
theorem okX12_spots : mokb (mi 204) = true := by decide +kernel
theorem rkX12_spots : rkOK 1 (mi 204).1.2.2.2.2.2.2.1 (mi 204).1.2.2.2.1 := Or.inr (Or.inl ⟨rfl, rfl, rfl⟩)
def calX12_spots : List Nat := [203]
theorem foX12_spots {l : Launch} {ρ : Type} (n : Nat) : fsOK l false mi calX12_spots (fsX12_spots n ρ) := ⟨(sndX12_laysSpots n), trivial⟩
theorem ok_sdX12_spots : sdb (mi 204).1.2.1 (insOK mi (mi 204).1.1.cls (mi 204).1.2.2.1 (mi 204).1.2.2.2.2.1 (mi 204).1.2.2.2.2.2.1 calX12_spots false 1) sdX12_spots = true := by decide +kernel
theorem sMX12_spots {l : Launch} {h0 h' : Hp} {v : Int} (h8 : nOf h0 = 148) (n : Nat)  (h : Hp) {r : Int × Hp} (H : MX12_spots n h = some r) (hG : gWV v h' r) : PAt l false (mi 204).1 h0 v h' 0 [(0, 16, 113)] [] h :=
  pat_w ok_sdX12_spots rkX12_spots h8 (foX12_spots n) (fun v1 h1 q => by
    cases q
    exact ⟨hG.1, fun _ => hG.2⟩) (fun q9 h9 => by cases h9) ((eMX12_spots n h).symm.trans H)
theorem sndX12_spots {ρ : Type} {l : Launch} (n : Nat) : SndF (ρ := ρ) l false (mi 204).1 (wX12_spots n) := by
    intro a h k r H ha ho hn hf
    have h8 := hf rfl
    obtain ⟨x0, rfl⟩ := len1 (show a.length = 1 from ha)
    have u0 := uq16 hn (ho (16, x0) (List.mem_cons_self))
    subst u0
    replace H : bnd (MX12_spots n h) (fun r h2 => k r h2) = some r := H
    obtain ⟨v2, h2, H1, H2⟩ := bnd_some H
    exact ⟨v2, h2, H2, met_mk (mok_base okX12_spots).1 (by decide +kernel) (Nat.le_of_ble_eq_true rfl) ho (sMX12_spots h8 n  h H1 ⟨rfl, rfl⟩), fun q => by cases q⟩
/-! X11_spot -/
def sdX11_spot : SD := [(0, [(0, .iload_n 1, 1, [], 0), (1, .ifCond .lt 23, 3, [], 0)]),
  (4, [(4, .iload_n 1, 1, [], 0), (5, .aload_n 0, 1, [], 0), (6, .getfield 40, 3, [11, 4, 11, 1, 694, 0], 39), (9, .getfield 270, 3, [7, 4, 0, 0, 369, 0], 0), (12, .if_icmp .ge 12, 3, [], 0)]),
  (15, [(15, .iload_n 2, 1, [], 0), (16, .ifCond .lt 8, 3, [], 0)]),
  (19, [(19, .iload_n 2, 1, [], 0), (20, .iconst 3, 1, [], 0), (21, .if_icmp .le 6, 3, [], 0)]),
  (24, [(24, .ldc 217, 2, [0, 1091], (-2147483648)), (26, .ireturn, 1, [], 0)]),
  (27, [(27, .iload_n 2, 1, [], 0), (28, .iconst 3, 1, [], 0), (29, .if_icmp .ne 15, 3, [], 0)]),
  (32, [(32, .aload_n 0, 1, [], 0), (33, .getfield 40, 3, [11, 4, 11, 1, 694, 0], 39), (36, .getfield 273, 3, [7, 2, 540, 1, 366, 0], 5), (39, .iload_n 1, 1, [], 0), (40, .iaload, 1, [], 0), (41, .goto 14, 3, [], 0)]),
  (44, [(44, .aload_n 0, 1, [], 0), (45, .getfield 40, 3, [11, 4, 11, 1, 694, 0], 39), (48, .getfield 276, 3, [7, 1, 50, 1, 364, 0], 1), (51, .iload_n 2, 1, [], 0), (52, .aaload, 1, [], 0), (53, .iload_n 1, 1, [], 0), (54, .iaload, 1, [], 0)]),
  (55, [(55, .ireturn, 1, [], 0)])]
def MX11_spot (x1 x2 : Int) (h : Hp) : Option (Int) :=
(if x1 < 0 then
(some (-2147483648))
else
(if (h 39 4) ≤ x1 then
(some (-2147483648))
else
(if x2 < 0 then
(some (-2147483648))
else
(if x2 ≤ 3 then
(if x2 ≠ 3 then
(grd (0 ≤ x2 ∧ x2 < alen 50)
(grd (0 ≤ x1 ∧ x1 < alen 540)
(some (h (41 + x2) x1))))
else
(grd (0 ≤ x1 ∧ x1 < alen 540)
(some (h 44 x1))))
else
(some (-2147483648))))))
def wX11_spot {ρ : Type} : FN ρ := fun a h k => match a with
  | [_, x1, x2] => bndp (MX11_spot x1 x2 h) (fun r => k r h)
  | _ => none
def fsX11_spot (ρ : Type) : List (FN ρ) := []
def KMX11_spot  : CT (Int) := []
set_option maxRecDepth 100000 in
theorem eMX11_spot (x1 : Int) (x2 : Int) (h : Hp) : MX11_spot x1 x2 h =
  goAt false (kct (KMX11_spot)) (fun v _ => some (v)) (fsX11_spot _) sdX11_spot 1000 0 [(0, 15, 0), (1, 0, x1), (2, 0, x2)] [] h := rfl
theorem okX11_spot : mokb (mi 205) = true := by decide +kernel
theorem rkX11_spot : rkOK 1 (mi 205).1.2.2.2.2.2.2.1 (mi 205).1.2.2.2.1 := Or.inr (Or.inl ⟨rfl, rfl, rfl⟩)
def calX11_spot : List Nat := []
theorem foX11_spot {l : Launch} {ρ : Type} : fsOK l false mi calX11_spot (fsX11_spot ρ) := trivial
theorem frX11_spot {ρ : Type} : ∀ fn ∈ fsX11_spot ρ, RoF fn := (fun q9 h9 => by cases h9)
theorem ok_sdX11_spot : sdb (mi 205).1.2.1 (insOK mi (mi 205).1.1.cls (mi 205).1.2.2.1 (mi 205).1.2.2.2.2.1 (mi 205).1.2.2.2.2.2.1 calX11_spot false 1) sdX11_spot = true := by decide +kernel
theorem sMX11_spot {l : Launch} {h0 : Hp} {v : Int} (h8 : nOf h0 = 148)  (x1 : Int) (x2 : Int) (h : Hp) {r : Int} (H : MX11_spot x1 x2 h = some r) (hG : gV v r) : PAt l false (mi 205).1 h0 v h 0 [(0, 15, 0), (1, 0, x1), (2, 0, x2)] [] h :=
  pat_ro ok_sdX11_spot rfl rkX11_spot h8 (foX11_spot) (frX11_spot) (fun v1 q => by
    cases q
    exact ⟨rfl, fun _ => hG⟩) (fun q9 h9 => by cases h9) ((eMX11_spot x1 x2 h).symm.trans H)
theorem sndX11_spot {ρ : Type} {l : Launch} : SndF (ρ := ρ) l false (mi 205).1 (wX11_spot) := by
    intro a h k r H ha ho hn hf
    have h8 := hf rfl
    obtain ⟨x0, x1, x2, rfl⟩ := len3 (show a.length = 3 from ha)
    have u0 := uq15 hn (ho (15, x0) (List.mem_cons_self))
    subst u0
    replace H : bndp (MX11_spot x1 x2 h) (fun r => k r h) = some r := H
    obtain ⟨v2, H1, H2⟩ := bndp_some H
    exact ⟨v2, h, H2, met_mk (mok_base okX11_spot).1 (by decide +kernel) (Nat.le_of_ble_eq_true rfl) ho (sMX11_spot h8 x1 x2 h H1 rfl), fun q => by cases q⟩
theorem roX11_spot {ρ : Type} : RoF (wX11_spot : FN ρ) := fun a h k k2 hk => by
  unfold wX11_spot
  split
  · exact bndp_ro hk
  · rfl
/-! X12_spot -/
def sdX12_spot : SD := [(0, [(0, .aload_n 0, 1, [], 0), (1, .invokevirtual 520, 3, [0, 0, 1, 203, 1887, 16], 0), (4, .iload_n 1, 1, [], 0), (5, .i2l, 1, [], 0), (6, .lconst 0, 1, [], 0), (7, .aload_n 0, 1, [], 0), (8, .getfield 514, 3, [12, 59, 0, 0, 1381, 0], 0), (11, .iconst 1, 1, [], 0), (12, .isub, 1, [], 0), (13, .i2l, 1, [], 0), (14, .invokestatic 217, 3, [1, 1, 3, 81, 1561, 1, 1, 1], 0), (17, .ifCond .eq 15, 3, [], 0)]),
  (20, [(20, .iload_n 2, 1, [], 0), (21, .i2l, 1, [], 0), (22, .lconst 0, 1, [], 0), (23, .ldc2_w 482, 3, [1, 1816], 3), (26, .invokestatic 217, 3, [1, 1, 3, 81, 1561, 1, 1, 1], 0), (29, .ifCond .ne 7, 3, [], 0)]),
  (32, [(32, .ldc_w 479, 3, [0, 1806], (-2147483648)), (35, .ireturn, 1, [], 0)]),
  (36, [(36, .iload_n 2, 1, [], 0), (37, .iconst 3, 1, [], 0), (38, .if_icmp .ne 12, 3, [], 0)]),
  (41, [(41, .aload_n 0, 1, [], 0), (42, .getfield 98, 3, [12, 58, 540, 1, 1380, 0], 29), (45, .iload_n 1, 1, [], 0), (46, .iaload, 1, [], 0), (47, .goto 18, 3, [], 0)]),
  (50, [(50, .aload_n 0, 1, [], 0), (51, .getfield 37, 3, [12, 14, 1580, 1, 1336, 0], 9), (54, .iconst 3, 1, [], 0), (55, .aload_n 0, 1, [], 0), (56, .getfield 95, 3, [12, 57, 540, 1, 1379, 0], 28), (59, .iload_n 1, 1, [], 0), (60, .iaload, 1, [], 0), (61, .imul, 1, [], 0), (62, .iload_n 2, 1, [], 0), (63, .iadd, 1, [], 0), (64, .iaload, 1, [], 0)]),
  (65, [(65, .ireturn, 1, [], 0)])]
def MX12_spot (n : Nat) (x1 x2 : Int) (h : Hp) : Option (Int × Hp) :=
(bndh (MX12_laysSpots n h) fun h1 =>
(bndp (MX12_in x1 0 (w32 ((h1 113 59) - 1))) fun r1 =>
(if r1 = 0 then
(some ((-2147483648), h1))
else
(bndp (MX12_in x2 0 3) fun r2 =>
(if r2 ≠ 0 then
(if x2 ≠ 3 then
(grd (0 ≤ x1 ∧ x1 < alen 540)
(grd (0 ≤ (w32 ((w32 (3 * (h1 141 x1))) + x2)) ∧ (w32 ((w32 (3 * (h1 141 x1))) + x2)) < alen 1580)
(some ((h1 122 (w32 ((w32 (3 * (h1 141 x1))) + x2))), h1))))
else
(grd (0 ≤ x1 ∧ x1 < alen 540)
(some ((h1 142 x1), h1))))
else
(some ((-2147483648), h1)))))))
def wX12_spot {ρ : Type} (n : Nat) : FN ρ := fun a h k => match a with
  | [_, x1, x2] => bnd (MX12_spot n x1 x2 h) (fun r h2 => k r h2)
  | _ => none
def fsX12_spot (n : Nat) (ρ : Type) : List (FN ρ) := [wX12_laysSpots n, wX12_in]
def KMX12_spot (_ : Nat) : CT (Int × Hp) := []
set_option maxRecDepth 100000 in
theorem eMX12_spot (n : Nat) (x1 : Int) (x2 : Int) (h : Hp) : MX12_spot n x1 x2 h =
  goAt false (kct (KMX12_spot n)) (fun v h => some ((v, h))) (fsX12_spot n _) sdX12_spot 1000 0 [(0, 16, 113), (1, 0, x1), (2, 0, x2)] [] h := rfl
theorem okX12_spot : mokb (mi 206) = true := by decide +kernel
theorem rkX12_spot : rkOK 1 (mi 206).1.2.2.2.2.2.2.1 (mi 206).1.2.2.2.1 := Or.inr (Or.inl ⟨rfl, rfl, rfl⟩)
def calX12_spot : List Nat := [203, 81]
theorem foX12_spot {l : Launch} {ρ : Type} (n : Nat) : fsOK l false mi calX12_spot (fsX12_spot n ρ) := ⟨(sndX12_laysSpots n), ⟨sndX12_in, trivial⟩⟩
theorem ok_sdX12_spot : sdb (mi 206).1.2.1 (insOK mi (mi 206).1.1.cls (mi 206).1.2.2.1 (mi 206).1.2.2.2.2.1 (mi 206).1.2.2.2.2.2.1 calX12_spot false 1) sdX12_spot = true := by decide +kernel
theorem sMX12_spot {l : Launch} {h0 h' : Hp} {v : Int} (h8 : nOf h0 = 148) (n : Nat) (x1 : Int) (x2 : Int) (h : Hp) {r : Int × Hp} (H : MX12_spot n x1 x2 h = some r) (hG : gWV v h' r) : PAt l false (mi 206).1 h0 v h' 0 [(0, 16, 113), (1, 0, x1), (2, 0, x2)] [] h :=
  pat_w ok_sdX12_spot rkX12_spot h8 (foX12_spot n) (fun v1 h1 q => by
    cases q
    exact ⟨hG.1, fun _ => hG.2⟩) (fun q9 h9 => by cases h9) ((eMX12_spot n x1 x2 h).symm.trans H)
theorem sndX12_spot {ρ : Type} {l : Launch} (n : Nat) : SndF (ρ := ρ) l false (mi 206).1 (wX12_spot n) := by
    intro a h k r H ha ho hn hf
    have h8 := hf rfl
    obtain ⟨x0, x1, x2, rfl⟩ := len3 (show a.length = 3 from ha)
    have u0 := uq16 hn (ho (16, x0) (List.mem_cons_self))
    subst u0
    replace H : bnd (MX12_spot n x1 x2 h) (fun r h2 => k r h2) = some r := H
    obtain ⟨v2, h2, H1, H2⟩ := bnd_some H
    exact ⟨v2, h2, H2, met_mk (mok_base okX12_spot).1 (by decide +kernel) (Nat.le_of_ble_eq_true rfl) ho (sMX12_spot h8 n x1 x2 h H1 ⟨rfl, rfl⟩), fun q => by cases q⟩
/-! X11_comes -/
def sdX11_comes : SD := [(0, [(0, .aload_n 0, 1, [], 0), (1, .getfield 40, 3, [11, 4, 11, 1, 694, 0], 39), (4, .iload_n 1, 1, [], 0), (5, .iload_n 2, 1, [], 0), (6, .iload_n 3, 1, [], 0), (7, .invokevirtual 279, 3, [1, 0, 1, 60, 1221, 0, 0, 0, 11], 0), (10, .istore 4, 2, [], 0), (12, .iload 4, 2, [], 0), (14, .iconst (-1), 1, [], 0), (15, .if_icmp .ne 7, 3, [], 0)]),
  (18, [(18, .iconst 0, 1, [], 0), (19, .goto 13, 3, [], 0)]),
  (22, [(22, .aload_n 0, 1, [], 0), (23, .getfield 40, 3, [11, 4, 11, 1, 694, 0], 39), (26, .getfield 273, 3, [7, 2, 540, 1, 366, 0], 5), (29, .iload 4, 2, [], 0), (31, .iaload, 1, [], 0)]),
  (32, [(32, .ireturn, 1, [], 0)])]
def MX11_comes (n : Nat) (x1 x2 x3 : Int) (h : Hp) : Option (Int) :=
(bndp (MX7_find n x1 x2 x3 h) fun r1 =>
(ltt r1 fun y1 =>
(if y1 ≠ (-1) then
(grd (0 ≤ y1 ∧ y1 < alen 540)
(some (h 44 y1)))
else
(some 0))))
def wX11_comes {ρ : Type} (n : Nat) : FN ρ := fun a h k => match a with
  | [_, x1, x2, x3] => bndp (MX11_comes n x1 x2 x3 h) (fun r => k r h)
  | _ => none
def fsX11_comes (n : Nat) (ρ : Type) : List (FN ρ) := [wX7_find n]
def KMX11_comes (_ : Nat) : CT (Int) := []
set_option maxRecDepth 100000 in
theorem eMX11_comes (n : Nat) (x1 : Int) (x2 : Int) (x3 : Int) (h : Hp) : MX11_comes n x1 x2 x3 h =
  goAt false (kct (KMX11_comes n)) (fun v _ => some (v)) (fsX11_comes n _) sdX11_comes 1000 0 [(0, 15, 0), (1, 0, x1), (2, 0, x2), (3, 0, x3)] [] h := rfl
theorem okX11_comes : mokb (mi 207) = true := by decide +kernel
theorem rkX11_comes : rkOK 1 (mi 207).1.2.2.2.2.2.2.1 (mi 207).1.2.2.2.1 := Or.inr (Or.inl ⟨rfl, rfl, rfl⟩)
def calX11_comes : List Nat := [60]
theorem foX11_comes {l : Launch} {ρ : Type} (n : Nat) : fsOK l false mi calX11_comes (fsX11_comes n ρ) := ⟨(sndX7_find n), trivial⟩
theorem frX11_comes {ρ : Type} (n : Nat) : ∀ fn ∈ fsX11_comes n ρ, RoF fn := (List.forall_mem_cons.mpr ⟨(roX7_find n), (fun q9 h9 => by cases h9)⟩)
theorem ok_sdX11_comes : sdb (mi 207).1.2.1 (insOK mi (mi 207).1.1.cls (mi 207).1.2.2.1 (mi 207).1.2.2.2.2.1 (mi 207).1.2.2.2.2.2.1 calX11_comes false 1) sdX11_comes = true := by decide +kernel
theorem sMX11_comes {l : Launch} {h0 : Hp} {v : Int} (h8 : nOf h0 = 148) (n : Nat) (x1 : Int) (x2 : Int) (x3 : Int) (h : Hp) {r : Int} (H : MX11_comes n x1 x2 x3 h = some r) (hG : gV v r) : PAt l false (mi 207).1 h0 v h 0 [(0, 15, 0), (1, 0, x1), (2, 0, x2), (3, 0, x3)] [] h :=
  pat_ro ok_sdX11_comes rfl rkX11_comes h8 (foX11_comes n) (frX11_comes n) (fun v1 q => by
    cases q
    exact ⟨rfl, fun _ => hG⟩) (fun q9 h9 => by cases h9) ((eMX11_comes n x1 x2 x3 h).symm.trans H)
theorem sndX11_comes {ρ : Type} {l : Launch} (n : Nat) : SndF (ρ := ρ) l false (mi 207).1 (wX11_comes n) := by
    intro a h k r H ha ho hn hf
    have h8 := hf rfl
    obtain ⟨x0, x1, x2, x3, rfl⟩ := len4 (show a.length = 4 from ha)
    have u0 := uq15 hn (ho (15, x0) (List.mem_cons_self))
    subst u0
    replace H : bndp (MX11_comes n x1 x2 x3 h) (fun r => k r h) = some r := H
    obtain ⟨v2, H1, H2⟩ := bndp_some H
    exact ⟨v2, h, H2, met_mk (mok_base okX11_comes).1 (by decide +kernel) (Nat.le_of_ble_eq_true rfl) ho (sMX11_comes h8 n x1 x2 x3 h H1 rfl), fun q => by cases q⟩
theorem roX11_comes {ρ : Type} (n : Nat) : RoF (wX11_comes n : FN ρ) := fun a h k k2 hk => by
  unfold wX11_comes
  split
  · exact bndp_ro hk
  · rfl
/-! X12_comes -/
def sdX12_comes : SD := [(0, [(0, .aload_n 0, 1, [], 0), (1, .invokevirtual 520, 3, [0, 0, 1, 203, 1887, 16], 0), (4, .iconst 0, 1, [], 0), (5, .istore 4, 2, [], 0)]),
  (7, [(7, .iload 4, 2, [], 0), (9, .aload_n 0, 1, [], 0), (10, .getfield 514, 3, [12, 59, 0, 0, 1381, 0], 0), (13, .if_icmp .ge 65, 3, [], 0)]),
  (16, [(16, .iconst 3, 1, [], 0), (17, .aload_n 0, 1, [], 0), (18, .getfield 95, 3, [12, 57, 540, 1, 1379, 0], 28), (21, .iload 4, 2, [], 0), (23, .iaload, 1, [], 0), (24, .imul, 1, [], 0), (25, .istore 5, 2, [], 0), (27, .aload_n 0, 1, [], 0), (28, .getfield 37, 3, [12, 14, 1580, 1, 1336, 0], 9), (31, .iload 5, 2, [], 0), (33, .iaload, 1, [], 0), (34, .iload_n 1, 1, [], 0), (35, .if_icmp .ne 37, 3, [], 0)]),
  (38, [(38, .aload_n 0, 1, [], 0), (39, .getfield 37, 3, [12, 14, 1580, 1, 1336, 0], 9), (42, .iload 5, 2, [], 0), (44, .iconst 1, 1, [], 0), (45, .iadd, 1, [], 0), (46, .iaload, 1, [], 0), (47, .iload_n 2, 1, [], 0), (48, .if_icmp .ne 24, 3, [], 0)]),
  (51, [(51, .aload_n 0, 1, [], 0), (52, .getfield 37, 3, [12, 14, 1580, 1, 1336, 0], 9), (55, .iload 5, 2, [], 0), (57, .iconst 2, 1, [], 0), (58, .iadd, 1, [], 0), (59, .iaload, 1, [], 0), (60, .iload_n 3, 1, [], 0), (61, .if_icmp .ne 11, 3, [], 0)]),
  (64, [(64, .aload_n 0, 1, [], 0), (65, .getfield 98, 3, [12, 58, 540, 1, 1380, 0], 29), (68, .iload 4, 2, [], 0), (70, .iaload, 1, [], 0), (71, .ireturn, 1, [], 0)]),
  (72, [(72, .iinc 4 1, 3, [], 0), (75, .goto (-68), 3, [], 0)]),
  (78, [(78, .iconst 0, 1, [], 0), (79, .ireturn, 1, [], 0)])]
def sdX12_comes_7 : SD := [(7, [(7, .iload 4, 2, [], 0), (9, .aload_n 0, 1, [], 0), (10, .getfield 514, 3, [12, 59, 0, 0, 1381, 0], 0), (13, .if_icmp .ge 65, 3, [], 0)]),
  (16, [(16, .iconst 3, 1, [], 0), (17, .aload_n 0, 1, [], 0), (18, .getfield 95, 3, [12, 57, 540, 1, 1379, 0], 28), (21, .iload 4, 2, [], 0), (23, .iaload, 1, [], 0), (24, .imul, 1, [], 0), (25, .istore 5, 2, [], 0), (27, .aload_n 0, 1, [], 0), (28, .getfield 37, 3, [12, 14, 1580, 1, 1336, 0], 9), (31, .iload 5, 2, [], 0), (33, .iaload, 1, [], 0), (34, .iload_n 1, 1, [], 0), (35, .if_icmp .ne 37, 3, [], 0)]),
  (38, [(38, .aload_n 0, 1, [], 0), (39, .getfield 37, 3, [12, 14, 1580, 1, 1336, 0], 9), (42, .iload 5, 2, [], 0), (44, .iconst 1, 1, [], 0), (45, .iadd, 1, [], 0), (46, .iaload, 1, [], 0), (47, .iload_n 2, 1, [], 0), (48, .if_icmp .ne 24, 3, [], 0)]),
  (51, [(51, .aload_n 0, 1, [], 0), (52, .getfield 37, 3, [12, 14, 1580, 1, 1336, 0], 9), (55, .iload 5, 2, [], 0), (57, .iconst 2, 1, [], 0), (58, .iadd, 1, [], 0), (59, .iaload, 1, [], 0), (60, .iload_n 3, 1, [], 0), (61, .if_icmp .ne 11, 3, [], 0)]),
  (64, [(64, .aload_n 0, 1, [], 0), (65, .getfield 98, 3, [12, 58, 540, 1, 1380, 0], 29), (68, .iload 4, 2, [], 0), (70, .iaload, 1, [], 0), (71, .ireturn, 1, [], 0)]),
  (72, [(72, .iinc 4 1, 3, [], 0), (75, .goto (-68), 3, [], 0)]),
  (78, [(78, .iconst 0, 1, [], 0), (79, .ireturn, 1, [], 0)])]
def BX12_comes_7 (n : Nat) : Nat → Int → Int → Int → Int → Hp → Option (Int × Hp)
  | 0, _, _, _, _, _ => none
  | f + 1, x1, x2, x3, x4, h =>
    (if (h 113 59) ≤ x4 then
    (some (0, h))
    else
    (grd (0 ≤ x4 ∧ x4 < alen 540)
    (ltt (w32 (3 * (h 141 x4))) fun y1 =>
    (grd (0 ≤ y1 ∧ y1 < alen 1580)
    (if (h 122 y1) ≠ x1 then
    (ltt (w32 (x4 + 1)) fun y2 =>
    (BX12_comes_7 n f x1 x2 x3 y2 h))
    else
    (grd (0 ≤ (w32 (y1 + 1)) ∧ (w32 (y1 + 1)) < alen 1580)
    (if (h 122 (w32 (y1 + 1))) ≠ x2 then
    (ltt (w32 (x4 + 1)) fun y3 =>
    (BX12_comes_7 n f x1 x2 x3 y3 h))
    else
    (grd (0 ≤ (w32 (y1 + 2)) ∧ (w32 (y1 + 2)) < alen 1580)
    (if (h 122 (w32 (y1 + 2))) ≠ x3 then
    (ltt (w32 (x4 + 1)) fun y4 =>
    (BX12_comes_7 n f x1 x2 x3 y4 h))
    else
    (grd (0 ≤ x4 ∧ x4 < alen 540)
    (some ((h 142 x4), h))))))))))))
def LX12_comes_7 (n : Nat) (x1 x2 x3 x4 : Int) (h : Hp) : Option (Int × Hp) :=
(BX12_comes_7 n n x1 x2 x3 x4 h)
def MX12_comes (n : Nat) (x1 x2 x3 : Int) (h : Hp) : Option (Int × Hp) :=
(bndh (MX12_laysSpots n h) fun h1 =>
(ltt 0 fun y1 =>
(LX12_comes_7 n x1 x2 x3 y1 h1)))
def wX12_comes {ρ : Type} (n : Nat) : FN ρ := fun a h k => match a with
  | [_, x1, x2, x3] => bnd (MX12_comes n x1 x2 x3 h) (fun r h2 => k r h2)
  | _ => none
def fsX12_comes (n : Nat) (ρ : Type) : List (FN ρ) := [wX12_laysSpots n]
def fsX12_comes_7 (n : Nat) (ρ : Type) : List (FN ρ) := [nofn]
def KBX12_comes_7 (_ : Nat) (bk : Int → Int → Int → Int → Hp → Option (Int × Hp)) : CT (Int × Hp) := [(7, [(0, 16, (some 113)), (1, 0, none), (2, 0, none), (3, 0, none), (4, 0, none)], [], fun a c h => match a, c with
    | [x1, x2, x3, x4], [] => bk x1 x2 x3 x4 h
    | _, _ => none)]
set_option maxRecDepth 100000 in
theorem eBX12_comes_7 (n f : Nat) (x1 : Int) (x2 : Int) (x3 : Int) (x4 : Int) (h : Hp) : BX12_comes_7 n (f + 1) x1 x2 x3 x4 h =
  goAt false (kct (KBX12_comes_7 n (BX12_comes_7 n f))) (fun v h => some ((v, h))) (fsX12_comes_7 n _) sdX12_comes_7 1000 7 [(0, 16, 113), (1, 0, x1), (2, 0, x2), (3, 0, x3), (4, 0, x4)] [] h := rfl
def KMX12_comes (n : Nat) : CT (Int × Hp) := [(7, [(0, 16, (some 113)), (1, 0, none), (2, 0, none), (3, 0, none), (4, 0, none)], [], fun a c h => match a, c with
    | [x1, x2, x3, x4], [] => LX12_comes_7 n x1 x2 x3 x4 h
    | _, _ => none)]
set_option maxRecDepth 100000 in
theorem eMX12_comes (n : Nat) (x1 : Int) (x2 : Int) (x3 : Int) (h : Hp) : MX12_comes n x1 x2 x3 h =
  goAt false (kct (KMX12_comes n)) (fun v h => some ((v, h))) (fsX12_comes n _) sdX12_comes 1000 0 [(0, 16, 113), (1, 0, x1), (2, 0, x2), (3, 0, x3)] [] h := rfl
theorem okX12_comes : mokb (mi 208) = true := by decide +kernel
theorem rkX12_comes : rkOK 1 (mi 208).1.2.2.2.2.2.2.1 (mi 208).1.2.2.2.1 := Or.inr (Or.inl ⟨rfl, rfl, rfl⟩)
def calX12_comes : List Nat := [203]
theorem foX12_comes {l : Launch} {ρ : Type} (n : Nat) : fsOK l false mi calX12_comes (fsX12_comes n ρ) := ⟨(sndX12_laysSpots n), trivial⟩
theorem ok_sdX12_comes : sdb (mi 208).1.2.1 (insOK mi (mi 208).1.1.cls (mi 208).1.2.2.1 (mi 208).1.2.2.2.2.1 (mi 208).1.2.2.2.2.2.1 calX12_comes false 1) sdX12_comes = true := by decide +kernel
def calX12_comes_7 : List Nat := [0]
theorem foX12_comes_7 {l : Launch} {ρ : Type} (n : Nat) : fsOK l false mi calX12_comes_7 (fsX12_comes_7 n ρ) := ⟨snd_no, trivial⟩
theorem frX12_comes_7 {ρ : Type} (n : Nat) : ∀ fn ∈ fsX12_comes_7 n ρ, RoF fn := (List.forall_mem_cons.mpr ⟨ro_no, (fun q9 h9 => by cases h9)⟩)
theorem ok_sdX12_comes_7 : sdb (mi 208).1.2.1 (insOK mi (mi 208).1.1.cls (mi 208).1.2.2.1 (mi 208).1.2.2.2.2.1 (mi 208).1.2.2.2.2.2.1 calX12_comes_7 false 1) sdX12_comes_7 = true := by decide +kernel
theorem sBX12_comes_7 {l : Launch} {h0 h' : Hp} {v : Int} (h8 : nOf h0 = 148) (n : Nat) (h : Hp) : ∀ (f : Nat) (x1 : Int) (x2 : Int) (x3 : Int) (x4 : Int) {r : Int × Hp}, BX12_comes_7 n f x1 x2 x3 x4 h = some r → gWV v h' r → PAt l false (mi 208).1 h0 v h' 7 [(0, 16, 113), (1, 0, x1), (2, 0, x2), (3, 0, x3), (4, 0, x4)] [] h := by
  intro f
  induction f with
  | zero =>
    intro x1 x2 x3 x4 r H _
    have H2 : (none : Option (Int × Hp)) = some r := H
    cases H2
  | succ f ih =>
    intro x1 x2 x3 x4 r H hG
    exact pat_ro ok_sdX12_comes_7 rfl rkX12_comes h8 (foX12_comes_7 n) (frX12_comes_7 n) (fun v1 q => by
    cases q
    exact ⟨hG.1, fun _ => hG.2⟩) (List.forall_mem_cons.mpr ⟨(fun a c H => by
      dsimp only at H
      split at H
      · exact ih _ _ _ _ H hG
      · cases H), (fun q9 h9 => by cases h9)⟩) ((eBX12_comes_7 n f x1 x2 x3 x4 h).symm.trans H)
theorem sLX12_comes_7 {l : Launch} {h0 h' : Hp} {v : Int} (h8 : nOf h0 = 148) (n : Nat) (x1 : Int) (x2 : Int) (x3 : Int) (x4 : Int) (h : Hp) {r : Int × Hp} (H : LX12_comes_7 n x1 x2 x3 x4 h = some r) (hG : gWV v h' r) : PAt l false (mi 208).1 h0 v h' 7 [(0, 16, 113), (1, 0, x1), (2, 0, x2), (3, 0, x3), (4, 0, x4)] [] h :=
  sBX12_comes_7 h8 n h n x1 x2 x3 x4 H hG
theorem sMX12_comes {l : Launch} {h0 h' : Hp} {v : Int} (h8 : nOf h0 = 148) (n : Nat) (x1 : Int) (x2 : Int) (x3 : Int) (h : Hp) {r : Int × Hp} (H : MX12_comes n x1 x2 x3 h = some r) (hG : gWV v h' r) : PAt l false (mi 208).1 h0 v h' 0 [(0, 16, 113), (1, 0, x1), (2, 0, x2), (3, 0, x3)] [] h :=
  pat_w ok_sdX12_comes rkX12_comes h8 (foX12_comes n) (fun v1 h1 q => by
    cases q
    exact ⟨hG.1, fun _ => hG.2⟩) (List.forall_mem_cons.mpr ⟨(fun a c h H => by
      dsimp only at H
      split at H
      · exact sLX12_comes_7 h8 n _ _ _ _ _ H hG
      · cases H), (fun q9 h9 => by cases h9)⟩) ((eMX12_comes n x1 x2 x3 h).symm.trans H)
theorem sndX12_comes {ρ : Type} {l : Launch} (n : Nat) : SndF (ρ := ρ) l false (mi 208).1 (wX12_comes n) := by
    intro a h k r H ha ho hn hf
    have h8 := hf rfl
    obtain ⟨x0, x1, x2, x3, rfl⟩ := len4 (show a.length = 4 from ha)
    have u0 := uq16 hn (ho (16, x0) (List.mem_cons_self))
    subst u0
    replace H : bnd (MX12_comes n x1 x2 x3 h) (fun r h2 => k r h2) = some r := H
    obtain ⟨v2, h2, H1, H2⟩ := bnd_some H
    exact ⟨v2, h2, H2, met_mk (mok_base okX12_comes).1 (by decide +kernel) (Nat.le_of_ble_eq_true rfl) ho (sMX12_comes h8 n x1 x2 x3 h H1 ⟨rfl, rfl⟩), fun q => by cases q⟩
/-! X11_twice -/
def sdX11_twice : SD := [(0, [(0, .iload_n 1, 1, [], 0), (1, .iconst (-1), 1, [], 0), (2, .if_icmp .ne 11, 3, [], 0)]),
  (5, [(5, .aload_n 0, 1, [], 0), (6, .getfield 40, 3, [11, 4, 11, 1, 694, 0], 39), (9, .getfield 283, 3, [7, 6, 0, 0, 374, 0], 0), (12, .ireturn, 1, [], 0)]),
  (13, [(13, .aload_n 0, 1, [], 0), (14, .getfield 10, 3, [11, 2, 14, 0, 692, 0], 0), (17, .iload_n 1, 1, [], 0), (18, .invokevirtual 142, 3, [1, 0, 1, 43, 984, 0, 14], 0), (21, .ifCond .eq 15, 3, [], 0)]),
  (24, [(24, .aload_n 0, 1, [], 0), (25, .getfield 40, 3, [11, 4, 11, 1, 694, 0], 39), (28, .getfield 286, 3, [7, 5, 532, 1, 372, 0], 7), (31, .iload_n 1, 1, [], 0), (32, .iaload, 1, [], 0), (33, .goto 4, 3, [], 0)]),
  (36, [(36, .iconst (-1), 1, [], 0)]),
  (37, [(37, .ireturn, 1, [], 0)])]
def MX11_twice (x1 : Int) (h : Hp) : Option (Int) :=
(if x1 ≠ (-1) then
(bndp (MX10_has (h 0 2) x1 h) fun r1 =>
(if r1 = 0 then
(some (-1))
else
(grd (0 ≤ x1 ∧ x1 < alen 532)
(some (h 46 x1)))))
else
(some (h 39 6)))
def wX11_twice {ρ : Type} : FN ρ := fun a h k => match a with
  | [_, x1] => bndp (MX11_twice x1 h) (fun r => k r h)
  | _ => none
def fsX11_twice (ρ : Type) : List (FN ρ) := [wX10_has]
def KMX11_twice  : CT (Int) := []
set_option maxRecDepth 100000 in
theorem eMX11_twice (x1 : Int) (h : Hp) : MX11_twice x1 h =
  goAt false (kct (KMX11_twice)) (fun v _ => some (v)) (fsX11_twice _) sdX11_twice 1000 0 [(0, 15, 0), (1, 0, x1)] [] h := rfl
theorem okX11_twice : mokb (mi 209) = true := by decide +kernel
theorem rkX11_twice : rkOK 1 (mi 209).1.2.2.2.2.2.2.1 (mi 209).1.2.2.2.1 := Or.inr (Or.inl ⟨rfl, rfl, rfl⟩)
def calX11_twice : List Nat := [43]
theorem foX11_twice {l : Launch} {ρ : Type} : fsOK l false mi calX11_twice (fsX11_twice ρ) := ⟨sndX10_has, trivial⟩
theorem frX11_twice {ρ : Type} : ∀ fn ∈ fsX11_twice ρ, RoF fn := (List.forall_mem_cons.mpr ⟨roX10_has, (fun q9 h9 => by cases h9)⟩)
theorem ok_sdX11_twice : sdb (mi 209).1.2.1 (insOK mi (mi 209).1.1.cls (mi 209).1.2.2.1 (mi 209).1.2.2.2.2.1 (mi 209).1.2.2.2.2.2.1 calX11_twice false 1) sdX11_twice = true := by decide +kernel
theorem sMX11_twice {l : Launch} {h0 : Hp} {v : Int} (h8 : nOf h0 = 148)  (x1 : Int) (h : Hp) {r : Int} (H : MX11_twice x1 h = some r) (hG : gV v r) : PAt l false (mi 209).1 h0 v h 0 [(0, 15, 0), (1, 0, x1)] [] h :=
  pat_ro ok_sdX11_twice rfl rkX11_twice h8 (foX11_twice) (frX11_twice) (fun v1 q => by
    cases q
    exact ⟨rfl, fun _ => hG⟩) (fun q9 h9 => by cases h9) ((eMX11_twice x1 h).symm.trans H)
theorem sndX11_twice {ρ : Type} {l : Launch} : SndF (ρ := ρ) l false (mi 209).1 (wX11_twice) := by
    intro a h k r H ha ho hn hf
    have h8 := hf rfl
    obtain ⟨x0, x1, rfl⟩ := len2 (show a.length = 2 from ha)
    have u0 := uq15 hn (ho (15, x0) (List.mem_cons_self))
    subst u0
    replace H : bndp (MX11_twice x1 h) (fun r => k r h) = some r := H
    obtain ⟨v2, H1, H2⟩ := bndp_some H
    exact ⟨v2, h, H2, met_mk (mok_base okX11_twice).1 (by decide +kernel) (Nat.le_of_ble_eq_true rfl) ho (sMX11_twice h8 x1 h H1 rfl), fun q => by cases q⟩
theorem roX11_twice {ρ : Type} : RoF (wX11_twice : FN ρ) := fun a h k k2 hk => by
  unfold wX11_twice
  split
  · exact bndp_ro hk
  · rfl
/-! X12_isLike -/
def sdX12_isLike : SD := [(0, [(0, .aload_n 0, 1, [], 0), (1, .iload_n 1, 1, [], 0), (2, .iload_n 2, 1, [], 0), (3, .invokevirtual 517, 3, [1, 0, 1, 202, 1891, 0, 0, 16], 0), (6, .ifCond .eq 16, 3, [], 0)]),
  (9, [(9, .aload_n 0, 1, [], 0), (10, .iload_n 1, 1, [], 0), (11, .iconst 1, 1, [], 0), (12, .iadd, 1, [], 0), (13, .iload_n 2, 1, [], 0), (14, .iconst 1, 1, [], 0), (15, .iadd, 1, [], 0), (16, .invokevirtual 517, 3, [1, 0, 1, 202, 1891, 0, 0, 16], 0), (19, .ifCond .ne 25, 3, [], 0)]),
  (22, [(22, .aload_n 0, 1, [], 0), (23, .iload_n 1, 1, [], 0), (24, .iload_n 2, 1, [], 0), (25, .iconst 1, 1, [], 0), (26, .iadd, 1, [], 0), (27, .invokevirtual 517, 3, [1, 0, 1, 202, 1891, 0, 0, 16], 0), (30, .ifCond .eq 18, 3, [], 0)]),
  (33, [(33, .aload_n 0, 1, [], 0), (34, .iload_n 1, 1, [], 0), (35, .iconst 1, 1, [], 0), (36, .iadd, 1, [], 0), (37, .iload_n 2, 1, [], 0), (38, .invokevirtual 517, 3, [1, 0, 1, 202, 1891, 0, 0, 16], 0), (41, .ifCond .eq 7, 3, [], 0)]),
  (44, [(44, .iconst 1, 1, [], 0), (45, .goto 4, 3, [], 0)]),
  (48, [(48, .iconst 0, 1, [], 0)]),
  (49, [(49, .ireturn, 1, [1], 0)])]
def JX12_isLike_22 (x1 x2 : Int) (h : Hp) : Option (Int) :=
(bndp (MX12_isSame x1 (w32 (x2 + 1)) h) fun r1 =>
(if r1 = 0 then
(some 0)
else
(bndp (MX12_isSame (w32 (x1 + 1)) x2 h) fun r2 =>
(if r2 = 0 then
(some 0)
else
(some 1)))))
def MX12_isLike (x1 x2 : Int) (h : Hp) : Option (Int) :=
(bndp (MX12_isSame x1 x2 h) fun r1 =>
(if r1 = 0 then
(JX12_isLike_22 x1 x2 h)
else
(bndp (MX12_isSame (w32 (x1 + 1)) (w32 (x2 + 1)) h) fun r2 =>
(if r2 ≠ 0 then
(some 1)
else
(JX12_isLike_22 x1 x2 h)))))
def wX12_isLike {ρ : Type} : FN ρ := fun a h k => match a with
  | [_, x1, x2] => bndp (MX12_isLike x1 x2 h) (fun r => k r h)
  | _ => none
def fsX12_isLike (ρ : Type) : List (FN ρ) := [wX12_isSame]
def KJX12_isLike_22  : CT (Int) := []
set_option maxRecDepth 100000 in
theorem eJX12_isLike_22 (x1 : Int) (x2 : Int) (h : Hp) : JX12_isLike_22 x1 x2 h =
  goAt false (kct (KJX12_isLike_22)) (fun v _ => some (v)) (fsX12_isLike _) sdX12_isLike 1000 22 [(0, 16, 113), (1, 0, x1), (2, 0, x2)] [] h := rfl
def KMX12_isLike  : CT (Int) := [(22, [(0, 16, (some 113)), (1, 0, none), (2, 0, none)], [], fun a c h => match a, c with
    | [x1, x2], [] => JX12_isLike_22 x1 x2 h
    | _, _ => none)]
set_option maxRecDepth 100000 in
theorem eMX12_isLike (x1 : Int) (x2 : Int) (h : Hp) : MX12_isLike x1 x2 h =
  goAt false (kct (KMX12_isLike)) (fun v _ => some (v)) (fsX12_isLike _) sdX12_isLike 1000 0 [(0, 16, 113), (1, 0, x1), (2, 0, x2)] [] h := rfl
theorem okX12_isLike : mokb (mi 210) = true := by decide +kernel
theorem rkX12_isLike : rkOK 4 (mi 210).1.2.2.2.2.2.2.1 (mi 210).1.2.2.2.1 := Or.inr (Or.inr (Or.inl ⟨rfl, rfl, rfl⟩))
def calX12_isLike : List Nat := [202]
theorem foX12_isLike {l : Launch} {ρ : Type} : fsOK l false mi calX12_isLike (fsX12_isLike ρ) := ⟨sndX12_isSame, trivial⟩
theorem frX12_isLike {ρ : Type} : ∀ fn ∈ fsX12_isLike ρ, RoF fn := (List.forall_mem_cons.mpr ⟨roX12_isSame, (fun q9 h9 => by cases h9)⟩)
theorem ok_sdX12_isLike : sdb (mi 210).1.2.1 (insOK mi (mi 210).1.1.cls (mi 210).1.2.2.1 (mi 210).1.2.2.2.2.1 (mi 210).1.2.2.2.2.2.1 calX12_isLike false 4) sdX12_isLike = true := by decide +kernel
theorem sJX12_isLike_22 {l : Launch} {h0 : Hp} {v : Int} (h8 : nOf h0 = 148)  (x1 : Int) (x2 : Int) (h : Hp) {r : Int} (H : JX12_isLike_22 x1 x2 h = some r) (hG : gV v r) : PAt l false (mi 210).1 h0 v h 22 [(0, 16, 113), (1, 0, x1), (2, 0, x2)] [] h :=
  pat_ro ok_sdX12_isLike rfl rkX12_isLike h8 (foX12_isLike) (frX12_isLike) (fun v1 q => by
    cases q
    exact ⟨rfl, fun _ => hG⟩) (fun q9 h9 => by cases h9) ((eJX12_isLike_22 x1 x2 h).symm.trans H)
theorem sMX12_isLike {l : Launch} {h0 : Hp} {v : Int} (h8 : nOf h0 = 148)  (x1 : Int) (x2 : Int) (h : Hp) {r : Int} (H : MX12_isLike x1 x2 h = some r) (hG : gV v r) : PAt l false (mi 210).1 h0 v h 0 [(0, 16, 113), (1, 0, x1), (2, 0, x2)] [] h :=
  pat_ro ok_sdX12_isLike rfl rkX12_isLike h8 (foX12_isLike) (frX12_isLike) (fun v1 q => by
    cases q
    exact ⟨rfl, fun _ => hG⟩) (List.forall_mem_cons.mpr ⟨(fun a c H => by
      dsimp only at H
      split at H
      · exact sJX12_isLike_22 h8 _ _ _ H hG
      · cases H), (fun q9 h9 => by cases h9)⟩) ((eMX12_isLike x1 x2 h).symm.trans H)
theorem sndX12_isLike {ρ : Type} {l : Launch} : SndF (ρ := ρ) l false (mi 210).1 (wX12_isLike) := by
    intro a h k r H ha ho hn hf
    have h8 := hf rfl
    obtain ⟨x0, x1, x2, rfl⟩ := len3 (show a.length = 3 from ha)
    have u0 := uq16 hn (ho (16, x0) (List.mem_cons_self))
    subst u0
    replace H : bndp (MX12_isLike x1 x2 h) (fun r => k r h) = some r := H
    obtain ⟨v2, H1, H2⟩ := bndp_some H
    exact ⟨v2, h, H2, met_mk (mok_base okX12_isLike).1 (by decide +kernel) (Nat.le_of_ble_eq_true rfl) ho (sMX12_isLike h8 x1 x2 h H1 rfl), fun q => by cases q⟩
theorem roX12_isLike {ρ : Type} : RoF (wX12_isLike : FN ρ) := fun a h k k2 hk => by
  unfold wX12_isLike
  split
  · exact bndp_ro hk
  · rfl
/-! X12_firstLike -/
def sdX12_firstLike : SD := [(0, [(0, .iconst 0, 1, [], 0), (1, .istore_n 2, 1, [], 0)]),
  (2, [(2, .aload_n 0, 1, [], 0), (3, .iload_n 2, 1, [], 0), (4, .iload_n 1, 1, [], 0), (5, .invokevirtual 523, 3, [1, 0, 1, 210, 1920, 0, 0, 16], 0), (8, .ifCond .ne 9, 3, [], 0)]),
  (11, [(11, .iinc 2 1, 3, [], 0), (14, .goto (-12), 3, [], 0)]),
  (17, [(17, .iload_n 2, 1, [], 0), (18, .ireturn, 1, [], 0)])]
def BX12_firstLike_2 (n : Nat) : Nat → Int → Int → Hp → Option (Int)
  | 0, _, _, _ => none
  | f + 1, x1, x2, h =>
    (bndp (MX12_isLike x2 x1 h) fun r1 =>
    (if r1 ≠ 0 then
    (some x2)
    else
    (ltt (w32 (x2 + 1)) fun y1 =>
    (BX12_firstLike_2 n f x1 y1 h))))
def LX12_firstLike_2 (n : Nat) (x1 x2 : Int) (h : Hp) : Option (Int) :=
(BX12_firstLike_2 n n x1 x2 h)
def MX12_firstLike (n : Nat) (x1 : Int) (h : Hp) : Option (Int) :=
(ltt 0 fun y1 =>
(LX12_firstLike_2 n x1 y1 h))
def wX12_firstLike {ρ : Type} (n : Nat) : FN ρ := fun a h k => match a with
  | [_, x1] => bndp (MX12_firstLike n x1 h) (fun r => k r h)
  | _ => none
def fsX12_firstLike (n : Nat) (ρ : Type) : List (FN ρ) := [wX12_isLike]
def KBX12_firstLike_2 (_ : Nat) (bk : Int → Int → Hp → Option (Int)) : CT (Int) := [(2, [(0, 16, (some 113)), (1, 0, none), (2, 0, none)], [], fun a c h => match a, c with
    | [x1, x2], [] => bk x1 x2 h
    | _, _ => none)]
set_option maxRecDepth 100000 in
theorem eBX12_firstLike_2 (n f : Nat) (x1 : Int) (x2 : Int) (h : Hp) : BX12_firstLike_2 n (f + 1) x1 x2 h =
  goAt false (kct (KBX12_firstLike_2 n (BX12_firstLike_2 n f))) (fun v _ => some (v)) (fsX12_firstLike n _) sdX12_firstLike 1000 2 [(0, 16, 113), (1, 0, x1), (2, 0, x2)] [] h := rfl
def KMX12_firstLike (n : Nat) : CT (Int) := [(2, [(0, 16, (some 113)), (1, 0, none), (2, 0, none)], [], fun a c h => match a, c with
    | [x1, x2], [] => LX12_firstLike_2 n x1 x2 h
    | _, _ => none)]
set_option maxRecDepth 100000 in
theorem eMX12_firstLike (n : Nat) (x1 : Int) (h : Hp) : MX12_firstLike n x1 h =
  goAt false (kct (KMX12_firstLike n)) (fun v _ => some (v)) (fsX12_firstLike n _) sdX12_firstLike 1000 0 [(0, 16, 113), (1, 0, x1)] [] h := rfl
theorem okX12_firstLike : mokb (mi 211) = true := by decide +kernel
theorem rkX12_firstLike : rkOK 1 (mi 211).1.2.2.2.2.2.2.1 (mi 211).1.2.2.2.1 := Or.inr (Or.inl ⟨rfl, rfl, rfl⟩)
def calX12_firstLike : List Nat := [210]
theorem foX12_firstLike {l : Launch} {ρ : Type} (n : Nat) : fsOK l false mi calX12_firstLike (fsX12_firstLike n ρ) := ⟨sndX12_isLike, trivial⟩
theorem frX12_firstLike {ρ : Type} (n : Nat) : ∀ fn ∈ fsX12_firstLike n ρ, RoF fn := (List.forall_mem_cons.mpr ⟨roX12_isLike, (fun q9 h9 => by cases h9)⟩)
theorem ok_sdX12_firstLike : sdb (mi 211).1.2.1 (insOK mi (mi 211).1.1.cls (mi 211).1.2.2.1 (mi 211).1.2.2.2.2.1 (mi 211).1.2.2.2.2.2.1 calX12_firstLike false 1) sdX12_firstLike = true := by decide +kernel
theorem sBX12_firstLike_2 {l : Launch} {h0 : Hp} {v : Int} (h8 : nOf h0 = 148) (n : Nat) (h : Hp) : ∀ (f : Nat) (x1 : Int) (x2 : Int) {r : Int}, BX12_firstLike_2 n f x1 x2 h = some r → gV v r → PAt l false (mi 211).1 h0 v h 2 [(0, 16, 113), (1, 0, x1), (2, 0, x2)] [] h := by
  intro f
  induction f with
  | zero =>
    intro x1 x2 r H _
    have H2 : (none : Option (Int)) = some r := H
    cases H2
  | succ f ih =>
    intro x1 x2 r H hG
    exact pat_ro ok_sdX12_firstLike rfl rkX12_firstLike h8 (foX12_firstLike n) (frX12_firstLike n) (fun v1 q => by
    cases q
    exact ⟨rfl, fun _ => hG⟩) (List.forall_mem_cons.mpr ⟨(fun a c H => by
      dsimp only at H
      split at H
      · exact ih _ _ H hG
      · cases H), (fun q9 h9 => by cases h9)⟩) ((eBX12_firstLike_2 n f x1 x2 h).symm.trans H)
theorem sLX12_firstLike_2 {l : Launch} {h0 : Hp} {v : Int} (h8 : nOf h0 = 148) (n : Nat) (x1 : Int) (x2 : Int) (h : Hp) {r : Int} (H : LX12_firstLike_2 n x1 x2 h = some r) (hG : gV v r) : PAt l false (mi 211).1 h0 v h 2 [(0, 16, 113), (1, 0, x1), (2, 0, x2)] [] h :=
  sBX12_firstLike_2 h8 n h n x1 x2 H hG
theorem sMX12_firstLike {l : Launch} {h0 : Hp} {v : Int} (h8 : nOf h0 = 148) (n : Nat) (x1 : Int) (h : Hp) {r : Int} (H : MX12_firstLike n x1 h = some r) (hG : gV v r) : PAt l false (mi 211).1 h0 v h 0 [(0, 16, 113), (1, 0, x1)] [] h :=
  pat_ro ok_sdX12_firstLike rfl rkX12_firstLike h8 (foX12_firstLike n) (frX12_firstLike n) (fun v1 q => by
    cases q
    exact ⟨rfl, fun _ => hG⟩) (List.forall_mem_cons.mpr ⟨(fun a c H => by
      dsimp only at H
      split at H
      · exact sLX12_firstLike_2 h8 n _ _ _ H hG
      · cases H), (fun q9 h9 => by cases h9)⟩) ((eMX12_firstLike n x1 h).symm.trans H)
theorem sndX12_firstLike {ρ : Type} {l : Launch} (n : Nat) : SndF (ρ := ρ) l false (mi 211).1 (wX12_firstLike n) := by
    intro a h k r H ha ho hn hf
    have h8 := hf rfl
    obtain ⟨x0, x1, rfl⟩ := len2 (show a.length = 2 from ha)
    have u0 := uq16 hn (ho (16, x0) (List.mem_cons_self))
    subst u0
    replace H : bndp (MX12_firstLike n x1 h) (fun r => k r h) = some r := H
    obtain ⟨v2, H1, H2⟩ := bndp_some H
    exact ⟨v2, h, H2, met_mk (mok_base okX12_firstLike).1 (by decide +kernel) (Nat.le_of_ble_eq_true rfl) ho (sMX12_firstLike h8 n x1 h H1 rfl), fun q => by cases q⟩
theorem roX12_firstLike {ρ : Type} (n : Nat) : RoF (wX12_firstLike n : FN ρ) := fun a h k k2 hk => by
  unfold wX12_firstLike
  split
  · exact bndp_ro hk
  · rfl
/-! X12_twice -/
def sdX12_twice : SD := [(0, [(0, .iload_n 1, 1, [], 0), (1, .i2l, 1, [], 0), (2, .ldc2_w 526, 3, [1, 1915], (-1)), (5, .aload_n 0, 1, [], 0), (6, .getfield 140, 3, [12, 6, 0, 0, 1328, 0], 0), (9, .iconst 1, 1, [], 0), (10, .isub, 1, [], 0), (11, .i2l, 1, [], 0), (12, .invokestatic 217, 3, [1, 0, 3, 81, 1561, 1, 1, 1], 0), (15, .ifCond .ne 5, 3, [], 0)]),
  (18, [(18, .iconst (-1), 1, [], 0), (19, .ireturn, 1, [], 0)]),
  (20, [(20, .iload_n 1, 1, [], 0), (21, .iconst (-1), 1, [], 0), (22, .if_icmp .eq 9, 3, [], 0)]),
  (25, [(25, .aload_n 0, 1, [], 0), (26, .iload_n 1, 1, [], 0), (27, .invokevirtual 528, 3, [1, 1, 1, 211, 1916, 0, 16], 0), (30, .ireturn, 1, [], 0)]),
  (31, [(31, .iconst 0, 1, [], 0), (32, .istore_n 2, 1, [], 0), (33, .iconst 0, 1, [], 0), (34, .istore_n 3, 1, [], 0)]),
  (35, [(35, .iload_n 3, 1, [], 0), (36, .aload_n 0, 1, [], 0), (37, .getfield 140, 3, [12, 6, 0, 0, 1328, 0], 0), (40, .if_icmp .ge 29, 3, [], 0)]),
  (43, [(43, .iload_n 2, 1, [], 0), (44, .aload_n 0, 1, [], 0), (45, .iload_n 3, 1, [], 0), (46, .invokevirtual 528, 3, [1, 1, 1, 211, 1916, 0, 16], 0), (49, .iload_n 3, 1, [], 0), (50, .if_icmp .eq 7, 3, [], 0)]),
  (53, [(53, .iconst 1, 1, [], 0), (54, .goto 4, 3, [], 0)]),
  (57, [(57, .iconst 0, 1, [], 0)]),
  (58, [(58, .invokestatic 446, 3, [1, 2, 3, 141, 1727, 0], 0), (61, .iadd, 1, [], 0), (62, .istore_n 2, 1, [], 0), (63, .iinc 3 1, 3, [], 0), (66, .goto (-31), 3, [], 0)]),
  (69, [(69, .iload_n 2, 1, [], 0), (70, .ireturn, 1, [], 0)])]
def JX12_twice_58 (n : Nat) (bk : Int → Int → Hp → Option (Int)) (x3 z0 z1 : Int) (h : Hp) : Option (Int) :=
(bndp (MX12_truth z1) fun r1 =>
(ltt (w32 (z0 + r1)) fun y1 =>
(ltt (w32 (x3 + 1)) fun y2 =>
(bk y1 y2 h))))
def BX12_twice_35 (n : Nat) : Nat → Int → Int → Hp → Option (Int)
  | 0, _, _, _ => none
  | f + 1, x2, x3, h =>
    (if (h 113 6) ≤ x3 then
    (some x2)
    else
    (bndp (MX12_firstLike n x3 h) fun r1 =>
    (if r1 = x3 then
    (JX12_twice_58 n (BX12_twice_35 n f) x3 x2 0 h)
    else
    (JX12_twice_58 n (BX12_twice_35 n f) x3 x2 1 h))))
def LX12_twice_35 (n : Nat) (x2 x3 : Int) (h : Hp) : Option (Int) :=
(BX12_twice_35 n n x2 x3 h)
def MX12_twice (n : Nat) (x1 : Int) (h : Hp) : Option (Int) :=
(bndp (MX12_in x1 (-1) (w32 ((h 113 6) - 1))) fun r1 =>
(if r1 ≠ 0 then
(if x1 = (-1) then
(ltt 0 fun y1 =>
(ltt 0 fun y2 =>
(LX12_twice_35 n y1 y2 h)))
else
(bndp (MX12_firstLike n x1 h) fun r2 =>
(some r2)))
else
(some (-1))))
def wX12_twice {ρ : Type} (n : Nat) : FN ρ := fun a h k => match a with
  | [_, x1] => bndp (MX12_twice n x1 h) (fun r => k r h)
  | _ => none
def fsX12_twice (n : Nat) (ρ : Type) : List (FN ρ) := [wX12_in, wX12_firstLike n, wX12_truth]
def KJX12_twice_58 (_ : Nat) (bk : Int → Int → Hp → Option (Int)) : CT (Int) := [(35, [(0, 16, (some 113)), (2, 0, none), (3, 0, none)], [], fun a c h => match a, c with
    | [x2, x3], [] => bk x2 x3 h
    | _, _ => none)]
set_option maxRecDepth 100000 in
theorem eJX12_twice_58 (n : Nat) (bk : Int → Int → Hp → Option (Int)) (x3 : Int) (z0 : Int) (z1 : Int) (h : Hp) : JX12_twice_58 n bk x3 z0 z1 h =
  goAt false (kct (KJX12_twice_58 n bk)) (fun v _ => some (v)) (fsX12_twice n _) sdX12_twice 1000 58 [(0, 16, 113), (3, 0, x3)] [(0, z1), (0, z0)] h := rfl
def KBX12_twice_35 (n : Nat) (bk : Int → Int → Hp → Option (Int)) : CT (Int) := [(35, [(0, 16, (some 113)), (2, 0, none), (3, 0, none)], [], fun a c h => match a, c with
    | [x2, x3], [] => bk x2 x3 h
    | _, _ => none),
  (58, [(0, 16, (some 113)), (3, 0, none)], [(0, none), (0, none)], fun a c h => match a, c with
    | [x3], [z1, z0] => JX12_twice_58 n bk x3 z0 z1 h
    | _, _ => none)]
set_option maxRecDepth 100000 in
theorem eBX12_twice_35 (n f : Nat) (x2 : Int) (x3 : Int) (h : Hp) : BX12_twice_35 n (f + 1) x2 x3 h =
  goAt false (kct (KBX12_twice_35 n (BX12_twice_35 n f))) (fun v _ => some (v)) (fsX12_twice n _) sdX12_twice 1000 35 [(0, 16, 113), (2, 0, x2), (3, 0, x3)] [] h := rfl
def KMX12_twice (n : Nat) : CT (Int) := [(35, [(0, 16, (some 113)), (2, 0, none), (3, 0, none)], [], fun a c h => match a, c with
    | [x2, x3], [] => LX12_twice_35 n x2 x3 h
    | _, _ => none)]
set_option maxRecDepth 100000 in
theorem eMX12_twice (n : Nat) (x1 : Int) (h : Hp) : MX12_twice n x1 h =
  goAt false (kct (KMX12_twice n)) (fun v _ => some (v)) (fsX12_twice n _) sdX12_twice 1000 0 [(0, 16, 113), (1, 0, x1)] [] h := rfl
theorem okX12_twice : mokb (mi 212) = true := by decide +kernel
theorem rkX12_twice : rkOK 1 (mi 212).1.2.2.2.2.2.2.1 (mi 212).1.2.2.2.1 := Or.inr (Or.inl ⟨rfl, rfl, rfl⟩)
def calX12_twice : List Nat := [81, 211, 141]
theorem foX12_twice {l : Launch} {ρ : Type} (n : Nat) : fsOK l false mi calX12_twice (fsX12_twice n ρ) := ⟨sndX12_in, ⟨(sndX12_firstLike n), ⟨sndX12_truth, trivial⟩⟩⟩
theorem frX12_twice {ρ : Type} (n : Nat) : ∀ fn ∈ fsX12_twice n ρ, RoF fn := (List.forall_mem_cons.mpr ⟨roX12_in, (List.forall_mem_cons.mpr ⟨(roX12_firstLike n), (List.forall_mem_cons.mpr ⟨roX12_truth, (fun q9 h9 => by cases h9)⟩)⟩)⟩)
theorem ok_sdX12_twice : sdb (mi 212).1.2.1 (insOK mi (mi 212).1.1.cls (mi 212).1.2.2.1 (mi 212).1.2.2.2.2.1 (mi 212).1.2.2.2.2.2.1 calX12_twice false 1) sdX12_twice = true := by decide +kernel
theorem sJX12_twice_58 {l : Launch} {h0 : Hp} {v : Int} (h8 : nOf h0 = 148) (n : Nat) (bk : Int → Int → Hp → Option (Int)) {h : Hp} (hbk : ∀ (x2 : Int) (x3 : Int) (r : Int), bk x2 x3 h = some r → gV v r → PAt l false (mi 212).1 h0 v h 35 [(0, 16, 113), (2, 0, x2), (3, 0, x3)] [] h) (x3 : Int) (z0 : Int) (z1 : Int) (_ : Hp) {r : Int} (H : JX12_twice_58 n bk x3 z0 z1 h = some r) (hG : gV v r) : PAt l false (mi 212).1 h0 v h 58 [(0, 16, 113), (3, 0, x3)] [(0, z1), (0, z0)] h :=
  pat_ro ok_sdX12_twice rfl rkX12_twice h8 (foX12_twice n) (frX12_twice n) (fun v1 q => by
    cases q
    exact ⟨rfl, fun _ => hG⟩) (List.forall_mem_cons.mpr ⟨(fun a c H => by
      dsimp only at H
      split at H
      · exact hbk _ _ _ H hG
      · cases H), (fun q9 h9 => by cases h9)⟩) ((eJX12_twice_58 n bk x3 z0 z1 h).symm.trans H)
theorem sBX12_twice_35 {l : Launch} {h0 : Hp} {v : Int} (h8 : nOf h0 = 148) (n : Nat) (h : Hp) : ∀ (f : Nat) (x2 : Int) (x3 : Int) {r : Int}, BX12_twice_35 n f x2 x3 h = some r → gV v r → PAt l false (mi 212).1 h0 v h 35 [(0, 16, 113), (2, 0, x2), (3, 0, x3)] [] h := by
  intro f
  induction f with
  | zero =>
    intro x2 x3 r H _
    have H2 : (none : Option (Int)) = some r := H
    cases H2
  | succ f ih =>
    intro x2 x3 r H hG
    have ihk : ∀ (x2 : Int) (x3 : Int) (r : Int), BX12_twice_35 n f x2 x3 h = some r → gV v r → PAt l false (mi 212).1 h0 v h 35 [(0, 16, 113), (2, 0, x2), (3, 0, x3)] [] h := fun x2 x3 r9 a9 b9 => ih x2 x3 a9 b9
    exact pat_ro ok_sdX12_twice rfl rkX12_twice h8 (foX12_twice n) (frX12_twice n) (fun v1 q => by
    cases q
    exact ⟨rfl, fun _ => hG⟩) (List.forall_mem_cons.mpr ⟨(fun a c H => by
      dsimp only at H
      split at H
      · exact ih _ _ H hG
      · cases H), (List.forall_mem_cons.mpr ⟨(fun a c H => by
      dsimp only at H
      split at H
      · exact sJX12_twice_58 h8 n (BX12_twice_35 n f) ihk _ _ _ h H hG
      · cases H), (fun q9 h9 => by cases h9)⟩)⟩) ((eBX12_twice_35 n f x2 x3 h).symm.trans H)
theorem sLX12_twice_35 {l : Launch} {h0 : Hp} {v : Int} (h8 : nOf h0 = 148) (n : Nat) (x2 : Int) (x3 : Int) (h : Hp) {r : Int} (H : LX12_twice_35 n x2 x3 h = some r) (hG : gV v r) : PAt l false (mi 212).1 h0 v h 35 [(0, 16, 113), (2, 0, x2), (3, 0, x3)] [] h :=
  sBX12_twice_35 h8 n h n x2 x3 H hG
theorem sMX12_twice {l : Launch} {h0 : Hp} {v : Int} (h8 : nOf h0 = 148) (n : Nat) (x1 : Int) (h : Hp) {r : Int} (H : MX12_twice n x1 h = some r) (hG : gV v r) : PAt l false (mi 212).1 h0 v h 0 [(0, 16, 113), (1, 0, x1)] [] h :=
  pat_ro ok_sdX12_twice rfl rkX12_twice h8 (foX12_twice n) (frX12_twice n) (fun v1 q => by
    cases q
    exact ⟨rfl, fun _ => hG⟩) (List.forall_mem_cons.mpr ⟨(fun a c H => by
      dsimp only at H
      split at H
      · exact sLX12_twice_35 h8 n _ _ _ H hG
      · cases H), (fun q9 h9 => by cases h9)⟩) ((eMX12_twice n x1 h).symm.trans H)
theorem sndX12_twice {ρ : Type} {l : Launch} (n : Nat) : SndF (ρ := ρ) l false (mi 212).1 (wX12_twice n) := by
    intro a h k r H ha ho hn hf
    have h8 := hf rfl
    obtain ⟨x0, x1, rfl⟩ := len2 (show a.length = 2 from ha)
    have u0 := uq16 hn (ho (16, x0) (List.mem_cons_self))
    subst u0
    replace H : bndp (MX12_twice n x1 h) (fun r => k r h) = some r := H
    obtain ⟨v2, H1, H2⟩ := bndp_some H
    exact ⟨v2, h, H2, met_mk (mok_base okX12_twice).1 (by decide +kernel) (Nat.le_of_ble_eq_true rfl) ho (sMX12_twice h8 n x1 h H1 rfl), fun q => by cases q⟩
theorem roX12_twice {ρ : Type} (n : Nat) : RoF (wX12_twice n : FN ρ) := fun a h k k2 hk => by
  unfold wX12_twice
  split
  · exact bndp_ro hk
  · rfl
/-! X1_isAtLimit -/
def sdX1_isAtLimit : SD := [(0, [(0, .aload_n 0, 1, [], 0), (1, .getfield 24, 3, [1, 0, 8, 1, 464, 0], 2), (4, .getfield 48, 3, [4, 0, 14, 0, 431, 0], 0), (7, .aload_n 1, 1, [], 0), (8, .getfield 57, 3, [8, 3, 0, 0, 491, 0], 0), (11, .invokevirtual 60, 3, [1, 0, 1, 43, 1040, 0, 14], 0), (14, .ifCond .eq 26, 3, [], 0)]),
  (17, [(17, .aload_n 1, 1, [], 0), (18, .getfield 63, 3, [8, 1, 0, 0, 485, 0], 0), (21, .aload_n 0, 1, [], 0), (22, .getfield 24, 3, [1, 0, 8, 1, 464, 0], 2), (25, .getfield 66, 3, [4, 4, 532, 1, 439, 0], 1), (28, .aload_n 1, 1, [], 0), (29, .getfield 57, 3, [8, 3, 0, 0, 491, 0], 0), (32, .iaload, 1, [], 0), (33, .if_icmp .ne 7, 3, [], 0)]),
  (36, [(36, .iconst 1, 1, [], 0), (37, .goto 4, 3, [], 0)]),
  (40, [(40, .iconst 0, 1, [], 0)]),
  (41, [(41, .ireturn, 1, [1], 0)])]
def MX1_isAtLimit (x0 x1 : Int) (h : Hp) : Option (Int) :=
(bndp (MX10_has (h (x0 + 2) 0) (h x1 3) h) fun r1 =>
(if r1 = 0 then
(some 0)
else
(grd (0 ≤ (h x1 3) ∧ (h x1 3) < alen 532)
(if (h x1 1) ≠ (h ((x0 + 2) + 1) (h x1 3)) then
(some 0)
else
(some 1)))))
def wX1_isAtLimit {ρ : Type} : FN ρ := fun a h k => match a with
  | [x0, x1] => bndp (MX1_isAtLimit x0 x1 h) (fun r => k r h)
  | _ => none
def fsX1_isAtLimit (ρ : Type) : List (FN ρ) := [wX10_has]
def KMX1_isAtLimit  : CT (Int) := []
set_option maxRecDepth 100000 in
theorem eMX1_isAtLimit (x0 : Int) (x1 : Int) (h : Hp) : MX1_isAtLimit x0 x1 h =
  goAt false (kct (KMX1_isAtLimit)) (fun v _ => some (v)) (fsX1_isAtLimit _) sdX1_isAtLimit 1000 0 [(0, 5, x0), (1, 12, x1)] [] h := rfl
theorem okX1_isAtLimit : mokb (mi 213) = true := by decide +kernel
theorem rkX1_isAtLimit : rkOK 4 (mi 213).1.2.2.2.2.2.2.1 (mi 213).1.2.2.2.1 := Or.inr (Or.inr (Or.inl ⟨rfl, rfl, rfl⟩))
def calX1_isAtLimit : List Nat := [43]
theorem foX1_isAtLimit {l : Launch} {ρ : Type} : fsOK l false mi calX1_isAtLimit (fsX1_isAtLimit ρ) := ⟨sndX10_has, trivial⟩
theorem frX1_isAtLimit {ρ : Type} : ∀ fn ∈ fsX1_isAtLimit ρ, RoF fn := (List.forall_mem_cons.mpr ⟨roX10_has, (fun q9 h9 => by cases h9)⟩)
theorem ok_sdX1_isAtLimit : sdb (mi 213).1.2.1 (insOK mi (mi 213).1.1.cls (mi 213).1.2.2.1 (mi 213).1.2.2.2.2.1 (mi 213).1.2.2.2.2.2.1 calX1_isAtLimit false 4) sdX1_isAtLimit = true := by decide +kernel
theorem sMX1_isAtLimit {l : Launch} {h0 : Hp} {v : Int} (h8 : nOf h0 = 148)  (x0 : Int) (x1 : Int) (h : Hp) {r : Int} (H : MX1_isAtLimit x0 x1 h = some r) (hG : gV v r) : PAt l false (mi 213).1 h0 v h 0 [(0, 5, x0), (1, 12, x1)] [] h :=
  pat_ro ok_sdX1_isAtLimit rfl rkX1_isAtLimit h8 (foX1_isAtLimit) (frX1_isAtLimit) (fun v1 q => by
    cases q
    exact ⟨rfl, fun _ => hG⟩) (fun q9 h9 => by cases h9) ((eMX1_isAtLimit x0 x1 h).symm.trans H)
theorem sndX1_isAtLimit {ρ : Type} {l : Launch} : SndF (ρ := ρ) l false (mi 213).1 (wX1_isAtLimit) := by
    intro a h k r H ha ho hn hf
    have h8 := hf rfl
    obtain ⟨x0, x1, rfl⟩ := len2 (show a.length = 2 from ha)
    replace H : bndp (MX1_isAtLimit x0 x1 h) (fun r => k r h) = some r := H
    obtain ⟨v2, H1, H2⟩ := bndp_some H
    exact ⟨v2, h, H2, met_mk (mok_base okX1_isAtLimit).1 (by decide +kernel) (Nat.le_of_ble_eq_true rfl) ho (sMX1_isAtLimit h8 x0 x1 h H1 rfl), fun q => by cases q⟩
theorem roX1_isAtLimit {ρ : Type} : RoF (wX1_isAtLimit : FN ρ) := fun a h k k2 hk => by
  unfold wX1_isAtLimit
  split
  · exact bndp_ro hk
  · rfl
/-! X11_survey -/
def sdX11_survey : SD := [(0, [(0, .iconst 0, 1, [], 0), (1, .istore_n 1, 1, [], 0)]),
  (2, [(2, .iload_n 1, 1, [], 0), (3, .iconst 5, 1, [], 0), (4, .if_icmp .ge 16, 3, [], 0)]),
  (7, [(7, .aload_n 0, 1, [], 0), (8, .getfield 93, 3, [11, 14, 60, 1, 704, 0], 112), (11, .iload_n 1, 1, [], 0), (12, .iconst 0, 1, [], 0), (13, .iastore, 1, [], 0), (14, .iinc 1 1, 3, [], 0), (17, .goto (-15), 3, [], 0)]),
  (20, [(20, .aload_n 0, 1, [], 0), (21, .getfield 61, 3, [11, 8, 12, 1, 698, 0], 65), (24, .aload_n 0, 1, [], 0), (25, .getfield 57, 3, [11, 7, 12, 1, 697, 0], 64), (28, .invokevirtual 225, 3, [0, 0, 1, 124, 1120, 12, 12], 0), (31, .aload_n 0, 1, [], 0), (32, .getfield 61, 3, [11, 8, 12, 1, 698, 0], 65), (35, .iconst 0, 1, [], 0), (36, .putfield 206, 3, [8, 5, 0, 0, 1, 497], 0), (39, .bipush (-2), 2, [], 0), (41, .istore_n 1, 1, [], 0), (42, .iconst 0, 1, [], 0), (43, .istore_n 2, 1, [], 0)]),
  (44, [(44, .iload_n 2, 1, [], 0), (45, .sipush 3000, 3, [], 0), (48, .if_icmp .ge 142, 3, [], 0)]),
  (51, [(51, .aload_n 0, 1, [], 0), (52, .getfield 47, 3, [11, 5, 5, 1, 695, 0], 50), (55, .aload_n 0, 1, [], 0), (56, .getfield 61, 3, [11, 8, 12, 1, 698, 0], 65), (59, .invokevirtual 188, 3, [1, 1, 1, 123, 1007, 12, 5], 0), (62, .ifCond .ne 128, 3, [], 0)]),
  (65, [(65, .aload_n 0, 1, [], 0), (66, .getfield 47, 3, [11, 5, 5, 1, 695, 0], 50), (69, .aload_n 0, 1, [], 0), (70, .getfield 61, 3, [11, 8, 12, 1, 698, 0], 65), (73, .invokevirtual 196, 3, [1, 2, 1, 135, 1024, 12, 5], 0), (76, .istore_n 3, 1, [], 0), (77, .aload_n 0, 1, [], 0), (78, .getfield 93, 3, [11, 14, 60, 1, 704, 0], 112), (81, .iconst 0, 1, [], 0), (82, .aload_n 0, 1, [], 0), (83, .getfield 93, 3, [11, 14, 60, 1, 704, 0], 112), (86, .iconst 0, 1, [], 0), (87, .iaload, 1, [], 0), (88, .aload_n 0, 1, [], 0), (89, .getfield 61, 3, [11, 8, 12, 1, 698, 0], 65), (92, .getfield 232, 3, [8, 1, 0, 0, 486, 0], 0), (95, .invokestatic 259, 3, [1, 3, 3, 262, 1184, 0, 0], 0), (98, .iastore, 1, [], 0), (99, .aload_n 0, 1, [], 0), (100, .getfield 93, 3, [11, 14, 60, 1, 704, 0], 112), (103, .iconst 1, 1, [], 0), (104, .dup2, 1, [], 0), (105, .iaload, 1, [], 0), (106, .iload_n 3, 1, [], 0), (107, .ifCond .le 7, 3, [], 0)]),
  (110, [(110, .iconst 1, 1, [], 0), (111, .goto 4, 3, [], 0)]),
  (114, [(114, .iconst 0, 1, [], 0)]),
  (115, [(115, .iadd, 1, [], 0), (116, .iastore, 1, [], 0), (117, .aload_n 0, 1, [], 0), (118, .getfield 93, 3, [11, 14, 60, 1, 704, 0], 112), (121, .iconst 2, 1, [], 0), (122, .dup2, 1, [], 0), (123, .iaload, 1, [], 0), (124, .iload_n 3, 1, [], 0), (125, .ifCond .ge 7, 3, [], 0)]),
  (128, [(128, .iconst 1, 1, [], 0), (129, .goto 4, 3, [], 0)]),
  (132, [(132, .iconst 0, 1, [], 0)]),
  (133, [(133, .iadd, 1, [], 0), (134, .iastore, 1, [], 0), (135, .aload_n 0, 1, [], 0), (136, .getfield 93, 3, [11, 14, 60, 1, 704, 0], 112), (139, .iconst 3, 1, [], 0), (140, .dup2, 1, [], 0), (141, .iaload, 1, [], 0), (142, .aload_n 0, 1, [], 0), (143, .getfield 47, 3, [11, 5, 5, 1, 695, 0], 50), (146, .aload_n 0, 1, [], 0), (147, .getfield 61, 3, [11, 8, 12, 1, 698, 0], 65), (150, .invokevirtual 264, 3, [1, 4, 1, 213, 1185, 12, 5], 0), (153, .ifCond .eq 7, 3, [], 0)]),
  (156, [(156, .iconst 1, 1, [], 0), (157, .goto 4, 3, [], 0)]),
  (160, [(160, .iconst 0, 1, [], 0)]),
  (161, [(161, .iadd, 1, [], 0), (162, .iastore, 1, [], 0), (163, .aload_n 0, 1, [], 0), (164, .getfield 93, 3, [11, 14, 60, 1, 704, 0], 112), (167, .iconst 4, 1, [], 0), (168, .dup2, 1, [], 0), (169, .iaload, 1, [], 0), (170, .iload_n 3, 1, [], 0), (171, .iload_n 1, 1, [], 0), (172, .if_icmp .eq 7, 3, [], 0)]),
  (175, [(175, .iconst 1, 1, [], 0), (176, .goto 4, 3, [], 0)]),
  (179, [(179, .iconst 0, 1, [], 0)]),
  (180, [(180, .iadd, 1, [], 0), (181, .iastore, 1, [], 0), (182, .iload_n 3, 1, [], 0), (183, .istore_n 1, 1, [], 0), (184, .iinc 2 1, 3, [], 0), (187, .goto (-143), 3, [], 0)]),
  (190, [(190, .aload_n 0, 1, [], 0), (191, .getfield 47, 3, [11, 5, 5, 1, 695, 0], 50), (194, .aload_n 0, 1, [], 0), (195, .getfield 61, 3, [11, 8, 12, 1, 698, 0], 65), (198, .invokevirtual 188, 3, [1, 1, 1, 123, 1007, 12, 5], 0), (201, .ireturn, 1, [1], 0)])]
def BX11_survey_2 (n : Nat) : Nat → Int → Hp → Option (Hp)
  | 0, _, _ => none
  | f + 1, x1, h =>
    (if 5 ≤ x1 then
    (some (h))
    else
    (grd (0 ≤ x1 ∧ x1 < alen 60)
    (ltt (up h 112 x1 0) fun h1 =>
    (ltt (w32 (x1 + 1)) fun y1 =>
    (BX11_survey_2 n f y1 h1)))))
def JX11_survey_180 (n : Nat) (bk : Int → Int → Hp → Option (Int × Hp)) (x2 x3 z1 z2 z3 : Int) (h : Hp) : Option (Int × Hp) :=
(grd (0 ≤ z1 ∧ z1 < alen 60)
(ltt (up h 112 z1 (w32 (z2 + z3))) fun h1 =>
(ltt x3 fun y1 =>
(ltt (w32 (x2 + 1)) fun y2 =>
(bk y1 y2 h1)))))
def JX11_survey_161 (n : Nat) (bk : Int → Int → Hp → Option (Int × Hp)) (x1 x2 x3 z1 z2 z3 : Int) (h : Hp) : Option (Int × Hp) :=
(grd (0 ≤ z1 ∧ z1 < alen 60)
(ltt (up h 112 z1 (w32 (z2 + z3))) fun h1 =>
(grd (0 ≤ 4 ∧ 4 < alen 60)
(if x3 = x1 then
(JX11_survey_180 n bk x2 x3 4 (h1 112 4) 0 h1)
else
(JX11_survey_180 n bk x2 x3 4 (h1 112 4) 1 h1)))))
def JX11_survey_133 (n : Nat) (bk : Int → Int → Hp → Option (Int × Hp)) (x1 x2 x3 z1 z2 z3 : Int) (h : Hp) : Option (Int × Hp) :=
(grd (0 ≤ z1 ∧ z1 < alen 60)
(ltt (up h 112 z1 (w32 (z2 + z3))) fun h1 =>
(grd (0 ≤ 3 ∧ 3 < alen 60)
(bndp (MX1_isAtLimit 50 65 h1) fun r1 =>
(if r1 = 0 then
(JX11_survey_161 n bk x1 x2 x3 3 (h1 112 3) 0 h1)
else
(JX11_survey_161 n bk x1 x2 x3 3 (h1 112 3) 1 h1))))))
def JX11_survey_115 (n : Nat) (bk : Int → Int → Hp → Option (Int × Hp)) (x1 x2 x3 z1 z2 z3 : Int) (h : Hp) : Option (Int × Hp) :=
(grd (0 ≤ z1 ∧ z1 < alen 60)
(ltt (up h 112 z1 (w32 (z2 + z3))) fun h1 =>
(grd (0 ≤ 2 ∧ 2 < alen 60)
(if 0 ≤ x3 then
(JX11_survey_133 n bk x1 x2 x3 2 (h1 112 2) 0 h1)
else
(JX11_survey_133 n bk x1 x2 x3 2 (h1 112 2) 1 h1)))))
def BX11_survey_44 (n : Nat) : Nat → Int → Int → Hp → Option (Int × Hp)
  | 0, _, _, _ => none
  | f + 1, x1, x2, h =>
    (if 3000 ≤ x2 then
    (bndp (MX1_isDone 50 65 h) fun r1 =>
    (grd (r1 = 0 ∨ r1 = 1)
    (some (r1, h))))
    else
    (bndp (MX1_isDone 50 65 h) fun r2 =>
    (if r2 ≠ 0 then
    (bndp (MX1_isDone 50 65 h) fun r3 =>
    (grd (r3 = 0 ∨ r3 = 1)
    (some (r3, h))))
    else
    (bnd (MX1_tick n 50 65 h) fun r4 h1 =>
    (ltt r4 fun y1 =>
    (grd (0 ≤ 0 ∧ 0 < alen 60)
    (grd (0 ≤ 0 ∧ 0 < alen 60)
    (ltt (up h1 112 0 (max (h1 112 0) (h1 65 1))) fun h2 =>
    (grd (0 ≤ 1 ∧ 1 < alen 60)
    (if y1 ≤ 0 then
    (JX11_survey_115 n (BX11_survey_44 n f) x1 x2 y1 1 (h2 112 1) 0 h2)
    else
    (JX11_survey_115 n (BX11_survey_44 n f) x1 x2 y1 1 (h2 112 1) 1 h2)))))))))))
def LX11_survey_44 (n : Nat) (x1 x2 : Int) (h : Hp) : Option (Int × Hp) :=
(BX11_survey_44 n n x1 x2 h)
def JX11_survey_20 (n : Nat) (h : Hp) : Option (Int × Hp) :=
(bndh (MX8_become 65 64 h) fun h1 =>
(ltt (up h1 65 5 0) fun h2 =>
(ltt (-2) fun y1 =>
(ltt 0 fun y2 =>
(LX11_survey_44 n y1 y2 h2)))))
def LX11_survey_2 (n : Nat) (x1 : Int) (h : Hp) : Option (Int × Hp) :=
(bndx (BX11_survey_2 n n x1 h) fun h1 =>
(JX11_survey_20 n h1))
def MX11_survey (n : Nat) (h : Hp) : Option (Int × Hp) :=
(ltt 0 fun y1 =>
(LX11_survey_2 n y1 h))
def wX11_survey {ρ : Type} (n : Nat) : FN ρ := fun a h k => match a with
  | [_] => bnd (MX11_survey n h) (fun r h2 => k r h2)
  | _ => none
def fsX11_survey (n : Nat) (ρ : Type) : List (FN ρ) := [wX8_become, wX1_isDone, wX1_tick n, fmax, wX1_isAtLimit]
def KBX11_survey_2 (_ : Nat) (bk : Int → Hp → Option (Hp)) : CT (Hp) := [(2, [(0, 15, (some 0)), (1, 0, none)], [], fun a c h => match a, c with
    | [x1], [] => bk x1 h
    | _, _ => none),
  (20, [(0, 15, (some 0))], [], fun a c h => match a, c with
    | [], [] => some (h)
    | _, _ => none)]
set_option maxRecDepth 100000 in
theorem eBX11_survey_2 (n f : Nat) (x1 : Int) (h : Hp) : BX11_survey_2 n (f + 1) x1 h =
  goAt false (kct (KBX11_survey_2 n (BX11_survey_2 n f))) (fun _ _ => none) (fsX11_survey n _) sdX11_survey 1000 2 [(0, 15, 0), (1, 0, x1)] [] h := rfl
def KJX11_survey_180 (_ : Nat) (bk : Int → Int → Hp → Option (Int × Hp)) : CT (Int × Hp) := [(44, [(0, 15, (some 0)), (1, 0, none), (2, 0, none)], [], fun a c h => match a, c with
    | [x1, x2], [] => bk x1 x2 h
    | _, _ => none)]
set_option maxRecDepth 100000 in
theorem eJX11_survey_180 (n : Nat) (bk : Int → Int → Hp → Option (Int × Hp)) (x2 : Int) (x3 : Int) (z1 : Int) (z2 : Int) (z3 : Int) (h : Hp) : JX11_survey_180 n bk x2 x3 z1 z2 z3 h =
  goAt false (kct (KJX11_survey_180 n bk)) (fun v h => some ((v, h))) (fsX11_survey n _) sdX11_survey 1000 180 [(0, 15, 0), (2, 0, x2), (3, 0, x3)] [(0, z3), (0, z2), (0, z1), (60, 112)] h := rfl
def KJX11_survey_161 (n : Nat) (bk : Int → Int → Hp → Option (Int × Hp)) : CT (Int × Hp) := [(44, [(0, 15, (some 0)), (1, 0, none), (2, 0, none)], [], fun a c h => match a, c with
    | [x1, x2], [] => bk x1 x2 h
    | _, _ => none),
  (180, [(0, 15, (some 0)), (2, 0, none), (3, 0, none)], [(0, none), (0, none), (0, none), (60, (some 112))], fun a c h => match a, c with
    | [x2, x3], [z3, z2, z1] => JX11_survey_180 n bk x2 x3 z1 z2 z3 h
    | _, _ => none)]
set_option maxRecDepth 100000 in
theorem eJX11_survey_161 (n : Nat) (bk : Int → Int → Hp → Option (Int × Hp)) (x1 : Int) (x2 : Int) (x3 : Int) (z1 : Int) (z2 : Int) (z3 : Int) (h : Hp) : JX11_survey_161 n bk x1 x2 x3 z1 z2 z3 h =
  goAt false (kct (KJX11_survey_161 n bk)) (fun v h => some ((v, h))) (fsX11_survey n _) sdX11_survey 1000 161 [(0, 15, 0), (1, 0, x1), (2, 0, x2), (3, 0, x3)] [(0, z3), (0, z2), (0, z1), (60, 112)] h := rfl
def KJX11_survey_133 (n : Nat) (bk : Int → Int → Hp → Option (Int × Hp)) : CT (Int × Hp) := [(44, [(0, 15, (some 0)), (1, 0, none), (2, 0, none)], [], fun a c h => match a, c with
    | [x1, x2], [] => bk x1 x2 h
    | _, _ => none),
  (161, [(0, 15, (some 0)), (1, 0, none), (2, 0, none), (3, 0, none)], [(0, none), (0, none), (0, none), (60, (some 112))], fun a c h => match a, c with
    | [x1, x2, x3], [z3, z2, z1] => JX11_survey_161 n bk x1 x2 x3 z1 z2 z3 h
    | _, _ => none)]
set_option maxRecDepth 100000 in
theorem eJX11_survey_133 (n : Nat) (bk : Int → Int → Hp → Option (Int × Hp)) (x1 : Int) (x2 : Int) (x3 : Int) (z1 : Int) (z2 : Int) (z3 : Int) (h : Hp) : JX11_survey_133 n bk x1 x2 x3 z1 z2 z3 h =
  goAt false (kct (KJX11_survey_133 n bk)) (fun v h => some ((v, h))) (fsX11_survey n _) sdX11_survey 1000 133 [(0, 15, 0), (1, 0, x1), (2, 0, x2), (3, 0, x3)] [(0, z3), (0, z2), (0, z1), (60, 112)] h := rfl
def KJX11_survey_115 (n : Nat) (bk : Int → Int → Hp → Option (Int × Hp)) : CT (Int × Hp) := [(44, [(0, 15, (some 0)), (1, 0, none), (2, 0, none)], [], fun a c h => match a, c with
    | [x1, x2], [] => bk x1 x2 h
    | _, _ => none),
  (133, [(0, 15, (some 0)), (1, 0, none), (2, 0, none), (3, 0, none)], [(0, none), (0, none), (0, none), (60, (some 112))], fun a c h => match a, c with
    | [x1, x2, x3], [z3, z2, z1] => JX11_survey_133 n bk x1 x2 x3 z1 z2 z3 h
    | _, _ => none)]
set_option maxRecDepth 100000 in
theorem eJX11_survey_115 (n : Nat) (bk : Int → Int → Hp → Option (Int × Hp)) (x1 : Int) (x2 : Int) (x3 : Int) (z1 : Int) (z2 : Int) (z3 : Int) (h : Hp) : JX11_survey_115 n bk x1 x2 x3 z1 z2 z3 h =
  goAt false (kct (KJX11_survey_115 n bk)) (fun v h => some ((v, h))) (fsX11_survey n _) sdX11_survey 1000 115 [(0, 15, 0), (1, 0, x1), (2, 0, x2), (3, 0, x3)] [(0, z3), (0, z2), (0, z1), (60, 112)] h := rfl
def KBX11_survey_44 (n : Nat) (bk : Int → Int → Hp → Option (Int × Hp)) : CT (Int × Hp) := [(44, [(0, 15, (some 0)), (1, 0, none), (2, 0, none)], [], fun a c h => match a, c with
    | [x1, x2], [] => bk x1 x2 h
    | _, _ => none),
  (115, [(0, 15, (some 0)), (1, 0, none), (2, 0, none), (3, 0, none)], [(0, none), (0, none), (0, none), (60, (some 112))], fun a c h => match a, c with
    | [x1, x2, x3], [z3, z2, z1] => JX11_survey_115 n bk x1 x2 x3 z1 z2 z3 h
    | _, _ => none)]
set_option maxRecDepth 100000 in
theorem eBX11_survey_44 (n f : Nat) (x1 : Int) (x2 : Int) (h : Hp) : BX11_survey_44 n (f + 1) x1 x2 h =
  goAt false (kct (KBX11_survey_44 n (BX11_survey_44 n f))) (fun v h => some ((v, h))) (fsX11_survey n _) sdX11_survey 1000 44 [(0, 15, 0), (1, 0, x1), (2, 0, x2)] [] h := rfl
def KJX11_survey_20 (n : Nat) : CT (Int × Hp) := [(44, [(0, 15, (some 0)), (1, 0, none), (2, 0, none)], [], fun a c h => match a, c with
    | [x1, x2], [] => LX11_survey_44 n x1 x2 h
    | _, _ => none)]
set_option maxRecDepth 100000 in
theorem eJX11_survey_20 (n : Nat) (h : Hp) : JX11_survey_20 n h =
  goAt false (kct (KJX11_survey_20 n)) (fun v h => some ((v, h))) (fsX11_survey n _) sdX11_survey 1000 20 [(0, 15, 0)] [] h := rfl
def KMX11_survey (n : Nat) : CT (Int × Hp) := [(2, [(0, 15, (some 0)), (1, 0, none)], [], fun a c h => match a, c with
    | [x1], [] => LX11_survey_2 n x1 h
    | _, _ => none)]
set_option maxRecDepth 100000 in
theorem eMX11_survey (n : Nat) (h : Hp) : MX11_survey n h =
  goAt false (kct (KMX11_survey n)) (fun v h => some ((v, h))) (fsX11_survey n _) sdX11_survey 1000 0 [(0, 15, 0)] [] h := rfl
theorem okX11_survey : mokb (mi 214) = true := by decide +kernel
theorem rkX11_survey : rkOK 4 (mi 214).1.2.2.2.2.2.2.1 (mi 214).1.2.2.2.1 := Or.inr (Or.inr (Or.inl ⟨rfl, rfl, rfl⟩))
def calX11_survey : List Nat := [124, 123, 135, 262, 213]
theorem foX11_survey {l : Launch} {ρ : Type} (n : Nat) : fsOK l false mi calX11_survey (fsX11_survey n ρ) := ⟨sndX8_become, ⟨sndX1_isDone, ⟨(sndX1_tick n), ⟨snd_mmax, ⟨sndX1_isAtLimit, trivial⟩⟩⟩⟩⟩
theorem ok_sdX11_survey : sdb (mi 214).1.2.1 (insOK mi (mi 214).1.1.cls (mi 214).1.2.2.1 (mi 214).1.2.2.2.2.1 (mi 214).1.2.2.2.2.2.1 calX11_survey false 4) sdX11_survey = true := by decide +kernel
def GX11_survey_2 (l : Launch) (h0 : Hp) (h' : Hp) (v : Int) (_ : Hp) : (Hp) → Prop
  | h1 => PAt l false (mi 214).1 h0 v h' 20 [(0, 15, 0)] [] h1
theorem sBX11_survey_2 {l : Launch} {h0 h' : Hp} {v : Int} (h8 : nOf h0 = 148) (n : Nat) : ∀ (f : Nat) (x1 : Int) (h : Hp) {r : Hp}, BX11_survey_2 n f x1 h = some r → GX11_survey_2 l h0 h' v h r → PAt l false (mi 214).1 h0 v h' 2 [(0, 15, 0), (1, 0, x1)] [] h := by
  intro f
  induction f with
  | zero =>
    intro x1 h r H _
    have H2 : (none : Option (Hp)) = some r := H
    cases H2
  | succ f ih =>
    intro x1 h r H hG
    exact pat_w ok_sdX11_survey rkX11_survey h8 (foX11_survey n) (fun v1 h1 q => by cases q) (List.forall_mem_cons.mpr ⟨(fun a c h H => by
      dsimp only at H
      split at H
      · exact ih _ _ H hG
      · cases H), (List.forall_mem_cons.mpr ⟨(fun a c h H => by
      dsimp only at H
      split at H
      · cases H
        exact hG
      · cases H), (fun q9 h9 => by cases h9)⟩)⟩) ((eBX11_survey_2 n f x1 h).symm.trans H)
theorem sJX11_survey_180 {l : Launch} {h0 h' : Hp} {v : Int} (h8 : nOf h0 = 148) (n : Nat) (bk : Int → Int → Hp → Option (Int × Hp)) (hbk : ∀ (x1 : Int) (x2 : Int) (h : Hp) (r : Int × Hp), bk x1 x2 h = some r → gWV v h' r → PAt l false (mi 214).1 h0 v h' 44 [(0, 15, 0), (1, 0, x1), (2, 0, x2)] [] h) (x2 : Int) (x3 : Int) (z1 : Int) (z2 : Int) (z3 : Int) (h : Hp) {r : Int × Hp} (H : JX11_survey_180 n bk x2 x3 z1 z2 z3 h = some r) (hG : gWV v h' r) : PAt l false (mi 214).1 h0 v h' 180 [(0, 15, 0), (2, 0, x2), (3, 0, x3)] [(0, z3), (0, z2), (0, z1), (60, 112)] h :=
  pat_w ok_sdX11_survey rkX11_survey h8 (foX11_survey n) (fun v1 h1 q => by
    cases q
    exact ⟨hG.1, fun _ => hG.2⟩) (List.forall_mem_cons.mpr ⟨(fun a c h H => by
      dsimp only at H
      split at H
      · exact hbk _ _ _ _ H hG
      · cases H), (fun q9 h9 => by cases h9)⟩) ((eJX11_survey_180 n bk x2 x3 z1 z2 z3 h).symm.trans H)
theorem sJX11_survey_161 {l : Launch} {h0 h' : Hp} {v : Int} (h8 : nOf h0 = 148) (n : Nat) (bk : Int → Int → Hp → Option (Int × Hp)) (hbk : ∀ (x1 : Int) (x2 : Int) (h : Hp) (r : Int × Hp), bk x1 x2 h = some r → gWV v h' r → PAt l false (mi 214).1 h0 v h' 44 [(0, 15, 0), (1, 0, x1), (2, 0, x2)] [] h) (x1 : Int) (x2 : Int) (x3 : Int) (z1 : Int) (z2 : Int) (z3 : Int) (h : Hp) {r : Int × Hp} (H : JX11_survey_161 n bk x1 x2 x3 z1 z2 z3 h = some r) (hG : gWV v h' r) : PAt l false (mi 214).1 h0 v h' 161 [(0, 15, 0), (1, 0, x1), (2, 0, x2), (3, 0, x3)] [(0, z3), (0, z2), (0, z1), (60, 112)] h :=
  pat_w ok_sdX11_survey rkX11_survey h8 (foX11_survey n) (fun v1 h1 q => by
    cases q
    exact ⟨hG.1, fun _ => hG.2⟩) (List.forall_mem_cons.mpr ⟨(fun a c h H => by
      dsimp only at H
      split at H
      · exact hbk _ _ _ _ H hG
      · cases H), (List.forall_mem_cons.mpr ⟨(fun a c h H => by
      dsimp only at H
      split at H
      · exact sJX11_survey_180 h8 n bk hbk _ _ _ _ _ _ H hG
      · cases H), (fun q9 h9 => by cases h9)⟩)⟩) ((eJX11_survey_161 n bk x1 x2 x3 z1 z2 z3 h).symm.trans H)
theorem sJX11_survey_133 {l : Launch} {h0 h' : Hp} {v : Int} (h8 : nOf h0 = 148) (n : Nat) (bk : Int → Int → Hp → Option (Int × Hp)) (hbk : ∀ (x1 : Int) (x2 : Int) (h : Hp) (r : Int × Hp), bk x1 x2 h = some r → gWV v h' r → PAt l false (mi 214).1 h0 v h' 44 [(0, 15, 0), (1, 0, x1), (2, 0, x2)] [] h) (x1 : Int) (x2 : Int) (x3 : Int) (z1 : Int) (z2 : Int) (z3 : Int) (h : Hp) {r : Int × Hp} (H : JX11_survey_133 n bk x1 x2 x3 z1 z2 z3 h = some r) (hG : gWV v h' r) : PAt l false (mi 214).1 h0 v h' 133 [(0, 15, 0), (1, 0, x1), (2, 0, x2), (3, 0, x3)] [(0, z3), (0, z2), (0, z1), (60, 112)] h :=
  pat_w ok_sdX11_survey rkX11_survey h8 (foX11_survey n) (fun v1 h1 q => by
    cases q
    exact ⟨hG.1, fun _ => hG.2⟩) (List.forall_mem_cons.mpr ⟨(fun a c h H => by
      dsimp only at H
      split at H
      · exact hbk _ _ _ _ H hG
      · cases H), (List.forall_mem_cons.mpr ⟨(fun a c h H => by
      dsimp only at H
      split at H
      · exact sJX11_survey_161 h8 n bk hbk _ _ _ _ _ _ _ H hG
      · cases H), (fun q9 h9 => by cases h9)⟩)⟩) ((eJX11_survey_133 n bk x1 x2 x3 z1 z2 z3 h).symm.trans H)
theorem sJX11_survey_115 {l : Launch} {h0 h' : Hp} {v : Int} (h8 : nOf h0 = 148) (n : Nat) (bk : Int → Int → Hp → Option (Int × Hp)) (hbk : ∀ (x1 : Int) (x2 : Int) (h : Hp) (r : Int × Hp), bk x1 x2 h = some r → gWV v h' r → PAt l false (mi 214).1 h0 v h' 44 [(0, 15, 0), (1, 0, x1), (2, 0, x2)] [] h) (x1 : Int) (x2 : Int) (x3 : Int) (z1 : Int) (z2 : Int) (z3 : Int) (h : Hp) {r : Int × Hp} (H : JX11_survey_115 n bk x1 x2 x3 z1 z2 z3 h = some r) (hG : gWV v h' r) : PAt l false (mi 214).1 h0 v h' 115 [(0, 15, 0), (1, 0, x1), (2, 0, x2), (3, 0, x3)] [(0, z3), (0, z2), (0, z1), (60, 112)] h :=
  pat_w ok_sdX11_survey rkX11_survey h8 (foX11_survey n) (fun v1 h1 q => by
    cases q
    exact ⟨hG.1, fun _ => hG.2⟩) (List.forall_mem_cons.mpr ⟨(fun a c h H => by
      dsimp only at H
      split at H
      · exact hbk _ _ _ _ H hG
      · cases H), (List.forall_mem_cons.mpr ⟨(fun a c h H => by
      dsimp only at H
      split at H
      · exact sJX11_survey_133 h8 n bk hbk _ _ _ _ _ _ _ H hG
      · cases H), (fun q9 h9 => by cases h9)⟩)⟩) ((eJX11_survey_115 n bk x1 x2 x3 z1 z2 z3 h).symm.trans H)
theorem sBX11_survey_44 {l : Launch} {h0 h' : Hp} {v : Int} (h8 : nOf h0 = 148) (n : Nat) : ∀ (f : Nat) (x1 : Int) (x2 : Int) (h : Hp) {r : Int × Hp}, BX11_survey_44 n f x1 x2 h = some r → gWV v h' r → PAt l false (mi 214).1 h0 v h' 44 [(0, 15, 0), (1, 0, x1), (2, 0, x2)] [] h := by
  intro f
  induction f with
  | zero =>
    intro x1 x2 h r H _
    have H2 : (none : Option (Int × Hp)) = some r := H
    cases H2
  | succ f ih =>
    intro x1 x2 h r H hG
    have ihk : ∀ (x1 : Int) (x2 : Int) (h : Hp) (r : Int × Hp), BX11_survey_44 n f x1 x2 h = some r → gWV v h' r → PAt l false (mi 214).1 h0 v h' 44 [(0, 15, 0), (1, 0, x1), (2, 0, x2)] [] h := fun x1 x2 h r9 a9 b9 => ih x1 x2 h a9 b9
    exact pat_w ok_sdX11_survey rkX11_survey h8 (foX11_survey n) (fun v1 h1 q => by
    cases q
    exact ⟨hG.1, fun _ => hG.2⟩) (List.forall_mem_cons.mpr ⟨(fun a c h H => by
      dsimp only at H
      split at H
      · exact ih _ _ _ H hG
      · cases H), (List.forall_mem_cons.mpr ⟨(fun a c h H => by
      dsimp only at H
      split at H
      · exact sJX11_survey_115 h8 n (BX11_survey_44 n f) ihk _ _ _ _ _ _ _ H hG
      · cases H), (fun q9 h9 => by cases h9)⟩)⟩) ((eBX11_survey_44 n f x1 x2 h).symm.trans H)
theorem sLX11_survey_44 {l : Launch} {h0 h' : Hp} {v : Int} (h8 : nOf h0 = 148) (n : Nat) (x1 : Int) (x2 : Int) (h : Hp) {r : Int × Hp} (H : LX11_survey_44 n x1 x2 h = some r) (hG : gWV v h' r) : PAt l false (mi 214).1 h0 v h' 44 [(0, 15, 0), (1, 0, x1), (2, 0, x2)] [] h :=
  sBX11_survey_44 h8 n n x1 x2 h H hG
theorem sJX11_survey_20 {l : Launch} {h0 h' : Hp} {v : Int} (h8 : nOf h0 = 148) (n : Nat)  (h : Hp) {r : Int × Hp} (H : JX11_survey_20 n h = some r) (hG : gWV v h' r) : PAt l false (mi 214).1 h0 v h' 20 [(0, 15, 0)] [] h :=
  pat_w ok_sdX11_survey rkX11_survey h8 (foX11_survey n) (fun v1 h1 q => by
    cases q
    exact ⟨hG.1, fun _ => hG.2⟩) (List.forall_mem_cons.mpr ⟨(fun a c h H => by
      dsimp only at H
      split at H
      · exact sLX11_survey_44 h8 n _ _ _ H hG
      · cases H), (fun q9 h9 => by cases h9)⟩) ((eJX11_survey_20 n h).symm.trans H)
theorem sLX11_survey_2 {l : Launch} {h0 h' : Hp} {v : Int} (h8 : nOf h0 = 148) (n : Nat) (x1 : Int) (h : Hp) {r : Int × Hp} (H : LX11_survey_2 n x1 h = some r) (hG : gWV v h' r) : PAt l false (mi 214).1 h0 v h' 2 [(0, 15, 0), (1, 0, x1)] [] h := by
  obtain ⟨h1, h2, h3⟩ := bndx_some H
  exact sBX11_survey_2 h8 n n x1 h h2 (sJX11_survey_20 h8 n h1 h3 hG)
theorem sMX11_survey {l : Launch} {h0 h' : Hp} {v : Int} (h8 : nOf h0 = 148) (n : Nat)  (h : Hp) {r : Int × Hp} (H : MX11_survey n h = some r) (hG : gWV v h' r) : PAt l false (mi 214).1 h0 v h' 0 [(0, 15, 0)] [] h :=
  pat_w ok_sdX11_survey rkX11_survey h8 (foX11_survey n) (fun v1 h1 q => by
    cases q
    exact ⟨hG.1, fun _ => hG.2⟩) (List.forall_mem_cons.mpr ⟨(fun a c h H => by
      dsimp only at H
      split at H
      · exact sLX11_survey_2 h8 n _ _ H hG
      · cases H), (fun q9 h9 => by cases h9)⟩) ((eMX11_survey n h).symm.trans H)
theorem sndX11_survey {ρ : Type} {l : Launch} (n : Nat) : SndF (ρ := ρ) l false (mi 214).1 (wX11_survey n) := by
    intro a h k r H ha ho hn hf
    have h8 := hf rfl
    obtain ⟨x0, rfl⟩ := len1 (show a.length = 1 from ha)
    have u0 := uq15 hn (ho (15, x0) (List.mem_cons_self))
    subst u0
    replace H : bnd (MX11_survey n h) (fun r h2 => k r h2) = some r := H
    obtain ⟨v2, h2, H1, H2⟩ := bnd_some H
    exact ⟨v2, h2, H2, met_mk (mok_base okX11_survey).1 (by decide +kernel) (Nat.le_of_ble_eq_true rfl) ho (sMX11_survey h8 n  h H1 ⟨rfl, rfl⟩), fun q => by cases q⟩
/-! X11_run -/
def sdX11_run : SD := [(0, [(0, .iload_n 1, 1, [], 0), (1, .ifCond .lt 8, 3, [], 0)]),
  (4, [(4, .iload_n 1, 1, [], 0), (5, .iconst 4, 1, [], 0), (6, .if_icmp .le 5, 3, [], 0)]),
  (9, [(9, .iconst (-1), 1, [], 0), (10, .ireturn, 1, [], 0)]),
  (11, [(11, .aload_n 0, 1, [], 0), (12, .invokevirtual 255, 3, [1, 0, 1, 214, 1180, 15], 0), (15, .ifCond .eq 12, 3, [], 0)]),
  (18, [(18, .aload_n 0, 1, [], 0), (19, .getfield 93, 3, [11, 14, 60, 1, 704, 0], 112), (22, .iload_n 1, 1, [], 0), (23, .iaload, 1, [], 0), (24, .goto 5, 3, [], 0)]),
  (27, [(27, .bipush (-2), 2, [], 0)]),
  (29, [(29, .ireturn, 1, [], 0)])]
def MX11_run (n : Nat) (x1 : Int) (h : Hp) : Option (Int × Hp) :=
(if x1 < 0 then
(some ((-1), h))
else
(if x1 ≤ 4 then
(bnd (MX11_survey n h) fun r1 h1 =>
(if r1 = 0 then
(some ((-2), h1))
else
(grd (0 ≤ x1 ∧ x1 < alen 60)
(some ((h1 112 x1), h1)))))
else
(some ((-1), h))))
def wX11_run {ρ : Type} (n : Nat) : FN ρ := fun a h k => match a with
  | [_, x1] => bnd (MX11_run n x1 h) (fun r h2 => k r h2)
  | _ => none
def fsX11_run (n : Nat) (ρ : Type) : List (FN ρ) := [wX11_survey n]
def KMX11_run (_ : Nat) : CT (Int × Hp) := []
set_option maxRecDepth 100000 in
theorem eMX11_run (n : Nat) (x1 : Int) (h : Hp) : MX11_run n x1 h =
  goAt false (kct (KMX11_run n)) (fun v h => some ((v, h))) (fsX11_run n _) sdX11_run 1000 0 [(0, 15, 0), (1, 0, x1)] [] h := rfl
theorem okX11_run : mokb (mi 215) = true := by decide +kernel
theorem rkX11_run : rkOK 1 (mi 215).1.2.2.2.2.2.2.1 (mi 215).1.2.2.2.1 := Or.inr (Or.inl ⟨rfl, rfl, rfl⟩)
def calX11_run : List Nat := [214]
theorem foX11_run {l : Launch} {ρ : Type} (n : Nat) : fsOK l false mi calX11_run (fsX11_run n ρ) := ⟨(sndX11_survey n), trivial⟩
theorem ok_sdX11_run : sdb (mi 215).1.2.1 (insOK mi (mi 215).1.1.cls (mi 215).1.2.2.1 (mi 215).1.2.2.2.2.1 (mi 215).1.2.2.2.2.2.1 calX11_run false 1) sdX11_run = true := by decide +kernel
theorem sMX11_run {l : Launch} {h0 h' : Hp} {v : Int} (h8 : nOf h0 = 148) (n : Nat) (x1 : Int) (h : Hp) {r : Int × Hp} (H : MX11_run n x1 h = some r) (hG : gWV v h' r) : PAt l false (mi 215).1 h0 v h' 0 [(0, 15, 0), (1, 0, x1)] [] h :=
  pat_w ok_sdX11_run rkX11_run h8 (foX11_run n) (fun v1 h1 q => by
    cases q
    exact ⟨hG.1, fun _ => hG.2⟩) (fun q9 h9 => by cases h9) ((eMX11_run n x1 h).symm.trans H)
theorem sndX11_run {ρ : Type} {l : Launch} (n : Nat) : SndF (ρ := ρ) l false (mi 215).1 (wX11_run n) := by
    intro a h k r H ha ho hn hf
    have h8 := hf rfl
    obtain ⟨x0, x1, rfl⟩ := len2 (show a.length = 2 from ha)
    have u0 := uq15 hn (ho (15, x0) (List.mem_cons_self))
    subst u0
    replace H : bnd (MX11_run n x1 h) (fun r h2 => k r h2) = some r := H
    obtain ⟨v2, h2, H1, H2⟩ := bnd_some H
    exact ⟨v2, h2, H2, met_mk (mok_base okX11_run).1 (by decide +kernel) (Nat.le_of_ble_eq_true rfl) ho (sMX11_run h8 n x1 h H1 ⟨rfl, rfl⟩), fun q => by cases q⟩
