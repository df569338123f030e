/-! X12_isRight -/
def sdX12_isRight : SD := [(0, [(0, .aload_n 0, 1, [], 0), (1, .getfield 187, 3, [12, 22, 0, 0, 1344, 0], 0), (4, .iconst (-1), 1, [], 0), (5, .if_icmp .ne 7, 3, [], 0)]),
  (8, [(8, .iconst 1, 1, [], 0), (9, .goto 4, 3, [], 0)]),
  (12, [(12, .iconst 0, 1, [], 0)]),
  (13, [(13, .ireturn, 1, [1], 0)])]
def MX12_isRight (h : Hp) : Option (Int) :=
(if (h 113 22) ≠ (-1) then
(some 0)
else
(some 1))
def wX12_isRight {ρ : Type} : FN ρ := fun a h k => match a with
  | [_] => bndp (MX12_isRight h) (fun r => k r h)
  | _ => none
def fsX12_isRight (ρ : Type) : List (FN ρ) := []
def KMX12_isRight  : CT (Int) := []
set_option maxRecDepth 100000 in
theorem eMX12_isRight (h : Hp) : MX12_isRight h =
  goAt false (kct (KMX12_isRight)) (fun v _ => some (v)) (fsX12_isRight _) sdX12_isRight 1000 0 [(0, 16, 113)] [] h := rfl
theorem okX12_isRight : mokb (mi 78) = true := by decide +kernel
theorem rkX12_isRight : rkOK 4 (mi 78).1.2.2.2.2.2.2.1 (mi 78).1.2.2.2.1 := Or.inr (Or.inr (Or.inl ⟨rfl, rfl, rfl⟩))
def calX12_isRight : List Nat := []
theorem foX12_isRight {l : Launch} {ρ : Type} : fsOK l false mi calX12_isRight (fsX12_isRight ρ) := trivial
theorem frX12_isRight {ρ : Type} : ∀ fn ∈ fsX12_isRight ρ, RoF fn := (fun q9 h9 => by cases h9)
theorem ok_sdX12_isRight : sdb (mi 78).1.2.1 (insOK mi (mi 78).1.1.cls (mi 78).1.2.2.1 (mi 78).1.2.2.2.2.1 (mi 78).1.2.2.2.2.2.1 calX12_isRight false 4) sdX12_isRight = true := by decide +kernel
theorem sMX12_isRight {l : Launch} {h0 : Hp} {v : Int} (h8 : nOf h0 = 148)   (h : Hp) {r : Int} (H : MX12_isRight h = some r) (hG : gV v r) : PAt l false (mi 78).1 h0 v h 0 [(0, 16, 113)] [] h :=
  pat_ro ok_sdX12_isRight rfl rkX12_isRight h8 (foX12_isRight) (frX12_isRight) (fun v1 q => by
    cases q
    exact ⟨rfl, fun _ => hG⟩) (fun q9 h9 => by cases h9) ((eMX12_isRight h).symm.trans H)
theorem sndX12_isRight {ρ : Type} {l : Launch} : SndF (ρ := ρ) l false (mi 78).1 (wX12_isRight) := by
    intro a h k r H ha ho hn hf
    have h8 := hf rfl
    obtain ⟨x0, rfl⟩ := len1 (show a.length = 1 from ha)
    have u0 := uq16 hn (ho (16, x0) (List.mem_cons_self))
    subst u0
    replace H : bndp (MX12_isRight h) (fun r => k r h) = some r := H
    obtain ⟨v2, H1, H2⟩ := bndp_some H
    exact ⟨v2, h, H2, met_mk (mok_base okX12_isRight).1 (by decide +kernel) (Nat.le_of_ble_eq_true rfl) ho (sMX12_isRight h8  h H1 rfl), fun q => by cases q⟩
theorem roX12_isRight {ρ : Type} : RoF (wX12_isRight : FN ρ) := fun a h k k2 hk => by
  unfold wX12_isRight
  split
  · exact bndp_ro hk
  · rfl
/-! X12_sign -/
def sdX12_sign : SD := [(0, [(0, .aload_n 0, 1, [], 0), (1, .getfield 190, 3, [12, 21, 0, 0, 1343, 0], 0), (4, .aload_n 0, 1, [], 0), (5, .getfield 180, 3, [12, 20, 0, 0, 1342, 0], 0), (8, .if_icmp .ge 19, 3, [], 0)]),
  (11, [(11, .aload_n 0, 1, [], 0), (12, .getfield 52, 3, [12, 19, 3223, 1, 1341, 0], 14), (15, .aload_n 0, 1, [], 0), (16, .getfield 190, 3, [12, 21, 0, 0, 1343, 0], 0), (19, .baload, 1, [], 0), (20, .sipush 255, 3, [], 0), (23, .iand, 1, [], 0), (24, .goto 4, 3, [], 0)]),
  (27, [(27, .iconst (-1), 1, [], 0)]),
  (28, [(28, .ireturn, 1, [], 0)])]
def MX12_sign (h : Hp) : Option (Int) :=
(if (h 113 20) ≤ (h 113 21) then
(some (-1))
else
(grd (0 ≤ (h 113 21) ∧ (h 113 21) < alen 3223)
(some (iand (h 127 (h 113 21)) 255))))
def wX12_sign {ρ : Type} : FN ρ := fun a h k => match a with
  | [_] => bndp (MX12_sign h) (fun r => k r h)
  | _ => none
def fsX12_sign (ρ : Type) : List (FN ρ) := []
def KMX12_sign  : CT (Int) := []
set_option maxRecDepth 100000 in
theorem eMX12_sign (h : Hp) : MX12_sign h =
  goAt false (kct (KMX12_sign)) (fun v _ => some (v)) (fsX12_sign _) sdX12_sign 1000 0 [(0, 16, 113)] [] h := rfl
theorem okX12_sign : mokb (mi 79) = true := by decide +kernel
theorem rkX12_sign : rkOK 1 (mi 79).1.2.2.2.2.2.2.1 (mi 79).1.2.2.2.1 := Or.inr (Or.inl ⟨rfl, rfl, rfl⟩)
def calX12_sign : List Nat := []
theorem foX12_sign {l : Launch} {ρ : Type} : fsOK l false mi calX12_sign (fsX12_sign ρ) := trivial
theorem frX12_sign {ρ : Type} : ∀ fn ∈ fsX12_sign ρ, RoF fn := (fun q9 h9 => by cases h9)
theorem ok_sdX12_sign : sdb (mi 79).1.2.1 (insOK mi (mi 79).1.1.cls (mi 79).1.2.2.1 (mi 79).1.2.2.2.2.1 (mi 79).1.2.2.2.2.2.1 calX12_sign false 1) sdX12_sign = true := by decide +kernel
theorem sMX12_sign {l : Launch} {h0 : Hp} {v : Int} (h8 : nOf h0 = 148)   (h : Hp) {r : Int} (H : MX12_sign h = some r) (hG : gV v r) : PAt l false (mi 79).1 h0 v h 0 [(0, 16, 113)] [] h :=
  pat_ro ok_sdX12_sign rfl rkX12_sign h8 (foX12_sign) (frX12_sign) (fun v1 q => by
    cases q
    exact ⟨rfl, fun _ => hG⟩) (fun q9 h9 => by cases h9) ((eMX12_sign h).symm.trans H)
theorem sndX12_sign {ρ : Type} {l : Launch} : SndF (ρ := ρ) l false (mi 79).1 (wX12_sign) := by
    intro a h k r H ha ho hn hf
    have h8 := hf rfl
    obtain ⟨x0, rfl⟩ := len1 (show a.length = 1 from ha)
    have u0 := uq16 hn (ho (16, x0) (List.mem_cons_self))
    subst u0
    replace H : bndp (MX12_sign h) (fun r => k r h) = some r := H
    obtain ⟨v2, H1, H2⟩ := bndp_some H
    exact ⟨v2, h, H2, met_mk (mok_base okX12_sign).1 (by decide +kernel) (Nat.le_of_ble_eq_true rfl) ho (sMX12_sign h8  h H1 rfl), fun q => by cases q⟩
theorem roX12_sign {ρ : Type} : RoF (wX12_sign : FN ρ) := fun a h k k2 hk => by
  unfold wX12_sign
  split
  · exact bndp_ro hk
  · rfl
/-! X12_next -/
def sdX12_next : SD := [(0, [(0, .aload_n 0, 1, [], 0), (1, .invokevirtual 193, 3, [1, 0, 1, 79, 1543, 16], 0), (4, .bipush 32, 2, [], 0), (6, .if_icmp .eq 12, 3, [], 0)]),
  (9, [(9, .aload_n 0, 1, [], 0), (10, .invokevirtual 193, 3, [1, 0, 1, 79, 1543, 16], 0), (13, .bipush 10, 2, [], 0), (15, .if_icmp .ne 16, 3, [], 0)]),
  (18, [(18, .aload_n 0, 1, [], 0), (19, .dup, 1, [], 0), (20, .getfield 190, 3, [12, 21, 0, 0, 1343, 0], 0), (23, .iconst 1, 1, [], 0), (24, .iadd, 1, [], 0), (25, .putfield 190, 3, [12, 21, 0, 0, 0, 1343], 0), (28, .goto (-28), 3, [], 0)]),
  (31, [(31, .aload_n 0, 1, [], 0), (32, .invokevirtual 193, 3, [1, 0, 1, 79, 1543, 16], 0), (35, .ireturn, 1, [], 0)])]
def JX12_next_18 (n : Nat) (bk : Hp → Option (Int × Hp)) (h : Hp) : Option (Int × Hp) :=
(ltt (up h 113 21 (w32 ((h 113 21) + 1))) fun h1 =>
(bk h1))
def BX12_next_0 (n : Nat) : Nat → Hp → Option (Int × Hp)
  | 0, _ => none
  | f + 1, h =>
    (bndp (MX12_sign h) fun r1 =>
    (if r1 = 32 then
    (JX12_next_18 n (BX12_next_0 n f) h)
    else
    (bndp (MX12_sign h) fun r2 =>
    (if r2 ≠ 10 then
    (bndp (MX12_sign h) fun r3 =>
    (some (r3, h)))
    else
    (JX12_next_18 n (BX12_next_0 n f) h)))))
def LX12_next_0 (n : Nat) (h : Hp) : Option (Int × Hp) :=
(BX12_next_0 n n h)
def MX12_next (n : Nat) (h : Hp) : Option (Int × Hp) :=
(LX12_next_0 n h)
def wX12_next {ρ : Type} (n : Nat) : FN ρ := fun a h k => match a with
  | [_] => bnd (MX12_next n h) (fun r h2 => k r h2)
  | _ => none
def fsX12_next (n : Nat) (ρ : Type) : List (FN ρ) := [wX12_sign]
def KJX12_next_18 (_ : Nat) (bk : Hp → Option (Int × Hp)) : CT (Int × Hp) := [(0, [(0, 16, (some 113))], [], fun a c h => match a, c with
    | [], [] => bk h
    | _, _ => none)]
set_option maxRecDepth 100000 in
theorem eJX12_next_18 (n : Nat) (bk : Hp → Option (Int × Hp)) (h : Hp) : JX12_next_18 n bk h =
  goAt false (kct (KJX12_next_18 n bk)) (fun v h => some ((v, h))) (fsX12_next n _) sdX12_next 1000 18 [(0, 16, 113)] [] h := rfl
def KBX12_next_0 (n : Nat) (bk : Hp → Option (Int × Hp)) : CT (Int × Hp) := [(0, [(0, 16, (some 113))], [], fun a c h => match a, c with
    | [], [] => bk h
    | _, _ => none),
  (18, [(0, 16, (some 113))], [], fun a c h => match a, c with
    | [], [] => JX12_next_18 n bk h
    | _, _ => none)]
set_option maxRecDepth 100000 in
theorem eBX12_next_0 (n f : Nat) (h : Hp) : BX12_next_0 n (f + 1) h =
  goAt false (kct (KBX12_next_0 n (BX12_next_0 n f))) (fun v h => some ((v, h))) (fsX12_next n _) sdX12_next 1000 0 [(0, 16, 113)] [] h := rfl
theorem okX12_next : mokb (mi 80) = true := by decide +kernel
theorem rkX12_next : rkOK 1 (mi 80).1.2.2.2.2.2.2.1 (mi 80).1.2.2.2.1 := Or.inr (Or.inl ⟨rfl, rfl, rfl⟩)
def calX12_next : List Nat := [79]
theorem foX12_next {l : Launch} {ρ : Type} (n : Nat) : fsOK l false mi calX12_next (fsX12_next n ρ) := ⟨sndX12_sign, trivial⟩
theorem ok_sdX12_next : sdb (mi 80).1.2.1 (insOK mi (mi 80).1.1.cls (mi 80).1.2.2.1 (mi 80).1.2.2.2.2.1 (mi 80).1.2.2.2.2.2.1 calX12_next false 1) sdX12_next = true := by decide +kernel
theorem sJX12_next_18 {l : Launch} {h0 h' : Hp} {v : Int} (h8 : nOf h0 = 148) (n : Nat) (bk : Hp → Option (Int × Hp)) (hbk : ∀ (h : Hp) (r : Int × Hp), bk h = some r → gWV v h' r → PAt l false (mi 80).1 h0 v h' 0 [(0, 16, 113)] [] h)  (h : Hp) {r : Int × Hp} (H : JX12_next_18 n bk h = some r) (hG : gWV v h' r) : PAt l false (mi 80).1 h0 v h' 18 [(0, 16, 113)] [] h :=
  pat_w ok_sdX12_next rkX12_next h8 (foX12_next n) (fun v1 h1 q => by
    cases q
    exact ⟨hG.1, fun _ => hG.2⟩) (List.forall_mem_cons.mpr ⟨(fun a c h H => by
      dsimp only at H
      split at H
      · exact hbk _ _ H hG
      · cases H), (fun q9 h9 => by cases h9)⟩) ((eJX12_next_18 n bk h).symm.trans H)
theorem sBX12_next_0 {l : Launch} {h0 h' : Hp} {v : Int} (h8 : nOf h0 = 148) (n : Nat) : ∀ (f : Nat)  (h : Hp) {r : Int × Hp}, BX12_next_0 n f h = some r → gWV v h' r → PAt l false (mi 80).1 h0 v h' 0 [(0, 16, 113)] [] h := by
  intro f
  induction f with
  | zero =>
    intro h r H _
    have H2 : (none : Option (Int × Hp)) = some r := H
    cases H2
  | succ f ih =>
    intro h r H hG
    have ihk : ∀  (h : Hp) (r : Int × Hp), BX12_next_0 n f h = some r → gWV v h' r → PAt l false (mi 80).1 h0 v h' 0 [(0, 16, 113)] [] h := fun h r9 a9 b9 => ih h a9 b9
    exact pat_w ok_sdX12_next rkX12_next h8 (foX12_next n) (fun v1 h1 q => by
    cases q
    exact ⟨hG.1, fun _ => hG.2⟩) (List.forall_mem_cons.mpr ⟨(fun a c h H => by
      dsimp only at H
      split at H
      · exact ih _ H hG
      · cases H), (List.forall_mem_cons.mpr ⟨(fun a c h H => by
      dsimp only at H
      split at H
      · exact sJX12_next_18 h8 n (BX12_next_0 n f) ihk _ H hG
      · cases H), (fun q9 h9 => by cases h9)⟩)⟩) ((eBX12_next_0 n f  h).symm.trans H)
theorem sLX12_next_0 {l : Launch} {h0 h' : Hp} {v : Int} (h8 : nOf h0 = 148) (n : Nat)  (h : Hp) {r : Int × Hp} (H : LX12_next_0 n h = some r) (hG : gWV v h' r) : PAt l false (mi 80).1 h0 v h' 0 [(0, 16, 113)] [] h :=
  sBX12_next_0 h8 n n h H hG
theorem sMX12_next {l : Launch} {h0 h' : Hp} {v : Int} (h8 : nOf h0 = 148) (n : Nat)  (h : Hp) {r : Int × Hp} (H : MX12_next n h = some r) (hG : gWV v h' r) : PAt l false (mi 80).1 h0 v h' 0 [(0, 16, 113)] [] h :=
  (sLX12_next_0 h8 n h H hG).weak (fun q9 h9 => by
    simp only [List.mem_cons, List.mem_nil_iff, or_false] at h9 ⊢
    first | exact Or.inl h9 | exact h9 | omega)
theorem sndX12_next {ρ : Type} {l : Launch} (n : Nat) : SndF (ρ := ρ) l false (mi 80).1 (wX12_next n) := by
    intro a h k r H ha ho hn hf
    have h8 := hf rfl
    obtain ⟨x0, rfl⟩ := len1 (show a.length = 1 from ha)
    have u0 := uq16 hn (ho (16, x0) (List.mem_cons_self))
    subst u0
    replace H : bnd (MX12_next n h) (fun r h2 => k r h2) = some r := H
    obtain ⟨v2, h2, H1, H2⟩ := bnd_some H
    exact ⟨v2, h2, H2, met_mk (mok_base okX12_next).1 (by decide +kernel) (Nat.le_of_ble_eq_true rfl) ho (sMX12_next h8 n  h H1 ⟨rfl, rfl⟩), fun q => by cases q⟩
/-! X12_in -/
def sdX12_in : SD := [(0, [(0, .lload_n 0, 1, [], 0), (1, .lload_n 2, 1, [], 0), (2, .lcmp, 1, [], 0), (3, .ifCond .lt 14, 3, [], 0)]),
  (6, [(6, .lload_n 0, 1, [], 0), (7, .lload 4, 2, [], 0), (9, .lcmp, 1, [], 0), (10, .ifCond .gt 7, 3, [], 0)]),
  (13, [(13, .iconst 1, 1, [], 0), (14, .goto 4, 3, [], 0)]),
  (17, [(17, .iconst 0, 1, [], 0)]),
  (18, [(18, .ireturn, 1, [1], 0)])]
def MX12_in (x0 x2 x4 : Int) : Option (Int) :=
(if (lcp x0 x2) < 0 then
(some 0)
else
(if 0 < (lcp x0 x4) then
(some 0)
else
(some 1)))
def wX12_in {ρ : Type} : FN ρ := fun a h k => match a with
  | [x0, x2, x4] => bndp (MX12_in x0 x2 x4) (fun r => k r h)
  | _ => none
def fsX12_in (ρ : Type) : List (FN ρ) := []
def KMX12_in  : CT (Int) := []
set_option maxRecDepth 100000 in
theorem eMX12_in (x0 : Int) (x2 : Int) (x4 : Int) (h : Hp) : MX12_in x0 x2 x4 =
  goAt false (kct (KMX12_in)) (fun v _ => some (v)) (fsX12_in _) sdX12_in 1000 0 [(0, 1, x0), (2, 1, x2), (4, 1, x4)] [] h := rfl
theorem okX12_in : mokb (mi 81) = true := by decide +kernel
theorem rkX12_in : rkOK 4 (mi 81).1.2.2.2.2.2.2.1 (mi 81).1.2.2.2.1 := Or.inr (Or.inr (Or.inl ⟨rfl, rfl, rfl⟩))
def calX12_in : List Nat := []
theorem foX12_in {l : Launch} {ρ : Type} : fsOK l false mi calX12_in (fsX12_in ρ) := trivial
theorem frX12_in {ρ : Type} : ∀ fn ∈ fsX12_in ρ, RoF fn := (fun q9 h9 => by cases h9)
theorem ok_sdX12_in : sdb (mi 81).1.2.1 (insOK mi (mi 81).1.1.cls (mi 81).1.2.2.1 (mi 81).1.2.2.2.2.1 (mi 81).1.2.2.2.2.2.1 calX12_in false 4) sdX12_in = true := by decide +kernel
theorem sMX12_in {l : Launch} {h0 : Hp} {v : Int} (h8 : nOf h0 = 148)  (x0 : Int) (x2 : Int) (x4 : Int) (h : Hp) {r : Int} (H : MX12_in x0 x2 x4 = some r) (hG : gV v r) : PAt l false (mi 81).1 h0 v h 0 [(0, 1, x0), (2, 1, x2), (4, 1, x4)] [] h :=
  pat_ro ok_sdX12_in rfl rkX12_in h8 (foX12_in) (frX12_in) (fun v1 q => by
    cases q
    exact ⟨rfl, fun _ => hG⟩) (fun q9 h9 => by cases h9) ((eMX12_in x0 x2 x4 h).symm.trans H)
theorem sndX12_in {ρ : Type} {l : Launch} : SndF (ρ := ρ) l false (mi 81).1 (wX12_in) := by
    intro a h k r H ha ho hn hf
    have h8 := hf rfl
    obtain ⟨x0, x2, x4, rfl⟩ := len3 (show a.length = 3 from ha)
    replace H : bndp (MX12_in x0 x2 x4) (fun r => k r h) = some r := H
    obtain ⟨v2, H1, H2⟩ := bndp_some H
    exact ⟨v2, h, H2, met_mk (mok_base okX12_in).1 (by decide +kernel) (Nat.le_of_ble_eq_true rfl) ho (sMX12_in h8 x0 x2 x4 h H1 rfl), fun q => by cases q⟩
theorem roX12_in {ρ : Type} : RoF (wX12_in : FN ρ) := fun a h k k2 hk => by
  unfold wX12_in
  split
  · exact bndp_ro hk
  · rfl
/-! X12_wordLength -/
def sdX12_wordLength : SD := [(0, [(0, .iconst 0, 1, [], 0), (1, .istore_n 1, 1, [], 0)]),
  (2, [(2, .aload_n 0, 1, [], 0), (3, .getfield 190, 3, [12, 21, 0, 0, 1343, 0], 0), (6, .iload_n 1, 1, [], 0), (7, .iadd, 1, [], 0), (8, .aload_n 0, 1, [], 0), (9, .getfield 180, 3, [12, 20, 0, 0, 1342, 0], 0), (12, .if_icmp .ge 33, 3, [], 0)]),
  (15, [(15, .aload_n 0, 1, [], 0), (16, .getfield 52, 3, [12, 19, 3223, 1, 1341, 0], 14), (19, .aload_n 0, 1, [], 0), (20, .getfield 190, 3, [12, 21, 0, 0, 1343, 0], 0), (23, .iload_n 1, 1, [], 0), (24, .iadd, 1, [], 0), (25, .baload, 1, [], 0), (26, .i2l, 1, [], 0), (27, .ldc2_w 213, 3, [1, 1559], 97), (30, .ldc2_w 215, 3, [1, 1560], 122), (33, .invokestatic 217, 3, [1, 0, 3, 81, 1561, 1, 1, 1], 0), (36, .ifCond .eq 9, 3, [], 0)]),
  (39, [(39, .iinc 1 1, 3, [], 0), (42, .goto (-40), 3, [], 0)]),
  (45, [(45, .iload_n 1, 1, [], 0), (46, .ireturn, 1, [], 0)])]
def BX12_wordLength_2 (n : Nat) : Nat → Int → Hp → Option (Int)
  | 0, _, _ => none
  | f + 1, x1, h =>
    (if (h 113 20) ≤ (w32 ((h 113 21) + x1)) then
    (some x1)
    else
    (grd (0 ≤ (w32 ((h 113 21) + x1)) ∧ (w32 ((h 113 21) + x1)) < alen 3223)
    (bndp (MX12_in (h 127 (w32 ((h 113 21) + x1))) 97 122) fun r1 =>
    (if r1 = 0 then
    (some x1)
    else
    (ltt (w32 (x1 + 1)) fun y1 =>
    (BX12_wordLength_2 n f y1 h))))))
def LX12_wordLength_2 (n : Nat) (x1 : Int) (h : Hp) : Option (Int) :=
(BX12_wordLength_2 n n x1 h)
def MX12_wordLength (n : Nat) (h : Hp) : Option (Int) :=
(ltt 0 fun y1 =>
(LX12_wordLength_2 n y1 h))
def wX12_wordLength {ρ : Type} (n : Nat) : FN ρ := fun a h k => match a with
  | [_] => bndp (MX12_wordLength n h) (fun r => k r h)
  | _ => none
def fsX12_wordLength (n : Nat) (ρ : Type) : List (FN ρ) := [wX12_in]
def KBX12_wordLength_2 (_ : Nat) (bk : Int → Hp → Option (Int)) : CT (Int) := [(2, [(0, 16, (some 113)), (1, 0, none)], [], fun a c h => match a, c with
    | [x1], [] => bk x1 h
    | _, _ => none)]
set_option maxRecDepth 100000 in
theorem eBX12_wordLength_2 (n f : Nat) (x1 : Int) (h : Hp) : BX12_wordLength_2 n (f + 1) x1 h =
  goAt false (kct (KBX12_wordLength_2 n (BX12_wordLength_2 n f))) (fun v _ => some (v)) (fsX12_wordLength n _) sdX12_wordLength 1000 2 [(0, 16, 113), (1, 0, x1)] [] h := rfl
def KMX12_wordLength (n : Nat) : CT (Int) := [(2, [(0, 16, (some 113)), (1, 0, none)], [], fun a c h => match a, c with
    | [x1], [] => LX12_wordLength_2 n x1 h
    | _, _ => none)]
set_option maxRecDepth 100000 in
theorem eMX12_wordLength (n : Nat) (h : Hp) : MX12_wordLength n h =
  goAt false (kct (KMX12_wordLength n)) (fun v _ => some (v)) (fsX12_wordLength n _) sdX12_wordLength 1000 0 [(0, 16, 113)] [] h := rfl
theorem okX12_wordLength : mokb (mi 82) = true := by decide +kernel
theorem rkX12_wordLength : rkOK 1 (mi 82).1.2.2.2.2.2.2.1 (mi 82).1.2.2.2.1 := Or.inr (Or.inl ⟨rfl, rfl, rfl⟩)
def calX12_wordLength : List Nat := [81]
theorem foX12_wordLength {l : Launch} {ρ : Type} (n : Nat) : fsOK l false mi calX12_wordLength (fsX12_wordLength n ρ) := ⟨sndX12_in, trivial⟩
theorem frX12_wordLength {ρ : Type} (n : Nat) : ∀ fn ∈ fsX12_wordLength n ρ, RoF fn := (List.forall_mem_cons.mpr ⟨roX12_in, (fun q9 h9 => by cases h9)⟩)
theorem ok_sdX12_wordLength : sdb (mi 82).1.2.1 (insOK mi (mi 82).1.1.cls (mi 82).1.2.2.1 (mi 82).1.2.2.2.2.1 (mi 82).1.2.2.2.2.2.1 calX12_wordLength false 1) sdX12_wordLength = true := by decide +kernel
theorem sBX12_wordLength_2 {l : Launch} {h0 : Hp} {v : Int} (h8 : nOf h0 = 148) (n : Nat) (h : Hp) : ∀ (f : Nat) (x1 : Int) {r : Int}, BX12_wordLength_2 n f x1 h = some r → gV v r → PAt l false (mi 82).1 h0 v h 2 [(0, 16, 113), (1, 0, x1)] [] h := by
  intro f
  induction f with
  | zero =>
    intro x1 r H _
    have H2 : (none : Option (Int)) = some r := H
    cases H2
  | succ f ih =>
    intro x1 r H hG
    exact pat_ro ok_sdX12_wordLength rfl rkX12_wordLength h8 (foX12_wordLength n) (frX12_wordLength n) (fun v1 q => by
    cases q
    exact ⟨rfl, fun _ => hG⟩) (List.forall_mem_cons.mpr ⟨(fun a c H => by
      dsimp only at H
      split at H
      · exact ih _ H hG
      · cases H), (fun q9 h9 => by cases h9)⟩) ((eBX12_wordLength_2 n f x1 h).symm.trans H)
theorem sLX12_wordLength_2 {l : Launch} {h0 : Hp} {v : Int} (h8 : nOf h0 = 148) (n : Nat) (x1 : Int) (h : Hp) {r : Int} (H : LX12_wordLength_2 n x1 h = some r) (hG : gV v r) : PAt l false (mi 82).1 h0 v h 2 [(0, 16, 113), (1, 0, x1)] [] h :=
  sBX12_wordLength_2 h8 n h n x1 H hG
theorem sMX12_wordLength {l : Launch} {h0 : Hp} {v : Int} (h8 : nOf h0 = 148) (n : Nat)  (h : Hp) {r : Int} (H : MX12_wordLength n h = some r) (hG : gV v r) : PAt l false (mi 82).1 h0 v h 0 [(0, 16, 113)] [] h :=
  pat_ro ok_sdX12_wordLength rfl rkX12_wordLength h8 (foX12_wordLength n) (frX12_wordLength n) (fun v1 q => by
    cases q
    exact ⟨rfl, fun _ => hG⟩) (List.forall_mem_cons.mpr ⟨(fun a c H => by
      dsimp only at H
      split at H
      · exact sLX12_wordLength_2 h8 n _ _ H hG
      · cases H), (fun q9 h9 => by cases h9)⟩) ((eMX12_wordLength n h).symm.trans H)
theorem sndX12_wordLength {ρ : Type} {l : Launch} (n : Nat) : SndF (ρ := ρ) l false (mi 82).1 (wX12_wordLength n) := by
    intro a h k r H ha ho hn hf
    have h8 := hf rfl
    obtain ⟨x0, rfl⟩ := len1 (show a.length = 1 from ha)
    have u0 := uq16 hn (ho (16, x0) (List.mem_cons_self))
    subst u0
    replace H : bndp (MX12_wordLength n h) (fun r => k r h) = some r := H
    obtain ⟨v2, H1, H2⟩ := bndp_some H
    exact ⟨v2, h, H2, met_mk (mok_base okX12_wordLength).1 (by decide +kernel) (Nat.le_of_ble_eq_true rfl) ho (sMX12_wordLength h8 n  h H1 rfl), fun q => by cases q⟩
theorem roX12_wordLength {ρ : Type} (n : Nat) : RoF (wX12_wordLength n : FN ρ) := fun a h k k2 hk => by
  unfold wX12_wordLength
  split
  · exact bndp_ro hk
  · rfl
/-! X12_wordOf -/
def sdX12_wordOf : SD := [(0, [(0, .iload_n 0, 1, [], 0), (1, .tableswitch 64 0 6 #[43, 46, 49, 52, 55, 58, 61], 43, [], 0)]),
  (44, [(44, .ldc 197, 2, [2, 1567], 0), (46, .areturn, 1, [], 0)]),
  (47, [(47, .ldc 199, 2, [2, 1568], 1), (49, .areturn, 1, [], 0)]),
  (50, [(50, .ldc 201, 2, [2, 1569], 2), (52, .areturn, 1, [], 0)]),
  (53, [(53, .ldc 203, 2, [2, 1570], 3), (55, .areturn, 1, [], 0)]),
  (56, [(56, .ldc 205, 2, [2, 1571], 4), (58, .areturn, 1, [], 0)]),
  (59, [(59, .ldc 207, 2, [2, 1572], 5), (61, .areturn, 1, [], 0)]),
  (62, [(62, .ldc 209, 2, [2, 1573], 6), (64, .areturn, 1, [], 0)]),
  (65, [(65, .ldc 211, 2, [2, 1574], 7), (67, .areturn, 1, [], 0)])]
def MX12_wordOf (x0 : Int) : Option (Int) :=
(if x0 = 0 then
(some 0)
else
(if x0 = 1 then
(some 1)
else
(if x0 = 2 then
(some 2)
else
(if x0 = 3 then
(some 3)
else
(if x0 = 4 then
(some 4)
else
(if x0 = 5 then
(some 5)
else
(if x0 = 6 then
(some 6)
else
(some 7))))))))
def wX12_wordOf {ρ : Type} : FN ρ := fun a h k => match a with
  | [x0] => bndp (MX12_wordOf x0) (fun r => k r h)
  | _ => none
def fsX12_wordOf (ρ : Type) : List (FN ρ) := []
def KMX12_wordOf  : CT (Int) := []
set_option maxRecDepth 100000 in
theorem eMX12_wordOf (x0 : Int) (h : Hp) : MX12_wordOf x0 =
  goAt false (kct (KMX12_wordOf)) (fun v _ => some (v)) (fsX12_wordOf _) sdX12_wordOf 1000 0 [(0, 0, x0)] [] h := rfl
theorem okX12_wordOf : mokb (mi 83) = true := by decide +kernel
theorem rkX12_wordOf : rkOK 3 (mi 83).1.2.2.2.2.2.2.1 (mi 83).1.2.2.2.1 := Or.inr (Or.inr (Or.inr (Or.inr ⟨rfl, rfl, _, rfl⟩)))
def calX12_wordOf : List Nat := []
theorem foX12_wordOf {l : Launch} {ρ : Type} : fsOK l false mi calX12_wordOf (fsX12_wordOf ρ) := trivial
theorem frX12_wordOf {ρ : Type} : ∀ fn ∈ fsX12_wordOf ρ, RoF fn := (fun q9 h9 => by cases h9)
theorem ok_sdX12_wordOf : sdb (mi 83).1.2.1 (insOK mi (mi 83).1.1.cls (mi 83).1.2.2.1 (mi 83).1.2.2.2.2.1 (mi 83).1.2.2.2.2.2.1 calX12_wordOf false 3) sdX12_wordOf = true := by decide +kernel
theorem sMX12_wordOf {l : Launch} {h0 : Hp} {v : Int} (h8 : nOf h0 = 148)  (x0 : Int) (h : Hp) {r : Int} (H : MX12_wordOf x0 = some r) (hG : gV v r) : PAt l false (mi 83).1 h0 v h 0 [(0, 0, x0)] [] h :=
  pat_ro ok_sdX12_wordOf rfl rkX12_wordOf h8 (foX12_wordOf) (frX12_wordOf) (fun v1 q => by
    cases q
    exact ⟨rfl, fun _ => hG⟩) (fun q9 h9 => by cases h9) ((eMX12_wordOf x0 h).symm.trans H)
theorem sndX12_wordOf {ρ : Type} {l : Launch} : SndF (ρ := ρ) l false (mi 83).1 (wX12_wordOf) := by
    intro a h k r H ha ho hn hf
    have h8 := hf rfl
    obtain ⟨x0, rfl⟩ := len1 (show a.length = 1 from ha)
    replace H : bndp (MX12_wordOf x0) (fun r => k r h) = some r := H
    obtain ⟨v2, H1, H2⟩ := bndp_some H
    exact ⟨v2, h, H2, met_mk (mok_base okX12_wordOf).1 (by decide +kernel) (Nat.le_of_ble_eq_true rfl) ho (sMX12_wordOf h8 x0 h H1 rfl), fun q => by cases q⟩
theorem roX12_wordOf {ρ : Type} : RoF (wX12_wordOf : FN ρ) := fun a h k k2 hk => by
  unfold wX12_wordOf
  split
  · exact bndp_ro hk
  · rfl
/-! X12_fails -/
def sdX12_fails : SD := [(0, [(0, .aload_n 0, 1, [], 0), (1, .getfield 187, 3, [12, 22, 0, 0, 1344, 0], 0), (4, .iconst (-1), 1, [], 0), (5, .if_icmp .ne 13, 3, [], 0)]),
  (8, [(8, .aload_n 0, 1, [], 0), (9, .bipush 8, 2, [], 0), (11, .iload_n 2, 1, [], 0), (12, .imul, 1, [], 0), (13, .iload_n 1, 1, [], 0), (14, .iadd, 1, [], 0), (15, .putfield 187, 3, [12, 22, 0, 0, 0, 1344], 0)]),
  (18, [(18, .return_, 1, [], 0)])]
def MX12_fails (x1 x2 : Int) (h : Hp) : Option (Hp) :=
(if (h 113 22) ≠ (-1) then
(some h)
else
(ltt (up h 113 22 (w32 ((w32 (8 * x2)) + x1))) fun h1 =>
(some h1)))
def wX12_fails {ρ : Type} : FN ρ := fun a h k => match a with
  | [_, x1, x2] => bndh (MX12_fails x1 x2 h) (fun h2 => k 0 h2)
  | _ => none
def fsX12_fails (ρ : Type) : List (FN ρ) := []
def KMX12_fails  : CT (Hp) := []
set_option maxRecDepth 100000 in
theorem eMX12_fails (x1 : Int) (x2 : Int) (h : Hp) : MX12_fails x1 x2 h =
  goAt false (kct (KMX12_fails)) (fun _ h => some (h)) (fsX12_fails _) sdX12_fails 1000 0 [(0, 16, 113), (1, 0, x1), (2, 0, x2)] [] h := rfl
theorem okX12_fails : mokb (mi 85) = true := by decide +kernel
theorem rkX12_fails : rkOK 0 (mi 85).1.2.2.2.2.2.2.1 (mi 85).1.2.2.2.1 := Or.inl ⟨rfl, rfl, rfl⟩
def calX12_fails : List Nat := []
theorem foX12_fails {l : Launch} {ρ : Type} : fsOK l false mi calX12_fails (fsX12_fails ρ) := trivial
theorem ok_sdX12_fails : sdb (mi 85).1.2.1 (insOK mi (mi 85).1.1.cls (mi 85).1.2.2.1 (mi 85).1.2.2.2.2.1 (mi 85).1.2.2.2.2.2.1 calX12_fails false 0) sdX12_fails = true := by decide +kernel
theorem sMX12_fails {l : Launch} {h0 h' : Hp} {v : Int} (h8 : nOf h0 = 148)  (x1 : Int) (x2 : Int) (h : Hp) {r : Hp} (H : MX12_fails x1 x2 h = some r) (hG : gW h' r) : PAt l false (mi 85).1 h0 v h' 0 [(0, 16, 113), (1, 0, x1), (2, 0, x2)] [] h :=
  pat_w ok_sdX12_fails rkX12_fails h8 (foX12_fails) (fun v1 h1 q => by
    cases q
    exact ⟨hG, fun q9 => absurd rfl q9⟩) (fun q9 h9 => by cases h9) ((eMX12_fails x1 x2 h).symm.trans H)
theorem sndX12_fails {ρ : Type} {l : Launch} : SndF (ρ := ρ) l false (mi 85).1 (wX12_fails) := by
    intro a h k r H ha ho hn hf
    have h8 := hf rfl
    obtain ⟨x0, x1, x2, rfl⟩ := len3 (show a.length = 3 from ha)
    have u0 := uq16 hn (ho (16, x0) (List.mem_cons_self))
    subst u0
    replace H : bndh (MX12_fails x1 x2 h) (fun h2 => k 0 h2) = some r := H
    obtain ⟨h2, H1, H2⟩ := bndh_some H
    exact ⟨0, h2, H2, met_mk (mok_base okX12_fails).1 (by decide +kernel) (Nat.le_of_ble_eq_true rfl) ho (sMX12_fails h8 x1 x2 h H1 rfl), fun q => by cases q⟩
/-! X12_isDigit -/
def sdX12_isDigit : SD := [(0, [(0, .aload_n 0, 1, [], 0), (1, .invokevirtual 193, 3, [1, 0, 1, 79, 1543, 16], 0), (4, .i2l, 1, [], 0), (5, .ldc2_w 236, 3, [1, 1593], 48), (8, .ldc2_w 238, 3, [1, 1594], 57), (11, .invokestatic 217, 3, [1, 1, 3, 81, 1561, 1, 1, 1], 0), (14, .ireturn, 1, [1], 0)])]
def MX12_isDigit (h : Hp) : Option (Int) :=
(bndp (MX12_sign h) fun r1 =>
(bndp (MX12_in r1 48 57) fun r2 =>
(grd (r2 = 0 ∨ r2 = 1)
(some r2))))
def wX12_isDigit {ρ : Type} : FN ρ := fun a h k => match a with
  | [_] => bndp (MX12_isDigit h) (fun r => k r h)
  | _ => none
def fsX12_isDigit (ρ : Type) : List (FN ρ) := [wX12_sign, wX12_in]
def KMX12_isDigit  : CT (Int) := []
set_option maxRecDepth 100000 in
theorem eMX12_isDigit (h : Hp) : MX12_isDigit h =
  goAt false (kct (KMX12_isDigit)) (fun v _ => some (v)) (fsX12_isDigit _) sdX12_isDigit 1000 0 [(0, 16, 113)] [] h := rfl
theorem okX12_isDigit : mokb (mi 86) = true := by decide +kernel
theorem rkX12_isDigit : rkOK 4 (mi 86).1.2.2.2.2.2.2.1 (mi 86).1.2.2.2.1 := Or.inr (Or.inr (Or.inl ⟨rfl, rfl, rfl⟩))
def calX12_isDigit : List Nat := [79, 81]
theorem foX12_isDigit {l : Launch} {ρ : Type} : fsOK l false mi calX12_isDigit (fsX12_isDigit ρ) := ⟨sndX12_sign, ⟨sndX12_in, trivial⟩⟩
theorem frX12_isDigit {ρ : Type} : ∀ fn ∈ fsX12_isDigit ρ, RoF fn := (List.forall_mem_cons.mpr ⟨roX12_sign, (List.forall_mem_cons.mpr ⟨roX12_in, (fun q9 h9 => by cases h9)⟩)⟩)
theorem ok_sdX12_isDigit : sdb (mi 86).1.2.1 (insOK mi (mi 86).1.1.cls (mi 86).1.2.2.1 (mi 86).1.2.2.2.2.1 (mi 86).1.2.2.2.2.2.1 calX12_isDigit false 4) sdX12_isDigit = true := by decide +kernel
theorem sMX12_isDigit {l : Launch} {h0 : Hp} {v : Int} (h8 : nOf h0 = 148)   (h : Hp) {r : Int} (H : MX12_isDigit h = some r) (hG : gV v r) : PAt l false (mi 86).1 h0 v h 0 [(0, 16, 113)] [] h :=
  pat_ro ok_sdX12_isDigit rfl rkX12_isDigit h8 (foX12_isDigit) (frX12_isDigit) (fun v1 q => by
    cases q
    exact ⟨rfl, fun _ => hG⟩) (fun q9 h9 => by cases h9) ((eMX12_isDigit h).symm.trans H)
theorem sndX12_isDigit {ρ : Type} {l : Launch} : SndF (ρ := ρ) l false (mi 86).1 (wX12_isDigit) := by
    intro a h k r H ha ho hn hf
    have h8 := hf rfl
    obtain ⟨x0, rfl⟩ := len1 (show a.length = 1 from ha)
    have u0 := uq16 hn (ho (16, x0) (List.mem_cons_self))
    subst u0
    replace H : bndp (MX12_isDigit h) (fun r => k r h) = some r := H
    obtain ⟨v2, H1, H2⟩ := bndp_some H
    exact ⟨v2, h, H2, met_mk (mok_base okX12_isDigit).1 (by decide +kernel) (Nat.le_of_ble_eq_true rfl) ho (sMX12_isDigit h8  h H1 rfl), fun q => by cases q⟩
theorem roX12_isDigit {ρ : Type} : RoF (wX12_isDigit : FN ρ) := fun a h k k2 hk => by
  unfold wX12_isDigit
  split
  · exact bndp_ro hk
  · rfl
/-! X12_number -/
def sdX12_number : SD := [(0, [(0, .aload_n 0, 1, [], 0), (1, .invokevirtual 240, 3, [1, 0, 1, 78, 1535, 16], 0), (4, .ifCond .ne 5, 3, [], 0)]),
  (7, [(7, .iconst 0, 1, [], 0), (8, .ireturn, 1, [], 0)]),
  (9, [(9, .aload_n 0, 1, [], 0), (10, .invokevirtual 244, 3, [1, 1, 1, 80, 1539, 16], 0), (13, .istore_n 3, 1, [], 0), (14, .iload_n 3, 1, [], 0), (15, .bipush 45, 2, [], 0), (17, .if_icmp .ne 22, 3, [], 0)]),
  (20, [(20, .iload_n 1, 1, [], 0), (21, .ifCond .ge 18, 3, [], 0)]),
  (24, [(24, .aload_n 0, 1, [], 0), (25, .dup, 1, [], 0), (26, .getfield 190, 3, [12, 21, 0, 0, 1343, 0], 0), (29, .iconst 1, 1, [], 0), (30, .iadd, 1, [], 0), (31, .putfield 190, 3, [12, 21, 0, 0, 0, 1343], 0), (34, .aload_n 0, 1, [], 0), (35, .invokevirtual 244, 3, [1, 1, 1, 80, 1539, 16], 0), (38, .pop, 1, [], 0)]),
  (39, [(39, .aload_n 0, 1, [], 0), (40, .aload_n 0, 1, [], 0), (41, .getfield 190, 3, [12, 21, 0, 0, 1343, 0], 0), (44, .putfield 247, 3, [12, 23, 0, 0, 0, 1345], 0), (47, .aload_n 0, 1, [], 0), (48, .invokevirtual 250, 3, [1, 2, 1, 86, 1589, 16], 0), (51, .ifCond .ne 14, 3, [], 0)]),
  (54, [(54, .aload_n 0, 1, [], 0), (55, .iconst 1, 1, [], 0), (56, .aload_n 0, 1, [], 0), (57, .getfield 190, 3, [12, 21, 0, 0, 1343, 0], 0), (60, .invokevirtual 253, 3, [0, 3, 1, 85, 1577, 0, 0, 16], 0), (63, .iconst 0, 1, [], 0), (64, .ireturn, 1, [], 0)]),
  (65, [(65, .iconst 0, 1, [], 0), (66, .istore 4, 2, [], 0)]),
  (68, [(68, .aload_n 0, 1, [], 0), (69, .invokevirtual 250, 3, [1, 2, 1, 86, 1589, 16], 0), (72, .ifCond .eq 37, 3, [], 0)]),
  (75, [(75, .ldc_w 257, 3, [0, 1595], 10000000), (78, .bipush 10, 2, [], 0), (80, .iload 4, 2, [], 0), (82, .imul, 1, [], 0), (83, .aload_n 0, 1, [], 0), (84, .invokevirtual 193, 3, [1, 4, 1, 79, 1543, 16], 0), (87, .iadd, 1, [], 0), (88, .bipush 48, 2, [], 0), (90, .isub, 1, [], 0), (91, .invokestatic 258, 3, [1, 5, 3, 261, 1596, 0, 0], 0), (94, .istore 4, 2, [], 0), (96, .aload_n 0, 1, [], 0), (97, .dup, 1, [], 0), (98, .getfield 190, 3, [12, 21, 0, 0, 1343, 0], 0), (101, .iconst 1, 1, [], 0), (102, .iadd, 1, [], 0), (103, .putfield 190, 3, [12, 21, 0, 0, 0, 1343], 0), (106, .goto (-38), 3, [], 0)]),
  (109, [(109, .iload_n 3, 1, [], 0), (110, .bipush 45, 2, [], 0), (112, .if_icmp .ne 9, 3, [], 0)]),
  (115, [(115, .iload 4, 2, [], 0), (117, .ineg, 1, [], 0), (118, .goto 5, 3, [], 0)]),
  (121, [(121, .iload 4, 2, [], 0)]),
  (123, [(123, .istore 4, 2, [], 0), (125, .iload 4, 2, [], 0), (127, .i2l, 1, [], 0), (128, .iload_n 1, 1, [], 0), (129, .i2l, 1, [], 0), (130, .iload_n 2, 1, [], 0), (131, .i2l, 1, [], 0), (132, .invokestatic 217, 3, [1, 6, 3, 81, 1561, 1, 1, 1], 0), (135, .ifCond .ne 12, 3, [], 0)]),
  (138, [(138, .aload_n 0, 1, [], 0), (139, .iconst 2, 1, [], 0), (140, .aload_n 0, 1, [], 0), (141, .getfield 247, 3, [12, 23, 0, 0, 1345, 0], 0), (144, .invokevirtual 253, 3, [0, 3, 1, 85, 1577, 0, 0, 16], 0)]),
  (147, [(147, .iload 4, 2, [], 0), (149, .ireturn, 1, [], 0)])]
def BX12_number_68 (n : Nat) : Nat → Int → Int → Int → Int → Hp → Option (Int × Int × Int × Int × Hp)
  | 0, _, _, _, _, _ => none
  | f + 1, x1, x2, x3, x4, h =>
    (bndp (MX12_isDigit h) fun r1 =>
    (if r1 = 0 then
    (some (x1, x2, x3, x4, h))
    else
    (bndp (MX12_sign h) fun r2 =>
    (ltt (min 10000000 (w32 ((w32 ((w32 (10 * x4)) + r2)) - 48))) fun y1 =>
    (ltt (up h 113 21 (w32 ((h 113 21) + 1))) fun h1 =>
    (BX12_number_68 n f x1 x2 x3 y1 h1))))))
def JX12_number_123 (n : Nat) (x1 x2 z0 : Int) (h : Hp) : Option (Int × Hp) :=
(ltt z0 fun y1 =>
(bndp (MX12_in y1 x1 x2) fun r1 =>
(if r1 ≠ 0 then
(some (y1, h))
else
(bndh (MX12_fails 2 (h 113 23) h) fun h1 =>
(some (y1, h1))))))
def JX12_number_109 (n : Nat) (x1 x2 x3 x4 : Int) (h : Hp) : Option (Int × Hp) :=
(if x3 ≠ 45 then
(JX12_number_123 n x1 x2 x4 h)
else
(JX12_number_123 n x1 x2 (w32 (-x4)) h))
def LX12_number_68 (n : Nat) (x1 x2 x3 x4 : Int) (h : Hp) : Option (Int × Hp) :=
(bndx (BX12_number_68 n n x1 x2 x3 x4 h) fun (e1, e2, e3, e4, h1) =>
(JX12_number_109 n e1 e2 e3 e4 h1))
def JX12_number_39 (n : Nat) (x1 x2 x3 : Int) (h : Hp) : Option (Int × Hp) :=
(ltt (up h 113 23 (h 113 21)) fun h1 =>
(bndp (MX12_isDigit h1) fun r1 =>
(if r1 ≠ 0 then
(ltt 0 fun y1 =>
(LX12_number_68 n x1 x2 x3 y1 h1))
else
(bndh (MX12_fails 1 (h1 113 21) h1) fun h2 =>
(some (0, h2))))))
def MX12_number (n : Nat) (x1 x2 : Int) (h : Hp) : Option (Int × Hp) :=
(bndp (MX12_isRight h) fun r1 =>
(if r1 ≠ 0 then
(bnd (MX12_next n h) fun r2 h1 =>
(ltt r2 fun y1 =>
(if y1 ≠ 45 then
(JX12_number_39 n x1 x2 y1 h1)
else
(if 0 ≤ x1 then
(JX12_number_39 n x1 x2 y1 h1)
else
(ltt (up h1 113 21 (w32 ((h1 113 21) + 1))) fun h2 =>
(bnd (MX12_next n h2) fun r3 h3 =>
(JX12_number_39 n x1 x2 y1 h3)))))))
else
(some (0, h))))
def wX12_number {ρ : Type} (n : Nat) : FN ρ := fun a h k => match a with
  | [_, x1, x2] => bnd (MX12_number n x1 x2 h) (fun r h2 => k r h2)
  | _ => none
def fsX12_number (n : Nat) (ρ : Type) : List (FN ρ) := [wX12_isRight, wX12_next n, wX12_isDigit, wX12_fails, wX12_sign, fmin, wX12_in]
def KBX12_number_68 (_ : Nat) (bk : Int → Int → Int → Int → Hp → Option (Int × Int × Int × Int × Hp)) : CT (Int × Int × Int × Int × Hp) := [(68, [(0, 16, (some 113)), (1, 0, none), (2, 0, none), (3, 0, none), (4, 0, none)], [], fun a c h => match a, c with
    | [x1, x2, x3, x4], [] => bk x1 x2 x3 x4 h
    | _, _ => none),
  (109, [(0, 16, (some 113)), (1, 0, none), (2, 0, none), (3, 0, none), (4, 0, none)], [], fun a c h => match a, c with
    | [x1, x2, x3, x4], [] => some (x1, x2, x3, x4, h)
    | _, _ => none)]
set_option maxRecDepth 100000 in
theorem eBX12_number_68 (n f : Nat) (x1 : Int) (x2 : Int) (x3 : Int) (x4 : Int) (h : Hp) : BX12_number_68 n (f + 1) x1 x2 x3 x4 h =
  goAt false (kct (KBX12_number_68 n (BX12_number_68 n f))) (fun _ _ => none) (fsX12_number n _) sdX12_number 1000 68 [(0, 16, 113), (1, 0, x1), (2, 0, x2), (3, 0, x3), (4, 0, x4)] [] h := rfl
def KJX12_number_123 (_ : Nat) : CT (Int × Hp) := []
set_option maxRecDepth 100000 in
theorem eJX12_number_123 (n : Nat) (x1 : Int) (x2 : Int) (z0 : Int) (h : Hp) : JX12_number_123 n x1 x2 z0 h =
  goAt false (kct (KJX12_number_123 n)) (fun v h => some ((v, h))) (fsX12_number n _) sdX12_number 1000 123 [(0, 16, 113), (1, 0, x1), (2, 0, x2)] [(0, z0)] h := rfl
def KJX12_number_109 (n : Nat) : CT (Int × Hp) := [(123, [(0, 16, (some 113)), (1, 0, none), (2, 0, none)], [(0, none)], fun a c h => match a, c with
    | [x1, x2], [z0] => JX12_number_123 n x1 x2 z0 h
    | _, _ => none)]
set_option maxRecDepth 100000 in
theorem eJX12_number_109 (n : Nat) (x1 : Int) (x2 : Int) (x3 : Int) (x4 : Int) (h : Hp) : JX12_number_109 n x1 x2 x3 x4 h =
  goAt false (kct (KJX12_number_109 n)) (fun v h => some ((v, h))) (fsX12_number n _) sdX12_number 1000 109 [(0, 16, 113), (1, 0, x1), (2, 0, x2), (3, 0, x3), (4, 0, x4)] [] h := rfl
def KJX12_number_39 (n : Nat) : CT (Int × Hp) := [(68, [(0, 16, (some 113)), (1, 0, none), (2, 0, none), (3, 0, none), (4, 0, none)], [], fun a c h => match a, c with
    | [x1, x2, x3, x4], [] => LX12_number_68 n x1 x2 x3 x4 h
    | _, _ => none)]
set_option maxRecDepth 100000 in
theorem eJX12_number_39 (n : Nat) (x1 : Int) (x2 : Int) (x3 : Int) (h : Hp) : JX12_number_39 n x1 x2 x3 h =
  goAt false (kct (KJX12_number_39 n)) (fun v h => some ((v, h))) (fsX12_number n _) sdX12_number 1000 39 [(0, 16, 113), (1, 0, x1), (2, 0, x2), (3, 0, x3)] [] h := rfl
def KMX12_number (n : Nat) : CT (Int × Hp) := [(39, [(0, 16, (some 113)), (1, 0, none), (2, 0, none), (3, 0, none)], [], fun a c h => match a, c with
    | [x1, x2, x3], [] => JX12_number_39 n x1 x2 x3 h
    | _, _ => none)]
set_option maxRecDepth 100000 in
theorem eMX12_number (n : Nat) (x1 : Int) (x2 : Int) (h : Hp) : MX12_number n x1 x2 h =
  goAt false (kct (KMX12_number n)) (fun v h => some ((v, h))) (fsX12_number n _) sdX12_number 1000 0 [(0, 16, 113), (1, 0, x1), (2, 0, x2)] [] h := rfl
theorem okX12_number : mokb (mi 87) = true := by decide +kernel
theorem rkX12_number : rkOK 1 (mi 87).1.2.2.2.2.2.2.1 (mi 87).1.2.2.2.1 := Or.inr (Or.inl ⟨rfl, rfl, rfl⟩)
def calX12_number : List Nat := [78, 80, 86, 85, 79, 261, 81]
theorem foX12_number {l : Launch} {ρ : Type} (n : Nat) : fsOK l false mi calX12_number (fsX12_number n ρ) := ⟨sndX12_isRight, ⟨(sndX12_next n), ⟨sndX12_isDigit, ⟨sndX12_fails, ⟨sndX12_sign, ⟨snd_mmin, ⟨sndX12_in, trivial⟩⟩⟩⟩⟩⟩⟩
theorem ok_sdX12_number : sdb (mi 87).1.2.1 (insOK mi (mi 87).1.1.cls (mi 87).1.2.2.1 (mi 87).1.2.2.2.2.1 (mi 87).1.2.2.2.2.2.1 calX12_number false 1) sdX12_number = true := by decide +kernel
def GX12_number_68 (l : Launch) (h0 : Hp) (h' : Hp) (v : Int) (_ : Hp) : (Int × Int × Int × Int × Hp) → Prop
  | (e1, e2, e3, e4, h1) => PAt l false (mi 87).1 h0 v h' 109 [(0, 16, 113), (1, 0, e1), (2, 0, e2), (3, 0, e3), (4, 0, e4)] [] h1
theorem sBX12_number_68 {l : Launch} {h0 h' : Hp} {v : Int} (h8 : nOf h0 = 148) (n : Nat) : ∀ (f : Nat) (x1 : Int) (x2 : Int) (x3 : Int) (x4 : Int) (h : Hp) {r : Int × Int × Int × Int × Hp}, BX12_number_68 n f x1 x2 x3 x4 h = some r → GX12_number_68 l h0 h' v h r → PAt l false (mi 87).1 h0 v h' 68 [(0, 16, 113), (1, 0, x1), (2, 0, x2), (3, 0, x3), (4, 0, x4)] [] h := by
  intro f
  induction f with
  | zero =>
    intro x1 x2 x3 x4 h r H _
    have H2 : (none : Option (Int × Int × Int × Int × Hp)) = some r := H
    cases H2
  | succ f ih =>
    intro x1 x2 x3 x4 h r H hG
    exact pat_w ok_sdX12_number rkX12_number h8 (foX12_number n) (fun v1 h1 q => by cases q) (List.forall_mem_cons.mpr ⟨(fun a c h H => by
      dsimp only at H
      split at H
      · exact ih _ _ _ _ _ H hG
      · cases H), (List.forall_mem_cons.mpr ⟨(fun a c h H => by
      dsimp only at H
      split at H
      · cases H
        exact hG
      · cases H), (fun q9 h9 => by cases h9)⟩)⟩) ((eBX12_number_68 n f x1 x2 x3 x4 h).symm.trans H)
theorem sJX12_number_123 {l : Launch} {h0 h' : Hp} {v : Int} (h8 : nOf h0 = 148) (n : Nat) (x1 : Int) (x2 : Int) (z0 : Int) (h : Hp) {r : Int × Hp} (H : JX12_number_123 n x1 x2 z0 h = some r) (hG : gWV v h' r) : PAt l false (mi 87).1 h0 v h' 123 [(0, 16, 113), (1, 0, x1), (2, 0, x2)] [(0, z0)] h :=
  pat_w ok_sdX12_number rkX12_number h8 (foX12_number n) (fun v1 h1 q => by
    cases q
    exact ⟨hG.1, fun _ => hG.2⟩) (fun q9 h9 => by cases h9) ((eJX12_number_123 n x1 x2 z0 h).symm.trans H)
theorem sJX12_number_109 {l : Launch} {h0 h' : Hp} {v : Int} (h8 : nOf h0 = 148) (n : Nat) (x1 : Int) (x2 : Int) (x3 : Int) (x4 : Int) (h : Hp) {r : Int × Hp} (H : JX12_number_109 n x1 x2 x3 x4 h = some r) (hG : gWV v h' r) : PAt l false (mi 87).1 h0 v h' 109 [(0, 16, 113), (1, 0, x1), (2, 0, x2), (3, 0, x3), (4, 0, x4)] [] h :=
  pat_w ok_sdX12_number rkX12_number h8 (foX12_number n) (fun v1 h1 q => by
    cases q
    exact ⟨hG.1, fun _ => hG.2⟩) (List.forall_mem_cons.mpr ⟨(fun a c h H => by
      dsimp only at H
      split at H
      · exact sJX12_number_123 h8 n _ _ _ _ H hG
      · cases H), (fun q9 h9 => by cases h9)⟩) ((eJX12_number_109 n x1 x2 x3 x4 h).symm.trans H)
theorem sLX12_number_68 {l : Launch} {h0 h' : Hp} {v : Int} (h8 : nOf h0 = 148) (n : Nat) (x1 : Int) (x2 : Int) (x3 : Int) (x4 : Int) (h : Hp) {r : Int × Hp} (H : LX12_number_68 n x1 x2 x3 x4 h = some r) (hG : gWV v h' r) : PAt l false (mi 87).1 h0 v h' 68 [(0, 16, 113), (1, 0, x1), (2, 0, x2), (3, 0, x3), (4, 0, x4)] [] h := by
  obtain ⟨e9, h2, h3⟩ := bndx_some H
  obtain ⟨e1, e2, e3, e4, h1⟩ := e9
  exact sBX12_number_68 h8 n n x1 x2 x3 x4 h h2 (sJX12_number_109 h8 n e1 e2 e3 e4 h1 h3 hG)
theorem sJX12_number_39 {l : Launch} {h0 h' : Hp} {v : Int} (h8 : nOf h0 = 148) (n : Nat) (x1 : Int) (x2 : Int) (x3 : Int) (h : Hp) {r : Int × Hp} (H : JX12_number_39 n x1 x2 x3 h = some r) (hG : gWV v h' r) : PAt l false (mi 87).1 h0 v h' 39 [(0, 16, 113), (1, 0, x1), (2, 0, x2), (3, 0, x3)] [] h :=
  pat_w ok_sdX12_number rkX12_number h8 (foX12_number n) (fun v1 h1 q => by
    cases q
    exact ⟨hG.1, fun _ => hG.2⟩) (List.forall_mem_cons.mpr ⟨(fun a c h H => by
      dsimp only at H
      split at H
      · exact sLX12_number_68 h8 n _ _ _ _ _ H hG
      · cases H), (fun q9 h9 => by cases h9)⟩) ((eJX12_number_39 n x1 x2 x3 h).symm.trans H)
theorem sMX12_number {l : Launch} {h0 h' : Hp} {v : Int} (h8 : nOf h0 = 148) (n : Nat) (x1 : Int) (x2 : Int) (h : Hp) {r : Int × Hp} (H : MX12_number n x1 x2 h = some r) (hG : gWV v h' r) : PAt l false (mi 87).1 h0 v h' 0 [(0, 16, 113), (1, 0, x1), (2, 0, x2)] [] h :=
  pat_w ok_sdX12_number rkX12_number h8 (foX12_number n) (fun v1 h1 q => by
    cases q
    exact ⟨hG.1, fun _ => hG.2⟩) (List.forall_mem_cons.mpr ⟨(fun a c h H => by
      dsimp only at H
      split at H
      · exact sJX12_number_39 h8 n _ _ _ _ H hG
      · cases H), (fun q9 h9 => by cases h9)⟩) ((eMX12_number n x1 x2 h).symm.trans H)
theorem sndX12_number {ρ : Type} {l : Launch} (n : Nat) : SndF (ρ := ρ) l false (mi 87).1 (wX12_number n) := by
    intro a h k r H ha ho hn hf
    have h8 := hf rfl
    obtain ⟨x0, x1, x2, rfl⟩ := len3 (show a.length = 3 from ha)
    have u0 := uq16 hn (ho (16, x0) (List.mem_cons_self))
    subst u0
    replace H : bnd (MX12_number n x1 x2 h) (fun r h2 => k r h2) = some r := H
    obtain ⟨v2, h2, H1, H2⟩ := bnd_some H
    exact ⟨v2, h2, H2, met_mk (mok_base okX12_number).1 (by decide +kernel) (Nat.le_of_ble_eq_true rfl) ho (sMX12_number h8 n x1 x2 h H1 ⟨rfl, rfl⟩), fun q => by cases q⟩
/-! X12_ends -/
def sdX12_ends : SD := [(0, [(0, .aload_n 0, 1, [], 0), (1, .invokevirtual 240, 3, [1, 0, 1, 78, 1535, 16], 0), (4, .ifCond .eq 21, 3, [], 0)]),
  (7, [(7, .aload_n 0, 1, [], 0), (8, .invokevirtual 244, 3, [1, 1, 1, 80, 1539, 16], 0), (11, .bipush 59, 2, [], 0), (13, .if_icmp .eq 12, 3, [], 0)]),
  (16, [(16, .aload_n 0, 1, [], 0), (17, .iconst 1, 1, [], 0), (18, .aload_n 0, 1, [], 0), (19, .getfield 190, 3, [12, 21, 0, 0, 1343, 0], 0), (22, .invokevirtual 253, 3, [0, 2, 1, 85, 1577, 0, 0, 16], 0)]),
  (25, [(25, .aload_n 0, 1, [], 0), (26, .dup, 1, [], 0), (27, .getfield 190, 3, [12, 21, 0, 0, 1343, 0], 0), (30, .iconst 1, 1, [], 0), (31, .iadd, 1, [], 0), (32, .putfield 190, 3, [12, 21, 0, 0, 0, 1343], 0), (35, .return_, 1, [], 0)])]
def JX12_ends_25 (n : Nat) (h : Hp) : Option (Hp) :=
(ltt (up h 113 21 (w32 ((h 113 21) + 1))) fun h1 =>
(some h1))
def MX12_ends (n : Nat) (h : Hp) : Option (Hp) :=
(bndp (MX12_isRight h) fun r1 =>
(if r1 = 0 then
(JX12_ends_25 n h)
else
(bnd (MX12_next n h) fun r2 h1 =>
(if r2 = 59 then
(JX12_ends_25 n h1)
else
(bndh (MX12_fails 1 (h1 113 21) h1) fun h2 =>
(JX12_ends_25 n h2))))))
def wX12_ends {ρ : Type} (n : Nat) : FN ρ := fun a h k => match a with
  | [_] => bndh (MX12_ends n h) (fun h2 => k 0 h2)
  | _ => none
def fsX12_ends (n : Nat) (ρ : Type) : List (FN ρ) := [wX12_isRight, wX12_next n, wX12_fails]
def KJX12_ends_25 (_ : Nat) : CT (Hp) := []
set_option maxRecDepth 100000 in
theorem eJX12_ends_25 (n : Nat) (h : Hp) : JX12_ends_25 n h =
  goAt false (kct (KJX12_ends_25 n)) (fun _ h => some (h)) (fsX12_ends n _) sdX12_ends 1000 25 [(0, 16, 113)] [] h := rfl
def KMX12_ends (n : Nat) : CT (Hp) := [(25, [(0, 16, (some 113))], [], fun a c h => match a, c with
    | [], [] => JX12_ends_25 n h
    | _, _ => none)]
set_option maxRecDepth 100000 in
theorem eMX12_ends (n : Nat) (h : Hp) : MX12_ends n h =
  goAt false (kct (KMX12_ends n)) (fun _ h => some (h)) (fsX12_ends n _) sdX12_ends 1000 0 [(0, 16, 113)] [] h := rfl
theorem okX12_ends : mokb (mi 88) = true := by decide +kernel
theorem rkX12_ends : rkOK 0 (mi 88).1.2.2.2.2.2.2.1 (mi 88).1.2.2.2.1 := Or.inl ⟨rfl, rfl, rfl⟩
def calX12_ends : List Nat := [78, 80, 85]
theorem foX12_ends {l : Launch} {ρ : Type} (n : Nat) : fsOK l false mi calX12_ends (fsX12_ends n ρ) := ⟨sndX12_isRight, ⟨(sndX12_next n), ⟨sndX12_fails, trivial⟩⟩⟩
theorem ok_sdX12_ends : sdb (mi 88).1.2.1 (insOK mi (mi 88).1.1.cls (mi 88).1.2.2.1 (mi 88).1.2.2.2.2.1 (mi 88).1.2.2.2.2.2.1 calX12_ends false 0) sdX12_ends = true := by decide +kernel
theorem sJX12_ends_25 {l : Launch} {h0 h' : Hp} {v : Int} (h8 : nOf h0 = 148) (n : Nat)  (h : Hp) {r : Hp} (H : JX12_ends_25 n h = some r) (hG : gW h' r) : PAt l false (mi 88).1 h0 v h' 25 [(0, 16, 113)] [] h :=
  pat_w ok_sdX12_ends rkX12_ends h8 (foX12_ends n) (fun v1 h1 q => by
    cases q
    exact ⟨hG, fun q9 => absurd rfl q9⟩) (fun q9 h9 => by cases h9) ((eJX12_ends_25 n h).symm.trans H)
theorem sMX12_ends {l : Launch} {h0 h' : Hp} {v : Int} (h8 : nOf h0 = 148) (n : Nat)  (h : Hp) {r : Hp} (H : MX12_ends n h = some r) (hG : gW h' r) : PAt l false (mi 88).1 h0 v h' 0 [(0, 16, 113)] [] h :=
  pat_w ok_sdX12_ends rkX12_ends h8 (foX12_ends n) (fun v1 h1 q => by
    cases q
    exact ⟨hG, fun q9 => absurd rfl q9⟩) (List.forall_mem_cons.mpr ⟨(fun a c h H => by
      dsimp only at H
      split at H
      · exact sJX12_ends_25 h8 n _ H hG
      · cases H), (fun q9 h9 => by cases h9)⟩) ((eMX12_ends n h).symm.trans H)
theorem sndX12_ends {ρ : Type} {l : Launch} (n : Nat) : SndF (ρ := ρ) l false (mi 88).1 (wX12_ends n) := by
    intro a h k r H ha ho hn hf
    have h8 := hf rfl
    obtain ⟨x0, rfl⟩ := len1 (show a.length = 1 from ha)
    have u0 := uq16 hn (ho (16, x0) (List.mem_cons_self))
    subst u0
    replace H : bndh (MX12_ends n h) (fun h2 => k 0 h2) = some r := H
    obtain ⟨h2, H1, H2⟩ := bndh_some H
    exact ⟨0, h2, H2, met_mk (mok_base okX12_ends).1 (by decide +kernel) (Nat.le_of_ble_eq_true rfl) ho (sMX12_ends h8 n  h H1 rfl), fun q => by cases q⟩
/-! X12_readsSetting -/
def sdX12_readsSetting : SD := [(0, [(0, .aload_n 0, 1, [], 0), (1, .dup, 1, [], 0), (2, .getfield 331, 3, [12, 32, 0, 0, 1354, 0], 0), (5, .iconst 1, 1, [], 0), (6, .iload_n 1, 1, [], 0), (7, .ishl, 1, [], 0), (8, .ior, 1, [], 0), (9, .putfield 331, 3, [12, 32, 0, 0, 0, 1354], 0), (12, .iload_n 1, 1, [], 0), (13, .ifCond .ne 45, 3, [], 0)]),
  (16, [(16, .iconst 0, 1, [], 0), (17, .istore_n 2, 1, [], 0)]),
  (18, [(18, .iload_n 2, 1, [], 0), (19, .bipush 6, 2, [], 0), (21, .if_icmp .ge 34, 3, [], 0)]),
  (24, [(24, .aload_n 0, 1, [], 0), (25, .getfield 11, 3, [12, 0, 84, 1, 1322, 0], 1), (28, .iload_n 2, 1, [], 0), (29, .aload_n 0, 1, [], 0), (30, .iconst 1, 1, [], 0), (31, .iload_n 2, 1, [], 0), (32, .iconst 3, 1, [], 0), (33, .if_icmp .ge 9, 3, [], 0)]),
  (36, [(36, .sipush 5000, 3, [], 0), (39, .goto 6, 3, [], 0)]),
  (42, [(42, .sipush 500, 3, [], 0)]),
  (45, [(45, .invokevirtual 306, 3, [1, 0, 1, 87, 1585, 0, 0, 16], 0), (48, .iastore, 1, [], 0), (49, .iinc 2 1, 3, [], 0), (52, .goto (-34), 3, [], 0)]),
  (55, [(55, .goto 40, 3, [], 0)]),
  (58, [(58, .iload_n 1, 1, [], 0), (59, .iconst 2, 1, [], 0), (60, .if_icmp .ne 21, 3, [], 0)]),
  (63, [(63, .aload_n 0, 1, [], 0), (64, .getfield 11, 3, [12, 0, 84, 1, 1322, 0], 1), (67, .bipush 7, 2, [], 0), (69, .aload_n 0, 1, [], 0), (70, .iconst 0, 1, [], 0), (71, .sipush 2000, 3, [], 0), (74, .invokevirtual 306, 3, [1, 0, 1, 87, 1585, 0, 0, 16], 0), (77, .iastore, 1, [], 0), (78, .goto 17, 3, [], 0)]),
  (81, [(81, .aload_n 0, 1, [], 0), (82, .getfield 11, 3, [12, 0, 84, 1, 1322, 0], 1), (85, .bipush 6, 2, [], 0), (87, .aload_n 0, 1, [], 0), (88, .iconst 1, 1, [], 0), (89, .bipush 50, 2, [], 0), (91, .invokevirtual 306, 3, [1, 0, 1, 87, 1585, 0, 0, 16], 0), (94, .iastore, 1, [], 0)]),
  (95, [(95, .aload_n 0, 1, [], 0), (96, .invokevirtual 312, 3, [0, 1, 1, 88, 1597, 16], 0), (99, .return_, 1, [], 0)])]
def JX12_readsSetting_45 (n : Nat) (bk : Int → Hp → Option (Hp)) (x2 z0 z1 z3 z4 : Int) (h : Hp) : Option (Hp) :=
(bnd (MX12_number n z3 z4 h) fun r1 h1 =>
(grd (0 ≤ z1 ∧ z1 < alen 84)
(ltt (up h1 z0 z1 r1) fun h2 =>
(ltt (w32 (x2 + 1)) fun y1 =>
(bk y1 h2)))))
def BX12_readsSetting_18 (n : Nat) : Nat → Int → Hp → Option (Hp)
  | 0, _, _ => none
  | f + 1, x2, h =>
    (if 6 ≤ x2 then
    (some (h))
    else
    (if 3 ≤ x2 then
    (JX12_readsSetting_45 n (BX12_readsSetting_18 n f) x2 114 x2 1 500 h)
    else
    (JX12_readsSetting_45 n (BX12_readsSetting_18 n f) x2 114 x2 1 5000 h)))
def JX12_readsSetting_55 (n : Nat) (h : Hp) : Option (Hp) :=
(bndh (MX12_ends n h) fun h1 =>
(some h1))
def LX12_readsSetting_18 (n : Nat) (x2 : Int) (h : Hp) : Option (Hp) :=
(bndx (BX12_readsSetting_18 n n x2 h) fun h1 =>
(JX12_readsSetting_55 n h1))
def MX12_readsSetting (n : Nat) (x1 : Int) (h : Hp) : Option (Hp) :=
(ltt (up h 113 32 (ior (h 113 32) (ishl 1 x1))) fun h1 =>
(if x1 ≠ 0 then
(if x1 ≠ 2 then
(bnd (MX12_number n 1 50 h1) fun r1 h2 =>
(grd (0 ≤ 6 ∧ 6 < alen 84)
(ltt (up h2 114 6 r1) fun h3 =>
(bndh (MX12_ends n h3) fun h4 =>
(some h4)))))
else
(bnd (MX12_number n 0 2000 h1) fun r2 h5 =>
(grd (0 ≤ 7 ∧ 7 < alen 84)
(ltt (up h5 114 7 r2) fun h6 =>
(bndh (MX12_ends n h6) fun h7 =>
(some h7))))))
else
(ltt 0 fun y1 =>
(LX12_readsSetting_18 n y1 h1))))
def wX12_readsSetting {ρ : Type} (n : Nat) : FN ρ := fun a h k => match a with
  | [_, x1] => bndh (MX12_readsSetting n x1 h) (fun h2 => k 0 h2)
  | _ => none
def fsX12_readsSetting (n : Nat) (ρ : Type) : List (FN ρ) := [wX12_number n, wX12_ends n]
def KJX12_readsSetting_45 (_ : Nat) (bk : Int → Hp → Option (Hp)) : CT (Hp) := [(18, [(0, 16, (some 113)), (2, 0, none)], [], fun a c h => match a, c with
    | [x2], [] => bk x2 h
    | _, _ => none),
  (55, [(0, 16, (some 113))], [], fun a c h => match a, c with
    | [], [] => some (h)
    | _, _ => none)]
set_option maxRecDepth 100000 in
theorem eJX12_readsSetting_45 (n : Nat) (bk : Int → Hp → Option (Hp)) (x2 : Int) (z0 : Int) (z1 : Int) (z3 : Int) (z4 : Int) (h : Hp) : JX12_readsSetting_45 n bk x2 z0 z1 z3 z4 h =
  goAt false (kct (KJX12_readsSetting_45 n bk)) (fun _ _ => none) (fsX12_readsSetting n _) sdX12_readsSetting 1000 45 [(0, 16, 113), (2, 0, x2)] [(0, z4), (0, z3), (16, 113), (0, z1), (84, z0)] h := rfl
def KBX12_readsSetting_18 (n : Nat) (bk : Int → Hp → Option (Hp)) : CT (Hp) := [(18, [(0, 16, (some 113)), (2, 0, none)], [], fun a c h => match a, c with
    | [x2], [] => bk x2 h
    | _, _ => none),
  (55, [(0, 16, (some 113))], [], fun a c h => match a, c with
    | [], [] => some (h)
    | _, _ => none),
  (45, [(0, 16, (some 113)), (2, 0, none)], [(0, none), (0, none), (16, (some 113)), (0, none), (84, none)], fun a c h => match a, c with
    | [x2], [z4, z3, z1, z0] => JX12_readsSetting_45 n bk x2 z0 z1 z3 z4 h
    | _, _ => none)]
set_option maxRecDepth 100000 in
theorem eBX12_readsSetting_18 (n f : Nat) (x2 : Int) (h : Hp) : BX12_readsSetting_18 n (f + 1) x2 h =
  goAt false (kct (KBX12_readsSetting_18 n (BX12_readsSetting_18 n f))) (fun _ _ => none) (fsX12_readsSetting n _) sdX12_readsSetting 1000 18 [(0, 16, 113), (2, 0, x2)] [] h := rfl
def KJX12_readsSetting_55 (_ : Nat) : CT (Hp) := []
set_option maxRecDepth 100000 in
theorem eJX12_readsSetting_55 (n : Nat) (h : Hp) : JX12_readsSetting_55 n h =
  goAt false (kct (KJX12_readsSetting_55 n)) (fun _ h => some (h)) (fsX12_readsSetting n _) sdX12_readsSetting 1000 55 [(0, 16, 113)] [] h := rfl
def KMX12_readsSetting (n : Nat) : CT (Hp) := [(18, [(0, 16, (some 113)), (2, 0, none)], [], fun a c h => match a, c with
    | [x2], [] => LX12_readsSetting_18 n x2 h
    | _, _ => none)]
set_option maxRecDepth 100000 in
theorem eMX12_readsSetting (n : Nat) (x1 : Int) (h : Hp) : MX12_readsSetting n x1 h =
  goAt false (kct (KMX12_readsSetting n)) (fun _ h => some (h)) (fsX12_readsSetting n _) sdX12_readsSetting 1000 0 [(0, 16, 113), (1, 0, x1)] [] h := rfl
theorem okX12_readsSetting : mokb (mi 89) = true := by decide +kernel
theorem rkX12_readsSetting : rkOK 0 (mi 89).1.2.2.2.2.2.2.1 (mi 89).1.2.2.2.1 := Or.inl ⟨rfl, rfl, rfl⟩
def calX12_readsSetting : List Nat := [87, 88]
theorem foX12_readsSetting {l : Launch} {ρ : Type} (n : Nat) : fsOK l false mi calX12_readsSetting (fsX12_readsSetting n ρ) := ⟨(sndX12_number n), ⟨(sndX12_ends n), trivial⟩⟩
theorem ok_sdX12_readsSetting : sdb (mi 89).1.2.1 (insOK mi (mi 89).1.1.cls (mi 89).1.2.2.1 (mi 89).1.2.2.2.2.1 (mi 89).1.2.2.2.2.2.1 calX12_readsSetting false 0) sdX12_readsSetting = true := by decide +kernel
def GX12_readsSetting_18 (l : Launch) (h0 : Hp) (h' : Hp) (v : Int) (_ : Hp) : (Hp) → Prop
  | h1 => PAt l false (mi 89).1 h0 v h' 55 [(0, 16, 113)] [] h1
theorem sJX12_readsSetting_45 {l : Launch} {h0 h' : Hp} {v : Int} (h8 : nOf h0 = 148) (n : Nat) (bk : Int → Hp → Option (Hp)) (hbk : ∀ (x2 : Int) (h : Hp) (r : Hp), bk x2 h = some r → GX12_readsSetting_18 l h0 h' v h r → PAt l false (mi 89).1 h0 v h' 18 [(0, 16, 113), (2, 0, x2)] [] h) (x2 : Int) (z0 : Int) (z1 : Int) (z3 : Int) (z4 : Int) (h : Hp) {r : Hp} (H : JX12_readsSetting_45 n bk x2 z0 z1 z3 z4 h = some r) (hG : GX12_readsSetting_18 l h0 h' v h r) : PAt l false (mi 89).1 h0 v h' 45 [(0, 16, 113), (2, 0, x2)] [(0, z4), (0, z3), (16, 113), (0, z1), (84, z0)] h :=
  pat_w ok_sdX12_readsSetting rkX12_readsSetting h8 (foX12_readsSetting n) (fun v1 h1 q => by cases q) (List.forall_mem_cons.mpr ⟨(fun a c h H => by
      dsimp only at H
      split at H
      · exact hbk _ _ _ H hG
      · cases H), (List.forall_mem_cons.mpr ⟨(fun a c h H => by
      dsimp only at H
      split at H
      · cases H
        exact hG
      · cases H), (fun q9 h9 => by cases h9)⟩)⟩) ((eJX12_readsSetting_45 n bk x2 z0 z1 z3 z4 h).symm.trans H)
theorem sBX12_readsSetting_18 {l : Launch} {h0 h' : Hp} {v : Int} (h8 : nOf h0 = 148) (n : Nat) : ∀ (f : Nat) (x2 : Int) (h : Hp) {r : Hp}, BX12_readsSetting_18 n f x2 h = some r → GX12_readsSetting_18 l h0 h' v h r → PAt l false (mi 89).1 h0 v h' 18 [(0, 16, 113), (2, 0, x2)] [] h := by
  intro f
  induction f with
  | zero =>
    intro x2 h r H _
    have H2 : (none : Option (Hp)) = some r := H
    cases H2
  | succ f ih =>
    intro x2 h r H hG
    have ihk : ∀ (x2 : Int) (h : Hp) (r : Hp), BX12_readsSetting_18 n f x2 h = some r → GX12_readsSetting_18 l h0 h' v h r → PAt l false (mi 89).1 h0 v h' 18 [(0, 16, 113), (2, 0, x2)] [] h := fun x2 h r9 a9 b9 => ih x2 h a9 b9
    exact pat_w ok_sdX12_readsSetting rkX12_readsSetting h8 (foX12_readsSetting n) (fun v1 h1 q => by cases q) (List.forall_mem_cons.mpr ⟨(fun a c h H => by
      dsimp only at H
      split at H
      · exact ih _ _ H hG
      · cases H), (List.forall_mem_cons.mpr ⟨(fun a c h H => by
      dsimp only at H
      split at H
      · cases H
        exact hG
      · cases H), (List.forall_mem_cons.mpr ⟨(fun a c h H => by
      dsimp only at H
      split at H
      · exact sJX12_readsSetting_45 h8 n (BX12_readsSetting_18 n f) ihk _ _ _ _ _ _ H hG
      · cases H), (fun q9 h9 => by cases h9)⟩)⟩)⟩) ((eBX12_readsSetting_18 n f x2 h).symm.trans H)
theorem sJX12_readsSetting_55 {l : Launch} {h0 h' : Hp} {v : Int} (h8 : nOf h0 = 148) (n : Nat)  (h : Hp) {r : Hp} (H : JX12_readsSetting_55 n h = some r) (hG : gW h' r) : PAt l false (mi 89).1 h0 v h' 55 [(0, 16, 113)] [] h :=
  pat_w ok_sdX12_readsSetting rkX12_readsSetting h8 (foX12_readsSetting n) (fun v1 h1 q => by
    cases q
    exact ⟨hG, fun q9 => absurd rfl q9⟩) (fun q9 h9 => by cases h9) ((eJX12_readsSetting_55 n h).symm.trans H)
theorem sLX12_readsSetting_18 {l : Launch} {h0 h' : Hp} {v : Int} (h8 : nOf h0 = 148) (n : Nat) (x2 : Int) (h : Hp) {r : Hp} (H : LX12_readsSetting_18 n x2 h = some r) (hG : gW h' r) : PAt l false (mi 89).1 h0 v h' 18 [(0, 16, 113), (2, 0, x2)] [] h := by
  obtain ⟨h1, h2, h3⟩ := bndx_some H
  exact sBX12_readsSetting_18 h8 n n x2 h h2 (sJX12_readsSetting_55 h8 n h1 h3 hG)
theorem sMX12_readsSetting {l : Launch} {h0 h' : Hp} {v : Int} (h8 : nOf h0 = 148) (n : Nat) (x1 : Int) (h : Hp) {r : Hp} (H : MX12_readsSetting n x1 h = some r) (hG : gW h' r) : PAt l false (mi 89).1 h0 v h' 0 [(0, 16, 113), (1, 0, x1)] [] h :=
  pat_w ok_sdX12_readsSetting rkX12_readsSetting h8 (foX12_readsSetting n) (fun v1 h1 q => by
    cases q
    exact ⟨hG, fun q9 => absurd rfl q9⟩) (List.forall_mem_cons.mpr ⟨(fun a c h H => by
      dsimp only at H
      split at H
      · exact sLX12_readsSetting_18 h8 n _ _ H hG
      · cases H), (fun q9 h9 => by cases h9)⟩) ((eMX12_readsSetting n x1 h).symm.trans H)
theorem sndX12_readsSetting {ρ : Type} {l : Launch} (n : Nat) : SndF (ρ := ρ) l false (mi 89).1 (wX12_readsSetting n) := by
    intro a h k r H ha ho hn hf
    have h8 := hf rfl
    obtain ⟨x0, x1, rfl⟩ := len2 (show a.length = 2 from ha)
    have u0 := uq16 hn (ho (16, x0) (List.mem_cons_self))
    subst u0
    replace H : bndh (MX12_readsSetting n x1 h) (fun h2 => k 0 h2) = some r := H
    obtain ⟨h2, H1, H2⟩ := bndh_some H
    exact ⟨0, h2, H2, met_mk (mok_base okX12_readsSetting).1 (by decide +kernel) (Nat.le_of_ble_eq_true rfl) ho (sMX12_readsSetting h8 n x1 h H1 rfl), fun q => by cases q⟩
/-! X12_quarters -/
def sdX12_quarters : SD := [(0, [(0, .aload_n 0, 1, [], 0), (1, .bipush (-4), 2, [], 0), (3, .iconst 4, 1, [], 0), (4, .invokevirtual 306, 3, [1, 0, 1, 87, 1585, 0, 0, 16], 0), (7, .istore_n 1, 1, [], 0), (8, .aload_n 0, 1, [], 0), (9, .invokevirtual 240, 3, [1, 1, 1, 78, 1535, 16], 0), (12, .ifCond .eq 16, 3, [], 0)]),
  (15, [(15, .iload_n 1, 1, [], 0), (16, .ifCond .ne 12, 3, [], 0)]),
  (19, [(19, .aload_n 0, 1, [], 0), (20, .iconst 2, 1, [], 0), (21, .aload_n 0, 1, [], 0), (22, .getfield 247, 3, [12, 23, 0, 0, 1345, 0], 0), (25, .invokevirtual 253, 3, [0, 2, 1, 85, 1577, 0, 0, 16], 0)]),
  (28, [(28, .iload_n 1, 1, [], 0), (29, .ireturn, 1, [], 0)])]
def MX12_quarters (n : Nat) (h : Hp) : Option (Int × Hp) :=
(bnd (MX12_number n (-4) 4 h) fun r1 h1 =>
(ltt r1 fun y1 =>
(bndp (MX12_isRight h1) fun r2 =>
(if r2 = 0 then
(some (y1, h1))
else
(if y1 ≠ 0 then
(some (y1, h1))
else
(bndh (MX12_fails 2 (h1 113 23) h1) fun h2 =>
(some (y1, h2))))))))
def wX12_quarters {ρ : Type} (n : Nat) : FN ρ := fun a h k => match a with
  | [_] => bnd (MX12_quarters n h) (fun r h2 => k r h2)
  | _ => none
def fsX12_quarters (n : Nat) (ρ : Type) : List (FN ρ) := [wX12_number n, wX12_isRight, wX12_fails]
def KMX12_quarters (_ : Nat) : CT (Int × Hp) := []
set_option maxRecDepth 100000 in
theorem eMX12_quarters (n : Nat) (h : Hp) : MX12_quarters n h =
  goAt false (kct (KMX12_quarters n)) (fun v h => some ((v, h))) (fsX12_quarters n _) sdX12_quarters 1000 0 [(0, 16, 113)] [] h := rfl
theorem okX12_quarters : mokb (mi 90) = true := by decide +kernel
theorem rkX12_quarters : rkOK 1 (mi 90).1.2.2.2.2.2.2.1 (mi 90).1.2.2.2.1 := Or.inr (Or.inl ⟨rfl, rfl, rfl⟩)
def calX12_quarters : List Nat := [87, 78, 85]
theorem foX12_quarters {l : Launch} {ρ : Type} (n : Nat) : fsOK l false mi calX12_quarters (fsX12_quarters n ρ) := ⟨(sndX12_number n), ⟨sndX12_isRight, ⟨sndX12_fails, trivial⟩⟩⟩
theorem ok_sdX12_quarters : sdb (mi 90).1.2.1 (insOK mi (mi 90).1.1.cls (mi 90).1.2.2.1 (mi 90).1.2.2.2.2.1 (mi 90).1.2.2.2.2.2.1 calX12_quarters false 1) sdX12_quarters = true := by decide +kernel
theorem sMX12_quarters {l : Launch} {h0 h' : Hp} {v : Int} (h8 : nOf h0 = 148) (n : Nat)  (h : Hp) {r : Int × Hp} (H : MX12_quarters n h = some r) (hG : gWV v h' r) : PAt l false (mi 90).1 h0 v h' 0 [(0, 16, 113)] [] h :=
  pat_w ok_sdX12_quarters rkX12_quarters h8 (foX12_quarters n) (fun v1 h1 q => by
    cases q
    exact ⟨hG.1, fun _ => hG.2⟩) (fun q9 h9 => by cases h9) ((eMX12_quarters n h).symm.trans H)
theorem sndX12_quarters {ρ : Type} {l : Launch} (n : Nat) : SndF (ρ := ρ) l false (mi 90).1 (wX12_quarters n) := by
    intro a h k r H ha ho hn hf
    have h8 := hf rfl
    obtain ⟨x0, rfl⟩ := len1 (show a.length = 1 from ha)
    have u0 := uq16 hn (ho (16, x0) (List.mem_cons_self))
    subst u0
    replace H : bnd (MX12_quarters n h) (fun r h2 => k r h2) = some r := H
    obtain ⟨v2, h2, H1, H2⟩ := bnd_some H
    exact ⟨v2, h2, H2, met_mk (mok_base okX12_quarters).1 (by decide +kernel) (Nat.le_of_ble_eq_true rfl) ho (sMX12_quarters h8 n  h H1 ⟨rfl, rfl⟩), fun q => by cases q⟩
/-! X12_comesTo -/
def sdX12_comesTo : SD := [(0, [(0, .iload_n 1, 1, [], 0), (1, .aload_n 0, 1, [], 0), (2, .getfield 56, 3, [12, 25, 44, 1, 1347, 0], 15), (5, .iconst 0, 1, [], 0), (6, .iaload, 1, [], 0), (7, .if_icmp .ne 24, 3, [], 0)]),
  (10, [(10, .iload_n 2, 1, [], 0), (11, .aload_n 0, 1, [], 0), (12, .getfield 56, 3, [12, 25, 44, 1, 1347, 0], 15), (15, .iconst 1, 1, [], 0), (16, .iaload, 1, [], 0), (17, .if_icmp .ne 14, 3, [], 0)]),
  (20, [(20, .iload_n 3, 1, [], 0), (21, .aload_n 0, 1, [], 0), (22, .getfield 56, 3, [12, 25, 44, 1, 1347, 0], 15), (25, .iconst 2, 1, [], 0), (26, .iaload, 1, [], 0), (27, .if_icmp .ne 4, 3, [], 0)]),
  (30, [(30, .return_, 1, [], 0)]),
  (31, [(31, .aload_n 0, 1, [], 0), (32, .aload_n 0, 1, [], 0), (33, .getfield 273, 3, [12, 26, 0, 0, 1348, 0], 0), (36, .ifCond .ne 45, 3, [], 0)]),
  (39, [(39, .iload_n 1, 1, [], 0), (40, .i2l, 1, [], 0), (41, .ldc2_w 276, 3, [1, 1619], (-100000)), (44, .ldc2_w 278, 3, [1, 1620], 100000), (47, .invokestatic 217, 3, [1, 0, 3, 81, 1561, 1, 1, 1], 0), (50, .ifCond .eq 31, 3, [], 0)]),
  (53, [(53, .iload_n 2, 1, [], 0), (54, .i2l, 1, [], 0), (55, .ldc2_w 276, 3, [1, 1619], (-100000)), (58, .ldc2_w 278, 3, [1, 1620], 100000), (61, .invokestatic 217, 3, [1, 0, 3, 81, 1561, 1, 1, 1], 0), (64, .ifCond .eq 17, 3, [], 0)]),
  (67, [(67, .iload_n 3, 1, [], 0), (68, .i2l, 1, [], 0), (69, .ldc2_w 276, 3, [1, 1619], (-100000)), (72, .ldc2_w 278, 3, [1, 1620], 100000), (75, .invokestatic 217, 3, [1, 0, 3, 81, 1561, 1, 1, 1], 0), (78, .ifCond .ne 7, 3, [], 0)]),
  (81, [(81, .iconst 1, 1, [], 0), (82, .goto 4, 3, [], 0)]),
  (85, [(85, .iconst 0, 1, [], 0)]),
  (86, [(86, .putfield 273, 3, [12, 26, 0, 0, 1, 1348], 0), (89, .aload_n 0, 1, [], 0), (90, .getfield 56, 3, [12, 25, 44, 1, 1347, 0], 15), (93, .iconst 0, 1, [], 0), (94, .iload_n 1, 1, [], 0), (95, .iastore, 1, [], 0), (96, .aload_n 0, 1, [], 0), (97, .getfield 56, 3, [12, 25, 44, 1, 1347, 0], 15), (100, .iconst 1, 1, [], 0), (101, .iload_n 2, 1, [], 0), (102, .iastore, 1, [], 0), (103, .aload_n 0, 1, [], 0), (104, .getfield 56, 3, [12, 25, 44, 1, 1347, 0], 15), (107, .iconst 2, 1, [], 0), (108, .iload_n 3, 1, [], 0), (109, .iastore, 1, [], 0), (110, .aload_n 0, 1, [], 0), (111, .getfield 131, 3, [12, 3, 0, 0, 1325, 0], 0), (114, .bipush 64, 2, [], 0), (116, .if_icmp .ne 9, 3, [], 0)]),
  (119, [(119, .aload_n 0, 1, [], 0), (120, .iconst 1, 1, [], 0), (121, .putfield 280, 3, [12, 27, 0, 0, 1, 1349], 0), (124, .return_, 1, [], 0)]),
  (125, [(125, .aload_n 0, 1, [], 0), (126, .getfield 31, 3, [12, 12, 532, 1, 1334, 0], 7), (129, .aload_n 0, 1, [], 0), (130, .getfield 131, 3, [12, 3, 0, 0, 1325, 0], 0), (133, .iload 4, 2, [], 0), (135, .iastore, 1, [], 0), (136, .aload_n 0, 1, [], 0), (137, .getfield 34, 3, [12, 13, 532, 1, 1335, 0], 8), (140, .aload_n 0, 1, [], 0), (141, .getfield 131, 3, [12, 3, 0, 0, 1325, 0], 0), (144, .aload_n 0, 1, [], 0), (145, .getfield 127, 3, [12, 2, 0, 0, 1324, 0], 0), (148, .iconst 1, 1, [], 0), (149, .isub, 1, [], 0), (150, .iastore, 1, [], 0), (151, .aload_n 0, 1, [], 0), (152, .dup, 1, [], 0), (153, .getfield 131, 3, [12, 3, 0, 0, 1325, 0], 0), (156, .iconst 1, 1, [], 0), (157, .iadd, 1, [], 0), (158, .putfield 131, 3, [12, 3, 0, 0, 0, 1325], 0), (161, .iconst 0, 1, [], 0), (162, .istore 5, 2, [], 0)]),
  (164, [(164, .iload 5, 2, [], 0), (166, .iconst 3, 1, [], 0), (167, .if_icmp .ge 30, 3, [], 0)]),
  (170, [(170, .aload_n 0, 1, [], 0), (171, .getfield 28, 3, [12, 11, 1580, 1, 1333, 0], 6), (174, .iconst 3, 1, [], 0), (175, .aload_n 0, 1, [], 0), (176, .getfield 131, 3, [12, 3, 0, 0, 1325, 0], 0), (179, .imul, 1, [], 0), (180, .iload 5, 2, [], 0), (182, .iadd, 1, [], 0), (183, .aload_n 0, 1, [], 0), (184, .getfield 56, 3, [12, 25, 44, 1, 1347, 0], 15), (187, .iload 5, 2, [], 0), (189, .iaload, 1, [], 0), (190, .iastore, 1, [], 0), (191, .iinc 5 1, 3, [], 0), (194, .goto (-30), 3, [], 0)]),
  (197, [(197, .return_, 1, [], 0)])]
def BX12_comesTo_164 (n : Nat) : Nat → Int → Hp → Option (Hp)
  | 0, _, _ => none
  | f + 1, x5, h =>
    (if 3 ≤ x5 then
    (some h)
    else
    (grd (0 ≤ x5 ∧ x5 < alen 44)
    (grd (0 ≤ (w32 ((w32 (3 * (h 113 3))) + x5)) ∧ (w32 ((w32 (3 * (h 113 3))) + x5)) < alen 1580)
    (ltt (up h 119 (w32 ((w32 (3 * (h 113 3))) + x5)) (h 128 x5)) fun h1 =>
    (ltt (w32 (x5 + 1)) fun y1 =>
    (BX12_comesTo_164 n f y1 h1))))))
def LX12_comesTo_164 (n : Nat) (x5 : Int) (h : Hp) : Option (Hp) :=
(BX12_comesTo_164 n n x5 h)
def JX12_comesTo_86 (n : Nat) (x1 x2 x3 x4 z1 : Int) (h : Hp) : Option (Hp) :=
(grd (z1 = 0 ∨ z1 = 1)
(ltt (up h 113 26 z1) fun h1 =>
(grd (0 ≤ 0 ∧ 0 < alen 44)
(ltt (up h1 128 0 x1) fun h2 =>
(grd (0 ≤ 1 ∧ 1 < alen 44)
(ltt (up h2 128 1 x2) fun h3 =>
(grd (0 ≤ 2 ∧ 2 < alen 44)
(ltt (up h3 128 2 x3) fun h4 =>
(if (h4 113 3) ≠ 64 then
(grd (0 ≤ (h4 113 3) ∧ (h4 113 3) < alen 532)
(ltt (up h4 120 (h4 113 3) x4) fun h5 =>
(grd (0 ≤ (h5 113 3) ∧ (h5 113 3) < alen 532)
(ltt (up h5 121 (h5 113 3) (w32 ((h5 113 2) - 1))) fun h6 =>
(ltt (up h6 113 3 (w32 ((h6 113 3) + 1))) fun h7 =>
(ltt 0 fun y1 =>
(LX12_comesTo_164 n y1 h7)))))))
else
(ltt (up h4 113 27 1) fun h8 =>
(some h8)))))))))))
def JX12_comesTo_81 (n : Nat) (x1 x2 x3 x4 : Int) (h : Hp) : Option (Hp) :=
(JX12_comesTo_86 n x1 x2 x3 x4 1 h)
def JX12_comesTo_31 (n : Nat) (x1 x2 x3 x4 : Int) (h : Hp) : Option (Hp) :=
(if (h 113 26) ≠ 0 then
(JX12_comesTo_81 n x1 x2 x3 x4 h)
else
(bndp (MX12_in x1 (-100000) 100000) fun r1 =>
(if r1 = 0 then
(JX12_comesTo_81 n x1 x2 x3 x4 h)
else
(bndp (MX12_in x2 (-100000) 100000) fun r2 =>
(if r2 = 0 then
(JX12_comesTo_81 n x1 x2 x3 x4 h)
else
(bndp (MX12_in x3 (-100000) 100000) fun r3 =>
(if r3 ≠ 0 then
(JX12_comesTo_86 n x1 x2 x3 x4 0 h)
else
(JX12_comesTo_81 n x1 x2 x3 x4 h))))))))
def MX12_comesTo (n : Nat) (x1 x2 x3 x4 : Int) (h : Hp) : Option (Hp) :=
(grd (0 ≤ 0 ∧ 0 < alen 44)
(if x1 ≠ (h 128 0) then
(JX12_comesTo_31 n x1 x2 x3 x4 h)
else
(grd (0 ≤ 1 ∧ 1 < alen 44)
(if x2 ≠ (h 128 1) then
(JX12_comesTo_31 n x1 x2 x3 x4 h)
else
(grd (0 ≤ 2 ∧ 2 < alen 44)
(if x3 ≠ (h 128 2) then
(JX12_comesTo_31 n x1 x2 x3 x4 h)
else
(some h)))))))
def wX12_comesTo {ρ : Type} (n : Nat) : FN ρ := fun a h k => match a with
  | [_, x1, x2, x3, x4] => bndh (MX12_comesTo n x1 x2 x3 x4 h) (fun h2 => k 0 h2)
  | _ => none
def fsX12_comesTo (n : Nat) (ρ : Type) : List (FN ρ) := [wX12_in]
def KBX12_comesTo_164 (_ : Nat) (bk : Int → Hp → Option (Hp)) : CT (Hp) := [(164, [(0, 16, (some 113)), (5, 0, none)], [], fun a c h => match a, c with
    | [x5], [] => bk x5 h
    | _, _ => none)]
set_option maxRecDepth 100000 in
theorem eBX12_comesTo_164 (n f : Nat) (x5 : Int) (h : Hp) : BX12_comesTo_164 n (f + 1) x5 h =
  goAt false (kct (KBX12_comesTo_164 n (BX12_comesTo_164 n f))) (fun _ h => some (h)) (fsX12_comesTo n _) sdX12_comesTo 1000 164 [(0, 16, 113), (5, 0, x5)] [] h := rfl
def KJX12_comesTo_86 (n : Nat) : CT (Hp) := [(164, [(0, 16, (some 113)), (5, 0, none)], [], fun a c h => match a, c with
    | [x5], [] => LX12_comesTo_164 n x5 h
    | _, _ => none)]
set_option maxRecDepth 100000 in
theorem eJX12_comesTo_86 (n : Nat) (x1 : Int) (x2 : Int) (x3 : Int) (x4 : Int) (z1 : Int) (h : Hp) : JX12_comesTo_86 n x1 x2 x3 x4 z1 h =
  goAt false (kct (KJX12_comesTo_86 n)) (fun _ h => some (h)) (fsX12_comesTo n _) sdX12_comesTo 1000 86 [(0, 16, 113), (1, 0, x1), (2, 0, x2), (3, 0, x3), (4, 0, x4)] [(0, z1), (16, 113)] h := rfl
def KJX12_comesTo_81 (n : Nat) : CT (Hp) := [(86, [(0, 16, (some 113)), (1, 0, none), (2, 0, none), (3, 0, none), (4, 0, none)], [(0, none), (16, (some 113))], fun a c h => match a, c with
    | [x1, x2, x3, x4], [z1] => JX12_comesTo_86 n x1 x2 x3 x4 z1 h
    | _, _ => none)]
set_option maxRecDepth 100000 in
theorem eJX12_comesTo_81 (n : Nat) (x1 : Int) (x2 : Int) (x3 : Int) (x4 : Int) (h : Hp) : JX12_comesTo_81 n x1 x2 x3 x4 h =
  goAt false (kct (KJX12_comesTo_81 n)) (fun _ h => some (h)) (fsX12_comesTo n _) sdX12_comesTo 1000 81 [(0, 16, 113), (1, 0, x1), (2, 0, x2), (3, 0, x3), (4, 0, x4)] [(16, 113)] h := rfl
def KJX12_comesTo_31 (n : Nat) : CT (Hp) := [(86, [(0, 16, (some 113)), (1, 0, none), (2, 0, none), (3, 0, none), (4, 0, none)], [(0, none), (16, (some 113))], fun a c h => match a, c with
    | [x1, x2, x3, x4], [z1] => JX12_comesTo_86 n x1 x2 x3 x4 z1 h
    | _, _ => none),
  (81, [(0, 16, (some 113)), (1, 0, none), (2, 0, none), (3, 0, none), (4, 0, none)], [(16, (some 113))], fun a c h => match a, c with
    | [x1, x2, x3, x4], [] => JX12_comesTo_81 n x1 x2 x3 x4 h
    | _, _ => none)]
set_option maxRecDepth 100000 in
theorem eJX12_comesTo_31 (n : Nat) (x1 : Int) (x2 : Int) (x3 : Int) (x4 : Int) (h : Hp) : JX12_comesTo_31 n x1 x2 x3 x4 h =
  goAt false (kct (KJX12_comesTo_31 n)) (fun _ h => some (h)) (fsX12_comesTo n _) sdX12_comesTo 1000 31 [(0, 16, 113), (1, 0, x1), (2, 0, x2), (3, 0, x3), (4, 0, x4)] [] h := rfl
def KMX12_comesTo (n : Nat) : CT (Hp) := [(31, [(0, 16, (some 113)), (1, 0, none), (2, 0, none), (3, 0, none), (4, 0, none)], [], fun a c h => match a, c with
    | [x1, x2, x3, x4], [] => JX12_comesTo_31 n x1 x2 x3 x4 h
    | _, _ => none)]
set_option maxRecDepth 100000 in
theorem eMX12_comesTo (n : Nat) (x1 : Int) (x2 : Int) (x3 : Int) (x4 : Int) (h : Hp) : MX12_comesTo n x1 x2 x3 x4 h =
  goAt false (kct (KMX12_comesTo n)) (fun _ h => some (h)) (fsX12_comesTo n _) sdX12_comesTo 1000 0 [(0, 16, 113), (1, 0, x1), (2, 0, x2), (3, 0, x3), (4, 0, x4)] [] h := rfl
theorem okX12_comesTo : mokb (mi 91) = true := by decide +kernel
theorem rkX12_comesTo : rkOK 0 (mi 91).1.2.2.2.2.2.2.1 (mi 91).1.2.2.2.1 := Or.inl ⟨rfl, rfl, rfl⟩
def calX12_comesTo : List Nat := [81]
theorem foX12_comesTo {l : Launch} {ρ : Type} (n : Nat) : fsOK l false mi calX12_comesTo (fsX12_comesTo n ρ) := ⟨sndX12_in, trivial⟩
theorem ok_sdX12_comesTo : sdb (mi 91).1.2.1 (insOK mi (mi 91).1.1.cls (mi 91).1.2.2.1 (mi 91).1.2.2.2.2.1 (mi 91).1.2.2.2.2.2.1 calX12_comesTo false 0) sdX12_comesTo = true := by decide +kernel
theorem sBX12_comesTo_164 {l : Launch} {h0 h' : Hp} {v : Int} (h8 : nOf h0 = 148) (n : Nat) : ∀ (f : Nat) (x5 : Int) (h : Hp) {r : Hp}, BX12_comesTo_164 n f x5 h = some r → gW h' r → PAt l false (mi 91).1 h0 v h' 164 [(0, 16, 113), (5, 0, x5)] [] h := by
  intro f
  induction f with
  | zero =>
    intro x5 h r H _
    have H2 : (none : Option (Hp)) = some r := H
    cases H2
  | succ f ih =>
    intro x5 h r H hG
    exact pat_w ok_sdX12_comesTo rkX12_comesTo h8 (foX12_comesTo n) (fun v1 h1 q => by
    cases q
    exact ⟨hG, fun q9 => absurd rfl q9⟩) (List.forall_mem_cons.mpr ⟨(fun a c h H => by
      dsimp only at H
      split at H
      · exact ih _ _ H hG
      · cases H), (fun q9 h9 => by cases h9)⟩) ((eBX12_comesTo_164 n f x5 h).symm.trans H)
theorem sLX12_comesTo_164 {l : Launch} {h0 h' : Hp} {v : Int} (h8 : nOf h0 = 148) (n : Nat) (x5 : Int) (h : Hp) {r : Hp} (H : LX12_comesTo_164 n x5 h = some r) (hG : gW h' r) : PAt l false (mi 91).1 h0 v h' 164 [(0, 16, 113), (5, 0, x5)] [] h :=
  sBX12_comesTo_164 h8 n n x5 h H hG
theorem sJX12_comesTo_86 {l : Launch} {h0 h' : Hp} {v : Int} (h8 : nOf h0 = 148) (n : Nat) (x1 : Int) (x2 : Int) (x3 : Int) (x4 : Int) (z1 : Int) (h : Hp) {r : Hp} (H : JX12_comesTo_86 n x1 x2 x3 x4 z1 h = some r) (hG : gW h' r) : PAt l false (mi 91).1 h0 v h' 86 [(0, 16, 113), (1, 0, x1), (2, 0, x2), (3, 0, x3), (4, 0, x4)] [(0, z1), (16, 113)] h :=
  pat_w ok_sdX12_comesTo rkX12_comesTo h8 (foX12_comesTo n) (fun v1 h1 q => by
    cases q
    exact ⟨hG, fun q9 => absurd rfl q9⟩) (List.forall_mem_cons.mpr ⟨(fun a c h H => by
      dsimp only at H
      split at H
      · exact sLX12_comesTo_164 h8 n _ _ H hG
      · cases H), (fun q9 h9 => by cases h9)⟩) ((eJX12_comesTo_86 n x1 x2 x3 x4 z1 h).symm.trans H)
theorem sJX12_comesTo_81 {l : Launch} {h0 h' : Hp} {v : Int} (h8 : nOf h0 = 148) (n : Nat) (x1 : Int) (x2 : Int) (x3 : Int) (x4 : Int) (h : Hp) {r : Hp} (H : JX12_comesTo_81 n x1 x2 x3 x4 h = some r) (hG : gW h' r) : PAt l false (mi 91).1 h0 v h' 81 [(0, 16, 113), (1, 0, x1), (2, 0, x2), (3, 0, x3), (4, 0, x4)] [(16, 113)] h :=
  pat_w ok_sdX12_comesTo rkX12_comesTo h8 (foX12_comesTo n) (fun v1 h1 q => by
    cases q
    exact ⟨hG, fun q9 => absurd rfl q9⟩) (List.forall_mem_cons.mpr ⟨(fun a c h H => by
      dsimp only at H
      split at H
      · exact sJX12_comesTo_86 h8 n _ _ _ _ _ _ H hG
      · cases H), (fun q9 h9 => by cases h9)⟩) ((eJX12_comesTo_81 n x1 x2 x3 x4 h).symm.trans H)
theorem sJX12_comesTo_31 {l : Launch} {h0 h' : Hp} {v : Int} (h8 : nOf h0 = 148) (n : Nat) (x1 : Int) (x2 : Int) (x3 : Int) (x4 : Int) (h : Hp) {r : Hp} (H : JX12_comesTo_31 n x1 x2 x3 x4 h = some r) (hG : gW h' r) : PAt l false (mi 91).1 h0 v h' 31 [(0, 16, 113), (1, 0, x1), (2, 0, x2), (3, 0, x3), (4, 0, x4)] [] h :=
  pat_w ok_sdX12_comesTo rkX12_comesTo h8 (foX12_comesTo n) (fun v1 h1 q => by
    cases q
    exact ⟨hG, fun q9 => absurd rfl q9⟩) (List.forall_mem_cons.mpr ⟨(fun a c h H => by
      dsimp only at H
      split at H
      · exact sJX12_comesTo_86 h8 n _ _ _ _ _ _ H hG
      · cases H), (List.forall_mem_cons.mpr ⟨(fun a c h H => by
      dsimp only at H
      split at H
      · exact sJX12_comesTo_81 h8 n _ _ _ _ _ H hG
      · cases H), (fun q9 h9 => by cases h9)⟩)⟩) ((eJX12_comesTo_31 n x1 x2 x3 x4 h).symm.trans H)
theorem sMX12_comesTo {l : Launch} {h0 h' : Hp} {v : Int} (h8 : nOf h0 = 148) (n : Nat) (x1 : Int) (x2 : Int) (x3 : Int) (x4 : Int) (h : Hp) {r : Hp} (H : MX12_comesTo n x1 x2 x3 x4 h = some r) (hG : gW h' r) : PAt l false (mi 91).1 h0 v h' 0 [(0, 16, 113), (1, 0, x1), (2, 0, x2), (3, 0, x3), (4, 0, x4)] [] h :=
  pat_w ok_sdX12_comesTo rkX12_comesTo h8 (foX12_comesTo n) (fun v1 h1 q => by
    cases q
    exact ⟨hG, fun q9 => absurd rfl q9⟩) (List.forall_mem_cons.mpr ⟨(fun a c h H => by
      dsimp only at H
      split at H
      · exact sJX12_comesTo_31 h8 n _ _ _ _ _ H hG
      · cases H), (fun q9 h9 => by cases h9)⟩) ((eMX12_comesTo n x1 x2 x3 x4 h).symm.trans H)
theorem sndX12_comesTo {ρ : Type} {l : Launch} (n : Nat) : SndF (ρ := ρ) l false (mi 91).1 (wX12_comesTo n) := by
    intro a h k r H ha ho hn hf
    have h8 := hf rfl
    obtain ⟨x0, x1, x2, x3, x4, rfl⟩ := len5 (show a.length = 5 from ha)
    have u0 := uq16 hn (ho (16, x0) (List.mem_cons_self))
    subst u0
    replace H : bndh (MX12_comesTo n x1 x2 x3 x4 h) (fun h2 => k 0 h2) = some r := H
    obtain ⟨h2, H1, H2⟩ := bndh_some H
    exact ⟨0, h2, H2, met_mk (mok_base okX12_comesTo).1 (by decide +kernel) (Nat.le_of_ble_eq_true rfl) ho (sMX12_comesTo h8 n x1 x2 x3 x4 h H1 rfl), fun q => by cases q⟩
/-! X12_square -/
def sdX12_square : SD := [(0, [(0, .lload_n 0, 1, [], 0), (1, .lload_n 0, 1, [], 0), (2, .lmul, 1, [], 0), (3, .lreturn, 1, [], 0)])]
def MX12_square (x0 : Int) : Option (Int) :=
(some (w64 (x0 * x0)))
def wX12_square {ρ : Type} : FN ρ := fun a h k => match a with
  | [x0] => bndp (MX12_square x0) (fun r => k r h)
  | _ => none
def fsX12_square (ρ : Type) : List (FN ρ) := []
def KMX12_square  : CT (Int) := []
set_option maxRecDepth 100000 in
theorem eMX12_square (x0 : Int) (h : Hp) : MX12_square x0 =
  goAt false (kct (KMX12_square)) (fun v _ => some (v)) (fsX12_square _) sdX12_square 1000 0 [(0, 1, x0)] [] h := rfl
theorem okX12_square : mokb (mi 92) = true := by decide +kernel
theorem rkX12_square : rkOK 2 (mi 92).1.2.2.2.2.2.2.1 (mi 92).1.2.2.2.1 := Or.inr (Or.inr (Or.inr (Or.inl ⟨rfl, rfl, rfl⟩)))
def calX12_square : List Nat := []
theorem foX12_square {l : Launch} {ρ : Type} : fsOK l false mi calX12_square (fsX12_square ρ) := trivial
theorem frX12_square {ρ : Type} : ∀ fn ∈ fsX12_square ρ, RoF fn := (fun q9 h9 => by cases h9)
theorem ok_sdX12_square : sdb (mi 92).1.2.1 (insOK mi (mi 92).1.1.cls (mi 92).1.2.2.1 (mi 92).1.2.2.2.2.1 (mi 92).1.2.2.2.2.2.1 calX12_square false 2) sdX12_square = true := by decide +kernel
theorem sMX12_square {l : Launch} {h0 : Hp} {v : Int} (h8 : nOf h0 = 148)  (x0 : Int) (h : Hp) {r : Int} (H : MX12_square x0 = some r) (hG : gV v r) : PAt l false (mi 92).1 h0 v h 0 [(0, 1, x0)] [] h :=
  pat_ro ok_sdX12_square rfl rkX12_square h8 (foX12_square) (frX12_square) (fun v1 q => by
    cases q
    exact ⟨rfl, fun _ => hG⟩) (fun q9 h9 => by cases h9) ((eMX12_square x0 h).symm.trans H)
theorem sndX12_square {ρ : Type} {l : Launch} : SndF (ρ := ρ) l false (mi 92).1 (wX12_square) := by
    intro a h k r H ha ho hn hf
    have h8 := hf rfl
    obtain ⟨x0, rfl⟩ := len1 (show a.length = 1 from ha)
    replace H : bndp (MX12_square x0) (fun r => k r h) = some r := H
    obtain ⟨v2, H1, H2⟩ := bndp_some H
    exact ⟨v2, h, H2, met_mk (mok_base okX12_square).1 (by decide +kernel) (Nat.le_of_ble_eq_true rfl) ho (sMX12_square h8 x0 h H1 rfl), fun q => by cases q⟩
theorem roX12_square {ρ : Type} : RoF (wX12_square : FN ρ) := fun a h k k2 hk => by
  unfold wX12_square
  split
  · exact bndp_ro hk
  · rfl
/-! X12_root -/
def sdX12_root : SD := [(0, [(0, .lconst 0, 1, [], 0), (1, .lstore_n 2, 1, [], 0), (2, .ldc2_w 123, 3, [1, 1320], 3037000499), (5, .lstore 4, 2, [], 0)]),
  (7, [(7, .lload_n 2, 1, [], 0), (8, .lload 4, 2, [], 0), (10, .lcmp, 1, [], 0), (11, .ifCond .ge 40, 3, [], 0)]),
  (14, [(14, .lload_n 2, 1, [], 0), (15, .lload 4, 2, [], 0), (17, .ladd, 1, [], 0), (18, .lconst 1, 1, [], 0), (19, .ladd, 1, [], 0), (20, .ldc2_w 125, 3, [1, 1321], 2), (23, .ldiv, 1, [], 0), (24, .lstore 6, 2, [], 0), (26, .lload 6, 2, [], 0), (28, .lload 6, 2, [], 0), (30, .lmul, 1, [], 0), (31, .lload_n 0, 1, [], 0), (32, .lcmp, 1, [], 0), (33, .ifCond .gt 9, 3, [], 0)]),
  (36, [(36, .lload 6, 2, [], 0), (38, .lstore_n 2, 1, [], 0), (39, .goto 9, 3, [], 0)]),
  (42, [(42, .lload 6, 2, [], 0), (44, .lconst 1, 1, [], 0), (45, .lsub, 1, [], 0), (46, .lstore 4, 2, [], 0)]),
  (48, [(48, .goto (-41), 3, [], 0)]),
  (51, [(51, .lload_n 2, 1, [], 0), (52, .l2i, 1, [], 0), (53, .ireturn, 1, [], 0)])]
def BX12_root_7 (n : Nat) : Nat → Int → Int → Int → Option (Int)
  | 0, _, _, _ => none
  | f + 1, x0, x2, x4 =>
    (if 0 ≤ (lcp x2 x4) then
    (some (w32 x2))
    else
    (grd (¬ 2 = 0)
    (ltt (w64 (Int.tdiv (w64 ((w64 (x2 + x4)) + 1)) 2)) fun y1 =>
    (if 0 < (lcp (w64 (y1 * y1)) x0) then
    (ltt (w64 (y1 - 1)) fun y2 =>
    (BX12_root_7 n f x0 x2 y2))
    else
    (ltt y1 fun y3 =>
    (BX12_root_7 n f x0 y3 x4))))))
def LX12_root_7 (n : Nat) (x0 x2 x4 : Int) : Option (Int) :=
(BX12_root_7 n n x0 x2 x4)
def MX12_root (n : Nat) (x0 : Int) : Option (Int) :=
(ltt 0 fun y1 =>
(ltt 3037000499 fun y2 =>
(LX12_root_7 n x0 y1 y2)))
def wX12_root {ρ : Type} (n : Nat) : FN ρ := fun a h k => match a with
  | [x0] => bndp (MX12_root n x0) (fun r => k r h)
  | _ => none
def fsX12_root (n : Nat) (ρ : Type) : List (FN ρ) := []
def KBX12_root_7 (_ : Nat) (bk : Int → Int → Int → Option (Int)) : CT (Int) := [(7, [(0, 1, none), (2, 1, none), (4, 1, none)], [], fun a c _ => match a, c with
    | [x0, x2, x4], [] => bk x0 x2 x4
    | _, _ => none)]
set_option maxRecDepth 100000 in
theorem eBX12_root_7 (n f : Nat) (x0 : Int) (x2 : Int) (x4 : Int) (h : Hp) : BX12_root_7 n (f + 1) x0 x2 x4 =
  goAt false (kct (KBX12_root_7 n (BX12_root_7 n f))) (fun v _ => some (v)) (fsX12_root n _) sdX12_root 1000 7 [(0, 1, x0), (2, 1, x2), (4, 1, x4)] [] h := rfl
def KMX12_root (n : Nat) : CT (Int) := [(7, [(0, 1, none), (2, 1, none), (4, 1, none)], [], fun a c _ => match a, c with
    | [x0, x2, x4], [] => LX12_root_7 n x0 x2 x4
    | _, _ => none)]
set_option maxRecDepth 100000 in
theorem eMX12_root (n : Nat) (x0 : Int) (h : Hp) : MX12_root n x0 =
  goAt false (kct (KMX12_root n)) (fun v _ => some (v)) (fsX12_root n _) sdX12_root 1000 0 [(0, 1, x0)] [] h := rfl
theorem okX12_root : mokb (mi 93) = true := by decide +kernel
theorem rkX12_root : rkOK 1 (mi 93).1.2.2.2.2.2.2.1 (mi 93).1.2.2.2.1 := Or.inr (Or.inl ⟨rfl, rfl, rfl⟩)
def calX12_root : List Nat := []
theorem foX12_root {l : Launch} {ρ : Type} (n : Nat) : fsOK l false mi calX12_root (fsX12_root n ρ) := trivial
theorem frX12_root {ρ : Type} (n : Nat) : ∀ fn ∈ fsX12_root n ρ, RoF fn := (fun q9 h9 => by cases h9)
theorem ok_sdX12_root : sdb (mi 93).1.2.1 (insOK mi (mi 93).1.1.cls (mi 93).1.2.2.1 (mi 93).1.2.2.2.2.1 (mi 93).1.2.2.2.2.2.1 calX12_root false 1) sdX12_root = true := by decide +kernel
theorem sBX12_root_7 {l : Launch} {h0 : Hp} {v : Int} (h8 : nOf h0 = 148) (n : Nat) (h : Hp) : ∀ (f : Nat) (x0 : Int) (x2 : Int) (x4 : Int) {r : Int}, BX12_root_7 n f x0 x2 x4 = some r → gV v r → PAt l false (mi 93).1 h0 v h 7 [(0, 1, x0), (2, 1, x2), (4, 1, x4)] [] h := by
  intro f
  induction f with
  | zero =>
    intro x0 x2 x4 r H _
    have H2 : (none : Option (Int)) = some r := H
    cases H2
  | succ f ih =>
    intro x0 x2 x4 r H hG
    exact pat_ro ok_sdX12_root rfl rkX12_root h8 (foX12_root n) (frX12_root n) (fun v1 q => by
    cases q
    exact ⟨rfl, fun _ => hG⟩) (List.forall_mem_cons.mpr ⟨(fun a c H => by
      dsimp only at H
      split at H
      · exact ih _ _ _ H hG
      · cases H), (fun q9 h9 => by cases h9)⟩) ((eBX12_root_7 n f x0 x2 x4 h).symm.trans H)
theorem sLX12_root_7 {l : Launch} {h0 : Hp} {v : Int} (h8 : nOf h0 = 148) (n : Nat) (x0 : Int) (x2 : Int) (x4 : Int) (h : Hp) {r : Int} (H : LX12_root_7 n x0 x2 x4 = some r) (hG : gV v r) : PAt l false (mi 93).1 h0 v h 7 [(0, 1, x0), (2, 1, x2), (4, 1, x4)] [] h :=
  sBX12_root_7 h8 n h n x0 x2 x4 H hG
theorem sMX12_root {l : Launch} {h0 : Hp} {v : Int} (h8 : nOf h0 = 148) (n : Nat) (x0 : Int) (h : Hp) {r : Int} (H : MX12_root n x0 = some r) (hG : gV v r) : PAt l false (mi 93).1 h0 v h 0 [(0, 1, x0)] [] h :=
  pat_ro ok_sdX12_root rfl rkX12_root h8 (foX12_root n) (frX12_root n) (fun v1 q => by
    cases q
    exact ⟨rfl, fun _ => hG⟩) (List.forall_mem_cons.mpr ⟨(fun a c H => by
      dsimp only at H
      split at H
      · exact sLX12_root_7 h8 n _ _ _ _ H hG
      · cases H), (fun q9 h9 => by cases h9)⟩) ((eMX12_root n x0 h).symm.trans H)
theorem sndX12_root {ρ : Type} {l : Launch} (n : Nat) : SndF (ρ := ρ) l false (mi 93).1 (wX12_root n) := by
    intro a h k r H ha ho hn hf
    have h8 := hf rfl
    obtain ⟨x0, rfl⟩ := len1 (show a.length = 1 from ha)
    replace H : bndp (MX12_root n x0) (fun r => k r h) = some r := H
    obtain ⟨v2, H1, H2⟩ := bndp_some H
    exact ⟨v2, h, H2, met_mk (mok_base okX12_root).1 (by decide +kernel) (Nat.le_of_ble_eq_true rfl) ho (sMX12_root h8 n x0 h H1 rfl), fun q => by cases q⟩
theorem roX12_root {ρ : Type} (n : Nat) : RoF (wX12_root n : FN ρ) := fun a h k k2 hk => by
  unfold wX12_root
  split
  · exact bndp_ro hk
  · rfl
/-! X12_bulge -/
def sdX12_bulge : SD := [(0, [(0, .iload_n 1, 1, [], 0), (1, .aload_n 0, 1, [], 0), (2, .getfield 59, 3, [12, 28, 285, 1, 1350, 0], 16), (5, .iconst 0, 1, [], 0), (6, .laload, 1, [], 0), (7, .aload_n 0, 1, [], 0), (8, .getfield 59, 3, [12, 28, 285, 1, 1350, 0], 16), (11, .iconst 1, 1, [], 0), (12, .laload, 1, [], 0), (13, .ladd, 1, [], 0), (14, .invokestatic 150, 3, [2, 0, 3, 92, 1314, 1], 0), (17, .aload_n 0, 1, [], 0), (18, .getfield 62, 3, [12, 29, 285, 1, 1351, 0], 17), (21, .iconst 0, 1, [], 0), (22, .laload, 1, [], 0), (23, .aload_n 0, 1, [], 0), (24, .getfield 62, 3, [12, 29, 285, 1, 1351, 0], 17), (27, .iconst 1, 1, [], 0), (28, .laload, 1, [], 0), (29, .ladd, 1, [], 0), (30, .invokestatic 150, 3, [2, 0, 3, 92, 1314, 1], 0), (33, .ladd, 1, [], 0), (34, .invokestatic 154, 3, [1, 1, 3, 93, 1317, 1], 0), (37, .iconst 2, 1, [], 0), (38, .idiv, 1, [], 0), (39, .isub, 1, [], 0), (40, .ireturn, 1, [], 0)])]
def MX12_bulge (n : Nat) (x1 : Int) (h : Hp) : Option (Int) :=
(grd (0 ≤ 0 ∧ 0 < alen 285)
(grd (0 ≤ 1 ∧ 1 < alen 285)
(bndp (MX12_square (w64 ((h 129 0) + (h 129 1)))) fun r1 =>
(grd (0 ≤ 0 ∧ 0 < alen 285)
(grd (0 ≤ 1 ∧ 1 < alen 285)
(bndp (MX12_square (w64 ((h 130 0) + (h 130 1)))) fun r2 =>
(bndp (MX12_root n (w64 (r1 + r2))) fun r3 =>
(grd (¬ 2 = 0)
(some (w32 (x1 - (w32 (Int.tdiv r3 2)))))))))))))
def wX12_bulge {ρ : Type} (n : Nat) : FN ρ := fun a h k => match a with
  | [_, x1] => bndp (MX12_bulge n x1 h) (fun r => k r h)
  | _ => none
def fsX12_bulge (n : Nat) (ρ : Type) : List (FN ρ) := [wX12_square, wX12_root n]
def KMX12_bulge (_ : Nat) : CT (Int) := []
set_option maxRecDepth 100000 in
theorem eMX12_bulge (n : Nat) (x1 : Int) (h : Hp) : MX12_bulge n x1 h =
  goAt false (kct (KMX12_bulge n)) (fun v _ => some (v)) (fsX12_bulge n _) sdX12_bulge 1000 0 [(0, 16, 113), (1, 0, x1)] [] h := rfl
theorem okX12_bulge : mokb (mi 94) = true := by decide +kernel
theorem rkX12_bulge : rkOK 1 (mi 94).1.2.2.2.2.2.2.1 (mi 94).1.2.2.2.1 := Or.inr (Or.inl ⟨rfl, rfl, rfl⟩)
def calX12_bulge : List Nat := [92, 93]
theorem foX12_bulge {l : Launch} {ρ : Type} (n : Nat) : fsOK l false mi calX12_bulge (fsX12_bulge n ρ) := ⟨sndX12_square, ⟨(sndX12_root n), trivial⟩⟩
theorem frX12_bulge {ρ : Type} (n : Nat) : ∀ fn ∈ fsX12_bulge n ρ, RoF fn := (List.forall_mem_cons.mpr ⟨roX12_square, (List.forall_mem_cons.mpr ⟨(roX12_root n), (fun q9 h9 => by cases h9)⟩)⟩)
theorem ok_sdX12_bulge : sdb (mi 94).1.2.1 (insOK mi (mi 94).1.1.cls (mi 94).1.2.2.1 (mi 94).1.2.2.2.2.1 (mi 94).1.2.2.2.2.2.1 calX12_bulge false 1) sdX12_bulge = true := by decide +kernel
theorem sMX12_bulge {l : Launch} {h0 : Hp} {v : Int} (h8 : nOf h0 = 148) (n : Nat) (x1 : Int) (h : Hp) {r : Int} (H : MX12_bulge n x1 h = some r) (hG : gV v r) : PAt l false (mi 94).1 h0 v h 0 [(0, 16, 113), (1, 0, x1)] [] h :=
  pat_ro ok_sdX12_bulge rfl rkX12_bulge h8 (foX12_bulge n) (frX12_bulge n) (fun v1 q => by
    cases q
    exact ⟨rfl, fun _ => hG⟩) (fun q9 h9 => by cases h9) ((eMX12_bulge n x1 h).symm.trans H)
theorem sndX12_bulge {ρ : Type} {l : Launch} (n : Nat) : SndF (ρ := ρ) l false (mi 94).1 (wX12_bulge n) := by
    intro a h k r H ha ho hn hf
    have h8 := hf rfl
    obtain ⟨x0, x1, rfl⟩ := len2 (show a.length = 2 from ha)
    have u0 := uq16 hn (ho (16, x0) (List.mem_cons_self))
    subst u0
    replace H : bndp (MX12_bulge n x1 h) (fun r => k r h) = some r := H
    obtain ⟨v2, H1, H2⟩ := bndp_some H
    exact ⟨v2, h, H2, met_mk (mok_base okX12_bulge).1 (by decide +kernel) (Nat.le_of_ble_eq_true rfl) ho (sMX12_bulge h8 n x1 h H1 rfl), fun q => by cases q⟩
theorem roX12_bulge {ρ : Type} (n : Nat) : RoF (wX12_bulge n : FN ρ) := fun a h k k2 hk => by
  unfold wX12_bulge
  split
  · exact bndp_ro hk
  · rfl
/-! X12_halves -/
def sdX12_halves : SD := [(0, [(0, .aload_n 0, 1, [], 0), (1, .getfield 283, 3, [12, 30, 0, 0, 1352, 0], 0), (4, .istore_n 2, 1, [], 0)]),
  (5, [(5, .iload_n 2, 1, [], 0), (6, .ifCond .le 37, 3, [], 0)]),
  (9, [(9, .aload_n 0, 1, [], 0), (10, .getfield 59, 3, [12, 28, 285, 1, 1350, 0], 16), (13, .iconst 2, 1, [], 0), (14, .iload_n 2, 1, [], 0), (15, .imul, 1, [], 0), (16, .aload_n 0, 1, [], 0), (17, .getfield 59, 3, [12, 28, 285, 1, 1350, 0], 16), (20, .iload_n 2, 1, [], 0), (21, .laload, 1, [], 0), (22, .lastore, 1, [], 0), (23, .aload_n 0, 1, [], 0), (24, .getfield 62, 3, [12, 29, 285, 1, 1351, 0], 17), (27, .iconst 2, 1, [], 0), (28, .iload_n 2, 1, [], 0), (29, .imul, 1, [], 0), (30, .aload_n 0, 1, [], 0), (31, .getfield 62, 3, [12, 29, 285, 1, 1351, 0], 17), (34, .iload_n 2, 1, [], 0), (35, .laload, 1, [], 0), (36, .lastore, 1, [], 0), (37, .iinc 2 (-1), 3, [], 0), (40, .goto (-35), 3, [], 0)]),
  (43, [(43, .aload_n 0, 1, [], 0), (44, .dup, 1, [], 0), (45, .getfield 283, 3, [12, 30, 0, 0, 1352, 0], 0), (48, .iconst 2, 1, [], 0), (49, .imul, 1, [], 0), (50, .putfield 283, 3, [12, 30, 0, 0, 0, 1352], 0), (53, .iconst 1, 1, [], 0), (54, .istore_n 2, 1, [], 0)]),
  (55, [(55, .iload_n 2, 1, [], 0), (56, .aload_n 0, 1, [], 0), (57, .getfield 283, 3, [12, 30, 0, 0, 1352, 0], 0), (60, .if_icmp .ge 88, 3, [], 0)]),
  (63, [(63, .aload_n 0, 1, [], 0), (64, .getfield 59, 3, [12, 28, 285, 1, 1350, 0], 16), (67, .iload_n 2, 1, [], 0), (68, .iconst 1, 1, [], 0), (69, .isub, 1, [], 0), (70, .laload, 1, [], 0), (71, .aload_n 0, 1, [], 0), (72, .getfield 59, 3, [12, 28, 285, 1, 1350, 0], 16), (75, .iload_n 2, 1, [], 0), (76, .iconst 1, 1, [], 0), (77, .iadd, 1, [], 0), (78, .laload, 1, [], 0), (79, .ladd, 1, [], 0), (80, .lstore_n 3, 1, [], 0), (81, .aload_n 0, 1, [], 0), (82, .getfield 62, 3, [12, 29, 285, 1, 1351, 0], 17), (85, .iload_n 2, 1, [], 0), (86, .iconst 1, 1, [], 0), (87, .isub, 1, [], 0), (88, .laload, 1, [], 0), (89, .aload_n 0, 1, [], 0), (90, .getfield 62, 3, [12, 29, 285, 1, 1351, 0], 17), (93, .iload_n 2, 1, [], 0), (94, .iconst 1, 1, [], 0), (95, .iadd, 1, [], 0), (96, .laload, 1, [], 0), (97, .ladd, 1, [], 0), (98, .lstore 5, 2, [], 0), (100, .lload_n 3, 1, [], 0), (101, .lload_n 3, 1, [], 0), (102, .lmul, 1, [], 0), (103, .lload 5, 2, [], 0), (105, .lload 5, 2, [], 0), (107, .lmul, 1, [], 0), (108, .ladd, 1, [], 0), (109, .invokestatic 154, 3, [1, 0, 3, 93, 1317, 1], 0), (112, .i2l, 1, [], 0), (113, .lstore 7, 2, [], 0), (115, .aload_n 0, 1, [], 0), (116, .getfield 59, 3, [12, 28, 285, 1, 1350, 0], 16), (119, .iload_n 2, 1, [], 0), (120, .lload_n 3, 1, [], 0), (121, .iload_n 1, 1, [], 0), (122, .i2l, 1, [], 0), (123, .lmul, 1, [], 0), (124, .lload 7, 2, [], 0), (126, .ldiv, 1, [], 0), (127, .lastore, 1, [], 0), (128, .aload_n 0, 1, [], 0), (129, .getfield 62, 3, [12, 29, 285, 1, 1351, 0], 17), (132, .iload_n 2, 1, [], 0), (133, .lload 5, 2, [], 0), (135, .iload_n 1, 1, [], 0), (136, .i2l, 1, [], 0), (137, .lmul, 1, [], 0), (138, .lload 7, 2, [], 0), (140, .ldiv, 1, [], 0), (141, .lastore, 1, [], 0), (142, .iinc 2 2, 3, [], 0), (145, .goto (-90), 3, [], 0)]),
  (148, [(148, .return_, 1, [], 0)])]
def BX12_halves_5 (n : Nat) : Nat → Int → Int → Hp → Option (Int × Hp)
  | 0, _, _, _ => none
  | f + 1, x1, x2, h =>
    (if x2 ≤ 0 then
    (some (x1, h))
    else
    (grd (0 ≤ x2 ∧ x2 < alen 285)
    (grd (0 ≤ (w32 (2 * x2)) ∧ (w32 (2 * x2)) < alen 285)
    (ltt (up h 129 (w32 (2 * x2)) (h 129 x2)) fun h1 =>
    (grd (0 ≤ x2 ∧ x2 < alen 285)
    (grd (0 ≤ (w32 (2 * x2)) ∧ (w32 (2 * x2)) < alen 285)
    (ltt (up h1 130 (w32 (2 * x2)) (h1 130 x2)) fun h2 =>
    (ltt (w32 (x2 + (-1))) fun y1 =>
    (BX12_halves_5 n f x1 y1 h2)))))))))
def BX12_halves_55 (n : Nat) : Nat → Int → Int → Hp → Option (Hp)
  | 0, _, _, _ => none
  | f + 1, x1, x2, h =>
    (if (h 113 30) ≤ x2 then
    (some h)
    else
    (grd (0 ≤ (w32 (x2 - 1)) ∧ (w32 (x2 - 1)) < alen 285)
    (grd (0 ≤ (w32 (x2 + 1)) ∧ (w32 (x2 + 1)) < alen 285)
    (ltt (w64 ((h 129 (w32 (x2 - 1))) + (h 129 (w32 (x2 + 1))))) fun y1 =>
    (grd (0 ≤ (w32 (x2 - 1)) ∧ (w32 (x2 - 1)) < alen 285)
    (grd (0 ≤ (w32 (x2 + 1)) ∧ (w32 (x2 + 1)) < alen 285)
    (ltt (w64 ((h 130 (w32 (x2 - 1))) + (h 130 (w32 (x2 + 1))))) fun y2 =>
    (bndp (MX12_root n (w64 ((w64 (y1 * y1)) + (w64 (y2 * y2))))) fun r1 =>
    (ltt r1 fun y3 =>
    (grd (¬ y3 = 0)
    (grd (0 ≤ x2 ∧ x2 < alen 285)
    (ltt (up h 129 x2 (w64 (Int.tdiv (w64 (y1 * x1)) y3))) fun h1 =>
    (grd (¬ y3 = 0)
    (grd (0 ≤ x2 ∧ x2 < alen 285)
    (ltt (up h1 130 x2 (w64 (Int.tdiv (w64 (y2 * x1)) y3))) fun h2 =>
    (ltt (w32 (x2 + 2)) fun y4 =>
    (BX12_halves_55 n f x1 y4 h2)))))))))))))))))
def LX12_halves_55 (n : Nat) (x1 x2 : Int) (h : Hp) : Option (Hp) :=
(BX12_halves_55 n n x1 x2 h)
def JX12_halves_43 (n : Nat) (x1 : Int) (h : Hp) : Option (Hp) :=
(ltt (up h 113 30 (w32 ((h 113 30) * 2))) fun h1 =>
(ltt 1 fun y1 =>
(LX12_halves_55 n x1 y1 h1)))
def LX12_halves_5 (n : Nat) (x1 x2 : Int) (h : Hp) : Option (Hp) :=
(bndx (BX12_halves_5 n n x1 x2 h) fun (e1, h1) =>
(JX12_halves_43 n e1 h1))
def MX12_halves (n : Nat) (x1 : Int) (h : Hp) : Option (Hp) :=
(ltt (h 113 30) fun y1 =>
(LX12_halves_5 n x1 y1 h))
def wX12_halves {ρ : Type} (n : Nat) : FN ρ := fun a h k => match a with
  | [_, x1] => bndh (MX12_halves n x1 h) (fun h2 => k 0 h2)
  | _ => none
def fsX12_halves (n : Nat) (ρ : Type) : List (FN ρ) := [wX12_root n]
def KBX12_halves_5 (_ : Nat) (bk : Int → Int → Hp → Option (Int × Hp)) : CT (Int × Hp) := [(5, [(0, 16, (some 113)), (1, 0, none), (2, 0, none)], [], fun a c h => match a, c with
    | [x1, x2], [] => bk x1 x2 h
    | _, _ => none),
  (43, [(0, 16, (some 113)), (1, 0, none)], [], fun a c h => match a, c with
    | [x1], [] => some (x1, h)
    | _, _ => none)]
set_option maxRecDepth 100000 in
theorem eBX12_halves_5 (n f : Nat) (x1 : Int) (x2 : Int) (h : Hp) : BX12_halves_5 n (f + 1) x1 x2 h =
  goAt false (kct (KBX12_halves_5 n (BX12_halves_5 n f))) (fun _ _ => none) (fsX12_halves n _) sdX12_halves 1000 5 [(0, 16, 113), (1, 0, x1), (2, 0, x2)] [] h := rfl
def KBX12_halves_55 (_ : Nat) (bk : Int → Int → Hp → Option (Hp)) : CT (Hp) := [(55, [(0, 16, (some 113)), (1, 0, none), (2, 0, none)], [], fun a c h => match a, c with
    | [x1, x2], [] => bk x1 x2 h
    | _, _ => none)]
set_option maxRecDepth 100000 in
theorem eBX12_halves_55 (n f : Nat) (x1 : Int) (x2 : Int) (h : Hp) : BX12_halves_55 n (f + 1) x1 x2 h =
  goAt false (kct (KBX12_halves_55 n (BX12_halves_55 n f))) (fun _ h => some (h)) (fsX12_halves n _) sdX12_halves 1000 55 [(0, 16, 113), (1, 0, x1), (2, 0, x2)] [] h := rfl
def KJX12_halves_43 (n : Nat) : CT (Hp) := [(55, [(0, 16, (some 113)), (1, 0, none), (2, 0, none)], [], fun a c h => match a, c with
    | [x1, x2], [] => LX12_halves_55 n x1 x2 h
    | _, _ => none)]
set_option maxRecDepth 100000 in
theorem eJX12_halves_43 (n : Nat) (x1 : Int) (h : Hp) : JX12_halves_43 n x1 h =
  goAt false (kct (KJX12_halves_43 n)) (fun _ h => some (h)) (fsX12_halves n _) sdX12_halves 1000 43 [(0, 16, 113), (1, 0, x1)] [] h := rfl
def KMX12_halves (n : Nat) : CT (Hp) := [(5, [(0, 16, (some 113)), (1, 0, none), (2, 0, none)], [], fun a c h => match a, c with
    | [x1, x2], [] => LX12_halves_5 n x1 x2 h
    | _, _ => none)]
set_option maxRecDepth 100000 in
theorem eMX12_halves (n : Nat) (x1 : Int) (h : Hp) : MX12_halves n x1 h =
  goAt false (kct (KMX12_halves n)) (fun _ h => some (h)) (fsX12_halves n _) sdX12_halves 1000 0 [(0, 16, 113), (1, 0, x1)] [] h := rfl
theorem okX12_halves : mokb (mi 95) = true := by decide +kernel
theorem rkX12_halves : rkOK 0 (mi 95).1.2.2.2.2.2.2.1 (mi 95).1.2.2.2.1 := Or.inl ⟨rfl, rfl, rfl⟩
def calX12_halves : List Nat := [93]
theorem foX12_halves {l : Launch} {ρ : Type} (n : Nat) : fsOK l false mi calX12_halves (fsX12_halves n ρ) := ⟨(sndX12_root n), trivial⟩
theorem ok_sdX12_halves : sdb (mi 95).1.2.1 (insOK mi (mi 95).1.1.cls (mi 95).1.2.2.1 (mi 95).1.2.2.2.2.1 (mi 95).1.2.2.2.2.2.1 calX12_halves false 0) sdX12_halves = true := by decide +kernel
def GX12_halves_5 (l : Launch) (h0 : Hp) (h' : Hp) (v : Int) (_ : Hp) : (Int × Hp) → Prop
  | (e1, h1) => PAt l false (mi 95).1 h0 v h' 43 [(0, 16, 113), (1, 0, e1)] [] h1
theorem sBX12_halves_5 {l : Launch} {h0 h' : Hp} {v : Int} (h8 : nOf h0 = 148) (n : Nat) : ∀ (f : Nat) (x1 : Int) (x2 : Int) (h : Hp) {r : Int × Hp}, BX12_halves_5 n f x1 x2 h = some r → GX12_halves_5 l h0 h' v h r → PAt l false (mi 95).1 h0 v h' 5 [(0, 16, 113), (1, 0, x1), (2, 0, x2)] [] h := by
  intro f
  induction f with
  | zero =>
    intro x1 x2 h r H _
    have H2 : (none : Option (Int × Hp)) = some r := H
    cases H2
  | succ f ih =>
    intro x1 x2 h r H hG
    exact pat_w ok_sdX12_halves rkX12_halves h8 (foX12_halves n) (fun v1 h1 q => by cases q) (List.forall_mem_cons.mpr ⟨(fun a c h H => by
      dsimp only at H
      split at H
      · exact ih _ _ _ H hG
      · cases H), (List.forall_mem_cons.mpr ⟨(fun a c h H => by
      dsimp only at H
      split at H
      · cases H
        exact hG
      · cases H), (fun q9 h9 => by cases h9)⟩)⟩) ((eBX12_halves_5 n f x1 x2 h).symm.trans H)
theorem sBX12_halves_55 {l : Launch} {h0 h' : Hp} {v : Int} (h8 : nOf h0 = 148) (n : Nat) : ∀ (f : Nat) (x1 : Int) (x2 : Int) (h : Hp) {r : Hp}, BX12_halves_55 n f x1 x2 h = some r → gW h' r → PAt l false (mi 95).1 h0 v h' 55 [(0, 16, 113), (1, 0, x1), (2, 0, x2)] [] h := by
  intro f
  induction f with
  | zero =>
    intro x1 x2 h r H _
    have H2 : (none : Option (Hp)) = some r := H
    cases H2
  | succ f ih =>
    intro x1 x2 h r H hG
    exact pat_w ok_sdX12_halves rkX12_halves h8 (foX12_halves n) (fun v1 h1 q => by
    cases q
    exact ⟨hG, fun q9 => absurd rfl q9⟩) (List.forall_mem_cons.mpr ⟨(fun a c h H => by
      dsimp only at H
      split at H
      · exact ih _ _ _ H hG
      · cases H), (fun q9 h9 => by cases h9)⟩) ((eBX12_halves_55 n f x1 x2 h).symm.trans H)
theorem sLX12_halves_55 {l : Launch} {h0 h' : Hp} {v : Int} (h8 : nOf h0 = 148) (n : Nat) (x1 : Int) (x2 : Int) (h : Hp) {r : Hp} (H : LX12_halves_55 n x1 x2 h = some r) (hG : gW h' r) : PAt l false (mi 95).1 h0 v h' 55 [(0, 16, 113), (1, 0, x1), (2, 0, x2)] [] h :=
  sBX12_halves_55 h8 n n x1 x2 h H hG
theorem sJX12_halves_43 {l : Launch} {h0 h' : Hp} {v : Int} (h8 : nOf h0 = 148) (n : Nat) (x1 : Int) (h : Hp) {r : Hp} (H : JX12_halves_43 n x1 h = some r) (hG : gW h' r) : PAt l false (mi 95).1 h0 v h' 43 [(0, 16, 113), (1, 0, x1)] [] h :=
  pat_w ok_sdX12_halves rkX12_halves h8 (foX12_halves n) (fun v1 h1 q => by
    cases q
    exact ⟨hG, fun q9 => absurd rfl q9⟩) (List.forall_mem_cons.mpr ⟨(fun a c h H => by
      dsimp only at H
      split at H
      · exact sLX12_halves_55 h8 n _ _ _ H hG
      · cases H), (fun q9 h9 => by cases h9)⟩) ((eJX12_halves_43 n x1 h).symm.trans H)
theorem sLX12_halves_5 {l : Launch} {h0 h' : Hp} {v : Int} (h8 : nOf h0 = 148) (n : Nat) (x1 : Int) (x2 : Int) (h : Hp) {r : Hp} (H : LX12_halves_5 n x1 x2 h = some r) (hG : gW h' r) : PAt l false (mi 95).1 h0 v h' 5 [(0, 16, 113), (1, 0, x1), (2, 0, x2)] [] h := by
  obtain ⟨e9, h2, h3⟩ := bndx_some H
  obtain ⟨e1, h1⟩ := e9
  exact sBX12_halves_5 h8 n n x1 x2 h h2 (sJX12_halves_43 h8 n e1 h1 h3 hG)
theorem sMX12_halves {l : Launch} {h0 h' : Hp} {v : Int} (h8 : nOf h0 = 148) (n : Nat) (x1 : Int) (h : Hp) {r : Hp} (H : MX12_halves n x1 h = some r) (hG : gW h' r) : PAt l false (mi 95).1 h0 v h' 0 [(0, 16, 113), (1, 0, x1)] [] h :=
  pat_w ok_sdX12_halves rkX12_halves h8 (foX12_halves n) (fun v1 h1 q => by
    cases q
    exact ⟨hG, fun q9 => absurd rfl q9⟩) (List.forall_mem_cons.mpr ⟨(fun a c h H => by
      dsimp only at H
      split at H
      · exact sLX12_halves_5 h8 n _ _ _ H hG
      · cases H), (fun q9 h9 => by cases h9)⟩) ((eMX12_halves n x1 h).symm.trans H)
theorem sndX12_halves {ρ : Type} {l : Launch} (n : Nat) : SndF (ρ := ρ) l false (mi 95).1 (wX12_halves n) := by
    intro a h k r H ha ho hn hf
    have h8 := hf rfl
    obtain ⟨x0, x1, rfl⟩ := len2 (show a.length = 2 from ha)
    have u0 := uq16 hn (ho (16, x0) (List.mem_cons_self))
    subst u0
    replace H : bndh (MX12_halves n x1 h) (fun h2 => k 0 h2) = some r := H
    obtain ⟨h2, H1, H2⟩ := bndh_some H
    exact ⟨0, h2, H2, met_mk (mok_base okX12_halves).1 (by decide +kernel) (Nat.le_of_ble_eq_true rfl) ho (sMX12_halves h8 n x1 h H1 rfl), fun q => by cases q⟩
/-! X12_turns -/
def sdX12_turns : SD := [(0, [(0, .iload_n 1, 1, [], 0), (1, .i2l, 1, [], 0), (2, .invokestatic 150, 3, [2, 0, 3, 92, 1314, 1], 0), (5, .iload_n 2, 1, [], 0), (6, .i2l, 1, [], 0), (7, .invokestatic 150, 3, [2, 0, 3, 92, 1314, 1], 0), (10, .ladd, 1, [], 0), (11, .invokestatic 154, 3, [1, 1, 3, 93, 1317, 1], 0), (14, .istore 6, 2, [], 0), (16, .iload_n 3, 1, [], 0), (17, .ifCond .le 7, 3, [], 0)]),
  (20, [(20, .iconst 1, 1, [], 0), (21, .goto 4, 3, [], 0)]),
  (24, [(24, .iconst 0, 1, [], 0)]),
  (25, [(25, .istore 7, 2, [], 0), (27, .aload_n 0, 1, [], 0), (28, .iload_n 3, 1, [], 0), (29, .invokestatic 286, 3, [1, 2, 3, 263, 1625, 0], 0), (32, .putfield 283, 3, [12, 30, 0, 0, 0, 1352], 0), (35, .aload_n 0, 1, [], 0), (36, .getfield 59, 3, [12, 28, 285, 1, 1350, 0], 16), (39, .iconst 0, 1, [], 0), (40, .iload_n 1, 1, [], 0), (41, .ineg, 1, [], 0), (42, .i2l, 1, [], 0), (43, .lastore, 1, [], 0), (44, .aload_n 0, 1, [], 0), (45, .getfield 62, 3, [12, 29, 285, 1, 1351, 0], 17), (48, .iconst 0, 1, [], 0), (49, .iload_n 2, 1, [], 0), (50, .ineg, 1, [], 0), (51, .i2l, 1, [], 0), (52, .lastore, 1, [], 0), (53, .iconst 1, 1, [], 0), (54, .istore 8, 2, [], 0)]),
  (56, [(56, .iload 8, 2, [], 0), (58, .aload_n 0, 1, [], 0), (59, .getfield 283, 3, [12, 30, 0, 0, 1352, 0], 0), (62, .if_icmp .gt 77, 3, [], 0)]),
  (65, [(65, .aload_n 0, 1, [], 0), (66, .getfield 59, 3, [12, 28, 285, 1, 1350, 0], 16), (69, .iload 8, 2, [], 0), (71, .iload 7, 2, [], 0), (73, .ifCond .eq 16, 3, [], 0)]),
  (76, [(76, .aload_n 0, 1, [], 0), (77, .getfield 62, 3, [12, 29, 285, 1, 1351, 0], 17), (80, .iload 8, 2, [], 0), (82, .iconst 1, 1, [], 0), (83, .isub, 1, [], 0), (84, .laload, 1, [], 0), (85, .lneg, 1, [], 0), (86, .goto 12, 3, [], 0)]),
  (89, [(89, .aload_n 0, 1, [], 0), (90, .getfield 62, 3, [12, 29, 285, 1, 1351, 0], 17), (93, .iload 8, 2, [], 0), (95, .iconst 1, 1, [], 0), (96, .isub, 1, [], 0), (97, .laload, 1, [], 0)]),
  (98, [(98, .lastore, 1, [], 0), (99, .aload_n 0, 1, [], 0), (100, .getfield 62, 3, [12, 29, 285, 1, 1351, 0], 17), (103, .iload 8, 2, [], 0), (105, .iload 7, 2, [], 0), (107, .ifCond .eq 15, 3, [], 0)]),
  (110, [(110, .aload_n 0, 1, [], 0), (111, .getfield 59, 3, [12, 28, 285, 1, 1350, 0], 16), (114, .iload 8, 2, [], 0), (116, .iconst 1, 1, [], 0), (117, .isub, 1, [], 0), (118, .laload, 1, [], 0), (119, .goto 13, 3, [], 0)]),
  (122, [(122, .aload_n 0, 1, [], 0), (123, .getfield 59, 3, [12, 28, 285, 1, 1350, 0], 16), (126, .iload 8, 2, [], 0), (128, .iconst 1, 1, [], 0), (129, .isub, 1, [], 0), (130, .laload, 1, [], 0), (131, .lneg, 1, [], 0)]),
  (132, [(132, .lastore, 1, [], 0), (133, .iinc 8 1, 3, [], 0), (136, .goto (-80), 3, [], 0)]),
  (139, [(139, .iconst 0, 1, [], 0), (140, .istore 8, 2, [], 0)]),
  (142, [(142, .iload 8, 2, [], 0), (144, .iconst 3, 1, [], 0), (145, .if_icmp .ge 31, 3, [], 0)]),
  (148, [(148, .aload_n 0, 1, [], 0), (149, .iload 6, 2, [], 0), (151, .invokevirtual 290, 3, [1, 3, 1, 94, 1626, 0, 16], 0), (154, .aload_n 0, 1, [], 0), (155, .getfield 11, 3, [12, 0, 84, 1, 1322, 0], 1), (158, .bipush 7, 2, [], 0), (160, .iaload, 1, [], 0), (161, .if_icmp .le 15, 3, [], 0)]),
  (164, [(164, .aload_n 0, 1, [], 0), (165, .iload 6, 2, [], 0), (167, .invokevirtual 293, 3, [0, 4, 1, 95, 1630, 0, 16], 0), (170, .iinc 8 1, 3, [], 0), (173, .goto (-31), 3, [], 0)]),
  (176, [(176, .aload_n 0, 1, [], 0), (177, .getfield 56, 3, [12, 25, 44, 1, 1347, 0], 15), (180, .iconst 0, 1, [], 0), (181, .iaload, 1, [], 0), (182, .iload_n 1, 1, [], 0), (183, .iadd, 1, [], 0), (184, .istore 8, 2, [], 0), (186, .aload_n 0, 1, [], 0), (187, .getfield 56, 3, [12, 25, 44, 1, 1347, 0], 15), (190, .iconst 1, 1, [], 0), (191, .iaload, 1, [], 0), (192, .iload_n 2, 1, [], 0), (193, .iadd, 1, [], 0), (194, .istore 9, 2, [], 0), (196, .aload_n 0, 1, [], 0), (197, .getfield 56, 3, [12, 25, 44, 1, 1347, 0], 15), (200, .iconst 2, 1, [], 0), (201, .iaload, 1, [], 0), (202, .istore 10, 2, [], 0), (204, .iconst 1, 1, [], 0), (205, .istore 11, 2, [], 0)]),
  (207, [(207, .iload 11, 2, [], 0), (209, .aload_n 0, 1, [], 0), (210, .getfield 283, 3, [12, 30, 0, 0, 1352, 0], 0), (213, .if_icmp .gt 54, 3, [], 0)]),
  (216, [(216, .aload_n 0, 1, [], 0), (217, .iload 8, 2, [], 0), (219, .aload_n 0, 1, [], 0), (220, .getfield 59, 3, [12, 28, 285, 1, 1350, 0], 16), (223, .iload 11, 2, [], 0), (225, .laload, 1, [], 0), (226, .l2i, 1, [], 0), (227, .iadd, 1, [], 0), (228, .iload 9, 2, [], 0), (230, .aload_n 0, 1, [], 0), (231, .getfield 62, 3, [12, 29, 285, 1, 1351, 0], 17), (234, .iload 11, 2, [], 0), (236, .laload, 1, [], 0), (237, .l2i, 1, [], 0), (238, .iadd, 1, [], 0), (239, .iload 10, 2, [], 0), (241, .iload 4, 2, [], 0), (243, .i2l, 1, [], 0), (244, .iload 11, 2, [], 0), (246, .i2l, 1, [], 0), (247, .lmul, 1, [], 0), (248, .aload_n 0, 1, [], 0), (249, .getfield 283, 3, [12, 30, 0, 0, 1352, 0], 0), (252, .i2l, 1, [], 0), (253, .ldiv, 1, [], 0), (254, .l2i, 1, [], 0), (255, .iadd, 1, [], 0), (256, .iload 5, 2, [], 0), (258, .invokevirtual 296, 3, [0, 5, 1, 91, 1615, 0, 0, 0, 0, 16], 0), (261, .iinc 11 1, 3, [], 0), (264, .goto (-57), 3, [], 0)]),
  (267, [(267, .return_, 1, [], 0)])]
def JX12_turns_132 (n : Nat) (bk : Int → Int → Int → Int → Int → Int → Int → Hp → Option (Int × Int × Int × Int × Int × Hp)) (x1 x2 x4 x5 x6 x7 x8 z0 z1 z2 : Int) (h : Hp) : Option (Int × Int × Int × Int × Int × Hp) :=
(grd (0 ≤ z1 ∧ z1 < alen 285)
(ltt (up h z0 z1 z2) fun h1 =>
(ltt (w32 (x8 + 1)) fun y1 =>
(bk x1 x2 x4 x5 x6 x7 y1 h1))))
def JX12_turns_98 (n : Nat) (bk : Int → Int → Int → Int → Int → Int → Int → Hp → Option (Int × Int × Int × Int × Int × Hp)) (x1 x2 x4 x5 x6 x7 x8 z0 z1 z2 : Int) (h : Hp) : Option (Int × Int × Int × Int × Int × Hp) :=
(grd (0 ≤ z1 ∧ z1 < alen 285)
(ltt (up h z0 z1 z2) fun h1 =>
(if x7 = 0 then
(grd (0 ≤ (w32 (x8 - 1)) ∧ (w32 (x8 - 1)) < alen 285)
(JX12_turns_132 n bk x1 x2 x4 x5 x6 x7 x8 130 x8 (w64 (-(h1 129 (w32 (x8 - 1))))) h1))
else
(grd (0 ≤ (w32 (x8 - 1)) ∧ (w32 (x8 - 1)) < alen 285)
(JX12_turns_132 n bk x1 x2 x4 x5 x6 x7 x8 130 x8 (h1 129 (w32 (x8 - 1))) h1)))))
def BX12_turns_56 (n : Nat) : Nat → Int → Int → Int → Int → Int → Int → Int → Hp → Option (Int × Int × Int × Int × Int × Hp)
  | 0, _, _, _, _, _, _, _, _ => none
  | f + 1, x1, x2, x4, x5, x6, x7, x8, h =>
    (if (h 113 30) < x8 then
    (some (x1, x2, x4, x5, x6, h))
    else
    (if x7 = 0 then
    (grd (0 ≤ (w32 (x8 - 1)) ∧ (w32 (x8 - 1)) < alen 285)
    (JX12_turns_98 n (BX12_turns_56 n f) x1 x2 x4 x5 x6 x7 x8 129 x8 (h 130 (w32 (x8 - 1))) h))
    else
    (grd (0 ≤ (w32 (x8 - 1)) ∧ (w32 (x8 - 1)) < alen 285)
    (JX12_turns_98 n (BX12_turns_56 n f) x1 x2 x4 x5 x6 x7 x8 129 x8 (w64 (-(h 130 (w32 (x8 - 1))))) h))))
def BX12_turns_142 (n : Nat) : Nat → Int → Int → Int → Int → Int → Int → Hp → Option (Int × Int × Int × Int × Hp)
  | 0, _, _, _, _, _, _, _ => none
  | f + 1, x1, x2, x4, x5, x6, x8, h =>
    (if 3 ≤ x8 then
    (some (x1, x2, x4, x5, h))
    else
    (bndp (MX12_bulge n x6 h) fun r1 =>
    (grd (0 ≤ 7 ∧ 7 < alen 84)
    (if r1 ≤ (h 114 7) then
    (some (x1, x2, x4, x5, h))
    else
    (bndh (MX12_halves n x6 h) fun h1 =>
    (ltt (w32 (x8 + 1)) fun y1 =>
    (BX12_turns_142 n f x1 x2 x4 x5 x6 y1 h1)))))))
def BX12_turns_207 (n : Nat) : Nat → Int → Int → Int → Int → Int → Int → Hp → Option (Hp)
  | 0, _, _, _, _, _, _, _ => none
  | f + 1, x4, x5, x8, x9, x10, x11, h =>
    (if (h 113 30) < x11 then
    (some h)
    else
    (grd (0 ≤ x11 ∧ x11 < alen 285)
    (grd (0 ≤ x11 ∧ x11 < alen 285)
    (grd (¬ (h 113 30) = 0)
    (bndh (MX12_comesTo n (w32 (x8 + (w32 (h 129 x11)))) (w32 (x9 + (w32 (h 130 x11)))) (w32 (x10 + (w32 (w64 (Int.tdiv (w64 (x4 * x11)) (h 113 30)))))) x5 h) fun h1 =>
    (ltt (w32 (x11 + 1)) fun y1 =>
    (BX12_turns_207 n f x4 x5 x8 x9 x10 y1 h1)))))))
def LX12_turns_207 (n : Nat) (x4 x5 x8 x9 x10 x11 : Int) (h : Hp) : Option (Hp) :=
(BX12_turns_207 n n x4 x5 x8 x9 x10 x11 h)
def JX12_turns_176 (n : Nat) (x1 x2 x4 x5 : Int) (h : Hp) : Option (Hp) :=
(grd (0 ≤ 0 ∧ 0 < alen 44)
(ltt (w32 ((h 128 0) + x1)) fun y1 =>
(grd (0 ≤ 1 ∧ 1 < alen 44)
(ltt (w32 ((h 128 1) + x2)) fun y2 =>
(grd (0 ≤ 2 ∧ 2 < alen 44)
(ltt (h 128 2) fun y3 =>
(ltt 1 fun y4 =>
(LX12_turns_207 n x4 x5 y1 y2 y3 y4 h))))))))
def LX12_turns_142 (n : Nat) (x1 x2 x4 x5 x6 x8 : Int) (h : Hp) : Option (Hp) :=
(bndx (BX12_turns_142 n n x1 x2 x4 x5 x6 x8 h) fun (e1, e2, e4, e5, h1) =>
(JX12_turns_176 n e1 e2 e4 e5 h1))
def JX12_turns_139 (n : Nat) (x1 x2 x4 x5 x6 : Int) (h : Hp) : Option (Hp) :=
(ltt 0 fun y1 =>
(LX12_turns_142 n x1 x2 x4 x5 x6 y1 h))
def LX12_turns_56 (n : Nat) (x1 x2 x4 x5 x6 x7 x8 : Int) (h : Hp) : Option (Hp) :=
(bndx (BX12_turns_56 n n x1 x2 x4 x5 x6 x7 x8 h) fun (e1, e2, e4, e5, e6, h1) =>
(JX12_turns_139 n e1 e2 e4 e5 e6 h1))
def JX12_turns_25 (n : Nat) (x1 x2 x3 x4 x5 x6 z0 : Int) (h : Hp) : Option (Hp) :=
(ltt z0 fun y1 =>
(ltt (up h 113 30 (jabs x3)) fun h1 =>
(grd (0 ≤ 0 ∧ 0 < alen 285)
(ltt (up h1 129 0 (w32 (-x1))) fun h2 =>
(grd (0 ≤ 0 ∧ 0 < alen 285)
(ltt (up h2 130 0 (w32 (-x2))) fun h3 =>
(ltt 1 fun y2 =>
(LX12_turns_56 n x1 x2 x4 x5 x6 y1 y2 h3))))))))
def MX12_turns (n : Nat) (x1 x2 x3 x4 x5 : Int) (h : Hp) : Option (Hp) :=
(bndp (MX12_square x1) fun r1 =>
(bndp (MX12_square x2) fun r2 =>
(bndp (MX12_root n (w64 (r1 + r2))) fun r3 =>
(ltt r3 fun y1 =>
(if x3 ≤ 0 then
(JX12_turns_25 n x1 x2 x3 x4 x5 y1 0 h)
else
(JX12_turns_25 n x1 x2 x3 x4 x5 y1 1 h))))))
def wX12_turns {ρ : Type} (n : Nat) : FN ρ := fun a h k => match a with
  | [_, x1, x2, x3, x4, x5] => bndh (MX12_turns n x1 x2 x3 x4 x5 h) (fun h2 => k 0 h2)
  | _ => none
def fsX12_turns (n : Nat) (ρ : Type) : List (FN ρ) := [wX12_square, wX12_root n, fabs, wX12_bulge n, wX12_halves n, wX12_comesTo n]
def KJX12_turns_132 (_ : Nat) (bk : Int → Int → Int → Int → Int → Int → Int → Hp → Option (Int × Int × Int × Int × Int × Hp)) : CT (Int × Int × Int × Int × Int × Hp) := [(56, [(0, 16, (some 113)), (1, 0, none), (2, 0, none), (4, 0, none), (5, 0, none), (6, 0, none), (7, 0, none), (8, 0, none)], [], fun a c h => match a, c with
    | [x1, x2, x4, x5, x6, x7, x8], [] => bk x1 x2 x4 x5 x6 x7 x8 h
    | _, _ => none),
  (139, [(0, 16, (some 113)), (1, 0, none), (2, 0, none), (4, 0, none), (5, 0, none), (6, 0, none)], [], fun a c h => match a, c with
    | [x1, x2, x4, x5, x6], [] => some (x1, x2, x4, x5, x6, h)
    | _, _ => none)]
set_option maxRecDepth 100000 in
theorem eJX12_turns_132 (n : Nat) (bk : Int → Int → Int → Int → Int → Int → Int → Hp → Option (Int × Int × Int × Int × Int × Hp)) (x1 : Int) (x2 : Int) (x4 : Int) (x5 : Int) (x6 : Int) (x7 : Int) (x8 : Int) (z0 : Int) (z1 : Int) (z2 : Int) (h : Hp) : JX12_turns_132 n bk x1 x2 x4 x5 x6 x7 x8 z0 z1 z2 h =
  goAt false (kct (KJX12_turns_132 n bk)) (fun _ _ => none) (fsX12_turns n _) sdX12_turns 1000 132 [(0, 16, 113), (1, 0, x1), (2, 0, x2), (4, 0, x4), (5, 0, x5), (6, 0, x6), (7, 0, x7), (8, 0, x8)] [(1, z2), (0, z1), (285, z0)] h := rfl
def KJX12_turns_98 (n : Nat) (bk : Int → Int → Int → Int → Int → Int → Int → Hp → Option (Int × Int × Int × Int × Int × Hp)) : CT (Int × Int × Int × Int × Int × Hp) := [(56, [(0, 16, (some 113)), (1, 0, none), (2, 0, none), (4, 0, none), (5, 0, none), (6, 0, none), (7, 0, none), (8, 0, none)], [], fun a c h => match a, c with
    | [x1, x2, x4, x5, x6, x7, x8], [] => bk x1 x2 x4 x5 x6 x7 x8 h
    | _, _ => none),
  (139, [(0, 16, (some 113)), (1, 0, none), (2, 0, none), (4, 0, none), (5, 0, none), (6, 0, none)], [], fun a c h => match a, c with
    | [x1, x2, x4, x5, x6], [] => some (x1, x2, x4, x5, x6, h)
    | _, _ => none),
  (132, [(0, 16, (some 113)), (1, 0, none), (2, 0, none), (4, 0, none), (5, 0, none), (6, 0, none), (7, 0, none), (8, 0, none)], [(1, none), (0, none), (285, none)], fun a c h => match a, c with
    | [x1, x2, x4, x5, x6, x7, x8], [z2, z1, z0] => JX12_turns_132 n bk x1 x2 x4 x5 x6 x7 x8 z0 z1 z2 h
    | _, _ => none)]
set_option maxRecDepth 100000 in
theorem eJX12_turns_98 (n : Nat) (bk : Int → Int → Int → Int → Int → Int → Int → Hp → Option (Int × Int × Int × Int × Int × Hp)) (x1 : Int) (x2 : Int) (x4 : Int) (x5 : Int) (x6 : Int) (x7 : Int) (x8 : Int) (z0 : Int) (z1 : Int) (z2 : Int) (h : Hp) : JX12_turns_98 n bk x1 x2 x4 x5 x6 x7 x8 z0 z1 z2 h =
  goAt false (kct (KJX12_turns_98 n bk)) (fun _ _ => none) (fsX12_turns n _) sdX12_turns 1000 98 [(0, 16, 113), (1, 0, x1), (2, 0, x2), (4, 0, x4), (5, 0, x5), (6, 0, x6), (7, 0, x7), (8, 0, x8)] [(1, z2), (0, z1), (285, z0)] h := rfl
def KBX12_turns_56 (n : Nat) (bk : Int → Int → Int → Int → Int → Int → Int → Hp → Option (Int × Int × Int × Int × Int × Hp)) : CT (Int × Int × Int × Int × Int × Hp) := [(56, [(0, 16, (some 113)), (1, 0, none), (2, 0, none), (4, 0, none), (5, 0, none), (6, 0, none), (7, 0, none), (8, 0, none)], [], fun a c h => match a, c with
    | [x1, x2, x4, x5, x6, x7, x8], [] => bk x1 x2 x4 x5 x6 x7 x8 h
    | _, _ => none),
  (139, [(0, 16, (some 113)), (1, 0, none), (2, 0, none), (4, 0, none), (5, 0, none), (6, 0, none)], [], fun a c h => match a, c with
    | [x1, x2, x4, x5, x6], [] => some (x1, x2, x4, x5, x6, h)
    | _, _ => none),
  (98, [(0, 16, (some 113)), (1, 0, none), (2, 0, none), (4, 0, none), (5, 0, none), (6, 0, none), (7, 0, none), (8, 0, none)], [(1, none), (0, none), (285, none)], fun a c h => match a, c with
    | [x1, x2, x4, x5, x6, x7, x8], [z2, z1, z0] => JX12_turns_98 n bk x1 x2 x4 x5 x6 x7 x8 z0 z1 z2 h
    | _, _ => none)]
set_option maxRecDepth 100000 in
theorem eBX12_turns_56 (n f : Nat) (x1 : Int) (x2 : Int) (x4 : Int) (x5 : Int) (x6 : Int) (x7 : Int) (x8 : Int) (h : Hp) : BX12_turns_56 n (f + 1) x1 x2 x4 x5 x6 x7 x8 h =
  goAt false (kct (KBX12_turns_56 n (BX12_turns_56 n f))) (fun _ _ => none) (fsX12_turns n _) sdX12_turns 1000 56 [(0, 16, 113), (1, 0, x1), (2, 0, x2), (4, 0, x4), (5, 0, x5), (6, 0, x6), (7, 0, x7), (8, 0, x8)] [] h := rfl
def KBX12_turns_142 (_ : Nat) (bk : Int → Int → Int → Int → Int → Int → Hp → Option (Int × Int × Int × Int × Hp)) : CT (Int × Int × Int × Int × Hp) := [(142, [(0, 16, (some 113)), (1, 0, none), (2, 0, none), (4, 0, none), (5, 0, none), (6, 0, none), (8, 0, none)], [], fun a c h => match a, c with
    | [x1, x2, x4, x5, x6, x8], [] => bk x1 x2 x4 x5 x6 x8 h
    | _, _ => none),
  (176, [(0, 16, (some 113)), (1, 0, none), (2, 0, none), (4, 0, none), (5, 0, none)], [], fun a c h => match a, c with
    | [x1, x2, x4, x5], [] => some (x1, x2, x4, x5, h)
    | _, _ => none)]
set_option maxRecDepth 100000 in
theorem eBX12_turns_142 (n f : Nat) (x1 : Int) (x2 : Int) (x4 : Int) (x5 : Int) (x6 : Int) (x8 : Int) (h : Hp) : BX12_turns_142 n (f + 1) x1 x2 x4 x5 x6 x8 h =
  goAt false (kct (KBX12_turns_142 n (BX12_turns_142 n f))) (fun _ _ => none) (fsX12_turns n _) sdX12_turns 1000 142 [(0, 16, 113), (1, 0, x1), (2, 0, x2), (4, 0, x4), (5, 0, x5), (6, 0, x6), (8, 0, x8)] [] h := rfl
def KBX12_turns_207 (_ : Nat) (bk : Int → Int → Int → Int → Int → Int → Hp → Option (Hp)) : CT (Hp) := [(207, [(0, 16, (some 113)), (4, 0, none), (5, 0, none), (8, 0, none), (9, 0, none), (10, 0, none), (11, 0, none)], [], fun a c h => match a, c with
    | [x4, x5, x8, x9, x10, x11], [] => bk x4 x5 x8 x9 x10 x11 h
    | _, _ => none)]
set_option maxRecDepth 100000 in
theorem eBX12_turns_207 (n f : Nat) (x4 : Int) (x5 : Int) (x8 : Int) (x9 : Int) (x10 : Int) (x11 : Int) (h : Hp) : BX12_turns_207 n (f + 1) x4 x5 x8 x9 x10 x11 h =
  goAt false (kct (KBX12_turns_207 n (BX12_turns_207 n f))) (fun _ h => some (h)) (fsX12_turns n _) sdX12_turns 1000 207 [(0, 16, 113), (4, 0, x4), (5, 0, x5), (8, 0, x8), (9, 0, x9), (10, 0, x10), (11, 0, x11)] [] h := rfl
def KJX12_turns_176 (n : Nat) : CT (Hp) := [(207, [(0, 16, (some 113)), (4, 0, none), (5, 0, none), (8, 0, none), (9, 0, none), (10, 0, none), (11, 0, none)], [], fun a c h => match a, c with
    | [x4, x5, x8, x9, x10, x11], [] => LX12_turns_207 n x4 x5 x8 x9 x10 x11 h
    | _, _ => none)]
set_option maxRecDepth 100000 in
theorem eJX12_turns_176 (n : Nat) (x1 : Int) (x2 : Int) (x4 : Int) (x5 : Int) (h : Hp) : JX12_turns_176 n x1 x2 x4 x5 h =
  goAt false (kct (KJX12_turns_176 n)) (fun _ h => some (h)) (fsX12_turns n _) sdX12_turns 1000 176 [(0, 16, 113), (1, 0, x1), (2, 0, x2), (4, 0, x4), (5, 0, x5)] [] h := rfl
def KJX12_turns_139 (n : Nat) : CT (Hp) := [(142, [(0, 16, (some 113)), (1, 0, none), (2, 0, none), (4, 0, none), (5, 0, none), (6, 0, none), (8, 0, none)], [], fun a c h => match a, c with
    | [x1, x2, x4, x5, x6, x8], [] => LX12_turns_142 n x1 x2 x4 x5 x6 x8 h
    | _, _ => none)]
set_option maxRecDepth 100000 in
theorem eJX12_turns_139 (n : Nat) (x1 : Int) (x2 : Int) (x4 : Int) (x5 : Int) (x6 : Int) (h : Hp) : JX12_turns_139 n x1 x2 x4 x5 x6 h =
  goAt false (kct (KJX12_turns_139 n)) (fun _ h => some (h)) (fsX12_turns n _) sdX12_turns 1000 139 [(0, 16, 113), (1, 0, x1), (2, 0, x2), (4, 0, x4), (5, 0, x5), (6, 0, x6)] [] h := rfl
def KJX12_turns_25 (n : Nat) : CT (Hp) := [(56, [(0, 16, (some 113)), (1, 0, none), (2, 0, none), (4, 0, none), (5, 0, none), (6, 0, none), (7, 0, none), (8, 0, none)], [], fun a c h => match a, c with
    | [x1, x2, x4, x5, x6, x7, x8], [] => LX12_turns_56 n x1 x2 x4 x5 x6 x7 x8 h
    | _, _ => none)]
set_option maxRecDepth 100000 in
theorem eJX12_turns_25 (n : Nat) (x1 : Int) (x2 : Int) (x3 : Int) (x4 : Int) (x5 : Int) (x6 : Int) (z0 : Int) (h : Hp) : JX12_turns_25 n x1 x2 x3 x4 x5 x6 z0 h =
  goAt false (kct (KJX12_turns_25 n)) (fun _ h => some (h)) (fsX12_turns n _) sdX12_turns 1000 25 [(0, 16, 113), (1, 0, x1), (2, 0, x2), (3, 0, x3), (4, 0, x4), (5, 0, x5), (6, 0, x6)] [(0, z0)] h := rfl
def KMX12_turns (n : Nat) : CT (Hp) := [(25, [(0, 16, (some 113)), (1, 0, none), (2, 0, none), (3, 0, none), (4, 0, none), (5, 0, none), (6, 0, none)], [(0, none)], fun a c h => match a, c with
    | [x1, x2, x3, x4, x5, x6], [z0] => JX12_turns_25 n x1 x2 x3 x4 x5 x6 z0 h
    | _, _ => none)]
set_option maxRecDepth 100000 in
theorem eMX12_turns (n : Nat) (x1 : Int) (x2 : Int) (x3 : Int) (x4 : Int) (x5 : Int) (h : Hp) : MX12_turns n x1 x2 x3 x4 x5 h =
  goAt false (kct (KMX12_turns n)) (fun _ h => some (h)) (fsX12_turns n _) sdX12_turns 1000 0 [(0, 16, 113), (1, 0, x1), (2, 0, x2), (3, 0, x3), (4, 0, x4), (5, 0, x5)] [] h := rfl
theorem okX12_turns : mokb (mi 96) = true := by decide +kernel
theorem rkX12_turns : rkOK 0 (mi 96).1.2.2.2.2.2.2.1 (mi 96).1.2.2.2.1 := Or.inl ⟨rfl, rfl, rfl⟩
def calX12_turns : List Nat := [92, 93, 263, 94, 95, 91]
theorem foX12_turns {l : Launch} {ρ : Type} (n : Nat) : fsOK l false mi calX12_turns (fsX12_turns n ρ) := ⟨sndX12_square, ⟨(sndX12_root n), ⟨snd_mabs, ⟨(sndX12_bulge n), ⟨(sndX12_halves n), ⟨(sndX12_comesTo n), trivial⟩⟩⟩⟩⟩⟩
theorem ok_sdX12_turns : sdb (mi 96).1.2.1 (insOK mi (mi 96).1.1.cls (mi 96).1.2.2.1 (mi 96).1.2.2.2.2.1 (mi 96).1.2.2.2.2.2.1 calX12_turns false 0) sdX12_turns = true := by decide +kernel
def GX12_turns_142 (l : Launch) (h0 : Hp) (h' : Hp) (v : Int) (_ : Hp) : (Int × Int × Int × Int × Hp) → Prop
  | (e1, e2, e4, e5, h1) => PAt l false (mi 96).1 h0 v h' 176 [(0, 16, 113), (1, 0, e1), (2, 0, e2), (4, 0, e4), (5, 0, e5)] [] h1
def GX12_turns_56 (l : Launch) (h0 : Hp) (h' : Hp) (v : Int) (_ : Hp) : (Int × Int × Int × Int × Int × Hp) → Prop
  | (e1, e2, e4, e5, e6, h1) => PAt l false (mi 96).1 h0 v h' 139 [(0, 16, 113), (1, 0, e1), (2, 0, e2), (4, 0, e4), (5, 0, e5), (6, 0, e6)] [] h1
theorem sJX12_turns_132 {l : Launch} {h0 h' : Hp} {v : Int} (h8 : nOf h0 = 148) (n : Nat) (bk : Int → Int → Int → Int → Int → Int → Int → Hp → Option (Int × Int × Int × Int × Int × Hp)) (hbk : ∀ (x1 : Int) (x2 : Int) (x4 : Int) (x5 : Int) (x6 : Int) (x7 : Int) (x8 : Int) (h : Hp) (r : Int × Int × Int × Int × Int × Hp), bk x1 x2 x4 x5 x6 x7 x8 h = some r → GX12_turns_56 l h0 h' v h r → PAt l false (mi 96).1 h0 v h' 56 [(0, 16, 113), (1, 0, x1), (2, 0, x2), (4, 0, x4), (5, 0, x5), (6, 0, x6), (7, 0, x7), (8, 0, x8)] [] h) (x1 : Int) (x2 : Int) (x4 : Int) (x5 : Int) (x6 : Int) (x7 : Int) (x8 : Int) (z0 : Int) (z1 : Int) (z2 : Int) (h : Hp) {r : Int × Int × Int × Int × Int × Hp} (H : JX12_turns_132 n bk x1 x2 x4 x5 x6 x7 x8 z0 z1 z2 h = some r) (hG : GX12_turns_56 l h0 h' v h r) : PAt l false (mi 96).1 h0 v h' 132 [(0, 16, 113), (1, 0, x1), (2, 0, x2), (4, 0, x4), (5, 0, x5), (6, 0, x6), (7, 0, x7), (8, 0, x8)] [(1, z2), (0, z1), (285, z0)] h :=
  pat_w ok_sdX12_turns rkX12_turns h8 (foX12_turns n) (fun v1 h1 q => by cases q) (List.forall_mem_cons.mpr ⟨(fun a c h H => by
      dsimp only at H
      split at H
      · exact hbk _ _ _ _ _ _ _ _ _ H hG
      · cases H), (List.forall_mem_cons.mpr ⟨(fun a c h H => by
      dsimp only at H
      split at H
      · cases H
        exact hG
      · cases H), (fun q9 h9 => by cases h9)⟩)⟩) ((eJX12_turns_132 n bk x1 x2 x4 x5 x6 x7 x8 z0 z1 z2 h).symm.trans H)
theorem sJX12_turns_98 {l : Launch} {h0 h' : Hp} {v : Int} (h8 : nOf h0 = 148) (n : Nat) (bk : Int → Int → Int → Int → Int → Int → Int → Hp → Option (Int × Int × Int × Int × Int × Hp)) (hbk : ∀ (x1 : Int) (x2 : Int) (x4 : Int) (x5 : Int) (x6 : Int) (x7 : Int) (x8 : Int) (h : Hp) (r : Int × Int × Int × Int × Int × Hp), bk x1 x2 x4 x5 x6 x7 x8 h = some r → GX12_turns_56 l h0 h' v h r → PAt l false (mi 96).1 h0 v h' 56 [(0, 16, 113), (1, 0, x1), (2, 0, x2), (4, 0, x4), (5, 0, x5), (6, 0, x6), (7, 0, x7), (8, 0, x8)] [] h) (x1 : Int) (x2 : Int) (x4 : Int) (x5 : Int) (x6 : Int) (x7 : Int) (x8 : Int) (z0 : Int) (z1 : Int) (z2 : Int) (h : Hp) {r : Int × Int × Int × Int × Int × Hp} (H : JX12_turns_98 n bk x1 x2 x4 x5 x6 x7 x8 z0 z1 z2 h = some r) (hG : GX12_turns_56 l h0 h' v h r) : PAt l false (mi 96).1 h0 v h' 98 [(0, 16, 113), (1, 0, x1), (2, 0, x2), (4, 0, x4), (5, 0, x5), (6, 0, x6), (7, 0, x7), (8, 0, x8)] [(1, z2), (0, z1), (285, z0)] h :=
  pat_w ok_sdX12_turns rkX12_turns h8 (foX12_turns n) (fun v1 h1 q => by cases q) (List.forall_mem_cons.mpr ⟨(fun a c h H => by
      dsimp only at H
      split at H
      · exact hbk _ _ _ _ _ _ _ _ _ H hG
      · cases H), (List.forall_mem_cons.mpr ⟨(fun a c h H => by
      dsimp only at H
      split at H
      · cases H
        exact hG
      · cases H), (List.forall_mem_cons.mpr ⟨(fun a c h H => by
      dsimp only at H
      split at H
      · exact sJX12_turns_132 h8 n bk hbk _ _ _ _ _ _ _ _ _ _ _ H hG
      · cases H), (fun q9 h9 => by cases h9)⟩)⟩)⟩) ((eJX12_turns_98 n bk x1 x2 x4 x5 x6 x7 x8 z0 z1 z2 h).symm.trans H)
theorem sBX12_turns_56 {l : Launch} {h0 h' : Hp} {v : Int} (h8 : nOf h0 = 148) (n : Nat) : ∀ (f : Nat) (x1 : Int) (x2 : Int) (x4 : Int) (x5 : Int) (x6 : Int) (x7 : Int) (x8 : Int) (h : Hp) {r : Int × Int × Int × Int × Int × Hp}, BX12_turns_56 n f x1 x2 x4 x5 x6 x7 x8 h = some r → GX12_turns_56 l h0 h' v h r → PAt l false (mi 96).1 h0 v h' 56 [(0, 16, 113), (1, 0, x1), (2, 0, x2), (4, 0, x4), (5, 0, x5), (6, 0, x6), (7, 0, x7), (8, 0, x8)] [] h := by
  intro f
  induction f with
  | zero =>
    intro x1 x2 x4 x5 x6 x7 x8 h r H _
    have H2 : (none : Option (Int × Int × Int × Int × Int × Hp)) = some r := H
    cases H2
  | succ f ih =>
    intro x1 x2 x4 x5 x6 x7 x8 h r H hG
    have ihk : ∀ (x1 : Int) (x2 : Int) (x4 : Int) (x5 : Int) (x6 : Int) (x7 : Int) (x8 : Int) (h : Hp) (r : Int × Int × Int × Int × Int × Hp), BX12_turns_56 n f x1 x2 x4 x5 x6 x7 x8 h = some r → GX12_turns_56 l h0 h' v h r → PAt l false (mi 96).1 h0 v h' 56 [(0, 16, 113), (1, 0, x1), (2, 0, x2), (4, 0, x4), (5, 0, x5), (6, 0, x6), (7, 0, x7), (8, 0, x8)] [] h := fun x1 x2 x4 x5 x6 x7 x8 h r9 a9 b9 => ih x1 x2 x4 x5 x6 x7 x8 h a9 b9
    exact pat_w ok_sdX12_turns rkX12_turns h8 (foX12_turns n) (fun v1 h1 q => by cases q) (List.forall_mem_cons.mpr ⟨(fun a c h H => by
      dsimp only at H
      split at H
      · exact ih _ _ _ _ _ _ _ _ H hG
      · cases H), (List.forall_mem_cons.mpr ⟨(fun a c h H => by
      dsimp only at H
      split at H
      · cases H
        exact hG
      · cases H), (List.forall_mem_cons.mpr ⟨(fun a c h H => by
      dsimp only at H
      split at H
      · exact sJX12_turns_98 h8 n (BX12_turns_56 n f) ihk _ _ _ _ _ _ _ _ _ _ _ H hG
      · cases H), (fun q9 h9 => by cases h9)⟩)⟩)⟩) ((eBX12_turns_56 n f x1 x2 x4 x5 x6 x7 x8 h).symm.trans H)
theorem sBX12_turns_142 {l : Launch} {h0 h' : Hp} {v : Int} (h8 : nOf h0 = 148) (n : Nat) : ∀ (f : Nat) (x1 : Int) (x2 : Int) (x4 : Int) (x5 : Int) (x6 : Int) (x8 : Int) (h : Hp) {r : Int × Int × Int × Int × Hp}, BX12_turns_142 n f x1 x2 x4 x5 x6 x8 h = some r → GX12_turns_142 l h0 h' v h r → PAt l false (mi 96).1 h0 v h' 142 [(0, 16, 113), (1, 0, x1), (2, 0, x2), (4, 0, x4), (5, 0, x5), (6, 0, x6), (8, 0, x8)] [] h := by
  intro f
  induction f with
  | zero =>
    intro x1 x2 x4 x5 x6 x8 h r H _
    have H2 : (none : Option (Int × Int × Int × Int × Hp)) = some r := H
    cases H2
  | succ f ih =>
    intro x1 x2 x4 x5 x6 x8 h r H hG
    exact pat_w ok_sdX12_turns rkX12_turns h8 (foX12_turns n) (fun v1 h1 q => by cases q) (List.forall_mem_cons.mpr ⟨(fun a c h H => by
      dsimp only at H
      split at H
      · exact ih _ _ _ _ _ _ _ H hG
      · cases H), (List.forall_mem_cons.mpr ⟨(fun a c h H => by
      dsimp only at H
      split at H
      · cases H
        exact hG
      · cases H), (fun q9 h9 => by cases h9)⟩)⟩) ((eBX12_turns_142 n f x1 x2 x4 x5 x6 x8 h).symm.trans H)
theorem sBX12_turns_207 {l : Launch} {h0 h' : Hp} {v : Int} (h8 : nOf h0 = 148) (n : Nat) : ∀ (f : Nat) (x4 : Int) (x5 : Int) (x8 : Int) (x9 : Int) (x10 : Int) (x11 : Int) (h : Hp) {r : Hp}, BX12_turns_207 n f x4 x5 x8 x9 x10 x11 h = some r → gW h' r → PAt l false (mi 96).1 h0 v h' 207 [(0, 16, 113), (4, 0, x4), (5, 0, x5), (8, 0, x8), (9, 0, x9), (10, 0, x10), (11, 0, x11)] [] h := by
  intro f
  induction f with
  | zero =>
    intro x4 x5 x8 x9 x10 x11 h r H _
    have H2 : (none : Option (Hp)) = some r := H
    cases H2
  | succ f ih =>
    intro x4 x5 x8 x9 x10 x11 h r H hG
    exact pat_w ok_sdX12_turns rkX12_turns h8 (foX12_turns n) (fun v1 h1 q => by
    cases q
    exact ⟨hG, fun q9 => absurd rfl q9⟩) (List.forall_mem_cons.mpr ⟨(fun a c h H => by
      dsimp only at H
      split at H
      · exact ih _ _ _ _ _ _ _ H hG
      · cases H), (fun q9 h9 => by cases h9)⟩) ((eBX12_turns_207 n f x4 x5 x8 x9 x10 x11 h).symm.trans H)
theorem sLX12_turns_207 {l : Launch} {h0 h' : Hp} {v : Int} (h8 : nOf h0 = 148) (n : Nat) (x4 : Int) (x5 : Int) (x8 : Int) (x9 : Int) (x10 : Int) (x11 : Int) (h : Hp) {r : Hp} (H : LX12_turns_207 n x4 x5 x8 x9 x10 x11 h = some r) (hG : gW h' r) : PAt l false (mi 96).1 h0 v h' 207 [(0, 16, 113), (4, 0, x4), (5, 0, x5), (8, 0, x8), (9, 0, x9), (10, 0, x10), (11, 0, x11)] [] h :=
  sBX12_turns_207 h8 n n x4 x5 x8 x9 x10 x11 h H hG
theorem sJX12_turns_176 {l : Launch} {h0 h' : Hp} {v : Int} (h8 : nOf h0 = 148) (n : Nat) (x1 : Int) (x2 : Int) (x4 : Int) (x5 : Int) (h : Hp) {r : Hp} (H : JX12_turns_176 n x1 x2 x4 x5 h = some r) (hG : gW h' r) : PAt l false (mi 96).1 h0 v h' 176 [(0, 16, 113), (1, 0, x1), (2, 0, x2), (4, 0, x4), (5, 0, x5)] [] h :=
  pat_w ok_sdX12_turns rkX12_turns h8 (foX12_turns n) (fun v1 h1 q => by
    cases q
    exact ⟨hG, fun q9 => absurd rfl q9⟩) (List.forall_mem_cons.mpr ⟨(fun a c h H => by
      dsimp only at H
      split at H
      · exact sLX12_turns_207 h8 n _ _ _ _ _ _ _ H hG
      · cases H), (fun q9 h9 => by cases h9)⟩) ((eJX12_turns_176 n x1 x2 x4 x5 h).symm.trans H)
theorem sLX12_turns_142 {l : Launch} {h0 h' : Hp} {v : Int} (h8 : nOf h0 = 148) (n : Nat) (x1 : Int) (x2 : Int) (x4 : Int) (x5 : Int) (x6 : Int) (x8 : Int) (h : Hp) {r : Hp} (H : LX12_turns_142 n x1 x2 x4 x5 x6 x8 h = some r) (hG : gW h' r) : PAt l false (mi 96).1 h0 v h' 142 [(0, 16, 113), (1, 0, x1), (2, 0, x2), (4, 0, x4), (5, 0, x5), (6, 0, x6), (8, 0, x8)] [] h := by
  obtain ⟨e9, h2, h3⟩ := bndx_some H
  obtain ⟨e1, e2, e4, e5, h1⟩ := e9
  exact sBX12_turns_142 h8 n n x1 x2 x4 x5 x6 x8 h h2 (sJX12_turns_176 h8 n e1 e2 e4 e5 h1 h3 hG)
theorem sJX12_turns_139 {l : Launch} {h0 h' : Hp} {v : Int} (h8 : nOf h0 = 148) (n : Nat) (x1 : Int) (x2 : Int) (x4 : Int) (x5 : Int) (x6 : Int) (h : Hp) {r : Hp} (H : JX12_turns_139 n x1 x2 x4 x5 x6 h = some r) (hG : gW h' r) : PAt l false (mi 96).1 h0 v h' 139 [(0, 16, 113), (1, 0, x1), (2, 0, x2), (4, 0, x4), (5, 0, x5), (6, 0, x6)] [] h :=
  pat_w ok_sdX12_turns rkX12_turns h8 (foX12_turns n) (fun v1 h1 q => by
    cases q
    exact ⟨hG, fun q9 => absurd rfl q9⟩) (List.forall_mem_cons.mpr ⟨(fun a c h H => by
      dsimp only at H
      split at H
      · exact sLX12_turns_142 h8 n _ _ _ _ _ _ _ H hG
      · cases H), (fun q9 h9 => by cases h9)⟩) ((eJX12_turns_139 n x1 x2 x4 x5 x6 h).symm.trans H)
theorem sLX12_turns_56 {l : Launch} {h0 h' : Hp} {v : Int} (h8 : nOf h0 = 148) (n : Nat) (x1 : Int) (x2 : Int) (x4 : Int) (x5 : Int) (x6 : Int) (x7 : Int) (x8 : Int) (h : Hp) {r : Hp} (H : LX12_turns_56 n x1 x2 x4 x5 x6 x7 x8 h = some r) (hG : gW h' r) : PAt l false (mi 96).1 h0 v h' 56 [(0, 16, 113), (1, 0, x1), (2, 0, x2), (4, 0, x4), (5, 0, x5), (6, 0, x6), (7, 0, x7), (8, 0, x8)] [] h := by
  obtain ⟨e9, h2, h3⟩ := bndx_some H
  obtain ⟨e1, e2, e4, e5, e6, h1⟩ := e9
  exact sBX12_turns_56 h8 n n x1 x2 x4 x5 x6 x7 x8 h h2 (sJX12_turns_139 h8 n e1 e2 e4 e5 e6 h1 h3 hG)
theorem sJX12_turns_25 {l : Launch} {h0 h' : Hp} {v : Int} (h8 : nOf h0 = 148) (n : Nat) (x1 : Int) (x2 : Int) (x3 : Int) (x4 : Int) (x5 : Int) (x6 : Int) (z0 : Int) (h : Hp) {r : Hp} (H : JX12_turns_25 n x1 x2 x3 x4 x5 x6 z0 h = some r) (hG : gW h' r) : PAt l false (mi 96).1 h0 v h' 25 [(0, 16, 113), (1, 0, x1), (2, 0, x2), (3, 0, x3), (4, 0, x4), (5, 0, x5), (6, 0, x6)] [(0, z0)] h :=
  pat_w ok_sdX12_turns rkX12_turns h8 (foX12_turns n) (fun v1 h1 q => by
    cases q
    exact ⟨hG, fun q9 => absurd rfl q9⟩) (List.forall_mem_cons.mpr ⟨(fun a c h H => by
      dsimp only at H
      split at H
      · exact sLX12_turns_56 h8 n _ _ _ _ _ _ _ _ H hG
      · cases H), (fun q9 h9 => by cases h9)⟩) ((eJX12_turns_25 n x1 x2 x3 x4 x5 x6 z0 h).symm.trans H)
theorem sMX12_turns {l : Launch} {h0 h' : Hp} {v : Int} (h8 : nOf h0 = 148) (n : Nat) (x1 : Int) (x2 : Int) (x3 : Int) (x4 : Int) (x5 : Int) (h : Hp) {r : Hp} (H : MX12_turns n x1 x2 x3 x4 x5 h = some r) (hG : gW h' r) : PAt l false (mi 96).1 h0 v h' 0 [(0, 16, 113), (1, 0, x1), (2, 0, x2), (3, 0, x3), (4, 0, x4), (5, 0, x5)] [] h :=
  pat_w ok_sdX12_turns rkX12_turns h8 (foX12_turns n) (fun v1 h1 q => by
    cases q
    exact ⟨hG, fun q9 => absurd rfl q9⟩) (List.forall_mem_cons.mpr ⟨(fun a c h H => by
      dsimp only at H
      split at H
      · exact sJX12_turns_25 h8 n _ _ _ _ _ _ _ _ H hG
      · cases H), (fun q9 h9 => by cases h9)⟩) ((eMX12_turns n x1 x2 x3 x4 x5 h).symm.trans H)
theorem sndX12_turns {ρ : Type} {l : Launch} (n : Nat) : SndF (ρ := ρ) l false (mi 96).1 (wX12_turns n) := by
    intro a h k r H ha ho hn hf
    have h8 := hf rfl
    obtain ⟨x0, x1, x2, x3, x4, x5, rfl⟩ := len6 (show a.length = 6 from ha)
    have u0 := uq16 hn (ho (16, x0) (List.mem_cons_self))
    subst u0
    replace H : bndh (MX12_turns n x1 x2 x3 x4 x5 h) (fun h2 => k 0 h2) = some r := H
    obtain ⟨h2, H1, H2⟩ := bndh_some H
    exact ⟨0, h2, H2, met_mk (mok_base okX12_turns).1 (by decide +kernel) (Nat.le_of_ble_eq_true rfl) ho (sMX12_turns h8 n x1 x2 x3 x4 x5 h H1 rfl), fun q => by cases q⟩
/-! X12_makes -/
def sdX12_makes : SD := [(0, [(0, .bipush 6, 2, [], 0), (2, .iload_n 1, 1, [], 0), (3, .imul, 1, [], 0), (4, .istore_n 2, 1, [], 0), (5, .aload_n 0, 1, [], 0), (6, .getfield 127, 3, [12, 2, 0, 0, 1324, 0], 0), (9, .bipush 40, 2, [], 0), (11, .if_icmp .ne 11, 3, [], 0)]),
  (14, [(14, .aload_n 0, 1, [], 0), (15, .iconst 1, 1, [], 0), (16, .putfield 280, 3, [12, 27, 0, 0, 1, 1349], 0), (19, .goto 49, 3, [], 0)]),
  (22, [(22, .iconst 0, 1, [], 0), (23, .istore_n 3, 1, [], 0)]),
  (24, [(24, .iload_n 3, 1, [], 0), (25, .bipush 6, 2, [], 0), (27, .if_icmp .ge 31, 3, [], 0)]),
  (30, [(30, .aload_n 0, 1, [], 0), (31, .getfield 18, 3, [12, 8, 1940, 1, 1330, 0], 3), (34, .bipush 6, 2, [], 0), (36, .aload_n 0, 1, [], 0), (37, .getfield 127, 3, [12, 2, 0, 0, 1324, 0], 0), (40, .imul, 1, [], 0), (41, .iload_n 3, 1, [], 0), (42, .iadd, 1, [], 0), (43, .aload_n 0, 1, [], 0), (44, .getfield 18, 3, [12, 8, 1940, 1, 1330, 0], 3), (47, .iload_n 2, 1, [], 0), (48, .iload_n 3, 1, [], 0), (49, .iadd, 1, [], 0), (50, .iaload, 1, [], 0), (51, .iastore, 1, [], 0), (52, .iinc 3 1, 3, [], 0), (55, .goto (-31), 3, [], 0)]),
  (58, [(58, .aload_n 0, 1, [], 0), (59, .dup, 1, [], 0), (60, .getfield 127, 3, [12, 2, 0, 0, 1324, 0], 0), (63, .iconst 1, 1, [], 0), (64, .iadd, 1, [], 0), (65, .putfield 127, 3, [12, 2, 0, 0, 0, 1324], 0)]),
  (68, [(68, .aload_n 0, 1, [], 0), (69, .getfield 18, 3, [12, 8, 1940, 1, 1330, 0], 3), (72, .iload_n 2, 1, [], 0), (73, .iconst 1, 1, [], 0), (74, .iadd, 1, [], 0), (75, .iaload, 1, [], 0), (76, .istore_n 3, 1, [], 0), (77, .aload_n 0, 1, [], 0), (78, .getfield 18, 3, [12, 8, 1940, 1, 1330, 0], 3), (81, .iload_n 2, 1, [], 0), (82, .iconst 2, 1, [], 0), (83, .iadd, 1, [], 0), (84, .iaload, 1, [], 0), (85, .istore 4, 2, [], 0), (87, .aload_n 0, 1, [], 0), (88, .getfield 18, 3, [12, 8, 1940, 1, 1330, 0], 3), (91, .iload_n 2, 1, [], 0), (92, .iconst 3, 1, [], 0), (93, .iadd, 1, [], 0), (94, .iaload, 1, [], 0), (95, .istore 5, 2, [], 0), (97, .aload_n 0, 1, [], 0), (98, .getfield 18, 3, [12, 8, 1940, 1, 1330, 0], 3), (101, .iload_n 2, 1, [], 0), (102, .iaload, 1, [], 0), (103, .lookupswitch 86 #[(3, 25), (4, 45)], 25, [], 0)]),
  (128, [(128, .aload_n 0, 1, [], 0), (129, .iload_n 3, 1, [], 0), (130, .iload 4, 2, [], 0), (132, .iload 5, 2, [], 0), (134, .aload_n 0, 1, [], 0), (135, .getfield 18, 3, [12, 8, 1940, 1, 1330, 0], 3), (138, .iload_n 2, 1, [], 0), (139, .iconst 5, 1, [], 0), (140, .iadd, 1, [], 0), (141, .iaload, 1, [], 0), (142, .invokevirtual 296, 3, [0, 0, 1, 91, 1615, 0, 0, 0, 0, 16], 0), (145, .goto 69, 3, [], 0)]),
  (148, [(148, .aload_n 0, 1, [], 0), (149, .aload_n 0, 1, [], 0), (150, .getfield 56, 3, [12, 25, 44, 1, 1347, 0], 15), (153, .iconst 0, 1, [], 0), (154, .iaload, 1, [], 0), (155, .iload_n 3, 1, [], 0), (156, .iadd, 1, [], 0), (157, .aload_n 0, 1, [], 0), (158, .getfield 56, 3, [12, 25, 44, 1, 1347, 0], 15), (161, .iconst 1, 1, [], 0), (162, .iaload, 1, [], 0), (163, .iload 4, 2, [], 0), (165, .iadd, 1, [], 0), (166, .aload_n 0, 1, [], 0), (167, .getfield 56, 3, [12, 25, 44, 1, 1347, 0], 15), (170, .iconst 2, 1, [], 0), (171, .iaload, 1, [], 0), (172, .iload 5, 2, [], 0), (174, .iadd, 1, [], 0), (175, .aload_n 0, 1, [], 0), (176, .getfield 18, 3, [12, 8, 1940, 1, 1330, 0], 3), (179, .iload_n 2, 1, [], 0), (180, .iconst 5, 1, [], 0), (181, .iadd, 1, [], 0), (182, .iaload, 1, [], 0), (183, .invokevirtual 296, 3, [0, 0, 1, 91, 1615, 0, 0, 0, 0, 16], 0), (186, .goto 28, 3, [], 0)]),
  (189, [(189, .aload_n 0, 1, [], 0), (190, .iload_n 3, 1, [], 0), (191, .iload 4, 2, [], 0), (193, .iload 5, 2, [], 0), (195, .aload_n 0, 1, [], 0), (196, .getfield 18, 3, [12, 8, 1940, 1, 1330, 0], 3), (199, .iload_n 2, 1, [], 0), (200, .iconst 4, 1, [], 0), (201, .iadd, 1, [], 0), (202, .iaload, 1, [], 0), (203, .aload_n 0, 1, [], 0), (204, .getfield 18, 3, [12, 8, 1940, 1, 1330, 0], 3), (207, .iload_n 2, 1, [], 0), (208, .iconst 5, 1, [], 0), (209, .iadd, 1, [], 0), (210, .iaload, 1, [], 0), (211, .invokevirtual 300, 3, [0, 1, 1, 96, 1621, 0, 0, 0, 0, 0, 16], 0)]),
  (214, [(214, .return_, 1, [], 0)])]
def BX12_makes_24 (n : Nat) : Nat → Int → Int → Hp → Option (Int × Hp)
  | 0, _, _, _ => none
  | f + 1, x2, x3, h =>
    (if 6 ≤ x3 then
    (some (x2, h))
    else
    (grd (0 ≤ (w32 (x2 + x3)) ∧ (w32 (x2 + x3)) < alen 1940)
    (grd (0 ≤ (w32 ((w32 (6 * (h 113 2))) + x3)) ∧ (w32 ((w32 (6 * (h 113 2))) + x3)) < alen 1940)
    (ltt (up h 116 (w32 ((w32 (6 * (h 113 2))) + x3)) (h 116 (w32 (x2 + x3)))) fun h1 =>
    (ltt (w32 (x3 + 1)) fun y1 =>
    (BX12_makes_24 n f x2 y1 h1))))))
def JX12_makes_68 (n : Nat) (x2 : Int) (h : Hp) : Option (Hp) :=
(grd (0 ≤ (w32 (x2 + 1)) ∧ (w32 (x2 + 1)) < alen 1940)
(ltt (h 116 (w32 (x2 + 1))) fun y1 =>
(grd (0 ≤ (w32 (x2 + 2)) ∧ (w32 (x2 + 2)) < alen 1940)
(ltt (h 116 (w32 (x2 + 2))) fun y2 =>
(grd (0 ≤ (w32 (x2 + 3)) ∧ (w32 (x2 + 3)) < alen 1940)
(ltt (h 116 (w32 (x2 + 3))) fun y3 =>
(grd (0 ≤ x2 ∧ x2 < alen 1940)
(if (h 116 x2) = 3 then
(grd (0 ≤ (w32 (x2 + 5)) ∧ (w32 (x2 + 5)) < alen 1940)
(bndh (MX12_comesTo n y1 y2 y3 (h 116 (w32 (x2 + 5))) h) fun h3 =>
(some h3)))
else
(if (h 116 x2) = 4 then
(grd (0 ≤ 0 ∧ 0 < alen 44)
(grd (0 ≤ 1 ∧ 1 < alen 44)
(grd (0 ≤ 2 ∧ 2 < alen 44)
(grd (0 ≤ (w32 (x2 + 5)) ∧ (w32 (x2 + 5)) < alen 1940)
(bndh (MX12_comesTo n (w32 ((h 128 0) + y1)) (w32 ((h 128 1) + y2)) (w32 ((h 128 2) + y3)) (h 116 (w32 (x2 + 5))) h) fun h2 =>
(some h2))))))
else
(grd (0 ≤ (w32 (x2 + 4)) ∧ (w32 (x2 + 4)) < alen 1940)
(grd (0 ≤ (w32 (x2 + 5)) ∧ (w32 (x2 + 5)) < alen 1940)
(bndh (MX12_turns n y1 y2 y3 (h 116 (w32 (x2 + 4))) (h 116 (w32 (x2 + 5))) h) fun h1 =>
(some h1)))))))))))))
def JX12_makes_58 (n : Nat) (x2 : Int) (h : Hp) : Option (Hp) :=
(ltt (up h 113 2 (w32 ((h 113 2) + 1))) fun h1 =>
(JX12_makes_68 n x2 h1))
def LX12_makes_24 (n : Nat) (x2 x3 : Int) (h : Hp) : Option (Hp) :=
(bndx (BX12_makes_24 n n x2 x3 h) fun (e2, h1) =>
(JX12_makes_58 n e2 h1))
def MX12_makes (n : Nat) (x1 : Int) (h : Hp) : Option (Hp) :=
(ltt (w32 (6 * x1)) fun y1 =>
(if (h 113 2) ≠ 40 then
(ltt 0 fun y2 =>
(LX12_makes_24 n y1 y2 h))
else
(ltt (up h 113 27 1) fun h1 =>
(JX12_makes_68 n y1 h1))))
def wX12_makes {ρ : Type} (n : Nat) : FN ρ := fun a h k => match a with
  | [_, x1] => bndh (MX12_makes n x1 h) (fun h2 => k 0 h2)
  | _ => none
def fsX12_makes (n : Nat) (ρ : Type) : List (FN ρ) := [wX12_comesTo n, wX12_turns n]
def KBX12_makes_24 (_ : Nat) (bk : Int → Int → Hp → Option (Int × Hp)) : CT (Int × Hp) := [(24, [(0, 16, (some 113)), (2, 0, none), (3, 0, none)], [], fun a c h => match a, c with
    | [x2, x3], [] => bk x2 x3 h
    | _, _ => none),
  (58, [(0, 16, (some 113)), (2, 0, none)], [], fun a c h => match a, c with
    | [x2], [] => some (x2, h)
    | _, _ => none)]
set_option maxRecDepth 100000 in
theorem eBX12_makes_24 (n f : Nat) (x2 : Int) (x3 : Int) (h : Hp) : BX12_makes_24 n (f + 1) x2 x3 h =
  goAt false (kct (KBX12_makes_24 n (BX12_makes_24 n f))) (fun _ _ => none) (fsX12_makes n _) sdX12_makes 1000 24 [(0, 16, 113), (2, 0, x2), (3, 0, x3)] [] h := rfl
def KJX12_makes_68 (_ : Nat) : CT (Hp) := []
set_option maxRecDepth 100000 in
theorem eJX12_makes_68 (n : Nat) (x2 : Int) (h : Hp) : JX12_makes_68 n x2 h =
  goAt false (kct (KJX12_makes_68 n)) (fun _ h => some (h)) (fsX12_makes n _) sdX12_makes 1000 68 [(0, 16, 113), (2, 0, x2)] [] h := rfl
def KJX12_makes_58 (n : Nat) : CT (Hp) := [(68, [(0, 16, (some 113)), (2, 0, none)], [], fun a c h => match a, c with
    | [x2], [] => JX12_makes_68 n x2 h
    | _, _ => none)]
set_option maxRecDepth 100000 in
theorem eJX12_makes_58 (n : Nat) (x2 : Int) (h : Hp) : JX12_makes_58 n x2 h =
  goAt false (kct (KJX12_makes_58 n)) (fun _ h => some (h)) (fsX12_makes n _) sdX12_makes 1000 58 [(0, 16, 113), (2, 0, x2)] [] h := rfl
def KMX12_makes (n : Nat) : CT (Hp) := [(68, [(0, 16, (some 113)), (2, 0, none)], [], fun a c h => match a, c with
    | [x2], [] => JX12_makes_68 n x2 h
    | _, _ => none),
  (24, [(0, 16, (some 113)), (2, 0, none), (3, 0, none)], [], fun a c h => match a, c with
    | [x2, x3], [] => LX12_makes_24 n x2 x3 h
    | _, _ => none)]
set_option maxRecDepth 100000 in
theorem eMX12_makes (n : Nat) (x1 : Int) (h : Hp) : MX12_makes n x1 h =
  goAt false (kct (KMX12_makes n)) (fun _ h => some (h)) (fsX12_makes n _) sdX12_makes 1000 0 [(0, 16, 113), (1, 0, x1)] [] h := rfl
theorem okX12_makes : mokb (mi 97) = true := by decide +kernel
theorem rkX12_makes : rkOK 0 (mi 97).1.2.2.2.2.2.2.1 (mi 97).1.2.2.2.1 := Or.inl ⟨rfl, rfl, rfl⟩
def calX12_makes : List Nat := [91, 96]
theorem foX12_makes {l : Launch} {ρ : Type} (n : Nat) : fsOK l false mi calX12_makes (fsX12_makes n ρ) := ⟨(sndX12_comesTo n), ⟨(sndX12_turns n), trivial⟩⟩
theorem ok_sdX12_makes : sdb (mi 97).1.2.1 (insOK mi (mi 97).1.1.cls (mi 97).1.2.2.1 (mi 97).1.2.2.2.2.1 (mi 97).1.2.2.2.2.2.1 calX12_makes false 0) sdX12_makes = true := by decide +kernel
def GX12_makes_24 (l : Launch) (h0 : Hp) (h' : Hp) (v : Int) (_ : Hp) : (Int × Hp) → Prop
  | (e2, h1) => PAt l false (mi 97).1 h0 v h' 58 [(0, 16, 113), (2, 0, e2)] [] h1
theorem sBX12_makes_24 {l : Launch} {h0 h' : Hp} {v : Int} (h8 : nOf h0 = 148) (n : Nat) : ∀ (f : Nat) (x2 : Int) (x3 : Int) (h : Hp) {r : Int × Hp}, BX12_makes_24 n f x2 x3 h = some r → GX12_makes_24 l h0 h' v h r → PAt l false (mi 97).1 h0 v h' 24 [(0, 16, 113), (2, 0, x2), (3, 0, x3)] [] h := by
  intro f
  induction f with
  | zero =>
    intro x2 x3 h r H _
    have H2 : (none : Option (Int × Hp)) = some r := H
    cases H2
  | succ f ih =>
    intro x2 x3 h r H hG
    exact pat_w ok_sdX12_makes rkX12_makes h8 (foX12_makes n) (fun v1 h1 q => by cases q) (List.forall_mem_cons.mpr ⟨(fun a c h H => by
      dsimp only at H
      split at H
      · exact ih _ _ _ H hG
      · cases H), (List.forall_mem_cons.mpr ⟨(fun a c h H => by
      dsimp only at H
      split at H
      · cases H
        exact hG
      · cases H), (fun q9 h9 => by cases h9)⟩)⟩) ((eBX12_makes_24 n f x2 x3 h).symm.trans H)
theorem sJX12_makes_68 {l : Launch} {h0 h' : Hp} {v : Int} (h8 : nOf h0 = 148) (n : Nat) (x2 : Int) (h : Hp) {r : Hp} (H : JX12_makes_68 n x2 h = some r) (hG : gW h' r) : PAt l false (mi 97).1 h0 v h' 68 [(0, 16, 113), (2, 0, x2)] [] h :=
  pat_w ok_sdX12_makes rkX12_makes h8 (foX12_makes n) (fun v1 h1 q => by
    cases q
    exact ⟨hG, fun q9 => absurd rfl q9⟩) (fun q9 h9 => by cases h9) ((eJX12_makes_68 n x2 h).symm.trans H)
theorem sJX12_makes_58 {l : Launch} {h0 h' : Hp} {v : Int} (h8 : nOf h0 = 148) (n : Nat) (x2 : Int) (h : Hp) {r : Hp} (H : JX12_makes_58 n x2 h = some r) (hG : gW h' r) : PAt l false (mi 97).1 h0 v h' 58 [(0, 16, 113), (2, 0, x2)] [] h :=
  pat_w ok_sdX12_makes rkX12_makes h8 (foX12_makes n) (fun v1 h1 q => by
    cases q
    exact ⟨hG, fun q9 => absurd rfl q9⟩) (List.forall_mem_cons.mpr ⟨(fun a c h H => by
      dsimp only at H
      split at H
      · exact sJX12_makes_68 h8 n _ _ H hG
      · cases H), (fun q9 h9 => by cases h9)⟩) ((eJX12_makes_58 n x2 h).symm.trans H)
theorem sLX12_makes_24 {l : Launch} {h0 h' : Hp} {v : Int} (h8 : nOf h0 = 148) (n : Nat) (x2 : Int) (x3 : Int) (h : Hp) {r : Hp} (H : LX12_makes_24 n x2 x3 h = some r) (hG : gW h' r) : PAt l false (mi 97).1 h0 v h' 24 [(0, 16, 113), (2, 0, x2), (3, 0, x3)] [] h := by
  obtain ⟨e9, h2, h3⟩ := bndx_some H
  obtain ⟨e2, h1⟩ := e9
  exact sBX12_makes_24 h8 n n x2 x3 h h2 (sJX12_makes_58 h8 n e2 h1 h3 hG)
theorem sMX12_makes {l : Launch} {h0 h' : Hp} {v : Int} (h8 : nOf h0 = 148) (n : Nat) (x1 : Int) (h : Hp) {r : Hp} (H : MX12_makes n x1 h = some r) (hG : gW h' r) : PAt l false (mi 97).1 h0 v h' 0 [(0, 16, 113), (1, 0, x1)] [] h :=
  pat_w ok_sdX12_makes rkX12_makes h8 (foX12_makes n) (fun v1 h1 q => by
    cases q
    exact ⟨hG, fun q9 => absurd rfl q9⟩) (List.forall_mem_cons.mpr ⟨(fun a c h H => by
      dsimp only at H
      split at H
      · exact sJX12_makes_68 h8 n _ _ H hG
      · cases H), (List.forall_mem_cons.mpr ⟨(fun a c h H => by
      dsimp only at H
      split at H
      · exact sLX12_makes_24 h8 n _ _ _ H hG
      · cases H), (fun q9 h9 => by cases h9)⟩)⟩) ((eMX12_makes n x1 h).symm.trans H)
theorem sndX12_makes {ρ : Type} {l : Launch} (n : Nat) : SndF (ρ := ρ) l false (mi 97).1 (wX12_makes n) := by
    intro a h k r H ha ho hn hf
    have h8 := hf rfl
    obtain ⟨x0, x1, rfl⟩ := len2 (show a.length = 2 from ha)
    have u0 := uq16 hn (ho (16, x0) (List.mem_cons_self))
    subst u0
    replace H : bndh (MX12_makes n x1 h) (fun h2 => k 0 h2) = some r := H
    obtain ⟨h2, H1, H2⟩ := bndh_some H
    exact ⟨0, h2, H2, met_mk (mok_base okX12_makes).1 (by decide +kernel) (Nat.le_of_ble_eq_true rfl) ho (sMX12_makes h8 n x1 h H1 rfl), fun q => by cases q⟩
/-! X12_lastMove -/
def sdX12_lastMove : SD := [(0, [(0, .aload_n 0, 1, [], 0), (1, .iconst 1, 1, [], 0), (2, .putfield 280, 3, [12, 27, 0, 0, 1, 1349], 0), (5, .aload_n 0, 1, [], 0), (6, .getfield 65, 3, [12, 31, 68, 1, 1353, 0], 18), (9, .iconst 0, 1, [], 0), (10, .iaload, 1, [], 0), (11, .iconst 5, 1, [], 0), (12, .if_icmp .ne 40, 3, [], 0)]),
  (15, [(15, .aload_n 0, 1, [], 0), (16, .aload_n 0, 1, [], 0), (17, .getfield 65, 3, [12, 31, 68, 1, 1353, 0], 18), (20, .iconst 1, 1, [], 0), (21, .iaload, 1, [], 0), (22, .aload_n 0, 1, [], 0), (23, .getfield 65, 3, [12, 31, 68, 1, 1353, 0], 18), (26, .iconst 2, 1, [], 0), (27, .iaload, 1, [], 0), (28, .aload_n 0, 1, [], 0), (29, .getfield 65, 3, [12, 31, 68, 1, 1353, 0], 18), (32, .iconst 3, 1, [], 0), (33, .iaload, 1, [], 0), (34, .aload_n 0, 1, [], 0), (35, .getfield 65, 3, [12, 31, 68, 1, 1353, 0], 18), (38, .iconst 4, 1, [], 0), (39, .iaload, 1, [], 0), (40, .aload_n 0, 1, [], 0), (41, .getfield 65, 3, [12, 31, 68, 1, 1353, 0], 18), (44, .iconst 5, 1, [], 0), (45, .iaload, 1, [], 0), (46, .invokevirtual 300, 3, [0, 0, 1, 96, 1621, 0, 0, 0, 0, 0, 16], 0), (49, .goto 62, 3, [], 0)]),
  (52, [(52, .aload_n 0, 1, [], 0), (53, .getfield 65, 3, [12, 31, 68, 1, 1353, 0], 18), (56, .iconst 0, 1, [], 0), (57, .iaload, 1, [], 0), (58, .iconst 4, 1, [], 0), (59, .if_icmp .ne 52, 3, [], 0)]),
  (62, [(62, .aload_n 0, 1, [], 0), (63, .aload_n 0, 1, [], 0), (64, .getfield 56, 3, [12, 25, 44, 1, 1347, 0], 15), (67, .iconst 0, 1, [], 0), (68, .iaload, 1, [], 0), (69, .aload_n 0, 1, [], 0), (70, .getfield 65, 3, [12, 31, 68, 1, 1353, 0], 18), (73, .iconst 1, 1, [], 0), (74, .iaload, 1, [], 0), (75, .iadd, 1, [], 0), (76, .aload_n 0, 1, [], 0), (77, .getfield 56, 3, [12, 25, 44, 1, 1347, 0], 15), (80, .iconst 1, 1, [], 0), (81, .iaload, 1, [], 0), (82, .aload_n 0, 1, [], 0), (83, .getfield 65, 3, [12, 31, 68, 1, 1353, 0], 18), (86, .iconst 2, 1, [], 0), (87, .iaload, 1, [], 0), (88, .iadd, 1, [], 0), (89, .aload_n 0, 1, [], 0), (90, .getfield 56, 3, [12, 25, 44, 1, 1347, 0], 15), (93, .iconst 2, 1, [], 0), (94, .iaload, 1, [], 0), (95, .aload_n 0, 1, [], 0), (96, .getfield 65, 3, [12, 31, 68, 1, 1353, 0], 18), (99, .iconst 3, 1, [], 0), (100, .iaload, 1, [], 0), (101, .iadd, 1, [], 0), (102, .aload_n 0, 1, [], 0), (103, .getfield 65, 3, [12, 31, 68, 1, 1353, 0], 18), (106, .iconst 5, 1, [], 0), (107, .iaload, 1, [], 0), (108, .invokevirtual 296, 3, [0, 1, 1, 91, 1615, 0, 0, 0, 0, 16], 0)]),
  (111, [(111, .return_, 1, [], 0)])]
def MX12_lastMove (n : Nat) (h : Hp) : Option (Hp) :=
(ltt (up h 113 27 1) fun h1 =>
(grd (0 ≤ 0 ∧ 0 < alen 68)
(if (h1 131 0) ≠ 5 then
(grd (0 ≤ 0 ∧ 0 < alen 68)
(if (h1 131 0) ≠ 4 then
(some h1)
else
(grd (0 ≤ 0 ∧ 0 < alen 44)
(grd (0 ≤ 1 ∧ 1 < alen 68)
(grd (0 ≤ 1 ∧ 1 < alen 44)
(grd (0 ≤ 2 ∧ 2 < alen 68)
(grd (0 ≤ 2 ∧ 2 < alen 44)
(grd (0 ≤ 3 ∧ 3 < alen 68)
(grd (0 ≤ 5 ∧ 5 < alen 68)
(bndh (MX12_comesTo n (w32 ((h1 128 0) + (h1 131 1))) (w32 ((h1 128 1) + (h1 131 2))) (w32 ((h1 128 2) + (h1 131 3))) (h1 131 5) h1) fun h2 =>
(some h2)))))))))))
else
(grd (0 ≤ 1 ∧ 1 < alen 68)
(grd (0 ≤ 2 ∧ 2 < alen 68)
(grd (0 ≤ 3 ∧ 3 < alen 68)
(grd (0 ≤ 4 ∧ 4 < alen 68)
(grd (0 ≤ 5 ∧ 5 < alen 68)
(bndh (MX12_turns n (h1 131 1) (h1 131 2) (h1 131 3) (h1 131 4) (h1 131 5) h1) fun h3 =>
(some h3))))))))))
def wX12_lastMove {ρ : Type} (n : Nat) : FN ρ := fun a h k => match a with
  | [_] => bndh (MX12_lastMove n h) (fun h2 => k 0 h2)
  | _ => none
def fsX12_lastMove (n : Nat) (ρ : Type) : List (FN ρ) := [wX12_turns n, wX12_comesTo n]
def KMX12_lastMove (_ : Nat) : CT (Hp) := []
set_option maxRecDepth 100000 in
theorem eMX12_lastMove (n : Nat) (h : Hp) : MX12_lastMove n h =
  goAt false (kct (KMX12_lastMove n)) (fun _ h => some (h)) (fsX12_lastMove n _) sdX12_lastMove 1000 0 [(0, 16, 113)] [] h := rfl
theorem okX12_lastMove : mokb (mi 98) = true := by decide +kernel
theorem rkX12_lastMove : rkOK 0 (mi 98).1.2.2.2.2.2.2.1 (mi 98).1.2.2.2.1 := Or.inl ⟨rfl, rfl, rfl⟩
def calX12_lastMove : List Nat := [96, 91]
theorem foX12_lastMove {l : Launch} {ρ : Type} (n : Nat) : fsOK l false mi calX12_lastMove (fsX12_lastMove n ρ) := ⟨(sndX12_turns n), ⟨(sndX12_comesTo n), trivial⟩⟩
theorem ok_sdX12_lastMove : sdb (mi 98).1.2.1 (insOK mi (mi 98).1.1.cls (mi 98).1.2.2.1 (mi 98).1.2.2.2.2.1 (mi 98).1.2.2.2.2.2.1 calX12_lastMove false 0) sdX12_lastMove = true := by decide +kernel
theorem sMX12_lastMove {l : Launch} {h0 h' : Hp} {v : Int} (h8 : nOf h0 = 148) (n : Nat)  (h : Hp) {r : Hp} (H : MX12_lastMove n h = some r) (hG : gW h' r) : PAt l false (mi 98).1 h0 v h' 0 [(0, 16, 113)] [] h :=
  pat_w ok_sdX12_lastMove rkX12_lastMove h8 (foX12_lastMove n) (fun v1 h1 q => by
    cases q
    exact ⟨hG, fun q9 => absurd rfl q9⟩) (fun q9 h9 => by cases h9) ((eMX12_lastMove n h).symm.trans H)
theorem sndX12_lastMove {ρ : Type} {l : Launch} (n : Nat) : SndF (ρ := ρ) l false (mi 98).1 (wX12_lastMove n) := by
    intro a h k r H ha ho hn hf
    have h8 := hf rfl
    obtain ⟨x0, rfl⟩ := len1 (show a.length = 1 from ha)
    have u0 := uq16 hn (ho (16, x0) (List.mem_cons_self))
    subst u0
    replace H : bndh (MX12_lastMove n h) (fun h2 => k 0 h2) = some r := H
    obtain ⟨h2, H1, H2⟩ := bndh_some H
    exact ⟨0, h2, H2, met_mk (mok_base okX12_lastMove).1 (by decide +kernel) (Nat.le_of_ble_eq_true rfl) ho (sMX12_lastMove h8 n  h H1 rfl), fun q => by cases q⟩
/-! X12_judges -/
def sdX12_judges : SD := [(0, [(0, .aload_n 0, 1, [], 0), (1, .getfield 273, 3, [12, 26, 0, 0, 1348, 0], 0), (4, .ifCond .eq 12, 3, [], 0)]),
  (7, [(7, .aload_n 0, 1, [], 0), (8, .iconst 5, 1, [], 0), (9, .iload_n 1, 1, [], 0), (10, .invokevirtual 253, 3, [0, 0, 1, 85, 1577, 0, 0, 16], 0), (13, .goto 16, 3, [], 0)]),
  (16, [(16, .aload_n 0, 1, [], 0), (17, .getfield 280, 3, [12, 27, 0, 0, 1349, 0], 0), (20, .ifCond .eq 9, 3, [], 0)]),
  (23, [(23, .aload_n 0, 1, [], 0), (24, .iconst 4, 1, [], 0), (25, .iload_n 1, 1, [], 0), (26, .invokevirtual 253, 3, [0, 0, 1, 85, 1577, 0, 0, 16], 0)]),
  (29, [(29, .return_, 1, [], 0)])]
def MX12_judges (x1 : Int) (h : Hp) : Option (Hp) :=
(if (h 113 26) = 0 then
(if (h 113 27) = 0 then
(some h)
else
(bndh (MX12_fails 4 x1 h) fun h1 =>
(some h1)))
else
(bndh (MX12_fails 5 x1 h) fun h2 =>
(some h2)))
def wX12_judges {ρ : Type} : FN ρ := fun a h k => match a with
  | [_, x1] => bndh (MX12_judges x1 h) (fun h2 => k 0 h2)
  | _ => none
def fsX12_judges (ρ : Type) : List (FN ρ) := [wX12_fails]
def KMX12_judges  : CT (Hp) := []
set_option maxRecDepth 100000 in
theorem eMX12_judges (x1 : Int) (h : Hp) : MX12_judges x1 h =
  goAt false (kct (KMX12_judges)) (fun _ h => some (h)) (fsX12_judges _) sdX12_judges 1000 0 [(0, 16, 113), (1, 0, x1)] [] h := rfl
theorem okX12_judges : mokb (mi 99) = true := by decide +kernel
theorem rkX12_judges : rkOK 0 (mi 99).1.2.2.2.2.2.2.1 (mi 99).1.2.2.2.1 := Or.inl ⟨rfl, rfl, rfl⟩
def calX12_judges : List Nat := [85]
theorem foX12_judges {l : Launch} {ρ : Type} : fsOK l false mi calX12_judges (fsX12_judges ρ) := ⟨sndX12_fails, trivial⟩
theorem ok_sdX12_judges : sdb (mi 99).1.2.1 (insOK mi (mi 99).1.1.cls (mi 99).1.2.2.1 (mi 99).1.2.2.2.2.1 (mi 99).1.2.2.2.2.2.1 calX12_judges false 0) sdX12_judges = true := by decide +kernel
theorem sMX12_judges {l : Launch} {h0 h' : Hp} {v : Int} (h8 : nOf h0 = 148)  (x1 : Int) (h : Hp) {r : Hp} (H : MX12_judges x1 h = some r) (hG : gW h' r) : PAt l false (mi 99).1 h0 v h' 0 [(0, 16, 113), (1, 0, x1)] [] h :=
  pat_w ok_sdX12_judges rkX12_judges h8 (foX12_judges) (fun v1 h1 q => by
    cases q
    exact ⟨hG, fun q9 => absurd rfl q9⟩) (fun q9 h9 => by cases h9) ((eMX12_judges x1 h).symm.trans H)
theorem sndX12_judges {ρ : Type} {l : Launch} : SndF (ρ := ρ) l false (mi 99).1 (wX12_judges) := by
    intro a h k r H ha ho hn hf
    have h8 := hf rfl
    obtain ⟨x0, x1, rfl⟩ := len2 (show a.length = 2 from ha)
    have u0 := uq16 hn (ho (16, x0) (List.mem_cons_self))
    subst u0
    replace H : bndh (MX12_judges x1 h) (fun h2 => k 0 h2) = some r := H
    obtain ⟨h2, H1, H2⟩ := bndh_some H
    exact ⟨0, h2, H2, met_mk (mok_base okX12_judges).1 (by decide +kernel) (Nat.le_of_ble_eq_true rfl) ho (sMX12_judges h8 x1 h H1 rfl), fun q => by cases q⟩
/-! X12_readsMove -/
def sdX12_readsMove : SD := [(0, [(0, .iload_n 1, 1, [], 0), (1, .iconst 5, 1, [], 0), (2, .if_icmp .ne 7, 3, [], 0)]),
  (5, [(5, .iconst 1, 1, [], 0), (6, .goto 4, 3, [], 0)]),
  (9, [(9, .iconst 0, 1, [], 0)]),
  (10, [(10, .istore_n 3, 1, [], 0), (11, .aload_n 0, 1, [], 0), (12, .getfield 65, 3, [12, 31, 68, 1, 1353, 0], 18), (15, .iconst 0, 1, [], 0), (16, .iload_n 1, 1, [], 0), (17, .iastore, 1, [], 0), (18, .aload_n 0, 1, [], 0), (19, .getfield 65, 3, [12, 31, 68, 1, 1353, 0], 18), (22, .iconst 1, 1, [], 0), (23, .aload_n 0, 1, [], 0), (24, .ldc_w 304, 3, [0, 1605], (-100000)), (27, .ldc_w 305, 3, [0, 1606], 100000), (30, .invokevirtual 306, 3, [1, 0, 1, 87, 1585, 0, 0, 16], 0), (33, .iastore, 1, [], 0), (34, .aload_n 0, 1, [], 0), (35, .getfield 65, 3, [12, 31, 68, 1, 1353, 0], 18), (38, .iconst 2, 1, [], 0), (39, .aload_n 0, 1, [], 0), (40, .ldc_w 304, 3, [0, 1605], (-100000)), (43, .ldc_w 305, 3, [0, 1606], 100000), (46, .invokevirtual 306, 3, [1, 0, 1, 87, 1585, 0, 0, 16], 0), (49, .iastore, 1, [], 0), (50, .iload_n 3, 1, [], 0), (51, .ifCond .eq 37, 3, [], 0)]),
  (54, [(54, .aload_n 0, 1, [], 0), (55, .invokevirtual 240, 3, [1, 1, 1, 78, 1535, 16], 0), (58, .ifCond .eq 30, 3, [], 0)]),
  (61, [(61, .aload_n 0, 1, [], 0), (62, .getfield 65, 3, [12, 31, 68, 1, 1353, 0], 18), (65, .iconst 1, 1, [], 0), (66, .iaload, 1, [], 0), (67, .ifCond .ne 21, 3, [], 0)]),
  (70, [(70, .aload_n 0, 1, [], 0), (71, .getfield 65, 3, [12, 31, 68, 1, 1353, 0], 18), (74, .iconst 2, 1, [], 0), (75, .iaload, 1, [], 0), (76, .ifCond .ne 12, 3, [], 0)]),
  (79, [(79, .aload_n 0, 1, [], 0), (80, .iconst 2, 1, [], 0), (81, .aload_n 0, 1, [], 0), (82, .getfield 247, 3, [12, 23, 0, 0, 1345, 0], 0), (85, .invokevirtual 253, 3, [0, 2, 1, 85, 1577, 0, 0, 16], 0)]),
  (88, [(88, .aload_n 0, 1, [], 0), (89, .getfield 65, 3, [12, 31, 68, 1, 1353, 0], 18), (92, .iconst 3, 1, [], 0), (93, .iload_n 3, 1, [], 0), (94, .ifCond .eq 10, 3, [], 0)]),
  (97, [(97, .aload_n 0, 1, [], 0), (98, .invokevirtual 309, 3, [1, 3, 1, 90, 1607, 16], 0), (101, .goto 13, 3, [], 0)]),
  (104, [(104, .aload_n 0, 1, [], 0), (105, .ldc_w 304, 3, [0, 1605], (-100000)), (108, .ldc_w 305, 3, [0, 1606], 100000), (111, .invokevirtual 306, 3, [1, 0, 1, 87, 1585, 0, 0, 16], 0)]),
  (114, [(114, .iastore, 1, [], 0), (115, .aload_n 0, 1, [], 0), (116, .getfield 65, 3, [12, 31, 68, 1, 1353, 0], 18), (119, .iconst 4, 1, [], 0), (120, .iload_n 3, 1, [], 0), (121, .ifCond .eq 16, 3, [], 0)]),
  (124, [(124, .aload_n 0, 1, [], 0), (125, .ldc_w 304, 3, [0, 1605], (-100000)), (128, .ldc_w 305, 3, [0, 1606], 100000), (131, .invokevirtual 306, 3, [1, 0, 1, 87, 1585, 0, 0, 16], 0), (134, .goto 4, 3, [], 0)]),
  (137, [(137, .iconst 0, 1, [], 0)]),
  (138, [(138, .iastore, 1, [], 0), (139, .aload_n 0, 1, [], 0), (140, .getfield 65, 3, [12, 31, 68, 1, 1353, 0], 18), (143, .iconst 5, 1, [], 0), (144, .aload_n 0, 1, [], 0), (145, .iconst 1, 1, [], 0), (146, .sipush 5000, 3, [], 0), (149, .invokevirtual 306, 3, [1, 0, 1, 87, 1585, 0, 0, 16], 0), (152, .iastore, 1, [], 0), (153, .aload_n 0, 1, [], 0), (154, .invokevirtual 312, 3, [0, 4, 1, 88, 1597, 16], 0), (157, .aload_n 0, 1, [], 0), (158, .invokevirtual 240, 3, [1, 1, 1, 78, 1535, 16], 0), (161, .ifCond .ne 4, 3, [], 0)]),
  (164, [(164, .return_, 1, [], 0)]),
  (165, [(165, .aload_n 0, 1, [], 0), (166, .iconst 0, 1, [], 0), (167, .putfield 273, 3, [12, 26, 0, 0, 1, 1348], 0), (170, .aload_n 0, 1, [], 0), (171, .iconst 0, 1, [], 0), (172, .putfield 280, 3, [12, 27, 0, 0, 1, 1349], 0), (175, .aload_n 0, 1, [], 0), (176, .getfield 127, 3, [12, 2, 0, 0, 1324, 0], 0), (179, .bipush 40, 2, [], 0), (181, .if_icmp .ge 52, 3, [], 0)]),
  (184, [(184, .iconst 0, 1, [], 0), (185, .istore 4, 2, [], 0)]),
  (187, [(187, .iload 4, 2, [], 0), (189, .bipush 6, 2, [], 0), (191, .if_icmp .ge 31, 3, [], 0)]),
  (194, [(194, .aload_n 0, 1, [], 0), (195, .getfield 18, 3, [12, 8, 1940, 1, 1330, 0], 3), (198, .bipush 6, 2, [], 0), (200, .aload_n 0, 1, [], 0), (201, .getfield 127, 3, [12, 2, 0, 0, 1324, 0], 0), (204, .imul, 1, [], 0), (205, .iload 4, 2, [], 0), (207, .iadd, 1, [], 0), (208, .aload_n 0, 1, [], 0), (209, .getfield 65, 3, [12, 31, 68, 1, 1353, 0], 18), (212, .iload 4, 2, [], 0), (214, .iaload, 1, [], 0), (215, .iastore, 1, [], 0), (216, .iinc 4 1, 3, [], 0), (219, .goto (-32), 3, [], 0)]),
  (222, [(222, .aload_n 0, 1, [], 0), (223, .aload_n 0, 1, [], 0), (224, .getfield 127, 3, [12, 2, 0, 0, 1324, 0], 0), (227, .invokevirtual 315, 3, [0, 5, 1, 97, 1611, 0, 16], 0), (230, .goto 7, 3, [], 0)]),
  (233, [(233, .aload_n 0, 1, [], 0), (234, .invokevirtual 318, 3, [0, 6, 1, 98, 1634, 16], 0)]),
  (237, [(237, .aload_n 0, 1, [], 0), (238, .iload_n 2, 1, [], 0), (239, .invokevirtual 321, 3, [0, 7, 1, 99, 1638, 0, 16], 0), (242, .return_, 1, [], 0)])]
def JX12_readsMove_237 (n : Nat) (x2 : Int) (h : Hp) : Option (Hp) :=
(bndh (MX12_judges x2 h) fun h1 =>
(some h1))
def BX12_readsMove_187 (n : Nat) : Nat → Int → Int → Hp → Option (Int × Hp)
  | 0, _, _, _ => none
  | f + 1, x2, x4, h =>
    (if 6 ≤ x4 then
    (some (x2, h))
    else
    (grd (0 ≤ x4 ∧ x4 < alen 68)
    (grd (0 ≤ (w32 ((w32 (6 * (h 113 2))) + x4)) ∧ (w32 ((w32 (6 * (h 113 2))) + x4)) < alen 1940)
    (ltt (up h 116 (w32 ((w32 (6 * (h 113 2))) + x4)) (h 131 x4)) fun h1 =>
    (ltt (w32 (x4 + 1)) fun y1 =>
    (BX12_readsMove_187 n f x2 y1 h1))))))
def JX12_readsMove_222 (n : Nat) (x2 : Int) (h : Hp) : Option (Hp) :=
(bndh (MX12_makes n (h 113 2) h) fun h1 =>
(JX12_readsMove_237 n x2 h1))
def LX12_readsMove_187 (n : Nat) (x2 x4 : Int) (h : Hp) : Option (Hp) :=
(bndx (BX12_readsMove_187 n n x2 x4 h) fun (e2, h1) =>
(JX12_readsMove_222 n e2 h1))
def JX12_readsMove_138 (n : Nat) (x2 z0 z1 z2 : Int) (h : Hp) : Option (Hp) :=
(grd (0 ≤ z1 ∧ z1 < alen 68)
(ltt (up h z0 z1 z2) fun h1 =>
(bnd (MX12_number n 1 5000 h1) fun r1 h2 =>
(grd (0 ≤ 5 ∧ 5 < alen 68)
(ltt (up h2 131 5 r1) fun h3 =>
(bndh (MX12_ends n h3) fun h4 =>
(bndp (MX12_isRight h4) fun r2 =>
(if r2 ≠ 0 then
(ltt (up h4 113 26 0) fun h5 =>
(ltt (up h5 113 27 0) fun h6 =>
(if 40 ≤ (h6 113 2) then
(bndh (MX12_lastMove n h6) fun h7 =>
(JX12_readsMove_237 n x2 h7))
else
(ltt 0 fun y1 =>
(LX12_readsMove_187 n x2 y1 h6)))))
else
(some h4)))))))))
def JX12_readsMove_114 (n : Nat) (x2 x3 z0 z1 z2 : Int) (h : Hp) : Option (Hp) :=
(grd (0 ≤ z1 ∧ z1 < alen 68)
(ltt (up h z0 z1 z2) fun h1 =>
(if x3 = 0 then
(JX12_readsMove_138 n x2 131 4 0 h1)
else
(bnd (MX12_number n (-100000) 100000 h1) fun r1 h2 =>
(JX12_readsMove_138 n x2 131 4 r1 h2)))))
def JX12_readsMove_88 (n : Nat) (x2 x3 : Int) (h : Hp) : Option (Hp) :=
(if x3 = 0 then
(bnd (MX12_number n (-100000) 100000 h) fun r1 h1 =>
(JX12_readsMove_114 n x2 x3 131 3 r1 h1))
else
(bnd (MX12_quarters n h) fun r2 h2 =>
(JX12_readsMove_114 n x2 x3 131 3 r2 h2)))
def JX12_readsMove_10 (n : Nat) (x1 x2 z0 : Int) (h : Hp) : Option (Hp) :=
(ltt z0 fun y1 =>
(grd (0 ≤ 0 ∧ 0 < alen 68)
(ltt (up h 131 0 x1) fun h1 =>
(bnd (MX12_number n (-100000) 100000 h1) fun r1 h2 =>
(grd (0 ≤ 1 ∧ 1 < alen 68)
(ltt (up h2 131 1 r1) fun h3 =>
(bnd (MX12_number n (-100000) 100000 h3) fun r2 h4 =>
(grd (0 ≤ 2 ∧ 2 < alen 68)
(ltt (up h4 131 2 r2) fun h5 =>
(if y1 = 0 then
(JX12_readsMove_88 n x2 y1 h5)
else
(bndp (MX12_isRight h5) fun r3 =>
(if r3 = 0 then
(JX12_readsMove_88 n x2 y1 h5)
else
(grd (0 ≤ 1 ∧ 1 < alen 68)
(if (h5 131 1) ≠ 0 then
(JX12_readsMove_88 n x2 y1 h5)
else
(grd (0 ≤ 2 ∧ 2 < alen 68)
(if (h5 131 2) ≠ 0 then
(JX12_readsMove_88 n x2 y1 h5)
else
(bndh (MX12_fails 2 (h5 113 23) h5) fun h6 =>
(JX12_readsMove_88 n x2 y1 h6))))))))))))))))))
def MX12_readsMove (n : Nat) (x1 x2 : Int) (h : Hp) : Option (Hp) :=
(if x1 ≠ 5 then
(JX12_readsMove_10 n x1 x2 0 h)
else
(JX12_readsMove_10 n x1 x2 1 h))
def wX12_readsMove {ρ : Type} (n : Nat) : FN ρ := fun a h k => match a with
  | [_, x1, x2] => bndh (MX12_readsMove n x1 x2 h) (fun h2 => k 0 h2)
  | _ => none
def fsX12_readsMove (n : Nat) (ρ : Type) : List (FN ρ) := [wX12_number n, wX12_isRight, wX12_fails, wX12_quarters n, wX12_ends n, wX12_makes n, wX12_lastMove n, wX12_judges]
def KJX12_readsMove_237 (_ : Nat) : CT (Hp) := []
set_option maxRecDepth 100000 in
theorem eJX12_readsMove_237 (n : Nat) (x2 : Int) (h : Hp) : JX12_readsMove_237 n x2 h =
  goAt false (kct (KJX12_readsMove_237 n)) (fun _ h => some (h)) (fsX12_readsMove n _) sdX12_readsMove 1000 237 [(0, 16, 113), (2, 0, x2)] [] h := rfl
def KBX12_readsMove_187 (_ : Nat) (bk : Int → Int → Hp → Option (Int × Hp)) : CT (Int × Hp) := [(187, [(0, 16, (some 113)), (2, 0, none), (4, 0, none)], [], fun a c h => match a, c with
    | [x2, x4], [] => bk x2 x4 h
    | _, _ => none),
  (222, [(0, 16, (some 113)), (2, 0, none)], [], fun a c h => match a, c with
    | [x2], [] => some (x2, h)
    | _, _ => none)]
set_option maxRecDepth 100000 in
theorem eBX12_readsMove_187 (n f : Nat) (x2 : Int) (x4 : Int) (h : Hp) : BX12_readsMove_187 n (f + 1) x2 x4 h =
  goAt false (kct (KBX12_readsMove_187 n (BX12_readsMove_187 n f))) (fun _ _ => none) (fsX12_readsMove n _) sdX12_readsMove 1000 187 [(0, 16, 113), (2, 0, x2), (4, 0, x4)] [] h := rfl
def KJX12_readsMove_222 (n : Nat) : CT (Hp) := [(237, [(0, 16, (some 113)), (2, 0, none)], [], fun a c h => match a, c with
    | [x2], [] => JX12_readsMove_237 n x2 h
    | _, _ => none)]
set_option maxRecDepth 100000 in
theorem eJX12_readsMove_222 (n : Nat) (x2 : Int) (h : Hp) : JX12_readsMove_222 n x2 h =
  goAt false (kct (KJX12_readsMove_222 n)) (fun _ h => some (h)) (fsX12_readsMove n _) sdX12_readsMove 1000 222 [(0, 16, 113), (2, 0, x2)] [] h := rfl
def KJX12_readsMove_138 (n : Nat) : CT (Hp) := [(237, [(0, 16, (some 113)), (2, 0, none)], [], fun a c h => match a, c with
    | [x2], [] => JX12_readsMove_237 n x2 h
    | _, _ => none),
  (187, [(0, 16, (some 113)), (2, 0, none), (4, 0, none)], [], fun a c h => match a, c with
    | [x2, x4], [] => LX12_readsMove_187 n x2 x4 h
    | _, _ => none)]
set_option maxRecDepth 100000 in
theorem eJX12_readsMove_138 (n : Nat) (x2 : Int) (z0 : Int) (z1 : Int) (z2 : Int) (h : Hp) : JX12_readsMove_138 n x2 z0 z1 z2 h =
  goAt false (kct (KJX12_readsMove_138 n)) (fun _ h => some (h)) (fsX12_readsMove n _) sdX12_readsMove 1000 138 [(0, 16, 113), (2, 0, x2)] [(0, z2), (0, z1), (68, z0)] h := rfl
def KJX12_readsMove_114 (n : Nat) : CT (Hp) := [(138, [(0, 16, (some 113)), (2, 0, none)], [(0, none), (0, none), (68, none)], fun a c h => match a, c with
    | [x2], [z2, z1, z0] => JX12_readsMove_138 n x2 z0 z1 z2 h
    | _, _ => none)]
set_option maxRecDepth 100000 in
theorem eJX12_readsMove_114 (n : Nat) (x2 : Int) (x3 : Int) (z0 : Int) (z1 : Int) (z2 : Int) (h : Hp) : JX12_readsMove_114 n x2 x3 z0 z1 z2 h =
  goAt false (kct (KJX12_readsMove_114 n)) (fun _ h => some (h)) (fsX12_readsMove n _) sdX12_readsMove 1000 114 [(0, 16, 113), (2, 0, x2), (3, 0, x3)] [(0, z2), (0, z1), (68, z0)] h := rfl
def KJX12_readsMove_88 (n : Nat) : CT (Hp) := [(114, [(0, 16, (some 113)), (2, 0, none), (3, 0, none)], [(0, none), (0, none), (68, none)], fun a c h => match a, c with
    | [x2, x3], [z2, z1, z0] => JX12_readsMove_114 n x2 x3 z0 z1 z2 h
    | _, _ => none)]
set_option maxRecDepth 100000 in
theorem eJX12_readsMove_88 (n : Nat) (x2 : Int) (x3 : Int) (h : Hp) : JX12_readsMove_88 n x2 x3 h =
  goAt false (kct (KJX12_readsMove_88 n)) (fun _ h => some (h)) (fsX12_readsMove n _) sdX12_readsMove 1000 88 [(0, 16, 113), (2, 0, x2), (3, 0, x3)] [] h := rfl
def KJX12_readsMove_10 (n : Nat) : CT (Hp) := [(88, [(0, 16, (some 113)), (2, 0, none), (3, 0, none)], [], fun a c h => match a, c with
    | [x2, x3], [] => JX12_readsMove_88 n x2 x3 h
    | _, _ => none)]
set_option maxRecDepth 100000 in
theorem eJX12_readsMove_10 (n : Nat) (x1 : Int) (x2 : Int) (z0 : Int) (h : Hp) : JX12_readsMove_10 n x1 x2 z0 h =
  goAt false (kct (KJX12_readsMove_10 n)) (fun _ h => some (h)) (fsX12_readsMove n _) sdX12_readsMove 1000 10 [(0, 16, 113), (1, 0, x1), (2, 0, x2)] [(0, z0)] h := rfl
def KMX12_readsMove (n : Nat) : CT (Hp) := [(10, [(0, 16, (some 113)), (1, 0, none), (2, 0, none)], [(0, none)], fun a c h => match a, c with
    | [x1, x2], [z0] => JX12_readsMove_10 n x1 x2 z0 h
    | _, _ => none)]
set_option maxRecDepth 100000 in
theorem eMX12_readsMove (n : Nat) (x1 : Int) (x2 : Int) (h : Hp) : MX12_readsMove n x1 x2 h =
  goAt false (kct (KMX12_readsMove n)) (fun _ h => some (h)) (fsX12_readsMove n _) sdX12_readsMove 1000 0 [(0, 16, 113), (1, 0, x1), (2, 0, x2)] [] h := rfl
theorem okX12_readsMove : mokb (mi 100) = true := by decide +kernel
theorem rkX12_readsMove : rkOK 0 (mi 100).1.2.2.2.2.2.2.1 (mi 100).1.2.2.2.1 := Or.inl ⟨rfl, rfl, rfl⟩
def calX12_readsMove : List Nat := [87, 78, 85, 90, 88, 97, 98, 99]
theorem foX12_readsMove {l : Launch} {ρ : Type} (n : Nat) : fsOK l false mi calX12_readsMove (fsX12_readsMove n ρ) := ⟨(sndX12_number n), ⟨sndX12_isRight, ⟨sndX12_fails, ⟨(sndX12_quarters n), ⟨(sndX12_ends n), ⟨(sndX12_makes n), ⟨(sndX12_lastMove n), ⟨sndX12_judges, trivial⟩⟩⟩⟩⟩⟩⟩⟩
theorem ok_sdX12_readsMove : sdb (mi 100).1.2.1 (insOK mi (mi 100).1.1.cls (mi 100).1.2.2.1 (mi 100).1.2.2.2.2.1 (mi 100).1.2.2.2.2.2.1 calX12_readsMove false 0) sdX12_readsMove = true := by decide +kernel
def GX12_readsMove_187 (l : Launch) (h0 : Hp) (h' : Hp) (v : Int) (_ : Hp) : (Int × Hp) → Prop
  | (e2, h1) => PAt l false (mi 100).1 h0 v h' 222 [(0, 16, 113), (2, 0, e2)] [] h1
theorem sJX12_readsMove_237 {l : Launch} {h0 h' : Hp} {v : Int} (h8 : nOf h0 = 148) (n : Nat) (x2 : Int) (h : Hp) {r : Hp} (H : JX12_readsMove_237 n x2 h = some r) (hG : gW h' r) : PAt l false (mi 100).1 h0 v h' 237 [(0, 16, 113), (2, 0, x2)] [] h :=
  pat_w ok_sdX12_readsMove rkX12_readsMove h8 (foX12_readsMove n) (fun v1 h1 q => by
    cases q
    exact ⟨hG, fun q9 => absurd rfl q9⟩) (fun q9 h9 => by cases h9) ((eJX12_readsMove_237 n x2 h).symm.trans H)
theorem sBX12_readsMove_187 {l : Launch} {h0 h' : Hp} {v : Int} (h8 : nOf h0 = 148) (n : Nat) : ∀ (f : Nat) (x2 : Int) (x4 : Int) (h : Hp) {r : Int × Hp}, BX12_readsMove_187 n f x2 x4 h = some r → GX12_readsMove_187 l h0 h' v h r → PAt l false (mi 100).1 h0 v h' 187 [(0, 16, 113), (2, 0, x2), (4, 0, x4)] [] h := by
  intro f
  induction f with
  | zero =>
    intro x2 x4 h r H _
    have H2 : (none : Option (Int × Hp)) = some r := H
    cases H2
  | succ f ih =>
    intro x2 x4 h r H hG
    exact pat_w ok_sdX12_readsMove rkX12_readsMove h8 (foX12_readsMove n) (fun v1 h1 q => by cases q) (List.forall_mem_cons.mpr ⟨(fun a c h H => by
      dsimp only at H
      split at H
      · exact ih _ _ _ H hG
      · cases H), (List.forall_mem_cons.mpr ⟨(fun a c h H => by
      dsimp only at H
      split at H
      · cases H
        exact hG
      · cases H), (fun q9 h9 => by cases h9)⟩)⟩) ((eBX12_readsMove_187 n f x2 x4 h).symm.trans H)
theorem sJX12_readsMove_222 {l : Launch} {h0 h' : Hp} {v : Int} (h8 : nOf h0 = 148) (n : Nat) (x2 : Int) (h : Hp) {r : Hp} (H : JX12_readsMove_222 n x2 h = some r) (hG : gW h' r) : PAt l false (mi 100).1 h0 v h' 222 [(0, 16, 113), (2, 0, x2)] [] h :=
  pat_w ok_sdX12_readsMove rkX12_readsMove h8 (foX12_readsMove n) (fun v1 h1 q => by
    cases q
    exact ⟨hG, fun q9 => absurd rfl q9⟩) (List.forall_mem_cons.mpr ⟨(fun a c h H => by
      dsimp only at H
      split at H
      · exact sJX12_readsMove_237 h8 n _ _ H hG
      · cases H), (fun q9 h9 => by cases h9)⟩) ((eJX12_readsMove_222 n x2 h).symm.trans H)
theorem sLX12_readsMove_187 {l : Launch} {h0 h' : Hp} {v : Int} (h8 : nOf h0 = 148) (n : Nat) (x2 : Int) (x4 : Int) (h : Hp) {r : Hp} (H : LX12_readsMove_187 n x2 x4 h = some r) (hG : gW h' r) : PAt l false (mi 100).1 h0 v h' 187 [(0, 16, 113), (2, 0, x2), (4, 0, x4)] [] h := by
  obtain ⟨e9, h2, h3⟩ := bndx_some H
  obtain ⟨e2, h1⟩ := e9
  exact sBX12_readsMove_187 h8 n n x2 x4 h h2 (sJX12_readsMove_222 h8 n e2 h1 h3 hG)
theorem sJX12_readsMove_138 {l : Launch} {h0 h' : Hp} {v : Int} (h8 : nOf h0 = 148) (n : Nat) (x2 : Int) (z0 : Int) (z1 : Int) (z2 : Int) (h : Hp) {r : Hp} (H : JX12_readsMove_138 n x2 z0 z1 z2 h = some r) (hG : gW h' r) : PAt l false (mi 100).1 h0 v h' 138 [(0, 16, 113), (2, 0, x2)] [(0, z2), (0, z1), (68, z0)] h :=
  pat_w ok_sdX12_readsMove rkX12_readsMove h8 (foX12_readsMove n) (fun v1 h1 q => by
    cases q
    exact ⟨hG, fun q9 => absurd rfl q9⟩) (List.forall_mem_cons.mpr ⟨(fun a c h H => by
      dsimp only at H
      split at H
      · exact sJX12_readsMove_237 h8 n _ _ H hG
      · cases H), (List.forall_mem_cons.mpr ⟨(fun a c h H => by
      dsimp only at H
      split at H
      · exact sLX12_readsMove_187 h8 n _ _ _ H hG
      · cases H), (fun q9 h9 => by cases h9)⟩)⟩) ((eJX12_readsMove_138 n x2 z0 z1 z2 h).symm.trans H)
theorem sJX12_readsMove_114 {l : Launch} {h0 h' : Hp} {v : Int} (h8 : nOf h0 = 148) (n : Nat) (x2 : Int) (x3 : Int) (z0 : Int) (z1 : Int) (z2 : Int) (h : Hp) {r : Hp} (H : JX12_readsMove_114 n x2 x3 z0 z1 z2 h = some r) (hG : gW h' r) : PAt l false (mi 100).1 h0 v h' 114 [(0, 16, 113), (2, 0, x2), (3, 0, x3)] [(0, z2), (0, z1), (68, z0)] h :=
  pat_w ok_sdX12_readsMove rkX12_readsMove h8 (foX12_readsMove n) (fun v1 h1 q => by
    cases q
    exact ⟨hG, fun q9 => absurd rfl q9⟩) (List.forall_mem_cons.mpr ⟨(fun a c h H => by
      dsimp only at H
      split at H
      · exact sJX12_readsMove_138 h8 n _ _ _ _ _ H hG
      · cases H), (fun q9 h9 => by cases h9)⟩) ((eJX12_readsMove_114 n x2 x3 z0 z1 z2 h).symm.trans H)
theorem sJX12_readsMove_88 {l : Launch} {h0 h' : Hp} {v : Int} (h8 : nOf h0 = 148) (n : Nat) (x2 : Int) (x3 : Int) (h : Hp) {r : Hp} (H : JX12_readsMove_88 n x2 x3 h = some r) (hG : gW h' r) : PAt l false (mi 100).1 h0 v h' 88 [(0, 16, 113), (2, 0, x2), (3, 0, x3)] [] h :=
  pat_w ok_sdX12_readsMove rkX12_readsMove h8 (foX12_readsMove n) (fun v1 h1 q => by
    cases q
    exact ⟨hG, fun q9 => absurd rfl q9⟩) (List.forall_mem_cons.mpr ⟨(fun a c h H => by
      dsimp only at H
      split at H
      · exact sJX12_readsMove_114 h8 n _ _ _ _ _ _ H hG
      · cases H), (fun q9 h9 => by cases h9)⟩) ((eJX12_readsMove_88 n x2 x3 h).symm.trans H)
theorem sJX12_readsMove_10 {l : Launch} {h0 h' : Hp} {v : Int} (h8 : nOf h0 = 148) (n : Nat) (x1 : Int) (x2 : Int) (z0 : Int) (h : Hp) {r : Hp} (H : JX12_readsMove_10 n x1 x2 z0 h = some r) (hG : gW h' r) : PAt l false (mi 100).1 h0 v h' 10 [(0, 16, 113), (1, 0, x1), (2, 0, x2)] [(0, z0)] h :=
  pat_w ok_sdX12_readsMove rkX12_readsMove h8 (foX12_readsMove n) (fun v1 h1 q => by
    cases q
    exact ⟨hG, fun q9 => absurd rfl q9⟩) (List.forall_mem_cons.mpr ⟨(fun a c h H => by
      dsimp only at H
      split at H
      · exact sJX12_readsMove_88 h8 n _ _ _ H hG
      · cases H), (fun q9 h9 => by cases h9)⟩) ((eJX12_readsMove_10 n x1 x2 z0 h).symm.trans H)
theorem sMX12_readsMove {l : Launch} {h0 h' : Hp} {v : Int} (h8 : nOf h0 = 148) (n : Nat) (x1 : Int) (x2 : Int) (h : Hp) {r : Hp} (H : MX12_readsMove n x1 x2 h = some r) (hG : gW h' r) : PAt l false (mi 100).1 h0 v h' 0 [(0, 16, 113), (1, 0, x1), (2, 0, x2)] [] h :=
  pat_w ok_sdX12_readsMove rkX12_readsMove h8 (foX12_readsMove n) (fun v1 h1 q => by
    cases q
    exact ⟨hG, fun q9 => absurd rfl q9⟩) (List.forall_mem_cons.mpr ⟨(fun a c h H => by
      dsimp only at H
      split at H
      · exact sJX12_readsMove_10 h8 n _ _ _ _ H hG
      · cases H), (fun q9 h9 => by cases h9)⟩) ((eMX12_readsMove n x1 x2 h).symm.trans H)
theorem sndX12_readsMove {ρ : Type} {l : Launch} (n : Nat) : SndF (ρ := ρ) l false (mi 100).1 (wX12_readsMove n) := by
    intro a h k r H ha ho hn hf
    have h8 := hf rfl
    obtain ⟨x0, x1, x2, rfl⟩ := len3 (show a.length = 3 from ha)
    have u0 := uq16 hn (ho (16, x0) (List.mem_cons_self))
    subst u0
    replace H : bndh (MX12_readsMove n x1 x2 h) (fun h2 => k 0 h2) = some r := H
    obtain ⟨h2, H1, H2⟩ := bndh_some H
    exact ⟨0, h2, H2, met_mk (mok_base okX12_readsMove).1 (by decide +kernel) (Nat.le_of_ble_eq_true rfl) ho (sMX12_readsMove h8 n x1 x2 h H1 rfl), fun q => by cases q⟩
/-! X12_markOf -/
def sdX12_markOf : SD := [(0, [(0, .iconst 0, 1, [], 0), (1, .istore_n 3, 1, [], 0)]),
  (2, [(2, .iload_n 3, 1, [], 0), (3, .aload_n 0, 1, [], 0), (4, .getfield 134, 3, [12, 4, 0, 0, 1326, 0], 0), (7, .if_icmp .ge 22, 3, [], 0)]),
  (10, [(10, .aload_n 0, 1, [], 0), (11, .getfield 21, 3, [12, 9, 85, 1, 1331, 0], 4), (14, .iload_n 3, 1, [], 0), (15, .laload, 1, [], 0), (16, .lload_n 1, 1, [], 0), (17, .lcmp, 1, [], 0), (18, .ifCond .ne 5, 3, [], 0)]),
  (21, [(21, .iload_n 3, 1, [], 0), (22, .ireturn, 1, [], 0)]),
  (23, [(23, .iinc 3 1, 3, [], 0), (26, .goto (-24), 3, [], 0)]),
  (29, [(29, .iconst (-1), 1, [], 0), (30, .ireturn, 1, [], 0)])]
def BX12_markOf_2 (n : Nat) : Nat → Int → Int → Hp → Option (Int)
  | 0, _, _, _ => none
  | f + 1, x1, x3, h =>
    (if (h 113 4) ≤ x3 then
    (some (-1))
    else
    (grd (0 ≤ x3 ∧ x3 < alen 85)
    (if (lcp (h 117 x3) x1) ≠ 0 then
    (ltt (w32 (x3 + 1)) fun y1 =>
    (BX12_markOf_2 n f x1 y1 h))
    else
    (some x3))))
def LX12_markOf_2 (n : Nat) (x1 x3 : Int) (h : Hp) : Option (Int) :=
(BX12_markOf_2 n n x1 x3 h)
def MX12_markOf (n : Nat) (x1 : Int) (h : Hp) : Option (Int) :=
(ltt 0 fun y1 =>
(LX12_markOf_2 n x1 y1 h))
def wX12_markOf {ρ : Type} (n : Nat) : FN ρ := fun a h k => match a with
  | [_, x1] => bndp (MX12_markOf n x1 h) (fun r => k r h)
  | _ => none
def fsX12_markOf (n : Nat) (ρ : Type) : List (FN ρ) := []
def KBX12_markOf_2 (_ : Nat) (bk : Int → Int → Hp → Option (Int)) : CT (Int) := [(2, [(0, 16, (some 113)), (1, 1, none), (3, 0, none)], [], fun a c h => match a, c with
    | [x1, x3], [] => bk x1 x3 h
    | _, _ => none)]
set_option maxRecDepth 100000 in
theorem eBX12_markOf_2 (n f : Nat) (x1 : Int) (x3 : Int) (h : Hp) : BX12_markOf_2 n (f + 1) x1 x3 h =
  goAt false (kct (KBX12_markOf_2 n (BX12_markOf_2 n f))) (fun v _ => some (v)) (fsX12_markOf n _) sdX12_markOf 1000 2 [(0, 16, 113), (1, 1, x1), (3, 0, x3)] [] h := rfl
def KMX12_markOf (n : Nat) : CT (Int) := [(2, [(0, 16, (some 113)), (1, 1, none), (3, 0, none)], [], fun a c h => match a, c with
    | [x1, x3], [] => LX12_markOf_2 n x1 x3 h
    | _, _ => none)]
set_option maxRecDepth 100000 in
theorem eMX12_markOf (n : Nat) (x1 : Int) (h : Hp) : MX12_markOf n x1 h =
  goAt false (kct (KMX12_markOf n)) (fun v _ => some (v)) (fsX12_markOf n _) sdX12_markOf 1000 0 [(0, 16, 113), (1, 1, x1)] [] h := rfl
theorem okX12_markOf : mokb (mi 102) = true := by decide +kernel
theorem rkX12_markOf : rkOK 1 (mi 102).1.2.2.2.2.2.2.1 (mi 102).1.2.2.2.1 := Or.inr (Or.inl ⟨rfl, rfl, rfl⟩)
def calX12_markOf : List Nat := []
theorem foX12_markOf {l : Launch} {ρ : Type} (n : Nat) : fsOK l false mi calX12_markOf (fsX12_markOf n ρ) := trivial
theorem frX12_markOf {ρ : Type} (n : Nat) : ∀ fn ∈ fsX12_markOf n ρ, RoF fn := (fun q9 h9 => by cases h9)
theorem ok_sdX12_markOf : sdb (mi 102).1.2.1 (insOK mi (mi 102).1.1.cls (mi 102).1.2.2.1 (mi 102).1.2.2.2.2.1 (mi 102).1.2.2.2.2.2.1 calX12_markOf false 1) sdX12_markOf = true := by decide +kernel
theorem sBX12_markOf_2 {l : Launch} {h0 : Hp} {v : Int} (h8 : nOf h0 = 148) (n : Nat) (h : Hp) : ∀ (f : Nat) (x1 : Int) (x3 : Int) {r : Int}, BX12_markOf_2 n f x1 x3 h = some r → gV v r → PAt l false (mi 102).1 h0 v h 2 [(0, 16, 113), (1, 1, x1), (3, 0, x3)] [] h := by
  intro f
  induction f with
  | zero =>
    intro x1 x3 r H _
    have H2 : (none : Option (Int)) = some r := H
    cases H2
  | succ f ih =>
    intro x1 x3 r H hG
    exact pat_ro ok_sdX12_markOf rfl rkX12_markOf h8 (foX12_markOf n) (frX12_markOf n) (fun v1 q => by
    cases q
    exact ⟨rfl, fun _ => hG⟩) (List.forall_mem_cons.mpr ⟨(fun a c H => by
      dsimp only at H
      split at H
      · exact ih _ _ H hG
      · cases H), (fun q9 h9 => by cases h9)⟩) ((eBX12_markOf_2 n f x1 x3 h).symm.trans H)
theorem sLX12_markOf_2 {l : Launch} {h0 : Hp} {v : Int} (h8 : nOf h0 = 148) (n : Nat) (x1 : Int) (x3 : Int) (h : Hp) {r : Int} (H : LX12_markOf_2 n x1 x3 h = some r) (hG : gV v r) : PAt l false (mi 102).1 h0 v h 2 [(0, 16, 113), (1, 1, x1), (3, 0, x3)] [] h :=
  sBX12_markOf_2 h8 n h n x1 x3 H hG
theorem sMX12_markOf {l : Launch} {h0 : Hp} {v : Int} (h8 : nOf h0 = 148) (n : Nat) (x1 : Int) (h : Hp) {r : Int} (H : MX12_markOf n x1 h = some r) (hG : gV v r) : PAt l false (mi 102).1 h0 v h 0 [(0, 16, 113), (1, 1, x1)] [] h :=
  pat_ro ok_sdX12_markOf rfl rkX12_markOf h8 (foX12_markOf n) (frX12_markOf n) (fun v1 q => by
    cases q
    exact ⟨rfl, fun _ => hG⟩) (List.forall_mem_cons.mpr ⟨(fun a c H => by
      dsimp only at H
      split at H
      · exact sLX12_markOf_2 h8 n _ _ _ H hG
      · cases H), (fun q9 h9 => by cases h9)⟩) ((eMX12_markOf n x1 h).symm.trans H)
theorem sndX12_markOf {ρ : Type} {l : Launch} (n : Nat) : SndF (ρ := ρ) l false (mi 102).1 (wX12_markOf n) := by
    intro a h k r H ha ho hn hf
    have h8 := hf rfl
    obtain ⟨x0, x1, rfl⟩ := len2 (show a.length = 2 from ha)
    have u0 := uq16 hn (ho (16, x0) (List.mem_cons_self))
    subst u0
    replace H : bndp (MX12_markOf n x1 h) (fun r => k r h) = some r := H
    obtain ⟨v2, H1, H2⟩ := bndp_some H
    exact ⟨v2, h, H2, met_mk (mok_base okX12_markOf).1 (by decide +kernel) (Nat.le_of_ble_eq_true rfl) ho (sMX12_markOf h8 n x1 h H1 rfl), fun q => by cases q⟩
theorem roX12_markOf {ρ : Type} (n : Nat) : RoF (wX12_markOf n : FN ρ) := fun a h k k2 hk => by
  unfold wX12_markOf
  split
  · exact bndp_ro hk
  · rfl
/-! X12_goes -/
def sdX12_goes : SD := [(0, [(0, .aload_n 0, 1, [], 0), (1, .getfield 37, 3, [12, 14, 1580, 1, 1336, 0], 9), (4, .iconst 3, 1, [], 0), (5, .iload_n 1, 1, [], 0), (6, .iconst 1, 1, [], 0), (7, .iadd, 1, [], 0), (8, .imul, 1, [], 0), (9, .iload_n 2, 1, [], 0), (10, .iadd, 1, [], 0), (11, .iaload, 1, [], 0), (12, .aload_n 0, 1, [], 0), (13, .getfield 37, 3, [12, 14, 1580, 1, 1336, 0], 9), (16, .iconst 3, 1, [], 0), (17, .iload_n 1, 1, [], 0), (18, .imul, 1, [], 0), (19, .iload_n 2, 1, [], 0), (20, .iadd, 1, [], 0), (21, .iaload, 1, [], 0), (22, .isub, 1, [], 0), (23, .ireturn, 1, [], 0)])]
def MX12_goes (x1 x2 : Int) (h : Hp) : Option (Int) :=
(grd (0 ≤ (w32 ((w32 (3 * (w32 (x1 + 1)))) + x2)) ∧ (w32 ((w32 (3 * (w32 (x1 + 1)))) + x2)) < alen 1580)
(grd (0 ≤ (w32 ((w32 (3 * x1)) + x2)) ∧ (w32 ((w32 (3 * x1)) + x2)) < alen 1580)
(some (w32 ((h 122 (w32 ((w32 (3 * (w32 (x1 + 1)))) + x2))) - (h 122 (w32 ((w32 (3 * x1)) + x2))))))))
def wX12_goes {ρ : Type} : FN ρ := fun a h k => match a with
  | [_, x1, x2] => bndp (MX12_goes x1 x2 h) (fun r => k r h)
  | _ => none
def fsX12_goes (ρ : Type) : List (FN ρ) := []
def KMX12_goes  : CT (Int) := []
set_option maxRecDepth 100000 in
theorem eMX12_goes (x1 : Int) (x2 : Int) (h : Hp) : MX12_goes x1 x2 h =
  goAt false (kct (KMX12_goes)) (fun v _ => some (v)) (fsX12_goes _) sdX12_goes 1000 0 [(0, 16, 113), (1, 0, x1), (2, 0, x2)] [] h := rfl
theorem okX12_goes : mokb (mi 106) = true := by decide +kernel
theorem rkX12_goes : rkOK 1 (mi 106).1.2.2.2.2.2.2.1 (mi 106).1.2.2.2.1 := Or.inr (Or.inl ⟨rfl, rfl, rfl⟩)
def calX12_goes : List Nat := []
theorem foX12_goes {l : Launch} {ρ : Type} : fsOK l false mi calX12_goes (fsX12_goes ρ) := trivial
theorem frX12_goes {ρ : Type} : ∀ fn ∈ fsX12_goes ρ, RoF fn := (fun q9 h9 => by cases h9)
theorem ok_sdX12_goes : sdb (mi 106).1.2.1 (insOK mi (mi 106).1.1.cls (mi 106).1.2.2.1 (mi 106).1.2.2.2.2.1 (mi 106).1.2.2.2.2.2.1 calX12_goes false 1) sdX12_goes = true := by decide +kernel
theorem sMX12_goes {l : Launch} {h0 : Hp} {v : Int} (h8 : nOf h0 = 148)  (x1 : Int) (x2 : Int) (h : Hp) {r : Int} (H : MX12_goes x1 x2 h = some r) (hG : gV v r) : PAt l false (mi 106).1 h0 v h 0 [(0, 16, 113), (1, 0, x1), (2, 0, x2)] [] h :=
  pat_ro ok_sdX12_goes rfl rkX12_goes h8 (foX12_goes) (frX12_goes) (fun v1 q => by
    cases q
    exact ⟨rfl, fun _ => hG⟩) (fun q9 h9 => by cases h9) ((eMX12_goes x1 x2 h).symm.trans H)
theorem sndX12_goes {ρ : Type} {l : Launch} : SndF (ρ := ρ) l false (mi 106).1 (wX12_goes) := by
    intro a h k r H ha ho hn hf
    have h8 := hf rfl
    obtain ⟨x0, x1, x2, rfl⟩ := len3 (show a.length = 3 from ha)
    have u0 := uq16 hn (ho (16, x0) (List.mem_cons_self))
    subst u0
    replace H : bndp (MX12_goes x1 x2 h) (fun r => k r h) = some r := H
    obtain ⟨v2, H1, H2⟩ := bndp_some H
    exact ⟨v2, h, H2, met_mk (mok_base okX12_goes).1 (by decide +kernel) (Nat.le_of_ble_eq_true rfl) ho (sMX12_goes h8 x1 x2 h H1 rfl), fun q => by cases q⟩
theorem roX12_goes {ρ : Type} : RoF (wX12_goes : FN ρ) := fun a h k k2 hk => by
  unfold wX12_goes
  split
  · exact bndp_ro hk
  · rfl
