/-! J9_min_7cf53 -/
def sdJ9_min_7cf53 : SD := [(0, [(0, .iload_n 0, 1, [], 0), (1, .iload_n 1, 1, [], 0), (2, .if_icmp .gt 7, 3, [], 0)]),
  (5, [(5, .iload_n 0, 1, [], 0), (6, .goto 4, 3, [], 0)]),
  (9, [(9, .iload_n 1, 1, [], 0)]),
  (10, [(10, .ireturn, 1, [], 0)])]
def MJ9_min_7cf53 (x0 x1 : Int) : Option (Int) :=
(if x1 < x0 then
(some x1)
else
(some x0))
def wJ9_min_7cf53 {ρ : Type} : FN ρ := fun a h k => match a with
  | [x0, x1] => bndp (MJ9_min_7cf53 x0 x1) (fun r => k r h)
  | _ => none
def fsJ9_min_7cf53 (ρ : Type) : List (FN ρ) := []
def KMJ9_min_7cf53  : CT (Int) := []
set_option maxRecDepth 100000 in
theorem eMJ9_min_7cf53 (x0 : Int) (x1 : Int) (h : Hp) : MJ9_min_7cf53 x0 x1 =
  goAt false (kct (KMJ9_min_7cf53)) (fun v _ => some (v)) (fsJ9_min_7cf53 _) sdJ9_min_7cf53 1000 0 [(0, 0, x0), (1, 0, x1)] [] h := rfl
theorem okJ9_min_7cf53 : mokb (mi 261) = true := by decide +kernel
theorem rkJ9_min_7cf53 : rkOK 1 (mi 261).1.2.2.2.2.2.2.1 (mi 261).1.2.2.2.1 := Or.inr (Or.inl ⟨rfl, rfl, rfl⟩)
def calJ9_min_7cf53 : List Nat := []
theorem foJ9_min_7cf53 {l : Launch} {ρ : Type} : fsOK l false mi calJ9_min_7cf53 (fsJ9_min_7cf53 ρ) := trivial
theorem frJ9_min_7cf53 {ρ : Type} : ∀ fn ∈ fsJ9_min_7cf53 ρ, RoF fn := (fun q9 h9 => by cases h9)
theorem ok_sdJ9_min_7cf53 : sdb (mi 261).1.2.1 (insOK mi (mi 261).1.1.cls (mi 261).1.2.2.1 (mi 261).1.2.2.2.2.1 (mi 261).1.2.2.2.2.2.1 calJ9_min_7cf53 false 1) sdJ9_min_7cf53 = true := by decide +kernel
theorem sMJ9_min_7cf53 {l : Launch} {h0 : Hp} {v : Int} (h8 : nOf h0 = 148)  (x0 : Int) (x1 : Int) (h : Hp) {r : Int} (H : MJ9_min_7cf53 x0 x1 = some r) (hG : gV v r) : PAt l false (mi 261).1 h0 v h 0 [(0, 0, x0), (1, 0, x1)] [] h :=
  pat_ro ok_sdJ9_min_7cf53 rfl rkJ9_min_7cf53 h8 (foJ9_min_7cf53) (frJ9_min_7cf53) (fun v1 q => by
    cases q
    exact ⟨rfl, fun _ => hG⟩) (fun q9 h9 => by cases h9) ((eMJ9_min_7cf53 x0 x1 h).symm.trans H)
theorem sndJ9_min_7cf53 {ρ : Type} {l : Launch} : SndF (ρ := ρ) l false (mi 261).1 (wJ9_min_7cf53) := by
    intro a h k r H ha ho hn hf
    have h8 := hf rfl
    obtain ⟨x0, x1, rfl⟩ := len2 (show a.length = 2 from ha)
    replace H : bndp (MJ9_min_7cf53 x0 x1) (fun r => k r h) = some r := H
    obtain ⟨v2, H1, H2⟩ := bndp_some H
    exact ⟨v2, h, H2, met_mk (mok_base okJ9_min_7cf53).1 (by decide +kernel) (Nat.le_of_ble_eq_true rfl) ho (sMJ9_min_7cf53 h8 x0 x1 h H1 rfl), fun q => by cases q⟩
theorem roJ9_min_7cf53 {ρ : Type} : RoF (wJ9_min_7cf53 : FN ρ) := fun a h k k2 hk => by
  unfold wJ9_min_7cf53
  split
  · exact bndp_ro hk
  · rfl
/-! J9_max_7cf53 -/
def sdJ9_max_7cf53 : SD := [(0, [(0, .iload_n 0, 1, [], 0), (1, .iload_n 1, 1, [], 0), (2, .if_icmp .lt 7, 3, [], 0)]),
  (5, [(5, .iload_n 0, 1, [], 0), (6, .goto 4, 3, [], 0)]),
  (9, [(9, .iload_n 1, 1, [], 0)]),
  (10, [(10, .ireturn, 1, [], 0)])]
def MJ9_max_7cf53 (x0 x1 : Int) : Option (Int) :=
(if x0 < x1 then
(some x1)
else
(some x0))
def wJ9_max_7cf53 {ρ : Type} : FN ρ := fun a h k => match a with
  | [x0, x1] => bndp (MJ9_max_7cf53 x0 x1) (fun r => k r h)
  | _ => none
def fsJ9_max_7cf53 (ρ : Type) : List (FN ρ) := []
def KMJ9_max_7cf53  : CT (Int) := []
set_option maxRecDepth 100000 in
theorem eMJ9_max_7cf53 (x0 : Int) (x1 : Int) (h : Hp) : MJ9_max_7cf53 x0 x1 =
  goAt false (kct (KMJ9_max_7cf53)) (fun v _ => some (v)) (fsJ9_max_7cf53 _) sdJ9_max_7cf53 1000 0 [(0, 0, x0), (1, 0, x1)] [] h := rfl
theorem okJ9_max_7cf53 : mokb (mi 262) = true := by decide +kernel
theorem rkJ9_max_7cf53 : rkOK 1 (mi 262).1.2.2.2.2.2.2.1 (mi 262).1.2.2.2.1 := Or.inr (Or.inl ⟨rfl, rfl, rfl⟩)
def calJ9_max_7cf53 : List Nat := []
theorem foJ9_max_7cf53 {l : Launch} {ρ : Type} : fsOK l false mi calJ9_max_7cf53 (fsJ9_max_7cf53 ρ) := trivial
theorem frJ9_max_7cf53 {ρ : Type} : ∀ fn ∈ fsJ9_max_7cf53 ρ, RoF fn := (fun q9 h9 => by cases h9)
theorem ok_sdJ9_max_7cf53 : sdb (mi 262).1.2.1 (insOK mi (mi 262).1.1.cls (mi 262).1.2.2.1 (mi 262).1.2.2.2.2.1 (mi 262).1.2.2.2.2.2.1 calJ9_max_7cf53 false 1) sdJ9_max_7cf53 = true := by decide +kernel
theorem sMJ9_max_7cf53 {l : Launch} {h0 : Hp} {v : Int} (h8 : nOf h0 = 148)  (x0 : Int) (x1 : Int) (h : Hp) {r : Int} (H : MJ9_max_7cf53 x0 x1 = some r) (hG : gV v r) : PAt l false (mi 262).1 h0 v h 0 [(0, 0, x0), (1, 0, x1)] [] h :=
  pat_ro ok_sdJ9_max_7cf53 rfl rkJ9_max_7cf53 h8 (foJ9_max_7cf53) (frJ9_max_7cf53) (fun v1 q => by
    cases q
    exact ⟨rfl, fun _ => hG⟩) (fun q9 h9 => by cases h9) ((eMJ9_max_7cf53 x0 x1 h).symm.trans H)
theorem sndJ9_max_7cf53 {ρ : Type} {l : Launch} : SndF (ρ := ρ) l false (mi 262).1 (wJ9_max_7cf53) := by
    intro a h k r H ha ho hn hf
    have h8 := hf rfl
    obtain ⟨x0, x1, rfl⟩ := len2 (show a.length = 2 from ha)
    replace H : bndp (MJ9_max_7cf53 x0 x1) (fun r => k r h) = some r := H
    obtain ⟨v2, H1, H2⟩ := bndp_some H
    exact ⟨v2, h, H2, met_mk (mok_base okJ9_max_7cf53).1 (by decide +kernel) (Nat.le_of_ble_eq_true rfl) ho (sMJ9_max_7cf53 h8 x0 x1 h H1 rfl), fun q => by cases q⟩
theorem roJ9_max_7cf53 {ρ : Type} : RoF (wJ9_max_7cf53 : FN ρ) := fun a h k k2 hk => by
  unfold wJ9_max_7cf53
  split
  · exact bndp_ro hk
  · rfl
/-! J9_abs_0f7a4 -/
def sdJ9_abs_0f7a4 : SD := [(0, [(0, .iload_n 0, 1, [], 0), (1, .ifCond .ge 8, 3, [], 0)]),
  (4, [(4, .iload_n 0, 1, [], 0), (5, .ineg, 1, [], 0), (6, .goto 4, 3, [], 0)]),
  (9, [(9, .iload_n 0, 1, [], 0)]),
  (10, [(10, .ireturn, 1, [], 0)])]
def MJ9_abs_0f7a4 (x0 : Int) : Option (Int) :=
(if 0 ≤ x0 then
(some x0)
else
(some (w32 (-x0))))
def wJ9_abs_0f7a4 {ρ : Type} : FN ρ := fun a h k => match a with
  | [x0] => bndp (MJ9_abs_0f7a4 x0) (fun r => k r h)
  | _ => none
def fsJ9_abs_0f7a4 (ρ : Type) : List (FN ρ) := []
def KMJ9_abs_0f7a4  : CT (Int) := []
set_option maxRecDepth 100000 in
theorem eMJ9_abs_0f7a4 (x0 : Int) (h : Hp) : MJ9_abs_0f7a4 x0 =
  goAt false (kct (KMJ9_abs_0f7a4)) (fun v _ => some (v)) (fsJ9_abs_0f7a4 _) sdJ9_abs_0f7a4 1000 0 [(0, 0, x0)] [] h := rfl
theorem okJ9_abs_0f7a4 : mokb (mi 263) = true := by decide +kernel
theorem rkJ9_abs_0f7a4 : rkOK 1 (mi 263).1.2.2.2.2.2.2.1 (mi 263).1.2.2.2.1 := Or.inr (Or.inl ⟨rfl, rfl, rfl⟩)
def calJ9_abs_0f7a4 : List Nat := []
theorem foJ9_abs_0f7a4 {l : Launch} {ρ : Type} : fsOK l false mi calJ9_abs_0f7a4 (fsJ9_abs_0f7a4 ρ) := trivial
theorem frJ9_abs_0f7a4 {ρ : Type} : ∀ fn ∈ fsJ9_abs_0f7a4 ρ, RoF fn := (fun q9 h9 => by cases h9)
theorem ok_sdJ9_abs_0f7a4 : sdb (mi 263).1.2.1 (insOK mi (mi 263).1.1.cls (mi 263).1.2.2.1 (mi 263).1.2.2.2.2.1 (mi 263).1.2.2.2.2.2.1 calJ9_abs_0f7a4 false 1) sdJ9_abs_0f7a4 = true := by decide +kernel
theorem sMJ9_abs_0f7a4 {l : Launch} {h0 : Hp} {v : Int} (h8 : nOf h0 = 148)  (x0 : Int) (h : Hp) {r : Int} (H : MJ9_abs_0f7a4 x0 = some r) (hG : gV v r) : PAt l false (mi 263).1 h0 v h 0 [(0, 0, x0)] [] h :=
  pat_ro ok_sdJ9_abs_0f7a4 rfl rkJ9_abs_0f7a4 h8 (foJ9_abs_0f7a4) (frJ9_abs_0f7a4) (fun v1 q => by
    cases q
    exact ⟨rfl, fun _ => hG⟩) (fun q9 h9 => by cases h9) ((eMJ9_abs_0f7a4 x0 h).symm.trans H)
theorem sndJ9_abs_0f7a4 {ρ : Type} {l : Launch} : SndF (ρ := ρ) l false (mi 263).1 (wJ9_abs_0f7a4) := by
    intro a h k r H ha ho hn hf
    have h8 := hf rfl
    obtain ⟨x0, rfl⟩ := len1 (show a.length = 1 from ha)
    replace H : bndp (MJ9_abs_0f7a4 x0) (fun r => k r h) = some r := H
    obtain ⟨v2, H1, H2⟩ := bndp_some H
    exact ⟨v2, h, H2, met_mk (mok_base okJ9_abs_0f7a4).1 (by decide +kernel) (Nat.le_of_ble_eq_true rfl) ho (sMJ9_abs_0f7a4 h8 x0 h H1 rfl), fun q => by cases q⟩
theorem roJ9_abs_0f7a4 {ρ : Type} : RoF (wJ9_abs_0f7a4 : FN ρ) := fun a h k k2 hk => by
  unfold wJ9_abs_0f7a4
  split
  · exact bndp_ro hk
  · rfl
/-! J9_min_f86c9 -/
def sdJ9_min_f86c9 : SD := [(0, [(0, .lload_n 0, 1, [], 0), (1, .lload_n 2, 1, [], 0), (2, .lcmp, 1, [], 0), (3, .ifCond .gt 7, 3, [], 0)]),
  (6, [(6, .lload_n 0, 1, [], 0), (7, .goto 4, 3, [], 0)]),
  (10, [(10, .lload_n 2, 1, [], 0)]),
  (11, [(11, .lreturn, 1, [], 0)])]
def MJ9_min_f86c9 (x0 x2 : Int) : Option (Int) :=
(if 0 < (lcp x0 x2) then
(some x2)
else
(some x0))
def wJ9_min_f86c9 {ρ : Type} : FN ρ := fun a h k => match a with
  | [x0, x2] => bndp (MJ9_min_f86c9 x0 x2) (fun r => k r h)
  | _ => none
def fsJ9_min_f86c9 (ρ : Type) : List (FN ρ) := []
def KMJ9_min_f86c9  : CT (Int) := []
set_option maxRecDepth 100000 in
theorem eMJ9_min_f86c9 (x0 : Int) (x2 : Int) (h : Hp) : MJ9_min_f86c9 x0 x2 =
  goAt false (kct (KMJ9_min_f86c9)) (fun v _ => some (v)) (fsJ9_min_f86c9 _) sdJ9_min_f86c9 1000 0 [(0, 1, x0), (2, 1, x2)] [] h := rfl
theorem okJ9_min_f86c9 : mokb (mi 264) = true := by decide +kernel
theorem rkJ9_min_f86c9 : rkOK 2 (mi 264).1.2.2.2.2.2.2.1 (mi 264).1.2.2.2.1 := Or.inr (Or.inr (Or.inr (Or.inl ⟨rfl, rfl, rfl⟩)))
def calJ9_min_f86c9 : List Nat := []
theorem foJ9_min_f86c9 {l : Launch} {ρ : Type} : fsOK l false mi calJ9_min_f86c9 (fsJ9_min_f86c9 ρ) := trivial
theorem frJ9_min_f86c9 {ρ : Type} : ∀ fn ∈ fsJ9_min_f86c9 ρ, RoF fn := (fun q9 h9 => by cases h9)
theorem ok_sdJ9_min_f86c9 : sdb (mi 264).1.2.1 (insOK mi (mi 264).1.1.cls (mi 264).1.2.2.1 (mi 264).1.2.2.2.2.1 (mi 264).1.2.2.2.2.2.1 calJ9_min_f86c9 false 2) sdJ9_min_f86c9 = true := by decide +kernel
theorem sMJ9_min_f86c9 {l : Launch} {h0 : Hp} {v : Int} (h8 : nOf h0 = 148)  (x0 : Int) (x2 : Int) (h : Hp) {r : Int} (H : MJ9_min_f86c9 x0 x2 = some r) (hG : gV v r) : PAt l false (mi 264).1 h0 v h 0 [(0, 1, x0), (2, 1, x2)] [] h :=
  pat_ro ok_sdJ9_min_f86c9 rfl rkJ9_min_f86c9 h8 (foJ9_min_f86c9) (frJ9_min_f86c9) (fun v1 q => by
    cases q
    exact ⟨rfl, fun _ => hG⟩) (fun q9 h9 => by cases h9) ((eMJ9_min_f86c9 x0 x2 h).symm.trans H)
theorem sndJ9_min_f86c9 {ρ : Type} {l : Launch} : SndF (ρ := ρ) l false (mi 264).1 (wJ9_min_f86c9) := by
    intro a h k r H ha ho hn hf
    have h8 := hf rfl
    obtain ⟨x0, x2, rfl⟩ := len2 (show a.length = 2 from ha)
    replace H : bndp (MJ9_min_f86c9 x0 x2) (fun r => k r h) = some r := H
    obtain ⟨v2, H1, H2⟩ := bndp_some H
    exact ⟨v2, h, H2, met_mk (mok_base okJ9_min_f86c9).1 (by decide +kernel) (Nat.le_of_ble_eq_true rfl) ho (sMJ9_min_f86c9 h8 x0 x2 h H1 rfl), fun q => by cases q⟩
theorem roJ9_min_f86c9 {ρ : Type} : RoF (wJ9_min_f86c9 : FN ρ) := fun a h k k2 hk => by
  unfold wJ9_min_f86c9
  split
  · exact bndp_ro hk
  · rfl
/-! J9_max_f86c9 -/
def sdJ9_max_f86c9 : SD := [(0, [(0, .lload_n 0, 1, [], 0), (1, .lload_n 2, 1, [], 0), (2, .lcmp, 1, [], 0), (3, .ifCond .lt 7, 3, [], 0)]),
  (6, [(6, .lload_n 0, 1, [], 0), (7, .goto 4, 3, [], 0)]),
  (10, [(10, .lload_n 2, 1, [], 0)]),
  (11, [(11, .lreturn, 1, [], 0)])]
def MJ9_max_f86c9 (x0 x2 : Int) : Option (Int) :=
(if (lcp x0 x2) < 0 then
(some x2)
else
(some x0))
def wJ9_max_f86c9 {ρ : Type} : FN ρ := fun a h k => match a with
  | [x0, x2] => bndp (MJ9_max_f86c9 x0 x2) (fun r => k r h)
  | _ => none
def fsJ9_max_f86c9 (ρ : Type) : List (FN ρ) := []
def KMJ9_max_f86c9  : CT (Int) := []
set_option maxRecDepth 100000 in
theorem eMJ9_max_f86c9 (x0 : Int) (x2 : Int) (h : Hp) : MJ9_max_f86c9 x0 x2 =
  goAt false (kct (KMJ9_max_f86c9)) (fun v _ => some (v)) (fsJ9_max_f86c9 _) sdJ9_max_f86c9 1000 0 [(0, 1, x0), (2, 1, x2)] [] h := rfl
theorem okJ9_max_f86c9 : mokb (mi 265) = true := by decide +kernel
theorem rkJ9_max_f86c9 : rkOK 2 (mi 265).1.2.2.2.2.2.2.1 (mi 265).1.2.2.2.1 := Or.inr (Or.inr (Or.inr (Or.inl ⟨rfl, rfl, rfl⟩)))
def calJ9_max_f86c9 : List Nat := []
theorem foJ9_max_f86c9 {l : Launch} {ρ : Type} : fsOK l false mi calJ9_max_f86c9 (fsJ9_max_f86c9 ρ) := trivial
theorem frJ9_max_f86c9 {ρ : Type} : ∀ fn ∈ fsJ9_max_f86c9 ρ, RoF fn := (fun q9 h9 => by cases h9)
theorem ok_sdJ9_max_f86c9 : sdb (mi 265).1.2.1 (insOK mi (mi 265).1.1.cls (mi 265).1.2.2.1 (mi 265).1.2.2.2.2.1 (mi 265).1.2.2.2.2.2.1 calJ9_max_f86c9 false 2) sdJ9_max_f86c9 = true := by decide +kernel
theorem sMJ9_max_f86c9 {l : Launch} {h0 : Hp} {v : Int} (h8 : nOf h0 = 148)  (x0 : Int) (x2 : Int) (h : Hp) {r : Int} (H : MJ9_max_f86c9 x0 x2 = some r) (hG : gV v r) : PAt l false (mi 265).1 h0 v h 0 [(0, 1, x0), (2, 1, x2)] [] h :=
  pat_ro ok_sdJ9_max_f86c9 rfl rkJ9_max_f86c9 h8 (foJ9_max_f86c9) (frJ9_max_f86c9) (fun v1 q => by
    cases q
    exact ⟨rfl, fun _ => hG⟩) (fun q9 h9 => by cases h9) ((eMJ9_max_f86c9 x0 x2 h).symm.trans H)
theorem sndJ9_max_f86c9 {ρ : Type} {l : Launch} : SndF (ρ := ρ) l false (mi 265).1 (wJ9_max_f86c9) := by
    intro a h k r H ha ho hn hf
    have h8 := hf rfl
    obtain ⟨x0, x2, rfl⟩ := len2 (show a.length = 2 from ha)
    replace H : bndp (MJ9_max_f86c9 x0 x2) (fun r => k r h) = some r := H
    obtain ⟨v2, H1, H2⟩ := bndp_some H
    exact ⟨v2, h, H2, met_mk (mok_base okJ9_max_f86c9).1 (by decide +kernel) (Nat.le_of_ble_eq_true rfl) ho (sMJ9_max_f86c9 h8 x0 x2 h H1 rfl), fun q => by cases q⟩
theorem roJ9_max_f86c9 {ρ : Type} : RoF (wJ9_max_f86c9 : FN ρ) := fun a h k k2 hk => by
  unfold wJ9_max_f86c9
  split
  · exact bndp_ro hk
  · rfl
/-! J13_signum_95d88 -/
def sdJ13_signum_95d88 : SD := [(0, [(0, .lload_n 0, 1, [], 0), (1, .bipush 63, 2, [], 0), (3, .lshr, 1, [], 0), (4, .lload_n 0, 1, [], 0), (5, .lneg, 1, [], 0), (6, .bipush 63, 2, [], 0), (8, .lushr, 1, [], 0), (9, .lor, 1, [], 0), (10, .l2i, 1, [], 0), (11, .ireturn, 1, [], 0)])]
def MJ13_signum_95d88 (x0 : Int) : Option (Int) :=
(some (w32 (lor (lshr x0 63) (lushr (w64 (-x0)) 63))))
def wJ13_signum_95d88 {ρ : Type} : FN ρ := fun a h k => match a with
  | [x0] => bndp (MJ13_signum_95d88 x0) (fun r => k r h)
  | _ => none
def fsJ13_signum_95d88 (ρ : Type) : List (FN ρ) := []
def KMJ13_signum_95d88  : CT (Int) := []
set_option maxRecDepth 100000 in
theorem eMJ13_signum_95d88 (x0 : Int) (h : Hp) : MJ13_signum_95d88 x0 =
  goAt false (kct (KMJ13_signum_95d88)) (fun v _ => some (v)) (fsJ13_signum_95d88 _) sdJ13_signum_95d88 1000 0 [(0, 1, x0)] [] h := rfl
theorem okJ13_signum_95d88 : mokb (mi 266) = true := by decide +kernel
theorem rkJ13_signum_95d88 : rkOK 1 (mi 266).1.2.2.2.2.2.2.1 (mi 266).1.2.2.2.1 := Or.inr (Or.inl ⟨rfl, rfl, rfl⟩)
def calJ13_signum_95d88 : List Nat := []
theorem foJ13_signum_95d88 {l : Launch} {ρ : Type} : fsOK l false mi calJ13_signum_95d88 (fsJ13_signum_95d88 ρ) := trivial
theorem frJ13_signum_95d88 {ρ : Type} : ∀ fn ∈ fsJ13_signum_95d88 ρ, RoF fn := (fun q9 h9 => by cases h9)
theorem ok_sdJ13_signum_95d88 : sdb (mi 266).1.2.1 (insOK mi (mi 266).1.1.cls (mi 266).1.2.2.1 (mi 266).1.2.2.2.2.1 (mi 266).1.2.2.2.2.2.1 calJ13_signum_95d88 false 1) sdJ13_signum_95d88 = true := by decide +kernel
theorem sMJ13_signum_95d88 {l : Launch} {h0 : Hp} {v : Int} (h8 : nOf h0 = 148)  (x0 : Int) (h : Hp) {r : Int} (H : MJ13_signum_95d88 x0 = some r) (hG : gV v r) : PAt l false (mi 266).1 h0 v h 0 [(0, 1, x0)] [] h :=
  pat_ro ok_sdJ13_signum_95d88 rfl rkJ13_signum_95d88 h8 (foJ13_signum_95d88) (frJ13_signum_95d88) (fun v1 q => by
    cases q
    exact ⟨rfl, fun _ => hG⟩) (fun q9 h9 => by cases h9) ((eMJ13_signum_95d88 x0 h).symm.trans H)
theorem sndJ13_signum_95d88 {ρ : Type} {l : Launch} : SndF (ρ := ρ) l false (mi 266).1 (wJ13_signum_95d88) := by
    intro a h k r H ha ho hn hf
    have h8 := hf rfl
    obtain ⟨x0, rfl⟩ := len1 (show a.length = 1 from ha)
    replace H : bndp (MJ13_signum_95d88 x0) (fun r => k r h) = some r := H
    obtain ⟨v2, H1, H2⟩ := bndp_some H
    exact ⟨v2, h, H2, met_mk (mok_base okJ13_signum_95d88).1 (by decide +kernel) (Nat.le_of_ble_eq_true rfl) ho (sMJ13_signum_95d88 h8 x0 h H1 rfl), fun q => by cases q⟩
theorem roJ13_signum_95d88 {ρ : Type} : RoF (wJ13_signum_95d88 : FN ρ) := fun a h k k2 hk => by
  unfold wJ13_signum_95d88
  split
  · exact bndp_ro hk
  · rfl
theorem fmin_eq {ρ : Type} : (fmin : FN ρ) = wJ9_min_7cf53 := by
  funext a h k
  match a with
  | [x, y] =>
    show k (min x y) h = bndp (MJ9_min_7cf53 x y) (fun r => k r h)
    have : MJ9_min_7cf53 x y = some (min x y) := by
      unfold MJ9_min_7cf53
      split <;> (congr 1; omega)
    rw [this]
    rfl
  | [] => rfl
  | [_] => rfl
  | _ :: _ :: _ :: _ => rfl
