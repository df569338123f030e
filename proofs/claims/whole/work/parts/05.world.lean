/-! THE WORLD: what the machine's heap holds of an abstract heap. -/
/-- the types of the fields, by class and place -/
def vty (c k : Nat) : FieldType := ((parseFieldDescriptor ((vwCl.getD c ("", TX0, 0)).2.1 k).2.2.1).getD .int)
theorem vty_all : (vwCl.all fun q => (List.range q.2.2).all fun k => (parseFieldDescriptor (q.2.1 k).2.2.1).isSome) = true := by decide +kernel
theorem vnm_all : (vwCl.all fun q => (List.range q.2.2).all fun a => (List.range q.2.2).all fun b => a == b || (q.2.1 a).2.1 != (q.2.1 b).2.1) = true := by decide +kernel
theorem vw_ty {c : Nat} {q : vw_C} (h : vwCl[c]? = some q) : ∀ k, k < q.2.2 → parseFieldDescriptor (q.2.1 k).2.2.1 = some (vty c k) := by
  intro k hk
  have h1 := List.all_eq_true.mp (List.all_eq_true.mp vty_all q (List.mem_of_getElem? h)) k (List.mem_range.mpr hk)
  unfold vty
  rw [List.getD_eq_getElem?_getD, h]
  show _ = some ((parseFieldDescriptor (q.2.1 k).2.2.1).getD .int)
  cases hp : parseFieldDescriptor (q.2.1 k).2.2.1 with
  | none => rw [hp] at h1; cases h1
  | some y => rfl
theorem vw_nm {c : Nat} {q : vw_C} (h : vwCl[c]? = some q) : ∀ a, a < q.2.2 → ∀ b, b < q.2.2 → a ≠ b → (q.2.1 a).2.1 ≠ (q.2.1 b).2.1 := by
  intro a ha b hb hab
  have h1 := List.all_eq_true.mp (List.all_eq_true.mp (List.all_eq_true.mp vnm_all q (List.mem_of_getElem? h)) a (List.mem_range.mpr ha)) b (List.mem_range.mpr hb)
  simp only [Bool.or_eq_true, beq_iff_eq, bne_iff_ne, ne_eq] at h1
  rcases h1 with h1 | h1
  · exact absurd h1 hab
  · exact h1
/-- a value of the machine -/
def cv (ad sa : Nat → Nat) (b : Nat) (v : AV) : Value := match v.1 with
  | 0 => .int (Int32.ofInt v.2)
  | 1 => .long (Int64.ofInt v.2)
  | 2 => .ref (sa v.2.toNat)
  | 3 => .ref b
  | _ => if v.2 < 0 then .null else .ref (ad v.2.toNat)
def cf (ad : Nat → Nat) (t : Nat) (x : Int) : Value := match t with
  | 0 => .int (Int32.ofInt x)
  | 1 => .long (Int64.ofInt x)
  | _ => if x < 0 then .null else .ref (ad x.toNat)
def fbody (ad : Nat → Nat) (t : Nat) (f : Int → Int) : List Value := (List.range (fts (t - 4)).length).map fun i => cf ad ((fts (t - 4)).getD i 0) (f (Int.ofNat i))
def abody (ad : Nat → Nat) (e n : Nat) (f : Int → Int) : (Nat → Int32) ⊕ (Nat → Int64) ⊕ (Nat → UInt32) ⊕ (Nat → UInt64) ⊕ (Nat → Option Nat) := match e with
  | 0 => .inl (fun j => Int32.ofInt (f (Int.ofNat j)))
  | 1 => .inr (.inl (fun j => Int64.ofInt (f (Int.ofNat j))))
  | 2 => .inl (fun j => Int32.ofInt (f (Int.ofNat j)))
  | 3 => .inl (fun j => Int32.ofInt (f (Int.ofNat j)))
  | _ => .inr (.inr (.inr (.inr (fun j => if f (Int.ofNat j) < 0 ∨ n ≤ j then none else some (ad (f (Int.ofNat j)).toNat)))))
def entry (ca : Nat → ClassId) (ad : Nat → Nat) (t : Nat) (f : Int → Int) : va_E := match Nat.ble 20 t with
  | true => .inl (ca (aknd t), (t - 20) / 8, abody ad (aknd t) ((t - 20) / 8) f)
  | false => .inr (t - 4, fbody ad t f)
def wsl (ca : Nat → ClassId) (ad : Nat → Nat) (n : Nat) (h : Hp) : va_W := (List.range n).map fun k => (ad k, entry ca ad (kd k) (h (Int.ofNat k)))
theorem wsl_get {ca : Nat → ClassId} {ad : Nat → Nat} {n : Nat} {h : Hp} {k : Nat} (hk : k < n) : (wsl ca ad n h)[k]? = some (ad k, entry ca ad (kd k) (h (Int.ofNat k))) := by
  unfold wsl
  rw [List.getElem?_map, List.getElem?_range hk]
  rfl
theorem wsl_len {ca : Nat → ClassId} {ad : Nat → Nat} {n : Nat} {h : Hp} : (wsl ca ad n h).length = n := by unfold wsl; simp
theorem wsl_set {ca : Nat → ClassId} {ad : Nat → Nat} {n : Nat} {h h' : Hp} {k : Nat} {e : va_E} (hk : k < n) (ho : ∀ j : Nat, j ≠ k → h' (Int.ofNat j) = h (Int.ofNat j)) (he : e = entry ca ad (kd k) (h' (Int.ofNat k))) : (wsl ca ad n h).set k (ad k, e) = wsl ca ad n h' := by
  apply List.ext_getElem?
  intro i
  by_cases hi : i < n
  · by_cases hik : i = k
    · subst hik
      rw [List.getElem?_set_self (by rw [wsl_len]; exact hi), wsl_get hi, he]
    · rw [List.getElem?_set_ne (Ne.symm hik), wsl_get hi, wsl_get hi, ho i hik]
  · rw [List.getElem?_eq_none (by rw [List.length_set, wsl_len]; omega), List.getElem?_eq_none (by rw [wsl_len]; omega)]
theorem up_ne {h : Hp} {a i v b : Int} (hb : b ≠ a) : up h a i v b = h b := by
  funext j
  unfold up
  rw [if_neg (fun q => hb q.1)]
theorem up_at {h : Hp} {a i v : Int} : up h a i v a i = v := by
  unfold up
  rw [if_pos ⟨rfl, rfl⟩]
theorem up_of {h : Hp} {a i v b j : Int} (hn : ¬ (b = a ∧ j = i)) : up h a i v b j = h b j := by
  unfold up
  rw [if_neg hn]
/-- what a value of a kind may be -/
def okv (g : Bool) (n t : Nat) (v : Int) : Prop := match t with
  | 0 => -2147483648 ≤ v ∧ v < 2147483648
  | 1 => -9223372036854775808 ≤ v ∧ v < 9223372036854775808
  | 2 => 0 ≤ v ∧ v < 8
  | 3 => v = 0
  | t + 4 => (0 ≤ v ∧ v < Int.ofNat n ∧ kd v.toNat = t + 4) ∨ (g = true ∧ v = -1)
/-- what a slot that never changes holds -/
def fxv (t k i : Nat) : Option Int := match Nat.ble 20 t with
  | true => match aknd t with
    | 4 => some (Int.ofNat k + 1 + Int.ofNat i)
    | 5 => some (Int.ofNat k + 1 + 8 * Int.ofNat i)
    | 6 => some (Int.ofNat k + 1 + Int.ofNat i)
    | _ => none
  | false => match (dll.getD (t - 4) []).getD i 0 with
    | 0 => none
    | d => some (Int.ofNat k + (Int.ofNat d - 1000))
def WT (g : Bool) (n : Nat) (h : Hp) : Prop := ∀ k : Nat, k < n → ∀ i : Nat, i < isz (kd k) → okv g n (itag (kd k) i) (h (Int.ofNat k) (Int.ofNat i)) ∧ (g = false → ∀ x, fxv (kd k) k i = some x → h (Int.ofNat k) (Int.ofNat i) = x)
def nOf (h : Hp) : Nat := (cnt h).toNat
def Wl (D : va_G) (ca : Nat → ClassId) (A : Nat → Prop) (g : Bool) (ad : Nat → Nat) (h : Hp) (H : Heap) : Prop :=
  va_P D vwCl (wsl ca ad (nOf h) h) H ∧ va_D A (wsl ca ad (nOf h) h) ∧ WT g (nOf h) h ∧ 0 ≤ cnt h ∧ nOf h ≤ 148 ∧ (g = false → nOf h = 148)
def tysl (ca : Nat → ClassId) : List (ClassId × FieldType) := [(ca 0, .int), (ca 1, .long), (ca 2, .boolean), (ca 3, .byte), (ca 4, .object "PathRide$State"), (ca 5, .object "PathRide$Kept"), (ca 6, .array .int)]
theorem kd_all : ((List.range 148).all fun k => Nat.ble 4 (kd k) && (Nat.ble 20 (kd k) || Nat.ble (kd k) 16) && (!Nat.ble 20 (kd k) || Nat.ble (aknd (kd k)) 6)) = true := by decide +kernel
theorem kd_4 {k : Nat} (h : k < 148) : 4 ≤ kd k ∧ (20 ≤ kd k ∨ kd k ≤ 16) ∧ (20 ≤ kd k → aknd (kd k) ≤ 6) := by
  have h1 := List.all_eq_true.mp kd_all k (List.mem_range.mpr h)
  simp only [Bool.and_eq_true, Bool.or_eq_true, Nat.ble_eq, Bool.not_eq_true', ← Bool.not_eq_true] at h1
  obtain ⟨⟨h1, h2⟩, h3⟩ := h1
  refine ⟨h1, h2, fun q => ?_⟩
  rcases h3 with h3 | h3
  · exact absurd q h3
  · exact h3
theorem vw_len : (List.range 13).all (fun c => decide ((vwCl[c]?).map (fun q => q.2.2) = some (fts c).length)) = true := by decide +kernel
theorem vw_at {c : Nat} (h : c < 13) : ∃ q : vw_C, vwCl[c]? = some q ∧ q.2.2 = (fts c).length := by
  have h1 := of_decide_eq_true (List.all_eq_true.mp vw_len c (List.mem_range.mpr h))
  cases hq : vwCl[c]? with
  | none => rw [hq] at h1; cases h1
  | some q =>
    rw [hq] at h1
    exact ⟨q, rfl, Option.some.inj h1⟩
/-! numbers -/
theorem i32_id {x : Int} (h1 : -2147483648 ≤ x) (h2 : x < 2147483648) : (Int32.ofInt x).toInt = x := Int32.toInt_ofInt_of_le (by omega) (by omega)
theorem i64_id {x : Int} (h1 : -9223372036854775808 ≤ x) (h2 : x < 9223372036854775808) : (Int64.ofInt x).toInt = x := Int64.toInt_ofInt_of_le (by omega) (by omega)
theorem i32_w (x : Int) : Int32.ofInt (w32 x) = Int32.ofInt x := by
  apply Int32.toInt_inj.mp
  rw [i32_id (w32_lo x) (w32_hi x), Int32.toInt_ofInt, w32_bmod]
theorem i64_w (x : Int) : Int64.ofInt (w64 x) = Int64.ofInt x := by
  apply Int64.toInt_inj.mp
  rw [i64_id (w64_lo x) (w64_hi x), Int64.toInt_ofInt, w64_bmod]
