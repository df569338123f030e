/-! PLAIN INSTRUCTIONS: locals, stack, numbers, branches. -/
theorem i32_lt {g : Bool} {n : Nat} {x y : Int} (h1 : okv g n 0 x) (h2 : okv g n 0 y) : Int32.ofInt x < Int32.ofInt y ↔ x < y := by
  rw [Int32.lt_iff_toInt_lt, i32_id h1.1 h1.2, i32_id h2.1 h2.2]
theorem i32_le {g : Bool} {n : Nat} {x y : Int} (h1 : okv g n 0 x) (h2 : okv g n 0 y) : Int32.ofInt x ≤ Int32.ofInt y ↔ x ≤ y := by
  rw [Int32.le_iff_toInt_le, i32_id h1.1 h1.2, i32_id h2.1 h2.2]
theorem i32_eq {g : Bool} {n : Nat} {x y : Int} (h1 : okv g n 0 x) (h2 : okv g n 0 y) : Int32.ofInt x = Int32.ofInt y ↔ x = y := by
  rw [← Int32.toInt_inj, i32_id h1.1 h1.2, i32_id h2.1 h2.2]
theorem i64_lt {g : Bool} {n : Nat} {x y : Int} (h1 : okv g n 1 x) (h2 : okv g n 1 y) : Int64.ofInt x < Int64.ofInt y ↔ x < y := by
  rw [Int64.lt_iff_toInt_lt, i64_id h1.1 h1.2, i64_id h2.1 h2.2]
theorem i64_eq {g : Bool} {n : Nat} {x y : Int} (h1 : okv g n 1 x) (h2 : okv g n 1 y) : Int64.ofInt x = Int64.ofInt y ↔ x = y := by
  rw [← Int64.toInt_inj, i64_id h1.1 h1.2, i64_id h2.1 h2.2]
theorem ok00 {g : Bool} {n : Nat} : okv g n 0 0 := ⟨by decide, by decide⟩
theorem okw {z g : Bool} {n : Nat} (x : Int) : okz z g n 0 (w32 x) := ⟨w32_lo x, w32_hi x⟩
theorem okW {z g : Bool} {n : Nat} (x : Int) : okz z g n 1 (w64 x) := ⟨w64_lo x, w64_hi x⟩
theorem okI {z g : Bool} {n : Nat} (x : Int32) : okz z g n 0 x.toInt := ⟨by have := Int32.le_toInt x; omega, by have := Int32.toInt_lt x; omega⟩
theorem okJ {z g : Bool} {n : Nat} (x : Int64) : okz z g n 1 x.toInt := ⟨by have := Int64.le_toInt x; omega, by have := Int64.toInt_lt x; omega⟩
theorem n_add (x y : Int) : Int32.ofInt (w32 (x + y)) = Int32.ofInt x + Int32.ofInt y := by rw [i32_w, Int32.ofInt_add]
theorem n_sub (x y : Int) : Int32.ofInt (w32 (x - y)) = Int32.ofInt x - Int32.ofInt y := by rw [i32_w, Int32.ofInt_sub]
theorem n_mul (x y : Int) : Int32.ofInt (w32 (x * y)) = Int32.ofInt x * Int32.ofInt y := by rw [i32_w, Int32.ofInt_mul]
theorem n_neg (x : Int) : Int32.ofInt (w32 (-x)) = -Int32.ofInt x := by rw [i32_w, Int32.ofInt_neg]
theorem l_add (x y : Int) : Int64.ofInt (w64 (x + y)) = Int64.ofInt x + Int64.ofInt y := by rw [i64_w, Int64.ofInt_add]
theorem l_sub (x y : Int) : Int64.ofInt (w64 (x - y)) = Int64.ofInt x - Int64.ofInt y := by rw [i64_w, Int64.ofInt_sub]
theorem l_mul (x y : Int) : Int64.ofInt (w64 (x * y)) = Int64.ofInt x * Int64.ofInt y := by rw [i64_w, Int64.ofInt_mul]
theorem l_neg (x : Int) : Int64.ofInt (w64 (-x)) = -Int64.ofInt x := by rw [i64_w, Int64.ofInt_neg]
theorem n_div {g : Bool} {n : Nat} {x y : Int} (h1 : okv g n 0 x) (h2 : okv g n 0 y) : Int32.ofInt (w32 (x.tdiv y)) = Int32.ofInt x / Int32.ofInt y := by
  apply Int32.toInt_inj.mp
  rw [i32_id (w32_lo _) (w32_hi _), Int32.toInt_div, i32_id h1.1 h1.2, i32_id h2.1 h2.2, w32_bmod]
theorem l_div {g : Bool} {n : Nat} {x y : Int} (h1 : okv g n 1 x) (h2 : okv g n 1 y) : Int64.ofInt (w64 (x.tdiv y)) = Int64.ofInt x / Int64.ofInt y := by
  apply Int64.toInt_inj.mp
  rw [i64_id (w64_lo _) (w64_hi _), Int64.toInt_div, i64_id h1.1 h1.2, i64_id h2.1 h2.2, w64_bmod]
theorem n_i2l {g : Bool} {n : Nat} {x : Int} (h1 : okv g n 0 x) : (Int32.ofInt x).toInt64 = Int64.ofInt x := by
  apply Int64.toInt_inj.mp
  rw [Int32.toInt_toInt64, i32_id h1.1 h1.2, i64_id (by have := h1.1; omega) (by have := h1.2; omega)]
theorem l_l2i {g : Bool} {n : Nat} {x : Int} (h1 : okv g n 1 x) : (Int64.ofInt x).toInt32 = Int32.ofInt (w32 x) := by
  apply Int32.toInt_inj.mp
  rw [Int64.toInt_toInt32, i64_id h1.1 h1.2, i32_id (w32_lo _) (w32_hi _), w32_bmod]
theorem n_i2b {g : Bool} {n : Nat} {x : Int} (h1 : okv g n 0 x) : (Int32.ofInt x).toInt8.toInt32 = Int32.ofInt (w8 x) := by
  apply Int32.toInt_inj.mp
  have h3 : -128 ≤ x.bmod 256 := by
    have := Int.le_bmod (x := x) (m := 256) (by decide)
    omega
  have h4 : x.bmod 256 < 128 := by
    have := Int.bmod_lt (x := x) (m := 256) (by decide)
    omega
  rw [Int8.toInt_toInt32, Int32.toInt_toInt8, i32_id h1.1 h1.2, w8_bmod, i32_id (by omega) (by omega)]
theorem okw8 {z g : Bool} {n : Nat} (x : Int) : okz z g n 0 (w8 x) := by
  rw [w8_bmod]
  constructor
  · have := Int.le_bmod (x := x) (m := 256) (by decide)
    omega
  · have := Int.bmod_lt (x := x) (m := 256) (by decide)
    omega
theorem n_lcp {g : Bool} {n : Nat} {x y : Int} (h1 : okv g n 1 x) (h2 : okv g n 1 y) : lg_cmp (Int64.ofInt x) (Int64.ofInt y) = Int32.ofInt (lcp x y) := by
  unfold lg_cmp lcp
  by_cases h3 : x < y
  · rw [if_pos h3, if_neg (fun q => by have := (i64_lt h2 h1).mp q; omega), if_neg (fun q => by have := (i64_eq h1 h2).mp q; omega)]; rfl
  · rw [if_neg h3]
    by_cases h4 : x = y
    · rw [if_pos h4, if_neg (fun q => by have := (i64_lt h2 h1).mp q; omega), if_pos (by rw [h4])]; rfl
    · rw [if_neg h4, if_pos ((i64_lt h2 h1).mpr (by omega))]; rfl
theorem oklcp {z g : Bool} {n : Nat} (x y : Int) : okz z g n 0 (lcp x y) := by
  unfold lcp
  split
  · exact ⟨by decide, by decide⟩
  · split
    · exact ⟨by decide, by decide⟩
    · exact ⟨by decide, by decide⟩
theorem grd_some {α : Type} {c : Prop} [Decidable c] {x : Option α} {r : α} (h : grd c x = some r) : c ∧ x = some r := by
  unfold grd at h
  split at h
  · rename_i hc; exact ⟨hc, h⟩
  · cases h
