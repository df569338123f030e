/-! THE LEAST WAYS TO REST: the table, its rows by u from -6 on; -1: there is none; and how many goings. -/
def lsT : List (List Int) := [[-1, -1, -1, -1, -1, -1, -1, -1, -1, -1, -1, -1, -1, -1, -1, 20, 25, 29, 32, 34, 35, 35, 41, 46, 50, 53, 55, 56, 63, 69, 74, 78, 81, 83, 91, 98, 104, 109, 113, 116, 125, 133, 140, 146, 151, 155, 165, 174, 182, 189, 195, 200, 211, 221, 230, 238, 245, 251, 263, 274, 284],
  [-1, -1, -1, -1, -1, -1, -1, -1, -1, -1, 10, 14, 17, 19, 20, 20, 25, 29, 32, 34, 35, 35, 41, 46, 50, 53, 55, 56, 63, 69, 74, 78, 81, 83, 91, 98, 104, 109, 113, 116, 125, 133, 140, 146, 151, 155, 165, 174, 182, 189, 195, 200, 211, 221, 230, 238, 245, 251, 263, 274, 284],
  [-1, -1, -1, -1, -1, -1, 4, 7, 9, 10, 10, 14, 17, 19, 20, 20, 25, 29, 32, 34, 35, 41, 46, 50, 53, 55, 56, 63, 69, 74, 78, 81, 83, 91, 98, 104, 109, 113, 116, 125, 133, 140, 146, 151, 155, 165, 174, 182, 189, 195, 200, 211, 221, 230, 238, 245, 251, 263, 274, 284, 293],
  [-1, -1, -1, 1, 3, 4, 4, 7, 9, 10, 10, 14, 17, 19, 20, 25, 29, 32, 34, 35, 41, 46, 50, 53, 55, 62, 68, 73, 77, 80, 82, 90, 97, 103, 108, 112, 115, 124, 132, 139, 145, 150, 154, 164, 173, 181, 188, 194, 199, 210, 220, 229, 237, 244, 250, 262, 273, 283, 292, 300, 307],
  [-1, 0, 1, 1, 3, 4, 4, 7, 9, 10, 14, 17, 19, 20, 25, 29, 32, 34, 40, 45, 49, 52, 54, 61, 67, 72, 76, 79, 87, 94, 100, 105, 109, 112, 121, 129, 136, 142, 147, 151, 161, 170, 178, 185, 191, 196, 207, 217, 226, 234, 241, 247, 259, 270, 280, 289, 297, 304, 317, 329, 340],
  [0, 0, 1, 1, 3, 4, 7, 9, 10, 14, 17, 19, 24, 28, 31, 33, 39, 44, 48, 51, 58, 64, 69, 73, 76, 84, 91, 97, 102, 106, 115, 123, 130, 136, 141, 145, 155, 164, 172, 179, 185, 190, 201, 211, 220, 228, 235, 241, 253, 264, 274, 283, 291, 298, 311, 323, 334, 344, 353, 361, 375],
  [0, 0, 1, 3, 4, 7, 9, 13, 16, 18, 23, 27, 30, 36, 41, 45, 48, 55, 61, 66, 70, 78, 85, 91, 96, 100, 109, 117, 124, 130, 135, 145, 154, 162, 169, 175, 180, 191, 201, 210, 218, 225, 231, 243, 254, 264, 273, 281, 288, 301, 313, 324, 334, 343, 351, 365, 378, 390, 401, 411, 420],
  [0, 1, 3, 6, 8, 12, 15, 20, 24, 27, 33, 38, 42, 49, 55, 60, 64, 72, 79, 85, 90, 99, 107, 114, 120, 125, 135, 144, 152, 159, 165, 176, 186, 195, 203, 210, 216, 228, 239, 249, 258, 266, 273, 286, 298, 309, 319, 328, 336, 350, 363, 375, 386, 396, 405, 420, 434, 447, 459, 470, 480],
  [2, 5, 9, 12, 17, 21, 27, 32, 36, 43, 49, 54, 62, 69, 75, 80, 89, 97, 104, 110, 120, 129, 137, 144, 150, 161, 171, 180, 188, 195, 207, 218, 228, 237, 245, 252, 265, 277, 288, 298, 307, 315, 329, 342, 354, 365, 375, 384, 399, 413, 426, 438, 449, 459, 475, 490, 504, 517, 529, 540, -1],
  [11, 15, 21, 26, 33, 39, 44, 52, 59, 65, 74, 82, 89, 95, 105, 114, 122, 129, 140, 150, 159, 167, 174, 186, 197, 207, 216, 224, 237, 249, 260, 270, 279, 287, 301, 314, 326, 337, 347, 356, 371, 385, 398, 410, 421, 431, 447, 462, 476, 489, 501, 512, 529, 545, 560, 574, 587, 599, -1, -1, -1],
  [29, 37, 44, 50, 59, 67, 74, 84, 93, 101, 108, 119, 129, 138, 146, 158, 169, 179, 188, 196, 209, 221, 232, 242, 251, 265, 278, 290, 301, 311, 320, 335, 349, 362, 374, 385, 395, 411, 426, 440, 453, 465, 476, 493, 509, 524, 538, 551, 563, 581, 598, 614, 629, 643, 656, -1, -1, -1, -1, -1, -1],
  [63, 72, 80, 91, 101, 110, 118, 130, 141, 151, 160, 173, 185, 196, 206, 215, 229, 242, 254, 265, 275, 290, 304, 317, 329, 340, 350, 366, 381, 395, 408, 420, 431, 448, 464, 479, 493, 506, 518, 536, 553, 569, 584, 598, 611, 630, 648, 665, 681, 696, 710, -1, -1, -1, -1, -1, -1, -1, -1, -1, -1],
  [115, 124, 137, 149, 160, 170, 184, 197, 209, 220, 230, 245, 259, 272, 284, 295, 311, 326, 340, 353, 365, 376, 393, 409, 424, 438, 451, 463, 481, 498, 514, 529, 543, 556, 575, 593, 610, 626, 641, 655, 675, 694, 712, 729, 745, 760, -1, -1, -1, -1, -1, -1, -1, -1, -1, -1, -1, -1, -1, -1, -1]]
def lsR : List (List Nat) := [[0, 0, 0, 0, 0, 0, 0, 0, 0, 0, 0, 0, 0, 0, 0, 6, 7, 7, 7, 7, 7, 7, 8, 8, 8, 8, 8, 8, 9, 9, 9, 9, 9, 9, 10, 10, 10, 10, 10, 10, 11, 11, 11, 11, 11, 11, 12, 12, 12, 12, 12, 12, 13, 13, 13, 13, 13, 13, 14, 14, 14],
  [0, 0, 0, 0, 0, 0, 0, 0, 0, 0, 5, 6, 6, 6, 6, 6, 7, 7, 7, 7, 7, 7, 8, 8, 8, 8, 8, 8, 9, 9, 9, 9, 9, 9, 10, 10, 10, 10, 10, 10, 11, 11, 11, 11, 11, 11, 12, 12, 12, 12, 12, 12, 13, 13, 13, 13, 13, 13, 14, 14, 14],
  [0, 0, 0, 0, 0, 0, 4, 5, 5, 5, 5, 6, 6, 6, 6, 6, 7, 7, 7, 7, 7, 8, 8, 8, 8, 8, 8, 9, 9, 9, 9, 9, 9, 10, 10, 10, 10, 10, 10, 11, 11, 11, 11, 11, 11, 12, 12, 12, 12, 12, 12, 13, 13, 13, 13, 13, 13, 14, 14, 14, 14],
  [0, 0, 0, 3, 4, 4, 4, 5, 5, 5, 5, 6, 6, 6, 6, 7, 7, 7, 7, 7, 8, 8, 8, 8, 8, 9, 9, 9, 9, 9, 9, 10, 10, 10, 10, 10, 10, 11, 11, 11, 11, 11, 11, 12, 12, 12, 12, 12, 12, 13, 13, 13, 13, 13, 13, 14, 14, 14, 14, 14, 14],
  [0, 2, 3, 3, 4, 4, 4, 5, 5, 5, 6, 6, 6, 6, 7, 7, 7, 7, 8, 8, 8, 8, 8, 9, 9, 9, 9, 9, 10, 10, 10, 10, 10, 10, 11, 11, 11, 11, 11, 11, 12, 12, 12, 12, 12, 12, 13, 13, 13, 13, 13, 13, 14, 14, 14, 14, 14, 14, 15, 15, 15],
  [1, 2, 3, 3, 4, 4, 5, 5, 5, 6, 6, 6, 7, 7, 7, 7, 8, 8, 8, 8, 9, 9, 9, 9, 9, 10, 10, 10, 10, 10, 11, 11, 11, 11, 11, 11, 12, 12, 12, 12, 12, 12, 13, 13, 13, 13, 13, 13, 14, 14, 14, 14, 14, 14, 15, 15, 15, 15, 15, 15, 16],
  [0, 2, 3, 4, 4, 5, 5, 6, 6, 6, 7, 7, 7, 8, 8, 8, 8, 9, 9, 9, 9, 10, 10, 10, 10, 10, 11, 11, 11, 11, 11, 12, 12, 12, 12, 12, 12, 13, 13, 13, 13, 13, 13, 14, 14, 14, 14, 14, 14, 15, 15, 15, 15, 15, 15, 16, 16, 16, 16, 16, 16],
  [1, 3, 4, 5, 5, 6, 6, 7, 7, 7, 8, 8, 8, 9, 9, 9, 9, 10, 10, 10, 10, 11, 11, 11, 11, 11, 12, 12, 12, 12, 12, 13, 13, 13, 13, 13, 13, 14, 14, 14, 14, 14, 14, 15, 15, 15, 15, 15, 15, 16, 16, 16, 16, 16, 16, 17, 17, 17, 17, 17, 17],
  [4, 5, 6, 6, 7, 7, 8, 8, 8, 9, 9, 9, 10, 10, 10, 10, 11, 11, 11, 11, 12, 12, 12, 12, 12, 13, 13, 13, 13, 13, 14, 14, 14, 14, 14, 14, 15, 15, 15, 15, 15, 15, 16, 16, 16, 16, 16, 16, 17, 17, 17, 17, 17, 17, 18, 18, 18, 18, 18, 18, 0],
  [7, 7, 8, 8, 9, 9, 9, 10, 10, 10, 11, 11, 11, 11, 12, 12, 12, 12, 13, 13, 13, 13, 13, 14, 14, 14, 14, 14, 15, 15, 15, 15, 15, 15, 16, 16, 16, 16, 16, 16, 17, 17, 17, 17, 17, 17, 18, 18, 18, 18, 18, 18, 19, 19, 19, 19, 19, 19, 0, 0, 0],
  [9, 10, 10, 10, 11, 11, 11, 12, 12, 12, 12, 13, 13, 13, 13, 14, 14, 14, 14, 14, 15, 15, 15, 15, 15, 16, 16, 16, 16, 16, 16, 17, 17, 17, 17, 17, 17, 18, 18, 18, 18, 18, 18, 19, 19, 19, 19, 19, 19, 20, 20, 20, 20, 20, 20, 0, 0, 0, 0, 0, 0],
  [12, 12, 12, 13, 13, 13, 13, 14, 14, 14, 14, 15, 15, 15, 15, 15, 16, 16, 16, 16, 16, 17, 17, 17, 17, 17, 17, 18, 18, 18, 18, 18, 18, 19, 19, 19, 19, 19, 19, 20, 20, 20, 20, 20, 20, 21, 21, 21, 21, 21, 21, 0, 0, 0, 0, 0, 0, 0, 0, 0, 0],
  [14, 14, 15, 15, 15, 15, 16, 16, 16, 16, 16, 17, 17, 17, 17, 17, 18, 18, 18, 18, 18, 18, 19, 19, 19, 19, 19, 19, 20, 20, 20, 20, 20, 20, 21, 21, 21, 21, 21, 21, 22, 22, 22, 22, 22, 22, 0, 0, 0, 0, 0, 0, 0, 0, 0, 0, 0, 0, 0, 0, 0]]
def tT (w u : Int) : Int := (lsT.getD (u + 6).toNat []).getD w.toNat 0
def tR (w u : Int) : Nat := (lsR.getD (u + 6).toNat []).getD w.toNat 0
def inR (w u : Int) : Prop := (0 ≤ w ∧ w ≤ 60) ∧ (-6 ≤ u ∧ u ≤ 6)
def ckA (w u : Int) : Bool := decide (-1 ≤ tT w u ∧ tT w u ≤ 760 ∧ tR w u ≤ 22)
def ckB (w u j : Int) : Bool := !(decide ((0 ≤ w + (u + j) ∧ w + (u + j) ≤ 60) ∧ (-6 ≤ u + j ∧ u + j ≤ 6))) || decide (tT (w + (u + j)) (u + j) = -1 ∨ (tT w u ≠ -1 ∧ tT w u ≤ tT (w + (u + j)) (u + j) + (w + (u + j))))
def ckC (w u j : Int) : Bool := decide (((0 ≤ w + (u + j) ∧ w + (u + j) ≤ 60) ∧ (-6 ≤ u + j ∧ u + j ≤ 6)) ∧ tT (w + (u + j)) (u + j) ≠ -1 ∧ tT w u = tT (w + (u + j)) (u + j) + (w + (u + j)) ∧ tR (w + (u + j)) (u + j) < tR w u)
def ckD (w u : Int) : Bool := ckA w u && (ckB w u (-1) && (ckB w u 0 && ckB w u 1)) && (decide (tT w u = -1) || (decide (w = 0 ∧ u = 0) || (ckC w u (-1) || (ckC w u 0 || ckC w u 1))))
set_option maxRecDepth 100000 in
theorem ck_all : ((List.range 61).all fun a => (List.range 13).all fun b => ckD (Int.ofNat a) (Int.ofNat b - 6)) = true := by decide +kernel
theorem ck_at {w u : Int} (h : inR w u) : ckD w u = true := by
  have h1 := List.all_eq_true.mp (List.all_eq_true.mp ck_all w.toNat (List.mem_range.mpr (by have := h.1; omega))) (u + 6).toNat (List.mem_range.mpr (by have := h.2; omega))
  have e1 : Int.ofNat w.toNat = w := by have := h.1; simp only [Int.ofNat_eq_natCast]; omega
  have e2 : Int.ofNat (u + 6).toNat - 6 = u := by have := h.2; simp only [Int.ofNat_eq_natCast]; omega
  rw [e1, e2] at h1
  exact h1
theorem t00 : tT 0 0 = 0 := by decide +kernel
theorem tA {w u : Int} (h : inR w u) : -1 ≤ tT w u ∧ tT w u ≤ 760 ∧ tR w u ≤ 22 := by
  have h1 := ck_at h
  unfold ckD at h1
  rw [Bool.and_eq_true, Bool.and_eq_true] at h1
  exact of_decide_eq_true h1.1.1
theorem tB {w u j : Int} (h : inR w u) (hj : -1 ≤ j ∧ j ≤ 1) (h2 : inR (w + (u + j)) (u + j)) (h3 : tT (w + (u + j)) (u + j) ≠ -1) : tT w u ≠ -1 ∧ tT w u ≤ tT (w + (u + j)) (u + j) + (w + (u + j)) := by
  have h1 := ck_at h
  unfold ckD at h1
  simp only [Bool.and_eq_true] at h1
  have key : ckB w u j = true := by
    rcases (show j = -1 ∨ j = 0 ∨ j = 1 by omega) with rfl | rfl | rfl
    · exact h1.1.2.1
    · exact h1.1.2.2.1
    · exact h1.1.2.2.2
  unfold ckB at key
  rw [Bool.or_eq_true, Bool.not_eq_true', decide_eq_false_iff_not, decide_eq_true_eq] at key
  rcases key with key | key | key
  · exact absurd h2 key
  · exact absurd key h3
  · exact key
theorem tC {w u : Int} (h : inR w u) (h2 : tT w u ≠ -1) (h3 : ¬ (w = 0 ∧ u = 0)) : ∃ j : Int, (-1 ≤ j ∧ j ≤ 1) ∧ inR (w + (u + j)) (u + j) ∧ tT (w + (u + j)) (u + j) ≠ -1 ∧ tT w u = tT (w + (u + j)) (u + j) + (w + (u + j)) ∧ tR (w + (u + j)) (u + j) < tR w u := by
  have h1 := ck_at h
  unfold ckD at h1
  simp only [Bool.and_eq_true, Bool.or_eq_true, decide_eq_true_eq] at h1
  rcases h1.2 with h4 | h4 | h4 | h4 | h4
  · exact absurd h4 h2
  · exact absurd h4 h3
  · unfold ckC at h4
    rw [decide_eq_true_eq] at h4
    exact ⟨-1, by decide, h4⟩
  · unfold ckC at h4
    rw [decide_eq_true_eq] at h4
    exact ⟨0, by decide, h4⟩
  · unfold ckC at h4
    rw [decide_eq_true_eq] at h4
    exact ⟨1, by decide, h4⟩
/-- a table that has not fallen below the least -/
def GE0 (NO : Int) (v : Int → Int → Int) : Prop := v 0 0 = 0 ∧ ∀ w u, inR w u → v w u = NO ∨ (tT w u ≠ -1 ∧ tT w u ≤ v w u ∧ v w u < NO)
def EQr (r : Nat) (v : Int → Int → Int) : Prop := ∀ w u, inR w u → tT w u ≠ -1 → tR w u ≤ r → v w u = tT w u
def FPt (NO : Int) (v : Int → Int → Int) (w u : Int) : Prop := ∀ j : Int, -1 ≤ j → j ≤ 1 → inR (w + (u + j)) (u + j) → v (w + (u + j)) (u + j) < NO → v w u ≤ v (w + (u + j)) (u + j) + (w + (u + j))
def LI (NO : Int) (r : Nat) (pr : Int → Int → Prop) (fl : Int) (v : Int → Int → Int) : Prop :=
  GE0 NO v ∧ EQr r v ∧ (∀ w u, inR w u → pr w u → tT w u ≠ -1 → tR w u ≤ r + 1 → v w u = tT w u) ∧ (fl = 0 → ∀ w u, inR w u → pr w u → FPt NO v w u) ∧ (fl = 0 ∨ fl = 1) ∧ (22 ≤ r → fl = 0)
def updT (v : Int → Int → Int) (w u x : Int) : Int → Int → Int := fun a b => if a = w ∧ b = u then x else v a b
theorem updT_s {v : Int → Int → Int} {w u x : Int} : updT v w u x w u = x := if_pos ⟨rfl, rfl⟩
theorem updT_o {v : Int → Int → Int} {w u x a b : Int} (h : ¬ (a = w ∧ b = u)) : updT v w u x a b = v a b := if_neg h
theorem LI_step {NO : Int} (hNO : 1000 ≤ NO) {r : Nat} {pr : Int → Int → Prop} {fl fl' : Int} {v : Int → Int → Int} (I : LI NO r pr fl v) {w u x : Int} (hw : inR w u) (h1 : x ≤ v w u) (h2 : ∀ j : Int, -1 ≤ j → j ≤ 1 → inR (w + (u + j)) (u + j) → v (w + (u + j)) (u + j) < NO → x ≤ v (w + (u + j)) (u + j) + (w + (u + j)))
    (h3 : x = v w u ∨ ∃ j : Int, (-1 ≤ j ∧ j ≤ 1) ∧ inR (w + (u + j)) (u + j) ∧ v (w + (u + j)) (u + j) < NO ∧ x = v (w + (u + j)) (u + j) + (w + (u + j))) (hf : (fl' = 0 ∨ fl' = 1) ∧ (fl' = 0 ↔ fl = 0 ∧ ¬ x < v w u)) : LI NO r (fun a b => pr a b ∨ (a = w ∧ b = u)) fl' (updT v w u x) := by
  obtain ⟨⟨g0, g1⟩, i2, i3, i4, i5, i6⟩ := I
  have hx : x = NO ∧ v w u = NO ∨ (tT w u ≠ -1 ∧ tT w u ≤ x ∧ x < NO) := by
    rcases h3 with h3 | ⟨j, hj, j1, j2, j3⟩
    · rcases g1 w u hw with h4 | h4
      · exact Or.inl ⟨by omega, h4⟩
      · exact Or.inr ⟨h4.1, by omega, by omega⟩
    · rcases g1 _ _ j1 with h4 | h4
      · omega
      · have h5 := tB hw hj j1 h4.1
        by_cases h6 : x < NO
        · exact Or.inr ⟨h5.1, by omega, h6⟩
        · rcases g1 w u hw with h7 | h7
          · exact Or.inl ⟨by omega, h7⟩
          · omega
  have hge : GE0 NO (updT v w u x) := by
    refine ⟨?_, fun a b hab => ?_⟩
    · by_cases h : (0 : Int) = w ∧ (0 : Int) = u
      · obtain ⟨rfl, rfl⟩ := h
        rw [updT_s]
        rw [g0] at h1 hx
        rcases hx with hx | hx
        · omega
        · rw [t00] at hx; omega
      · rw [updT_o h]; exact g0
    · by_cases h : a = w ∧ b = u
      · obtain ⟨rfl, rfl⟩ := h
        rw [updT_s]
        rcases hx with hx | hx
        · exact Or.inl hx.1
        · exact Or.inr hx
      · rw [updT_o h]; exact g1 a b hab
  have hkeep : ∀ a b, inR a b → tT a b ≠ -1 → v a b = tT a b → updT v w u x a b = tT a b := fun a b hab ht hv => by
    by_cases h : a = w ∧ b = u
    · obtain ⟨rfl, rfl⟩ := h
      have hA := tA hab
      rw [updT_s]
      rcases hx with hx | hx <;> omega
    · rw [updT_o h]; exact hv
  refine ⟨hge, fun a b hab ht hr => hkeep a b hab ht (i2 a b hab ht hr), fun a b hab hp ht hr => ?_, fun hz a b hab hp => ?_, hf.1, fun h22 => ?_⟩
  · by_cases h : a = w ∧ b = u
    · obtain ⟨rfl, rfl⟩ := h
      rw [updT_s]
      have hA := tA hab
      by_cases h0 : a = 0 ∧ b = 0
      · obtain ⟨rfl, rfl⟩ := h0
        rw [t00] at *
        rw [g0] at h1 hx
        rcases hx with hx | hx <;> omega
      · obtain ⟨j, hj, j1, j2, j3, j4⟩ := tC hab ht h0
        have hv := i2 _ _ j1 j2 (by omega)
        have hA2 := tA j1
        have := h2 j hj.1 hj.2 j1 (by omega)
        rcases hx with hx | hx <;> omega
    · rw [updT_o h]
      rcases hp with hp | hp
      · exact i3 a b hab hp ht hr
      · exact absurd hp h
  · obtain ⟨z1, z2⟩ := hf.2.mp hz
    have hxe : x = v w u := by omega
    have hsame : updT v w u x = v := by
      funext a b
      by_cases h : a = w ∧ b = u
      · obtain ⟨rfl, rfl⟩ := h
        rw [updT_s, hxe]
      · rw [updT_o h]
    rw [hsame]
    rcases hp with hp | ⟨rfl, rfl⟩
    · exact i4 z1 a b hab hp
    · intro j j0 j1 j2 j3
      rw [← hxe]
      exact h2 j j0 j1 j2 j3
  · have h0 := i6 h22
    refine hf.2.mpr ⟨h0, fun hlt => ?_⟩
    have hA := tA hw
    by_cases ht : tT w u = -1
    · rcases hx with hx | hx
      · omega
      · exact hx.1 ht
    · have := i2 w u hw ht (by omega)
      rcases hx with hx | hx <;> omega
/-- where nothing falls any more, it is the least -/
theorem FP_T {NO : Int} (hNO : 1000 ≤ NO) {v : Int → Int → Int} (G : GE0 NO v) (F : ∀ w u, inR w u → FPt NO v w u) : ∀ (k : Nat) (w u : Int), inR w u → tT w u ≠ -1 → tR w u ≤ k → v w u = tT w u
  | k, w, u, hw, ht, hk => by
    have hA := tA hw
    by_cases h0 : w = 0 ∧ u = 0
    · obtain ⟨rfl, rfl⟩ := h0
      rw [t00]; exact G.1
    · obtain ⟨j, hj, j1, j2, j3, j4⟩ := tC hw ht h0
      have hA2 := tA j1
      cases k with
      | zero => omega
      | succ k =>
        have ih := FP_T hNO G F k _ _ j1 j2 (by omega)
        have := F w u hw j hj.1 hj.2 j1 (by omega)
        rcases G.2 w u hw with h5 | h5 <;> omega
/-- the table is the least ways' -/
def TT (NO : Int) (v : Int → Int → Int) : Prop := ∀ w u, inR w u → v w u = if tT w u = -1 then NO else tT w u
theorem GE_TT {NO : Int} {v : Int → Int → Int} (G : GE0 NO v) (h : ∀ w u, inR w u → tT w u ≠ -1 → v w u = tT w u) : TT NO v := fun w u hw => by
  by_cases ht : tT w u = -1
  · rw [if_pos ht]
    rcases G.2 w u hw with h5 | h5
    · exact h5
    · exact absurd ht h5.1
  · rw [if_neg ht]; exact h w u hw ht
theorem LI_end {NO : Int} (hNO : 1000 ≤ NO) {r : Nat} {pr : Int → Int → Prop} {fl : Int} {v : Int → Int → Int} (I : LI NO r pr fl v) (hp : ∀ w u, inR w u → pr w u) : (fl = 0 → TT NO v) ∧ GE0 NO v ∧ EQr (r + 1) v :=
  ⟨fun hz => GE_TT I.1 (fun w u hw ht => FP_T hNO I.1 (fun a b hab => I.2.2.2.1 hz a b hab (hp a b hab)) (tR w u) w u hw ht (Nat.le_refl _)), I.1, fun w u hw ht hr => I.2.2.1 w u hw (hp w u hw) ht hr⟩
theorem LI_begin {NO : Int} {r : Nat} {v : Int → Int → Int} (G : GE0 NO v) (Q : EQr r v) {pr : Int → Int → Prop} (hp : ∀ w u, inR w u → ¬ pr w u) : LI NO r pr 0 v :=
  ⟨G, Q, fun w u hw h => absurd h (hp w u hw), fun _ w u hw h => absurd h (hp w u hw), Or.inl rfl, fun _ => rfl⟩
def leastS (w u : Int) : Int := if tT w u = -1 then -2 else tT w u
