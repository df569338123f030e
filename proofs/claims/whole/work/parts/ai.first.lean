/-! THE FIRST HEAP, without a script. -/
def hE : Hp := fun _ _ => 0
/-- the class made: its object, then its constructor -/
def oT1 : Option (Int × Hp) := runT 100000 sdT_X11_init fsT_X11_init (entL 0 [(15, 0)]) (alc hE 15)
set_option maxRecDepth 100000 in
theorem oT1_n : (match oT1 with | some (_, h) => decide (cnt h = 113) | none => false) = true := by decide +kernel
/-- both made -/
def oT2 : Option (Int × Hp) := match oT1 with
  | some (_, h) => runT 100000 sdT_X12_init fsT_X12_init (entL 0 [(16, 113)]) (alc h 16)
  | none => none
def hF : Hp := match oT2 with
  | some (_, h) => h
  | none => hE
set_option maxRecDepth 100000 in
theorem oT2_n : (match oT2 with | some (_, h) => decide (cnt h = 148) | none => false) = true := by decide +kernel
set_option maxRecDepth 100000 in
theorem hF_a : decide (hF 113 45 = 100 ∧ hF 0 2 = 1 ∧ hF 0 3 = 14 ∧ hF 52 0 = 1 ∧ hF 52 2 = 100 ∧ hF 50 2 = 12 ∧ hF 52 3 = 12 ∧ hF 39 0 = 1 ∧ hF 39 12 = -2 ∧ hF 39 13 = -2 ∧ hF 64 4 = 100 ∧ hF 113 6 = 0 ∧ hF 115 0 = 2000 ∧ hF 115 6 = 10 ∧ hF 115 7 = 50 ∧ hF 144 0 = -1 ∧ hF 94 1 = -2) = true := by decide +kernel
set_option maxRecDepth 100000 in
theorem hF_b0 : decide (1 ≤ hF 57 2 ∧ hF 57 2 ≤ 12) = true := by decide +kernel
set_option maxRecDepth 100000 in
theorem hF_b1 : decide (hF 102 1 = -2) = true := by decide +kernel
set_option maxRecDepth 100000 in
theorem hF_b2 : decide (hF 110 1 = 0) = true := by decide +kernel
set_option maxRecDepth 100000 in
theorem hF_b3 : decide (hF 27 1 = 0) = true := by decide +kernel
set_option maxRecDepth 100000 in
theorem hF_b4 : decide (hF 113 20 = 0) = true := by decide +kernel
set_option maxRecDepth 100000 in
theorem hF_b5 : decide (hF 66 1 = 0) = true := by decide +kernel
set_option maxRecDepth 100000 in
theorem hF_b6 : decide (hF 66 2 = 0) = true := by decide +kernel
