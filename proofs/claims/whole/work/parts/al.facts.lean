/-! THE FIRST HEAP: what stands where. -/
set_option maxRecDepth 100000 in
theorem hF_c1 : decide (hF 113 6 = 0 ∧ (1 ≤ hF 115 0 ∧ hF 115 0 ≤ 5000) ∧ (1 ≤ hF 115 1 ∧ hF 115 1 ≤ 5000) ∧ (1 ≤ hF 115 2 ∧ hF 115 2 ≤ 5000) ∧ (1 ≤ hF 115 3 ∧ hF 115 3 ≤ 500) ∧ (1 ≤ hF 115 4 ∧ hF 115 4 ≤ 500) ∧ (1 ≤ hF 115 5 ∧ hF 115 5 ≤ 500) ∧ hF 115 6 = 10 ∧ hF 115 7 = 50 ∧ hF 122 0 = 0 ∧ hF 122 1 = 0 ∧ hF 122 2 = 0 ∧ hF 126 0 = 0 ∧ hF 113 5 = 0 ∧ hF 113 7 = 0 ∧ hF 113 45 = 100 ∧ hF 113 47 = 0 ∧ hF 113 42 = 0 ∧ hF 113 43 = 0 ∧ hF 113 44 = 0 ∧ hF 113 54 = 0 ∧ hF 147 0 = 0 ∧ hF 147 1 = 0 ∧ hF 147 2 = 0 ∧ hF 144 0 = -1 ∧ hF 144 1 = -1) = true := by decide +kernel
set_option maxRecDepth 100000 in
theorem hF_c2 : decide (hF 0 2 = 1 ∧ hF 0 3 = 14 ∧ hF 52 0 = 1 ∧ hF 52 1 = 10 ∧ hF 52 3 = 12 ∧ hF 52 2 = 100 ∧ hF 50 2 = 12 ∧ (1 ≤ hF 57 2 ∧ hF 57 2 ≤ 12) ∧ hF 64 0 = 0 ∧ hF 64 1 = 0 ∧ hF 64 2 = 0 ∧ hF 64 3 = -1 ∧ hF 64 4 = 100 ∧ hF 64 5 = 0 ∧ hF 64 6 = hF 113 46 ∧ hF 66 2 = 0 ∧ hF 66 1 = 0 ∧ hF 92 0 = 0 ∧ hF 92 1 = 0 ∧ hF 92 2 = 0 ∧ hF 39 0 = 1 ∧ hF 39 4 = 0 ∧ hF 39 6 = 0 ∧ hF 39 10 = 0 ∧ hF 39 11 = 0 ∧ hF 39 12 = -2 ∧ hF 39 13 = -2 ∧ hF 94 1 = -2 ∧ hF 102 1 = -2 ∧ hF 110 1 = 0 ∧ hF 27 1 = 0 ∧ hF 113 20 = 0) = true := by decide +kernel
set_option maxRecDepth 100000 in
theorem hF_c3 : decide (hF 1 9 = 10 ∧ hF 1 10 = 50 ∧ hF 1 11 = 0 ∧ hF 1 12 = 0 ∧ hF 1 13 = 0 ∧ hF 1 14 = 0 ∧ hF 2 0 = hF 115 0 ∧ hF 2 1 = hF 115 1 ∧ hF 2 2 = hF 115 2 ∧ hF 2 3 = hF 115 3 ∧ hF 2 4 = hF 115 4 ∧ hF 2 5 = hF 115 5 ∧ hF 4 0 = 0 ∧ hF 5 0 = 0 ∧ hF 6 0 = 0) = true := by decide +kernel
set_option maxRecDepth 100000 in
theorem hF_far2 : ((List.range 2525).all fun j => decide (hF 58 (Int.ofNat j) = 0)) = true := by decide +kernel
/-- every name of a cell that the first heap holds is there, and those that never change are what they must be -/
def chk (k : Nat) : Bool := match Nat.ble 20 (kd k) && Nat.ble (aknd (kd k)) 3 with
  | true => true
  | false => (List.range (isz (kd k))).all fun i => (Nat.ble (itag (kd k) i) 3 || decide (0 ≤ hF (Int.ofNat k) (Int.ofNat i))) && (match fxv (kd k) k i with
    | some x => decide (hF (Int.ofNat k) (Int.ofNat i) = x)
    | none => true)
set_option maxRecDepth 100000 in
theorem chk_all : ((List.range 148).all chk) = true := by decide +kernel
