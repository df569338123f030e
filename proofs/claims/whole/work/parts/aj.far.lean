set_option maxRecDepth 100000 in
theorem hF_far : ((List.range 2525).all fun j => decide (hF 51 (Int.ofNat j) = 0)) = true := by decide +kernel
