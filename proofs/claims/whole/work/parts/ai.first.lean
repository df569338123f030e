/-! THE FIRST HEAP, without a script. -/
def hE : Hp := fun _ _ => 0
/-- the class made: its object, then its constructor -/
def oT1 : Option (Int × Hp) := runT 100000 sdT_X11_init fsT_X11_init (entL 0 [(15, 0)]) (alc hE 15)
set_option maxRecDepth 100000 in
theorem oT1_n : (match oT1 with | some (_, h) => decide (cnt h = 113) | none => false) = true := by decide +kernel
