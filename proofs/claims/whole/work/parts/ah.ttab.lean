/-! THE METHODS THAT MAKE THE OBJECTS. -/
def minit : List Mx := [((yX0_init, cX0_init, 1, none, 1, 20, 0, [4]), 0, 2, [288, 130, 287, 0]),
  ((yX8_init, cX8_init, 1, none, 1, 20, 0, [12]), 0, 2, [479, 134, 478, 0]),
  ((yX2_init, cX2_init, 1, none, 1, 20, 0, [6]), 0, 2, [540, 136, 539, 0]),
  ((yX3_init, cX3_init, 1, none, 1, 20, 0, [7]), 0, 2, [554, 137, 553, 0]),
  ((yX9_init, cX9_init, 1, none, 1, 20, 0, [13]), 0, 2, [252, 128, 251, 0]),
  ((yX10_init, cX10_init, 1, none, 1, 21, 0, [14]), 0, 2, [157, 127, 156, 0]),
  ((yX4_init, cX4_init, 2, none, 1, 20, 0, [8, 14]), 1, 2, [428, 133, 427, 0]),
  ((yX1_init, cX1_init, 2, none, 2, 41, 0, [5, 14]), 1, 2, [422, 132, 421, 0]),
  ((yX7_init, cX7_init, 2, none, 1, 20, 0, [11, 14]), 1, 2, [358, 131, 357, 0]),
  ((yX5_init, cX5_init, 2, none, 2, 40, 0, [9]), 0, 2, [519, 135, 518, 0]),
  ((yX6_init, cX6_init, 3, none, 2, 40, 0, [10, 13, 14]), 2, 2, [282, 129, 281, 0]),
  ((yX11_init, cX11_init, 2, none, 7, 157, 0, [15]), 0, 2, [149, 126, 148, 0]),
  ((yX12_init, cX12_init, 1, none, 2, 48, 0, [16]), 0, 2, [1300, 139, 1299, 0])]
def mi2 (j : Nat) : Mx := (mtab ++ minit).getD j ((yL_law, cL_law, 0, none, 0, 0, 0, []), 0, 0, [])
theorem mono_l {ρ : Type} {fs : List (FN ρ)} (h : ∀ fn ∈ fs, MonoF fn) : ∀ (f : Nat) (fn : FN ρ), fs[f]? = some fn → MonoF fn := fun f fn hf => h fn (List.mem_of_getElem? hf)
def sdT_X0_init : SD := [(0, [(0, .aload_n 0, 1, [], 0), (1, .invokespecial 1, 3, [0, 0, 0, 0, 289, 4], 0), (4, .aload_n 0, 1, [], 0), (5, .bipush 33, 2, [], 0), (7, .newarray .int, 2, [0, 247], 0), (9, .putfield 9, 3, [0, 0, 284, 1, 0, 290], 0), (12, .aload_n 0, 1, [], 0), (13, .bipush 33, 2, [], 0), (15, .newarray .int, 2, [0, 247], 0), (17, .putfield 13, 3, [0, 1, 284, 1, 0, 292], 0), (20, .aload_n 0, 1, [], 0), (21, .bipush 33, 2, [], 0), (23, .newarray .int, 2, [0, 247], 0), (25, .putfield 16, 3, [0, 2, 284, 1, 0, 294], 0), (28, .return_, 1, [], 0)])]
def fsT_X0_init : List (FN (Int × Hp)) := []
def calT_X0_init : List Nat := []
theorem foT_X0_init {l : Launch} : fsOK l true mi2 calT_X0_init fsT_X0_init := trivial
theorem fmT_X0_init : ∀ (f : Nat) (fn : FN (Int × Hp)), fsT_X0_init[f]? = some fn → MonoF fn := mono_l (fs := fsT_X0_init) (fun q9 h9 => by cases h9)
theorem okT_X0_init : mokb (mi2 269) = true := by decide +kernel
theorem ok_sdT_X0_init : sdb (mi2 269).1.2.1 (insOK mi2 (mi2 269).1.1.cls (mi2 269).1.2.2.1 (mi2 269).1.2.2.2.2.1 (mi2 269).1.2.2.2.2.2.1 calT_X0_init true 0) sdT_X0_init = true := by decide +kernel
def wT_X0_init {ρ : Type} : FN ρ := wT 100000 sdT_X0_init fsT_X0_init (mi2 269).1.2.2.2.2.2.2.2
theorem monT_X0_init {ρ : Type} : MonoF (wT_X0_init : FN ρ) := wT_mono fmT_X0_init
theorem sndT_X0_init {ρ : Type} {l : Launch} : SndF (ρ := ρ) l true (mi2 269).1 wT_X0_init :=
  snd_T (x := mi2 269) okT_X0_init ok_sdT_X0_init (fun q => by first | rfl | cases q) (Or.inl ⟨rfl, rfl, rfl⟩) (by decide +kernel) (fun a ha => by
    obtain ⟨x0, rfl⟩ := len1 (show a.length = 1 from ha)
    exact Nat.le_of_ble_eq_true rfl) foT_X0_init fmT_X0_init
def sdT_X8_init : SD := [(0, [(0, .aload_n 0, 1, [], 0), (1, .invokespecial 3, 3, [0, 0, 0, 0, 480, 4], 0), (4, .aload_n 0, 1, [], 0), (5, .iconst (-1), 1, [], 0), (6, .putfield 9, 3, [8, 3, 0, 0, 0, 490], 0), (9, .aload_n 0, 1, [], 0), (10, .bipush 100, 2, [], 0), (12, .putfield 15, 3, [8, 4, 0, 0, 0, 493], 0), (15, .return_, 1, [], 0)])]
def fsT_X8_init : List (FN (Int × Hp)) := []
def calT_X8_init : List Nat := []
theorem foT_X8_init {l : Launch} : fsOK l true mi2 calT_X8_init fsT_X8_init := trivial
theorem fmT_X8_init : ∀ (f : Nat) (fn : FN (Int × Hp)), fsT_X8_init[f]? = some fn → MonoF fn := mono_l (fs := fsT_X8_init) (fun q9 h9 => by cases h9)
theorem okT_X8_init : mokb (mi2 270) = true := by decide +kernel
theorem ok_sdT_X8_init : sdb (mi2 270).1.2.1 (insOK mi2 (mi2 270).1.1.cls (mi2 270).1.2.2.1 (mi2 270).1.2.2.2.2.1 (mi2 270).1.2.2.2.2.2.1 calT_X8_init true 0) sdT_X8_init = true := by decide +kernel
def wT_X8_init {ρ : Type} : FN ρ := wT 100000 sdT_X8_init fsT_X8_init (mi2 270).1.2.2.2.2.2.2.2
theorem monT_X8_init {ρ : Type} : MonoF (wT_X8_init : FN ρ) := wT_mono fmT_X8_init
theorem sndT_X8_init {ρ : Type} {l : Launch} : SndF (ρ := ρ) l true (mi2 270).1 wT_X8_init :=
  snd_T (x := mi2 270) okT_X8_init ok_sdT_X8_init (fun q => by first | rfl | cases q) (Or.inl ⟨rfl, rfl, rfl⟩) (by decide +kernel) (fun a ha => by
    obtain ⟨x0, rfl⟩ := len1 (show a.length = 1 from ha)
    exact Nat.le_of_ble_eq_true rfl) foT_X8_init fmT_X8_init
def sdT_X2_init : SD := [(0, [(0, .aload_n 0, 1, [], 0), (1, .invokespecial 3, 3, [0, 0, 0, 0, 541, 4], 0), (4, .aload_n 0, 1, [], 0), (5, .bipush 6, 2, [], 0), (7, .bipush 64, 2, [], 0), (9, .multianewarray 9 2, 4, [542, 247], 0), (13, .putfield 11, 3, [2, 0, 74, 1, 0, 543], 0), (16, .aload_n 0, 1, [], 0), (17, .bipush (-2), 2, [], 0), (19, .putfield 16, 3, [2, 1, 0, 0, 0, 544], 0), (22, .return_, 1, [], 0)])]
def fsT_X2_init : List (FN (Int × Hp)) := []
def calT_X2_init : List Nat := []
theorem foT_X2_init {l : Launch} : fsOK l true mi2 calT_X2_init fsT_X2_init := trivial
theorem fmT_X2_init : ∀ (f : Nat) (fn : FN (Int × Hp)), fsT_X2_init[f]? = some fn → MonoF fn := mono_l (fs := fsT_X2_init) (fun q9 h9 => by cases h9)
theorem okT_X2_init : mokb (mi2 271) = true := by decide +kernel
theorem ok_sdT_X2_init : sdb (mi2 271).1.2.1 (insOK mi2 (mi2 271).1.1.cls (mi2 271).1.2.2.1 (mi2 271).1.2.2.2.2.1 (mi2 271).1.2.2.2.2.2.1 calT_X2_init true 0) sdT_X2_init = true := by decide +kernel
def wT_X2_init {ρ : Type} : FN ρ := wT 100000 sdT_X2_init fsT_X2_init (mi2 271).1.2.2.2.2.2.2.2
theorem monT_X2_init {ρ : Type} : MonoF (wT_X2_init : FN ρ) := wT_mono fmT_X2_init
theorem sndT_X2_init {ρ : Type} {l : Launch} : SndF (ρ := ρ) l true (mi2 271).1 wT_X2_init :=
  snd_T (x := mi2 271) okT_X2_init ok_sdT_X2_init (fun q => by first | rfl | cases q) (Or.inl ⟨rfl, rfl, rfl⟩) (by decide +kernel) (fun a ha => by
    obtain ⟨x0, rfl⟩ := len1 (show a.length = 1 from ha)
    exact Nat.le_of_ble_eq_true rfl) foT_X2_init fmT_X2_init
def sdT_X3_init : SD := [(0, [(0, .aload_n 0, 1, [], 0), (1, .invokespecial 5, 3, [0, 0, 0, 0, 555, 4], 0), (4, .aload_n 0, 1, [], 0), (5, .sipush 793, 3, [], 0), (8, .newarray .int, 2, [0, 247], 0), (10, .putfield 11, 3, [3, 0, 6364, 1, 0, 556], 0), (13, .return_, 1, [], 0)])]
def fsT_X3_init : List (FN (Int × Hp)) := []
def calT_X3_init : List Nat := []
theorem foT_X3_init {l : Launch} : fsOK l true mi2 calT_X3_init fsT_X3_init := trivial
theorem fmT_X3_init : ∀ (f : Nat) (fn : FN (Int × Hp)), fsT_X3_init[f]? = some fn → MonoF fn := mono_l (fs := fsT_X3_init) (fun q9 h9 => by cases h9)
theorem okT_X3_init : mokb (mi2 272) = true := by decide +kernel
theorem ok_sdT_X3_init : sdb (mi2 272).1.2.1 (insOK mi2 (mi2 272).1.1.cls (mi2 272).1.2.2.1 (mi2 272).1.2.2.2.2.1 (mi2 272).1.2.2.2.2.2.1 calT_X3_init true 0) sdT_X3_init = true := by decide +kernel
def wT_X3_init {ρ : Type} : FN ρ := wT 100000 sdT_X3_init fsT_X3_init (mi2 272).1.2.2.2.2.2.2.2
theorem monT_X3_init {ρ : Type} : MonoF (wT_X3_init : FN ρ) := wT_mono fmT_X3_init
theorem sndT_X3_init {ρ : Type} {l : Launch} : SndF (ρ := ρ) l true (mi2 272).1 wT_X3_init :=
  snd_T (x := mi2 272) okT_X3_init ok_sdT_X3_init (fun q => by first | rfl | cases q) (Or.inl ⟨rfl, rfl, rfl⟩) (by decide +kernel) (fun a ha => by
    obtain ⟨x0, rfl⟩ := len1 (show a.length = 1 from ha)
    exact Nat.le_of_ble_eq_true rfl) foT_X3_init fmT_X3_init
def sdT_X9_init : SD := [(0, [(0, .aload_n 0, 1, [], 0), (1, .invokespecial 3, 3, [0, 0, 0, 0, 253, 4], 0), (4, .aload_n 0, 1, [], 0), (5, .sipush 400, 3, [], 0), (8, .newarray .int, 2, [0, 247], 0), (10, .putfield 9, 3, [9, 0, 3220, 1, 0, 254], 0), (13, .return_, 1, [], 0)])]
def fsT_X9_init : List (FN (Int × Hp)) := []
def calT_X9_init : List Nat := []
theorem foT_X9_init {l : Launch} : fsOK l true mi2 calT_X9_init fsT_X9_init := trivial
theorem fmT_X9_init : ∀ (f : Nat) (fn : FN (Int × Hp)), fsT_X9_init[f]? = some fn → MonoF fn := mono_l (fs := fsT_X9_init) (fun q9 h9 => by cases h9)
theorem okT_X9_init : mokb (mi2 273) = true := by decide +kernel
theorem ok_sdT_X9_init : sdb (mi2 273).1.2.1 (insOK mi2 (mi2 273).1.1.cls (mi2 273).1.2.2.1 (mi2 273).1.2.2.2.2.1 (mi2 273).1.2.2.2.2.2.1 calT_X9_init true 0) sdT_X9_init = true := by decide +kernel
def wT_X9_init {ρ : Type} : FN ρ := wT 100000 sdT_X9_init fsT_X9_init (mi2 273).1.2.2.2.2.2.2.2
theorem monT_X9_init {ρ : Type} : MonoF (wT_X9_init : FN ρ) := wT_mono fmT_X9_init
theorem sndT_X9_init {ρ : Type} {l : Launch} : SndF (ρ := ρ) l true (mi2 273).1 wT_X9_init :=
  snd_T (x := mi2 273) okT_X9_init ok_sdT_X9_init (fun q => by first | rfl | cases q) (Or.inl ⟨rfl, rfl, rfl⟩) (by decide +kernel) (fun a ha => by
    obtain ⟨x0, rfl⟩ := len1 (show a.length = 1 from ha)
    exact Nat.le_of_ble_eq_true rfl) foT_X9_init fmT_X9_init
def sdT_X10_clear : SD := [(0, [(0, .iconst 0, 1, [], 0), (1, .istore_n 1, 1, [], 0)]),
  (2, [(2, .iload_n 1, 1, [], 0), (3, .iconst 3, 1, [], 0), (4, .if_icmp .ge 37, 3, [], 0)]),
  (7, [(7, .aload_n 0, 1, [], 0), (8, .getfield 9, 3, [10, 0, 68, 1, 165, 0], 1), (11, .iload_n 1, 1, [], 0), (12, .sipush 2000, 3, [], 0), (15, .iastore, 1, [], 0), (16, .aload_n 0, 1, [], 0), (17, .getfield 9, 3, [10, 0, 68, 1, 165, 0], 1), (20, .iconst 3, 1, [], 0), (21, .iload_n 1, 1, [], 0), (22, .iadd, 1, [], 0), (23, .bipush 100, 2, [], 0), (25, .iastore, 1, [], 0), (26, .aload_n 0, 1, [], 0), (27, .getfield 17, 3, [10, 1, 50, 1, 167, 0], 2), (30, .iload_n 1, 1, [], 0), (31, .aaload, 1, [], 0), (32, .iconst 0, 1, [], 0), (33, .iconst 0, 1, [], 0), (34, .iastore, 1, [], 0), (35, .iinc 1 1, 3, [], 0), (38, .goto (-36), 3, [], 0)]),
  (41, [(41, .aload_n 0, 1, [], 0), (42, .bipush 10, 2, [], 0), (44, .putfield 44, 3, [10, 9, 0, 0, 0, 193], 0), (47, .aload_n 0, 1, [], 0), (48, .bipush 50, 2, [], 0), (50, .putfield 48, 3, [10, 10, 0, 0, 0, 196], 0), (53, .aload_n 0, 1, [], 0), (54, .iconst 0, 1, [], 0), (55, .putfield 51, 3, [10, 11, 0, 0, 0, 202], 0), (58, .aload_n 0, 1, [], 0), (59, .iconst 0, 1, [], 0), (60, .putfield 54, 3, [10, 12, 0, 0, 0, 207], 0), (63, .aload_n 0, 1, [], 0), (64, .iconst 0, 1, [], 0), (65, .putfield 57, 3, [10, 13, 0, 0, 0, 210], 0), (68, .aload_n 0, 1, [], 0), (69, .iconst 0, 1, [], 0), (70, .putfield 60, 3, [10, 14, 0, 0, 0, 213], 0), (73, .return_, 1, [], 0)])]
def fsT_X10_clear : List (FN (Int × Hp)) := []
def calT_X10_clear : List Nat := []
theorem foT_X10_clear {l : Launch} : fsOK l true mi2 calT_X10_clear fsT_X10_clear := trivial
theorem fmT_X10_clear : ∀ (f : Nat) (fn : FN (Int × Hp)), fsT_X10_clear[f]? = some fn → MonoF fn := mono_l (fs := fsT_X10_clear) (fun q9 h9 => by cases h9)
theorem okT_X10_clear : mokb (mi2 7) = true := by decide +kernel
theorem ok_sdT_X10_clear : sdb (mi2 7).1.2.1 (insOK mi2 (mi2 7).1.1.cls (mi2 7).1.2.2.1 (mi2 7).1.2.2.2.2.1 (mi2 7).1.2.2.2.2.2.1 calT_X10_clear false 0) sdT_X10_clear = true := by decide +kernel
def wT_X10_clear {ρ : Type} : FN ρ := wT 100000 sdT_X10_clear fsT_X10_clear (mi2 7).1.2.2.2.2.2.2.2
theorem monT_X10_clear {ρ : Type} : MonoF (wT_X10_clear : FN ρ) := wT_mono fmT_X10_clear
theorem sndT_X10_clear {ρ : Type} {l : Launch} : SndF (ρ := ρ) l true (mi2 7).1 wT_X10_clear :=
  snd_T (x := mi2 7) okT_X10_clear ok_sdT_X10_clear (fun q => by first | rfl | cases q) (Or.inl ⟨rfl, rfl, rfl⟩) (by decide +kernel) (fun a ha => by
    obtain ⟨x0, rfl⟩ := len1 (show a.length = 1 from ha)
    exact Nat.le_of_ble_eq_true rfl) foT_X10_clear fmT_X10_clear
def sdT_X10_init : SD := [(0, [(0, .aload_n 0, 1, [], 0), (1, .invokespecial 3, 3, [0, 0, 0, 0, 158, 4], 0), (4, .aload_n 0, 1, [], 0), (5, .bipush 6, 2, [], 0), (7, .newarray .int, 2, [0, 247], 0), (9, .putfield 9, 3, [10, 0, 68, 1, 0, 165], 0), (12, .aload_n 0, 1, [], 0), (13, .iconst 3, 1, [], 0), (14, .bipush 65, 2, [], 0), (16, .multianewarray 15 2, 4, [159, 247], 0), (20, .putfield 17, 3, [10, 1, 50, 1, 0, 167], 0), (23, .aload_n 0, 1, [], 0), (24, .bipush 64, 2, [], 0), (26, .newarray .int, 2, [0, 247], 0), (28, .putfield 20, 3, [10, 2, 532, 1, 0, 172], 0), (31, .aload_n 0, 1, [], 0), (32, .bipush 64, 2, [], 0), (34, .newarray .int, 2, [0, 247], 0), (36, .putfield 23, 3, [10, 3, 532, 1, 0, 176], 0), (39, .aload_n 0, 1, [], 0), (40, .bipush 64, 2, [], 0), (42, .newarray .int, 2, [0, 247], 0), (44, .putfield 26, 3, [10, 4, 532, 1, 0, 179], 0), (47, .aload_n 0, 1, [], 0), (48, .bipush 64, 2, [], 0), (50, .newarray .int, 2, [0, 247], 0), (52, .putfield 29, 3, [10, 5, 532, 1, 0, 182], 0), (55, .aload_n 0, 1, [], 0), (56, .bipush 64, 2, [], 0), (58, .newarray .int, 2, [0, 247], 0), (60, .putfield 32, 3, [10, 6, 532, 1, 0, 185], 0), (63, .aload_n 0, 1, [], 0), (64, .bipush 64, 2, [], 0), (66, .newarray .int, 2, [0, 247], 0), (68, .putfield 35, 3, [10, 7, 532, 1, 0, 188], 0), (71, .aload_n 0, 1, [], 0), (72, .bipush 64, 2, [], 0), (74, .newarray .int, 2, [0, 247], 0), (76, .putfield 38, 3, [10, 8, 532, 1, 0, 190], 0), (79, .aload_n 0, 1, [], 0), (80, .invokevirtual 41, 3, [0, 0, 1, 7, 161, 14], 0), (83, .return_, 1, [], 0)])]
def fsT_X10_init : List (FN (Int × Hp)) := [wT_X10_clear]
def calT_X10_init : List Nat := [7]
theorem foT_X10_init {l : Launch} : fsOK l true mi2 calT_X10_init fsT_X10_init := ⟨sndT_X10_clear, trivial⟩
theorem fmT_X10_init : ∀ (f : Nat) (fn : FN (Int × Hp)), fsT_X10_init[f]? = some fn → MonoF fn := mono_l (fs := fsT_X10_init) (List.forall_mem_cons.mpr ⟨monT_X10_clear, (fun q9 h9 => by cases h9)⟩)
theorem okT_X10_init : mokb (mi2 274) = true := by decide +kernel
theorem ok_sdT_X10_init : sdb (mi2 274).1.2.1 (insOK mi2 (mi2 274).1.1.cls (mi2 274).1.2.2.1 (mi2 274).1.2.2.2.2.1 (mi2 274).1.2.2.2.2.2.1 calT_X10_init true 0) sdT_X10_init = true := by decide +kernel
def wT_X10_init {ρ : Type} : FN ρ := wT 100000 sdT_X10_init fsT_X10_init (mi2 274).1.2.2.2.2.2.2.2
theorem monT_X10_init {ρ : Type} : MonoF (wT_X10_init : FN ρ) := wT_mono fmT_X10_init
theorem sndT_X10_init {ρ : Type} {l : Launch} : SndF (ρ := ρ) l true (mi2 274).1 wT_X10_init :=
  snd_T (x := mi2 274) okT_X10_init ok_sdT_X10_init (fun q => by first | rfl | cases q) (Or.inl ⟨rfl, rfl, rfl⟩) (by decide +kernel) (fun a ha => by
    obtain ⟨x0, rfl⟩ := len1 (show a.length = 1 from ha)
    exact Nat.le_of_ble_eq_true rfl) foT_X10_init fmT_X10_init
def sdT_X4_init : SD := [(0, [(0, .aload_n 0, 1, [], 0), (1, .invokespecial 3, 3, [0, 0, 0, 0, 429, 4], 0), (4, .aload_n 0, 1, [], 0), (5, .iconst 1, 1, [], 0), (6, .putfield 9, 3, [4, 1, 0, 0, 0, 432], 0), (9, .aload_n 0, 1, [], 0), (10, .bipush 100, 2, [], 0), (12, .putfield 15, 3, [4, 2, 0, 0, 0, 434], 0), (15, .aload_n 0, 1, [], 0), (16, .bipush 12, 2, [], 0), (18, .putfield 18, 3, [4, 3, 0, 0, 0, 435], 0), (21, .aload_n 0, 1, [], 0), (22, .bipush 64, 2, [], 0), (24, .newarray .int, 2, [0, 247], 0), (26, .putfield 21, 3, [4, 4, 532, 1, 0, 438], 0), (29, .aload_n 0, 1, [], 0), (30, .bipush 64, 2, [], 0), (32, .newarray .int, 2, [0, 247], 0), (34, .putfield 25, 3, [4, 5, 532, 1, 0, 441], 0), (37, .aload_n 0, 1, [], 0), (38, .bipush 64, 2, [], 0), (40, .newarray .int, 2, [0, 247], 0), (42, .putfield 28, 3, [4, 6, 532, 1, 0, 443], 0), (45, .aload_n 0, 1, [], 0), (46, .bipush 65, 2, [], 0), (48, .newarray .int, 2, [0, 247], 0), (50, .putfield 31, 3, [4, 7, 540, 1, 0, 446], 0), (53, .aload_n 0, 1, [], 0), (54, .aload_n 1, 1, [], 0), (55, .putfield 34, 3, [4, 0, 14, 0, 0, 430], 0), (58, .return_, 1, [], 0)])]
def fsT_X4_init : List (FN (Int × Hp)) := []
def calT_X4_init : List Nat := []
theorem foT_X4_init {l : Launch} : fsOK l true mi2 calT_X4_init fsT_X4_init := trivial
theorem fmT_X4_init : ∀ (f : Nat) (fn : FN (Int × Hp)), fsT_X4_init[f]? = some fn → MonoF fn := mono_l (fs := fsT_X4_init) (fun q9 h9 => by cases h9)
theorem okT_X4_init : mokb (mi2 275) = true := by decide +kernel
theorem ok_sdT_X4_init : sdb (mi2 275).1.2.1 (insOK mi2 (mi2 275).1.1.cls (mi2 275).1.2.2.1 (mi2 275).1.2.2.2.2.1 (mi2 275).1.2.2.2.2.2.1 calT_X4_init true 0) sdT_X4_init = true := by decide +kernel
def wT_X4_init {ρ : Type} : FN ρ := wT 100000 sdT_X4_init fsT_X4_init (mi2 275).1.2.2.2.2.2.2.2
theorem monT_X4_init {ρ : Type} : MonoF (wT_X4_init : FN ρ) := wT_mono fmT_X4_init
theorem sndT_X4_init {ρ : Type} {l : Launch} : SndF (ρ := ρ) l true (mi2 275).1 wT_X4_init :=
  snd_T (x := mi2 275) okT_X4_init ok_sdT_X4_init (fun q => by first | rfl | cases q) (Or.inl ⟨rfl, rfl, rfl⟩) (by decide +kernel) (fun a ha => by
    obtain ⟨x0, x1, rfl⟩ := len2 (show a.length = 2 from ha)
    exact Nat.le_of_ble_eq_true rfl) foT_X4_init fmT_X4_init
def sdT_X1_init : SD := [(0, [(0, .aload_n 0, 1, [], 0), (1, .invokespecial 5, 3, [0, 0, 0, 0, 423, 4], 0), (4, .aload_n 0, 1, [], 0), (5, .sipush 2525, 3, [], 0), (8, .newarray .int, 2, [0, 247], 0), (10, .putfield 13, 3, [1, 1, 20220, 1, 0, 466], 0), (13, .aload_n 0, 1, [], 0), (14, .bipush 12, 2, [], 0), (16, .putfield 17, 3, [1, 2, 0, 0, 0, 467], 0), (19, .aload_n 0, 1, [], 0), (20, .new 1, 3, [4, 424, 425, 133], 0), (23, .dup, 1, [], 0), (24, .aload_n 1, 1, [], 0), (25, .invokespecial 21, 3, [0, 0, 5, 275, 426, 14, 8], 0), (28, .putfield 24, 3, [1, 0, 8, 1, 0, 464], 0), (31, .return_, 1, [], 0)])]
def fsT_X1_init : List (FN (Int × Hp)) := [wT_X4_init]
def calT_X1_init : List Nat := [275]
theorem foT_X1_init {l : Launch} : fsOK l true mi2 calT_X1_init fsT_X1_init := ⟨sndT_X4_init, trivial⟩
theorem fmT_X1_init : ∀ (f : Nat) (fn : FN (Int × Hp)), fsT_X1_init[f]? = some fn → MonoF fn := mono_l (fs := fsT_X1_init) (List.forall_mem_cons.mpr ⟨monT_X4_init, (fun q9 h9 => by cases h9)⟩)
theorem okT_X1_init : mokb (mi2 276) = true := by decide +kernel
theorem ok_sdT_X1_init : sdb (mi2 276).1.2.1 (insOK mi2 (mi2 276).1.1.cls (mi2 276).1.2.2.1 (mi2 276).1.2.2.2.2.1 (mi2 276).1.2.2.2.2.2.1 calT_X1_init true 0) sdT_X1_init = true := by decide +kernel
def wT_X1_init {ρ : Type} : FN ρ := wT 100000 sdT_X1_init fsT_X1_init (mi2 276).1.2.2.2.2.2.2.2
theorem monT_X1_init {ρ : Type} : MonoF (wT_X1_init : FN ρ) := wT_mono fmT_X1_init
theorem sndT_X1_init {ρ : Type} {l : Launch} : SndF (ρ := ρ) l true (mi2 276).1 wT_X1_init :=
  snd_T (x := mi2 276) okT_X1_init ok_sdT_X1_init (fun q => by first | rfl | cases q) (Or.inl ⟨rfl, rfl, rfl⟩) (by decide +kernel) (fun a ha => by
    obtain ⟨x0, x1, rfl⟩ := len2 (show a.length = 2 from ha)
    exact Nat.le_of_ble_eq_true rfl) foT_X1_init fmT_X1_init
def sdT_X7_init : SD := [(0, [(0, .aload_n 0, 1, [], 0), (1, .invokespecial 3, 3, [0, 0, 0, 0, 359, 4], 0), (4, .aload_n 0, 1, [], 0), (5, .iconst 3, 1, [], 0), (6, .bipush 65, 2, [], 0), (8, .multianewarray 9 2, 4, [360, 247], 0), (12, .putfield 11, 3, [7, 1, 50, 1, 0, 363], 0), (15, .aload_n 0, 1, [], 0), (16, .bipush 65, 2, [], 0), (18, .newarray .int, 2, [0, 247], 0), (20, .putfield 16, 3, [7, 2, 540, 1, 0, 365], 0), (23, .aload_n 0, 1, [], 0), (24, .bipush 65, 2, [], 0), (26, .newarray .int, 2, [0, 247], 0), (28, .putfield 20, 3, [7, 3, 540, 1, 0, 367], 0), (31, .aload_n 0, 1, [], 0), (32, .bipush 64, 2, [], 0), (34, .newarray .int, 2, [0, 247], 0), (36, .putfield 23, 3, [7, 5, 532, 1, 0, 370], 0), (39, .aload_n 0, 1, [], 0), (40, .bipush 64, 2, [], 0), (42, .newarray .int, 2, [0, 247], 0), (44, .putfield 26, 3, [7, 7, 532, 1, 0, 375], 0), (47, .aload_n 0, 1, [], 0), (48, .bipush 64, 2, [], 0), (50, .newarray .int, 2, [0, 247], 0), (52, .putfield 29, 3, [7, 8, 532, 1, 0, 377], 0), (55, .aload_n 0, 1, [], 0), (56, .bipush 64, 2, [], 0), (58, .newarray .int, 2, [0, 247], 0), (60, .putfield 32, 3, [7, 9, 532, 1, 0, 379], 0), (63, .aload_n 0, 1, [], 0), (64, .aload_n 1, 1, [], 0), (65, .putfield 35, 3, [7, 0, 14, 0, 0, 361], 0), (68, .return_, 1, [], 0)])]
def fsT_X7_init : List (FN (Int × Hp)) := []
def calT_X7_init : List Nat := []
theorem foT_X7_init {l : Launch} : fsOK l true mi2 calT_X7_init fsT_X7_init := trivial
theorem fmT_X7_init : ∀ (f : Nat) (fn : FN (Int × Hp)), fsT_X7_init[f]? = some fn → MonoF fn := mono_l (fs := fsT_X7_init) (fun q9 h9 => by cases h9)
theorem okT_X7_init : mokb (mi2 277) = true := by decide +kernel
theorem ok_sdT_X7_init : sdb (mi2 277).1.2.1 (insOK mi2 (mi2 277).1.1.cls (mi2 277).1.2.2.1 (mi2 277).1.2.2.2.2.1 (mi2 277).1.2.2.2.2.2.1 calT_X7_init true 0) sdT_X7_init = true := by decide +kernel
def wT_X7_init {ρ : Type} : FN ρ := wT 100000 sdT_X7_init fsT_X7_init (mi2 277).1.2.2.2.2.2.2.2
theorem monT_X7_init {ρ : Type} : MonoF (wT_X7_init : FN ρ) := wT_mono fmT_X7_init
theorem sndT_X7_init {ρ : Type} {l : Launch} : SndF (ρ := ρ) l true (mi2 277).1 wT_X7_init :=
  snd_T (x := mi2 277) okT_X7_init ok_sdT_X7_init (fun q => by first | rfl | cases q) (Or.inl ⟨rfl, rfl, rfl⟩) (by decide +kernel) (fun a ha => by
    obtain ⟨x0, x1, rfl⟩ := len2 (show a.length = 2 from ha)
    exact Nat.le_of_ble_eq_true rfl) foT_X7_init fmT_X7_init
def sdT_X5_init : SD := [(0, [(0, .aload_n 0, 1, [], 0), (1, .invokespecial 1, 3, [0, 0, 0, 0, 520, 4], 0), (4, .aload_n 0, 1, [], 0), (5, .bipush 20, 2, [], 0), (7, .anewarray 9, 3, [4, 521], 0), (10, .putfield 11, 3, [5, 0, 184, 1, 0, 524], 0), (13, .iconst 0, 1, [], 0), (14, .istore_n 1, 1, [], 0)]),
  (15, [(15, .iload_n 1, 1, [], 0), (16, .bipush 20, 2, [], 0), (18, .if_icmp .ge 22, 3, [], 0)]),
  (21, [(21, .aload_n 0, 1, [], 0), (22, .getfield 11, 3, [5, 0, 184, 1, 524, 0], 1), (25, .iload_n 1, 1, [], 0), (26, .new 9, 3, [8, 521, 476, 134], 0), (29, .dup, 1, [], 0), (30, .invokespecial 15, 3, [0, 0, 6, 270, 523, 12], 0), (33, .aastore, 1, [], 0), (34, .iinc 1 1, 3, [], 0), (37, .goto (-22), 3, [], 0)]),
  (40, [(40, .return_, 1, [], 0)])]
def fsT_X5_init : List (FN (Int × Hp)) := [wT_X8_init]
def calT_X5_init : List Nat := [270]
theorem foT_X5_init {l : Launch} : fsOK l true mi2 calT_X5_init fsT_X5_init := ⟨sndT_X8_init, trivial⟩
theorem fmT_X5_init : ∀ (f : Nat) (fn : FN (Int × Hp)), fsT_X5_init[f]? = some fn → MonoF fn := mono_l (fs := fsT_X5_init) (List.forall_mem_cons.mpr ⟨monT_X8_init, (fun q9 h9 => by cases h9)⟩)
theorem okT_X5_init : mokb (mi2 278) = true := by decide +kernel
theorem ok_sdT_X5_init : sdb (mi2 278).1.2.1 (insOK mi2 (mi2 278).1.1.cls (mi2 278).1.2.2.1 (mi2 278).1.2.2.2.2.1 (mi2 278).1.2.2.2.2.2.1 calT_X5_init true 0) sdT_X5_init = true := by decide +kernel
def wT_X5_init {ρ : Type} : FN ρ := wT 100000 sdT_X5_init fsT_X5_init (mi2 278).1.2.2.2.2.2.2.2
theorem monT_X5_init {ρ : Type} : MonoF (wT_X5_init : FN ρ) := wT_mono fmT_X5_init
theorem sndT_X5_init {ρ : Type} {l : Launch} : SndF (ρ := ρ) l true (mi2 278).1 wT_X5_init :=
  snd_T (x := mi2 278) okT_X5_init ok_sdT_X5_init (fun q => by first | rfl | cases q) (Or.inl ⟨rfl, rfl, rfl⟩) (by decide +kernel) (fun a ha => by
    obtain ⟨x0, rfl⟩ := len1 (show a.length = 1 from ha)
    exact Nat.le_of_ble_eq_true rfl) foT_X5_init fmT_X5_init
def sdT_X6_init : SD := [(0, [(0, .aload_n 0, 1, [], 0), (1, .invokespecial 3, 3, [0, 0, 0, 0, 283, 4], 0), (4, .aload_n 0, 1, [], 0), (5, .new 9, 3, [0, 284, 285, 130], 0), (8, .dup, 1, [], 0), (9, .invokespecial 11, 3, [0, 0, 6, 269, 286, 4], 0), (12, .putfield 12, 3, [6, 1, 4, 1, 0, 308], 0), (15, .aload_n 0, 1, [], 0), (16, .sipush 246, 3, [], 0), (19, .newarray .int, 2, [0, 247], 0), (21, .putfield 18, 3, [6, 2, 1988, 1, 0, 309], 0), (24, .aload_n 0, 1, [], 0), (25, .bipush 8, 2, [], 0), (27, .newarray .int, 2, [0, 247], 0), (29, .putfield 22, 3, [6, 3, 84, 1, 0, 310], 0), (32, .aload_n 0, 1, [], 0), (33, .bipush 8, 2, [], 0), (35, .newarray .int, 2, [0, 247], 0), (37, .putfield 25, 3, [6, 4, 84, 1, 0, 311], 0), (40, .aload_n 0, 1, [], 0), (41, .bipush 8, 2, [], 0), (43, .newarray .int, 2, [0, 247], 0), (45, .putfield 28, 3, [6, 5, 84, 1, 0, 312], 0), (48, .aload_n 0, 1, [], 0), (49, .iconst 3, 1, [], 0), (50, .newarray .boolean, 2, [2, 353], 0), (52, .putfield 31, 3, [6, 6, 46, 1, 0, 313], 0), (55, .aload_n 0, 1, [], 0), (56, .aload_n 1, 1, [], 0), (57, .putfield 35, 3, [6, 0, 13, 1, 0, 307], 0), (60, .aload_n 0, 1, [], 0), (61, .aload_n 2, 1, [], 0), (62, .putfield 39, 3, [6, 7, 14, 0, 0, 314], 0), (65, .return_, 1, [], 0)])]
def fsT_X6_init : List (FN (Int × Hp)) := [wT_X0_init]
def calT_X6_init : List Nat := [269]
theorem foT_X6_init {l : Launch} : fsOK l true mi2 calT_X6_init fsT_X6_init := ⟨sndT_X0_init, trivial⟩
theorem fmT_X6_init : ∀ (f : Nat) (fn : FN (Int × Hp)), fsT_X6_init[f]? = some fn → MonoF fn := mono_l (fs := fsT_X6_init) (List.forall_mem_cons.mpr ⟨monT_X0_init, (fun q9 h9 => by cases h9)⟩)
theorem okT_X6_init : mokb (mi2 279) = true := by decide +kernel
theorem ok_sdT_X6_init : sdb (mi2 279).1.2.1 (insOK mi2 (mi2 279).1.1.cls (mi2 279).1.2.2.1 (mi2 279).1.2.2.2.2.1 (mi2 279).1.2.2.2.2.2.1 calT_X6_init true 0) sdT_X6_init = true := by decide +kernel
def wT_X6_init {ρ : Type} : FN ρ := wT 100000 sdT_X6_init fsT_X6_init (mi2 279).1.2.2.2.2.2.2.2
theorem monT_X6_init {ρ : Type} : MonoF (wT_X6_init : FN ρ) := wT_mono fmT_X6_init
theorem sndT_X6_init {ρ : Type} {l : Launch} : SndF (ρ := ρ) l true (mi2 279).1 wT_X6_init :=
  snd_T (x := mi2 279) okT_X6_init ok_sdT_X6_init (fun q => by first | rfl | cases q) (Or.inl ⟨rfl, rfl, rfl⟩) (by decide +kernel) (fun a ha => by
    obtain ⟨x0, x1, x2, rfl⟩ := len3 (show a.length = 3 from ha)
    exact Nat.le_of_ble_eq_true rfl) foT_X6_init fmT_X6_init
def sdT_X4_settle : SD := [(0, [(0, .aload_n 0, 1, [], 0), (1, .aload_n 1, 1, [], 0), (2, .putfield 34, 3, [4, 0, 14, 0, 0, 430], 0), (5, .aload_n 0, 1, [], 0), (6, .iload_n 3, 1, [], 0), (7, .putfield 9, 3, [4, 1, 0, 0, 0, 432], 0), (10, .aload_n 0, 1, [], 0), (11, .bipush 12, 2, [], 0), (13, .putfield 18, 3, [4, 3, 0, 0, 0, 435], 0), (16, .iconst 0, 1, [], 0), (17, .istore 4, 2, [], 0)]),
  (19, [(19, .iload 4, 2, [], 0), (21, .aload_n 0, 1, [], 0), (22, .getfield 34, 3, [4, 0, 14, 0, 430, 0], 0), (25, .getfield 38, 3, [10, 11, 0, 0, 201, 0], 0), (28, .if_icmp .ge 43, 3, [], 0)]),
  (31, [(31, .aload_n 0, 1, [], 0), (32, .aload_n 0, 1, [], 0), (33, .getfield 18, 3, [4, 3, 0, 0, 435, 0], 0), (36, .iconst 1, 1, [], 0), (37, .aload_n 0, 1, [], 0), (38, .getfield 34, 3, [4, 0, 14, 0, 430, 0], 0), (41, .getfield 43, 3, [10, 6, 532, 1, 186, 0], 10), (44, .iload 4, 2, [], 0), (46, .iaload, 1, [], 0), (47, .i2l, 1, [], 0), (48, .aload_n 0, 1, [], 0), (49, .getfield 9, 3, [4, 1, 0, 0, 432, 0], 0), (52, .i2l, 1, [], 0), (53, .invokestatic 46, 3, [1, 0, 4, 36, 575, 1, 1], 0), (56, .invokestatic 50, 3, [1, 1, 3, 262, 578, 0, 0], 0), (59, .invokestatic 56, 3, [1, 2, 3, 261, 581, 0, 0], 0), (62, .putfield 18, 3, [4, 3, 0, 0, 0, 435], 0), (65, .iinc 4 1, 3, [], 0), (68, .goto (-49), 3, [], 0)]),
  (71, [(71, .iconst 0, 1, [], 0), (72, .istore 4, 2, [], 0)]),
  (74, [(74, .iload 4, 2, [], 0), (76, .iconst 1, 1, [], 0), (77, .iadd, 1, [], 0), (78, .aload_n 0, 1, [], 0), (79, .getfield 34, 3, [4, 0, 14, 0, 430, 0], 0), (82, .getfield 38, 3, [10, 11, 0, 0, 201, 0], 0), (85, .if_icmp .ge 36, 3, [], 0)]),
  (88, [(88, .aload_n 0, 1, [], 0), (89, .getfield 25, 3, [4, 5, 532, 1, 441, 0], 2), (92, .iload 4, 2, [], 0), (94, .aload_n 0, 1, [], 0), (95, .iload 4, 2, [], 0), (97, .iload_n 2, 1, [], 0), (98, .invokevirtual 59, 3, [1, 3, 1, 52, 584, 0, 0, 8], 0), (101, .iastore, 1, [], 0), (102, .aload_n 0, 1, [], 0), (103, .getfield 28, 3, [4, 6, 532, 1, 443, 0], 3), (106, .iload 4, 2, [], 0), (108, .aload_n 0, 1, [], 0), (109, .iload 4, 2, [], 0), (111, .invokevirtual 62, 3, [1, 4, 1, 53, 590, 0, 8], 0), (114, .iastore, 1, [], 0), (115, .iinc 4 1, 3, [], 0), (118, .goto (-44), 3, [], 0)]),
  (121, [(121, .return_, 1, [], 0)])]
def fsT_X4_settle : List (FN (Int × Hp)) := [nofn, nofn, nofn, nofn, nofn]
def calT_X4_settle : List Nat := [36, 262, 261, 52, 53]
theorem foT_X4_settle {l : Launch} : fsOK l true mi2 calT_X4_settle fsT_X4_settle := ⟨snd_no, ⟨snd_no, ⟨snd_no, ⟨snd_no, ⟨snd_no, trivial⟩⟩⟩⟩⟩
theorem fmT_X4_settle : ∀ (f : Nat) (fn : FN (Int × Hp)), fsT_X4_settle[f]? = some fn → MonoF fn := mono_l (fs := fsT_X4_settle) (List.forall_mem_cons.mpr ⟨mono_no, (List.forall_mem_cons.mpr ⟨mono_no, (List.forall_mem_cons.mpr ⟨mono_no, (List.forall_mem_cons.mpr ⟨mono_no, (List.forall_mem_cons.mpr ⟨mono_no, (fun q9 h9 => by cases h9)⟩)⟩)⟩)⟩)⟩)
theorem okT_X4_settle : mokb (mi2 54) = true := by decide +kernel
theorem ok_sdT_X4_settle : sdb (mi2 54).1.2.1 (insOK mi2 (mi2 54).1.1.cls (mi2 54).1.2.2.1 (mi2 54).1.2.2.2.2.1 (mi2 54).1.2.2.2.2.2.1 calT_X4_settle false 0) sdT_X4_settle = true := by decide +kernel
def wT_X4_settle {ρ : Type} : FN ρ := wT 100000 sdT_X4_settle fsT_X4_settle (mi2 54).1.2.2.2.2.2.2.2
theorem monT_X4_settle {ρ : Type} : MonoF (wT_X4_settle : FN ρ) := wT_mono fmT_X4_settle
theorem sndT_X4_settle {ρ : Type} {l : Launch} : SndF (ρ := ρ) l true (mi2 54).1 wT_X4_settle :=
  snd_T (x := mi2 54) okT_X4_settle ok_sdT_X4_settle (fun q => by first | rfl | cases q) (Or.inl ⟨rfl, rfl, rfl⟩) (by decide +kernel) (fun a ha => by
    obtain ⟨x0, x1, x2, x3, rfl⟩ := len4 (show a.length = 4 from ha)
    exact Nat.le_of_ble_eq_true rfl) foT_X4_settle fmT_X4_settle
def sdT_X1_settle : SD := [(0, [(0, .aload_n 0, 1, [], 0), (1, .getfield 24, 3, [1, 0, 8, 1, 464, 0], 2), (4, .aload_n 1, 1, [], 0), (5, .iload_n 2, 1, [], 0), (6, .iload_n 3, 1, [], 0), (7, .invokevirtual 28, 3, [0, 0, 1, 54, 571, 0, 0, 14, 8], 0), (10, .aload_n 0, 1, [], 0), (11, .getfield 24, 3, [1, 0, 8, 1, 464, 0], 2), (14, .getfield 32, 3, [4, 3, 0, 0, 436, 0], 0), (17, .aload_n 0, 1, [], 0), (18, .getfield 17, 3, [1, 2, 0, 0, 467, 0], 0), (21, .if_icmp .eq 41, 3, [], 0)]),
  (24, [(24, .aload_n 0, 1, [], 0), (25, .aload_n 0, 1, [], 0), (26, .getfield 24, 3, [1, 0, 8, 1, 464, 0], 2), (29, .getfield 32, 3, [4, 3, 0, 0, 436, 0], 0), (32, .putfield 17, 3, [1, 2, 0, 0, 0, 467], 0), (35, .iconst 0, 1, [], 0), (36, .istore 4, 2, [], 0)]),
  (38, [(38, .iload 4, 2, [], 0), (40, .aload_n 0, 1, [], 0), (41, .getfield 13, 3, [1, 1, 20220, 1, 466, 0], 1), (44, .arraylength, 1, [], 0), (45, .if_icmp .ge 17, 3, [], 0)]),
  (48, [(48, .aload_n 0, 1, [], 0), (49, .getfield 13, 3, [1, 1, 20220, 1, 466, 0], 1), (52, .iload 4, 2, [], 0), (54, .iconst 0, 1, [], 0), (55, .iastore, 1, [], 0), (56, .iinc 4 1, 3, [], 0), (59, .goto (-21), 3, [], 0)]),
  (62, [(62, .return_, 1, [], 0)])]
def fsT_X1_settle : List (FN (Int × Hp)) := [wT_X4_settle]
def calT_X1_settle : List Nat := [54]
theorem foT_X1_settle {l : Launch} : fsOK l true mi2 calT_X1_settle fsT_X1_settle := ⟨sndT_X4_settle, trivial⟩
theorem fmT_X1_settle : ∀ (f : Nat) (fn : FN (Int × Hp)), fsT_X1_settle[f]? = some fn → MonoF fn := mono_l (fs := fsT_X1_settle) (List.forall_mem_cons.mpr ⟨monT_X4_settle, (fun q9 h9 => by cases h9)⟩)
theorem okT_X1_settle : mokb (mi2 55) = true := by decide +kernel
theorem ok_sdT_X1_settle : sdb (mi2 55).1.2.1 (insOK mi2 (mi2 55).1.1.cls (mi2 55).1.2.2.1 (mi2 55).1.2.2.2.2.1 (mi2 55).1.2.2.2.2.2.1 calT_X1_settle false 0) sdT_X1_settle = true := by decide +kernel
def wT_X1_settle {ρ : Type} : FN ρ := wT 100000 sdT_X1_settle fsT_X1_settle (mi2 55).1.2.2.2.2.2.2.2
theorem monT_X1_settle {ρ : Type} : MonoF (wT_X1_settle : FN ρ) := wT_mono fmT_X1_settle
theorem sndT_X1_settle {ρ : Type} {l : Launch} : SndF (ρ := ρ) l true (mi2 55).1 wT_X1_settle :=
  snd_T (x := mi2 55) okT_X1_settle ok_sdT_X1_settle (fun q => by first | rfl | cases q) (Or.inl ⟨rfl, rfl, rfl⟩) (by decide +kernel) (fun a ha => by
    obtain ⟨x0, x1, x2, x3, rfl⟩ := len4 (show a.length = 4 from ha)
    exact Nat.le_of_ble_eq_true rfl) foT_X1_settle fmT_X1_settle
def sdT_X4_grant : SD := [(0, [(0, .aload_n 0, 1, [], 0), (1, .iload_n 1, 1, [], 0), (2, .putfield 15, 3, [4, 2, 0, 0, 0, 434], 0), (5, .iconst 0, 1, [], 0), (6, .istore_n 2, 1, [], 0), (7, .iconst 0, 1, [], 0), (8, .istore_n 3, 1, [], 0)]),
  (9, [(9, .iload_n 3, 1, [], 0), (10, .aload_n 0, 1, [], 0), (11, .getfield 34, 3, [4, 0, 14, 0, 430, 0], 0), (14, .getfield 38, 3, [10, 11, 0, 0, 201, 0], 0), (17, .if_icmp .ge 51, 3, [], 0)]),
  (20, [(20, .iconst 1, 1, [], 0), (21, .aload_n 0, 1, [], 0), (22, .iload_n 3, 1, [], 0), (23, .invokevirtual 86, 3, [1, 0, 1, 57, 609, 0, 8], 0), (26, .bipush 100, 2, [], 0), (28, .invokestatic 82, 3, [1, 1, 4, 21, 598, 0, 0, 0], 0), (31, .istore 4, 2, [], 0), (33, .iload_n 2, 1, [], 0), (34, .ifCond .ne 14, 3, [], 0)]),
  (37, [(37, .iload 4, 2, [], 0), (39, .aload_n 0, 1, [], 0), (40, .getfield 21, 3, [4, 4, 532, 1, 438, 0], 1), (43, .iload_n 3, 1, [], 0), (44, .iaload, 1, [], 0), (45, .if_icmp .eq 7, 3, [], 0)]),
  (48, [(48, .iconst 1, 1, [], 0), (49, .goto 4, 3, [], 0)]),
  (52, [(52, .iconst 0, 1, [], 0)]),
  (53, [(53, .istore_n 2, 1, [], 0), (54, .aload_n 0, 1, [], 0), (55, .getfield 21, 3, [4, 4, 532, 1, 438, 0], 1), (58, .iload_n 3, 1, [], 0), (59, .iload 4, 2, [], 0), (61, .iastore, 1, [], 0), (62, .iinc 3 1, 3, [], 0), (65, .goto (-56), 3, [], 0)]),
  (68, [(68, .iload_n 2, 1, [], 0), (69, .ireturn, 1, [1], 0)])]
def fsT_X4_grant : List (FN (Int × Hp)) := [nofn, nofn]
def calT_X4_grant : List Nat := [57, 21]
theorem foT_X4_grant {l : Launch} : fsOK l true mi2 calT_X4_grant fsT_X4_grant := ⟨snd_no, ⟨snd_no, trivial⟩⟩
theorem fmT_X4_grant : ∀ (f : Nat) (fn : FN (Int × Hp)), fsT_X4_grant[f]? = some fn → MonoF fn := mono_l (fs := fsT_X4_grant) (List.forall_mem_cons.mpr ⟨mono_no, (List.forall_mem_cons.mpr ⟨mono_no, (fun q9 h9 => by cases h9)⟩)⟩)
theorem okT_X4_grant : mokb (mi2 58) = true := by decide +kernel
theorem ok_sdT_X4_grant : sdb (mi2 58).1.2.1 (insOK mi2 (mi2 58).1.1.cls (mi2 58).1.2.2.1 (mi2 58).1.2.2.2.2.1 (mi2 58).1.2.2.2.2.2.1 calT_X4_grant false 4) sdT_X4_grant = true := by decide +kernel
def wT_X4_grant {ρ : Type} : FN ρ := wT 100000 sdT_X4_grant fsT_X4_grant (mi2 58).1.2.2.2.2.2.2.2
theorem monT_X4_grant {ρ : Type} : MonoF (wT_X4_grant : FN ρ) := wT_mono fmT_X4_grant
theorem sndT_X4_grant {ρ : Type} {l : Launch} : SndF (ρ := ρ) l true (mi2 58).1 wT_X4_grant :=
  snd_T (x := mi2 58) okT_X4_grant ok_sdT_X4_grant (fun q => by first | rfl | cases q) (Or.inr (Or.inr (Or.inl ⟨rfl, rfl, rfl⟩))) (by decide +kernel) (fun a ha => by
    obtain ⟨x0, x1, rfl⟩ := len2 (show a.length = 2 from ha)
    exact Nat.le_of_ble_eq_true rfl) foT_X4_grant fmT_X4_grant
def sdT_X1_grant : SD := [(0, [(0, .aload_n 0, 1, [], 0), (1, .getfield 24, 3, [1, 0, 8, 1, 464, 0], 2), (4, .iload_n 1, 1, [], 0), (5, .invokevirtual 35, 3, [1, 0, 1, 58, 605, 0, 8], 0), (8, .ireturn, 1, [1], 0)])]
def fsT_X1_grant : List (FN (Int × Hp)) := [wT_X4_grant]
def calT_X1_grant : List Nat := [58]
theorem foT_X1_grant {l : Launch} : fsOK l true mi2 calT_X1_grant fsT_X1_grant := ⟨sndT_X4_grant, trivial⟩
theorem fmT_X1_grant : ∀ (f : Nat) (fn : FN (Int × Hp)), fsT_X1_grant[f]? = some fn → MonoF fn := mono_l (fs := fsT_X1_grant) (List.forall_mem_cons.mpr ⟨monT_X4_grant, (fun q9 h9 => by cases h9)⟩)
theorem okT_X1_grant : mokb (mi2 59) = true := by decide +kernel
theorem ok_sdT_X1_grant : sdb (mi2 59).1.2.1 (insOK mi2 (mi2 59).1.1.cls (mi2 59).1.2.2.1 (mi2 59).1.2.2.2.2.1 (mi2 59).1.2.2.2.2.2.1 calT_X1_grant false 4) sdT_X1_grant = true := by decide +kernel
def wT_X1_grant {ρ : Type} : FN ρ := wT 100000 sdT_X1_grant fsT_X1_grant (mi2 59).1.2.2.2.2.2.2.2
theorem monT_X1_grant {ρ : Type} : MonoF (wT_X1_grant : FN ρ) := wT_mono fmT_X1_grant
theorem sndT_X1_grant {ρ : Type} {l : Launch} : SndF (ρ := ρ) l true (mi2 59).1 wT_X1_grant :=
  snd_T (x := mi2 59) okT_X1_grant ok_sdT_X1_grant (fun q => by first | rfl | cases q) (Or.inr (Or.inr (Or.inl ⟨rfl, rfl, rfl⟩))) (by decide +kernel) (fun a ha => by
    obtain ⟨x0, x1, rfl⟩ := len2 (show a.length = 2 from ha)
    exact Nat.le_of_ble_eq_true rfl) foT_X1_grant fmT_X1_grant
def sdT_X7_findSpots : SD := [(0, [(0, .aload_n 0, 1, [], 0), (1, .iconst 0, 1, [], 0), (2, .putfield 51, 3, [7, 4, 0, 0, 0, 368], 0), (5, .aload_n 0, 1, [], 0), (6, .getfield 35, 3, [7, 0, 14, 0, 361, 0], 0), (9, .getfield 55, 3, [10, 11, 0, 0, 203, 0], 0), (12, .ifCond .ne 4, 3, [], 0)]),
  (15, [(15, .return_, 1, [], 0)]),
  (16, [(16, .iconst 0, 1, [], 0), (17, .istore_n 1, 1, [], 0)]),
  (18, [(18, .iload_n 1, 1, [], 0), (19, .aload_n 0, 1, [], 0), (20, .getfield 35, 3, [7, 0, 14, 0, 361, 0], 0), (23, .getfield 55, 3, [10, 11, 0, 0, 203, 0], 0), (26, .if_icmp .gt 136, 3, [], 0)]),
  (29, [(29, .aload_n 0, 1, [], 0), (30, .getfield 35, 3, [7, 0, 14, 0, 361, 0], 0), (33, .getfield 60, 3, [10, 1, 50, 1, 169, 0], 2), (36, .iconst 0, 1, [], 0), (37, .aaload, 1, [], 0), (38, .iload_n 1, 1, [], 0), (39, .iaload, 1, [], 0), (40, .istore_n 2, 1, [], 0), (41, .aload_n 0, 1, [], 0), (42, .getfield 35, 3, [7, 0, 14, 0, 361, 0], 0), (45, .getfield 60, 3, [10, 1, 50, 1, 169, 0], 2), (48, .iconst 1, 1, [], 0), (49, .aaload, 1, [], 0), (50, .iload_n 1, 1, [], 0), (51, .iaload, 1, [], 0), (52, .istore_n 3, 1, [], 0), (53, .aload_n 0, 1, [], 0), (54, .getfield 35, 3, [7, 0, 14, 0, 361, 0], 0), (57, .getfield 60, 3, [10, 1, 50, 1, 169, 0], 2), (60, .iconst 2, 1, [], 0), (61, .aaload, 1, [], 0), (62, .iload_n 1, 1, [], 0), (63, .iaload, 1, [], 0), (64, .istore 4, 2, [], 0), (66, .aload_n 0, 1, [], 0), (67, .iload_n 2, 1, [], 0), (68, .iload_n 3, 1, [], 0), (69, .iload 4, 2, [], 0), (71, .invokevirtual 63, 3, [1, 0, 1, 60, 625, 0, 0, 0, 11], 0), (74, .istore 5, 2, [], 0), (76, .iload 5, 2, [], 0), (78, .iconst (-1), 1, [], 0), (79, .if_icmp .ne 58, 3, [], 0)]),
  (82, [(82, .aload_n 0, 1, [], 0), (83, .getfield 51, 3, [7, 4, 0, 0, 368, 0], 0), (86, .istore 5, 2, [], 0), (88, .aload_n 0, 1, [], 0), (89, .getfield 11, 3, [7, 1, 50, 1, 363, 0], 1), (92, .iconst 0, 1, [], 0), (93, .aaload, 1, [], 0), (94, .iload 5, 2, [], 0), (96, .iload_n 2, 1, [], 0), (97, .iastore, 1, [], 0), (98, .aload_n 0, 1, [], 0), (99, .getfield 11, 3, [7, 1, 50, 1, 363, 0], 1), (102, .iconst 1, 1, [], 0), (103, .aaload, 1, [], 0), (104, .iload 5, 2, [], 0), (106, .iload_n 3, 1, [], 0), (107, .iastore, 1, [], 0), (108, .aload_n 0, 1, [], 0), (109, .getfield 11, 3, [7, 1, 50, 1, 363, 0], 1), (112, .iconst 2, 1, [], 0), (113, .aaload, 1, [], 0), (114, .iload 5, 2, [], 0), (116, .iload 4, 2, [], 0), (118, .iastore, 1, [], 0), (119, .aload_n 0, 1, [], 0), (120, .getfield 16, 3, [7, 2, 540, 1, 365, 0], 5), (123, .iload 5, 2, [], 0), (125, .iconst 0, 1, [], 0), (126, .iastore, 1, [], 0), (127, .aload_n 0, 1, [], 0), (128, .dup, 1, [], 0), (129, .getfield 51, 3, [7, 4, 0, 0, 368, 0], 0), (132, .iconst 1, 1, [], 0), (133, .iadd, 1, [], 0), (134, .putfield 51, 3, [7, 4, 0, 0, 0, 368], 0)]),
  (137, [(137, .aload_n 0, 1, [], 0), (138, .getfield 16, 3, [7, 2, 540, 1, 365, 0], 5), (141, .iload 5, 2, [], 0), (143, .dup2, 1, [], 0), (144, .iaload, 1, [], 0), (145, .iconst 1, 1, [], 0), (146, .iadd, 1, [], 0), (147, .iastore, 1, [], 0), (148, .aload_n 0, 1, [], 0), (149, .getfield 20, 3, [7, 3, 540, 1, 367, 0], 6), (152, .iload_n 1, 1, [], 0), (153, .iload 5, 2, [], 0), (155, .iastore, 1, [], 0), (156, .iinc 1 1, 3, [], 0), (159, .goto (-141), 3, [], 0)]),
  (162, [(162, .return_, 1, [], 0)])]
def fsT_X7_findSpots : List (FN (Int × Hp)) := [nofn]
def calT_X7_findSpots : List Nat := [60]
theorem foT_X7_findSpots {l : Launch} : fsOK l true mi2 calT_X7_findSpots fsT_X7_findSpots := ⟨snd_no, trivial⟩
theorem fmT_X7_findSpots : ∀ (f : Nat) (fn : FN (Int × Hp)), fsT_X7_findSpots[f]? = some fn → MonoF fn := mono_l (fs := fsT_X7_findSpots) (List.forall_mem_cons.mpr ⟨mono_no, (fun q9 h9 => by cases h9)⟩)
theorem okT_X7_findSpots : mokb (mi2 61) = true := by decide +kernel
theorem ok_sdT_X7_findSpots : sdb (mi2 61).1.2.1 (insOK mi2 (mi2 61).1.1.cls (mi2 61).1.2.2.1 (mi2 61).1.2.2.2.2.1 (mi2 61).1.2.2.2.2.2.1 calT_X7_findSpots false 0) sdT_X7_findSpots = true := by decide +kernel
def wT_X7_findSpots {ρ : Type} : FN ρ := wT 100000 sdT_X7_findSpots fsT_X7_findSpots (mi2 61).1.2.2.2.2.2.2.2
theorem monT_X7_findSpots {ρ : Type} : MonoF (wT_X7_findSpots : FN ρ) := wT_mono fmT_X7_findSpots
theorem sndT_X7_findSpots {ρ : Type} {l : Launch} : SndF (ρ := ρ) l true (mi2 61).1 wT_X7_findSpots :=
  snd_T (x := mi2 61) okT_X7_findSpots ok_sdT_X7_findSpots (fun q => by first | rfl | cases q) (Or.inl ⟨rfl, rfl, rfl⟩) (by decide +kernel) (fun a ha => by
    obtain ⟨x0, rfl⟩ := len1 (show a.length = 1 from ha)
    exact Nat.le_of_ble_eq_true rfl) foT_X7_findSpots fmT_X7_findSpots
def sdT_X7_findFirsts : SD := [(0, [(0, .aload_n 0, 1, [], 0), (1, .iconst 0, 1, [], 0), (2, .putfield 67, 3, [7, 6, 0, 0, 0, 373], 0), (5, .iconst 0, 1, [], 0), (6, .istore_n 1, 1, [], 0)]),
  (7, [(7, .iload_n 1, 1, [], 0), (8, .aload_n 0, 1, [], 0), (9, .getfield 35, 3, [7, 0, 14, 0, 361, 0], 0), (12, .getfield 55, 3, [10, 11, 0, 0, 203, 0], 0), (15, .if_icmp .ge 65, 3, [], 0)]),
  (18, [(18, .aload_n 0, 1, [], 0), (19, .getfield 23, 3, [7, 5, 532, 1, 370, 0], 7), (22, .iload_n 1, 1, [], 0), (23, .iload_n 1, 1, [], 0), (24, .iastore, 1, [], 0), (25, .iconst 0, 1, [], 0), (26, .istore_n 2, 1, [], 0)]),
  (27, [(27, .iload_n 2, 1, [], 0), (28, .iload_n 1, 1, [], 0), (29, .if_icmp .ge 45, 3, [], 0)]),
  (32, [(32, .aload_n 0, 1, [], 0), (33, .getfield 23, 3, [7, 5, 532, 1, 370, 0], 7), (36, .iload_n 1, 1, [], 0), (37, .iaload, 1, [], 0), (38, .iload_n 1, 1, [], 0), (39, .if_icmp .ne 35, 3, [], 0)]),
  (42, [(42, .aload_n 0, 1, [], 0), (43, .iload_n 2, 1, [], 0), (44, .iload_n 1, 1, [], 0), (45, .invokevirtual 70, 3, [1, 0, 1, 62, 633, 0, 0, 11], 0), (48, .ifCond .eq 20, 3, [], 0)]),
  (51, [(51, .aload_n 0, 1, [], 0), (52, .getfield 23, 3, [7, 5, 532, 1, 370, 0], 7), (55, .iload_n 1, 1, [], 0), (56, .iload_n 2, 1, [], 0), (57, .iastore, 1, [], 0), (58, .aload_n 0, 1, [], 0), (59, .dup, 1, [], 0), (60, .getfield 67, 3, [7, 6, 0, 0, 373, 0], 0), (63, .iconst 1, 1, [], 0), (64, .iadd, 1, [], 0), (65, .putfield 67, 3, [7, 6, 0, 0, 0, 373], 0)]),
  (68, [(68, .iinc 2 1, 3, [], 0), (71, .goto (-44), 3, [], 0)]),
  (74, [(74, .iinc 1 1, 3, [], 0), (77, .goto (-70), 3, [], 0)]),
  (80, [(80, .return_, 1, [], 0)])]
def fsT_X7_findFirsts : List (FN (Int × Hp)) := [nofn]
def calT_X7_findFirsts : List Nat := [62]
theorem foT_X7_findFirsts {l : Launch} : fsOK l true mi2 calT_X7_findFirsts fsT_X7_findFirsts := ⟨snd_no, trivial⟩
theorem fmT_X7_findFirsts : ∀ (f : Nat) (fn : FN (Int × Hp)), fsT_X7_findFirsts[f]? = some fn → MonoF fn := mono_l (fs := fsT_X7_findFirsts) (List.forall_mem_cons.mpr ⟨mono_no, (fun q9 h9 => by cases h9)⟩)
theorem okT_X7_findFirsts : mokb (mi2 63) = true := by decide +kernel
theorem ok_sdT_X7_findFirsts : sdb (mi2 63).1.2.1 (insOK mi2 (mi2 63).1.1.cls (mi2 63).1.2.2.1 (mi2 63).1.2.2.2.2.1 (mi2 63).1.2.2.2.2.2.1 calT_X7_findFirsts false 0) sdT_X7_findFirsts = true := by decide +kernel
def wT_X7_findFirsts {ρ : Type} : FN ρ := wT 100000 sdT_X7_findFirsts fsT_X7_findFirsts (mi2 63).1.2.2.2.2.2.2.2
theorem monT_X7_findFirsts {ρ : Type} : MonoF (wT_X7_findFirsts : FN ρ) := wT_mono fmT_X7_findFirsts
theorem sndT_X7_findFirsts {ρ : Type} {l : Launch} : SndF (ρ := ρ) l true (mi2 63).1 wT_X7_findFirsts :=
  snd_T (x := mi2 63) okT_X7_findFirsts ok_sdT_X7_findFirsts (fun q => by first | rfl | cases q) (Or.inl ⟨rfl, rfl, rfl⟩) (by decide +kernel) (fun a ha => by
    obtain ⟨x0, rfl⟩ := len1 (show a.length = 1 from ha)
    exact Nat.le_of_ble_eq_true rfl) foT_X7_findFirsts fmT_X7_findFirsts
def sdT_X7_findLayers : SD := [(0, [(0, .aload_n 0, 1, [], 0), (1, .iconst 0, 1, [], 0), (2, .putfield 74, 3, [7, 10, 0, 0, 0, 381], 0), (5, .iconst 0, 1, [], 0), (6, .istore_n 1, 1, [], 0)]),
  (7, [(7, .iload_n 1, 1, [], 0), (8, .aload_n 0, 1, [], 0), (9, .getfield 35, 3, [7, 0, 14, 0, 361, 0], 0), (12, .getfield 55, 3, [10, 11, 0, 0, 203, 0], 0), (15, .if_icmp .ge 65, 3, [], 0)]),
  (18, [(18, .aload_n 0, 1, [], 0), (19, .getfield 35, 3, [7, 0, 14, 0, 361, 0], 0), (22, .iload_n 1, 1, [], 0), (23, .iconst 2, 1, [], 0), (24, .invokevirtual 77, 3, [1, 0, 1, 44, 641, 0, 0, 14], 0), (27, .ifCond .ne 47, 3, [], 0)]),
  (30, [(30, .aload_n 0, 1, [], 0), (31, .aload_n 0, 1, [], 0), (32, .getfield 35, 3, [7, 0, 14, 0, 361, 0], 0), (35, .getfield 60, 3, [10, 1, 50, 1, 169, 0], 2), (38, .iconst 2, 1, [], 0), (39, .aaload, 1, [], 0), (40, .iload_n 1, 1, [], 0), (41, .iaload, 1, [], 0), (42, .invokevirtual 81, 3, [1, 1, 1, 64, 652, 0, 11], 0), (45, .istore_n 2, 1, [], 0), (46, .aload_n 0, 1, [], 0), (47, .getfield 29, 3, [7, 8, 532, 1, 377, 0], 9), (50, .iload_n 2, 1, [], 0), (51, .dup2, 1, [], 0), (52, .iaload, 1, [], 0), (53, .iconst 1, 1, [], 0), (54, .iadd, 1, [], 0), (55, .iastore, 1, [], 0), (56, .aload_n 0, 1, [], 0), (57, .getfield 32, 3, [7, 9, 532, 1, 379, 0], 10), (60, .iload_n 2, 1, [], 0), (61, .dup2, 1, [], 0), (62, .iaload, 1, [], 0), (63, .aload_n 0, 1, [], 0), (64, .getfield 35, 3, [7, 0, 14, 0, 361, 0], 0), (67, .getfield 85, 3, [10, 2, 532, 1, 175, 0], 6), (70, .iload_n 1, 1, [], 0), (71, .iaload, 1, [], 0), (72, .iadd, 1, [], 0), (73, .iastore, 1, [], 0)]),
  (74, [(74, .iinc 1 1, 3, [], 0), (77, .goto (-70), 3, [], 0)]),
  (80, [(80, .return_, 1, [], 0)])]
def fsT_X7_findLayers : List (FN (Int × Hp)) := [nofn, nofn]
def calT_X7_findLayers : List Nat := [44, 64]
theorem foT_X7_findLayers {l : Launch} : fsOK l true mi2 calT_X7_findLayers fsT_X7_findLayers := ⟨snd_no, ⟨snd_no, trivial⟩⟩
theorem fmT_X7_findLayers : ∀ (f : Nat) (fn : FN (Int × Hp)), fsT_X7_findLayers[f]? = some fn → MonoF fn := mono_l (fs := fsT_X7_findLayers) (List.forall_mem_cons.mpr ⟨mono_no, (List.forall_mem_cons.mpr ⟨mono_no, (fun q9 h9 => by cases h9)⟩)⟩)
theorem okT_X7_findLayers : mokb (mi2 65) = true := by decide +kernel
theorem ok_sdT_X7_findLayers : sdb (mi2 65).1.2.1 (insOK mi2 (mi2 65).1.1.cls (mi2 65).1.2.2.1 (mi2 65).1.2.2.2.2.1 (mi2 65).1.2.2.2.2.2.1 calT_X7_findLayers false 0) sdT_X7_findLayers = true := by decide +kernel
def wT_X7_findLayers {ρ : Type} : FN ρ := wT 100000 sdT_X7_findLayers fsT_X7_findLayers (mi2 65).1.2.2.2.2.2.2.2
theorem monT_X7_findLayers {ρ : Type} : MonoF (wT_X7_findLayers : FN ρ) := wT_mono fmT_X7_findLayers
theorem sndT_X7_findLayers {ρ : Type} {l : Launch} : SndF (ρ := ρ) l true (mi2 65).1 wT_X7_findLayers :=
  snd_T (x := mi2 65) okT_X7_findLayers ok_sdT_X7_findLayers (fun q => by first | rfl | cases q) (Or.inl ⟨rfl, rfl, rfl⟩) (by decide +kernel) (fun a ha => by
    obtain ⟨x0, rfl⟩ := len1 (show a.length = 1 from ha)
    exact Nat.le_of_ble_eq_true rfl) foT_X7_findLayers fmT_X7_findLayers
def sdT_X7_findMeetings : SD := [(0, [(0, .aload_n 0, 1, [], 0), (1, .iconst 0, 1, [], 0), (2, .putfield 93, 3, [7, 11, 0, 0, 0, 383], 0), (5, .aload_n 0, 1, [], 0), (6, .bipush (-2), 2, [], 0), (8, .putfield 96, 3, [7, 12, 0, 0, 0, 385], 0), (11, .aload_n 0, 1, [], 0), (12, .bipush (-2), 2, [], 0), (14, .putfield 99, 3, [7, 13, 0, 0, 0, 387], 0), (17, .iconst 0, 1, [], 0), (18, .istore_n 1, 1, [], 0)]),
  (19, [(19, .iload_n 1, 1, [], 0), (20, .aload_n 0, 1, [], 0), (21, .getfield 35, 3, [7, 0, 14, 0, 361, 0], 0), (24, .getfield 55, 3, [10, 11, 0, 0, 203, 0], 0), (27, .if_icmp .ge 96, 3, [], 0)]),
  (30, [(30, .iload_n 1, 1, [], 0), (31, .iconst 2, 1, [], 0), (32, .iadd, 1, [], 0), (33, .istore_n 2, 1, [], 0)]),
  (34, [(34, .iload_n 2, 1, [], 0), (35, .aload_n 0, 1, [], 0), (36, .getfield 35, 3, [7, 0, 14, 0, 361, 0], 0), (39, .getfield 55, 3, [10, 11, 0, 0, 203, 0], 0), (42, .if_icmp .ge 75, 3, [], 0)]),
  (45, [(45, .aload_n 0, 1, [], 0), (46, .iload_n 1, 1, [], 0), (47, .iload_n 2, 1, [], 0), (48, .invokevirtual 102, 3, [1, 0, 1, 66, 661, 0, 0, 11], 0), (51, .ifCond .eq 60, 3, [], 0)]),
  (54, [(54, .aload_n 0, 1, [], 0), (55, .iload_n 1, 1, [], 0), (56, .iload_n 2, 1, [], 0), (57, .invokevirtual 105, 3, [1, 1, 1, 69, 665, 0, 0, 11], 0), (60, .ifCond .eq 51, 3, [], 0)]),
  (63, [(63, .aload_n 0, 1, [], 0), (64, .aload_n 0, 1, [], 0), (65, .getfield 93, 3, [7, 11, 0, 0, 383, 0], 0), (68, .ifCond .ne 7, 3, [], 0)]),
  (71, [(71, .iload_n 1, 1, [], 0), (72, .goto 7, 3, [], 0)]),
  (75, [(75, .aload_n 0, 1, [], 0), (76, .getfield 96, 3, [7, 12, 0, 0, 385, 0], 0)]),
  (79, [(79, .putfield 96, 3, [7, 12, 0, 0, 0, 385], 0), (82, .aload_n 0, 1, [], 0), (83, .aload_n 0, 1, [], 0), (84, .getfield 93, 3, [7, 11, 0, 0, 383, 0], 0), (87, .ifCond .ne 7, 3, [], 0)]),
  (90, [(90, .iload_n 2, 1, [], 0), (91, .goto 7, 3, [], 0)]),
  (94, [(94, .aload_n 0, 1, [], 0), (95, .getfield 99, 3, [7, 13, 0, 0, 387, 0], 0)]),
  (98, [(98, .putfield 99, 3, [7, 13, 0, 0, 0, 387], 0), (101, .aload_n 0, 1, [], 0), (102, .dup, 1, [], 0), (103, .getfield 93, 3, [7, 11, 0, 0, 383, 0], 0), (106, .iconst 1, 1, [], 0), (107, .iadd, 1, [], 0), (108, .putfield 93, 3, [7, 11, 0, 0, 0, 383], 0)]),
  (111, [(111, .iinc 2 1, 3, [], 0), (114, .goto (-80), 3, [], 0)]),
  (117, [(117, .iinc 1 1, 3, [], 0), (120, .goto (-101), 3, [], 0)]),
  (123, [(123, .return_, 1, [], 0)])]
def fsT_X7_findMeetings : List (FN (Int × Hp)) := [nofn, nofn]
def calT_X7_findMeetings : List Nat := [66, 69]
theorem foT_X7_findMeetings {l : Launch} : fsOK l true mi2 calT_X7_findMeetings fsT_X7_findMeetings := ⟨snd_no, ⟨snd_no, trivial⟩⟩
theorem fmT_X7_findMeetings : ∀ (f : Nat) (fn : FN (Int × Hp)), fsT_X7_findMeetings[f]? = some fn → MonoF fn := mono_l (fs := fsT_X7_findMeetings) (List.forall_mem_cons.mpr ⟨mono_no, (List.forall_mem_cons.mpr ⟨mono_no, (fun q9 h9 => by cases h9)⟩)⟩)
theorem okT_X7_findMeetings : mokb (mi2 70) = true := by decide +kernel
theorem ok_sdT_X7_findMeetings : sdb (mi2 70).1.2.1 (insOK mi2 (mi2 70).1.1.cls (mi2 70).1.2.2.1 (mi2 70).1.2.2.2.2.1 (mi2 70).1.2.2.2.2.2.1 calT_X7_findMeetings false 0) sdT_X7_findMeetings = true := by decide +kernel
def wT_X7_findMeetings {ρ : Type} : FN ρ := wT 100000 sdT_X7_findMeetings fsT_X7_findMeetings (mi2 70).1.2.2.2.2.2.2.2
theorem monT_X7_findMeetings {ρ : Type} : MonoF (wT_X7_findMeetings : FN ρ) := wT_mono fmT_X7_findMeetings
theorem sndT_X7_findMeetings {ρ : Type} {l : Launch} : SndF (ρ := ρ) l true (mi2 70).1 wT_X7_findMeetings :=
  snd_T (x := mi2 70) okT_X7_findMeetings ok_sdT_X7_findMeetings (fun q => by first | rfl | cases q) (Or.inl ⟨rfl, rfl, rfl⟩) (by decide +kernel) (fun a ha => by
    obtain ⟨x0, rfl⟩ := len1 (show a.length = 1 from ha)
    exact Nat.le_of_ble_eq_true rfl) foT_X7_findMeetings fmT_X7_findMeetings
def sdT_X7_look : SD := [(0, [(0, .aload_n 0, 1, [], 0), (1, .aload_n 1, 1, [], 0), (2, .putfield 35, 3, [7, 0, 14, 0, 0, 361], 0), (5, .aload_n 0, 1, [], 0), (6, .invokevirtual 39, 3, [0, 0, 1, 61, 621, 11], 0), (9, .aload_n 0, 1, [], 0), (10, .invokevirtual 42, 3, [0, 1, 1, 63, 629, 11], 0), (13, .aload_n 0, 1, [], 0), (14, .invokevirtual 45, 3, [0, 2, 1, 65, 637, 11], 0), (17, .aload_n 0, 1, [], 0), (18, .invokevirtual 48, 3, [0, 3, 1, 70, 657, 11], 0), (21, .return_, 1, [], 0)])]
def fsT_X7_look : List (FN (Int × Hp)) := [wT_X7_findSpots, wT_X7_findFirsts, wT_X7_findLayers, wT_X7_findMeetings]
def calT_X7_look : List Nat := [61, 63, 65, 70]
theorem foT_X7_look {l : Launch} : fsOK l true mi2 calT_X7_look fsT_X7_look := ⟨sndT_X7_findSpots, ⟨sndT_X7_findFirsts, ⟨sndT_X7_findLayers, ⟨sndT_X7_findMeetings, trivial⟩⟩⟩⟩
theorem fmT_X7_look : ∀ (f : Nat) (fn : FN (Int × Hp)), fsT_X7_look[f]? = some fn → MonoF fn := mono_l (fs := fsT_X7_look) (List.forall_mem_cons.mpr ⟨monT_X7_findSpots, (List.forall_mem_cons.mpr ⟨monT_X7_findFirsts, (List.forall_mem_cons.mpr ⟨monT_X7_findLayers, (List.forall_mem_cons.mpr ⟨monT_X7_findMeetings, (fun q9 h9 => by cases h9)⟩)⟩)⟩)⟩)
theorem okT_X7_look : mokb (mi2 71) = true := by decide +kernel
theorem ok_sdT_X7_look : sdb (mi2 71).1.2.1 (insOK mi2 (mi2 71).1.1.cls (mi2 71).1.2.2.1 (mi2 71).1.2.2.2.2.1 (mi2 71).1.2.2.2.2.2.1 calT_X7_look false 0) sdT_X7_look = true := by decide +kernel
def wT_X7_look {ρ : Type} : FN ρ := wT 100000 sdT_X7_look fsT_X7_look (mi2 71).1.2.2.2.2.2.2.2
theorem monT_X7_look {ρ : Type} : MonoF (wT_X7_look : FN ρ) := wT_mono fmT_X7_look
theorem sndT_X7_look {ρ : Type} {l : Launch} : SndF (ρ := ρ) l true (mi2 71).1 wT_X7_look :=
  snd_T (x := mi2 71) okT_X7_look ok_sdT_X7_look (fun q => by first | rfl | cases q) (Or.inl ⟨rfl, rfl, rfl⟩) (by decide +kernel) (fun a ha => by
    obtain ⟨x0, x1, rfl⟩ := len2 (show a.length = 2 from ha)
    exact Nat.le_of_ble_eq_true rfl) foT_X7_look fmT_X7_look
def sdT_X10_blockOf : SD := [(0, [(0, .iconst 0, 1, [], 0), (1, .istore_n 2, 1, [], 0)]),
  (2, [(2, .iload_n 2, 1, [], 0), (3, .aload_n 0, 1, [], 0), (4, .getfield 51, 3, [10, 11, 0, 0, 202, 0], 0), (7, .if_icmp .ge 21, 3, [], 0)]),
  (10, [(10, .aload_n 0, 1, [], 0), (11, .getfield 23, 3, [10, 3, 532, 1, 176, 0], 7), (14, .iload_n 2, 1, [], 0), (15, .iaload, 1, [], 0), (16, .iload_n 1, 1, [], 0), (17, .if_icmp .le 5, 3, [], 0)]),
  (20, [(20, .iload_n 2, 1, [], 0), (21, .ireturn, 1, [], 0)]),
  (22, [(22, .iinc 2 1, 3, [], 0), (25, .goto (-23), 3, [], 0)]),
  (28, [(28, .aload_n 0, 1, [], 0), (29, .getfield 51, 3, [10, 11, 0, 0, 202, 0], 0), (32, .iconst 1, 1, [], 0), (33, .isub, 1, [], 0), (34, .ireturn, 1, [], 0)])]
def fsT_X10_blockOf : List (FN (Int × Hp)) := []
def calT_X10_blockOf : List Nat := []
theorem foT_X10_blockOf {l : Launch} : fsOK l true mi2 calT_X10_blockOf fsT_X10_blockOf := trivial
theorem fmT_X10_blockOf : ∀ (f : Nat) (fn : FN (Int × Hp)), fsT_X10_blockOf[f]? = some fn → MonoF fn := mono_l (fs := fsT_X10_blockOf) (fun q9 h9 => by cases h9)
theorem okT_X10_blockOf : mokb (mi2 72) = true := by decide +kernel
theorem ok_sdT_X10_blockOf : sdb (mi2 72).1.2.1 (insOK mi2 (mi2 72).1.1.cls (mi2 72).1.2.2.1 (mi2 72).1.2.2.2.2.1 (mi2 72).1.2.2.2.2.2.1 calT_X10_blockOf false 1) sdT_X10_blockOf = true := by decide +kernel
def wT_X10_blockOf {ρ : Type} : FN ρ := wT 100000 sdT_X10_blockOf fsT_X10_blockOf (mi2 72).1.2.2.2.2.2.2.2
theorem monT_X10_blockOf {ρ : Type} : MonoF (wT_X10_blockOf : FN ρ) := wT_mono fmT_X10_blockOf
theorem sndT_X10_blockOf {ρ : Type} {l : Launch} : SndF (ρ := ρ) l true (mi2 72).1 wT_X10_blockOf :=
  snd_T (x := mi2 72) okT_X10_blockOf ok_sdT_X10_blockOf (fun q => by first | rfl | cases q) (Or.inr (Or.inl ⟨rfl, rfl, rfl⟩)) (by decide +kernel) (fun a ha => by
    obtain ⟨x0, x1, rfl⟩ := len2 (show a.length = 2 from ha)
    exact Nat.le_of_ble_eq_true rfl) foT_X10_blockOf fmT_X10_blockOf
def sdT_X8_begin : SD := [(0, [(0, .aload_n 0, 1, [], 0), (1, .iconst 0, 1, [], 0), (2, .putfield 18, 3, [8, 0, 0, 0, 0, 481], 0), (5, .aload_n 0, 1, [], 0), (6, .iconst 0, 1, [], 0), (7, .putfield 21, 3, [8, 1, 0, 0, 0, 484], 0), (10, .aload_n 0, 1, [], 0), (11, .iconst 0, 1, [], 0), (12, .putfield 24, 3, [8, 2, 0, 0, 0, 487], 0), (15, .aload_n 0, 1, [], 0), (16, .aload_n 1, 1, [], 0), (17, .iconst 0, 1, [], 0), (18, .invokevirtual 27, 3, [1, 0, 1, 72, 682, 0, 14], 0), (21, .putfield 9, 3, [8, 3, 0, 0, 0, 490], 0), (24, .aload_n 0, 1, [], 0), (25, .iload_n 2, 1, [], 0), (26, .putfield 15, 3, [8, 4, 0, 0, 0, 493], 0), (29, .aload_n 0, 1, [], 0), (30, .iconst 0, 1, [], 0), (31, .putfield 33, 3, [8, 5, 0, 0, 1, 495], 0), (34, .return_, 1, [], 0)])]
def fsT_X8_begin : List (FN (Int × Hp)) := [wT_X10_blockOf]
def calT_X8_begin : List Nat := [72]
theorem foT_X8_begin {l : Launch} : fsOK l true mi2 calT_X8_begin fsT_X8_begin := ⟨sndT_X10_blockOf, trivial⟩
theorem fmT_X8_begin : ∀ (f : Nat) (fn : FN (Int × Hp)), fsT_X8_begin[f]? = some fn → MonoF fn := mono_l (fs := fsT_X8_begin) (List.forall_mem_cons.mpr ⟨monT_X10_blockOf, (fun q9 h9 => by cases h9)⟩)
theorem okT_X8_begin : mokb (mi2 73) = true := by decide +kernel
theorem ok_sdT_X8_begin : sdb (mi2 73).1.2.1 (insOK mi2 (mi2 73).1.1.cls (mi2 73).1.2.2.1 (mi2 73).1.2.2.2.2.1 (mi2 73).1.2.2.2.2.2.1 calT_X8_begin false 0) sdT_X8_begin = true := by decide +kernel
def wT_X8_begin {ρ : Type} : FN ρ := wT 100000 sdT_X8_begin fsT_X8_begin (mi2 73).1.2.2.2.2.2.2.2
theorem monT_X8_begin {ρ : Type} : MonoF (wT_X8_begin : FN ρ) := wT_mono fmT_X8_begin
theorem sndT_X8_begin {ρ : Type} {l : Launch} : SndF (ρ := ρ) l true (mi2 73).1 wT_X8_begin :=
  snd_T (x := mi2 73) okT_X8_begin ok_sdT_X8_begin (fun q => by first | rfl | cases q) (Or.inl ⟨rfl, rfl, rfl⟩) (by decide +kernel) (fun a ha => by
    obtain ⟨x0, x1, x2, rfl⟩ := len3 (show a.length = 3 from ha)
    exact Nat.le_of_ble_eq_true rfl) foT_X8_begin fmT_X8_begin
def sdT_X5_forget : SD := [(0, [(0, .aload_n 0, 1, [], 0), (1, .iconst 0, 1, [], 0), (2, .putfield 24, 3, [5, 2, 0, 0, 0, 526], 0), (5, .return_, 1, [], 0)])]
def fsT_X5_forget : List (FN (Int × Hp)) := []
def calT_X5_forget : List Nat := []
theorem foT_X5_forget {l : Launch} : fsOK l true mi2 calT_X5_forget fsT_X5_forget := trivial
theorem fmT_X5_forget : ∀ (f : Nat) (fn : FN (Int × Hp)), fsT_X5_forget[f]? = some fn → MonoF fn := mono_l (fs := fsT_X5_forget) (fun q9 h9 => by cases h9)
theorem okT_X5_forget : mokb (mi2 74) = true := by decide +kernel
theorem ok_sdT_X5_forget : sdb (mi2 74).1.2.1 (insOK mi2 (mi2 74).1.1.cls (mi2 74).1.2.2.1 (mi2 74).1.2.2.2.2.1 (mi2 74).1.2.2.2.2.2.1 calT_X5_forget false 0) sdT_X5_forget = true := by decide +kernel
def wT_X5_forget {ρ : Type} : FN ρ := wT 100000 sdT_X5_forget fsT_X5_forget (mi2 74).1.2.2.2.2.2.2.2
theorem monT_X5_forget {ρ : Type} : MonoF (wT_X5_forget : FN ρ) := wT_mono fmT_X5_forget
theorem sndT_X5_forget {ρ : Type} {l : Launch} : SndF (ρ := ρ) l true (mi2 74).1 wT_X5_forget :=
  snd_T (x := mi2 74) okT_X5_forget ok_sdT_X5_forget (fun q => by first | rfl | cases q) (Or.inl ⟨rfl, rfl, rfl⟩) (by decide +kernel) (fun a ha => by
    obtain ⟨x0, rfl⟩ := len1 (show a.length = 1 from ha)
    exact Nat.le_of_ble_eq_true rfl) foT_X5_forget fmT_X5_forget
def sdT_X11_startAnew : SD := [(0, [(0, .aload_n 0, 1, [], 0), (1, .getfield 47, 3, [11, 5, 5, 1, 695, 0], 50), (4, .aload_n 0, 1, [], 0), (5, .getfield 10, 3, [11, 2, 14, 0, 692, 0], 0), (8, .aload_n 0, 1, [], 0), (9, .getfield 10, 3, [11, 2, 14, 0, 692, 0], 0), (12, .getfield 115, 3, [10, 10, 0, 0, 198, 0], 0), (15, .aload_n 0, 1, [], 0), (16, .getfield 10, 3, [11, 2, 14, 0, 692, 0], 0), (19, .getfield 118, 3, [10, 9, 0, 0, 194, 0], 0), (22, .invokevirtual 121, 3, [0, 0, 1, 55, 567, 0, 0, 14, 5], 0), (25, .aload_n 0, 1, [], 0), (26, .getfield 47, 3, [11, 5, 5, 1, 695, 0], 50), (29, .bipush 100, 2, [], 0), (31, .invokevirtual 125, 3, [1, 1, 1, 59, 601, 0, 5], 0), (34, .pop, 1, [], 0), (35, .aload_n 0, 1, [], 0), (36, .getfield 40, 3, [11, 4, 11, 1, 694, 0], 39), (39, .aload_n 0, 1, [], 0), (40, .getfield 10, 3, [11, 2, 14, 0, 692, 0], 0), (43, .invokevirtual 129, 3, [0, 2, 1, 71, 617, 14, 11], 0), (46, .aload_n 0, 1, [], 0), (47, .getfield 57, 3, [11, 7, 12, 1, 697, 0], 64), (50, .aload_n 0, 1, [], 0), (51, .getfield 10, 3, [11, 2, 14, 0, 692, 0], 0), (54, .bipush 100, 2, [], 0), (56, .invokevirtual 132, 3, [0, 3, 1, 73, 678, 0, 14, 12], 0), (59, .aload_n 0, 1, [], 0), (60, .getfield 57, 3, [11, 7, 12, 1, 697, 0], 64), (63, .iconst 0, 1, [], 0), (64, .putfield 136, 3, [8, 6, 0, 0, 0, 499], 0), (67, .aload_n 0, 1, [], 0), (68, .getfield 67, 3, [11, 9, 9, 1, 699, 0], 66), (71, .invokevirtual 139, 3, [0, 4, 1, 74, 686, 9], 0), (74, .iconst 0, 1, [], 0), (75, .istore_n 1, 1, [], 0)]),
  (76, [(76, .iload_n 1, 1, [], 0), (77, .iconst 3, 1, [], 0), (78, .if_icmp .ge 16, 3, [], 0)]),
  (81, [(81, .aload_n 0, 1, [], 0), (82, .getfield 75, 3, [11, 11, 46, 1, 701, 0], 92), (85, .iload_n 1, 1, [], 0), (86, .iconst 0, 1, [], 0), (87, .bastore, 1, [], 0), (88, .iinc 1 1, 3, [], 0), (91, .goto (-15), 3, [], 0)]),
  (94, [(94, .return_, 1, [], 0)])]
def fsT_X11_startAnew : List (FN (Int × Hp)) := [wT_X1_settle, wT_X1_grant, wT_X7_look, wT_X8_begin, wT_X5_forget]
def calT_X11_startAnew : List Nat := [55, 59, 71, 73, 74]
theorem foT_X11_startAnew {l : Launch} : fsOK l true mi2 calT_X11_startAnew fsT_X11_startAnew := ⟨sndT_X1_settle, ⟨sndT_X1_grant, ⟨sndT_X7_look, ⟨sndT_X8_begin, ⟨sndT_X5_forget, trivial⟩⟩⟩⟩⟩
theorem fmT_X11_startAnew : ∀ (f : Nat) (fn : FN (Int × Hp)), fsT_X11_startAnew[f]? = some fn → MonoF fn := mono_l (fs := fsT_X11_startAnew) (List.forall_mem_cons.mpr ⟨monT_X1_settle, (List.forall_mem_cons.mpr ⟨monT_X1_grant, (List.forall_mem_cons.mpr ⟨monT_X7_look, (List.forall_mem_cons.mpr ⟨monT_X8_begin, (List.forall_mem_cons.mpr ⟨monT_X5_forget, (fun q9 h9 => by cases h9)⟩)⟩)⟩)⟩)⟩)
theorem okT_X11_startAnew : mokb (mi2 75) = true := by decide +kernel
theorem ok_sdT_X11_startAnew : sdb (mi2 75).1.2.1 (insOK mi2 (mi2 75).1.1.cls (mi2 75).1.2.2.1 (mi2 75).1.2.2.2.2.1 (mi2 75).1.2.2.2.2.2.1 calT_X11_startAnew false 0) sdT_X11_startAnew = true := by decide +kernel
def wT_X11_startAnew {ρ : Type} : FN ρ := wT 100000 sdT_X11_startAnew fsT_X11_startAnew (mi2 75).1.2.2.2.2.2.2.2
theorem monT_X11_startAnew {ρ : Type} : MonoF (wT_X11_startAnew : FN ρ) := wT_mono fmT_X11_startAnew
theorem sndT_X11_startAnew {ρ : Type} {l : Launch} : SndF (ρ := ρ) l true (mi2 75).1 wT_X11_startAnew :=
  snd_T (x := mi2 75) okT_X11_startAnew ok_sdT_X11_startAnew (fun q => by first | rfl | cases q) (Or.inl ⟨rfl, rfl, rfl⟩) (by decide +kernel) (fun a ha => by
    obtain ⟨x0, rfl⟩ := len1 (show a.length = 1 from ha)
    exact Nat.le_of_ble_eq_true rfl) foT_X11_startAnew fmT_X11_startAnew
def sdT_X11_init : SD := [(0, [(0, .aload_n 0, 1, [], 0), (1, .invokespecial 1, 3, [0, 0, 0, 0, 150, 4], 0), (4, .aload_n 0, 1, [], 0), (5, .new 7, 3, [10, 153, 154, 127], 0), (8, .dup, 1, [], 0), (9, .invokespecial 9, 3, [0, 0, 5, 274, 155, 14], 0), (12, .putfield 10, 3, [11, 2, 14, 0, 0, 692], 0), (15, .aload_n 0, 1, [], 0), (16, .new 7, 3, [10, 153, 154, 127], 0), (19, .dup, 1, [], 0), (20, .invokespecial 9, 3, [0, 0, 5, 274, 155, 14], 0), (23, .putfield 16, 3, [11, 3, 14, 0, 0, 693], 0), (26, .aload_n 0, 1, [], 0), (27, .new 19, 3, [9, 248, 249, 128], 0), (30, .dup, 1, [], 0), (31, .invokespecial 21, 3, [0, 1, 6, 273, 250, 13], 0), (34, .putfield 22, 3, [11, 0, 13, 1, 0, 690], 0), (37, .aload_n 0, 1, [], 0), (38, .new 26, 3, [6, 278, 279, 129], 0), (41, .dup, 1, [], 0), (42, .aload_n 0, 1, [], 0), (43, .getfield 22, 3, [11, 0, 13, 1, 690, 0], 27), (46, .aload_n 0, 1, [], 0), (47, .getfield 16, 3, [11, 3, 14, 0, 693, 0], 0), (50, .invokespecial 28, 3, [0, 2, 5, 279, 280, 14, 13, 10], 0), (53, .putfield 31, 3, [11, 1, 10, 1, 0, 691], 0), (56, .aload_n 0, 1, [], 0), (57, .new 35, 3, [7, 354, 355, 131], 0), (60, .dup, 1, [], 0), (61, .aload_n 0, 1, [], 0), (62, .getfield 10, 3, [11, 2, 14, 0, 692, 0], 0), (65, .invokespecial 37, 3, [0, 3, 5, 277, 356, 14, 11], 0), (68, .putfield 40, 3, [11, 4, 11, 1, 0, 694], 0), (71, .aload_n 0, 1, [], 0), (72, .new 44, 3, [1, 418, 419, 132], 0), (75, .dup, 1, [], 0), (76, .aload_n 0, 1, [], 0), (77, .getfield 10, 3, [11, 2, 14, 0, 692, 0], 0), (80, .invokespecial 46, 3, [0, 4, 5, 276, 420, 14, 5], 0), (83, .putfield 47, 3, [11, 5, 5, 1, 0, 695], 0), (86, .aload_n 0, 1, [], 0), (87, .new 44, 3, [1, 418, 419, 132], 0), (90, .dup, 1, [], 0), (91, .aload_n 0, 1, [], 0), (92, .getfield 10, 3, [11, 2, 14, 0, 692, 0], 0), (95, .invokespecial 46, 3, [0, 4, 5, 276, 420, 14, 5], 0), (98, .putfield 51, 3, [11, 6, 5, 1, 0, 696], 0), (101, .aload_n 0, 1, [], 0), (102, .new 54, 3, [8, 475, 476, 134], 0), (105, .dup, 1, [], 0), (106, .invokespecial 56, 3, [0, 5, 6, 270, 477, 12], 0), (109, .putfield 57, 3, [11, 7, 12, 1, 0, 697], 0), (112, .aload_n 0, 1, [], 0), (113, .new 54, 3, [8, 475, 476, 134], 0), (116, .dup, 1, [], 0), (117, .invokespecial 56, 3, [0, 5, 6, 270, 477, 12], 0), (120, .putfield 61, 3, [11, 8, 12, 1, 0, 698], 0), (123, .aload_n 0, 1, [], 0), (124, .new 64, 3, [5, 515, 516, 135], 0), (127, .dup, 1, [], 0), (128, .invokespecial 66, 3, [0, 6, 5, 278, 517, 9], 0), (131, .putfield 67, 3, [11, 9, 9, 1, 0, 699], 0), (134, .aload_n 0, 1, [], 0), (135, .iconst 3, 1, [], 0), (136, .anewarray 54, 3, [4, 475], 0), (139, .putfield 71, 3, [11, 10, 48, 1, 0, 700], 0), (142, .iconst 0, 1, [], 0), (143, .istore_n 1, 1, [], 0)]),
  (144, [(144, .iload_n 1, 1, [], 0), (145, .iconst 3, 1, [], 0), (146, .if_icmp .ge 22, 3, [], 0)]),
  (149, [(149, .aload_n 0, 1, [], 0), (150, .getfield 71, 3, [11, 10, 48, 1, 700, 0], 88), (153, .iload_n 1, 1, [], 0), (154, .new 54, 3, [8, 475, 476, 134], 0), (157, .dup, 1, [], 0), (158, .invokespecial 56, 3, [0, 5, 6, 270, 477, 12], 0), (161, .aastore, 1, [], 0), (162, .iinc 1 1, 3, [], 0), (165, .goto (-21), 3, [], 0)]),
  (168, [(168, .aload_n 0, 1, [], 0), (169, .iconst 3, 1, [], 0), (170, .newarray .boolean, 2, [2, 353], 0), (172, .putfield 75, 3, [11, 11, 46, 1, 0, 701], 0), (175, .aload_n 0, 1, [], 0), (176, .iconst 2, 1, [], 0), (177, .anewarray 79, 3, [5, 535], 0), (180, .putfield 81, 3, [11, 12, 41, 1, 0, 702], 0), (183, .iconst 0, 1, [], 0), (184, .istore_n 1, 1, [], 0)]),
  (185, [(185, .iload_n 1, 1, [], 0), (186, .iconst 2, 1, [], 0), (187, .if_icmp .ge 22, 3, [], 0)]),
  (190, [(190, .aload_n 0, 1, [], 0), (191, .getfield 81, 3, [11, 12, 41, 1, 702, 0], 93), (194, .iload_n 1, 1, [], 0), (195, .new 79, 3, [2, 535, 537, 136], 0), (198, .dup, 1, [], 0), (199, .invokespecial 85, 3, [0, 7, 6, 271, 538, 6], 0), (202, .aastore, 1, [], 0), (203, .iinc 1 1, 3, [], 0), (206, .goto (-21), 3, [], 0)]),
  (209, [(209, .aload_n 0, 1, [], 0), (210, .new 86, 3, [3, 550, 551, 137], 0), (213, .dup, 1, [], 0), (214, .invokespecial 88, 3, [0, 8, 6, 272, 552, 7], 0), (217, .putfield 89, 3, [11, 13, 7, 1, 0, 703], 0), (220, .aload_n 0, 1, [], 0), (221, .iconst 5, 1, [], 0), (222, .newarray .int, 2, [0, 247], 0), (224, .putfield 93, 3, [11, 14, 60, 1, 0, 704], 0), (227, .aload_n 0, 1, [], 0), (228, .invokevirtual 97, 3, [0, 9, 1, 75, 563, 15], 0), (231, .return_, 1, [], 0)])]
def fsT_X11_init : List (FN (Int × Hp)) := [wT_X10_init, wT_X9_init, wT_X6_init, wT_X7_init, wT_X1_init, wT_X8_init, wT_X5_init, wT_X2_init, wT_X3_init, wT_X11_startAnew]
def calT_X11_init : List Nat := [274, 273, 279, 277, 276, 270, 278, 271, 272, 75]
theorem foT_X11_init {l : Launch} : fsOK l true mi2 calT_X11_init fsT_X11_init := ⟨sndT_X10_init, ⟨sndT_X9_init, ⟨sndT_X6_init, ⟨sndT_X7_init, ⟨sndT_X1_init, ⟨sndT_X8_init, ⟨sndT_X5_init, ⟨sndT_X2_init, ⟨sndT_X3_init, ⟨sndT_X11_startAnew, trivial⟩⟩⟩⟩⟩⟩⟩⟩⟩⟩
theorem fmT_X11_init : ∀ (f : Nat) (fn : FN (Int × Hp)), fsT_X11_init[f]? = some fn → MonoF fn := mono_l (fs := fsT_X11_init) (List.forall_mem_cons.mpr ⟨monT_X10_init, (List.forall_mem_cons.mpr ⟨monT_X9_init, (List.forall_mem_cons.mpr ⟨monT_X6_init, (List.forall_mem_cons.mpr ⟨monT_X7_init, (List.forall_mem_cons.mpr ⟨monT_X1_init, (List.forall_mem_cons.mpr ⟨monT_X8_init, (List.forall_mem_cons.mpr ⟨monT_X5_init, (List.forall_mem_cons.mpr ⟨monT_X2_init, (List.forall_mem_cons.mpr ⟨monT_X3_init, (List.forall_mem_cons.mpr ⟨monT_X11_startAnew, (fun q9 h9 => by cases h9)⟩)⟩)⟩)⟩)⟩)⟩)⟩)⟩)⟩)⟩)
theorem okT_X11_init : mokb (mi2 280) = true := by decide +kernel
theorem ok_sdT_X11_init : sdb (mi2 280).1.2.1 (insOK mi2 (mi2 280).1.1.cls (mi2 280).1.2.2.1 (mi2 280).1.2.2.2.2.1 (mi2 280).1.2.2.2.2.2.1 calT_X11_init true 0) sdT_X11_init = true := by decide +kernel
def wT_X11_init {ρ : Type} : FN ρ := wT 100000 sdT_X11_init fsT_X11_init (mi2 280).1.2.2.2.2.2.2.2
theorem monT_X11_init {ρ : Type} : MonoF (wT_X11_init : FN ρ) := wT_mono fmT_X11_init
theorem sndT_X11_init {ρ : Type} {l : Launch} : SndF (ρ := ρ) l true (mi2 280).1 wT_X11_init :=
  snd_T (x := mi2 280) okT_X11_init ok_sdT_X11_init (fun q => by first | rfl | cases q) (Or.inl ⟨rfl, rfl, rfl⟩) (by decide +kernel) (fun a ha => by
    obtain ⟨x0, rfl⟩ := len1 (show a.length = 1 from ha)
    exact Nat.le_of_ble_eq_true rfl) foT_X11_init fmT_X11_init
def sdT_X12_laysSettings : SD := [(0, [(0, .iconst 0, 1, [], 0), (1, .istore_n 1, 1, [], 0)]),
  (2, [(2, .iload_n 1, 1, [], 0), (3, .iconst 3, 1, [], 0), (4, .if_icmp .ge 28, 3, [], 0)]),
  (7, [(7, .aload_n 0, 1, [], 0), (8, .getfield 11, 3, [12, 0, 84, 1, 1322, 0], 1), (11, .iload_n 1, 1, [], 0), (12, .sipush 2000, 3, [], 0), (15, .iastore, 1, [], 0), (16, .aload_n 0, 1, [], 0), (17, .getfield 11, 3, [12, 0, 84, 1, 1322, 0], 1), (20, .iconst 3, 1, [], 0), (21, .iload_n 1, 1, [], 0), (22, .iadd, 1, [], 0), (23, .bipush 100, 2, [], 0), (25, .iastore, 1, [], 0), (26, .iinc 1 1, 3, [], 0), (29, .goto (-27), 3, [], 0)]),
  (32, [(32, .aload_n 0, 1, [], 0), (33, .getfield 11, 3, [12, 0, 84, 1, 1322, 0], 1), (36, .bipush 6, 2, [], 0), (38, .bipush 10, 2, [], 0), (40, .iastore, 1, [], 0), (41, .aload_n 0, 1, [], 0), (42, .getfield 11, 3, [12, 0, 84, 1, 1322, 0], 1), (45, .bipush 7, 2, [], 0), (47, .bipush 50, 2, [], 0), (49, .iastore, 1, [], 0), (50, .aload_n 0, 1, [], 0), (51, .iconst 0, 1, [], 0), (52, .putfield 127, 3, [12, 2, 0, 0, 0, 1324], 0), (55, .aload_n 0, 1, [], 0), (56, .iconst 0, 1, [], 0), (57, .putfield 131, 3, [12, 3, 0, 0, 0, 1325], 0), (60, .aload_n 0, 1, [], 0), (61, .iconst 0, 1, [], 0), (62, .putfield 134, 3, [12, 4, 0, 0, 0, 1326], 0), (65, .iconst 0, 1, [], 0), (66, .istore_n 1, 1, [], 0)]),
  (67, [(67, .iload_n 1, 1, [], 0), (68, .iconst 3, 1, [], 0), (69, .if_icmp .ge 23, 3, [], 0)]),
  (72, [(72, .aload_n 0, 1, [], 0), (73, .getfield 28, 3, [12, 11, 1580, 1, 1333, 0], 6), (76, .iload_n 1, 1, [], 0), (77, .iconst 0, 1, [], 0), (78, .iastore, 1, [], 0), (79, .aload_n 0, 1, [], 0), (80, .getfield 56, 3, [12, 25, 44, 1, 1347, 0], 15), (83, .iload_n 1, 1, [], 0), (84, .iconst 0, 1, [], 0), (85, .iastore, 1, [], 0), (86, .iinc 1 1, 3, [], 0), (89, .goto (-22), 3, [], 0)]),
  (92, [(92, .return_, 1, [], 0)])]
def fsT_X12_laysSettings : List (FN (Int × Hp)) := []
def calT_X12_laysSettings : List Nat := []
theorem foT_X12_laysSettings {l : Launch} : fsOK l true mi2 calT_X12_laysSettings fsT_X12_laysSettings := trivial
theorem fmT_X12_laysSettings : ∀ (f : Nat) (fn : FN (Int × Hp)), fsT_X12_laysSettings[f]? = some fn → MonoF fn := mono_l (fs := fsT_X12_laysSettings) (fun q9 h9 => by cases h9)
theorem okT_X12_laysSettings : mokb (mi2 77) = true := by decide +kernel
theorem ok_sdT_X12_laysSettings : sdb (mi2 77).1.2.1 (insOK mi2 (mi2 77).1.1.cls (mi2 77).1.2.2.1 (mi2 77).1.2.2.2.2.1 (mi2 77).1.2.2.2.2.2.1 calT_X12_laysSettings false 0) sdT_X12_laysSettings = true := by decide +kernel
def wT_X12_laysSettings {ρ : Type} : FN ρ := wT 100000 sdT_X12_laysSettings fsT_X12_laysSettings (mi2 77).1.2.2.2.2.2.2.2
theorem monT_X12_laysSettings {ρ : Type} : MonoF (wT_X12_laysSettings : FN ρ) := wT_mono fmT_X12_laysSettings
theorem sndT_X12_laysSettings {ρ : Type} {l : Launch} : SndF (ρ := ρ) l true (mi2 77).1 wT_X12_laysSettings :=
  snd_T (x := mi2 77) okT_X12_laysSettings ok_sdT_X12_laysSettings (fun q => by first | rfl | cases q) (Or.inl ⟨rfl, rfl, rfl⟩) (by decide +kernel) (fun a ha => by
    obtain ⟨x0, rfl⟩ := len1 (show a.length = 1 from ha)
    exact Nat.le_of_ble_eq_true rfl) foT_X12_laysSettings fmT_X12_laysSettings
def sdT_X12_copiesProgram : SD := [(0, [(0, .iconst 0, 1, [], 0), (1, .istore_n 1, 1, [], 0)]),
  (2, [(2, .iload_n 1, 1, [], 0), (3, .bipush 8, 2, [], 0), (5, .if_icmp .ge 21, 3, [], 0)]),
  (8, [(8, .aload_n 0, 1, [], 0), (9, .getfield 15, 3, [12, 1, 84, 1, 1323, 0], 2), (12, .iload_n 1, 1, [], 0), (13, .aload_n 0, 1, [], 0), (14, .getfield 11, 3, [12, 0, 84, 1, 1322, 0], 1), (17, .iload_n 1, 1, [], 0), (18, .iaload, 1, [], 0), (19, .iastore, 1, [], 0), (20, .iinc 1 1, 3, [], 0), (23, .goto (-21), 3, [], 0)]),
  (26, [(26, .aload_n 0, 1, [], 0), (27, .aload_n 0, 1, [], 0), (28, .getfield 127, 3, [12, 2, 0, 0, 1324, 0], 0), (31, .putfield 137, 3, [12, 5, 0, 0, 0, 1327], 0), (34, .aload_n 0, 1, [], 0), (35, .aload_n 0, 1, [], 0), (36, .getfield 131, 3, [12, 3, 0, 0, 1325, 0], 0), (39, .putfield 140, 3, [12, 6, 0, 0, 0, 1328], 0), (42, .aload_n 0, 1, [], 0), (43, .aload_n 0, 1, [], 0), (44, .getfield 134, 3, [12, 4, 0, 0, 1326, 0], 0), (47, .putfield 143, 3, [12, 7, 0, 0, 0, 1329], 0), (50, .iconst 0, 1, [], 0), (51, .istore_n 1, 1, [], 0)]),
  (52, [(52, .iload_n 1, 1, [], 0), (53, .iconst 3, 1, [], 0), (54, .aload_n 0, 1, [], 0), (55, .getfield 140, 3, [12, 6, 0, 0, 1328, 0], 0), (58, .iconst 1, 1, [], 0), (59, .iadd, 1, [], 0), (60, .imul, 1, [], 0), (61, .if_icmp .ge 21, 3, [], 0)]),
  (64, [(64, .aload_n 0, 1, [], 0), (65, .getfield 37, 3, [12, 14, 1580, 1, 1336, 0], 9), (68, .iload_n 1, 1, [], 0), (69, .aload_n 0, 1, [], 0), (70, .getfield 28, 3, [12, 11, 1580, 1, 1333, 0], 6), (73, .iload_n 1, 1, [], 0), (74, .iaload, 1, [], 0), (75, .iastore, 1, [], 0), (76, .iinc 1 1, 3, [], 0), (79, .goto (-27), 3, [], 0)]),
  (82, [(82, .aload_n 0, 1, [], 0), (83, .getfield 49, 3, [12, 18, 540, 1, 1340, 0], 13), (86, .iconst 0, 1, [], 0), (87, .iconst 0, 1, [], 0), (88, .iastore, 1, [], 0), (89, .iconst 0, 1, [], 0), (90, .istore_n 1, 1, [], 0)]),
  (91, [(91, .iload_n 1, 1, [], 0), (92, .aload_n 0, 1, [], 0), (93, .getfield 140, 3, [12, 6, 0, 0, 1328, 0], 0), (96, .if_icmp .ge 95, 3, [], 0)]),
  (99, [(99, .aload_n 0, 1, [], 0), (100, .getfield 40, 3, [12, 15, 532, 1, 1337, 0], 10), (103, .iload_n 1, 1, [], 0), (104, .aload_n 0, 1, [], 0), (105, .getfield 31, 3, [12, 12, 532, 1, 1334, 0], 7), (108, .iload_n 1, 1, [], 0), (109, .iaload, 1, [], 0), (110, .iastore, 1, [], 0), (111, .aload_n 0, 1, [], 0), (112, .getfield 43, 3, [12, 16, 532, 1, 1338, 0], 11), (115, .iload_n 1, 1, [], 0), (116, .aload_n 0, 1, [], 0), (117, .getfield 34, 3, [12, 13, 532, 1, 1335, 0], 8), (120, .iload_n 1, 1, [], 0), (121, .iaload, 1, [], 0), (122, .iastore, 1, [], 0), (123, .aload_n 0, 1, [], 0), (124, .getfield 46, 3, [12, 17, 532, 1, 1339, 0], 12), (127, .iload_n 1, 1, [], 0), (128, .aload_n 0, 1, [], 0), (129, .iload_n 1, 1, [], 0), (130, .iconst 0, 1, [], 0), (131, .invokevirtual 146, 3, [1, 0, 1, 106, 1310, 0, 0, 16], 0), (134, .i2l, 1, [], 0), (135, .invokestatic 150, 3, [2, 1, 3, 92, 1314, 1], 0), (138, .aload_n 0, 1, [], 0), (139, .iload_n 1, 1, [], 0), (140, .iconst 1, 1, [], 0), (141, .invokevirtual 146, 3, [1, 0, 1, 106, 1310, 0, 0, 16], 0), (144, .i2l, 1, [], 0), (145, .invokestatic 150, 3, [2, 1, 3, 92, 1314, 1], 0), (148, .ladd, 1, [], 0), (149, .aload_n 0, 1, [], 0), (150, .iload_n 1, 1, [], 0), (151, .iconst 2, 1, [], 0), (152, .invokevirtual 146, 3, [1, 0, 1, 106, 1310, 0, 0, 16], 0), (155, .i2l, 1, [], 0), (156, .invokestatic 150, 3, [2, 1, 3, 92, 1314, 1], 0), (159, .ladd, 1, [], 0), (160, .invokestatic 154, 3, [1, 2, 3, 93, 1317, 1], 0), (163, .iastore, 1, [], 0), (164, .aload_n 0, 1, [], 0), (165, .getfield 49, 3, [12, 18, 540, 1, 1340, 0], 13), (168, .iload_n 1, 1, [], 0), (169, .iconst 1, 1, [], 0), (170, .iadd, 1, [], 0), (171, .aload_n 0, 1, [], 0), (172, .getfield 49, 3, [12, 18, 540, 1, 1340, 0], 13), (175, .iload_n 1, 1, [], 0), (176, .iaload, 1, [], 0), (177, .aload_n 0, 1, [], 0), (178, .getfield 46, 3, [12, 17, 532, 1, 1339, 0], 12), (181, .iload_n 1, 1, [], 0), (182, .iaload, 1, [], 0), (183, .iadd, 1, [], 0), (184, .iastore, 1, [], 0), (185, .iinc 1 1, 3, [], 0), (188, .goto (-97), 3, [], 0)]),
  (191, [(191, .aload_n 0, 1, [], 0), (192, .bipush 100, 2, [], 0), (194, .putfield 158, 3, [12, 45, 0, 0, 0, 1367], 0), (197, .aload_n 0, 1, [], 0), (198, .iconst 0, 1, [], 0), (199, .putfield 161, 3, [12, 47, 0, 0, 1, 1369], 0), (202, .aload_n 0, 1, [], 0), (203, .iconst 0, 1, [], 0), (204, .putfield 165, 3, [12, 42, 0, 0, 0, 1364], 0), (207, .aload_n 0, 1, [], 0), (208, .iconst 0, 1, [], 0), (209, .putfield 168, 3, [12, 43, 0, 0, 0, 1365], 0), (212, .aload_n 0, 1, [], 0), (213, .iconst 0, 1, [], 0), (214, .putfield 171, 3, [12, 44, 0, 0, 0, 1366], 0), (217, .aload_n 0, 1, [], 0), (218, .iconst 0, 1, [], 0), (219, .putfield 174, 3, [12, 46, 0, 0, 0, 1368], 0), (222, .aload_n 0, 1, [], 0), (223, .iconst 0, 1, [], 0), (224, .putfield 177, 3, [12, 54, 0, 0, 0, 1376], 0), (227, .iconst 0, 1, [], 0), (228, .istore_n 1, 1, [], 0)]),
  (229, [(229, .iload_n 1, 1, [], 0), (230, .iconst 3, 1, [], 0), (231, .if_icmp .ge 16, 3, [], 0)]),
  (234, [(234, .aload_n 0, 1, [], 0), (235, .getfield 113, 3, [12, 64, 46, 1, 1386, 0], 34), (238, .iload_n 1, 1, [], 0), (239, .iconst 0, 1, [], 0), (240, .bastore, 1, [], 0), (241, .iinc 1 1, 3, [], 0), (244, .goto (-15), 3, [], 0)]),
  (247, [(247, .return_, 1, [], 0)])]
def fsT_X12_copiesProgram : List (FN (Int × Hp)) := [nofn, nofn, nofn]
def calT_X12_copiesProgram : List Nat := [106, 92, 93]
theorem foT_X12_copiesProgram {l : Launch} : fsOK l true mi2 calT_X12_copiesProgram fsT_X12_copiesProgram := ⟨snd_no, ⟨snd_no, ⟨snd_no, trivial⟩⟩⟩
theorem fmT_X12_copiesProgram : ∀ (f : Nat) (fn : FN (Int × Hp)), fsT_X12_copiesProgram[f]? = some fn → MonoF fn := mono_l (fs := fsT_X12_copiesProgram) (List.forall_mem_cons.mpr ⟨mono_no, (List.forall_mem_cons.mpr ⟨mono_no, (List.forall_mem_cons.mpr ⟨mono_no, (fun q9 h9 => by cases h9)⟩)⟩)⟩)
theorem okT_X12_copiesProgram : mokb (mi2 107) = true := by decide +kernel
theorem ok_sdT_X12_copiesProgram : sdb (mi2 107).1.2.1 (insOK mi2 (mi2 107).1.1.cls (mi2 107).1.2.2.1 (mi2 107).1.2.2.2.2.1 (mi2 107).1.2.2.2.2.2.1 calT_X12_copiesProgram false 0) sdT_X12_copiesProgram = true := by decide +kernel
def wT_X12_copiesProgram {ρ : Type} : FN ρ := wT 100000 sdT_X12_copiesProgram fsT_X12_copiesProgram (mi2 107).1.2.2.2.2.2.2.2
theorem monT_X12_copiesProgram {ρ : Type} : MonoF (wT_X12_copiesProgram : FN ρ) := wT_mono fmT_X12_copiesProgram
theorem sndT_X12_copiesProgram {ρ : Type} {l : Launch} : SndF (ρ := ρ) l true (mi2 107).1 wT_X12_copiesProgram :=
  snd_T (x := mi2 107) okT_X12_copiesProgram ok_sdT_X12_copiesProgram (fun q => by first | rfl | cases q) (Or.inl ⟨rfl, rfl, rfl⟩) (by decide +kernel) (fun a ha => by
    obtain ⟨x0, rfl⟩ := len1 (show a.length = 1 from ha)
    exact Nat.le_of_ble_eq_true rfl) foT_X12_copiesProgram fmT_X12_copiesProgram
def sdT_X12_init : SD := [(0, [(0, .aload_n 0, 1, [], 0), (1, .invokespecial 3, 3, [0, 0, 0, 0, 1301, 4], 0), (4, .aload_n 0, 1, [], 0), (5, .bipush 8, 2, [], 0), (7, .newarray .int, 2, [0, 247], 0), (9, .putfield 11, 3, [12, 0, 84, 1, 0, 1322], 0), (12, .aload_n 0, 1, [], 0), (13, .bipush 8, 2, [], 0), (15, .newarray .int, 2, [0, 247], 0), (17, .putfield 15, 3, [12, 1, 84, 1, 0, 1323], 0), (20, .aload_n 0, 1, [], 0), (21, .sipush 240, 3, [], 0), (24, .newarray .int, 2, [0, 247], 0), (26, .putfield 18, 3, [12, 8, 1940, 1, 0, 1330], 0), (29, .aload_n 0, 1, [], 0), (30, .bipush 8, 2, [], 0), (32, .newarray .long, 2, [1, 1518], 0), (34, .putfield 21, 3, [12, 9, 85, 1, 0, 1331], 0), (37, .aload_n 0, 1, [], 0), (38, .bipush 8, 2, [], 0), (40, .newarray .int, 2, [0, 247], 0), (42, .putfield 25, 3, [12, 10, 84, 1, 0, 1332], 0), (45, .aload_n 0, 1, [], 0), (46, .sipush 195, 3, [], 0), (49, .newarray .int, 2, [0, 247], 0), (51, .putfield 28, 3, [12, 11, 1580, 1, 0, 1333], 0), (54, .aload_n 0, 1, [], 0), (55, .bipush 64, 2, [], 0), (57, .newarray .int, 2, [0, 247], 0), (59, .putfield 31, 3, [12, 12, 532, 1, 0, 1334], 0), (62, .aload_n 0, 1, [], 0), (63, .bipush 64, 2, [], 0), (65, .newarray .int, 2, [0, 247], 0), (67, .putfield 34, 3, [12, 13, 532, 1, 0, 1335], 0), (70, .aload_n 0, 1, [], 0), (71, .sipush 195, 3, [], 0), (74, .newarray .int, 2, [0, 247], 0), (76, .putfield 37, 3, [12, 14, 1580, 1, 0, 1336], 0), (79, .aload_n 0, 1, [], 0), (80, .bipush 64, 2, [], 0), (82, .newarray .int, 2, [0, 247], 0), (84, .putfield 40, 3, [12, 15, 532, 1, 0, 1337], 0), (87, .aload_n 0, 1, [], 0), (88, .bipush 64, 2, [], 0), (90, .newarray .int, 2, [0, 247], 0), (92, .putfield 43, 3, [12, 16, 532, 1, 0, 1338], 0), (95, .aload_n 0, 1, [], 0), (96, .bipush 64, 2, [], 0), (98, .newarray .int, 2, [0, 247], 0), (100, .putfield 46, 3, [12, 17, 532, 1, 0, 1339], 0), (103, .aload_n 0, 1, [], 0), (104, .bipush 65, 2, [], 0), (106, .newarray .int, 2, [0, 247], 0), (108, .putfield 49, 3, [12, 18, 540, 1, 0, 1340], 0), (111, .aload_n 0, 1, [], 0), (112, .sipush 400, 3, [], 0), (115, .newarray .byte, 2, [3, 979], 0), (117, .putfield 52, 3, [12, 19, 3223, 1, 0, 1341], 0), (120, .aload_n 0, 1, [], 0), (121, .iconst 3, 1, [], 0), (122, .newarray .int, 2, [0, 247], 0), (124, .putfield 56, 3, [12, 25, 44, 1, 0, 1347], 0), (127, .aload_n 0, 1, [], 0), (128, .bipush 33, 2, [], 0), (130, .newarray .long, 2, [1, 1518], 0), (132, .putfield 59, 3, [12, 28, 285, 1, 0, 1350], 0), (135, .aload_n 0, 1, [], 0), (136, .bipush 33, 2, [], 0), (138, .newarray .long, 2, [1, 1518], 0), (140, .putfield 62, 3, [12, 29, 285, 1, 0, 1351], 0), (143, .aload_n 0, 1, [], 0), (144, .bipush 6, 2, [], 0), (146, .newarray .int, 2, [0, 247], 0), (148, .putfield 65, 3, [12, 31, 68, 1, 0, 1353], 0), (151, .aload_n 0, 1, [], 0), (152, .bipush 64, 2, [], 0), (154, .newarray .int, 2, [0, 247], 0), (156, .putfield 68, 3, [12, 34, 532, 1, 0, 1356], 0), (159, .aload_n 0, 1, [], 0), (160, .bipush 64, 2, [], 0), (162, .newarray .int, 2, [0, 247], 0), (164, .putfield 71, 3, [12, 35, 532, 1, 0, 1357], 0), (167, .aload_n 0, 1, [], 0), (168, .bipush 64, 2, [], 0), (170, .newarray .int, 2, [0, 247], 0), (172, .putfield 74, 3, [12, 36, 532, 1, 0, 1358], 0), (175, .aload_n 0, 1, [], 0), (176, .bipush 64, 2, [], 0), (178, .newarray .int, 2, [0, 247], 0), (180, .putfield 77, 3, [12, 37, 532, 1, 0, 1359], 0), (183, .aload_n 0, 1, [], 0), (184, .bipush 64, 2, [], 0), (186, .newarray .int, 2, [0, 247], 0), (188, .putfield 80, 3, [12, 38, 532, 1, 0, 1360], 0), (191, .aload_n 0, 1, [], 0), (192, .bipush 64, 2, [], 0), (194, .newarray .int, 2, [0, 247], 0), (196, .putfield 83, 3, [12, 39, 532, 1, 0, 1361], 0), (199, .aload_n 0, 1, [], 0), (200, .bipush 120, 2, [], 0), (202, .newarray .int, 2, [0, 247], 0), (204, .putfield 86, 3, [12, 53, 980, 1, 0, 1375], 0), (207, .aload_n 0, 1, [], 0), (208, .bipush 65, 2, [], 0), (210, .newarray .int, 2, [0, 247], 0), (212, .putfield 89, 3, [12, 55, 540, 1, 0, 1377], 0), (215, .aload_n 0, 1, [], 0), (216, .sipush 793, 3, [], 0), (219, .newarray .int, 2, [0, 247], 0), (221, .putfield 92, 3, [12, 56, 6364, 1, 0, 1378], 0), (224, .aload_n 0, 1, [], 0), (225, .bipush 65, 2, [], 0), (227, .newarray .int, 2, [0, 247], 0), (229, .putfield 95, 3, [12, 57, 540, 1, 0, 1379], 0), (232, .aload_n 0, 1, [], 0), (233, .bipush 65, 2, [], 0), (235, .newarray .int, 2, [0, 247], 0), (237, .putfield 98, 3, [12, 58, 540, 1, 0, 1380], 0), (240, .aload_n 0, 1, [], 0), (241, .sipush 768, 3, [], 0), (244, .newarray .int, 2, [0, 247], 0), (246, .putfield 101, 3, [12, 60, 6164, 1, 0, 1382], 0), (249, .aload_n 0, 1, [], 0), (250, .iconst 2, 1, [], 0), (251, .newarray .int, 2, [0, 247], 0), (253, .dup, 1, [], 0), (254, .iconst 0, 1, [], 0), (255, .iconst (-1), 1, [], 0), (256, .iastore, 1, [], 0), (257, .dup, 1, [], 0), (258, .iconst 1, 1, [], 0), (259, .iconst (-1), 1, [], 0), (260, .iastore, 1, [], 0), (261, .putfield 104, 3, [12, 61, 36, 1, 0, 1383], 0), (264, .aload_n 0, 1, [], 0), (265, .bipush 64, 2, [], 0), (267, .newarray .int, 2, [0, 247], 0), (269, .putfield 107, 3, [12, 62, 532, 1, 0, 1384], 0), (272, .aload_n 0, 1, [], 0), (273, .bipush 18, 2, [], 0), (275, .newarray .int, 2, [0, 247], 0), (277, .putfield 110, 3, [12, 63, 164, 1, 0, 1385], 0), (280, .aload_n 0, 1, [], 0), (281, .iconst 3, 1, [], 0), (282, .newarray .boolean, 2, [2, 353], 0), (284, .putfield 113, 3, [12, 64, 46, 1, 0, 1386], 0), (287, .aload_n 0, 1, [], 0), (288, .invokevirtual 117, 3, [0, 0, 1, 77, 1302, 16], 0), (291, .aload_n 0, 1, [], 0), (292, .invokevirtual 120, 3, [0, 1, 1, 107, 1306, 16], 0), (295, .return_, 1, [], 0)])]
def fsT_X12_init : List (FN (Int × Hp)) := [wT_X12_laysSettings, wT_X12_copiesProgram]
def calT_X12_init : List Nat := [77, 107]
theorem foT_X12_init {l : Launch} : fsOK l true mi2 calT_X12_init fsT_X12_init := ⟨sndT_X12_laysSettings, ⟨sndT_X12_copiesProgram, trivial⟩⟩
theorem fmT_X12_init : ∀ (f : Nat) (fn : FN (Int × Hp)), fsT_X12_init[f]? = some fn → MonoF fn := mono_l (fs := fsT_X12_init) (List.forall_mem_cons.mpr ⟨monT_X12_laysSettings, (List.forall_mem_cons.mpr ⟨monT_X12_copiesProgram, (fun q9 h9 => by cases h9)⟩)⟩)
theorem okT_X12_init : mokb (mi2 281) = true := by decide +kernel
theorem ok_sdT_X12_init : sdb (mi2 281).1.2.1 (insOK mi2 (mi2 281).1.1.cls (mi2 281).1.2.2.1 (mi2 281).1.2.2.2.2.1 (mi2 281).1.2.2.2.2.2.1 calT_X12_init true 0) sdT_X12_init = true := by decide +kernel
def wT_X12_init {ρ : Type} : FN ρ := wT 100000 sdT_X12_init fsT_X12_init (mi2 281).1.2.2.2.2.2.2.2
theorem monT_X12_init {ρ : Type} : MonoF (wT_X12_init : FN ρ) := wT_mono fmT_X12_init
theorem sndT_X12_init {ρ : Type} {l : Launch} : SndF (ρ := ρ) l true (mi2 281).1 wT_X12_init :=
  snd_T (x := mi2 281) okT_X12_init ok_sdT_X12_init (fun q => by first | rfl | cases q) (Or.inl ⟨rfl, rfl, rfl⟩) (by decide +kernel) (fun a ha => by
    obtain ⟨x0, rfl⟩ := len1 (show a.length = 1 from ha)
    exact Nat.le_of_ble_eq_true rfl) foT_X12_init fmT_X12_init
