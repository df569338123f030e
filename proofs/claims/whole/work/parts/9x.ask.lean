/-! QUESTIONS, in both programs. -/
/-- the script is the same -/
def SE (h h' : Hp) : Prop := h' (-1) = h (-1) ∧ h' (-2) = h (-2)
theorem SE.km {h h' : Hp} (K : KM h h') : SE h h' := ⟨K.1 _ (by decide) (by decide) (by decide) (by decide), K.1 _ (by decide) (by decide) (by decide) (by decide)⟩
theorem SE.tr {a b c : Hp} (x : SE a b) (y : SE b c) : SE a c := ⟨y.1.trans x.1, y.2.trans x.2⟩
theorem SE.fr {a b : Hp} (x : ∀ c, c < 0 → b c = a c) : SE a b := ⟨x _ (by decide), x _ (by decide)⟩
section
variable {n : Nat} {h : Hp}
theorem Inv.wf (I : Inv h) : WFp h := I.1.1
theorem Inv.rw (I : Inv h) : RW h h (h 0 2) := I.2.2.1.1.2.1
theorem Inv.ce (I : Inv h) : CE h h 50 (h 0 2) (h 115 7) (h 115 6) (h 113 45) := I.2.2.1.1
theorem Inv.sh (I : Inv h) : RSh h h (h 0 2) := I.2.2.2.2.2.2.2.1
theorem Inv.rk (I : Inv h) : RK h h := I.2.2.2.2.2.2.2.2.1
theorem Inv.rl (I : Inv h) : RLs h := I.2.2.2.2.2.2.2.2.2.1
theorem Inv.p (I : Inv h) : 1 ≤ h 113 45 ∧ h 113 45 ≤ 200 := I.1.2.1
theorem Inv.f5 (I : Inv h) : FC h 50 (rchS h (h 115 6)) := I.ce.2.2.2.2.2
theorem Inv.f57 (I : Inv h) : FC h 57 (h 57 2) ∧ 1 ≤ h 57 2 ∧ h 57 2 ≤ 12 := I.2.2.2.1
theorem Inv.rst (I : Inv h) : RSt h (h 113 42) (h 113 43) (h 113 44) := I.1.2.2.2.1
theorem q_spots (hn : 100 ≤ n) (I : Inv h) : ∃ v h2, MX11_spots h = some v ∧ MX12_spots n h = some (v, h2) ∧ Inv h2 ∧ SE h h2 := by
  obtain ⟨h2, e, K⟩ := spots_b hn I.wf
  exact ⟨_, h2, spots_a I.sh.2.1, e, I.km K, SE.km K⟩
theorem q_spot (hn : 100 ≤ n) (I : Inv h) (x y : Int) : ∃ v h2, MX11_spot x y h = some v ∧ MX12_spot n x y h = some (v, h2) ∧ Inv h2 ∧ SE h h2 := by
  obtain ⟨h2, e, K⟩ := spot_b hn I.wf x y
  exact ⟨_, h2, spot_a I.wf I.sh.2.1 x y, e, I.km K, SE.km K⟩
theorem q_comes (hn : 100 ≤ n) (I : Inv h) (a b c : Int) : ∃ v h2, MX11_comes n a b c h = some v ∧ MX12_comes n a b c h = some (v, h2) ∧ Inv h2 ∧ SE h h2 := by
  obtain ⟨h2, e, K⟩ := comes_b hn I.wf a b c
  exact ⟨_, h2, comes_a hn I.wf I.sh.2.1 a b c, e, I.km K, SE.km K⟩
theorem q_twice (hn : 100 ≤ n) (I : Inv h) (x : Int) : ∃ v, MX11_twice x h = some v ∧ MX12_twice n x h = some v :=
  ⟨_, twice_a I.rw rfl I.wf I.sh.2.2.1 x, twice_b hn I.wf x⟩
theorem q_layer (hn : 200 ≤ n) (I : Inv h) (x y : Int) : ∃ v h2, MX11_layer x y h = some v ∧ MX12_layer n x y h = some (v, h2) ∧ Inv h2 ∧ SE h h2 := by
  obtain ⟨h2, e, K⟩ := layer_b hn I.wf x y
  exact ⟨_, h2, layer_a I.wf I.sh.2.2.2.1 x y, e, I.km K, SE.km K⟩
theorem q_meets (hn : 200 ≤ n) (I : Inv h) (x : Int) : ∃ v, MX11_meets x h = some v ∧ MX12_meets n x h = some v :=
  ⟨_, meets_a I.sh.2.2.2.2 x, meets_b hn I.wf x⟩
theorem q_box (hn : 100 ≤ n) (I : Inv h) (a y : Int) : ∃ v h2, MX11_box n a y h = some v ∧ MX12_box n a y h = some (v, h2) ∧ Inv h2 ∧ SE h h2 := by
  obtain ⟨h2, e, K⟩ := box_b hn I.wf a y
  exact ⟨_, h2, box_a hn I.wf I.sh.2.1 a y, e, I.km K, SE.km K⟩
theorem q_near (hn : 100 ≤ n) (I : Inv h) (a b c y : Int) : ∃ v h2, MX11_near n a b c y h = some v ∧ MX12_near n a b c y h = some (v, h2) ∧ Inv h2 ∧ SE h h2 := by
  obtain ⟨h2, e, K⟩ := near_b hn I.wf a b c y
  exact ⟨_, h2, near_a hn I.wf I.sh.2.1 a b c y, e, I.km K, SE.km K⟩
theorem q_binds (hn : 100 ≤ n) (I : Inv h) (b : Int) : ∃ v h2, MX11_binds b h = some v ∧ MX12_binds n b h = some (v, h2) ∧ Inv h2 ∧ SE h h2 := by
  obtain ⟨h2, e, K⟩ := binds_b hn I.wf I.p b
  exact ⟨_, h2, binds_a I.wf I.rw rfl I.ce.2.2.1 I.ce.2.2.2.1.1 I.2.2.1.2.1 I.p b, e, I.km K, SE.km K⟩
theorem q_corner (hn : 100 ≤ n) (I : Inv h) (x y : Int) : ∃ v h2, MX11_corner x y h = some v ∧ MX12_corner n x y h = some (v, h2) ∧ Inv h2 ∧ SE h h2 := by
  obtain ⟨h2, e, K⟩ := corner_b hn I.wf I.p x y
  exact ⟨_, h2, corner_a I.wf rfl I.ce x y, e, I.km K, SE.km K⟩
theorem q_common (hn : 100 ≤ n) (I : Inv h) (k : Int) : ∃ v, MX11_common n k h = some v ∧ MX12_common n k h = some v :=
  ⟨_, common_a hn I.wf I.2.1.1 I.rw I.sh I.rk k, common_b hn I.wf I.1.2.2.2.2.2.2.2 k⟩
theorem envI (I : Inv h) : RSt h (h 113 42) (h 113 43) (h 113 44) ∧ 0 ≤ h 113 42 ∧ h 113 42 ≤ AL (nB h) (ee h) := by
  refine ⟨I.rst, I.rst.2.2.2.2.1, ?_⟩
  have hj := I.wf.2.2.1
  exact RS.le (env_ok I.wf (tol := 0) (p := 1) hj) I.rst
theorem q_where (hn : 100 ≤ n) (I : Inv h) (a : Int) : ∃ v h2, MX11_where n a h = some v ∧ MX12_where n a h = some (v, h2) ∧ Inv h2 ∧ SE h h2 := by
  obtain ⟨-, s0, s1⟩ := envI I
  obtain ⟨h2, e, K⟩ := where_b hn I.wf I.p rfl s0 s1 a
  exact ⟨_, h2, where_a hn I.wf I.ce I.2.2.2.2.1.1.1 s0 s1 a, e, I.km K, SE.km K⟩
theorem q_place (hn : 100 ≤ n) (I : Inv h) (s a : Int) : ∃ v h2, MX11_place n s a h = some v ∧ MX12_place n s a h = some (v, h2) ∧ Inv h2 ∧ SE h h2 := by
  obtain ⟨h2, e, K⟩ := place_b hn I.wf I.p s a
  exact ⟨_, h2, place_a hn I.wf rfl I.ce s a, e, I.km K, SE.km K⟩
theorem RLs.mv {g k : Hp} (R : RLs g) (e0 : k 110 = g 110) (e1 : k 111 = g 111) : RLs k := by
  unfold RLs at R ⊢
  unfold vC at R ⊢
  rw [e0, e1]
  exact R
theorem q_block (hn : 200 ≤ n) (I : Inv h) (x y : Int) : ∃ v h1 h2, MX11_block n x y h = some (v, h1) ∧ MX12_block n x y h1 = some (v, h2) ∧ Inv h2 ∧ SE h h1 ∧ SE h h2 := by
  obtain ⟨h1, e1, K1⟩ := block_a hn I.wf rfl I.ce x y
  have I1 : Inv h1 := I.mv (KQ.lo fun c c0 => K1 c (by omega)) (fun c c0 c1 => K1 c (by unfold scr at c1; omega)) (I.f5.mv (K1 _ (by decide))) (by rw [K1 57 (by decide)]; exact ⟨I.f57.1.mv (K1 _ (by decide)), I.f57.2⟩) (I.rl.mv (K1 _ (by decide)) (K1 _ (by decide)))
  obtain ⟨h2, e2, K2⟩ := block_b hn I1.wf I1.p x y
  refine ⟨_, h1, h2, e1, ?_, I1.km K2, SE.fr (fun c _ => K1 c (by omega)), (SE.fr (fun c _ => K1 c (by omega))).tr (SE.km K2)⟩
  rw [e2, pg_block (KQ.p (KQ.lo fun c c0 => K1 c (by omega))) (by rw [K1 113 (by decide)])]
theorem q_least (hn : 2000 ≤ n) (I : Inv h) (w u : Int) : ∃ v h1 h2, MX11_least n w u h = some (v, h1) ∧ MX12_least n w u h1 = some (v, h2) ∧ Inv h2 ∧ SE h h1 ∧ SE h h2 := by
  obtain ⟨h1, e1, K1, -, L⟩ := least_c hn I.rl w u
  have I1 : Inv h1 := I.mv (KQ.lo fun c c0 => K1 c (by omega) (by omega)) (fun c c0 c1 => K1 c (by unfold scr at c1; omega) (by unfold scr at c1; omega)) (I.f5.mv (K1 _ (by decide) (by decide))) (by rw [K1 57 (by decide) (by decide)]; exact ⟨I.f57.1.mv (K1 _ (by decide) (by decide)), I.f57.2⟩) L
  obtain ⟨h2, e2, K2⟩ := least_m hn h1 w u
  exact ⟨_, h1, h2, e1, e2, I1.km K2, SE.fr (fun c _ => K1 c (by omega) (by omega)), (SE.fr (fun c _ => K1 c (by omega) (by omega))).tr (SE.km K2)⟩
end
