section
variable {m m' h h' : Hp} {n : Nat}
theorem rs_0 (H : WFp m) {j : Int} (hj : 1 ≤ j ∧ j ≤ 50) : RS (nB m) j (rchS m j) (ee m) 0 0 0 := by
  have E := env_ok H (tol := 0) (p := 1) hj
  have hR := E.2.2.1
  have hA := AL_bd E
  refine ⟨⟨by omega, by decide, Or.inl (by decide)⟩, by omega, by decide, Or.inl (by decide), by decide, ?_, Or.inr ⟨rfl, rfl⟩⟩
  rw [far_rest]
  omega
theorem not_scr {c : Int} (h : ¬ scr c) : c ≠ 51 ∧ c ≠ 56 ∧ (c < 57 ∨ 63 < c) ∧ c ≠ 65 ∧ c ≠ 110 ∧ c ≠ 111 ∧ c ≠ 112 := by
  unfold scr at h
  omega
theorem trial_c (hn : 5000 ≤ n) (I : Inv2 m h) {tol j p : Int} (ht : 0 ≤ tol ∧ tol ≤ 2000) (hj : 1 ≤ j ∧ j ≤ 50) (hp : 1 ≤ p ∧ p ≤ 200) : ∃ h', JX11_tried_60 n tol j p h = some (tilM m tol j p False 3000 (0, 0, 0), h') ∧ (∀ c, (c < 57 ∨ 62 < c) → c ≠ 65 → h' c = h c) ∧ h' 57 2 = rchS m j ∧ FC h' 57 (rchS m j) := by
  have H := I.wf
  have w := I.w.1
  obtain ⟨h1, e1, f1, f1', a2, -, a0, al, aF⟩ := settle1_c (n := n) (x := 57) (by omega) H I.rw ht hj (by omega) (by omega) I.tr.1
  have R1 : RW m h1 (h 0 2) := I.rw.mv (fun c c0 c1 => f1 c (by omega) (by omega) (by omega) (by omega) (by omega))
  obtain ⟨o, h2, e2, -, -, f2, -, -, C2⟩ := grant1_c (n := n) (x := 57) (pc := p) (by omega) H R1 hj hp (by omega) (by omega) a0 al aF
  have w2 : h2 0 2 = h 0 2 := by rw [f2 0 (by decide) (by decide), f1 0 (by decide) (by decide) (by decide) (by decide) (by decide)]
  have R4 : RW m (up (up (up h2 65 0 0) 65 1 0) 65 2 0) (h 0 2) := C2.2.1.mv (fun c c0 c1 => by rw [up_ne (by omega), up_ne (by omega), up_ne (by omega)])
  have f3 : ∀ c, c ≠ 65 → up (up (up (up (up (up h2 65 0 0) 65 1 0) 65 2 0) 65 3 (blk (ee m) (nB m) 0)) 65 4 p) 65 5 0 c = h2 c := fun c c0 => by rw [up_ne c0, up_ne c0, up_ne c0, up_ne c0, up_ne c0, up_ne c0]
  have e3 : MX8_begin n 65 (h 0 2) p h2 = some (up (up (up (up (up (up h2 65 0 0) 65 1 0) 65 2 0) 65 3 (blk (ee m) (nB m) 0)) 65 4 p) 65 5 0) := by
    unfold MX8_begin
    rw [ltt_e, ltt_e, ltt_e, blockOf_c (by omega) H R4, bndp_s, ltt_e, ltt_e, ltt_e]
  have Q3 : CQ m (up (up (up (up (up (up h2 65 0 0) 65 1 0) 65 2 0) 65 3 (blk (ee m) (nB m) 0)) 65 4 p) 65 5 0) 65 (0, 0, 0) := by
    refine ⟨?_, ?_, ?_, ?_⟩
    · rw [up_i (by decide), up_i (by decide), up_i (by decide), up_i (by decide), up_i (by decide), up_at]
    · rw [up_i (by decide), up_i (by decide), up_i (by decide), up_i (by decide), up_at]
    · rw [up_i (by decide), up_i (by decide), up_i (by decide), up_at]
    · rw [up_i (by decide), up_i (by decide), up_at]
  obtain ⟨h4, e4, F4, FC4⟩ := ticksTo_c (n := n) (D := 57) (x := 65) (k := 3000) hn H hj (by decide) (C2.mv (x := 65) (by decide) (fun c c0 _ => f3 c c0) (C2.2.2.2.2.2.mv (f3 _ (by decide)))) Q3 (rs_0 H hj) up_at (by decide)
  refine ⟨h4, ?_, fun c c0 c1 => by rw [F4.1 c c1 (by omega), f3 c c1, f2 c (by omega) (by omega), f1 c (by omega) (by omega) (by omega) (by omega) (by omega)], by rw [F4.1 57 (by decide) (by decide), f3 57 (by decide), f2 57 (by decide) (by decide)]; exact a2, FC4⟩
  unfold JX11_tried_60
  rw [ltt_e, e1, bndh_s, e2, bnd_s, w2, e3, bndh_s, e4, bnd_s]
  rfl
theorem trial_m (hn : 5000 ≤ n) (H : WFp m) {tol j p : Int} (ht : 0 ≤ tol ∧ tol ≤ 2000) (hj : 1 ≤ j ∧ j ≤ 50) (hp : 1 ≤ p ∧ p ≤ 200) : ∃ g1 g2, MX12_lays n tol j p m = some g1 ∧ MX12_tillFromBegin n g1 = some (tilM m tol j p False 3000 (0, 0, 0), g2) ∧ KM m g2 := by
  obtain ⟨g1, e1, D1⟩ := lays_m (n := n) (by omega) H ht hj hp
  have D2 : LD m tol j p (up (up (up (up g1 113 48 0) 113 49 0) 113 50 0) 113 52 0) := (((D1.up (by decide)).up (by decide)).up (by decide)).up (by decide)
  obtain ⟨g3, e3, F3⟩ := tillDone_m (n := n) (cnt := 3000) (q := (0, 0, 0)) hn H hj (by decide) D2 ⟨by rw [up_i (by decide), up_i (by decide), up_i (by decide), up_at], by rw [up_i (by decide), up_i (by decide), up_at], by rw [up_i (by decide), up_at]⟩ (rs_0 H hj) up_at
  refine ⟨g1, g3, e1, ?_, (D2.fr F3).km⟩
  unfold MX12_tillFromBegin MX12_tillDone
  rw [ltt_e, ltt_e, ltt_e, ltt_e, show MX12_tillDone_ n 3000 _ = _ from e3, bnd_s, bnd_s]
  rfl
theorem q_tried (hn : 5000 ≤ n) (x y : Int) : Two (MX11_tried n x y) (MX12_tried n x y) := fun m h I => by
  have H := I.wf
  have R := I.rw.1
  have N := I.nw
  have hp := I.mnw.1
  have hj := H.2.2.1
  have ht := H.2.2.2.1
  have go : ∀ tol j p : Int, (0 ≤ tol ∧ tol ≤ 2000) → (1 ≤ j ∧ j ≤ 50) → (1 ≤ p ∧ p ≤ 200) → ∃ v h' m', JX11_tried_60 n tol j p h = some (v, h') ∧ (bndh (MX12_lays n tol j p m) fun h5 => bnd (MX12_tillFromBegin n h5) fun r6 h6 => some (r6, h6)) = some (v, m') ∧ (∀ c, c < 0 ∨ 113 ≤ c → h' c = h c) ∧ (∀ c, c < 113 → m' c = m c) ∧ Inv2 m' h' := fun tol j p a b c => by
    obtain ⟨h1, e1, f1, r1, F1⟩ := trial_c hn I a b c
    obtain ⟨g1, g2, e2, e3, K⟩ := trial_m (n := n) hn H a b c
    have E := env_ok H (tol := tol) (p := p) b
    rw [e1, e2, bndh_s, e3, bnd_s]
    exact ⟨_, _, _, rfl, rfl, I.ask2 K (fun c c0 => f1 c (by have := not_scr c0; omega) (not_scr c0).2.2.2.1) (f1 _ (by decide) (by decide)) (f1 _ (by decide) (by decide)) (f1 _ (by decide) (by decide)) E.2.2.1 r1 F1⟩
  have no : ∃ v h' m', (some (-1, h) : Option (Int × Hp)) = some (v, h') ∧ (some (-1, m) : Option (Int × Hp)) = some (v, m') ∧ (∀ c, c < 0 ∨ 113 ≤ c → h' c = h c) ∧ (∀ c, c < 113 → m' c = m c) ∧ Inv2 m' h' := ⟨_, _, _, rfl, rfl, fun _ _ => rfl, fun _ _ => rfl, I⟩
  unfold MX11_tried MX11_canTry MX12_tried
  by_cases c0 : x = 0
  · rw [if_pos c0, if_pos c0, in_m, bndp_s]
    by_cases d0 : y < 0
    · rw [if_pos d0, bndp_s, if_neg (by decide), if_neg (c := 0 ≤ y ∧ y ≤ 2000) (by omega), if_neg (by decide)]
      exact no
    rw [if_neg d0]
    by_cases d1 : 2000 < y
    · rw [if_pos d1, bndp_s, if_neg (by decide), if_neg (c := 0 ≤ y ∧ y ≤ 2000) (by omega), if_neg (by decide)]
      exact no
    rw [if_neg d1, bndp_s, if_pos (c := (1 : Int) ≠ 0) (by decide), if_neg (c := x ≠ 0) (by omega), if_pos (c := 0 ≤ y ∧ y ≤ 2000) (by omega), if_pos (c := (1 : Int) ≠ 0) (by decide), al84, grd_t (by decide)]
    unfold JX11_tried_25
    rw [ltt_e, if_pos (c := x ≠ 1) (by omega)]
    unfold JX11_tried_42
    rw [ltt_e, if_pos (c := x ≠ 2) (by omega), R.1, N.2.1]
    exact go y (m 115 6) (m 113 45) (by omega) hj hp
  rw [if_neg c0, if_neg c0]
  by_cases c1 : x = 1
  · rw [if_pos c1, if_pos c1, in_m, bndp_s]
    by_cases d0 : y < 1
    · rw [if_pos d0, bndp_s, if_neg (by decide), if_neg (c := 1 ≤ y ∧ y ≤ 50) (by omega), if_neg (by decide)]
      exact no
    rw [if_neg d0]
    by_cases d1 : 50 < y
    · rw [if_pos d1, bndp_s, if_neg (by decide), if_neg (c := 1 ≤ y ∧ y ≤ 50) (by omega), if_neg (by decide)]
      exact no
    rw [if_neg d1, bndp_s, if_pos (c := (1 : Int) ≠ 0) (by decide), if_pos (c := x ≠ 0) c0, if_pos (c := 1 ≤ y ∧ y ≤ 50) (by omega), if_pos (c := (1 : Int) ≠ 0) (by decide), al84, grd_t (by decide)]
    unfold JX11_tried_25
    rw [ltt_e, if_neg (c := x ≠ 1) (by omega)]
    unfold JX11_tried_42
    rw [ltt_e, if_pos (c := x ≠ 2) (by omega), R.2.1, N.2.1]
    exact go (m 115 7) y (m 113 45) ht (by omega) hp
  rw [if_neg c1, if_neg c1]
  by_cases c2 : x = 2
  · rw [if_pos c2, if_pos c2, in_m, bndp_s]
    by_cases d0 : y < 1
    · rw [if_pos d0, bndp_s, if_neg (by decide), if_neg (c := 1 ≤ y ∧ y ≤ 200) (by omega), if_neg (by decide)]
      exact no
    rw [if_neg d0]
    by_cases d1 : 200 < y
    · rw [if_pos d1, bndp_s, if_neg (by decide), if_neg (c := 1 ≤ y ∧ y ≤ 200) (by omega), if_neg (by decide)]
      exact no
    rw [if_neg d1, bndp_s, if_pos (c := (1 : Int) ≠ 0) (by decide), if_pos (c := x ≠ 0) c0, if_pos (c := 1 ≤ y ∧ y ≤ 200) (by omega), if_pos (c := (1 : Int) ≠ 0) (by decide), al84, grd_t (by decide), grd_t (by decide)]
    unfold JX11_tried_25
    rw [ltt_e, if_pos (c := x ≠ 1) c1]
    unfold JX11_tried_42
    rw [ltt_e, if_neg (c := x ≠ 2) (by omega), R.1, R.2.1]
    exact go (m 115 7) (m 115 6) y ht hj (by omega)
  rw [if_neg c2, if_neg c2, bndp_s, if_neg (by decide)]
  exact no
end
