/-! CHORDS, in plain numbers. -/
abbrev P2 := Int × Int
/-- the middle of a chord, out on the circle -/
def fr (p q : P2) : Int := rt ((p.1 + q.1) * (p.1 + q.1) + (p.2 + q.2) * (p.2 + q.2))
def md (R : Int) (p q : P2) : P2 := (((p.1 + q.1) * R).tdiv (fr p q), ((p.2 + q.2) * R).tdiv (fr p q))
abbrev nz2 (p q : P2) : Prop := p.1 + q.1 ≠ 0 ∨ p.2 + q.2 ≠ 0
theorem fr_nn (p q : P2) : 0 ≤ (p.1 + q.1) * (p.1 + q.1) + (p.2 + q.2) * (p.2 + q.2) := by
  have a := sq_nn (p.1 + q.1)
  have b := sq_nn (p.2 + q.2)
  omega
theorem fr_ge (p q : P2) : (-(fr p q) ≤ p.1 + q.1 ∧ p.1 + q.1 ≤ fr p q) ∧ (-(fr p q) ≤ p.2 + q.2 ∧ p.2 + q.2 ≤ fr p q) := by
  have a := sq_nn (p.1 + q.1)
  have b := sq_nn (p.2 + q.2)
  exact ⟨le_rt (by omega), le_rt (by omega)⟩
theorem fr_1 {p q : P2} (h : nz2 p q) : 1 ≤ fr p q := by
  have := fr_ge p q
  rcases h with h | h <;> omega
theorem md_b {R : Int} {p q : P2} (hR : 0 ≤ R) (h : nz2 p q) : (-R ≤ (md R p q).1 ∧ (md R p q).1 ≤ R) ∧ (-R ≤ (md R p q).2 ∧ (md R p q).2 ≤ R) := by
  have f := fr_1 h
  have g := fr_ge p q
  exact ⟨tq_ok f g.1 hR, tq_ok f g.2 hR⟩
theorem tdiv_nn {x y : Int} (hx : 0 ≤ x) (hy : 0 ≤ y) : 0 ≤ x.tdiv y := by
  rw [Int.tdiv_eq_ediv_of_nonneg hx]
  exact Int.ediv_nonneg hx hy
/-- a quarter from (x, y) to the left, x above 0, y not below it -/
theorem qd_far {x y : Int} (hx : 1 ≤ x) (hy : 0 ≤ y) : fr (x, y) (-y, x) ≤ (y + x) * rt (x * x + y * y) := by
  have nx := sq_nn x
  have ny := sq_nn y
  have r := rt_ok (n := x * x + y * y) (by omega)
  have lx := le_rt (g := x) (n := x * x + y * y) (by omega)
  have ly := le_rt (g := y) (n := x * x + y * y) (by omega)
  have f := rt_ok (fr_nn (x, y) (-y, x))
  have ef : fr (x, y) (-y, x) = rt ((x + -y) * (x + -y) + (y + x) * (y + x)) := rfl
  have e2 : (x + -y) * (x + -y) + (y + x) * (y + x) = 2 * (x * x + y * y) := by
    rw [Int.add_mul, Int.mul_add, Int.mul_add, Int.add_mul y x, Int.mul_add, Int.mul_add, Int.neg_mul, Int.mul_neg, Int.mul_neg, Int.neg_mul, Int.mul_comm y x]
    omega
  rw [ef, e2]
  have e3 : (y + x) * (y + x) = x * x + y * y + 2 * (x * y) := by
    rw [Int.add_mul, Int.mul_add, Int.mul_add, Int.mul_comm y x]
    omega
  have xy : 0 ≤ x * y := Int.mul_nonneg (by omega) hy
  generalize hR : rt (x * x + y * y) = R at *
  by_cases h2 : 2 ≤ R
  · have b : rt (2 * (x * x + y * y)) ≤ (y + x) * 2 := by
      have := rt_lt (n := 2 * (x * x + y * y)) (b := (y + x) * 2 + 1) (by omega) (by omega) (by
        have e4 : ((y + x) * 2 + 1) * ((y + x) * 2 + 1) = 4 * ((y + x) * (y + x)) + 4 * (y + x) + 1 := by grind
        omega)
      omega
    have c : (y + x) * 2 ≤ (y + x) * R := Int.mul_le_mul_of_nonneg_left h2 (by omega)
    omega
  · have R1 : R = 1 := by omega
    subst R1
    rw [Int.mul_one]
    have x1 : x = 1 := by omega
    subst x1
    rcases (by omega : y = 0 ∨ y = 1) with e | e <;> subst e <;> decide
/-- in a quarter, halved twice, no two neighbours are opposite -/
theorem qd_nz {x y R : Int} (hx : 1 ≤ x) (hy : 0 ≤ y) (hR : R = rt (x * x + y * y)) : nz2 (x, y) (-y, x) ∧ (nz2 (x, y) (md R (x, y) (-y, x)) ∧ nz2 (md R (x, y) (-y, x)) (-y, x)) ∧ (nz2 (x, y) (md R (x, y) (md R (x, y) (-y, x))) ∧ nz2 (md R (x, y) (md R (x, y) (-y, x))) (md R (x, y) (-y, x)) ∧ nz2 (md R (x, y) (-y, x)) (md R (md R (x, y) (-y, x)) (-y, x)) ∧ nz2 (md R (md R (x, y) (-y, x)) (-y, x)) (-y, x)) := by
  have nx := sq_nn x
  have ny := sq_nn y
  have r0 : 0 ≤ R := by rw [hR]; exact rt_nn _
  have far := qd_far hx hy
  rw [← hR] at far
  have h0 : nz2 (x, y) (-y, x) := Or.inr (by show y + x ≠ 0; omega)
  have f1 := fr_1 h0
  -- the middle is above
  have m2 : 1 ≤ (md R (x, y) (-y, x)).2 := by
    have p : 0 ≤ (y + x) * R := Int.mul_nonneg (by omega) r0
    show 1 ≤ ((y + x) * R).tdiv (fr (x, y) (-y, x))
    rw [Int.tdiv_eq_ediv_of_nonneg p]
    exact Int.le_ediv_of_mul_le (by omega) (by rw [Int.one_mul]; exact far)
  have m1 : y = 0 → 0 ≤ (md R (x, y) (-y, x)).1 := fun hy0 => by
    show 0 ≤ ((x + -y) * R).tdiv (fr (x, y) (-y, x))
    exact tdiv_nn (Int.mul_nonneg (by omega) r0) (by omega)
  generalize md R (x, y) (-y, x) = m at *
  have h1 : nz2 (x, y) m := Or.inr (by show y + m.2 ≠ 0; omega)
  have h2 : nz2 m (-y, x) := Or.inr (by show m.2 + x ≠ 0; omega)
  have f2 := fr_1 h1
  have f3 := fr_1 h2
  have a2 : 0 ≤ (md R (x, y) m).2 := tdiv_nn (Int.mul_nonneg (by show 0 ≤ y + m.2; omega) r0) (by omega)
  have a1 : y = 0 → 0 ≤ (md R (x, y) m).1 := fun hy0 => tdiv_nn (Int.mul_nonneg (by have := m1 hy0; show 0 ≤ x + m.1; omega) r0) (by omega)
  have b2 : 0 ≤ (md R m (-y, x)).2 := tdiv_nn (Int.mul_nonneg (by show 0 ≤ m.2 + x; omega) r0) (by omega)
  refine ⟨h0, ⟨h1, h2⟩, ?_, Or.inr (by omega), Or.inr (by omega), Or.inr (by show (md R m (-y, x)).2 + x ≠ 0; omega)⟩
  by_cases hy0 : y = 0
  · exact Or.inl (by have := a1 hy0; show x + (md R (x, y) m).1 ≠ 0; omega)
  · exact Or.inr (by show y + (md R (x, y) m).2 ≠ 0; omega)
/-! turned and mirrored -/
def tw (w : Bool) (s t : Int) (p : P2) : P2 := if w then (s * p.2, t * p.1) else (s * p.1, t * p.2)
abbrev sg1 (s : Int) : Prop := s = 1 ∨ s = -1
theorem sg_tdiv {s x y : Int} (hs : sg1 s) : (s * x).tdiv y = s * x.tdiv y := by
  rcases hs with e | e
  · rw [e, Int.one_mul, Int.one_mul]
  · rw [e, Int.neg_one_mul, Int.neg_one_mul, Int.neg_tdiv]
theorem sg_sq {s x : Int} (hs : sg1 s) : s * x * (s * x) = x * x := by
  rcases hs with e | e
  · rw [e, Int.one_mul]
  · rw [e, Int.neg_one_mul, Int.neg_mul_neg]
theorem tw_fr {w : Bool} {s t : Int} (hs : sg1 s) (ht : sg1 t) (p q : P2) : fr (tw w s t p) (tw w s t q) = fr p q := by
  unfold fr tw
  cases w
  · show rt ((s * p.1 + s * q.1) * (s * p.1 + s * q.1) + (t * p.2 + t * q.2) * (t * p.2 + t * q.2)) = _
    rw [← Int.mul_add, ← Int.mul_add, sg_sq hs, sg_sq ht]
  · show rt ((s * p.2 + s * q.2) * (s * p.2 + s * q.2) + (t * p.1 + t * q.1) * (t * p.1 + t * q.1)) = _
    rw [← Int.mul_add, ← Int.mul_add, sg_sq hs, sg_sq ht, Int.add_comm]
theorem tw_md {R : Int} {w : Bool} {s t : Int} (hs : sg1 s) (ht : sg1 t) (p q : P2) : md R (tw w s t p) (tw w s t q) = tw w s t (md R p q) := by
  have e := tw_fr (w := w) hs ht p q
  unfold md
  rw [e]
  cases w
  · show (((s * p.1 + s * q.1) * R).tdiv (fr p q), ((t * p.2 + t * q.2) * R).tdiv (fr p q)) = (s * ((p.1 + q.1) * R).tdiv (fr p q), t * ((p.2 + q.2) * R).tdiv (fr p q))
    rw [← Int.mul_add, ← Int.mul_add, Int.mul_assoc, Int.mul_assoc, sg_tdiv hs, sg_tdiv ht]
  · show (((s * p.2 + s * q.2) * R).tdiv (fr p q), ((t * p.1 + t * q.1) * R).tdiv (fr p q)) = (s * ((p.2 + q.2) * R).tdiv (fr p q), t * ((p.1 + q.1) * R).tdiv (fr p q))
    rw [← Int.mul_add, ← Int.mul_add, Int.mul_assoc, Int.mul_assoc, sg_tdiv hs, sg_tdiv ht]
theorem sg_ne {s x y : Int} (hs : sg1 s) (h : s * x + s * y ≠ 0) : x + y ≠ 0 := by
  rcases hs with e | e <;> subst e <;> omega
theorem tw_nz {w : Bool} {s t : Int} (hs : sg1 s) (ht : sg1 t) {p q : P2} (h : nz2 (tw w s t p) (tw w s t q)) : nz2 p q := by
  cases w
  · exact h.elim (fun h => Or.inl (sg_ne hs h)) (fun h => Or.inr (sg_ne ht h))
  · exact h.elim (fun h => Or.inr (sg_ne hs h)) (fun h => Or.inl (sg_ne ht h))
/-- every quarter is one from above, turned or mirrored -/
theorem qd_ex {a b sd : Int} (h : a ≠ 0 ∨ b ≠ 0) (hs : sg1 sd) : ∃ (w : Bool) (s t x y : Int), sg1 s ∧ sg1 t ∧ 1 ≤ x ∧ 0 ≤ y ∧ tw w s t (a, b) = (x, y) ∧ tw w s t (-(sd * b), sd * a) = (-y, x) ∧ x * x + y * y = a * a + b * b := by
  rcases hs with e | e
  · subst e
    by_cases h1 : 0 < a ∧ 0 ≤ b
    · exact ⟨false, 1, 1, a, b, Or.inl rfl, Or.inl rfl, h1.1, h1.2, by unfold tw; simp, by unfold tw; simp, rfl⟩
    · by_cases h2 : a ≤ 0 ∧ 0 < b
      · exact ⟨true, 1, -1, b, -a, Or.inl rfl, Or.inr rfl, by omega, by omega, by unfold tw; simp, by unfold tw; simp, by rw [Int.neg_mul_neg]; omega⟩
      · by_cases h3 : a < 0 ∧ b ≤ 0
        · exact ⟨false, -1, -1, -a, -b, Or.inr rfl, Or.inr rfl, by omega, by omega, by unfold tw; simp, by unfold tw; simp, by rw [Int.neg_mul_neg, Int.neg_mul_neg]⟩
        · exact ⟨true, -1, 1, -b, a, Or.inr rfl, Or.inl rfl, by omega, by omega, by unfold tw; simp, by unfold tw; simp, by rw [Int.neg_mul_neg]; omega⟩
  · subst e
    by_cases h1 : 0 < a ∧ b ≤ 0
    · exact ⟨false, 1, -1, a, -b, Or.inl rfl, Or.inr rfl, h1.1, by omega, by unfold tw; simp, by unfold tw; simp, by rw [Int.neg_mul_neg]⟩
    · by_cases h2 : 0 ≤ a ∧ 0 < b
      · exact ⟨true, 1, 1, b, a, Or.inl rfl, Or.inl rfl, by omega, by omega, by unfold tw; simp, by unfold tw; simp, by omega⟩
      · by_cases h3 : a < 0 ∧ 0 ≤ b
        · exact ⟨false, -1, 1, -a, b, Or.inr rfl, Or.inl rfl, by omega, by omega, by unfold tw; simp, by unfold tw; simp, by rw [Int.neg_mul_neg]⟩
        · exact ⟨true, -1, -1, -b, -a, Or.inr rfl, Or.inr rfl, by omega, by omega, by unfold tw; simp, by unfold tw; simp, by rw [Int.neg_mul_neg, Int.neg_mul_neg]; omega⟩
/-- no two neighbours of a quarter are opposite, as long as it is halved -/
theorem qt_nz {p : P2} {sd R : Int} (h : p.1 ≠ 0 ∨ p.2 ≠ 0) (hs : sg1 sd) (hR : R = rt (p.1 * p.1 + p.2 * p.2)) :
    let q : P2 := (-(sd * p.2), sd * p.1)
    nz2 p q ∧ (nz2 p (md R p q) ∧ nz2 (md R p q) q) ∧ (nz2 p (md R p (md R p q)) ∧ nz2 (md R p (md R p q)) (md R p q) ∧ nz2 (md R p q) (md R (md R p q) q) ∧ nz2 (md R (md R p q) q) q) := by
  intro q
  obtain ⟨w, s, t, x, y, s1, t1, hx, hy, e1, e2, e3⟩ := qd_ex h hs
  have ep : tw w s t p = (x, y) := e1
  have eq' : tw w s t q = (-y, x) := e2
  have N := qd_nz (R := R) hx hy (by rw [hR, e3])
  rw [← ep, ← eq', tw_md s1 t1, tw_md s1 t1, tw_md s1 t1] at N
  obtain ⟨n0, ⟨n1, n2⟩, n3, n4, n5, n6⟩ := N
  exact ⟨tw_nz s1 t1 n0, ⟨tw_nz s1 t1 n1, tw_nz s1 t1 n2⟩, tw_nz s1 t1 n3, tw_nz s1 t1 n4, tw_nz s1 t1 n5, tw_nz s1 t1 n6⟩
