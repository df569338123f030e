/-! TWO LEGS OF ONE LAYER: boxes and sides against points on legs and crossings. -/
abbrev betw (p q v : Int) : Prop := min p q ≤ v ∧ v ≤ max p q
abbrev OVp (a x c : Int) : Prop := ¬ max x (x + c) < min 0 a ∧ ¬ max 0 a < min x (x + c)
abbrev NPp (p q : Int) : Prop := ¬ ((0 < p ∧ 0 < q) ∨ (p < 0 ∧ q < 0))
abbrev SPp (p q : Int) : Prop := (0 < p ∧ q < 0) ∨ (p < 0 ∧ 0 < q)
theorem mul_up {c s D : Int} (h0 : 0 ≤ s) (h1 : s ≤ D) : c * s ≤ D * max 0 c ∧ D * min 0 c ≤ c * s := by
  rcases (show 0 ≤ c ∨ c ≤ 0 by omega) with h | h
  · rw [Int.max_eq_right h, Int.min_eq_left h, Int.mul_zero, Int.mul_comm D c]
    exact ⟨Int.mul_le_mul_of_nonneg_left h1 h, Int.mul_nonneg h h0⟩
  · rw [Int.max_eq_left h, Int.min_eq_right h, Int.mul_zero, Int.mul_comm D c]
    exact ⟨Int.mul_nonpos_of_nonpos_of_nonneg h h0, Int.mul_le_mul_of_nonpos_left h h1⟩
theorem bt {D C a X : Int} (hD : 0 < D) (h : D * X = a * C) (h0 : 0 ≤ C) (h1 : C ≤ D) : betw 0 a X := by
  have := mul_up (c := a) h0 h1
  rw [← h] at this
  exact ⟨Int.le_of_mul_le_mul_left this.2 hD, Int.le_of_mul_le_mul_left this.1 hD⟩
theorem tb {D C a X : Int} (hD : 0 < D) (ha : a ≠ 0) (h : D * X = a * C) (hb : betw 0 a X) : 0 ≤ C ∧ C ≤ D := by
  rcases (show 0 < a ∨ a < 0 by omega) with g | g
  · have hb0 : 0 ≤ X := by omega
    have hb1 : X ≤ a := by omega
    have q0 : 0 ≤ a * C := by rw [← h]; exact Int.mul_nonneg (by omega) hb0
    have q1 : a * C ≤ a * D := by rw [← h, Int.mul_comm a D]; exact Int.mul_le_mul_of_nonneg_left hb1 (by omega)
    refine ⟨?_, Int.le_of_mul_le_mul_left q1 g⟩
    exact Int.le_of_mul_le_mul_left (show a * 0 ≤ a * C by rw [Int.mul_zero]; exact q0) g
  · have hb0 : 0 ≤ -X := by omega
    have hb1 : -X ≤ -a := by omega
    have g' : 0 < -a := by omega
    have h' : D * -X = -a * C := by rw [Int.mul_neg, Int.neg_mul, h]
    have q0 : 0 ≤ -a * C := by rw [← h']; exact Int.mul_nonneg (by omega) hb0
    have q1 : -a * C ≤ -a * D := by rw [← h', Int.mul_comm (-a) D]; exact Int.mul_le_mul_of_nonneg_left hb1 (by omega)
    refine ⟨?_, Int.le_of_mul_le_mul_left q1 g'⟩
    exact Int.le_of_mul_le_mul_left (show -a * 0 ≤ -a * C by rw [Int.mul_zero]; exact q0) g'
/-- the class's way: boxes overlap and neither has the other on one side; the model's way: a point on the other leg, or each strictly between -/
abbrev geoL (D C1 C3 a b c f x y : Int) : Prop := OVp a x c ∧ OVp b y f ∧ NPp C1 (C1 + D) ∧ NPp C3 (C3 - D)
abbrev geoR (D C1 C3 a b c f x y : Int) : Prop :=
  (C1 = 0 ∧ betw 0 a x ∧ betw 0 b y) ∨ (C1 + D = 0 ∧ betw 0 a (x + c) ∧ betw 0 b (y + f)) ∨ (C3 = 0 ∧ betw x (x + c) 0 ∧ betw y (y + f) 0) ∨ (C3 - D = 0 ∧ betw x (x + c) a ∧ betw y (y + f) b) ∨ (SPp C1 (C1 + D) ∧ SPp C3 (C3 - D))
theorem ov_p {D C1 C3 a c x : Int} (hD : 0 < D) (e : D * x = a * C3 + c * C1) (h1 : -D ≤ C1 ∧ C1 ≤ 0) (h3 : 0 ≤ C3 ∧ C3 ≤ D) : OVp a x c := by
  have m1 := mul_up (c := c) (s := -C1) (D := D) (by omega) (by omega)
  have m2 := mul_up (c := a) h3.1 h3.2
  rw [Int.mul_neg] at m1
  refine ⟨fun q => ?_, fun q => ?_⟩
  · have q1 : x + max 0 c < min 0 a := by omega
    have := Int.mul_lt_mul_of_pos_left q1 hD
    rw [Int.mul_add] at this
    omega
  · have q1 : max 0 a < x + min 0 c := by omega
    have := Int.mul_lt_mul_of_pos_left q1 hD
    rw [Int.mul_add] at this
    omega
theorem geo_p {D C1 C3 a b c f x y : Int} (hD : 0 < D) (e1 : D * x = a * C3 + c * C1) (e2 : D * y = b * C3 + f * C1) (hd : a ≠ 0 ∨ b ≠ 0) (he : c ≠ 0 ∨ f ≠ 0) : geoL D C1 C3 a b c f x y ↔ geoR D C1 C3 a b c f x y := by
  have n1 : D * -x = c * -C1 - a * C3 := by rw [Int.mul_neg, Int.mul_neg, e1]; omega
  have n2 : D * -y = f * -C1 - b * C3 := by rw [Int.mul_neg, Int.mul_neg, e2]; omega
  constructor
  · rintro ⟨-, -, p1, p3⟩
    have h1 : -D ≤ C1 ∧ C1 ≤ 0 := by omega
    have h3 : 0 ≤ C3 ∧ C3 ≤ D := by omega
    clear p1 p3
    by_cases z1 : C1 = 0
    · subst z1
      rw [Int.mul_zero, Int.add_zero] at e1 e2
      exact Or.inl ⟨rfl, bt hD e1 h3.1 h3.2, bt hD e2 h3.1 h3.2⟩
    by_cases z2 : C1 + D = 0
    · have hc : C1 = -D := by omega
      subst hc
      have g1 : D * (x + c) = a * C3 := by rw [Int.mul_add, e1, Int.mul_neg, Int.mul_comm c D]; omega
      have g2 : D * (y + f) = b * C3 := by rw [Int.mul_add, e2, Int.mul_neg, Int.mul_comm f D]; omega
      exact Or.inr (Or.inl ⟨z2, bt hD g1 h3.1 h3.2, bt hD g2 h3.1 h3.2⟩)
    by_cases z3 : C3 = 0
    · subst z3
      rw [Int.mul_zero, Int.sub_zero] at n1 n2
      have b1 := bt hD n1 (by omega) (by omega)
      have b2 := bt hD n2 (by omega) (by omega)
      exact Or.inr (Or.inr (Or.inl ⟨rfl, by omega, by omega⟩))
    by_cases z4 : C3 - D = 0
    · have hc : C3 = D := by omega
      subst hc
      have g1 : C3 * (a - x) = c * -C1 := by rw [Int.mul_sub, e1, Int.mul_comm C3 a, Int.mul_neg]; omega
      have g2 : C3 * (b - y) = f * -C1 := by rw [Int.mul_sub, e2, Int.mul_comm C3 b, Int.mul_neg]; omega
      have b1 := bt hD g1 (by omega) (by omega)
      have b2 := bt hD g2 (by omega) (by omega)
      exact Or.inr (Or.inr (Or.inr (Or.inl ⟨z4, by omega, by omega⟩)))
    exact Or.inr (Or.inr (Or.inr (Or.inr ⟨by omega, by omega⟩)))
  · intro h
    have key : (-D ≤ C1 ∧ C1 ≤ 0) ∧ (0 ≤ C3 ∧ C3 ≤ D) := by
      rcases h with ⟨z, q1, q2⟩ | ⟨z, q1, q2⟩ | ⟨z, q1, q2⟩ | ⟨z, q1, q2⟩ | ⟨q1, q2⟩
      · subst z
        rw [Int.mul_zero, Int.add_zero] at e1 e2
        refine ⟨by omega, ?_⟩
        rcases hd with hd | hd
        · exact tb hD hd e1 q1
        · exact tb hD hd e2 q2
      · have hc : C1 = -D := by omega
        subst hc
        have g1 : D * (x + c) = a * C3 := by rw [Int.mul_add, e1, Int.mul_neg, Int.mul_comm c D]; omega
        have g2 : D * (y + f) = b * C3 := by rw [Int.mul_add, e2, Int.mul_neg, Int.mul_comm f D]; omega
        refine ⟨by omega, ?_⟩
        rcases hd with hd | hd
        · exact tb hD hd g1 q1
        · exact tb hD hd g2 q2
      · subst z
        rw [Int.mul_zero, Int.sub_zero] at n1 n2
        have : 0 ≤ -C1 ∧ -C1 ≤ D := by
          rcases he with he | he
          · exact tb hD he n1 (by omega)
          · exact tb hD he n2 (by omega)
        omega
      · have hc : C3 = D := by omega
        subst hc
        have g1 : C3 * (a - x) = c * -C1 := by rw [Int.mul_sub, e1, Int.mul_comm C3 a, Int.mul_neg]; omega
        have g2 : C3 * (b - y) = f * -C1 := by rw [Int.mul_sub, e2, Int.mul_comm C3 b, Int.mul_neg]; omega
        have : 0 ≤ -C1 ∧ -C1 ≤ C3 := by
          rcases he with he | he
          · exact tb hD he g1 (by omega)
          · exact tb hD he g2 (by omega)
        omega
      · omega
    clear h
    exact ⟨ov_p hD e1 key.1 key.2, ov_p hD e2 key.1 key.2, by omega, by omega⟩
theorem bt2 {a b X Y : Int} (ha : a ≠ 0) (h : a * Y = b * X) (hb : betw 0 a X) : betw 0 b Y := by
  rcases (show 0 < a ∨ a < 0 by omega) with g | g
  · exact bt g h (by omega) (by omega)
  · have h' : -a * Y = b * -X := by rw [Int.neg_mul, Int.mul_neg, h]
    exact bt (by omega) h' (by omega) (by omega)
theorem npz {p : Int} (h : NPp p (p + 0)) : p = 0 := by omega
theorem spz {p : Int} (h : SPp p (p + 0)) : False := by omega
theorem geo_z {C1 C3 a b c f x y : Int} (e1 : a * C3 + c * C1 = 0) (e2 : b * C3 + f * C1 = 0) (hC1 : C1 = a * y - b * x) (hC3 : C3 = f * x - c * y) (hD : a * f = b * c) (hd : a ≠ 0 ∨ b ≠ 0) (he : c ≠ 0 ∨ f ≠ 0) : geoL 0 C1 C3 a b c f x y ↔ geoR 0 C1 C3 a b c f x y := by
  have k13 : C1 = 0 → C3 = 0 := fun z => by
    rw [z, Int.mul_zero, Int.add_zero] at e1 e2
    rcases hd with h | h
    · exact (Int.mul_eq_zero.mp e1).resolve_left h
    · exact (Int.mul_eq_zero.mp e2).resolve_left h
  have k31 : C3 = 0 → C1 = 0 := fun z => by
    rw [z, Int.mul_zero, Int.zero_add] at e1 e2
    rcases he with h | h
    · exact (Int.mul_eq_zero.mp e1).resolve_left h
    · exact (Int.mul_eq_zero.mp e2).resolve_left h
  by_cases z : C1 = 0
  · have z3 := k13 z
    have r1 : a * y = b * x := by omega
    have r3 : f * x = c * y := by omega
    have r2 : a * (y + f) = b * (x + c) := by rw [Int.mul_add, Int.mul_add]; omega
    have r4 : c * -y = f * -x := by rw [Int.mul_neg, Int.mul_neg]; omega
    have r5 : f * -x = c * -y := r4.symm
    clear e1 e2 hC1 hC3 k13 k31
    subst z
    subst z3
    constructor
    · rintro ⟨o1, o2, -, -⟩
      by_cases ha : a = 0
      · subst ha
        have hb : b ≠ 0 := by omega
        rw [Int.zero_mul] at r1 hD
        have hx : x = 0 := (Int.mul_eq_zero.mp r1.symm).resolve_left hb
        have hc : c = 0 := (Int.mul_eq_zero.mp hD.symm).resolve_left hb
        clear r1 r2 r3 r4 r5 hD
        subst hx
        subst hc
        rcases (show betw 0 b y ∨ betw 0 b (y + f) ∨ betw y (y + f) 0 by omega) with q | q | q
        · exact Or.inl ⟨rfl, by omega, q⟩
        · exact Or.inr (Or.inl ⟨rfl, by omega, q⟩)
        · exact Or.inr (Or.inr (Or.inl ⟨rfl, by omega, q⟩))
      · have hc : c ≠ 0 := fun q => by
          rw [q, Int.mul_zero] at hD
          have := (Int.mul_eq_zero.mp hD).resolve_left ha
          omega
        rcases (show betw 0 a x ∨ betw 0 a (x + c) ∨ betw x (x + c) 0 by omega) with q | q | q
        · exact Or.inl ⟨rfl, q, bt2 ha r1 q⟩
        · exact Or.inr (Or.inl ⟨rfl, q, bt2 ha r2 q⟩)
        · have := bt2 hc r4 (show betw 0 c (-x) by omega)
          exact Or.inr (Or.inr (Or.inl ⟨rfl, q, by omega⟩))
    · rintro (⟨-, q1, q2⟩ | ⟨-, q1, q2⟩ | ⟨-, q1, q2⟩ | ⟨-, q1, q2⟩ | ⟨q1, q2⟩)
      · exact ⟨by omega, by omega, by omega, by omega⟩
      · exact ⟨by omega, by omega, by omega, by omega⟩
      · exact ⟨by omega, by omega, by omega, by omega⟩
      · exact ⟨by omega, by omega, by omega, by omega⟩
      · omega
  · have z3 : C3 ≠ 0 := fun q => z (k31 q)
    clear e1 e2 hC1 hC3 hD k13 k31
    constructor
    · rintro ⟨-, -, p1, -⟩
      exact absurd (npz p1) z
    · rintro (⟨q, -⟩ | ⟨q, -⟩ | ⟨q, -⟩ | ⟨q, -⟩ | ⟨q, -⟩)
      · exact absurd q z
      · rw [Int.add_zero] at q
        exact absurd q z
      · exact absurd q z3
      · rw [Int.sub_zero] at q
        exact absurd q z3
      · exact (spz q).elim
theorem geo {D C1 C3 a b c f x y : Int} (hD : D = a * f - b * c) (hC1 : C1 = a * y - b * x) (hC3 : C3 = f * x - c * y) (hd : a ≠ 0 ∨ b ≠ 0) (he : c ≠ 0 ∨ f ≠ 0) : geoL D C1 C3 a b c f x y ↔ geoR D C1 C3 a b c f x y := by
  have e1 : D * x = a * C3 + c * C1 := by
    rw [hD, hC1, hC3, Int.sub_mul, Int.mul_sub, Int.mul_sub, Int.mul_assoc, Int.mul_assoc, Int.mul_left_comm a c y, Int.mul_left_comm c b x]
    omega
  have e2 : D * y = b * C3 + f * C1 := by
    rw [hD, hC1, hC3, Int.sub_mul, Int.mul_sub, Int.mul_sub, Int.mul_assoc, Int.mul_assoc, Int.mul_left_comm b f x, Int.mul_left_comm f a y]
    omega
  rcases (show 0 < D ∨ D < 0 ∨ D = 0 by omega) with h | h | h
  · exact geo_p h e1 e2 hd he
  · have g1 : -D * x = a * -C3 + c * -C1 := by rw [Int.neg_mul, e1, Int.mul_neg, Int.mul_neg]; omega
    have g2 : -D * y = b * -C3 + f * -C1 := by rw [Int.neg_mul, e2, Int.mul_neg, Int.mul_neg]; omega
    have := geo_p (by omega) g1 g2 hd he
    clear g1 g2 e1 e2 hD hC1 hC3
    constructor
    · rintro ⟨o1, o2, p1, p3⟩
      rcases this.mp ⟨o1, o2, by omega, by omega⟩ with ⟨z, q1, q2⟩ | ⟨z, q1, q2⟩ | ⟨z, q1, q2⟩ | ⟨z, q1, q2⟩ | ⟨q1, q2⟩
      · exact Or.inl ⟨by omega, q1, q2⟩
      · exact Or.inr (Or.inl ⟨by omega, q1, q2⟩)
      · exact Or.inr (Or.inr (Or.inl ⟨by omega, q1, q2⟩))
      · exact Or.inr (Or.inr (Or.inr (Or.inl ⟨by omega, q1, q2⟩)))
      · exact Or.inr (Or.inr (Or.inr (Or.inr ⟨by omega, by omega⟩)))
    · intro hr
      have hr' : geoR (-D) (-C1) (-C3) a b c f x y := by
        rcases hr with ⟨z, q1, q2⟩ | ⟨z, q1, q2⟩ | ⟨z, q1, q2⟩ | ⟨z, q1, q2⟩ | ⟨q1, q2⟩
        · exact Or.inl ⟨by omega, q1, q2⟩
        · exact Or.inr (Or.inl ⟨by omega, q1, q2⟩)
        · exact Or.inr (Or.inr (Or.inl ⟨by omega, q1, q2⟩))
        · exact Or.inr (Or.inr (Or.inr (Or.inl ⟨by omega, q1, q2⟩)))
        · exact Or.inr (Or.inr (Or.inr (Or.inr ⟨by omega, by omega⟩)))
      obtain ⟨o1, o2, p1, p3⟩ := this.mpr hr'
      clear hr hr' this
      exact ⟨o1, o2, by omega, by omega⟩
  · subst h
    rw [Int.zero_mul] at e1 e2
    exact geo_z e1.symm e2.symm hC1 hC3 (by omega) hd he
