/-! RUN: the class. -/
section
variable {n : Nat} {m h : Hp} {w0 tol j p : Int}
def TL (h : Hp) (a b c d k : Int) : Prop := h 112 0 = a ∧ h 112 1 = b ∧ h 112 2 = c ∧ h 112 3 = d ∧ h 112 4 = k
/-- what the survey may change -/
def FS (h h' : Hp) : Prop := (∀ c : Int, c ≠ 65 → c ≠ 51 → c ≠ 112 → h' c = h c) ∧ ∀ i : Int, (i < 0 ∨ 3 < i) → h' 65 i = h 65 i
theorem FS.tr {h g k : Hp} (a : FS h g) (b : FS g k) : FS h k := ⟨fun c h1 h2 h3 => (b.1 c h1 h2 h3).trans (a.1 c h1 h2 h3), fun i hi => (b.2 i hi).trans (a.2 i hi)⟩
theorem FS.put {h g : Hp} (a : FS h g) {i v : Int} : FS h (up g 112 i v) := ⟨fun c h1 h2 h3 => by rw [up_row h3]; exact a.1 c h1 h2 h3, fun k hk => by rw [up_c (by decide)]; exact a.2 k hk⟩
theorem atLimit_c (H : WFp m) (hj : 1 ≤ j ∧ j ≤ 50) (C : CE m h 50 w0 tol j p) (hN : 0 < nB m) {q : Int × Int × Int} (hr : CQ m h 65 q) : MX1_isAtLimit 50 65 h = some (ci (q.2.1 = limS m j p (blk (ee m) (nB m) q.1)) 1 0) := by
  have hB := H.1
  have E := env_ok H (tol := tol) (p := p) hj
  have hbk := (blk_ok E (s := q.1) hN).1
  have eL : h (50 + 2 + 1) (blk (ee m) (nB m) q.1) = limS m j p (blk (ee m) (nB m) q.1) := C.2.2.2.2.1 _ hbk.1 hbk.2
  unfold MX1_isAtLimit
  rw [hr.2.2.2, C.2.2.1, has_c C.2.1, bndp_s, if_pos hbk, if_neg (by decide), al532, grd_t (by omega), hr.2.1, eL]
  by_cases e1 : q.2.1 = limS m j p (blk (ee m) (nB m) q.1)
  · rw [if_neg (fun z => z e1), ci_t e1]
  · rw [if_pos e1, ci_f e1]
theorem survey_l (hn : 2000 ≤ n) (H : WFp m) (hj : 1 ≤ j ∧ j ≤ 50) : ∀ (r f : Nat) (i was a b c d k : Int) (h : Hp) (q : Int × Int × Int), i + r = 3000 → r < f → 0 ≤ i → CE m h 50 w0 tol j p → CQ m h 65 q → RSq (nB m) j (rchS m j) (ee m) q → h 65 5 = 0 → TL h a b c d k → (0 ≤ b ∧ b ≤ i) → (0 ≤ c ∧ c ≤ i) → (0 ≤ d ∧ d ≤ i) → (0 ≤ k ∧ k ≤ i) →
    ∃ o h', BX11_survey_44 n f was i h = some (o, h') ∧ FS h h' ∧ FC h' 50 (rchS m j) ∧ match runS (nB m) j (rchS m j) (ee m) (limS m j p) (paceS m tol j) r was a b c d k q with
      | none => o = 0
      | some t => o = 1 ∧ TL h' t.1 t.2.1 t.2.2.1 t.2.2.2.1 t.2.2.2.2
  | r, f + 1, i, was, a, b, c, d, k, h, q, hk, hf, k0, C, hr, S, hh, ht, hb, hc, hd, hkk => by
    have E := env_ok H (tol := tol) (p := p) hj
    have hx : (50 : Int) + 6 < 65 := by decide
    have idn := isDone_cq H C hr (S.le E)
    rw [BX11_survey_44, idn, bndp_s]
    by_cases hdn : dn (nB m) (ee m) q
    · have e1 : runS (nB m) j (rchS m j) (ee m) (limS m j p) (paceS m tol j) r was a b c d k q = some (a, b, c, d, k) := by
        cases r with
        | zero => rw [runS, ci_t hdn]
        | succ r => rw [runS, ci_t hdn]
      rw [e1, ci_t hdn, bndp_s, if_pos (show (1 : Int) ≠ 0 by decide), grd_t (Or.inr rfl)]
      refine ⟨1, h, ?_, ⟨fun _ _ _ _ => rfl, fun _ _ => rfl⟩, C.2.2.2.2.2, rfl, ht⟩
      split <;> rfl
    · rw [ci_f hdn]
      cases r with
      | zero =>
        rw [if_pos (by omega), grd_t (Or.inl rfl), runS, ci_f hdn]
        exact ⟨0, h, rfl, ⟨fun _ _ _ _ => rfl, fun _ _ => rfl⟩, C.2.2.2.2.2, rfl⟩
      | succ r =>
        have hN := RS_N E S (fun z => hdn z)
        obtain ⟨g, g1, g2, g3, g4⟩ := tick_cq hn H hj C hx hr S (hd := False) ⟨fun z => z hh, fun z => z.elim⟩
        have S2 : RSq (nB m) j (rchS m j) (ee m) (tk (nB m) j (rchS m j) (ee m) (limS m j p) (paceS m tol j) False q) := RSq_tk E S
        have Cg := C.ft hx g2 g3
        have h52 : g 65 5 = 0 := by rw [g2.2 5 (by decide)]; exact hh
        have tb := tkb_ok E (hd := False) S
        have Fg : FS h g := ⟨fun c h1 h2 _ => g2.1 c h1 h2, g2.2⟩
        have e112 : g 112 = h 112 := g2.1 112 (by decide) (by decide)
        rw [runS, ci_f hdn, if_neg (by omega), bndp_s, if_neg (fun z => z rfl), g1, bnd_s, ltt_e, al60, grd_t (by decide), grd_t (by decide), ltt_e, grd_t (by decide), g4.2.1, e112, ht.1]
        generalize tkb (nB m) j (rchS m j) (ee m) (limS m j p) (paceS m tol j) False q = TB at *
        generalize tk (nB m) j (rchS m j) (ee m) (limS m j p) (paceS m tol j) False q = Q at *
        have hbk := (blk_ok E (s := Q.1) hN).1
        have keep : ∀ {g1 : Hp} {i v : Int}, CE m g1 50 w0 tol j p ∧ CQ m g1 65 Q ∧ g1 65 5 = 0 ∧ FS h g1 → CE m (up g1 112 i v) 50 w0 tol j p ∧ CQ m (up g1 112 i v) 65 Q ∧ up g1 112 i v 65 5 = 0 ∧ FS h (up g1 112 i v) := fun {g1 i v} z =>
          ⟨z.1.mv (x := 112) (by decide) (fun c h1 _ => up_row h1) (z.1.2.2.2.2.2.of (up_row (by decide))), CR.mv z.2.1 (up_row (by decide)), by rw [up_c (by decide)]; exact z.2.2.1, z.2.2.2.put⟩
        have z0 : CE m g 50 w0 tol j p ∧ CQ m g 65 Q ∧ g 65 5 = 0 ∧ FS h g := ⟨Cg, g4, h52, Fg⟩
        have fin : ∀ (v4 : Int) (g1 : Hp), (v4 = 0 ∨ v4 = 1) → CE m g1 50 w0 tol j p ∧ CQ m g1 65 Q ∧ g1 65 5 = 0 ∧ FS h g1 → g1 112 4 = k → JX11_survey_180 n (BX11_survey_44 n f) i TB 4 k v4 g1 = BX11_survey_44 n f TB (i + 1) (up g1 112 4 (k + v4)) := fun v4 g1 hv z e4 => by
          unfold JX11_survey_180
          rw [al60, grd_t (by decide), ltt_e, ltt_e, ltt_e, w32_i (x := k + v4) (by omega), w32_i (x := i + 1) (by omega)]
        have t161 : ∀ (v3 : Int) (g1 : Hp), (v3 = 0 ∨ v3 = 1) → CE m g1 50 w0 tol j p ∧ CQ m g1 65 Q ∧ g1 65 5 = 0 ∧ FS h g1 → g1 112 4 = k → JX11_survey_161 n (BX11_survey_44 n f) was i TB 3 d v3 g1 = BX11_survey_44 n f TB (i + 1) (up (up g1 112 3 (d + v3)) 112 4 (k + ci (TB = was) 0 1)) := fun v3 g1 hv z e4 => by
          unfold JX11_survey_161
          rw [al60, grd_t (by decide), ltt_e, w32_i (x := d + v3) (by omega), grd_t (by decide), up_i (j := 4) (by decide), e4]
          have e4' : up g1 112 3 (d + v3) 112 4 = k := by rw [up_i (by decide)]; exact e4
          by_cases e1 : TB = was
          · rw [if_pos e1, fin 0 _ (Or.inl rfl) (keep z) e4', ci_t e1]
          · rw [if_neg e1, fin 1 _ (Or.inr rfl) (keep z) e4', ci_f e1]
        have t133 : ∀ (v2 : Int) (g1 : Hp), (v2 = 0 ∨ v2 = 1) → CE m g1 50 w0 tol j p ∧ CQ m g1 65 Q ∧ g1 65 5 = 0 ∧ FS h g1 → g1 112 3 = d → g1 112 4 = k → JX11_survey_133 n (BX11_survey_44 n f) was i TB 2 c v2 g1 = BX11_survey_44 n f TB (i + 1) (up (up (up g1 112 2 (c + v2)) 112 3 (d + ci (Q.2.1 = limS m j p (blk (ee m) (nB m) Q.1)) 1 0)) 112 4 (k + ci (TB = was) 0 1)) := fun v2 g1 hv z e3 e4 => by
          unfold JX11_survey_133
          rw [al60, grd_t (by decide), ltt_e, w32_i (x := c + v2) (by omega), grd_t (by decide), atLimit_c H hj (keep z).1 hN (keep z).2.1, bndp_s, up_i (j := 3) (by decide), e3]
          have e4' : up g1 112 2 (c + v2) 112 4 = k := by rw [up_i (by decide)]; exact e4
          by_cases e1 : Q.2.1 = limS m j p (blk (ee m) (nB m) Q.1)
          · rw [ci_t e1, if_neg (by decide), t161 1 _ (Or.inr rfl) (keep z) e4']
          · rw [ci_f e1, if_pos rfl, t161 0 _ (Or.inl rfl) (keep z) e4']
        have t115 : ∀ (v1 : Int) (g1 : Hp), (v1 = 0 ∨ v1 = 1) → CE m g1 50 w0 tol j p ∧ CQ m g1 65 Q ∧ g1 65 5 = 0 ∧ FS h g1 → g1 112 2 = c → g1 112 3 = d → g1 112 4 = k → JX11_survey_115 n (BX11_survey_44 n f) was i TB 1 b v1 g1 = BX11_survey_44 n f TB (i + 1) (up (up (up (up g1 112 1 (b + v1)) 112 2 (c + ci (TB = -1) 1 0)) 112 3 (d + ci (Q.2.1 = limS m j p (blk (ee m) (nB m) Q.1)) 1 0)) 112 4 (k + ci (TB = was) 0 1)) := fun v1 g1 hv z e2 e3 e4 => by
          unfold JX11_survey_115
          rw [al60, grd_t (by decide), ltt_e, w32_i (x := b + v1) (by omega), grd_t (by decide), up_i (j := 2) (by decide), e2]
          have e3' : up g1 112 1 (b + v1) 112 3 = d := by rw [up_i (by decide)]; exact e3
          have e4' : up g1 112 1 (b + v1) 112 4 = k := by rw [up_i (by decide)]; exact e4
          by_cases e1 : TB = -1
          · rw [if_neg (by omega), t133 1 _ (Or.inr rfl) (keep z) e3' e4', ci_t e1]
          · rw [if_pos (by omega), t133 0 _ (Or.inl rfl) (keep z) e3' e4', ci_f e1]
        have z1 := keep (i := 0) (v := max a Q.2.1) z0
        have y1 : up g 112 0 (max a Q.2.1) 112 1 = b := by rw [up_i (by decide), e112]; exact ht.2.1
        have y2 : up g 112 0 (max a Q.2.1) 112 2 = c := by rw [up_i (by decide), e112]; exact ht.2.2.1
        have y3 : up g 112 0 (max a Q.2.1) 112 3 = d := by rw [up_i (by decide), e112]; exact ht.2.2.2.1
        have y4 : up g 112 0 (max a Q.2.1) 112 4 = k := by rw [up_i (by decide), e112]; exact ht.2.2.2.2
        rw [y1]
        have c01 : ∀ P : Prop, 0 ≤ ci P (1 : Int) 0 ∧ ci P (1 : Int) 0 ≤ 1 ∧ 0 ≤ ci P (0 : Int) 1 ∧ ci P (0 : Int) 1 ≤ 1 := fun P => by
          by_cases hP : P
          · rw [ci_t hP, ci_t hP]; decide
          · rw [ci_f hP, ci_f hP]; decide
        have k1 := c01 (TB = 1)
        have k2 := c01 (TB = -1)
        have k3 := c01 (Q.2.1 = limS m j p (blk (ee m) (nB m) Q.1))
        have k4 := c01 (TB = was)
        have hall : (if TB ≤ 0 then JX11_survey_115 n (BX11_survey_44 n f) was i TB 1 b 0 (up g 112 0 (max a Q.2.1)) else JX11_survey_115 n (BX11_survey_44 n f) was i TB 1 b 1 (up g 112 0 (max a Q.2.1))) = BX11_survey_44 n f TB (i + 1) (up (up (up (up (up g 112 0 (max a Q.2.1)) 112 1 (b + ci (TB = 1) 1 0)) 112 2 (c + ci (TB = -1) 1 0)) 112 3 (d + ci (Q.2.1 = limS m j p (blk (ee m) (nB m) Q.1)) 1 0)) 112 4 (k + ci (TB = was) 0 1)) := by
          by_cases e1 : TB = 1
          · rw [if_neg (by omega), t115 1 _ (Or.inr rfl) z1 y2 y3 y4, ci_t e1]
          · rw [if_pos (by omega), t115 0 _ (Or.inl rfl) z1 y2 y3 y4, ci_f e1]
        have z5 := keep (i := 4) (v := k + ci (TB = was) 0 1) (keep (i := 3) (v := d + ci (Q.2.1 = limS m j p (blk (ee m) (nB m) Q.1)) 1 0) (keep (i := 2) (v := c + ci (TB = -1) 1 0) (keep (i := 1) (v := b + ci (TB = 1) 1 0) z1)))
        obtain ⟨o, h', p1, p2, p3, p4⟩ := survey_l hn H hj r f (i + 1) TB (max a Q.2.1) (b + ci (TB = 1) 1 0) (c + ci (TB = -1) 1 0) (d + ci (Q.2.1 = limS m j p (blk (ee m) (nB m) Q.1)) 1 0) (k + ci (TB = was) 0 1) _ Q (by omega) (by omega) (by omega) z5.1 z5.2.1 S2 z5.2.2.1 ⟨by rw [up_i (by decide), up_i (by decide), up_i (by decide), up_i (by decide), up_s], by rw [up_i (by decide), up_i (by decide), up_i (by decide), up_s], by rw [up_i (by decide), up_i (by decide), up_s], by rw [up_i (by decide), up_s], up_s⟩ (by omega) (by omega) (by omega) (by omega)
        refine ⟨o, h', ?_, z5.2.2.2.tr p2, p3, p4⟩
        rw [hall]
        exact p1
end
