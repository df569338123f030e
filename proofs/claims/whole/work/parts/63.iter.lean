/-! MANY TICKS. -/
section
variable {N J R : Int} {e lim pc : Int → Int}
noncomputable def tk (N J R : Int) (e lim pc : Int → Int) (hd : Prop) (q : Int × Int × Int) : Int × Int × Int := ((tickS N J R e lim pc hd q.1 q.2.1 q.2.2).1, (tickS N J R e lim pc hd q.1 q.2.1 q.2.2).2.1, (tickS N J R e lim pc hd q.1 q.2.1 q.2.2).2.2.1)
noncomputable def tkb (N J R : Int) (e lim pc : Int → Int) (hd : Prop) (q : Int × Int × Int) : Int := (tickS N J R e lim pc hd q.1 q.2.1 q.2.2).2.2.2
def dn (N : Int) (e : Int → Int) (q : Int × Int × Int) : Prop := (q.2.1 = 0 ∧ q.2.2 = 0) ∧ q.1 = AL N e
noncomputable def itS (N J R : Int) (e lim pc : Int → Int) (hd : Prop) : Nat → Int × Int × Int → Int × Int × Int
  | 0, q => q
  | k + 1, q => itS N J R e lim pc hd k (tk N J R e lim pc hd q)
theorem tk_dn {hd : Prop} {q : Int × Int × Int} (h : dn N e q) : tk N J R e lim pc hd q = q := by
  unfold tk tickS
  rw [ci_t ⟨h.1, Or.inr h.2⟩]
theorem itS_dn {hd : Prop} {q : Int × Int × Int} (h : dn N e q) : ∀ k : Nat, itS N J R e lim pc hd k q = q
  | 0 => rfl
  | k + 1 => by
    show itS N J R e lim pc hd k (tk N J R e lim pc hd q) = q
    rw [tk_dn h]
    exact itS_dn h k
def RSq (N J R : Int) (e : Int → Int) (q : Int × Int × Int) : Prop := RS N J R e q.1 q.2.1 q.2.2
theorem RSq_tk (E : EnvOK N J R e lim pc) {hd : Prop} {q : Int × Int × Int} (h : RSq N J R e q) : RSq N J R e (tk N J R e lim pc hd q) := RS_tick E h
theorem RSq_it (E : EnvOK N J R e lim pc) {hd : Prop} : ∀ (k : Nat) (q : Int × Int × Int), RSq N J R e q → RSq N J R e (itS N J R e lim pc hd k q)
  | 0, q, h => h
  | k + 1, q, h => RSq_it E k _ (RSq_tk E h)
theorem tkb_ok (E : EnvOK N J R e lim pc) {hd : Prop} {q : Int × Int × Int} (h : RSq N J R e q) : -1 ≤ tkb N J R e lim pc hd q ∧ tkb N J R e lim pc hd q ≤ 1 := by
  have hR := E.2.2.1
  unfold tkb tickS
  by_cases c1 : (q.2.1 = 0 ∧ q.2.2 = 0) ∧ (hd ∨ q.1 = AL N e)
  · rw [ci_t c1]; exact ⟨by show (-1 : Int) ≤ 0; decide, by show (0 : Int) ≤ 1; decide⟩
  · rw [ci_f c1]
    by_cases c2 : hd
    · rw [ci_t c2]
      have hn : ¬ (q.2.1 = 0 ∧ q.2.2 = 0) := fun z => c1 ⟨z, Or.inl c2⟩
      exact (brk_ok hR.1 h.1 hn).2.1
    · rw [ci_f c2]
      by_cases c3 : q.2.1 = 0 ∧ q.2.2 = 0
      · rw [ci_t c3]
        by_cases c4 : Fit N J R e lim pc q.1 q.2.1 q.2.2 1
        · rw [ci_t c4]; exact ⟨by show (-1 : Int) ≤ 1; decide, by show (1 : Int) ≤ 1; decide⟩
        · rw [ci_f c4]
          by_cases c5 : AL N e - q.1 < 2 * J
          · rw [ci_t c5]; exact ⟨by show (-1 : Int) ≤ 0; decide, by show (0 : Int) ≤ 1; decide⟩
          · rw [ci_f c5]; exact ⟨by show (-1 : Int) ≤ 0; decide, by show (0 : Int) ≤ 1; decide⟩
      · rw [ci_f c3]
        by_cases c4 : Fit N J R e lim pc q.1 q.2.1 q.2.2 1
        · rw [ci_t c4]; exact ⟨by show (-1 : Int) ≤ 1; decide, by show (1 : Int) ≤ 1; decide⟩
        · rw [ci_f c4]
          by_cases c5 : Fit N J R e lim pc q.1 q.2.1 q.2.2 0
          · rw [ci_t c5]; exact ⟨by show (-1 : Int) ≤ 0; decide, by show (0 : Int) ≤ 1; decide⟩
          · rw [ci_f c5]
            by_cases c6 : Fit N J R e lim pc q.1 q.2.1 q.2.2 (-1)
            · rw [ci_t c6]; exact ⟨by show (-1 : Int) ≤ -1; decide, by show (-1 : Int) ≤ 1; decide⟩
            · rw [ci_f c6]; exact (brk_ok hR.1 h.1 c3).2.1
noncomputable def tillS (N J R : Int) (e lim pc : Int → Int) (hd : Prop) : Nat → Int → Int × Int × Int → Int
  | 0, k, q => ci (dn N e q) k (-2)
  | r + 1, k, q => ci (dn N e q) k (tillS N J R e lim pc hd r (k + 1) (tk N J R e lim pc hd q))
noncomputable def dueS (N J R : Int) (e lim pc : Int → Int) (hd : Prop) (a : Int) : Nat → Int → Int × Int × Int → Int
  | 0, _, _ => -2
  | r + 1, k, q => ci (a ≤ (tk N J R e lim pc hd q).1) k (dueS N J R e lim pc hd a r (k + 1) (tk N J R e lim pc hd q))
def brn (R : Int) : Nat → Int → Int → Int
  | 0, _, _ => 0
  | f + 1, w, u => if w = 0 ∧ u = 0 then 0 else 1 + brn R f (w + (u + brk R w u)) (u + brk R w u)
end
/-! the class -/
section
variable {n : Nat} {m h : Hp} {D w0 tol j p x : Int}
def CQ (m h : Hp) (x : Int) (q : Int × Int × Int) : Prop := CR m h x q.1 q.2.1 q.2.2
theorem CE.ft {h' : Hp} (C : CE m h D w0 tol j p) (hx : D + 6 < x) (F : FT D x h h') (hF : FC h' D (rchS m j)) : CE m h' D w0 tol j p := C.mv hx F.1 hF
theorem tick_cq (hn : 2000 ≤ n) (H : WFp m) (hj : 1 ≤ j ∧ j ≤ 50) (C : CE m h D w0 tol j p) {q : Int × Int × Int} (hx : D + 6 < x) (hr : CQ m h x q) (S : RSq (nB m) j (rchS m j) (ee m) q) {hd : Prop} (hh : h x 5 ≠ 0 ↔ hd) :
    ∃ h', MX1_tick n D x h = some (tkb (nB m) j (rchS m j) (ee m) (limS m j p) (paceS m tol j) hd q, h') ∧ FT D x h h' ∧ FC h' D (rchS m j) ∧ CQ m h' x (tk (nB m) j (rchS m j) (ee m) (limS m j p) (paceS m tol j) hd q) := by
  have e1 : (h x 5 ≠ 0) = hd := propext hh
  subst e1
  exact tick_c hn H hj C hx hr S
theorem isDone_cq (H : WFp m) (C : CE m h D w0 tol j p) {q : Int × Int × Int} (hr : CQ m h x q) (hs : q.1 ≤ AL (nB m) (ee m)) : MX1_isDone D x h = some (ci (dn (nB m) (ee m) q) 1 0) := by
  rw [isDone_c H C hr hs]
  by_cases hdn : dn (nB m) (ee m) q
  · rw [ci_t hdn]; exact congrArg some (if_pos hdn)
  · rw [ci_f hdn]; exact congrArg some (if_neg hdn)
theorem goOn_l (hn : 2000 ≤ n) (H : WFp m) (hj : 1 ≤ j ∧ j ≤ 50) (hx : D + 6 < x) {hd : Prop} {cnt : Int} (hc : cnt ≤ 1000000) : ∀ (r f : Nat) (k : Int) (h : Hp) (q : Int × Int × Int), cnt = k + r → r < f → 0 ≤ k → CE m h D w0 tol j p → CQ m h x q → RSq (nB m) j (rchS m j) (ee m) q → (h x 5 ≠ 0 ↔ hd) →
    ∃ h', BX1_goOn_2 n f D x cnt k h = some h' ∧ FT D x h h' ∧ FC h' D (rchS m j) ∧ CQ m h' x (itS (nB m) j (rchS m j) (ee m) (limS m j p) (paceS m tol j) hd r q)
  | 0, f + 1, k, h, q, hk, hf, k0, C, hr, S, hh => by
    rw [BX1_goOn_2, if_pos (by omega)]
    exact ⟨h, rfl, FT.rf, C.2.2.2.2.2, hr⟩
  | r + 1, f + 1, k, h, q, hk, hf, k0, C, hr, S, hh => by
    have E := env_ok H (tol := tol) (p := p) hj
    rw [BX1_goOn_2, if_neg (by omega), isDone_cq H C hr (S.le E), bndp_s]
    by_cases hdn : dn (nB m) (ee m) q
    · rw [ci_t hdn, if_pos (by decide), itS_dn hdn]
      exact ⟨h, rfl, FT.rf, C.2.2.2.2.2, hr⟩
    · obtain ⟨g, g1, g2, g3, g4⟩ := tick_cq hn H hj C hx hr S hh
      rw [ci_f hdn, if_neg (fun z => z rfl), g1, bnd_s, ltt_e, w32_i (x := k + 1) (by omega)]
      obtain ⟨h', p1, p2, p3, p4⟩ := goOn_l hn H hj hx (hd := hd) hc r f (k + 1) g _ (by omega) (by omega) (by omega) (C.ft hx g2 g3) g4 (RSq_tk E S) (by rw [g2.2 5 (by decide)]; exact hh)
      exact ⟨h', p1, g2.tr p2, p3, p4⟩
theorem till_l (hn : 2000 ≤ n) (H : WFp m) (hj : 1 ≤ j ∧ j ≤ 50) (hx : D + 6 < x) {hd : Prop} {cnt : Int} (hc : cnt ≤ 1000000) : ∀ (r f : Nat) (k : Int) (h : Hp) (q : Int × Int × Int), cnt = k + r → r + 1 < f → 0 ≤ k → CE m h D w0 tol j p → CQ m h x q → RSq (nB m) j (rchS m j) (ee m) q → (h x 5 ≠ 0 ↔ hd) →
    ∃ h', BX1_ticksToEnd_2 n f D x cnt k h = some (tillS (nB m) j (rchS m j) (ee m) (limS m j p) (paceS m tol j) hd r k q, h') ∧ FT D x h h' ∧ FC h' D (rchS m j)
  | r, f + 1, k, h, q, hk, hf, k0, C, hr, S, hh => by
    have E := env_ok H (tol := tol) (p := p) hj
    rw [BX1_ticksToEnd_2, if_neg (by omega), isDone_cq H C hr (S.le E), bndp_s]
    by_cases hdn : dn (nB m) (ee m) q
    · rw [ci_t hdn, if_neg (by decide)]
      refine ⟨h, ?_, FT.rf, C.2.2.2.2.2⟩
      cases r with
      | zero => rw [tillS, ci_t hdn]
      | succ r => rw [tillS, ci_t hdn]
    · obtain ⟨g, g1, g2, g3, g4⟩ := tick_cq hn H hj C hx hr S hh
      rw [ci_f hdn, if_pos rfl, g1, bnd_s, ltt_e, w32_i (x := k + 1) (by omega)]
      cases r with
      | zero =>
        obtain ⟨f', rfl⟩ : ∃ f', f = f' + 1 := ⟨f - 1, by omega⟩
        rw [BX1_ticksToEnd_2, if_pos (by omega), tillS, ci_f hdn]
        exact ⟨g, rfl, g2, g3⟩
      | succ r =>
        obtain ⟨h', p1, p2, p3⟩ := till_l hn H hj hx (hd := hd) hc r f (k + 1) g _ (by omega) (by omega) (by omega) (C.ft hx g2 g3) g4 (RSq_tk E S) (by rw [g2.2 5 (by decide)]; exact hh)
        rw [tillS, ci_f hdn]
        exact ⟨h', p1, g2.tr p2, p3⟩
theorem due_l (hn : 2000 ≤ n) (H : WFp m) (hj : 1 ≤ j ∧ j ≤ 50) (hx : (50 : Int) + 6 < 65) {hd : Prop} {a : Int} : ∀ (r f : Nat) (k : Int) (h : Hp) (q : Int × Int × Int), 3001 = k + r → r < f → 0 ≤ k → CE m h 50 w0 tol j p → CQ m h 65 q → RSq (nB m) j (rchS m j) (ee m) q → (h 65 5 ≠ 0 ↔ hd) →
    ∃ h', BX11_due_56 n f a k h = some (dueS (nB m) j (rchS m j) (ee m) (limS m j p) (paceS m tol j) hd a r k q, h') ∧ FT 50 65 h h' ∧ FC h' 50 (rchS m j)
  | 0, f + 1, k, h, q, hk, hf, k0, C, hr, S, hh => by
    rw [BX11_due_56, if_pos (by omega)]
    exact ⟨h, rfl, FT.rf, C.2.2.2.2.2⟩
  | r + 1, f + 1, k, h, q, hk, hf, k0, C, hr, S, hh => by
    have E := env_ok H (tol := tol) (p := p) hj
    obtain ⟨g, g1, g2, g3, g4⟩ := tick_cq hn H hj C hx hr S hh
    rw [BX11_due_56, if_neg (by omega), g1, bnd_s, g4.1, dueS, ltt_e, w32_i (x := k + 1) (by omega)]
    by_cases ha : a ≤ (tk (nB m) j (rchS m j) (ee m) (limS m j p) (paceS m tol j) hd q).1
    · rw [if_neg (by omega), ci_t ha]
      exact ⟨g, rfl, g2, g3⟩
    · obtain ⟨h', p1, p2, p3⟩ := due_l hn H hj hx (hd := hd) (a := a) r f (k + 1) g _ (by omega) (by omega) (by omega) (C.ft hx g2 g3) g4 (RSq_tk E S) (by rw [g2.2 5 (by decide)]; exact hh)
      rw [if_pos (by omega), ci_f ha]
      exact ⟨h', p1, g2.tr p2, p3⟩
theorem btr_l (hn : 2000 ≤ n) (H : WFp m) (hj : 1 ≤ j ∧ j ≤ 50) (hx : D + 6 < x) : ∀ (r f : Nat) (k : Int) (h : Hp) (s w u : Int), 1000 = k + r → r < f → 0 ≤ k → CE m h D w0 tol j p → CR m h x s w u → RS (nB m) j (rchS m j) (ee m) s w u → (nu w u < r ∨ (w = 0 ∧ u = 0 ∧ 0 < r)) →
    ∃ h', BX1_brakeToRest_2 n f D x k h = some (k + brn (rchS m j) r w u, h') ∧ FX x h h' ∧ CR m h' x (s + farF (rchS m j) r w u * j) 0 0
  | 0, f + 1, k, h, s, w, u, hk, hf, k0, C, hr, S, hnu => by omega
  | r + 1, f + 1, k, h, s, w, u, hk, hf, k0, C, hr, S, hnu => by
    have E := env_ok H (tol := tol) (p := p) hj
    have hR := E.2.2.1
    rw [BX1_brakeToRest_2, if_neg (by omega), rests_c hr, bndp_s, brn, farF]
    by_cases hz : w = 0 ∧ u = 0
    · rw [if_pos hz, if_neg (by decide), if_pos hz, if_pos hz, Int.add_zero, Int.zero_mul, Int.add_zero]
      refine ⟨h, rfl, FX.rf, ?_⟩
      rw [hz.1, hz.2] at hr
      exact hr
    · have hN := RS_N E S (fun q => hz q.1)
      obtain ⟨q1, q2, -, -⟩ := brk_ok hR.1 S.1 hz
      have b1 := S.1.1
      have b2 := S.1.2.1
      have hu := S.2.1
      have hw := S.2.2.1
      obtain ⟨g, g1, g2, g3⟩ := go_c (n := n) (by omega) H hj C hN hx hr S q2 q1.2.1
      have hnd := nu_dec hR.1 S.1 (by omega) hz
      have hne := nu_ne S.1 hz
      have Cg : CE m g D w0 tol j p := C.mv hx (fun c c1 _ => g2.1 c c1) (C.2.2.2.2.2.of (g2.1 _ (by omega)))
      rw [if_neg hz, if_pos rfl, if_neg hz, if_neg hz, hr.2.1, hr.2.2.1, brake_c C.2.2.2.1.2.1 hR (by omega) (by omega), bndp_s, g1, bnd_s, ltt_e, w32_i (x := k + 1) (by omega)]
      obtain ⟨h', p1, p2, p3⟩ := btr_l hn H hj hx r f (k + 1) g _ _ _ (by omega) (by omega) (by omega) Cg g3 (RS_brk E S hz) (by
        rcases hnd with h9 | h9
        · exact Or.inr ⟨h9.1, h9.2, by omega⟩
        · exact Or.inl (by omega))
      refine ⟨h', by rw [p1, Int.add_assoc], g2.tr p2, ?_⟩
      rw [Int.add_mul, ← Int.add_assoc]
      exact p3
end
