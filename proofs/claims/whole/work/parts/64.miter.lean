/-! MANY TICKS: the model. -/
section
variable {n : Nat} {m h : Hp} {tol j p : Int}
def MQr (h : Hp) (q : Int × Int × Int) : Prop := MR h q.1 q.2.1 q.2.2
theorem tick_mq (hn : 1000 ≤ n) (H : WFp m) (hj : 1 ≤ j ∧ j ≤ 50) (D : LD m tol j p h) {q : Int × Int × Int} (hr : MQr h q) (S : RSq (nB m) j (rchS m j) (ee m) q) {hd : Prop} (hh : h 113 52 ≠ 0 ↔ hd) :
    ∃ h', MX12_tick n h = some h' ∧ FR h h' ∧ MQr h' (tk (nB m) j (rchS m j) (ee m) (limS m j p) (paceS m tol j) hd q) ∧ h' 113 51 = tkb (nB m) j (rchS m j) (ee m) (limS m j p) (paceS m tol j) hd q := by
  have e1 : (h 113 52 ≠ 0) = hd := propext hh
  subst e1
  exact tick_m hn H hj D hr S
theorem isDone_mq (H : WFp m) (K : KM m h) {q : Int × Int × Int} (hr : MQr h q) : MX12_isDone h = some (ci (dn (nB m) (ee m) q) 1 0) := by
  rw [isDone_m H K hr]
  by_cases hdn : dn (nB m) (ee m) q
  · rw [ci_t hdn]; exact congrArg some (if_pos hdn)
  · rw [ci_f hdn]; exact congrArg some (if_neg hdn)
theorem goesOn_l (hn : 1000 ≤ n) (H : WFp m) (hj : 1 ≤ j ∧ j ≤ 50) {hd : Prop} {cnt : Int} (hc : cnt ≤ 1000000) : ∀ (r f : Nat) (k : Int) (h : Hp) (q : Int × Int × Int), cnt = k + r → r < f → 0 ≤ k → LD m tol j p h → MQr h q → RSq (nB m) j (rchS m j) (ee m) q → (h 113 52 ≠ 0 ↔ hd) →
    ∃ h', BX12_goesOn_10 n f cnt k h = some h' ∧ FR h h' ∧ MQr h' (itS (nB m) j (rchS m j) (ee m) (limS m j p) (paceS m tol j) hd r q)
  | 0, f + 1, k, h, q, hk, hf, k0, D, hr, S, hh => by
    rw [BX12_goesOn_10, if_pos (by omega)]
    exact ⟨h, rfl, FR.rf, hr⟩
  | r + 1, f + 1, k, h, q, hk, hf, k0, D, hr, S, hh => by
    have E := env_ok H (tol := tol) (p := p) hj
    obtain ⟨g, g1, g2, g3, -⟩ := tick_mq hn H hj D hr S hh
    rw [BX12_goesOn_10, if_neg (by omega), g1, bndh_s, ltt_e, w32_i (x := k + 1) (by omega)]
    obtain ⟨h', p1, p2, p3⟩ := goesOn_l hn H hj (hd := hd) hc r f (k + 1) g _ (by omega) (by omega) (by omega) (D.fr g2) g3 (RSq_tk E S) (by rw [g2.2 52 (by decide)]; exact hh)
    exact ⟨h', p1, g2.tr p2, p3⟩
theorem tillM_l (hn : 1000 ≤ n) (H : WFp m) (hj : 1 ≤ j ∧ j ≤ 50) {cnt : Int} (hc : cnt ≤ 1000000) : ∀ (r f : Nat) (k : Int) (h : Hp) (q : Int × Int × Int), cnt = k + r → r + 1 < f → 0 ≤ k → LD m tol j p h → MQr h q → RSq (nB m) j (rchS m j) (ee m) q → h 113 52 = 0 →
    ∃ h', BX12_tillDone__2 n f cnt k h = some (tillS (nB m) j (rchS m j) (ee m) (limS m j p) (paceS m tol j) False r k q, h') ∧ FR h h'
  | r, f + 1, k, h, q, hk, hf, k0, D, hr, S, hh => by
    have E := env_ok H (tol := tol) (p := p) hj
    rw [BX12_tillDone__2, isDone_mq H D.1 hr, bndp_s]
    by_cases hdn : dn (nB m) (ee m) q
    · rw [ci_t hdn, if_pos (by decide)]
      refine ⟨h, ?_, FR.rf⟩
      cases r with
      | zero => rw [tillS, ci_t hdn]
      | succ r => rw [tillS, ci_t hdn]
    · rw [ci_f hdn, if_neg (fun z => z rfl)]
      cases r with
      | zero =>
        rw [if_pos (by omega), tillS, ci_f hdn]
        exact ⟨h, rfl, FR.rf⟩
      | succ r =>
        obtain ⟨g, g1, g2, g3, -⟩ := tick_mq hn H hj D hr S (hd := False) ⟨fun z => z hh, fun z => z.elim⟩
        rw [if_neg (by omega), if_pos hh]
        unfold JX12_tillDone__31
        rw [g1, bndh_s, ltt_e, w32_i (x := k + 1) (by omega), tillS, ci_f hdn]
        obtain ⟨h', p1, p2⟩ := tillM_l hn H hj hc r f (k + 1) g _ (by omega) (by omega) (by omega) (D.fr g2) g3 (RSq_tk E S) (by rw [g2.2 52 (by decide)]; exact hh)
        exact ⟨h', p1, g2.tr p2⟩
theorem tillDone_m (hn : 5000 ≤ n) (H : WFp m) (hj : 1 ≤ j ∧ j ≤ 50) {cnt : Nat} (hc : cnt ≤ 3000) (D : LD m tol j p h) {q : Int × Int × Int} (hr : MQr h q) (S : RSq (nB m) j (rchS m j) (ee m) q) (hh : h 113 52 = 0) : ∃ h', MX12_tillDone_ n cnt h = some (tillS (nB m) j (rchS m j) (ee m) (limS m j p) (paceS m tol j) False cnt 0 q, h') ∧ FR h h' := by
  unfold MX12_tillDone_ LX12_tillDone__2
  rw [ltt_e]
  exact tillM_l (by omega) H hj (by omega) cnt n 0 h q (by omega) (by omega) (by decide) D hr S hh
theorem dueM_l (hn : 1000 ≤ n) (H : WFp m) (hj : 1 ≤ j ∧ j ≤ 50) {hd : Prop} {a : Int} : ∀ (r f : Nat) (k : Int) (h : Hp) (q : Int × Int × Int), 3001 = k + r → r < f → 0 ≤ k → LD m tol j p h → MQr h q → RSq (nB m) j (rchS m j) (ee m) q → (h 113 52 ≠ 0 ↔ hd) →
    ∃ h', BX12_due_46 n f a k h = some (dueS (nB m) j (rchS m j) (ee m) (limS m j p) (paceS m tol j) hd a r k q, h') ∧ FR h h'
  | 0, f + 1, k, h, q, hk, hf, k0, D, hr, S, hh => by
    rw [BX12_due_46, if_pos (by omega)]
    exact ⟨h, rfl, FR.rf⟩
  | r + 1, f + 1, k, h, q, hk, hf, k0, D, hr, S, hh => by
    have E := env_ok H (tol := tol) (p := p) hj
    obtain ⟨g, g1, g2, g3, -⟩ := tick_mq hn H hj D hr S hh
    rw [BX12_due_46, if_neg (by omega), g1, bndh_s, g3.1, dueS, ltt_e, w32_i (x := k + 1) (by omega)]
    by_cases ha : a ≤ (tk (nB m) j (rchS m j) (ee m) (limS m j p) (paceS m tol j) hd q).1
    · rw [if_neg (by omega), ci_t ha]
      exact ⟨g, rfl, g2⟩
    · obtain ⟨h', p1, p2⟩ := dueM_l hn H hj (hd := hd) (a := a) r f (k + 1) g _ (by omega) (by omega) (by omega) (D.fr g2) g3 (RSq_tk E S) (by rw [g2.2 52 (by decide)]; exact hh)
      rw [if_pos (by omega), ci_f ha]
      exact ⟨h', p1, g2.tr p2⟩
theorem brkM_l (hn : 1000 ≤ n) (H : WFp m) (hj : 1 ≤ j ∧ j ≤ 50) (x1 : Int) : ∀ (r f : Nat) (k : Int) (h : Hp) (s w u : Int), r < f → 0 ≤ k → k + r ≤ 1000 → LD m tol j p h → MR h s w u → RS (nB m) j (rchS m j) (ee m) s w u → (nu w u < r ∨ (w = 0 ∧ u = 0 ∧ 0 < r)) →
    ∃ h', BX12_brakes_22 n f x1 k h = some (x1, k + brn (rchS m j) r w u, h') ∧ FR h h' ∧ MR h' (s + farF (rchS m j) r w u * j) 0 0
  | 0, f + 1, k, h, s, w, u, hf, k0, hk, D, hr, S, hnu => by omega
  | r + 1, f + 1, k, h, s, w, u, hf, k0, hk, D, hr, S, hnu => by
    have E := env_ok H (tol := tol) (p := p) hj
    have hR := E.2.2.1
    rw [BX12_brakes_22, isRest_m hr, bndp_s, brn, farF]
    by_cases hz : w = 0 ∧ u = 0
    · rw [if_pos hz, if_pos (by decide), if_pos hz, if_pos hz, Int.add_zero, Int.zero_mul, Int.add_zero]
      refine ⟨h, rfl, FR.rf, ?_⟩
      rw [hz.1, hz.2] at hr
      exact hr
    · obtain ⟨g, g1, g2, g3, -⟩ := slows_m (n := n) (by omega) H hj D hr S hz
      have hnd := nu_dec hR.1 S.1 (by have := S.2.1; omega) hz
      have hne := nu_ne S.1 hz
      rw [if_neg hz, if_neg (fun z => z rfl), if_neg hz, if_neg hz, g1, bndh_s, ltt_e, w32_i (x := k + 1) (by omega)]
      obtain ⟨h', p1, p2, p3⟩ := brkM_l hn H hj x1 r f (k + 1) g _ _ _ (by omega) (by omega) (by omega) (D.fr g2) g3 (RS_brk E S hz) (by
        rcases hnd with h9 | h9
        · exact Or.inr ⟨h9.1, h9.2, by omega⟩
        · exact Or.inl (by omega))
      refine ⟨h', by rw [p1, Int.add_assoc], g2.tr p2, ?_⟩
      rw [Int.add_mul, ← Int.add_assoc]
      exact p3
theorem haltM_l (hn : 1000 ≤ n) (H : WFp m) (hj : 1 ≤ j ∧ j ≤ 50) : ∀ (r f : Nat) (h : Hp) (s w u : Int), r < f → LD m tol j p h → MR h s w u → RS (nB m) j (rchS m j) (ee m) s w u → (nu w u < r ∨ (w = 0 ∧ u = 0 ∧ 0 < r)) →
    ∃ h', BX12_halt_19 n f h = some (s + farF (rchS m j) r w u * j, h') ∧ FR h h'
  | 0, f + 1, h, s, w, u, hf, D, hr, S, hnu => by omega
  | r + 1, f + 1, h, s, w, u, hf, D, hr, S, hnu => by
    have E := env_ok H (tol := tol) (p := p) hj
    have hR := E.2.2.1
    rw [BX12_halt_19, isRest_m hr, bndp_s, farF]
    by_cases hz : w = 0 ∧ u = 0
    · rw [if_pos hz, if_pos (by decide), if_pos hz, Int.zero_mul, Int.add_zero, hr.1]
      exact ⟨h, rfl, FR.rf⟩
    · obtain ⟨g, g1, g2, g3, -⟩ := slows_m (n := n) (by omega) H hj D hr S hz
      have hnd := nu_dec hR.1 S.1 (by have := S.2.1; omega) hz
      have hne := nu_ne S.1 hz
      rw [if_neg hz, if_neg (fun z => z rfl), if_neg hz, g1, bndh_s]
      obtain ⟨h', p1, p2⟩ := haltM_l hn H hj r f g _ _ _ (by omega) (D.fr g2) g3 (RS_brk E S hz) (by
        rcases hnd with h9 | h9
        · exact Or.inr ⟨h9.1, h9.2, by omega⟩
        · exact Or.inl (by omega))
      refine ⟨h', ?_, g2.tr p2⟩
      rw [p1, Int.add_mul (w + (u + brk (rchS m j) w u)), Int.add_assoc s]
/-- RUN: what is told behind all ticks, if it is done in time -/
noncomputable def runS (N J R : Int) (e lim pc : Int → Int) : Nat → Int → Int → Int → Int → Int → Int → Int × Int × Int → Option (Int × Int × Int × Int × Int)
  | 0, was, a, b, c, d, k, q => ci (dn N e q) (some (a, b, c, d, k)) none
  | r + 1, was, a, b, c, d, k, q => ci (dn N e q) (some (a, b, c, d, k)) (runS N J R e lim pc r (tkb N J R e lim pc False q) (max a (tk N J R e lim pc False q).2.1) (b + ci (tkb N J R e lim pc False q = 1) 1 0) (c + ci (tkb N J R e lim pc False q = -1) 1 0) (d + ci ((tk N J R e lim pc False q).2.1 = lim (blk e N (tk N J R e lim pc False q).1)) 1 0) (k + ci (tkb N J R e lim pc False q = was) 0 1) (tk N J R e lim pc False q))
def selT (w : Int) (t : Int × Int × Int × Int × Int) : Int := if w = 0 then t.1 else if w = 1 then t.2.1 else if w = 2 then t.2.2.1 else if w = 3 then t.2.2.2.1 else t.2.2.2.2
theorem runM_l (hn : 1000 ≤ n) (H : WFp m) (hj : 1 ≤ j ∧ j ≤ 50) (x1 : Int) : ∀ (r f : Nat) (i was a b c d k : Int) (h : Hp) (q : Int × Int × Int), i + r = 3000 → r < f → 0 ≤ i → LD m tol j p h → MQr h q → RSq (nB m) j (rchS m j) (ee m) q → h 113 52 = 0 → (0 ≤ b ∧ b ≤ i) → (0 ≤ c ∧ c ≤ i) → (0 ≤ d ∧ d ≤ i) → (0 ≤ k ∧ k ≤ i) →
    ∃ h', FR h h' ∧ match runS (nB m) j (rchS m j) (ee m) (limS m j p) (paceS m tol j) r was a b c d k q with
      | none => BX12_run_47 n f x1 a b c d k was i h = some (.inr (-2, h'))
      | some t => BX12_run_47 n f x1 a b c d k was i h = some (.inl (x1, t.1, t.2.1, t.2.2.1, t.2.2.2.1, t.2.2.2.2, h'))
  | r, f + 1, i, was, a, b, c, d, k, h, q, hk, hf, k0, D, hr, S, hh, hb, hc, hd, hkk => by
    have E := env_ok H (tol := tol) (p := p) hj
    rw [BX12_run_47, isDone_mq H D.1 hr, bndp_s]
    by_cases hdn : dn (nB m) (ee m) q
    · refine ⟨h, FR.rf, ?_⟩
      have e1 : runS (nB m) j (rchS m j) (ee m) (limS m j p) (paceS m tol j) r was a b c d k q = some (a, b, c, d, k) := by
        cases r with
        | zero => rw [runS, ci_t hdn]
        | succ r => rw [runS, ci_t hdn]
      rw [e1, ci_t hdn, if_pos (by decide)]
    · rw [ci_f hdn, if_neg (fun z => z rfl)]
      cases r with
      | zero =>
        refine ⟨h, FR.rf, ?_⟩
        rw [runS, ci_f hdn, if_neg (by omega)]
      | succ r =>
        have hN := RS_N E S (fun z => hdn z)
        obtain ⟨g, g1, g2, g3, g4⟩ := tick_mq hn H hj D hr S (hd := False) ⟨fun z => z hh, fun z => z.elim⟩
        have S2 : RSq (nB m) j (rchS m j) (ee m) (tk (nB m) j (rchS m j) (ee m) (limS m j p) (paceS m tol j) False q) := RSq_tk E S
        have Dg := D.fr g2
        have h52 : g 113 52 = 0 := by rw [g2.2 52 (by decide)]; exact hh
        rw [runS, ci_f hdn, if_pos (by omega), g1, bndh_s, ltt_e, ltt_e, w32_i (x := i + 1) (by omega), g4, g3.2.1]
        have tb := tkb_ok E (hd := False) S
        generalize tkb (nB m) j (rchS m j) (ee m) (limS m j p) (paceS m tol j) False q = TB at *
        generalize tk (nB m) j (rchS m j) (ee m) (limS m j p) (paceS m tol j) False q = Q at *
        have hbk := (blk_ok E (s := Q.1) hN).1
        have tr : ∀ z : Int, (z = 0 ∨ z = 1) → MX12_truth z = some z := fun z hz => by
          rcases hz with rfl | rfl <;> rfl
        have t170 : ∀ (x2 x3 x4 x5 z0 z1 : Int), (z1 = 0 ∨ z1 = 1) → (0 ≤ z0 ∧ z0 ≤ 3000) → JX12_run_170 n (BX12_run_47 n f) x1 x2 x3 x4 x5 (i + 1) z0 z1 g = BX12_run_47 n f x1 x2 x3 x4 x5 (z0 + z1) TB (i + 1) g := fun x2 x3 x4 x5 z0 z1 hz h0 => by
          unfold JX12_run_170
          rw [tr z1 hz, bndp_s, ltt_e, ltt_e, w32_i (by omega), g4]
        have t148 : ∀ (x2 x3 x4 z0 z1 : Int), (z1 = 0 ∨ z1 = 1) → (0 ≤ z0 ∧ z0 ≤ 3000) → JX12_run_148 n (BX12_run_47 n f) x1 x2 x3 x4 k was (i + 1) z0 z1 g = BX12_run_47 n f x1 x2 x3 x4 (z0 + z1) (k + ci (TB = was) 0 1) TB (i + 1) g := fun x2 x3 x4 z0 z1 hz h0 => by
          unfold JX12_run_148
          rw [tr z1 hz, bndp_s, ltt_e, w32_i (by omega), g4]
          by_cases e1 : TB = was
          · rw [if_pos e1, t170 _ _ _ _ _ _ (Or.inl rfl) (by omega), ci_t e1]
          · rw [if_neg e1, t170 _ _ _ _ _ _ (Or.inr rfl) (by omega), ci_f e1]
        have t115 : ∀ (x2 x3 z0 z1 : Int), (z1 = 0 ∨ z1 = 1) → (0 ≤ z0 ∧ z0 ≤ 3000) → JX12_run_115 n (BX12_run_47 n f) x1 x2 x3 d k was (i + 1) z0 z1 g = BX12_run_47 n f x1 x2 x3 (z0 + z1) (d + ci (Q.2.1 = limS m j p (blk (ee m) (nB m) Q.1)) 1 0) (k + ci (TB = was) 0 1) TB (i + 1) g := fun x2 x3 z0 z1 hz h0 => by
          unfold JX12_run_115
          rw [tr z1 hz, bndp_s, ltt_e, w32_i (by omega), blockAt_m (by omega) H Dg.1.eN (Dg.1.r (by decide)), bndp_s, al532, grd_t (by rw [g3.1]; have := H.1; omega), g3.1, g3.2.1, (Dg.2.2.2.1 _ hbk.1 hbk.2).2.2]
          by_cases e1 : Q.2.1 = limS m j p (blk (ee m) (nB m) Q.1)
          · rw [if_neg (fun z => z e1), t148 _ _ _ _ _ (Or.inr rfl) (by omega), ci_t e1]
          · rw [if_pos e1, t148 _ _ _ _ _ (Or.inl rfl) (by omega), ci_f e1]
        have t95 : ∀ (x2 z0 z1 : Int), (z1 = 0 ∨ z1 = 1) → (0 ≤ z0 ∧ z0 ≤ 3000) → JX12_run_95 n (BX12_run_47 n f) x1 x2 c d k was (i + 1) z0 z1 g = BX12_run_47 n f x1 x2 (z0 + z1) (c + ci (TB = -1) 1 0) (d + ci (Q.2.1 = limS m j p (blk (ee m) (nB m) Q.1)) 1 0) (k + ci (TB = was) 0 1) TB (i + 1) g := fun x2 z0 z1 hz h0 => by
          unfold JX12_run_95
          rw [tr z1 hz, bndp_s, ltt_e, w32_i (by omega), g4]
          by_cases e1 : TB = -1
          · rw [if_neg (fun z => z e1), t115 _ _ _ _ (Or.inr rfl) (by omega), ci_t e1]
          · rw [if_pos e1, t115 _ _ _ _ (Or.inl rfl) (by omega), ci_f e1]
        have hall : (if TB ≠ 1 then JX12_run_95 n (BX12_run_47 n f) x1 (max a Q.2.1) c d k was (i + 1) b 0 g else JX12_run_95 n (BX12_run_47 n f) x1 (max a Q.2.1) c d k was (i + 1) b 1 g) = BX12_run_47 n f x1 (max a Q.2.1) (b + ci (TB = 1) 1 0) (c + ci (TB = -1) 1 0) (d + ci (Q.2.1 = limS m j p (blk (ee m) (nB m) Q.1)) 1 0) (k + ci (TB = was) 0 1) TB (i + 1) g := by
          by_cases e1 : TB = 1
          · rw [if_neg (fun z => z e1), t95 _ _ _ (Or.inr rfl) (by omega), ci_t e1]
          · rw [if_pos e1, t95 _ _ _ (Or.inl rfl) (by omega), ci_f e1]
        have c01 : ∀ P : Prop, 0 ≤ ci P (1 : Int) 0 ∧ ci P (1 : Int) 0 ≤ 1 ∧ 0 ≤ ci P (0 : Int) 1 ∧ ci P (0 : Int) 1 ≤ 1 := fun P => by
          by_cases hP : P
          · rw [ci_t hP, ci_t hP]; decide
          · rw [ci_f hP, ci_f hP]; decide
        have k1 := c01 (TB = 1)
        have k2 := c01 (TB = -1)
        have k3 := c01 (Q.2.1 = limS m j p (blk (ee m) (nB m) Q.1))
        have k4 := c01 (TB = was)
        obtain ⟨h', p1, p2⟩ := runM_l hn H hj x1 r f (i + 1) TB (max a Q.2.1) (b + ci (TB = 1) 1 0) (c + ci (TB = -1) 1 0) (d + ci (Q.2.1 = limS m j p (blk (ee m) (nB m) Q.1)) 1 0) (k + ci (TB = was) 0 1) g Q (by omega) (by omega) (by omega) Dg g3 S2 h52 (by omega) (by omega) (by omega) (by omega)
        refine ⟨h', g2.tr p1, ?_⟩
        rw [hall]
        exact p2
end
