/-! THE LEAST WAYS: the model's table. -/
theorem paceAt_m {w u : Int} (hw : inR w u) : MX12_paceAt w u = some (13 * w + u + 6) := by
  have q1 := hw.1
  have q2 := hw.2
  unfold MX12_paceAt
  rw [w32_i (x := 13 * w) (by omega), w32_i (x := 13 * w + u) (by omega), w32_i (x := 13 * w + u + 6) (by omega)]
theorem from_st {n f : Nat} {h : Hp} (G : GE0 N6 (vM h)) {w u x J : Int} (hw : inR w u) (hJ : -1 ≤ J ∧ J ≤ 1) (P : PX N6 N6 (vM h) w u J x) : ∃ x', BX12_leastFrom_7 n (f + 1) w u x J h = BX12_leastFrom_7 n f w u x' (J + 1) h ∧ PX N6 N6 (vM h) w u (J + 1) x' := by
  have q1 := hw.1
  have q2 := hw.2
  have hx : 0 ≤ x ∧ x ≤ 1000000 := PX_b (by decide) G (by decide) P
  rw [BX12_leastFrom_7, if_neg (by omega), ltt_e, ltt_e, w32_i (x := u + J) (by omega), w32_i (x := w + (u + J)) (by omega), w32_i (x := J + 1) (by omega), in_m, bndp_s]
  by_cases h1 : -6 ≤ u + J ∧ u + J ≤ 6
  · rw [if_pos h1, if_neg (by decide), in_m, bndp_s]
    by_cases h2 : 0 ≤ w + (u + J) ∧ w + (u + J) ≤ 60
    · have hr : inR (w + (u + J)) (u + J) := ⟨h2, h1⟩
      have hb : 0 ≤ vM h (w + (u + J)) (u + J) ∧ vM h (w + (u + J)) (u + J) ≤ 1000000 := GE_b (by decide) G hr
      rw [if_pos h2, if_neg (by decide), paceAt_m hr, bndp_s, al6364, grd_t (by omega), ltt_e, ltt_e, ← vM_in (h := h) hr, w32_i (x := w + (u + J) + vM h (w + (u + J)) (u + J)) (by omega), Int.add_comm (w + (u + J)) (vM h (w + (u + J)) (u + J))]
      refine ⟨_, rfl, ?_⟩
      by_cases hN : vM h (w + (u + J)) (u + J) < 1000000
      · exact PX_mn P hJ hr hN
      · rw [Int.min_eq_left (by omega)]
        exact PX_no P (fun _ => by show 1000000 ≤ _; omega)
    · rw [if_neg h2, if_pos rfl, ltt_e]
      exact ⟨x, rfl, PX_no P (fun q => absurd q.1 h2)⟩
  · rw [if_neg h1, if_pos rfl, ltt_e]
    exact ⟨x, rfl, PX_no P (fun q => absurd q.2 h1)⟩
theorem from_m {n : Nat} (hn : 10 ≤ n) {h : Hp} (G : GE0 N6 (vM h)) {w u : Int} (hw : inR w u) : ∃ x, MX12_leastFrom n w u h = some x ∧ PX N6 N6 (vM h) w u 2 x := by
  obtain ⟨n', e⟩ : ∃ n', n = n' + 4 := ⟨n - 4, by omega⟩
  have P0 : PX N6 N6 (vM h) w u (-1) N6 := ⟨Int.le_refl _, fun j j0 j1 => by omega, Or.inl rfl⟩
  obtain ⟨x1, e1, P1⟩ := from_st (n := n) (f := n' + 3) G hw (by decide) P0
  obtain ⟨x2, e2, P2⟩ := from_st (n := n) (f := n' + 2) G hw (by decide) P1
  obtain ⟨x3, e3, P3⟩ := from_st (n := n) (f := n' + 1) G hw (by decide) P2
  refine ⟨x3, ?_, P3⟩
  unfold MX12_leastFrom LX12_leastFrom_7
  rw [ltt_e, ltt_e]
  have e' : BX12_leastFrom_7 n (n' + 4) w u 1000000 (-1) h = some x3 := by
    have e1' : BX12_leastFrom_7 n (n' + 4) w u 1000000 (-1) h = BX12_leastFrom_7 n (n' + 3) w u x1 (-1 + 1) h := e1
    rw [e1', e2, e3, BX12_leastFrom_7, if_pos (by decide)]
  rw [← e] at e'
  exact e'
def prM (w u : Int) (a b : Int) : Prop := a < w ∨ (a = w ∧ b < u)
theorem fl_in {n : Nat} (hn : 10 ≤ n) {m : Hp} {r : Nat} {w : Int} (hw : 0 ≤ w ∧ w ≤ 60) : ∀ (k f : Nat) (u fl : Int) (h : Hp), u + k = 7 → k < f → -6 ≤ u → KR 140 m h → LI N6 r (prM w u) fl (vM h) → ∃ (fl' : Int) (h' : Hp), BX12_falls_13 n f fl w u h = some (fl', w, h') ∧ KR 140 m h' ∧ LI N6 r (prM w 7) fl' (vM h')
  | k, f + 1, u, fl, h, hk, hf, h0, K, I => by
    rw [BX12_falls_13]
    by_cases hd : 6 < u
    · have hu : u = 7 := by omega
      subst hu
      rw [if_pos hd]
      exact ⟨fl, h, rfl, K, I⟩
    · rw [if_neg hd]
      obtain ⟨k, rfl⟩ : ∃ k', k = k' + 1 := ⟨k - 1, by omega⟩
      have hr : inR w u := ⟨hw, by omega⟩
      have G := I.1
      have hb := GE_b (by decide) G hr
      obtain ⟨x, ex, P⟩ := from_m hn G hr
      have hx := PX_b (by decide) G (by decide) P
      have fin : ∀ x3 fl', (fl' = 0 ∨ fl' = 1) → (fl' = 0 ↔ fl = 0 ∧ ¬ x3 < vM h w u) → x3 = min (vM h w u) x → LI N6 r (prM w (u + 1)) fl' (updT (vM h) w u x3) := fun x3 fl' hz hf e3 =>
        LI_pr (LI_step (by decide) I hr (by omega) (fun j j0 j1 j2 j3 => by
          have := P.2.1 j j0 (by omega) j2 j3
          omega) (by
          by_cases hm : vM h w u ≤ x
          · exact Or.inl (by omega)
          · right
            rcases P.2.2 with hq | ⟨j, hj, j1, j2, j3⟩
            · exfalso
              have : x = 1000000 := hq
              omega
            · exact ⟨j, hj, j1, j2, by omega⟩) ⟨hz, hf⟩) (fun a b hab hp => by unfold prM at *; omega)
      rw [ex, bndp_s, ltt_e, paceAt_m hr, bndp_s, al6364, grd_t (by omega), ← vM_in (h := h) hr, w32_i (x := u + 1) (by omega)]
      by_cases hle : vM h w u ≤ x
      · rw [if_pos hle, ltt_e]
        refine fl_in hn hw k f (u + 1) fl h (by omega) (by omega) (by omega) K ?_
        have := fin (vM h w u) fl I.2.2.2.2.1 ⟨fun q => ⟨q, by omega⟩, fun q => q.1⟩ (by omega)
        rw [updT_me] at this
        exact this
      · rw [if_neg hle, bndp_s, grd_t (by omega), ltt_e, ltt_e, ltt_e]
        refine fl_in hn hw k f (u + 1) 1 _ (by omega) (by omega) (by omega) K.put ?_
        rw [vM_up hr]
        exact fin x 1 (Or.inr rfl) ⟨fun q => absurd q (by decide), fun q => absurd (show x < vM h w u by omega) q.2⟩ (by omega)
theorem fl_out {n : Nat} (hn : 100 ≤ n) {m : Hp} {r : Nat} : ∀ (k f : Nat) (w fl : Int) (h : Hp), w + k = 61 → k < f → 0 ≤ w → KR 140 m h → LI N6 r (prM w (-6)) fl (vM h) → ∃ (fl' : Int) (h' : Hp), BX12_falls_4 n f fl w h = some (fl', h') ∧ KR 140 m h' ∧ LI N6 r (prM 61 (-6)) fl' (vM h')
  | k, f + 1, w, fl, h, hk, hf, h0, K, I => by
    rw [BX12_falls_4]
    by_cases hd : 61 ≤ w
    · have hw : w = 61 := by omega
      subst hw
      rw [if_pos hd, grd_t I.2.2.2.2.1]
      exact ⟨fl, h, rfl, K, I⟩
    · rw [if_neg hd, ltt_e]
      obtain ⟨k, rfl⟩ : ∃ k', k = k' + 1 := ⟨k - 1, by omega⟩
      obtain ⟨fl1, h1, e1, K1, I1⟩ := fl_in (n := n) (by omega) (w := w) (by omega) 13 n (-6) fl h (by decide) (by omega) (by decide) K I
      unfold LX12_falls_13
      rw [e1, bndx_s]
      show ∃ (fl' : Int) (h' : Hp), JX12_falls_62 n (BX12_falls_4 n f) fl1 w h1 = some (fl', h') ∧ _
      unfold JX12_falls_62
      rw [ltt_e, w32_i (by omega)]
      exact fl_out hn k f (w + 1) fl1 h1 (by omega) (by omega) (by omega) K1 (LI_pr I1 (fun a b hab hp => by have := hab.2; unfold prM at *; omega))
theorem fl_pass {n : Nat} (hn : 100 ≤ n) {m : Hp} {a b : Int} : ∀ (k f : Nat) (x3 : Int) (r : Nat) (h : Hp), r + k = 23 → k < f → KR 140 m h → (x3 = 0 → TT N6 (vM h)) → (x3 ≠ 0 → GE0 N6 (vM h) ∧ EQr r (vM h) ∧ r ≤ 22) → ∃ h' : Hp, BX12_least_65 n f a b x3 h = some (a, b, h') ∧ KR 140 m h' ∧ TT N6 (vM h')
  | k, f + 1, x3, r, h, hk, hf, K, T, Q => by
    rw [BX12_least_65]
    by_cases hz : x3 = 0
    · rw [if_pos hz]
      exact ⟨h, rfl, K, T hz⟩
    · obtain ⟨G, E, hr⟩ := Q hz
      rw [if_neg hz]
      obtain ⟨k, rfl⟩ : ∃ k', k = k' + 1 := ⟨k - 1, by omega⟩
      obtain ⟨fl1, h1, e1, K1, I1⟩ := fl_out hn 61 n 0 0 h (by decide) (by omega) (by decide) K (LI_begin G E (fun w u hw => by have := hw.1; have := hw.2; unfold prM; omega))
      have hE := LI_end (by decide) I1 (fun w u hw => by have := hw.1; unfold prM; omega)
      unfold MX12_falls LX12_falls_4
      rw [ltt_e, ltt_e, e1, bnd_s, ltt_e]
      exact fl_pass hn k f fl1 (r + 1) h1 (by omega) (by omega) K1 hE.1 (fun hf1 => ⟨hE.2.1, hE.2.2, by
        have := I1.2.2.2.2.2
        omega⟩)
theorem fl_fill {n : Nat} {m : Hp} {x y : Int} : ∀ (k f : Nat) (i : Int) (h : Hp), i + k = 793 → k < f → 0 ≤ i → KR 140 m h → (∀ a, 0 ≤ a → a < i → h 140 a = 1000000) → ∃ h' : Hp, BX12_least_30 n f x y i h = some (x, y, h') ∧ KR 140 m h' ∧ ∀ a, 0 ≤ a → a < 793 → h' 140 a = 1000000
  | k, f + 1, i, h, hk, hf, h0, K, A => by
    rw [BX12_least_30, al6364]
    by_cases hd : 793 ≤ i
    · rw [if_pos hd]
      exact ⟨h, rfl, K, fun a a0 a1 => A a a0 (by omega)⟩
    · obtain ⟨k, rfl⟩ : ∃ k', k = k' + 1 := ⟨k - 1, by omega⟩
      rw [if_neg hd, grd_t (by omega), ltt_e, w32_i (by omega), ltt_e]
      exact fl_fill k f (i + 1) _ (by omega) (by omega) (by omega) K.put (fun a a0 a1 => by
        by_cases ha : a = i
        · rw [ha, up_s]
        · rw [up_i ha]; exact A a a0 (by omega))
theorem KR.km {c : Int} {m h : Hp} (K : KR c m h) (hc : (132 ≤ c ∧ c ≤ 137) ∨ (139 ≤ c ∧ c ≤ 142) ∨ c = 145) : KM m h :=
  ⟨fun b h1 h2 h3 h4 => K b (by omega), fun i _ _ _ _ => by rw [K 113 (by omega)]⟩
theorem least_m {n : Nat} (hn : 2000 ≤ n) (m : Hp) (w u : Int) : ∃ h' : Hp, MX12_least n w u m = some (leastA w u, h') ∧ KM m h' := by
  unfold MX12_least leastA
  rw [in_m, bndp_s]
  by_cases h1 : 0 ≤ w ∧ w ≤ 40
  · rw [if_pos h1, if_neg (by decide), in_m, bndp_s]
    by_cases h2 : -6 ≤ u ∧ u ≤ 6
    · rw [if_pos h2, if_pos (by decide), if_pos ⟨h1, h2⟩, ltt_e]
      have hw : inR w u := ⟨by omega, by omega⟩
      obtain ⟨g1, e1, K1, A⟩ := fl_fill (n := n) (x := w) (y := u) 793 n 0 m (by decide) (by omega) (by decide) (KR.rf (c := 140)) (fun a a0 a1 => by omega)
      have g := G_new (NO := N6) (v := vM (up g1 140 6 0)) (by decide) (by rw [vM_in ⟨by decide, by decide⟩]; exact up_s) (fun w u hw hz => by
        have q1 := hw.1
        have q2 := hw.2
        rw [vM_in hw, up_i (by omega)]
        exact A _ (by omega) (by omega))
      obtain ⟨g2, e2, K2, T⟩ := fl_pass (n := n) (by omega) (a := w) (b := u) 23 n 1 0 _ (by decide) (by omega) (K1.put (i := 6) (v := 0)) (fun q => absurd q (by decide)) (fun _ => ⟨g.1, g.2, by decide⟩)
      unfold LX12_least_30
      rw [e1, bndx_s]
      show ∃ h' : Hp, JX12_least_52 n w u g1 = some (leastS w u, h') ∧ _
      unfold JX12_least_52
      rw [paceAt_m ⟨by decide, by decide⟩, bndp_s, al6364, grd_t (by decide), ltt_e, ltt_e]
      unfold LX12_least_65
      show ∃ h' : Hp, bndx (BX12_least_65 n n w u 1 (up g1 140 6 0)) _ = some (leastS w u, h') ∧ _
      rw [e2, bndx_s]
      show ∃ h' : Hp, JX12_least_77 n w u g2 = some (leastS w u, h') ∧ _
      unfold JX12_least_77
      have hA := hw.1
      have := TT_ls (by decide) T hw
      rw [paceAt_m hw, bndp_s, al6364, grd_t (by omega), ltt_e, ← vM_in (h := g2) hw]
      refine ⟨g2, ?_, K2.km (by decide)⟩
      by_cases hv : vM g2 w u < 1000000
      · rw [if_pos hv] at this ⊢
        rw [this]
      · rw [if_neg hv] at this ⊢
        rw [this]
    · rw [if_neg h2, if_neg (by decide), if_neg (fun q => h2 q.2)]
      exact ⟨m, rfl, KM.rf⟩
  · rw [if_neg h1, if_pos rfl, if_neg (fun q => h1 q.1)]
    exact ⟨m, rfl, KM.rf⟩
