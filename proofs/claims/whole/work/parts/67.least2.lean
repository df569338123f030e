/-! THE LEAST WAYS: both programs' tables. -/
def KR (c : Int) (m h : Hp) : Prop := ∀ b, b ≠ c → h b = m b
theorem KR.rf {c : Int} {m : Hp} : KR c m m := fun _ _ => rfl
theorem KR.put {c : Int} {m h : Hp} (K : KR c m h) {i v : Int} : KR c m (up h c i v) := fun b hb => by rw [up_row hb]; exact K b hb
def vC (h : Hp) (w u : Int) : Int := if (0 ≤ w ∧ w ≤ 60) ∧ (-6 ≤ u ∧ u ≤ 6) then h 111 ((u + 6) * 61 + w) else 0
def vM (h : Hp) (w u : Int) : Int := if (0 ≤ w ∧ w ≤ 60) ∧ (-6 ≤ u ∧ u ≤ 6) then h 140 (13 * w + u + 6) else 0
theorem vC_in {h : Hp} {w u : Int} (hw : inR w u) : vC h w u = h 111 ((u + 6) * 61 + w) := if_pos hw
theorem vM_in {h : Hp} {w u : Int} (hw : inR w u) : vM h w u = h 140 (13 * w + u + 6) := if_pos hw
theorem vC_up {h : Hp} {w u x : Int} (hw : inR w u) : vC (up h 111 ((u + 6) * 61 + w) x) = updT (vC h) w u x := by
  have q1 := hw.1
  have q2 := hw.2
  funext a b
  by_cases hab : a = w ∧ b = u
  · obtain ⟨rfl, rfl⟩ := hab
    rw [updT_s, vC_in hw, up_s]
  · rw [updT_o hab]
    unfold vC
    by_cases hr : (0 ≤ a ∧ a ≤ 60) ∧ (-6 ≤ b ∧ b ≤ 6)
    · rw [if_pos hr, if_pos hr, up_i (by omega)]
    · rw [if_neg hr, if_neg hr]
theorem vM_up {h : Hp} {w u x : Int} (hw : inR w u) : vM (up h 140 (13 * w + u + 6) x) = updT (vM h) w u x := by
  have q1 := hw.1
  have q2 := hw.2
  funext a b
  by_cases hab : a = w ∧ b = u
  · obtain ⟨rfl, rfl⟩ := hab
    rw [updT_s, vM_in hw, up_s]
  · rw [updT_o hab]
    unfold vM
    by_cases hr : (0 ≤ a ∧ a ≤ 60) ∧ (-6 ≤ b ∧ b ≤ 6)
    · rw [if_pos hr, if_pos hr, up_i (by omega)]
    · rw [if_neg hr, if_neg hr]
theorem updT_me {v : Int → Int → Int} {w u : Int} : updT v w u (v w u) = v := by
  funext a b
  by_cases hab : a = w ∧ b = u
  · obtain ⟨rfl, rfl⟩ := hab
    rw [updT_s]
  · rw [updT_o hab]
theorem GE_b {NO : Int} (hNO : 1000 ≤ NO) {v : Int → Int → Int} (G : GE0 NO v) {w u : Int} (hw : inR w u) : 0 ≤ v w u ∧ v w u ≤ NO := by
  have hA := tA hw
  rcases G.2 w u hw with h | h <;> omega
theorem LI_pr {NO : Int} {r : Nat} {pr pr' : Int → Int → Prop} {fl : Int} {v : Int → Int → Int} (I : LI NO r pr fl v) (hp : ∀ a b, inR a b → pr' a b → pr a b) : LI NO r pr' fl v :=
  ⟨I.1, I.2.1, fun w u hw h => I.2.2.1 w u hw (hp w u hw h), fun hz w u hw h => I.2.2.2.1 hz w u hw (hp w u hw h), I.2.2.2.2.1, I.2.2.2.2.2⟩
/-- the least over the goings before J -/
def PX (NO s : Int) (v : Int → Int → Int) (w u J x : Int) : Prop :=
  x ≤ s ∧ (∀ j : Int, -1 ≤ j → j < J → inR (w + (u + j)) (u + j) → v (w + (u + j)) (u + j) < NO → x ≤ v (w + (u + j)) (u + j) + (w + (u + j))) ∧
  (x = s ∨ ∃ j : Int, (-1 ≤ j ∧ j ≤ 1) ∧ inR (w + (u + j)) (u + j) ∧ v (w + (u + j)) (u + j) < NO ∧ x = v (w + (u + j)) (u + j) + (w + (u + j)))
theorem PX_no {NO s : Int} {v : Int → Int → Int} {w u J x : Int} (P : PX NO s v w u J x) (h : inR (w + (u + J)) (u + J) → NO ≤ v (w + (u + J)) (u + J)) : PX NO s v w u (J + 1) x :=
  ⟨P.1, fun j j0 j1 j2 j3 => by
    by_cases hj : j = J
    · subst hj
      have := h j2
      omega
    · exact P.2.1 j j0 (by omega) j2 j3, P.2.2⟩
theorem PX_mn {NO s : Int} {v : Int → Int → Int} {w u J x : Int} (P : PX NO s v w u J x) (hJ : -1 ≤ J ∧ J ≤ 1) (h : inR (w + (u + J)) (u + J)) (hv : v (w + (u + J)) (u + J) < NO) : PX NO s v w u (J + 1) (min x (v (w + (u + J)) (u + J) + (w + (u + J)))) := by
  refine ⟨by have := P.1; omega, fun j j0 j1 j2 j3 => ?_, ?_⟩
  · by_cases hj : j = J
    · subst hj
      omega
    · have := P.2.1 j j0 (by omega) j2 j3
      omega
  · by_cases hm : x ≤ v (w + (u + J)) (u + J) + (w + (u + J))
    · rw [Int.min_eq_left hm]
      exact P.2.2
    · rw [Int.min_eq_right (by omega)]
      exact Or.inr ⟨J, hJ, h, hv, rfl⟩
theorem PX_b {NO s : Int} (hNO : 1000 ≤ NO) {v : Int → Int → Int} (G : GE0 NO v) {w u J x : Int} (hs : 0 ≤ s ∧ s ≤ NO) (P : PX NO s v w u J x) : 0 ≤ x ∧ x ≤ NO := by
  have h1 := P.1
  rcases P.2.2 with h | ⟨j, hj, j1, j2, j3⟩
  · omega
  · have := GE_b hNO G j1
    have := j1.1
    omega
abbrev N9 : Int := 1000000000
abbrev N6 : Int := 1000000
theorem sum_c {h : Hp} {w u : Int} (hw : inR w u) : MX3_sumOf w u h = some (vC h w u) := by
  have q1 := hw.1
  have q2 := hw.2
  unfold MX3_sumOf
  rw [if_neg (by omega), if_neg (by omega), if_neg (by omega), if_pos (by omega), w32_i (x := u + 6) (by omega), w32_i (x := (u + 6) * 61) (by omega), w32_i (x := (u + 6) * 61 + w) (by omega), al6364, grd_t (by omega), vC_in hw]
theorem sum_o {h : Hp} {w u : Int} (hw : ¬ inR w u) : MX3_sumOf w u h = some 1000000000 := by
  unfold MX3_sumOf
  unfold inR at hw
  by_cases h1 : w < 0
  · rw [if_pos h1]
  · rw [if_neg h1]
    by_cases h2 : 61 ≤ w
    · rw [if_pos h2]
    · rw [if_neg h2]
      by_cases h3 : u < -6
      · rw [if_pos h3]
      · rw [if_neg h3, if_neg (by omega)]
theorem imp_st {n f : Nat} {h : Hp} (G : GE0 N9 (vC h)) {w u s x J : Int} (hw : inR w u) (hJ : -1 ≤ J ∧ J ≤ 1) (hs : 0 ≤ s ∧ s ≤ N9) (P : PX N9 s (vC h) w u J x) : ∃ x', BX3_improve_13 n (f + 1) w u s x J h = BX3_improve_13 n f w u s x' (J + 1) h ∧ PX N9 s (vC h) w u (J + 1) x' := by
  have q1 := hw.1
  have q2 := hw.2
  have hx := PX_b (by decide) G hs P
  rw [BX3_improve_13, if_neg (by omega), w32_i (x := w + u) (by omega), w32_i (x := w + u + J) (by omega), w32_i (x := u + J) (by omega), w32_i (x := J + 1) (by omega), show w + u + J = w + (u + J) by omega]
  by_cases hr : inR (w + (u + J)) (u + J)
  · have hb := GE_b (by decide) G hr
    rw [sum_c hr, bndp_s, ltt_e]
    by_cases hN : 1000000000 ≤ vC h (w + (u + J)) (u + J)
    · rw [if_pos hN, ltt_e]
      exact ⟨x, rfl, PX_no P (fun _ => hN)⟩
    · have q3 := hr.1
      rw [if_neg hN, w32_i (x := vC h (w + (u + J)) (u + J) + w) (by omega), w32_i (x := vC h (w + (u + J)) (u + J) + w + u) (by omega), w32_i (x := vC h (w + (u + J)) (u + J) + w + u + J) (by omega), ltt_e, ltt_e, show vC h (w + (u + J)) (u + J) + w + u + J = vC h (w + (u + J)) (u + J) + (w + (u + J)) by omega]
      exact ⟨_, rfl, PX_mn P hJ hr (show vC h (w + (u + J)) (u + J) < 1000000000 by omega)⟩
  · rw [sum_o hr, bndp_s, ltt_e, if_pos (by decide), ltt_e]
    exact ⟨x, rfl, PX_no P (fun q => absurd q hr)⟩
def prC (w u : Int) (a b : Int) : Prop := b < u ∨ (b = u ∧ a < w)
theorem imp_c {n : Nat} (hn : 10 ≤ n) {m h : Hp} {r : Nat} {w u fl : Int} (hw : inR w u) (K : KR 111 m h) (I : LI N9 r (prC w u) fl (vC h)) : ∃ (z : Int) (h' : Hp), MX3_improve n w u h = some (z, h') ∧ (z = 0 ∨ z = 1) ∧ KR 111 m h' ∧ ∀ fl', (fl' = 0 ∨ fl' = 1) → (fl' = 0 ↔ fl = 0 ∧ z = 0) → LI N9 r (prC (w + 1) u) fl' (vC h') := by
  obtain ⟨n', e⟩ : ∃ n', n = n' + 4 := ⟨n - 4, by omega⟩
  have q1 := hw.1
  have q2 := hw.2
  have G := I.1
  have hb := GE_b (by decide) G hw
  have P0 : PX N9 (vC h w u) (vC h) w u (-1) (vC h w u) := ⟨Int.le_refl _, fun j j0 j1 => by omega, Or.inl rfl⟩
  obtain ⟨x1, e1, P1⟩ := imp_st (n := n) (f := n' + 3) G hw (by decide) hb P0
  obtain ⟨x2, e2, P2⟩ := imp_st (n := n) (f := n' + 2) G hw (by decide) hb P1
  obtain ⟨x3, e3, P3⟩ := imp_st (n := n) (f := n' + 1) G hw (by decide) hb P2
  have hx := PX_b (by decide) G hb P3
  have st : BX3_improve_13 n n w u (vC h w u) (vC h w u) (-1) h = some (w, u, vC h w u, x3) := by
    have e' : BX3_improve_13 n (n' + 4) w u (vC h w u) (vC h w u) (-1) h = some (w, u, vC h w u, x3) := by
      rw [e1, e2, e3, BX3_improve_13, if_pos (by decide)]
    rw [← e] at e'
    exact e'
  have hfin : ∀ fl' z : Int, (fl' = 0 ∨ fl' = 1) → (z = 0 ↔ ¬ x3 < vC h w u) → (fl' = 0 ↔ fl = 0 ∧ z = 0) → LI N9 r (prC (w + 1) u) fl' (updT (vC h) w u x3) := fun fl' z hz hzz hf =>
    LI_pr (LI_step (by decide) I hw P3.1 (fun j j0 j1 => P3.2.1 j j0 (by omega)) P3.2.2 ⟨hz, by rw [hf, hzz]⟩) (fun a b hab hp => by unfold prC at *; omega)
  unfold MX3_improve LX3_improve_13
  rw [sum_c hw, bndp_s, ltt_e, ltt_e, ltt_e, st, bndx_s]
  show ∃ (z : Int) (h' : Hp), JX3_improve_64 n w u (vC h w u) x3 h = some (z, h') ∧ _
  unfold JX3_improve_64 JX3_improve_86
  by_cases hle : vC h w u ≤ x3
  · rw [if_pos hle, if_pos hle]
    refine ⟨0, h, rfl, Or.inl rfl, K, fun fl' hz hf => ?_⟩
    have ee : x3 = vC h w u := by have := P3.1; omega
    have := hfin fl' 0 hz ⟨fun _ => by omega, fun _ => rfl⟩ hf
    rw [ee, updT_me] at this
    exact this
  · rw [if_neg hle, w32_i (x := u + 6) (by omega), w32_i (x := (u + 6) * 61) (by omega), w32_i (x := (u + 6) * 61 + w) (by omega), al6364, grd_t (by omega), ltt_e, if_neg hle]
    refine ⟨1, _, rfl, Or.inr rfl, K.put, fun fl' hz hf => ?_⟩
    rw [vC_up hw]
    exact hfin fl' 1 hz ⟨fun q => absurd q (by decide), fun q => by omega⟩ hf
theorem fa_in {n : Nat} (hn : 10 ≤ n) {m : Hp} {r : Nat} {u : Int} (hu : -6 ≤ u ∧ u ≤ 6) {x2 : Int} : ∀ (k f : Nat) (w fl : Int) (h : Hp), w + k = 61 → k < f → 0 ≤ w → KR 111 m h → LI N9 r (prC w u) fl (vC h) → ∃ (fl' : Int) (h' : Hp), BX3_findAll_63 n f fl x2 u w h = some (fl', x2, u, h') ∧ KR 111 m h' ∧ LI N9 r (prC 61 u) fl' (vC h')
  | k, f + 1, w, fl, h, hk, hf, h0, K, I => by
    rw [BX3_findAll_63]
    by_cases hd : 61 ≤ w
    · have hw : w = 61 := by omega
      subst hw
      rw [if_pos hd]
      exact ⟨fl, h, rfl, K, I⟩
    · rw [if_neg hd]
      obtain ⟨k, rfl⟩ : ∃ k', k = k' + 1 := ⟨k - 1, by omega⟩
      obtain ⟨z, h1, e1, hz, K1, I1⟩ := imp_c hn (w := w) ⟨by omega, hu⟩ K I
      rw [e1, bnd_s]
      have hw32 : w32 (w + 1) = w + 1 := w32_i (by omega)
      rcases hz with rfl | rfl
      · rw [if_neg (by decide)]
        rcases I.2.2.2.2.1 with rfl | rfl
        · rw [if_pos rfl]
          unfold JX3_findAll_89
          rw [ltt_e, hw32, ltt_e]
          exact fa_in hn hu k f (w + 1) 0 h1 (by omega) (by omega) (by omega) K1 (I1 0 (Or.inl rfl) (by decide))
        · rw [if_neg (by decide)]
          unfold JX3_findAll_84 JX3_findAll_89
          rw [ltt_e, hw32, ltt_e]
          exact fa_in hn hu k f (w + 1) 1 h1 (by omega) (by omega) (by omega) K1 (I1 1 (Or.inr rfl) (by decide))
      · rw [if_pos (by decide)]
        unfold JX3_findAll_84 JX3_findAll_89
        rw [ltt_e, hw32, ltt_e]
        exact fa_in hn hu k f (w + 1) 1 h1 (by omega) (by omega) (by omega) K1 (I1 1 (Or.inr rfl) (by omega))
theorem fa_out {n : Nat} (hn : 100 ≤ n) {m : Hp} {r : Nat} {x2 : Int} : ∀ (k f : Nat) (u fl : Int) (h : Hp), u + k = 7 → k < f → -6 ≤ u → KR 111 m h → LI N9 r (prC 0 u) fl (vC h) → ∃ (fl' : Int) (h' : Hp), BX3_findAll_54 n f fl x2 u h = some (fl', x2, h') ∧ KR 111 m h' ∧ LI N9 r (prC 0 7) fl' (vC h')
  | k, f + 1, u, fl, h, hk, hf, h0, K, I => by
    rw [BX3_findAll_54]
    by_cases hd : 6 < u
    · have hw : u = 7 := by omega
      subst hw
      rw [if_pos hd]
      exact ⟨fl, h, rfl, K, I⟩
    · rw [if_neg hd, ltt_e]
      obtain ⟨k, rfl⟩ : ∃ k', k = k' + 1 := ⟨k - 1, by omega⟩
      obtain ⟨fl1, h1, e1, K1, I1⟩ := fa_in (n := n) (by omega) (u := u) (by omega) (x2 := x2) 61 n 0 fl h (by decide) (by omega) (by decide) K I
      unfold LX3_findAll_63
      rw [e1, bndx_s]
      show ∃ (fl' : Int) (h' : Hp), JX3_findAll_96 n (BX3_findAll_54 n f) fl1 x2 u h1 = some (fl', x2, h') ∧ _
      unfold JX3_findAll_96
      rw [ltt_e, w32_i (by omega)]
      exact fa_out hn k f (u + 1) fl1 h1 (by omega) (by omega) (by omega) K1 (LI_pr I1 (fun a b hab hp => by have := hab.1; unfold prC at *; omega))
theorem fa_pass {n : Nat} (hn : 100 ≤ n) {m : Hp} : ∀ (k f : Nat) (x1 : Int) (r : Nat) (h : Hp), r + k = 1000 → k < f → KR 111 m h → (x1 = 0 → TT N9 (vC h)) → (x1 ≠ 0 → GE0 N9 (vC h) ∧ EQr r (vC h) ∧ r ≤ 22) → ∃ h' : Hp, BX3_findAll_38 n f x1 (r : Int) h = some h' ∧ KR 111 m h' ∧ TT N9 (vC h')
  | k, f + 1, x1, r, h, hk, hf, K, T, Q => by
    rw [BX3_findAll_38]
    by_cases hz : x1 = 0
    · have hT := T hz
      by_cases hd : (1000 : Int) ≤ (r : Int)
      · rw [if_pos hd]
        exact ⟨h, rfl, K, hT⟩
      · rw [if_neg hd, if_pos hz]
        exact ⟨h, rfl, K, hT⟩
    · obtain ⟨G, E, hr⟩ := Q hz
      rw [if_neg (by omega), if_neg hz, ltt_e, ltt_e]
      obtain ⟨k, rfl⟩ : ∃ k', k = k' + 1 := ⟨k - 1, by omega⟩
      obtain ⟨fl1, h1, e1, K1, I1⟩ := fa_out hn (x2 := (r : Int)) 13 n (-6) 0 h (by decide) (by omega) (by decide) K (LI_begin G E (fun w u hw => by have := hw.1; have := hw.2; unfold prC; omega))
      have hE := LI_end (by decide) I1 (fun w u hw => by have := hw.2; unfold prC; omega)
      unfold LX3_findAll_54
      rw [e1, bndx_s]
      show ∃ h' : Hp, JX3_findAll_102 n (BX3_findAll_38 n f) fl1 (r : Int) h1 = some h' ∧ _
      unfold JX3_findAll_102
      rw [ltt_e, w32_i (by omega)]
      exact fa_pass hn k f fl1 (r + 1) h1 (by omega) (by omega) K1 hE.1 (fun hf1 => ⟨hE.2.1, hE.2.2, by
        have := I1.2.2.2.2.2
        omega⟩)
theorem fa_fill {n : Nat} {m : Hp} : ∀ (k f : Nat) (i : Int) (h : Hp), i + k = 793 → k < f → 0 ≤ i → KR 111 m h → (∀ a, 0 ≤ a → a < i → h 111 a = 1000000000) → ∃ h' : Hp, BX3_findAll_2 n f i h = some h' ∧ KR 111 m h' ∧ ∀ a, 0 ≤ a → a < 793 → h' 111 a = 1000000000
  | k, f + 1, i, h, hk, hf, h0, K, A => by
    rw [BX3_findAll_2, al6364]
    by_cases hd : 793 ≤ i
    · rw [if_pos hd]
      exact ⟨h, rfl, K, fun a a0 a1 => A a a0 (by omega)⟩
    · obtain ⟨k, rfl⟩ : ∃ k', k = k' + 1 := ⟨k - 1, by omega⟩
      rw [if_neg hd, grd_t (by omega), ltt_e, w32_i (by omega), ltt_e]
      exact fa_fill k f (i + 1) _ (by omega) (by omega) (by omega) K.put (fun a a0 a1 => by
        by_cases ha : a = i
        · rw [ha, up_s]
        · rw [up_i ha]; exact A a a0 (by omega))
theorem G_new {NO : Int} (hNO : 1000 ≤ NO) {v : Int → Int → Int} (h0 : v 0 0 = 0) (h1 : ∀ w u, inR w u → ¬ (w = 0 ∧ u = 0) → v w u = NO) : GE0 NO v ∧ EQr 0 v := by
  refine ⟨⟨h0, fun w u hw => ?_⟩, fun w u hw ht hr => ?_⟩
  · by_cases hz : w = 0 ∧ u = 0
    · obtain ⟨rfl, rfl⟩ := hz
      right
      rw [h0, t00]
      omega
    · exact Or.inl (h1 w u hw hz)
  · by_cases hz : w = 0 ∧ u = 0
    · obtain ⟨rfl, rfl⟩ := hz
      rw [h0, t00]
    · obtain ⟨j, hj, j1, j2, j3, j4⟩ := tC hw ht hz
      omega
theorem findAll_c {n : Nat} (hn : 2000 ≤ n) {m : Hp} : ∃ h' : Hp, MX3_findAll n m = some h' ∧ KR 111 m h' ∧ TT N9 (vC h') := by
  obtain ⟨h1, e1, K1, A⟩ := fa_fill (n := n) 793 n 0 m (by decide) (by omega) (by decide) (KR.rf (c := 111)) (fun a a0 a1 => by omega)
  have g := G_new (NO := N9) (v := vC (up h1 111 366 0)) (by decide) (by rw [vC_in ⟨by decide, by decide⟩]; exact up_s) (fun w u hw hz => by
    have q1 := hw.1
    have q2 := hw.2
    rw [vC_in hw, up_i (by omega)]
    exact A _ (by omega) (by omega))
  unfold MX3_findAll LX3_findAll_2
  rw [ltt_e, e1, bndx_s]
  unfold JX3_findAll_25 LX3_findAll_38
  rw [al6364, grd_t (by decide), ltt_e, ltt_e, ltt_e]
  exact fa_pass (by omega) 1000 n 1 0 _ (by decide) (by omega) K1.put (fun q => absurd q (by decide)) (fun _ => ⟨g.1, g.2, by decide⟩)
def leastA (w u : Int) : Int := if (0 ≤ w ∧ w ≤ 40) ∧ (-6 ≤ u ∧ u ≤ 6) then leastS w u else -1
/-- the class's table is not made, or it is the least ways' -/
def RLs (h : Hp) : Prop := h 110 1 = 0 ∨ TT N9 (vC h)
theorem TT_ls {NO : Int} (hNO : 1000 ≤ NO) {v : Int → Int → Int} (T : TT NO v) {w u : Int} (hw : inR w u) : (if v w u < NO then v w u else -2) = leastS w u := by
  have hA := tA hw
  have := T w u hw
  unfold leastS
  by_cases ht : tT w u = -1
  · rw [if_pos ht] at this ⊢
    rw [if_neg (by omega)]
  · rw [if_neg ht] at this ⊢
    rw [if_pos (by omega), this]
theorem vC_of {h g : Hp} (e : h 111 = g 111) : vC h = vC g := by
  funext w u
  unfold vC
  rw [e]
theorem least_c {n : Nat} (hn : 2000 ≤ n) {m : Hp} (R : RLs m) (w u : Int) : ∃ h' : Hp, MX11_least n w u m = some (leastA w u, h') ∧ (∀ b, b ≠ 110 → b ≠ 111 → h' b = m b) ∧ (∀ i, i ≠ 1 → h' 110 i = m 110 i) ∧ RLs h' := by
  unfold MX11_least MX3_wayFrom leastA
  by_cases h1 : w < 0
  · rw [if_pos h1, if_neg (by omega), bnd_s]
    exact ⟨m, rfl, fun _ _ _ => rfl, fun _ _ => rfl, R⟩
  by_cases h2 : 40 < w
  · rw [if_neg h1, if_pos h2, if_neg (by omega), bnd_s]
    exact ⟨m, rfl, fun _ _ _ => rfl, fun _ _ => rfl, R⟩
  by_cases h3 : u < -6
  · rw [if_neg h1, if_neg h2, if_pos h3, if_neg (by omega), bnd_s]
    exact ⟨m, rfl, fun _ _ _ => rfl, fun _ _ => rfl, R⟩
  by_cases h4 : u ≤ 6
  · rw [if_neg h1, if_neg h2, if_neg h3, if_pos h4, if_pos (c := (0 ≤ w ∧ w ≤ 40) ∧ (-6 ≤ u ∧ u ≤ 6)) (by omega)]
    have hw : inR w u := ⟨by omega, by omega⟩
    have fin : ∀ g : Hp, TT N9 (vC g) → JX3_wayFrom_40 n w u g = some (leastS w u, g) := fun g T => by
      unfold JX3_wayFrom_40
      rw [sum_c hw, bndp_s, ltt_e]
      have := TT_ls (by decide) T hw
      by_cases hv : vC g w u < 1000000000
      · rw [if_pos hv] at this ⊢
        rw [this]
      · rw [if_neg hv] at this ⊢
        rw [this]
    by_cases hz : m 110 1 ≠ 0
    · rw [if_pos hz]
      rcases R with R | R
      · exact absurd R hz
      · rw [fin m R, bnd_s]
        exact ⟨m, rfl, fun _ _ _ => rfl, fun _ _ => rfl, Or.inr R⟩
    · rw [if_neg hz]
      obtain ⟨h1, e1, K1, T1⟩ := findAll_c hn (m := m)
      have T2 : TT N9 (vC (up h1 110 1 1)) := by
        rw [vC_of (g := h1) (up_row (by decide))]
        exact T1
      rw [e1, bndh_s, ltt_e, fin _ T2, bnd_s]
      exact ⟨_, rfl, fun b b1 b2 => by rw [up_row b1]; exact K1 b b2, fun i hi => by rw [up_i hi, K1 110 (by decide)], Or.inr T2⟩
  · rw [if_neg h1, if_neg h2, if_neg h3, if_neg h4, if_neg (by omega), bnd_s]
    exact ⟨m, rfl, fun _ _ _ => rfl, fun _ _ => rfl, R⟩
