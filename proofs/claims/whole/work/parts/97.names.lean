/-! NAMES. -/
/-- a word's number in base 32 -/
def wv (T : Int → Int) (p : Int) : Nat → Int
  | 0 => 0
  | l + 1 => 32 * wv T p l + (T (p + (l : Int)) - 96)
theorem wv_s {T : Int → Int} {p : Int} {l : Nat} : wv T p (l + 1) = 32 * wv T p l + (T (p + (l : Int)) - 96) := rfl
abbrev ltrs (T : Int → Int) (p : Int) (l : Nat) : Prop := ∀ i : Int, 0 ≤ i → i < l → ltr (T (p + i))
theorem wv_b {T : Int → Int} {p : Int} : ∀ l : Nat, ltrs T p l → 0 ≤ wv T p l ∧ (0 < l → 1 ≤ wv T p l)
  | 0, _ => ⟨Int.le_refl _, fun h => absurd h (by decide)⟩
  | l + 1, H => by
    have ih := wv_b l (fun i i0 i1 => H i i0 (by omega))
    have t := H l (by omega) (by omega)
    rw [wv_s]
    omega
theorem wv_7 {T : Int → Int} {p : Int} {l : Nat} (hl : l ≤ 7) (H : ltrs T p l) : wv T p l ≤ 34359738368 := by
  have bd : ∀ (k : Nat), k ≤ l → wv T p k + 1 ≤ 32 ^ k := fun k => by
    induction k with
    | zero => exact fun _ => Int.le_refl _
    | succ k ih =>
      intro hk
      have t := H k (by omega) (by omega)
      have i := ih (by omega)
      rw [wv_s, Int.pow_succ]
      omega
  have b := bd l (Nat.le_refl l)
  have m : ∀ k : Nat, k ≤ 7 → (32 : Int) ^ k ≤ 34359738368 := by decide
  have := m l hl
  omega
theorem wv_inj {T : Int → Int} {p q : Int} : ∀ l k : Nat, ltrs T p l → ltrs T q k → (wv T p l = wv T q k ↔ l = k ∧ ∀ i : Int, 0 ≤ i → i < l → T (p + i) = T (q + i))
  | 0, 0, _, _ => ⟨fun _ => ⟨rfl, fun i i0 i1 => by omega⟩, fun _ => rfl⟩
  | 0, k + 1, _, K => by
    have := (wv_b (k + 1) K).2 (by omega)
    have e : wv T p 0 = 0 := rfl
    constructor
    · intro q
      omega
    · rintro ⟨q, -⟩
      omega
  | l + 1, 0, L, _ => by
    have := (wv_b (l + 1) L).2 (by omega)
    have e : wv T q 0 = 0 := rfl
    constructor
    · intro q
      omega
    · rintro ⟨q, -⟩
      omega
  | l + 1, k + 1, L, K => by
    have ih := wv_inj (T := T) (p := p) (q := q) l k (fun i i0 i1 => L i i0 (by omega)) (fun i i0 i1 => K i i0 (by omega))
    have a := L l (by omega) (by omega)
    have b := K k (by omega) (by omega)
    rw [wv_s, wv_s]
    constructor
    · intro e
      have e1 : wv T p l = wv T q k := by omega
      have e2 : T (p + l) = T (q + k) := by omega
      obtain ⟨r1, r2⟩ := ih.mp e1
      subst r1
      refine ⟨rfl, fun i i0 i1 => ?_⟩
      by_cases hi : i = l
      · rw [hi]
        exact e2
      · exact r2 i i0 (by omega)
    · rintro ⟨r1, r2⟩
      have r1' : l = k := by omega
      subst r1'
      have e1 := ih.mpr ⟨rfl, fun i i0 i1 => r2 i i0 (by omega)⟩
      have e2 := r2 l (by omega) (by omega)
      omega
def rpR (T : Int → Int) (a q : Int) : Nat → Int → Bool
  | 0, _ => true
  | r + 1, i => if T (a + i) = T (q + i) then rpR T a q r (i + 1) else false
theorem rpR_s {T : Int → Int} {a q i : Int} {r : Nat} : rpR T a q (r + 1) i = if T (a + i) = T (q + i) then rpR T a q r (i + 1) else false := rfl
theorem rpR_iff {T : Int → Int} {a q : Int} : ∀ (r : Nat) (i : Int), rpR T a q r i = true ↔ ∀ j : Int, i ≤ j → j < i + r → T (a + j) = T (q + j)
  | 0, i => ⟨fun _ j j0 j1 => by omega, fun _ => rfl⟩
  | r + 1, i => by
    have ih := rpR_iff (T := T) (a := a) (q := q) r (i + 1)
    rw [rpR_s]
    by_cases h : T (a + i) = T (q + i)
    · rw [if_pos h, ih]
      constructor
      · intro A j j0 j1
        by_cases hj : j = i
        · rw [hj]
          exact h
        · exact A j (by omega) (by omega)
      · intro A j j0 j1
        exact A j (by omega) (by omega)
    · rw [if_neg h]
      exact ⟨fun q => absurd q (by decide), fun A => absurd (A i (by omega) (by omega)) h⟩
/-- the first mark whose number is v -/
def mkb (N : Int → Int) (v k : Int) : Bool := decide (N k = v)
def mkF (N : Int → Int) (v M : Int) : Int := if fnd (mkb N v) M.toNat 0 = M then -1 else fnd (mkb N v) M.toNat 0
/-- a name is read -/
abbrev nmOK (T : Int → Int) (z a : Int) : Prop := (1 ≤ wnd T z a - a ∧ wnd T z a - a ≤ 7) ∧ kwS T a (wnd T z a - a) = -1
def rdW (T : Int → Int) (z : Int) (s : St3) : St3 := if s.1 = -1 then (if nmOK T z (skp T z s.2.1) then (-1, wnd T z (skp T z s.2.1), skp T z s.2.1) else (8 * skp T z s.2.1 + 1, skp T z s.2.1, skp T z s.2.1)) else s
theorem rdW_f {T : Int → Int} {z : Int} {s : St3} (h : ¬ s.1 = -1) : rdW T z s = s := if_neg h
theorem kd_w {T : Int → Int} {z a : Int} (ha : a ≤ z) : tkK T z a = 1 ↔ 1 ≤ wnd T z a - a := by
  unfold tkK
  by_cases h1 : z ≤ a
  · have e : wnd T z a = a := fnd_z h1
    rw [if_pos h1, e]
    constructor <;> intro q <;> omega
  · rw [if_neg h1]
    by_cases h2 : ltr (T a)
    · have e : wnd T z a = wnd T z (a + 1) := fnd_f (by omega) (by unfold nlt; rw [decide_eq_true_eq]; exact fun q => q h2)
      have b := wnd_b (T := T) (z := z) (p := a + 1) (by omega)
      rw [if_pos h2, e]
      constructor <;> intro q <;> omega
    · have e : wnd T z a = a := fnd_t (by omega) (by unfold nlt; rw [decide_eq_true_eq]; exact h2)
      rw [if_neg h2, e]
      constructor
      · intro q
        split at q
        · omega
        · split at q
          · omega
          · split at q <;> omega
      · intro q
        omega
theorem en_w {T : Int → Int} {z a : Int} (ha : a ≤ z) (h : tkK T z a = 1) : tkE T z a = wnd T z a := by
  have q := (kd_w ha).mp h
  have b := wnd_b (T := T) (z := z) (p := a) ha
  have l := wnd_d (T := T) (z := z) (p := a) ha (y := a) (Int.le_refl a) (by omega)
  unfold tkE
  rw [if_neg (by omega), if_pos l]
/-- the marks of both programs -/
def MKS (hc hm : Hp) (T : Int → Int) (z M : Int) : Prop := ∀ k, 0 ≤ k → k < M → (1 ≤ hc 36 k ∧ hc 36 k ≤ 7) ∧ (0 ≤ hc 35 k ∧ hc 35 k + hc 36 k ≤ z) ∧ ltrs T (hc 35 k) (hc 36 k).toNat ∧ hm 117 k = wv T (hc 35 k) (hc 36 k).toNat
section
variable {n : Nat}
theorem rep_l {h : Hp} {T : Int → Int} {z e a q l : Int} (A : TPc h T z e) (h3 : h 27 3 = a) (a0 : 0 ≤ a) (al : a + l ≤ z) (q0 : 0 ≤ q) (ql : q + l ≤ z) : ∀ (r f : Nat) (i : Int), i + r = l → r < f → 0 ≤ i → BX9_repeats_42 n f q l i h = some (if rpR T a q r i = true then 1 else 0)
  | 0, f + 1, i, hr, hf, i0 => by
    rw [BX9_repeats_42, if_pos (by omega)]
    rfl
  | r + 1, f + 1, i, hr, hf, i0 => by
    have b := A.2.2.1
    have t1 := A.2.2.2 (a + i) (by omega) (by omega)
    have t2 := A.2.2.2 (q + i) (by omega) (by omega)
    have nx := rep_l A h3 a0 al q0 ql r f (i + 1) (by omega) (by omega) (by omega)
    rw [BX9_repeats_42, if_neg (by omega), h3, w32_i (x := a + i) (by omega), w32_i (x := q + i) (by omega), al3220, grd_t (by omega), grd_t (by omega), t1.1, t2.1, ltt_e, w32_i (x := i + 1) (by omega), nx, rpR_s]
    by_cases he : T (a + i) = T (q + i)
    · rw [if_pos he, if_pos he]
    · rw [if_neg he, if_neg he, if_neg (by decide)]
theorem repeats_c (hn : 100 ≤ n) {h : Hp} {T : Int → Int} {z e a q k : Int} (A : TPc h T z e) (h3 : h 27 3 = a) (a0 : 0 ≤ a) (ae : a ≤ e) (q0 : 0 ≤ q) (k0 : 0 ≤ k) (k7 : k ≤ 7) (ql : q + k ≤ z) (L : ltrs T a (e - a).toNat) (K : ltrs T q k.toNat) : MX9_repeats n q k h = some (if wv T q k.toNat = wv T a (e - a).toNat then 1 else 0) := by
  have b := A.2.2.1
  have wi := wv_inj k.toNat (e - a).toNat K L
  unfold MX9_repeats
  rw [A.2.1, h3, A.1, w32_i (x := e - a) (by omega), w32_i (x := q + k) (by omega)]
  by_cases he : e - a = k
  · unfold LX9_repeats_42
    rw [if_neg (fun q => q he), if_neg (by omega), if_neg (by omega), if_pos ql, ltt_e, rep_l A h3 a0 (l := k) (by omega) q0 ql k.toNat n 0 (by omega) (by omega) (by decide)]
    have ri := rpR_iff (T := T) (a := a) (q := q) k.toNat 0
    by_cases hw : wv T q k.toNat = wv T a (e - a).toNat
    · rw [if_pos hw, if_pos (ri.mpr (fun j j0 j1 => ((wi.mp hw).2 j j0 (by omega)).symm))]
    · rw [if_neg hw, if_neg (fun t => hw (wi.mpr ⟨by omega, fun i i0 i1 => ((ri.mp t) i i0 (by omega)).symm⟩))]
  · rw [if_pos he, if_neg (fun t => he (by have := (wi.mp t).1; omega))]
theorem findMark_l (hn : 100 ≤ n) {h hm : Hp} {T : Int → Int} {z e a v M : Int} (A : TPc h T z e) (h3 : h 27 3 = a) (a0 : 0 ≤ a) (ae : a ≤ e) (L : ltrs T a (e - a).toNat) (h7 : h (h 29 7) 13 = M) (hM : 0 ≤ M ∧ M ≤ 8) (K : MKS h hm T z M) (hv : v = wv T a (e - a).toNat) : ∀ (r f : Nat) (k : Int), k + r = M → r < f → 0 ≤ k → BX6_findMark_2 n f k h = some (if fnd (mkb (hm 117) v) r k = M then -1 else fnd (mkb (hm 117) v) r k)
  | 0, f + 1, k, hr, hf, k0 => by
    have e : fnd (mkb (hm 117) v) 0 k = M := by
      show k = M
      omega
    rw [BX6_findMark_2, h7, if_pos (by omega), e, if_pos rfl]
  | r + 1, f + 1, k, hr, hf, k0 => by
    obtain ⟨k1, k2, k3, k4⟩ := K k k0 (by omega)
    have nx := findMark_l hn A h3 a0 ae L h7 hM K hv r f (k + 1) (by omega) (by omega) (by omega)
    rw [BX6_findMark_2, h7, if_neg (by omega), if_neg (by omega), al84, grd_t (by omega), grd_t (by omega), repeats_c hn A h3 a0 ae k2.1 (by omega) k1.2 k2.2 L k3, bndp_s, ltt_e, w32_i (x := k + 1) (by omega), nx, ← k4, ← hv, fnd_s]
    by_cases he : hm 117 k = v
    · have eb : mkb (hm 117) v k = true := by
        unfold mkb
        exact decide_eq_true he
      rw [if_pos he, if_neg (by decide), if_pos eb, if_neg (show ¬ k = M by omega)]
    · have eb : ¬ mkb (hm 117) v k = true := by
        unfold mkb
        rw [decide_eq_true_eq]
        exact he
      rw [if_neg he, if_pos rfl, if_neg eb]
theorem findMark_c (hn : 100 ≤ n) {h hm : Hp} {T : Int → Int} {z e a M : Int} (A : TPc h T z e) (h3 : h 27 3 = a) (a0 : 0 ≤ a) (ae : a ≤ e) (L : ltrs T a (e - a).toNat) (h7 : h (h 29 7) 13 = M) (hM : 0 ≤ M ∧ M ≤ 8) (K : MKS h hm T z M) : MX6_findMark n h = some (mkF (hm 117) (wv T a (e - a).toNat) M) := by
  unfold MX6_findMark LX6_findMark_2
  rw [ltt_e]
  exact findMark_l hn A h3 a0 ae L h7 hM K rfl M.toNat n 0 (by omega) (by omega) (by decide)
theorem markOf_l {h : Hp} {v M : Int} (h4 : h 113 4 = M) (hM : 0 ≤ M ∧ M ≤ 8) : ∀ (r f : Nat) (k : Int), k + r = M → r < f → 0 ≤ k → BX12_markOf_2 n f v k h = some (if fnd (mkb (h 117) v) r k = M then -1 else fnd (mkb (h 117) v) r k)
  | 0, f + 1, k, hr, hf, k0 => by
    have e : fnd (mkb (h 117) v) 0 k = M := by
      show k = M
      omega
    rw [BX12_markOf_2, h4, if_pos (by omega), e, if_pos rfl]
  | r + 1, f + 1, k, hr, hf, k0 => by
    have nx := markOf_l (v := v) h4 hM r f (k + 1) (by omega) (by omega) (by omega)
    rw [BX12_markOf_2, h4, if_neg (by omega), al85, grd_t (by omega), ltt_e, w32_i (x := k + 1) (by omega), nx, fnd_s]
    simp only [lcp_ne]
    by_cases he : h 117 k = v
    · have eb : mkb (h 117) v k = true := by
        unfold mkb
        exact decide_eq_true he
      rw [if_neg (fun q => q he), if_pos eb, if_neg (show ¬ k = M by omega)]
    · have eb : ¬ mkb (h 117) v k = true := by
        unfold mkb
        rw [decide_eq_true_eq]
        exact he
      rw [if_pos he, if_neg eb]
theorem markOf_m (hn : 100 ≤ n) {h : Hp} {v M : Int} (h4 : h 113 4 = M) (hM : 0 ≤ M ∧ M ≤ 8) : MX12_markOf n v h = some (mkF (h 117) v M) := by
  unfold MX12_markOf LX12_markOf_2
  rw [ltt_e]
  exact markOf_l h4 hM M.toNat n 0 (by omega) (by omega) (by decide)
theorem name_l {h : Hp} {T : Int → Int} {z p l : Int} (A : TPm h T z p) (h22 : h 113 22 = -1) (hl : p + l ≤ z) (l7 : l ≤ 7) (L : ltrs T p l.toNat) : ∀ (r f : Nat) (k : Nat), (k : Int) + r = l → r < f → BX12_name_59 n f l (wv T p k) k h = some (wv T p l.toNat, up h 113 21 (p + l))
  | 0, f + 1, k, hr, hf => by
    have b := A.2.2.1
    rw [BX12_name_59, if_pos (by omega), ltt_e, A.2.1, w32_i (x := p + l) (by omega), show l.toNat = k by omega]
  | r + 1, f + 1, k, hr, hf => by
    have b := A.2.2.1
    have t := A.2.2.2 (p + k) (by omega) (by omega)
    have c := L k (by omega) (by omega)
    have w := wv_b (T := T) (p := p) k (fun i i0 i1 => L i i0 (by omega))
    have w7 := wv_7 (T := T) (p := p) (l := k) (by omega) (fun i i0 i1 => L i i0 (by omega))
    have er : rawB (T (p + k)) = T (p + k) := if_pos (by omega)
    have ek : ((k + 1 : Nat) : Int) = (k : Int) + 1 := by omega
    have nx := name_l A h22 hl l7 L r f (k + 1) (by omega) (by omega)
    rw [BX12_name_59, if_neg (by omega), isRight_m, h22, if_pos rfl, bndp_s, if_neg (by decide), A.2.1, w32_i (x := p + k) (by omega), al3223, grd_t (by omega), t.1, er, w64_i (x := 32 * wv T p k) (by omega), w64_i (x := 32 * wv T p k + T (p + k)) (by omega), w64_i (x := 32 * wv T p k + T (p + k) - 97) (by omega), w64_i (x := 32 * wv T p k + T (p + k) - 97 + 1) (by omega), ltt_e, ltt_e, w32_i (x := (k : Int) + 1) (by omega), ← ek]
    rw [wv_s] at nx
    rw [show 32 * wv T p k + T (p + k) - 97 + 1 = 32 * wv T p k + (T (p + k) - 96) by omega]
    exact nx
theorem name_f {h : Hp} {l p : Int} (hn : 1 ≤ n) (h22 : ¬ h 113 22 = -1) (hp : h 113 21 = p) (h0 : 0 ≤ p + l ∧ p + l ≤ 1000) : JX12_name_54 n l h = some (0, up h 113 21 (p + l)) := by
  unfold JX12_name_54 LX12_name_59
  obtain ⟨n', en⟩ : ∃ n', n = n' + 1 := ⟨n - 1, by omega⟩
  have : BX12_name_59 n (n' + 1) l 0 0 h = some (0, up h 113 21 (p + l)) := by
    rw [BX12_name_59, hp, w32_i (x := p + l) (by omega), ltt_e, isRight_m, if_neg h22, bndp_s, if_pos rfl]
    by_cases h1 : l ≤ 0
    · rw [if_pos h1]
    · rw [if_neg h1]
  rw [ltt_e, ltt_e]
  rw [← en] at this
  exact this
/-- a name of the model -/
theorem name_m (hn : 1000 ≤ n) {T : Int → Int} {z : Int} {s : St3} {h : Hp} (A : Rm h T z s) (hs : s.1 = -1) : ∃ v h', MX12_name n h = some (v, h') ∧ FMr h h' ∧ Rm h' T z (rdW T z s) ∧ ((rdW T z s).1 = -1 → v = wv T (rdW T z s).2.2 ((rdW T z s).2.1 - (rdW T z s).2.2).toNat ∧ h' 113 24 = (rdW T z s).2.2) := by
  have A1 := A.2.1 hs
  have b := A1.2.2.1
  have sb := skp_b (T := T) (z := z) (p := s.2.1) b.2.1
  obtain ⟨g, e, F, Ag⟩ := next_m hn A1
  have eu : rdW T z s = if nmOK T z (skp T z s.2.1) then (-1, wnd T z (skp T z s.2.1), skp T z s.2.1) else (8 * skp T z s.2.1 + 1, skp T z s.2.1, skp T z s.2.1) := if_pos hs
  unfold MX12_name
  rw [e, bnd_s, ltt_e, Ag.2.1]
  generalize skp T z s.2.1 = a at *
  have wb := wnd_b (T := T) (z := z) (p := a) (by omega)
  have A2 : TPm (up g 113 24 a) T z a := Ag.st (up_row (by decide)) (up_i (by decide)) ((up_i (by decide)).trans Ag.2.1) (by omega)
  have e22 : up g 113 24 a 113 22 = -1 := by rw [up_i (by decide), F.2 22 (by decide), A.1]; exact hs
  have e24 : up g 113 24 a 113 24 = a := up_s
  have F2 : FMr h (up g 113 24 a) := F.mr.put (by decide)
  have J : JX12_name_45 n (wnd T z a - a) (up g 113 24 a) = some (0, up (up (up g 113 24 a) 113 22 (8 * a + 1)) 113 21 (a + (wnd T z a - a))) := by
    unfold JX12_name_45
    rw [A2.2.1, fails_m (by decide) (by omega), e22, if_pos rfl, bndh_s]
    exact name_f (p := a) (by omega) (by rw [up_s]; omega) ((up_i (by decide)).trans A2.2.1) (by omega)
  have fin : ¬ nmOK T z a → ∃ v h', some ((0 : Int), up (up (up g 113 24 a) 113 22 (8 * a + 1)) 113 21 (a + (wnd T z a - a))) = some (v, h') ∧ FMr h h' ∧ Rm h' T z (rdW T z s) ∧ ((rdW T z s).1 = -1 → v = wv T (rdW T z s).2.2 ((rdW T z s).2.1 - (rdW T z s).2.2).toNat ∧ h' 113 24 = (rdW T z s).2.2) := fun hq => by
    rw [eu, if_neg hq]
    exact ⟨0, _, rfl, (F2.put (by decide)).put (by decide), ⟨(up_i (by decide)).trans up_s, fun q => by have : 8 * a + 1 = -1 := q; omega, fun _ => by show 0 ≤ 8 * a + 1; omega⟩, fun q => by have : 8 * a + 1 = -1 := q; omega⟩
  rw [wlen_m hn A2, bndp_s, ltt_e, isRight_m, e22, if_pos rfl, bndp_s, if_neg (by decide), in_m, bndp_s, wordHere_m hn A2, bndp_s, J]
  by_cases h1 : 1 ≤ wnd T z a - a ∧ wnd T z a - a ≤ 7
  · rw [if_pos h1, if_neg (by decide)]
    by_cases h2 : kwS T a (wnd T z a - a) = -1
    · have L : ltrs T a (wnd T z a - a).toNat := fun i i0 i1 => wnd_d (z := z) (p := a) (by omega) (by omega) (by omega)
      rw [if_pos h2, eu, if_pos ⟨h1, h2⟩]
      unfold JX12_name_54 LX12_name_59
      rw [ltt_e, ltt_e]
      have l := name_l (n := n) A2 e22 (l := wnd T z a - a) (by omega) h1.2 L (wnd T z a - a).toNat n 0 (by omega) (by omega)
      rw [show a + (wnd T z a - a) = wnd T z a by omega] at l
      refine ⟨_, _, l, F2.put (by decide), ⟨(up_i (by decide)).trans e22, fun _ => A2.go (by omega), fun q => absurd rfl q⟩, fun _ => ⟨rfl, (up_i (by decide)).trans e24⟩⟩
    · rw [if_neg h2]
      exact fin (fun q => h2 q.2)
  · rw [if_neg h1, if_pos rfl]
    exact fin (fun q => h1 q.1)
end
