/-! TOKENS: the model. -/
def rawB (v : Int) : Int := if v < 128 then v else v - 256
theorem ia255_all : ((List.range 256).all fun k => iand (rawB (Int.ofNat k)) 255 == Int.ofNat k) = true := by decide +kernel
theorem ia255 {v : Int} (h0 : 0 ≤ v) (h1 : v < 256) : iand (rawB v) 255 = v := by
  have h := List.all_eq_true.mp ia255_all v.toNat (List.mem_range.mpr (by omega))
  have e : Int.ofNat v.toNat = v := by
    show ((v.toNat : Nat) : Int) = v
    omega
  rw [e] at h
  exact of_decide_eq_true h
section
variable {n : Nat}
/-- the tape of the model -/
def TPm (h : Hp) (T : Int → Int) (z p : Int) : Prop := h 113 20 = z ∧ h 113 21 = p ∧ (0 ≤ p ∧ p ≤ z ∧ z ≤ 400) ∧ ∀ i, 0 ≤ i → i < z → h 127 i = rawB (T i) ∧ 0 ≤ T i ∧ T i < 256
theorem TPm.st {h h' : Hp} {T : Int → Int} {z p p' : Int} (A : TPm h T z p) (hc : h' 127 = h 127) (e1 : h' 113 20 = h 113 20) (e4 : h' 113 21 = p') (hp : 0 ≤ p' ∧ p' ≤ z) : TPm h' T z p' := ⟨e1.trans A.1, e4, by have := A.2.2.1; omega, fun i i0 i1 => by rw [hc]; exact A.2.2.2 i i0 i1⟩
/-- but for the place on the tape, h' is as h -/
def FPl (h h' : Hp) : Prop := (∀ c, c ≠ 113 → h' c = h c) ∧ ∀ i, i ≠ 21 → h' 113 i = h 113 i
theorem FPl.rf {h : Hp} : FPl h h := ⟨fun _ _ => rfl, fun _ _ => rfl⟩
theorem FPl.tr {h g k : Hp} (a : FPl h g) (b : FPl g k) : FPl h k := ⟨fun c hc => (b.1 c hc).trans (a.1 c hc), fun i hi => (b.2 i hi).trans (a.2 i hi)⟩
theorem FPl.put {h g : Hp} (a : FPl h g) {v : Int} : FPl h (up g 113 21 v) := ⟨fun c hc => (up_row hc).trans (a.1 c hc), fun j hj => (up_i hj).trans (a.2 j hj)⟩
theorem TPm.go {h : Hp} {T : Int → Int} {z p p' : Int} (A : TPm h T z p) (hp : 0 ≤ p' ∧ p' ≤ z) : TPm (up h 113 21 p') T z p' := A.st (up_row (by decide)) (up_i (by decide)) up_s hp
theorem sign_m {h : Hp} {T : Int → Int} {z p : Int} (A : TPm h T z p) : MX12_sign h = some (sgn T z p) := by
  have b := A.2.2.1
  unfold MX12_sign sgn
  rw [A.1, A.2.1]
  by_cases hz : z ≤ p
  · rw [if_pos hz, if_neg (by omega)]
  · have t := A.2.2.2 p b.1 (by omega)
    rw [if_neg hz, if_pos (by omega), al3223, grd_t (by omega), t.1, ia255 t.2.1 t.2.2]
theorem skip_m {T : Int → Int} {z : Int} : ∀ (r f : Nat) (p : Int) (h : Hp), p + r = z → r < f → TPm h T z p → ∃ h', BX12_next_0 n f h = some (sgn T z (skp T z p), h') ∧ FPl h h' ∧ TPm h' T z (skp T z p)
  | 0, f + 1, p, h, hr, hf, A => by
    have e : skp T z p = p := fnd_z (by omega)
    have es : sgn T z p = -1 := if_neg (by omega)
    rw [BX12_next_0, sign_m A, bndp_s, es, if_neg (by decide), bndp_s, if_pos (by decide), bndp_s, e, es]
    exact ⟨h, rfl, FPl.rf, A⟩
  | r + 1, f + 1, p, h, hr, hf, A => by
    have b := A.2.2.1
    have es : sgn T z p = T p := if_pos (by omega)
    have nx := skip_m (T := T) (z := z) r f (p + 1) (up h 113 21 (p + 1)) (by omega) (by omega) (A.go (by omega))
    rw [BX12_next_0, sign_m A, bndp_s, es, bndp_s, bndp_s]
    unfold JX12_next_18
    rw [ltt_e, A.2.1, w32_i (x := p + 1) (by omega)]
    by_cases hb : blk_ (T p)
    · have e : skp T z p = skp T z (p + 1) := fnd_f (by omega) (by unfold nbk; rw [decide_eq_true_eq]; exact fun q => q hb)
      obtain ⟨h', e', F, A'⟩ := nx
      rw [e]
      refine ⟨h', ?_, (FPl.rf.put).tr F, A'⟩
      by_cases h32 : T p = 32
      · rw [if_pos h32]
        exact e'
      · rw [if_neg h32, if_neg (fun q => q (hb.elim (fun t => absurd t h32) id))]
        exact e'
    · have e : skp T z p = p := fnd_t (by omega) (by unfold nbk; rw [decide_eq_true_eq]; exact hb)
      rw [if_neg (fun q => hb (Or.inl q)), if_pos (fun q => hb (Or.inr q)), e, es]
      exact ⟨h, rfl, FPl.rf, A⟩
theorem next_m (hn : 1000 ≤ n) {h : Hp} {T : Int → Int} {z p : Int} (A : TPm h T z p) : ∃ h', MX12_next n h = some (sgn T z (skp T z p), h') ∧ FPl h h' ∧ TPm h' T z (skp T z p) := by
  have b := A.2.2.1
  exact skip_m (n := n) (z - p).toNat n p h (by omega) (by omega) A
theorem wlen_l {h : Hp} {T : Int → Int} {z p : Int} (A : TPm h T z p) : ∀ (r f : Nat) (x : Int), p + x + r = z → r < f → 0 ≤ x → BX12_wordLength_2 n f x h = some (wnd T z (p + x) - p)
  | 0, f + 1, x, hr, hf, x0 => by
    have b := A.2.2.1
    have e : wnd T z (p + x) = p + x := fnd_z (by omega)
    rw [BX12_wordLength_2, A.1, A.2.1, w32_i (x := p + x) (by omega), if_pos (by omega), e]
    congr 1
    omega
  | r + 1, f + 1, x, hr, hf, x0 => by
    have b := A.2.2.1
    have t := A.2.2.2 (p + x) (by omega) (by omega)
    have nx := wlen_l A r f (x + 1) (by omega) (by omega) (by omega)
    rw [BX12_wordLength_2, A.1, A.2.1, w32_i (x := p + x) (by omega), if_neg (by omega), al3223, grd_t (by omega), t.1, in_m, bndp_s, ltt_e, w32_i (x := x + 1) (by omega), nx]
    have hw : (97 ≤ rawB (T (p + x)) ∧ rawB (T (p + x)) ≤ 122) ↔ ltr (T (p + x)) := by
      unfold rawB ltr
      split <;> omega
    by_cases hb : ltr (T (p + x))
    · have e : wnd T z (p + x) = wnd T z (p + x + 1) := fnd_f (by omega) (by unfold nlt; rw [decide_eq_true_eq]; exact fun q => q hb)
      rw [if_pos (hw.mpr hb), if_neg (by decide), e, show p + (x + 1) = p + x + 1 by omega]
    · have e : wnd T z (p + x) = p + x := fnd_t (by omega) (by unfold nlt; rw [decide_eq_true_eq]; exact hb)
      rw [if_neg (fun q => hb (hw.mp q)), if_pos rfl, e]
      congr 1
      omega
theorem wlen_m (hn : 1000 ≤ n) {h : Hp} {T : Int → Int} {z p : Int} (A : TPm h T z p) : MX12_wordLength n h = some (wnd T z p - p) := by
  have b := A.2.2.1
  unfold MX12_wordLength LX12_wordLength_2
  rw [ltt_e]
  have := wlen_l (n := n) A (z - p).toNat n 0 (by omega) (by omega) (by decide)
  rw [Int.add_zero] at this
  exact this
/-! which of the eight words -/
def mwR (T : Int → Int) (p k : Int) : Nat → Int → Bool
  | 0, _ => true
  | r + 1, i => if T (p + i) = sch k i then mwR T p k r (i + 1) else false
theorem mwR_s {T : Int → Int} {p k i : Int} {r : Nat} : mwR T p k (r + 1) i = if T (p + i) = sch k i then mwR T p k r (i + 1) else false := rfl
def kwb (T : Int → Int) (p l k : Int) : Bool := decide (slen k = l) && mwR T p k l.toNat 0
def kwS (T : Int → Int) (p l : Int) : Int := if fnd (kwb T p l) 8 0 = 8 then -1 else fnd (kwb T p l) 8 0
theorem sl_all : ((List.range 8).all fun k => decide (2 ≤ slen (Int.ofNat k) ∧ slen (Int.ofNat k) ≤ 9) && (List.range (slen (Int.ofNat k)).toNat).all fun i => decide (97 ≤ sch (Int.ofNat k) (Int.ofNat i) ∧ sch (Int.ofNat k) (Int.ofNat i) ≤ 122)) = true := by decide +kernel
theorem sl_b {k : Int} (k0 : 0 ≤ k) (k1 : k < 8) : (2 ≤ slen k ∧ slen k ≤ 9) ∧ ∀ i, 0 ≤ i → i < slen k → 97 ≤ sch k i ∧ sch k i ≤ 122 := by
  have h := List.all_eq_true.mp sl_all k.toNat (List.mem_range.mpr (by omega))
  have e : Int.ofNat k.toNat = k := by
    show ((k.toNat : Nat) : Int) = k
    omega
  rw [e, Bool.and_eq_true] at h
  refine ⟨of_decide_eq_true h.1, fun i i0 i1 => ?_⟩
  have h2 := List.all_eq_true.mp h.2 i.toNat (List.mem_range.mpr (by omega))
  have e2 : Int.ofNat i.toNat = i := by
    show ((i.toNat : Nat) : Int) = i
    omega
  rw [e2] at h2
  exact of_decide_eq_true h2
theorem wordOf_m {k : Int} (k0 : 0 ≤ k) (k1 : k < 8) : MX12_wordOf k = some k := by
  unfold MX12_wordOf
  rcases (by omega : k = 0 ∨ k = 1 ∨ k = 2 ∨ k = 3 ∨ k = 4 ∨ k = 5 ∨ k = 6 ∨ k = 7) with e | e | e | e | e | e | e | e <;> subst e <;> rfl
theorem word_in {h : Hp} {T : Int → Int} {z p l k : Int} (A : TPm h T z p) (hl : p + l ≤ z) (k0 : 0 ≤ k) (k1 : k < 8) (ek : slen k = l) : ∀ (r f : Nat) (i : Int), i + r = l → r < f → 0 ≤ i → BX12_wordHere_33 n (f + 1) l k 1 i h = some (l, k, if mwR T p k r i = true then 1 else 0)
  | 0, f, i, hr, hf, i0 => by
    rw [BX12_wordHere_33, if_pos (by omega)]
    rfl
  | r + 1, f + 1, i, hr, hf, i0 => by
    have b := A.2.2.1
    have t := A.2.2.2 (p + i) (by omega) (by omega)
    have s := (sl_b k0 k1).2 i i0 (by omega)
    have nx := word_in A hl k0 k1 ek r f (i + 1) (by omega) (by omega) (by omega)
    rw [BX12_wordHere_33, if_neg (by omega), if_neg (by decide), A.2.1, w32_i (x := p + i) (by omega), al3223, grd_t (by omega), wordOf_m k0 k1, bndp_s, ek, grd_t (by omega), t.1]
    unfold JX12_wordHere_72
    rw [ltt_e, ltt_e, ltt_e, ltt_e, w32_i (x := i + 1) (by omega), nx]
    have hw : rawB (T (p + i)) = sch k i ↔ T (p + i) = sch k i := by
      unfold rawB
      split <;> omega
    rw [mwR_s]
    by_cases he : T (p + i) = sch k i
    · rw [if_neg (fun q => q (hw.mpr he)), if_pos he]
    · rw [if_pos (fun q => he (hw.mp q)), if_neg he, if_neg (by decide)]
      cases f with
      | zero => omega
      | succ f =>
        rw [BX12_wordHere_33]
        by_cases hi : l ≤ i + 1
        · rw [if_pos hi]
        · rw [if_neg hi, if_pos rfl]
theorem wordHere_l {h : Hp} {T : Int → Int} {z p l : Int} (hn : 100 ≤ n) (A : TPm h T z p) (h0 : 0 ≤ l) (hl : p + l ≤ z) : ∀ (r f : Nat) (k : Int), k + r = 8 → r < f → 0 ≤ k → BX12_wordHere_7 n f l k h = some (if fnd (kwb T p l) r k = 8 then -1 else fnd (kwb T p l) r k)
  | 0, f + 1, k, hr, hf, k0 => by
    have e : fnd (kwb T p l) 0 k = 8 := by
      show k = 8
      omega
    rw [BX12_wordHere_7, if_pos (by omega), e, if_pos rfl]
  | r + 1, f + 1, k, hr, hf, k0 => by
    have b := A.2.2.1
    have s := (sl_b k0 (by omega)).1
    have nx := wordHere_l hn A h0 hl r f (k + 1) (by omega) (by omega) (by omega)
    rw [BX12_wordHere_7, if_neg (by omega), wordOf_m k0 (by omega), bndp_s]
    unfold JX12_wordHere_29 LX12_wordHere_33
    rw [ltt_e, ltt_e, ltt_e, ltt_e, fnd_s]
    have J0 : JX12_wordHere_79 n (BX12_wordHere_7 n f) l k 0 h = some (if fnd (kwb T p l) r (k + 1) = 8 then -1 else fnd (kwb T p l) r (k + 1)) := by
      unfold JX12_wordHere_79
      rw [if_pos rfl, ltt_e, w32_i (x := k + 1) (by omega), nx]
    by_cases he : slen k = l
    · obtain ⟨n', en⟩ : ∃ n', n = n' + 1 := ⟨n - 1, by omega⟩
      have w : BX12_wordHere_33 n n l k 1 0 h = some (l, k, if mwR T p k l.toNat 0 = true then 1 else 0) := by
        have := word_in (n := n) A hl k0 (by omega) he l.toNat n' 0 (by omega) (by omega) (by decide)
        rw [← en] at this
        exact this
      rw [if_neg (fun q => q he), w, bndx_s]
      show JX12_wordHere_79 n (BX12_wordHere_7 n f) l k (if mwR T p k l.toNat 0 = true then 1 else 0) h = _
      have ekw : kwb T p l k = mwR T p k l.toNat 0 := by
        unfold kwb
        rw [decide_eq_true he, Bool.true_and]
      by_cases hm : mwR T p k l.toNat 0 = true
      · rw [if_pos hm, ekw, if_pos hm, if_neg (show ¬ k = 8 by omega)]
        unfold JX12_wordHere_79
        rw [if_neg (by decide)]
      · rw [if_neg hm, ekw, if_neg hm, J0]
    · obtain ⟨n', en⟩ : ∃ n', n = n' + 1 := ⟨n - 1, by omega⟩
      have w : BX12_wordHere_33 n n l k 0 0 h = some (l, k, 0) := by
        have : BX12_wordHere_33 n (n' + 1) l k 0 0 h = some (l, k, 0) := by
          rw [BX12_wordHere_33]
          by_cases h1 : l ≤ 0
          · rw [if_pos h1]
          · rw [if_neg h1, if_pos rfl]
        rw [← en] at this
        exact this
      have ekw : ¬ kwb T p l k = true := by
        unfold kwb
        rw [decide_eq_false he, Bool.false_and]
        decide
      rw [if_pos he, w, bndx_s, if_neg ekw]
      exact J0
theorem wordHere_m (hn : 1000 ≤ n) {h : Hp} {T : Int → Int} {z p : Int} (A : TPm h T z p) : MX12_wordHere n h = some (kwS T p (wnd T z p - p)) := by
  have b := A.2.2.1
  have q := fnd_r (p := nlt T) (z := z) (x := p) (by omega)
  rw [show fnd (nlt T) (z - p).toNat p = wnd T z p from rfl] at q
  unfold MX12_wordHere LX12_wordHere_7
  rw [wlen_m hn A, bndp_s, ltt_e, ltt_e]
  exact wordHere_l (by omega) A (by omega) (by omega) 8 n 0 (by decide) (by omega) (by decide)
/-! the class's words -/
theorem reads_l {h : Hp} {T : Int → Int} {z e s l k : Int} (A : TPc h T z e) (h3 : h 27 3 = s) (s0 : 0 ≤ s) (hl : s + l ≤ z) (k0 : 0 ≤ k) (k1 : k < 8) (ek : slen k = l) : ∀ (r f : Nat) (i : Int), i + r = l → r < f → 0 ≤ i → BX9_reads_31 n f k i h = some (if mwR T s k r i = true then 1 else 0)
  | 0, f + 1, i, hr, hf, i0 => by
    rw [BX9_reads_31, if_pos (by omega)]
    rfl
  | r + 1, f + 1, i, hr, hf, i0 => by
    have b := A.2.2.1
    have t := A.2.2.2 (s + i) (by omega) (by omega)
    have nx := reads_l A h3 s0 hl k0 k1 ek r f (i + 1) (by omega) (by omega) (by omega)
    rw [BX9_reads_31, if_neg (by omega), h3, w32_i (x := s + i) (by omega), al3220, grd_t (by omega), grd_t (by omega), t.1, ltt_e, w32_i (x := i + 1) (by omega), nx]
    rw [mwR_s]
    by_cases he : T (s + i) = sch k i
    · rw [if_pos he, if_pos he]
    · rw [if_neg he, if_neg he, if_neg (by decide)]
theorem reads_c (hn : 100 ≤ n) {h : Hp} {T : Int → Int} {z e s : Int} (A : TPc h T z e) (h3 : h 27 3 = s) (s0 : 0 ≤ s) (hs : s ≤ e) {k : Int} (k0 : 0 ≤ k) (k1 : k < 8) : MX9_reads n k h = some (if kwb T s (e - s) k = true then 1 else 0) := by
  have b := A.2.2.1
  have sl := (sl_b k0 k1).1
  unfold MX9_reads
  rw [A.2.1, h3, A.1, w32_i (x := e - s) (by omega)]
  by_cases he : slen k = e - s
  · have ekw : kwb T s (e - s) k = mwR T s k (e - s).toNat 0 := by
      unfold kwb
      rw [decide_eq_true he, Bool.true_and]
    unfold LX9_reads_31
    rw [if_neg (fun q => q he.symm), if_pos b.2.1, ltt_e, ekw]
    exact reads_l A h3 s0 (by omega) k0 k1 he (e - s).toNat n 0 (by omega) (by omega) (by decide)
  · have ekw : ¬ kwb T s (e - s) k = true := by
      unfold kwb
      rw [decide_eq_false he, Bool.false_and]
      decide
    rw [if_pos (fun q => he q.symm), if_neg ekw]
theorem fnd8 (p : Int → Bool) : (if fnd p 8 0 = 8 then (-1 : Int) else fnd p 8 0) = if p 0 = true then 0 else if p 1 = true then 1 else if p 2 = true then 2 else if p 3 = true then 3 else if p 4 = true then 4 else if p 5 = true then 5 else if p 6 = true then 6 else if p 7 = true then 7 else -1 := by
  have e : fnd p 8 0 = if p 0 = true then 0 else if p 1 = true then 1 else if p 2 = true then 2 else if p 3 = true then 3 else if p 4 = true then 4 else if p 5 = true then 5 else if p 6 = true then 6 else if p 7 = true then 7 else 8 := rfl
  rw [e]
  by_cases h0 : p 0 = true
  · rw [if_pos h0, if_pos h0]; rfl
  · rw [if_neg h0, if_neg h0]
    by_cases h1 : p 1 = true
    · rw [if_pos h1, if_pos h1]; rfl
    · rw [if_neg h1, if_neg h1]
      by_cases h2 : p 2 = true
      · rw [if_pos h2, if_pos h2]; rfl
      · rw [if_neg h2, if_neg h2]
        by_cases h3 : p 3 = true
        · rw [if_pos h3, if_pos h3]; rfl
        · rw [if_neg h3, if_neg h3]
          by_cases h4 : p 4 = true
          · rw [if_pos h4, if_pos h4]; rfl
          · rw [if_neg h4, if_neg h4]
            by_cases h5 : p 5 = true
            · rw [if_pos h5, if_pos h5]; rfl
            · rw [if_neg h5, if_neg h5]
              by_cases h6 : p 6 = true
              · rw [if_pos h6, if_pos h6]; rfl
              · rw [if_neg h6, if_neg h6]
                by_cases h7 : p 7 = true
                · rw [if_pos h7, if_pos h7]; rfl
                · rw [if_neg h7, if_neg h7]; rfl
theorem keyword_c (hn : 100 ≤ n) {h : Hp} {T : Int → Int} {z e s : Int} (A : TPc h T z e) (h3 : h 27 3 = s) (s0 : 0 ≤ s) (hs : s ≤ e) : MX6_keyword n h = some (if h 27 2 = 1 then kwS T s (e - s) else -1) := by
  have R := fun k k0 k1 => reads_c hn A h3 s0 hs (k := k) k0 k1
  unfold MX6_keyword
  by_cases hk : h 27 2 = 1
  · rw [if_pos hk, if_pos hk]
    unfold kwS
    rw [fnd8, R 0 (by decide) (by decide), R 1 (by decide) (by decide), R 2 (by decide) (by decide), R 3 (by decide) (by decide), R 4 (by decide) (by decide), R 5 (by decide) (by decide), R 6 (by decide) (by decide), R 7 (by decide) (by decide)]
    simp only [bndp_s]
    generalize kwb T s (e - s) = p
    by_cases h0 : p 0 = true
    · rw [if_pos h0, if_pos h0, if_neg (by decide)]
    · rw [if_neg h0, if_neg h0, if_pos rfl]
      by_cases h1 : p 1 = true
      · rw [if_pos h1, if_pos h1, if_neg (by decide)]
      · rw [if_neg h1, if_neg h1, if_pos rfl]
        by_cases h2 : p 2 = true
        · rw [if_pos h2, if_pos h2, if_neg (by decide)]
        · rw [if_neg h2, if_neg h2, if_pos rfl]
          by_cases h3 : p 3 = true
          · rw [if_pos h3, if_pos h3, if_neg (by decide)]
          · rw [if_neg h3, if_neg h3, if_pos rfl]
            by_cases h4 : p 4 = true
            · rw [if_pos h4, if_pos h4, if_neg (by decide)]
            · rw [if_neg h4, if_neg h4, if_pos rfl]
              by_cases h5 : p 5 = true
              · rw [if_pos h5, if_pos h5, if_neg (by decide)]
              · rw [if_neg h5, if_neg h5, if_pos rfl]
                by_cases h6 : p 6 = true
                · rw [if_pos h6, if_pos h6, if_neg (by decide)]
                · rw [if_neg h6, if_neg h6, if_pos rfl]
                  by_cases h7 : p 7 = true
                  · rw [if_pos h7, if_pos h7, if_neg (by decide)]
                  · rw [if_neg h7, if_neg h7, if_pos rfl]
  · rw [if_neg hk, if_neg hk]
end
