/-! TOKENS. -/
def sgn (T : Int → Int) (z x : Int) : Int := if x < z then T x else -1
abbrev blk_ (v : Int) : Prop := v = 32 ∨ v = 10
abbrev ltr (v : Int) : Prop := 97 ≤ v ∧ v ≤ 122
abbrev dgt (v : Int) : Prop := 48 ≤ v ∧ v ≤ 57
def nbk (T : Int → Int) (y : Int) : Bool := decide (¬ blk_ (T y))
def nlt (T : Int → Int) (y : Int) : Bool := decide (¬ ltr (T y))
def ndg (T : Int → Int) (y : Int) : Bool := decide (¬ dgt (T y))
/-- the first that is no blank; where letters, where digits end -/
def skp (T : Int → Int) (z x : Int) : Int := fnd (nbk T) (z - x).toNat x
def wnd (T : Int → Int) (z x : Int) : Int := fnd (nlt T) (z - x).toNat x
def dnd (T : Int → Int) (z x : Int) : Int := fnd (ndg T) (z - x).toNat x
def nmR (cap : Int) (T : Int → Int) : Nat → Int → Int → Int
  | 0, _, v => v
  | r + 1, x, v => nmR cap T r (x + 1) (min cap (v * 10 + T x - 48))
/-- the number whose digits go from x to y -/
def nmV (cap : Int) (T : Int → Int) (x y : Int) : Int := nmR cap T (y - x).toNat x 0
theorem fnd_z {p : Int → Bool} {z x : Int} (h : z ≤ x) : fnd p (z - x).toNat x = x := by
  have : (z - x).toNat = 0 := by omega
  rw [this]
  rfl
theorem fnd_t {p : Int → Bool} {z x : Int} (h : x < z) (hp : p x = true) : fnd p (z - x).toNat x = x := by
  obtain ⟨r, hr⟩ : ∃ r : Nat, (z - x).toNat = r + 1 := ⟨(z - x).toNat - 1, by omega⟩
  rw [hr, fnd_s, if_pos hp]
theorem fnd_f {p : Int → Bool} {z x : Int} (h : x < z) (hp : ¬ p x = true) : fnd p (z - x).toNat x = fnd p (z - (x + 1)).toNat (x + 1) := by
  obtain ⟨r, hr⟩ : ∃ r : Nat, (z - x).toNat = r + 1 := ⟨(z - x).toNat - 1, by omega⟩
  rw [hr, fnd_s, if_neg hp, show r = (z - (x + 1)).toNat by omega]
theorem fnd_r {p : Int → Bool} {z x : Int} (h : x ≤ z) : (x ≤ fnd p (z - x).toNat x ∧ fnd p (z - x).toNat x ≤ z) ∧ (fnd p (z - x).toNat x < z → p (fnd p (z - x).toNat x) = true) ∧ ∀ y, x ≤ y → y < fnd p (z - x).toNat x → p y = false := by
  have := fnd_ok (p := p) (z - x).toNat x
  refine ⟨by omega, fun q => this.2.1 (by omega), this.2.2⟩
theorem nmR_b {cap : Int} (hc : 0 ≤ cap) {T : Int → Int} : ∀ (r : Nat) (x v : Int), 0 ≤ v → v ≤ cap → (∀ y, x ≤ y → y < x + r → 48 ≤ T y) → 0 ≤ nmR cap T r x v ∧ nmR cap T r x v ≤ cap
  | 0, x, v, h0, h1, _ => ⟨h0, h1⟩
  | r + 1, x, v, h0, h1, hT => by
    have := hT x (by omega) (by omega)
    exact nmR_b hc r (x + 1) _ (by omega) (by omega) (fun y y0 y1 => hT y (by omega) (by omega))
theorem nmR_2 {T : Int → Int} : ∀ (r : Nat) (x v w : Int), 0 ≤ w → w ≤ 10000000 → v = min 1000000 w → (∀ y, x ≤ y → y < x + r → 48 ≤ T y) → nmR 1000000 T r x v = min 1000000 (nmR 10000000 T r x w)
  | 0, x, v, w, h0, h1, e, _ => e
  | r + 1, x, v, w, h0, h1, e, hT => by
    have := hT x (by omega) (by omega)
    exact nmR_2 r (x + 1) _ _ (by omega) (by omega) (by omega) (fun y y0 y1 => hT y (by omega) (by omega))
/-- what stands at s, behind blanks -/
def tkK (T : Int → Int) (z s : Int) : Int := if z ≤ s then 0 else if ltr (T s) then 1 else if dgt (T s) then 2 else if T s = 45 then 3 else if T s = 59 then 4 else 5
def tkE (T : Int → Int) (z s : Int) : Int := if z ≤ s then s else if ltr (T s) then wnd T z s else if dgt (T s) then dnd T z s else s + 1
section
variable {n : Nat}
/-- the tape of the class -/
def TPc (h : Hp) (T : Int → Int) (z p : Int) : Prop := h 27 1 = z ∧ h 27 4 = p ∧ (0 ≤ p ∧ p ≤ z ∧ z ≤ 400) ∧ ∀ i, 0 ≤ i → i < z → h 28 i = T i ∧ 0 ≤ T i ∧ T i < 256
theorem isBlank_c (v : Int) : MX9_isBlank v = some (if blk_ v then 1 else 0) := by
  unfold MX9_isBlank
  by_cases h1 : v = 32
  · rw [if_pos h1, if_pos (Or.inl h1)]
  · rw [if_neg h1]
    by_cases h2 : v = 10
    · rw [if_neg (fun q => q h2), if_pos (Or.inr h2)]
    · rw [if_pos h2, if_neg (fun q => q.elim h1 h2)]
theorem isLetter_c (v : Int) : MX9_isLetter v = some (if ltr v then 1 else 0) := by
  unfold MX9_isLetter
  by_cases h1 : v < 97
  · rw [if_pos h1, if_neg (fun q => by omega)]
  · rw [if_neg h1]
    by_cases h2 : 122 < v
    · rw [if_pos h2, if_neg (fun q => by omega)]
    · rw [if_neg h2, if_pos (by omega)]
theorem isDigit_c (v : Int) : MX9_isDigit v = some (if dgt v then 1 else 0) := by
  unfold MX9_isDigit
  by_cases h1 : v < 48
  · rw [if_pos h1, if_neg (fun q => by omega)]
  · rw [if_neg h1]
    by_cases h2 : 57 < v
    · rw [if_pos h2, if_neg (fun q => by omega)]
    · rw [if_neg h2, if_pos (by omega)]
theorem TPc.st {h h' : Hp} {T : Int → Int} {z p p' : Int} (A : TPc h T z p) (hc : h' 28 = h 28) (e1 : h' 27 1 = h 27 1) (e4 : h' 27 4 = p') (hp : 0 ≤ p' ∧ p' ≤ z) : TPc h' T z p' := ⟨e1.trans A.1, e4, by have := A.2.2.1; omega, fun i i0 i1 => by rw [hc]; exact A.2.2.2 i i0 i1⟩
/-- but for the token, h' is as h -/
def FTk (h h' : Hp) : Prop := (∀ c, c ≠ 27 → h' c = h c) ∧ ∀ i, i < 2 → h' 27 i = h 27 i
theorem FTk.rf {h : Hp} : FTk h h := ⟨fun _ _ => rfl, fun _ _ => rfl⟩
theorem FTk.tr {h g k : Hp} (a : FTk h g) (b : FTk g k) : FTk h k := ⟨fun c hc => (b.1 c hc).trans (a.1 c hc), fun i hi => (b.2 i hi).trans (a.2 i hi)⟩
theorem FTk.put {h g : Hp} (a : FTk h g) {i v : Int} (hi : 2 ≤ i) : FTk h (up g 27 i v) := ⟨fun c hc => (up_row hc).trans (a.1 c hc), fun j hj => (up_i (by omega)).trans (a.2 j hj)⟩
theorem skip_c {T : Int → Int} {z : Int} : ∀ (r f : Nat) (p : Int) (h : Hp), p + r = z → r < f → TPc h T z p → ∃ h', BX9_next_0 n f h = some h' ∧ FTk h h' ∧ TPc h' T z (skp T z p) ∧ (∀ i, i ≠ 4 → h' 27 i = h 27 i)
  | 0, f + 1, p, h, hr, hf, A => by
    have e : skp T z p = p := fnd_z (by omega)
    rw [BX9_next_0, A.1, A.2.1, if_pos (by omega), e]
    exact ⟨h, rfl, FTk.rf, A, fun _ _ => rfl⟩
  | r + 1, f + 1, p, h, hr, hf, A => by
    have b := A.2.2.1
    have t := A.2.2.2 p b.1 (by omega)
    rw [BX9_next_0, A.1, A.2.1, if_neg (by omega), al3220, grd_t (by omega), t.1, isBlank_c, bndp_s, ltt_e, w32_i (x := p + 1) (by omega)]
    by_cases hb : blk_ (T p)
    · have e : skp T z p = skp T z (p + 1) := fnd_f (by omega) (by unfold nbk; rw [decide_eq_true_eq]; exact fun q => q hb)
      rw [if_pos hb, if_neg (by decide), e]
      obtain ⟨h', e', F, A', O⟩ := skip_c r f (p + 1) (up h 27 4 (p + 1)) (by omega) (by omega) (A.st (up_row (by decide)) (up_i (by decide)) up_s (by omega))
      exact ⟨h', e', (FTk.rf.put (by decide)).tr F, A', fun i hi => (O i hi).trans (up_i hi)⟩
    · have e : skp T z p = p := fnd_t (by omega) (by unfold nbk; rw [decide_eq_true_eq]; exact hb)
      rw [if_neg hb, if_pos rfl, e]
      exact ⟨h, rfl, FTk.rf, A, fun _ _ => rfl⟩
theorem word_c {T : Int → Int} {z : Int} : ∀ (r f : Nat) (p : Int) (h : Hp), p + r = z → r < f → TPc h T z p → ∃ h', BX9_takeWord_5 n f h = some h' ∧ FTk h h' ∧ TPc h' T z (wnd T z p) ∧ (∀ i, i ≠ 4 → h' 27 i = h 27 i)
  | 0, f + 1, p, h, hr, hf, A => by
    have e : wnd T z p = p := fnd_z (by omega)
    rw [BX9_takeWord_5, A.1, A.2.1, if_pos (by omega), e]
    exact ⟨h, rfl, FTk.rf, A, fun _ _ => rfl⟩
  | r + 1, f + 1, p, h, hr, hf, A => by
    have b := A.2.2.1
    have t := A.2.2.2 p b.1 (by omega)
    rw [BX9_takeWord_5, A.1, A.2.1, if_neg (by omega), al3220, grd_t (by omega), t.1, isLetter_c, bndp_s, ltt_e, w32_i (x := p + 1) (by omega)]
    by_cases hb : ltr (T p)
    · have e : wnd T z p = wnd T z (p + 1) := fnd_f (by omega) (by unfold nlt; rw [decide_eq_true_eq]; exact fun q => q hb)
      rw [if_pos hb, if_neg (by decide), e]
      obtain ⟨h', e', F, A', O⟩ := word_c r f (p + 1) (up h 27 4 (p + 1)) (by omega) (by omega) (A.st (up_row (by decide)) (up_i (by decide)) up_s (by omega))
      exact ⟨h', e', (FTk.rf.put (by decide)).tr F, A', fun i hi => (O i hi).trans (up_i hi)⟩
    · have e : wnd T z p = p := fnd_t (by omega) (by unfold nlt; rw [decide_eq_true_eq]; exact hb)
      rw [if_neg hb, if_pos rfl, e]
      exact ⟨h, rfl, FTk.rf, A, fun _ _ => rfl⟩
theorem digs_c {T : Int → Int} {z : Int} : ∀ (r f : Nat) (p v : Int) (h : Hp), p + r = z → r < f → TPc h T z p → h 27 5 = v → 0 ≤ v → v ≤ 1000000 → ∃ h', BX9_takeDigits_10 n f h = some h' ∧ FTk h h' ∧ TPc h' T z (dnd T z p) ∧ (∀ i, i ≠ 4 → i ≠ 5 → h' 27 i = h 27 i) ∧ h' 27 5 = nmR 1000000 T (dnd T z p - p).toNat p v
  | 0, f + 1, p, v, h, hr, hf, A, ev, v0, v1 => by
    have e : dnd T z p = p := fnd_z (by omega)
    rw [BX9_takeDigits_10, A.1, A.2.1, if_pos (by omega), e, Int.sub_self]
    exact ⟨h, rfl, FTk.rf, A, fun _ _ _ => rfl, ev⟩
  | r + 1, f + 1, p, v, h, hr, hf, A, ev, v0, v1 => by
    have b := A.2.2.1
    have t := A.2.2.2 p b.1 (by omega)
    rw [BX9_takeDigits_10, A.1, A.2.1, if_neg (by omega), al3220, grd_t (by omega), t.1, isDigit_c, bndp_s]
    by_cases hb : dgt (T p)
    · have e : dnd T z p = dnd T z (p + 1) := fnd_f (by omega) (by unfold ndg; rw [decide_eq_true_eq]; exact fun q => q hb)
      have q := fnd_r (p := ndg T) (z := z) (x := p + 1) (by omega)
      have eq' : fnd (ndg T) (z - (p + 1)).toNat (p + 1) = dnd T z (p + 1) := rfl
      rw [eq'] at q
      rw [if_pos hb, if_neg (by decide), grd_t (by omega), ltt_e, ev, w32_i (x := v * 10) (by omega), w32_i (x := v * 10 + T p) (by omega), w32_i (x := v * 10 + T p - 48) (by omega), ltt_e, up_i (by decide), A.2.1, w32_i (x := p + 1) (by omega), e]
      obtain ⟨h', e', F, A', O, ev'⟩ := digs_c r f (p + 1) (min 1000000 (v * 10 + T p - 48)) (up (up h 27 5 (min 1000000 (v * 10 + T p - 48))) 27 4 (p + 1)) (by omega) (by omega) (A.st (by rw [up_row (by decide), up_row (by decide)]) (by rw [up_i (by decide), up_i (by decide)]) up_s (by omega)) (by rw [up_i (by decide), up_s]) (by omega) (by omega)
      refine ⟨h', e', ((FTk.rf.put (by decide)).put (by decide)).tr F, A', fun i hi hi5 => (O i hi hi5).trans ((up_i hi).trans (up_i hi5)), ?_⟩
      rw [ev', show (dnd T z (p + 1) - p).toNat = (dnd T z (p + 1) - (p + 1)).toNat + 1 by omega]
      rfl
    · have e : dnd T z p = p := fnd_t (by omega) (by unfold ndg; rw [decide_eq_true_eq]; exact hb)
      rw [if_neg hb, if_pos rfl, e, Int.sub_self]
      exact ⟨h, rfl, FTk.rf, A, fun _ _ _ => rfl, ev⟩
/-- the next token of the class -/
theorem next_c (hn : 1000 ≤ n) {T : Int → Int} {z p : Int} {h : Hp} (A : TPc h T z p) : ∃ h', MX9_next n h = some h' ∧ FTk h h' ∧ h' 27 3 = skp T z p ∧ h' 27 2 = tkK T z (skp T z p) ∧ TPc h' T z (tkE T z (skp T z p)) ∧ (tkK T z (skp T z p) = 2 → h' 27 5 = nmV 1000000 T (skp T z p) (dnd T z (skp T z p))) := by
  have b := A.2.2.1
  obtain ⟨h1, e1, F1, A1, O1⟩ := skip_c (n := n) (z - p).toNat n p h (by omega) (by omega) A
  have q := fnd_r (p := nbk T) (z := z) (x := p) (by omega)
  rw [show fnd (nbk T) (z - p).toNat p = skp T z p from rfl] at q
  unfold MX9_next LX9_next_0
  rw [e1, bndx_s]
  unfold JX9_next_39
  generalize skp T z p = s at *
  have A2 : TPc (up h1 27 3 s) T z s := A1.st (up_row (by decide)) (up_i (by decide)) ((up_i (by decide)).trans A1.2.1) (by omega)
  have F2 : FTk h (up h1 27 3 s) := F1.put (by decide)
  rw [A1.2.1, ltt_e, A2.1, A2.2.1]
  by_cases hz : s < z
  · have t := A2.2.2.2 s (by omega) hz
    rw [if_pos hz, al3220, grd_t (by omega), t.1, isLetter_c, bndp_s]
    by_cases hl : ltr (T s)
    · rw [if_pos hl, if_neg (by decide)]
      unfold MX9_takeWord LX9_takeWord_5
      rw [ltt_e]
      have A3 : TPc (up (up h1 27 3 s) 27 2 1) T z s := A2.st (up_row (by decide)) (up_i (by decide)) ((up_i (by decide)).trans A2.2.1) (by omega)
      obtain ⟨h2, e2, F3, A4, O3⟩ := word_c (n := n) (z - s).toNat n s _ (by omega) (by omega) A3
      rw [e2, bndh_s]
      have ek : tkK T z s = 1 := by unfold tkK; rw [if_neg (by omega), if_pos hl]
      have ee : tkE T z s = wnd T z s := by unfold tkE; rw [if_neg (by omega), if_pos hl]
      refine ⟨h2, rfl, (F2.put (by decide)).tr F3, ?_, ?_, ?_, fun q => by rw [ek] at q; omega⟩
      · rw [O3 3 (by decide), up_i (by decide), up_s]
      · rw [O3 2 (by decide), up_s, ek]
      · rw [ee]; exact A4
    · rw [if_neg hl, if_pos rfl, grd_t (by omega), isDigit_c, bndp_s]
      by_cases hd : dgt (T s)
      · rw [if_pos hd, if_neg (by decide)]
        unfold MX9_takeDigits LX9_takeDigits_10
        rw [ltt_e, ltt_e]
        have A3 : TPc (up (up (up h1 27 3 s) 27 2 2) 27 5 0) T z s := A2.st (by rw [up_row (by decide), up_row (by decide)]) (by rw [up_i (by decide), up_i (by decide)]) (by rw [up_i (by decide), up_i (by decide)]; exact A2.2.1) (by omega)
        obtain ⟨h2, e2, F3, A4, O3, v3⟩ := digs_c (n := n) (z - s).toNat n s 0 _ (by omega) (by omega) A3 up_s (by decide) (by decide)
        rw [e2, bndh_s]
        have ek : tkK T z s = 2 := by unfold tkK; rw [if_neg (by omega), if_neg hl, if_pos hd]
        have ee : tkE T z s = dnd T z s := by unfold tkE; rw [if_neg (by omega), if_neg hl, if_pos hd]
        refine ⟨h2, rfl, ((F2.put (by decide)).put (by decide)).tr F3, ?_, ?_, ?_, fun _ => v3⟩
        · rw [O3 3 (by decide) (by decide), up_i (by decide), up_i (by decide), up_s]
        · rw [O3 2 (by decide) (by decide), up_i (by decide), up_s, ek]
        · rw [ee]; exact A4
      · have J : ∀ k : Int, JX9_next_148 n k (up h1 27 3 s) = some (up (up (up h1 27 3 s) 27 2 k) 27 4 (s + 1)) := fun k => by
          unfold JX9_next_148
          rw [ltt_e, ltt_e, up_i (by decide), A2.2.1, w32_i (x := s + 1) (by omega)]
        have ee : tkE T z s = s + 1 := by unfold tkE; rw [if_neg (by omega), if_neg hl, if_neg hd]
        have fin : ∀ k : Int, tkK T z s = k → k ≠ 2 → ∃ h', some (up (up (up h1 27 3 s) 27 2 k) 27 4 (s + 1)) = some h' ∧ FTk h h' ∧ h' 27 3 = s ∧ h' 27 2 = tkK T z s ∧ TPc h' T z (tkE T z s) ∧ (tkK T z s = 2 → h' 27 5 = nmV 1000000 T s (dnd T z s)) := fun k ek k2 => by
          refine ⟨_, rfl, (F2.put (by decide)).put (by decide), ?_, ?_, ?_, fun q => absurd (ek.symm.trans q) k2⟩
          · rw [up_i (by decide), up_i (by decide), up_s]
          · rw [up_i (by decide), up_s, ek]
          · rw [ee]
            exact A2.st (by rw [up_row (by decide), up_row (by decide)]) (by rw [up_i (by decide), up_i (by decide)]) up_s (by omega)
        rw [if_neg hd, if_pos rfl, grd_t (by omega), grd_t (by omega), J, J, J]
        by_cases h45 : T s = 45
        · rw [if_neg (fun q => q h45)]
          exact fin 3 (by unfold tkK; rw [if_neg (by omega), if_neg hl, if_neg hd, if_pos h45]) (by decide)
        · rw [if_pos h45]
          by_cases h59 : T s = 59
          · rw [if_neg (fun q => q h59)]
            exact fin 4 (by unfold tkK; rw [if_neg (by omega), if_neg hl, if_neg hd, if_neg h45, if_pos h59]) (by decide)
          · rw [if_pos h59]
            exact fin 5 (by unfold tkK; rw [if_neg (by omega), if_neg hl, if_neg hd, if_neg h45, if_neg h59]) (by decide)
  · rw [if_neg hz, ltt_e]
    have ek : tkK T z s = 0 := by unfold tkK; rw [if_pos (by omega)]
    have ee : tkE T z s = s := by unfold tkE; rw [if_pos (by omega)]
    refine ⟨_, rfl, F2.put (by decide), ?_, ?_, ?_, fun q => by rw [ek] at q; omega⟩
    · rw [up_i (by decide), up_s]
    · rw [up_s, ek]
    · rw [ee]
      exact A2.st (up_row (by decide)) (up_i (by decide)) ((up_i (by decide)).trans A2.2.1) (by omega)
end
