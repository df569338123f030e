/-! A SCRIPT PUT IN. -/
/-- the heap h with the script of g -/
def psc (g h : Hp) : Hp := fun b i => if b = -2 then g (-2) i else if b = -1 ∧ i = 1 then g (-1) 1 else h b i
theorem psc_n {g h : Hp} {c : Int} (hc : 0 ≤ c) : psc g h c = h c := by
  funext i
  unfold psc
  rw [if_neg (show ¬ c = -2 by omega), if_neg (show ¬ (c = -1 ∧ i = 1) by omega)]
theorem psc_c {g h : Hp} : cnt (psc g h) = cnt h := by
  show psc g h (-1) 0 = h (-1) 0
  unfold psc
  rw [if_neg (show ¬ ((-1 : Int) = -2) by decide), if_neg (show ¬ ((-1 : Int) = -1 ∧ (0 : Int) = 1) by decide)]
theorem psc_s {g h : Hp} : psc g h (-2) = g (-2) := by
  funext i
  unfold psc
  rw [if_pos rfl]
theorem psc_l {g h : Hp} : psc g h (-1) 1 = g (-1) 1 := by
  unfold psc
  rw [if_neg (show ¬ ((-1 : Int) = -2) by decide), if_pos ⟨rfl, rfl⟩]
theorem psc_psc {g h k : Hp} : psc (psc g h) k = psc g k := by
  funext b i
  show (if b = -2 then psc g h (-2) i else if b = -1 ∧ i = 1 then psc g h (-1) 1 else k b i) = (if b = -2 then g (-2) i else if b = -1 ∧ i = 1 then g (-1) 1 else k b i)
  rw [psc_s, psc_l]
theorem psc_o {g h : Hp} : nOf (psc g h) = nOf h := by
  unfold nOf
  rw [psc_c]
theorem psc_alc {g h : Hp} {t : Nat} (h0 : 0 ≤ cnt h) : alc (psc g h) t = psc g (alc h t) := by
  funext b i
  show (if b = cnt (psc g h) then dflt t i else if b = -1 ∧ i = 0 then cnt (psc g h) + 1 else psc g h b i) = (if b = -2 then g (-2) i else if b = -1 ∧ i = 1 then g (-1) 1 else if b = cnt h then dflt t i else if b = -1 ∧ i = 0 then cnt h + 1 else h b i)
  rw [psc_c]
  by_cases h2 : b = -2
  · rw [if_neg (show ¬ b = cnt h by omega), if_neg (show ¬ (b = -1 ∧ i = 0) by omega), if_pos h2]
    subst h2
    rw [psc_s]
  · rw [if_neg h2]
    by_cases h3 : b = -1 ∧ i = 1
    · rw [if_neg (show ¬ b = cnt h by omega), if_neg (show ¬ (b = -1 ∧ i = 0) by omega), if_pos h3]
      obtain ⟨h4, h5⟩ := h3
      subst h4
      subst h5
      exact psc_l
    · have e : psc g h b i = h b i := by
        unfold psc
        rw [if_neg h2, if_neg h3]
      rw [e, if_neg h3]
theorem nn0 (k : Nat) : (0 : Int) ≤ Int.ofNat k := Int.natCast_nonneg k
theorem psc_wsl {ca : Nat → ClassId} {ad : Nat → Nat} {n : Nat} {g h : Hp} : wsl ca ad n (psc g h) = wsl ca ad n h := by
  unfold wsl
  apply List.map_congr_left
  intro k _
  rw [psc_n (nn0 k)]
theorem psc_WT {b : Bool} {n : Nat} {g h : Hp} : WT b n (psc g h) ↔ WT b n h := by
  constructor
  · intro w k hk i hi
    have := w k hk i hi
    rw [psc_n (nn0 k)] at this
    exact this
  · intro w k hk i hi
    rw [psc_n (nn0 k)]
    exact w k hk i hi
theorem psc_Wl {D : va_G} {ca : Nat → ClassId} {A : Nat → Prop} {b : Bool} {ad : Nat → Nat} {g h : Hp} {H : Heap} : Wl D ca A b ad (psc g h) H ↔ Wl D ca A b ad h H := by
  unfold Wl
  rw [psc_o, psc_wsl, psc_c, psc_WT]
theorem psc_Bp {D : va_G} {ca : Nat → ClassId} {A : Nat → Prop} {b : Bool} {ad : Nat → Nat} {rt : Nat} {v : Int} {g h h' : Hp} {t : State} (B : Bp D ca A b ad rt v h h' t) : Bp D ca A b ad rt v (psc g h) (psc g h') t := by
  obtain ⟨ad', e1, e2, e3, e4, e5⟩ := B
  refine ⟨ad', by rw [psc_o]; exact e1, psc_Wl.mpr e2, by rw [psc_o]; exact e3, ⟨by rw [psc_s, psc_s], by rw [psc_l, psc_l]⟩, by rw [psc_o, psc_o]; exact e5⟩
theorem psc_mcf {b : Bool} {g h h' : Hp} : mcf b (psc g h) (psc g h') = mcf b h h' := by
  cases b with
  | false => rfl
  | true =>
    show nOf _ - nOf _ = nOf _ - nOf _
    rw [psc_o, psc_o]
theorem psc_msf {b : Bool} {g h h' : Hp} : msf b (psc g h) (psc g h') = msf b h h' := by
  cases b with
  | false => rfl
  | true =>
    show slc (nOf _) - slc (nOf _) = slc (nOf _) - slc (nOf _)
    rw [psc_o, psc_o]
theorem met_post {l : Launch} {y : MethodName} {ws : List Cond} {rm : Room} {Pc : Array Value → State → Prop} {Qc Qc' : Array Value → State → Outcome → State → Prop} {mc ms : Nat} {free : Addr → Prop} (hM : Met l y ws rm Pc Qc mc ms free) (hq : ∀ a s o t, Qc a s o t → Qc' a s o t) : Met l y ws rm Pc Qc' mc ms free := fun p e a1 a2 a3 s m args below b1 b2 b3 b4 => by
  obtain ⟨n, o, c1, c2, c3, c4, c5⟩ := hM p e a1 a2 a3 s m args below b1 b2 b3 b4
  exact ⟨n, o, c1, c2, c3, hq _ _ _ _ c4, c5⟩
theorem psc_met {l : Launch} {b : Bool} {I : MInf} {a : List Int} {g h h' : Hp} {v : Int} (hrt : I.2.2.2.2.2.2.1 = 0) (M : MetOf l b I a h v h') : MetOf l b I a (psc g h) v (psc g h') := by
  intro D ca sa ad sz
  have e1 : rmOf I b (psc g h) (psc g h') = rmOf I b h h' := by
    unfold rmOf
    rw [psc_mcf, psc_msf]
  have e2 : Pcv D ca sa b ad (psc g h) I.2.2.2.2.2.2.2 a sz = Pcv D ca sa b ad h I.2.2.2.2.2.2.2 a sz := by
    unfold Pcv
    simp only [psc_o, psc_wsl, psc_Wl]
  have M1 := M D ca sa ad sz
  rw [e1, e2, psc_mcf, psc_msf, psc_o, psc_wsl, hrt]
  rw [hrt] at M1
  refine met_post M1 (fun a9 s9 o9 t9 q => ?_)
  obtain ⟨⟨u, q1, q2, q3⟩, q4⟩ := q
  exact ⟨⟨u, q1, q2, psc_Bp q3⟩, q4⟩
/-- a maker: from the heap h1 it makes h2, whatever the script -/
noncomputable def fmk {ρ : Type} (h1 h2 : Hp) (a0 : List Int) (v0 : Int) : FN ρ := fun a h k => ci (a = a0 ∧ h = psc h h1) (k v0 (psc h h2)) none
theorem fmk_some {ρ : Type} {h1 h2 : Hp} {a0 : List Int} {v0 : Int} {a : List Int} {h : Hp} {k : Int → Hp → Option ρ} {r : ρ} (H : fmk h1 h2 a0 v0 a h k = some r) : (a = a0 ∧ h = psc h h1) ∧ k v0 (psc h h2) = some r := by
  unfold fmk at H
  by_cases c : a = a0 ∧ h = psc h h1
  · rw [ci_t c] at H
    exact ⟨c, H⟩
  · rw [ci_f c] at H
    cases H
theorem fmk_n {h h1 : Hp} (c : h = psc h h1) : nOf h = nOf h1 := by
  have e : nOf (psc h h1) = nOf h1 := psc_o
  rw [← c] at e
  exact e
theorem fmk_mono {ρ : Type} {h1 h2 : Hp} {a0 : List Int} {v0 : Int} (hn : nOf h1 ≤ nOf h2) : MonoF (fmk (ρ := ρ) h1 h2 a0 v0) := by
  intro a h k r H
  obtain ⟨⟨_, c⟩, H⟩ := fmk_some H
  refine ⟨v0, psc h h2, H, ?_⟩
  rw [psc_o, fmk_n c]
  exact hn
theorem fmk_snd {ρ : Type} {l : Launch} {I : MInf} {h1 h2 : Hp} {a0 : List Int} {v0 : Int} (hrt : I.2.2.2.2.2.2.1 = 0) (hM : MetOf l true I a0 h1 v0 h2) (hn : nOf h1 ≤ nOf h2) : SndF (ρ := ρ) l true I (fmk h1 h2 a0 v0) := by
  intro a h k r H _ _ _ _
  obtain ⟨⟨ca, c⟩, H⟩ := fmk_some H
  refine ⟨v0, psc h h2, H, ?_, fun _ => ?_⟩
  · have M := psc_met (g := h) hrt hM
    rw [← c] at M
    rw [ca]
    exact M
  · rw [psc_o, fmk_n c]
    exact hn
/-! WHAT THE TWO MAKERS MAKE. -/
theorem oT1_s : ∃ (v : Int) (h : Hp), oT1 = some (v, h) ∧ cnt h = 113 := by
  have e := oT1_n
  cases q : oT1 with
  | none =>
    rw [q] at e
    cases e
  | some x =>
    obtain ⟨v, h⟩ := x
    rw [q] at e
    exact ⟨v, h, rfl, of_decide_eq_true e⟩
theorem nE0 : cnt hE = 0 := rfl
theorem kd0 : kd 0 = 15 := by decide +kernel
theorem kd113 : kd 113 = 16 := by decide +kernel
theorem made_both (l : Launch) : ∃ (v1 v2 : Int) (hA : Hp), cnt hA = 113 ∧ cnt hF = 148 ∧ MetOf l true (mi2 280).1 [0] (alc hE 15) v1 hA ∧ MetOf l true (mi2 281).1 [113] (alc hA 16) v2 hF := by
  obtain ⟨v1, hA, q1, c1⟩ := oT1_s
  have e := oT2_n
  have e2 : oT2 = runT 100000 sdT_X12_init fsT_X12_init (entL 0 [(16, 113)]) (alc hA 16) := by
    unfold oT2
    rw [q1]
  have nA : nOf hA = 113 := by
    unfold nOf
    rw [c1]
    rfl
  cases q : oT2 with
  | none =>
    rw [q] at e
    cases e
  | some x =>
    obtain ⟨v2, hB⟩ := x
    have eF : hF = hB := by
      unfold hF
      rw [q]
    rw [q] at e
    have e : cnt hB = 148 := of_decide_eq_true e
    refine ⟨v1, v2, hA, c1, by rw [eF]; exact e, ?_, ?_⟩
    · have n1 : nOf (alc hE 15) = 1 := by
        rw [nOf_alc (by rw [nE0]; decide)]
        rfl
      obtain ⟨v, h', k1, k2, -⟩ := sndT_X11_init (ρ := Int × Hp) (l := l) [0] (alc hE 15) (fun v h => some (v, h)) (v1, hA) (by
        show bnd oT1 (fun v h => some (v, h)) = some (v1, hA)
        rw [q1]
        rfl) rfl (by
        rw [n1]
        exact OKS.cons (v := (15, 0)) (okz_new (t := 15) (h := hE) (by decide) (by rw [nE0]; decide) kd0) (fun _ h9 => by cases h9)) (by rw [n1]; decide) (fun q9 => by cases q9)
      cases k1
      exact k2
    · have n1 : nOf (alc hA 16) = 114 := by
        rw [nOf_alc (by rw [c1]; decide), nA]
      obtain ⟨v, h', k1, k2, -⟩ := sndT_X12_init (ρ := Int × Hp) (l := l) [113] (alc hA 16) (fun v h => some (v, h)) (v2, hB) (by
        show bnd (runT 100000 sdT_X12_init fsT_X12_init (entL 0 [(16, 113)]) (alc hA 16)) (fun v h => some (v, h)) = some (v2, hB)
        rw [← e2, q]
        rfl) rfl (by
        have := okz_new (z := false) (t := 16) (h := hA) (by decide) (by rw [c1]; decide) (by rw [nA]; exact kd113)
        rw [c1, nA] at this
        rw [n1]
        exact OKS.cons (v := (16, 113)) this (fun _ h9 => by cases h9)) (by rw [n1]; decide) (fun q9 => by cases q9)
      cases k1
      rw [eF]
      exact k2
