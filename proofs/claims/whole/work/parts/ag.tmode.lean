/-! METHODS THAT RUN WHILE THE OBJECTS ARE MADE: straight from their tables. -/
def noK {ρ : Type} : Nat → Lc → List AV → Hp → Option (Option ρ) := fun _ _ _ _ => none
/-- a method's run by its table alone -/
def runT (fu : Nat) (sd : SD) (fs : List (FN (Int × Hp))) (L : Lc) (h : Hp) : Option (Int × Hp) := goAt true noK (fun v h2 => some (v, h2)) fs sd fu 0 L [] h
def wT {ρ : Type} (fu : Nat) (sd : SD) (fs : List (FN (Int × Hp))) (ts : List Nat) : FN ρ := fun a h k => bnd (runT fu sd fs (entL 0 (ts.zip a)) h) k
theorem runT_mono {fu : Nat} {sd : SD} {fs : List (FN (Int × Hp))} {L : Lc} {h h2 : Hp} {v : Int} (hfm : ∀ (f : Nat) (fn : FN (Int × Hp)), fs[f]? = some fn → MonoF fn) (H : runT fu sd fs L h = some (v, h2)) : nOf h ≤ nOf h2 := by
  obtain ⟨lx, -, H⟩ := seek_some H
  refine go_mono (Bd := fun h' => nOf h' ≤ nOf h2) (fun a b h1 h3 => Nat.le_trans h1 h3) hfm (fun v1 h1 q => ?_) (fun t L S h q => by cases q) fu lx L [] h H
  cases q
  exact Nat.le_refl _
theorem wT_mono {ρ : Type} {fu : Nat} {sd : SD} {fs : List (FN (Int × Hp))} {ts : List Nat} (hfm : ∀ (f : Nat) (fn : FN (Int × Hp)), fs[f]? = some fn → MonoF fn) : MonoF (wT (ρ := ρ) fu sd fs ts) := fun a h k r H => by
  obtain ⟨v, h2, H1, H2⟩ := bnd_some H
  exact ⟨v, h2, H2, runT_mono hfm H1⟩
theorem mono_no {ρ : Type} : MonoF (nofn : FN ρ) := fun _ _ _ _ h => by cases h
theorem snd_T {ρ : Type} {l : Launch} {x : Mx} {mi : Nat → Mx} {fu rk : Nat} {sd : SD} {fs : List (FN (Int × Hp))} {cals : List Nat} {ini : Bool} (hok : mokb x = true) (hsd : sdb x.1.2.1 (insOK mi x.1.1.cls x.1.2.2.1 x.1.2.2.2.2.1 x.1.2.2.2.2.2.1 cals ini rk) sd = true) (hini : ini = true → x.1.1.name = "<init>") (hrk : rkOK rk x.1.2.2.2.2.2.2.1 x.1.2.2.2.1) (hpl : plainFor x.1.1 = true) (hdp : ∀ a : List Int, a.length = x.1.2.2.2.2.2.2.2.length → dpt (x.1.2.2.2.2.2.2.2.zip a) ≤ x.1.2.2.1) (hfs : fsOK l true mi cals fs) (hfm : ∀ (f : Nat) (fn : FN (Int × Hp)), fs[f]? = some fn → MonoF fn) : SndF (ρ := ρ) l true x.1 (wT fu sd fs x.1.2.2.2.2.2.2.2) := by
  intro a h k r H ha ho hn hf
  obtain ⟨v, h2, H1, H2⟩ := bnd_some H
  refine ⟨v, h2, H2, met_mk (mok_base (I := x.1) (np := x.2.1) (mq := x.2.2.1) (ps := x.2.2.2) hok).1 hpl (hdp a ha) ho ?_, fun _ => runT_mono hfm H1⟩
  intro p e s m args below meth c D ca sa ad C h1 h3 h4 h5
  obtain ⟨lx, hlx, H⟩ := seek_some H1
  refine go_sound (fs := fs) (fin := fun v h2 => some (v, h2)) (K := noK) (sd := sd) (mi := mi) (cals := cals) (ini := ini) (rk := rk) hsd (fun q => ?_) ⟨Nat.le_refl _, Nat.le_refl _⟩ (fun q => by cases q) (fsOK_at hfs) (fun _ => hfm) (fun _ v1 h' q => ?_) (fun _ t L S h' q => by cases q) (rets_mk hrk h1 h3 (fun q => by cases q) (fun v1 h1 q => ?_) C) (fun t L S h q => by cases q) C fu 0 lx _ _ _ (List.all_eq_true.mp hsd _ hlx) H
  · rw [(name_of_methodNamed h4 h5).1]
    exact hini q
  · cases q
    exact ⟨Nat.le_refl _, Nat.le_refl _⟩
  · cases q
    exact ⟨rfl, fun _ => rfl⟩
