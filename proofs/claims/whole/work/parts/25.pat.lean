/-! PLACES of a method's table. -/
def PAt (l : Launch) (g : Bool) (I : MInf) (h0 : Hp) (v : Int) (h' : Hp) (pc : Nat) (L : Lc) (S : List AV) (h : Hp) : Prop :=
  ∀ (p : Program) (e : Env) (s : State) (m : MethodId) (args : Array Value) (below : List Frame) (meth : Method) (c : Code) (D : va_G) (ca sa ad : Nat → Nat), Cx p s m args c D ca sa 0 (va_A (wsl ca ad (nOf h0) h0) s.heap.size) I.2.1 I.1.cls I.2.2.1 false 0 (fun _ => 0) h0 → meth.sig.returnType = I.2.2.2.1 → meth.locks = false → s.methodNamed? I.1 = some m → s.vm.method? m = some meth →
      Cfg p l e (rmOf I g h0 h') s m args below meth c D ca sa 0 (va_A (wsl ca ad (nOf h0) h0) s.heap.size) I.2.2.1 false g (nOf h0) h0 ad (MQ below (QcOf sa I.2.2.2.2.2.2.1 v (Bp D ca (va_A (wsl ca ad (nOf h0) h0) s.heap.size) g ad I.2.2.2.2.2.2.1 v h0 h') (va_A (wsl ca ad (nOf h0) h0) s.heap.size)) args s (mcf g h0 h') (msf g h0 h') (va_A (wsl ca ad (nOf h0) h0) s.heap.size)) pc L S h
theorem PAt.weak {l : Launch} {g : Bool} {I : MInf} {h0 h' : Hp} {v : Int} {pc : Nat} {L L' : Lc} {S : List AV} {h : Hp} (hL : ∀ q ∈ L', q ∈ L) (hP : PAt l g I h0 v h' pc L' S h) : PAt l g I h0 v h' pc L S h := by
  intro p e s m args below meth c D ca sa ad C h1 h2 h3 h4 ad1 H locs ls q
  refine hP p e s m args below meth c D ca sa ad C h1 h2 h3 h4 ad1 H locs ls ⟨q.1, q.2.1, ⟨q.2.2.1.1, q.2.2.1.2.1, fun x hx => ?_⟩, fun x hx => q.2.2.2.1 x (hL x hx), q.2.2.2.2⟩
  obtain ⟨y, hy, rfl⟩ := List.mem_map.mp (show x ∈ L'.map (fun q => (q.1, cv ad1 sa 0 q.2)) from hx)
  exact q.2.2.1.2.2 _ (List.mem_map.mpr ⟨y, hL y hy, rfl⟩)
/-- the locals and the stack that a cut point names -/
def mkL : List (Nat × Nat × Option Int) → List Int → Lc
  | [], _ => []
  | (i, t, some x) :: l, a => (i, t, x) :: mkL l a
  | (i, t, none) :: l, v :: a => (i, t, v) :: mkL l a
  | (_, _, none) :: _, [] => []
def mkS : List (Nat × Option Int) → List Int → List AV
  | [], _ => []
  | (t, some x) :: l, a => (t, x) :: mkS l a
  | (t, none) :: l, v :: a => (t, v) :: mkS l a
  | (_, none) :: _, [] => []
section
variable {ρ : Type} {r : ρ}
theorem fndL_some {i : Nat} {K : AV → Option (Option ρ)} : ∀ {L : Lc}, fndL L i K = some (some r) → ∃ v, (i, v) ∈ L ∧ K v = some (some r)
  | [], h => by cases h
  | (j, v) :: t, h => by
    unfold fndL at h
    split at h
    · rename_i hj
      exact ⟨v, by rw [beqn hj]; exact List.mem_cons_self, h⟩
    · obtain ⟨w, h1, h2⟩ := fndL_some h
      exact ⟨w, List.mem_cons_of_mem _ h1, h2⟩
theorem getL_some {L : Lc} : ∀ {ls : List (Nat × Nat × Option Int)} {K : List Int → Option (Option ρ)}, getL ls L K = some (some r) → ∃ a, K a = some (some r) ∧ ∀ q ∈ mkL ls a, q ∈ L
  | [], K, h => ⟨[], h, fun q hq => by cases hq⟩
  | (i, t, c) :: ls, K, h => by
    obtain ⟨⟨t2, v⟩, h1, h2⟩ := fndL_some h
    dsimp only at h2
    split at h2
    · rename_i ht
      have e1 := beqn ht
      subst e1
      unfold getC at h2
      split at h2
      · obtain ⟨a, h3, h4⟩ := getL_some h2
        refine ⟨v :: a, h3, fun q hq => ?_⟩
        rcases List.mem_cons.mp (show q ∈ (i, t, v) :: mkL ls a from hq) with h5 | h5
        · rw [h5]; exact h1
        · exact h4 q h5
      · rename_i x
        split at h2
        · rename_i hx
          have e2 := decb hx
          subst e2
          obtain ⟨a, h3, h4⟩ := getL_some h2
          refine ⟨a, h3, fun q hq => ?_⟩
          rcases List.mem_cons.mp (show q ∈ (i, t, v) :: mkL ls a from by cases a <;> exact hq) with h5 | h5
          · rw [h5]; exact h1
          · exact h4 q h5
        · cases h2
    · cases h2
theorem getS_some : ∀ {ss : List (Nat × Option Int)} {S : List AV} {K : List Int → Option (Option ρ)}, getS ss S K = some (some r) → ∃ c, K c = some (some r) ∧ S = mkS ss c
  | [], [], K, h => ⟨[], h, rfl⟩
  | [], _ :: _, K, h => by cases h
  | _ :: _, [], K, h => by cases h
  | (t, c) :: ss, (t2, v) :: S, K, h => by
    unfold getS at h
    split at h
    · rename_i ht
      have e1 := beqn ht
      subst e1
      unfold getC at h
      split at h
      · obtain ⟨a, h3, h4⟩ := getS_some h
        exact ⟨v :: a, h3, by rw [h4]; rfl⟩
      · split at h
        · rename_i hx
          have e2 := decb hx
          subst e2
          obtain ⟨a, h3, h4⟩ := getS_some h
          exact ⟨a, h3, by rw [h4]; cases a <;> rfl⟩
        · cases h
    · cases h
theorem kct_some {t : Nat} {L : Lc} {S : List AV} {h : Hp} : ∀ {T : CT ρ}, kct T t L S h = some (some r) → ∃ q ∈ T, q.1 = t ∧ ∃ a c, q.2.2.2 a c h = some r ∧ (∀ x ∈ mkL q.2.1 a, x ∈ L) ∧ S = mkS q.2.2.1 c
  | [], h => by cases h
  | (b, ls, ss, f) :: T, h => by
    unfold kct at h
    split at h
    · rename_i hb
      obtain ⟨a, h1, h2⟩ := getL_some h
      obtain ⟨c, h3, h4⟩ := getS_some h1
      exact ⟨_, List.mem_cons_self, beqn hb, a, c, Option.some.inj h3, h2, h4⟩
    · obtain ⟨q, h1, h2⟩ := kct_some h
      exact ⟨q, List.mem_cons_of_mem _ h1, h2⟩
end
/-- each callee's function does what its method does -/
def fsOK {ρ : Type} (l : Launch) (g : Bool) (mi : Nat → Mx) : List Nat → List (FN ρ) → Prop
  | [], _ => True
  | _ :: _, [] => True
  | j :: js, f :: fs => SndF l g (mi j).1 f ∧ fsOK l g mi js fs
theorem fsOK_at {ρ : Type} {l : Launch} {g : Bool} {mi : Nat → Mx} : ∀ {cals : List Nat} {fs : List (FN ρ)}, fsOK l g mi cals fs → ∀ (f jj : Nat) (fn : FN ρ), cals[f]? = some jj → fs[f]? = some fn → SndF l g (mi jj).1 fn
  | [], _, _, f, jj, fn, h1, _ => by cases h1
  | _ :: _, [], _, f, jj, fn, _, h2 => by cases h2
  | j :: js, x :: fs, h, 0, jj, fn, h1, h2 => by
    cases h1
    cases h2
    exact h.1
  | j :: js, x :: fs, h, f + 1, jj, fn, h1, h2 => fsOK_at h.2 f jj fn h1 h2
theorem snd_no {ρ : Type} {l : Launch} {g : Bool} {I : MInf} : SndF l g I (nofn : FN ρ) := fun _ _ _ _ h => by cases h
theorem ro_no {ρ : Type} : RoF (nofn : FN ρ) := fun _ _ _ _ _ => rfl
def rkOK (rk rt : Nat) (ret : Option FieldType) : Prop := (rk = 0 ∧ rt = 0 ∧ ret = none) ∨ (rk = 1 ∧ rt = 1 ∧ ret = some .int) ∨ (rk = 4 ∧ rt = 1 ∧ ret = some .boolean) ∨ (rk = 2 ∧ rt = 2 ∧ ret = some .long) ∨ (rk = 3 ∧ rt = 3 ∧ ∃ n, ret = some (.object n))
section
variable {l : Launch} {I : MInf} {h0 h' : Hp} {v : Int} {ρ : Type} {r : ρ} {fs : List (FN ρ)} {fin : Int → Hp → Option ρ} {T : CT ρ} {sd : SD} {mi : Nat → Mx} {cals : List Nat} {rk fu pc : Nat} {L : Lc} {S : List AV} {h : Hp}
/-- a place of a table that writes -/
theorem pat_w (hsd : sdb I.2.1 (insOK mi I.1.cls I.2.2.1 I.2.2.2.2.1 I.2.2.2.2.2.1 cals false rk) sd = true) (hrk : rkOK rk I.2.2.2.2.2.2.1 I.2.2.2.1) (h8 : nOf h0 = 148) (hfs : fsOK l false mi cals fs) (hfin : ∀ v1 h1, fin v1 h1 = some r → h1 = h' ∧ (I.2.2.2.2.2.2.1 ≠ 0 → v1 = v)) (hT : ∀ q ∈ T, ∀ a c h, q.2.2.2 a c h = some r → PAt l false I h0 v h' q.1 (mkL q.2.1 a) (mkS q.2.2.1 c) h) (H : goAt false (kct T) fin fs sd fu pc L S h = some r) : PAt l false I h0 v h' pc L S h := by
  intro p e s m args below meth c D ca sa ad C h1 h2 h3 h4
  obtain ⟨lx, hlx, H⟩ := seek_some H
  refine go_sound (fs := fs) (fin := fin) (K := kct T) (sd := sd) (mi := mi) (cals := cals) (ini := false) (rk := rk) hsd (fun q => by cases q) ⟨Nat.le_refl _, Nat.le_refl _⟩ (fun _ => h8) (fsOK_at hfs) (fun q => by cases q) (fun q => by cases q) (fun q => by cases q) (rets_mk hrk h1 h2 (fun _ => h8) hfin C) (fun t L S h H8 => ?_) C fu pc lx L S h (List.all_eq_true.mp hsd _ hlx) H
  obtain ⟨q, hq, e1, a, c9, h9, hL, hS⟩ := kct_some H8
  subst e1
  subst hS
  exact (hT q hq a c9 h h9).weak hL p e s m args below meth c D ca sa ad C h1 h2 h3 h4
/-- a place of a table that writes nothing -/
theorem pat_ro (hsd : sdb I.2.1 (insOK mi I.1.cls I.2.2.1 I.2.2.2.2.1 I.2.2.2.2.2.1 cals false rk) sd = true) (hro : roB sd = true) (hrk : rkOK rk I.2.2.2.2.2.2.1 I.2.2.2.1) (h8 : nOf h0 = 148) (hfs : fsOK l false mi cals fs) (hfr : ∀ fn ∈ fs, RoF fn) (hfin : ∀ v1, fin v1 h = some r → h = h' ∧ (I.2.2.2.2.2.2.1 ≠ 0 → v1 = v)) (hT : ∀ q ∈ T, ∀ a c, q.2.2.2 a c h = some r → PAt l false I h0 v h' q.1 (mkL q.2.1 a) (mkS q.2.2.1 c) h) (H : goAt false (kct T) fin fs sd fu pc L S h = some r) : PAt l false I h0 v h' pc L S h := by
  intro p e s m args below meth c D ca sa ad C h1 h2 h3 h4
  obtain ⟨lx, hlx, H⟩ := seek_some H
  refine go_ro (fs := fs) (fin := fin) (K := kct T) (sd := sd) (mi := mi) (cals := cals) (ini := false) (rk := rk) rfl hsd hro (fun q => by cases q) ⟨Nat.le_refl _, Nat.le_refl _⟩ (fun _ => h8) (fsOK_at hfs) (fun f fn hf => hfr fn (List.mem_of_getElem? hf)) (rets_mk hrk h1 h2 (fun _ => h8) (fun v1 h1 q => ?_) C) (fun t L S H8 => ?_) C fu pc lx L S (List.all_eq_true.mp hsd _ hlx) (List.all_eq_true.mp hro _ hlx) H
  · obtain ⟨e1, e2⟩ := atH_some q
    subst e1
    exact hfin v1 e2
  · obtain ⟨q, hq, e1, a, c9, h9, hL, hS⟩ := kct_some H8
    subst e1
    subst hS
    exact (hT q hq a c9 h9).weak hL p e s m args below meth c D ca sa ad C h1 h2 h3 h4
end
theorem bndp_some {α : Type} {o : Option Int} {f : Int → Option α} {r : α} (h : bndp o f = some r) : ∃ x, o = some x ∧ f x = some r := by
  unfold bndp at h
  split at h
  · exact ⟨_, rfl, h⟩
  · cases h
theorem bndh_some {α : Type} {o : Option Hp} {f : Hp → Option α} {r : α} (h : bndh o f = some r) : ∃ x, o = some x ∧ f x = some r := by
  unfold bndh at h
  split at h
  · exact ⟨_, rfl, h⟩
  · cases h
theorem bnd_some {α : Type} {o : Option (Int × Hp)} {f : Int → Hp → Option α} {r : α} (h : bnd o f = some r) : ∃ x y, o = some (x, y) ∧ f x y = some r := by
  unfold bnd at h
  split at h
  · exact ⟨_, _, rfl, h⟩
  · cases h
