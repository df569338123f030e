/-! METHODS THAT WRITE NOTHING. -/
def roI : Instr → Bool
  | .putfield _ => false
  | .iastore => false
  | .lastore => false
  | .bastore => false
  | .aastore => false
  | .new _ => false
  | .newarray _ => false
  | .anewarray _ => false
  | .multianewarray _ _ => false
  | _ => true
/-- a function that writes nothing: only what its continuation does at the same heap counts -/
def RoF {ρ : Type} (fn : FN ρ) : Prop := ∀ (a : List Int) (h : Hp) (k k2 : Int → Hp → Option ρ), (∀ v, k v h = k2 v h) → fn a h k = fn a h k2
section
variable {ρ : Type}
theorem nthF_congr {K K2 : FN ρ → Option ρ} : ∀ {fs : List (FN ρ)} {i : Nat}, (∀ f, fs[i]? = some f → K f = K2 f) → nthF fs i K = nthF fs i K2
  | [], _, _ => rfl
  | f :: _, 0, h => h f rfl
  | _ :: l, i + 1, h => nthF_congr (fs := l) (fun f hf => h f (by rw [List.getElem?_cons_succ]; exact hf))
theorem popA_congr {K K2 : List Int → List AV → Option ρ} (h : ∀ a S, K a S = K2 a S) : ∀ {ts : List Nat} {S : List AV} {a : List Int}, popA ts S a K = popA ts S a K2
  | [], S, a => h a S
  | _ :: _, [], _ => rfl
  | t :: ts, (t', v) :: S, a => by
    unfold popA
    rw [popA_congr h (ts := ts)]
theorem tsl_congr {x : Int} {pc : Nat} {j j2 : Nat → Option ρ} {d : Int} (h : ∀ t, j t = j2 t) : ∀ {l : List Int} {i : Int}, tsl x pc j d l i = tsl x pc j2 d l i
  | [], _ => h _
  | o :: os, i => by
    unfold tsl
    rw [tsl_congr h (l := os), h]
theorem lsl_congr {x : Int} {pc : Nat} {j j2 : Nat → Option ρ} {d : Int} (h : ∀ t, j t = j2 t) : ∀ {l : List (Int × Int)}, lsl x pc j d l = lsl x pc j2 d l
  | [] => h _
  | (i, o) :: os => by
    unfold lsl
    rw [lsl_congr h (l := os), h]
variable {g : Bool} {fs : List (FN ρ)} {fin fin2 : Int → Hp → Option ρ}
set_option maxHeartbeats 4000000 in
theorem sem_ro {ins : Instr} {res : List Nat} {rv : Int} {pc : Nat} {k k2 : Lc → List AV → Hp → Option ρ} {j j2 : Nat → Lc → List AV → Hp → Option ρ} {L : Lc} {S : List AV} {h : Hp} (hro : roI ins = true) (hf : ∀ (f : Nat) (fn : FN ρ), fs[f]? = some fn → RoF fn) (hk : ∀ L' S', k L' S' h = k2 L' S' h) (hj : ∀ t L' S', j t L' S' h = j2 t L' S' h) (hfin : ∀ v, fin v h = fin2 v h) : sem g fs fin ins res rv pc k j L S h = sem g fs fin2 ins res rv pc k2 j2 L S h := by
  have hcall : ∀ (f rt : Nat) (a : List Int) (rr : List AV), nthF fs f (fun fn => fn a h (fun v h' => match rt with
        | 0 => k L rr h'
        | t + 1 => k L ((t, v) :: rr) h')) = nthF fs f (fun fn => fn a h (fun v h' => match rt with
        | 0 => k2 L rr h'
        | t + 1 => k2 L ((t, v) :: rr) h')) := fun f rt a rr => nthF_congr (fun fn hfn => hf f fn hfn _ _ _ _ (fun v => by
    cases rt with
    | zero => exact hk _ _
    | succ t => exact hk _ _))
  cases ins
  case invokevirtual i =>
    unfold sem
    dsimp only
    split
    · refine popA_congr (fun a S' => ?_)
      cases Nat.ble (dpt S') 8 with
      | true => exact congrArg (nn g (a.headD 0)) (hcall _ _ a S')
      | false => rfl
    · rfl
  case invokestatic i =>
    unfold sem
    dsimp only
    split
    · refine popA_congr (fun a S' => ?_)
      cases Nat.ble (dpt S') 8 with
      | true => exact hcall _ _ a S'
      | false => rfl
    · rfl
  case invokespecial i =>
    unfold sem
    dsimp only
    split
    · rename_i rt f kd9 x1 x2 ts
      cases kd9 with
      | zero =>
        show (match (generalizing := false) S with
          | (t, o) :: r9 => match (generalizing := false) Nat.ble 4 t && Nat.ble (dpt r9) 8 && decide (0 ≤ o) with
            | true => k L r9 h
            | false => none
          | _ => none) = (match (generalizing := false) S with
          | (t, o) :: r9 => match (generalizing := false) Nat.ble 4 t && Nat.ble (dpt r9) 8 && decide (0 ≤ o) with
            | true => k2 L r9 h
            | false => none
          | _ => none)
        simp only [hk]
      | succ kd9 =>
        refine popA_congr (fun a S' => ?_)
        cases Nat.ble (dpt S') 8 && g with
        | true => exact congrArg (nn g (a.headD 0)) (hcall _ _ a S')
        | false => rfl
    · rfl
  case tableswitch d l9 h9 offs =>
    unfold sem
    dsimp only
    split
    · exact tsl_congr (fun t => hj _ _ _)
    · rfl
  case lookupswitch d ps =>
    unfold sem
    dsimp only
    split
    · exact lsl_congr (fun t => hj _ _ _)
    · rfl
  all_goals first
    | (cases hro; done)
    | (unfold sem; simp only [hk, hj, hfin]; done)
    | (unfold sem; rfl)
end
/-- only at this heap -/
noncomputable def atH {α : Type} (h h' : Hp) (x : Option α) : Option α := @ite (Option α) (h' = h) (Classical.propDecidable _) x none
theorem atH_pos {α : Type} {h : Hp} {x : Option α} : atH h h x = x := by
  unfold atH
  rw [if_pos rfl]
theorem atH_some {α : Type} {h h' : Hp} {x : Option α} {r : α} (q : atH h h' x = some r) : h' = h ∧ x = some r := by
  unfold atH at q
  by_cases e9 : h' = h
  · rw [if_pos e9] at q; exact ⟨e9, q⟩
  · rw [if_neg e9] at q; cases q
def roB (sd : SD) : Bool := sd.all fun x => x.2.all fun y => roI y.2.1
section
variable {p : Program} {l : Launch} {e : Env} {R : Room} {s : State} {m : MethodId} {args : Array Value} {below : List Frame} {meth : Method} {c : Code}
variable {D : va_G} {ca : Nat → ClassId} {sa : Nat → Nat} {b : Nat} {A : Nat → Prop} {cc : ByteArray} {own : String} {nL : Nat} {z g : Bool} {N : Nat} {xs : Nat → Int32} {n0 : Nat} {h0 : Hp} {ad0 : Nat → Nat} {Q : State → Prop}
variable {ρ : Type} {r : ρ}
theorem go_ro {fs : List (FN ρ)} {fin : Int → Hp → Option ρ} {K : Nat → Lc → List AV → Hp → Option (Option ρ)} {sd : SD} {mi : Nat → Mx} {fr lo : Nat} {cals : List Nat} {ini : Bool} {rk : Nat} {h : Hp} (hg : g = false) (hsd : sdb cc (insOK mi own nL fr lo cals ini rk) sd = true) (hro : roB sd = true) (hini : ini = true → meth.name = "<init>") (hR : fr ≤ R.frames ∧ lo ≤ R.locals) (hn0 : g = false → n0 = 148) (hfs : ∀ (f jj : Nat) (fn : FN ρ), cals[f]? = some jj → fs[f]? = some fn → SndF l g (mi jj).1 fn) (hfr : ∀ (f : Nat) (fn : FN ρ), fs[f]? = some fn → RoF fn)
    (hret : Rets cc rk (fun v h' => atH h h' (fin v h')) r (Cfg p l e R s m args below meth c D ca sa b A nL z g n0 h0 ad0 Q)) (hK : ∀ t L S, K t L S h = some (some r) → Cfg p l e R s m args below meth c D ca sa b A nL z g n0 h0 ad0 Q t L S h) (C : Cx p s m args c D ca sa b A cc own nL z N xs h0) :
    ∀ (f : Nat) (pc : Nat) (lx : List SI) (L : Lc) (S : List AV), blkb cc (insOK mi own nL fr lo cals ini rk) pc lx = true → (lx.all fun y => roI y.2.1) = true → go g K fin fs sd f lx L S h = some r → Cfg p l e R s m args below meth c D ca sa b A nL z g n0 h0 ad0 Q pc L S h := by
  intro f
  induction f with
  | zero => intro pc lx L S _ _ H; cases H
  | succ f ih =>
    intro pc lx L S hb hrx H
    cases lx with
    | nil => cases H
    | cons y rr =>
      obtain ⟨p', ins, len, res, rv⟩ := y
      unfold blkb at hb
      have a1 := andb hb
      have a2 := andb a1.1
      have a3 := andb a2.1
      have a4 := beqn a3.1
      subst a4
      have hd : decode cc p' = .ok (ins, len) := by
        have := a3.2
        split at this
        · rename_i i9 n9 hq
          have b1 := andb this
          have b2 := decb b1.1
          have b3 := beqn b1.2
          subst b2
          subst b3
          exact hq
        · cases this
      have hr2 := andb (show (roI ins && rr.all fun y => roI y.2.1) = true from hrx)
      have he : ∀ t L' S', ent K sd (go g K fin fs sd f) t L' S' h = some r → Cfg p l e R s m args below meth c D ca sa b A nL z g n0 h0 ad0 Q t L' S' h := fun t L' S' H9 => by
        rcases ent_some H9 with H8 | ⟨l9, hl9, H8⟩
        · exact hK _ _ _ H8
        · exact ih t l9 L' S' (List.all_eq_true.mp hsd _ hl9) (List.all_eq_true.mp hro _ hl9) H8
      unfold go at H
      rw [sem_ro (fin2 := fun v h' => atH h h' (fin v h')) (k2 := fun L' S' h' => atH h h' (match (generalizing := false) rr with
        | [] => ent K sd (go g K fin fs sd f) (p' + len) L' S' h'
        | _ :: _ => go g K fin fs sd f rr L' S' h')) (j2 := fun t L' S' h' => atH h h' (ent K sd (go g K fin fs sd f) t L' S' h')) hr2.1 hfr (fun L' S' => atH_pos.symm) (fun t L' S' => atH_pos.symm) (fun v => atH_pos.symm)] at H
      refine q_one a2.2 hd hini hR (fun q => by rw [hn0 q, Nat.sub_self, Nat.sub_self]; exact ⟨Nat.zero_le _, Nat.zero_le _⟩) hfs (fun hg9 => by rw [hg] at hg9; cases hg9) hret C (fun L' S' h' H9 => ?_) (fun t L' S' h' H9 => ?_) H
      · obtain ⟨e9, H8⟩ := atH_some H9
        rw [e9]
        cases rr with
        | nil => exact he _ _ _ (by rw [e9] at H8; exact H8)
        | cons y9 ys => exact ih _ _ L' S' a1.2 hr2.2 (by rw [e9] at H8; exact H8)
      · obtain ⟨e9, H8⟩ := atH_some H9
        rw [e9]
        exact he _ _ _ (by rw [e9] at H8; exact H8)
end
