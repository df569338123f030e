/-! CALLS. -/
/-- a method: name, code, locals, what it returns, frames and locals it needs, kind of its answer (0 none, else 1 and the kind), kinds of its arguments -/
abbrev MInf := MethodName × ByteArray × Nat × Option FieldType × Nat × Nat × Nat × List Nat
def mcf (g : Bool) (h h' : Hp) : Nat := match g with
  | false => 0
  | true => nOf h' - nOf h
def msf (g : Bool) (h h' : Hp) : Nat := match g with
  | false => 0
  | true => slc (nOf h') - slc (nOf h)
def Bp (D : va_G) (ca : Nat → ClassId) (A : Nat → Prop) (g : Bool) (ad : Nat → Nat) (rt : Nat) (v : Int) (h h' : Hp) (t : State) : Prop :=
  ∃ ad' : Nat → Nat, (∀ k, k < nOf h → ad' k = ad k) ∧ Wl D ca A g ad' h' t.heap ∧ (rt ≠ 0 → okz false g (nOf h') (rt - 1) v) ∧ NE h h' ∧ nOf h ≤ nOf h'
def QcOf (sa : Nat → Nat) (rt : Nat) (v : Int) (B : State → Prop) (A : Nat → Prop) : Array Value → State → Outcome → State → Prop := match rt with
  | 0 => va_Qv (fun _ : Unit => True) (fun _ t => B t) A
  | 1 => va_Qi (fun (r : Int32) (_ : Unit) => r = Int32.ofInt v) (fun _ t => B t) A
  | 2 => va_Ql (fun (r : Int64) (_ : Unit) => r = Int64.ofInt v) (fun _ t => B t) A
  | _ => va_Qr (fun _ : Unit => True) (fun _ a t => a = sa v.toNat ∧ B t) A
def Pcv (D : va_G) (ca : Nat → ClassId) (sa : Nat → Nat) (g : Bool) (ad : Nat → Nat) (h : Hp) (ts : List Nat) (a : List Int) (sz : Nat) : Array Value → State → Prop :=
  va_Pc ((ts.zip a).map (cv ad sa 0)) (fun U => U.heap.size = sz ∧ Wl D ca (fun _ => True) g ad h U.heap ∧ va_K D vwCl (tysl ca) U ∧ SW sa (va_A (wsl ca ad (nOf h) h) sz) U U.heap)
def rmOf (I : MInf) (g : Bool) (h h' : Hp) : Room := { frames := I.2.2.2.2.1, cells := mcf g h h', slots := msf g h h', locals := I.2.2.2.2.2.1 }
def MetOf (l : Launch) (g : Bool) (I : MInf) (a : List Int) (h : Hp) (v : Int) (h' : Hp) : Prop :=
  ∀ (D : va_G) (ca sa ad : Nat → Nat) (sz : Nat), Met l I.1 (.code I.1 I.2.1 I.2.2.1 I.2.2.2.1 :: lw_u) (rmOf I g h h') (Pcv D ca sa g ad h I.2.2.2.2.2.2.2 a sz) (QcOf sa I.2.2.2.2.2.2.1 v (Bp D ca (va_A (wsl ca ad (nOf h) h) sz) g ad I.2.2.2.2.2.2.1 v h h') (va_A (wsl ca ad (nOf h) h) sz)) (mcf g h h') (msf g h h') (va_A (wsl ca ad (nOf h) h) sz)
def SndF {ρ : Type} (l : Launch) (g : Bool) (I : MInf) (fn : FN ρ) : Prop :=
  ∀ (a : List Int) (h : Hp) (k : Int → Hp → Option ρ) (r : ρ), fn a h k = some r → a.length = I.2.2.2.2.2.2.2.length → OKS false g (nOf h) (I.2.2.2.2.2.2.2.zip a) → nOf h ≤ 148 → (g = false → nOf h = 148) → ∃ (v : Int) (h' : Hp), k v h' = some r ∧ MetOf l g I a h v h' ∧ (g = true → nOf h ≤ nOf h')
theorem cv_b {ad sa : Nat → Nat} {b b' : Nat} {v : AV} (h : v.1 ≠ 3) : cv ad sa b v = cv ad sa b' v := by
  obtain ⟨t, x⟩ := v
  match t, h with
  | 0, _ => rfl
  | 1, _ => rfl
  | 2, _ => rfl
  | 3, h => exact absurd rfl h
  | t + 4, _ => rfl
theorem popA_some {ρ : Type} {ts : List Nat} {S : List AV} {a : List Int} {K : List Int → List AV → Option ρ} {r : ρ} (h : popA ts S a K = some r) : ∃ (b : List Int) (S' : List AV), b.length = ts.length ∧ S = ts.zip b ++ S' ∧ K (b.reverse ++ a) S' = some r := by
  induction ts generalizing S a with
  | nil => exact ⟨[], S, rfl, rfl, h⟩
  | cons t ts ih =>
    cases S with
    | nil => cases h
    | cons q S =>
      obtain ⟨t', v⟩ := q
      unfold popA at h
      split at h
      · rename_i ht
        obtain ⟨b, S', h1, h2, h3⟩ := ih h
        refine ⟨v :: b, S', by simp [h1], ?_, by simpa using h3⟩
        rw [List.zip_cons_cons, List.cons_append, ← h2, Nat.eq_of_beq_eq_true ht]
      · cases h
theorem nthF_some {ρ : Type} {fs : List (FN ρ)} {i : Nat} {K : FN ρ → Option ρ} {r : ρ} (h : nthF fs i K = some r) : ∃ f, fs[i]? = some f ∧ K f = some r := by
  induction fs generalizing i with
  | nil => cases h
  | cons f fs ih =>
    cases i with
    | zero => exact ⟨f, rfl, h⟩
    | succ i =>
      obtain ⟨f', h1, h2⟩ := ih h
      exact ⟨f', by rw [List.getElem?_cons_succ]; exact h1, h2⟩
theorem dpt_cat {ad sa : Nat → Nat} {b : Nat} (S : List AV) : ((S.map (cv ad sa b)).map fun v => v.category).sum = dpt S := by
  induction S with
  | nil => rfl
  | cons q S ih =>
    obtain ⟨t, x⟩ := q
    rw [List.map_cons, List.map_cons, List.sum_cons, ih, cv_cat]
    show (if t = 1 then 2 else 1) + dpt S = (match Nat.beq t 1 with | true => 2 | false => 1) + dpt S
    rw [nbq]
    by_cases h : t = 1
    · subst h; rfl
    · rw [if_neg h, beq_eq_false_iff_ne.mpr h]
section
variable {p : Program} {l : Launch} {e : Env} {R : Room} {s : State} {m : MethodId} {args : Array Value} {below : List Frame} {meth : Method} {c : Code}
variable {D : va_G} {ca : Nat → ClassId} {sa : Nat → Nat} {b : Nat} {A : Nat → Prop} {cc : ByteArray} {own : String} {nL : Nat} {z g : Bool} {N : Nat} {xs : Nat → Int32} {n0 : Nat} {h0 : Hp} {ad0 : Nat → Nat} {Q : State → Prop}
variable {ρ : Type} {pc len : Nat} {k : Lc → List AV → Hp → Option ρ} {j : Nat → Lc → List AV → Hp → Option ρ} {L : Lc} {h : Hp} {r : ρ}
def retv (ad sa : Nat → Nat) (b rt : Nat) (v : Int) : List Value := match rt with
  | 0 => []
  | t + 1 => [cv ad sa b (t, v)]
theorem p_after {rt : Nat} {v : Int} {B : State → Prop} {A1 : Nat → Prop} {a : Array Value} {free : Nat → Prop} {H : Heap} {locs : List Loc} {cells slots mc ms : Nat} {ls : Array Slot} {st0 rest : List Value} {A0 : Nat → Prop} {H0 : Heap} {ad : Nat → Nat} (hrt : rt ≤ 3) (hr : va_Run p l e R s m args below meth c H locs cells slots mc ms (F0 m pc ls st0) rest (QcOf sa rt v B A1 a) free) (hS : va_S A0 H0 H locs) (hA : ∀ q, q < H.size → A1 q → A0 q) (hf : ∀ q, free q → A0 q)
    (kk : ∀ (t : State) (H1 : Heap) (locs1 : List Loc), t.heap = H1 → B t → H.size ≤ H1.size → (∀ q : Nat, q < H.size → ¬ A1 q → H1[q]? = H[q]?) → va_S A0 H0 H1 locs1 → W p l e R s m args below meth c H1 locs1 (cells + mc) (slots + ms) Q (F0 m (pc + 3) ls (retv ad sa b rt v ++ rest))) : W p l e R s m args below meth c H locs cells slots Q (F0 m pc ls st0) := by
  match rt, hrt, hr, kk with
  | 0, _, hr, kk => exact va_callv (a := a) hr hS hA hf (fun u t H1 locs1 h1 _ _ hB h2 h3 h4 => kk t H1 locs1 h1 hB h2 h3 h4)
  | 1, _, hr, kk => exact va_calli (a := a) hr hS hA hf (fun r u t H1 locs1 h1 _ hp hB h2 h3 h4 => by rw [hp]; exact kk t H1 locs1 h1 hB h2 h3 h4)
  | 2, _, hr, kk => exact va_calll (a := a) hr hS hA hf (fun r u t H1 locs1 h1 _ hp hB h2 h3 h4 => by rw [hp]; exact kk t H1 locs1 h1 hB h2 h3 h4)
  | 3, _, hr, kk => exact va_callr (a := a) hr hS hA hf (fun u ra t H1 locs1 h1 _ _ hB h2 h3 h4 => by rw [hB.1]; exact kk t H1 locs1 h1 hB.2 h2 h3 h4)
theorem Pcv_blind {g : Bool} {ad : Nat → Nat} {ts : List Nat} {a : List Int} {sz : Nat} : FrameBlind (Pcv D ca sa g ad h ts a sz) := by
  intro av U gg mk q
  obtain ⟨q0, q1, q2, q3, q4⟩ := q
  exact ⟨q0, q1, q2, va_K.moved (u := U) (Vm.Alike.refl U.vm) q3, SW_same (u := U) rfl q4⟩
end
