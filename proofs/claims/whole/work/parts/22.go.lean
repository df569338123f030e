/-! RUNNING A TABLE. -/
theorem nOf_upL {h : Hp} {o i v : Int} (ho : 0 ≤ o) : nOf h ≤ nOf (up h o i v) := by
  unfold nOf cnt
  rw [up_ne (by omega)]
  exact Nat.le_refl _
theorem nOf_alc_le {h : Hp} {t : Nat} : nOf h ≤ nOf (alc h t) := by
  unfold nOf
  by_cases h0 : 0 ≤ cnt h
  · rw [cnt_alc h0]; omega
  · omega
theorem nOf_alcs_le {t : Nat} : ∀ (k : Nat) {h : Hp}, nOf h ≤ nOf (alcs t k h)
  | 0, _ => Nat.le_refl _
  | k + 1, _ => Nat.le_trans (nOf_alcs_le k) nOf_alc_le
theorem nOf_alcm_le {h : Hp} {t k : Nat} : nOf h ≤ nOf (alcm h t k) := by
  have h1 : nOf h ≤ nOf (alcs (aetag t) k (alc h t)) := Nat.le_trans nOf_alc_le (nOf_alcs_le k)
  unfold nOf cnt at h1 ⊢
  by_cases h9 : -1 = cnt h
  · have : h (-1) 0 = -1 := h9.symm
    omega
  · have h2 : alcm h t k (-1) 0 = alcs (aetag t) k (alc h t) (-1) 0 := if_neg (fun q => h9 q.1)
    rw [h2]
    exact h1
def MonoF {ρ : Type} (fn : FN ρ) : Prop := ∀ (a : List Int) (h : Hp) (k : Int → Hp → Option ρ) (r : ρ), fn a h k = some r → ∃ (v : Int) (h' : Hp), k v h' = some r ∧ nOf h ≤ nOf h'
theorem tsl_any {ρ : Type} {x : Int} {pc : Nat} {j : Nat → Option ρ} {d : Int} {r : ρ} : ∀ {l : List Int} {i : Int}, tsl x pc j d l i = some r → ∃ t, j t = some r
  | [], _, h => ⟨_, h⟩
  | o :: os, i, h => by
    unfold tsl at h
    split at h
    · exact ⟨_, h⟩
    · exact tsl_any h
theorem lsl_any {ρ : Type} {x : Int} {pc : Nat} {j : Nat → Option ρ} {d : Int} {r : ρ} : ∀ {l : List (Int × Int)}, lsl x pc j d l = some r → ∃ t, j t = some r
  | [], h => ⟨_, h⟩
  | (i, o) :: os, h => by
    unfold lsl at h
    split at h
    · exact ⟨_, h⟩
    · exact lsl_any h
theorem flt1_some {ρ : Type} {i : Nat} {r : ρ} : ∀ {L : Lc} {K : Lc → Option ρ}, flt1 L i K = some r → ∃ L', K L' = some r
  | [], K, h => ⟨_, h⟩
  | (j, v) :: t, K, h => by
    unfold flt1 at h
    split at h
    · obtain ⟨L', h⟩ := flt1_some h
      exact ⟨_, h⟩
    · exact flt1_some h
theorem flt2_some {ρ : Type} {i : Nat} {r : ρ} : ∀ {L : Lc} {K : Lc → Option ρ}, flt2 L i K = some r → ∃ L', K L' = some r
  | [], K, h => ⟨_, h⟩
  | (j, v) :: t, K, h => by
    unfold flt2 at h
    split at h
    · obtain ⟨L', h⟩ := flt2_some h
      exact ⟨_, h⟩
    · exact flt2_some h
section
variable {ρ : Type} {fs : List (FN ρ)} {fin : Int → Hp → Option ρ} {r : ρ}
set_option maxHeartbeats 4000000 in
theorem sem_mono {Bd : Hp → Prop} {ins : Instr} {res : List Nat} {rv : Int} {pc : Nat} {k : Lc → List AV → Hp → Option ρ} {j : Nat → Lc → List AV → Hp → Option ρ} {L : Lc} {S : List AV} {h : Hp} (hB : ∀ h h', nOf h ≤ nOf h' → Bd h' → Bd h) (hf : ∀ (f : Nat) (fn : FN ρ), fs[f]? = some fn → MonoF fn) (hfin : ∀ v h', fin v h' = some r → Bd h') (hk : ∀ L' S' h', k L' S' h' = some r → Bd h') (hj : ∀ t L' S' h', j t L' S' h' = some r → Bd h') (H : sem true fs fin ins res rv pc k j L S h = some r) : Bd h := by
  have hcall : ∀ (fn : FN ρ) (f rt : Nat) (a : List Int) (rr : List AV), fs[f]? = some fn → fn a h (fun v h' => match rt with
        | 0 => k L rr h'
        | t + 1 => k L ((t, v) :: rr) h') = some r → Bd h := fun fn f rt a rr hfn H9 => by
    obtain ⟨v, h', H8, hm⟩ := hf f fn hfn _ _ _ _ H9
    cases rt with
    | zero => exact hB _ _ hm (hk _ _ _ H8)
    | succ t => exact hB _ _ hm (hk _ _ _ H8)
  cases ins
  case iload i =>
    obtain ⟨_, _, _, H⟩ := ldT_some H
    exact hk _ _ _ H
  case iload_n i =>
    obtain ⟨_, _, _, H⟩ := ldT_some H
    exact hk _ _ _ H
  case lload i =>
    obtain ⟨_, _, _, H⟩ := ldT_some H
    exact hk _ _ _ H
  case lload_n i =>
    obtain ⟨_, _, _, H⟩ := ldT_some H
    exact hk _ _ _ H
  case aload i =>
    obtain ⟨_, _, _, _, _, H⟩ := ldR_some H
    exact hk _ _ _ H
  case aload_n i =>
    obtain ⟨_, _, _, _, _, H⟩ := ldR_some H
    exact hk _ _ _ H
  case istore i =>
    unfold sem at H
    dsimp only at H
    split at H
    · obtain ⟨_, H⟩ := flt1_some H
      exact hk _ _ _ H
    · cases H
  case istore_n i =>
    unfold sem at H
    dsimp only at H
    split at H
    · obtain ⟨_, H⟩ := flt1_some H
      exact hk _ _ _ H
    · cases H
  case lstore i =>
    unfold sem at H
    dsimp only at H
    split at H
    · obtain ⟨_, H⟩ := flt2_some H
      exact hk _ _ _ H
    · cases H
  case lstore_n i =>
    unfold sem at H
    dsimp only at H
    split at H
    · obtain ⟨_, H⟩ := flt2_some H
      exact hk _ _ _ H
    · cases H
  case astore i =>
    unfold sem at H
    dsimp only at H
    split at H
    · split at H
      · obtain ⟨_, H⟩ := flt1_some H
        exact hk _ _ _ H
      · cases H
    · cases H
  case astore_n i =>
    unfold sem at H
    dsimp only at H
    split at H
    · split at H
      · obtain ⟨_, H⟩ := flt1_some H
        exact hk _ _ _ H
      · cases H
    · cases H
  case iinc i c =>
    obtain ⟨_, _, _, H⟩ := ldT_some H
    obtain ⟨_, H⟩ := flt1_some H
    exact hk _ _ _ H
  case iconst c =>
    exact hk _ _ _ H
  case bipush c =>
    exact hk _ _ _ H
  case sipush c =>
    exact hk _ _ _ H
  case lconst c =>
    exact hk _ _ _ H
  case ldc_w i =>
    exact hk _ _ _ H
  case ldc2_w i =>
    exact hk _ _ _ H
  case goto o =>
    exact hj _ _ _ _ H
  case tableswitch d l h offs =>
    unfold sem at H
    dsimp only at H
    split at H
    · obtain ⟨_, H⟩ := tsl_any H
      exact hj _ _ _ _ H
    · cases H
  case lookupswitch d ps =>
    unfold sem at H
    dsimp only at H
    split at H
    · obtain ⟨_, H⟩ := lsl_any H
      exact hj _ _ _ _ H
    · cases H
  case invokevirtual i =>
    unfold sem at H
    dsimp only at H
    split at H
    · obtain ⟨_, _, _, _, H⟩ := popA_some H
      split at H
      · obtain ⟨fn, hfn, H⟩ := nthF_some (nn_some H).2
        exact hcall fn _ _ _ _ hfn H
      · cases H
    · cases H
  case invokestatic i =>
    unfold sem at H
    dsimp only at H
    split at H
    · obtain ⟨_, _, _, _, H⟩ := popA_some H
      split at H
      · obtain ⟨fn, hfn, H⟩ := nthF_some H
        exact hcall fn _ _ _ _ hfn H
      · cases H
    · cases H
  case invokespecial i =>
    unfold sem at H
    dsimp only at H
    split at H
    · rename_i rt f kd9 x1 x2 ts
      cases kd9 with
      | zero =>
        replace H : (match (generalizing := false) S with
          | (t, o) :: r9 => match (generalizing := false) Nat.ble 4 t && Nat.ble (dpt r9) 8 && decide (0 ≤ o) with
            | true => k L r9 h
            | false => none
          | _ => none) = some r := H
        split at H
        · split at H
          · exact hk _ _ _ H
          · cases H
        · cases H
      | succ kd9 =>
        replace H : popA ts S [] (fun a r9 => match (generalizing := false) Nat.ble (dpt r9) 8 && true with
          | true => nn true (a.headD 0) (nthF fs f (fun fn => fn a h (fun v h' => match (generalizing := false) rt with
            | 0 => k L r9 h'
            | t + 1 => k L ((t, v) :: r9) h')))
          | false => none) = some r := H
        obtain ⟨_, _, _, _, H⟩ := popA_some H
        split at H
        · obtain ⟨fn, hfn, H⟩ := nthF_some (nn_some H).2
          exact hcall fn _ _ _ _ hfn H
        · cases H
    · cases H
  case iadd =>
    unfold sem at H
    dsimp only at H
    repeat' split at H
    all_goals first
      | (cases H; done)
      | exact hk _ _ _ H
      | exact hj _ _ _ _ H
      | exact hfin _ _ H
      | exact hk _ _ _ (grd_some H).2
      | exact hfin _ _ (grd_some H).2
      | exact hk _ _ _ (nn_some H).2
      | exact hk _ _ _ (grd_some (nn_some H).2).2
      | exact hB _ _ (nOf_upL ((nn_some H).1 rfl)) (hk _ _ _ (nn_some H).2)
      | exact hB _ _ (nOf_upL ((nn_some H).1 rfl)) (hk _ _ _ (grd_some (nn_some H).2).2)
      | exact hB _ _ nOf_alc_le (hk _ _ _ H)
      | exact hB _ _ nOf_alcm_le (hk _ _ _ H)
  case isub =>
    unfold sem at H
    dsimp only at H
    repeat' split at H
    all_goals first
      | (cases H; done)
      | exact hk _ _ _ H
      | exact hj _ _ _ _ H
      | exact hfin _ _ H
      | exact hk _ _ _ (grd_some H).2
      | exact hfin _ _ (grd_some H).2
      | exact hk _ _ _ (nn_some H).2
      | exact hk _ _ _ (grd_some (nn_some H).2).2
      | exact hB _ _ (nOf_upL ((nn_some H).1 rfl)) (hk _ _ _ (nn_some H).2)
      | exact hB _ _ (nOf_upL ((nn_some H).1 rfl)) (hk _ _ _ (grd_some (nn_some H).2).2)
      | exact hB _ _ nOf_alc_le (hk _ _ _ H)
      | exact hB _ _ nOf_alcm_le (hk _ _ _ H)
  case imul =>
    unfold sem at H
    dsimp only at H
    repeat' split at H
    all_goals first
      | (cases H; done)
      | exact hk _ _ _ H
      | exact hj _ _ _ _ H
      | exact hfin _ _ H
      | exact hk _ _ _ (grd_some H).2
      | exact hfin _ _ (grd_some H).2
      | exact hk _ _ _ (nn_some H).2
      | exact hk _ _ _ (grd_some (nn_some H).2).2
      | exact hB _ _ (nOf_upL ((nn_some H).1 rfl)) (hk _ _ _ (nn_some H).2)
      | exact hB _ _ (nOf_upL ((nn_some H).1 rfl)) (hk _ _ _ (grd_some (nn_some H).2).2)
      | exact hB _ _ nOf_alc_le (hk _ _ _ H)
      | exact hB _ _ nOf_alcm_le (hk _ _ _ H)
  case ladd =>
    unfold sem at H
    dsimp only at H
    repeat' split at H
    all_goals first
      | (cases H; done)
      | exact hk _ _ _ H
      | exact hj _ _ _ _ H
      | exact hfin _ _ H
      | exact hk _ _ _ (grd_some H).2
      | exact hfin _ _ (grd_some H).2
      | exact hk _ _ _ (nn_some H).2
      | exact hk _ _ _ (grd_some (nn_some H).2).2
      | exact hB _ _ (nOf_upL ((nn_some H).1 rfl)) (hk _ _ _ (nn_some H).2)
      | exact hB _ _ (nOf_upL ((nn_some H).1 rfl)) (hk _ _ _ (grd_some (nn_some H).2).2)
      | exact hB _ _ nOf_alc_le (hk _ _ _ H)
      | exact hB _ _ nOf_alcm_le (hk _ _ _ H)
  case lsub =>
    unfold sem at H
    dsimp only at H
    repeat' split at H
    all_goals first
      | (cases H; done)
      | exact hk _ _ _ H
      | exact hj _ _ _ _ H
      | exact hfin _ _ H
      | exact hk _ _ _ (grd_some H).2
      | exact hfin _ _ (grd_some H).2
      | exact hk _ _ _ (nn_some H).2
      | exact hk _ _ _ (grd_some (nn_some H).2).2
      | exact hB _ _ (nOf_upL ((nn_some H).1 rfl)) (hk _ _ _ (nn_some H).2)
      | exact hB _ _ (nOf_upL ((nn_some H).1 rfl)) (hk _ _ _ (grd_some (nn_some H).2).2)
      | exact hB _ _ nOf_alc_le (hk _ _ _ H)
      | exact hB _ _ nOf_alcm_le (hk _ _ _ H)
  case lmul =>
    unfold sem at H
    dsimp only at H
    repeat' split at H
    all_goals first
      | (cases H; done)
      | exact hk _ _ _ H
      | exact hj _ _ _ _ H
      | exact hfin _ _ H
      | exact hk _ _ _ (grd_some H).2
      | exact hfin _ _ (grd_some H).2
      | exact hk _ _ _ (nn_some H).2
      | exact hk _ _ _ (grd_some (nn_some H).2).2
      | exact hB _ _ (nOf_upL ((nn_some H).1 rfl)) (hk _ _ _ (nn_some H).2)
      | exact hB _ _ (nOf_upL ((nn_some H).1 rfl)) (hk _ _ _ (grd_some (nn_some H).2).2)
      | exact hB _ _ nOf_alc_le (hk _ _ _ H)
      | exact hB _ _ nOf_alcm_le (hk _ _ _ H)
  case ineg =>
    unfold sem at H
    dsimp only at H
    repeat' split at H
    all_goals first
      | (cases H; done)
      | exact hk _ _ _ H
      | exact hj _ _ _ _ H
      | exact hfin _ _ H
      | exact hk _ _ _ (grd_some H).2
      | exact hfin _ _ (grd_some H).2
      | exact hk _ _ _ (nn_some H).2
      | exact hk _ _ _ (grd_some (nn_some H).2).2
      | exact hB _ _ (nOf_upL ((nn_some H).1 rfl)) (hk _ _ _ (nn_some H).2)
      | exact hB _ _ (nOf_upL ((nn_some H).1 rfl)) (hk _ _ _ (grd_some (nn_some H).2).2)
      | exact hB _ _ nOf_alc_le (hk _ _ _ H)
      | exact hB _ _ nOf_alcm_le (hk _ _ _ H)
  case lneg =>
    unfold sem at H
    dsimp only at H
    repeat' split at H
    all_goals first
      | (cases H; done)
      | exact hk _ _ _ H
      | exact hj _ _ _ _ H
      | exact hfin _ _ H
      | exact hk _ _ _ (grd_some H).2
      | exact hfin _ _ (grd_some H).2
      | exact hk _ _ _ (nn_some H).2
      | exact hk _ _ _ (grd_some (nn_some H).2).2
      | exact hB _ _ (nOf_upL ((nn_some H).1 rfl)) (hk _ _ _ (nn_some H).2)
      | exact hB _ _ (nOf_upL ((nn_some H).1 rfl)) (hk _ _ _ (grd_some (nn_some H).2).2)
      | exact hB _ _ nOf_alc_le (hk _ _ _ H)
      | exact hB _ _ nOf_alcm_le (hk _ _ _ H)
  case iand =>
    unfold sem at H
    dsimp only at H
    repeat' split at H
    all_goals first
      | (cases H; done)
      | exact hk _ _ _ H
      | exact hj _ _ _ _ H
      | exact hfin _ _ H
      | exact hk _ _ _ (grd_some H).2
      | exact hfin _ _ (grd_some H).2
      | exact hk _ _ _ (nn_some H).2
      | exact hk _ _ _ (grd_some (nn_some H).2).2
      | exact hB _ _ (nOf_upL ((nn_some H).1 rfl)) (hk _ _ _ (nn_some H).2)
      | exact hB _ _ (nOf_upL ((nn_some H).1 rfl)) (hk _ _ _ (grd_some (nn_some H).2).2)
      | exact hB _ _ nOf_alc_le (hk _ _ _ H)
      | exact hB _ _ nOf_alcm_le (hk _ _ _ H)
  case ior =>
    unfold sem at H
    dsimp only at H
    repeat' split at H
    all_goals first
      | (cases H; done)
      | exact hk _ _ _ H
      | exact hj _ _ _ _ H
      | exact hfin _ _ H
      | exact hk _ _ _ (grd_some H).2
      | exact hfin _ _ (grd_some H).2
      | exact hk _ _ _ (nn_some H).2
      | exact hk _ _ _ (grd_some (nn_some H).2).2
      | exact hB _ _ (nOf_upL ((nn_some H).1 rfl)) (hk _ _ _ (nn_some H).2)
      | exact hB _ _ (nOf_upL ((nn_some H).1 rfl)) (hk _ _ _ (grd_some (nn_some H).2).2)
      | exact hB _ _ nOf_alc_le (hk _ _ _ H)
      | exact hB _ _ nOf_alcm_le (hk _ _ _ H)
  case ishl =>
    unfold sem at H
    dsimp only at H
    repeat' split at H
    all_goals first
      | (cases H; done)
      | exact hk _ _ _ H
      | exact hj _ _ _ _ H
      | exact hfin _ _ H
      | exact hk _ _ _ (grd_some H).2
      | exact hfin _ _ (grd_some H).2
      | exact hk _ _ _ (nn_some H).2
      | exact hk _ _ _ (grd_some (nn_some H).2).2
      | exact hB _ _ (nOf_upL ((nn_some H).1 rfl)) (hk _ _ _ (nn_some H).2)
      | exact hB _ _ (nOf_upL ((nn_some H).1 rfl)) (hk _ _ _ (grd_some (nn_some H).2).2)
      | exact hB _ _ nOf_alc_le (hk _ _ _ H)
      | exact hB _ _ nOf_alcm_le (hk _ _ _ H)
  case ishr =>
    unfold sem at H
    dsimp only at H
    repeat' split at H
    all_goals first
      | (cases H; done)
      | exact hk _ _ _ H
      | exact hj _ _ _ _ H
      | exact hfin _ _ H
      | exact hk _ _ _ (grd_some H).2
      | exact hfin _ _ (grd_some H).2
      | exact hk _ _ _ (nn_some H).2
      | exact hk _ _ _ (grd_some (nn_some H).2).2
      | exact hB _ _ (nOf_upL ((nn_some H).1 rfl)) (hk _ _ _ (nn_some H).2)
      | exact hB _ _ (nOf_upL ((nn_some H).1 rfl)) (hk _ _ _ (grd_some (nn_some H).2).2)
      | exact hB _ _ nOf_alc_le (hk _ _ _ H)
      | exact hB _ _ nOf_alcm_le (hk _ _ _ H)
  case iushr =>
    unfold sem at H
    dsimp only at H
    repeat' split at H
    all_goals first
      | (cases H; done)
      | exact hk _ _ _ H
      | exact hj _ _ _ _ H
      | exact hfin _ _ H
      | exact hk _ _ _ (grd_some H).2
      | exact hfin _ _ (grd_some H).2
      | exact hk _ _ _ (nn_some H).2
      | exact hk _ _ _ (grd_some (nn_some H).2).2
      | exact hB _ _ (nOf_upL ((nn_some H).1 rfl)) (hk _ _ _ (nn_some H).2)
      | exact hB _ _ (nOf_upL ((nn_some H).1 rfl)) (hk _ _ _ (grd_some (nn_some H).2).2)
      | exact hB _ _ nOf_alc_le (hk _ _ _ H)
      | exact hB _ _ nOf_alcm_le (hk _ _ _ H)
  case lshl =>
    unfold sem at H
    dsimp only at H
    repeat' split at H
    all_goals first
      | (cases H; done)
      | exact hk _ _ _ H
      | exact hj _ _ _ _ H
      | exact hfin _ _ H
      | exact hk _ _ _ (grd_some H).2
      | exact hfin _ _ (grd_some H).2
      | exact hk _ _ _ (nn_some H).2
      | exact hk _ _ _ (grd_some (nn_some H).2).2
      | exact hB _ _ (nOf_upL ((nn_some H).1 rfl)) (hk _ _ _ (nn_some H).2)
      | exact hB _ _ (nOf_upL ((nn_some H).1 rfl)) (hk _ _ _ (grd_some (nn_some H).2).2)
      | exact hB _ _ nOf_alc_le (hk _ _ _ H)
      | exact hB _ _ nOf_alcm_le (hk _ _ _ H)
  case lshr =>
    unfold sem at H
    dsimp only at H
    repeat' split at H
    all_goals first
      | (cases H; done)
      | exact hk _ _ _ H
      | exact hj _ _ _ _ H
      | exact hfin _ _ H
      | exact hk _ _ _ (grd_some H).2
      | exact hfin _ _ (grd_some H).2
      | exact hk _ _ _ (nn_some H).2
      | exact hk _ _ _ (grd_some (nn_some H).2).2
      | exact hB _ _ (nOf_upL ((nn_some H).1 rfl)) (hk _ _ _ (nn_some H).2)
      | exact hB _ _ (nOf_upL ((nn_some H).1 rfl)) (hk _ _ _ (grd_some (nn_some H).2).2)
      | exact hB _ _ nOf_alc_le (hk _ _ _ H)
      | exact hB _ _ nOf_alcm_le (hk _ _ _ H)
  case lushr =>
    unfold sem at H
    dsimp only at H
    repeat' split at H
    all_goals first
      | (cases H; done)
      | exact hk _ _ _ H
      | exact hj _ _ _ _ H
      | exact hfin _ _ H
      | exact hk _ _ _ (grd_some H).2
      | exact hfin _ _ (grd_some H).2
      | exact hk _ _ _ (nn_some H).2
      | exact hk _ _ _ (grd_some (nn_some H).2).2
      | exact hB _ _ (nOf_upL ((nn_some H).1 rfl)) (hk _ _ _ (nn_some H).2)
      | exact hB _ _ (nOf_upL ((nn_some H).1 rfl)) (hk _ _ _ (grd_some (nn_some H).2).2)
      | exact hB _ _ nOf_alc_le (hk _ _ _ H)
      | exact hB _ _ nOf_alcm_le (hk _ _ _ H)
  case lor =>
    unfold sem at H
    dsimp only at H
    repeat' split at H
    all_goals first
      | (cases H; done)
      | exact hk _ _ _ H
      | exact hj _ _ _ _ H
      | exact hfin _ _ H
      | exact hk _ _ _ (grd_some H).2
      | exact hfin _ _ (grd_some H).2
      | exact hk _ _ _ (nn_some H).2
      | exact hk _ _ _ (grd_some (nn_some H).2).2
      | exact hB _ _ (nOf_upL ((nn_some H).1 rfl)) (hk _ _ _ (nn_some H).2)
      | exact hB _ _ (nOf_upL ((nn_some H).1 rfl)) (hk _ _ _ (grd_some (nn_some H).2).2)
      | exact hB _ _ nOf_alc_le (hk _ _ _ H)
      | exact hB _ _ nOf_alcm_le (hk _ _ _ H)
  case lcmp =>
    unfold sem at H
    dsimp only at H
    repeat' split at H
    all_goals first
      | (cases H; done)
      | exact hk _ _ _ H
      | exact hj _ _ _ _ H
      | exact hfin _ _ H
      | exact hk _ _ _ (grd_some H).2
      | exact hfin _ _ (grd_some H).2
      | exact hk _ _ _ (nn_some H).2
      | exact hk _ _ _ (grd_some (nn_some H).2).2
      | exact hB _ _ (nOf_upL ((nn_some H).1 rfl)) (hk _ _ _ (nn_some H).2)
      | exact hB _ _ (nOf_upL ((nn_some H).1 rfl)) (hk _ _ _ (grd_some (nn_some H).2).2)
      | exact hB _ _ nOf_alc_le (hk _ _ _ H)
      | exact hB _ _ nOf_alcm_le (hk _ _ _ H)
  case i2l =>
    unfold sem at H
    dsimp only at H
    repeat' split at H
    all_goals first
      | (cases H; done)
      | exact hk _ _ _ H
      | exact hj _ _ _ _ H
      | exact hfin _ _ H
      | exact hk _ _ _ (grd_some H).2
      | exact hfin _ _ (grd_some H).2
      | exact hk _ _ _ (nn_some H).2
      | exact hk _ _ _ (grd_some (nn_some H).2).2
      | exact hB _ _ (nOf_upL ((nn_some H).1 rfl)) (hk _ _ _ (nn_some H).2)
      | exact hB _ _ (nOf_upL ((nn_some H).1 rfl)) (hk _ _ _ (grd_some (nn_some H).2).2)
      | exact hB _ _ nOf_alc_le (hk _ _ _ H)
      | exact hB _ _ nOf_alcm_le (hk _ _ _ H)
  case l2i =>
    unfold sem at H
    dsimp only at H
    repeat' split at H
    all_goals first
      | (cases H; done)
      | exact hk _ _ _ H
      | exact hj _ _ _ _ H
      | exact hfin _ _ H
      | exact hk _ _ _ (grd_some H).2
      | exact hfin _ _ (grd_some H).2
      | exact hk _ _ _ (nn_some H).2
      | exact hk _ _ _ (grd_some (nn_some H).2).2
      | exact hB _ _ (nOf_upL ((nn_some H).1 rfl)) (hk _ _ _ (nn_some H).2)
      | exact hB _ _ (nOf_upL ((nn_some H).1 rfl)) (hk _ _ _ (grd_some (nn_some H).2).2)
      | exact hB _ _ nOf_alc_le (hk _ _ _ H)
      | exact hB _ _ nOf_alcm_le (hk _ _ _ H)
  case i2b =>
    unfold sem at H
    dsimp only at H
    repeat' split at H
    all_goals first
      | (cases H; done)
      | exact hk _ _ _ H
      | exact hj _ _ _ _ H
      | exact hfin _ _ H
      | exact hk _ _ _ (grd_some H).2
      | exact hfin _ _ (grd_some H).2
      | exact hk _ _ _ (nn_some H).2
      | exact hk _ _ _ (grd_some (nn_some H).2).2
      | exact hB _ _ (nOf_upL ((nn_some H).1 rfl)) (hk _ _ _ (nn_some H).2)
      | exact hB _ _ (nOf_upL ((nn_some H).1 rfl)) (hk _ _ _ (grd_some (nn_some H).2).2)
      | exact hB _ _ nOf_alc_le (hk _ _ _ H)
      | exact hB _ _ nOf_alcm_le (hk _ _ _ H)
  case idiv =>
    unfold sem at H
    dsimp only at H
    repeat' split at H
    all_goals first
      | (cases H; done)
      | exact hk _ _ _ H
      | exact hj _ _ _ _ H
      | exact hfin _ _ H
      | exact hk _ _ _ (grd_some H).2
      | exact hfin _ _ (grd_some H).2
      | exact hk _ _ _ (nn_some H).2
      | exact hk _ _ _ (grd_some (nn_some H).2).2
      | exact hB _ _ (nOf_upL ((nn_some H).1 rfl)) (hk _ _ _ (nn_some H).2)
      | exact hB _ _ (nOf_upL ((nn_some H).1 rfl)) (hk _ _ _ (grd_some (nn_some H).2).2)
      | exact hB _ _ nOf_alc_le (hk _ _ _ H)
      | exact hB _ _ nOf_alcm_le (hk _ _ _ H)
  case ldiv =>
    unfold sem at H
    dsimp only at H
    repeat' split at H
    all_goals first
      | (cases H; done)
      | exact hk _ _ _ H
      | exact hj _ _ _ _ H
      | exact hfin _ _ H
      | exact hk _ _ _ (grd_some H).2
      | exact hfin _ _ (grd_some H).2
      | exact hk _ _ _ (nn_some H).2
      | exact hk _ _ _ (grd_some (nn_some H).2).2
      | exact hB _ _ (nOf_upL ((nn_some H).1 rfl)) (hk _ _ _ (nn_some H).2)
      | exact hB _ _ (nOf_upL ((nn_some H).1 rfl)) (hk _ _ _ (grd_some (nn_some H).2).2)
      | exact hB _ _ nOf_alc_le (hk _ _ _ H)
      | exact hB _ _ nOf_alcm_le (hk _ _ _ H)
  case irem =>
    unfold sem at H
    dsimp only at H
    repeat' split at H
    all_goals first
      | (cases H; done)
      | exact hk _ _ _ H
      | exact hj _ _ _ _ H
      | exact hfin _ _ H
      | exact hk _ _ _ (grd_some H).2
      | exact hfin _ _ (grd_some H).2
      | exact hk _ _ _ (nn_some H).2
      | exact hk _ _ _ (grd_some (nn_some H).2).2
      | exact hB _ _ (nOf_upL ((nn_some H).1 rfl)) (hk _ _ _ (nn_some H).2)
      | exact hB _ _ (nOf_upL ((nn_some H).1 rfl)) (hk _ _ _ (grd_some (nn_some H).2).2)
      | exact hB _ _ nOf_alc_le (hk _ _ _ H)
      | exact hB _ _ nOf_alcm_le (hk _ _ _ H)
  case dup =>
    unfold sem at H
    dsimp only at H
    repeat' split at H
    all_goals first
      | (cases H; done)
      | exact hk _ _ _ H
      | exact hj _ _ _ _ H
      | exact hfin _ _ H
      | exact hk _ _ _ (grd_some H).2
      | exact hfin _ _ (grd_some H).2
      | exact hk _ _ _ (nn_some H).2
      | exact hk _ _ _ (grd_some (nn_some H).2).2
      | exact hB _ _ (nOf_upL ((nn_some H).1 rfl)) (hk _ _ _ (nn_some H).2)
      | exact hB _ _ (nOf_upL ((nn_some H).1 rfl)) (hk _ _ _ (grd_some (nn_some H).2).2)
      | exact hB _ _ nOf_alc_le (hk _ _ _ H)
      | exact hB _ _ nOf_alcm_le (hk _ _ _ H)
  case dup2 =>
    unfold sem at H
    dsimp only at H
    repeat' split at H
    all_goals first
      | (cases H; done)
      | exact hk _ _ _ H
      | exact hj _ _ _ _ H
      | exact hfin _ _ H
      | exact hk _ _ _ (grd_some H).2
      | exact hfin _ _ (grd_some H).2
      | exact hk _ _ _ (nn_some H).2
      | exact hk _ _ _ (grd_some (nn_some H).2).2
      | exact hB _ _ (nOf_upL ((nn_some H).1 rfl)) (hk _ _ _ (nn_some H).2)
      | exact hB _ _ (nOf_upL ((nn_some H).1 rfl)) (hk _ _ _ (grd_some (nn_some H).2).2)
      | exact hB _ _ nOf_alc_le (hk _ _ _ H)
      | exact hB _ _ nOf_alcm_le (hk _ _ _ H)
  case pop =>
    unfold sem at H
    dsimp only at H
    repeat' split at H
    all_goals first
      | (cases H; done)
      | exact hk _ _ _ H
      | exact hj _ _ _ _ H
      | exact hfin _ _ H
      | exact hk _ _ _ (grd_some H).2
      | exact hfin _ _ (grd_some H).2
      | exact hk _ _ _ (nn_some H).2
      | exact hk _ _ _ (grd_some (nn_some H).2).2
      | exact hB _ _ (nOf_upL ((nn_some H).1 rfl)) (hk _ _ _ (nn_some H).2)
      | exact hB _ _ (nOf_upL ((nn_some H).1 rfl)) (hk _ _ _ (grd_some (nn_some H).2).2)
      | exact hB _ _ nOf_alc_le (hk _ _ _ H)
      | exact hB _ _ nOf_alcm_le (hk _ _ _ H)
  case ireturn =>
    unfold sem at H
    dsimp only at H
    repeat' split at H
    all_goals first
      | (cases H; done)
      | exact hk _ _ _ H
      | exact hj _ _ _ _ H
      | exact hfin _ _ H
      | exact hk _ _ _ (grd_some H).2
      | exact hfin _ _ (grd_some H).2
      | exact hk _ _ _ (nn_some H).2
      | exact hk _ _ _ (grd_some (nn_some H).2).2
      | exact hB _ _ (nOf_upL ((nn_some H).1 rfl)) (hk _ _ _ (nn_some H).2)
      | exact hB _ _ (nOf_upL ((nn_some H).1 rfl)) (hk _ _ _ (grd_some (nn_some H).2).2)
      | exact hB _ _ nOf_alc_le (hk _ _ _ H)
      | exact hB _ _ nOf_alcm_le (hk _ _ _ H)
  case lreturn =>
    unfold sem at H
    dsimp only at H
    repeat' split at H
    all_goals first
      | (cases H; done)
      | exact hk _ _ _ H
      | exact hj _ _ _ _ H
      | exact hfin _ _ H
      | exact hk _ _ _ (grd_some H).2
      | exact hfin _ _ (grd_some H).2
      | exact hk _ _ _ (nn_some H).2
      | exact hk _ _ _ (grd_some (nn_some H).2).2
      | exact hB _ _ (nOf_upL ((nn_some H).1 rfl)) (hk _ _ _ (nn_some H).2)
      | exact hB _ _ (nOf_upL ((nn_some H).1 rfl)) (hk _ _ _ (grd_some (nn_some H).2).2)
      | exact hB _ _ nOf_alc_le (hk _ _ _ H)
      | exact hB _ _ nOf_alcm_le (hk _ _ _ H)
  case areturn =>
    unfold sem at H
    dsimp only at H
    repeat' split at H
    all_goals first
      | (cases H; done)
      | exact hk _ _ _ H
      | exact hj _ _ _ _ H
      | exact hfin _ _ H
      | exact hk _ _ _ (grd_some H).2
      | exact hfin _ _ (grd_some H).2
      | exact hk _ _ _ (nn_some H).2
      | exact hk _ _ _ (grd_some (nn_some H).2).2
      | exact hB _ _ (nOf_upL ((nn_some H).1 rfl)) (hk _ _ _ (nn_some H).2)
      | exact hB _ _ (nOf_upL ((nn_some H).1 rfl)) (hk _ _ _ (grd_some (nn_some H).2).2)
      | exact hB _ _ nOf_alc_le (hk _ _ _ H)
      | exact hB _ _ nOf_alcm_le (hk _ _ _ H)
  case return_ =>
    unfold sem at H
    dsimp only at H
    repeat' split at H
    all_goals first
      | (cases H; done)
      | exact hk _ _ _ H
      | exact hj _ _ _ _ H
      | exact hfin _ _ H
      | exact hk _ _ _ (grd_some H).2
      | exact hfin _ _ (grd_some H).2
      | exact hk _ _ _ (nn_some H).2
      | exact hk _ _ _ (grd_some (nn_some H).2).2
      | exact hB _ _ (nOf_upL ((nn_some H).1 rfl)) (hk _ _ _ (nn_some H).2)
      | exact hB _ _ (nOf_upL ((nn_some H).1 rfl)) (hk _ _ _ (grd_some (nn_some H).2).2)
      | exact hB _ _ nOf_alc_le (hk _ _ _ H)
      | exact hB _ _ nOf_alcm_le (hk _ _ _ H)
  case iaload =>
    unfold sem at H
    dsimp only at H
    repeat' split at H
    all_goals first
      | (cases H; done)
      | exact hk _ _ _ H
      | exact hj _ _ _ _ H
      | exact hfin _ _ H
      | exact hk _ _ _ (grd_some H).2
      | exact hfin _ _ (grd_some H).2
      | exact hk _ _ _ (nn_some H).2
      | exact hk _ _ _ (grd_some (nn_some H).2).2
      | exact hB _ _ (nOf_upL ((nn_some H).1 rfl)) (hk _ _ _ (nn_some H).2)
      | exact hB _ _ (nOf_upL ((nn_some H).1 rfl)) (hk _ _ _ (grd_some (nn_some H).2).2)
      | exact hB _ _ nOf_alc_le (hk _ _ _ H)
      | exact hB _ _ nOf_alcm_le (hk _ _ _ H)
  case laload =>
    unfold sem at H
    dsimp only at H
    repeat' split at H
    all_goals first
      | (cases H; done)
      | exact hk _ _ _ H
      | exact hj _ _ _ _ H
      | exact hfin _ _ H
      | exact hk _ _ _ (grd_some H).2
      | exact hfin _ _ (grd_some H).2
      | exact hk _ _ _ (nn_some H).2
      | exact hk _ _ _ (grd_some (nn_some H).2).2
      | exact hB _ _ (nOf_upL ((nn_some H).1 rfl)) (hk _ _ _ (nn_some H).2)
      | exact hB _ _ (nOf_upL ((nn_some H).1 rfl)) (hk _ _ _ (grd_some (nn_some H).2).2)
      | exact hB _ _ nOf_alc_le (hk _ _ _ H)
      | exact hB _ _ nOf_alcm_le (hk _ _ _ H)
  case baload =>
    unfold sem at H
    dsimp only at H
    repeat' split at H
    all_goals first
      | (cases H; done)
      | exact hk _ _ _ H
      | exact hj _ _ _ _ H
      | exact hfin _ _ H
      | exact hk _ _ _ (grd_some H).2
      | exact hfin _ _ (grd_some H).2
      | exact hk _ _ _ (nn_some H).2
      | exact hk _ _ _ (grd_some (nn_some H).2).2
      | exact hB _ _ (nOf_upL ((nn_some H).1 rfl)) (hk _ _ _ (nn_some H).2)
      | exact hB _ _ (nOf_upL ((nn_some H).1 rfl)) (hk _ _ _ (grd_some (nn_some H).2).2)
      | exact hB _ _ nOf_alc_le (hk _ _ _ H)
      | exact hB _ _ nOf_alcm_le (hk _ _ _ H)
  case aaload =>
    unfold sem at H
    dsimp only at H
    repeat' split at H
    all_goals first
      | (cases H; done)
      | exact hk _ _ _ H
      | exact hj _ _ _ _ H
      | exact hfin _ _ H
      | exact hk _ _ _ (grd_some H).2
      | exact hfin _ _ (grd_some H).2
      | exact hk _ _ _ (nn_some H).2
      | exact hk _ _ _ (grd_some (nn_some H).2).2
      | exact hB _ _ (nOf_upL ((nn_some H).1 rfl)) (hk _ _ _ (nn_some H).2)
      | exact hB _ _ (nOf_upL ((nn_some H).1 rfl)) (hk _ _ _ (grd_some (nn_some H).2).2)
      | exact hB _ _ nOf_alc_le (hk _ _ _ H)
      | exact hB _ _ nOf_alcm_le (hk _ _ _ H)
  case iastore =>
    unfold sem at H
    dsimp only at H
    repeat' split at H
    all_goals first
      | (cases H; done)
      | exact hk _ _ _ H
      | exact hj _ _ _ _ H
      | exact hfin _ _ H
      | exact hk _ _ _ (grd_some H).2
      | exact hfin _ _ (grd_some H).2
      | exact hk _ _ _ (nn_some H).2
      | exact hk _ _ _ (grd_some (nn_some H).2).2
      | exact hB _ _ (nOf_upL ((nn_some H).1 rfl)) (hk _ _ _ (nn_some H).2)
      | exact hB _ _ (nOf_upL ((nn_some H).1 rfl)) (hk _ _ _ (grd_some (nn_some H).2).2)
      | exact hB _ _ nOf_alc_le (hk _ _ _ H)
      | exact hB _ _ nOf_alcm_le (hk _ _ _ H)
  case lastore =>
    unfold sem at H
    dsimp only at H
    repeat' split at H
    all_goals first
      | (cases H; done)
      | exact hk _ _ _ H
      | exact hj _ _ _ _ H
      | exact hfin _ _ H
      | exact hk _ _ _ (grd_some H).2
      | exact hfin _ _ (grd_some H).2
      | exact hk _ _ _ (nn_some H).2
      | exact hk _ _ _ (grd_some (nn_some H).2).2
      | exact hB _ _ (nOf_upL ((nn_some H).1 rfl)) (hk _ _ _ (nn_some H).2)
      | exact hB _ _ (nOf_upL ((nn_some H).1 rfl)) (hk _ _ _ (grd_some (nn_some H).2).2)
      | exact hB _ _ nOf_alc_le (hk _ _ _ H)
      | exact hB _ _ nOf_alcm_le (hk _ _ _ H)
  case bastore =>
    unfold sem at H
    dsimp only at H
    repeat' split at H
    all_goals first
      | (cases H; done)
      | exact hk _ _ _ H
      | exact hj _ _ _ _ H
      | exact hfin _ _ H
      | exact hk _ _ _ (grd_some H).2
      | exact hfin _ _ (grd_some H).2
      | exact hk _ _ _ (nn_some H).2
      | exact hk _ _ _ (grd_some (nn_some H).2).2
      | exact hB _ _ (nOf_upL ((nn_some H).1 rfl)) (hk _ _ _ (nn_some H).2)
      | exact hB _ _ (nOf_upL ((nn_some H).1 rfl)) (hk _ _ _ (grd_some (nn_some H).2).2)
      | exact hB _ _ nOf_alc_le (hk _ _ _ H)
      | exact hB _ _ nOf_alcm_le (hk _ _ _ H)
  case aastore =>
    unfold sem at H
    dsimp only at H
    repeat' split at H
    all_goals first
      | (cases H; done)
      | exact hk _ _ _ H
      | exact hj _ _ _ _ H
      | exact hfin _ _ H
      | exact hk _ _ _ (grd_some H).2
      | exact hfin _ _ (grd_some H).2
      | exact hk _ _ _ (nn_some H).2
      | exact hk _ _ _ (grd_some (nn_some H).2).2
      | exact hB _ _ (nOf_upL ((nn_some H).1 rfl)) (hk _ _ _ (nn_some H).2)
      | exact hB _ _ (nOf_upL ((nn_some H).1 rfl)) (hk _ _ _ (grd_some (nn_some H).2).2)
      | exact hB _ _ nOf_alc_le (hk _ _ _ H)
      | exact hB _ _ nOf_alcm_le (hk _ _ _ H)
  case arraylength =>
    unfold sem at H
    dsimp only at H
    repeat' split at H
    all_goals first
      | (cases H; done)
      | exact hk _ _ _ H
      | exact hj _ _ _ _ H
      | exact hfin _ _ H
      | exact hk _ _ _ (grd_some H).2
      | exact hfin _ _ (grd_some H).2
      | exact hk _ _ _ (nn_some H).2
      | exact hk _ _ _ (grd_some (nn_some H).2).2
      | exact hB _ _ (nOf_upL ((nn_some H).1 rfl)) (hk _ _ _ (nn_some H).2)
      | exact hB _ _ (nOf_upL ((nn_some H).1 rfl)) (hk _ _ _ (grd_some (nn_some H).2).2)
      | exact hB _ _ nOf_alc_le (hk _ _ _ H)
      | exact hB _ _ nOf_alcm_le (hk _ _ _ H)
  case ldc i =>
    unfold sem at H
    dsimp only at H
    repeat' split at H
    all_goals first
      | (cases H; done)
      | exact hk _ _ _ H
      | exact hj _ _ _ _ H
      | exact hfin _ _ H
      | exact hk _ _ _ (grd_some H).2
      | exact hfin _ _ (grd_some H).2
      | exact hk _ _ _ (nn_some H).2
      | exact hk _ _ _ (grd_some (nn_some H).2).2
      | exact hB _ _ (nOf_upL ((nn_some H).1 rfl)) (hk _ _ _ (nn_some H).2)
      | exact hB _ _ (nOf_upL ((nn_some H).1 rfl)) (hk _ _ _ (grd_some (nn_some H).2).2)
      | exact hB _ _ nOf_alc_le (hk _ _ _ H)
      | exact hB _ _ nOf_alcm_le (hk _ _ _ H)
  case getfield i =>
    unfold sem at H
    dsimp only at H
    repeat' split at H
    all_goals first
      | (cases H; done)
      | exact hk _ _ _ H
      | exact hj _ _ _ _ H
      | exact hfin _ _ H
      | exact hk _ _ _ (grd_some H).2
      | exact hfin _ _ (grd_some H).2
      | exact hk _ _ _ (nn_some H).2
      | exact hk _ _ _ (grd_some (nn_some H).2).2
      | exact hB _ _ (nOf_upL ((nn_some H).1 rfl)) (hk _ _ _ (nn_some H).2)
      | exact hB _ _ (nOf_upL ((nn_some H).1 rfl)) (hk _ _ _ (grd_some (nn_some H).2).2)
      | exact hB _ _ nOf_alc_le (hk _ _ _ H)
      | exact hB _ _ nOf_alcm_le (hk _ _ _ H)
  case putfield i =>
    unfold sem at H
    dsimp only at H
    repeat' split at H
    all_goals first
      | (cases H; done)
      | exact hk _ _ _ H
      | exact hj _ _ _ _ H
      | exact hfin _ _ H
      | exact hk _ _ _ (grd_some H).2
      | exact hfin _ _ (grd_some H).2
      | exact hk _ _ _ (nn_some H).2
      | exact hk _ _ _ (grd_some (nn_some H).2).2
      | exact hB _ _ (nOf_upL ((nn_some H).1 rfl)) (hk _ _ _ (nn_some H).2)
      | exact hB _ _ (nOf_upL ((nn_some H).1 rfl)) (hk _ _ _ (grd_some (nn_some H).2).2)
      | exact hB _ _ nOf_alc_le (hk _ _ _ H)
      | exact hB _ _ nOf_alcm_le (hk _ _ _ H)
  case new i =>
    unfold sem at H
    dsimp only at H
    repeat' split at H
    all_goals first
      | (cases H; done)
      | exact hk _ _ _ H
      | exact hj _ _ _ _ H
      | exact hfin _ _ H
      | exact hk _ _ _ (grd_some H).2
      | exact hfin _ _ (grd_some H).2
      | exact hk _ _ _ (nn_some H).2
      | exact hk _ _ _ (grd_some (nn_some H).2).2
      | exact hB _ _ (nOf_upL ((nn_some H).1 rfl)) (hk _ _ _ (nn_some H).2)
      | exact hB _ _ (nOf_upL ((nn_some H).1 rfl)) (hk _ _ _ (grd_some (nn_some H).2).2)
      | exact hB _ _ nOf_alc_le (hk _ _ _ H)
      | exact hB _ _ nOf_alcm_le (hk _ _ _ H)
  case newarray i =>
    unfold sem at H
    dsimp only at H
    repeat' split at H
    all_goals first
      | (cases H; done)
      | exact hk _ _ _ H
      | exact hj _ _ _ _ H
      | exact hfin _ _ H
      | exact hk _ _ _ (grd_some H).2
      | exact hfin _ _ (grd_some H).2
      | exact hk _ _ _ (nn_some H).2
      | exact hk _ _ _ (grd_some (nn_some H).2).2
      | exact hB _ _ (nOf_upL ((nn_some H).1 rfl)) (hk _ _ _ (nn_some H).2)
      | exact hB _ _ (nOf_upL ((nn_some H).1 rfl)) (hk _ _ _ (grd_some (nn_some H).2).2)
      | exact hB _ _ nOf_alc_le (hk _ _ _ H)
      | exact hB _ _ nOf_alcm_le (hk _ _ _ H)
  case anewarray i =>
    unfold sem at H
    dsimp only at H
    repeat' split at H
    all_goals first
      | (cases H; done)
      | exact hk _ _ _ H
      | exact hj _ _ _ _ H
      | exact hfin _ _ H
      | exact hk _ _ _ (grd_some H).2
      | exact hfin _ _ (grd_some H).2
      | exact hk _ _ _ (nn_some H).2
      | exact hk _ _ _ (grd_some (nn_some H).2).2
      | exact hB _ _ (nOf_upL ((nn_some H).1 rfl)) (hk _ _ _ (nn_some H).2)
      | exact hB _ _ (nOf_upL ((nn_some H).1 rfl)) (hk _ _ _ (grd_some (nn_some H).2).2)
      | exact hB _ _ nOf_alc_le (hk _ _ _ H)
      | exact hB _ _ nOf_alcm_le (hk _ _ _ H)
  case multianewarray i d =>
    unfold sem at H
    dsimp only at H
    repeat' split at H
    all_goals first
      | (cases H; done)
      | exact hk _ _ _ H
      | exact hj _ _ _ _ H
      | exact hfin _ _ H
      | exact hk _ _ _ (grd_some H).2
      | exact hfin _ _ (grd_some H).2
      | exact hk _ _ _ (nn_some H).2
      | exact hk _ _ _ (grd_some (nn_some H).2).2
      | exact hB _ _ (nOf_upL ((nn_some H).1 rfl)) (hk _ _ _ (nn_some H).2)
      | exact hB _ _ (nOf_upL ((nn_some H).1 rfl)) (hk _ _ _ (grd_some (nn_some H).2).2)
      | exact hB _ _ nOf_alc_le (hk _ _ _ H)
      | exact hB _ _ nOf_alcm_le (hk _ _ _ H)
  case ifCond cn off =>
    unfold sem at H
    dsimp only at H
    split at H
    · cases cn <;> (dsimp only at H; split at H; exact hj _ _ _ _ H; exact hk _ _ _ H)
    · cases H
  case if_icmp cn off =>
    unfold sem at H
    dsimp only at H
    split at H
    · cases cn <;> (dsimp only at H; split at H; exact hj _ _ _ _ H; exact hk _ _ _ H)
    · cases H
  all_goals cases H
variable {K : Nat → Lc → List AV → Hp → Option (Option ρ)} {sd : SD}
theorem seek_some {t : Nat} {kk : List SI → Option ρ} : ∀ {sd : SD}, seek sd t kk = some r → ∃ l, (t, l) ∈ sd ∧ kk l = some r
  | [], h => by cases h
  | (b, l) :: rest, h => by
    unfold seek at h
    split at h
    · rename_i hb
      have := beqn hb
      subst this
      exact ⟨l, List.mem_cons_self, h⟩
    · obtain ⟨l', h1, h2⟩ := seek_some h
      exact ⟨l', List.mem_cons_of_mem _ h1, h2⟩
theorem ent_some {go : List SI → Lc → List AV → Hp → Option ρ} {t : Nat} {L : Lc} {S : List AV} {h : Hp} (H : ent K sd go t L S h = some r) : K t L S h = some (some r) ∨ ∃ l, (t, l) ∈ sd ∧ go l L S h = some r := by
  unfold ent at H
  split at H
  · rename_i x hx
    rw [H] at hx
    exact Or.inl hx
  · exact Or.inr (seek_some H)
theorem go_mono {Bd : Hp → Prop} (hB : ∀ h h', nOf h ≤ nOf h' → Bd h' → Bd h) (hf : ∀ (f : Nat) (fn : FN ρ), fs[f]? = some fn → MonoF fn) (hfin : ∀ v h', fin v h' = some r → Bd h') (hK : ∀ t L S h, K t L S h = some (some r) → Bd h) : ∀ (f : Nat) (l : List SI) (L : Lc) (S : List AV) (h : Hp), go true K fin fs sd f l L S h = some r → Bd h
  | 0, _, _, _, _, H => by cases H
  | _ + 1, [], _, _, _, H => by cases H
  | f + 1, (pc, ins, len, res, rv) :: rr, L, S, h, H => by
    have he : ∀ t L' S' h', ent K sd (go true K fin fs sd f) t L' S' h' = some r → Bd h' := fun t L' S' h' H9 => by
      rcases ent_some H9 with H8 | ⟨l, _, H8⟩
      · exact hK _ _ _ _ H8
      · exact go_mono hB hf hfin hK f l L' S' h' H8
    refine sem_mono hB hf hfin (fun L' S' h' H9 => ?_) he H
    cases rr with
    | nil => exact he _ _ _ _ H9
    | cons y ys => exact go_mono hB hf hfin hK f (y :: ys) L' S' h' H9
end
/-- rows that follow each other, each as the code has it, each with its resolved numbers -/
def blkb (cc : ByteArray) (ok : Nat → Instr → Nat → List Nat → Int → Bool) : Nat → List SI → Bool
  | _, [] => true
  | pc, (p, ins, len, res, rv) :: r => Nat.beq p pc && (match decode cc p with
    | .ok (i, n) => decide (i = ins) && Nat.beq n len
    | _ => false) && ok p ins len res rv && blkb cc ok (p + len) r
def sdb (cc : ByteArray) (ok : Nat → Instr → Nat → List Nat → Int → Bool) (sd : SD) : Bool := sd.all fun x => blkb cc ok x.1 x.2
section
variable {p : Program} {l : Launch} {e : Env} {R : Room} {s : State} {m : MethodId} {args : Array Value} {below : List Frame} {meth : Method} {c : Code}
variable {D : va_G} {ca : Nat → ClassId} {sa : Nat → Nat} {b : Nat} {A : Nat → Prop} {cc : ByteArray} {own : String} {nL : Nat} {z g : Bool} {N : Nat} {xs : Nat → Int32} {n0 : Nat} {h0 : Hp} {ad0 : Nat → Nat} {Q : State → Prop}
variable {ρ : Type} {r : ρ}
theorem go_sound2 {fs : List (FN ρ)} {fin : Int → Hp → Option ρ} {K : Nat → Lc → List AV → Hp → Option (Option ρ)} {sd : SD} {mi : Nat → Mx} {fr lo : Nat} {cals : List Nat} {ini : Bool} {rk : Nat} (hsd : sdb cc (insOK mi own nL fr lo cals ini rk) sd = true) (hini : ini = true → meth.name = "<init>") (hR : fr ≤ R.frames ∧ lo ≤ R.locals) (hn0 : g = false → 148 - n0 ≤ R.cells ∧ slc 148 - slc n0 ≤ R.slots) (hfs : ∀ (f jj : Nat) (fn : FN ρ), cals[f]? = some jj → fs[f]? = some fn → SndF l g (mi jj).1 fn)
    (hfm : g = true → ∀ (f : Nat) (fn : FN ρ), fs[f]? = some fn → MonoF fn) (hfb : g = true → ∀ v h', fin v h' = some r → nOf h' - n0 ≤ R.cells ∧ slc (nOf h') - slc n0 ≤ R.slots) (hKb : g = true → ∀ t L S h', K t L S h' = some (some r) → nOf h' - n0 ≤ R.cells ∧ slc (nOf h') - slc n0 ≤ R.slots) (hret : Rets cc rk fin r (Cfg p l e R s m args below meth c D ca sa b A nL z g n0 h0 ad0 Q)) (hK : ∀ t L S h, K t L S h = some (some r) → Cfg p l e R s m args below meth c D ca sa b A nL z g n0 h0 ad0 Q t L S h) (C : Cx p s m args c D ca sa b A cc own nL z N xs h0) :
    ∀ (f : Nat) (pc : Nat) (lx : List SI) (L : Lc) (S : List AV) (h : Hp), blkb cc (insOK mi own nL fr lo cals ini rk) pc lx = true → go g K fin fs sd f lx L S h = some r → Cfg p l e R s m args below meth c D ca sa b A nL z g n0 h0 ad0 Q pc L S h := by
  intro f
  induction f with
  | zero => intro pc lx L S h _ H; cases H
  | succ f ih =>
    intro pc lx L S h hb H
    cases lx with
    | nil => cases H
    | cons y rr =>
      obtain ⟨p', ins, len, res, rv⟩ := y
      unfold blkb at hb
      have a1 := andb hb
      have a2 := andb a1.1
      have a3 := andb a2.1
      have a4 := beqn a3.1
      subst a4
      have hd : decode cc p' = .ok (ins, len) := by
        have := a3.2
        split at this
        · rename_i i9 n9 hq
          have b1 := andb this
          have b2 := decb b1.1
          have b3 := beqn b1.2
          subst b2
          subst b3
          exact hq
        · cases this
      have he : ∀ t L' S' h', ent K sd (go g K fin fs sd f) t L' S' h' = some r → Cfg p l e R s m args below meth c D ca sa b A nL z g n0 h0 ad0 Q t L' S' h' := fun t L' S' h' H9 => by
        rcases ent_some H9 with H8 | ⟨l9, hl9, H8⟩
        · exact hK _ _ _ _ H8
        · exact ih t l9 L' S' h' (List.all_eq_true.mp hsd _ hl9) H8
      have hbB : ∀ h h' : Hp, nOf h ≤ nOf h' → (nOf h' - n0 ≤ R.cells ∧ slc (nOf h') - slc n0 ≤ R.slots) → (nOf h - n0 ≤ R.cells ∧ slc (nOf h) - slc n0 ≤ R.slots) := fun h h' h1 h2 => by
        have := slc_mono h1
        omega
      have hgb : g = true → ∀ (lx : List SI) (L' : Lc) (S' : List AV) (h' : Hp), go g K fin fs sd f lx L' S' h' = some r → nOf h' - n0 ≤ R.cells ∧ slc (nOf h') - slc n0 ≤ R.slots := fun hg lx L' S' h' H9 => by
        subst hg
        exact go_mono (Bd := fun h' => nOf h' - n0 ≤ R.cells ∧ slc (nOf h') - slc n0 ≤ R.slots) hbB (hfm rfl) (hfb rfl) (hKb rfl) f lx L' S' h' H9
      refine q_one a2.2 hd hini hR hn0 hfs (fun hg L' S' h' H9 => ?_) hret C (fun L' S' h' H9 => ?_) he H
      · cases rr with
        | nil =>
          rcases ent_some H9 with H8 | ⟨l9, _, H8⟩
          · exact hKb hg _ _ _ _ H8
          · exact hgb hg _ _ _ _ H8
        | cons y9 ys => exact hgb hg _ _ _ _ H9
      · cases rr with
        | nil => exact he _ _ _ _ H9
        | cons y9 ys => exact ih _ _ L' S' h' a1.2 H9
theorem go_sound {fs : List (FN ρ)} {fin : Int → Hp → Option ρ} {K : Nat → Lc → List AV → Hp → Option (Option ρ)} {sd : SD} {mi : Nat → Mx} {fr lo : Nat} {cals : List Nat} {ini : Bool} {rk : Nat} (hsd : sdb cc (insOK mi own nL fr lo cals ini rk) sd = true) (hini : ini = true → meth.name = "<init>") (hR : fr ≤ R.frames ∧ lo ≤ R.locals) (hn0 : g = false → n0 = 148) (hfs : ∀ (f jj : Nat) (fn : FN ρ), cals[f]? = some jj → fs[f]? = some fn → SndF l g (mi jj).1 fn)
    (hfm : g = true → ∀ (f : Nat) (fn : FN ρ), fs[f]? = some fn → MonoF fn) (hfb : g = true → ∀ v h', fin v h' = some r → nOf h' - n0 ≤ R.cells ∧ slc (nOf h') - slc n0 ≤ R.slots) (hKb : g = true → ∀ t L S h', K t L S h' = some (some r) → nOf h' - n0 ≤ R.cells ∧ slc (nOf h') - slc n0 ≤ R.slots) (hret : Rets cc rk fin r (Cfg p l e R s m args below meth c D ca sa b A nL z g n0 h0 ad0 Q)) (hK : ∀ t L S h, K t L S h = some (some r) → Cfg p l e R s m args below meth c D ca sa b A nL z g n0 h0 ad0 Q t L S h) (C : Cx p s m args c D ca sa b A cc own nL z N xs h0) :
    ∀ (f : Nat) (pc : Nat) (lx : List SI) (L : Lc) (S : List AV) (h : Hp), blkb cc (insOK mi own nL fr lo cals ini rk) pc lx = true → go g K fin fs sd f lx L S h = some r → Cfg p l e R s m args below meth c D ca sa b A nL z g n0 h0 ad0 Q pc L S h :=
  go_sound2 hsd hini hR (fun q => by
    rw [hn0 q, Nat.sub_self, Nat.sub_self]
    exact ⟨Nat.zero_le _, Nat.zero_le _⟩) hfs hfm hfb hKb hret hK C
end
