/-! the words that every method has -/
def isUse : Cond → Bool
  | .code _ _ _ _ => true
  | .methodLink _ _ _ => true
  | .instanceMethod _ => true
  | .static _ => true
  | .selects _ _ _ => true
  | .initialized _ => true
  | .fieldLink _ _ _ _ _ => true
  | .lays _ _ _ _ => true
  | .laysFinal _ _ _ _ => true
  | .constant _ _ _ => true
  | .constantLong _ _ _ => true
  | .classLink _ _ _ => true
  | .instantiable _ _ => true
  | .arrayClass _ => true
  | _ => false
def isNest : Cond → Bool
  | .methodLinkNest _ _ _ _ => true
  | .fieldLinkNest _ _ _ _ _ _ => true
  | _ => false
/-- the words that every method has -/
def lw_u : List Cond := lw_tbl.filter isUse
def lw_n : List Cond := lw_tbl.filter isNest
theorem lw_u_all : (lw_u.all goodWord) = true := by decide +kernel
theorem lw_u_good : GoodIn lw_tbl lw_u := fun w h => ⟨(List.mem_filter.mp h).1, good_of_word (List.all_eq_true.mp lw_u_all w h)⟩
theorem lw_uu_good : GoodIn lw_u lw_u := fun w h => ⟨h, good_of_word (List.all_eq_true.mp lw_u_all w h)⟩
set_option maxRecDepth 100000 in
theorem vw_in_all : (vwCl.all fun q => (u_ws q.1 q.2.1 q.2.2).all fun w => decide (w ∈ lw_tbl) && isUse w) = true := by decide +kernel
theorem vw_in {c : Nat} {q : vw_C} (h : vwCl[c]? = some q) : ∀ w ∈ u_ws q.1 q.2.1 q.2.2, w ∈ lw_u := fun w hw => by
  have h1 := List.all_eq_true.mp (List.all_eq_true.mp vw_in_all q (List.mem_of_getElem? h)) w hw
  rw [Bool.and_eq_true] at h1
  exact List.mem_filter.mpr ⟨of_decide_eq_true h1.1, h1.2⟩
