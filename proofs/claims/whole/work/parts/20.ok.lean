/-! WHAT A TABLE MUST BE: decided by program. -/
/-- of a method: what it is; parameters; 0 virtual, 1 static, 2 a constructor; the places of its words -/
abbrev Mx := MInf × Nat × Nat × List Nat
def wd (i : Nat) (w : Cond) : Bool := decide (lw_tbl[i]? = some w) && isUse w
def wn (i : Nat) (w : Cond) : Bool := decide (lw_tbl[i]? = some w) && isNest w
theorem wd_in {i : Nat} {w : Cond} (h : wd i w = true) : w ∈ lw_u := by
  unfold wd at h
  rw [Bool.and_eq_true] at h
  exact List.mem_filter.mpr ⟨List.mem_of_getElem? (of_decide_eq_true h.1), h.2⟩
theorem wn_in {i : Nat} {w : Cond} (h : wn i w = true) : w ∈ lw_n := by
  unfold wn at h
  rw [Bool.and_eq_true] at h
  exact List.mem_filter.mpr ⟨List.mem_of_getElem? (of_decide_eq_true h.1), h.2⟩
def rcvb (t0 : Nat) (cls : String) : Bool := (Nat.beq t0 2 && decide (cls = "java/lang/String")) || (Nat.ble 4 t0 && Nat.ble t0 16 && decide ((vwCl[t0 - 4]?).map (fun q => q.1) = some cls))
def mokb (x : Mx) : Bool := match x with
  | (I, np, mq, p0 :: p1 :: p2 :: p3 :: _) =>
    wd p0 (.code I.1 I.2.1 I.2.2.1 I.2.2.2.1) && wd p1 (.initialized I.1.cls) && decide (I.1.cls ≠ "java/lang/invoke/MethodHandle") && decide (I.1.cls ≠ "java/lang/invoke/VarHandle") && decide ((parseMethodDescriptor I.1.desc).map (fun d => d.parameters.length) = some np) && I.2.2.2.2.2.2.2.all (fun t => !Nat.beq t 3) && Nat.ble I.2.2.2.2.2.2.1 3 &&
    (match mq with
    | 0 => wd p2 (.instanceMethod I.1) && wd p3 (.selects I.1.cls I.1 I.1) && Nat.beq I.2.2.2.2.2.2.2.length (np + 1) && rcvb (I.2.2.2.2.2.2.2.headD 0) I.1.cls
    | 1 => wd p2 (.static I.1) && Nat.beq I.2.2.2.2.2.2.2.length np
    | _ => wd p2 (.instanceMethod I.1) && decide (I.2.2.2.1 = none) && decide (I.1.name = "<init>") && Nat.beq I.2.2.2.2.2.2.2.length (np + 1) && Nat.ble 4 (I.2.2.2.2.2.2.2.headD 0))
  | _ => false
def fldOK (c s ft fx : Nat) (rv : Int) : Bool := Nat.ble (c + 1) 13 && Nat.ble (s + 1) (fts c).length && Nat.beq ((fts c).getD s 0) ft && !Nat.beq ft 2 && !Nat.beq ft 3 && (match fx with
  | 0 => Nat.beq ((dll.getD c []).getD s 0) 0
  | _ => !Nat.beq ((dll.getD c []).getD s 0) 0 && decide (rv = Int.ofNat ((dll.getD c []).getD s 0) - 1000))
def isB (t : FieldType) : Bool := match t with
  | .boolean => true
  | _ => false
def insOK (mi : Nat → Mx) (own : String) (nL fr lo : Nat) (cals : List Nat) (ini : Bool) (rk pc : Nat) (ins : Instr) (len : Nat) (res : List Nat) (rv : Int) : Bool := match ins with
  | .iload _ => Nat.beq len 2
  | .iload_n _ => Nat.beq len 1
  | .lload _ => Nat.beq len 2
  | .lload_n _ => Nat.beq len 1
  | .aload _ => Nat.beq len 2
  | .aload_n _ => Nat.beq len 1
  | .istore i => Nat.beq len 2 && Nat.ble (i + 1) nL
  | .istore_n i => Nat.beq len 1 && Nat.ble (i.val + 1) nL
  | .lstore i => Nat.beq len 2 && Nat.ble (i + 2) nL
  | .lstore_n i => Nat.beq len 1 && Nat.ble (i.val + 2) nL
  | .astore i => Nat.beq len 2 && Nat.ble (i + 1) nL
  | .astore_n i => Nat.beq len 1 && Nat.ble (i.val + 1) nL
  | .iinc i c => Nat.beq len 3 && Nat.ble (i + 1) nL && decide (-32768 ≤ c ∧ c ≤ 32767)
  | .iconst c => Nat.beq len 1 && decide (-128 ≤ c ∧ c ≤ 127)
  | .bipush c => Nat.beq len 2 && decide (-128 ≤ c ∧ c ≤ 127)
  | .sipush c => Nat.beq len 3 && decide (-32768 ≤ c ∧ c ≤ 32767)
  | .ldc i => Nat.beq len 2 && (match res with
    | [0, p] => wd p (.constant own i (Int32.ofInt rv)) && decide (-2147483648 ≤ rv ∧ rv < 2147483648)
    | [2, _] => decide ((own, i, rv.toNat) ∈ strl) && decide (0 ≤ rv ∧ rv < 8)
    | _ => false)
  | .ldc_w i => Nat.beq len 3 && (match res with
    | [_, p] => wd p (.constant own i (Int32.ofInt rv)) && decide (-2147483648 ≤ rv ∧ rv < 2147483648)
    | _ => false)
  | .ldc2_w i => Nat.beq len 3 && (match res with
    | [_, p] => wd p (.constantLong own i (Int64.ofInt rv)) && decide (-9223372036854775808 ≤ rv ∧ rv < 9223372036854775808)
    | _ => false)
  | .ifCond _ off => Nat.beq len 3 && decide (0 ≤ (pc : Int) + off)
  | .if_icmp _ off => Nat.beq len 3 && decide (0 ≤ (pc : Int) + off)
  | .goto off => Nat.beq len 3 && decide (0 ≤ (pc : Int) + off)
  | .tableswitch d lo9 hi offs => decide (hi = lo9 + Int.ofNat offs.size - 1) && decide (0 ≤ (pc : Int) + d) && offs.toList.all (fun o => decide (0 ≤ (pc : Int) + o))
  | .lookupswitch d ps => (ps.toList.zip (ps.toList.drop 1)).all (fun (a, next) => a.1 < next.1) && decide (0 ≤ (pc : Int) + d) && ps.toList.all (fun o => decide (0 ≤ (pc : Int) + o.2))
  | .ireturn => Nat.beq len 1 && (match res with
    | [] => Nat.beq rk 1
    | _ => Nat.beq rk 4)
  | .lreturn => Nat.beq len 1 && Nat.beq rk 2
  | .areturn => Nat.beq len 1 && Nat.beq rk 3
  | .return_ => Nat.beq len 1 && Nat.beq rk 0
  | .getfield i => Nat.beq len 3 && (match res with
    | [c, s, ft, fx, p, nest] => fldOK c s ft fx rv && (match nest with
      | 0 => wd p (.fieldLink own i (fld c s).1 (fld c s).2.1 (fld c s).2.2.1)
      | _ => wn p (.fieldLinkNest own i (fld c s).1 (fld c s).2.1 (fld c s).2.2.1 "PathRide"))
    | _ => false)
  | .putfield i => Nat.beq len 3 && (match res with
    | [c, s, ft, fx, z, p] => fldOK c s ft fx (Int.ofNat ((dll.getD c []).getD s 0) - 1000) && wd p (.fieldLink own i (fld c s).1 (fld c s).2.1 (fld c s).2.2.1) && (!(fld c s).2.2.2 || (ini && decide (own = (fld c s).1))) && (!isB (vty c s) || !Nat.beq z 0)
    | _ => false)
  | .invokevirtual i => Nat.beq len 3 && (match res with
    | rt :: f :: kd9 :: jj :: p :: ts => (match mi jj with
      | (I, np, mq, ps) => decide (cals[f]? = some jj) && mokb (I, np, mq, ps) && Nat.beq mq 0 && Nat.beq rt I.2.2.2.2.2.2.1 && decide (ts = I.2.2.2.2.2.2.2.reverse) && Nat.ble (I.2.2.2.2.1 + 1) fr && Nat.ble (8 + (I.2.2.1 + 11) + I.2.2.2.2.2.1) lo && (match kd9 with
        | 2 => wn p (.methodLinkNest own i I.1 "PathRide")
        | _ => wd p (.methodLink own i I.1)))
    | _ => false)
  | .invokestatic i => Nat.beq len 3 && (match res with
    | rt :: f :: kd9 :: jj :: p :: ts => (match mi jj with
      | (I, np, mq, ps) => decide (cals[f]? = some jj) && mokb (I, np, mq, ps) && Nat.beq mq 1 && Nat.beq rt I.2.2.2.2.2.2.1 && decide (ts = I.2.2.2.2.2.2.2.reverse) && Nat.ble (I.2.2.2.2.1 + 1) fr && Nat.ble (8 + (I.2.2.1 + 11) + I.2.2.2.2.2.1) lo && (match kd9 with
        | 4 => wn p (.methodLinkNest own i I.1 "PathRide")
        | _ => wd p (.methodLink own i I.1)))
    | _ => false)
  | .invokespecial i => Nat.beq len 3 && (match res with
    | rt :: f :: kd9 :: jj :: p :: ts => (match kd9 with
      | 0 => wd p (.methodLink own i Lib.objectInit) && decide ((Cond.instanceMethod Lib.objectInit) ∈ lw_u) && decide ((Cond.code Lib.objectInit ⟨#[0xb1]⟩ 1 none) ∈ lw_u) && Nat.ble 1 fr && Nat.ble 20 lo
      | _ => (match mi jj with
        | (I, np, mq, ps) => decide (cals[f]? = some jj) && mokb (I, np, mq, ps) && Nat.beq mq 2 && Nat.beq rt I.2.2.2.2.2.2.1 && decide (ts = I.2.2.2.2.2.2.2.reverse) && Nat.ble (I.2.2.2.2.1 + 1) fr && Nat.ble (8 + (I.2.2.1 + 11) + I.2.2.2.2.2.1) lo && (match kd9 with
          | 6 => wn p (.methodLinkNest own i I.1 "PathRide")
          | _ => wd p (.methodLink own i I.1))))
    | _ => false)
  | .new i => Nat.beq len 3 && (match res with
    | [c, p, p1, p2] => (match vwCl[c]? with
      | some q => Nat.ble (c + 1) 13 && wd p (.classLink own i q.1) && wd p1 (.instantiable q.1 q.2.2) && wd p2 (.initialized q.1)
      | none => false)
    | _ => false)
  | .newarray at9 => Nat.beq len 2 && (match res with
    | [e, p] => Nat.ble (e + 1) 4 && decide (newarray.typeOf at9 = ety e) && wd p (.arrayClass (ety e))
    | _ => false)
  | .anewarray i => Nat.beq len 3 && (match res with
    | [4, p] => wd p (.classLink own i "PathRide$State")
    | [5, p] => wd p (.classLink own i "PathRide$Kept")
    | _ => false)
  | .multianewarray i dm => Nat.beq len 4 && Nat.beq dm 2 && (match res with
    | [p, p1] => wd p (.classLink own i "[[I") && wd p1 (.arrayClass .int)
    | _ => false)
  | _ => Nat.beq len 1
