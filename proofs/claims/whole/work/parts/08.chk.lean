/-! the abstract program against the code -/
def rc_kA (mi pc o n a : Nat) (v : Int32) (i : Instr) (len : Nat) : Bool :=
  match o with
  | 0 => match i with
    | .iconst z => decide (len = 1) && (decide (n = pc + 1) && decide (Int32.ofInt z = v))
    | .bipush z => decide (len = 2) && (decide (n = pc + 2) && decide ((Int8.ofInt z).toInt32 = v))
    | .sipush z => decide (len = 3) && (decide (n = pc + 3) && decide ((Int16.ofInt z).toInt32 = v))
    | .ldc ix => decide (len = 2) && (decide (n = pc + 2) && rc_has (rc_lk mi pc) (.constant (rc_own mi) ix v))
    | .ldc_w ix => decide (len = 3) && (decide (n = pc + 3) && rc_has (rc_lk mi pc) (.constant (rc_own mi) ix v))
    | _ => false
  | 1 => match i with
    | .iload_n k => decide (len = 1) && (decide (n = pc + 1) && (decide ((k : Nat) = a)))
    | .iload k => decide (len = 2) && (decide (n = pc + 2) && (decide (k = a)))
    | _ => false
  | 2 => match i with
    | .aload_n k => decide (len = 1) && (decide (n = pc + 1) && (decide ((k : Nat) = a)))
    | .aload k => decide (len = 2) && (decide (n = pc + 2) && (decide (k = a)))
    | _ => false
  | 3 => match i with
    | .istore_n k => decide (len = 1) && (decide (n = pc + 1) && (decide ((k : Nat) = a) && (decide (a < rc_mx mi))))
    | .istore k => decide (len = 2) && (decide (n = pc + 2) && (decide (k = a) && (decide (a < rc_mx mi))))
    | _ => false
  | 4 => match i with
    | .astore_n k => decide (len = 1) && (decide (n = pc + 1) && (decide ((k : Nat) = a) && (decide (a < rc_mx mi))))
    | .astore k => decide (len = 2) && (decide (n = pc + 2) && (decide (k = a) && (decide (a < rc_mx mi))))
    | _ => false
  | 5 => match i with
    | .iinc k z => decide (len = 3) && (decide (n = pc + 3) && (decide (k = a) && (decide (Int32.ofInt z = v) && decide (a < rc_mx mi))))
    | _ => false
  | 6 => match i with
    | .iadd => decide (len = 1) && (decide (n = pc + 1))
    | _ => false
  | 7 => match i with
    | .isub => decide (len = 1) && (decide (n = pc + 1))
    | _ => false
  | 8 => match i with
    | .imul => decide (len = 1) && (decide (n = pc + 1))
    | _ => false
  | 9 => match i with
    | .iand => decide (len = 1) && (decide (n = pc + 1))
    | _ => false
  | 10 => match i with
    | .ior => decide (len = 1) && (decide (n = pc + 1))
    | _ => false
  | 11 => match i with
    | .ixor => decide (len = 1) && (decide (n = pc + 1))
    | _ => false
  | 12 => match i with
    | .ishl => decide (len = 1) && (decide (n = pc + 1))
    | _ => false
  | 13 => match i with
    | .ishr => decide (len = 1) && (decide (n = pc + 1))
    | _ => false
  | 14 => match i with
    | .iushr => decide (len = 1) && (decide (n = pc + 1))
    | _ => false
  | 15 => match i with
    | .ineg => decide (len = 1) && (decide (n = pc + 1))
    | _ => false
  | 16 => match i with
    | .dup => decide (len = 1) && (decide (n = pc + 1))
    | _ => false
  | 17 => match i with
    | .dup2 => decide (len = 1) && (decide (n = pc + 1))
    | _ => false
  | 18 => match i with
    | .pop => decide (len = 1) && (decide (n = pc + 1))
    | _ => false
  | 19 => match i with
    | .goto off => decide (len = 3) && decide ((pc : Int) + off = (n : Int))
    | _ => false
  | 20 => match i with
    | .invokespecial ix => decide (len = 3) && (decide (n = pc + 3) && rc_has (rc_lk mi pc) (.methodLink (rc_own mi) ix objectInit))
    | _ => false
  | 21 => match i with
    | .getstatic ix => decide (len = 3) && (decide (n = pc + 3) && (match a with | 0 => rc_has (rc_lk mi pc) (.fieldLink (rc_own mi) ix RX9 "WEIGHTS" "[I") | _ => decide (Cond.fieldLinkNest (rc_own mi) ix RX9 "WEIGHTS" "[I" RX9 ∈ rc_nest)))
    | _ => false
  | _ => false
def rc_kB (pc o n a : Nat) (i : Instr) (len : Nat) : Bool :=
  match o with
  | 0 => match i with
    | .if_icmp .eq off => decide (len = 3) && (decide (n = pc + 3) && decide ((pc : Int) + off = (a : Int)))
    | _ => false
  | 1 => match i with
    | .if_icmp .ne off => decide (len = 3) && (decide (n = pc + 3) && decide ((pc : Int) + off = (a : Int)))
    | _ => false
  | 2 => match i with
    | .if_icmp .lt off => decide (len = 3) && (decide (n = pc + 3) && decide ((pc : Int) + off = (a : Int)))
    | _ => false
  | 3 => match i with
    | .if_icmp .ge off => decide (len = 3) && (decide (n = pc + 3) && decide ((pc : Int) + off = (a : Int)))
    | _ => false
  | 4 => match i with
    | .if_icmp .gt off => decide (len = 3) && (decide (n = pc + 3) && decide ((pc : Int) + off = (a : Int)))
    | _ => false
  | 5 => match i with
    | .if_icmp .le off => decide (len = 3) && (decide (n = pc + 3) && decide ((pc : Int) + off = (a : Int)))
    | _ => false
  | 6 => match i with
    | .ifCond .eq off => decide (len = 3) && (decide (n = pc + 3) && decide ((pc : Int) + off = (a : Int)))
    | _ => false
  | 7 => match i with
    | .ifCond .ne off => decide (len = 3) && (decide (n = pc + 3) && decide ((pc : Int) + off = (a : Int)))
    | _ => false
  | 8 => match i with
    | .ifCond .lt off => decide (len = 3) && (decide (n = pc + 3) && decide ((pc : Int) + off = (a : Int)))
    | _ => false
  | 9 => match i with
    | .ifCond .ge off => decide (len = 3) && (decide (n = pc + 3) && decide ((pc : Int) + off = (a : Int)))
    | _ => false
  | 10 => match i with
    | .ifCond .gt off => decide (len = 3) && (decide (n = pc + 3) && decide ((pc : Int) + off = (a : Int)))
    | _ => false
  | 11 => match i with
    | .ifCond .le off => decide (len = 3) && (decide (n = pc + 3) && decide ((pc : Int) + off = (a : Int)))
    | _ => false
  | _ => false
def rc_isRf (a b : Nat) : Bool := match rc_fty a b with
  | .object _ => true
  | .array _ => true
  | _ => false
/-- a field's word: class a, place b -/
def rc_kF (mi pc a b ix : Nat) : Bool := match vwCl[a]? with
  | some q => decide (b < q.2.2) && rc_has (rc_lk mi pc) (.fieldLink (rc_own mi) ix (q.2.1 b).1 (q.2.1 b).2.1 (q.2.1 b).2.2.1)
  | none => false
def rc_fin (a b : Nat) : Bool := match vwCl[a]? with
  | some q => (q.2.1 b).2.2.2
  | none => false
def rc_decl (a b : Nat) : String := match vwCl[a]? with
  | some q => (q.2.1 b).1
  | none => ""
def rc_kC (mi pc o n a b : Nat) (i : Instr) (len : Nat) : Bool :=
  match o with
  | 0 => match i with
    | .idiv => decide (len = 1) && (decide (n = pc + 1))
    | _ => false
  | 1 => match i with
    | .irem => decide (len = 1) && (decide (n = pc + 1))
    | _ => false
  | 2 => match i with
    | .iaload => decide (len = 1) && (decide (n = pc + 1))
    | _ => false
  | 3 => match i with
    | .iaload => decide (len = 1) && (decide (n = pc + 1))
    | _ => false
  | 4 => match i with
    | .aaload => decide (len = 1) && (decide (n = pc + 1))
    | _ => false
  | 5 => match i with
    | .caload => decide (len = 1) && (decide (n = pc + 1))
    | _ => false
  | 6 => match i with
    | .baload => decide (len = 1) && (decide (n = pc + 1))
    | _ => false
  | 7 => match i with
    | .arraylength => decide (len = 1) && (decide (n = pc + 1))
    | _ => false
  | 8 => match i with
    | .getfield ix => decide (len = 3) && (decide (n = pc + 3) && (!rc_isRf a b && rc_kF mi pc a b ix))
    | _ => false
  | 9 => match i with
    | .getfield ix => decide (len = 3) && (decide (n = pc + 3) && (!rc_isRf a b && rc_kF mi pc a b ix))
    | _ => false
  | 10 => match i with
    | .getfield ix => decide (len = 3) && (decide (n = pc + 3) && (rc_isRf a b && rc_kF mi pc a b ix))
    | _ => false
  | 11 => match i with
    | .getfield ix => decide (len = 3) && (decide (n = pc + 3) && (rc_isRf a b && rc_kF mi pc a b ix))
    | _ => false
  | 12 => match i with
    | .iaload => decide (len = 1) && (decide (n = pc + 1) && decide (mi = 189))
    | _ => false
  | 13 => match i with
    | .arraylength => decide (len = 1) && (decide (n = pc + 1) && decide (mi = 189))
    | _ => false
  | _ => false
def rc_kD (mi pc o n a b : Nat) (i : Instr) (len : Nat) : Bool :=
  match o with
  | 0 => match i with
    | .putfield ix => decide (len = 3) && (decide (n = pc + 3) && (decide (rc_fty a b = .int) && ((!rc_fin a b) && rc_kF mi pc a b ix)))
    | _ => false
  | 1 => match i with
    | .putfield ix => decide (len = 3) && (decide (n = pc + 3) && (decide (rc_fty a b = .int) && ((!rc_fin a b) && rc_kF mi pc a b ix)))
    | _ => false
  | 2 => match i with
    | .putfield ix => decide (len = 3) && (decide (n = pc + 3) && (decide (rc_fty a b = .boolean) && ((!rc_fin a b) && rc_kF mi pc a b ix)))
    | _ => false
  | 3 => match i with
    | .iastore => decide (len = 1) && (decide (n = pc + 1))
    | _ => false
  | 4 => match i with
    | .iastore => decide (len = 1) && (decide (n = pc + 1))
    | _ => false
  | 5 => match i with
    | .bastore => decide (len = 1) && (decide (n = pc + 1))
    | _ => false
  | 6 => match i with
    | .invokestatic ix => decide (len = 3) && (decide (n = pc + 3) && rc_has (rc_lk mi pc) (.methodLink (rc_own mi) ix arraycopyName))
    | _ => false
  | _ => false
def rc_aty : Nat → FieldType
  | 1 => .int
  | 2 => .char
  | _ => .boolean
def rc_kE (mi pc o n a b : Nat) (i : Instr) (len : Nat) : Bool :=
  match o with
  | 0 => match i with
    | .new ix => decide (len = 3) && (decide (n = pc + 3) && (match vwCl[a]? with | some q => rc_has (rc_lk mi pc) (.classLink (rc_own mi) ix q.1) && (rc_has (rc_pI a).1 (.instantiable q.1 q.2.2) && rc_has (rc_pI a).2 (.initialized q.1)) | none => false))
    | _ => false
  | 1 => match i with
    | .newarray ty => decide (len = 2) && (decide (n = pc + 2) && (decide (newarray.typeOf ty = rc_aty a) && (decide (1 ≤ a ∧ a ≤ 3) && rc_has (rc_lk mi pc) (.arrayClass (newarray.typeOf ty)))))
    | _ => false
  | 2 => match i with
    | .anewarray ix => decide (len = 3) && (decide (n = pc + 3) && (match vwCl[a]? with | some q => rc_has (rc_lk mi pc) (.classLink (rc_own mi) ix q.1) && decide (a = 6 ∨ a = 1) | none => false))
    | _ => false
  | 3 => match i with
    | .putfield ix => decide (len = 3) && (decide (n = pc + 3) && (rc_isRf a b && (rc_fin a b && (decide (rc_decl a b = rc_own mi) && (decide ((rc_y mi).name = "<init>") && rc_kF mi pc a b ix)))))
    | _ => false
  | 4 => match i with
    | .aastore => decide (len = 1) && (decide (n = pc + 1))
    | _ => false
  | 5 => match i with
    | .castore => decide (len = 1) && (decide (n = pc + 1))
    | _ => false
  | _ => false
def rc_k5 (pc : Nat) (w : Nat × List Nat × Nat) (i : Instr) : Bool := match i with
  | .tableswitch dflt lo hi offs => decide (lo = (w.1 : Int)) && (decide (hi = lo + (w.2.1.length : Int) - 1) && (decide (offs.toList.map (fun o => (pc : Int) + o) = w.2.1.map (fun (t : Nat) => (t : Int))) && decide ((pc : Int) + dflt = (w.2.2 : Int))))
  | _ => false
/-- what a callee brings along -/
def rc_okM (a : Nat) : Bool := rc_has (rc_pp a).1 (.code (rc_y a) (rc_code a) (rc_mx a) (rc_ret a)) && (rc_has (rc_pp a).2.1 (.initialized (rc_y a).cls) && (decide ((rc_y a).cls ≠ "java/lang/invoke/MethodHandle" ∧ (rc_y a).cls ≠ "java/lang/invoke/VarHandle" ∧ (parseMethodDescriptor (rc_y a).desc).map (fun d => d.parameters.length) = some (cond (rc_st a) (rc_nA a) (rc_nA a - 1))) && (plainName (rc_y a).cls && (decide (rc_nA a ≤ rc_mx a ∧ rc_mx a ≤ 30 ∧ (rc_st a = false → 1 ≤ rc_nA a)) && decide (rc_own a = (rc_y a).cls)))))
def rc_okS (a : Nat) : Bool := rc_st a && rc_has (rc_pp a).2.2.1 (.static (rc_y a))
def rc_okI (a : Nat) : Bool := (!rc_st a) && rc_has (rc_pp a).2.2.1 (.instanceMethod (rc_y a))
def rc_okV (a : Nat) : Bool := rc_okI a && (rc_has (rc_pp a).2.2.2 (.selects (rc_y a).cls (rc_y a) (rc_y a)) && (match vwCl[rc_cn a]? with | some q => decide (q.1 = (rc_y a).cls) | none => false))
def rc_okN (a : Nat) : Bool := rc_okI a && decide ((rc_y a).name = "<init>" ∧ rc_ret a = none)
def rc_k6 (mi pc o n a : Nat) (i : Instr) (len : Nat) : Bool :=
  match o with
  | 0 => match i with
    | .invokestatic ix => decide (len = 3) && (decide (n = pc + 3) && (rc_has (rc_lk mi pc) (.methodLink (rc_own mi) ix (rc_y a)) && (rc_okS a && rc_okM a)))
    | _ => false
  | 1 => match i with
    | .invokestatic ix => decide (len = 3) && (decide (n = pc + 3) && (decide (Cond.methodLinkNest (rc_own mi) ix (rc_y a) RX9 ∈ rc_nest) && (rc_okS a && rc_okM a)))
    | _ => false
  | 2 => match i with
    | .invokevirtual ix => decide (len = 3) && (decide (n = pc + 3) && (rc_has (rc_lk mi pc) (.methodLink (rc_own mi) ix (rc_y a)) && (rc_okV a && rc_okM a)))
    | _ => false
  | 3 => match i with
    | .invokevirtual ix => decide (len = 3) && (decide (n = pc + 3) && (rc_has (rc_lk mi pc) (.methodLink (rc_own mi) ix (rc_y a)) && (rc_okV a && rc_okM a)))
    | _ => false
  | 4 => match i with
    | .invokespecial ix => decide (len = 3) && (decide (n = pc + 3) && (rc_has (rc_lk mi pc) (.methodLink (rc_own mi) ix (rc_y a)) && (rc_okN a && rc_okM a)))
    | _ => false
  | 5 => match i with
    | .invokespecial ix => decide (len = 3) && (decide (n = pc + 3) && (decide (Cond.methodLinkNest (rc_own mi) ix (rc_y a) RX9 ∈ rc_nest) && (rc_okN a && rc_okM a)))
    | _ => false
  | _ => false
def rc_k7 (mi o : Nat) (i : Instr) (len : Nat) : Bool :=
  match o with
  | 0 => match i with
    | .ireturn => decide (len = 1) && decide (rc_ret mi = some .int)
    | _ => false
  | 1 => match i with
    | .ireturn => decide (len = 1) && decide (rc_ret mi = some .boolean)
    | _ => false
  | 2 => match i with
    | .return_ => decide (len = 1) && decide (rc_ret mi = none)
    | _ => false
  | _ => false
def rc_k8 (mi pc o n : Nat) (i : Instr) (len : Nat) : Bool := match i with
  | .invokestatic ix => match o with
    | 0 => decide (len = 3) && (decide (n = pc + 3) && (rc_has (rc_lk mi pc) (.methodLink (rc_own mi) ix (rc_y 44)) && (rc_okS 44 && rc_okM 44)))
    | 1 => decide (len = 3) && (decide (n = pc + 3) && rc_has (rc_lk mi pc) (.methodLink (rc_own mi) ix Lib.Math.min.name))
    | 2 => decide (len = 3) && (decide (n = pc + 3) && rc_has (rc_lk mi pc) (.methodLink (rc_own mi) ix Lib.Math.max.name))
    | _ => false
  | _ => false
def rc_kI (mi pc : Nat) (i : Instr) (len : Nat) : Bool := match rc_ic mi pc with
  | (_, g, o, n, a, b, v) => match g with
    | 0 => rc_kA mi pc o n a v i len
    | 1 => rc_kB pc o n a i len
    | 2 => rc_kC mi pc o n a b i len
    | 3 => rc_kD mi pc o n a b i len
    | 4 => rc_kE mi pc o n a b i len
    | 5 => rc_k5 pc (rc_sw mi pc) i
    | 6 => rc_k6 mi pc o n a i len
    | 7 => rc_k7 mi o i len
    | 8 => rc_k8 mi pc o n i len
    | _ => true
/-- one place of the program is as the code has it -/
def rc_ok1 (mi pc : Nat) : Bool := cond (Nat.ble 9 (rc_ic mi pc).2.1) true (match decode (rc_code mi) pc with
  | .ok (i, len) => rc_kI mi pc i len
  | .error _ => false)
