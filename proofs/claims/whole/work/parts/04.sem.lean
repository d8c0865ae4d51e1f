/-! THE ABSTRACT MACHINE: memory of ints by cell and place, references by cell and place, how many cells there are -/
abbrev rc_M : Type := Nat → Nat → Int32
abbrev rc_F : Type := Nat → Nat → Option Nat
abbrev rc_S : Type := rc_M × rc_F × Nat
def rc_up (σ : rc_M) (k : Nat) (f : Nat → Int32) : rc_M := fun k' => if k' = k then f else σ k'
def rc_ur (ρ : rc_F) (k : Nat) (f : Nat → Option Nat) : rc_F := fun k' => if k' = k then f else ρ k'
def rc_get : List Value → Nat → Value
  | [], _ => .null
  | v :: _, 0 => v
  | _ :: l, n + 1 => rc_get l n
def rc_set : List Value → Nat → Value → List Value
  | [], _, _ => []
  | _ :: l, 0, v => v :: l
  | u :: l, n + 1, v => u :: rc_set l n v
def rc_pad : Nat → List Value → List Value
  | 0, l => l
  | n + 1, [] => .null :: rc_pad n []
  | n + 1, a :: l => a :: rc_pad n l
def rc_wk : List Value → Nat
  | [] => 0
  | v :: l => v.category + rc_wk l
/-- the top n of a stack, the lowest first, and the rest -/
def rc_split : Nat → List Value → List Value → Option (List Value × List Value)
  | 0, acc, st => some (acc, st)
  | _ + 1, _, [] => none
  | n + 1, acc, v :: st => rc_split n (v :: acc) st
def rc_inb (i : Int32) (n : Nat) : Bool := !(decide (i < 0) || decide (n ≤ i.toNatClampNeg))
theorem rc_inb_iff {i : Int32} {n : Nat} : rc_inb i n = true ↔ vp_in i n := by
  unfold rc_inb vp_in
  simp
def rc_kd (c : Int32) : Int32 := if c = 112 then 0 else if c = 104 then 1 else if c = 116 then 2 else if c = 100 then 3 else if c = 102 then 4 else if c = 115 then 5 else if c = 117 then 6 else -9
def rc_isO (k a : Nat) : Prop := (rc_lay k).1 = 0 ∧ (rc_lay k).2.1 = a
def rc_okO (k a na : Nat) : Bool := Nat.beq (rc_lay k).1 0 && (Nat.beq (rc_lay k).2.1 a && Nat.ble (k + 1) na)
def rc_okA (k t na : Nat) : Bool := Nat.beq (rc_lay k).1 t && Nat.ble (k + 1) na
def rc_okv (na : Nat) : Value → Bool
  | .ref k => Nat.ble (k + 1) na
  | _ => true
def rc_okl (na : Nat) : List Value → Bool
  | [] => true
  | v :: l => rc_okv na v && rc_okl na l
def rc_okc : List Value → Bool
  | [] => true
  | .int _ :: l => rc_okc l
  | .ref _ :: l => rc_okc l
  | _ => false
/-- instructions that neither ask nor reach the heap -/
def rc_sA (o n a : Nat) (v : Int32) (ls st : List Value) : Option (Nat × List Value × List Value) :=
  match o with
  | 0 => some (n, ls, .int v :: st)
  | 1 => match rc_get ls a with
    | .int x => some (n, ls, .int x :: st)
    | _ => none
  | 2 => match rc_get ls a with
    | .ref x => some (n, ls, .ref x :: st)
    | _ => none
  | 3 => match st with
    | .int x :: st => some (n, rc_set ls a (.int x), st)
    | _ => none
  | 4 => match st with
    | .ref x :: st => some (n, rc_set ls a (.ref x), st)
    | _ => none
  | 5 => match rc_get ls a with
    | .int x => some (n, rc_set ls a (.int (x + v)), st)
    | _ => none
  | 6 => match st with
    | .int y :: .int x :: st => some (n, ls, .int (x + y) :: st)
    | _ => none
  | 7 => match st with
    | .int y :: .int x :: st => some (n, ls, .int (x - y) :: st)
    | _ => none
  | 8 => match st with
    | .int y :: .int x :: st => some (n, ls, .int (x * y) :: st)
    | _ => none
  | 9 => match st with
    | .int y :: .int x :: st => some (n, ls, .int (x &&& y) :: st)
    | _ => none
  | 10 => match st with
    | .int y :: .int x :: st => some (n, ls, .int (x ||| y) :: st)
    | _ => none
  | 11 => match st with
    | .int y :: .int x :: st => some (n, ls, .int (x ^^^ y) :: st)
    | _ => none
  | 12 => match st with
    | .int y :: .int x :: st => some (n, ls, .int (x <<< (y &&& 31)) :: st)
    | _ => none
  | 13 => match st with
    | .int y :: .int x :: st => some (n, ls, .int (x >>> (y &&& 31)) :: st)
    | _ => none
  | 14 => match st with
    | .int y :: .int x :: st => some (n, ls, .int (x.toUInt32 >>> (y.toUInt32 &&& Int32.toUInt32 31)).toInt32 :: st)
    | _ => none
  | 15 => match st with
    | .int x :: st => some (n, ls, .int (-x) :: st)
    | _ => none
  | 16 => match st with
    | .int x :: st => some (n, ls, .int x :: .int x :: st)
    | .ref x :: st => some (n, ls, .ref x :: .ref x :: st)
    | _ => none
  | 17 => match st with
    | .int x :: .ref y :: st => some (n, ls, .int x :: .ref y :: .int x :: .ref y :: st)
    | _ => none
  | 18 => match st with
    | .int _ :: st => some (n, ls, st)
    | _ => none
  | 19 => some (n, ls, st)
  | 20 => match st with
    | .ref _ :: st => cond (Nat.ble (rc_wk st) 8) (some (n, ls, st)) none
    | _ => none
  | 21 => some (n, ls, .ref 0 :: st)
  | _ => none
/-- a comparison: whether it goes to the target -/
def rc_sB (o : Nat) (st : List Value) : Option (Bool × List Value) :=
  match o with
  | 0 => match st with
    | .int y :: .int x :: st => some (decide (x = y), st)
    | _ => none
  | 1 => match st with
    | .int y :: .int x :: st => some (!decide (x = y), st)
    | _ => none
  | 2 => match st with
    | .int y :: .int x :: st => some (decide (x < y), st)
    | _ => none
  | 3 => match st with
    | .int y :: .int x :: st => some (decide (y ≤ x), st)
    | _ => none
  | 4 => match st with
    | .int y :: .int x :: st => some (decide (y < x), st)
    | _ => none
  | 5 => match st with
    | .int y :: .int x :: st => some (decide (x ≤ y), st)
    | _ => none
  | 6 => match st with
    | .int x :: st => some (decide (x = 0), st)
    | _ => none
  | 7 => match st with
    | .int x :: st => some (!decide (x = 0), st)
    | _ => none
  | 8 => match st with
    | .int x :: st => some (decide (x < 0), st)
    | _ => none
  | 9 => match st with
    | .int x :: st => some (decide (0 ≤ x), st)
    | _ => none
  | 10 => match st with
    | .int x :: st => some (decide (0 < x), st)
    | _ => none
  | 11 => match st with
    | .int x :: st => some (decide (x ≤ 0), st)
    | _ => none
  | _ => none
/-- what reads the heap, or asks before it answers -/
def rc_sC (o a b : Nat) (st : List Value) (S : rc_S) : Option (List Value) :=
  match o with
  | 0 => match st with
    | .int y :: .int x :: st => if y = 0 then none else some (.int (x / y) :: st)
    | _ => none
  | 1 => match st with
    | .int y :: .int x :: st => if y = 0 then none else some (.int (x - x / y * y) :: st)
    | _ => none
  | 2 => match st with
    | .int i :: .ref k :: st => cond (rc_okA k 1 S.2.2 && rc_inb i (rc_lay k).2.2) (some (.int (S.1 k i.toNatClampNeg) :: st)) none
    | _ => none
  | 3 => match st with
    | .int i :: .ref k :: st => cond (rc_okA k 1 S.2.2 && rc_inb i (rc_lay k).2.2) (some (.int (S.1 k i.toNatClampNeg) :: st)) none
    | _ => none
  | 4 => match st with
    | .int i :: .ref k :: st => cond (rc_okA k 4 S.2.2 && rc_inb i (rc_lay k).2.2) (match S.2.1 k i.toNatClampNeg with | some q => some (.ref q :: st) | none => none) none
    | _ => none
  | 5 => match st with
    | .int i :: .ref k :: st => cond (rc_okA k 2 S.2.2 && rc_inb i (rc_lay k).2.2) (some (.int (S.1 k i.toNatClampNeg) :: st)) none
    | _ => none
  | 6 => match st with
    | .int i :: .ref k :: st => cond (rc_okA k 3 S.2.2 && rc_inb i (rc_lay k).2.2) (some (.int (S.1 k i.toNatClampNeg) :: st)) none
    | _ => none
  | 7 => match st with
    | .ref k :: st => cond ((rc_okA k 1 S.2.2 || rc_okA k 2 S.2.2) && Nat.ble 2 k) (some (.int (nI (rc_lay k).2.2) :: st)) none
    | _ => none
  | 8 => match st with
    | .ref k :: st => cond (rc_okO k a S.2.2) (some (.int (S.1 k b) :: st)) none
    | _ => none
  | 9 => match st with
    | .ref k :: st => cond (rc_okO k a S.2.2) (some (.int (S.1 k b) :: st)) none
    | _ => none
  | 10 => match st with
    | .ref k :: st => cond (rc_okO k a S.2.2) (match S.2.1 k b with | some q => some (.ref q :: st) | none => none) none
    | _ => none
  | 11 => match st with
    | .ref k :: st => cond (rc_okO k a S.2.2) (match S.2.1 k b with | some q => some (.ref q :: st) | none => none) none
    | _ => none
  | 12 => match st with
    | .int i :: .ref k :: st => cond (Nat.beq k 1 && rc_inb i (S.1 1 320).toNatClampNeg) (some (.int (S.1 1 i.toNatClampNeg) :: st)) none
    | _ => none
  | 13 => match st with
    | .ref k :: st => cond (Nat.beq k 1) (some (.int (nI (S.1 1 320).toNatClampNeg) :: st)) none
    | _ => none
  | _ => none
/-- what writes ints -/
def rc_sD (o a b : Nat) (st : List Value) (S : rc_S) : Option (List Value × rc_M) :=
  match o with
  | 0 => match st with
    | .int x :: .ref k :: st => cond (rc_okO k a S.2.2) (some (st, rc_up S.1 k (upd (S.1 k) b x))) none
    | _ => none
  | 1 => match st with
    | .int x :: .ref k :: st => cond (rc_okO k a S.2.2) (some (st, rc_up S.1 k (upd (S.1 k) b x))) none
    | _ => none
  | 2 => match st with
    | .int x :: .ref k :: st => cond (rc_okO k a S.2.2 && (decide (x = 0) || decide (x = 1))) (some (st, rc_up S.1 k (upd (S.1 k) b x))) none
    | _ => none
  | 3 => match st with
    | .int x :: .int i :: .ref k :: st => cond (rc_okA k 1 S.2.2 && (Nat.ble 2 k && rc_inb i (rc_lay k).2.2)) (some (st, rc_up S.1 k (upd (S.1 k) i.toNatClampNeg x))) none
    | _ => none
  | 4 => match st with
    | .int x :: .int i :: .ref k :: st => cond (rc_okA k 1 S.2.2 && (Nat.ble 2 k && rc_inb i (rc_lay k).2.2)) (some (st, rc_up S.1 k (upd (S.1 k) i.toNatClampNeg x))) none
    | _ => none
  | 5 => match st with
    | .int x :: .int i :: .ref k :: st => cond (rc_okA k 3 S.2.2 && ((decide (x = 0) || decide (x = 1)) && rc_inb i (rc_lay k).2.2)) (some (st, rc_up S.1 k (upd (S.1 k) i.toNatClampNeg x))) none
    | _ => none
  | 6 => match st with
    | .int n :: .int dp :: .ref k2 :: .int sp :: .ref k1 :: st => cond (rc_okA k1 1 S.2.2 && (rc_okA k2 1 S.2.2 && (Nat.ble 2 k1 && (Nat.ble 2 k2 && ((!decide (sp < 0)) && ((!decide (dp < 0)) && ((!decide (n < 0)) && (decide (sp.toNatClampNeg + n.toNatClampNeg ≤ (rc_lay k1).2.2) && (decide (dp.toNatClampNeg + n.toNatClampNeg ≤ (rc_lay k2).2.2) && Nat.ble (rc_wk st) 8)))))))))
        (some (st, rc_up S.1 k2 (va_cpy (S.1 k1) (S.1 k2) sp.toNatClampNeg dp.toNatClampNeg n.toNatClampNeg))) none
    | _ => none
  | _ => none
/-- what constructors do: cells come in the layout's order -/
def rc_sE (o a b lim : Nat) (ls st : List Value) (S : rc_S) : Option (List Value × rc_S) :=
  match o with
  | 0 => cond (Nat.beq (rc_lay S.2.2).1 0 && (Nat.beq (rc_lay S.2.2).2.1 a && (Nat.ble (S.2.2 + 1) lim && (rc_okl S.2.2 ls && rc_okl S.2.2 st)))) (some (.ref S.2.2 :: st, (rc_up S.1 S.2.2 (fun _ => 0), rc_ur S.2.1 S.2.2 (fun _ => none), S.2.2 + 1))) none
  | 1 => match st with
    | .int n :: st => cond (Nat.beq (rc_lay S.2.2).1 a && (decide (n = nI (rc_lay S.2.2).2.2) && (Nat.ble (S.2.2 + 1) lim && (rc_okl S.2.2 ls && rc_okl S.2.2 st)))) (some (.ref S.2.2 :: st, (rc_up S.1 S.2.2 (fun _ => 0), rc_ur S.2.1 S.2.2 (fun _ => none), S.2.2 + 1))) none
    | _ => none
  | 2 => match st with
    | .int n :: st => cond (Nat.beq (rc_lay S.2.2).1 4 && (Nat.beq (rc_lay S.2.2).2.1 a && (decide (n = nI (rc_lay S.2.2).2.2) && (Nat.ble (S.2.2 + 1) lim && (rc_okl S.2.2 ls && rc_okl S.2.2 st))))) (some (.ref S.2.2 :: st, (rc_up S.1 S.2.2 (fun _ => 0), rc_ur S.2.1 S.2.2 (fun _ => none), S.2.2 + 1))) none
    | _ => none
  | 3 => match st with
    | .ref q :: .ref k :: st => cond (rc_okO k a S.2.2 && Nat.ble (q + 1) S.2.2) (some (st, (S.1, rc_ur S.2.1 k (fun j => if j = b then some q else S.2.1 k j), S.2.2))) none
    | _ => none
  | 4 => match st with
    | .ref q :: .int i :: .ref k :: st => cond (rc_okA k 4 S.2.2 && (rc_inb i (rc_lay k).2.2 && rc_okO q (rc_lay k).2.1 S.2.2)) (some (st, (S.1, rc_ur S.2.1 k (fun j => if j = i.toNatClampNeg then some q else S.2.1 k j), S.2.2))) none
    | _ => none
  | 5 => match st with
    | .int x :: .int i :: .ref k :: st => cond (rc_okA k 2 S.2.2 && (rc_inb i (rc_lay k).2.2 && decide (narrow .char (.int x) = .int x))) (some (st, (rc_up S.1 k (upd (S.1 k) i.toNatClampNeg x), S.2.1, S.2.2))) none
    | _ => none
  | _ => none
/-- methods that are taken as one instruction -/
def rc_sF (o : Nat) (st : List Value) : Option (Int32 × List Value) :=
  match o with
  | 0 => match st with
    | .int x :: st' => some (rc_kd x, st')
    | _ => none
  | 1 => match st with
    | .int y :: .int x :: st' => some (if y < x then y else x, st')
    | _ => none
  | 2 => match st with
    | .int y :: .int x :: st' => some (if x < y then y else x, st')
    | _ => none
  | _ => none
def rc_swt (w : Nat × List Nat × Nat) (x : Int32) : Nat := if x.toInt < (w.1 : Int) then w.2.2 else match w.2.1[(x.toInt - (w.1 : Int)).toNat]? with
  | some t => t
  | none => w.2.2
/-- a receiver is an object of the class -/
def rc_rcv (o a na : Nat) (args : List Value) : Bool :=
  match o with
  | 0 => true
  | 1 => true
  | 2 => match args with
    | .ref k :: _ => rc_okO k (rc_cn a) na
    | _ => false
  | 3 => match args with
    | .ref k :: _ => rc_okO k (rc_cn a) na
    | _ => false
  | 4 => match args with
    | .ref _ :: _ => true
    | _ => false
  | 5 => match args with
    | .ref _ :: _ => true
    | _ => false
  | _ => false
abbrev rc_O : Type := Option (Option Value × rc_S) ⊕ ((Nat × List Value × List Value × rc_S) ⊕ (Nat × List Value × Nat × List Value))
def rc_ans (mi na0 o : Nat) (st : List Value) (S : rc_S) : Option (Option Value × rc_S) :=
  cond (Nat.beq S.2.2 (na0 + rc_mc mi)) (match o with
    | 0 => match st with
      | [.int x] => some (some (.int x), S)
      | _ => none
    | 1 => match st with
      | [.int x] => cond (decide (x = 0) || decide (x = 1)) (some (some (.int x), S)) none
      | _ => none
    | 2 => match st with
      | [] => some (none, S)
      | _ => none
    | _ => none) none
def rc_next (mi na0 pc : Nat) (ls st : List Value) (S : rc_S) : rc_O :=
  match rc_ic mi pc with
  | (_, g, o, n, a, b, v) => match g with
    | 0 => match rc_sA o n a v ls st with
      | some (n', ls', st') => .inr (.inl (n', ls', st', S))
      | none => .inl none
    | 1 => match rc_sB o st with
      | some (t, st') => .inr (.inl (cond t a n, ls, st', S))
      | none => .inl none
    | 2 => match rc_sC o a b st S with
      | some st' => .inr (.inl (n, ls, st', S))
      | none => .inl none
    | 3 => match rc_sD o a b st S with
      | some (st', σ') => .inr (.inl (n, ls, st', (σ', S.2.1, S.2.2)))
      | none => .inl none
    | 4 => match rc_sE o a b (na0 + rc_mc mi) ls st S with
      | some (st', S') => .inr (.inl (n, ls, st', S'))
      | none => .inl none
    | 5 => match st with
      | .int x :: st' => .inr (.inl (rc_swt (rc_sw mi pc) x, ls, st', S))
      | _ => .inl none
    | 6 => match rc_split (rc_nA a) [] st with
      | some (args, rest) => cond (Nat.ble (rc_wk rest) 8 && (rc_okc args && (rc_rcv o a S.2.2 args && (Nat.ble (S.2.2 + rc_mc a) (na0 + rc_mc mi) && (Nat.beq (rc_mc a) 0 || (rc_okl S.2.2 ls && rc_okl S.2.2 rest))))))
          (.inr (.inr (a, args, n, rest))) (.inl none)
      | none => .inl none
    | 7 => .inl (rc_ans mi na0 o st S)
    | 8 => match rc_sF o st with
      | some (y, st') => cond (Nat.ble (rc_wk st') 8) (.inr (.inl (n, ls, .int y :: st', S))) (.inl none)
      | none => .inl none
    | _ => .inl none
def rc_run : Nat → Nat → Nat → Nat → Nat → List Value → List Value → rc_S → Option (Option Value × rc_S)
  | 0, _, _, _, _, _, _, _ => none
  | f + 1, d, mi, na0, pc, ls, st, S =>
    match rc_next mi na0 pc ls st S with
    | .inl r => r
    | .inr (.inl (pc', ls', st', S')) => rc_run f d mi na0 pc' ls' st' S'
    | .inr (.inr (a, args, pc', rest)) => match d with
      | 0 => none
      | d' + 1 => match rc_run f d' a S.2.2 0 (rc_pad (rc_mx a) args) [] S with
        | none => none
        | some (r, S') => rc_run f (d' + 1) mi na0 pc' ls (r.toList ++ rest) S'
theorem rc_mono1 : ∀ (f d mi na0 pc : Nat) (ls st : List Value) (S : rc_S) (y : Option Value × rc_S), rc_run f d mi na0 pc ls st S = some y → rc_run (f + 1) d mi na0 pc ls st S = some y := by
  intro f
  induction f with
  | zero => intro d mi na0 pc ls st S y h; simp [rc_run] at h
  | succ f ih =>
    intro d mi na0 pc ls st S y h
    rw [rc_run] at h ⊢
    split at h
    · exact h
    · exact ih _ _ _ _ _ _ _ _ h
    · rename_i a args pc' rest e
      cases d with
      | zero => cases h
      | succ d' =>
        dsimp only at h ⊢
        cases hc : rc_run f d' a S.2.2 0 (rc_pad (rc_mx a) args) [] S with
        | none => rw [hc] at h; cases h
        | some z =>
          rw [hc] at h
          rw [ih _ _ _ _ _ _ _ _ hc]
          exact ih _ _ _ _ _ _ _ _ h
theorem rc_mono {f g d mi na0 pc : Nat} {ls st : List Value} {S : rc_S} {y : Option Value × rc_S} (h : rc_run f d mi na0 pc ls st S = some y) (hg : f ≤ g) : rc_run g d mi na0 pc ls st S = some y := by
  induction hg with
  | refl => exact h
  | step _ ih => exact rc_mono1 _ _ _ _ _ _ _ _ _ ih
/-- from here the method comes to an end, with an answer and a memory of which Q holds (all cells are made) -/
def rc_Tc (d mi pc : Nat) (ls st : List Value) (σ : rc_M) (Q : Option Value → rc_M → Prop) : Prop := ∃ (f : Nat) (r : Option Value) (σ' : rc_M), rc_run f d mi (rc_K - rc_mc mi) pc ls st (σ, rc_rho, rc_K) = some (r, (σ', rc_rho, rc_K)) ∧ Q r σ'
def rc_TI (d mi : Nat) (args : List Value) (σ : rc_M) (Q : Int32 → rc_M → Prop) : Prop := rc_Tc d mi 0 (rc_pad (rc_mx mi) args) [] σ (fun r σ' => ∃ x, r = some (.int x) ∧ Q x σ')
def rc_TV (d mi : Nat) (args : List Value) (σ : rc_M) (Q : rc_M → Prop) : Prop := rc_Tc d mi 0 (rc_pad (rc_mx mi) args) [] σ (fun r σ' => r = none ∧ Q σ')
theorem rc_Tc.step {d mi pc pc' : Nat} {ls st ls' st' : List Value} {σ σ' : rc_M} {Q : Option Value → rc_M → Prop} (h : rc_next mi (rc_K - rc_mc mi) pc ls st (σ, rc_rho, rc_K) = .inr (.inl (pc', ls', st', (σ', rc_rho, rc_K)))) (k : rc_Tc d mi pc' ls' st' σ' Q) : rc_Tc d mi pc ls st σ Q := by
  obtain ⟨f, r, σ2, h1, h2⟩ := k
  refine ⟨f + 1, r, σ2, ?_, h2⟩
  rw [rc_run, h]
  exact h1
theorem rc_Tc.call {d mi pc pc' a : Nat} (hmc : rc_mc a = 0) {ls st args rest : List Value} {σ : rc_M} {Q : Option Value → rc_M → Prop} (h : rc_next mi (rc_K - rc_mc mi) pc ls st (σ, rc_rho, rc_K) = .inr (.inr (a, args, pc', rest))) (k : rc_Tc d a 0 (rc_pad (rc_mx a) args) [] σ (fun r σ' => rc_Tc (d + 1) mi pc' ls (r.toList ++ rest) σ' Q)) : rc_Tc (d + 1) mi pc ls st σ Q := by
  obtain ⟨f, r, σ2, h1, f2, r2, σ3, h2, h3⟩ := k
  rw [hmc, Nat.sub_zero] at h1
  refine ⟨max f f2 + 1, r2, σ3, ?_, h3⟩
  rw [rc_run, h]
  dsimp only
  rw [rc_mono h1 (Nat.le_max_left f f2)]
  exact rc_mono h2 (Nat.le_max_right f f2)
theorem rc_Tc.done {d mi pc : Nat} {ls st : List Value} {σ : rc_M} {r : Option Value} {Q : Option Value → rc_M → Prop} (h : rc_next mi (rc_K - rc_mc mi) pc ls st (σ, rc_rho, rc_K) = .inl (some (r, (σ, rc_rho, rc_K)))) (k : Q r σ) : rc_Tc d mi pc ls st σ Q := by
  refine ⟨1, r, σ, ?_, k⟩
  rw [rc_run, h]
theorem rc_Tc.weak {d mi pc : Nat} {ls st : List Value} {σ : rc_M} {Q Q' : Option Value → rc_M → Prop} (h : rc_Tc d mi pc ls st σ Q) (k : ∀ r σ', Q r σ' → Q' r σ') : rc_Tc d mi pc ls st σ Q' := by
  obtain ⟨f, r, σ2, h1, h2⟩ := h
  exact ⟨f, r, σ2, h1, k _ _ h2⟩
theorem rc_TI.weak {d mi : Nat} {args : List Value} {σ : rc_M} {Q Q' : Int32 → rc_M → Prop} (h : rc_TI d mi args σ Q) (k : ∀ r σ', Q r σ' → Q' r σ') : rc_TI d mi args σ Q' := rc_Tc.weak h (fun _ _ ⟨x, e, q⟩ => ⟨x, e, k _ _ q⟩)
theorem rc_TV.weak {d mi : Nat} {args : List Value} {σ : rc_M} {Q Q' : rc_M → Prop} (h : rc_TV d mi args σ Q) (k : ∀ σ', Q σ' → Q' σ') : rc_TV d mi args σ Q' := rc_Tc.weak h (fun _ _ ⟨e, q⟩ => ⟨e, k _ q⟩)
