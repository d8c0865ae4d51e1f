/-! symbolic execution: what must hold so that the method ends as Q says; it stops at the heads of loops -/
def rc_swP : Nat → List Nat → Int32 → (Nat → Prop) → Prop
  | _, [], _, _ => True
  | lo, t :: ts, x, K => (x = nI lo → K t) ∧ rc_swP (lo + 1) ts x K
def rc_aft (b d a : Nat) (args : List Value) (σ : rc_M) (KV : rc_M → Prop) (KI : Int32 → rc_M → Prop) : Prop := match b with
  | 0 => rc_TV d a args σ KV
  | _ => rc_TI d a args σ KI
def rc_x1 (fl : Bool) (d mi pc : Nat) (ls st : List Value) (σ : rc_M) (Q : Option Value → rc_M → Prop) (K : Nat → List Value → List Value → rc_M → Prop) : Prop :=
    match rc_ic mi pc with
    | (hd, g, o, n, a, b, v) =>
      cond (Nat.beq hd 1 && fl) (rc_Tc d mi pc ls st σ Q) (match g with
      | 0 => match rc_sA o n a v ls st with
        | some (n', ls', st') => K n' ls' st' σ
        | none => False
      | 1 => match o with
        | 0 => match st with
          | .int y :: .int x :: st => (x = y → K a ls st σ) ∧ (¬ x = y → K n ls st σ)
          | _ => False
        | 1 => match st with
          | .int y :: .int x :: st => (¬ x = y → K a ls st σ) ∧ (x = y → K n ls st σ)
          | _ => False
        | 2 => match st with
          | .int y :: .int x :: st => (x < y → K a ls st σ) ∧ (¬ x < y → K n ls st σ)
          | _ => False
        | 3 => match st with
          | .int y :: .int x :: st => (y ≤ x → K a ls st σ) ∧ (¬ y ≤ x → K n ls st σ)
          | _ => False
        | 4 => match st with
          | .int y :: .int x :: st => (y < x → K a ls st σ) ∧ (¬ y < x → K n ls st σ)
          | _ => False
        | 5 => match st with
          | .int y :: .int x :: st => (x ≤ y → K a ls st σ) ∧ (¬ x ≤ y → K n ls st σ)
          | _ => False
        | 6 => match st with
          | .int x :: st => (x = 0 → K a ls st σ) ∧ (¬ x = 0 → K n ls st σ)
          | _ => False
        | 7 => match st with
          | .int x :: st => (¬ x = 0 → K a ls st σ) ∧ (x = 0 → K n ls st σ)
          | _ => False
        | 8 => match st with
          | .int x :: st => (x < 0 → K a ls st σ) ∧ (¬ x < 0 → K n ls st σ)
          | _ => False
        | 9 => match st with
          | .int x :: st => (0 ≤ x → K a ls st σ) ∧ (¬ 0 ≤ x → K n ls st σ)
          | _ => False
        | 10 => match st with
          | .int x :: st => (0 < x → K a ls st σ) ∧ (¬ 0 < x → K n ls st σ)
          | _ => False
        | 11 => match st with
          | .int x :: st => (x ≤ 0 → K a ls st σ) ∧ (¬ x ≤ 0 → K n ls st σ)
          | _ => False
        | _ => False
      | 2 => match o with
        | 0 => match st with
          | .int y :: .int x :: st => ¬ y = 0 ∧ K n ls (.int (x / y) :: st) σ
          | _ => False
        | 1 => match st with
          | .int y :: .int x :: st => ¬ y = 0 ∧ K n ls (.int (x - x / y * y) :: st) σ
          | _ => False
        | 2 => match st with
          | .int i :: .ref k :: st => cond (Nat.beq (rc_lay k).1 1) (vp_in i (rc_lay k).2.2 ∧ K n ls (.int (σ k i.toNatClampNeg) :: st) σ) False
          | _ => False
        | 3 => match st with
          | .int i :: .ref k :: st => (rc_lay k).1 = 1 ∧ vp_in i (rc_lay k).2.2 ∧ K n ls (.int (σ k i.toNatClampNeg) :: st) σ
          | _ => False
        | 4 => match st with
          | .int i :: .ref k :: st => ∃ q, (rc_lay k).1 = 4 ∧ vp_in i (rc_lay k).2.2 ∧ rc_rho k i.toNatClampNeg = some q ∧ K n ls (.ref q :: st) σ
          | _ => False
        | 5 => match st with
          | .int i :: .ref k :: st => (rc_lay k).1 = 2 ∧ vp_in i (rc_lay k).2.2 ∧ K n ls (.int (σ k i.toNatClampNeg) :: st) σ
          | _ => False
        | 6 => match st with
          | .int i :: .ref k :: st => cond (Nat.beq (rc_lay k).1 3) (vp_in i (rc_lay k).2.2 ∧ K n ls (.int (σ k i.toNatClampNeg) :: st) σ) False
          | _ => False
        | 7 => match st with
          | .ref k :: st => ((rc_lay k).1 = 1 ∨ (rc_lay k).1 = 2) ∧ 2 ≤ k ∧ K n ls (.int (nI (rc_lay k).2.2) :: st) σ
          | _ => False
        | 8 => match st with
          | .ref k :: st => cond (rc_okO k a rc_K) (K n ls (.int (σ k b) :: st) σ) False
          | _ => False
        | 9 => match st with
          | .ref k :: st => rc_isO k a ∧ K n ls (.int (σ k b) :: st) σ
          | _ => False
        | 10 => match st with
          | .ref k :: st => cond (rc_okO k a rc_K) (match rc_rho k b with | some q => K n ls (.ref q :: st) σ | none => False) False
          | _ => False
        | 11 => match st with
          | .ref k :: st => ∃ q, rc_isO k a ∧ rc_rho k b = some q ∧ K n ls (.ref q :: st) σ
          | _ => False
        | 12 => match st with
          | .int i :: .ref k :: st => cond (Nat.beq k 1) (vp_in i (σ 1 320).toNatClampNeg ∧ K n ls (.int (σ 1 i.toNatClampNeg) :: st) σ) False
          | _ => False
        | 13 => match st with
          | .ref k :: st => cond (Nat.beq k 1) (K n ls (.int (nI (σ 1 320).toNatClampNeg) :: st) σ) False
          | _ => False
        | _ => False
      | 3 => match o with
        | 0 => match st with
          | .int x :: .ref k :: st => cond (rc_okO k a rc_K) (K n ls st (rc_up σ k (upd (σ k) b x))) False
          | _ => False
        | 1 => match st with
          | .int x :: .ref k :: st => rc_isO k a ∧ K n ls st (rc_up σ k (upd (σ k) b x))
          | _ => False
        | 2 => match st with
          | .int x :: .ref k :: st => cond (rc_okO k a rc_K) ((x = 0 ∨ x = 1) ∧ K n ls st (rc_up σ k (upd (σ k) b x))) False
          | _ => False
        | 3 => match st with
          | .int x :: .int i :: .ref k :: st => cond (Nat.beq (rc_lay k).1 1 && Nat.ble 2 k) (vp_in i (rc_lay k).2.2 ∧ K n ls st (rc_up σ k (upd (σ k) i.toNatClampNeg x))) False
          | _ => False
        | 4 => match st with
          | .int x :: .int i :: .ref k :: st => (rc_lay k).1 = 1 ∧ 2 ≤ k ∧ vp_in i (rc_lay k).2.2 ∧ K n ls st (rc_up σ k (upd (σ k) i.toNatClampNeg x))
          | _ => False
        | 5 => match st with
          | .int x :: .int i :: .ref k :: st => cond (Nat.beq (rc_lay k).1 3) ((x = 0 ∨ x = 1) ∧ vp_in i (rc_lay k).2.2 ∧ K n ls st (rc_up σ k (upd (σ k) i.toNatClampNeg x))) False
          | _ => False
        | 6 => match st with
          | .int z :: .int dp :: .ref k2 :: .int sp :: .ref k1 :: st => cond (Nat.ble (rc_wk st) 8) (((rc_lay k1).1 = 1 ∧ (rc_lay k2).1 = 1 ∧ 2 ≤ k1 ∧ 2 ≤ k2 ∧ ¬ sp < 0 ∧ ¬ dp < 0 ∧ ¬ z < 0 ∧ sp.toNatClampNeg + z.toNatClampNeg ≤ (rc_lay k1).2.2 ∧ dp.toNatClampNeg + z.toNatClampNeg ≤ (rc_lay k2).2.2) ∧ K n ls st (rc_up σ k2 (va_cpy (σ k1) (σ k2) sp.toNatClampNeg dp.toNatClampNeg z.toNatClampNeg))) False
          | _ => False
        | _ => False
      | 5 => match st with
        | .int x :: st => match rc_sw mi pc with
          | (lo, ts, df) => rc_swP lo ts x (fun t => K t ls st σ) ∧ (x.toInt < (lo : Int) ∨ (lo : Int) + (ts.length : Int) ≤ x.toInt → K df ls st σ)
        | _ => False
      | 6 => match rc_split (rc_nA a) [] st with
        | some (args, rest) => cond (Nat.ble (rc_wk rest) 8 && (rc_okc args && Nat.beq (rc_mc a) 0)) (match d with
          | 0 => False
          | d' + 1 => match o with
            | 0 => rc_aft b d' a args σ (fun σ' => K n ls rest σ') (fun x σ' => K n ls (.int x :: rest) σ')
            | 1 => rc_aft b d' a args σ (fun σ' => K n ls rest σ') (fun x σ' => K n ls (.int x :: rest) σ')
            | 2 => match args with
              | .ref k :: _ => cond (rc_okO k (rc_cn a) rc_K) (rc_aft b d' a args σ (fun σ' => K n ls rest σ') (fun x σ' => K n ls (.int x :: rest) σ')) False
              | _ => False
            | 3 => match args with
              | .ref k :: _ => rc_isO k (rc_cn a) ∧ (rc_aft b d' a args σ (fun σ' => K n ls rest σ') (fun x σ' => K n ls (.int x :: rest) σ'))
              | _ => False
            | _ => False) False
        | none => False
      | 7 => cond (Nat.beq rc_K (rc_K - rc_mc mi + rc_mc mi)) (match o with
        | 0 => match st with
          | [.int x] => Q (some (.int x)) σ
          | _ => False
        | 1 => match st with
          | [.int x] => (x = 0 ∨ x = 1) ∧ Q (some (.int x)) σ
          | _ => False
        | 2 => match st with
          | [] => Q none σ
          | _ => False
        | _ => False) False
      | 8 => match rc_sF o st with
        | some (y, st') => cond (Nat.ble (rc_wk st') 8) (K n ls (.int y :: st') σ) False
        | none => False
      | _ => False)
def rc_sx : Nat → Bool → Nat → Nat → Nat → List Value → List Value → rc_M → (Option Value → rc_M → Prop) → Prop
  | 0, _, d, mi, pc, ls, st, σ, Q => rc_Tc d mi pc ls st σ Q
  | f + 1, fl, d, mi, pc, ls, st, σ, Q => rc_x1 fl d mi pc ls st σ Q (fun pc' ls' st' σ' => rc_sx f true d mi pc' ls' st' σ' Q)
theorem rc_cond_t {b : Bool} {A : Prop} (h : cond b A False) : b = true ∧ A := by
  cases b with
  | true => exact ⟨rfl, h⟩
  | false => exact h.elim
theorem rc_lay_K (k : Nat) (h : ¬ (rc_lay k).1 = 9) : Nat.ble (k + 1) rc_K = true := by
  rw [Nat.ble_eq]
  refine Nat.lt_of_not_le (fun z => h ?_)
  have e : Nat.ble 111 k = true := Nat.ble_eq.mpr z
  unfold rc_lay
  rw [e]
  rfl
theorem rc_isO.ok {k a : Nat} (h : rc_isO k a) : rc_okO k a rc_K = true := by
  unfold rc_okO
  rw [h.1, h.2, rc_lay_K k (by rw [h.1]; decide)]
  simp
theorem rc_okA.of {k t : Nat} (h : (rc_lay k).1 = t) (ht : ¬ t = 9) : rc_okA k t rc_K = true := by
  unfold rc_okA
  rw [rc_lay_K k (by rw [h]; exact ht), h]
  simp
theorem rc_swP_at : ∀ (ts : List Nat) (lo : Nat) (x : Int32) (K : Nat → Prop), rc_swP lo ts x K → ∀ (i t : Nat), ts[i]? = some t → x = nI (lo + i) → K t := by
  intro ts
  induction ts with
  | nil => intro lo x K _ i t h; simp at h
  | cons u ts ih =>
    intro lo x K h i t hi hx
    cases i with
    | zero =>
      rw [List.getElem?_cons_zero] at hi
      cases hi
      exact h.1 hx
    | succ i =>
      rw [List.getElem?_cons_succ] at hi
      exact ih (lo + 1) x K h.2 i t hi (by rw [hx]; congr 1; omega)
theorem rc_01 {x : Int32} (h : x = 0 ∨ x = 1) : (decide (x = 0) || decide (x = 1)) = true := by
  rcases h with rfl | rfl <;> rfl
theorem rc_2k {k : Nat} (h : 2 ≤ k) : Nat.ble 2 k = true := Nat.ble_eq.mpr h
