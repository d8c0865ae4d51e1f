section RCu
variable {s0 s1 : Nat → Int32}
theorem rc_lay4_f : ∀ k, k < 111 → (rc_lay k).1 = 4 → (rc_lay k).2.2 ≤ 46 := by decide +kernel
theorem rc_lay4 {k : Nat} (h : (rc_lay k).1 = 4) : (rc_lay k).2.2 ≤ 46 := by
  rcases Nat.lt_or_ge k 111 with z | z
  · exact rc_lay4_f k z h
  · have e : Nat.ble 111 k = true := Nat.ble_eq.mpr z
    unfold rc_lay at h
    rw [e, cond_true] at h
    exact absurd h (by decide)
theorem rc_iv_new {S : rc_S} (hS : rc_iv S) {σ : rc_M} : rc_iv (σ, rc_ur S.2.1 S.2.2 (fun _ => none), S.2.2 + 1) := by
  refine ⟨by show 2 ≤ S.2.2 + 1; have := hS.1; omega, fun k j hk => ?_⟩
  have hk : 46 ≤ j ∨ S.2.2 + 1 ≤ k := hk
  show rc_ur S.2.1 S.2.2 (fun _ => none) k j = none
  unfold rc_ur
  split
  · rfl
  · exact hS.2 k j (by omega)
theorem rc_iv_put {S : rc_S} (hS : rc_iv S) {σ : rc_M} {k0 b q : Nat} (hb : b < 46) (hk0 : k0 < S.2.2) : rc_iv (σ, rc_ur S.2.1 k0 (fun j => if j = b then some q else S.2.1 k0 j), S.2.2) := by
  refine ⟨hS.1, fun k j hk => ?_⟩
  have hk : 46 ≤ j ∨ S.2.2 ≤ k := hk
  show rc_ur S.2.1 k0 (fun j => if j = b then some q else S.2.1 k0 j) k j = none
  unfold rc_ur
  split
  · rename_i e
    show (if j = b then some q else S.2.1 k0 j) = none
    rw [if_neg (by omega)]
    exact hS.2 k0 j (by omega)
  · exact hS.2 k j hk
theorem rc_okO_l {k a na : Nat} (h : rc_okO k a na = true) : k < na := by
  unfold rc_okO at h
  rw [Bool.and_eq_true, Bool.and_eq_true] at h
  exact Nat.le_of_ble_eq_true h.2.2
theorem rc_okA_l {k t na : Nat} (h : rc_okA k t na = true) : k < na ∧ (rc_lay k).1 = t := by
  unfold rc_okA at h
  rw [Bool.and_eq_true] at h
  exact ⟨Nat.le_of_ble_eq_true h.2, Nat.eq_of_beq_eq_true h.1⟩
theorem rc_cond_s {α : Type} {c : Bool} {x y : α} (h : cond c (some x) none = some y) : c = true ∧ x = y := by
  cases c with
  | false => cases h
  | true => exact ⟨rfl, Option.some.inj h⟩
theorem rc_sE_iv {o a b lim : Nat} {ls st st' : List Value} {S S' : rc_S} (hb : b < 46) (hS : rc_iv S) (h : rc_sE o a b lim ls st S = some (st', S')) : rc_iv S' := by
  match o with
  | 0 =>
    obtain ⟨_, e⟩ := rc_cond_s h
    cases e
    exact rc_iv_new hS
  | 1 =>
    cases st with
    | nil => cases h
    | cons w0 st =>
      cases w0 with
      | int n =>
        obtain ⟨_, e⟩ := rc_cond_s h
        cases e
        exact rc_iv_new hS
      | _ => cases h
  | 2 =>
    cases st with
    | nil => cases h
    | cons w0 st =>
      cases w0 with
      | int n =>
        obtain ⟨_, e⟩ := rc_cond_s h
        cases e
        exact rc_iv_new hS
      | _ => cases h
  | 3 =>
    cases st with
    | nil => cases h
    | cons w0 st =>
      cases st with
      | nil => cases w0 <;> cases h
      | cons w1 st =>
        cases w0 with
        | ref q =>
          cases w1 with
          | ref k =>
            obtain ⟨c, e⟩ := rc_cond_s h
            cases e
            rw [Bool.and_eq_true] at c
            exact rc_iv_put hS hb (rc_okO_l c.1)
          | _ => cases h
        | _ => cases h
  | 4 =>
    cases st with
    | nil => cases h
    | cons w0 st =>
      cases st with
      | nil => cases w0 <;> cases h
      | cons w1 st =>
        cases st with
        | nil => cases w0 <;> cases w1 <;> cases h
        | cons w2 st =>
          cases w0 with
          | ref q =>
            cases w1 with
            | int i =>
              cases w2 with
              | ref k =>
                obtain ⟨c, e⟩ := rc_cond_s h
                cases e
                rw [Bool.and_eq_true, Bool.and_eq_true] at c
                obtain ⟨c1, c2, c3⟩ := c
                obtain ⟨l1, l2⟩ := rc_okA_l c1
                have l3 := rc_lay4 l2
                have l4 : i.toNatClampNeg < (rc_lay k).2.2 := by
                  unfold rc_inb at c2
                  rw [Bool.not_eq_true', Bool.or_eq_false_iff] at c2
                  exact Nat.lt_of_not_le (of_decide_eq_false c2.2)
                exact rc_iv_put hS (by omega) l1
              | _ => cases h
            | _ => cases h
          | _ => cases h
  | 5 =>
    cases st with
    | nil => cases h
    | cons w0 st =>
      cases st with
      | nil => cases w0 <;> cases h
      | cons w1 st =>
        cases st with
        | nil => cases w0 <;> cases w1 <;> cases h
        | cons w2 st =>
          cases w0 with
          | int x =>
            cases w1 with
            | int i =>
              cases w2 with
              | ref k =>
                obtain ⟨c, e⟩ := rc_cond_s h
                cases e
                exact hS
              | _ => cases h
            | _ => cases h
          | _ => cases h
  | k + 6 => cases h
def rc_mox (φ : rc_S → rc_S) : rc_O → rc_O
  | .inl none => .inl none
  | .inl (some (r, S)) => .inl (some (r, φ S))
  | .inr (.inl (pc, ls, st, S)) => .inr (.inl (pc, ls, st, φ S))
  | .inr (.inr x) => .inr (.inr x)
theorem rc_ans_ph {mi na0 o : Nat} {st : List Value} {S : rc_S} : (Sum.inl (rc_ans mi na0 o st (rc_Ph s0 s1 S)) : rc_O) = rc_mox (rc_Ph s0 s1) (.inl (rc_ans mi na0 o st S)) ∧ ∀ r S', rc_ans mi na0 o st S = some (r, S') → S' = S := by
  unfold rc_ans
  have e : (rc_Ph s0 s1 S).2 = S.2 := rfl
  rw [e]
  cases Nat.beq S.2.2 (na0 + rc_mc mi) with
  | false => exact ⟨rfl, fun r S' h => by cases h⟩
  | true =>
    rw [cond_true, cond_true]
    match o with
    | 0 =>
      cases st with
      | nil => exact ⟨rfl, fun r S' h => by cases h⟩
      | cons w0 st =>
        cases st with
        | nil => cases w0 <;> exact ⟨rfl, fun r S' h => by cases h; try rfl⟩
        | cons w1 st => cases w0 <;> exact ⟨rfl, fun r S' h => by cases h⟩
    | 1 =>
      cases st with
      | nil => exact ⟨rfl, fun r S' h => by cases h⟩
      | cons w0 st =>
        cases st with
        | nil =>
          cases w0 with
          | int x =>
            show (Sum.inl (cond (decide (x = 0) || decide (x = 1)) (some (some (.int x), rc_Ph s0 s1 S)) none) : rc_O) = rc_mox (rc_Ph s0 s1) (.inl (cond (decide (x = 0) || decide (x = 1)) (some (some (.int x), S)) none)) ∧ ∀ r S', (cond (decide (x = 0) || decide (x = 1)) (some (some (.int x), S)) none : Option (Option Value × rc_S)) = some (r, S') → S' = S
            cases decide (x = 0) || decide (x = 1) with
            | false => exact ⟨rfl, fun r S' h => by cases h⟩
            | true => exact ⟨rfl, fun r S' h => by cases h; rfl⟩
          | _ => exact ⟨rfl, fun r S' h => by cases h⟩
        | cons w1 st => cases w0 <;> exact ⟨rfl, fun r S' h => by cases h⟩
    | 2 =>
      cases st with
      | nil => exact ⟨rfl, fun r S' h => by cases h; rfl⟩
      | cons w0 st => exact ⟨rfl, fun r S' h => by cases h⟩
    | k + 3 => exact ⟨rfl, fun r S' h => by cases h⟩
def rc_nb (mi na0 pc : Nat) (ls st : List Value) (S : rc_S) (g o n a b : Nat) (v : Int32) : rc_O := match g with
    | 0 => match rc_sA o n a v ls st with
      | some (n', ls', st') => .inr (.inl (n', ls', st', S))
      | none => .inl none
    | 1 => match rc_sB o st with
      | some (t, st') => .inr (.inl (cond t a n, ls, st', S))
      | none => .inl none
    | 2 => match rc_sC o a b st S with
      | some st' => .inr (.inl (n, ls, st', S))
      | none => .inl none
    | 3 => match rc_sD o a b st S with
      | some (st', σ') => .inr (.inl (n, ls, st', (σ', S.2.1, S.2.2)))
      | none => .inl none
    | 4 => match rc_sE o a b (na0 + rc_mc mi) ls st S with
      | some (st', S') => .inr (.inl (n, ls, st', S'))
      | none => .inl none
    | 5 => match st with
      | .int x :: st' => .inr (.inl (rc_swt (rc_sw mi pc) x, ls, st', S))
      | _ => .inl none
    | 6 => match rc_split (rc_nA a) [] st with
      | some (args, rest) => cond (Nat.ble (rc_wk rest) 8 && (rc_okc args && (rc_rcv o a S.2.2 args && (Nat.ble (S.2.2 + rc_mc a) (na0 + rc_mc mi) && (Nat.beq (rc_mc a) 0 || (rc_okl S.2.2 ls && rc_okl S.2.2 rest))))))
          (.inr (.inr (a, args, n, rest))) (.inl none)
      | none => .inl none
    | 7 => .inl (rc_ans mi na0 o st S)
    | 8 => match rc_sF o st with
      | some (y, st') => cond (Nat.ble (rc_wk st') 8) (.inr (.inl (n, ls, .int y :: st', S))) (.inl none)
      | none => .inl none
    | _ => .inl none
theorem rc_nb_e {mi na0 pc : Nat} {ls st : List Value} {S : rc_S} : rc_next mi na0 pc ls st S = rc_nb mi na0 pc ls st S (rc_ic mi pc).2.1 (rc_ic mi pc).2.2.1 (rc_ic mi pc).2.2.2.1 (rc_ic mi pc).2.2.2.2.1 (rc_ic mi pc).2.2.2.2.2.1 (rc_ic mi pc).2.2.2.2.2.2 := rfl
def rc_Rn (φ : rc_S → rc_S) (S : rc_S) (x y : rc_O) : Prop := x = rc_mox φ y ∧ (∀ pc' ls' st' S', y = .inr (.inl (pc', ls', st', S')) → rc_iv S') ∧ ∀ r S', y = .inl (some (r, S')) → S' = S
theorem rc_Rn_n {φ : rc_S → rc_S} {S : rc_S} : rc_Rn φ S (.inl none) (.inl none) := ⟨rfl, fun _ _ _ _ q => by (cases q), fun _ _ q => by cases q⟩
theorem rc_Rn_s {φ : rc_S → rc_S} {S S1 : rc_S} {pc : Nat} {ls st : List Value} (h : rc_iv S1) : rc_Rn φ S (.inr (.inl (pc, ls, st, φ S1))) (.inr (.inl (pc, ls, st, S1))) := ⟨rfl, fun _ _ _ _ q => by cases q; exact h, fun _ _ q => by cases q⟩
theorem rc_Rn_c {φ : rc_S → rc_S} {S : rc_S} {x : Nat × List Value × Nat × List Value} : rc_Rn φ S (.inr (.inr x)) (.inr (.inr x)) := ⟨rfl, fun _ _ _ _ q => by (cases q), fun _ _ q => by cases q⟩
theorem rc_nb_0 {mi na0 pc o n a b : Nat} {v : Int32} {ls st : List Value} {S : rc_S} (hS : rc_iv S) : rc_Rn (rc_Ph s0 s1) S (rc_nb mi na0 pc ls st (rc_Ph s0 s1 S) 0 o n a b v) (rc_nb mi na0 pc ls st S 0 o n a b v) := by
  show rc_Rn (rc_Ph s0 s1) S (match rc_sA o n a v ls st with | some (n', ls', st') => .inr (.inl (n', ls', st', rc_Ph s0 s1 S)) | none => .inl none) (match rc_sA o n a v ls st with | some (n', ls', st') => .inr (.inl (n', ls', st', S)) | none => .inl none)
  cases rc_sA o n a v ls st with
  | none => exact rc_Rn_n
  | some z => exact rc_Rn_s hS
theorem rc_nb_1 {mi na0 pc o n a b : Nat} {v : Int32} {ls st : List Value} {S : rc_S} (hS : rc_iv S) : rc_Rn (rc_Ph s0 s1) S (rc_nb mi na0 pc ls st (rc_Ph s0 s1 S) 1 o n a b v) (rc_nb mi na0 pc ls st S 1 o n a b v) := by
  show rc_Rn (rc_Ph s0 s1) S (match rc_sB o st with | some (t, st') => .inr (.inl (cond t a n, ls, st', rc_Ph s0 s1 S)) | none => .inl none) (match rc_sB o st with | some (t, st') => .inr (.inl (cond t a n, ls, st', S)) | none => .inl none)
  cases rc_sB o st with
  | none => exact rc_Rn_n
  | some z => exact rc_Rn_s hS
theorem rc_nb_2 {mi na0 pc o n a b : Nat} {v : Int32} {ls st : List Value} {S : rc_S} (hS : rc_iv S) (h : (Nat.beq o 10 || Nat.beq o 11) = true) : rc_Rn (rc_Ph s0 s1) S (rc_nb mi na0 pc ls st (rc_Ph s0 s1 S) 2 o n a b v) (rc_nb mi na0 pc ls st S 2 o n a b v) := by
  rw [Bool.or_eq_true] at h
  have ho : o = 10 ∨ o = 11 := h.elim (fun z => Or.inl (Nat.eq_of_beq_eq_true z)) (fun z => Or.inr (Nat.eq_of_beq_eq_true z))
  have e : rc_sC o a b st (rc_Ph s0 s1 S) = rc_sC o a b st S := by rcases ho with rfl | rfl <;> simp only [rc_sC, rc_Ph]
  show rc_Rn (rc_Ph s0 s1) S (match rc_sC o a b st (rc_Ph s0 s1 S) with | some st' => .inr (.inl (n, ls, st', rc_Ph s0 s1 S)) | none => .inl none) (match rc_sC o a b st S with | some st' => .inr (.inl (n, ls, st', S)) | none => .inl none)
  rw [e]
  cases rc_sC o a b st S with
  | none => exact rc_Rn_n
  | some z => exact rc_Rn_s hS
theorem rc_nb_3 {mi na0 pc o n a b : Nat} {v : Int32} {ls st : List Value} {S : rc_S} (hS : rc_iv S) (h : Nat.ble o 2 = true) : rc_Rn (rc_Ph s0 s1) S (rc_nb mi na0 pc ls st (rc_Ph s0 s1 S) 3 o n a b v) (rc_nb mi na0 pc ls st S 3 o n a b v) := by
  show rc_Rn (rc_Ph s0 s1) S (match rc_sD o a b st (rc_Ph s0 s1 S) with | some (st', σ') => .inr (.inl (n, ls, st', (σ', S.2.1, S.2.2))) | none => .inl none) (match rc_sD o a b st S with | some (st', σ') => .inr (.inl (n, ls, st', (σ', S.2.1, S.2.2))) | none => .inl none)
  rw [rc_sD_ph (Nat.le_of_ble_eq_true h)]
  cases rc_sD o a b st S with
  | none => exact rc_Rn_n
  | some z => exact rc_Rn_s (S1 := (z.2, S.2.1, S.2.2)) hS
theorem rc_nb_4 {mi na0 pc o n a b : Nat} {v : Int32} {ls st : List Value} {S : rc_S} (hS : rc_iv S) (h : Nat.ble (b + 1) 46 = true) : rc_Rn (rc_Ph s0 s1) S (rc_nb mi na0 pc ls st (rc_Ph s0 s1 S) 4 o n a b v) (rc_nb mi na0 pc ls st S 4 o n a b v) := by
  show rc_Rn (rc_Ph s0 s1) S (match rc_sE o a b (na0 + rc_mc mi) ls st (rc_Ph s0 s1 S) with | some (st', S') => .inr (.inl (n, ls, st', S')) | none => .inl none) (match rc_sE o a b (na0 + rc_mc mi) ls st S with | some (st', S') => .inr (.inl (n, ls, st', S')) | none => .inl none)
  rw [rc_sE_ph hS.1]
  cases hE : rc_sE o a b (na0 + rc_mc mi) ls st S with
  | none => exact rc_Rn_n
  | some z =>
    obtain ⟨st', S'⟩ := z
    exact rc_Rn_s (rc_sE_iv (Nat.le_of_ble_eq_true h) hS hE)
theorem rc_nb_5 {mi na0 pc o n a b : Nat} {v : Int32} {ls st : List Value} {S : rc_S} (hS : rc_iv S) : rc_Rn (rc_Ph s0 s1) S (rc_nb mi na0 pc ls st (rc_Ph s0 s1 S) 5 o n a b v) (rc_nb mi na0 pc ls st S 5 o n a b v) := by
  cases st with
  | nil => exact rc_Rn_n
  | cons w0 st =>
    cases w0 with
    | int x => exact rc_Rn_s hS
    | _ => exact rc_Rn_n
theorem rc_nb_6 {mi na0 pc o n a b : Nat} {v : Int32} {ls st : List Value} {S : rc_S} (hS : rc_iv S) : rc_Rn (rc_Ph s0 s1) S (rc_nb mi na0 pc ls st (rc_Ph s0 s1 S) 6 o n a b v) (rc_nb mi na0 pc ls st S 6 o n a b v) := by
  show rc_Rn (rc_Ph s0 s1) S (match rc_split (rc_nA a) [] st with | some (args, rest) => cond (Nat.ble (rc_wk rest) 8 && (rc_okc args && (rc_rcv o a S.2.2 args && (Nat.ble (S.2.2 + rc_mc a) (na0 + rc_mc mi) && (Nat.beq (rc_mc a) 0 || (rc_okl S.2.2 ls && rc_okl S.2.2 rest)))))) (.inr (.inr (a, args, n, rest))) (.inl none) | none => .inl none) (match rc_split (rc_nA a) [] st with | some (args, rest) => cond (Nat.ble (rc_wk rest) 8 && (rc_okc args && (rc_rcv o a S.2.2 args && (Nat.ble (S.2.2 + rc_mc a) (na0 + rc_mc mi) && (Nat.beq (rc_mc a) 0 || (rc_okl S.2.2 ls && rc_okl S.2.2 rest)))))) (.inr (.inr (a, args, n, rest))) (.inl none) | none => .inl none)
  cases rc_split (rc_nA a) [] st with
  | none => exact rc_Rn_n
  | some z =>
    obtain ⟨args, rest⟩ := z
    dsimp only
    cases Nat.ble (rc_wk rest) 8 && (rc_okc args && (rc_rcv o a S.2.2 args && (Nat.ble (S.2.2 + rc_mc a) (na0 + rc_mc mi) && (Nat.beq (rc_mc a) 0 || (rc_okl S.2.2 ls && rc_okl S.2.2 rest))))) with
    | false => exact rc_Rn_n
    | true => exact rc_Rn_c
theorem rc_nb_7 {mi na0 pc o n a b : Nat} {v : Int32} {ls st : List Value} {S : rc_S} (hS : rc_iv S) : rc_Rn (rc_Ph s0 s1) S (rc_nb mi na0 pc ls st (rc_Ph s0 s1 S) 7 o n a b v) (rc_nb mi na0 pc ls st S 7 o n a b v) := by
  obtain ⟨a1, a2⟩ := rc_ans_ph (s0 := s0) (s1 := s1) (mi := mi) (na0 := na0) (o := o) (st := st) (S := S)
  exact ⟨a1, fun _ _ _ _ q => by (cases q), fun r S' q => a2 r S' (Sum.inl.inj q)⟩
theorem rc_nx_ph {mi na0 pc : Nat} {ls st : List Value} {S : rc_S} (h : rc_alw mi pc = true) (hS : rc_iv S) : rc_Rn (rc_Ph s0 s1) S (rc_next mi na0 pc ls st (rc_Ph s0 s1 S)) (rc_next mi na0 pc ls st S) := by
  rw [rc_nb_e, rc_nb_e]
  unfold rc_alw at h
  generalize rc_ic mi pc = ic at h ⊢
  obtain ⟨hd, g, o, n, a, b, v⟩ := ic
  match g, h with
  | 0, _ => exact rc_nb_0 hS
  | 1, _ => exact rc_nb_1 hS
  | 2, h => exact rc_nb_2 hS h
  | 3, h => exact rc_nb_3 hS h
  | 4, h => exact rc_nb_4 hS h
  | 5, _ => exact rc_nb_5 hS
  | 6, _ => exact rc_nb_6 hS
  | 7, _ => exact rc_nb_7 hS
  | k + 8, h => exact absurd (show false = true from h) (by decide)
theorem rc_rgd_run : ∀ (f d mi na0 pc : Nat) (ls st : List Value) (S : rc_S) (r : Option Value) (S' : rc_S), rc_iv S → rc_rgd f d mi na0 pc ls st S = some (r, S') → rc_run f d mi na0 pc ls st (rc_Ph s0 s1 S) = some (r, rc_Ph s0 s1 S') ∧ rc_iv S' := by
  intro f
  induction f with
  | zero => intro d mi na0 pc ls st S r S' _ h; cases h
  | succ f ih =>
    intro d mi na0 pc ls st S r S' hS h
    rw [rc_rgd] at h
    cases hal : rc_alw mi pc with
    | false => rw [hal] at h; cases h
    | true =>
      rw [hal, cond_true] at h
      obtain ⟨n1, n2, n3⟩ := rc_nx_ph (s0 := s0) (s1 := s1) (na0 := na0) (ls := ls) (st := st) hal hS
      rw [rc_run, n1]
      rcases hn : rc_next mi na0 pc ls st S with y | ⟨pc', ls', st', S1⟩ | ⟨a, args, pc', rest⟩
      · rw [hn] at h
        dsimp only at h
        subst h
        have := n3 r S' hn
        subst this
        exact ⟨rfl, hS⟩
      · rw [hn] at h
        dsimp only at h
        exact ih d mi na0 pc' ls' st' S1 r S' (n2 _ _ _ _ hn) h
      · rw [hn] at h
        dsimp only at h
        cases d with
        | zero => cases h
        | succ d' =>
          dsimp only at h
          cases hc : rc_rgd f d' a S.2.2 0 (rc_pad (rc_mx a) args) [] S with
          | none => rw [hc] at h; cases h
          | some z =>
            obtain ⟨r1, S1⟩ := z
            rw [hc] at h
            dsimp only at h
            obtain ⟨i1, i2⟩ := ih d' a S.2.2 0 (rc_pad (rc_mx a) args) [] S r1 S1 hS hc
            obtain ⟨j1, j2⟩ := ih (d' + 1) mi na0 pc' ls (r1.toList ++ rest) S1 r S' i2 h
            refine ⟨?_, j2⟩
            show (match rc_run f d' a S.2.2 0 (rc_pad (rc_mx a) args) [] (rc_Ph s0 s1 S) with | none => none | some (r, S') => rc_run f (d' + 1) mi na0 pc' ls (r.toList ++ rest) S') = _
            rw [i1]
            exact j1
end RCu
