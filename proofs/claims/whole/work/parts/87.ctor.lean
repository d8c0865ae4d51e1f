section RCt
/-! what the constructors leave: they read no int, so they run alike whatever the script is -/
def rc_alw (mi pc : Nat) : Bool := match rc_ic mi pc with
  | (_, g, o, _, _, b, _) => match g with
    | 0 => true
    | 1 => true
    | 2 => Nat.beq o 10 || Nat.beq o 11
    | 3 => Nat.ble o 2
    | 4 => Nat.ble (b + 1) 46
    | 5 => true
    | 6 => true
    | 7 => true
    | _ => false
def rc_rgd : Nat → Nat → Nat → Nat → Nat → List Value → List Value → rc_S → Option (Option Value × rc_S)
  | 0, _, _, _, _, _, _, _ => none
  | f + 1, d, mi, na0, pc, ls, st, S => cond (rc_alw mi pc) (
    match rc_next mi na0 pc ls st S with
    | .inl r => r
    | .inr (.inl (pc', ls', st', S')) => rc_rgd f d mi na0 pc' ls' st' S'
    | .inr (.inr (a, args, pc', rest)) => match d with
      | 0 => none
      | d' + 1 => match rc_rgd f d' a S.2.2 0 (rc_pad (rc_mx a) args) [] S with
        | none => none
        | some (r, S') => rc_rgd f (d' + 1) mi na0 pc' ls (r.toList ++ rest) S') none
def rc_ph (s0 s1 : Nat → Int32) (σ : rc_M) : rc_M := fun k => if k = 0 then s0 else if k = 1 then s1 else σ k
def rc_Ph (s0 s1 : Nat → Int32) (S : rc_S) : rc_S := (rc_ph s0 s1 S.1, S.2)
def rc_iv (S : rc_S) : Prop := 2 ≤ S.2.2 ∧ ∀ k j, 46 ≤ j ∨ S.2.2 ≤ k → S.2.1 k j = none
theorem rc_ph_n {s0 s1 : Nat → Int32} {σ : rc_M} {k : Nat} (h : 2 ≤ k) : rc_ph s0 s1 σ k = σ k := by unfold rc_ph; rw [if_neg (by omega), if_neg (by omega)]
theorem rc_ph_up {s0 s1 : Nat → Int32} {σ : rc_M} {k : Nat} {f : Nat → Int32} (h : 2 ≤ k) : rc_up (rc_ph s0 s1 σ) k f = rc_ph s0 s1 (rc_up σ k f) := by
  funext k'
  unfold rc_up rc_ph
  by_cases e : k' = k
  · subst e
    show (if k' = k' then f else _) = (if k' = 0 then s0 else if k' = 1 then s1 else if k' = k' then f else σ k')
    rw [if_pos rfl, if_neg (by omega), if_neg (by omega), if_pos rfl]
  · show (if k' = k then f else if k' = 0 then s0 else if k' = 1 then s1 else σ k') = (if k' = 0 then s0 else if k' = 1 then s1 else if k' = k then f else σ k')
    rw [if_neg e, if_neg e]
theorem rc_okO_2 {k a na : Nat} (h : rc_okO k a na = true) : 2 ≤ k := by
  unfold rc_okO at h
  rw [Bool.and_eq_true] at h
  have h0 := Nat.eq_of_beq_eq_true h.1
  rcases Nat.lt_or_ge k 2 with z | z
  · have : k = 0 ∨ k = 1 := by omega
    rcases this with rfl | rfl
    · exact absurd h0 (by decide)
    · exact absurd h0 (by decide)
  · exact z
theorem rc_okA_2 {k t na : Nat} (h : rc_okA k t na = true) (ht : t = 2 ∨ t = 4) : 2 ≤ k := by
  unfold rc_okA at h
  rw [Bool.and_eq_true] at h
  have h0 := Nat.eq_of_beq_eq_true h.1
  rcases Nat.lt_or_ge k 2 with z | z
  · have : k = 0 ∨ k = 1 := by omega
    rcases this with rfl | rfl <;> rcases ht with rfl | rfl <;> exact absurd h0 (by decide)
  · exact z
theorem rc_sD_ph {s0 s1 : Nat → Int32} {o a b : Nat} {st : List Value} {S : rc_S} (ho : o ≤ 2) : rc_sD o a b st (rc_Ph s0 s1 S) = (rc_sD o a b st S).map (fun z => (z.1, rc_ph s0 s1 z.2)) := by
  have key : ∀ (c : Bool) (k : Nat) (x : Int32) (st' : List Value), (c = true → 2 ≤ k) → (cond c (some (st', rc_up (rc_ph s0 s1 S.1) k (upd (rc_ph s0 s1 S.1 k) b x))) none : Option (List Value × rc_M)) = (cond c (some (st', rc_up S.1 k (upd (S.1 k) b x))) none : Option (List Value × rc_M)).map (fun z => (z.1, rc_ph s0 s1 z.2)) := fun c k x st' hc => by
    cases c with
    | false => rfl
    | true =>
      have h2 := hc rfl
      rw [cond_true, cond_true, rc_ph_n h2, rc_ph_up h2]
      rfl
  have ho' : o = 0 ∨ o = 1 ∨ o = 2 := by omega
  cases st with
  | nil => rcases ho' with rfl | rfl | rfl <;> rfl
  | cons w0 st =>
    cases st with
    | nil => rcases ho' with rfl | rfl | rfl <;> cases w0 <;> rfl
    | cons w1 st =>
      cases w0 with
      | int x =>
        cases w1 with
        | ref k =>
          rcases ho' with rfl | rfl | rfl
          · exact key _ k x st (fun h => rc_okO_2 h)
          · exact key _ k x st (fun h => rc_okO_2 h)
          · exact key _ k x st (fun h => by rw [Bool.and_eq_true] at h; exact rc_okO_2 h.1)
        | _ => rcases ho' with rfl | rfl | rfl <;> rfl
      | _ => rcases ho' with rfl | rfl | rfl <;> rfl
theorem rc_sE_ph {s0 s1 : Nat → Int32} {o a b lim : Nat} {ls st : List Value} {S : rc_S} (hS : 2 ≤ S.2.2) : rc_sE o a b lim ls st (rc_Ph s0 s1 S) = (rc_sE o a b lim ls st S).map (fun z => (z.1, rc_Ph s0 s1 z.2)) := by
  have k1 : ∀ (c : Bool) (st' : List Value), (cond c (some (.ref S.2.2 :: st', (rc_up (rc_ph s0 s1 S.1) S.2.2 (fun _ => 0), rc_ur S.2.1 S.2.2 (fun _ => none), S.2.2 + 1))) none : Option (List Value × rc_S)) = (cond c (some (.ref S.2.2 :: st', (rc_up S.1 S.2.2 (fun _ => 0), rc_ur S.2.1 S.2.2 (fun _ => none), S.2.2 + 1))) none : Option (List Value × rc_S)).map (fun z => (z.1, rc_Ph s0 s1 z.2)) := fun c st' => by
    cases c with
    | false => rfl
    | true => rw [cond_true, cond_true, rc_ph_up hS]; rfl
  have k2 : ∀ (c : Bool) (st' : List Value) (ρ : rc_F), (cond c (some (st', (rc_ph s0 s1 S.1, ρ, S.2.2))) none : Option (List Value × rc_S)) = (cond c (some (st', (S.1, ρ, S.2.2))) none : Option (List Value × rc_S)).map (fun z => (z.1, rc_Ph s0 s1 z.2)) := fun c st' ρ => by cases c <;> rfl
  have k3 : ∀ (c : Bool) (k i : Nat) (x : Int32) (st' : List Value), (c = true → 2 ≤ k) → (cond c (some (st', (rc_up (rc_ph s0 s1 S.1) k (upd (rc_ph s0 s1 S.1 k) i x), S.2.1, S.2.2))) none : Option (List Value × rc_S)) = (cond c (some (st', (rc_up S.1 k (upd (S.1 k) i x), S.2.1, S.2.2))) none : Option (List Value × rc_S)).map (fun z => (z.1, rc_Ph s0 s1 z.2)) := fun c k i x st' hc => by
    cases c with
    | false => rfl
    | true =>
      have h2 := hc rfl
      rw [cond_true, cond_true, rc_ph_n h2, rc_ph_up h2]
      rfl
  match o with
  | 0 => exact k1 _ st
  | 1 =>
    cases st with
    | nil => rfl
    | cons w0 st =>
      cases w0 with
      | int n => exact k1 _ st
      | _ => rfl
  | 2 =>
    cases st with
    | nil => rfl
    | cons w0 st =>
      cases w0 with
      | int n => exact k1 _ st
      | _ => rfl
  | 3 =>
    cases st with
    | nil => rfl
    | cons w0 st =>
      cases st with
      | nil => cases w0 <;> rfl
      | cons w1 st =>
        cases w0 with
        | ref q =>
          cases w1 with
          | ref k => exact k2 _ st _
          | _ => rfl
        | _ => rfl
  | 4 =>
    cases st with
    | nil => rfl
    | cons w0 st =>
      cases st with
      | nil => cases w0 <;> rfl
      | cons w1 st =>
        cases st with
        | nil => cases w0 <;> cases w1 <;> rfl
        | cons w2 st =>
          cases w0 with
          | ref q =>
            cases w1 with
            | int i =>
              cases w2 with
              | ref k => exact k2 _ st _
              | _ => rfl
            | _ => rfl
          | _ => rfl
  | 5 =>
    cases st with
    | nil => rfl
    | cons w0 st =>
      cases st with
      | nil => cases w0 <;> rfl
      | cons w1 st =>
        cases st with
        | nil => cases w0 <;> cases w1 <;> rfl
        | cons w2 st =>
          cases w0 with
          | int x =>
            cases w1 with
            | int i =>
              cases w2 with
              | ref k => exact k3 _ k _ x st (fun h => by rw [Bool.and_eq_true] at h; exact rc_okA_2 h.1 (Or.inl rfl))
              | _ => rfl
            | _ => rfl
          | _ => rfl
  | k + 6 => rfl
end RCt
