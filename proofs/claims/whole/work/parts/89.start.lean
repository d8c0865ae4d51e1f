section RSt
/-! from the law's start to its loop -/
def rc_wk1 (F d mi na0 : Nat) : Nat → Nat × List Value × List Value × rc_S → Option (Nat × List Value × List Value × rc_S)
  | 0, x => some x
  | n + 1, (pc, ls, st, S) => cond (rc_alw mi pc) (match rc_next mi na0 pc ls st S with
    | .inl _ => none
    | .inr (.inl y) => rc_wk1 F d mi na0 n y
    | .inr (.inr (a, args, pc', rest)) => match rc_rgd F d a S.2.2 0 (rc_pad (rc_mx a) args) [] S with
      | none => none
      | some (r, S') => rc_wk1 F d mi na0 n (pc', ls, r.toList ++ rest, S')) none
theorem rc_wk1_run {s0 s1 : Nat → Int32} {F d mi na0 : Nat} {z : Option Value × rc_S} : ∀ (n pc : Nat) (ls st : List Value) (S : rc_S) (pc' : Nat) (ls' st' : List Value) (S' : rc_S), rc_iv S → rc_wk1 F d mi na0 n (pc, ls, st, S) = some (pc', ls', st', S') → rc_iv S' ∧ ((∃ f, rc_run f (d + 1) mi na0 pc' ls' st' (rc_Ph s0 s1 S') = some z) → ∃ f, rc_run f (d + 1) mi na0 pc ls st (rc_Ph s0 s1 S) = some z) := by
  intro n
  induction n with
  | zero =>
    intro pc ls st S pc' ls' st' S' hS h
    rw [rc_wk1] at h
    cases h
    exact ⟨hS, id⟩
  | succ n ih =>
    intro pc ls st S pc' ls' st' S' hS h
    rw [rc_wk1] at h
    cases hal : rc_alw mi pc with
    | false => rw [hal] at h; cases h
    | true =>
      rw [hal, cond_true] at h
      obtain ⟨n1, n2, n3⟩ := rc_nx_ph (s0 := s0) (s1 := s1) (na0 := na0) (ls := ls) (st := st) hal hS
      rcases hn : rc_next mi na0 pc ls st S with y | ⟨pc1, ls1, st1, S1⟩ | ⟨a, args, pc1, rest⟩
      · rw [hn] at h; cases h
      · rw [hn] at h
        dsimp only at h
        obtain ⟨i1, i2⟩ := ih pc1 ls1 st1 S1 pc' ls' st' S' (n2 _ _ _ _ hn) h
        refine ⟨i1, fun hz => ?_⟩
        obtain ⟨f, hf⟩ := i2 hz
        refine ⟨f + 1, ?_⟩
        rw [rc_run, n1, hn]
        exact hf
      · rw [hn] at h
        dsimp only at h
        cases hc : rc_rgd F d a S.2.2 0 (rc_pad (rc_mx a) args) [] S with
        | none => rw [hc] at h; cases h
        | some w =>
          obtain ⟨r1, S1⟩ := w
          rw [hc] at h
          dsimp only at h
          obtain ⟨c1, c2⟩ := rc_rgd_run (s0 := s0) (s1 := s1) F d a S.2.2 0 (rc_pad (rc_mx a) args) [] S r1 S1 hS hc
          obtain ⟨i1, i2⟩ := ih pc1 ls (r1.toList ++ rest) S1 pc' ls' st' S' c2 h
          refine ⟨i1, fun hz => ?_⟩
          obtain ⟨f, hf⟩ := i2 hz
          refine ⟨max F f + 1, ?_⟩
          rw [rc_run, n1, hn]
          show (match rc_run (max F f) d a S.2.2 0 (rc_pad (rc_mx a) args) [] (rc_Ph s0 s1 S) with | none => none | some (r, S') => rc_run (max F f) (d + 1) mi na0 pc1 ls (r.toList ++ rest) S') = _
          rw [rc_mono c1 (Nat.le_max_left F f)]
          exact rc_mono hf (Nat.le_max_right F f)
def rc_x0 : Nat × List Value × List Value × rc_S := (0, rc_pad 4 [.ref 1], [], (fun _ _ => 0, fun _ _ => none, 2))
def rc_x1r : Option (Nat × List Value × List Value × rc_S) := rc_wk1 1000 11 189 2 10 rc_x0
def rc_lsB (ls : List Value) : Bool := match ls with
  | [.ref a, .ref b, .ref c, .int x] => Nat.beq a 1 && (Nat.beq b 2 && (Nat.beq c 80 && decide (x = 0)))
  | _ => false
def rc_stB (st : List Value) : Bool := match st with
  | [] => true
  | _ => false
def rc_val (n : Nat) (σ : rc_M) : Bool := rc_alls (fun i => decide (σ (9 + 2 * i) 0 = 0) && (decide (σ (9 + 2 * i) 1 = 0) && (rc_alls (fun v => decide (σ (10 + 2 * i) v = 0)) 3 && (decide (σ (9 + 2 * i) 3 = 0) && (decide (σ (9 + 2 * i) 4 = 0) && decide (σ (9 + 2 * i) 5 = -9)))))) n
def rc_valH (σ : rc_M) : Bool := decide (σ 3 1 = 0) && (decide (σ 3 3 = 0) && (decide (σ 3 4 = 0) && (decide (σ 3 7 = 0) && (decide (σ 59 1 = 0) && (decide (σ 2 10 = 0) && (decide (σ 2 2 = 0) && rc_alls (fun j => decide (σ 77 j = 0)) 7))))))
def rc_valM (σ : rc_M) : Bool := decide (σ 80 1 = 0) && (decide (σ 80 8 = 0) && (decide (σ 80 15 = 0) && (decide (σ 80 16 = 0) && (decide (σ 80 24 = 0) && (decide (σ 80 44 = 0) && (decide (σ 80 19 = 0) && (rc_alls (fun j => decide (σ 81 j = 0)) 7 && (rc_alls (fun k => decide (σ 98 k = rc_srt k)) 2 && rc_alls (fun k => decide (σ 99 k = rc_kds k)) 7))))))))
def rc_chk (y : Option (Nat × List Value × List Value × rc_S)) : Bool := match y with
  | some (pc, ls, st, S) => Nat.beq pc 18 && (rc_lsB ls && (rc_stB st && (Nat.beq S.2.2 111 && (rc_val 6 S.1 && (rc_valH S.1 && rc_valM S.1)))))
  | none => false
def rc_chr (y : Option (Nat × List Value × List Value × rc_S)) : Bool := match y with
  | some (_, _, _, S) => rc_alls (fun k => rc_alls (fun j => decide (S.2.1 k j = rc_rho k j)) 46) 111
  | none => false
theorem rc_chk_t : rc_chk rc_x1r = true := by decide +kernel
end RSt
