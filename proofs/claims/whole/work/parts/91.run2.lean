section RSu3
def rc_V0 : rc_V := fun _ _ => 0
def rc_P0 : rc_P := (rc_V0, rc_V0, false, fun _ => 0, 0, fun _ => 0, 0, fun _ => 0)
theorem rc_WF0 : rc_WF 0 rc_V0 := ⟨Nat.zero_le _, Nat.zero_le _, Nat.zero_le _, Nat.zero_le _, fun i _ => ⟨by show 0 < 7; decide, by show 0 < 3; decide, fun v _ => by show 0 < 3; decide, Nat.zero_le _, Nat.zero_le _, Nat.zero_le _⟩, fun g hg => absurd hg (Nat.not_lt_zero g), fun u hu => absurd hu (Nat.not_lt_zero u)⟩
theorem rc_W20 : rc_W2 rc_V0 := fun g _ _ hg => absurd hg (Nat.not_lt_zero g)
theorem rc_WI0 : rc_WI 0 rc_P0 := ⟨⟨rc_WF0, fun _ => rc_WF0, ⟨Nat.zero_le _, fun j hj => absurd hj (Nat.not_lt_zero j)⟩, Nat.zero_le _, fun j hj => absurd hj (Nat.not_lt_zero j)⟩, rc_W20, fun _ => rc_W20⟩
theorem rc_start : ∃ S : rc_S, rc_x1r = some (18, [.ref 1, .ref 2, .ref 80, .int 0], [], S) ∧ S.2.2 = 111 ∧ rc_val 6 S.1 = true ∧ rc_valH S.1 = true ∧ rc_valM S.1 = true ∧ ∀ k j, k < 111 → j < 46 → S.2.1 k j = rc_rho k j := by
  have h1 := rc_chk_t
  have h2 := rc_chr_t
  generalize hy : rc_x1r = y at h1 h2 ⊢
  clear hy
  cases y with
  | some y =>
    obtain ⟨pc, ls, st, S⟩ := y
    have h1 : (Nat.beq pc 18 && (rc_lsB ls && (rc_stB st && (Nat.beq S.2.2 111 && (rc_val 6 S.1 && (rc_valH S.1 && rc_valM S.1)))))) = true := h1
    have h2 : rc_alls (fun k => rc_alls (fun j => decide (S.2.1 k j = rc_rho k j)) 46) 111 = true := h2
    rw [Bool.and_eq_true, Bool.and_eq_true, Bool.and_eq_true, Bool.and_eq_true, Bool.and_eq_true, Bool.and_eq_true] at h1
    obtain ⟨a1, a2, a3, a4, a5, a6, a7⟩ := h1
    have e1 := Nat.eq_of_beq_eq_true a1
    have e3 : st = [] := by
      cases st with
      | nil => rfl
      | cons w st => exact absurd (show false = true from a3) (by decide)
    have e2 : ls = [.ref 1, .ref 2, .ref 80, .int 0] := by
      unfold rc_lsB at a2
      split at a2
      · rw [Bool.and_eq_true, Bool.and_eq_true, Bool.and_eq_true] at a2
        obtain ⟨b1, b2, b3, b4⟩ := a2
        rw [Nat.eq_of_beq_eq_true b1, Nat.eq_of_beq_eq_true b2, Nat.eq_of_beq_eq_true b3, of_decide_eq_true b4]
      · exact absurd a2 (by decide)
    subst e1; subst e3; subst e2
    exact ⟨S, rfl, Nat.eq_of_beq_eq_true a4, a5, a6, a7, fun k j hk hj => of_decide_eq_true (rc_alls_t (rc_alls_t h2 k hk) j hj)⟩
  | none => exact absurd (show false = true from h1) (by decide)
theorem rc_law_run {N : Nat} {sc : Nat → Int32} (hN : N ≤ 320) (hs : (sc 320).toNatClampNeg = N) : ∃ (f : Nat) (S' : rc_S), rc_run f 12 189 2 0 (rc_pad 4 [.ref 1]) [] (rc_ph rc_wt sc (fun _ _ => 0), fun _ _ => none, 2) = some (some (.int 1), S') ∧ S'.2.2 = 111 := by
  obtain ⟨S, hx, e111, v1, v2, v3, hr⟩ := rc_start
  have iv0 : rc_iv ((fun _ _ => 0, fun _ _ => none, 2) : rc_S) := ⟨by decide, fun _ _ _ => rfl⟩
  have key := fun z => rc_wk1_run (s0 := rc_wt) (s1 := sc) (F := 1000) (d := 11) (mi := 189) (na0 := 2) (z := z) 10 0 (rc_pad 4 [.ref 1]) [] (fun _ _ => 0, fun _ _ => none, 2) 18 [.ref 1, .ref 2, .ref 80, .int 0] [] S iv0 hx
  have iv1 := (key (none, S)).1
  have eρ : S.2.1 = rc_rho := by
    funext k j
    rcases Nat.lt_or_ge k 111 with z | z
    · rcases Nat.lt_or_ge j 46 with y | y
      · exact hr k j z y
      · rw [iv1.2 k j (Or.inl y), rc_rho_n (Or.inl y)]
    · rw [iv1.2 k j (Or.inr (by rw [e111]; exact z)), rc_rho_n (Or.inr z)]
  obtain ⟨σ, ρ, na⟩ := S
  have eρ : ρ = rc_rho := eρ
  have e111 : na = 111 := e111
  subst eρ; subst e111
  have p2 : ∀ k, 2 ≤ k → rc_ph rc_wt sc σ k = σ k := fun k hk => rc_ph_n hk
  unfold rc_valH at v2
  unfold rc_valM at v3
  rw [Bool.and_eq_true, Bool.and_eq_true, Bool.and_eq_true, Bool.and_eq_true, Bool.and_eq_true, Bool.and_eq_true, Bool.and_eq_true] at v2
  rw [Bool.and_eq_true, Bool.and_eq_true, Bool.and_eq_true, Bool.and_eq_true, Bool.and_eq_true, Bool.and_eq_true, Bool.and_eq_true, Bool.and_eq_true, Bool.and_eq_true] at v3
  obtain ⟨x1, x2, x3, x4, x5, x6, x7, x8⟩ := v2
  obtain ⟨y1, y2, y3, y4, y5, y6, y7, y8, y9, y10⟩ := v3
  have hC : rc_CP (rc_ph rc_wt sc σ) rc_P0 := by
    refine ⟨rfl, ⟨?_, ?_, ?_, ?_, fun i hi => ?_, fun g hg => absurd hg (Nat.not_lt_zero g), fun u hu => absurd hu (Nat.not_lt_zero u)⟩, ⟨?_, fun j hj => absurd hj (Nat.not_lt_zero j)⟩, ⟨?_, fun j hj => absurd hj (Nat.not_lt_zero j)⟩, fun j hj => ?_, ?_, fun z => absurd (show false = true from z) (by decide)⟩
    · rw [p2 _ (by decide)]; exact of_decide_eq_true x1
    · rw [p2 _ (by decide)]; exact of_decide_eq_true x2
    · rw [p2 _ (by decide)]; exact of_decide_eq_true x3
    · rw [p2 _ (by decide)]; exact of_decide_eq_true x4
    · have v := rc_alls_t v1 i hi
      rw [Bool.and_eq_true, Bool.and_eq_true, Bool.and_eq_true, Bool.and_eq_true, Bool.and_eq_true] at v
      obtain ⟨b1, b2, b3, b4, b5, b6⟩ := v
      refine ⟨?_, ?_, fun u hu => ?_, ?_, ?_, ?_⟩
      · rw [p2 _ (by omega)]; exact of_decide_eq_true b1
      · rw [p2 _ (by omega)]; exact of_decide_eq_true b2
      · rw [p2 _ (by omega)]; exact of_decide_eq_true (rc_alls_t b3 u hu)
      · rw [p2 _ (by omega)]; exact of_decide_eq_true b4
      · rw [p2 _ (by omega)]; exact of_decide_eq_true b5
      · rw [p2 _ (by omega)]; exact of_decide_eq_true b6
    · rw [p2 _ (by decide)]; exact of_decide_eq_true x5
    · rw [p2 _ (by decide)]; exact of_decide_eq_true x6
    · rw [p2 _ (by decide)]; exact of_decide_eq_true (rc_alls_t x8 j hj)
    · rw [p2 _ (by decide)]; exact of_decide_eq_true x7
  have hM : rc_MP (rc_ph rc_wt sc σ) rc_P0 := by
    refine ⟨⟨?_, ?_, ?_, ?_, fun i hi => absurd hi (Nat.not_lt_zero i), fun g hg => absurd hg (Nat.not_lt_zero g), fun u hu => absurd hu (Nat.not_lt_zero u)⟩, ⟨?_, fun j hj => absurd hj (Nat.not_lt_zero j)⟩, ⟨?_, fun j hj => absurd hj (Nat.not_lt_zero j)⟩, fun j hj => ?_, ?_, fun z => absurd (show false = true from z) (by decide), fun k hk => ?_, fun k hk => ?_⟩
    · rw [p2 _ (by decide)]; exact of_decide_eq_true y1
    · rw [p2 _ (by decide)]; exact of_decide_eq_true y2
    · rw [p2 _ (by decide)]; exact of_decide_eq_true y3
    · rw [p2 _ (by decide)]; exact of_decide_eq_true y4
    · rw [p2 _ (by decide)]; exact of_decide_eq_true y5
    · rw [p2 _ (by decide)]; exact of_decide_eq_true y6
    · rw [p2 _ (by decide)]; exact of_decide_eq_true (rc_alls_t y8 j hj)
    · rw [p2 _ (by decide)]; exact of_decide_eq_true y7
    · rw [p2 _ (by decide)]; exact of_decide_eq_true (rc_alls_t y9 k hk)
    · rw [p2 _ (by decide)]; exact of_decide_eq_true (rc_alls_t y10 k hk)
  obtain ⟨f, r, σ', hrun, hr1⟩ := rc_law_18 (d := 0) hN hs 64 0 rc_P0 (rc_ph rc_wt sc σ) (by omega) (by decide) ⟨hC, hM, rc_WI0, rfl⟩
  subst hr1
  obtain ⟨f', h'⟩ := (key (some (.int 1), (σ', rc_rho, rc_K))).2 ⟨f, hrun⟩
  exact ⟨f', (σ', rc_rho, rc_K), h', rfl⟩
end RSu3
