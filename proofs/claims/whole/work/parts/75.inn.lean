section RIn
variable {d n L : Nat} {t : Nat → Nat} {σ : rc_M} {P : rc_P} {V : rc_V} {Q : Int32 → rc_M → Prop}
/-! an inn told in letters: what stands at a place, where a statement ends or goes wrong -/
def ri_lr (t : Nat → Nat) (L c j : Nat) : Bool := decide (j < L) && decide (t j = c)
def ri_isd (t : Nat → Nat) (L j : Nat) : Bool := decide (j < L) && (decide (48 ≤ t j) && decide (t j ≤ 57))
def ri_dv (t : Nat → Nat) (j : Nat) : Nat := t j - 48
def ri_kn (c : Nat) : Nat := if c = 112 then 0 else if c = 104 then 1 else if c = 116 then 2 else if c = 100 then 3 else if c = 102 then 4 else if c = 115 then 5 else if c = 117 then 6 else 7
def ri_kok (t : Nat → Nat) (L j : Nat) : Bool := decide (j < L) && decide (ri_kn (t j) < 7)
def ri_fd (t : Nat → Nat) (L s : Nat) : Nat := if ri_lr t L 114 s then s + 2 else s + 1
def ri_en (t : Nat → Nat) (L s : Nat) : Nat := if ri_lr t L 114 s && ri_isd t L (ri_fd t L s + 6) then ri_fd t L s + 7 else ri_fd t L s + 6
def ri_dk (t : Nat → Nat) (L s : Nat) : Nat := rc_ff (fun k => !ri_isd t L (ri_fd t L s + k)) 6
def ri_st (t : Nat → Nat) (L s : Nat) : Nat × Bool := if ri_lr t L 114 s || ri_lr t L 103 s then (if ri_lr t L 114 s && !ri_kok t L (s + 1) then (s + 1, false) else if ri_dk t L s < 6 then (ri_fd t L s + ri_dk t L s, false) else if ri_lr t L 59 (ri_en t L s) then (ri_en t L s + 1, true) else (ri_en t L s, false)) else (s, false)
def ri_wr (x : Nat × Bool) : Int32 := cond x.2 (-9) (nI x.1)
def ri_at (t : Nat → Nat) (L s : Nat) : Int32 := if s < L then nI (t s) else -1
def ri_T (t : Nat → Nat) (L : Nat) : Prop := L ≤ 64 ∧ ∀ j, j < L → t j ≤ 255
def ri_C (σ : rc_M) (t : Nat → Nat) (L : Nat) : Prop := σ 59 1 = nI L ∧ ∀ j, j < L → σ 60 j = nI (t j)
theorem ri_at_eq {s c : Nat} (hT : ri_T t L) (hc : c ≤ 255) : ri_at t L s = nI c ↔ ri_lr t L c s = true := by
  unfold ri_at ri_lr
  by_cases z : s < L
  · rw [if_pos z, decide_eq_true z, Bool.true_and, decide_eq_true_iff, nI_eq (by have := hT.2 s z; omega) (by omega)]
  · rw [if_neg z, decide_eq_false z, Bool.false_and]
    refine ⟨fun h => ?_, fun h => absurd h (by decide)⟩
    have : ∀ c, c < 256 → ¬ (-1 : Int32) = nI c := by decide +kernel
    exact absurd h (this c (by omega))
theorem ri_kd_f : ∀ c, c < 256 → rc_kd (nI c) = (if ri_kn c < 7 then nI (ri_kn c) else -9) := by decide +kernel
theorem ri_kd {s : Nat} (hT : ri_T t L) : rc_kd (ri_at t L s) = if ri_kok t L s then nI (ri_kn (t s)) else -9 := by
  unfold ri_at ri_kok
  by_cases z : s < L
  · rw [if_pos z, decide_eq_true z, Bool.true_and, ri_kd_f _ (by have := hT.2 s z; omega)]
    by_cases y : ri_kn (t s) < 7
    · rw [if_pos y, decide_eq_true y, if_pos rfl]
    · rw [if_neg y, decide_eq_false y, if_neg (by decide)]
  · rw [if_neg z, decide_eq_false z, Bool.false_and, if_neg (by decide)]
    rfl
theorem c_at {x : Int32} {s : Nat} (hx : x = nI s) (hs : s ≤ 1000) (hC : ri_C σ t L) (hT : ri_T t L) (h : Q (ri_at t L s) σ) : rc_TI d 41 [.ref 59, .int x] σ Q := by
  subst hx
  have hL := hT.1
  unfold ri_at at h
  refine rc_go 40 (And.intro (fun c => absurd c (nI_pos (by omega))) (fun _ => And.intro (fun c => ?_) (fun c => ?_)))
  · rw [hC.1] at c
    rw [if_neg (fun z => nI_ge z (by omega) c)] at h
    exact ⟨_, rfl, h⟩
  · rw [hC.1] at c
    have z : s < L := Nat.lt_of_not_le (fun z => c (nI_le z (by omega)))
    rw [if_pos z, ← hC.2 s z] at h
    refine And.intro (rc_vi (n := 64) (by omega) (by decide)) ⟨_, rfl, ?_⟩
    rw [rc_ci (by omega)]
    exact h
theorem ri_isd_v {s : Nat} (h : ri_isd t L s = true) : s < L ∧ 48 ≤ t s ∧ t s ≤ 57 := by
  unfold ri_isd at h
  simpa using h
theorem ri_at_isd {s : Nat} (hT : ri_T t L) : (¬ ri_at t L s < 48 ∧ ¬ 57 < ri_at t L s) ↔ ri_isd t L s = true := by
  unfold ri_at ri_isd
  by_cases z : s < L
  · rw [if_pos z, decide_eq_true z, Bool.true_and, Bool.and_eq_true, decide_eq_true_iff, decide_eq_true_iff, Int32.not_lt, Int32.not_lt]
    have h1 := hT.2 s z
    show nI 48 ≤ nI (t s) ∧ nI (t s) ≤ nI 57 ↔ _
    rw [nI_leI (by decide) (by omega), nI_leI (by omega) (by decide)]
  · rw [if_neg z, decide_eq_false z, Bool.false_and]
    exact ⟨fun h => absurd (by decide) h.1, fun h => absurd h (by decide)⟩
theorem c_isDigit {x : Int32} {s : Nat} (hx : x = ri_at t L s) (hT : ri_T t L) (h : Q (rc_bI (ri_isd t L s)) σ) : rc_TI d 43 [.int x] σ Q := by
  subst hx
  have hi := ri_at_isd (s := s) hT
  refine rc_go 40 (And.intro (fun c => ?_) (fun c => And.intro (fun c2 => ?_) (fun c2 => ?_)))
  · have z : ri_isd t L s = false := by
      cases hz : ri_isd t L s with
      | false => rfl
      | true => exact absurd c (hi.mpr hz).1
    rw [z] at h
    exact ⟨Or.inl rfl, _, rfl, h⟩
  · have z : ri_isd t L s = false := by
      cases hz : ri_isd t L s with
      | false => rfl
      | true => exact absurd c2 (hi.mpr hz).2
    rw [z] at h
    exact ⟨Or.inl rfl, _, rfl, h⟩
  · rw [hi.mp ⟨c, c2⟩] at h
    exact ⟨Or.inr rfl, _, rfl, h⟩
theorem c_digit {x : Int32} {s : Nat} (hx : x = nI s) (hC : ri_C σ t L) (hT : ri_T t L) (hd : ri_isd t L s = true) (h : Q (nI (ri_dv t s)) σ) : rc_TI (d + 1) 42 [.ref 59, .int x] σ Q := by
  obtain ⟨h1, h2, h3⟩ := ri_isd_v hd
  have hL := hT.1
  refine rc_go 40 (c_at hx (by omega) hC hT ⟨_, rfl, ?_⟩)
  unfold ri_at
  rw [if_pos h1]
  have e : nI (t s) - 48 = nI (ri_dv t s) := rc_subN (b := 48) h2
  rw [e]
  exact h
theorem ri_lr_t {s : Nat} {b : Bool} {c : Nat} (hT : ri_T t L) (hc : c ≤ 255) (hb : b = ri_lr t L c s) (h : ¬ ri_at t L s = nI c) : b = false := by
  subst hb
  cases hz : ri_lr t L c s with
  | false => rfl
  | true => exact absurd ((ri_at_eq hT hc).mpr hz) h
theorem c_firstDigit {x : Int32} {s : Nat} (hx : x = nI s) (hs : s ≤ 900) (hC : ri_C σ t L) (hT : ri_T t L) (h : Q (nI (ri_fd t L s)) σ) : rc_TI (d + 1) 33 [.ref 59, .int x] σ Q := by
  unfold ri_fd at h
  refine rc_go 40 (c_at hx (by omega) hC hT (And.intro (fun c => ?_) (fun c => ?_)))
  · rw [ri_lr_t (c := 114) hT (by decide) rfl c, if_neg (by decide), ← nI_1, ← hx] at h
    exact ⟨_, rfl, h⟩
  · rw [(ri_at_eq (c := 114) hT (by decide)).mp c, if_pos rfl] at h
    refine ⟨_, rfl, ?_⟩
    rw [hx, show (2 : Int32) = nI 2 from rfl, nI_add]
    exact h
theorem ri_fd_b {s : Nat} : s + 1 ≤ ri_fd t L s ∧ ri_fd t L s ≤ s + 2 := by unfold ri_fd; split <;> omega
theorem ri_en_b {s : Nat} : ri_fd t L s + 6 ≤ ri_en t L s ∧ ri_en t L s ≤ ri_fd t L s + 7 := by unfold ri_en; split <;> omega
theorem c_endOf3 {x : Int32} {s : Nat} (hx : x = nI s) (hs : s ≤ 900) (hC : ri_C σ t L) (hT : ri_T t L) (h : Q (nI (ri_en t L s)) σ) : rc_TI (d + 2) 34 [.ref 59, .int x] σ Q := by
  have hb := ri_fd_b (t := t) (L := L) (s := s)
  have e6 : nI (ri_fd t L s) + 6 = nI (ri_fd t L s + 6) := by rw [show (6 : Int32) = nI 6 from rfl, nI_add]
  unfold ri_en at h
  refine rc_go 60 (c_firstDigit hx hs hC hT (c_at hx (by omega) hC hT (And.intro (fun c => ?_) (fun c => ?_))))
  · rw [ri_lr_t (c := 114) hT (by decide) rfl c, Bool.false_and, if_neg (by decide), ← e6] at h
    exact ⟨_, rfl, h⟩
  · rw [(ri_at_eq (c := 114) hT (by decide)).mp c, Bool.true_and] at h
    refine c_at (s := ri_fd t L s + 6) e6 (by omega) hC hT (c_isDigit (s := ri_fd t L s + 6) rfl hT (And.intro (fun c2 => ?_) (fun c2 => ?_)))
    · rw [rc_bI_0.mp c2, if_neg (by decide), ← e6] at h
      exact ⟨_, rfl, h⟩
    · rw [rc_bool_t c2, if_pos rfl] at h
      refine ⟨_, rfl, ?_⟩
      rw [e6, nI_1]
      exact h
theorem ri_st_k {s : Nat} (hg : (ri_lr t L 114 s || ri_lr t L 103 s) = true) (hk : (ri_lr t L 114 s && !ri_kok t L (s + 1)) = false) : ri_st t L s = if ri_dk t L s < 6 then (ri_fd t L s + ri_dk t L s, false) else if ri_lr t L 59 (ri_en t L s) then (ri_en t L s + 1, true) else (ri_en t L s, false) := by
  unfold ri_st
  rw [if_pos hg, hk, if_neg (by decide)]
theorem c_wr_52 {s : Nat} {x2 : Int32} (hs : s ≤ 800) (hC : ri_C σ t L) (hT : ri_T t L) (hg : (ri_lr t L 114 s || ri_lr t L 103 s) = true) (hk : (ri_lr t L 114 s && !ri_kok t L (s + 1)) = false) {Q' : Option Value → rc_M → Prop} (h : Q' (some (.int (ri_wr (ri_st t L s)))) σ) : ∀ (c k : Nat), k + c = 6 → (∀ j, j < k → ri_isd t L (ri_fd t L s + j) = true) → rc_Tc (d + 3) 32 52 [.ref 59, .int (nI s), .int x2, .int (nI (ri_fd t L s)), .int (nI (ri_fd t L s + k))] [] σ Q' := by
  have hb := ri_fd_b (t := t) (L := L) (s := s)
  have hb2 := ri_en_b (t := t) (L := L) (s := s)
  have e6 : nI (ri_fd t L s) + 6 = nI (ri_fd t L s + 6) := by rw [show (6 : Int32) = nI 6 from rfl, nI_add]
  rw [ri_st_k hg hk] at h
  intro c
  induction c with
  | zero =>
    intro k hk ha
    have : k = 6 := by omega
    subst this
    have ed : ri_dk t L s = 6 := rc_ff_no (fun j hj => by rw [ha j hj]; rfl)
    rw [ed, if_neg (by decide)] at h
    refine rc_go 60 (And.intro (fun _ => ?_) (fun c => absurd (by rw [e6]; exact nI_le (Nat.le_refl _) (by omega)) c))
    refine c_endOf3 (s := s) rfl (by omega) hC hT (c_at (s := ri_en t L s) rfl (by omega) hC hT (And.intro (fun c => ?_) (fun c => ?_)))
    · rw [ri_lr_t (c := 59) hT (by decide) rfl c, if_neg (by decide)] at h
      exact h
    · rw [(ri_at_eq (c := 59) hT (by decide)).mp c, if_pos rfl] at h
      exact h
  | succ c ih =>
    intro k hk ha
    refine rc_go 60 (And.intro (fun c1 => absurd (by rw [e6] at c1; exact c1) (nI_ge (by omega) (by omega))) (fun _ => ?_))
    refine c_at (s := ri_fd t L s + k) rfl (by omega) hC hT (c_isDigit (s := ri_fd t L s + k) rfl hT (And.intro (fun c2 => ?_) (fun c2 => ?_)))
    · have key := ih (k + 1) (by omega) (fun j hj => by
        by_cases e : j = k
        · subst e; exact rc_bool_t c2
        · exact ha j (by omega))
      rw [← Nat.add_assoc, ← nI_1] at key
      exact key
    · have z : ri_isd t L (ri_fd t L s + k) = false := by
        cases hz : ri_isd t L (ri_fd t L s + k) with
        | false => rfl
        | true => rw [hz] at c2; exact absurd c2 (by decide)
      have ed : ri_dk t L s = k := rc_ff_at (by omega) (by rw [z]; rfl) (fun j hj => by rw [ha j hj]; rfl)
      rw [ed, if_pos (by omega)] at h
      exact h
theorem c_wrongIn {x : Int32} {s : Nat} (hx : x = nI s) (hs : s ≤ 800) (hC : ri_C σ t L) (hT : ri_T t L) (h : Q (ri_wr (ri_st t L s)) σ) : rc_TI (d + 3) 32 [.ref 59, .int x] σ Q := by
  subst hx
  have k20 : (ri_lr t L 114 s || ri_lr t L 103 s) = true → ∀ (x2 : Int32) (w3 w4 : Value), x2 = ri_at t L s → rc_Tc (d + 3) 32 20 [.ref 59, .int (nI s), .int x2, w3, w4] [] σ (fun v σ => ∃ x, v = some (.int x) ∧ Q x σ) := fun hg x2 w3 w4 hx2 => by
    subst hx2
    have fin : (ri_lr t L 114 s && !ri_kok t L (s + 1)) = false → ∀ (x2 x3 : Int32), x3 = nI s → rc_TI (d + 2) 33 [.ref 59, .int x3] σ (fun y σ => rc_Tc (d + 3) 32 52 [.ref 59, .int (nI s), .int x2, .int y, .int y] [] σ (fun v σ => ∃ x, v = some (.int x) ∧ Q x σ)) := fun hk x2 x3 hx3 => by
      refine c_firstDigit hx3 (by omega) hC hT ?_
      exact c_wr_52 hs hC hT hg hk ⟨_, rfl, h⟩ 6 0 rfl (fun j hj => absurd hj (by omega))
    refine rc_go 60 (And.intro (fun c => ?_) (fun c => ?_))
    · exact rc_TI.weak (fin (by rw [ri_lr_t (c := 114) hT (by decide) rfl c]; rfl) _ _ rfl) (fun _ _ k => k)
    · have hr := (ri_at_eq (c := 114) hT (by decide)).mp c
      refine c_at (s := s + 1) (nI_1 s) (by omega) hC hT ?_
      refine And.intro (fun c2 => ?_) (fun c2 => ?_) <;> rw [ri_kd hT] at c2
      · have hk : ri_kok t L (s + 1) = true := by
          cases hz : ri_kok t L (s + 1) with
          | true => rfl
          | false => rw [hz, if_neg (by decide)] at c2; exact absurd c2 (by decide)
        exact rc_TI.weak (fin (by rw [hk]; simp) _ _ rfl) (fun _ _ k => k)
      · have hk : ri_kok t L (s + 1) = false := by
          cases hz : ri_kok t L (s + 1) with
          | false => rfl
          | true =>
            rw [hz, if_pos rfl] at c2
            have : ri_kn (t (s + 1)) < 7 := by
              unfold ri_kok at hz
              rw [Bool.and_eq_true] at hz
              exact of_decide_eq_true hz.2
            exact absurd (nI_pos' (by omega)) c2
        have es : ri_st t L s = (s + 1, false) := by
          unfold ri_st
          rw [if_pos hg, hr, hk, if_pos (by decide)]
        rw [es] at h
        refine ⟨_, rfl, ?_⟩
        rw [nI_1]
        exact h
  refine rc_go 60 (c_at (s := s) rfl (by omega) hC hT (And.intro (fun c => ?_) (fun c => And.intro (fun c2 => ?_) (fun c2 => ?_))))
  · exact k20 (by rw [(ri_at_eq (c := 114) hT (by decide)).mp c]; rfl) _ _ _ rfl
  · exact k20 (by rw [(ri_at_eq (c := 103) hT (by decide)).mp c2, Bool.or_true]) _ _ _ rfl
  · have es : ri_st t L s = (s, false) := by
      unfold ri_st
      rw [ri_lr_t (c := 114) hT (by decide) rfl c, ri_lr_t (c := 103) hT (by decide) rfl c2, if_neg (by decide)]
    rw [es] at h
    exact ⟨_, rfl, h⟩
end RIn
