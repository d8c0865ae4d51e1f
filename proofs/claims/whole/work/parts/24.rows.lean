/-! rows of rooms, by numbers; what a row makes of one alone -/
def rc_dg (b n t i : Nat) : Nat := t / b ^ (n - 1 - i) % b
/-- the next row: 0, or 1 more than the first place that is another one -/
def rc_inc (b : Nat) : Nat → (Nat → Nat) → Nat × (Nat → Nat)
  | 0, row => (0, row)
  | n + 1, row => if row n + 1 < b then (n + 1, va_up row n (row n + 1)) else rc_inc b n (va_up row n 0)
theorem rc_dg_s {b n t i : Nat} (h : i < n) : rc_dg b (n + 1) t i = rc_dg b n (t / b) i := by
  unfold rc_dg
  rw [Nat.div_div_eq_div_mul, ← Nat.pow_succ']
  congr 3
  omega
theorem rc_dg_l {b n t : Nat} : rc_dg b (n + 1) t n = t % b := by
  unfold rc_dg
  simp
theorem rc_dg_lt {b n t i : Nat} (hb : 0 < b) : rc_dg b n t i < b := Nat.mod_lt _ hb
theorem rc_dg_0 {b n i : Nat} : rc_dg b n 0 i = 0 := by unfold rc_dg; simp
theorem rc_inc_s {b : Nat} (hb : 0 < b) : ∀ (n t : Nat) (row : Nat → Nat), t < b ^ n → (∀ i, i < n → row i = rc_dg b n t i) →
    ((t + 1 < b ^ n → (rc_inc b n row).1 ≠ 0 ∧ ∀ i, i < n → (rc_inc b n row).2 i = rc_dg b n (t + 1) i) ∧ (¬ t + 1 < b ^ n → (rc_inc b n row).1 = 0 ∧ ∀ i, i < n → (rc_inc b n row).2 i = 0)) ∧
    (∀ i, i + 1 < (rc_inc b n row).1 → (rc_inc b n row).2 i = row i) ∧ (∀ i, n ≤ i → (rc_inc b n row).2 i = row i) ∧ (rc_inc b n row).1 ≤ n := by
  intro n
  induction n with
  | zero =>
    intro t row ht _
    have : t = 0 := by simpa using ht
    subst this
    exact ⟨⟨fun h => absurd h (by simp), fun _ => ⟨rfl, fun i hi => absurd hi (by omega)⟩⟩, fun i hi => rfl, fun i _ => rfl, Nat.le_refl _⟩
  | succ n ih =>
    intro t row ht hrow
    have hl : row n = t % b := by rw [hrow n (by omega), rc_dg_l]
    have hp : b ^ (n + 1) = b ^ n * b := Nat.pow_succ ..
    have hdiv : t / b < b ^ n := by rw [Nat.div_lt_iff_lt_mul hb, ← hp]; exact ht
    rw [rc_inc]
    by_cases c : row n + 1 < b
    · rw [if_pos c]
      dsimp only
      rw [hl] at c
      have e1 : (t + 1) / b = t / b := by
        rw [Nat.div_eq_of_lt_le]
        · have := Nat.div_add_mod t b
          rw [Nat.mul_comm] at this
          omega
        · have := Nat.div_add_mod t b
          rw [Nat.succ_mul]
          rw [Nat.mul_comm] at this
          omega
      have e2 : (t + 1) % b = t % b + 1 := by
        have h1 := Nat.div_add_mod (t + 1) b
        have h2 := Nat.div_add_mod t b
        rw [e1] at h1
        omega
      have e3 : t + 1 < b ^ (n + 1) := by
        rw [hp, ← Nat.div_lt_iff_lt_mul hb, e1]
        exact hdiv
      refine ⟨⟨fun _ => ⟨Nat.succ_ne_zero n, fun i hi => ?_⟩, fun h => absurd e3 h⟩, fun i hi => ?_, fun i hi => ?_, Nat.le_refl _⟩
      · by_cases hin : i = n
        · subst hin
          rw [rc_dg_l, e2, hl]
          simp [va_up]
        · rw [rc_dg_s (by omega), e1, ← rc_dg_s (by omega), ← hrow i (by omega)]
          simp [va_up, hin]
      · have : i ≠ n := by omega
        simp [va_up, this]
      · have : i ≠ n := by omega
        simp [va_up, this]
    · rw [if_neg c]
      rw [hl] at c
      have hm : t % b = b - 1 := by
        have := Nat.mod_lt t hb
        omega
      have e1 : (t + 1) / b = t / b + 1 := by
        rw [Nat.div_eq_of_lt_le]
        · have := Nat.div_add_mod t b
          rw [Nat.succ_mul, Nat.mul_comm]
          omega
        · have := Nat.div_add_mod t b
          rw [Nat.succ_mul, Nat.succ_mul, Nat.mul_comm]
          omega
      have e2 : (t + 1) % b = 0 := by
        have h1 := Nat.div_add_mod (t + 1) b
        have h2 := Nat.div_add_mod t b
        rw [e1, Nat.mul_add] at h1
        omega
      have hrow' : ∀ i, i < n → va_up row n 0 i = rc_dg b n (t / b) i := fun i hi => by
        have : i ≠ n := by omega
        simp only [va_up, this, if_false]
        rw [hrow i (by omega), rc_dg_s hi]
      obtain ⟨⟨i1, i2⟩, i3, i4, i5⟩ := ih (t / b) (va_up row n 0) hdiv hrow'
      have hiff : t + 1 < b ^ (n + 1) ↔ t / b + 1 < b ^ n := by
        rw [hp, ← Nat.div_lt_iff_lt_mul hb, e1]
      refine ⟨⟨fun h => ⟨(i1 (hiff.mp h)).1, fun i hi => ?_⟩, fun h => ⟨(i2 (fun z => h (hiff.mpr z))).1, fun i hi => ?_⟩⟩, fun i hi => ?_, fun i hi => ?_, by omega⟩
      · by_cases hin : i = n
        · subst hin
          rw [i4 i (Nat.le_refl _), rc_dg_l, e2]
          simp [va_up]
        · rw [(i1 (hiff.mp h)).2 i (by omega), rc_dg_s (by omega), e1]
      · by_cases hin : i = n
        · subst hin
          rw [i4 i (Nat.le_refl _)]
          simp [va_up]
        · exact (i2 (fun z => h (hiff.mpr z))).2 i (by omega)
      · rw [i3 i hi]
        have : i ≠ n := by omega
        simp [va_up, this]
      · rw [i4 i (by omega)]
        have : i ≠ n := by omega
        simp [va_up, this]
/-- the code of the evening of the last night before k in room x -/
def rc_lb (row E : Nat → Nat) (x : Nat) : Nat → Nat
  | 0 => 0
  | i + 1 => if row i = x then E i + 1 else rc_lb row E x i
/-- the code of the evening of the night ahead, if it was in the same room -/
def rc_un (row E : Nat → Nat) : Nat → Nat
  | 0 => 0
  | k + 1 => if row k = row (k + 1) then E k + 1 else 0
def rc_EF (V : rc_V) (row : Nat → Nat) (s : Nat) : Nat → Nat → Nat
  | 0 => fun _ => s
  | k + 1 => fun j => if j = k + 1 then rc_nV V (row k) (rc_EF V row s k k) k (rc_lb row (rc_EF V row s k) (row k) k) 0 (rc_un row (rc_EF V row s k) k) else rc_EF V row s k j
/-- how one is in the evening of night k -/
def rc_E (V : rc_V) (row : Nat → Nat) (s k : Nat) : Nat := rc_EF V row s k k
theorem rc_lb_congr {row row' E E' : Nat → Nat} {x : Nat} : ∀ k, (∀ i, i < k → row i = row' i) → (∀ i, i < k → E i = E' i) → rc_lb row E x k = rc_lb row' E' x k := by
  intro k
  induction k with
  | zero => intro _ _; rfl
  | succ k ih =>
    intro h1 h2
    rw [rc_lb, rc_lb, h1 k (by omega), h2 k (by omega), ih (fun i hi => h1 i (by omega)) (fun i hi => h2 i (by omega))]
theorem rc_un_congr {row row' E E' : Nat → Nat} {k : Nat} (h1 : ∀ i, i ≤ k → row i = row' i) (h2 : ∀ i, i < k → E i = E' i) : rc_un row E k = rc_un row' E' k := by
  cases k with
  | zero => rfl
  | succ k => rw [rc_un, rc_un, h1 k (by omega), h1 (k + 1) (by omega), h2 k (by omega)]
theorem rc_EF_st (V : rc_V) (row : Nat → Nat) (s : Nat) : ∀ k j, j ≤ k → rc_EF V row s k j = rc_E V row s j := by
  intro k
  induction k with
  | zero => intro j hj; have : j = 0 := by omega
            subst this; rfl
  | succ k ih =>
    intro j hj
    by_cases h : j = k + 1
    · subst h; rfl
    · rw [rc_EF]; dsimp only; rw [if_neg h]
      exact ih j (by omega)
theorem rc_E_0 (V : rc_V) (row : Nat → Nat) (s : Nat) : rc_E V row s 0 = s := rfl
theorem rc_E_s (V : rc_V) (row : Nat → Nat) (s k : Nat) : rc_E V row s (k + 1) = rc_nV V (row k) (rc_E V row s k) k (rc_lb row (rc_E V row s) (row k) k) 0 (rc_un row (rc_E V row s) k) := by
  have e : rc_E V row s (k + 1) = rc_nV V (row k) (rc_EF V row s k k) k (rc_lb row (rc_EF V row s k) (row k) k) 0 (rc_un row (rc_EF V row s k) k) := by
    show rc_EF V row s (k + 1) (k + 1) = _
    rw [rc_EF]; dsimp only; rw [if_pos rfl]
  rw [e, rc_lb_congr (row' := row) (E' := rc_E V row s) k (fun _ _ => rfl) (fun i hi => rc_EF_st V row s k i (by omega)), rc_un_congr (row' := row) (E' := rc_E V row s) (fun _ _ => rfl) (fun i hi => rc_EF_st V row s k i (by omega))]
  rfl
theorem rc_E_congr {V : rc_V} {row row' : Nat → Nat} {s : Nat} : ∀ k, (∀ i, i < k → row i = row' i) → rc_E V row s k = rc_E V row' s k := by
  intro k
  induction k using Nat.strongRecOn with
  | ind k ih =>
    intro h
    cases k with
    | zero => rfl
    | succ k =>
      rw [rc_E_s, rc_E_s, h k (by omega), ih k (by omega) (fun i hi => h i (by omega)), rc_lb_congr (E' := rc_E V row' s) k (fun i hi => h i (by omega)) (fun i hi => ih i (by omega) (fun j hj => h j (by omega))), rc_un_congr (row' := row') (E' := rc_E V row' s) (fun i hi => h i (by omega)) (fun i hi => ih i (by omega) (fun j hj => h j (by omega)))]
theorem rc_lb_le {row E : Nat → Nat} {x : Nat} : ∀ k, (∀ i, i < k → E i < 27) → rc_lb row E x k ≤ 27 := by
  intro k
  induction k with
  | zero => intro _; exact Nat.zero_le _
  | succ k ih =>
    intro h
    rw [rc_lb]
    split
    · exact h k (by omega)
    · exact ih (fun i hi => h i (by omega))
theorem rc_un_le {row E : Nat → Nat} {k : Nat} (h : ∀ i, i < k → E i < 27) : rc_un row E k ≤ 27 := by
  cases k with
  | zero => exact Nat.zero_le _
  | succ k =>
    rw [rc_un]
    split
    · exact h k (by omega)
    · exact Nat.zero_le _
theorem rc_E_lt {V : rc_V} {row : Nat → Nat} {s : Nat} (hs : s < 27) : ∀ k, (∀ i, i < k → rc_WR V (row i)) → rc_E V row s k < 27 := by
  intro k
  induction k using Nat.strongRecOn with
  | ind k ih =>
    intro h
    cases k with
    | zero => exact hs
    | succ k =>
      rw [rc_E_s]
      exact rc_nV_lt (h k (by omega)) (ih k (by omega) (fun i hi => h i (by omega))) (rc_un_le (fun i hi => ih i (by omega) (fun j hj => h j (by omega))))
