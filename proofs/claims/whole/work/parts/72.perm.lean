section RPe
variable {d n : Nat} {σ : rc_M} {P : rc_P} {V : rc_V} {Q : Int32 → rc_M → Prop}
/-! all orders by their numbers; the next order -/
def rc_fc : Nat → Nat
  | 0 => 1
  | n + 1 => (n + 1) * rc_fc n
def rc_lx : Nat → List Nat → Nat → List Nat
  | 0, _, _ => []
  | n + 1, l, k => l.getD (k / rc_fc n) 0 :: rc_lx n (l.eraseIdx (k / rc_fc n)) (k % rc_fc n)
def rc_pm (n k i : Nat) : Nat := (rc_lx n (List.range n) k).getD i 0
def rc_swx (p : Nat → Nat) (i j x : Nat) : Nat := if x = j then p i else if x = i then p j else p x
def rc_plc (p : Nat → Nat) : Nat → Nat
  | 0 => 0
  | i + 1 => if p (i + 1) < p i then rc_plc p i else i + 1
def rc_wth (p : Nat → Nat) (pl : Nat) : Nat → Nat
  | 0 => 0
  | w + 1 => if pl < w + 1 ∧ p (w + 1) < p pl then rc_wth p pl w else w + 1
def rc_rv : Nat → (Nat → Nat) → Nat → Nat → Nat → Nat
  | 0, p, _, _ => p
  | f + 1, p, i, j => if i < j then rc_rv f (rc_swx p i j) (i + 1) (j - 1) else p
def rc_npm (n : Nat) (p : Nat → Nat) : Nat → Nat := match rc_plc p (n - 1) with
  | 0 => p
  | pl + 1 => rc_rv n (rc_swx p pl (rc_wth p pl (n - 1))) (pl + 1) (n - 1)
theorem rc_pm_f : ∀ n, n < 6 → ∀ k, k < rc_fc n → ∀ i, i < n → rc_pm n k i < n := by decide +kernel
theorem rc_pm_n : ∀ n, n < 6 → ∀ k, k + 1 < rc_fc n → ∀ i, i < n → rc_npm n (rc_pm n k) i = rc_pm n (k + 1) i := by
  have h : ∀ n, n < 6 → ∀ k, k < rc_fc n → k + 1 < rc_fc n → ∀ i, i < n → rc_npm n (rc_pm n k) i = rc_pm n (k + 1) i := by decide +kernel
  exact fun n hn k hk => h n hn k (by omega) hk
theorem rc_pm_0 : ∀ n, n < 6 → ∀ i, i < n → rc_pm n 0 i = i := by decide +kernel
theorem rc_fc_b : ∀ n, n < 6 → rc_fc n ≤ 120 ∧ 0 < rc_fc n := by decide +kernel
def rc_uc (u : Nat) : Nat → Nat
  | 0 => 0
  | g + 1 => rc_uc u g + (!u.testBit g).toNat
def rc_pmB (n c a u b g : Nat) : Bool := u.testBit g || (rc_alls (fun i => decide (rc_pm n (b + rc_uc u g * rc_fc c) i = rc_pm n b i)) (n - c - 1) && decide (rc_pm n (b + rc_uc u g * rc_fc c) (n - c - 1) = g))
def rc_pmA (n c a : Nat) : Bool := decide (rc_uc (rc_bits (rc_pm n (a * rc_fc (c + 1))) (n - c - 1)) n = c + 1) && rc_alls (rc_pmB n c a (rc_bits (rc_pm n (a * rc_fc (c + 1))) (n - c - 1)) (a * rc_fc (c + 1))) n
theorem rc_pm_a : ∀ n, n < 6 → ∀ c, c < n → ∀ a, a < rc_fc n → (a + 1) * rc_fc (c + 1) ≤ rc_fc n → rc_pmA n c a = true := by decide +kernel
theorem rc_pm_m {n c a : Nat} (hn : n < 6) (hc : c < n) (ha : (a + 1) * rc_fc (c + 1) ≤ rc_fc n) : rc_uc (rc_bits (rc_pm n (a * rc_fc (c + 1))) (n - c - 1)) n = c + 1 ∧ ∀ g, g < n → (rc_bits (rc_pm n (a * rc_fc (c + 1))) (n - c - 1)).testBit g = false → (∀ i, i < n - c - 1 → rc_pm n (a * rc_fc (c + 1) + rc_uc (rc_bits (rc_pm n (a * rc_fc (c + 1))) (n - c - 1)) g * rc_fc c) i = rc_pm n (a * rc_fc (c + 1)) i) ∧ rc_pm n (a * rc_fc (c + 1) + rc_uc (rc_bits (rc_pm n (a * rc_fc (c + 1))) (n - c - 1)) g * rc_fc c) (n - c - 1) = g := by
  have hf := (rc_fc_b (c + 1) (by omega)).2
  have hlt : a < rc_fc n := Nat.lt_of_lt_of_le (Nat.lt_of_lt_of_le (Nat.lt_succ_self a) (Nat.le_mul_of_pos_right _ hf)) ha
  have h := rc_pm_a n hn c hc a hlt ha
  unfold rc_pmA at h
  rw [Bool.and_eq_true] at h
  refine ⟨of_decide_eq_true h.1, fun g hg hz => ?_⟩
  have h2 := rc_alls_t h.2 g hg
  unfold rc_pmB at h2
  rw [hz, Bool.false_or, Bool.and_eq_true] at h2
  exact ⟨fun i hi => of_decide_eq_true (rc_alls_t h2.1 i hi), of_decide_eq_true h2.2⟩
end RPe
