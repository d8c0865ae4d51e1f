section RPa
variable {d n : Nat} {σ : rc_M} {P : rc_P} {V : rc_V} {Q : Int32 → rc_M → Prop}
/-! two guests at once: evenings by turns -/
def rc_lp (row e : Nat → Nat) (r : Nat) : Nat → Nat
  | 0 => 0
  | i + 1 => if row (2 * i) = r then e (2 * i) + 1 else if row (2 * i + 1) = r then e (2 * i + 1) + 1 else rc_lp row e r i
def rc_u2 (row e : Nat → Nat) (k w : Nat) : Nat := if 0 < k ∧ row (2 * k + w - 2) = row (2 * k + w) then e (2 * k + w - 2) + 1 else 0
def rc_m2 (row e : Nat → Nat) (k w : Nat) : Nat := if row (2 * k) = row (2 * k + 1) then e (2 * k + 1 - w) + 1 else 0
def rc_pn (V : rc_V) (row e : Nat → Nat) (k w : Nat) : Nat := rc_nV V (row (2 * k + w)) (e (2 * k + w)) k (rc_lp row e (row (2 * k + w)) k) (rc_m2 row e k w) (rc_u2 row e k w)
def rc_ev (V : rc_V) (row : Nat → Nat) (s0 s1 : Nat) : Nat → Nat → Nat
  | 0 => fun j => if j = 0 then s0 else s1
  | k + 1 => fun j => if j < 2 * k + 2 then rc_ev V row s0 s1 k j else rc_pn V row (rc_ev V row s0 s1 k) k (j - (2 * k + 2))
theorem rc_2x (k : Nat) : (2 : Int32) * nI k = nI (2 * k) := (Int32.ofNat_mul 2 k).symm
theorem rc_2x1 (k : Nat) : (2 : Int32) * nI k + 1 = nI (2 * k + 1) := by rw [rc_2x, nI_1]
theorem rc_2xw (k w : Nat) : (2 : Int32) * nI k + nI w = nI (2 * k + w) := by rw [rc_2x, nI_add]
theorem rc_2xv {k w : Nat} (h : w ≤ 2 * k + 1) : (2 : Int32) * nI k + 1 - nI w = nI (2 * k + 1 - w) := by rw [rc_2x1, rc_subN h]
theorem rc_lp_le {row e : Nat → Nat} {r : Nat} : ∀ i, (∀ j, j < 2 * i → e j < 27) → rc_lp row e r i ≤ 27 := by
  intro i
  induction i with
  | zero => intro _; exact Nat.zero_le _
  | succ i ih =>
    intro h
    rw [rc_lp]
    split
    · exact h _ (by omega)
    · split
      · exact h _ (by omega)
      · exact ih (fun j hj => h j (by omega))
theorem rc_u2_le {row e : Nat → Nat} {k w : Nat} (hw : w < 2) (h : ∀ j, j < 2 * k + 2 → e j < 27) : rc_u2 row e k w ≤ 27 := by
  unfold rc_u2
  split
  · exact h _ (by omega)
  · exact Nat.zero_le _
theorem rc_m2_le {row e : Nat → Nat} {k w : Nat} (h : ∀ j, j < 2 * k + 2 → e j < 27) : rc_m2 row e k w ≤ 27 := by
  unfold rc_m2
  split
  · exact h _ (by omega)
  · exact Nat.zero_le _
theorem rc_ev_lt {row : Nat → Nat} {s0 s1 : Nat} (hW : ∀ i, i < 6 → rc_WR V i) (h0 : s0 < 27) (h1 : s1 < 27) : ∀ k, (∀ j, j < 2 * k → row j < 6) → ∀ j, j < 2 * k + 2 → rc_ev V row s0 s1 k j < 27 := by
  intro k
  induction k with
  | zero => intro _ j _; show (if j = 0 then s0 else s1) < 27; split <;> assumption
  | succ k ih =>
    intro hr j hj
    show (if j < 2 * k + 2 then rc_ev V row s0 s1 k j else rc_pn V row (rc_ev V row s0 s1 k) k (j - (2 * k + 2))) < 27
    split
    · exact ih (fun j hj => hr j (by omega)) j (by assumption)
    · rename_i hz
      have := ih (fun j hj => hr j (by omega))
      exact rc_nV_lt (hW _ (hr _ (by omega))) (this _ (by omega)) (rc_u2_le (by omega) this)
theorem c_lb2_l {k r : Nat} {x1 : Int32} {row e : Nat → Nat} (hk : k ≤ 2) (hr : ∀ j, j < 2 * k → σ 68 j = nI (row j) ∧ row j < 6) (hr6 : r < 6) (he : ∀ j, j < 2 * k → σ 69 j = nI (e j)) {Q' : Option Value → rc_M → Prop} : ∀ i, i ≤ k → Q' (some (.int (rc_cI (rc_lp row e r i)))) σ → rc_Tc d 56 4 [.ref 67, .int x1, .int (nI r), .int (nI i - 1)] [] σ Q' := by
  intro i
  induction i with
  | zero =>
    intro _ h
    exact rc_go 40 (And.intro (fun _ => h) (fun c => absurd rc_nneg c))
  | succ i ih =>
    intro hi h
    rw [nI_pred]
    rw [rc_lp] at h
    obtain ⟨a1, a2⟩ := hr (2 * i) (by omega)
    obtain ⟨b1, b2⟩ := hr (2 * i + 1) (by omega)
    refine rc_go 60 (And.intro (fun c => absurd c (nI_pos (by omega))) (fun _ => ?_))
    refine And.intro (by rw [rc_2x]; exact rc_vi (n := 4) (by omega) (by decide)) ?_
    rw [rc_2x, rc_ci (by omega), a1]
    refine And.intro (fun c => ?_) (fun c => ?_)
    · have c2 : ¬ row (2 * i) = r := fun z => c (by rw [z])
      rw [if_neg c2] at h
      refine And.intro (by rw [rc_2x1]; exact rc_vi (n := 4) (by omega) (by decide)) ?_
      rw [rc_2x1, rc_ci (by omega), b1]
      refine And.intro (fun c => ?_) (fun c => ?_)
      · have c2 : ¬ row (2 * i + 1) = r := fun z => c (by rw [z])
        rw [if_neg c2] at h
        have key := ih (by omega) h
        have e9 : nI i - 1 = nI i + -1 := by rw [Int32.sub_eq_add_neg]
        rw [e9] at key
        exact key
      · rw [if_pos ((nI_eq (by omega) (by omega)).mp c)] at h
        refine And.intro (by rw [rc_2x1]; exact rc_vi (n := 6) (by omega) (by decide)) ?_
        rw [rc_2x1, rc_ci (by omega), he _ (by omega)]
        exact h
    · rw [if_pos ((nI_eq (by omega) (by omega)).mp c)] at h
      refine And.intro (by rw [rc_2x]; exact rc_vi (n := 6) (by omega) (by decide)) ?_
      rw [rc_2x, rc_ci (by omega), he _ (by omega)]
      exact h
theorem c_lb2 {x y : Int32} {k r : Nat} {row e : Nat → Nat} (hx : x = nI k) (hy : y = nI r) (hk : k ≤ 2) (hr : ∀ j, j < 2 * k → σ 68 j = nI (row j) ∧ row j < 6) (hr6 : r < 6) (he : ∀ j, j < 2 * k → σ 69 j = nI (e j)) (h : Q (rc_cI (rc_lp row e r k)) σ) : rc_TI d 56 [.ref 67, .int x, .int y] σ Q := by
  subst hx; subst hy
  exact rc_go 40 (c_lb2_l hk hr hr6 he k (Nat.le_refl _) ⟨_, rfl, h⟩)
theorem c_pass_80 {k w mc uc : Nat} {row e : Nat → Nat} {x4 x0 : Int32} {w5 w6 : Value} (hA : rc_CA σ V) (hk : k < 2) (hw : w < 2) (hr : ∀ j, j < 2 * k + 2 → σ 68 j = nI (row j) ∧ row j < 6) (he : ∀ j, j < 2 * k + 2 → σ 69 j = nI (e j) ∧ e j < 27) (h4 : x4 = rc_cI mc) (h0 : x0 = rc_cI uc) (hmc : mc ≤ 27) (huc : uc ≤ 27) {Q' : Option Value → rc_M → Prop} (h : Q' none (rc_up σ 69 (upd (σ 69) (2 * k + 2 + w) (nI (rc_nV V (row (2 * k + w)) (e (2 * k + w)) k (rc_lp row e (row (2 * k + w)) k) mc uc))))) : rc_Tc (d + 3) 55 80 [.ref 67, .int (nI k), .int (nI w), .int (nI (2 * k + w)), .int x4, w5, w6] [.int x0] σ Q' := by
  obtain ⟨a1, a2⟩ := hr (2 * k + w) (by omega)
  obtain ⟨b1, b2⟩ := he (2 * k + w) (by omega)
  have hRm := (hA.2.1 (row (2 * k + w)) a2).rm a2
  have hWr := hA.2.2.1 (row (2 * k + w)) a2
  refine rc_go 80 (And.intro (rc_vi (n := 4) (by omega) (by decide)) ?_)
  rw [rc_ci (by omega), a1]
  refine Exists.intro (9 + 2 * row (2 * k + w)) (And.intro rfl (And.intro (rc_vi (n := 6) a2 (by decide)) (And.intro (by rw [rc_ci (by omega)]; exact rc_rho4 _ a2) ?_)))
  refine And.intro (rc_vi (n := 6) (by omega) (by decide)) (And.intro (rc_vi (n := 4) (by omega) (by decide)) ?_)
  rw [rc_ci (show 2 * k + w ≤ 2000 by omega), a1, b1]
  refine c_lb2 (e := e) rfl rfl (by omega) (fun j hj => hr j (by omega)) a2 (fun j hj => (he j (by omega)).1) (And.intro hRm.1 ?_)
  refine c_after rfl rfl rfl h4 h0 hA.1 b2 (by omega) (rc_lp_le k (fun j hj => (he j (by omega)).2)) hmc huc hRm hWr.1 hWr.2.1 hWr.2.2.1 ?_
  have e2 : nI (2 * k + w) + 2 = nI (2 * k + 2 + w) := by rw [show (2 : Int32) = nI 2 from rfl, nI_add]; congr 1; omega
  refine And.intro (by rw [e2]; exact rc_vi (n := 6) (by omega) (by decide)) ?_
  rw [e2, rc_ci (by omega)]
  exact h
theorem c_pass_44 {k w mc : Nat} {row e : Nat → Nat} {x0 : Int32} {w4 w5 w6 : Value} (hA : rc_CA σ V) (hk : k < 2) (hw : w < 2) (hr : ∀ j, j < 2 * k + 2 → σ 68 j = nI (row j) ∧ row j < 6) (he : ∀ j, j < 2 * k + 2 → σ 69 j = nI (e j) ∧ e j < 27) (h0 : x0 = rc_cI mc) (hmc : mc ≤ 27) {Q' : Option Value → rc_M → Prop} (h : Q' none (rc_up σ 69 (upd (σ 69) (2 * k + 2 + w) (nI (rc_nV V (row (2 * k + w)) (e (2 * k + w)) k (rc_lp row e (row (2 * k + w)) k) mc (rc_u2 row e k w)))))) : rc_Tc (d + 3) 55 44 [.ref 67, .int (nI k), .int (nI w), .int (nI (2 * k + w)), w4, w5, w6] [.int x0] σ Q' := by
  have hu := rc_u2_le (row := row) hw (fun j hj => (he j hj).2)
  refine rc_go 60 (And.intro (fun c => ?_) (fun c => ?_))
  · have hk0 : k = 0 := by
      rcases Nat.eq_zero_or_pos k with z | z
      · exact z
      · exact absurd c (nI_nle z (by omega))
    have e0 : rc_u2 row e k w = 0 := by unfold rc_u2; rw [if_neg (by omega)]
    rw [e0] at h
    exact c_pass_80 hA hk hw hr he h0 rfl hmc (by decide) h
  · have hk0 : 0 < k := by
      rcases Nat.eq_zero_or_pos k with z | z
      · subst z; exact absurd (by decide) c
      · exact z
    obtain ⟨a1, a2⟩ := hr (2 * k + w) (by omega)
    obtain ⟨b1, b2⟩ := hr (2 * k + w - 2) (by omega)
    obtain ⟨c1, c2⟩ := he (2 * k + w - 2) (by omega)
    have e2 : nI (2 * k + w) - 2 = nI (2 * k + w - 2) := rc_subN (b := 2) (by omega)
    refine And.intro (by rw [e2]; exact rc_vi (n := 4) (by omega) (by decide)) (And.intro (rc_vi (n := 4) (by omega) (by decide)) ?_)
    rw [e2, rc_ci (show 2 * k + w - 2 ≤ 2000 by omega), rc_ci (show 2 * k + w ≤ 2000 by omega), a1, b1]
    refine And.intro (fun c => ?_) (fun c => ?_)
    · have e0 : rc_u2 row e k w = 0 := by unfold rc_u2; rw [if_neg (fun z => c (by rw [z.2]))]
      rw [e0] at h
      exact c_pass_80 hA hk hw hr he h0 rfl hmc (by decide) h
    · have e0 : rc_u2 row e k w = e (2 * k + w - 2) + 1 := by unfold rc_u2; rw [if_pos ⟨hk0, (nI_eq (by omega) (by omega)).mp c⟩]
      refine And.intro (by rw [e2]; exact rc_vi (n := 6) (by omega) (by decide)) ?_
      rw [e2, rc_ci (by omega), c1]
      rw [e0] at h
      exact c_pass_80 (uc := e (2 * k + w - 2) + 1) hA hk hw hr he h0 rfl hmc (by omega) h
theorem c_pass {x y : Int32} {k w : Nat} {row e : Nat → Nat} (hx : x = nI k) (hy : y = nI w) (hA : rc_CA σ V) (hk : k < 2) (hw : w < 2) (hr : ∀ j, j < 2 * k + 2 → σ 68 j = nI (row j) ∧ row j < 6) (he : ∀ j, j < 2 * k + 2 → σ 69 j = nI (e j) ∧ e j < 27) {Q : rc_M → Prop} (h : Q (rc_up σ 69 (upd (σ 69) (2 * k + 2 + w) (nI (rc_pn V row e k w))))) : rc_TV (d + 3) 55 [.ref 67, .int x, .int y] σ Q := by
  subst hx; subst hy
  have hm := rc_m2_le (row := row) (w := w) (fun j hj => (he j hj).2)
  obtain ⟨a1, a2⟩ := hr (2 * k) (by omega)
  obtain ⟨b1, b2⟩ := hr (2 * k + 1) (by omega)
  obtain ⟨c1, c2⟩ := he (2 * k + 1 - w) (by omega)
  refine rc_go 60 (And.intro (by rw [rc_2x]; exact rc_vi (n := 4) (by omega) (by decide)) (And.intro (by rw [rc_2x1]; exact rc_vi (n := 4) (by omega) (by decide)) ?_))
  rw [rc_2x1, rc_2x, rc_ci (show 2 * k ≤ 2000 by omega), rc_ci (show 2 * k + 1 ≤ 2000 by omega), a1, b1]
  refine And.intro (fun c => ?_) (fun c => ?_)
  · have e0 : rc_m2 row e k w = 0 := by unfold rc_m2; rw [if_neg (fun z => c (by rw [z]))]
    have key := c_pass_44 (d := d) (w4 := .null) (w5 := .null) (w6 := .null) (mc := 0) (x0 := -9) (Q' := fun r σ' => r = none ∧ Q σ') hA hk hw hr he rfl (by decide) ⟨rfl, by unfold rc_pn at h; rw [e0] at h; exact h⟩
    rw [← nI_add (2 * k) w] at key
    exact key
  · have e0 : rc_m2 row e k w = e (2 * k + 1 - w) + 1 := by unfold rc_m2; rw [if_pos ((nI_eq (by omega) (by omega)).mp c)]
    have e3 := rc_2xv (k := k) (w := w) (by omega)
    refine And.intro (by rw [e3]; exact rc_vi (n := 6) (by omega) (by decide)) ?_
    have key := c_pass_44 (d := d) (w4 := .null) (w5 := .null) (w6 := .null) (mc := e (2 * k + 1 - w) + 1) (x0 := nI (e (2 * k + 1 - w))) (Q' := fun r σ' => r = none ∧ Q σ') hA hk hw hr he rfl (by omega) ⟨rfl, by unfold rc_pn at h; rw [e0] at h; exact h⟩
    rw [← nI_add (2 * k) w] at key
    rw [e3, rc_ci (by omega), c1]
    exact key
end RPa
