section RSu
variable {d n : Nat} {σ : rc_M} {P : rc_P} {V : rc_V} {Q : Int32 → rc_M → Prop}
/-! sure: a bit for each two rooms -/
def rc_pps (b i j : Nat) : Nat := i * (2 * b - i - 1) / 2 + (j - i - 1)
def rc_pds (b p : Nat) : Nat × Nat := (fun k => (k / 6, k % 6)) (((List.range 36).find? (fun k => decide (k / 6 < k % 6) && decide (k % 6 < b) && decide (rc_pps b (k / 6) (k % 6) = p))).getD 0)
theorem rc_pF1 : ∀ b, b ≤ 6 → ∀ j, j < b → ∀ i, i < j → rc_pds b (rc_pps b i j) = (i, j) ∧ rc_pps b i j < b * (b - 1) / 2 := by decide +kernel
theorem rc_pF2 : ∀ b, b ≤ 6 → ∀ p, p < b * (b - 1) / 2 → (rc_pds b p).1 < (rc_pds b p).2 ∧ (rc_pds b p).2 < b := by decide +kernel
theorem rc_pF3 : ∀ b, b ≤ 6 → ∀ i, i < b → rc_pps b (i + 1) (i + 2) = rc_pps b i b := by decide +kernel
theorem rc_pF4 : ∀ b, b ≤ 6 → rc_pps b b (b + 1) = b * (b - 1) / 2 ∧ b * (b - 1) / 2 ≤ 15 ∧ rc_pps b 0 1 = 0 := by decide +kernel
theorem rc_pF5 {b i j : Nat} (h : i < j) : rc_pps b i (j + 1) = rc_pps b i j + 1 := by unfold rc_pps; omega
def rc_bvs (g : Nat → Bool) : Nat → Nat
  | 0 => 0
  | p + 1 => if g p then rc_bvs g p ||| 2 ^ p else rc_bvs g p
theorem rc_bvs_tb {g : Nat → Bool} {k : Nat} : ∀ p, (rc_bvs g p).testBit k = (decide (k < p) && g k) := by
  intro p
  induction p with
  | zero => simp [rc_bvs]
  | succ p ih =>
    rw [rc_bvs]
    by_cases e : k = p
    · subst e
      have h1 : ¬ k < k := by omega
      cases hg : g k
      · rw [if_neg (by decide), ih, hg]; simp
      · rw [if_pos rfl, rc_tb_or, ih]; simp
    · have h2 : decide (k < p + 1) = decide (k < p) := by
        by_cases z : k < p
        · rw [decide_eq_true z, decide_eq_true (by omega)]
        · rw [decide_eq_false z, decide_eq_false (by omega)]
      have h3 : decide (p = k) = false := decide_eq_false (fun z => e z.symm)
      cases hg : g p
      · rw [if_neg (by decide), ih, h2]
      · rw [if_pos rfl, rc_tb_or, ih, h2, h3, Bool.or_false]
theorem rc_bvs_lt {g : Nat → Bool} : ∀ p, rc_bvs g p < 2 ^ p := by
  intro p
  induction p with
  | zero => exact Nat.zero_lt_one
  | succ p ih =>
    have h1 : rc_bvs g p < 2 ^ (p + 1) := Nat.lt_trans ih (Nat.pow_lt_pow_right (by decide) (by omega))
    rw [rc_bvs]
    split
    · exact Nat.or_lt_two_pow h1 (Nat.pow_lt_pow_right (by decide) (by omega))
    · exact h1
theorem rc_bvs_and {g h : Nat → Bool} {p : Nat} : rc_bvs g p &&& rc_bvs h p = rc_bvs (fun k => g k && h k) p := by
  apply Nat.eq_of_testBit_eq
  intro i
  rw [Nat.testBit_and, rc_bvs_tb, rc_bvs_tb, rc_bvs_tb]
  cases decide (i < p) <;> simp
theorem rc_bvs_or {g h : Nat → Bool} {p : Nat} : rc_bvs g p ||| rc_bvs h p = rc_bvs (fun k => g k || h k) p := by
  apply Nat.eq_of_testBit_eq
  intro i
  rw [Nat.testBit_or, rc_bvs_tb, rc_bvs_tb, rc_bvs_tb]
  cases decide (i < p) <;> simp
theorem rc_bvs_eq {g h : Nat → Bool} {p : Nat} : rc_bvs g p = rc_bvs h p ↔ ∀ k, k < p → g k = h k := by
  constructor
  · intro e k hk
    have := congrArg (fun x => x.testBit k) e
    simp only [rc_bvs_tb, decide_eq_true hk, Bool.true_and] at this
    exact this
  · intro e
    apply Nat.eq_of_testBit_eq
    intro i
    rw [rc_bvs_tb, rc_bvs_tb]
    by_cases z : i < p
    · rw [e i z]
    · rw [decide_eq_false z]; rfl
def rc_al (b m p : Nat) : Bool := m.testBit (rc_pds b p).1 && m.testBit (rc_pds b p).2
def rc_ta (V : rc_V) (b s p : Nat) : Bool := !decide (rc_nV V (rc_pds b p).2 s 0 0 0 0 = rc_nV V (rc_pds b p).1 s 0 0 0 0)
theorem rc_sl1 : ∀ p, p < 16 → nI (2 ^ p) <<< ((1 : Int32) &&& 31) = nI (2 ^ (p + 1)) := by decide +kernel
theorem rc_bt66 : ∀ m, m < 64 → ∀ i, i < 6 → ∀ j, j < 6 → (((nI m >>> (nI i &&& 31)) &&& (nI m >>> (nI j &&& 31))) &&& 1) = nI (m.testBit i && m.testBit j).toNat := by decide +kernel
theorem c_po_22 {m b i : Nat} (e31 : σ 3 1 = nI b) (hb : b ≤ 6) (hm : m < 64) (hi : i < b) {Q' : Option Value → rc_M → Prop} (k1 : ∀ w5, rc_Tc d 24 7 [.ref 3, .int (nI m), .int (nI (rc_bvs (rc_al b m) (rc_pps b i b))), .int (nI (2 ^ rc_pps b i b)), .int (nI (i + 1)), w5] [] σ Q') : ∀ (c j : Nat), j + c = b → i < j → rc_Tc d 24 22 [.ref 3, .int (nI m), .int (nI (rc_bvs (rc_al b m) (rc_pps b i j))), .int (nI (2 ^ rc_pps b i j)), .int (nI i), .int (nI j)] [] σ Q' := by
  intro c
  induction c with
  | zero =>
    intro j hj hij
    have : j = b := by omega
    subst this
    rw [← nI_1] at k1
    exact rc_go 40 (And.intro (fun _ => k1 _) (fun c => absurd (by rw [e31]; exact nI_le (Nat.le_refl _) (by omega)) c))
  | succ c ih =>
    intro j hj hij
    have key := ih (j + 1) (by omega) (by omega)
    obtain ⟨p1, p2⟩ := rc_pF1 b hb j (by omega) i hij
    obtain ⟨_, p3, _⟩ := rc_pF4 b hb
    have eal : rc_al b m (rc_pps b i j) = (m.testBit i && m.testBit j) := by unfold rc_al; rw [p1]
    rw [rc_pF5 hij, ← nI_1, rc_bvs, eal, ← rc_sl1 _ (by omega)] at key
    have eb := rc_bt66 m hm i (by omega) j (by omega)
    refine rc_go 60 (And.intro (fun c1 => absurd (by rw [e31] at c1; exact c1) (nI_ge (by omega) (by omega))) (fun _ => ?_))
    refine And.intro (fun c2 => ?_) (fun c2 => ?_)
    · rw [eb] at c2
      have z : (m.testBit i && m.testBit j) = false := by
        cases hz : (m.testBit i && m.testBit j) with
        | false => rfl
        | true => rw [hz] at c2; exact absurd rfl c2
      rw [z, if_neg (by decide)] at key
      exact key
    · rw [eb] at c2
      have z : (m.testBit i && m.testBit j) = true := by
        cases hz : (m.testBit i && m.testBit j) with
        | true => rfl
        | false => rw [hz] at c2; exact absurd c2 (by decide)
      rw [z, if_pos rfl, ← fa_or] at key
      exact key
theorem c_po_7 {m b : Nat} (e31 : σ 3 1 = nI b) (hb : b ≤ 6) (hm : m < 64) {Q' : Option Value → rc_M → Prop} (h : Q' (some (.int (nI (rc_bvs (rc_al b m) (b * (b - 1) / 2))))) σ) : ∀ (c i : Nat) (w5 : Value), i + c = b → rc_Tc d 24 7 [.ref 3, .int (nI m), .int (nI (rc_bvs (rc_al b m) (rc_pps b i (i + 1)))), .int (nI (2 ^ rc_pps b i (i + 1))), .int (nI i), w5] [] σ Q' := by
  intro c
  induction c with
  | zero =>
    intro i w5 hi
    have : i = b := by omega
    subst this
    rw [(rc_pF4 i hb).1]
    exact rc_go 40 (And.intro (fun _ => h) (fun c => absurd (by rw [e31]; exact nI_le (Nat.le_refl _) (by omega)) c))
  | succ c ih =>
    intro i w5 hi
    have key := fun w5 => ih (i + 1) w5 (by omega)
    rw [rc_pF3 b hb i (by omega)] at key
    have k2 := c_po_22 e31 hb hm (by omega) key (b - (i + 1)) (i + 1) (by omega) (by omega)
    rw [show (nI (i + 1)) = nI i + 1 from (nI_1 i).symm] at k2
    exact rc_go 40 (And.intro (fun c1 => absurd (by rw [e31] at c1; exact c1) (nI_ge (by omega) (by omega))) (fun _ => k2))
theorem c_pairsOf {x : Int32} {m : Nat} (hx : x = nI m) (hC : rc_Cls 0 σ V) (hW : rc_WF n V) (hm : m < 64) (h : Q (nI (rc_bvs (rc_al (V 12 0) m) (V 12 0 * (V 12 0 - 1) / 2))) σ) : rc_TI d 24 [.ref 3, .int x] σ Q := by
  subst hx
  have k := c_po_7 (d := d) (m := m) (Q' := fun v σ => ∃ x, v = some (.int x) ∧ Q x σ) hC.1 hW.1 hm ⟨_, rfl, h⟩ (V 12 0) 0 .null (by omega)
  rw [(rc_pF4 _ hW.1).2.2] at k
  exact rc_go 20 k
theorem c_pa_36 {s b i : Nat} (h0 : σ 0 = rc_wt) (hC : rc_Cls 0 σ V) (hW : rc_WF n V) (eb : b = V 12 0) (hs : s < 27) (hi : i < b) {Q' : Option Value → rc_M → Prop} (k1 : ∀ w5 w6, rc_Tc (d + 4) 25 7 [.ref 3, .int (nI s), .int (nI (rc_bvs (rc_ta V b s) (rc_pps b i b))), .int (nI (2 ^ rc_pps b i b)), .int (nI (i + 1)), w5, w6] [] σ Q') : ∀ (c j : Nat), j + c = b → i < j → rc_Tc (d + 4) 25 36 [.ref 3, .int (nI s), .int (nI (rc_bvs (rc_ta V b s) (rc_pps b i j))), .int (nI (2 ^ rc_pps b i j)), .int (nI i), .int (nI (rc_nV V i s 0 0 0 0)), .int (nI j)] [] σ Q' := by
  have hb : b ≤ 6 := by rw [eb]; exact hW.1
  have e31 : σ 3 1 = nI b := by rw [eb]; exact hC.1
  have hWi := hW.2.2.2.2.1 i (by omega)
  intro c
  induction c with
  | zero =>
    intro j hj hij
    have : j = b := by omega
    subst this
    rw [← nI_1] at k1
    exact rc_go 40 (And.intro (fun _ => k1 _ _) (fun c => absurd (by rw [e31]; exact nI_le (Nat.le_refl _) (by omega)) c))
  | succ c ih =>
    intro j hj hij
    have hj6 : j < 6 := by omega
    have hWr := hW.2.2.2.2.1 j hj6
    have hRm := (hC.2.2.2.2.1 j hj6).rm hj6
    have key := ih (j + 1) (by omega) (by omega)
    obtain ⟨p1, p2⟩ := rc_pF1 b hb j (by omega) i hij
    obtain ⟨_, p3, _⟩ := rc_pF4 b hb
    have eal : rc_ta V b s (rc_pps b i j) = !decide (rc_nV V j s 0 0 0 0 = rc_nV V i s 0 0 0 0) := by unfold rc_ta; rw [p1]
    rw [rc_pF5 hij, ← nI_1, rc_bvs, eal, ← rc_sl1 _ (by omega)] at key
    have l1 : rc_nV V i s 0 0 0 0 < 27 := rc_nV_lt hWi hs (by decide)
    have l2 : rc_nV V j s 0 0 0 0 < 27 := rc_nV_lt hWr hs (by decide)
    refine rc_go 60 (And.intro (fun c1 => absurd (by rw [e31] at c1; exact c1) (nI_ge (by omega) (by omega))) (fun _ => ?_))
    refine Exists.intro (9 + 2 * j) (And.intro rfl (And.intro (rc_vi (n := 6) hj6 (by decide)) (And.intro (by rw [rc_ci (by omega)]; exact rc_rho4 _ hj6) (And.intro hRm.1 ?_))))
    refine c_firstNight (n := 0) rfl rfl h0 hs (by decide) hRm hWr.1 hWr.2.1 hWr.2.2.1 (And.intro (fun c2 => ?_) (fun c2 => ?_))
    · have z : rc_nV V j s 0 0 0 0 = rc_nV V i s 0 0 0 0 := (nI_eq (by omega) (by omega)).mp c2
      rw [decide_eq_true z, if_neg (by decide)] at key
      exact key
    · have z : ¬ rc_nV V j s 0 0 0 0 = rc_nV V i s 0 0 0 0 := fun e => c2 (show nI (rc_nV V j s 0 0 0 0) = _ by rw [e])
      rw [decide_eq_false z, if_pos (by decide), ← fa_or] at key
      exact key
theorem c_pa_7 {s b : Nat} (h0 : σ 0 = rc_wt) (hC : rc_Cls 0 σ V) (hW : rc_WF n V) (eb : b = V 12 0) (hs : s < 27) {Q' : Option Value → rc_M → Prop} (h : Q' (some (.int (nI (rc_bvs (rc_ta V b s) (b * (b - 1) / 2))))) σ) : ∀ (c i : Nat) (w5 w6 : Value), i + c = b → rc_Tc (d + 4) 25 7 [.ref 3, .int (nI s), .int (nI (rc_bvs (rc_ta V b s) (rc_pps b i (i + 1)))), .int (nI (2 ^ rc_pps b i (i + 1))), .int (nI i), w5, w6] [] σ Q' := by
  have hb : b ≤ 6 := by rw [eb]; exact hW.1
  have e31 : σ 3 1 = nI b := by rw [eb]; exact hC.1
  intro c
  induction c with
  | zero =>
    intro i w5 w6 hi
    have : i = b := by omega
    subst this
    rw [(rc_pF4 i hb).1]
    exact rc_go 40 (And.intro (fun _ => h) (fun c => absurd (by rw [e31]; exact nI_le (Nat.le_refl _) (by omega)) c))
  | succ c ih =>
    intro i w5 w6 hi
    have hi6 : i < 6 := by omega
    have hWr := hW.2.2.2.2.1 i hi6
    have hRm := (hC.2.2.2.2.1 i hi6).rm hi6
    have key := fun w5 w6 => ih (i + 1) w5 w6 (by omega)
    rw [rc_pF3 b hb i (by omega)] at key
    have k2 := c_pa_36 h0 hC hW eb hs (by omega) key (b - (i + 1)) (i + 1) (by omega) (by omega)
    rw [show (nI (i + 1)) = nI i + 1 from (nI_1 i).symm] at k2
    refine rc_go 40 (And.intro (fun c1 => absurd (by rw [e31] at c1; exact c1) (nI_ge (by omega) (by omega))) (fun _ => ?_))
    refine Exists.intro (9 + 2 * i) (And.intro rfl (And.intro (rc_vi (n := 6) hi6 (by decide)) (And.intro (by rw [rc_ci (by omega)]; exact rc_rho4 _ hi6) (And.intro hRm.1 ?_))))
    exact c_firstNight (n := 0) rfl rfl h0 hs (by decide) hRm hWr.1 hWr.2.1 hWr.2.2.1 k2
theorem c_pairsApart {x : Int32} {s : Nat} (hx : x = nI s) (h0 : σ 0 = rc_wt) (hC : rc_Cls 0 σ V) (hW : rc_WF n V) (hs : s < 27) (h : Q (nI (rc_bvs (rc_ta V (V 12 0) s) (V 12 0 * (V 12 0 - 1) / 2))) σ) : rc_TI (d + 4) 25 [.ref 3, .int x] σ Q := by
  subst hx
  have k := c_pa_7 (d := d) (s := s) (Q' := fun v σ => ∃ x, v = some (.int x) ∧ Q x σ) h0 hC hW rfl hs ⟨_, rfl, h⟩ (V 12 0) 0 .null .null (by omega)
  rw [(rc_pF4 _ hW.1).2.2] at k
  exact rc_go 20 k
end RSu
