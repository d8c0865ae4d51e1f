section RNx
variable {d n : Nat} {σ : rc_M} {P : rc_P} {V : rc_V} {Q : Int32 → rc_M → Prop}
/-! how many of a set make of two states what none below makes; next -/
def rc_du (V : rc_V) (m s t r q : Nat) : Bool := m.testBit q && (decide (rc_nV V q s 0 0 0 0 = rc_nV V r s 0 0 0 0) && decide (rc_nV V q t 0 0 0 0 = rc_nV V r t 0 0 0 0))
def rc_fs (V : rc_V) (m s t r k : Nat) : Bool := m.testBit r && rc_alls (fun q => !rc_du V m s t r q) k
def rc_ap (V : rc_V) (m s t : Nat) : Nat → Nat
  | 0 => 0
  | k + 1 => rc_ap V m s t k + (rc_fs V m s t k k).toNat
theorem rc_bool_t {b : Bool} (h : ¬ rc_bI b = 0) : b = true := by
  cases b with
  | true => rfl
  | false => exact absurd rfl h
theorem t_ap_92 {m q : Nat} {f b : Bool} {x2 x3 x4 x5 : Int32} {w8 : Value} {Q' : Option Value → rc_M → Prop} (hm : m < 64) (hq : q < 6) (key : rc_Tc (d + 4) 173 26 [.ref 80, .int (nI m), .int x2, .int x3, .int x4, .int x5, .int (rc_bI (f && !(m.testBit q && b))), .int (nI (q + 1)), .int (rc_bI b)] [] σ Q') : rc_Tc (d + 4) 173 92 [.ref 80, .int (nI m), .int x2, .int x3, .int x4, .int x5, .int (rc_bI f), .int (nI q), w8] [.int (rc_bI b)] σ Q' := by
  rw [← nI_1] at key
  refine rc_go 60 (And.intro (fun c => ?_) (fun c => ?_))
  · rw [rc_bI_0.mp c] at key ⊢
    exact rc_go 20 key
  · rw [rc_bool_t c] at key ⊢
    refine t_isOneOf rfl rfl hm hq (And.intro (fun c2 => ?_) (fun c2 => ?_))
    · rw [rc_bI_0.mp c2] at key
      exact rc_go 20 key
    · rw [rc_bool_t c2] at key
      refine And.intro (fun c3 => ?_) (fun c3 => ?_)
      · rw [rc_bool_t c3] at key ⊢
        exact rc_go 20 key
      · rw [rc_bI_0.mp c3] at key ⊢
        exact rc_go 20 key
theorem t_ap_26 {m s t r : Nat} {x4 : Int32} (hM : rc_Mod σ V) (hW : rc_WF n V) (hm : m < 64) (hs : s < 27) (ht : t < 27) (hr : r < V 12 0) {Q' : Option Value → rc_M → Prop} (k1 : ∀ w8, rc_Tc (d + 4) 173 26 [.ref 80, .int (nI m), .int (nI s), .int (nI t), .int x4, .int (nI r), .int (rc_bI (rc_fs V m s t r r)), .int (nI r), w8] [] σ Q') : ∀ (c q : Nat) (w8 : Value), q + c = r → rc_Tc (d + 4) 173 26 [.ref 80, .int (nI m), .int (nI s), .int (nI t), .int x4, .int (nI r), .int (rc_bI (rc_fs V m s t r q)), .int (nI q), w8] [] σ Q' := by
  have hb6 := hW.1
  have hWr := hW.2.2.2.2.1 r (by omega)
  intro c
  induction c with
  | zero =>
    intro q w8 hq
    have : q = r := by omega
    subst this
    exact k1 w8
  | succ c ih =>
    intro q w8 hq
    have hWq := hW.2.2.2.2.1 q (by omega)
    have l1 : rc_nV V q s 0 0 0 0 < 27 := rc_nV_lt hWq hs (by decide)
    have l2 : rc_nV V r s 0 0 0 0 < 27 := rc_nV_lt hWr hs (by decide)
    have l3 : rc_nV V q t 0 0 0 0 < 27 := rc_nV_lt hWq ht (by decide)
    have l4 : rc_nV V r t 0 0 0 0 < 27 := rc_nV_lt hWr ht (by decide)
    have key := fun w8 => ih (q + 1) w8 (by omega)
    have ef : rc_fs V m s t r (q + 1) = (rc_fs V m s t r q && !rc_du V m s t r q) := by unfold rc_fs; rw [rc_alls, Bool.and_assoc]
    refine rc_go 60 (And.intro (fun c1 => absurd c1 (nI_ge (by omega) (by omega))) (fun _ => ?_))
    refine t_makesOf (V := V) (s := s) (n := 0) (hc := 0) (uc := 0) rfl rfl rfl rfl rfl (by omega) hs (by decide) (by decide) (by decide) (hM.2.2.2.2.1 q (by omega)) hWq ?_
    refine t_makesOf (V := V) (s := s) (n := 0) (hc := 0) (uc := 0) rfl rfl rfl rfl rfl (by omega) hs (by decide) (by decide) (by decide) (hM.2.2.2.2.1 r (by omega)) hWr ?_
    refine And.intro (fun c2 => ?_) (fun c2 => ?_)
    · have z : rc_du V m s t r q = (m.testBit q && false) := by
        unfold rc_du
        rw [decide_eq_false (fun e => c2 (by rw [e])), Bool.false_and]
      refine t_ap_92 (b := false) hm (by omega) ?_
      rw [← z, ← ef]
      exact key _
    · refine t_makesOf (V := V) (s := t) (n := 0) (hc := 0) (uc := 0) rfl rfl rfl rfl rfl (by omega) ht (by decide) (by decide) (by decide) (hM.2.2.2.2.1 q (by omega)) hWq ?_
      refine t_makesOf (V := V) (s := t) (n := 0) (hc := 0) (uc := 0) rfl rfl rfl rfl rfl (by omega) ht (by decide) (by decide) (by decide) (hM.2.2.2.2.1 r (by omega)) hWr ?_
      have e2 := (nI_eq (by omega) (by omega)).mp c2
      refine And.intro (fun c3 => ?_) (fun c3 => ?_)
      · have z : rc_du V m s t r q = (m.testBit q && false) := by
          unfold rc_du
          rw [decide_eq_false (p := rc_nV V q t 0 0 0 0 = _) (fun e => c3 (by rw [e])), Bool.and_false]
        refine t_ap_92 (b := false) hm (by omega) ?_
        rw [← z, ← ef]
        exact key _
      · have e3 := (nI_eq (by omega) (by omega)).mp c3
        have z : rc_du V m s t r q = (m.testBit q && true) := by
          unfold rc_du
          rw [decide_eq_true e2, decide_eq_true e3, Bool.true_and]
        refine t_ap_92 (b := true) hm (by omega) ?_
        rw [← z, ← ef]
        exact key _
theorem rc_toN_0 : (false : Bool).toNat = 0 := rfl
theorem t_ap_6 {m s t : Nat} (hM : rc_Mod σ V) (hW : rc_WF n V) (hm : m < 64) (hs : s < 27) (ht : t < 27) {Q' : Option Value → rc_M → Prop} (h : Q' (some (.int (nI (rc_ap V m s t (V 12 0))))) σ) : ∀ (c k : Nat) (w6 w7 w8 : Value), k + c = V 12 0 → rc_Tc (d + 4) 173 6 [.ref 80, .int (nI m), .int (nI s), .int (nI t), .int (nI (rc_ap V m s t k)), .int (nI k), w6, w7, w8] [] σ Q' := by
  have e31 : σ 80 1 = nI (V 12 0) := hM.1
  have hb6 := hW.1
  intro c
  induction c with
  | zero =>
    intro k w6 w7 w8 hk
    have : k = V 12 0 := by omega
    subst this
    exact rc_go 40 (And.intro (fun _ => h) (fun c => absurd (by rw [e31]; exact nI_le (Nat.le_refl _) (by omega)) c))
  | succ c ih =>
    intro k w6 w7 w8 hk
    refine rc_go 60 (And.intro (fun c1 => absurd (by rw [e31] at c1; exact c1) (nI_ge (by omega) (by omega))) (fun _ => ?_))
    refine t_isOneOf rfl rfl hm (by omega) ?_
    have e0 : rc_fs V m s t k 0 = m.testBit k := by unfold rc_fs; rw [rc_alls, Bool.and_true]
    rw [← e0]
    refine t_ap_26 (V := V) hM hW hm hs ht (by omega) (fun w8 => ?_) k 0 w8 (by omega)
    have key := fun w6 w7 w8 => ih (k + 1) w6 w7 w8 (by omega)
    rw [← nI_1, rc_ap, ← nI_add] at key
    refine rc_go 60 (And.intro (fun _ => ?_) (fun c => absurd (nI_le (Nat.le_refl _) (by omega)) c))
    refine And.intro (fun c2 => ?_) (fun c2 => ?_)
    · rw [rc_bI_0.mp c2] at key ⊢
      exact key _ _ _
    · rw [rc_bool_t c2] at key ⊢
      exact key _ _ _
theorem t_apart {x y z : Int32} {m s t : Nat} (hx : x = nI m) (hy : y = nI s) (hz : z = nI t) (hM : rc_Mod σ V) (hW : rc_WF n V) (hm : m < 64) (hs : s < 27) (ht : t < 27) (h : Q (nI (rc_ap V m s t (V 12 0))) σ) : rc_TI (d + 4) 173 [.ref 80, .int x, .int y, .int z] σ Q := by
  subst hx; subst hy; subst hz
  exact rc_go 20 (t_ap_6 hM hW hm hs ht ⟨_, rfl, h⟩ (V 12 0) 0 _ _ _ (by omega))
theorem rc_pc_or {u x : Nat} : ∀ k, rc_pc (u ||| 2 ^ x) k = rc_pc u k + (decide (x < k) && !u.testBit x).toNat := by
  intro k
  induction k with
  | zero => rfl
  | succ k ih =>
    rw [rc_pc, rc_pc, ih, rc_tb_or]
    by_cases e : x = k
    · subst e
      have h1 : ¬ x < x := by omega
      cases u.testBit x <;> simp [h1]
    · have h2 : decide (x < k + 1) = decide (x < k) := by
        by_cases z : x < k
        · rw [decide_eq_true z, decide_eq_true (by omega)]
        · rw [decide_eq_false z, decide_eq_false (by omega)]
      rw [h2, decide_eq_false e, Bool.or_false]
      omega
theorem rc_uq_tb {m s x : Nat} : ∀ k, (rc_uq V m s k).testBit x = !rc_alls (fun q => !(m.testBit q && decide (rc_nV V q s 0 0 0 0 = x))) k := by
  intro k
  induction k with
  | zero => simp [rc_uq, rc_alls]
  | succ k ih =>
    rw [rc_uq, rc_alls]
    cases hz : m.testBit k with
    | true =>
      rw [if_pos rfl, rc_tb_or, ih]
      simp only [Bool.true_and]
      cases rc_alls _ k <;> cases decide (rc_nV V k s 0 0 0 0 = x) <;> rfl
    | false =>
      rw [if_neg (by decide), ih]
      simp
theorem rc_uq_ap {m s : Nat} (hW : rc_WF n V) (hs : s < 27) : ∀ k, k ≤ 6 → rc_pc (rc_uq V m s k) 27 = rc_ap V m s s k := by
  intro k
  induction k with
  | zero => intro _; rw [rc_uq, rc_ap]; decide
  | succ k ih =>
    intro hk
    rw [rc_uq, rc_ap, ← ih (by omega), rc_fs]
    cases hz : m.testBit k with
    | false => rw [if_neg (by decide), Bool.false_and]; rfl
    | true =>
      rw [if_pos rfl, rc_pc_or, rc_uq_tb, Bool.true_and, decide_eq_true (rc_nV_lt (hW.2.2.2.2.1 k (by omega)) hs (by decide)), Bool.true_and, Bool.not_not]
      congr 3
      funext q
      unfold rc_du
      rw [Bool.and_self]
def rc_mxs (f : Nat → Nat) : Nat → Nat × Nat
  | 0 => (0, 0)
  | s + 1 => if (rc_mxs f s).2 < f s then (s, f s) else rc_mxs f s
def rc_nxt (V : rc_V) (m : Nat) : Int32 := if 2 ≤ rc_pc m 6 then nI (rc_mxs (fun s => rc_ap V m s s (V 12 0)) 27).1 else -9
def o_next (P : rc_P) (x : Int32) : Int32 × rc_P := cond (rc_ob x (2 ^ pV P 12 0)) (o_no P 1) (rc_nxt (pV P) (rc_fit (pV P) x.toNatClampNeg (pV P 12 0)), P)
theorem o_next_a {m : Nat} (h6 : pV P 12 0 ≤ 6) (hm : m < 2 ^ pV P 12 0) : o_next P (nI m) = (rc_nxt (pV P) (rc_fit (pV P) m (pV P 12 0)), P) := by
  have hp := rc_p6 h6
  unfold o_next
  rw [rc_ob_f hm (by omega), rc_ci (by omega)]
  rfl
theorem rc_ap_le {m s t : Nat} : ∀ k, rc_ap V m s t k ≤ k := by
  intro k
  induction k with
  | zero => exact Nat.le_refl _
  | succ k ih => rw [rc_ap]; have := Bool.toNat_le (rc_fs V m s t k k); omega
theorem rc_mx_b {f : Nat → Nat} (hf : ∀ s, f s ≤ 6) : ∀ s, (rc_mxs f s).2 ≤ 6 := by
  intro s
  induction s with
  | zero => exact Nat.zero_le _
  | succ s ih => rw [rc_mxs]; split
                 · exact hf s
                 · exact ih
theorem c_nx_l {m : Nat} {x1 : Int32} (h0 : σ 0 = rc_wt) (hC : rc_Cls 0 σ V) (hW : rc_WF n V) (hm : m < 64) {Q' : Option Value → rc_M → Prop} (h : Q' (some (.int (nI (rc_mxs (fun s => rc_ap V m s s (V 12 0)) 27).1))) σ) : ∀ (c s : Nat) (w6 : Value), s + c = 27 → rc_Tc (d + 5) 104 45 [.ref 2, .int x1, .int (nI m), .int (nI (rc_mxs (fun s => rc_ap V m s s (V 12 0)) s).1), .int (nI (rc_mxs (fun s => rc_ap V m s s (V 12 0)) s).2), .int (nI s), w6] [] σ Q' := by
  have hb6 := hW.1
  intro c
  induction c with
  | zero =>
    intro s w6 hs
    have : s = 27 := by omega
    subst this
    exact rc_go 40 (And.intro (fun _ => h) (fun c => absurd (by decide) c))
  | succ c ih =>
    intro s w6 hs
    have key := fun w6 => ih (s + 1) w6 (by omega)
    rw [← nI_1, rc_mxs] at key
    refine rc_go 60 (And.intro (fun c1 => absurd c1 (nI_ge (show s < 27 by omega) (by decide))) (fun _ => ?_))
    refine c_unlike rfl rfl h0 hC hW hm (by omega) ?_
    rw [rc_uq_ap hW (by omega) _ hb6]
    have hl := rc_ap_le (V := V) (m := m) (s := s) (t := s) (V 12 0)
    have hl2 := rc_mx_b (f := fun s => rc_ap V m s s (V 12 0)) (fun s => Nat.le_trans (rc_ap_le _) hb6) s
    refine And.intro (fun c2 => ?_) (fun c2 => ?_)
    · rw [if_neg (fun z => nI_ge z (by omega) c2)] at key
      exact key _
    · rw [if_pos (Nat.lt_of_not_le (fun z => c2 (nI_le z (by omega))))] at key
      exact key _
theorem t_nx_l {m : Nat} {x1 : Int32} (hM : rc_Mod σ V) (hW : rc_WF n V) (hm : m < 64) {Q' : Option Value → rc_M → Prop} (h : Q' (some (.int (nI (rc_mxs (fun s => rc_ap V m s s (V 12 0)) 27).1))) σ) : ∀ (c s : Nat) (w6 : Value), s + c = 27 → rc_Tc (d + 5) 175 40 [.ref 80, .int x1, .int (nI m), .int (nI (rc_mxs (fun s => rc_ap V m s s (V 12 0)) s).2), .int (nI (rc_mxs (fun s => rc_ap V m s s (V 12 0)) s).1), .int (nI s), w6] [] σ Q' := by
  have hb6 := hW.1
  intro c
  induction c with
  | zero =>
    intro s w6 hs
    have : s = 27 := by omega
    subst this
    exact rc_go 40 (And.intro (fun _ => h) (fun c => absurd (by decide) c))
  | succ c ih =>
    intro s w6 hs
    have key := fun w6 => ih (s + 1) w6 (by omega)
    rw [← nI_1, rc_mxs] at key
    refine rc_go 60 (And.intro (fun c1 => absurd c1 (nI_ge (show s < 27 by omega) (by decide))) (fun _ => ?_))
    refine t_apart rfl rfl rfl hM hW hm (by omega) (by omega) ?_
    have hl := rc_ap_le (V := V) (m := m) (s := s) (t := s) (V 12 0)
    have hl2 := rc_mx_b (f := fun s => rc_ap V m s s (V 12 0)) (fun s => Nat.le_trans (rc_ap_le _) hb6) s
    refine And.intro (fun c2 => ?_) (fun c2 => ?_)
    · rw [if_neg (fun z => nI_ge z (by omega) c2)] at key
      exact key _
    · rw [if_pos (Nat.lt_of_not_le (fun z => c2 (nI_le z (by omega))))] at key
      exact key _
theorem rc_pc27 : ∀ m, m < 64 → rc_pc m 27 = rc_pc m 6 ∧ rc_pc m 6 ≤ 6 := by decide +kernel
theorem rc_fit64 {m : Nat} (h6 : V 12 0 ≤ 6) : rc_fit V m (V 12 0) < 64 := Nat.lt_of_lt_of_le (rc_fit_lt _) (rc_p6 h6)
theorem c_next {x : Int32} (hI : rc_CP σ P) (hW : rc_WP n P) (h : ∀ σ', rc_fC σ σ' → rc_CP σ' (o_next P x).2 → Q (o_next P x).1 σ') : rc_TI (d + 6) 104 [.ref 2, .int x] σ Q := by
  have h6 := hW.1.1
  have hp := rc_p6 h6
  refine rc_go 40 (c_hasRooms hI.2.1.1 h6 (fun ho => ?_) (fun m hm hx => ?_))
  · refine And.intro (fun z => absurd rfl z) (fun _ => ?_)
    exact c_ref (w := 1) (by decide) (by decide) hI hW (by simp only [o_next, rc_ob_t ho, cond_true]) (fun σ' a b => ⟨_, rfl, h σ' a b⟩)
  · subst hx
    rw [o_next_a h6 hm] at h
    have hf := rc_fit64 (V := pV P) (m := m) h6
    obtain ⟨p1, p2⟩ := rc_pc27 _ hf
    refine And.intro (fun _ => ?_) (fun z => absurd z (by decide))
    refine c_fitting rfl hI.1 hI.2.1 hW.1 (by omega) (c_bitCount rfl (Nat.lt_trans hf (by decide)) ?_)
    rw [p1]
    refine And.intro (fun c => ?_) (fun c => ?_)
    · rw [rc_nxt, if_pos (Nat.le_of_not_lt (fun z => nI_ge z (by decide) c))] at h
      exact c_nx_l hI.1 hI.2.1 hW.1 hf ⟨_, rfl, h σ rc_fC.rf hI⟩ 27 0 _ rfl
    · rw [rc_nxt, if_neg (fun z => c (nI_le z (by omega)))] at h
      exact ⟨_, rfl, h σ rc_fC.rf hI⟩
theorem t_next {x : Int32} (hI : rc_MP σ P) (hW : rc_WP n P) (h : ∀ σ', rc_fM σ σ' → rc_MP σ' (o_next P x).2 → Q (o_next P x).1 σ') : rc_TI (d + 5) 175 [.ref 80, .int x] σ Q := by
  have h6 := hW.1.1
  have hp := rc_p6 h6
  refine rc_go 40 (t_noRooms hI.1.1 h6 (fun ho => ?_) (fun m hm hx => ?_))
  · refine And.intro (fun z => absurd z (by decide)) (fun _ => ?_)
    exact t_ref (w := 1) (by decide) (by decide) hI (by simp only [o_next, rc_ob_t ho, cond_true]) (fun σ' a b => ⟨_, rfl, h σ' a b⟩)
  · subst hx
    rw [o_next_a h6 hm] at h
    have hf := rc_fit64 (V := pV P) (m := m) h6
    obtain ⟨p1, p2⟩ := rc_pc27 _ hf
    refine And.intro (fun _ => ?_) (fun z => absurd rfl z)
    refine t_fitting rfl hI.1 hW.1 (by omega) (t_size rfl hf ?_)
    refine And.intro (fun c => ?_) (fun c => ?_)
    · rw [rc_nxt, if_pos (Nat.le_of_not_lt (fun z => nI_ge z (by decide) c))] at h
      exact t_nx_l hI.1 hW.1 hf ⟨_, rfl, h σ rc_fM.rf hI⟩ 27 0 _ rfl
    · rw [rc_nxt, if_neg (fun z => c (nI_le z (by omega)))] at h
      exact ⟨_, rfl, h σ rc_fM.rf hI⟩
end RNx
