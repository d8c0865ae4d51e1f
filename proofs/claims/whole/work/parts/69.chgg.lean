section RCg
variable {d n : Nat} {σ : rc_M} {P : rc_P} {V : rc_V} {Q : Int32 → rc_M → Prop}
def rc_orB (B : Nat → Nat) : Nat → Nat
  | 0 => 0
  | k + 1 => rc_orB B k ||| B k
theorem rc_orB_tb {B : Nat → Nat} {r : Nat} : ∀ k, (rc_orB B k).testBit r = true ↔ ∃ i, i < k ∧ (B i).testBit r = true := by
  intro k
  induction k with
  | zero => simp [rc_orB]
  | succ k ih =>
    rw [rc_orB, Nat.testBit_or, Bool.or_eq_true, ih]
    constructor
    · intro h
      rcases h with ⟨i, h1, h2⟩ | h
      · exact ⟨i, by omega, h2⟩
      · exact ⟨k, by omega, h⟩
    · intro ⟨i, h1, h2⟩
      by_cases e : i = k
      · subst e; exact Or.inr h2
      · exact Or.inl ⟨i, by omega, h2⟩
def rc_unl (V : rc_V) (N : Nat) : Nat := (rc_tab V (rc_rl (V 12 0) (N + 1))).1
def rc_unw (V : rc_V) (r : Nat) : Nat := (rc_tab V ((rc_rl (V 12 0) 3).filter (rc_av V r))).1
def o_changes (P : rc_P) (x : Int32) : Int32 × rc_P := if x < 0 then o_no P 4 else if 2 < x then o_no P 6 else (nI (rc_unl (pV P) x.toNatClampNeg), P)
def rc_nds (V : rc_V) : Nat := rc_bvs (fun r => decide (rc_unw V r < rc_unl V 2)) (V 12 0)
def o_needed (P : rc_P) : Int32 × rc_P := (nI (rc_nds (pV P)), P)
theorem rc_orB_eq : rc_orB (rc_tab V (rc_rl (V 12 0) 3)).2.2 (rc_tab V (rc_rl (V 12 0) 3)).1 = rc_nds V := by
  apply Nat.eq_of_testBit_eq
  intro r
  unfold rc_nds
  rw [rc_bvs_tb]
  have hn := rc_need (V := V) (l := rc_rl (V 12 0) 3) (r := r)
  have ho := rc_orB_tb (B := (rc_tab V (rc_rl (V 12 0) 3)).2.2) (r := r) (rc_tab V (rc_rl (V 12 0) 3)).1
  cases hz : (rc_orB (rc_tab V (rc_rl (V 12 0) 3)).2.2 (rc_tab V (rc_rl (V 12 0) 3)).1).testBit r with
  | true =>
    obtain ⟨i, h1, h2⟩ := ho.mp hz
    obtain ⟨t1, t2, t3, t4, t5⟩ := rc_tab_ok (V := V) (rc_rl (V 12 0) 3)
    have h3 := (t4 i h1 r).mp h2 _ (t1 i h1) rc_xs_r
    unfold rc_xb at h3
    obtain ⟨j, hj, e⟩ := (rc_bits_tb _).mp h3
    have hb : 0 < V 12 0 := by
      rcases (rc_rl_ok 3 _ (t1 i h1)).2 with q | q
      · exact q
      · omega
    have := rc_dg_lt (n := ((rc_tab V (rc_rl (V 12 0) 3)).2.1 i).1) (t := ((rc_tab V (rc_rl (V 12 0) 3)).2.1 i).2) (i := j) hb
    rw [decide_eq_true (show r < V 12 0 by omega), decide_eq_true (show rc_unw V r < rc_unl V 2 from hn.mpr (ho.mp hz))]
    rfl
  | false =>
    have : ¬ rc_unw V r < rc_unl V 2 := fun q => by
      have := ho.mpr (hn.mp q)
      rw [hz] at this
      exact absurd this (by decide)
    rw [decide_eq_false this, Bool.and_false]
theorem c_ga_25 {N n' : Nat} (hA : rc_CA σ V) (hn : n' ≤ 2) {Q' : Option Value → rc_M → Prop} (h : ∀ σ' w3 w4, rc_fr rc_ks6 σ σ' → rc_Tm σ' V (rc_tab V (rc_ls (V 12 0) (n' + 1) 0)) → rc_Tc (d + 6) 1 7 [.ref 70, .int (nI N), .int (nI (n' + 1)), w3, w4] [] σ' Q') : ∀ (c t s : Nat) (σ1 : rc_M), t + c = V 12 0 ^ n' → rc_fr rc_ks6 σ σ1 → rc_Tm σ1 V (rc_tab V (rc_ls (V 12 0) n' t)) → (t < V 12 0 ^ n' → rc_Wk σ1 V n' s (rc_dg (V 12 0) n' t)) → rc_Tc (d + 6) 1 25 [.ref 70, .int (nI N), .int (nI n'), .int (nI (V 12 0 ^ n')), .int (nI t)] [] σ1 Q' := by
  have hb6 : V 12 0 ≤ 6 := hA.2.2.2.2
  have hp : V 12 0 ^ n' ≤ 6 ^ 4 := Nat.le_trans (Nat.pow_le_pow_left hb6 n') (Nat.pow_le_pow_right (by decide) (by omega))
  have hp2 : (6 : Nat) ^ 4 = 1296 := by decide
  intro c
  induction c with
  | zero =>
    intro t s σ1 ht hf hT hW
    have : t = V 12 0 ^ n' := by omega
    subst this
    rw [rc_ls_n] at hT
    have key := h σ1 (.int (nI (V 12 0 ^ n'))) (.int (nI (V 12 0 ^ n'))) hf hT
    rw [← nI_1] at key
    exact rc_go 40 (And.intro (fun _ => key) (fun c => absurd (nI_le (Nat.le_refl _) (by omega)) c))
  | succ c ih =>
    intro t s σ1 ht hf hT hW
    have htl : t < V 12 0 ^ n' := by omega
    obtain ⟨t1, t2, t3, t4, t5⟩ := rc_tab_ok (V := V) (rc_ls (V 12 0) n' t)
    have hl := rc_ls_len hb6 hn htl
    have hok : rc_xok V (n', t) := rc_ls_ok (b := V 12 0) (n := n') (t := t + 1) (by omega) (x := (n', t)) (by rw [rc_ls_s]; exact List.mem_append_right _ (by simp))
    refine rc_go 60 (And.intro (fun c1 => absurd c1 (nI_ge (by omega) (by omega))) (fun _ => ?_))
    refine c_addRow (x := (n', t)) (hA.fr hf (by simp)) (by omega) hok (fun i hi => rc_ls_ok (by omega) (t1 i hi)) hT (hW htl) (fun σ2 s' hf2 hT2 hW2 => ?_)
    have hf3 := hf.tr hf2
    refine c_adv (hA.fr hf3 (by simp)) htl hW2 (fun σ3 hf4 hW3 => ?_)
    have key := ih (t + 1) s' σ3 (by omega) (hf3.tr (hf4.mono (by simp))) (by
      rw [rc_ls_s, rc_tab_a]
      refine ⟨by rw [hf4 70 (by simp)]; exact hT2.1, fun i hi => ?_⟩
      rw [hf4 71 (by simp), hf4 72 (by simp)]
      exact hT2.2 i hi) hW3
    rw [← nI_1] at key
    exact key
theorem c_ga_7 {N : Nat} (hA : rc_CA σ V) (hN : N ≤ 2) {Q' : Option Value → rc_M → Prop} (h : ∀ σ', rc_fr rc_ks6 σ σ' → rc_Tm σ' V (rc_tab V (rc_rl (V 12 0) (N + 1))) → Q' none σ') : ∀ (c n' : Nat) (σ1 : rc_M) (w3 w4 : Value), n' + c = N + 1 → rc_fr rc_ks6 σ σ1 → rc_Tm σ1 V (rc_tab V (rc_ls (V 12 0) n' 0)) → rc_Tc (d + 6) 1 7 [.ref 70, .int (nI N), .int (nI n'), w3, w4] [] σ1 Q' := by
  intro c
  induction c with
  | zero =>
    intro n' σ1 w3 w4 hn hf hT
    have : n' = N + 1 := by omega
    subst this
    have e : rc_ls (V 12 0) (N + 1) 0 = rc_rl (V 12 0) (N + 1) := by simp [rc_ls]
    rw [e] at hT
    exact rc_go 40 (And.intro (fun _ => h σ1 hf hT) (fun c => absurd (nI_lt (by omega) (by omega)) c))
  | succ c ih =>
    intro n' σ1 w3 w4 hn hf hT
    refine rc_go 40 (And.intro (fun c1 => absurd c1 (nI_nlt (show n' ≤ N by omega) (by omega))) (fun _ => ?_))
    refine c_beg (s := 0) rfl rfl (hA.fr hf (by simp)) (by decide) (by omega) (fun σ2 hf2 hW2 => ?_)
    exact c_ga_25 hA (by omega) (fun σ3 w3 w4 hf3 hT3 => ih (n' + 1) σ3 w3 w4 (by omega) hf3 hT3) (V 12 0 ^ n') 0 0 σ2 (by omega) (hf.tr (hf2.mono (by simp))) ⟨by rw [hf2 70 (by simp)]; exact hT.1, fun i hi => by rw [hf2 71 (by simp), hf2 72 (by simp)]; exact hT.2 i hi⟩ (fun _ => hW2)
theorem c_gather {x : Int32} {N : Nat} (hx : x = nI N) (hA : rc_CA σ V) (hN : N ≤ 2) {Q : rc_M → Prop} (h : ∀ σ', rc_fr rc_ks6 σ σ' → rc_Tm σ' V (rc_tab V (rc_rl (V 12 0) (N + 1))) → Q σ') : rc_TV (d + 6) 1 [.ref 70, .int x] σ Q := by
  subst hx
  have f1 : rc_fr rc_ks6 σ (rc_up σ 70 (upd (σ 70) 3 0)) := rc_fr.up (by simp)
  exact rc_go 40 (c_ga_7 (σ := σ) hA hN (fun σ' a b => ⟨rfl, h σ' a b⟩) (N + 1) 0 _ _ _ (by omega) f1 ⟨by rw [rc_up_s, pk_us]; rfl, fun i hi => absurd hi (by show ¬ i < 0; omega)⟩)
theorem c_rms_l {T : rc_Tb} (hT : rc_Tm σ V T) (hk : T.1 ≤ 43) {Q' : Option Value → rc_M → Prop} (h : Q' (some (.int (nI (rc_orB T.2.2 T.1)))) σ) : ∀ (c i : Nat), i + c = T.1 → rc_Tc d 2 4 [.ref 70, .int (nI (rc_orB T.2.2 i)), .int (nI i)] [] σ Q' := by
  intro c
  induction c with
  | zero =>
    intro i hi
    have : i = T.1 := by omega
    subst this
    exact rc_go 40 (And.intro (fun _ => h) (fun c => absurd (by rw [hT.1]; exact nI_le (Nat.le_refl _) (by omega)) c))
  | succ c ih =>
    intro i hi
    have key := ih (i + 1) (by omega)
    rw [← nI_1, rc_orB, ← fa_or, ← (hT.2 i (by omega)).2] at key
    refine rc_go 40 (And.intro (fun c1 => absurd (by rw [hT.1] at c1; exact c1) (nI_ge (by omega) (by omega))) (fun _ => ?_))
    refine And.intro (rc_vi (n := 43) (by omega) (by decide)) ?_
    rw [rc_ci (by omega)]
    exact key
theorem rc_rl3_len {b : Nat} (hb : b ≤ 6) : (rc_rl b 3).length ≤ 43 := by
  have hb' : b = 0 ∨ b = 1 ∨ b = 2 ∨ b = 3 ∨ b = 4 ∨ b = 5 ∨ b = 6 := by omega
  rcases hb' with rfl | rfl | rfl | rfl | rfl | rfl | rfl <;> decide
theorem c_changes {x : Int32} (hI : rc_CP σ P) (hW : rc_WP n P) (h : ∀ σ', rc_fC σ σ' → rc_CP σ' (o_changes P x).2 → Q (o_changes P x).1 σ') : rc_TI (d + 7) 99 [.ref 2, .int x] σ Q := by
  refine rc_go 60 (And.intro (fun c1 => ?_) (fun c1 => ?_))
  · have c1' : ¬ x < 0 := Int32.not_lt.mpr c1
    refine And.intro (fun c2 => ?_) (fun c2 => ?_)
    · obtain ⟨m, hm, e⟩ := rc_le99 c1' (m := 2) (by decide) c2
      have eo : o_changes P x = (nI (rc_unl (pV P) m), P) := by
        unfold o_changes
        rw [if_neg c1', if_neg (Int32.not_lt.mpr c2), e, rc_ci (by omega)]
      rw [eo] at h
      refine c_gather (V := pV P) e (hI.CA hW) hm (fun σ' hf hT => ⟨_, rfl, ?_⟩)
      rw [hT.1]
      exact h σ' (hf.fC (by simp)) (hI.fr hW hf (by simp))
    · exact c_ref (w := 6) (by decide) (by decide) hI hW (by simp only [o_changes, if_neg c1', if_pos (Int32.not_le.mp c2)]) (fun σ' a b => ⟨_, rfl, h σ' a b⟩)
  · exact c_ref (w := 4) (by decide) (by decide) hI hW (by simp only [o_changes, if_pos (Int32.not_le.mp c1)]) (fun σ' a b => ⟨_, rfl, h σ' a b⟩)
theorem c_needed (hI : rc_CP σ P) (hW : rc_WP n P) (h : ∀ σ', rc_fC σ σ' → rc_CP σ' (o_needed P).2 → Q (o_needed P).1 σ') : rc_TI (d + 7) 100 [.ref 2] σ Q := by
  refine rc_go 60 (c_gather (V := pV P) (N := 2) rfl (hI.CA hW) (by decide) (fun σ' hf hT => ?_))
  have h5 := (rc_tab_ok (V := pV P) (rc_rl (pV P 12 0) 3)).2.2.2.2
  have h43 := rc_rl3_len hW.1.1
  have key : ∀ Q2 : Int32 → rc_M → Prop, Q2 (nI (rc_nds (pV P))) σ' → rc_TI (d + 6) 2 [.ref 70] σ' Q2 := fun Q2 hq => by
    rw [← rc_orB_eq] at hq
    have hT : rc_Tm σ' (pV P) (rc_tab (pV P) (rc_rl (pV P 12 0) 3)) := hT
    exact rc_go 20 (c_rms_l hT (by omega) ⟨_, rfl, hq⟩ (rc_tab (pV P) (rc_rl (pV P 12 0) 3)).1 0 (by omega))
  exact key _ ⟨_, rfl, h σ' (hf.fC (by simp)) (hI.fr hW hf (by simp))⟩
end RCg
