section RCn
variable {d n : Nat} {σ : rc_M} {P : rc_P} {V : rc_V} {Q : Int32 → rc_M → Prop}
theorem rc_lw_0 {w n' : Nat} : rc_lw V w n' 0 = (rc_rl (V 12 0) n').filter (rc_av V w) := by unfold rc_lw rc_ls; simp
theorem rc_lw_b0 {w : Nat} (hb : V 12 0 = 0) : ∀ c n', 0 < n' → rc_lw V w (n' + c) 0 = rc_lw V w n' 0 := by
  intro c
  induction c with
  | zero => intro n' _; rfl
  | succ c ih =>
    intro n' h0
    rw [← Nat.add_assoc, rc_lw_0, rc_rl, hb, Nat.zero_pow (by omega)]
    have := ih n' h0
    rw [rc_lw_0, hb] at this
    simpa using this
theorem t_un_5 {N w : Nat} {wi : Int32} {σ0 : rc_M} (hM : rc_Mod σ0 V) (hW : rc_WF n V) (hN : N ≤ 2) (hw : ∀ r, r < 6 → (nI r = wi ↔ r = w)) {Q' : Option Value → rc_M → Prop} (h : ∀ σ', rc_fq σ0 σ' → Q' (some (.int (nI (rc_tab V (rc_lw V w (N + 1) 0)).1))) σ') : ∀ (c n' : Nat) (σ : rc_M) (w5 w6 : Value), n' + c = N + 1 → rc_fq σ0 σ → rc_Tn σ V (rc_tab V (rc_lw V w n' 0)) → rc_Tc (d + 5) 163 5 [.ref 80, .int (nI N), .int wi, .int (nI (rc_tab V (rc_lw V w n' 0)).1), .int (nI n'), w5, w6] [] σ Q' := by
  have hb6 := hW.1
  intro c
  induction c with
  | zero =>
    intro n' σ w5 w6 hn hf hT
    have : n' = N + 1 := by omega
    subst this
    exact rc_go 40 (And.intro (fun _ => h σ hf) (fun c => absurd (nI_lt (by omega) (by omega)) c))
  | succ c ih =>
    intro n' σ w5 w6 hn hf hT
    have hM1 := hM.fq hf
    have e1 : σ 80 1 = nI (V 12 0) := hM1.1
    have go : 0 < V 12 0 ^ n' → ∀ x, x = nI n' → rc_TV (d + 4) 150 [.ref 80, .int x] σ (fun σ' => rc_Tc (d + 5) 163 29 [.ref 80, .int (nI N), .int wi, .int (nI (rc_tab V (rc_lw V w n' 0)).1), .int (nI n'), w5, w6] [] σ' Q') := fun hp x hx => by
      refine t_bg2 (b := V 12 0) (n := n') hx (by omega) (fun σ' hf' hr' => ?_)
      exact t_un_29 (V := V) hM hW (by omega) hw (fun σ2 w5 w6 a b => ih (n' + 1) σ2 w5 w6 (by omega) a b) (V 12 0 ^ n' - 1) 0 σ' w5 w6 (by omega) (hf.tr hf'.q2) hr' (fun i hi q hq => by rw [hf' 106 (by simp)]; exact hT i hi q hq)
    refine rc_go 60 (And.intro (fun c1 => absurd c1 (nI_nlt (show n' ≤ N by omega) (by omega))) (fun _ => And.intro (fun c2 => ?_) (fun c2 => ?_)))
    · have z : n' = 0 := (nI_eq (b := 0) (by omega) (by decide)).mp c2
      exact rc_TV.weak (go (by rw [z]; exact Nat.one_pos) _ rfl) (fun _ k => k)
    · refine And.intro (fun c3 => ?_) (fun c3 => ?_)
      · have z : V 12 0 = 0 := by
          rcases Nat.eq_zero_or_pos (V 12 0) with z | z
          · exact z
          · rw [e1] at c3; exact absurd c3 (nI_nle z (by omega))
        have hn0 : 0 < n' := by
          rcases Nat.eq_zero_or_pos n' with y | y
          · subst y; exact absurd rfl c2
          · exact y
        have q := h σ hf
        rw [← hn, rc_lw_b0 z _ _ hn0] at q
        exact q
      · have hb0 : 0 < V 12 0 := by
          rcases Nat.eq_zero_or_pos (V 12 0) with z | z
          · rw [e1, z] at c3; exact absurd (by decide) c3
          · exact z
        exact rc_TV.weak (go (Nat.pow_pos hb0) _ rfl) (fun _ k => k)
theorem t_unlike {x y : Int32} {N w : Nat} (hx : x = nI N) (hM : rc_Mod σ V) (hW : rc_WF n V) (hN : N ≤ 2) (hw : ∀ r, r < 6 → (nI r = y ↔ r = w)) (h : ∀ σ', rc_fq σ σ' → Q (nI (rc_tab V (rc_lw V w (N + 1) 0)).1) σ') : rc_TI (d + 5) 163 [.ref 80, .int x, .int y] σ Q := by
  subst hx
  exact rc_go 40 (t_un_5 (V := V) hM hW hN hw (fun σ' hf => ⟨_, rfl, h σ' hf⟩) (N + 1) 0 σ _ _ (by omega) rc_fq.rf (fun i hi => absurd hi (by rw [rc_lw_0]; show ¬ i < 0; omega)))
theorem rc_lw_9 {N : Nat} (hb6 : V 12 0 ≤ 6) : (rc_tab V (rc_lw V 9 (N + 1) 0)).1 = rc_unl V N := by
  unfold rc_unl
  rw [rc_lw_0, List.filter_eq_self.mpr]
  intro x hx
  refine rc_alls_a (fun k hk => ?_)
  rcases (rc_rl_ok _ x hx).2 with z | z
  · have := rc_dg_lt (n := x.1) (t := x.2) (i := k) z
    have : ¬ rc_dg (V 12 0) x.1 x.2 k = 9 := by omega
    simp [this]
  · omega
theorem rc_w9 : ∀ r, r < 6 → (nI r = (-1 : Int32) ↔ r = 9) := by decide
theorem t_changes {x : Int32} (hI : rc_MP σ P) (hW : rc_WP n P) (h : ∀ σ', rc_fM σ σ' → rc_MP σ' (o_changes P x).2 → Q (o_changes P x).1 σ') : rc_TI (d + 6) 165 [.ref 80, .int x] σ Q := by
  refine rc_go 60 (And.intro (fun c1 => ?_) (fun c1 => ?_))
  · have c1' : ¬ x < 0 := Int32.not_lt.mpr c1
    refine And.intro (fun c2 => ?_) (fun c2 => ?_)
    · obtain ⟨m, hm, e⟩ := rc_le99 c1' (m := 2) (by decide) c2
      have eo : o_changes P x = (nI (rc_unl (pV P) m), P) := by
        unfold o_changes
        rw [if_neg c1', if_neg (Int32.not_lt.mpr c2), e, rc_ci (by omega)]
      rw [eo] at h
      refine t_unlike (V := pV P) (w := 9) e hI.1 hW.1 hm rc_w9 (fun σ' hf => ⟨_, rfl, ?_⟩)
      rw [rc_lw_9 hW.1.1]
      exact h σ' hf.fM (hI.fq hf)
    · exact t_ref (w := 6) (by decide) (by decide) hI (by simp only [o_changes, if_neg c1', if_pos (Int32.not_le.mp c2)]) (fun σ' a b => ⟨_, rfl, h σ' a b⟩)
  · exact t_ref (w := 4) (by decide) (by decide) hI (by simp only [o_changes, if_pos (Int32.not_le.mp c1)]) (fun σ' a b => ⟨_, rfl, h σ' a b⟩)
theorem t_nd_11 {σ0 : rc_M} (hM : rc_Mod σ0 V) (hW : rc_WF n V) {Q' : Option Value → rc_M → Prop} (h : ∀ σ', rc_fq σ0 σ' → Q' (some (.int (nI (rc_nds V)))) σ') : ∀ (c r : Nat) (σ : rc_M), r + c = V 12 0 → rc_fq σ0 σ → rc_Tc (d + 6) 166 11 [.ref 80, .int (nI (rc_unl V 2)), .int (nI (rc_bvs (fun r => decide (rc_unw V r < rc_unl V 2)) r)), .int (nI r)] [] σ Q' := by
  have hb6 := hW.1
  have b1 : rc_unl V 2 ≤ 43 := Nat.le_trans (rc_tab_ok (V := V) (rc_rl (V 12 0) 3)).2.2.2.2 (rc_rl3_len hb6)
  have b2 : ∀ r, rc_unw V r ≤ 43 := fun r => Nat.le_trans (rc_tab_ok (V := V) ((rc_rl (V 12 0) 3).filter (rc_av V r))).2.2.2.2 (Nat.le_trans (List.length_filter_le _ _) (rc_rl3_len hb6))
  intro c
  induction c with
  | zero =>
    intro r σ hr hf
    have : r = V 12 0 := by omega
    subst this
    exact rc_go 40 (And.intro (fun _ => h σ hf) (fun c => absurd (by rw [show σ 80 1 = nI (V 12 0) from (hM.fq hf).1]; exact nI_le (Nat.le_refl _) (by omega)) c))
  | succ c ih =>
    intro r σ hr hf
    have hM1 := hM.fq hf
    have e1 : σ 80 1 = nI (V 12 0) := hM1.1
    refine rc_go 60 (And.intro (fun c1 => absurd (by rw [e1] at c1; exact c1) (nI_ge (by omega) (by omega))) (fun _ => ?_))
    refine t_unlike (V := V) (N := 2) (w := r) rfl hM1 hW (by decide) (fun r' hr' => nI_eq (by omega) (by omega)) (fun σ' hf' => ?_)
    have eu : (rc_tab V (rc_lw V r (2 + 1) 0)).1 = rc_unw V r := by rw [rc_lw_0]; rfl
    have key := ih (r + 1) σ' (by omega) (hf.tr hf')
    rw [← nI_1, rc_bvs] at key
    rw [eu]
    have b2 := b2 r
    refine And.intro (fun c2 => ?_) (fun c2 => ?_)
    · rw [decide_eq_false (fun z => nI_ge z (by omega) c2), if_neg (by decide)] at key
      have e : ∀ m, nI m ||| 0 = nI m := fun m => by rw [show (0 : Int32) = nI 0 from rfl, fa_or, Nat.or_zero]
      rw [← e (rc_bvs (fun r => decide (rc_unw V r < rc_unl V 2)) r)] at key
      exact key
    · rw [decide_eq_true (Nat.lt_of_not_le (fun z => c2 (nI_le z (by omega)))), if_pos rfl, ← fa_or, ← rc_shl _ (by omega)] at key
      exact key
theorem t_needed (hI : rc_MP σ P) (hW : rc_WP n P) (h : ∀ σ', rc_fM σ σ' → rc_MP σ' (o_needed P).2 → Q (o_needed P).1 σ') : rc_TI (d + 6) 166 [.ref 80] σ Q := by
  refine rc_go 60 (t_unlike (V := pV P) (N := 2) (w := 9) rfl hI.1 hW.1 (by decide) rc_w9 (fun σ' hf => ?_))
  rw [rc_lw_9 hW.1.1]
  exact t_nd_11 (V := pV P) hI.1 hW.1 (fun σ2 hf2 => ⟨_, rfl, h σ2 hf2.fM (hI.fq hf2)⟩) (pV P 12 0) 0 σ' (by omega) hf
end RCn
