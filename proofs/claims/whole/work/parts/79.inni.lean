section RIi
variable {d n L : Nat} {t : Nat → Nat} {σ : rc_M} {P : rc_P} {V : rc_V} {Q : Int32 → rc_M → Prop}
theorem c_ct_34 {m br bg : Nat} {x2 x3 : Int32} (hm : m = ri_m t L) (hT : ri_T t L) (hC : ri_C σ t L) (hS : ri_Sm σ t L m) (hW : rc_WF n V) (h2 : rc_W2 V) (hbr : br = V 12 0) (hbg : bg = V 12 1) (hf : ∀ j, j < m → ri_fit t L br bg j = true) {Q' : Option Value → rc_M → Prop} (h : ∀ σ', (∀ k, k < 3 ∨ 30 < k → σ' k = σ k) → rc_Cls 0 σ' (ri_V t L V m) → Q' (some (.int (nI m))) σ') : ∀ (c i : Nat) (σ1 : rc_M), i + c = m → (∀ k, k < 3 ∨ 30 < k → σ1 k = σ k) → rc_Cls 0 σ1 (ri_V t L V i) → rc_Tc (d + 5) 30 34 [.ref 59, .ref 3, .int x2, .int x3, .int (nI i)] [] σ1 Q' := by
  obtain ⟨m1, m2, m3, m4⟩ := ri_mf hT
  rw [← hm] at m1 m2 m3 m4
  have hL := hT.1
  intro c
  induction c with
  | zero =>
    intro i σ1 hi hg hc
    have : i = m := by omega
    subst this
    have e3 : σ1 59 3 = nI i := by rw [hg 59 (by omega)]; exact hS.1
    have hq := h σ1 hg hc
    refine rc_go 40 (And.intro (fun _ => ?_) (fun c => absurd (by rw [e3]; exact nI_le (Nat.le_refl _) (by omega)) c))
    show Q' (some (.int (σ1 59 3))) σ1
    rw [e3]
    exact hq
  | succ c ih =>
    intro i σ1 hi hg hc
    have e3 : σ1 59 3 = nI m := by rw [hg 59 (by omega)]; exact hS.1
    have e61 : σ1 61 i = nI (ri_S t L i) := by rw [hg 61 (by omega)]; exact hS.2 i (by omega)
    have hC1 : ri_C σ1 t L := hC.fr (by rw [hg 59 (by omega)]) (hg 60 (by omega))
    have b := m4 i (by omega)
    have hok := m3 i (by omega)
    obtain ⟨dr, dg⟩ := ri_dig hok
    obtain ⟨n1, n2⟩ := ri_V_n (t := t) (L := L) (V := V) i
    obtain ⟨W1, W2⟩ := ri_V_W (n := n) hT hW h2 hbr hbg i (by rw [← hm]; omega) (fun j hj => hf j (by omega))
    refine rc_go 60 (And.intro (fun c1 => absurd (by rw [e3] at c1; exact c1) (nI_ge (by omega) (by omega))) (fun _ => ?_))
    refine And.intro (rc_vi (n := 8) (by omega) (by decide)) ?_
    rw [rc_ci (show i ≤ 2000 by omega), e61]
    refine c_at (s := ri_S t L i) rfl (by omega) hC1 hT (And.intro (fun c => ?_) (fun c => ?_))
    · have hr : ri_isr t L i = false := ri_lr_t (c := 114) hT (by decide) rfl c
      obtain ⟨o1, o2⟩ := ri_ok_g hr (hf i (by omega))
      rw [hbg, ← n2] at o2
      refine And.intro (rc_vi (n := 8) (by omega) (by decide)) ?_
      rw [rc_ci (show i ≤ 2000 by omega), e61]
      refine c_addGuest (d := d + 2) (s := ri_S t L i) (b := ri_V t L V i 12 1) rfl (by omega) o2 hc.2.1 hC1 hT (dg hr) (fun σ' f1 f2 f3 f4 f5 f6 f7 f8 => ?_)
      have key := ih (i + 1) σ' (by omega) (fun k hk => by rw [f1 k (by omega) (by omega) (by omega)]; exact hg k hk) (by
        rw [ri_V, hr, cond_false]
        exact ri_Cls_g hc o2 f1 f2 f3 f4 f5 f6 f7 f8)
      rw [← nI_1] at key
      exact key
    · have hr : ri_isr t L i = true := (ri_at_eq (c := 114) hT (by decide)).mp c
      obtain ⟨o1, o2⟩ := ri_ok_r hok hr (hf i (by omega))
      rw [hbr, ← n1] at o2
      refine And.intro (rc_vi (n := 8) (by omega) (by decide)) ?_
      rw [rc_ci (show i ≤ 2000 by omega), e61]
      refine c_addRoom (d := d + 2) (s := ri_S t L i) (b := ri_V t L V i 12 0) rfl (by omega) o2 hc.1 hC1 hT ((ri_st_t hok).2.2.2.2.1 hr) (dr hr) (fun σ' f1 f2 f3 f4 f5 f6 f7 f8 f9 => ?_)
      have key := ih (i + 1) σ' (by omega) (fun k hk => by rw [f1 k (by omega) (by omega) (by omega)]; exact hg k hk) (by
        rw [ri_V, hr, cond_true]
        exact ri_Cls_r hc W1 o2 f1 f2 f3 f4 f5 f6 f7 f8 f9)
      rw [← nI_1] at key
      exact key
theorem c_comeTo (hT : ri_T t L) (hC : ri_C σ t L) (hc : rc_Cls 0 σ V) (hW : rc_WF n V) (h2 : rc_W2 V) (h : ∀ σ', (∀ k, k < 3 ∨ 30 < k → k ≠ 59 → k ≠ 61 → σ' k = σ k) → σ' 59 1 = σ 59 1 → rc_Cls 0 σ' (ri_nV t L V) → Q (ri_ans t L (V 12 0) (V 12 1)) σ') : rc_TI (d + 5) 30 [.ref 59, .ref 3] σ Q := by
  obtain ⟨m1, m2, m3, m4⟩ := ri_mf hT
  have hL := hT.1
  refine rc_go 60 (c_firstWrong hT hC (fun σ1 hf hS => ?_))
  have hc1 : rc_Cls 0 σ1 V := hc.at hW.2.1 (fun k _ _ _ => hf.1 k (by omega) (by omega))
  have hC1 := hf.C hC
  unfold ri_ans ri_nV at h
  unfold ri_w
  cases hB : ri_B t L with
  | false =>
    rw [hB, cond_false, Bool.false_and, cond_false] at h
    have hlo := ri_st_lo (t := t) (L := L) (s := ri_S t L (ri_m t L))
    have hb := m4 _ (Nat.le_refl _)
    rw [cond_false]
    refine And.intro (fun c => absurd c (nI_pos (by omega))) (fun _ => ?_)
    exact ⟨_, rfl, h σ1 (fun k _ k1 k2 => hf.1 k k1 k2) (hf.2 1 (by decide)) hc1⟩
  | true =>
    rw [hB, cond_true, Bool.true_and] at h
    rw [cond_true]
    refine And.intro (fun _ => ?_) (fun c => absurd (by decide) c)
    refine c_firstUnfit (br := V 12 0) (bg := V 12 1) hW.1 hW.2.1 hc1.1 hc1.2.1 hT hC1 hS ?_
    by_cases z : ri_u t L (V 12 0) (V 12 1) < ri_m t L
    · rw [if_pos z, decide_eq_false (by omega), cond_false] at h
      rw [if_pos z]
      have hb := m4 (ri_u t L (V 12 0) (V 12 1)) (by omega)
      refine And.intro (fun c => absurd c (nI_pos (by omega))) (fun _ => ?_)
      exact ⟨_, rfl, h σ1 (fun k _ k1 k2 => hf.1 k k1 k2) (hf.2 1 (by decide)) hc1⟩
    · obtain ⟨a, _, c⟩ := rc_ff_f (p := fun i => !ri_fit t L (V 12 0) (V 12 1) i) (ri_m t L)
      have hu : ri_u t L (V 12 0) (V 12 1) = ri_m t L := by unfold ri_u at z ⊢; omega
      rw [if_neg z, decide_eq_true hu, cond_true] at h
      rw [if_neg z]
      have hfit : ∀ j, j < ri_m t L → ri_fit t L (V 12 0) (V 12 1) j = true := fun j hj => by
        have c := c j (by rw [show rc_ff (fun i => !ri_fit t L (V 12 0) (V 12 1) i) (ri_m t L) = ri_m t L from hu]; exact hj)
        cases hy : ri_fit t L (V 12 0) (V 12 1) j with
        | true => rfl
        | false => rw [hy] at c; exact absurd c (by decide)
      refine And.intro (fun _ => ?_) (fun c => absurd (by decide) c)
      generalize em : ri_m t L = m at *
      exact c_ct_34 (d := d) em.symm hT hC1 hS hW h2 rfl rfl hfit (fun σ' g1 g2 => ⟨_, rfl, h σ' (fun k hk k1 k2 => by rw [g1 k hk]; exact hf.1 k k1 k2) (by rw [g1 59 (by omega)]; exact hf.2 1 (by decide)) g2⟩) m 0 σ1 (by omega) (fun _ _ => rfl) hc1
theorem c_inn (h2 : rc_W2 (pV P)) (hI : rc_CP σ P) (hW : rc_WP n P) (h : ∀ σ', rc_fC σ σ' → rc_CP σ' (o_inn P).2 → Q (o_inn P).1 σ') : rc_TI (d + 6) 84 [.ref 2] σ Q := by
  refine rc_go 60 (c_comeTo (t := ptp P) (L := pln P) (V := pV P) hW.2.2.1 hI.2.2.1 hI.2.1 hW.1 h2 (fun σ1 e1 e2 hc => ?_))
  have key : ∀ Q2 : rc_M → Prop, Q2 (rc_up σ1 59 (upd (σ1 59) 1 0)) → rc_TV (d + 5) 29 [.ref 59] σ1 Q2 := fun Q2 hq => rc_go 20 ⟨rfl, hq⟩
  refine key _ ⟨_, rfl, ?_⟩
  have e3 : ∀ k, k < 3 ∨ 30 < k → k ≠ 59 → k ≠ 61 → rc_up σ1 59 (upd (σ1 59) 1 0) k = σ k := fun k hk k1 k2 => by rw [rc_up_n _ _ k1]; exact e1 k hk k1 k2
  have hw5 := (ri_nV_W (n := n) (t := ptp P) (L := pln P) hW.2.2.1 hW.1 h2).1.2.1
  exact h _ (fun k hk => e3 k (by omega) (by omega) (by omega)) (ri_CP (V' := ri_nV (ptp P) (pln P) (pV P)) (L' := 0) hI hW (hc.at hw5 (fun k _ _ _ => rc_up_n _ _ (by omega))) (fun k hk => e3 k (by omega) (by omega) (by omega)) (by rw [rc_up_s, pk_us]; rfl) (Nat.zero_le _))
end RIi
