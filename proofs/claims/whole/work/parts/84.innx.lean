section RJe
variable {d n L : Nat} {t : Nat → Nat} {σ : rc_M} {P : rc_P} {V : rc_V} {Q : Int32 → rc_M → Prop}
theorem ri_A_0 {p : Nat} {w : Bool} (hA : ri_A σ p w) : ri_A (rc_up σ 80 (upd (σ 80) 25 0)) 0 w := ⟨by rw [rc_up_s, pk_us]; rfl, by rw [rc_up_s, pk_un (by decide)]; exact hA.2⟩
theorem ri_fq0 : rc_fq σ (rc_up σ 80 (upd (σ 80) 25 0)) := rc_fq8 (by omega)
/-! the statements are as they must be -/
theorem ri_mustr {i br bg : Nat} {σ1 : rc_M} (hok : (ri_st t L (ri_S t L i)).2 = true) (hr : ri_isr t L i = true) (hF : ri_fl σ1 t L (ri_S t L i)) (hb : ri_cr t L br i ≤ 100) {x y : Int32} {b : Nat} (hx : x = nI (ri_cr t L br i)) (hy : y = nI b) {Q : Int32 → rc_M → Prop} (h : Q (rc_bI (ri_fit t L br bg i)) σ1) : rc_TI d 135 [.ref 80, .int x, .int y] σ1 Q := by
  obtain ⟨g1, g2, g3, g4⟩ := hF.1 hr
  have hd := (ri_dig hok).1 hr
  refine t_must_r (f := fun k => ri_dv t (ri_S t L i + 1 + k)) hx hy hb g1 (fun k k1 k2 => ⟨?_, ?_⟩) ?_
  · have := g3 (k - 1) (by omega)
    rw [show 1 + (k - 1) = k by omega, show ri_S t L i + 2 + (k - 1) = ri_S t L i + 1 + k by omega] at this
    exact this
  · have := (ri_isd_v (hd (k - 1) (by omega))).2.2
    rw [show ri_S t L i + 2 + (k - 1) = ri_S t L i + 1 + k by omega] at this
    show ri_dv t (ri_S t L i + 1 + k) ≤ 9
    unfold ri_dv
    omega
  · have e : ((decide (ri_cr t L br i < 6) && (decide (1 ≤ ri_dv t (ri_S t L i + 1 + 5)) && decide (ri_dv t (ri_S t L i + 1 + 5) ≤ 2))) && rc_alls (fun j => decide (ri_dv t (ri_S t L i + 1 + (1 + j)) ≤ 2)) 4) = ri_fit t L br bg i := by
      unfold ri_fit ri_rok
      rw [hr, cond_true]
      simp only [rc_alls, Nat.add_assoc, Nat.reduceAdd, Bool.true_and]
      cases decide (ri_cr t L br i < 6) <;> cases decide (1 ≤ ri_dv t (ri_S t L i + 6)) <;> cases decide (ri_dv t (ri_S t L i + 6) ≤ 2) <;> cases decide (ri_dv t (ri_S t L i + 2) ≤ 2) <;> cases decide (ri_dv t (ri_S t L i + 3) ≤ 2) <;> cases decide (ri_dv t (ri_S t L i + 4) ≤ 2) <;> cases decide (ri_dv t (ri_S t L i + 5) ≤ 2) <;> rfl
    rw [← e] at h
    exact h
theorem ri_mustg {i br bg : Nat} {σ1 : rc_M} (hok : (ri_st t L (ri_S t L i)).2 = true) (hr : ri_isr t L i = false) (hF : ri_fl σ1 t L (ri_S t L i)) (hb : ri_cg t L bg i ≤ 100) {x y : Int32} {a : Nat} (hx : x = nI a) (hy : y = nI (ri_cg t L bg i)) {Q : Int32 → rc_M → Prop} (h : Q (rc_bI (ri_fit t L br bg i)) σ1) : rc_TI d 135 [.ref 80, .int x, .int y] σ1 Q := by
  obtain ⟨g1, g3⟩ := hF.2 hr
  have hd := (ri_dig hok).2 hr
  refine t_must_g (f := fun k => ri_dv t (ri_S t L i + 1 + k)) hx hy hb g1 (fun k k1 => ⟨g3 k k1, ?_⟩) ?_
  · have := (ri_isd_v (hd k k1)).2.2
    show ri_dv t (ri_S t L i + 1 + k) ≤ 9
    unfold ri_dv
    omega
  · have e : (decide (ri_cg t L bg i < 5) && rc_alls (fun j => decide (ri_dv t (ri_S t L i + 1 + j) ≤ if 2 < j then 3 else 2)) 6) = ri_fit t L br bg i := by
      unfold ri_fit ri_gok
      rw [hr, cond_false]
      simp only [rc_alls, Nat.add_assoc, Nat.reduceAdd, Bool.true_and, Nat.reduceLT, if_true, if_false]
      cases decide (ri_cg t L bg i < 5) <;> cases decide (ri_dv t (ri_S t L i + 1) ≤ 2) <;> cases decide (ri_dv t (ri_S t L i + 2) ≤ 2) <;> cases decide (ri_dv t (ri_S t L i + 3) ≤ 2) <;> cases decide (ri_dv t (ri_S t L i + 4) ≤ 3) <;> cases decide (ri_dv t (ri_S t L i + 5) ≤ 3) <;> cases decide (ri_dv t (ri_S t L i + 6) ≤ 3) <;> rfl
    rw [← e] at h
    exact h
theorem t_rd_135 {m : Nat} {σ0 : rc_M} {w2 w3 w4 : Value} (hm : m = ri_m t L) (hT : ri_T t L) (hS : L ≤ ri_S t L m) (hN : ri_N σ0 t L) (hW : rc_WF n V) (h2 : rc_W2 V) (hf : ∀ j, j < m → ri_fit t L (V 12 0) (V 12 1) j = true) {Q' : Option Value → rc_M → Prop} (h : ∀ σ', (∀ k, k < 80 ∨ k = 81 ∨ (96 ≤ k ∧ k ≤ 99) ∨ k = 110 → σ' k = σ0 k) → (∀ j, j = 19 ∨ j = 24 ∨ j = 44 → σ' 80 j = σ0 80 j) → rc_Mod σ' (ri_V t L V m) → Q' (some (.int (nI m))) σ') : ∀ (c i : Nat) (σ : rc_M), i + c = m → (∀ k, k < 80 ∨ k = 81 ∨ (96 ≤ k ∧ k ≤ 99) ∨ k = 110 → σ k = σ0 k) → (∀ j, j = 19 ∨ j = 24 ∨ j = 44 → σ 80 j = σ0 80 j) → rc_Mod σ (ri_V t L V i) → ri_A σ (ri_S t L i) true → rc_Tc (d + 3) 137 135 [.ref 80, .int (nI m), w2, w3, w4] [] σ Q' := by
  obtain ⟨m1, m2, m3, m4⟩ := ri_mf hT
  rw [← hm] at m1 m2 m3 m4
  have hL := hT.1
  have hN1 : ∀ σ : rc_M, (∀ k, k < 80 ∨ k = 81 ∨ (96 ≤ k ∧ k ≤ 99) ∨ k = 110 → σ k = σ0 k) → (∀ j, j = 19 ∨ j = 24 ∨ j = 44 → σ 80 j = σ0 80 j) → ri_N σ t L := fun σ g1 g2 => ⟨by rw [g2 24 (by omega), g1 97 (by omega)]; exact hN.1, by rw [g1 98 (by omega)]; exact hN.2.1, by rw [g1 99 (by omega)]; exact hN.2.2⟩
  intro c
  induction c with
  | zero =>
    intro i σ hi g1 g2 hM hA
    have : i = m := by omega
    subst this
    have b := m4 i (Nat.le_refl _)
    exact rc_go 40 (And.intro (fun _ => h σ g1 g2 hM) (fun c => absurd (by rw [(hN1 σ g1 g2).1.1, hA.1]; exact nI_le hS (by omega)) c))
  | succ c ih =>
    intro i σ hi g1 g2 hM hA
    have b := m4 i (by omega)
    have hok := m3 i (by omega)
    have hlt := (ri_st_t hok).1
    have hNs := hN1 σ g1 g2
    obtain ⟨n1, n2⟩ := ri_V_n (t := t) (L := L) (V := V) i
    refine rc_go 60 (And.intro (fun c1 => absurd (by rw [hNs.1.1, hA.1] at c1; exact c1) (nI_ge hlt (by omega))) (fun _ => ?_))
    refine t_statement (s := ri_S t L i) (by omega) hT hNs hA (fun σ1 f1 a1 fl => ?_)
    rw [hok] at a1
    have fl := fl hok
    have hM1 := hM.fq f1
    have k1 : ∀ k, k < 80 ∨ k = 81 ∨ (96 ≤ k ∧ k ≤ 99) ∨ k = 110 → σ1 k = σ0 k := fun k hk => by rw [f1.at (by omega)]; exact g1 k hk
    have k2 : ∀ j, j = 19 ∨ j = 24 ∨ j = 44 → σ1 80 j = σ0 80 j := fun j hj => by rw [f1 80 j (by rcases hj with rfl | rfl | rfl <;> decide)]; exact g2 j hj
    cases hr : ri_isr t L i with
    | true =>
      obtain ⟨o1, o2⟩ := ri_ok_r hok hr (hf i (by omega))
      rw [← n1] at o2
      refine t_come_r hM1 o2 hr fl (fun σ2 e1 e2 hM2 => ?_)
      exact ih (i + 1) σ2 (by omega) (fun k hk => by rw [e1 k (by omega) (by omega)]; exact k1 k hk) (fun j hj => by rw [e2 j (by omega)]; exact k2 j hj) (by rw [ri_V, hr, cond_true]; exact hM2) ⟨by rw [e2 25 (by decide)]; exact a1.1, by rw [e2 26 (by decide)]; exact a1.2⟩
    | false =>
      obtain ⟨o1, o2⟩ := ri_ok_g hr (hf i (by omega))
      rw [← n2] at o2
      refine t_come_g hM1 o2 hr fl (fun σ2 e1 e2 hM2 => ?_)
      exact ih (i + 1) σ2 (by omega) (fun k hk => by rw [e1 k (by omega) (by omega)]; exact k1 k hk) (fun j hj => by rw [e2 j (by omega)]; exact k2 j hj) (by rw [ri_V, hr, cond_false]; exact hM2) ⟨by rw [e2 25 (by decide)]; exact a1.1, by rw [e2 26 (by decide)]; exact a1.2⟩
theorem t_rd_68 {m : Nat} {σ0 : rc_M} (hm : m = ri_m t L) (hT : ri_T t L) (hS : L ≤ ri_S t L m) (hN : ri_N σ0 t L) (hM : rc_Mod σ0 V) (hW : rc_WF n V) (h2 : rc_W2 V) {Q' : Option Value → rc_M → Prop} (h1 : ∀ σ', (∀ k, k < 80 ∨ k = 81 ∨ (96 ≤ k ∧ k ≤ 99) ∨ k = 110 → σ' k = σ0 k) → (∀ j, j = 19 ∨ j = 24 ∨ j = 44 → σ' 80 j = σ0 80 j) → (∀ j, j < m → ri_fit t L (V 12 0) (V 12 1) j = true) → rc_Mod σ' (ri_V t L V m) → Q' (some (.int (nI m))) σ') (h0 : ∀ i σ', i < m → rc_fq σ0 σ' → ri_fit t L (V 12 0) (V 12 1) i = false → (∀ j, j < i → ri_fit t L (V 12 0) (V 12 1) j = true) → Q' (some (.int (-2000 - nI (ri_S t L i)))) σ') : ∀ (c i : Nat) (σ : rc_M) (w4 : Value), i + c = m → rc_fq σ0 σ → ri_A σ (ri_S t L i) true → (∀ j, j < i → ri_fit t L (V 12 0) (V 12 1) j = true) → rc_Tc (d + 3) 137 68 [.ref 80, .int (nI m), .int (nI (ri_cr t L (V 12 0) i)), .int (nI (ri_cg t L (V 12 1) i)), w4] [] σ Q' := by
  obtain ⟨m1, m2, m3, m4⟩ := ri_mf hT
  rw [← hm] at m1 m2 m3 m4
  have hL := hT.1
  have w1 := hW.1
  have w2 := hW.2.1
  intro c
  induction c with
  | zero =>
    intro i σ w4 hi hf hA hfit
    have : i = m := by omega
    subst this
    have b := m4 i (Nat.le_refl _)
    have hf2 := hf.tr (ri_fq0 (σ := σ))
    refine rc_go 60 (And.intro (fun _ => ?_) (fun c => absurd (by rw [(hN.fq hf).1.1, hA.1]; exact nI_le hS (by omega)) c))
    exact t_rd_135 (σ0 := σ0) (V := V) hm hT hS hN hW h2 hfit (fun σ' a b c => h1 σ' a b hfit c) i 0 _ (by omega) (fun k hk => hf2.at (by omega)) (fun j hj => hf2 80 j (by rcases hj with rfl | rfl | rfl <;> decide)) (hM.fq hf2) (ri_A_0 hA)
  | succ c ih =>
    intro i σ w4 hi hf hA hfit
    have b := m4 i (by omega)
    have hok := m3 i (by omega)
    have hlt := (ri_st_t hok).1
    have hNs := hN.fq hf
    have b1 := ri_cr_b (t := t) (L := L) (b := V 12 0) i
    have b2 := ri_cg_b (t := t) (L := L) (b := V 12 1) i
    have e25 : σ 80 25 = nI (ri_S t L i) := hA.1
    refine rc_go 80 (And.intro (fun c1 => absurd (by rw [hNs.1.1, hA.1] at c1; exact c1) (nI_ge hlt (by omega))) (fun _ => ?_))
    refine t_statement (s := ri_S t L i) (by omega) hT hNs hA (fun σ1 f1 a1 fl => ?_)
    rw [hok] at a1
    have fl := fl hok
    have hf1 := hf.tr f1
    cases hr : ri_isr t L i with
    | true =>
      have g1 := (fl.1 hr).1
      refine ri_mustr (br := V 12 0) (bg := V 12 1) (b := ri_cg t L (V 12 1) i) hok hr fl (by omega) rfl rfl (And.intro (fun c2 => ?_) (fun c2 => ?_))
      · have hz := rc_bool_t c2
        refine And.intro (fun c3 => absurd g1 c3) (fun _ => ?_)
        have key := ih (i + 1) σ1 (.int (σ 80 25)) (by omega) hf1 a1 (fun j hj => by
          by_cases e : j = i
          · subst e; exact hz
          · exact hfit j (by omega))
        have e1 : nI (ri_cr t L (V 12 0) (i + 1)) = nI (ri_cr t L (V 12 0) i) + 1 := by rw [ri_cr, hr, nI_1]; rfl
        have e2 : nI (ri_cg t L (V 12 1) (i + 1)) = nI (ri_cg t L (V 12 1) i) + σ1 80 29 := by rw [ri_cg, hr, g1, show (0 : Int32) = nI 0 from rfl, nI_add]; rfl
        rw [e1, e2] at key
        exact key
      · have hz : ri_fit t L (V 12 0) (V 12 1) i = false := by
          cases hz : ri_fit t L (V 12 0) (V 12 1) i with
          | false => rfl
          | true => rw [hz] at c2; exact absurd c2 (by decide)
        have hq := h0 i σ1 (by omega) hf1 hz hfit
        rw [← e25] at hq
        exact hq
    | false =>
      have g1 := (fl.2 hr).1
      refine ri_mustg (br := V 12 0) (bg := V 12 1) (a := ri_cr t L (V 12 0) i) hok hr fl (by omega) rfl rfl (And.intro (fun c2 => ?_) (fun c2 => ?_))
      · have hz := rc_bool_t c2
        refine And.intro (fun _ => ?_) (fun c3 => absurd (show σ1 80 29 = 0 from c3) (by rw [g1]; decide))
        have key := ih (i + 1) σ1 (.int (σ 80 25)) (by omega) hf1 a1 (fun j hj => by
          by_cases e : j = i
          · subst e; exact hz
          · exact hfit j (by omega))
        have e1 : nI (ri_cr t L (V 12 0) (i + 1)) = nI (ri_cr t L (V 12 0) i) + 0 := by rw [ri_cr, hr, show (0 : Int32) = nI 0 from rfl, nI_add]; rfl
        have e2 : nI (ri_cg t L (V 12 1) (i + 1)) = nI (ri_cg t L (V 12 1) i) + σ1 80 29 := by rw [ri_cg, hr, g1, nI_1]; rfl
        rw [e1, e2] at key
        exact key
      · have hz : ri_fit t L (V 12 0) (V 12 1) i = false := by
          cases hz : ri_fit t L (V 12 0) (V 12 1) i with
          | false => rfl
          | true => rw [hz] at c2; exact absurd c2 (by decide)
        have hq := h0 i σ1 (by omega) hf1 hz hfit
        rw [← e25] at hq
        exact hq
theorem t_rd_12 {σ0 : rc_M} (hT : ri_T t L) (hN : ri_N σ0 t L) {Q' : Option Value → rc_M → Prop} {w2 w3 w4 : Value} (h1 : ∀ σ, rc_fq σ0 σ → ri_B t L = true → ri_A σ (ri_S t L (ri_m t L)) true → rc_Tc (d + 3) 137 37 [.ref 80, .int (nI (ri_m t L)), w2, w3, w4] [] σ Q') (h0 : ∀ σ, rc_fq σ0 σ → ri_B t L = false → Q' (some (.int (-1000 - nI (ri_st t L (ri_S t L (ri_m t L))).1))) σ) : ∀ (c i : Nat) (σ : rc_M), i + c = 9 → rc_fq σ0 σ → ri_A σ (ri_S t L i) true → (∀ j, j < i → ri_p t L j = false) → (0 < i → ri_S t L i < L) → rc_Tc (d + 3) 137 12 [.ref 80, .int (nI i), w2, w3, w4] [] σ Q' := by
  have hL := hT.1
  intro c
  induction c with
  | zero =>
    intro i σ hi hf hA hp hlt
    have := ri_S_b hp i (Nat.le_refl _)
    have := hlt (by omega)
    omega
  | succ c ih =>
    intro i σ hi hf hA hp hlt
    have b := ri_S_b hp i (Nat.le_refl _)
    refine rc_go 60 (t_statement (s := ri_S t L i) (by omega) hT (hN.fq hf) hA (fun σ1 f1 a1 fl => ?_))
    have hf1 := hf.tr f1
    have hN1 := hN.fq hf1
    cases hok : (ri_st t L (ri_S t L i)).2 with
    | false =>
      rw [hok] at a1
      have hpi : ri_p t L i = true := by unfold ri_p; rw [hok, Bool.not_false, Bool.or_true]
      have hm : ri_m t L = i := rc_ff_at (by omega) hpi hp
      have hB : ri_B t L = false := by
        unfold ri_B
        rw [hm]
        rcases Nat.eq_zero_or_pos i with z | z
        · rw [decide_eq_false (p := 0 < i) (by omega), Bool.and_false]
        · rw [decide_eq_false (p := L ≤ ri_S t L i) (by have := hlt z; omega)]; rfl
      have hq := h0 σ1 hf1 hB
      rw [hm, ← a1.1] at hq
      refine And.intro (fun _ => ?_) (fun c => absurd (show σ1 80 26 = 0 by rw [a1.2]; rfl) c)
      exact rc_go 40 (And.intro (fun c => absurd (show σ1 80 26 = 0 by rw [a1.2]; rfl) c) (fun _ => hq))
    | true =>
      rw [hok] at a1
      have hst := ri_st_t hok
      have hpi : ri_p t L i = false := by
        unfold ri_p
        rw [hok, Bool.not_true, Bool.or_false]
        rw [decide_eq_false (p := L ≤ ri_S t L i) (by omega)]
        rfl
      have hp' : ∀ j, j < i + 1 → ri_p t L j = false := fun j hj => by
        by_cases e : j = i
        · subst e; exact hpi
        · exact hp j (by omega)
      have b' := ri_S_b hp' (i + 1) (Nat.le_refl _)
      have a1 : ri_A σ1 (ri_S t L (i + 1)) true := a1
      refine And.intro (fun c => absurd (show σ1 80 26 = 0 from c) (by rw [a1.2]; decide)) (fun _ => And.intro (fun c1 => ?_) (fun c1 => ?_))
      · rw [hN1.1.1, a1.1] at c1
        have key := ih (i + 1) σ1 (by omega) hf1 a1 hp' (fun _ => (nI_ltI (by omega) (by omega)).mp c1)
        rw [← nI_1] at key
        exact key
      · rw [hN1.1.1, a1.1] at c1
        have hge : L ≤ ri_S t L (i + 1) := Nat.le_of_not_lt (fun z => c1 (nI_lt z (by omega)))
        have hpi1 : ri_p t L (i + 1) = true := by
          unfold ri_p
          rw [decide_eq_true hge, decide_eq_true (by omega)]
          rfl
        have hm : ri_m t L = i + 1 := rc_ff_at (by omega) hpi1 hp'
        have hB : ri_B t L = true := by
          unfold ri_B
          rw [hm, decide_eq_true hge, decide_eq_true (by omega)]
          rfl
        have key := h1 σ1 hf1 hB (by rw [hm]; exact a1)
        rw [hm, ← nI_1] at key
        exact key
theorem t_read (hT : ri_T t L) (hN : ri_N σ t L) (hM : rc_Mod σ V) (hW : rc_WF n V) (h2 : rc_W2 V) (h : ∀ σ', (∀ k, k < 80 ∨ k = 81 ∨ (96 ≤ k ∧ k ≤ 99) ∨ k = 110 → σ' k = σ k) → (∀ j, j = 19 ∨ j = 24 ∨ j = 44 → σ' 80 j = σ 80 j) → rc_Mod σ' (ri_nV t L V) → Q (ri_ans t L (V 12 0) (V 12 1)) σ') : rc_TI (d + 3) 137 [.ref 80] σ Q := by
  have hf0 : rc_fq σ (rc_up (rc_up σ 80 (upd (σ 80) 25 0)) 80 (upd (rc_up σ 80 (upd (σ 80) 25 0) 80) 26 1)) := (rc_fq8 (j := 25) (by omega)).tr (rc_fq8 (j := 26) (by omega))
  have hA0 : ri_A (rc_up (rc_up σ 80 (upd (σ 80) 25 0)) 80 (upd (rc_up σ 80 (upd (σ 80) 25 0) 80) 26 1)) 0 true := ⟨by rw [rc_up_s, pk_un (by decide), rc_up_s, pk_us]; rfl, by rw [rc_up_s, pk_us]; rfl⟩
  have fq1 : ∀ σ', rc_fq σ σ' → (∀ k, k < 80 ∨ k = 81 ∨ (96 ≤ k ∧ k ≤ 99) ∨ k = 110 → σ' k = σ k) ∧ (∀ j, j = 19 ∨ j = 24 ∨ j = 44 → σ' 80 j = σ 80 j) := fun σ' hf => ⟨fun k hk => hf.at (by omega), fun j hj => hf 80 j (by rcases hj with rfl | rfl | rfl <;> decide)⟩
  unfold ri_ans ri_nV at h
  refine rc_go 60 (And.intro (Or.inr rfl) ?_)
  refine t_rd_12 (σ0 := σ) hT hN (fun σ1 hf hB hA => ?_) (fun σ1 hf hB => ?_) 9 0 _ rfl hf0 hA0 (fun j hj => absurd hj (by omega)) (fun z => absurd z (by omega))
  · rw [hB, cond_true, Bool.true_and] at h
    have hS : L ≤ ri_S t L (ri_m t L) := by
      unfold ri_B at hB
      rw [Bool.and_eq_true] at hB
      exact of_decide_eq_true hB.1
    have hf2 := hf.tr (ri_fq0 (σ := σ1))
    have hM1 := hM.fq hf
    have e1 : σ1 80 1 = nI (V 12 0) := hM1.1
    have e8 : σ1 80 8 = nI (V 12 1) := hM1.2.1
    generalize em : ri_m t L = m at *
    have key := t_rd_68 (d := d) (σ0 := σ) (V := V) em.symm hT hS hN hM hW h2 (Q' := fun v σ => ∃ x, v = some (.int x) ∧ Q x σ) (fun σ' a b hfit c => ⟨_, rfl, by
      have hu : ri_u t L (V 12 0) (V 12 1) = m := by
        unfold ri_u
        rw [em]
        exact rc_ff_no (fun j hj => by rw [hfit j hj]; rfl)
      have h' := h σ' a b
      rw [hu, if_neg (by omega), decide_eq_true rfl, cond_true] at h'
      exact h' c⟩) (fun i σ' hi hf' hz hfit => ⟨_, rfl, by
      have hu : ri_u t L (V 12 0) (V 12 1) = i := by
        unfold ri_u
        rw [em]
        exact rc_ff_at hi (by rw [hz]; rfl) (fun j hj => by rw [hfit j hj]; rfl)
      have h' := h σ' (fq1 σ' hf').1 (fq1 σ' hf').2
      rw [hu, if_pos hi, decide_eq_false (by omega), cond_false] at h'
      exact h' (hM.fq hf')⟩) m 0 _ .null (by omega) hf2 (ri_A_0 hA) (fun j hj => absurd hj (by omega))
    rw [show ri_cr t L (V 12 0) 0 = V 12 0 from rfl, show ri_cg t L (V 12 1) 0 = V 12 1 from rfl] at key
    refine rc_go 60 (And.intro (fun _ => ?_) (fun c => absurd (show σ1 80 26 = 0 from c) (by rw [hA.2]; decide)))
    have x1 : rc_up σ1 80 (upd (σ1 80) 25 0) 80 1 = nI (V 12 0) := by rw [rc_up_s, pk_un (by decide)]; exact e1
    have x8 : rc_up σ1 80 (upd (σ1 80) 25 0) 80 8 = nI (V 12 1) := by rw [rc_up_s, pk_un (by decide)]; exact e8
    rw [← x1, ← x8] at key
    exact key
  · rw [hB, cond_false, Bool.false_and, cond_false] at h
    exact ⟨_, rfl, h σ1 (fq1 σ1 hf).1 (fq1 σ1 hf).2 (hM.fq hf)⟩
theorem t_inn (h2 : rc_W2 (pV P)) (hI : rc_MP σ P) (hW : rc_WP n P) (h : ∀ σ', rc_fM σ σ' → rc_MP σ' (o_inn P).2 → Q (o_inn P).1 σ') : rc_TI (d + 4) 138 [.ref 80] σ Q := by
  obtain ⟨h1, h2', h3, h4, h5, h6, h7, h8⟩ := hI
  refine rc_go 60 (t_read (t := ptp P) (L := pln P) (V := pV P) hW.2.2.1 ⟨h2', h7, h8⟩ h1 hW.1 h2 (fun σ1 e1 e2 hM => ⟨_, rfl, ?_⟩))
  have x : ∀ k, k ≠ 80 → rc_up σ1 80 (upd (σ1 80) 24 0) k = σ1 k := fun k hk => rc_up_n _ _ hk
  have y : ∀ j, j ≠ 24 → rc_up σ1 80 (upd (σ1 80) 24 0) 80 j = σ1 80 j := fun j hj => by rw [rc_up_s, pk_un hj]
  refine h _ (fun k hk => by rw [x k (by omega)]; exact e1 k (by omega)) ⟨?_, ⟨by rw [rc_up_s, pk_us]; rfl, fun j hj => absurd hj (by show ¬ j < 0; omega)⟩, ?_, fun j hj => ?_, ?_, fun hi => ?_, ?_, ?_⟩
  · obtain ⟨a1, a2, a3, a4, a5, a6, a7⟩ := hM
    exact ⟨by rw [y 1 (by decide)]; exact a1, by rw [y 8 (by decide)]; exact a2, by rw [y 15 (by decide)]; exact a3, by rw [y 16 (by decide)]; exact a4, a5, a6, a7⟩
  · rw [y 44 (by decide), e2 44 (by omega), x 110 (by decide), e1 110 (by omega)]; exact h3
  · rw [x 81 (by decide), e1 81 (by omega)]; exact h4 j hj
  · rw [y 19 (by decide), e2 19 (by omega)]; exact h5
  · have e : rc_thM (rc_up σ1 80 (upd (σ1 80) 24 0)) = rc_thM σ := by funext k j; unfold rc_thM; rw [x 96 (by decide), e1 96 (by omega)]
    rw [e]; exact h6 hi
  · rw [x 98 (by decide), e1 98 (by omega)]; exact h7
  · rw [x 99 (by decide), e1 99 (by omega)]; exact h8
end RJe
