section RCm
variable {d n : Nat} {σ : rc_M} {P : rc_P} {V : rc_V} {Q : Int32 → rc_M → Prop}
/-! changes and needed, the model's side -/
theorem rc_27k (k s : Nat) : (27 : Int32) * nI k + nI s = nI (27 * k + s) := by rw [show (27 : Int32) = nI 27 from rfl, rc_mulN, nI_add]
theorem t_nxz {x : Int32} {n t : Nat} (hx : x = nI n) (hM : rc_Mod σ V) (hb6 : V 12 0 ≤ 6) (hn : n ≤ 6) (ht : t < V 12 0 ^ n) (hr : rc_mrw σ (V 12 0) n t)
    (k1 : t + 1 < V 12 0 ^ n → ∀ σ', rc_fr [102] σ σ' → rc_mrw σ' (V 12 0) n (t + 1) → Q 1 σ') (k0 : ¬ t + 1 < V 12 0 ^ n → ∀ σ', rc_fr [102] σ σ' → Q 0 σ') : rc_TI d 151 [.ref 80, .int x] σ Q := by
  obtain ⟨i1, i2⟩ := rc_inc_dg ht
  have hb0 : 0 < n → 0 < V 12 0 := fun z => by
    rcases Nat.eq_zero_or_pos (V 12 0) with y | y
    · rw [y, Nat.zero_pow z] at ht; omega
    · exact y
  refine t_isNext hx hn hb6 hM.1 (fun j hj => ⟨hr j hj, by have := rc_dg_lt (n := n) (t := t) (i := j) (hb0 (by omega)); omega⟩) (fun f' hf' => ?_)
  by_cases c : t + 1 < V 12 0 ^ n
  · have hne := (i1 c).1
    rw [show rc_bI (decide ((rc_inc (V 12 0) n (rc_dg (V 12 0) n t)).1 ≠ 0)) = 1 by simp [hne, rc_bI]]
    exact k1 c _ (rc_fr.up (by simp)) (fun j hj => by rw [rc_up_s, hf' j hj, (i1 c).2 j hj])
  · have hz := i2 c
    rw [show rc_bI (decide ((rc_inc (V 12 0) n (rc_dg (V 12 0) n t)).1 ≠ 0)) = 0 by simp [hz, rc_bI]]
    exact k0 c _ (rc_fr.up (by simp))
def rc_Tn (σ : rc_M) (V : rc_V) (T : rc_Tb) : Prop := ∀ i, i < T.1 → ∀ s, s < 27 → σ 106 (27 * i + s) = nI (rc_xm V (T.2.1 i) s)
theorem t_new_9 {k i : Nat} {f g : Nat → Nat} (hi : i < 43) (hk : k < 43) (hf : ∀ s, s < 27 → σ 106 (27 * i + s) = nI (f s) ∧ f s < 27) (hg : ∀ s, s < 27 → σ 106 (27 * k + s) = nI (g s) ∧ g s < 27) {Q' : Option Value → rc_M → Prop} (h1 : rc_alls (fun s => decide (f s = g s)) 27 = true → Q' (some (.int 0)) σ) (h0 : rc_alls (fun s => decide (f s = g s)) 27 = false → ∀ w3, rc_Tc d 164 2 [.ref 80, .int (nI k), .int (nI (i + 1)), w3] [] σ Q') : ∀ (c s : Nat), s + c = 27 → rc_alls (fun s => decide (f s = g s)) s = true → rc_Tc d 164 9 [.ref 80, .int (nI k), .int (nI i), .int (nI s)] [] σ Q' := by
  rw [← nI_1] at h0
  intro c
  induction c with
  | zero =>
    intro s hs ha
    have : s = 27 := by omega
    subst this
    exact rc_go 40 (And.intro (fun _ => And.intro (fun c => absurd rfl c) (fun _ => ⟨Or.inl rfl, h1 ha⟩)) (fun c => absurd (by decide) c))
  | succ c ih =>
    intro s hs ha
    obtain ⟨a1, a2⟩ := hf s (by omega)
    obtain ⟨b1, b2⟩ := hg s (by omega)
    refine rc_go 60 (And.intro (fun c1 => absurd c1 (nI_ge (show s < 27 by omega) (by decide))) (fun _ => ?_))
    refine And.intro (by rw [rc_27k]; exact rc_vi (n := 1161) (by omega) (by decide)) (And.intro (by rw [rc_27k]; exact rc_vi (n := 1161) (by omega) (by decide)) ?_)
    rw [rc_27k, rc_27k, rc_ci (by omega), rc_ci (by omega), a1, b1]
    refine And.intro (fun c => ?_) (fun c => ?_)
    · refine And.intro (fun _ => ?_) (fun c3 => absurd ((nI_eq (b := 27) (by omega) (by decide)).mp c3) (by omega))
      exact h0 (rc_alls_f (k := s) (by omega) (decide_eq_false (fun z => c (by rw [z])))) _
    · have key := ih (s + 1) (by omega) (by rw [rc_alls, ha, decide_eq_true ((nI_eq (by omega) (by omega)).mp c)]; rfl)
      rw [← nI_1] at key
      exact key
theorem t_new_2 {T : rc_Tb} {x : rc_X} (hb6 : V 12 0 ≤ 6) (hWR : ∀ i, i < 6 → rc_WR V i) (hk : T.1 < 43) (hx : rc_xok V x) (hR : ∀ i, i < T.1 → rc_xok V (T.2.1 i)) (hT : rc_Tn σ V T) (hn : ∀ s, s < 27 → σ 106 (27 * T.1 + s) = nI (rc_xm V x s)) {Q' : Option Value → rc_M → Prop} (h1 : rc_ff (fun i => rc_xs V (T.2.1 i) x) T.1 = T.1 → Q' (some (.int 1)) σ) (h0 : rc_ff (fun i => rc_xs V (T.2.1 i) x) T.1 < T.1 → Q' (some (.int 0)) σ) : ∀ (c i : Nat) (w3 : Value), i + c = T.1 → (∀ j, j < i → rc_xs V (T.2.1 j) x = false) → rc_Tc d 164 2 [.ref 80, .int (nI T.1), .int (nI i), w3] [] σ Q' := by
  intro c
  induction c with
  | zero =>
    intro i w3 hi hf
    have : i = T.1 := by omega
    subst this
    exact rc_go 40 (And.intro (fun _ => ⟨Or.inr rfl, h1 (rc_ff_no hf)⟩) (fun c => absurd (nI_le (Nat.le_refl _) (by omega)) c))
  | succ c ih =>
    intro i w3 hi hf
    refine rc_go 40 (And.intro (fun c1 => absurd c1 (nI_ge (by omega) (by omega))) (fun _ => ?_))
    refine t_new_9 (f := rc_xm V (T.2.1 i)) (g := rc_xm V x) (by omega) hk (fun s hs => ⟨hT i (by omega) s hs, rc_xm_lt hb6 hWR (hR i (by omega)) hs⟩) (fun s hs => ⟨hn s hs, rc_xm_lt hb6 hWR hx hs⟩) (fun z => ?_) (fun z w3 => ?_) 27 0 rfl rfl
    · exact h0 (by rw [rc_ff_at (p := fun i => rc_xs V (T.2.1 i) x) (show i < T.1 by omega) z hf]; omega)
    · exact ih (i + 1) w3 (by omega) (fun j hj => by
        by_cases e : j = i
        · subst e; exact z
        · exact hf j (by omega))
theorem t_isNew {y : Int32} {T : rc_Tb} {x : rc_X} (hy : y = nI T.1) (hb6 : V 12 0 ≤ 6) (hWR : ∀ i, i < 6 → rc_WR V i) (hk : T.1 < 43) (hx : rc_xok V x) (hR : ∀ i, i < T.1 → rc_xok V (T.2.1 i)) (hT : rc_Tn σ V T) (hn : ∀ s, s < 27 → σ 106 (27 * T.1 + s) = nI (rc_xm V x s)) (h1 : rc_ff (fun i => rc_xs V (T.2.1 i) x) T.1 = T.1 → Q 1 σ) (h0 : rc_ff (fun i => rc_xs V (T.2.1 i) x) T.1 < T.1 → Q 0 σ) : rc_TI d 164 [.ref 80, .int y] σ Q := by
  subst hy
  exact rc_go 40 (t_new_2 hb6 hWR hk hx hR hT hn (fun z => ⟨_, rfl, h1 z⟩) (fun z => ⟨_, rfl, h0 z⟩) T.1 0 _ (by omega) (fun j hj => absurd hj (by omega)))
/-- what the model keeps of its rows without a room -/
def rc_lw (V : rc_V) (w n t : Nat) : List rc_X := (rc_ls (V 12 0) n t).filter (rc_av V w)
theorem rc_lw_s {w n' t : Nat} : rc_lw V w n' (t + 1) = if rc_av V w (n', t) then rc_lw V w n' t ++ [(n', t)] else rc_lw V w n' t := by
  unfold rc_lw
  rw [rc_ls_s, List.filter_append]
  cases hz : rc_av V w (n', t) with
  | true => rw [if_pos rfl]; simp [hz]
  | false => rw [if_neg (by decide)]; simp [hz]
theorem rc_lw_f {w n' t : Nat} (hb6 : V 12 0 ≤ 6) (hn : n' ≤ 2) (ht : t < V 12 0 ^ n') : (rc_tab V (rc_lw V w n' t)).1 < 43 ∧ (∀ i, i < (rc_tab V (rc_lw V w n' t)).1 → rc_xok V ((rc_tab V (rc_lw V w n' t)).2.1 i)) ∧ rc_xok V (n', t) := by
  obtain ⟨t1, t2, t3, t4, t5⟩ := rc_tab_ok (V := V) (rc_lw V w n' t)
  have hl := rc_ls_len hb6 hn ht
  have hl2 : (rc_lw V w n' t).length ≤ (rc_ls (V 12 0) n' t).length := List.length_filter_le _ _
  refine ⟨by omega, fun i hi => rc_ls_ok (by omega) (List.mem_filter.mp (t1 i hi)).1, rc_ls_ok (b := V 12 0) (n := n') (t := t + 1) (by omega) (x := (n', t)) (by rw [rc_ls_s]; exact List.mem_append_right _ (by simp))⟩
theorem t_un_79 {N n' t w : Nat} {wi : Int32} {σ0 : rc_M} (hM : rc_Mod σ0 V) (hW : rc_WF n V) (hn : n' ≤ 2) (ht : t < V 12 0 ^ n') (hav : rc_av V w (n', t) = true) {Q' : Option Value → rc_M → Prop}
    (K1 : ∀ σ' w5 w6, rc_fq σ0 σ' → rc_mrw σ' (V 12 0) n' (t + 1) → rc_Tn σ' V (rc_tab V (rc_lw V w n' (t + 1))) → t + 1 < V 12 0 ^ n' → rc_Tc (d + 5) 163 29 [.ref 80, .int (nI N), .int wi, .int (nI (rc_tab V (rc_lw V w n' (t + 1))).1), .int (nI n'), w5, w6] [] σ' Q')
    (K0 : ∀ σ' w5 w6, rc_fq σ0 σ' → rc_Tn σ' V (rc_tab V (rc_lw V w n' (t + 1))) → ¬ t + 1 < V 12 0 ^ n' → rc_Tc (d + 5) 163 5 [.ref 80, .int (nI N), .int wi, .int (nI (rc_tab V (rc_lw V w n' (t + 1))).1), .int (nI (n' + 1)), w5, w6] [] σ' Q') :
    ∀ (c s : Nat) (σ : rc_M) (w5 : Value), s + c = 27 → rc_fq σ0 σ → rc_mrw σ (V 12 0) n' t → rc_Tn σ V (rc_tab V (rc_lw V w n' t)) → (∀ q, q < s → σ 106 (27 * (rc_tab V (rc_lw V w n' t)).1 + q) = nI (rc_xm V (n', t) q)) → rc_Tc (d + 5) 163 79 [.ref 80, .int (nI N), .int wi, .int (nI (rc_tab V (rc_lw V w n' t)).1), .int (nI n'), w5, .int (nI s)] [] σ Q' := by
  have hb6 := hW.1
  obtain ⟨f1, f2, f3⟩ := rc_lw_f (V := V) (w := w) hb6 hn ht
  rw [rc_lw_s, if_pos hav, rc_tab_a] at K1 K0
  rw [← nI_1] at K0
  intro c
  induction c with
  | zero =>
    intro s σ w5 hs hf hr hT hq
    have : s = 27 := by omega
    subst this
    have hM1 := hM.fq hf
    refine rc_go 60 (And.intro (fun _ => ?_) (fun c => absurd (by decide) c))
    refine t_isNew (V := V) (x := (n', t)) rfl hb6 hW.2.2.2.2.1 f1 f3 f2 hT hq (fun z => ?_) (fun z => ?_)
    · refine And.intro (fun y => absurd y (by decide)) (fun _ => ?_)
      have ea : rc_ad V (rc_tab V (rc_lw V w n' t)) (n', t) = ((rc_tab V (rc_lw V w n' t)).1 + 1, fun j => if j = (rc_tab V (rc_lw V w n' t)).1 then (n', t) else (rc_tab V (rc_lw V w n' t)).2.1 j, va_up (rc_tab V (rc_lw V w n' t)).2.2 (rc_tab V (rc_lw V w n' t)).1 (rc_xb V (n', t))) := by
        unfold rc_ad
        rw [z, if_neg (by omega)]
      rw [ea] at K1 K0
      have hT' : ∀ σ', σ' 106 = σ 106 → rc_Tn σ' V ((rc_tab V (rc_lw V w n' t)).1 + 1, (fun j => if j = (rc_tab V (rc_lw V w n' t)).1 then (n', t) else (rc_tab V (rc_lw V w n' t)).2.1 j), va_up (rc_tab V (rc_lw V w n' t)).2.2 (rc_tab V (rc_lw V w n' t)).1 (rc_xb V (n', t))) := fun σ' e i hi q hq' => by
        have hi : i < (rc_tab V (rc_lw V w n' t)).1 + 1 := hi
        rw [e]
        show _ = nI (rc_xm V (if i = (rc_tab V (rc_lw V w n' t)).1 then (n', t) else (rc_tab V (rc_lw V w n' t)).2.1 i) q)
        by_cases y : i = (rc_tab V (rc_lw V w n' t)).1
        · rw [if_pos y, y]; exact hq q hq'
        · rw [if_neg y]; exact hT i (by omega) q hq'
      have K1' := fun σ' w5 w6 a b c d => K1 σ' w5 w6 a b c d
      have K0' := fun σ' w5 w6 a b c => K0 σ' w5 w6 a b c
      rw [show nI ((rc_tab V (rc_lw V w n' t)).1 + 1) = nI (rc_tab V (rc_lw V w n' t)).1 + 1 from (nI_1 _).symm] at K1' K0'
      refine t_nxz (V := V) (n := n') (t := t) rfl hM1 hb6 (by omega) ht hr (fun hlt σ' hf' hr' => And.intro (fun _ => ?_) (fun y => absurd y (by decide))) (fun hlt σ' hf' => And.intro (fun y => absurd rfl y) (fun _ => ?_))
      · exact K1' σ' _ _ (hf.tr hf'.q2) hr' (hT' σ' (hf' 106 (by simp))) hlt
      · exact K0' σ' _ _ (hf.tr hf'.q2) (hT' σ' (hf' 106 (by simp))) hlt
    · refine And.intro (fun _ => ?_) (fun y => absurd rfl y)
      have ea : (rc_ad V (rc_tab V (rc_lw V w n' t)) (n', t)).1 = (rc_tab V (rc_lw V w n' t)).1 ∧ (rc_ad V (rc_tab V (rc_lw V w n' t)) (n', t)).2.1 = (rc_tab V (rc_lw V w n' t)).2.1 := by
        unfold rc_ad
        rw [if_pos z]
        exact ⟨rfl, rfl⟩
      have hT' : ∀ σ', σ' 106 = σ 106 → rc_Tn σ' V (rc_ad V (rc_tab V (rc_lw V w n' t)) (n', t)) := fun σ' e i hi q hq' => by
        rw [e, ea.2]
        rw [ea.1] at hi
        exact hT i hi q hq'
      rw [ea.1] at K1 K0
      have e0 : nI (rc_tab V (rc_lw V w n' t)).1 + 0 = nI (rc_tab V (rc_lw V w n' t)).1 := by rw [show (0 : Int32) = nI 0 from rfl, nI_add, Nat.add_zero]
      rw [← e0] at K1 K0
      refine t_nxz (V := V) (n := n') (t := t) rfl hM1 hb6 (by omega) ht hr (fun hlt σ' hf' hr' => And.intro (fun _ => ?_) (fun y => absurd y (by decide))) (fun hlt σ' hf' => And.intro (fun y => absurd rfl y) (fun _ => ?_))
      · exact K1 σ' _ _ (hf.tr hf'.q2) hr' (hT' σ' (hf' 106 (by simp))) hlt
      · exact K0 σ' _ _ (hf.tr hf'.q2) (hT' σ' (hf' 106 (by simp))) hlt
  | succ c ih =>
    intro s σ w5 hs hf hr hT hq
    have hM1 := hM.fq hf
    refine rc_go 60 (And.intro (fun c1 => absurd c1 (nI_ge (show s < 27 by omega) (by decide))) (fun _ => ?_))
    refine t_mb (V := V) (s := s) (n := n') (t := t) rfl rfl hM1 f3 hb6 hW.2.2.2.2.1 (by omega) (by omega) hr (fun σ1 g1 g2 g3 => ?_)
    refine And.intro (by rw [rc_27k]; exact rc_vi (n := 1161) (by omega) (by decide)) ?_
    rw [rc_27k, rc_ci (by omega)]
    have g6 : σ1 106 = σ 106 := g3 106 (by decide)
    have key := ih (s + 1) (rc_up σ1 106 (upd (σ1 106) (27 * (rc_tab V (rc_lw V w n' t)).1 + s) (nI (rc_E V (rc_dg (V 12 0) n' t) s n')))) w5 (by omega) ((hf.tr g1).tr (rc_fq.up (by omega))) (hr.fr (by rw [rc_up_n _ _ (by decide), g2])) (fun i hi q hq' => ?_) (fun q hq' => ?_)
    · rw [← nI_1] at key
      exact key
    · rw [rc_up_s, pk_un (by omega), g6]; exact hT i hi q hq'
    · rw [rc_up_s]
      by_cases e : q = s
      · subst e; rw [pk_us]; rfl
      · rw [pk_un (by omega), g6]; exact hq q (by omega)
theorem t_un_29 {N n' w : Nat} {wi : Int32} {σ0 : rc_M} (hM : rc_Mod σ0 V) (hW : rc_WF n V) (hn : n' ≤ 2) (hw : ∀ r, r < 6 → (nI r = wi ↔ r = w)) {Q' : Option Value → rc_M → Prop}
    (K0 : ∀ σ' w5 w6, rc_fq σ0 σ' → rc_Tn σ' V (rc_tab V (rc_lw V w (n' + 1) 0)) → rc_Tc (d + 5) 163 5 [.ref 80, .int (nI N), .int wi, .int (nI (rc_tab V (rc_lw V w (n' + 1) 0)).1), .int (nI (n' + 1)), w5, w6] [] σ' Q') :
    ∀ (c t : Nat) (σ : rc_M) (w5 w6 : Value), t + 1 + c = V 12 0 ^ n' → rc_fq σ0 σ → rc_mrw σ (V 12 0) n' t → rc_Tn σ V (rc_tab V (rc_lw V w n' t)) → rc_Tc (d + 5) 163 29 [.ref 80, .int (nI N), .int wi, .int (nI (rc_tab V (rc_lw V w n' t)).1), .int (nI n'), w5, w6] [] σ Q' := by
  have hb6 := hW.1
  have eN : rc_lw V w n' (V 12 0 ^ n') = rc_lw V w (n' + 1) 0 := by unfold rc_lw; rw [rc_ls_n]
  intro c
  induction c with
  | zero =>
    intro t σ w5 w6 ht hf hr hT
    have htl : t < V 12 0 ^ n' := by omega
    have et : t + 1 = V 12 0 ^ n' := by omega
    have k35 : ∀ (c j : Nat), j + c = n' → rc_Tc (d + 5) 163 35 [.ref 80, .int (nI N), .int wi, .int (nI (rc_tab V (rc_lw V w n' t)).1), .int (nI n'), .int (rc_bI (rc_alls (fun k => !decide (rc_dg (V 12 0) n' t k = w)) j)), .int (nI j)] [] σ Q' := by
      intro c
      induction c with
      | zero =>
        intro j hj
        have : j = n' := by omega
        subst this
        refine rc_go 60 (And.intro (fun _ => And.intro (fun c2 => ?_) (fun c2 => ?_)) (fun c => absurd (nI_le (Nat.le_refl _) (by omega)) c))
        · have z : rc_av V w (j, t) = false := rc_bI_0.mp c2
          refine t_nxz (V := V) (n := j) (t := t) rfl (hM.fq hf) hb6 (by omega) htl hr (fun hlt => absurd hlt (by omega)) (fun hlt σ' hf' => And.intro (fun y => absurd rfl y) (fun _ => ?_))
          have e2 : rc_lw V w (j + 1) 0 = rc_lw V w j t := by rw [← eN, ← et, rc_lw_s, z, if_neg (by decide)]
          rw [e2] at K0
          have key := K0 σ' (.int (rc_bI (rc_alls (fun k => !decide (rc_dg (V 12 0) j t k = w)) j))) (.int (nI j)) (hf.tr hf'.q2) (fun i hi q hq => by rw [hf' 106 (by simp)]; exact hT i hi q hq)
          rw [← nI_1] at key
          exact key
        · have z : rc_av V w (j, t) = true := rc_bool_t c2
          refine t_un_79 (V := V) hM hW hn htl z (fun σ' w5 w6 a b c hlt => absurd hlt (by omega)) (fun σ' w5 w6 a b _ => ?_) 27 0 σ _ rfl hf hr hT (fun q hq => absurd hq (by omega))
          rw [et, eN] at b ⊢
          exact K0 σ' w5 w6 a b
      | succ c ih =>
        intro j hj
        have key := ih (j + 1) (by omega)
        rw [← nI_1, rc_alls] at key
        have hb0 : 0 < V 12 0 := by
          rcases Nat.eq_zero_or_pos (V 12 0) with y | y
          · rw [y, Nat.zero_pow (by omega)] at htl; omega
          · exact y
        have hd := rc_dg_lt (n := n') (t := t) (i := j) hb0
        refine rc_go 60 (And.intro (fun c1 => absurd c1 (nI_ge (by omega) (by omega))) (fun _ => And.intro (fun c2 => ?_) (fun c2 => ?_)))
        · rw [rc_bI_0.mp c2, Bool.false_and] at key
          exact key
        · rw [rc_bool_t c2, Bool.true_and] at key
          refine And.intro (rc_vi (n := 6) (by omega) (by decide)) ?_
          rw [rc_ci (by omega), hr j (by omega)]
          refine And.intro (fun c3 => ?_) (fun c3 => ?_)
          · rw [decide_eq_true ((hw _ (by omega)).mp c3)] at key
            exact key
          · rw [decide_eq_false (fun z => c3 ((hw _ (by omega)).mpr z))] at key
            exact key
    exact rc_go 20 (k35 n' 0 (by omega))
  | succ c ih =>
    intro t σ w5 w6 ht hf hr hT
    have htl : t < V 12 0 ^ n' := by omega
    have k35 : ∀ (c j : Nat), j + c = n' → rc_Tc (d + 5) 163 35 [.ref 80, .int (nI N), .int wi, .int (nI (rc_tab V (rc_lw V w n' t)).1), .int (nI n'), .int (rc_bI (rc_alls (fun k => !decide (rc_dg (V 12 0) n' t k = w)) j)), .int (nI j)] [] σ Q' := by
      intro c'
      induction c' with
      | zero =>
        intro j hj
        have : j = n' := by omega
        subst this
        refine rc_go 60 (And.intro (fun _ => And.intro (fun c2 => ?_) (fun c2 => ?_)) (fun c => absurd (nI_le (Nat.le_refl _) (by omega)) c))
        · have z : rc_av V w (j, t) = false := rc_bI_0.mp c2
          refine t_nxz (V := V) (n := j) (t := t) rfl (hM.fq hf) hb6 (by omega) htl hr (fun hlt σ' hf' hr' => And.intro (fun _ => ?_) (fun y => absurd y (by decide))) (fun hlt => absurd (show t + 1 < V 12 0 ^ j by omega) hlt)
          have e2 : rc_lw V w j (t + 1) = rc_lw V w j t := by rw [rc_lw_s, z, if_neg (by decide)]
          have key := ih (t + 1) σ' (.int (rc_bI (rc_alls (fun k => !decide (rc_dg (V 12 0) j t k = w)) j))) (.int (nI j)) (by omega) (hf.tr hf'.q2) hr' (fun i hi q hq => by rw [e2] at hi ⊢; rw [hf' 106 (by simp)]; exact hT i hi q hq)
          rw [e2] at key
          exact key
        · have z : rc_av V w (j, t) = true := rc_bool_t c2
          exact t_un_79 (V := V) hM hW hn htl z (fun σ' w5 w6 a b c hlt => ih (t + 1) σ' w5 w6 (by omega) a b c) (fun σ' w5 w6 a b hlt => absurd (show t + 1 < V 12 0 ^ j by omega) hlt) 27 0 σ _ rfl hf hr hT (fun q hq => absurd hq (by omega))
      | succ c' ih' =>
        intro j hj
        have key := ih' (j + 1) (by omega)
        rw [← nI_1, rc_alls] at key
        have hb0 : 0 < V 12 0 := by
          rcases Nat.eq_zero_or_pos (V 12 0) with y | y
          · rw [y, Nat.zero_pow (by omega)] at htl; omega
          · exact y
        have hd := rc_dg_lt (n := n') (t := t) (i := j) hb0
        refine rc_go 60 (And.intro (fun c1 => absurd c1 (nI_ge (by omega) (by omega))) (fun _ => And.intro (fun c2 => ?_) (fun c2 => ?_)))
        · rw [rc_bI_0.mp c2, Bool.false_and] at key
          exact key
        · rw [rc_bool_t c2, Bool.true_and] at key
          refine And.intro (rc_vi (n := 6) (by omega) (by decide)) ?_
          rw [rc_ci (by omega), hr j (by omega)]
          refine And.intro (fun c3 => ?_) (fun c3 => ?_)
          · rw [decide_eq_true ((hw _ (by omega)).mp c3)] at key
            exact key
          · rw [decide_eq_false (fun z => c3 ((hw _ (by omega)).mpr z))] at key
            exact key
    exact rc_go 20 (k35 n' 0 (by omega))
end RCm
