section RC7
variable {d n : Nat} {σ : rc_M} {P : rc_P} {V : rc_V} {Q : Int32 → rc_M → Prop}
def rc_hadn (V : rc_V) : Nat → Nat
  | 0 => 0
  | k + 1 => rc_hadn V k + (rc_wd V k (V 6 k)).toNat
def rc_paid (V : rc_V) : Nat → Nat
  | 0 => 0
  | k + 1 => rc_paid V k + V 8 k
def a_count (P : rc_P) : Nat → Int32
  | 0 => nI (pV P 12 0) | 1 => nI (pV P 12 1) | 2 => nI (pV P 12 2) | 3 => nI (rc_hadn (pV P) (pV P 12 1)) | 4 => nI (pV P 12 3) | 5 => nI (ptl P) | 6 => nI (pln P) | _ => nI (rc_paid (pV P) (pV P 12 1))
def a_refs (P : rc_P) (x : Int32) : Int32 := if x < 11 then -9 else if 16 < x then -9 else prf P (x.toNatClampNeg - 10)
def o_count (P : rc_P) (x : Int32) : Int32 × rc_P := cond (rc_ob x 8) (a_refs P x, P) (a_count P x.toNatClampNeg, P)
theorem o_count_a {j : Nat} (hj : j < 8) : o_count P (nI j) = (a_count P j, P) := by
  unfold o_count
  rw [rc_ob_f hj (by omega), rc_ci (by omega)]
  rfl
theorem c_had_l (hC : rc_Cls 0 σ V) (h0 : σ 0 = rc_wt) (hW : rc_WF n V) {Q' : Option Value → rc_M → Prop} (h : Q' (some (.int (nI (rc_hadn V (V 12 1))))) σ) : ∀ (c k : Nat), k + c = V 12 1 → rc_Tc (d + 2) 19 4 [.ref 3, .int (nI (rc_hadn V k)), .int (nI k)] [] σ Q' := by
  have e33 : σ 3 3 = nI (V 12 1) := hC.2.1
  have hng := hW.2.1
  intro c
  induction c with
  | zero =>
    intro k hk
    have : k = V 12 1 := by omega
    subst this
    exact rc_go 40 (And.intro (fun _ => h) (fun c => absurd (by rw [e33]; exact nI_le (Nat.le_refl _) (by omega)) c))
  | succ c ih =>
    intro k hk
    have hk5 : k < 5 := by omega
    have hCG := hC.2.2.2.2.2.1 k (by omega)
    have hWg := hW.2.2.2.2.2.1 k (by omega)
    have key := ih (k + 1) (by omega)
    rw [← nI_1, rc_hadn] at key
    have e6 : σ (21 + 2 * k) 0 = nI (V 6 k) := hCG.1
    refine rc_go 40 (And.intro (fun c1 => absurd (by rw [e33] at c1; exact c1) (nI_ge (by omega) (by omega))) (fun _ => ?_))
    refine Exists.intro (21 + 2 * k) (And.intro rfl (And.intro (rc_vi (n := 5) hk5 (by decide)) (And.intro (by rw [rc_ci (by omega)]; exact rc_rho5 _ hk5) ?_)))
    refine Exists.intro (21 + 2 * k) (And.intro rfl (And.intro (rc_vi (n := 5) hk5 (by decide)) (And.intro (by rw [rc_ci (by omega)]; exact rc_rho5 _ hk5) (And.intro (rc_gsf k hk5).1 (And.intro (rc_gsf k hk5).1 ?_)))))
    refine c_wishes e6 h0 hWg.1 (hCG.gs hk5) hWg.2.1 ?_
    refine And.intro (fun c2 => ?_) (fun c2 => ?_)
    · have e : rc_wd V k (V 6 k) = false := rc_bI_0.mp c2
      rw [e] at key
      exact key
    · have e : rc_wd V k (V 6 k) = true := by
        cases hz : rc_wd V k (V 6 k) with
        | true => rfl
        | false => exact absurd (show rc_bI (rc_wd V k (V 6 k)) = 0 by rw [hz]; rfl) c2
      rw [e, show true.toNat = 1 from rfl, ← nI_1] at key
      exact key
theorem c_paid_l (hC : rc_Cls 0 σ V) (hng : V 12 1 ≤ 5) {Q' : Option Value → rc_M → Prop} (h : Q' (some (.int (nI (rc_paid V (V 12 1))))) σ) : ∀ (c k : Nat), k + c = V 12 1 → rc_Tc d 20 4 [.ref 3, .int (nI (rc_paid V k)), .int (nI k)] [] σ Q' := by
  have e33 : σ 3 3 = nI (V 12 1) := hC.2.1
  intro c
  induction c with
  | zero =>
    intro k hk
    have : k = V 12 1 := by omega
    subst this
    exact rc_go 40 (And.intro (fun _ => h) (fun c => absurd (by rw [e33]; exact nI_le (Nat.le_refl _) (by omega)) c))
  | succ c ih =>
    intro k hk
    have hk5 : k < 5 := by omega
    have hCG := hC.2.2.2.2.2.1 k (by omega)
    have key := ih (k + 1) (by omega)
    rw [← nI_1, rc_paid, ← nI_add, ← show σ (21 + 2 * k) 2 = nI (V 8 k) from hCG.2.2.1] at key
    refine rc_go 40 (And.intro (fun c1 => absurd (by rw [e33] at c1; exact c1) (nI_ge (by omega) (by omega))) (fun _ => ?_))
    exact Exists.intro (21 + 2 * k) (And.intro rfl (And.intro (rc_vi (n := 5) hk5 (by decide)) (And.intro (by rw [rc_ci (by omega)]; exact rc_rho5 _ hk5) (And.intro (rc_gsf k hk5).1 key))))
theorem t_had_l {w1 : Value} (hM : rc_Mod σ V) (hW : rc_WF n V) {Q' : Option Value → rc_M → Prop} (h : Q' (some (.int (nI (rc_hadn V (V 12 1))))) σ) : ∀ (c k : Nat), k + c = V 12 1 → rc_Tc (d + 2) 184 65 [.ref 80, w1, .int (nI (rc_hadn V k)), .int (nI k)] [] σ Q' := by
  have e33 : σ 80 8 = nI (V 12 1) := hM.2.1
  have hng := hW.2.1
  intro c
  induction c with
  | zero =>
    intro k hk
    have : k = V 12 1 := by omega
    subst this
    exact rc_go 40 (And.intro (fun _ => h) (fun c => absurd (by rw [e33]; exact nI_le (Nat.le_refl _) (by omega)) c))
  | succ c ih =>
    intro k hk
    have hk5 : k < 5 := by omega
    have hMG := hM.2.2.2.2.2.1 k (by omega)
    have hWg := hW.2.2.2.2.2.1 k (by omega)
    have key := ih (k + 1) (by omega)
    rw [← nI_1, rc_hadn] at key
    refine rc_go 40 (And.intro (fun c1 => absurd (by rw [e33] at c1; exact c1) (nI_ge (by omega) (by omega))) (fun _ => ?_))
    refine And.intro (rc_vi (n := 5) hk5 (by decide)) ?_
    refine t_isHad (V := V) (g := k) (s := V 6 k) (by rw [rc_ci (by omega)]; exact hMG.1) rfl hWg.1 hk5 hMG.2.1 hWg.2.1 ?_
    refine And.intro (fun c2 => ?_) (fun c2 => ?_)
    · have e : rc_wd V k (V 6 k) = false := rc_bI_0.mp c2
      rw [e, show false.toNat = 0 from rfl, ← nI_add] at key
      exact key
    · have e : rc_wd V k (V 6 k) = true := by
        cases hz : rc_wd V k (V 6 k) with
        | true => rfl
        | false => exact absurd (show rc_bI (rc_wd V k (V 6 k)) = 0 by rw [hz]; rfl) c2
      rw [e, show true.toNat = 1 from rfl, ← nI_1] at key
      exact key
theorem t_paid_l {w1 : Value} (hM : rc_Mod σ V) (hng : V 12 1 ≤ 5) {Q' : Option Value → rc_M → Prop} (h : Q' (some (.int (nI (rc_paid V (V 12 1))))) σ) : ∀ (c k : Nat), k + c = V 12 1 → rc_Tc d 184 120 [.ref 80, w1, .int (nI (rc_paid V k)), .int (nI k)] [] σ Q' := by
  have e33 : σ 80 8 = nI (V 12 1) := hM.2.1
  intro c
  induction c with
  | zero =>
    intro k hk
    have : k = V 12 1 := by omega
    subst this
    exact rc_go 40 (And.intro (fun _ => h) (fun c => absurd (by rw [e33]; exact nI_le (Nat.le_refl _) (by omega)) c))
  | succ c ih =>
    intro k hk
    have hk5 : k < 5 := by omega
    have hMG := hM.2.2.2.2.2.1 k (by omega)
    have key := ih (k + 1) (by omega)
    rw [← nI_1, rc_paid, ← nI_add, ← hMG.2.2.1] at key
    refine rc_go 40 (And.intro (fun c1 => absurd (by rw [e33] at c1; exact c1) (nI_ge (by omega) (by omega))) (fun _ => ?_))
    refine And.intro (rc_vi (n := 5) hk5 (by decide)) ?_
    rw [rc_ci (by omega)]
    exact key
theorem rc_r17 {x : Int32} (h1 : ¬ x < 11) (h2 : ¬ 16 < x) : ∃ j, 11 ≤ j ∧ j < 17 ∧ x = nI j := by
  have h0 : ¬ x < 0 := fun z => h1 (Int32.lt_trans z (by decide))
  obtain ⟨k, hk, rfl⟩ := rc_le99 h0 (m := 16) (by decide) (Int32.not_lt.mp h2)
  refine ⟨k, ?_, by omega, rfl⟩
  rcases Nat.lt_or_ge k 11 with z | z
  · exact absurd (nI_lt z (by decide)) h1
  · exact z
theorem rc_16 {x : Int32} : x < 17 ↔ ¬ 16 < x := by
  rw [Int32.lt_iff_toInt_lt, Int32.lt_iff_toInt_lt]
  have e1 : (17 : Int32).toInt = 17 := by decide
  have e0 : (16 : Int32).toInt = 16 := by decide
  rw [e1, e0]
  omega
theorem c_count {x : Int32} (hI : rc_CP σ P) (hW : rc_WP n P) (h : ∀ σ', rc_fC σ σ' → rc_CP σ' (o_count P x).2 → Q (o_count P x).1 σ') : rc_TI (d + 3) 113 [.ref 2, .int x] σ Q := by
  have hC := hI.2.1
  refine rc_go 60 (And.intro (And.intro (fun e => ?_) (And.intro (fun e => ?_) (And.intro (fun e => ?_) (And.intro (fun e => ?_) (And.intro (fun e => ?_) (And.intro (fun e => ?_) (And.intro (fun e => ?_) (And.intro (fun e => ?_) trivial)))))))) (fun e => ?_))
  · have e : x = nI 0 := e
    subst e
    rw [o_count_a (j := 0) (by decide)] at h
    exact ⟨_, rfl, by rw [show σ 3 1 = nI (pV P 12 0) from hC.1]; exact h σ rc_fC.rf hI⟩
  · have e : x = nI 1 := e
    subst e
    rw [o_count_a (j := 1) (by decide)] at h
    exact ⟨_, rfl, by rw [show σ 3 3 = nI (pV P 12 1) from hC.2.1]; exact h σ rc_fC.rf hI⟩
  · have e : x = nI 2 := e
    subst e
    rw [o_count_a (j := 2) (by decide)] at h
    exact ⟨_, rfl, by rw [show σ 3 4 = nI (pV P 12 2) from hC.2.2.1]; exact h σ rc_fC.rf hI⟩
  · have e : x = nI 3 := e
    subst e
    rw [o_count_a (j := 3) (by decide)] at h
    have key : ∀ Q' : Int32 → rc_M → Prop, Q' (nI (rc_hadn (pV P) (pV P 12 1))) σ → rc_TI (d + 2) 19 [.ref 3] σ Q' := fun Q' hq => rc_go 20 (c_had_l hC hI.1 hW.1 ⟨_, rfl, hq⟩ (pV P 12 1) 0 (by omega))
    exact key _ ⟨_, rfl, h σ rc_fC.rf hI⟩
  · have e : x = nI 4 := e
    subst e
    rw [o_count_a (j := 4) (by decide)] at h
    exact ⟨_, rfl, by rw [show σ 3 7 = nI (pV P 12 3) from hC.2.2.2.1]; exact h σ rc_fC.rf hI⟩
  · have e : x = nI 5 := e
    subst e
    rw [o_count_a (j := 5) (by decide)] at h
    exact ⟨_, rfl, by rw [hI.2.2.2.1.1]; exact h σ rc_fC.rf hI⟩
  · have e : x = nI 6 := e
    subst e
    rw [o_count_a (j := 6) (by decide)] at h
    exact ⟨_, rfl, by rw [hI.2.2.1.1]; exact h σ rc_fC.rf hI⟩
  · have e : x = nI 7 := e
    subst e
    rw [o_count_a (j := 7) (by decide)] at h
    have key : ∀ Q' : Int32 → rc_M → Prop, Q' (nI (rc_paid (pV P) (pV P 12 1))) σ → rc_TI (d + 2) 20 [.ref 3] σ Q' := fun Q' hq => rc_go 20 (c_paid_l hC hW.1.2.1 ⟨_, rfl, hq⟩ (pV P 12 1) 0 (by omega))
    exact key _ ⟨_, rfl, h σ rc_fC.rf hI⟩
  · have ho : o_count P x = (a_refs P x, P) := by simp only [o_count, rc_ob_t (rc_ou8 e), cond_true]
    rw [ho] at h
    have key : ∀ Q' : Int32 → rc_M → Prop, Q' (a_refs P x) σ → rc_TI (d + 2) 114 [.ref 2, .int x] σ Q' := fun Q' h' => by
      refine rc_go 40 (And.intro (fun c1 => ⟨_, rfl, ?_⟩) (fun c1 => And.intro (fun c2 => ?_) (fun c2 => ⟨_, rfl, ?_⟩)))
      · simp only [a_refs, if_pos c1] at h'; exact h'
      · have c2' := rc_16.mp c2
        obtain ⟨j, hj1, hj2, rfl⟩ := rc_r17 c1 c2'
        have ej : nI j - 11 + 1 = nI (j - 10) := by
          rw [show nI j = nI ((j - 11) + 11) by rw [show j - 11 + 11 = j by omega], show (11 : Int32) = nI 11 from rfl, rc_asub, nI_1, show j - 11 + 1 = j - 10 by omega]
        refine And.intro (by rw [ej]; exact rc_vi (n := 7) (by omega) (by decide)) ⟨_, rfl, ?_⟩
        simp only [a_refs, if_neg c1, if_neg c2', rc_ci (show j ≤ 2000 by omega)] at h'
        rw [ej, rc_ci (by omega), hI.2.2.2.2.1 _ (by omega)]
        exact h'
      · have c2' : 16 < x := Classical.not_not.mp (fun z => c2 (rc_16.mpr z))
        simp only [a_refs, if_neg c1, if_pos c2'] at h'; exact h'
    exact key _ ⟨_, rfl, h σ rc_fC.rf hI⟩
theorem t_count {x : Int32} (hI : rc_MP σ P) (hW : rc_WP n P) (h : ∀ σ', rc_fM σ σ' → rc_MP σ' (o_count P x).2 → Q (o_count P x).1 σ') : rc_TI (d + 2) 184 [.ref 80, .int x] σ Q := by
  have hC := hI.1
  refine rc_go 60 (And.intro (And.intro (fun e => ?_) (And.intro (fun e => ?_) (And.intro (fun e => ?_) (And.intro (fun e => ?_) (And.intro (fun e => ?_) (And.intro (fun e => ?_) (And.intro (fun e => ?_) (And.intro (fun e => ?_) trivial)))))))) (fun e => ?_))
  · have e : x = nI 0 := e
    subst e
    rw [o_count_a (j := 0) (by decide)] at h
    exact ⟨_, rfl, by rw [hC.1]; exact h σ rc_fM.rf hI⟩
  · have e : x = nI 1 := e
    subst e
    rw [o_count_a (j := 1) (by decide)] at h
    exact ⟨_, rfl, by rw [hC.2.1]; exact h σ rc_fM.rf hI⟩
  · have e : x = nI 2 := e
    subst e
    rw [o_count_a (j := 2) (by decide)] at h
    exact ⟨_, rfl, by rw [hC.2.2.1]; exact h σ rc_fM.rf hI⟩
  · have e : x = nI 3 := e
    subst e
    rw [o_count_a (j := 3) (by decide)] at h
    exact t_had_l hC hW.1 ⟨_, rfl, h σ rc_fM.rf hI⟩ (pV P 12 1) 0 (by omega)
  · have e : x = nI 4 := e
    subst e
    rw [o_count_a (j := 4) (by decide)] at h
    exact ⟨_, rfl, by rw [hC.2.2.2.1]; exact h σ rc_fM.rf hI⟩
  · have e : x = nI 5 := e
    subst e
    rw [o_count_a (j := 5) (by decide)] at h
    exact ⟨_, rfl, by rw [hI.2.2.1.1]; exact h σ rc_fM.rf hI⟩
  · have e : x = nI 6 := e
    subst e
    rw [o_count_a (j := 6) (by decide)] at h
    exact ⟨_, rfl, by rw [hI.2.1.1]; exact h σ rc_fM.rf hI⟩
  · have e : x = nI 7 := e
    subst e
    rw [o_count_a (j := 7) (by decide)] at h
    exact t_paid_l hC hW.1.2.1 ⟨_, rfl, h σ rc_fM.rf hI⟩ (pV P 12 1) 0 (by omega)
  · have ho : o_count P x = (a_refs P x, P) := by simp only [o_count, rc_ob_t (rc_ou8 e), cond_true]
    rw [ho] at h
    have h' := h σ rc_fM.rf hI
    refine And.intro (fun c1 => ⟨_, rfl, ?_⟩) (fun c1 => And.intro (fun c2 => ⟨_, rfl, ?_⟩) (fun c2 => ?_))
    · simp only [a_refs, if_pos c1] at h'; exact h'
    · simp only [a_refs, if_neg c1, if_pos c2] at h'; exact h'
    · obtain ⟨j, hj1, hj2, rfl⟩ := rc_r17 c1 c2
      have ej : nI j - 10 = nI (j - 10) := by
        rw [show nI j = nI ((j - 10) + 10) by rw [show j - 10 + 10 = j by omega], show (10 : Int32) = nI 10 from rfl, rc_asub]
      refine And.intro (by rw [ej]; exact rc_vi (n := 7) (by omega) (by decide)) ⟨_, rfl, ?_⟩
      simp only [a_refs, if_neg c1, if_neg c2, rc_ci (show j ≤ 2000 by omega)] at h'
      rw [ej, rc_ci (by omega), hI.2.2.2.1 _ (by omega)]
      exact h'
end RC7
