section RC6
variable {d n : Nat} {σ : rc_M} {P : rc_P} {V : rc_V} {Q : Int32 → rc_M → Prop}
/-! sleep: the beds that are free in a room, but for one guest -/
def rc_free (V : rc_V) (r g : Nat) : Nat → Int32
  | 0 => nI (V 3 r)
  | k + 1 => if k ≠ g ∧ V 9 k = r + 1 then rc_free V r g k - 1 else rc_free V r g k
def o_sleep (P : rc_P) (x y : Int32) : Int32 × rc_P := cond (rc_ob x (pV P 12 1) || rc_ob y (pV P 12 0)) (o_no P 1) (if 0 < rc_free (pV P) y.toNatClampNeg x.toNatClampNeg (pV P 12 1) then (rc_free (pV P) y.toNatClampNeg x.toNatClampNeg (pV P 12 1) - 1, pVs P (rc_vs (pV P) 9 x.toNatClampNeg (y.toNatClampNeg + 1))) else o_no P 3)
theorem o_sleep_W {x y : Int32} (h : rc_WP n P) : rc_WP n (o_sleep P x y).2 := by
  have h5 := h.1.2.1
  have h6 := h.1.1
  rcases rc_out_or x (n := pV P 12 1) (by omega) with q | ⟨i, hi, rfl⟩
  · simp only [o_sleep, rc_ob_t q, Bool.true_or, cond_true]; exact rc_no_W h
  rcases rc_out_or y (n := pV P 12 0) (by omega) with q | ⟨j, hj, rfl⟩
  · simp only [o_sleep, rc_ob_t q, Bool.or_true, cond_true]; exact rc_no_W h
  simp only [o_sleep, rc_ob_f hi (show _ ≤ 2000 by omega), rc_ob_f hj (show _ ≤ 2000 by omega), Bool.or_false, cond_false, rc_ci (show i ≤ 2000 by omega), rc_ci (show j ≤ 2000 by omega)]
  split
  · exact ⟨h.1.goes (by omega), h.2⟩
  · exact rc_no_W h
theorem rc_1le {x : Int32} : 1 ≤ x ↔ 0 < x := by
  rw [Int32.le_iff_toInt_le, Int32.lt_iff_toInt_lt]
  have e1 : (1 : Int32).toInt = 1 := by decide
  have e0 : (0 : Int32).toInt = 0 := by decide
  rw [e1, e0]
  omega
theorem rc_cIn {c r : Nat} (hc : c < 1000) (hr : r < 900) : rc_cI c = nI r ↔ c = r + 1 := rc_cI_inj (b := r + 1) hc (by omega)
theorem c_free_l {r g : Nat} (hC : rc_Cls 0 σ V) (hng : V 12 1 ≤ 5) (hr : r < 6) (hWg : ∀ k, k < V 12 1 → V 9 k ≤ 6) {Q' : Option Value → rc_M → Prop} (h : Q' (some (.int (rc_free V r g (V 12 1)))) σ) (hg : g < 1000) : ∀ (c k : Nat), k + c = V 12 1 → rc_Tc d 14 13 [.ref 3, .int (nI r), .int (nI g), .int (rc_free V r g k), .int (nI k)] [] σ Q' := by
  have e33 : σ 3 3 = nI (V 12 1) := hC.2.1
  intro c
  induction c with
  | zero =>
    intro k hk
    have : k = V 12 1 := by omega
    subst this
    exact rc_go 40 (And.intro (fun _ => h) (fun c => absurd (by rw [e33]; exact nI_le (Nat.le_refl _) (by omega)) c))
  | succ c ih =>
    intro k hk
    have hk5 : k < 5 := by omega
    have hCG := hC.2.2.2.2.2.1 k (by omega)
    have key := ih (k + 1) (by omega)
    rw [← nI_1, rc_free] at key
    refine rc_go 40 (And.intro (fun c1 => absurd (by rw [e33] at c1; exact c1) (nI_ge (by omega) (by omega))) (fun _ => ?_))
    refine And.intro (fun c2 => ?_) (fun c2 => ?_)
    · have z : k = g := (nI_eq (by omega) (by omega)).mp c2
      rw [if_neg (fun q => q.1 z)] at key
      exact key
    · have z : k ≠ g := fun z => c2 (by rw [z])
      refine Exists.intro (21 + 2 * k) (And.intro rfl (And.intro (rc_vi (n := 5) hk5 (by decide)) (And.intro (by rw [rc_ci (by omega)]; exact rc_rho5 _ hk5) (And.intro (rc_gsf k hk5).1 ?_))))
      have e3 : σ (21 + 2 * k) 3 = rc_cI (V 9 k) := hCG.2.2.2.1
      have h9 := hWg k (by omega)
      refine And.intro (fun c3 => ?_) (fun c3 => ?_)
      · rw [e3] at c3
        have z2 : ¬ V 9 k = r + 1 := fun q => c3 ((rc_cIn (by omega) (by omega)).mpr q)
        rw [if_neg (fun q => z2 q.2)] at key
        exact key
      · rw [e3] at c3
        have z2 : V 9 k = r + 1 := (rc_cIn (by omega) (by omega)).mp c3
        rw [if_pos ⟨z, z2⟩, Int32.sub_eq_add_neg] at key
        exact key
theorem t_free_l {r g : Nat} (hC : rc_Mod σ V) (hng : V 12 1 ≤ 5) (hr : r < 6) (hWg : ∀ k, k < V 12 1 → V 9 k ≤ 6) {Q' : Option Value → rc_M → Prop} (hg : g < 1000) (h : rc_Tc d 146 32 [.ref 80, .int (nI g), .int (nI r), .int (rc_free V r g (V 12 1)), .int (nI (V 12 1))] [] σ Q') : ∀ (c k : Nat), k + c = V 12 1 → rc_Tc d 146 32 [.ref 80, .int (nI g), .int (nI r), .int (rc_free V r g k), .int (nI k)] [] σ Q' := by
  have e33 : σ 80 8 = nI (V 12 1) := hC.2.1
  intro c
  induction c with
  | zero =>
    intro k hk
    have : k = V 12 1 := by omega
    subst this
    exact h
  | succ c ih =>
    intro k hk
    have hk5 : k < 5 := by omega
    have hCG := hC.2.2.2.2.2.1 k (by omega)
    have key := ih (k + 1) (by omega)
    rw [← nI_1, rc_free] at key
    refine rc_go 40 (And.intro (fun c1 => absurd (by rw [e33] at c1; exact c1) (nI_ge (by omega) (by omega))) (fun _ => ?_))
    refine And.intro (fun c2 => ?_) (fun c2 => ?_)
    · have z : k = g := (nI_eq (by omega) (by omega)).mp c2
      rw [if_neg (fun q => q.1 z), ← Int32.sub_zero (rc_free V r g k)] at key
      exact key
    · have z : k ≠ g := fun z => c2 (by rw [z])
      refine And.intro (rc_vi (n := 5) hk5 (by decide)) ?_
      have e3 : σ 91 (nI k).toNatClampNeg = rc_cI (V 9 k) := by rw [rc_ci (by omega)]; exact hCG.2.2.2.1
      have h9 := hWg k (by omega)
      refine And.intro (fun c3 => ?_) (fun c3 => ?_)
      · rw [e3] at c3
        have z2 : ¬ V 9 k = r + 1 := fun q => c3 ((rc_cIn (by omega) (by omega)).mpr q)
        rw [if_neg (fun q => z2 q.2), ← Int32.sub_zero (rc_free V r g k)] at key
        exact key
      · rw [e3] at c3
        have z2 : V 9 k = r + 1 := (rc_cIn (by omega) (by omega)).mp c3
        rw [if_pos ⟨z, z2⟩] at key
        exact key
theorem c_sleep {x y : Int32} (hI : rc_CP σ P) (hW : rc_WP n P) (h : ∀ σ', rc_fC σ σ' → rc_CP σ' (o_sleep P x y).2 → Q (o_sleep P x y).1 σ') : rc_TI (d + 1) 87 [.ref 2, .int x, .int y] σ Q := by
  have h5 := hW.1.2.1
  have h6 := hW.1.1
  refine rc_go 60 (c_hasGuest hI.2.1.2.1 (by omega) (fun ho => ?_) (fun g hg hx => ?_))
  · refine And.intro (fun _ => ?_) (fun c => absurd rfl c)
    exact c_ref (w := 1) (by decide) (by decide) hI hW (by simp only [o_sleep, rc_ob_t ho, cond_true, Bool.true_or]) (fun σ' a b => ⟨_, rfl, h σ' a b⟩)
  · subst hx
    refine And.intro (fun c => absurd c (by decide)) (fun _ => ?_)
    refine c_hasRoom hI.2.1.1 h6 (fun ho => ?_) (fun r hr hy => ?_)
    · refine And.intro (fun c => absurd rfl c) (fun _ => ?_)
      exact c_ref (w := 1) (by decide) (by decide) hI hW (by simp only [o_sleep, rc_ob_t ho, cond_true, Bool.or_true]) (fun σ' a b => ⟨_, rfl, h σ' a b⟩)
    · subst hy
      refine And.intro (fun _ => ?_) (fun c => absurd c (by decide))
      have hr6 : r < 6 := by omega
      have hg5 : g < 5 := by omega
      have hWg : ∀ k, k < pV P 12 1 → pV P 9 k ≤ 6 := fun k hk => Nat.le_trans (hW.1.2.2.2.2.2.1 k hk).2.2.1 h6
      have e1 := rc_ob_f hg (show pV P 12 1 ≤ 2000 by omega)
      have e2 := rc_ob_f hr (show pV P 12 0 ≤ 2000 by omega)
      have hfb : ∀ Q' : Int32 → rc_M → Prop, Q' (rc_free (pV P) r g (pV P 12 1)) σ → rc_TI d 14 [.ref 3, .int (nI r), .int (nI g)] σ Q' := fun Q' hq => by
        refine rc_go 20 (Exists.intro (9 + 2 * r) (And.intro rfl (And.intro (rc_vi (n := 6) hr6 (by decide)) (And.intro (by rw [rc_ci (by omega)]; exact rc_rho4 _ hr6) (And.intro (rc_rmf r hr6).1 ?_)))))
        rw [show σ (9 + 2 * r) 3 = nI (pV P 3 r) from (hI.2.1.2.2.2.2.1 r hr6).2.2.2.1]
        exact c_free_l hI.2.1 h5 hr6 hWg ⟨_, rfl, hq⟩ (by omega) (pV P 12 1) 0 (by omega)
      refine hfb _ (And.intro (fun c1 => ?_) (fun c1 => ?_))
      · have c1' := rc_1le.mp c1
        have ho : o_sleep P (nI g) (nI r) = (rc_free (pV P) r g (pV P 12 1) - 1, pVs P (rc_vs (pV P) 9 g (r + 1))) := by simp only [o_sleep, e1, e2, Bool.or_false, cond_false, rc_ci (show g ≤ 2000 by omega), rc_ci (show r ≤ 2000 by omega), if_pos c1']
        rw [ho] at h
        refine Exists.intro (21 + 2 * g) (And.intro rfl (And.intro (rc_vi (n := 5) hg5 (by decide)) (And.intro (by rw [rc_ci (by omega)]; exact rc_rho5 _ hg5) (And.intro (rc_gsf g hg5).1 ⟨_, rfl, ?_⟩))))
        exact h _ (rc_fC.up (by omega)) (hI.mk hW (hI.2.1.goes (c := r + 1) h5 hg) (fun k hk => rc_up_n _ _ (by omega)))
      · have c1' : ¬ 0 < rc_free (pV P) r g (pV P 12 1) := fun z => c1 (rc_1le.mpr z)
        exact c_ref (w := 3) (by decide) (by decide) hI hW (by simp only [o_sleep, e1, e2, Bool.or_false, cond_false, rc_ci (show g ≤ 2000 by omega), rc_ci (show r ≤ 2000 by omega), if_neg c1']) (fun σ' a b => ⟨_, rfl, h σ' a b⟩)
theorem t_sleep {x y : Int32} (hI : rc_MP σ P) (hW : rc_WP n P) (h : ∀ σ', rc_fM σ σ' → rc_MP σ' (o_sleep P x y).2 → Q (o_sleep P x y).1 σ') : rc_TI (d + 1) 146 [.ref 80, .int x, .int y] σ Q := by
  have h5 := hW.1.2.1
  have h6 := hW.1.1
  refine rc_go 60 (t_isNoGuest hI.1.2.1 (by omega) (fun ho => ?_) (fun g hg hx => ?_))
  · refine And.intro (fun _ => ?_) (fun c => absurd c (by decide))
    exact t_ref (w := 1) (by decide) (by decide) hI (by simp only [o_sleep, rc_ob_t ho, cond_true, Bool.true_or]) (fun σ' a b => ⟨_, rfl, h σ' a b⟩)
  · subst hx
    refine And.intro (fun c => absurd rfl c) (fun _ => ?_)
    refine t_isNoRoom hI.1.1 h6 (fun ho => ?_) (fun r hr hy => ?_)
    · refine And.intro (fun c => absurd c (by decide)) (fun _ => ?_)
      exact t_ref (w := 1) (by decide) (by decide) hI (by simp only [o_sleep, rc_ob_t ho, cond_true, Bool.or_true]) (fun σ' a b => ⟨_, rfl, h σ' a b⟩)
    · subst hy
      refine And.intro (fun _ => ?_) (fun c => absurd rfl c)
      have hr6 : r < 6 := by omega
      have hg5 : g < 5 := by omega
      have hWg : ∀ k, k < pV P 12 1 → pV P 9 k ≤ 6 := fun k hk => Nat.le_trans (hW.1.2.2.2.2.2.1 k hk).2.2.1 h6
      have e1 := rc_ob_f hg (show pV P 12 1 ≤ 2000 by omega)
      have e2 := rc_ob_f hr (show pV P 12 0 ≤ 2000 by omega)
      refine And.intro (rc_vi (n := 6) hr6 (by decide)) ?_
      rw [rc_ci (by omega), (hI.1.2.2.2.2.1 r hr).2.2.2.1]
      refine t_free_l hI.1 h5 hr6 hWg (by omega) ?_ (pV P 12 1) 0 (by omega)
      refine rc_go 40 (And.intro (fun _ => ?_) (fun c => absurd (by rw [hI.1.2.1]; exact nI_le (Nat.le_refl _) (by omega)) c))
      refine And.intro (fun c1 => ?_) (fun c1 => ?_)
      · have ho : o_sleep P (nI g) (nI r) = (rc_free (pV P) r g (pV P 12 1) - 1, pVs P (rc_vs (pV P) 9 g (r + 1))) := by simp only [o_sleep, e1, e2, Bool.or_false, cond_false, rc_ci (show g ≤ 2000 by omega), rc_ci (show r ≤ 2000 by omega), if_pos c1]
        rw [ho] at h
        refine And.intro (rc_vi (n := 5) hg5 (by decide)) ⟨_, rfl, ?_⟩
        rw [rc_ci (by omega)]
        exact h _ (rc_fM.up (by omega)) (hI.mk (hI.1.goes (c := r + 1)) (fun j _ => by rw [rc_up_n _ _ (by decide)]) (fun k hk => rc_up_n _ _ (by omega)))
      · exact t_ref (w := 3) (by decide) (by decide) hI (by simp only [o_sleep, e1, e2, Bool.or_false, cond_false, rc_ci (show g ≤ 2000 by omega), rc_ci (show r ≤ 2000 by omega), if_neg c1]) (fun σ' a b => ⟨_, rfl, h σ' a b⟩)
end RC6
