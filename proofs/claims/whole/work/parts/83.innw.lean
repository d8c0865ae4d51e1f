section RJd
variable {d n L : Nat} {t : Nat → Nat} {σ : rc_M} {P : rc_P} {V : rc_V} {Q : Int32 → rc_M → Prop}
/-! rooms and guests come to the model -/
theorem t_cm_39 {b : Nat} {g : Nat → Nat} (hb : b < 6) (e1 : σ 80 1 = nI b) (hg : ∀ v, v < 3 → σ 100 (2 + v) = nI (g v)) {Q' : Option Value → rc_M → Prop} (h : ∀ σ', (∀ k, k ≠ 80 → k ≠ 84 → k ≠ 85 → k ≠ 86 → k ≠ 87 → σ' k = σ k) → (∀ j, j ≠ 1 → σ' 80 j = σ 80 j) → σ' 80 1 = nI (b + 1) → (∀ v, v < 3 → σ' 84 (3 * b + v) = nI (g v)) → (∀ j, j < 3 * b → σ' 84 j = σ 84 j) → (∀ i, σ' 85 i = if i = b then σ 100 5 else σ 85 i) → (∀ i, σ' 86 i = if i = b then σ 100 6 else σ 86 i) → (∀ i, σ' 87 i = if i = b then -9 else σ 87 i) → Q' none σ') : ∀ (c v : Nat) (f : Nat → Int32), v + c = 3 → (∀ u, u < v → f (3 * b + u) = nI (g u)) → (∀ j, j < 3 * b → f j = σ 84 j) → rc_Tc d 136 39 [.ref 80, .int (nI v)] [] (rc_up σ 84 f) Q' := by
  have ec : (nI b).toNatClampNeg = b := rc_ci (by omega)
  have vi : vp_in (nI b) 6 := rc_vi (n := 6) hb (by decide)
  intro c
  induction c with
  | zero =>
    intro v f hv hf hj
    have : v = 3 := by omega
    subst this
    refine rc_go 80 (And.intro (fun _ => ?_) (fun c => absurd (by decide) c))
    refine And.intro (rc_vi (n := 7) (i := 5) (by decide) (by decide)) (And.intro (by rw [rc_up_n _ _ (by decide), e1]; exact vi) ?_)
    refine And.intro (rc_vi (n := 7) (i := 6) (by decide) (by decide)) (And.intro (by rw [rc_up_n _ _ (by decide), rc_up_n _ _ (by decide), e1]; exact vi) ?_)
    refine And.intro (by rw [rc_up_n _ _ (by decide), rc_up_n _ _ (by decide), rc_up_n _ _ (by decide), e1]; exact vi) ?_
    have c5 : (5 : Int32).toNatClampNeg = 5 := by decide
    have c6 : (6 : Int32).toNatClampNeg = 6 := by decide
    refine h _ (fun k k1 k2 k3 k4 k5 => ?_) (fun j hj => ?_) ?_ (fun v hv => ?_) (fun j hj' => ?_) (fun i => ?_) (fun i => ?_) (fun i => ?_)
    · simp only [rc_up, if_neg k1, if_neg k2, if_neg k3, if_neg k4, if_neg k5]
    · simp [rc_up, upd, hj]
    · simp [rc_up, upd, e1, nI_1]
    · simp [rc_up, hf v hv]
    · simp [rc_up, hj j hj']
    · simp [rc_up, upd, e1, ec, c5]
    · simp [rc_up, upd, e1, ec, c6]
    · simp [rc_up, upd, e1, ec]
  | succ c ih =>
    intro v f hv hf hj
    have key := ih (v + 1) (upd f (3 * b + v) (nI (g v))) (by omega) (fun u hu => by
      by_cases e : u = v
      · subst e; exact pk_us
      · rw [pk_un (by omega)]; exact hf u (by omega)) (fun j hj' => by rw [pk_un (by omega)]; exact hj j hj')
    have e3 : (3 : Int32) * nI b + nI v = nI (3 * b + v) := by rw [show (3 : Int32) = nI 3 from rfl, rc_mulN, nI_add]
    have e2 : (2 : Int32) + nI v = nI (2 + v) := nI_add 2 v
    rw [← nI_1] at key
    refine rc_go 60 (And.intro (fun c1 => absurd c1 (nI_ge (show v < 3 by omega) (by decide))) (fun _ => ?_))
    refine And.intro (by rw [e2]; exact rc_vi (n := 7) (by omega) (by decide)) (And.intro (by rw [rc_up_n _ _ (by decide), e1, e3]; exact rc_vi (n := 18) (by omega) (by decide)) ?_)
    rw [rc_up_n (k := 84) (k' := 80) _ _ (by decide), e1, e3, e2, rc_ci (show 3 * b + v ≤ 2000 by omega), rc_ci (show 2 + v ≤ 2000 by omega), rc_up_n (k := 84) (k' := 100) _ _ (by decide), hg v (by omega), rc_up_s, rc_uu]
    exact key
theorem ri_Mod_r {σ' : rc_M} {s : Nat} (h : rc_Mod σ V) (f1 : ∀ k, k ≠ 80 → k < 82 ∨ 87 < k → σ' k = σ k) (f2 : ∀ j, j ≠ 1 → σ' 80 j = σ 80 j) (f3 : σ' 80 1 = nI (V 12 0 + 1)) (f4 : ∀ i, σ' 82 i = if i = V 12 0 then nI (ri_kn (t (s + 1))) else σ 82 i) (f5 : ∀ i, σ' 83 i = if i = V 12 0 then nI (ri_dv t (s + 2)) else σ 83 i) (f6 : ∀ v, v < 3 → σ' 84 (3 * V 12 0 + v) = nI (ri_dv t (s + 3 + v))) (f7 : ∀ j, j < 3 * V 12 0 → σ' 84 j = σ 84 j) (f8 : ∀ i, σ' 85 i = if i = V 12 0 then nI (ri_dv t (s + 6)) else σ 85 i) (f9 : ∀ i, σ' 86 i = if i = V 12 0 then nI (ri_pr t L s) else σ 86 i) (f10 : ∀ i, σ' 87 i = if i = V 12 0 then -9 else σ 87 i) : rc_Mod σ' (ri_ar t L V s) := by
  obtain ⟨h1, h2, h3, h4, h5, h6, h7⟩ := h
  refine ⟨f3, ?_, ?_, ?_, fun i hi => ?_, fun g hg => ?_, fun u hu => ?_⟩
  · rw [f2 8 (by decide)]; exact h2
  · rw [f2 15 (by decide)]; exact h3
  · rw [f2 16 (by decide)]; exact h4
  · have hi : i < V 12 0 + 1 := hi
    by_cases e : i = V 12 0
    · subst e
      refine ⟨?_, ?_, fun v hv => ?_, ?_, ?_, ?_⟩
      · show _ = nI (if V 12 0 = V 12 0 then ri_kn (t (s + 1)) else V 0 (V 12 0)); rw [if_pos rfl, f4, if_pos rfl]
      · show _ = nI (if V 12 0 = V 12 0 then ri_dv t (s + 2) else V 1 (V 12 0)); rw [if_pos rfl, f5, if_pos rfl]
      · show _ = nI (if 3 * V 12 0 ≤ 3 * V 12 0 + v ∧ 3 * V 12 0 + v < 3 * V 12 0 + 3 then ri_dv t (s + 3 + (3 * V 12 0 + v - 3 * V 12 0)) else V 2 (3 * V 12 0 + v))
        rw [if_pos (by omega), show 3 * V 12 0 + v - 3 * V 12 0 = v by omega]; exact f6 v hv
      · show _ = nI (if V 12 0 = V 12 0 then ri_dv t (s + 6) else V 3 (V 12 0)); rw [if_pos rfl, f8, if_pos rfl]
      · show _ = nI (if V 12 0 = V 12 0 then ri_pr t L s else V 4 (V 12 0)); rw [if_pos rfl, f9, if_pos rfl]
      · show _ = rc_cI (if V 12 0 = V 12 0 then 0 else V 5 (V 12 0)); rw [if_pos rfl, f10, if_pos rfl]; rfl
    · obtain ⟨d1, d2, d3, d4, d5, d6⟩ := h5 i (by omega)
      refine ⟨?_, ?_, fun v hv => ?_, ?_, ?_, ?_⟩
      · show _ = nI (if i = V 12 0 then ri_kn (t (s + 1)) else V 0 i); rw [if_neg e, f4, if_neg e]; exact d1
      · show _ = nI (if i = V 12 0 then ri_dv t (s + 2) else V 1 i); rw [if_neg e, f5, if_neg e]; exact d2
      · show _ = nI (if 3 * V 12 0 ≤ 3 * i + v ∧ 3 * i + v < 3 * V 12 0 + 3 then ri_dv t (s + 3 + (3 * i + v - 3 * V 12 0)) else V 2 (3 * i + v))
        rw [if_neg (by omega), f7 _ (by omega)]; exact d3 v hv
      · show _ = nI (if i = V 12 0 then ri_dv t (s + 6) else V 3 i); rw [if_neg e, f8, if_neg e]; exact d4
      · show _ = nI (if i = V 12 0 then ri_pr t L s else V 4 i); rw [if_neg e, f9, if_neg e]; exact d5
      · show _ = rc_cI (if i = V 12 0 then 0 else V 5 i); rw [if_neg e, f10, if_neg e]; exact d6
  · have hg : g < V 12 1 := hg
    obtain ⟨d1, d2, d3, d4, d5, d6⟩ := h6 g hg
    refine ⟨?_, fun v hv => ?_, ?_, ?_, ?_, fun hz => ?_⟩
    · rw [f1 88 (by decide) (by decide)]; exact d1
    · rw [f1 89 (by decide) (by decide)]; exact d2 v hv
    · rw [f1 90 (by decide) (by decide)]; exact d3
    · rw [f1 91 (by decide) (by decide)]; exact d4
    · rw [f1 92 (by decide) (by decide)]; exact d5
    · rw [f1 93 (by decide) (by decide)]; exact d6 hz
  · have hu : u < V 12 3 := hu
    rw [f1 94 (by decide) (by decide), f1 95 (by decide) (by decide)]
    exact h7 u hu
theorem t_come_r {s : Nat} (hM : rc_Mod σ V) (hb : V 12 0 < 6) (hr : ri_lr t L 114 s = true) (hF : ri_fl σ t L s) {Q : rc_M → Prop} (h : ∀ σ', (∀ k, k ≠ 80 → k < 82 ∨ 87 < k → σ' k = σ k) → (∀ j, j ≠ 1 → σ' 80 j = σ 80 j) → rc_Mod σ' (ri_ar t L V s) → Q σ') : rc_TV d 136 [.ref 80] σ Q := by
  obtain ⟨g1, g2, g3, g4⟩ := hF.1 hr
  have ec : (nI (V 12 0)).toNatClampNeg = V 12 0 := rc_ci (by omega)
  have vi : vp_in (nI (V 12 0)) 6 := rc_vi (n := 6) hb (by decide)
  have e1 : σ 80 1 = nI (V 12 0) := hM.1
  refine rc_go 80 (And.intro (fun c => absurd g1 c) (fun _ => ?_))
  refine And.intro (rc_vi (n := 7) (i := 0) (by decide) (by decide)) (And.intro (by rw [e1]; exact vi) ?_)
  refine And.intro (rc_vi (n := 7) (i := 1) (by decide) (by decide)) (And.intro (by rw [rc_up_n _ _ (by decide), e1]; exact vi) ?_)
  have key := fun (σ1 : rc_M) (e : σ1 80 1 = nI (V 12 0)) (hg : ∀ v, v < 3 → σ1 100 (2 + v) = nI (ri_dv t (s + 3 + v))) (Q' : Option Value → rc_M → Prop) hQ => t_cm_39 (d := d) (σ := σ1) (b := V 12 0) (g := fun v => ri_dv t (s + 3 + v)) hb e hg (Q' := Q') hQ 3 0 (σ1 84) rfl (fun u hu => absurd hu (by omega)) (fun _ _ => rfl)
  simp only [rc_ui] at key
  have c0 : (0 : Int32).toNatClampNeg = 0 := by decide
  have c1 : (1 : Int32).toNatClampNeg = 1 := by decide
  refine key _ (by simp [rc_up, e1]) (fun v hv => by
    have := g3 (1 + v) (by omega)
    rw [show 1 + (1 + v) = 2 + v by omega, show s + 2 + (1 + v) = s + 3 + v by omega] at this
    simp only [rc_up]
    exact this) _ (fun σ' f1 f2 f3 f4 f5 f6 f7 f8 => ⟨rfl, h σ' (fun k k1 k2 => ?_) (fun j hj => ?_) (ri_Mod_r hM (fun k k1 k2 => ?_) (fun j hj => ?_) f3 (fun i => ?_) (fun i => ?_) f4 (fun j hj => ?_) (fun i => ?_) (fun i => ?_) (fun i => ?_))⟩)
  · rw [f1 k k1 (by omega) (by omega) (by omega) (by omega), rc_up_n _ _ (by omega), rc_up_n _ _ (by omega)]
  · rw [f2 j hj, rc_up_n _ _ (by decide), rc_up_n _ _ (by decide)]
  · rw [f1 k k1 (by omega) (by omega) (by omega) (by omega), rc_up_n _ _ (by omega), rc_up_n _ _ (by omega)]
  · rw [f2 j hj, rc_up_n _ _ (by decide), rc_up_n _ _ (by decide)]
  · rw [f1 82 (by decide) (by decide) (by decide) (by decide) (by decide)]
    simp only [rc_up, upd, e1, ec, c0]
    simp [g2]
    rfl
  · rw [f1 83 (by decide) (by decide) (by decide) (by decide) (by decide)]
    have g31 := g3 0 (by decide)
    simp only [Nat.add_zero] at g31
    simp only [rc_up, upd, e1, ec, c1]
    simp [e1, ec, g31]
    rfl
  · rw [f5 j hj, rc_up_n _ _ (by decide), rc_up_n _ _ (by decide)]
  · rw [f6 i]
    have g34 := g3 4 (by decide)
    simp [rc_up, g34]
  · rw [f7 i]
    simp [rc_up, g4]
  · rw [f8 i]
    simp [rc_up]
theorem t_cm_162 {b : Nat} {g : Nat → Nat} (hb : b < 5) (e1 : σ 80 8 = nI b) (hg : ∀ v, v < 3 → σ 100 (3 + v) = nI (g v)) {Q' : Option Value → rc_M → Prop} (h : ∀ σ', (∀ k, k ≠ 80 → k ≠ 89 → k ≠ 90 → k ≠ 91 → k ≠ 92 → k ≠ 93 → σ' k = σ k) → (∀ j, j ≠ 8 → σ' 80 j = σ 80 j) → σ' 80 8 = nI (b + 1) → (∀ v, v < 3 → σ' 89 (3 * b + v) = nI (g v)) → (∀ j, j < 3 * b → σ' 89 j = σ 89 j) → (∀ i, σ' 90 i = if i = b then 0 else σ 90 i) → (∀ i, σ' 91 i = if i = b then -9 else σ 91 i) → (∀ i, σ' 92 i = if i = b then -9 else σ 92 i) → (∀ i, i ≠ b → σ' 93 i = σ 93 i) → Q' none σ') : ∀ (c v : Nat) (f : Nat → Int32), v + c = 3 → (∀ u, u < v → f (3 * b + u) = nI (g u)) → (∀ j, j < 3 * b → f j = σ 89 j) → rc_Tc d 136 162 [.ref 80, .int (nI v)] [] (rc_up σ 89 f) Q' := by
  have ec : (nI b).toNatClampNeg = b := rc_ci (by omega)
  have vi : vp_in (nI b) 5 := rc_vi (n := 5) hb (by decide)
  intro c
  induction c with
  | zero =>
    intro v f hv hf hj
    have : v = 3 := by omega
    subst this
    refine rc_go 80 (And.intro (fun _ => ?_) (fun c => absurd (by decide) c))
    refine And.intro (by rw [rc_up_n _ _ (by decide), e1]; exact vi) ?_
    refine And.intro (by rw [rc_up_n _ _ (by decide), rc_up_n _ _ (by decide), e1]; exact vi) ?_
    refine And.intro (by rw [rc_up_n _ _ (by decide), rc_up_n _ _ (by decide), rc_up_n _ _ (by decide), e1]; exact vi) ?_
    refine And.intro (by rw [rc_up_n _ _ (by decide), rc_up_n _ _ (by decide), rc_up_n _ _ (by decide), rc_up_n _ _ (by decide), e1]; exact vi) ?_
    refine h _ (fun k k1 k2 k3 k4 k5 k6 => ?_) (fun j hj => ?_) ?_ (fun v hv => ?_) (fun j hj' => ?_) (fun i => ?_) (fun i => ?_) (fun i => ?_) (fun i hi => ?_)
    · simp only [rc_up, if_neg k1, if_neg k2, if_neg k3, if_neg k4, if_neg k5, if_neg k6]
    · simp [rc_up, upd, hj]
    · simp [rc_up, upd, e1, nI_1]
    · simp [rc_up, hf v hv]
    · simp [rc_up, hj j hj']
    · simp [rc_up, upd, e1, ec]
    · simp [rc_up, upd, e1, ec]
    · simp [rc_up, upd, e1, ec]
    · simp [rc_up, upd, e1, ec, hi]
  | succ c ih =>
    intro v f hv hf hj
    have key := ih (v + 1) (upd f (3 * b + v) (nI (g v))) (by omega) (fun u hu => by
      by_cases e : u = v
      · subst e; exact pk_us
      · rw [pk_un (by omega)]; exact hf u (by omega)) (fun j hj' => by rw [pk_un (by omega)]; exact hj j hj')
    have e3 : (3 : Int32) * nI b + nI v = nI (3 * b + v) := by rw [show (3 : Int32) = nI 3 from rfl, rc_mulN, nI_add]
    have e2 : (3 : Int32) + nI v = nI (3 + v) := nI_add 3 v
    rw [← nI_1] at key
    refine rc_go 60 (And.intro (fun c1 => absurd c1 (nI_ge (show v < 3 by omega) (by decide))) (fun _ => ?_))
    refine And.intro (by rw [e2]; exact rc_vi (n := 7) (by omega) (by decide)) (And.intro (by rw [rc_up_n _ _ (by decide), e1, e3]; exact rc_vi (n := 15) (by omega) (by decide)) ?_)
    rw [rc_up_n (k := 89) (k' := 80) _ _ (by decide), e1, e3, e2, rc_ci (show 3 * b + v ≤ 2000 by omega), rc_ci (show 3 + v ≤ 2000 by omega), rc_up_n (k := 89) (k' := 100) _ _ (by decide), hg v (by omega), rc_up_s, rc_uu]
    exact key
theorem ri_Mod_g {σ' : rc_M} {s : Nat} (h : rc_Mod σ V) (f1 : ∀ k, k ≠ 80 → k < 88 ∨ 93 < k → σ' k = σ k) (f2 : ∀ j, j ≠ 8 → σ' 80 j = σ 80 j) (f3 : σ' 80 8 = nI (V 12 1 + 1)) (f4 : ∀ i, σ' 88 i = if i = V 12 1 then nI (ri_dv t (s + 1) + ri_dv t (s + 2) * 3 + ri_dv t (s + 3) * 9) else σ 88 i) (f6 : ∀ v, v < 3 → σ' 89 (3 * V 12 1 + v) = nI (ri_dv t (s + 4 + v))) (f7 : ∀ j, j < 3 * V 12 1 → σ' 89 j = σ 89 j) (f8 : ∀ i, σ' 90 i = if i = V 12 1 then 0 else σ 90 i) (f9 : ∀ i, σ' 91 i = if i = V 12 1 then -9 else σ 91 i) (f10 : ∀ i, σ' 92 i = if i = V 12 1 then -9 else σ 92 i) (f11 : ∀ i, i ≠ V 12 1 → σ' 93 i = σ 93 i) : rc_Mod σ' (ri_ag t V s) := by
  obtain ⟨h1, h2, h3, h4, h5, h6, h7⟩ := h
  refine ⟨?_, f3, ?_, ?_, fun i hi => ?_, fun g hg => ?_, fun u hu => ?_⟩
  · rw [f2 1 (by decide)]; exact h1
  · rw [f2 15 (by decide)]; exact h3
  · rw [f2 16 (by decide)]; exact h4
  · have hi : i < V 12 0 := hi
    obtain ⟨d1, d2, d3, d4, d5, d6⟩ := h5 i hi
    refine ⟨?_, ?_, fun v hv => ?_, ?_, ?_, ?_⟩
    · rw [f1 82 (by decide) (by decide)]; exact d1
    · rw [f1 83 (by decide) (by decide)]; exact d2
    · rw [f1 84 (by decide) (by decide)]; exact d3 v hv
    · rw [f1 85 (by decide) (by decide)]; exact d4
    · rw [f1 86 (by decide) (by decide)]; exact d5
    · rw [f1 87 (by decide) (by decide)]; exact d6
  · have hg : g < V 12 1 + 1 := hg
    by_cases e : g = V 12 1
    · subst e
      refine ⟨?_, fun v hv => ?_, ?_, ?_, ?_, fun hz => ?_⟩
      · show _ = nI (if V 12 1 = V 12 1 then ri_dv t (s + 1) + ri_dv t (s + 2) * 3 + ri_dv t (s + 3) * 9 else V 6 (V 12 1)); rw [if_pos rfl, f4, if_pos rfl]
      · show _ = nI (if 3 * V 12 1 ≤ 3 * V 12 1 + v ∧ 3 * V 12 1 + v < 3 * V 12 1 + 3 then ri_dv t (s + 4 + (3 * V 12 1 + v - 3 * V 12 1)) else V 7 (3 * V 12 1 + v))
        rw [if_pos (by omega), show 3 * V 12 1 + v - 3 * V 12 1 = v by omega]; exact f6 v hv
      · show _ = nI (if V 12 1 = V 12 1 then 0 else V 8 (V 12 1)); rw [if_pos rfl, f8, if_pos rfl]; rfl
      · show _ = rc_cI (if V 12 1 = V 12 1 then 0 else V 9 (V 12 1)); rw [if_pos rfl, f9, if_pos rfl]; rfl
      · show _ = rc_cI (if V 12 1 = V 12 1 then 0 else V 10 (V 12 1)); rw [if_pos rfl, f10, if_pos rfl]; rfl
      · exact absurd (show (if V 12 1 = V 12 1 then 0 else V 10 (V 12 1)) = 0 by rw [if_pos rfl]) hz
    · obtain ⟨d1, d2, d3, d4, d5, d6⟩ := h6 g (by omega)
      refine ⟨?_, fun v hv => ?_, ?_, ?_, ?_, fun hz => ?_⟩
      · show _ = nI (if g = V 12 1 then ri_dv t (s + 1) + ri_dv t (s + 2) * 3 + ri_dv t (s + 3) * 9 else V 6 g); rw [if_neg e, f4, if_neg e]; exact d1
      · show _ = nI (if 3 * V 12 1 ≤ 3 * g + v ∧ 3 * g + v < 3 * V 12 1 + 3 then ri_dv t (s + 4 + (3 * g + v - 3 * V 12 1)) else V 7 (3 * g + v))
        rw [if_neg (by omega), f7 _ (by omega)]; exact d2 v hv
      · show _ = nI (if g = V 12 1 then 0 else V 8 g); rw [if_neg e, f8, if_neg e]; exact d3
      · show _ = rc_cI (if g = V 12 1 then 0 else V 9 g); rw [if_neg e, f9, if_neg e]; exact d4
      · show _ = rc_cI (if g = V 12 1 then 0 else V 10 g); rw [if_neg e, f10, if_neg e]; exact d5
      · have hz : (if g = V 12 1 then 0 else V 10 g) ≠ 0 := hz
        rw [if_neg e] at hz
        rw [f11 g e]; exact d6 hz
  · have hu : u < V 12 3 := hu
    rw [f1 94 (by decide) (by decide), f1 95 (by decide) (by decide)]
    exact h7 u hu
theorem t_come_g {s : Nat} (hM : rc_Mod σ V) (hb : V 12 1 < 5) (hr : ri_lr t L 114 s = false) (hF : ri_fl σ t L s) {Q : rc_M → Prop} (h : ∀ σ', (∀ k, k ≠ 80 → k < 88 ∨ 93 < k → σ' k = σ k) → (∀ j, j ≠ 8 → σ' 80 j = σ 80 j) → rc_Mod σ' (ri_ag t V s) → Q σ') : rc_TV d 136 [.ref 80] σ Q := by
  obtain ⟨g1, g3⟩ := hF.2 hr
  have ec : (nI (V 12 1)).toNatClampNeg = V 12 1 := rc_ci (by omega)
  have vi : vp_in (nI (V 12 1)) 5 := rc_vi (n := 5) hb (by decide)
  have e1 : σ 80 8 = nI (V 12 1) := hM.2.1
  refine rc_go 80 (And.intro (fun _ => ?_) (fun c => absurd (show σ 80 29 = 0 from c) (by rw [g1]; decide)))
  refine And.intro (rc_vi (n := 7) (i := 0) (by decide) (by decide)) (And.intro (rc_vi (n := 7) (i := 1) (by decide) (by decide)) (And.intro (rc_vi (n := 7) (i := 2) (by decide) (by decide)) (And.intro (by rw [e1]; exact vi) ?_)))
  have key := fun (σ1 : rc_M) (e : σ1 80 8 = nI (V 12 1)) (hg : ∀ v, v < 3 → σ1 100 (3 + v) = nI (ri_dv t (s + 4 + v))) (Q' : Option Value → rc_M → Prop) hQ => t_cm_162 (d := d) (σ := σ1) (b := V 12 1) (g := fun v => ri_dv t (s + 4 + v)) hb e hg (Q' := Q') hQ 3 0 (σ1 89) rfl (fun u hu => absurd hu (by omega)) (fun _ _ => rfl)
  simp only [rc_ui] at key
  have c0 : (0 : Int32).toNatClampNeg = 0 := by decide
  have c1 : (1 : Int32).toNatClampNeg = 1 := by decide
  have c2 : (2 : Int32).toNatClampNeg = 2 := by decide
  refine key _ (by simp [rc_up, e1]) (fun v hv => by
    have := g3 (3 + v) (by omega)
    rw [show s + 1 + (3 + v) = s + 4 + v by omega] at this
    simp only [rc_up]
    exact this) _ (fun σ' f1 f2 f3 f4 f5 f6 f7 f8 f9 => ⟨rfl, h σ' (fun k k1 k2 => ?_) (fun j hj => ?_) (ri_Mod_g hM (fun k k1 k2 => ?_) (fun j hj => ?_) f3 (fun i => ?_) f4 (fun j hj => ?_) (fun i => ?_) (fun i => ?_) (fun i => ?_) (fun i hi => ?_))⟩)
  · rw [f1 k k1 (by omega) (by omega) (by omega) (by omega) (by omega), rc_up_n _ _ (by omega)]
  · rw [f2 j hj, rc_up_n _ _ (by decide)]
  · rw [f1 k k1 (by omega) (by omega) (by omega) (by omega) (by omega), rc_up_n _ _ (by omega)]
  · rw [f2 j hj, rc_up_n _ _ (by decide)]
  · rw [f1 88 (by decide) (by decide) (by decide) (by decide) (by decide) (by decide)]
    have a0 : σ 100 0 = nI (ri_dv t (s + 1)) := g3 0 (by decide)
    have a1 : σ 100 1 = nI (ri_dv t (s + 2)) := g3 1 (by decide)
    have a2 : σ 100 2 = nI (ri_dv t (s + 3)) := g3 2 (by decide)
    have ee : nI (ri_dv t (s + 1)) + 3 * nI (ri_dv t (s + 2)) + 9 * nI (ri_dv t (s + 3)) = nI (ri_dv t (s + 1) + ri_dv t (s + 2) * 3 + ri_dv t (s + 3) * 9) := by
      rw [show (3 : Int32) = nI 3 from rfl, show (9 : Int32) = nI 9 from rfl, rc_mulN, rc_mulN, nI_add, nI_add, Nat.mul_comm 3, Nat.mul_comm 9]
    simp only [rc_up, upd, e1, ec, c0, c1, c2, a0, a1, a2, ee, if_true]
  · rw [f5 j hj, rc_up_n _ _ (by decide)]
  · rw [f6 i, rc_up_n _ _ (by decide)]
  · rw [f7 i, rc_up_n _ _ (by decide)]
  · rw [f8 i, rc_up_n _ _ (by decide)]
  · rw [f9 i hi, rc_up_n _ _ (by decide)]
end RJd
