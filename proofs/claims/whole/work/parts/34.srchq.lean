theorem rc_ob_hi {w : Int32} {m : Nat} (hm : m < 1000) (h : ¬ w ≤ nI m) : rc_ob w (m + 1) = true := by
  rcases rc_out_or w (n := m + 1) (by omega) with q | ⟨j, hj, rfl⟩
  · exact rc_ob_t q
  · exact absurd (nI_le (by omega) (by omega)) h
theorem rc_ob_lo {w : Int32} {m : Nat} (h : w < 0) : rc_ob w m = true := rc_ob_t (Or.inl h)
def a_few (V : rc_V) (s g : Nat) : Int32 := match rc_so V s g 0 5 with
  | none => -9
  | some q => nI q.1
def a_chp (V : rc_V) (s g : Nat) : Int32 := match rc_so V s g 1 5 with
  | none => -9
  | some q => nI (rc_cst V q.1 q.2)
def a_rof (V : rc_V) (s g w : Nat) (i : Int32) : Int32 := match rc_so V s g w 5 with
  | none => -9
  | some q => if nI q.1 ≤ i then -9 else nI (rc_dg (V 12 0) q.1 q.2 i.toNatClampNeg)
def o_fewest (P : rc_P) (x y : Int32) : Int32 × rc_P := cond (rc_ob x 27 || rc_ob y (pV P 12 1)) (o_no P 1) (a_few (pV P) x.toNatClampNeg y.toNatClampNeg, P)
def o_cheapest (P : rc_P) (x y : Int32) : Int32 × rc_P := cond (rc_ob x 27 || rc_ob y (pV P 12 1)) (o_no P 1) (a_chp (pV P) x.toNatClampNeg y.toNatClampNeg, P)
def o_rowOf (P : rc_P) (x y w i : Int32) : Int32 × rc_P := cond (rc_ob x 27 || rc_ob y (pV P 12 1)) (o_no P 1) (cond (rc_ob w 2) (o_no P 2) (if i < 0 then o_no P 4 else (a_rof (pV P) x.toNatClampNeg y.toNatClampNeg w.toNatClampNeg i, P)))
theorem rc_k5c : ∀ k, k ∈ rc_k5s → k = 8 ∨ k = 36 ∨ (61 ≤ k ∧ k ≤ 75) ∨ 78 ≤ k := by simp [rc_k5s]
theorem rc_k5d : ∀ k, k ∈ rc_k5s → k ≠ 1 ∧ k < 80 := by simp [rc_k5s]
section RF
variable {d n : Nat} {σ : rc_M} {P : rc_P} {Q : Int32 → rc_M → Prop}
theorem c_fewest {x y : Int32} (hI : rc_CP σ P) (hW : rc_WP n P) (h : ∀ σ', rc_fC σ σ' → rc_CP σ' (o_fewest P x y).2 → Q (o_fewest P x y).1 σ') : rc_TI (d + 6) 91 [.ref 2, .int x, .int y] σ Q := by
  have h6 := hW.1.2.1
  refine rc_go 60 (c_isState (fun ho => ?_) (fun s hs hx => ?_))
  · refine And.intro (fun _ => ?_) (fun c => absurd rfl c)
    exact c_ref (w := 1) (by decide) (by decide) hI hW (by simp only [o_fewest, rc_ob_t ho, cond_true, Bool.true_or]) (fun σ' a b => ⟨_, rfl, h σ' a b⟩)
  · subst hx
    refine And.intro (fun c => absurd c (by decide)) (fun _ => ?_)
    refine c_hasGuest hI.2.1.2.1 (by omega) (fun ho => ?_) (fun g hg hy => ?_)
    · refine And.intro (fun c => absurd rfl c) (fun _ => ?_)
      exact c_ref (w := 1) (by decide) (by decide) hI hW (by simp only [o_fewest, rc_ob_t ho, cond_true, Bool.or_true]) (fun σ' a b => ⟨_, rfl, h σ' a b⟩)
    · subst hy
      refine And.intro (fun _ => ?_) (fun c => absurd c (by decide))
      have hg5 : g < 5 := by omega
      have ho : o_fewest P (nI s) (nI g) = (a_few (pV P) s g, P) := by simp only [o_fewest, rc_ob_f hs (show 27 ≤ 2000 by omega), rc_ob_f hg (show _ ≤ 2000 by omega), Bool.or_false, cond_false, rc_ci (show s ≤ 2000 by omega), rc_ci (show g ≤ 2000 by omega)]
      rw [ho] at h
      refine Exists.intro (21 + 2 * g) (And.intro rfl (And.intro (rc_vi (n := 5) hg5 (by decide)) (And.intro (by rw [rc_ci (by omega)]; exact rc_rho5 _ hg5) ?_)))
      refine c_shortest (g := g) rfl hs (hI.CA hW) ((hI.2.1.2.2.2.2.2.1 g hg).gs hg5) (by omega) (hW.1.2.2.2.2.2.1 g hg) (fun σ' hf hS => ⟨_, rfl, ?_⟩)
      have h' := h σ' (hf.fC rc_k5d) (hI.fr hW hf rc_k5c)
      dsimp only [a_few] at h'
      revert hS h'
      match rc_so (pV P) s g 0 5 with
      | none => intro hS h'; rw [hS.1]; exact h'
      | some q => intro hS h'; rw [hS.2.1]; exact h'
theorem c_cheapest {x y : Int32} (hI : rc_CP σ P) (hW : rc_WP n P) (h : ∀ σ', rc_fC σ σ' → rc_CP σ' (o_cheapest P x y).2 → Q (o_cheapest P x y).1 σ') : rc_TI (d + 6) 92 [.ref 2, .int x, .int y] σ Q := by
  have h6 := hW.1.2.1
  refine rc_go 60 (c_isState (fun ho => ?_) (fun s hs hx => ?_))
  · refine And.intro (fun _ => ?_) (fun c => absurd rfl c)
    exact c_ref (w := 1) (by decide) (by decide) hI hW (by simp only [o_cheapest, rc_ob_t ho, cond_true, Bool.true_or]) (fun σ' a b => ⟨_, rfl, h σ' a b⟩)
  · subst hx
    refine And.intro (fun c => absurd c (by decide)) (fun _ => ?_)
    refine c_hasGuest hI.2.1.2.1 (by omega) (fun ho => ?_) (fun g hg hy => ?_)
    · refine And.intro (fun c => absurd rfl c) (fun _ => ?_)
      exact c_ref (w := 1) (by decide) (by decide) hI hW (by simp only [o_cheapest, rc_ob_t ho, cond_true, Bool.or_true]) (fun σ' a b => ⟨_, rfl, h σ' a b⟩)
    · subst hy
      refine And.intro (fun _ => ?_) (fun c => absurd c (by decide))
      have hg5 : g < 5 := by omega
      have ho : o_cheapest P (nI s) (nI g) = (a_chp (pV P) s g, P) := by simp only [o_cheapest, rc_ob_f hs (show 27 ≤ 2000 by omega), rc_ob_f hg (show _ ≤ 2000 by omega), Bool.or_false, cond_false, rc_ci (show s ≤ 2000 by omega), rc_ci (show g ≤ 2000 by omega)]
      rw [ho] at h
      refine Exists.intro (21 + 2 * g) (And.intro rfl (And.intro (rc_vi (n := 5) hg5 (by decide)) (And.intro (by rw [rc_ci (by omega)]; exact rc_rho5 _ hg5) ?_)))
      refine c_leastPaid (g := g) rfl hs (hI.CA hW) ((hI.2.1.2.2.2.2.2.1 g hg).gs hg5) (by omega) (hW.1.2.2.2.2.2.1 g hg) (fun σ' hf hS => ⟨_, rfl, ?_⟩)
      have h' := h σ' (hf.fC rc_k5d) (hI.fr hW hf rc_k5c)
      dsimp only [a_chp] at h'
      revert hS h'
      match rc_so (pV P) s g 1 5 with
      | none => intro hS h'; rw [hS.2]; exact h'
      | some q => intro hS h'; rw [hS.2.2.1]; exact h'
theorem t_fewest {x y : Int32} (hI : rc_MP σ P) (hW : rc_WP n P) (h : ∀ σ', rc_fM σ σ' → rc_MP σ' (o_fewest P x y).2 → Q (o_fewest P x y).1 σ') : rc_TI (d + 6) 155 [.ref 80, .int x, .int y] σ Q := by
  have h6 := hW.1.2.1
  refine rc_go 60 (t_isNoState (fun ho => ?_) (fun s hs hx => ?_))
  · refine And.intro (fun _ => ?_) (fun c => absurd c (by decide))
    exact t_ref (w := 1) (by decide) (by decide) hI (by simp only [o_fewest, rc_ob_t ho, cond_true, Bool.true_or]) (fun σ' a b => ⟨_, rfl, h σ' a b⟩)
  · subst hx
    refine And.intro (fun c => absurd rfl c) (fun _ => ?_)
    refine t_isNoGuest hI.1.2.1 (by omega) (fun ho => ?_) (fun g hg hy => ?_)
    · refine And.intro (fun c => absurd c (by decide)) (fun _ => ?_)
      exact t_ref (w := 1) (by decide) (by decide) hI (by simp only [o_fewest, rc_ob_t ho, cond_true, Bool.or_true]) (fun σ' a b => ⟨_, rfl, h σ' a b⟩)
    · subst hy
      refine And.intro (fun _ => ?_) (fun c => absurd rfl c)
      have ho : o_fewest P (nI s) (nI g) = (a_few (pV P) s g, P) := by simp only [o_fewest, rc_ob_f hs (show 27 ≤ 2000 by omega), rc_ob_f hg (show _ ≤ 2000 by omega), Bool.or_false, cond_false, rc_ci (show s ≤ 2000 by omega), rc_ci (show g ≤ 2000 by omega)]
      rw [ho] at h
      refine t_search (what := 0) rfl rfl rfl hs hg h6 (hW.1.2.2.2.2.2.1 g hg) hI.1 hW.1.1 hW.1.2.2.2.2.1 (by decide) (fun σ' hf hS => ?_)
      have h' := h σ' hf.fM (hI.fq hf)
      dsimp only [a_few] at h'
      revert hS h'
      match rc_so (pV P) s g 0 5 with
      | none => intro hS h'; exact And.intro (fun c => absurd c (by rw [hS.1]; decide)) (fun _ => ⟨_, rfl, h'⟩)
      | some q => intro hS h'; exact And.intro (fun _ => ⟨_, rfl, by rw [hS.2.1]; exact h'⟩) (fun c => absurd (by rw [hS.2.1]; exact nI_pos' (by have := hS.1; omega)) c)
theorem t_cheapest {x y : Int32} (hI : rc_MP σ P) (hW : rc_WP n P) (h : ∀ σ', rc_fM σ σ' → rc_MP σ' (o_cheapest P x y).2 → Q (o_cheapest P x y).1 σ') : rc_TI (d + 6) 156 [.ref 80, .int x, .int y] σ Q := by
  have h6 := hW.1.2.1
  refine rc_go 60 (t_isNoState (fun ho => ?_) (fun s hs hx => ?_))
  · refine And.intro (fun _ => ?_) (fun c => absurd c (by decide))
    exact t_ref (w := 1) (by decide) (by decide) hI (by simp only [o_cheapest, rc_ob_t ho, cond_true, Bool.true_or]) (fun σ' a b => ⟨_, rfl, h σ' a b⟩)
  · subst hx
    refine And.intro (fun c => absurd rfl c) (fun _ => ?_)
    refine t_isNoGuest hI.1.2.1 (by omega) (fun ho => ?_) (fun g hg hy => ?_)
    · refine And.intro (fun c => absurd c (by decide)) (fun _ => ?_)
      exact t_ref (w := 1) (by decide) (by decide) hI (by simp only [o_cheapest, rc_ob_t ho, cond_true, Bool.or_true]) (fun σ' a b => ⟨_, rfl, h σ' a b⟩)
    · subst hy
      refine And.intro (fun _ => ?_) (fun c => absurd rfl c)
      have ho : o_cheapest P (nI s) (nI g) = (a_chp (pV P) s g, P) := by simp only [o_cheapest, rc_ob_f hs (show 27 ≤ 2000 by omega), rc_ob_f hg (show _ ≤ 2000 by omega), Bool.or_false, cond_false, rc_ci (show s ≤ 2000 by omega), rc_ci (show g ≤ 2000 by omega)]
      rw [ho] at h
      refine t_search (what := 1) rfl rfl rfl hs hg h6 (hW.1.2.2.2.2.2.1 g hg) hI.1 hW.1.1 hW.1.2.2.2.2.1 (by decide) (fun σ' hf hS => ?_)
      have h' := h σ' hf.fM (hI.fq hf)
      dsimp only [a_chp] at h'
      revert hS h'
      match rc_so (pV P) s g 1 5 with
      | none => intro hS h'; exact And.intro (fun c => absurd c (by rw [hS.1]; decide)) (fun _ => ⟨_, rfl, h'⟩)
      | some q => intro hS h'; exact And.intro (fun _ => ⟨_, rfl, by rw [hS.2.2.1]; exact h'⟩) (fun c => absurd (by rw [hS.2.1]; exact nI_pos' (by have := hS.1; omega)) c)
theorem rc_rof_c {s g w : Nat} {i : Int32} {σ' : rc_M} (hi : ¬ i < 0) (hS : rc_SC σ' (pV P) (rc_so (pV P) s g w 5)) (f : Nat) {Q2 : Option Value → rc_M → Prop} (k9 : σ' 65 2 ≤ i → a_rof (pV P) s g w i = -9) : ¬ σ' 65 2 ≤ i → vp_in i 6 ∧ σ' 66 i.toNatClampNeg = a_rof (pV P) s g w i := by
  intro c
  revert hS k9
  unfold a_rof
  match rc_so (pV P) s g w 5 with
  | none =>
    intro hS _
    rw [hS.1] at c
    exact absurd (Int32.le_trans (show (-9 : Int32) ≤ 0 by decide) (Int32.not_lt.mp hi)) c
  | some q =>
    intro hS _
    rw [hS.2.1] at c
    rcases rc_out_or i (n := q.1) (by have := hS.1; omega) with (z | z) | ⟨j, hj, rfl⟩
    · exact absurd z hi
    · exact absurd z c
    · have hq := hS.1
      dsimp only
      rw [if_neg c, rc_ci (by omega)]
      exact ⟨rc_vi (n := 6) (by omega) (by decide), hS.2.2.2 j hj⟩
theorem rc_rof_9 {s g w : Nat} {i : Int32} {σ' : rc_M} (hS : rc_SC σ' (pV P) (rc_so (pV P) s g w 5)) (c : σ' 65 2 ≤ i) : a_rof (pV P) s g w i = -9 := by
  revert hS
  unfold a_rof
  match rc_so (pV P) s g w 5 with
  | none => intro _; rfl
  | some q => intro hS; rw [hS.2.1] at c; dsimp only; rw [if_pos c]
theorem rc_rof_m {s g w : Nat} {i : Int32} {σ' : rc_M} (hi : ¬ i < 0) (hS : rc_SM σ' (pV P) (rc_so (pV P) s g w 5)) : (σ' 80 35 ≤ i → a_rof (pV P) s g w i = -9) ∧ (¬ σ' 80 35 ≤ i → vp_in i 4 ∧ σ' 104 i.toNatClampNeg = a_rof (pV P) s g w i) := by
  revert hS
  unfold a_rof
  match rc_so (pV P) s g w 5 with
  | none =>
    intro hS
    refine ⟨fun _ => rfl, fun c => ?_⟩
    rw [hS.1] at c
    exact absurd (Int32.le_trans (show (-1 : Int32) ≤ 0 by decide) (Int32.not_lt.mp hi)) c
  | some q =>
    intro hS
    rw [hS.2.1]
    refine ⟨fun c => by dsimp only; rw [if_pos c], fun c => ?_⟩
    rcases rc_out_or i (n := q.1) (by have := hS.1; omega) with (z | z) | ⟨j, hj, rfl⟩
    · exact absurd z hi
    · exact absurd z c
    · have hq := hS.1
      dsimp only
      rw [if_neg c, rc_ci (by omega)]
      exact ⟨rc_vi (n := 4) (by omega) (by decide), hS.2.2.2 j hj⟩
theorem c_rowOf {x y w i : Int32} (hI : rc_CP σ P) (hW : rc_WP n P) (h : ∀ σ', rc_fC σ σ' → rc_CP σ' (o_rowOf P x y w i).2 → Q (o_rowOf P x y w i).1 σ') : rc_TI (d + 6) 93 [.ref 2, .int x, .int y, .int w, .int i] σ Q := by
  have h6 := hW.1.2.1
  refine rc_go 80 (c_isState (fun ho => ?_) (fun s hs hx => ?_))
  · refine And.intro (fun _ => ?_) (fun c => absurd rfl c)
    exact c_ref (w := 1) (by decide) (by decide) hI hW (by simp only [o_rowOf, rc_ob_t ho, cond_true, Bool.true_or]) (fun σ' a b => ⟨_, rfl, h σ' a b⟩)
  · subst hx
    refine And.intro (fun c => absurd c (by decide)) (fun _ => ?_)
    refine c_hasGuest hI.2.1.2.1 (by omega) (fun ho => ?_) (fun g hg hy => ?_)
    · refine And.intro (fun c => absurd rfl c) (fun _ => ?_)
      exact c_ref (w := 1) (by decide) (by decide) hI hW (by simp only [o_rowOf, rc_ob_t ho, cond_true, Bool.or_true]) (fun σ' a b => ⟨_, rfl, h σ' a b⟩)
    · subst hy
      refine And.intro (fun _ => ?_) (fun c => absurd c (by decide))
      have hg5 : g < 5 := by omega
      have e1 := rc_ob_f hs (show 27 ≤ 2000 by omega)
      have e2 := rc_ob_f hg (show pV P 12 1 ≤ 2000 by omega)
      refine And.intro (fun c1 => ?_) (fun c1 => And.intro (fun c2 => ?_) (fun c2 => ?_))
      · exact c_ref (w := 2) (by decide) (by decide) hI hW (by simp only [o_rowOf, e1, e2, Bool.or_false, cond_false, rc_ob_lo c1, cond_true]) (fun σ' a b => ⟨_, rfl, h σ' a b⟩)
      · obtain ⟨k, hk, rfl⟩ := rc_le99 c1 (m := 1) (by decide) c2
        have e3 := rc_ob_f (show k < 2 by omega) (show 2 ≤ 2000 by omega)
        refine And.intro (fun c3 => ?_) (fun c3 => ?_)
        · have c3' : ¬ i < 0 := Int32.not_lt.mpr c3
          have ho : o_rowOf P (nI s) (nI g) (nI k) i = (a_rof (pV P) s g k i, P) := by simp only [o_rowOf, e1, e2, e3, Bool.or_false, cond_false, if_neg c3', rc_ci (show s ≤ 2000 by omega), rc_ci (show g ≤ 2000 by omega), rc_ci (show k ≤ 2000 by omega)]
          rw [ho] at h
          refine And.intro (fun c4 => ?_) (fun c4 => ?_)
          · have hk1 : k = 1 := by
              rcases (show k = 0 ∨ k = 1 by omega) with rfl | rfl
              · exact absurd rfl c4
              · rfl
            subst hk1
            refine Exists.intro (21 + 2 * g) (And.intro rfl (And.intro (rc_vi (n := 5) hg5 (by decide)) (And.intro (by rw [rc_ci (by omega)]; exact rc_rho5 _ hg5) ?_)))
            refine c_leastPaid (g := g) rfl hs (hI.CA hW) ((hI.2.1.2.2.2.2.2.1 g hg).gs hg5) (by omega) (hW.1.2.2.2.2.2.1 g hg) (fun σ' hf hS => ?_)
            have h' := h σ' (hf.fC rc_k5d) (hI.fr hW hf rc_k5c)
            refine And.intro (fun c5 => ⟨_, rfl, ?_⟩) (fun c5 => ?_)
            · rw [rc_rof_9 hS c5] at h'; exact h'
            · obtain ⟨v1, v2⟩ := rc_rof_c (Q2 := fun _ _ => True) c3' hS 0 (rc_rof_9 hS) c5
              exact And.intro v1 ⟨_, rfl, by rw [v2]; exact h'⟩
          · have hk1 : k = 0 := (nI_eq (by omega) (by decide)).mp (show nI k = nI 0 from c4)
            subst hk1
            refine Exists.intro (21 + 2 * g) (And.intro rfl (And.intro (rc_vi (n := 5) hg5 (by decide)) (And.intro (by rw [rc_ci (by omega)]; exact rc_rho5 _ hg5) ?_)))
            refine c_shortest (g := g) rfl hs (hI.CA hW) ((hI.2.1.2.2.2.2.2.1 g hg).gs hg5) (by omega) (hW.1.2.2.2.2.2.1 g hg) (fun σ' hf hS => ?_)
            have h' := h σ' (hf.fC rc_k5d) (hI.fr hW hf rc_k5c)
            refine And.intro (fun c5 => ⟨_, rfl, ?_⟩) (fun c5 => ?_)
            · rw [rc_rof_9 hS c5] at h'; exact h'
            · obtain ⟨v1, v2⟩ := rc_rof_c (Q2 := fun _ _ => True) c3' hS 0 (rc_rof_9 hS) c5
              exact And.intro v1 ⟨_, rfl, by rw [v2]; exact h'⟩
        · have c3' : i < 0 := Int32.not_le.mp c3
          exact c_ref (w := 4) (by decide) (by decide) hI hW (by simp only [o_rowOf, e1, e2, e3, Bool.or_false, cond_false, if_pos c3']) (fun σ' a b => ⟨_, rfl, h σ' a b⟩)
      · exact c_ref (w := 2) (by decide) (by decide) hI hW (by simp only [o_rowOf, e1, e2, Bool.or_false, cond_false, rc_ob_hi (m := 1) (by decide) c2, cond_true]) (fun σ' a b => ⟨_, rfl, h σ' a b⟩)
theorem t_rowOf {x y w i : Int32} (hI : rc_MP σ P) (hW : rc_WP n P) (h : ∀ σ', rc_fM σ σ' → rc_MP σ' (o_rowOf P x y w i).2 → Q (o_rowOf P x y w i).1 σ') : rc_TI (d + 6) 157 [.ref 80, .int x, .int y, .int w, .int i] σ Q := by
  have h6 := hW.1.2.1
  refine rc_go 80 (t_isNoState (fun ho => ?_) (fun s hs hx => ?_))
  · refine And.intro (fun _ => ?_) (fun c => absurd c (by decide))
    exact t_ref (w := 1) (by decide) (by decide) hI (by simp only [o_rowOf, rc_ob_t ho, cond_true, Bool.true_or]) (fun σ' a b => ⟨_, rfl, h σ' a b⟩)
  · subst hx
    refine And.intro (fun c => absurd rfl c) (fun _ => ?_)
    refine t_isNoGuest hI.1.2.1 (by omega) (fun ho => ?_) (fun g hg hy => ?_)
    · refine And.intro (fun c => absurd c (by decide)) (fun _ => ?_)
      exact t_ref (w := 1) (by decide) (by decide) hI (by simp only [o_rowOf, rc_ob_t ho, cond_true, Bool.or_true]) (fun σ' a b => ⟨_, rfl, h σ' a b⟩)
    · subst hy
      refine And.intro (fun _ => ?_) (fun c => absurd rfl c)
      have e1 := rc_ob_f hs (show 27 ≤ 2000 by omega)
      have e2 := rc_ob_f hg (show pV P 12 1 ≤ 2000 by omega)
      refine And.intro (fun c1 => ?_) (fun c1 => And.intro (fun c2 => ?_) (fun c2 => ?_))
      · exact t_ref (w := 2) (by decide) (by decide) hI (by simp only [o_rowOf, e1, e2, Bool.or_false, cond_false, rc_ob_lo c1, cond_true]) (fun σ' a b => ⟨_, rfl, h σ' a b⟩)
      · obtain ⟨k, hk, rfl⟩ := rc_le99 c1 (m := 1) (by decide) c2
        have e3 := rc_ob_f (show k < 2 by omega) (show 2 ≤ 2000 by omega)
        refine And.intro (fun c3 => ?_) (fun c3 => ?_)
        · have c3' : ¬ i < 0 := Int32.not_lt.mpr c3
          have ho : o_rowOf P (nI s) (nI g) (nI k) i = (a_rof (pV P) s g k i, P) := by simp only [o_rowOf, e1, e2, e3, Bool.or_false, cond_false, if_neg c3', rc_ci (show s ≤ 2000 by omega), rc_ci (show g ≤ 2000 by omega), rc_ci (show k ≤ 2000 by omega)]
          rw [ho] at h
          refine t_search (what := k) rfl rfl rfl hs hg h6 (hW.1.2.2.2.2.2.1 g hg) hI.1 hW.1.1 hW.1.2.2.2.2.1 hk (fun σ' hf hS => ?_)
          have h' := h σ' hf.fM (hI.fq hf)
          obtain ⟨v9, v0⟩ := rc_rof_m (i := i) c3' hS
          refine And.intro (fun c5 => ⟨_, rfl, ?_⟩) (fun c5 => ?_)
          · rw [v9 c5] at h'; exact h'
          · obtain ⟨v1, v2⟩ := v0 c5
            exact And.intro v1 ⟨_, rfl, by rw [v2]; exact h'⟩
        · have c3' : i < 0 := Int32.not_le.mp c3
          exact t_ref (w := 4) (by decide) (by decide) hI (by simp only [o_rowOf, e1, e2, e3, Bool.or_false, cond_false, if_pos c3']) (fun σ' a b => ⟨_, rfl, h σ' a b⟩)
      · exact t_ref (w := 2) (by decide) (by decide) hI (by simp only [o_rowOf, e1, e2, Bool.or_false, cond_false, rc_ob_hi (m := 1) (by decide) c2, cond_true]) (fun σ' a b => ⟨_, rfl, h σ' a b⟩)
end RF
