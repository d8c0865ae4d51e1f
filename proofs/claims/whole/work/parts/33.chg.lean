/-! the inn with one number changed -/
def rc_vs (V : rc_V) (k i x : Nat) : rc_V := fun k' => if k' = k then va_up (V k) i x else V k'
theorem rc_vs_s (V : rc_V) (k i x : Nat) : rc_vs V k i x k i = x := by simp [rc_vs, va_up]
theorem rc_vs_n (V : rc_V) {k i x j : Nat} (h : j ≠ i) : rc_vs V k i x k j = V k j := by simp [rc_vs, va_up, h]
theorem rc_vs_k (V : rc_V) {k i x k' : Nat} (h : k' ≠ k) : rc_vs V k i x k' = V k' := by simp [rc_vs, h]
theorem rc_CP.mk {n : Nat} {σ σ' : rc_M} {P : rc_P} {V' : rc_V} (hI : rc_CP σ P) (hW : rc_WP n P) (h : rc_Cls 0 σ' V') (e : ∀ k, k ≤ 2 ∨ (31 ≤ k ∧ k ≤ 60 ∧ k ≠ 36) ∨ k = 76 ∨ k = 77 → σ' k = σ k) : rc_CP σ' (pVs P V') := by
  obtain ⟨h1, h2, h3, h4, h5, h6, h7⟩ := hI
  refine ⟨?_, h, ?_, ?_, fun j hj => ?_, ?_, fun hi => (h7 hi).at (hW.2.1 hi).2.1 (fun k _ _ _ => e k (by omega))⟩
  · rw [e _ (by omega)]; exact h1
  · rw [e 59 (by omega), e 60 (by omega)]; exact h3
  · rw [e 2 (by omega), e 76 (by omega)]; exact h4
  · rw [e _ (by omega)]; exact h5 j hj
  · rw [e _ (by omega)]; exact h6
theorem rc_MP.mk {σ σ' : rc_M} {P : rc_P} {V' : rc_V} (hI : rc_MP σ P) (h : rc_Mod σ' V') (e0 : ∀ j, j = 19 ∨ j = 24 ∨ j = 44 → σ' 80 j = σ 80 j) (e : ∀ k, k = 81 ∨ (96 ≤ k ∧ k ≤ 99) ∨ k = 110 → σ' k = σ k) : rc_MP σ' (pVs P V') := by
  obtain ⟨h1, h2, h3, h4, h5, h6, h7, h8⟩ := hI
  refine ⟨h, ?_, ?_, fun j hj => ?_, ?_, fun hi => ?_, ?_, ?_⟩
  · rw [e0 24 (by omega), e 97 (by omega)]; exact h2
  · rw [e0 44 (by omega), e 110 (by omega)]; exact h3
  · rw [e 81 (by omega)]; exact h4 j hj
  · rw [e0 19 (by omega)]; exact h5
  · have e' : rc_thM σ' = rc_thM σ := by funext k j; unfold rc_thM; rw [e 96 (by omega)]
    rw [e']; exact h6 hi
  · rw [e 98 (by omega)]; exact h7
  · rw [e 99 (by omega)]; exact h8
theorem rc_Cls.goes {σ : rc_M} {V : rc_V} {g c : Nat} (h : rc_Cls 0 σ V) (hng : V 12 1 ≤ 5) (hg : g < V 12 1) : rc_Cls 0 (rc_up σ (21 + 2 * g) (upd (σ (21 + 2 * g)) 3 (rc_cI c))) (rc_vs V 9 g c) := by
  obtain ⟨h1, h2, h3, h4, h5, h6, h7⟩ := h
  have e : ∀ k, k ≠ 21 + 2 * g → rc_up σ (21 + 2 * g) (upd (σ (21 + 2 * g)) 3 (rc_cI c)) k = σ k := fun k hk => rc_up_n _ _ hk
  refine ⟨?_, ?_, ?_, ?_, fun i hi => ?_, fun g' hg' => ?_, fun t ht => ?_⟩
  · rw [e _ (by omega)]; exact h1
  · rw [e _ (by omega)]; exact h2
  · rw [e _ (by omega)]; exact h3
  · rw [e _ (by omega)]; exact h4
  · exact (h5 i hi).fr (e _ (by omega)) (e _ (by omega))
  · have hg2 : g' < V 12 1 := hg'
    obtain ⟨a1, a2, a3, a4, a5, a6⟩ := h6 g' hg2
    by_cases z : g' = g
    · subst z
      unfold rc_CG
      rw [show 21 + 2 * g' + 0 = 21 + 2 * g' from rfl, rc_up_s, rc_up_n _ _ (by omega), pk_un (by decide), pk_un (by decide), pk_us, pk_un (by decide), pk_un (by decide), rc_vs_s]
      exact ⟨a1, a2, a3, rfl, a5, a6⟩
    · have key := (h6 g' hg2).fr (σ' := rc_up σ (21 + 2 * g) (upd (σ (21 + 2 * g)) 3 (rc_cI c))) (e _ (by omega)) (e _ (by omega))
      unfold rc_CG
      rw [rc_vs_n _ z]
      exact key
  · rw [e _ (by omega), e _ (by omega)]; exact h7 t ht
theorem rc_Mod.goes {σ : rc_M} {V : rc_V} {g c : Nat} (h : rc_Mod σ V) : rc_Mod (rc_up σ 91 (upd (σ 91) g (rc_cI c))) (rc_vs V 9 g c) := by
  obtain ⟨h1, h2, h3, h4, h5, h6, h7⟩ := h
  refine ⟨h1, h2, h3, h4, h5, fun g' hg' => ?_, h7⟩
  have hg2 : g' < V 12 1 := hg'
  obtain ⟨a1, a2, a3, a4, a5, a6⟩ := h6 g' hg2
  refine ⟨a1, a2, a3, ?_, a5, a6⟩
  rw [rc_up_s]
  by_cases z : g' = g
  · subst z; rw [pk_us, rc_vs_s]
  · rw [pk_un z, rc_vs_n _ z]; exact a4
theorem rc_WF.goes {n : Nat} {V : rc_V} {g c : Nat} (h : rc_WF n V) (hc : c ≤ V 12 0) : rc_WF n (rc_vs V 9 g c) := by
  obtain ⟨h1, h2, h3, h4, h5, h6, h7⟩ := h
  refine ⟨h1, h2, h3, h4, h5, fun g' hg' => ?_, h7⟩
  have hg2 : g' < V 12 1 := hg'
  obtain ⟨a1, a2, a3, a4, a5⟩ := h6 g' hg2
  refine ⟨a1, a2, ?_, a4, a5⟩
  show rc_vs V 9 g c 9 g' ≤ V 12 0
  by_cases z : g' = g
  · subst z; rw [rc_vs_s]; exact hc
  · rw [rc_vs_n _ z]; exact a3
section RC3
variable {d n : Nat} {σ : rc_M} {P : rc_P} {Q : Int32 → rc_M → Prop}
/-! stay -/
def o_stay (P : rc_P) (x : Int32) : Int32 × rc_P := cond (rc_ob x (pV P 12 1)) (o_no P 1) (rc_cI (pV P 9 x.toNatClampNeg), pVs P (rc_vs (pV P) 9 x.toNatClampNeg 0))
theorem o_stay_W {x : Int32} (h : rc_WP n P) : rc_WP n (o_stay P x).2 := by
  unfold o_stay
  cases rc_ob x (pV P 12 1) with
  | true => exact rc_no_W h
  | false => exact ⟨h.1.goes (Nat.zero_le _), h.2⟩
theorem c_stay {x : Int32} (hI : rc_CP σ P) (hW : rc_WP n P) (h : ∀ σ', rc_fC σ σ' → rc_CP σ' (o_stay P x).2 → Q (o_stay P x).1 σ') : rc_TI (d + 1) 88 [.ref 2, .int x] σ Q := by
  have h6 := hW.1.2.1
  refine rc_go 60 (c_hasGuest hI.2.1.2.1 (by omega) (fun ho => ?_) (fun r hr hx => ?_))
  · refine And.intro (fun z => absurd rfl z) (fun _ => ?_)
    exact c_ref (w := 1) (by decide) (by decide) hI hW (by simp only [o_stay, rc_ob_t ho, cond_true]) (fun σ' a b => ⟨_, rfl, h σ' a b⟩)
  · subst hx
    refine And.intro (fun _ => ?_) (fun z => absurd z (by decide))
    have hr6 : r < 5 := by omega
    have hCG := hI.2.1.2.2.2.2.2.1 r hr
    obtain ⟨a1, a2, a3, a4⟩ := rc_gsf r hr6
    have ho : o_stay P (nI r) = (rc_cI (pV P 9 r), pVs P (rc_vs (pV P) 9 r 0)) := by simp only [o_stay, rc_ob_f hr (show _ ≤ 2000 by omega), cond_false, rc_ci (show r ≤ 2000 by omega)]
    rw [ho] at h
    refine Exists.intro (21 + 2 * r) (And.intro rfl (And.intro (rc_vi (n := 5) hr6 (by decide)) (And.intro (by rw [rc_ci (by omega)]; exact rc_rho5 _ hr6) (And.intro a1 ?_))))
    refine Exists.intro (21 + 2 * r) (And.intro rfl (And.intro (rc_vi (n := 5) hr6 (by decide)) (And.intro (by rw [rc_ci (by omega)]; exact rc_rho5 _ hr6) (And.intro a1 ?_))))
    refine ⟨_, rfl, ?_⟩
    rw [show σ (21 + 2 * r) 3 = rc_cI (pV P 9 r) from hCG.2.2.2.1]
    refine h _ (rc_fC.up (by omega)) (hI.mk hW (hI.2.1.goes (c := 0) h6 hr) (fun k hk => rc_up_n _ _ (by omega)))
theorem t_stay {x : Int32} (hI : rc_MP σ P) (hW : rc_WP n P) (h : ∀ σ', rc_fM σ σ' → rc_MP σ' (o_stay P x).2 → Q (o_stay P x).1 σ') : rc_TI (d + 1) 147 [.ref 80, .int x] σ Q := by
  have h6 := hW.1.2.1
  refine rc_go 60 (t_isNoGuest hI.1.2.1 (by omega) (fun ho => ?_) (fun r hr hx => ?_))
  · refine And.intro (fun z => absurd z (by decide)) (fun _ => ?_)
    exact t_ref (w := 1) (by decide) (by decide) hI (by simp only [o_stay, rc_ob_t ho, cond_true]) (fun σ' a b => ⟨_, rfl, h σ' a b⟩)
  · subst hx
    refine And.intro (fun _ => ?_) (fun z => absurd rfl z)
    have ho : o_stay P (nI r) = (rc_cI (pV P 9 r), pVs P (rc_vs (pV P) 9 r 0)) := by simp only [o_stay, rc_ob_f hr (show _ ≤ 2000 by omega), cond_false, rc_ci (show r ≤ 2000 by omega)]
    rw [ho] at h
    refine And.intro (rc_vi (n := 5) (by omega) (by decide)) (And.intro (rc_vi (n := 5) (by omega) (by decide)) ⟨_, rfl, ?_⟩)
    rw [rc_ci (by omega), (hI.1.2.2.2.2.2.1 r hr).2.2.2.1]
    exact h _ (rc_fM.up (by omega)) (hI.mk (hI.1.goes (c := 0)) (fun j _ => by rw [rc_up_n _ _ (by decide)]) (fun k hk => rc_up_n _ _ (by omega)))
/-! makes -/
def o_makes (P : rc_P) (x y z : Int32) : Int32 × rc_P := cond (rc_ob x (pV P 12 0) || rc_ob y 27) (o_no P 1) (if z < 0 then o_no P 4 else if 99 < z then o_no P 6 else (nI (rc_nV (pV P) x.toNatClampNeg y.toNatClampNeg z.toNatClampNeg 0 0 0), P))
theorem o_makes_a {r s m : Nat} (hr : r < pV P 12 0) (h6 : pV P 12 0 ≤ 6) (hs : s < 27) (hm : m ≤ 99) : o_makes P (nI r) (nI s) (nI m) = (nI (rc_nV (pV P) r s m 0 0 0), P) := by
  unfold o_makes
  rw [rc_ob_f hr (by omega), rc_ob_f hs (by omega), rc_ci (by omega), rc_ci (by omega), rc_ci (by omega), if_neg (nI_pos (by omega)), if_neg (show ¬ (99 : Int32) < nI m from nI_nlt (show m ≤ 99 from hm) (by decide))]
  rfl
theorem rc_le99 {z : Int32} (h0 : ¬ z < 0) {m : Nat} (hm : m ≤ 1000) (h : z ≤ nI m) : ∃ k, k ≤ m ∧ z = nI k := by
  rcases rc_out_or z (n := m + 1) (by omega) with (q | q) | ⟨k, hk, e⟩
  · exact absurd q h0
  · exact absurd (Int32.le_trans q h) (nI_ge (show m < m + 1 by omega) (by omega))
  · exact ⟨k, by omega, e⟩
theorem c_makes {x y z : Int32} (hI : rc_CP σ P) (hW : rc_WP n P) (h : ∀ σ', rc_fC σ σ' → rc_CP σ' (o_makes P x y z).2 → Q (o_makes P x y z).1 σ') : rc_TI (d + 4) 90 [.ref 2, .int x, .int y, .int z] σ Q := by
  have h6 := hW.1.1
  refine rc_go 60 (c_hasRoom hI.2.1.1 h6 (fun ho => ?_) (fun r hr hx => ?_))
  · refine And.intro (fun _ => ?_) (fun c => absurd rfl c)
    exact c_ref (w := 1) (by decide) (by decide) hI hW (by simp only [o_makes, rc_ob_t ho, cond_true, Bool.true_or]) (fun σ' a b => ⟨_, rfl, h σ' a b⟩)
  · subst hx
    refine And.intro (fun c => absurd c (by decide)) (fun _ => ?_)
    refine c_isState (fun ho => ?_) (fun s hs hy => ?_)
    · refine And.intro (fun c => absurd rfl c) (fun _ => ?_)
      exact c_ref (w := 1) (by decide) (by decide) hI hW (by simp only [o_makes, rc_ob_t ho, cond_true, Bool.or_true]) (fun σ' a b => ⟨_, rfl, h σ' a b⟩)
    · subst hy
      refine And.intro (fun _ => ?_) (fun c => absurd c (by decide))
      have e1 := rc_ob_f hr (show pV P 12 0 ≤ 2000 by omega)
      have e2 := rc_ob_f hs (show 27 ≤ 2000 by omega)
      refine And.intro (fun c1 => ?_) (fun c1 => ?_)
      · have c1' : ¬ z < 0 := Int32.not_lt.mpr c1
        refine And.intro (fun c2 => ?_) (fun c2 => ?_)
        · obtain ⟨m, hm, rfl⟩ := rc_le99 c1' (m := 99) (by decide) c2
          rw [o_makes_a hr h6 hs hm] at h
          have hr6 : r < 6 := by omega
          have hWr := hW.1.2.2.2.2.1 r hr6
          have hRm := (hI.2.1.2.2.2.2.1 r hr6).rm hr6
          refine Exists.intro (9 + 2 * r) (And.intro rfl (And.intro (rc_vi (n := 6) hr6 (by decide)) (And.intro (by rw [rc_ci (by omega)]; exact rc_rho4 _ hr6) (And.intro hRm.1 ?_))))
          exact c_firstNight rfl rfl hI.1 hs (by omega) hRm hWr.1 hWr.2.1 hWr.2.2.1 ⟨_, rfl, h σ rc_fC.rf hI⟩
        · have c2' : 99 < z := Int32.not_le.mp c2
          exact c_ref (w := 6) (by decide) (by decide) hI hW (by simp only [o_makes, e1, e2, Bool.or_false, cond_false, if_neg c1', if_pos c2']) (fun σ' a b => ⟨_, rfl, h σ' a b⟩)
      · have c1' : z < 0 := Int32.not_le.mp c1
        exact c_ref (w := 4) (by decide) (by decide) hI hW (by simp only [o_makes, e1, e2, Bool.or_false, cond_false, if_pos c1']) (fun σ' a b => ⟨_, rfl, h σ' a b⟩)
theorem t_makes {x y z : Int32} (hI : rc_MP σ P) (hW : rc_WP n P) (h : ∀ σ', rc_fM σ σ' → rc_MP σ' (o_makes P x y z).2 → Q (o_makes P x y z).1 σ') : rc_TI (d + 4) 149 [.ref 80, .int x, .int y, .int z] σ Q := by
  have h6 := hW.1.1
  refine rc_go 60 (t_isNoRoom hI.1.1 h6 (fun ho => ?_) (fun r hr hx => ?_))
  · refine And.intro (fun _ => ?_) (fun c => absurd c (by decide))
    exact t_ref (w := 1) (by decide) (by decide) hI (by simp only [o_makes, rc_ob_t ho, cond_true, Bool.true_or]) (fun σ' a b => ⟨_, rfl, h σ' a b⟩)
  · subst hx
    refine And.intro (fun c => absurd rfl c) (fun _ => ?_)
    refine t_isNoState (fun ho => ?_) (fun s hs hy => ?_)
    · refine And.intro (fun c => absurd c (by decide)) (fun _ => ?_)
      exact t_ref (w := 1) (by decide) (by decide) hI (by simp only [o_makes, rc_ob_t ho, cond_true, Bool.or_true]) (fun σ' a b => ⟨_, rfl, h σ' a b⟩)
    · subst hy
      refine And.intro (fun _ => ?_) (fun c => absurd rfl c)
      have e1 := rc_ob_f hr (show pV P 12 0 ≤ 2000 by omega)
      have e2 := rc_ob_f hs (show 27 ≤ 2000 by omega)
      refine And.intro (fun c1 => ?_) (fun c1 => ?_)
      · have c1' : ¬ z < 0 := Int32.not_lt.mpr c1
        refine And.intro (fun c2 => ?_) (fun c2 => ?_)
        · obtain ⟨m, hm, rfl⟩ := rc_le99 c1' (m := 99) (by decide) c2
          rw [o_makes_a hr h6 hs hm] at h
          have hr6 : r < 6 := by omega
          exact t_makesOf (hc := 0) (uc := 0) rfl rfl rfl rfl rfl hr6 hs (by omega) (by decide) (by decide) (hI.1.2.2.2.2.1 r hr) (hW.1.2.2.2.2.1 r hr6) ⟨_, rfl, h σ rc_fM.rf hI⟩
        · have c2' : 99 < z := Int32.not_le.mp c2
          exact t_ref (w := 6) (by decide) (by decide) hI (by simp only [o_makes, e1, e2, Bool.or_false, cond_false, if_neg c1', if_pos c2']) (fun σ' a b => ⟨_, rfl, h σ' a b⟩)
      · have c1' : z < 0 := Int32.not_le.mp c1
        exact t_ref (w := 4) (by decide) (by decide) hI (by simp only [o_makes, e1, e2, Bool.or_false, cond_false, if_pos c1']) (fun σ' a b => ⟨_, rfl, h σ' a b⟩)
end RC3
