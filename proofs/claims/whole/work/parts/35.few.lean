section RC5
variable {d n : Nat} {σ : rc_M} {P : rc_P} {Q : Int32 → rc_M → Prop}
/-! row -/
def o_row (P : rc_P) (c : Int32) : Int32 × rc_P := if c < 0 then o_no P 4 else if 9 < c ∨ ptl P = 6 then o_no P 6 else (nI (ptl P + 1), (P.1, P.2.1, P.2.2.1, P.2.2.2.1, P.2.2.2.2.1, va_up (ptd P) (ptl P) c.toNatClampNeg, ptl P + 1, prf P))
theorem o_row_W {c : Int32} (h : rc_WP n P) : rc_WP n (o_row P c).2 := by
  unfold o_row
  split
  · exact rc_no_W h
  · split
    · exact rc_no_W h
    · rename_i h1 h2
      obtain ⟨a1, a2, a3, a4, a5⟩ := h
      refine ⟨a1, a2, a3, ?_, fun j hj => ?_⟩
      · show ptl P + 1 ≤ 6
        have : ¬ ptl P = 6 := fun z => h2 (Or.inr z)
        omega
      · show va_up (ptd P) (ptl P) c.toNatClampNeg j ≤ 9
        have hj' : j < ptl P + 1 := hj
        unfold va_up
        split
        · have : ¬ 9 < c := fun z => h2 (Or.inl z)
          obtain ⟨k, hk, e⟩ := rc_le99 h1 (m := 9) (by decide) (Int32.not_lt.mp this)
          rw [e, rc_ci (by omega)]; omega
        · exact a5 j (by omega)
theorem rc_upd_self (f : Nat → Int32) (j : Nat) : upd f j (f j) = f := by
  funext i
  by_cases z : i = j
  · subst z; exact pk_us
  · exact pk_un z
theorem c_row {c : Int32} (hI : rc_CP σ P) (hW : rc_WP n P) (h : ∀ σ', rc_fC σ σ' → rc_CP σ' (o_row P c).2 → Q (o_row P c).1 σ') : rc_TI (d + 1) 109 [.ref 2, .int c] σ Q := by
  have hl := hW.2.2.2.1
  have e2 := hI.2.2.2.1.1
  refine rc_go 60 (And.intro (fun c1 => ?_) (fun c1 => ?_))
  · have c1' : ¬ c < 0 := Int32.not_lt.mpr c1
    refine And.intro (fun c2 => ?_) (fun c2 => ?_)
    · exact c_ref (w := 6) (by decide) (by decide) hI hW (by simp only [o_row, if_neg c1', if_pos (Or.inl c2)]) (fun σ' a b => ⟨_, rfl, h σ' a b⟩)
    · refine And.intro (fun c3 => ?_) (fun c3 => ?_)
      · have c3' : ptl P < 6 := by
          rw [e2] at c3
          exact (nI_ltI (by omega) (by decide)).mp (show nI (ptl P) < nI 6 from c3)
        have ho : o_row P c = (nI (ptl P + 1), (P.1, P.2.1, P.2.2.1, P.2.2.2.1, P.2.2.2.2.1, va_up (ptd P) (ptl P) c.toNatClampNeg, ptl P + 1, prf P)) := by simp only [o_row, if_neg c1', if_neg (show ¬ (9 < c ∨ ptl P = 6) from fun z => z.elim c2 (by omega))]
        rw [ho] at h
        refine And.intro (by rw [e2]; exact rc_vi (n := 6) c3' (by decide)) ⟨_, rfl, ?_⟩
        rw [rc_up_s, pk_us, rc_up_n _ _ (show 2 ≠ 76 by decide), e2, nI_1, rc_ci (by omega)]
        refine h _ ((rc_fC.up (by omega)).tr (rc_fC.up (by omega))) ?_
        have e : ∀ k, k ≠ 76 → k ≠ 2 → rc_up (rc_up σ 76 (upd (σ 76) (ptl P) c)) 2 (upd (σ 2) 10 (nI (ptl P + 1))) k = σ k := fun k h1 h2 => by rw [rc_up_n _ _ h2, rc_up_n _ _ h1]
        obtain ⟨h1, h2, h3, h4, h5, h6, h7⟩ := hI
        refine ⟨?_, h2.at hW.1.2.1 (fun k _ _ _ => e k (by omega) (by omega)), ?_, ⟨?_, fun j hj => ?_⟩, fun j hj => ?_, ?_, fun hi => (h7 hi).at (hW.2.1 hi).2.1 (fun k _ _ _ => e k (by omega) (by omega))⟩
        · rw [e _ (by omega) (by omega)]; exact h1
        · rw [e 59 (by omega) (by omega), e 60 (by omega) (by omega)]; exact h3
        · rw [rc_up_s, pk_us]
        · have hj' : j < ptl P + 1 := hj
          rw [rc_up_n _ _ (show 76 ≠ 2 by decide), rc_up_s]
          show _ = nI (va_up (ptd P) (ptl P) c.toNatClampNeg j)
          unfold va_up
          by_cases z : j = ptl P
          · subst z; rw [pk_us, if_pos rfl, rc_c_nn c1']
          · rw [pk_un z, if_neg z]; exact h4.2 j (by omega)
        · rw [e 77 (by omega) (by omega)]; exact h5 j hj
        · rw [rc_up_s, pk_un (by decide)]; exact h6
      · have c3' : ptl P = 6 := by
          rcases Nat.lt_or_ge (ptl P) 6 with z | z
          · exact absurd (by rw [e2]; exact nI_lt z (by decide)) c3
          · omega
        exact c_ref (w := 6) (by decide) (by decide) hI hW (by simp only [o_row, if_neg c1', if_pos (Or.inr c3')]) (fun σ' a b => ⟨_, rfl, h σ' a b⟩)
  · have c1' : c < 0 := Int32.not_le.mp c1
    exact c_ref (w := 4) (by decide) (by decide) hI hW (by simp only [o_row, if_pos c1']) (fun σ' a b => ⟨_, rfl, h σ' a b⟩)
theorem t_row {c : Int32} (hI : rc_MP σ P) (hW : rc_WP n P) (h : ∀ σ', rc_fM σ σ' → rc_MP σ' (o_row P c).2 → Q (o_row P c).1 σ') : rc_TI (d + 1) 182 [.ref 80, .int c] σ Q := by
  have hl := hW.2.2.2.1
  have e2 := hI.2.2.1.1
  refine rc_go 60 (And.intro (fun c1 => ?_) (fun c1 => ?_))
  · have c1' : ¬ c < 0 := Int32.not_lt.mpr c1
    refine And.intro (fun c2 => ?_) (fun c2 => ?_)
    · exact t_ref (w := 6) (by decide) (by decide) hI (by simp only [o_row, if_neg c1', if_pos (Or.inl c2)]) (fun σ' a b => ⟨_, rfl, h σ' a b⟩)
    · refine And.intro (fun c3 => ?_) (fun c3 => ?_)
      · have c3' : ¬ ptl P = 6 := fun z => c3 (by rw [e2, z]; rfl)
        have ho : o_row P c = (nI (ptl P + 1), (P.1, P.2.1, P.2.2.1, P.2.2.2.1, P.2.2.2.2.1, va_up (ptd P) (ptl P) c.toNatClampNeg, ptl P + 1, prf P)) := by simp only [o_row, if_neg c1', if_neg (show ¬ (9 < c ∨ ptl P = 6) from fun z => z.elim c2 (by omega))]
        rw [ho] at h
        refine And.intro (by rw [e2]; exact rc_vi (n := 6) (by omega) (by decide)) ⟨_, rfl, ?_⟩
        rw [rc_up_s, pk_us, rc_up_n _ _ (show 80 ≠ 110 by decide), e2, nI_1, rc_ci (by omega)]
        refine h _ ((rc_fM.up (by omega)).tr (rc_fM.up (by omega))) ?_
        have key : rc_MP (rc_up (rc_up σ 110 (σ 110)) 80 (upd (σ 80) 44 (σ 80 44))) P := by
          rw [rc_ui, rc_upd_self, rc_ui]
          exact hI
        obtain ⟨h1, h2, h3, h4, h5, h6, h7, h8⟩ := hI
        refine ⟨key.1, key.2.1, ⟨?_, fun j hj => ?_⟩, h4, key.2.2.2.2.1, h6, h7, h8⟩
        · rw [rc_up_s, pk_us]
        · have hj' : j < ptl P + 1 := hj
          rw [rc_up_n _ _ (show 110 ≠ 80 by decide), rc_up_s]
          show _ = nI (va_up (ptd P) (ptl P) c.toNatClampNeg j)
          unfold va_up
          by_cases z : j = ptl P
          · subst z; rw [pk_us, if_pos rfl, rc_c_nn c1']
          · rw [pk_un z, if_neg z]; exact h3.2 j (by omega)
      · have c3' : ptl P = 6 := (nI_eq (by omega) (by decide)).mp (show nI (ptl P) = nI 6 from by rw [← e2]; exact c3)
        exact t_ref (w := 6) (by decide) (by decide) hI (by simp only [o_row, if_neg c1', if_pos (Or.inr c3')]) (fun σ' a b => ⟨_, rfl, h σ' a b⟩)
  · have c1' : c < 0 := Int32.not_le.mp c1
    exact t_ref (w := 4) (by decide) (by decide) hI (by simp only [o_row, if_pos c1']) (fun σ' a b => ⟨_, rfl, h σ' a b⟩)
/-! trial -/
def rc_vt (V : rc_V) (x y : Nat) : rc_V := rc_vs (rc_vs (rc_vs V 13 (V 12 3) x) 14 (V 12 3) y) 12 3 (V 12 3 + 1)
def o_trial (P : rc_P) (x y : Int32) : Int32 × rc_P := cond (rc_ob x 27 || rc_ob y 27) (o_no P 1) (if pV P 12 3 = 6 then o_no P 6 else (nI (pV P 12 3 + 1), pVs P (rc_vt (pV P) x.toNatClampNeg y.toNatClampNeg)))
theorem rc_vt13 (V : rc_V) (x y : Nat) : rc_vt V x y 13 = va_up (V 13) (V 12 3) x := rfl
theorem rc_vt14 (V : rc_V) (x y : Nat) : rc_vt V x y 14 = va_up (V 14) (V 12 3) y := rfl
theorem rc_vt12 (V : rc_V) (x y : Nat) : rc_vt V x y 12 = va_up (V 12) 3 (V 12 3 + 1) := rfl
theorem o_trial_W {x y : Int32} (h : rc_WP n P) : rc_WP n (o_trial P x y).2 := by
  rcases rc_out_or x (n := 27) (by omega) with q | ⟨i, hi, rfl⟩
  · simp only [o_trial, rc_ob_t q, Bool.true_or, cond_true]; exact rc_no_W h
  rcases rc_out_or y (n := 27) (by omega) with q | ⟨j, hj, rfl⟩
  · simp only [o_trial, rc_ob_t q, Bool.or_true, cond_true]; exact rc_no_W h
  simp only [o_trial, rc_ob_f hi (show 27 ≤ 2000 by omega), rc_ob_f hj (show 27 ≤ 2000 by omega), Bool.or_false, cond_false, rc_ci (show i ≤ 2000 by omega), rc_ci (show j ≤ 2000 by omega)]
  split
  · exact rc_no_W h
  · rename_i h6
    obtain ⟨⟨a1, a2, a3, a4, a5, a6, a7⟩, b⟩ := h
    refine ⟨⟨a1, a2, a3, ?_, a5, a6, fun t ht => ?_⟩, b⟩
    · show pV P 12 3 + 1 ≤ 6
      omega
    · have ht' : t < pV P 12 3 + 1 := ht
      show va_up (pV P 13) (pV P 12 3) i t < 27 ∧ va_up (pV P 14) (pV P 12 3) j t < 27
      unfold va_up
      split
      · exact ⟨hi, hj⟩
      · exact a7 t (by omega)
theorem c_trial {x y : Int32} (hI : rc_CP σ P) (hW : rc_WP n P) (h : ∀ σ', rc_fC σ σ' → rc_CP σ' (o_trial P x y).2 → Q (o_trial P x y).1 σ') : rc_TI (d + 1) 102 [.ref 2, .int x, .int y] σ Q := by
  have ht6 := hW.1.2.2.2.1
  have e37 : σ 3 7 = nI (pV P 12 3) := hI.2.1.2.2.2.1
  refine rc_go 60 (c_isState (fun ho => ?_) (fun s hs hx => ?_))
  · refine And.intro (fun _ => ?_) (fun c => absurd rfl c)
    exact c_ref (w := 1) (by decide) (by decide) hI hW (by simp only [o_trial, rc_ob_t ho, cond_true, Bool.true_or]) (fun σ' a b => ⟨_, rfl, h σ' a b⟩)
  · subst hx
    refine And.intro (fun c => absurd c (by decide)) (fun _ => ?_)
    refine c_isState (fun ho => ?_) (fun t ht hy => ?_)
    · refine And.intro (fun c => absurd rfl c) (fun _ => ?_)
      exact c_ref (w := 1) (by decide) (by decide) hI hW (by simp only [o_trial, rc_ob_t ho, cond_true, Bool.or_true]) (fun σ' a b => ⟨_, rfl, h σ' a b⟩)
    · subst hy
      refine And.intro (fun _ => ?_) (fun c => absurd c (by decide))
      have e1 := rc_ob_f hs (show 27 ≤ 2000 by omega)
      have e2 := rc_ob_f ht (show 27 ≤ 2000 by omega)
      refine And.intro (fun c1 => ?_) (fun c1 => ?_)
      · have c1' : pV P 12 3 < 6 := by
          rw [e37] at c1
          exact (nI_ltI (by omega) (by decide)).mp (show nI (pV P 12 3) < nI 6 from c1)
        have ho : o_trial P (nI s) (nI t) = (nI (pV P 12 3 + 1), pVs P (rc_vt (pV P) s t)) := by simp only [o_trial, e1, e2, Bool.or_false, cond_false, if_neg (show ¬ pV P 12 3 = 6 by omega), rc_ci (show s ≤ 2000 by omega), rc_ci (show t ≤ 2000 by omega)]
        rw [ho] at h
        have e7 : rc_up σ 6 (upd (σ 6) (pV P 12 3) (nI s)) 3 7 = nI (pV P 12 3) := by rw [rc_up_n _ _ (by decide)]; exact e37
        refine And.intro (by rw [e37]; exact rc_vi (n := 6) c1' (by decide)) (And.intro (by rw [rc_up_n _ _ (by decide), e37]; exact rc_vi (n := 6) c1' (by decide)) ⟨_, rfl, ?_⟩)
        rw [e37, rc_ci (by omega), e7, rc_ci (by omega)]
        have e8 : rc_up (rc_up σ 6 (upd (σ 6) (pV P 12 3) (nI s))) 7 (upd ((rc_up σ 6 (upd (σ 6) (pV P 12 3) (nI s))) 7) (pV P 12 3) (nI t)) 3 = σ 3 := by rw [rc_up_n _ _ (by decide), rc_up_n _ _ (by decide)]
        rw [rc_up_s, pk_us, e8, e37, nI_1]
        refine h _ (((rc_fC.up (by omega)).tr (rc_fC.up (by omega))).tr (rc_fC.up (by omega))) (hI.mk hW ?_ (fun k hk => by rw [rc_up_n _ _ (by omega), rc_up_n _ _ (by omega), rc_up_n _ _ (by omega)]))
        obtain ⟨h1, h2, h3, h4, h5, h6, h7⟩ := hI.2.1
        have e : ∀ k, k ≠ 3 → k ≠ 6 → k ≠ 7 → rc_up (rc_up (rc_up σ 6 (upd (σ 6) (pV P 12 3) (nI s))) 7 (upd ((rc_up σ 6 (upd (σ 6) (pV P 12 3) (nI s))) 7) (pV P 12 3) (nI t))) 3 (upd (σ 3) 7 (nI (pV P 12 3 + 1))) k = σ k := fun k a b c => by rw [rc_up_n _ _ (by omega), rc_up_n _ _ (by omega), rc_up_n _ _ (by omega)]
        refine ⟨?_, ?_, ?_, ?_, fun i hi => (h5 i hi).fr (e _ (by omega) (by omega) (by omega)) (e _ (by omega) (by omega) (by omega)), fun g hg => (h6 g hg).fr (e _ (by omega) (by omega) (by omega)) (e _ (by omega) (by omega) (by omega)), fun u hu => ?_⟩
        · rw [rc_up_s, pk_un (by decide)]; exact h1
        · rw [rc_up_s, pk_un (by decide)]; exact h2
        · rw [rc_up_s, pk_un (by decide)]; exact h3
        · rw [rc_up_s, pk_us]; rfl
        · have hu' : u < pV P 12 3 + 1 := hu
          rw [rc_vt13, rc_vt14, rc_up_n _ _ (show 6 + 0 ≠ 3 by decide), rc_up_n _ _ (show 6 + 0 ≠ 7 by decide), rc_up_n _ _ (show 7 + 0 ≠ 3 by decide), show (7 + 0 : Nat) = 7 from rfl, rc_up_s, rc_up_s, rc_up_n _ _ (show 7 ≠ 6 by decide)]
          by_cases z : u = pV P 12 3
          · subst z; rw [pk_us, pk_us]; simp [va_up]
          · rw [pk_un z, pk_un z]
            simp only [va_up, z, if_false]
            exact h7 u (by omega)
      · have c1' : pV P 12 3 = 6 := by
          rcases Nat.lt_or_ge (pV P 12 3) 6 with z | z
          · exact absurd (by rw [e37]; exact nI_lt z (by decide)) c1
          · omega
        exact c_ref (w := 6) (by decide) (by decide) hI hW (by simp only [o_trial, e1, e2, Bool.or_false, cond_false, if_pos c1']) (fun σ' a b => ⟨_, rfl, h σ' a b⟩)
theorem t_trial {x y : Int32} (hI : rc_MP σ P) (hW : rc_WP n P) (h : ∀ σ', rc_fM σ σ' → rc_MP σ' (o_trial P x y).2 → Q (o_trial P x y).1 σ') : rc_TI (d + 1) 168 [.ref 80, .int x, .int y] σ Q := by
  have ht6 := hW.1.2.2.2.1
  have e37 : σ 80 16 = nI (pV P 12 3) := hI.1.2.2.2.1
  refine rc_go 60 (t_isNoState (fun ho => ?_) (fun s hs hx => ?_))
  · refine And.intro (fun _ => ?_) (fun c => absurd c (by decide))
    exact t_ref (w := 1) (by decide) (by decide) hI (by simp only [o_trial, rc_ob_t ho, cond_true, Bool.true_or]) (fun σ' a b => ⟨_, rfl, h σ' a b⟩)
  · subst hx
    refine And.intro (fun c => absurd rfl c) (fun _ => ?_)
    refine t_isNoState (fun ho => ?_) (fun t ht hy => ?_)
    · refine And.intro (fun c => absurd c (by decide)) (fun _ => ?_)
      exact t_ref (w := 1) (by decide) (by decide) hI (by simp only [o_trial, rc_ob_t ho, cond_true, Bool.or_true]) (fun σ' a b => ⟨_, rfl, h σ' a b⟩)
    · subst hy
      refine And.intro (fun _ => ?_) (fun c => absurd rfl c)
      have e1 := rc_ob_f hs (show 27 ≤ 2000 by omega)
      have e2 := rc_ob_f ht (show 27 ≤ 2000 by omega)
      refine And.intro (fun c1 => ?_) (fun c1 => ?_)
      · have c1' : ¬ pV P 12 3 = 6 := fun z => c1 (by rw [e37, z]; rfl)
        have ho : o_trial P (nI s) (nI t) = (nI (pV P 12 3 + 1), pVs P (rc_vt (pV P) s t)) := by simp only [o_trial, e1, e2, Bool.or_false, cond_false, if_neg c1', rc_ci (show s ≤ 2000 by omega), rc_ci (show t ≤ 2000 by omega)]
        rw [ho] at h
        have e7 : rc_up σ 94 (upd (σ 94) (pV P 12 3) (nI s)) 80 16 = nI (pV P 12 3) := by rw [rc_up_n _ _ (by decide)]; exact e37
        refine And.intro (by rw [e37]; exact rc_vi (n := 6) (by omega) (by decide)) (And.intro (by rw [rc_up_n _ _ (by decide), e37]; exact rc_vi (n := 6) (by omega) (by decide)) ⟨_, rfl, ?_⟩)
        rw [e37, rc_ci (by omega), e7, rc_ci (by omega)]
        have e8 : rc_up (rc_up σ 94 (upd (σ 94) (pV P 12 3) (nI s))) 95 (upd ((rc_up σ 94 (upd (σ 94) (pV P 12 3) (nI s))) 95) (pV P 12 3) (nI t)) 80 = σ 80 := by rw [rc_up_n _ _ (by decide), rc_up_n _ _ (by decide)]
        rw [rc_up_s, pk_us, e8, e37, nI_1]
        refine h _ (((rc_fM.up (by omega)).tr (rc_fM.up (by omega))).tr (rc_fM.up (by omega))) (hI.mk ?_ (fun j hj => by rw [rc_up_s, pk_un (by omega)]) (fun k hk => by rw [rc_up_n _ _ (by omega), rc_up_n _ _ (by omega), rc_up_n _ _ (by omega)]))
        obtain ⟨h1, h2, h3, h4, h5, h6, h7⟩ := hI.1
        refine ⟨?_, ?_, ?_, ?_, h5, h6, fun u hu => ?_⟩
        · rw [rc_up_s, pk_un (by decide)]; exact h1
        · rw [rc_up_s, pk_un (by decide)]; exact h2
        · rw [rc_up_s, pk_un (by decide)]; exact h3
        · rw [rc_up_s, pk_us]; rfl
        · have hu' : u < pV P 12 3 + 1 := hu
          rw [rc_vt13, rc_vt14, rc_up_n _ _ (show 94 ≠ 80 by decide), rc_up_n _ _ (show 94 ≠ 95 by decide), rc_up_n _ _ (show 95 ≠ 80 by decide), rc_up_s, rc_up_s, rc_up_n _ _ (show 95 ≠ 94 by decide)]
          by_cases z : u = pV P 12 3
          · subst z; rw [pk_us, pk_us]; simp [va_up]
          · rw [pk_un z, pk_un z]
            simp only [va_up, z, if_false]
            exact h7 u (by omega)
      · have c1' : pV P 12 3 = 6 := (nI_eq (by omega) (by decide)).mp (show nI (pV P 12 3) = nI 6 from by rw [← e37]; exact c1)
        exact t_ref (w := 6) (by decide) (by decide) hI (by simp only [o_trial, e1, e2, Bool.or_false, cond_false, if_pos c1']) (fun σ' a b => ⟨_, rfl, h σ' a b⟩)
end RC5
