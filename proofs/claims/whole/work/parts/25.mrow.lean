section RR
variable {d : Nat} {σ : rc_M} {Q : Int32 → rc_M → Prop} {V : rc_V}
theorem t_begin_l {n : Nat} (hn : n ≤ 6) {Q' : Option Value → rc_M → Prop} (h : ∀ f, (∀ j, j < n → f j = 0) → Q' none (rc_up σ 102 f)) : ∀ (c k : Nat) (f : Nat → Int32), k + c = n → (∀ j, j < k → f j = 0) → rc_Tc d 150 2 [.ref 80, .int (nI n), .int (nI k)] [] (rc_up σ 102 f) Q' := by
  intro c
  induction c with
  | zero =>
    intro k f hk hf
    have : k = n := by omega
    subst this
    refine rc_go 40 (And.intro (fun _ => h f hf) (fun c => absurd (nI_le (Nat.le_refl k) (by omega)) c))
  | succ c ih =>
    intro k f hk hf
    refine rc_go 40 (And.intro (fun c1 => absurd c1 (nI_ge (by omega) (by omega))) (fun _ => ?_))
    refine And.intro (rc_vi (n := 6) (by omega) (by decide)) ?_
    have key := ih (k + 1) (upd f k 0) (by omega) (fun j hj => by
      by_cases e : j = k
      · subst e; exact pk_us
      · rw [pk_un e]; exact hf j (by omega))
    rw [← nI_1] at key
    rw [rc_up_s, rc_uu, rc_ci (by omega)]
    exact key
theorem t_begin {x : Int32} {n : Nat} (hx : x = nI n) (hn : n ≤ 6) {Q : rc_M → Prop} (h : ∀ f, (∀ j, j < n → f j = 0) → Q (rc_up σ 102 f)) : rc_TV d 150 [.ref 80, .int x] σ Q := by
  subst hx
  refine rc_go 40 ?_
  have key := t_begin_l (d := d) (σ := σ) hn (Q' := fun r σ' => r = none ∧ Q σ') (fun f hf => ⟨rfl, h f hf⟩) n 0 (σ 102) (by omega) (fun j hj => absurd hj (by omega))
  rw [rc_ui] at key
  exact key
theorem t_isNext_l {n b : Nat} (hn : n ≤ 6) (hb : b ≤ 6) (hσ : σ 80 1 = nI b) {Q' : Option Value → rc_M → Prop} : ∀ (k : Nat) (f : Nat → Int32) (row : Nat → Nat), k ≤ n → (∀ j, j < n → f j = nI (row j) ∧ row j ≤ 6) →
    (∀ f', (∀ j, j < n → f' j = nI ((rc_inc b k row).2 j)) → Q' (some (.int (rc_bI (decide ((rc_inc b k row).1 ≠ 0))))) (rc_up σ 102 f')) → rc_Tc d 151 4 [.ref 80, .int (nI n), .int (nI k - 1)] [] (rc_up σ 102 f) Q' := by
  have h81 : ∀ f, rc_up σ 102 f 80 1 = nI b := fun f => by rw [rc_up_n _ _ (by decide)]; exact hσ
  intro k
  induction k with
  | zero =>
    intro f row hk hf h
    refine rc_go 40 (And.intro (fun _ => ?_) (fun c => absurd rc_nneg c))
    exact ⟨Or.inl rfl, h f (fun j hj => (hf j hj).1)⟩
  | succ k ih =>
    intro f row hk hf h
    rw [nI_pred]
    obtain ⟨hfk, hrk⟩ := hf k (by omega)
    refine rc_go 40 (And.intro (fun c => absurd c (nI_pos (by omega))) (fun _ => ?_))
    refine And.intro (rc_vi (n := 6) (by omega) (by decide)) (And.intro (rc_vi (n := 6) (by omega) (by decide)) (And.intro (rc_vi (n := 6) (by omega) (by decide)) ?_))
    rw [rc_up_s, rc_uu, rc_up_s, rc_ci (by omega), pk_us, hfk, nI_1]
    rw [rc_inc] at h
    refine And.intro (fun c => ?_) (fun c => ?_)
    · rw [h81] at c
      have c2 : ¬ row k + 1 < b := fun z => nI_ge z (by omega) c
      rw [if_neg c2] at h
      refine And.intro (rc_vi (n := 6) (by omega) (by decide)) ?_
      have key := ih (upd (upd f k (nI (row k + 1))) k 0) (va_up row k 0) (by omega) (fun j hj => by
        by_cases e : j = k
        · subst e; rw [pk_us]; simp [va_up]; rfl
        · rw [pk_un e, pk_un e]; simp only [va_up, e, if_false]; exact hf j hj) h
      rw [rc_up_s, rc_uu, rc_ci (by omega)]
      have e9 : nI k - 1 = nI k + -1 := by rw [Int32.sub_eq_add_neg]
      rw [e9] at key
      exact key
    · rw [h81] at c
      have c2 : row k + 1 < b := by
        rcases Nat.lt_or_ge (row k + 1) b with z | z
        · exact z
        · exact absurd (nI_le z (by omega)) c
      rw [if_pos c2] at h
      refine ⟨Or.inr rfl, ?_⟩
      have := h (upd f k (nI (row k + 1))) (fun j hj => by
        by_cases e : j = k
        · subst e; rw [pk_us]; simp [va_up]
        · rw [pk_un e]; simp only [va_up, e, if_false]; exact (hf j hj).1)
      simpa [rc_bI] using this
theorem t_isNext {x : Int32} {n b : Nat} {row : Nat → Nat} (hx : x = nI n) (hn : n ≤ 6) (hb : b ≤ 6) (hσ : σ 80 1 = nI b) (hr : ∀ j, j < n → σ 102 j = nI (row j) ∧ row j ≤ 6)
    (h : ∀ f', (∀ j, j < n → f' j = nI ((rc_inc b n row).2 j)) → Q (rc_bI (decide ((rc_inc b n row).1 ≠ 0))) (rc_up σ 102 f')) : rc_TI d 151 [.ref 80, .int x] σ Q := by
  subst hx
  refine rc_go 40 ?_
  have key := t_isNext_l (d := d) (σ := σ) hn hb hσ (Q' := fun r σ' => ∃ x, r = some (.int x) ∧ Q x σ') n (σ 102) row (Nat.le_refl _) hr (fun f' hf' => ⟨_, rfl, h f' hf'⟩)
  rw [rc_ui] at key
  exact key
/-- what the model holds of a row's rooms -/
def rc_MRw (σ : rc_M) (V : rc_V) (row : Nat → Nat) (n : Nat) : Prop := ∀ k, k < n → σ 102 k = nI (row k) ∧ row k < 6 ∧ rc_MR σ V (row k) ∧ rc_WR V (row k)
theorem t_madeBy_0 {s n : Nat} {w4 w5 w6 w7 : Value} {Q' : Option Value → rc_M → Prop} (h : ∀ f, (∀ j, j < 6 → f j = -9) → rc_Tc d 152 30 [.ref 80, .int (nI s), .int (nI n), .int (nI s), .int 0, .int 0, w6, w7] [] (rc_up σ 103 f) Q') : ∀ (c k : Nat) (f : Nat → Int32), k + c = 6 → (∀ j, j < k → f j = -9) → rc_Tc d 152 2 [.ref 80, .int (nI s), .int (nI n), .int (nI k), w4, w5, w6, w7] [] (rc_up σ 103 f) Q' := by
  intro c
  induction c with
  | zero =>
    intro k f hk hf
    have : k = 6 := by omega
    subst this
    exact rc_go 40 (And.intro (fun _ => h f hf) (fun c => absurd (by decide) c))
  | succ c ih =>
    intro k f hk hf
    refine rc_go 40 (And.intro (fun c1 => absurd c1 (nI_ge (show k < 6 by omega) (by decide))) (fun _ => ?_))
    refine And.intro (rc_vi (n := 6) (by omega) (by decide)) ?_
    have key := ih (k + 1) (upd f k (-9)) (by omega) (fun j hj => by
      by_cases e : j = k
      · subst e; exact pk_us
      · rw [pk_un e]; exact hf j (by omega))
    rw [← nI_1] at key
    rw [rc_up_s, rc_uu, rc_ci (by omega)]
    exact key
theorem t_madeBy_1 {s n : Nat} {row : Nat → Nat} (hs : s < 27) (hn : n ≤ 6) (hR : rc_MRw σ V row n) {Q' : Option Value → rc_M → Prop} (h : ∀ f, Q' (some (.int (nI (rc_E V row s n)))) (rc_up σ 103 f)) : ∀ (c k : Nat) (f : Nat → Int32) (bf : Int32) (w6 w7 : Value), k + c = n → (∀ j, j < 6 → f j = rc_cI (rc_lb row (rc_E V row s) j k)) → (∀ k', k = k' + 1 → bf = nI (rc_E V row s k')) →
    rc_Tc (d + 4) 152 30 [.ref 80, .int (nI s), .int (nI n), .int (nI (rc_E V row s k)), .int bf, .int (nI k), w6, w7] [] (rc_up σ 103 f) Q' := by
  have hlt : ∀ k, k ≤ n → rc_E V row s k < 27 := fun k hk => rc_E_lt hs k (fun i hi => (hR i (by omega)).2.2.2)
  intro c
  induction c with
  | zero =>
    intro k f bf w6 w7 hk hf hb
    have : k = n := by omega
    subst this
    exact rc_go 60 (And.intro (fun _ => h f) (fun c => absurd (nI_le (Nat.le_refl k) (by omega)) c))
  | succ c ih =>
    intro k f bf w6 w7 hk hf hb
    obtain ⟨r1, r2, r3, r4⟩ := hR k (by omega)
    have h102 : ∀ j, rc_up σ 103 f 102 j = σ 102 j := fun j => by rw [rc_up_n _ _ (by decide)]
    have hMR : rc_MR (rc_up σ 103 f) V (row k) := by
      unfold rc_MR
      rw [rc_up_n _ _ (by decide), rc_up_n _ _ (by decide), rc_up_n _ _ (by decide), rc_up_n _ _ (by decide), rc_up_n _ _ (by decide), rc_up_n _ _ (by decide)]
      exact r3
    have fin : ∀ x5 : Int32, x5 = rc_cI (rc_un row (rc_E V row s) k) → ∀ Q2 : Int32 → rc_M → Prop, Q2 (nI (rc_E V row s (k + 1))) (rc_up σ 103 f) → rc_TI (d + 3) 142 [.ref 80, .int (σ 102 k), .int (nI (rc_E V row s k)), .int (nI k), .int (f (row k)), .int x5] (rc_up σ 103 f) Q2 := fun x5 h5 Q2 hq => by
      rw [rc_E_s] at hq
      exact t_makesOf r1 rfl rfl (hf (row k) r2) h5 r2 (hlt k (by omega)) (by omega) (rc_lb_le k (fun i hi => hlt i (by omega))) (rc_un_le (fun i hi => hlt i (by omega))) hMR r4 hq
    have nxt : ∀ w6 w7 : Value, rc_Tc (d + 4) 152 30 [.ref 80, .int (nI s), .int (nI n), .int (nI (rc_E V row s (k + 1))), .int (nI (rc_E V row s k)), .int (nI k + 1), w6, w7] [] (rc_up σ 103 (upd f (row k) (nI (rc_E V row s k)))) Q' := fun w6 w7 => by
      rw [nI_1]
      refine ih (k + 1) _ _ w6 w7 (by omega) (fun j hj => ?_) (fun k' hk' => by rw [show k' = k by omega])
      rw [rc_lb]
      by_cases e : row k = j
      · subst e; rw [pk_us, if_pos rfl]; rfl
      · rw [pk_un (Ne.symm e), if_neg e]; exact hf j hj
    have hin : vp_in (σ 102 k) 6 := by rw [r1]; exact rc_vi r2 (by decide)
    have hck : (nI k).toNatClampNeg = k := rc_ci (by omega)
    have hcr : (σ 102 k).toNatClampNeg = row k := by rw [r1]; exact rc_ci (by omega)
    refine rc_go 80 (And.intro (fun c1 => absurd c1 (nI_ge (by omega) (by omega))) (fun _ => ?_))
    refine And.intro (rc_vi (show k < 6 by omega) (by decide)) ?_
    rw [hck, h102]
    refine And.intro hin ?_
    rw [rc_up_s, hcr]
    refine And.intro (fun c1 => ?_) (fun c1 => ?_)
    · have hk0 : k = 0 := by
        rcases Nat.eq_zero_or_pos k with z | z
        · exact z
        · exact absurd c1 (nI_nle z (by omega))
      subst hk0
      refine fin _ rfl _ ?_
      refine And.intro hin ?_
      rw [rc_up_s, rc_uu, hcr]
      exact nxt _ _
    · obtain ⟨k', rfl⟩ : ∃ k', k = k' + 1 := ⟨k - 1, by
        rcases Nat.eq_zero_or_pos k with z | z
        · subst z; exact absurd (by decide) c1
        · omega⟩
      have r1' := (hR k' (by omega)).1
      have r2' := (hR k' (by omega)).2.1
      refine And.intro (by rw [nI_pred]; exact rc_vi (show k' < 6 by omega) (by decide)) ?_
      rw [nI_pred, rc_ci (by omega), h102]
      refine And.intro (fun c2 => ?_) (fun c2 => ?_)
      · have hne : ¬ row k' = row (k' + 1) := fun z => c2 (by rw [r1, r1', z])
        refine fin _ (by rw [rc_un, if_neg hne]; rfl) _ ?_
        refine And.intro hin ?_
        rw [rc_up_s, rc_uu, hcr]
        exact nxt _ _
      · have heq : row k' = row (k' + 1) := by
          rw [r1, r1'] at c2
          exact (nI_eq (by omega) (by omega)).mp c2
        refine fin _ (by rw [rc_un, if_pos heq, hb k' rfl]; rfl) _ ?_
        refine And.intro hin ?_
        rw [rc_up_s, rc_uu, hcr]
        exact nxt _ _
theorem t_madeBy {x y : Int32} {s n : Nat} {row : Nat → Nat} (hx : x = nI s) (hy : y = nI n) (hs : s < 27) (hn : n ≤ 6) (hR : rc_MRw σ V row n) (h : ∀ f, Q (nI (rc_E V row s n)) (rc_up σ 103 f)) : rc_TI (d + 4) 152 [.ref 80, .int x, .int y] σ Q := by
  subst hx; subst hy
  refine rc_go 40 ?_
  have key := t_madeBy_0 (d := d + 4) (σ := σ) (s := s) (n := n) (w4 := .null) (w5 := .null) (w6 := .null) (w7 := .null) (Q' := fun r σ' => ∃ x, r = some (.int x) ∧ Q x σ') (fun f hf => ?_) 6 0 (σ 103) (by omega) (fun j hj => absurd hj (by omega))
  · rw [rc_ui] at key
    exact key
  · exact t_madeBy_1 hs hn hR (fun f => ⟨_, rfl, h f⟩) n 0 f 0 _ _ (by omega) hf (fun k' hk' => by omega)
end RR
