section RJc
variable {d n L : Nat} {t : Nat → Nat} {σ : rc_M} {P : rc_P} {V : rc_V} {Q : Int32 → rc_M → Prop}
def ri_sc (k : Nat) : Nat := if k = 0 then 114 else 103
def ri_kc (k : Nat) : Nat := match k with
  | 0 => 112 | 1 => 104 | 2 => 116 | 3 => 100 | 4 => 102 | 5 => 115 | _ => 117
theorem ri_sc_f : ∀ k, k < 2 → rc_srt k = nI (ri_sc k) ∧ ri_sc k ≤ 255 := by decide +kernel
theorem ri_kc_f : ∀ k, k < 7 → rc_kds k = nI (ri_kc k) ∧ ri_kc k ≤ 255 ∧ ri_kn (ri_kc k) = k := by decide +kernel
theorem ri_kn_f : ∀ c, c < 256 → ri_kn c < 7 → c = ri_kc (ri_kn c) := by decide +kernel
theorem ri_lr_v {c p : Nat} (h : ri_lr t L c p = true) : p < L ∧ t p = c := by
  unfold ri_lr at h
  simpa using h
theorem t_statement {s : Nat} (hs : s ≤ 800) (hT : ri_T t L) (hN : ri_N σ t L) (hA : ri_A σ s true) {Q : rc_M → Prop} (h : ∀ σ', rc_fq σ σ' → ri_A σ' (ri_st t L s).1 (ri_st t L s).2 → ((ri_st t L s).2 = true → ri_fl σ' t L s) → Q σ') : rc_TV (d + 2) 134 [.ref 80] σ Q := by
  have h29 : ∀ (σ1 : rc_M) x p w, ri_A σ1 p w → ri_A (rc_up σ1 80 (upd (σ1 80) 29 x)) p w := fun σ1 x p w hA => ⟨by rw [rc_up_s, pk_un (by decide)]; exact hA.1, by rw [rc_up_s, pk_un (by decide)]; exact hA.2⟩
  refine rc_go 80 (t_oneOf (q := 98) (len := 2) (cs := ri_sc) (t := t) (L := L) rfl rfl (by decide) (by decide) (fun i hi => by rw [hN.2.1 i hi]; exact ri_sc_f i hi) (by omega) hT hN hA (fun i hi hz hf σ1 f1 _ a1 => ?_) (fun hf σ1 f1 a1 => ?_))
  · have hf2 : rc_fq σ (rc_up σ1 80 (upd (σ1 80) 29 (nI i))) := f1.tr (rc_fq8 (by omega))
    have hN2 := hN.fq hf2
    have hA2 := h29 σ1 (nI i) _ _ a1
    have e29 : rc_up σ1 80 (upd (σ1 80) 29 (nI i)) 80 29 = nI i := by rw [rc_up_s, pk_us]
    have hi2 : i = 0 ∨ i = 1 := by omega
    rcases hi2 with rfl | rfl
    · have hr : ri_lr t L 114 s = true := hz
      refine And.intro (fun c => absurd (show rc_up σ1 80 (upd (σ1 80) 29 (nI 0)) 80 29 = 0 by rw [e29]; rfl) c) (fun _ => ?_)
      refine t_oneOf (q := 99) (len := 7) (cs := ri_kc) (t := t) (L := L) (p := s + 1) rfl rfl (by decide) (by decide) (fun k hk => by rw [hN2.2.2 k hk]; exact ⟨(ri_kc_f k hk).1, (ri_kc_f k hk).2.1⟩) (by omega) hT hN2 hA2 (fun k hk hz2 hf3 σ2 g1 g3 g2 => ?_) (fun hf3 σ2 g1 g2 => ?_)
      · obtain ⟨z1, z2⟩ := ri_lr_v hz2
        have hkn : ri_kn (t (s + 1)) = k := by rw [z2]; exact (ri_kc_f k hk).2.2
        have hko : ri_kok t L (s + 1) = true := by unfold ri_kok; rw [decide_eq_true z1, decide_eq_true (by omega)]; rfl
        refine And.intro (rc_vi (n := 7) (i := 0) (by decide) (by decide)) ?_
        have hf4 : rc_fq σ (rc_up σ2 100 (upd (σ2 100) 0 (nI k))) := (hf2.tr g1).tr (rc_fq.up (by omega))
        refine t_s35 (σ0 := σ) (s := s) hs hT hr hko (fun σ' a b c => ⟨rfl, h σ' a b c⟩) 5 0 _ rfl (hN.fq hf4) hf4 (g2.up (by decide)) ?_ ?_ (fun j hj => absurd hj (by omega))
        · rw [rc_up_n _ _ (by decide), g3, e29]; rfl
        · rw [rc_up_s, hkn]; exact pk_us
      · have hko : ri_kok t L (s + 1) = false := by
          cases hz3 : ri_kok t L (s + 1) with
          | false => rfl
          | true =>
            unfold ri_kok at hz3
            rw [Bool.and_eq_true] at hz3
            have y1 := of_decide_eq_true hz3.1
            have y2 := of_decide_eq_true hz3.2
            have y3 := ri_kn_f _ (by have := hT.2 _ y1; omega) y2
            have y4 := hf3 _ y2
            unfold ri_lr at y4
            rw [decide_eq_true y1, ← y3, decide_eq_true rfl] at y4
            exact absurd y4 (by decide)
        have es : ri_st t L s = (s + 1, false) := by
          unfold ri_st
          rw [hr, hko, Bool.true_or, if_pos rfl, if_pos (by decide)]
        rw [es] at h
        refine And.intro (rc_vi (n := 7) (i := 0) (by decide) (by decide)) ?_
        exact t_s35_b (p := s + 1) (σ0 := σ) (fun σ' a b => ⟨rfl, h σ' a b (fun y => absurd (show false = true from y) (by decide))⟩) 5 1 _ rfl ((hf2.tr g1).tr (rc_fq.up (by omega))) (g2.up (by decide))
    · have hr : ri_lr t L 114 s = false := hf 0 (by decide)
      have hg : ri_lr t L 103 s = true := hz
      refine And.intro (fun _ => ?_) (fun c => absurd (show rc_up σ1 80 (upd (σ1 80) 29 (nI 1)) 80 29 = 0 from c) (by rw [e29]; decide))
      exact t_s75 (σ0 := σ) (s := s) hs hT hr hg (fun σ' a b c => ⟨rfl, h σ' a b c⟩) 6 0 _ rfl hN2 hf2 hA2 e29 (fun j hj => absurd hj (by omega))
  · have hr : ri_lr t L 114 s = false := hf 0 (by decide)
    have hg : ri_lr t L 103 s = false := hf 1 (by decide)
    have es : ri_st t L s = (s, false) := by
      unfold ri_st
      rw [hr, hg, if_neg (by decide)]
    rw [es] at h
    have hf2 : rc_fq σ (rc_up σ1 80 (upd (σ1 80) 29 0)) := f1.tr (rc_fq8 (by omega))
    have hA2 := h29 σ1 0 _ _ a1
    have e29 : rc_up σ1 80 (upd (σ1 80) 29 0) 80 29 = 0 := by rw [rc_up_s, pk_us]
    refine And.intro (fun c => absurd e29 c) (fun _ => ?_)
    refine t_oneOf_b (q := 99) (len := 7) (p := s) rfl rfl (by decide) (by decide) hA2 (fun σ2 g1 g2 => ?_)
    refine And.intro (rc_vi (n := 7) (i := 0) (by decide) (by decide)) ?_
    exact t_s35_b (p := s) (σ0 := σ) (fun σ' a b => ⟨rfl, h σ' a b (fun y => absurd (show false = true from y) (by decide))⟩) 5 1 _ rfl ((hf2.tr g1).tr (rc_fq.up (by omega))) (g2.up (by decide))
/-! whether a statement is as it must be -/
theorem t_mu_66r {a b : Nat} {z : Bool} {f : Nat → Nat} (h29 : σ 80 29 = 0) (hf : ∀ k, 1 ≤ k → k ≤ 5 → σ 100 k = nI (f k) ∧ f k ≤ 9) {Q' : Option Value → rc_M → Prop} (h : Q' (some (.int (rc_bI (z && rc_alls (fun j => decide (f (1 + j) ≤ 2)) 4)))) σ) : ∀ (c j : Nat), j + c = 4 → rc_Tc d 135 66 [.ref 80, .int (nI a), .int (nI b), .int (rc_bI (z && rc_alls (fun j => decide (f (1 + j) ≤ 2)) j)), .int (nI (1 + j))] [] σ Q' := by
  intro c
  induction c with
  | zero =>
    intro j hj
    have : j = 4 := by omega
    subst this
    refine rc_go 40 (And.intro (fun c => absurd h29 c) (fun _ => ?_))
    exact rc_go 40 (And.intro (fun _ => ⟨rc_bI_01 _, h⟩) (fun c => absurd (by decide) c))
  | succ c ih =>
    intro j hj
    have key := ih (j + 1) (by omega)
    obtain ⟨a1, a2⟩ := hf (1 + j) (by omega) (by omega)
    rw [rc_alls, ← Bool.and_assoc, ← Nat.add_assoc, ← nI_1] at key
    refine rc_go 40 (And.intro (fun c => absurd h29 c) (fun _ => ?_))
    refine rc_go 60 (And.intro (fun c1 => absurd c1 (nI_ge (show 1 + j < 5 by omega) (by decide))) (fun _ => And.intro (fun c2 => ?_) (fun c2 => ?_)))
    · rw [rc_bI_0.mp c2, Bool.false_and] at key
      exact key
    · rw [rc_bool_t c2, Bool.true_and] at key
      refine And.intro (rc_vi (n := 7) (by omega) (by decide)) ?_
      rw [rc_ci (by omega), a1]
      refine And.intro (fun _ => ?_) (fun c3 => absurd (show σ 80 29 = 1 from c3) (by rw [h29]; decide))
      rw [rc_bool_t c2]
      refine rc_go 40 (And.intro (fun c3 => ?_) (fun c3 => ?_))
      · rw [decide_eq_false (fun y => absurd c3 (Int32.not_lt.mpr (nI_le (show f (1 + j) ≤ 2 from y) (by decide))))] at key
        exact key
      · rw [decide_eq_true (Nat.le_of_not_lt (fun y => c3 (nI_lt (show 2 < f (1 + j) from y) (by omega))))] at key
        exact key
theorem t_must_r {x y : Int32} {a b : Nat} {f : Nat → Nat} (hx : x = nI a) (hy : y = nI b) (ha : a ≤ 100) (h29 : σ 80 29 = 0) (hf : ∀ k, 1 ≤ k → k ≤ 5 → σ 100 k = nI (f k) ∧ f k ≤ 9) (h : Q (rc_bI ((decide (a < 6) && (decide (1 ≤ f 5) && decide (f 5 ≤ 2))) && rc_alls (fun j => decide (f (1 + j) ≤ 2)) 4)) σ) : rc_TI d 135 [.ref 80, .int x, .int y] σ Q := by
  subst hx; subst hy
  obtain ⟨a1, a2⟩ := hf 5 (by decide) (by decide)
  have k51 : ∀ z : Bool, z = (decide (a < 6) && (decide (1 ≤ f 5) && decide (f 5 ≤ 2))) → ∀ w3 w4, rc_Tc d 135 51 [.ref 80, .int (nI a), .int (nI b), w3, w4] [.int (rc_bI z)] σ (fun v σ => ∃ x, v = some (.int x) ∧ Q x σ) := fun z hz w3 w4 => by
    rw [← hz] at h
    have key := t_mu_66r (d := d) (a := a) (b := b) (z := z) h29 hf (Q' := fun v σ => ∃ x, v = some (.int x) ∧ Q x σ) ⟨_, rfl, h⟩ 4 0 rfl
    rw [rc_alls, Bool.and_true] at key
    exact rc_go 40 (And.intro (fun c => absurd h29 c) (fun _ => rc_go 40 key))
  refine rc_go 60 (And.intro (fun c => absurd h29 c) (fun _ => And.intro (fun c1 => ?_) (fun c1 => ?_)))
  · exact k51 false (by rw [decide_eq_false (fun y => nI_ge (show a < 6 from y) (by decide) c1)]; rfl) _ _
  · have z1 : a < 6 := Nat.lt_of_not_le (fun y => c1 (nI_le y (by omega)))
    refine And.intro (rc_vi (n := 7) (i := 5) (by decide) (by decide)) ?_
    show (σ 100 5 < 1 → _) ∧ (¬ σ 100 5 < 1 → _)
    rw [a1]
    refine And.intro (fun c2 => ?_) (fun c2 => ?_)
    · exact k51 false (by rw [decide_eq_false (p := 1 ≤ f 5) (fun y => absurd c2 (Int32.not_lt.mpr (nI_le y (by omega)))), Bool.false_and, Bool.and_false]) _ _
    · have z2 : 1 ≤ f 5 := Nat.le_of_not_lt (fun y => c2 (nI_lt y (by decide)))
      refine And.intro (rc_vi (n := 7) (i := 5) (by decide) (by decide)) ?_
      show (2 < σ 100 5 → _) ∧ (¬ 2 < σ 100 5 → _)
      rw [a1]
      refine And.intro (fun c3 => ?_) (fun c3 => ?_)
      · exact k51 false (by rw [decide_eq_false (p := f 5 ≤ 2) (fun y => absurd c3 (Int32.not_lt.mpr (nI_le y (by decide)))), Bool.and_false, Bool.and_false]) _ _
      · exact k51 true (by rw [decide_eq_true z1, decide_eq_true z2, decide_eq_true (Nat.le_of_not_lt (fun y => c3 (nI_lt y (by omega))))]; rfl) _ _
theorem t_mu_66g {a b : Nat} {z : Bool} {f : Nat → Nat} (h29 : σ 80 29 = 1) (hf : ∀ k, k < 6 → σ 100 k = nI (f k) ∧ f k ≤ 9) {Q' : Option Value → rc_M → Prop} (h : Q' (some (.int (rc_bI (z && rc_alls (fun j => decide (f j ≤ if 2 < j then 3 else 2)) 6)))) σ) : ∀ (c j : Nat), j + c = 6 → rc_Tc d 135 66 [.ref 80, .int (nI a), .int (nI b), .int (rc_bI (z && rc_alls (fun j => decide (f j ≤ if 2 < j then 3 else 2)) j)), .int (nI j)] [] σ Q' := by
  have hne : σ 80 29 ≠ 0 := by rw [h29]; decide
  intro c
  induction c with
  | zero =>
    intro j hj
    have : j = 6 := by omega
    subst this
    refine rc_go 40 (And.intro (fun _ => ?_) (fun c => absurd (show σ 80 29 = 0 from c) hne))
    exact rc_go 40 (And.intro (fun _ => ⟨rc_bI_01 _, h⟩) (fun c => absurd (by decide) c))
  | succ c ih =>
    intro j hj
    have key := ih (j + 1) (by omega)
    obtain ⟨a1, a2⟩ := hf j (by omega)
    rw [rc_alls, ← Bool.and_assoc, ← nI_1] at key
    refine rc_go 40 (And.intro (fun _ => ?_) (fun c => absurd (show σ 80 29 = 0 from c) hne))
    refine rc_go 60 (And.intro (fun c1 => absurd c1 (nI_ge (show j < 6 by omega) (by decide))) (fun _ => And.intro (fun c2 => ?_) (fun c2 => ?_)))
    · rw [rc_bI_0.mp c2, Bool.false_and] at key
      exact key
    · rw [rc_bool_t c2, Bool.true_and] at key
      refine And.intro (rc_vi (n := 7) (by omega) (by decide)) ?_
      rw [rc_ci (by omega), a1]
      refine And.intro (fun c3 => absurd h29 c3) (fun _ => And.intro (fun c3 => ?_) (fun c3 => ?_))
      · rw [if_neg (fun y => nI_ge (show 2 < j from y) (by omega) c3)] at key
        rw [rc_bool_t c2]
        refine rc_go 40 (And.intro (fun c4 => ?_) (fun c4 => ?_))
        · rw [decide_eq_false (fun y => absurd c4 (Int32.not_lt.mpr (nI_le (show f j ≤ 2 from y) (by decide))))] at key
          exact key
        · rw [decide_eq_true (Nat.le_of_not_lt (fun y => c4 (nI_lt (show 2 < f j from y) (by omega))))] at key
          exact key
      · rw [if_pos (Nat.lt_of_not_le (fun y => c3 (nI_le (show j ≤ 2 from y) (by decide))))] at key
        rw [rc_bool_t c2]
        refine rc_go 40 (And.intro (fun c4 => ?_) (fun c4 => ?_))
        · rw [decide_eq_false (fun y => absurd c4 (Int32.not_lt.mpr (nI_le (show f j ≤ 3 from y) (by decide))))] at key
          exact key
        · rw [decide_eq_true (Nat.le_of_not_lt (fun y => c4 (nI_lt (show 3 < f j from y) (by omega))))] at key
          exact key
theorem t_must_g {x y : Int32} {a b : Nat} {f : Nat → Nat} (hx : x = nI a) (hy : y = nI b) (hb : b ≤ 100) (h29 : σ 80 29 = 1) (hf : ∀ k, k < 6 → σ 100 k = nI (f k) ∧ f k ≤ 9) (h : Q (rc_bI (decide (b < 5) && rc_alls (fun j => decide (f j ≤ if 2 < j then 3 else 2)) 6)) σ) : rc_TI d 135 [.ref 80, .int x, .int y] σ Q := by
  subst hx; subst hy
  have hne : σ 80 29 ≠ 0 := by rw [h29]; decide
  have k51 : ∀ z : Bool, z = decide (b < 5) → ∀ w3 w4, rc_Tc d 135 51 [.ref 80, .int (nI a), .int (nI b), w3, w4] [.int (rc_bI z)] σ (fun v σ => ∃ x, v = some (.int x) ∧ Q x σ) := fun z hz w3 w4 => by
    rw [← hz] at h
    have key := t_mu_66g (d := d) (a := a) (b := b) (z := z) h29 hf (Q' := fun v σ => ∃ x, v = some (.int x) ∧ Q x σ) ⟨_, rfl, h⟩ 6 0 rfl
    rw [rc_alls, Bool.and_true] at key
    exact rc_go 40 (And.intro (fun _ => rc_go 40 key) (fun c => absurd (show σ 80 29 = 0 from c) hne))
  refine rc_go 60 (And.intro (fun _ => And.intro (fun c1 => ?_) (fun c1 => ?_)) (fun c => absurd (show σ 80 29 = 0 from c) hne))
  · exact k51 false (decide_eq_false (fun y => nI_ge (show b < 5 from y) (by decide) c1)).symm _ _
  · exact k51 true (decide_eq_true (Nat.lt_of_not_le (fun y => c1 (nI_le y (by omega))))).symm _ _
end RJc
