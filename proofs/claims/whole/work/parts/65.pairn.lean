section RPn
variable {d n : Nat} {σ : rc_M} {P : rc_P} {V : rc_V} {Q : Int32 → rc_M → Prop}
theorem rc_lp_s {row e : Nat → Nat} {r i : Nat} : rc_lp row e r (i + 1) = if row (2 * i) = r then e (2 * i) + 1 else if row (2 * i + 1) = r then e (2 * i + 1) + 1 else rc_lp row e r i := rfl
theorem rc_lp_cg {row row' e e' : Nat → Nat} {r : Nat} : ∀ i, (∀ j, j < 2 * i → row j = row' j ∧ e j = e' j) → rc_lp row e r i = rc_lp row' e' r i := by
  intro i
  induction i with
  | zero => intro _; rfl
  | succ i ih =>
    intro h
    rw [rc_lp, rc_lp, (h (2 * i) (by omega)).1, (h (2 * i) (by omega)).2, (h (2 * i + 1) (by omega)).1, (h (2 * i + 1) (by omega)).2, ih (fun j hj => h j (by omega))]
theorem rc_ev_cg {row row' : Nat → Nat} {s0 s1 : Nat} : ∀ k, (∀ j, j < 2 * k → row j = row' j) → ∀ j, j < 2 * k + 2 → rc_ev V row s0 s1 k j = rc_ev V row' s0 s1 k j := by
  intro k
  induction k with
  | zero => intro _ j _; rfl
  | succ k ih =>
    intro h j hj
    have ih := ih (fun j hj => h j (by omega))
    by_cases z : j < 2 * k + 2
    · rw [rc_ev_s z, rc_ev_s z]; exact ih j z
    · obtain ⟨w, rfl⟩ : ∃ w, j = 2 * k + 2 + w := ⟨j - (2 * k + 2), by omega⟩
      have hw : w < 2 := by omega
      rw [rc_ev_n, rc_ev_n]
      unfold rc_pn rc_m2 rc_u2
      rw [h (2 * k + w) (by omega), ih (2 * k + w) (by omega), rc_lp_cg (row' := row') (e' := rc_ev V row' s0 s1 k) k (fun j hj => ⟨h j (by omega), ih j (by omega)⟩), h (2 * k) (by omega), h (2 * k + 1) (by omega), ih (2 * k + 1 - w) (by omega), h (2 * k + w - 2) (by omega), ih (2 * k + w - 2) (by omega)]
theorem rc_hb2_cg {row row' : Nat → Nat} : ∀ k, (∀ j, j < 2 * k → row j = row' j) → rc_hb2 V row k = rc_hb2 V row' k := by
  intro k
  induction k with
  | zero => intro _; rfl
  | succ k ih =>
    intro h
    have e : ∀ row, rc_hb2 V row (k + 1) = (rc_hb2 V row k && !(decide (row (2 * k) = row (2 * k + 1)) && decide (V 3 (row (2 * k)) < 2))) := fun _ => rfl
    rw [e, e, ih (fun j hj => h j (by omega)), h (2 * k) (by omega), h (2 * k + 1) (by omega)]
theorem rc_gd2_cg {row row' : Nat → Nat} {g h n : Nat} (e : ∀ j, j < 2 * n → row j = row' j) : rc_gd2 V g h n row = rc_gd2 V g h n row' := by
  unfold rc_gd2
  rw [rc_hb2_cg n e, rc_ev_cg n e (2 * n) (by omega), rc_ev_cg n e (2 * n + 1) (by omega)]
theorem t_ab_3 {o1 o2 : Nat} {x3 : Int32} {s1 s2 : Nat} (ho1 : o1 < 5) (ho2 : o2 < 5) (e1 : σ 88 o1 = nI s1) (e2 : σ 88 o2 = nI s2) {Q' : Option Value → rc_M → Prop} (K : ∀ f w9 w10 w11 w12 w13 w14, (∀ r, r < 6 → f r = -9) → rc_Tc d 159 50 [.ref 80, .int (nI o1), .int (nI o2), .int x3, .int (nI s1), .int (nI s2), .int 0, .int 0, .int 0, w9, w10, w11, w12, w13, w14] [] (rc_up σ 103 f) Q') : ∀ (c r : Nat) (f : Nat → Int32) (w5 w6 w7 w8 w9 w10 w11 w12 w13 w14 : Value), r + c = 6 → (∀ i, i < r → f i = -9) → rc_Tc d 159 3 [.ref 80, .int (nI o1), .int (nI o2), .int x3, .int (nI r), w5, w6, w7, w8, w9, w10, w11, w12, w13, w14] [] (rc_up σ 103 f) Q' := by
  intro c
  induction c with
  | zero =>
    intro r f w5 w6 w7 w8 w9 w10 w11 w12 w13 w14 hr hf
    have : r = 6 := by omega
    subst this
    refine rc_go 60 (And.intro (fun _ => ?_) (fun c => absurd (by decide) c))
    refine And.intro (rc_vi (n := 5) ho1 (by decide)) (And.intro (rc_vi (n := 5) ho2 (by decide)) ?_)
    rw [rc_ci (by omega), rc_ci (by omega), rc_up_n _ _ (by decide), e1, e2]
    exact K f w9 w10 w11 w12 w13 w14 hf
  | succ c ih =>
    intro r f w5 w6 w7 w8 w9 w10 w11 w12 w13 w14 hr hf
    have key := ih (r + 1) (upd f r (-9)) w5 w6 w7 w8 w9 w10 w11 w12 w13 w14 (by omega) (fun i hi => by
      by_cases e : i = r
      · subst e; exact pk_us
      · rw [pk_un e]; exact hf i (by omega))
    rw [← nI_1] at key
    refine rc_go 60 (And.intro (fun c1 => absurd c1 (nI_ge (show r < 6 by omega) (by decide))) (fun _ => ?_))
    refine And.intro (rc_vi (n := 6) (by omega) (by decide)) ?_
    rw [rc_ci (by omega), rc_up_s, rc_uu]
    exact key
/-- which of the two is the lesser -/
def rc_ord (sw o1 o2 g h : Nat) : Prop := (sw = 0 ∧ o1 = g ∧ o2 = h) ∨ (sw = 1 ∧ o1 = h ∧ o2 = g)
theorem t_ab_50 {o1 o2 g h sw n' : Nat} {row : Nat → Nat} (hM : rc_Mod σ V) (hW : rc_WF n V) (hn : n' ≤ 2) (hgh : g < h) (hh : h < V 12 1) (ho : rc_ord sw o1 o2 g h) (hrow : ∀ k, k < n' → σ 102 (2 * k) = nI (row (2 * k + sw)) ∧ σ 102 (2 * k + 1) = nI (row (2 * k + 1 - sw))) (hr6 : ∀ j, j < 2 * n' → row j < V 12 0) {Q' : Option Value → rc_M → Prop} (hQ : ∀ f, Q' (some (.int (rc_bI (rc_gd2 V g h n' row)))) (rc_up σ 103 f)) : ∀ (c k : Nat) (f : Nat → Int32) (x6 x7 : Int32) (w9 w10 w11 w12 w13 w14 : Value), k + c = n' → rc_hb2 V row k = true → (∀ r, r < 6 → f r = rc_cI (rc_lp row (rc_ev V row (V 6 g) (V 6 h) k) r k)) → (0 < k → x6 = nI (rc_ev V row (V 6 g) (V 6 h) k (2 * k + sw - 2)) ∧ x7 = nI (rc_ev V row (V 6 g) (V 6 h) k (2 * k + 1 - sw - 2))) → rc_Tc (d + 4) 159 50 [.ref 80, .int (nI o1), .int (nI o2), .int (nI n'), .int (nI (rc_ev V row (V 6 g) (V 6 h) k (2 * k + sw))), .int (nI (rc_ev V row (V 6 g) (V 6 h) k (2 * k + 1 - sw))), .int x6, .int x7, .int (nI k), w9, w10, w11, w12, w13, w14] [] (rc_up σ 103 f) Q' := by
  have h6 := hW.1
  have h5 := hW.2.1
  have hsw : sw < 2 := by unfold rc_ord at ho; omega
  have hoo : o1 < V 12 1 ∧ o2 < V 12 1 := by unfold rc_ord at ho; omega
  have hWg := hW.2.2.2.2.2.1 g (by omega)
  have hWh := hW.2.2.2.2.2.1 h (by omega)
  have hlt := fun k (hk : k ≤ n') => rc_ev_lt (V := V) (row := row) (s0 := V 6 g) (s1 := V 6 h) hW.2.2.2.2.1 hWg.1 hWh.1 k (fun j hj => by have := hr6 j (by omega); omega)
  intro c
  induction c with
  | zero =>
    intro k f x6 x7 w9 w10 w11 w12 w13 w14 hk hb hf hx
    have : k = n' := by omega
    subst this
    have l := hlt k (Nat.le_refl _)
    have q := hQ f
    have eg : rc_gd2 V g h k row = (rc_wd V o1 (rc_ev V row (V 6 g) (V 6 h) k (2 * k + sw)) && rc_wd V o2 (rc_ev V row (V 6 g) (V 6 h) k (2 * k + 1 - sw))) := by
      unfold rc_gd2
      rw [hb, Bool.true_and]
      rcases ho with ⟨rfl, rfl, rfl⟩ | ⟨rfl, rfl, rfl⟩
      · rfl
      · rw [Bool.and_comm]; rfl
    rw [eg] at q
    have hM1 : rc_Mod (rc_up σ 103 f) V := hM.fq (rc_fq.up (by omega))
    refine rc_go 60 (And.intro (fun _ => ?_) (fun c => absurd (nI_le (Nat.le_refl _) (by omega)) c))
    refine t_isHad (V := V) rfl rfl (l _ (by omega)) (by omega) (hM1.2.2.2.2.2.1 o1 hoo.1).2.1 (hW.2.2.2.2.2.1 o1 hoo.1).2.1 (And.intro (fun c => ?_) (fun c => ?_))
    · rw [rc_bI_0.mp c, Bool.false_and] at q
      exact ⟨Or.inl rfl, q⟩
    · rw [rc_bool_t c, Bool.true_and] at q
      refine t_isHad (V := V) rfl rfl (l _ (by omega)) (by omega) (hM1.2.2.2.2.2.1 o2 hoo.2).2.1 (hW.2.2.2.2.2.1 o2 hoo.2).2.1 (And.intro (fun c => ?_) (fun c => ?_))
      · rw [rc_bI_0.mp c] at q
        exact ⟨Or.inl rfl, q⟩
      · rw [rc_bool_t c] at q
        exact ⟨Or.inr rfl, q⟩
  | succ c ih =>
    intro k f x6 x7 w9 w10 w11 w12 w13 w14 hk hb hf hx
    have l := hlt k (by omega)
    obtain ⟨a1, a2⟩ := hrow k (by omega)
    have p6 := hr6 (2 * k + sw) (by omega)
    have q6 := hr6 (2 * k + 1 - sw) (by omega)
    have hM1 : rc_Mod (rc_up σ 103 f) V := hM.fq (rc_fq.up (by omega))
    have h102 : ∀ j, rc_up σ 103 f 102 j = σ 102 j := fun j => by rw [rc_up_n _ _ (by decide)]
    have hpq : (row (2 * k + sw) = row (2 * k + 1 - sw)) ↔ row (2 * k) = row (2 * k + 1) := by
      rcases ho with ⟨rfl, _, _⟩ | ⟨rfl, _, _⟩
      · exact Iff.rfl
      · exact eq_comm
    have es : rc_hb2 V row (k + 1) = (rc_hb2 V row k && !(decide (row (2 * k) = row (2 * k + 1)) && decide (V 3 (row (2 * k)) < 2))) := rfl
    have hua : rc_ua (rc_up σ 103 f) k (2 * k - 2) (row (2 * k + sw)) (rc_u2 row (rc_ev V row (V 6 g) (V 6 h) k) k sw) x6 := by
      unfold rc_ua rc_u2
      rcases Nat.eq_zero_or_pos k with z | z
      · exact Or.inl ⟨z, if_neg (by omega)⟩
      · refine Or.inr ⟨z, row (2 * k + sw - 2), rc_ev V row (V 6 g) (V 6 h) k (2 * k + sw - 2), by have := hr6 (2 * k + sw - 2) (by omega); omega, l _ (by omega), ?_, (hx z).1, ?_⟩
        · have := (hrow (k - 1) (by omega)).1
          rw [h102, show 2 * k - 2 = 2 * (k - 1) by omega, this]
          congr 2; omega
        · by_cases e : row (2 * k + sw - 2) = row (2 * k + sw)
          · rw [if_pos ⟨z, e⟩, if_pos e]
          · rw [if_neg (fun y => e y.2), if_neg e]
    have hub : rc_ua (rc_up σ 103 f) k (2 * k - 1) (row (2 * k + 1 - sw)) (rc_u2 row (rc_ev V row (V 6 g) (V 6 h) k) k (1 - sw)) x7 := by
      unfold rc_ua rc_u2
      rw [show 2 * k + (1 - sw) = 2 * k + 1 - sw by omega]
      rcases Nat.eq_zero_or_pos k with z | z
      · exact Or.inl ⟨z, if_neg (by omega)⟩
      · refine Or.inr ⟨z, row (2 * k + 1 - sw - 2), rc_ev V row (V 6 g) (V 6 h) k (2 * k + 1 - sw - 2), by have := hr6 (2 * k + 1 - sw - 2) (by omega); omega, l _ (by omega), ?_, (hx z).2, ?_⟩
        · have := (hrow (k - 1) (by omega)).2
          rw [h102, show 2 * k - 1 = 2 * (k - 1) + 1 by omega, this]
          congr 2; omega
        · by_cases e : row (2 * k + 1 - sw - 2) = row (2 * k + 1 - sw)
          · rw [if_pos ⟨z, e⟩, if_pos e]
          · rw [if_neg (fun y => e y.2), if_neg e]
    have ea : rc_nV V (row (2 * k + sw)) (rc_ev V row (V 6 g) (V 6 h) k (2 * k + sw)) k (rc_lp row (rc_ev V row (V 6 g) (V 6 h) k) (row (2 * k + sw)) k) (if row (2 * k + sw) = row (2 * k + 1 - sw) then rc_ev V row (V 6 g) (V 6 h) k (2 * k + 1 - sw) + 1 else 0) (rc_u2 row (rc_ev V row (V 6 g) (V 6 h) k) k sw) = rc_ev V row (V 6 g) (V 6 h) (k + 1) (2 * (k + 1) + sw) := by
      rw [show 2 * (k + 1) + sw = 2 * k + 2 + sw by omega, rc_ev_n]
      unfold rc_pn rc_m2
      by_cases e : row (2 * k) = row (2 * k + 1)
      · rw [if_pos (hpq.mpr e), if_pos e]
      · rw [if_neg (fun z => e (hpq.mp z)), if_neg e]
    have eb : rc_nV V (row (2 * k + 1 - sw)) (rc_ev V row (V 6 g) (V 6 h) k (2 * k + 1 - sw)) k (rc_lp row (rc_ev V row (V 6 g) (V 6 h) k) (row (2 * k + 1 - sw)) k) (if row (2 * k + sw) = row (2 * k + 1 - sw) then rc_ev V row (V 6 g) (V 6 h) k (2 * k + sw) + 1 else 0) (rc_u2 row (rc_ev V row (V 6 g) (V 6 h) k) k (1 - sw)) = rc_ev V row (V 6 g) (V 6 h) (k + 1) (2 * (k + 1) + 1 - sw) := by
      rw [show 2 * (k + 1) + 1 - sw = 2 * k + 2 + (1 - sw) by omega, rc_ev_n]
      unfold rc_pn rc_m2
      rw [show 2 * k + (1 - sw) = 2 * k + 1 - sw by omega, show 2 * k + 1 - (1 - sw) = 2 * k + sw by omega]
      by_cases e : row (2 * k) = row (2 * k + 1)
      · rw [if_pos (hpq.mpr e), if_pos e]
      · rw [if_neg (fun z => e (hpq.mp z)), if_neg e]
    have eL : ∀ r, rc_nL (fun r => rc_lp row (rc_ev V row (V 6 g) (V 6 h) k) r k) (row (2 * k + sw)) (row (2 * k + 1 - sw)) (rc_ev V row (V 6 g) (V 6 h) k (2 * k + sw)) (rc_ev V row (V 6 g) (V 6 h) k (2 * k + 1 - sw)) (o2 < o1) r = rc_lp row (rc_ev V row (V 6 g) (V 6 h) (k + 1)) r (k + 1) := fun r => by
      rw [rc_lp_s, rc_ev_s (by omega), rc_ev_s (by omega), rc_lp_cg (row' := row) (e' := rc_ev V row (V 6 g) (V 6 h) k) k (fun j hj => ⟨rfl, rc_ev_s (by omega)⟩)]
      unfold rc_nL
      rcases ho with ⟨rfl, rfl, rfl⟩ | ⟨rfl, rfl, rfl⟩
      · show (if r = row (2 * k + 1) ∧ (¬ row (2 * k) = row (2 * k + 1) ∨ _) then _ else if r = row (2 * k) then _ else _) = _
        by_cases z : row (2 * k) = r
        · rw [if_pos z]
          rw [if_neg (fun y => y.2.elim (fun q => q (z.trans y.1)) (fun q => absurd q (by omega))), if_pos z.symm]
          rfl
        · rw [if_neg z]
          by_cases z2 : row (2 * k + 1) = r
          · rw [if_pos z2, if_pos ⟨z2.symm, Or.inl (fun q => z (q.trans z2))⟩]
            rfl
          · rw [if_neg z2, if_neg (fun y => z2 y.1.symm), if_neg (fun y => z y.symm)]
      · show (if r = row (2 * k + 1 - 1) ∧ (¬ row (2 * k + 1) = row (2 * k + 1 - 1) ∨ _) then _ else if r = row (2 * k + 1) then _ else _) = _
        by_cases z : row (2 * k) = r
        · rw [if_pos z, if_pos ⟨z.symm, Or.inr hgh⟩]
          rfl
        · rw [if_neg z]
          rw [if_neg (fun y => z y.1.symm)]
          by_cases z2 : row (2 * k + 1) = r
          · rw [if_pos z2, if_pos z2.symm]
          · rw [if_neg z2, if_neg (fun y => z2 y.symm)]
    have nx : rc_hb2 V row (k + 1) = true → rc_Tc (d + 4) 159 100 [.ref 80, .int (nI o1), .int (nI o2), .int (nI n'), .int (nI (rc_ev V row (V 6 g) (V 6 h) k (2 * k + sw))), .int (nI (rc_ev V row (V 6 g) (V 6 h) k (2 * k + 1 - sw))), .int x6, .int x7, .int (nI k), .int (nI (row (2 * k + sw))), .int (nI (row (2 * k + 1 - sw))), w11, w12, w13, w14] [] (rc_up σ 103 f) Q' := fun hb' => by
      refine t_ab_100 (V := V) (L := fun r => rc_lp row (rc_ev V row (V 6 g) (V 6 h) k) r k) hM1 hW (by omega) (by omega) (by omega) p6 q6 (l _ (by omega)) (l _ (by omega)) (fun r hr => ⟨by rw [rc_up_s]; exact hf r hr, rc_lp_le k (fun j hj => l j (by omega))⟩) hua hub (fun f' w11 w12 w13 w14 hf' => ?_)
      rw [rc_uu]
      have key := ih (k + 1) f' (nI (rc_ev V row (V 6 g) (V 6 h) k (2 * k + sw))) (nI (rc_ev V row (V 6 g) (V 6 h) k (2 * k + 1 - sw))) (.int (nI (row (2 * k + sw)))) (.int (nI (row (2 * k + 1 - sw)))) w11 w12 w13 w14 (by omega) hb' (fun r hr => by rw [hf' r hr, eL r]) (fun _ => ⟨by rw [show 2 * (k + 1) + sw - 2 = 2 * k + sw by omega, rc_ev_s (by omega)], by rw [show 2 * (k + 1) + 1 - sw - 2 = 2 * k + 1 - sw by omega, rc_ev_s (by omega)]⟩)
      rw [← ea, ← eb] at key
      exact key
    refine rc_go 80 (And.intro (fun c1 => absurd c1 (nI_ge (by omega) (by omega))) (fun _ => ?_))
    refine And.intro (by rw [rc_2x]; exact rc_vi (n := 6) (by omega) (by decide)) (And.intro (by rw [rc_2x1]; exact rc_vi (n := 6) (by omega) (by decide)) ?_)
    rw [rc_2x1, rc_2x, rc_ci (show 2 * k ≤ 2000 by omega), rc_ci (show 2 * k + 1 ≤ 2000 by omega), h102, h102, a1, a2]
    refine And.intro (fun c => ?_) (fun c => ?_)
    · exact nx (by rw [es, hb, decide_eq_false (fun z => c (by rw [hpq.mpr z]))]; rfl)
    · have ce := (nI_eq (by omega) (by omega)).mp c
      have ce' := hpq.mp ce
      have cp : row (2 * k + sw) = row (2 * k) := by
        rcases ho with ⟨rfl, _, _⟩ | ⟨rfl, _, _⟩
        · rfl
        · exact ce'.symm
      have h3 := (hM1.2.2.2.2.1 _ p6).2.2.2.1
      have w3 := (hW.2.2.2.2.1 (row (2 * k + sw)) (by omega)).2.2.2.1
      refine And.intro (rc_vi (n := 6) (by omega) (by decide)) ?_
      rw [rc_ci (by omega), h3]
      refine And.intro (fun c2 => ?_) (fun c2 => ?_)
      · exact nx (by rw [es, hb, decide_eq_false (p := V 3 (row (2 * k)) < 2) (fun z => by rw [← cp] at z; exact nI_ge z (by decide) c2), Bool.and_false]; rfl)
      · have hz : rc_hb2 V row n' = false := rc_alls_f (k := k) (by omega) (by
          rw [decide_eq_true ce', ← cp, decide_eq_true (Nat.lt_of_not_le (fun z => c2 (nI_le z (by omega))))]; rfl)
        have q := hQ f
        unfold rc_gd2 at q
        rw [hz, Bool.false_and] at q
        exact ⟨Or.inl rfl, q⟩
theorem t_areBoth {x y z : Int32} {o1 o2 g h sw n' : Nat} {row : Nat → Nat} (hx : x = nI o1) (hy : y = nI o2) (hz : z = nI n') (hM : rc_Mod σ V) (hW : rc_WF n V) (hn : n' ≤ 2) (hgh : g < h) (hh : h < V 12 1) (ho : rc_ord sw o1 o2 g h) (hrow : ∀ k, k < n' → σ 102 (2 * k) = nI (row (2 * k + sw)) ∧ σ 102 (2 * k + 1) = nI (row (2 * k + 1 - sw))) (hr6 : ∀ j, j < 2 * n' → row j < V 12 0) (hQ : ∀ f, Q (rc_bI (rc_gd2 V g h n' row)) (rc_up σ 103 f)) : rc_TI (d + 4) 159 [.ref 80, .int x, .int y, .int z] σ Q := by
  subst hx; subst hy; subst hz
  have h5 := hW.2.1
  have hoo : o1 < V 12 1 ∧ o2 < V 12 1 := by unfold rc_ord at ho; omega
  have e1 := (hM.2.2.2.2.2.1 o1 hoo.1).1
  have e2 := (hM.2.2.2.2.2.1 o2 hoo.2).1
  have s1 : V 6 o1 = rc_ev V row (V 6 g) (V 6 h) 0 (2 * 0 + sw) := by rcases ho with ⟨rfl, rfl, rfl⟩ | ⟨rfl, rfl, rfl⟩ <;> rfl
  have s2 : V 6 o2 = rc_ev V row (V 6 g) (V 6 h) 0 (2 * 0 + 1 - sw) := by rcases ho with ⟨rfl, rfl, rfl⟩ | ⟨rfl, rfl, rfl⟩ <;> rfl
  rw [s1] at e1
  rw [s2] at e2
  have key := t_ab_3 (d := d + 4) (σ := σ) (x3 := nI n') (by omega) (by omega) e1 e2 (Q' := fun v σ => ∃ x, v = some (.int x) ∧ Q x σ) (fun f w9 w10 w11 w12 w13 w14 hf => t_ab_50 (V := V) (row := row) hM hW hn hgh hh ho hrow hr6 (fun f => ⟨_, rfl, hQ f⟩) n' 0 f 0 0 w9 w10 w11 w12 w13 w14 (by omega) rfl hf (fun z => absurd z (by omega))) 6 0 (σ 103) .null .null .null .null .null .null .null .null .null .null rfl (fun i hi => absurd hi (by omega))
  rw [rc_ui] at key
  exact rc_go 40 key
end RPn
