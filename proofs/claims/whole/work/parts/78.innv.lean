section RIv
variable {d n L : Nat} {t : Nat → Nat} {σ : rc_M} {P : rc_P} {V : rc_V} {Q : Int32 → rc_M → Prop}
def ri_ar (t : Nat → Nat) (L : Nat) (V : rc_V) (s : Nat) : rc_V := fun f j => match f with
  | 0 => if j = V 12 0 then ri_kn (t (s + 1)) else V 0 j
  | 1 => if j = V 12 0 then ri_dv t (s + 2) else V 1 j
  | 2 => if 3 * V 12 0 ≤ j ∧ j < 3 * V 12 0 + 3 then ri_dv t (s + 3 + (j - 3 * V 12 0)) else V 2 j
  | 3 => if j = V 12 0 then ri_dv t (s + 6) else V 3 j
  | 4 => if j = V 12 0 then ri_pr t L s else V 4 j
  | 5 => if j = V 12 0 then 0 else V 5 j
  | 12 => if j = 0 then V 12 0 + 1 else V 12 j
  | k => V k j
def ri_ag (t : Nat → Nat) (V : rc_V) (s : Nat) : rc_V := fun f j => match f with
  | 6 => if j = V 12 1 then ri_dv t (s + 1) + ri_dv t (s + 2) * 3 + ri_dv t (s + 3) * 9 else V 6 j
  | 7 => if 3 * V 12 1 ≤ j ∧ j < 3 * V 12 1 + 3 then ri_dv t (s + 4 + (j - 3 * V 12 1)) else V 7 j
  | 8 => if j = V 12 1 then 0 else V 8 j
  | 9 => if j = V 12 1 then 0 else V 9 j
  | 10 => if j = V 12 1 then 0 else V 10 j
  | 12 => if j = 1 then V 12 1 + 1 else V 12 j
  | k => V k j
def ri_V (t : Nat → Nat) (L : Nat) (V : rc_V) : Nat → rc_V
  | 0 => V
  | i + 1 => cond (ri_isr t L i) (ri_ar t L (ri_V t L V i) (ri_S t L i)) (ri_ag t (ri_V t L V i) (ri_S t L i))
theorem ri_V_n : ∀ i, ri_V t L V i 12 0 = ri_cr t L (V 12 0) i ∧ ri_V t L V i 12 1 = ri_cg t L (V 12 1) i := by
  intro i
  induction i with
  | zero => exact ⟨rfl, rfl⟩
  | succ i ih =>
    rw [ri_V, ri_cr, ri_cg]
    cases hz : ri_isr t L i with
    | true =>
      refine ⟨?_, ?_⟩
      · show ri_V t L V i 12 0 + 1 = _
        rw [ih.1]; rfl
      · show ri_V t L V i 12 1 = _
        rw [ih.2]; rfl
    | false =>
      refine ⟨?_, ?_⟩
      · show ri_V t L V i 12 0 = _
        rw [ih.1]; rfl
      · show ri_V t L V i 12 1 + 1 = _
        rw [ih.2]; rfl
/-- a room that may come, a guest that may come -/
def ri_okr (t : Nat → Nat) (L s : Nat) : Prop := ri_kn (t (s + 1)) < 7 ∧ ri_dv t (s + 2) ≤ 2 ∧ (∀ v, v < 3 → ri_dv t (s + 3 + v) ≤ 2) ∧ ri_dv t (s + 6) ≤ 2 ∧ ri_pr t L s ≤ 99
def ri_okg (t : Nat → Nat) (s : Nat) : Prop := (∀ v, v < 3 → ri_dv t (s + 1 + v) ≤ 2) ∧ ∀ v, v < 3 → ri_dv t (s + 4 + v) ≤ 3
theorem ri_ok_r {i br bg : Nat} (hok : (ri_st t L (ri_S t L i)).2 = true) (hr : ri_isr t L i = true) (hf : ri_fit t L br bg i = true) : ri_okr t L (ri_S t L i) ∧ ri_cr t L br i < 6 := by
  have hk := (ri_st_t hok).2.2.2.2.1 hr
  have hd := (ri_dig hok).1 hr
  unfold ri_fit ri_rok at hf
  rw [hr, cond_true, Bool.and_eq_true, Bool.and_eq_true, Bool.and_eq_true, Bool.and_eq_true] at hf
  obtain ⟨f1, f2, f3, f4, f5⟩ := hf
  refine ⟨⟨?_, ?_, fun v hv => ?_, of_decide_eq_true f5, ?_⟩, of_decide_eq_true f1⟩
  · unfold ri_kok at hk; rw [Bool.and_eq_true] at hk; exact of_decide_eq_true hk.2
  · have := rc_alls_t f2 0 (by decide); exact of_decide_eq_true this
  · have := rc_alls_t f3 v hv; exact of_decide_eq_true this
  · have h7 := (ri_isd_v (hd 5 (by decide))).2.2
    have h7 : t (ri_S t L i + 7) ≤ 57 := h7
    unfold ri_pr
    split
    · rename_i h8
      have h8 := (ri_isd_v h8).2.2
      unfold ri_dv
      omega
    · unfold ri_dv; omega
theorem ri_ok_g {i br bg : Nat} (hr : ri_isr t L i = false) (hf : ri_fit t L br bg i = true) : ri_okg t (ri_S t L i) ∧ ri_cg t L bg i < 5 := by
  unfold ri_fit ri_gok at hf
  rw [hr, cond_false, Bool.and_eq_true, Bool.and_eq_true] at hf
  obtain ⟨f1, f2, f3⟩ := hf
  exact ⟨⟨fun v hv => of_decide_eq_true (rc_alls_t f2 v hv), fun v hv => of_decide_eq_true (rc_alls_t f3 v hv)⟩, of_decide_eq_true f1⟩
theorem ri_ar_W {s : Nat} (h : rc_WF n V) (hb : V 12 0 < 6) (ho : ri_okr t L s) : rc_WF n (ri_ar t L V s) := by
  obtain ⟨h1, h2, h3, h4, h5, h6, h7⟩ := h
  obtain ⟨o1, o2, o3, o4, o5⟩ := ho
  refine ⟨by show V 12 0 + 1 ≤ 6; omega, h2, h3, h4, fun i hi => ?_, fun g hg => ?_, h7⟩
  · obtain ⟨w1, w2, w3, w4, w5, w6⟩ := h5 i hi
    refine ⟨?_, ?_, fun v hv => ?_, ?_, ?_, ?_⟩
    · show (if i = V 12 0 then ri_kn (t (s + 1)) else V 0 i) < 7
      split <;> assumption
    · show (if i = V 12 0 then ri_dv t (s + 2) else V 1 i) < 3
      split <;> omega
    · show (if 3 * V 12 0 ≤ 3 * i + v ∧ 3 * i + v < 3 * V 12 0 + 3 then ri_dv t (s + 3 + (3 * i + v - 3 * V 12 0)) else V 2 (3 * i + v)) < 3
      split
      · have := o3 (3 * i + v - 3 * V 12 0) (by omega); omega
      · exact w3 v hv
    · show (if i = V 12 0 then ri_dv t (s + 6) else V 3 i) ≤ 2
      split <;> assumption
    · show (if i = V 12 0 then ri_pr t L s else V 4 i) ≤ 99
      split <;> assumption
    · show (if i = V 12 0 then 0 else V 5 i) ≤ 27
      split <;> omega
  · obtain ⟨w1, w2, w3, w4, w5⟩ := h6 g hg
    exact ⟨w1, w2, by show V 9 g ≤ V 12 0 + 1; omega, w4, w5⟩
theorem ri_ag_W {s : Nat} (h : rc_WF n V) (hb : V 12 1 < 5) (ho : ri_okg t s) : rc_WF n (ri_ag t V s) := by
  obtain ⟨h1, h2, h3, h4, h5, h6, h7⟩ := h
  obtain ⟨o1, o2⟩ := ho
  refine ⟨h1, by show V 12 1 + 1 ≤ 5; omega, h3, h4, h5, fun g hg => ?_, h7⟩
  have hg : g < V 12 1 + 1 := hg
  by_cases e : g = V 12 1
  · have a0 := o1 0 (by decide)
    have a1 := o1 1 (by decide)
    have a2 := o1 2 (by decide)
    refine ⟨?_, fun v hv => ?_, ?_, ?_, fun hz => ?_⟩
    · show (if g = V 12 1 then ri_dv t (s + 1) + ri_dv t (s + 2) * 3 + ri_dv t (s + 3) * 9 else V 6 g) < 27
      rw [if_pos e]
      have a0 : ri_dv t (s + 1) ≤ 2 := a0
      have a1 : ri_dv t (s + 2) ≤ 2 := a1
      have a2 : ri_dv t (s + 3) ≤ 2 := a2
      omega
    · show (if 3 * V 12 1 ≤ 3 * g + v ∧ 3 * g + v < 3 * V 12 1 + 3 then ri_dv t (s + 4 + (3 * g + v - 3 * V 12 1)) else V 7 (3 * g + v)) ≤ 3
      rw [if_pos (by omega)]
      exact o2 _ (by omega)
    · show (if g = V 12 1 then 0 else V 9 g) ≤ V 12 0
      rw [if_pos e]; omega
    · show (if g = V 12 1 then 0 else V 10 g) ≤ 6
      rw [if_pos e]; omega
    · exact absurd (show (if g = V 12 1 then 0 else V 10 g) = 0 by rw [if_pos e]) hz
  · obtain ⟨w1, w2, w3, w4, w5⟩ := h6 g (by omega)
    refine ⟨?_, fun v hv => ?_, ?_, ?_, fun hz => ?_⟩
    · show (if g = V 12 1 then ri_dv t (s + 1) + ri_dv t (s + 2) * 3 + ri_dv t (s + 3) * 9 else V 6 g) < 27
      rw [if_neg e]; exact w1
    · show (if 3 * V 12 1 ≤ 3 * g + v ∧ 3 * g + v < 3 * V 12 1 + 3 then ri_dv t (s + 4 + (3 * g + v - 3 * V 12 1)) else V 7 (3 * g + v)) ≤ 3
      rw [if_neg (by omega)]; exact w2 v hv
    · show (if g = V 12 1 then 0 else V 9 g) ≤ V 12 0
      rw [if_neg e]; exact w3
    · show (if g = V 12 1 then 0 else V 10 g) ≤ 6
      rw [if_neg e]; exact w4
    · have hz : (if g = V 12 1 then 0 else V 10 g) ≠ 0 := hz
      rw [if_neg e] at hz
      exact w5 hz
theorem ri_ar_2 {s : Nat} (h : rc_W2 V) : rc_W2 (ri_ar t L V s) := h
theorem ri_ag_2 {s : Nat} (h : rc_W2 V) : rc_W2 (ri_ag t V s) := by
  intro g h' k hg hh hk hz e1 e2 n1 n2
  have hg : g < V 12 1 + 1 := hg
  have hh : h' < V 12 1 + 1 := hh
  have hk : k < V 12 1 + 1 := hk
  have ez : ∀ x, ri_ag t V s 9 x = if x = V 12 1 then 0 else V 9 x := fun _ => rfl
  rw [ez] at hz e1 e2
  rw [ez] at e1 e2
  by_cases c : g = V 12 1
  · rw [if_pos c] at hz; exact absurd rfl hz
  · rw [if_neg c] at hz e1 e2
    by_cases c1 : h' = V 12 1
    · rw [if_pos c1] at e1; exact absurd e1.symm hz
    · rw [if_neg c1] at e1
      by_cases c2 : k = V 12 1
      · rw [if_pos c2] at e2; exact absurd e2.symm hz
      · rw [if_neg c2] at e2
        exact h g h' k (by omega) (by omega) (by omega) hz e1 e2 n1 n2
theorem ri_V_W {br bg : Nat} (hT : ri_T t L) (h : rc_WF n V) (h2 : rc_W2 V) (hbr : br = V 12 0) (hbg : bg = V 12 1) : ∀ i, i ≤ ri_m t L → (∀ j, j < i → ri_fit t L br bg j = true) → rc_WF n (ri_V t L V i) ∧ rc_W2 (ri_V t L V i) := by
  obtain ⟨m1, m2, m3, m4⟩ := ri_mf hT
  intro i
  induction i with
  | zero => intro _ _; exact ⟨h, h2⟩
  | succ i ih =>
    intro hi hf
    obtain ⟨i1, i2⟩ := ih (by omega) (fun j hj => hf j (by omega))
    obtain ⟨e1, e2⟩ := ri_V_n (t := t) (L := L) (V := V) i
    rw [ri_V]
    cases hz : ri_isr t L i with
    | true =>
      obtain ⟨o1, o2⟩ := ri_ok_r (m3 i (by omega)) hz (hf i (by omega))
      exact ⟨ri_ar_W i1 (by rw [e1, ← hbr]; exact o2) o1, ri_ar_2 i2⟩
    | false =>
      obtain ⟨o1, o2⟩ := ri_ok_g hz (hf i (by omega))
      exact ⟨ri_ag_W i1 (by rw [e2, ← hbg]; exact o2) o1, ri_ag_2 i2⟩
def ri_ans (t : Nat → Nat) (L br bg : Nat) : Int32 := cond (ri_B t L) (if ri_u t L br bg < ri_m t L then -2000 - nI (ri_S t L (ri_u t L br bg)) else nI (ri_m t L)) (-1000 - nI (ri_st t L (ri_S t L (ri_m t L))).1)
def ri_nV (t : Nat → Nat) (L : Nat) (V : rc_V) : rc_V := cond (ri_B t L && decide (ri_u t L (V 12 0) (V 12 1) = ri_m t L)) (ri_V t L V (ri_m t L)) V
def o_inn (P : rc_P) : Int32 × rc_P := (ri_ans (ptp P) (pln P) (pV P 12 0) (pV P 12 1), (ri_nV (ptp P) (pln P) (pV P), P.2.1, P.2.2.1, P.2.2.2.1, 0, P.2.2.2.2.2))
theorem ri_nV_W (hT : ri_T t L) (h : rc_WF n V) (h2 : rc_W2 V) : rc_WF n (ri_nV t L V) ∧ rc_W2 (ri_nV t L V) := by
  unfold ri_nV
  cases hz : (ri_B t L && decide (ri_u t L (V 12 0) (V 12 1) = ri_m t L)) with
  | false => rw [cond_false]; exact ⟨h, h2⟩
  | true =>
    rw [cond_true]
    rw [Bool.and_eq_true] at hz
    have hu := of_decide_eq_true hz.2
    refine ri_V_W hT h h2 rfl rfl (ri_m t L) (Nat.le_refl _) (fun j hj => ?_)
    obtain ⟨_, _, c⟩ := rc_ff_f (p := fun i => !ri_fit t L (V 12 0) (V 12 1) i) (ri_m t L)
    have c := c j (by rw [show rc_ff (fun i => !ri_fit t L (V 12 0) (V 12 1) i) (ri_m t L) = ri_m t L from hu]; exact hj)
    cases hy : ri_fit t L (V 12 0) (V 12 1) j with
    | true => rfl
    | false => rw [hy] at c; exact absurd c (by decide)
theorem o_inn_W (h : rc_WP n P) (h2 : rc_W2 (pV P)) : rc_WP n (o_inn P).2 ∧ rc_W2 (pV (o_inn P).2) := by
  obtain ⟨a1, a2, a3, a4⟩ := h
  obtain ⟨b1, b2⟩ := ri_nV_W (n := n) (t := ptp P) (L := pln P) a3 a1 h2
  exact ⟨⟨b1, a2, ⟨Nat.zero_le _, fun j hj => absurd hj (by show ¬ j < 0; omega)⟩, a4⟩, b2⟩
theorem ri_CP {σ' : rc_M} {V' : rc_V} {L' : Nat} (hI : rc_CP σ P) (hW : rc_WP n P) (hc : rc_Cls 0 σ' V') (e : ∀ k, k ≤ 2 ∨ (31 ≤ k ∧ k ≤ 58) ∨ k = 60 ∨ k = 76 ∨ k = 77 → σ' k = σ k) (h59 : σ' 59 1 = nI L') (hL' : L' ≤ pln P) : rc_CP σ' (V', P.2.1, P.2.2.1, P.2.2.2.1, L', P.2.2.2.2.2) := by
  obtain ⟨h1, h2, h3, h4, h5, h6, h7⟩ := hI
  refine ⟨?_, hc, ⟨h59, fun j hj => ?_⟩, ?_, fun j hj => ?_, ?_, fun hi => (h7 hi).at (hW.2.1 hi).2.1 (fun k _ _ _ => e k (by omega))⟩
  · rw [e _ (by omega)]; exact h1
  · rw [e 60 (by omega)]; exact h3.2 j (Nat.lt_of_lt_of_le hj hL')
  · rw [e 2 (by omega), e 76 (by omega)]; exact h4
  · rw [e _ (by omega)]; exact h5 j hj
  · rw [e _ (by omega)]; exact h6
theorem ri_Cls_r {σ' : rc_M} {s : Nat} (h : rc_Cls 0 σ V) (hW : rc_WF n V) (hb : V 12 0 < 6) (f1 : ∀ k, k ≠ 3 → k ≠ 9 + 2 * V 12 0 → k ≠ 10 + 2 * V 12 0 → σ' k = σ k) (f2 : ∀ j, j ≠ 1 → σ' 3 j = σ 3 j) (f3 : σ' 3 1 = nI (V 12 0 + 1)) (f4 : σ' (9 + 2 * V 12 0) 0 = nI (ri_kn (t (s + 1)))) (f5 : σ' (9 + 2 * V 12 0) 1 = nI (ri_dv t (s + 2))) (f6 : ∀ v, v < 3 → σ' (10 + 2 * V 12 0) v = nI (ri_dv t (s + 3 + v))) (f7 : σ' (9 + 2 * V 12 0) 3 = nI (ri_dv t (s + 6))) (f8 : σ' (9 + 2 * V 12 0) 4 = nI (ri_pr t L s)) (f9 : σ' (9 + 2 * V 12 0) 5 = -9) : rc_Cls 0 σ' (ri_ar t L V s) := by
  obtain ⟨h1, h2, h3, h4, h5, h6, h7⟩ := h
  have w1 := hW.2.1
  refine ⟨f3, ?_, ?_, ?_, fun i hi => ?_, fun g hg => ?_, fun u hu => ?_⟩
  · show σ' 3 3 = _; rw [f2 3 (by decide)]; exact h2
  · show σ' 3 4 = _; rw [f2 4 (by decide)]; exact h3
  · show σ' 3 7 = _; rw [f2 7 (by decide)]; exact h4
  · obtain ⟨d1, d2, d3, d4, d5, d6⟩ := h5 i hi
    by_cases e : i = V 12 0
    · subst e
      refine ⟨?_, ?_, fun v hv => ?_, ?_, ?_, ?_⟩
      · show σ' (9 + 2 * V 12 0) 0 = nI (if V 12 0 = V 12 0 then ri_kn (t (s + 1)) else V 0 (V 12 0)); rw [if_pos rfl]; exact f4
      · show σ' (9 + 2 * V 12 0) 1 = nI (if V 12 0 = V 12 0 then ri_dv t (s + 2) else V 1 (V 12 0)); rw [if_pos rfl]; exact f5
      · show σ' (10 + 2 * V 12 0) v = nI (if 3 * V 12 0 ≤ 3 * V 12 0 + v ∧ 3 * V 12 0 + v < 3 * V 12 0 + 3 then ri_dv t (s + 3 + (3 * V 12 0 + v - 3 * V 12 0)) else V 2 (3 * V 12 0 + v))
        rw [if_pos (by omega), show 3 * V 12 0 + v - 3 * V 12 0 = v by omega]; exact f6 v hv
      · show σ' (9 + 2 * V 12 0) 3 = nI (if V 12 0 = V 12 0 then ri_dv t (s + 6) else V 3 (V 12 0)); rw [if_pos rfl]; exact f7
      · show σ' (9 + 2 * V 12 0) 4 = nI (if V 12 0 = V 12 0 then ri_pr t L s else V 4 (V 12 0)); rw [if_pos rfl]; exact f8
      · show σ' (9 + 2 * V 12 0) 5 = rc_cI (if V 12 0 = V 12 0 then 0 else V 5 (V 12 0)); rw [if_pos rfl]; exact f9
    · have g1 : σ' (9 + 2 * i) = σ (9 + 2 * i) := f1 _ (by omega) (by omega) (by omega)
      have g2 : σ' (10 + 2 * i) = σ (10 + 2 * i) := f1 _ (by omega) (by omega) (by omega)
      refine ⟨?_, ?_, fun v hv => ?_, ?_, ?_, ?_⟩
      · show σ' (9 + 2 * i) 0 = nI (if i = V 12 0 then ri_kn (t (s + 1)) else V 0 i); rw [if_neg e, g1]; exact d1
      · show σ' (9 + 2 * i) 1 = nI (if i = V 12 0 then ri_dv t (s + 2) else V 1 i); rw [if_neg e, g1]; exact d2
      · show σ' (10 + 2 * i) v = nI (if 3 * V 12 0 ≤ 3 * i + v ∧ 3 * i + v < 3 * V 12 0 + 3 then ri_dv t (s + 3 + (3 * i + v - 3 * V 12 0)) else V 2 (3 * i + v))
        rw [if_neg (by omega), g2]; exact d3 v hv
      · show σ' (9 + 2 * i) 3 = nI (if i = V 12 0 then ri_dv t (s + 6) else V 3 i); rw [if_neg e, g1]; exact d4
      · show σ' (9 + 2 * i) 4 = nI (if i = V 12 0 then ri_pr t L s else V 4 i); rw [if_neg e, g1]; exact d5
      · show σ' (9 + 2 * i) 5 = rc_cI (if i = V 12 0 then 0 else V 5 i); rw [if_neg e, g1]; exact d6
  · have hg : g < V 12 1 := hg
    exact (h6 g hg).fr (f1 _ (by omega) (by omega) (by omega)) (f1 _ (by omega) (by omega) (by omega))
  · have hu : u < V 12 3 := hu
    show σ' 6 u = nI (V 13 u) ∧ σ' 7 u = nI (V 14 u)
    rw [f1 6 (by omega) (by omega) (by omega), f1 7 (by omega) (by omega) (by omega)]
    exact h7 u hu
theorem ri_Cls_g {σ' : rc_M} {s : Nat} (h : rc_Cls 0 σ V) (hb : V 12 1 < 5) (f1 : ∀ k, k ≠ 3 → k ≠ 21 + 2 * V 12 1 → k ≠ 22 + 2 * V 12 1 → σ' k = σ k) (f2 : ∀ j, j ≠ 3 → σ' 3 j = σ 3 j) (f3 : σ' 3 3 = nI (V 12 1 + 1)) (f4 : σ' (21 + 2 * V 12 1) 0 = nI (ri_dv t (s + 1) + ri_dv t (s + 2) * 3 + ri_dv t (s + 3) * 9)) (f5 : ∀ v, v < 3 → σ' (22 + 2 * V 12 1) v = nI (ri_dv t (s + 4 + v))) (f6 : σ' (21 + 2 * V 12 1) 2 = 0) (f7 : σ' (21 + 2 * V 12 1) 3 = -9) (f8 : σ' (21 + 2 * V 12 1) 4 = -9) : rc_Cls 0 σ' (ri_ag t V s) := by
  obtain ⟨h1, h2, h3, h4, h5, h6, h7⟩ := h
  refine ⟨?_, f3, ?_, ?_, fun i hi => ?_, fun g hg => ?_, fun u hu => ?_⟩
  · show σ' 3 1 = _; rw [f2 1 (by decide)]; exact h1
  · show σ' 3 4 = _; rw [f2 4 (by decide)]; exact h3
  · show σ' 3 7 = _; rw [f2 7 (by decide)]; exact h4
  · exact (h5 i hi).fr (f1 _ (by omega) (by omega) (by omega)) (f1 _ (by omega) (by omega) (by omega))
  · have hg : g < V 12 1 + 1 := hg
    by_cases e : g = V 12 1
    · subst e
      refine ⟨?_, fun v hv => ?_, ?_, ?_, ?_, fun hz => ?_⟩
      · show σ' (21 + 2 * V 12 1) 0 = nI (if V 12 1 = V 12 1 then ri_dv t (s + 1) + ri_dv t (s + 2) * 3 + ri_dv t (s + 3) * 9 else V 6 (V 12 1)); rw [if_pos rfl]; exact f4
      · show σ' (22 + 2 * V 12 1) v = nI (if 3 * V 12 1 ≤ 3 * V 12 1 + v ∧ 3 * V 12 1 + v < 3 * V 12 1 + 3 then ri_dv t (s + 4 + (3 * V 12 1 + v - 3 * V 12 1)) else V 7 (3 * V 12 1 + v))
        rw [if_pos (by omega), show 3 * V 12 1 + v - 3 * V 12 1 = v by omega]; exact f5 v hv
      · show σ' (21 + 2 * V 12 1) 2 = nI (if V 12 1 = V 12 1 then 0 else V 8 (V 12 1)); rw [if_pos rfl]; exact f6
      · show σ' (21 + 2 * V 12 1) 3 = rc_cI (if V 12 1 = V 12 1 then 0 else V 9 (V 12 1)); rw [if_pos rfl]; exact f7
      · show σ' (21 + 2 * V 12 1) 4 = rc_cI (if V 12 1 = V 12 1 then 0 else V 10 (V 12 1)); rw [if_pos rfl]; exact f8
      · exact absurd (show (if V 12 1 = V 12 1 then 0 else V 10 (V 12 1)) = 0 by rw [if_pos rfl]) hz
    · obtain ⟨d1, d2, d3, d4, d5, d6⟩ := h6 g (by omega)
      have g1 : σ' (21 + 2 * g) = σ (21 + 2 * g) := f1 _ (by omega) (by omega) (by omega)
      have g2 : σ' (22 + 2 * g) = σ (22 + 2 * g) := f1 _ (by omega) (by omega) (by omega)
      refine ⟨?_, fun v hv => ?_, ?_, ?_, ?_, fun hz => ?_⟩
      · show σ' (21 + 2 * g) 0 = nI (if g = V 12 1 then ri_dv t (s + 1) + ri_dv t (s + 2) * 3 + ri_dv t (s + 3) * 9 else V 6 g); rw [if_neg e, g1]; exact d1
      · show σ' (22 + 2 * g) v = nI (if 3 * V 12 1 ≤ 3 * g + v ∧ 3 * g + v < 3 * V 12 1 + 3 then ri_dv t (s + 4 + (3 * g + v - 3 * V 12 1)) else V 7 (3 * g + v))
        rw [if_neg (by omega), g2]; exact d2 v hv
      · show σ' (21 + 2 * g) 2 = nI (if g = V 12 1 then 0 else V 8 g); rw [if_neg e, g1]; exact d3
      · show σ' (21 + 2 * g) 3 = rc_cI (if g = V 12 1 then 0 else V 9 g); rw [if_neg e, g1]; exact d4
      · show σ' (21 + 2 * g) 4 = rc_cI (if g = V 12 1 then 0 else V 10 g); rw [if_neg e, g1]; exact d5
      · have hz : (if g = V 12 1 then 0 else V 10 g) ≠ 0 := hz
        rw [if_neg e] at hz
        show σ' (21 + 2 * g) 5 = nI (V 11 g)
        rw [g1]; exact d6 hz
  · have hu : u < V 12 3 := hu
    show σ' 6 u = nI (V 13 u) ∧ σ' 7 u = nI (V 14 u)
    rw [f1 6 (by omega) (by omega) (by omega), f1 7 (by omega) (by omega) (by omega)]
    exact h7 u hu
end RIv
