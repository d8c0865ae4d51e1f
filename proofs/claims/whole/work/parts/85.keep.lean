section RKp
variable {d n : Nat} {σ : rc_M} {P : rc_P} {V : rc_V}
/-! what every call keeps -/
def rc_WI (n : Nat) (P : rc_P) : Prop := rc_WP n P ∧ rc_W2 (pV P) ∧ (pim P = true → rc_W2 (pU P))
theorem rc_WF.mono (h : rc_WF n V) : rc_WF (n + 1) V := ⟨h.1, h.2.1, Nat.le_succ_of_le h.2.2.1, h.2.2.2⟩
theorem rc_WP.mono (h : rc_WP n P) : rc_WP (n + 1) P := ⟨h.1.mono, fun z => (h.2.1 z).mono, h.2.2⟩
theorem rc_WI.mono (h : rc_WI n P) : rc_WI (n + 1) P := ⟨h.1.mono, h.2⟩
def rc_q (P : rc_P) (o : Int32 × rc_P) : Prop := o.2 = P ∨ ∃ w, o.2 = rc_no P w
theorem rc_qp {x : Int32} : rc_q P (x, P) := Or.inl rfl
theorem rc_qn {w : Nat} : rc_q P (o_no P w) := Or.inr ⟨w, rfl⟩
theorem rc_qc {b : Bool} {o1 o2 : Int32 × rc_P} (h1 : rc_q P o1) (h2 : rc_q P o2) : rc_q P (cond b o1 o2) := by cases b <;> assumption
theorem rc_qi {c : Prop} [Decidable c] {o1 o2 : Int32 × rc_P} (h1 : rc_q P o1) (h2 : rc_q P o2) : rc_q P (if c then o1 else o2) := by split <;> assumption
theorem rc_q.W {o : Int32 × rc_P} (hq : rc_q P o) (h : rc_WI n P) : rc_WI (n + 1) o.2 := by
  rcases hq with e | ⟨w, e⟩
  · rw [e]; exact h.mono
  · rw [e]; exact h.mono
theorem q_room {x y : Int32} : rc_q P (o_room P x y) := rc_qc rc_qn (rc_qc rc_qn rc_qp)
theorem q_guest {x y : Int32} : rc_q P (o_guest P x y) := rc_qc rc_qn (rc_qc rc_qn rc_qp)
theorem q_makes {x y z : Int32} : rc_q P (o_makes P x y z) := rc_qc rc_qn (rc_qi rc_qn (rc_qi rc_qn rc_qp))
theorem q_fewest {x y : Int32} : rc_q P (o_fewest P x y) := rc_qc rc_qn rc_qp
theorem q_cheapest {x y : Int32} : rc_q P (o_cheapest P x y) := rc_qc rc_qn rc_qp
theorem q_rowOf {x y z w : Int32} : rc_q P (o_rowOf P x y z w) := rc_qc rc_qn (rc_qc rc_qn (rc_qi rc_qn rc_qp))
theorem q_becomes {x y : Int32} : rc_q P (o_becomes P x y) := rc_qc rc_qn (rc_qi rc_qn (rc_qi rc_qn rc_qp))
theorem q_both {x y : Int32} : rc_q P (o_both P x y) := rc_qc rc_qn (rc_qc rc_qn (rc_qi rc_qn rc_qp))
theorem q_asWent : rc_q P (o_asWent P) := rc_qp
theorem q_alike : rc_q P (o_alike P) := rc_qp
theorem q_changes {x : Int32} : rc_q P (o_changes P x) := rc_qi rc_qn (rc_qi rc_qn rc_qp)
theorem q_needed : rc_q P (o_needed P) := rc_qp
theorem q_was {x y z w : Int32} : rc_q P (o_was P x y z w) := rc_qc rc_qn (rc_qc rc_qn (rc_qi rc_qn (rc_qi rc_qn rc_qp)))
theorem q_fits {x : Int32} : rc_q P (o_fits P x) := rc_qc rc_qn rc_qp
theorem q_next {x : Int32} : rc_q P (o_next P x) := rc_qc rc_qn rc_qp
theorem q_sure {x : Int32} : rc_q P (o_sure P x) := rc_qc rc_qn rc_qp
theorem q_heirs {x y z : Int32} : rc_q P (o_heirs P x y z) := rc_qc rc_qn (rc_qi (rc_qi rc_qn (rc_qi rc_qn (rc_qc rc_qp rc_qn))) rc_qn)
theorem q_best {x y : Int32} : rc_q P (o_best P x y) := rc_qc rc_qn (rc_qi (rc_qi rc_qn rc_qp) rc_qn)
theorem q_week {x y : Int32} : rc_q P (o_week P x y) := rc_qi rc_qn (rc_qi rc_qn (rc_qi rc_qn rc_qp))
theorem q_count {x : Int32} : rc_q P (o_count P x) := rc_qc rc_qp rc_qp
/-- the two that are in a room with one stay two -/
def rc_oc (V : rc_V) (r g : Nat) : Nat → Nat
  | 0 => 0
  | k + 1 => rc_oc V r g k + if k ≠ g ∧ V 9 k = r + 1 then 1 else 0
theorem rc_oc_le {r g : Nat} : ∀ k, rc_oc V r g k ≤ k := by
  intro k
  induction k with
  | zero => exact Nat.le_refl _
  | succ k ih => rw [rc_oc]; split <;> omega
theorem rc_ss (a b : Int32) : a - b - 1 = a - (b + 1) := by rw [Int32.sub_eq_add_neg, Int32.sub_eq_add_neg, Int32.sub_eq_add_neg, Int32.neg_add, Int32.sub_eq_add_neg, Int32.add_assoc]
theorem rc_free_oc {r g : Nat} : ∀ k, rc_free V r g k = nI (V 3 r) - nI (rc_oc V r g k) := by
  intro k
  induction k with
  | zero => rw [rc_free, rc_oc]; show _ = nI (V 3 r) - 0; rw [Int32.sub_zero]
  | succ k ih =>
    rw [rc_free, rc_oc]
    by_cases c : k ≠ g ∧ V 9 k = r + 1
    · rw [if_pos c, if_pos c, ih, ← nI_1, rc_ss]
    · rw [if_neg c, if_neg c, ih, Nat.add_zero]
theorem rc_oc_mono {r g : Nat} : ∀ (k j : Nat), j ≤ k → rc_oc V r g j ≤ rc_oc V r g k := by
  intro k
  induction k with
  | zero => intro j hj; have : j = 0 := by omega
            subst this; exact Nat.le_refl _
  | succ k ih =>
    intro j hj
    by_cases e : j = k + 1
    · subst e; exact Nat.le_refl _
    · rw [rc_oc]; have := ih j (by omega); omega
theorem rc_3_5 : ∀ a, a < 3 → ∀ c, c < 6 → 0 < nI a - nI c → c < a := by decide +kernel
theorem rc_two {r g m : Nat} (hm : m ≤ 5) (hb : V 3 r ≤ 2) (hf : 0 < rc_free V r g m) {k1 k2 : Nat} (h1 : k1 < m) (h2 : k2 < m) (n1 : k1 ≠ g) (n2 : k2 ≠ g) (e1 : V 9 k1 = r + 1) (e2 : V 9 k2 = r + 1) : k1 = k2 := by
  rw [rc_free_oc] at hf
  have hl := rc_oc_le (V := V) (r := r) (g := g) m
  have hlt := rc_3_5 (V 3 r) (by omega) _ (by omega) hf
  have key : ∀ a b, a < b → b < m → a ≠ g → b ≠ g → V 9 a = r + 1 → V 9 b = r + 1 → False := fun a b hab hbm na nb ea eb => by
    have s1 : rc_oc V r g (a + 1) = rc_oc V r g a + 1 := by rw [rc_oc, if_pos ⟨na, ea⟩]
    have s2 : rc_oc V r g (b + 1) = rc_oc V r g b + 1 := by rw [rc_oc, if_pos ⟨nb, eb⟩]
    have s3 := rc_oc_mono (V := V) (r := r) (g := g) b (a + 1) (by omega)
    have s4 := rc_oc_mono (V := V) (r := r) (g := g) m (b + 1) (by omega)
    omega
  rcases Nat.lt_trichotomy k1 k2 with z | z | z
  · exact (key k1 k2 z h2 n1 n2 e1 e2).elim
  · exact z
  · exact (key k2 k1 z h1 n2 n1 e2 e1).elim
theorem rc_sleep_2 {r g : Nat} (hng : V 12 1 ≤ 5) (hb : V 3 r ≤ 2) (h2 : rc_W2 V) (hf : 0 < rc_free V r g (V 12 1)) : rc_W2 (rc_vs V 9 g (r + 1)) := by
  have ev : ∀ x, rc_vs V 9 g (r + 1) 9 x = if x = g then r + 1 else V 9 x := fun x => by
    by_cases e : x = g
    · subst e; rw [rc_vs_s, if_pos rfl]
    · rw [rc_vs_n _ e, if_neg e]
  have en : rc_vs V 9 g (r + 1) 12 = V 12 := rc_vs_k V (by decide)
  intro a b c ha hb' hc hz e1 e2 n1 n2
  rw [en] at ha hb' hc
  rw [ev] at hz
  rw [ev, ev] at e1
  rw [ev, ev] at e2
  have two := fun {k1 k2} => rc_two (V := V) (r := r) (g := g) (k1 := k1) (k2 := k2) hng hb hf
  by_cases ca : a = g
  · rw [if_pos ca] at e1 e2
    rw [if_neg (fun z => n1 (z.trans ca.symm))] at e1
    rw [if_neg (fun z => n2 (z.trans ca.symm))] at e2
    exact two hb' hc (fun z => n1 (z.trans ca.symm)) (fun z => n2 (z.trans ca.symm)) e1 e2
  · rw [if_neg ca] at hz e1 e2
    by_cases cb : b = g
    · rw [if_pos cb] at e1
      by_cases cc : c = g
      · rw [cb, cc]
      · rw [if_neg cc] at e2
        exact absurd (two hc ha cc ca (e2.trans e1.symm) e1.symm) n2
    · rw [if_neg cb] at e1
      by_cases cc : c = g
      · rw [if_pos cc] at e2
        exact absurd (two hb' ha cb ca (e1.trans e2.symm) e2.symm) n1
      · rw [if_neg cc] at e2
        exact h2 a b c ha hb' hc hz e1 e2 n1 n2
theorem rc_stay_2 {g : Nat} (h2 : rc_W2 V) : rc_W2 (rc_vs V 9 g 0) := by
  have ev : ∀ x, rc_vs V 9 g 0 9 x = if x = g then 0 else V 9 x := fun x => by
    by_cases e : x = g
    · subst e; rw [rc_vs_s, if_pos rfl]
    · rw [rc_vs_n _ e, if_neg e]
  have en : rc_vs V 9 g 0 12 = V 12 := rc_vs_k V (by decide)
  intro a b c ha hb' hc hz e1 e2 n1 n2
  rw [en] at ha hb' hc
  rw [ev] at hz
  rw [ev, ev] at e1
  rw [ev, ev] at e2
  by_cases ca : a = g
  · rw [if_pos ca] at hz; exact absurd rfl hz
  · rw [if_neg ca] at hz e1 e2
    by_cases cb : b = g
    · rw [if_pos cb] at e1; exact absurd e1.symm hz
    · rw [if_neg cb] at e1
      by_cases cc : c = g
      · rw [if_pos cc] at e2; exact absurd e2.symm hz
      · rw [if_neg cc] at e2
        exact h2 a b c ha hb' hc hz e1 e2 n1 n2
theorem w_letter {c : Int32} (h : rc_WI n P) : rc_WI (n + 1) (o_letter P c).2 := by
  refine ⟨(o_letter_W h.1).mono, ?_⟩
  unfold o_letter
  split
  · exact h.2
  · split
    · exact h.2
    · exact h.2
theorem w_row {c : Int32} (h : rc_WI n P) : rc_WI (n + 1) (o_row P c).2 := by
  refine ⟨(o_row_W h.1).mono, ?_⟩
  unfold o_row
  split
  · exact h.2
  · split
    · exact h.2
    · exact h.2
theorem w_judge {x : Int32} (h : rc_WI n P) : rc_WI (n + 1) (o_judge P x).2 := by
  refine ⟨(o_judge_W h.1).mono, ?_⟩
  unfold o_judge
  cases rc_ob x (pV P 12 1)
  · exact h.2
  · exact h.2
theorem w_inn (h : rc_WI n P) : rc_WI (n + 1) (o_inn P).2 := by
  obtain ⟨a, b⟩ := o_inn_W h.1 h.2.1
  exact ⟨a.mono, b, h.2.2⟩
theorem w_image (h : rc_WI n P) : rc_WI (n + 1) (o_image P).2 := ⟨(o_image_W h.1).mono, h.2.1, fun _ => h.2.1⟩
theorem w_on (h : rc_WI n P) : rc_WI (n + 1) (o_on P).2 := by
  refine ⟨(o_on_W h.1).mono, ?_⟩
  unfold o_on
  cases hz : pim P with
  | false => exact h.2
  | true => exact ⟨h.2.2 hz, h.2.2⟩
theorem w_night (h : rc_WI n P) : rc_WI (n + 1) (o_night P).2 := by
  refine ⟨⟨rc_nf_W h.1.1, fun z => (h.1.2.1 z).mono, h.1.2.2⟩, ?_, h.2.2⟩
  intro a b c ha hb hc hz
  exact absurd (show rc_nf (pV P) 9 a = 0 by
    unfold rc_nf
    rw [rc_vs_k _ (by decide)]
    show (if 0 ≤ a then 0 else pV P 9 a) = 0
    rw [if_pos (Nat.zero_le _)]) hz
theorem w_stay {x : Int32} (h : rc_WI n P) : rc_WI (n + 1) (o_stay P x).2 := by
  refine ⟨(o_stay_W h.1).mono, ?_⟩
  unfold o_stay
  cases rc_ob x (pV P 12 1)
  · exact ⟨rc_stay_2 h.2.1, h.2.2⟩
  · exact h.2
theorem w_trial {x y : Int32} (h : rc_WI n P) : rc_WI (n + 1) (o_trial P x y).2 := by
  refine ⟨(o_trial_W h.1).mono, ?_⟩
  unfold o_trial
  cases rc_ob x 27 || rc_ob y 27
  · rw [cond_false]
    split
    · exact h.2
    · exact ⟨h.2.1, h.2.2⟩
  · exact h.2
theorem w_sleep {x y : Int32} (h : rc_WI n P) : rc_WI (n + 1) (o_sleep P x y).2 := by
  refine ⟨(o_sleep_W h.1).mono, ?_⟩
  have h5 := h.1.1.2.1
  have h6 := h.1.1.1
  rcases rc_out_or x (n := pV P 12 1) (by omega) with q | ⟨i, hi, rfl⟩
  · simp only [o_sleep, rc_ob_t q, Bool.true_or, cond_true]; exact h.2
  rcases rc_out_or y (n := pV P 12 0) (by omega) with q | ⟨j, hj, rfl⟩
  · simp only [o_sleep, rc_ob_t q, Bool.or_true, cond_true]; exact h.2
  simp only [o_sleep, rc_ob_f hi (show _ ≤ 2000 by omega), rc_ob_f hj (show _ ≤ 2000 by omega), Bool.or_false, cond_false, rc_ci (show i ≤ 2000 by omega), rc_ci (show j ≤ 2000 by omega)]
  split
  · rename_i hf
    exact ⟨rc_sleep_2 h5 (h.1.1.2.2.2.2.1 j (by omega)).2.2.2.1 h.2.1 hf, h.2.2⟩
  · exact h.2
end RKp
