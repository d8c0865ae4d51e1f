section RJa
variable {d n L : Nat} {t : Nat → Nat} {σ : rc_M} {P : rc_P} {V : rc_V} {Q : Int32 → rc_M → Prop}
/-! an inn told in letters, the model's side -/
def ri_N (σ : rc_M) (t : Nat → Nat) (L : Nat) : Prop := (σ 80 24 = nI L ∧ ∀ j, j < L → σ 97 j = nI (t j)) ∧ (∀ k, k < 2 → σ 98 k = rc_srt k) ∧ ∀ k, k < 7 → σ 99 k = rc_kds k
theorem ri_N.fq {σ' : rc_M} (h : ri_N σ t L) (hf : rc_fq σ σ') : ri_N σ' t L := by
  obtain ⟨h1, h2, h3⟩ := h
  refine ⟨?_, ?_, ?_⟩
  · rw [hf 80 24 (by decide), hf.at (k := 97) (by omega)]; exact h1
  · rw [hf.at (k := 98) (by omega)]; exact h2
  · rw [hf.at (k := 99) (by omega)]; exact h3
/-- where it is, and whether all is well -/
def ri_A (σ : rc_M) (p : Nat) (w : Bool) : Prop := σ 80 25 = nI p ∧ σ 80 26 = rc_bI w
theorem rc_fq8 {x : Int32} {j : Nat} (hj : j = 25 ∨ j = 26 ∨ j = 29) : rc_fq σ (rc_up σ 80 (upd (σ 80) j x)) := fun k i hk => by
  by_cases e : k = 80
  · subst e
    rw [rc_up_s]
    by_cases e2 : i = j
    · subst e2; rcases hj with rfl | rfl | rfl <;> exact absurd hk (by decide)
    · rw [pk_un e2]
  · rw [rc_up_n _ _ e]
theorem t_comes {x : Int32} {c p : Nat} {w : Bool} (hx : x = nI c) (hc : c ≤ 255) (hp : p ≤ 1000) (hT : ri_T t L) (hN : ri_N σ t L) (hA : ri_A σ p w) (h : Q (rc_bI (ri_lr t L c p)) σ) : rc_TI d 131 [.ref 80, .int x] σ Q := by
  subst hx
  have hL := hT.1
  refine rc_go 40 (And.intro (fun c1 => ?_) (fun c1 => ?_))
  · rw [hN.1.1, hA.1] at c1
    have z : ri_lr t L c p = false := by unfold ri_lr; rw [decide_eq_false (fun z => nI_ge z (by omega) c1)]; rfl
    rw [z] at h
    exact ⟨Or.inl rfl, _, rfl, h⟩
  · rw [hN.1.1, hA.1] at c1
    have hlt : p < L := Nat.lt_of_not_le (fun z => c1 (nI_le z (by omega)))
    have ht := hT.2 p hlt
    refine And.intro (by rw [hA.1]; exact rc_vi (n := 64) (by omega) (by decide)) ?_
    rw [hA.1, rc_ci (by omega), hN.1.2 p hlt]
    refine And.intro (fun c2 => ?_) (fun c2 => ?_)
    · have z : ri_lr t L c p = false := by unfold ri_lr; rw [decide_eq_false (p := t p = c) (fun z => c2 (by rw [z])), Bool.and_false]
      rw [z] at h
      exact ⟨Or.inl rfl, _, rfl, h⟩
    · have z : ri_lr t L c p = true := by unfold ri_lr; rw [decide_eq_true hlt, decide_eq_true ((nI_eq (by omega) (by omega)).mp c2)]; rfl
      rw [z] at h
      exact ⟨Or.inr rfl, _, rfl, h⟩
theorem t_oneOf_b {q p len : Nat} (hl : (rc_lay q).1 = 2) (hlen : (rc_lay q).2.2 = len) (hl2 : len ≤ 100) (hq : 2 ≤ q) (hA : ri_A σ p false) (h : ∀ σ', rc_fq σ σ' → ri_A σ' p false → Q 0 σ') : rc_TI (d + 1) 132 [.ref 80, .ref q] σ Q := by
  have fin : rc_fq σ (rc_up σ 80 (upd (σ 80) 26 0)) ∧ ri_A (rc_up σ 80 (upd (σ 80) 26 0)) p false := ⟨rc_fq8 (by omega), by rw [ri_A, rc_up_s, pk_un (by decide)]; exact ⟨hA.1, by rw [pk_us]; rfl⟩⟩
  refine rc_go 40 (rc_go 40 (And.intro (Or.inr hl) (And.intro hq (And.intro (fun c => And.intro (fun c2 => absurd c2 (by decide)) (fun _ => And.intro (Or.inl rfl) ⟨_, rfl, h _ fin.1 fin.2⟩)) (fun _ => And.intro (fun _ => And.intro (fun c2 => absurd c2 (by decide)) (fun _ => And.intro (Or.inl rfl) ⟨_, rfl, h _ fin.1 fin.2⟩)) (fun c => absurd (show σ 80 26 = 0 by rw [hA.2]; rfl) c))))))
theorem t_oneOf_l {q p len : Nat} {cs : Nat → Nat} (hl : (rc_lay q).1 = 2) (hlen : (rc_lay q).2.2 = len) (hl2 : len ≤ 100) (hq : 2 ≤ q) (hcs : ∀ i, i < len → σ q i = nI (cs i) ∧ cs i ≤ 255) (hp : p ≤ 1000) (hT : ri_T t L) (hN : ri_N σ t L) (hA : ri_A σ p true) {Q' : Option Value → rc_M → Prop} (h1 : ∀ i, i < len → ri_lr t L (cs i) p = true → (∀ j, j < i → ri_lr t L (cs j) p = false) → Q' (some (.int (nI i))) (rc_up σ 80 (upd (σ 80) 25 (nI (p + 1))))) (h0 : (∀ j, j < len → ri_lr t L (cs j) p = false) → Q' (some (.int 0)) (rc_up σ 80 (upd (σ 80) 26 0))) : ∀ (c k : Nat), k + c = len → (∀ j, j < k → ri_lr t L (cs j) p = false) → rc_Tc (d + 1) 132 4 [.ref 80, .ref q, .int (-1), .int (nI k)] [] σ Q' := by
  have e25 : σ 80 25 + 1 = nI (p + 1) := by rw [hA.1, nI_1]
  intro c
  induction c with
  | zero =>
    intro k hk hf
    have : k = len := by omega
    subst this
    refine rc_go 40 (And.intro (Or.inr hl) (And.intro hq (And.intro (fun _ => And.intro (fun c2 => absurd c2 (by decide)) (fun _ => And.intro (Or.inl rfl) (h0 hf))) (fun c => absurd (by rw [hlen]; exact nI_le (Nat.le_refl _) (by omega)) c))))
  | succ c ih =>
    intro k hk hf
    obtain ⟨a1, a2⟩ := hcs k (by omega)
    refine rc_go 60 (And.intro (Or.inr hl) (And.intro hq (And.intro (fun c1 => absurd (by rw [hlen] at c1; exact c1) (nI_ge (by omega) (by omega))) (fun _ => And.intro (fun c2 => absurd (show σ 80 26 = 0 from c2) (by rw [hA.2]; decide)) (fun _ => And.intro (fun c2 => absurd c2 (by decide)) (fun _ => ?_))))))
    refine And.intro hl (And.intro (by rw [hlen]; exact rc_vi (by omega) (by omega)) ?_)
    refine t_comes (c := cs k) (by rw [rc_ci (by omega)]; exact a1) a2 hp hT hN hA (And.intro (fun c2 => ?_) (fun c2 => ?_))
    · have key := ih (k + 1) (by omega) (fun j hj => by
        by_cases e : j = k
        · subst e; exact rc_bI_0.mp c2
        · exact hf j (by omega))
      rw [← nI_1] at key
      exact key
    · have hq' := h1 k (by omega) (rc_bool_t c2) hf
      rw [← e25] at hq'
      refine rc_go 40 (And.intro (Or.inr hl) (And.intro hq (And.intro (fun _ => And.intro (fun _ => hq') (fun c => absurd (nI_pos' (by omega)) c)) (fun _ => And.intro (fun c => absurd (show σ 80 26 = 0 from c) (by rw [hA.2]; decide)) (fun _ => And.intro (fun _ => And.intro (fun _ => hq') (fun c => absurd (nI_pos' (by omega)) c)) (fun c => absurd (nI_pos' (by omega)) c))))))
theorem t_oneOf {q p len : Nat} {cs : Nat → Nat} (hl : (rc_lay q).1 = 2) (hlen : (rc_lay q).2.2 = len) (hl2 : len ≤ 100) (hq : 2 ≤ q) (hcs : ∀ i, i < len → σ q i = nI (cs i) ∧ cs i ≤ 255) (hp : p ≤ 1000) (hT : ri_T t L) (hN : ri_N σ t L) (hA : ri_A σ p true) (h1 : ∀ i, i < len → ri_lr t L (cs i) p = true → (∀ j, j < i → ri_lr t L (cs j) p = false) → ∀ σ', rc_fq σ σ' → σ' 80 29 = σ 80 29 → ri_A σ' (p + 1) true → Q (nI i) σ') (h0 : (∀ j, j < len → ri_lr t L (cs j) p = false) → ∀ σ', rc_fq σ σ' → ri_A σ' p false → Q 0 σ') : rc_TI (d + 1) 132 [.ref 80, .ref q] σ Q := by
  refine rc_go 20 (t_oneOf_l hl hlen hl2 hq hcs hp hT hN hA (fun i hi hz hf => ⟨_, rfl, h1 i hi hz hf _ (rc_fq8 (by omega)) (by rw [rc_up_s, pk_un (by decide)]) ⟨by rw [rc_up_s, pk_us], by rw [rc_up_s, pk_un (by decide)]; exact hA.2⟩⟩) (fun hf => ⟨_, rfl, h0 hf _ (rc_fq8 (by omega)) ⟨by rw [rc_up_s, pk_un (by decide)]; exact hA.1, by rw [rc_up_s, pk_us]; rfl⟩⟩) len 0 (by omega) (fun j hj => absurd hj (by omega)))
/-! figures -/
theorem t_fig_b {x : Int32} {p : Nat} (hA : ri_A σ p false) (h : ∀ σ', rc_fq σ σ' → σ' 100 = σ 100 → ri_A σ' p false → Q 0 σ') : rc_TI d 133 [.ref 80, .int x] σ Q := by
  have fin : rc_fq σ (rc_up σ 80 (upd (σ 80) 26 0)) ∧ ri_A (rc_up σ 80 (upd (σ 80) 26 0)) p false := ⟨rc_fq8 (by omega), by rw [ri_A, rc_up_s, pk_un (by decide)]; exact ⟨hA.1, by rw [pk_us]; rfl⟩⟩
  exact rc_go 40 (rc_go 40 (And.intro (fun _ => And.intro (fun c => absurd rfl c) (fun _ => And.intro (Or.inl rfl) ⟨_, rfl, h _ fin.1 (rc_up_n _ _ (by decide)) fin.2⟩)) (fun c => absurd (show σ 80 26 = 0 by rw [hA.2]; rfl) c)))
/-- one more figure is there, or none -/
theorem t_fig_4 {x1 x2 : Int32} {m k p : Nat} (hx1 : x1 = nI m) (hm : m ≤ 2) (hk : k < m) (hp : p ≤ 1000) (hT : ri_T t L) (hN : ri_N σ t L) (hA : ri_A σ p true) {Q' : Option Value → rc_M → Prop} (h1 : ri_isd t L p = true → rc_Tc d 133 4 [.ref 80, .int x1, .int (10 * x2 + nI (t p) - 48), .int (nI (k + 1))] [] (rc_up σ 80 (upd (σ 80) 25 (nI (p + 1)))) Q') (h0 : ri_isd t L p = false → Q' (some (.int x2)) (if k = 0 then rc_up σ 80 (upd (σ 80) 26 0) else σ)) : rc_Tc d 133 4 [.ref 80, .int x1, .int x2, .int (nI k)] [] σ Q' := by
  subst hx1
  have hL := hT.1
  have fin : ri_isd t L p = false → (¬ nI k = 0 → Q' (some (.int x2)) σ) ∧ (¬ ¬ nI k = 0 → (0 : Int32) = 0 ∨ (0 : Int32) = 1) ∧ (¬ ¬ nI k = 0 → Q' (some (.int x2)) (rc_up σ 80 (upd (σ 80) 26 0))) := fun z => by
    have h := h0 z
    refine ⟨fun c => ?_, fun _ => Or.inl rfl, fun c => ?_⟩
    · rw [if_neg (fun e => c (by rw [e]; rfl))] at h; exact h
    · have : k = 0 := Classical.byContradiction (fun e => c (fun y => e ((nI_eq (b := 0) (by omega) (by decide)).mp y)))
      rw [if_pos this] at h; exact h
  refine rc_go 60 (And.intro (fun c => absurd (show σ 80 26 = 0 from c) (by rw [hA.2]; decide)) (fun _ => And.intro (fun c => absurd c (nI_ge hk (by omega))) (fun _ => And.intro (fun c => ?_) (fun c => ?_))))
  · rw [hN.1.1, hA.1] at c
    have z : ri_isd t L p = false := by unfold ri_isd; rw [decide_eq_false (fun z => nI_ge z (by omega) c)]; rfl
    obtain ⟨a, b, e⟩ := fin z
    exact And.intro (fun c => a c) (fun c => And.intro (Or.inl rfl) (e (fun y => y c)))
  · rw [hN.1.1, hA.1] at c
    have hlt : p < L := Nat.lt_of_not_le (fun z => c (nI_le z (by omega)))
    have ht := hT.2 p hlt
    have e97 : σ 97 p = nI (t p) := hN.1.2 p hlt
    have vi : vp_in (σ 80 25) 64 := by rw [hA.1]; exact rc_vi (n := 64) (by omega) (by decide)
    refine And.intro vi ?_
    rw [hA.1, rc_ci (show p ≤ 2000 by omega), e97]
    refine And.intro (fun c2 => ?_) (fun c2 => ?_)
    · have z : ri_isd t L p = false := by unfold ri_isd; rw [decide_eq_false (p := 48 ≤ t p) (fun z => absurd c2 (Int32.not_lt.mpr (nI_le z (by omega)))), Bool.false_and, Bool.and_false]
      obtain ⟨a, b, e⟩ := fin z
      exact And.intro (fun c => a c) (fun c => And.intro (Or.inl rfl) (e (fun y => y c)))
    · refine And.intro vi ?_
      rw [hA.1, rc_ci (show p ≤ 2000 by omega), e97]
      refine And.intro (fun c3 => ?_) (fun c3 => ?_)
      · have z : ri_isd t L p = false := by unfold ri_isd; rw [decide_eq_false (p := t p ≤ 57) (fun z => absurd c3 (Int32.not_lt.mpr (nI_le z (by decide)))), Bool.and_false, Bool.and_false]
        obtain ⟨a, b, e⟩ := fin z
        exact And.intro (fun c => a c) (fun c => And.intro (Or.inl rfl) (e (fun y => y c)))
      · have z : ri_isd t L p = true := by
          unfold ri_isd
          rw [decide_eq_true hlt, decide_eq_true (Nat.le_of_not_lt (fun z => c2 (nI_lt z (by decide)))), decide_eq_true (Nat.le_of_not_lt (fun z => c3 (nI_lt z (by omega))))]
          rfl
        have key := h1 z
        refine And.intro vi ?_
        rw [hA.1, rc_ci (show p ≤ 2000 by omega), e97]
        rw [← nI_1, ← nI_1, ← hA.1] at key
        exact key
end RJa
