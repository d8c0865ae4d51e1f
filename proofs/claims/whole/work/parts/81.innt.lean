section RJb
variable {d n L : Nat} {t : Nat → Nat} {σ : rc_M} {P : rc_P} {V : rc_V} {Q : Int32 → rc_M → Prop}
theorem ri_fv {p : Nat} {v : Nat} (h : ri_isd t L p = true) : 10 * nI v + nI (t p) - 48 = nI (10 * v + ri_dv t p) := by
  obtain ⟨h1, h2, h3⟩ := ri_isd_v h
  rw [show (10 : Int32) = nI 10 from rfl, rc_mulN, nI_add]
  have : nI (10 * v + t p) - 48 = nI (10 * v + t p - 48) := rc_subN (b := 48) (by omega)
  rw [this]
  unfold ri_dv
  congr 1
  omega
theorem ri_A_s {p : Nat} (hA : ri_A σ p true) : ri_A (rc_up σ 80 (upd (σ 80) 25 (nI (p + 1)))) (p + 1) true := ⟨by rw [rc_up_s, pk_us], by rw [rc_up_s, pk_un (by decide)]; exact hA.2⟩
theorem ri_A_f {p : Nat} (hA : ri_A σ p true) : ri_A (rc_up σ 80 (upd (σ 80) 26 0)) p false := ⟨by rw [rc_up_s, pk_un (by decide)]; exact hA.1, by rw [rc_up_s, pk_us]; rfl⟩
theorem t_fig1 {x : Int32} {p : Nat} (hx : x = nI 1) (hp : p ≤ 900) (hT : ri_T t L) (hN : ri_N σ t L) (hA : ri_A σ p true) (h1 : ri_isd t L p = true → ∀ σ', rc_fq σ σ' → σ' 100 = σ 100 → σ' 80 29 = σ 80 29 → ri_A σ' (p + 1) true → Q (nI (ri_dv t p)) σ') (h0 : ri_isd t L p = false → ∀ σ', rc_fq σ σ' → σ' 100 = σ 100 → ri_A σ' p false → Q 0 σ') : rc_TI d 133 [.ref 80, .int x] σ Q := by
  subst hx
  refine rc_go 20 (t_fig_4 (m := 1) (k := 0) (x2 := 0) rfl (by decide) (by decide) (by omega) hT hN hA (fun z => ?_) (fun z => ?_))
  · have hA1 := ri_A_s hA
    have e : 10 * (0 : Int32) + nI (t p) - 48 = nI (ri_dv t p) := by have := ri_fv (v := 0) z; rw [Nat.mul_zero, Nat.zero_add] at this; exact this
    rw [e]
    have hq := h1 z _ (rc_fq8 (x := nI (p + 1)) (j := 25) (by omega)) (rc_up_n _ _ (by decide)) (by rw [rc_up_s, pk_un (by decide)]) hA1
    exact rc_go 40 (And.intro (fun c => absurd (show rc_up σ 80 (upd (σ 80) 25 (nI (p + 1))) 80 26 = 0 from c) (by rw [hA1.2]; decide)) (fun _ => And.intro (fun _ => And.intro (fun _ => ⟨_, rfl, hq⟩) (fun c => absurd c (by decide))) (fun c => absurd (by decide) c)))
  · rw [if_pos rfl]
    exact ⟨_, rfl, h0 z _ (rc_fq8 (by omega)) (rc_up_n _ _ (by decide)) (ri_A_f hA)⟩
theorem t_fig2 {x : Int32} {p : Nat} (hx : x = nI 2) (hp : p ≤ 900) (hT : ri_T t L) (hN : ri_N σ t L) (hA : ri_A σ p true) (h2 : ri_isd t L p = true → ri_isd t L (p + 1) = true → ∀ σ', rc_fq σ σ' → σ' 100 = σ 100 → σ' 80 29 = σ 80 29 → ri_A σ' (p + 2) true → Q (nI (10 * ri_dv t p + ri_dv t (p + 1))) σ') (h1 : ri_isd t L p = true → ri_isd t L (p + 1) = false → ∀ σ', rc_fq σ σ' → σ' 100 = σ 100 → σ' 80 29 = σ 80 29 → ri_A σ' (p + 1) true → Q (nI (ri_dv t p)) σ') (h0 : ri_isd t L p = false → ∀ σ', rc_fq σ σ' → σ' 100 = σ 100 → ri_A σ' p false → Q 0 σ') : rc_TI d 133 [.ref 80, .int x] σ Q := by
  subst hx
  refine rc_go 20 (t_fig_4 (m := 2) (k := 0) (x2 := 0) rfl (by decide) (by decide) (by omega) hT hN hA (fun z => ?_) (fun z => ?_))
  · have hA1 := ri_A_s hA
    have hf1 : rc_fq σ (rc_up σ 80 (upd (σ 80) 25 (nI (p + 1)))) := rc_fq8 (by omega)
    have e : 10 * (0 : Int32) + nI (t p) - 48 = nI (ri_dv t p) := by have := ri_fv (v := 0) z; rw [Nat.mul_zero, Nat.zero_add] at this; exact this
    rw [e]
    refine t_fig_4 (m := 2) (k := 1) (p := p + 1) rfl (by decide) (by decide) (by omega) hT (hN.fq hf1) hA1 (fun z2 => ?_) (fun z2 => ?_)
    · have hA2 := ri_A_s hA1
      rw [ri_fv z2]
      have hq := h2 z z2 _ (hf1.tr (rc_fq8 (x := nI (p + 1 + 1)) (j := 25) (by omega))) (by rw [rc_up_n _ _ (by decide), rc_up_n _ _ (by decide)]) (by rw [rc_up_s, pk_un (by decide), rc_up_s, pk_un (by decide)]) hA2
      exact rc_go 40 (And.intro (fun c => absurd (show rc_up (rc_up σ 80 (upd (σ 80) 25 (nI (p + 1)))) 80 (upd ((rc_up σ 80 (upd (σ 80) 25 (nI (p + 1)))) 80) 25 (nI (p + 1 + 1))) 80 26 = 0 from c) (by rw [hA2.2]; decide)) (fun _ => And.intro (fun _ => And.intro (fun _ => ⟨_, rfl, hq⟩) (fun c => absurd c (by decide))) (fun c => absurd (by decide) c)))
    · rw [if_neg (by decide)]
      exact ⟨_, rfl, h1 z z2 _ hf1 (rc_up_n _ _ (by decide)) (by rw [rc_up_s, pk_un (by decide)]) hA1⟩
  · rw [if_pos rfl]
    exact ⟨_, rfl, h0 z _ (rc_fq8 (by omega)) (rc_up_n _ _ (by decide)) (ri_A_f hA)⟩
theorem ri_A.up {q p : Nat} {w : Bool} {f : Nat → Int32} (hA : ri_A σ p w) (hq : q ≠ 80) : ri_A (rc_up σ q f) p w := ⟨by rw [rc_up_n _ _ (Ne.symm hq)]; exact hA.1, by rw [rc_up_n _ _ (Ne.symm hq)]; exact hA.2⟩
/-- nothing goes on once it is not well -/
theorem t_s98_b {p : Nat} {w1 : Value} {σ0 : rc_M} (hf : rc_fq σ0 σ) (hA : ri_A σ p false) {Q' : Option Value → rc_M → Prop} (h : ∀ σ', rc_fq σ0 σ' → ri_A σ' p false → Q' none σ') : rc_Tc (d + 2) 134 98 [.ref 80, w1] [] σ Q' :=
  rc_go 40 (And.intro (fun _ => And.intro (Or.inl rfl) (h _ (hf.tr (rc_fq8 (j := 26) (by omega))) ⟨by rw [rc_up_s, pk_un (by decide)]; exact hA.1, by rw [rc_up_s, pk_us]; rfl⟩)) (fun c => absurd (show σ 80 26 = 0 by rw [hA.2]; rfl) c))
theorem t_s35_b {p : Nat} {σ0 : rc_M} {Q' : Option Value → rc_M → Prop} (h : ∀ σ', rc_fq σ0 σ' → ri_A σ' p false → Q' none σ') : ∀ (c k : Nat) (σ : rc_M), k + c = 6 → rc_fq σ0 σ → ri_A σ p false → rc_Tc (d + 2) 134 35 [.ref 80, .int (nI k)] [] σ Q' := by
  intro c
  induction c with
  | zero =>
    intro k σ hk hf hA
    have : k = 6 := by omega
    subst this
    refine rc_go 60 (And.intro (fun _ => ?_) (fun c => absurd (by decide) c))
    refine t_fig_b hA (fun σ' hf' _ hA' => ?_)
    refine And.intro (rc_vi (n := 7) (i := 6) (by decide) (by decide)) ?_
    exact t_s98_b ((hf.tr hf').tr (rc_fq.up (k := 100) (by omega))) (hA'.up (by decide)) h
  | succ c ih =>
    intro k σ hk hf hA
    refine rc_go 60 (And.intro (fun c1 => absurd c1 (nI_ge (show k < 6 by omega) (by decide))) (fun _ => ?_))
    refine t_fig_b hA (fun σ' hf' _ hA' => ?_)
    refine And.intro (rc_vi (n := 7) (by omega) (by decide)) ?_
    have key := ih (k + 1) _ (by omega) ((hf.tr hf').tr (rc_fq.up (k := 100) (f := upd (σ' 100) (nI k).toNatClampNeg 0) (by omega))) (hA'.up (by decide))
    rw [← nI_1] at key
    exact key
theorem t_s75_b {p : Nat} {σ0 : rc_M} {Q' : Option Value → rc_M → Prop} (h : ∀ σ', rc_fq σ0 σ' → ri_A σ' p false → Q' none σ') : ∀ (c k : Nat) (σ : rc_M), k + c = 6 → rc_fq σ0 σ → ri_A σ p false → rc_Tc (d + 2) 134 75 [.ref 80, .int (nI k)] [] σ Q' := by
  intro c
  induction c with
  | zero =>
    intro k σ hk hf hA
    have : k = 6 := by omega
    subst this
    exact rc_go 60 (And.intro (fun _ => t_s98_b hf hA h) (fun c => absurd (by decide) c))
  | succ c ih =>
    intro k σ hk hf hA
    refine rc_go 60 (And.intro (fun c1 => absurd c1 (nI_ge (show k < 6 by omega) (by decide))) (fun _ => ?_))
    refine t_fig_b hA (fun σ' hf' _ hA' => ?_)
    refine And.intro (rc_vi (n := 7) (by omega) (by decide)) ?_
    have key := ih (k + 1) _ (by omega) ((hf.tr hf').tr (rc_fq.up (k := 100) (f := upd (σ' 100) (nI k).toNatClampNeg 0) (by omega))) (hA'.up (by decide))
    rw [← nI_1] at key
    exact key
theorem t_s98 {p : Nat} {w1 : Value} {σ0 : rc_M} (hp : p ≤ 900) (hT : ri_T t L) (hN : ri_N σ t L) (hf : rc_fq σ0 σ) (hA : ri_A σ p true) {Q' : Option Value → rc_M → Prop} (h1 : ri_lr t L 59 p = true → ∀ σ', rc_fq σ0 σ' → σ' 100 = σ 100 → σ' 80 29 = σ 80 29 → ri_A σ' (p + 1) true → Q' none σ') (h0 : ri_lr t L 59 p = false → ∀ σ', rc_fq σ0 σ' → ri_A σ' p false → Q' none σ') : rc_Tc (d + 2) 134 98 [.ref 80, w1] [] σ Q' := by
  refine rc_go 40 (And.intro (fun c => absurd (show σ 80 26 = 0 from c) (by rw [hA.2]; decide)) (fun _ => ?_))
  refine t_comes (c := 59) rfl (by decide) (by omega) hT hN hA (And.intro (fun c => ?_) (fun c => ?_))
  · exact And.intro (Or.inl rfl) (h0 (rc_bI_0.mp c) _ (hf.tr (rc_fq8 (j := 26) (by omega))) (ri_A_f hA))
  · have e25 : σ 80 25 + 1 = nI (p + 1) := by rw [hA.1, nI_1]
    have hq := h1 (rc_bool_t c) _ (hf.tr (rc_fq8 (x := nI (p + 1)) (j := 25) (by omega))) (rc_up_n _ _ (by decide)) (by rw [rc_up_s, pk_un (by decide)]) (ri_A_s hA)
    rw [← e25] at hq
    exact hq
/-- the fields of a statement that went well -/
def ri_fl (σ : rc_M) (t : Nat → Nat) (L s : Nat) : Prop := (ri_lr t L 114 s = true → σ 80 29 = 0 ∧ σ 100 0 = nI (ri_kn (t (s + 1))) ∧ (∀ k, k < 5 → σ 100 (1 + k) = nI (ri_dv t (s + 2 + k))) ∧ σ 100 6 = nI (ri_pr t L s)) ∧ (ri_lr t L 114 s = false → σ 80 29 = 1 ∧ ∀ k, k < 6 → σ 100 k = nI (ri_dv t (s + 1 + k)))
theorem t_s75 {s : Nat} {σ0 : rc_M} (hs : s ≤ 800) (hT : ri_T t L) (hr : ri_lr t L 114 s = false) (hg : ri_lr t L 103 s = true) {Q' : Option Value → rc_M → Prop} (h : ∀ σ', rc_fq σ0 σ' → ri_A σ' (ri_st t L s).1 (ri_st t L s).2 → ((ri_st t L s).2 = true → ri_fl σ' t L s) → Q' none σ') : ∀ (c k : Nat) (σ : rc_M), k + c = 6 → ri_N σ t L → rc_fq σ0 σ → ri_A σ (s + 1 + k) true → σ 80 29 = 1 → (∀ j, j < k → ri_isd t L (s + 1 + j) = true ∧ σ 100 j = nI (ri_dv t (s + 1 + j))) → rc_Tc (d + 2) 134 75 [.ref 80, .int (nI k)] [] σ Q' := by
  have hfd : ri_fd t L s = s + 1 := by unfold ri_fd; rw [hr, if_neg (by decide)]
  have hen : ri_en t L s = s + 7 := by unfold ri_en; rw [hr, Bool.false_and, if_neg (by decide), hfd]
  have es := ri_st_k (t := t) (L := L) (s := s) (by rw [hg, Bool.or_true]) (by rw [hr, Bool.false_and])
  rw [hfd, hen] at es
  intro c
  induction c with
  | zero =>
    intro k σ hk hN hf hA h29 hd
    have : k = 6 := by omega
    subst this
    have hdk : ri_dk t L s = 6 := by unfold ri_dk; rw [hfd]; exact rc_ff_no (fun j hj => by rw [(hd j hj).1]; rfl)
    rw [hdk, if_neg (by decide)] at es
    refine rc_go 60 (And.intro (fun _ => ?_) (fun c => absurd (by decide) c))
    refine t_s98 (p := s + 7) (by omega) hT hN hf hA (fun z σ' a b c e => ?_) (fun z σ' a b => ?_)
    · rw [z, if_pos rfl] at es
      rw [es] at h
      exact h σ' a e (fun _ => ⟨fun y => absurd y (by rw [hr]; decide), fun _ => ⟨by rw [c]; exact h29, fun k hk => by rw [b]; exact (hd k hk).2⟩⟩)
    · rw [z, if_neg (by decide)] at es
      rw [es] at h
      exact h σ' a b (fun y => absurd (show false = true from y) (by decide))
  | succ c ih =>
    intro k σ hk hN hf hA h29 hd
    refine rc_go 60 (And.intro (fun c1 => absurd c1 (nI_ge (show k < 6 by omega) (by decide))) (fun _ => ?_))
    refine t_fig1 (p := s + 1 + k) rfl (by omega) hT hN hA (fun z σ' a b c e => ?_) (fun z σ' a b e => ?_)
    · refine And.intro (rc_vi (n := 7) (by omega) (by decide)) ?_
      rw [rc_ci (by omega)]
      have hf2 : rc_fq σ' (rc_up σ' 100 (upd (σ' 100) k (nI (ri_dv t (s + 1 + k))))) := rc_fq.up (by omega)
      have key := ih (k + 1) (rc_up σ' 100 (upd (σ' 100) k (nI (ri_dv t (s + 1 + k))))) (by omega) (hN.fq (a.tr hf2)) (hf.tr (a.tr hf2)) (by rw [← Nat.add_assoc]; exact e.up (by decide)) (by rw [rc_up_n _ _ (by decide), c]; exact h29) (fun j hj => by
        rw [rc_up_s]
        by_cases y : j = k
        · subst y; exact ⟨z, pk_us⟩
        · rw [pk_un y, b]; exact hd j (by omega))
      rw [← nI_1] at key
      exact key
    · refine And.intro (rc_vi (n := 7) (by omega) (by decide)) ?_
      have hdk : ri_dk t L s = k := by unfold ri_dk; rw [hfd]; exact rc_ff_at (by omega) (by rw [z]; rfl) (fun j hj => by rw [(hd j hj).1]; rfl)
      rw [hdk, if_pos (by omega)] at es
      rw [es] at h
      have key := t_s75_b (d := d) (p := s + 1 + k) (σ0 := σ0) (fun σ2 a2 e2 => h σ2 a2 e2 (fun y => absurd (show false = true from y) (by decide))) c (k + 1) (rc_up σ' 100 (upd (σ' 100) (nI k).toNatClampNeg 0)) (by omega) ((hf.tr a).tr (rc_fq.up (by omega))) (e.up (by decide))
      rw [← nI_1] at key
      exact key
theorem t_s35 {s : Nat} {σ0 : rc_M} (hs : s ≤ 800) (hT : ri_T t L) (hr : ri_lr t L 114 s = true) (hko : ri_kok t L (s + 1) = true) {Q' : Option Value → rc_M → Prop} (h : ∀ σ', rc_fq σ0 σ' → ri_A σ' (ri_st t L s).1 (ri_st t L s).2 → ((ri_st t L s).2 = true → ri_fl σ' t L s) → Q' none σ') : ∀ (c k : Nat) (σ : rc_M), k + c = 5 → ri_N σ t L → rc_fq σ0 σ → ri_A σ (s + 2 + k) true → σ 80 29 = 0 → σ 100 0 = nI (ri_kn (t (s + 1))) → (∀ j, j < k → ri_isd t L (s + 2 + j) = true ∧ σ 100 (1 + j) = nI (ri_dv t (s + 2 + j))) → rc_Tc (d + 2) 134 35 [.ref 80, .int (nI (k + 1))] [] σ Q' := by
  have hfd : ri_fd t L s = s + 2 := by unfold ri_fd; rw [hr, if_pos rfl]
  have hen : ri_en t L s = if ri_isd t L (s + 8) then s + 9 else s + 8 := by unfold ri_en; rw [hr, Bool.true_and, hfd]
  have es := ri_st_k (t := t) (L := L) (s := s) (by rw [hr, Bool.true_or]) (by rw [hko, Bool.not_true, Bool.and_false])
  rw [hfd] at es
  intro c
  induction c with
  | zero =>
    intro k σ hk hN hf hA h29 h100 hd
    have : k = 5 := by omega
    subst this
    have fin : ∀ (σ' : rc_M) (p v : Nat), ri_isd t L (s + 7) = true → rc_fq σ σ' → σ' 100 = σ 100 → σ' 80 29 = σ 80 29 → ri_A σ' p true → p = ri_en t L s → v = ri_pr t L s → p ≤ 900 → ∀ x, x = nI v → rc_Tc (d + 2) 134 98 [.ref 80, .int (nI 6)] [] (rc_up σ' 100 (upd (σ' 100) 6 x)) Q' := fun σ' p v z a b c e hp hv hp9 x hx => by
      subst hx
      have hdk : ri_dk t L s = 6 := by
        unfold ri_dk
        rw [hfd]
        exact rc_ff_no (fun j hj => by
          by_cases y : j = 5
          · subst y; rw [show s + 2 + 5 = s + 7 by omega, z]; rfl
          · rw [(hd j (by omega)).1]; rfl)
      rw [hdk, if_neg (by decide), ← hp] at es
      have hf2 : rc_fq σ' (rc_up σ' 100 (upd (σ' 100) 6 (nI v))) := rc_fq.up (by omega)
      refine t_s98 (p := p) hp9 hT (hN.fq (a.tr hf2)) (hf.tr (a.tr hf2)) (e.up (by decide)) (fun z2 σ2 a2 b2 c2 e2 => ?_) (fun z2 σ2 a2 b2 => ?_)
      · rw [z2, if_pos rfl] at es
        rw [es] at h
        refine h σ2 a2 e2 (fun _ => ⟨fun _ => ⟨?_, ?_, fun k hk => ?_, ?_⟩, fun y => absurd y (by rw [hr]; decide)⟩)
        · rw [c2, rc_up_n _ _ (by decide), c]; exact h29
        · rw [b2, rc_up_s, pk_un (by decide), b]; exact h100
        · rw [b2, rc_up_s, pk_un (by omega), b]; exact (hd k hk).2
        · rw [b2, rc_up_s, pk_us, hv]
      · rw [z2, if_neg (by decide)] at es
        rw [es] at h
        exact h σ2 a2 b2 (fun y => absurd (show false = true from y) (by decide))
    refine rc_go 60 (And.intro (fun _ => ?_) (fun c => absurd (by decide) c))
    refine t_fig2 (p := s + 7) rfl (by omega) hT hN hA (fun z z2 σ' a b c e => ?_) (fun z z2 σ' a b c e => ?_) (fun z σ' a b e => ?_)
    · refine And.intro (rc_vi (n := 7) (i := 6) (by decide) (by decide)) ?_
      exact fin σ' (s + 9) (10 * ri_dv t (s + 7) + ri_dv t (s + 8)) z a b c e (by rw [hen, show ri_isd t L (s + 8) = true from z2, if_pos rfl]) (by unfold ri_pr; rw [show ri_isd t L (s + 8) = true from z2, if_pos rfl, Nat.mul_comm]) (by omega) _ rfl
    · refine And.intro (rc_vi (n := 7) (i := 6) (by decide) (by decide)) ?_
      exact fin σ' (s + 8) (ri_dv t (s + 7)) z a b c e (by rw [hen, show ri_isd t L (s + 8) = false from z2, if_neg (by decide)]) (by unfold ri_pr; rw [show ri_isd t L (s + 8) = false from z2, if_neg (by decide)]) (by omega) _ rfl
    · refine And.intro (rc_vi (n := 7) (i := 6) (by decide) (by decide)) ?_
      have hdk : ri_dk t L s = 5 := by unfold ri_dk; rw [hfd]; exact rc_ff_at (by decide) (by rw [show s + 2 + 5 = s + 7 by omega, z]; rfl) (fun j hj => by rw [(hd j hj).1]; rfl)
      rw [hdk, if_pos (by decide)] at es
      rw [es] at h
      exact t_s98_b ((hf.tr a).tr (rc_fq.up (by omega))) (e.up (by decide)) (fun σ2 a2 e2 => h σ2 a2 e2 (fun y => absurd (show false = true from y) (by decide)))
  | succ c ih =>
    intro k σ hk hN hf hA h29 h100 hd
    refine rc_go 60 (And.intro (fun c1 => absurd c1 (nI_ge (show k + 1 < 6 by omega) (by decide))) (fun _ => ?_))
    refine t_fig1 (p := s + 2 + k) rfl (by omega) hT hN hA (fun z σ' a b c e => ?_) (fun z σ' a b e => ?_)
    · refine And.intro (rc_vi (n := 7) (by omega) (by decide)) ?_
      rw [rc_ci (by omega)]
      have hf2 : rc_fq σ' (rc_up σ' 100 (upd (σ' 100) (k + 1) (nI (ri_dv t (s + 2 + k))))) := rc_fq.up (by omega)
      have key := ih (k + 1) (rc_up σ' 100 (upd (σ' 100) (k + 1) (nI (ri_dv t (s + 2 + k))))) (by omega) (hN.fq (a.tr hf2)) (hf.tr (a.tr hf2)) (by rw [← Nat.add_assoc]; exact e.up (by decide)) (by rw [rc_up_n _ _ (by decide), c]; exact h29) (by rw [rc_up_s, pk_un (by omega), b]; exact h100) (fun j hj => by
        rw [rc_up_s]
        by_cases y : j = k
        · subst y; rw [Nat.add_comm 1 j]; exact ⟨z, pk_us⟩
        · rw [pk_un (by omega), b]; exact hd j (by omega))
      rw [← nI_1 (k + 1)] at key
      exact key
    · refine And.intro (rc_vi (n := 7) (by omega) (by decide)) ?_
      have hdk : ri_dk t L s = k := by unfold ri_dk; rw [hfd]; exact rc_ff_at (by omega) (by rw [z]; rfl) (fun j hj => by rw [(hd j hj).1]; rfl)
      rw [hdk, if_pos (by omega)] at es
      rw [es] at h
      have key := t_s35_b (d := d) (p := s + 2 + k) (σ0 := σ0) (fun σ2 a2 e2 => h σ2 a2 e2 (fun y => absurd (show false = true from y) (by decide))) c (k + 1 + 1) (rc_up σ' 100 (upd (σ' 100) (nI (k + 1)).toNatClampNeg 0)) (by omega) ((hf.tr a).tr (rc_fq.up (by omega))) (e.up (by decide))
      rw [← nI_1 (k + 1)] at key
      exact key
end RJb
