section RIc
variable {d n : Nat} {σ : rc_M} {P : rc_P} {V : rc_V} {Q : Int32 → rc_M → Prop}
def o_image (P : rc_P) : Int32 × rc_P := (nI (pV P 12 2), (P.1, P.1, true, P.2.2.2))
def o_on (P : rc_P) : Int32 × rc_P := cond (pim P) (nI (pU P 12 2), (P.2.1, P.2)) (o_no P 3)
theorem o_image_W (h : rc_WP n P) : rc_WP n (o_image P).2 := ⟨h.1, fun _ => h.1, h.2.2⟩
theorem o_on_W (h : rc_WP n P) : rc_WP n (o_on P).2 := by
  unfold o_on
  cases hz : pim P with
  | false => exact rc_no_W h
  | true => exact ⟨h.2.1 hz, h.2⟩
theorem c_image (hI : rc_CP σ P) (hW : rc_WP n P) (h : ∀ σ', rc_fC σ σ' → rc_CP σ' (o_image P).2 → Q (o_image P).1 σ') : rc_TI (d + 2) 111 [.ref 2] σ Q := by
  refine rc_go 40 (c_hcopy (o := 28) (o' := 0) (V := pV P) (by decide) hI.2.1 hW.1 (fun σ1 e hC => ?_))
  have e1 : ∀ k, k ≠ 2 → (k < 31 ∨ 58 < k) → rc_up σ1 2 (upd (σ1 2) 2 1) k = σ k := fun k h1 h2 => by rw [rc_up_n _ _ h1]; exact e k (by omega)
  have e2 : ∀ j, j ≠ 2 → rc_up σ1 2 (upd (σ1 2) 2 1) 2 j = σ 2 j := fun j hj => by rw [rc_up_s, pk_un hj, e 2 (by omega)]
  refine And.intro (Or.inr rfl) ⟨_, rfl, ?_⟩
  have h3 : rc_up σ1 2 (upd (σ1 2) 2 1) 3 4 = nI (pV P 12 2) := by rw [e1 3 (by omega) (by omega)]; exact hI.2.1.2.2.1
  rw [h3]
  obtain ⟨h1, h2, h3, h4, h5, h6, h7⟩ := hI
  refine h _ (fun k hk => e1 k (by omega) (by omega)) ⟨?_, h2.at hW.1.2.1 (fun k _ _ _ => e1 k (by omega) (by omega)), ?_, ?_, fun j hj => ?_, ?_, fun _ => hC.at hW.1.2.1 (fun k _ _ _ => rc_up_n _ _ (by omega))⟩
  · rw [e1 _ (by omega) (by omega)]; exact h1
  · rw [e1 59 (by omega) (by omega), e1 60 (by omega) (by omega)]; exact h3
  · rw [e2 10 (by omega), e1 76 (by omega) (by omega)]; exact h4
  · rw [e1 77 (by omega) (by omega)]; exact h5 j hj
  · rw [rc_up_s, pk_us]; rfl
theorem c_on (hI : rc_CP σ P) (hW : rc_WP n P) (h : ∀ σ', rc_fC σ σ' → rc_CP σ' (o_on P).2 → Q (o_on P).1 σ') : rc_TI (d + 2) 112 [.ref 2] σ Q := by
  have e6 := hI.2.2.2.2.2.1
  unfold o_on at h
  cases hz : pim P with
  | false =>
    rw [hz] at h e6
    refine rc_go 40 (And.intro (fun c => absurd (by rw [e6]; rfl) c) (fun _ => ?_))
    exact c_ref (w := 3) (by decide) (by decide) hI hW rfl (fun σ' a b => ⟨_, rfl, h σ' a b⟩)
  | true =>
    rw [hz] at h e6
    have hU := hW.2.1 hz
    refine rc_go 40 (And.intro (fun _ => ?_) (fun c => absurd (show σ 2 2 = 0 from c) (by rw [e6]; decide)))
    refine c_hcopy (o := 0) (o' := 28) (V := pU P) (by decide) (hI.2.2.2.2.2.2 hz) hU (fun σ1 e hC => ⟨_, rfl, ?_⟩)
    have h3 : σ1 3 4 = nI (pU P 12 2) := hC.2.2.1
    rw [h3]
    obtain ⟨h1, h2, h3, h4, h5, h6, h7⟩ := hI
    refine h _ (fun k hk => e k (by omega)) ⟨?_, hC, ?_, ?_, fun j hj => ?_, ?_, fun _ => (h7 hz).at hU.2.1 (fun k _ _ _ => e k (by omega))⟩
    · rw [e _ (by omega)]; exact h1
    · rw [e 59 (by omega), e 60 (by omega)]; exact h3
    · rw [e 2 (by omega), e 76 (by omega)]; exact h4
    · rw [e 77 (by omega)]; exact h5 j hj
    · rw [e 2 (by omega)]; exact h6
/-! the model's side -/
def rc_tln (k : Nat) : Nat := match k with
  | 82 => 6 | 83 => 6 | 84 => 18 | 85 => 6 | 86 => 6 | 87 => 6 | 88 => 5 | 89 => 15 | 90 => 5 | 91 => 5 | 92 => 5 | 93 => 5 | 94 => 6 | 95 => 6 | _ => 0
def rc_hd (i : Nat) : Nat := match i with
  | 0 => 1 | 1 => 8 | 2 => 15 | _ => 16
theorem rc_tF : ∀ k, k < 96 → 82 ≤ k → ((rc_lay k).1 = 1 ∧ (rc_lay k).2.2 = rc_tln k) ∧ rc_tho k + rc_tln k ≤ 104 ∧ 4 ≤ rc_tho k ∧ rc_tln k ≤ 18 ∧ ∀ q, q < k → 82 ≤ q → rc_tho q + rc_tln q ≤ rc_tho k := by decide +kernel
def rc_svd (σ0 σ : rc_M) (m p : Nat) : Prop := (∀ q, q ≠ 80 → q ≠ 96 → σ q = σ0 q) ∧ (∀ j, j ≠ 21 → j ≠ 22 → σ 80 j = σ0 80 j) ∧ σ 80 21 = nI p ∧ σ 80 22 = 0 ∧ (∀ i, i < 4 → i < p → σ 96 i = σ0 80 (rc_hd i)) ∧ ∀ q, 82 ≤ q → q < m → ∀ j, j < rc_tln q → σ 96 (rc_tho q + j) = σ0 q j
def rc_rs (σ0 σ : rc_M) (m p : Nat) : Prop := (∀ q, q < 80 ∨ 95 < q ∨ q = 81 → σ q = σ0 q) ∧ (∀ j, j ≠ 1 → j ≠ 8 → j ≠ 15 → j ≠ 16 → j ≠ 21 → j ≠ 22 → σ 80 j = σ0 80 j) ∧ σ 80 21 = nI p ∧ σ 80 22 = 1 ∧ (∀ i, i < 4 → i < p → σ 80 (rc_hd i) = σ0 96 i) ∧ ∀ q, 82 ≤ q → q < m → ∀ j, j < rc_tln q → σ q j = σ0 96 (rc_tho q + j)
theorem t_mv0i {x : Int32} {p : Nat} {σ0 : rc_M} (hp : p < 4) (hS : rc_svd σ0 σ 82 p) (hx : x = σ0 80 (rc_hd p)) (h : ∀ σ', rc_svd σ0 σ' 82 (p + 1) → Q (σ0 80 (rc_hd p)) σ') : rc_TI d 123 [.ref 80, .int x] σ Q := by
  rw [← hx] at h
  obtain ⟨s1, s2, s3, s4, s5, s6⟩ := hS
  refine rc_go 40 (And.intro (fun _ => ?_) (fun c => absurd s4 c))
  refine And.intro (by rw [s3]; exact rc_vi (n := 104) (by omega) (by decide)) ⟨_, rfl, h _ ⟨fun q h1 h2 => ?_, fun j h1 h2 => ?_, ?_, ?_, fun i h1 h2 => ?_, fun q h1 h2 => absurd h2 (by omega)⟩⟩
  · rw [rc_up_n _ _ h1, rc_up_n _ _ h2]; exact s1 q h1 h2
  · rw [rc_up_s, pk_un h1, rc_up_n _ _ (by decide)]; exact s2 j h1 h2
  · rw [rc_up_s, pk_us, rc_up_n _ _ (by decide), s3, nI_1]
  · rw [rc_up_s, pk_un (by decide), rc_up_n _ _ (by decide)]; exact s4
  · rw [rc_up_n _ _ (by decide), rc_up_s, s3, rc_ci (by omega)]
    by_cases e : i = p
    · subst e; rw [pk_us]; exact hx
    · rw [pk_un e]; exact s5 i h1 (by omega)
theorem t_mv1i {x : Int32} {p : Nat} {σ0 : rc_M} (hp : p < 4) (hS : rc_rs σ0 σ 82 p) (h : ∀ σ', rc_rs σ0 (rc_up σ' 80 (upd (σ' 80) (rc_hd p) (σ0 96 p))) 82 (p + 1) → Q (σ0 96 p) σ') : rc_TI d 123 [.ref 80, .int x] σ Q := by
  obtain ⟨s1, s2, s3, s4, s5, s6⟩ := hS
  have e96 : σ 96 p = σ0 96 p := by rw [s1 96 (by omega)]
  refine rc_go 40 (And.intro (fun c => absurd (show σ 80 22 = 0 from c) (by rw [s4]; decide)) (fun _ => ?_))
  refine And.intro (by rw [s3]; exact rc_vi (n := 104) (by omega) (by decide)) ⟨_, rfl, ?_⟩
  rw [s3, rc_ci (by omega), e96]
  refine h _ ⟨fun q h1 => ?_, fun j h1 h2 h3 h4 h5 h6 => ?_, ?_, ?_, fun i h1 h2 => ?_, fun q h1 h2 => absurd h2 (by omega)⟩
  · rw [rc_up_n _ _ (by omega), rc_up_n _ _ (by omega)]; exact s1 q h1
  · have : j ≠ rc_hd p := by
      have : p = 0 ∨ p = 1 ∨ p = 2 ∨ p = 3 := by omega
      rcases this with rfl | rfl | rfl | rfl <;> assumption
    rw [rc_up_s, pk_un this, rc_up_s, pk_un h5]; exact s2 j h1 h2 h3 h4 h5 h6
  · have : 21 ≠ rc_hd p := by
      have : p = 0 ∨ p = 1 ∨ p = 2 ∨ p = 3 := by omega
      rcases this with rfl | rfl | rfl | rfl <;> decide
    rw [rc_up_s, pk_un this, rc_up_s, pk_us, nI_1]
  · have : 22 ≠ rc_hd p := by
      have : p = 0 ∨ p = 1 ∨ p = 2 ∨ p = 3 := by omega
      rcases this with rfl | rfl | rfl | rfl <;> decide
    rw [rc_up_s, pk_un this, rc_up_s, pk_un (by decide)]; exact s4
  · rw [rc_up_s]
    by_cases e : i = p
    · subst e; rw [pk_us]
    · have : rc_hd i ≠ rc_hd p ∧ rc_hd i ≠ 21 := by
        have a : p = 0 ∨ p = 1 ∨ p = 2 ∨ p = 3 := by omega
        have b : i = 0 ∨ i = 1 ∨ i = 2 ∨ i = 3 := by omega
        rcases a with rfl | rfl | rfl | rfl <;> rcases b with rfl | rfl | rfl | rfl <;> first | exact absurd rfl e | decide
      rw [pk_un this.1, rc_up_s, pk_un this.2]
      exact s5 i h1 (by omega)
theorem t_mv0_l {k : Nat} {σ0 : rc_M} (hk : 82 ≤ k ∧ k < 96) {Q' : Option Value → rc_M → Prop} (h : ∀ σ', rc_svd σ0 σ' (k + 1) (rc_tho k + rc_tln k) → Q' none σ') : ∀ (c i : Nat) (σ : rc_M), i + c = rc_tln k → rc_svd σ0 σ k (rc_tho k + i) → (∀ j, j < i → σ 96 (rc_tho k + j) = σ0 k j) → rc_Tc d 122 2 [.ref 80, .ref k, .int (nI i)] [] σ Q' := by
  obtain ⟨⟨t1, t2⟩, t3, t4, t5, t6⟩ := rc_tF k hk.2 hk.1
  intro c
  induction c with
  | zero =>
    intro i σ hi hS ha
    have : i = rc_tln k := by omega
    subst this
    obtain ⟨s1, s2, s3, s4, s5, s6⟩ := hS
    refine rc_go 40 (And.intro (Or.inl t1) (And.intro (show 2 ≤ k by omega) (And.intro (fun _ => h σ ⟨s1, s2, s3, s4, s5, fun q h1 h2 => ?_⟩) (fun c => absurd (by rw [t2]; exact nI_le (Nat.le_refl _) (by omega)) c))))
    by_cases e : q = k
    · subst e; exact ha
    · exact s6 q h1 (by omega)
  | succ c ih =>
    intro i σ hi hS ha
    obtain ⟨s1, s2, s3, s4, s5, s6⟩ := hS
    refine rc_go 60 (And.intro (Or.inl t1) (And.intro (show 2 ≤ k by omega) (And.intro (fun c1 => absurd (by rw [t2] at c1; exact c1) (nI_ge (by omega) (by omega))) (fun _ => ?_))))
    refine And.intro (fun _ => ?_) (fun c => absurd s4 c)
    refine And.intro t1 (And.intro (by rw [t2]; exact rc_vi (by omega) (by omega)) ?_)
    refine And.intro (by rw [s3]; exact rc_vi (n := 104) (by omega) (by decide)) ?_
    rw [s3, rc_ci (show rc_tho k + i ≤ 2000 by omega), rc_ci (show i ≤ 2000 by omega), s1 k (by omega) (by omega)]
    have key := ih (i + 1) (rc_up (rc_up σ 96 (upd (σ 96) (rc_tho k + i) (σ0 k i))) 80 (upd ((rc_up σ 96 (upd (σ 96) (rc_tho k + i) (σ0 k i))) 80) 21 ((rc_up σ 96 (upd (σ 96) (rc_tho k + i) (σ0 k i))) 80 21 + 1))) (by omega) ⟨fun q h1 h2 => ?_, fun j h1 h2 => ?_, ?_, ?_, fun i' h1 h2 => ?_, fun q h1 h2 j hj => ?_⟩ (fun j hj => ?_)
    · rw [← nI_1] at key
      exact key
    · rw [rc_up_n _ _ h1, rc_up_n _ _ h2]; exact s1 q h1 h2
    · rw [rc_up_s, pk_un h1, rc_up_n _ _ (by decide)]; exact s2 j h1 h2
    · rw [rc_up_s, pk_us, rc_up_n _ _ (by decide), s3, nI_1, Nat.add_assoc]
    · rw [rc_up_s, pk_un (by decide), rc_up_n _ _ (by decide)]; exact s4
    · rw [rc_up_n _ _ (by decide), rc_up_s, pk_un (by omega)]; exact s5 i' h1 (by omega)
    · have := t6 q h2 h1
      rw [rc_up_n _ _ (by decide), rc_up_s, pk_un (by omega)]; exact s6 q h1 h2 j hj
    · rw [rc_up_n _ _ (by decide), rc_up_s]
      by_cases e : j = i
      · subst e; rw [pk_us]
      · rw [pk_un (by omega)]; exact ha j (by omega)
theorem t_mv0 {k m p : Nat} {σ0 : rc_M} (hk : 82 ≤ k ∧ k < 96) (hm : m = k + 1) (hp : p = rc_tho k + rc_tln k) (hS : rc_svd σ0 σ k (rc_tho k)) {Q : rc_M → Prop} (h : ∀ σ', rc_svd σ0 σ' m p → Q σ') : rc_TV d 122 [.ref 80, .ref k] σ Q := by
  subst hm; subst hp
  exact rc_go 20 (t_mv0_l hk (fun σ' hs => ⟨rfl, h σ' hs⟩) (rc_tln k) 0 σ (by omega) hS (fun j hj => absurd hj (by omega)))
theorem t_mv1_l {k : Nat} {σ0 : rc_M} (hk : 82 ≤ k ∧ k < 96) {Q' : Option Value → rc_M → Prop} (h : ∀ σ', rc_rs σ0 σ' (k + 1) (rc_tho k + rc_tln k) → Q' none σ') : ∀ (c i : Nat) (σ : rc_M), i + c = rc_tln k → rc_rs σ0 σ k (rc_tho k + i) → (∀ j, j < i → σ k j = σ0 96 (rc_tho k + j)) → rc_Tc d 122 2 [.ref 80, .ref k, .int (nI i)] [] σ Q' := by
  obtain ⟨⟨t1, t2⟩, t3, t4, t5, t6⟩ := rc_tF k hk.2 hk.1
  intro c
  induction c with
  | zero =>
    intro i σ hi hS ha
    have : i = rc_tln k := by omega
    subst this
    obtain ⟨s1, s2, s3, s4, s5, s6⟩ := hS
    refine rc_go 40 (And.intro (Or.inl t1) (And.intro (show 2 ≤ k by omega) (And.intro (fun _ => h σ ⟨s1, s2, s3, s4, s5, fun q h1 h2 => ?_⟩) (fun c => absurd (by rw [t2]; exact nI_le (Nat.le_refl _) (by omega)) c))))
    by_cases e : q = k
    · subst e; exact ha
    · exact s6 q h1 (by omega)
  | succ c ih =>
    intro i σ hi hS ha
    obtain ⟨s1, s2, s3, s4, s5, s6⟩ := hS
    refine rc_go 60 (And.intro (Or.inl t1) (And.intro (show 2 ≤ k by omega) (And.intro (fun c1 => absurd (by rw [t2] at c1; exact c1) (nI_ge (by omega) (by omega))) (fun _ => ?_))))
    refine And.intro (fun c => absurd (show σ 80 22 = 0 from c) (by rw [s4]; decide)) (fun _ => ?_)
    refine And.intro (by rw [s3]; exact rc_vi (n := 104) (by omega) (by decide)) ?_
    refine And.intro t1 (And.intro (show 2 ≤ k by omega) (And.intro (by rw [t2]; exact rc_vi (by omega) (by omega)) ?_))
    rw [s3, rc_ci (show rc_tho k + i ≤ 2000 by omega), rc_ci (show i ≤ 2000 by omega), s1 96 (by omega)]
    have key := ih (i + 1) (rc_up (rc_up σ k (upd (σ k) i (σ0 96 (rc_tho k + i)))) 80 (upd ((rc_up σ k (upd (σ k) i (σ0 96 (rc_tho k + i)))) 80) 21 ((rc_up σ k (upd (σ k) i (σ0 96 (rc_tho k + i)))) 80 21 + 1))) (by omega) ⟨fun q h1 => ?_, fun j h1 h2 h3 h4 h5 h6 => ?_, ?_, ?_, fun i' h1 h2 => ?_, fun q h1 h2 j hj => ?_⟩ (fun j hj => ?_)
    · rw [← nI_1] at key
      exact key
    · rw [rc_up_n _ _ (by omega), rc_up_n _ _ (by omega)]; exact s1 q h1
    · rw [rc_up_s, pk_un h5, rc_up_n _ _ (by omega)]; exact s2 j h1 h2 h3 h4 h5 h6
    · rw [rc_up_s, pk_us, rc_up_n _ _ (by omega), s3, nI_1, Nat.add_assoc]
    · rw [rc_up_s, pk_un (by decide), rc_up_n _ _ (by omega)]; exact s4
    · have : rc_hd i' ≠ 21 := by
        have b : i' = 0 ∨ i' = 1 ∨ i' = 2 ∨ i' = 3 := by omega
        rcases b with rfl | rfl | rfl | rfl <;> decide
      rw [rc_up_s, pk_un this, rc_up_n _ _ (by omega)]; exact s5 i' h1 (by omega)
    · rw [rc_up_n _ _ (by omega), rc_up_n _ _ (by omega)]; exact s6 q h1 h2 j hj
    · rw [rc_up_n _ _ (by omega), rc_up_s]
      by_cases e : j = i
      · subst e; rw [pk_us]
      · rw [pk_un (by omega)]; exact ha j (by omega)
theorem t_mv1 {k m p : Nat} {σ0 : rc_M} (hk : 82 ≤ k ∧ k < 96) (hm : m = k + 1) (hp : p = rc_tho k + rc_tln k) (hS : rc_rs σ0 σ k (rc_tho k)) {Q : rc_M → Prop} (h : ∀ σ', rc_rs σ0 σ' m p → Q σ') : rc_TV d 122 [.ref 80, .ref k] σ Q := by
  subst hm; subst hp
  exact rc_go 20 (t_mv1_l hk (fun σ' hs => ⟨rfl, h σ' hs⟩) (rc_tln k) 0 σ (by omega) hS (fun j hj => absurd hj (by omega)))
end RIc
