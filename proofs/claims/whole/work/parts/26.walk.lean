/-! the class's walk through rows -/
/-- only these cells have changed -/
def rc_fr (ks : List Nat) (σ σ' : rc_M) : Prop := ∀ k, k ∉ ks → σ' k = σ k
theorem rc_fr.rf {ks : List Nat} {σ : rc_M} : rc_fr ks σ σ := fun _ _ => rfl
theorem rc_fr.tr {ks : List Nat} {σ σ1 σ2 : rc_M} (h1 : rc_fr ks σ σ1) (h2 : rc_fr ks σ1 σ2) : rc_fr ks σ σ2 := fun k hk => (h2 k hk).trans (h1 k hk)
theorem rc_fr.up {ks : List Nat} {σ : rc_M} {k : Nat} {f : Nat → Int32} (h : k ∈ ks) : rc_fr ks σ (rc_up σ k f) := fun k' hk' => rc_up_n _ _ (fun z => hk' (z ▸ h))
theorem rc_fr.mono {ks ks' : List Nat} {σ σ1 : rc_M} (h : rc_fr ks σ σ1) (hs : ∀ k, k ∈ ks → k ∈ ks') : rc_fr ks' σ σ1 := fun k hk => h k (fun z => hk (hs k z))
theorem rc_CR.fr {o i : Nat} {σ σ' : rc_M} {V : rc_V} (h : rc_CR o σ V i) (e1 : σ' (9 + 2 * i + o) = σ (9 + 2 * i + o)) (e2 : σ' (10 + 2 * i + o) = σ (10 + 2 * i + o)) : rc_CR o σ' V i := by
  unfold rc_CR
  rw [e1, e2]
  exact h
theorem rc_CG.fr {o i : Nat} {σ σ' : rc_M} {V : rc_V} (h : rc_CG o σ V i) (e1 : σ' (21 + 2 * i + o) = σ (21 + 2 * i + o)) (e2 : σ' (22 + 2 * i + o) = σ (22 + 2 * i + o)) : rc_CG o σ' V i := by
  unfold rc_CG
  rw [e1, e2]
  exact h
/-- the class's rooms stand, and the weights -/
def rc_CA (σ : rc_M) (V : rc_V) : Prop := σ 0 = rc_wt ∧ (∀ i, i < 6 → rc_CR 0 σ V i) ∧ (∀ i, i < 6 → rc_WR V i) ∧ σ 3 1 = nI (V 12 0) ∧ V 12 0 ≤ 6
theorem rc_CA.fr {ks : List Nat} {σ σ' : rc_M} {V : rc_V} (h : rc_CA σ V) (hf : rc_fr ks σ σ') (hk : ∀ k, k ∈ ks → 58 < k) : rc_CA σ' V := by
  have e : ∀ k, k ≤ 58 → σ' k = σ k := fun k hk' => hf k (fun z => absurd (hk k z) (by omega))
  exact ⟨by rw [e 0 (by omega)]; exact h.1, fun i hi => (h.2.1 i hi).fr (e _ (by omega)) (e _ (by omega)), h.2.2.1, by rw [e 3 (by omega)]; exact h.2.2.2.1, h.2.2.2.2⟩
theorem rc_rho4 : ∀ i, i < 6 → rc_rho 4 i = some (9 + 2 * i) := by decide +kernel
theorem rc_rho5 : ∀ i, i < 5 → rc_rho 5 i = some (21 + 2 * i) := by decide +kernel
section RW
variable {d : Nat} {σ : rc_M} {V : rc_V}
theorem c_fill_l {q L : Nat} {v : Int32} (hl : (rc_lay q).1 = 1) (hL : (rc_lay q).2.2 = L) (h2 : 2 ≤ q) (hLL : L ≤ 2000) {Q' : Option Value → rc_M → Prop} (h : ∀ f, (∀ j, j < L → f j = v) → Q' none (rc_up σ q f)) : ∀ (c k : Nat) (f : Nat → Int32), k + c = L → (∀ j, j < k → f j = v) → rc_Tc d 188 5 [.ref q, .int v, .int (nI k), .int (nI L)] [] (rc_up σ q f) Q' := by
  intro c
  induction c with
  | zero =>
    intro k f hk hf
    have : k = L := by omega
    subst this
    exact rc_go 40 (And.intro (fun _ => h f hf) (fun c => absurd (nI_le (Nat.le_refl k) (by omega)) c))
  | succ c ih =>
    intro k f hk hf
    refine rc_go 40 (And.intro (fun c1 => absurd c1 (nI_ge (by omega) (by omega))) (fun _ => ?_))
    refine And.intro hl (And.intro h2 (And.intro (by rw [hL]; exact rc_vi (by omega) hLL) ?_))
    have key := ih (k + 1) (upd f k v) (by omega) (fun j hj => by
      by_cases e : j = k
      · subst e; exact pk_us
      · rw [pk_un e]; exact hf j (by omega))
    rw [← nI_1] at key
    rw [rc_up_s, rc_uu, rc_ci (by omega)]
    exact key
theorem c_fill {q L : Nat} {v : Int32} (hl : (rc_lay q).1 = 1) (hL : (rc_lay q).2.2 = L) (h2 : 2 ≤ q) (hLL : L ≤ 2000) {Q : rc_M → Prop} (h : ∀ f, (∀ j, j < L → f j = v) → Q (rc_up σ q f)) : rc_TV d 188 [.ref q, .int v] σ Q := by
  refine rc_go 40 (And.intro (Or.inl hl) (And.intro h2 ?_))
  have key := c_fill_l (d := d) (σ := σ) (v := v) hl hL h2 hLL (Q' := fun r σ' => r = none ∧ Q σ') (fun f hf => ⟨rfl, h f hf⟩) L 0 (σ q) (by omega) (fun j hj => absurd hj (by omega))
  rw [rc_ui] at key
  rw [hL]
  exact key
theorem c_power_l {b n : Nat} (hn : n ≤ 6) {Q' : Option Value → rc_M → Prop} (h : Q' (some (.int (nI (b ^ n)))) σ) : ∀ (c k : Nat), k + c = n → rc_Tc d 118 4 [.int (nI b), .int (nI n), .int (nI (b ^ k)), .int (nI k)] [] σ Q' := by
  intro c
  induction c with
  | zero =>
    intro k hk
    have : k = n := by omega
    subst this
    exact rc_go 40 (And.intro (fun _ => h) (fun c => absurd (nI_le (Nat.le_refl k) (by omega)) c))
  | succ c ih =>
    intro k hk
    refine rc_go 40 (And.intro (fun c1 => absurd c1 (nI_ge (by omega) (by omega))) (fun _ => ?_))
    have key := ih (k + 1) (by omega)
    rw [← nI_1, Nat.pow_succ, ← pk_mul] at key
    exact key
theorem c_power {x y : Int32} {b n : Nat} (hx : x = nI b) (hy : y = nI n) (hn : n ≤ 6) {Q : Int32 → rc_M → Prop} (h : Q (nI (b ^ n)) σ) : rc_TI d 118 [.int x, .int y] σ Q := by
  subst hx; subst hy
  refine rc_go 40 ?_
  exact c_power_l hn ⟨_, rfl, h⟩ n 0 (by omega)
theorem c_advRow_l {q L n b : Nat} (hl : (rc_lay q).1 = 1) (hL : (rc_lay q).2.2 = L) (h2 : 2 ≤ q) (hn : n ≤ L) (hL6 : L ≤ 6) (hb : b ≤ 6) {Q' : Option Value → rc_M → Prop} : ∀ (k : Nat) (f : Nat → Int32) (row : Nat → Nat), k ≤ n → (∀ j, j < n → f j = nI (row j) ∧ row j ≤ 6) →
    (∀ f', (∀ j, j < n → f' j = nI ((rc_inc b k row).2 j)) → Q' (some (.int (nI (rc_inc b k row).1 - 1))) (rc_up σ q f')) → rc_Tc d 119 4 [.ref q, .int (nI n), .int (nI b), .int (nI k - 1)] [] (rc_up σ q f) Q' := by
  intro k
  induction k with
  | zero =>
    intro f row hk hf h
    refine rc_go 60 (And.intro (fun _ => And.intro (fun _ => ?_) (fun c => absurd rc_nneg c)) (fun c => absurd rc_nneg c))
    exact h f (fun j hj => (hf j hj).1)
  | succ k ih =>
    intro f row hk hf h
    rw [nI_pred]
    obtain ⟨hfk, hrk⟩ := hf k (by omega)
    have hin : vp_in (nI k) (rc_lay q).2.2 := by rw [hL]; exact rc_vi (by omega) (by omega)
    refine rc_go 60 (And.intro (fun c => absurd c (nI_pos (by omega))) (fun _ => ?_))
    refine And.intro hl (And.intro hin ?_)
    rw [rc_up_s, rc_ci (by omega), hfk]
    rw [rc_inc] at h
    refine And.intro (fun c => ?_) (fun c => ?_)
    · rw [nI_1] at c
      have c2 : row k + 1 < b := (nI_ltI (by omega) (by omega)).mp c
      rw [if_pos c2] at h
      refine And.intro (fun c => absurd c (nI_pos (by omega))) (fun _ => ?_)
      refine And.intro hl (And.intro hin (And.intro hl (And.intro h2 (And.intro hin ?_))))
      have := h (upd f k (nI (row k + 1))) (fun j hj => by
        by_cases e : j = k
        · subst e; rw [pk_us]; simp [va_up]
        · rw [pk_un e]; simp only [va_up, e, if_false]; exact (hf j hj).1)
      dsimp only at this
      rw [nI_pred] at this
      rw [rc_up_s, rc_uu, rc_ci (by omega), hfk, nI_1]
      exact this
    · rw [nI_1] at c
      have c2 : ¬ row k + 1 < b := fun z => c (nI_lt z (by omega))
      rw [if_neg c2] at h
      refine And.intro hl (And.intro h2 (And.intro hin ?_))
      have key := ih (upd f k 0) (va_up row k 0) (by omega) (fun j hj => by
        by_cases e : j = k
        · subst e; rw [pk_us]; simp [va_up]; rfl
        · rw [pk_un e]; simp only [va_up, e, if_false]; exact hf j hj) h
      rw [rc_up_s, rc_uu, rc_ci (by omega)]
      have e9 : nI k - 1 = nI k + -1 := by rw [Int32.sub_eq_add_neg]
      rw [e9] at key
      exact key
theorem c_advRow {q L n b : Nat} {x y : Int32} {row : Nat → Nat} (hx : x = nI n) (hy : y = nI b) (hl : (rc_lay q).1 = 1) (hL : (rc_lay q).2.2 = L) (h2 : 2 ≤ q) (hn : n ≤ L) (hL6 : L ≤ 6) (hb : b ≤ 6) (hr : ∀ j, j < n → σ q j = nI (row j) ∧ row j ≤ 6) {Q : Int32 → rc_M → Prop}
    (h : ∀ f', (∀ j, j < n → f' j = nI ((rc_inc b n row).2 j)) → Q (nI (rc_inc b n row).1 - 1) (rc_up σ q f')) : rc_TI d 119 [.ref q, .int x, .int y] σ Q := by
  subst hx; subst hy
  refine rc_go 40 ?_
  have key := c_advRow_l (d := d) (σ := σ) hl hL h2 hn hL6 hb (Q' := fun r σ' => ∃ x, r = some (.int x) ∧ Q x σ') n (σ q) row (Nat.le_refl _) hr (fun f' hf' => ⟨_, rfl, h f' hf'⟩)
  rw [rc_ui] at key
  exact key
theorem c_lastB_l {k : Nat} {row E : Nat → Nat} (hk : k < 6) (hr : ∀ j, j ≤ k → σ 63 j = nI (row j) ∧ row j < 6) (hE : ∀ j, j < k → σ 64 j = nI (E j)) {Q' : Option Value → rc_M → Prop} : ∀ i, i ≤ k → Q' (some (.int (rc_cI (rc_lb row E (row k) i)))) σ → rc_Tc d 81 4 [.ref 62, .int (nI k), .int (nI i - 1)] [] σ Q' := by
  intro i
  induction i with
  | zero =>
    intro _ h
    exact rc_go 40 (And.intro (fun _ => h) (fun c => absurd rc_nneg c))
  | succ i ih =>
    intro hi h
    rw [nI_pred]
    rw [rc_lb] at h
    refine rc_go 40 (And.intro (fun c => absurd c (nI_pos (by omega))) (fun _ => ?_))
    refine And.intro (rc_vi (n := 6) (by omega) (by decide)) (And.intro (rc_vi (n := 6) (by omega) (by decide)) ?_)
    rw [rc_ci (by omega), rc_ci (by omega), (hr i (by omega)).1, (hr k (by omega)).1]
    refine And.intro (fun c => ?_) (fun c => ?_)
    · have c2 : ¬ row i = row k := fun z => c (by rw [z])
      rw [if_neg c2] at h
      have key := ih (by omega) h
      have e9 : nI i - 1 = nI i + -1 := by rw [Int32.sub_eq_add_neg]
      rw [e9] at key
      exact key
    · have c2 : row i = row k := (nI_eq (by have := (hr i (by omega)).2; omega) (by have := (hr k (by omega)).2; omega)).mp c
      rw [if_pos c2] at h
      refine And.intro (rc_vi (n := 7) (by omega) (by decide)) ?_
      rw [rc_ci (by omega), hE i (by omega)]
      exact h
theorem c_lastB {x : Int32} {k : Nat} {row E : Nat → Nat} (hx : x = nI k) (hk : k < 6) (hr : ∀ j, j ≤ k → σ 63 j = nI (row j) ∧ row j < 6) (hE : ∀ j, j < k → σ 64 j = nI (E j)) {Q : Int32 → rc_M → Prop} (h : Q (rc_cI (rc_lb row E (row k) k)) σ) : rc_TI d 81 [.ref 62, .int x] σ Q := by
  subst hx
  refine rc_go 40 ?_
  exact c_lastB_l hk hr hE k (Nat.le_refl _) ⟨_, rfl, h⟩
theorem c_sleep_l {n s : Nat} {row : Nat → Nat} (hA : rc_CA σ V) (hs : s < 27) (hn : n ≤ 6) (hn3 : σ 62 3 = nI n) (hr : ∀ j, j < n → σ 63 j = nI (row j) ∧ row j < 6) {Q' : Option Value → rc_M → Prop} (h : ∀ f, (∀ j, j ≤ n → f j = nI (rc_E V row s j)) → Q' none (rc_up σ 64 f)) : ∀ (c k : Nat) (f : Nat → Int32) (x1 : Int32) (w3 w4 : Value), k + c = n → (∀ j, j ≤ k → f j = nI (rc_E V row s j)) → rc_Tc (d + 3) 80 2 [.ref 62, .int x1, .int (nI k), w3, w4] [] (rc_up σ 64 f) Q' := by
  have hlt : ∀ k, k ≤ n → rc_E V row s k < 27 := fun k hk => rc_E_lt hs k (fun i hi => hA.2.2.1 _ (hr i (by omega)).2)
  have h62 : ∀ f, rc_up σ 64 f 62 3 = nI n := fun f => by rw [rc_up_n _ _ (by decide)]; exact hn3
  have h63 : ∀ f j, rc_up σ 64 f 63 j = σ 63 j := fun f j => by rw [rc_up_n _ _ (by decide)]
  intro c
  induction c with
  | zero =>
    intro k f x1 w3 w4 hk hf
    have : k = n := by omega
    subst this
    exact rc_go 60 (And.intro (fun _ => h f hf) (fun c => absurd (by rw [h62]; exact nI_le (Nat.le_refl k) (by omega)) c))
  | succ c ih =>
    intro k f x1 w3 w4 hk hf
    obtain ⟨r1, r2⟩ := hr k (by omega)
    have hA1 : rc_CA (rc_up σ 64 f) V := hA.fr (rc_fr.up (ks := [64]) (by simp)) (by simp)
    have hck : (nI k).toNatClampNeg = k := rc_ci (by omega)
    have hcr : (σ 63 k).toNatClampNeg = row k := by rw [r1]; exact rc_ci (by omega)
    have hRm := (hA1.2.1 (row k) r2).rm r2
    have hWr := hA.2.2.1 (row k) r2
    have fin : ∀ x5 : Int32, x5 = rc_cI (rc_un row (rc_E V row s) k) → ∀ Q2 : Int32 → rc_M → Prop, Q2 (nI (rc_E V row s (k + 1))) (rc_up σ 64 f) → rc_TI (d + 2) 59 [.ref (9 + 2 * row k), .int (f k), .int (nI k), .int (rc_cI (rc_lb row (rc_E V row s) (row k) k)), .int (-9), .int x5] (rc_up σ 64 f) Q2 := fun x5 h5 Q2 hq => by
      rw [rc_E_s] at hq
      exact c_after (tc := 0) (hf k (Nat.le_refl _)) rfl rfl rfl h5 hA1.1 (hlt k (by omega)) (by omega) (rc_lb_le k (fun i hi => hlt i (by omega))) (by decide) (rc_un_le (fun i hi => hlt i (by omega))) hRm hWr.1 hWr.2.1 hWr.2.2.1 hq
    have lst : ∀ Q2 : Int32 → rc_M → Prop, Q2 (rc_cI (rc_lb row (rc_E V row s) (row k) k)) (rc_up σ 64 f) → rc_TI (d + 2) 81 [.ref 62, .int (nI k)] (rc_up σ 64 f) Q2 := fun Q2 hq =>
      c_lastB rfl (by omega) (fun j hj => by rw [h63]; exact hr j (by omega)) (fun j hj => by rw [rc_up_s]; exact hf j (by omega)) hq
    have nxt : ∀ w3 w4 : Value, rc_Tc (d + 3) 80 2 [.ref 62, .int x1, .int (nI k + 1), w3, w4] [] (rc_up σ 64 (upd f (k + 1) (nI (rc_E V row s (k + 1))))) Q' := fun w3 w4 => by
      rw [nI_1]
      refine ih (k + 1) _ x1 w3 w4 (by omega) (fun j hj => ?_)
      by_cases e : j = k + 1
      · subst e; rw [pk_us]
      · rw [pk_un e]; exact hf j (by omega)
    have hq : rc_rho 4 (σ 63 k).toNatClampNeg = some (9 + 2 * row k) := by rw [hcr]; exact rc_rho4 _ r2
    have hin4 : vp_in (σ 63 k) 6 := by rw [r1]; exact rc_vi r2 (by decide)
    have hk1 : nI k + 1 = nI (k + 1) := nI_1 k
    have st : ∀ (f2 : Nat → Int32) (x : Int32), rc_up (rc_up σ 64 f) 64 (upd ((rc_up σ 64 f) 64) (nI k + 1).toNatClampNeg x) = rc_up σ 64 (upd f (k + 1) x) := fun f2 x => by rw [rc_up_s, rc_uu, hk1, rc_ci (by omega)]
    refine rc_go 90 (And.intro (fun c1 => absurd (by rw [h62] at c1; exact c1) (nI_ge (by omega) (by omega))) (fun _ => ?_))
    refine And.intro (rc_vi (n := 6) (by omega) (by decide)) ?_
    rw [hck, h63]
    refine Exists.intro (9 + 2 * row k) (And.intro rfl (And.intro hin4 (And.intro hq ?_)))
    refine And.intro (fun c1 => ?_) (fun c1 => ?_)
    · have hk0 : k = 0 := by
        rcases Nat.eq_zero_or_pos k with z | z
        · exact z
        · exact absurd c1 (nI_nle z (by omega))
      refine And.intro (rc_vi (n := 7) (by omega) (by decide)) (lst _ (And.intro hRm.1 ?_))
      rw [hck, rc_up_s]
      refine fin (-9) (by subst hk0; rfl) _ ?_
      refine And.intro (by rw [hk1]; exact rc_vi (n := 7) (by omega) (by decide)) ?_
      rw [st f]
      exact nxt _ _
    · obtain ⟨k', rfl⟩ : ∃ k', k = k' + 1 := ⟨k - 1, by
        rcases Nat.eq_zero_or_pos k with z | z
        · subst z; exact absurd (by decide) c1
        · omega⟩
      have r1' := (hr k' (by omega)).1
      have r2' := (hr k' (by omega)).2
      refine And.intro (by rw [nI_pred]; exact rc_vi (n := 6) (by omega) (by decide)) (And.intro (rc_vi (n := 6) (by omega) (by decide)) ?_)
      rw [nI_pred, rc_ci (show k' ≤ 2000 by omega), hck, h63, h63]
      refine And.intro (fun c2 => ?_) (fun c2 => ?_)
      · have hne : ¬ row k' = row (k' + 1) := fun z => c2 (by rw [r1, r1', z])
        refine And.intro (rc_vi (n := 7) (by omega) (by decide)) (lst _ (And.intro hRm.1 ?_))
        rw [hck, rc_up_s]
        refine fin (-9) (by rw [rc_un, if_neg hne]; rfl) _ ?_
        refine And.intro (by rw [hk1]; exact rc_vi (n := 7) (by omega) (by decide)) ?_
        rw [st f]
        exact nxt _ _
      · have heq : row k' = row (k' + 1) := by
          rw [r1, r1'] at c2
          exact (nI_eq (by omega) (by omega)).mp c2
        refine And.intro (by rw [nI_pred]; exact rc_vi (n := 7) (by omega) (by decide)) ?_
        rw [nI_pred, rc_ci (show k' ≤ 2000 by omega), rc_up_s]
        refine And.intro (rc_vi (n := 7) (by omega) (by decide)) (lst _ (And.intro hRm.1 ?_))
        rw [hck, rc_up_s]
        refine fin (f k') (by rw [rc_un, if_pos heq, hf k' (by omega)]; rfl) _ ?_
        refine And.intro (by rw [hk1]; exact rc_vi (n := 7) (by omega) (by decide)) ?_
        rw [st f]
        exact nxt _ _
theorem c_sleepFrom {x : Int32} {n s k : Nat} {row : Nat → Nat} (hx : x = nI k) (hA : rc_CA σ V) (hs : s < 27) (hn : n ≤ 6) (hk : k ≤ n) (hn3 : σ 62 3 = nI n) (hr : ∀ j, j < n → σ 63 j = nI (row j) ∧ row j < 6) (hE : ∀ j, j ≤ k → σ 64 j = nI (rc_E V row s j)) {Q : rc_M → Prop} (h : ∀ f, (∀ j, j ≤ n → f j = nI (rc_E V row s j)) → Q (rc_up σ 64 f)) : rc_TV (d + 3) 80 [.ref 62, .int x] σ Q := by
  subst hx
  refine rc_go 40 ?_
  have key := c_sleep_l (d := d) hA hs hn hn3 hr (Q' := fun r σ' => r = none ∧ Q σ') (fun f hf => ⟨rfl, h f hf⟩) (n - k) k (σ 64) (nI k) .null .null (by omega) hE
  rw [rc_ui] at key
  exact key
end RW
