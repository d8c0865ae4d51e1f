section RCs
variable {d : Nat} {σ : rc_M} {V : rc_V}
theorem rc_inc_dg {b n t : Nat} (ht : t < b ^ n) : (t + 1 < b ^ n → (rc_inc b n (rc_dg b n t)).1 ≠ 0 ∧ ∀ i, i < n → (rc_inc b n (rc_dg b n t)).2 i = rc_dg b n (t + 1) i) ∧ (¬ t + 1 < b ^ n → (rc_inc b n (rc_dg b n t)).1 = 0) := by
  rcases Nat.eq_zero_or_pos b with hb | hb
  · subst hb
    cases n with
    | zero =>
      have : t = 0 := by simpa using ht
      subst this
      exact ⟨fun h => absurd h (by simp), fun _ => rfl⟩
    | succ n =>
      rw [Nat.zero_pow (by omega)] at ht
      omega
  · obtain ⟨⟨i1, i2⟩, -, -, -⟩ := rc_inc_s hb n t (rc_dg b n t) ht (fun _ _ => rfl)
    exact ⟨i1, fun h => (i2 h).1⟩
theorem c_adv {n s t : Nat} (hA : rc_CA σ V) (ht : t < V 12 0 ^ n) (hW : rc_Wk σ V n s (rc_dg (V 12 0) n t)) {Q : rc_M → Prop} (h : ∀ σ', rc_fr [62, 63, 64] σ σ' → (t + 1 < V 12 0 ^ n → rc_Wk σ' V n s (rc_dg (V 12 0) n (t + 1))) → Q σ') : rc_TV (d + 4) 71 [.ref 62] σ Q := by
  obtain ⟨i1, i2⟩ := rc_inc_dg ht
  refine c_advance hA hW (fun σ' hf hz => h σ' hf (fun c => absurd hz (i1 c).1)) (fun σ' hf hz hW' => h σ' hf (fun c => hW'.congr (fun j hj => (i1 c).2 j hj)))
theorem c_beg {x y : Int32} {s n : Nat} (hx : x = nI s) (hy : y = nI n) (hA : rc_CA σ V) (hs : s < 27) (hn : n ≤ 6) {Q : Int32 → rc_M → Prop} (h : ∀ σ', rc_fr [62, 63, 64] σ σ' → rc_Wk σ' V n s (rc_dg (V 12 0) n 0) → Q (nI (V 12 0 ^ n)) σ') : rc_TI (d + 4) 70 [.ref 62, .int x, .int y] σ Q :=
  c_begin hx hy hA hs hn (fun σ' hf hW => h σ' hf (hW.congr (fun j _ => rc_dg_0.symm)))
def rc_SC (σ : rc_M) (V : rc_V) (β : Option (Nat × Nat)) : Prop := match β with
  | none => σ 65 2 = -9 ∧ σ 65 3 = -9
  | some q => q.1 ≤ 4 ∧ σ 65 2 = nI q.1 ∧ σ 65 3 = nI (rc_cst V q.1 q.2) ∧ ∀ j, j < q.1 → σ 66 j = nI (rc_dg (V 12 0) q.1 q.2 j)
theorem rc_SC.of {σ σ' : rc_M} {β : Option (Nat × Nat)} (h : rc_SC σ V β) (h1 : σ' 65 = σ 65) (h2 : σ' 66 = σ 66) : rc_SC σ' V β := by
  unfold rc_SC
  rw [h1, h2]
  exact h
theorem c_forget {Q : rc_M → Prop} (h : Q (rc_up σ 65 (upd (upd (σ 65) 2 (-9)) 3 (-9)))) : rc_TV d 67 [.ref 65] σ Q := by
  refine rc_go 40 ⟨rfl, ?_⟩
  rw [rc_up_s, rc_uu]
  exact h
theorem c_keep {x : Int32} {n s : Nat} {row : Nat → Nat} (hx : x = nI n) (hA : rc_CA σ V) (hW : rc_Wk σ V n s row) {Q : rc_M → Prop} (h : ∀ f, (∀ j, j < n → f j = nI (row j)) → Q (rc_up (rc_up σ 65 (upd (upd (σ 65) 2 (nI n)) 3 (nI (rc_sum V row n)))) 66 f)) : rc_TV (d + 1) 68 [.ref 65, .int x] σ Q := by
  subst hx
  have f1 : rc_fr [65] σ (rc_up σ 65 (upd (σ 65) 2 (nI n))) := rc_fr.up (by simp)
  refine rc_go 40 ?_
  refine c_price (hA.fr f1 (by simp)) (hW.fr f1 (by simp)) ?_
  have e : rc_up (rc_up σ 65 (upd (σ 65) 2 (nI n))) 65 (upd ((rc_up σ 65 (upd (σ 65) 2 (nI n))) 65) 3 (nI (rc_sum V row n))) = rc_up σ 65 (upd (upd (σ 65) 2 (nI n)) 3 (nI (rc_sum V row n))) := by rw [rc_up_s, rc_uu]
  have key : rc_TV d 77 [.ref 62, .ref 66] (rc_up σ 65 (upd (upd (σ 65) 2 (nI n)) 3 (nI (rc_sum V row n)))) Q := c_copyRow (hW.fr (rc_fr.up (ks := [65]) (by simp)) (by simp)) h
  refine rc_TV.weak (Q := Q) ?_ (fun σ' hq => ⟨rfl, hq⟩)
  rw [e]
  exact key
abbrev rc_k5s : List Nat := [62, 63, 64, 65, 66]
/-- the state at the class's loops -/
def rc_CI (σ0 σ : rc_M) (V : rc_V) (β : Option (Nat × Nat)) : Prop := rc_fr rc_k5s σ0 σ ∧ rc_SC σ V β
theorem rc_CI.wk {σ0 σ1 : rc_M} {β : Option (Nat × Nat)} (h : rc_CI σ0 σ V β) (hf : rc_fr [62, 63, 64] σ σ1) : rc_CI σ0 σ1 V β := ⟨h.1.tr (hf.mono (by simp)), h.2.of (hf 65 (by decide)) (hf 66 (by decide))⟩
theorem rc_k5_lt : ∀ k, k ∈ rc_k5s → 58 < k := by simp [rc_k5s]
theorem rc_stp_n {s g what n t : Nat} {β : Option (Nat × Nat)} (h : rc_hit V s g n t = false) : rc_stp V s g what β n t = β := by simp [rc_stp, h]
theorem rc_Gs.fr {ks : List Nat} {σ σ' : rc_M} {q : Nat} {wi : Nat → Nat} (h : rc_Gs σ q wi) (hf : rc_fr ks σ σ') (hq : q + 1 ∉ ks) : rc_Gs σ' q wi := by
  obtain ⟨h1, h2, h3, h4⟩ := h
  exact ⟨h1, h2, h3, fun m hm => by rw [hf (q + 1) hq]; exact h4 m hm⟩
theorem c_kept {s g what n t : Nat} {β : Option (Nat × Nat)} {σ0 : rc_M} (hn : n ≤ 4) (hI : rc_CI σ0 σ V β) (hb : rc_btr V what β (rc_cst V n t) = true) (hh : rc_hit V s g n t = true) {f : Nat → Int32} (hf : ∀ j, j < n → f j = nI (rc_dg (V 12 0) n t j)) : rc_CI σ0 (rc_up (rc_up σ 65 (upd (upd (σ 65) 2 (nI n)) 3 (nI (rc_sum V (rc_dg (V 12 0) n t) n)))) 66 f) V (rc_stp V s g what β n t) := by
  have e : rc_stp V s g what β n t = some (n, t) := by simp [rc_stp, hb, hh]
  rw [e]
  refine ⟨hI.1.tr ((rc_fr.up (by simp)).tr (rc_fr.up (by simp))), hn, ?_, ?_, fun j hj => ?_⟩
  · rw [rc_up_n _ _ (by decide), rc_up_s, pk_un (by decide), pk_us]
  · rw [rc_up_n _ _ (by decide), rc_up_s, pk_us]; rfl
  · rw [rc_up_s]; exact hf j hj
theorem c_short_32 {s g n q : Nat} {σ0 : rc_M} (hs : s < 27) (hA : rc_CA σ0 V) (hG : rc_Gs σ0 q (rc_wi V g)) (hq : q + 1 ≤ 58) (hWg : rc_WG V g) (hn : n ≤ 4) {Q' : Option Value → rc_M → Prop}
    (h : ∀ (σ' : rc_M) (w4 w5 : Value), rc_CI σ0 σ' V (rc_so V s g 0 (n + 1)) → rc_Tc (d + 5) 65 6 [.ref 65, .int (nI s), .ref q, .int (nI (n + 1)), w4, w5] [] σ' Q') : ∀ (c t : Nat) (σ : rc_M), t + c = V 12 0 ^ n → rc_CI σ0 σ V (rc_sf V s g 0 (rc_so V s g 0 n) n t) → (t < V 12 0 ^ n → rc_Wk σ V n s (rc_dg (V 12 0) n t)) → rc_Tc (d + 5) 65 32 [.ref 65, .int (nI s), .ref q, .int (nI n), .int (nI (V 12 0 ^ n)), .int (nI t)] [] σ Q' := by
  have hp : V 12 0 ^ n ≤ 6 ^ 4 := Nat.le_trans (Nat.pow_le_pow_left hA.2.2.2.2 n) (Nat.pow_le_pow_right (by decide) hn)
  have hp2 : (6 : Nat) ^ 4 = 1296 := by decide
  intro c
  induction c with
  | zero =>
    intro t σ ht hI hW
    have : t = V 12 0 ^ n := by omega
    subst this
    have key := h σ (.int (nI (V 12 0 ^ n))) (.int (nI (V 12 0 ^ n))) hI
    rw [← nI_1] at key
    exact rc_go 40 (And.intro (fun _ => key) (fun c => absurd (nI_le (Nat.le_refl _) (by omega)) c))
  | succ c ih =>
    intro t σ ht hI hW
    have hA1 := hA.fr hI.1 rc_k5_lt
    have hW1 := hW (by omega)
    have hElt : rc_E V (rc_dg (V 12 0) n t) s n < 27 := rc_E_lt hs n (fun i hi => hA.2.2.1 _ (hW1.2.2.1 i hi).2)
    refine rc_go 60 (And.intro (fun c1 => absurd c1 (nI_ge (by omega) (by omega))) (fun _ => ?_))
    refine And.intro (fun c1 => ?_) (fun c1 => ?_)
    · have hne : rc_sf V s g 0 (rc_so V s g 0 n) n t ≠ none := fun z => by
        have h2 := hI.2
        rw [z] at h2
        rw [h2.1] at c1
        exact absurd c1 (by decide)
      have mono : ∀ (β : Option (Nat × Nat)) (t c : Nat), rc_sf V s g 0 β n t ≠ none → rc_sf V s g 0 β n (t + c) = rc_sf V s g 0 β n t := by
        intro β t c hb
        induction c with
        | zero => rfl
        | succ c ihc =>
          rw [← Nat.add_assoc, rc_sf, ihc]
          cases hz : rc_sf V s g 0 β n t with
          | none => exact absurd hz hb
          | some q => simp [rc_stp, rc_btr]
      have key := h σ (.int (nI (V 12 0 ^ n))) (.int (nI t)) (by rw [rc_so, ← ht, mono _ _ _ hne]; exact hI)
      rw [← nI_1] at key
      exact key
    · have hz : rc_sf V s g 0 (rc_so V s g 0 n) n t = none := by
        cases hz : rc_sf V s g 0 (rc_so V s g 0 n) n t with
        | none => rfl
        | some q2 =>
          have h2 := hI.2
          rw [hz] at h2
          rw [h2.2.1] at c1
          exact absurd (nI_pos' (by have := h2.1; omega)) c1
      refine c_end hW1 (And.intro hG.1 ?_)
      refine c_wishes rfl hA1.1 hElt (hG.fr hI.1 (by simp [rc_k5s]; omega)) hWg.2.1 ?_
      have nxt : ∀ σ1 : rc_M, rc_CI σ0 σ1 V (rc_sf V s g 0 (rc_so V s g 0 n) n (t + 1)) → (t + 1 < V 12 0 ^ n → rc_Wk σ1 V n s (rc_dg (V 12 0) n (t + 1))) → rc_Tc (d + 5) 65 32 [.ref 65, .int (nI s), .ref q, .int (nI n), .int (nI (V 12 0 ^ n)), .int (nI t + 1)] [] σ1 Q' := fun σ1 hI1 hW2 => by
        rw [nI_1]
        exact ih (t + 1) σ1 (by omega) hI1 hW2
      refine And.intro (fun c2 => ?_) (fun c2 => ?_)
      · have hh : rc_hit V s g n t = false := rc_bI_0.mp c2
        refine c_adv hA1 (by omega) hW1 (fun σ1 hf hW2 => nxt σ1 ?_ hW2)
        rw [rc_sf, rc_stp_n hh]
        exact hI.wk hf
      · have hh : rc_hit V s g n t = true := by
          cases hz : rc_hit V s g n t with
          | true => rfl
          | false =>
            have hz2 : rc_wz (rc_wi V g) (rc_E V (rc_dg (V 12 0) n t) s n) = false := hz
            rw [hz2] at c2
            exact absurd rfl c2
        refine c_keep rfl hA1 hW1 (fun f hf => ?_)
        have hI2 := c_kept (s := s) (g := g) (what := 0) hn hI (by rw [hz]; rfl) hh hf
        refine c_adv (hA.fr hI2.1 rc_k5_lt) (by omega) (hW1.fr ((rc_fr.up (ks := [65, 66]) (by simp)).tr (rc_fr.up (by simp))) (by simp)) (fun σ1 hf1 hW2 => nxt σ1 ?_ hW2)
        rw [rc_sf]
        exact hI2.wk hf1
theorem c_short_6 {s g q : Nat} {σ0 : rc_M} (hs : s < 27) (hA : rc_CA σ0 V) (hG : rc_Gs σ0 q (rc_wi V g)) (hq : q + 1 ≤ 58) (hWg : rc_WG V g) {Q' : Option Value → rc_M → Prop}
    (h : ∀ (σ' : rc_M), rc_CI σ0 σ' V (rc_so V s g 0 5) → Q' none σ') : ∀ (c n : Nat) (σ : rc_M) (w4 w5 : Value), n + c = 5 → rc_CI σ0 σ V (rc_so V s g 0 n) → rc_Tc (d + 5) 65 6 [.ref 65, .int (nI s), .ref q, .int (nI n), w4, w5] [] σ Q' := by
  intro c
  induction c with
  | zero =>
    intro n σ w4 w5 hn hI
    have : n = 5 := by omega
    subst this
    exact rc_go 40 (And.intro (fun _ => h σ hI) (fun c => absurd (by decide) c))
  | succ c ih =>
    intro n σ w4 w5 hn hI
    refine rc_go 40 (And.intro (fun c1 => absurd c1 (nI_nlt (show n ≤ 4 by omega) (by decide))) (fun _ => ?_))
    refine And.intro (fun c1 => ?_) (fun c1 => ?_)
    · refine h σ ?_
      have hne : rc_so V s g 0 n ≠ none := fun z => by
        have h2 := hI.2
        rw [z] at h2
        rw [h2.1] at c1
        exact absurd c1 (by decide)
      have e := rc_so_same hne (5 - n)
      rw [show n + (5 - n) = 5 by omega] at e
      rw [e]
      exact hI
    · refine c_beg rfl rfl (hA.fr hI.1 rc_k5_lt) hs (by omega) (fun σ' hf hW => ?_)
      exact c_short_32 hs hA hG hq hWg (by omega) (fun σ2 w4 w5 hI2 => ih (n + 1) σ2 w4 w5 (by omega) hI2) (V 12 0 ^ n) 0 σ' (by omega) (hI.wk hf) (fun _ => hW)
theorem c_shortest {x : Int32} {s g q : Nat} (hx : x = nI s) (hs : s < 27) (hA : rc_CA σ V) (hG : rc_Gs σ q (rc_wi V g)) (hq : q + 1 ≤ 58) (hWg : rc_WG V g) {Q : rc_M → Prop} (h : ∀ (σ' : rc_M), rc_fr rc_k5s σ σ' → rc_SC σ' V (rc_so V s g 0 5) → Q σ') : rc_TV (d + 5) 65 [.ref 65, .int x, .ref q] σ Q := by
  subst hx
  refine rc_go 40 (c_forget ?_)
  exact c_short_6 hs hA hG hq hWg (fun σ' hI => ⟨rfl, h σ' hI.1 hI.2⟩) 5 0 _ _ _ rfl ⟨rc_fr.up (by simp), by rw [rc_up_s, pk_un (by decide), pk_us], by rw [rc_up_s, pk_us]⟩
theorem c_least_25 {s g n q : Nat} {σ0 : rc_M} (hs : s < 27) (hA : rc_CA σ0 V) (hG : rc_Gs σ0 q (rc_wi V g)) (hq : q + 1 ≤ 58) (hWg : rc_WG V g) (hn : n ≤ 4) {Q' : Option Value → rc_M → Prop}
    (h : ∀ (σ' : rc_M) (w4 w5 w6 : Value), rc_CI σ0 σ' V (rc_so V s g 1 (n + 1)) → rc_Tc (d + 5) 66 6 [.ref 65, .int (nI s), .ref q, .int (nI (n + 1)), w4, w5, w6] [] σ' Q') : ∀ (c t : Nat) (σ : rc_M) (w6 : Value), t + c = V 12 0 ^ n → rc_CI σ0 σ V (rc_sf V s g 1 (rc_so V s g 1 n) n t) → (t < V 12 0 ^ n → rc_Wk σ V n s (rc_dg (V 12 0) n t)) → rc_Tc (d + 5) 66 25 [.ref 65, .int (nI s), .ref q, .int (nI n), .int (nI (V 12 0 ^ n)), .int (nI t), w6] [] σ Q' := by
  have hp : V 12 0 ^ n ≤ 6 ^ 4 := Nat.le_trans (Nat.pow_le_pow_left hA.2.2.2.2 n) (Nat.pow_le_pow_right (by decide) hn)
  have hp2 : (6 : Nat) ^ 4 = 1296 := by decide
  intro c
  induction c with
  | zero =>
    intro t σ w6 ht hI hW
    have : t = V 12 0 ^ n := by omega
    subst this
    have key := h σ (.int (nI (V 12 0 ^ n))) (.int (nI (V 12 0 ^ n))) w6 hI
    rw [← nI_1] at key
    exact rc_go 40 (And.intro (fun _ => key) (fun c => absurd (nI_le (Nat.le_refl _) (by omega)) c))
  | succ c ih =>
    intro t σ w6 ht hI hW
    have hA1 := hA.fr hI.1 rc_k5_lt
    have hW1 := hW (by omega)
    have hElt : rc_E V (rc_dg (V 12 0) n t) s n < 27 := rc_E_lt hs n (fun i hi => hA.2.2.1 _ (hW1.2.2.1 i hi).2)
    have hcl : rc_cst V n t ≤ 99 * n := rc_cst_le hA.2.2.1 n (fun j hj => (hW1.2.2.1 j hj).2)
    refine rc_go 60 (And.intro (fun c1 => absurd c1 (nI_ge (by omega) (by omega))) (fun _ => ?_))
    refine c_end hW1 (And.intro hG.1 ?_)
    refine c_wishes rfl hA1.1 hElt (hG.fr hI.1 (by simp [rc_k5s]; omega)) hWg.2.1 ?_
    have nxt : ∀ (σ1 : rc_M) (w6 : Value), rc_CI σ0 σ1 V (rc_sf V s g 1 (rc_so V s g 1 n) n (t + 1)) → (t + 1 < V 12 0 ^ n → rc_Wk σ1 V n s (rc_dg (V 12 0) n (t + 1))) → rc_Tc (d + 5) 66 25 [.ref 65, .int (nI s), .ref q, .int (nI n), .int (nI (V 12 0 ^ n)), .int (nI t + 1), w6] [] σ1 Q' := fun σ1 w6 hI1 hW2 => by
      rw [nI_1]
      exact ih (t + 1) σ1 w6 (by omega) hI1 hW2
    refine And.intro (fun c2 => ?_) (fun c2 => ?_)
    · have hh : rc_hit V s g n t = false := rc_bI_0.mp c2
      refine c_adv hA1 (by omega) hW1 (fun σ1 hf hW2 => nxt σ1 _ ?_ hW2)
      rw [rc_sf, rc_stp_n hh]
      exact hI.wk hf
    · have hh : rc_hit V s g n t = true := by
        cases hz : rc_hit V s g n t with
        | true => rfl
        | false =>
          have hz2 : rc_wz (rc_wi V g) (rc_E V (rc_dg (V 12 0) n t) s n) = false := hz
          rw [hz2] at c2
          exact absurd rfl c2
      have kp : rc_btr V 1 (rc_sf V s g 1 (rc_so V s g 1 n) n t) (rc_cst V n t) = true → ∀ w6 : Value, rc_TV (d + 4) 68 [.ref 65, .int (nI n)] σ (fun σ' => rc_TV (d + 4) 71 [.ref 62] σ' (fun σ1 => rc_Tc (d + 5) 66 25 [.ref 65, .int (nI s), .ref q, .int (nI n), .int (nI (V 12 0 ^ n)), .int (nI t + 1), w6] [] σ1 Q')) := fun hb w6 => by
        refine c_keep rfl hA1 hW1 (fun f hf => ?_)
        have hI2 := c_kept (s := s) (g := g) (what := 1) hn hI hb hh hf
        refine c_adv (hA.fr hI2.1 rc_k5_lt) (by omega) (hW1.fr ((rc_fr.up (ks := [65, 66]) (by simp)).tr (rc_fr.up (by simp))) (by simp)) (fun σ1 hf1 hW2 => nxt σ1 _ ?_ hW2)
        rw [rc_sf]
        exact hI2.wk hf1
      cases hz : rc_sf V s g 1 (rc_so V s g 1 n) n t with
      | none =>
        have h2 := hI.2
        rw [hz] at h2
        refine And.intro (fun _ => kp (by rw [hz]; rfl) _) (fun c3 => absurd (by rw [h2.1]; decide) c3)
      | some q2 =>
        have h2 := hI.2
        rw [hz] at h2
        refine And.intro (fun c3 => absurd (by rw [h2.2.1] at c3; exact c3) (nI_pos (by have := h2.1; omega))) (fun _ => ?_)
        refine c_price hA1 hW1 ?_
        have hdl : ∀ j, j < q2.1 → rc_dg (V 12 0) q2.1 q2.2 j < 6 := fun j _ => by
          have := Nat.mod_lt (q2.2 / V 12 0 ^ (q2.1 - 1 - j)) (y := V 12 0)
          rcases Nat.eq_zero_or_pos (V 12 0) with z | z
          · unfold rc_dg
            rw [z]
            cases hn0 : q2.1 - 1 - j with
            | zero =>
              have hlt : ∀ (β : Option (Nat × Nat)) (m t : Nat), (∀ p, β = some p → p.2 = 0) → t ≤ 0 ^ m → ∀ p, rc_sf V s g 1 β m t = some p → p.2 = 0 := by
                intro β m t hβ
                induction t with
                | zero => intro _ p hp; exact hβ p hp
                | succ t iht =>
                  intro hle p hp
                  have ht0 : t = 0 := by
                    have : (0 : Nat) ^ m ≤ 1 := by cases m <;> simp
                    omega
                  subst ht0
                  rw [rc_sf, rc_stp] at hp
                  split at hp
                  · cases hp; rfl
                  · exact iht (by omega) p hp
              have hso : ∀ m p, rc_so V s g 1 m = some p → p.2 = 0 := by
                intro m
                induction m with
                | zero => intro p hp; cases hp
                | succ m ihm =>
                  intro p hp
                  rw [rc_so] at hp
                  exact hlt _ m _ ihm (by rw [z]; exact Nat.le_refl _) p hp
              have := hlt (rc_so V s g 1 n) n t (hso n) (by rw [z] at ht; omega) q2 hz
              rw [this]
              decide
            | succ k => simp
          · have := this z
            unfold rc_dg
            have := hA.2.2.2.2
            omega
        have hq2l : rc_cst V q2.1 q2.2 ≤ 99 * q2.1 := rc_cst_le hA.2.2.1 q2.1 hdl
        have hq24 := h2.1
        refine And.intro (fun c3 => ?_) (fun c3 => ?_)
        · have hb : rc_btr V 1 (some q2) (rc_cst V n t) = false := by
            have : ¬ rc_cst V n t < rc_cst V q2.1 q2.2 := fun z => nI_ge z (by omega) (by rw [h2.2.2.1] at c3; exact c3)
            simp [rc_btr, this]
          refine c_adv hA1 (by omega) hW1 (fun σ1 hf hW2 => nxt σ1 _ ?_ hW2)
          have e : rc_sf V s g 1 (rc_so V s g 1 n) n (t + 1) = rc_sf V s g 1 (rc_so V s g 1 n) n t := by
            rw [rc_sf, rc_stp, hz, hb]
            rfl
          rw [e]
          exact hI.wk hf
        · have hb : rc_btr V 1 (some q2) (rc_cst V n t) = true := by
            have : rc_cst V n t < rc_cst V q2.1 q2.2 := by
              rcases Nat.lt_or_ge (rc_cst V n t) (rc_cst V q2.1 q2.2) with z | z
              · exact z
              · exact absurd (by rw [h2.2.2.1]; exact nI_le z (by unfold rc_cst at hcl; omega)) c3
            simp [rc_btr, this]
          exact kp (by rw [hz]; exact hb) _
theorem c_least_6 {s g q : Nat} {σ0 : rc_M} (hs : s < 27) (hA : rc_CA σ0 V) (hG : rc_Gs σ0 q (rc_wi V g)) (hq : q + 1 ≤ 58) (hWg : rc_WG V g) {Q' : Option Value → rc_M → Prop}
    (h : ∀ (σ' : rc_M), rc_CI σ0 σ' V (rc_so V s g 1 5) → Q' none σ') : ∀ (c n : Nat) (σ : rc_M) (w4 w5 w6 : Value), n + c = 5 → rc_CI σ0 σ V (rc_so V s g 1 n) → rc_Tc (d + 5) 66 6 [.ref 65, .int (nI s), .ref q, .int (nI n), w4, w5, w6] [] σ Q' := by
  intro c
  induction c with
  | zero =>
    intro n σ w4 w5 w6 hn hI
    have : n = 5 := by omega
    subst this
    exact rc_go 40 (And.intro (fun _ => h σ hI) (fun c => absurd (by decide) c))
  | succ c ih =>
    intro n σ w4 w5 w6 hn hI
    refine rc_go 40 (And.intro (fun c1 => absurd c1 (nI_nlt (show n ≤ 4 by omega) (by decide))) (fun _ => ?_))
    refine c_beg rfl rfl (hA.fr hI.1 rc_k5_lt) hs (by omega) (fun σ' hf hW => ?_)
    exact c_least_25 hs hA hG hq hWg (by omega) (fun σ2 w4 w5 w6 hI2 => ih (n + 1) σ2 w4 w5 w6 (by omega) hI2) (V 12 0 ^ n) 0 σ' _ (by omega) (hI.wk hf) (fun _ => hW)
theorem c_leastPaid {x : Int32} {s g q : Nat} (hx : x = nI s) (hs : s < 27) (hA : rc_CA σ V) (hG : rc_Gs σ q (rc_wi V g)) (hq : q + 1 ≤ 58) (hWg : rc_WG V g) {Q : rc_M → Prop} (h : ∀ (σ' : rc_M), rc_fr rc_k5s σ σ' → rc_SC σ' V (rc_so V s g 1 5) → Q σ') : rc_TV (d + 5) 66 [.ref 65, .int x, .ref q] σ Q := by
  subst hx
  refine rc_go 40 (c_forget ?_)
  exact c_least_6 hs hA hG hq hWg (fun σ' hI => ⟨rfl, h σ' hI.1 hI.2⟩) 5 0 _ _ _ _ rfl ⟨rc_fr.up (by simp), by rw [rc_up_s, pk_un (by decide), pk_us], by rw [rc_up_s, pk_us]⟩
end RCs
