/-! what queries of the model may change -/
def rc_ms (k j : Nat) : Bool := decide (100 ≤ k ∧ k ≤ 109) || (decide (k = 80) && decide (j = 21 ∨ j = 22 ∨ j = 25 ∨ j = 26 ∨ j = 29 ∨ j = 35 ∨ j = 36 ∨ j = 41))
def rc_fq (σ σ' : rc_M) : Prop := ∀ k j, rc_ms k j = false → σ' k j = σ k j
theorem rc_fq.rf {σ : rc_M} : rc_fq σ σ := fun _ _ _ => rfl
theorem rc_fq.tr {σ σ1 σ2 : rc_M} (h1 : rc_fq σ σ1) (h2 : rc_fq σ1 σ2) : rc_fq σ σ2 := fun k j hk => (h2 k j hk).trans (h1 k j hk)
theorem rc_fq.up {σ : rc_M} {k : Nat} {f : Nat → Int32} (h : 100 ≤ k ∧ k ≤ 109) : rc_fq σ (rc_up σ k f) := fun k' j hk' => by
  rw [rc_up_n _ _ (fun z => by subst z; unfold rc_ms at hk'; simp at hk'; omega)]
theorem rc_fq.up80 {σ : rc_M} {j : Nat} {f : Nat → Int32} {x : Int32} (h : rc_ms 80 j = true) (hf : ∀ i, rc_ms 80 i = false → f i = σ 80 i) : rc_fq σ (rc_up σ 80 (upd f j x)) := fun k i hk => by
  by_cases e : k = 80
  · subst e
    rw [rc_up_s]
    have : i ≠ j := fun z => by subst z; rw [h] at hk; cases hk
    rw [pk_un this]
    exact hf i hk
  · rw [rc_up_n _ _ e]
theorem rc_fq.at {σ σ' : rc_M} (h : rc_fq σ σ') {k : Nat} (hk : k ≤ 79 ∨ (81 ≤ k ∧ k ≤ 99) ∨ 110 ≤ k) : σ' k = σ k := by
  funext j
  refine h k j ?_
  unfold rc_ms
  simp
  omega
theorem rc_MR.fq {σ σ' : rc_M} {V : rc_V} {i : Nat} (h : rc_MR σ V i) (hf : rc_fq σ σ') : rc_MR σ' V i := by
  unfold rc_MR
  rw [hf.at (k := 82) (by omega), hf.at (k := 83) (by omega), hf.at (k := 84) (by omega), hf.at (k := 85) (by omega), hf.at (k := 86) (by omega), hf.at (k := 87) (by omega)]
  exact h
theorem rc_MG.fq {σ σ' : rc_M} {V : rc_V} {i : Nat} (h : rc_MG σ V i) (hf : rc_fq σ σ') : rc_MG σ' V i := by
  unfold rc_MG
  rw [hf.at (k := 88) (by omega), hf.at (k := 89) (by omega), hf.at (k := 90) (by omega), hf.at (k := 91) (by omega), hf.at (k := 92) (by omega), hf.at (k := 93) (by omega)]
  exact h
theorem rc_Mod.fq {σ σ' : rc_M} {V : rc_V} (h : rc_Mod σ V) (hf : rc_fq σ σ') : rc_Mod σ' V := by
  obtain ⟨h1, h2, h3, h4, h5, h6, h7⟩ := h
  refine ⟨?_, ?_, ?_, ?_, fun i hi => (h5 i hi).fq hf, fun g hg => (h6 g hg).fq hf, fun t ht => ?_⟩
  · rw [hf 80 1 (by decide)]; exact h1
  · rw [hf 80 8 (by decide)]; exact h2
  · rw [hf 80 15 (by decide)]; exact h3
  · rw [hf 80 16 (by decide)]; exact h4
  · rw [hf.at (k := 94) (by omega), hf.at (k := 95) (by omega)]; exact h7 t ht
/-! the search: rows by length, then by numbers -/
def rc_hit (V : rc_V) (s g n t : Nat) : Bool := rc_wd V g (rc_E V (rc_dg (V 12 0) n t) s n)
def rc_cst (V : rc_V) (n t : Nat) : Nat := rc_sum V (rc_dg (V 12 0) n t) n
def rc_btr (V : rc_V) (what : Nat) (β : Option (Nat × Nat)) (c : Nat) : Bool := match β with
  | none => true
  | some q => decide (what = 1) && decide (c < rc_cst V q.1 q.2)
def rc_stp (V : rc_V) (s g what : Nat) (β : Option (Nat × Nat)) (n t : Nat) : Option (Nat × Nat) := if rc_btr V what β (rc_cst V n t) && rc_hit V s g n t then some (n, t) else β
def rc_sf (V : rc_V) (s g what : Nat) (β : Option (Nat × Nat)) (n : Nat) : Nat → Option (Nat × Nat)
  | 0 => β
  | t + 1 => rc_stp V s g what (rc_sf V s g what β n t) n t
def rc_so (V : rc_V) (s g what : Nat) : Nat → Option (Nat × Nat)
  | 0 => none
  | n + 1 => rc_sf V s g what (rc_so V s g what n) n (V 12 0 ^ n)
theorem rc_cst_le {V : rc_V} {row : Nat → Nat} (hW : ∀ i, i < 6 → rc_WR V i) : ∀ n, (∀ j, j < n → row j < 6) → rc_sum V row n ≤ 99 * n := by
  intro n
  induction n with
  | zero => intro _; exact Nat.zero_le _
  | succ n ih =>
    intro h
    rw [rc_sum]
    have := ih (fun j hj => h j (by omega))
    have := (hW _ (h n (by omega))).2.2.2.2.1
    omega
def rc_SM (σ : rc_M) (V : rc_V) (β : Option (Nat × Nat)) : Prop := match β with
  | none => σ 80 35 = -1 ∧ σ 80 36 = 0
  | some q => q.1 ≤ 4 ∧ σ 80 35 = nI q.1 ∧ σ 80 36 = nI (rc_cst V q.1 q.2) ∧ ∀ j, j < q.1 → σ 104 j = nI (rc_dg (V 12 0) q.1 q.2 j)
section RSr
variable {d : Nat} {σ : rc_M} {V : rc_V}
theorem t_take_l {n : Nat} {c : Int32} {row : Nat → Nat} (hn : n ≤ 4) (hr : ∀ j, j < n → σ 102 j = nI (row j)) {Q' : Option Value → rc_M → Prop} (h : ∀ f, (∀ j, j < n → f j = nI (row j)) → Q' none (rc_up σ 104 f)) : ∀ (cc k : Nat) (f : Nat → Int32), k + cc = n → (∀ j, j < k → f j = nI (row j)) → rc_Tc d 153 12 [.ref 80, .int (nI n), .int c, .int (nI k)] [] (rc_up σ 104 f) Q' := by
  intro cc
  induction cc with
  | zero =>
    intro k f hk hf
    have : k = n := by omega
    subst this
    exact rc_go 40 (And.intro (fun _ => h f hf) (fun c => absurd (nI_le (Nat.le_refl k) (by omega)) c))
  | succ cc ih =>
    intro k f hk hf
    refine rc_go 40 (And.intro (fun c1 => absurd c1 (nI_ge (by omega) (by omega))) (fun _ => ?_))
    refine And.intro (rc_vi (n := 6) (by omega) (by decide)) (And.intro (rc_vi (n := 4) (by omega) (by decide)) ?_)
    have key := ih (k + 1) (upd f k (nI (row k))) (by omega) (fun j hj => by
      by_cases e : j = k
      · subst e; exact pk_us
      · rw [pk_un e]; exact hf j (by omega))
    rw [← nI_1] at key
    rw [rc_up_s, rc_uu, rc_ci (by omega), rc_up_n _ _ (by decide), hr k (by omega)]
    exact key
theorem t_take {x c : Int32} {n : Nat} {row : Nat → Nat} (hx : x = nI n) (hn : n ≤ 4) (hr : ∀ j, j < n → σ 102 j = nI (row j)) {Q : rc_M → Prop} (h : ∀ f, (∀ j, j < n → f j = nI (row j)) → Q (rc_up (rc_up σ 80 (upd (upd (σ 80) 35 (nI n)) 36 c)) 104 f)) : rc_TV d 153 [.ref 80, .int x, .int c] σ Q := by
  subst hx
  refine rc_go 40 ?_
  have key := t_take_l (d := d) (σ := rc_up σ 80 (upd (upd (σ 80) 35 (nI n)) 36 c)) (c := c) hn (fun j hj => by rw [rc_up_n _ _ (by decide)]; exact hr j hj) (Q' := fun r σ' => r = none ∧ Q σ') (fun f hf => ⟨rfl, h f hf⟩) n 0 ((rc_up σ 80 (upd (upd (σ 80) 35 (nI n)) 36 c)) 104) (by omega) (fun j hj => absurd hj (by omega))
  rw [rc_ui] at key
  show rc_Tc d 153 12 [.ref 80, .int (nI n), .int c, .int 0] [] (rc_up (rc_up σ 80 (upd (σ 80) 35 (nI n))) 80 (upd ((rc_up σ 80 (upd (σ 80) 35 (nI n))) 80) 36 c)) _
  rw [rc_up_s, rc_uu]
  exact key
theorem rc_MRw.of {b n t : Nat} (hb : b = V 12 0) (hb0 : 0 < b) (hM : rc_Mod σ V) (hW : ∀ i, i < 6 → rc_WR V i) (hb6 : V 12 0 ≤ 6) (hr : ∀ j, j < n → σ 102 j = nI (rc_dg b n t j)) : rc_MRw σ V (rc_dg b n t) n := fun k hk => by
  have hlt := rc_dg_lt (n := n) (t := t) (i := k) hb0
  exact ⟨hr k hk, by omega, hM.2.2.2.2.1 _ (by omega), hW _ (by omega)⟩
/-- the state at the search's loops -/
def rc_SI (σ0 σ : rc_M) (V : rc_V) (β : Option (Nat × Nat)) : Prop := rc_fq σ0 σ ∧ rc_SM σ V β
theorem t_srch_65 {s g n t what : Nat} {σ0 : rc_M} {β : Option (Nat × Nat)} (hM : rc_Mod σ0 V) (hb0 : 0 < V 12 0) (hb6 : V 12 0 ≤ 6) (hW : ∀ i, i < 6 → rc_WR V i) (hn : n ≤ 4) (hI : rc_SI σ0 σ V β) (hr : ∀ j, j < n → σ 102 j = nI (rc_dg (V 12 0) n t j)) (hwh : what ≤ 1) {Q' : Option Value → rc_M → Prop}
    (h : ∀ w6 : Value, rc_Tc d 154 121 [.ref 80, .int (nI s), .int (nI g), .int (nI what), .int (nI n), .int (nI (rc_cst V n t)), w6] [.int (rc_bI (rc_btr V what β (rc_cst V n t)))] σ Q') : ∀ (c k : Nat), k + c = n → rc_Tc d 154 65 [.ref 80, .int (nI s), .int (nI g), .int (nI what), .int (nI n), .int (nI (rc_sum V (rc_dg (V 12 0) n t) k)), .int (nI k)] [] σ Q' := by
  have hM1 := hM.fq hI.1
  have hR := rc_MRw.of (n := n) (t := t) rfl hb0 hM1 hW hb6 hr
  intro c
  induction c with
  | zero =>
    intro k hk
    have : k = n := by omega
    subst this
    refine rc_go 60 (And.intro (fun _ => ?_) (fun c => absurd (nI_le (Nat.le_refl k) (by omega)) c))
    have h' := h (.int (nI k))
    cases β with
    | none =>
      obtain ⟨e1, e2⟩ := hI.2
      refine And.intro (fun _ => h') (fun c => absurd (by rw [e1]; decide) c)
    | some q =>
      obtain ⟨e0, e1, e2, e3⟩ := hI.2
      refine And.intro (fun c => absurd (by rw [e1] at c; exact c) (nI_pos (by omega))) (fun _ => ?_)
      rcases (show what = 0 ∨ what = 1 by omega) with rfl | rfl
      · exact And.intro (fun _ => h') (fun c => absurd c (by decide))
      · refine And.intro (fun c => absurd rfl c) (fun _ => ?_)
        have hc1 : rc_cst V k t ≤ 99 * k := rc_cst_le hW k (fun j hj => (hR j hj).2.1)
        have hlt : rc_cst V q.1 q.2 ≤ 99 * q.1 := rc_cst_le hW q.1 (fun j hj => by have := rc_dg_lt (n := q.1) (t := q.2) (i := j) hb0; omega)
        refine And.intro (fun c => ?_) (fun c => ?_)
        · have : ¬ rc_cst V k t < rc_cst V q.1 q.2 := fun z => nI_ge z (by omega) (by rw [e2] at c; exact c)
          rw [show rc_btr V 1 (some q) (rc_cst V k t) = false by simp [rc_btr, this]] at h'
          exact h'
        · have : rc_cst V k t < rc_cst V q.1 q.2 := by
            rcases Nat.lt_or_ge (rc_cst V k t) (rc_cst V q.1 q.2) with z | z
            · exact z
            · exact absurd (by rw [e2]; exact nI_le z (by unfold rc_cst at hc1; omega)) c
          rw [show rc_btr V 1 (some q) (rc_cst V k t) = true by simp [rc_btr, this]] at h'
          exact h'
  | succ c ih =>
    intro k hk
    obtain ⟨r1, r2, r3, r4⟩ := hR k (by omega)
    refine rc_go 60 (And.intro (fun c1 => absurd c1 (nI_ge (by omega) (by omega))) (fun _ => ?_))
    refine And.intro (rc_vi (n := 6) (by omega) (by decide)) ?_
    rw [rc_ci (by omega), r1]
    refine And.intro (rc_vi (n := 6) r2 (by decide)) ?_
    have key := ih (k + 1) (by omega)
    rw [← nI_1, rc_sum, ← nI_add, ← r3.2.2.2.2.1] at key
    rw [rc_ci (by omega)]
    exact key
theorem rc_SM.of {σ σ' : rc_M} {β : Option (Nat × Nat)} (h : rc_SM σ V β) (h1 : σ' 80 = σ 80) (h2 : σ' 104 = σ 104) : rc_SM σ' V β := by
  unfold rc_SM
  rw [h1, h2]
  exact h
theorem t_srch_151 {s g n t what : Nat} {σ0 : rc_M} {β : Option (Nat × Nat)} (hM : rc_Mod σ0 V) (hb0 : 0 < V 12 0) (hb6 : V 12 0 ≤ 6) (hn : n ≤ 4) (ht : t < V 12 0 ^ n) (hI : rc_SI σ0 σ V β) (hr : ∀ j, j < n → σ 102 j = nI (rc_dg (V 12 0) n t j)) {w5 w6 : Value} {Q' : Option Value → rc_M → Prop}
    (k1 : t + 1 < V 12 0 ^ n → ∀ (σ' : rc_M), rc_SI σ0 σ' V β → (∀ j, j < n → σ' 102 j = nI (rc_dg (V 12 0) n (t + 1) j)) → rc_Tc (d + 5) 154 59 [.ref 80, .int (nI s), .int (nI g), .int (nI what), .int (nI n), w5, w6] [] σ' Q')
    (k0 : ¬ t + 1 < V 12 0 ^ n → ∀ (σ' : rc_M), rc_SI σ0 σ' V β → rc_Tc (d + 5) 154 28 [.ref 80, .int (nI s), .int (nI g), .int (nI what), .int (nI (n + 1)), w5, w6] [] σ' Q') : rc_Tc (d + 5) 154 151 [.ref 80, .int (nI s), .int (nI g), .int (nI what), .int (nI n), w5, w6] [] σ Q' := by
  have hM1 := hM.fq hI.1
  obtain ⟨⟨i1, i2⟩, -, -, -⟩ := rc_inc_s hb0 n t (rc_dg (V 12 0) n t) ht (fun _ _ => rfl)
  refine rc_go 40 ?_
  refine t_isNext rfl (by omega) hb6 hM1.1 (fun j hj => ⟨hr j hj, by have := rc_dg_lt (n := n) (t := t) (i := j) hb0; omega⟩) (fun f' hf' => ?_)
  have hI' : rc_SI σ0 (rc_up σ 102 f') V β := ⟨hI.1.tr (rc_fq.up (by omega)), hI.2.of (rc_up_n _ _ (by decide)) (rc_up_n _ _ (by decide))⟩
  by_cases c : t + 1 < V 12 0 ^ n
  · have hne := (i1 c).1
    refine And.intro (fun _ => k1 c _ hI' (fun j hj => ?_)) (fun z => absurd z (by simp [hne, rc_bI]))
    rw [rc_up_s, hf' j hj, (i1 c).2 j hj]
  · have hz := (i2 c).1
    refine And.intro (fun z => absurd (by simp [hz, rc_bI]) z) (fun _ => ?_)
    have := k0 c _ hI'
    rw [← nI_1] at this
    exact this
theorem t_srch_row {s g n t what : Nat} {σ0 : rc_M} {β : Option (Nat × Nat)} (hs : s < 27) (hg : g < V 12 1) (hng : V 12 1 ≤ 5) (hWg : rc_WG V g) (hM : rc_Mod σ0 V) (hb0 : 0 < V 12 0) (hb6 : V 12 0 ≤ 6) (hW : ∀ i, i < 6 → rc_WR V i) (hn : n ≤ 4) (hwh : what ≤ 1) (ht : t < V 12 0 ^ n) (hI : rc_SI σ0 σ V β) (hr : ∀ j, j < n → σ 102 j = nI (rc_dg (V 12 0) n t j)) {w5 w6 : Value} {Q' : Option Value → rc_M → Prop}
    (k1 : t + 1 < V 12 0 ^ n → ∀ (σ' : rc_M) (w5 w6 : Value), rc_SI σ0 σ' V (rc_stp V s g what β n t) → (∀ j, j < n → σ' 102 j = nI (rc_dg (V 12 0) n (t + 1) j)) → rc_Tc (d + 5) 154 59 [.ref 80, .int (nI s), .int (nI g), .int (nI what), .int (nI n), w5, w6] [] σ' Q')
    (k0 : ¬ t + 1 < V 12 0 ^ n → ∀ (σ' : rc_M) (w5 w6 : Value), rc_SI σ0 σ' V (rc_stp V s g what β n t) → rc_Tc (d + 5) 154 28 [.ref 80, .int (nI s), .int (nI g), .int (nI what), .int (nI (n + 1)), w5, w6] [] σ' Q') : rc_Tc (d + 5) 154 59 [.ref 80, .int (nI s), .int (nI g), .int (nI what), .int (nI n), w5, w6] [] σ Q' := by
  have hM1 := hM.fq hI.1
  have hR := rc_MRw.of (n := n) (t := t) rfl hb0 hM1 hW hb6 hr
  have hElt : rc_E V (rc_dg (V 12 0) n t) s n < 27 := rc_E_lt hs n (fun i hi => (hR i hi).2.2.2)
  have fin : ∀ (σ1 : rc_M) (w5 w6 : Value), rc_SI σ0 σ1 V (rc_stp V s g what β n t) → (∀ j, j < n → σ1 102 j = nI (rc_dg (V 12 0) n t j)) → rc_Tc (d + 5) 154 151 [.ref 80, .int (nI s), .int (nI g), .int (nI what), .int (nI n), w5, w6] [] σ1 Q' := fun σ1 w5 w6 hI1 hr1 =>
    t_srch_151 hM hb0 hb6 hn ht hI1 hr1 (fun c σ' hI' hr' => k1 c σ' w5 w6 hI' hr') (fun c σ' hI' => k0 c σ' w5 w6 hI')
  refine rc_go 10 ?_
  refine t_srch_65 hM hb0 hb6 hW hn hI hr hwh (fun w6 => ?_) n 0 (by omega)
  refine rc_go 60 (And.intro (fun c => ?_) (fun c => ?_))
  · have hb : rc_btr V what β (rc_cst V n t) = false := rc_bI_0.mp c
    have e : rc_stp V s g what β n t = β := by simp [rc_stp, hb]
    exact fin σ _ _ (by rw [e]; exact hI) hr
  · have hb : rc_btr V what β (rc_cst V n t) = true := by
      cases hz : rc_btr V what β (rc_cst V n t) with
      | true => rfl
      | false => rw [hz] at c; exact absurd rfl c
    refine t_madeBy (d := d) rfl rfl hs (by omega) hR (fun f => ?_)
    have hI1 : rc_SI σ0 (rc_up σ 103 f) V β := ⟨hI.1.tr (rc_fq.up (by omega)), hI.2.of (rc_up_n _ _ (by decide)) (rc_up_n _ _ (by decide))⟩
    have hr1 : ∀ j, j < n → rc_up σ 103 f 102 j = nI (rc_dg (V 12 0) n t j) := fun j hj => by rw [rc_up_n _ _ (by decide)]; exact hr j hj
    have hMg := (hM.fq hI1.1).2.2.2.2.2.1 g hg
    refine t_isHad (V := V) (g := g) rfl rfl hElt (by omega) hMg.2.1 hWg.2.1 ?_
    refine And.intro (fun c2 => ?_) (fun c2 => ?_)
    · have hh : rc_hit V s g n t = false := rc_bI_0.mp c2
      have e : rc_stp V s g what β n t = β := by simp [rc_stp, hh]
      exact fin _ _ _ (by rw [e]; exact hI1) hr1
    · have hh : rc_hit V s g n t = true := by
        cases hz : rc_hit V s g n t with
        | true => rfl
        | false =>
          have hz2 : rc_wd V g (rc_E V (rc_dg (V 12 0) n t) s n) = false := hz
          rw [hz2] at c2
          exact absurd rfl c2
      have e : rc_stp V s g what β n t = some (n, t) := by simp [rc_stp, hb, hh]
      refine t_take (row := rc_dg (V 12 0) n t) rfl hn hr1 (fun f2 hf2 => ?_)
      refine fin _ _ _ ?_ (fun j hj => by rw [rc_up_n _ _ (by decide), rc_up_n _ _ (by decide)]; exact hr1 j hj)
      rw [e]
      refine ⟨hI1.1.tr ((rc_fq.up80 (by decide) (fun i hi => ?_)).tr (rc_fq.up (by omega))), hn, ?_, ?_, fun j hj => ?_⟩
      · have : i ≠ 35 := fun z => by subst z; cases hi
        rw [pk_un this]
      · rw [rc_up_n _ _ (by decide), rc_up_s, pk_un (by decide), pk_us]
      · rw [rc_up_n _ _ (by decide), rc_up_s, pk_us]
      · rw [rc_up_s]; exact hf2 j hj
theorem t_srch_59 {s g n what : Nat} {σ0 : rc_M} (hs : s < 27) (hg : g < V 12 1) (hng : V 12 1 ≤ 5) (hWg : rc_WG V g) (hM : rc_Mod σ0 V) (hb0 : 0 < V 12 0) (hb6 : V 12 0 ≤ 6) (hW : ∀ i, i < 6 → rc_WR V i) (hn : n ≤ 4) (hwh : what ≤ 1) {Q' : Option Value → rc_M → Prop}
    (h : ∀ (σ' : rc_M) (w5 w6 : Value), rc_SI σ0 σ' V (rc_so V s g what (n + 1)) → rc_Tc (d + 5) 154 28 [.ref 80, .int (nI s), .int (nI g), .int (nI what), .int (nI (n + 1)), w5, w6] [] σ' Q') : ∀ (c t : Nat) (σ : rc_M) (w5 w6 : Value), t + c + 1 = V 12 0 ^ n → rc_SI σ0 σ V (rc_sf V s g what (rc_so V s g what n) n t) → (∀ j, j < n → σ 102 j = nI (rc_dg (V 12 0) n t j)) → rc_Tc (d + 5) 154 59 [.ref 80, .int (nI s), .int (nI g), .int (nI what), .int (nI n), w5, w6] [] σ Q' := by
  intro c
  induction c with
  | zero =>
    intro t σ w5 w6 ht hI hr
    refine t_srch_row hs hg hng hWg hM hb0 hb6 hW hn hwh (by omega) hI hr (fun z => absurd z (by omega)) (fun _ σ' w5 w6 hI' => h σ' w5 w6 ?_)
    rw [rc_so, ← ht]
    exact hI'
  | succ c ih =>
    intro t σ w5 w6 ht hI hr
    exact t_srch_row hs hg hng hWg hM hb0 hb6 hW hn hwh (by omega) hI hr (fun _ σ' w5 w6 hI' hr' => ih (t + 1) σ' w5 w6 (by omega) hI' hr') (fun z => absurd (by omega) z)
theorem rc_sf_same {s g : Nat} {β : Option (Nat × Nat)} {n : Nat} (hb : β ≠ none) : ∀ t, rc_sf V s g 0 β n t = β := by
  intro t
  induction t with
  | zero => rfl
  | succ t ih =>
    rw [rc_sf, ih]
    cases β with
    | none => exact absurd rfl hb
    | some q => simp [rc_stp, rc_btr]
theorem rc_so_same {s g m : Nat} (hb : rc_so V s g 0 m ≠ none) : ∀ c, rc_so V s g 0 (m + c) = rc_so V s g 0 m := by
  intro c
  induction c with
  | zero => rfl
  | succ c ih =>
    rw [← Nat.add_assoc, rc_so, ih]
    exact rc_sf_same hb _
theorem rc_so_0 {s g what : Nat} (h0 : V 12 0 = 0) : ∀ c, rc_so V s g what (1 + c) = rc_so V s g what 1 := by
  intro c
  induction c with
  | zero => rfl
  | succ c ih =>
    rw [← Nat.add_assoc, rc_so, ih, h0, Nat.zero_pow (by omega)]
    rfl
theorem t_srch_28 {s g what : Nat} {σ0 : rc_M} (hs : s < 27) (hg : g < V 12 1) (hng : V 12 1 ≤ 5) (hWg : rc_WG V g) (hM : rc_Mod σ0 V) (hb6 : V 12 0 ≤ 6) (hW : ∀ i, i < 6 → rc_WR V i) (hwh : what ≤ 1) {Q' : Option Value → rc_M → Prop}
    (h : ∀ (σ' : rc_M), rc_SI σ0 σ' V (rc_so V s g what 5) → Q' none σ') : ∀ (c n : Nat) (σ : rc_M) (w5 w6 : Value), n + c = 5 → 1 ≤ n → rc_SI σ0 σ V (rc_so V s g what n) → rc_Tc (d + 5) 154 28 [.ref 80, .int (nI s), .int (nI g), .int (nI what), .int (nI n), w5, w6] [] σ Q' := by
  intro c
  induction c with
  | zero =>
    intro n σ w5 w6 hn hn1 hI
    have : n = 5 := by omega
    subst this
    exact rc_go 40 (And.intro (fun _ => h σ hI) (fun c => absurd (by decide) c))
  | succ c ih =>
    intro n σ w5 w6 hn hn1 hI
    have hM1 := hM.fq hI.1
    have hb81 : σ 80 1 = nI (V 12 0) := hM1.1
    refine rc_go 40 (And.intro (fun c1 => absurd c1 (nI_ge (show n < 5 by omega) (by decide))) (fun _ => ?_))
    refine And.intro (fun c1 => ?_) (fun c1 => ?_)
    · rw [hb81] at c1
      have hz : V 12 0 = 0 := by
        rcases Nat.eq_zero_or_pos (V 12 0) with z | z
        · exact z
        · exact absurd c1 (nI_nle z (by omega))
      refine h σ ?_
      have e1 := rc_so_0 (V := V) (s := s) (g := g) (what := what) hz 4
      have e2 := rc_so_0 (V := V) (s := s) (g := g) (what := what) hz (n - 1)
      rw [show 1 + (n - 1) = n by omega] at e2
      rw [show (5 : Nat) = 1 + 4 from rfl, e1, ← e2]
      exact hI
    · rw [hb81] at c1
      have hb0 : 0 < V 12 0 := by
        rcases Nat.eq_zero_or_pos (V 12 0) with z | z
        · rw [z] at c1; exact absurd (by decide) c1
        · exact z
      have go : ∀ Q2 : rc_M → Prop, (∀ f : Nat → Int32, (∀ j, j < n → f j = 0) → Q2 (rc_up σ 102 f)) → rc_TV (d + 4) 150 [.ref 80, .int (nI n)] σ Q2 := fun Q2 hq => t_begin rfl (by omega) hq
      have nx : ∀ f : Nat → Int32, (∀ j, j < n → f j = 0) → rc_Tc (d + 5) 154 59 [.ref 80, .int (nI s), .int (nI g), .int (nI what), .int (nI n), w5, w6] [] (rc_up σ 102 f) Q' := fun f hf => by
        refine t_srch_59 hs hg hng hWg hM hb0 hb6 hW (by omega) hwh (fun σ' w5 w6 hI' => ih (n + 1) σ' w5 w6 (by omega) (by omega) hI') (V 12 0 ^ n - 1) 0 _ _ _ ?_ ?_ (fun j hj => ?_)
        · have := Nat.pow_pos (n := n) hb0
          omega
        · exact ⟨hI.1.tr (rc_fq.up (by omega)), hI.2.of (rc_up_n _ _ (by decide)) (rc_up_n _ _ (by decide))⟩
        · rw [rc_up_s, hf j hj, rc_dg_0]
          rfl
      refine And.intro (fun _ => go _ nx) (fun c2 => And.intro (fun c3 => ?_) (fun _ => go _ nx))
      have hw0 : what = 0 := by
        rcases (show what = 0 ∨ what = 1 by omega) with z | z
        · exact z
        · subst z; exact absurd rfl c2
      subst hw0
      refine h σ ?_
      have hne : rc_so V s g 0 n ≠ none := fun z => by
        have h2 := hI.2
        rw [z] at h2
        rw [h2.1] at c3
        exact absurd c3 (by decide)
      have e := rc_so_same hne (5 - n)
      rw [show n + (5 - n) = 5 by omega] at e
      rw [e]
      exact hI
theorem t_search {x y z : Int32} {s g what : Nat} (hx : x = nI s) (hy : y = nI g) (hz : z = nI what) (hs : s < 27) (hg : g < V 12 1) (hng : V 12 1 ≤ 5) (hWg : rc_WG V g) (hM : rc_Mod σ V) (hb6 : V 12 0 ≤ 6) (hW : ∀ i, i < 6 → rc_WR V i) (hwh : what ≤ 1) {Q : rc_M → Prop} (h : ∀ (σ' : rc_M), rc_fq σ σ' → rc_SM σ' V (rc_so V s g what 5) → Q σ') : rc_TV (d + 5) 154 [.ref 80, .int x, .int y, .int z] σ Q := by
  subst hx; subst hy; subst hz
  have hMg := hM.2.2.2.2.2.1 g hg
  have e1 : rc_so V s g what 1 = if rc_wd V g s then some (0, 0) else none := by
    show rc_stp V s g what none 0 0 = _
    unfold rc_stp
    show (if (true && rc_wd V g s) = true then _ else _) = _
    simp
  refine rc_go 40 ?_
  have es : rc_up (rc_up σ 80 (upd (σ 80) 35 (-1))) 80 (upd ((rc_up σ 80 (upd (σ 80) 35 (-1))) 80) 36 0) = rc_up σ 80 (upd (upd (σ 80) 35 (-1)) 36 0) := by rw [rc_up_s, rc_uu]
  have hfq : rc_fq σ (rc_up σ 80 (upd (upd (σ 80) 35 (-1)) 36 0)) := rc_fq.up80 (by decide) (fun i hi => by
    have : i ≠ 35 := fun z => by subst z; cases hi
    rw [pk_un this])
  refine t_isHad (V := V) (g := g) rfl rfl hs (by omega) (fun m hm => ?_) hWg.2.1 ?_
  · rw [rc_up_n _ _ (by decide), rc_up_n _ _ (by decide)]
    exact hMg.2.1 m hm
  · rw [es]
    refine And.intro (fun c => ?_) (fun c => ?_)
    · have hw : rc_wd V g s = false := rc_bI_0.mp c
      refine t_srch_28 hs hg hng hWg hM hb6 hW hwh (fun σ' hI => ⟨rfl, h σ' hI.1 hI.2⟩) 4 1 _ _ _ rfl (Nat.le_refl _) ⟨hfq, ?_⟩
      rw [e1, hw]
      exact ⟨by rw [rc_up_s, pk_un (by decide), pk_us], by rw [rc_up_s, pk_us]⟩
    · have hw : rc_wd V g s = true := by
        cases hz : rc_wd V g s with
        | true => rfl
        | false => rw [hz] at c; exact absurd rfl c
      refine t_take (n := 0) (row := fun _ => 0) rfl (by decide) (fun j hj => absurd hj (by omega)) (fun f _ => ?_)
      have hfq2 := hfq.tr ((rc_fq.up80 (σ := rc_up σ 80 (upd (upd (σ 80) 35 (-1)) 36 0)) (j := 36) (f := upd ((rc_up σ 80 (upd (upd (σ 80) 35 (-1)) 36 0)) 80) 35 (nI 0)) (x := 0) (by decide) (fun i hi => by
        have : i ≠ 35 := fun z => by subst z; cases hi
        rw [pk_un this])).tr (rc_fq.up (k := 104) (f := f) (by omega)))
      refine t_srch_28 hs hg hng hWg hM hb6 hW hwh (fun σ' hI => ⟨rfl, h σ' hI.1 hI.2⟩) 4 1 _ _ _ rfl (Nat.le_refl _) ⟨hfq2, ?_⟩
      rw [e1, hw]
      refine ⟨by decide, ?_, ?_, fun j hj => absurd hj (Nat.not_lt_zero j)⟩
      · rw [rc_up_n _ _ (by decide), rc_up_s, pk_un (by decide), pk_us]
      · rw [rc_up_n _ _ (by decide), rc_up_s, pk_us]
        rfl
end RSr
