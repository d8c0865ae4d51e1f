section RNm
variable {d n : Nat} {σ : rc_M} {P : rc_P} {V : rc_V} {Q : Int32 → rc_M → Prop}
/-- no three are in one room -/
def rc_W2 (V : rc_V) : Prop := ∀ g h k, g < V 12 1 → h < V 12 1 → k < V 12 1 → V 9 g ≠ 0 → V 9 h = V 9 g → V 9 k = V 9 g → h ≠ g → k ≠ g → h = k
def rc_mu (V : rc_V) (g : Nat) : Nat → Nat
  | 0 => 0
  | k + 1 => if k ≠ g ∧ V 9 k = V 9 g then V 6 k + 1 else rc_mu V g k
theorem rc_mu_le {g : Nat} (h : ∀ k, k < V 12 1 → V 6 k < 27) : ∀ k, k ≤ V 12 1 → rc_mu V g k ≤ 27 := by
  intro k
  induction k with
  | zero => intro _; exact Nat.zero_le _
  | succ k ih =>
    intro hk
    rw [rc_mu]
    split
    · have := h k (by omega); omega
    · exact ih (by omega)
theorem rc_mt_none {g : Nat} : ∀ c k, (∀ j, k ≤ j → j < k + c → ¬ (j ≠ g ∧ V 9 j = V 9 g)) → rc_mt V g c k = 0 := by
  intro c
  induction c with
  | zero => intro k _; rfl
  | succ c ih =>
    intro k h
    rw [rc_mt, if_neg (h k (Nat.le_refl _) (by omega))]
    exact ih (k + 1) (fun j h1 h2 => h j (by omega) (by omega))
theorem rc_mt_some {g h0 : Nat} : ∀ c k, k ≤ h0 → h0 < k + c → (h0 ≠ g ∧ V 9 h0 = V 9 g) → (∀ j, j < k + c → j ≠ g ∧ V 9 j = V 9 g → j = h0) → rc_mt V g c k = V 6 h0 + 1 := by
  intro c
  induction c with
  | zero => intro k h1 h2; omega
  | succ c ih =>
    intro k h1 h2 hm hu
    rw [rc_mt]
    by_cases z : k ≠ g ∧ V 9 k = V 9 g
    · rw [if_pos z, hu k (by omega) z]
    · rw [if_neg z]
      refine ih (k + 1) ?_ (by omega) hm (fun j hj => hu j (by omega))
      by_cases e : k = h0
      · subst e; exact absurd hm z
      · omega
theorem rc_mu_none {g : Nat} : ∀ k, (∀ j, j < k → ¬ (j ≠ g ∧ V 9 j = V 9 g)) → rc_mu V g k = 0 := by
  intro k
  induction k with
  | zero => intro _; rfl
  | succ k ih =>
    intro h
    rw [rc_mu, if_neg (h k (by omega))]
    exact ih (fun j hj => h j (by omega))
theorem rc_mu_some {g h0 : Nat} : ∀ k, h0 < k → (h0 ≠ g ∧ V 9 h0 = V 9 g) → (∀ j, j < k → j ≠ g ∧ V 9 j = V 9 g → j = h0) → rc_mu V g k = V 6 h0 + 1 := by
  intro k
  induction k with
  | zero => intro h; omega
  | succ k ih =>
    intro h hm hu
    rw [rc_mu]
    by_cases z : k ≠ g ∧ V 9 k = V 9 g
    · rw [if_pos z, hu k (by omega) z]
    · rw [if_neg z]
      refine ih ?_ hm (fun j hj => hu j (by omega))
      by_cases e : k = h0
      · subst e; exact absurd hm z
      · omega
theorem rc_mu_mt {g : Nat} (h2 : rc_W2 V) (hg : g < V 12 1) (hz : V 9 g ≠ 0) : rc_mu V g (V 12 1) = rc_mt V g (V 12 1) 0 := by
  by_cases hex : ∃ h0, h0 < V 12 1 ∧ h0 ≠ g ∧ V 9 h0 = V 9 g
  · obtain ⟨h0, ha, hm⟩ := hex
    have hu : ∀ j, j < V 12 1 → j ≠ g ∧ V 9 j = V 9 g → j = h0 := fun j hj hjm => h2 g j h0 hg hj ha hz hjm.2 hm.2 hjm.1 hm.1
    rw [rc_mu_some _ ha hm hu, rc_mt_some _ 0 (Nat.zero_le _) (by omega) hm (fun j hj => hu j (by omega))]
  · have hn : ∀ j, j < V 12 1 → ¬ (j ≠ g ∧ V 9 j = V 9 g) := fun j hj q => hex ⟨j, hj, q⟩
    rw [rc_mu_none _ hn, rc_mt_none _ 0 (fun j _ hj => hn j (by omega))]
theorem rc_nt_kd {kd mk s N hc m1 m2 uc : Nat} {tb : Nat → Nat} (h : kd ≠ 2) : rc_nt kd mk tb s N hc m1 uc = rc_nt kd mk tb s N hc m2 uc := by
  unfold rc_nt
  split <;> first | rfl | exact absurd rfl h
/-- the inn while the nights' prices are paid, one after the other -/
def rc_np (V : rc_V) (k : Nat) : rc_V := fun f j => match f with
  | 8 => if j < k then rc_pd V j else V 8 j
  | _ => V f j
/-- the inn while they wake up, the greatest first -/
def rc_nq (V : rc_V) (k : Nat) : rc_V := fun f j => match f with
  | 8 => rc_pd V j
  | 5 => rc_lc V j (V 12 1 - k) k
  | 6 => if k ≤ j then rc_mo V j else V 6 j
  | 9 => if k ≤ j then 0 else V 9 j
  | 10 => if k ≤ j then V 9 j else V 10 j
  | 11 => if k ≤ j then V 6 j else V 11 j
  | _ => V f j
def rc_ug (V : rc_V) (g : Nat) : Nat := if V 10 g = V 9 g then V 11 g + 1 else 0
def rc_mk2 (V : rc_V) (g m : Nat) : Nat := rc_nV V (V 9 g - 1) (V 6 g) (V 12 2) (V 5 (V 9 g - 1)) m (rc_ug V g)
/-- what the model's night has in hand at its first loop -/
def rc_NI (σ : rc_M) (V : rc_V) (k : Nat) : Prop := rc_Mod σ (rc_np V k) ∧ ∀ j, j < k → σ 101 j = nI (rc_mo V j)
theorem rc_Mod.up101 {f : Nat → Int32} (h : rc_Mod σ V) : rc_Mod (rc_up σ 101 f) V := h
theorem t_ni_86 {g : Nat} {σ0 : rc_M} (hM : rc_Mod σ0 (rc_np V g)) (hW : rc_WF n V) (hg : g < V 12 1) (hz : V 9 g ≠ 0) {sl : Nat} {Q' : Option Value → rc_M → Prop}
    (k : ∀ f, (∀ j, j ≠ g → f j = σ0 101 j) → f g = nI (rc_mk2 V g (rc_mu V g (V 12 1))) → rc_Tc (d + 2) 148 86 [.ref 80, .int (nI sl), .int (nI g), .int (nI (V 9 g - 1)), .int (nI (V 12 1))] [] (rc_up σ0 101 f) Q') :
    ∀ (c m : Nat) (f : Nat → Int32), m + c = V 12 1 → (∀ j, j ≠ g → f j = σ0 101 j) → f g = nI (rc_mk2 V g (rc_mu V g m)) → rc_Tc (d + 2) 148 86 [.ref 80, .int (nI sl), .int (nI g), .int (nI (V 9 g - 1)), .int (nI m)] [] (rc_up σ0 101 f) Q' := by
  have hng := hW.2.1
  have hb6 := hW.1
  have h9g := (hW.2.2.2.2.2.1 g hg).2.2.1
  have hr6 : V 9 g - 1 < V 12 0 := by omega
  have hWr := hW.2.2.2.2.1 (V 9 g - 1) (by omega)
  obtain ⟨q1, q2, q3, q4, q5, q6⟩ := hM.2.2.2.2.1 (V 9 g - 1) hr6
  have hcr : (nI (V 9 g - 1)).toNatClampNeg = V 9 g - 1 := rc_ci (by omega)
  have hcg : (nI g).toNatClampNeg = g := rc_ci (by omega)
  have s8 : ∀ f, rc_up σ0 101 f 80 8 = nI (V 12 1) := fun f => by rw [rc_up_n _ _ (by decide)]; exact hM.2.1
  have e88 : ∀ f j, j < V 12 1 → rc_up σ0 101 f 88 j = nI (V 6 j) := fun f j hj => by rw [rc_up_n _ _ (by decide)]; exact (hM.2.2.2.2.2.1 j hj).1
  have e91 : ∀ f j, j < V 12 1 → rc_up σ0 101 f 91 j = rc_cI (V 9 j) := fun f j hj => by rw [rc_up_n _ _ (by decide)]; exact (hM.2.2.2.2.2.1 j hj).2.2.2.1
  have e82 : ∀ f, rc_up σ0 101 f 82 (V 9 g - 1) = nI (V 0 (V 9 g - 1)) := fun f => by rw [rc_up_n _ _ (by decide)]; exact q1
  have e83 : ∀ f, rc_up σ0 101 f 83 (V 9 g - 1) = nI (V 1 (V 9 g - 1)) := fun f => by rw [rc_up_n _ _ (by decide)]; exact q2
  intro c
  induction c with
  | zero =>
    intro m f hm hf hfg
    have : m = V 12 1 := by omega
    subst this
    exact k f hf hfg
  | succ c ih =>
    intro m f hm hf hfg
    have hm5 : m < V 12 1 := by omega
    have hcm : (nI m).toNatClampNeg = m := rc_ci (by omega)
    have h9m := (hW.2.2.2.2.2.1 m hm5).2.2.1
    have skip : rc_mk2 V g (rc_mu V g (m + 1)) = rc_mk2 V g (rc_mu V g m) → rc_Tc (d + 2) 148 86 [.ref 80, .int (nI sl), .int (nI g), .int (nI (V 9 g - 1)), .int (nI m + 1)] [] (rc_up σ0 101 f) Q' := fun e => by
      rw [nI_1]
      exact ih (m + 1) f (by omega) hf (by rw [e]; exact hfg)
    refine rc_go 80 (And.intro (fun c1 => absurd (by rw [s8] at c1; exact c1) (nI_ge (by omega) (by omega))) (fun _ => ?_))
    refine And.intro (fun c2 => ?_) (fun c2 => ?_)
    · have z : m = g := (nI_eq (by omega) (by omega)).mp c2
      exact skip (by rw [rc_mu, if_neg (fun q => q.1 z)])
    · have z : m ≠ g := fun z => c2 (by rw [z])
      refine And.intro (rc_vi (n := 5) (by omega) (by decide)) ?_
      rw [hcm, e91 f m hm5]
      refine And.intro (fun c3 => ?_) (fun c3 => ?_)
      · have z2 : ¬ V 9 m = V 9 g := fun q => c3 (by rw [q, rc_cI_p hz])
        exact skip (by rw [rc_mu, if_neg (fun q => z2 q.2)])
      · have z2 : V 9 m = V 9 g := by
          have := (rc_cIn (by omega) (by omega)).mp c3
          omega
        refine And.intro (rc_vi (n := 6) (by omega) (by decide)) ?_
        rw [hcr, e82]
        refine And.intro (fun c4 => ?_) (fun c4 => ?_)
        · have z3 : V 0 (V 9 g - 1) ≠ 2 := fun q => c4 (by rw [q]; rfl)
          exact skip (rc_nt_kd z3)
        · have z3 : V 0 (V 9 g - 1) = 2 := (nI_eq (by have := hWr.1; omega) (by decide)).mp (show nI (V 0 (V 9 g - 1)) = nI 2 from c4)
          refine And.intro (rc_vi (n := 5) (by omega) (by decide)) (And.intro (rc_vi (n := 6) (by omega) (by decide)) (And.intro (rc_vi (n := 5) (by omega) (by decide)) (And.intro (rc_vi (n := 6) (by omega) (by decide)) ?_)))
          refine t_has' (s := V 6 m) (m := V 1 (V 9 g - 1)) (by rw [hcm]; exact e88 f m hm5) (by rw [hcr]; exact e83 f) (hW.2.2.2.2.2.1 m hm5).1 hWr.2.1 ?_
          refine t_with' (s := V 6 g) (m := V 1 (V 9 g - 1)) (v := rc_mk (V 6 m) (V 1 (V 9 g - 1))) (by rw [hcg]; exact e88 f g hg) (by rw [hcr]; exact e83 f) rfl (hW.2.2.2.2.2.1 g hg).1 hWr.2.1 (rc_mk_lt _ _) ?_
          refine And.intro (rc_vi (n := 5) (by omega) (by decide)) ?_
          rw [rc_up_s, rc_uu, hcg]
          have key := ih (m + 1) (upd f g (nI (rc_sv (V 6 g) (V 1 (V 9 g - 1)) (rc_mk (V 6 m) (V 1 (V 9 g - 1)))))) (by omega) (fun j hj => by rw [pk_un hj]; exact hf j hj) (by
            rw [pk_us, rc_mu, if_pos ⟨z, z2⟩]
            unfold rc_mk2 rc_nV
            rw [z3]
            rfl)
          rw [← nI_1] at key
          exact key
theorem t_ni_4 (hn : n ≤ 900) (hM : rc_Mod σ V) (hW : rc_WF n V) (h2 : rc_W2 V) {Q' : Option Value → rc_M → Prop}
    (k : ∀ σ' (w3 w4 : Value), (∀ i, i ≠ 90 → i ≠ 101 → σ' i = σ i) → rc_NI σ' V (V 12 1) → rc_Tc (d + 4) 148 196 [.ref 80, .int (nI (rc_sl V (V 12 1))), .int (nI (V 12 1) - 1), w3, w4] [] σ' Q') :
    ∀ (c g : Nat) (σ1 : rc_M) (w3 w4 : Value), g + c = V 12 1 → (∀ i, i ≠ 90 → i ≠ 101 → σ1 i = σ i) → rc_NI σ1 V g → rc_Tc (d + 4) 148 4 [.ref 80, .int (nI (rc_sl V g)), .int (nI g), w3, w4] [] σ1 Q' := by
  have hng := hW.2.1
  have hb6 := hW.1
  intro c
  induction c with
  | zero =>
    intro g σ1 w3 w4 hg hf hN
    have : g = V 12 1 := by omega
    subst this
    have key := k σ1 w3 w4 hf hN
    have e8 : σ1 80 8 = nI (V 12 1) := hN.1.2.1
    have e : (Value.int (nI (V 12 1) - 1)) = Value.int (σ1 80 8 - 1) := by rw [e8]
    rw [e] at key
    exact rc_go 40 (And.intro (fun _ => key) (fun c => absurd (by rw [e8]; exact nI_le (Nat.le_refl _) (by omega)) c))
  | succ c ih =>
    intro g σ1 w3 w4 hg hf hN
    have hgl : g < V 12 1 := by omega
    have hcg : (nI g).toNatClampNeg = g := rc_ci (by omega)
    obtain ⟨hM1, h101⟩ := hN
    have e8 : σ1 80 8 = nI (V 12 1) := hM1.2.1
    obtain ⟨b1, b2, b3, b4, b5, b6⟩ := hM1.2.2.2.2.2.1 g hgl
    obtain ⟨w1, w2, w3', w4', w5⟩ := hW.2.2.2.2.2.1 g hgl
    have b3' : σ1 90 g = nI (V 8 g) := by
      have : rc_np V g 8 g = V 8 g := if_neg (Nat.lt_irrefl _)
      rw [this] at b3
      exact b3
    have up8 : ∀ (f90 f101 : Nat → Int32), (∀ j, j ≠ g → f90 j = σ1 90 j) → f90 g = nI (rc_pd V g) → (∀ j, j ≠ g → f101 j = σ1 101 j) → f101 g = nI (rc_mo V g) → rc_NI (rc_up (rc_up σ1 101 f101) 90 f90) V (g + 1) := fun f90 f101 h1 h1g h3 h3g => by
      refine ⟨?_, fun j hj => ?_⟩
      · obtain ⟨m1, m2, m3, m4, m5, m6, m7⟩ := hM1
        refine ⟨m1, m2, m3, m4, m5, fun j hj => ?_, m7⟩
        obtain ⟨x1, x2, x3, x4, x5, x6⟩ := m6 j hj
        refine ⟨x1, x2, ?_, x4, x5, x6⟩
        rw [rc_up_s]
        by_cases z : j = g
        · subst z
          rw [h1g]
          show _ = nI (if j < j + 1 then rc_pd V j else V 8 j)
          rw [if_pos (by omega)]
        · rw [h1 j z, x3]
          show nI (if j < g then rc_pd V j else V 8 j) = nI (if j < g + 1 then rc_pd V j else V 8 j)
          by_cases q : j < g
          · rw [if_pos q, if_pos (by omega)]
          · rw [if_neg q, if_neg (by omega)]
      · rw [rc_up_n _ _ (by decide), rc_up_s]
        by_cases z : j = g
        · subst z; exact h3g
        · rw [h3 j z]; exact h101 j (by omega)
    refine rc_go 120 (And.intro (fun c1 => absurd (by rw [e8] at c1; exact c1) (nI_ge (by omega) (by omega))) (fun _ => ?_))
    refine And.intro (rc_vi (n := 5) (by omega) (by decide)) (And.intro (rc_vi (n := 5) (by omega) (by decide)) (And.intro (rc_vi (n := 5) (by omega) (by decide)) ?_))
    rw [hcg, b4]
    have e6 : σ1 88 g = nI (V 6 g) := b1
    by_cases hz : V 9 g = 0
    · have hm : rc_mo V g = V 6 g := by unfold rc_mo; rw [if_pos hz]
      refine And.intro (fun _ => ?_) (fun c => absurd (show rc_cI (rc_np V g 9 g) < 0 by rw [show rc_np V g 9 g = 0 from hz]; decide) c)
      have key := ih (g + 1) (rc_up (rc_up σ1 101 (upd (σ1 101) g (σ1 88 g))) 90 (σ1 90)) (.int (rc_cI (rc_np V g 9 g))) w4 (by omega) (fun i h1 h3 => by rw [rc_up_n _ _ h1, rc_up_n _ _ h3]; exact hf i h1 h3) (up8 _ _ (fun j _ => rfl) (by rw [b3', rc_pd, if_pos hz]) (fun j hj => pk_un hj) (by rw [pk_us, hm]; exact e6))
      rw [show rc_up (rc_up σ1 101 (upd (σ1 101) g (σ1 88 g))) 90 (σ1 90) = rc_up σ1 101 (upd (σ1 101) g (σ1 88 g)) from by
        have := rc_ui (rc_up σ1 101 (upd (σ1 101) g (σ1 88 g))) 90
        rw [rc_up_n _ _ (show 90 ≠ 101 by decide)] at this
        exact this, ← nI_1, rc_sl, if_pos hz, Nat.add_zero] at key
      exact key
    · have hr6 : V 9 g - 1 < V 12 0 := by omega
      have e9 : rc_cI (rc_np V g 9 g) = nI (V 9 g - 1) := rc_cI_p hz
      refine And.intro (fun c => absurd c (by rw [e9]; exact nI_pos (by omega))) (fun _ => ?_)
      rw [e9]
      have hcr : (nI (V 9 g - 1)).toNatClampNeg = V 9 g - 1 := rc_ci (by omega)
      have hWr := hW.2.2.2.2.1 (V 9 g - 1) (by omega)
      have hMR : rc_MR (rc_up σ1 101 (upd (σ1 101) g (σ1 88 g))) V (V 9 g - 1) := hM1.2.2.2.2.1 (V 9 g - 1) hr6
      have e15 : rc_up σ1 101 (upd (σ1 101) g (σ1 88 g)) 80 15 = nI (V 12 2) := hM1.2.2.1
      have e87 : rc_up σ1 101 (upd (σ1 101) g (σ1 88 g)) 87 (V 9 g - 1) = rc_cI (V 5 (V 9 g - 1)) := hMR.2.2.2.2.2
      have e92 : rc_up σ1 101 (upd (σ1 101) g (σ1 88 g)) 92 g = rc_cI (V 10 g) := b5
      have e88 : rc_up σ1 101 (upd (σ1 101) g (σ1 88 g)) 88 (nI g).toNatClampNeg = nI (V 6 g) := by rw [hcg, rc_up_n _ _ (by decide)]; exact e6
      have h12 : V 12 2 < 1000 := by have := hW.2.2.1; omega
      have fin : ∀ f, (∀ j, j ≠ g → f j = σ1 101 j) → f g = nI (rc_mk2 V g 0) → rc_Tc (d + 4) 148 86 [.ref 80, .int (nI (rc_sl V g)), .int (nI g), .int (nI (V 9 g - 1)), .int (nI 0)] [] (rc_up σ1 101 f) Q' := fun f hf1 hf2 => by
        refine t_ni_86 (d := d + 2) (V := V) hM1 hW hgl hz (fun f3 hf3 hf3g => ?_) (V 12 1) 0 f (by omega) hf1 hf2
        have e90 : rc_up σ1 101 f3 90 g = nI (V 8 g) := by rw [rc_up_n _ _ (by decide)]; exact b3'
        have e86 : rc_up σ1 101 f3 86 (V 9 g - 1) = nI (V 4 (V 9 g - 1)) := hMR.2.2.2.2.1
        have e80 : rc_up σ1 101 f3 80 8 = nI (V 12 1) := e8
        refine rc_go 80 (And.intro (fun _ => ?_) (fun c => absurd (by rw [e80]; exact nI_le (Nat.le_refl _) (by omega)) c))
        refine And.intro (rc_vi (n := 5) (by omega) (by decide)) (And.intro (rc_vi (n := 6) (by omega) (by decide)) (And.intro (rc_vi (n := 5) (by omega) (by decide)) ?_))
        rw [hcg, hcr, e90, e86, nI_add]
        have key := ih (g + 1) (rc_up (rc_up σ1 101 f3) 90 (upd (rc_up σ1 101 f3 90) g (nI (V 8 g + V 4 (V 9 g - 1))))) (.int (nI (V 9 g - 1))) (.int (nI (V 12 1))) (by omega) (fun i h1 h3 => by rw [rc_up_n _ _ h1, rc_up_n _ _ h3]; exact hf i h1 h3) (up8 _ _ (fun j hj => by rw [pk_un hj, rc_up_n _ _ (by decide)]) (by rw [pk_us, rc_pd, if_neg hz]) hf3 (by
          rw [hf3g, rc_mu_mt h2 hgl hz]
          show nI (rc_mk2 V g (rc_mt V g (V 12 1) 0)) = nI (rc_mo V g)
          unfold rc_mo
          rw [if_neg hz]
          rfl))
        rw [← nI_1, rc_sl, if_neg hz, ← nI_1] at key
        exact key
      refine And.intro (rc_vi (n := 5) (by omega) (by decide)) (And.intro (rc_vi (n := 6) (by omega) (by decide)) (And.intro (rc_vi (n := 5) (by omega) (by decide)) ?_))
      rw [hcg, hcr, e92]
      have e4 : rc_mk2 V g 0 = rc_nV V (V 9 g - 1) (V 6 g) (V 12 2) (V 5 (V 9 g - 1)) 0 (rc_ug V g) := rfl
      refine And.intro (fun c2 => ?_) (fun c2 => ?_)
      · have z2 : ¬ V 10 g = V 9 g := fun q => c2 (by rw [q, rc_cI_p hz])
        have eu : rc_ug V g = 0 := by unfold rc_ug; rw [if_neg z2]
        refine t_makesOf (V := V) (hc := V 5 (V 9 g - 1)) (uc := 0) rfl (by rw [rc_up_n _ _ (by decide)]; exact e6) e15 e87 rfl (by omega) w1 h12 hWr.2.2.2.2.2 (by decide) hMR hWr ?_
        refine And.intro (rc_vi (n := 5) (by omega) (by decide)) ?_
        rw [rc_up_s, rc_uu, hcg]
        exact fin _ (fun j hj => by rw [pk_un hj, pk_un hj]) (by rw [pk_us, e4, eu])
      · have z2 : V 10 g = V 9 g := by
          have := (rc_cIn (by omega) (by omega)).mp c2
          omega
        have eu : rc_ug V g = V 11 g + 1 := by unfold rc_ug; rw [if_pos z2]
        have e93 : rc_up σ1 101 (upd (σ1 101) g (σ1 88 g)) 93 g = nI (V 11 g) := b6 (show V 10 g ≠ 0 by omega)
        refine And.intro (rc_vi (n := 5) (by omega) (by decide)) ?_
        rw [hcg, e93]
        refine t_makesOf (V := V) (hc := V 5 (V 9 g - 1)) (uc := V 11 g + 1) rfl (by rw [rc_up_n _ _ (by decide)]; exact e6) e15 e87 rfl (by omega) w1 h12 hWr.2.2.2.2.2 (by have := w5 (by omega); omega) hMR hWr ?_
        refine And.intro (rc_vi (n := 5) (by omega) (by decide)) ?_
        rw [rc_up_s, rc_uu, hcg]
        exact fin _ (fun j hj => by rw [pk_un hj, pk_un hj]) (by rw [pk_us, e4, eu])
theorem t_ni_196 (hW : rc_WF n V) {Q' : Option Value → rc_M → Prop} {sl : Int32} (h : ∀ σ', (∀ i, i ≠ 80 → i < 87 ∨ 93 < i ∨ i = 89 ∨ i = 90 → σ' i = σ i) → (∀ j, j ≠ 15 → σ' 80 j = σ 80 j) → rc_Mod σ' (rc_nf V) → Q' (some (.int sl)) σ') :
    ∀ (k : Nat) (σ1 : rc_M) (w3 w4 : Value), k ≤ V 12 1 → (∀ i, i < 87 ∨ 93 < i ∨ i = 89 ∨ i = 90 → σ1 i = σ i) → rc_Mod σ1 (rc_nq V k) → (∀ j, j < V 12 1 → σ1 101 j = nI (rc_mo V j)) → rc_Tc (d + 2) 148 196 [.ref 80, .int sl, .int (nI k - 1), w3, w4] [] σ1 Q' := by
  have hng := hW.2.1
  have hb6 := hW.1
  intro k
  induction k with
  | zero =>
    intro σ1 w3 w4 _ hf hM h101
    refine rc_go 40 (And.intro (fun _ => ?_) (fun c => absurd rc_nneg c))
    have e15 : σ1 80 15 = nI (V 12 2) := hM.2.2.1
    show Q' (some (.int sl)) (rc_up σ1 80 (upd (σ1 80) 15 (σ1 80 15 + 1)))
    rw [e15, nI_1]
    refine h _ (fun i h1 h2 => by rw [rc_up_n _ _ h1]; exact hf i h2) (fun j hj => by rw [rc_up_s, pk_un hj, hf 80 (by omega)]) ?_
    obtain ⟨m1, m2, m3, m4, m5, m6, m7⟩ := hM
    refine ⟨?_, ?_, ?_, ?_, m5, fun g hg => ?_, m7⟩
    · rw [rc_up_s, pk_un (by decide)]; exact m1
    · rw [rc_up_s, pk_un (by decide)]; exact m2
    · rw [rc_up_s, pk_us]; rfl
    · rw [rc_up_s, pk_un (by decide)]; exact m4
    · obtain ⟨x1, x2, x3, x4, x5, x6⟩ := m6 g hg
      refine ⟨x1, x2, ?_, x4, x5, x6⟩
      exact x3
  | succ k ih =>
    intro σ1 w3 w4 hk hf hM h101
    rw [nI_pred]
    have hkl : k < V 12 1 := by omega
    have hck : (nI k).toNatClampNeg = k := rc_ci (by omega)
    have h9 := (hW.2.2.2.2.2.1 k hkl).2.2.1
    obtain ⟨b1, b2, b3, b4, b5, b6⟩ := hM.2.2.2.2.2.1 k hkl
    have el : ∀ a b : Nat, (if k + 1 ≤ k then a else b) = b := fun a b => if_neg (by omega)
    have e88 : σ1 88 k = nI (V 6 k) := by rw [show V 6 k = rc_nq V (k + 1) 6 k from (el _ _).symm]; exact b1
    have e91 : σ1 91 k = rc_cI (V 9 k) := by rw [show V 9 k = rc_nq V (k + 1) 9 k from (el _ _).symm]; exact b4
    have hin : vp_in (nI k) 5 := rc_vi (by omega) (by decide)
    have ej : ∀ (j : Nat), j ≠ k → ∀ a b : Nat, (if k ≤ j then a else b) = if k + 1 ≤ j then a else b := fun j hj a b => by
      by_cases z : k + 1 ≤ j
      · rw [if_pos (by omega), if_pos z]
      · rw [if_neg (by omega), if_neg z]
    -- what the new memory must be
    have mk : ∀ (σ2 : rc_M), (∀ i, i < 87 ∨ 93 < i ∨ i = 89 ∨ i = 90 → σ2 i = σ1 i) → (∀ j, j ≠ k → σ2 88 j = σ1 88 j ∧ σ2 91 j = σ1 91 j ∧ σ2 92 j = σ1 92 j ∧ σ2 93 j = σ1 93 j) → σ2 88 k = nI (rc_mo V k) → σ2 91 k = -9 → σ2 92 k = rc_cI (V 9 k) → σ2 93 k = nI (V 6 k) → (∀ r, r < V 12 0 → σ2 87 r = if V 9 k = r + 1 then nI (V 6 k) else σ1 87 r) → rc_Mod σ2 (rc_nq V k) := fun σ2 f1 f2 f3 f4 f5 f6 f7 => by
      obtain ⟨m1, m2, m3, m4, m5, m6, m7⟩ := hM
      refine ⟨by rw [f1 80 (by omega)]; exact m1, by rw [f1 80 (by omega)]; exact m2, by rw [f1 80 (by omega)]; exact m3, by rw [f1 80 (by omega)]; exact m4, fun i hi => ?_, fun g hg => ?_, fun t ht => by rw [f1 94 (by omega), f1 95 (by omega)]; exact m7 t ht⟩
      · obtain ⟨x1, x2, x3, x4, x5, x6⟩ := m5 i hi
        refine ⟨by rw [f1 82 (by omega)]; exact x1, by rw [f1 83 (by omega)]; exact x2, by rw [f1 84 (by omega)]; exact x3, by rw [f1 85 (by omega)]; exact x4, by rw [f1 86 (by omega)]; exact x5, ?_⟩
        rw [f7 i hi]
        have e5 : rc_nq V k 5 i = if V 9 k = i + 1 then V 6 k + 1 else rc_nq V (k + 1) 5 i := rc_lc_s hkl
        rw [e5]
        split
        · rfl
        · exact x6
      · have hg' : g < V 12 1 := hg
        obtain ⟨x1, x2, x3, x4, x5, x6⟩ := m6 g hg
        by_cases z : g = k
        · subst z
          have p : ∀ a b : Nat, (if g ≤ g then a else b) = a := fun a b => if_pos (Nat.le_refl _)
          refine ⟨?_, by rw [f1 89 (by omega)]; exact x2, by rw [f1 90 (by omega)]; exact x3, ?_, ?_, fun _ => ?_⟩
          · rw [show rc_nq V g 6 g = rc_mo V g from p _ _]; exact f3
          · rw [show rc_nq V g 9 g = 0 from p _ _]; exact f4
          · rw [show rc_nq V g 10 g = V 9 g from p _ _]; exact f5
          · rw [show rc_nq V g 11 g = V 6 g from p _ _]; exact f6
        · obtain ⟨y1, y2, y3, y4⟩ := f2 g z
          have q6 : rc_nq V k 6 g = rc_nq V (k + 1) 6 g := ej g z _ _
          have q9 : rc_nq V k 9 g = rc_nq V (k + 1) 9 g := ej g z _ _
          have q10 : rc_nq V k 10 g = rc_nq V (k + 1) 10 g := ej g z _ _
          have q11 : rc_nq V k 11 g = rc_nq V (k + 1) 11 g := ej g z _ _
          refine ⟨by rw [y1, q6]; exact x1, by rw [f1 89 (by omega)]; exact x2, by rw [f1 90 (by omega)]; exact x3, by rw [y2, q9]; exact x4, by rw [y3, q10]; exact x5, ?_⟩
          rw [y4, q10, q11]
          exact x6
    have e9 : nI k - 1 = nI k + -1 := by rw [Int32.sub_eq_add_neg]
    have nxt : ∀ (σ2 : rc_M), (∀ i, i < 87 ∨ 93 < i ∨ i = 89 ∨ i = 90 → σ2 i = σ1 i) → (∀ j, j ≠ k → σ2 88 j = σ1 88 j ∧ σ2 91 j = σ1 91 j ∧ σ2 92 j = σ1 92 j ∧ σ2 93 j = σ1 93 j) → σ2 88 k = nI (rc_mo V k) → σ2 91 k = -9 → σ2 92 k = rc_cI (V 9 k) → σ2 93 k = nI (V 6 k) → (∀ r, r < V 12 0 → σ2 87 r = if V 9 k = r + 1 then nI (V 6 k) else σ1 87 r) → rc_Tc (d + 2) 148 196 [.ref 80, .int sl, .int (nI k + -1), w3, w4] [] σ2 Q' := fun σ2 f1 f2 f3 f4 f5 f6 f7 => by
      have key := ih σ2 w3 w4 (by omega) (fun i hi => by rw [f1 i hi]; exact hf i hi) (mk σ2 f1 f2 f3 f4 f5 f6 f7) (fun j hj => by rw [f1 101 (by omega)]; exact h101 j hj)
      rw [e9] at key
      exact key
    refine rc_go 120 (And.intro (fun c => absurd c (nI_pos (by omega))) (fun _ => ?_))
    refine And.intro hin (And.intro hin (And.intro hin (And.intro hin (And.intro hin ?_))))
    rw [hck]
    have s91 : rc_up (rc_up σ1 92 (upd (σ1 92) k (σ1 91 k))) 93 (upd (rc_up σ1 92 (upd (σ1 92) k (σ1 91 k)) 93) k (rc_up σ1 92 (upd (σ1 92) k (σ1 91 k)) 88 k)) 91 k = rc_cI (V 9 k) := by rw [rc_up_n _ _ (by decide), rc_up_n _ _ (by decide)]; exact e91
    rw [s91]
    by_cases hz : V 9 k = 0
    · refine And.intro (fun _ => ?_) (fun c => absurd (show rc_cI (V 9 k) < 0 by rw [hz]; decide) c)
      refine And.intro hin (And.intro hin (And.intro hin ?_))
      rw [hck]
      have key := nxt (rc_up (rc_up (rc_up (rc_up σ1 92 (upd (σ1 92) k (σ1 91 k))) 93 (upd ((rc_up σ1 92 (upd (σ1 92) k (σ1 91 k))) 93) k ((rc_up σ1 92 (upd (σ1 92) k (σ1 91 k))) 88 k))) 91 (upd ((rc_up (rc_up σ1 92 (upd (σ1 92) k (σ1 91 k))) 93 (upd ((rc_up σ1 92 (upd (σ1 92) k (σ1 91 k))) 93) k ((rc_up σ1 92 (upd (σ1 92) k (σ1 91 k))) 88 k))) 91) k (-9))) 88 (upd ((rc_up (rc_up (rc_up σ1 92 (upd (σ1 92) k (σ1 91 k))) 93 (upd ((rc_up σ1 92 (upd (σ1 92) k (σ1 91 k))) 93) k ((rc_up σ1 92 (upd (σ1 92) k (σ1 91 k))) 88 k))) 91 (upd ((rc_up (rc_up σ1 92 (upd (σ1 92) k (σ1 91 k))) 93 (upd ((rc_up σ1 92 (upd (σ1 92) k (σ1 91 k))) 93) k ((rc_up σ1 92 (upd (σ1 92) k (σ1 91 k))) 88 k))) 91) k (-9))) 88) k ((rc_up (rc_up (rc_up σ1 92 (upd (σ1 92) k (σ1 91 k))) 93 (upd ((rc_up σ1 92 (upd (σ1 92) k (σ1 91 k))) 93) k ((rc_up σ1 92 (upd (σ1 92) k (σ1 91 k))) 88 k))) 91 (upd ((rc_up (rc_up σ1 92 (upd (σ1 92) k (σ1 91 k))) 93 (upd ((rc_up σ1 92 (upd (σ1 92) k (σ1 91 k))) 93) k ((rc_up σ1 92 (upd (σ1 92) k (σ1 91 k))) 88 k))) 91) k (-9))) 101 k))) (fun i hi => ?_) (fun j hj => ⟨?_, ?_, ?_, ?_⟩) ?_ ?_ ?_ ?_ (fun r hr => ?_)
      · exact key
      · rw [rc_up_n _ _ (by omega), rc_up_n _ _ (by omega), rc_up_n _ _ (by omega), rc_up_n _ _ (by omega)]
      · simp [rc_up, pk_un hj]
      · simp [rc_up, pk_un hj]
      · simp [rc_up, pk_un hj]
      · simp [rc_up, pk_un hj]
      · simp [rc_up, pk_us]; exact h101 k hkl
      · simp [rc_up, pk_us]
      · simp [rc_up, pk_us]; exact e91
      · simp [rc_up, pk_us]; exact e88
      · simp [rc_up, hz]
    · have hr6 : V 9 k - 1 < V 12 0 := by omega
      have e9r : rc_cI (V 9 k) = nI (V 9 k - 1) := rc_cI_p hz
      have hcr : (nI (V 9 k - 1)).toNatClampNeg = V 9 k - 1 := rc_ci (by omega)
      refine And.intro (fun c => absurd c (by rw [e9r]; exact nI_pos (by omega))) (fun _ => ?_)
      refine And.intro hin (And.intro hin ?_)
      rw [hck, s91, e9r]
      refine And.intro (rc_vi (n := 6) (by omega) (by decide)) ?_
      rw [hcr]
      refine And.intro hin (And.intro hin (And.intro hin ?_))
      rw [hck]
      have key := nxt (rc_up (rc_up (rc_up (rc_up (rc_up σ1 92 (upd (σ1 92) k (σ1 91 k))) 93 (upd ((rc_up σ1 92 (upd (σ1 92) k (σ1 91 k))) 93) k ((rc_up σ1 92 (upd (σ1 92) k (σ1 91 k))) 88 k))) 87 (upd ((rc_up (rc_up σ1 92 (upd (σ1 92) k (σ1 91 k))) 93 (upd ((rc_up σ1 92 (upd (σ1 92) k (σ1 91 k))) 93) k ((rc_up σ1 92 (upd (σ1 92) k (σ1 91 k))) 88 k))) 87) (V 9 k - 1) ((rc_up (rc_up σ1 92 (upd (σ1 92) k (σ1 91 k))) 93 (upd ((rc_up σ1 92 (upd (σ1 92) k (σ1 91 k))) 93) k ((rc_up σ1 92 (upd (σ1 92) k (σ1 91 k))) 88 k))) 88 k))) 91 (upd ((rc_up (rc_up (rc_up σ1 92 (upd (σ1 92) k (σ1 91 k))) 93 (upd ((rc_up σ1 92 (upd (σ1 92) k (σ1 91 k))) 93) k ((rc_up σ1 92 (upd (σ1 92) k (σ1 91 k))) 88 k))) 87 (upd ((rc_up (rc_up σ1 92 (upd (σ1 92) k (σ1 91 k))) 93 (upd ((rc_up σ1 92 (upd (σ1 92) k (σ1 91 k))) 93) k ((rc_up σ1 92 (upd (σ1 92) k (σ1 91 k))) 88 k))) 87) (V 9 k - 1) ((rc_up (rc_up σ1 92 (upd (σ1 92) k (σ1 91 k))) 93 (upd ((rc_up σ1 92 (upd (σ1 92) k (σ1 91 k))) 93) k ((rc_up σ1 92 (upd (σ1 92) k (σ1 91 k))) 88 k))) 88 k))) 91) k (-9))) 88 (upd ((rc_up (rc_up (rc_up (rc_up σ1 92 (upd (σ1 92) k (σ1 91 k))) 93 (upd ((rc_up σ1 92 (upd (σ1 92) k (σ1 91 k))) 93) k ((rc_up σ1 92 (upd (σ1 92) k (σ1 91 k))) 88 k))) 87 (upd ((rc_up (rc_up σ1 92 (upd (σ1 92) k (σ1 91 k))) 93 (upd ((rc_up σ1 92 (upd (σ1 92) k (σ1 91 k))) 93) k ((rc_up σ1 92 (upd (σ1 92) k (σ1 91 k))) 88 k))) 87) (V 9 k - 1) ((rc_up (rc_up σ1 92 (upd (σ1 92) k (σ1 91 k))) 93 (upd ((rc_up σ1 92 (upd (σ1 92) k (σ1 91 k))) 93) k ((rc_up σ1 92 (upd (σ1 92) k (σ1 91 k))) 88 k))) 88 k))) 91 (upd ((rc_up (rc_up (rc_up σ1 92 (upd (σ1 92) k (σ1 91 k))) 93 (upd ((rc_up σ1 92 (upd (σ1 92) k (σ1 91 k))) 93) k ((rc_up σ1 92 (upd (σ1 92) k (σ1 91 k))) 88 k))) 87 (upd ((rc_up (rc_up σ1 92 (upd (σ1 92) k (σ1 91 k))) 93 (upd ((rc_up σ1 92 (upd (σ1 92) k (σ1 91 k))) 93) k ((rc_up σ1 92 (upd (σ1 92) k (σ1 91 k))) 88 k))) 87) (V 9 k - 1) ((rc_up (rc_up σ1 92 (upd (σ1 92) k (σ1 91 k))) 93 (upd ((rc_up σ1 92 (upd (σ1 92) k (σ1 91 k))) 93) k ((rc_up σ1 92 (upd (σ1 92) k (σ1 91 k))) 88 k))) 88 k))) 91) k (-9))) 88) k ((rc_up (rc_up (rc_up (rc_up σ1 92 (upd (σ1 92) k (σ1 91 k))) 93 (upd ((rc_up σ1 92 (upd (σ1 92) k (σ1 91 k))) 93) k ((rc_up σ1 92 (upd (σ1 92) k (σ1 91 k))) 88 k))) 87 (upd ((rc_up (rc_up σ1 92 (upd (σ1 92) k (σ1 91 k))) 93 (upd ((rc_up σ1 92 (upd (σ1 92) k (σ1 91 k))) 93) k ((rc_up σ1 92 (upd (σ1 92) k (σ1 91 k))) 88 k))) 87) (V 9 k - 1) ((rc_up (rc_up σ1 92 (upd (σ1 92) k (σ1 91 k))) 93 (upd ((rc_up σ1 92 (upd (σ1 92) k (σ1 91 k))) 93) k ((rc_up σ1 92 (upd (σ1 92) k (σ1 91 k))) 88 k))) 88 k))) 91 (upd ((rc_up (rc_up (rc_up σ1 92 (upd (σ1 92) k (σ1 91 k))) 93 (upd ((rc_up σ1 92 (upd (σ1 92) k (σ1 91 k))) 93) k ((rc_up σ1 92 (upd (σ1 92) k (σ1 91 k))) 88 k))) 87 (upd ((rc_up (rc_up σ1 92 (upd (σ1 92) k (σ1 91 k))) 93 (upd ((rc_up σ1 92 (upd (σ1 92) k (σ1 91 k))) 93) k ((rc_up σ1 92 (upd (σ1 92) k (σ1 91 k))) 88 k))) 87) (V 9 k - 1) ((rc_up (rc_up σ1 92 (upd (σ1 92) k (σ1 91 k))) 93 (upd ((rc_up σ1 92 (upd (σ1 92) k (σ1 91 k))) 93) k ((rc_up σ1 92 (upd (σ1 92) k (σ1 91 k))) 88 k))) 88 k))) 91) k (-9))) 101 k))) (fun i hi => ?_) (fun j hj => ⟨?_, ?_, ?_, ?_⟩) ?_ ?_ ?_ ?_ (fun r hr => ?_)
      · exact key
      · rw [rc_up_n _ _ (by omega), rc_up_n _ _ (by omega), rc_up_n _ _ (by omega), rc_up_n _ _ (by omega), rc_up_n _ _ (by omega)]
      · simp [rc_up, pk_un hj]
      · simp [rc_up, pk_un hj]
      · simp [rc_up, pk_un hj]
      · simp [rc_up, pk_un hj]
      · simp [rc_up, pk_us]; exact h101 k hkl
      · simp [rc_up, pk_us]
      · simp [rc_up, pk_us]; exact e91
      · simp [rc_up, pk_us]; exact e88
      · simp only [rc_up]
        by_cases z : V 9 k = r + 1
        · rw [if_pos z, show V 9 k - 1 = r by omega]
          simp [pk_us]
          exact e88
        · rw [if_neg z]
          have : r ≠ V 9 k - 1 := by omega
          simp [pk_un this]
theorem t_night (hn : n ≤ 900) (h2 : rc_W2 (pV P)) (hI : rc_MP σ P) (hW : rc_WP n P) (h : ∀ σ', rc_fM σ σ' → rc_MP σ' (o_night P).2 → Q (o_night P).1 σ') : rc_TI (d + 4) 148 [.ref 80] σ Q := by
  refine rc_go 20 (t_ni_4 (V := pV P) hn hI.1 hW.1 h2 (fun σ1 w3 w4 hf hN => ?_) (pV P 12 1) 0 σ _ _ (by omega) (fun _ _ _ => rfl) ⟨hI.1, fun j hj => absurd hj (by omega)⟩)
  have hM0 : rc_Mod σ1 (rc_nq (pV P) (pV P 12 1)) := by
    obtain ⟨m1, m2, m3, m4, m5, m6, m7⟩ := hN.1
    refine ⟨m1, m2, m3, m4, fun i hi => ?_, fun g hg => ?_, m7⟩
    · obtain ⟨x1, x2, x3, x4, x5, x6⟩ := m5 i hi
      refine ⟨x1, x2, x3, x4, x5, ?_⟩
      show _ = rc_cI (rc_lc (pV P) i (pV P 12 1 - pV P 12 1) (pV P 12 1))
      rw [Nat.sub_self]
      exact x6
    · have hg' : g < pV P 12 1 := hg
      obtain ⟨x1, x2, x3, x4, x5, x6⟩ := m6 g hg
      have el : ∀ a b : Nat, (if pV P 12 1 ≤ g then a else b) = b := fun a b => if_neg (by omega)
      have q6 : rc_nq (pV P) (pV P 12 1) 6 g = pV P 6 g := el _ _
      have q9 : rc_nq (pV P) (pV P 12 1) 9 g = pV P 9 g := el _ _
      have q10 : rc_nq (pV P) (pV P 12 1) 10 g = pV P 10 g := el _ _
      have q11 : rc_nq (pV P) (pV P 12 1) 11 g = pV P 11 g := el _ _
      have q8 : rc_np (pV P) (pV P 12 1) 8 g = rc_pd (pV P) g := if_pos hg'
      refine ⟨by rw [q6]; exact x1, x2, ?_, by rw [q9]; exact x4, by rw [q10]; exact x5, ?_⟩
      · rw [q8] at x3; exact x3
      · rw [q10, q11]; exact x6
  exact t_ni_196 (d := d + 2) (σ := σ1) (V := pV P) hW.1 (fun σ2 f1 f2 hM => ⟨_, rfl, h σ2 (fun k hk => by rw [f1 k (by omega) (by omega), hf k (by omega) (by omega)]) (hI.mk hM (fun j hj => by rw [f2 j (by omega), hf 80 (by omega) (by omega)]) (fun k hk => by rw [f1 k (by omega) (by omega), hf k (by omega) (by omega)]))⟩) (pV P 12 1) σ1 w3 w4 (Nat.le_refl _) (fun _ _ => rfl) hM0 hN.2
end RNm
