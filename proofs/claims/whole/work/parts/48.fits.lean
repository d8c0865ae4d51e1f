section RFi
variable {d n : Nat} {σ : rc_M} {P : rc_P} {V : rc_V} {Q : Int32 → rc_M → Prop}
/-! fits -/
def rc_tr (V : rc_V) (r t : Nat) : Bool := decide (rc_nV V r (V 13 t) 0 0 0 0 = V 14 t)
def rc_fit (V : rc_V) (m : Nat) : Nat → Nat
  | 0 => 0
  | k + 1 => if m.testBit k && rc_alls (rc_tr V k) (V 12 3) then rc_fit V m k ||| 2 ^ k else rc_fit V m k
def o_fits (P : rc_P) (x : Int32) : Int32 × rc_P := cond (rc_ob x (2 ^ pV P 12 0)) (o_no P 1) (nI (rc_fit (pV P) x.toNatClampNeg (pV P 12 0)), P)
theorem rc_bt6 : ∀ m, m < 64 → ∀ i, i < 6 → ((nI m >>> (nI i &&& 31)) &&& 1) = nI (m.testBit i).toNat := by decide +kernel
theorem rc_p6 {b : Nat} (h : b ≤ 6) : 2 ^ b ≤ 64 := Nat.pow_le_pow_right (by decide) h
theorem rc_fit_lt {m : Nat} : ∀ k, rc_fit V m k < 2 ^ k := by
  intro k
  induction k with
  | zero => exact Nat.zero_lt_one
  | succ k ih =>
    rw [rc_fit]
    have h1 : rc_fit V m k < 2 ^ (k + 1) := Nat.lt_trans ih (Nat.pow_lt_pow_right (by decide) (by omega))
    split
    · exact Nat.or_lt_two_pow h1 (Nat.pow_lt_pow_right (by decide) (by omega))
    · exact h1
theorem c_tried_l {r : Nat} (h0 : σ 0 = rc_wt) (hC : rc_Cls 0 σ V) (hW : rc_WF n V) (hr : r < 6) {Q' : Option Value → rc_M → Prop} (h : Q' (some (.int (rc_bI (rc_alls (rc_tr V r) (V 12 3))))) σ) : ∀ (c t : Nat), t + c = V 12 3 → rc_alls (rc_tr V r) t = true → rc_Tc (d + 4) 22 2 [.ref 3, .ref (9 + 2 * r), .int (nI t)] [] σ Q' := by
  have e37 : σ 3 7 = nI (V 12 3) := hC.2.2.2.1
  have ht6 := hW.2.2.2.1
  have hWr := hW.2.2.2.2.1 r hr
  have hRm := (hC.2.2.2.2.1 r hr).rm hr
  intro c
  induction c with
  | zero =>
    intro t ht ha
    have : t = V 12 3 := by omega
    subst this
    rw [ha] at h
    exact rc_go 40 (And.intro (fun _ => ⟨Or.inr rfl, h⟩) (fun c => absurd (by rw [e37]; exact nI_le (Nat.le_refl _) (by omega)) c))
  | succ c ih =>
    intro t ht ha
    obtain ⟨t1, t2⟩ := hC.2.2.2.2.2.2 t (by omega)
    obtain ⟨u1, u2⟩ := hW.2.2.2.2.2.2 t (by omega)
    have hct : (nI t).toNatClampNeg = t := rc_ci (by omega)
    have hlt : rc_nV V r (V 13 t) 0 0 0 0 < 27 := rc_nV_lt hWr u1 (by decide)
    refine rc_go 60 (And.intro (fun c1 => absurd (by rw [e37] at c1; exact c1) (nI_ge (by omega) (by omega))) (fun _ => ?_))
    refine And.intro (rc_vi (n := 6) (by omega) (by decide)) (And.intro hRm.1 ?_)
    refine c_firstNight (s := V 13 t) (n := 0) (by rw [hct]; exact t1) rfl h0 u1 (by decide) hRm hWr.1 hWr.2.1 hWr.2.2.1 ?_
    refine And.intro (rc_vi (n := 6) (by omega) (by decide)) ?_
    rw [hct, show σ 7 t = nI (V 14 t) from t2]
    refine And.intro (fun c2 => ?_) (fun c2 => ?_)
    · have z : rc_nV V r (V 13 t) 0 0 0 0 = V 14 t := (nI_eq (by omega) (by omega)).mp c2
      have key := ih (t + 1) (by omega) (by rw [rc_alls, ha, rc_tr, z]; simp)
      rw [← nI_1] at key
      exact key
    · have z : ¬ rc_nV V r (V 13 t) 0 0 0 0 = V 14 t := fun z => c2 (show nI (rc_nV V r (V 13 t) 0 0 0 0) = _ by rw [z])
      rw [rc_alls_f (k := t) (by omega) (by simp [rc_tr, z])] at h
      exact ⟨Or.inl rfl, h⟩
theorem c_fit_l {m : Nat} (h0 : σ 0 = rc_wt) (hC : rc_Cls 0 σ V) (hW : rc_WF n V) (hm : m < 64) {Q' : Option Value → rc_M → Prop} (h : Q' (some (.int (nI (rc_fit V m (V 12 0))))) σ) : ∀ (c k : Nat), k + c = V 12 0 → rc_Tc (d + 5) 21 4 [.ref 3, .int (nI m), .int (nI (rc_fit V m k)), .int (nI k)] [] σ Q' := by
  have e31 : σ 3 1 = nI (V 12 0) := hC.1
  have hb6 := hW.1
  intro c
  induction c with
  | zero =>
    intro k hk
    have : k = V 12 0 := by omega
    subst this
    exact rc_go 40 (And.intro (fun _ => h) (fun c => absurd (by rw [e31]; exact nI_le (Nat.le_refl _) (by omega)) c))
  | succ c ih =>
    intro k hk
    have hk6 : k < 6 := by omega
    have key := ih (k + 1) (by omega)
    rw [← nI_1, rc_fit] at key
    have eb := rc_bt6 m hm k hk6
    refine rc_go 60 (And.intro (fun c1 => absurd (by rw [e31] at c1; exact c1) (nI_ge (by omega) (by omega))) (fun _ => ?_))
    refine And.intro (fun c2 => ?_) (fun c2 => ?_)
    · rw [eb] at c2
      have z : m.testBit k = false := by
        cases hz : m.testBit k with
        | false => rfl
        | true => rw [hz] at c2; exact absurd rfl c2
      rw [z, Bool.false_and, if_neg (by decide)] at key
      exact key
    · rw [eb] at c2
      have z : m.testBit k = true := by
        cases hz : m.testBit k with
        | true => rfl
        | false => rw [hz] at c2; exact absurd c2 (by decide)
      rw [z, Bool.true_and] at key
      refine Exists.intro (9 + 2 * k) (And.intro rfl (And.intro (rc_vi (n := 6) hk6 (by decide)) (And.intro (by rw [rc_ci (by omega)]; exact rc_rho4 _ hk6) ?_)))
      have tried : ∀ Q2 : Int32 → rc_M → Prop, Q2 (rc_bI (rc_alls (rc_tr V k) (V 12 3))) σ → rc_TI (d + 4) 22 [.ref 3, .ref (9 + 2 * k)] σ Q2 := fun Q2 hq => rc_go 20 (c_tried_l h0 hC hW hk6 ⟨_, rfl, hq⟩ (V 12 3) 0 (by omega) rfl)
      refine tried _ (And.intro (fun c3 => ?_) (fun c3 => ?_))
      · rw [rc_bI_0.mp c3, if_neg (by decide)] at key
        exact key
      · have z3 : rc_alls (rc_tr V k) (V 12 3) = true := by
          cases hz : rc_alls (rc_tr V k) (V 12 3) with
          | true => rfl
          | false => rw [hz] at c3; exact absurd rfl c3
        rw [z3, if_pos rfl, ← fa_or, ← rc_shl _ (by omega)] at key
        exact key
theorem t_fit_31 {m r : Nat} {x2 : Int32} (hM : rc_Mod σ V) (hW : rc_WF n V) (hr : r < V 12 0) {Q' : Option Value → rc_M → Prop} {b : Bool} (k1 : rc_Tc (d + 4) 170 31 [.ref 80, .int (nI m), .int x2, .int (nI r), .int (rc_bI (b && rc_alls (rc_tr V r) (V 12 3))), .int (nI (V 12 3))] [] σ Q') : ∀ (c t : Nat), t + c = V 12 3 → rc_Tc (d + 4) 170 31 [.ref 80, .int (nI m), .int x2, .int (nI r), .int (rc_bI (b && rc_alls (rc_tr V r) t)), .int (nI t)] [] σ Q' := by
  have e37 : σ 80 16 = nI (V 12 3) := hM.2.2.2.1
  have ht6 := hW.2.2.2.1
  have hb6 := hW.1
  have hWr := hW.2.2.2.2.1 r (by omega)
  intro c
  induction c with
  | zero =>
    intro t ht
    have : t = V 12 3 := by omega
    subst this
    exact k1
  | succ c ih =>
    intro t ht
    obtain ⟨t1, t2⟩ := hM.2.2.2.2.2.2 t (by omega)
    obtain ⟨u1, u2⟩ := hW.2.2.2.2.2.2 t (by omega)
    have hct : (nI t).toNatClampNeg = t := rc_ci (by omega)
    have hlt : rc_nV V r (V 13 t) 0 0 0 0 < 27 := rc_nV_lt hWr u1 (by decide)
    have key := ih (t + 1) (by omega)
    rw [← nI_1, rc_alls, ← Bool.and_assoc] at key
    refine rc_go 60 (And.intro (fun c1 => absurd (by rw [e37] at c1; exact c1) (nI_ge (by omega) (by omega))) (fun _ => ?_))
    refine And.intro (fun c2 => ?_) (fun c2 => ?_)
    · rw [rc_bI_0.mp c2, Bool.false_and] at key
      exact key
    · have z : (b && rc_alls (rc_tr V r) t) = true := by
        cases hz : (b && rc_alls (rc_tr V r) t) with
        | true => rfl
        | false => rw [hz] at c2; exact absurd rfl c2
      rw [z, Bool.true_and] at key
      refine And.intro (rc_vi (n := 6) (by omega) (by decide)) ?_
      refine t_makesOf (V := V) (s := V 13 t) (n := 0) (hc := 0) (uc := 0) rfl (by rw [hct]; exact t1) rfl rfl rfl (by omega) u1 (by decide) (by decide) (by decide) (hM.2.2.2.2.1 r hr) hWr ?_
      refine And.intro (rc_vi (n := 6) (by omega) (by decide)) ?_
      rw [hct, t2]
      refine And.intro (fun c3 => ?_) (fun c3 => ?_)
      · have z3 : ¬ rc_nV V r (V 13 t) 0 0 0 0 = V 14 t := fun q => c3 (by rw [q])
        rw [show rc_tr V r t = false by simp [rc_tr, z3]] at key
        exact key
      · have z3 : rc_nV V r (V 13 t) 0 0 0 0 = V 14 t := (nI_eq (by omega) (by omega)).mp c3
        rw [show rc_tr V r t = true by simp [rc_tr, z3]] at key
        exact key
end RFi
