section RHm
variable {d n : Nat} {σ : rc_M} {P : rc_P} {V : rc_V} {Q : Int32 → rc_M → Prop}
theorem t_he_109 {r m k : Nat} {z x4 : Int32} {g0 : Bool} (hk : k < 5) {f : Nat → Int32} (hf : ∀ i, i ≤ k → f i = rc_rg z i) {Q' : Option Value → rc_M → Prop} (h : rc_Tc d 178 109 [.ref 80, .int (nI r), .int (nI m), .int z, .int x4, .int (nI k), .int (rc_bI (g0 && rc_dd z k k)), .int (nI k)] [] (rc_up σ 107 f) Q') :
    ∀ (c j : Nat), j + c = k → rc_Tc d 178 109 [.ref 80, .int (nI r), .int (nI m), .int z, .int x4, .int (nI k), .int (rc_bI (g0 && rc_dd z k j)), .int (nI j)] [] (rc_up σ 107 f) Q' := by
  intro c
  induction c with
  | zero =>
    intro j hj
    have : j = k := by omega
    subst this
    exact h
  | succ c ih =>
    intro j hj
    have key := ih (j + 1) (by omega)
    rw [← nI_1, rc_dd, ← Bool.and_assoc] at key
    refine rc_go 60 (And.intro (fun c1 => absurd c1 (nI_ge (by omega) (by omega))) (fun _ => ?_))
    refine And.intro (fun c2 => ?_) (fun c2 => ?_)
    · rw [rc_bI_0.mp c2, Bool.false_and] at key
      exact key
    · have z2 : (g0 && rc_dd z k j) = true := by
        cases hz : (g0 && rc_dd z k j) with
        | true => rfl
        | false => rw [hz] at c2; exact absurd rfl c2
      rw [z2, Bool.true_and] at key
      refine And.intro (rc_vi (n := 5) (by omega) (by decide)) (And.intro (rc_vi (n := 5) (by omega) (by decide)) ?_)
      rw [rc_up_s, rc_ci (by omega), rc_ci (by omega), hf j (by omega), hf k (Nat.le_refl _)]
      refine And.intro (fun c3 => ?_) (fun c3 => ?_)
      · rw [decide_eq_true c3] at key
        exact key
      · rw [decide_eq_false c3] at key
        exact key
theorem t_he_60 {r m : Nat} {z : Int32} (hI : rc_MP σ P) (hW : rc_WP n P) (hr : r < pV P 12 0) (hm : m ≤ 5) {Q' : Option Value → rc_M → Prop}
    (h1 : rc_alls (rc_gd z (pV P 12 1)) m = true → ∀ σ', rc_fM σ σ' → rc_MP σ' P → Q' (some (.int (nI (rc_ho (pV P) r (rc_od z) m)))) σ') (h0 : rc_alls (rc_gd z (pV P 12 1)) m = false → ∀ σ', rc_fM σ σ' → rc_MP σ' (rc_no P 1) → Q' (some (.int (-(nI 1)))) σ') :
    ∀ (c k : Nat) (f : Nat → Int32) (w6 w7 : Value), k + c = m → rc_alls (rc_gd z (pV P 12 1)) k = true → (∀ i, i < k → f i = rc_rg z i) → rc_Tc (d + 5) 178 60 [.ref 80, .int (nI r), .int (nI m), .int z, .int (rc_rr z k), .int (nI k), w6, w7] [] (rc_up σ 107 f) Q' := by
  have h5 := hW.1.2.1
  have frI : ∀ f, rc_MP (rc_up σ 107 f) P := fun f => hI.fq (rc_fq.up (by omega))
  intro c
  induction c with
  | zero =>
    intro k f w6 w7 hk ha hf
    have : k = m := by omega
    subst this
    refine rc_go 40 (And.intro (fun _ => ?_) (fun c => absurd (nI_le (Nat.le_refl _) (by omega)) c))
    exact t_had (V := pV P) (od := rc_od z) rfl rfl (frI f).1 hW.1 hr hm (fun j hj => by
      have e := rc_gd_e (b := pV P 12 1) (by omega) (rc_alls_t ha j hj)
      rw [rc_up_s, hf j hj]
      exact e) (h1 ha _ (rc_fM.up (by omega)) (frI f))
  | succ c ih =>
    intro k f w6 w7 hk ha hf
    have hck : (nI k).toNatClampNeg = k := rc_ci (by omega)
    have fld : rc_rr z k - rc_rr z k / 10 * 10 = rc_rg z k := rfl
    have hf' : ∀ i, i ≤ k → upd f k (rc_rg z k) i = rc_rg z i := fun i hi => by
      by_cases e : i = k
      · subst e; exact pk_us
      · rw [pk_un e]; exact hf i (by omega)
    have fin : ∀ g0 : Bool, (!rc_ob (rc_rg z k) (pV P 12 1)) = g0 → rc_Tc (d + 5) 178 109 [.ref 80, .int (nI r), .int (nI m), .int z, .int (rc_rr z k / 10), .int (nI k), .int (rc_bI (g0 && rc_dd z k k)), .int (nI k)] [] (rc_up σ 107 (upd f k (rc_rg z k))) Q' := fun g0 hg0 => by
      have hgd : rc_gd z (pV P 12 1) k = (g0 && rc_dd z k k) := by unfold rc_gd; rw [hg0]
      refine rc_go 40 (And.intro (fun _ => ?_) (fun c => absurd (nI_le (Nat.le_refl _) (by omega)) c))
      refine And.intro (fun c2 => ?_) (fun c2 => ?_)
      · have z2 : (g0 && rc_dd z k k) = true := by
          cases hz : (g0 && rc_dd z k k) with
          | true => rfl
          | false => rw [hz] at c2; exact absurd rfl c2
        have key := ih (k + 1) (upd f k (rc_rg z k)) (.int (rc_bI (g0 && rc_dd z k k))) (.int (nI k)) (by omega) (by rw [rc_alls, ha, hgd, z2]; rfl) (fun i hi => hf' i (by omega))
        rw [← nI_1, rc_rr] at key
        exact key
      · have z2 : (g0 && rc_dd z k k) = false := rc_bI_0.mp c2
        exact t_ref (w := 1) (by decide) (by decide) (frI _) rfl (fun σ' a b => h0 (rc_alls_f (k := k) (by omega) (by rw [hgd, z2])) σ' ((rc_fM.up (by omega)).tr a) b)
    refine rc_go 80 (And.intro (fun c1 => absurd c1 (nI_ge (by omega) (by omega))) (fun _ => And.intro (by decide) ?_))
    rw [fld]
    refine And.intro (rc_vi (n := 5) (by omega) (by decide)) (And.intro (by decide) (And.intro (rc_vi (n := 5) (by omega) (by decide)) ?_))
    rw [rc_up_s, rc_uu, hck, rc_up_s, pk_us]
    refine t_isNoGuest (n := pV P 12 1) (frI _).1.2.1 (by omega) (fun ho => ?_) (fun j hj he => ?_)
    · refine And.intro (fun _ => ?_) (fun q => absurd q (by decide))
      exact t_he_109 (g0 := false) (by omega) hf' (fin false (by rw [rc_ob_t ho]; rfl)) k 0 (by omega)
    · refine And.intro (fun q => absurd rfl q) (fun _ => ?_)
      exact t_he_109 (g0 := true) (by omega) hf' (fin true (by rw [he, rc_ob_f hj (by omega)]; rfl)) k 0 (by omega)
end RHm
