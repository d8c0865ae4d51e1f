section RFj
variable {d n : Nat} {σ : rc_M} {P : rc_P} {V : rc_V} {Q : Int32 → rc_M → Prop}
theorem t_fit_4 {m : Nat} (hM : rc_Mod σ V) (hW : rc_WF n V) (hm : m < 64) {Q' : Option Value → rc_M → Prop} (h : Q' (some (.int (nI (rc_fit V m (V 12 0))))) σ) : ∀ (c k : Nat) (w4 w5 : Value), k + c = V 12 0 → rc_Tc (d + 4) 170 4 [.ref 80, .int (nI m), .int (nI (rc_fit V m k)), .int (nI k), w4, w5] [] σ Q' := by
  have e31 : σ 80 1 = nI (V 12 0) := hM.1
  have e37 : σ 80 16 = nI (V 12 3) := hM.2.2.2.1
  have hb6 := hW.1
  have ht6 := hW.2.2.2.1
  intro c
  induction c with
  | zero =>
    intro k w4 w5 hk
    have : k = V 12 0 := by omega
    subst this
    exact rc_go 40 (And.intro (fun _ => h) (fun c => absurd (by rw [e31]; exact nI_le (Nat.le_refl _) (by omega)) c))
  | succ c ih =>
    intro k w4 w5 hk
    have hk6 : k < 6 := by omega
    have eb := rc_bt6 m hm k hk6
    have fin : ∀ b : Bool, m.testBit k = b → rc_Tc (d + 4) 170 31 [.ref 80, .int (nI m), .int (nI (rc_fit V m k)), .int (nI k), .int (rc_bI (b && rc_alls (rc_tr V k) (V 12 3))), .int (nI (V 12 3))] [] σ Q' := fun b hb => by
      have key := ih (k + 1) (.int (rc_bI (b && rc_alls (rc_tr V k) (V 12 3)))) (.int (nI (V 12 3))) (by omega)
      rw [← nI_1, rc_fit, hb] at key
      refine rc_go 60 (And.intro (fun _ => ?_) (fun c => absurd (by rw [e37]; exact nI_le (Nat.le_refl _) (by omega)) c))
      refine And.intro (fun c2 => ?_) (fun c2 => ?_)
      · rw [rc_bI_0.mp c2, if_neg (by decide)] at key
        have e : nI (rc_fit V m k) ||| 0 = nI (rc_fit V m k) := by rw [show (0 : Int32) = nI 0 from rfl, fa_or, Nat.or_zero]
        rw [rc_bI_0.mp c2]
        rw [← e] at key
        exact key
      · have z : (b && rc_alls (rc_tr V k) (V 12 3)) = true := by
          cases hz : (b && rc_alls (rc_tr V k) (V 12 3)) with
          | true => rfl
          | false => rw [hz] at c2; exact absurd rfl c2
        rw [z, if_pos rfl, ← fa_or, ← rc_shl _ (by omega)] at key
        rw [z]
        exact key
    refine rc_go 60 (And.intro (fun c1 => absurd (by rw [e31] at c1; exact c1) (nI_ge (by omega) (by omega))) (fun _ => ?_))
    refine And.intro (fun c2 => ?_) (fun c2 => ?_)
    · rw [eb] at c2
      have z : m.testBit k = false := by
        cases hz : m.testBit k with
        | false => rfl
        | true => rw [hz] at c2; exact absurd rfl c2
      exact t_fit_31 (V := V) (b := false) hM hW (by omega) (fin false z) (V 12 3) 0 (by omega)
    · rw [eb] at c2
      have z : m.testBit k = true := by
        cases hz : m.testBit k with
        | true => rfl
        | false => rw [hz] at c2; exact absurd c2 (by decide)
      exact t_fit_31 (V := V) (b := true) hM hW (by omega) (fin true z) (V 12 3) 0 (by omega)
theorem rc_xor6 : ∀ b, b ≤ 6 → nI (2 ^ b - 1) ^^^ -1 = nI (2 ^ 32 - 2 ^ b) := by decide +kernel
theorem rc_hi6 {b m : Nat} (hb : b ≤ 6) (hm : m < 2 ^ 32) : m &&& (2 ^ 32 - 2 ^ b) = 2 ^ b * (m / 2 ^ b) := by
  have h1 : (m &&& (2 ^ 32 - 2 ^ b)) % 2 ^ b = (m % 2 ^ b) &&& ((2 ^ 32 - 2 ^ b) % 2 ^ b) := Nat.and_mod_two_pow
  have h2 : (m &&& (2 ^ 32 - 2 ^ b)) / 2 ^ b = (m / 2 ^ b) &&& ((2 ^ 32 - 2 ^ b) / 2 ^ b) := Nat.and_div_two_pow
  have f1 : ∀ b, b ≤ 6 → (2 ^ 32 - 2 ^ b) % 2 ^ b = 0 ∧ (2 ^ 32 - 2 ^ b) / 2 ^ b = 2 ^ (32 - b) - 1 := by decide +kernel
  rw [(f1 b hb).1, Nat.and_zero] at h1
  have h3 : m / 2 ^ b < 2 ^ (32 - b) := by
    rw [Nat.div_lt_iff_lt_mul (Nat.pow_pos (by decide)), ← Nat.pow_add, show 32 - b + b = 32 by omega]
    exact hm
  rw [(f1 b hb).2, Nat.and_two_pow_sub_one_eq_mod, Nat.mod_eq_of_lt h3] at h2
  have h4 := Nat.div_add_mod (m &&& (2 ^ 32 - 2 ^ b)) (2 ^ b)
  rw [h1, h2, Nat.add_zero] at h4
  exact h4.symm
theorem rc_of32 (x : Int32) : ∃ m, m < 2 ^ 32 ∧ x = nI m := ⟨x.toBitVec.toNat, x.toBitVec.isLt, by
  apply Int32.toBitVec_inj.1
  show x.toBitVec = BitVec.ofNat 32 x.toBitVec.toNat
  rw [BitVec.ofNat_toNat, BitVec.setWidth_eq]⟩
theorem rc_nI0 {m : Nat} (hm : m < 2 ^ 32) (h : nI m = 0) : m = 0 := by
  have h1 := congrArg (fun y : Int32 => y.toBitVec.toNat) h
  have h2 : (nI m).toBitVec.toNat = m := pk_tn hm
  rw [h2] at h1
  exact h1
theorem rc_sm6 : ∀ b, b ≤ 6 → ((nI b &&& 31).toBitVec.smod 32).toNat = b := by decide +kernel
theorem c_hasRooms {x : Int32} {b : Nat} (hr : σ 3 1 = nI b) (hb : b ≤ 6) (h1 : rc_out x (2 ^ b) → Q 0 σ) (h0 : ∀ j, j < 2 ^ b → x = nI j → Q 1 σ) : rc_TI (d + 1) 13 [.ref 3, .int x] σ Q := by
  have key : ∀ Q' : Int32 → rc_M → Prop, Q' (nI (2 ^ b - 1)) σ → rc_TI d 12 [.ref 3] σ Q' := fun Q' hq => by
    refine rc_go 20 ⟨_, rfl, ?_⟩
    rw [hr, rc_shl _ (by omega), rc_pred (Nat.pow_pos (by decide))]
    exact hq
  obtain ⟨m, hm, rfl⟩ := rc_of32 x
  have hp := rc_p6 hb
  have e : nI m &&& (nI (2 ^ b - 1) ^^^ -1) = nI (2 ^ b * (m / 2 ^ b)) := by rw [rc_xor6 b hb, fa_and, rc_hi6 hb hm]
  have hle : 2 ^ b * (m / 2 ^ b) ≤ m := Nat.mul_div_le _ _
  refine rc_go 40 (key _ (And.intro (fun c => ?_) (fun c => ?_)))
  · rw [e] at c
    refine ⟨Or.inl rfl, _, rfl, h1 ?_⟩
    rcases rc_out_or (nI m) (n := 2 ^ b) (by omega) with q | ⟨j, hj, he⟩
    · exact q
    · exfalso
      have hmj : m = j := by
        have h2 := congrArg (fun y : Int32 => y.toBitVec.toNat) he
        rw [pk_tn hm, pk_tn (by omega)] at h2
        exact h2
      subst hmj
      rw [Nat.div_eq_of_lt hj, Nat.mul_zero] at c
      exact c rfl
  · rw [e] at c
    refine ⟨Or.inr rfl, _, rfl, ?_⟩
    have hz := rc_nI0 (by omega) c
    have hd : m / 2 ^ b = 0 := by
      rcases Nat.mul_eq_zero.mp hz with q | q
      · exact absurd q (Nat.ne_of_gt (Nat.pow_pos (by decide)))
      · exact q
    exact h0 m ((Nat.div_eq_zero_iff_lt (Nat.pow_pos (by decide))).mp hd) rfl
theorem t_noRooms {x : Int32} {b : Nat} (hr : σ 80 1 = nI b) (hb : b ≤ 6) (h1 : rc_out x (2 ^ b) → Q 1 σ) (h0 : ∀ j, j < 2 ^ b → x = nI j → Q 0 σ) : rc_TI d 169 [.ref 80, .int x] σ Q := by
  have hp := rc_p6 hb
  refine rc_go 40 (And.intro (fun c => ⟨Or.inr rfl, _, rfl, h1 (Or.inl c)⟩) (fun c => ?_))
  obtain ⟨m, hm, rfl⟩ := nI_of c
  have e : nI m >>> (nI b &&& 31) = nI (m / 2 ^ b) := pk_shrN hm _ b (rc_sm6 b hb)
  have hd : m / 2 ^ b ≤ m := Nat.div_le_self _ _
  refine And.intro (fun c2 => ?_) (fun c2 => ?_)
  · rw [hr, e] at c2
    have hz := rc_nI0 (by omega) c2
    exact ⟨Or.inl rfl, _, rfl, h0 m ((Nat.div_eq_zero_iff_lt (Nat.pow_pos (by decide))).mp hz) rfl⟩
  · rw [hr, e] at c2
    refine ⟨Or.inr rfl, _, rfl, h1 (Or.inr ?_)⟩
    rcases Nat.lt_or_ge m (2 ^ b) with q | q
    · rw [Nat.div_eq_of_lt q] at c2; exact absurd rfl c2
    · exact nI_le q hm
theorem o_fits_a {m : Nat} (h6 : pV P 12 0 ≤ 6) (hm : m < 2 ^ pV P 12 0) : o_fits P (nI m) = (nI (rc_fit (pV P) m (pV P 12 0)), P) := by
  have hp := rc_p6 h6
  unfold o_fits
  rw [rc_ob_f hm (by omega), rc_ci (by omega)]
  rfl
theorem c_fitting {x : Int32} {m : Nat} (hx : x = nI m) (h0 : σ 0 = rc_wt) (hC : rc_Cls 0 σ V) (hW : rc_WF n V) (hm : m < 64) (h : Q (nI (rc_fit V m (V 12 0))) σ) : rc_TI (d + 5) 21 [.ref 3, .int x] σ Q := by
  subst hx
  exact rc_go 20 (c_fit_l h0 hC hW hm ⟨_, rfl, h⟩ (V 12 0) 0 (by omega))
theorem t_fitting {x : Int32} {m : Nat} (hx : x = nI m) (hM : rc_Mod σ V) (hW : rc_WF n V) (hm : m < 64) (h : Q (nI (rc_fit V m (V 12 0))) σ) : rc_TI (d + 4) 170 [.ref 80, .int x] σ Q := by
  subst hx
  exact rc_go 20 (t_fit_4 hM hW hm ⟨_, rfl, h⟩ (V 12 0) 0 _ _ (by omega))
theorem c_fits {x : Int32} (hI : rc_CP σ P) (hW : rc_WP n P) (h : ∀ σ', rc_fC σ σ' → rc_CP σ' (o_fits P x).2 → Q (o_fits P x).1 σ') : rc_TI (d + 6) 103 [.ref 2, .int x] σ Q := by
  have h6 := hW.1.1
  have hp := rc_p6 h6
  refine rc_go 40 (c_hasRooms hI.2.1.1 h6 (fun ho => ?_) (fun m hm hx => ?_))
  · refine And.intro (fun z => absurd rfl z) (fun _ => ?_)
    exact c_ref (w := 1) (by decide) (by decide) hI hW (by simp only [o_fits, rc_ob_t ho, cond_true]) (fun σ' a b => ⟨_, rfl, h σ' a b⟩)
  · subst hx
    rw [o_fits_a h6 hm] at h
    refine And.intro (fun _ => ?_) (fun z => absurd z (by decide))
    exact c_fitting rfl hI.1 hI.2.1 hW.1 (by omega) ⟨_, rfl, h σ rc_fC.rf hI⟩
theorem t_fits {x : Int32} (hI : rc_MP σ P) (hW : rc_WP n P) (h : ∀ σ', rc_fM σ σ' → rc_MP σ' (o_fits P x).2 → Q (o_fits P x).1 σ') : rc_TI (d + 5) 171 [.ref 80, .int x] σ Q := by
  have h6 := hW.1.1
  have hp := rc_p6 h6
  refine rc_go 40 (t_noRooms hI.1.1 h6 (fun ho => ?_) (fun m hm hx => ?_))
  · refine And.intro (fun z => absurd z (by decide)) (fun _ => ?_)
    exact t_ref (w := 1) (by decide) (by decide) hI (by simp only [o_fits, rc_ob_t ho, cond_true]) (fun σ' a b => ⟨_, rfl, h σ' a b⟩)
  · subst hx
    rw [o_fits_a h6 hm] at h
    refine And.intro (fun _ => ?_) (fun z => absurd rfl z)
    exact t_fitting rfl hI.1 hW.1 (by omega) ⟨_, rfl, h σ rc_fM.rf hI⟩
end RFj
