section RSv
variable {d n : Nat} {σ : rc_M} {P : rc_P} {V : rc_V} {Q : Int32 → rc_M → Prop}
theorem rc_anyt_f {p : Nat → Bool} {m : Nat} (h : ∀ k, k < m → p k = false) : rc_anyt p m = false := by
  induction m with
  | zero => rfl
  | succ m ih => rw [rc_anyt, ih (fun k hk => h k (by omega)), h m (by omega)]; rfl
theorem rc_alls_a {p : Nat → Bool} {m : Nat} (h : ∀ k, k < m → p k = true) : rc_alls p m = true := by
  induction m with
  | zero => rfl
  | succ m ih => rw [rc_alls, ih (fun k hk => h k (by omega)), h m (by omega)]; rfl
theorem rc_ap_pc {m s t : Nat} : ∀ k, rc_ap V m s t k ≤ rc_pc m k ∧ (rc_ap V m s t k = rc_pc m k ↔ ∀ r, r < k → m.testBit r = true → ∀ q, q < r → rc_du V m s t r q = false) := by
  intro k
  induction k with
  | zero => exact ⟨Nat.le_refl _, fun _ r hr => absurd hr (by omega), fun _ => rfl⟩
  | succ k ih =>
    obtain ⟨i1, i2⟩ := ih
    rw [rc_ap, rc_pc, rc_fs]
    cases hz : m.testBit k with
    | false =>
      rw [Bool.false_and]
      refine ⟨Nat.add_le_add_right i1 _, ?_⟩
      rw [show (rc_ap V m s t k + (false : Bool).toNat = rc_pc m k + (false : Bool).toNat) ↔ rc_ap V m s t k = rc_pc m k from Nat.add_right_cancel_iff, i2]
      constructor
      · intro h r hr
        by_cases e : r = k
        · subst e; intro h2; rw [hz] at h2; exact absurd h2 (by decide)
        · exact h r (by omega)
      · exact fun h r hr => h r (by omega)
    | true =>
      rw [Bool.true_and]
      cases ha : rc_alls (fun q => !rc_du V m s t k q) k with
      | true =>
        refine ⟨Nat.add_le_add_right i1 _, ?_⟩
        rw [show (rc_ap V m s t k + (true : Bool).toNat = rc_pc m k + (true : Bool).toNat) ↔ rc_ap V m s t k = rc_pc m k from Nat.add_right_cancel_iff, i2]
        constructor
        · intro h r hr
          by_cases e : r = k
          · subst e; intro _ q hq
            have := rc_alls_t ha q hq
            simpa using this
          · exact h r (by omega)
        · exact fun h r hr => h r (by omega)
      | false =>
        refine ⟨Nat.add_le_add i1 (by decide), ?_⟩
        constructor
        · intro h
          have e1 : (false : Bool).toNat = 0 := rfl
          have e2 : (true : Bool).toNat = 1 := rfl
          rw [e1, e2] at h
          omega
        · intro h
          have := rc_alls_a (p := fun q => !rc_du V m s t k q) (m := k) (fun q hq => by simp [h k (by omega) hz q hq])
          rw [this] at ha
          exact absurd ha (by decide)
theorem rc_dcm (a b : Nat) : decide (a = b) = decide (b = a) := decide_eq_decide.mpr eq_comm
theorem rc_pc_up : ∀ b, b ≤ 6 → ∀ m, m < 2 ^ b → rc_pc m 6 = rc_pc m b := by decide +kernel
theorem rc_dB_iff {b m s t : Nat} (hb : b ≤ 6) (hm : m < 2 ^ b) : rc_ap V m s t b = rc_pc m 6 ↔ ∀ p, p < b * (b - 1) / 2 → rc_al b m p = true → (rc_ta V b s p || rc_ta V b t p) = true := by
  rw [rc_pc_up b hb m hm, (rc_ap_pc b).2]
  constructor
  · intro h p hp ha
    obtain ⟨q1, q2⟩ := rc_pF2 b hb p hp
    unfold rc_al at ha
    rw [Bool.and_eq_true] at ha
    have := h _ q2 ha.2 _ q1
    unfold rc_du at this
    rw [ha.1, Bool.true_and] at this
    unfold rc_ta
    rw [rc_dcm (rc_nV V (rc_pds b p).1 s 0 0 0 0), rc_dcm (rc_nV V (rc_pds b p).1 t 0 0 0 0)] at this
    rw [← Bool.not_and, this]
    rfl
  · intro h r hr h1 q hq
    obtain ⟨p1, p2⟩ := rc_pF1 b hb r hr q hq
    have := h _ p2
    unfold rc_al rc_ta at this
    rw [p1] at this
    unfold rc_du
    cases hz : m.testBit q with
    | false => rfl
    | true =>
      have := this (by show (m.testBit q && m.testBit r) = true; rw [hz, h1]; rfl)
      rw [← Bool.not_and] at this
      rw [rc_dcm (rc_nV V q s 0 0 0 0), rc_dcm (rc_nV V q t 0 0 0 0), Bool.true_and]
      have this : (!(decide (rc_nV V r s 0 0 0 0 = rc_nV V q s 0 0 0 0) && decide (rc_nV V r t 0 0 0 0 = rc_nV V q t 0 0 0 0))) = true := this
      cases hx : (decide (rc_nV V r s 0 0 0 0 = rc_nV V q s 0 0 0 0) && decide (rc_nV V r t 0 0 0 0 = rc_nV V q t 0 0 0 0)) with
      | false => rfl
      | true => rw [hx] at this; exact absurd this (by decide)
def rc_dB (V : rc_V) (m s t : Nat) : Bool := decide (rc_ap V m s t (V 12 0) = rc_pc m 6)
def rc_su (V : rc_V) (m : Nat) : Int32 := if 2 ≤ rc_pc m 6 then (if rc_anyt (fun s => rc_dB V m s s) 27 then 1 else if rc_anyt (fun s => rc_anyt (rc_dB V m s) s) 27 then 2 else -9) else 0
def o_sure (P : rc_P) (x : Int32) : Int32 × rc_P := cond (rc_ob x (2 ^ pV P 12 0)) (o_no P 1) (rc_su (pV P) (rc_fit (pV P) x.toNatClampNeg (pV P 12 0)), P)
theorem o_sure_a {m : Nat} (h6 : pV P 12 0 ≤ 6) (hm : m < 2 ^ pV P 12 0) : o_sure P (nI m) = (rc_su (pV P) (rc_fit (pV P) m (pV P 12 0)), P) := by
  have hp := rc_p6 h6
  unfold o_sure
  rw [rc_ob_f hm (by omega), rc_ci (by omega)]
  rfl
theorem t_su_64 {m s : Nat} {x1 : Int32} (hM : rc_Mod σ V) (hW : rc_WF n V) (hm : m < 64) (hs : s < 27) {b : Bool} {Q' : Option Value → rc_M → Prop} (k1 : ∀ w6, rc_Tc (d + 5) 176 39 [.ref 80, .int x1, .int (nI m), .int (nI (rc_pc m 6)), .int (rc_bI (b || rc_anyt (rc_dB V m s) s)), .int (nI (s + 1)), w6] [] σ Q') : ∀ (c t : Nat), t + c = s → rc_Tc (d + 5) 176 64 [.ref 80, .int x1, .int (nI m), .int (nI (rc_pc m 6)), .int (rc_bI (b || rc_anyt (rc_dB V m s) t)), .int (nI s), .int (nI t)] [] σ Q' := by
  have hb6 := hW.1
  have p2 := (rc_pc27 m hm).2
  rw [← nI_1] at k1
  intro c
  induction c with
  | zero =>
    intro t ht
    have : t = s := by omega
    subst this
    exact rc_go 40 (And.intro (fun _ => k1 _) (fun c => absurd (nI_le (Nat.le_refl _) (by omega)) c))
  | succ c ih =>
    intro t ht
    have key := ih (t + 1) (by omega)
    rw [← nI_1, rc_anyt, ← Bool.or_assoc] at key
    refine rc_go 60 (And.intro (fun c1 => absurd c1 (nI_ge (by omega) (by omega))) (fun _ => ?_))
    refine And.intro (fun c2 => ?_) (fun c2 => ?_)
    · have z := rc_bool_t c2
      have z2 : (b || rc_anyt (rc_dB V m s) s) = true := by
        cases b with
        | true => rfl
        | false =>
          rw [Bool.false_or] at z ⊢
          clear key k1 ih c2
          cases hq : rc_anyt (rc_dB V m s) s with
          | true => rfl
          | false =>
            have hle : t ≤ s := by omega
            exfalso
            have : ∀ k, rc_anyt (rc_dB V m s) t = true → rc_anyt (rc_dB V m s) (t + k) = true := by
              intro k hk
              induction k with
              | zero => exact hk
              | succ k ih => rw [← Nat.add_assoc, rc_anyt, ih]; rfl
            have h2 := this (s - t) z
            rw [show t + (s - t) = s by omega, hq] at h2
            exact absurd h2 (by decide)
      rw [z2] at k1
      rw [z]
      exact k1 _
    · have z : (b || rc_anyt (rc_dB V m s) t) = false := by
        cases hq : (b || rc_anyt (rc_dB V m s) t) with
        | false => rfl
        | true => rw [hq] at c2; exact absurd c2 (by decide)
      rw [z, Bool.false_or] at key
      refine t_apart rfl rfl rfl hM hW hm hs (by omega) ?_
      have hl := rc_ap_le (V := V) (m := m) (s := s) (t := t) (V 12 0)
      refine And.intro (fun c3 => ?_) (fun c3 => ?_)
      · rw [show rc_dB V m s t = false from decide_eq_false (fun e => c3 (by rw [e]))] at key
        exact key
      · rw [show rc_dB V m s t = true from decide_eq_true ((nI_eq (by omega) (by omega)).mp c3)] at key
        exact key
theorem t_su_39 {m : Nat} {x1 : Int32} (hM : rc_Mod σ V) (hW : rc_WF n V) (hm : m < 64) {Q' : Option Value → rc_M → Prop} (h : Q' (some (.int (if rc_anyt (fun s => rc_dB V m s s) 27 then 1 else if rc_anyt (fun s => rc_anyt (rc_dB V m s) s) 27 then 2 else -9))) σ) : ∀ (c s : Nat) (w6 : Value), s + c = 27 → (∀ q, q < s → rc_dB V m q q = false) → rc_Tc (d + 5) 176 39 [.ref 80, .int x1, .int (nI m), .int (nI (rc_pc m 6)), .int (rc_bI (rc_anyt (fun s => rc_anyt (rc_dB V m s) s) s)), .int (nI s), w6] [] σ Q' := by
  have hb6 := hW.1
  have p2 := (rc_pc27 m hm).2
  intro c
  induction c with
  | zero =>
    intro s w6 hs ha
    have : s = 27 := by omega
    subst this
    rw [rc_anyt_f ha, if_neg (by decide)] at h
    refine rc_go 40 (And.intro (fun _ => And.intro (fun c => ?_) (fun c => ?_)) (fun c => absurd (by decide) c))
    · rw [rc_bI_0.mp c, if_neg (by decide)] at h
      exact h
    · rw [rc_bool_t c, if_pos rfl] at h
      exact h
  | succ c ih =>
    intro s w6 hs ha
    refine rc_go 60 (And.intro (fun c1 => absurd c1 (nI_ge (show s < 27 by omega) (by decide))) (fun _ => ?_))
    refine t_apart rfl rfl rfl hM hW hm (by omega) (by omega) ?_
    have hl := rc_ap_le (V := V) (m := m) (s := s) (t := s) (V 12 0)
    refine And.intro (fun c3 => ?_) (fun c3 => ?_)
    · have z : rc_dB V m s s = false := decide_eq_false (fun e => c3 (by rw [e]))
      have key := fun w6 => ih (s + 1) w6 (by omega) (fun q hq => by
        by_cases e : q = s
        · subst e; exact z
        · exact ha q (by omega))
      rw [rc_anyt] at key
      have k2 := t_su_64 (V := V) hM hW hm (by omega) key s 0 (by omega)
      rw [show rc_anyt (rc_dB V m s) 0 = false from rfl, Bool.or_false] at k2
      exact k2
    · have z : rc_dB V m s s = true := decide_eq_true ((nI_eq (by omega) (by omega)).mp c3)
      rw [rc_anyt_t (p := fun s => rc_dB V m s s) (k := s) (by omega) z, if_pos rfl] at h
      exact h
theorem t_sure {x : Int32} (hI : rc_MP σ P) (hW : rc_WP n P) (h : ∀ σ', rc_fM σ σ' → rc_MP σ' (o_sure P x).2 → Q (o_sure P x).1 σ') : rc_TI (d + 5) 176 [.ref 80, .int x] σ Q := by
  have h6 := hW.1.1
  have hp := rc_p6 h6
  refine rc_go 40 (t_noRooms hI.1.1 h6 (fun ho => ?_) (fun m hm hx => ?_))
  · refine And.intro (fun z => absurd z (by decide)) (fun _ => ?_)
    exact t_ref (w := 1) (by decide) (by decide) hI (by simp only [o_sure, rc_ob_t ho, cond_true]) (fun σ' a b => ⟨_, rfl, h σ' a b⟩)
  · subst hx
    rw [o_sure_a h6 hm] at h
    have hf := rc_fit64 (V := pV P) (m := m) h6
    obtain ⟨p1, p2⟩ := rc_pc27 _ hf
    refine And.intro (fun _ => ?_) (fun z => absurd rfl z)
    refine t_fitting rfl hI.1 hW.1 (by omega) (t_size rfl hf ?_)
    refine And.intro (fun c => ?_) (fun c => ?_)
    · rw [rc_su, if_pos (Nat.le_of_not_lt (fun z => nI_ge z (by decide) c))] at h
      exact t_su_39 hI.1 hW.1 hf ⟨_, rfl, h σ rc_fM.rf hI⟩ 27 0 _ rfl (fun q hq => absurd hq (by omega))
    · rw [rc_su, if_neg (fun z => c (nI_le z (by omega)))] at h
      exact ⟨_, rfl, h σ rc_fM.rf hI⟩
end RSv
section RSw
variable {d n : Nat} {σ : rc_M} {P : rc_P} {V : rc_V} {Q : Int32 → rc_M → Prop}
def rc_aps (V : rc_V) (m s : Nat) : Nat := rc_bvs (fun p => rc_al (V 12 0) m p && rc_ta V (V 12 0) s p) (V 12 0 * (V 12 0 - 1) / 2)
def rc_alb (V : rc_V) (m : Nat) : Nat := rc_bvs (rc_al (V 12 0) m) (V 12 0 * (V 12 0 - 1) / 2)
theorem rc_bl15 {g : Nat → Bool} {b : Nat} (hb : b ≤ 6) : rc_bvs g (b * (b - 1) / 2) < 2 ^ 15 := Nat.lt_of_lt_of_le (rc_bvs_lt _) (Nat.pow_le_pow_right (by decide) (rc_pF4 b hb).2.1)
theorem rc_dB_2 {m s t : Nat} (hb : V 12 0 ≤ 6) (hm : m < 2 ^ V 12 0) : (rc_aps V m t ||| rc_aps V m s = rc_alb V m) ↔ rc_dB V m s t = true := by
  unfold rc_aps rc_alb rc_dB
  rw [rc_bvs_or, rc_bvs_eq, decide_eq_true_iff, rc_dB_iff hb hm]
  constructor
  · intro h p hp ha
    have := h p hp
    rw [ha, Bool.true_and, Bool.true_and, Bool.or_comm] at this
    exact this
  · intro h p hp
    cases ha : rc_al (V 12 0) m p with
    | false => rfl
    | true => rw [Bool.true_and, Bool.true_and, Bool.or_comm]; exact h p hp ha
theorem rc_dB_1 {m s : Nat} (hb : V 12 0 ≤ 6) (hm : m < 2 ^ V 12 0) : (rc_aps V m s = rc_alb V m) ↔ rc_dB V m s s = true := by
  rw [← rc_dB_2 hb hm, Nat.or_self]
theorem c_su_108 {m o : Nat} {x1 x2 : Int32} (hb : V 12 0 ≤ 6) (hm : m < 2 ^ V 12 0) (ha : ∀ s, s < 27 → σ 79 s = nI (rc_aps V m s)) (ho : o < 27) {Q' : Option Value → rc_M → Prop} (h2 : ∀ s, s < 27 → o < s → rc_dB V m s o = true → Q' (some (.int 2)) σ) (k1 : (∀ s, s < 27 → o < s → rc_dB V m s o = false) → ∀ w5, rc_Tc (d + 5) 105 95 [.ref 2, .int x1, .int x2, .int (nI (rc_alb V m)), .int (nI (o + 1)), w5] [] σ Q') : ∀ (c s : Nat), s + c = 27 → o < s → (∀ q, q < s → o < q → rc_dB V m q o = false) → rc_Tc (d + 5) 105 108 [.ref 2, .int x1, .int x2, .int (nI (rc_alb V m)), .int (nI o), .int (nI s)] [] σ Q' := by
  intro c
  induction c with
  | zero =>
    intro s hs hos hf
    have : s = 27 := by omega
    subst this
    have k2 := k1 hf
    rw [← nI_1] at k2
    exact rc_go 40 (And.intro (fun _ => k2 _) (fun c => absurd (by decide) c))
  | succ c ih =>
    intro s hs hos hf
    refine rc_go 60 (And.intro (fun c1 => absurd c1 (nI_ge (show s < 27 by omega) (by decide))) (fun _ => ?_))
    refine And.intro (rc_vi (n := 27) ho (by decide)) (And.intro (rc_vi (n := 27) (by omega) (by decide)) ?_)
    rw [rc_ci (by omega), rc_ci (by omega), ha o ho, ha s (by omega)]
    have l1 : rc_aps V m o < 2 ^ 15 := rc_bl15 hb
    have l2 : rc_aps V m s < 2 ^ 15 := rc_bl15 hb
    have l3 : rc_alb V m < 2 ^ 15 := rc_bl15 hb
    have l4 := Nat.or_lt_two_pow l1 l2
    refine And.intro (fun c2 => ?_) (fun c2 => ?_) <;> rw [fa_or] at c2
    · have z : rc_dB V m s o = false := by
        cases hz : rc_dB V m s o with
        | false => rfl
        | true => exact absurd (congrArg nI ((rc_dB_2 hb hm).mpr hz)) c2
      have key := ih (s + 1) (by omega) (by omega) (fun q hq hoq => by
        by_cases e : q = s
        · subst e; exact z
        · exact hf q (by omega) hoq)
      rw [← nI_1] at key
      exact key
    · exact h2 s (by omega) hos ((rc_dB_2 hb hm).mp ((nI_eq (by omega) (by omega)).mp c2))
theorem c_su_95 {m : Nat} {x1 x2 : Int32} (hb : V 12 0 ≤ 6) (hm : m < 2 ^ V 12 0) (ha : ∀ s, s < 27 → σ 79 s = nI (rc_aps V m s)) {Q' : Option Value → rc_M → Prop} (h : Q' (some (.int (if rc_anyt (fun s => rc_anyt (rc_dB V m s) s) 27 then 2 else -9))) σ) : ∀ (c o : Nat) (w5 : Value), o + c = 27 → (∀ q s, q < o → s < 27 → q < s → rc_dB V m s q = false) → rc_Tc (d + 5) 105 95 [.ref 2, .int x1, .int x2, .int (nI (rc_alb V m)), .int (nI o), w5] [] σ Q' := by
  intro c
  induction c with
  | zero =>
    intro o w5 ho hf
    have : o = 27 := by omega
    subst this
    rw [rc_anyt_f (fun s hs => rc_anyt_f (fun t ht => hf t s (by omega) hs ht)), if_neg (by decide)] at h
    exact rc_go 40 (And.intro (fun _ => h) (fun c => absurd (by decide) c))
  | succ c ih =>
    intro o w5 ho hf
    have key := c_su_108 (d := d) (x1 := x1) (x2 := x2) hb hm ha (o := o) (by omega) (Q' := Q') (fun s hs hos hz => by
      rw [rc_anyt_t (p := fun s => rc_anyt (rc_dB V m s) s) (k := s) hs (rc_anyt_t hos hz), if_pos rfl] at h
      exact h) (fun hz w5 => ih (o + 1) w5 (by omega) (fun q s hq hs hqs => by
        by_cases e : q = o
        · subst e; exact hz s hs hqs
        · exact hf q s (by omega) hs hqs)) (27 - (o + 1)) (o + 1) (by omega) (by omega) (fun q h1 h2 => by omega)
    rw [show (nI (o + 1)) = nI o + 1 from (nI_1 o).symm] at key
    exact rc_go 40 (And.intro (fun c1 => absurd c1 (nI_ge (show o < 27 by omega) (by decide))) (fun _ => key))
theorem c_su_48 {m : Nat} {x1 : Int32} (h0 : σ 0 = rc_wt) (hC : rc_Cls 0 σ V) (hW : rc_WF n V) (hm : m < 2 ^ V 12 0) {Q' : Option Value → rc_M → Prop} (h : ∀ f, Q' (some (.int (if rc_anyt (fun s => rc_dB V m s s) 27 then 1 else if rc_anyt (fun s => rc_anyt (rc_dB V m s) s) 27 then 2 else -9))) (rc_up σ 79 f)) : ∀ (c s : Nat) (w5 : Value) (f : Nat → Int32), s + c = 27 → (∀ q, q < s → rc_dB V m q q = false) → (∀ q, q < s → f q = nI (rc_aps V m q)) → rc_Tc (d + 5) 105 48 [.ref 2, .int x1, .int (nI m), .int (nI (rc_alb V m)), .int (nI s), w5] [] (rc_up σ 79 f) Q' := by
  have hb := hW.1
  intro c
  induction c with
  | zero =>
    intro s w5 f hs hf hq
    have : s = 27 := by omega
    subst this
    have h' := h f
    rw [rc_anyt_f hf, if_neg (by decide)] at h'
    exact rc_go 40 (And.intro (fun _ => c_su_95 hb hm (fun s hs => by rw [rc_up_s]; exact hq s hs) h' 27 0 _ rfl (fun q s hq _ _ => absurd hq (by omega))) (fun c => absurd (by decide) c))
  | succ c ih =>
    intro s w5 f hs hf hq
    have e0 : ∀ k, k ≠ 79 → rc_up σ 79 f k = σ k := fun k hk => rc_up_n _ _ hk
    refine rc_go 60 (And.intro (fun c1 => absurd c1 (nI_ge (show s < 27 by omega) (by decide))) (fun _ => ?_))
    refine c_pairsApart (V := V) rfl (by rw [e0 _ (by decide)]; exact h0) (hC.at hW.2.1 (fun k _ _ _ => e0 k (by omega))) hW (by omega) ?_
    refine And.intro (rc_vi (n := 27) (by omega) (by decide)) (And.intro (rc_vi (n := 27) (by omega) (by decide)) ?_)
    have ea : nI (rc_alb V m) &&& nI (rc_bvs (rc_ta V (V 12 0) s) (V 12 0 * (V 12 0 - 1) / 2)) = nI (rc_aps V m s) := by
      rw [fa_and]
      unfold rc_alb rc_aps
      rw [rc_bvs_and]
    have l1 : rc_aps V m s < 2 ^ 15 := rc_bl15 hb
    have l3 : rc_alb V m < 2 ^ 15 := rc_bl15 hb
    rw [rc_ci (by omega), ea, rc_up_s, rc_uu, rc_up_s, pk_us]
    refine And.intro (fun c2 => ?_) (fun c2 => ?_)
    · have z : rc_dB V m s s = false := by
        cases hz : rc_dB V m s s with
        | false => rfl
        | true => exact absurd (congrArg nI ((rc_dB_1 hb hm).mpr hz)) c2
      have key := ih (s + 1) w5 (upd f s (nI (rc_aps V m s))) (by omega) (fun q hq => by
        by_cases e : q = s
        · subst e; exact z
        · exact hf q (by omega)) (fun q hq' => by
        by_cases e : q = s
        · subst e; exact pk_us
        · rw [pk_un e]; exact hq q (by omega))
      rw [← nI_1] at key
      exact key
    · have z := (rc_dB_1 hb hm).mp ((nI_eq (by omega) (by omega)).mp c2)
      have h' := h (upd f s (nI (rc_aps V m s)))
      rw [rc_anyt_t (p := fun s => rc_dB V m s s) (k := s) (by omega) z, if_pos rfl] at h'
      exact h'
theorem c_sure {x : Int32} (hI : rc_CP σ P) (hW : rc_WP n P) (h : ∀ σ', rc_fC σ σ' → rc_CP σ' (o_sure P x).2 → Q (o_sure P x).1 σ') : rc_TI (d + 6) 105 [.ref 2, .int x] σ Q := by
  have h6 := hW.1.1
  have hp := rc_p6 h6
  refine rc_go 40 (c_hasRooms hI.2.1.1 h6 (fun ho => ?_) (fun m hm hx => ?_))
  · refine And.intro (fun z => absurd rfl z) (fun _ => ?_)
    exact c_ref (w := 1) (by decide) (by decide) hI hW (by simp only [o_sure, rc_ob_t ho, cond_true]) (fun σ' a b => ⟨_, rfl, h σ' a b⟩)
  · subst hx
    rw [o_sure_a h6 hm] at h
    have hf := rc_fit64 (V := pV P) (m := m) h6
    obtain ⟨p1, p2⟩ := rc_pc27 _ hf
    refine And.intro (fun _ => ?_) (fun z => absurd z (by decide))
    refine c_fitting rfl hI.1 hI.2.1 hW.1 (by omega) (c_bitCount rfl (Nat.lt_trans hf (by decide)) ?_)
    rw [p1]
    refine And.intro (fun c => ?_) (fun c => ?_)
    · rw [rc_su, if_pos (Nat.le_of_not_lt (fun z => nI_ge z (by decide) c))] at h
      refine c_pairsOf rfl hI.2.1 hW.1 hf ?_
      have key := c_su_48 (d := d + 1) (V := pV P) (x1 := nI m) (Q' := fun v σ => ∃ x, v = some (.int x) ∧ Q x σ) hI.1 hI.2.1 hW.1 (rc_fit_lt (V := pV P) (m := m) (pV P 12 0)) (fun f => ⟨_, rfl, h _ (rc_fC.up (by omega)) (hI.at hW (fun k _ _ _ => rc_up_n _ _ (by omega)))⟩) 27 0 .null (σ 79) rfl (fun q hq => absurd hq (by omega)) (fun q hq => absurd hq (by omega))
      rw [rc_ui] at key
      exact key
    · rw [rc_su, if_neg (fun z => c (nI_le z (by omega)))] at h
      exact ⟨_, rfl, h σ rc_fC.rf hI⟩
end RSw
