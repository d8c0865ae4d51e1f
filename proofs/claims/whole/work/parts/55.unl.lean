section RUn
variable {d n : Nat} {σ : rc_M} {P : rc_P} {V : rc_V} {Q : Int32 → rc_M → Prop}
/-! what the rooms of a set make of one state, as bits; how many rooms a set has -/
def rc_uq (V : rc_V) (m s : Nat) : Nat → Nat
  | 0 => 0
  | k + 1 => if m.testBit k then rc_uq V m s k ||| 2 ^ rc_nV V k s 0 0 0 0 else rc_uq V m s k
theorem rc_uq_lt {m s : Nat} (hW : rc_WF n V) (hs : s < 27) : ∀ k, k ≤ 6 → rc_uq V m s k < 2 ^ 27 := by
  intro k
  induction k with
  | zero => intro _; exact Nat.pow_pos (by decide)
  | succ k ih =>
    intro hk
    rw [rc_uq]
    split
    · exact Nat.or_lt_two_pow (ih (by omega)) (Nat.pow_lt_pow_right (by decide) (rc_nV_lt (hW.2.2.2.2.1 k (by omega)) hs (by decide)))
    · exact ih (by omega)
theorem c_unl_l {m s : Nat} (h0 : σ 0 = rc_wt) (hC : rc_Cls 0 σ V) (hW : rc_WF n V) (hm : m < 64) (hs : s < 27) {Q' : Option Value → rc_M → Prop} (h : Q' (some (.int (nI (rc_pc (rc_uq V m s (V 12 0)) 27)))) σ) : ∀ (c k : Nat), k + c = V 12 0 → rc_Tc (d + 4) 23 5 [.ref 3, .int (nI m), .int (nI s), .int (nI (rc_uq V m s k)), .int (nI k)] [] σ Q' := by
  have e31 : σ 3 1 = nI (V 12 0) := hC.1
  have hb6 := hW.1
  intro c
  induction c with
  | zero =>
    intro k hk
    have : k = V 12 0 := by omega
    subst this
    refine rc_go 40 (And.intro (fun _ => ?_) (fun c => absurd (by rw [e31]; exact nI_le (Nat.le_refl _) (by omega)) c))
    exact c_bitCount rfl (rc_uq_lt hW hs _ hb6) h
  | succ c ih =>
    intro k hk
    have hk6 : k < 6 := by omega
    have hWr := hW.2.2.2.2.1 k hk6
    have hRm := (hC.2.2.2.2.1 k hk6).rm hk6
    have key := ih (k + 1) (by omega)
    rw [← nI_1, rc_uq] at key
    have eb := rc_bt6 m hm k hk6
    refine rc_go 60 (And.intro (fun c1 => absurd (by rw [e31] at c1; exact c1) (nI_ge (by omega) (by omega))) (fun _ => ?_))
    refine And.intro (fun c2 => ?_) (fun c2 => ?_)
    · rw [eb] at c2
      have z : m.testBit k = false := by
        cases hz : m.testBit k with
        | false => rfl
        | true => rw [hz] at c2; exact absurd rfl c2
      rw [z, if_neg (by decide)] at key
      exact key
    · rw [eb] at c2
      have z : m.testBit k = true := by
        cases hz : m.testBit k with
        | true => rfl
        | false => rw [hz] at c2; exact absurd c2 (by decide)
      rw [z, if_pos rfl, ← fa_or, ← rc_shl _ (by have := rc_nV_lt (V := V) (r := k) (n := 0) (heir := 0) (mate := 0) (und := 0) hWr hs (by decide); omega)] at key
      refine Exists.intro (9 + 2 * k) (And.intro rfl (And.intro (rc_vi (n := 6) hk6 (by decide)) (And.intro (by rw [rc_ci (by omega)]; exact rc_rho4 _ hk6) (And.intro hRm.1 ?_))))
      exact c_firstNight (n := 0) rfl rfl h0 hs (by decide) hRm hWr.1 hWr.2.1 hWr.2.2.1 key
theorem c_unlike {x y : Int32} {m s : Nat} (hx : x = nI m) (hy : y = nI s) (h0 : σ 0 = rc_wt) (hC : rc_Cls 0 σ V) (hW : rc_WF n V) (hm : m < 64) (hs : s < 27) (h : Q (nI (rc_pc (rc_uq V m s (V 12 0)) 27)) σ) : rc_TI (d + 4) 23 [.ref 3, .int x, .int y] σ Q := by
  subst hx; subst hy
  exact rc_go 20 (c_unl_l h0 hC hW hm hs ⟨_, rfl, h⟩ (V 12 0) 0 (by omega))
theorem t_size_l {m : Nat} (hm : m < 64) {Q' : Option Value → rc_M → Prop} (h : Q' (some (.int (nI (rc_pc m 6)))) σ) : ∀ (c k : Nat), k + c = 6 → rc_Tc d 174 4 [.ref 80, .int (nI m), .int (nI (rc_pc m k)), .int (nI k)] [] σ Q' := by
  intro c
  induction c with
  | zero =>
    intro k hk
    have : k = 6 := by omega
    subst this
    exact rc_go 40 (And.intro (fun _ => h) (fun c => absurd (by decide) c))
  | succ c ih =>
    intro k hk
    have key := ih (k + 1) (by omega)
    rw [← nI_1, rc_pc, ← nI_add, ← rc_bt6 m hm k (by omega)] at key
    exact rc_go 40 (And.intro (fun c1 => absurd c1 (nI_ge (show k < 6 by omega) (by decide))) (fun _ => key))
theorem t_size {x : Int32} {m : Nat} (hx : x = nI m) (hm : m < 64) (h : Q (nI (rc_pc m 6)) σ) : rc_TI d 174 [.ref 80, .int x] σ Q := by
  subst hx
  exact rc_go 20 (t_size_l hm ⟨_, rfl, h⟩ 6 0 rfl)
theorem t_isOneOf {x y : Int32} {m k : Nat} (hx : x = nI m) (hy : y = nI k) (hm : m < 64) (hk : k < 6) (h : Q (rc_bI (m.testBit k)) σ) : rc_TI d 172 [.int x, .int y] σ Q := by
  subst hx; subst hy
  have eb := rc_bt6 m hm k hk
  refine rc_go 40 (And.intro (fun c => ?_) (fun c => ?_))
  · rw [eb] at c
    have z : m.testBit k = false := by
      cases hz : m.testBit k with
      | false => rfl
      | true => rw [hz] at c; exact absurd rfl c
    rw [z] at h
    exact ⟨Or.inl rfl, _, rfl, h⟩
  · rw [eb] at c
    have z : m.testBit k = true := by
      cases hz : m.testBit k with
      | true => rfl
      | false => rw [hz] at c; exact absurd c (by decide)
    rw [z] at h
    exact ⟨Or.inr rfl, _, rfl, h⟩
end RUn
