section RRd
variable {d n : Nat} {σ : rc_M} {P : rc_P} {V : rc_V} {Q : Int32 → rc_M → Prop}
/-! an order, read by its digits -/
def rc_rr (x : Int32) : Nat → Int32
  | 0 => x
  | k + 1 => rc_rr x k / 10
def rc_rg (x : Int32) (k : Nat) : Int32 := rc_rr x k - rc_rr x k / 10 * 10
def rc_od (x : Int32) (k : Nat) : Nat := (rc_rg x k).toNatClampNeg
def rc_dd (x : Int32) (k : Nat) : Nat → Bool
  | 0 => true
  | j + 1 => rc_dd x k j && !decide (rc_rg x j = rc_rg x k)
def rc_gd (x : Int32) (b k : Nat) : Bool := !rc_ob (rc_rg x k) b && rc_dd x k k
theorem rc_alls_t {q : Nat → Bool} {m : Nat} : rc_alls q m = true → ∀ k, k < m → q k = true := by
  induction m with
  | zero => intro _ k hk; omega
  | succ m ih =>
    intro h k hk
    rw [rc_alls, Bool.and_eq_true] at h
    by_cases z : k = m
    · subst z; exact h.2
    · exact ih h.1 k (by omega)
theorem rc_gd_e {x : Int32} {b k : Nat} (hb : b ≤ 2000) (h : rc_gd x b k = true) : rc_rg x k = nI (rc_od x k) ∧ rc_od x k < b := by
  unfold rc_gd at h
  rw [Bool.and_eq_true] at h
  rcases rc_out_or (rc_rg x k) (n := b) hb with q | ⟨j, hj, e⟩
  · rw [rc_ob_t q] at h; exact absurd h.1 (by decide)
  · have : rc_od x k = j := by unfold rc_od; rw [e, rc_ci (by omega)]
    rw [this]
    exact ⟨e, hj⟩
theorem rc_bits_tb {od : Nat → Nat} {j : Nat} : ∀ k, (rc_bits od k).testBit j = true ↔ ∃ i, i < k ∧ od i = j := by
  intro k
  induction k with
  | zero => simp [rc_bits]
  | succ k ih =>
    rw [rc_bits, rc_tb_or, Bool.or_eq_true, ih, decide_eq_true_eq]
    constructor
    · rintro (⟨i, h1, h2⟩ | h)
      · exact ⟨i, by omega, h2⟩
      · exact ⟨k, by omega, h⟩
    · rintro ⟨i, h1, h2⟩
      by_cases z : i = k
      · subst z; exact Or.inr h2
      · exact Or.inl ⟨i, by omega, h2⟩
theorem rc_dd_i {x : Int32} {k : Nat} : ∀ m, rc_dd x k m = true ↔ ∀ i, i < m → rc_rg x i ≠ rc_rg x k := by
  intro m
  induction m with
  | zero => exact ⟨fun _ i hi => absurd hi (by omega), fun _ => rfl⟩
  | succ m ih =>
    rw [rc_dd, Bool.and_eq_true, ih]
    constructor
    · rintro ⟨h1, h2⟩ i hi
      by_cases z : i = m
      · subst z; simpa using h2
      · exact h1 i (by omega)
    · intro h
      exact ⟨fun i hi => h i (by omega), by simpa using h m (by omega)⟩
theorem c_read_l {x : Int32} {m b : Nat} (hb : b ≤ 5) (h33 : σ 3 3 = nI b) (hm : m ≤ 5) {Q' : Option Value → rc_M → Prop} (h1 : rc_alls (rc_gd x b) m = true → ∀ f, (∀ j, j < m → f j = nI (rc_od x j)) → Q' (some (.int 1)) (rc_up σ 74 f)) (h0 : rc_alls (rc_gd x b) m = false → ∀ f, Q' (some (.int 0)) (rc_up σ 74 f)) :
    ∀ (c k : Nat) (f : Nat → Int32) (w6 : Value), k + c = m → rc_alls (rc_gd x b) k = true → (∀ j, j < k → f j = nI (rc_od x j)) → rc_Tc (d + 1) 46 8 [.ref 73, .int (nI m), .int x, .int (nI (rc_bits (rc_od x) k)), .int (rc_rr x k), .int (nI k), w6] [] (rc_up σ 74 f) Q' := by
  have e33 : ∀ f, rc_up σ 74 f 3 3 = nI b := fun f => by rw [rc_up_n _ _ (by decide)]; exact h33
  intro c
  induction c with
  | zero =>
    intro k f w6 hk ha hf
    have : k = m := by omega
    subst this
    exact rc_go 40 (And.intro (fun _ => ⟨Or.inr rfl, h1 ha f hf⟩) (fun c => absurd (nI_le (Nat.le_refl _) (by omega)) c))
  | succ c ih =>
    intro k f w6 hk ha hf
    have hpre : ∀ i, i < k → rc_rg x i = nI (rc_od x i) ∧ rc_od x i < b := fun i hi => rc_gd_e (by omega) (rc_alls_t ha i hi)
    have hbl : rc_bits (rc_od x) k < 2 ^ 5 := rc_bits_lt k (fun j hj => by have := (hpre j hj).2; omega)
    refine rc_go 80 (And.intro (fun c1 => absurd c1 (nI_ge (by omega) (by omega))) (fun _ => And.intro (by decide) (And.intro (by decide) ?_)))
    have fld : rc_rr x k - rc_rr x k / 10 * 10 = rc_rg x k := rfl
    rw [fld]
    refine c_hasGuest (n := b) (e33 f) (by omega) (fun ho => ?_) (fun j hj he => ?_)
    · refine And.intro (fun _ => ⟨Or.inl rfl, h0 (rc_alls_f (k := k) (by omega) ?_) f⟩) (fun z => absurd rfl z)
      unfold rc_gd
      rw [rc_ob_t ho]
      rfl
    · have hod : rc_od x k = j := by unfold rc_od; rw [he, rc_ci (by omega)]
      refine And.intro (fun z => absurd z (by decide)) (fun _ => ?_)
      rw [he]
      have eb := rc_bt6 (rc_bits (rc_od x) k) (by omega) j (by omega)
      refine And.intro (fun c3 => ?_) (fun c3 => ?_)
      · rw [eb] at c3
        have z : ¬ (rc_bits (rc_od x) k).testBit j = true := fun q => c3 (by rw [q]; rfl)
        rw [rc_bits_tb] at z
        have hg : rc_gd x b k = true := by
          unfold rc_gd
          rw [he, rc_ob_f hj (by omega), Bool.not_false, Bool.true_and, rc_dd_i]
          intro i hi q
          rw [(hpre i hi).1, he] at q
          have := (hpre i hi).2
          exact z ⟨i, hi, (nI_eq (by omega) (by omega)).mp q⟩
        have key := ih (k + 1) (upd f k (nI j)) (.int (nI j)) (by omega) (by rw [rc_alls, ha, hg]; rfl) (fun i hi => by
          by_cases z : i = k
          · subst z; rw [pk_us, hod]
          · rw [pk_un z]; exact hf i (by omega))
        rw [← nI_1, rc_bits, hod, ← fa_or, ← rc_shl _ (by omega), rc_rr] at key
        refine And.intro (rc_vi (n := 5) (by omega) (by decide)) ?_
        rw [rc_up_s, rc_uu, rc_ci (by omega)]
        exact key
      · rw [eb] at c3
        have z : (rc_bits (rc_od x) k).testBit j = true := by
          cases hz : (rc_bits (rc_od x) k).testBit j with
          | true => rfl
          | false => rw [hz] at c3; exact absurd c3 (by decide)
        obtain ⟨i, hi, hij⟩ := (rc_bits_tb k).mp z
        refine ⟨Or.inl rfl, h0 (rc_alls_f (k := k) (by omega) ?_) f⟩
        have hdd : rc_dd x k k = false := by
          cases hz : rc_dd x k k with
          | false => rfl
          | true => exact absurd (show rc_rg x i = rc_rg x k by rw [(hpre i hi).1, he, hij]) ((rc_dd_i k).mp hz i hi)
        unfold rc_gd
        rw [hdd, Bool.and_false]
end RRd
