section RIq
variable {d n L : Nat} {t : Nat → Nat} {σ : rc_M} {P : rc_P} {V : rc_V} {Q : Int32 → rc_M → Prop}
/-! the statements one behind the other -/
def ri_S (t : Nat → Nat) (L : Nat) : Nat → Nat
  | 0 => 0
  | i + 1 => (ri_st t L (ri_S t L i)).1
def ri_p (t : Nat → Nat) (L i : Nat) : Bool := (decide (L ≤ ri_S t L i) && decide (0 < i)) || !(ri_st t L (ri_S t L i)).2
def ri_m (t : Nat → Nat) (L : Nat) : Nat := rc_ff (ri_p t L) 9
def ri_B (t : Nat → Nat) (L : Nat) : Bool := decide (L ≤ ri_S t L (ri_m t L)) && decide (0 < ri_m t L)
theorem ri_st_t {s : Nat} (h : (ri_st t L s).2 = true) : s < L ∧ s + 8 ≤ (ri_st t L s).1 ∧ (ri_st t L s).1 ≤ L ∧ (ri_lr t L 114 s || ri_lr t L 103 s) = true ∧ (ri_lr t L 114 s = true → ri_kok t L (s + 1) = true) ∧ (∀ i, i < 6 → ri_isd t L (ri_fd t L s + i) = true) ∧ (ri_st t L s).1 = ri_en t L s + 1 ∧ ri_lr t L 59 (ri_en t L s) = true := by
  have hg : (ri_lr t L 114 s || ri_lr t L 103 s) = true := by
    cases hz : (ri_lr t L 114 s || ri_lr t L 103 s) with
    | true => rfl
    | false => unfold ri_st at h; rw [hz, if_neg (by decide)] at h; exact absurd (show false = true from h) (by decide)
  have hk : (ri_lr t L 114 s && !ri_kok t L (s + 1)) = false := by
    cases hz : (ri_lr t L 114 s && !ri_kok t L (s + 1)) with
    | false => rfl
    | true => unfold ri_st at h; rw [if_pos hg, hz, if_pos rfl] at h; exact absurd (show false = true from h) (by decide)
  have e := ri_st_k hg hk
  have hb := ri_fd_b (t := t) (L := L) (s := s)
  have hb2 := ri_en_b (t := t) (L := L) (s := s)
  have hd : ri_dk t L s = 6 := by
    obtain ⟨a, _, _⟩ := rc_ff_f (p := fun k => !ri_isd t L (ri_fd t L s + k)) 6
    by_cases z : ri_dk t L s < 6
    · rw [e, if_pos z] at h; exact absurd (show false = true from h) (by decide)
    · have a : ri_dk t L s ≤ 6 := a
      omega
  have hs : ri_lr t L 59 (ri_en t L s) = true := by
    cases hz : ri_lr t L 59 (ri_en t L s) with
    | true => rfl
    | false => rw [e, hd, if_neg (by decide), hz, if_neg (by decide)] at h; exact absurd (show false = true from h) (by decide)
  have e1 : ri_st t L s = (ri_en t L s + 1, true) := by rw [e, hd, if_neg (by decide), hs, if_pos rfl]
  have hlt : ri_en t L s < L := by unfold ri_lr at hs; rw [Bool.and_eq_true] at hs; exact of_decide_eq_true hs.1
  refine ⟨by omega, by rw [e1]; show _ ≤ ri_en t L s + 1; omega, by rw [e1]; show ri_en t L s + 1 ≤ L; omega, hg, fun hr => ?_, fun i hi => ?_, by rw [e1], hs⟩
  · rw [hr, Bool.true_and] at hk
    cases hz : ri_kok t L (s + 1) with
    | true => rfl
    | false => rw [hz] at hk; exact absurd hk (by decide)
  · obtain ⟨_, _, c⟩ := rc_ff_f (p := fun k => !ri_isd t L (ri_fd t L s + k)) 6
    have hd' : rc_ff (fun k => !ri_isd t L (ri_fd t L s + k)) 6 = 6 := hd
    rw [hd'] at c
    have := c i hi
    cases hz : ri_isd t L (ri_fd t L s + i) with
    | true => rfl
    | false => rw [hz] at this; exact absurd this (by decide)
theorem ri_p_f {i : Nat} (h : ri_p t L i = false) : (ri_st t L (ri_S t L i)).2 = true := by
  unfold ri_p at h
  cases hz : (ri_st t L (ri_S t L i)).2 with
  | true => rfl
  | false => rw [hz, Bool.not_false, Bool.or_true] at h; exact absurd h (by decide)
theorem ri_S_b {k : Nat} (h : ∀ j, j < k → ri_p t L j = false) : ∀ i, i ≤ k → 8 * i ≤ ri_S t L i ∧ ri_S t L i ≤ L := by
  intro i
  induction i with
  | zero => intro _; exact ⟨Nat.zero_le _, Nat.zero_le _⟩
  | succ i ih =>
    intro hi
    have := ih (by omega)
    have h2 := ri_st_t (ri_p_f (h i (by omega)))
    rw [ri_S]
    exact ⟨by omega, h2.2.2.1⟩
theorem ri_mf (hT : ri_T t L) : ri_m t L ≤ 8 ∧ ri_p t L (ri_m t L) = true ∧ (∀ j, j < ri_m t L → (ri_st t L (ri_S t L j)).2 = true) ∧ ∀ i, i ≤ ri_m t L → 8 * i ≤ ri_S t L i ∧ ri_S t L i ≤ L := by
  obtain ⟨a, b, c⟩ := rc_ff_f (p := ri_p t L) 9
  have hL := hT.1
  have h8 : rc_ff (ri_p t L) 9 < 9 := by
    by_cases z : rc_ff (ri_p t L) 9 < 9
    · exact z
    · have e : rc_ff (ri_p t L) 9 = 9 := by omega
      rw [e] at c
      have := ri_S_b c 9 (by omega)
      omega
  unfold ri_m
  exact ⟨by omega, b h8, fun j hj => ri_p_f (c j hj), ri_S_b c⟩
def ri_f (σ σ' : rc_M) : Prop := (∀ k, k ≠ 59 → k ≠ 61 → σ' k = σ k) ∧ ∀ j, j ≠ 3 → σ' 59 j = σ 59 j
theorem ri_f.C {σ' : rc_M} (h : ri_f σ σ') (hC : ri_C σ t L) : ri_C σ' t L := hC.fr (h.2 1 (by decide)) (h.1 60 (by decide) (by decide))
def ri_Sm (σ : rc_M) (t : Nat → Nat) (L m : Nat) : Prop := σ 59 3 = nI m ∧ ∀ j, j < m → σ 61 j = nI (ri_S t L j)
def ri_w (t : Nat → Nat) (L : Nat) : Int32 := cond (ri_B t L) (-9) (nI (ri_st t L (ri_S t L (ri_m t L))).1)
theorem ri_B_f (hT : ri_T t L) (h : ri_B t L = false) : (ri_st t L (ri_S t L (ri_m t L))).2 = false := by
  have := (ri_mf hT).2.1
  unfold ri_p at this
  unfold ri_B at h
  rw [h, Bool.false_or] at this
  cases hz : (ri_st t L (ri_S t L (ri_m t L))).2 with
  | false => rfl
  | true => rw [hz] at this; exact absurd this (by decide)
theorem ri_st_lo {s : Nat} : s ≤ (ri_st t L s).1 ∧ (ri_st t L s).1 ≤ s + 10 := by
  have hb := ri_fd_b (t := t) (L := L) (s := s)
  have hb2 := ri_en_b (t := t) (L := L) (s := s)
  have hd : ri_dk t L s ≤ 6 := (rc_ff_f (p := fun k => !ri_isd t L (ri_fd t L s + k)) 6).1
  unfold ri_st
  split
  · split
    · exact ⟨by show s ≤ s + 1; omega, by show s + 1 ≤ _; omega⟩
    · split
      · exact ⟨by show s ≤ ri_fd t L s + ri_dk t L s; omega, by show ri_fd t L s + ri_dk t L s ≤ _; omega⟩
      · split
        · exact ⟨by show s ≤ ri_en t L s + 1; omega, by show ri_en t L s + 1 ≤ _; omega⟩
        · exact ⟨by show s ≤ ri_en t L s; omega, by show ri_en t L s ≤ _; omega⟩
  · exact ⟨Nat.le_refl _, by show s ≤ s + 10; omega⟩
theorem c_fw_18 (hT : ri_T t L) (hL0 : L ≠ 0) (hC : ri_C σ t L) {Q' : Option Value → rc_M → Prop} (h : ∀ σ', ri_f σ σ' → ri_Sm σ' t L (ri_m t L) → Q' (some (.int (ri_w t L))) σ') : ∀ (c i : Nat) (σ1 : rc_M) (w3 : Value), i + c = ri_m t L → ri_f σ σ1 → ri_Sm σ1 t L i → rc_Tc (d + 4) 31 18 [.ref 59, .int (nI (ri_S t L i)), .int (nI i), w3] [] σ1 Q' := by
  obtain ⟨m1, m2, m3, m4⟩ := ri_mf hT
  have hL := hT.1
  intro c
  induction c with
  | zero =>
    intro i σ1 w3 hi hf hS
    have : i = ri_m t L := by omega
    subst this
    have hC1 := hf.C hC
    have b := m4 _ (Nat.le_refl _)
    have hq := h σ1 hf hS
    unfold ri_w at hq
    refine rc_go 60 (And.intro (fun c => ?_) (fun c => And.intro (fun c2 => ?_) (fun c2 => ?_)))
    · have e8 : ri_m t L = 8 := by
        rcases Nat.lt_or_ge (ri_m t L) 8 with z | z
        · exact absurd c (nI_ge z (by decide))
        · omega
      have hB : ri_B t L = true := by unfold ri_B; rw [decide_eq_true (by omega), decide_eq_true (by omega)]; rfl
      rw [hB] at hq
      exact hq
    · rw [hC1.1] at c2
      have z : L ≤ ri_S t L (ri_m t L) := Nat.le_of_not_lt (fun z => nI_ge z (by omega) c2)
      have hm0 : 0 < ri_m t L := by
        rcases Nat.eq_zero_or_pos (ri_m t L) with y | y
        · rw [y] at z; exact absurd z (by show ¬ L ≤ 0; omega)
        · exact y
      have hB : ri_B t L = true := by unfold ri_B; rw [decide_eq_true z, decide_eq_true hm0]; rfl
      rw [hB] at hq
      exact hq
    · rw [hC1.1] at c2
      have z : ri_S t L (ri_m t L) < L := Nat.lt_of_not_le (fun z => c2 (nI_le z (by omega)))
      have hB : ri_B t L = false := by unfold ri_B; rw [decide_eq_false (by omega)]; rfl
      have hbad := ri_B_f hT hB
      rw [hB] at hq
      have hlo := ri_st_lo (t := t) (L := L) (s := ri_S t L (ri_m t L))
      refine c_wrongIn (s := ri_S t L (ri_m t L)) rfl (by omega) hC1 hT ?_
      have ew : ri_wr (ri_st t L (ri_S t L (ri_m t L))) = nI (ri_st t L (ri_S t L (ri_m t L))).1 := by unfold ri_wr; rw [hbad]; rfl
      rw [ew]
      exact And.intro (fun c3 => absurd c3 (nI_pos (by omega))) (fun _ => hq)
  | succ c ih =>
    intro i σ1 w3 hi hf hS
    have hC1 := hf.C hC
    have hok := m3 i (by omega)
    have hst := ri_st_t hok
    have b := m4 i (by omega)
    have hen := hst.2.2.2.2.2.2.1
    refine rc_go 80 (And.intro (fun c => absurd c (nI_ge (show i < 8 by omega) (by decide))) (fun _ => And.intro (fun c => absurd (by rw [hC1.1] at c; exact c) (nI_ge hst.1 (by omega))) (fun _ => ?_)))
    refine c_wrongIn (s := ri_S t L i) rfl (by omega) hC1 hT ?_
    have ew : ri_wr (ri_st t L (ri_S t L i)) = -9 := by unfold ri_wr; rw [hok]; rfl
    rw [ew]
    refine And.intro (fun _ => ?_) (fun c => absurd (by decide) c)
    refine And.intro (rc_vi (n := 8) (by omega) (by decide)) ?_
    rw [rc_ci (by omega)]
    have e59 : ∀ f, rc_up σ1 61 f 59 = σ1 59 := fun f => rc_up_n _ _ (by decide)
    have hf2 : ri_f σ (rc_up (rc_up σ1 61 (upd (σ1 61) i (nI (ri_S t L i)))) 59 (upd (rc_up σ1 61 (upd (σ1 61) i (nI (ri_S t L i))) 59) 3 (rc_up σ1 61 (upd (σ1 61) i (nI (ri_S t L i))) 59 3 + 1))) := by
      refine ⟨fun k k1 k2 => ?_, fun j hj => ?_⟩
      · rw [rc_up_n _ _ k1, rc_up_n _ _ k2]; exact hf.1 k k1 k2
      · rw [rc_up_s, pk_un hj, e59]; exact hf.2 j hj
    refine c_endOf3 (s := ri_S t L i) rfl (by omega) (hf2.C hC) hT ?_
    have key := ih (i + 1) _ (.int (-9)) (by omega) hf2 ⟨by rw [rc_up_s, pk_us, e59, hS.1, nI_1], fun j hj => by
      rw [rc_up_n _ _ (by decide), rc_up_s]
      by_cases e : j = i
      · subst e; rw [pk_us]
      · rw [pk_un e]; exact hS.2 j (by omega)⟩
    rw [ri_S, hen, ← nI_1, ← nI_1] at key
    exact key
theorem c_firstWrong (hT : ri_T t L) (hC : ri_C σ t L) (h : ∀ σ', ri_f σ σ' → ri_Sm σ' t L (ri_m t L) → Q (ri_w t L) σ') : rc_TI (d + 4) 31 [.ref 59] σ Q := by
  have hf : ri_f σ (rc_up σ 59 (upd (σ 59) 3 0)) := ⟨fun k k1 k2 => rc_up_n _ _ k1, fun j hj => by rw [rc_up_s, pk_un hj]⟩
  have hC1 := hf.C hC
  have hS0 : ri_Sm (rc_up σ 59 (upd (σ 59) 3 0)) t L 0 := ⟨by rw [rc_up_s, pk_us]; rfl, fun j hj => absurd hj (by omega)⟩
  have e1 : rc_up σ 59 (upd (σ 59) 3 0) 59 1 = nI L := hC1.1
  have hL := hT.1
  refine rc_go 60 (And.intro (fun c => ?_) (fun c => ?_))
  · have hL0 : L ≠ 0 := fun z => c (by rw [e1, z]; rfl)
    exact c_fw_18 hT hL0 hC (fun σ' a b => ⟨_, rfl, h σ' a b⟩) (ri_m t L) 0 _ _ (by omega) hf hS0
  · have hL0 : L = 0 := by rw [e1] at c; exact (nI_eq (b := 0) (by omega) (by decide)).mp c
    have hr : ∀ c s, ri_lr t L c s = false := fun c s => by unfold ri_lr; rw [decide_eq_false (by omega)]; rfl
    have hst : ri_st t L (ri_S t L 0) = (0, false) := by
      show ri_st t L 0 = _
      unfold ri_st
      rw [hr, hr, if_neg (by decide)]
    have hm : ri_m t L = 0 := rc_ff_at (by decide) (by unfold ri_p; rw [hst]; simp) (fun j hj => absurd hj (by omega))
    have hw : ri_w t L = 0 := by
      unfold ri_w ri_B
      rw [hm, hst, decide_eq_false (p := 0 < 0) (by decide), Bool.and_false]
      rfl
    have hq := h _ hf (by rw [hm]; exact hS0)
    rw [hw] at hq
    exact ⟨_, rfl, hq⟩
/-! what fits, what comes -/
def ri_isr (t : Nat → Nat) (L i : Nat) : Bool := ri_lr t L 114 (ri_S t L i)
def ri_cr (t : Nat → Nat) (L b : Nat) : Nat → Nat
  | 0 => b
  | i + 1 => ri_cr t L b i + (ri_isr t L i).toNat
def ri_cg (t : Nat → Nat) (L b : Nat) : Nat → Nat
  | 0 => b
  | i + 1 => ri_cg t L b i + (!ri_isr t L i).toNat
def ri_fit (t : Nat → Nat) (L br bg i : Nat) : Bool := cond (ri_isr t L i) (decide (ri_cr t L br i < 6) && ri_rok t (ri_S t L i)) (decide (ri_cg t L bg i < 5) && ri_gok t (ri_S t L i))
def ri_u (t : Nat → Nat) (L br bg : Nat) : Nat := rc_ff (fun i => !ri_fit t L br bg i) (ri_m t L)
theorem ri_cr_b {b : Nat} : ∀ i, ri_cr t L b i ≤ b + i := by
  intro i
  induction i with
  | zero => exact Nat.le_refl _
  | succ i ih => rw [ri_cr]; have := Bool.toNat_le (ri_isr t L i); omega
theorem ri_cg_b {b : Nat} : ∀ i, ri_cg t L b i ≤ b + i := by
  intro i
  induction i with
  | zero => exact Nat.le_refl _
  | succ i ih => rw [ri_cg]; have := Bool.toNat_le (!ri_isr t L i); omega
/-- the digits of a statement that is as it must be -/
theorem ri_dig {i : Nat} (h : (ri_st t L (ri_S t L i)).2 = true) : (ri_isr t L i = true → ∀ k, k < 6 → ri_isd t L (ri_S t L i + 2 + k) = true) ∧ (ri_isr t L i = false → ∀ k, k < 6 → ri_isd t L (ri_S t L i + 1 + k) = true) := by
  have hst := (ri_st_t h).2.2.2.2.2.1
  refine ⟨fun hr k hk => ?_, fun hr k hk => ?_⟩
  · have := hst k hk
    unfold ri_fd at this
    rw [show ri_lr t L 114 (ri_S t L i) = true from hr, if_pos rfl] at this
    exact this
  · have := hst k hk
    unfold ri_fd at this
    rw [show ri_lr t L 114 (ri_S t L i) = false from hr, if_neg (by decide)] at this
    exact this
theorem c_fu_13 {br bg : Nat} (hbr : br ≤ 6) (hbg : bg ≤ 5) (hT : ri_T t L) (hC : ri_C σ t L) (hS : ri_Sm σ t L (ri_m t L)) {Q' : Option Value → rc_M → Prop} (h : Q' (some (.int (if ri_u t L br bg < ri_m t L then nI (ri_S t L (ri_u t L br bg)) else -9))) σ) : ∀ (c i : Nat) (w5 : Value), i + c = ri_m t L → (∀ j, j < i → ri_fit t L br bg j = true) → rc_Tc (d + 4) 35 13 [.ref 59, .ref 3, .int (nI (ri_cr t L br i)), .int (nI (ri_cg t L bg i)), .int (nI i), w5] [] σ Q' := by
  obtain ⟨m1, m2, m3, m4⟩ := ri_mf hT
  have hL := hT.1
  intro c
  induction c with
  | zero =>
    intro i w5 hi hf
    have : i = ri_m t L := by omega
    subst this
    have hu : ri_u t L br bg = ri_m t L := rc_ff_no (fun j hj => by rw [hf j hj]; rfl)
    rw [hu, if_neg (by omega)] at h
    exact rc_go 40 (And.intro (fun _ => h) (fun c => absurd (by rw [hS.1]; exact nI_le (Nat.le_refl _) (by omega)) c))
  | succ c ih =>
    intro i w5 hi hf
    have b := m4 i (by omega)
    have hok := m3 i (by omega)
    obtain ⟨dr, dg⟩ := ri_dig hok
    have br' := ri_cr_b (t := t) (L := L) (b := br) i
    have bg' := ri_cg_b (t := t) (L := L) (b := bg) i
    have e61 := hS.2 i (by omega)
    have k100 : ∀ fb : Bool, fb = ri_fit t L br bg i → rc_Tc (d + 4) 35 100 [.ref 59, .ref 3, .int (nI (ri_cr t L br (i + 1))), .int (nI (ri_cg t L bg (i + 1))), .int (nI i), .int (rc_bI fb)] [] σ Q' := fun fb hfb => by
      refine rc_go 60 (And.intro (fun c => ?_) (fun c => ?_))
      · have key := ih (i + 1) (.int (rc_bI fb)) (by omega) (fun j hj => by
          by_cases e : j = i
          · subst e; rw [← hfb]; exact rc_bool_t c
          · exact hf j (by omega))
        rw [← nI_1] at key
        exact key
      · have z : fb = false := by
          cases fb with
          | false => rfl
          | true => exact absurd c (by decide)
        have hu : ri_u t L br bg = i := rc_ff_at (by omega) (by rw [← hfb, z]; rfl) (fun j hj => by rw [hf j hj]; rfl)
        rw [hu, if_pos (by omega)] at h
        refine And.intro (rc_vi (n := 8) (by omega) (by decide)) ?_
        rw [rc_ci (by omega), e61]
        exact h
    refine rc_go 80 (And.intro (fun c1 => absurd (by rw [hS.1] at c1; exact c1) (nI_ge (by omega) (by omega))) (fun _ => ?_))
    refine And.intro (rc_vi (n := 8) (by omega) (by decide)) ?_
    rw [rc_ci (show i ≤ 2000 by omega), e61]
    refine c_at (s := ri_S t L i) rfl (by omega) hC hT (And.intro (fun c => ?_) (fun c => ?_))
    · have hr : ri_isr t L i = false := ri_lr_t (c := 114) hT (by decide) rfl c
      have e1 : ri_cr t L br (i + 1) = ri_cr t L br i := by rw [ri_cr, hr]; rfl
      have e2 : nI (ri_cg t L bg (i + 1)) = nI (ri_cg t L bg i) + 1 := by rw [ri_cg, hr, nI_1]; rfl
      rw [e1, e2] at k100
      refine And.intro (fun c2 => ?_) (fun c2 => ?_)
      · exact k100 false (by
          unfold ri_fit
          rw [hr, decide_eq_false (p := ri_cg t L bg i < 5) (fun z => absurd c2 (Int32.not_lt.mpr (by rw [nI_1]; exact nI_le (show ri_cg t L bg i + 1 ≤ 5 by omega) (by decide))))]
          rfl)
      · have z : ri_cg t L bg i < 5 := Nat.lt_of_not_le (fun z => c2 (by rw [nI_1]; exact nI_lt (show 5 < ri_cg t L bg i + 1 by omega) (by omega)))
        refine And.intro (rc_vi (n := 8) (by omega) (by decide)) ?_
        rw [rc_ci (show i ≤ 2000 by omega), e61]
        have ef : ri_fit t L br bg i = ri_gok t (ri_S t L i) := by
          unfold ri_fit
          rw [hr, decide_eq_true z]
          rfl
        refine c_isGuest (s := ri_S t L i) rfl hC hT (dg hr) (And.intro (fun c3 => ?_) (fun c3 => ?_))
        · exact k100 false (by rw [ef]; exact (rc_bI_0.mp c3).symm)
        · exact k100 true (by rw [ef]; exact (rc_bool_t c3).symm)
    · have hr : ri_isr t L i = true := (ri_at_eq (c := 114) hT (by decide)).mp c
      have e1 : ri_cg t L bg (i + 1) = ri_cg t L bg i := by rw [ri_cg, hr]; rfl
      have e2 : nI (ri_cr t L br (i + 1)) = nI (ri_cr t L br i) + 1 := by rw [ri_cr, hr, nI_1]; rfl
      rw [e1, e2] at k100
      refine And.intro (fun c2 => ?_) (fun c2 => ?_)
      · exact k100 false (by
          unfold ri_fit
          rw [hr, decide_eq_false (p := ri_cr t L br i < 6) (fun z => absurd c2 (Int32.not_lt.mpr (by rw [nI_1]; exact nI_le (show ri_cr t L br i + 1 ≤ 6 by omega) (by decide))))]
          rfl)
      · have z : ri_cr t L br i < 6 := Nat.lt_of_not_le (fun z => c2 (by rw [nI_1]; exact nI_lt (show 6 < ri_cr t L br i + 1 by omega) (by omega)))
        refine And.intro (rc_vi (n := 8) (by omega) (by decide)) ?_
        rw [rc_ci (show i ≤ 2000 by omega), e61]
        have ef : ri_fit t L br bg i = ri_rok t (ri_S t L i) := by
          unfold ri_fit
          rw [hr, decide_eq_true z]
          rfl
        refine c_isRoom (s := ri_S t L i) rfl hC hT (dr hr) (And.intro (fun c3 => ?_) (fun c3 => ?_))
        · exact k100 false (by rw [ef]; exact (rc_bI_0.mp c3).symm)
        · exact k100 true (by rw [ef]; exact (rc_bool_t c3).symm)
theorem c_firstUnfit {br bg : Nat} (hbr : br ≤ 6) (hbg : bg ≤ 5) (e1 : σ 3 1 = nI br) (e3 : σ 3 3 = nI bg) (hT : ri_T t L) (hC : ri_C σ t L) (hS : ri_Sm σ t L (ri_m t L)) (h : Q (if ri_u t L br bg < ri_m t L then nI (ri_S t L (ri_u t L br bg)) else -9) σ) : rc_TI (d + 4) 35 [.ref 59, .ref 3] σ Q := by
  have key := c_fu_13 (d := d) hbr hbg hT hC hS (Q' := fun v σ => ∃ x, v = some (.int x) ∧ Q x σ) ⟨_, rfl, h⟩ (ri_m t L) 0 .null (by omega) (fun j hj => absurd hj (by omega))
  rw [show ri_cr t L br 0 = br from rfl, show ri_cg t L bg 0 = bg from rfl, ← e1, ← e3] at key
  exact rc_go 40 key
end RIq
