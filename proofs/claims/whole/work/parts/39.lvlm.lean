section RLm
variable {d n : Nat} {σ : rc_M} {P : rc_P} {V : rc_V} {Q : Int32 → rc_M → Prop}
theorem t_aw_21 {n t : Nat} (hM : rc_Mod σ V) (hb0 : 0 < V 12 0) (hb6 : V 12 0 ≤ 6) (hW : ∀ i, i < 6 → rc_WR V i) (hn : n ≤ 3) (ht : t < V 12 0 ^ n) {Q' : Option Value → rc_M → Prop}
    (kt : ∀ σ', rc_fq σ σ' → rc_pk V n t = true → Q' (some (.int (nI n))) σ')
    (k1 : t + 1 < V 12 0 ^ n → ∀ σ' (w2 : Value), rc_fq σ σ' → rc_mrw σ' (V 12 0) n (t + 1) → rc_pk V n t = false → rc_Tc (d + 5) 161 19 [.ref 80, .int (nI n), w2] [] σ' Q')
    (k0 : ¬ t + 1 < V 12 0 ^ n → ∀ σ' (w2 : Value), rc_fq σ σ' → rc_pk V n t = false → rc_Tc (d + 5) 161 2 [.ref 80, .int (nI (n + 1)), w2] [] σ' Q') :
    ∀ (c k : Nat) (σ1 : rc_M), k + c = 27 → rc_fq σ σ1 → rc_mrw σ1 (V 12 0) n t → rc_alls (rc_qk V n (rc_dg (V 12 0) n t)) k = true → rc_Tc (d + 5) 161 21 [.ref 80, .int (nI n), .int (nI k)] [] σ1 Q' := by
  intro c
  induction c with
  | zero =>
    intro k σ1 hk hf hr ha
    have : k = 27 := by omega
    subst this
    exact rc_go 40 (And.intro (fun _ => And.intro (fun z => absurd rfl z) (fun _ => kt σ1 hf ha)) (fun c => absurd (by decide) c))
  | succ c ih =>
    intro k σ1 hk hf hr ha
    have hElt : rc_E V (rc_dg (V 12 0) n t) k n < 27 := rc_E_dlt hb6 (Or.inl hb0) hW (by omega)
    refine rc_go 60 (And.intro (fun c1 => absurd c1 (nI_ge (show k < 27 by omega) (by decide))) (fun _ => ?_))
    refine t_mb (t := t) (s := k) rfl rfl (hM.fq hf) (Or.inl hb0) hb6 hW (by omega) (by omega) hr (fun σ2 hf2 e2 _ => ?_)
    refine And.intro (fun c2 => ?_) (fun c2 => ?_)
    · have z : ¬ rc_E V (rc_dg (V 12 0) n t) k n = k := fun z => c2 (by rw [z])
      have hpf : rc_pk V n t = false := rc_alls_f (k := k) (by omega) (by simp [rc_qk, z])
      refine And.intro (fun _ => ?_) (fun z => absurd z (by intro q; have := (nI_eq (show k < 2 ^ 31 by omega) (by decide)).mp (show nI k = nI 27 from q); omega))
      refine t_nxt rfl (hM.fq (hf.tr hf2)) hb0 hb6 (by omega) ht (hr.fr e2) (fun c σ3 hf3 hr3 => ?_) (fun c σ3 hf3 => ?_)
      · exact And.intro (fun _ => k1 c σ3 _ ((hf.tr hf2).tr hf3) hr3 hpf) (fun z => absurd z (by decide))
      · have key := k0 c σ3 (.int (nI k)) ((hf.tr hf2).tr hf3) hpf
        rw [← nI_1] at key
        exact And.intro (fun z => absurd rfl z) (fun _ => key)
    · have z : rc_E V (rc_dg (V 12 0) n t) k n = k := (nI_eq (by omega) (by omega)).mp c2
      have key := ih (k + 1) σ2 (by omega) (hf.tr hf2) (hr.fr e2) (by rw [rc_alls, ha, rc_qk, z]; simp)
      rw [← nI_1] at key
      exact key
theorem t_aw_19 {n : Nat} (hM : rc_Mod σ V) (hb0 : 0 < V 12 0) (hb6 : V 12 0 ≤ 6) (hW : ∀ i, i < 6 → rc_WR V i) (hn : n ≤ 3) {Q' : Option Value → rc_M → Prop}
    (kt : ∀ σ', rc_fq σ σ' → rc_anyt (rc_pk V n) (V 12 0 ^ n) = true → Q' (some (.int (nI n))) σ')
    (k0 : ∀ σ' (w2 : Value), rc_fq σ σ' → rc_anyt (rc_pk V n) (V 12 0 ^ n) = false → rc_Tc (d + 5) 161 2 [.ref 80, .int (nI (n + 1)), w2] [] σ' Q') :
    ∀ (c t : Nat) (σ1 : rc_M) (w2 : Value), t + c + 1 = V 12 0 ^ n → rc_fq σ σ1 → rc_mrw σ1 (V 12 0) n t → rc_anyt (rc_pk V n) t = false → rc_Tc (d + 5) 161 19 [.ref 80, .int (nI n), w2] [] σ1 Q' := by
  intro c
  induction c with
  | zero =>
    intro t σ1 w2 ht hf hr ha
    refine rc_go 10 (t_aw_21 (t := t) (hM.fq hf) hb0 hb6 hW hn (by omega) (fun σ2 hf2 hp => kt σ2 (hf.tr hf2) (rc_anyt_t (by omega) hp)) (fun c _ _ _ _ _ => absurd c (by omega)) (fun _ σ2 w2 hf2 hp => ?_) 27 0 σ1 (by omega) rc_fq.rf hr rfl)
    exact k0 σ2 w2 (hf.tr hf2) (by rw [show V 12 0 ^ n = t + 1 by omega, rc_anyt, ha, hp]; rfl)
  | succ c ih =>
    intro t σ1 w2 ht hf hr ha
    refine rc_go 10 (t_aw_21 (t := t) (hM.fq hf) hb0 hb6 hW hn (by omega) (fun σ2 hf2 hp => kt σ2 (hf.tr hf2) (rc_anyt_t (by omega) hp)) (fun _ σ2 w2 hf2 hr2 hp => ?_) (fun c _ _ _ _ => absurd (by omega) c) 27 0 σ1 (by omega) rc_fq.rf hr rfl)
    exact ih (t + 1) σ2 w2 (by omega) (hf.tr hf2) hr2 (by rw [rc_anyt, ha, hp]; rfl)
theorem t_aw_2 (hM : rc_Mod σ V) (hb6 : V 12 0 ≤ 6) (hW : ∀ i, i < 6 → rc_WR V i) {Q' : Option Value → rc_M → Prop} : ∀ (c n : Nat) (σ1 : rc_M) (w2 : Value), n + c = 4 → 1 ≤ n → rc_fq σ σ1 → (∀ σ', rc_fq σ σ' → Q' (some (.int (rc_lev (rc_pk V) (V 12 0) c n))) σ') → rc_Tc (d + 5) 161 2 [.ref 80, .int (nI n), w2] [] σ1 Q' := by
  intro c
  induction c with
  | zero =>
    intro n σ1 w2 hn h1 hf h
    have : n = 4 := by omega
    subst this
    exact rc_go 40 (And.intro (fun _ => h σ1 hf) (fun c => absurd (by decide) c))
  | succ c ih =>
    intro n σ1 w2 hn h1 hf h
    have hM1 := hM.fq hf
    rw [rc_lev] at h
    refine rc_go 40 (And.intro (fun c1 => absurd c1 (nI_ge (show n < 4 by omega) (by decide))) (fun _ => ?_))
    refine And.intro (fun c2 => ?_) (fun c2 => ?_)
    · have hz : V 12 0 = 0 := by
        rw [hM1.1] at c2
        rcases Nat.eq_zero_or_pos (V 12 0) with z | z
        · exact z
        · exact absurd c2 (nI_nle z (by omega))
      have : ∀ (c n : Nat), 1 ≤ n → rc_lev (rc_pk V) 0 c n = -9 := by
        intro c
        induction c with
        | zero => intro n _; rfl
        | succ c ih => intro n hn; rw [rc_lev, Nat.zero_pow (by omega)]; exact ih (n + 1) (by omega)
      rw [hz, Nat.zero_pow (by omega), this c (n + 1) (by omega)] at h
      exact h σ1 hf
    · have hb0 : 0 < V 12 0 := by
        rcases Nat.eq_zero_or_pos (V 12 0) with z | z
        · exact absurd (by rw [hM1.1, z]; decide) c2
        · exact z
      refine t_bg (b := V 12 0) rfl (by omega) (fun σ2 hf2 hr2 => ?_)
      have hpos : 0 < V 12 0 ^ n := Nat.pow_pos hb0
      refine t_aw_19 hM hb0 hb6 hW (by omega) (fun σ3 hf3 ha => ?_) (fun σ3 w2 hf3 ha => ?_) (V 12 0 ^ n - 1) 0 σ2 _ (by omega) (hf.tr hf2) hr2 rfl
      · rw [ha] at h
        exact h σ3 hf3
      · rw [ha] at h
        exact ih (n + 1) σ3 w2 (by omega) (by omega) hf3 h
theorem t_asWent (hI : rc_MP σ P) (hW : rc_WP n P) (h : ∀ σ', rc_fM σ σ' → rc_MP σ' (o_asWent P).2 → Q (o_asWent P).1 σ') : rc_TI (d + 5) 161 [.ref 80] σ Q :=
  rc_go 40 (t_aw_2 hI.1 hW.1.1 hW.1.2.2.2.2.1 3 1 σ _ (by omega) (by omega) rc_fq.rf (fun σ' hf => ⟨_, rfl, h σ' hf.fM (hI.fq hf)⟩))
/-! alike -/
theorem t_al_28 {n t : Nat} (hM : rc_Mod σ V) (hb0 : 0 < V 12 0) (hb6 : V 12 0 ≤ 6) (hW : ∀ i, i < 6 → rc_WR V i) (hn : n ≤ 3) (ht : t < V 12 0 ^ n) {Q' : Option Value → rc_M → Prop}
    (kt : ∀ σ', rc_fq σ σ' → rc_po V n t = true → Q' (some (.int (nI n))) σ')
    (k1 : t + 1 < V 12 0 ^ n → ∀ σ' (w2 w3 : Value), rc_fq σ σ' → rc_mrw σ' (V 12 0) n (t + 1) → rc_po V n t = false → rc_Tc (d + 5) 162 19 [.ref 80, .int (nI n), w2, w3] [] σ' Q')
    (k0 : ¬ t + 1 < V 12 0 ^ n → ∀ σ' (w2 w3 : Value), rc_fq σ σ' → rc_po V n t = false → rc_Tc (d + 5) 162 2 [.ref 80, .int (nI (n + 1)), w2, w3] [] σ' Q') :
    ∀ (c k : Nat) (σ1 : rc_M), k + c = 27 → rc_fq σ σ1 → rc_mrw σ1 (V 12 0) n t → rc_alls (rc_qo V n (rc_dg (V 12 0) n t)) k = true → rc_Tc (d + 5) 162 28 [.ref 80, .int (nI n), .int (nI (rc_E V (rc_dg (V 12 0) n t) 0 n)), .int (nI k)] [] σ1 Q' := by
  have hE0 : rc_E V (rc_dg (V 12 0) n t) 0 n < 27 := rc_E_dlt hb6 (Or.inl hb0) hW (by omega)
  intro c
  induction c with
  | zero =>
    intro k σ1 hk hf hr ha
    have : k = 27 := by omega
    subst this
    exact rc_go 40 (And.intro (fun _ => And.intro (fun z => absurd rfl z) (fun _ => kt σ1 hf ha)) (fun c => absurd (by decide) c))
  | succ c ih =>
    intro k σ1 hk hf hr ha
    have hElt : rc_E V (rc_dg (V 12 0) n t) k n < 27 := rc_E_dlt hb6 (Or.inl hb0) hW (by omega)
    refine rc_go 60 (And.intro (fun c1 => absurd c1 (nI_ge (show k < 27 by omega) (by decide))) (fun _ => ?_))
    refine t_mb (t := t) (s := k) rfl rfl (hM.fq hf) (Or.inl hb0) hb6 hW (by omega) (by omega) hr (fun σ2 hf2 e2 _ => ?_)
    refine And.intro (fun c2 => ?_) (fun c2 => ?_)
    · have z : ¬ rc_E V (rc_dg (V 12 0) n t) k n = rc_E V (rc_dg (V 12 0) n t) 0 n := fun z => c2 (by rw [z])
      have hpf : rc_po V n t = false := rc_alls_f (k := k) (by omega) (by simp [rc_qo, z])
      refine And.intro (fun _ => ?_) (fun z => absurd z (by intro q; have := (nI_eq (show k < 2 ^ 31 by omega) (by decide)).mp (show nI k = nI 27 from q); omega))
      refine t_nxt rfl (hM.fq (hf.tr hf2)) hb0 hb6 (by omega) ht (hr.fr e2) (fun c σ3 hf3 hr3 => ?_) (fun c σ3 hf3 => ?_)
      · exact And.intro (fun _ => k1 c σ3 _ _ ((hf.tr hf2).tr hf3) hr3 hpf) (fun z => absurd z (by decide))
      · have key := k0 c σ3 (.int (nI (rc_E V (rc_dg (V 12 0) n t) 0 n))) (.int (nI k)) ((hf.tr hf2).tr hf3) hpf
        rw [← nI_1] at key
        exact And.intro (fun z => absurd rfl z) (fun _ => key)
    · have z : rc_E V (rc_dg (V 12 0) n t) k n = rc_E V (rc_dg (V 12 0) n t) 0 n := (nI_eq (by omega) (by omega)).mp c2
      have key := ih (k + 1) σ2 (by omega) (hf.tr hf2) (hr.fr e2) (by rw [rc_alls, ha, rc_qo, z]; simp)
      rw [← nI_1] at key
      exact key
theorem t_al_19 {n : Nat} (hM : rc_Mod σ V) (hb0 : 0 < V 12 0) (hb6 : V 12 0 ≤ 6) (hW : ∀ i, i < 6 → rc_WR V i) (hn : n ≤ 3) {Q' : Option Value → rc_M → Prop}
    (kt : ∀ σ', rc_fq σ σ' → rc_anyt (rc_po V n) (V 12 0 ^ n) = true → Q' (some (.int (nI n))) σ')
    (k0 : ∀ σ' (w2 w3 : Value), rc_fq σ σ' → rc_anyt (rc_po V n) (V 12 0 ^ n) = false → rc_Tc (d + 5) 162 2 [.ref 80, .int (nI (n + 1)), w2, w3] [] σ' Q') :
    ∀ (c t : Nat) (σ1 : rc_M) (w2 w3 : Value), t + c + 1 = V 12 0 ^ n → rc_fq σ σ1 → rc_mrw σ1 (V 12 0) n t → rc_anyt (rc_po V n) t = false → rc_Tc (d + 5) 162 19 [.ref 80, .int (nI n), w2, w3] [] σ1 Q' := by
  intro c
  induction c with
  | zero =>
    intro t σ1 w2 w3 ht hf hr ha
    refine rc_go 10 (t_mb (t := t) (s := 0) rfl rfl (hM.fq hf) (Or.inl hb0) hb6 hW (by omega) (by omega) hr (fun σa hfa ea _ => ?_))
    refine t_al_28 (t := t) (hM.fq hf) hb0 hb6 hW hn (by omega) (fun σ2 hf2 hp => kt σ2 (hf.tr hf2) (rc_anyt_t (by omega) hp)) (fun c _ _ _ _ _ _ => absurd c (by omega)) (fun _ σ2 w2 w3 hf2 hp => ?_) 26 1 σa (by omega) hfa (hr.fr ea) (by simp [rc_alls, rc_qo])
    exact k0 σ2 w2 w3 (hf.tr hf2) (by rw [show V 12 0 ^ n = t + 1 by omega, rc_anyt, ha, hp]; rfl)
  | succ c ih =>
    intro t σ1 w2 w3 ht hf hr ha
    refine rc_go 10 (t_mb (t := t) (s := 0) rfl rfl (hM.fq hf) (Or.inl hb0) hb6 hW (by omega) (by omega) hr (fun σa hfa ea _ => ?_))
    refine t_al_28 (t := t) (hM.fq hf) hb0 hb6 hW hn (by omega) (fun σ2 hf2 hp => kt σ2 (hf.tr hf2) (rc_anyt_t (by omega) hp)) (fun _ σ2 w2 w3 hf2 hr2 hp => ?_) (fun c _ _ _ _ _ => absurd (by omega) c) 26 1 σa (by omega) hfa (hr.fr ea) (by simp [rc_alls, rc_qo])
    exact ih (t + 1) σ2 w2 w3 (by omega) (hf.tr hf2) hr2 (by rw [rc_anyt, ha, hp]; rfl)
theorem t_al_2 (hM : rc_Mod σ V) (hb6 : V 12 0 ≤ 6) (hW : ∀ i, i < 6 → rc_WR V i) {Q' : Option Value → rc_M → Prop} : ∀ (c n : Nat) (σ1 : rc_M) (w2 w3 : Value), n + c = 4 → 1 ≤ n → rc_fq σ σ1 → (∀ σ', rc_fq σ σ' → Q' (some (.int (rc_lev (rc_po V) (V 12 0) c n))) σ') → rc_Tc (d + 5) 162 2 [.ref 80, .int (nI n), w2, w3] [] σ1 Q' := by
  intro c
  induction c with
  | zero =>
    intro n σ1 w2 w3 hn h1 hf h
    have : n = 4 := by omega
    subst this
    exact rc_go 40 (And.intro (fun _ => h σ1 hf) (fun c => absurd (by decide) c))
  | succ c ih =>
    intro n σ1 w2 w3 hn h1 hf h
    have hM1 := hM.fq hf
    rw [rc_lev] at h
    refine rc_go 40 (And.intro (fun c1 => absurd c1 (nI_ge (show n < 4 by omega) (by decide))) (fun _ => ?_))
    refine And.intro (fun c2 => ?_) (fun c2 => ?_)
    · have hz : V 12 0 = 0 := by
        rw [hM1.1] at c2
        rcases Nat.eq_zero_or_pos (V 12 0) with z | z
        · exact z
        · exact absurd c2 (nI_nle z (by omega))
      have : ∀ (c n : Nat), 1 ≤ n → rc_lev (rc_po V) 0 c n = -9 := by
        intro c
        induction c with
        | zero => intro n _; rfl
        | succ c ih => intro n hn; rw [rc_lev, Nat.zero_pow (by omega)]; exact ih (n + 1) (by omega)
      rw [hz, Nat.zero_pow (by omega), this c (n + 1) (by omega)] at h
      exact h σ1 hf
    · have hb0 : 0 < V 12 0 := by
        rcases Nat.eq_zero_or_pos (V 12 0) with z | z
        · exact absurd (by rw [hM1.1, z]; decide) c2
        · exact z
      refine t_bg (b := V 12 0) rfl (by omega) (fun σ2 hf2 hr2 => ?_)
      have hpos : 0 < V 12 0 ^ n := Nat.pow_pos hb0
      refine t_al_19 hM hb0 hb6 hW (by omega) (fun σ3 hf3 ha => ?_) (fun σ3 w2 w3 hf3 ha => ?_) (V 12 0 ^ n - 1) 0 σ2 _ _ (by omega) (hf.tr hf2) hr2 rfl
      · rw [ha] at h
        exact h σ3 hf3
      · rw [ha] at h
        exact ih (n + 1) σ3 w2 w3 (by omega) (by omega) hf3 h
theorem t_alike (hI : rc_MP σ P) (hW : rc_WP n P) (h : ∀ σ', rc_fM σ σ' → rc_MP σ' (o_alike P).2 → Q (o_alike P).1 σ') : rc_TI (d + 5) 162 [.ref 80] σ Q :=
  rc_go 40 (t_al_2 hI.1 hW.1.1 hW.1.2.2.2.2.1 3 1 σ _ _ (by omega) (by omega) rc_fq.rf (fun σ' hf => ⟨_, rfl, h σ' hf.fM (hI.fq hf)⟩))
end RLm
