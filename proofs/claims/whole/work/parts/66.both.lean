section RBo
variable {d n : Nat} {σ : rc_M} {P : rc_P} {V : rc_V} {Q : Int32 → rc_M → Prop}
def rc_swr (sw : Nat) (r : Nat → Nat) (i : Nat) : Nat := if sw = 0 then r i else if i % 2 = 0 then r (i + 1) else r (i - 1)
theorem rc_swr_2 {sw i : Nat} {r : Nat → Nat} : rc_swr sw (rc_swr sw r) i = r i := by
  unfold rc_swr
  by_cases z : sw = 0
  · simp [z]
  · by_cases y : i % 2 = 0
    · simp only [if_neg z, if_pos y, if_neg (show ¬ (i + 1) % 2 = 0 by omega)]
      congr 1
    · simp only [if_neg z, if_neg y, if_pos (show (i - 1) % 2 = 0 by omega)]
      congr 1; omega
theorem rc_swr_lt {sw m b : Nat} {r : Nat → Nat} (h : ∀ i, i < 2 * m → r i < b) : ∀ i, i < 2 * m → rc_swr sw r i < b := by
  intro i hi
  unfold rc_swr
  split
  · exact h i hi
  · split
    · exact h _ (by omega)
    · exact h _ (by omega)
theorem rc_swr_cg {sw m : Nat} {r r' : Nat → Nat} (h : ∀ i, i < 2 * m → r i = r' i) : ∀ i, i < 2 * m → rc_swr sw r i = rc_swr sw r' i := by
  intro i hi
  unfold rc_swr
  rw [h i hi]
  by_cases y : i % 2 = 0
  · rw [if_pos y, if_pos y, h (i + 1) (by omega)]
  · rw [if_neg y, if_neg y, h (i - 1) (by omega)]
theorem rc_dg_on {b : Nat} (hb : 0 < b) : ∀ (m : Nat) (r : Nat → Nat), (∀ i, i < m → r i < b) → ∃ t, t < b ^ m ∧ ∀ i, i < m → rc_dg b m t i = r i := by
  intro m
  induction m with
  | zero => intro r _; exact ⟨0, by simp, fun i hi => absurd hi (by omega)⟩
  | succ m ih =>
    intro r h
    obtain ⟨t, h1, h2⟩ := ih r (fun i hi => h i (by omega))
    have hm := h m (by omega)
    refine ⟨t * b + r m, ?_, fun i hi => ?_⟩
    · rw [Nat.pow_succ]
      calc t * b + r m < t * b + b := by omega
        _ = (t + 1) * b := by rw [Nat.add_mul, Nat.one_mul]
        _ ≤ b ^ m * b := Nat.mul_le_mul_right _ h1
    · by_cases e : i = m
      · subst e
        rw [rc_dg_l, Nat.mul_comm, Nat.mul_add_mod, Nat.mod_eq_of_lt hm]
      · rw [rc_dg_s (by omega), Nat.mul_comm, Nat.mul_add_div hb, Nat.div_eq_of_lt hm, Nat.add_zero]
        exact h2 i (by omega)
def rc_pS (V : rc_V) (g h sw n t : Nat) : Bool := rc_gd2 V g h n (rc_swr sw (rc_dg (V 12 0) (2 * n) t))
theorem rc_anyt_ex {p : Nat → Bool} : ∀ {m : Nat}, rc_anyt p m = true → ∃ k, k < m ∧ p k = true := by
  intro m
  induction m with
  | zero => intro h; rw [rc_anyt] at h; exact absurd h (by decide)
  | succ m ih =>
    intro h
    rw [rc_anyt, Bool.or_eq_true] at h
    rcases h with h | h
    · obtain ⟨k, h1, h2⟩ := ih h; exact ⟨k, by omega, h2⟩
    · exact ⟨m, by omega, h⟩
theorem rc_any_sw {g h sw n' : Nat} (hb : 0 < V 12 0) : rc_anyt (rc_pS V g h sw n') (V 12 0 ^ (2 * n')) = rc_anyt (rc_pB V g h n') (V 12 0 ^ (2 * n')) := by
  have hd : ∀ t i, i < 2 * n' → rc_dg (V 12 0) (2 * n') t i < V 12 0 := fun t i _ => rc_dg_lt hb
  cases h1 : rc_anyt (rc_pS V g h sw n') (V 12 0 ^ (2 * n')) with
  | true =>
    obtain ⟨t, ht, hp⟩ := rc_anyt_ex h1
    obtain ⟨u, hu, e⟩ := rc_dg_on hb (2 * n') (rc_swr sw (rc_dg (V 12 0) (2 * n') t)) (rc_swr_lt (hd t))
    exact (rc_anyt_t hu (by
      unfold rc_pB
      rw [rc_gd2_cg e]
      exact hp)).symm
  | false =>
    cases h2 : rc_anyt (rc_pB V g h n') (V 12 0 ^ (2 * n')) with
    | false => rfl
    | true =>
      obtain ⟨t, ht, hp⟩ := rc_anyt_ex h2
      obtain ⟨u, hu, e⟩ := rc_dg_on hb (2 * n') (rc_swr sw (rc_dg (V 12 0) (2 * n') t)) (rc_swr_lt (hd t))
      have := rc_anyt_t (p := rc_pS V g h sw n') hu (by
        unfold rc_pS
        rw [rc_gd2_cg (row' := rc_dg (V 12 0) (2 * n') t) (fun i hi => by rw [rc_swr_cg e i hi, rc_swr_2])]
        exact hp)
      rw [this] at h1
      exact absurd h1 (by decide)
theorem rc_swr_row {sw b n' t k : Nat} (hs : sw < 2) (hr : rc_mrw σ b (2 * n') t) (hk : k < n') : σ 102 (2 * k) = nI (rc_swr sw (rc_dg b (2 * n') t) (2 * k + sw)) ∧ σ 102 (2 * k + 1) = nI (rc_swr sw (rc_dg b (2 * n') t) (2 * k + 1 - sw)) := by
  rw [hr (2 * k) (by omega), hr (2 * k + 1) (by omega)]
  unfold rc_swr
  have : sw = 0 ∨ sw = 1 := by omega
  rcases this with rfl | rfl
  · exact ⟨rfl, rfl⟩
  · rw [if_neg (by decide), if_neg (show ¬ (2 * k + 1) % 2 = 0 by omega), if_neg (by decide), show 2 * k + 1 - 1 = 2 * k by omega, if_pos (show 2 * k % 2 = 0 by omega)]
    exact ⟨rfl, rfl⟩
theorem t_bo_60 {o1 o2 g h sw n' : Nat} {σ0 : rc_M} (hM : rc_Mod σ0 V) (hW : rc_WF n V) (hb0 : 0 < V 12 0) (hn : n' ≤ 2) (hgh : g < h) (hh : h < V 12 1) (ho : rc_ord sw o1 o2 g h) {Q' : Option Value → rc_M → Prop} (h1 : ∀ σ', rc_fq σ0 σ' → rc_anyt (rc_pB V g h n') (V 12 0 ^ (2 * n')) = true → Q' (some (.int (nI n'))) σ') (h0 : ∀ σ', rc_fq σ0 σ' → rc_anyt (rc_pB V g h n') (V 12 0 ^ (2 * n')) = false → rc_Tc (d + 5) 160 41 [.ref 80, .int (nI o1), .int (nI o2), .int (nI (n' + 1))] [] σ' Q') : ∀ (c t : Nat) (σ : rc_M), t + 1 + c = V 12 0 ^ (2 * n') → rc_fq σ0 σ → rc_mrw σ (V 12 0) (2 * n') t → (∀ u, u < t → rc_pS V g h sw n' u = false) → rc_Tc (d + 5) 160 60 [.ref 80, .int (nI o1), .int (nI o2), .int (nI n')] [] σ Q' := by
  have hb6 := hW.1
  have hsw : sw < 2 := by unfold rc_ord at ho; omega
  intro c
  induction c with
  | zero =>
    intro t σ ht hf hr hu
    have hM1 := hM.fq hf
    refine rc_go 60 (t_areBoth (V := V) (row := rc_swr sw (rc_dg (V 12 0) (2 * n') t)) rfl rfl rfl hM1 hW hn hgh hh ho (fun k hk => rc_swr_row hsw hr hk) (rc_swr_lt (fun i _ => rc_dg_lt hb0)) (fun f => And.intro (fun c => ?_) (fun c => ?_)))
    · have z : rc_pS V g h sw n' t = false := rc_bI_0.mp c
      have hf1 : rc_fq σ0 (rc_up σ 103 f) := hf.tr (rc_fq.up (by omega))
      refine t_nxt (V := V) (n := 2 * n') (t := t) (rc_2x n') (hM.fq hf1) hb0 hb6 (by omega) (by omega) (hr.fr (rc_up_n _ _ (by decide))) (fun z => absurd z (by omega)) (fun _ σ' hf2 => And.intro (fun y => absurd rfl y) (fun _ => ?_))
      have key := h0 σ' (hf1.tr hf2) (by
        rw [← rc_any_sw (sw := sw) hb0]
        refine rc_anyt_f (fun k hk => ?_)
        by_cases e : k = t
        · subst e; exact z
        · exact hu k (by omega))
      rw [← nI_1] at key
      exact key
    · have z : rc_pS V g h sw n' t = true := rc_bool_t c
      exact h1 _ (hf.tr (rc_fq.up (by omega))) (by rw [← rc_any_sw (sw := sw) hb0]; exact rc_anyt_t (by omega) z)
  | succ c ih =>
    intro t σ ht hf hr hu
    have hM1 := hM.fq hf
    refine rc_go 60 (t_areBoth (V := V) (row := rc_swr sw (rc_dg (V 12 0) (2 * n') t)) rfl rfl rfl hM1 hW hn hgh hh ho (fun k hk => rc_swr_row hsw hr hk) (rc_swr_lt (fun i _ => rc_dg_lt hb0)) (fun f => And.intro (fun c => ?_) (fun c => ?_)))
    · have z : rc_pS V g h sw n' t = false := rc_bI_0.mp c
      have hf1 : rc_fq σ0 (rc_up σ 103 f) := hf.tr (rc_fq.up (by omega))
      refine t_nxt (V := V) (n := 2 * n') (t := t) (rc_2x n') (hM.fq hf1) hb0 hb6 (by omega) (by omega) (hr.fr (rc_up_n _ _ (by decide))) (fun _ σ' hf2 hr2 => And.intro (fun _ => ?_) (fun y => absurd y (by decide))) (fun z => absurd (show t + 1 < V 12 0 ^ (2 * n') by omega) z)
      exact ih (t + 1) σ' (by omega) (hf1.tr hf2) hr2 (fun u hu' => by
        by_cases e : u = t
        · subst e; exact z
        · exact hu u (by omega))
    · have z : rc_pS V g h sw n' t = true := rc_bool_t c
      exact h1 _ (hf.tr (rc_fq.up (by omega))) (by rw [← rc_any_sw (sw := sw) hb0]; exact rc_anyt_t (by omega) z)
theorem rc_lv2_0 {p : Nat → Nat → Bool} : ∀ c n, 0 < n → rc_lv2 p 0 c n = -9 := by
  intro c
  induction c with
  | zero => intro n _; rfl
  | succ c ih => intro n hn; rw [rc_lv2, Nat.zero_pow (by omega), rc_anyt, if_neg (by decide)]; exact ih (n + 1) (by omega)
theorem t_bo_41 {o1 o2 g h sw : Nat} {σ0 : rc_M} (hM : rc_Mod σ0 V) (hW : rc_WF n V) (hgh : g < h) (hh : h < V 12 1) (ho : rc_ord sw o1 o2 g h) {Q' : Option Value → rc_M → Prop} (hQ : ∀ σ', rc_fq σ0 σ' → Q' (some (.int (rc_bo V g h))) σ') : ∀ (c n' : Nat) (σ : rc_M), n' + c = 3 → 0 < n' → rc_fq σ0 σ → rc_bo V g h = rc_lv2 (rc_pB V g h) (V 12 0) c n' → rc_Tc (d + 5) 160 41 [.ref 80, .int (nI o1), .int (nI o2), .int (nI n')] [] σ Q' := by
  have hb6 := hW.1
  intro c
  induction c with
  | zero =>
    intro n' σ hn h0 hf e
    have : n' = 3 := by omega
    subst this
    have q := hQ σ hf
    rw [e] at q
    exact rc_go 40 (And.intro (fun _ => q) (fun c => absurd (by decide) c))
  | succ c ih =>
    intro n' σ hn h0 hf e
    have hM1 := hM.fq hf
    have e1 : σ 80 1 = nI (V 12 0) := hM1.1
    refine rc_go 60 (And.intro (fun c1 => absurd c1 (nI_ge (show n' < 3 by omega) (by decide))) (fun _ => And.intro (fun c2 => ?_) (fun c2 => ?_)))
    · have z : V 12 0 = 0 := by
        rcases Nat.eq_zero_or_pos (V 12 0) with z | z
        · exact z
        · rw [e1] at c2; exact absurd c2 (nI_nle z (by omega))
      have q := hQ σ hf
      rw [e, z, rc_lv2_0 _ _ h0] at q
      exact q
    · have hb0 : 0 < V 12 0 := by
        rcases Nat.eq_zero_or_pos (V 12 0) with z | z
        · rw [e1, z] at c2; exact absurd (by decide) c2
        · exact z
      rw [rc_lv2] at e
      have hp : 0 < V 12 0 ^ (2 * n') := Nat.pow_pos hb0
      refine t_bg (b := V 12 0) (n := 2 * n') (rc_2x n') (by omega) (fun σ' hf' hr' => ?_)
      refine t_bo_60 (σ0 := σ0) (V := V) hM hW hb0 (by omega) hgh hh ho (fun σ2 hf2 hz => ?_) (fun σ2 hf2 hz => ?_) (V 12 0 ^ (2 * n') - 1) 0 σ' (by omega) (hf.tr hf') hr' (fun u hu => absurd hu (by omega))
      · have q := hQ σ2 hf2
        rw [e, if_pos hz] at q
        exact q
      · exact ih (n' + 1) σ2 (by omega) (by omega) hf2 (by rw [e, hz, if_neg (by decide)])
theorem t_both {x y : Int32} (hI : rc_MP σ P) (hW : rc_WP n P) (h : ∀ σ', rc_fM σ σ' → rc_MP σ' (o_both P x y).2 → Q (o_both P x y).1 σ') : rc_TI (d + 5) 160 [.ref 80, .int x, .int y] σ Q := by
  have h5 : pV P 12 1 ≤ 6 := Nat.le_trans hW.1.2.1 (by decide)
  have h5' := hW.1.2.1
  refine rc_go 60 (t_isNoGuest hI.1.2.1 h5 (fun ho => ?_) (fun i hi hx => ?_))
  · refine And.intro (fun _ => ?_) (fun z => absurd z (by decide))
    exact t_ref (w := 1) (by decide) (by decide) hI (by simp only [o_both, rc_ob_t ho, cond_true]) (fun σ' a b => ⟨_, rfl, h σ' a b⟩)
  · refine And.intro (fun z => absurd rfl z) (fun _ => ?_)
    have ox : rc_ob x (pV P 12 1) = false := by rw [hx]; exact rc_ob_f hi (by omega)
    refine t_isNoGuest hI.1.2.1 h5 (fun ho => ?_) (fun j hj hy => ?_)
    · refine And.intro (fun _ => ?_) (fun z => absurd z (by decide))
      exact t_ref (w := 1) (by decide) (by decide) hI (by simp only [o_both, ox, rc_ob_t ho, cond_true, cond_false]) (fun σ' a b => ⟨_, rfl, h σ' a b⟩)
    · refine And.intro (fun z => absurd rfl z) (fun _ => ?_)
      have oy : rc_ob y (pV P 12 1) = false := by rw [hy]; exact rc_ob_f hj (by omega)
      refine And.intro (fun c => ?_) (fun c => ?_)
      · have eo : o_both P x y = (rc_bo (pV P) (min i j) (max i j), P) := by
          simp only [o_both, ox, oy, cond_false, if_neg c]
          rw [hx, hy, rc_ci (by omega), rc_ci (by omega)]
        rw [eo] at h
        have hne : i ≠ j := fun z => c (by rw [hx, hy, z])
        have hgh : min i j < max i j := by omega
        have hh : max i j < pV P 12 1 := by omega
        have ho : rc_ord (if i < j then 0 else 1) i j (min i j) (max i j) := by
          unfold rc_ord
          by_cases z : i < j
          · rw [if_pos z]; left; omega
          · rw [if_neg z]; right; omega
        subst hx; subst hy
        have hQ : ∀ σ', rc_fq σ σ' → ∃ x, some (Value.int (rc_bo (pV P) (min i j) (max i j))) = some (.int x) ∧ Q x σ' := fun σ' hf => ⟨_, rfl, h σ' hf.fM (hI.fq hf)⟩
        refine t_areBoth (V := pV P) (n' := 0) (row := rc_dg (pV P 12 0) (2 * 0) 0) rfl rfl rfl hI.1 hW.1 (by decide) hgh hh ho (fun k hk => absurd hk (by omega)) (fun k hk => absurd hk (by omega)) (fun f => And.intro (fun c2 => ?_) (fun c2 => ?_))
        · have z : rc_pB (pV P) (min i j) (max i j) 0 0 = false := rc_bI_0.mp c2
          have e : rc_bo (pV P) (min i j) (max i j) = rc_lv2 (rc_pB (pV P) (min i j) (max i j)) (pV P 12 0) 2 1 := by
            unfold rc_bo
            rw [rc_lv2, Nat.mul_zero, Nat.pow_zero, rc_anyt, rc_anyt, z, if_neg (by decide)]
          exact t_bo_41 (V := pV P) hI.1 hW.1 hgh hh ho hQ 2 1 _ rfl (by decide) (rc_fq.up (by omega)) e
        · have z : rc_pB (pV P) (min i j) (max i j) 0 0 = true := rc_bool_t c2
          have e : rc_bo (pV P) (min i j) (max i j) = nI 0 := by
            unfold rc_bo
            rw [rc_lv2, Nat.mul_zero, Nat.pow_zero, rc_anyt, rc_anyt, z, if_pos (by decide)]
          have q := hQ (rc_up σ 103 f) (rc_fq.up (by omega))
          rw [e] at q
          exact q
      · exact t_ref (w := 1) (by decide) (by decide) hI (by simp only [o_both, ox, oy, cond_false, if_pos c]) (fun σ' a b => ⟨_, rfl, h σ' a b⟩)
end RBo
