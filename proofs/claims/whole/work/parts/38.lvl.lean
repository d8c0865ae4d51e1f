/-! rows of the model, by numbers -/
section RL
variable {d n : Nat} {σ : rc_M} {P : rc_P} {V : rc_V} {Q : Int32 → rc_M → Prop}
def rc_mrw (σ : rc_M) (b n t : Nat) : Prop := ∀ j, j < n → σ 102 j = nI (rc_dg b n t j)
theorem rc_mrw.fr {σ' : rc_M} {b n t : Nat} (h : rc_mrw σ b n t) (e : σ' 102 = σ 102) : rc_mrw σ' b n t := fun j hj => by rw [e]; exact h j hj
theorem t_bg {x : Int32} {n b : Nat} (hx : x = nI n) (hn : n ≤ 6) {Q : rc_M → Prop} (h : ∀ σ', rc_fq σ σ' → rc_mrw σ' b n 0 → Q σ') : rc_TV d 150 [.ref 80, .int x] σ Q :=
  t_begin hx hn (fun f hf => h _ (rc_fq.up (by omega)) (fun j hj => by rw [rc_up_s, hf j hj, rc_dg_0]; rfl))
theorem t_nxt {x : Int32} {n t : Nat} (hx : x = nI n) (hM : rc_Mod σ V) (hb0 : 0 < V 12 0) (hb6 : V 12 0 ≤ 6) (hn : n ≤ 6) (ht : t < V 12 0 ^ n) (hr : rc_mrw σ (V 12 0) n t)
    (k1 : t + 1 < V 12 0 ^ n → ∀ σ', rc_fq σ σ' → rc_mrw σ' (V 12 0) n (t + 1) → Q 1 σ') (k0 : ¬ t + 1 < V 12 0 ^ n → ∀ σ', rc_fq σ σ' → Q 0 σ') : rc_TI d 151 [.ref 80, .int x] σ Q := by
  obtain ⟨⟨i1, i2⟩, -, -, -⟩ := rc_inc_s hb0 n t (rc_dg (V 12 0) n t) ht (fun _ _ => rfl)
  refine t_isNext hx hn hb6 hM.1 (fun j hj => ⟨hr j hj, by have := rc_dg_lt (n := n) (t := t) (i := j) hb0; omega⟩) (fun f' hf' => ?_)
  by_cases c : t + 1 < V 12 0 ^ n
  · have hne := (i1 c).1
    rw [show rc_bI (decide ((rc_inc (V 12 0) n (rc_dg (V 12 0) n t)).1 ≠ 0)) = 1 by simp [hne, rc_bI]]
    exact k1 c _ (rc_fq.up (by omega)) (fun j hj => by rw [rc_up_s, hf' j hj, (i1 c).2 j hj])
  · have hz := (i2 c).1
    rw [show rc_bI (decide ((rc_inc (V 12 0) n (rc_dg (V 12 0) n t)).1 ≠ 0)) = 0 by simp [hz, rc_bI]]
    exact k0 c _ (rc_fq.up (by omega))
theorem t_mb {x y : Int32} {s n t : Nat} (hx : x = nI s) (hy : y = nI n) (hM : rc_Mod σ V) (hb0 : 0 < V 12 0 ∨ n = 0) (hb6 : V 12 0 ≤ 6) (hW : ∀ i, i < 6 → rc_WR V i) (hs : s < 27) (hn : n ≤ 6) (hr : rc_mrw σ (V 12 0) n t)
    (h : ∀ σ', rc_fq σ σ' → σ' 102 = σ 102 → (∀ k, k ≠ 103 → σ' k = σ k) → Q (nI (rc_E V (rc_dg (V 12 0) n t) s n)) σ') : rc_TI (d + 4) 152 [.ref 80, .int x, .int y] σ Q := by
  have hR : rc_MRw σ V (rc_dg (V 12 0) n t) n := by
    rcases hb0 with hb0 | hb0
    · exact rc_MRw.of rfl hb0 hM hW hb6 hr
    · intro k hk; omega
  exact t_madeBy hx hy hs hn hR (fun f => h _ (rc_fq.up (by omega)) (rc_up_n _ _ (by decide)) (fun k hk => rc_up_n _ _ hk))
theorem rc_E_dlt {s n t : Nat} (hb6 : V 12 0 ≤ 6) (hb0 : 0 < V 12 0 ∨ n = 0) (hW : ∀ i, i < 6 → rc_WR V i) (hs : s < 27) : rc_E V (rc_dg (V 12 0) n t) s n < 27 := by
  rcases hb0 with hb0 | hb0
  · exact rc_E_lt hs n (fun i hi => hW _ (by have := rc_dg_lt (n := n) (t := t) (i := i) hb0; omega))
  · subst hb0; exact hs
/-! whether all are, whether one is -/
def rc_alls (q : Nat → Bool) : Nat → Bool
  | 0 => true
  | k + 1 => rc_alls q k && q k
def rc_anyt (p : Nat → Bool) : Nat → Bool
  | 0 => false
  | t + 1 => rc_anyt p t || p t
theorem rc_alls_f {q : Nat → Bool} {k m : Nat} (hk : k < m) (hq : q k = false) : rc_alls q m = false := by
  induction m with
  | zero => omega
  | succ m ih =>
    rw [rc_alls]
    by_cases z : k = m
    · subst z; simp [hq]
    · rw [ih (by omega)]; rfl
theorem rc_anyt_t {p : Nat → Bool} {k m : Nat} (hk : k < m) (hq : p k = true) : rc_anyt p m = true := by
  induction m with
  | zero => omega
  | succ m ih =>
    rw [rc_anyt]
    by_cases z : k = m
    · subst z; simp [hq]
    · rw [ih (by omega)]; rfl
def rc_qk (V : rc_V) (n : Nat) (row : Nat → Nat) (s : Nat) : Bool := decide (rc_E V row s n = s)
def rc_qo (V : rc_V) (n : Nat) (row : Nat → Nat) (s : Nat) : Bool := decide (rc_E V row s n = rc_E V row 0 n)
def rc_pk (V : rc_V) (n t : Nat) : Bool := rc_alls (rc_qk V n (rc_dg (V 12 0) n t)) 27
def rc_po (V : rc_V) (n t : Nat) : Bool := rc_alls (rc_qo V n (rc_dg (V 12 0) n t)) 27
def rc_lev (p : Nat → Nat → Bool) (b : Nat) : Nat → Nat → Int32
  | 0, _ => -9
  | c + 1, n => if rc_anyt (p n) (b ^ n) then nI n else rc_lev p b c (n + 1)
def o_asWent (P : rc_P) : Int32 × rc_P := (rc_lev (rc_pk (pV P)) (pV P 12 0) 3 1, P)
def o_alike (P : rc_P) : Int32 × rc_P := (rc_lev (rc_po (pV P)) (pV P 12 0) 3 1, P)
theorem c_keeps_l {n : Nat} {row : Nat → Nat} (hA : rc_CA σ V) (hlt : ∀ s, s < 27 → rc_E V row s n < 27) {Q' : Option Value → rc_M → Prop} (h : ∀ σ' s', rc_fr [62, 63, 64] σ σ' → rc_Wk σ' V n s' row → Q' (some (.int (rc_bI (rc_alls (rc_qk V n row) 27)))) σ') : ∀ (c k s : Nat) (σ1 : rc_M), k + c = 27 → rc_fr [62, 63, 64] σ σ1 → rc_Wk σ1 V n s row → rc_alls (rc_qk V n row) k = true → rc_Tc (d + 5) 78 2 [.ref 62, .int (nI k)] [] σ1 Q' := by
  intro c
  induction c with
  | zero =>
    intro k s σ1 hk hf hW ha
    have : k = 27 := by omega
    subst this
    have h' := h σ1 s hf hW
    rw [ha] at h'
    exact rc_go 40 (And.intro (fun _ => ⟨Or.inr rfl, h'⟩) (fun c => absurd (by decide) c))
  | succ c ih =>
    intro k s σ1 hk hf hW ha
    refine rc_go 40 (And.intro (fun c1 => absurd c1 (nI_ge (show k < 27 by omega) (by decide))) (fun _ => ?_))
    refine c_endOf rfl (by omega) (hA.fr hf (by simp)) hW (fun σ2 hf2 hW2 => ?_)
    refine And.intro (fun c2 => ?_) (fun c2 => ?_)
    · have z : rc_E V row k n = k := (nI_eq (by have := hlt k (by omega); omega) (by omega)).mp c2
      have key := ih (k + 1) k σ2 (by omega) (hf.tr hf2) hW2 (by rw [rc_alls, ha, rc_qk, z]; simp)
      rw [← nI_1] at key
      exact key
    · have z : ¬ rc_E V row k n = k := fun z => c2 (by rw [z])
      have h' := h σ2 k (hf.tr hf2) hW2
      rw [rc_alls_f (k := k) (by omega) (by simp [rc_qk, z])] at h'
      exact ⟨Or.inl rfl, h'⟩
theorem c_keeps {n s : Nat} {row : Nat → Nat} (hA : rc_CA σ V) (hlt : ∀ s, s < 27 → rc_E V row s n < 27) (hW : rc_Wk σ V n s row) (h : ∀ σ' s', rc_fr [62, 63, 64] σ σ' → rc_Wk σ' V n s' row → Q (rc_bI (rc_alls (rc_qk V n row) 27)) σ') : rc_TI (d + 5) 78 [.ref 62] σ Q :=
  rc_go 20 (c_keeps_l hA hlt (fun σ' s' a b => ⟨_, rfl, h σ' s' a b⟩) 27 0 s σ (by omega) rc_fr.rf hW rfl)
theorem c_ones_l {n : Nat} {row : Nat → Nat} (hA : rc_CA σ V) (hlt : ∀ s, s < 27 → rc_E V row s n < 27) {Q' : Option Value → rc_M → Prop} (h : ∀ σ' s', rc_fr [62, 63, 64] σ σ' → rc_Wk σ' V n s' row → Q' (some (.int (rc_bI (rc_alls (rc_qo V n row) 27)))) σ') : ∀ (c k s : Nat) (σ1 : rc_M), k + c = 27 → rc_fr [62, 63, 64] σ σ1 → rc_Wk σ1 V n s row → rc_alls (rc_qo V n row) k = true → rc_Tc (d + 5) 79 8 [.ref 62, .int (nI (rc_E V row 0 n)), .int (nI k)] [] σ1 Q' := by
  intro c
  induction c with
  | zero =>
    intro k s σ1 hk hf hW ha
    have : k = 27 := by omega
    subst this
    have h' := h σ1 s hf hW
    rw [ha] at h'
    exact rc_go 40 (And.intro (fun _ => ⟨Or.inr rfl, h'⟩) (fun c => absurd (by decide) c))
  | succ c ih =>
    intro k s σ1 hk hf hW ha
    refine rc_go 40 (And.intro (fun c1 => absurd c1 (nI_ge (show k < 27 by omega) (by decide))) (fun _ => ?_))
    refine c_endOf rfl (by omega) (hA.fr hf (by simp)) hW (fun σ2 hf2 hW2 => ?_)
    refine And.intro (fun c2 => ?_) (fun c2 => ?_)
    · have z : rc_E V row k n = rc_E V row 0 n := (nI_eq (by have := hlt k (by omega); omega) (by have := hlt 0 (by omega); omega)).mp c2
      have key := ih (k + 1) k σ2 (by omega) (hf.tr hf2) hW2 (by rw [rc_alls, ha, rc_qo, z]; simp)
      rw [← nI_1] at key
      exact key
    · have z : ¬ rc_E V row k n = rc_E V row 0 n := fun z => c2 (by rw [z])
      have h' := h σ2 k (hf.tr hf2) hW2
      rw [rc_alls_f (k := k) (by omega) (by simp [rc_qo, z])] at h'
      exact ⟨Or.inl rfl, h'⟩
theorem c_ones {n s : Nat} {row : Nat → Nat} (hA : rc_CA σ V) (hlt : ∀ s, s < 27 → rc_E V row s n < 27) (hW : rc_Wk σ V n s row) (h : ∀ σ' s', rc_fr [62, 63, 64] σ σ' → rc_Wk σ' V n s' row → Q (rc_bI (rc_alls (rc_qo V n row) 27)) σ') : rc_TI (d + 5) 79 [.ref 62] σ Q := by
  refine rc_go 20 (c_endOf (s' := 0) rfl (by omega) hA hW (fun σ1 hf1 hW1 => ?_))
  exact c_ones_l hA hlt (fun σ' s' a b => ⟨_, rfl, h σ' s' a b⟩) 26 1 0 σ1 (by omega) hf1 hW1 (by simp [rc_alls, rc_qo])
def rc_k3s : List Nat := [62, 63, 64]
theorem c_lev_20 {p : Nat → Nat → Bool} {bx : Int32} (hp : (bx = 0 ∧ p = rc_pk V) ∨ (bx = 1 ∧ p = rc_po V)) (hA : rc_CA σ V) {n : Nat} (hn : n ≤ 3) (hn0 : 1 ≤ n) {Q' : Option Value → rc_M → Prop}
    (k1 : ∀ σ', rc_fr [62, 63, 64] σ σ' → rc_anyt (p n) (V 12 0 ^ n) = true → Q' (some (.int (nI n))) σ') (k0 : ∀ σ' (w3 w4 : Value), rc_fr [62, 63, 64] σ σ' → rc_anyt (p n) (V 12 0 ^ n) = false → rc_Tc (d + 6) 98 2 [.ref 2, .int bx, .int (nI (n + 1)), w3, w4] [] σ' Q') :
    ∀ (c t : Nat) (s : Nat) (σ1 : rc_M), t + c = V 12 0 ^ n → rc_fr [62, 63, 64] σ σ1 → (t < V 12 0 ^ n → rc_Wk σ1 V n s (rc_dg (V 12 0) n t)) → rc_anyt (p n) t = false → rc_Tc (d + 6) 98 20 [.ref 2, .int bx, .int (nI n), .int (nI (V 12 0 ^ n)), .int (nI t)] [] σ1 Q' := by
  have hp1 : V 12 0 ^ n ≤ 6 ^ 4 := Nat.le_trans (Nat.pow_le_pow_left hA.2.2.2.2 n) (Nat.pow_le_pow_right (by decide) (by omega))
  have hp2 : (6 : Nat) ^ 4 = 1296 := by decide
  intro c
  induction c with
  | zero =>
    intro t s σ1 ht hf hW ha
    have : t = V 12 0 ^ n := by omega
    subst this
    have key := k0 σ1 (.int (nI (V 12 0 ^ n))) (.int (nI (V 12 0 ^ n))) hf ha
    rw [← nI_1] at key
    exact rc_go 40 (And.intro (fun _ => key) (fun c => absurd (nI_le (Nat.le_refl _) (by omega)) c))
  | succ c ih =>
    intro t s σ1 ht hf hW ha
    have htl : t < V 12 0 ^ n := by omega
    have hb0 : 0 < V 12 0 := by
      rcases Nat.eq_zero_or_pos (V 12 0) with z | z
      · rw [z, Nat.zero_pow (by omega)] at htl; omega
      · exact z
    have hlt : ∀ s, s < 27 → rc_E V (rc_dg (V 12 0) n t) s n < 27 := fun s hs => rc_E_dlt hA.2.2.2.2 (Or.inl hb0) hA.2.2.1 hs
    have nxt : ∀ (σ2 : rc_M) (s' : Nat), rc_fr [62, 63, 64] σ σ2 → rc_Wk σ2 V n s' (rc_dg (V 12 0) n t) → p n t = false → rc_TV (d + 5) 71 [.ref 62] σ2 (fun σ3 => rc_Tc (d + 6) 98 20 [.ref 2, .int bx, .int (nI n), .int (nI (V 12 0 ^ n)), .int (nI t + 1)] [] σ3 Q') := fun σ2 s' hf2 hW2 hz => by
      refine c_adv (hA.fr hf2 (by simp)) htl hW2 (fun σ3 hf3 hW3 => ?_)
      rw [nI_1]
      exact ih (t + 1) s' σ3 (by omega) (hf2.tr hf3) hW3 (by rw [rc_anyt, ha, hz]; rfl)
    refine rc_go 60 (And.intro (fun c1 => absurd c1 (nI_ge (by omega) (by omega))) (fun _ => ?_))
    rcases hp with ⟨rfl, rfl⟩ | ⟨rfl, rfl⟩
    · refine And.intro (fun _ => ?_) (fun z => absurd rfl z)
      refine c_keeps (hA.fr hf (by simp)) hlt (hW htl) (fun σ2 s' hf2 hW2 => ?_)
      refine And.intro (fun c3 => ?_) (fun c3 => ?_)
      · exact nxt σ2 s' (hf.tr hf2) hW2 (rc_bI_0.mp c3)
      · have hz : rc_pk V n t = true := by
          cases hz : rc_pk V n t with
          | true => rfl
          | false => exact absurd (show rc_bI (rc_pk V n t) = 0 by rw [hz]; rfl) c3
        exact k1 σ2 (hf.tr hf2) (rc_anyt_t htl hz)
    · refine And.intro (fun z => absurd z (by decide)) (fun _ => ?_)
      refine c_ones (hA.fr hf (by simp)) hlt (hW htl) (fun σ2 s' hf2 hW2 => ?_)
      refine And.intro (fun c3 => ?_) (fun c3 => ?_)
      · exact nxt σ2 s' (hf.tr hf2) hW2 (rc_bI_0.mp c3)
      · have hz : rc_po V n t = true := by
          cases hz : rc_po V n t with
          | true => rfl
          | false => exact absurd (show rc_bI (rc_po V n t) = 0 by rw [hz]; rfl) c3
        exact k1 σ2 (hf.tr hf2) (rc_anyt_t htl hz)
theorem c_lev_2 {p : Nat → Nat → Bool} {bx : Int32} (hp : (bx = 0 ∧ p = rc_pk V) ∨ (bx = 1 ∧ p = rc_po V)) (hA : rc_CA σ V) {Q' : Option Value → rc_M → Prop} : ∀ (c n : Nat) (σ1 : rc_M) (w3 w4 : Value), n + c = 4 → 1 ≤ n → rc_fr [62, 63, 64] σ σ1 → (∀ σ', rc_fr [62, 63, 64] σ σ' → Q' (some (.int (rc_lev p (V 12 0) c n))) σ') → rc_Tc (d + 6) 98 2 [.ref 2, .int bx, .int (nI n), w3, w4] [] σ1 Q' := by
  intro c
  induction c with
  | zero =>
    intro n σ1 w3 w4 hn h1 hf h
    have : n = 4 := by omega
    subst this
    exact rc_go 40 (And.intro (fun _ => h σ1 hf) (fun c => absurd (by decide) c))
  | succ c ih =>
    intro n σ1 w3 w4 hn h1 hf h
    rw [rc_lev] at h
    refine rc_go 40 (And.intro (fun c1 => absurd c1 (nI_nlt (show n ≤ 3 by omega) (by decide))) (fun _ => ?_))
    refine c_beg (s := 0) rfl rfl (hA.fr hf (by simp)) (by decide) (by omega) (fun σ2 hf2 hW2 => ?_)
    refine c_lev_20 hp hA (by omega) h1 (fun σ3 hf3 ha => ?_) (fun σ3 w3 w4 hf3 ha => ?_) (V 12 0 ^ n) 0 0 σ2 (by omega) (hf.tr hf2) (fun _ => hW2) rfl
    · rw [ha] at h
      exact h σ3 hf3
    · rw [ha] at h
      exact ih (n + 1) σ3 w3 w4 (by omega) (by omega) hf3 h
theorem c_asWent (hI : rc_CP σ P) (hW : rc_WP n P) (h : ∀ σ', rc_fC σ σ' → rc_CP σ' (o_asWent P).2 → Q (o_asWent P).1 σ') : rc_TI (d + 7) 96 [.ref 2] σ Q := by
  refine rc_go 40 ?_
  refine rc_go 40 (c_lev_2 (p := rc_pk (pV P)) (Or.inl ⟨rfl, rfl⟩) (hI.CA hW) 3 1 σ _ _ (by omega) (by omega) rc_fr.rf (fun σ' hf => ⟨_, rfl, ⟨_, rfl, h σ' (hf.fC (by simp)) (hI.fr hW hf (by simp))⟩⟩))
theorem c_alike (hI : rc_CP σ P) (hW : rc_WP n P) (h : ∀ σ', rc_fC σ σ' → rc_CP σ' (o_alike P).2 → Q (o_alike P).1 σ') : rc_TI (d + 7) 97 [.ref 2] σ Q := by
  refine rc_go 40 ?_
  refine rc_go 40 (c_lev_2 (p := rc_po (pV P)) (Or.inr ⟨rfl, rfl⟩) (hI.CA hW) 3 1 σ _ _ (by omega) (by omega) rc_fr.rf (fun σ' hf => ⟨_, rfl, ⟨_, rfl, h σ' (hf.fC (by simp)) (hI.fr hW hf (by simp))⟩⟩))
end RL
