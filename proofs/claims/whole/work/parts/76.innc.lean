section RIo
variable {d n L : Nat} {t : Nat → Nat} {σ : rc_M} {P : rc_P} {V : rc_V} {Q : Int32 → rc_M → Prop}
theorem ri_add (s k : Nat) : nI s + nI k = nI (s + k) := nI_add s k
theorem ri_C.fr {σ' : rc_M} (h : ri_C σ t L) (e1 : σ' 59 1 = σ 59 1) (e2 : σ' 60 = σ 60) : ri_C σ' t L := ⟨by rw [e1]; exact h.1, fun j hj => by rw [e2]; exact h.2 j hj⟩
theorem c_na_l {s m g : Nat} (hm : m ≤ 3) (hg : g ≤ 9) (hC : ri_C σ t L) (hT : ri_T t L) (hd : ∀ i, i < m → ri_isd t L (s + i) = true) {Q' : Option Value → rc_M → Prop} (h : Q' (some (.int (rc_bI (rc_alls (fun i => decide (ri_dv t (s + i) ≤ g)) m)))) σ) : ∀ (c i : Nat), i + c = m → rc_alls (fun i => decide (ri_dv t (s + i) ≤ g)) i = true → rc_Tc (d + 2) 38 3 [.ref 59, .int (nI s), .int (nI m), .int (nI g), .int (nI i)] [] σ Q' := by
  intro c
  induction c with
  | zero =>
    intro i hi ha
    have : i = m := by omega
    subst this
    rw [ha] at h
    exact rc_go 40 (And.intro (fun _ => ⟨Or.inr rfl, h⟩) (fun c => absurd (nI_le (Nat.le_refl _) (by omega)) c))
  | succ c ih =>
    intro i hi ha
    obtain ⟨d1, d2, d3⟩ := ri_isd_v (hd i (by omega))
    have hv : ri_dv t (s + i) ≤ 9 := by unfold ri_dv; omega
    refine rc_go 60 (And.intro (fun c1 => absurd c1 (nI_ge (by omega) (by omega))) (fun _ => ?_))
    refine c_digit (s := s + i) (nI_add s i) hC hT (hd i (by omega)) (And.intro (fun c2 => ?_) (fun c2 => ?_))
    · have key := ih (i + 1) (by omega) (by rw [rc_alls, ha, decide_eq_true (Nat.le_of_not_lt (fun z => nI_ge z (by omega) c2))]; rfl)
      rw [← nI_1] at key
      exact key
    · rw [rc_alls_f (k := i) (by omega) (decide_eq_false (fun z => c2 (nI_le z (by omega))))] at h
      exact ⟨Or.inl rfl, h⟩
theorem c_noneAbove {x y z : Int32} {s m g : Nat} (hx : x = nI s) (hy : y = nI m) (hz : z = nI g) (hm : m ≤ 3) (hg : g ≤ 9) (hC : ri_C σ t L) (hT : ri_T t L) (hd : ∀ i, i < m → ri_isd t L (s + i) = true) (h : Q (rc_bI (rc_alls (fun i => decide (ri_dv t (s + i) ≤ g)) m)) σ) : rc_TI (d + 2) 38 [.ref 59, .int x, .int y, .int z] σ Q := by
  subst hx; subst hy; subst hz
  exact rc_go 40 (c_na_l hm hg hC hT hd ⟨_, rfl, h⟩ m 0 (by omega) rfl)
def ri_rok (t : Nat → Nat) (s : Nat) : Bool := rc_alls (fun i => decide (ri_dv t (s + 2 + i) ≤ 2)) 1 && (rc_alls (fun i => decide (ri_dv t (s + 3 + i) ≤ 2)) 3 && (decide (1 ≤ ri_dv t (s + 6)) && decide (ri_dv t (s + 6) ≤ 2)))
def ri_gok (t : Nat → Nat) (s : Nat) : Bool := rc_alls (fun i => decide (ri_dv t (s + 1 + i) ≤ 2)) 3 && rc_alls (fun i => decide (ri_dv t (s + 4 + i) ≤ 3)) 3
theorem c_isRoom {x : Int32} {s : Nat} (hx : x = nI s) (hC : ri_C σ t L) (hT : ri_T t L) (hd : ∀ i, i < 6 → ri_isd t L (s + 2 + i) = true) (h : Q (rc_bI (ri_rok t s)) σ) : rc_TI (d + 3) 36 [.ref 59, .int x] σ Q := by
  subst hx
  obtain ⟨d1, d2, d3⟩ := ri_isd_v (hd 4 (by omega))
  have hv : ri_dv t (s + 6) ≤ 9 := by
    have d3 : t (s + 6) ≤ 57 := d3
    unfold ri_dv; omega
  unfold ri_rok at h
  refine rc_go 60 (c_digit (s := s + 6) (nI_add s 6) hC hT (hd 4 (by omega)) ?_)
  refine c_noneAbove (s := s + 2) (m := 1) (g := 2) (nI_add s 2) rfl rfl (by decide) (by decide) hC hT (fun i hi => hd i (by omega)) (And.intro (fun c => ?_) (fun c => ?_))
  · rw [rc_bI_0.mp c, Bool.false_and] at h
    exact ⟨Or.inl rfl, _, rfl, h⟩
  · rw [rc_bool_t c, Bool.true_and] at h
    refine c_noneAbove (s := s + 3) (m := 3) (g := 2) (nI_add s 3) rfl rfl (by decide) (by decide) hC hT (fun i hi => by have := hd (i + 1) (by omega); rw [show s + 2 + (i + 1) = s + 3 + i by omega] at this; exact this) (And.intro (fun c => ?_) (fun c => ?_))
    · rw [rc_bI_0.mp c, Bool.false_and] at h
      exact ⟨Or.inl rfl, _, rfl, h⟩
    · rw [rc_bool_t c, Bool.true_and] at h
      refine And.intro (fun c1 => ?_) (fun c1 => And.intro (fun c2 => ?_) (fun c2 => ?_))
      · rw [decide_eq_false (p := 1 ≤ ri_dv t (s + 6)) (fun z => absurd c1 (Int32.not_lt.mpr (nI_le z (by omega)))), Bool.false_and] at h
        exact ⟨Or.inl rfl, _, rfl, h⟩
      · rw [decide_eq_false (p := ri_dv t (s + 6) ≤ 2) (fun z => absurd c2 (Int32.not_lt.mpr (nI_le z (by decide)))), Bool.and_false] at h
        exact ⟨Or.inl rfl, _, rfl, h⟩
      · have z1 : 1 ≤ ri_dv t (s + 6) := Nat.le_of_not_lt (fun z => c1 (nI_lt z (by decide)))
        have z2 : ri_dv t (s + 6) ≤ 2 := Nat.le_of_not_lt (fun z => c2 (nI_lt z (by omega)))
        rw [decide_eq_true z1, decide_eq_true z2] at h
        exact ⟨Or.inr rfl, _, rfl, h⟩
theorem c_isGuest {x : Int32} {s : Nat} (hx : x = nI s) (hC : ri_C σ t L) (hT : ri_T t L) (hd : ∀ i, i < 6 → ri_isd t L (s + 1 + i) = true) (h : Q (rc_bI (ri_gok t s)) σ) : rc_TI (d + 3) 37 [.ref 59, .int x] σ Q := by
  subst hx
  unfold ri_gok at h
  refine rc_go 60 (c_noneAbove (s := s + 1) (m := 3) (g := 2) (nI_add s 1) rfl rfl (by decide) (by decide) hC hT (fun i hi => hd i (by omega)) (And.intro (fun c => ?_) (fun c => ?_)))
  · rw [rc_bI_0.mp c, Bool.false_and] at h
    exact ⟨Or.inl rfl, _, rfl, h⟩
  · rw [rc_bool_t c, Bool.true_and] at h
    refine c_noneAbove (s := s + 4) (m := 3) (g := 3) (nI_add s 4) rfl rfl (by decide) (by decide) hC hT (fun i hi => by have := hd (i + 3) (by omega); rw [show s + 1 + (i + 3) = s + 4 + i by omega] at this; exact this) (And.intro (fun c => ?_) (fun c => ?_))
    · rw [rc_bI_0.mp c] at h
      exact ⟨Or.inl rfl, _, rfl, h⟩
    · rw [rc_bool_t c] at h
      exact ⟨Or.inr rfl, _, rfl, h⟩
def ri_pr (t : Nat → Nat) (L s : Nat) : Nat := if ri_isd t L (s + 8) then ri_dv t (s + 7) * 10 + ri_dv t (s + 8) else ri_dv t (s + 7)
theorem c_ar_58 {s q a : Nat} (hs : s ≤ 900) (ho : rc_isO q 6) (hr : rc_rho q 2 = some a) (hl : rc_lay a = (1, 0, 3)) (h2 : 2 ≤ a) (hqa : q ≠ a) (hq : q < 59) (ha : a < 59) (hC : ri_C σ t L) (hT : ri_T t L) (hd : ∀ i, i < 6 → ri_isd t L (s + 2 + i) = true) {Q' : Option Value → rc_M → Prop} (h : ∀ σ', (∀ k, k ≠ q → k ≠ a → σ' k = σ k) → (∀ v, v < 3 → σ' a v = nI (ri_dv t (s + 3 + v))) → σ' q 0 = σ q 0 → σ' q 1 = σ q 1 → σ' q 3 = nI (ri_dv t (s + 6)) → σ' q 4 = nI (ri_pr t L s) → σ' q 5 = -9 → Q' none σ') : ∀ (c i : Nat) (f : Nat → Int32), i + c = 3 → (∀ v, v < i → f v = nI (ri_dv t (s + 3 + v))) → rc_Tc (d + 2) 39 58 [.ref 59, .ref 3, .int (nI s), .ref q, .int (nI i)] [] (rc_up σ a f) Q' := by
  intro c
  induction c with
  | zero =>
    intro i f hi hf
    have : i = 3 := by omega
    subst this
    have hC1 : ri_C (rc_up σ a f) t L := hC.fr (by rw [rc_up_n _ _ (by omega)]) (rc_up_n _ _ (by omega))
    have hCq : ∀ (σ1 : rc_M) g, ri_C σ1 t L → ri_C (rc_up σ1 q g) t L := fun σ1 g hc => hc.fr (by rw [rc_up_n _ _ (by omega)]) (rc_up_n _ _ (by omega))
    obtain ⟨p1, p2, p3⟩ := ri_isd_v (hd 5 (by omega))
    refine rc_go 120 (And.intro (fun _ => ?_) (fun c => absurd (by decide) c))
    refine c_digit (s := s + 6) (nI_add s 6) hC1 hT (hd 4 (by omega)) (And.intro ho ?_)
    refine c_digit (s := s + 7) (nI_add s 7) (hCq _ _ hC1) hT (hd 5 (by omega)) (And.intro ho ?_)
    refine c_at (s := s + 8) (nI_add s 8) (by omega) (hCq _ _ (hCq _ _ hC1)) hT (c_isDigit (s := s + 8) rfl hT (And.intro (fun c => ?_) (fun c => ?_)))
    · have z := rc_bI_0.mp c
      refine And.intro ho (h _ (fun k k1 k2 => ?_) (fun v hv => ?_) ?_ ?_ ?_ ?_ ?_)
      · simp only [rc_up, if_neg k1, if_neg k2]
      · simp only [rc_up, if_neg (Ne.symm hqa), if_pos]; exact hf v hv
      · simp [rc_up, upd, hqa]
      · simp [rc_up, upd, hqa]
      · simp [rc_up, upd, hqa]
      · simp [rc_up, upd, hqa, ri_pr, z]
      · simp [rc_up, upd, hqa]
    · have z := rc_bool_t c
      refine And.intro ho ?_
      refine c_digit (s := s + 8) (nI_add s 8) (hCq _ _ (hCq _ _ hC1)) hT z (And.intro ho (And.intro ho (h _ (fun k k1 k2 => ?_) (fun v hv => ?_) ?_ ?_ ?_ ?_ ?_)))
      · simp only [rc_up, if_neg k1, if_neg k2]
      · simp only [rc_up, if_neg (Ne.symm hqa), if_pos]; exact hf v hv
      · simp [rc_up, upd, hqa]
      · simp [rc_up, upd, hqa]
      · simp [rc_up, upd, hqa]
      · have e : nI (ri_dv t (s + 7)) * 10 + nI (ri_dv t (s + 8)) = nI (ri_dv t (s + 7) * 10 + ri_dv t (s + 8)) := by rw [show (10 : Int32) = nI 10 from rfl, rc_mulN, nI_add]
        simp [rc_up, upd, hqa, ri_pr, z, e]
      · simp [rc_up, upd, hqa]
  | succ c ih =>
    intro i f hi hf
    have hC1 : ri_C (rc_up σ a f) t L := hC.fr (by rw [rc_up_n _ _ (by omega)]) (rc_up_n _ _ (by omega))
    have key := ih (i + 1) (upd f i (nI (ri_dv t (s + 3 + i)))) (by omega) (fun v hv => by
      by_cases e : v = i
      · subst e; exact pk_us
      · rw [pk_un e]; exact hf v (by omega))
    rw [← nI_1] at key
    refine rc_go 60 (And.intro (fun c1 => absurd c1 (nI_ge (show i < 3 by omega) (by decide))) (fun _ => ?_))
    refine Exists.intro a (And.intro ho (And.intro hr ?_))
    refine c_digit (s := s + 3 + i) (by rw [show (3 : Int32) = nI 3 from rfl, nI_add, nI_add]) hC1 hT (by have := hd (i + 1) (by omega); rw [show s + 2 + (i + 1) = s + 3 + i by omega] at this; exact this) ?_
    refine And.intro (by rw [hl]) (And.intro h2 (And.intro (by rw [hl]; exact rc_vi (n := 3) (by omega) (by decide)) ?_))
    rw [rc_ci (by omega), rc_up_s, rc_uu]
    exact key
theorem c_addRoom {x : Int32} {s b : Nat} (hx : x = nI s) (hs : s ≤ 900) (hb : b < 6) (e31 : σ 3 1 = nI b) (hC : ri_C σ t L) (hT : ri_T t L) (hk : ri_kok t L (s + 1) = true) (hd : ∀ i, i < 6 → ri_isd t L (s + 2 + i) = true) {Q : rc_M → Prop} (h : ∀ σ', (∀ k, k ≠ 3 → k ≠ 9 + 2 * b → k ≠ 10 + 2 * b → σ' k = σ k) → (∀ j, j ≠ 1 → σ' 3 j = σ 3 j) → σ' 3 1 = nI (b + 1) → σ' (9 + 2 * b) 0 = nI (ri_kn (t (s + 1))) → σ' (9 + 2 * b) 1 = nI (ri_dv t (s + 2)) → (∀ v, v < 3 → σ' (10 + 2 * b) v = nI (ri_dv t (s + 3 + v))) → σ' (9 + 2 * b) 3 = nI (ri_dv t (s + 6)) → σ' (9 + 2 * b) 4 = nI (ri_pr t L s) → σ' (9 + 2 * b) 5 = -9 → Q σ') : rc_TV (d + 2) 39 [.ref 59, .ref 3, .int x] σ Q := by
  subst hx
  obtain ⟨r1, r2, r3, r4⟩ := rc_hr (o := 0) (i := b) (Or.inl rfl) hb
  have r2 : rc_isO (9 + 2 * b) 6 := r2
  have hC1 : ∀ g, ri_C (rc_up σ 3 g) t L := fun g => hC.fr (by rw [rc_up_n _ _ (by decide)]) (rc_up_n _ _ (by decide))
  have hCq : ∀ (σ1 : rc_M) g, ri_C σ1 t L → ri_C (rc_up σ1 (9 + 2 * b) g) t L := fun σ1 g hc => hc.fr (by rw [rc_up_n _ _ (by omega)]) (rc_up_n _ _ (by omega))
  refine rc_go 120 (And.intro (fun _ => ?_) (fun c => absurd (by rw [e31]; exact nI_lt hb (by decide)) c))
  refine Exists.intro (9 + 2 * b) (And.intro rfl (And.intro (by rw [e31]; exact rc_vi (n := 6) hb (by decide)) (And.intro (by rw [e31, rc_ci (by omega)]; exact rc_rho4 _ hb) ?_)))
  refine c_at (s := s + 1) (nI_1 s) (by omega) (hC1 _) hT (And.intro r2 ?_)
  refine c_digit (s := s + 2) (nI_add s 2) (hCq _ _ (hC1 _)) hT (hd 0 (by omega)) (And.intro r2 ?_)
  have key := fun (σ1 : rc_M) (hc : ri_C σ1 t L) (Q' : Option Value → rc_M → Prop) hQ => c_ar_58 (d := d) (σ := σ1) (s := s) (q := 9 + 2 * b) (a := 10 + 2 * b) (t := t) (L := L) hs r2 r3 r4 (by omega) (by omega) (by omega) (by omega) hc hT hd (Q' := Q') hQ 3 0 (σ1 (10 + 2 * b)) rfl (fun v hv => absurd hv (by omega))
  simp only [rc_ui] at key
  refine key _ (hCq _ _ (hCq _ _ (hC1 _))) _ (fun σ' f1 f2 f3 f4 f5 f6 f7 => ⟨rfl, h σ' (fun k k1 k2 k3 => ?_) (fun j hj => ?_) ?_ ?_ ?_ f2 f5 f6 f7⟩)
  · rw [f1 k k2 k3, rc_up_n _ _ k2, rc_up_n _ _ k2, rc_up_n _ _ k1]
  · rw [f1 3 (by omega) (by omega), rc_up_n _ _ (by omega), rc_up_n _ _ (by omega), rc_up_s, pk_un hj]
  · rw [f1 3 (by omega) (by omega), rc_up_n _ _ (by omega), rc_up_n _ _ (by omega), rc_up_s, pk_us, e31, nI_1]
  · rw [f3, rc_up_s, pk_un (by decide), rc_up_s, pk_us, ri_kd hT, if_pos hk]
  · rw [f4, rc_up_s, pk_us]
theorem c_ag_64 {s q a : Nat} (hs : s ≤ 900) (ho : rc_isO q 1) (hr : rc_rho q 1 = some a) (hl : rc_lay a = (1, 0, 3)) (h2 : 2 ≤ a) (hqa : q ≠ a) (hq : q < 59) (ha : a < 59) (hC : ri_C σ t L) (hT : ri_T t L) (hd : ∀ i, i < 6 → ri_isd t L (s + 1 + i) = true) {Q' : Option Value → rc_M → Prop} (h : ∀ σ', (∀ k, k ≠ q → k ≠ a → σ' k = σ k) → (∀ v, v < 3 → σ' a v = nI (ri_dv t (s + 4 + v))) → σ' q 0 = σ q 0 → σ' q 2 = 0 → σ' q 3 = -9 → σ' q 4 = -9 → Q' none σ') : ∀ (c i : Nat) (f : Nat → Int32), i + c = 3 → (∀ v, v < i → f v = nI (ri_dv t (s + 4 + v))) → rc_Tc (d + 2) 40 64 [.ref 59, .ref 3, .int (nI s), .ref q, .int (nI i)] [] (rc_up σ a f) Q' := by
  intro c
  induction c with
  | zero =>
    intro i f hi hf
    have : i = 3 := by omega
    subst this
    refine rc_go 120 (And.intro (fun _ => ?_) (fun c => absurd (by decide) c))
    refine And.intro ho (And.intro ho (And.intro ho (And.intro ho (h _ (fun k k1 k2 => ?_) (fun v hv => ?_) ?_ ?_ ?_ ?_))))
    · simp only [rc_up, if_neg k1, if_neg k2]
    · simp only [rc_up, if_neg (Ne.symm hqa), if_pos]; exact hf v hv
    · simp [rc_up, upd, hqa]
    · simp [rc_up, upd, hqa]
    · simp [rc_up, upd, hqa]
    · simp [rc_up, upd, hqa]
  | succ c ih =>
    intro i f hi hf
    have hC1 : ri_C (rc_up σ a f) t L := hC.fr (by rw [rc_up_n _ _ (by omega)]) (rc_up_n _ _ (by omega))
    have key := ih (i + 1) (upd f i (nI (ri_dv t (s + 4 + i)))) (by omega) (fun v hv => by
      by_cases e : v = i
      · subst e; exact pk_us
      · rw [pk_un e]; exact hf v (by omega))
    rw [← nI_1] at key
    refine rc_go 60 (And.intro (fun c1 => absurd c1 (nI_ge (show i < 3 by omega) (by decide))) (fun _ => ?_))
    refine Exists.intro a (And.intro ho (And.intro hr ?_))
    refine c_digit (s := s + 4 + i) (by rw [show (4 : Int32) = nI 4 from rfl, nI_add, nI_add]) hC1 hT (by have := hd (i + 3) (by omega); rw [show s + 1 + (i + 3) = s + 4 + i by omega] at this; exact this) ?_
    refine And.intro (by rw [hl]) (And.intro h2 (And.intro (by rw [hl]; exact rc_vi (n := 3) (by omega) (by decide)) ?_))
    rw [rc_ci (by omega), rc_up_s, rc_uu]
    exact key
theorem c_addGuest {x : Int32} {s b : Nat} (hx : x = nI s) (hs : s ≤ 900) (hb : b < 5) (e33 : σ 3 3 = nI b) (hC : ri_C σ t L) (hT : ri_T t L) (hd : ∀ i, i < 6 → ri_isd t L (s + 1 + i) = true) {Q : rc_M → Prop} (h : ∀ σ', (∀ k, k ≠ 3 → k ≠ 21 + 2 * b → k ≠ 22 + 2 * b → σ' k = σ k) → (∀ j, j ≠ 3 → σ' 3 j = σ 3 j) → σ' 3 3 = nI (b + 1) → σ' (21 + 2 * b) 0 = nI (ri_dv t (s + 1) + ri_dv t (s + 2) * 3 + ri_dv t (s + 3) * 9) → (∀ v, v < 3 → σ' (22 + 2 * b) v = nI (ri_dv t (s + 4 + v))) → σ' (21 + 2 * b) 2 = 0 → σ' (21 + 2 * b) 3 = -9 → σ' (21 + 2 * b) 4 = -9 → Q σ') : rc_TV (d + 2) 40 [.ref 59, .ref 3, .int x] σ Q := by
  subst hx
  obtain ⟨r1, r2, r3, r4⟩ := rc_hg (o := 0) (i := b) (Or.inl rfl) hb
  have r2 : rc_isO (21 + 2 * b) 1 := r2
  have hC1 : ∀ g, ri_C (rc_up σ 3 g) t L := fun g => hC.fr (by rw [rc_up_n _ _ (by decide)]) (rc_up_n _ _ (by decide))
  have hCq : ∀ (σ1 : rc_M) g, ri_C σ1 t L → ri_C (rc_up σ1 (21 + 2 * b) g) t L := fun σ1 g hc => hc.fr (by rw [rc_up_n _ _ (by omega)]) (rc_up_n _ _ (by omega))
  refine rc_go 120 (And.intro (fun _ => ?_) (fun c => absurd (by rw [e33]; exact nI_lt hb (by decide)) c))
  refine Exists.intro (21 + 2 * b) (And.intro rfl (And.intro (by rw [e33]; exact rc_vi (n := 5) hb (by decide)) (And.intro (by rw [e33, rc_ci (by omega)]; exact rc_rho5 _ hb) ?_)))
  refine c_digit (s := s + 1) (nI_1 s) (hC1 _) hT (hd 0 (by omega)) ?_
  refine c_digit (s := s + 2) (nI_add s 2) (hC1 _) hT (hd 1 (by omega)) ?_
  refine c_digit (s := s + 3) (nI_add s 3) (hC1 _) hT (hd 2 (by omega)) (And.intro r2 ?_)
  have key := fun (σ1 : rc_M) (hc : ri_C σ1 t L) (Q' : Option Value → rc_M → Prop) hQ => c_ag_64 (d := d) (σ := σ1) (s := s) (q := 21 + 2 * b) (a := 22 + 2 * b) (t := t) (L := L) hs r2 r3 r4 (by omega) (by omega) (by omega) (by omega) hc hT hd (Q' := Q') hQ 3 0 (σ1 (22 + 2 * b)) rfl (fun v hv => absurd hv (by omega))
  simp only [rc_ui] at key
  refine key _ (hCq _ _ (hC1 _)) _ (fun σ' f1 f2 f3 f4 f5 f6 => ⟨rfl, h σ' (fun k k1 k2 k3 => ?_) (fun j hj => ?_) ?_ ?_ f2 f4 f5 f6⟩)
  · rw [f1 k k2 k3, rc_up_n _ _ k2, rc_up_n _ _ k1]
  · rw [f1 3 (by omega) (by omega), rc_up_n _ _ (by omega), rc_up_s, pk_un hj]
  · rw [f1 3 (by omega) (by omega), rc_up_n _ _ (by omega), rc_up_s, pk_us, e33, nI_1]
  · rw [f3, rc_up_s, pk_us, show (3 : Int32) = nI 3 from rfl, show (9 : Int32) = nI 9 from rfl, rc_mulN, rc_mulN, nI_add, nI_add]
end RIo
