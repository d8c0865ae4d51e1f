section RPb
variable {d n : Nat} {σ : rc_M} {P : rc_P} {V : rc_V} {Q : Int32 → rc_M → Prop}
def rc_hb2 (V : rc_V) (row : Nat → Nat) (n : Nat) : Bool := rc_alls (fun i => !(decide (row (2 * i) = row (2 * i + 1)) && decide (V 3 (row (2 * i)) < 2))) n
def rc_gd2 (V : rc_V) (g h n : Nat) (row : Nat → Nat) : Bool := rc_hb2 V row n && (rc_wd V g (rc_ev V row (V 6 g) (V 6 h) n (2 * n)) && rc_wd V h (rc_ev V row (V 6 g) (V 6 h) n (2 * n + 1)))
def rc_lv2 (p : Nat → Nat → Bool) (b : Nat) : Nat → Nat → Int32
  | 0, _ => -9
  | c + 1, n => if rc_anyt (p n) (b ^ (2 * n)) then nI n else rc_lv2 p b c (n + 1)
def rc_pB (V : rc_V) (g h n t : Nat) : Bool := rc_gd2 V g h n (rc_dg (V 12 0) (2 * n) t)
def rc_bo (V : rc_V) (g h : Nat) : Int32 := rc_lv2 (rc_pB V g h) (V 12 0) 3 0
def o_both (P : rc_P) (x y : Int32) : Int32 × rc_P := cond (rc_ob x (pV P 12 1)) (o_no P 1) (cond (rc_ob y (pV P 12 1)) (o_no P 1) (if x = y then o_no P 1 else (rc_bo (pV P) (min x.toNatClampNeg y.toNatClampNeg) (max x.toNatClampNeg y.toNatClampNeg), P)))
theorem rc_ev_s {row : Nat → Nat} {s0 s1 k j : Nat} (hj : j < 2 * k + 2) : rc_ev V row s0 s1 (k + 1) j = rc_ev V row s0 s1 k j := by
  show (if j < 2 * k + 2 then rc_ev V row s0 s1 k j else rc_pn V row (rc_ev V row s0 s1 k) k (j - (2 * k + 2))) = _
  rw [if_pos hj]
theorem rc_ev_01 {row : Nat → Nat} {s0 s1 : Nat} : ∀ k, rc_ev V row s0 s1 k 0 = s0 ∧ rc_ev V row s0 s1 k 1 = s1 := by
  intro k
  induction k with
  | zero => exact ⟨rfl, rfl⟩
  | succ k ih => rw [rc_ev_s (by omega), rc_ev_s (by omega)]; exact ih
theorem rc_ev_n {row : Nat → Nat} {s0 s1 k w : Nat} : rc_ev V row s0 s1 (k + 1) (2 * k + 2 + w) = rc_pn V row (rc_ev V row s0 s1 k) k w := by
  show (if 2 * k + 2 + w < 2 * k + 2 then rc_ev V row s0 s1 k (2 * k + 2 + w) else rc_pn V row (rc_ev V row s0 s1 k) k (2 * k + 2 + w - (2 * k + 2))) = _
  rw [if_neg (by omega), show 2 * k + 2 + w - (2 * k + 2) = w by omega]
theorem c_hbd_l {n : Nat} {row : Nat → Nat} (hA : rc_CA σ V) (hn : n ≤ 2) (hr : ∀ j, j < 2 * n → σ 68 j = nI (row j) ∧ row j < 6) {Q' : Option Value → rc_M → Prop} (h : Q' (some (.int (rc_bI (rc_hb2 V row n)))) σ) : ∀ (c i : Nat), i + c = n → rc_hb2 V row i = true → rc_Tc d 53 2 [.ref 67, .int (nI n), .int (nI i)] [] σ Q' := by
  intro c
  induction c with
  | zero =>
    intro i hi ha
    have : i = n := by omega
    subst this
    rw [ha] at h
    exact rc_go 40 (And.intro (fun _ => ⟨Or.inr rfl, h⟩) (fun c => absurd (nI_le (Nat.le_refl _) (by omega)) c))
  | succ c ih =>
    intro i hi ha
    obtain ⟨a1, a2⟩ := hr (2 * i) (by omega)
    obtain ⟨b1, b2⟩ := hr (2 * i + 1) (by omega)
    have es : rc_hb2 V row (i + 1) = (rc_hb2 V row i && !(decide (row (2 * i) = row (2 * i + 1)) && decide (V 3 (row (2 * i)) < 2))) := rfl
    have nx : (decide (row (2 * i) = row (2 * i + 1)) && decide (V 3 (row (2 * i)) < 2)) = false → rc_Tc d 53 2 [.ref 67, .int (nI n), .int (nI i + 1)] [] σ Q' := fun z => by
      rw [nI_1]
      exact ih (i + 1) (by omega) (by rw [es, ha, z]; rfl)
    have hW3 := (hA.2.2.1 _ a2).2.2.2.1
    refine rc_go 60 (And.intro (fun c1 => absurd c1 (nI_ge (by omega) (by omega))) (fun _ => ?_))
    refine And.intro (by rw [rc_2x]; exact rc_vi (n := 4) (by omega) (by decide)) (And.intro (by rw [rc_2x1]; exact rc_vi (n := 4) (by omega) (by decide)) ?_)
    rw [rc_2x1, rc_2x, rc_ci (show 2 * i ≤ 2000 by omega), rc_ci (show 2 * i + 1 ≤ 2000 by omega), a1, b1]
    refine And.intro (fun c => ?_) (fun c => ?_)
    · exact nx (by rw [decide_eq_false (fun z => c (by rw [z]))]; rfl)
    · have ce := (nI_eq (by omega) (by omega)).mp c
      refine And.intro (by rw [rc_2x]; exact rc_vi (n := 4) (by omega) (by decide)) ?_
      rw [rc_2x, rc_ci (show 2 * i ≤ 2000 by omega), a1]
      have hCR := hA.2.1 _ a2
      have hRm := hCR.rm a2
      refine Exists.intro (9 + 2 * row (2 * i)) (And.intro rfl (And.intro (rc_vi (n := 6) a2 (by decide)) (And.intro (by rw [rc_ci (by omega)]; exact rc_rho4 _ a2) (And.intro hRm.1 ?_))))
      have e3 : σ (9 + 2 * row (2 * i)) 3 = nI (V 3 (row (2 * i))) := hCR.2.2.2.1
      rw [e3]
      refine And.intro (fun c3 => ?_) (fun c3 => ?_)
      · exact nx (by rw [decide_eq_false (p := V 3 (row (2 * i)) < 2) (fun z => nI_ge z (by decide) c3), Bool.and_false])
      · have hz : rc_hb2 V row n = false := rc_alls_f (k := i) (by omega) (by
          rw [decide_eq_true ce, decide_eq_true (Nat.lt_of_not_le (fun z => c3 (nI_le z (by omega))))]; rfl)
        rw [hz] at h
        exact ⟨Or.inl rfl, h⟩
theorem c_haveBeds {x : Int32} {n : Nat} {row : Nat → Nat} (hx : x = nI n) (hA : rc_CA σ V) (hn : n ≤ 2) (hr : ∀ j, j < 2 * n → σ 68 j = nI (row j) ∧ row j < 6) (h : Q (rc_bI (rc_hb2 V row n)) σ) : rc_TI d 53 [.ref 67, .int x] σ Q := by
  subst hx
  exact rc_go 40 (c_hbd_l hA hn hr ⟨_, rfl, h⟩ n 0 (by omega) rfl)
theorem c_eaw_l {n q1 q2 s0 s1 : Nat} {w1 w2 row : Nat → Nat} (hA : rc_CA σ V) (hn : n ≤ 2) (hr : ∀ j, j < 2 * n → σ 68 j = nI (row j) ∧ row j < 6) (hs0 : s0 < 27) (hs1 : s1 < 27) (hG1 : rc_Gs σ q1 w1) (hG2 : rc_Gs σ q2 w2) (hq1 : q1 + 1 ≤ 58) (hq2 : q2 + 1 ≤ 58) (hw1 : ∀ m, m < 3 → w1 m ≤ 3) (hw2 : ∀ m, m < 3 → w2 m ≤ 3) {Q' : Option Value → rc_M → Prop} (h : ∀ f, f 0 = nI s0 → f 1 = nI s1 → Q' (some (.int (rc_bI (rc_wz w1 (rc_ev V row s0 s1 n (2 * n)) && rc_wz w2 (rc_ev V row s0 s1 n (2 * n + 1)))))) (rc_up σ 69 f)) : ∀ (c k : Nat) (f : Nat → Int32), k + c = n → (∀ j, j < 2 * k + 2 → f j = nI (rc_ev V row s0 s1 k j)) → rc_Tc (d + 4) 54 3 [.ref 67, .int (nI n), .ref q1, .ref q2, .int (nI k)] [] (rc_up σ 69 f) Q' := by
  have hlt := fun k (hk : k ≤ n) => rc_ev_lt (V := V) (row := row) hA.2.2.1 hs0 hs1 k (fun j hj => (hr j (by omega)).2)
  intro c
  induction c with
  | zero =>
    intro k f hk hf
    have : k = n := by omega
    subst this
    have f1 : rc_fr [69] σ (rc_up σ 69 f) := rc_fr.up (by simp)
    have h' := h f (by rw [hf 0 (by omega), (rc_ev_01 k).1]) (by rw [hf 1 (by omega), (rc_ev_01 k).2])
    have g1 := hG1.fr f1 (by simp; omega)
    have g2 := hG2.fr f1 (by simp; omega)
    have l1 := hlt k (Nat.le_refl _) (2 * k) (by omega)
    have l2 := hlt k (Nat.le_refl _) (2 * k + 1) (by omega)
    refine rc_go 60 (And.intro (fun _ => ?_) (fun c => absurd (nI_le (Nat.le_refl _) (by omega)) c))
    refine And.intro (by rw [rc_2x]; exact rc_vi (n := 6) (by omega) (by decide)) (And.intro g1.1 ?_)
    refine c_wishes (s := rc_ev V row s0 s1 k (2 * k)) (by rw [rc_2x, rc_ci (by omega), rc_up_s]; exact hf _ (by omega)) (by rw [rc_up_n _ _ (by decide)]; exact hA.1) l1 g1 hw1 ?_
    refine And.intro (fun c => ?_) (fun c => ?_)
    · rw [rc_bI_0.mp c, Bool.false_and] at h'
      exact ⟨Or.inl rfl, h'⟩
    · rw [rc_bool_t c, Bool.true_and] at h'
      refine And.intro (by rw [rc_2x1]; exact rc_vi (n := 6) (by omega) (by decide)) (And.intro g2.1 ?_)
      refine c_wishes (s := rc_ev V row s0 s1 k (2 * k + 1)) (by rw [rc_2x1, rc_ci (by omega), rc_up_s]; exact hf _ (by omega)) (by rw [rc_up_n _ _ (by decide)]; exact hA.1) l2 g2 hw2 ?_
      refine And.intro (fun c => ?_) (fun c => ?_)
      · rw [rc_bI_0.mp c] at h'
        exact ⟨Or.inl rfl, h'⟩
      · rw [rc_bool_t c] at h'
        exact ⟨Or.inr rfl, h'⟩
  | succ c ih =>
    intro k f hk hf
    have hA1 : ∀ f, rc_CA (rc_up σ 69 f) V := fun f => hA.fr (rc_fr.up (ks := [69]) (by simp)) (by simp)
    have l := hlt k (by omega)
    have h68 : ∀ f j, rc_up σ 69 f 68 j = σ 68 j := fun f j => by rw [rc_up_n _ _ (by decide)]
    refine rc_go 60 (And.intro (fun c1 => absurd c1 (nI_ge (by omega) (by omega))) (fun _ => ?_))
    refine c_pass (w := 0) (row := row) (e := rc_ev V row s0 s1 k) rfl rfl (hA1 f) (by omega) (by omega) (fun j hj => by rw [h68]; exact hr j (by omega)) (fun j hj => ⟨by rw [rc_up_s]; exact hf j hj, l j hj⟩) ?_
    rw [rc_up_s, rc_uu]
    refine c_pass (w := 1) (row := row) (e := rc_ev V row s0 s1 k) rfl rfl (hA1 _) (by omega) (by omega) (fun j hj => by rw [h68]; exact hr j (by omega)) (fun j hj => ⟨by rw [rc_up_s, pk_un (by omega)]; exact hf j hj, l j hj⟩) ?_
    rw [rc_up_s, rc_uu]
    have key := ih (k + 1) (upd (upd f (2 * k + 2 + 0) (nI (rc_pn V row (rc_ev V row s0 s1 k) k 0))) (2 * k + 2 + 1) (nI (rc_pn V row (rc_ev V row s0 s1 k) k 1))) (by omega) (fun j hj => by
      by_cases e1 : j = 2 * k + 2 + 1
      · subst e1; rw [pk_us, rc_ev_n]
      · rw [pk_un e1]
        by_cases e0 : j = 2 * k + 2 + 0
        · subst e0; rw [pk_us, rc_ev_n]
        · rw [pk_un e0, rc_ev_s (by omega)]; exact hf j (by omega))
    rw [← nI_1] at key
    exact key
theorem c_endAsW {x : Int32} {n q1 q2 s0 s1 : Nat} {w1 w2 row : Nat → Nat} (hx : x = nI n) (hA : rc_CA σ V) (hn : n ≤ 2) (hr : ∀ j, j < 2 * n → σ 68 j = nI (row j) ∧ row j < 6) (hs0 : s0 < 27) (hs1 : s1 < 27) (e0 : σ 69 0 = nI s0) (e1 : σ 69 1 = nI s1) (hG1 : rc_Gs σ q1 w1) (hG2 : rc_Gs σ q2 w2) (hq1 : q1 + 1 ≤ 58) (hq2 : q2 + 1 ≤ 58) (hw1 : ∀ m, m < 3 → w1 m ≤ 3) (hw2 : ∀ m, m < 3 → w2 m ≤ 3) (h : ∀ f, f 0 = nI s0 → f 1 = nI s1 → Q (rc_bI (rc_wz w1 (rc_ev V row s0 s1 n (2 * n)) && rc_wz w2 (rc_ev V row s0 s1 n (2 * n + 1)))) (rc_up σ 69 f)) : rc_TI (d + 4) 54 [.ref 67, .int x, .ref q1, .ref q2] σ Q := by
  subst hx
  have key := c_eaw_l (d := d) (V := V) (row := row) hA hn hr hs0 hs1 hG1 hG2 hq1 hq2 hw1 hw2 (Q' := fun v σ => ∃ x, v = some (.int x) ∧ Q x σ) (fun f a b => ⟨_, rfl, h f a b⟩) n 0 (σ 69) (by omega) (fun j hj => by
    have : j = 0 ∨ j = 1 := by omega
    rcases this with rfl | rfl
    · exact e0
    · exact e1)
  rw [rc_ui] at key
  exact rc_go 40 key
/-- what stays at the class's loops over two guests' rows -/
def rc_PI (σ0 σ : rc_M) (s0 s1 : Nat) : Prop := rc_fr [68, 69] σ0 σ ∧ σ 69 0 = nI s0 ∧ σ 69 1 = nI s1
theorem rc_pw4 {b n : Nat} (hb : b ≤ 6) (hn : n ≤ 2) : b ^ (2 * n) ≤ 1296 := Nat.le_trans (Nat.pow_le_pow_left hb _) (Nat.le_trans (Nat.pow_le_pow_right (by decide) (show 2 * n ≤ 4 by omega)) (by decide))
theorem c_ln_53 {n q1 q2 s0 s1 g h' : Nat} {σ0 : rc_M} (hA : rc_CA σ0 V) (hn : n ≤ 2) (hs0 : s0 = V 6 g) (hs1 : s1 = V 6 h') (hWg : rc_WG V g) (hWh : rc_WG V h') (hG1 : rc_Gs σ0 q1 (rc_wi V g)) (hG2 : rc_Gs σ0 q2 (rc_wi V h')) (hq1 : q1 + 1 ≤ 58) (hq2 : q2 + 1 ≤ 58) {Q' : Option Value → rc_M → Prop} (h1 : ∀ σ', rc_fr [68, 69] σ0 σ' → rc_anyt (rc_pB V g h' n) (V 12 0 ^ (2 * n)) = true → Q' (some (.int (nI n))) σ') (h0 : ∀ σ' w4 w5, rc_PI σ0 σ' s0 s1 → rc_anyt (rc_pB V g h' n) (V 12 0 ^ (2 * n)) = false → rc_Tc (d + 5) 52 22 [.ref 67, .ref q1, .ref q2, .int (nI (n + 1)), w4, w5] [] σ' Q') : ∀ (c t : Nat) (σ : rc_M), t + c = V 12 0 ^ (2 * n) → rc_PI σ0 σ s0 s1 → (t < V 12 0 ^ (2 * n) → ∀ j, j < 2 * n → σ 68 j = nI (rc_dg (V 12 0) (2 * n) t j)) → (∀ u, u < t → rc_pB V g h' n u = false) → rc_Tc (d + 5) 52 53 [.ref 67, .ref q1, .ref q2, .int (nI n), .int (nI (V 12 0 ^ (2 * n))), .int (nI t)] [] σ Q' := by
  have hb6 : V 12 0 ≤ 6 := hA.2.2.2.2
  have hp := rc_pw4 hb6 hn
  intro c
  induction c with
  | zero =>
    intro t σ ht hI hr hf
    have : t = V 12 0 ^ (2 * n) := by omega
    subst this
    have key := h0 σ (.int (nI (V 12 0 ^ (2 * n)))) (.int (nI (V 12 0 ^ (2 * n)))) hI (rc_anyt_f hf)
    rw [← nI_1] at key
    exact rc_go 40 (And.intro (fun _ => key) (fun c => absurd (nI_le (Nat.le_refl _) (by omega)) c))
  | succ c ih =>
    intro t σ ht hI hr hf
    have hb0 : 0 < V 12 0 ∨ n = 0 := by
      rcases Nat.eq_zero_or_pos (V 12 0) with z | z
      · right
        rcases Nat.eq_zero_or_pos n with y | y
        · exact y
        · rw [z, Nat.zero_pow (by omega)] at ht; omega
      · exact Or.inl z
    have hA1 : rc_CA σ V := hA.fr hI.1 (by simp)
    have e31 : σ 3 1 = nI (V 12 0) := hA1.2.2.2.1
    have hr' : ∀ j, j < 2 * n → σ 68 j = nI (rc_dg (V 12 0) (2 * n) t j) ∧ rc_dg (V 12 0) (2 * n) t j < 6 := fun j hj => ⟨hr (by omega) j hj, by
      rcases hb0 with z | z
      · have := rc_dg_lt (n := 2 * n) (t := t) (i := j) z; omega
      · omega⟩
    have g1 := hG1.fr hI.1 (by simp; omega)
    have g2 := hG2.fr hI.1 (by simp; omega)
    have adv : ∀ σ1, rc_PI σ0 σ1 s0 s1 → σ1 68 = σ 68 → rc_pB V g h' n t = false → ∀ x y, x = nI (2 * n) → y = nI (V 12 0) → rc_TI (d + 4) 119 [.ref 68, .int x, .int y] σ1 (fun _ σ' => rc_Tc (d + 5) 52 53 [.ref 67, .ref q1, .ref q2, .int (nI n), .int (nI (V 12 0 ^ (2 * n))), .int (nI t + 1)] [] σ' Q') := fun σ1 hI1 e68 hz x y hx hy => by
      refine c_advRow (q := 68) (L := 4) hx hy rfl rfl (by decide) (by omega) (by decide) hb6 (fun j hj => by rw [e68]; exact ⟨(hr' j hj).1, by have := (hr' j hj).2; omega⟩) (fun f' hf' => ?_)
      rw [nI_1]
      refine ih (t + 1) _ (by omega) ⟨hI1.1.tr (rc_fr.up (by simp)), by rw [rc_up_n _ _ (by decide)]; exact hI1.2.1, by rw [rc_up_n _ _ (by decide)]; exact hI1.2.2⟩ (fun hlt j hj => ?_) (fun u hu => ?_)
      · rw [rc_up_s, hf' j hj, ((rc_inc_dg (by omega)).1 hlt).2 j hj]
      · by_cases e : u = t
        · subst e; exact hz
        · exact hf u (by omega)
    refine rc_go 60 (And.intro (fun c1 => absurd c1 (nI_ge (by omega) (by omega))) (fun _ => ?_))
    refine c_haveBeds (V := V) (row := rc_dg (V 12 0) (2 * n) t) rfl hA1 hn hr' (And.intro (fun c => ?_) (fun c => ?_))
    · exact rc_TI.weak (adv σ hI rfl (by unfold rc_pB rc_gd2; rw [rc_bI_0.mp c]; rfl) _ _ (rc_2x n) e31) (fun _ σ' k => k)
    · subst hs0; subst hs1
      refine c_endAsW (V := V) (row := rc_dg (V 12 0) (2 * n) t) (s0 := V 6 g) (s1 := V 6 h') rfl hA1 hn hr' hWg.1 hWh.1 hI.2.1 hI.2.2 g1 g2 hq1 hq2 hWg.2.1 hWh.2.1 (fun f f0 f1 => And.intro (fun c2 => ?_) (fun c2 => ?_))
      · exact rc_TI.weak (adv (rc_up σ 69 f) ⟨hI.1.tr (rc_fr.up (by simp)), by rw [rc_up_s]; exact f0, by rw [rc_up_s]; exact f1⟩ (rc_up_n _ _ (by decide)) (by
          have z := rc_bI_0.mp c2
          unfold rc_pB rc_gd2 rc_wd
          rw [z, Bool.and_false]) _ _ (rc_2x n) (by rw [rc_up_n _ _ (by decide)]; exact e31)) (fun _ σ' k => k)
      · have z : rc_pB V g h' n t = true := by
          have z1 := rc_bool_t c
          have z2 := rc_bool_t c2
          unfold rc_pB rc_gd2 rc_wd
          rw [z1, z2]; rfl
        exact h1 _ (hI.1.tr (rc_fr.up (by simp))) (rc_anyt_t (by omega) z)
theorem c_ln_22 {q1 q2 s0 s1 g h' : Nat} {σ0 : rc_M} (hA : rc_CA σ0 V) (hs0 : s0 = V 6 g) (hs1 : s1 = V 6 h') (hWg : rc_WG V g) (hWh : rc_WG V h') (hG1 : rc_Gs σ0 q1 (rc_wi V g)) (hG2 : rc_Gs σ0 q2 (rc_wi V h')) (hq1 : q1 + 1 ≤ 58) (hq2 : q2 + 1 ≤ 58) {Q' : Option Value → rc_M → Prop} (h : ∀ σ', rc_fr [68, 69] σ0 σ' → Q' (some (.int (rc_bo V g h'))) σ') : ∀ (c n : Nat) (σ : rc_M) (w4 w5 : Value), n + c = 3 → rc_PI σ0 σ s0 s1 → rc_bo V g h' = rc_lv2 (rc_pB V g h') (V 12 0) c n → rc_Tc (d + 5) 52 22 [.ref 67, .ref q1, .ref q2, .int (nI n), w4, w5] [] σ Q' := by
  have hb6 : V 12 0 ≤ 6 := hA.2.2.2.2
  intro c
  induction c with
  | zero =>
    intro n σ w4 w5 hn hI e
    have : n = 3 := by omega
    subst this
    have h' := h σ hI.1
    rw [e] at h'
    exact rc_go 40 (And.intro (fun _ => h') (fun c => absurd (by decide) c))
  | succ c ih =>
    intro n σ w4 w5 hn hI e
    rw [rc_lv2] at e
    refine rc_go 60 (And.intro (fun c1 => absurd c1 (Int32.not_lt.mpr (nI_le (show n ≤ 2 by omega) (by decide)))) (fun _ => ?_))
    refine c_fill (q := 68) (L := 4) rfl rfl (by decide) (by decide) (fun f hf => ?_)
    refine c_power (b := V 12 0) (by rw [rc_up_n _ _ (by decide), hI.1 3 (by simp)]; exact hA.2.2.2.1) (rc_2x n) (by omega) ?_
    refine c_ln_53 hA (by omega) hs0 hs1 hWg hWh hG1 hG2 hq1 hq2 (fun σ' hf' hz => ?_) (fun σ' w4 w5 hI' hz => ?_) (V 12 0 ^ (2 * n)) 0 _ (by omega) ⟨hI.1.tr (rc_fr.up (by simp)), by rw [rc_up_n _ _ (by decide)]; exact hI.2.1, by rw [rc_up_n _ _ (by decide)]; exact hI.2.2⟩ (fun _ j hj => by rw [rc_up_s, hf j (by omega), rc_dg_0]; rfl) (fun u hu => absurd hu (by omega))
    · have h' := h σ' hf'
      rw [e, if_pos hz] at h'
      exact h'
    · exact ih (n + 1) σ' w4 w5 (by omega) hI' (by rw [e, hz, if_neg (by decide)])
theorem c_leastN {q1 q2 g h' : Nat} (hA : rc_CA σ V) (e0 : σ q1 0 = nI (V 6 g)) (e1 : σ q2 0 = nI (V 6 h')) (hWg : rc_WG V g) (hWh : rc_WG V h') (hG1 : rc_Gs σ q1 (rc_wi V g)) (hG2 : rc_Gs σ q2 (rc_wi V h')) (hq1 : q1 + 1 ≤ 58) (hq2 : q2 + 1 ≤ 58) (h : ∀ σ', rc_fr [68, 69] σ σ' → Q (rc_bo V g h') σ') : rc_TI (d + 5) 52 [.ref 67, .ref q1, .ref q2] σ Q := by
  refine rc_go 60 (And.intro hG1.1 (And.intro (rc_vi (n := 6) (i := 0) (by decide) (by decide)) (And.intro hG2.1 (And.intro (rc_vi (n := 6) (i := 1) (by decide) (by decide)) ?_))))
  rw [e0, rc_up_n (k' := q2) _ _ (by omega), e1]
  refine c_ln_22 hA rfl rfl hWg hWh hG1 hG2 hq1 hq2 (fun σ' hf => ⟨_, rfl, h σ' hf⟩) 3 0 _ _ _ rfl ⟨(rc_fr.up (by simp)).tr (rc_fr.up (by simp)), ?_, ?_⟩ rfl
  · rw [rc_up_s, pk_un (by decide), rc_up_s]; exact pk_us
  · rw [rc_up_s]; exact pk_us
theorem c_both {x y : Int32} (hI : rc_CP σ P) (hW : rc_WP n P) (h : ∀ σ', rc_fC σ σ' → rc_CP σ' (o_both P x y).2 → Q (o_both P x y).1 σ') : rc_TI (d + 6) 95 [.ref 2, .int x, .int y] σ Q := by
  have h5 : pV P 12 1 ≤ 6 := Nat.le_trans hW.1.2.1 (by decide)
  have h5' := hW.1.2.1
  refine rc_go 60 (c_hasGuest hI.2.1.2.1 h5 (fun ho => ?_) (fun i hi hx => ?_))
  · refine And.intro (fun _ => ?_) (fun z => absurd rfl z)
    exact c_ref (w := 1) (by decide) (by decide) hI hW (by simp only [o_both, rc_ob_t ho, cond_true]) (fun σ' a b => ⟨_, rfl, h σ' a b⟩)
  · refine And.intro (fun z => absurd z (by decide)) (fun _ => ?_)
    have ox : rc_ob x (pV P 12 1) = false := by rw [hx]; exact rc_ob_f hi (by omega)
    refine c_hasGuest hI.2.1.2.1 h5 (fun ho => ?_) (fun j hj hy => ?_)
    · refine And.intro (fun _ => ?_) (fun z => absurd rfl z)
      exact c_ref (w := 1) (by decide) (by decide) hI hW (by simp only [o_both, ox, rc_ob_t ho, cond_true, cond_false]) (fun σ' a b => ⟨_, rfl, h σ' a b⟩)
    · refine And.intro (fun z => absurd z (by decide)) (fun _ => ?_)
      have oy : rc_ob y (pV P 12 1) = false := by rw [hy]; exact rc_ob_f hj (by omega)
      refine And.intro (fun c => ?_) (fun c => ?_)
      · have eo : o_both P x y = (rc_bo (pV P) (min i j) (max i j), P) := by
          simp only [o_both, ox, oy, cond_false, if_neg c]
          rw [hx, hy, rc_ci (by omega), rc_ci (by omega)]
        rw [eo] at h
        have emin : (if y < x then y else x) = nI (min i j) := by
          rw [hx, hy]
          by_cases z : j < i
          · rw [if_pos (nI_lt z (by omega)), Nat.min_eq_right (by omega)]
          · rw [if_neg (fun q => z ((nI_ltI (by omega) (by omega)).mp q)), Nat.min_eq_left (by omega)]
        have emax : (if x < y then y else x) = nI (max i j) := by
          rw [hx, hy]
          by_cases z : i < j
          · rw [if_pos (nI_lt z (by omega)), Nat.max_eq_right (by omega)]
          · rw [if_neg (fun q => z ((nI_ltI (by omega) (by omega)).mp q)), Nat.max_eq_left (by omega)]
        have hm1 : min i j < pV P 12 1 := by omega
        have hm2 : max i j < pV P 12 1 := by omega
        refine Exists.intro (21 + 2 * min i j) (And.intro rfl (And.intro (by rw [emin]; exact rc_vi (n := 5) (by omega) (by decide)) (And.intro (by rw [emin, rc_ci (by omega)]; exact rc_rho5 _ (by omega)) ?_)))
        refine Exists.intro (21 + 2 * max i j) (And.intro rfl (And.intro (by rw [emax]; exact rc_vi (n := 5) (by omega) (by decide)) (And.intro (by rw [emax, rc_ci (by omega)]; exact rc_rho5 _ (by omega)) ?_)))
        have hc1 := hI.2.1.2.2.2.2.2.1 _ hm1
        have hc2 := hI.2.1.2.2.2.2.2.1 _ hm2
        refine c_leastN (g := min i j) (h' := max i j) (hI.CA hW) hc1.1 hc2.1 (hW.1.2.2.2.2.2.1 _ hm1) (hW.1.2.2.2.2.2.1 _ hm2) (hc1.gs (by omega)) (hc2.gs (by omega)) (by omega) (by omega) (fun σ' hf => ⟨_, rfl, h σ' (hf.fC (by simp)) (hI.fr hW hf (by simp))⟩)
      · exact c_ref (w := 1) (by decide) (by decide) hI hW (by simp only [o_both, ox, oy, cond_false, if_pos c]) (fun σ' a b => ⟨_, rfl, h σ' a b⟩)
end RPb
