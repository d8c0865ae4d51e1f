section RBe
variable {d n : Nat} {σ : rc_M} {P : rc_P} {V : rc_V} {Q : Int32 → rc_M → Prop}
theorem c_swap {x y : Int32} {m i j : Nat} {p : Nat → Nat} (hx : x = nI i) (hy : y = nI j) (hm : m ≤ 5) (hi : i < m) (hj : j < m) (hp : ∀ k, k < m → σ 74 k = nI (p k)) {Q : rc_M → Prop} (h : ∀ f, (∀ k, k < m → f k = nI (rc_swx p i j k)) → Q (rc_up σ 74 f)) : rc_TV d 50 [.ref 73, .int x, .int y] σ Q := by
  subst hx; subst hy
  refine rc_go 60 (And.intro (rc_vi (n := 5) (by omega) (by decide)) (And.intro (rc_vi (n := 5) (by omega) (by decide)) (And.intro (rc_vi (n := 5) (by omega) (by decide)) (And.intro (rc_vi (n := 5) (by omega) (by decide)) ⟨rfl, ?_⟩))))
  rw [rc_ci (show i ≤ 2000 by omega), rc_ci (show j ≤ 2000 by omega), rc_up_s, rc_uu]
  refine h _ (fun k hk => ?_)
  unfold rc_swx
  by_cases e : k = j
  · rw [if_pos e, e, pk_us]; exact hp i hi
  · rw [if_neg e, pk_un e]
    by_cases e2 : k = i
    · rw [if_pos e2, e2, pk_us]; exact hp j hj
    · rw [if_neg e2, pk_un e2]; exact hp k hk
theorem c_np_82 {m : Nat} {x1 x2 x3 : Int32} (hm : m ≤ 5) {Q' : Option Value → rc_M → Prop} : ∀ (f i j : Nat) (p : Nat → Nat) (g : Nat → Int32), j ≤ i + f → j < m → i ≤ m → (∀ k, k < m → g k = nI (p k)) → (∀ g, (∀ k, k < m → g k = nI (rc_rv f p i j k)) → Q' none (rc_up σ 74 g)) → rc_Tc (d + 1) 49 82 [.ref 73, .int x1, .int x2, .int x3, .int (nI i), .int (nI j)] [] (rc_up σ 74 g) Q' := by
  intro f
  induction f with
  | zero =>
    intro i j p g hij hj him hg h
    exact rc_go 40 (And.intro (fun _ => h g hg) (fun c => absurd (nI_le (by omega) (by omega)) c))
  | succ f ih =>
    intro i j p g hij hj him hg h
    rw [rc_rv] at h
    refine rc_go 40 (And.intro (fun c => ?_) (fun c => ?_))
    · rw [if_neg (fun z => nI_ge z (by omega) c)] at h
      exact h g hg
    · have hlt : i < j := Nat.lt_of_not_le (fun z => c (nI_le z (by omega)))
      rw [if_pos hlt] at h
      refine c_swap (p := p) (m := m) rfl rfl hm (by omega) hj (fun k hk => by rw [rc_up_s]; exact hg k hk) (fun f' hf' => ?_)
      have key := ih (i + 1) (j - 1) (rc_swx p i j) f' (by omega) (by omega) (by omega) hf' h
      have e1 : nI (j - 1) = nI j + -1 := by rw [← Int32.sub_eq_add_neg]; obtain ⟨j', rfl⟩ : ∃ j', j = j' + 1 := ⟨j - 1, by omega⟩; rw [nI_pred]; rfl
      rw [← nI_1, e1] at key
      rw [rc_uu]
      exact key
theorem c_np_40 {m pl : Nat} {p : Nat → Nat} {w4 w5 : Value} (hm : m ≤ 5) (hpl : pl + 1 < m) (hp5 : ∀ k, k < m → p k < 6) {g : Nat → Int32} (hg : ∀ k, k < m → g k = nI (p k)) {Q' : Option Value → rc_M → Prop} : ∀ (w : Nat), w < m → (∀ g, (∀ k, k < m → g k = nI (rc_rv m (rc_swx p pl (rc_wth p pl w)) (pl + 1) (m - 1) k)) → Q' none (rc_up σ 74 g)) → rc_Tc (d + 1) 49 40 [.ref 73, .int (nI m), .int (nI pl), .int (nI w), w4, w5] [] (rc_up σ 74 g) Q' := by
  have em : nI m - 1 = nI (m - 1) := by obtain ⟨j', rfl⟩ : ∃ j', m = j' + 1 := ⟨m - 1, by omega⟩; rw [nI_pred]; rfl
  have fin : ∀ w, w < m → (∀ g, (∀ k, k < m → g k = nI (rc_rv m (rc_swx p pl w) (pl + 1) (m - 1) k)) → Q' none (rc_up σ 74 g)) → ∀ x y : Int32, x = nI pl → y = nI w → rc_TV d 50 [.ref 73, .int x, .int y] (rc_up σ 74 g) (fun σ' => rc_Tc (d + 1) 49 82 [.ref 73, .int (nI m), .int (nI pl), .int (nI w), .int (nI pl + 1), .int (nI m - 1)] [] σ' Q') := fun w hw h x y hx hy => by
    refine c_swap (p := p) (m := m) hx hy hm (by omega) hw (fun k hk => by rw [rc_up_s]; exact hg k hk) (fun f' hf' => ?_)
    rw [nI_1, em, rc_uu]
    exact c_np_82 hm m (pl + 1) (m - 1) (rc_swx p pl w) f' (by omega) (by omega) (by omega) hf' h
  intro w
  induction w with
  | zero =>
    intro hw h
    rw [rc_wth] at h
    exact rc_go 40 (And.intro (fun _ => rc_TV.weak (fin 0 hw h _ _ rfl rfl) (fun _ k => k)) (fun c => absurd (nI_le (Nat.zero_le _) (by omega)) c))
  | succ w ih =>
    intro hw h
    rw [rc_wth] at h
    have a1 := hp5 (w + 1) hw
    have a2 := hp5 pl (by omega)
    refine rc_go 60 (And.intro (fun c => ?_) (fun c => ?_))
    · rw [if_neg (fun z => nI_ge z.1 (by omega) c)] at h
      exact rc_TV.weak (fin (w + 1) hw h _ _ rfl rfl) (fun _ k => k)
    · have hlt : pl < w + 1 := Nat.lt_of_not_le (fun z => c (nI_le z (by omega)))
      refine And.intro (rc_vi (n := 5) (by omega) (by decide)) (And.intro (rc_vi (n := 5) (by omega) (by decide)) ?_)
      rw [rc_ci (show w + 1 ≤ 2000 by omega), rc_ci (show pl ≤ 2000 by omega), rc_up_s, hg (w + 1) hw, hg pl (by omega)]
      refine And.intro (fun c2 => ?_) (fun c2 => ?_)
      · rw [if_neg (fun z => nI_ge z.2 (by omega) c2)] at h
        exact rc_TV.weak (fin (w + 1) hw h _ _ rfl rfl) (fun _ k => k)
      · rw [if_pos ⟨hlt, Nat.lt_of_not_le (fun z => c2 (nI_le z (by omega)))⟩] at h
        have key := ih (by omega) h
        have e1 : nI w = nI (w + 1) + -1 := by rw [← Int32.sub_eq_add_neg, nI_pred]
        rw [e1] at key
        exact key
theorem c_np_4 {m : Nat} {p : Nat → Nat} {w3 w4 w5 : Value} (hm : m ≤ 5) (hp5 : ∀ k, k < m → p k < 6) {g : Nat → Int32} (hg : ∀ k, k < m → g k = nI (p k)) {Q' : Option Value → rc_M → Prop} : ∀ (i : Nat), (i = 0 ∨ i < m) → (∀ g, (∀ k, k < m → g k = nI ((match rc_plc p i with | 0 => p | pl + 1 => rc_rv m (rc_swx p pl (rc_wth p pl (m - 1))) (pl + 1) (m - 1)) k)) → Q' none (rc_up σ 74 g)) → rc_Tc (d + 1) 49 4 [.ref 73, .int (nI m), .int (nI i - 1), w3, w4, w5] [] (rc_up σ 74 g) Q' := by
  intro i
  induction i with
  | zero =>
    intro _ h
    rw [rc_plc] at h
    exact rc_go 40 (And.intro (fun _ => And.intro (fun c => absurd c (by decide)) (fun _ => h g hg)) (fun c => absurd rc_nneg c))
  | succ i ih =>
    intro hi h
    have hi : i + 1 < m := by omega
    have em : nI m - 1 = nI (m - 1) := by obtain ⟨j', rfl⟩ : ∃ j', m = j' + 1 := ⟨m - 1, by omega⟩; rw [nI_pred]; rfl
    rw [rc_plc] at h
    have a1 := hp5 (i + 1) hi
    have a2 := hp5 i (by omega)
    rw [nI_pred]
    refine rc_go 60 (And.intro (fun c => absurd c (nI_pos (by omega))) (fun _ => ?_))
    refine And.intro (rc_vi (n := 5) (by omega) (by decide)) (And.intro (by rw [nI_1]; exact rc_vi (n := 5) (by omega) (by decide)) ?_)
    rw [nI_1, rc_ci (show i + 1 ≤ 2000 by omega), rc_ci (show i ≤ 2000 by omega), rc_up_s, hg (i + 1) hi, hg i (by omega)]
    refine And.intro (fun c => And.intro (fun _ => ?_) (fun c2 => absurd (nI_pos' (by omega)) c2)) (fun c => ?_)
    · rw [if_neg (fun z => nI_ge z (by omega) c)] at h
      have key := c_np_40 (σ := σ) (d := d) (w4 := w4) (w5 := w5) hm hi hp5 hg (Q' := Q') (m - 1) (by omega) h
      rw [← em] at key
      exact key
    · rw [if_pos (Nat.lt_of_not_le (fun z => c (nI_le z (by omega))))] at h
      have key := ih (Or.inr (by omega)) h
      have e1 : nI i - 1 = nI i + -1 := by rw [Int32.sub_eq_add_neg]
      rw [e1] at key
      exact key
theorem c_advP {x : Int32} {m : Nat} {p : Nat → Nat} (hx : x = nI m) (hm : m ≤ 5) (hp5 : ∀ k, k < m → p k < 6) (hg : ∀ k, k < m → σ 74 k = nI (p k)) {Q : rc_M → Prop} (h : ∀ g, (∀ k, k < m → g k = nI (rc_npm m p k)) → Q (rc_up σ 74 g)) : rc_TV (d + 1) 49 [.ref 73, .int x] σ Q := by
  subst hx
  rcases Nat.lt_or_ge m 2 with z | z
  · have hz : m = 0 ∨ m = 1 := by omega
    have e : rc_npm m p = p := by rcases hz with rfl | rfl <;> rfl
    rw [e] at h
    have h' := h (σ 74) hg
    rw [rc_ui] at h'
    rcases hz with rfl | rfl
    · exact rc_go 40 (rc_go 40 (And.intro (fun _ => And.intro (fun c => absurd c (by decide)) (fun _ => ⟨rfl, h'⟩)) (fun c => absurd (by decide) c)))
    · exact rc_go 40 (rc_go 40 (And.intro (fun _ => And.intro (fun c => absurd c (by decide)) (fun _ => ⟨rfl, h'⟩)) (fun c => absurd (by decide) c)))
  · have key := c_np_4 (σ := σ) (d := d) (w3 := .null) (w4 := .null) (w5 := .null) hm hp5 hg (Q' := fun v σ => v = none ∧ Q σ) (m - 1) (Or.inr (by omega)) (fun g hg' => ⟨rfl, h g hg'⟩)
    rw [rc_ui] at key
    have em : nI (m - 1) - 1 = nI m - 2 := by
      obtain ⟨j', rfl⟩ : ∃ j', m = j' + 2 := ⟨m - 2, by omega⟩
      show nI (j' + 1) - 1 = _
      rw [nI_pred]
      exact (rc_subN (a := j' + 2) (b := 2) (by omega)).symm
    rw [em] at key
    exact rc_go 20 key
/-! the first of the best -/
def rc_bi (f : Nat → Nat) : Nat → Nat
  | 0 => 0
  | k + 1 => if k = 0 then 0 else if f (rc_bi f k) < f k then k else rc_bi f k
theorem rc_bi_lt {f : Nat → Nat} : ∀ k, 0 < k → rc_bi f k < k := by
  intro k
  induction k with
  | zero => intro h; omega
  | succ k ih =>
    intro _
    rw [rc_bi]
    by_cases z : k = 0
    · rw [if_pos z]; omega
    · rw [if_neg z]
      split
      · omega
      · have := ih (by omega); omega
def rc_fo (V : rc_V) (r m k : Nat) : Nat := rc_ho V r (rc_pm m k) m
theorem rc_ho_le {r : Nat} {od : Nat → Nat} : ∀ k, rc_ho V r od k ≤ k := by
  intro k
  induction k with
  | zero => exact Nat.le_refl _
  | succ k ih => rw [rc_ho]; have := Bool.toNat_le (rc_hb V r od k); omega
/-- what is kept while the orders are gone through -/
def rc_BI (σ : rc_M) (V : rc_V) (r m k ca cb : Nat) (e : Int32) : Prop := σ ca cb = (if k = 0 then e else nI (rc_fo V r m (rc_bi (rc_fo V r m) k)))
theorem c_fb_50 {r m : Nat} {σ0 : rc_M} (h0 : σ0 0 = rc_wt) (hC : rc_Cls 0 σ0 V) (hW : rc_WF n V) (hr : r < 6) (em : m = V 12 1) {Q' : Option Value → rc_M → Prop} (h : ∀ σ', rc_fr [73, 74, 75] σ0 σ' → σ' 73 3 = nI (rc_fo V r m (rc_bi (rc_fo V r m) (rc_fc m))) → (∀ i, i < m → σ' 75 i = nI (rc_pm m (rc_bi (rc_fo V r m) (rc_fc m)) i)) → Q' none σ') : ∀ (c k : Nat) (σ : rc_M) (w5 : Value), k + c = rc_fc m → rc_fr [73, 74, 75] σ0 σ → (k < rc_fc m → ∀ i, i < m → σ 74 i = nI (rc_pm m k i)) → σ 73 3 = (if k = 0 then -9 else nI (rc_fo V r m (rc_bi (rc_fo V r m) k))) → (0 < k → ∀ i, i < m → σ 75 i = nI (rc_pm m (rc_bi (rc_fo V r m) k) i)) → rc_Tc (d + 4) 48 50 [.ref 73, .ref (9 + 2 * r), .int (nI m), .int (nI (rc_fc m)), .int (nI k), w5] [] σ Q' := by
  have hm : m ≤ 5 := by rw [em]; exact hW.2.1
  obtain ⟨fb, fp⟩ := rc_fc_b m (by omega)
  intro c
  induction c with
  | zero =>
    intro k σ w5 hk hf ho hb hp
    have : k = rc_fc m := by omega
    subst this
    rw [if_neg (by omega)] at hb
    exact rc_go 40 (And.intro (fun _ => h σ hf hb (hp fp)) (fun c => absurd (nI_le (Nat.le_refl _) (by omega)) c))
  | succ c ih =>
    intro k σ w5 hk hf ho hb hp
    have hkl : k < rc_fc m := by omega
    have hod : ∀ j, j < m → rc_pm m k j < m := rc_pm_f m (by omega) k hkl
    have hC1 : rc_Cls 0 σ V := hC.at hW.2.1 (fun q _ _ _ => hf q (by simp; omega))
    have h01 : σ 0 = rc_wt := by rw [hf 0 (by simp)]; exact h0
    have hle := rc_ho_le (V := V) (r := r) (od := rc_pm m k) m
    have hle2 : rc_fo V r m (rc_bi (rc_fo V r m) k) ≤ m := rc_ho_le (V := V) (r := r) (od := rc_pm m (rc_bi (rc_fo V r m) k)) m
    have hle3 : rc_fo V r m k ≤ m := hle
    have adv : ∀ σ1 w5, rc_fr [73, 74, 75] σ0 σ1 → (∀ i, i < m → σ1 74 i = nI (rc_pm m k i)) → σ1 73 3 = nI (rc_fo V r m (rc_bi (rc_fo V r m) (k + 1))) → (∀ i, i < m → σ1 75 i = nI (rc_pm m (rc_bi (rc_fo V r m) (k + 1)) i)) → ∀ x, x = nI m → rc_TV (d + 3) 49 [.ref 73, .int x] σ1 (fun σ' => rc_Tc (d + 4) 48 50 [.ref 73, .ref (9 + 2 * r), .int (nI m), .int (nI (rc_fc m)), .int (nI k + 1), w5] [] σ' Q') := fun σ1 w5 hf1 ho1 hb1 hp1 x hx => by
      refine c_advP (d := d + 2) (p := rc_pm m k) hx hm (fun j hj => by have := hod j hj; omega) ho1 (fun g hg => ?_)
      rw [nI_1]
      refine ih (k + 1) _ w5 (by omega) (hf1.tr (rc_fr.up (by simp))) (fun hlt i hi => ?_) ?_ (fun _ i hi => ?_)
      · rw [rc_up_s, hg i hi, rc_pm_n m (by omega) k hlt i hi]
      · rw [rc_up_n _ _ (by decide), if_neg (by omega)]; exact hb1
      · rw [rc_up_n _ _ (by decide)]; exact hp1 i hi
    refine rc_go 60 (And.intro (fun c1 => absurd c1 (nI_ge (by omega) (by omega))) (fun _ => ?_))
    refine c_wishHad (V := V) (r := r) (m := m) (od := rc_pm m k) rfl h01 hC1 hW hr hm (fun j hj => ⟨ho hkl j hj, by have := hod j hj; omega⟩) ?_
    refine And.intro (fun c2 => ?_) (fun c2 => ?_) <;> rw [hb] at c2
    · have hk0 : k ≠ 0 := fun z => by
        rw [if_pos z] at c2
        exact absurd (Int32.le_trans (nI_pos' (show rc_ho V r (rc_pm m k) m < 2 ^ 31 by omega)) c2) (by decide)
      rw [if_neg hk0] at c2 hb
      have e : rc_bi (rc_fo V r m) (k + 1) = rc_bi (rc_fo V r m) k := by
        have c2 : nI (rc_fo V r m k) ≤ nI (rc_fo V r m (rc_bi (rc_fo V r m) k)) := c2
        rw [rc_bi, if_neg hk0, if_neg (fun z => nI_ge z (by omega) c2)]
      exact rc_TV.weak (adv σ _ hf (ho hkl) (by rw [e]; exact hb) (by rw [e]; exact hp (by omega)) _ rfl) (fun _ k => k)
    · have e : rc_bi (rc_fo V r m) (k + 1) = k := by
        rw [rc_bi]
        by_cases hk0 : k = 0
        · rw [if_pos hk0, hk0]
        · rw [if_neg hk0] at c2
          have c2 : ¬ nI (rc_fo V r m k) ≤ nI (rc_fo V r m (rc_bi (rc_fo V r m) k)) := c2
          rw [if_neg hk0, if_pos (Nat.lt_of_not_le (fun z => c2 (nI_le z (by omega))))]
      have hc : (nI m).toNatClampNeg = m := rc_ci (by omega)
      refine And.intro ⟨rfl, rfl, by decide, by decide, by decide, by decide, nI_pos (by omega), by rw [hc]; show 0 + m ≤ 5; omega, by rw [hc]; show 0 + m ≤ 5; omega⟩ ?_
      refine rc_TV.weak (adv _ (.int (nI (rc_ho V r (rc_pm m k) m))) ((hf.tr (rc_fr.up (k := 73) (by simp))).tr (rc_fr.up (k := 75) (by simp))) (fun i hi => ?_) ?_ (fun i hi => ?_) _ rfl) (fun _ k => k)
      · rw [rc_up_n _ _ (by decide), rc_up_n _ _ (by decide)]; exact ho hkl i hi
      · rw [rc_up_n _ _ (by decide), rc_up_s, pk_us, e]; rfl
      · rw [rc_up_s, rc_cpj (m := m) hc hi, rc_up_n _ _ (by decide), e]; exact ho hkl i hi
theorem c_fb_13 {r m : Nat} {σ0 : rc_M} (h0 : σ0 0 = rc_wt) (hC : rc_Cls 0 σ0 V) (hW : rc_WF n V) (hr : r < 6) (em : m = V 12 1) {Q' : Option Value → rc_M → Prop} (h : ∀ σ', rc_fr [73, 74, 75] σ0 σ' → σ' 73 3 = nI (rc_fo V r m (rc_bi (rc_fo V r m) (rc_fc m))) → (∀ i, i < m → σ' 75 i = nI (rc_pm m (rc_bi (rc_fo V r m) (rc_fc m)) i)) → Q' none σ') : ∀ (c i : Nat) (f : Nat → Int32) (w5 : Value), i + c = m → (∀ j, j < i → f j = nI j) → rc_Tc (d + 4) 48 13 [.ref 73, .ref (9 + 2 * r), .int (nI m), .int (nI (rc_fc i)), .int (nI i), w5] [] (rc_up σ0 74 f) Q' := by
  have hm : m ≤ 5 := by rw [em]; exact hW.2.1
  obtain ⟨fb, fp⟩ := rc_fc_b m (by omega)
  intro c
  induction c with
  | zero =>
    intro i f w5 hi hf
    have : i = m := by omega
    subst this
    refine rc_go 40 (And.intro (fun _ => ?_) (fun c => absurd (nI_le (Nat.le_refl _) (by omega)) c))
    refine c_fb_50 h0 hC hW hr em h (rc_fc i) 0 _ _ (by omega) ((rc_fr.up (k := 74) (by simp)).tr (rc_fr.up (k := 73) (by simp))) (fun _ j hj => ?_) ?_ (fun z => absurd z (by omega))
    · rw [rc_up_n _ _ (by decide), rc_up_s, hf j hj, rc_pm_0 i (by omega) j hj]
    · rw [rc_up_s, pk_us, if_pos rfl]
  | succ c ih =>
    intro i f w5 hi hf
    have key := ih (i + 1) (upd f i (nI i)) w5 (by omega) (fun j hj => by
      by_cases e : j = i
      · subst e; exact pk_us
      · rw [pk_un e]; exact hf j (by omega))
    have e1 : nI (rc_fc (i + 1)) = nI (rc_fc i) * (nI i + 1) := by rw [nI_1, rc_mulN, rc_fc, Nat.mul_comm]
    rw [e1, ← nI_1] at key
    refine rc_go 60 (And.intro (fun c1 => absurd c1 (nI_ge (by omega) (by omega))) (fun _ => ?_))
    refine And.intro (rc_vi (n := 5) (by omega) (by decide)) ?_
    rw [rc_ci (by omega), rc_up_s, rc_uu]
    exact key
theorem c_findBest {r m : Nat} (h0 : σ 0 = rc_wt) (hC : rc_Cls 0 σ V) (hW : rc_WF n V) (hr : r < 6) (em : m = V 12 1) {Q : rc_M → Prop} (h : ∀ σ', rc_fr [73, 74, 75] σ σ' → σ' 73 3 = nI (rc_fo V r m (rc_bi (rc_fo V r m) (rc_fc m))) → (∀ i, i < m → σ' 75 i = nI (rc_pm m (rc_bi (rc_fo V r m) (rc_fc m)) i)) → Q σ') : rc_TV (d + 4) 48 [.ref 73, .ref (9 + 2 * r)] σ Q := by
  have key := c_fb_13 (d := d) h0 hC hW hr em (Q' := fun v σ => v = none ∧ Q σ) (fun σ' a b c => ⟨rfl, h σ' a b c⟩) m 0 (σ 74) .null (by omega) (fun j hj => absurd hj (by omega))
  have e3 : σ 3 3 = nI m := by rw [em]; exact hC.2.1
  rw [rc_ui, ← e3] at key
  exact rc_go 20 key
def rc_bto (V : rc_V) (r : Nat) (y : Int32) : Int32 := if y = -1 then nI (rc_fo V r (V 12 1) (rc_bi (rc_fo V r (V 12 1)) (rc_fc (V 12 1)))) else cond (rc_ob y (V 12 1)) (-9) (nI (rc_pm (V 12 1) (rc_bi (rc_fo V r (V 12 1)) (rc_fc (V 12 1))) y.toNatClampNeg))
def o_best (P : rc_P) (x y : Int32) : Int32 × rc_P := cond (rc_ob x (pV P 12 0)) (o_no P 1) (if pV P 0 x.toNatClampNeg = 1 then (if y < -1 then o_no P 4 else (rc_bto (pV P) x.toNatClampNeg y, P)) else o_no P 2)
theorem rc_m1 {y : Int32} (h1 : -1 ≤ y) (h2 : y < 0) : y = -1 := by
  rw [Int32.le_iff_toInt_le] at h1
  rw [Int32.lt_iff_toInt_lt] at h2
  apply Int32.toInt_inj.mp
  have e1 : (-1 : Int32).toInt = -1 := by decide
  have e2 : (0 : Int32).toInt = 0 := by decide
  rw [e1] at h1 ⊢
  rw [e2] at h2
  omega
theorem c_bestOrder {x y : Int32} (hI : rc_CP σ P) (hW : rc_WP n P) (h : ∀ σ', rc_fC σ σ' → rc_CP σ' (o_best P x y).2 → Q (o_best P x y).1 σ') : rc_TI (d + 5) 107 [.ref 2, .int x, .int y] σ Q := by
  have h6 := hW.1.1
  have h5 := hW.1.2.1
  refine rc_go 80 (c_hasRoom hI.2.1.1 h6 (fun ho => ?_) (fun r hr hx => ?_))
  · refine And.intro (fun c => absurd rfl c) (fun _ => ?_)
    exact c_ref (w := 1) (by decide) (by decide) hI hW (by simp only [o_best, rc_ob_t ho, cond_true]) (fun σ' a b => ⟨_, rfl, h σ' a b⟩)
  · subst hx
    refine And.intro (fun _ => ?_) (fun c => absurd c (by decide))
    have hr6 : r < 6 := by omega
    have e1 := rc_ob_f hr (show pV P 12 0 ≤ 2000 by omega)
    have ec : (nI r).toNatClampNeg = r := rc_ci (by omega)
    have a1 := (rc_rmf r hr6).1
    have ek : σ (9 + 2 * r) 0 = nI (pV P 0 r) := (hI.2.1.2.2.2.2.1 r hr6).1
    have hk7 := (hW.1.2.2.2.2.1 r hr6).1
    refine Exists.intro (9 + 2 * r) (And.intro rfl (And.intro (rc_vi (n := 6) hr6 (by decide)) (And.intro (by rw [ec]; exact rc_rho4 _ hr6) (And.intro a1 ?_))))
    rw [ek]
    refine And.intro (fun c2 => ?_) (fun c2 => ?_)
    · have hk : pV P 0 r = 1 := (nI_eq (by omega) (by decide)).mp (show nI (pV P 0 r) = nI 1 from c2)
      refine And.intro (fun c3 => ?_) (fun c3 => ?_)
      · have c3' : ¬ y < -1 := Int32.not_lt.mpr c3
        have ho : o_best P (nI r) y = (rc_bto (pV P) r y, P) := by simp only [o_best, e1, cond_false, ec, if_pos hk, if_neg c3']
        rw [ho] at h
        refine Exists.intro (9 + 2 * r) (And.intro rfl (And.intro (rc_vi (n := 6) hr6 (by decide)) (And.intro (by rw [ec]; exact rc_rho4 _ hr6) ?_)))
        refine c_findBest (V := pV P) (m := pV P 12 1) hI.1 hI.2.1 hW.1 hr6 rfl (fun σ' hf hb hp => ?_)
        have hq := h σ' (hf.fC (by simp)) (hI.fr hW hf (by simp))
        have e33 : σ' 3 3 = nI (pV P 12 1) := by rw [hf 3 (by simp)]; exact hI.2.1.2.1
        refine And.intro (fun c4 => And.intro (fun c5 => ?_) (fun c5 => ?_)) (fun c4 => ?_)
        · rw [e33] at c5
          unfold rc_bto at hq
          rw [if_neg c4, rc_ob_t (Or.inr c5)] at hq
          exact ⟨_, rfl, hq⟩
        · rw [e33] at c5
          rcases rc_out_or y (n := pV P 12 1) (by omega) with (q | q) | ⟨k, hk, e⟩
          · exfalso
            exact c4 (rc_m1 c3 q)
          · exact absurd q c5
          · unfold rc_bto at hq
            rw [if_neg c4, e, rc_ob_f hk (by omega), rc_ci (by omega)] at hq
            subst e
            refine And.intro (rc_vi (n := 5) (by omega) (by decide)) ⟨_, rfl, ?_⟩
            rw [rc_ci (by omega), hp k hk]
            exact hq
        · unfold rc_bto at hq
          rw [if_pos c4] at hq
          refine ⟨_, rfl, ?_⟩
          rw [hb]
          exact hq
      · exact c_ref (w := 4) (by decide) (by decide) hI hW (by simp only [o_best, e1, cond_false, ec, if_pos hk, if_pos (Int32.not_le.mp c3)]) (fun σ' a b => ⟨_, rfl, h σ' a b⟩)
    · have hk : ¬ pV P 0 r = 1 := fun z => c2 (by rw [z]; rfl)
      exact c_ref (w := 2) (by decide) (by decide) hI hW (by simp only [o_best, e1, cond_false, ec, if_neg hk]) (fun σ' a b => ⟨_, rfl, h σ' a b⟩)
end RBe
