section RBm
variable {d n : Nat} {σ : rc_M} {P : rc_P} {V : rc_V} {Q : Int32 → rc_M → Prop}
/-! bestOrder, the model's side -/
def rc_BM (σ : rc_M) (V : rc_V) (r N k : Nat) : Prop := σ 80 41 = (if k = 0 then -1 else nI (rc_fo V r N (rc_bi (rc_fo V r N) k))) ∧ (0 < k → ∀ i, i < N → σ 108 i = nI (rc_pm N (rc_bi (rc_fo V r N) k) i))
theorem rc_uc_le {u : Nat} : ∀ (h g : Nat), g ≤ h → rc_uc u g ≤ rc_uc u h := by
  intro h
  induction h with
  | zero => intro g hg; have : g = 0 := by omega
            subst this; exact Nat.le_refl _
  | succ h ih =>
    intro g hg
    by_cases e : g = h + 1
    · subst e; exact Nat.le_refl _
    · rw [rc_uc]; have := ih g (by omega); omega
theorem rc_fq41 {x : Int32} : rc_fq σ (rc_up σ 80 (upd (σ 80) 41 x)) := fun k j hk => by
  by_cases e : k = 80
  · subst e
    rw [rc_up_s]
    by_cases e2 : j = 41
    · subst e2; exact absurd hk (by decide)
    · rw [pk_un e2]
  · rw [rc_up_n _ _ e]
theorem t_or_34 {N r : Nat} {x1 x3 x4 : Int32} {p : Nat → Nat} (hN : N ≤ 5) (hp : ∀ i, i < N → σ 107 i = nI (p i)) {Q' : Option Value → rc_M → Prop} (h : ∀ f, (∀ i, i < N → f i = nI (p i)) → Q' none (rc_up σ 108 f)) : ∀ (c i : Nat) (f : Nat → Int32), i + c = N → (∀ j, j < i → f j = nI (p j)) → rc_Tc d 179 34 [.ref 80, .int x1, .int (nI N), .int x3, .int x4, .int (nI i)] [] (rc_up σ 108 f) Q' := by
  intro c
  induction c with
  | zero =>
    intro i f hi hf
    have : i = N := by omega
    subst this
    exact rc_go 40 (And.intro (fun _ => h f hf) (fun c => absurd (nI_le (Nat.le_refl _) (by omega)) c))
  | succ c ih =>
    intro i f hi hf
    have key := ih (i + 1) (upd f i (nI (p i))) (by omega) (fun j hj => by
      by_cases e : j = i
      · subst e; exact pk_us
      · rw [pk_un e]; exact hf j (by omega))
    rw [← nI_1] at key
    refine rc_go 60 (And.intro (fun c1 => absurd c1 (nI_ge (by omega) (by omega))) (fun _ => ?_))
    refine And.intro (rc_vi (n := 5) (by omega) (by decide)) (And.intro (rc_vi (n := 5) (by omega) (by decide)) ?_)
    rw [rc_ci (by omega), rc_up_n (k := 108) (k' := 107) _ _ (by decide), hp i (by omega), rc_up_s, rc_uu]
    exact key
theorem t_order {r N : Nat} {σ0 : rc_M} (hM : rc_Mod σ0 V) (hW : rc_WF n V) (hr : r < V 12 0) (eN : N = V 12 1) : ∀ (c m a : Nat) (σ : rc_M), m + c = N → (a + 1) * rc_fc c ≤ rc_fc N → rc_fq σ0 σ → (∀ i, i < m → σ 107 i = nI (rc_pm N (a * rc_fc c) i)) → rc_BM σ V r N (a * rc_fc c) → ∀ (x y z : Int32), x = nI r → y = nI m → z = nI (rc_bits (rc_pm N (a * rc_fc c)) m) → ∀ (Q : rc_M → Prop), (∀ σ', rc_fq σ0 σ' → (∀ i, i < m → σ' 107 i = σ 107 i) → rc_BM σ' V r N ((a + 1) * rc_fc c) → Q σ') → rc_TV (d + 5 + c) 179 [.ref 80, .int x, .int y, .int z] σ Q := by
  have hN : N ≤ 5 := by rw [eN]; exact hW.2.1
  intro c
  induction c with
  | zero =>
    intro m a σ hm ha hf hp hB x y z hx hy hz Q h
    subst hx; subst hy; subst hz
    have : m = N := by omega
    subst this
    have e1 : rc_fc 0 = 1 := rfl
    rw [e1, Nat.mul_one] at hp hB ha h ⊢
    have hM1 := hM.fq hf
    have e8 : σ 80 8 = nI m := by rw [eN]; exact hM1.2.1
    have hod : ∀ j, j < m → rc_pm m a j < m := rc_pm_f m (by omega) a (by omega)
    have hle : rc_fo V r m a ≤ m := rc_ho_le (V := V) (r := r) (od := rc_pm m a) m
    have hle2 : rc_fo V r m (rc_bi (rc_fo V r m) a) ≤ m := rc_ho_le (V := V) (r := r) (od := rc_pm m (rc_bi (rc_fo V r m) a)) m
    obtain ⟨b1, b2⟩ := hB
    refine rc_go 60 (And.intro (fun c => absurd e8.symm c) (fun _ => ?_))
    refine t_had (V := V) (r := r) (m := m) (od := rc_pm m a) rfl rfl hM1 hW hr hN (fun j hj => ⟨hp j hj, by have := hod j hj; omega⟩) ?_
    refine And.intro (fun c2 => ?_) (fun c2 => ?_) <;> rw [b1] at c2
    · have ha0 : a ≠ 0 := fun z => by
        rw [if_pos z] at c2
        exact absurd (Int32.le_trans (nI_pos' (show rc_fo V r m a < 2 ^ 31 by omega)) c2) (by decide)
      rw [if_neg ha0] at c2 b1
      have c2 : nI (rc_fo V r m a) ≤ nI (rc_fo V r m (rc_bi (rc_fo V r m) a)) := c2
      have e : rc_bi (rc_fo V r m) (a + 1) = rc_bi (rc_fo V r m) a := by rw [rc_bi, if_neg ha0, if_neg (fun z => nI_ge z (by omega) c2)]
      exact ⟨rfl, h σ hf (fun _ _ => rfl) ⟨by rw [if_neg (by omega), e]; exact b1, fun _ i hi => by rw [e]; exact b2 (by omega) i hi⟩⟩
    · have e : rc_bi (rc_fo V r m) (a + 1) = a := by
        rw [rc_bi]
        by_cases ha0 : a = 0
        · rw [if_pos ha0, ha0]
        · rw [if_neg ha0] at c2
          have c2 : ¬ nI (rc_fo V r m a) ≤ nI (rc_fo V r m (rc_bi (rc_fo V r m) a)) := c2
          rw [if_neg ha0, if_pos (Nat.lt_of_not_le (fun z => c2 (nI_le z (by omega))))]
      have hf1 : rc_fq σ0 (rc_up σ 80 (upd (σ 80) 41 (nI (rc_fo V r m a)))) := hf.tr rc_fq41
      have key := t_or_34 (σ := rc_up σ 80 (upd (σ 80) 41 (nI (rc_fo V r m a)))) (d := d + 5) (x1 := nI r) (x3 := nI (rc_bits (rc_pm m a) m)) (x4 := nI (rc_fo V r m a)) (p := rc_pm m a) (r := r) hN (fun i hi => by rw [rc_up_n _ _ (by decide)]; exact hp i hi) (Q' := fun v σ => v = none ∧ Q σ) (fun f hf' => ⟨rfl, h _ (hf1.tr (rc_fq.up (by omega))) (fun i hi => by rw [rc_up_n _ _ (by decide), rc_up_n _ _ (by decide)]) ⟨by rw [rc_up_n _ _ (by decide), rc_up_s, pk_us, if_neg (by omega), e], fun _ i hi => by rw [rc_up_s, e]; exact hf' i hi⟩⟩) m 0 (rc_up σ 80 (upd (σ 80) 41 (nI (rc_fo V r m a))) 108) (by omega) (fun j hj => absurd hj (by omega))
      rw [rc_ui] at key
      exact key
  | succ c ih =>
    intro m a σ hm ha hf hp hB x y z hx hy hz Q h
    subst hx; subst hy; subst hz
    have e8 : ∀ σ1, rc_fq σ0 σ1 → σ1 80 8 = nI N := fun σ1 hf1 => by rw [eN]; exact (hM.fq hf1).2.1
    have em : N - c - 1 = m := by omega
    obtain ⟨u1, u2⟩ := rc_pm_m (n := N) (c := c) (a := a) (by omega) (by omega) ha
    rw [em] at u1 u2
    have hfc : rc_fc (c + 1) = (c + 1) * rc_fc c := rfl
    have hub : rc_bits (rc_pm N (a * rc_fc (c + 1))) m < 64 := Nat.lt_of_lt_of_le (rc_bits_lt (b := 5) m (fun j hj => by
      have hpos := (rc_fc_b (c + 1) (by omega)).2
      have := rc_pm_f N (by omega) (a * rc_fc (c + 1)) (by rw [Nat.add_mul] at ha; omega) j (by omega)
      omega)) (by decide)
    have k64 : ∀ (c' g : Nat) (σ1 : rc_M) (w5 : Value), g + c' = N → rc_fq σ0 σ1 → (∀ i, i < m → σ1 107 i = σ 107 i) → rc_BM σ1 V r N (a * rc_fc (c + 1) + rc_uc (rc_bits (rc_pm N (a * rc_fc (c + 1))) m) g * rc_fc c) → rc_Tc (d + 5 + (c + 1)) 179 64 [.ref 80, .int (nI r), .int (nI m), .int (nI (rc_bits (rc_pm N (a * rc_fc (c + 1))) m)), .int (nI g), w5] [] σ1 (fun v σ => v = none ∧ Q σ) := by
      intro c'
      induction c' with
      | zero =>
        intro g σ1 w5 hg hf1 hp1 hB1
        have : g = N := by omega
        subst this
        rw [u1, ← hfc] at hB1
        refine rc_go 40 (And.intro (fun _ => ⟨rfl, h σ1 hf1 hp1 (by rw [Nat.add_mul, Nat.one_mul]; exact hB1)⟩) (fun c => absurd (by rw [e8 σ1 hf1]; exact nI_le (Nat.le_refl _) (by omega)) c))
      | succ c' ih' =>
        intro g σ1 w5 hg hf1 hp1 hB1
        refine rc_go 60 (And.intro (fun c1 => absurd (by rw [e8 σ1 hf1] at c1; exact c1) (nI_ge (by omega) (by omega))) (fun _ => ?_))
        refine t_isOneOf rfl rfl hub (by omega) (And.intro (fun c2 => ?_) (fun c2 => ?_))
        · have z := rc_bool_t c2
          have key := ih' (g + 1) σ1 w5 (by omega) hf1 hp1 (by rw [rc_uc, z]; exact hB1)
          rw [← nI_1] at key
          exact key
        · have z : (rc_bits (rc_pm N (a * rc_fc (c + 1))) m).testBit g = false := by
            cases hz : (rc_bits (rc_pm N (a * rc_fc (c + 1))) m).testBit g with
            | false => rfl
            | true => rw [hz] at c2; exact absurd c2 (by decide)
          obtain ⟨v1, v2⟩ := u2 g (by omega) z
          have us : rc_uc (rc_bits (rc_pm N (a * rc_fc (c + 1))) m) (g + 1) = rc_uc (rc_bits (rc_pm N (a * rc_fc (c + 1))) m) g + 1 := by rw [rc_uc, z]; rfl
          have ul := rc_uc_le (u := rc_bits (rc_pm N (a * rc_fc (c + 1))) m) N (g + 1) (by omega)
          have nx := ih' (g + 1)
          rw [us] at nx ul
          rw [u1] at ul
          generalize rc_uc (rc_bits (rc_pm N (a * rc_fc (c + 1))) m) g = u at *
          have ea : (a * (c + 1) + u) * rc_fc c = a * rc_fc (c + 1) + u * rc_fc c := by rw [hfc, Nat.add_mul, Nat.mul_assoc]
          have ea2 : (a * (c + 1) + u + 1) * rc_fc c = a * rc_fc (c + 1) + (u + 1) * rc_fc c := by rw [hfc, Nat.add_assoc, Nat.add_mul, Nat.mul_assoc]
          have hbd : (a * (c + 1) + u + 1) * rc_fc c ≤ rc_fc N := by
            refine Nat.le_trans ?_ ha
            rw [hfc, ← Nat.mul_assoc]
            refine Nat.mul_le_mul_right _ ?_
            rw [Nat.add_mul, Nat.one_mul]
            omega
          refine And.intro (rc_vi (n := 5) (by omega) (by decide)) ?_
          rw [rc_ci (by omega)]
          refine ih (m + 1) (a * (c + 1) + u) (rc_up σ1 107 (upd (σ1 107) m (nI g))) (by omega) hbd (hf1.tr (rc_fq.up (by omega))) (fun i hi => ?_) ?_ _ _ _ rfl (nI_1 m) ?_ _ (fun σ2 hf2 hp2 hB2 => ?_)
          · rw [rc_up_s, ea]
            by_cases e : i = m
            · subst e; rw [pk_us, v2]
            · rw [pk_un e, hp1 i (by omega), hp i (by omega), v1 i (by omega)]
          · rw [ea]
            exact ⟨by rw [rc_up_n _ _ (by decide)]; exact hB1.1, fun q i hi => by rw [rc_up_n _ _ (by decide)]; exact hB1.2 q i hi⟩
          · rw [rc_shl _ (by omega), fa_or, ea, rc_bits, v2, rc_bits_congr (row := rc_pm N (a * rc_fc (c + 1) + u * rc_fc c)) (row' := rc_pm N (a * rc_fc (c + 1))) m v1]
          · rw [ea2] at hB2
            have key := nx σ2 w5 (by omega) hf2 (fun i hi => by rw [hp2 i (by omega), rc_up_s, pk_un (by omega)]; exact hp1 i hi) hB2
            rw [← nI_1] at key
            exact key
    refine rc_go 60 (And.intro (fun _ => ?_) (fun c1 => ?_))
    · exact k64 N 0 σ _ (by omega) hf (fun _ _ => rfl) (by rw [rc_uc, Nat.zero_mul, Nat.add_zero]; exact hB)
    · rw [e8 σ hf] at c1
      exact absurd ((nI_eq (by omega) (by omega)).mp c1) (by omega)
theorem t_bestOrder {x y : Int32} (hI : rc_MP σ P) (hW : rc_WP n P) (h : ∀ σ', rc_fM σ σ' → rc_MP σ' (o_best P x y).2 → Q (o_best P x y).1 σ') : rc_TI (d + 11) 180 [.ref 80, .int x, .int y] σ Q := by
  have h6 := hW.1.1
  have h5 := hW.1.2.1
  refine rc_go 80 (t_isNoRoom hI.1.1 h6 (fun ho => ?_) (fun r hr hx => ?_))
  · refine And.intro (fun c => absurd c (by decide)) (fun _ => ?_)
    exact t_ref (w := 1) (by decide) (by decide) hI (by simp only [o_best, rc_ob_t ho, cond_true]) (fun σ' a b => ⟨_, rfl, h σ' a b⟩)
  · subst hx
    refine And.intro (fun _ => ?_) (fun c => absurd rfl c)
    have hr6 : r < 6 := by omega
    have e1 := rc_ob_f hr (show pV P 12 0 ≤ 2000 by omega)
    have ec : (nI r).toNatClampNeg = r := rc_ci (by omega)
    have ek : σ 82 r = nI (pV P 0 r) := (hI.1.2.2.2.2.1 r hr).1
    have hk7 := (hW.1.2.2.2.2.1 r hr6).1
    refine And.intro (rc_vi (n := 6) hr6 (by decide)) ?_
    rw [ec, ek]
    refine And.intro (fun c2 => ?_) (fun c2 => ?_)
    · have hk : pV P 0 r = 1 := (nI_eq (by omega) (by decide)).mp (show nI (pV P 0 r) = nI 1 from c2)
      refine And.intro (fun c3 => ?_) (fun c3 => ?_)
      · have c3' : ¬ y < -1 := Int32.not_lt.mpr c3
        have ho : o_best P (nI r) y = (rc_bto (pV P) r y, P) := by simp only [o_best, e1, cond_false, ec, if_pos hk, if_neg c3']
        rw [ho] at h
        have hN : pV P 12 1 = pV P 12 1 := rfl
        obtain ⟨N, eN⟩ : ∃ N, N = pV P 12 1 := ⟨_, rfl⟩
        have fp := rc_fc_b N (by omega)
        obtain ⟨d', ed⟩ : ∃ d', d + 10 = d' + 5 + N := ⟨d + 5 - N, by omega⟩
        have key : ∀ Q2 : rc_M → Prop, (∀ σ', rc_fq σ σ' → rc_BM σ' (pV P) r N (rc_fc N) → Q2 σ') → rc_TV (d + 10) 179 [.ref 80, .int (nI r), .int 0, .int 0] (rc_up σ 80 (upd (σ 80) 41 (-1))) Q2 := fun Q2 hq => by
          rw [ed]
          exact t_order (V := pV P) hI.1 hW.1 hr eN N 0 0 _ (by omega) (by omega) rc_fq41 (fun i hi => absurd hi (by omega)) ⟨by rw [rc_up_s, pk_us, if_pos (by omega)], fun q => absurd q (by omega)⟩ _ _ _ rfl rfl rfl _ (fun σ' a b c => hq σ' a (by rw [Nat.zero_add, Nat.one_mul] at c; exact c))
        refine key _ (fun σ' hf hB => ?_)
        obtain ⟨hb, hp⟩ := hB
        rw [if_neg (by omega)] at hb
        have hp := hp (by omega)
        have hq := h σ' hf.fM (hI.fq hf)
        subst eN
        have e33 : σ' 80 8 = nI (pV P 12 1) := (hI.fq hf).1.2.1
        refine And.intro (fun c4 => ?_) (fun c4 => ?_)
        · have c4' : ¬ y = -1 := fun z => by rw [z] at c4; exact absurd c4 (by decide)
          refine And.intro (fun c5 => ?_) (fun c5 => ?_)
          · rw [e33] at c5
            unfold rc_bto at hq
            rw [if_neg c4', rc_ob_t (Or.inr c5)] at hq
            exact ⟨_, rfl, hq⟩
          · rw [e33] at c5
            rcases rc_out_or y (n := pV P 12 1) (by omega) with (q | q) | ⟨k, hk, e⟩
            · exact absurd q (Int32.not_lt.mpr c4)
            · exact absurd q c5
            · unfold rc_bto at hq
              rw [if_neg c4', e, rc_ob_f hk (by omega), rc_ci (by omega)] at hq
              subst e
              refine And.intro (rc_vi (n := 5) (by omega) (by decide)) ⟨_, rfl, ?_⟩
              rw [rc_ci (by omega), hp k hk]
              exact hq
        · have c4' : y = -1 := rc_m1 c3 (Int32.not_le.mp c4)
          unfold rc_bto at hq
          rw [if_pos c4'] at hq
          refine ⟨_, rfl, ?_⟩
          rw [hb]
          exact hq
      · exact t_ref (w := 4) (by decide) (by decide) hI (by simp only [o_best, e1, cond_false, ec, if_pos hk, if_pos (Int32.not_le.mp c3)]) (fun σ' a b => ⟨_, rfl, h σ' a b⟩)
    · have hk : ¬ pV P 0 r = 1 := fun z => c2 (by rw [z]; rfl)
      exact t_ref (w := 2) (by decide) (by decide) hI (by simp only [o_best, e1, cond_false, ec, if_neg hk]) (fun σ' a b => ⟨_, rfl, h σ' a b⟩)
end RBm
