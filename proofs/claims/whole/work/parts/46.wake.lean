section RWa
variable {d n : Nat} {σ : rc_M} {P : rc_P} {V : rc_V} {Q : Int32 → rc_M → Prop}
theorem rc_lc_s {r g : Nat} (hg : g < V 12 1) : rc_lc V r (V 12 1 - g) g = if V 9 g = r + 1 then V 6 g + 1 else rc_lc V r (V 12 1 - (g + 1)) (g + 1) := by
  rw [show V 12 1 - g = (V 12 1 - (g + 1)) + 1 by omega, rc_lc]
theorem rc_ng_l {f j k : Nat} (h : j < k) (hf : f = 6 ∨ f = 8 ∨ f = 9 ∨ f = 10 ∨ f = 11) : rc_ng V k f j = V f j := by
  rcases hf with rfl | rfl | rfl | rfl | rfl <;> exact if_neg (by omega)
theorem rc_ng_j {f j g : Nat} (h : j ≠ g) (hf : f = 6 ∨ f = 8 ∨ f = 9 ∨ f = 10 ∨ f = 11) : rc_ng V g f j = rc_ng V (g + 1) f j := by
  have e : ∀ a b : Nat, (if g ≤ j then a else b) = if g + 1 ≤ j then a else b := fun a b => by
    by_cases z : g + 1 ≤ j
    · rw [if_pos (by omega), if_pos z]
    · rw [if_neg (by omega), if_neg z]
  rcases hf with rfl | rfl | rfl | rfl | rfl <;> exact e _ _
theorem rc_wake_C {σ' : rc_M} {g : Nat} (hC : rc_Cls 0 σ (rc_ng V (g + 1))) (hW : rc_WF n V) (hg : g < V 12 1)
    (hk : ∀ k, k ≠ 21 + 2 * g → (V 9 g ≠ 0 → k ≠ 9 + 2 * (V 9 g - 1)) → σ' k = σ k)
    (h0 : σ' (21 + 2 * g) 0 = nI (rc_mo V g)) (h2 : σ' (21 + 2 * g) 2 = nI (rc_pd V g)) (h3 : σ' (21 + 2 * g) 3 = -9) (h4 : σ' (21 + 2 * g) 4 = rc_cI (V 9 g)) (h5 : σ' (21 + 2 * g) 5 = nI (V 6 g))
    (hr : V 9 g ≠ 0 → (∀ j, j ≠ 5 → σ' (9 + 2 * (V 9 g - 1)) j = σ (9 + 2 * (V 9 g - 1)) j) ∧ σ' (9 + 2 * (V 9 g - 1)) 5 = nI (V 6 g)) : rc_Cls 0 σ' (rc_ng V g) := by
  obtain ⟨c1, c2, c3, c4, c5, c6, c7⟩ := hC
  have hng := hW.2.1
  have hb6 := hW.1
  have h9 := (hW.2.2.2.2.2.1 g hg).2.2.1
  have hk3 : σ' 3 = σ 3 := hk 3 (by omega) (by omega)
  refine ⟨by rw [show 3 + 0 = 3 from rfl, hk3]; exact c1, by rw [show 3 + 0 = 3 from rfl, hk3]; exact c2, by rw [show 3 + 0 = 3 from rfl, hk3]; exact c3, by rw [show 3 + 0 = 3 from rfl, hk3]; exact c4, fun i hi => ?_, fun j hj => ?_, fun t ht => ?_⟩
  · obtain ⟨a1, a2, a3, a4, a5, a6⟩ := c5 i hi
    have e10 : σ' (10 + 2 * i + 0) = σ (10 + 2 * i + 0) := hk _ (by omega) (by omega)
    have e5 : rc_ng V g 5 i = if V 9 g = i + 1 then V 6 g + 1 else rc_ng V (g + 1) 5 i := rc_lc_s hg
    by_cases z : V 9 g = i + 1
    · obtain ⟨r1, r2⟩ := hr (by omega)
      rw [show V 9 g - 1 = i by omega] at r1 r2
      refine ⟨?_, ?_, ?_, ?_, ?_, ?_⟩
      · rw [show 9 + 2 * i + 0 = 9 + 2 * i from rfl, r1 0 (by decide)]; exact a1
      · rw [show 9 + 2 * i + 0 = 9 + 2 * i from rfl, r1 1 (by decide)]; exact a2
      · rw [e10]; exact a3
      · rw [show 9 + 2 * i + 0 = 9 + 2 * i from rfl, r1 3 (by decide)]; exact a4
      · rw [show 9 + 2 * i + 0 = 9 + 2 * i from rfl, r1 4 (by decide)]; exact a5
      · rw [e5, if_pos z]; exact r2
    · have e9 : σ' (9 + 2 * i + 0) = σ (9 + 2 * i + 0) := hk _ (by omega) (by omega)
      refine ⟨?_, ?_, ?_, ?_, ?_, ?_⟩
      · rw [e9]; exact a1
      · rw [e9]; exact a2
      · rw [e10]; exact a3
      · rw [e9]; exact a4
      · rw [e9]; exact a5
      · rw [e9, e5, if_neg z]; exact a6
  · have hj' : j < V 12 1 := hj
    obtain ⟨a1, a2, a3, a4, a5, a6⟩ := c6 j hj
    have e22 : σ' (22 + 2 * j + 0) = σ (22 + 2 * j + 0) := hk _ (by omega) (by omega)
    by_cases z : j = g
    · subst z
      have p : ∀ a b : Nat, (if j ≤ j then a else b) = a := fun a b => if_pos (Nat.le_refl _)
      refine ⟨?_, ?_, ?_, ?_, ?_, fun _ => ?_⟩
      · rw [show rc_ng V j 6 j = rc_mo V j from p _ _]; exact h0
      · rw [e22]; exact a2
      · rw [show rc_ng V j 8 j = rc_pd V j from p _ _]; exact h2
      · rw [show rc_ng V j 9 j = 0 from p _ _]; exact h3
      · rw [show rc_ng V j 10 j = V 9 j from p _ _]; exact h4
      · rw [show rc_ng V j 11 j = V 6 j from p _ _]; exact h5
    · have e21 : σ' (21 + 2 * j + 0) = σ (21 + 2 * j + 0) := hk _ (by omega) (by omega)
      unfold rc_CG
      rw [e21, e22, rc_ng_j z (by omega), rc_ng_j (f := 8) z (by omega), rc_ng_j (f := 9) z (by omega), rc_ng_j (f := 10) z (by omega), rc_ng_j (f := 11) z (by omega)]
      exact ⟨a1, a2, a3, a4, a5, a6⟩
  · rw [hk (6 + 0) (by omega) (by omega), hk (7 + 0) (by omega) (by omega)]; exact c7 t ht
theorem c_wake {x : Int32} {g : Nat} (hx : x = nI g) (hC : rc_Cls 0 σ (rc_ng V (g + 1))) (hW : rc_WF n V) (hg : g < V 12 1) (h8 : σ 8 g = nI (rc_mo V g)) (h : ∀ σ', (∀ k, k < 9 ∨ 30 < k → σ' k = σ k) → rc_Cls 0 σ' (rc_ng V g) → Q (rc_bI (!decide (V 9 g = 0))) σ') : rc_TI (d + 1) 18 [.ref 3, .int x] σ Q := by
  subst hx
  have hng := hW.2.1
  have hb6 := hW.1
  have hg5 : g < 5 := by omega
  have h9 := (hW.2.2.2.2.2.1 g hg).2.2.1
  obtain ⟨b1, b2, b3, b4, b5, b6⟩ := hC.2.2.2.2.2.1 g hg
  have e0 : σ (21 + 2 * g) 0 = nI (V 6 g) := by rw [show V 6 g = rc_ng V (g + 1) 6 g from (rc_ng_l (by omega) (by omega)).symm]; exact b1
  have e2 : σ (21 + 2 * g) 2 = nI (V 8 g) := by rw [show V 8 g = rc_ng V (g + 1) 8 g from (rc_ng_l (by omega) (by omega)).symm]; exact b3
  have e3 : σ (21 + 2 * g) 3 = rc_cI (V 9 g) := by rw [show V 9 g = rc_ng V (g + 1) 9 g from (rc_ng_l (by omega) (by omega)).symm]; exact b4
  have a1 := (rc_gsf g hg5).1
  have hc : (nI g).toNatClampNeg = g := rc_ci (by omega)
  have h31 : σ 3 1 = nI (V 12 0) := hC.1
  refine rc_go 160 (Exists.intro (21 + 2 * g) (And.intro rfl (And.intro (rc_vi (n := 5) hg5 (by decide)) (And.intro (by rw [hc]; exact rc_rho5 _ hg5) (And.intro a1 ?_)))))
  by_cases hz : V 9 g = 0
  · rw [show rc_bI (!decide (V 9 g = 0)) = 0 by simp [hz, rc_bI]] at h
    refine c_hasRoom (n := V 12 0) h31 hb6 (fun _ => ?_) (fun j hj he => ?_)
    · refine And.intro a1 (And.intro a1 (And.intro a1 (And.intro a1 (And.intro (fun _ => ?_) (fun z => absurd rfl z)))))
      refine And.intro (rc_vi (n := 5) hg5 (by decide)) (And.intro a1 (And.intro a1 ⟨Or.inl rfl, _, rfl, ?_⟩))
      refine h _ (fun k hk => by rw [rc_up_n _ _ (by omega), rc_up_n _ _ (by omega), rc_up_n _ _ (by omega), rc_up_n _ _ (by omega)]) (rc_wake_C hC hW hg (fun k hk _ => by rw [rc_up_n _ _ hk, rc_up_n _ _ hk, rc_up_n _ _ hk, rc_up_n _ _ hk]) ?_ ?_ ?_ ?_ ?_ (fun q => absurd hz q))
      · rw [rc_up_s, pk_un (by decide), rc_up_s, pk_us, hc, rc_up_n _ _ (by omega), rc_up_n _ _ (by omega)]; exact h8
      · rw [rc_up_s, pk_un (by decide), rc_up_s, pk_un (by decide), rc_up_s, pk_un (by decide), rc_up_s, pk_un (by decide), e2, rc_pd, if_pos hz]
      · rw [rc_up_s, pk_us]
      · rw [rc_up_s, pk_un (by decide), rc_up_s, pk_un (by decide), rc_up_s, pk_un (by decide), rc_up_s, pk_us, e3]
      · rw [rc_up_s, pk_un (by decide), rc_up_s, pk_un (by decide), rc_up_s, pk_us, rc_up_s, pk_un (by decide), e0]
    · rw [e3, hz] at he
      exact absurd (show (-9 : Int32) < 0 by decide) (by rw [show (-9 : Int32) = nI j from he]; exact nI_pos (by omega))
  · rw [show rc_bI (!decide (V 9 g = 0)) = 1 by simp [hz, rc_bI]] at h
    have egp : σ (21 + 2 * g) 3 = nI (V 9 g - 1) := by rw [e3, rc_cI_p hz]
    have hr6 : V 9 g - 1 < 6 := by omega
    generalize hre : V 9 g - 1 = r at *
    have aR := (rc_rmf r hr6).1
    have e4 : σ (9 + 2 * r) 4 = nI (V 4 r) := (hC.2.2.2.2.1 r hr6).2.2.2.2.1
    have ne1 : 21 + 2 * g ≠ 9 + 2 * r := by omega
    have hin : vp_in (nI r) 6 := rc_vi hr6 (by decide)
    have hrho : rc_rho 4 (nI r).toNatClampNeg = some (9 + 2 * r) := by rw [rc_ci (by omega)]; exact rc_rho4 _ hr6
    refine c_hasRoom (n := V 12 0) h31 hb6 (fun ho => absurd ho (by rw [egp]; exact rc_out_not (by omega) (by omega))) (fun j hj he => ?_)
    refine And.intro a1 (And.intro a1 (And.intro a1 (And.intro a1 (And.intro (fun z => absurd z (by decide)) (fun _ => And.intro a1 ?_)))))
    have g3 : rc_up (rc_up σ (21 + 2 * g) (upd (σ (21 + 2 * g)) 4 (σ (21 + 2 * g) 3))) (21 + 2 * g) (upd (rc_up σ (21 + 2 * g) (upd (σ (21 + 2 * g)) 4 (σ (21 + 2 * g) 3)) (21 + 2 * g)) 5 (rc_up σ (21 + 2 * g) (upd (σ (21 + 2 * g)) 4 (σ (21 + 2 * g) 3)) (21 + 2 * g) 0)) = rc_up σ (21 + 2 * g) (upd (upd (σ (21 + 2 * g)) 4 (nI r)) 5 (nI (V 6 g))) := by
      rw [rc_up_s, rc_uu, pk_un (by decide), e0, egp]
    have s3 : rc_up σ (21 + 2 * g) (upd (upd (σ (21 + 2 * g)) 4 (nI r)) 5 (nI (V 6 g))) (21 + 2 * g) 3 = nI r := by rw [rc_up_s, pk_un (by decide), pk_un (by decide)]; exact egp
    rw [g3, s3]
    refine Exists.intro (9 + 2 * r) (And.intro rfl (And.intro hin (And.intro hrho (And.intro a1 (And.intro aR (And.intro a1 (And.intro a1 ?_)))))))
    have g4 : rc_up (rc_up σ (21 + 2 * g) (upd (upd (σ (21 + 2 * g)) 4 (nI r)) 5 (nI (V 6 g)))) (9 + 2 * r) (upd (rc_up σ (21 + 2 * g) (upd (upd (σ (21 + 2 * g)) 4 (nI r)) 5 (nI (V 6 g))) (9 + 2 * r)) 5 (rc_up σ (21 + 2 * g) (upd (upd (σ (21 + 2 * g)) 4 (nI r)) 5 (nI (V 6 g))) (21 + 2 * g) 0)) = rc_up (rc_up σ (21 + 2 * g) (upd (upd (σ (21 + 2 * g)) 4 (nI r)) 5 (nI (V 6 g)))) (9 + 2 * r) (upd (σ (9 + 2 * r)) 5 (nI (V 6 g))) := by
      rw [rc_up_s, pk_un (by decide), pk_un (by decide), e0, rc_up_n _ _ ne1.symm]
    rw [g4]
    have s4 : rc_up (rc_up σ (21 + 2 * g) (upd (upd (σ (21 + 2 * g)) 4 (nI r)) 5 (nI (V 6 g)))) (9 + 2 * r) (upd (σ (9 + 2 * r)) 5 (nI (V 6 g))) (21 + 2 * g) 3 = nI r := by rw [rc_up_n _ _ ne1]; exact s3
    rw [s4]
    refine Exists.intro (9 + 2 * r) (And.intro rfl (And.intro hin (And.intro hrho (And.intro aR (And.intro a1 ?_)))))
    refine And.intro (rc_vi (n := 5) hg5 (by decide)) (And.intro a1 (And.intro a1 ⟨Or.inr rfl, _, rfl, ?_⟩))
    refine h _ (fun k hk => by rw [rc_up_n _ _ (by omega), rc_up_n _ _ (by omega), rc_up_n _ _ (by omega), rc_up_n _ _ (by omega), rc_up_n _ _ (by omega)]) (rc_wake_C hC hW hg (fun k hk hk2 => by have := hk2 hz; rw [hre] at this; rw [rc_up_n _ _ hk, rc_up_n _ _ hk, rc_up_n _ _ hk, rc_up_n _ _ this, rc_up_n _ _ hk]) ?_ ?_ ?_ ?_ ?_ (fun q => ?_))
    · rw [rc_up_s, pk_un (by decide), rc_up_s, pk_us, hc, rc_up_n _ _ (by omega), rc_up_n _ _ (by omega), rc_up_n _ _ (by omega)]; exact h8
    · rw [rc_up_s, pk_un (by decide), rc_up_s, pk_un (by decide), rc_up_s, pk_us, rc_up_n _ _ ne1, rc_up_s, pk_un (by decide), pk_un (by decide), e2, rc_up_s, pk_un (by decide), e4, nI_add, rc_pd, if_neg hz, hre]
    · rw [rc_up_s, pk_us]
    · rw [rc_up_s, pk_un (by decide), rc_up_s, pk_un (by decide), rc_up_s, pk_un (by decide), rc_up_n _ _ ne1, rc_up_s, pk_un (by decide), pk_us, rc_cI_p hz, hre]
    · rw [rc_up_s, pk_un (by decide), rc_up_s, pk_un (by decide), rc_up_s, pk_un (by decide), rc_up_n _ _ ne1, rc_up_s, pk_us]
    · rw [hre]
      refine ⟨fun j hj => ?_, ?_⟩
      · rw [rc_up_n _ _ ne1.symm, rc_up_n _ _ ne1.symm, rc_up_n _ _ ne1.symm, rc_up_s, pk_un hj]
      · rw [rc_up_n _ _ ne1.symm, rc_up_n _ _ ne1.symm, rc_up_n _ _ ne1.symm, rc_up_s, pk_us]
theorem rc_sl_s (k : Nat) : rc_sl V (k + 1) = rc_sl V k + (!decide (V 9 k = 0)).toNat := by
  rw [rc_sl]
  by_cases z : V 9 k = 0 <;> simp [z]
theorem rc_sl_le : ∀ k m, k ≤ m → rc_sl V k ≤ rc_sl V m := by
  intro k m h
  induction m with
  | zero => have : k = 0 := by omega
            subst this; exact Nat.le_refl _
  | succ m ih =>
    by_cases z : k = m + 1
    · subst z; exact Nat.le_refl _
    · have := ih (by omega)
      rw [rc_sl]
      omega
theorem c_pass_36 (hW : rc_WF n V) {Q' : Option Value → rc_M → Prop} (h : ∀ σ', (∀ k, k < 3 ∨ (3 < k ∧ k < 9) ∨ 30 < k → σ' k = σ k) → rc_Cls 0 σ' (rc_nf V) → Q' (some (.int (nI (rc_sl V (V 12 1))))) σ') :
    ∀ (k : Nat) (σ1 : rc_M), k ≤ V 12 1 → (∀ i, i < 9 ∨ 30 < i → σ1 i = σ i) → rc_Cls 0 σ1 (rc_ng V k) → (∀ j, j < k → σ1 8 j = nI (rc_mo V j)) → rc_Tc (d + 2) 15 36 [.ref 3, .int (nI (rc_sl V (V 12 1) - rc_sl V k)), .int (nI k - 1)] [] σ1 Q' := by
  have hng := hW.2.1
  intro k
  induction k with
  | zero =>
    intro σ1 _ hf hC h8
    refine rc_go 40 (And.intro (fun _ => ?_) (fun c => absurd rc_nneg c))
    have e4 : σ1 3 4 = nI (V 12 2) := hC.2.2.1
    show Q' (some (.int (nI (rc_sl V (V 12 1) - rc_sl V 0)))) (rc_up σ1 3 (upd (σ1 3) 4 (σ1 3 4 + 1)))
    rw [e4, nI_1]
    refine h _ (fun k hk => by rw [rc_up_n _ _ (by omega)]; exact hf k (by omega)) ?_
    have e : ∀ k, k ≠ 3 → rc_up σ1 3 (upd (σ1 3) 4 (nI (V 12 2 + 1))) k = σ1 k := fun k hk => rc_up_n _ _ hk
    obtain ⟨h1, h2, h3, h4, h5, h6, h7⟩ := hC
    refine ⟨?_, ?_, ?_, ?_, fun i hi => (h5 i hi).fr (e _ (by omega)) (e _ (by omega)), fun g hg => (h6 g hg).fr (e _ (by omega)) (e _ (by omega)), fun u hu => ?_⟩
    · rw [show 3 + 0 = 3 from rfl, rc_up_s, pk_un (by decide)]; exact h1
    · rw [show 3 + 0 = 3 from rfl, rc_up_s, pk_un (by decide)]; exact h2
    · rw [show 3 + 0 = 3 from rfl, rc_up_s, pk_us]; rfl
    · rw [show 3 + 0 = 3 from rfl, rc_up_s, pk_un (by decide)]; exact h4
    · rw [e _ (by omega), e _ (by omega)]; exact h7 u hu
  | succ k ih =>
    intro σ1 hk hf hC h8
    rw [nI_pred]
    refine rc_go 40 (And.intro (fun c => absurd c (nI_pos (by omega))) (fun _ => ?_))
    refine c_wake rfl hC hW (by omega) (h8 k (by omega)) (fun σ2 hf2 hC2 => ?_)
    have key := ih σ2 (by omega) (fun i hi => by rw [hf2 i (by omega)]; exact hf i (by omega)) hC2 (fun j hj => by rw [hf2 8 (by omega)]; exact h8 j (by omega))
    have e9 : nI k - 1 = nI k + -1 := by rw [Int32.sub_eq_add_neg]
    rw [e9] at key
    have hs := rc_sl_s (V := V) k
    have hle := rc_sl_le (V := V) (k + 1) (V 12 1) hk
    by_cases z : V 9 k = 0
    · have e : rc_sl V (k + 1) = rc_sl V k := by rw [hs]; simp [z]
      rw [e]
      exact And.intro (fun _ => key) (fun q => absurd (by simp [z, rc_bI]) q)
    · have e : rc_sl V (k + 1) = rc_sl V k + 1 := by rw [hs]; simp [z]
      rw [show rc_sl V (V 12 1) - rc_sl V k = (rc_sl V (V 12 1) - rc_sl V (k + 1)) + 1 by omega, ← nI_1] at key
      exact And.intro (fun q => absurd q (by simp [z, rc_bI])) (fun _ => key)
theorem c_pass_4 (h0 : σ 0 = rc_wt) (hn : n ≤ 900) (hC : rc_Cls 0 σ V) (hW : rc_WF n V) {Q' : Option Value → rc_M → Prop} (h : ∀ f, (∀ j, j < V 12 1 → f j = nI (rc_mo V j)) → rc_Tc (d + 4) 15 36 [.ref 3, .int 0, .int (nI (V 12 1) - 1)] [] (rc_up σ 8 f) Q') :
    ∀ (c k : Nat) (f : Nat → Int32), k + c = V 12 1 → (∀ j, j < k → f j = nI (rc_mo V j)) → rc_Tc (d + 4) 15 4 [.ref 3, .int 0, .int (nI k)] [] (rc_up σ 8 f) Q' := by
  have hng := hW.2.1
  have e33 : ∀ f, rc_up σ 8 f 3 3 = nI (V 12 1) := fun f => by rw [rc_up_n _ _ (by decide)]; exact hC.2.1
  intro c
  induction c with
  | zero =>
    intro k f hk hf
    have : k = V 12 1 := by omega
    subst this
    refine rc_go 40 (And.intro (fun _ => ?_) (fun c => absurd (by rw [e33]; exact nI_le (Nat.le_refl _) (by omega)) c))
    have key := h f hf
    rw [← e33 f] at key
    exact key
  | succ c ih =>
    intro k f hk hf
    have hC1 : rc_Cls 0 (rc_up σ 8 f) V := hC.at hng (fun i _ _ h8 => rc_up_n _ _ h8)
    refine rc_go 40 (And.intro (fun c1 => absurd (by rw [e33] at c1; exact c1) (nI_ge (by omega) (by omega))) (fun _ => ?_))
    refine c_morning rfl (by rw [rc_up_n _ _ (by decide)]; exact h0) hn hC1 hW (by omega) ?_
    refine And.intro (rc_vi (n := 5) (by omega) (by decide)) ?_
    have key := ih (k + 1) (upd f k (nI (rc_mo V k))) (by omega) (fun j hj => by
      by_cases e : j = k
      · subst e; exact pk_us
      · rw [pk_un e]; exact hf j (by omega))
    rw [← nI_1] at key
    rw [rc_up_s, rc_uu, rc_ci (by omega)]
    exact key
theorem rc_ng_top (hC : rc_Cls 0 σ V) : rc_Cls 0 σ (rc_ng V (V 12 1)) := by
  obtain ⟨h1, h2, h3, h4, h5, h6, h7⟩ := hC
  refine ⟨h1, h2, h3, h4, fun i hi => ?_, fun g hg => ?_, h7⟩
  · obtain ⟨a1, a2, a3, a4, a5, a6⟩ := h5 i hi
    refine ⟨a1, a2, a3, a4, a5, ?_⟩
    show _ = rc_cI (rc_lc V i (V 12 1 - V 12 1) (V 12 1))
    rw [Nat.sub_self]
    exact a6
  · have hg' : g < V 12 1 := hg
    have := h6 g hg'
    unfold rc_CG
    rw [rc_ng_l hg' (by omega), rc_ng_l (f := 8) hg' (by omega), rc_ng_l (f := 9) hg' (by omega), rc_ng_l (f := 10) hg' (by omega), rc_ng_l (f := 11) hg' (by omega)]
    exact this
theorem c_night (hn : n ≤ 900) (hI : rc_CP σ P) (hW : rc_WP n P) (h : ∀ σ', rc_fC σ σ' → rc_CP σ' (o_night P).2 → Q (o_night P).1 σ') : rc_TI (d + 5) 89 [.ref 2] σ Q := by
  refine rc_go 40 ?_
  have key := c_pass_4 (d := d) (V := pV P) (n := n) (Q' := fun r σ' => ∃ x, r = some (.int x) ∧ ∃ x', some (Value.int x) = some (.int x') ∧ Q x' σ') hI.1 hn hI.2.1 hW.1 (fun f hf => ?_) (pV P 12 1) 0 (σ 8) (by omega) (fun j hj => absurd hj (by omega))
  · rw [rc_ui] at key
    exact rc_go 20 key
  · have k2 := c_pass_36 (d := d + 2) (σ := rc_up σ 8 f) (V := pV P) (n := n) (Q' := fun r σ' => ∃ x, r = some (.int x) ∧ ∃ x', some (Value.int x) = some (.int x') ∧ Q x' σ') hW.1 (fun σ' hf' hC' => ⟨_, rfl, _, rfl, h σ' (fun k hk => ?_) (hI.mk hW hC' (fun k hk => ?_))⟩) (pV P 12 1) (rc_up σ 8 f) (Nat.le_refl _) (fun i _ => rfl) (rc_ng_top (hI.2.1.at hW.1.2.1 (fun i _ _ h8 => rc_up_n _ _ h8))) (fun j hj => by rw [rc_up_s]; exact hf j hj)
    · rw [Nat.sub_self] at k2
      exact k2
    · rw [hf' k (by omega), rc_up_n _ _ (by omega)]
    · rw [hf' k (by omega), rc_up_n _ _ (by omega)]
end RWa
