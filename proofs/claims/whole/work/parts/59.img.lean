section RIm
variable {d n : Nat} {σ : rc_M} {P : rc_P} {V : rc_V}
/-! image and on, the class's side: a house is copied -/
theorem rc_hf {o : Nat} (ho : o = 0 ∨ o = 28) : rc_isO (3 + o) 2 ∧ rc_rho (3 + o) 0 = some (4 + o) ∧ rc_rho (3 + o) 2 = some (5 + o) ∧ rc_rho (3 + o) 5 = some (6 + o) ∧ rc_rho (3 + o) 6 = some (7 + o) ∧ rc_lay (4 + o) = (4, 6, 6) ∧ rc_lay (5 + o) = (4, 1, 5) ∧ rc_lay (6 + o) = (1, 0, 6) ∧ rc_lay (7 + o) = (1, 0, 6) := by
  rcases ho with rfl | rfl <;> exact ⟨⟨rfl, rfl⟩, rfl, rfl, rfl, rfl, rfl, rfl, rfl, rfl⟩
theorem rc_hr0 : ∀ i, i < 6 → (rc_rho 4 i = some (9 + 2 * i) ∧ rc_rho 32 i = some (37 + 2 * i)) ∧ ((rc_lay (9 + 2 * i)).1 = 0 ∧ (rc_lay (9 + 2 * i)).2.1 = 6 ∧ (rc_lay (37 + 2 * i)).1 = 0 ∧ (rc_lay (37 + 2 * i)).2.1 = 6) ∧ (rc_rho (9 + 2 * i) 2 = some (10 + 2 * i) ∧ rc_rho (37 + 2 * i) 2 = some (38 + 2 * i)) ∧ (rc_lay (10 + 2 * i) = (1, 0, 3) ∧ rc_lay (38 + 2 * i) = (1, 0, 3)) := by decide +kernel
theorem rc_hg0 : ∀ i, i < 5 → (rc_rho 5 i = some (21 + 2 * i) ∧ rc_rho 33 i = some (49 + 2 * i)) ∧ ((rc_lay (21 + 2 * i)).1 = 0 ∧ (rc_lay (21 + 2 * i)).2.1 = 1 ∧ (rc_lay (49 + 2 * i)).1 = 0 ∧ (rc_lay (49 + 2 * i)).2.1 = 1) ∧ (rc_rho (21 + 2 * i) 1 = some (22 + 2 * i) ∧ rc_rho (49 + 2 * i) 1 = some (50 + 2 * i)) ∧ (rc_lay (22 + 2 * i) = (1, 0, 3) ∧ rc_lay (50 + 2 * i) = (1, 0, 3)) := by decide +kernel
theorem rc_hr {o i : Nat} (ho : o = 0 ∨ o = 28) (hi : i < 6) : rc_rho (4 + o) i = some (9 + 2 * i + o) ∧ rc_isO (9 + 2 * i + o) 6 ∧ rc_rho (9 + 2 * i + o) 2 = some (10 + 2 * i + o) ∧ rc_lay (10 + 2 * i + o) = (1, 0, 3) := by
  obtain ⟨h1, h2, h3, h4⟩ := rc_hr0 i hi
  rcases ho with rfl | rfl
  · exact ⟨h1.1, ⟨h2.1, h2.2.1⟩, h3.1, h4.1⟩
  · rw [show 9 + 2 * i + 28 = 37 + 2 * i by omega, show 10 + 2 * i + 28 = 38 + 2 * i by omega]
    exact ⟨h1.2, ⟨h2.2.2.1, h2.2.2.2⟩, h3.2, h4.2⟩
theorem rc_hg {o i : Nat} (ho : o = 0 ∨ o = 28) (hi : i < 5) : rc_rho (5 + o) i = some (21 + 2 * i + o) ∧ rc_isO (21 + 2 * i + o) 1 ∧ rc_rho (21 + 2 * i + o) 1 = some (22 + 2 * i + o) ∧ rc_lay (22 + 2 * i + o) = (1, 0, 3) := by
  obtain ⟨h1, h2, h3, h4⟩ := rc_hg0 i hi
  rcases ho with rfl | rfl
  · exact ⟨h1.1, ⟨h2.1, h2.2.1⟩, h3.1, h4.1⟩
  · rw [show 21 + 2 * i + 28 = 49 + 2 * i by omega, show 22 + 2 * i + 28 = 50 + 2 * i by omega]
    exact ⟨h1.2, ⟨h2.2.2.1, h2.2.2.2⟩, h3.2, h4.2⟩
theorem rc_c3 {a b : Nat} (ha : rc_lay a = (1, 0, 3)) (hb : rc_lay b = (1, 0, 3)) (h1 : 2 ≤ a) (h2 : 2 ≤ b) : (rc_lay a).1 = 1 ∧ (rc_lay b).1 = 1 ∧ 2 ≤ a ∧ 2 ≤ b ∧ ¬ (0 : Int32) < 0 ∧ ¬ (0 : Int32) < 0 ∧ ¬ (3 : Int32) < 0 ∧ (0 : Int32).toNatClampNeg + (3 : Int32).toNatClampNeg ≤ (rc_lay a).2.2 ∧ (0 : Int32).toNatClampNeg + (3 : Int32).toNatClampNeg ≤ (rc_lay b).2.2 := by
  rw [ha, hb]
  exact ⟨rfl, rfl, h1, h2, by decide, by decide, by decide, by decide, by decide⟩
theorem rc_c6 {a b : Nat} (ha : rc_lay a = (1, 0, 6)) (hb : rc_lay b = (1, 0, 6)) (h1 : 2 ≤ a) (h2 : 2 ≤ b) : (rc_lay a).1 = 1 ∧ (rc_lay b).1 = 1 ∧ 2 ≤ a ∧ 2 ≤ b ∧ ¬ (0 : Int32) < 0 ∧ ¬ (0 : Int32) < 0 ∧ ¬ (6 : Int32) < 0 ∧ (0 : Int32).toNatClampNeg + (6 : Int32).toNatClampNeg ≤ (rc_lay a).2.2 ∧ (0 : Int32).toNatClampNeg + (6 : Int32).toNatClampNeg ≤ (rc_lay b).2.2 := by
  rw [ha, hb]
  exact ⟨rfl, rfl, h1, h2, by decide, by decide, by decide, by decide, by decide⟩
theorem rc_cpj {f g : Nat → Int32} {c : Int32} {m j : Nat} (hc : c.toNatClampNeg = m) (hj : j < m) : va_cpy f g (0 : Int32).toNatClampNeg (0 : Int32).toNatClampNeg c.toNatClampNeg j = f j := by
  rw [hc]
  show va_cpy f g 0 0 m j = _
  rw [pk_cpy_in (Nat.zero_le _) (by omega)]
  show f (0 + (j - 0)) = _
  rw [Nat.zero_add, Nat.sub_zero]
theorem c_rcopy {q q' a a' : Nat} (h0 : rc_isO q 6) (h1 : rc_isO q' 6) (r0 : rc_rho q 2 = some a) (r1 : rc_rho q' 2 = some a') (l0 : rc_lay a = (1, 0, 3)) (l1 : rc_lay a' = (1, 0, 3)) (g0 : 2 ≤ a) (g1 : 2 ≤ a') (n1 : q' ≠ q) (n2 : q' ≠ a) (n3 : a' ≠ q) (n4 : a' ≠ a) (n5 : q ≠ a) {Q : rc_M → Prop} (h : ∀ σ', (∀ k, k ≠ q → k ≠ a → σ' k = σ k) → (∀ j, j < 6 → j ≠ 2 → σ' q j = σ q' j) → (∀ v, v < 3 → σ' a v = σ a' v) → Q σ') : rc_TV d 58 [.ref q, .ref q'] σ Q := by
  refine rc_go 60 (And.intro h1 (And.intro h0 (And.intro h1 (And.intro h0 ?_))))
  refine Exists.intro a' (And.intro h1 (And.intro r1 (Exists.intro a (And.intro h0 (And.intro r0 (And.intro (rc_c3 l1 l0 g1 g0) ?_))))))
  refine And.intro h1 (And.intro h0 (And.intro h1 (And.intro h0 (And.intro h1 (And.intro h0 ⟨rfl, h _ (fun k k1 k2 => ?_) (fun j hj hj2 => ?_) (fun v hv => ?_)⟩)))))
  · simp only [rc_up, if_neg k1, if_neg k2]
  · have : j = 0 ∨ j = 1 ∨ j = 3 ∨ j = 4 ∨ j = 5 := by omega
    rcases this with rfl | rfl | rfl | rfl | rfl <;> simp [rc_up, upd, n1, n2, n5]
  · rw [rc_up_n _ _ (Ne.symm n5), rc_up_n _ _ (Ne.symm n5), rc_up_n _ _ (Ne.symm n5), rc_up_s, rc_cpj (m := 3) (by decide) hv]
    simp only [rc_up, if_neg n3]
theorem c_gcopy {q q' a a' : Nat} (h0 : rc_isO q 1) (h1 : rc_isO q' 1) (r0 : rc_rho q 1 = some a) (r1 : rc_rho q' 1 = some a') (l0 : rc_lay a = (1, 0, 3)) (l1 : rc_lay a' = (1, 0, 3)) (g0 : 2 ≤ a) (g1 : 2 ≤ a') (n1 : q' ≠ q) (n2 : q' ≠ a) (n3 : a' ≠ q) (n4 : a' ≠ a) (n5 : q ≠ a) {Q : rc_M → Prop} (h : ∀ σ', (∀ k, k ≠ q → k ≠ a → σ' k = σ k) → (∀ j, j < 6 → j ≠ 1 → σ' q j = σ q' j) → (∀ v, v < 3 → σ' a v = σ a' v) → Q σ') : rc_TV d 6 [.ref q, .ref q'] σ Q := by
  refine rc_go 60 (And.intro h1 (And.intro h0 ?_))
  refine Exists.intro a' (And.intro h1 (And.intro r1 (Exists.intro a (And.intro h0 (And.intro r0 (And.intro (rc_c3 l1 l0 g1 g0) ?_))))))
  refine And.intro h1 (And.intro h0 (And.intro h1 (And.intro h0 (And.intro h1 (And.intro h0 (And.intro h1 (And.intro h0 ⟨rfl, h _ (fun k k1 k2 => ?_) (fun j hj hj2 => ?_) (fun v hv => ?_)⟩)))))))
  · simp only [rc_up, if_neg k1, if_neg k2]
  · have : j = 0 ∨ j = 2 ∨ j = 3 ∨ j = 4 ∨ j = 5 := by omega
    rcases this with rfl | rfl | rfl | rfl | rfl <;> simp [rc_up, upd, n1, n2, n5]
  · rw [rc_up_n _ _ (Ne.symm n5), rc_up_n _ _ (Ne.symm n5), rc_up_n _ _ (Ne.symm n5), rc_up_n _ _ (Ne.symm n5), rc_up_s, rc_cpj (m := 3) (by decide) hv]
    simp only [rc_up, if_neg n3]
def rc_cpI (o o' : Nat) (σ σ' : rc_M) (nr ng : Nat) : Prop := (∀ k, (k < 3 + o ∨ 30 + o < k) → σ' k = σ k) ∧ (∀ r, r < nr → (∀ j, j < 6 → j ≠ 2 → σ' (9 + 2 * r + o) j = σ (9 + 2 * r + o') j) ∧ ∀ v, v < 3 → σ' (10 + 2 * r + o) v = σ (10 + 2 * r + o') v) ∧ ∀ g, g < ng → (∀ j, j < 6 → j ≠ 1 → σ' (21 + 2 * g + o) j = σ (21 + 2 * g + o') j) ∧ ∀ v, v < 3 → σ' (22 + 2 * g + o) v = σ (22 + 2 * g + o') v
theorem rc_cpI.up {o o' k nr ng : Nat} {σ1 σ2 : rc_M} (h : rc_cpI o o' σ σ1 nr ng) (hr : nr ≤ 6) (hg : ng ≤ 5) (hk : 3 + o ≤ k ∧ k ≤ 8 + o) (e : ∀ k', k' ≠ k → σ2 k' = σ1 k') : rc_cpI o o' σ σ2 nr ng := by
  obtain ⟨a, b, c⟩ := h
  refine ⟨fun k' hk' => ?_, fun r hr' => ?_, fun g hg' => ?_⟩
  · rw [e k' (by omega)]; exact a k' hk'
  · rw [e _ (by omega), e _ (by omega)]; exact b r hr'
  · rw [e _ (by omega), e _ (by omega)]; exact c g hg'
theorem c_hc_2 {o o' : Nat} (ho : (o = 28 ∧ o' = 0) ∨ (o = 0 ∧ o' = 28)) {Q' : Option Value → rc_M → Prop} (k1 : ∀ σ1, rc_cpI o o' σ σ1 6 0 → rc_Tc (d + 1) 9 2 [.ref (3 + o), .ref (3 + o'), .int (nI 6)] [] σ1 Q') : ∀ (c r : Nat) (σ1 : rc_M), r + c = 6 → rc_cpI o o' σ σ1 r 0 → rc_Tc (d + 1) 9 2 [.ref (3 + o), .ref (3 + o'), .int (nI r)] [] σ1 Q' := by
  have ho1 : o = 0 ∨ o = 28 := by omega
  have ho2 : o' = 0 ∨ o' = 28 := by omega
  obtain ⟨a1, a2, a3, a4, a5, a6, a7, a8, a9⟩ := rc_hf ho1
  obtain ⟨b1, b2, b3, b4, b5, b6, b7, b8, b9⟩ := rc_hf ho2
  intro c
  induction c with
  | zero =>
    intro r σ1 hr hI
    have : r = 6 := by omega
    subst this
    exact k1 σ1 hI
  | succ c ih =>
    intro r σ1 hr hI
    obtain ⟨x1, x2, x3, x4⟩ := rc_hr (i := r) ho1 (by omega)
    obtain ⟨y1, y2, y3, y4⟩ := rc_hr (i := r) ho2 (by omega)
    refine rc_go 60 (And.intro (fun c1 => absurd c1 (nI_ge (show r < 6 by omega) (by decide))) (fun _ => ?_))
    refine Exists.intro (4 + o) (And.intro a1 (And.intro a2 ?_))
    refine Exists.intro (9 + 2 * r + o) (And.intro (by rw [a6]) (And.intro (by rw [a6]; exact rc_vi (n := 6) (by omega) (by decide)) (And.intro (by rw [rc_ci (by omega)]; exact x1) ?_)))
    refine Exists.intro (4 + o') (And.intro b1 (And.intro b2 ?_))
    refine Exists.intro (9 + 2 * r + o') (And.intro (by rw [b6]) (And.intro (by rw [b6]; exact rc_vi (n := 6) (by omega) (by decide)) (And.intro (by rw [rc_ci (by omega)]; exact y1) ?_)))
    refine And.intro x2 (c_rcopy x2 y2 x3 y3 x4 y4 (by omega) (by omega) (by omega) (by omega) (by omega) (by omega) (by omega) (fun σ2 e1 e2 e3 => ?_))
    have key := ih (r + 1) σ2 (by omega) (by
      obtain ⟨p1, p2, p3⟩ := hI
      refine ⟨fun k hk => ?_, fun r' hr' => ?_, fun g hg => absurd hg (by omega)⟩
      · rw [e1 k (by omega) (by omega)]; exact p1 k hk
      · by_cases e : r' = r
        · subst e
          refine ⟨fun j hj hj2 => ?_, fun v hv => ?_⟩
          · rw [e2 j hj hj2, p1 _ (by omega)]
          · rw [e3 v hv, p1 _ (by omega)]
        · rw [e1 _ (by omega) (by omega), e1 _ (by omega) (by omega)]
          exact p2 r' (by omega))
    rw [← nI_1] at key
    exact key
theorem c_hc_39 {o o' : Nat} (ho : (o = 28 ∧ o' = 0) ∨ (o = 0 ∧ o' = 28)) {Q' : Option Value → rc_M → Prop} (k1 : ∀ σ1, rc_cpI o o' σ σ1 6 5 → σ1 (3 + o) 1 = σ (3 + o') 1 → rc_Tc (d + 1) 9 39 [.ref (3 + o), .ref (3 + o'), .int (nI 5)] [] σ1 Q') : ∀ (c r : Nat) (σ1 : rc_M), r + c = 5 → rc_cpI o o' σ σ1 6 r → σ1 (3 + o) 1 = σ (3 + o') 1 → rc_Tc (d + 1) 9 39 [.ref (3 + o), .ref (3 + o'), .int (nI r)] [] σ1 Q' := by
  have ho1 : o = 0 ∨ o = 28 := by omega
  have ho2 : o' = 0 ∨ o' = 28 := by omega
  obtain ⟨a1, a2, a3, a4, a5, a6, a7, a8, a9⟩ := rc_hf ho1
  obtain ⟨b1, b2, b3, b4, b5, b6, b7, b8, b9⟩ := rc_hf ho2
  intro c
  induction c with
  | zero =>
    intro r σ1 hr hI hz
    have : r = 5 := by omega
    subst this
    exact k1 σ1 hI hz
  | succ c ih =>
    intro r σ1 hr hI hz
    obtain ⟨x1, x2, x3, x4⟩ := rc_hg (i := r) ho1 (by omega)
    obtain ⟨y1, y2, y3, y4⟩ := rc_hg (i := r) ho2 (by omega)
    refine rc_go 60 (And.intro (fun c1 => absurd c1 (nI_ge (show r < 5 by omega) (by decide))) (fun _ => ?_))
    refine Exists.intro (5 + o) (And.intro a1 (And.intro a3 ?_))
    refine Exists.intro (21 + 2 * r + o) (And.intro (by rw [a7]) (And.intro (by rw [a7]; exact rc_vi (n := 5) (by omega) (by decide)) (And.intro (by rw [rc_ci (by omega)]; exact x1) ?_)))
    refine Exists.intro (5 + o') (And.intro b1 (And.intro b3 ?_))
    refine Exists.intro (21 + 2 * r + o') (And.intro (by rw [b7]) (And.intro (by rw [b7]; exact rc_vi (n := 5) (by omega) (by decide)) (And.intro (by rw [rc_ci (by omega)]; exact y1) ?_)))
    refine And.intro x2 (c_gcopy x2 y2 x3 y3 x4 y4 (by omega) (by omega) (by omega) (by omega) (by omega) (by omega) (by omega) (fun σ2 e1 e2 e3 => ?_))
    have key := ih (r + 1) σ2 (by omega) (by
      obtain ⟨p1, p2, p3⟩ := hI
      refine ⟨fun k hk => ?_, fun r' hr' => ?_, fun r' hr' => ?_⟩
      · rw [e1 k (by omega) (by omega)]; exact p1 k hk
      · rw [e1 _ (by omega) (by omega), e1 _ (by omega) (by omega)]
        exact p2 r' hr'
      · by_cases e : r' = r
        · subst e
          refine ⟨fun j hj hj2 => ?_, fun v hv => ?_⟩
          · rw [e2 j hj hj2, p1 _ (by omega)]
          · rw [e3 v hv, p1 _ (by omega)]
        · rw [e1 _ (by omega) (by omega), e1 _ (by omega) (by omega)]
          exact p3 r' (by omega)) (by rw [e1 _ (by omega) (by omega)]; exact hz)
    rw [← nI_1] at key
    exact key
theorem c_hcopy {o o' : Nat} (ho : (o = 28 ∧ o' = 0) ∨ (o = 0 ∧ o' = 28)) (hC : rc_Cls o' σ V) (hW : rc_WF n V) {Q : rc_M → Prop} (h : ∀ σ', (∀ k, (k < 3 + o ∨ 30 + o < k) → σ' k = σ k) → rc_Cls o σ' V → Q σ') : rc_TV (d + 1) 9 [.ref (3 + o), .ref (3 + o')] σ Q := by
  have ho1 : o = 0 ∨ o = 28 := by omega
  have ho2 : o' = 0 ∨ o' = 28 := by omega
  obtain ⟨a1, a2, a3, a4, a5, a6, a7, a8, a9⟩ := rc_hf ho1
  obtain ⟨b1, b2, b3, b4, b5, b6, b7, b8, b9⟩ := rc_hf ho2
  refine rc_go 20 (c_hc_2 ho (σ := σ) (fun σ1 hI => ?_) 6 0 σ rfl ⟨fun _ _ => rfl, fun r hr => absurd hr (by omega), fun r hr => absurd hr (by omega)⟩)
  refine rc_go 60 (And.intro (fun _ => ?_) (fun c => absurd (by decide) c))
  refine And.intro b1 (And.intro a1 ?_)
  refine c_hc_39 ho (σ := σ) (fun σ2 hJ hz => ?_) 5 0 _ rfl (hI.up (k := 3 + o) (by omega) (by omega) (by omega) (fun k hk => rc_up_n _ _ hk)) (by rw [rc_up_s, pk_us, hI.1 _ (by omega)])
  refine rc_go 60 (And.intro (fun _ => ?_) (fun c => absurd (by decide) c))
  refine And.intro b1 (And.intro a1 (And.intro b1 (And.intro a1 ?_)))
  refine Exists.intro (6 + o') (And.intro b1 (And.intro b4 (Exists.intro (6 + o) (And.intro a1 (And.intro a4 (And.intro (rc_c6 b8 a8 (by omega) (by omega)) ?_))))))
  refine Exists.intro (7 + o') (And.intro b1 (And.intro b5 (Exists.intro (7 + o) (And.intro a1 (And.intro a5 (And.intro (rc_c6 b9 a9 (by omega) (by omega)) ?_))))))
  refine And.intro b1 (And.intro a1 ⟨rfl, h _ ?_ ?_⟩)
  · intro k hk
    rw [rc_up_n _ _ (by omega), rc_up_n _ _ (by omega), rc_up_n _ _ (by omega), rc_up_n _ _ (by omega), rc_up_n _ _ (by omega)]
    exact hJ.1 k hk
  · obtain ⟨p1, p2, p3⟩ := hJ
    obtain ⟨c1, c2, c3, c4, c5, c6, c7⟩ := hC
    have e3 : 3 + o' ≠ 3 + o := by omega
    have e7 : 3 + o' ≠ 7 + o := by omega
    have e6 : 3 + o' ≠ 6 + o := by omega
    have f6 : 3 + o ≠ 6 + o := by omega
    have f7 : 3 + o ≠ 7 + o := by omega
    have q3 : σ2 (3 + o') = σ (3 + o') := p1 _ (by omega)
    refine ⟨?_, ?_, ?_, ?_, fun i hi => ?_, fun g hg => ?_, fun t ht => ?_⟩
    · rw [rc_up_s, pk_un (by decide), rc_up_n _ _ f7, rc_up_n _ _ f6, rc_up_s, pk_un (by decide), rc_up_s, pk_un (by decide), hz]; exact c1
    · rw [rc_up_s, pk_un (by decide), rc_up_n _ _ f7, rc_up_n _ _ f6, rc_up_s, pk_un (by decide), rc_up_s, pk_us, q3]; exact c2
    · rw [rc_up_s, pk_un (by decide), rc_up_n _ _ f7, rc_up_n _ _ f6, rc_up_s, pk_us, rc_up_n _ _ e3, q3]; exact c3
    · rw [rc_up_s, pk_us, rc_up_n _ _ e7, rc_up_n _ _ e6, rc_up_n _ _ e3, rc_up_n _ _ e3, q3]; exact c4
    · obtain ⟨x1, x2⟩ := p2 i hi
      obtain ⟨d1, d2, d3, d4, d5, d6⟩ := c5 i hi
      unfold rc_CR
      rw [rc_up_n _ _ (by omega), rc_up_n _ _ (by omega), rc_up_n _ _ (by omega), rc_up_n _ _ (by omega), rc_up_n _ _ (by omega), rc_up_n _ _ (by omega), rc_up_n _ _ (by omega), rc_up_n _ _ (by omega), rc_up_n _ _ (by omega), rc_up_n _ _ (by omega)]
      exact ⟨(x1 0 (by decide) (by decide)).trans d1, (x1 1 (by decide) (by decide)).trans d2, fun v hv => (x2 v hv).trans (d3 v hv), (x1 3 (by decide) (by decide)).trans d4, (x1 4 (by decide) (by decide)).trans d5, (x1 5 (by decide) (by decide)).trans d6⟩
    · have hg5 : g < 5 := Nat.lt_of_lt_of_le hg hW.2.1
      obtain ⟨x1, x2⟩ := p3 g hg5
      obtain ⟨d1, d2, d3, d4, d5, d6⟩ := c6 g hg
      unfold rc_CG
      rw [rc_up_n _ _ (by omega), rc_up_n _ _ (by omega), rc_up_n _ _ (by omega), rc_up_n _ _ (by omega), rc_up_n _ _ (by omega), rc_up_n _ _ (by omega), rc_up_n _ _ (by omega), rc_up_n _ _ (by omega), rc_up_n _ _ (by omega), rc_up_n _ _ (by omega)]
      exact ⟨(x1 0 (by decide) (by decide)).trans d1, fun v hv => (x2 v hv).trans (d2 v hv), (x1 2 (by decide) (by decide)).trans d3, (x1 3 (by decide) (by decide)).trans d4, (x1 4 (by decide) (by decide)).trans d5, fun z => (x1 5 (by decide) (by decide)).trans (d6 z)⟩
    · have ht6 : t < 6 := Nat.lt_of_lt_of_le ht hW.2.2.2.1
      obtain ⟨t1, t2⟩ := c7 t ht
      refine ⟨?_, ?_⟩
      · rw [rc_up_n _ _ (by omega), rc_up_n _ _ (by omega), rc_up_s, rc_cpj (m := 6) (by decide) ht6, rc_up_n _ _ (by omega), rc_up_n _ _ (by omega), p1 _ (by omega)]; exact t1
      · rw [rc_up_n _ _ (by omega), rc_up_s, rc_cpj (m := 6) (by decide) ht6, rc_up_n _ _ (by omega), rc_up_n _ _ (by omega), rc_up_n _ _ (by omega), p1 _ (by omega)]; exact t2
end RIm
