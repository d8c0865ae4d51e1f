/-! the inn as numbers, and where both sides keep it -/
abbrev rc_V : Type := Nat → Nat → Nat
def rc_tb (V : rc_V) (i : Nat) : Nat → Nat := fun v => V 2 (3 * i + v)
def rc_nV (V : rc_V) (r s n heir mate und : Nat) : Nat := rc_nt (V 0 r) (V 1 r) (rc_tb V r) s n heir mate und
def rc_w1 (wi : Nat → Nat) (s m : Nat) : Bool := decide (wi m = 3 ∨ wi m = rc_mk s m)
def rc_wz (wi : Nat → Nat) (s : Nat) : Bool := rc_w1 wi s 0 && rc_w1 wi s 1 && rc_w1 wi s 2
def rc_wi (V : rc_V) (g : Nat) : Nat → Nat := fun m => V 7 (3 * g + m)
def rc_wd (V : rc_V) (g s : Nat) : Bool := rc_wz (rc_wi V g) s
def rc_bI (b : Bool) : Int32 := cond b 1 0
theorem rc_bI_01 (b : Bool) : rc_bI b = 0 ∨ rc_bI b = 1 := by cases b; exact Or.inl rfl; exact Or.inr rfl
theorem rc_bI_0 {b : Bool} : rc_bI b = 0 ↔ b = false := by cases b <;> decide
theorem rc_bI_1 {b : Bool} : rc_bI b = 1 ↔ b = true := by cases b <;> decide
def rc_MR (σ : rc_M) (V : rc_V) (i : Nat) : Prop := σ 82 i = nI (V 0 i) ∧ σ 83 i = nI (V 1 i) ∧ (∀ v, v < 3 → σ 84 (3 * i + v) = nI (V 2 (3 * i + v))) ∧ σ 85 i = nI (V 3 i) ∧ σ 86 i = nI (V 4 i) ∧ σ 87 i = rc_cI (V 5 i)
def rc_MG (σ : rc_M) (V : rc_V) (g : Nat) : Prop := σ 88 g = nI (V 6 g) ∧ (∀ m, m < 3 → σ 89 (3 * g + m) = nI (V 7 (3 * g + m))) ∧ σ 90 g = nI (V 8 g) ∧ σ 91 g = rc_cI (V 9 g) ∧ σ 92 g = rc_cI (V 10 g) ∧ (V 10 g ≠ 0 → σ 93 g = nI (V 11 g))
def rc_Mod (σ : rc_M) (V : rc_V) : Prop := σ 80 1 = nI (V 12 0) ∧ σ 80 8 = nI (V 12 1) ∧ σ 80 15 = nI (V 12 2) ∧ σ 80 16 = nI (V 12 3) ∧ (∀ i, i < V 12 0 → rc_MR σ V i) ∧ (∀ g, g < V 12 1 → rc_MG σ V g) ∧ ∀ t, t < V 12 3 → σ 94 t = nI (V 13 t) ∧ σ 95 t = nI (V 14 t)
def rc_CR (o : Nat) (σ : rc_M) (V : rc_V) (i : Nat) : Prop := σ (9 + 2 * i + o) 0 = nI (V 0 i) ∧ σ (9 + 2 * i + o) 1 = nI (V 1 i) ∧ (∀ v, v < 3 → σ (10 + 2 * i + o) v = nI (V 2 (3 * i + v))) ∧ σ (9 + 2 * i + o) 3 = nI (V 3 i) ∧ σ (9 + 2 * i + o) 4 = nI (V 4 i) ∧ σ (9 + 2 * i + o) 5 = rc_cI (V 5 i)
def rc_CG (o : Nat) (σ : rc_M) (V : rc_V) (g : Nat) : Prop := σ (21 + 2 * g + o) 0 = nI (V 6 g) ∧ (∀ m, m < 3 → σ (22 + 2 * g + o) m = nI (V 7 (3 * g + m))) ∧ σ (21 + 2 * g + o) 2 = nI (V 8 g) ∧ σ (21 + 2 * g + o) 3 = rc_cI (V 9 g) ∧ σ (21 + 2 * g + o) 4 = rc_cI (V 10 g) ∧ (V 10 g ≠ 0 → σ (21 + 2 * g + o) 5 = nI (V 11 g))
def rc_Cls (o : Nat) (σ : rc_M) (V : rc_V) : Prop := σ (3 + o) 1 = nI (V 12 0) ∧ σ (3 + o) 3 = nI (V 12 1) ∧ σ (3 + o) 4 = nI (V 12 2) ∧ σ (3 + o) 7 = nI (V 12 3) ∧ (∀ i, i < 6 → rc_CR o σ V i) ∧ (∀ g, g < V 12 1 → rc_CG o σ V g) ∧ ∀ t, t < V 12 3 → σ (6 + o) t = nI (V 13 t) ∧ σ (7 + o) t = nI (V 14 t)
def rc_WR (V : rc_V) (i : Nat) : Prop := V 0 i < 7 ∧ V 1 i < 3 ∧ (∀ v, v < 3 → V 2 (3 * i + v) < 3) ∧ V 3 i ≤ 2 ∧ V 4 i ≤ 99 ∧ V 5 i ≤ 27
def rc_WG (V : rc_V) (g : Nat) : Prop := V 6 g < 27 ∧ (∀ m, m < 3 → V 7 (3 * g + m) ≤ 3) ∧ V 9 g ≤ V 12 0 ∧ V 10 g ≤ 6 ∧ (V 10 g ≠ 0 → V 11 g < 27)
def rc_WF (n : Nat) (V : rc_V) : Prop := V 12 0 ≤ 6 ∧ V 12 1 ≤ 5 ∧ V 12 2 ≤ n ∧ V 12 3 ≤ 6 ∧ (∀ i, i < 6 → rc_WR V i) ∧ (∀ g, g < V 12 1 → rc_WG V g) ∧ ∀ t, t < V 12 3 → V 13 t < 27 ∧ V 14 t < 27
theorem rc_nV_lt {V : rc_V} {r s n heir mate und : Nat} (hR : rc_WR V r) (hs : s < 27) (hu : und ≤ 27) : rc_nV V r s n heir mate und < 27 := rc_nt_lt hs hR.2.1 hR.2.2.1 hu
section RN
variable {d : Nat} {σ : rc_M} {Q : Int32 → rc_M → Prop} {V : rc_V}
theorem t_plain {x y : Int32} {r s : Nat} (hx : x = nI r) (hy : y = nI s) (hr : r < 6) (hs : s < 27) (hM : rc_MR σ V r) (hW : rc_WR V r) (h : Q (nI (rc_pl (V 1 r) (rc_tb V r) s)) σ) : rc_TI (d + 2) 141 [.ref 80, .int x, .int y] σ Q := by
  subst hx; subst hy
  have h8 : σ 83 (nI r).toNatClampNeg = nI (V 1 r) := by rw [rc_ci (by omega)]; exact hM.2.1
  have hk := rc_mk_lt s (V 1 r)
  have e3 : (3 : Int32) * nI r + nI (rc_mk s (V 1 r)) = nI (3 * r + rc_mk s (V 1 r)) := by
    rw [show (3 : Int32) = nI 3 from rfl, pk_mul, nI_add]
  refine rc_go 60 (And.intro (rc_vi hr (by decide)) (And.intro (rc_vi hr (by decide)) ?_))
  refine t_has' rfl h8 hs hW.2.1 ?_
  refine And.intro (by rw [e3]; exact rc_vi (show _ < 18 by omega) (by decide)) ?_
  refine t_with' rfl h8 (v := rc_tb V r (rc_mk s (V 1 r))) (by rw [e3, rc_ci (by omega)]; exact hM.2.2.1 _ hk) hs hW.2.1 (hW.2.2.1 _ hk) ?_
  exact ⟨_, rfl, h⟩
theorem t_makesOf {x1 x2 x3 x4 x5 : Int32} {r s n hc uc : Nat} (h1 : x1 = nI r) (h2 : x2 = nI s) (h3 : x3 = nI n) (h4 : x4 = rc_cI hc) (h5 : x5 = rc_cI uc) (hr : r < 6) (hs : s < 27) (hn : n < 1000) (hhc : hc ≤ 27) (huc : uc ≤ 27) (hM : rc_MR σ V r) (hW : rc_WR V r) (h : Q (nI (rc_nV V r s n hc 0 uc)) σ) : rc_TI (d + 3) 142 [.ref 80, .int x1, .int x2, .int x3, .int x4, .int x5] σ Q := by
  subst h1; subst h2; subst h3; subst h4; subst h5
  have h8 : σ 83 (nI r).toNatClampNeg = nI (V 1 r) := by rw [rc_ci (by omega)]; exact hM.2.1
  have h82 : σ 82 (nI r).toNatClampNeg = nI (V 0 r) := by rw [rc_ci (by omega)]; exact hM.1
  have kdne : ∀ j, j < 100 → nI (V 0 r) = nI j → V 0 r = j := fun j hj e => (nI_eq (by have := hW.1; omega) (by omega)).mp e
  have pln : ∀ Q' : Int32 → rc_M → Prop, Q' (nI (rc_pl (V 1 r) (rc_tb V r) s)) σ → rc_TI (d + 2) 141 [.ref 80, .int (nI r), .int (nI s)] σ Q' := fun Q' hq => t_plain rfl rfl hr hs hM hW hq
  unfold rc_nV at h
  refine rc_go 120 (And.intro (rc_vi hr (by decide)) (And.intro (rc_vi hr (by decide)) ?_))
  rw [h82]
  refine And.intro (And.intro (fun e => ?_) (And.intro (fun e => ?_) (And.intro (fun e => ?_) (And.intro (fun e => ?_) (And.intro (fun e => ?_) (And.intro (fun e => ?_) trivial)))))) (fun e => ?_)
  · rw [kdne 1 (by decide) e] at h
    refine And.intro (fun c => ?_) (fun c => ?_)
    · obtain ⟨k, rfl⟩ := Nat.exists_eq_succ_of_ne_zero ((rc_cI_neg (by omega)).mp c)
      refine t_has' rfl h8 (show k < 27 by omega) hW.2.1 ?_
      exact t_with' rfl h8 rfl hs hW.2.1 (rc_mk_lt _ _) ⟨_, rfl, h⟩
    · have hz : hc = 0 := by
        rcases Nat.eq_zero_or_pos hc with q | q
        · exact q
        · exact absurd ((rc_cI_neg (by omega)).mpr (by omega)) c
      subst hz
      exact pln _ ⟨_, rfl, h⟩
  · rw [kdne 2 (by decide) e] at h
    exact pln _ ⟨_, rfl, h⟩
  · rw [kdne 3 (by decide) e] at h
    have er : nI n - nI n / 2 * 2 = nI (n % 2) := pk_rem (by omega) (by decide) (by decide)
    refine And.intro (by decide) ?_
    rw [er]
    refine And.intro (fun c => ?_) (fun c => ?_)
    · have hz : ¬ n % 2 = 1 := fun z => c (by rw [z]; rfl)
      have h' : Q (nI s) σ := by simpa [rc_nt, hz] using h
      exact ⟨_, rfl, h'⟩
    · have hz : n % 2 = 1 := (nI_eq (by omega) (by omega)).mp (show nI (n % 2) = nI 1 from c)
      have h' : Q (nI (rc_pl (V 1 r) (rc_tb V r) s)) σ := by simpa [rc_nt, hz] using h
      exact pln _ ⟨_, rfl, h'⟩
  · rw [kdne 4 (by decide) e] at h
    exact ⟨_, rfl, h⟩
  · rw [kdne 5 (by decide) e] at h
    have e6 := rc_f6 (V 1 r) hW.2.1
    have hlt : (V 1 r + 1) % 3 < 3 := Nat.mod_lt _ (by decide)
    refine And.intro (by decide) ?_
    refine t_has' rfl (m := (V 1 r + 1) % 3) (by rw [h8]; exact e6) hs hlt ?_
    refine t_with' rfl h8 rfl hs hW.2.1 (rc_mk_lt _ _) ?_
    refine t_has' rfl h8 hs hW.2.1 ?_
    refine t_with' rfl (m := (V 1 r + 1) % 3) (by rw [h8]; exact e6) rfl (rc_f4 _ hs _ hW.2.1 _ (rc_mk_lt _ _)) hlt (rc_mk_lt _ _) ?_
    exact ⟨_, rfl, h⟩
  · rw [kdne 6 (by decide) e] at h
    refine And.intro (fun c => ?_) (fun c => ?_)
    · obtain ⟨k, rfl⟩ := Nat.exists_eq_succ_of_ne_zero ((rc_cI_neg (by omega)).mp c)
      exact ⟨_, rfl, h⟩
    · have hz : uc = 0 := by
        rcases Nat.eq_zero_or_pos uc with q | q
        · exact q
        · exact absurd ((rc_cI_neg (by omega)).mpr (by omega)) c
      subst hz
      exact pln _ ⟨_, rfl, h⟩
  · have hz : V 0 r = 0 := by
      have h7 := hW.1
      rw [nI_toInt (by omega)] at e
      rcases e with e | e
      · omega
      · have : ((1 : Nat) : Int) + (([60, 152, 84, 98, 100, 134] : List Nat).length : Int) ≤ (V 0 r : Int) := e
        simp at this
        omega
    rw [hz] at h
    exact pln _ ⟨_, rfl, h⟩
/-- a room of the class, wherever it lies -/
def rc_Rm (σ : rc_M) (q kd mk : Nat) (tb : Nat → Nat) : Prop := rc_isO q 6 ∧ rc_rho q 2 = some (q + 1) ∧ ((rc_lay (q + 1)).1 = 1 ∧ (rc_lay (q + 1)).2.2 = 3) ∧ σ q 0 = nI kd ∧ σ q 1 = nI mk ∧ ∀ v, v < 3 → σ (q + 1) v = nI (tb v)
theorem rc_rmf : ∀ i, i < 6 → rc_isO (9 + 2 * i) 6 ∧ rc_rho (9 + 2 * i) 2 = some (9 + 2 * i + 1) ∧ (rc_lay (9 + 2 * i + 1)).1 = 1 ∧ (rc_lay (9 + 2 * i + 1)).2.2 = 3 := by
  unfold rc_isO
  decide +kernel
theorem rc_CR.rm {i : Nat} (hi : i < 6) (h : rc_CR 0 σ V i) : rc_Rm σ (9 + 2 * i) (V 0 i) (V 1 i) (rc_tb V i) := by
  obtain ⟨a1, a2, a3, a4⟩ := rc_rmf i hi
  exact ⟨a1, a2, ⟨a3, a4⟩, h.1, h.2.1, fun v hv => by rw [show 9 + 2 * i + 1 = 10 + 2 * i + 0 by omega]; exact h.2.2.1 v hv⟩
theorem c_plain {q kd mk s : Nat} {tb : Nat → Nat} {x : Int32} (hx : x = nI s) (h0 : σ 0 = rc_wt) (hs : s < 27) (hR : rc_Rm σ q kd mk tb) (hm : mk < 3) (ht : ∀ v, v < 3 → tb v < 3) (h : Q (nI (rc_pl mk tb s)) σ) : rc_TI (d + 1) 62 [.ref q, .int x] σ Q := by
  subst hx
  obtain ⟨r1, r2, ⟨r3, r4⟩, r5, r6, r7⟩ := hR
  have hk := rc_mk_lt s mk
  refine rc_go 60 (And.intro r1 ?_)
  refine c_markOf' h0 rfl r6 hs hm ?_
  refine Exists.intro (q + 1) (And.intro r1 (And.intro r2 (And.intro r3 (And.intro (by rw [r4]; exact rc_vi hk (by decide)) (And.intro r1 (And.intro (by rw [r6]; exact rc_vi hm (by decide)) ?_))))))
  refine ⟨_, rfl, ?_⟩
  rw [r6, rc_ci (by omega), rc_ci (by omega), r7 _ hk, h0, rc_f3 s hs mk hm _ (ht _ hk)]
  exact h
theorem c_marked {q kd mk s w : Nat} {tb : Nat → Nat} {x y : Int32} (hx : x = nI s) (hy : y = nI w) (h0 : σ 0 = rc_wt) (hs : s < 27) (hw : w < 3) (hR : rc_Rm σ q kd mk tb) (hm : mk < 3) (h : Q (nI (rc_sv s mk w)) σ) : rc_TI (d + 1) 61 [.ref q, .int x, .int y] σ Q := by
  subst hx; subst hy
  obtain ⟨r1, r2, ⟨r3, r4⟩, r5, r6, r7⟩ := hR
  refine rc_go 60 (And.intro r1 ?_)
  refine c_markOf' h0 rfl r6 hs hm ?_
  refine And.intro r1 (And.intro (by rw [r6]; exact rc_vi hm (by decide)) ?_)
  refine ⟨_, rfl, ?_⟩
  rw [r6, rc_ci (by omega), h0, rc_f3 s hs mk hm _ hw]
  exact h
theorem c_switched {q kd mk s : Nat} {tb : Nat → Nat} {x : Int32} (hx : x = nI s) (h0 : σ 0 = rc_wt) (hs : s < 27) (hR : rc_Rm σ q kd mk tb) (hm : mk < 3) (h : Q (nI (rc_sv (rc_sv s mk (rc_mk s ((mk + 1) % 3))) ((mk + 1) % 3) (rc_mk s mk))) σ) : rc_TI (d + 1) 63 [.ref q, .int x] σ Q := by
  subst hx
  obtain ⟨r1, r2, ⟨r3, r4⟩, r5, r6, r7⟩ := hR
  have e6 := rc_f6 mk hm
  have hlt : (mk + 1) % 3 < 3 := Nat.mod_lt _ (by decide)
  have e7 : σ q 1 + 1 - (σ q 1 + 1) / 3 * 3 = nI ((mk + 1) % 3) := by rw [r6]; exact e6
  refine rc_go 60 (And.intro r1 (And.intro (by decide) ?_))
  refine c_markOf' h0 rfl e7 hs hlt ?_
  refine And.intro r1 ?_
  refine c_markOf' h0 rfl r6 hs hm ?_
  refine And.intro r1 (And.intro (by rw [r6]; exact rc_vi hm (by decide)) (And.intro (by rw [e7]; exact rc_vi hlt (by decide)) ?_))
  refine ⟨_, rfl, ?_⟩
  rw [e7, r6, rc_ci (by omega), rc_ci (by omega), h0, rc_f5 s hs mk hm]
  exact h
theorem c_after {q kd mk s n hc tc uc : Nat} {tb : Nat → Nat} {x1 x2 x3 x4 x5 : Int32} (h1 : x1 = nI s) (h2 : x2 = nI n) (h3 : x3 = rc_cI hc) (h4 : x4 = rc_cI tc) (h5 : x5 = rc_cI uc) (h0 : σ 0 = rc_wt) (hs : s < 27) (hn : n < 1000) (hhc : hc ≤ 27) (htc : tc ≤ 27) (huc : uc ≤ 27) (hR : rc_Rm σ q kd mk tb) (hkd : kd < 7) (hm : mk < 3) (ht : ∀ v, v < 3 → tb v < 3) (h : Q (nI (rc_nt kd mk tb s n hc tc uc)) σ) : rc_TI (d + 2) 59 [.ref q, .int x1, .int x2, .int x3, .int x4, .int x5] σ Q := by
  subst h1; subst h2; subst h3; subst h4; subst h5
  obtain ⟨r1, r2, ⟨r3, r4⟩, r5, r6, r7⟩ := id hR
  have kdne : ∀ j, j < 100 → nI kd = nI j → kd = j := fun j hj e => (nI_eq (by omega) (by omega)).mp e
  have pln : ∀ Q' : Int32 → rc_M → Prop, Q' (nI (rc_pl mk tb s)) σ → rc_TI (d + 1) 62 [.ref q, .int (nI s)] σ Q' := fun Q' hq => c_plain rfl h0 hs hR hm ht hq
  have cz : ∀ c : Nat, c ≤ 27 → ¬ 0 ≤ rc_cI c → c = 0 := fun c hc hh => by
    rcases Nat.eq_zero_or_pos c with z | z
    · exact z
    · exact absurd ((rc_cI_neg (by omega)).mpr (by omega)) hh
  refine rc_go 120 (And.intro r1 ?_)
  rw [r5]
  refine And.intro (And.intro (fun e => ?_) (And.intro (fun e => ?_) (And.intro (fun e => ?_) (And.intro (fun e => ?_) (And.intro (fun e => ?_) (And.intro (fun e => ?_) (And.intro (fun e => ?_) trivial))))))) (fun e => ?_)
  · rw [kdne 0 (by decide) e] at h
    exact And.intro r1 (pln _ ⟨_, rfl, h⟩)
  · rw [kdne 1 (by decide) e] at h
    refine And.intro (fun c => ?_) (fun c => ?_)
    · obtain ⟨k, rfl⟩ := Nat.exists_eq_succ_of_ne_zero ((rc_cI_neg (by omega)).mp c)
      refine And.intro r1 (c_markOf' h0 rfl r6 (show k < 27 by omega) hm (And.intro r1 ?_))
      exact c_marked rfl rfl h0 hs (rc_mk_lt _ _) hR hm ⟨_, rfl, h⟩
    · have hz := cz hc hhc c
      subst hz
      exact And.intro r1 (pln _ ⟨_, rfl, h⟩)
  · rw [kdne 2 (by decide) e] at h
    refine And.intro (fun c => ?_) (fun c => ?_)
    · obtain ⟨k, rfl⟩ := Nat.exists_eq_succ_of_ne_zero ((rc_cI_neg (by omega)).mp c)
      refine And.intro r1 (c_markOf' h0 rfl r6 (show k < 27 by omega) hm (And.intro r1 ?_))
      exact c_marked rfl rfl h0 hs (rc_mk_lt _ _) hR hm ⟨_, rfl, h⟩
    · have hz := cz tc htc c
      subst hz
      exact And.intro r1 (pln _ ⟨_, rfl, h⟩)
  · rw [kdne 3 (by decide) e] at h
    have er : nI n - nI n / 2 * 2 = nI (n % 2) := pk_rem (by omega) (by decide) (by decide)
    refine And.intro (by decide) ?_
    rw [er]
    refine And.intro (fun c => ?_) (fun c => ?_)
    · have hz : ¬ n % 2 = 1 := fun z => c (by rw [z]; rfl)
      have h' : Q (nI s) σ := by simpa [rc_nt, hz] using h
      exact ⟨_, rfl, h'⟩
    · have hz : n % 2 = 1 := (nI_eq (by omega) (by omega)).mp (show nI (n % 2) = nI 1 from c)
      have h' : Q (nI (rc_pl mk tb s)) σ := by simpa [rc_nt, hz] using h
      exact And.intro r1 (pln _ ⟨_, rfl, h'⟩)
  · rw [kdne 4 (by decide) e] at h
    exact ⟨_, rfl, h⟩
  · rw [kdne 5 (by decide) e] at h
    exact And.intro r1 (c_switched rfl h0 hs hR hm ⟨_, rfl, h⟩)
  · rw [kdne 6 (by decide) e] at h
    refine And.intro (fun c => ?_) (fun c => ?_)
    · obtain ⟨k, rfl⟩ := Nat.exists_eq_succ_of_ne_zero ((rc_cI_neg (by omega)).mp c)
      exact ⟨_, rfl, h⟩
    · have hz := cz uc huc c
      subst hz
      exact And.intro r1 (pln _ ⟨_, rfl, h⟩)
  · rw [nI_toInt (by omega)] at e
    rcases e with e | e
    · exact absurd e (by omega)
    · have : ((0 : Nat) : Int) + 7 ≤ (kd : Int) := e
      exact absurd this (by omega)
theorem c_firstNight {q kd mk s n : Nat} {tb : Nat → Nat} {x1 x2 : Int32} (h1 : x1 = nI s) (h2 : x2 = nI n) (h0 : σ 0 = rc_wt) (hs : s < 27) (hn : n < 1000) (hR : rc_Rm σ q kd mk tb) (hkd : kd < 7) (hm : mk < 3) (ht : ∀ v, v < 3 → tb v < 3) (h : Q (nI (rc_nt kd mk tb s n 0 0 0)) σ) : rc_TI (d + 3) 60 [.ref q, .int x1, .int x2] σ Q := by
  refine rc_go 60 (And.intro hR.1 ?_)
  exact c_after (hc := 0) (tc := 0) (uc := 0) h1 h2 rfl rfl rfl h0 hs hn (by decide) (by decide) (by decide) hR hkd hm ht ⟨_, rfl, h⟩
end RN
