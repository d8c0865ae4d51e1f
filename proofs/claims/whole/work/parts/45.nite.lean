section RNi
variable {d n : Nat} {σ : rc_M} {P : rc_P} {V : rc_V} {Q : Int32 → rc_M → Prop}
/-! the night: who is with one, what the morning makes of him, whom a room has had last -/
def rc_mt (V : rc_V) (g : Nat) : Nat → Nat → Nat
  | 0, _ => 0
  | c + 1, k => if k ≠ g ∧ V 9 k = V 9 g then V 6 k + 1 else rc_mt V g c (k + 1)
def rc_mo (V : rc_V) (g : Nat) : Nat := if V 9 g = 0 then V 6 g else rc_nV V (V 9 g - 1) (V 6 g) (V 12 2) (V 5 (V 9 g - 1)) (rc_mt V g (V 12 1) 0) (if V 10 g = V 9 g then V 11 g + 1 else 0)
def rc_lc (V : rc_V) (r : Nat) : Nat → Nat → Nat
  | 0, _ => V 5 r
  | c + 1, k => if V 9 k = r + 1 then V 6 k + 1 else rc_lc V r c (k + 1)
def rc_pd (V : rc_V) (g : Nat) : Nat := if V 9 g = 0 then V 8 g else V 8 g + V 4 (V 9 g - 1)
def rc_ng (V : rc_V) (k : Nat) : rc_V := fun f j => match f with
  | 5 => rc_lc V j (V 12 1 - k) k
  | 6 => if k ≤ j then rc_mo V j else V 6 j
  | 8 => if k ≤ j then rc_pd V j else V 8 j
  | 9 => if k ≤ j then 0 else V 9 j
  | 10 => if k ≤ j then V 9 j else V 10 j
  | 11 => if k ≤ j then V 6 j else V 11 j
  | _ => V f j
def rc_nf (V : rc_V) : rc_V := rc_vs (rc_ng V 0) 12 2 (V 12 2 + 1)
def rc_sl (V : rc_V) : Nat → Nat
  | 0 => 0
  | k + 1 => rc_sl V k + if V 9 k = 0 then 0 else 1
def o_night (P : rc_P) : Int32 × rc_P := (nI (rc_sl (pV P) (pV P 12 1)), pVs P (rc_nf (pV P)))
theorem rc_mt_le {g : Nat} (h : ∀ k, k < V 12 1 → V 6 k < 27) : ∀ c k, k + c ≤ V 12 1 → rc_mt V g c k ≤ 27 := by
  intro c
  induction c with
  | zero => intro k _; exact Nat.zero_le _
  | succ c ih =>
    intro k hk
    rw [rc_mt]
    split
    · have := h k (by omega); omega
    · exact ih (k + 1) (by omega)
theorem rc_lc_le {r : Nat} (h5 : V 5 r ≤ 27) (h : ∀ k, k < V 12 1 → V 6 k < 27) : ∀ c k, k + c ≤ V 12 1 → rc_lc V r c k ≤ 27 := by
  intro c
  induction c with
  | zero => intro k _; exact h5
  | succ c ih =>
    intro k hk
    rw [rc_lc]
    split
    · have := h k (by omega); omega
    · exact ih (k + 1) (by omega)
theorem rc_mo_lt {g : Nat} (hW : rc_WF n V) (hg : g < V 12 1) : rc_mo V g < 27 := by
  obtain ⟨w1, w2, w3, w4, w5, w6, w7⟩ := hW
  obtain ⟨g1, g2, g3, g4, g5⟩ := w6 g hg
  unfold rc_mo
  split
  · exact g1
  · rename_i hz
    refine rc_nV_lt (w5 _ (by omega)) g1 ?_
    split
    · rename_i he
      have := g5 (by omega)
      omega
    · exact Nat.zero_le _
theorem rc_nf_W (hW : rc_WF n V) : rc_WF (n + 1) (rc_nf V) := by
  have hm := fun g => rc_mo_lt (g := g) hW
  obtain ⟨w1, w2, w3, w4, w5, w6, w7⟩ := hW
  refine ⟨w1, w2, ?_, w4, fun i hi => ?_, fun g hg => ?_, w7⟩
  · show V 12 2 + 1 ≤ n + 1
    omega
  · obtain ⟨a1, a2, a3, a4, a5, a6⟩ := w5 i hi
    exact ⟨a1, a2, a3, a4, a5, rc_lc_le a6 (fun k hk => (w6 k hk).1) _ 0 (by omega)⟩
  · have hg' : g < V 12 1 := hg
    obtain ⟨g1, g2, g3, g4, g5⟩ := w6 g hg'
    refine ⟨?_, g2, ?_, ?_, fun _ => ?_⟩
    · show (if 0 ≤ g then rc_mo V g else V 6 g) < 27
      rw [if_pos (Nat.zero_le _)]; exact hm g hg'
    · show (if 0 ≤ g then 0 else V 9 g) ≤ V 12 0
      rw [if_pos (Nat.zero_le _)]; exact Nat.zero_le _
    · show (if 0 ≤ g then V 9 g else V 10 g) ≤ 6
      rw [if_pos (Nat.zero_le _)]; omega
    · show (if 0 ≤ g then V 6 g else V 11 g) < 27
      rw [if_pos (Nat.zero_le _)]; exact g1
theorem c_mate_l {g : Nat} (hC : rc_Cls 0 σ V) (hW : rc_WF n V) (hg : g < V 12 1) {Q' : Option Value → rc_M → Prop} (h : Q' (some (.int (rc_cI (rc_mt V g (V 12 1) 0)))) σ) : ∀ (c k : Nat), k + c = V 12 1 → rc_mt V g (V 12 1) 0 = rc_mt V g c k → rc_Tc d 17 2 [.ref 3, .int (nI g), .int (nI k)] [] σ Q' := by
  have e33 : σ 3 3 = nI (V 12 1) := hC.2.1
  have hng := hW.2.1
  have hb6 := hW.1
  intro c
  induction c with
  | zero =>
    intro k hk he
    have : k = V 12 1 := by omega
    subst this
    rw [he] at h
    exact rc_go 40 (And.intro (fun _ => h) (fun c => absurd (by rw [e33]; exact nI_le (Nat.le_refl _) (by omega)) c))
  | succ c ih =>
    intro k hk he
    have hk5 : k < 5 := by omega
    have hg5 : g < 5 := by omega
    have hCk := hC.2.2.2.2.2.1 k (by omega)
    have hCg := hC.2.2.2.2.2.1 g hg
    have h9k := (hW.2.2.2.2.2.1 k (by omega)).2.2.1
    have h9g := (hW.2.2.2.2.2.1 g hg).2.2.1
    rw [rc_mt] at he
    refine rc_go 60 (And.intro (fun c1 => absurd (by rw [e33] at c1; exact c1) (nI_ge (by omega) (by omega))) (fun _ => ?_))
    refine And.intro (fun c2 => ?_) (fun c2 => ?_)
    · have z : k = g := (nI_eq (by omega) (by omega)).mp c2
      rw [if_neg (fun q => q.1 z)] at he
      have key := ih (k + 1) (by omega) he
      rw [← nI_1] at key
      exact key
    · have z : k ≠ g := fun z => c2 (by rw [z])
      refine Exists.intro (21 + 2 * k) (And.intro rfl (And.intro (rc_vi (n := 5) hk5 (by decide)) (And.intro (by rw [rc_ci (by omega)]; exact rc_rho5 _ hk5) (And.intro (rc_gsf k hk5).1 ?_))))
      refine Exists.intro (21 + 2 * g) (And.intro rfl (And.intro (rc_vi (n := 5) hg5 (by decide)) (And.intro (by rw [rc_ci (by omega)]; exact rc_rho5 _ hg5) (And.intro (rc_gsf g hg5).1 ?_))))
      have ek : σ (21 + 2 * k) 3 = rc_cI (V 9 k) := hCk.2.2.2.1
      have eg : σ (21 + 2 * g) 3 = rc_cI (V 9 g) := hCg.2.2.2.1
      refine And.intro (fun c3 => ?_) (fun c3 => ?_)
      · rw [ek, eg] at c3
        have z2 : ¬ V 9 k = V 9 g := fun q => c3 (by rw [q])
        rw [if_neg (fun q => z2 q.2)] at he
        have key := ih (k + 1) (by omega) he
        rw [← nI_1] at key
        exact key
      · rw [ek, eg] at c3
        have z2 : V 9 k = V 9 g := (rc_cI_inj (by omega) (by omega)).mp c3
        rw [if_pos ⟨z, z2⟩] at he
        rw [he] at h
        refine Exists.intro (21 + 2 * k) (And.intro rfl (And.intro (rc_vi (n := 5) hk5 (by decide)) (And.intro (by rw [rc_ci (by omega)]; exact rc_rho5 _ hk5) (And.intro (rc_gsf k hk5).1 ?_))))
        rw [show σ (21 + 2 * k) 0 = nI (V 6 k) from hCk.1]
        exact h
theorem c_mate {g : Nat} (hC : rc_Cls 0 σ V) (hW : rc_WF n V) (hg : g < V 12 1) (h : Q (rc_cI (rc_mt V g (V 12 1) 0)) σ) : rc_TI d 17 [.ref 3, .int (nI g)] σ Q :=
  rc_go 20 (c_mate_l hC hW hg ⟨_, rfl, h⟩ (V 12 1) 0 (by omega) rfl)
theorem rc_cI_p {c : Nat} (h : c ≠ 0) : rc_cI c = nI (c - 1) := by
  obtain ⟨k, rfl⟩ := Nat.exists_eq_succ_of_ne_zero h
  rfl
theorem c_morning {x : Int32} {g : Nat} (hx : x = nI g) (h0 : σ 0 = rc_wt) (hn : n ≤ 900) (hC : rc_Cls 0 σ V) (hW : rc_WF n V) (hg : g < V 12 1) (h : Q (nI (rc_mo V g)) σ) : rc_TI (d + 3) 16 [.ref 3, .int x] σ Q := by
  subst hx
  have hng := hW.2.1
  have hb6 := hW.1
  have hg5 : g < 5 := by omega
  have hCg := hC.2.2.2.2.2.1 g hg
  obtain ⟨g1, g2, g3, g4, g5⟩ := hW.2.2.2.2.2.1 g hg
  have eg : σ (21 + 2 * g) 3 = rc_cI (V 9 g) := hCg.2.2.2.1
  have e0 : σ (21 + 2 * g) 0 = nI (V 6 g) := hCg.1
  have e4 : σ (21 + 2 * g) 4 = rc_cI (V 10 g) := hCg.2.2.2.2.1
  have a1 := (rc_gsf g hg5).1
  refine rc_go 120 (Exists.intro (21 + 2 * g) (And.intro rfl (And.intro (rc_vi (n := 5) hg5 (by decide)) (And.intro (by rw [rc_ci (by omega)]; exact rc_rho5 _ hg5) (And.intro a1 ?_)))))
  unfold rc_mo at h
  by_cases hz : V 9 g = 0
  · rw [if_pos hz] at h
    refine c_hasRoom (n := V 12 0) hC.1 hb6 (fun _ => ?_) (fun j hj he => ?_)
    · refine And.intro (fun z => absurd rfl z) (fun _ => And.intro a1 ⟨_, rfl, ?_⟩)
      rw [e0]; exact h
    · rw [eg, hz] at he
      exact absurd (show (-9 : Int32) < 0 by decide) (by rw [show (-9 : Int32) = nI j from he]; exact nI_pos (by omega))
  · rw [if_neg hz] at h
    have egp : σ (21 + 2 * g) 3 = nI (V 9 g - 1) := by rw [eg, rc_cI_p hz]
    have hr6 : V 9 g - 1 < 6 := by omega
    have hWr := hW.2.2.2.2.1 _ hr6
    have hRm := (hC.2.2.2.2.1 _ hr6).rm hr6
    have e5 : σ (9 + 2 * (V 9 g - 1)) 5 = rc_cI (V 5 (V 9 g - 1)) := (hC.2.2.2.2.1 _ hr6).2.2.2.2.2
    have hmt := rc_mt_le (g := g) (fun k hk => (hW.2.2.2.2.2.1 k hk).1) (V 12 1) 0 (by omega)
    refine c_hasRoom (n := V 12 0) hC.1 hb6 (fun ho => absurd ho (by rw [egp]; exact rc_out_not (by omega) (by omega))) (fun j hj he => ?_)
    refine And.intro (fun _ => And.intro a1 ?_) (fun z => absurd z (by decide))
    rw [egp]
    refine Exists.intro (9 + 2 * (V 9 g - 1)) (And.intro rfl (And.intro (rc_vi (n := 6) hr6 (by decide)) (And.intro (by rw [rc_ci (by omega)]; exact rc_rho4 _ hr6) (And.intro a1 (And.intro a1 ?_)))))
    refine And.intro (fun c2 => ?_) (fun c2 => ?_)
    · rw [e4, eg] at c2
      have z2 : ¬ V 10 g = V 9 g := fun q => c2 (by rw [q])
      rw [if_neg z2] at h
      refine And.intro a1 (And.intro hRm.1 (c_mate hC hW hg (And.intro hRm.1 ?_)))
      exact c_after (uc := 0) e0 hC.2.2.1 e5 rfl rfl h0 g1 (by have := hW.2.2.1; omega) hWr.2.2.2.2.2 hmt (by decide) hRm hWr.1 hWr.2.1 hWr.2.2.1 ⟨_, rfl, h⟩
    · rw [e4, eg] at c2
      have z2 : V 10 g = V 9 g := (rc_cI_inj (by omega) (by omega)).mp c2
      rw [if_pos z2] at h
      have e11 : σ (21 + 2 * g) 5 = nI (V 11 g) := hCg.2.2.2.2.2 (by omega)
      refine And.intro a1 (And.intro a1 (And.intro hRm.1 (c_mate hC hW hg (And.intro hRm.1 ?_))))
      exact c_after (uc := V 11 g + 1) e0 hC.2.2.1 e5 rfl e11 h0 g1 (by have := hW.2.2.1; omega) hWr.2.2.2.2.2 hmt (by have := g5 (by omega); omega) hRm hWr.1 hWr.2.1 hWr.2.2.1 ⟨_, rfl, h⟩
end RNi
