section RJ
variable {d n : Nat} {σ : rc_M} {P : rc_P} {V : rc_V} {Q : Int32 → rc_M → Prop}
/-! judge -/
def rc_jg (b : Nat) (td : Nat → Nat) : Nat → Nat → Option Nat
  | 0, _ => none
  | c + 1, k => if b ≤ td k then some k else rc_jg b td c (k + 1)
def a_judge (V : rc_V) (td : Nat → Nat) (tl g : Nat) : Int32 := match rc_jg (V 12 0) td tl 0 with
  | some k => nI k
  | none => if rc_wd V g (rc_E V td (V 6 g) tl) then -9 else nI tl
def rc_pt0 (P : rc_P) : rc_P := (P.1, P.2.1, P.2.2.1, P.2.2.2.1, P.2.2.2.2.1, ptd P, 0, prf P)
def o_judge (P : rc_P) (x : Int32) : Int32 × rc_P := cond (rc_ob x (pV P 12 1)) (o_no P 1) (a_judge (pV P) (ptd P) (ptl P) x.toNatClampNeg, rc_pt0 P)
theorem o_judge_W {x : Int32} (h : rc_WP n P) : rc_WP n (o_judge P x).2 := by
  unfold o_judge
  cases rc_ob x (pV P 12 1) with
  | true => exact rc_no_W h
  | false => exact ⟨h.1, h.2.1, h.2.2.1, Nat.zero_le _, fun j hj => absurd hj (Nat.not_lt_zero _)⟩
theorem rc_jg_none {b : Nat} {td : Nat → Nat} : ∀ (c k : Nat), rc_jg b td c k = none → ∀ j, k ≤ j → j < k + c → td j < b := by
  intro c
  induction c with
  | zero => intro k _ j h1 h2; omega
  | succ c ih =>
    intro k h j h1 h2
    rw [rc_jg] at h
    split at h
    · cases h
    · rename_i hz
      by_cases e : j = k
      · subst e; omega
      · exact ih (k + 1) h j (by omega) (by omega)
theorem c_endR {x : Int32} {n s' : Nat} {row : Nat → Nat} (hx : x = nI s') (hs' : s' < 27) (hA : rc_CA σ V) (w1 : σ 62 3 = nI n) (w2 : n ≤ 6) (w3 : ∀ j, j < n → σ 63 j = nI (row j) ∧ row j < 6) {Q : Int32 → rc_M → Prop} (h : ∀ σ', rc_fr [62, 63, 64] σ σ' → Q (nI (rc_E V row s' n)) σ') : rc_TI (d + 4) 73 [.ref 62, .int x] σ Q := by
  subst hx
  refine rc_go 40 (And.intro (rc_vi (n := 7) (i := 0) (by decide) (by decide)) ?_)
  have fr1 : rc_fr [62, 63, 64] σ (rc_up σ 64 (upd (σ 64) 0 (nI s'))) := rc_fr.up (by simp)
  refine c_sleepFrom (k := 0) (n := n) (s := s') (row := row) rfl (hA.fr fr1 (by simp)) hs' w2 (Nat.zero_le _) (by rw [rc_up_n _ _ (by decide)]; exact w1) (fun j hj => by rw [rc_up_n _ _ (by decide)]; exact w3 j hj) (fun j hj => ?_) (fun g hg => ?_)
  · have : j = 0 := by omega
    subst this
    rw [rc_up_s, pk_us]
    rfl
  · have e62 : rc_up (rc_up σ 64 (upd (σ 64) 0 (nI s'))) 64 g 62 3 = nI n := by rw [rc_up_n _ _ (by decide), rc_up_n _ _ (by decide)]; exact w1
    refine And.intro (by rw [e62]; exact rc_vi (n := 7) (by omega) (by decide)) ⟨_, rfl, ?_⟩
    rw [e62, rc_ci (by omega), rc_up_s, hg n (Nat.le_refl _)]
    exact h _ (fr1.tr (rc_fr.up (by simp)))
theorem c_endOfRow {x y : Int32} {n s : Nat} {row : Nat → Nat} (hx : x = nI s) (hy : y = nI n) (hs : s < 27) (hA : rc_CA σ V) (hn : n ≤ 6) (hr : ∀ j, j < n → σ 76 j = nI (row j) ∧ row j < 6) {Q : Int32 → rc_M → Prop} (h : ∀ σ', rc_fr [62, 63, 64] σ σ' → Q (nI (rc_E V row s n)) σ') : rc_TI (d + 5) 74 [.ref 62, .int x, .ref 76, .int y] σ Q := by
  subst hx; subst hy
  have hc : (nI n).toNatClampNeg = n := rc_ci (by omega)
  refine rc_go 40 (And.intro ⟨rfl, rfl, by decide, by decide, by decide, by decide, nI_pos (by omega), ?_, ?_⟩ ?_)
  · rw [hc]; show 0 + n ≤ 6; omega
  · rw [hc]; show 0 + n ≤ 6; omega
  · have fr1 : rc_fr [62, 63, 64] σ (rc_up (rc_up σ 62 (upd (σ 62) 3 (nI n))) 63 (va_cpy ((rc_up σ 62 (upd (σ 62) 3 (nI n))) 76) ((rc_up σ 62 (upd (σ 62) 3 (nI n))) 63) (0 : Int32).toNatClampNeg (0 : Int32).toNatClampNeg (nI n).toNatClampNeg)) := (rc_fr.up (by simp)).tr (rc_fr.up (by simp))
    refine c_endR (n := n) (row := row) rfl hs (hA.fr fr1 (by simp)) ?_ hn (fun j hj => ⟨?_, (hr j hj).2⟩) (fun σ' hf => ⟨_, rfl, h σ' (fr1.tr hf)⟩)
    · rw [rc_up_n _ _ (by decide), rc_up_s, pk_us]
    · rw [rc_up_s, hc]
      show va_cpy _ _ 0 0 n j = _
      rw [pk_cpy_in (Nat.zero_le _) (by omega), rc_up_n _ _ (by decide)]
      show σ 76 (0 + (j - 0)) = _
      rw [Nat.zero_add, Nat.sub_zero]
      exact (hr j hj).1
theorem c_jdg_l {g : Nat} {td : Nat → Nat} {tl : Nat} (hA : rc_CA σ V) (hg : g < 5) (hCG : rc_CG 0 σ V g) (hWg : rc_WG V g) (htl : tl ≤ 6) (ht : ∀ j, j < tl → σ 76 j = nI (td j) ∧ td j ≤ 9) {Q' : Option Value → rc_M → Prop} (h : ∀ σ', rc_fr [62, 63, 64] σ σ' → Q' (some (.int (a_judge V td tl g))) σ') :
    ∀ (c k : Nat), k + c = tl → rc_jg (V 12 0) td tl 0 = rc_jg (V 12 0) td c k → rc_Tc (d + 6) 110 29 [.ref 2, .int (nI g), .int (nI tl), .int (nI k)] [] σ Q' := by
  intro c
  induction c with
  | zero =>
    intro k hk hj
    have : k = tl := by omega
    subst this
    have hall := rc_jg_none k 0 hj
    obtain ⟨a1, a2, a3, a4⟩ := rc_gsf g hg
    have hb6 := hA.2.2.2.2
    have hrow : ∀ j, j < k → σ 76 j = nI (td j) ∧ td j < 6 := fun j hj => ⟨(ht j hj).1, by have := hall j (by omega) (by omega); omega⟩
    have hElt : rc_E V td (V 6 g) k < 27 := rc_E_lt hWg.1 k (fun i hi => hA.2.2.1 _ (hrow i hi).2)
    refine rc_go 60 (And.intro (fun _ => ?_) (fun c => absurd (nI_le (Nat.le_refl _) (by omega)) c))
    refine Exists.intro (21 + 2 * g) (And.intro rfl (And.intro (rc_vi (n := 5) hg (by decide)) (And.intro (by rw [rc_ci (by omega)]; exact rc_rho5 _ hg) (And.intro a1 ?_))))
    refine c_endOfRow (row := td) hCG.1 rfl hWg.1 hA htl hrow (fun σ' hf => And.intro a1 ?_)
    have hA1 := hA.fr hf (by simp)
    have hG1 : rc_CG 0 σ' V g := hCG.fr (hf _ (by simp; omega)) (hf _ (by simp; omega))
    refine c_wishes rfl hA1.1 hElt (hG1.gs hg) hWg.2.1 ?_
    have h' := h σ' hf
    unfold a_judge at h'
    rw [hj] at h'
    dsimp only [rc_jg] at h'
    refine And.intro (fun c2 => ?_) (fun c2 => ?_)
    · have e : rc_wd V g (rc_E V td (V 6 g) k) = false := rc_bI_0.mp c2
      rw [e] at h'
      exact h'
    · have e : rc_wd V g (rc_E V td (V 6 g) k) = true := by
        cases hz : rc_wd V g (rc_E V td (V 6 g) k) with
        | true => rfl
        | false => exact absurd (show rc_bI (rc_wd V g (rc_E V td (V 6 g) k)) = 0 by rw [hz]; rfl) c2
      rw [e] at h'
      exact h'
  | succ c ih =>
    intro k hk hj
    have hb6 := hA.2.2.2.2
    obtain ⟨t1, t2⟩ := ht k (by omega)
    refine rc_go 60 (And.intro (fun c1 => absurd c1 (nI_ge (by omega) (by omega))) (fun _ => ?_))
    refine And.intro (rc_vi (n := 6) (by omega) (by decide)) ?_
    rw [rc_ci (by omega), t1]
    rw [rc_jg] at hj
    refine c_hasRoom hA.2.2.2.1 hb6 (fun ho => ?_) (fun j hjb he => ?_)
    · have hz : V 12 0 ≤ td k := by
        rcases Nat.lt_or_ge (td k) (V 12 0) with z | z
        · exact absurd ho (rc_out_not z (by omega))
        · exact z
      rw [if_pos hz] at hj
      have h' := h σ rc_fr.rf
      unfold a_judge at h'
      rw [hj] at h'
      exact And.intro (fun z => absurd rfl z) (fun _ => h')
    · have e : td k = j := (nI_eq (by omega) (by omega)).mp he
      rw [if_neg (by omega)] at hj
      have key := ih (k + 1) (by omega) hj
      rw [← nI_1] at key
      exact And.intro (fun _ => key) (fun z => absurd z (by decide))
theorem c_judge {x : Int32} (hI : rc_CP σ P) (hW : rc_WP n P) (h : ∀ σ', rc_fC σ σ' → rc_CP σ' (o_judge P x).2 → Q (o_judge P x).1 σ') : rc_TI (d + 6) 110 [.ref 2, .int x] σ Q := by
  have h6 := hW.1.2.1
  refine rc_go 60 (c_hasGuest hI.2.1.2.1 (by omega) (fun ho => ?_) (fun g hg hx => ?_))
  · refine And.intro (fun z => absurd rfl z) (fun _ => ?_)
    exact c_ref (w := 1) (by decide) (by decide) hI hW (by simp only [o_judge, rc_ob_t ho, cond_true]) (fun σ' a b => ⟨_, rfl, h σ' a b⟩)
  · subst hx
    refine And.intro (fun _ => ?_) (fun z => absurd z (by decide))
    have ho : o_judge P (nI g) = (a_judge (pV P) (ptd P) (ptl P) g, rc_pt0 P) := by simp only [o_judge, rc_ob_f hg (show _ ≤ 2000 by omega), cond_false, rc_ci (show g ≤ 2000 by omega)]
    rw [ho] at h
    have fr1 : rc_fr [2] σ (rc_up σ 2 (upd (σ 2) 10 0)) := rc_fr.up (by simp)
    have e : ∀ k, k ≠ 2 → rc_up σ 2 (upd (σ 2) 10 0) k = σ k := fun k hk => rc_up_n _ _ hk
    have hI2 : rc_CP (rc_up σ 2 (upd (σ 2) 10 0)) (rc_pt0 P) := by
      obtain ⟨h1, h2, h3, h4, h5, h6, h7⟩ := hI
      refine ⟨?_, h2.at hW.1.2.1 (fun k _ _ _ => e k (by omega)), ?_, ⟨?_, fun j hj => absurd hj (Nat.not_lt_zero _)⟩, fun j hj => ?_, ?_, fun hi => (h7 hi).at (hW.2.1 hi).2.1 (fun k _ _ _ => e k (by omega))⟩
      · rw [e _ (by omega)]; exact h1
      · rw [e 59 (by omega), e 60 (by omega)]; exact h3
      · rw [rc_up_s, pk_us]; rfl
      · rw [e 77 (by omega)]; exact h5 j hj
      · rw [rc_up_s, pk_un (by decide)]; exact h6
    have hW2 : rc_WP n (rc_pt0 P) := ⟨hW.1, hW.2.1, hW.2.2.1, Nat.zero_le _, fun j hj => absurd hj (Nat.not_lt_zero _)⟩
    have key := c_jdg_l (d := d) (Q' := fun r σ' => ∃ x, r = some (Value.int x) ∧ Q x σ') (hI2.CA hW2) (by omega) (hI2.2.1.2.2.2.2.2.1 g hg) (hW.1.2.2.2.2.2.1 g hg) hW.2.2.2.1 (fun j hj => ⟨by rw [e 76 (by omega)]; exact hI.2.2.2.1.2 j hj, hW.2.2.2.2 j hj⟩) (fun σ' hf => ⟨_, rfl, h σ' ((rc_fC.up (by omega)).tr (hf.fC (by simp))) (hI2.fr hW2 hf (by simp))⟩) (ptl P) 0 (by omega) rfl
    rw [← hI.2.2.2.1.1] at key
    exact key
theorem t_jdg_l {g : Nat} {td : Nat → Nat} {tl : Nat} (hM : rc_Mod σ V) (hb6 : V 12 0 ≤ 6) (hWr : ∀ i, i < 6 → rc_WR V i) (hg : g < V 12 1) (hg5 : V 12 1 ≤ 5) (hWg : rc_WG V g) (htl : tl ≤ 6) (ht : ∀ j, j < tl → σ 110 j = nI (td j) ∧ td j ≤ 9) {Q' : Option Value → rc_M → Prop} (h : ∀ σ', rc_fq σ σ' → Q' (some (.int (a_judge V td tl g))) σ') :
    ∀ (c k : Nat) (σ1 : rc_M), k + c = tl → rc_fq σ σ1 → (∀ j, j < k → σ1 102 j = nI (td j)) → rc_jg (V 12 0) td tl 0 = rc_jg (V 12 0) td c k → (∀ j, j < k → td j < V 12 0) → rc_Tc (d + 5) 183 26 [.ref 80, .int (nI g), .int (nI tl), .int (nI k)] [] σ1 Q' := by
  intro c
  induction c with
  | zero =>
    intro k σ1 hk hf hr hj hall
    have : k = tl := by omega
    subst this
    have hM1 := hM.fq hf
    have hMg := hM1.2.2.2.2.2.1 g hg
    have hR : rc_MRw σ1 V td k := fun j hjk => ⟨hr j hjk, by have := hall j hjk; omega, hM1.2.2.2.2.1 _ (hall j hjk), hWr _ (by have := hall j hjk; omega)⟩
    have hElt : rc_E V td (V 6 g) k < 27 := rc_E_lt hWg.1 k (fun i hi => hWr _ (hR i hi).2.1)
    refine rc_go 60 (And.intro (fun _ => ?_) (fun c => absurd (nI_le (Nat.le_refl _) (by omega)) c))
    refine And.intro (rc_vi (n := 5) (by omega) (by decide)) ?_
    refine t_madeBy (row := td) (s := V 6 g) (by rw [rc_ci (by omega)]; exact hMg.1) rfl hWg.1 htl hR (fun f => ?_)
    have hf2 : rc_fq σ (rc_up σ1 103 f) := hf.tr (rc_fq.up (by omega))
    have hMg2 := (hM.fq hf2).2.2.2.2.2.1 g hg
    refine t_isHad (V := V) (g := g) rfl rfl hElt (by omega) hMg2.2.1 hWg.2.1 ?_
    have h' := h _ hf2
    unfold a_judge at h'
    rw [hj] at h'
    dsimp only [rc_jg] at h'
    refine And.intro (fun c2 => ?_) (fun c2 => ?_)
    · have e : rc_wd V g (rc_E V td (V 6 g) k) = false := rc_bI_0.mp c2
      rw [e] at h'
      exact h'
    · have e : rc_wd V g (rc_E V td (V 6 g) k) = true := by
        cases hz : rc_wd V g (rc_E V td (V 6 g) k) with
        | true => rfl
        | false => exact absurd (show rc_bI (rc_wd V g (rc_E V td (V 6 g) k)) = 0 by rw [hz]; rfl) c2
      rw [e] at h'
      exact h'
  | succ c ih =>
    intro k σ1 hk hf hr hj hall
    have hM1 := hM.fq hf
    obtain ⟨t1, t2⟩ := ht k (by omega)
    have t1' : σ1 110 k = nI (td k) := by rw [hf.at (k := 110) (by omega)]; exact t1
    refine rc_go 60 (And.intro (fun c1 => absurd c1 (nI_ge (by omega) (by omega))) (fun _ => ?_))
    refine And.intro (rc_vi (n := 6) (by omega) (by decide)) ?_
    rw [rc_ci (by omega), t1']
    rw [rc_jg] at hj
    refine t_isNoRoom hM1.1 hb6 (fun ho => ?_) (fun j hjb he => ?_)
    · have hz : V 12 0 ≤ td k := by
        rcases Nat.lt_or_ge (td k) (V 12 0) with z | z
        · exact absurd ho (rc_out_not z (by omega))
        · exact z
      rw [if_pos hz] at hj
      have h' := h σ1 hf
      unfold a_judge at h'
      rw [hj] at h'
      exact And.intro (fun z => absurd z (by decide)) (fun _ => h')
    · have e : td k = j := (nI_eq (by omega) (by omega)).mp he
      rw [if_neg (by omega)] at hj
      refine And.intro (fun _ => ?_) (fun z => absurd rfl z)
      refine And.intro (rc_vi (n := 6) (by omega) (by decide)) (And.intro (rc_vi (n := 6) (by omega) (by decide)) ?_)
      rw [rc_ci (by omega), t1']
      have key := ih (k + 1) (rc_up σ1 102 (upd (σ1 102) k (nI (td k)))) (by omega) (hf.tr (rc_fq.up (by omega))) (fun i hi => by
        rw [rc_up_s]
        by_cases z : i = k
        · subst z; exact pk_us
        · rw [pk_un z]; exact hr i (by omega)) hj (fun i hi => by
        by_cases z : i = k
        · subst z; omega
        · exact hall i (by omega))
      rw [← nI_1] at key
      exact key
theorem t_judge {x : Int32} (hI : rc_MP σ P) (hW : rc_WP n P) (h : ∀ σ', rc_fM σ σ' → rc_MP σ' (o_judge P x).2 → Q (o_judge P x).1 σ') : rc_TI (d + 5) 183 [.ref 80, .int x] σ Q := by
  have h6 := hW.1.2.1
  refine rc_go 60 (t_isNoGuest hI.1.2.1 (by omega) (fun ho => ?_) (fun g hg hx => ?_))
  · refine And.intro (fun z => absurd z (by decide)) (fun _ => ?_)
    exact t_ref (w := 1) (by decide) (by decide) hI (by simp only [o_judge, rc_ob_t ho, cond_true]) (fun σ' a b => ⟨_, rfl, h σ' a b⟩)
  · subst hx
    refine And.intro (fun _ => ?_) (fun z => absurd rfl z)
    have ho : o_judge P (nI g) = (a_judge (pV P) (ptd P) (ptl P) g, rc_pt0 P) := by simp only [o_judge, rc_ob_f hg (show _ ≤ 2000 by omega), cond_false, rc_ci (show g ≤ 2000 by omega)]
    rw [ho] at h
    have hI2 : rc_MP (rc_up σ 80 (upd (σ 80) 44 0)) (rc_pt0 P) := by
      have key : rc_MP (rc_up σ 80 (upd (σ 80) 44 (σ 80 44))) P := by
        rw [rc_upd_self, rc_ui]
        exact hI
      obtain ⟨h1, h2, h3, h4, h5, h6, h7, h8⟩ := hI
      exact ⟨key.1, key.2.1, ⟨rfl, fun j hj => absurd hj (Nat.not_lt_zero _)⟩, h4, key.2.2.2.2.1, h6, h7, h8⟩
    have key := t_jdg_l (d := d) (Q' := fun r σ' => ∃ x, r = some (Value.int x) ∧ Q x σ') hI2.1 hW.1.1 hW.1.2.2.2.2.1 hg h6 (hW.1.2.2.2.2.2.1 g hg) hW.2.2.2.1 (fun j hj => ⟨hI.2.2.1.2 j hj, hW.2.2.2.2 j hj⟩) (fun σ' hf => ⟨_, rfl, h σ' ((rc_fM.up (by omega)).tr hf.fM) (hI2.fq hf)⟩) (ptl P) 0 _ (by omega) rc_fq.rf (fun j hj => absurd hj (by omega)) rfl (fun j hj => absurd hj (by omega))
    rw [← hI.2.2.1.1] at key
    exact key
end RJ
