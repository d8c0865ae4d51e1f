section RHo
variable {d n : Nat} {σ : rc_M} {P : rc_P} {V : rc_V} {Q : Int32 → rc_M → Prop}
/-! how many have their wish in an order, one night behind the other in one room -/
def rc_hc (V : rc_V) (od : Nat → Nat) : Nat → Nat
  | 0 => 0
  | k + 1 => V 6 (od k) + 1
def rc_hb (V : rc_V) (r : Nat) (od : Nat → Nat) (k : Nat) : Bool := rc_wd V (od k) (rc_nV V r (V 6 (od k)) k (rc_hc V od k) 0 0)
def rc_ho (V : rc_V) (r : Nat) (od : Nat → Nat) : Nat → Nat
  | 0 => 0
  | k + 1 => rc_ho V r od k + (rc_hb V r od k).toNat
theorem rc_hc_le {od : Nat → Nat} {m k : Nat} (hW : rc_WF n V) (hod : ∀ j, j < m → od j < V 12 1) (hk : k ≤ m) : rc_hc V od k ≤ 27 := by
  cases k with
  | zero => exact Nat.zero_le _
  | succ k => exact (hW.2.2.2.2.2.1 _ (hod k (by omega))).1
theorem c_wh_l {r m : Nat} {od : Nat → Nat} (h0 : σ 0 = rc_wt) (hC : rc_Cls 0 σ V) (hW : rc_WF n V) (hr : r < 6) (hm : m ≤ 5) (ho : ∀ j, j < m → σ 74 j = nI (od j) ∧ od j < V 12 1) {Q' : Option Value → rc_M → Prop} (h : Q' (some (.int (nI (rc_ho V r od m)))) σ) : ∀ (c k : Nat) (w6 : Value), k + c = m → rc_Tc (d + 3) 47 9 [.ref 73, .ref (9 + 2 * r), .int (nI m), .int (nI (rc_ho V r od k)), .int (rc_cI (rc_hc V od k)), .int (nI k), w6] [] σ Q' := by
  have hng := hW.2.1
  have hWr := hW.2.2.2.2.1 r hr
  have hRm := (hC.2.2.2.2.1 r hr).rm hr
  intro c
  induction c with
  | zero =>
    intro k w6 hk
    have : k = m := by omega
    subst this
    exact rc_go 40 (And.intro (fun _ => h) (fun c => absurd (nI_le (Nat.le_refl _) (by omega)) c))
  | succ c ih =>
    intro k w6 hk
    obtain ⟨o1, o2⟩ := ho k (by omega)
    have hg5 : od k < 5 := by omega
    have hCg := hC.2.2.2.2.2.1 (od k) o2
    have hWg := hW.2.2.2.2.2.1 (od k) o2
    have a1 := (rc_gsf (od k) hg5).1
    have e0 : σ (21 + 2 * od k) 0 = nI (V 6 (od k)) := hCg.1
    have hhc := rc_hc_le hW (fun j hj => (ho j hj).2) (show k ≤ m by omega)
    have key := ih (k + 1) (.ref (21 + 2 * od k)) (by omega)
    rw [← nI_1, rc_ho, show rc_cI (rc_hc V od (k + 1)) = nI (V 6 (od k)) from rfl, ← e0] at key
    refine rc_go 80 (And.intro (fun c1 => absurd c1 (nI_ge (by omega) (by omega))) (fun _ => ?_))
    refine And.intro (rc_vi (n := 5) (by omega) (by decide)) ?_
    rw [rc_ci (by omega), o1]
    refine Exists.intro (21 + 2 * od k) (And.intro rfl (And.intro (rc_vi (n := 5) hg5 (by decide)) (And.intro (by rw [rc_ci (by omega)]; exact rc_rho5 _ hg5) (And.intro a1 (And.intro hRm.1 ?_)))))
    refine c_after (tc := 0) (uc := 0) e0 rfl rfl rfl rfl h0 hWg.1 (by omega) hhc (by decide) (by decide) hRm hWr.1 hWr.2.1 hWr.2.2.1 (And.intro a1 ?_)
    refine c_wishes rfl h0 (rc_nt_lt hWg.1 hWr.2.1 hWr.2.2.1 (by decide)) (hCg.gs hg5) hWg.2.1 ?_
    refine And.intro (fun c2 => And.intro a1 ?_) (fun c2 => And.intro a1 ?_)
    · have z : rc_hb V r od k = false := rc_bI_0.mp c2
      rw [z] at key
      exact key
    · have z : rc_hb V r od k = true := by
        cases hz : rc_hb V r od k with
        | true => rfl
        | false => exact absurd (show rc_bI (rc_hb V r od k) = 0 by rw [hz]; rfl) c2
      rw [z, show true.toNat = 1 from rfl, ← nI_1] at key
      exact key
theorem c_wishHad {x : Int32} {r m : Nat} {od : Nat → Nat} (hx : x = nI m) (h0 : σ 0 = rc_wt) (hC : rc_Cls 0 σ V) (hW : rc_WF n V) (hr : r < 6) (hm : m ≤ 5) (ho : ∀ j, j < m → σ 74 j = nI (od j) ∧ od j < V 12 1) (h : Q (nI (rc_ho V r od m)) σ) : rc_TI (d + 3) 47 [.ref 73, .ref (9 + 2 * r), .int x] σ Q := by
  subst hx
  exact rc_go 20 (c_wh_l h0 hC hW hr hm ho ⟨_, rfl, h⟩ m 0 _ (by omega))
theorem t_hd_l {r m : Nat} {od : Nat → Nat} (hM : rc_Mod σ V) (hW : rc_WF n V) (hr : r < V 12 0) (hm : m ≤ 5) (ho : ∀ j, j < m → σ 107 j = nI (od j) ∧ od j < V 12 1) {Q' : Option Value → rc_M → Prop} (h : Q' (some (.int (nI (rc_ho V r od m)))) σ) : ∀ (c k : Nat) (w5 : Value), k + c = m → rc_Tc (d + 4) 177 5 [.ref 80, .int (nI r), .int (nI m), .int (nI (rc_ho V r od k)), .int (nI k), w5] [] σ Q' := by
  have hng := hW.2.1
  have hb6 := hW.1
  have hWr := hW.2.2.2.2.1 r (by omega)
  intro c
  induction c with
  | zero =>
    intro k w5 hk
    have : k = m := by omega
    subst this
    exact rc_go 40 (And.intro (fun _ => h) (fun c => absurd (nI_le (Nat.le_refl _) (by omega)) c))
  | succ c ih =>
    intro k w5 hk
    obtain ⟨o1, o2⟩ := ho k (by omega)
    have hg5 : od k < 5 := by omega
    have hMg := hM.2.2.2.2.2.1 (od k) o2
    have hWg := hW.2.2.2.2.2.1 (od k) o2
    have hhc := rc_hc_le hW (fun j hj => (ho j hj).2) (show k ≤ m by omega)
    have key := ih (k + 1) (.int (nI (od k))) (by omega)
    rw [← nI_1, rc_ho] at key
    have fin : rc_Tc (d + 4) 177 57 [.ref 80, .int (nI r), .int (nI m), .int (nI (rc_ho V r od k)), .int (nI k), .int (nI (od k))] [.int (rc_cI (rc_hc V od k)), .int (nI k), .int (nI (V 6 (od k))), .int (nI r), .ref 80, .ref 80, .int (nI (rc_ho V r od k))] σ Q' := by
      refine rc_go 60 (t_makesOf (V := V) (uc := 0) rfl rfl rfl rfl rfl (by omega) hWg.1 (by omega) hhc (by decide) (hM.2.2.2.2.1 r hr) hWr ?_)
      refine t_isHad (V := V) (g := od k) rfl rfl (rc_nV_lt hWr hWg.1 (by decide)) hg5 hMg.2.1 hWg.2.1 ?_
      refine And.intro (fun c2 => ?_) (fun c2 => ?_)
      · have z : rc_hb V r od k = false := rc_bI_0.mp c2
        rw [z, show false.toNat = 0 from rfl, ← nI_add] at key
        exact key
      · have z : rc_hb V r od k = true := by
          cases hz : rc_hb V r od k with
          | true => rfl
          | false => exact absurd (show rc_bI (rc_hb V r od k) = 0 by rw [hz]; rfl) c2
        rw [z, show true.toNat = 1 from rfl, ← nI_add] at key
        exact key
    refine rc_go 60 (And.intro (fun c1 => absurd c1 (nI_ge (by omega) (by omega))) (fun _ => ?_))
    refine And.intro (rc_vi (n := 5) (by omega) (by decide)) ?_
    rw [rc_ci (by omega), o1]
    refine And.intro (rc_vi (n := 5) hg5 (by decide)) ?_
    rw [rc_ci (by omega), hMg.1]
    refine And.intro (fun c2 => ?_) (fun c2 => ?_)
    · obtain ⟨j, rfl⟩ : ∃ j, k = j + 1 := ⟨k - 1, by
        rcases Nat.eq_zero_or_pos k with z | z
        · subst z; exact absurd rfl c2
        · omega⟩
      obtain ⟨p1, p2⟩ := ho j (by omega)
      refine And.intro (by rw [nI_pred]; exact rc_vi (n := 5) (by omega) (by decide)) ?_
      rw [nI_pred, rc_ci (by omega), p1]
      refine And.intro (rc_vi (n := 5) (by omega) (by decide)) ?_
      rw [rc_ci (by omega), (hM.2.2.2.2.2.1 (od j) p2).1]
      exact fin
    · have hk0 : k = 0 := (nI_eq (by omega) (by decide)).mp (show nI k = nI 0 from c2)
      subst hk0
      exact fin
theorem t_had {x y : Int32} {r m : Nat} {od : Nat → Nat} (hx : x = nI r) (hy : y = nI m) (hM : rc_Mod σ V) (hW : rc_WF n V) (hr : r < V 12 0) (hm : m ≤ 5) (ho : ∀ j, j < m → σ 107 j = nI (od j) ∧ od j < V 12 1) (h : Q (nI (rc_ho V r od m)) σ) : rc_TI (d + 4) 177 [.ref 80, .int x, .int y] σ Q := by
  subst hx; subst hy
  exact rc_go 20 (t_hd_l hM hW hr hm ho ⟨_, rfl, h⟩ m 0 _ (by omega))
end RHo
