def rc_ob (x : Int32) (n : Nat) : Bool := decide (x < 0) || decide (nI n ≤ x)
theorem rc_ob_t {x : Int32} {n : Nat} (h : rc_out x n) : rc_ob x n = true := by
  unfold rc_ob
  rcases h with h | h <;> simp [h]
theorem rc_ob_f {j n : Nat} (h : j < n) (hn : n ≤ 2000) : rc_ob (nI j) n = false := by
  have := rc_out_not h hn
  unfold rc_out at this
  unfold rc_ob
  simp only [not_or] at this
  simp [this.1, this.2]
theorem rc_asub (a b : Nat) : nI (a + b) - nI b = nI a := by rw [← nI_add, Int32.add_sub_cancel]
theorem rc_3s (r a b c : Nat) (h : a = b + c) : (3 : Int32) * nI r + nI a - nI c = nI (3 * r + b) := by
  rw [show (3 : Int32) = nI 3 from rfl, pk_mul, nI_add, h, ← Nat.add_assoc, rc_asub]
/-! room -/
def a_room (V : rc_V) (r : Nat) : Nat → Int32
  | 0 => nI (V 0 r) | 1 => nI (V 1 r) | 2 => nI (V 2 (3 * r + 0)) | 3 => nI (V 2 (3 * r + 1)) | 4 => nI (V 2 (3 * r + 2)) | 5 => nI (V 3 r) | 6 => nI (V 4 r) | _ => rc_cI (V 5 r)
def o_room (P : rc_P) (x y : Int32) : Int32 × rc_P := cond (rc_ob x (pV P 12 0)) (o_no P 1) (cond (rc_ob y 8) (o_no P 2) (a_room (pV P) x.toNatClampNeg y.toNatClampNeg, P))
def a_guest (V : rc_V) (g : Nat) : Nat → Int32
  | 0 => nI (V 6 g) | 1 => nI (V 7 (3 * g + 0)) | 2 => nI (V 7 (3 * g + 1)) | 3 => nI (V 7 (3 * g + 2)) | 4 => rc_bI (rc_wd V g (V 6 g)) | 5 => nI (V 8 g) | 6 => rc_cI (V 9 g) | _ => rc_cI (V 10 g)
def o_guest (P : rc_P) (x y : Int32) : Int32 × rc_P := cond (rc_ob x (pV P 12 1)) (o_no P 1) (cond (rc_ob y 8) (o_no P 2) (a_guest (pV P) x.toNatClampNeg y.toNatClampNeg, P))
theorem o_room_a {P : rc_P} {r j : Nat} (hr : r < pV P 12 0) (h6 : pV P 12 0 ≤ 6) (hj : j < 8) : o_room P (nI r) (nI j) = (a_room (pV P) r j, P) := by
  unfold o_room
  rw [rc_ob_f hr (by omega), rc_ob_f hj (by omega), rc_ci (by omega), rc_ci (by omega)]
  rfl
theorem o_guest_a {P : rc_P} {r j : Nat} (hr : r < pV P 12 1) (h6 : pV P 12 1 ≤ 5) (hj : j < 8) : o_guest P (nI r) (nI j) = (a_guest (pV P) r j, P) := by
  unfold o_guest
  rw [rc_ob_f hr (by omega), rc_ob_f hj (by omega), rc_ci (by omega), rc_ci (by omega)]
  rfl
theorem rc_ou8 {y : Int32} (h : y.toInt < ((0 : Nat) : Int) ∨ ((0 : Nat) : Int) + 8 ≤ y.toInt) : rc_out y 8 := by
  rcases h with h | h
  · left
    rw [Int32.lt_iff_toInt_lt]
    simpa using h
  · right
    rw [Int32.le_iff_toInt_le, nI_toInt (by decide)]
    simpa using h
section RQ
variable {d n : Nat} {σ : rc_M} {P : rc_P} {Q : Int32 → rc_M → Prop}
theorem c_room {x y : Int32} (hI : rc_CP σ P) (hW : rc_WP n P) (h : ∀ σ', rc_fC σ σ' → rc_CP σ' (o_room P x y).2 → Q (o_room P x y).1 σ') : rc_TI (d + 1) 85 [.ref 2, .int x, .int y] σ Q := by
  have h6 := hW.1.1
  refine rc_go 60 (c_hasRoom hI.2.1.1 h6 (fun ho => ?_) (fun r hr hx => ?_))
  · refine And.intro (fun z => absurd rfl z) (fun _ => ?_)
    exact c_ref (w := 1) (by decide) (by decide) hI hW (by simp only [o_room, rc_ob_t ho, cond_true]) (fun σ' a b => ⟨_, rfl, h σ' a b⟩)
  · subst hx
    refine And.intro (fun _ => ?_) (fun z => absurd z (by decide))
    have hr6 : r < 6 := by omega
    obtain ⟨b1, b2, b3, b4, b5, b6⟩ := hI.2.1.2.2.2.2.1 r hr6
    obtain ⟨a1, a2, a3, a4⟩ := rc_rmf r hr6
    have e10 : 10 + 2 * r + 0 = 9 + 2 * r + 1 := by omega
    rw [e10] at b3
    refine Exists.intro (9 + 2 * r) (And.intro rfl (And.intro (rc_vi (n := 6) hr6 (by decide)) (And.intro (by rw [rc_ci (by omega)]; exact rc_rho4 _ hr6) ?_)))
    have tl : ∀ v, v < 3 → vp_in (nI v) (rc_lay (9 + 2 * r + 1)).2.2 := fun v hv => by rw [a4]; exact rc_vi (n := 3) hv (by decide)
    refine And.intro (And.intro (fun e => ?_) (And.intro (fun e => ?_) (And.intro (fun e => ?_) (And.intro (fun e => ?_) (And.intro (fun e => ?_) (And.intro (fun e => ?_) (And.intro (fun e => ?_) (And.intro (fun e => ?_) trivial)))))))) (fun e => ?_)
    · have e : y = nI 0 := e
      subst e
      rw [o_room_a (j := 0) hr h6 (by decide)] at h
      exact And.intro a1 ⟨_, rfl, b1.symm ▸ h σ rc_fC.rf hI⟩
    · have e : y = nI 1 := e
      subst e
      rw [o_room_a (j := 1) hr h6 (by decide)] at h
      exact And.intro a1 ⟨_, rfl, b2.symm ▸ h σ rc_fC.rf hI⟩
    · have e : y = nI 2 := e
      subst e
      rw [o_room_a (j := 2) hr h6 (by decide)] at h
      exact Exists.intro (9 + 2 * r + 1) (And.intro a1 (And.intro a2 (And.intro a3 (And.intro (tl 0 (by decide)) ⟨_, rfl, (b3 0 (by decide)).symm ▸ h σ rc_fC.rf hI⟩))))
    · have e : y = nI 3 := e
      subst e
      rw [o_room_a (j := 3) hr h6 (by decide)] at h
      exact Exists.intro (9 + 2 * r + 1) (And.intro a1 (And.intro a2 (And.intro a3 (And.intro (tl 1 (by decide)) ⟨_, rfl, (b3 1 (by decide)).symm ▸ h σ rc_fC.rf hI⟩))))
    · have e : y = nI 4 := e
      subst e
      rw [o_room_a (j := 4) hr h6 (by decide)] at h
      exact Exists.intro (9 + 2 * r + 1) (And.intro a1 (And.intro a2 (And.intro a3 (And.intro (tl 2 (by decide)) ⟨_, rfl, (b3 2 (by decide)).symm ▸ h σ rc_fC.rf hI⟩))))
    · have e : y = nI 5 := e
      subst e
      rw [o_room_a (j := 5) hr h6 (by decide)] at h
      exact And.intro a1 ⟨_, rfl, b4.symm ▸ h σ rc_fC.rf hI⟩
    · have e : y = nI 6 := e
      subst e
      rw [o_room_a (j := 6) hr h6 (by decide)] at h
      exact And.intro a1 ⟨_, rfl, b5.symm ▸ h σ rc_fC.rf hI⟩
    · have e : y = nI 7 := e
      subst e
      rw [o_room_a (j := 7) hr h6 (by decide)] at h
      exact And.intro a1 ⟨_, rfl, b6.symm ▸ h σ rc_fC.rf hI⟩
    · have ho := rc_ou8 e
      exact c_ref (w := 2) (by decide) (by decide) hI hW (by simp only [o_room, rc_ob_f hr (show _ ≤ 2000 by omega), rc_ob_t ho, cond_true, cond_false]) (fun σ' a b => ⟨_, rfl, h σ' a b⟩)
theorem t_room {x y : Int32} (hI : rc_MP σ P) (hW : rc_WP n P) (h : ∀ σ', rc_fM σ σ' → rc_MP σ' (o_room P x y).2 → Q (o_room P x y).1 σ') : rc_TI (d + 1) 144 [.ref 80, .int x, .int y] σ Q := by
  have h6 := hW.1.1
  refine rc_go 60 (t_isNoRoom hI.1.1 h6 (fun ho => ?_) (fun r hr hx => ?_))
  · refine And.intro (fun z => absurd z (by decide)) (fun _ => ?_)
    exact t_ref (w := 1) (by decide) (by decide) hI (by simp only [o_room, rc_ob_t ho, cond_true]) (fun σ' a b => ⟨_, rfl, h σ' a b⟩)
  · subst hx
    refine And.intro (fun _ => ?_) (fun z => absurd rfl z)
    have hr6 : r < 6 := by omega
    obtain ⟨b1, b2, b3, b4, b5, b6⟩ := hI.1.2.2.2.2.1 r hr
    have ec : (nI r).toNatClampNeg = r := rc_ci (by omega)
    have e2 : (3 : Int32) * nI r + nI 2 - 2 = nI (3 * r + 0) := rc_3s r 2 0 2 rfl
    have e3 : (3 : Int32) * nI r + nI 3 - 2 = nI (3 * r + 1) := rc_3s r 3 1 2 rfl
    have e4 : (3 : Int32) * nI r + nI 4 - 2 = nI (3 * r + 2) := rc_3s r 4 2 2 rfl
    have hin := rc_vi (n := 6) hr6 (by decide)
    refine And.intro (And.intro (fun e => ?_) (And.intro (fun e => ?_) (And.intro (fun e => ?_) (And.intro (fun e => ?_) (And.intro (fun e => ?_) (And.intro (fun e => ?_) (And.intro (fun e => ?_) (And.intro (fun e => ?_) trivial)))))))) (fun e => ?_)
    · have e : y = nI 0 := e
      subst e
      rw [o_room_a (j := 0) hr h6 (by decide)] at h
      refine And.intro hin ⟨_, rfl, ?_⟩
      rw [ec, b1]; exact h σ rc_fM.rf hI
    · have e : y = nI 1 := e
      subst e
      rw [o_room_a (j := 1) hr h6 (by decide)] at h
      refine And.intro hin ⟨_, rfl, ?_⟩
      rw [ec, b2]; exact h σ rc_fM.rf hI
    · have e : y = nI 2 := e
      subst e
      rw [o_room_a (j := 2) hr h6 (by decide)] at h
      refine And.intro (by rw [e2]; exact rc_vi (n := 18) (by omega) (by decide)) ⟨_, rfl, ?_⟩
      rw [e2, rc_ci (by omega), b3 0 (by decide)]; exact h σ rc_fM.rf hI
    · have e : y = nI 3 := e
      subst e
      rw [o_room_a (j := 3) hr h6 (by decide)] at h
      refine And.intro (by rw [e3]; exact rc_vi (n := 18) (by omega) (by decide)) ⟨_, rfl, ?_⟩
      rw [e3, rc_ci (by omega), b3 1 (by decide)]; exact h σ rc_fM.rf hI
    · have e : y = nI 4 := e
      subst e
      rw [o_room_a (j := 4) hr h6 (by decide)] at h
      refine And.intro (by rw [e4]; exact rc_vi (n := 18) (by omega) (by decide)) ⟨_, rfl, ?_⟩
      rw [e4, rc_ci (by omega), b3 2 (by decide)]; exact h σ rc_fM.rf hI
    · have e : y = nI 5 := e
      subst e
      rw [o_room_a (j := 5) hr h6 (by decide)] at h
      refine And.intro hin ⟨_, rfl, ?_⟩
      rw [ec, b4]; exact h σ rc_fM.rf hI
    · have e : y = nI 6 := e
      subst e
      rw [o_room_a (j := 6) hr h6 (by decide)] at h
      refine And.intro hin ⟨_, rfl, ?_⟩
      rw [ec, b5]; exact h σ rc_fM.rf hI
    · have e : y = nI 7 := e
      subst e
      rw [o_room_a (j := 7) hr h6 (by decide)] at h
      refine And.intro hin ⟨_, rfl, ?_⟩
      rw [ec, b6]; exact h σ rc_fM.rf hI
    · have ho := rc_ou8 e
      exact t_ref (w := 2) (by decide) (by decide) hI (by simp only [o_room, rc_ob_f hr (show _ ≤ 2000 by omega), rc_ob_t ho, cond_true, cond_false]) (fun σ' a b => ⟨_, rfl, h σ' a b⟩)
/-! guest -/
theorem c_guest {x y : Int32} (hI : rc_CP σ P) (hW : rc_WP n P) (h : ∀ σ', rc_fC σ σ' → rc_CP σ' (o_guest P x y).2 → Q (o_guest P x y).1 σ') : rc_TI (d + 2) 86 [.ref 2, .int x, .int y] σ Q := by
  have h6 := hW.1.2.1
  refine rc_go 60 (c_hasGuest hI.2.1.2.1 (by omega) (fun ho => ?_) (fun r hr hx => ?_))
  · refine And.intro (fun z => absurd rfl z) (fun _ => ?_)
    exact c_ref (w := 1) (by decide) (by decide) hI hW (by simp only [o_guest, rc_ob_t ho, cond_true]) (fun σ' a b => ⟨_, rfl, h σ' a b⟩)
  · subst hx
    refine And.intro (fun _ => ?_) (fun z => absurd z (by decide))
    have hr6 : r < 5 := by omega
    have hCG := hI.2.1.2.2.2.2.2.1 r hr
    have hWg := hW.1.2.2.2.2.2.1 r hr
    obtain ⟨b1, b3, b4, b5, b6, b7⟩ := id hCG
    obtain ⟨a1, a2, a3, a4⟩ := rc_gsf r hr6
    have e10 : 22 + 2 * r + 0 = 21 + 2 * r + 1 := by omega
    rw [e10] at b3
    refine Exists.intro (21 + 2 * r) (And.intro rfl (And.intro (rc_vi (n := 5) hr6 (by decide)) (And.intro (by rw [rc_ci (by omega)]; exact rc_rho5 _ hr6) ?_)))
    have tl : ∀ v, v < 3 → vp_in (nI v) (rc_lay (21 + 2 * r + 1)).2.2 := fun v hv => by rw [a4]; exact rc_vi (n := 3) hv (by decide)
    refine And.intro (And.intro (fun e => ?_) (And.intro (fun e => ?_) (And.intro (fun e => ?_) (And.intro (fun e => ?_) (And.intro (fun e => ?_) (And.intro (fun e => ?_) (And.intro (fun e => ?_) (And.intro (fun e => ?_) trivial)))))))) (fun e => ?_)
    · have e : y = nI 0 := e
      subst e
      rw [o_guest_a (j := 0) hr h6 (by decide)] at h
      exact And.intro a1 ⟨_, rfl, b1.symm ▸ h σ rc_fC.rf hI⟩
    · have e : y = nI 1 := e
      subst e
      rw [o_guest_a (j := 1) hr h6 (by decide)] at h
      exact Exists.intro (21 + 2 * r + 1) (And.intro a1 (And.intro a2 (And.intro a3 (And.intro (tl 0 (by decide)) ⟨_, rfl, (b3 0 (by decide)).symm ▸ h σ rc_fC.rf hI⟩))))
    · have e : y = nI 2 := e
      subst e
      rw [o_guest_a (j := 2) hr h6 (by decide)] at h
      exact Exists.intro (21 + 2 * r + 1) (And.intro a1 (And.intro a2 (And.intro a3 (And.intro (tl 1 (by decide)) ⟨_, rfl, (b3 1 (by decide)).symm ▸ h σ rc_fC.rf hI⟩))))
    · have e : y = nI 3 := e
      subst e
      rw [o_guest_a (j := 3) hr h6 (by decide)] at h
      exact Exists.intro (21 + 2 * r + 1) (And.intro a1 (And.intro a2 (And.intro a3 (And.intro (tl 2 (by decide)) ⟨_, rfl, (b3 2 (by decide)).symm ▸ h σ rc_fC.rf hI⟩))))
    · have e : y = nI 4 := e
      subst e
      rw [o_guest_a (j := 4) hr h6 (by decide)] at h
      refine And.intro a1 (And.intro a1 (c_wishes b1 hI.1 hWg.1 (hCG.gs hr6) hWg.2.1 ?_))
      have h' := h σ rc_fC.rf hI
      refine And.intro (fun c => ?_) (fun c => ?_)
      · have e : rc_wd (pV P) r (pV P 6 r) = false := rc_bI_0.mp c
        exact ⟨_, rfl, by simpa [a_guest, e, rc_bI] using h'⟩
      · have e : rc_wd (pV P) r (pV P 6 r) = true := by
          cases hz : rc_wd (pV P) r (pV P 6 r) with
          | true => rfl
          | false => exact absurd (show rc_bI (rc_wd (pV P) r (pV P 6 r)) = 0 by rw [hz]; rfl) c
        exact ⟨_, rfl, by simpa [a_guest, e, rc_bI] using h'⟩
    · have e : y = nI 5 := e
      subst e
      rw [o_guest_a (j := 5) hr h6 (by decide)] at h
      exact And.intro a1 ⟨_, rfl, b4.symm ▸ h σ rc_fC.rf hI⟩
    · have e : y = nI 6 := e
      subst e
      rw [o_guest_a (j := 6) hr h6 (by decide)] at h
      exact And.intro a1 ⟨_, rfl, b5.symm ▸ h σ rc_fC.rf hI⟩
    · have e : y = nI 7 := e
      subst e
      rw [o_guest_a (j := 7) hr h6 (by decide)] at h
      exact And.intro a1 ⟨_, rfl, b6.symm ▸ h σ rc_fC.rf hI⟩
    · have ho := rc_ou8 e
      exact c_ref (w := 2) (by decide) (by decide) hI hW (by simp only [o_guest, rc_ob_f hr (show _ ≤ 2000 by omega), rc_ob_t ho, cond_true, cond_false]) (fun σ' a b => ⟨_, rfl, h σ' a b⟩)
theorem t_guest {x y : Int32} (hI : rc_MP σ P) (hW : rc_WP n P) (h : ∀ σ', rc_fM σ σ' → rc_MP σ' (o_guest P x y).2 → Q (o_guest P x y).1 σ') : rc_TI (d + 2) 145 [.ref 80, .int x, .int y] σ Q := by
  have h6 := hW.1.2.1
  refine rc_go 60 (t_isNoGuest hI.1.2.1 (by omega) (fun ho => ?_) (fun r hr hx => ?_))
  · refine And.intro (fun z => absurd z (by decide)) (fun _ => ?_)
    exact t_ref (w := 1) (by decide) (by decide) hI (by simp only [o_guest, rc_ob_t ho, cond_true]) (fun σ' a b => ⟨_, rfl, h σ' a b⟩)
  · subst hx
    refine And.intro (fun _ => ?_) (fun z => absurd rfl z)
    have hr6 : r < 5 := by omega
    have hWg := hW.1.2.2.2.2.2.1 r hr
    obtain ⟨b1, b3, b4, b5, b6, b7⟩ := hI.1.2.2.2.2.2.1 r hr
    have ec : (nI r).toNatClampNeg = r := rc_ci (by omega)
    have e2 : (3 : Int32) * nI r + nI 1 - 1 = nI (3 * r + 0) := rc_3s r 1 0 1 rfl
    have e3 : (3 : Int32) * nI r + nI 2 - 1 = nI (3 * r + 1) := rc_3s r 2 1 1 rfl
    have e4 : (3 : Int32) * nI r + nI 3 - 1 = nI (3 * r + 2) := rc_3s r 3 2 1 rfl
    have hin := rc_vi (n := 5) hr6 (by decide)
    refine And.intro (And.intro (fun e => ?_) (And.intro (fun e => ?_) (And.intro (fun e => ?_) (And.intro (fun e => ?_) (And.intro (fun e => ?_) (And.intro (fun e => ?_) (And.intro (fun e => ?_) (And.intro (fun e => ?_) trivial)))))))) (fun e => ?_)
    · have e : y = nI 0 := e
      subst e
      rw [o_guest_a (j := 0) hr h6 (by decide)] at h
      refine And.intro hin ⟨_, rfl, ?_⟩
      rw [ec, b1]; exact h σ rc_fM.rf hI
    · have e : y = nI 1 := e
      subst e
      rw [o_guest_a (j := 1) hr h6 (by decide)] at h
      refine And.intro (by rw [e2]; exact rc_vi (n := 15) (by omega) (by decide)) ⟨_, rfl, ?_⟩
      rw [e2, rc_ci (by omega), b3 0 (by decide)]; exact h σ rc_fM.rf hI
    · have e : y = nI 2 := e
      subst e
      rw [o_guest_a (j := 2) hr h6 (by decide)] at h
      refine And.intro (by rw [e3]; exact rc_vi (n := 15) (by omega) (by decide)) ⟨_, rfl, ?_⟩
      rw [e3, rc_ci (by omega), b3 1 (by decide)]; exact h σ rc_fM.rf hI
    · have e : y = nI 3 := e
      subst e
      rw [o_guest_a (j := 3) hr h6 (by decide)] at h
      refine And.intro (by rw [e4]; exact rc_vi (n := 15) (by omega) (by decide)) ⟨_, rfl, ?_⟩
      rw [e4, rc_ci (by omega), b3 2 (by decide)]; exact h σ rc_fM.rf hI
    · have e : y = nI 4 := e
      subst e
      rw [o_guest_a (j := 4) hr h6 (by decide)] at h
      refine And.intro hin (t_isHad (V := pV P) (g := r) (s := pV P 6 r) (by rw [ec, b1]) rfl hWg.1 hr6 b3 hWg.2.1 ?_)
      have h' := h σ rc_fM.rf hI
      refine And.intro (fun c => ?_) (fun c => ?_)
      · have e : rc_wd (pV P) r (pV P 6 r) = false := rc_bI_0.mp c
        exact ⟨_, rfl, by simpa [a_guest, e, rc_bI] using h'⟩
      · have e : rc_wd (pV P) r (pV P 6 r) = true := by
          cases hz : rc_wd (pV P) r (pV P 6 r) with
          | true => rfl
          | false => exact absurd (show rc_bI (rc_wd (pV P) r (pV P 6 r)) = 0 by rw [hz]; rfl) c
        exact ⟨_, rfl, by simpa [a_guest, e, rc_bI] using h'⟩
    · have e : y = nI 5 := e
      subst e
      rw [o_guest_a (j := 5) hr h6 (by decide)] at h
      refine And.intro hin ⟨_, rfl, ?_⟩
      rw [ec, b4]; exact h σ rc_fM.rf hI
    · have e : y = nI 6 := e
      subst e
      rw [o_guest_a (j := 6) hr h6 (by decide)] at h
      refine And.intro hin ⟨_, rfl, ?_⟩
      rw [ec, b5]; exact h σ rc_fM.rf hI
    · have e : y = nI 7 := e
      subst e
      rw [o_guest_a (j := 7) hr h6 (by decide)] at h
      refine And.intro hin ⟨_, rfl, ?_⟩
      rw [ec, b6]; exact h σ rc_fM.rf hI
    · have ho := rc_ou8 e
      exact t_ref (w := 2) (by decide) (by decide) hI (by simp only [o_guest, rc_ob_f hr (show _ ≤ 2000 by omega), rc_ob_t ho, cond_true, cond_false]) (fun σ' a b => ⟨_, rfl, h σ' a b⟩)
end RQ
