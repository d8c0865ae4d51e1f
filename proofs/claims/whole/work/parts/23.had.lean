section RH
variable {d : Nat} {σ : rc_M} {Q : Int32 → rc_M → Prop} {V : rc_V}
theorem t_isHad_s {s g m : Nat} {b : Bool} {Q' : Option Value → rc_M → Prop} (hs : s < 27) (hg : g < 5) (hm : m < 3) (hM : ∀ m, m < 3 → σ 89 (3 * g + m) = nI (V 7 (3 * g + m))) (hW : ∀ m, m < 3 → V 7 (3 * g + m) ≤ 3)
    (kk : rc_Tc (d + 1) 143 5 [.ref 80, .int (nI s), .int (nI g), .int (rc_bI (b && rc_w1 (rc_wi V g) s m)), .int (nI (m + 1))] [] σ Q') : rc_Tc (d + 1) 143 5 [.ref 80, .int (nI s), .int (nI g), .int (rc_bI b), .int (nI m)] [] σ Q' := by
  have e3 : (3 : Int32) * nI g + nI m = nI (3 * g + m) := by rw [show (3 : Int32) = nI 3 from rfl, pk_mul, nI_add]
  have e4 : σ 89 ((3 : Int32) * nI g + nI m).toNatClampNeg = nI (rc_wi V g m) := by rw [e3, rc_ci (by omega)]; exact hM m hm
  have hin : vp_in ((3 : Int32) * nI g + nI m) 15 := by rw [e3]; exact rc_vi (by omega) (by decide)
  have h3 : rc_wi V g m ≤ 3 := hW m hm
  have hk := rc_mk_lt s m
  rw [← nI_1] at kk
  refine rc_go 60 (And.intro (fun c => absurd c (nI_ge (show m < 3 by omega) (by decide))) (fun _ => And.intro (fun c => ?_) (fun c => ?_)))
  · have hb : b = false := rc_bI_0.mp c
    subst hb
    exact kk
  · have hb : b = true := by cases b; exact absurd rfl c; rfl
    subst hb
    refine And.intro hin ?_
    rw [e4]
    refine And.intro (fun c1 => ?_) (fun c1 => ?_)
    · have e5 : rc_wi V g m = 3 := (nI_eq (by omega) (by decide)).mp (show nI (rc_wi V g m) = nI 3 from c1)
      have e6 : rc_w1 (rc_wi V g) s m = true := by unfold rc_w1; simp [e5]
      rw [e6] at kk
      exact kk
    · have e5 : ¬ rc_wi V g m = 3 := fun z => c1 (by rw [z]; rfl)
      refine And.intro hin ?_
      refine t_has' rfl rfl hs hm ?_
      rw [e4]
      refine And.intro (fun c2 => ?_) (fun c2 => ?_)
      · have e6 : rc_w1 (rc_wi V g) s m = false := by
          unfold rc_w1
          have : ¬ rc_wi V g m = rc_mk s m := fun z => c2 (by rw [z])
          simp [e5, this]
        rw [e6] at kk
        exact kk
      · have e6 : rc_w1 (rc_wi V g) s m = true := by
          unfold rc_w1
          have : rc_wi V g m = rc_mk s m := (nI_eq (by omega) (by omega)).mp c2
          simp [this]
        rw [e6] at kk
        exact kk
theorem t_isHad {x y : Int32} {s g : Nat} (hx : x = nI s) (hy : y = nI g) (hs : s < 27) (hg : g < 5) (hM : ∀ m, m < 3 → σ 89 (3 * g + m) = nI (V 7 (3 * g + m))) (hW : ∀ m, m < 3 → V 7 (3 * g + m) ≤ 3) (h : Q (rc_bI (rc_wd V g s)) σ) : rc_TI (d + 1) 143 [.ref 80, .int x, .int y] σ Q := by
  subst hx; subst hy
  refine rc_go 60 ?_
  refine t_isHad_s (b := true) (m := 0) hs hg (by decide) hM hW ?_
  refine t_isHad_s (m := 1) hs hg (by decide) hM hW ?_
  refine t_isHad_s (m := 2) hs hg (by decide) hM hW ?_
  refine rc_go 60 (And.intro (fun _ => ?_) (fun c => absurd (by decide) c))
  exact ⟨rc_bI_01 _, _, rfl, h⟩
/-- a guest of the class, wherever he lies -/
def rc_Gs (σ : rc_M) (q : Nat) (wi : Nat → Nat) : Prop := rc_isO q 1 ∧ rc_rho q 1 = some (q + 1) ∧ ((rc_lay (q + 1)).1 = 1 ∧ (rc_lay (q + 1)).2.2 = 3) ∧ ∀ m, m < 3 → σ (q + 1) m = nI (wi m)
theorem rc_gsf : ∀ i, i < 5 → rc_isO (21 + 2 * i) 1 ∧ rc_rho (21 + 2 * i) 1 = some (21 + 2 * i + 1) ∧ (rc_lay (21 + 2 * i + 1)).1 = 1 ∧ (rc_lay (21 + 2 * i + 1)).2.2 = 3 := by
  unfold rc_isO
  decide +kernel
theorem rc_CG.gs {g : Nat} (hg : g < 5) (h : rc_CG 0 σ V g) : rc_Gs σ (21 + 2 * g) (rc_wi V g) := by
  obtain ⟨a1, a2, a3, a4⟩ := rc_gsf g hg
  exact ⟨a1, a2, ⟨a3, a4⟩, fun m hm => by rw [show 21 + 2 * g + 1 = 22 + 2 * g + 0 by omega]; exact h.2.1 m hm⟩
theorem c_wishes_s {q s m : Nat} {wi : Nat → Nat} {Q' : Option Value → rc_M → Prop} (h0 : σ 0 = rc_wt) (hs : s < 27) (hm : m < 3) (hG : rc_Gs σ q wi) (hW : ∀ m, m < 3 → wi m ≤ 3)
    (k1 : rc_w1 wi s m = true → rc_Tc (d + 1) 7 2 [.ref q, .int (nI s), .int (nI (m + 1))] [] σ Q') (k0 : rc_w1 wi s m = false → Q' (some (.int 0)) σ) : rc_Tc (d + 1) 7 2 [.ref q, .int (nI s), .int (nI m)] [] σ Q' := by
  obtain ⟨g1, g2, ⟨g3, g4⟩, g5⟩ := hG
  have hk := rc_mk_lt s m
  have h3 := hW m hm
  have e4 : σ (q + 1) (nI m).toNatClampNeg = nI (wi m) := by rw [rc_ci (by omega)]; exact g5 m hm
  have hin : vp_in (nI m) (rc_lay (q + 1)).2.2 := by rw [g4]; exact rc_vi hm (by decide)
  rw [← nI_1] at k1
  refine rc_go 60 (And.intro (fun c => absurd c (nI_ge (show m < 3 by omega) (by decide))) (fun _ => ?_))
  refine Exists.intro (q + 1) (And.intro g1 (And.intro g2 (And.intro g3 (And.intro hin ?_))))
  rw [e4]
  refine And.intro (fun c1 => ?_) (fun c1 => ?_)
  · have e5 : wi m = 3 := (nI_eq (by omega) (by decide)).mp (show nI (wi m) = nI 3 from c1)
    exact k1 (by unfold rc_w1; simp [e5])
  · have e5 : ¬ wi m = 3 := fun z => c1 (by rw [z]; rfl)
    refine Exists.intro (q + 1) (And.intro g1 (And.intro g2 (And.intro g3 (And.intro hin ?_))))
    refine c_markOf' h0 rfl rfl hs hm ?_
    rw [e4]
    refine And.intro (fun c2 => ?_) (fun c2 => ?_)
    · have : wi m = rc_mk s m := (nI_eq (by omega) (by omega)).mp c2
      exact k1 (by unfold rc_w1; simp [this])
    · have : ¬ wi m = rc_mk s m := fun z => c2 (by rw [z])
      exact ⟨Or.inl rfl, k0 (by unfold rc_w1; simp [e5, this])⟩
theorem c_wishes {q s : Nat} {wi : Nat → Nat} {x : Int32} (hx : x = nI s) (h0 : σ 0 = rc_wt) (hs : s < 27) (hG : rc_Gs σ q wi) (hW : ∀ m, m < 3 → wi m ≤ 3) (h : Q (rc_bI (rc_wz wi s)) σ) : rc_TI (d + 1) 7 [.ref q, .int x] σ Q := by
  subst hx
  refine rc_go 60 ?_
  refine c_wishes_s (m := 0) h0 hs (by decide) hG hW (fun e0 => ?_) (fun e0 => ⟨_, rfl, by rw [show rc_wz wi s = false by unfold rc_wz; simp [e0]] at h; exact h⟩)
  refine c_wishes_s (m := 1) h0 hs (by decide) hG hW (fun e1 => ?_) (fun e1 => ⟨_, rfl, by rw [show rc_wz wi s = false by unfold rc_wz; simp [e1]] at h; exact h⟩)
  refine c_wishes_s (m := 2) h0 hs (by decide) hG hW (fun e2 => ?_) (fun e2 => ⟨_, rfl, by rw [show rc_wz wi s = false by unfold rc_wz; simp [e2]] at h; exact h⟩)
  refine rc_go 60 (And.intro (fun _ => ?_) (fun c => absurd (by decide) c))
  exact ⟨Or.inr rfl, _, rfl, by rw [show rc_wz wi s = true by unfold rc_wz; simp [e0, e1, e2]] at h; exact h⟩
end RH
