section RHe
variable {d n : Nat} {σ : rc_M} {P : rc_P} {V : rc_V} {Q : Int32 → rc_M → Prop}
def o_heirs (P : rc_P) (x y z : Int32) : Int32 × rc_P := cond (rc_ob x (pV P 12 0)) (o_no P 1) (if pV P 0 x.toNatClampNeg = 1 then (if y < 0 then o_no P 4 else if 5 < y then o_no P 6 else cond (rc_alls (rc_gd z (pV P 12 1)) y.toNatClampNeg) (nI (rc_ho (pV P) x.toNatClampNeg (rc_od z) y.toNatClampNeg), P) (o_no P 1)) else o_no P 2)
theorem c_heirs {x y z : Int32} (hI : rc_CP σ P) (hW : rc_WP n P) (h : ∀ σ', rc_fC σ σ' → rc_CP σ' (o_heirs P x y z).2 → Q (o_heirs P x y z).1 σ') : rc_TI (d + 4) 106 [.ref 2, .int x, .int y, .int z] σ Q := by
  have h6 := hW.1.1
  have h5 := hW.1.2.1
  refine rc_go 80 (c_hasRoom hI.2.1.1 h6 (fun ho => ?_) (fun r hr hx => ?_))
  · refine And.intro (fun c => absurd rfl c) (fun _ => ?_)
    exact c_ref (w := 1) (by decide) (by decide) hI hW (by simp only [o_heirs, rc_ob_t ho, cond_true]) (fun σ' a b => ⟨_, rfl, h σ' a b⟩)
  · subst hx
    refine And.intro (fun _ => ?_) (fun c => absurd c (by decide))
    have hr6 : r < 6 := by omega
    have e1 := rc_ob_f hr (show pV P 12 0 ≤ 2000 by omega)
    have ec : (nI r).toNatClampNeg = r := rc_ci (by omega)
    have a1 := (rc_rmf r hr6).1
    have ek : σ (9 + 2 * r) 0 = nI (pV P 0 r) := (hI.2.1.2.2.2.2.1 r hr6).1
    have hk7 := (hW.1.2.2.2.2.1 r hr6).1
    refine Exists.intro (9 + 2 * r) (And.intro rfl (And.intro (rc_vi (n := 6) hr6 (by decide)) (And.intro (by rw [ec]; exact rc_rho4 _ hr6) (And.intro a1 ?_))))
    rw [ek]
    refine And.intro (fun c2 => ?_) (fun c2 => ?_)
    · have hk : pV P 0 r = 1 := (nI_eq (by omega) (by decide)).mp (show nI (pV P 0 r) = nI 1 from c2)
      refine And.intro (fun c3 => ?_) (fun c3 => ?_)
      · have c3' : ¬ y < 0 := Int32.not_lt.mpr c3
        refine And.intro (fun c4 => ?_) (fun c4 => ?_)
        · have c4' : ¬ 5 < y := Int32.not_lt.mpr c4
          obtain ⟨m, hm, rfl⟩ := rc_le99 c3' (m := 5) (by decide) c4
          have ho : o_heirs P (nI r) (nI m) z = cond (rc_alls (rc_gd z (pV P 12 1)) m) (nI (rc_ho (pV P) r (rc_od z) m), P) (o_no P 1) := by simp only [o_heirs, e1, cond_false, ec, if_pos hk, if_neg c3', if_neg c4', rc_ci (show m ≤ 2000 by omega)]
          rw [ho] at h
          have frI : ∀ f, rc_CP (rc_up σ 74 f) P := fun f => hI.fr hW (rc_fr.up (ks := [74]) (by simp)) (by simp)
          have key : ∀ Q2 : Int32 → rc_M → Prop, (rc_alls (rc_gd z (pV P 12 1)) m = true → ∀ f, (∀ j, j < m → f j = nI (rc_od z j)) → Q2 1 (rc_up σ 74 f)) → (rc_alls (rc_gd z (pV P 12 1)) m = false → ∀ f, Q2 0 (rc_up σ 74 f)) → rc_TI (d + 3) 46 [.ref 73, .int (nI m), .int z] σ Q2 := fun Q2 q1 q0 => by
            have k2 := c_read_l (d := d + 2) (σ := σ) (x := z) (m := m) (b := pV P 12 1) (Q' := fun r σ' => ∃ x, r = some (.int x) ∧ Q2 x σ') h5 hI.2.1.2.1 hm (fun a f hf => ⟨_, rfl, q1 a f hf⟩) (fun a f => ⟨_, rfl, q0 a f⟩) m 0 (σ 74) .null (by omega) rfl (fun j hj => absurd hj (by omega))
            rw [rc_ui] at k2
            exact rc_go 20 k2
          refine key _ (fun ha f hf => ?_) (fun ha f => ?_)
          · rw [ha, cond_true] at h
            refine And.intro (fun _ => ?_) (fun c => absurd c (by decide))
            refine Exists.intro (9 + 2 * r) (And.intro rfl (And.intro (rc_vi (n := 6) hr6 (by decide)) (And.intro (by rw [ec]; exact rc_rho4 _ hr6) ?_)))
            exact c_wishHad (V := pV P) (od := rc_od z) rfl (frI f).1 (frI f).2.1 hW.1 hr6 hm (fun j hj => ⟨by rw [rc_up_s]; exact hf j hj, (rc_gd_e (by omega) (rc_alls_t ha j hj)).2⟩) ⟨_, rfl, h _ (rc_fC.up (by omega)) (frI f)⟩
          · rw [ha, cond_false] at h
            refine And.intro (fun c => absurd rfl c) (fun _ => ?_)
            exact c_ref (w := 1) (by decide) (by decide) (frI f) hW rfl (fun σ' a b => ⟨_, rfl, h σ' ((rc_fC.up (by omega)).tr a) b⟩)
        · have c4' : 5 < y := Int32.not_le.mp c4
          exact c_ref (w := 6) (by decide) (by decide) hI hW (by simp only [o_heirs, e1, cond_false, ec, if_pos hk, if_neg c3', if_pos c4']) (fun σ' a b => ⟨_, rfl, h σ' a b⟩)
      · have c3' : y < 0 := Int32.not_le.mp c3
        exact c_ref (w := 4) (by decide) (by decide) hI hW (by simp only [o_heirs, e1, cond_false, ec, if_pos hk, if_pos c3']) (fun σ' a b => ⟨_, rfl, h σ' a b⟩)
    · have hk : ¬ pV P 0 r = 1 := fun q => c2 (by rw [q]; rfl)
      exact c_ref (w := 2) (by decide) (by decide) hI hW (by simp only [o_heirs, e1, cond_false, ec, if_neg hk]) (fun σ' a b => ⟨_, rfl, h σ' a b⟩)
end RHe
