section RHn
variable {d n : Nat} {σ : rc_M} {P : rc_P} {Q : Int32 → rc_M → Prop}
theorem t_heirs {x y z : Int32} (hI : rc_MP σ P) (hW : rc_WP n P) (h : ∀ σ', rc_fM σ σ' → rc_MP σ' (o_heirs P x y z).2 → Q (o_heirs P x y z).1 σ') : rc_TI (d + 5) 178 [.ref 80, .int x, .int y, .int z] σ Q := by
  have h6 := hW.1.1
  refine rc_go 80 (t_isNoRoom hI.1.1 h6 (fun ho => ?_) (fun r hr hx => ?_))
  · refine And.intro (fun c => absurd c (by decide)) (fun _ => ?_)
    exact t_ref (w := 1) (by decide) (by decide) hI (by simp only [o_heirs, rc_ob_t ho, cond_true]) (fun σ' a b => ⟨_, rfl, h σ' a b⟩)
  · subst hx
    refine And.intro (fun _ => ?_) (fun c => absurd rfl c)
    have hr6 : r < 6 := by omega
    have e1 := rc_ob_f hr (show pV P 12 0 ≤ 2000 by omega)
    have ec : (nI r).toNatClampNeg = r := rc_ci (by omega)
    have ek : σ 82 r = nI (pV P 0 r) := (hI.1.2.2.2.2.1 r hr).1
    have hk7 := (hW.1.2.2.2.2.1 r hr6).1
    refine And.intro (rc_vi (n := 6) hr6 (by decide)) ?_
    rw [ec, ek]
    refine And.intro (fun c2 => ?_) (fun c2 => ?_)
    · have hk : pV P 0 r = 1 := (nI_eq (by omega) (by decide)).mp (show nI (pV P 0 r) = nI 1 from c2)
      refine And.intro (fun c3 => ?_) (fun c3 => ?_)
      · have c3' : ¬ y < 0 := Int32.not_lt.mpr c3
        refine And.intro (fun c4 => ?_) (fun c4 => ?_)
        · have c4' : ¬ 5 < y := Int32.not_lt.mpr c4
          obtain ⟨m, hm, rfl⟩ := rc_le99 c3' (m := 5) (by decide) c4
          have ho : o_heirs P (nI r) (nI m) z = cond (rc_alls (rc_gd z (pV P 12 1)) m) (nI (rc_ho (pV P) r (rc_od z) m), P) (o_no P 1) := by simp only [o_heirs, e1, cond_false, ec, if_pos hk, if_neg c3', if_neg c4', rc_ci (show m ≤ 2000 by omega)]
          rw [ho] at h
          have key := t_he_60 (d := d) (σ := σ) (P := P) (z := z) (r := r) (m := m) (Q' := fun r σ' => ∃ x, r = some (.int x) ∧ Q x σ') hI hW hr hm (fun ha σ' a b => ⟨_, rfl, by rw [ha, cond_true] at h; exact h σ' a b⟩) (fun ha σ' a b => ⟨_, rfl, by rw [ha, cond_false] at h; exact h σ' a b⟩) m 0 (σ 107) .null .null (by omega) rfl (fun j hj => absurd hj (by omega))
          rw [rc_ui] at key
          exact key
        · have c4' : 5 < y := Int32.not_le.mp c4
          exact t_ref (w := 6) (by decide) (by decide) hI (by simp only [o_heirs, e1, cond_false, ec, if_pos hk, if_neg c3', if_pos c4']) (fun σ' a b => ⟨_, rfl, h σ' a b⟩)
      · have c3' : y < 0 := Int32.not_le.mp c3
        exact t_ref (w := 4) (by decide) (by decide) hI (by simp only [o_heirs, e1, cond_false, ec, if_pos hk, if_pos c3']) (fun σ' a b => ⟨_, rfl, h σ' a b⟩)
    · have hk : ¬ pV P 0 r = 1 := fun q => c2 (by rw [q]; rfl)
      exact t_ref (w := 2) (by decide) (by decide) hI (by simp only [o_heirs, e1, cond_false, ec, if_neg hk]) (fun σ' a b => ⟨_, rfl, h σ' a b⟩)
end RHn
