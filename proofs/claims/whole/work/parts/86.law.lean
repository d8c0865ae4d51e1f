section RLw
variable {d : Nat}
/-! the law: run after run of calls, both answer alike -/
theorem rc_lw_x {N i : Nat} (hN : N ≤ 320) (hi : i ≤ 320) (h : ¬ nI N - 5 < nI i) : i + 5 ≤ N := by
  rcases Nat.lt_or_ge N 5 with z | z
  · exfalso
    have : ∀ N, N < 5 → nI N - 5 < 0 := by decide
    exact h (Int32.lt_of_lt_of_le (this N z) (nI_pos' (by omega)))
  · have e : nI N - 5 = nI (N - 5) := rc_subN (b := 5) z
    rw [e] at h
    have := Nat.le_of_not_lt (fun y => h (nI_lt (a := N - 5) (b := i) y (by omega)))
    omega
def rc_LI (sc : Nat → Int32) (n : Nat) (σ : rc_M) (P : rc_P) : Prop := rc_CP σ P ∧ rc_MP σ P ∧ rc_WI n P ∧ σ 1 = sc
set_option maxHeartbeats 4000000 in
theorem rc_law_18 {N : Nat} {sc : Nat → Int32} (hN : N ≤ 320) (hs : (sc 320).toNatClampNeg = N) : ∀ (c n : Nat) (P : rc_P) (σ : rc_M), N ≤ 5 * n + 5 * c + 4 → 5 * n ≤ 320 → rc_LI sc n σ P → rc_Tc (d + 12) 189 18 [.ref 1, .ref 2, .ref 80, .int (nI (5 * n))] [] σ (fun r _ => r = some (.int 1)) := by
  intro c
  induction c with
  | zero =>
    intro n P σ hc hn hI
    obtain ⟨hC, hM, hW, h1⟩ := hI
    refine rc_go 100 (And.intro (fun _ => ⟨Or.inr rfl, rfl⟩) (fun c => ?_))
    rw [h1, hs] at c
    exact absurd (rc_lw_x hN hn c) (by omega)
  | succ c ih =>
    intro n P σ hc hn hI
    obtain ⟨hC, hM, hW, h1⟩ := hI
    refine rc_go 120 (And.intro (fun _ => ⟨Or.inr rfl, rfl⟩) (fun c5 => ?_))
    rw [h1, hs] at c5
    have h5 := rc_lw_x hN hn c5
    have nx : ∀ (P' : rc_P) (σ1 σ2 : rc_M), rc_fC σ σ1 → rc_CP σ1 P' → rc_fM σ1 σ2 → rc_MP σ2 P' → rc_WI (n + 1) P' → rc_Tc (d + 12) 189 18 [.ref 1, .ref 2, .ref 80, .int (nI (5 * n) + 5)] [] σ2 (fun r _ => r = some (.int 1)) := fun P' σ1 σ2 f1 c1 f2 m2 w => by
      have key := ih (n + 1) P' σ2 (by omega) (by omega) ⟨c1.fM w.1 f2, m2, w, by rw [f2 1 (by decide), f1 1 (Or.inr rfl)]; exact h1⟩
      rw [show 5 * (n + 1) = 5 * n + 5 by omega, ← nI_add (5 * n) 5] at key
      exact key
    have v0 : vp_in (nI (5 * n)) (σ 1 320).toNatClampNeg := by rw [h1, hs]; exact rc_vi (by omega) (by omega)
    have v1 : vp_in (nI (5 * n) + 1) (σ 1 320).toNatClampNeg := by rw [h1, hs, nI_1]; exact rc_vi (by omega) (by omega)
    have v2 : vp_in (nI (5 * n) + 2) (σ 1 320).toNatClampNeg := by rw [h1, hs, show (2 : Int32) = nI 2 from rfl, nI_add]; exact rc_vi (by omega) (by omega)
    have v3 : vp_in (nI (5 * n) + 3) (σ 1 320).toNatClampNeg := by rw [h1, hs, show (3 : Int32) = nI 3 from rfl, nI_add]; exact rc_vi (by omega) (by omega)
    have v4 : vp_in (nI (5 * n) + 4) (σ 1 320).toNatClampNeg := by rw [h1, hs, show (4 : Int32) = nI 4 from rfl, nI_add]; exact rc_vi (by omega) (by omega)
    have hn9 : n ≤ 900 := by omega
    refine And.intro v0 (And.intro ?_ (fun _ => ?_))
    · refine (And.intro (fun _ => ?_) (And.intro (fun _ => ?_) (And.intro (fun _ => ?_) (And.intro (fun _ => ?_) (And.intro (fun _ => ?_) (And.intro (fun _ => ?_) (And.intro (fun _ => ?_) (And.intro (fun _ => ?_) (And.intro (fun _ => ?_) (And.intro (fun _ => ?_) (And.intro (fun _ => ?_) (And.intro (fun _ => ?_) (And.intro (fun _ => ?_) (And.intro (fun _ => ?_) (And.intro (fun _ => ?_) (And.intro (fun _ => ?_) (And.intro (fun _ => ?_) (And.intro (fun _ => ?_) (And.intro (fun _ => ?_) (And.intro (fun _ => ?_) (And.intro (fun _ => ?_) (And.intro (fun _ => ?_) (And.intro (fun _ => ?_) (And.intro (fun _ => ?_) (And.intro (fun _ => ?_) (And.intro (fun _ => ?_) (And.intro (fun _ => ?_) (And.intro (fun _ => ?_) (And.intro (fun _ => ?_) (And.intro (fun _ => ?_) True.intro))))))))))))))))))))))))))))))
      · refine And.intro v1 (And.intro ⟨rfl, rfl⟩ (c_letter (n := n) hC hW.1 (fun σ1 f1 hC1 => ?_)))
        have e1 : σ1 1 = σ 1 := f1 1 (Or.inr rfl)
        refine And.intro (by rw [e1]; exact v1) ?_
        rw [e1]
        exact And.intro ⟨rfl, rfl⟩ (t_letter (n := n) (hM.fC f1) hW.1 (fun σ2 f2 hM2 => And.intro (fun _ => nx _ σ1 σ2 f1 hC1 f2 hM2 (w_letter hW)) (fun c => absurd rfl c)))
      · refine And.intro ⟨rfl, rfl⟩ (c_inn (n := n) hW.2.1 hC hW.1 (fun σ1 f1 hC1 => ?_))
        have e1 : σ1 1 = σ 1 := f1 1 (Or.inr rfl)
        exact And.intro ⟨rfl, rfl⟩ (t_inn (n := n) hW.2.1 (hM.fC f1) hW.1 (fun σ2 f2 hM2 => And.intro (fun _ => nx _ σ1 σ2 f1 hC1 f2 hM2 (w_inn hW)) (fun c => absurd rfl c)))
      · refine And.intro v1 (And.intro v2 (And.intro ⟨rfl, rfl⟩ (c_room (n := n) hC hW.1 (fun σ1 f1 hC1 => ?_))))
        have e1 : σ1 1 = σ 1 := f1 1 (Or.inr rfl)
        refine And.intro (by rw [e1]; exact v1) ?_
        rw [e1]
        refine And.intro (by rw [e1]; exact v2) ?_
        rw [e1]
        exact And.intro ⟨rfl, rfl⟩ (t_room (n := n) (hM.fC f1) hW.1 (fun σ2 f2 hM2 => And.intro (fun _ => nx _ σ1 σ2 f1 hC1 f2 hM2 (q_room.W hW)) (fun c => absurd rfl c)))
      · refine And.intro v1 (And.intro v2 (And.intro ⟨rfl, rfl⟩ (c_guest (n := n) hC hW.1 (fun σ1 f1 hC1 => ?_))))
        have e1 : σ1 1 = σ 1 := f1 1 (Or.inr rfl)
        refine And.intro (by rw [e1]; exact v1) ?_
        rw [e1]
        refine And.intro (by rw [e1]; exact v2) ?_
        rw [e1]
        exact And.intro ⟨rfl, rfl⟩ (t_guest (n := n) (hM.fC f1) hW.1 (fun σ2 f2 hM2 => And.intro (fun _ => nx _ σ1 σ2 f1 hC1 f2 hM2 (q_guest.W hW)) (fun c => absurd rfl c)))
      · refine And.intro v1 (And.intro v2 (And.intro ⟨rfl, rfl⟩ (c_sleep (n := n) hC hW.1 (fun σ1 f1 hC1 => ?_))))
        have e1 : σ1 1 = σ 1 := f1 1 (Or.inr rfl)
        refine And.intro (by rw [e1]; exact v1) ?_
        rw [e1]
        refine And.intro (by rw [e1]; exact v2) ?_
        rw [e1]
        exact And.intro ⟨rfl, rfl⟩ (t_sleep (n := n) (hM.fC f1) hW.1 (fun σ2 f2 hM2 => And.intro (fun _ => nx _ σ1 σ2 f1 hC1 f2 hM2 (w_sleep hW)) (fun c => absurd rfl c)))
      · refine And.intro v1 (And.intro ⟨rfl, rfl⟩ (c_stay (n := n) hC hW.1 (fun σ1 f1 hC1 => ?_)))
        have e1 : σ1 1 = σ 1 := f1 1 (Or.inr rfl)
        refine And.intro (by rw [e1]; exact v1) ?_
        rw [e1]
        exact And.intro ⟨rfl, rfl⟩ (t_stay (n := n) (hM.fC f1) hW.1 (fun σ2 f2 hM2 => And.intro (fun _ => nx _ σ1 σ2 f1 hC1 f2 hM2 (w_stay hW)) (fun c => absurd rfl c)))
      · refine And.intro ⟨rfl, rfl⟩ (c_night (n := n) hn9 hC hW.1 (fun σ1 f1 hC1 => ?_))
        have e1 : σ1 1 = σ 1 := f1 1 (Or.inr rfl)
        exact And.intro ⟨rfl, rfl⟩ (t_night (n := n) hn9 hW.2.1 (hM.fC f1) hW.1 (fun σ2 f2 hM2 => And.intro (fun _ => nx _ σ1 σ2 f1 hC1 f2 hM2 (w_night hW)) (fun c => absurd rfl c)))
      · refine And.intro v1 (And.intro v2 (And.intro v3 (And.intro ⟨rfl, rfl⟩ (c_makes (n := n) hC hW.1 (fun σ1 f1 hC1 => ?_)))))
        have e1 : σ1 1 = σ 1 := f1 1 (Or.inr rfl)
        refine And.intro (by rw [e1]; exact v1) ?_
        rw [e1]
        refine And.intro (by rw [e1]; exact v2) ?_
        rw [e1]
        refine And.intro (by rw [e1]; exact v3) ?_
        rw [e1]
        exact And.intro ⟨rfl, rfl⟩ (t_makes (n := n) (hM.fC f1) hW.1 (fun σ2 f2 hM2 => And.intro (fun _ => nx _ σ1 σ2 f1 hC1 f2 hM2 (q_makes.W hW)) (fun c => absurd rfl c)))
      · refine And.intro v1 (And.intro v2 (And.intro ⟨rfl, rfl⟩ (c_fewest (n := n) hC hW.1 (fun σ1 f1 hC1 => ?_))))
        have e1 : σ1 1 = σ 1 := f1 1 (Or.inr rfl)
        refine And.intro (by rw [e1]; exact v1) ?_
        rw [e1]
        refine And.intro (by rw [e1]; exact v2) ?_
        rw [e1]
        exact And.intro ⟨rfl, rfl⟩ (t_fewest (n := n) (hM.fC f1) hW.1 (fun σ2 f2 hM2 => And.intro (fun _ => nx _ σ1 σ2 f1 hC1 f2 hM2 (q_fewest.W hW)) (fun c => absurd rfl c)))
      · refine And.intro v1 (And.intro v2 (And.intro ⟨rfl, rfl⟩ (c_cheapest (n := n) hC hW.1 (fun σ1 f1 hC1 => ?_))))
        have e1 : σ1 1 = σ 1 := f1 1 (Or.inr rfl)
        refine And.intro (by rw [e1]; exact v1) ?_
        rw [e1]
        refine And.intro (by rw [e1]; exact v2) ?_
        rw [e1]
        exact And.intro ⟨rfl, rfl⟩ (t_cheapest (n := n) (hM.fC f1) hW.1 (fun σ2 f2 hM2 => And.intro (fun _ => nx _ σ1 σ2 f1 hC1 f2 hM2 (q_cheapest.W hW)) (fun c => absurd rfl c)))
      · refine And.intro v1 (And.intro v2 (And.intro v3 (And.intro v4 (And.intro ⟨rfl, rfl⟩ (c_rowOf (n := n) hC hW.1 (fun σ1 f1 hC1 => ?_))))))
        have e1 : σ1 1 = σ 1 := f1 1 (Or.inr rfl)
        refine And.intro (by rw [e1]; exact v1) ?_
        rw [e1]
        refine And.intro (by rw [e1]; exact v2) ?_
        rw [e1]
        refine And.intro (by rw [e1]; exact v3) ?_
        rw [e1]
        refine And.intro (by rw [e1]; exact v4) ?_
        rw [e1]
        exact And.intro ⟨rfl, rfl⟩ (t_rowOf (n := n) (hM.fC f1) hW.1 (fun σ2 f2 hM2 => And.intro (fun _ => nx _ σ1 σ2 f1 hC1 f2 hM2 (q_rowOf.W hW)) (fun c => absurd rfl c)))
      · refine And.intro v1 (And.intro v2 (And.intro ⟨rfl, rfl⟩ (c_becomes (n := n) hC hW.1 (fun σ1 f1 hC1 => ?_))))
        have e1 : σ1 1 = σ 1 := f1 1 (Or.inr rfl)
        refine And.intro (by rw [e1]; exact v1) ?_
        rw [e1]
        refine And.intro (by rw [e1]; exact v2) ?_
        rw [e1]
        exact And.intro ⟨rfl, rfl⟩ (t_becomes (n := n) (hM.fC f1) hW.1 (fun σ2 f2 hM2 => And.intro (fun _ => nx _ σ1 σ2 f1 hC1 f2 hM2 (q_becomes.W hW)) (fun c => absurd rfl c)))
      · refine And.intro v1 (And.intro v2 (And.intro ⟨rfl, rfl⟩ (c_both (n := n) hC hW.1 (fun σ1 f1 hC1 => ?_))))
        have e1 : σ1 1 = σ 1 := f1 1 (Or.inr rfl)
        refine And.intro (by rw [e1]; exact v1) ?_
        rw [e1]
        refine And.intro (by rw [e1]; exact v2) ?_
        rw [e1]
        exact And.intro ⟨rfl, rfl⟩ (t_both (n := n) (hM.fC f1) hW.1 (fun σ2 f2 hM2 => And.intro (fun _ => nx _ σ1 σ2 f1 hC1 f2 hM2 (q_both.W hW)) (fun c => absurd rfl c)))
      · refine And.intro ⟨rfl, rfl⟩ (c_asWent (n := n) hC hW.1 (fun σ1 f1 hC1 => ?_))
        have e1 : σ1 1 = σ 1 := f1 1 (Or.inr rfl)
        exact And.intro ⟨rfl, rfl⟩ (t_asWent (n := n) (hM.fC f1) hW.1 (fun σ2 f2 hM2 => And.intro (fun _ => nx _ σ1 σ2 f1 hC1 f2 hM2 (q_asWent.W hW)) (fun c => absurd rfl c)))
      · refine And.intro ⟨rfl, rfl⟩ (c_alike (n := n) hC hW.1 (fun σ1 f1 hC1 => ?_))
        have e1 : σ1 1 = σ 1 := f1 1 (Or.inr rfl)
        exact And.intro ⟨rfl, rfl⟩ (t_alike (n := n) (hM.fC f1) hW.1 (fun σ2 f2 hM2 => And.intro (fun _ => nx _ σ1 σ2 f1 hC1 f2 hM2 (q_alike.W hW)) (fun c => absurd rfl c)))
      · refine And.intro v1 (And.intro ⟨rfl, rfl⟩ (c_changes (n := n) hC hW.1 (fun σ1 f1 hC1 => ?_)))
        have e1 : σ1 1 = σ 1 := f1 1 (Or.inr rfl)
        refine And.intro (by rw [e1]; exact v1) ?_
        rw [e1]
        exact And.intro ⟨rfl, rfl⟩ (t_changes (n := n) (hM.fC f1) hW.1 (fun σ2 f2 hM2 => And.intro (fun _ => nx _ σ1 σ2 f1 hC1 f2 hM2 (q_changes.W hW)) (fun c => absurd rfl c)))
      · refine And.intro ⟨rfl, rfl⟩ (c_needed (n := n) hC hW.1 (fun σ1 f1 hC1 => ?_))
        have e1 : σ1 1 = σ 1 := f1 1 (Or.inr rfl)
        exact And.intro ⟨rfl, rfl⟩ (t_needed (n := n) (hM.fC f1) hW.1 (fun σ2 f2 hM2 => And.intro (fun _ => nx _ σ1 σ2 f1 hC1 f2 hM2 (q_needed.W hW)) (fun c => absurd rfl c)))
      · refine And.intro v1 (And.intro v2 (And.intro v3 (And.intro v4 (And.intro ⟨rfl, rfl⟩ (c_was (n := n) hC hW.1 (fun σ1 f1 hC1 => ?_))))))
        have e1 : σ1 1 = σ 1 := f1 1 (Or.inr rfl)
        refine And.intro (by rw [e1]; exact v1) ?_
        rw [e1]
        refine And.intro (by rw [e1]; exact v2) ?_
        rw [e1]
        refine And.intro (by rw [e1]; exact v3) ?_
        rw [e1]
        refine And.intro (by rw [e1]; exact v4) ?_
        rw [e1]
        exact And.intro ⟨rfl, rfl⟩ (t_was (n := n) (hM.fC f1) hW.1 (fun σ2 f2 hM2 => And.intro (fun _ => nx _ σ1 σ2 f1 hC1 f2 hM2 (q_was.W hW)) (fun c => absurd rfl c)))
      · refine And.intro v1 (And.intro v2 (And.intro ⟨rfl, rfl⟩ (c_trial (n := n) hC hW.1 (fun σ1 f1 hC1 => ?_))))
        have e1 : σ1 1 = σ 1 := f1 1 (Or.inr rfl)
        refine And.intro (by rw [e1]; exact v1) ?_
        rw [e1]
        refine And.intro (by rw [e1]; exact v2) ?_
        rw [e1]
        exact And.intro ⟨rfl, rfl⟩ (t_trial (n := n) (hM.fC f1) hW.1 (fun σ2 f2 hM2 => And.intro (fun _ => nx _ σ1 σ2 f1 hC1 f2 hM2 (w_trial hW)) (fun c => absurd rfl c)))
      · refine And.intro v1 (And.intro ⟨rfl, rfl⟩ (c_fits (n := n) hC hW.1 (fun σ1 f1 hC1 => ?_)))
        have e1 : σ1 1 = σ 1 := f1 1 (Or.inr rfl)
        refine And.intro (by rw [e1]; exact v1) ?_
        rw [e1]
        exact And.intro ⟨rfl, rfl⟩ (t_fits (n := n) (hM.fC f1) hW.1 (fun σ2 f2 hM2 => And.intro (fun _ => nx _ σ1 σ2 f1 hC1 f2 hM2 (q_fits.W hW)) (fun c => absurd rfl c)))
      · refine And.intro v1 (And.intro ⟨rfl, rfl⟩ (c_next (n := n) hC hW.1 (fun σ1 f1 hC1 => ?_)))
        have e1 : σ1 1 = σ 1 := f1 1 (Or.inr rfl)
        refine And.intro (by rw [e1]; exact v1) ?_
        rw [e1]
        exact And.intro ⟨rfl, rfl⟩ (t_next (n := n) (hM.fC f1) hW.1 (fun σ2 f2 hM2 => And.intro (fun _ => nx _ σ1 σ2 f1 hC1 f2 hM2 (q_next.W hW)) (fun c => absurd rfl c)))
      · refine And.intro v1 (And.intro ⟨rfl, rfl⟩ (c_sure (n := n) hC hW.1 (fun σ1 f1 hC1 => ?_)))
        have e1 : σ1 1 = σ 1 := f1 1 (Or.inr rfl)
        refine And.intro (by rw [e1]; exact v1) ?_
        rw [e1]
        exact And.intro ⟨rfl, rfl⟩ (t_sure (n := n) (hM.fC f1) hW.1 (fun σ2 f2 hM2 => And.intro (fun _ => nx _ σ1 σ2 f1 hC1 f2 hM2 (q_sure.W hW)) (fun c => absurd rfl c)))
      · refine And.intro v1 (And.intro v2 (And.intro v3 (And.intro ⟨rfl, rfl⟩ (c_heirs (n := n) hC hW.1 (fun σ1 f1 hC1 => ?_)))))
        have e1 : σ1 1 = σ 1 := f1 1 (Or.inr rfl)
        refine And.intro (by rw [e1]; exact v1) ?_
        rw [e1]
        refine And.intro (by rw [e1]; exact v2) ?_
        rw [e1]
        refine And.intro (by rw [e1]; exact v3) ?_
        rw [e1]
        exact And.intro ⟨rfl, rfl⟩ (t_heirs (n := n) (hM.fC f1) hW.1 (fun σ2 f2 hM2 => And.intro (fun _ => nx _ σ1 σ2 f1 hC1 f2 hM2 (q_heirs.W hW)) (fun c => absurd rfl c)))
      · refine And.intro v1 (And.intro v2 (And.intro ⟨rfl, rfl⟩ (c_bestOrder (n := n) hC hW.1 (fun σ1 f1 hC1 => ?_))))
        have e1 : σ1 1 = σ 1 := f1 1 (Or.inr rfl)
        refine And.intro (by rw [e1]; exact v1) ?_
        rw [e1]
        refine And.intro (by rw [e1]; exact v2) ?_
        rw [e1]
        exact And.intro ⟨rfl, rfl⟩ (t_bestOrder (n := n) (hM.fC f1) hW.1 (fun σ2 f2 hM2 => And.intro (fun _ => nx _ σ1 σ2 f1 hC1 f2 hM2 (q_best.W hW)) (fun c => absurd rfl c)))
      · refine And.intro v1 (And.intro v2 (And.intro ⟨rfl, rfl⟩ (c_week (n := n) hC hW.1 (fun σ1 f1 hC1 => ?_))))
        have e1 : σ1 1 = σ 1 := f1 1 (Or.inr rfl)
        refine And.intro (by rw [e1]; exact v1) ?_
        rw [e1]
        refine And.intro (by rw [e1]; exact v2) ?_
        rw [e1]
        exact And.intro ⟨rfl, rfl⟩ (t_week (n := n) (hM.fC f1) hW.1 (fun σ2 f2 hM2 => And.intro (fun _ => nx _ σ1 σ2 f1 hC1 f2 hM2 (q_week.W hW)) (fun c => absurd rfl c)))
      · refine And.intro v1 (And.intro ⟨rfl, rfl⟩ (c_row (n := n) hC hW.1 (fun σ1 f1 hC1 => ?_)))
        have e1 : σ1 1 = σ 1 := f1 1 (Or.inr rfl)
        refine And.intro (by rw [e1]; exact v1) ?_
        rw [e1]
        exact And.intro ⟨rfl, rfl⟩ (t_row (n := n) (hM.fC f1) hW.1 (fun σ2 f2 hM2 => And.intro (fun _ => nx _ σ1 σ2 f1 hC1 f2 hM2 (w_row hW)) (fun c => absurd rfl c)))
      · refine And.intro v1 (And.intro ⟨rfl, rfl⟩ (c_judge (n := n) hC hW.1 (fun σ1 f1 hC1 => ?_)))
        have e1 : σ1 1 = σ 1 := f1 1 (Or.inr rfl)
        refine And.intro (by rw [e1]; exact v1) ?_
        rw [e1]
        exact And.intro ⟨rfl, rfl⟩ (t_judge (n := n) (hM.fC f1) hW.1 (fun σ2 f2 hM2 => And.intro (fun _ => nx _ σ1 σ2 f1 hC1 f2 hM2 (w_judge hW)) (fun c => absurd rfl c)))
      · refine And.intro ⟨rfl, rfl⟩ (c_image (n := n) hC hW.1 (fun σ1 f1 hC1 => ?_))
        have e1 : σ1 1 = σ 1 := f1 1 (Or.inr rfl)
        exact And.intro ⟨rfl, rfl⟩ (t_image (n := n) (hM.fC f1) hW.1 (fun σ2 f2 hM2 => And.intro (fun _ => nx _ σ1 σ2 f1 hC1 f2 hM2 (w_image hW)) (fun c => absurd rfl c)))
      · refine And.intro ⟨rfl, rfl⟩ (c_on (n := n) hC hW.1 (fun σ1 f1 hC1 => ?_))
        have e1 : σ1 1 = σ 1 := f1 1 (Or.inr rfl)
        exact And.intro ⟨rfl, rfl⟩ (t_on (n := n) (hM.fC f1) hW.1 (fun σ2 f2 hM2 => And.intro (fun _ => nx _ σ1 σ2 f1 hC1 f2 hM2 (w_on hW)) (fun c => absurd rfl c)))
      · refine And.intro v1 (And.intro ⟨rfl, rfl⟩ (c_count (n := n) hC hW.1 (fun σ1 f1 hC1 => ?_)))
        have e1 : σ1 1 = σ 1 := f1 1 (Or.inr rfl)
        refine And.intro (by rw [e1]; exact v1) ?_
        rw [e1]
        exact And.intro ⟨rfl, rfl⟩ (t_count (n := n) (hM.fC f1) hW.1 (fun σ2 f2 hM2 => And.intro (fun _ => nx _ σ1 σ2 f1 hC1 f2 hM2 (q_count.W hW)) (fun c => absurd rfl c)))
    · exact nx P σ σ rc_fC.rf hC rc_fM.rf hM hW.mono
end RLw
