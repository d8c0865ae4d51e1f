section RIm2
variable {d n : Nat} {σ : rc_M} {P : rc_P} {V : rc_V} {Q : Int32 → rc_M → Prop}
theorem rc_svd.put {σ0 : rc_M} {m p j : Nat} {x : Int32} (h : rc_svd σ0 σ m p) (h1 : j ≠ 21) (h2 : j ≠ 22) (hx : x = σ0 80 j) : rc_svd σ0 (rc_up σ 80 (upd (σ 80) j x)) m p := by
  obtain ⟨s1, s2, s3, s4, s5, s6⟩ := h
  refine ⟨fun q h1 h2 => ?_, fun j' h3 h4 => ?_, ?_, ?_, fun i h1 h2 => ?_, fun q h1 h2 => ?_⟩
  · rw [rc_up_n _ _ h1]; exact s1 q h1 h2
  · rw [rc_up_s]
    by_cases e : j' = j
    · subst e; rw [pk_us]; exact hx
    · rw [pk_un e]; exact s2 j' h3 h4
  · rw [rc_up_s, pk_un (Ne.symm h1)]; exact s3
  · rw [rc_up_s, pk_un (Ne.symm h2)]; exact s4
  · rw [rc_up_n _ _ (by decide)]; exact s5 i h1 h2
  · rw [rc_up_n _ _ (by decide)]; exact s6 q h1 h2
theorem t_mAll0 {Q : rc_M → Prop} (h : ∀ σ', rc_svd σ σ' 96 104 → Q σ') : rc_TV (d + 1) 124 [.ref 80, .int 0] σ Q := by
  refine rc_go 150 (And.intro (Or.inl rfl) ?_)
  refine t_mv0i (p := 0) (σ0 := σ) (by decide) ⟨fun q h1 h2 => ?_, fun j h1 h2 => ?_, ?_, ?_, fun i h1 h2 => absurd h2 (by omega), fun q h1 h2 => absurd h2 (by omega)⟩ ?_ (fun σ1 g1 => ?_)
  · rw [rc_up_n _ _ h1, rc_up_n _ _ h1]
  · rw [rc_up_s, pk_un h1, rc_up_s, pk_un h2]
  · rw [rc_up_s, pk_us]; rfl
  · rw [rc_up_s, pk_un (by decide), rc_up_s, pk_us]
  · rw [rc_up_s, pk_un (by decide), rc_up_s, pk_un (by decide)]; rfl
  have g1 := g1.put (j := 1) (x := σ 80 1) (by decide) (by decide) rfl
  refine t_mv0i (p := 1) (σ0 := σ) (by decide) g1 (g1.2.1 8 (by decide) (by decide)) (fun σ2 g2 => ?_)
  have g2 := g2.put (j := 8) (x := σ 80 8) (by decide) (by decide) rfl
  refine t_mv0i (p := 2) (σ0 := σ) (by decide) g2 (g2.2.1 15 (by decide) (by decide)) (fun σ3 g3 => ?_)
  have g3 := g3.put (j := 15) (x := σ 80 15) (by decide) (by decide) rfl
  refine t_mv0i (p := 3) (σ0 := σ) (by decide) g3 (g3.2.1 16 (by decide) (by decide)) (fun σ4 g4 => ?_)
  have g4 := g4.put (j := 16) (x := σ 80 16) (by decide) (by decide) rfl
  refine t_mv0 (k := 82) (m := 83) (p := 10) (by decide) rfl rfl g4 (fun σ5 g5 => ?_)
  refine t_mv0 (k := 83) (m := 84) (p := 16) (by decide) rfl rfl g5 (fun σ6 g6 => ?_)
  refine t_mv0 (k := 84) (m := 85) (p := 34) (by decide) rfl rfl g6 (fun σ7 g7 => ?_)
  refine t_mv0 (k := 85) (m := 86) (p := 40) (by decide) rfl rfl g7 (fun σ8 g8 => ?_)
  refine t_mv0 (k := 86) (m := 87) (p := 46) (by decide) rfl rfl g8 (fun σ9 g9 => ?_)
  refine t_mv0 (k := 87) (m := 88) (p := 52) (by decide) rfl rfl g9 (fun σa ga => ?_)
  refine t_mv0 (k := 88) (m := 89) (p := 57) (by decide) rfl rfl ga (fun σb gb => ?_)
  refine t_mv0 (k := 89) (m := 90) (p := 72) (by decide) rfl rfl gb (fun σc gc => ?_)
  refine t_mv0 (k := 90) (m := 91) (p := 77) (by decide) rfl rfl gc (fun σd gd => ?_)
  refine t_mv0 (k := 91) (m := 92) (p := 82) (by decide) rfl rfl gd (fun σe ge => ?_)
  refine t_mv0 (k := 92) (m := 93) (p := 87) (by decide) rfl rfl ge (fun σf gf => ?_)
  refine t_mv0 (k := 93) (m := 94) (p := 92) (by decide) rfl rfl gf (fun σg gg => ?_)
  refine t_mv0 (k := 94) (m := 95) (p := 98) (by decide) rfl rfl gg (fun σh gh => ?_)
  exact t_mv0 (k := 95) (m := 96) (p := 104) (by decide) rfl rfl gh (fun σi gi => ⟨rfl, h _ gi⟩)
theorem t_mAll1 {Q : rc_M → Prop} (h : ∀ σ', rc_rs σ σ' 96 104 → Q σ') : rc_TV (d + 1) 124 [.ref 80, .int 1] σ Q := by
  refine rc_go 150 (And.intro (Or.inr rfl) ?_)
  refine t_mv1i (p := 0) (σ0 := σ) (by decide) ⟨fun q h1 => ?_, fun j h1 h2 h3 h4 h5 h6 => ?_, ?_, ?_, fun i h1 h2 => absurd h2 (by omega), fun q h1 h2 => absurd h2 (by omega)⟩ (fun σ1 g1 => ?_)
  · rw [rc_up_n _ _ (by omega), rc_up_n _ _ (by omega)]
  · rw [rc_up_s, pk_un h5, rc_up_s, pk_un h6]
  · rw [rc_up_s, pk_us]; rfl
  · rw [rc_up_s, pk_un (by decide), rc_up_s, pk_us]
  refine t_mv1i (p := 1) (σ0 := σ) (by decide) g1 (fun σ2 g2 => ?_)
  refine t_mv1i (p := 2) (σ0 := σ) (by decide) g2 (fun σ3 g3 => ?_)
  refine t_mv1i (p := 3) (σ0 := σ) (by decide) g3 (fun σ4 g4 => ?_)
  refine t_mv1 (k := 82) (m := 83) (p := 10) (by decide) rfl rfl g4 (fun σ5 g5 => ?_)
  refine t_mv1 (k := 83) (m := 84) (p := 16) (by decide) rfl rfl g5 (fun σ6 g6 => ?_)
  refine t_mv1 (k := 84) (m := 85) (p := 34) (by decide) rfl rfl g6 (fun σ7 g7 => ?_)
  refine t_mv1 (k := 85) (m := 86) (p := 40) (by decide) rfl rfl g7 (fun σ8 g8 => ?_)
  refine t_mv1 (k := 86) (m := 87) (p := 46) (by decide) rfl rfl g8 (fun σ9 g9 => ?_)
  refine t_mv1 (k := 87) (m := 88) (p := 52) (by decide) rfl rfl g9 (fun σa ga => ?_)
  refine t_mv1 (k := 88) (m := 89) (p := 57) (by decide) rfl rfl ga (fun σb gb => ?_)
  refine t_mv1 (k := 89) (m := 90) (p := 72) (by decide) rfl rfl gb (fun σc gc => ?_)
  refine t_mv1 (k := 90) (m := 91) (p := 77) (by decide) rfl rfl gc (fun σd gd => ?_)
  refine t_mv1 (k := 91) (m := 92) (p := 82) (by decide) rfl rfl gd (fun σe ge => ?_)
  refine t_mv1 (k := 92) (m := 93) (p := 87) (by decide) rfl rfl ge (fun σf gf => ?_)
  refine t_mv1 (k := 93) (m := 94) (p := 92) (by decide) rfl rfl gf (fun σg gg => ?_)
  refine t_mv1 (k := 94) (m := 95) (p := 98) (by decide) rfl rfl gg (fun σh gh => ?_)
  exact t_mv1 (k := 95) (m := 96) (p := 104) (by decide) rfl rfl gh (fun σi gi => ⟨rfl, h _ gi⟩)
/-- a model read elsewhere -/
theorem rc_Mod.as {σ1 : rc_M} (h : rc_Mod σ V) (hW : rc_WF n V) (e1 : ∀ i, i < 4 → σ1 80 (rc_hd i) = σ 80 (rc_hd i)) (e2 : ∀ q, 82 ≤ q → q < 96 → ∀ j, j < rc_tln q → σ1 q j = σ q j) : rc_Mod σ1 V := by
  obtain ⟨h1, h2, h3, h4, h5, h6, h7⟩ := h
  obtain ⟨w1, w2, w3, w4, w5⟩ := hW
  refine ⟨(e1 0 (by decide)).trans h1, (e1 1 (by decide)).trans h2, (e1 2 (by decide)).trans h3, (e1 3 (by decide)).trans h4, fun i hi => ?_, fun g hg => ?_, fun t ht => ?_⟩
  · obtain ⟨d1, d2, d3, d4, d5, d6⟩ := h5 i hi
    exact ⟨(e2 82 (by decide) (by decide) i (by show i < 6; omega)).trans d1, (e2 83 (by decide) (by decide) i (by show i < 6; omega)).trans d2, fun v hv => (e2 84 (by decide) (by decide) _ (by show _ < 18; omega)).trans (d3 v hv), (e2 85 (by decide) (by decide) i (by show i < 6; omega)).trans d4, (e2 86 (by decide) (by decide) i (by show i < 6; omega)).trans d5, (e2 87 (by decide) (by decide) i (by show i < 6; omega)).trans d6⟩
  · obtain ⟨d1, d2, d3, d4, d5, d6⟩ := h6 g hg
    exact ⟨(e2 88 (by decide) (by decide) g (by show g < 5; omega)).trans d1, fun v hv => (e2 89 (by decide) (by decide) _ (by show _ < 15; omega)).trans (d2 v hv), (e2 90 (by decide) (by decide) g (by show g < 5; omega)).trans d3, (e2 91 (by decide) (by decide) g (by show g < 5; omega)).trans d4, (e2 92 (by decide) (by decide) g (by show g < 5; omega)).trans d5, fun z => (e2 93 (by decide) (by decide) g (by show g < 5; omega)).trans (d6 z)⟩
  · obtain ⟨d1, d2⟩ := h7 t ht
    exact ⟨(e2 94 (by decide) (by decide) t (by show t < 6; omega)).trans d1, (e2 95 (by decide) (by decide) t (by show t < 6; omega)).trans d2⟩
theorem rc_th8_hd : ∀ i, i < 4 → rc_th8 (rc_hd i) = i := by decide
theorem rc_thM_hd {i : Nat} (hi : i < 4) : rc_thM σ 80 (rc_hd i) = σ 96 i := by
  unfold rc_thM
  rw [if_pos rfl, rc_th8_hd i hi]
theorem rc_thM_a {q j : Nat} (hq : 82 ≤ q) : rc_thM σ q j = σ 96 (rc_tho q + j) := by
  unfold rc_thM
  rw [if_neg (by omega)]
theorem t_image (hI : rc_MP σ P) (hW : rc_WP n P) (h : ∀ σ', rc_fM σ σ' → rc_MP σ' (o_image P).2 → Q (o_image P).1 σ') : rc_TI (d + 2) 125 [.ref 80] σ Q := by
  refine rc_go 40 (And.intro (Or.inr rfl) (t_mAll0 (fun σ1 g => ⟨_, rfl, ?_⟩)))
  obtain ⟨s1, s2, s3, s4, s5, s6⟩ := g
  have e1 : ∀ q, q ≠ 80 → q ≠ 96 → σ1 q = σ q := fun q h1 h2 => by rw [s1 q h1 h2, rc_up_n _ _ h1]
  have e2 : ∀ j, j ≠ 19 → j ≠ 21 → j ≠ 22 → σ1 80 j = σ 80 j := fun j h1 h2 h3 => by rw [s2 j h2 h3, rc_up_s, pk_un h1]
  have h3 : σ1 80 15 = nI (pV P 12 2) := by rw [e2 15 (by decide) (by decide) (by decide)]; exact hI.1.2.2.1
  rw [h3]
  obtain ⟨h1, h2, h3, h4, h5, h6, h7, h8⟩ := hI
  have hm : rc_Mod σ1 (pV P) := h1.as hW.1 (fun i hi => e2 _ (by
    have b : i = 0 ∨ i = 1 ∨ i = 2 ∨ i = 3 := by omega
    rcases b with rfl | rfl | rfl | rfl <;> decide) (by
    have b : i = 0 ∨ i = 1 ∨ i = 2 ∨ i = 3 := by omega
    rcases b with rfl | rfl | rfl | rfl <;> decide) (by
    have b : i = 0 ∨ i = 1 ∨ i = 2 ∨ i = 3 := by omega
    rcases b with rfl | rfl | rfl | rfl <;> decide)) (fun q hq1 hq2 j _ => by rw [e1 q (by omega) (by omega)])
  refine h _ (fun k hk => e1 k (by omega) (by omega)) ⟨hm, ?_, ?_, fun j hj => ?_, ?_, fun _ => ?_, ?_, ?_⟩
  · rw [e2 24 (by decide) (by decide) (by decide), e1 97 (by decide) (by decide)]; exact h2
  · rw [e2 44 (by decide) (by decide) (by decide), e1 110 (by decide) (by decide)]; exact h3
  · rw [e1 81 (by decide) (by decide)]; exact h4 j hj
  · rw [s2 19 (by decide) (by decide), rc_up_s, pk_us]; rfl
  · refine hm.as hW.1 (fun i hi => ?_) (fun q hq1 hq2 j hj => ?_)
    · rw [rc_thM_hd hi, s5 i hi (by omega), s2 (rc_hd i)]
      · have b : i = 0 ∨ i = 1 ∨ i = 2 ∨ i = 3 := by omega
        rcases b with rfl | rfl | rfl | rfl <;> decide
      · have b : i = 0 ∨ i = 1 ∨ i = 2 ∨ i = 3 := by omega
        rcases b with rfl | rfl | rfl | rfl <;> decide
    · rw [rc_thM_a hq1, s6 q hq1 hq2 j hj, s1 q (by omega) (by omega)]
  · rw [e1 98 (by decide) (by decide)]; exact h7
  · rw [e1 99 (by decide) (by decide)]; exact h8
theorem t_on (hI : rc_MP σ P) (hW : rc_WP n P) (h : ∀ σ', rc_fM σ σ' → rc_MP σ' (o_on P).2 → Q (o_on P).1 σ') : rc_TI (d + 2) 126 [.ref 80] σ Q := by
  have e6 := hI.2.2.2.2.1
  unfold o_on at h
  cases hz : pim P with
  | false =>
    rw [hz] at h e6
    refine rc_go 40 (And.intro (fun c => absurd (by rw [e6]; rfl) c) (fun _ => ?_))
    exact t_ref (w := 3) (by decide) (by decide) hI rfl (fun σ' a b => ⟨_, rfl, h σ' a b⟩)
  | true =>
    rw [hz] at h e6
    have hU := hW.2.1 hz
    refine rc_go 40 (And.intro (fun _ => t_mAll1 (fun σ1 g => ⟨_, rfl, ?_⟩)) (fun c => absurd (show σ 80 19 = 0 from c) (by rw [e6]; decide)))
    obtain ⟨s1, s2, s3, s4, s5, s6⟩ := g
    obtain ⟨h1, h2, h3, h4, h5, h6, h7, h8⟩ := hI
    have hm : rc_Mod σ1 (pU P) := (h6 hz).as hU (fun i hi => by rw [rc_thM_hd hi]; exact s5 i hi (by omega)) (fun q hq1 hq2 j hj => by rw [rc_thM_a hq1]; exact s6 q hq1 hq2 j hj)
    have h3' : σ1 80 15 = nI (pU P 12 2) := hm.2.2.1
    rw [h3']
    refine h _ (fun k hk => s1 k (by omega)) ⟨hm, ?_, ?_, fun j hj => ?_, ?_, fun _ => ?_, ?_, ?_⟩
    · rw [s2 24 (by decide) (by decide) (by decide) (by decide) (by decide) (by decide), s1 97 (by decide)]; exact h2
    · rw [s2 44 (by decide) (by decide) (by decide) (by decide) (by decide) (by decide), s1 110 (by decide)]; exact h3
    · rw [s1 81 (by decide)]; exact h4 j hj
    · rw [s2 19 (by decide) (by decide) (by decide) (by decide) (by decide) (by decide)]; exact h5
    · have e : rc_thM σ1 = rc_thM σ := by funext k j; unfold rc_thM; rw [s1 96 (by decide)]
      rw [e]; exact h6 hz
    · rw [s1 98 (by decide)]; exact h7
    · rw [s1 99 (by decide)]; exact h8
end RIm2
