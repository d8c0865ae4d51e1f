section RWk
variable {d n : Nat} {σ : rc_M} {P : rc_P} {V : rc_V} {Q : Int32 → rc_M → Prop}
def rc_dr (y : Int32) (b : Nat) : Nat := y.toBitVec.toNat % 2 ^ 31 / 256 % b
theorem rc_dr_e (y : Int32) {b : Nat} (hb : 0 < b) (hb6 : b ≤ 6) : (y &&& 2147483647) / 256 - (y &&& 2147483647) / 256 / nI b * nI b = nI (rc_dr y b) := by
  rw [pk_and y 31 (by decide), show (256 : Int32) = nI 256 from rfl, pk_div (Nat.mod_lt _ (by decide)) (by decide) (by decide), pk_rem (by have := Nat.mod_lt y.toBitVec.toNat (show 0 < 2 ^ 31 by decide); omega) hb (by omega)]
  rfl
theorem rc_dr_lt (y : Int32) {b : Nat} (hb : 0 < b) : rc_dr y b < b := Nat.mod_lt _ hb
abbrev rc_W3 : Type := Int32 × Nat × (Nat → Nat)
def rc_w3s (V : rc_V) (q : rc_W3) : rc_W3 := if q.2.2 (rc_dr (q.1 * 1664525 + 1013904223) (V 12 0)) < V 3 (rc_dr (q.1 * 1664525 + 1013904223) (V 12 0)) then (q.1 * 1664525 + 1013904223, q.2.1 + V 4 (rc_dr (q.1 * 1664525 + 1013904223) (V 12 0)), va_up q.2.2 (rc_dr (q.1 * 1664525 + 1013904223) (V 12 0)) (q.2.2 (rc_dr (q.1 * 1664525 + 1013904223) (V 12 0)) + 1)) else (q.1 * 1664525 + 1013904223, q.2)
def rc_w3i (V : rc_V) (q : rc_W3) : Nat → rc_W3
  | 0 => q
  | k + 1 => rc_w3s V (rc_w3i V q k)
def rc_w3o (V : rc_V) (z : Int32) : Nat → Int32 × Nat
  | 0 => (z, 0)
  | m + 1 => ((rc_w3i V ((rc_w3o V z m).1, (rc_w3o V z m).2, fun _ => 0) (V 12 1)).1, (rc_w3i V ((rc_w3o V z m).1, (rc_w3o V z m).2, fun _ => 0) (V 12 1)).2.1)
def o_week (P : rc_P) (x z : Int32) : Int32 × rc_P := if x < 1 then o_no P 4 else if 14 < x then o_no P 6 else if pV P 12 0 = 0 then o_no P 3 else (nI (rc_w3o (pV P) z x.toNatClampNeg).2, P)
theorem rc_w3_le (hW : ∀ i, i < 6 → rc_WR V i) {q : rc_W3} (hq : ∀ r, q.2.2 r ≤ 2) (hb : 0 < V 12 0) (hb6 : V 12 0 ≤ 6) : ∀ r, (rc_w3s V q).2.2 r ≤ 2 := by
  intro r
  unfold rc_w3s
  have hd := rc_dr_lt (q.1 * 1664525 + 1013904223) hb
  have h3 := (hW (rc_dr (q.1 * 1664525 + 1013904223) (V 12 0)) (by omega)).2.2.2.1
  split
  · dsimp only [va_up]
    split
    · omega
    · exact hq r
  · exact hq r
theorem c_wk_st {nn m g r pd : Nat} {z y : Int32} {tk : Nat → Nat} {f : Nat → Int32} {w8 : Value} (hA : rc_CA σ V) (hb : 0 < V 12 0) (hng : V 12 1 ≤ 5) (h33 : σ 3 3 = nI (V 12 1)) (hr : rc_dr (y * 1664525 + 1013904223) (V 12 0) = r) (hf : ∀ r, r < 6 → f r = nI (tk r)) (hl : tk r ≤ 2) (hg : g < V 12 1) {Q' : Option Value → rc_M → Prop}
    (k1 : tk r < V 3 r → rc_Tc d 108 70 [.ref 2, .int (nI nn), .int z, .int (nI (V 12 0)), .int (y * 1664525 + 1013904223), .int (nI (pd + V 4 r)), .int (nI m), .int (nI (g + 1)), .int (nI r)] [] (rc_up σ 78 (upd f r (nI (tk r + 1)))) Q')
    (k0 : ¬ tk r < V 3 r → rc_Tc d 108 70 [.ref 2, .int (nI nn), .int z, .int (nI (V 12 0)), .int (y * 1664525 + 1013904223), .int (nI pd), .int (nI m), .int (nI (g + 1)), .int (nI r)] [] (rc_up σ 78 f) Q') :
    rc_Tc d 108 70 [.ref 2, .int (nI nn), .int z, .int (nI (V 12 0)), .int y, .int (nI pd), .int (nI m), .int (nI g), w8] [] (rc_up σ 78 f) Q' := by
  have h33' : ∀ f, rc_up σ 78 f 3 3 = nI (V 12 1) := fun f => by rw [rc_up_n _ _ (by decide)]; exact h33
  have hb6 := hA.2.2.2.2
  have hde := rc_dr_e (y * 1664525 + 1013904223) hb hb6
  have hd := rc_dr_lt (y * 1664525 + 1013904223) hb
  rw [hr] at hde hd
  have hr6 : r < 6 := by omega
  have hCR := hA.2.1 r hr6
  have e3 : rc_up σ 78 f (9 + 2 * r) 3 = nI (V 3 r) := by rw [rc_up_n _ _ (by omega)]; exact hCR.2.2.2.1
  have e4 : ∀ f, rc_up σ 78 f (9 + 2 * r) 4 = nI (V 4 r) := fun f => by rw [rc_up_n _ _ (by omega)]; exact hCR.2.2.2.2.1
  have hcr : (nI r).toNatClampNeg = r := rc_ci (by omega)
  have hb2 := (hA.2.2.1 r hr6).2.2.2.1
  rw [← nI_1] at k1 k0
  rw [← nI_add] at k1
  refine rc_go 120 (And.intro (fun c1 => absurd (by rw [h33'] at c1; exact c1) (nI_ge (by omega) (by omega))) (fun _ => ?_))
  refine And.intro (by decide) (And.intro (nI_ne0 hb (by omega)) ?_)
  rw [hde]
  refine And.intro (rc_vi (n := 6) hr6 (by decide)) ?_
  refine Exists.intro (9 + 2 * r) (And.intro rfl (And.intro (rc_vi (n := 6) hr6 (by decide)) (And.intro (by rw [hcr]; exact rc_rho4 _ hr6) (And.intro (rc_rmf r hr6).1 ?_))))
  rw [hcr, rc_up_s, hf r hr6, e3]
  refine And.intro (fun c2 => ?_) (fun c2 => ?_)
  · exact k0 (fun z => nI_ge z (by omega) c2)
  · have z : tk r < V 3 r := by
      rcases Nat.lt_or_ge (tk r) (V 3 r) with z | z
      · exact z
      · exact absurd (nI_le z (by omega)) c2
    refine And.intro (rc_vi (n := 6) hr6 (by decide)) (And.intro (rc_vi (n := 6) hr6 (by decide)) ?_)
    refine Exists.intro (9 + 2 * r) (And.intro rfl (And.intro (rc_vi (n := 6) hr6 (by decide)) (And.intro (by rw [hcr]; exact rc_rho4 _ hr6) (And.intro (rc_rmf r hr6).1 ?_))))
    rw [hcr, rc_up_s, hf r hr6, rc_uu, e4, nI_1]
    exact k1 z
theorem rc_w3i_t {q0 : rc_W3} {g r : Nat} (hr : rc_dr ((rc_w3i V q0 g).1 * 1664525 + 1013904223) (V 12 0) = r) (c : (rc_w3i V q0 g).2.2 r < V 3 r) : rc_w3i V q0 (g + 1) = ((rc_w3i V q0 g).1 * 1664525 + 1013904223, (rc_w3i V q0 g).2.1 + V 4 r, va_up (rc_w3i V q0 g).2.2 r ((rc_w3i V q0 g).2.2 r + 1)) := by
  rw [rc_w3i, rc_w3s, hr, if_pos c]
theorem rc_w3i_f {q0 : rc_W3} {g r : Nat} (hr : rc_dr ((rc_w3i V q0 g).1 * 1664525 + 1013904223) (V 12 0) = r) (c : ¬ (rc_w3i V q0 g).2.2 r < V 3 r) : rc_w3i V q0 (g + 1) = ((rc_w3i V q0 g).1 * 1664525 + 1013904223, (rc_w3i V q0 g).2) := by
  rw [rc_w3i, rc_w3s, hr, if_neg c]
theorem c_week_70 {nn m : Nat} {z : Int32} (hA : rc_CA σ V) (hb : 0 < V 12 0) (hng : V 12 1 ≤ 5) (h33 : σ 3 3 = nI (V 12 1)) {q0 : rc_W3} {Q' : Option Value → rc_M → Prop}
    (k : ∀ f (w7 w8 : Value), rc_Tc d 108 53 [.ref 2, .int (nI nn), .int z, .int (nI (V 12 0)), .int (rc_w3i V q0 (V 12 1)).1, .int (nI (rc_w3i V q0 (V 12 1)).2.1), .int (nI (m + 1)), w7, w8] [] (rc_up σ 78 f) Q') :
    ∀ (c g : Nat) (f : Nat → Int32) (w8 : Value), g + c = V 12 1 → (∀ r, (rc_w3i V q0 g).2.2 r ≤ 2) → (∀ r, r < 6 → f r = nI ((rc_w3i V q0 g).2.2 r)) → rc_Tc d 108 70 [.ref 2, .int (nI nn), .int z, .int (nI (V 12 0)), .int (rc_w3i V q0 g).1, .int (nI (rc_w3i V q0 g).2.1), .int (nI m), .int (nI g), w8] [] (rc_up σ 78 f) Q' := by
  have h33' : ∀ f, rc_up σ 78 f 3 3 = nI (V 12 1) := fun f => by rw [rc_up_n _ _ (by decide)]; exact h33
  have hb6 := hA.2.2.2.2
  intro c
  induction c with
  | zero =>
    intro g f w8 hg hle hf
    have : g = V 12 1 := by omega
    subst this
    have key := k f (.int (nI (V 12 1))) w8
    rw [← nI_1] at key
    exact rc_go 60 (And.intro (fun _ => key) (fun c => absurd (by rw [h33']; exact nI_le (Nat.le_refl _) (by omega)) c))
  | succ c ih =>
    intro g f w8 hg hle hf
    have hnx := rc_w3_le hA.2.2.1 hle hb hb6
    refine c_wk_st (tk := (rc_w3i V q0 g).2.2) hA hb hng h33 rfl hf (hle _) (by omega) (fun c1 => ?_) (fun c1 => ?_)
    · have e := rc_w3i_t rfl c1
      have hle' : ∀ r, (rc_w3i V q0 (g + 1)).2.2 r ≤ 2 := hnx
      have ih1 := ih (g + 1)
      rw [e] at ih1 hle'
      exact ih1 _ _ (by omega) hle' (fun r' hr' => by
        dsimp only [va_up]
        split
        · rename_i z; rw [z, pk_us]
        · rename_i z; rw [pk_un z]; exact hf r' hr')
    · have e := rc_w3i_f rfl c1
      have ih1 := ih (g + 1)
      rw [e] at ih1
      exact ih1 _ _ (by omega) hle hf
theorem c_week_53 {nn : Nat} {z : Int32} (hA : rc_CA σ V) (hb : 0 < V 12 0) (hng : V 12 1 ≤ 5) (h33 : σ 3 3 = nI (V 12 1)) (hnn : nn ≤ 14) {Q' : Option Value → rc_M → Prop} (h : ∀ f, Q' (some (.int (nI (rc_w3o V z nn).2))) (rc_up σ 78 f)) :
    ∀ (c m : Nat) (f : Nat → Int32) (w7 w8 : Value), m + c = nn → rc_Tc (d + 1) 108 53 [.ref 2, .int (nI nn), .int z, .int (nI (V 12 0)), .int (rc_w3o V z m).1, .int (nI (rc_w3o V z m).2), .int (nI m), w7, w8] [] (rc_up σ 78 f) Q' := by
  intro c
  induction c with
  | zero =>
    intro m f w7 w8 hm
    have : m = nn := by omega
    subst this
    exact rc_go 40 (And.intro (fun _ => h f) (fun c => absurd (nI_le (Nat.le_refl _) (by omega)) c))
  | succ c ih =>
    intro m f w7 w8 hm
    refine rc_go 40 (And.intro (fun c1 => absurd c1 (nI_ge (by omega) (by omega))) (fun _ => ?_))
    refine c_fill (L := 6) rfl rfl (by decide) (by decide) (fun f2 hf2 => ?_)
    rw [rc_uu]
    exact c_week_70 (q0 := ((rc_w3o V z m).1, (rc_w3o V z m).2, fun _ => 0)) hA hb hng h33 (fun f3 w7 w8 => ih (m + 1) f3 w7 w8 (by omega)) (V 12 1) 0 f2 w8 (by omega) (fun r => Nat.zero_le _) (fun r hr => by rw [hf2 r hr]; rfl)
theorem rc_1k14 {z : Int32} {k : Nat} (hk : k ≤ 1000) (h1 : 1 ≤ z) (h2 : z ≤ nI k) : ∃ j, 1 ≤ j ∧ j ≤ k ∧ z = nI j := by
  obtain ⟨j, hj, rfl⟩ := rc_le99 (fun q => Int32.not_lt.mpr h1 (Int32.lt_trans q (by decide))) (m := k) hk h2
  refine ⟨j, ?_, hj, rfl⟩
  rcases Nat.eq_zero_or_pos j with q | q
  · subst q; exact absurd h1 (by decide)
  · exact q
theorem c_week {x z : Int32} (hI : rc_CP σ P) (hW : rc_WP n P) (h : ∀ σ', rc_fC σ σ' → rc_CP σ' (o_week P x z).2 → Q (o_week P x z).1 σ') : rc_TI (d + 1) 108 [.ref 2, .int x, .int z] σ Q := by
  have h6 := hW.1.1
  have e31 : σ 3 1 = nI (pV P 12 0) := hI.2.1.1
  refine rc_go 80 (And.intro (fun c3 => ?_) (fun c3 => ?_))
  · have c3' : ¬ x < 1 := Int32.not_lt.mpr c3
    refine And.intro (fun c4 => ?_) (fun c4 => ?_)
    · have c4' : ¬ 14 < x := Int32.not_lt.mpr c4
      obtain ⟨k, hk1, hk, rfl⟩ := rc_1k14 (k := 14) (by decide) c3 c4
      refine And.intro (fun c5 => ?_) (fun c5 => ?_)
      · have hz : ¬ pV P 12 0 = 0 := fun q => c5 (by rw [e31, q]; rfl)
        have ho : o_week P (nI k) z = (nI (rc_w3o (pV P) z k).2, P) := by simp only [o_week, if_neg c3', if_neg c4', if_neg hz, rc_ci (show k ≤ 2000 by omega)]
        rw [ho] at h
        have key := c_week_53 (d := d) (σ := σ) (V := pV P) (nn := k) (z := z) (Q' := fun r σ' => ∃ x, r = some (.int x) ∧ Q x σ') (hI.CA hW) (by omega) hW.1.2.1 hI.2.1.2.1 hk (fun f => ⟨_, rfl, h _ (rc_fC.up (by omega)) (hI.fr hW (rc_fr.up (ks := [78]) (by simp)) (by simp))⟩) k 0 (σ 78) .null .null (by omega)
        rw [rc_ui, ← e31] at key
        exact key
      · have hz : pV P 12 0 = 0 := (nI_eq (by omega) (by decide)).mp (show nI (pV P 12 0) = nI 0 from by rw [← e31]; exact c5)
        exact c_ref (w := 3) (by decide) (by decide) hI hW (by simp only [o_week, if_neg c3', if_neg c4', if_pos hz]) (fun σ' a b => ⟨_, rfl, h σ' a b⟩)
    · have c4' : 14 < x := Int32.not_le.mp c4
      exact c_ref (w := 6) (by decide) (by decide) hI hW (by simp only [o_week, if_neg c3', if_pos c4']) (fun σ' a b => ⟨_, rfl, h σ' a b⟩)
  · have c3' : x < 1 := Int32.not_le.mp c3
    exact c_ref (w := 4) (by decide) (by decide) hI hW (by simp only [o_week, if_pos c3']) (fun σ' a b => ⟨_, rfl, h σ' a b⟩)
theorem t_wk_st {nn m g r pd : Nat} {z y : Int32} {tk : Nat → Nat} {f : Nat → Int32} {w7 : Value} (hM : rc_Mod σ V) (hWr : ∀ i, i < 6 → rc_WR V i) (hb : 0 < V 12 0) (hb6 : V 12 0 ≤ 6) (hng : V 12 1 ≤ 5) (hr : rc_dr (y * 1664525 + 1013904223) (V 12 0) = r) (hf : ∀ r, r < 6 → f r = nI (tk r)) (hl : tk r ≤ 2) (hg : g < V 12 1) {Q' : Option Value → rc_M → Prop}
    (k1 : tk r < V 3 r → rc_Tc d 181 80 [.ref 80, .int (nI nn), .int z, .int (nI (pd + V 4 r)), .int (y * 1664525 + 1013904223), .int (nI m), .int (nI (g + 1)), .int (nI r)] [] (rc_up σ 109 (upd f r (nI (tk r + 1)))) Q')
    (k0 : ¬ tk r < V 3 r → rc_Tc d 181 80 [.ref 80, .int (nI nn), .int z, .int (nI pd), .int (y * 1664525 + 1013904223), .int (nI m), .int (nI (g + 1)), .int (nI r)] [] (rc_up σ 109 f) Q') :
    rc_Tc d 181 80 [.ref 80, .int (nI nn), .int z, .int (nI pd), .int y, .int (nI m), .int (nI g), w7] [] (rc_up σ 109 f) Q' := by
  have h33' : ∀ f, rc_up σ 109 f 80 8 = nI (V 12 1) := fun f => by rw [rc_up_n _ _ (by decide)]; exact hM.2.1
  have h31' : ∀ f, rc_up σ 109 f 80 1 = nI (V 12 0) := fun f => by rw [rc_up_n _ _ (by decide)]; exact hM.1
  have hde := rc_dr_e (y * 1664525 + 1013904223) hb hb6
  have hd := rc_dr_lt (y * 1664525 + 1013904223) hb
  rw [hr] at hde hd
  have hr6 : r < 6 := by omega
  have hMR := hM.2.2.2.2.1 r hd
  have e3 : rc_up σ 109 f 85 r = nI (V 3 r) := by rw [rc_up_n _ _ (by omega)]; exact hMR.2.2.2.1
  have e4 : ∀ f, rc_up σ 109 f 86 r = nI (V 4 r) := fun f => by rw [rc_up_n _ _ (by omega)]; exact hMR.2.2.2.2.1
  have hcr : (nI r).toNatClampNeg = r := rc_ci (by omega)
  have hb2 := (hWr r hr6).2.2.2.1
  rw [← nI_1] at k1 k0
  rw [← nI_add] at k1
  refine rc_go 120 (And.intro (fun c1 => absurd (by rw [h33'] at c1; exact c1) (nI_ge (by omega) (by omega))) (fun _ => ?_))
  refine And.intro (by decide) (And.intro (by rw [h31']; exact nI_ne0 hb (by omega)) ?_)
  rw [h31', hde]
  refine And.intro (rc_vi (n := 6) hr6 (by decide)) (And.intro (rc_vi (n := 6) hr6 (by decide)) ?_)
  rw [hcr, rc_up_s, hf r hr6, e3]
  refine And.intro (fun c2 => ?_) (fun c2 => ?_)
  · exact k0 (fun z => nI_ge z (by omega) c2)
  · have z : tk r < V 3 r := by
      rcases Nat.lt_or_ge (tk r) (V 3 r) with z | z
      · exact z
      · exact absurd (nI_le z (by omega)) c2
    refine And.intro (rc_vi (n := 6) hr6 (by decide)) (And.intro (rc_vi (n := 6) hr6 (by decide)) (And.intro (rc_vi (n := 6) hr6 (by decide)) ?_))
    rw [hcr, rc_up_s, hf r hr6, rc_uu, e4, nI_1]
    exact k1 z
theorem t_week_80 {nn m : Nat} {z : Int32} (hM : rc_Mod σ V) (hWr : ∀ i, i < 6 → rc_WR V i) (hb : 0 < V 12 0) (hb6 : V 12 0 ≤ 6) (hng : V 12 1 ≤ 5) {q0 : rc_W3} {Q' : Option Value → rc_M → Prop}
    (k : ∀ f (w6 w7 : Value), rc_Tc d 181 47 [.ref 80, .int (nI nn), .int z, .int (nI (rc_w3i V q0 (V 12 1)).2.1), .int (rc_w3i V q0 (V 12 1)).1, .int (nI (m + 1)), w6, w7] [] (rc_up σ 109 f) Q') :
    ∀ (c g : Nat) (f : Nat → Int32) (w7 : Value), g + c = V 12 1 → (∀ r, (rc_w3i V q0 g).2.2 r ≤ 2) → (∀ r, r < 6 → f r = nI ((rc_w3i V q0 g).2.2 r)) → rc_Tc d 181 80 [.ref 80, .int (nI nn), .int z, .int (nI (rc_w3i V q0 g).2.1), .int (rc_w3i V q0 g).1, .int (nI m), .int (nI g), w7] [] (rc_up σ 109 f) Q' := by
  have h33' : ∀ f, rc_up σ 109 f 80 8 = nI (V 12 1) := fun f => by rw [rc_up_n _ _ (by decide)]; exact hM.2.1
  have h31' : ∀ f, rc_up σ 109 f 80 1 = nI (V 12 0) := fun f => by rw [rc_up_n _ _ (by decide)]; exact hM.1
  intro c
  induction c with
  | zero =>
    intro g f w7 hg hle hf
    have : g = V 12 1 := by omega
    subst this
    have key := k f (.int (nI (V 12 1))) w7
    rw [← nI_1] at key
    exact rc_go 60 (And.intro (fun _ => key) (fun c => absurd (by rw [h33']; exact nI_le (Nat.le_refl _) (by omega)) c))
  | succ c ih =>
    intro g f w7 hg hle hf
    have hnx := rc_w3_le hWr hle hb hb6
    refine t_wk_st (tk := (rc_w3i V q0 g).2.2) hM hWr hb hb6 hng rfl hf (hle _) (by omega) (fun c1 => ?_) (fun c1 => ?_)
    · have e := rc_w3i_t rfl c1
      have hle' : ∀ r, (rc_w3i V q0 (g + 1)).2.2 r ≤ 2 := hnx
      have ih1 := ih (g + 1)
      rw [e] at ih1 hle'
      exact ih1 _ _ (by omega) hle' (fun r' hr' => by
        dsimp only [va_up]
        split
        · rename_i z; rw [z, pk_us]
        · rename_i z; rw [pk_un z]; exact hf r' hr')
    · have e := rc_w3i_f rfl c1
      have ih1 := ih (g + 1)
      rw [e] at ih1
      exact ih1 _ _ (by omega) hle hf
theorem t_week_56 {nn : Nat} {z x3 x4 x5 : Int32} {w7 : Value} {Q' : Option Value → rc_M → Prop} (h : ∀ f, (∀ r, r < 6 → f r = 0) → rc_Tc d 181 80 [.ref 80, .int (nI nn), .int z, .int x3, .int x4, .int x5, .int (nI 0), w7] [] (rc_up σ 109 f) Q') : ∀ (c k : Nat) (f : Nat → Int32), k + c = 6 → (∀ r, r < k → f r = 0) → rc_Tc d 181 56 [.ref 80, .int (nI nn), .int z, .int x3, .int x4, .int x5, .int (nI k), w7] [] (rc_up σ 109 f) Q' := by
  intro c
  induction c with
  | zero =>
    intro k f hk hf
    have : k = 6 := by omega
    subst this
    exact rc_go 40 (And.intro (fun _ => h f hf) (fun c => absurd (by decide) c))
  | succ c ih =>
    intro k f hk hf
    refine rc_go 40 (And.intro (fun c1 => absurd c1 (nI_ge (show k < 6 by omega) (by decide))) (fun _ => ?_))
    refine And.intro (rc_vi (n := 6) (by omega) (by decide)) ?_
    have key := ih (k + 1) (upd f k 0) (by omega) (fun j hj => by
      by_cases e : j = k
      · subst e; exact pk_us
      · rw [pk_un e]; exact hf j (by omega))
    rw [← nI_1] at key
    rw [rc_up_s, rc_uu, rc_ci (by omega)]
    exact key
theorem t_week_47 {nn : Nat} {z : Int32} (hM : rc_Mod σ V) (hWr : ∀ i, i < 6 → rc_WR V i) (hb : 0 < V 12 0) (hb6 : V 12 0 ≤ 6) (hng : V 12 1 ≤ 5) (hnn : nn ≤ 14) {Q' : Option Value → rc_M → Prop} (h : ∀ f, Q' (some (.int (nI (rc_w3o V z nn).2))) (rc_up σ 109 f)) :
    ∀ (c m : Nat) (f : Nat → Int32) (w6 w7 : Value), m + c = nn → rc_Tc d 181 47 [.ref 80, .int (nI nn), .int z, .int (nI (rc_w3o V z m).2), .int (rc_w3o V z m).1, .int (nI m), w6, w7] [] (rc_up σ 109 f) Q' := by
  intro c
  induction c with
  | zero =>
    intro m f w6 w7 hm
    have : m = nn := by omega
    subst this
    exact rc_go 40 (And.intro (fun _ => h f) (fun c => absurd (nI_le (Nat.le_refl _) (by omega)) c))
  | succ c ih =>
    intro m f w6 w7 hm
    refine rc_go 40 (And.intro (fun c1 => absurd c1 (nI_ge (by omega) (by omega))) (fun _ => ?_))
    refine t_week_56 (fun f2 hf2 => ?_) 6 0 f (by omega) (fun r hr => absurd hr (by omega))
    exact t_week_80 (q0 := ((rc_w3o V z m).1, (rc_w3o V z m).2, fun _ => 0)) hM hWr hb hb6 hng (fun f3 w6 w7 => ih (m + 1) f3 w6 w7 (by omega)) (V 12 1) 0 f2 w7 (by omega) (fun r => Nat.zero_le _) (fun r hr => by rw [hf2 r hr]; rfl)
theorem t_week {x z : Int32} (hI : rc_MP σ P) (hW : rc_WP n P) (h : ∀ σ', rc_fM σ σ' → rc_MP σ' (o_week P x z).2 → Q (o_week P x z).1 σ') : rc_TI (d + 1) 181 [.ref 80, .int x, .int z] σ Q := by
  have h6 := hW.1.1
  have e31 : σ 80 1 = nI (pV P 12 0) := hI.1.1
  refine rc_go 80 (And.intro (fun c3 => ?_) (fun c3 => ?_))
  · have c3' : ¬ x < 1 := Int32.not_lt.mpr c3
    refine And.intro (fun c4 => ?_) (fun c4 => ?_)
    · have c4' : ¬ 14 < x := Int32.not_lt.mpr c4
      obtain ⟨k, hk1, hk, rfl⟩ := rc_1k14 (k := 14) (by decide) c3 c4
      refine And.intro (fun c5 => ?_) (fun c5 => ?_)
      · have hz : ¬ pV P 12 0 = 0 := fun q => c5 (by rw [e31, q]; rfl)
        have ho : o_week P (nI k) z = (nI (rc_w3o (pV P) z k).2, P) := by simp only [o_week, if_neg c3', if_neg c4', if_neg hz, rc_ci (show k ≤ 2000 by omega)]
        rw [ho] at h
        have key := t_week_47 (d := d + 1) (σ := σ) (V := pV P) (nn := k) (z := z) (Q' := fun r σ' => ∃ x, r = some (.int x) ∧ Q x σ') hI.1 hW.1.2.2.2.2.1 (by omega) h6 hW.1.2.1 hk (fun f => ⟨_, rfl, h _ (rc_fM.up (by omega)) (hI.fq (rc_fq.up (by omega)))⟩) k 0 (σ 109) .null .null (by omega)
        rw [rc_ui] at key
        exact key
      · have hz : pV P 12 0 = 0 := (nI_eq (by omega) (by decide)).mp (show nI (pV P 12 0) = nI 0 from by rw [← e31]; exact c5)
        exact t_ref (w := 3) (by decide) (by decide) hI (by simp only [o_week, if_neg c3', if_neg c4', if_pos hz]) (fun σ' a b => ⟨_, rfl, h σ' a b⟩)
    · have c4' : 14 < x := Int32.not_le.mp c4
      exact t_ref (w := 6) (by decide) (by decide) hI (by simp only [o_week, if_neg c3', if_pos c4']) (fun σ' a b => ⟨_, rfl, h σ' a b⟩)
  · have c3' : x < 1 := Int32.not_le.mp c3
    exact t_ref (w := 4) (by decide) (by decide) hI (by simp only [o_week, if_pos c3']) (fun σ' a b => ⟨_, rfl, h σ' a b⟩)
end RWk
