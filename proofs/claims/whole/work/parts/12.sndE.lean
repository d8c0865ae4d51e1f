def rc_size (k : Nat) : Nat := match rc_lay k with
  | (t, c, n) => if t = 0 then rc_N c else n
def rc_tot : Nat → Nat
  | 0 => 0
  | n + 1 => rc_tot n + rc_size n
theorem rc_tot_le {a b : Nat} (h : a ≤ b) : rc_tot a ≤ rc_tot b := by
  induction h with
  | refl => exact Nat.le_refl _
  | step _ ih => exact Nat.le_trans ih (Nat.le_add_right _ _)
theorem rc_size_o {k : Nat} (h : (rc_lay k).1 = 0) : rc_size k = rc_N (rc_lay k).2.1 := by
  rcases hl : rc_lay k with ⟨t, c, n⟩
  rw [hl] at h
  dsimp only at h
  subst h
  unfold rc_size
  rw [hl]
  rfl
theorem rc_size_a {k : Nat} (h : ¬ (rc_lay k).1 = 0) : rc_size k = (rc_lay k).2.2 := by
  rcases hl : rc_lay k with ⟨t, c, n⟩
  rw [hl] at h
  dsimp only at h
  unfold rc_size
  rw [hl]
  simp [h]
theorem rc_nI_clamp_lay (k : Nat) : (nI (rc_lay k).2.2).toNatClampNeg = (rc_lay k).2.2 ∧ ¬ nI (rc_lay k).2.2 < 0 := by
  have := rc_lay_n k
  exact ⟨nI_clamp (by omega), nI_pos (by omega)⟩
theorem rc_dv (ci : Nat) (q : vw_C) (h : vwCl[ci]? = some q) (ad : Nat → Nat) (σ : rc_M) (ρ : rc_F) (k : Nat) (hσ : σ k = fun _ => 0) (hρ : ρ k = fun _ => none) : ∀ j, j < q.2.2 → defaultValue (rc_fty ci j) = vp_V ((List.range (rc_N ci)).map (rc_fv ad σ ρ ci k)) j := by
  intro j hj
  have hN : rc_N ci = q.2.2 := by unfold rc_N; rw [h]
  have e : vp_V ((List.range (rc_N ci)).map (rc_fv ad σ ρ ci k)) j = rc_fv ad σ ρ ci k j := by
    unfold vp_V
    rw [List.getD_eq_getElem?_getD, rc_fs_at (by rw [hN]; exact hj)]
    rfl
  rw [e]
  have hok : ∀ ci, ci < 11 → ∀ j, j < rc_N ci → (match rc_fty ci j with | .int => true | .boolean => true | .object _ => true | .array _ => true | _ => false) = true := by decide +kernel
  have hci : ci < 11 := by
    rcases Nat.lt_or_ge ci 11 with z | z
    · exact z
    · rw [List.getElem?_eq_none (by simpa using z)] at h
      cases h
  have h2 := hok ci hci j (by rw [hN]; exact hj)
  unfold rc_fv
  rw [hσ, hρ]
  cases ht : rc_fty ci j <;> rw [ht] at h2 <;> first | rfl | cases h2
section RSE
variable {p : Program} {l : Launch} {e : Env} {R : Room} {s : State} {m : MethodId} {args : Array Value} {below : List Frame} {meth : Method} {c : Code} {H : Heap} {locs : List Loc} {cells slots : Nat} {Q : State → Prop}
variable {dC : Nat → ClassId} {dI : Nat → Nat → Nat} {cy : Nat → ClassId} {ad : Nat → Nat} {A : Nat → Prop} {mi pc n a b o len : Nat} {v : Int32} {ls st : List Value} {S : rc_S} {ls0 : Array Slot} {i : Instr}
set_option maxHeartbeats 4000000 in
theorem rc_Es {st' : List Value} {S' : rc_S} {na0 : Nat} (hx : p.tables.exec = Jvm.exec) (hb : c.code = rc_code mi) (hown : s.vm.findClass (rc_own mi) = some m.cls) (hts : ∀ w ∈ rc_wsG, w.before args s = true) (hin : ∀ (ci : Nat) (q : vw_C), vwCl[ci]? = some q → ∀ w ∈ u_ws q.1 q.2.1 q.2.2, w ∈ rc_wsG) (hK : va_K (dC, dI) vwCl (rc_tys cy) s) (hP : va_P (dC, dI) vwCl (rc_ws cy ad S) H) (hD : va_D A (rc_ws cy ad S)) (hS : va_S A s.heap H locs) (hin2 : (rc_y mi).name = "<init>" → meth.name = "<init>") (hA : ∀ q, s.heap.size ≤ q → A q) (hO : va_AO RX6 s ∧ va_AO RX1 s) (hbd : ∀ k j q, S.2.1 k j = some q → q < S.2.2) (hna : na0 ≤ S.2.2 ∧ 2 ≤ S.2.2) (hlm : S.2.2 ≤ na0 + rc_mc mi) (hcs : cells = S.2.2 - na0 ∧ slots = rc_tot S.2.2 - rc_tot na0) (hRc : rc_mc mi ≤ R.cells) (hRs : rc_tot (na0 + rc_mc mi) - rc_tot na0 ≤ R.slots)
    (hL : rc_L ad (rc_mx mi) ls ls0) (hd : decode (rc_code mi) pc = .ok (i, len)) (hk : rc_kE mi pc o n a b i len = true) (h : rc_sE o a b (na0 + rc_mc mi) ls st S = some (st', S'))
    (kk : ∀ (ad' : Nat → Nat) (H1 : Heap) (locs1 : List Loc) (cells1 slots1 : Nat), (∀ k, k < S.2.2 → ad' k = ad k) → (∀ k j q, S'.2.1 k j = some q → q < S'.2.2) → S.2.2 ≤ S'.2.2 → (S'.2.2 = S.2.2 → ad' = ad) → S'.2.2 ≤ na0 + rc_mc mi → (∀ k, k < 2 → S'.1 k = S.1 k) → rc_L ad' (rc_mx mi) ls ls0 → cells1 = S'.2.2 - na0 → slots1 = rc_tot S'.2.2 - rc_tot na0 → va_P (dC, dI) vwCl (rc_ws cy ad' S') H1 → va_D A (rc_ws cy ad' S') → va_S A s.heap H1 locs1 → W p l e R s m args below meth c H1 locs1 cells1 slots1 Q (F0 m n ls0 (st'.map (rc_shv ad')))) : W p l e R s m args below meth c H locs cells slots Q (F0 m pc ls0 (st.map (rc_shv ad))) := by
  obtain ⟨hcs1, hcs2⟩ := hcs
  subst hcs1; subst hcs2
  revert hk h
  match o with
  | 0 =>
    intro hk h
    simp only [rc_sE] at h
    cases hc : (Nat.beq (rc_lay S.2.2).1 0 && (Nat.beq (rc_lay S.2.2).2.1 a && (Nat.ble (S.2.2 + 1) (na0 + rc_mc mi) && (rc_okl S.2.2 ls && rc_okl S.2.2 st)))) with
    | false => rw [hc] at h; cases h
    | true =>
      rw [hc] at h
      cases h
      simp only [Bool.and_eq_true] at hc
      obtain ⟨c1, c2, c3, c4, c5⟩ := hc
      have e1 := Nat.eq_of_beq_eq_true c1
      have e2 := Nat.eq_of_beq_eq_true c2
      have hlim := Nat.le_of_ble_eq_true c3
      have htot : rc_tot (S.2.2 + 1) = rc_tot S.2.2 + rc_size S.2.2 := rfl
      have hmon := rc_tot_le hlim
      have hmon2 := rc_tot_le hna.1
      have hsz := rc_size_o e1
      rw [e2] at hsz
      simp only [rc_kE] at hk
      split at hk
      · rename_i ix
        simp only [Bool.and_eq_true, decide_eq_true_eq, Bool.not_eq_true', Bool.not_eq_eq_eq_not, Bool.not_true] at hk
        obtain ⟨rfl, rfl, hw⟩ := hk
        cases hq : vwCl[a]? with
        | none => rw [hq] at hw; cases hw
        | some q =>
          rw [hq] at hw
          simp only [Bool.and_eq_true] at hw
          have hN : rc_N a = q.2.2 := by unfold rc_N; rw [hq]
          refine va_new (C := q.1) (T := q.2.1) (N := q.2.2) (fs := (List.range (rc_N a)).map (rc_fv ad (rc_up S.1 S.2.2 (fun _ => 0)) (rc_ur S.2.1 S.2.2 (fun _ => none)) a S.2.2)) hx hb hts (hin a q hq) (rc_fty a) (rc_fts a q hq) hown (hts _ (rc_has_in hw.1)) (hts _ (rc_has_in hw.2.1)) (hts _ (rc_has_in hw.2.2)) hK hP hD hS hA hq (rc_dv a q hq ad _ _ _ (rc_up_s _ _ _) (rc_ur_s _ _ _)) (by omega) (by omega) hd (fun q5 H1 p1 d1 s1 => ?_)
          have hcell : ∀ ad2 : Nat → Nat, rc_cell cy ad2 (rc_up S.1 S.2.2 (fun _ => 0)) (rc_ur S.2.1 S.2.2 (fun _ => none)) S.2.2 = .inr (a, (List.range (rc_N a)).map (rc_fv ad (rc_up S.1 S.2.2 (fun _ => 0)) (rc_ur S.2.1 S.2.2 (fun _ => none)) a S.2.2)) := fun ad2 => by
            rw [rc_cell_o e1 e2]
            congr 2
            refine List.map_congr_left fun j _ => ?_
            unfold rc_fv
            rw [rc_ur_s]
            rfl
          have hea : ∀ k, k < S.2.2 → (fun k => if k = S.2.2 then q5 else ad k) k = ad k := fun k hk => by simp [Nat.ne_of_lt hk]
          have hbd' : ∀ k j q, (rc_ur S.2.1 S.2.2 (fun _ => none)) k j = some q → q < S.2.2 + 1 := fun k j q hq => by
                by_cases hk9 : k = S.2.2
                · subst hk9; rw [rc_ur_s] at hq; cases hq
                · rw [rc_ur_n _ _ hk9] at hq; exact Nat.lt_succ_of_lt (hbd k j q hq)
          have ew := rc_ws_push (cy := cy) (ad := ad) (ad' := (fun k => if k = S.2.2 then q5 else ad k)) (S := S) (S' := (rc_up S.1 S.2.2 (fun _ => 0), rc_ur S.2.1 S.2.2 (fun _ => none), S.2.2 + 1)) (q := q5) (e := _) hna.2 rfl (fun k' hk' => rc_up_n _ _ hk') (fun k' hk' => rc_ur_n _ _ hk') hbd hea (by simp) rfl
          rw [hcell] at ew
          rw [ew] at p1 d1
          have e7 := rc_okl_map S.2.2 ad (fun k => if k = S.2.2 then q5 else ad k) st c5 hea
          have kk2 := kk (fun k => if k = S.2.2 then q5 else ad k) H1 locs (S.2.2 - na0 + 1) (rc_tot S.2.2 - rc_tot na0 + rc_size S.2.2) hea hbd' (Nat.le_succ _) (fun z => absurd z (Nat.succ_ne_self _)) hlim (fun k hk => rc_up_n _ _ (by omega)) (hL.move c4 hea) (by show _ = S.2.2 + 1 - na0; omega) (by show _ = rc_tot (S.2.2 + 1) - rc_tot na0; omega) p1 d1 s1
          rw [List.map_cons, e7] at kk2
          have e8 : rc_shv (fun k => if k = S.2.2 then q5 else ad k) (.ref S.2.2) = .ref q5 := by simp [rc_shv]
          rw [e8] at kk2
          rw [← hN, ← hsz]
          exact kk2
      · cases hk
  | 1 =>
    intro hk h
    cases st with
    | nil => cases h
    | cons w0 st1 =>
      cases w0 with
      | int z =>
        simp only [rc_sE] at h
        cases hc : (Nat.beq (rc_lay S.2.2).1 a && (decide (z = nI (rc_lay S.2.2).2.2) && (Nat.ble (S.2.2 + 1) (na0 + rc_mc mi) && (rc_okl S.2.2 ls && rc_okl S.2.2 st1)))) with
        | false => rw [hc] at h; cases h
        | true =>
          rw [hc] at h
          cases h
          simp only [Bool.and_eq_true, decide_eq_true_eq] at hc
          obtain ⟨c1, rfl, c3, c4, c5⟩ := hc
          have e1 := Nat.eq_of_beq_eq_true c1
          have hlim := Nat.le_of_ble_eq_true c3
          have htot : rc_tot (S.2.2 + 1) = rc_tot S.2.2 + rc_size S.2.2 := rfl
          have hmon := rc_tot_le hlim
          have hmon2 := rc_tot_le hna.1
          obtain ⟨z1, z2⟩ := rc_nI_clamp_lay S.2.2
          have z3 := rc_lay_n S.2.2
          simp only [rc_kE] at hk
          split at hk
          · rename_i ty
            simp only [Bool.and_eq_true, decide_eq_true_eq, Bool.not_eq_true', Bool.not_eq_eq_eq_not, Bool.not_true] at hk
            obtain ⟨rfl, rfl, ht, ⟨ha1, ha3⟩, hw⟩ := hk
            have hsz := rc_size_a (k := S.2.2) (by rw [e1]; omega)
            have hdv : defaultValue (rc_aty a) = .int 0 := by
              rcases (show a = 1 ∨ a = 2 ∨ a = 3 by omega) with q | q | q <;> subst q <;> rfl
            have hcb : componentBytes (rc_aty a) ≤ 4 := by
              rcases (show a = 1 ∨ a = 2 ∨ a = 3 by omega) with q | q | q <;> subst q <;> decide
            refine va_newa (atype := ty) (a0 := ((rc_lay S.2.2).2.2, .inl (fun _ => 0))) hx hb (hts _ (rc_has_in hw)) ht hK hP hD hS hA (fun cA => by rw [hdv]; rfl) z2 z1 (Nat.le_trans (Nat.mul_le_mul z3 hcb) (by decide)) (by omega) (by omega) hd (fun q5 cA H1 k1 p1 d1 s1 => ?_)
            have hcA : cA = cy a := by
              have r1 := (k1.2 5 (cA, rc_aty a) rfl).2
              rcases (show a = 1 ∨ a = 2 ∨ a = 3 by omega) with q | q | q <;> subst q
              · exact Option.some.inj (r1.symm.trans (hK.2 0 (cy 1, .int) rfl).2)
              · exact Option.some.inj (r1.symm.trans (hK.2 1 (cy 2, .char) rfl).2)
              · exact Option.some.inj (r1.symm.trans (hK.2 2 (cy 3, .boolean) rfl).2)
            subst hcA
            have hcell : ∀ ad2 : Nat → Nat, rc_cell cy ad2 (rc_up S.1 S.2.2 (fun _ => 0)) (rc_ur S.2.1 S.2.2 (fun _ => none)) S.2.2 = .inl (cy a, (rc_lay S.2.2).2.2, .inl (fun _ => 0)) := fun ad2 => by rw [rc_cell_a e1 (by omega) (by omega), rc_up_s]
            have hea : ∀ k, k < S.2.2 → (fun k => if k = S.2.2 then q5 else ad k) k = ad k := fun k hk => by simp [Nat.ne_of_lt hk]
            have hbd' : ∀ k j q, (rc_ur S.2.1 S.2.2 (fun _ => none)) k j = some q → q < S.2.2 + 1 := fun k j q hq => by
                  by_cases hk9 : k = S.2.2
                  · subst hk9; rw [rc_ur_s] at hq; cases hq
                  · rw [rc_ur_n _ _ hk9] at hq; exact Nat.lt_succ_of_lt (hbd k j q hq)
            have ew := rc_ws_push (cy := cy) (ad := ad) (ad' := (fun k => if k = S.2.2 then q5 else ad k)) (S := S) (S' := (rc_up S.1 S.2.2 (fun _ => 0), rc_ur S.2.1 S.2.2 (fun _ => none), S.2.2 + 1)) (q := q5) (e := _) hna.2 rfl (fun k' hk' => rc_up_n _ _ hk') (fun k' hk' => rc_ur_n _ _ hk') hbd hea (by simp) rfl
            rw [hcell] at ew
            rw [ew] at p1 d1
            have e7 := rc_okl_map S.2.2 ad (fun k => if k = S.2.2 then q5 else ad k) st1 c5 hea
            have kk2 := kk (fun k => if k = S.2.2 then q5 else ad k) H1 locs (S.2.2 - na0 + 1) (rc_tot S.2.2 - rc_tot na0 + rc_size S.2.2) hea hbd' (Nat.le_succ _) (fun z => absurd z (Nat.succ_ne_self _)) hlim (fun k hk => rc_up_n _ _ (by omega)) (hL.move c4 hea) (by show _ = S.2.2 + 1 - na0; omega) (by show _ = rc_tot (S.2.2 + 1) - rc_tot na0; omega) p1 d1 s1
            rw [List.map_cons, e7] at kk2
            have e8 : rc_shv (fun k => if k = S.2.2 then q5 else ad k) (.ref S.2.2) = .ref q5 := by simp [rc_shv]
            rw [e8] at kk2
            rw [← hsz]
            exact kk2
          · cases hk
      | _ => cases h
  | 2 =>
    intro hk h
    cases st with
    | nil => cases h
    | cons w0 st1 =>
      cases w0 with
      | int z =>
        simp only [rc_sE] at h
        cases hc : (Nat.beq (rc_lay S.2.2).1 4 && (Nat.beq (rc_lay S.2.2).2.1 a && (decide (z = nI (rc_lay S.2.2).2.2) && (Nat.ble (S.2.2 + 1) (na0 + rc_mc mi) && (rc_okl S.2.2 ls && rc_okl S.2.2 st1))))) with
        | false => rw [hc] at h; cases h
        | true =>
          rw [hc] at h
          cases h
          simp only [Bool.and_eq_true, decide_eq_true_eq] at hc
          obtain ⟨c1, c2, rfl, c3, c4, c5⟩ := hc
          have e1 := Nat.eq_of_beq_eq_true c1
          have e2 := Nat.eq_of_beq_eq_true c2
          have hlim := Nat.le_of_ble_eq_true c3
          have htot : rc_tot (S.2.2 + 1) = rc_tot S.2.2 + rc_size S.2.2 := rfl
          have hmon := rc_tot_le hlim
          have hmon2 := rc_tot_le hna.1
          obtain ⟨z1, z2⟩ := rc_nI_clamp_lay S.2.2
          have z3 := rc_lay_n S.2.2
          simp only [rc_kE] at hk
          split at hk
          · rename_i ix
            simp only [Bool.and_eq_true, decide_eq_true_eq, Bool.not_eq_true', Bool.not_eq_eq_eq_not, Bool.not_true] at hk
            obtain ⟨rfl, rfl, hw⟩ := hk
            have hsz := rc_size_a (k := S.2.2) (by rw [e1]; decide)
            cases hq : vwCl[a]? with
            | none => rw [hq] at hw; cases hw
            | some q =>
              rw [hq] at hw
              simp only [Bool.and_eq_true, decide_eq_true_eq] at hw
              have hov : va_AO q.1 s := by
                rcases hw.2 with z | z <;> subst z <;> cases hq
                · exact hO.1
                · exact hO.2
              refine va_newq (C := q.1) hx hb hown (hts _ (rc_has_in hw.1)) hov hK hP hD hS hA z2 z1 (by omega) (by omega) (by omega) hd (fun q5 cA H1 k1 p1 d1 s1 => ?_)
              have hcA : cA = cy (4 + a) := by
                have r1 := (k1.2 5 (cA, .object q.1) rfl).2
                obtain ⟨kA, comp, g1, g2, g3, g4⟩ := r1
                rcases hw.2 with z | z <;> subst z <;> cases hq
                · obtain ⟨kB, cmp, g5, g6, g7, g8⟩ := (hK.2 3 (cy 10, .object RX6) rfl).2
                  exact Option.some.inj (g4.symm.trans g8)
                · obtain ⟨kB, cmp, g5, g6, g7, g8⟩ := (hK.2 4 (cy 5, .object RX1) rfl).2
                  exact Option.some.inj (g4.symm.trans g8)
              subst hcA
              have hcell : ∀ ad2 : Nat → Nat, rc_cell cy ad2 (rc_up S.1 S.2.2 (fun _ => 0)) (rc_ur S.2.1 S.2.2 (fun _ => none)) S.2.2 = .inl (cy (4 + a), (rc_lay S.2.2).2.2, .inr (.inr (.inr (.inr (fun _ => none))))) := fun ad2 => by rw [rc_cell_q e1, rc_ur_s, e2]; rfl
              have hea : ∀ k, k < S.2.2 → (fun k => if k = S.2.2 then q5 else ad k) k = ad k := fun k hk => by simp [Nat.ne_of_lt hk]
              have hbd' : ∀ k j q, (rc_ur S.2.1 S.2.2 (fun _ => none)) k j = some q → q < S.2.2 + 1 := fun k j q hq => by
                    by_cases hk9 : k = S.2.2
                    · subst hk9; rw [rc_ur_s] at hq; cases hq
                    · rw [rc_ur_n _ _ hk9] at hq; exact Nat.lt_succ_of_lt (hbd k j q hq)
              have ew := rc_ws_push (cy := cy) (ad := ad) (ad' := (fun k => if k = S.2.2 then q5 else ad k)) (S := S) (S' := (rc_up S.1 S.2.2 (fun _ => 0), rc_ur S.2.1 S.2.2 (fun _ => none), S.2.2 + 1)) (q := q5) (e := _) hna.2 rfl (fun k' hk' => rc_up_n _ _ hk') (fun k' hk' => rc_ur_n _ _ hk') hbd hea (by simp) rfl
              rw [hcell] at ew
              rw [ew] at p1 d1
              have e7 := rc_okl_map S.2.2 ad (fun k => if k = S.2.2 then q5 else ad k) st1 c5 hea
              have kk2 := kk (fun k => if k = S.2.2 then q5 else ad k) H1 locs (S.2.2 - na0 + 1) (rc_tot S.2.2 - rc_tot na0 + rc_size S.2.2) hea hbd' (Nat.le_succ _) (fun z => absurd z (Nat.succ_ne_self _)) hlim (fun k hk => rc_up_n _ _ (by omega)) (hL.move c4 hea) (by show _ = S.2.2 + 1 - na0; omega) (by show _ = rc_tot (S.2.2 + 1) - rc_tot na0; omega) p1 d1 s1
              rw [List.map_cons, e7] at kk2
              have e8 : rc_shv (fun k => if k = S.2.2 then q5 else ad k) (.ref S.2.2) = .ref q5 := by simp [rc_shv]
              rw [e8] at kk2
              rw [← hsz]
              exact kk2
          · cases hk
      | _ => cases h
  | 3 =>
    intro hk h
    cases st with
    | nil => cases h
    | cons w0 su1 =>
      cases w0 with
      | ref q0 =>
        cases su1 with
        | nil => cases h
        | cons w1 st1 =>
          cases w1 with
          | ref k =>
            simp only [rc_sE] at h
            cases hc : (rc_okO k a S.2.2 && Nat.ble (q0 + 1) S.2.2) with
            | false => rw [hc] at h; cases h
            | true =>
              rw [hc] at h
              cases h
              rw [Bool.and_eq_true] at hc
              obtain ⟨e1, e2, e3, h2⟩ := rc_okO_s hc.1
              have hq0 := Nat.le_of_ble_eq_true hc.2
              simp only [rc_kE] at hk
              split at hk
              · rename_i ix
                simp only [Bool.and_eq_true, decide_eq_true_eq, Bool.not_eq_true', Bool.not_eq_eq_eq_not, Bool.not_true] at hk
                obtain ⟨rfl, rfl, hr, hf, hdc, hni, hf2⟩ := hk
                obtain ⟨q, hq, hN, hbN, hw⟩ := rc_kF_s hf2
                rw [rc_fin_s hq] at hf
                rw [rc_decl_s hq] at hdc
                have hnr : ∀ v : Nat, narrow (rc_fty a b) (.ref v) = .ref v := fun v => by cases rc_fty a b <;> rfl
                have hft : ∀ v : Nat, fits (rc_fty a b) (.ref v) = true := fun v => by
                  unfold rc_isRf at hr
                  split at hr
                  · rename_i x9 e9; rw [e9]; rfl
                  · rename_i x9 e9; rw [e9]; rfl
                  · cases hr
                refine va_putF (C := q.1) (T := q.2.1) (N := q.2.2) hx hb hts (hin a q hq) (rc_fty a) (rc_fts a q hq) (rc_nm a q hq) hown hK hP hD hS (k - 2) (by rw [rc_ws_at h2 e3, rc_cell_o e1 e2]) hq b hbN (hts _ (rc_has_in hw)) (fun _ z => z) hf (hin2 hni) hdc (ty := rc_fty a b) (v := .ref (ad q0)) (rc_fts a q hq b hbN) (hnr _) (hft _) (by rw [List.length_map, List.length_range, hN]; exact hbN) hd (fun H1 locs1 p1 d1 s1 => ?_)
                have ew := rc_ws_set (cy := cy) (ad := ad) (S := S) (S' := (S.1, rc_ur S.2.1 k (fun j => if j = b then some q0 else S.2.1 k j), S.2.2)) h2 e3 rfl (fun _ _ => rfl) (fun k' hk' => rc_ur_n _ _ hk')
                rw [rc_cell_o e1 e2, ← rc_fs_setr (by rw [hN]; exact hbN) hr] at ew
                rw [ew] at p1 d1
                have hbd' : ∀ k1 j1 q1, (rc_ur S.2.1 k (fun j => if j = b then some q0 else S.2.1 k j)) k1 j1 = some q1 → q1 < S.2.2 := by
                  intro k1 j1 q1 hq1
                  by_cases hk9 : k1 = k
                  · subst hk9
                    rw [rc_ur_s] at hq1
                    split at hq1
                    · cases hq1; exact hq0
                    · exact hbd _ _ _ hq1
                  · rw [rc_ur_n _ _ hk9] at hq1; exact hbd _ _ _ hq1
                exact kk ad H1 locs1 _ _ (fun _ _ => rfl) hbd' (Nat.le_refl _) (fun _ => rfl) hlm (fun _ _ => rfl) hL rfl rfl p1 d1 s1
              · cases hk
          | _ => cases h
      | _ => cases h
  | 4 =>
    intro hk h
    cases st with
    | nil => cases h
    | cons w0 su1 =>
      cases w0 with
      | ref q0 =>
        cases su1 with
        | nil => cases h
        | cons w1 su2 =>
          cases w1 with
          | int j =>
            cases su2 with
            | nil => cases h
            | cons w2 st1 =>
              cases w2 with
              | ref k =>
                simp only [rc_sE] at h
                cases hc : (rc_okA k 4 S.2.2 && (rc_inb j (rc_lay k).2.2 && rc_okO q0 (rc_lay k).2.1 S.2.2)) with
                | false => rw [hc] at h; cases h
                | true =>
                  rw [hc] at h
                  cases h
                  rw [Bool.and_eq_true, Bool.and_eq_true] at hc
                  obtain ⟨e1, e3⟩ := rc_okA_s hc.1
                  have e4 := rc_inb_iff.mp hc.2.1
                  obtain ⟨f1, f2, hq0, f4⟩ := rc_okO_s hc.2.2
                  have h2 : 2 ≤ k := rc_lay_2 (by rw [e1]; decide) (by rw [e1]; decide)
                  simp only [rc_kE] at hk
                  split at hk
                  · skip
                    simp only [Bool.and_eq_true, decide_eq_true_eq, Bool.not_eq_true', Bool.not_eq_eq_eq_not, Bool.not_true] at hk
                    obtain ⟨rfl, rfl⟩ := hk
                    have ew := rc_ws_set (cy := cy) (ad := ad) (S := S) (S' := (S.1, rc_ur S.2.1 k (fun j9 => if j9 = j.toNatClampNeg then some q0 else S.2.1 k j9), S.2.2)) h2 e3 rfl (fun _ _ => rfl) (fun k' hk' => rc_ur_n _ _ hk')
                    rw [rc_cell_q e1] at ew; dsimp only at ew; rw [rc_ur_s] at ew
                    have hfu : (fun j2 => ((fun j1 => if j1 = j.toNatClampNeg then some q0 else S.2.1 k j1) j2).map ad) = va_up (fun j1 => (S.2.1 k j1).map ad) j.toNatClampNeg (some (ad q0)) := by
                      funext j2
                      unfold va_up
                      by_cases hj : j2 = j.toNatClampNeg
                      · simp [hj]
                      · simp [hj]
                    rw [hfu] at ew
                    have hwk := rc_ws_at (cy := cy) (ad := ad) h2 e3
                    rw [rc_cell_q e1] at hwk
                    have hwq := rc_ws_at (cy := cy) (ad := ad) f4 hq0
                    rw [rc_cell_o f1 f2] at hwq
                    have hbd' : ∀ k1 j1 q1, (rc_ur S.2.1 k (fun j9 => if j9 = j.toNatClampNeg then some q0 else S.2.1 k j9)) k1 j1 = some q1 → q1 < S.2.2 := by
                      intro k1 j1 q1 hq1
                      by_cases hk9 : k1 = k
                      · subst hk9
                        rw [rc_ur_s] at hq1
                        split at hq1
                        · cases hq1; exact hq0
                        · exact hbd _ _ _ hq1
                      · rw [rc_ur_n _ _ hk9] at hq1; exact hbd _ _ _ hq1
                    rcases rc_lay_4 k e1 with z | z
                    · rw [z] at hwk ew hwq
                      exact va_astq hx hb hK hP hD hS (k - 2) 3 (q0 - 2) 6 (r := (RX6, TX6, 6)) hwk rfl hwq rfl e4 hd (fun H1 locs1 p1 d1 s1 => by rw [ew] at p1 d1; exact kk ad H1 locs1 _ _ (fun _ _ => rfl) hbd' (Nat.le_refl _) (fun _ => rfl) hlm (fun _ _ => rfl) hL rfl rfl p1 d1 s1)
                    · rw [z] at hwk ew hwq
                      exact va_astq hx hb hK hP hD hS (k - 2) 4 (q0 - 2) 1 (r := (RX1, TX1, 6)) hwk rfl hwq rfl e4 hd (fun H1 locs1 p1 d1 s1 => by rw [ew] at p1 d1; exact kk ad H1 locs1 _ _ (fun _ _ => rfl) hbd' (Nat.le_refl _) (fun _ => rfl) hlm (fun _ _ => rfl) hL rfl rfl p1 d1 s1)
                  · cases hk
              | _ => cases h
          | _ => cases h
      | _ => cases h
  | 5 =>
    intro hk h
    cases st with
    | nil => cases h
    | cons w0 su1 =>
      cases w0 with
      | int x =>
        cases su1 with
        | nil => cases h
        | cons w1 su2 =>
          cases w1 with
          | int j =>
            cases su2 with
            | nil => cases h
            | cons w2 st1 =>
              cases w2 with
              | ref k =>
                simp only [rc_sE] at h
                cases hc : (rc_okA k 2 S.2.2 && (rc_inb j (rc_lay k).2.2 && decide (narrow .char (.int x) = .int x))) with
                | false => rw [hc] at h; cases h
                | true =>
                  rw [hc] at h
                  cases h
                  rw [Bool.and_eq_true, Bool.and_eq_true, decide_eq_true_eq] at hc
                  obtain ⟨e1, e3⟩ := rc_okA_s hc.1
                  have e4 := rc_inb_iff.mp hc.2.1
                  have h2 : 2 ≤ k := rc_lay_2 (by rw [e1]; decide) (by rw [e1]; decide)
                  simp only [rc_kE] at hk
                  split at hk
                  · skip
                    simp only [Bool.and_eq_true, decide_eq_true_eq, Bool.not_eq_true', Bool.not_eq_eq_eq_not, Bool.not_true] at hk
                    obtain ⟨rfl, rfl⟩ := hk
                    refine va_cast hx hb hK hP hD hS (k - 2) 1 (n := (rc_lay k).2.2) (f := S.1 k) (by rw [rc_ws_at h2 e3, rc_cell_a e1 (by decide) (by decide)]) rfl e4 hd (fun H1 locs1 p1 d1 s1 => ?_)
                    rw [rc_vnC hc.2.2] at p1 d1
                    have ew := rc_ws_set (cy := cy) (ad := ad) (S := S) (S' := (rc_up S.1 k (upd (S.1 k) j.toNatClampNeg x), S.2.1, S.2.2)) h2 e3 rfl (fun k' hk' => rc_up_n _ _ hk') (fun _ _ => rfl)
                    rw [rc_cell_a e1 (by decide) (by decide)] at ew; dsimp only at ew; rw [rc_up_s] at ew
                    rw [ew] at p1 d1
                    exact kk ad H1 locs1 _ _ (fun _ _ => rfl) hbd (Nat.le_refl _) (fun _ => rfl) hlm (fun k9 hk9 => rc_up_n _ _ (Nat.ne_of_lt (Nat.lt_of_lt_of_le hk9 h2))) hL rfl rfl p1 d1 s1
                  · cases hk
              | _ => cases h
          | _ => cases h
      | _ => cases h
  | k + 6 => intro hk h; cases h
end RSE
