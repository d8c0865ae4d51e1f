theorem rc_dec {mi pc hd g o n a b : Nat} {v : Int32} (h : rc_ok1 mi pc = true) (hic : rc_ic mi pc = (hd, g, o, n, a, b, v)) (hg : g < 9) : ∃ (i : Instr) (len : Nat), decode (rc_code mi) pc = .ok (i, len) ∧ rc_kI mi pc i len = true := by
  unfold rc_ok1 at h
  rw [hic] at h
  have e : Nat.ble 9 g = false := by
    cases hb : Nat.ble 9 g with
    | false => rfl
    | true =>
      have := Nat.le_of_ble_eq_true hb
      omega
  rw [e] at h
  dsimp only [cond] at h
  cases hd2 : decode (rc_code mi) pc with
  | error z => rw [hd2] at h; cases h
  | ok z =>
    obtain ⟨i, len⟩ := z
    rw [hd2] at h
    exact ⟨i, len, rfl, h⟩
theorem rc_At.X {dC : Nat → ClassId} {dI : Nat → Nat → Nat} {cy : Nat → ClassId} {A : Nat → Prop} {wA bA : Nat} {μ : rc_M} {ad0 : Nat → Nat} {mi na0 : Nat} {s : State} {ad : Nat → Nat} {S : rc_S} {H : Heap} {locs : List Loc} (h : rc_At dC dI cy A wA bA μ ad0 mi na0 s ad S H locs) : S.1 0 = μ 0 ∧ S.1 1 = μ 1 := ⟨h.2.2.2.2.2.2.1 0 (by decide), h.2.2.2.2.2.2.1 1 (by decide)⟩
/-- what holds of the whole program, by computation -/
def rc_Ok (l : Launch) (A : Nat → Prop) (Zk : State → Heap → Prop) : Prop :=
  (∀ mi pc, rc_ok1 mi pc = true) ∧ (∀ (ci : Nat) (q : vw_C), vwCl[ci]? = some q → ∀ w ∈ u_ws q.1 q.2.1 q.2.2, w ∈ rc_wsG) ∧ (Cond.instanceMethod objectInit ∈ rc_wsG ∧ Cond.code objectInit ⟨#[0xb1]⟩ 1 none ∈ rc_wsG) ∧ (Cond.native arraycopyName ∈ rc_wsG ∧ Cond.static arraycopyName ∈ rc_wsG ∧ Cond.initialized "java/lang/System" ∈ rc_wsG) ∧ 8 + (nativeFrameWords "java/lang/System" "arraycopy" 5 + 11) ≤ 700 ∧ rc_ZC A Zk ∧ ((Cond.static Lib.Math.min.name ∈ rc_wsG ∧ Cond.code Lib.Math.min.name Lib.Math.min.code 2 (some .int) ∈ rc_wsG) ∧ (Cond.static Lib.Math.max.name ∈ rc_wsG ∧ Cond.code Lib.Math.max.name Lib.Math.max.code 2 (some .int) ∈ rc_wsG) ∧ Cond.initialized "java/lang/Math" ∈ rc_wsG) ∧
  (∀ x : Int32, Met l (rc_y 44) (rc_wm 44) { frames := 10, cells := 0, slots := 0, locals := 600 } (fun v U => v = #[.int x] ∧ Zk U U.heap) (fun _ st o t => o = .returned (some (.int (rc_kd x))) ∧ t.heap = st.heap) 0 0 (fun _ => False))
theorem rc_swt_in {w : Nat × List Nat × Nat} {x : Int32} : (x.toInt < (w.1 : Int) ∨ (w.1 : Int) + (w.2.1.length : Int) ≤ x.toInt) ∧ rc_swt w x = w.2.2 ∨ (¬ x.toInt < (w.1 : Int) ∧ ∃ t, w.2.1[(x.toInt - (w.1 : Int)).toNat]? = some t ∧ rc_swt w x = t) := by
  unfold rc_swt
  by_cases c : x.toInt < (w.1 : Int)
  · rw [if_pos c]; exact Or.inl ⟨Or.inl c, rfl⟩
  · rw [if_neg c]
    cases ht : w.2.1[(x.toInt - (w.1 : Int)).toNat]? with
    | none =>
      have hl : w.2.1.length ≤ (x.toInt - (w.1 : Int)).toNat := List.getElem?_eq_none_iff.mp ht
      exact Or.inl ⟨Or.inr (by omega), rfl⟩
    | some t => exact Or.inr ⟨c, t, rfl, rfl⟩
set_option maxHeartbeats 8000000 in
theorem rc_snd_succ {l : Launch} {dC : Nat → ClassId} {dI : Nat → Nat → Nat} {cy : Nat → ClassId} {A : Nat → Prop} {wA bA : Nat} {Zk : State → Heap → Prop} (hok : rc_Ok l A Zk) {f : Nat} (IH : rc_Snd l dC dI cy A wA bA Zk f) : rc_Snd l dC dI cy A wA bA Zk (f + 1) := by
  obtain ⟨hok1, hin, hoi, hac, hnf, hzc, ⟨hmn, hmx, hmi⟩, hKd⟩ := hok
  intro d mi na0 pc ls st S S' r h p e R s m args below meth c Q μ ad0 ad H locs ls0 hC hA hL hret
  obtain ⟨hx, hb, hml, hown, hts, hTB, hnm, hAq, ⟨hRc, hRs, hRf, hRl⟩, hμ, hX⟩ := id hC
  obtain ⟨hP, hD, hS, hbd, ⟨hn1, hn2, hn3⟩, hlm, hkp, had, hadm, ha0, ha1⟩ := id hA
  obtain ⟨hK, hnest, hO, hZ, hT, hZk⟩ := id hTB
  rw [rc_run] at h
  rcases hic : rc_ic mi pc with ⟨hd, g, o, n, a, b, v⟩
  have hok2 := hok1 mi pc
  unfold rc_next at h
  rw [hic] at h
  have hkI : ∀ i len, rc_kI mi pc i len = rc_kI mi pc i len := fun _ _ => rfl
  clear hkI
  have hdc := fun hg => rc_dec hok2 hic hg
  clear hok2
  revert h hdc hic
  match g with
  | 0 =>
    intro h hic hdc
    obtain ⟨i, len, hdec, hk⟩ := hdc (by decide)
    unfold rc_kI at hk
    rw [hic] at hk
    simp only at hk h
    cases hs : rc_sA o n a v ls st with
    | none => rw [hs] at h; cases h
    | some z =>
      obtain ⟨n', ls', st'⟩ := z
      rw [hs] at h
      simp only at h
      exact rc_A hx hb hml hown hts hnest (by rw [ha0]; exact hZ) hS hoi (by omega) (by omega) hL hdec hk hs (fun ls1 hL1 => IH d mi na0 n' ls' st' S S' r h p e R s m args below meth c Q μ ad0 ad H locs ls1 hC hA hL1 hret)
  | 1 =>
    intro h hic hdc
    obtain ⟨i, len, hdec, hk⟩ := hdc (by decide)
    unfold rc_kI at hk
    rw [hic] at hk
    simp only at hk h
    cases hs : rc_sB o st with
    | none => rw [hs] at h; cases h
    | some z =>
      obtain ⟨t, st'⟩ := z
      rw [hs] at h
      simp only at h
      exact rc_Bs hx hb hdec hk hs (IH d mi na0 _ ls st' S S' r h p e R s m args below meth c Q μ ad0 ad H locs ls0 hC hA hL hret)
  | 2 =>
    intro h hic hdc
    obtain ⟨i, len, hdec, hk⟩ := hdc (by decide)
    unfold rc_kI at hk
    rw [hic] at hk
    simp only at hk h
    cases hs : rc_sC o a b st S with
    | none => rw [hs] at h; cases h
    | some st' =>
      rw [hs] at h
      simp only at h
      exact rc_Cs hx hb hown hts hin hK hP hS (by rw [ha0, hA.X.1, hμ]; exact hT) (fun z => by rw [ha1, hA.X.2]; exact hX z) hdec hk hs (IH d mi na0 n ls st' S S' r h p e R s m args below meth c Q μ ad0 ad H locs ls0 hC hA hL hret)
  | 3 =>
    intro h hic hdc
    obtain ⟨i, len, hdec, hk⟩ := hdc (by decide)
    unfold rc_kI at hk
    rw [hic] at hk
    simp only at hk h
    cases hs : rc_sD o a b st S with
    | none => rw [hs] at h; cases h
    | some z =>
      obtain ⟨st', σ'⟩ := z
      rw [hs] at h
      simp only at h
      exact rc_Ds hx hb hown hts hin hK hP hD hS hml hL.1.1 hac (by omega) (by omega) hdec hk hs (fun H1 locs1 p1 d1 s1 => IH d mi na0 n ls st' (σ', S.2.1, S.2.2) S' r h p e R s m args below meth c Q μ ad0 ad H1 locs1 ls0 hC ⟨p1, d1, s1, hbd, ⟨hn1, hn2, hn3⟩, hlm, fun k hk => (rc_sD_keep hs k hk).trans (hkp k hk), had, hadm, ha0, ha1⟩ hL hret)
  | 4 =>
    intro h hic hdc
    obtain ⟨i, len, hdec, hk⟩ := hdc (by decide)
    unfold rc_kI at hk
    rw [hic] at hk
    simp only at hk h
    cases hs : rc_sE o a b (na0 + rc_mc mi) ls st S with
    | none => rw [hs] at h; cases h
    | some z =>
      obtain ⟨st', S1⟩ := z
      rw [hs] at h
      simp only at h
      exact rc_Es hx hb hown hts hin hK hP hD hS hnm hAq hO hbd ⟨hn1, hn2⟩ hlm ⟨rfl, rfl⟩ hRc hRs hL hdec hk hs (fun ad' H1 locs1 c1 s1 q1 q2 q3 q4 q5 q6 q7 q8 q9 q10 q11 q12 => by
        subst q8; subst q9
        exact IH d mi na0 n ls st' S1 S' r h p e R s m args below meth c Q μ ad0 ad' H1 locs1 ls0 hC ⟨q10, q11, q12, q2, ⟨by omega, by omega, hn3⟩, q5, fun k hk => (q6 k hk).trans (hkp k hk), fun k hk => (q1 k (by omega)).trans (had k hk), fun z => (q4 (by omega)).trans (hadm z), (q1 0 (by omega)).trans ha0, (q1 1 (by omega)).trans ha1⟩ q7 hret)
  | 5 =>
    intro h hic hdc
    obtain ⟨i, len, hdec, hk⟩ := hdc (by decide)
    unfold rc_kI at hk
    rw [hic] at hk
    simp only at hk h
    cases st with
    | nil => cases h
    | cons w0 st1 =>
      cases w0 with
      | int x =>
        simp only at h
        have kk := IH d mi na0 (rc_swt (rc_sw mi pc) x) ls st1 S S' r h p e R s m args below meth c Q μ ad0 ad H locs ls0 hC hA hL hret
        unfold rc_k5 at hk
        split at hk
        · rename_i dflt lo hi offs
          simp only [Bool.and_eq_true, decide_eq_true_eq] at hk
          obtain ⟨hlo, hhi, hoffs, hdf⟩ := hk
          subst hlo
          rcases rc_swt_in (w := rc_sw mi pc) (x := x) with ⟨c1, c2⟩ | ⟨c1, t, c2, c3⟩
          · rw [c2] at kk
            exact lv_tableOut hx hb hdec (by rcases c1 with q | q; exact Or.inl q; exact Or.inr (by omega)) hdf kk
          · rw [c3] at kk
            have hlt := (List.getElem?_eq_some_iff.mp c2).1
            have hmm : ((rc_sw mi pc).2.1.map (fun (t : Nat) => (t : Int)))[(x.toInt - ((rc_sw mi pc).1 : Int)).toNat]? = some (t : Int) := by rw [List.getElem?_map, c2]; rfl
            rw [← hoffs, List.getElem?_map] at hmm
            cases hof : offs.toList[(x.toInt - ((rc_sw mi pc).1 : Int)).toNat]? with
            | none => rw [hof] at hmm; cases hmm
            | some off =>
              rw [hof] at hmm
              have htt : (pc : Int) + off = (t : Int) := Option.some.inj hmm
              rw [Array.getElem?_toList] at hof
              exact lv_tableIn hx hb hdec c1 (by omega) hof htt kk
        · cases hk
      | _ => cases h
  | 6 =>
    intro h hic hdc
    obtain ⟨i, len, hdec, hk⟩ := hdc (by decide)
    unfold rc_kI at hk
    rw [hic] at hk
    simp only at hk h
    cases hs : rc_split (rc_nA a) [] st with
    | none => rw [hs] at h; cases h
    | some z =>
      obtain ⟨argsL, rest⟩ := z
      rw [hs] at h
      simp only at h
      cases hcnd : (Nat.ble (rc_wk rest) 8 && (rc_okc argsL && (rc_rcv o a S.2.2 argsL && (Nat.ble (S.2.2 + rc_mc a) (na0 + rc_mc mi) && (Nat.beq (rc_mc a) 0 || (rc_okl S.2.2 ls && rc_okl S.2.2 rest)))))) with
      | false => rw [hcnd] at h; cases h
      | true =>
        rw [hcnd] at h
        simp only [cond] at h
        simp only [Bool.and_eq_true, Bool.or_eq_true] at hcnd
        obtain ⟨c1, c2, c3, c4, c5⟩ := hcnd
        cases d with
        | zero => cases h
        | succ d =>
          simp only at h
          cases hrun : rc_run f d a S.2.2 0 (rc_pad (rc_mx a) argsL) [] S with
          | none => rw [hrun] at h; cases h
          | some z =>
            obtain ⟨r1, S1⟩ := z
            rw [hrun] at h
            simp only at h
            have h8 := Nat.le_of_ble_eq_true c1
            have hlim := Nat.le_of_ble_eq_true c4
            obtain ⟨top, t1, t2, t3⟩ := rc_split_s _ _ _ _ _ hs
            rw [List.append_nil] at t3
            have hlen : argsL.length = rc_nA a := by rw [t3, List.length_reverse]; exact t1
            have hmon := rc_tot_le hlim
            have hmon2 := rc_tot_le hn1
            have hmon3 := rc_tot_le (Nat.le_add_right S.2.2 (rc_mc a))
            have goOn : ∀ (hm : rc_okM a = true) (h189 : ¬ a = 189) (hn3c : n = pc + 3), va_Run p l e R s m args below meth c H locs (S.2.2 - na0) (rc_tot S.2.2 - rc_tot na0) (rc_mc a) (rc_tot (S.2.2 + rc_mc a) - rc_tot S.2.2) (F0 m pc ls0 (st.map (rc_shv ad))) (rest.map (rc_shv ad)) (rc_Qc dC dI cy A a ad S r1 S1 (argsL.map (rc_shv ad)).toArray) A → W p l e R s m args below meth c H locs (S.2.2 - na0) (rc_tot S.2.2 - rc_tot na0) Q (F0 m pc ls0 (st.map (rc_shv ad))) := by
              intro hm h189 hn3c hr
              refine rc_aftC hr hS (fun _ z => z) (fun v st₀ t H1 locs1 e1 e2 hq hl1 => ?_)
              obtain ⟨ad', q1, q2, q3, q4, q5, q6, q7, q8, q9⟩ := hq
              cases q1
              rw [e2] at q4
              have hS1 : va_S A s.heap H1 locs1 := by
                refine ⟨?_, fun x h1 h2 => ?_, hl1⟩
                · rw [← e2]
                  exact Nat.le_trans hS.1 (by rw [← e1]; exact q9.1)
                · rw [← e2, q9.2 x (by rw [e1]; exact Nat.lt_of_lt_of_le h1 hS.1) h2, e1]
                  exact hS.2.1 x h1 h2
              have hms : rest.map (rc_shv ad') = rest.map (rc_shv ad) ∧ rc_L ad' (rc_mx mi) ls ls0 := by
                rcases c5 with z | z
                · rw [q3 (Nat.eq_of_beq_eq_true z)]
                  exact ⟨rfl, hL⟩
                · exact ⟨rc_okl_map S.2.2 ad ad' rest z.2 q2, hL.move z.1 q2⟩
              have e7 : S.2.2 - na0 + rc_mc a = S1.2.2 - na0 := by omega
              have e8 : rc_tot S.2.2 - rc_tot na0 + (rc_tot (S.2.2 + rc_mc a) - rc_tot S.2.2) = rc_tot S1.2.2 - rc_tot na0 := by rw [q7]; omega
              have hA1 : rc_At dC dI cy A wA bA μ ad0 mi na0 s ad' S1 H1 locs1 := ⟨q4, q5, hS1, q6, ⟨by omega, by omega, hn3⟩, by omega, fun k hk => (q8 k hk).trans (hkp k hk), fun k hk => (q2 k (by omega)).trans (had k hk), fun z => (q3 (by omega)).trans (hadm z), (q2 0 (by omega)).trans ha0, (q2 1 (by omega)).trans ha1⟩
              have key := IH (d + 1) mi na0 n ls (r1.toList ++ rest) S1 S' r h p e R s m args below meth c Q μ ad0 ad' H1 locs1 ls0 hC hA1 hms.2 hret
              rw [e7, e8, ← hn3c]
              rw [List.map_append, hms.1] at key
              have e9 : (r1.toList).map (rc_shv ad') = (r1.map (rc_shv ad')).toList := by cases r1 <;> rfl
              rw [e9] at key
              exact key
            have hpre : FrameBlind (rc_Pc dC dI cy A wA Zk ad argsL S) ∧ ∀ U : State, U.heap = H → s.WarmedH U.vm → rc_Pc dC dI cy A wA Zk ad argsL S (argsL.map (rc_shv ad)).toArray U := by
              refine ⟨fun a1 U g1 mk q => ⟨q.1, rc_TB.same (u := U) (U := U.calling g1 mk a1) (H := U.heap) hzc rfl q.2.1, q.2.2.1, q.2.2.2.1, q.2.2.2.2⟩, fun U hU hW => ⟨rfl, ?_, by rw [hU]; exact hP, hD, fun q hq => hAq q (Nat.le_trans hS.1 (by rw [← hU]; exact hq))⟩⟩
              rw [hU]
              exact (hTB.kept hzc (fun q h1 h2 => hS.2.1 q h1 h2)).warm hzc hW
            have hgood : ∀ hm : rc_okM a = true, GoodIn rc_wsG (rc_wm a) := fun hm w hw => by
              rcases List.mem_cons.mp hw with q | q
              · subst q; exact ⟨(rc_okM_s hm).1, (rc_good _ (rc_okM_s hm).1).2⟩
              · exact rc_good w q
            have hmet := fun (hm : rc_okM a = true) (h189 : ¬ a = 189) => rc_met IH (ad := ad) (wA := wA) (bA := bA) hm h189 hrun hlen c2 hn2 hbd (hA.X.1.trans hμ) ha0 ha1
            have hroom : ∀ hm : rc_okM a = true, (rc_rm d (rc_mc a) (rc_tot (S.2.2 + rc_mc a) - rc_tot S.2.2)).frames + 1 ≤ R.frames ∧ 8 + (rc_mx a + 11) + (rc_rm d (rc_mc a) (rc_tot (S.2.2 + rc_mc a) - rc_tot S.2.2)).locals ≤ R.locals := fun hm => by
              have hq := (rc_okM_s hm).2.2.2.2.1.2.1
              show d + 12 + 1 ≤ _ ∧ 8 + (rc_mx a + 11) + (60 * d + 700) ≤ _
              omega
            have hfit : S.2.2 - na0 + rc_mc a ≤ R.cells ∧ rc_tot S.2.2 - rc_tot na0 + (rc_tot (S.2.2 + rc_mc a) - rc_tot S.2.2) ≤ R.slots := by omega
            have hWk : 2 * (F0 m pc ls0 (st.map (rc_shv ad))).monitorRoom + ((rest.map (rc_shv ad)).map fun v => v.category).sum ≤ 8 := lv_room (by rw [rc_wk_map]; exact h8)
            have h189 : ∀ hs : rc_st a = true → (rc_y a).name ≠ "law", ¬ a = 189 := fun hs z => by subst z; exact hs rfl rfl
            have hstk : st.map (rc_shv ad) = (argsL.map (rc_shv ad)).reverse ++ rest.map (rc_shv ad) := by
              rw [t2, t3, List.map_append, List.map_reverse, List.reverse_reverse]
            revert hk c3
            match o with
            | 0 =>
              intro hk c3
              simp only [rc_k6] at hk
              split at hk
              · rename_i ix
                simp only [Bool.and_eq_true, decide_eq_true_eq] at hk
                obtain ⟨rfl, hnp, hlk, hst, hm⟩ := hk
                unfold rc_okS at hst
                rw [Bool.and_eq_true] at hst
                have hn0 : ¬ a = 189 := fun z => by subst z; exact absurd hst.2 (by decide +kernel)
                have hd3 := (rc_okM_s hm).2.2.1
                rw [hst.1] at hd3
                refine goOn hm hn0 hnp (va_runS (nL := rc_mx mi) (Ts := rc_wsG) (own := rc_own mi) ⟨hx, hb, hml, hown, hts⟩ (hmet hm hn0) ⟨callB_of (rc_nA a) hts (hgood hm) rfl rfl rfl (hts _ (rc_okM_s hm).2.1) (hts _ (rc_has_in hlk)) hd3 (hroom hm), hts _ (rc_has_in hst.2)⟩ hpre rfl (by rw [List.length_map]; exact hlen) hL.1.1 hstk hWk hdec hfit)
              · cases hk
            | 1 =>
              intro hk c3
              simp only [rc_k6] at hk
              split at hk
              · rename_i ix
                simp only [Bool.and_eq_true, decide_eq_true_eq] at hk
                obtain ⟨rfl, hnp, hlk, hst, hm⟩ := hk
                unfold rc_okS at hst
                rw [Bool.and_eq_true] at hst
                have hn0 : ¬ a = 189 := fun z => by subst z; exact absurd hst.2 (by decide +kernel)
                have hd3 := (rc_okM_s hm).2.2.1
                rw [hst.1] at hd3
                refine goOn hm hn0 hnp (va_runSN (nL := rc_mx mi) (Ts := rc_wsG) (own := rc_own mi) ⟨hx, hb, hml, hown, hts⟩ (hmet hm hn0) ⟨va_cnB (rc_nA a) hts (hgood hm) rfl rfl rfl (hnest _ hlk) (hts _ (rc_okM_s hm).2.1) hd3 (hroom hm), hts _ (rc_has_in hst.2), trivial⟩ hpre rfl (by rw [List.length_map]; exact hlen) hL.1.1 hstk hWk hdec hfit)
              · cases hk
            | 2 =>
              intro hk c3
              simp only [rc_k6] at hk
              split at hk
              · rename_i ix
                simp only [Bool.and_eq_true, decide_eq_true_eq] at hk
                obtain ⟨rfl, hnp, hlk, hst, hm⟩ := hk
                unfold rc_okV rc_okI at hst
                simp only [Bool.and_eq_true, Bool.not_eq_true'] at hst
                obtain ⟨⟨hst1, hst2⟩, hst3, hst4⟩ := hst
                have hn0 : ¬ a = 189 := fun z => by subst z; cases hst1
                have hd3 := (rc_okM_s hm).2.2.1
                rw [hst1] at hd3
                cases argsL with
                | nil => cases c3
                | cons w0 As =>
                  cases w0 with
                  | ref k =>
                    obtain ⟨e1, e2, e3, h2⟩ := rc_okO_s (show rc_okO k (rc_cn a) S.2.2 = true from c3)
                    cases hq : vwCl[rc_cn a]? with
                    | none => rw [hq] at hst4; cases hst4
                    | some q =>
                      rw [hq] at hst4
                      have hqn : q.1 = (rc_y a).cls := of_decide_eq_true hst4
                      have hrcv := va_recv hK hP hq (q0 := k - 2) (by rw [rc_ws_at h2 e3, rc_cell_o e1 e2])
                      rw [hqn] at hrcv
                      have hstk2 : st.map (rc_shv ad) = (As.map (rc_shv ad)).reverse ++ .ref (ad k) :: rest.map (rc_shv ad) := by
                        rw [hstk, List.map_cons, List.reverse_cons, List.append_assoc]
                        rfl
                      have hla : (As.map (rc_shv ad)).length = rc_nA a - 1 := by
                        rw [List.length_map, ← hlen]
                        rfl
                      exact goOn hm hn0 hnp (va_runV (nL := rc_mx mi) (Ts := rc_wsG) (own := rc_own mi) (C := (rc_y a).cls) (As := As.map (rc_shv ad)) ⟨hx, hb, hml, hown, hts⟩ (hmet hm hn0) ⟨callB_of (rc_nA a - 1) hts (hgood hm) rfl rfl rfl (hts _ (rc_okM_s hm).2.1) (hts _ (rc_has_in hlk)) hd3 (hroom hm), hts _ (rc_has_in hst2), hts _ (rc_has_in hst3)⟩ ⟨hpre.1, hrcv, hpre.2⟩ rfl hla hL.1.1 hstk2 hWk hdec hfit)
                  | _ => cases c3
              · cases hk
            | 3 =>
              intro hk c3
              simp only [rc_k6] at hk
              split at hk
              · rename_i ix
                simp only [Bool.and_eq_true, decide_eq_true_eq] at hk
                obtain ⟨rfl, hnp, hlk, hst, hm⟩ := hk
                unfold rc_okV rc_okI at hst
                simp only [Bool.and_eq_true, Bool.not_eq_true'] at hst
                obtain ⟨⟨hst1, hst2⟩, hst3, hst4⟩ := hst
                have hn0 : ¬ a = 189 := fun z => by subst z; cases hst1
                have hd3 := (rc_okM_s hm).2.2.1
                rw [hst1] at hd3
                cases argsL with
                | nil => cases c3
                | cons w0 As =>
                  cases w0 with
                  | ref k =>
                    obtain ⟨e1, e2, e3, h2⟩ := rc_okO_s (show rc_okO k (rc_cn a) S.2.2 = true from c3)
                    cases hq : vwCl[rc_cn a]? with
                    | none => rw [hq] at hst4; cases hst4
                    | some q =>
                      rw [hq] at hst4
                      have hqn : q.1 = (rc_y a).cls := of_decide_eq_true hst4
                      have hrcv := va_recv hK hP hq (q0 := k - 2) (by rw [rc_ws_at h2 e3, rc_cell_o e1 e2])
                      rw [hqn] at hrcv
                      have hstk2 : st.map (rc_shv ad) = (As.map (rc_shv ad)).reverse ++ .ref (ad k) :: rest.map (rc_shv ad) := by
                        rw [hstk, List.map_cons, List.reverse_cons, List.append_assoc]
                        rfl
                      have hla : (As.map (rc_shv ad)).length = rc_nA a - 1 := by
                        rw [List.length_map, ← hlen]
                        rfl
                      exact goOn hm hn0 hnp (va_runV (nL := rc_mx mi) (Ts := rc_wsG) (own := rc_own mi) (C := (rc_y a).cls) (As := As.map (rc_shv ad)) ⟨hx, hb, hml, hown, hts⟩ (hmet hm hn0) ⟨callB_of (rc_nA a - 1) hts (hgood hm) rfl rfl rfl (hts _ (rc_okM_s hm).2.1) (hts _ (rc_has_in hlk)) hd3 (hroom hm), hts _ (rc_has_in hst2), hts _ (rc_has_in hst3)⟩ ⟨hpre.1, hrcv, hpre.2⟩ rfl hla hL.1.1 hstk2 hWk hdec hfit)
                  | _ => cases c3
              · cases hk
            | 4 =>
              intro hk c3
              simp only [rc_k6] at hk
              split at hk
              · rename_i ix
                simp only [Bool.and_eq_true, decide_eq_true_eq] at hk
                obtain ⟨rfl, hnp, hlk, hst, hm⟩ := hk
                unfold rc_okN rc_okI at hst
                simp only [Bool.and_eq_true, Bool.not_eq_true', decide_eq_true_eq] at hst
                obtain ⟨⟨hst1, hst2⟩, hst3, hst4⟩ := hst
                have hn0 : ¬ a = 189 := fun z => by subst z; cases hst1
                have hd3 := (rc_okM_s hm).2.2.1
                rw [hst1] at hd3
                have hmm := hmet hm hn0
                have hgg := hgood hm
                unfold rc_wm at hmm hgg
                rw [hst4] at hmm hgg
                cases argsL with
                | nil => cases c3
                | cons w0 As =>
                  cases w0 with
                  | ref k =>
                    have hstk2 : st.map (rc_shv ad) = (As.map (rc_shv ad)).reverse ++ .ref (ad k) :: rest.map (rc_shv ad) := by
                      rw [hstk, List.map_cons, List.reverse_cons, List.append_assoc]
                      rfl
                    have hla : (As.map (rc_shv ad)).length = rc_nA a - 1 := by
                      rw [List.length_map, ← hlen]
                      rfl
                    exact goOn hm hn0 hnp (va_runI (nL := rc_mx mi) (Ts := rc_wsG) (own := rc_own mi) (As := As.map (rc_shv ad)) ⟨hx, hb, hml, hown, hts⟩ hmm ⟨callB_of (rc_nA a - 1) hts hgg rfl rfl rfl (hts _ (rc_okM_s hm).2.1) (hts _ (rc_has_in hlk)) hd3 (hroom hm), hst3, hts _ (rc_has_in hst2)⟩ hpre rfl hla hL.1.1 hstk2 hWk hdec hfit)
                  | _ => cases c3
              · cases hk
            | 5 =>
              intro hk c3
              simp only [rc_k6] at hk
              split at hk
              · rename_i ix
                simp only [Bool.and_eq_true, decide_eq_true_eq] at hk
                obtain ⟨rfl, hnp, hlk, hst, hm⟩ := hk
                unfold rc_okN rc_okI at hst
                simp only [Bool.and_eq_true, Bool.not_eq_true', decide_eq_true_eq] at hst
                obtain ⟨⟨hst1, hst2⟩, hst3, hst4⟩ := hst
                have hn0 : ¬ a = 189 := fun z => by subst z; cases hst1
                have hd3 := (rc_okM_s hm).2.2.1
                rw [hst1] at hd3
                have hmm := hmet hm hn0
                have hgg := hgood hm
                unfold rc_wm at hmm hgg
                rw [hst4] at hmm hgg
                cases argsL with
                | nil => cases c3
                | cons w0 As =>
                  cases w0 with
                  | ref k =>
                    have hstk2 : st.map (rc_shv ad) = (As.map (rc_shv ad)).reverse ++ .ref (ad k) :: rest.map (rc_shv ad) := by
                      rw [hstk, List.map_cons, List.reverse_cons, List.append_assoc]
                      rfl
                    have hla : (As.map (rc_shv ad)).length = rc_nA a - 1 := by
                      rw [List.length_map, ← hlen]
                      rfl
                    exact goOn hm hn0 hnp (va_runIN (nL := rc_mx mi) (Ts := rc_wsG) (own := rc_own mi) (As := As.map (rc_shv ad)) ⟨hx, hb, hml, hown, hts⟩ hmm ⟨va_cnB (rc_nA a - 1) hts hgg rfl rfl rfl (hnest _ hlk) (hts _ (rc_okM_s hm).2.1) hd3 (hroom hm), hst3, hts _ (rc_has_in hst2)⟩ hpre rfl hla hL.1.1 hstk2 hWk hdec hfit)
                  | _ => cases c3
              · cases hk
            | k + 6 => intro hk c3; cases c3
  | 7 =>
    intro h hic hdc
    obtain ⟨i, len, hdec, hk⟩ := hdc (by decide)
    unfold rc_kI at hk
    rw [hic] at hk
    simp only at hk h
    obtain ⟨rfl, -⟩ := rc_ans_S h
    exact hret ad H locs pc ls0 st i len o hdec hk h hA
  | 8 =>
    intro h hic hdc
    obtain ⟨i, len, hdec, hk⟩ := hdc (by decide)
    unfold rc_kI at hk
    rw [hic] at hk
    simp only at hk h
    cases hs : rc_sF o st with
    | none => rw [hs] at h; cases h
    | some z =>
      obtain ⟨y0, st1⟩ := z
      rw [hs] at h
      simp only at h
      cases hc : Nat.ble (rc_wk st1) 8 with
      | false => simp only [hc, cond] at h; cases h
      | true =>
        simp only [hc, cond] at h
        have h8 := Nat.le_of_ble_eq_true hc
        have hcl : S.2.2 - na0 ≤ R.cells ∧ rc_tot S.2.2 - rc_tot na0 ≤ R.slots := by
          have := rc_tot_le hlm
          omega
        unfold rc_k8 at hk
        split at hk
        · rename_i ix
          revert hk hs
          match o with
          | 0 =>
            intro hs hk
            cases st with
            | nil => cases hs
            | cons w0 su =>
              cases w0 with
              | int x =>
                cases hs
                simp only [Bool.and_eq_true, decide_eq_true_eq] at hk
                obtain ⟨rfl, hnp, hlk, hst, hm⟩ := hk
                unfold rc_okS at hst
                rw [Bool.and_eq_true] at hst
                have hd3 := (rc_okM_s hm).2.2.1
                rw [hst.1] at hd3
                have hgood : GoodIn rc_wsG (rc_wm 44) := fun w hw => by
                  rcases List.mem_cons.mp hw with q | q
                  · subst q; exact ⟨(rc_okM_s hm).1, (rc_good _ (rc_okM_s hm).1).2⟩
                  · exact rc_good w q
                have hWk : 2 * (F0 m pc ls0 ((Value.int x :: st1).map (rc_shv ad))).monitorRoom + ((st1.map (rc_shv ad)).map fun v => v.category).sum ≤ 8 := lv_room (by rw [rc_wk_map]; exact h8)
                have hrun := va_runS (p := p) (l := l) (e := e) (R := R) (s := s) (m := m) (args := args) (below := below) (meth := meth) (c := c) (H := H) (locs := locs) (cells := S.2.2 - na0) (slots := rc_tot S.2.2 - rc_tot na0) (nL := rc_mx mi) (Ts := rc_wsG) (own := rc_own mi) (As := [.int x]) (rest := st1.map (rc_shv ad)) (g := F0 m pc ls0 ((Value.int x :: st1).map (rc_shv ad))) ⟨hx, hb, hml, hown, hts⟩ (hKd x) ⟨callB_of 1 hts hgood rfl rfl rfl (hts _ (rc_okM_s hm).2.1) (hts _ (rc_has_in hlk)) hd3 ⟨by show 10 + 1 ≤ _; omega, by show 8 + (2 + 11) + 600 ≤ _; omega⟩, hts _ (rc_has_in hst.2)⟩ ⟨fun a1 U g1 mk q => ⟨q.1, hzc.2.2 U (U.calling g1 mk a1) U.heap rfl q.2⟩, fun U hU hW => ⟨rfl, by rw [hU]; exact hzc.1 s U H hW (hzc.2.1 s s.heap H (fun q h1 h2 => hS.2.1 q h1 h2) hZk)⟩⟩ rfl rfl hL.1.1 rfl hWk hdec ⟨by omega, by have := rc_tot_le hlm; omega⟩
                refine rc_aftC hrun hS (fun _ z => z.elim) (fun v st₀ t H1 locs1 e1 e2 hq hl1 => ?_)
                obtain ⟨q1, q2⟩ := hq
                cases q1
                have e3 : H1 = H := by rw [← e2, q2, e1]
                subst e3
                subst hnp
                exact IH d mi na0 (pc + 3) ls (.int (rc_kd x) :: st1) S S' r h p e R s m args below meth c Q μ ad0 ad H1 locs1 ls0 hC ⟨hP, hD, ⟨hS.1, hS.2.1, hl1⟩, hbd, ⟨hn1, hn2, hn3⟩, hlm, hkp, had, hadm, ha0, ha1⟩ hL hret
              | _ => cases hs
          | 1 =>
            intro hs hk
            cases st with
            | nil => cases hs
            | cons w0 su =>
              cases w0 with
              | int y =>
                cases su with
                | nil => cases hs
                | cons w1 su =>
                  cases w1 with
                  | int x =>
                    cases hs
                    simp only [Bool.and_eq_true, decide_eq_true_eq] at hk
                    obtain ⟨rfl, hnp, hlk⟩ := hk
                    subst hnp
                    exact va_mmin hx hb (hml.trans hL.1.1.symm) hown (hts _ (rc_has_in hlk)) (hts _ hmn.1) (hts _ hmi) (hts _ hmn.2) (by omega) (by rw [rc_wk_map]; omega) hcl.1 hcl.2 hdec (IH d mi na0 (pc + 3) ls _ S S' r h p e R s m args below meth c Q μ ad0 ad H locs ls0 hC hA hL hret)
                  | _ => cases hs
              | _ => cases hs
          | 2 =>
            intro hs hk
            cases st with
            | nil => cases hs
            | cons w0 su =>
              cases w0 with
              | int y =>
                cases su with
                | nil => cases hs
                | cons w1 su =>
                  cases w1 with
                  | int x =>
                    cases hs
                    simp only [Bool.and_eq_true, decide_eq_true_eq] at hk
                    obtain ⟨rfl, hnp, hlk⟩ := hk
                    subst hnp
                    exact va_mmax hx hb (hml.trans hL.1.1.symm) hown (hts _ (rc_has_in hlk)) (hts _ hmx.1) (hts _ hmi) (hts _ hmx.2) (by omega) (by rw [rc_wk_map]; omega) hcl.1 hcl.2 hdec (IH d mi na0 (pc + 3) ls _ S S' r h p e R s m args below meth c Q μ ad0 ad H locs ls0 hC hA hL hret)
                  | _ => cases hs
              | _ => cases hs
          | k + 3 => intro hs hk; cases hs
        · cases hk
  | k + 9 => intro h hic hdc; cases h
theorem rc_snd {l : Launch} {dC : Nat → ClassId} {dI : Nat → Nat → Nat} {cy : Nat → ClassId} {A : Nat → Prop} {wA bA : Nat} {Zk : State → Heap → Prop} (hok : rc_Ok l A Zk) : ∀ f, rc_Snd l dC dI cy A wA bA Zk f := by
  intro f
  induction f with
  | zero => intro d mi na0 pc ls st S S' r h; cases h
  | succ f ih => exact rc_snd_succ hok ih
