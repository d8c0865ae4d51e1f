theorem rc_up_s (σ : rc_M) (k : Nat) (f : Nat → Int32) : rc_up σ k f k = f := by simp [rc_up]
theorem rc_up_n (σ : rc_M) {k k' : Nat} (f : Nat → Int32) (h : k' ≠ k) : rc_up σ k f k' = σ k' := by simp [rc_up, h]
theorem rc_ur_s (ρ : rc_F) (k : Nat) (f : Nat → Option Nat) : rc_ur ρ k f k = f := by simp [rc_ur]
theorem rc_ur_n (ρ : rc_F) {k k' : Nat} (f : Nat → Option Nat) (h : k' ≠ k) : rc_ur ρ k f k' = ρ k' := by simp [rc_ur, h]
theorem rc_fin_s {a b : Nat} {q : vw_C} (hq : vwCl[a]? = some q) : rc_fin a b = (q.2.1 b).2.2.2 := by unfold rc_fin; rw [hq]
theorem rc_decl_s {a b : Nat} {q : vw_C} (hq : vwCl[a]? = some q) : rc_decl a b = (q.2.1 b).1 := by unfold rc_decl; rw [hq]
theorem rc_bool {x : Int32} (h : (decide (x = 0) || decide (x = 1)) = true) : x = 0 ∨ x = 1 := by simpa using h
theorem rc_narZ {x : Int32} (h : x = 0 ∨ x = 1) : narrow .boolean (.int x) = .int x ∧ fits .boolean (.int x) = true := by
  rcases h with rfl | rfl <;> exact ⟨rfl, rfl⟩
theorem rc_vnZ {x : Int32} (h : x = 0 ∨ x = 1) : vp_nar .boolean x = x := by
  rcases h with rfl | rfl <;> rfl
theorem rc_vnC {x : Int32} (h : narrow .char (.int x) = .int x) : vp_nar .char x = x := by
  unfold vp_nar
  rw [h]
section RSD
variable {p : Program} {l : Launch} {e : Env} {R : Room} {s : State} {m : MethodId} {args : Array Value} {below : List Frame} {meth : Method} {c : Code} {H : Heap} {locs : List Loc} {cells slots : Nat} {Q : State → Prop}
variable {dC : Nat → ClassId} {dI : Nat → Nat → Nat} {cy : Nat → ClassId} {ad : Nat → Nat} {A : Nat → Prop} {mi pc n a b o len : Nat} {v : Int32} {ls st : List Value} {S : rc_S} {ls0 : Array Slot} {i : Instr}
set_option maxHeartbeats 4000000 in
theorem rc_Ds {st' : List Value} {σ' : rc_M} (hx : p.tables.exec = Jvm.exec) (hb : c.code = rc_code mi) (hown : s.vm.findClass (rc_own mi) = some m.cls) (hts : ∀ w ∈ rc_wsG, w.before args s = true) (hin : ∀ (ci : Nat) (q : vw_C), vwCl[ci]? = some q → ∀ w ∈ u_ws q.1 q.2.1 q.2.2, w ∈ rc_wsG) (hK : va_K (dC, dI) vwCl (rc_tys cy) s) (hP : va_P (dC, dI) vwCl (rc_ws cy ad S) H) (hD : va_D A (rc_ws cy ad S)) (hS : va_S A s.heap H locs) (hml : c.maxLocals = rc_mx mi) (hls : ls0.size = rc_mx mi) (hac : Cond.native arraycopyName ∈ rc_wsG ∧ Cond.static arraycopyName ∈ rc_wsG ∧ Cond.initialized "java/lang/System" ∈ rc_wsG) (hRf : 1 ≤ R.frames) (hRl : 8 + (nativeFrameWords "java/lang/System" "arraycopy" 5 + 11) ≤ R.locals)
    (hd : decode (rc_code mi) pc = .ok (i, len)) (hk : rc_kD mi pc o n a b i len = true) (h : rc_sD o a b st S = some (st', σ')) (kk : ∀ (H1 : Heap) (locs1 : List Loc), va_P (dC, dI) vwCl (rc_ws cy ad (σ', S.2.1, S.2.2)) H1 → va_D A (rc_ws cy ad (σ', S.2.1, S.2.2)) → va_S A s.heap H1 locs1 → W p l e R s m args below meth c H1 locs1 cells slots Q (F0 m n ls0 (st'.map (rc_shv ad)))) : W p l e R s m args below meth c H locs cells slots Q (F0 m pc ls0 (st.map (rc_shv ad))) := by
  revert hk h
  match o with
  | 0 =>
    intro hk h
    cases st with
    | nil => cases h
    | cons w0 su1 =>
      cases w0 with
      | int x =>
        cases su1 with
        | nil => cases h
        | cons w1 st1 =>
          cases w1 with
          | ref k =>
            simp only [rc_sD] at h
            cases hc : (rc_okO k a S.2.2) with
            | false => rw [hc] at h; cases h
            | true =>
              rw [hc] at h
              cases h
              obtain ⟨e1, e2, e3, h2⟩ := rc_okO_s hc
              simp only [rc_kD] at hk
              split at hk
              · rename_i ix
                simp only [Bool.and_eq_true, decide_eq_true_eq, Bool.not_eq_true', Bool.not_eq_eq_eq_not, Bool.not_true] at hk
                obtain ⟨rfl, rfl, ht, hf, hf2⟩ := hk
                obtain ⟨q, hq, hN, hbN, hw⟩ := rc_kF_s hf2
                rw [rc_fin_s hq] at hf
                have hr : rc_isRf a b = false := rc_ty_cases _ (Or.inl rfl) ht
                refine va_put (C := q.1) (T := q.2.1) (N := q.2.2) hx hb hts (hin a q hq) (rc_fty a) (rc_fts a q hq) (rc_nm a q hq) hown hK hP hD hS (k - 2) (by rw [rc_ws_at h2 e3, rc_cell_o e1 e2]) hq b hbN (hts _ (rc_has_in hw)) (fun _ z => z) hf (ty := rc_fty a b) (v := .int x) (rc_fts a q hq b hbN) (by rw [ht]; rfl) (by rw [ht]; rfl) (by rw [List.length_map, List.length_range, hN]; exact hbN) hd (fun H1 locs1 p1 d1 s1 => ?_)
                have ew := rc_ws_set (cy := cy) (ad := ad) (S := S) (S' := (rc_up S.1 k (upd (S.1 k) b x), S.2.1, S.2.2)) h2 e3 rfl (fun k' hk' => rc_up_n _ _ hk') (fun _ _ => rfl)
                rw [rc_cell_o e1 e2, ← rc_fs_set (by rw [hN]; exact hbN) hr] at ew
                rw [ew] at p1 d1
                exact kk H1 locs1 p1 d1 s1
              · cases hk
          | _ => cases h
      | _ => cases h
  | 1 =>
    intro hk h
    cases st with
    | nil => cases h
    | cons w0 su1 =>
      cases w0 with
      | int x =>
        cases su1 with
        | nil => cases h
        | cons w1 st1 =>
          cases w1 with
          | ref k =>
            simp only [rc_sD] at h
            cases hc : (rc_okO k a S.2.2) with
            | false => rw [hc] at h; cases h
            | true =>
              rw [hc] at h
              cases h
              obtain ⟨e1, e2, e3, h2⟩ := rc_okO_s hc
              simp only [rc_kD] at hk
              split at hk
              · rename_i ix
                simp only [Bool.and_eq_true, decide_eq_true_eq, Bool.not_eq_true', Bool.not_eq_eq_eq_not, Bool.not_true] at hk
                obtain ⟨rfl, rfl, ht, hf, hf2⟩ := hk
                obtain ⟨q, hq, hN, hbN, hw⟩ := rc_kF_s hf2
                rw [rc_fin_s hq] at hf
                have hr : rc_isRf a b = false := rc_ty_cases _ (Or.inl rfl) ht
                refine va_put (C := q.1) (T := q.2.1) (N := q.2.2) hx hb hts (hin a q hq) (rc_fty a) (rc_fts a q hq) (rc_nm a q hq) hown hK hP hD hS (k - 2) (by rw [rc_ws_at h2 e3, rc_cell_o e1 e2]) hq b hbN (hts _ (rc_has_in hw)) (fun _ z => z) hf (ty := rc_fty a b) (v := .int x) (rc_fts a q hq b hbN) (by rw [ht]; rfl) (by rw [ht]; rfl) (by rw [List.length_map, List.length_range, hN]; exact hbN) hd (fun H1 locs1 p1 d1 s1 => ?_)
                have ew := rc_ws_set (cy := cy) (ad := ad) (S := S) (S' := (rc_up S.1 k (upd (S.1 k) b x), S.2.1, S.2.2)) h2 e3 rfl (fun k' hk' => rc_up_n _ _ hk') (fun _ _ => rfl)
                rw [rc_cell_o e1 e2, ← rc_fs_set (by rw [hN]; exact hbN) hr] at ew
                rw [ew] at p1 d1
                exact kk H1 locs1 p1 d1 s1
              · cases hk
          | _ => cases h
      | _ => cases h
  | 2 =>
    intro hk h
    cases st with
    | nil => cases h
    | cons w0 su1 =>
      cases w0 with
      | int x =>
        cases su1 with
        | nil => cases h
        | cons w1 st1 =>
          cases w1 with
          | ref k =>
            simp only [rc_sD] at h
            cases hc : (rc_okO k a S.2.2 && (decide (x = 0) || decide (x = 1))) with
            | false => rw [hc] at h; cases h
            | true =>
              rw [hc] at h
              cases h
              rw [Bool.and_eq_true] at hc
              obtain ⟨e1, e2, e3, h2⟩ := rc_okO_s hc.1
              have hz := rc_bool hc.2
              simp only [rc_kD] at hk
              split at hk
              · rename_i ix
                simp only [Bool.and_eq_true, decide_eq_true_eq, Bool.not_eq_true', Bool.not_eq_eq_eq_not, Bool.not_true] at hk
                obtain ⟨rfl, rfl, ht, hf, hf2⟩ := hk
                obtain ⟨q, hq, hN, hbN, hw⟩ := rc_kF_s hf2
                rw [rc_fin_s hq] at hf
                have hr : rc_isRf a b = false := rc_ty_cases _ (Or.inr rfl) ht
                refine va_put (C := q.1) (T := q.2.1) (N := q.2.2) hx hb hts (hin a q hq) (rc_fty a) (rc_fts a q hq) (rc_nm a q hq) hown hK hP hD hS (k - 2) (by rw [rc_ws_at h2 e3, rc_cell_o e1 e2]) hq b hbN (hts _ (rc_has_in hw)) (fun _ z => z) hf (ty := rc_fty a b) (v := .int x) (rc_fts a q hq b hbN) (by rw [ht]; exact (rc_narZ hz).1) (by rw [ht]; exact (rc_narZ hz).2) (by rw [List.length_map, List.length_range, hN]; exact hbN) hd (fun H1 locs1 p1 d1 s1 => ?_)
                have ew := rc_ws_set (cy := cy) (ad := ad) (S := S) (S' := (rc_up S.1 k (upd (S.1 k) b x), S.2.1, S.2.2)) h2 e3 rfl (fun k' hk' => rc_up_n _ _ hk') (fun _ _ => rfl)
                rw [rc_cell_o e1 e2, ← rc_fs_set (by rw [hN]; exact hbN) hr] at ew
                rw [ew] at p1 d1
                exact kk H1 locs1 p1 d1 s1
              · cases hk
          | _ => cases h
      | _ => cases h
  | 3 =>
    intro hk h
    cases st with
    | nil => cases h
    | cons w0 su1 =>
      cases w0 with
      | int x =>
        cases su1 with
        | nil => cases h
        | cons w1 su2 =>
          cases w1 with
          | int j =>
            cases su2 with
            | nil => cases h
            | cons w2 st1 =>
              cases w2 with
              | ref k =>
                simp only [rc_sD] at h
                cases hc : (rc_okA k 1 S.2.2 && (Nat.ble 2 k && rc_inb j (rc_lay k).2.2)) with
                | false => rw [hc] at h; cases h
                | true =>
                  rw [hc] at h
                  cases h
                  rw [Bool.and_eq_true, Bool.and_eq_true] at hc
                  obtain ⟨e1, e3⟩ := rc_okA_s hc.1
                  have h2 := Nat.le_of_ble_eq_true hc.2.1
                  have e4 := rc_inb_iff.mp hc.2.2
                  simp only [rc_kD] at hk
                  split at hk
                  · skip
                    simp only [Bool.and_eq_true, decide_eq_true_eq, Bool.not_eq_true', Bool.not_eq_eq_eq_not, Bool.not_true] at hk
                    obtain ⟨rfl, rfl⟩ := hk
                    refine va_iast hx hb hK hP hD hS (k - 2) 0 (n := (rc_lay k).2.2) (f := S.1 k) (by rw [rc_ws_at h2 e3, rc_cell_a e1 (by decide) (by decide)]) rfl e4 hd (fun H1 locs1 p1 d1 s1 => ?_)
                    have ew := rc_ws_set (cy := cy) (ad := ad) (S := S) (S' := (rc_up S.1 k (upd (S.1 k) j.toNatClampNeg x), S.2.1, S.2.2)) h2 e3 rfl (fun k' hk' => rc_up_n _ _ hk') (fun _ _ => rfl)
                    rw [rc_cell_a e1 (by decide) (by decide)] at ew; dsimp only at ew; rw [rc_up_s] at ew
                    rw [ew] at p1 d1
                    exact kk H1 locs1 p1 d1 s1
                  · cases hk
              | _ => cases h
          | _ => cases h
      | _ => cases h
  | 4 =>
    intro hk h
    cases st with
    | nil => cases h
    | cons w0 su1 =>
      cases w0 with
      | int x =>
        cases su1 with
        | nil => cases h
        | cons w1 su2 =>
          cases w1 with
          | int j =>
            cases su2 with
            | nil => cases h
            | cons w2 st1 =>
              cases w2 with
              | ref k =>
                simp only [rc_sD] at h
                cases hc : (rc_okA k 1 S.2.2 && (Nat.ble 2 k && rc_inb j (rc_lay k).2.2)) with
                | false => rw [hc] at h; cases h
                | true =>
                  rw [hc] at h
                  cases h
                  rw [Bool.and_eq_true, Bool.and_eq_true] at hc
                  obtain ⟨e1, e3⟩ := rc_okA_s hc.1
                  have h2 := Nat.le_of_ble_eq_true hc.2.1
                  have e4 := rc_inb_iff.mp hc.2.2
                  simp only [rc_kD] at hk
                  split at hk
                  · skip
                    simp only [Bool.and_eq_true, decide_eq_true_eq, Bool.not_eq_true', Bool.not_eq_eq_eq_not, Bool.not_true] at hk
                    obtain ⟨rfl, rfl⟩ := hk
                    refine va_iast hx hb hK hP hD hS (k - 2) 0 (n := (rc_lay k).2.2) (f := S.1 k) (by rw [rc_ws_at h2 e3, rc_cell_a e1 (by decide) (by decide)]) rfl e4 hd (fun H1 locs1 p1 d1 s1 => ?_)
                    have ew := rc_ws_set (cy := cy) (ad := ad) (S := S) (S' := (rc_up S.1 k (upd (S.1 k) j.toNatClampNeg x), S.2.1, S.2.2)) h2 e3 rfl (fun k' hk' => rc_up_n _ _ hk') (fun _ _ => rfl)
                    rw [rc_cell_a e1 (by decide) (by decide)] at ew; dsimp only at ew; rw [rc_up_s] at ew
                    rw [ew] at p1 d1
                    exact kk H1 locs1 p1 d1 s1
                  · cases hk
              | _ => cases h
          | _ => cases h
      | _ => cases h
  | 5 =>
    intro hk h
    cases st with
    | nil => cases h
    | cons w0 su1 =>
      cases w0 with
      | int x =>
        cases su1 with
        | nil => cases h
        | cons w1 su2 =>
          cases w1 with
          | int j =>
            cases su2 with
            | nil => cases h
            | cons w2 st1 =>
              cases w2 with
              | ref k =>
                simp only [rc_sD] at h
                cases hc : (rc_okA k 3 S.2.2 && ((decide (x = 0) || decide (x = 1)) && rc_inb j (rc_lay k).2.2)) with
                | false => rw [hc] at h; cases h
                | true =>
                  rw [hc] at h
                  cases h
                  rw [Bool.and_eq_true, Bool.and_eq_true] at hc
                  obtain ⟨e1, e3⟩ := rc_okA_s hc.1
                  have hz := rc_bool hc.2.1
                  have e4 := rc_inb_iff.mp hc.2.2
                  have h2 : 2 ≤ k := rc_lay_2 (by rw [e1]; decide) (by rw [e1]; decide)
                  simp only [rc_kD] at hk
                  split at hk
                  · skip
                    simp only [Bool.and_eq_true, decide_eq_true_eq, Bool.not_eq_true', Bool.not_eq_eq_eq_not, Bool.not_true] at hk
                    obtain ⟨rfl, rfl⟩ := hk
                    refine va_zast hx hb hK hP hD hS (k - 2) 2 (n := (rc_lay k).2.2) (f := S.1 k) (by rw [rc_ws_at h2 e3, rc_cell_a e1 (by decide) (by decide)]) rfl e4 hd (fun H1 locs1 p1 d1 s1 => ?_)
                    rw [rc_vnZ hz] at p1 d1
                    have ew := rc_ws_set (cy := cy) (ad := ad) (S := S) (S' := (rc_up S.1 k (upd (S.1 k) j.toNatClampNeg x), S.2.1, S.2.2)) h2 e3 rfl (fun k' hk' => rc_up_n _ _ hk') (fun _ _ => rfl)
                    rw [rc_cell_a e1 (by decide) (by decide)] at ew; dsimp only at ew; rw [rc_up_s] at ew
                    rw [ew] at p1 d1
                    exact kk H1 locs1 p1 d1 s1
                  · cases hk
              | _ => cases h
          | _ => cases h
      | _ => cases h
  | 6 =>
    intro hk h
    cases st with
    | nil => cases h
    | cons w0 su1 =>
      cases w0 with
      | int z =>
        cases su1 with
        | nil => cases h
        | cons w1 su2 =>
          cases w1 with
          | int dp =>
            cases su2 with
            | nil => cases h
            | cons w2 su3 =>
              cases w2 with
              | ref k2 =>
                cases su3 with
                | nil => cases h
                | cons w3 su4 =>
                  cases w3 with
                  | int sp =>
                    cases su4 with
                    | nil => cases h
                    | cons w4 st1 =>
                      cases w4 with
                      | ref k1 =>
                        simp only [rc_sD] at h
                        cases hc : (rc_okA k1 1 S.2.2 && (rc_okA k2 1 S.2.2 && (Nat.ble 2 k1 && (Nat.ble 2 k2 && ((!decide (sp < 0)) && ((!decide (dp < 0)) && ((!decide (z < 0)) && (decide (sp.toNatClampNeg + z.toNatClampNeg ≤ (rc_lay k1).2.2) && (decide (dp.toNatClampNeg + z.toNatClampNeg ≤ (rc_lay k2).2.2) && Nat.ble (rc_wk st1) 8))))))))) with
                        | false => rw [hc] at h; cases h
                        | true =>
                          rw [hc] at h
                          cases h
                          simp only [Bool.and_eq_true, decide_eq_true_eq, Bool.not_eq_true', decide_eq_false_iff_not] at hc
                          obtain ⟨c1, c2, c3, c4, c5, c6, c7, c8, c9, c0⟩ := hc
                          obtain ⟨e1, e3⟩ := rc_okA_s c1
                          obtain ⟨f1, f3⟩ := rc_okA_s c2
                          have h1 := Nat.le_of_ble_eq_true c3
                          have h2 := Nat.le_of_ble_eq_true c4
                          have h0 := Nat.le_of_ble_eq_true c0
                          simp only [rc_kD] at hk
                          split at hk
                          · rename_i ix
                            simp only [Bool.and_eq_true, decide_eq_true_eq, Bool.not_eq_true', Bool.not_eq_eq_eq_not, Bool.not_true] at hk
                            obtain ⟨rfl, rfl, hw⟩ := hk
                            refine va_copyi hx hb (hml.trans hls.symm) hown (hts _ (rc_has_in hw)) (hts _ hac.1) (hts _ hac.2.1) (hts _ hac.2.2) hK hP hD hS (k1 - 2) (k2 - 2) 0 0 (f := S.1 k1) (g := S.1 k2) (n0 := (rc_lay k1).2.2) (n1 := (rc_lay k2).2.2) (ty := .int) (by rw [rc_ws_at h1 e3, rc_cell_a e1 (by decide) (by decide)]) (by rw [rc_ws_at h2 f3, rc_cell_a f1 (by decide) (by decide)]) rfl rfl rfl c5 c6 c7 c8 c9 (fun _ _ => rfl) hRf (by rw [rc_wk_map]; omega) hd (fun H1 locs1 p1 d1 s1 => ?_)
                            have ew := rc_ws_set (cy := cy) (ad := ad) (S := S) (S' := (rc_up S.1 k2 (va_cpy (S.1 k1) (S.1 k2) sp.toNatClampNeg dp.toNatClampNeg z.toNatClampNeg), S.2.1, S.2.2)) h2 f3 rfl (fun k' hk' => rc_up_n _ _ hk') (fun _ _ => rfl)
                            rw [rc_cell_a f1 (by decide) (by decide)] at ew; dsimp only at ew; rw [rc_up_s] at ew
                            rw [ew] at p1 d1
                            exact kk H1 locs1 p1 d1 s1
                          · cases hk
                      | _ => cases h
                  | _ => cases h
              | _ => cases h
          | _ => cases h
      | _ => cases h
  | k + 7 => intro hk h; cases h
end RSD
