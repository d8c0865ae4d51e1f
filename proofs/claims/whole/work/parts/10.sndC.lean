theorem rc_lay_all (P : rc_Y → Bool) (h : (List.range 111).all (fun k => P (rc_lay k)) = true) (h9 : P (9, 0, 0) = true) (k : Nat) : P (rc_lay k) = true := by
  by_cases hk : k < 111
  · exact List.all_eq_true.mp h k (List.mem_range.mpr hk)
  · have e : Nat.ble 111 k = true := Nat.ble_eq.mpr (by omega)
    have e2 : rc_lay k = (9, 0, 0) := by unfold rc_lay; rw [e]; rfl
    rw [e2]
    exact h9
theorem rc_lay_4 (k : Nat) (h : (rc_lay k).1 = 4) : (rc_lay k).2.1 = 6 ∨ (rc_lay k).2.1 = 1 := by
  have := rc_lay_all (fun y => !(decide (y.1 = 4)) || (decide (y.2.1 = 6) || decide (y.2.1 = 1))) (by decide +kernel) rfl k
  simp [h] at this
  exact this
theorem rc_lay_0 (k : Nat) (h : (rc_lay k).1 = 0) : (rc_lay k).2.1 < 11 := by
  have := rc_lay_all (fun y => !(decide (y.1 = 0)) || decide (y.2.1 < 11)) (by decide +kernel) rfl k
  simpa [h] using this
theorem rc_lay_n (k : Nat) : (rc_lay k).2.2 ≤ 2000 := by
  have := rc_lay_all (fun y => decide (y.2.2 ≤ 2000)) (by decide +kernel) rfl k
  simpa using this
theorem rc_lay_2 {k : Nat} (h1 : ¬ (rc_lay k).1 = 1) (h5 : ¬ (rc_lay k).1 = 5) : 2 ≤ k := by
  match k with
  | 0 => exact absurd rfl h1
  | 1 => exact absurd rfl h5
  | k + 2 => omega
theorem rc_okO_s {k a na : Nat} (h : rc_okO k a na = true) : (rc_lay k).1 = 0 ∧ (rc_lay k).2.1 = a ∧ k < na ∧ 2 ≤ k := by
  unfold rc_okO at h
  rw [Bool.and_eq_true, Bool.and_eq_true] at h
  have h0 := Nat.eq_of_beq_eq_true h.1
  exact ⟨h0, Nat.eq_of_beq_eq_true h.2.1, Nat.le_of_ble_eq_true h.2.2, rc_lay_2 (by rw [h0]; decide) (by rw [h0]; decide)⟩
theorem rc_okA_s {k t na : Nat} (h : rc_okA k t na = true) : (rc_lay k).1 = t ∧ k < na := by
  unfold rc_okA at h
  rw [Bool.and_eq_true] at h
  exact ⟨Nat.eq_of_beq_eq_true h.1, Nat.le_of_ble_eq_true h.2⟩
theorem rc_cell_o {cy : Nat → ClassId} {ad : Nat → Nat} {σ : rc_M} {ρ : rc_F} {k a : Nat} (h : (rc_lay k).1 = 0) (h2 : (rc_lay k).2.1 = a) : rc_cell cy ad σ ρ k = .inr (a, (List.range (rc_N a)).map (rc_fv ad σ ρ a k)) := by
  rcases hl : rc_lay k with ⟨t, c, n⟩
  rw [hl] at h h2
  dsimp only at h h2
  subst h; subst h2
  unfold rc_cell
  rw [hl]
  rfl
theorem rc_cell_a {cy : Nat → ClassId} {ad : Nat → Nat} {σ : rc_M} {ρ : rc_F} {k t : Nat} (h : (rc_lay k).1 = t) (h0 : ¬ t = 0) (h4 : ¬ t = 4) : rc_cell cy ad σ ρ k = .inl (cy t, (rc_lay k).2.2, .inl (σ k)) := by
  rcases hl : rc_lay k with ⟨t, c, n⟩
  rw [hl] at h
  dsimp only at h
  subst h
  unfold rc_cell
  rw [hl]
  simp [h0, h4]
theorem rc_cell_q {cy : Nat → ClassId} {ad : Nat → Nat} {σ : rc_M} {ρ : rc_F} {k : Nat} (h : (rc_lay k).1 = 4) : rc_cell cy ad σ ρ k = .inl (cy (4 + (rc_lay k).2.1), (rc_lay k).2.2, .inr (.inr (.inr (.inr (fun j => (ρ k j).map ad))))) := by
  rcases hl : rc_lay k with ⟨t, c, n⟩
  rw [hl] at h
  dsimp only at h
  subst h
  unfold rc_cell
  rw [hl]
  simp
theorem rc_fs_at {ad : Nat → Nat} {σ : rc_M} {ρ : rc_F} {a k b : Nat} (h : b < rc_N a) : ((List.range (rc_N a)).map (rc_fv ad σ ρ a k))[b]? = some (rc_fv ad σ ρ a k b) := by
  rw [List.getElem?_map, List.getElem?_range h]
  rfl
theorem rc_fv_i {ad : Nat → Nat} {σ : rc_M} {ρ : rc_F} {a k b : Nat} (h : rc_isRf a b = false) : rc_fv ad σ ρ a k b = .int (σ k b) := by
  unfold rc_isRf at h
  unfold rc_fv
  split at h
  · cases h
  · cases h
  · rename_i h1 h2
    split
    · rename_i x e; exact absurd e (h1 x)
    · rename_i x e; exact absurd e (h2 x)
    · rfl
theorem rc_fv_r {ad : Nat → Nat} {σ : rc_M} {ρ : rc_F} {a k b : Nat} (h : rc_isRf a b = true) : rc_fv ad σ ρ a k b = va_rf ((ρ k b).map ad) := by
  unfold rc_isRf at h
  unfold rc_fv
  split at h
  · rename_i x e; rw [e]
  · rename_i x e; rw [e]
  · cases h
theorem rc_ty_cases (ty : FieldType) (h : ty = .int ∨ ty = .boolean) {ci b : Nat} (e : rc_fty ci b = ty) : rc_isRf ci b = false := by
  unfold rc_isRf
  rw [e]
  rcases h with rfl | rfl <;> rfl
/-- storing an int in a field -/
theorem rc_fs_set {ad : Nat → Nat} {σ : rc_M} {ρ : rc_F} {a k b : Nat} {x : Int32} (h : b < rc_N a) (hi : rc_isRf a b = false) : ((List.range (rc_N a)).map (rc_fv ad σ ρ a k)).set b (.int x) = (List.range (rc_N a)).map (rc_fv ad (rc_up σ k (upd (σ k) b x)) ρ a k) := by
  refine List.ext_getElem? fun j => ?_
  by_cases hj : j < rc_N a
  · rw [rc_fs_at hj]
    by_cases hjb : j = b
    · subst hjb
      rw [List.getElem?_set_self (by simpa using hj), rc_fv_i hi]
      simp [rc_up, upd]
    · rw [List.getElem?_set_ne (Ne.symm hjb), rc_fs_at hj]
      unfold rc_fv
      simp [rc_up, upd, hjb]
  · rw [List.getElem?_eq_none (by simp; omega), List.getElem?_eq_none (by simp; omega)]
theorem rc_fs_setr {ad : Nat → Nat} {σ : rc_M} {ρ : rc_F} {a k b q : Nat} (h : b < rc_N a) (hi : rc_isRf a b = true) : ((List.range (rc_N a)).map (rc_fv ad σ ρ a k)).set b (.ref (ad q)) = (List.range (rc_N a)).map (rc_fv ad σ (rc_ur ρ k (fun j => if j = b then some q else ρ k j)) a k) := by
  refine List.ext_getElem? fun j => ?_
  by_cases hj : j < rc_N a
  · rw [rc_fs_at hj]
    by_cases hjb : j = b
    · subst hjb
      rw [List.getElem?_set_self (by simpa using hj), rc_fv_r hi]
      simp [rc_ur, va_rf]
    · rw [List.getElem?_set_ne (Ne.symm hjb), rc_fs_at hj]
      unfold rc_fv
      simp [rc_ur, hjb]
  · rw [List.getElem?_eq_none (by simp; omega), List.getElem?_eq_none (by simp; omega)]
theorem rc_kF_s {mi pc a b ix : Nat} (h : rc_kF mi pc a b ix = true) : ∃ q : vw_C, vwCl[a]? = some q ∧ rc_N a = q.2.2 ∧ b < q.2.2 ∧ rc_has (rc_lk mi pc) (.fieldLink (rc_own mi) ix (q.2.1 b).1 (q.2.1 b).2.1 (q.2.1 b).2.2.1) = true := by
  unfold rc_kF at h
  cases hq : vwCl[a]? with
  | none => rw [hq] at h; cases h
  | some q =>
    rw [hq] at h
    simp only [Bool.and_eq_true, decide_eq_true_eq] at h
    exact ⟨q, rfl, by unfold rc_N; rw [hq], h.1, h.2⟩
theorem rc_nm (ci : Nat) (q : vw_C) (h : vwCl[ci]? = some q) : ∀ a, a < q.2.2 → ∀ b, b < q.2.2 → a ≠ b → (q.2.1 a).2.1 ≠ (q.2.1 b).2.1 := by
  match ci, h with
  | 0, h => cases h; exact nmX0
  | 1, h => cases h; exact nmX1
  | 2, h => cases h; exact nmX2
  | 3, h => cases h; exact nmX3
  | 4, h => cases h; exact nmX4
  | 5, h => cases h; exact nmX5
  | 6, h => cases h; exact nmX6
  | 7, h => cases h; exact nmX7
  | 8, h => cases h; exact nmX8
  | 9, h => cases h; exact nmX9
  | 10, h => cases h; exact nmX10
  | k + 11, h => simp [vwCl] at h
theorem rc_fts (ci : Nat) (q : vw_C) (h : vwCl[ci]? = some q) : ∀ k, k < q.2.2 → parseFieldDescriptor (q.2.1 k).2.2.1 = some (rc_fty ci k) := by
  match ci, h with
  | 0, h => cases h; exact tyX0_ok
  | 1, h => cases h; exact tyX1_ok
  | 2, h => cases h; exact tyX2_ok
  | 3, h => cases h; exact tyX3_ok
  | 4, h => cases h; exact tyX4_ok
  | 5, h => cases h; exact tyX5_ok
  | 6, h => cases h; exact tyX6_ok
  | 7, h => cases h; exact tyX7_ok
  | 8, h => cases h; exact tyX8_ok
  | 9, h => cases h; exact tyX9_ok
  | 10, h => cases h; exact tyX10_ok
  | k + 11, h => simp [vwCl] at h
section RSC
variable {p : Program} {l : Launch} {e : Env} {R : Room} {s : State} {m : MethodId} {args : Array Value} {below : List Frame} {meth : Method} {c : Code} {H : Heap} {locs : List Loc} {cells slots : Nat} {Q : State → Prop}
variable {dC : Nat → ClassId} {dI : Nat → Nat → Nat} {cy : Nat → ClassId} {ad : Nat → Nat} {A : Nat → Prop} {mi pc n a b o len : Nat} {v : Int32} {ls st : List Value} {S : rc_S} {ls0 : Array Slot} {i : Instr}
set_option maxHeartbeats 4000000 in
theorem rc_Cs {st' : List Value} (hx : p.tables.exec = Jvm.exec) (hb : c.code = rc_code mi) (hown : s.vm.findClass (rc_own mi) = some m.cls) (hts : ∀ w ∈ rc_wsG, w.before args s = true) (hin : ∀ (ci : Nat) (q : vw_C), vwCl[ci]? = some q → ∀ w ∈ u_ws q.1 q.2.1 q.2.2, w ∈ rc_wsG) (hK : va_K (dC, dI) vwCl (rc_tys cy) s) (hP : va_P (dC, dI) vwCl (rc_ws cy ad S) H) (hS : va_S A s.heap H locs) (hT : va_T .int (ad 0) 3 (fun j => .int (S.1 0 j)) A s s.heap) (hX : mi = 189 → va_X (ad 1) (S.1 1 320).toNatClampNeg (S.1 1) s s.heap ∧ ad 1 < s.heap.size ∧ ¬ A (ad 1))
    (hd : decode (rc_code mi) pc = .ok (i, len)) (hk : rc_kC mi pc o n a b i len = true) (h : rc_sC o a b st S = some st') (kk : W p l e R s m args below meth c H locs cells slots Q (F0 m n ls0 (st'.map (rc_shv ad)))) : W p l e R s m args below meth c H locs cells slots Q (F0 m pc ls0 (st.map (rc_shv ad))) := by
  revert hk h
  match o with
  | 0 =>
    intro hk h
    cases st with
    | nil => cases h
    | cons w0 su1 =>
      cases w0 with
      | int y =>
        cases su1 with
        | nil => cases h
        | cons w1 st1 =>
          cases w1 with
          | int x =>
            simp only [rc_sC] at h
            split at h
            · cases h
            · rename_i hy
              cases h
              simp only [rc_kC] at hk
              split at hk
              · skip
                simp only [Bool.and_eq_true, decide_eq_true_eq, Bool.not_eq_true', Bool.not_eq_eq_eq_not, Bool.not_true] at hk
                obtain ⟨rfl, rfl⟩ := hk
                exact lv_idiv hx hb hd hy kk
              · cases hk
          | _ => cases h
      | _ => cases h
  | 1 =>
    intro hk h
    cases st with
    | nil => cases h
    | cons w0 su1 =>
      cases w0 with
      | int y =>
        cases su1 with
        | nil => cases h
        | cons w1 st1 =>
          cases w1 with
          | int x =>
            simp only [rc_sC] at h
            split at h
            · cases h
            · rename_i hy
              cases h
              simp only [rc_kC] at hk
              split at hk
              · skip
                simp only [Bool.and_eq_true, decide_eq_true_eq, Bool.not_eq_true', Bool.not_eq_eq_eq_not, Bool.not_true] at hk
                obtain ⟨rfl, rfl⟩ := hk
                exact lv_irem hx hb hd hy kk
              · cases hk
          | _ => cases h
      | _ => cases h
  | 2 =>
    intro hk h
    cases st with
    | nil => cases h
    | cons w0 su1 =>
      cases w0 with
      | int j =>
        cases su1 with
        | nil => cases h
        | cons w1 st1 =>
          cases w1 with
          | ref k =>
            simp only [rc_sC] at h
            cases hc : (rc_okA k 1 S.2.2 && rc_inb j (rc_lay k).2.2) with
            | false => rw [hc] at h; cases h
            | true =>
              rw [hc] at h
              cases h
              rw [Bool.and_eq_true] at hc
              obtain ⟨e1, e2⟩ := rc_okA_s hc.1
              have e3 := rc_inb_iff.mp hc.2
              simp only [rc_kC] at hk
              split at hk
              · skip
                simp only [Bool.and_eq_true, decide_eq_true_eq, Bool.not_eq_true', Bool.not_eq_eq_eq_not, Bool.not_true] at hk
                obtain ⟨rfl, rfl⟩ := hk
                by_cases hk0 : k = 0
                · subst hk0
                  exact va_ti hx hb hT hS e3 rfl hd kk
                · have h2 : 2 ≤ k := by
                    rcases Nat.lt_or_ge k 2 with q | q
                    · have : k = 1 := Nat.le_antisymm (Nat.le_of_lt_succ q) (Nat.pos_of_ne_zero hk0)
                      subst this
                      exact absurd e1 (by decide)
                    · exact q
                  exact va_iald hx hb hK hP (k - 2) 0 (n := (rc_lay k).2.2) (f := S.1 k) (by rw [rc_ws_at h2 e2, rc_cell_a e1 (by decide) (by decide)]) rfl e3 hd kk
              · cases hk
          | _ => cases h
      | _ => cases h
  | 3 =>
    intro hk h
    cases st with
    | nil => cases h
    | cons w0 su1 =>
      cases w0 with
      | int j =>
        cases su1 with
        | nil => cases h
        | cons w1 st1 =>
          cases w1 with
          | ref k =>
            simp only [rc_sC] at h
            cases hc : (rc_okA k 1 S.2.2 && rc_inb j (rc_lay k).2.2) with
            | false => rw [hc] at h; cases h
            | true =>
              rw [hc] at h
              cases h
              rw [Bool.and_eq_true] at hc
              obtain ⟨e1, e2⟩ := rc_okA_s hc.1
              have e3 := rc_inb_iff.mp hc.2
              simp only [rc_kC] at hk
              split at hk
              · skip
                simp only [Bool.and_eq_true, decide_eq_true_eq, Bool.not_eq_true', Bool.not_eq_eq_eq_not, Bool.not_true] at hk
                obtain ⟨rfl, rfl⟩ := hk
                by_cases hk0 : k = 0
                · subst hk0
                  exact va_ti hx hb hT hS e3 rfl hd kk
                · have h2 : 2 ≤ k := by
                    rcases Nat.lt_or_ge k 2 with q | q
                    · have : k = 1 := Nat.le_antisymm (Nat.le_of_lt_succ q) (Nat.pos_of_ne_zero hk0)
                      subst this
                      exact absurd e1 (by decide)
                    · exact q
                  exact va_iald hx hb hK hP (k - 2) 0 (n := (rc_lay k).2.2) (f := S.1 k) (by rw [rc_ws_at h2 e2, rc_cell_a e1 (by decide) (by decide)]) rfl e3 hd kk
              · cases hk
          | _ => cases h
      | _ => cases h
  | 4 =>
    intro hk h
    cases st with
    | nil => cases h
    | cons w0 su1 =>
      cases w0 with
      | int j =>
        cases su1 with
        | nil => cases h
        | cons w1 st1 =>
          cases w1 with
          | ref k =>
            simp only [rc_sC] at h
            cases hc : (rc_okA k 4 S.2.2 && rc_inb j (rc_lay k).2.2) with
            | false => rw [hc] at h; cases h
            | true =>
              rw [hc] at h
              rw [Bool.and_eq_true] at hc
              obtain ⟨e1, e2⟩ := rc_okA_s hc.1
              have e3 := rc_inb_iff.mp hc.2
              simp only [cond] at h
              cases hq : S.2.1 k j.toNatClampNeg with
              | none => rw [hq] at h; cases h
              | some q =>
                rw [hq] at h
                cases h
                simp only [rc_kC] at hk
                split at hk
                · skip
                  simp only [Bool.and_eq_true, decide_eq_true_eq, Bool.not_eq_true', Bool.not_eq_eq_eq_not, Bool.not_true] at hk
                  obtain ⟨rfl, rfl⟩ := hk
                  have h2 : 2 ≤ k := rc_lay_2 (by rw [e1]; decide) (by rw [e1]; decide)
                  have hw := rc_ws_at (cy := cy) (ad := ad) h2 e2
                  rw [rc_cell_q e1] at hw
                  have kk2 : W p l e R s m args below meth c H locs cells slots Q (F0 m (pc + 1) ls0 (va_rf ((S.2.1 k j.toNatClampNeg).map ad) :: st1.map (rc_shv ad))) := by rw [hq]; exact kk
                  rcases rc_lay_4 k e1 with e4 | e4
                  · rw [e4] at hw
                    exact va_aldq hx hb hK hP (k - 2) 3 hw rfl e3 hd kk2
                  · rw [e4] at hw
                    exact va_aldq hx hb hK hP (k - 2) 4 hw rfl e3 hd kk2
                · cases hk
          | _ => cases h
      | _ => cases h
  | 5 =>
    intro hk h
    cases st with
    | nil => cases h
    | cons w0 su1 =>
      cases w0 with
      | int j =>
        cases su1 with
        | nil => cases h
        | cons w1 st1 =>
          cases w1 with
          | ref k =>
            simp only [rc_sC] at h
            cases hc : (rc_okA k 2 S.2.2 && rc_inb j (rc_lay k).2.2) with
            | false => rw [hc] at h; cases h
            | true =>
              rw [hc] at h
              cases h
              rw [Bool.and_eq_true] at hc
              obtain ⟨e1, e2⟩ := rc_okA_s hc.1
              have e3 := rc_inb_iff.mp hc.2
              simp only [rc_kC] at hk
              split at hk
              · skip
                simp only [Bool.and_eq_true, decide_eq_true_eq, Bool.not_eq_true', Bool.not_eq_eq_eq_not, Bool.not_true] at hk
                obtain ⟨rfl, rfl⟩ := hk
                have h2 : 2 ≤ k := rc_lay_2 (by rw [e1]; decide) (by rw [e1]; decide)
                exact va_cald hx hb hK hP (k - 2) 1 (n := (rc_lay k).2.2) (f := S.1 k) (by rw [rc_ws_at h2 e2, rc_cell_a e1 (by decide) (by decide)]) rfl e3 hd kk
              · cases hk
          | _ => cases h
      | _ => cases h
  | 6 =>
    intro hk h
    cases st with
    | nil => cases h
    | cons w0 su1 =>
      cases w0 with
      | int j =>
        cases su1 with
        | nil => cases h
        | cons w1 st1 =>
          cases w1 with
          | ref k =>
            simp only [rc_sC] at h
            cases hc : (rc_okA k 3 S.2.2 && rc_inb j (rc_lay k).2.2) with
            | false => rw [hc] at h; cases h
            | true =>
              rw [hc] at h
              cases h
              rw [Bool.and_eq_true] at hc
              obtain ⟨e1, e2⟩ := rc_okA_s hc.1
              have e3 := rc_inb_iff.mp hc.2
              simp only [rc_kC] at hk
              split at hk
              · skip
                simp only [Bool.and_eq_true, decide_eq_true_eq, Bool.not_eq_true', Bool.not_eq_eq_eq_not, Bool.not_true] at hk
                obtain ⟨rfl, rfl⟩ := hk
                have h2 : 2 ≤ k := rc_lay_2 (by rw [e1]; decide) (by rw [e1]; decide)
                exact va_zald hx hb hK hP (k - 2) 2 (n := (rc_lay k).2.2) (f := S.1 k) (by rw [rc_ws_at h2 e2, rc_cell_a e1 (by decide) (by decide)]) rfl e3 hd kk
              · cases hk
          | _ => cases h
      | _ => cases h
  | 7 =>
    intro hk h
    cases st with
    | nil => cases h
    | cons w0 st1 =>
      cases w0 with
      | ref k =>
        simp only [rc_sC] at h
        cases hc : ((rc_okA k 1 S.2.2 || rc_okA k 2 S.2.2) && Nat.ble 2 k) with
        | false => rw [hc] at h; cases h
        | true =>
          rw [hc] at h
          cases h
          rw [Bool.and_eq_true, Bool.or_eq_true] at hc
          have h2 := Nat.le_of_ble_eq_true hc.2
          simp only [rc_kC] at hk
          split at hk
          · skip
            simp only [Bool.and_eq_true, decide_eq_true_eq, Bool.not_eq_true', Bool.not_eq_eq_eq_not, Bool.not_true] at hk
            obtain ⟨rfl, rfl⟩ := hk
            rcases hc.1 with q | q
            · obtain ⟨e1, e2⟩ := rc_okA_s q
              exact va_alen hx hb hK hP (k - 2) 0 (x := ((rc_lay k).2.2, .inl (S.1 k))) (by rw [rc_ws_at h2 e2, rc_cell_a e1 (by decide) (by decide)]) rfl rfl hd kk
            · obtain ⟨e1, e2⟩ := rc_okA_s q
              exact va_alen hx hb hK hP (k - 2) 1 (x := ((rc_lay k).2.2, .inl (S.1 k))) (by rw [rc_ws_at h2 e2, rc_cell_a e1 (by decide) (by decide)]) rfl rfl hd kk
          · cases hk
      | _ => cases h
  | 8 =>
    intro hk h
    cases st with
    | nil => cases h
    | cons w0 st1 =>
      cases w0 with
      | ref k =>
        simp only [rc_sC] at h
        cases hc : (rc_okO k a S.2.2) with
        | false => rw [hc] at h; cases h
        | true =>
          rw [hc] at h
          cases h
          obtain ⟨e1, e2, e3, h2⟩ := rc_okO_s hc
          simp only [rc_kC] at hk
          split at hk
          · rename_i ix
            simp only [Bool.and_eq_true, decide_eq_true_eq, Bool.not_eq_true', Bool.not_eq_eq_eq_not, Bool.not_true] at hk
            obtain ⟨rfl, rfl, hr, hf⟩ := hk
            obtain ⟨q, hq, hN, hbN, hw⟩ := rc_kF_s hf
            exact va_get (C := q.1) (T := q.2.1) (N := q.2.2) hx hb hts (hin a q hq) hown hK hP (k - 2) (by rw [rc_ws_at h2 e3, rc_cell_o e1 e2]) hq b hbN (hts _ (rc_has_in hw)) (fun _ z => z) (by rw [rc_fs_at (by rw [hN]; exact hbN), rc_fv_i hr]; rfl) hd kk
          · cases hk
      | _ => cases h
  | 9 =>
    intro hk h
    cases st with
    | nil => cases h
    | cons w0 st1 =>
      cases w0 with
      | ref k =>
        simp only [rc_sC] at h
        cases hc : (rc_okO k a S.2.2) with
        | false => rw [hc] at h; cases h
        | true =>
          rw [hc] at h
          cases h
          obtain ⟨e1, e2, e3, h2⟩ := rc_okO_s hc
          simp only [rc_kC] at hk
          split at hk
          · rename_i ix
            simp only [Bool.and_eq_true, decide_eq_true_eq, Bool.not_eq_true', Bool.not_eq_eq_eq_not, Bool.not_true] at hk
            obtain ⟨rfl, rfl, hr, hf⟩ := hk
            obtain ⟨q, hq, hN, hbN, hw⟩ := rc_kF_s hf
            exact va_get (C := q.1) (T := q.2.1) (N := q.2.2) hx hb hts (hin a q hq) hown hK hP (k - 2) (by rw [rc_ws_at h2 e3, rc_cell_o e1 e2]) hq b hbN (hts _ (rc_has_in hw)) (fun _ z => z) (by rw [rc_fs_at (by rw [hN]; exact hbN), rc_fv_i hr]; rfl) hd kk
          · cases hk
      | _ => cases h
  | 10 =>
    intro hk h
    cases st with
    | nil => cases h
    | cons w0 st1 =>
      cases w0 with
      | ref k =>
        simp only [rc_sC] at h
        cases hc : (rc_okO k a S.2.2) with
        | false => rw [hc] at h; cases h
        | true =>
          rw [hc] at h
          obtain ⟨e1, e2, e3, h2⟩ := rc_okO_s hc
          simp only [cond] at h
          cases hq0 : S.2.1 k b with
          | none => rw [hq0] at h; cases h
          | some q0 =>
            rw [hq0] at h
            cases h
            simp only [rc_kC] at hk
            split at hk
            · rename_i ix
              simp only [Bool.and_eq_true, decide_eq_true_eq, Bool.not_eq_true', Bool.not_eq_eq_eq_not, Bool.not_true] at hk
              obtain ⟨rfl, rfl, hr, hf⟩ := hk
              obtain ⟨q, hq, hN, hbN, hw⟩ := rc_kF_s hf
              exact va_get (C := q.1) (T := q.2.1) (N := q.2.2) hx hb hts (hin a q hq) hown hK hP (k - 2) (by rw [rc_ws_at h2 e3, rc_cell_o e1 e2]) hq b hbN (hts _ (rc_has_in hw)) (fun _ z => z) (by rw [rc_fs_at (by rw [hN]; exact hbN), rc_fv_r hr, hq0]; rfl) hd kk
            · cases hk
      | _ => cases h
  | 11 =>
    intro hk h
    cases st with
    | nil => cases h
    | cons w0 st1 =>
      cases w0 with
      | ref k =>
        simp only [rc_sC] at h
        cases hc : (rc_okO k a S.2.2) with
        | false => rw [hc] at h; cases h
        | true =>
          rw [hc] at h
          obtain ⟨e1, e2, e3, h2⟩ := rc_okO_s hc
          simp only [cond] at h
          cases hq0 : S.2.1 k b with
          | none => rw [hq0] at h; cases h
          | some q0 =>
            rw [hq0] at h
            cases h
            simp only [rc_kC] at hk
            split at hk
            · rename_i ix
              simp only [Bool.and_eq_true, decide_eq_true_eq, Bool.not_eq_true', Bool.not_eq_eq_eq_not, Bool.not_true] at hk
              obtain ⟨rfl, rfl, hr, hf⟩ := hk
              obtain ⟨q, hq, hN, hbN, hw⟩ := rc_kF_s hf
              exact va_get (C := q.1) (T := q.2.1) (N := q.2.2) hx hb hts (hin a q hq) hown hK hP (k - 2) (by rw [rc_ws_at h2 e3, rc_cell_o e1 e2]) hq b hbN (hts _ (rc_has_in hw)) (fun _ z => z) (by rw [rc_fs_at (by rw [hN]; exact hbN), rc_fv_r hr, hq0]; rfl) hd kk
            · cases hk
      | _ => cases h
  | 12 =>
    intro hk h
    cases st with
    | nil => cases h
    | cons w0 su1 =>
      cases w0 with
      | int j =>
        cases su1 with
        | nil => cases h
        | cons w1 st1 =>
          cases w1 with
          | ref k =>
            simp only [rc_sC] at h
            cases hc : (Nat.beq k 1 && rc_inb j (S.1 1 320).toNatClampNeg) with
            | false => rw [hc] at h; cases h
            | true =>
              rw [hc] at h
              cases h
              rw [Bool.and_eq_true] at hc
              have e1 := Nat.eq_of_beq_eq_true hc.1
              subst e1
              have e3 := rc_inb_iff.mp hc.2
              simp only [rc_kC] at hk
              split at hk
              · skip
                simp only [Bool.and_eq_true, decide_eq_true_eq, Bool.not_eq_true', Bool.not_eq_eq_eq_not, Bool.not_true] at hk
                obtain ⟨rfl, rfl, em⟩ := hk
                obtain ⟨x1, x2, x3⟩ := hX em
                exact va_sld hx hb x1 x2 x3 hS e3 hd kk
              · cases hk
          | _ => cases h
      | _ => cases h
  | 13 =>
    intro hk h
    cases st with
    | nil => cases h
    | cons w0 st1 =>
      cases w0 with
      | ref k =>
        simp only [rc_sC] at h
        cases hc : (Nat.beq k 1) with
        | false => rw [hc] at h; cases h
        | true =>
          rw [hc] at h
          cases h
          have e1 := Nat.eq_of_beq_eq_true hc
          subst e1
          simp only [rc_kC] at hk
          split at hk
          · skip
            simp only [Bool.and_eq_true, decide_eq_true_eq, Bool.not_eq_true', Bool.not_eq_eq_eq_not, Bool.not_true] at hk
            obtain ⟨rfl, rfl, em⟩ := hk
            obtain ⟨x1, x2, x3⟩ := hX em
            exact va_slen hx hb x1 x2 x3 hS hd kk
          · cases hk
      | _ => cases h
  | k + 14 => intro hk h; cases h
end RSC
