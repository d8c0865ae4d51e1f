set_option maxHeartbeats 4000000 in
theorem rc_x1_ok {fl : Bool} {d mi pc : Nat} {ls st : List Value} {σ : rc_M} {Q : Option Value → rc_M → Prop} {K : Nat → List Value → List Value → rc_M → Prop} (ih : ∀ pc' ls' st' σ', K pc' ls' st' σ' → rc_Tc d mi pc' ls' st' σ' Q) (h : rc_x1 fl d mi pc ls st σ Q K) : rc_Tc d mi pc ls st σ Q := by
  rcases hic : rc_ic mi pc with ⟨hd, g, o, n, a, b, v⟩
  unfold rc_x1 at h
  rw [hic] at h
  dsimp only at h
  cases hb : (Nat.beq hd 1 && fl) with
  | true => rw [hb] at h; exact h
  | false =>
    rw [hb] at h
    dsimp only [cond] at h
    clear hb
    revert h hic
    match g with
    | 0 =>
      intro h hic
      simp only at h
      cases hs : rc_sA o n a v ls st with
      | none => rw [hs] at h; exact h.elim
      | some z =>
        obtain ⟨n', ls', st'⟩ := z
        rw [hs] at h
        exact rc_Tc.step (by unfold rc_next; rw [hic]; simp [hs]) (ih _ _ _ _ h)
    | 1 =>
      intro h hic
      simp only at h
      revert h hic
      match o with
      | 0 =>
        intro hic h
        cases st with
        | nil => exact False.elim h
        | cons w0 st1 =>
          cases w0 with
          | int y =>
            cases st1 with
            | nil => exact False.elim h
            | cons w1 st' =>
              cases w1 with
              | int x =>
                obtain ⟨h1, h2⟩ := h
                by_cases c : x = y
                · exact rc_Tc.step (pc' := a) (by unfold rc_next; rw [hic]; simp [rc_sB, c]) (ih _ _ _ _ (h1 c))
                · exact rc_Tc.step (pc' := n) (by unfold rc_next; rw [hic]; simp [rc_sB, c]) (ih _ _ _ _ (h2 c))
              | _ => exact False.elim h
          | _ => exact False.elim h
      | 1 =>
        intro hic h
        cases st with
        | nil => exact False.elim h
        | cons w0 st1 =>
          cases w0 with
          | int y =>
            cases st1 with
            | nil => exact False.elim h
            | cons w1 st' =>
              cases w1 with
              | int x =>
                obtain ⟨h1, h2⟩ := h
                by_cases c : x = y
                · exact rc_Tc.step (pc' := n) (by unfold rc_next; rw [hic]; simp [rc_sB, c]) (ih _ _ _ _ (h2 c))
                · exact rc_Tc.step (pc' := a) (by unfold rc_next; rw [hic]; simp [rc_sB, c]) (ih _ _ _ _ (h1 c))
              | _ => exact False.elim h
          | _ => exact False.elim h
      | 2 =>
        intro hic h
        cases st with
        | nil => exact False.elim h
        | cons w0 st1 =>
          cases w0 with
          | int y =>
            cases st1 with
            | nil => exact False.elim h
            | cons w1 st' =>
              cases w1 with
              | int x =>
                obtain ⟨h1, h2⟩ := h
                by_cases c : x < y
                · exact rc_Tc.step (pc' := a) (by unfold rc_next; rw [hic]; simp [rc_sB, c]) (ih _ _ _ _ (h1 c))
                · exact rc_Tc.step (pc' := n) (by unfold rc_next; rw [hic]; simp [rc_sB, c]) (ih _ _ _ _ (h2 c))
              | _ => exact False.elim h
          | _ => exact False.elim h
      | 3 =>
        intro hic h
        cases st with
        | nil => exact False.elim h
        | cons w0 st1 =>
          cases w0 with
          | int y =>
            cases st1 with
            | nil => exact False.elim h
            | cons w1 st' =>
              cases w1 with
              | int x =>
                obtain ⟨h1, h2⟩ := h
                by_cases c : y ≤ x
                · exact rc_Tc.step (pc' := a) (by unfold rc_next; rw [hic]; simp [rc_sB, c]) (ih _ _ _ _ (h1 c))
                · exact rc_Tc.step (pc' := n) (by unfold rc_next; rw [hic]; simp [rc_sB, c]) (ih _ _ _ _ (h2 c))
              | _ => exact False.elim h
          | _ => exact False.elim h
      | 4 =>
        intro hic h
        cases st with
        | nil => exact False.elim h
        | cons w0 st1 =>
          cases w0 with
          | int y =>
            cases st1 with
            | nil => exact False.elim h
            | cons w1 st' =>
              cases w1 with
              | int x =>
                obtain ⟨h1, h2⟩ := h
                by_cases c : y < x
                · exact rc_Tc.step (pc' := a) (by unfold rc_next; rw [hic]; simp [rc_sB, c]) (ih _ _ _ _ (h1 c))
                · exact rc_Tc.step (pc' := n) (by unfold rc_next; rw [hic]; simp [rc_sB, c]) (ih _ _ _ _ (h2 c))
              | _ => exact False.elim h
          | _ => exact False.elim h
      | 5 =>
        intro hic h
        cases st with
        | nil => exact False.elim h
        | cons w0 st1 =>
          cases w0 with
          | int y =>
            cases st1 with
            | nil => exact False.elim h
            | cons w1 st' =>
              cases w1 with
              | int x =>
                obtain ⟨h1, h2⟩ := h
                by_cases c : x ≤ y
                · exact rc_Tc.step (pc' := a) (by unfold rc_next; rw [hic]; simp [rc_sB, c]) (ih _ _ _ _ (h1 c))
                · exact rc_Tc.step (pc' := n) (by unfold rc_next; rw [hic]; simp [rc_sB, c]) (ih _ _ _ _ (h2 c))
              | _ => exact False.elim h
          | _ => exact False.elim h
      | 6 =>
        intro hic h
        cases st with
        | nil => exact False.elim h
        | cons w0 st' =>
          cases w0 with
          | int x =>
            obtain ⟨h1, h2⟩ := h
            by_cases c : x = 0
            · exact rc_Tc.step (pc' := a) (by unfold rc_next; rw [hic]; simp [rc_sB, c]) (ih _ _ _ _ (h1 c))
            · exact rc_Tc.step (pc' := n) (by unfold rc_next; rw [hic]; simp [rc_sB, c]) (ih _ _ _ _ (h2 c))
          | _ => exact False.elim h
      | 7 =>
        intro hic h
        cases st with
        | nil => exact False.elim h
        | cons w0 st' =>
          cases w0 with
          | int x =>
            obtain ⟨h1, h2⟩ := h
            by_cases c : x = 0
            · exact rc_Tc.step (pc' := n) (by unfold rc_next; rw [hic]; simp [rc_sB, c]) (ih _ _ _ _ (h2 c))
            · exact rc_Tc.step (pc' := a) (by unfold rc_next; rw [hic]; simp [rc_sB, c]) (ih _ _ _ _ (h1 c))
          | _ => exact False.elim h
      | 8 =>
        intro hic h
        cases st with
        | nil => exact False.elim h
        | cons w0 st' =>
          cases w0 with
          | int x =>
            obtain ⟨h1, h2⟩ := h
            by_cases c : x < 0
            · exact rc_Tc.step (pc' := a) (by unfold rc_next; rw [hic]; simp [rc_sB, c]) (ih _ _ _ _ (h1 c))
            · exact rc_Tc.step (pc' := n) (by unfold rc_next; rw [hic]; simp [rc_sB, c]) (ih _ _ _ _ (h2 c))
          | _ => exact False.elim h
      | 9 =>
        intro hic h
        cases st with
        | nil => exact False.elim h
        | cons w0 st' =>
          cases w0 with
          | int x =>
            obtain ⟨h1, h2⟩ := h
            by_cases c : 0 ≤ x
            · exact rc_Tc.step (pc' := a) (by unfold rc_next; rw [hic]; simp [rc_sB, c]) (ih _ _ _ _ (h1 c))
            · exact rc_Tc.step (pc' := n) (by unfold rc_next; rw [hic]; simp [rc_sB, c]) (ih _ _ _ _ (h2 c))
          | _ => exact False.elim h
      | 10 =>
        intro hic h
        cases st with
        | nil => exact False.elim h
        | cons w0 st' =>
          cases w0 with
          | int x =>
            obtain ⟨h1, h2⟩ := h
            by_cases c : 0 < x
            · exact rc_Tc.step (pc' := a) (by unfold rc_next; rw [hic]; simp [rc_sB, c]) (ih _ _ _ _ (h1 c))
            · exact rc_Tc.step (pc' := n) (by unfold rc_next; rw [hic]; simp [rc_sB, c]) (ih _ _ _ _ (h2 c))
          | _ => exact False.elim h
      | 11 =>
        intro hic h
        cases st with
        | nil => exact False.elim h
        | cons w0 st' =>
          cases w0 with
          | int x =>
            obtain ⟨h1, h2⟩ := h
            by_cases c : x ≤ 0
            · exact rc_Tc.step (pc' := a) (by unfold rc_next; rw [hic]; simp [rc_sB, c]) (ih _ _ _ _ (h1 c))
            · exact rc_Tc.step (pc' := n) (by unfold rc_next; rw [hic]; simp [rc_sB, c]) (ih _ _ _ _ (h2 c))
          | _ => exact False.elim h
      | k + 12 => intro hic h; exact False.elim h
    | 2 =>
      intro h hic
      simp only at h
      revert h hic
      match o with
      | 0 =>
        intro hic h
        cases st with
        | nil => exact False.elim h
        | cons w0 st1 =>
          cases w0 with
          | int y =>
            cases st1 with
            | nil => exact False.elim h
            | cons w1 st' =>
              cases w1 with
              | int x =>
                obtain ⟨h1, h2⟩ := h
                exact rc_Tc.step (by unfold rc_next; rw [hic]; simp [rc_sC, h1]) (ih _ _ _ _ h2)
              | _ => exact False.elim h
          | _ => exact False.elim h
      | 1 =>
        intro hic h
        cases st with
        | nil => exact False.elim h
        | cons w0 st1 =>
          cases w0 with
          | int y =>
            cases st1 with
            | nil => exact False.elim h
            | cons w1 st' =>
              cases w1 with
              | int x =>
                obtain ⟨h1, h2⟩ := h
                exact rc_Tc.step (by unfold rc_next; rw [hic]; simp [rc_sC, h1]) (ih _ _ _ _ h2)
              | _ => exact False.elim h
          | _ => exact False.elim h
      | 2 =>
        intro hic h
        cases st with
        | nil => exact False.elim h
        | cons w0 st1 =>
          cases w0 with
          | int i =>
            cases st1 with
            | nil => exact False.elim h
            | cons w1 st' =>
              cases w1 with
              | ref k =>
                obtain ⟨e, h1, h2⟩ := rc_cond_t h
                exact rc_Tc.step (by unfold rc_next; rw [hic]; simp [rc_sC, rc_okA.of (t := 1) (Nat.eq_of_beq_eq_true e) (by decide), rc_inb_iff.mpr h1]) (ih _ _ _ _ h2)
              | _ => exact False.elim h
          | _ => exact False.elim h
      | 3 =>
        intro hic h
        cases st with
        | nil => exact False.elim h
        | cons w0 st1 =>
          cases w0 with
          | int i =>
            cases st1 with
            | nil => exact False.elim h
            | cons w1 st' =>
              cases w1 with
              | ref k =>
                obtain ⟨e, h1, h2⟩ := h
                exact rc_Tc.step (by unfold rc_next; rw [hic]; simp [rc_sC, rc_okA.of (t := 1) e (by decide), rc_inb_iff.mpr h1]) (ih _ _ _ _ h2)
              | _ => exact False.elim h
          | _ => exact False.elim h
      | 4 =>
        intro hic h
        cases st with
        | nil => exact False.elim h
        | cons w0 st1 =>
          cases w0 with
          | int i =>
            cases st1 with
            | nil => exact False.elim h
            | cons w1 st' =>
              cases w1 with
              | ref k =>
                obtain ⟨q, e, h1, e2, h2⟩ := h
                exact rc_Tc.step (by unfold rc_next; rw [hic]; simp [rc_sC, e2, rc_okA.of (t := 4) e (by decide), rc_inb_iff.mpr h1]) (ih _ _ _ _ h2)
              | _ => exact False.elim h
          | _ => exact False.elim h
      | 5 =>
        intro hic h
        cases st with
        | nil => exact False.elim h
        | cons w0 st1 =>
          cases w0 with
          | int i =>
            cases st1 with
            | nil => exact False.elim h
            | cons w1 st' =>
              cases w1 with
              | ref k =>
                obtain ⟨e, h1, h2⟩ := h
                exact rc_Tc.step (by unfold rc_next; rw [hic]; simp [rc_sC, rc_okA.of (t := 2) e (by decide), rc_inb_iff.mpr h1]) (ih _ _ _ _ h2)
              | _ => exact False.elim h
          | _ => exact False.elim h
      | 6 =>
        intro hic h
        cases st with
        | nil => exact False.elim h
        | cons w0 st1 =>
          cases w0 with
          | int i =>
            cases st1 with
            | nil => exact False.elim h
            | cons w1 st' =>
              cases w1 with
              | ref k =>
                obtain ⟨e, h1, h2⟩ := rc_cond_t h
                exact rc_Tc.step (by unfold rc_next; rw [hic]; simp [rc_sC, rc_okA.of (t := 3) (Nat.eq_of_beq_eq_true e) (by decide), rc_inb_iff.mpr h1]) (ih _ _ _ _ h2)
              | _ => exact False.elim h
          | _ => exact False.elim h
      | 7 =>
        intro hic h
        cases st with
        | nil => exact False.elim h
        | cons w0 st' =>
          cases w0 with
          | ref k =>
            obtain ⟨e, h1, h2⟩ := h
            rcases e with e | e
            · exact rc_Tc.step (by unfold rc_next; rw [hic]; simp [rc_sC, rc_okA.of (t := 1) e (by decide), rc_2k h1]) (ih _ _ _ _ h2)
            · exact rc_Tc.step (by unfold rc_next; rw [hic]; simp [rc_sC, rc_okA.of (t := 2) e (by decide), rc_2k h1]) (ih _ _ _ _ h2)
          | _ => exact False.elim h
      | 8 =>
        intro hic h
        cases st with
        | nil => exact False.elim h
        | cons w0 st' =>
          cases w0 with
          | ref k =>
            obtain ⟨e, h2⟩ := rc_cond_t h
            exact rc_Tc.step (by unfold rc_next; rw [hic]; simp [rc_sC, e]) (ih _ _ _ _ h2)
          | _ => exact False.elim h
      | 9 =>
        intro hic h
        cases st with
        | nil => exact False.elim h
        | cons w0 st' =>
          cases w0 with
          | ref k =>
            obtain ⟨e, h2⟩ := h
            exact rc_Tc.step (by unfold rc_next; rw [hic]; simp [rc_sC, e.ok]) (ih _ _ _ _ h2)
          | _ => exact False.elim h
      | 10 =>
        intro hic h
        cases st with
        | nil => exact False.elim h
        | cons w0 st' =>
          cases w0 with
          | ref k =>
            obtain ⟨e, h2⟩ := rc_cond_t h
            cases e2 : rc_rho k b with
            | none => rw [e2] at h2; exact h2.elim
            | some q =>
              rw [e2] at h2
              exact rc_Tc.step (by unfold rc_next; rw [hic]; simp [rc_sC, e, e2]) (ih _ _ _ _ h2)
          | _ => exact False.elim h
      | 11 =>
        intro hic h
        cases st with
        | nil => exact False.elim h
        | cons w0 st' =>
          cases w0 with
          | ref k =>
            obtain ⟨q, e, e2, h2⟩ := h
            exact rc_Tc.step (by unfold rc_next; rw [hic]; simp [rc_sC, e.ok, e2]) (ih _ _ _ _ h2)
          | _ => exact False.elim h
      | 12 =>
        intro hic h
        cases st with
        | nil => exact False.elim h
        | cons w0 st1 =>
          cases w0 with
          | int i =>
            cases st1 with
            | nil => exact False.elim h
            | cons w1 st' =>
              cases w1 with
              | ref k =>
                obtain ⟨e, h1, h2⟩ := rc_cond_t h
                exact rc_Tc.step (by unfold rc_next; rw [hic]; simp [rc_sC, Nat.eq_of_beq_eq_true e, rc_inb_iff.mpr h1]) (ih _ _ _ _ h2)
              | _ => exact False.elim h
          | _ => exact False.elim h
      | 13 =>
        intro hic h
        cases st with
        | nil => exact False.elim h
        | cons w0 st' =>
          cases w0 with
          | ref k =>
            obtain ⟨e, h2⟩ := rc_cond_t h
            exact rc_Tc.step (by unfold rc_next; rw [hic]; simp [rc_sC, Nat.eq_of_beq_eq_true e]) (ih _ _ _ _ h2)
          | _ => exact False.elim h
      | k + 14 => intro hic h; exact False.elim h
    | 3 =>
      intro h hic
      simp only at h
      revert h hic
      match o with
      | 0 =>
        intro hic h
        cases st with
        | nil => exact False.elim h
        | cons w0 st1 =>
          cases w0 with
          | int x =>
            cases st1 with
            | nil => exact False.elim h
            | cons w1 st' =>
              cases w1 with
              | ref k =>
                obtain ⟨e, h2⟩ := rc_cond_t h
                exact rc_Tc.step (by unfold rc_next; rw [hic]; simp [rc_sD, e]) (ih _ _ _ _ h2)
              | _ => exact False.elim h
          | _ => exact False.elim h
      | 1 =>
        intro hic h
        cases st with
        | nil => exact False.elim h
        | cons w0 st1 =>
          cases w0 with
          | int x =>
            cases st1 with
            | nil => exact False.elim h
            | cons w1 st' =>
              cases w1 with
              | ref k =>
                obtain ⟨e, h2⟩ := h
                exact rc_Tc.step (by unfold rc_next; rw [hic]; simp [rc_sD, e.ok]) (ih _ _ _ _ h2)
              | _ => exact False.elim h
          | _ => exact False.elim h
      | 2 =>
        intro hic h
        cases st with
        | nil => exact False.elim h
        | cons w0 st1 =>
          cases w0 with
          | int x =>
            cases st1 with
            | nil => exact False.elim h
            | cons w1 st' =>
              cases w1 with
              | ref k =>
                obtain ⟨e, h1, h2⟩ := rc_cond_t h
                exact rc_Tc.step (by unfold rc_next; rw [hic]; simp [rc_sD, e, rc_01 h1]) (ih _ _ _ _ h2)
              | _ => exact False.elim h
          | _ => exact False.elim h
      | 3 =>
        intro hic h
        cases st with
        | nil => exact False.elim h
        | cons w0 st1 =>
          cases w0 with
          | int x =>
            cases st1 with
            | nil => exact False.elim h
            | cons w1 st2 =>
              cases w1 with
              | int i =>
                cases st2 with
                | nil => exact False.elim h
                | cons w2 st' =>
                  cases w2 with
                  | ref k =>
                    obtain ⟨e, h1, h2⟩ := rc_cond_t h
                    rw [Bool.and_eq_true] at e
                    exact rc_Tc.step (by unfold rc_next; rw [hic]; simp [rc_sD, e.2, rc_okA.of (t := 1) (Nat.eq_of_beq_eq_true e.1) (by decide), rc_inb_iff.mpr h1]) (ih _ _ _ _ h2)
                  | _ => exact False.elim h
              | _ => exact False.elim h
          | _ => exact False.elim h
      | 4 =>
        intro hic h
        cases st with
        | nil => exact False.elim h
        | cons w0 st1 =>
          cases w0 with
          | int x =>
            cases st1 with
            | nil => exact False.elim h
            | cons w1 st2 =>
              cases w1 with
              | int i =>
                cases st2 with
                | nil => exact False.elim h
                | cons w2 st' =>
                  cases w2 with
                  | ref k =>
                    obtain ⟨e, e2, h1, h2⟩ := h
                    exact rc_Tc.step (by unfold rc_next; rw [hic]; simp [rc_sD, rc_2k e2, rc_okA.of (t := 1) e (by decide), rc_inb_iff.mpr h1]) (ih _ _ _ _ h2)
                  | _ => exact False.elim h
              | _ => exact False.elim h
          | _ => exact False.elim h
      | 5 =>
        intro hic h
        cases st with
        | nil => exact False.elim h
        | cons w0 st1 =>
          cases w0 with
          | int x =>
            cases st1 with
            | nil => exact False.elim h
            | cons w1 st2 =>
              cases w1 with
              | int i =>
                cases st2 with
                | nil => exact False.elim h
                | cons w2 st' =>
                  cases w2 with
                  | ref k =>
                    obtain ⟨e, h0, h1, h2⟩ := rc_cond_t h
                    exact rc_Tc.step (by unfold rc_next; rw [hic]; simp [rc_sD, rc_01 h0, rc_okA.of (t := 3) (Nat.eq_of_beq_eq_true e) (by decide), rc_inb_iff.mpr h1]) (ih _ _ _ _ h2)
                  | _ => exact False.elim h
              | _ => exact False.elim h
          | _ => exact False.elim h
      | 6 =>
        intro hic h
        cases st with
        | nil => exact False.elim h
        | cons w0 st1 =>
          cases w0 with
          | int z =>
            cases st1 with
            | nil => exact False.elim h
            | cons w1 st2 =>
              cases w1 with
              | int dp =>
                cases st2 with
                | nil => exact False.elim h
                | cons w2 st3 =>
                  cases w2 with
                  | ref k2 =>
                    cases st3 with
                    | nil => exact False.elim h
                    | cons w3 st4 =>
                      cases w3 with
                      | int sp =>
                        cases st4 with
                        | nil => exact False.elim h
                        | cons w4 st' =>
                          cases w4 with
                          | ref k1 =>
                            obtain ⟨e, ⟨a1, a2, a3, a4, a5, a6, a7, a8, a9⟩, h2⟩ := rc_cond_t h
                            exact rc_Tc.step (by unfold rc_next; rw [hic]; simp [rc_sD, e, rc_okA.of (t := 1) a1 (by decide), rc_okA.of (t := 1) a2 (by decide), rc_2k a3, rc_2k a4, a5, a6, a7, a8, a9]) (ih _ _ _ _ h2)
                          | _ => exact False.elim h
                      | _ => exact False.elim h
                  | _ => exact False.elim h
              | _ => exact False.elim h
          | _ => exact False.elim h
      | k + 7 => intro hic h; exact False.elim h
    | 4 => intro h hic; exact False.elim h
    | 5 =>
      intro h hic
      cases st with
      | nil => exact False.elim h
      | cons w0 st' =>
        cases w0 with
        | int x =>
          rcases hsw : rc_sw mi pc with ⟨lo, ts, df⟩
          simp only [hsw] at h
          obtain ⟨h1, h2⟩ := h
          refine rc_Tc.step (pc' := rc_swt (rc_sw mi pc) x) (ls' := ls) (st' := st') (σ' := σ) (by unfold rc_next; rw [hic]; rfl) ?_
          rw [hsw]
          unfold rc_swt
          dsimp only
          by_cases c1 : x.toInt < (lo : Int)
          · rw [if_pos c1]; exact ih _ _ _ _ (h2 (Or.inl c1))
          · rw [if_neg c1]
            cases ht : ts[(x.toInt - (lo : Int)).toNat]? with
            | none =>
              have hl : ts.length ≤ (x.toInt - (lo : Int)).toNat := List.getElem?_eq_none_iff.mp ht
              exact ih _ _ _ _ (h2 (Or.inr (by omega)))
            | some t =>
              refine ih _ _ _ _ (rc_swP_at ts lo x _ h1 _ t ht ?_)
              have hx : x.toInt = ((lo + (x.toInt - (lo : Int)).toNat : Nat) : Int) := by omega
              have h32 : x.toInt < 2 ^ 31 := Int32.toInt_lt x
              exact Int32.toInt_inj.mp (by rw [nI_toInt (by omega)]; exact hx)
        | _ => exact False.elim h
    | 6 =>
      intro h hic
      simp only at h
      cases hs : rc_split (rc_nA a) [] st with
      | none => rw [hs] at h; exact h.elim
      | some z =>
        obtain ⟨args, rest⟩ := z
        rw [hs] at h
        simp only at h
        obtain ⟨e, h⟩ := rc_cond_t h
        rw [Bool.and_eq_true, Bool.and_eq_true] at e
        have e2 : rc_mc a = 0 := Nat.eq_of_beq_eq_true e.2.2
        have e3 : Nat.ble rc_K (rc_K - rc_mc mi + rc_mc mi) = true := Nat.ble_eq.mpr (by omega)
        cases d with
        | zero => exact False.elim h
        | succ d =>
          have fin : ∀ (hr : rc_rcv o a rc_K args = true), rc_aft b d a args σ (fun σ' => K n ls rest σ') (fun x σ' => K n ls (.int x :: rest) σ') → rc_Tc (d + 1) mi pc ls st σ Q := by
            intro hr hh
            refine rc_Tc.call e2 (a := a) (args := args) (pc' := n) (rest := rest) (by unfold rc_next; rw [hic]; simp [hs, hr, e2, e.1, e.2.1, e3]) ?_
            cases b with
            | zero => exact rc_Tc.weak hh (fun r σ' q => by obtain ⟨q1, q2⟩ := q; subst q1; exact ih _ _ _ _ q2)
            | succ b => exact rc_Tc.weak hh (fun r σ' q => by obtain ⟨x, q1, q2⟩ := q; subst q1; exact ih _ _ _ _ q2)
          clear hic
          revert h fin
          match o with
          | 0 => intro h fin; exact fin rfl h
          | 1 => intro h fin; exact fin rfl h
          | 2 =>
            intro h fin
            match args, h, fin with
            | .ref k :: _, h, fin =>
              obtain ⟨e3, h⟩ := rc_cond_t h
              exact fin e3 h
            | [], h, _ => exact False.elim h
            | .int _ :: _, h, _ => exact False.elim h
            | .null :: _, h, _ => exact False.elim h
            | .long _ :: _, h, _ => exact False.elim h
            | .float _ :: _, h, _ => exact False.elim h
            | .double _ :: _, h, _ => exact False.elim h
            | .retAddr _ :: _, h, _ => exact False.elim h
          | 3 =>
            intro h fin
            match args, h, fin with
            | .ref k :: _, h, fin =>
              obtain ⟨e3, h⟩ := h
              exact fin e3.ok h
            | [], h, _ => exact False.elim h
            | .int _ :: _, h, _ => exact False.elim h
            | .null :: _, h, _ => exact False.elim h
            | .long _ :: _, h, _ => exact False.elim h
            | .float _ :: _, h, _ => exact False.elim h
            | .double _ :: _, h, _ => exact False.elim h
            | .retAddr _ :: _, h, _ => exact False.elim h
          | k + 4 => intro h fin; exact False.elim h
    | 7 =>
      intro h hic
      obtain ⟨e, h⟩ := rc_cond_t h
      have hmc := e
      revert h hic
      match o with
      | 0 =>
        intro hic h
        match st, h with
        | [.int x], h => exact rc_Tc.done (by unfold rc_next; rw [hic]; simp [rc_ans, hmc]) h
      | 1 =>
        intro hic h
        match st, h with
        | [.int x], h => exact rc_Tc.done (by unfold rc_next; rw [hic]; simp [rc_ans, hmc, rc_01 h.1]) h.2
      | 2 =>
        intro hic h
        match st, h with
        | [], h => exact rc_Tc.done (by unfold rc_next; rw [hic]; simp [rc_ans, hmc]) h
      | k + 3 => intro hic h; exact False.elim h
    | 8 =>
      intro h hic
      simp only at h
      cases hs : rc_sF o st with
      | none => rw [hs] at h; exact h.elim
      | some z =>
        obtain ⟨y, st'⟩ := z
        rw [hs] at h
        obtain ⟨e, h2⟩ := rc_cond_t h
        exact rc_Tc.step (by unfold rc_next; rw [hic]; simp [hs, e]) (ih _ _ _ _ h2)
    | k + 9 => intro h hic; exact False.elim h
theorem rc_sx_ok : ∀ (f : Nat) (fl : Bool) (d mi pc : Nat) (ls st : List Value) (σ : rc_M) (Q : Option Value → rc_M → Prop), rc_sx f fl d mi pc ls st σ Q → rc_Tc d mi pc ls st σ Q := by
  intro f
  induction f with
  | zero => intro fl d mi pc ls st σ Q h; exact h
  | succ f ih =>
    intro fl d mi pc ls st σ Q h
    exact rc_x1_ok (fun pc' ls' st' σ' k => ih true d mi pc' ls' st' σ' Q k) h
/-- from a loop's head, or a method's start, on: f instructions at most, to the next heads -/
theorem rc_go {d mi pc : Nat} {ls st : List Value} {σ : rc_M} {Q : Option Value → rc_M → Prop} (f : Nat) (h : rc_sx f false d mi pc ls st σ Q) : rc_Tc d mi pc ls st σ Q := rc_sx_ok f false d mi pc ls st σ Q h
