/-! the tables and the tables' arrays, whatever the machine has done meanwhile -/
def rc_wt (j : Nat) : Int32 := match j with
  | 0 => 1
  | 1 => 3
  | 2 => 9
  | _ => 0
def rc_TB (dC : Nat → ClassId) (dI : Nat → Nat → Nat) (cy : Nat → ClassId) (A : Nat → Prop) (wA : Nat) (Zk : State → Heap → Prop) (U : State) (H : Heap) : Prop :=
  va_K (dC, dI) vwCl (rc_tys cy) U ∧ (∀ w ∈ rc_nest, va_Nw w U) ∧ (va_AO RX6 U ∧ va_AO RX1 U) ∧ va_Z RX9 "WEIGHTS" "[I" (.ref wA) A U H ∧ va_T .int wA 3 (fun j => .int (rc_wt j)) A U H ∧ Zk U H
/-- what the strings' laws need to be carried along -/
def rc_ZC (A : Nat → Prop) (Zk : State → Heap → Prop) : Prop := (∀ (s U : State) (H : Heap), s.WarmedH U.vm → Zk s H → Zk U H) ∧ (∀ (U : State) (H H1 : Heap), (∀ q : Nat, q < H.size → ¬ A q → H1[q]? = H[q]?) → Zk U H → Zk U H1) ∧ ∀ (u U : State) (H : Heap), U.vm = u.vm → Zk u H → Zk U H
theorem rc_nw_warm {s U : State} (hW : s.WarmedH U.vm) (h : ∀ w ∈ rc_nest, va_Nw w s) : ∀ w ∈ rc_nest, va_Nw w U := by
  have e : rc_nest.all (fun w => match w with | .fieldLinkNest .. => true | .methodLinkNest .. => true | _ => false) = true := by decide +kernel
  intro w hw
  have h1 := List.all_eq_true.mp e w hw
  have h2 := h w hw
  split at h1
  · exact va_Nw.warmF hW h2
  · exact va_Nw.warmM hW h2
  · cases h1
theorem rc_TB.warm {dC : Nat → ClassId} {dI : Nat → Nat → Nat} {cy : Nat → ClassId} {A : Nat → Prop} {wA : Nat} {Zk : State → Heap → Prop} (hz : rc_ZC A Zk) {s U : State} {H : Heap} (hW : s.WarmedH U.vm) (h : rc_TB dC dI cy A wA Zk s H) : rc_TB dC dI cy A wA Zk U H :=
  ⟨va_K.moved hW.alike h.1, rc_nw_warm hW h.2.1, ⟨h.2.2.1.1.moved hW.alike, h.2.2.1.2.moved hW.alike⟩, h.2.2.2.1.moved hW.alike, h.2.2.2.2.1.moved hW.alike, hz.1 s U H hW h.2.2.2.2.2⟩
theorem rc_TB.kept {dC : Nat → ClassId} {dI : Nat → Nat → Nat} {cy : Nat → ClassId} {A : Nat → Prop} {wA : Nat} {Zk : State → Heap → Prop} (hz : rc_ZC A Zk) {U : State} {H H1 : Heap} (hq : ∀ q : Nat, q < H.size → ¬ A q → H1[q]? = H[q]?) (h : rc_TB dC dI cy A wA Zk U H) : rc_TB dC dI cy A wA Zk U H1 :=
  ⟨h.1, h.2.1, h.2.2.1, h.2.2.2.1.kept hq, h.2.2.2.2.1.kept hq, hz.2.1 U H H1 hq h.2.2.2.2.2⟩
theorem rc_TB.same {dC : Nat → ClassId} {dI : Nat → Nat → Nat} {cy : Nat → ClassId} {A : Nat → Prop} {wA : Nat} {Zk : State → Heap → Prop} (hz : rc_ZC A Zk) {u U : State} {H : Heap} (hv : U.vm = u.vm) (h : rc_TB dC dI cy A wA Zk u H) : rc_TB dC dI cy A wA Zk U H := by
  have ha : u.vm.Alike U.vm := by rw [hv]; exact Vm.Alike.refl _
  have e : ∀ w ∈ rc_nest, w.onTables = true := by
    have e0 : rc_nest.all (fun w => w.onTables) = true := by decide +kernel
    exact fun w hw => List.all_eq_true.mp e0 w hw
  exact ⟨va_K.moved ha h.1, fun w hw => va_Nw.same (e w hw) hv.symm (h.2.1 w hw), ⟨h.2.2.1.1.moved ha, h.2.2.1.2.moved ha⟩, h.2.2.2.1.moved ha, h.2.2.2.2.1.moved ha, hz.2.2 u U H hv h.2.2.2.2.2⟩
theorem rc_sD_keep {o a b : Nat} {st st' : List Value} {S : rc_S} {σ' : rc_M} (h : rc_sD o a b st S = some (st', σ')) : ∀ k, k < 2 → σ' k = S.1 k := by
  have key : ∀ (k : Nat) (f : Nat → Int32), 2 ≤ k → ∀ k1, k1 < 2 → rc_up S.1 k f k1 = S.1 k1 := fun k f h2 k1 h1 => rc_up_n _ _ (by omega)
  revert h
  match o with
  | 0 =>
    intro h
    cases st with
    | nil => cases h
    | cons w0 su1 =>
      cases w0 with
      | int x =>
        cases su1 with
        | nil => cases h
        | cons w1 st1 =>
          cases w1 with
          | ref k =>
            simp only [rc_sD] at h
            cases hc : (rc_okO k a S.2.2) with
            | false => rw [hc] at h; cases h
            | true =>
              rw [hc] at h
              cases h
              exact key _ _ (rc_okO_s hc).2.2.2
          | _ => cases h
      | _ => cases h
  | 1 =>
    intro h
    cases st with
    | nil => cases h
    | cons w0 su1 =>
      cases w0 with
      | int x =>
        cases su1 with
        | nil => cases h
        | cons w1 st1 =>
          cases w1 with
          | ref k =>
            simp only [rc_sD] at h
            cases hc : (rc_okO k a S.2.2) with
            | false => rw [hc] at h; cases h
            | true =>
              rw [hc] at h
              cases h
              exact key _ _ (rc_okO_s hc).2.2.2
          | _ => cases h
      | _ => cases h
  | 2 =>
    intro h
    cases st with
    | nil => cases h
    | cons w0 su1 =>
      cases w0 with
      | int x =>
        cases su1 with
        | nil => cases h
        | cons w1 st1 =>
          cases w1 with
          | ref k =>
            simp only [rc_sD] at h
            cases hc : (rc_okO k a S.2.2 && (decide (x = 0) || decide (x = 1))) with
            | false => rw [hc] at h; cases h
            | true =>
              rw [hc] at h
              cases h
              rw [Bool.and_eq_true] at hc
              exact key _ _ (rc_okO_s hc.1).2.2.2
          | _ => cases h
      | _ => cases h
  | 3 =>
    intro h
    cases st with
    | nil => cases h
    | cons w0 su1 =>
      cases w0 with
      | int x =>
        cases su1 with
        | nil => cases h
        | cons w1 su2 =>
          cases w1 with
          | int j =>
            cases su2 with
            | nil => cases h
            | cons w2 st1 =>
              cases w2 with
              | ref k =>
                simp only [rc_sD] at h
                cases hc : (rc_okA k 1 S.2.2 && (Nat.ble 2 k && rc_inb j (rc_lay k).2.2)) with
                | false => rw [hc] at h; cases h
                | true =>
                  rw [hc] at h
                  cases h
                  rw [Bool.and_eq_true, Bool.and_eq_true] at hc
                  exact key _ _ (Nat.le_of_ble_eq_true hc.2.1)
              | _ => cases h
          | _ => cases h
      | _ => cases h
  | 4 =>
    intro h
    cases st with
    | nil => cases h
    | cons w0 su1 =>
      cases w0 with
      | int x =>
        cases su1 with
        | nil => cases h
        | cons w1 su2 =>
          cases w1 with
          | int j =>
            cases su2 with
            | nil => cases h
            | cons w2 st1 =>
              cases w2 with
              | ref k =>
                simp only [rc_sD] at h
                cases hc : (rc_okA k 1 S.2.2 && (Nat.ble 2 k && rc_inb j (rc_lay k).2.2)) with
                | false => rw [hc] at h; cases h
                | true =>
                  rw [hc] at h
                  cases h
                  rw [Bool.and_eq_true, Bool.and_eq_true] at hc
                  exact key _ _ (Nat.le_of_ble_eq_true hc.2.1)
              | _ => cases h
          | _ => cases h
      | _ => cases h
  | 5 =>
    intro h
    cases st with
    | nil => cases h
    | cons w0 su1 =>
      cases w0 with
      | int x =>
        cases su1 with
        | nil => cases h
        | cons w1 su2 =>
          cases w1 with
          | int j =>
            cases su2 with
            | nil => cases h
            | cons w2 st1 =>
              cases w2 with
              | ref k =>
                simp only [rc_sD] at h
                cases hc : (rc_okA k 3 S.2.2 && ((decide (x = 0) || decide (x = 1)) && rc_inb j (rc_lay k).2.2)) with
                | false => rw [hc] at h; cases h
                | true =>
                  rw [hc] at h
                  cases h
                  rw [Bool.and_eq_true, Bool.and_eq_true] at hc
                  obtain ⟨e1, e3⟩ := rc_okA_s hc.1
                  exact key _ _ (rc_lay_2 (by rw [e1]; decide) (by rw [e1]; decide))
              | _ => cases h
          | _ => cases h
      | _ => cases h
  | 6 =>
    intro h
    cases st with
    | nil => cases h
    | cons w0 su1 =>
      cases w0 with
      | int z =>
        cases su1 with
        | nil => cases h
        | cons w1 su2 =>
          cases w1 with
          | int dp =>
            cases su2 with
            | nil => cases h
            | cons w2 su3 =>
              cases w2 with
              | ref k2 =>
                cases su3 with
                | nil => cases h
                | cons w3 su4 =>
                  cases w3 with
                  | int sp =>
                    cases su4 with
                    | nil => cases h
                    | cons w4 st1 =>
                      cases w4 with
                      | ref k1 =>
                        simp only [rc_sD] at h
                        cases hc : (rc_okA k1 1 S.2.2 && (rc_okA k2 1 S.2.2 && (Nat.ble 2 k1 && (Nat.ble 2 k2 && ((!decide (sp < 0)) && ((!decide (dp < 0)) && ((!decide (z < 0)) && (decide (sp.toNatClampNeg + z.toNatClampNeg ≤ (rc_lay k1).2.2) && (decide (dp.toNatClampNeg + z.toNatClampNeg ≤ (rc_lay k2).2.2) && Nat.ble (rc_wk st1) 8))))))))) with
                        | false => rw [hc] at h; cases h
                        | true =>
                          rw [hc] at h
                          cases h
                          simp only [Bool.and_eq_true] at hc
                          exact key _ _ (Nat.le_of_ble_eq_true hc.2.2.2.1)
                      | _ => cases h
                  | _ => cases h
              | _ => cases h
          | _ => cases h
      | _ => cases h
  | k + 7 => intro h; cases h
theorem rc_split_s : ∀ (n : Nat) (acc st args rest : List Value), rc_split n acc st = some (args, rest) → ∃ top : List Value, top.length = n ∧ st = top ++ rest ∧ args = top.reverse ++ acc := by
  intro n
  induction n with
  | zero => intro acc st args rest h; cases h; exact ⟨[], rfl, rfl, rfl⟩
  | succ n ih =>
    intro acc st args rest h
    cases st with
    | nil => cases h
    | cons v st =>
      obtain ⟨top, h1, h2, h3⟩ := ih (v :: acc) st args rest h
      exact ⟨v :: top, by simp [h1], by simp [h2], by simp [h3]⟩
theorem rc_get_pad : ∀ (n : Nat) (l : List Value) (i : Nat), rc_get (rc_pad n l) i = rc_get l i := by
  intro n
  induction n with
  | zero => intro l i; cases l <;> rfl
  | succ n ih =>
    intro l i
    cases l with
    | nil =>
      cases i with
      | zero => rfl
      | succ i => exact ih [] i
    | cons v l =>
      cases i with
      | zero => rfl
      | succ i => exact ih l i
theorem rc_pad_len : ∀ (n : Nat) (l : List Value), l.length ≤ n → (rc_pad n l).length = n := by
  intro n
  induction n with
  | zero => intro l h; cases l with
    | nil => rfl
    | cons v l => simp at h
  | succ n ih =>
    intro l h
    cases l with
    | nil => simp [rc_pad, ih]
    | cons v l => simp [rc_pad, ih l (by simpa using h)]
theorem rc_sl_len (ad : Nat → Nat) : ∀ l : List Value, rc_okc l = true → (lg_sl (l.map (rc_shv ad))).length = l.length := by
  intro l
  induction l with
  | nil => intro _; rfl
  | cons v l ih =>
    intro h
    cases v with
    | int x =>
      have := ih h
      simp [lg_sl, rc_shv, Value.category] at this ⊢
      omega
    | ref x =>
      have := ih h
      simp [lg_sl, rc_shv, Value.category] at this ⊢
      omega
    | _ => cases h
theorem rc_args_in (ad : Nat → Nat) : ∀ (l : List Value) (j : Nat), rc_okc l = true → ∀ i, rc_get l i ≠ .null → (j + i, rc_shv ad (rc_get l i)) ∈ lv_args j (l.map (rc_shv ad)) := by
  intro l
  induction l with
  | nil => intro j _ i h; exact absurd rfl h
  | cons v l ih =>
    intro j h i hi
    have hl : rc_okc l = true ∧ ¬ (rc_shv ad v).category = 2 := by
      cases v with
      | int x => exact ⟨h, by simp [rc_shv, Value.category]⟩
      | ref x => exact ⟨h, by simp [rc_shv, Value.category]⟩
      | _ => cases h
    rw [List.map_cons, lv_args, if_neg hl.2]
    cases i with
    | zero => exact List.mem_cons_self
    | succ i =>
      have := ih (j + 1) hl.1 i hi
      refine List.mem_cons_of_mem _ ?_
      rw [show j + (i + 1) = j + 1 + i by omega]
      exact this
theorem rc_pad_L {ad : Nat → Nat} {args : List Value} {mx : Nat} (h : args.length ≤ mx) (hc : rc_okc args = true) : rc_L ad mx (rc_pad mx args) ((lg_sl (args.map (rc_shv ad)) ++ List.replicate (mx - (lg_sl (args.map (rc_shv ad))).length) Slot.unset).toArray) := by
  obtain ⟨h1, h2, h3⟩ := lv_entry (args.map (rc_shv ad)) (n := mx) (by rw [rc_sl_len ad args hc]; exact h)
  refine ⟨⟨h1, h2, fun q hq => by cases hq⟩, rc_pad_len mx args h, fun a x e => ?_, fun a k e => ?_⟩
  · rw [rc_get_pad] at e
    have := rc_args_in ad args 0 hc a (by rw [e]; exact fun z => by cases z)
    rw [e, Nat.zero_add] at this
    exact h3 _ this
  · rw [rc_get_pad] at e
    have := rc_args_in ad args 0 hc a (by rw [e]; exact fun z => by cases z)
    rw [e, Nat.zero_add] at this
    exact h3 _ this
