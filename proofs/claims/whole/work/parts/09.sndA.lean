theorem rc_wk_map (ad : Nat → Nat) : ∀ st : List Value, ((st.map (rc_shv ad)).map (fun v => v.category)).sum = rc_wk st := by
  intro st
  induction st with
  | nil => rfl
  | cons u l ih =>
    rw [List.map_cons, List.map_cons, List.sum_cons, ih]
    cases u <;> rfl
section RSA
variable {p : Program} {l : Launch} {e : Env} {R : Room} {s : State} {m : MethodId} {args : Array Value} {below : List Frame} {meth : Method} {c : Code} {H : Heap} {locs : List Loc} {cells slots : Nat} {Q : State → Prop}
variable {dC : Nat → ClassId} {dI : Nat → Nat → Nat} {cy : Nat → ClassId} {ad : Nat → Nat} {A : Nat → Prop} {mi pc n a b o len : Nat} {v : Int32} {ls st : List Value} {S : rc_S} {ls0 : Array Slot} {i : Instr}

set_option maxHeartbeats 4000000 in
theorem rc_A {n' : Nat} {ls' st' : List Value} (hx : p.tables.exec = Jvm.exec) (hb : c.code = rc_code mi) (hml : c.maxLocals = rc_mx mi) (hown : s.vm.findClass (rc_own mi) = some m.cls) (hts : ∀ w ∈ rc_wsG, w.before args s = true) (hnest : ∀ w ∈ rc_nest, va_Nw w s) (hZ : va_Z RX9 "WEIGHTS" "[I" (.ref (ad 0)) A s s.heap) (hS : va_S A s.heap H locs)
    (hoi : Cond.instanceMethod objectInit ∈ rc_wsG ∧ Cond.code objectInit ⟨#[0xb1]⟩ 1 none ∈ rc_wsG) (hRf : 1 ≤ R.frames) (hRl : 40 ≤ R.locals) (hL : rc_L ad (rc_mx mi) ls ls0) (hd : decode (rc_code mi) pc = .ok (i, len)) (hk : rc_kA mi pc o n a v i len = true) (h : rc_sA o n a v ls st = some (n', ls', st'))
    (kk : ∀ ls1 : Array Slot, rc_L ad (rc_mx mi) ls' ls1 → W p l e R s m args below meth c H locs cells slots Q (F0 m n' ls1 (st'.map (rc_shv ad)))) : W p l e R s m args below meth c H locs cells slots Q (F0 m pc ls0 (st.map (rc_shv ad))) := by
  revert hk h
  match o with
  | 0 =>
    intro hk h
    simp only [rc_sA, Option.some.injEq, Prod.mk.injEq] at h
    obtain ⟨rfl, rfl, rfl⟩ := h
    simp only [rc_kA] at hk
    split at hk
    · rename_i z
      simp only [Bool.and_eq_true, decide_eq_true_eq] at hk
      obtain ⟨rfl, rfl, e⟩ := hk
      exact lv_iconst hx hb hd e (kk _ hL)
    · rename_i z
      simp only [Bool.and_eq_true, decide_eq_true_eq] at hk
      obtain ⟨rfl, rfl, e⟩ := hk
      exact lv_bipush hx hb hd e (kk _ hL)
    · rename_i z
      simp only [Bool.and_eq_true, decide_eq_true_eq] at hk
      obtain ⟨rfl, rfl, e⟩ := hk
      exact lv_sipush hx hb hd e (kk _ hL)
    · rename_i ix
      simp only [Bool.and_eq_true, decide_eq_true_eq] at hk
      obtain ⟨rfl, rfl, e⟩ := hk
      exact lv_ldc hx hb hown (hts _ (rc_has_in e)) hd (kk _ hL)
    · rename_i ix
      simp only [Bool.and_eq_true, decide_eq_true_eq] at hk
      obtain ⟨rfl, rfl, e⟩ := hk
      exact lv_ldcw hx hb hown (hts _ (rc_has_in e)) hd (kk _ hL)
    · cases hk
  | 1 =>
    intro hk h
    simp only [rc_sA] at h
    split at h
    · rename_i x ex
      simp only [Option.some.injEq, Prod.mk.injEq] at h
      obtain ⟨rfl, rfl, rfl⟩ := h
      simp only [rc_kA] at hk
      split at hk
      · rename_i k
        simp only [Bool.and_eq_true, decide_eq_true_eq] at hk
        obtain ⟨rfl, rfl, e⟩ := hk
        exact lv_iload_n hx hb hd e (hL.2.2.1 a x ex) (kk _ hL)
      · rename_i k
        simp only [Bool.and_eq_true, decide_eq_true_eq] at hk
        obtain ⟨rfl, rfl, e⟩ := hk
        subst e
        exact lv_iload hx hb hd (hL.2.2.1 _ x ex) (kk _ hL)
      · cases hk
    · cases h
  | 2 =>
    intro hk h
    simp only [rc_sA] at h
    split at h
    · rename_i x ex
      simp only [Option.some.injEq, Prod.mk.injEq] at h
      obtain ⟨rfl, rfl, rfl⟩ := h
      simp only [rc_kA] at hk
      split at hk
      · rename_i k
        simp only [Bool.and_eq_true, decide_eq_true_eq] at hk
        obtain ⟨rfl, rfl, e⟩ := hk
        exact lv_aload_n hx hb hd e (hL.2.2.2 a x ex) (kk _ hL)
      · rename_i k
        simp only [Bool.and_eq_true, decide_eq_true_eq] at hk
        obtain ⟨rfl, rfl, e⟩ := hk
        subst e
        exact lv_aload hx hb hd (hL.2.2.2 _ x ex) (kk _ hL)
      · cases hk
    · cases h
  | 3 =>
    intro hk h
    cases st with
    | nil => cases h
    | cons w0 st1 =>
      cases w0 with
      | int x =>
        simp only [rc_sA, Option.some.injEq, Prod.mk.injEq] at h
        obtain ⟨rfl, rfl, rfl⟩ := h
        simp only [rc_kA] at hk
        split at hk
        · rename_i k
          simp only [Bool.and_eq_true, decide_eq_true_eq] at hk
          obtain ⟨rfl, rfl, e⟩ := hk
          obtain ⟨e, ha⟩ := e
          subst e; exact lv_istore_n (nL := rc_mx mi) (lv := rc_lv ad (rc_mx mi) ls) hx hb hd rfl hL.has ha rfl (fun ls1 h1 => kk ls1 (rc_L.store (w := .int x) hL.2.1 (Or.inl ⟨x, rfl⟩) ha h1))
        · rename_i k
          simp only [Bool.and_eq_true, decide_eq_true_eq] at hk
          obtain ⟨rfl, rfl, e⟩ := hk
          obtain ⟨e, ha⟩ := e
          subst e; exact lv_istore (nL := rc_mx mi) (lv := rc_lv ad (rc_mx mi) ls) hx hb hd hL.has ha rfl (fun ls1 h1 => kk ls1 (rc_L.store (w := .int x) hL.2.1 (Or.inl ⟨x, rfl⟩) ha h1))
        · cases hk
      | _ => cases h
  | 4 =>
    intro hk h
    cases st with
    | nil => cases h
    | cons w0 st1 =>
      cases w0 with
      | ref x =>
        simp only [rc_sA, Option.some.injEq, Prod.mk.injEq] at h
        obtain ⟨rfl, rfl, rfl⟩ := h
        simp only [rc_kA] at hk
        split at hk
        · rename_i k
          simp only [Bool.and_eq_true, decide_eq_true_eq] at hk
          obtain ⟨rfl, rfl, e⟩ := hk
          obtain ⟨e, ha⟩ := e
          subst e; exact lv_astore_n (nL := rc_mx mi) (lv := rc_lv ad (rc_mx mi) ls) hx hb hd rfl hL.has ha rfl (fun ls1 h1 => kk ls1 (rc_L.store (w := .ref x) hL.2.1 (Or.inr ⟨x, rfl⟩) ha h1))
        · rename_i k
          simp only [Bool.and_eq_true, decide_eq_true_eq] at hk
          obtain ⟨rfl, rfl, e⟩ := hk
          obtain ⟨e, ha⟩ := e
          subst e; exact lv_astore (nL := rc_mx mi) (lv := rc_lv ad (rc_mx mi) ls) hx hb hd hL.has ha rfl (fun ls1 h1 => kk ls1 (rc_L.store (w := .ref x) hL.2.1 (Or.inr ⟨x, rfl⟩) ha h1))
        · cases hk
      | _ => cases h
  | 5 =>
    intro hk h
    simp only [rc_sA] at h
    split at h
    · rename_i x ex
      simp only [Option.some.injEq, Prod.mk.injEq] at h
      obtain ⟨rfl, rfl, rfl⟩ := h
      simp only [rc_kA] at hk
      split at hk
      · rename_i k z
        simp only [Bool.and_eq_true, decide_eq_true_eq] at hk
        obtain ⟨rfl, rfl, rfl, e, ha⟩ := hk
        obtain ⟨j, hj⟩ := List.getElem?_of_mem (rc_lv_i (ad := ad) hL.2.1 ex)
        exact lv_iinc (nL := rc_mx mi) (lv := rc_lv ad (rc_mx mi) ls) hx hb hd hL.has hj (by rw [e]) ha rfl (fun ls1 h1 => kk ls1 (rc_L.store (w := .int (x + v)) hL.2.1 (Or.inl ⟨_, rfl⟩) ha h1))
      · cases hk
    · cases h
  | 6 =>
    intro hk h
    cases st with
    | nil => cases h
    | cons w0 su1 =>
      cases w0 with
      | int y =>
        cases su1 with
        | nil => cases h
        | cons w1 st1 =>
          cases w1 with
          | int x =>
            simp only [rc_sA, Option.some.injEq, Prod.mk.injEq] at h
            obtain ⟨rfl, rfl, rfl⟩ := h
            simp only [rc_kA] at hk
            split at hk
            · simp only [Bool.and_eq_true, decide_eq_true_eq] at hk
              obtain ⟨rfl, rfl⟩ := hk
              exact lv_iadd hx hb hd (kk _ hL)
            · cases hk
          | _ => cases h
      | _ => cases h
  | 7 =>
    intro hk h
    cases st with
    | nil => cases h
    | cons w0 su1 =>
      cases w0 with
      | int y =>
        cases su1 with
        | nil => cases h
        | cons w1 st1 =>
          cases w1 with
          | int x =>
            simp only [rc_sA, Option.some.injEq, Prod.mk.injEq] at h
            obtain ⟨rfl, rfl, rfl⟩ := h
            simp only [rc_kA] at hk
            split at hk
            · simp only [Bool.and_eq_true, decide_eq_true_eq] at hk
              obtain ⟨rfl, rfl⟩ := hk
              exact lv_isub hx hb hd (kk _ hL)
            · cases hk
          | _ => cases h
      | _ => cases h
  | 8 =>
    intro hk h
    cases st with
    | nil => cases h
    | cons w0 su1 =>
      cases w0 with
      | int y =>
        cases su1 with
        | nil => cases h
        | cons w1 st1 =>
          cases w1 with
          | int x =>
            simp only [rc_sA, Option.some.injEq, Prod.mk.injEq] at h
            obtain ⟨rfl, rfl, rfl⟩ := h
            simp only [rc_kA] at hk
            split at hk
            · simp only [Bool.and_eq_true, decide_eq_true_eq] at hk
              obtain ⟨rfl, rfl⟩ := hk
              exact lv_imul hx hb hd (kk _ hL)
            · cases hk
          | _ => cases h
      | _ => cases h
  | 9 =>
    intro hk h
    cases st with
    | nil => cases h
    | cons w0 su1 =>
      cases w0 with
      | int y =>
        cases su1 with
        | nil => cases h
        | cons w1 st1 =>
          cases w1 with
          | int x =>
            simp only [rc_sA, Option.some.injEq, Prod.mk.injEq] at h
            obtain ⟨rfl, rfl, rfl⟩ := h
            simp only [rc_kA] at hk
            split at hk
            · simp only [Bool.and_eq_true, decide_eq_true_eq] at hk
              obtain ⟨rfl, rfl⟩ := hk
              exact lv_iand hx hb hd (kk _ hL)
            · cases hk
          | _ => cases h
      | _ => cases h
  | 10 =>
    intro hk h
    cases st with
    | nil => cases h
    | cons w0 su1 =>
      cases w0 with
      | int y =>
        cases su1 with
        | nil => cases h
        | cons w1 st1 =>
          cases w1 with
          | int x =>
            simp only [rc_sA, Option.some.injEq, Prod.mk.injEq] at h
            obtain ⟨rfl, rfl, rfl⟩ := h
            simp only [rc_kA] at hk
            split at hk
            · simp only [Bool.and_eq_true, decide_eq_true_eq] at hk
              obtain ⟨rfl, rfl⟩ := hk
              exact lv_ior hx hb hd (kk _ hL)
            · cases hk
          | _ => cases h
      | _ => cases h
  | 11 =>
    intro hk h
    cases st with
    | nil => cases h
    | cons w0 su1 =>
      cases w0 with
      | int y =>
        cases su1 with
        | nil => cases h
        | cons w1 st1 =>
          cases w1 with
          | int x =>
            simp only [rc_sA, Option.some.injEq, Prod.mk.injEq] at h
            obtain ⟨rfl, rfl, rfl⟩ := h
            simp only [rc_kA] at hk
            split at hk
            · simp only [Bool.and_eq_true, decide_eq_true_eq] at hk
              obtain ⟨rfl, rfl⟩ := hk
              exact lv_ixor hx hb hd (kk _ hL)
            · cases hk
          | _ => cases h
      | _ => cases h
  | 12 =>
    intro hk h
    cases st with
    | nil => cases h
    | cons w0 su1 =>
      cases w0 with
      | int y =>
        cases su1 with
        | nil => cases h
        | cons w1 st1 =>
          cases w1 with
          | int x =>
            simp only [rc_sA, Option.some.injEq, Prod.mk.injEq] at h
            obtain ⟨rfl, rfl, rfl⟩ := h
            simp only [rc_kA] at hk
            split at hk
            · simp only [Bool.and_eq_true, decide_eq_true_eq] at hk
              obtain ⟨rfl, rfl⟩ := hk
              exact lv_ishl hx hb hd (kk _ hL)
            · cases hk
          | _ => cases h
      | _ => cases h
  | 13 =>
    intro hk h
    cases st with
    | nil => cases h
    | cons w0 su1 =>
      cases w0 with
      | int y =>
        cases su1 with
        | nil => cases h
        | cons w1 st1 =>
          cases w1 with
          | int x =>
            simp only [rc_sA, Option.some.injEq, Prod.mk.injEq] at h
            obtain ⟨rfl, rfl, rfl⟩ := h
            simp only [rc_kA] at hk
            split at hk
            · simp only [Bool.and_eq_true, decide_eq_true_eq] at hk
              obtain ⟨rfl, rfl⟩ := hk
              exact lv_ishr hx hb hd (kk _ hL)
            · cases hk
          | _ => cases h
      | _ => cases h
  | 14 =>
    intro hk h
    cases st with
    | nil => cases h
    | cons w0 su1 =>
      cases w0 with
      | int y =>
        cases su1 with
        | nil => cases h
        | cons w1 st1 =>
          cases w1 with
          | int x =>
            simp only [rc_sA, Option.some.injEq, Prod.mk.injEq] at h
            obtain ⟨rfl, rfl, rfl⟩ := h
            simp only [rc_kA] at hk
            split at hk
            · simp only [Bool.and_eq_true, decide_eq_true_eq] at hk
              obtain ⟨rfl, rfl⟩ := hk
              exact lv_iushr hx hb hd rfl (kk _ hL)
            · cases hk
          | _ => cases h
      | _ => cases h
  | 15 =>
    intro hk h
    cases st with
    | nil => cases h
    | cons w0 st1 =>
      cases w0 with
      | int x =>
        simp only [rc_sA, Option.some.injEq, Prod.mk.injEq] at h
        obtain ⟨rfl, rfl, rfl⟩ := h
        simp only [rc_kA] at hk
        split at hk
        · simp only [Bool.and_eq_true, decide_eq_true_eq] at hk
          obtain ⟨rfl, rfl⟩ := hk
          exact lv_ineg hx hb hd (kk _ hL)
        · cases hk
      | _ => cases h
  | 16 =>
    intro hk h
    cases st with
    | nil => cases h
    | cons w0 st1 =>
      cases w0 with
      | int x =>
        simp only [rc_sA, Option.some.injEq, Prod.mk.injEq] at h
        obtain ⟨rfl, rfl, rfl⟩ := h
        simp only [rc_kA] at hk
        split at hk
        · simp only [Bool.and_eq_true, decide_eq_true_eq] at hk
          obtain ⟨rfl, rfl⟩ := hk
          exact lv_dup hx hb hd rfl (kk _ hL)
        · cases hk
      | ref x =>
        simp only [rc_sA, Option.some.injEq, Prod.mk.injEq] at h
        obtain ⟨rfl, rfl, rfl⟩ := h
        simp only [rc_kA] at hk
        split at hk
        · simp only [Bool.and_eq_true, decide_eq_true_eq] at hk
          obtain ⟨rfl, rfl⟩ := hk
          exact lv_dup hx hb hd rfl (kk _ hL)
        · cases hk
      | _ => cases h
  | 17 =>
    intro hk h
    cases st with
    | nil => cases h
    | cons w0 su1 =>
      cases w0 with
      | int x =>
        cases su1 with
        | nil => cases h
        | cons w1 st1 =>
          cases w1 with
          | ref y =>
            simp only [rc_sA, Option.some.injEq, Prod.mk.injEq] at h
            obtain ⟨rfl, rfl, rfl⟩ := h
            simp only [rc_kA] at hk
            split at hk
            · simp only [Bool.and_eq_true, decide_eq_true_eq] at hk
              obtain ⟨rfl, rfl⟩ := hk
              exact lv_dup2_11 hx hb hd rfl rfl (kk _ hL)
            · cases hk
          | _ => cases h
      | _ => cases h
  | 18 =>
    intro hk h
    cases st with
    | nil => cases h
    | cons w0 st1 =>
      cases w0 with
      | int x =>
        simp only [rc_sA, Option.some.injEq, Prod.mk.injEq] at h
        obtain ⟨rfl, rfl, rfl⟩ := h
        simp only [rc_kA] at hk
        split at hk
        · simp only [Bool.and_eq_true, decide_eq_true_eq] at hk
          obtain ⟨rfl, rfl⟩ := hk
          exact lv_pop hx hb hd rfl (kk _ hL)
        · cases hk
      | _ => cases h
  | 19 =>
    intro hk h
    simp only [rc_sA, Option.some.injEq, Prod.mk.injEq] at h
    obtain ⟨rfl, rfl, rfl⟩ := h
    simp only [rc_kA] at hk
    split at hk
    · rename_i off
      simp only [Bool.and_eq_true, decide_eq_true_eq] at hk
      obtain ⟨rfl, e⟩ := hk
      exact lv_goto hx hb hd e (kk _ hL)
    · cases hk
  | 20 =>
    intro hk h
    cases st with
    | nil => cases h
    | cons w0 st1 =>
      cases w0 with
      | ref x =>
        simp only [rc_sA] at h
        cases hw : Nat.ble (rc_wk st1) 8 with
        | false => rw [hw] at h; cases h
        | true =>
          rw [hw] at h
          simp only [cond, Option.some.injEq, Prod.mk.injEq] at h
          obtain ⟨rfl, rfl, rfl⟩ := h
          simp only [rc_kA] at hk
          split at hk
          · rename_i ix
            simp only [Bool.and_eq_true, decide_eq_true_eq] at hk
            obtain ⟨rfl, rfl, e⟩ := hk
            have hw2 := Nat.le_of_ble_eq_true hw
            exact W.objInit hx hb hown (hts _ (rc_has_in e)) (hts _ hoi.1) (hts _ hoi.2) rfl (by rw [hml]; exact hL.1.1) rfl hd hRf (by show 2 * 0 + _ + 12 ≤ _; rw [rc_wk_map]; omega) (kk _ hL)
          · cases hk
      | _ => cases h
  | 21 =>
    intro hk h
    simp only [rc_sA, Option.some.injEq, Prod.mk.injEq] at h
    obtain ⟨rfl, rfl, rfl⟩ := h
    simp only [rc_kA] at hk
    split at hk
    · rename_i ix
      simp only [Bool.and_eq_true, decide_eq_true_eq] at hk
      obtain ⟨rfl, rfl, e⟩ := hk
      cases a with
      | zero => exact va_gets hx hb hZ hS hown (hts _ (rc_has_in e)) (fun _ z => z) hd (kk _ hL)
      | succ a => exact va_getsN hx hb hZ hS hown (va_Nw.use rfl (hnest _ (of_decide_eq_true e))) (fun _ z => z) hd (kk _ hL)
    · cases hk
  | k + 22 => intro hk h; cases h
set_option maxHeartbeats 4000000 in
theorem rc_Bs {t : Bool} {st' : List Value} (hx : p.tables.exec = Jvm.exec) (hb : c.code = rc_code mi) (hd : decode (rc_code mi) pc = .ok (i, len)) (hk : rc_kB pc o n a i len = true) (h : rc_sB o st = some (t, st'))
    (kk : W p l e R s m args below meth c H locs cells slots Q (F0 m (cond t a n) ls0 (st'.map (rc_shv ad)))) : W p l e R s m args below meth c H locs cells slots Q (F0 m pc ls0 (st.map (rc_shv ad))) := by
  revert hk h
  match o with
  | 0 =>
    intro hk h
    cases st with
    | nil => cases h
    | cons w0 su1 =>
      cases w0 with
      | int y =>
        cases su1 with
        | nil => cases h
        | cons w1 st1 =>
          cases w1 with
          | int x =>
            simp only [rc_sB, Option.some.injEq, Prod.mk.injEq] at h
            obtain ⟨rfl, rfl⟩ := h
            simp only [rc_kB] at hk
            split at hk
            · rename_i off
              simp only [Bool.and_eq_true, decide_eq_true_eq] at hk
              obtain ⟨rfl, rfl, e⟩ := hk
              exact lv_icmp_eq hx hb hd e (fun z => by simp only [z, decide_true, decide_false, Bool.not_true, Bool.not_false, cond] at kk; exact kk) (fun z => by simp only [z, decide_true, decide_false, Bool.not_true, Bool.not_false, cond] at kk; exact kk)
            · cases hk
          | _ => cases h
      | _ => cases h
  | 1 =>
    intro hk h
    cases st with
    | nil => cases h
    | cons w0 su1 =>
      cases w0 with
      | int y =>
        cases su1 with
        | nil => cases h
        | cons w1 st1 =>
          cases w1 with
          | int x =>
            simp only [rc_sB, Option.some.injEq, Prod.mk.injEq] at h
            obtain ⟨rfl, rfl⟩ := h
            simp only [rc_kB] at hk
            split at hk
            · rename_i off
              simp only [Bool.and_eq_true, decide_eq_true_eq] at hk
              obtain ⟨rfl, rfl, e⟩ := hk
              exact lv_icmp_ne hx hb hd e (fun z => by simp only [z, decide_true, decide_false, Bool.not_true, Bool.not_false, cond] at kk; exact kk) (fun z => by simp only [z, decide_true, decide_false, Bool.not_true, Bool.not_false, cond] at kk; exact kk)
            · cases hk
          | _ => cases h
      | _ => cases h
  | 2 =>
    intro hk h
    cases st with
    | nil => cases h
    | cons w0 su1 =>
      cases w0 with
      | int y =>
        cases su1 with
        | nil => cases h
        | cons w1 st1 =>
          cases w1 with
          | int x =>
            simp only [rc_sB, Option.some.injEq, Prod.mk.injEq] at h
            obtain ⟨rfl, rfl⟩ := h
            simp only [rc_kB] at hk
            split at hk
            · rename_i off
              simp only [Bool.and_eq_true, decide_eq_true_eq] at hk
              obtain ⟨rfl, rfl, e⟩ := hk
              exact lv_icmp_lt hx hb hd e (fun z => by simp only [z, decide_true, decide_false, Bool.not_true, Bool.not_false, cond] at kk; exact kk) (fun z => by simp only [z, decide_true, decide_false, Bool.not_true, Bool.not_false, cond] at kk; exact kk)
            · cases hk
          | _ => cases h
      | _ => cases h
  | 3 =>
    intro hk h
    cases st with
    | nil => cases h
    | cons w0 su1 =>
      cases w0 with
      | int y =>
        cases su1 with
        | nil => cases h
        | cons w1 st1 =>
          cases w1 with
          | int x =>
            simp only [rc_sB, Option.some.injEq, Prod.mk.injEq] at h
            obtain ⟨rfl, rfl⟩ := h
            simp only [rc_kB] at hk
            split at hk
            · rename_i off
              simp only [Bool.and_eq_true, decide_eq_true_eq] at hk
              obtain ⟨rfl, rfl, e⟩ := hk
              exact lv_icmp_ge hx hb hd e (fun z => by simp only [z, decide_true, decide_false, Bool.not_true, Bool.not_false, cond] at kk; exact kk) (fun z => by simp only [z, decide_true, decide_false, Bool.not_true, Bool.not_false, cond] at kk; exact kk)
            · cases hk
          | _ => cases h
      | _ => cases h
  | 4 =>
    intro hk h
    cases st with
    | nil => cases h
    | cons w0 su1 =>
      cases w0 with
      | int y =>
        cases su1 with
        | nil => cases h
        | cons w1 st1 =>
          cases w1 with
          | int x =>
            simp only [rc_sB, Option.some.injEq, Prod.mk.injEq] at h
            obtain ⟨rfl, rfl⟩ := h
            simp only [rc_kB] at hk
            split at hk
            · rename_i off
              simp only [Bool.and_eq_true, decide_eq_true_eq] at hk
              obtain ⟨rfl, rfl, e⟩ := hk
              exact lv_icmp_gt hx hb hd e (fun z => by simp only [z, decide_true, decide_false, Bool.not_true, Bool.not_false, cond] at kk; exact kk) (fun z => by simp only [z, decide_true, decide_false, Bool.not_true, Bool.not_false, cond] at kk; exact kk)
            · cases hk
          | _ => cases h
      | _ => cases h
  | 5 =>
    intro hk h
    cases st with
    | nil => cases h
    | cons w0 su1 =>
      cases w0 with
      | int y =>
        cases su1 with
        | nil => cases h
        | cons w1 st1 =>
          cases w1 with
          | int x =>
            simp only [rc_sB, Option.some.injEq, Prod.mk.injEq] at h
            obtain ⟨rfl, rfl⟩ := h
            simp only [rc_kB] at hk
            split at hk
            · rename_i off
              simp only [Bool.and_eq_true, decide_eq_true_eq] at hk
              obtain ⟨rfl, rfl, e⟩ := hk
              exact lv_icmp_le hx hb hd e (fun z => by simp only [z, decide_true, decide_false, Bool.not_true, Bool.not_false, cond] at kk; exact kk) (fun z => by simp only [z, decide_true, decide_false, Bool.not_true, Bool.not_false, cond] at kk; exact kk)
            · cases hk
          | _ => cases h
      | _ => cases h
  | 6 =>
    intro hk h
    cases st with
    | nil => cases h
    | cons w0 st1 =>
      cases w0 with
      | int x =>
        simp only [rc_sB, Option.some.injEq, Prod.mk.injEq] at h
        obtain ⟨rfl, rfl⟩ := h
        simp only [rc_kB] at hk
        split at hk
        · rename_i off
          simp only [Bool.and_eq_true, decide_eq_true_eq] at hk
          obtain ⟨rfl, rfl, e⟩ := hk
          exact lv_if_eq hx hb hd e (fun z => by simp only [z, decide_true, decide_false, Bool.not_true, Bool.not_false, cond] at kk; exact kk) (fun z => by simp only [z, decide_true, decide_false, Bool.not_true, Bool.not_false, cond] at kk; exact kk)
        · cases hk
      | _ => cases h
  | 7 =>
    intro hk h
    cases st with
    | nil => cases h
    | cons w0 st1 =>
      cases w0 with
      | int x =>
        simp only [rc_sB, Option.some.injEq, Prod.mk.injEq] at h
        obtain ⟨rfl, rfl⟩ := h
        simp only [rc_kB] at hk
        split at hk
        · rename_i off
          simp only [Bool.and_eq_true, decide_eq_true_eq] at hk
          obtain ⟨rfl, rfl, e⟩ := hk
          exact lv_if_ne hx hb hd e (fun z => by simp only [z, decide_true, decide_false, Bool.not_true, Bool.not_false, cond] at kk; exact kk) (fun z => by simp only [z, decide_true, decide_false, Bool.not_true, Bool.not_false, cond] at kk; exact kk)
        · cases hk
      | _ => cases h
  | 8 =>
    intro hk h
    cases st with
    | nil => cases h
    | cons w0 st1 =>
      cases w0 with
      | int x =>
        simp only [rc_sB, Option.some.injEq, Prod.mk.injEq] at h
        obtain ⟨rfl, rfl⟩ := h
        simp only [rc_kB] at hk
        split at hk
        · rename_i off
          simp only [Bool.and_eq_true, decide_eq_true_eq] at hk
          obtain ⟨rfl, rfl, e⟩ := hk
          exact lv_if_lt hx hb hd e (fun z => by simp only [z, decide_true, decide_false, Bool.not_true, Bool.not_false, cond] at kk; exact kk) (fun z => by simp only [z, decide_true, decide_false, Bool.not_true, Bool.not_false, cond] at kk; exact kk)
        · cases hk
      | _ => cases h
  | 9 =>
    intro hk h
    cases st with
    | nil => cases h
    | cons w0 st1 =>
      cases w0 with
      | int x =>
        simp only [rc_sB, Option.some.injEq, Prod.mk.injEq] at h
        obtain ⟨rfl, rfl⟩ := h
        simp only [rc_kB] at hk
        split at hk
        · rename_i off
          simp only [Bool.and_eq_true, decide_eq_true_eq] at hk
          obtain ⟨rfl, rfl, e⟩ := hk
          exact lv_if_ge hx hb hd e (fun z => by simp only [z, decide_true, decide_false, Bool.not_true, Bool.not_false, cond] at kk; exact kk) (fun z => by simp only [z, decide_true, decide_false, Bool.not_true, Bool.not_false, cond] at kk; exact kk)
        · cases hk
      | _ => cases h
  | 10 =>
    intro hk h
    cases st with
    | nil => cases h
    | cons w0 st1 =>
      cases w0 with
      | int x =>
        simp only [rc_sB, Option.some.injEq, Prod.mk.injEq] at h
        obtain ⟨rfl, rfl⟩ := h
        simp only [rc_kB] at hk
        split at hk
        · rename_i off
          simp only [Bool.and_eq_true, decide_eq_true_eq] at hk
          obtain ⟨rfl, rfl, e⟩ := hk
          exact lv_if_gt hx hb hd e (fun z => by simp only [z, decide_true, decide_false, Bool.not_true, Bool.not_false, cond] at kk; exact kk) (fun z => by simp only [z, decide_true, decide_false, Bool.not_true, Bool.not_false, cond] at kk; exact kk)
        · cases hk
      | _ => cases h
  | 11 =>
    intro hk h
    cases st with
    | nil => cases h
    | cons w0 st1 =>
      cases w0 with
      | int x =>
        simp only [rc_sB, Option.some.injEq, Prod.mk.injEq] at h
        obtain ⟨rfl, rfl⟩ := h
        simp only [rc_kB] at hk
        split at hk
        · rename_i off
          simp only [Bool.and_eq_true, decide_eq_true_eq] at hk
          obtain ⟨rfl, rfl, e⟩ := hk
          exact lv_if_le hx hb hd e (fun z => by simp only [z, decide_true, decide_false, Bool.not_true, Bool.not_false, cond] at kk; exact kk) (fun z => by simp only [z, decide_true, decide_false, Bool.not_true, Bool.not_false, cond] at kk; exact kk)
        · cases hk
      | _ => cases h
  | k + 12 => intro hk h; cases h
end RSA
