/-! the abstract machine's memory in the heap -/
def rc_shv (ad : Nat → Nat) : Value → Value
  | .ref k => .ref (ad k)
  | v => v
theorem rc_get_set : ∀ (ls : List Value) (a b : Nat) (w : Value), rc_get (rc_set ls a w) b = if b = a ∧ a < ls.length then w else rc_get ls b := by
  intro ls
  induction ls with
  | nil => intro a b w; simp [rc_set]
  | cons u l ih =>
    intro a b w
    cases a with
    | zero =>
      cases b with
      | zero => simp [rc_set, rc_get]
      | succ b => simp [rc_set, rc_get]
    | succ a =>
      cases b with
      | zero => simp [rc_set, rc_get]
      | succ b => simp [rc_set, rc_get, ih]
theorem rc_set_len : ∀ (ls : List Value) (a : Nat) (w : Value), (rc_set ls a w).length = ls.length := by
  intro ls
  induction ls with
  | nil => intro a w; rfl
  | cons u l ih =>
    intro a w
    cases a with
    | zero => rfl
    | succ a => simp [rc_set, ih]
theorem rc_get_lt : ∀ (ls : List Value) (a : Nat), rc_get ls a ≠ .null → a < ls.length := by
  intro ls
  induction ls with
  | nil => intro a h; exact absurd rfl h
  | cons u l ih =>
    intro a h
    cases a with
    | zero => simp
    | succ a =>
      have := ih a h
      simp
      omega
def rc_L (ad : Nat → Nat) (mx : Nat) (ls : List Value) (ls0 : Array Slot) : Prop := lv_has ls0 mx [] ∧ ls.length = mx ∧ (∀ (a : Nat) (x : Int32), rc_get ls a = .int x → ls0[a]? = some (.val (.int x))) ∧ ∀ (a k : Nat), rc_get ls a = .ref k → ls0[a]? = some (.val (.ref (ad k)))
def rc_lv (ad : Nat → Nat) (mx : Nat) (ls : List Value) : List (Nat × Value) := (List.range mx).filterMap (fun a => match rc_get ls a with
  | .int x => some (a, .int x)
  | .ref k => some (a, .ref (ad k))
  | _ => none)
theorem rc_lv_i {ad : Nat → Nat} {mx a : Nat} {ls : List Value} {x : Int32} (hl : ls.length = mx) (h : rc_get ls a = .int x) : (a, Value.int x) ∈ rc_lv ad mx ls := by
  refine List.mem_filterMap.mpr ⟨a, List.mem_range.mpr ?_, by simp [h]⟩
  have := rc_get_lt ls a (by rw [h]; exact fun z => by cases z)
  omega
theorem rc_lv_r {ad : Nat → Nat} {mx a k : Nat} {ls : List Value} (hl : ls.length = mx) (h : rc_get ls a = .ref k) : (a, Value.ref (ad k)) ∈ rc_lv ad mx ls := by
  refine List.mem_filterMap.mpr ⟨a, List.mem_range.mpr ?_, by simp [h]⟩
  have := rc_get_lt ls a (by rw [h]; exact fun z => by cases z)
  omega
theorem rc_L.has {ad : Nat → Nat} {mx : Nat} {ls : List Value} {ls0 : Array Slot} (h : rc_L ad mx ls ls0) : lv_has ls0 mx (rc_lv ad mx ls) := by
  obtain ⟨⟨h1, h2, -⟩, h3, h4, h5⟩ := h
  refine ⟨h1, h2, fun q hq => ?_⟩
  obtain ⟨a, -, ha⟩ := List.mem_filterMap.mp hq
  split at ha
  · rename_i x e
    cases ha
    exact h4 a x e
  · rename_i k e
    cases ha
    exact h5 a k e
  · cases ha
theorem rc_L.store {ad : Nat → Nat} {mx a : Nat} {ls : List Value} {ls0 : Array Slot} {w : Value} (hl : ls.length = mx) (hw : (∃ x, w = .int x) ∨ ∃ k, w = .ref k) (ha : a < mx)
    (h : lv_has ls0 mx ((a, rc_shv ad w) :: (rc_lv ad mx ls).filter (fun q => !(q.1 == a) && !(q.1 + 1 == a && q.2.category == 2)))) : rc_L ad mx (rc_set ls a w) ls0 := by
  obtain ⟨h1, h2, h3⟩ := h
  refine ⟨⟨h1, h2, fun q hq => by cases hq⟩, by rw [rc_set_len]; exact hl, fun b x e => ?_, fun b k e => ?_⟩
  · rw [rc_get_set] at e
    by_cases c : b = a ∧ a < ls.length
    · rw [if_pos c] at e
      subst e
      rw [c.1]
      exact h3 _ List.mem_cons_self
    · rw [if_neg c] at e
      have hb : b ≠ a := fun z => c ⟨z, by omega⟩
      exact h3 (b, .int x) (List.mem_cons_of_mem _ (List.mem_filter.mpr ⟨rc_lv_i hl e, by simp [hb, Value.category]⟩))
  · rw [rc_get_set] at e
    by_cases c : b = a ∧ a < ls.length
    · rw [if_pos c] at e
      subst e
      rw [c.1]
      exact h3 _ List.mem_cons_self
    · rw [if_neg c] at e
      have hb : b ≠ a := fun z => c ⟨z, by omega⟩
      exact h3 (b, .ref (ad k)) (List.mem_cons_of_mem _ (List.mem_filter.mpr ⟨rc_lv_r hl e, by simp [hb, Value.category]⟩))
theorem rc_okl_get : ∀ (na : Nat) (ls : List Value), rc_okl na ls = true → ∀ a k, rc_get ls a = .ref k → k < na := by
  intro na ls
  induction ls with
  | nil => intro _ a k h; cases h
  | cons u l ih =>
    intro h a k hk
    simp only [rc_okl, Bool.and_eq_true] at h
    cases a with
    | zero =>
      have e : u = .ref k := hk
      subst e
      exact Nat.le_of_ble_eq_true h.1
    | succ a => exact ih h.2 a k hk
theorem rc_L.move {ad ad' : Nat → Nat} {mx na : Nat} {ls : List Value} {ls0 : Array Slot} (h : rc_L ad mx ls ls0) (hk : rc_okl na ls = true) (he : ∀ k, k < na → ad' k = ad k) : rc_L ad' mx ls ls0 := by
  obtain ⟨h1, h3, h4, h5⟩ := h
  refine ⟨h1, h3, h4, fun a k e => ?_⟩
  rw [he k (rc_okl_get na ls hk a k e)]
  exact h5 a k e
theorem rc_okl_map : ∀ (na : Nat) (ad ad' : Nat → Nat) (ls : List Value), rc_okl na ls = true → (∀ k, k < na → ad' k = ad k) → ls.map (rc_shv ad') = ls.map (rc_shv ad) := by
  intro na ad ad' ls
  induction ls with
  | nil => intro _ _; rfl
  | cons u l ih =>
    intro h he
    simp only [rc_okl, Bool.and_eq_true] at h
    rw [List.map_cons, List.map_cons, ih h.2 he]
    congr 1
    cases u with
    | ref k => exact congrArg Value.ref (he k (Nat.le_of_ble_eq_true h.1))
    | _ => rfl
def rc_fv (ad : Nat → Nat) (σ : rc_M) (ρ : rc_F) (ci k j : Nat) : Value := match rc_fty ci j with
  | .object _ => va_rf ((ρ k j).map ad)
  | .array _ => va_rf ((ρ k j).map ad)
  | _ => .int (σ k j)
def rc_N (ci : Nat) : Nat := match vwCl[ci]? with
  | some q => q.2.2
  | none => 0
def rc_cell (cy : Nat → ClassId) (ad : Nat → Nat) (σ : rc_M) (ρ : rc_F) (k : Nat) : va_E := match rc_lay k with
  | (t, c, n) => if t = 0 then .inr (c, (List.range (rc_N c)).map (rc_fv ad σ ρ c k)) else if t = 4 then .inl (cy (4 + c), n, .inr (.inr (.inr (.inr (fun j => (ρ k j).map ad))))) else .inl (cy t, n, .inl (σ k))
theorem rc_cell_congr {cy : Nat → ClassId} {ad : Nat → Nat} {σ σ' : rc_M} {ρ ρ' : rc_F} {k : Nat} (h1 : σ' k = σ k) (h2 : ρ' k = ρ k) : rc_cell cy ad σ' ρ' k = rc_cell cy ad σ ρ k := by
  have e : ∀ c j, rc_fv ad σ' ρ' c k j = rc_fv ad σ ρ c k j := fun c j => by unfold rc_fv; rw [h1, h2]
  unfold rc_cell
  rw [h1, h2]
  have e2 : ∀ c, rc_fv ad σ' ρ' c k = rc_fv ad σ ρ c k := fun c => funext (e c)
  simp only [e2]
theorem rc_cell_move {cy : Nat → ClassId} {ad ad' : Nat → Nat} {σ : rc_M} {ρ : rc_F} {k na : Nat} (hb : ∀ k j q, ρ k j = some q → q < na) (he : ∀ k, k < na → ad' k = ad k) : rc_cell cy ad' σ ρ k = rc_cell cy ad σ ρ k := by
  have e : ∀ j, (ρ k j).map ad' = (ρ k j).map ad := fun j => by
    cases h : ρ k j with
    | none => rfl
    | some q => exact congrArg some (he q (hb k j q h))
  have e1 : ∀ c j, rc_fv ad' σ ρ c k j = rc_fv ad σ ρ c k j := fun c j => by unfold rc_fv; rw [e]
  have e2 : ∀ c, rc_fv ad' σ ρ c k = rc_fv ad σ ρ c k := fun c => funext (e1 c)
  unfold rc_cell
  simp only [e2, e]
def rc_ws (cy : Nat → ClassId) (ad : Nat → Nat) (S : rc_S) : va_W := (List.range (S.2.2 - 2)).map (fun i => (ad (i + 2), rc_cell cy ad S.1 S.2.1 (i + 2)))
theorem rc_ws_at {cy : Nat → ClassId} {ad : Nat → Nat} {S : rc_S} {k : Nat} (h2 : 2 ≤ k) (hk : k < S.2.2) : (rc_ws cy ad S)[k - 2]? = some (ad k, rc_cell cy ad S.1 S.2.1 k) := by
  unfold rc_ws
  rw [List.getElem?_map, List.getElem?_range (by omega)]
  simp only [Option.map_some]
  rw [Nat.sub_add_cancel h2]
theorem rc_ws_set {cy : Nat → ClassId} {ad : Nat → Nat} {S S' : rc_S} {k : Nat} (h2 : 2 ≤ k) (hk : k < S.2.2) (hna : S'.2.2 = S.2.2) (hσ : ∀ k', k' ≠ k → S'.1 k' = S.1 k') (hρ : ∀ k', k' ≠ k → S'.2.1 k' = S.2.1 k') :
    (rc_ws cy ad S).set (k - 2) (ad k, rc_cell cy ad S'.1 S'.2.1 k) = rc_ws cy ad S' := by
  refine List.ext_getElem? fun i => ?_
  by_cases hi : i < S.2.2 - 2
  · by_cases hik : i = k - 2
    · subst hik
      rw [List.getElem?_set_self (by simp [rc_ws]; omega), rc_ws_at h2 (by omega)]
    · rw [List.getElem?_set_ne (Ne.symm hik)]
      have a1 := rc_ws_at (cy := cy) (ad := ad) (S := S) (k := i + 2) (by omega) (by omega)
      have a2 := rc_ws_at (cy := cy) (ad := ad) (S := S') (k := i + 2) (by omega) (by omega)
      rw [Nat.add_sub_cancel] at a1 a2
      rw [a1, a2, rc_cell_congr (hσ (i + 2) (by omega)) (hρ (i + 2) (by omega))]
  · rw [List.getElem?_eq_none (by simp [rc_ws]; omega), List.getElem?_eq_none (by simp [rc_ws]; omega)]
theorem rc_ws_push {cy : Nat → ClassId} {ad ad' : Nat → Nat} {S S' : rc_S} {q : Nat} {e : va_E} (h2 : 2 ≤ S.2.2) (hna : S'.2.2 = S.2.2 + 1) (hσ : ∀ k', k' ≠ S.2.2 → S'.1 k' = S.1 k') (hρ : ∀ k', k' ≠ S.2.2 → S'.2.1 k' = S.2.1 k') (hb : ∀ k j q, S.2.1 k j = some q → q < S.2.2)
    (he : ∀ k, k < S.2.2 → ad' k = ad k) (hq : ad' S.2.2 = q) (hc : rc_cell cy ad' S'.1 S'.2.1 S.2.2 = e) : rc_ws cy ad S ++ [(q, e)] = rc_ws cy ad' S' := by
  refine List.ext_getElem? fun i => ?_
  by_cases hi : i < S.2.2 - 2
  · rw [List.getElem?_append_left (by simp [rc_ws]; omega)]
    have a1 := rc_ws_at (cy := cy) (ad := ad) (S := S) (k := i + 2) (by omega) (by omega)
    have a2 := rc_ws_at (cy := cy) (ad := ad') (S := S') (k := i + 2) (by omega) (by omega)
    rw [Nat.add_sub_cancel] at a1 a2
    rw [a1, a2, rc_cell_congr (hσ (i + 2) (by omega)) (hρ (i + 2) (by omega)), rc_cell_move hb he, he (i + 2) (by omega)]
  · by_cases hi2 : i = S.2.2 - 2
    · subst hi2
      have a2 := rc_ws_at (cy := cy) (ad := ad') (S := S') (k := S.2.2) h2 (by omega)
      rw [a2, hq, hc, List.getElem?_append_right (by simp [rc_ws])]
      simp [rc_ws]
    · rw [List.getElem?_eq_none (by simp [rc_ws]; omega), List.getElem?_eq_none (by simp [rc_ws]; omega)]
def rc_tys (cy : Nat → ClassId) : List (ClassId × FieldType) := [(cy 1, .int), (cy 2, .char), (cy 3, .boolean), (cy 10, .object RX6), (cy 5, .object RX1)]
def rc_wsG : List Cond := lw_tbl.filter goodWord
def rc_has (i : Nat) (w : Cond) : Bool := decide (lw_tbl[i]? = some w) && goodWord w
theorem rc_has_in {i : Nat} {w : Cond} (h : rc_has i w = true) : w ∈ rc_wsG := by
  unfold rc_has at h
  rw [Bool.and_eq_true, decide_eq_true_eq] at h
  exact List.mem_filter.mpr ⟨List.mem_of_getElem? h.1, h.2⟩
theorem rc_good : GoodIn rc_wsG rc_wsG := fun w h => ⟨h, good_of_word (List.mem_filter.mp h).2⟩
def rc_inC (ci : Nat) : Bool := match vwCl[ci]? with
  | some q => decide ((rc_pC ci).map (fun i => lw_tbl[i]?) = (u_ws q.1 q.2.1 q.2.2).map some) && (u_ws q.1 q.2.1 q.2.2).all goodWord
  | none => true
theorem rc_in_of {ci : Nat} {q : vw_C} (h : rc_inC ci = true) (hq : vwCl[ci]? = some q) : ∀ w ∈ u_ws q.1 q.2.1 q.2.2, w ∈ rc_wsG := by
  intro w hw
  unfold rc_inC at h
  rw [hq] at h
  dsimp only at h
  rw [Bool.and_eq_true, decide_eq_true_eq] at h
  have h1 : some w ∈ (u_ws q.1 q.2.1 q.2.2).map some := List.mem_map.mpr ⟨w, hw, rfl⟩
  rw [← h.1] at h1
  obtain ⟨i, -, hi⟩ := List.mem_map.mp h1
  exact List.mem_filter.mpr ⟨List.mem_of_getElem? hi, List.all_eq_true.mp h.2 w hw⟩
