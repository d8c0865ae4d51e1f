/-! small methods of both sides -/
section RM
variable {d : Nat} {σ : rc_M} {Q : Int32 → rc_M → Prop}
theorem t_has {s m : Nat} (hs : s < 27) (hm : m < 3) (h : Q (nI (rc_mk s m)) σ) : rc_TI d 139 [.int (nI s), .int (nI m)] σ Q := by
  have e := rc_f1 s hs m hm
  refine rc_go 40 ?_
  refine And.intro (fun h1 => ?_) (fun h1 => ?_)
  · rw [if_neg h1] at e
    refine And.intro (fun h2 => ?_) (fun h2 => ?_)
    · rw [if_neg h2] at e
      refine And.intro (by decide) ?_
      exact ⟨_, rfl, e.symm ▸ h⟩
    · rw [if_pos h2] at e
      refine And.intro (by decide) (And.intro (by decide) ?_)
      exact ⟨_, rfl, e.symm ▸ h⟩
  · rw [if_pos h1] at e
    refine And.intro (by decide) ?_
    exact ⟨_, rfl, e.symm ▸ h⟩
theorem t_with {s m v : Nat} (hs : s < 27) (hm : m < 3) (hv : v < 3) (h : Q (nI (rc_sv s m v)) σ) : rc_TI (d + 1) 140 [.int (nI s), .int (nI m), .int (nI v)] σ Q := by
  have e := rc_f3 s hs m hm v hv
  rcases (show m = 0 ∨ m = 1 ∨ m = 2 by omega) with rfl | rfl | rfl
  · refine rc_go 40 (And.intro (fun h1 => absurd rfl h1) (fun _ => ?_))
    refine t_has hs hm ?_
    exact ⟨_, rfl, e.symm ▸ h⟩
  · refine rc_go 40 (And.intro (fun _ => And.intro (fun h1 => absurd rfl h1) (fun _ => ?_)) (fun h1 => absurd h1 (by decide)))
    refine t_has hs hm ?_
    exact ⟨_, rfl, e.symm ▸ h⟩
  · refine rc_go 40 (And.intro (fun _ => And.intro (fun _ => ?_) (fun h1 => absurd h1 (by decide))) (fun h1 => absurd h1 (by decide)))
    refine t_has hs hm ?_
    exact ⟨_, rfl, e.symm ▸ h⟩
theorem c_markOf (h0 : σ 0 = rc_wt) {s m : Nat} (hs : s < 27) (hm : m < 3) (h : Q (nI (rc_mk s m)) σ) : rc_TI d 117 [.int (nI s), .int (nI m)] σ Q := by
  have e := rc_f2 s hs m hm
  refine rc_go 40 (And.intro (rc_vi hm (by decide)) ?_)
  rw [rc_ci (by omega), h0]
  refine And.intro (rc_wt_ne m hm) (And.intro (by decide) ?_)
  exact ⟨_, rfl, e.symm ▸ h⟩
theorem t_has' {x y : Int32} {s m : Nat} (hx : x = nI s) (hy : y = nI m) (hs : s < 27) (hm : m < 3) (h : Q (nI (rc_mk s m)) σ) : rc_TI d 139 [.int x, .int y] σ Q := by
  subst hx; subst hy; exact t_has hs hm h
theorem t_with' {x y z : Int32} {s m v : Nat} (hx : x = nI s) (hy : y = nI m) (hz : z = nI v) (hs : s < 27) (hm : m < 3) (hv : v < 3) (h : Q (nI (rc_sv s m v)) σ) : rc_TI (d + 1) 140 [.int x, .int y, .int z] σ Q := by
  subst hx; subst hy; subst hz; exact t_with hs hm hv h
theorem c_markOf' (h0 : σ 0 = rc_wt) {x y : Int32} {s m : Nat} (hx : x = nI s) (hy : y = nI m) (hs : s < 27) (hm : m < 3) (h : Q (nI (rc_mk s m)) σ) : rc_TI d 117 [.int x, .int y] σ Q := by
  subst hx; subst hy; exact c_markOf h0 hs hm h
theorem t_no {w : Nat} (hw : w < 7) (h : Q (-(nI w)) (rc_up σ 81 (upd (σ 81) w (σ 81 w + 1)))) : rc_TI d 121 [.ref 80, .int (-(nI w))] σ Q := by
  have e : - -(nI w) = nI w := Int32.neg_neg
  refine rc_go 40 ?_
  refine And.intro (by rw [e]; exact rc_vi hw (by decide)) (And.intro (by rw [e]; exact rc_vi hw (by decide)) ?_)
  refine ⟨_, rfl, ?_⟩
  rw [e, rc_ci (by omega)]
  exact h
theorem c_refuse {w : Nat} (hw : w < 7) (h : Q (-(nI w)) (rc_up σ 77 (upd (σ 77) w (σ 77 w + 1)))) : rc_TI d 115 [.ref 2, .int (-(nI w))] σ Q := by
  have e : - -(nI w) = nI w := Int32.neg_neg
  refine rc_go 40 ?_
  refine And.intro (by rw [e]; exact rc_vi hw (by decide)) (And.intro (by rw [e]; exact rc_vi hw (by decide)) ?_)
  refine ⟨_, rfl, ?_⟩
  rw [e, rc_ci (by omega)]
  exact h
/-- is it none of n -/
def rc_out (x : Int32) (n : Nat) : Prop := x < 0 ∨ nI n ≤ x
theorem rc_out_or (x : Int32) {n : Nat} (hn : n ≤ 2000) : rc_out x n ∨ ∃ j, j < n ∧ x = nI j := by
  rcases pk_ix x (n := n) (by omega) with h | h | h
  · exact Or.inl (Or.inl h)
  · exact Or.inl (Or.inr h)
  · exact Or.inr h
theorem rc_out_not {j n : Nat} (h : j < n) (hn : n ≤ 2000) : ¬ rc_out (nI j) n := by
  rintro (q | q)
  · exact nI_pos (by omega) q
  · exact nI_ge h (by omega) q
theorem t_isNoRoom {x : Int32} {n : Nat} (hr : σ 80 1 = nI n) (hn : n ≤ 6) (h1 : rc_out x n → Q 1 σ) (h0 : ∀ j, j < n → x = nI j → Q 0 σ) : rc_TI d 127 [.ref 80, .int x] σ Q := by
  refine rc_go 40 (And.intro (fun c1 => ?_) (fun c1 => And.intro (fun c2 => ?_) (fun c2 => ?_)))
  · exact ⟨Or.inr rfl, _, rfl, h1 (Or.inl c1)⟩
  · refine ⟨Or.inl rfl, _, rfl, ?_⟩
    rw [hr] at c2
    rcases rc_out_or x (n := n) (by omega) with q | ⟨j, hj, e⟩
    · rcases q with q | q
      · exact absurd q c1
      · exact absurd c2 (Int32.not_lt.mpr q)
    · exact h0 j hj e
  · rw [hr] at c2
    exact ⟨Or.inr rfl, _, rfl, h1 (Or.inr (Int32.not_lt.mp c2))⟩
theorem t_isNoGuest {x : Int32} {n : Nat} (hr : σ 80 8 = nI n) (hn : n ≤ 6) (h1 : rc_out x n → Q 1 σ) (h0 : ∀ j, j < n → x = nI j → Q 0 σ) : rc_TI d 128 [.ref 80, .int x] σ Q := by
  refine rc_go 40 (And.intro (fun c1 => ?_) (fun c1 => And.intro (fun c2 => ?_) (fun c2 => ?_)))
  · exact ⟨Or.inr rfl, _, rfl, h1 (Or.inl c1)⟩
  · refine ⟨Or.inl rfl, _, rfl, ?_⟩
    rw [hr] at c2
    rcases rc_out_or x (n := n) (by omega) with q | ⟨j, hj, e⟩
    · rcases q with q | q
      · exact absurd q c1
      · exact absurd c2 (Int32.not_lt.mpr q)
    · exact h0 j hj e
  · rw [hr] at c2
    exact ⟨Or.inr rfl, _, rfl, h1 (Or.inr (Int32.not_lt.mp c2))⟩
theorem t_isNoState {x : Int32} (h1 : rc_out x 27 → Q 1 σ) (h0 : ∀ j, j < 27 → x = nI j → Q 0 σ) : rc_TI d 129 [.int x] σ Q := by
  refine rc_go 40 (And.intro (fun c1 => ?_) (fun c1 => And.intro (fun c2 => ?_) (fun c2 => ?_)))
  · exact ⟨Or.inr rfl, _, rfl, h1 (Or.inl c1)⟩
  · refine ⟨Or.inl rfl, _, rfl, ?_⟩
    rcases rc_out_or x (n := 27) (by omega) with q | ⟨j, hj, e⟩
    · rcases q with q | q
      · exact absurd q c1
      · exact absurd c2 (Int32.not_lt.mpr q)
    · exact h0 j hj e
  · exact ⟨Or.inr rfl, _, rfl, h1 (Or.inr (Int32.not_lt.mp c2))⟩
theorem c_isState {x : Int32} (h1 : rc_out x 27 → Q 0 σ) (h0 : ∀ j, j < 27 → x = nI j → Q 1 σ) : rc_TI d 116 [.int x] σ Q := by
  refine rc_go 40 (And.intro (fun c1 => ?_) (fun c1 => And.intro (fun c2 => ?_) (fun c2 => ?_)))
  · exact ⟨Or.inl rfl, _, rfl, h1 (Or.inl c1)⟩
  · exact ⟨Or.inl rfl, _, rfl, h1 (Or.inr c2)⟩
  · refine ⟨Or.inr rfl, _, rfl, ?_⟩
    rcases rc_out_or x (n := 27) (by omega) with q | ⟨j, hj, e⟩
    · rcases q with q | q
      · exact absurd q c1
      · exact absurd q c2
    · exact h0 j hj e
theorem c_hasRoom {x : Int32} {n : Nat} (hr : σ 3 1 = nI n) (hn : n ≤ 6) (h1 : rc_out x n → Q 0 σ) (h0 : ∀ j, j < n → x = nI j → Q 1 σ) : rc_TI d 10 [.ref 3, .int x] σ Q := by
  refine rc_go 40 (And.intro (fun c1 => ?_) (fun c1 => And.intro (fun c2 => ?_) (fun c2 => ?_)))
  · exact ⟨Or.inl rfl, _, rfl, h1 (Or.inl c1)⟩
  · rw [hr] at c2
    exact ⟨Or.inl rfl, _, rfl, h1 (Or.inr c2)⟩
  · rw [hr] at c2
    refine ⟨Or.inr rfl, _, rfl, ?_⟩
    rcases rc_out_or x (n := n) (by omega) with q | ⟨j, hj, e⟩
    · rcases q with q | q
      · exact absurd q c1
      · exact absurd q c2
    · exact h0 j hj e
theorem c_hasGuest {x : Int32} {n : Nat} (hr : σ 3 3 = nI n) (hn : n ≤ 6) (h1 : rc_out x n → Q 0 σ) (h0 : ∀ j, j < n → x = nI j → Q 1 σ) : rc_TI d 11 [.ref 3, .int x] σ Q := by
  refine rc_go 40 (And.intro (fun c1 => ?_) (fun c1 => And.intro (fun c2 => ?_) (fun c2 => ?_)))
  · exact ⟨Or.inl rfl, _, rfl, h1 (Or.inl c1)⟩
  · rw [hr] at c2
    exact ⟨Or.inl rfl, _, rfl, h1 (Or.inr c2)⟩
  · rw [hr] at c2
    refine ⟨Or.inr rfl, _, rfl, ?_⟩
    rcases rc_out_or x (n := n) (by omega) with q | ⟨j, hj, e⟩
    · rcases q with q | q
      · exact absurd q c1
      · exact absurd q c2
    · exact h0 j hj e
end RM
