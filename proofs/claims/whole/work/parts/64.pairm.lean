section RPm
variable {d n : Nat} {σ : rc_M} {P : rc_P} {V : rc_V} {Q : Int32 → rc_M → Prop}
/-! two guests at once, the model's side -/
def rc_nL (L : Nat → Nat) (p q a b : Nat) (sw : Prop) [Decidable sw] (r : Nat) : Nat := if r = q ∧ (¬ p = q ∨ sw) then b + 1 else if r = p then a + 1 else L r
theorem t_ab_270 {o1 o2 p q a b k : Nat} {x3 x6 x7 x11 x12 x13 xb : Int32} {w14 : Value} {L : Nat → Nat} (ho1 : o1 < 5) (ho2 : o2 < 5) (hp : p < 6) (hq : q < 6) (hL : ∀ r, r < 6 → σ 103 r = rc_cI (L r)) {Q' : Option Value → rc_M → Prop} (K : ∀ f w14, (∀ r, r < 6 → f r = rc_cI (rc_nL L p q a b (o2 < o1) r)) → rc_Tc d 159 50 [.ref 80, .int (nI o1), .int (nI o2), .int x3, .int x13, .int xb, .int (nI a), .int (nI b), .int (nI (k + 1)), .int (nI p), .int (nI q), .int x11, .int x12, .int x13, w14] [] (rc_up σ 103 f) Q') : rc_Tc d 159 270 [.ref 80, .int (nI o1), .int (nI o2), .int x3, .int (nI a), .int (nI b), .int x6, .int x7, .int (nI k), .int (nI p), .int (nI q), .int x11, .int x12, .int x13, w14] [.int xb] σ Q' := by
  rw [← nI_1] at K
  have k293 : (¬ p = q ∨ o2 < o1) → rc_Tc d 159 293 [.ref 80, .int (nI o1), .int (nI o2), .int x3, .int (nI a), .int (nI b), .int x6, .int x7, .int (nI k), .int (nI p), .int (nI q), .int x11, .int x12, .int x13, .int xb] [] (rc_up σ 103 (upd (σ 103) p (nI a))) Q' := fun z => by
    refine rc_go 60 (And.intro (rc_vi (n := 6) hq (by decide)) ?_)
    have key := K (upd (upd (σ 103) p (nI a)) q (nI b)) (.int xb) (fun r hr => by
      unfold rc_nL
      by_cases e : r = q
      · subst e; rw [pk_us, if_pos ⟨rfl, z⟩]; rfl
      · rw [pk_un e, if_neg (fun y => e y.1)]
        by_cases e2 : r = p
        · subst e2; rw [pk_us, if_pos rfl]; rfl
        · rw [pk_un e2, if_neg e2]; exact hL r hr)
    rw [rc_up_s, rc_uu, rc_ci (by omega)]
    exact key
  refine rc_go 60 (And.intro (rc_vi (n := 6) hp (by decide)) ?_)
  rw [rc_ci (by omega)]
  refine And.intro (fun c => ?_) (fun c => ?_)
  · exact k293 (Or.inl (fun z => c (by rw [z])))
  · have ce := (nI_eq (by omega) (by omega)).mp c
    refine And.intro (fun c2 => ?_) (fun c2 => ?_)
    · have key := K (upd (σ 103) p (nI a)) (.int xb) (fun r hr => by
        unfold rc_nL
        rw [if_neg (fun y => y.2.elim (fun z => z ce) (fun z => nI_ge z (by omega) c2))]
        by_cases e2 : r = p
        · subst e2; rw [pk_us, if_pos rfl]; rfl
        · rw [pk_un e2, if_neg e2]; exact hL r hr)
      exact key
    · exact k293 (Or.inr (Nat.lt_of_not_le (fun z => c2 (nI_le z (by omega)))))
theorem t_one {x x' : Int32} {p k hc uc a : Nat} (hp : p < V 12 0) (hM : rc_Mod σ V) (hW : rc_WF n V) (hk : k < 1000) (ha : a < 27) (hhc : hc ≤ 27) (huc : uc ≤ 27) (hx : x = rc_cI hc) (hx' : x' = rc_cI uc) (h : Q (nI (rc_nV V p a k hc 0 uc)) σ) : rc_TI (d + 3) 142 [.ref 80, .int (nI p), .int (nI a), .int (nI k), .int x, .int x'] σ Q := by
  have := hW.1
  exact t_makesOf (V := V) rfl rfl rfl hx hx' (by omega) ha hk hhc huc (hM.2.2.2.2.1 p hp) (hW.2.2.2.2.1 p (by omega)) h
/-- the night ahead of one of two, as the model asks for it -/
def rc_ua (σ : rc_M) (k j x uc : Nat) (y : Int32) : Prop := (k = 0 ∧ uc = 0) ∨ (0 < k ∧ ∃ z w, z < 6 ∧ w < 27 ∧ σ 102 j = nI z ∧ y = nI w ∧ uc = if z = x then w + 1 else 0)
theorem t_ab_201 {o1 o2 p q a b k mk ub : Nat} {x3 x6 x7 xa : Int32} {tn : Bool} {w13 w14 : Value} {L : Nat → Nat} (hM : rc_Mod σ V) (hW : rc_WF n V) (hk : k < 2) (ho1 : o1 < 5) (ho2 : o2 < 5) (hp : p < V 12 0) (hq : q < V 12 0) (ha : a < 27) (hb : b < 27) (hL : ∀ r, r < 6 → σ 103 r = rc_cI (L r) ∧ L r ≤ 27) (hub : rc_ua σ k (2 * k - 1) q ub x7) (ht : tn = (decide (p = q) && decide (V 0 p = 2))) (hmk : mk = V 1 p) {Q' : Option Value → rc_M → Prop} (K : ∀ f w14, (∀ r, r < 6 → f r = rc_cI (rc_nL L p q a b (o2 < o1) r)) → rc_Tc (d + 4) 159 50 [.ref 80, .int (nI o1), .int (nI o2), .int x3, .int xa, .int (nI (rc_nV V q b k (L q) (if p = q then a + 1 else 0) ub)), .int (nI a), .int (nI b), .int (nI (k + 1)), .int (nI p), .int (nI q), .int (nI mk), .int (rc_bI tn), .int xa, w14] [] (rc_up σ 103 f) Q') : rc_Tc (d + 4) 159 201 [.ref 80, .int (nI o1), .int (nI o2), .int x3, .int (nI a), .int (nI b), .int x6, .int x7, .int (nI k), .int (nI p), .int (nI q), .int (nI mk), .int (rc_bI tn), w13, w14] [.int xa] σ Q' := by
  have h6 := hW.1
  have hWq := hW.2.2.2.2.1 q (by omega)
  have hWp := hW.2.2.2.2.1 p (by omega)
  have e1 : (2 : Int32) * nI k - 1 = nI (2 * k - 1) ∨ k = 0 := by
    rcases Nat.eq_zero_or_pos k with z | z
    · exact Or.inr z
    · exact Or.inl (by rw [rc_2x]; exact rc_subN (b := 1) (by omega))
  refine rc_go 80 (And.intro (fun c => ?_) (fun c => ?_))
  · have z := rc_bI_0.mp c
    have eq0 : ∀ uc, rc_nV V q b k (L q) (if p = q then a + 1 else 0) uc = rc_nV V q b k (L q) 0 uc := fun uc => by
      by_cases e : p = q
      · rw [z] at ht
        have hk2 : V 0 q ≠ 2 := fun y => by rw [← e] at y; rw [decide_eq_true e, decide_eq_true y] at ht; exact absurd ht (by decide)
        exact rc_nt_kd hk2
      · rw [if_neg e]
    refine And.intro (rc_vi (n := 6) (by omega) (by decide)) ?_
    rw [rc_ci (by omega), (hL q (by omega)).1, z]
    refine And.intro (fun c2 => ?_) (fun c2 => ?_)
    · have hk0 : k = 0 := by
        rcases Nat.eq_zero_or_pos k with y | y
        · exact y
        · exact absurd c2 (nI_nle y (by omega))
      have hu0 : ub = 0 := by rcases hub with y | y; exact y.2; omega
      refine t_one hq hM hW (by omega) hb (hL q (by omega)).2 (by decide) (uc := 0) rfl rfl ?_
      rw [z, hu0, eq0] at K
      exact t_ab_270 ho1 ho2 (by omega) (by omega) (fun r hr => (hL r hr).1) K
    · have hk0 : 0 < k := by
        rcases Nat.eq_zero_or_pos k with y | y
        · subst y; exact absurd (by decide) c2
        · exact y
      rcases hub with y | ⟨_, zz, ww, y1, y2, y3, y4, y5⟩
      · omega
      have e1' : (2 : Int32) * nI k - 1 = nI (2 * k - 1) := e1.resolve_right (by omega)
      refine And.intro (by rw [e1']; exact rc_vi (n := 6) (by omega) (by decide)) ?_
      rw [e1', rc_ci (by omega), y3]
      refine And.intro (fun c3 => ?_) (fun c3 => ?_)
      · have hu0 : ub = 0 := by rw [y5, if_neg (fun y => c3 (by rw [y]))]
        refine t_one hq hM hW (by omega) hb (hL q (by omega)).2 (by decide) (uc := 0) rfl rfl ?_
        rw [z, hu0, eq0] at K
        exact t_ab_270 ho1 ho2 (by omega) (by omega) (fun r hr => (hL r hr).1) K
      · have hu0 : ub = ww + 1 := by rw [y5, if_pos ((nI_eq (by omega) (by omega)).mp c3)]
        refine t_one hq hM hW (by omega) hb (hL q (by omega)).2 (by omega) (uc := ww + 1) rfl y4 ?_
        rw [z, hu0, eq0] at K
        exact t_ab_270 ho1 ho2 (by omega) (by omega) (fun r hr => (hL r hr).1) K
  · have z := rc_bool_t c
    rw [z] at ht
    have hpq : p = q := by
      by_cases e : p = q
      · exact e
      · rw [decide_eq_false e, Bool.false_and] at ht; exact absurd ht (by decide)
    have hkd : V 0 p = 2 := by
      by_cases e : V 0 p = 2
      · exact e
      · rw [decide_eq_false e, Bool.and_false] at ht; exact absurd ht (by decide)
    have hm3 : mk < 3 := by rw [hmk]; exact hWp.2.1
    refine t_has' rfl rfl ha hm3 (t_with' rfl rfl rfl hb hm3 (rc_mk_lt _ _) ?_)
    have ev : rc_nV V q b k (L q) (if p = q then a + 1 else 0) ub = rc_sv b mk (rc_mk a mk) := by
      rw [if_pos hpq, ← hpq]
      unfold rc_nV
      rw [hkd, hmk]
      rfl
    rw [z, ev] at K
    rw [z]
    exact t_ab_270 ho1 ho2 (by omega) (by omega) (fun r hr => (hL r hr).1) K
theorem t_ab_132 {o1 o2 p q a b k mk ua ub : Nat} {x3 x6 x7 : Int32} {tn : Bool} {w12 w13 w14 : Value} {L : Nat → Nat} (hM : rc_Mod σ V) (hW : rc_WF n V) (hk : k < 2) (ho1 : o1 < 5) (ho2 : o2 < 5) (hp : p < V 12 0) (hq : q < V 12 0) (ha : a < 27) (hb : b < 27) (hL : ∀ r, r < 6 → σ 103 r = rc_cI (L r) ∧ L r ≤ 27) (hua : rc_ua σ k (2 * k - 2) p ua x6) (hub : rc_ua σ k (2 * k - 1) q ub x7) (ht : tn = (decide (p = q) && decide (V 0 p = 2))) (hmk : mk = V 1 p) {Q' : Option Value → rc_M → Prop} (K : ∀ f w13 w14 w12, (∀ r, r < 6 → f r = rc_cI (rc_nL L p q a b (o2 < o1) r)) → rc_Tc (d + 4) 159 50 [.ref 80, .int (nI o1), .int (nI o2), .int x3, .int (nI (rc_nV V p a k (L p) (if p = q then b + 1 else 0) ua)), .int (nI (rc_nV V q b k (L q) (if p = q then a + 1 else 0) ub)), .int (nI a), .int (nI b), .int (nI (k + 1)), .int (nI p), .int (nI q), .int (nI mk), w12, w13, w14] [] (rc_up σ 103 f) Q') : rc_Tc (d + 4) 159 132 [.ref 80, .int (nI o1), .int (nI o2), .int x3, .int (nI a), .int (nI b), .int x6, .int x7, .int (nI k), .int (nI p), .int (nI q), .int (nI mk), w12, w13, w14] [.int (rc_bI tn)] σ Q' := by
  have h6 := hW.1
  have hWp := hW.2.2.2.2.1 p (by omega)
  have e1 : (2 : Int32) * nI k - 2 = nI (2 * k - 2) ∨ k = 0 := by
    rcases Nat.eq_zero_or_pos k with z | z
    · exact Or.inr z
    · exact Or.inl (by rw [rc_2x]; exact rc_subN (b := 2) (by omega))
  refine rc_go 80 (And.intro (fun c => ?_) (fun c => ?_))
  · have z := rc_bI_0.mp c
    have eq0 : ∀ uc, rc_nV V p a k (L p) (if p = q then b + 1 else 0) uc = rc_nV V p a k (L p) 0 uc := fun uc => by
      by_cases e : p = q
      · rw [z] at ht
        have hk2 : V 0 p ≠ 2 := fun y => by rw [decide_eq_true e, decide_eq_true y] at ht; exact absurd ht (by decide)
        exact rc_nt_kd hk2
      · rw [if_neg e]
    have fin : ∀ w, w = nI (rc_nV V p a k (L p) (if p = q then b + 1 else 0) ua) → rc_Tc (d + 4) 159 201 [.ref 80, .int (nI o1), .int (nI o2), .int x3, .int (nI a), .int (nI b), .int x6, .int x7, .int (nI k), .int (nI p), .int (nI q), .int (nI mk), .int (rc_bI tn), w13, w14] [.int w] σ Q' := fun w hw => by
      subst hw
      exact t_ab_201 hM hW hk ho1 ho2 hp hq ha hb hL hub ht hmk (fun f w14 hf => K f _ w14 _ hf)
    rw [z] at fin
    refine And.intro (rc_vi (n := 6) (by omega) (by decide)) ?_
    rw [rc_ci (by omega), (hL p (by omega)).1, z]
    refine And.intro (fun c2 => ?_) (fun c2 => ?_)
    · have hk0 : k = 0 := by
        rcases Nat.eq_zero_or_pos k with y | y
        · exact y
        · exact absurd c2 (nI_nle y (by omega))
      have hu0 : ua = 0 := by rcases hua with y | y; exact y.2; omega
      exact t_one hp hM hW (by omega) ha (hL p (by omega)).2 (by decide) (uc := 0) rfl rfl (fin _ (by rw [hu0, eq0]))
    · have hk0 : 0 < k := by
        rcases Nat.eq_zero_or_pos k with y | y
        · subst y; exact absurd (by decide) c2
        · exact y
      rcases hua with y | ⟨_, zz, ww, y1, y2, y3, y4, y5⟩
      · omega
      have e1' : (2 : Int32) * nI k - 2 = nI (2 * k - 2) := e1.resolve_right (by omega)
      refine And.intro (by rw [e1']; exact rc_vi (n := 6) (by omega) (by decide)) ?_
      rw [e1', rc_ci (by omega), y3]
      refine And.intro (fun c3 => ?_) (fun c3 => ?_)
      · have hu0 : ua = 0 := by rw [y5, if_neg (fun y => c3 (by rw [y]))]
        exact t_one hp hM hW (by omega) ha (hL p (by omega)).2 (by decide) (uc := 0) rfl rfl (fin _ (by rw [hu0, eq0]))
      · have hu0 : ua = ww + 1 := by rw [y5, if_pos ((nI_eq (by omega) (by omega)).mp c3)]
        exact t_one hp hM hW (by omega) ha (hL p (by omega)).2 (by omega) (uc := ww + 1) rfl y4 (fin _ (by rw [hu0, eq0]))
  · have z := rc_bool_t c
    have ht' := ht
    rw [z] at ht'
    have hpq : p = q := by
      by_cases e : p = q
      · exact e
      · rw [decide_eq_false e, Bool.false_and] at ht'; exact absurd ht' (by decide)
    have hkd : V 0 p = 2 := by
      by_cases e : V 0 p = 2
      · exact e
      · rw [decide_eq_false e, Bool.and_false] at ht'; exact absurd ht' (by decide)
    have hm3 : mk < 3 := by rw [hmk]; exact hWp.2.1
    have ev : rc_nV V p a k (L p) (if p = q then b + 1 else 0) ua = rc_sv a mk (rc_mk b mk) := by
      rw [if_pos hpq]
      unfold rc_nV
      rw [hkd, hmk]
      rfl
    rw [ev] at K
    refine t_has' rfl rfl hb hm3 (t_with' rfl rfl rfl ha hm3 (rc_mk_lt _ _) ?_)
    exact t_ab_201 hM hW hk ho1 ho2 hp hq ha hb hL hub ht hmk (fun f w14 hf => K f _ w14 _ hf)
theorem t_ab_100 {o1 o2 p q a b k ua ub : Nat} {x3 x6 x7 : Int32} {w11 w12 w13 w14 : Value} {L : Nat → Nat} (hM : rc_Mod σ V) (hW : rc_WF n V) (hk : k < 2) (ho1 : o1 < 5) (ho2 : o2 < 5) (hp : p < V 12 0) (hq : q < V 12 0) (ha : a < 27) (hb : b < 27) (hL : ∀ r, r < 6 → σ 103 r = rc_cI (L r) ∧ L r ≤ 27) (hua : rc_ua σ k (2 * k - 2) p ua x6) (hub : rc_ua σ k (2 * k - 1) q ub x7) {Q' : Option Value → rc_M → Prop} (K : ∀ f w11 w12 w13 w14, (∀ r, r < 6 → f r = rc_cI (rc_nL L p q a b (o2 < o1) r)) → rc_Tc (d + 4) 159 50 [.ref 80, .int (nI o1), .int (nI o2), .int x3, .int (nI (rc_nV V p a k (L p) (if p = q then b + 1 else 0) ua)), .int (nI (rc_nV V q b k (L q) (if p = q then a + 1 else 0) ub)), .int (nI a), .int (nI b), .int (nI (k + 1)), .int (nI p), .int (nI q), w11, w12, w13, w14] [] (rc_up σ 103 f) Q') : rc_Tc (d + 4) 159 100 [.ref 80, .int (nI o1), .int (nI o2), .int x3, .int (nI a), .int (nI b), .int x6, .int x7, .int (nI k), .int (nI p), .int (nI q), w11, w12, w13, w14] [] σ Q' := by
  have h6 := hW.1
  have hMR := hM.2.2.2.2.1 p hp
  have hWp := hW.2.2.2.2.1 p (by omega)
  refine rc_go 80 (And.intro (rc_vi (n := 6) (by omega) (by decide)) ?_)
  rw [rc_ci (by omega), hMR.2.1]
  refine And.intro (fun c => ?_) (fun c => ?_)
  · exact t_ab_132 (tn := false) hM hW hk ho1 ho2 hp hq ha hb hL hua hub (by rw [decide_eq_false (fun z => c (by rw [z]))]; rfl) rfl (fun f w13 w14 w12 hf => K f _ w12 w13 w14 hf)
  · have hpq := (nI_eq (by omega) (by omega)).mp c
    refine And.intro (rc_vi (n := 6) (by omega) (by decide)) ?_
    rw [rc_ci (by omega), hMR.1]
    have hk7 := hWp.1
    refine And.intro (fun c2 => ?_) (fun c2 => ?_)
    · exact t_ab_132 (tn := false) hM hW hk ho1 ho2 hp hq ha hb hL hua hub (by rw [decide_eq_false (p := V 0 p = 2) (fun z => c2 (by rw [z]; rfl)), Bool.and_false]) rfl (fun f w13 w14 w12 hf => K f _ w12 w13 w14 hf)
    · exact t_ab_132 (tn := true) hM hW hk ho1 ho2 hp hq ha hb hL hua hub (by rw [decide_eq_true hpq, decide_eq_true (show V 0 p = 2 from (nI_eq (b := 2) (by omega) (by decide)).mp c2)]; rfl) rfl (fun f w13 w14 w12 hf => K f _ w12 w13 w14 hf)
end RPm
