section RTb
variable {V : rc_V}
/-! the unlike maps that rows make: a table of rows, and the rooms in every row of a map -/
abbrev rc_X : Type := Nat × Nat
abbrev rc_Tb : Type := Nat × (Nat → rc_X) × (Nat → Nat)
def rc_xm (V : rc_V) (x : rc_X) (s : Nat) : Nat := rc_E V (rc_dg (V 12 0) x.1 x.2) s x.1
def rc_xs (V : rc_V) (x y : rc_X) : Bool := rc_alls (fun s => decide (rc_xm V x s = rc_xm V y s)) 27
def rc_xb (V : rc_V) (x : rc_X) : Nat := rc_bits (rc_dg (V 12 0) x.1 x.2) x.1
def rc_ff (p : Nat → Bool) : Nat → Nat
  | 0 => 0
  | k + 1 => if rc_ff p k < k then rc_ff p k else if p k then k else k + 1
def rc_ad (V : rc_V) (T : rc_Tb) (x : rc_X) : rc_Tb := if rc_ff (fun i => rc_xs V (T.2.1 i) x) T.1 < T.1 then (T.1, T.2.1, va_up T.2.2 (rc_ff (fun i => rc_xs V (T.2.1 i) x) T.1) (T.2.2 (rc_ff (fun i => rc_xs V (T.2.1 i) x) T.1) &&& rc_xb V x)) else (T.1 + 1, fun j => if j = T.1 then x else T.2.1 j, va_up T.2.2 T.1 (rc_xb V x))
def rc_T0 : rc_Tb := (0, fun _ => (0, 0), fun _ => 0)
def rc_tab (V : rc_V) (l : List rc_X) : rc_Tb := l.foldl (rc_ad V) rc_T0
theorem rc_tab_a {l : List rc_X} {x : rc_X} : rc_tab V (l ++ [x]) = rc_ad V (rc_tab V l) x := by
  unfold rc_tab
  rw [List.foldl_append]
  rfl
theorem rc_xs_i {x y : rc_X} : rc_xs V x y = true ↔ ∀ s, s < 27 → rc_xm V x s = rc_xm V y s := by
  unfold rc_xs
  constructor
  · intro h s hs
    have := rc_alls_t h s hs
    simpa using this
  · intro h
    exact rc_alls_a (fun s hs => by simpa using h s hs)
theorem rc_xs_r {x : rc_X} : rc_xs V x x = true := rc_xs_i.mpr (fun _ _ => rfl)
theorem rc_xs_s {x y : rc_X} (h : rc_xs V x y = true) : rc_xs V y x = true := rc_xs_i.mpr (fun s hs => (rc_xs_i.mp h s hs).symm)
theorem rc_xs_t {x y z : rc_X} (h : rc_xs V x y = true) (h2 : rc_xs V y z = true) : rc_xs V x z = true := rc_xs_i.mpr (fun s hs => (rc_xs_i.mp h s hs).trans (rc_xs_i.mp h2 s hs))
theorem rc_ff_f {p : Nat → Bool} : ∀ k, rc_ff p k ≤ k ∧ (rc_ff p k < k → p (rc_ff p k) = true) ∧ ∀ j, j < rc_ff p k → p j = false := by
  intro k
  induction k with
  | zero => exact ⟨Nat.le_refl _, fun h => absurd h (by rw [rc_ff]; omega), fun j hj => absurd hj (by rw [rc_ff]; omega)⟩
  | succ k ih =>
    obtain ⟨i1, i2, i3⟩ := ih
    rw [rc_ff]
    by_cases c : rc_ff p k < k
    · rw [if_pos c]
      exact ⟨by omega, fun _ => i2 c, i3⟩
    · have e : rc_ff p k = k := by omega
      rw [if_neg c]
      rw [e] at i3
      cases hp : p k with
      | true => rw [if_pos rfl]; exact ⟨by omega, fun _ => hp, i3⟩
      | false =>
        rw [if_neg (by decide)]
        refine ⟨by omega, fun h => absurd h (by omega), fun j hj => ?_⟩
        by_cases e2 : j = k
        · subst e2; exact hp
        · exact i3 j (by omega)
theorem rc_ff_at {p : Nat → Bool} {i k : Nat} (hi : i < k) (hp : p i = true) (h : ∀ j, j < i → p j = false) : rc_ff p k = i := by
  obtain ⟨a, b, c⟩ := rc_ff_f (p := p) k
  rcases Nat.lt_trichotomy (rc_ff p k) i with z | z | z
  · have := b (by omega)
    rw [h _ z] at this
    exact absurd this (by decide)
  · exact z
  · rw [c i z] at hp; exact absurd hp (by decide)
theorem rc_ff_no {p : Nat → Bool} {k : Nat} (h : ∀ j, j < k → p j = false) : rc_ff p k = k := by
  obtain ⟨a, b, c⟩ := rc_ff_f (p := p) k
  by_cases z : rc_ff p k < k
  · have := b z
    rw [h _ z] at this
    exact absurd this (by decide)
  · omega
def rc_Tok (V : rc_V) (l : List rc_X) (T : rc_Tb) : Prop := (∀ i, i < T.1 → T.2.1 i ∈ l) ∧ (∀ x, x ∈ l → ∃ i, i < T.1 ∧ rc_xs V (T.2.1 i) x = true) ∧ (∀ i j, i < T.1 → j < T.1 → rc_xs V (T.2.1 i) (T.2.1 j) = true → i = j) ∧ (∀ i, i < T.1 → ∀ r, (T.2.2 i).testBit r = true ↔ ∀ x, x ∈ l → rc_xs V (T.2.1 i) x = true → (rc_xb V x).testBit r = true) ∧ T.1 ≤ l.length
theorem rc_Tok_a {l : List rc_X} {T : rc_Tb} {x : rc_X} (h : rc_Tok V l T) : rc_Tok V (l ++ [x]) (rc_ad V T x) := by
  obtain ⟨h1, h2, h3, h4, h5⟩ := h
  obtain ⟨f1, f2, f3⟩ := rc_ff_f (p := fun i => rc_xs V (T.2.1 i) x) T.1
  unfold rc_ad
  by_cases c : rc_ff (fun i => rc_xs V (T.2.1 i) x) T.1 < T.1
  · rw [if_pos c]
    have hs := f2 c
    generalize rc_ff (fun i => rc_xs V (T.2.1 i) x) T.1 = i0 at c hs f3
    refine ⟨fun i hi => List.mem_append_left _ (h1 i hi), fun y hy => ?_, h3, fun i hi r => ?_, by rw [List.length_append]; show T.1 ≤ _; omega⟩
    · rcases List.mem_append.mp hy with z | z
      · exact h2 y z
      · have : y = x := by simpa using z
        subst this
        exact ⟨i0, c, hs⟩
    · show (va_up T.2.2 i0 (T.2.2 i0 &&& rc_xb V x) i).testBit r = true ↔ ∀ y, y ∈ l ++ [x] → rc_xs V (T.2.1 i) y = true → (rc_xb V y).testBit r = true
      by_cases e : i = i0
      · subst e
        have ev : va_up T.2.2 i (T.2.2 i &&& rc_xb V x) i = T.2.2 i &&& rc_xb V x := by simp [va_up]
        rw [ev, Nat.testBit_and, Bool.and_eq_true, h4 i hi r]
        constructor
        · intro h y hy hxy
          rcases List.mem_append.mp hy with z | z
          · exact h.1 y z hxy
          · have : y = x := by simpa using z
            subst this
            exact h.2
        · intro h
          exact ⟨fun y hy => h y (List.mem_append_left _ hy), h x (List.mem_append_right _ (by simp)) hs⟩
      · have ev : va_up T.2.2 i0 (T.2.2 i0 &&& rc_xb V x) i = T.2.2 i := by simp [va_up, e]
        rw [ev, h4 i hi r]
        constructor
        · intro h y hy hxy
          rcases List.mem_append.mp hy with z | z
          · exact h y z hxy
          · have : y = x := by simpa using z
            subst this
            exact absurd (h3 i i0 hi c (rc_xs_t hxy (rc_xs_s hs))) e
        · exact fun h y hy => h y (List.mem_append_left _ hy)
  · rw [if_neg c]
    have e : rc_ff (fun i => rc_xs V (T.2.1 i) x) T.1 = T.1 := by omega
    rw [e] at f3
    have r0 : ∀ j, j < T.1 → (if j = T.1 then x else T.2.1 j) = T.2.1 j := fun j hj => if_neg (by omega)
    refine ⟨fun i hi => ?_, fun y hy => ?_, fun i j hi hj hs => ?_, fun i hi r => ?_, ?_⟩
    · show (if i = T.1 then x else T.2.1 i) ∈ l ++ [x]
      have hi : i < T.1 + 1 := hi
      by_cases z : i = T.1
      · rw [if_pos z]; exact List.mem_append_right _ (by simp)
      · rw [if_neg z]; exact List.mem_append_left _ (h1 i (by omega))
    · rcases List.mem_append.mp hy with z | z
      · obtain ⟨i, hi, hs⟩ := h2 y z
        exact ⟨i, Nat.lt_succ_of_lt hi, by show rc_xs V (if i = T.1 then x else T.2.1 i) y = true; rw [r0 i hi]; exact hs⟩
      · have : y = x := by simpa using z
        subst this
        exact ⟨T.1, Nat.lt_succ_self _, by show rc_xs V (if T.1 = T.1 then y else T.2.1 T.1) y = true; rw [if_pos rfl]; exact rc_xs_r⟩
    · have hi : i < T.1 + 1 := hi
      have hj : j < T.1 + 1 := hj
      have hs : rc_xs V (if i = T.1 then x else T.2.1 i) (if j = T.1 then x else T.2.1 j) = true := hs
      by_cases zi : i = T.1
      · by_cases zj : j = T.1
        · omega
        · rw [if_pos zi, if_neg zj] at hs
          have := f3 j (by omega)
          rw [rc_xs_s hs] at this
          exact absurd this (by decide)
      · by_cases zj : j = T.1
        · rw [if_neg zi, if_pos zj] at hs
          have := f3 i (by omega)
          rw [hs] at this
          exact absurd this (by decide)
        · rw [if_neg zi, if_neg zj] at hs
          exact h3 i j (by omega) (by omega) hs
    · have hi : i < T.1 + 1 := hi
      show (va_up T.2.2 T.1 (rc_xb V x) i).testBit r = true ↔ ∀ y, y ∈ l ++ [x] → rc_xs V (if i = T.1 then x else T.2.1 i) y = true → (rc_xb V y).testBit r = true
      by_cases z : i = T.1
      · subst z
        have ev : va_up T.2.2 T.1 (rc_xb V x) T.1 = rc_xb V x := by simp [va_up]
        rw [ev, if_pos rfl]
        constructor
        · intro h y hy hxy
          rcases List.mem_append.mp hy with q | q
          · obtain ⟨k, hk, hs⟩ := h2 y q
            have := f3 k hk
            rw [rc_xs_t hs (rc_xs_s hxy)] at this
            exact absurd this (by decide)
          · have : y = x := by simpa using q
            subst this
            exact h
        · exact fun h => h x (List.mem_append_right _ (by simp)) rc_xs_r
      · have ev : va_up T.2.2 T.1 (rc_xb V x) i = T.2.2 i := by simp [va_up, z]
        rw [ev, if_neg z, h4 i (by omega) r]
        constructor
        · intro h y hy hxy
          rcases List.mem_append.mp hy with q | q
          · exact h y q hxy
          · have : y = x := by simpa using q
            subst this
            have := f3 i (by omega)
            rw [hxy] at this
            exact absurd this (by decide)
        · exact fun h y hy => h y (List.mem_append_left _ hy)
    · rw [List.length_append]
      show T.1 + 1 ≤ l.length + 1
      omega
theorem rc_Tok_f : ∀ (l' l : List rc_X) (T : rc_Tb), rc_Tok V l T → rc_Tok V (l ++ l') (l'.foldl (rc_ad V) T) := by
  intro l'
  induction l' with
  | nil => intro l T h; rw [List.append_nil]; exact h
  | cons x l' ih =>
    intro l T h
    have := ih (l ++ [x]) (rc_ad V T x) (rc_Tok_a h)
    rw [List.append_assoc] at this
    exact this
theorem rc_tab_ok (l : List rc_X) : rc_Tok V l (rc_tab V l) := by
  have := rc_Tok_f (V := V) l [] rc_T0 ⟨fun i hi => absurd hi (by show ¬ i < 0; omega), fun x hx => absurd hx (by simp), fun i j hi => absurd hi (by show ¬ i < 0; omega), fun i hi => absurd hi (by show ¬ i < 0; omega), Nat.le_refl _⟩
  exact this
/-! of more things than places two fall into one -/
theorem rc_pig : ∀ (k k' : Nat) (f : Nat → Nat), (∀ i, i < k' → f i < k) → (∀ i j, i < k' → j < k' → f i = f j → i = j) → k' ≤ k := by
  intro k
  induction k with
  | zero =>
    intro k' f h1 _
    rcases Nat.eq_zero_or_pos k' with z | z
    · omega
    · exact absurd (h1 0 z) (by omega)
  | succ k ih =>
    intro k' f h1 h2
    by_cases c : ∃ i0, i0 < k' ∧ f i0 = k
    · obtain ⟨i0, a, b⟩ := c
      have key := ih (k' - 1) (fun i => if i < i0 then f i else f (i + 1)) (fun i hi => by
        show (if i < i0 then f i else f (i + 1)) < k
        by_cases z : i < i0
        · rw [if_pos z]
          have := h1 i (by omega)
          have : f i ≠ k := fun e => by have := h2 i i0 (by omega) a (by omega); omega
          omega
        · rw [if_neg z]
          have := h1 (i + 1) (by omega)
          have : f (i + 1) ≠ k := fun e => by have := h2 (i + 1) i0 (by omega) a (by omega); omega
          omega) (fun i j hi hj e => by
        have e : (if i < i0 then f i else f (i + 1)) = (if j < i0 then f j else f (j + 1)) := e
        by_cases z : i < i0
        · rw [if_pos z] at e
          by_cases y : j < i0
          · rw [if_pos y] at e; exact h2 i j (by omega) (by omega) e
          · rw [if_neg y] at e; have := h2 i (j + 1) (by omega) (by omega) e; omega
        · rw [if_neg z] at e
          by_cases y : j < i0
          · rw [if_pos y] at e; have := h2 (i + 1) j (by omega) (by omega) e; omega
          · rw [if_neg y] at e; have := h2 (i + 1) (j + 1) (by omega) (by omega) e; omega)
      omega
    · have := ih k' f (fun i hi => by
        have h := h1 i hi
        have : f i ≠ k := fun e => c ⟨i, hi, e⟩
        omega) h2
      omega
theorem rc_pig2 {k k' v : Nat} (f : Nat → Nat) (hv : v < k) (h1 : ∀ i, i < k' → f i < k ∧ f i ≠ v) (h2 : ∀ i j, i < k' → j < k' → f i = f j → i = j) : k' < k := by
  have key := rc_pig (k - 1) k' (fun i => if f i < v then f i else f i - 1) (fun i hi => by
    show (if f i < v then f i else f i - 1) < k - 1
    obtain ⟨a, b⟩ := h1 i hi
    by_cases z : f i < v
    · rw [if_pos z]; omega
    · rw [if_neg z]; omega) (fun i j hi hj e => by
    have e : (if f i < v then f i else f i - 1) = (if f j < v then f j else f j - 1) := e
    obtain ⟨a, b⟩ := h1 i hi
    obtain ⟨a', b'⟩ := h1 j hj
    by_cases z : f i < v
    · rw [if_pos z] at e
      by_cases y : f j < v
      · rw [if_pos y] at e; exact h2 i j hi hj e
      · rw [if_neg y] at e; omega
    · rw [if_neg z] at e
      by_cases y : f j < v
      · rw [if_pos y] at e; omega
      · rw [if_neg y] at e; exact h2 i j hi hj (by omega))
  omega
def rc_av (V : rc_V) (w : Nat) (x : rc_X) : Bool := rc_alls (fun k => !decide (rc_dg (V 12 0) x.1 x.2 k = w)) x.1
theorem rc_av_b {w : Nat} {x : rc_X} : rc_av V w x = true ↔ ¬ (rc_xb V x).testBit w = true := by
  unfold rc_xb
  rw [rc_bits_tb]
  constructor
  · intro h ⟨i, hi, e⟩
    have := rc_alls_t h i hi
    simp [e] at this
  · intro h
    refine rc_alls_a (fun i hi => ?_)
    have : ¬ rc_dg (V 12 0) x.1 x.2 i = w := fun e => h ⟨i, hi, e⟩
    simp [this]
theorem rc_need {l : List rc_X} {r : Nat} : (rc_tab V (l.filter (rc_av V r))).1 < (rc_tab V l).1 ↔ ∃ i, i < (rc_tab V l).1 ∧ ((rc_tab V l).2.2 i).testBit r = true := by
  obtain ⟨a1, a2, a3, a4, a5⟩ := rc_tab_ok (V := V) l
  obtain ⟨b1, b2, b3, b4, b5⟩ := rc_tab_ok (V := V) (l.filter (rc_av V r))
  generalize rc_tab V l = T at *
  generalize rc_tab V (l.filter (rc_av V r)) = T' at *
  constructor
  · intro h
    apply Classical.byContradiction
    intro hn
    have hall : ∀ i, ∃ j, i < T.1 → j < T'.1 ∧ rc_xs V (T'.2.1 j) (T.2.1 i) = true := fun i => by
      by_cases hi : i < T.1
      · have : ¬ ∀ x, x ∈ l → rc_xs V (T.2.1 i) x = true → (rc_xb V x).testBit r = true := fun z => hn ⟨i, hi, (a4 i hi r).mpr z⟩
        have : ∃ x, x ∈ l ∧ rc_xs V (T.2.1 i) x = true ∧ ¬ (rc_xb V x).testBit r = true := Classical.byContradiction (fun z => this (fun x hx hs => Classical.byContradiction (fun y => z ⟨x, hx, hs, y⟩)))
        obtain ⟨x, hx, hs, hb⟩ := this
        obtain ⟨j, hj, hs2⟩ := b2 x (List.mem_filter.mpr ⟨hx, rc_av_b.mpr hb⟩)
        exact ⟨j, fun _ => ⟨hj, rc_xs_t hs2 (rc_xs_s hs)⟩⟩
      · exact ⟨0, fun z => absurd z hi⟩
    have f := fun i => Classical.choose_spec (hall i)
    have := rc_pig T'.1 T.1 (fun i => Classical.choose (hall i)) (fun i hi => (f i hi).1) (fun i j hi hj e => by
      have e : Classical.choose (hall i) = Classical.choose (hall j) := e
      have h1 := (f i hi).2
      have h2 := (f j hj).2
      rw [e] at h1
      exact a3 i j hi hj (rc_xs_t (rc_xs_s h1) h2))
    omega
  · intro ⟨v, hv, hb⟩
    have hall : ∀ i, ∃ j, i < T'.1 → j < T.1 ∧ rc_xs V (T.2.1 j) (T'.2.1 i) = true := fun i => by
      by_cases hi : i < T'.1
      · obtain ⟨j, hj, hs⟩ := a2 _ (List.mem_filter.mp (b1 i hi)).1
        exact ⟨j, fun _ => ⟨hj, hs⟩⟩
      · exact ⟨0, fun z => absurd z hi⟩
    have f := fun i => Classical.choose_spec (hall i)
    refine rc_pig2 (fun i => Classical.choose (hall i)) hv (fun i hi => ⟨(f i hi).1, fun e => ?_⟩) (fun i j hi hj e => ?_)
    · have e : Classical.choose (hall i) = v := e
      have h1 := (f i hi).2
      rw [e] at h1
      obtain ⟨m1, m2⟩ := List.mem_filter.mp (b1 i hi)
      exact rc_av_b.mp m2 ((a4 v hv r).mp hb _ m1 h1)
    · have e : Classical.choose (hall i) = Classical.choose (hall j) := e
      have h1 := (f i hi).2
      have h2 := (f j hj).2
      rw [e] at h1
      exact b3 i j hi hj (rc_xs_t (rc_xs_s h1) h2)
end RTb
