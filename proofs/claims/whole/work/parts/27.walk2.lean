theorem fa_and (a b : Nat) : nI a &&& nI b = nI (a &&& b) := by
  apply Int32.toBitVec_inj.1
  show BitVec.ofNat 32 a &&& BitVec.ofNat 32 b = BitVec.ofNat 32 (a &&& b)
  apply BitVec.eq_of_getLsbD_eq
  intro i hi
  simp [hi]
theorem fa_or (a b : Nat) : nI a ||| nI b = nI (a ||| b) := by
  apply Int32.toBitVec_inj.1
  show BitVec.ofNat 32 a ||| BitVec.ofNat 32 b = BitVec.ofNat 32 (a ||| b)
  apply BitVec.eq_of_getLsbD_eq
  intro i hi
  simp [hi]
theorem rc_shl : ∀ r, r < 31 → (1 : Int32) <<< (nI r &&& 31) = nI (2 ^ r) := by decide +kernel
def rc_bits (row : Nat → Nat) : Nat → Nat
  | 0 => 0
  | k + 1 => rc_bits row k ||| 2 ^ row k
def rc_sum (V : rc_V) (row : Nat → Nat) : Nat → Nat
  | 0 => 0
  | k + 1 => rc_sum V row k + V 4 (row k)
theorem rc_bits_congr {row row' : Nat → Nat} : ∀ k, (∀ i, i < k → row i = row' i) → rc_bits row k = rc_bits row' k := by
  intro k
  induction k with
  | zero => intro _; rfl
  | succ k ih => intro h; rw [rc_bits, rc_bits, h k (by omega), ih (fun i hi => h i (by omega))]
theorem rc_sum_congr {V : rc_V} {row row' : Nat → Nat} : ∀ k, (∀ i, i < k → row i = row' i) → rc_sum V row k = rc_sum V row' k := by
  intro k
  induction k with
  | zero => intro _; rfl
  | succ k ih => intro h; rw [rc_sum, rc_sum, h k (by omega), ih (fun i hi => h i (by omega))]
theorem rc_inc_lt {b : Nat} (hb : b ≤ 6) : ∀ (n : Nat) (row : Nat → Nat), (∀ j, j < 6 → row j < 6) → ∀ j, j < 6 → (rc_inc b n row).2 j < 6 := by
  intro n
  induction n with
  | zero => intro row h j hj; exact h j hj
  | succ n ih =>
    intro row h j hj
    rw [rc_inc]
    split
    · dsimp only [va_up]
      split
      · omega
      · exact h j hj
    · refine ih _ (fun i hi => ?_) j hj
      dsimp only [va_up]
      split
      · omega
      · exact h i hi
/-- the walk stands at a row, from a state on -/
def rc_Wk (σ : rc_M) (V : rc_V) (n s : Nat) (row : Nat → Nat) : Prop := σ 62 3 = nI n ∧ n ≤ 6 ∧ (∀ j, j < n → σ 63 j = nI (row j) ∧ row j < 6) ∧ s < 27 ∧ ∀ j, j ≤ n → σ 64 j = nI (rc_E V row s j)
theorem rc_Wk.fr {ks : List Nat} {σ σ' : rc_M} {V : rc_V} {n s : Nat} {row : Nat → Nat} (h : rc_Wk σ V n s row) (hf : rc_fr ks σ σ') (hk : ∀ k, k ∈ ks → 64 < k) : rc_Wk σ' V n s row := by
  have e : ∀ k, k ≤ 64 → σ' k = σ k := fun k hk' => hf k (fun z => absurd (hk k z) (by omega))
  unfold rc_Wk
  rw [e 62 (by decide), e 63 (by decide), e 64 (by decide)]
  exact h
theorem rc_Wk.congr {σ : rc_M} {V : rc_V} {n s : Nat} {row row' : Nat → Nat} (h : rc_Wk σ V n s row) (hr : ∀ j, j < n → row j = row' j) : rc_Wk σ V n s row' := by
  obtain ⟨h1, h2, h3, h4, h5⟩ := h
  exact ⟨h1, h2, fun j hj => by rw [← hr j hj]; exact h3 j hj, h4, fun j hj => by rw [← rc_E_congr j (fun i hi => hr i (by omega))]; exact h5 j hj⟩
section RW2
variable {d : Nat} {σ : rc_M} {V : rc_V}
theorem c_begin {x y : Int32} {s n : Nat} (hx : x = nI s) (hy : y = nI n) (hA : rc_CA σ V) (hs : s < 27) (hn : n ≤ 6) {Q : Int32 → rc_M → Prop} (h : ∀ σ', rc_fr [62, 63, 64] σ σ' → rc_Wk σ' V n s (fun _ => 0) → Q (nI (V 12 0 ^ n)) σ') : rc_TI (d + 4) 70 [.ref 62, .int x, .int y] σ Q := by
  subst hx; subst hy
  refine rc_go 60 ?_
  refine c_fill (L := 6) rfl rfl (by decide) (by decide) (fun f hf => ?_)
  refine And.intro (rc_vi (n := 7) (i := 0) (by decide) (by decide)) ?_
  have fr1 : rc_fr [62, 63, 64] σ (rc_up (rc_up (rc_up σ 62 (upd (σ 62) 3 (nI n))) 63 f) 64 (upd ((rc_up (rc_up σ 62 (upd (σ 62) 3 (nI n))) 63 f) 64) 0 (nI s))) := ((rc_fr.up (by simp)).tr (rc_fr.up (by simp))).tr (rc_fr.up (by simp))
  have hA1 := hA.fr fr1 (by simp)
  have e62 : (rc_up (rc_up (rc_up σ 62 (upd (σ 62) 3 (nI n))) 63 f) 64 (upd ((rc_up (rc_up σ 62 (upd (σ 62) 3 (nI n))) 63 f) 64) 0 (nI s))) 62 3 = nI n := by
    rw [rc_up_n _ _ (by decide), rc_up_n _ _ (by decide), rc_up_s, pk_us]
  have e63 : ∀ j, j < n → (rc_up (rc_up (rc_up σ 62 (upd (σ 62) 3 (nI n))) 63 f) 64 (upd ((rc_up (rc_up σ 62 (upd (σ 62) 3 (nI n))) 63 f) 64) 0 (nI s))) 63 j = nI ((fun _ => 0) j) ∧ (fun _ => 0) j < 6 := fun j hj => by
    rw [rc_up_n _ _ (by decide), rc_up_s, hf j (by omega)]
    exact ⟨rfl, Nat.zero_lt_succ 5⟩
  refine c_sleepFrom (k := 0) (n := n) (s := s) (row := fun _ => 0) rfl hA1 hs hn (Nat.zero_le _) e62 e63 (fun j hj => ?_) (fun g hg => ?_)
  · have : j = 0 := by omega
    subst this
    rw [rc_up_s, pk_us]
    rfl
  · have fr2 : rc_fr [62, 63, 64] σ (rc_up (rc_up (rc_up (rc_up σ 62 (upd (σ 62) 3 (nI n))) 63 f) 64 (upd ((rc_up (rc_up σ 62 (upd (σ 62) 3 (nI n))) 63 f) 64) 0 (nI s))) 64 g) := fr1.tr (rc_fr.up (by simp))
    have hA2 := hA.fr fr2 (by simp)
    refine c_power hA2.2.2.2.1 rfl hn ?_
    refine ⟨_, rfl, h _ fr2 ⟨?_, hn, fun j hj => ?_, hs, fun j hj => ?_⟩⟩
    · rw [rc_up_n _ _ (by decide)]; exact e62
    · rw [rc_up_n _ _ (by decide)]; exact e63 j hj
    · rw [rc_up_s]; exact hg j hj
theorem c_advance {n s : Nat} {row : Nat → Nat} (hA : rc_CA σ V) (hW : rc_Wk σ V n s row) {Q : rc_M → Prop} (h0 : ∀ σ', rc_fr [62, 63, 64] σ σ' → (rc_inc (V 12 0) n row).1 = 0 → Q σ') (h1 : ∀ σ', rc_fr [62, 63, 64] σ σ' → (rc_inc (V 12 0) n row).1 ≠ 0 → rc_Wk σ' V n s (rc_inc (V 12 0) n row).2 → Q σ') : rc_TV (d + 4) 71 [.ref 62] σ Q := by
  obtain ⟨w1, w2, w3, w4, w5⟩ := hW
  refine rc_go 60 ?_
  refine c_advRow (L := 6) w1 hA.2.2.2.1 rfl rfl (by decide) w2 (by decide) hA.2.2.2.2 (fun j hj => ⟨(w3 j hj).1, by have := (w3 j hj).2; omega⟩) (fun f' hf' => ?_)
  have fr1 : rc_fr [62, 63, 64] σ (rc_up σ 63 f') := rc_fr.up (by simp)
  refine And.intro (fun c => ?_) (fun c => ?_)
  · have hz : (rc_inc (V 12 0) n row).1 = 0 := by
      rcases Nat.eq_zero_or_pos (rc_inc (V 12 0) n row).1 with z | z
      · exact z
      · rw [rc_pred z] at c
        have hle : (rc_inc (V 12 0) n row).1 ≤ 6 := by
          have key : ∀ (m : Nat) (r : Nat → Nat), (rc_inc (V 12 0) m r).1 ≤ m := by
            intro m
            induction m with
            | zero => intro r; exact Nat.le_refl _
            | succ m ihm =>
              intro r
              rw [rc_inc]
              split
              · exact Nat.le_refl _
              · exact Nat.le_trans (ihm _) (Nat.le_succ _)
          have := key n row
          omega
        exact absurd c (nI_pos (by omega))
    exact ⟨rfl, h0 _ fr1 hz⟩
  · have hz : (rc_inc (V 12 0) n row).1 ≠ 0 := fun z => c (by rw [z]; decide)
    have hp : ∀ (m : Nat) (r : Nat → Nat), (rc_inc (V 12 0) m r).1 ≤ m ∧ (∀ i, i + 1 < (rc_inc (V 12 0) m r).1 → (rc_inc (V 12 0) m r).2 i = r i) := by
      intro m
      induction m with
      | zero => intro r; exact ⟨Nat.le_refl _, fun i hi => rfl⟩
      | succ m ihm =>
        intro r
        rw [rc_inc]
        split
        · refine ⟨Nat.le_refl _, fun i hi => ?_⟩
          have : i ≠ m := by dsimp only at hi; omega
          simp [va_up, this]
        · obtain ⟨a1, a2⟩ := ihm (va_up r m 0)
          refine ⟨by omega, fun i hi => ?_⟩
          rw [a2 i hi]
          have : i ≠ m := by omega
          simp [va_up, this]
    obtain ⟨p1, p2⟩ := hp n row
    have hlt6 : ∀ j, j < n → (rc_inc (V 12 0) n row).2 j < 6 := fun j hj => by
      have key := rc_inc_lt hA.2.2.2.2 n (fun i => if i < n then row i else 0) (fun i _ => by
        split
        · rename_i q; exact (w3 i q).2
        · decide) j (by omega)
      have ce : ∀ (m : Nat) (r r' : Nat → Nat), m ≤ n → (∀ i, i < n → r i = r' i) → ∀ i, i < n → (rc_inc (V 12 0) m r).2 i = (rc_inc (V 12 0) m r').2 i := by
        intro m
        induction m with
        | zero => intro r r' _ hrr i hi; exact hrr i hi
        | succ m ihm =>
          intro r r' hm hrr i hi
          rw [rc_inc, rc_inc, hrr m (by omega)]
          split
          · dsimp only [va_up]
            split
            · rfl
            · exact hrr i hi
          · refine ihm _ _ (by omega) (fun i hi => ?_) i hi
            dsimp only [va_up]
            split
            · rfl
            · exact hrr i hi
      rw [ce n row (fun i => if i < n then row i else 0) (Nat.le_refl _) (fun i hi => by simp [hi]) j hj]
      exact key
    have hA1 := hA.fr fr1 (by simp)
    refine c_sleepFrom (k := (rc_inc (V 12 0) n row).1 - 1) (n := n) (s := s) (row := (rc_inc (V 12 0) n row).2) (rc_pred (by omega)) hA1 w4 w2 (by omega) (by rw [rc_up_n _ _ (by decide)]; exact w1) (fun j hj => by rw [rc_up_s]; exact ⟨hf' j hj, hlt6 j hj⟩) (fun j hj => ?_) (fun g hg => ?_)
    · rw [rc_up_n _ _ (by decide), w5 j (by omega), rc_E_congr j (fun i hi => p2 i (by omega))]
    · refine ⟨rfl, h1 _ (fr1.tr (rc_fr.up (by simp))) hz ⟨?_, w2, fun j hj => ?_, w4, fun j hj => ?_⟩⟩
      · rw [rc_up_n _ _ (by decide), rc_up_n _ _ (by decide)]; exact w1
      · rw [rc_up_n _ _ (by decide), rc_up_s]; exact ⟨hf' j hj, hlt6 j hj⟩
      · rw [rc_up_s]; exact hg j hj
theorem c_end {n s : Nat} {row : Nat → Nat} (hW : rc_Wk σ V n s row) {Q : Int32 → rc_M → Prop} (h : Q (nI (rc_E V row s n)) σ) : rc_TI d 72 [.ref 62] σ Q := by
  obtain ⟨w1, w2, w3, w4, w5⟩ := hW
  refine rc_go 40 (And.intro (by rw [w1]; exact rc_vi (n := 7) (by omega) (by decide)) ⟨_, rfl, ?_⟩)
  rw [w1, rc_ci (by omega), w5 n (Nat.le_refl _)]
  exact h
theorem c_endOf {x : Int32} {n s s' : Nat} {row : Nat → Nat} (hx : x = nI s') (hs' : s' < 27) (hA : rc_CA σ V) (hW : rc_Wk σ V n s row) {Q : Int32 → rc_M → Prop} (h : ∀ σ', rc_fr [62, 63, 64] σ σ' → rc_Wk σ' V n s' row → Q (nI (rc_E V row s' n)) σ') : rc_TI (d + 4) 73 [.ref 62, .int x] σ Q := by
  subst hx
  obtain ⟨w1, w2, w3, w4, w5⟩ := hW
  refine rc_go 40 (And.intro (rc_vi (n := 7) (i := 0) (by decide) (by decide)) ?_)
  have fr1 : rc_fr [62, 63, 64] σ (rc_up σ 64 (upd (σ 64) 0 (nI s'))) := rc_fr.up (by simp)
  refine c_sleepFrom (k := 0) (n := n) (s := s') (row := row) rfl (hA.fr fr1 (by simp)) hs' w2 (Nat.zero_le _) (by rw [rc_up_n _ _ (by decide)]; exact w1) (fun j hj => by rw [rc_up_n _ _ (by decide)]; exact w3 j hj) (fun j hj => ?_) (fun g hg => ?_)
  · have : j = 0 := by omega
    subst this
    rw [rc_up_s, pk_us]
    rfl
  · have e62 : rc_up (rc_up σ 64 (upd (σ 64) 0 (nI s'))) 64 g 62 3 = nI n := by rw [rc_up_n _ _ (by decide), rc_up_n _ _ (by decide)]; exact w1
    refine And.intro (by rw [e62]; exact rc_vi (n := 7) (by omega) (by decide)) ⟨_, rfl, ?_⟩
    rw [e62, rc_ci (by omega), rc_up_s, hg n (Nat.le_refl _)]
    refine h _ (fr1.tr (rc_fr.up (by simp))) ⟨e62, w2, fun j hj => ?_, hs', fun j hj => ?_⟩
    · rw [rc_up_n _ _ (by decide), rc_up_n _ _ (by decide)]; exact w3 j hj
    · rw [rc_up_s]; exact hg j hj
theorem c_roomBits_l {n s : Nat} {row : Nat → Nat} (hW : rc_Wk σ V n s row) {Q' : Option Value → rc_M → Prop} (h : Q' (some (.int (nI (rc_bits row n)))) σ) : ∀ (c k : Nat), k + c = n → rc_Tc d 75 4 [.ref 62, .int (nI (rc_bits row k)), .int (nI k)] [] σ Q' := by
  obtain ⟨w1, w2, w3, w4, w5⟩ := hW
  intro c
  induction c with
  | zero =>
    intro k hk
    have : k = n := by omega
    subst this
    exact rc_go 40 (And.intro (fun _ => h) (fun c => absurd (by rw [w1]; exact nI_le (Nat.le_refl k) (by omega)) c))
  | succ c ih =>
    intro k hk
    refine rc_go 40 (And.intro (fun c1 => absurd (by rw [w1] at c1; exact c1) (nI_ge (by omega) (by omega))) (fun _ => ?_))
    refine And.intro (rc_vi (n := 6) (by omega) (by decide)) ?_
    have key := ih (k + 1) (by omega)
    rw [← nI_1, rc_bits, ← fa_or, ← rc_shl _ (by have := (w3 k (by omega)).2; omega), ← (w3 k (by omega)).1] at key
    rw [rc_ci (by omega)]
    exact key
theorem c_roomBits {n s : Nat} {row : Nat → Nat} (hW : rc_Wk σ V n s row) {Q : Int32 → rc_M → Prop} (h : Q (nI (rc_bits row n)) σ) : rc_TI d 75 [.ref 62] σ Q := rc_go 40 (c_roomBits_l hW ⟨_, rfl, h⟩ n 0 (by omega))
theorem c_price_l {n s : Nat} {row : Nat → Nat} (hA : rc_CA σ V) (hW : rc_Wk σ V n s row) {Q' : Option Value → rc_M → Prop} (h : Q' (some (.int (nI (rc_sum V row n)))) σ) : ∀ (c k : Nat), k + c = n → rc_Tc d 76 4 [.ref 62, .int (nI (rc_sum V row k)), .int (nI k)] [] σ Q' := by
  obtain ⟨w1, w2, w3, w4, w5⟩ := hW
  intro c
  induction c with
  | zero =>
    intro k hk
    have : k = n := by omega
    subst this
    exact rc_go 40 (And.intro (fun _ => h) (fun c => absurd (by rw [w1]; exact nI_le (Nat.le_refl k) (by omega)) c))
  | succ c ih =>
    intro k hk
    obtain ⟨r1, r2⟩ := w3 k (by omega)
    have hCR := hA.2.1 (row k) r2
    refine rc_go 40 (And.intro (fun c1 => absurd (by rw [w1] at c1; exact c1) (nI_ge (by omega) (by omega))) (fun _ => ?_))
    refine And.intro (rc_vi (n := 6) (by omega) (by decide)) ?_
    rw [rc_ci (by omega), r1]
    refine Exists.intro (9 + 2 * row k) (And.intro rfl (And.intro (rc_vi (n := 6) r2 (by decide)) (And.intro (by rw [rc_ci (by omega)]; exact rc_rho4 _ r2) (And.intro (rc_rmf _ r2).1 ?_))))
    have key := ih (k + 1) (by omega)
    rw [← nI_1, rc_sum, ← nI_add, ← hCR.2.2.2.2.1] at key
    exact key
theorem c_price {n s : Nat} {row : Nat → Nat} (hA : rc_CA σ V) (hW : rc_Wk σ V n s row) {Q : Int32 → rc_M → Prop} (h : Q (nI (rc_sum V row n)) σ) : rc_TI d 76 [.ref 62] σ Q := rc_go 40 (c_price_l hA hW ⟨_, rfl, h⟩ n 0 (by omega))
theorem c_copyRow {n s : Nat} {row : Nat → Nat} (hW : rc_Wk σ V n s row) {Q : rc_M → Prop} (h : ∀ f, (∀ j, j < n → f j = nI (row j)) → Q (rc_up σ 66 f)) : rc_TV d 77 [.ref 62, .ref 66] σ Q := by
  obtain ⟨w1, w2, w3, w4, w5⟩ := hW
  have hc : (nI n).toNatClampNeg = n := rc_ci (by omega)
  refine rc_go 40 (And.intro ⟨rfl, rfl, by decide, by decide, by decide, by decide, by rw [w1]; exact nI_pos (by omega), ?_, ?_⟩ ?_)
  · rw [w1, hc]; show 0 + n ≤ 6; omega
  · rw [w1, hc]; show 0 + n ≤ 6; omega
  · rw [w1, hc]
    refine ⟨rfl, h _ (fun j hj => ?_)⟩
    show va_cpy (σ 63) (σ 66) 0 0 n j = _
    rw [pk_cpy_in (Nat.zero_le _) (by omega)]
    show σ 63 (0 + (j - 0)) = _
    rw [Nat.zero_add, Nat.sub_zero]
    exact (w3 j hj).1
end RW2
