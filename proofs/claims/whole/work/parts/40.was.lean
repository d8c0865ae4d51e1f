section RWs
variable {d n : Nat} {σ : rc_M} {P : rc_P} {V : rc_V} {Q : Int32 → rc_M → Prop}
/-! was: how many rows, and the rooms that are in all of them -/
def rcw_h (V : rc_V) (s u n t : Nat) : Bool := decide (rc_E V (rc_dg (V 12 0) n t) s n = u)
def rcw_b (V : rc_V) (n t : Nat) : Nat := rc_bits (rc_dg (V 12 0) n t) n
def rcw_m (V : rc_V) (s u n : Nat) : Nat → Nat
  | 0 => 0
  | t + 1 => if rcw_h V s u n t then rcw_m V s u n t + 1 else rcw_m V s u n t
def rcw_n (V : rc_V) (s u n : Nat) : Nat → Nat
  | 0 => 2 ^ V 12 0 - 1
  | t + 1 => if rcw_h V s u n t then rcw_n V s u n t &&& rcw_b V n t else rcw_n V s u n t
def rcw_j (V : rc_V) (s u n : Nat) : Nat → Nat
  | 0 => 0
  | t + 1 => if rcw_h V s u n t then (if rcw_m V s u n t = 0 then rcw_b V n t else rcw_j V s u n t &&& rcw_b V n t) else rcw_j V s u n t
theorem rcw_m_le (s u n : Nat) : ∀ t, rcw_m V s u n t ≤ t := by
  intro t
  induction t with
  | zero => exact Nat.le_refl _
  | succ t ih => rw [rcw_m]; split <;> omega
theorem rc_bits_lt {row : Nat → Nat} {b : Nat} : ∀ n, (∀ j, j < n → row j < b) → rc_bits row n < 2 ^ b := by
  intro n
  induction n with
  | zero => intro _; exact Nat.pow_pos (by decide)
  | succ n ih =>
    intro h
    rw [rc_bits]
    exact Nat.or_lt_two_pow (ih (fun j hj => h j (by omega))) (Nat.pow_lt_pow_right (by decide) (h n (by omega)))
theorem rcw_j_n {s u n : Nat} (hb0 : 0 < V 12 0) : ∀ t, (rcw_m V s u n t = 0 → rcw_n V s u n t = 2 ^ V 12 0 - 1 ∧ rcw_j V s u n t = 0) ∧ (rcw_m V s u n t ≠ 0 → rcw_j V s u n t = rcw_n V s u n t) := by
  intro t
  induction t with
  | zero => exact ⟨fun _ => ⟨rfl, rfl⟩, fun h => absurd rfl h⟩
  | succ t ih =>
    rw [rcw_m, rcw_n, rcw_j]
    by_cases c : rcw_h V s u n t
    · rw [if_pos c, if_pos c, if_pos c]
      refine ⟨fun h => absurd h (Nat.succ_ne_zero _), fun _ => ?_⟩
      by_cases z : rcw_m V s u n t = 0
      · rw [if_pos z, (ih.1 z).1, Nat.and_comm, Nat.and_two_pow_sub_one_eq_mod, Nat.mod_eq_of_lt]
        exact rc_bits_lt n (fun j _ => rc_dg_lt hb0)
      · rw [if_neg z, ih.2 z]
    · rw [if_neg c, if_neg c, if_neg c]
      exact ih
def a_was (V : rc_V) (s u n w : Nat) : Int32 := if w = 0 then nI (rcw_m V s u n (V 12 0 ^ n)) else if rcw_m V s u n (V 12 0 ^ n) = 0 then 0 else nI (rcw_n V s u n (V 12 0 ^ n))
def o_was (P : rc_P) (x y z w : Int32) : Int32 × rc_P := cond (rc_ob x 27 || rc_ob y 27) (o_no P 1) (cond (rc_ob w 2) (o_no P 2) (if z < 1 then o_no P 4 else if 3 < z then o_no P 6 else (a_was (pV P) x.toNatClampNeg y.toNatClampNeg z.toNatClampNeg w.toNatClampNeg, P)))
theorem c_was_88 {s u n w : Nat} (hA : rc_CA σ V) (hs : s < 27) (hu : u < 27) (hn : n ≤ 3) (hn1 : 1 ≤ n) (hw : w ≤ 1) {Q' : Option Value → rc_M → Prop} (h : ∀ σ', rc_fr [62, 63, 64] σ σ' → Q' (some (.int (a_was V s u n w))) σ') :
    ∀ (c t : Nat) (σ1 : rc_M), t + c = V 12 0 ^ n → rc_fr [62, 63, 64] σ σ1 → (t < V 12 0 ^ n → rc_Wk σ1 V n s (rc_dg (V 12 0) n t)) → rc_Tc (d + 5) 101 88 [.ref 2, .int (nI s), .int (nI u), .int (nI n), .int (nI w), .int (nI (rcw_m V s u n t)), .int (nI (rcw_n V s u n t)), .int (nI (V 12 0 ^ n)), .int (nI t)] [] σ1 Q' := by
  have hp1 : V 12 0 ^ n ≤ 6 ^ 4 := Nat.le_trans (Nat.pow_le_pow_left hA.2.2.2.2 n) (Nat.pow_le_pow_right (by decide) (by omega))
  have hp2 : (6 : Nat) ^ 4 = 1296 := by decide
  intro c
  induction c with
  | zero =>
    intro t σ1 ht hf hW
    have : t = V 12 0 ^ n := by omega
    subst this
    have h' := h σ1 hf
    have hml := rcw_m_le (V := V) s u n (V 12 0 ^ n)
    unfold a_was at h'
    refine rc_go 40 (And.intro (fun _ => ?_) (fun c => absurd (nI_le (Nat.le_refl _) (by omega)) c))
    refine And.intro (fun c1 => ?_) (fun c1 => ?_)
    · have hw1 : ¬ w = 0 := fun z => c1 (by rw [z]; rfl)
      rw [if_neg hw1] at h'
      refine And.intro (fun c2 => ?_) (fun c2 => ?_)
      · have hz : ¬ rcw_m V s u n (V 12 0 ^ n) = 0 := fun z => c2 (by rw [z]; rfl)
        rw [if_neg hz] at h'
        exact h'
      · have hz : rcw_m V s u n (V 12 0 ^ n) = 0 := (nI_eq (by omega) (by decide)).mp (show _ = nI 0 from c2)
        rw [if_pos hz] at h'
        exact h'
    · have hw1 : w = 0 := (nI_eq (by omega) (by decide)).mp (show _ = nI 0 from c1)
      rw [if_pos hw1] at h'
      exact h'
  | succ c ih =>
    intro t σ1 ht hf hW
    have htl : t < V 12 0 ^ n := by omega
    have hW1 := hW htl
    have hElt : rc_E V (rc_dg (V 12 0) n t) s n < 27 := rc_E_lt hs n (fun i hi => hA.2.2.1 _ (hW1.2.2.1 i hi).2)
    refine rc_go 60 (And.intro (fun c1 => absurd c1 (nI_ge (by omega) (by omega))) (fun _ => ?_))
    refine c_end hW1 ?_
    refine And.intro (fun c2 => ?_) (fun c2 => ?_)
    · have z : rcw_h V s u n t = false := by
        unfold rcw_h
        simp
        exact fun z => c2 (by rw [z])
      refine c_adv (hA.fr hf (by simp)) htl hW1 (fun σ2 hf2 hW2 => ?_)
      have key := ih (t + 1) σ2 (by omega) (hf.tr hf2) hW2
      rw [rcw_m, rcw_n, z, ← nI_1] at key
      exact key
    · have z : rcw_h V s u n t = true := by
        unfold rcw_h
        simp
        exact (nI_eq (by omega) (by omega)).mp c2
      refine c_roomBits hW1 ?_
      refine c_adv (hA.fr hf (by simp)) htl hW1 (fun σ2 hf2 hW2 => ?_)
      have key := ih (t + 1) σ2 (by omega) (hf.tr hf2) hW2
      rw [rcw_m, rcw_n, z, if_pos rfl, if_pos rfl, ← nI_1, ← nI_1, ← fa_and] at key
      exact key
theorem rc_1k3 {z : Int32} (h1 : 1 ≤ z) (h2 : z ≤ 3) : ∃ k, 1 ≤ k ∧ k ≤ 3 ∧ z = nI k := by
  obtain ⟨k, hk, rfl⟩ := rc_le99 (fun q => Int32.not_lt.mpr h1 (Int32.lt_trans q (by decide))) (m := 3) (by decide) h2
  refine ⟨k, ?_, hk, rfl⟩
  rcases Nat.eq_zero_or_pos k with q | q
  · subst q; exact absurd h1 (by decide)
  · exact q
theorem c_was {x y z w : Int32} (hI : rc_CP σ P) (hW : rc_WP n P) (h : ∀ σ', rc_fC σ σ' → rc_CP σ' (o_was P x y z w).2 → Q (o_was P x y z w).1 σ') : rc_TI (d + 5) 101 [.ref 2, .int x, .int y, .int z, .int w] σ Q := by
  refine rc_go 80 (c_isState (fun ho => ?_) (fun s hs hx => ?_))
  · refine And.intro (fun _ => ?_) (fun c => absurd rfl c)
    exact c_ref (w := 1) (by decide) (by decide) hI hW (by simp only [o_was, rc_ob_t ho, cond_true, Bool.true_or]) (fun σ' a b => ⟨_, rfl, h σ' a b⟩)
  · subst hx
    refine And.intro (fun c => absurd c (by decide)) (fun _ => ?_)
    refine c_isState (fun ho => ?_) (fun u hu hy => ?_)
    · refine And.intro (fun c => absurd rfl c) (fun _ => ?_)
      exact c_ref (w := 1) (by decide) (by decide) hI hW (by simp only [o_was, rc_ob_t ho, cond_true, Bool.or_true]) (fun σ' a b => ⟨_, rfl, h σ' a b⟩)
    · subst hy
      refine And.intro (fun _ => ?_) (fun c => absurd c (by decide))
      have e1 := rc_ob_f hs (show 27 ≤ 2000 by omega)
      have e2 := rc_ob_f hu (show 27 ≤ 2000 by omega)
      refine And.intro (fun c1 => ?_) (fun c1 => And.intro (fun c2 => ?_) (fun c2 => ?_))
      · exact c_ref (w := 2) (by decide) (by decide) hI hW (by simp only [o_was, e1, e2, Bool.or_false, cond_false, rc_ob_lo c1, cond_true]) (fun σ' a b => ⟨_, rfl, h σ' a b⟩)
      · obtain ⟨k, hk, rfl⟩ := rc_le99 c1 (m := 1) (by decide) c2
        have e3 := rc_ob_f (show k < 2 by omega) (show 2 ≤ 2000 by omega)
        refine And.intro (fun c3 => ?_) (fun c3 => ?_)
        · have c3' : ¬ z < 1 := Int32.not_lt.mpr c3
          refine And.intro (fun c4 => ?_) (fun c4 => ?_)
          · have c4' : ¬ 3 < z := Int32.not_lt.mpr c4
            obtain ⟨m, hm1, hm3, rfl⟩ := rc_1k3 c3 c4
            have ho : o_was P (nI s) (nI u) (nI m) (nI k) = (a_was (pV P) s u m k, P) := by simp only [o_was, e1, e2, e3, Bool.or_false, cond_false, if_neg c3', if_neg c4', rc_ci (show s ≤ 2000 by omega), rc_ci (show u ≤ 2000 by omega), rc_ci (show m ≤ 2000 by omega), rc_ci (show k ≤ 2000 by omega)]
            rw [ho] at h
            have hA := hI.CA hW
            have key : ∀ Q' : Int32 → rc_M → Prop, Q' (nI (2 ^ pV P 12 0 - 1)) σ → rc_TI (d + 4) 12 [.ref 3] σ Q' := fun Q' hq => by
              refine rc_go 20 ⟨_, rfl, ?_⟩
              rw [hA.2.2.2.1, rc_shl _ (by have := hA.2.2.2.2; omega), rc_pred (Nat.pow_pos (by decide))]
              exact hq
            refine key _ (c_beg (s := s) rfl rfl hA hs (by omega) (fun σ2 hf2 hW2 => ?_))
            exact c_was_88 hA hs hu hm3 hm1 hk (fun σ' hf => ⟨_, rfl, h σ' (hf.fC (by simp)) (hI.fr hW hf (by simp))⟩) (pV P 12 0 ^ m) 0 σ2 (by omega) hf2 (fun _ => hW2)
          · have c4' : 3 < z := Int32.not_le.mp c4
            exact c_ref (w := 6) (by decide) (by decide) hI hW (by simp only [o_was, e1, e2, e3, Bool.or_false, cond_false, if_neg c3', if_pos c4']) (fun σ' a b => ⟨_, rfl, h σ' a b⟩)
        · have c3' : z < 1 := Int32.not_le.mp c3
          exact c_ref (w := 4) (by decide) (by decide) hI hW (by simp only [o_was, e1, e2, e3, Bool.or_false, cond_false, if_pos c3']) (fun σ' a b => ⟨_, rfl, h σ' a b⟩)
      · exact c_ref (w := 2) (by decide) (by decide) hI hW (by simp only [o_was, e1, e2, Bool.or_false, cond_false, rc_ob_hi (m := 1) (by decide) c2, cond_true]) (fun σ' a b => ⟨_, rfl, h σ' a b⟩)
theorem t_was_98 {s u n w t : Nat} {x5 x6 : Int32} {Q' : Option Value → rc_M → Prop} (hb0 : 0 < V 12 0) (hb6 : V 12 0 ≤ 6) (hn : n ≤ 3) (hr : rc_mrw σ (V 12 0) n t) (h : rc_Tc d 167 98 [.ref 80, .int (nI s), .int (nI u), .int (nI n), .int (nI w), .int x5, .int x6, .int (nI (rcw_b V n t)), .int (nI n)] [] σ Q') : ∀ (c k : Nat), k + c = n → rc_Tc d 167 98 [.ref 80, .int (nI s), .int (nI u), .int (nI n), .int (nI w), .int x5, .int x6, .int (nI (rc_bits (rc_dg (V 12 0) n t) k)), .int (nI k)] [] σ Q' := by
  intro c
  induction c with
  | zero =>
    intro k hk
    have : k = n := by omega
    subst this
    exact h
  | succ c ih =>
    intro k hk
    have hd := rc_dg_lt (n := n) (t := t) (i := k) hb0
    have key := ih (k + 1) (by omega)
    rw [← nI_1, rc_bits, ← fa_or, ← rc_shl _ (by omega), ← hr k (by omega)] at key
    refine rc_go 40 (And.intro (fun c1 => absurd c1 (nI_ge (by omega) (by omega))) (fun _ => ?_))
    refine And.intro (rc_vi (n := 6) (by omega) (by decide)) ?_
    rw [rc_ci (by omega)]
    exact key
theorem t_was_fin {s u n w : Nat} (hb0 : 0 < V 12 0) (hw : w ≤ 1) {m : Nat} (hm : m = V 12 0 ^ n) : a_was V s u n w = if w = 0 then nI (rcw_m V s u n m) else nI (rcw_j V s u n m) := by
  subst hm
  unfold a_was
  have k := rcw_j_n (s := s) (u := u) (n := n) hb0 (V 12 0 ^ n)
  split
  · rfl
  · by_cases z : rcw_m V s u n (V 12 0 ^ n) = 0
    · rw [if_pos z, (k.1 z).2]; rfl
    · rw [if_neg z, k.2 z]
theorem t_was_82 {s u n w : Nat} (hM : rc_Mod σ V) (hb0 : 0 < V 12 0) (hb6 : V 12 0 ≤ 6) (hWr : ∀ i, i < 6 → rc_WR V i) (hs : s < 27) (hu : u < 27) (hn : n ≤ 3) (hw : w ≤ 1) {Q' : Option Value → rc_M → Prop} (h : ∀ σ', rc_fq σ σ' → Q' (some (.int (a_was V s u n w))) σ') :
    ∀ (c t : Nat) (σ1 : rc_M) (w7 w8 : Value), t + c + 1 = V 12 0 ^ n → rc_fq σ σ1 → rc_mrw σ1 (V 12 0) n t → rc_Tc (d + 5) 167 82 [.ref 80, .int (nI s), .int (nI u), .int (nI n), .int (nI w), .int (nI (rcw_m V s u n t)), .int (nI (rcw_j V s u n t)), w7, w8] [] σ1 Q' := by
  have hp1 : V 12 0 ^ n ≤ 6 ^ 4 := Nat.le_trans (Nat.pow_le_pow_left hb6 n) (Nat.pow_le_pow_right (by decide) (by omega))
  have hp2 : (6 : Nat) ^ 4 = 1296 := by decide
  intro c
  induction c with
  | zero =>
    intro t σ1 w7 w8 ht hf hr
    have hElt : rc_E V (rc_dg (V 12 0) n t) s n < 27 := rc_E_dlt hb6 (Or.inl hb0) hWr hs
    have hml := rcw_m_le (V := V) s u n t
    have e := t_was_fin (s := s) (u := u) (w := w) hb0 hw ht
    have fin : ∀ (σ2 : rc_M) (x5 x6 : Int32), rc_fq σ σ2 → x5 = nI (rcw_m V s u n (t + 1)) → x6 = nI (rcw_j V s u n (t + 1)) → (w ≠ 0 → Q' (some (.int x6)) σ2) ∧ (w = 0 → Q' (some (.int x5)) σ2) := fun σ2 x5 x6 hf2 h5 h6 => by
      have h' := h σ2 hf2
      rw [e] at h'
      subst h5; subst h6
      refine ⟨fun z => ?_, fun z => ?_⟩
      · rw [if_neg z] at h'; exact h'
      · rw [if_pos z] at h'; exact h'
    have wz : ¬ nI w = 0 → w ≠ 0 := fun z q => z (by rw [q]; rfl)
    have wz' : nI w = 0 → w = 0 := fun z => (nI_eq (by omega) (by decide)).mp (show nI w = nI 0 from z)
    refine rc_go 60 (t_mb (t := t) (s := s) rfl rfl (hM.fq hf) (Or.inl hb0) hb6 hWr hs (by omega) hr (fun σ2 hf2 e2 _ => ?_))
    refine And.intro (fun c2 => ?_) (fun c2 => ?_)
    · have z : rcw_h V s u n t = false := by
        unfold rcw_h
        simp
        exact fun z => c2 (by rw [z])
      refine t_nxt rfl (hM.fq (hf.tr hf2)) hb0 hb6 (by omega) (by omega) (hr.fr e2) (fun c _ _ _ => absurd c (by omega)) (fun c σ3 hf3 => ?_)
      obtain ⟨f1, f0⟩ := fin σ3 _ _ ((hf.tr hf2).tr hf3) (show nI (rcw_m V s u n t) = _ by rw [rcw_m, z]; rfl) (show nI (rcw_j V s u n t) = _ by rw [rcw_j, z]; rfl)
      exact And.intro (fun z => absurd rfl z) (fun _ => And.intro (fun q => f1 (wz q)) (fun q => f0 (wz' q)))
    · have z : rcw_h V s u n t = true := by
        unfold rcw_h
        simp
        exact (nI_eq (by omega) (by omega)).mp c2
      refine t_was_98 (V := V) (t := t) hb0 hb6 hn (hr.fr e2) ?_ n 0 (by omega)
      refine rc_go 60 (And.intro (fun _ => ?_) (fun c => absurd (nI_le (Nat.le_refl _) (by omega)) c))
      refine And.intro (fun c3 => ?_) (fun c3 => ?_)
      · have hm0 : ¬ rcw_m V s u n t = 0 := fun q => c3 (by rw [q]; rfl)
        refine t_nxt rfl (hM.fq (hf.tr hf2)) hb0 hb6 (by omega) (by omega) (hr.fr e2) (fun c _ _ _ => absurd c (by omega)) (fun c σ3 hf3 => ?_)
        obtain ⟨f1, f0⟩ := fin σ3 _ _ ((hf.tr hf2).tr hf3) (show nI (rcw_m V s u n t) + 1 = _ by rw [rcw_m, z, nI_1]; rfl) (show nI (rcw_j V s u n t) &&& nI (rcw_b V n t) = _ by rw [rcw_j, z, fa_and, if_pos rfl, if_neg hm0])
        exact And.intro (fun z => absurd rfl z) (fun _ => And.intro (fun q => f1 (wz q)) (fun q => f0 (wz' q)))
      · have hm0 : rcw_m V s u n t = 0 := (nI_eq (by omega) (by decide)).mp (show _ = nI 0 from c3)
        refine t_nxt rfl (hM.fq (hf.tr hf2)) hb0 hb6 (by omega) (by omega) (hr.fr e2) (fun c _ _ _ => absurd c (by omega)) (fun c σ3 hf3 => ?_)
        obtain ⟨f1, f0⟩ := fin σ3 _ _ ((hf.tr hf2).tr hf3) (show nI (rcw_m V s u n t) + 1 = _ by rw [rcw_m, z, nI_1]; rfl) (show nI (rcw_b V n t) = _ by rw [rcw_j, z, if_pos rfl, if_pos hm0])
        exact And.intro (fun z => absurd rfl z) (fun _ => And.intro (fun q => f1 (wz q)) (fun q => f0 (wz' q)))
  | succ c ih =>
    intro t σ1 w7 w8 ht hf hr
    have hElt : rc_E V (rc_dg (V 12 0) n t) s n < 27 := rc_E_dlt hb6 (Or.inl hb0) hWr hs
    have hml := rcw_m_le (V := V) s u n t
    refine rc_go 60 (t_mb (t := t) (s := s) rfl rfl (hM.fq hf) (Or.inl hb0) hb6 hWr hs (by omega) hr (fun σ2 hf2 e2 _ => ?_))
    refine And.intro (fun c2 => ?_) (fun c2 => ?_)
    · have z : rcw_h V s u n t = false := by
        unfold rcw_h
        simp
        exact fun z => c2 (by rw [z])
      refine t_nxt rfl (hM.fq (hf.tr hf2)) hb0 hb6 (by omega) (by omega) (hr.fr e2) (fun c σ3 hf3 hr3 => ?_) (fun c _ _ => absurd (by omega) c)
      have key := ih (t + 1) σ3 w7 w8 (by omega) ((hf.tr hf2).tr hf3) hr3
      rw [rcw_m, rcw_j, z] at key
      exact And.intro (fun _ => key) (fun z => absurd z (by decide))
    · have z : rcw_h V s u n t = true := by
        unfold rcw_h
        simp
        exact (nI_eq (by omega) (by omega)).mp c2
      refine t_was_98 (V := V) (t := t) hb0 hb6 hn (hr.fr e2) ?_ n 0 (by omega)
      refine rc_go 60 (And.intro (fun _ => ?_) (fun c => absurd (nI_le (Nat.le_refl _) (by omega)) c))
      refine And.intro (fun c3 => ?_) (fun c3 => ?_)
      · have hm0 : ¬ rcw_m V s u n t = 0 := fun q => c3 (by rw [q]; rfl)
        refine t_nxt rfl (hM.fq (hf.tr hf2)) hb0 hb6 (by omega) (by omega) (hr.fr e2) (fun c σ3 hf3 hr3 => ?_) (fun c _ _ => absurd (by omega) c)
        have key := ih (t + 1) σ3 (.int (nI (rcw_b V n t))) (.int (nI n)) (by omega) ((hf.tr hf2).tr hf3) hr3
        rw [rcw_m, rcw_j, z, if_pos rfl, if_pos rfl, if_neg hm0, ← nI_1, ← fa_and] at key
        exact And.intro (fun _ => key) (fun z => absurd z (by decide))
      · have hm0 : rcw_m V s u n t = 0 := (nI_eq (by omega) (by decide)).mp (show _ = nI 0 from c3)
        refine t_nxt rfl (hM.fq (hf.tr hf2)) hb0 hb6 (by omega) (by omega) (hr.fr e2) (fun c σ3 hf3 hr3 => ?_) (fun c _ _ => absurd (by omega) c)
        have key := ih (t + 1) σ3 (.int (nI (rcw_b V n t))) (.int (nI n)) (by omega) ((hf.tr hf2).tr hf3) hr3
        rw [rcw_m, rcw_j, z, if_pos rfl, if_pos rfl, if_pos hm0, ← nI_1] at key
        exact And.intro (fun _ => key) (fun z => absurd z (by decide))
theorem t_was {x y z w : Int32} (hI : rc_MP σ P) (hW : rc_WP n P) (h : ∀ σ', rc_fM σ σ' → rc_MP σ' (o_was P x y z w).2 → Q (o_was P x y z w).1 σ') : rc_TI (d + 5) 167 [.ref 80, .int x, .int y, .int z, .int w] σ Q := by
  refine rc_go 80 (t_isNoState (fun ho => ?_) (fun s hs hx => ?_))
  · refine And.intro (fun _ => ?_) (fun c => absurd c (by decide))
    exact t_ref (w := 1) (by decide) (by decide) hI (by simp only [o_was, rc_ob_t ho, cond_true, Bool.true_or]) (fun σ' a b => ⟨_, rfl, h σ' a b⟩)
  · subst hx
    refine And.intro (fun c => absurd rfl c) (fun _ => ?_)
    refine t_isNoState (fun ho => ?_) (fun u hu hy => ?_)
    · refine And.intro (fun c => absurd c (by decide)) (fun _ => ?_)
      exact t_ref (w := 1) (by decide) (by decide) hI (by simp only [o_was, rc_ob_t ho, cond_true, Bool.or_true]) (fun σ' a b => ⟨_, rfl, h σ' a b⟩)
    · subst hy
      refine And.intro (fun _ => ?_) (fun c => absurd rfl c)
      have e1 := rc_ob_f hs (show 27 ≤ 2000 by omega)
      have e2 := rc_ob_f hu (show 27 ≤ 2000 by omega)
      refine And.intro (fun c1 => ?_) (fun c1 => And.intro (fun c2 => ?_) (fun c2 => ?_))
      · exact t_ref (w := 2) (by decide) (by decide) hI (by simp only [o_was, e1, e2, Bool.or_false, cond_false, rc_ob_lo c1, cond_true]) (fun σ' a b => ⟨_, rfl, h σ' a b⟩)
      · obtain ⟨k, hk, rfl⟩ := rc_le99 c1 (m := 1) (by decide) c2
        have e3 := rc_ob_f (show k < 2 by omega) (show 2 ≤ 2000 by omega)
        refine And.intro (fun c3 => ?_) (fun c3 => ?_)
        · have c3' : ¬ z < 1 := Int32.not_lt.mpr c3
          refine And.intro (fun c4 => ?_) (fun c4 => ?_)
          · have c4' : ¬ 3 < z := Int32.not_lt.mpr c4
            obtain ⟨m, hm1, hm3, rfl⟩ := rc_1k3 c3 c4
            have ho : o_was P (nI s) (nI u) (nI m) (nI k) = (a_was (pV P) s u m k, P) := by simp only [o_was, e1, e2, e3, Bool.or_false, cond_false, if_neg c3', if_neg c4', rc_ci (show s ≤ 2000 by omega), rc_ci (show u ≤ 2000 by omega), rc_ci (show m ≤ 2000 by omega), rc_ci (show k ≤ 2000 by omega)]
            rw [ho] at h
            refine And.intro (fun c5 => ?_) (fun c5 => ?_)
            · have hb0 : 0 < pV P 12 0 := by
                rcases Nat.eq_zero_or_pos (pV P 12 0) with q | q
                · exact absurd (by rw [hI.1.1, q]; rfl) c5
                · exact q
              have hpos : 0 < pV P 12 0 ^ m := Nat.pow_pos hb0
              refine t_bg (b := pV P 12 0) rfl (by omega) (fun σ2 hf2 hr2 => ?_)
              exact t_was_82 hI.1 hb0 hW.1.1 hW.1.2.2.2.2.1 hs hu hm3 hk (fun σ' hf => ⟨_, rfl, h σ' hf.fM (hI.fq hf)⟩) (pV P 12 0 ^ m - 1) 0 σ2 _ _ (by omega) hf2 hr2
            · have hz : pV P 12 0 = 0 := (nI_eq (by have := hW.1.1; omega) (by decide)).mp (show nI (pV P 12 0) = nI 0 from by rw [← hI.1.1]; exact c5)
              have ea : a_was (pV P) s u m k = 0 := by
                unfold a_was
                rw [hz, Nat.zero_pow (by omega), rcw_m]
                simp
                intro _
                rfl
              rw [ea] at h
              exact ⟨_, rfl, h σ rc_fM.rf hI⟩
          · have c4' : 3 < z := Int32.not_le.mp c4
            exact t_ref (w := 6) (by decide) (by decide) hI (by simp only [o_was, e1, e2, e3, Bool.or_false, cond_false, if_neg c3', if_pos c4']) (fun σ' a b => ⟨_, rfl, h σ' a b⟩)
        · have c3' : z < 1 := Int32.not_le.mp c3
          exact t_ref (w := 4) (by decide) (by decide) hI (by simp only [o_was, e1, e2, e3, Bool.or_false, cond_false, if_pos c3']) (fun σ' a b => ⟨_, rfl, h σ' a b⟩)
      · exact t_ref (w := 2) (by decide) (by decide) hI (by simp only [o_was, e1, e2, Bool.or_false, cond_false, rc_ob_hi (m := 1) (by decide) c2, cond_true]) (fun σ' a b => ⟨_, rfl, h σ' a b⟩)
end RWs
