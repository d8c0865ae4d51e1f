section RB
variable {d n : Nat} {σ : rc_M} {P : rc_P} {V : rc_V} {Q : Int32 → rc_M → Prop}
def rc_bt (V : rc_V) (s n m : Nat) : Nat → Nat
  | 0 => m
  | t + 1 => rc_bt V s n m t ||| 2 ^ rc_E V (rc_dg (V 12 0) n t) s n
def rc_bn (V : rc_V) (s : Nat) : Nat → Nat
  | 0 => 0
  | n + 1 => rc_bt V s n (rc_bn V s n) (V 12 0 ^ n)
def o_becomes (P : rc_P) (x z : Int32) : Int32 × rc_P := cond (rc_ob x 27) (o_no P 1) (if z < 0 then o_no P 4 else if 3 < z then o_no P 6 else (nI (rc_pc (rc_bn (pV P) x.toNatClampNeg (z.toNatClampNeg + 1)) 27), P))
theorem rc_bt_lt {s n m : Nat} (hb6 : V 12 0 ≤ 6) (hW : ∀ i, i < 6 → rc_WR V i) (hs : s < 27) (hm : m < 2 ^ 27) (hb : 0 < V 12 0 ∨ n = 0) : ∀ t, rc_bt V s n m t < 2 ^ 27 := by
  intro t
  induction t with
  | zero => exact hm
  | succ t ih => exact Nat.or_lt_two_pow ih (Nat.pow_lt_pow_right (by decide) (rc_E_dlt hb6 hb hW hs))
theorem rc_bn_lt {s : Nat} (hb6 : V 12 0 ≤ 6) (hW : ∀ i, i < 6 → rc_WR V i) (hs : s < 27) : ∀ n, rc_bn V s n < 2 ^ 27 := by
  intro n
  induction n with
  | zero => exact Nat.pow_pos (by decide)
  | succ n ih =>
    rw [rc_bn]
    rcases Nat.eq_zero_or_pos (V 12 0) with z | z
    · rcases Nat.eq_zero_or_pos n with q | q
      · exact rc_bt_lt hb6 hW hs ih (Or.inr q) _
      · rw [z, Nat.zero_pow q]; exact ih
    · exact rc_bt_lt hb6 hW hs ih (Or.inl z) _
theorem rc_bn_1 (s : Nat) : rc_bn V s 1 = 2 ^ s := by
  show rc_bt V s 0 0 1 = _
  rw [rc_bt, rc_bt, Nat.zero_or]
  rfl
theorem rc_bn_0 {s : Nat} (hz : V 12 0 = 0) : ∀ k, rc_bn V s (k + 1) = 2 ^ s := by
  intro k
  induction k with
  | zero => exact rc_bn_1 s
  | succ k ih => rw [rc_bn, hz, Nat.zero_pow (by omega)]; exact ih
theorem c_bec_62 {s nn n : Nat} (hA : rc_CA σ V) (hs : s < 27) (hn : n ≤ 3) {Q' : Option Value → rc_M → Prop}
    (k : ∀ σ' (w5 w6 : Value), rc_fr [62, 63, 64] σ σ' → rc_Tc (d + 5) 94 41 [.ref 2, .int (nI s), .int (nI nn), .int (nI (rc_bn V s (n + 1))), .int (nI (n + 1)), w5, w6] [] σ' Q') :
    ∀ (c t : Nat) (σ1 : rc_M), t + c = V 12 0 ^ n → rc_fr [62, 63, 64] σ σ1 → (t < V 12 0 ^ n → rc_Wk σ1 V n s (rc_dg (V 12 0) n t)) → rc_Tc (d + 5) 94 62 [.ref 2, .int (nI s), .int (nI nn), .int (nI (rc_bt V s n (rc_bn V s n) t)), .int (nI n), .int (nI (V 12 0 ^ n)), .int (nI t)] [] σ1 Q' := by
  have hp1 : V 12 0 ^ n ≤ 6 ^ 4 := Nat.le_trans (Nat.pow_le_pow_left hA.2.2.2.2 n) (Nat.pow_le_pow_right (by decide) (by omega))
  have hp2 : (6 : Nat) ^ 4 = 1296 := by decide
  intro c
  induction c with
  | zero =>
    intro t σ1 ht hf hW
    have : t = V 12 0 ^ n := by omega
    subst this
    have key := k σ1 (.int (nI (V 12 0 ^ n))) (.int (nI (V 12 0 ^ n))) hf
    rw [← nI_1] at key
    exact rc_go 40 (And.intro (fun _ => key) (fun c => absurd (nI_le (Nat.le_refl _) (by omega)) c))
  | succ c ih =>
    intro t σ1 ht hf hW
    have htl : t < V 12 0 ^ n := by omega
    have hW1 := hW htl
    have hElt : rc_E V (rc_dg (V 12 0) n t) s n < 27 := rc_E_lt hs n (fun i hi => hA.2.2.1 _ (hW1.2.2.1 i hi).2)
    refine rc_go 60 (And.intro (fun c1 => absurd c1 (nI_ge (by omega) (by omega))) (fun _ => ?_))
    refine c_end hW1 ?_
    refine c_adv (hA.fr hf (by simp)) htl hW1 (fun σ2 hf2 hW2 => ?_)
    have key := ih (t + 1) σ2 (by omega) (hf.tr hf2) hW2
    rw [rc_bt, ← nI_1, ← fa_or, ← rc_shl _ (by omega)] at key
    exact key
theorem c_bec_41 {s nn : Nat} (hA : rc_CA σ V) (hs : s < 27) (hnn : nn ≤ 3) {Q' : Option Value → rc_M → Prop} (h : ∀ σ', rc_fr [62, 63, 64] σ σ' → Q' (some (.int (nI (rc_pc (rc_bn V s (nn + 1)) 27)))) σ') :
    ∀ (c n : Nat) (σ1 : rc_M) (w5 w6 : Value), n + c = nn + 1 → rc_fr [62, 63, 64] σ σ1 → rc_Tc (d + 5) 94 41 [.ref 2, .int (nI s), .int (nI nn), .int (nI (rc_bn V s n)), .int (nI n), w5, w6] [] σ1 Q' := by
  intro c
  induction c with
  | zero =>
    intro n σ1 w5 w6 hn hf
    have : n = nn + 1 := by omega
    subst this
    refine rc_go 40 (And.intro (fun _ => ?_) (fun c => absurd (nI_lt (by omega) (by omega)) c))
    exact c_bitCount rfl (rc_bn_lt hA.2.2.2.2 hA.2.2.1 hs _) (h σ1 hf)
  | succ c ih =>
    intro n σ1 w5 w6 hn hf
    refine rc_go 40 (And.intro (fun c1 => absurd c1 (nI_nlt (show n ≤ nn by omega) (by omega))) (fun _ => ?_))
    refine c_beg (s := s) rfl rfl (hA.fr hf (by simp)) hs (by omega) (fun σ2 hf2 hW2 => ?_)
    exact c_bec_62 hA hs (by omega) (fun σ' w5 w6 hf' => ih (n + 1) σ' w5 w6 (by omega) hf') (V 12 0 ^ n) 0 σ2 (by omega) (hf.tr hf2) (fun _ => hW2)
theorem c_becomes {x z : Int32} (hI : rc_CP σ P) (hW : rc_WP n P) (h : ∀ σ', rc_fC σ σ' → rc_CP σ' (o_becomes P x z).2 → Q (o_becomes P x z).1 σ') : rc_TI (d + 5) 94 [.ref 2, .int x, .int z] σ Q := by
  refine rc_go 80 (c_isState (fun ho => ?_) (fun s hs hx => ?_))
  · refine And.intro (fun c => absurd rfl c) (fun _ => ?_)
    exact c_ref (w := 1) (by decide) (by decide) hI hW (by simp only [o_becomes, rc_ob_t ho, cond_true]) (fun σ' a b => ⟨_, rfl, h σ' a b⟩)
  · subst hx
    refine And.intro (fun _ => ?_) (fun c => absurd c (by decide))
    have e1 := rc_ob_f hs (show 27 ≤ 2000 by omega)
    refine And.intro (fun c3 => ?_) (fun c3 => ?_)
    · have c3' : ¬ z < 0 := Int32.not_lt.mpr c3
      refine And.intro (fun c4 => ?_) (fun c4 => ?_)
      · have c4' : ¬ 3 < z := Int32.not_lt.mpr c4
        obtain ⟨k, hk, rfl⟩ := rc_le99 c3' (m := 3) (by decide) c4
        have ho : o_becomes P (nI s) (nI k) = (nI (rc_pc (rc_bn (pV P) s (k + 1)) 27), P) := by simp only [o_becomes, e1, cond_false, if_neg c3', if_neg c4', rc_ci (show s ≤ 2000 by omega), rc_ci (show k ≤ 2000 by omega)]
        rw [ho] at h
        exact c_bec_41 (hI.CA hW) hs hk (fun σ' hf => ⟨_, rfl, h σ' (hf.fC (by simp)) (hI.fr hW hf (by simp))⟩) (k + 1) 0 σ _ _ (by omega) rc_fr.rf
      · have c4' : 3 < z := Int32.not_le.mp c4
        exact c_ref (w := 6) (by decide) (by decide) hI hW (by simp only [o_becomes, e1, cond_false, if_neg c3', if_pos c4']) (fun σ' a b => ⟨_, rfl, h σ' a b⟩)
    · have c3' : z < 0 := Int32.not_le.mp c3
      exact c_ref (w := 4) (by decide) (by decide) hI hW (by simp only [o_becomes, e1, cond_false, if_pos c3']) (fun σ' a b => ⟨_, rfl, h σ' a b⟩)
def rc_bv (σ : rc_M) (m : Nat) : Prop := ∀ i, i < 27 → σ 105 i = nI (m.testBit i).toNat
theorem rc_tb_or {m e i : Nat} : (m ||| 2 ^ e).testBit i = (m.testBit i || decide (e = i)) := by rw [Nat.testBit_or, Nat.testBit_two_pow]
theorem t_bec_38 {s nn : Nat} {w4 : Value} (hs : s < 27) {Q' : Option Value → rc_M → Prop} (h : ∀ f, (∀ i, i < 27 → f i = nI ((2 ^ s).testBit i).toNat) → rc_Tc d 158 68 [.ref 80, .int (nI s), .int (nI nn), .int (nI 1), w4] [] (rc_up σ 105 f) Q') :
    ∀ (c k : Nat) (f : Nat → Int32), k + c = 27 → (∀ i, i < k → f i = nI ((2 ^ s).testBit i).toNat) → rc_Tc d 158 38 [.ref 80, .int (nI s), .int (nI nn), .int (nI k), w4] [] (rc_up σ 105 f) Q' := by
  intro c
  induction c with
  | zero =>
    intro k f hk hf
    have : k = 27 := by omega
    subst this
    exact rc_go 40 (And.intro (fun _ => h f hf) (fun c => absurd (by decide) c))
  | succ c ih =>
    intro k f hk hf
    have key := ih (k + 1) (upd f k (nI ((2 ^ s).testBit k).toNat)) (by omega) (fun i hi => by
      by_cases e : i = k
      · subst e; exact pk_us
      · rw [pk_un e]; exact hf i (by omega))
    rw [← nI_1] at key
    refine rc_go 40 (And.intro (fun c1 => absurd c1 (nI_ge (show k < 27 by omega) (by decide))) (fun _ => ?_))
    refine And.intro (fun c2 => ?_) (fun c2 => ?_)
    · have z : ¬ s = k := fun z => c2 (by rw [z])
      rw [Nat.testBit_two_pow, decide_eq_false z] at key
      refine And.intro (Or.inl rfl) (And.intro (rc_vi (n := 27) (by omega) (by decide)) ?_)
      rw [rc_up_s, rc_uu, rc_ci (by omega)]
      exact key
    · have z : s = k := ((nI_eq (by omega) (by omega)).mp c2).symm
      rw [Nat.testBit_two_pow, decide_eq_true z] at key
      refine And.intro (Or.inr rfl) (And.intro (rc_vi (n := 27) (by omega) (by decide)) ?_)
      rw [rc_up_s, rc_uu, rc_ci (by omega)]
      exact key
theorem t_bec_116 {s nn m : Nat} (hv : rc_bv σ m) {Q' : Option Value → rc_M → Prop} (h : Q' (some (.int (nI (rc_pc m 27)))) σ) : ∀ (c k : Nat), k + c = 27 → rc_Tc d 158 116 [.ref 80, .int (nI s), .int (nI nn), .int (nI (rc_pc m k)), .int (nI k)] [] σ Q' := by
  intro c
  induction c with
  | zero =>
    intro k hk
    have : k = 27 := by omega
    subst this
    exact rc_go 40 (And.intro (fun _ => h) (fun c => absurd (by decide) c))
  | succ c ih =>
    intro k hk
    have key := ih (k + 1) (by omega)
    rw [← nI_1, rc_pc] at key
    refine rc_go 40 (And.intro (fun c1 => absurd c1 (nI_ge (show k < 27 by omega) (by decide))) (fun _ => ?_))
    refine And.intro (rc_vi (n := 27) (by omega) (by decide)) ?_
    rw [rc_ci (by omega), hv k (by omega)]
    cases hb : m.testBit k with
    | false =>
      rw [hb, show false.toNat = 0 from rfl, ← nI_add] at key
      exact And.intro (fun _ => key) (fun z => absurd rfl z)
    | true =>
      rw [hb, show true.toNat = 1 from rfl, ← nI_add] at key
      exact And.intro (fun z => absurd z (by decide)) (fun _ => key)
theorem rc_fr.q2 {σ' : rc_M} (h : rc_fr [102] σ σ') : rc_fq σ σ' := fun k j hk => by
  rw [h k (by
    intro z
    have z' : k = 102 := by simpa using z
    subst z'
    cases hk)]
theorem t_bg2 {x : Int32} {n b : Nat} (hx : x = nI n) (hn : n ≤ 6) {Q : rc_M → Prop} (h : ∀ σ', rc_fr [102] σ σ' → rc_mrw σ' b n 0 → Q σ') : rc_TV d 150 [.ref 80, .int x] σ Q :=
  t_begin hx hn (fun f hf => h _ (rc_fr.up (by simp)) (fun j hj => by rw [rc_up_s, hf j hj, rc_dg_0]; rfl))
theorem t_nx2 {x : Int32} {n t : Nat} (hx : x = nI n) (hM : rc_Mod σ V) (hb0 : 0 < V 12 0) (hb6 : V 12 0 ≤ 6) (hn : n ≤ 6) (ht : t < V 12 0 ^ n) (hr : rc_mrw σ (V 12 0) n t)
    (k1 : t + 1 < V 12 0 ^ n → ∀ σ', rc_fr [102] σ σ' → rc_mrw σ' (V 12 0) n (t + 1) → Q 1 σ') (k0 : ¬ t + 1 < V 12 0 ^ n → ∀ σ', rc_fr [102] σ σ' → Q 0 σ') : rc_TI d 151 [.ref 80, .int x] σ Q := by
  obtain ⟨⟨i1, i2⟩, -, -, -⟩ := rc_inc_s hb0 n t (rc_dg (V 12 0) n t) ht (fun _ _ => rfl)
  refine t_isNext hx hn hb6 hM.1 (fun j hj => ⟨hr j hj, by have := rc_dg_lt (n := n) (t := t) (i := j) hb0; omega⟩) (fun f' hf' => ?_)
  by_cases c : t + 1 < V 12 0 ^ n
  · have hne := (i1 c).1
    rw [show rc_bI (decide ((rc_inc (V 12 0) n (rc_dg (V 12 0) n t)).1 ≠ 0)) = 1 by simp [hne, rc_bI]]
    exact k1 c _ (rc_fr.up (by simp)) (fun j hj => by rw [rc_up_s, hf' j hj, (i1 c).2 j hj])
  · have hz := (i2 c).1
    rw [show rc_bI (decide ((rc_inc (V 12 0) n (rc_dg (V 12 0) n t)).1 ≠ 0)) = 0 by simp [hz, rc_bI]]
    exact k0 c _ (rc_fr.up (by simp))
theorem rc_bv.up {m e : Nat} {σ2 σ3 : rc_M} (hv : rc_bv σ m) (h2 : σ2 105 = σ 105) (h3 : rc_fr [102] (rc_up σ2 105 (upd (σ2 105) e 1)) σ3) : rc_bv σ3 (m ||| 2 ^ e) := fun i hi => by
  rw [h3 105 (by simp), rc_up_s, rc_tb_or, h2]
  by_cases z : i = e
  · subst z; rw [pk_us]; simp; rfl
  · rw [pk_un z, hv i hi, decide_eq_false (fun q => z q.symm), Bool.or_false]
theorem t_bec_85 {s nn n : Nat} {w4 : Value} (hM : rc_Mod σ V) (hb0 : 0 < V 12 0) (hb6 : V 12 0 ≤ 6) (hWr : ∀ i, i < 6 → rc_WR V i) (hs : s < 27) (hn : n ≤ 3) {Q' : Option Value → rc_M → Prop}
    (k : ∀ σ', rc_fq σ σ' → rc_bv σ' (rc_bn V s (n + 1)) → rc_Tc (d + 5) 158 68 [.ref 80, .int (nI s), .int (nI nn), .int (nI (n + 1)), w4] [] σ' Q') :
    ∀ (c t : Nat) (σ1 : rc_M), t + c + 1 = V 12 0 ^ n → rc_fq σ σ1 → rc_mrw σ1 (V 12 0) n t → rc_bv σ1 (rc_bt V s n (rc_bn V s n) t) → rc_Tc (d + 5) 158 85 [.ref 80, .int (nI s), .int (nI nn), .int (nI n), w4] [] σ1 Q' := by
  intro c
  induction c with
  | zero =>
    intro t σ1 ht hf hr hv
    have hElt : rc_E V (rc_dg (V 12 0) n t) s n < 27 := rc_E_dlt hb6 (Or.inl hb0) hWr hs
    refine rc_go 60 (t_mb (t := t) (s := s) rfl rfl (hM.fq hf) (Or.inl hb0) hb6 hWr hs (by omega) hr (fun σ2 hf2 e2 e2' => ?_))
    refine And.intro (Or.inr rfl) (And.intro (rc_vi (n := 27) hElt (by decide)) ?_)
    rw [rc_ci (by omega)]
    have hf3 : rc_fq σ (rc_up σ2 105 (upd (σ2 105) (rc_E V (rc_dg (V 12 0) n t) s n) 1)) := (hf.tr hf2).tr (rc_fq.up (by omega))
    refine t_nx2 rfl (hM.fq hf3) hb0 hb6 (by omega) (show t < V 12 0 ^ n by omega) ((hr.fr e2).fr (rc_up_n _ _ (by decide))) (fun c _ _ _ => absurd c (by omega)) (fun c σ4 hf4 => ?_)
    refine And.intro (fun z => absurd rfl z) (fun _ => ?_)
    have key := k σ4 (hf3.tr hf4.q2) (by rw [rc_bn, ← ht]; exact hv.up (e2' 105 (by decide)) hf4)
    rw [← nI_1] at key
    exact key
  | succ c ih =>
    intro t σ1 ht hf hr hv
    have hElt : rc_E V (rc_dg (V 12 0) n t) s n < 27 := rc_E_dlt hb6 (Or.inl hb0) hWr hs
    refine rc_go 60 (t_mb (t := t) (s := s) rfl rfl (hM.fq hf) (Or.inl hb0) hb6 hWr hs (by omega) hr (fun σ2 hf2 e2 e2' => ?_))
    refine And.intro (Or.inr rfl) (And.intro (rc_vi (n := 27) hElt (by decide)) ?_)
    rw [rc_ci (by omega)]
    have hf3 : rc_fq σ (rc_up σ2 105 (upd (σ2 105) (rc_E V (rc_dg (V 12 0) n t) s n) 1)) := (hf.tr hf2).tr (rc_fq.up (by omega))
    refine t_nx2 rfl (hM.fq hf3) hb0 hb6 (by omega) (show t < V 12 0 ^ n by omega) ((hr.fr e2).fr (rc_up_n _ _ (by decide))) (fun c σ4 hf4 hr4 => ?_) (fun c _ _ => absurd (by omega) c)
    exact And.intro (fun _ => ih (t + 1) σ4 (by omega) (hf3.tr hf4.q2) hr4 (hv.up (e2' 105 (by decide)) hf4)) (fun z => absurd z (by decide))
theorem t_bec_68 {s nn : Nat} {w4 : Value} (hM : rc_Mod σ V) (hb6 : V 12 0 ≤ 6) (hWr : ∀ i, i < 6 → rc_WR V i) (hs : s < 27) (hnn : nn ≤ 3) {Q' : Option Value → rc_M → Prop} (h : ∀ σ', rc_fq σ σ' → Q' (some (.int (nI (rc_pc (rc_bn V s (nn + 1)) 27)))) σ') :
    ∀ (c n : Nat) (σ1 : rc_M), n + c = nn + 1 → 1 ≤ n → rc_fq σ σ1 → rc_bv σ1 (rc_bn V s n) → rc_Tc (d + 5) 158 68 [.ref 80, .int (nI s), .int (nI nn), .int (nI n), w4] [] σ1 Q' := by
  intro c
  induction c with
  | zero =>
    intro n σ1 hn h1 hf hv
    have : n = nn + 1 := by omega
    subst this
    refine rc_go 40 (And.intro (fun _ => ?_) (fun c => absurd (nI_lt (by omega) (by omega)) c))
    exact t_bec_116 hv (h σ1 hf) 27 0 rfl
  | succ c ih =>
    intro n σ1 hn h1 hf hv
    have hM1 := hM.fq hf
    refine rc_go 40 (And.intro (fun c1 => absurd c1 (nI_nlt (show n ≤ nn by omega) (by omega))) (fun _ => ?_))
    refine And.intro (fun c2 => ?_) (fun c2 => ?_)
    · have hz : V 12 0 = 0 := by
        rw [hM1.1] at c2
        rcases Nat.eq_zero_or_pos (V 12 0) with z | z
        · exact z
        · exact absurd c2 (nI_nle z (by omega))
      have e1 := rc_bn_0 (s := s) hz (n - 1)
      rw [show n - 1 + 1 = n by omega] at e1
      have h' := h σ1 hf
      rw [rc_bn_0 hz nn, ← e1] at h'
      exact t_bec_116 hv h' 27 0 rfl
    · have hb0 : 0 < V 12 0 := by
        rcases Nat.eq_zero_or_pos (V 12 0) with z | z
        · exact absurd (by rw [hM1.1, z]; decide) c2
        · exact z
      have hpos : 0 < V 12 0 ^ n := Nat.pow_pos hb0
      refine t_bg2 (b := V 12 0) rfl (by omega) (fun σ2 hf2 hr2 => ?_)
      exact t_bec_85 hM hb0 hb6 hWr hs (by omega) (fun σ' hf' hv' => ih (n + 1) σ' (by omega) (by omega) hf' hv') (V 12 0 ^ n - 1) 0 σ2 (by omega) (hf.tr hf2.q2) hr2 (fun i hi => by rw [hf2 105 (by simp)]; exact hv i hi)
theorem t_becomes {x z : Int32} (hI : rc_MP σ P) (hW : rc_WP n P) (h : ∀ σ', rc_fM σ σ' → rc_MP σ' (o_becomes P x z).2 → Q (o_becomes P x z).1 σ') : rc_TI (d + 5) 158 [.ref 80, .int x, .int z] σ Q := by
  refine rc_go 80 (t_isNoState (fun ho => ?_) (fun s hs hx => ?_))
  · refine And.intro (fun c => absurd c (by decide)) (fun _ => ?_)
    exact t_ref (w := 1) (by decide) (by decide) hI (by simp only [o_becomes, rc_ob_t ho, cond_true]) (fun σ' a b => ⟨_, rfl, h σ' a b⟩)
  · subst hx
    refine And.intro (fun _ => ?_) (fun c => absurd rfl c)
    have e1 := rc_ob_f hs (show 27 ≤ 2000 by omega)
    refine And.intro (fun c3 => ?_) (fun c3 => ?_)
    · have c3' : ¬ z < 0 := Int32.not_lt.mpr c3
      refine And.intro (fun c4 => ?_) (fun c4 => ?_)
      · have c4' : ¬ 3 < z := Int32.not_lt.mpr c4
        obtain ⟨k, hk, rfl⟩ := rc_le99 c3' (m := 3) (by decide) c4
        have ho : o_becomes P (nI s) (nI k) = (nI (rc_pc (rc_bn (pV P) s (k + 1)) 27), P) := by simp only [o_becomes, e1, cond_false, if_neg c3', if_neg c4', rc_ci (show s ≤ 2000 by omega), rc_ci (show k ≤ 2000 by omega)]
        rw [ho] at h
        have key := t_bec_38 (d := d + 5) (σ := σ) (s := s) (nn := k) (w4 := .null) (Q' := fun r σ' => ∃ x, r = some (.int x) ∧ Q x σ') hs (fun f hf => ?_) 27 0 (σ 105) (by omega) (fun i hi => absurd hi (by omega))
        · rw [rc_ui] at key
          exact key
        · refine t_bec_68 (V := pV P) (σ := σ) hI.1 hW.1.1 hW.1.2.2.2.2.1 hs hk (fun σ' hf' => ⟨_, rfl, h σ' hf'.fM (hI.fq hf')⟩) k 1 _ (by omega) (by omega) (rc_fq.up (by omega)) (fun i hi => ?_)
          rw [rc_up_s, rc_bn_1]
          exact hf i hi
      · have c4' : 3 < z := Int32.not_le.mp c4
        exact t_ref (w := 6) (by decide) (by decide) hI (by simp only [o_becomes, e1, cond_false, if_neg c3', if_pos c4']) (fun σ' a b => ⟨_, rfl, h σ' a b⟩)
    · have c3' : z < 0 := Int32.not_le.mp c3
      exact t_ref (w := 4) (by decide) (by decide) hI (by simp only [o_becomes, e1, cond_false, if_pos c3']) (fun σ' a b => ⟨_, rfl, h σ' a b⟩)
end RB
