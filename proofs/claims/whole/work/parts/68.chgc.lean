section RCh
variable {d n : Nat} {σ : rc_M} {P : rc_P} {V : rc_V} {Q : Int32 → rc_M → Prop}
/-! changes and needed, the class's side -/
theorem rc_mulN (a b : Nat) : nI a * nI b = nI (a * b) := (Int32.ofNat_mul a b).symm
theorem rc_k27 (k s : Nat) : nI k * 27 + nI s = nI (k * 27 + s) := by rw [show (27 : Int32) = nI 27 from rfl, rc_mulN, nI_add]
theorem c_isL_l {i k : Nat} {f g : Nat → Nat} (hi : i < 43) (hk : k < 43) (hf : ∀ s, s < 27 → σ 71 (i * 27 + s) = nI (f s) ∧ f s < 27) (hg : ∀ s, s < 27 → σ 71 (k * 27 + s) = nI (g s) ∧ g s < 27) {Q' : Option Value → rc_M → Prop} (h : Q' (some (.int (rc_bI (rc_alls (fun s => decide (f s = g s)) 27)))) σ) : ∀ (c s : Nat), s + c = 27 → rc_alls (fun s => decide (f s = g s)) s = true → rc_Tc d 4 2 [.ref 70, .int (nI i), .int (nI k), .int (nI s)] [] σ Q' := by
  intro c
  induction c with
  | zero =>
    intro s hs ha
    have : s = 27 := by omega
    subst this
    rw [ha] at h
    exact rc_go 40 (And.intro (fun _ => ⟨Or.inr rfl, h⟩) (fun c => absurd (by decide) c))
  | succ c ih =>
    intro s hs ha
    obtain ⟨a1, a2⟩ := hf s (by omega)
    obtain ⟨b1, b2⟩ := hg s (by omega)
    refine rc_go 60 (And.intro (fun c1 => absurd c1 (nI_ge (show s < 27 by omega) (by decide))) (fun _ => ?_))
    refine And.intro (by rw [rc_k27]; exact rc_vi (n := 1161) (by omega) (by decide)) (And.intro (by rw [rc_k27]; exact rc_vi (n := 1161) (by omega) (by decide)) ?_)
    rw [rc_k27, rc_k27, rc_ci (by omega), rc_ci (by omega), a1, b1]
    refine And.intro (fun c => ?_) (fun c => ?_)
    · have key := ih (s + 1) (by omega) (by rw [rc_alls, ha, decide_eq_true ((nI_eq (by omega) (by omega)).mp c)]; rfl)
      rw [← nI_1] at key
      exact key
    · rw [rc_alls_f (k := s) (by omega) (decide_eq_false (fun z => c (by rw [z])))] at h
      exact ⟨Or.inl rfl, h⟩
theorem c_isLike {x y : Int32} {i k : Nat} {f g : Nat → Nat} (hx : x = nI i) (hy : y = nI k) (hi : i < 43) (hk : k < 43) (hf : ∀ s, s < 27 → σ 71 (i * 27 + s) = nI (f s) ∧ f s < 27) (hg : ∀ s, s < 27 → σ 71 (k * 27 + s) = nI (g s) ∧ g s < 27) (h : Q (rc_bI (rc_alls (fun s => decide (f s = g s)) 27)) σ) : rc_TI d 4 [.ref 70, .int x, .int y] σ Q := by
  subst hx; subst hy
  exact rc_go 40 (c_isL_l hi hk hf hg ⟨_, rfl, h⟩ 27 0 rfl rfl)
abbrev rc_ks6 : List Nat := [62, 63, 64, 70, 71, 72]
def rc_Tm (σ : rc_M) (V : rc_V) (T : rc_Tb) : Prop := σ 70 3 = nI T.1 ∧ ∀ i, i < T.1 → (∀ s, s < 27 → σ 71 (i * 27 + s) = nI (rc_xm V (T.2.1 i) s)) ∧ σ 72 i = nI (T.2.2 i)
/-- rows whose numbers are rooms -/
def rc_xok (V : rc_V) (x : rc_X) : Prop := 0 < V 12 0 ∨ x.1 = 0
theorem rc_xm_lt {x : rc_X} {s : Nat} (hb6 : V 12 0 ≤ 6) (hW : ∀ i, i < 6 → rc_WR V i) (hx : rc_xok V x) (hs : s < 27) : rc_xm V x s < 27 := rc_E_dlt hb6 hx hW hs
theorem c_ad_48 {T : rc_Tb} {x : rc_X} {s0 : Nat} (hb6 : V 12 0 ≤ 6) (hWR : ∀ i, i < 6 → rc_WR V i) (hk : T.1 < 43) (hx : rc_xok V x) (hR : ∀ i, i < T.1 → rc_xok V (T.2.1 i)) (hT : rc_Tm σ V T) (hn : ∀ s, s < 27 → σ 71 (T.1 * 27 + s) = nI (rc_xm V x s)) (hWk : rc_Wk σ V x.1 s0 (rc_dg (V 12 0) x.1 x.2)) {Q' : Option Value → rc_M → Prop} (h : ∀ σ', rc_fr rc_ks6 σ σ' → rc_Tm σ' V (rc_ad V T x) → rc_Wk σ' V x.1 s0 (rc_dg (V 12 0) x.1 x.2) → Q' none σ') : ∀ (c i : Nat), i + c = T.1 → (∀ j, j < i → rc_xs V (T.2.1 j) x = false) → rc_Tc (d + 1) 3 48 [.ref 70, .int (nI i)] [] σ Q' := by
  obtain ⟨t1, t2⟩ := hT
  intro c
  induction c with
  | zero =>
    intro i hi hf
    have : i = T.1 := by omega
    subst this
    refine rc_go 60 (And.intro (fun _ => ?_) (fun c => absurd (by rw [t1]; exact nI_le (Nat.le_refl _) (by omega)) c))
    refine c_roomBits hWk ?_
    refine And.intro (by rw [t1]; exact rc_vi (n := 43) hk (by decide)) ?_
    rw [t1, rc_ci (by omega)]
    have e73 : rc_up σ 72 (upd (σ 72) T.1 (nI (rc_bits (rc_dg (V 12 0) x.1 x.2) x.1))) 70 = σ 70 := rc_up_n _ _ (by decide)
    have ea : rc_ad V T x = (T.1 + 1, fun j => if j = T.1 then x else T.2.1 j, va_up T.2.2 T.1 (rc_xb V x)) := by
      unfold rc_ad
      rw [rc_ff_no hf, if_neg (by omega)]
    rw [ea] at h
    have fr1 : rc_fr [70, 72] σ (rc_up (rc_up σ 72 (upd (σ 72) T.1 (nI (rc_bits (rc_dg (V 12 0) x.1 x.2) x.1)))) 70 (upd (rc_up σ 72 (upd (σ 72) T.1 (nI (rc_bits (rc_dg (V 12 0) x.1 x.2) x.1))) 70) 3 (rc_up σ 72 (upd (σ 72) T.1 (nI (rc_bits (rc_dg (V 12 0) x.1 x.2) x.1))) 70 3 + 1))) := (rc_fr.up (by simp)).tr (rc_fr.up (by simp))
    refine h _ (fr1.mono (by simp)) ⟨?_, fun i hi => ?_⟩ (hWk.fr fr1 (by simp))
    · rw [rc_up_s, pk_us, e73, t1, nI_1]
    · have hi : i < T.1 + 1 := hi
      refine ⟨fun s hs => ?_, ?_⟩
      · rw [rc_up_n _ _ (by decide), rc_up_n _ _ (by decide)]
        show _ = nI (rc_xm V (if i = T.1 then x else T.2.1 i) s)
        by_cases z : i = T.1
        · rw [if_pos z, z]; exact hn s hs
        · rw [if_neg z]; exact (t2 i (by omega)).1 s hs
      · rw [rc_up_n _ _ (by decide), rc_up_s]
        show _ = nI (va_up T.2.2 T.1 (rc_xb V x) i)
        by_cases z : i = T.1
        · subst z; rw [pk_us]; simp [va_up]; rfl
        · rw [pk_un z]; simp only [va_up, z, if_false]; exact (t2 i (by omega)).2
  | succ c ih =>
    intro i hi hf
    refine rc_go 60 (And.intro (fun c1 => absurd (by rw [t1] at c1; exact c1) (nI_ge (by omega) (by omega))) (fun _ => ?_))
    refine c_isLike (f := rc_xm V (T.2.1 i)) (g := rc_xm V x) rfl t1 (by omega) hk (fun s hs => ⟨(t2 i (by omega)).1 s hs, rc_xm_lt hb6 hWR (hR i (by omega)) hs⟩) (fun s hs => ⟨hn s hs, rc_xm_lt hb6 hWR hx hs⟩) (And.intro (fun c2 => ?_) (fun c2 => ?_))
    · have z : rc_xs V (T.2.1 i) x = false := rc_bI_0.mp c2
      have key := ih (i + 1) (by omega) (fun j hj => by
        by_cases e : j = i
        · subst e; exact z
        · exact hf j (by omega))
      rw [← nI_1] at key
      exact key
    · have z : rc_xs V (T.2.1 i) x = true := rc_bool_t c2
      have ea : rc_ad V T x = (T.1, T.2.1, va_up T.2.2 i (T.2.2 i &&& rc_xb V x)) := by
        unfold rc_ad
        rw [rc_ff_at (show i < T.1 by omega) z hf, if_pos (by omega)]
      rw [ea] at h
      refine And.intro (rc_vi (n := 43) (by omega) (by decide)) ?_
      refine c_roomBits hWk ?_
      refine And.intro (rc_vi (n := 43) (by omega) (by decide)) ?_
      rw [rc_ci (by omega), (t2 i (by omega)).2, fa_and]
      have fr1 : rc_fr [72] σ (rc_up σ 72 (upd (σ 72) i (nI (T.2.2 i &&& rc_bits (rc_dg (V 12 0) x.1 x.2) x.1)))) := rc_fr.up (by simp)
      refine h _ (fr1.mono (by simp)) ⟨?_, fun j hj => ⟨fun s hs => ?_, ?_⟩⟩ (hWk.fr fr1 (by simp))
      · rw [rc_up_n _ _ (by decide)]; exact t1
      · rw [rc_up_n _ _ (by decide)]; exact (t2 j hj).1 s hs
      · rw [rc_up_s]
        show _ = nI (va_up T.2.2 i (T.2.2 i &&& rc_xb V x) j)
        by_cases e : j = i
        · subst e; rw [pk_us]; simp [va_up]; rfl
        · rw [pk_un e]; simp only [va_up, e, if_false]; exact (t2 j hj).2
theorem c_ad_12 {T : rc_Tb} {x : rc_X} (hA : rc_CA σ V) (hk : T.1 < 43) (hx : rc_xok V x) (hR : ∀ i, i < T.1 → rc_xok V (T.2.1 i)) {Q' : Option Value → rc_M → Prop} (h : ∀ σ' s', rc_fr rc_ks6 σ σ' → rc_Tm σ' V (rc_ad V T x) → rc_Wk σ' V x.1 s' (rc_dg (V 12 0) x.1 x.2) → Q' none σ') : ∀ (c s s0 : Nat) (σ1 : rc_M), s + c = 27 → rc_fr rc_ks6 σ σ1 → rc_Tm σ1 V T → (∀ q, q < s → σ1 71 (T.1 * 27 + q) = nI (rc_xm V x q)) → rc_Wk σ1 V x.1 s0 (rc_dg (V 12 0) x.1 x.2) → rc_Tc (d + 5) 3 12 [.ref 70, .int (nI s)] [] σ1 Q' := by
  intro c
  induction c with
  | zero =>
    intro s s0 σ1 hs hf hT hn hW
    have : s = 27 := by omega
    subst this
    exact rc_go 40 (And.intro (fun _ => c_ad_48 (d := d + 4) hA.2.2.2.2 hA.2.2.1 hk hx hR hT hn hW (fun σ' hf' hT' hW' => h σ' s0 (hf.tr hf') hT' hW') T.1 0 (by omega) (fun j hj => absurd hj (by omega))) (fun c => absurd (by decide) c))
  | succ c ih =>
    intro s s0 σ1 hs hf hT hn hW
    refine rc_go 60 (And.intro (fun c1 => absurd c1 (nI_ge (show s < 27 by omega) (by decide))) (fun _ => ?_))
    refine c_endOf rfl (by omega) (hA.fr hf (by simp)) hW (fun σ2 hf2 hW2 => ?_)
    have e70 : σ1 70 3 = nI T.1 := hT.1
    have f70 : σ2 70 = σ1 70 := hf2 70 (by simp)
    have f71 : σ2 71 = σ1 71 := hf2 71 (by simp)
    have f72 : σ2 72 = σ1 72 := hf2 72 (by simp)
    refine And.intro (by rw [e70, rc_k27]; exact rc_vi (n := 1161) (by omega) (by decide)) ?_
    rw [e70, rc_k27, rc_ci (by omega)]
    have fr1 : rc_fr [71] σ2 (rc_up σ2 71 (upd (σ2 71) (T.1 * 27 + s) (nI (rc_E V (rc_dg (V 12 0) x.1 x.2) s x.1)))) := rc_fr.up (by simp)
    have key := ih (s + 1) s _ (by omega) ((hf.tr (hf2.mono (by simp))).tr (fr1.mono (by simp))) ⟨?_, fun i hi => ⟨fun q hq => ?_, ?_⟩⟩ (fun q hq => ?_) (hW2.fr fr1 (by simp))
    · rw [← nI_1] at key
      exact key
    · rw [rc_up_n _ _ (by decide), f70]; exact e70
    · rw [rc_up_s, pk_un (by omega), f71]; exact (hT.2 i hi).1 q hq
    · rw [rc_up_n _ _ (by decide), f72]; exact (hT.2 i hi).2
    · rw [rc_up_s]
      by_cases e : q = s
      · subst e; rw [pk_us]; rfl
      · rw [pk_un (by omega), f71]; exact hn q (by omega)
theorem c_addRow {T : rc_Tb} {x : rc_X} {s0 : Nat} (hA : rc_CA σ V) (hk : T.1 < 43) (hx : rc_xok V x) (hR : ∀ i, i < T.1 → rc_xok V (T.2.1 i)) (hT : rc_Tm σ V T) (hW : rc_Wk σ V x.1 s0 (rc_dg (V 12 0) x.1 x.2)) {Q : rc_M → Prop} (h : ∀ σ' s', rc_fr rc_ks6 σ σ' → rc_Tm σ' V (rc_ad V T x) → rc_Wk σ' V x.1 s' (rc_dg (V 12 0) x.1 x.2) → Q σ') : rc_TV (d + 5) 3 [.ref 70] σ Q := by
  refine rc_go 40 (And.intro (fun _ => ?_) (fun c => absurd (by rw [hT.1]; exact nI_lt hk (by decide)) c))
  exact c_ad_12 hA hk hx hR (fun σ' s' a b c => ⟨rfl, h σ' s' a b c⟩) 27 0 s0 σ rfl rc_fr.rf hT (fun q hq => absurd hq (by omega)) hW
/-! all rows of up to so many, in their order -/
def rc_rl (b : Nat) : Nat → List rc_X
  | 0 => []
  | n + 1 => rc_rl b n ++ (List.range (b ^ n)).map (fun t => (n, t))
def rc_ls (b n t : Nat) : List rc_X := rc_rl b n ++ (List.range t).map (fun t => (n, t))
theorem rc_ls_s {b n t : Nat} : rc_ls b n (t + 1) = rc_ls b n t ++ [(n, t)] := by
  unfold rc_ls
  rw [List.range_succ, List.map_append, List.append_assoc]
  rfl
theorem rc_ls_n {b n : Nat} : rc_ls b n (b ^ n) = rc_ls b (n + 1) 0 := by
  unfold rc_ls
  rw [rc_rl]
  simp
theorem rc_ls_len {b n t : Nat} (hb : b ≤ 6) (hn : n ≤ 2) (ht : t < b ^ n) : (rc_ls b n t).length < 43 := by
  have hn' : n = 0 ∨ n = 1 ∨ n = 2 := by omega
  have hb' : b = 0 ∨ b = 1 ∨ b = 2 ∨ b = 3 ∨ b = 4 ∨ b = 5 ∨ b = 6 := by omega
  unfold rc_ls
  rcases hn' with rfl | rfl | rfl <;> rcases hb' with rfl | rfl | rfl | rfl | rfl | rfl | rfl <;> simp [rc_rl] at ht ⊢ <;> omega
theorem rc_rl_ok {b : Nat} : ∀ n x, x ∈ rc_rl b n → x.1 < n ∧ (0 < b ∨ x.1 = 0) := by
  intro n
  induction n with
  | zero => intro x hx; exact absurd hx (by simp [rc_rl])
  | succ n ih =>
    intro x hx
    rw [rc_rl] at hx
    rcases List.mem_append.mp hx with z | z
    · have := ih x z; exact ⟨by omega, this.2⟩
    · obtain ⟨t, ht, rfl⟩ := List.mem_map.mp z
      refine ⟨by show n < n + 1; omega, ?_⟩
      have ht := List.mem_range.mp ht
      rcases Nat.eq_zero_or_pos b with y | y
      · rcases Nat.eq_zero_or_pos n with q | q
        · exact Or.inr q
        · rw [y, Nat.zero_pow q] at ht; omega
      · exact Or.inl y
theorem rc_ls_ok {b n t : Nat} (ht : t ≤ b ^ n) {x : rc_X} (hx : x ∈ rc_ls b n t) : 0 < b ∨ x.1 = 0 := by
  unfold rc_ls at hx
  rcases List.mem_append.mp hx with z | z
  · exact (rc_rl_ok n x z).2
  · refine (rc_rl_ok (n + 1) x ?_).2
    rw [rc_rl]
    obtain ⟨u, hu, rfl⟩ := List.mem_map.mp z
    exact List.mem_append_right _ (List.mem_map.mpr ⟨u, List.mem_range.mpr (by have := List.mem_range.mp hu; omega), rfl⟩)
end RCh
