/-! SOUNDNESS: what the abstract machine does, the machine does -/
/-- what is fixed while a method runs -/
def rc_Cx (dC : Nat → ClassId) (dI : Nat → Nat → Nat) (cy : Nat → ClassId) (A : Nat → Prop) (wA bA : Nat) (Zk : State → Heap → Prop) (μ : rc_M) (d mi na0 : Nat) (p : Program) (R : Room) (s : State) (m : MethodId) (args : Array Value) (meth : Method) (c : Code) : Prop :=
  p.tables.exec = Jvm.exec ∧ c.code = rc_code mi ∧ c.maxLocals = rc_mx mi ∧ s.vm.findClass (rc_own mi) = some m.cls ∧ (∀ w ∈ rc_wsG, w.before args s = true) ∧ rc_TB dC dI cy A wA Zk s s.heap ∧ ((rc_y mi).name = "<init>" → meth.name = "<init>") ∧ (∀ q, s.heap.size ≤ q → A q) ∧ (rc_mc mi ≤ R.cells ∧ rc_tot (na0 + rc_mc mi) - rc_tot na0 ≤ R.slots ∧ d + 12 ≤ R.frames ∧ 60 * d + 700 ≤ R.locals) ∧ μ 0 = rc_wt ∧ (mi = 189 → va_X bA (μ 1 320).toNatClampNeg (μ 1) s s.heap ∧ bA < s.heap.size ∧ ¬ A bA)
/-- the memory as it stands at a place of the method -/
def rc_At (dC : Nat → ClassId) (dI : Nat → Nat → Nat) (cy : Nat → ClassId) (A : Nat → Prop) (wA bA : Nat) (μ : rc_M) (ad0 : Nat → Nat) (mi na0 : Nat) (s : State) (ad : Nat → Nat) (S : rc_S) (H : Heap) (locs : List Loc) : Prop :=
  va_P (dC, dI) vwCl (rc_ws cy ad S) H ∧ va_D A (rc_ws cy ad S) ∧ va_S A s.heap H locs ∧ (∀ k j q, S.2.1 k j = some q → q < S.2.2) ∧ (na0 ≤ S.2.2 ∧ 2 ≤ S.2.2 ∧ 2 ≤ na0) ∧ S.2.2 ≤ na0 + rc_mc mi ∧ (∀ k, k < 2 → S.1 k = μ k) ∧ (∀ k, k < na0 → ad k = ad0 k) ∧ (rc_mc mi = 0 → ad = ad0) ∧ ad 0 = wA ∧ ad 1 = bA
def rc_Snd (l : Launch) (dC : Nat → ClassId) (dI : Nat → Nat → Nat) (cy : Nat → ClassId) (A : Nat → Prop) (wA bA : Nat) (Zk : State → Heap → Prop) (f : Nat) : Prop :=
  ∀ (d mi na0 pc : Nat) (ls st : List Value) (S S' : rc_S) (r : Option Value), rc_run f d mi na0 pc ls st S = some (r, S') →
  ∀ (p : Program) (e : Env) (R : Room) (s : State) (m : MethodId) (args : Array Value) (below : List Frame) (meth : Method) (c : Code) (Q : State → Prop) (μ : rc_M) (ad0 ad : Nat → Nat) (H : Heap) (locs : List Loc) (ls0 : Array Slot),
  rc_Cx dC dI cy A wA bA Zk μ d mi na0 p R s m args meth c → rc_At dC dI cy A wA bA μ ad0 mi na0 s ad S H locs → rc_L ad (rc_mx mi) ls ls0 →
  (∀ (ad' : Nat → Nat) (H1 : Heap) (locs1 : List Loc) (pc1 : Nat) (ls1 : Array Slot) (st1 : List Value) (i1 : Instr) (len1 o1 : Nat), decode (rc_code mi) pc1 = .ok (i1, len1) → rc_k7 mi o1 i1 len1 = true → rc_ans mi na0 o1 st1 S' = some (r, S') → rc_At dC dI cy A wA bA μ ad0 mi na0 s ad' S' H1 locs1 →
    W p l e R s m args below meth c H1 locs1 (S'.2.2 - na0) (rc_tot S'.2.2 - rc_tot na0) Q (F0 m pc1 ls1 (st1.map (rc_shv ad')))) →
  W p l e R s m args below meth c H locs (S.2.2 - na0) (rc_tot S.2.2 - rc_tot na0) Q (F0 m pc ls0 (st.map (rc_shv ad)))
/-- a method's start -/
def rc_Pc (dC : Nat → ClassId) (dI : Nat → Nat → Nat) (cy : Nat → ClassId) (A : Nat → Prop) (wA : Nat) (Zk : State → Heap → Prop) (ad : Nat → Nat) (argsL : List Value) (S : rc_S) : Array Value → State → Prop := fun v U => v = (argsL.map (rc_shv ad)).toArray ∧ rc_TB dC dI cy A wA Zk U U.heap ∧ va_P (dC, dI) vwCl (rc_ws cy ad S) U.heap ∧ va_D A (rc_ws cy ad S) ∧ ∀ q, U.heap.size ≤ q → A q
/-- a method's end -/
def rc_Qc (dC : Nat → ClassId) (dI : Nat → Nat → Nat) (cy : Nat → ClassId) (A : Nat → Prop) (a : Nat) (ad : Nat → Nat) (S : rc_S) (r : Option Value) (S' : rc_S) : Array Value → State → Outcome → State → Prop := fun _ st o t => ∃ ad' : Nat → Nat, o = .returned (r.map (rc_shv ad')) ∧ (∀ k, k < S.2.2 → ad' k = ad k) ∧ (rc_mc a = 0 → ad' = ad) ∧ va_P (dC, dI) vwCl (rc_ws cy ad' S') t.heap ∧ va_D A (rc_ws cy ad' S') ∧ (∀ k j q, S'.2.1 k j = some q → q < S'.2.2) ∧ S'.2.2 = S.2.2 + rc_mc a ∧ (∀ k, k < 2 → S'.1 k = S.1 k) ∧ va_F A st t
def rc_rm (d mc ms : Nat) : Room := { frames := d + 12, cells := mc, slots := ms, locals := 60 * d + 700 }
abbrev rc_wm (a : Nat) : List Cond := Cond.code (rc_y a) (rc_code a) (rc_mx a) (rc_ret a) :: rc_wsG
theorem rc_ans_S {mi na0 o : Nat} {st : List Value} {S S' : rc_S} {r : Option Value} (h : rc_ans mi na0 o st S = some (r, S')) : S = S' ∧ S.2.2 = na0 + rc_mc mi := by
  unfold rc_ans at h
  cases hc : Nat.beq S.2.2 (na0 + rc_mc mi) with
  | false => rw [hc] at h; cases h
  | true =>
    rw [hc] at h
    refine ⟨?_, Nat.eq_of_beq_eq_true hc⟩
    revert h
    match o with
    | 0 =>
      intro h
      match st, h with
      | [.int x], h => cases h; rfl
    | 1 =>
      intro h
      match st, h with
      | [.int x], h =>
        cases hz : (decide (x = 0) || decide (x = 1)) with
        | false => simp only [cond, hz] at h; cases h
        | true => simp only [cond, hz] at h; cases h; rfl
    | 2 =>
      intro h
      match st, h with
      | [], h => cases h; rfl
    | k + 3 => intro h; cases h
theorem rc_ans_0 {mi na0 : Nat} {st : List Value} {S S' : rc_S} {r : Option Value} (h : rc_ans mi na0 0 st S = some (r, S')) : ∃ x, st = [.int x] ∧ r = some (.int x) := by
  unfold rc_ans at h
  cases hc : Nat.beq S.2.2 (na0 + rc_mc mi) with
  | false => rw [hc] at h; cases h
  | true =>
    rw [hc] at h
    match st, h with
    | [.int x], h => cases h; exact ⟨x, rfl, rfl⟩
theorem rc_ans_1 {mi na0 : Nat} {st : List Value} {S S' : rc_S} {r : Option Value} (h : rc_ans mi na0 1 st S = some (r, S')) : ∃ x, st = [.int x] ∧ r = some (.int x) ∧ (x = 0 ∨ x = 1) := by
  unfold rc_ans at h
  cases hc : Nat.beq S.2.2 (na0 + rc_mc mi) with
  | false => rw [hc] at h; cases h
  | true =>
    rw [hc] at h
    match st, h with
    | [.int x], h =>
      cases hz : (decide (x = 0) || decide (x = 1)) with
      | false => simp only [cond, hz] at h; cases h
      | true => simp only [cond, hz] at h; cases h; exact ⟨x, rfl, rfl, rc_bool hz⟩
theorem rc_ans_2 {mi na0 : Nat} {st : List Value} {S S' : rc_S} {r : Option Value} (h : rc_ans mi na0 2 st S = some (r, S')) : st = [] ∧ r = none := by
  unfold rc_ans at h
  cases hc : Nat.beq S.2.2 (na0 + rc_mc mi) with
  | false => rw [hc] at h; cases h
  | true =>
    rw [hc] at h
    match st, h with
    | [], h => cases h; exact ⟨rfl, rfl⟩
theorem rc_okM_s {a : Nat} (h : rc_okM a = true) : Cond.code (rc_y a) (rc_code a) (rc_mx a) (rc_ret a) ∈ rc_wsG ∧ Cond.initialized (rc_y a).cls ∈ rc_wsG ∧ ((rc_y a).cls ≠ "java/lang/invoke/MethodHandle" ∧ (rc_y a).cls ≠ "java/lang/invoke/VarHandle" ∧ (parseMethodDescriptor (rc_y a).desc).map (fun d => d.parameters.length) = some (cond (rc_st a) (rc_nA a) (rc_nA a - 1))) ∧ plainName (rc_y a).cls = true ∧ (rc_nA a ≤ rc_mx a ∧ rc_mx a ≤ 30 ∧ (rc_st a = false → 1 ≤ rc_nA a)) ∧ rc_own a = (rc_y a).cls := by
  unfold rc_okM at h
  simp only [Bool.and_eq_true, decide_eq_true_eq] at h
  exact ⟨rc_has_in h.1, rc_has_in h.2.1, h.2.2.1, h.2.2.2.1, h.2.2.2.2.1, h.2.2.2.2.2⟩
set_option maxHeartbeats 4000000 in
theorem rc_met {l : Launch} {dC : Nat → ClassId} {dI : Nat → Nat → Nat} {cy : Nat → ClassId} {A : Nat → Prop} {wA bA : Nat} {Zk : State → Heap → Prop} {f : Nat} (IH : rc_Snd l dC dI cy A wA bA Zk f) {a d : Nat} {S S' : rc_S} {r : Option Value} {argsL : List Value} {ad : Nat → Nat} (hM : rc_okM a = true) (h189 : ¬ a = 189)
    (hrun : rc_run f d a S.2.2 0 (rc_pad (rc_mx a) argsL) [] S = some (r, S')) (hlen : argsL.length = rc_nA a) (hokc : rc_okc argsL = true) (hna : 2 ≤ S.2.2) (hbd : ∀ k j q, S.2.1 k j = some q → q < S.2.2) (hμ : S.1 0 = rc_wt) (ha0 : ad 0 = wA) (ha1 : ad 1 = bA) :
    Met l (rc_y a) (rc_wm a) (rc_rm d (rc_mc a) (rc_tot (S.2.2 + rc_mc a) - rc_tot S.2.2)) (rc_Pc dC dI cy A wA Zk ad argsL S) (rc_Qc dC dI cy A a ad S r S') (rc_mc a) (rc_tot (S.2.2 + rc_mc a) - rc_tot S.2.2) A := by
  obtain ⟨m1, m2, m3, m4, m5, m6⟩ := rc_okM_s hM
  refine Met.ofW (cc := rc_code a) (maxL := rc_mx a) (ret := rc_ret a) m4 rfl ?_
  intro p e s m args below meth c s₁ B hml hv
  obtain ⟨rfl, hTB, hP, hD, hAq⟩ := hv
  have hx := B.exec
  have hb := B.bytes
  have hr := B.returns
  have hts0 := atoms_spec (ws := rc_wm a) B.pre
  have hts : ∀ w ∈ rc_wsG, w.before (argsL.map (rc_shv ad)).toArray s = true := fun w hw => hts0 w (List.mem_cons_of_mem _ hw)
  have hown : s.vm.findClass (rc_own a) = some m.cls := by rw [m6]; exact findClass_of_methodNamed B.named
  have hlocks := B.notSynchronized
  have hnm : (rc_y a).name = "<init>" → meth.name = "<init>" := fun z => ((name_of_methodNamed B.named B.method).1).trans z
  rw [lg_entry_eq]
  have hL := rc_pad_L (ad := ad) (args := argsL) (mx := rc_mx a) (by omega) hokc
  have hC : rc_Cx dC dI cy A wA bA Zk S.1 d a S.2.2 p (headSpec (rc_wm a) (rc_rm d (rc_mc a) (rc_tot (S.2.2 + rc_mc a) - rc_tot S.2.2))).room s m (argsL.map (rc_shv ad)).toArray meth c :=
    ⟨hx, hb, hml, hown, hts, hTB, hnm, hAq, ⟨Nat.le_refl _, Nat.le_refl _, Nat.le_refl _, Nat.le_refl _⟩, hμ, fun z => absurd z h189⟩
  have hA0 : rc_At dC dI cy A wA bA S.1 ad a S.2.2 s ad S s.heap [] := ⟨hP, hD, va_S.rf, hbd, ⟨Nat.le_refl _, hna, hna⟩, Nat.le_add_right _ _, fun _ _ => rfl, fun _ _ => rfl, fun _ => rfl, ha0, ha1⟩
  have key := IH d a S.2.2 0 (rc_pad (rc_mx a) argsL) [] S S' r hrun p e _ s m (argsL.map (rc_shv ad)).toArray below meth c (MQ below (rc_Qc dC dI cy A a ad S r S') (argsL.map (rc_shv ad)).toArray s (rc_mc a) (rc_tot (S.2.2 + rc_mc a) - rc_tot S.2.2) A) S.1 ad ad s.heap [] _ hC hA0 hL ?_
  · rw [Nat.sub_self, Nat.sub_self] at key
    exact key
  · intro ad' H1 locs1 pc1 ls1 st1 i1 len1 o1 hdec hk7 hans hAt
    obtain ⟨g1, g2, g3, g4, g5, g6, g7, g8, g9, g10, g11⟩ := hAt
    have hS2 := (rc_ans_S hans).2
    have hc1 : S'.2.2 - S.2.2 = rc_mc a := by omega
    have hc2 : rc_tot S'.2.2 - rc_tot S.2.2 = rc_tot (S.2.2 + rc_mc a) - rc_tot S.2.2 := by rw [hS2]
    rw [hc1, hc2]
    have hq : ∀ t : State, t.heap = H1 → rc_Qc dC dI cy A a ad S r S' (argsL.map (rc_shv ad)).toArray s (.returned (r.map (rc_shv ad'))) t := fun t ht => ⟨ad', rfl, g8, g9, by rw [ht]; exact g1, g2, g4, hS2, g7, g3.F ht⟩
    revert hk7 hans
    match o1 with
    | 0 =>
      intro hk7 hans
      obtain ⟨x, rfl, rfl⟩ := rc_ans_0 hans
      simp only [rc_k7] at hk7
      split at hk7
      · simp only [Bool.and_eq_true, decide_eq_true_eq] at hk7
        obtain ⟨rfl, hrt⟩ := hk7
        rw [hrt] at hr
        exact W.iret hx hb hr (fun t ht _ => hq t ht) g3.2.2 hdec
      · cases hk7
    | 1 =>
      intro hk7 hans
      obtain ⟨x, rfl, rfl, hz⟩ := rc_ans_1 hans
      simp only [rc_k7] at hk7
      split at hk7
      · simp only [Bool.and_eq_true, decide_eq_true_eq] at hk7
        obtain ⟨rfl, hrt⟩ := hk7
        rw [hrt] at hr
        exact W.zret hx hb hr (rc_narZ hz).1 (fun t ht _ => hq t ht) g3.2.2 hdec
      · cases hk7
    | 2 =>
      intro hk7 hans
      obtain ⟨rfl, rfl⟩ := rc_ans_2 hans
      simp only [rc_k7] at hk7
      split at hk7
      · simp only [Bool.and_eq_true, decide_eq_true_eq] at hk7
        obtain ⟨rfl, hrt⟩ := hk7
        rw [hrt] at hr
        exact W.vret hx hb hr (fun t ht _ => hq t ht) g3.2.2 hdec
      · cases hk7
    | k + 3 => intro hk7 hans; cases hk7
/-- behind a call -/
theorem rc_aftC {p : Program} {l : Launch} {e : Env} {R : Room} {s : State} {m : MethodId} {args : Array Value} {below : List Frame} {meth : Method} {c : Code} {H : Heap} {locs : List Loc} {cells slots mc ms pc : Nat} {Q : State → Prop} {ls : Array Slot} {st0 rest : List Value} {Qa : State → Outcome → State → Prop} {A free : Nat → Prop}
    (hr : va_Run p l e R s m args below meth c H locs cells slots mc ms (F0 m pc ls st0) rest Qa free) (hS : va_S A s.heap H locs) (hf : ∀ q, free q → A q)
    (kk : ∀ (v : Option Value) (st₀ t : State) (H1 : Heap) (locs1 : List Loc), st₀.heap = H → t.heap = H1 → Qa st₀ (.returned v) t → (∀ x ∈ locs1, A x.base) → W p l e R s m args below meth c H1 locs1 (cells + mc) (slots + ms) Q (F0 m (pc + 3) ls (v.toList ++ rest))) : W p l e R s m args below meth c H locs cells slots Q (F0 m pc ls st0) := by
  intro T hT X
  obtain ⟨v, st₀, t, T', L, h0, X', hL, e1, e2, hq, st⟩ := hr T hT X
  obtain ⟨t2, a1, b1⟩ := kk v st₀ t T'.heap (locs ++ L) h0 e1.symm hq (fun x hx => by
    rcases List.mem_append.mp hx with h | h
    · exact hS.2.2 x h
    · exact hf _ (hL x h)) T' rfl X'
  exact ⟨t2, st t2 a1, b1⟩
