/-! THE CLAIM OUT OF ONE WALK OF THE LAW'S BODY. Your part is whole_start (and what it stands on); all else here is the same for every law, but numbers. -/
def R_law : String := "RoomsThatChangeLaw"
def lw_P (b : Addr) (xs : List Int32) (args : Array Value) (s : State) : Prop := args = #[.ref b] ∧ s.IntsAt b xs ∧ xs.length ≤ 320 ∧ (Jvm.Cond.and given_1 narrow_1).before args s = true
def lw_Q (_ : Array Value) (s : State) (o : Outcome) (t : State) : Prop := o = .returned (some (.int 1)) ∧ Framed s o t [] 600000 7302250
def lw_Z (below : List Frame) (a : Array Value) (s : State) : State → Prop := fun t => ∃ o, t.status = .running ∧ Ended t below o ∧ lw_Q a s o t
/-- the law's own end, with 1 on the stack, nothing written that was there before, its room as the claim has it -/
theorem lw_ret {p : Program} {l : Launch} {e : Env} {s : State} {m : MethodId} {below : List Frame} {meth : Method} {c : Code} {b : Nat} (hx : p.tables.exec = Jvm.exec) (hb : c.code = code) (hr : meth.sig.returnType = ret) (hlocks : meth.locks = false) {pc : Nat} {H : Heap} {ls : Array Slot} (hdg : decode code pc = .ok (.ireturn, 1)) : W p l e room_1 s m #[Value.ref b] below meth c H [] 600000 7302250 (lw_Z below #[Value.ref b] s) (F0 m pc ls [.int 1]) := by
  intro T hT X
  obtain ⟨fs, hret, hrun, hended, hW, hframe⟩ := X.leave (v := some (.int 1)) (hlocks := hlocks) (fun h => by rw [hr] at h; cases h)
  have hmeth' : T.vm.method? m = some meth := X.method'
  refine ⟨T.setFrames fs, ?_, .returned (some (.int 1)), hrun, hended, rfl, ⟨_, rfl⟩, hW, hframe⟩
  jvm_step X.here [X.here.top, hx, hb, hdg, hmeth', hr, ret, narrow_b1]
  (try refine ⟨rfl, ?_⟩); (try refine ⟨rfl, ?_⟩)
  first | (intro acts; rw [hret _ acts rfl rfl rfl]) | rw [hret _ _ rfl rfl rfl]
  exact Steps.refl _
/-- what holds at the law's entry: the machine, the code, the tables' words (any of lw_tbl by 'hts w (by decide +kernel)'), the script of L ints xs at the cell b, what the Statement gives of the start (any of its parts by flat_of_before) -/
def lw_At (p : Program) (s : State) (m : MethodId) (meth : Method) (c : Code) (b L : Nat) (xs : Nat → Int32) : Prop :=
  p.tables.exec = Jvm.exec ∧ c.code = code ∧ meth.sig.returnType = ret ∧ c.maxLocals = 4 ∧ s.vm.findClass R_law = some m.cls ∧ (∀ w ∈ lw_tbl, w.before #[Value.ref b] s = true) ∧ va_X b L xs s s.heap ∧ b < s.heap.size ∧ meth.locks = false ∧ (Jvm.Cond.and given_1 narrow_1).before #[Value.ref b] s = true
theorem rw_nest : ∀ w ∈ rc_nest, w ∈ lw_tbl ∧ w.onTables = true := by
  have e : (rc_nest.zip [103, 145, 234, 545, 587, 588, 641, 668, 711, 730]).all (fun q => decide (lw_tbl[q.2]? = some q.1) && q.1.onTables) = true := by decide +kernel
  have e2 : (rc_nest.zip [103, 145, 234, 545, 587, 588, 641, 668, 711, 730]).map Prod.fst = rc_nest := by decide +kernel
  intro w hw
  rw [← e2] at hw
  obtain ⟨q, hq, rfl⟩ := List.mem_map.mp hw
  have h := List.all_eq_true.mp e q hq
  simp only [Bool.and_eq_true, decide_eq_true_eq] at h
  exact ⟨List.mem_of_getElem? h.1, h.2⟩
theorem rw_at {i : Nat} {w : Cond} (h : decide (lw_tbl[i]? = some w) = true) : w ∈ lw_tbl := List.mem_of_getElem? (of_decide_eq_true h)
theorem rw_inst : ∀ (ci : Nat) (q : vw_C), vwCl[ci]? = some q → ∃ n, Cond.instantiable q.1 n ∈ lw_tbl := by
  intro ci q hq
  match ci, hq with
  | 0, hq => cases hq; exact ⟨4, rw_at (i := 310) (by decide +kernel)⟩
  | 1, hq => cases hq; exact ⟨6, rw_at (i := 144) (by decide +kernel)⟩
  | 2, hq => cases hq; exact ⟨9, rw_at (i := 93) (by decide +kernel)⟩
  | 3, hq => cases hq; exact ⟨4, rw_at (i := 233) (by decide +kernel)⟩
  | 4, hq => cases hq; exact ⟨4, rw_at (i := 330) (by decide +kernel)⟩
  | 5, hq => cases hq; exact ⟨3, rw_at (i := 294) (by decide +kernel)⟩
  | 6, hq => cases hq; exact ⟨6, rw_at (i := 102) (by decide +kernel)⟩
  | 7, hq => cases hq; exact ⟨4, rw_at (i := 272) (by decide +kernel)⟩
  | 8, hq => cases hq; exact ⟨4, rw_at (i := 253) (by decide +kernel)⟩
  | 9, hq => cases hq; exact ⟨14, rw_at (i := 85) (by decide +kernel)⟩
  | 10, hq => cases hq; exact ⟨45, rw_at (i := 932) (by decide +kernel)⟩
  | k + 11, hq => cases hq
/-- the classes and the arrays' classes -/
theorem rw_K {s : State} {args : Array Value} (hts0 : ∀ w ∈ lw_tbl, w.before args s = true) : ∃ (dC : Nat → ClassId) (dI : Nat → Nat → Nat) (cy : Nat → ClassId), va_K (dC, dI) vwCl (rc_tys cy) s := by
  have hts : ∀ w ∈ rc_wsG, w.before args s = true := fun w hw => hts0 w (List.mem_filter.mp hw).1
  have hKn : ∀ ci : Nat, ∃ z : ClassId × (Nat → Nat), ∀ q, vwCl[ci]? = some q → u_Kn s q.1 q.2.1 q.2.2 z.1 z.2 := by
    intro ci
    by_cases hq : ∃ q, vwCl[ci]? = some q
    · obtain ⟨q, hq⟩ := hq
      obtain ⟨n, hn⟩ := rw_inst ci q hq
      obtain ⟨cC, iS, h⟩ := u_known hts (rc_in_all ci q hq) (hts0 _ hn)
      exact ⟨(cC, iS), fun q2 h2 => by rw [hq] at h2; cases h2; exact h⟩
    · exact ⟨(default, fun _ => 0), fun q h => absurd ⟨q, h⟩ hq⟩
  obtain ⟨zf, hzf⟩ := Classical.axiomOfChoice hKn
  obtain ⟨c1, k1, p1, a1, a2, a3⟩ := Cond.arrayClass_spec (type := .int) (hts0 (.arrayClass .int) (rw_at (i := 143) (by decide +kernel)))
  obtain ⟨c2, k2, p2, a4, a5, a6⟩ := Cond.arrayClass_spec (type := .char) (hts0 (.arrayClass .char) (rw_at (i := 1073) (by decide +kernel)))
  obtain ⟨c3, k3, p3, a7, a8, a9⟩ := Cond.arrayClass_spec (type := .boolean) (hts0 (.arrayClass .boolean) (rw_at (i := 1074) (by decide +kernel)))
  obtain ⟨p4, c4, k4, b1, b2, b3, b4, b5⟩ := Cond.arrayOver_spec (n := RX6) (hts0 (.arrayOver (.object RX6)) (rw_at (i := 99) (by decide +kernel)))
  obtain ⟨p5, c5, k5, b6, b7, b8, b9, b10⟩ := Cond.arrayOver_spec (n := RX1) (hts0 (.arrayOver (.object RX1)) (rw_at (i := 101) (by decide +kernel)))
  refine ⟨fun ci => (zf ci).1, fun ci => (zf ci).2, fun k => match k with | 1 => c1 | 2 => c2 | 3 => c3 | 10 => c4 | _ => c5, fun ci q hq => hzf ci q hq, fun k q hq => ?_⟩
  match k, hq with
  | 0, hq => cases hq; exact ⟨fun n z => ⟨fun k h => (by cases h), k1, a2, p1, a3⟩, a1⟩
  | 1, hq => cases hq; exact ⟨fun n z => ⟨fun k h => (by cases h), k2, a5, p2, a6⟩, a4⟩
  | 2, hq => cases hq; exact ⟨fun n z => ⟨fun k h => (by cases h), k3, a8, p3, a9⟩, a7⟩
  | 3, hq => cases hq; exact ⟨fun n z => ⟨fun k h => (by cases h), k4, b3, p4, b4⟩, k4, p4, b3, b4, b1, b5⟩
  | 4, hq => cases hq; exact ⟨fun n z => ⟨fun k h => (by cases h), k5, b8, p5, b9⟩, k5, p5, b8, b9, b6, b10⟩
  | k + 5, hq => cases hq
/-- the text's start -/
theorem rw_Z {s : State} {args : Array Value} {A : Nat → Prop} (hts0 : ∀ w ∈ lw_tbl, w.before args s = true) (hgv : (Jvm.Cond.and given_1 narrow_1).before args s = true) (hA : ∀ a : Nat, a < s.heap.size → ¬ A a) : ∃ k v : Nat, rj_Z A k v s s.heap := by
  have hfl := flat_of_before _ hgv
  obtain ⟨adK, adV, hSS, hev⟩ := vk_Sof (N := 1) (tm := fun _ => Term.string RX3 129) (len := [7]) (byt := [rj_bt]) (A := A) (args := args) (s := s) (fun i hi => by
      have e : i = 0 := by omega
      subst e; decide) (fun _ _ => hfl (.exactly (.string RX3 129) "java/lang/String") (by decide +kernel)) (fun _ _ => hfl (.eq (.field (.string RX3 129) "java/lang/String" "coder" "B") (.int 0)) (by decide +kernel)) (fun _ _ => hfl (.arrayOf (.field (.string RX3 129) "java/lang/String" "value" "[B") .byte) (by decide +kernel)) (fun i hi => by
      have e : i = 0 := by omega
      subst e; exact hfl (.eq (.length (.field (.string RX3 129) "java/lang/String" "value" "[B")) (.int (Int32.ofNat 7))) (by decide +kernel)) (fun i hi j hj => by
      have e : i = 0 := by omega
      subst e
      have hj : j < 7 := hj
      have e : j = 0 ∨ j = 1 ∨ j = 2 ∨ j = 3 ∨ j = 4 ∨ j = 5 ∨ j = 6 := by omega
      rcases e with rfl | rfl | rfl | rfl | rfl | rfl | rfl
      · exact hfl (.eq (.elem (.field (.string RX3 129) "java/lang/String" "value" "[B") (.int (Int32.ofNat 0))) (.int 112)) (by decide +kernel)
      · exact hfl (.eq (.elem (.field (.string RX3 129) "java/lang/String" "value" "[B") (.int (Int32.ofNat 1))) (.int 104)) (by decide +kernel)
      · exact hfl (.eq (.elem (.field (.string RX3 129) "java/lang/String" "value" "[B") (.int (Int32.ofNat 2))) (.int 116)) (by decide +kernel)
      · exact hfl (.eq (.elem (.field (.string RX3 129) "java/lang/String" "value" "[B") (.int (Int32.ofNat 3))) (.int 100)) (by decide +kernel)
      · exact hfl (.eq (.elem (.field (.string RX3 129) "java/lang/String" "value" "[B") (.int (Int32.ofNat 4))) (.int 102)) (by decide +kernel)
      · exact hfl (.eq (.elem (.field (.string RX3 129) "java/lang/String" "value" "[B") (.int (Int32.ofNat 5))) (.int 115)) (by decide +kernel)
      · exact hfl (.eq (.elem (.field (.string RX3 129) "java/lang/String" "value" "[B") (.int (Int32.ofNat 6))) (.int 117)) (by decide +kernel)) (fun i j hi hj h => absurd (show i = j by omega) h) hA
  refine ⟨adK 0, adV 0, ⟨fun i hi => ?_, fun i j hi hj _ => by omega⟩, vk_R.of (hts0 (.stringRef RX3 129 "phtdfsu") (rw_at (i := 432) (by decide +kernel))) (hev 0 (by decide)), ?_, ?_⟩
  · have e : i = 0 := by omega
    subst e
    exact hSS.1 0 hi
  · exact va_Zof (hts0 (.laysStatic "java/lang/String" "COMPACT_STRINGS" "Z") (rw_at (i := 442) (by decide +kernel))) (hts0 (.initialized "java/lang/String") (rw_at (i := 76) (by decide +kernel))) (va_eqi (hfl (.eq (.static "java/lang/String" "COMPACT_STRINGS" "Z") (.int 1)) (by decide +kernel))) hA
  · exact va_Zqof (hts0 (.laysStatic "jdk/internal/util/Preconditions" "SIOOBE_FORMATTER" "Ljava/util/function/BiFunction;") (rw_at (i := 458) (by decide +kernel))) (hts0 (.initialized "jdk/internal/util/Preconditions") (rw_at (i := 78) (by decide +kernel))) (hfl (.isRef (.static "jdk/internal/util/Preconditions" "SIOOBE_FORMATTER" "Ljava/util/function/BiFunction;")) (by decide +kernel)) hA
/-- the table of weights -/
theorem rw_W {s : State} {args : Array Value} {A : Nat → Prop} (hts0 : ∀ w ∈ lw_tbl, w.before args s = true) (hgv : (Jvm.Cond.and given_1 narrow_1).before args s = true) (hA : ∀ a : Nat, a < s.heap.size → ¬ A a) : ∃ wA : Nat, va_Z RX9 "WEIGHTS" "[I" (.ref wA) A s s.heap ∧ va_T .int wA 3 (fun j => .int (rc_wt j)) A s s.heap := by
  have hfl := flat_of_before _ hgv
  obtain ⟨wA, w1, w2⟩ := va_Tof (args := args) (s := s) (tm := .static RX9 "WEIGHTS" "[I") (ty := .int) (N := 3) (f := fun j => .int (rc_wt j)) (A := A) (by decide) (hfl (.arrayOf (.static RX9 "WEIGHTS" "[I") .int) (by decide +kernel)) (va_eqt (hfl (.eq (.length (.static RX9 "WEIGHTS" "[I")) (.int (Int32.ofNat 3))) (by decide +kernel))) (fun j hj => by
      have e : j = 0 ∨ j = 1 ∨ j = 2 := by omega
      rcases e with rfl | rfl | rfl
      · exact va_eqt (hfl (.eq (.elem (.static RX9 "WEIGHTS" "[I") (.int (Int32.ofNat 0))) (.int 1)) (by decide +kernel))
      · exact va_eqt (hfl (.eq (.elem (.static RX9 "WEIGHTS" "[I") (.int (Int32.ofNat 1))) (.int 3)) (by decide +kernel))
      · exact va_eqt (hfl (.eq (.elem (.static RX9 "WEIGHTS" "[I") (.int (Int32.ofNat 2))) (.int 9)) (by decide +kernel))) hA
  exact ⟨wA, va_Zref (hts0 (.laysStatic RX9 "WEIGHTS" "[I") (rw_at (i := 549) (by decide +kernel))) (hts0 (.initialized RX9) (rw_at (i := 65) (by decide +kernel))) w1 hA, w2⟩
theorem rw_room : rc_mc 189 ≤ room_1.cells ∧ rc_tot (2 + rc_mc 189) - rc_tot 2 ≤ room_1.slots ∧ 12 + 12 ≤ room_1.frames ∧ 60 * 12 + 700 ≤ room_1.locals := by decide +kernel
theorem rw_slots : 111 - 2 ≤ 600000 ∧ rc_tot 111 - rc_tot 2 ≤ 7302250 := by decide +kernel
theorem rw_code : rc_code 189 = code := rfl
set_option maxHeartbeats 4000000 in
/-- from the entry, for every script of at most 320 ints, the law comes to its end with true -/
theorem whole_start {p : Program} {e : Env} {s : State} {m : MethodId} {below : List Frame} {meth : Method} {c : Code} (l : Launch) (hflags : l.flags = flags0) {b L : Nat} {xs : Nat → Int32} (hL : L ≤ 320) (C0 : lw_At p s m meth c b L xs) : W p l e room_1 s m #[Value.ref b] below meth c s.heap [] 0 0 (lw_Z below #[Value.ref b] s) (entryFrame m ([Value.ref b] : List Value).toArray 4) := by
  obtain ⟨hx, hb, hr, hml, hown, hts0, hX, hbl, hlocks, hgv⟩ := C0
  have hts : ∀ w ∈ rc_wsG, w.before #[Value.ref b] s = true := fun w hw => hts0 w (List.mem_filter.mp hw).1
  have hA : ∀ a : Nat, a < s.heap.size → ¬ (fun q => s.heap.size ≤ q) a := fun a h1 h2 => Nat.not_le_of_lt h1 h2
  obtain ⟨dC, dI, cy, hK⟩ := rw_K hts0
  obtain ⟨k, v, hZ⟩ := rw_Z hts0 hgv hA
  obtain ⟨wA, hw1, hw2⟩ := rw_W hts0 hgv hA
  generalize hAe : (fun q => s.heap.size ≤ q) = A at hA hZ hw1 hw2
  have hAq : ∀ q, s.heap.size ≤ q → A q := fun q h => by rw [← hAe]; exact h
  have hAl : ∀ q, A q → s.heap.size ≤ q := fun q h => by rw [← hAe] at h; exact h
  have hTB : rc_TB dC dI cy A wA (rj_Z A k v) s s.heap := ⟨hK, fun w hw => va_Nw.of (rw_nest w hw).2 (hts0 w (rw_nest w hw).1), ⟨va_AO.of (hts0 (.arrayOver (.object RX6)) (rw_at (i := 99) (by decide +kernel))), va_AO.of (hts0 (.arrayOver (.object RX1)) (rw_at (i := 101) (by decide +kernel)))⟩, hw1, hw2, hZ⟩
  have hok : rc_Ok l A (rj_Z A k v) := ⟨rc_ok_all, rc_in_all, rc_oi, rc_ac, rc_nfw, rj_zc, rc_mth, rj_kind l A k v⟩
  obtain ⟨sc, hsc1, hsc2⟩ : ∃ sc : Nat → Int32, (sc 320).toNatClampNeg = L ∧ ∀ j, j < L → sc j = xs j := by
    refine ⟨fun j => if j = 320 then nI L else xs j, ?_, fun j hj => ?_⟩
    · show (if (320 : Nat) = 320 then nI L else xs 320).toNatClampNeg = L
      rw [if_pos rfl]
      exact rc_ci (by omega)
    · show (if j = 320 then nI L else xs j) = xs j
      rw [if_neg (by omega)]
  obtain ⟨f, S', hrun, hS'⟩ := rc_law_run hL hsc1
  have hX2 : va_X b (sc 320).toNatClampNeg sc s s.heap := by
    rw [hsc1]
    obtain ⟨scr, x1, x2, x3, x4, x5⟩ := hX
    exact ⟨scr, x1, x2, x3, x4, fun j hj => by rw [x5 j hj, hsc2 j hj]⟩
  obtain ⟨ad, had0, had1⟩ : ∃ ad : Nat → Nat, ad 0 = wA ∧ ad 1 = b := ⟨fun j => if j = 0 then wA else b, rfl, rfl⟩
  have hC : rc_Cx dC dI cy A wA b (rj_Z A k v) (rc_ph rc_wt sc (fun _ _ => 0)) 12 189 2 p room_1 s m #[Value.ref b] meth c :=
    ⟨hx, hb, hml, hown, hts, hTB, fun z => absurd z (by decide +kernel), hAq, rw_room, rfl, fun _ => ⟨hX2, hbl, hA b hbl⟩⟩
  have hA0 : rc_At dC dI cy A wA b (rc_ph rc_wt sc (fun _ _ => 0)) ad 189 2 s ad (rc_ph rc_wt sc (fun _ _ => 0), fun _ _ => none, 2) s.heap [] :=
    ⟨fun k q h => (by cases h), ⟨fun i j p q h => (by cases h), fun k q h => (by cases h)⟩, va_S.rf, fun _ _ _ h => (by cases h), ⟨Nat.le_refl _, Nat.le_refl _, Nat.le_refl _⟩, Nat.le_add_right _ _, fun _ _ => rfl, fun _ _ => rfl, fun _ => rfl, had0, had1⟩
  have hLL := rc_pad_L (ad := ad) (args := [.ref 1]) (mx := 4) (by decide) rfl
  have e1 : ([.ref 1] : List Value).map (rc_shv ad) = [.ref b] := by
    show [Value.ref (ad 1)] = [.ref b]
    rw [had1]
  rw [e1] at hLL
  rw [lg_entry_eq]
  have key := rc_snd hok f 12 189 2 0 (rc_pad 4 [.ref 1]) [] (rc_ph rc_wt sc (fun _ _ => 0), fun _ _ => none, 2) S' (some (.int 1)) hrun p e room_1 s m #[Value.ref b] below meth c (lw_Z below #[Value.ref b] s) (rc_ph rc_wt sc (fun _ _ => 0)) ad ad s.heap [] _ hC hA0 hLL ?_
  · have z1 : (rc_ph rc_wt sc (fun _ _ => 0), (fun _ _ => none : rc_F), 2).2.2 - 2 = 0 := rfl
    rw [z1, Nat.sub_self] at key
    exact key
  · intro ad' H1 locs1 pc1 ls1 st1 i1 len1 o1 hdec hk7 hans hAt
    obtain ⟨g1, g2, g3, g4⟩ := hAt
    rw [hS']
    refine va_forget (fun q hq => hAl _ (g3.2.2 q hq)) ?_
    refine W.widen (k := 600000) (n := 7302250) rw_slots.1 rw_slots.2 ?_
    revert hk7 hans
    match o1 with
    | 0 =>
      intro hk7 hans
      obtain ⟨x, rfl, hx1⟩ := rc_ans_0 hans
      cases hx1
      simp only [rc_k7] at hk7
      split at hk7
      · simp only [Bool.and_eq_true, decide_eq_true_eq] at hk7
        obtain ⟨rfl, -⟩ := hk7
        exact lw_ret hx hb hr hlocks hdec
      · cases hk7
    | 1 =>
      intro hk7 hans
      obtain ⟨x, rfl, hx1, -⟩ := rc_ans_1 hans
      cases hx1
      simp only [rc_k7] at hk7
      split at hk7
      · simp only [Bool.and_eq_true, decide_eq_true_eq] at hk7
        obtain ⟨rfl, -⟩ := hk7
        exact lw_ret hx hb hr hlocks hdec
      · cases hk7
    | 2 =>
      intro hk7 hans
      obtain ⟨-, hx1⟩ := rc_ans_2 hans
      cases hx1
    | k + 3 => intro hk7 hans; cases hk7
set_option maxHeartbeats 4000000 in
theorem lw_walk (l : Launch) (hflags : l.flags = flags0) (b : Addr) (xs : List Int32) : MetFree l x (headSpec (Jvm.Cond.code x code maxLocals ret :: tables_1) room_1) (lw_P b xs) (fun _ _ _ _ _ => True) lw_Q := by
  refine MetFree.of_bodyS (code := code) (maxLocals := maxLocals) (ret := ret) (by decide) ?_ ?_
  · intro args s m h hn
    obtain ⟨meth, c, h1, h2, h3, h4, h5, h6, -, -⟩ := Cond.code_spec hn (atoms_spec (ws := Jvm.Cond.code x code maxLocals ret :: tables_1) h _ List.mem_cons_self)
    exact ⟨meth, c, h1, h2, h3, h4, h5, h6⟩
  · intro p e s m args below meth c s₁ B hml0 hP _
    obtain ⟨rfl, hx, hbd, hgv⟩ := hP
    obtain ⟨scr, harrAt, hlist, hof, hsmall⟩ := hx
    obtain ⟨hcb, hkn, -, -⟩ := State.arrayAt?_spec harrAt
    have hown : s.vm.findClass R_law = some m.cls := findClass_of_methodNamed B.named
    have hts0 : ∀ c ∈ (Jvm.Cond.code x code maxLocals ret :: tables_1), c.before #[Value.ref b] s = true := atoms_spec (ws := Jvm.Cond.code x code maxLocals ret :: tables_1) B.pre
    have hts : ∀ w ∈ lw_tbl, w.before #[Value.ref b] s = true := k2_hts_sels lw_privs (fun w hw => hts0 w (List.mem_cons_of_mem _ hw)) lw_privs_ok
    have hml : c.maxLocals = 4 := B.maxLocals_eq (hts0 _ List.mem_cons_self)
    have X₀ : Stand p l e room_1 s m #[Value.ref b] below meth c s₁ [] 0 0 := Stand.of_body B
    have hh0 : s₁.heap = s.heap := by rw [B.state]; rfl
    have hsz : scr.slots.size = xs.length := by rw [← Array.length_toList, hlist, List.length_map]
    have hval : ∀ j : Nat, j < xs.length → scr.slots[j]? = some (.int (xs.getD j 0)) := fun j hj => by
      rw [← Array.getElem?_toList, hlist]
      simp [hj]
    have hbl : b < s.heap.size := (Array.getElem?_eq_some_iff.mp hcb).1
    have hX : va_X b xs.length (fun j => xs.getD j 0) s s.heap := ⟨scr, hcb, hof, hkn, hsz, hval⟩
    have K : W p l e room_1 s m #[Value.ref b] below meth c s₁.heap [] 0 0 (lw_Z below #[Value.ref b] s) (entryFrame m ([Value.ref b] : List Value).toArray 4) := by
      rw [hh0]
      exact whole_start l hflags hbd ⟨B.exec, B.bytes, B.returns, hml, hown, hts, hX, hbl, B.notSynchronized, hgv⟩
    obtain ⟨t, a1, o, b1, b2, b3⟩ := K s₁ rfl X₀
    exact ⟨t, o, a1, b1, b2, b3⟩
theorem lw_pre_spec {args : Array Value} {s : State} (h : (Jvm.Cond.and given_1 narrow_1).before args s = true) (hr : rest_1_c.before args s = true) : ∃ (b : Addr) (xs : List Int32), lw_P b xs args s := by
  have hs := flat_of_before _ h
  have hq := flat_of_before _ hr
  have hc : (Cond.count 1).before args s = true := hs _ (by decide +kernel)
  have harr : (Cond.arrayOf (.arg 0) .int).before args s = true := hs _ (by decide +kernel)
  have hle : (Cond.le (.length (.arg 0)) (.int 320)).before args s = true := hs _ (by decide +kernel)
  have hlen : (Cond.isInt (.length (.arg 0))).before args s = true := hq _ (by decide +kernel)
  have hall : (Cond.all (.arg 0) (.isInt (.elem (.arg 0) (.index 0)))).before args s = true := hq _ (by decide +kernel)
  obtain ⟨b, xs, hb, hx⟩ := State.ints_of_pre rfl harr hlen hall
  have hsm : xs.length < 2 ^ 31 := hx.choose_spec.2.2.2
  have hev : (Term.length (.arg 0)).eval args s none [] s = some (.int xs.length.toInt32) := hx.length_eval hb
  have hv := Cond.le_ints hev (show (Term.int 320).eval args s none [] s = some (.int 320) from rfl)
  have hd : xs.length.toInt32 ≤ 320 := by
    simpa [Cond.before, Cond.holds, hv] using hle
  have hN : xs.length ≤ 320 := (Int32.ofNat_le_ofNat hsm (by decide)).mp (show Int32.ofNat xs.length ≤ Int32.ofNat 320 from hd)
  exact ⟨b, xs, Cond.one_arg hc (show args[0]? = some (.ref b) from hb), hx, hN, h⟩
theorem lw_comes (l : Launch) (hflags : l.flags = flags0) : Comes l x (Jvm.Cond.code x code maxLocals ret :: tables_1) room_1 (fun tb e args s => Calls_1 tb e args s ∧ rest_1 tb e args s ∧ Pre_1 tb e args s)
    (fun _ _ args s o t => lw_Q args s o t) := by
  intro p e ha hc hk s m args below hf hfit hheap happ hpre
  obtain ⟨b, xs, hP⟩ := lw_pre_spec hpre.2.2 hpre.2.1
  obtain ⟨k, o, h1, h2, h3, hQ⟩ := lw_walk l hflags b xs p e ha hc hk s m args below hf ((Spec.applies_iff_loose hf).mp happ).1 hP trivial
  exact ⟨k, o, h1, h2, h3, hQ⟩
theorem lw_frame {s t : State} {o : Outcome} {args : Array Value} (h : Framed s o t [] 600000 7302250) :
    Framed s o t (fieldLocs frame_1_writes args s ++ arrayLocs frame_1_arrays args s ++ staticLocs frame_1_statics s) 600000 7302250 := h
theorem lw_limb (L : Cond) (hL : ∀ (args : Array Value) (s t : State), L.after args s (.returned (some (.int 1))) t = true) :
    ArmFor flags0 classFile x code maxLocals ret World_1 tables_1 room_1 Calls_1 rest_1 Pre_1
      (fun tb e a s o t => postC L tb e a s o t ∧ Framed s o t (fieldLocs frame_1_writes a s ++ arrayLocs frame_1_arrays a s ++ staticLocs frame_1_statics s) 600000 7302250) := by
  intro l hflags _ _ p e ha hc hk s m args below hf hfit hheap happ hpre
  obtain ⟨k, o, h1, h2, h3, rfl, hF⟩ := lw_comes l hflags p e ha hc hk s m args below hf hfit hheap happ hpre
  exact ⟨k, _, h1, h2, h3, hL args s _, lw_frame hF⟩
theorem i_vc : Claimed_1_1 ∧ Claimed_1_2 := ⟨lw_limb limb_1_1 (fun args s t => by simp [limb_1_1, Cond.after, Cond.holds, Cond.value]), lw_limb limb_1_2 (fun args s t => Cond.after_iff.mpr (by
  first | (rw [show limb_1_2 = Cond.eq .result (.int 1) from rfl, Cond.eq_ints (x := 1) (y := 1) rfl rfl]; simp; done) | (simp [limb_1_2, Cond.value, Term.eval]; done)))⟩
