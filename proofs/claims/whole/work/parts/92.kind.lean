/-! THE TEXT "phtdfsu": what kindOf asks of it -/
def rj_yl : MethodName := ⟨"java/lang/String", "length", "()I"⟩
def rj_yc : MethodName := ⟨"java/lang/String", "coder", "()B"⟩
def rj_ya : MethodName := ⟨"java/lang/String", "charAt", "(I)C"⟩
def rj_yi : MethodName := ⟨"java/lang/String", "isLatin1", "()Z"⟩
def rj_yk : MethodName := ⟨"java/lang/String", "checkIndex", "(II)V"⟩
def rj_yb : MethodName := ⟨"java/lang/StringLatin1", "charAt", "([BI)C"⟩
def rj_yp : MethodName := ⟨"jdk/internal/util/Preconditions", "checkIndex", "(IILjava/util/function/BiFunction;)I"⟩
def rj_bt : List Int32 := [112, 104, 116, 100, 102, 115, 117]
def rj_Z (A : Nat → Prop) (k v : Nat) (U : State) (H : Heap) : Prop :=
  vk_S 1 [7] [rj_bt] (fun _ => k) (fun _ => v) A U H ∧ vk_R RX3 129 "phtdfsu" k U ∧ va_Z "java/lang/String" "COMPACT_STRINGS" "Z" (.int 1) A U H ∧ va_Zq "jdk/internal/util/Preconditions" "SIOOBE_FORMATTER" "Ljava/util/function/BiFunction;" A U H
theorem rj_warm {A : Nat → Prop} {k v : Nat} {s U : State} {H : Heap} (hW : s.WarmedH U.vm) (h : rj_Z A k v s H) : rj_Z A k v U H :=
  ⟨vk_S.moved hW.alike h.1, vk_R.warm hW h.2.1, va_Z.moved hW.alike h.2.2.1, va_Zq.moved hW.alike h.2.2.2⟩
theorem rj_same {A : Nat → Prop} {k v : Nat} {s U : State} {H : Heap} (hv : U.vm = s.vm) (h : rj_Z A k v s H) : rj_Z A k v U H := by
  have ha : s.vm.Alike U.vm := by rw [hv]; exact Vm.Alike.refl _
  exact ⟨vk_S.moved ha h.1, vk_R.same hv h.2.1, va_Z.moved ha h.2.2.1, va_Zq.moved ha h.2.2.2⟩
theorem rj_kept {A : Nat → Prop} {k v : Nat} {U : State} {H H1 : Heap} (hq : ∀ q : Nat, q < H.size → ¬ A q → H1[q]? = H[q]?) (h : rj_Z A k v U H) : rj_Z A k v U H1 :=
  ⟨h.1.kept hq, h.2.1, h.2.2.1.kept hq, h.2.2.2.kept hq⟩
theorem rj_zc {A : Nat → Prop} {k v : Nat} : rc_ZC A (rj_Z A k v) := ⟨fun _ _ _ hW h => rj_warm hW h, fun _ _ _ hq h => rj_kept hq h, fun _ _ _ hv h => rj_same hv h⟩
def rj_P (A : Nat → Prop) (k v : Nat) (as : List Value) : Array Value → State → Prop := fun a U => a = as.toArray ∧ rj_Z A k v U U.heap
def rj_Q (v : Option Value) : Array Value → State → Outcome → State → Prop := fun _ st o t => o = .returned v ∧ t.heap = st.heap
def rj_rm (f n : Nat) : Room := { frames := f, cells := 0, slots := 0, locals := n }
theorem rj_blind {A : Nat → Prop} {k v : Nat} {as : List Value} : FrameBlind (rj_P A k v as) := fun a U g mk q => ⟨q.1, rj_same (U := U.calling g mk a) rfl q.2⟩
theorem rj_call {p : Program} {l : Launch} {e : Env} {R : Room} {s : State} {m : MethodId} {args : Array Value} {below : List Frame} {meth : Method} {c : Code} {H : Heap} {pc : Nat} {Q : State → Prop} {ls : Array Slot} {st0 rest : List Value} {v : Option Value} {a : Array Value}
    (hr : va_Run p l e R s m args below meth c H [] 0 0 0 0 (F0 m pc ls st0) rest (rj_Q v a) (fun _ => False)) (kk : W p l e R s m args below meth c H [] 0 0 Q (F0 m (pc + 3) ls (v.toList ++ rest))) : W p l e R s m args below meth c H [] 0 0 Q (F0 m pc ls st0) := by
  intro T hT X
  obtain ⟨v', st₀, t, T', L, h0, X', hL, e1, e2, hq, st⟩ := hr T hT X
  obtain ⟨q1, q2⟩ := hq
  cases q1
  have hl : L = [] := by
    cases L with
    | nil => rfl
    | cons a b => exact (hL a List.mem_cons_self).elim
  subst hl
  obtain ⟨t2, a1, b1⟩ := kk T' (by rw [e1, q2, h0]) X'
  exact ⟨t2, st t2 a1, b1⟩
theorem rj_goodc {y : MethodName} {bytes : ByteArray} {mx : Nat} {ret : Option FieldType} (h : Cond.code y bytes mx ret ∈ rc_wsG) : GoodIn rc_wsG (Cond.code y bytes mx ret :: rc_wsG) := fun w hw => by
  rcases List.mem_cons.mp hw with q | q
  · subst q; exact rc_good _ h
  · exact rc_good w q
theorem rj_cS {p : Program} {l : Launch} {e : Env} {R : Room} {s : State} {m : MethodId} {args : Array Value} {below : List Frame} {meth : Method} {c : Code} {pc : Nat} {Q : State → Prop} {ls : Array Slot} {st0 rest : List Value} {v : Option Value} {A : Nat → Prop} {k vv : Nat} {own : String} {cc bytes : ByteArray} {nL mx n index : Nat} {y : MethodName} {ret : Option FieldType} {f nl : Nat} {As : List Value}
    (S : CallFix p m c cc nL s args rc_wsG own) (hM : Met l y (Cond.code y bytes mx ret :: rc_wsG) (rj_rm f nl) (rj_P A k vv As) (rj_Q v) 0 0 (fun _ => False)) (h1 : Cond.methodLink own index y ∈ rc_wsG) (h2 : Cond.static y ∈ rc_wsG) (h3 : Cond.initialized y.cls ∈ rc_wsG) (h4 : Cond.code y bytes mx ret ∈ rc_wsG)
    (hd : y.cls ≠ "java/lang/invoke/MethodHandle" ∧ y.cls ≠ "java/lang/invoke/VarHandle" ∧ (parseMethodDescriptor y.desc).map (fun d => d.parameters.length) = some n) (hR : f + 1 ≤ R.frames ∧ 8 + (mx + 11) + nl ≤ R.locals) (hZ : rj_Z A k vv s s.heap) (hn : As.length = n) (hsz : ls.size = nL) (hst : st0 = As.reverse ++ rest) (hW : (rest.map fun v => v.category).sum ≤ 8) (hdg : decode cc pc = .ok (.invokestatic index, 3))
    (kk : W p l e R s m args below meth c s.heap [] 0 0 Q (F0 m (pc + 3) ls (v.toList ++ rest))) : W p l e R s m args below meth c s.heap [] 0 0 Q (F0 m pc ls st0) :=
  rj_call (va_runS (As := As) (rest := rest) (g := F0 m pc ls st0) (cells := 0) (slots := 0) (mc := 0) (ms := 0) S hM ⟨callB_of n S.2.2.2.2 (rj_goodc h4) rfl rfl rfl (S.2.2.2.2 _ h3) (S.2.2.2.2 _ h1) hd hR, S.2.2.2.2 _ h2⟩ ⟨rj_blind, fun U hU hW => ⟨rfl, by rw [hU]; exact rj_warm hW hZ⟩⟩ rfl hn hsz hst (lv_room hW) hdg ⟨Nat.zero_le _, Nat.zero_le _⟩) kk
theorem rj_cV {p : Program} {l : Launch} {e : Env} {R : Room} {s : State} {m : MethodId} {args : Array Value} {below : List Frame} {meth : Method} {c : Code} {pc : Nat} {Q : State → Prop} {ls : Array Slot} {st0 rest : List Value} {v : Option Value} {A : Nat → Prop} {k vv : Nat} {own : String} {cc bytes : ByteArray} {nL mx n index : Nat} {y : MethodName} {ret : Option FieldType} {f nl : Nat} {As : List Value}
    (S : CallFix p m c cc nL s args rc_wsG own) (hM : Met l y (Cond.code y bytes mx ret :: rc_wsG) (rj_rm f nl) (rj_P A k vv (.ref k :: As)) (rj_Q v) 0 0 (fun _ => False)) (h1 : Cond.methodLink own index y ∈ rc_wsG) (h2 : Cond.instanceMethod y ∈ rc_wsG) (h5 : Cond.selects "java/lang/String" y y ∈ rc_wsG) (h3 : Cond.initialized y.cls ∈ rc_wsG) (h4 : Cond.code y bytes mx ret ∈ rc_wsG)
    (hd : y.cls ≠ "java/lang/invoke/MethodHandle" ∧ y.cls ≠ "java/lang/invoke/VarHandle" ∧ (parseMethodDescriptor y.desc).map (fun d => d.parameters.length) = some n) (hR : f + 1 ≤ R.frames ∧ 8 + (mx + 11) + nl ≤ R.locals) (hZ : rj_Z A k vv s s.heap) (hn : As.length = n) (hsz : ls.size = nL) (hst : st0 = As.reverse ++ .ref k :: rest) (hW : (rest.map fun v => v.category).sum ≤ 8) (hdg : decode cc pc = .ok (.invokevirtual index, 3))
    (kk : W p l e R s m args below meth c s.heap [] 0 0 Q (F0 m (pc + 3) ls (v.toList ++ rest))) : W p l e R s m args below meth c s.heap [] 0 0 Q (F0 m pc ls st0) :=
  rj_call (va_runV (As := As) (rest := rest) (g := F0 m pc ls st0) (cells := 0) (slots := 0) (mc := 0) (ms := 0) S hM ⟨callB_of n S.2.2.2.2 (rj_goodc h4) rfl rfl rfl (S.2.2.2.2 _ h3) (S.2.2.2.2 _ h1) hd hR, S.2.2.2.2 _ h2, S.2.2.2.2 _ h5⟩ ⟨rj_blind, vk_recv (i := 0) hZ.1 (by decide) (va_S.rf (A := A)), fun U hU hW => ⟨rfl, by rw [hU]; exact rj_warm hW hZ⟩⟩ rfl hn hsz hst (lv_room hW) hdg ⟨Nat.zero_le _, Nat.zero_le _⟩) kk
theorem rjd_l_0 : decode prog_15_method_54_code 0 = .ok (.aload_n 0, 1) := by decide +kernel
theorem rjd_l_1 : decode prog_15_method_54_code 1 = .ok (.getfield 9, 3) := by decide +kernel
theorem rjd_l_4 : decode prog_15_method_54_code 4 = .ok (.arraylength, 1) := by decide +kernel
theorem rjd_l_5 : decode prog_15_method_54_code 5 = .ok (.aload_n 0, 1) := by decide +kernel
theorem rjd_l_6 : decode prog_15_method_54_code 6 = .ok (.invokevirtual 335, 3) := by decide +kernel
theorem rjd_l_9 : decode prog_15_method_54_code 9 = .ok (.ishr, 1) := by decide +kernel
theorem rjd_l_10 : decode prog_15_method_54_code 10 = .ok (.ireturn, 1) := by decide +kernel
theorem rjd_c_0 : decode prog_15_method_152_code 0 = .ok (.getstatic 38, 3) := by decide +kernel
theorem rjd_c_3 : decode prog_15_method_152_code 3 = .ok (.ifCond .eq 10, 3) := by decide +kernel
theorem rjd_c_6 : decode prog_15_method_152_code 6 = .ok (.aload_n 0, 1) := by decide +kernel
theorem rjd_c_7 : decode prog_15_method_152_code 7 = .ok (.getfield 15, 3) := by decide +kernel
theorem rjd_c_10 : decode prog_15_method_152_code 10 = .ok (.goto 4, 3) := by decide +kernel
theorem rjd_c_13 : decode prog_15_method_152_code 13 = .ok (.iconst 1, 1) := by decide +kernel
theorem rjd_c_14 : decode prog_15_method_152_code 14 = .ok (.ireturn, 1) := by decide +kernel
theorem rjd_a_0 : decode prog_15_method_56_code 0 = .ok (.aload_n 0, 1) := by decide +kernel
theorem rjd_a_1 : decode prog_15_method_56_code 1 = .ok (.invokevirtual 492, 3) := by decide +kernel
theorem rjd_a_4 : decode prog_15_method_56_code 4 = .ok (.ifCond .eq 12, 3) := by decide +kernel
theorem rjd_a_7 : decode prog_15_method_56_code 7 = .ok (.aload_n 0, 1) := by decide +kernel
theorem rjd_a_8 : decode prog_15_method_56_code 8 = .ok (.getfield 9, 3) := by decide +kernel
theorem rjd_a_11 : decode prog_15_method_56_code 11 = .ok (.iload_n 1, 1) := by decide +kernel
theorem rjd_a_12 : decode prog_15_method_56_code 12 = .ok (.invokestatic 495, 3) := by decide +kernel
theorem rjd_a_15 : decode prog_15_method_56_code 15 = .ok (.ireturn, 1) := by decide +kernel
theorem rjd_a_16 : decode prog_15_method_56_code 16 = .ok (.aload_n 0, 1) := by decide +kernel
theorem rjd_a_17 : decode prog_15_method_56_code 17 = .ok (.getfield 9, 3) := by decide +kernel
theorem rjd_a_20 : decode prog_15_method_56_code 20 = .ok (.iload_n 1, 1) := by decide +kernel
theorem rjd_a_21 : decode prog_15_method_56_code 21 = .ok (.invokestatic 498, 3) := by decide +kernel
theorem rjd_a_24 : decode prog_15_method_56_code 24 = .ok (.ireturn, 1) := by decide +kernel
theorem rjd_i_0 : decode prog_15_method_154_code 0 = .ok (.getstatic 38, 3) := by decide +kernel
theorem rjd_i_3 : decode prog_15_method_154_code 3 = .ok (.ifCond .eq 14, 3) := by decide +kernel
theorem rjd_i_6 : decode prog_15_method_154_code 6 = .ok (.aload_n 0, 1) := by decide +kernel
theorem rjd_i_7 : decode prog_15_method_154_code 7 = .ok (.getfield 15, 3) := by decide +kernel
theorem rjd_i_10 : decode prog_15_method_154_code 10 = .ok (.ifCond .ne 7, 3) := by decide +kernel
theorem rjd_i_13 : decode prog_15_method_154_code 13 = .ok (.iconst 1, 1) := by decide +kernel
theorem rjd_i_14 : decode prog_15_method_154_code 14 = .ok (.goto 4, 3) := by decide +kernel
theorem rjd_i_17 : decode prog_15_method_154_code 17 = .ok (.iconst 0, 1) := by decide +kernel
theorem rjd_i_18 : decode prog_15_method_154_code 18 = .ok (.ireturn, 1) := by decide +kernel
theorem rjd_k_0 : decode prog_15_method_155_code 0 = .ok (.iload_n 0, 1) := by decide +kernel
theorem rjd_k_1 : decode prog_15_method_155_code 1 = .ok (.iload_n 1, 1) := by decide +kernel
theorem rjd_k_2 : decode prog_15_method_155_code 2 = .ok (.getstatic 1053, 3) := by decide +kernel
theorem rjd_k_5 : decode prog_15_method_155_code 5 = .ok (.invokestatic 1059, 3) := by decide +kernel
theorem rjd_k_8 : decode prog_15_method_155_code 8 = .ok (.pop, 1) := by decide +kernel
theorem rjd_k_9 : decode prog_15_method_155_code 9 = .ok (.return_, 1) := by decide +kernel
theorem rjd_b_0 : decode prog_16_method_2_code 0 = .ok (.iload_n 1, 1) := by decide +kernel
theorem rjd_b_1 : decode prog_16_method_2_code 1 = .ok (.aload_n 0, 1) := by decide +kernel
theorem rjd_b_2 : decode prog_16_method_2_code 2 = .ok (.arraylength, 1) := by decide +kernel
theorem rjd_b_3 : decode prog_16_method_2_code 3 = .ok (.invokestatic 9, 3) := by decide +kernel
theorem rjd_b_6 : decode prog_16_method_2_code 6 = .ok (.aload_n 0, 1) := by decide +kernel
theorem rjd_b_7 : decode prog_16_method_2_code 7 = .ok (.iload_n 1, 1) := by decide +kernel
theorem rjd_b_8 : decode prog_16_method_2_code 8 = .ok (.baload, 1) := by decide +kernel
theorem rjd_b_9 : decode prog_16_method_2_code 9 = .ok (.sipush 255, 3) := by decide +kernel
theorem rjd_b_12 : decode prog_16_method_2_code 12 = .ok (.iand, 1) := by decide +kernel
theorem rjd_b_13 : decode prog_16_method_2_code 13 = .ok (.i2c, 1) := by decide +kernel
theorem rjd_b_14 : decode prog_16_method_2_code 14 = .ok (.ireturn, 1) := by decide +kernel
theorem rjd_p_0 : decode prog_20_method_11_code 0 = .ok (.iload_n 0, 1) := by decide +kernel
theorem rjd_p_1 : decode prog_20_method_11_code 1 = .ok (.ifCond .lt 8, 3) := by decide +kernel
theorem rjd_p_4 : decode prog_20_method_11_code 4 = .ok (.iload_n 0, 1) := by decide +kernel
theorem rjd_p_5 : decode prog_20_method_11_code 5 = .ok (.iload_n 1, 1) := by decide +kernel
theorem rjd_p_6 : decode prog_20_method_11_code 6 = .ok (.if_icmp .lt 10, 3) := by decide +kernel
theorem rjd_p_9 : decode prog_20_method_11_code 9 = .ok (.aload_n 2, 1) := by decide +kernel
theorem rjd_p_10 : decode prog_20_method_11_code 10 = .ok (.iload_n 0, 1) := by decide +kernel
theorem rjd_p_11 : decode prog_20_method_11_code 11 = .ok (.iload_n 1, 1) := by decide +kernel
theorem rjd_p_12 : decode prog_20_method_11_code 12 = .ok (.invokestatic 95, 3) := by decide +kernel
theorem rjd_p_15 : decode prog_20_method_11_code 15 = .ok (.athrow, 1) := by decide +kernel
theorem rjd_p_16 : decode prog_20_method_11_code 16 = .ok (.iload_n 0, 1) := by decide +kernel
theorem rjd_p_17 : decode prog_20_method_11_code 17 = .ok (.ireturn, 1) := by decide +kernel
theorem rjd_o_0 : decode prog_5_method_19_code 0 = .ok (.iconst 0, 1) := by decide +kernel
theorem rjd_o_1 : decode prog_5_method_19_code 1 = .ok (.istore_n 1, 1) := by decide +kernel
theorem rjd_o_2 : decode prog_5_method_19_code 2 = .ok (.iload_n 1, 1) := by decide +kernel
theorem rjd_o_3 : decode prog_5_method_19_code 3 = .ok (.ldc 129, 2) := by decide +kernel
theorem rjd_o_5 : decode prog_5_method_19_code 5 = .ok (.invokevirtual 131, 3) := by decide +kernel
theorem rjd_o_8 : decode prog_5_method_19_code 8 = .ok (.if_icmp .ge 21, 3) := by decide +kernel
theorem rjd_o_11 : decode prog_5_method_19_code 11 = .ok (.ldc 129, 2) := by decide +kernel
theorem rjd_o_13 : decode prog_5_method_19_code 13 = .ok (.iload_n 1, 1) := by decide +kernel
theorem rjd_o_14 : decode prog_5_method_19_code 14 = .ok (.invokevirtual 135, 3) := by decide +kernel
theorem rjd_o_17 : decode prog_5_method_19_code 17 = .ok (.iload_n 0, 1) := by decide +kernel
theorem rjd_o_18 : decode prog_5_method_19_code 18 = .ok (.if_icmp .ne 5, 3) := by decide +kernel
theorem rjd_o_21 : decode prog_5_method_19_code 21 = .ok (.iload_n 1, 1) := by decide +kernel
theorem rjd_o_22 : decode prog_5_method_19_code 22 = .ok (.ireturn, 1) := by decide +kernel
theorem rjd_o_23 : decode prog_5_method_19_code 23 = .ok (.iinc 1 1, 3) := by decide +kernel
theorem rjd_o_26 : decode prog_5_method_19_code 26 = .ok (.goto (-24), 3) := by decide +kernel
theorem rjd_o_29 : decode prog_5_method_19_code 29 = .ok (.bipush (-9), 2) := by decide +kernel
theorem rjd_o_31 : decode prog_5_method_19_code 31 = .ok (.ireturn, 1) := by decide +kernel
set_option maxHeartbeats 4000000 in
theorem rj_coder (l : Launch) (A : Nat → Prop) (k vv : Nat) : Met l rj_yc (Cond.code rj_yc prog_15_method_152_code 1 (some .byte) :: rc_wsG) (rj_rm 0 0) (rj_P A k vv [.ref k]) (rj_Q (some (.int 0))) 0 0 (fun _ => False) := by
  refine Met.ofW (cc := prog_15_method_152_code) (maxL := 1) (ret := (some .byte)) (by decide) rfl ?_
  intro p e s m args below meth c s₁ B hml hv
  obtain ⟨rfl, hZ⟩ := hv
  have hx := B.exec
  have hb := B.bytes
  have hr := B.returns
  have hts0 := atoms_spec (ws := Cond.code rj_yc prog_15_method_152_code 1 (some .byte) :: rc_wsG) B.pre
  have hts : ∀ w ∈ rc_wsG, w.before ([.ref k] : List Value).toArray s = true := fun w hw => hts0 w (List.mem_cons_of_mem _ hw)
  have hown : s.vm.findClass "java/lang/String" = some m.cls := findClass_of_methodNamed B.named
  have hlocks := B.notSynchronized
  have hS : va_S A s.heap s.heap [] := va_S.rf
  have hl := lv_entry ([.ref k]) (n := 1) (Nat.le_of_ble_eq_true rfl)
  rw [lg_entry_eq]
  generalize (lg_sl ([.ref k]) ++ List.replicate (1 - (lg_sl ([.ref k])).length) Slot.unset).toArray = ls at hl ⊢
  have hl : lv_has ls 1 [(0, .ref k)] := hl
  refine va_gets hx hb hZ.2.2.1 hS hown (hts (.fieldLink "java/lang/String" 38 "java/lang/String" "COMPACT_STRINGS" "Z") (rc_has_in (i := 441) (by decide +kernel))) (fun _ h => h) rjd_c_0 ?_
  refine lv_if_eq hx hb rjd_c_3 (tgt := 13) rfl (fun h => absurd h (by decide)) (fun _ => ?_)
  refine lv_aload_n hx hb rjd_c_6 rfl (lv_at hl 0 rfl) ?_
  refine vk_getf hx hb (hZ.1.1 0 (by decide)).2.1 hS hown (hts (.fieldLink "java/lang/String" 15 "java/lang/String" "coder" "B") (rc_has_in (i := 1331) (by decide +kernel))) (fun _ h => h) rjd_c_7 ?_
  refine lv_goto hx hb rjd_c_10 (tgt := 14) rfl ?_
  exact W.zret hx hb hr (by decide) (fun t ht _ => ⟨rfl, ht⟩) (fun _ h => by cases h) rjd_c_14
theorem rj_hc : Cond.code rj_yc prog_15_method_152_code 1 (some .byte) ∈ rc_wsG := rc_has_in (i := 440) (by decide +kernel)
theorem rj_is : Cond.initialized "java/lang/String" ∈ rc_wsG := rc_has_in (i := 76) (by decide +kernel)
set_option maxHeartbeats 4000000 in
theorem rj_len (l : Launch) (A : Nat → Prop) (k vv : Nat) : Met l rj_yl (Cond.code rj_yl prog_15_method_54_code 1 (some .int) :: rc_wsG) (rj_rm 1 20) (rj_P A k vv [.ref k]) (rj_Q (some (.int 7))) 0 0 (fun _ => False) := by
  refine Met.ofW (cc := prog_15_method_54_code) (maxL := 1) (ret := (some .int)) (by decide) rfl ?_
  intro p e s m args below meth c s₁ B hml hv
  obtain ⟨rfl, hZ⟩ := hv
  have hx := B.exec
  have hb := B.bytes
  have hr := B.returns
  have hts0 := atoms_spec (ws := Cond.code rj_yl prog_15_method_54_code 1 (some .int) :: rc_wsG) B.pre
  have hts : ∀ w ∈ rc_wsG, w.before ([.ref k] : List Value).toArray s = true := fun w hw => hts0 w (List.mem_cons_of_mem _ hw)
  have hown : s.vm.findClass "java/lang/String" = some m.cls := findClass_of_methodNamed B.named
  have hlocks := B.notSynchronized
  have hS : va_S A s.heap s.heap [] := va_S.rf
  have hl := lv_entry ([.ref k]) (n := 1) (Nat.le_of_ble_eq_true rfl)
  rw [lg_entry_eq]
  generalize (lg_sl ([.ref k]) ++ List.replicate (1 - (lg_sl ([.ref k])).length) Slot.unset).toArray = ls at hl ⊢
  have hl : lv_has ls 1 [(0, .ref k)] := hl
  refine lv_aload_n hx hb rjd_l_0 rfl (lv_at hl 0 rfl) ?_
  refine vk_getf hx hb (hZ.1.1 0 (by decide)).2.2.1 hS hown (hts (.fieldLink "java/lang/String" 9 "java/lang/String" "value" "[B") (rc_has_in (i := 1330) (by decide +kernel))) (fun _ h => h) rjd_l_1 ?_
  refine va_tlen hx hb (hZ.1.1 0 (by decide)).2.2.2 hS (v := 7) rfl rjd_l_4 ?_
  refine lv_aload_n hx hb rjd_l_5 rfl (lv_at hl 0 rfl) ?_
  refine rj_cV (As := []) (rest := [.int 7]) (own := "java/lang/String") (index := 335) ⟨hx, hb, hml, hown, hts⟩ (rj_coder l A k vv) (rc_has_in (i := 437) (by decide +kernel)) (rc_has_in (i := 438) (by decide +kernel)) (rc_has_in (i := 439) (by decide +kernel)) rj_is rj_hc (n := 0) (by decide +kernel) ⟨Nat.le_of_ble_eq_true rfl, Nat.le_of_ble_eq_true rfl⟩ hZ rfl hl.1 rfl (Nat.le_of_ble_eq_true rfl) rjd_l_6 ?_
  refine lv_ishr (x := 7) (y := 0) hx hb rjd_l_9 ?_
  refine W.eq (g2 := F0 m 10 ls [.int 7]) rfl ?_
  exact W.iret hx hb hr (fun t ht _ => ⟨rfl, ht⟩) (fun _ h => by cases h) rjd_l_10
theorem rj_hl : Cond.code rj_yl prog_15_method_54_code 1 (some .int) ∈ rc_wsG := rc_has_in (i := 436) (by decide +kernel)
set_option maxHeartbeats 4000000 in
theorem rj_lat (l : Launch) (A : Nat → Prop) (k vv : Nat) : Met l rj_yi (Cond.code rj_yi prog_15_method_154_code 1 (some .boolean) :: rc_wsG) (rj_rm 0 0) (rj_P A k vv [.ref k]) (rj_Q (some (.int 1))) 0 0 (fun _ => False) := by
  refine Met.ofW (cc := prog_15_method_154_code) (maxL := 1) (ret := (some .boolean)) (by decide) rfl ?_
  intro p e s m args below meth c s₁ B hml hv
  obtain ⟨rfl, hZ⟩ := hv
  have hx := B.exec
  have hb := B.bytes
  have hr := B.returns
  have hts0 := atoms_spec (ws := Cond.code rj_yi prog_15_method_154_code 1 (some .boolean) :: rc_wsG) B.pre
  have hts : ∀ w ∈ rc_wsG, w.before ([.ref k] : List Value).toArray s = true := fun w hw => hts0 w (List.mem_cons_of_mem _ hw)
  have hown : s.vm.findClass "java/lang/String" = some m.cls := findClass_of_methodNamed B.named
  have hlocks := B.notSynchronized
  have hS : va_S A s.heap s.heap [] := va_S.rf
  have hl := lv_entry ([.ref k]) (n := 1) (Nat.le_of_ble_eq_true rfl)
  rw [lg_entry_eq]
  generalize (lg_sl ([.ref k]) ++ List.replicate (1 - (lg_sl ([.ref k])).length) Slot.unset).toArray = ls at hl ⊢
  have hl : lv_has ls 1 [(0, .ref k)] := hl
  refine va_gets hx hb hZ.2.2.1 hS hown (hts (.fieldLink "java/lang/String" 38 "java/lang/String" "COMPACT_STRINGS" "Z") (rc_has_in (i := 441) (by decide +kernel))) (fun _ h => h) rjd_i_0 ?_
  refine lv_if_eq hx hb rjd_i_3 (tgt := 17) rfl (fun h => absurd h (by decide)) (fun _ => ?_)
  refine lv_aload_n hx hb rjd_i_6 rfl (lv_at hl 0 rfl) ?_
  refine vk_getf hx hb (hZ.1.1 0 (by decide)).2.1 hS hown (hts (.fieldLink "java/lang/String" 15 "java/lang/String" "coder" "B") (rc_has_in (i := 1331) (by decide +kernel))) (fun _ h => h) rjd_i_7 ?_
  refine lv_if_ne hx hb rjd_i_10 (tgt := 17) rfl (fun h => absurd rfl h) (fun _ => ?_)
  refine lv_iconst (v := 1) hx hb rjd_i_13 (by decide) ?_
  refine lv_goto hx hb rjd_i_14 (tgt := 18) rfl ?_
  exact W.zret hx hb hr (by decide) (fun t ht _ => ⟨rfl, ht⟩) (fun _ h => by cases h) rjd_i_18
theorem rj_hi : Cond.code rj_yi prog_15_method_154_code 1 (some .boolean) ∈ rc_wsG := rc_has_in (i := 450) (by decide +kernel)
/-- what the seven letters are, by their places -/
theorem rj_nums : ∀ j : Nat, j < 7 → ¬ Int32.ofNat j < 0 ∧ Int32.ofNat j < 7 ∧ vp_in (Int32.ofNat j) 7 ∧ (Int32.ofNat j).toNatClampNeg = j ∧ ((rj_bt.getD j 0 &&& 255).toUInt32 % 65536).toInt32 = rj_bt.getD j 0 ∧ narrow .char (.int (rj_bt.getD j 0)) = .int (rj_bt.getD j 0) ∧ Int32.ofNat j + Int32.ofInt 1 = Int32.ofNat (j + 1) := by
  intro j hj
  have e : j = 0 ∨ j = 1 ∨ j = 2 ∨ j = 3 ∨ j = 4 ∨ j = 5 ∨ j = 6 := by omega
  rcases e with rfl | rfl | rfl | rfl | rfl | rfl | rfl <;> (unfold vp_in; decide +kernel)
set_option maxHeartbeats 4000000 in
theorem rj_pre (l : Launch) (A : Nat → Prop) (k vv : Nat) {j : Nat} (hj : j < 7) {o : Value} (ho : o = .null ∨ ∃ t, o = .ref t) : Met l rj_yp (Cond.code rj_yp prog_20_method_11_code 3 (some .int) :: rc_wsG) (rj_rm 0 0) (rj_P A k vv [.int (Int32.ofNat j), .int 7, o]) (rj_Q (some (.int (Int32.ofNat j)))) 0 0 (fun _ => False) := by
  refine Met.ofW (cc := prog_20_method_11_code) (maxL := 3) (ret := (some .int)) (by decide) rfl ?_
  intro p e s m args below meth c s₁ B hml hv
  obtain ⟨rfl, hZ⟩ := hv
  have hx := B.exec
  have hb := B.bytes
  have hr := B.returns
  have hlocks := B.notSynchronized
  obtain ⟨n1, n2, -⟩ := rj_nums j hj
  generalize Int32.ofNat j = i at n1 n2 ⊢
  have hl := lv_entry ([.int i, .int 7, o]) (n := 3) (by rcases ho with rfl | ⟨t, rfl⟩ <;> exact Nat.le_of_ble_eq_true rfl)
  rw [lg_entry_eq]
  generalize (lg_sl ([.int i, .int 7, o]) ++ List.replicate (3 - (lg_sl ([.int i, .int 7, o])).length) Slot.unset).toArray = ls at hl ⊢
  have hl : lv_has ls 3 [(0, .int i), (1, .int 7), (2, o)] := by rcases ho with rfl | ⟨t, rfl⟩ <;> exact hl
  refine lv_iload_n hx hb rjd_p_0 rfl (lv_at hl 0 rfl) ?_
  refine lv_if_lt hx hb rjd_p_1 (tgt := 9) rfl (fun h => absurd h n1) (fun _ => ?_)
  refine lv_iload_n hx hb rjd_p_4 rfl (lv_at hl 0 rfl) ?_
  refine lv_iload_n hx hb rjd_p_5 rfl (lv_at hl 1 rfl) ?_
  refine lv_icmp_lt hx hb rjd_p_6 (tgt := 16) rfl (fun _ => ?_) (fun h => absurd n2 h)
  refine lv_iload_n hx hb rjd_p_16 rfl (lv_at hl 0 rfl) ?_
  exact W.iret hx hb hr (fun t ht _ => ⟨rfl, ht⟩) (fun _ h => by cases h) rjd_p_17
theorem rj_hp : Cond.code rj_yp prog_20_method_11_code 3 (some .int) ∈ rc_wsG := rc_has_in (i := 461) (by decide +kernel)
theorem rj_ip : Cond.initialized "jdk/internal/util/Preconditions" ∈ rc_wsG := rc_has_in (i := 78) (by decide +kernel)
theorem rj_ib : Cond.initialized "java/lang/StringLatin1" ∈ rc_wsG := rc_has_in (i := 77) (by decide +kernel)
set_option maxHeartbeats 4000000 in
theorem rj_chk (l : Launch) (A : Nat → Prop) (k vv : Nat) {j : Nat} (hj : j < 7) : Met l rj_yk (Cond.code rj_yk prog_15_method_155_code 2 none :: rc_wsG) (rj_rm 1 22) (rj_P A k vv [.int (Int32.ofNat j), .int 7]) (rj_Q none) 0 0 (fun _ => False) := by
  refine Met.ofW (cc := prog_15_method_155_code) (maxL := 2) (ret := none) (by decide) rfl ?_
  intro p e s m args below meth c s₁ B hml hv
  obtain ⟨rfl, hZ⟩ := hv
  have hx := B.exec
  have hb := B.bytes
  have hr := B.returns
  have hts0 := atoms_spec (ws := Cond.code rj_yk prog_15_method_155_code 2 none :: rc_wsG) B.pre
  have hts : ∀ w ∈ rc_wsG, w.before ([.int (Int32.ofNat j), .int 7] : List Value).toArray s = true := fun w hw => hts0 w (List.mem_cons_of_mem _ hw)
  have hown : s.vm.findClass "java/lang/String" = some m.cls := findClass_of_methodNamed B.named
  have hlocks := B.notSynchronized
  have hS : va_S A s.heap s.heap [] := va_S.rf
  have hl := lv_entry ([.int (Int32.ofNat j), .int 7]) (n := 2) (Nat.le_of_ble_eq_true rfl)
  rw [lg_entry_eq]
  generalize (lg_sl ([.int (Int32.ofNat j), .int 7]) ++ List.replicate (2 - (lg_sl ([.int (Int32.ofNat j), .int 7])).length) Slot.unset).toArray = ls at hl ⊢
  have hl : lv_has ls 2 [(0, .int (Int32.ofNat j)), (1, .int 7)] := hl
  refine lv_iload_n hx hb rjd_k_0 rfl (lv_at hl 0 rfl) ?_
  refine lv_iload_n hx hb rjd_k_1 rfl (lv_at hl 1 rfl) ?_
  obtain ⟨o, ho, hz⟩ : ∃ o : Value, (o = .null ∨ ∃ t, o = .ref t) ∧ va_Z "jdk/internal/util/Preconditions" "SIOOBE_FORMATTER" "Ljava/util/function/BiFunction;" o A s s.heap := by
    rcases hZ.2.2.2 with h | ⟨t, h⟩
    · exact ⟨.null, Or.inl rfl, h⟩
    · exact ⟨.ref t, Or.inr ⟨t, rfl⟩, h⟩
  refine va_gets hx hb hz hS hown (hts (.fieldLink "java/lang/String" 1053 "jdk/internal/util/Preconditions" "SIOOBE_FORMATTER" "Ljava/util/function/BiFunction;") (rc_has_in (i := 457) (by decide +kernel))) (fun _ h => h) rjd_k_2 ?_
  refine rj_cS (As := [.int (Int32.ofNat j), .int 7, o]) (rest := []) (own := "java/lang/String") (index := 1059) ⟨hx, hb, hml, hown, hts⟩ (rj_pre l A k vv hj ho) (rc_has_in (i := 459) (by decide +kernel)) (rc_has_in (i := 460) (by decide +kernel)) rj_ip rj_hp (n := 3) (by decide +kernel) ⟨Nat.le_of_ble_eq_true rfl, Nat.le_of_ble_eq_true rfl⟩ hZ rfl hl.1 rfl (Nat.le_of_ble_eq_true rfl) rjd_k_5 ?_
  refine lv_pop hx hb (va := .int (Int32.ofNat j)) rjd_k_8 rfl ?_
  exact W.vret hx hb hr (fun t ht _ => ⟨rfl, ht⟩) (fun _ h => by cases h) rjd_k_9
theorem rj_hk : Cond.code rj_yk prog_15_method_155_code 2 none ∈ rc_wsG := rc_has_in (i := 456) (by decide +kernel)
set_option maxHeartbeats 4000000 in
theorem rj_bch (l : Launch) (A : Nat → Prop) (k vv : Nat) {j : Nat} (hj : j < 7) : Met l rj_yb (Cond.code rj_yb prog_16_method_2_code 2 (some .char) :: rc_wsG) (rj_rm 2 43) (rj_P A k vv [.ref vv, .int (Int32.ofNat j)]) (rj_Q (some (.int (rj_bt.getD j 0)))) 0 0 (fun _ => False) := by
  refine Met.ofW (cc := prog_16_method_2_code) (maxL := 2) (ret := (some .char)) (by decide) rfl ?_
  intro p e s m args below meth c s₁ B hml hv
  obtain ⟨rfl, hZ⟩ := hv
  have hx := B.exec
  have hb := B.bytes
  have hr := B.returns
  have hts0 := atoms_spec (ws := Cond.code rj_yb prog_16_method_2_code 2 (some .char) :: rc_wsG) B.pre
  have hts : ∀ w ∈ rc_wsG, w.before ([.ref vv, .int (Int32.ofNat j)] : List Value).toArray s = true := fun w hw => hts0 w (List.mem_cons_of_mem _ hw)
  have hown : s.vm.findClass "java/lang/StringLatin1" = some m.cls := findClass_of_methodNamed B.named
  have hlocks := B.notSynchronized
  have hS : va_S A s.heap s.heap [] := va_S.rf
  obtain ⟨n1, n2, n3, n4, n5, n6, -⟩ := rj_nums j hj
  have hl := lv_entry ([.ref vv, .int (Int32.ofNat j)]) (n := 2) (Nat.le_of_ble_eq_true rfl)
  rw [lg_entry_eq]
  generalize (lg_sl ([.ref vv, .int (Int32.ofNat j)]) ++ List.replicate (2 - (lg_sl ([.ref vv, .int (Int32.ofNat j)])).length) Slot.unset).toArray = ls at hl ⊢
  have hl : lv_has ls 2 [(0, .ref vv), (1, .int (Int32.ofNat j))] := hl
  have hT : va_T .byte vv 7 (fun q => .int (rj_bt.getD q 0)) A s s.heap := (hZ.1.1 0 (by decide)).2.2.2
  refine lv_iload_n hx hb rjd_b_0 rfl (lv_at hl 1 rfl) ?_
  refine lv_aload_n hx hb rjd_b_1 rfl (lv_at hl 0 rfl) ?_
  refine va_tlen hx hb hT hS (v := 7) rfl rjd_b_2 ?_
  refine rj_cS (As := [.int (Int32.ofNat j), .int 7]) (rest := []) (own := "java/lang/StringLatin1") (index := 9) ⟨hx, hb, hml, hown, hts⟩ (rj_chk l A k vv hj) (rc_has_in (i := 454) (by decide +kernel)) (rc_has_in (i := 455) (by decide +kernel)) rj_is rj_hk (n := 2) (by decide +kernel) ⟨Nat.le_of_ble_eq_true rfl, Nat.le_of_ble_eq_true rfl⟩ hZ rfl hl.1 rfl (Nat.le_of_ble_eq_true rfl) rjd_b_3 ?_
  refine lv_aload_n hx hb rjd_b_6 rfl (lv_at hl 0 rfl) ?_
  refine lv_iload_n hx hb rjd_b_7 rfl (lv_at hl 1 rfl) ?_
  refine va_tb hx hb hT hS n3 (v := .int (rj_bt.getD j 0)) (by simp only [n4]) rjd_b_8 ?_
  refine lv_sipush (v := 255) hx hb rjd_b_9 (by decide) ?_
  refine lv_iand hx hb rjd_b_12 ?_
  refine lv_i2c (v := rj_bt.getD j 0) hx hb rjd_b_13 n5 ?_
  exact W.zret hx hb hr n6 (fun t ht _ => ⟨rfl, ht⟩) (fun _ h => by cases h) rjd_b_14
theorem rj_hb : Cond.code rj_yb prog_16_method_2_code 2 (some .char) ∈ rc_wsG := rc_has_in (i := 453) (by decide +kernel)
set_option maxHeartbeats 4000000 in
theorem rj_cat (l : Launch) (A : Nat → Prop) (k vv : Nat) {j : Nat} (hj : j < 7) : Met l rj_ya (Cond.code rj_ya prog_15_method_56_code 2 (some .char) :: rc_wsG) (rj_rm 3 64) (rj_P A k vv [.ref k, .int (Int32.ofNat j)]) (rj_Q (some (.int (rj_bt.getD j 0)))) 0 0 (fun _ => False) := by
  refine Met.ofW (cc := prog_15_method_56_code) (maxL := 2) (ret := (some .char)) (by decide) rfl ?_
  intro p e s m args below meth c s₁ B hml hv
  obtain ⟨rfl, hZ⟩ := hv
  have hx := B.exec
  have hb := B.bytes
  have hr := B.returns
  have hts0 := atoms_spec (ws := Cond.code rj_ya prog_15_method_56_code 2 (some .char) :: rc_wsG) B.pre
  have hts : ∀ w ∈ rc_wsG, w.before ([.ref k, .int (Int32.ofNat j)] : List Value).toArray s = true := fun w hw => hts0 w (List.mem_cons_of_mem _ hw)
  have hown : s.vm.findClass "java/lang/String" = some m.cls := findClass_of_methodNamed B.named
  have hlocks := B.notSynchronized
  have hS : va_S A s.heap s.heap [] := va_S.rf
  obtain ⟨n1, n2, n3, n4, n5, n6, -⟩ := rj_nums j hj
  have hl := lv_entry ([.ref k, .int (Int32.ofNat j)]) (n := 2) (Nat.le_of_ble_eq_true rfl)
  rw [lg_entry_eq]
  generalize (lg_sl ([.ref k, .int (Int32.ofNat j)]) ++ List.replicate (2 - (lg_sl ([.ref k, .int (Int32.ofNat j)])).length) Slot.unset).toArray = ls at hl ⊢
  have hl : lv_has ls 2 [(0, .ref k), (1, .int (Int32.ofNat j))] := hl
  refine lv_aload_n hx hb rjd_a_0 rfl (lv_at hl 0 rfl) ?_
  refine rj_cV (As := []) (rest := []) (own := "java/lang/String") (index := 492) ⟨hx, hb, hml, hown, hts⟩ (rj_lat l A k vv) (rc_has_in (i := 447) (by decide +kernel)) (rc_has_in (i := 448) (by decide +kernel)) (rc_has_in (i := 449) (by decide +kernel)) rj_is rj_hi (n := 0) (by decide +kernel) ⟨Nat.le_of_ble_eq_true rfl, Nat.le_of_ble_eq_true rfl⟩ hZ rfl hl.1 rfl (Nat.le_of_ble_eq_true rfl) rjd_a_1 ?_
  refine lv_if_eq (x := 1) hx hb rjd_a_4 (tgt := 16) rfl (fun h => absurd h (by decide)) (fun _ => ?_)
  refine lv_aload_n hx hb rjd_a_7 rfl (lv_at hl 0 rfl) ?_
  refine vk_getf hx hb (hZ.1.1 0 (by decide)).2.2.1 hS hown (hts (.fieldLink "java/lang/String" 9 "java/lang/String" "value" "[B") (rc_has_in (i := 1330) (by decide +kernel))) (fun _ h => h) rjd_a_8 ?_
  refine lv_iload_n hx hb rjd_a_11 rfl (lv_at hl 1 rfl) ?_
  refine rj_cS (As := [.ref vv, .int (Int32.ofNat j)]) (rest := []) (own := "java/lang/String") (index := 495) ⟨hx, hb, hml, hown, hts⟩ (rj_bch l A k vv hj) (rc_has_in (i := 451) (by decide +kernel)) (rc_has_in (i := 452) (by decide +kernel)) rj_ib rj_hb (n := 2) (by decide +kernel) ⟨Nat.le_of_ble_eq_true rfl, Nat.le_of_ble_eq_true rfl⟩ hZ rfl hl.1 rfl (Nat.le_of_ble_eq_true rfl) rjd_a_12 ?_
  exact W.zret hx hb hr n6 (fun t ht _ => ⟨rfl, ht⟩) (fun _ h => by cases h) rjd_a_15
theorem rj_ha : Cond.code rj_ya prog_15_method_56_code 2 (some .char) ∈ rc_wsG := rc_has_in (i := 446) (by decide +kernel)
/-- the search from the place j on, n letters -/
def rj_f (x : Int32) : Nat → Nat → Int32
  | 0, _ => -9
  | n + 1, j => if rj_bt.getD j 0 = x then Int32.ofNat j else rj_f x n (j + 1)
theorem rj_f_kd (x : Int32) : rj_f x 7 0 = rc_kd x := by
  simp only [rj_f, rj_bt, rc_kd, List.getD_cons_zero, List.getD_cons_succ, eq_comm (b := x)]
  rfl
set_option maxHeartbeats 4000000 in
theorem rj_kind (l : Launch) (A : Nat → Prop) (k vv : Nat) (x : Int32) : Met l (rc_y 44) (rc_wm 44) { frames := 10, cells := 0, slots := 0, locals := 600 } (fun v U => v = #[.int x] ∧ rj_Z A k vv U U.heap) (fun _ st o t => o = .returned (some (.int (rc_kd x))) ∧ t.heap = st.heap) 0 0 (fun _ => False) := by
  refine Met.ofW (cc := rc_code 44) (maxL := 2) (ret := (some .int)) (by decide +kernel) rfl ?_
  intro p e s m args below meth c s₁ B hml hv
  obtain ⟨rfl, hZ⟩ := hv
  have hx := B.exec
  have hb : c.code = prog_5_method_19_code := B.bytes
  have hr : meth.sig.returnType = some .int := B.returns
  have hts0 := atoms_spec (ws := rc_wm 44) B.pre
  have hts : ∀ w ∈ rc_wsG, w.before (#[.int x] : Array Value) s = true := fun w hw => hts0 w (List.mem_cons_of_mem _ hw)
  have hown : s.vm.findClass RX3 = some m.cls := findClass_of_methodNamed B.named
  have hlocks := B.notSynchronized
  have hl := lv_entry ([.int x]) (n := 2) (Nat.le_of_ble_eq_true rfl)
  have key : ∀ n j : Nat, j + n = 7 → rj_f x n j = rc_kd x → ∀ ls : Array Slot, lv_has ls 2 [(1, .int (Int32.ofNat j)), (0, .int x)] → W p l e (headSpec (rc_wm 44) { frames := 10, cells := 0, slots := 0, locals := 600 }).room s m #[.int x] below meth c s.heap [] 0 0 (MQ below (fun _ st o t => o = .returned (some (.int (rc_kd x))) ∧ t.heap = st.heap) #[.int x] s 0 0 (fun _ => False)) (F0 m 2 ls []) := by
    intro n
    induction n with
    | zero =>
      intro j hj hf ls hl
      have e7 : j = 7 := by omega
      subst e7
      refine lv_iload_n hx hb rjd_o_2 rfl (lv_at hl 0 rfl) ?_
      refine va_ldcS hx hb hown hZ.2.1 rjd_o_3 ?_
      refine rj_cV (As := []) (rest := [.int (Int32.ofNat 7)]) (own := RX3) (index := 131) ⟨hx, hb, hml, hown, hts⟩ (rj_len l A k vv) (rc_has_in (i := 433) (by decide +kernel)) (rc_has_in (i := 434) (by decide +kernel)) (rc_has_in (i := 435) (by decide +kernel)) rj_is rj_hl (n := 0) (by decide +kernel) ⟨Nat.le_of_ble_eq_true rfl, Nat.le_of_ble_eq_true rfl⟩ hZ rfl hl.1 rfl (Nat.le_of_ble_eq_true rfl) rjd_o_5 ?_
      refine lv_icmp_ge hx hb rjd_o_8 (tgt := 29) rfl (fun _ => ?_) (fun h => absurd h (by decide))
      refine lv_bipush (v := -9) hx hb rjd_o_29 (by decide) ?_
      rw [← hf]
      exact W.iret hx hb hr (fun t ht _ => ⟨rfl, ht⟩) (fun _ h => by cases h) rjd_o_31
    | succ n ih =>
      intro j hj hf ls hl
      have hj7 : j < 7 := by omega
      obtain ⟨n1, n2, n3, n4, n5, n6, n7⟩ := rj_nums j hj7
      refine lv_iload_n hx hb rjd_o_2 rfl (lv_at hl 0 rfl) ?_
      refine va_ldcS hx hb hown hZ.2.1 rjd_o_3 ?_
      refine rj_cV (As := []) (rest := [.int (Int32.ofNat j)]) (own := RX3) (index := 131) ⟨hx, hb, hml, hown, hts⟩ (rj_len l A k vv) (rc_has_in (i := 433) (by decide +kernel)) (rc_has_in (i := 434) (by decide +kernel)) (rc_has_in (i := 435) (by decide +kernel)) rj_is rj_hl (n := 0) (by decide +kernel) ⟨Nat.le_of_ble_eq_true rfl, Nat.le_of_ble_eq_true rfl⟩ hZ rfl hl.1 rfl (Nat.le_of_ble_eq_true rfl) rjd_o_5 ?_
      refine lv_icmp_ge (x := Int32.ofNat j) (y := 7) hx hb rjd_o_8 (tgt := 29) rfl (fun h => absurd h (Int32.not_le.mpr n2)) (fun _ => ?_)
      refine va_ldcS hx hb hown hZ.2.1 rjd_o_11 ?_
      refine lv_iload_n hx hb rjd_o_13 rfl (lv_at hl 0 rfl) ?_
      refine rj_cV (As := [.int (Int32.ofNat j)]) (rest := []) (own := RX3) (index := 135) ⟨hx, hb, hml, hown, hts⟩ (rj_cat l A k vv hj7) (rc_has_in (i := 443) (by decide +kernel)) (rc_has_in (i := 444) (by decide +kernel)) (rc_has_in (i := 445) (by decide +kernel)) rj_is rj_ha (n := 1) (by decide +kernel) ⟨Nat.le_of_ble_eq_true rfl, Nat.le_of_ble_eq_true rfl⟩ hZ rfl hl.1 rfl (Nat.le_of_ble_eq_true rfl) rjd_o_14 ?_
      refine lv_iload_n hx hb rjd_o_17 rfl (lv_at hl 1 rfl) ?_
      unfold rj_f at hf
      refine lv_icmp_ne (x := rj_bt.getD j 0) (y := x) hx hb rjd_o_18 (tgt := 23) rfl (fun h => ?_) (fun h => ?_)
      · rw [if_neg h] at hf
        refine lv_iinc hx hb rjd_o_23 hl (k := 0) rfl n7 (by decide) rfl (fun ls2 hl2 => ?_)
        refine lv_goto hx hb rjd_o_26 (tgt := 2) rfl ?_
        exact ih (j + 1) (by omega) hf ls2 hl2
      · rw [if_pos h] at hf
        refine lv_iload_n hx hb rjd_o_21 rfl (lv_at hl 0 rfl) ?_
        rw [hf]
        exact W.iret hx hb hr (fun t ht _ => ⟨rfl, ht⟩) (fun _ h => by cases h) rjd_o_22
  show W _ _ _ _ _ _ _ _ _ _ _ _ _ _ _ (entryFrame m ([.int x] : List Value).toArray 2)
  rw [lg_entry_eq]
  generalize (lg_sl ([.int x]) ++ List.replicate (2 - (lg_sl ([.int x])).length) Slot.unset).toArray = ls at hl ⊢
  have hl : lv_has ls 2 [(0, .int x)] := hl
  refine lv_iconst (v := 0) hx hb rjd_o_0 (by decide) ?_
  refine lv_istore_n hx hb rjd_o_1 rfl hl (by decide) rfl (fun ls2 hl2 => ?_)
  exact key 7 0 rfl (rj_f_kd x) ls2 hl2
