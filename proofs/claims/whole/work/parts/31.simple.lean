/-! what each call answers, and what it leaves -/
def rc_no (P : rc_P) (w : Nat) : rc_P := (P.1, P.2.1, P.2.2.1, P.2.2.2.1, P.2.2.2.2.1, P.2.2.2.2.2.1, P.2.2.2.2.2.2.1, upd (prf P) w (prf P w + 1))
def o_no (P : rc_P) (w : Nat) : Int32 × rc_P := (-(nI w), rc_no P w)
theorem rc_no_W {n w : Nat} {P : rc_P} (h : rc_WP n P) : rc_WP n (rc_no P w) := h
section RS
variable {d n : Nat} {σ : rc_M} {P : rc_P} {Q : Int32 → rc_M → Prop}
theorem c_ref {x : Int32} {w : Nat} (hw : w < 7) (hx : x = -(nI w)) (hI : rc_CP σ P) (hW : rc_WP n P) {o : Int32 × rc_P} (ho : o = o_no P w) (h : ∀ σ', rc_fC σ σ' → rc_CP σ' o.2 → Q o.1 σ') : rc_TI d 115 [.ref 2, .int x] σ Q := by
  subst hx; subst ho
  refine c_refuse hw (h _ (rc_fC.up (by omega)) ?_)
  have e : ∀ k, k ≠ 77 → rc_up σ 77 (upd (σ 77) w (σ 77 w + 1)) k = σ k := fun k hk => rc_up_n _ _ hk
  obtain ⟨h1, h2, h3, h4, h5, h6, h7⟩ := hI
  refine ⟨?_, h2.at hW.1.2.1 (fun k _ _ _ => e k (by omega)), ?_, ?_, fun j hj => ?_, ?_, fun hi => (h7 hi).at (hW.2.1 hi).2.1 (fun k _ _ _ => e k (by omega))⟩
  · rw [e _ (by omega)]; exact h1
  · rw [e 59 (by omega), e 60 (by omega)]; exact h3
  · rw [e 2 (by omega), e 76 (by omega)]; exact h4
  · rw [rc_up_s]
    show _ = upd (prf P) w (prf P w + 1) j
    by_cases z : j = w
    · subst z; rw [pk_us, pk_us, h5 j hj]
    · rw [pk_un z, pk_un z, h5 j hj]
  · rw [e _ (by omega)]; exact h6
theorem t_ref {x : Int32} {w : Nat} (hw : w < 7) (hx : x = -(nI w)) (hI : rc_MP σ P) {o : Int32 × rc_P} (ho : o = o_no P w) (h : ∀ σ', rc_fM σ σ' → rc_MP σ' o.2 → Q o.1 σ') : rc_TI d 121 [.ref 80, .int x] σ Q := by
  subst hx; subst ho
  refine t_no hw (h _ (rc_fM.up (by omega)) ?_)
  have e : ∀ k, k ≠ 81 → rc_up σ 81 (upd (σ 81) w (σ 81 w + 1)) k = σ k := fun k hk => rc_up_n _ _ hk
  have key : rc_MP (rc_up σ 81 (σ 81)) P := by rw [rc_ui]; exact hI
  obtain ⟨h1, h2, h3, h4, h5, h6, h7, h8⟩ := hI
  refine ⟨key.1, h2, h3, fun j hj => ?_, h5, h6, h7, h8⟩
  rw [rc_up_s]
  show _ = upd (prf P) w (prf P w + 1) j
  by_cases z : j = w
  · subst z; rw [pk_us, pk_us, h4 j hj]
  · rw [pk_un z, pk_un z, h4 j hj]
/-! letter -/
def o_letter (P : rc_P) (c : Int32) : Int32 × rc_P := if c < 0 then o_no P 4 else if 255 < c ∨ pln P = 64 then o_no P 6 else (nI (pln P + 1), (P.1, P.2.1, P.2.2.1, va_up (ptp P) (pln P) c.toNatClampNeg, pln P + 1, P.2.2.2.2.2))
theorem o_letter_W {c : Int32} (h : rc_WP n P) : rc_WP n (o_letter P c).2 := by
  unfold o_letter
  split
  · exact rc_no_W h
  · split
    · exact rc_no_W h
    · rename_i h1 h2
      obtain ⟨a1, a2, ⟨a3, a4⟩, a5⟩ := h
      refine ⟨a1, a2, ⟨?_, fun j hj => ?_⟩, a5⟩
      · show pln P + 1 ≤ 64
        have : ¬ pln P = 64 := fun z => h2 (Or.inr z)
        omega
      · show va_up (ptp P) (pln P) c.toNatClampNeg j ≤ 255
        have hj' : j < pln P + 1 := hj
        unfold va_up
        split
        · have : ¬ 255 < c := fun z => h2 (Or.inl z)
          rcases rc_out_or c (n := 256) (by omega) with (q | q) | ⟨k, hk, e⟩
          · exact absurd q h1
          · exact absurd (Int32.lt_of_lt_of_le (show (255 : Int32) < nI 256 by decide) q) this
          · rw [e, rc_ci (by omega)]; omega
        · exact a4 j (by omega)
theorem rc_c_nn {c : Int32} (h : ¬ c < 0) : nI c.toNatClampNeg = c := by
  rw [Int32.not_lt] at h
  apply Int32.toInt_inj.mp
  have h0 : (0 : Int) ≤ c.toInt := by simpa [Int32.le_iff_toInt_le] using h
  have h1 := Int32.toInt_lt c
  have e : c.toNatClampNeg = c.toInt.toNat := rfl
  rw [e, nI_toInt (by omega)]
  omega
theorem c_letter {c : Int32} (hI : rc_CP σ P) (hW : rc_WP n P) (h : ∀ σ', rc_fC σ σ' → rc_CP σ' (o_letter P c).2 → Q (o_letter P c).1 σ') : rc_TI (d + 1) 83 [.ref 2, .int c] σ Q := by
  have hl := hW.2.2.1.1
  have e59 := hI.2.2.1.1
  refine rc_go 60 (And.intro (fun c1 => ?_) (fun c1 => ?_))
  · have c1' : ¬ c < 0 := Int32.not_lt.mpr c1
    refine And.intro (fun c2 => ?_) (fun c2 => ?_)
    · exact c_ref (w := 6) (by decide) (by decide) hI hW (by simp only [o_letter, if_neg c1', if_pos (Or.inl c2)]) (fun σ' a b => ⟨_, rfl, h σ' a b⟩)
    · by_cases c3 : pln P = 64
      · have key : ∀ Q' : Int32 → rc_M → Prop, Q' 1 σ → rc_TI d 27 [.ref 59] σ Q' := fun Q' hq => rc_go 20 (And.intro (fun z => absurd z (by rw [e59, c3]; decide)) (fun _ => ⟨Or.inr rfl, _, rfl, hq⟩))
        refine key _ (And.intro (fun z => absurd z (by decide)) (fun _ => ?_))
        exact c_ref (w := 6) (by decide) (by decide) hI hW (by simp only [o_letter, if_neg c1', if_pos (Or.inr c3)]) (fun σ' a b => ⟨_, rfl, h σ' a b⟩)
      · have c3' : pln P < 64 := by omega
        have key : ∀ Q' : Int32 → rc_M → Prop, Q' 0 σ → rc_TI d 27 [.ref 59] σ Q' := fun Q' hq => rc_go 20 (And.intro (fun _ => ⟨Or.inl rfl, _, rfl, hq⟩) (fun z => absurd (by rw [e59]; exact nI_lt c3' (by decide)) z))
        refine key _ (And.intro (fun _ => ?_) (fun z => absurd rfl z))
        have ho : o_letter P c = (nI (pln P + 1), (P.1, P.2.1, P.2.2.1, va_up (ptp P) (pln P) c.toNatClampNeg, pln P + 1, P.2.2.2.2.2)) := by simp only [o_letter, if_neg c1', if_neg (show ¬ (255 < c ∨ pln P = 64) from fun z => z.elim c2 c3)]
        rw [ho] at h
        have add : ∀ Q' : Int32 → rc_M → Prop, Q' (nI (pln P + 1)) (rc_up (rc_up σ 60 (upd (σ 60) (pln P) c)) 59 (upd (σ 59) 1 (nI (pln P + 1)))) → rc_TI d 28 [.ref 59, .int c] σ Q' := fun Q' hq => by
          refine rc_go 40 (And.intro (by rw [e59]; exact rc_vi (n := 64) c3' (by decide)) ?_)
          refine ⟨_, rfl, ?_⟩
          rw [rc_up_s, pk_us, rc_up_n _ _ (show 59 ≠ 60 by decide), e59, nI_1, rc_ci (by omega)]
          exact hq
        refine add _ ⟨_, rfl, h _ ((rc_fC.up (by omega)).tr (rc_fC.up (by omega))) ?_⟩
        have e : ∀ k, k ≠ 60 → k ≠ 59 → rc_up (rc_up σ 60 (upd (σ 60) (pln P) c)) 59 (upd (σ 59) 1 (nI (pln P + 1))) k = σ k := fun k h1 h2 => by rw [rc_up_n _ _ h2, rc_up_n _ _ h1]
        obtain ⟨h1, h2, h3, h4, h5, h6, h7⟩ := hI
        refine ⟨?_, h2.at hW.1.2.1 (fun k _ _ _ => e k (by omega) (by omega)), ⟨?_, fun j hj => ?_⟩, ?_, fun j hj => ?_, ?_, fun hi => (h7 hi).at (hW.2.1 hi).2.1 (fun k _ _ _ => e k (by omega) (by omega))⟩
        · rw [e _ (by omega) (by omega)]; exact h1
        · rw [rc_up_s, pk_us]
        · have hj' : j < pln P + 1 := hj
          rw [rc_up_n _ _ (show 60 ≠ 59 by decide), rc_up_s]
          show _ = nI (va_up (ptp P) (pln P) c.toNatClampNeg j)
          unfold va_up
          by_cases z : j = pln P
          · subst z; rw [pk_us, if_pos rfl, rc_c_nn c1']
          · rw [pk_un z, if_neg z]; exact h3.2 j (by omega)
        · rw [e 2 (by omega) (by omega), e 76 (by omega) (by omega)]; exact h4
        · rw [e 77 (by omega) (by omega)]; exact h5 j hj
        · rw [e 2 (by omega) (by omega)]; exact h6
  · have c1' : c < 0 := Int32.not_le.mp c1
    exact c_ref (w := 4) (by decide) (by decide) hI hW (by simp only [o_letter, if_pos c1']) (fun σ' a b => ⟨_, rfl, h σ' a b⟩)
theorem t_letter {c : Int32} (hI : rc_MP σ P) (hW : rc_WP n P) (h : ∀ σ', rc_fM σ σ' → rc_MP σ' (o_letter P c).2 → Q (o_letter P c).1 σ') : rc_TI (d + 1) 130 [.ref 80, .int c] σ Q := by
  have hl := hW.2.2.1.1
  have e59 := hI.2.1.1
  refine rc_go 60 (And.intro (fun c1 => ?_) (fun c1 => ?_))
  · have c1' : ¬ c < 0 := Int32.not_lt.mpr c1
    refine And.intro (fun c2 => ?_) (fun c2 => ?_)
    · exact t_ref (w := 6) (by decide) (by decide) hI (by simp only [o_letter, if_neg c1', if_pos (Or.inl c2)]) (fun σ' a b => ⟨_, rfl, h σ' a b⟩)
    · refine And.intro (fun c3 => ?_) (fun c3 => ?_)
      · have c3' : ¬ pln P = 64 := fun z => c3 (by rw [e59, z]; rfl)
        have ho : o_letter P c = (nI (pln P + 1), (P.1, P.2.1, P.2.2.1, va_up (ptp P) (pln P) c.toNatClampNeg, pln P + 1, P.2.2.2.2.2)) := by simp only [o_letter, if_neg c1', if_neg (show ¬ (255 < c ∨ pln P = 64) from fun z => z.elim c2 c3')]
        rw [ho] at h
        refine And.intro (by rw [e59]; exact rc_vi (n := 64) (by omega) (by decide)) ⟨_, rfl, ?_⟩
        rw [rc_up_s, pk_us, rc_up_n _ _ (show 80 ≠ 97 by decide), e59, nI_1, rc_ci (by omega)]
        refine h _ ((rc_fM.up (by omega)).tr (rc_fM.up (by omega))) ?_
        have key : rc_MP (rc_up (rc_up σ 97 (σ 97)) 80 (upd (σ 80) 24 (σ 80 24))) P := by
          rw [rc_ui, show upd (σ 80) 24 (σ 80 24) = σ 80 from by funext j; by_cases z : j = 24; subst z; exact pk_us; exact pk_un z, rc_ui]
          exact hI
        obtain ⟨h1, h2, h3, h4, h5, h6, h7, h8⟩ := hI
        refine ⟨key.1, ⟨?_, fun j hj => ?_⟩, key.2.2.1, h4, key.2.2.2.2.1, h6, h7, h8⟩
        · rw [rc_up_s, pk_us]
        · have hj' : j < pln P + 1 := hj
          rw [rc_up_n _ _ (show 97 ≠ 80 by decide), rc_up_s]
          show _ = nI (va_up (ptp P) (pln P) c.toNatClampNeg j)
          unfold va_up
          by_cases z : j = pln P
          · subst z; rw [pk_us, if_pos rfl, rc_c_nn c1']
          · rw [pk_un z, if_neg z]; exact h2.2 j (by omega)
      · have c3' : pln P = 64 := (nI_eq (by omega) (by decide)).mp (show nI (pln P) = nI 64 from by rw [← e59]; exact c3)
        exact t_ref (w := 6) (by decide) (by decide) hI (by simp only [o_letter, if_neg c1', if_pos (Or.inr c3')]) (fun σ' a b => ⟨_, rfl, h σ' a b⟩)
  · have c1' : c < 0 := Int32.not_le.mp c1
    exact t_ref (w := 4) (by decide) (by decide) hI (by simp only [o_letter, if_pos c1']) (fun σ' a b => ⟨_, rfl, h σ' a b⟩)
end RS
