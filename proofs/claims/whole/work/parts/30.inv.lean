/-! all that both sides keep, as numbers: the inn, the image, whether it is taken, letters, told rooms, refusals -/
abbrev rc_P : Type := rc_V × rc_V × Bool × (Nat → Nat) × Nat × (Nat → Nat) × Nat × (Nat → Int32)
abbrev pV (P : rc_P) : rc_V := P.1
abbrev pU (P : rc_P) : rc_V := P.2.1
abbrev pim (P : rc_P) : Bool := P.2.2.1
abbrev ptp (P : rc_P) : Nat → Nat := P.2.2.2.1
abbrev pln (P : rc_P) : Nat := P.2.2.2.2.1
abbrev ptd (P : rc_P) : Nat → Nat := P.2.2.2.2.2.1
abbrev ptl (P : rc_P) : Nat := P.2.2.2.2.2.2.1
abbrev prf (P : rc_P) : Nat → Int32 := P.2.2.2.2.2.2.2
abbrev pVs (P : rc_P) (V : rc_V) : rc_P := (V, P.2)
/-- the image of the model, read as a model -/
def rc_tho (k : Nat) : Nat := match k with
  | 82 => 4 | 83 => 10 | 84 => 16 | 85 => 34 | 86 => 40 | 87 => 46 | 88 => 52 | 89 => 57 | 90 => 72 | 91 => 77 | 92 => 82 | 93 => 87 | 94 => 92 | 95 => 98 | _ => 0
def rc_th8 (j : Nat) : Nat := match j with
  | 8 => 1 | 15 => 2 | 16 => 3 | _ => 0
def rc_thM (σ : rc_M) : rc_M := fun k j => if k = 80 then σ 96 (rc_th8 j) else σ 96 (rc_tho k + j)
def rc_CP (σ : rc_M) (P : rc_P) : Prop := σ 0 = rc_wt ∧ rc_Cls 0 σ (pV P) ∧ (σ 59 1 = nI (pln P) ∧ ∀ j, j < pln P → σ 60 j = nI (ptp P j)) ∧ (σ 2 10 = nI (ptl P) ∧ ∀ j, j < ptl P → σ 76 j = nI (ptd P j)) ∧ (∀ j, j < 7 → σ 77 j = prf P j) ∧ σ 2 2 = rc_bI (pim P) ∧ (pim P = true → rc_Cls 28 σ (pU P))
def rc_srt (k : Nat) : Int32 := if k = 0 then 114 else 103
def rc_kds (k : Nat) : Int32 := match k with
  | 0 => 112 | 1 => 104 | 2 => 116 | 3 => 100 | 4 => 102 | 5 => 115 | _ => 117
def rc_MP (σ : rc_M) (P : rc_P) : Prop := rc_Mod σ (pV P) ∧ (σ 80 24 = nI (pln P) ∧ ∀ j, j < pln P → σ 97 j = nI (ptp P j)) ∧ (σ 80 44 = nI (ptl P) ∧ ∀ j, j < ptl P → σ 110 j = nI (ptd P j)) ∧ (∀ j, j < 7 → σ 81 j = prf P j) ∧ σ 80 19 = rc_bI (pim P) ∧ (pim P = true → rc_Mod (rc_thM σ) (pU P)) ∧ (∀ k, k < 2 → σ 98 k = rc_srt k) ∧ ∀ k, k < 7 → σ 99 k = rc_kds k
def rc_WP (n : Nat) (P : rc_P) : Prop := rc_WF n (pV P) ∧ (pim P = true → rc_WF n (pU P)) ∧ (pln P ≤ 64 ∧ ∀ j, j < pln P → ptp P j ≤ 255) ∧ ptl P ≤ 6 ∧ ∀ j, j < ptl P → ptd P j ≤ 9
def rc_fC (σ σ' : rc_M) : Prop := ∀ k, 80 ≤ k ∨ k = 1 → σ' k = σ k
def rc_fM (σ σ' : rc_M) : Prop := ∀ k, k < 80 → σ' k = σ k
theorem rc_fC.rf {σ : rc_M} : rc_fC σ σ := fun _ _ => rfl
theorem rc_fM.rf {σ : rc_M} : rc_fM σ σ := fun _ _ => rfl
theorem rc_fC.tr {σ σ1 σ2 : rc_M} (h1 : rc_fC σ σ1) (h2 : rc_fC σ1 σ2) : rc_fC σ σ2 := fun k hk => (h2 k hk).trans (h1 k hk)
theorem rc_fM.tr {σ σ1 σ2 : rc_M} (h1 : rc_fM σ σ1) (h2 : rc_fM σ1 σ2) : rc_fM σ σ2 := fun k hk => (h2 k hk).trans (h1 k hk)
theorem rc_fC.up {σ : rc_M} {k : Nat} {f : Nat → Int32} (h : k ≠ 1 ∧ k < 80) : rc_fC σ (rc_up σ k f) := fun k' hk => rc_up_n _ _ (by omega)
theorem rc_fM.up {σ : rc_M} {k : Nat} {f : Nat → Int32} (h : 80 ≤ k) : rc_fM σ (rc_up σ k f) := fun k' hk => rc_up_n _ _ (by omega)
theorem rc_fq.fM {σ σ' : rc_M} (h : rc_fq σ σ') : rc_fM σ σ' := fun k hk => h.at (by omega)
theorem rc_fr.fC {ks : List Nat} {σ σ' : rc_M} (h : rc_fr ks σ σ') (hk : ∀ k, k ∈ ks → k ≠ 1 ∧ k < 80) : rc_fC σ σ' := fun k hk' => h k (fun z => by have := hk k z; omega)
theorem rc_Cls.at {o : Nat} {σ σ' : rc_M} {V : rc_V} (h : rc_Cls o σ V) (ho : V 12 1 ≤ 5) (e : ∀ k, 3 + o ≤ k → k ≤ 30 + o → k ≠ 8 + o → σ' k = σ k) : rc_Cls o σ' V := by
  obtain ⟨h1, h2, h3, h4, h5, h6, h7⟩ := h
  refine ⟨?_, ?_, ?_, ?_, fun i hi => (h5 i hi).fr (e _ (by omega) (by omega) (by omega)) (e _ (by omega) (by omega) (by omega)), fun g hg => (h6 g hg).fr (e _ (by omega) (by omega) (by omega)) (e _ (by omega) (by omega) (by omega)), fun t ht => ?_⟩
  · rw [e _ (by omega) (by omega) (by omega)]; exact h1
  · rw [e _ (by omega) (by omega) (by omega)]; exact h2
  · rw [e _ (by omega) (by omega) (by omega)]; exact h3
  · rw [e _ (by omega) (by omega) (by omega)]; exact h4
  · rw [e _ (by omega) (by omega) (by omega), e _ (by omega) (by omega) (by omega)]; exact h7 t ht
theorem rc_CP.at {n : Nat} {σ σ' : rc_M} {P : rc_P} (h : rc_CP σ P) (hW : rc_WP n P) (e : ∀ k, k ≤ 60 ∨ k = 76 ∨ k = 77 → k ≠ 8 → k ≠ 36 → σ' k = σ k) : rc_CP σ' P := by
  obtain ⟨h1, h2, h3, h4, h5, h6, h7⟩ := h
  refine ⟨?_, h2.at hW.1.2.1 (fun k _ _ _ => e k (by omega) (by omega) (by omega)), ?_, ?_, fun j hj => ?_, ?_, fun hi => (h7 hi).at (hW.2.1 hi).2.1 (fun k _ _ _ => e k (by omega) (by omega) (by omega))⟩
  · rw [e _ (by omega) (by omega) (by omega)]; exact h1
  · rw [e 59 (by omega) (by omega) (by omega), e 60 (by omega) (by omega) (by omega)]; exact h3
  · rw [e 2 (by omega) (by omega) (by omega), e 76 (by omega) (by omega) (by omega)]; exact h4
  · rw [e _ (by omega) (by omega) (by omega)]; exact h5 j hj
  · rw [e _ (by omega) (by omega) (by omega)]; exact h6
theorem rc_CP.fr {n : Nat} {ks : List Nat} {σ σ' : rc_M} {P : rc_P} (h : rc_CP σ P) (hW : rc_WP n P) (hf : rc_fr ks σ σ') (hk : ∀ k, k ∈ ks → k = 8 ∨ k = 36 ∨ (61 ≤ k ∧ k ≤ 75) ∨ 78 ≤ k) : rc_CP σ' P := h.at hW (fun k h1 h2 h3 => hf k (fun z => by have := hk k z; omega))
theorem rc_CP.fM {n : Nat} {σ σ' : rc_M} {P : rc_P} (h : rc_CP σ P) (hW : rc_WP n P) (hf : rc_fM σ σ') : rc_CP σ' P := h.at hW (fun k _ _ _ => hf k (by omega))
theorem rc_MP.fq {σ σ' : rc_M} {P : rc_P} (h : rc_MP σ P) (hf : rc_fq σ σ') : rc_MP σ' P := by
  obtain ⟨h1, h2, h3, h4, h5, h6, h7, h8⟩ := h
  refine ⟨h1.fq hf, ?_, ?_, fun j hj => ?_, ?_, fun hi => ?_, ?_, ?_⟩
  · rw [hf 80 24 (by decide), hf.at (k := 97) (by omega)]; exact h2
  · rw [hf 80 44 (by decide), hf.at (k := 110) (by omega)]; exact h3
  · rw [hf.at (k := 81) (by omega)]; exact h4 j hj
  · rw [hf 80 19 (by decide)]; exact h5
  · have e : rc_thM σ' = rc_thM σ := by funext k j; unfold rc_thM; rw [hf.at (k := 96) (by omega)]
    rw [e]; exact h6 hi
  · rw [hf.at (k := 98) (by omega)]; exact h7
  · rw [hf.at (k := 99) (by omega)]; exact h8
theorem rc_MP.fC {σ σ' : rc_M} {P : rc_P} (h : rc_MP σ P) (hf : rc_fC σ σ') : rc_MP σ' P := by
  have key : rc_MP (fun k => if k < 80 then σ k else σ' k) P := h.fq (fun k j hk => by
    by_cases z : k < 80
    · simp [z]
    · simp [z, hf k (by omega)])
  exact key
theorem rc_CP.CA {n : Nat} {σ : rc_M} {P : rc_P} (h : rc_CP σ P) (hW : rc_WP n P) : rc_CA σ (pV P) := ⟨h.1, h.2.1.2.2.2.2.1, hW.1.2.2.2.2.1, h.2.1.1, hW.1.1⟩
