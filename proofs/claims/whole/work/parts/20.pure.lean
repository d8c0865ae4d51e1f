/-! numbers: a state's marks, what a night makes; 0 is none, k + 1 is k, in codes -/
def rc_cI : Nat → Int32
  | 0 => -9
  | n + 1 => nI n
def rc_mk (s m : Nat) : Nat := s / 3 ^ m % 3
def rc_sv (s m v : Nat) : Nat := s + v * 3 ^ m - rc_mk s m * 3 ^ m
theorem rc_mk_lt (s m : Nat) : rc_mk s m < 3 := Nat.mod_lt _ (by decide)
def rc_pl (mk : Nat) (tb : Nat → Nat) (s : Nat) : Nat := rc_sv s mk (tb (rc_mk s mk))
def rc_nt (kd mk : Nat) (tb : Nat → Nat) (s n heir mate und : Nat) : Nat := match kd with
  | 1 => match heir with
    | 0 => rc_pl mk tb s
    | h + 1 => rc_sv s mk (rc_mk h mk)
  | 2 => match mate with
    | 0 => rc_pl mk tb s
    | h + 1 => rc_sv s mk (rc_mk h mk)
  | 3 => if n % 2 = 1 then rc_pl mk tb s else s
  | 4 => s
  | 5 => rc_sv (rc_sv s mk (rc_mk s ((mk + 1) % 3))) ((mk + 1) % 3) (rc_mk s mk)
  | 6 => match und with
    | 0 => rc_pl mk tb s
    | u + 1 => u
  | _ => rc_pl mk tb s
theorem rc_f1 : ∀ s, s < 27 → ∀ m, m < 3 → (if nI m = 0 then nI s - nI s / 3 * 3 else if nI m = 1 then nI s / 3 - nI s / 3 / 3 * 3 else nI s / 9) = nI (rc_mk s m) := by decide +kernel
theorem rc_f2 : ∀ s, s < 27 → ∀ m, m < 3 → nI s / rc_wt m - nI s / rc_wt m / 3 * 3 = nI (rc_mk s m) := by decide +kernel
theorem rc_f3 : ∀ s, s < 27 → ∀ m, m < 3 → ∀ v, v < 3 → nI s + (nI v - nI (rc_mk s m)) * rc_wt m = nI (rc_sv s m v) := by decide +kernel
theorem rc_f4 : ∀ s, s < 27 → ∀ m, m < 3 → ∀ v, v < 3 → rc_sv s m v < 27 := by decide +kernel
theorem rc_f5 : ∀ s, s < 27 → ∀ m, m < 3 → nI s + (nI (rc_mk s ((m + 1) % 3)) - nI (rc_mk s m)) * (rc_wt m - rc_wt ((m + 1) % 3)) = nI (rc_sv (rc_sv s m (rc_mk s ((m + 1) % 3))) ((m + 1) % 3) (rc_mk s m)) := by decide +kernel
theorem rc_f6 : ∀ m, m < 3 → (nI m + 1 - (nI m + 1) / 3 * 3) = nI ((m + 1) % 3) := by decide +kernel
theorem rc_wt_ne : ∀ m, m < 3 → ¬ rc_wt m = 0 := by decide +kernel
theorem rc_pl_lt {mk s : Nat} {tb : Nat → Nat} (hs : s < 27) (hm : mk < 3) (ht : ∀ v, v < 3 → tb v < 3) : rc_pl mk tb s < 27 := rc_f4 s hs mk hm _ (ht _ (rc_mk_lt _ _))
theorem rc_nt_lt {kd mk s n heir mate und : Nat} {tb : Nat → Nat} (hs : s < 27) (hm : mk < 3) (ht : ∀ v, v < 3 → tb v < 3) (hu : und ≤ 27) : rc_nt kd mk tb s n heir mate und < 27 := by
  unfold rc_nt
  split
  · split
    · exact rc_pl_lt hs hm ht
    · exact rc_f4 s hs mk hm _ (rc_mk_lt _ _)
  · split
    · exact rc_pl_lt hs hm ht
    · exact rc_f4 s hs mk hm _ (rc_mk_lt _ _)
  · split
    · exact rc_pl_lt hs hm ht
    · exact hs
  · exact hs
  · exact rc_f4 _ (rc_f4 s hs mk hm _ (rc_mk_lt _ _)) _ (Nat.mod_lt _ (by decide)) _ (rc_mk_lt _ _)
  · split
    · exact rc_pl_lt hs hm ht
    · omega
  · exact rc_pl_lt hs hm ht
theorem rc_cI_neg {c : Nat} (hc : c < 1000) : 0 ≤ rc_cI c ↔ c ≠ 0 := by
  cases c with
  | zero => simp [rc_cI]
  | succ n => exact ⟨fun _ => Nat.succ_ne_zero n, fun _ => nI_pos' (by omega)⟩
theorem rc_cI_ltz {c : Nat} (hc : c < 1000) : rc_cI c < 0 ↔ c = 0 := by
  cases c with
  | zero => simp [rc_cI]
  | succ n => exact ⟨fun h => absurd h (nI_pos (by omega)), fun h => by cases h⟩
theorem rc_cI_inj {a b : Nat} (ha : a < 1000) (hb : b < 1000) : rc_cI a = rc_cI b ↔ a = b := by
  cases a with
  | zero =>
    cases b with
    | zero => simp
    | succ b =>
      refine ⟨fun h => ?_, fun h => by cases h⟩
      have h1 : rc_cI 0 < 0 := by decide
      rw [h] at h1
      exact absurd h1 (nI_pos (by omega))
  | succ a =>
    cases b with
    | zero =>
      refine ⟨fun h => ?_, fun h => by cases h⟩
      have h1 : rc_cI 0 < 0 := by decide
      rw [← h] at h1
      exact absurd h1 (nI_pos (by omega))
    | succ b =>
      refine ⟨fun h => ?_, fun h => by rw [h]⟩
      have h1 := (nI_eq (by omega) (by omega)).mp (show nI a = nI b from h)
      omega
/-! small laws of the memory -/
theorem rc_uu (σ : rc_M) (k : Nat) (f g : Nat → Int32) : rc_up (rc_up σ k f) k g = rc_up σ k g := by
  funext k'
  unfold rc_up
  by_cases h : k' = k <;> simp [h]
theorem rc_ux (σ : rc_M) {k k2 : Nat} (f g : Nat → Int32) (h : k ≠ k2) : rc_up (rc_up σ k f) k2 g = rc_up (rc_up σ k2 g) k f := by
  funext k'
  unfold rc_up
  by_cases h1 : k' = k
  · subst h1; simp [h]
  · simp [h1]
theorem rc_ui (σ : rc_M) (k : Nat) : rc_up σ k (σ k) = σ := by
  funext k'
  unfold rc_up
  by_cases h : k' = k
  · subst h; simp
  · simp [h]
theorem rc_vi {i n : Nat} (h : i < n) (hn : n ≤ 2000) : vp_in (nI i) n := vp_in_nI h (by omega)
theorem rc_ci {i : Nat} (h : i ≤ 2000) : (nI i).toNatClampNeg = i := nI_clamp (by omega)
theorem rc_pred {n : Nat} (h : 0 < n) : nI n - 1 = nI (n - 1) := by
  obtain ⟨k, rfl⟩ : ∃ k, n = k + 1 := ⟨n - 1, by omega⟩
  exact nI_pred k
theorem rc_dec1 {n : Nat} : nI (n + 1) + (-1) = nI n := pk_m1 n
theorem rc_nneg : nI 0 - 1 < 0 := by decide
