/-! how many bits are set -/
def rc_pc (m : Nat) : Nat → Nat
  | 0 => 0
  | k + 1 => rc_pc m k + (m.testBit k).toNat
theorem rc_pc8 (m : Nat) : ∀ k, rc_pc m (8 + k) = rc_pc m 8 + rc_pc (m / 256) k := by
  intro k
  induction k with
  | zero => rfl
  | succ k ih =>
    show rc_pc m (8 + k) + (m.testBit (8 + k)).toNat = rc_pc m 8 + (rc_pc (m / 256) k + ((m / 256).testBit k).toNat)
    rw [ih, show (m / 256).testBit k = m.testBit (8 + k) by rw [show 256 = 2 ^ 8 from rfl, Nat.testBit_div_two_pow, Nat.add_comm]]
    omega
theorem rc_pcm (m : Nat) : rc_pc m 8 = rc_pc (m % 256) 8 := by
  have h : ∀ k, k < 8 → m.testBit k = (m % 256).testBit k := fun k hk => by
    rw [show 256 = 2 ^ 8 from rfl, Nat.testBit_mod_two_pow]
    simp [hk]
  have : ∀ k, k ≤ 8 → rc_pc m k = rc_pc (m % 256) k := by
    intro k
    induction k with
    | zero => intro _; rfl
    | succ k ih => intro hk; rw [rc_pc, rc_pc, ih (by omega), h k (by omega)]
  exact this 8 (Nat.le_refl _)
theorem rc_spl {a b c e : Nat} (hb : b < 256) (he : e < 256) : (b + 256 * a) &&& (e + 256 * c) = (b &&& e) + 256 * (a &&& c) := by
  have h1 : ((b + 256 * a) &&& (e + 256 * c)) % 2 ^ 8 = ((b + 256 * a) % 2 ^ 8) &&& ((e + 256 * c) % 2 ^ 8) := Nat.and_mod_two_pow
  have h2 : ((b + 256 * a) &&& (e + 256 * c)) / 2 ^ 8 = ((b + 256 * a) / 2 ^ 8) &&& ((e + 256 * c) / 2 ^ 8) := Nat.and_div_two_pow
  rw [show (b + 256 * a) % 2 ^ 8 = b by omega, show (e + 256 * c) % 2 ^ 8 = e by omega] at h1
  rw [show (b + 256 * a) / 2 ^ 8 = a by omega, show (e + 256 * c) / 2 ^ 8 = c by omega] at h2
  omega
def rc_g1 (b : Nat) : Nat := b - ((b / 2) &&& 85)
def rc_g2 (b : Nat) : Nat := (b &&& 51) + ((b / 4) &&& 51)
def rc_g3 (b : Nat) : Nat := (b + b / 16) &&& 15
theorem rc_fg1 : ∀ b, b < 256 → ∀ r, r < 2 → (b / 2 + 128 * r) &&& 85 = (b / 2) &&& 85 := by decide +kernel
theorem rc_fg2 : ∀ b, b < 256 → ∀ r, r < 4 → (b / 4 + 64 * r) &&& 51 = (b / 4) &&& 51 := by decide +kernel
theorem rc_fg : ∀ b, b < 256 → rc_g1 b < 256 ∧ (rc_g2 (rc_g1 b)) % 16 ≤ 4 ∧ rc_g2 (rc_g1 b) / 16 ≤ 4 ∧ rc_g3 (rc_g2 (rc_g1 b)) = rc_pc b 8 ∧ rc_pc b 8 ≤ 8 := by decide +kernel
theorem rc_fg3 : ∀ b, b < 8 → rc_pc b 8 = rc_pc b 3 := by decide +kernel
theorem rc_s1 {a b M : Nat} (hb : b < 256) : (b + 256 * a) - (((b + 256 * a) / 2) &&& (85 + 256 * M)) = rc_g1 b + 256 * (a - ((a / 2) &&& M)) := by
  rw [show (b + 256 * a) / 2 = (b / 2 + 128 * (a % 2)) + 256 * (a / 2) by omega, rc_spl (by omega) (by omega), rc_fg1 b hb _ (by omega)]
  have h1 : (b / 2) &&& 85 ≤ b / 2 := Nat.and_le_left
  have h2 : (a / 2) &&& M ≤ a / 2 := Nat.and_le_left
  unfold rc_g1
  omega
theorem rc_s2 {a b M : Nat} (hb : b < 256) : ((b + 256 * a) &&& (51 + 256 * M)) + (((b + 256 * a) / 4) &&& (51 + 256 * M)) = rc_g2 b + 256 * ((a &&& M) + ((a / 4) &&& M)) := by
  rw [show (b + 256 * a) / 4 = (b / 4 + 64 * (a % 4)) + 256 * (a / 4) by omega, rc_spl (by omega) (by omega), rc_spl (by omega) (by omega), rc_fg2 b hb _ (by omega)]
  unfold rc_g2
  omega
theorem rc_s3 {a b M : Nat} (hb1 : b % 16 ≤ 4) (hb2 : b / 16 ≤ 4) (ha : a % 16 ≤ 4) : ((b + 256 * a) + (b + 256 * a) / 16) &&& (15 + 256 * M) = rc_g3 b + 256 * ((a + a / 16) &&& M) := by
  rw [show (b + 256 * a) + (b + 256 * a) / 16 = (b + b / 16 + 16 * (a % 16)) + 256 * (a + a / 16) by omega, rc_spl (by omega) (by omega)]
  unfold rc_g3
  have h1 : ∀ y, y &&& 15 = y % 16 := fun y => Nat.and_two_pow_sub_one_eq_mod y 4
  rw [h1, h1]
  omega
def rc_bcN (x : Nat) : Nat :=
  let a := x - ((x / 2) &&& 1431655765)
  let b := (a &&& 858993459) + ((a / 4) &&& 858993459)
  let c := (b + b / 16) &&& 252645135
  let e := c + c / 256
  (e + e / 65536) &&& 63
theorem rc_bcN_4 {b0 b1 b2 b3 : Nat} (h0 : b0 < 256) (h1 : b1 < 256) (h2 : b2 < 256) (h3 : b3 < 256) : rc_bcN (b0 + 256 * (b1 + 256 * (b2 + 256 * b3))) = rc_pc b0 8 + rc_pc b1 8 + rc_pc b2 8 + rc_pc b3 8 := by
  obtain ⟨p0, q0, r0, s0, t0⟩ := rc_fg b0 h0
  obtain ⟨p1, q1, r1, s1, t1⟩ := rc_fg b1 h1
  obtain ⟨p2, q2, r2, s2, t2⟩ := rc_fg b2 h2
  obtain ⟨p3, q3, r3, s3, t3⟩ := rc_fg b3 h3
  have e1 : (b0 + 256 * (b1 + 256 * (b2 + 256 * b3))) - (((b0 + 256 * (b1 + 256 * (b2 + 256 * b3))) / 2) &&& 1431655765) = rc_g1 b0 + 256 * (rc_g1 b1 + 256 * (rc_g1 b2 + 256 * rc_g1 b3)) := by
    rw [show 1431655765 = 85 + 256 * (85 + 256 * (85 + 256 * 85)) from rfl, rc_s1 h0, rc_s1 h1, rc_s1 h2]
    rfl
  have e2 : ((rc_g1 b0 + 256 * (rc_g1 b1 + 256 * (rc_g1 b2 + 256 * rc_g1 b3))) &&& 858993459) + (((rc_g1 b0 + 256 * (rc_g1 b1 + 256 * (rc_g1 b2 + 256 * rc_g1 b3))) / 4) &&& 858993459) = rc_g2 (rc_g1 b0) + 256 * (rc_g2 (rc_g1 b1) + 256 * (rc_g2 (rc_g1 b2) + 256 * rc_g2 (rc_g1 b3))) := by
    rw [show 858993459 = 51 + 256 * (51 + 256 * (51 + 256 * 51)) from rfl, rc_s2 p0, rc_s2 p1, rc_s2 p2]
    rfl
  have e3 : ((rc_g2 (rc_g1 b0) + 256 * (rc_g2 (rc_g1 b1) + 256 * (rc_g2 (rc_g1 b2) + 256 * rc_g2 (rc_g1 b3)))) + (rc_g2 (rc_g1 b0) + 256 * (rc_g2 (rc_g1 b1) + 256 * (rc_g2 (rc_g1 b2) + 256 * rc_g2 (rc_g1 b3)))) / 16) &&& 252645135 = rc_pc b0 8 + 256 * (rc_pc b1 8 + 256 * (rc_pc b2 8 + 256 * rc_pc b3 8)) := by
    rw [show 252645135 = 15 + 256 * (15 + 256 * (15 + 256 * 15)) from rfl, rc_s3 q0 r0 (by omega), rc_s3 q1 r1 (by omega), rc_s3 q2 r2 (by omega), s0, s1, s2]
    show _ + 256 * (_ + 256 * (_ + 256 * rc_g3 (rc_g2 (rc_g1 b3)))) = _
    rw [s3]
  unfold rc_bcN
  dsimp only
  rw [e1, e2, e3]
  have h6 : ∀ y, y &&& 63 = y % 64 := fun y => Nat.and_two_pow_sub_one_eq_mod y 6
  rw [h6]
  generalize rc_pc b0 8 = a0 at *
  generalize rc_pc b1 8 = a1 at *
  generalize rc_pc b2 8 = a2 at *
  generalize rc_pc b3 8 = a3 at *
  clear e1 e2 e3 p0 q0 r0 p1 q1 r1 p2 q2 r2 p3 q3 r3 s0 s1 s2 s3 h0 h1 h2 h3
  have w1 : (a0 + 256 * (a1 + 256 * (a2 + 256 * a3))) / 256 = a1 + 256 * (a2 + 256 * a3) := by omega
  rw [w1]
  have w2 : (a0 + 256 * (a1 + 256 * (a2 + 256 * a3)) + (a1 + 256 * (a2 + 256 * a3))) / 65536 = a2 + a3 + 256 * a3 := by omega
  rw [w2]
  omega
theorem rc_bcN_pc {m : Nat} (hm : m < 2 ^ 27) : rc_bcN m = rc_pc m 27 := by
  have e : m = m % 256 + 256 * (m / 256 % 256 + 256 * (m / 256 / 256 % 256 + 256 * (m / 256 / 256 / 256))) := by omega
  have h3 : m / 256 / 256 / 256 < 8 := by omega
  have e1 : rc_pc m 27 = rc_pc (m % 256) 8 + rc_pc (m / 256 % 256) 8 + rc_pc (m / 256 / 256 % 256) 8 + rc_pc (m / 256 / 256 / 256) 8 := by
    rw [show 27 = 8 + 19 from rfl, rc_pc8, show 19 = 8 + 11 from rfl, rc_pc8, show 11 = 8 + 3 from rfl, rc_pc8, rc_pcm m, rc_pcm (m / 256), rc_pcm (m / 256 / 256), rc_fg3 _ h3]
    omega
  rw [e1]
  have key := rc_bcN_4 (b0 := m % 256) (b1 := m / 256 % 256) (b2 := m / 256 / 256 % 256) (b3 := m / 256 / 256 / 256) (by omega) (by omega) (by omega) (by omega)
  rw [← e] at key
  exact key
def rc_us (x k : Int32) : Int32 := (x.toUInt32 >>> (k.toUInt32 &&& Int32.toUInt32 31)).toInt32
theorem rc_us_n {x k : Nat} (h : x < 2 ^ 32) (hk : k < 32) : rc_us (nI x) (nI k) = nI (x / 2 ^ k) := by
  unfold rc_us
  apply Int32.toBitVec_inj.1
  apply BitVec.eq_of_toNat_eq
  have e1 : ((nI k).toUInt32 &&& Int32.toUInt32 31).toNat = k := by
    have : ∀ k, k < 32 → ((nI k).toUInt32 &&& Int32.toUInt32 31).toNat = k := by decide +kernel
    exact this k hk
  show ((nI x).toUInt32 >>> ((nI k).toUInt32 &&& Int32.toUInt32 31)).toNat = (BitVec.ofNat 32 (x / 2 ^ k)).toNat
  rw [UInt32.toNat_shiftRight, e1, Nat.mod_eq_of_lt hk, Nat.shiftRight_eq_div_pow, BitVec.toNat_ofNat]
  have e2 : ((nI x).toUInt32).toNat = x := by
    show (BitVec.ofNat 32 x).toNat = x
    rw [BitVec.toNat_ofNat]
    exact Nat.mod_eq_of_lt h
  rw [e2, Nat.mod_eq_of_lt]
  exact Nat.lt_of_le_of_lt (Nat.div_le_self _ _) h
def rc_bcI (i : Int32) : Int32 :=
  let a := i - (rc_us i 1 &&& 1431655765)
  let b := (a &&& 858993459) + (rc_us a 2 &&& 858993459)
  let c := (b + rc_us b 4) &&& 252645135
  let e := c + rc_us c 8
  (e + rc_us e 16) &&& 63
theorem rc_subN {a b : Nat} (h : b ≤ a) : nI a - nI b = nI (a - b) := by
  rw [show nI a = nI (a - b + b) by rw [Nat.sub_add_cancel h], rc_asub]
theorem rc_bcI_N {x : Nat} (h : x < 2 ^ 31) : rc_bcI (nI x) = nI (rc_bcN x) := by
  have k1 : ∀ y, (y &&& 1431655765) ≤ 1431655765 := fun y => Nat.and_le_right
  have k2 : ∀ y, (y &&& 858993459) ≤ 858993459 := fun y => Nat.and_le_right
  have k3 : ∀ y, (y &&& 252645135) ≤ 252645135 := fun y => Nat.and_le_right
  have a1 : nI x - (rc_us (nI x) 1 &&& 1431655765) = nI (x - ((x / 2) &&& 1431655765)) := by
    rw [show rc_us (nI x) 1 = nI (x / 2 ^ 1) from rc_us_n (k := 1) (by omega) (by decide), show (1431655765 : Int32) = nI 1431655765 from rfl, fa_and, rc_subN (Nat.le_trans Nat.and_le_left (by omega))]
  have hb : x - ((x / 2) &&& 1431655765) < 2 ^ 31 := by omega
  unfold rc_bcI rc_bcN
  dsimp only
  rw [a1]
  generalize x - ((x / 2) &&& 1431655765) = a at *
  have a2 : (nI a &&& 858993459) + (rc_us (nI a) 2 &&& 858993459) = nI ((a &&& 858993459) + ((a / 4) &&& 858993459)) := by
    rw [show rc_us (nI a) 2 = nI (a / 2 ^ 2) from rc_us_n (k := 2) (by omega) (by decide), show (858993459 : Int32) = nI 858993459 from rfl, fa_and, fa_and, nI_add]
  rw [a2]
  have hc : (a &&& 858993459) + ((a / 4) &&& 858993459) < 2 ^ 31 := by
    have := k2 a
    have := k2 (a / 4)
    omega
  generalize (a &&& 858993459) + ((a / 4) &&& 858993459) = b at *
  have a3 : (nI b + rc_us (nI b) 4) &&& 252645135 = nI ((b + b / 16) &&& 252645135) := by
    rw [show rc_us (nI b) 4 = nI (b / 2 ^ 4) from rc_us_n (k := 4) (by omega) (by decide), show (252645135 : Int32) = nI 252645135 from rfl, nI_add, fa_and]
  rw [a3]
  have hd := k3 (b + b / 16)
  generalize (b + b / 16) &&& 252645135 = c at *
  have a4 : nI c + rc_us (nI c) 8 = nI (c + c / 256) := by
    rw [show rc_us (nI c) 8 = nI (c / 2 ^ 8) from rc_us_n (k := 8) (by omega) (by decide), nI_add]
  rw [a4]
  have he : c + c / 256 < 2 ^ 31 := by omega
  generalize c + c / 256 = e at *
  rw [show rc_us (nI e) 16 = nI (e / 2 ^ 16) from rc_us_n (k := 16) (by omega) (by decide), show (63 : Int32) = nI 63 from rfl, nI_add, fa_and]
theorem c_bitCount {d : Nat} {σ : rc_M} {Q : Int32 → rc_M → Prop} {x : Int32} {m : Nat} (hx : x = nI m) (hm : m < 2 ^ 27) (h : Q (nI (rc_pc m 27)) σ) : rc_TI d 185 [.int x] σ Q := by
  subst hx
  rw [← rc_bcN_pc hm, ← rc_bcI_N (by omega)] at h
  exact rc_go 80 ⟨_, rfl, h⟩
