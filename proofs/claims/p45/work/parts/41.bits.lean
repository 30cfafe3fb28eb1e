/-! ===== Long.bitCount ===== -/
theorem l_shl : ∀ k, k < 41 → lN 1 <<< ((nI k).toInt64 &&& 63) = lN (2 ^ k) := by decide +kernel
theorem l_or {a b : Nat} (ha : a < 9223372036854775808) (hb : b < 9223372036854775808) : lN a ||| lN b = lN (a ||| b) := by
  apply Int64.toBitVec_inj.mp
  apply BitVec.eq_of_toNat_eq
  rw [Int64.toBitVec_or, BitVec.toNat_or, l_nat ha, l_nat hb, l_nat]
  exact Nat.or_lt_two_pow (n := 63) ha hb
theorem l_63 : ∀ t, t < 63 → (((nI t).toInt64 &&& 63).toBitVec.smod 64).toNat = t := by decide +kernel
theorem l_shr {s t : Nat} (hs : s < 9223372036854775808) (ht : t < 63) : lN s >>> ((nI t).toInt64 &&& 63) = lN (s / 2 ^ t) := by
  have hd : s / 2 ^ t ≤ s := Nat.div_le_self _ _
  apply Int64.toInt_inj.mp
  have e : (lN s >>> ((nI t).toInt64 &&& 63)).toInt = (lN s).toInt >>> ((((nI t).toInt64 &&& 63).toBitVec.smod 64).toNat) := BitVec.toInt_sshiftRight ..
  rw [e, l_63 t ht, Int.shiftRight_eq_div_pow, pk_lT hs, pk_lT (by omega)]
  rfl
theorem l_64 : ∀ k, k < 64 → (((nI k).toInt64.toUInt64 &&& Int64.toUInt64 63)).toNat % 64 = k := by decide +kernel
theorem l_ushr {n k : Nat} (hn : n < 9223372036854775808) (hk : k < 64) : ((lN n).toUInt64 >>> ((nI k).toInt64.toUInt64 &&& Int64.toUInt64 63)).toInt64 = lN (n / 2 ^ k) := by
  have hd : n / 2 ^ k ≤ n := Nat.div_le_self _ _
  apply Int64.toBitVec_inj.mp
  apply BitVec.eq_of_toNat_eq
  have h2 : (lN n).toUInt64.toNat = n := l_nat hn
  have h3 : ((lN n).toUInt64 >>> ((nI k).toInt64.toUInt64 &&& Int64.toUInt64 63)).toNat = n / 2 ^ k := by
    rw [UInt64.toNat_shiftRight, l_64 k hk, h2, Nat.shiftRight_eq_div_pow]
  rw [l_nat (by omega)]
  exact h3
theorem nI_and127 (n : Nat) : nI n &&& nI 127 = nI (n % 128) := by
  apply Int32.toBitVec_inj.mp
  apply BitVec.eq_of_toNat_eq
  have e : (nI n).toBitVec.toNat = n % 4294967296 := by
    show (BitVec.ofNat 32 n).toNat = _
    rw [BitVec.toNat_ofNat]
  have h1 := Nat.mod_lt n (show 0 < 128 by decide)
  rw [Int32.toBitVec_and, BitVec.toNat_and, e, z_tn (by decide), z_tn (by omega)]
  have := Nat.and_two_pow_sub_one_eq_mod (n % 4294967296) 7
  have h2 : n % 4294967296 % 128 = n % 128 := by omega
  exact this.trans h2
theorem and_lane {A B e d : Nat} (he : e < 256) (hd : d < 256) : (256 * A + e) &&& (256 * B + d) = 256 * (A &&& B) + (e &&& d) := by
  have h1 : (e &&& d) < 256 := Nat.lt_of_le_of_lt Nat.and_le_left he
  apply Nat.eq_of_testBit_eq
  intro i
  have p := fun a b (h : b < 2 ^ 8) => Nat.testBit_two_pow_mul_add a h i
  rw [Nat.testBit_and]
  have e1 := p A e he
  have e2 := p B d hd
  have e3 := p (A &&& B) (e &&& d) h1
  have e4 : (2 : Nat) ^ 8 = 256 := by decide
  rw [e4] at e1 e2 e3
  rw [e1, e2, e3]
  split
  · rw [Nat.testBit_and]
  · rw [Nat.testBit_and]
def mk (d : Nat) : Nat → Nat
  | 0 => 0
  | k + 1 => 256 * mk d k + d
def y1 (k a : Nat) : Nat := a - ((a / 2) &&& mk 85 k)
def y2 (k a : Nat) : Nat := (y1 k a &&& mk 51 k) + ((y1 k a / 4) &&& mk 51 k)
def y3 (k a : Nat) : Nat := (y2 k a + y2 k a / 16) &&& mk 15 k
def c1 (c : Nat) : Nat := c - ((c / 2) &&& 85)
def c2 (c : Nat) : Nat := (c1 c &&& 51) + ((c1 c / 4) &&& 51)
def pc8 (c : Nat) : Nat := sumN (fun p => c / 2 ^ p % 2) 8
theorem y_d1 : ∀ j, j < 2 → ∀ c, c < 256 → (128 * j + c / 2) &&& 85 = (c / 2) &&& 85 := by decide +kernel
theorem y_d1b : ∀ c, c < 256 → (c / 2) &&& 85 ≤ c := by decide +kernel
theorem y_d2 : ∀ j, j < 4 → ∀ z, z < 256 → (64 * j + z / 4) &&& 51 = (z / 4) &&& 51 := by decide +kernel
theorem y_d2b : ∀ c, c < 256 → c1 c < 256 ∧ c2 c < 256 ∧ c2 c % 16 ≤ 4 := by decide +kernel
theorem y_d3 : ∀ j, j < 5 → ∀ c, c < 256 → ((c2 c + 16 * j + c2 c / 16) &&& 15 = pc8 c ∧ c2 c + 16 * j + c2 c / 16 < 256) := by decide +kernel
theorem y_d4 : ∀ c, c < 256 → pc8 c ≤ 8 := by decide +kernel
theorem y1_s {k q c : Nat} (hc : c < 256) : y1 (k + 1) (256 * q + c) = 256 * y1 k q + c1 c := by
  have hY : (q / 2) &&& mk 85 k ≤ q / 2 := Nat.and_le_left
  have hz := y_d1b c hc
  unfold y1
  rw [show (256 * q + c) / 2 = 256 * (q / 2) + (128 * (q % 2) + c / 2) by omega]
  show 256 * q + c - ((256 * (q / 2) + (128 * (q % 2) + c / 2)) &&& (256 * mk 85 k + 85)) = _
  rw [and_lane (by omega) (by decide), y_d1 (q % 2) (by omega) c hc]
  unfold c1
  omega
theorem y2_s {k q c : Nat} (hc : c < 256) : y2 (k + 1) (256 * q + c) = 256 * y2 k q + c2 c := by
  have hb := y_d2b c hc
  unfold y2
  rw [y1_s hc, show (256 * y1 k q + c1 c) / 4 = 256 * (y1 k q / 4) + (64 * (y1 k q % 4) + c1 c / 4) by omega]
  show ((256 * y1 k q + c1 c) &&& (256 * mk 51 k + 51)) + ((256 * (y1 k q / 4) + (64 * (y1 k q % 4) + c1 c / 4)) &&& (256 * mk 51 k + 51)) = _
  rw [and_lane hb.1 (by decide), and_lane (by omega) (by decide), y_d2 (y1 k q % 4) (by omega) (c1 c) hb.1]
  unfold c2
  omega
theorem y2_16 (k q : Nat) : y2 k q % 16 ≤ 4 := by
  cases k with
  | zero => unfold y2 mk; simp
  | succ k =>
    have hc := Nat.mod_lt q (show 0 < 256 by decide)
    have hb := y_d2b (q % 256) hc
    have e := y2_s (k := k) (q := q / 256) hc
    rw [Nat.div_add_mod] at e
    rw [e]
    omega
theorem y3_s {k q c : Nat} (hc : c < 256) : y3 (k + 1) (256 * q + c) = 256 * y3 k q + pc8 c := by
  have h16 := y2_16 k q
  have hb := y_d3 (y2 k q % 16) (by omega) c hc
  unfold y3
  rw [y2_s hc, show 256 * y2 k q + c2 c + (256 * y2 k q + c2 c) / 16 = 256 * (y2 k q + y2 k q / 16) + (c2 c + 16 * (y2 k q % 16) + c2 c / 16) by
    have := (y_d2b c hc).2.1
    omega]
  show (256 * (y2 k q + y2 k q / 16) + (c2 c + 16 * (y2 k q % 16) + c2 c / 16)) &&& (256 * mk 15 k + 15) = _
  rw [and_lane hb.2 (by decide), hb.1]
theorem y3_d (k a : Nat) : y3 (k + 1) a = 256 * y3 k (a / 256) + pc8 (a % 256) := by
  have := y3_s (k := k) (q := a / 256) (Nat.mod_lt a (show 0 < 256 by decide))
  rw [Nat.div_add_mod] at this
  exact this
theorem sumN_split {f : Nat → Nat} (n : Nat) : ∀ m, sumN f (n + m) = sumN f n + sumN (fun p => f (n + p)) m := by
  intro m
  induction m with
  | zero => rfl
  | succ m ih => show sumN f (n + m) + f (n + m) = _ + (sumN (fun p => f (n + p)) m + f (n + m)); rw [ih]; omega
theorem pc8_at (a i : Nat) : pc8 (a / 2 ^ i % 256) = sumN (fun p => a / 2 ^ (i + p) % 2) 8 := by
  unfold pc8
  refine sumN_congr 8 (fun p hp => ?_)
  rw [bitV, bitV]
  have e : (a / 2 ^ i % 256).testBit p = a.testBit (i + p) := by
    have h1 := Nat.testBit_mod_two_pow (a / 2 ^ i) 8 p
    rw [show (2 : Nat) ^ 8 = 256 by decide] at h1
    rw [h1, decide_eq_true hp, Bool.true_and, Nat.testBit_div_two_pow, Nat.add_comm]
  rw [e]
theorem J_longs {a : Nat} {μ : Mem} {Q : Int32 → Prop} (ha : a < 281474976710656) (h : Q (nI (sumN (fun p => a / 2 ^ p % 2) 48))) : w_J13_bitCount_95d88 (lN a) μ Q := by
  have m85 : mk 85 8 = 6148914691236517205 := by decide
  have m51 : mk 51 8 = 3689348814741910323 := by decide
  have m15 : mk 15 8 = 1085102592571150095 := by decide
  have hy : (a / 2) &&& mk 85 8 ≤ a / 2 := Nat.and_le_left
  have b1 : y1 8 a ≤ a := by unfold y1; omega
  have b2a : y1 8 a &&& mk 51 8 ≤ y1 8 a := Nat.and_le_left
  have b2b : (y1 8 a / 4) &&& mk 51 8 ≤ y1 8 a / 4 := Nat.and_le_left
  have b2 : y2 8 a ≤ 2 * a := by unfold y2; omega
  have b3 : y3 8 a ≤ y2 8 a + y2 8 a / 16 := Nat.and_le_left
  unfold w_J13_bitCount_95d88
  intro x1 e1 x2 e2 x3 e3 x4 e4 x5 e5 x6 e6 x7 e7 x8 e8 x9 e9 x10 e10 x11 e11 x12 e12
  rw [l_ushr (by omega) (by decide)] at e1
  rw [e1, ← m85, l_and (by omega) (by rw [m85]; decide), lN_sub (by show (a / 2) &&& mk 85 8 ≤ a; omega)] at e2
  have e2' : x2 = lN (y1 8 a) := e2
  rw [e2', l_ushr (by omega) (by decide)] at e3
  rw [e2', e3, ← m51, l_and (by omega) (by rw [m51]; decide), l_and (by omega) (by rw [m51]; decide), lN_add] at e4
  have e4' : x4 = lN (y2 8 a) := e4
  rw [e4', l_ushr (by omega) (by decide)] at e5
  rw [e4', e5, lN_add, ← m15, l_and (by omega) (by rw [m15]; decide)] at e6
  have e6' : x6 = lN (y3 8 a) := e6
  rw [e6', l_ushr (by omega) (by decide)] at e7
  rw [e6', e7, lN_add] at e8
  rw [e8, l_ushr (by omega) (by decide)] at e9
  rw [e8, e9, lN_add] at e10
  rw [e10, l_ushr (by omega) (by decide)] at e11
  rw [e10, e11, lN_add] at e12
  rw [e12, lN_i, nI_and127]
  have s0 := sumN_split (f := fun p => a / 2 ^ p % 2) 40 8
  have s1 := sumN_split (f := fun p => a / 2 ^ p % 2) 32 8
  have s2 := sumN_split (f := fun p => a / 2 ^ p % 2) 24 8
  have s3 := sumN_split (f := fun p => a / 2 ^ p % 2) 16 8
  have s4 := sumN_split (f := fun p => a / 2 ^ p % 2) 8 8
  have q0 := pc8_at a 0
  have q1 := pc8_at a 8
  have q2 := pc8_at a 16
  have q3 := pc8_at a 24
  have q4 := pc8_at a 32
  have q5 := pc8_at a 40
  simp only [Nat.zero_add] at q0
  have d8 := fun x => y_d4 (x % 256) (Nat.mod_lt x (show 0 < 256 by decide))
  have hz : y3 2 (a / 256 / 256 / 256 / 256 / 256 / 256) = 0 := by
    rw [show a / 256 / 256 / 256 / 256 / 256 / 256 = 0 by omega]; decide
  have ey : y3 8 a = 256 * (256 * (256 * (256 * (256 * pc8 (a / 256 / 256 / 256 / 256 / 256 % 256) + pc8 (a / 256 / 256 / 256 / 256 % 256)) + pc8 (a / 256 / 256 / 256 % 256)) + pc8 (a / 256 / 256 % 256)) + pc8 (a / 256 % 256)) + pc8 (a % 256) := by
    rw [y3_d 7, y3_d 6, y3_d 5, y3_d 4, y3_d 3, y3_d 2, hz, Nat.mul_zero, Nat.zero_add]
  have k0 := d8 a
  have k1 := d8 (a / 256)
  have k2 := d8 (a / 256 / 256)
  have k3 := d8 (a / 256 / 256 / 256)
  have k4 := d8 (a / 256 / 256 / 256 / 256)
  have k5 := d8 (a / 256 / 256 / 256 / 256 / 256)
  have r0 : a / 2 ^ 0 % 256 = a % 256 := by simp
  have r1 : a / 2 ^ 8 = a / 256 := rfl
  have r2 : a / 2 ^ 16 = a / 256 / 256 := by rw [show (2 : Nat) ^ 16 = 256 * 256 by decide, ← Nat.div_div_eq_div_mul]
  have r3 : a / 2 ^ 24 = a / 256 / 256 / 256 := by rw [show (2 : Nat) ^ 24 = 256 * 256 * 256 by decide, ← Nat.div_div_eq_div_mul, ← Nat.div_div_eq_div_mul]
  have r4 : a / 2 ^ 32 = a / 256 / 256 / 256 / 256 := by rw [show (2 : Nat) ^ 32 = 256 * 256 * 256 * 256 by decide, ← Nat.div_div_eq_div_mul, ← Nat.div_div_eq_div_mul, ← Nat.div_div_eq_div_mul]
  have r5 : a / 2 ^ 40 = a / 256 / 256 / 256 / 256 / 256 := by rw [show (2 : Nat) ^ 40 = 256 * 256 * 256 * 256 * 256 by decide, ← Nat.div_div_eq_div_mul, ← Nat.div_div_eq_div_mul, ← Nat.div_div_eq_div_mul, ← Nat.div_div_eq_div_mul]
  rw [r0] at q0
  rw [r1] at q1
  rw [r2] at q2
  rw [r3] at q3
  rw [r4] at q4
  rw [r5] at q5
  have tot : sumN (fun p => a / 2 ^ p % 2) 48 = pc8 (a % 256) + pc8 (a / 256 % 256) + pc8 (a / 256 / 256 % 256) + pc8 (a / 256 / 256 / 256 % 256) + pc8 (a / 256 / 256 / 256 / 256 % 256) + pc8 (a / 256 / 256 / 256 / 256 / 256 % 256) := by
    rw [s0, s1, s2, s3, s4, q0, q1, q2, q3, q4, q5]
  rw [tot] at h
  generalize pc8 (a % 256) = p0 at *
  generalize pc8 (a / 256 % 256) = p1 at *
  generalize pc8 (a / 256 / 256 % 256) = p2 at *
  generalize pc8 (a / 256 / 256 / 256 % 256) = p3 at *
  generalize pc8 (a / 256 / 256 / 256 / 256 % 256) = p4 at *
  generalize pc8 (a / 256 / 256 / 256 / 256 / 256 % 256) = p5 at *
  rw [ey]
  have f1 : (256 * (256 * (256 * (256 * (256 * p5 + p4) + p3) + p2) + p1) + p0) / 2 ^ 8 = 256 * (256 * (256 * (256 * p5 + p4) + p3) + p2) + p1 := by
    show _ / 256 = _
    omega
  rw [f1]
  have f2 : (256 * (256 * (256 * (256 * (256 * p5 + p4) + p3) + p2) + p1) + p0 + (256 * (256 * (256 * (256 * p5 + p4) + p3) + p2) + p1)) / 2 ^ 16 = 256 * (256 * (256 * p5 + (p4 + p5)) + (p3 + p4)) + (p2 + p3) := by
    show _ / 65536 = _
    omega
  rw [f2]
  have f3 : (256 * (256 * (256 * (256 * (256 * p5 + p4) + p3) + p2) + p1) + p0 + (256 * (256 * (256 * (256 * p5 + p4) + p3) + p2) + p1) + (256 * (256 * (256 * p5 + (p4 + p5)) + (p3 + p4)) + (p2 + p3))) / 2 ^ 32 = 256 * p5 + (p4 + p5) := by
    show _ / 4294967296 = _
    omega
  rw [f3]
  have f4 : (256 * (256 * (256 * (256 * (256 * p5 + p4) + p3) + p2) + p1) + p0 + (256 * (256 * (256 * (256 * p5 + p4) + p3) + p2) + p1) + (256 * (256 * (256 * p5 + (p4 + p5)) + (p3 + p4)) + (p2 + p3)) + (256 * p5 + (p4 + p5))) % 128 = p0 + p1 + p2 + p3 + p4 + p5 := by
    omega
  rw [f4]
  exact h
