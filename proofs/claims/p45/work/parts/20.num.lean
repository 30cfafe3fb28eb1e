/-! ===== numbers: Int32 as Nat ===== -/
theorem z_le {a b : Nat} (ha : a < 2147483648) (hb : b < 2147483648) : nI a ≤ nI b ↔ a ≤ b := nI_leI ha hb
theorem z_lt {a b : Nat} (ha : a < 2147483648) (hb : b < 2147483648) : nI a < nI b ↔ a < b := nI_ltI ha hb
theorem z_eq {a b : Nat} (ha : a < 2147483648) (hb : b < 2147483648) : nI a = nI b ↔ a = b := nI_eq ha hb
theorem z_lt0 {a : Nat} (ha : a < 2147483648) : (nI a < 0) ↔ False := ⟨fun h => nI_pos ha h, False.elim⟩
theorem z_0le {a : Nat} (ha : a < 2147483648) : (0 ≤ nI a) ↔ True := ⟨fun _ => trivial, fun _ => nI_pos' ha⟩
theorem z_eq0 {a : Nat} (ha : a < 2147483648) : (nI a = 0) ↔ a = 0 := by
  rw [← nI_0, nI_eq ha (by decide)]
theorem z_le0 {a : Nat} (ha : a < 2147483648) : (nI a ≤ 0) ↔ a = 0 := by
  rw [← nI_0, nI_leI ha (by decide)]; omega
theorem z_0lt {a : Nat} (ha : a < 2147483648) : (0 < nI a) ↔ 0 < a := by
  rw [← nI_0, nI_ltI (by decide) ha]
theorem z_cl {n : Nat} (h : n < 2147483648) : (nI n).toNatClampNeg = n := nI_clamp h
theorem z_in {n N : Nat} (h : n < 2147483648) (hN : N < 2147483648) : vp_in (nI n) N ↔ n < N := by
  refine ⟨fun q => ?_, fun q => vp_in_nI q hN⟩
  have := (vp_in_iff.mp q).2
  rw [nI_toInt h] at this
  omega
theorem z_add (a b : Nat) : nI a + nI b = nI (a + b) := nI_add a b
theorem z_sub {a b : Nat} (h : b ≤ a) : nI a - nI b = nI (a - b) := pk_sub h
theorem z_mul (a b : Nat) : nI a * nI b = nI (a * b) := pk_mul a b
theorem z_div {a d : Nat} (ha : a < 2147483648) (h0 : 0 < d) (hd : d < 2147483648) : nI a / nI d = nI (a / d) := pk_div ha h0 hd
theorem z_rem {a d : Nat} (ha : a < 2147483648) (h0 : 0 < d) (hd : d < 2147483648) : nI a - nI a / nI d * nI d = nI (a % d) := pk_rem ha h0 hd
theorem z_31 : ∀ k, k < 32 → ((nI k &&& 31).toBitVec.smod 32).toNat = k := by decide +kernel
theorem z_shr {n k : Nat} (hk : k < 32) (h : n < 2147483648) : nI n >>> (nI k &&& 31) = nI (n / 2 ^ k) := pk_shrN h _ k (z_31 k hk)
theorem z_shl1 {k : Nat} (hk : k < 31) : nI 1 <<< (nI k &&& 31) = nI (2 ^ k) := by
  have h : ∀ k, k < 31 → nI 1 <<< (nI k &&& 31) = nI (2 ^ k) := by decide +kernel
  exact h k hk
theorem z_and1 {n : Nat} (h : n < 2147483648) : nI n &&& nI 1 = nI (n % 2) := by
  have := pk_andN (n := n) (by omega) (m := nI 1) 1 (by decide)
  simpa using this
theorem z_tn {n : Nat} (h : n < 4294967296) : (nI n).toBitVec.toNat = n := pk_tn h
theorem z_or {a b : Nat} (ha : a < 2147483648) (hb : b < 2147483648) : nI a ||| nI b = nI (a ||| b) := by
  apply Int32.toBitVec_inj.mp
  apply BitVec.eq_of_toNat_eq
  rw [Int32.toBitVec_or, BitVec.toNat_or, z_tn (by omega), z_tn (by omega), z_tn]
  exact Nat.lt_trans (Nat.or_lt_two_pow (n := 31) ha hb) (by decide)
theorem z_and {a b : Nat} (ha : a < 2147483648) (hb : b < 2147483648) : nI a &&& nI b = nI (a &&& b) := by
  apply Int32.toBitVec_inj.mp
  apply BitVec.eq_of_toNat_eq
  rw [Int32.toBitVec_and, BitVec.toNat_and, z_tn (by omega), z_tn (by omega), z_tn]
  exact Nat.lt_of_le_of_lt Nat.and_le_left (by omega)
theorem z_xor {a b : Nat} (ha : a < 2147483648) (hb : b < 2147483648) : nI a ^^^ nI b = nI (a ^^^ b) := by
  apply Int32.toBitVec_inj.mp
  apply BitVec.eq_of_toNat_eq
  rw [Int32.toBitVec_xor, BitVec.toNat_xor, z_tn (by omega), z_tn (by omega), z_tn]
  exact Nat.lt_trans (Nat.xor_lt_two_pow (n := 31) ha hb) (by decide)
theorem z_m1 (n : Nat) : nI (n + 1) + (-1) = nI n := pk_m1 n
theorem z_m1le {a : Nat} (ha : a < 2147483648) : ((-1 : Int32) < nI a) := by
  rw [Int32.lt_iff_toInt_lt, nI_toInt ha]
  have : (-1 : Int32).toInt = -1 := by decide
  omega
theorem z_m1ne {a : Nat} (ha : a < 2147483648) : (nI a = -1) ↔ False := by
  refine ⟨fun h => ?_, False.elim⟩
  have := congrArg Int32.toInt h
  rw [nI_toInt ha] at this
  have q : (-1 : Int32).toInt = -1 := by decide
  omega
theorem z_m1ne' {a : Nat} (ha : a < 2147483648) : (-1 = nI a) ↔ False := by
  rw [eq_comm]; exact z_m1ne ha
theorem z_m1lt0 : ((-1 : Int32) < 0) ↔ True := by decide
theorem z_m1lt {a : Nat} (ha : a < 2147483648) : ((-1 : Int32) < nI a) ↔ True := ⟨fun _ => trivial, fun _ => z_m1le ha⟩
theorem z_ltm1 {a : Nat} (ha : a < 2147483648) : (nI a < (-1 : Int32)) ↔ False := by
  refine ⟨fun h => ?_, False.elim⟩
  rw [Int32.lt_iff_toInt_lt, nI_toInt ha] at h
  have q : (-1 : Int32).toInt = -1 := by decide
  omega
theorem z_n0 {a : Nat} (h : 0 < a) (ha : a < 2147483648) : (¬ nI a = 0) ↔ True := ⟨fun _ => trivial, fun _ => nI_ne0 h ha⟩
/-- any number is within bounds, or not -/
theorem z_cases (x : Int32) (lo hi : Nat) (hl : lo < 2147483648) (hh : hi < 2147483648) : (∃ j, lo ≤ j ∧ j ≤ hi ∧ x = nI j) ∨ (x < nI lo ∨ nI hi < x) := by
  by_cases h1 : x < nI lo
  · exact Or.inr (Or.inl h1)
  · by_cases h2 : nI hi < x
    · exact Or.inr (Or.inr h2)
    · have h0 : ¬ x < 0 := by
        intro q
        apply h1
        rw [Int32.lt_iff_toInt_lt] at q ⊢
        rw [nI_toInt hl]
        have e : (0 : Int32).toInt = 0 := by decide
        omega
      obtain ⟨j, hj, rfl⟩ := nI_of h0
      rw [z_lt hj hl] at h1
      rw [z_lt hh hj] at h2
      exact Or.inl ⟨j, by omega, by omega, rfl⟩
theorem sI_same {μ : Mem} {k j : Nat} {v : Int32} : (sI μ k j v).1 k j = v := by simp [sI, sA, upd]
theorem sI_ne1 {μ : Mem} {k j a b : Nat} {v : Int32} (h : a ≠ k) : (sI μ k j v).1 a b = μ.1 a b := by simp [sI, sA, h]
theorem sI_ne2 {μ : Mem} {k j b : Nat} {v : Int32} (h : b ≠ j) : (sI μ k j v).1 k b = μ.1 k b := by simp [sI, sA, upd, h]
theorem sI_get {μ : Mem} {k j a b : Nat} {v : Int32} : (sI μ k j v).1 a b = if a = k ∧ b = j then v else μ.1 a b := by
  by_cases h : a = k
  · subst h
    by_cases h2 : b = j <;> simp [sI, sA, upd, h2]
  · simp [sI, sA, h]
theorem sI_2 {μ : Mem} {k j : Nat} {v : Int32} : (sI μ k j v).2 = μ.2 := rfl
theorem sA_same {μ : Mem} {k : Nat} {f : Nat → Int32} : (sA μ k f).1 k = f := by simp [sA]
theorem sA_ne {μ : Mem} {k a : Nat} {f : Nat → Int32} (h : a ≠ k) : (sA μ k f).1 a = μ.1 a := by simp [sA, h]
theorem sA_2 {μ : Mem} {k : Nat} {f : Nat → Int32} : (sA μ k f).2 = μ.2 := rfl
theorem sL_1 {μ : Mem} {j : Nat} {v : Int64} : (sL μ j v).1 = μ.1 := rfl
theorem sR_1 {μ : Mem} {j v : Nat} : (sR μ j v).1 = μ.1 := rfl
