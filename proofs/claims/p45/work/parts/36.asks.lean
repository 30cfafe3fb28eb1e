/-- the first i from i on, of so many, with f i -/
def fnd (f : Nat → Bool) : Nat → Nat → Option Nat
  | 0, _ => none
  | d + 1, i => if f i = true then some i else fnd f d (i + 1)
theorem fnd_step {f : Nat → Bool} {N i : Nat} (h : i < N) : fnd f (N - i) i = if f i = true then some i else fnd f (N - (i + 1)) (i + 1) := by
  rw [show N - i = (N - (i + 1)) + 1 by omega]; rfl
theorem hg_bit (co : Co) (d v : Nat) : hg co d v = (co 5 v).testBit (d % 7) := by
  unfold hg
  rw [Nat.testBit_eq_decide_div_mod_eq]
theorem sumN_1 (f : Nat → Bool) : ∀ n, sumN (fun p => if f p = true then 1 else 0) n ≤ n := by
  intro n
  have := sumN_le (f := fun p => if f p = true then 1 else 0) (c := 1) n (fun p _ => by show (if f p = true then 1 else 0) ≤ 1; split <;> omega)
  omega
theorem sumN_s (f : Nat → Bool) (i : Nat) : sumN (fun p => if f p = true then 1 else 0) (i + 1) = if f i = true then sumN (fun p => if f p = true then 1 else 0) i + 1 else sumN (fun p => if f p = true then 1 else 0) i := by
  show sumN (fun p => if f p = true then 1 else 0) i + (if f i = true then 1 else 0) = _
  split <;> rfl
/-! bits counted -/
def pc (s : Nat) : Nat := sumN (fun p => s / 2 ^ p % 2) 6
def bc (a0 : Int32) : Int32 :=
  let x1 := ((a0).toUInt32 >>> (((nI 1)).toUInt32 &&& Int32.toUInt32 31)).toInt32
  let x2 := a0 - (x1 &&& (nI 1431655765))
  let x3 := ((x2).toUInt32 >>> (((nI 2)).toUInt32 &&& Int32.toUInt32 31)).toInt32
  let x4 := (x2 &&& (nI 858993459)) + (x3 &&& (nI 858993459))
  let x5 := ((x4).toUInt32 >>> (((nI 4)).toUInt32 &&& Int32.toUInt32 31)).toInt32
  let x6 := (x4 + x5) &&& (nI 252645135)
  let x7 := ((x6).toUInt32 >>> (((nI 8)).toUInt32 &&& Int32.toUInt32 31)).toInt32
  let x8 := x6 + x7
  let x9 := ((x8).toUInt32 >>> (((nI 16)).toUInt32 &&& Int32.toUInt32 31)).toInt32
  let x10 := x8 + x9
  x10 &&& (nI 63)
theorem bc_all : ∀ s, s < 64 → bc (nI s) = nI (pc s) := by decide +kernel
theorem J_bits {s : Nat} {μ : Mem} {Q : Int32 → Prop} (hs : s < 64) (h : Q (nI (pc s))) : w_J6_bitCount_0f7a4 (nI s) μ Q := by
  rw [← bc_all s hs] at h
  unfold w_J6_bitCount_0f7a4
  intro x1 e1 x2 e2 x3 e3 x4 e4 x5 e5 x6 e6 x7 e7 x8 e8 x9 e9 x10 e10
  subst e1 e2 e3 e4 e5 e6 e7 e8 e9 e10
  exact h
theorem sumN_congr {f g : Nat → Nat} : ∀ n, (∀ p, p < n → f p = g p) → sumN f n = sumN g n := by
  intro n
  induction n with
  | zero => intro _; rfl
  | succ n ih => intro h; unfold sumN; rw [ih (fun p hp => h p (by omega)), h n (by omega)]
theorem sumN_end {f : Nat → Nat} {n : Nat} (h : ∀ p, n ≤ p → f p = 0) : ∀ d, sumN f (n + d) = sumN f n := by
  intro d
  induction d with
  | zero => rfl
  | succ d ih => show sumN f (n + d) + f (n + d) = _; rw [ih, h _ (by omega)]; omega
theorem bitV (s p : Nat) : s / 2 ^ p % 2 = if s.testBit p = true then 1 else 0 := by
  rw [Nat.testBit_eq_decide_div_mod_eq]
  have := Nat.mod_lt (s / 2 ^ p) (show 0 < 2 by decide)
  by_cases q : s / 2 ^ p % 2 = 1
  · simp [q]
  · have : s / 2 ^ p % 2 = 0 := by omega
    simp [this]
theorem pc_hsN (f : Nat → Bool) {n : Nat} (h : n ≤ 6) : pc (hsN f n) = sumN (fun p => if f p = true then 1 else 0) n := by
  unfold pc
  have e1 := sumN_end (f := fun p => hsN f n / 2 ^ p % 2) (n := n) (fun p hp => by
    show hsN f n / 2 ^ p % 2 = 0
    rw [bitV, hsN_bit, decide_eq_false (by omega)]; rfl) (6 - n)
  rw [show n + (6 - n) = 6 by omega] at e1
  rw [e1]
  exact sumN_congr n (fun p hp => by rw [bitV, hsN_bit, decide_eq_true hp]; simp)
def own (co : Co) (v : Nat) : Nat := sumN (fun p => if decide (co 4 p = v) = true then 1 else 0) (co 0 3)
