/-! ===== FogNets: small methods ===== -/
theorem cnt_dn {P : Nat → Prop} (N : Nat) (hN : P N) (hs : ∀ i, i < N → P (i + 1) → P i) : P 0 := by
  have h : ∀ d i, i + d = N → P i := by
    intro d
    induction d with
    | zero => intro i hi; rw [show i = N by omega]; exact hN
    | succ d ih => intro i hi; exact hs i (by omega) (ih (i + 1) (by omega))
  exact h N 0 (by omega)
theorem pow6 : ∀ i, i < 6 → 2 ^ i < 64 := by decide
theorem hsN_lt (f : Nat → Bool) : ∀ n, hsN f n < 2 ^ n := by
  intro n
  induction n with
  | zero => simp [hsN]
  | succ n ih =>
    have h2 : 2 ^ n < 2 ^ (n + 1) := by rw [Nat.pow_succ]; have := Nat.two_pow_pos n; omega
    unfold hsN
    split
    · exact Nat.or_lt_two_pow (Nat.lt_trans ih h2) h2
    · exact Nat.lt_trans ih h2
theorem hsN_64 (f : Nat → Bool) {n : Nat} (h : n ≤ 6) : hsN f n < 64 :=
  Nat.lt_of_lt_of_le (hsN_lt f n) (Nat.pow_le_pow_right (by decide) h : 2 ^ n ≤ 2 ^ 6)
theorem hsN_bit (f : Nat → Bool) : ∀ n p, (hsN f n).testBit p = (decide (p < n) && f p) := by
  intro n
  induction n with
  | zero => intro p; simp [hsN]
  | succ n ih =>
    intro p
    unfold hsN
    by_cases hf : f n = true
    · rw [if_pos hf, Nat.testBit_or, ih, Nat.testBit_two_pow]
      by_cases hp : p = n
      · subst hp; simp [hf]
      · by_cases hl : p < n
        · simp [hl, Nat.lt_succ_of_lt hl, Ne.symm hp]
        · have : ¬ p < n + 1 := by omega
          simp [hl, this, Ne.symm hp]
    · rw [if_neg hf, ih]
      by_cases hp : p = n
      · subst hp; simp [hf]
      · by_cases hl : p < n
        · simp [hl, Nat.lt_succ_of_lt hl]
        · have : ¬ p < n + 1 := by omega
          simp [hl, this]
theorem bitN_eq (s p : Nat) : bitN s p = s.testBit p := by
  unfold bitN
  rw [Nat.testBit_eq_decide_div_mod_eq]
theorem F_within {a lo hi : Nat} {μ : Mem} {Q : Int32 → Prop} (ha : a < 2147483648) (hl : lo < 2147483648) (hh : hi < 2147483648) (h : Q (nI (if lo ≤ a ∧ a ≤ hi then 1 else 0))) : w_X6_within (nI a) (nI lo) (nI hi) μ Q := by
  unfold w_X6_within
  simp (disch := omega) only [z_le, z_lt, z_eq, z_lt0, z_0le, z_eq0, z_le0, z_0lt, z_cl, z_in, z_add, z_mul, z_m1ne, z_m1ne', z_m1lt0, z_m1lt, z_ltm1, forall_eq, true_implies, false_implies, implies_true, true_and, and_true, false_and, and_false, not_true_eq_false, not_false_eq_true, ite_true, ite_false]
  refine ⟨fun q => ?_, fun q => ⟨fun q2 => ?_, fun q2 => ?_⟩⟩
  · rw [if_neg (by omega)] at h; exact h
  · rw [if_neg (by omega)] at h; exact h
  · rw [if_pos (by omega)] at h; exact h
theorem F_within0 {x : Int32} {lo hi : Nat} {μ : Mem} {Q : Int32 → Prop} (hx : x < nI lo ∨ nI hi < x) (h : Q (nI 0)) : w_X6_within x (nI lo) (nI hi) μ Q := by
  unfold w_X6_within
  exact ⟨fun _ => h, fun q => ⟨fun _ => h, fun q2 => by rcases hx with z | z; exact absurd z q; exact absurd z q2⟩⟩
theorem F_at {k i n : Nat} {μ : Mem} {Q : Int32 → Prop} (hn : sF.2.2 k = n) (hn2 : n < 2147483648) (hi : i < n) (h : Q (μ.1 k i)) : w_X6_at k (nI i) μ Q := by
  unfold w_X6_at
  rw [hn]
  simp (disch := omega) only [z_le, z_lt, z_eq, z_lt0, z_0le, z_eq0, z_le0, z_0lt, z_cl, z_in, z_add, z_mul, z_m1ne, z_m1ne', z_m1lt0, z_m1lt, z_ltm1, forall_eq, true_implies, false_implies, implies_true, true_and, and_true, false_and, and_false, not_true_eq_false, not_false_eq_true, ite_true, ite_false]
  refine ⟨fun q => absurd q (by omega), fun _ => ⟨by omega, h⟩⟩
theorem F_at_m1 {k : Nat} {μ : Mem} {Q : Int32 → Prop} (h : Q (nI 0)) : w_X6_at k (-1) μ Q := by
  unfold w_X6_at
  exact ⟨fun _ => h, fun q => absurd (by decide) q⟩
theorem F_put {k i n : Nat} {x : Int32} {μ : Mem} {Q : Mem → Prop} (hn : sF.2.2 k = n) (hn2 : n < 2147483648) (hi : i < n) (h : Q (sI μ k i x)) : w_X6_put k (nI i) x μ Q := by
  unfold w_X6_put
  rw [hn]
  simp (disch := omega) only [z_le, z_lt, z_eq, z_lt0, z_0le, z_eq0, z_le0, z_0lt, z_cl, z_in, z_add, z_mul, z_m1ne, z_m1ne', z_m1lt0, z_m1lt, z_ltm1, forall_eq, true_implies, false_implies, implies_true, true_and, and_true, false_and, and_false, not_true_eq_false, not_false_eq_true, ite_true, ite_false]
  refine ⟨fun q => absurd q (by omega), fun _ => ⟨by omega, h⟩⟩
theorem F_put_m1 {k : Nat} {x : Int32} {μ : Mem} {Q : Mem → Prop} (h : Q μ) : w_X6_put k (-1) x μ Q := by
  unfold w_X6_put
  exact ⟨fun _ => h, fun q => absurd (by decide) q⟩
theorem dl_le {co : Co} (hv : vCo co) : 1 ≤ dl co ∧ dl co ≤ 12 := by
  have := hv.2.2.1
  unfold dl
  split <;> omega
theorem F_hoursOfDay {μ : Mem} {R : Nat} {co : Co} {Q : Int32 → Prop} (hc : CoF μ R co) (hv : vCo co) (h : Q (nI (if co 0 0 = 0 then 0 else dl co))) : w_X0_hoursOfDay R μ Q := by
  obtain ⟨⟨e0, e1, e2, e3, e4⟩, -⟩ := hc
  obtain ⟨v0, v1, v2, v3, v4, -⟩ := hv
  unfold w_X0_hoursOfDay
  simp (disch := omega) only [z_le, z_lt, z_eq, z_lt0, z_0le, z_eq0, z_le0, z_0lt, z_cl, z_in, z_add, z_mul, z_m1ne, z_m1ne', z_m1lt0, z_m1lt, z_ltm1, forall_eq, true_implies, false_implies, implies_true, true_and, and_true, false_and, and_false, not_true_eq_false, not_false_eq_true, ite_true, ite_false, e0, e2]
  refine ⟨fun q => ?_, fun q => ?_⟩
  · rw [if_neg q] at h
    unfold dl at h
    by_cases q2 : co 0 2 = 0
    · rw [if_pos (by omega)]; rw [if_pos q2] at h; exact h
    · rw [if_neg (by omega)]; rw [if_neg q2] at h; exact h
  · rw [if_pos q] at h; exact h
theorem F_hangsOn {μ : Mem} {R v d : Nat} {co : Co} {Q : Int32 → Prop} (hR : sF.2.1 R = 0) (hc : CoF μ R co) (hv : vCo co) (hv2 : v < 2) (hd : d < 2147483648) (h : Q (nI (if hg co d v = true then 1 else 0))) : w_X0_hangsOn R (nI v) (nI d) μ Q := by
  obtain ⟨-, -, -, -, -, hu, -⟩ := hc
  obtain ⟨-, -, -, -, -, -, -, -, -, vu, -⟩ := hv
  unfold w_X0_hangsOn
  have h5 := (vu v hv2).1
  have h7 : d % 7 < 7 := Nat.mod_lt _ (by decide)
  have hdv : co 5 v / 2 ^ (d % 7) ≤ co 5 v := Nat.div_le_self _ _
  refine F_at (n := 2) (co_n7 hR) (by decide) hv2 ?_
  rw [(hu v hv2).1]
  simp (disch := omega) only [z_le, z_lt, z_eq, z_lt0, z_0le, z_eq0, z_le0, z_0lt, z_cl, z_in, z_add, z_mul, z_m1ne, z_m1ne', z_m1lt0, z_m1lt, z_ltm1, forall_eq, true_implies, false_implies, implies_true, true_and, and_true, false_and, and_false, not_true_eq_false, not_false_eq_true, ite_true, ite_false, z_rem, z_shr, z_and1]
  unfold hg at h
  refine ⟨by omega, fun q => ?_, fun q => ?_⟩
  · rw [if_neg (by simpa using q)] at h; exact h
  · rw [if_pos (by simpa using q)] at h; exact h
theorem F_postsOf {μ : Mem} {R v : Nat} {co : Co} {Q : Int32 → Prop} (hc : CoF μ R co) (hv : vCo co) (hv2 : v < 2) (h : Q (nI (hsN (fun p => decide (co 4 p = v)) (co 0 3)))) : w_X0_postsOf R (nI v) μ Q := by
  obtain ⟨⟨e0, e1, e2, e3, e4⟩, -, hp, -⟩ := hc
  obtain ⟨-, -, -, hn, -, -, -, -, hvp, -⟩ := hv
  unfold w_X0_postsOf w_X0_postsOf_4
  intro X hX
  refine cnt_dn (P := fun i => X (nI (hsN (fun p => decide (co 4 p = v)) i)) (nI i)) (co 0 3) ?_ ?_
  · apply hX
    unfold s_X0_postsOf_4
    rw [e3]
    exact ⟨fun _ => h, fun q => absurd ((z_le (by omega) (by omega)).mpr (Nat.le_refl _)) q⟩
  · intro i hi ih
    apply hX
    unfold s_X0_postsOf_4 w_X0_postsOf_34
    have h1 := hvp i hi
    have h2 := pow6 i (by omega)
    have h3 := hsN_64 (fun p => decide (co 4 p = v)) (n := i) (by omega)
    simp (disch := omega) only [z_le, z_lt, z_eq, z_lt0, z_0le, z_eq0, z_le0, z_0lt, z_cl, z_in, z_add, z_mul, z_m1ne, z_m1ne', z_m1lt0, z_m1lt, z_ltm1, forall_eq, true_implies, false_implies, implies_true, true_and, and_true, false_and, and_false, not_true_eq_false, not_false_eq_true, ite_true, ite_false, e3, (hp i hi).2, z_shl1, z_or]
    refine ⟨fun q => absurd hi (by omega), fun _ => ⟨fun q => absurd hi (by omega), fun _ => ⟨by omega, fun q => ?_, fun q => ?_⟩⟩⟩
    · unfold hsN at ih; rw [if_neg (by simpa using q)] at ih; exact ih
    · unfold hsN at ih; rw [if_pos (by simpa using q)] at ih; exact ih
theorem hs_eq {co : Co} {d : Nat} (hv : vCo co) : (if hg co d 0 = true then hsN (fun p => decide (co 4 p = 0)) (co 0 3) else 0) ||| (if hg co d 1 = true then hsN (fun p => decide (co 4 p = 1)) (co 0 3) else 0) = hs co d := by
  apply Nat.eq_of_testBit_eq
  intro p
  unfold hs
  rw [Nat.testBit_or, hsN_bit]
  have hvp := hv.2.2.2.2.2.2.2.2.1
  have e : ∀ v, (if hg co d v = true then hsN (fun p => decide (co 4 p = v)) (co 0 3) else 0).testBit p = (hg co d v && (decide (p < co 0 3) && decide (co 4 p = v))) := by
    intro v
    by_cases h : hg co d v = true
    · rw [if_pos h, hsN_bit, h]; simp
    · rw [if_neg h]; simp [h]
  rw [e 0, e 1]
  by_cases hp : p < co 0 3
  · have := (hvp p hp).2.2
    rcases (by omega : co 4 p = 0 ∨ co 4 p = 1) with q | q <;> simp [hp, q]
  · simp [hp]
theorem hs_64 {co : Co} {d : Nat} (hv : vCo co) : hs co d < 64 := hsN_64 _ hv.2.2.2.1
theorem F_hanging {μ : Mem} {b R : Nat} {co : Co} {r : Ro} {Q : Int32 → Prop} (hR : sF.2.1 R = 0) (hc : CoF μ R co) (hv : vCo co) (e0 : μ.1 b 0 = nI (r 0)) (hd : r 0 < 2147483648) (h : Q (nI (hs co (r 0)))) : w_X4_hanging b R μ Q := by
  have hn := hv.2.2.2.1
  unfold w_X4_hanging w_X4_hanging_4
  intro X hX
  have h0 := hsN_64 (fun p => decide (co 4 p = 0)) (n := co 0 3) hn
  have h1 := hsN_64 (fun p => decide (co 4 p = 1)) (n := co 0 3) hn
  rw [← hs_eq hv] at h
  have s2 : X (nI ((if hg co (r 0) 0 = true then hsN (fun p => decide (co 4 p = 0)) (co 0 3) else 0) ||| (if hg co (r 0) 1 = true then hsN (fun p => decide (co 4 p = 1)) (co 0 3) else 0))) (nI 2) := by
    apply hX
    unfold s_X4_hanging_4
    exact ⟨fun _ => h, fun q => absurd (by decide) q⟩
  have s1 : X (nI (if hg co (r 0) 0 = true then hsN (fun p => decide (co 4 p = 0)) (co 0 3) else 0)) (nI 1) := by
    apply hX
    unfold s_X4_hanging_4 w_X4_hanging_29
    refine ⟨fun q => absurd q (by decide), fun _ => ?_⟩
    rw [e0]
    refine F_hangsOn hR hc hv (by decide) hd ?_
    by_cases g : hg co (r 0) 1 = true
    · rw [if_pos g]
      refine ⟨fun q => absurd q (by decide), fun _ => F_postsOf hc hv (by decide) ?_⟩
      rw [if_pos g] at s2
      have e : ((if hg co (r 0) 0 = true then hsN (fun p => decide (co 4 p = 0)) (co 0 3) else 0)) < 64 := by split <;> omega
      simp (disch := omega) only [z_le, z_lt, z_eq, z_lt0, z_0le, z_eq0, z_le0, z_0lt, z_cl, z_in, z_add, z_mul, z_m1ne, z_m1ne', z_m1lt0, z_m1lt, z_ltm1, forall_eq, true_implies, false_implies, implies_true, true_and, and_true, false_and, and_false, not_true_eq_false, not_false_eq_true, ite_true, ite_false, z_or]
      exact s2
    · rw [if_neg g]
      refine ⟨fun _ => ?_, fun q => absurd (by decide) q⟩
      rw [if_neg g] at s2
      simp (disch := omega) only [z_le, z_lt, z_eq, z_lt0, z_0le, z_eq0, z_le0, z_0lt, z_cl, z_in, z_add, z_mul, z_m1ne, z_m1ne', z_m1lt0, z_m1lt, z_ltm1, forall_eq, true_implies, false_implies, implies_true, true_and, and_true, false_and, and_false, not_true_eq_false, not_false_eq_true, ite_true, ite_false]
      simpa using s2
  apply hX
  unfold s_X4_hanging_4 w_X4_hanging_29
  refine ⟨fun q => absurd q (by decide), fun _ => ?_⟩
  rw [e0]
  refine F_hangsOn hR hc hv (by decide) hd ?_
  by_cases g : hg co (r 0) 0 = true
  · rw [if_pos g]
    refine ⟨fun q => absurd q (by decide), fun _ => F_postsOf hc hv (by decide) ?_⟩
    rw [if_pos g] at s1
    simp (disch := omega) only [z_le, z_lt, z_eq, z_lt0, z_0le, z_eq0, z_le0, z_0lt, z_cl, z_in, z_add, z_mul, z_m1ne, z_m1ne', z_m1lt0, z_m1lt, z_ltm1, forall_eq, true_implies, false_implies, implies_true, true_and, and_true, false_and, and_false, not_true_eq_false, not_false_eq_true, ite_true, ite_false, z_or]
    simpa using s1
  · rw [if_neg g]
    refine ⟨fun _ => ?_, fun q => absurd (by decide) q⟩
    rw [if_neg g] at s1
    simp (disch := omega) only [z_le, z_lt, z_eq, z_lt0, z_0le, z_eq0, z_le0, z_0lt, z_cl, z_in, z_add, z_mul, z_m1ne, z_m1ne', z_m1lt0, z_m1lt, z_ltm1, forall_eq, true_implies, false_implies, implies_true, true_and, and_true, false_and, and_false, not_true_eq_false, not_false_eq_true, ite_true, ite_false]
    exact s1
