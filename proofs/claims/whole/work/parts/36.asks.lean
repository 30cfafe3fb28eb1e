/-! ===== asked of what is so: lasts, both, apart, share, led, yards, clear ===== -/
theorem P_lasts {μ ν : Mem} {a : Int32} (h : Rel μ ν) : w_X6_lasts a μ (fun x => w_X7_lasts a ν (fun y => x = y)) := by
  obtain ⟨co, r, U, T, fp, sd, I, G, K, hA, hF, hM⟩ := h
  have hv := hA.1
  have hr := hA.2.1
  unfold w_X6_lasts w_X7_lasts
  rcases z_cases a 0 1 (by decide) (by decide) with ⟨v, h1, h2, rfl⟩ | ho
  · have hu := (hv.2.2.2.2.2.2.2.2.2.1 v (by omega)).2
    have h5 := hr.2.2.2.2.2.1
    have h6 := hr.2.2.2.2.2.2.1
    have h56 : r (5 + v) ≤ 99999 := by rcases (by omega : v = 0 ∨ v = 1) with z | z <;> rw [z] <;> assumption
    have e8 := (hF.2.1.2.2.2.2.2.1 v (by omega)).2
    have e29 := (hF.2.2.2.1.2.2.2 v (by omega)).1
    have e13 := (hM.1.2.2.2.1 v (by omega)).2
    have e14 := hM.2.1 (5 + v) (by omega)
    have hq := Nat.div_le_self (r (5 + v)) (co 6 v)
    refine F_isVillage_in (by omega) ⟨fun _ => ?_, fun z => absurd z (by decide)⟩
    refine F_at (n := 2) (co_n8 hF.1.1) (by decide) (by omega) ?_
    rw [e8]
    simp (disch := omega) only [z_le, z_lt, z_eq, z_lt0, z_0le, z_eq0, z_le0, z_0lt, z_cl, z_in, z_add, z_mul, z_m1ne, z_m1ne', z_m1lt0, z_m1lt, z_ltm1, forall_eq, true_implies, false_implies, implies_true, true_and, and_true, false_and, and_false, not_true_eq_false, not_false_eq_true, ite_true, ite_false]
    refine ⟨fun q => ?_, fun q => ?_⟩
    · refine F_at (n := 2) (st_n4 st_25) (by decide) (by omega) ?_
      rw [e29]
      simp (disch := omega) only [z_le, z_lt, z_eq, z_lt0, z_0le, z_eq0, z_le0, z_0lt, z_cl, z_in, z_add, z_mul, z_m1ne, z_m1ne', z_m1lt0, z_m1lt, z_ltm1, forall_eq, true_implies, false_implies, implies_true, true_and, and_true, false_and, and_false, not_true_eq_false, not_false_eq_true, ite_true, ite_false, z_div]
      refine ⟨by omega, ?_⟩
      refine M_isVillage_in (by omega) ⟨fun _ => ?_, fun z => absurd z (by decide)⟩
      unfold w_X7_lasts_40
      simp (disch := omega) only [z_le, z_lt, z_eq, z_lt0, z_0le, z_eq0, z_le0, z_0lt, z_cl, z_in, z_add, z_mul, z_m1ne, z_m1ne', z_m1lt0, z_m1lt, z_ltm1, forall_eq, true_implies, false_implies, implies_true, true_and, and_true, false_and, and_false, not_true_eq_false, not_false_eq_true, ite_true, ite_false, e13, e14, z_div]
      refine ⟨by omega, fun _ => ⟨by omega, by omega, by omega, fun q2 => ?_, fun q2 => ?_⟩, fun q2 => absurd q2 (by omega)⟩
      · rw [if_neg (by omega)]
      · rw [if_pos (by omega)]
    · refine M_isVillage_in (by omega) ⟨fun _ => ?_, fun z => absurd z (by decide)⟩
      unfold w_X7_lasts_40
      simp (disch := omega) only [z_le, z_lt, z_eq, z_lt0, z_0le, z_eq0, z_le0, z_0lt, z_cl, z_in, z_add, z_mul, z_m1ne, z_m1ne', z_m1lt0, z_m1lt, z_ltm1, forall_eq, true_implies, false_implies, implies_true, true_and, and_true, false_and, and_false, not_true_eq_false, not_false_eq_true, ite_true, ite_false, e13, e14]
      exact ⟨by omega, fun q2 => absurd (by omega) q2⟩
  · refine F_isVillage_out ho ⟨fun z => absurd (by decide) z, fun _ => ?_⟩
    exact M_isVillage_out ho ⟨fun z => absurd (by decide) z, fun _ => rfl⟩
/-- the first i from i on, of so many, with f i -/
def fnd (f : Nat → Bool) : Nat → Nat → Option Nat
  | 0, _ => none
  | d + 1, i => if f i = true then some i else fnd f d (i + 1)
theorem fnd_step {f : Nat → Bool} {N i : Nat} (h : i < N) : fnd f (N - i) i = if f i = true then some i else fnd f (N - (i + 1)) (i + 1) := by
  rw [show N - i = (N - (i + 1)) + 1 by omega]; rfl
theorem hg_bit (co : Co) (d v : Nat) : hg co d v = (co 5 v).testBit (d % 7) := by
  unfold hg
  rw [Nat.testBit_eq_decide_div_mod_eq]
theorem P_both {μ ν : Mem} (h : Rel μ ν) : w_X6_both μ (fun x => w_X7_both ν (fun y => x = y)) := by
  obtain ⟨co, r, U, T, fp, sd, I, G, K, hA, hF, hM⟩ := h
  have hv := hA.1
  have hr := hA.2.1
  have hd := hr.1
  have hu0 := (hv.2.2.2.2.2.2.2.2.2.1 0 (by decide)).1
  have hu1 := (hv.2.2.2.2.2.2.2.2.2.1 1 (by decide)).1
  have e25 := hF.2.2.2.1.1.1
  have e14 := hM.2.1 0 (by decide)
  have e120 := (hM.1.2.2.2.1 0 (by decide)).1
  have e121 := (hM.1.2.2.2.1 1 (by decide)).1
  have h7 : ∀ x, x % 7 < 7 := fun x => Nat.mod_lt _ (by decide)
  have hand : co 5 0 &&& co 5 1 ≤ co 5 0 := Nat.and_le_left
  have key : ∀ Q : Int32 → Prop, Q (optI (fnd (fun d => hg co (r 0 + d) 0 && hg co (r 0 + d) 1) 7 0)) → w_X6_both_12 (nI 0) μ Q := by
    intro Q hQ
    unfold w_X6_both_12
    intro X hX
    refine cnt_dn (P := fun i => Q (optI (fnd (fun d => hg co (r 0 + d) 0 && hg co (r 0 + d) 1) (7 - i) i)) → X (nI i)) 7 ?_ ?_ hQ
    · intro hq
      apply hX
      unfold s_X6_both_12
      exact ⟨fun _ => hq, fun q => absurd (by decide) q⟩
    · intro i hi ih hq
      rw [fnd_step hi] at hq
      apply hX
      unfold s_X6_both_12 w_X6_both_60
      rw [e25]
      simp (disch := omega) only [z_le, z_lt, z_eq, z_lt0, z_0le, z_eq0, z_le0, z_0lt, z_cl, z_in, z_add, z_mul, z_m1ne, z_m1ne', z_m1lt0, z_m1lt, z_ltm1, forall_eq, true_implies, false_implies, implies_true, true_and, and_true, false_and, and_false, not_true_eq_false, not_false_eq_true, ite_true, ite_false]
      refine ⟨fun q => absurd hi (by omega), fun _ => ?_⟩
      refine F_hangsOn hF.1.1 hF.2.1 hv (by decide) (by omega) ?_
      by_cases g0 : hg co (r 0 + i) 0 = true
      · rw [if_pos g0]
        refine ⟨fun z => absurd z (by decide), fun _ => ?_⟩
        refine F_hangsOn hF.1.1 hF.2.1 hv (by decide) (by omega) ?_
        by_cases g1 : hg co (r 0 + i) 1 = true
        · rw [if_pos g1]
          rw [if_pos (by rw [g0, g1]; rfl)] at hq
          exact ⟨fun z => absurd z (by decide), fun _ => hq⟩
        · rw [if_neg g1]
          rw [if_neg (by rw [g0]; simpa using g1)] at hq
          exact ⟨fun _ => ih hq, fun z => absurd (by decide) z⟩
      · rw [if_neg g0]
        rw [if_neg (by intro z; simp at z; exact g0 z.1)] at hq
        exact ⟨fun _ => ih hq, fun z => absurd (by decide) z⟩
  have key2 : ∀ Q : Int32 → Prop, Q (optI (fnd (fun d => hg co (r 0 + d) 0 && hg co (r 0 + d) 1) 7 0)) → w_X7_both_12 (nI 0) ν Q := by
    intro Q hQ
    unfold w_X7_both_12
    intro X hX
    refine cnt_dn (P := fun i => Q (optI (fnd (fun d => hg co (r 0 + d) 0 && hg co (r 0 + d) 1) (7 - i) i)) → X (nI i)) 7 ?_ ?_ hQ
    · intro hq
      apply hX
      unfold s_X7_both_12
      exact ⟨fun _ => hq, fun q => absurd (by decide) q⟩
    · intro i hi ih hq
      rw [fnd_step hi] at hq
      apply hX
      unfold s_X7_both_12
      have h7i := h7 (r 0 + i)
      simp (disch := omega) only [z_le, z_lt, z_eq, z_lt0, z_0le, z_eq0, z_le0, z_0lt, z_cl, z_in, z_add, z_mul, z_m1ne, z_m1ne', z_m1lt0, z_m1lt, z_ltm1, forall_eq, true_implies, false_implies, implies_true, true_and, and_true, false_and, and_false, not_true_eq_false, not_false_eq_true, ite_true, ite_false, e14, e120, e121, z_and, z_rem]
      refine ⟨fun q => absurd hi (by omega), fun _ => ⟨by decide, by decide, by decide, by decide, ?_⟩⟩
      refine M_has (by omega) (by omega) ?_
      rw [bitN_eq, Nat.testBit_and, ← hg_bit, ← hg_bit]
      by_cases g : (hg co (r 0 + i) 0 && hg co (r 0 + i) 1) = true
      · rw [if_pos g]
        rw [if_pos g] at hq
        exact ⟨fun z => absurd z (by decide), fun _ => hq⟩
      · rw [if_neg g]
        rw [if_neg g] at hq
        exact ⟨fun _ => ih hq, fun z => absurd (by decide) z⟩
  unfold w_X6_both w_X7_both
  refine F_isBare hF hv ?_
  rw [hM.1.1.1]
  by_cases hc : co 0 0 = 0
  · rw [if_pos hc, if_pos hc]
    exact ⟨fun z => absurd z (by decide), fun _ => ⟨fun z => absurd (by decide) z, fun _ => rfl⟩⟩
  · rw [if_neg hc, if_neg hc]
    exact ⟨fun _ => key _ ⟨fun _ => key2 _ rfl, fun z => absurd z (by decide)⟩, fun z => absurd (by decide) z⟩
theorem sumN_1 (f : Nat → Bool) : ∀ n, sumN (fun p => if f p = true then 1 else 0) n ≤ n := by
  intro n
  have := sumN_le (f := fun p => if f p = true then 1 else 0) (c := 1) n (fun p _ => by show (if f p = true then 1 else 0) ≤ 1; split <;> omega)
  omega
theorem sumN_s (f : Nat → Bool) (i : Nat) : sumN (fun p => if f p = true then 1 else 0) (i + 1) = if f i = true then sumN (fun p => if f p = true then 1 else 0) i + 1 else sumN (fun p => if f p = true then 1 else 0) i := by
  show sumN (fun p => if f p = true then 1 else 0) i + (if f i = true then 1 else 0) = _
  split <;> rfl
theorem P_apart {μ ν : Mem} {a : Int32} (h : Rel μ ν) : w_X6_apart a μ (fun x => w_X7_apart a ν (fun y => x = y)) := by
  obtain ⟨co, r, U, T, fp, sd, I, G, K, hA, hF, hM⟩ := h
  have hv := hA.1
  have hr := hA.2.1
  have hd := hr.1
  have hu0 := (hv.2.2.2.2.2.2.2.2.2.1 0 (by decide)).1
  have hu1 := (hv.2.2.2.2.2.2.2.2.2.1 1 (by decide)).1
  have e25 := hF.2.2.2.1.1.1
  have e14 := hM.2.1 0 (by decide)
  have e120 := (hM.1.2.2.2.1 0 (by decide)).1
  have e121 := (hM.1.2.2.2.1 1 (by decide)).1
  have h7 : ∀ x, x % 7 < 7 := fun x => Nat.mod_lt _ (by decide)
  have hxor : co 5 0 ^^^ co 5 1 < 128 := Nat.xor_lt_two_pow (n := 7) (by omega) (by omega)
  have key : ∀ (n : Nat) (Q : Int32 → Prop), n ≤ 99 → Q (nI (sumN (fun d => if (hg co (r 0 + d) 0 ^^ hg co (r 0 + d) 1) = true then 1 else 0) n)) → w_X6_apart_27 (nI n) (nI 0) (nI 0) μ Q := by
    intro n Q hn hQ
    unfold w_X6_apart_27
    intro X hX
    refine cnt_dn (P := fun i => X (nI (sumN (fun d => if (hg co (r 0 + d) 0 ^^ hg co (r 0 + d) 1) = true then 1 else 0) i)) (nI i)) n ?_ ?_
    · apply hX
      unfold s_X6_apart_27
      exact ⟨fun _ => hQ, fun q => absurd ((z_le (by omega) (by omega)).mpr (Nat.le_refl _)) q⟩
    · intro i hi ih
      have hs := sumN_1 (fun d => hg co (r 0 + d) 0 ^^ hg co (r 0 + d) 1) i
      rw [sumN_s (fun d => hg co (r 0 + d) 0 ^^ hg co (r 0 + d) 1)] at ih
      apply hX
      unfold s_X6_apart_27 w_X6_apart_72
      rw [e25]
      simp (disch := omega) only [z_le, z_lt, z_eq, z_lt0, z_0le, z_eq0, z_le0, z_0lt, z_cl, z_in, z_add, z_mul, z_m1ne, z_m1ne', z_m1lt0, z_m1lt, z_ltm1, forall_eq, true_implies, false_implies, implies_true, true_and, and_true, false_and, and_false, not_true_eq_false, not_false_eq_true, ite_true, ite_false]
      refine ⟨fun q => absurd hi (by omega), fun _ => ?_⟩
      refine F_hangsOn hF.1.1 hF.2.1 hv (by decide) (by omega) (F_hangsOn hF.1.1 hF.2.1 hv (by decide) (by omega) ?_)
      cases g0 : hg co (r 0 + i) 0 <;> cases g1 : hg co (r 0 + i) 1 <;> simp only [g0, g1, Bool.xor_true, Bool.xor_false, Bool.not_true, Bool.not_false, Bool.false_eq_true, if_true, if_false, ite_true, ite_false] at ih ⊢
      · exact ⟨fun _ => ih, fun z => absurd trivial z⟩
      · exact ⟨fun z => absurd z (by decide), fun _ => ih⟩
      · exact ⟨fun z => absurd z (by decide), fun _ => ih⟩
      · exact ⟨fun _ => ih, fun z => absurd trivial z⟩
  have key2 : ∀ (n : Nat) (Q : Int32 → Prop), n ≤ 99 → Q (nI (sumN (fun d => if (hg co (r 0 + d) 0 ^^ hg co (r 0 + d) 1) = true then 1 else 0) n)) → w_X7_apart_23 (nI n) (nI 0) (nI 0) ν Q := by
    intro n Q hn hQ
    unfold w_X7_apart_23
    intro X hX
    refine cnt_dn (P := fun i => X (nI (sumN (fun d => if (hg co (r 0 + d) 0 ^^ hg co (r 0 + d) 1) = true then 1 else 0) i)) (nI i)) n ?_ ?_
    · apply hX
      unfold s_X7_apart_23
      exact ⟨fun _ => hQ, fun q => absurd ((z_le (by omega) (by omega)).mpr (Nat.le_refl _)) q⟩
    · intro i hi ih
      have hs := sumN_1 (fun d => hg co (r 0 + d) 0 ^^ hg co (r 0 + d) 1) i
      rw [sumN_s (fun d => hg co (r 0 + d) 0 ^^ hg co (r 0 + d) 1)] at ih
      apply hX
      unfold s_X7_apart_23 w_X7_apart_66
      have h7i := h7 (r 0 + i)
      simp (disch := omega) only [z_le, z_lt, z_eq, z_lt0, z_0le, z_eq0, z_le0, z_0lt, z_cl, z_in, z_add, z_mul, z_m1ne, z_m1ne', z_m1lt0, z_m1lt, z_ltm1, forall_eq, true_implies, false_implies, implies_true, true_and, and_true, false_and, and_false, not_true_eq_false, not_false_eq_true, ite_true, ite_false, e14, e120, e121, z_xor, z_rem]
      refine ⟨fun q => absurd hi (by omega), fun _ => ⟨by decide, by decide, by decide, by decide, ?_⟩⟩
      refine M_has (by omega) (by omega) ?_
      rw [bitN_eq, Nat.testBit_xor, ← hg_bit, ← hg_bit]
      by_cases g : (hg co (r 0 + i) 0 ^^ hg co (r 0 + i) 1) = true
      · rw [if_pos g] at ih ⊢
        exact ⟨fun z => absurd z (by decide), fun _ => ih⟩
      · rw [if_neg g] at ih ⊢
        exact ⟨fun _ => ih, fun z => absurd (by decide) z⟩
  unfold w_X6_apart w_X7_apart
  rcases z_cases a 0 99 (by decide) (by decide) with ⟨n, h1, h2, rfl⟩ | ho
  · refine W_in h1 h2 (by decide) ⟨fun _ => F_isBare hF hv ?_, fun z => absurd z (by decide)⟩
    by_cases hc : co 0 0 = 0
    · rw [if_pos hc]
      refine ⟨fun z => absurd z (by decide), fun _ => ?_⟩
      refine MW_in h1 h2 (by decide) (M_need1 hM ?_)
      rw [if_pos hc]
      exact ⟨fun z => absurd z (by decide), fun _ => rfl⟩
    · rw [if_neg hc]
      refine ⟨fun _ => key n _ h2 ?_, fun z => absurd (by decide) z⟩
      refine MW_in h1 h2 (by decide) (M_need1 hM ?_)
      rw [if_neg hc]
      exact ⟨fun _ => key2 n _ h2 rfl, fun z => absurd (by decide) z⟩
  · refine F_within0 ho ⟨fun z => absurd (by decide) z, fun _ => ?_⟩
    refine MW_out ho (M_need0 ?_)
    exact ⟨fun z => absurd z (by decide), fun _ => rfl⟩
/-! bits counted -/
def pc (s : Nat) : Nat := sumN (fun p => s / 2 ^ p % 2) 6
def bc (a0 : Int32) : Int32 :=
  let x1 := ((a0).toUInt32 >>> (((nI 1)).toUInt32 &&& Int32.toUInt32 31)).toInt32
  let x2 := a0 - (x1 &&& (nI 1431655765))
  let x3 := ((x2).toUInt32 >>> (((nI 2)).toUInt32 &&& Int32.toUInt32 31)).toInt32
  let x4 := (x2 &&& (nI 858993459)) + (x3 &&& (nI 858993459))
  let x5 := ((x4).toUInt32 >>> (((nI 4)).toUInt32 &&& Int32.toUInt32 31)).toInt32
  let x6 := (x4 + x5) &&& (nI 252645135)
  let x7 := ((x6).toUInt32 >>> (((nI 8)).toUInt32 &&& Int32.toUInt32 31)).toInt32
  let x8 := x6 + x7
  let x9 := ((x8).toUInt32 >>> (((nI 16)).toUInt32 &&& Int32.toUInt32 31)).toInt32
  let x10 := x8 + x9
  x10 &&& (nI 63)
theorem bc_all : ∀ s, s < 64 → bc (nI s) = nI (pc s) := by decide +kernel
theorem J_bits {s : Nat} {μ : Mem} {Q : Int32 → Prop} (hs : s < 64) (h : Q (nI (pc s))) : w_J6_bitCount_0f7a4 (nI s) μ Q := by
  rw [← bc_all s hs] at h
  unfold w_J6_bitCount_0f7a4
  intro x1 e1 x2 e2 x3 e3 x4 e4 x5 e5 x6 e6 x7 e7 x8 e8 x9 e9 x10 e10
  subst e1 e2 e3 e4 e5 e6 e7 e8 e9 e10
  exact h
theorem sumN_congr {f g : Nat → Nat} : ∀ n, (∀ p, p < n → f p = g p) → sumN f n = sumN g n := by
  intro n
  induction n with
  | zero => intro _; rfl
  | succ n ih => intro h; unfold sumN; rw [ih (fun p hp => h p (by omega)), h n (by omega)]
theorem sumN_end {f : Nat → Nat} {n : Nat} (h : ∀ p, n ≤ p → f p = 0) : ∀ d, sumN f (n + d) = sumN f n := by
  intro d
  induction d with
  | zero => rfl
  | succ d ih => show sumN f (n + d) + f (n + d) = _; rw [ih, h _ (by omega)]; omega
theorem bitV (s p : Nat) : s / 2 ^ p % 2 = if s.testBit p = true then 1 else 0 := by
  rw [Nat.testBit_eq_decide_div_mod_eq]
  have := Nat.mod_lt (s / 2 ^ p) (show 0 < 2 by decide)
  by_cases q : s / 2 ^ p % 2 = 1
  · simp [q]
  · have : s / 2 ^ p % 2 = 0 := by omega
    simp [this]
theorem pc_hsN (f : Nat → Bool) {n : Nat} (h : n ≤ 6) : pc (hsN f n) = sumN (fun p => if f p = true then 1 else 0) n := by
  unfold pc
  have e1 := sumN_end (f := fun p => hsN f n / 2 ^ p % 2) (n := n) (fun p hp => by
    show hsN f n / 2 ^ p % 2 = 0
    rw [bitV, hsN_bit, decide_eq_false (by omega)]; rfl) (6 - n)
  rw [show n + (6 - n) = 6 by omega] at e1
  rw [e1]
  exact sumN_congr n (fun p hp => by rw [bitV, hsN_bit, decide_eq_true hp]; simp)
def own (co : Co) (v : Nat) : Nat := sumN (fun p => if decide (co 4 p = v) = true then 1 else 0) (co 0 3)
theorem M_ownedBy {ν : Mem} {co : Co} {v : Nat} {Q : Int32 → Prop} (hc : CoM ν co) (hv : vCo co) (hv2 : v < 2) (h : Q (nI (own co v))) : w_X7_ownedBy (nI v) ν Q := by
  have hn := hv.2.2.2.1
  have hvp := hv.2.2.2.2.2.2.2.2.1
  have e20 := hc.1.2.2.2.1
  unfold w_X7_ownedBy w_X7_ownedBy_4
  intro X hX
  refine cnt_dn (P := fun i => X (nI (sumN (fun p => if decide (co 4 p = v) = true then 1 else 0) i)) (nI i)) (co 0 3) ?_ ?_
  · apply hX
    unfold s_X7_ownedBy_4
    rw [e20]
    exact ⟨fun _ => h, fun q => absurd ((z_le (by omega) (by omega)).mpr (Nat.le_refl _)) q⟩
  · intro i hi ih
    rw [sumN_s (fun p => decide (co 4 p = v))] at ih
    have hs := sumN_1 (fun p => decide (co 4 p = v)) i
    have e10 := (hc.2.2.1 i hi).2
    have h1 := (hvp i hi).2.2
    apply hX
    unfold s_X7_ownedBy_4 w_X7_ownedBy_28
    simp (disch := omega) only [z_le, z_lt, z_eq, z_lt0, z_0le, z_eq0, z_le0, z_0lt, z_cl, z_in, z_add, z_mul, z_m1ne, z_m1ne', z_m1lt0, z_m1lt, z_ltm1, forall_eq, true_implies, false_implies, implies_true, true_and, and_true, false_and, and_false, not_true_eq_false, not_false_eq_true, ite_true, ite_false, e20, e10]
    refine ⟨fun q => absurd hi (by omega), fun _ => ⟨by omega, fun q => ?_, fun q => ?_⟩⟩
    · rw [if_neg (by simpa using q)] at ih
      exact ih
    · rw [if_pos (by simpa using q)] at ih
      exact ih
theorem P_share {μ ν : Mem} {a b : Int32} (h : Rel μ ν) : w_X6_share a b μ (fun x => w_X7_share a b ν (fun y => x = y)) := by
  obtain ⟨co, r, U, T, fp, sd, I, G, K, hA, hF, hM⟩ := h
  have hv := hA.1
  have hn := hv.2.2.2.1
  have e3 := hF.2.1.1.2.2.2.1
  have e20 := hM.1.1.2.2.2.1
  unfold w_X6_share w_X7_share
  rcases z_cases b 0 1 (by decide) (by decide) with ⟨v, v1, v2, rfl⟩ | hb
  · refine F_isVillage_in (by omega) ⟨fun _ => ?_, fun z => absurd z (by decide)⟩
    rcases z_cases a 0 999 (by decide) (by decide) with ⟨x, h1, h2, rfl⟩ | ho
    · refine W_in h1 h2 (by decide) ⟨fun _ => ?_, fun z => absurd z (by decide)⟩
      intro x6 hx6
      rw [e3] at hx6
      subst hx6
      rw [z_0lt (by omega)]
      refine ⟨fun q => ?_, fun q => ?_⟩
      · have hne : ¬ nI (co 0 3) = 0 := nI_ne0 q (by omega)
        have pcO : ∀ w, w < 2 → pc (hsN (fun p => decide (co 4 p = w)) (co 0 3)) = own co w := fun w _ => pc_hsN _ hn
        refine F_postsOf hF.2.1 hv (by decide) (J_bits (hsN_64 _ hn) ?_)
        rw [pcO 0 (by decide)]
        intro x12 e12
        refine F_postsOf hF.2.1 hv (by decide) (J_bits (hsN_64 _ hn) ?_)
        rw [pcO 1 (by decide)]
        intro x18 e18
        refine ⟨hne, hne, fun x19 e19 => ⟨hne, fun x20 e20' => ⟨hne, fun x21 e21 => ?_⟩⟩⟩
        have mside : ∀ Q : Int32 → Prop, (∀ l : Nat, (l = 1 ↔ x20 < x21) → l ≤ 1 → Q ((nI x * nI (own co v)) / nI (co 0 3) + (if v = l then x19 else nI 0))) → w_X7_share (nI x) (nI v) ν Q := by
          intro Q hQ
          unfold w_X7_share
          refine M_isVillage_in (by omega) ⟨fun _ => MW_in h1 h2 (by decide) ⟨fun _ => ?_, fun z => absurd z (by decide)⟩, fun z => absurd z (by decide)⟩
          rw [e20]
          refine ⟨fun _ => ?_, fun z => absurd z hne⟩
          refine M_ownedBy hM.1 hv (by decide) ⟨hne, M_ownedBy hM.1 hv (by decide) ⟨hne, fun y9 f9 => M_ownedBy hM.1 hv (by decide) ⟨hne, fun y12 f12 => M_ownedBy hM.1 hv (by decide) ⟨hne, fun y15 f15 => ?_⟩⟩⟩⟩
          have k9 : y9 = x19 := by rw [f9, e19, e12, e18]
          have k12 : y12 = x21 := by rw [f12, e21, e18]
          have k15 : y15 = x20 := by rw [f15, e20', e12]
          rw [k9, k12, k15]
          unfold w_X7_share_93
          rw [e20]
          refine ⟨fun q2 => ?_, fun q2 => ?_⟩
          · refine M_ownedBy hM.1 hv (by omega) ⟨hne, ?_⟩
            have := hQ 0 ⟨fun z => by omega, fun z => absurd q2 (Int32.not_le.mpr z)⟩ (by omega)
            rw [z_eq (by omega) (by omega)]
            refine ⟨fun q3 => ?_, fun q3 => ?_⟩
            · rw [if_neg q3] at this; exact this
            · rw [if_pos q3] at this; exact this
          · refine M_ownedBy hM.1 hv (by omega) ⟨hne, ?_⟩
            have := hQ 1 ⟨fun _ => Int32.not_le.mp q2, fun _ => rfl⟩ (by omega)
            rw [z_eq (by omega) (by omega)]
            refine ⟨fun q3 => ?_, fun q3 => ?_⟩
            · rw [if_neg q3] at this; exact this
            · rw [if_pos q3] at this; exact this
        unfold w_X6_share_97 w_X6_share_110
        have fin : ∀ (l : Nat) (x5 : Int32), (l = 1 ↔ x20 < x21) → l ≤ 1 → x5 = nI x * nI (own co v) → (¬ nI (co 0 3) = 0 ∧ ((¬ nI v = nI l → (fun x1 => w_X7_share (nI x) (nI v) ν (fun y => x1 = y)) ((x5 / nI (co 0 3)) + (nI 0))) ∧ (nI v = nI l → (fun x1 => w_X7_share (nI x) (nI v) ν (fun y => x1 = y)) ((x5 / nI (co 0 3)) + x19)))) := by
          intro l x5 hl hl1 hx5
          refine ⟨hne, ?_, ?_⟩
          · intro q3
            refine mside _ (fun l2 h3 h4 => ?_)
            have hh : l2 = 1 ↔ l = 1 := h3.trans hl.symm
            have : l2 = l := by omega
            rw [this, if_neg (fun z => q3 (by rw [z])), hx5]
          · intro q3
            refine mside _ (fun l2 h3 h4 => ?_)
            have hh : l2 = 1 ↔ l = 1 := h3.trans hl.symm
            have : l2 = l := by omega
            rw [z_eq (by omega) (by omega)] at q3
            rw [this, if_pos q3, hx5]
        have ev : v = 0 ∨ v = 1 := by omega
        refine ⟨fun q2 => ⟨fun q3 => ?_, fun q3 => ?_⟩, fun q2 => ⟨fun q3 => ?_, fun q3 => ?_⟩⟩
        · have : v = 1 := by rcases ev with z | z; exact absurd (by rw [z]; rfl) q3; exact z
          exact fin 1 x18 ⟨fun _ => q2, fun _ => rfl⟩ (by omega) (by rw [e18, this])
        · have : v = 0 := by rw [z_eq0 (by omega)] at q3; exact q3
          exact fin 1 x12 ⟨fun _ => q2, fun _ => rfl⟩ (by omega) (by rw [e12, this])
        · have : v = 1 := by rcases ev with z | z; exact absurd (by rw [z]; rfl) q3; exact z
          exact fin 0 x18 ⟨fun z => by omega, fun z => absurd z q2⟩ (by omega) (by rw [e18, this])
        · have : v = 0 := by rw [z_eq0 (by omega)] at q3; exact q3
          exact fin 0 x12 ⟨fun z => by omega, fun z => absurd z q2⟩ (by omega) (by rw [e12, this])
      · refine M_isVillage_in (by omega) ⟨fun _ => MW_in h1 h2 (by decide) ⟨fun _ => ?_, fun z => absurd z (by decide)⟩, fun z => absurd z (by decide)⟩
        rw [e20]
        exact ⟨fun z => absurd (by rw [show co 0 3 = 0 by omega]; rfl) z, fun _ => rfl⟩
    · refine F_within0 ho ⟨fun z => absurd (by decide) z, fun _ => ?_⟩
      exact M_isVillage_in (by omega) ⟨fun _ => MW_out ho ⟨fun z => absurd (by decide) z, fun _ => rfl⟩, fun z => absurd z (by decide)⟩
  · refine F_isVillage_out hb ⟨fun z => absurd (by decide) z, fun _ => ?_⟩
    exact M_isVillage_out hb ⟨fun z => absurd (by decide) z, fun _ => rfl⟩
