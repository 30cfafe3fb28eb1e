/-! ===== coast ===== -/
theorem CoF.fr3 {μ μ1 : Mem} {R : Nat} {co : Co} (hc : CoF μ R co) (h : ∀ k, R ≤ k → k ≤ R + 10 → μ1.1 k = μ.1 k) : CoF μ1 R co := by
  unfold CoF at hc ⊢
  rw [h R (by omega) (by omega), h (R + 1) (by omega) (by omega), h (R + 2) (by omega) (by omega), h (R + 5) (by omega) (by omega), h (R + 6) (by omega) (by omega), h (R + 7) (by omega) (by omega), h (R + 8) (by omega) (by omega), h (R + 9) (by omega) (by omega), h (R + 10) (by omega) (by omega)]
  exact hc
def rB (n : Nat) (f9 f10 : Nat → Nat) : Ro := fun j => if 15 ≤ j ∧ j < 15 + n then f9 (j - 15) else if 21 ≤ j ∧ j < 21 + n then f10 (j - 21) else 0
theorem rB_lo {n j : Nat} {f9 f10 : Nat → Nat} (h : j < 15) : rB n f9 f10 j = 0 := by
  unfold rB
  rw [if_neg (by omega), if_neg (by omega)]
theorem rB_c {n p : Nat} {f9 f10 : Nat → Nat} (h : p < n) : rB n f9 f10 (15 + p) = f9 p := by
  unfold rB
  rw [if_pos (by omega), show 15 + p - 15 = p by omega]
theorem rB_m {n p : Nat} {f9 f10 : Nat → Nat} (hn : n ≤ 6) (h : p < n) : rB n f9 f10 (21 + p) = f10 p := by
  unfold rB
  rw [if_neg (by omega), if_pos (by omega), show 21 + p - 21 = p by omega]
theorem rB_o {n j : Nat} {f9 f10 : Nat → Nat} (h : ¬ (15 ≤ j ∧ j < 15 + n)) (h2 : ¬ (21 ≤ j ∧ j < 21 + n)) : rB n f9 f10 j = 0 := by
  unfold rB
  rw [if_neg h, if_neg h2]
theorem F_begin {μ : Mem} {b R n : Nat} {f9 f10 : Nat → Nat} {Q : Mem → Prop} (hb : b = 25) (hR : R = 3 ∨ R = 14) (hn : n ≤ 6) (h9 : ∀ p, p < n → μ.1 (R + 3) p = nI (f9 p) ∧ μ.1 (R + 4) p = nI (f10 p)) (hm : ∀ p, n ≤ p → p < 6 → μ.1 (R + 3) p = -1)
    (h : ∀ μ' : Mem, FrS b μ μ' → StF μ' b n (rB n f9 f10) → Q μ') : w_X4_begin b R μ Q := by
  unfold w_X4_begin
  intro μ1 e1 μ2 e2 μ3 e3 μ4 e4 μ5 e5
  have f5 : FrS b μ μ5 := by
    rw [e5, e4, e3, e2, e1]
    exact ((((FrS.rf.sI (by omega)).sI (by omega)).sI (by omega)).sI (by omega)).sI (by omega)
  have z5 : ∀ j, j < 5 → μ5.1 b j = nI 0 := by
    intro j hj
    rw [e5, e4, e3, e2, e1]
    rcases (by omega : j = 0 ∨ j = 1 ∨ j = 2 ∨ j = 3 ∨ j = 4) with rfl | rfl | rfl | rfl | rfl <;> simp (disch := omega) only [z_le, z_lt, z_eq, z_lt0, z_0le, z_eq0, z_le0, z_0lt, z_cl, z_in, z_add, z_mul, z_m1ne, z_m1ne', z_m1lt0, z_m1lt, z_ltm1, forall_eq, true_implies, false_implies, implies_true, true_and, and_true, false_and, and_false, not_true_eq_false, not_false_eq_true, ite_true, ite_false, sI_same, sI_ne1, sI_ne2, sA_same, sA_ne, sI_2, sA_2, sL_1, sR_1]
  clear e5 e4 e3 e2 e1
  have two : ∀ μ6 : Mem, FrS b μ μ6 → (∀ j, j < 5 → μ6.1 b j = nI 0) → (∀ p, p < 6 → μ6.1 (b + 1) p = μ.1 (R + 3) p ∧ μ6.1 (b + 2) p = μ.1 (R + 4) p ∧ μ6.1 (b + 3) p = nI 0) → w_X4_begin_70 b R μ6 Q := by
    intro μ6 g6 x0 x1
    unfold w_X4_begin_70 w_X4_begin_72
    intro Y hY
    refine cnt_dn (P := fun k => k ≤ 2 → ∀ μ7 : Mem, FrS b μ μ7 → (∀ j, j < 5 → μ7.1 b j = nI 0) → (∀ p, p < 6 → μ7.1 (b + 1) p = μ.1 (R + 3) p ∧ μ7.1 (b + 2) p = μ.1 (R + 4) p ∧ μ7.1 (b + 3) p = nI 0) → (∀ v, v < k → μ7.1 (b + 4) v = nI 0 ∧ μ7.1 (b + 5) v = nI 0) → Y (nI k) μ7) 2 ?_ ?_ (by decide) μ6 g6 x0 x1 (fun v hv => by omega)
    · intro _ μ7 g7 y0 y1 y2
      apply hY
      unfold s_X4_begin_72
      refine ⟨fun _ => h μ7 g7 ?_, fun z => absurd (by decide) z⟩
      unfold StF
      refine ⟨⟨?_, ?_, ?_, ?_, ?_⟩, fun p hp => ?_, fun p h1 h2 => ?_, fun v hv => ?_⟩
      · rw [y0 0 (by decide), rB_lo (by decide)]
      · rw [y0 1 (by decide), rB_lo (by decide)]
      · rw [y0 2 (by decide), rB_lo (by decide)]
      · rw [y0 3 (by decide), rB_lo (by decide)]
      · rw [y0 4 (by decide), rB_lo (by decide)]
      · have a := y1 p (by omega)
        rw [a.1, a.2.1, a.2.2, (h9 p hp).1, (h9 p hp).2, rB_c hp, rB_m hn hp, rB_lo (by omega)]
        exact ⟨rfl, rfl, rfl⟩
      · have a := y1 p h2
        rw [a.1, a.2.2, hm p h1 h2]
        exact ⟨rfl, rfl⟩
      · rw [(y2 v hv).1, (y2 v hv).2, rB_lo (by omega), rB_lo (by omega)]
        exact ⟨rfl, rfl⟩
    · intro k hk ih _ μ7 g7 y0 y1 y2
      apply hY
      unfold s_X4_begin_72
      simp (disch := omega) only [z_le, z_lt, z_eq, z_lt0, z_0le, z_eq0, z_le0, z_0lt, z_cl, z_in, z_add, z_mul, z_m1ne, z_m1ne', z_m1lt0, z_m1lt, z_ltm1, forall_eq, true_implies, false_implies, implies_true, true_and, and_true, false_and, and_false, not_true_eq_false, not_false_eq_true, ite_true, ite_false]
      refine ⟨fun z => by omega, fun _ => ⟨hk, hk, ?_⟩⟩
      refine ih (by omega) _ ((g7.sI (k := b + 4) (by omega)).sI (k := b + 5) (by omega)) (fun j hj => by rw [sI_ne1 (by omega), sI_ne1 (by omega)]; exact y0 j hj) (fun p hp => by rw [sI_ne1 (by omega), sI_ne1 (by omega), sI_ne1 (by omega), sI_ne1 (by omega), sI_ne1 (by omega), sI_ne1 (by omega)]; exact y1 p hp) (fun v hv => ?_)
      by_cases e : v = k
      · subst e; simp (disch := omega) only [z_le, z_lt, z_eq, z_lt0, z_0le, z_eq0, z_le0, z_0lt, z_cl, z_in, z_add, z_mul, z_m1ne, z_m1ne', z_m1lt0, z_m1lt, z_ltm1, forall_eq, true_implies, false_implies, implies_true, true_and, and_true, false_and, and_false, not_true_eq_false, not_false_eq_true, ite_true, ite_false, sI_same, sI_ne1, sI_ne2, sA_same, sA_ne, sI_2, sA_2, sL_1, sR_1]
      · simp (disch := omega) only [z_le, z_lt, z_eq, z_lt0, z_0le, z_eq0, z_le0, z_0lt, z_cl, z_in, z_add, z_mul, z_m1ne, z_m1ne', z_m1lt0, z_m1lt, z_ltm1, forall_eq, true_implies, false_implies, implies_true, true_and, and_true, false_and, and_false, not_true_eq_false, not_false_eq_true, ite_true, ite_false, sI_same, sI_ne1, sI_ne2, sA_same, sA_ne, sI_2, sA_2, sL_1, sR_1]; exact y2 v (by omega)
  unfold w_X4_begin_27
  intro X hX
  refine cnt_dn (P := fun k => k ≤ 6 → ∀ μ7 : Mem, FrS b μ μ7 → (∀ j, j < 5 → μ7.1 b j = nI 0) → (∀ p, p < k → μ7.1 (b + 1) p = μ.1 (R + 3) p ∧ μ7.1 (b + 2) p = μ.1 (R + 4) p ∧ μ7.1 (b + 3) p = nI 0) → X (nI k) μ7) 6 ?_ ?_ (by decide) μ5 f5 z5 (fun v hv => by omega)
  · intro _ μ7 g7 y0 y1
    apply hX
    unfold s_X4_begin_27
    exact ⟨fun _ => two μ7 g7 y0 y1, fun z => absurd (by decide) z⟩
  · intro k hk ih _ μ7 g7 y0 y1
    apply hX
    unfold s_X4_begin_27
    simp (disch := omega) only [z_le, z_lt, z_eq, z_lt0, z_0le, z_eq0, z_le0, z_0lt, z_cl, z_in, z_add, z_mul, z_m1ne, z_m1ne', z_m1lt0, z_m1lt, z_ltm1, forall_eq, true_implies, false_implies, implies_true, true_and, and_true, false_and, and_false, not_true_eq_false, not_false_eq_true, ite_true, ite_false]
    refine ⟨fun z => by omega, fun _ => ⟨hk, hk, hk, hk, hk, ?_⟩⟩
    have q3 : (sI μ7 (b + 1) k (μ7.1 (R + 3) k)).1 (R + 4) = μ.1 (R + 4) := by rw [sI_r (by omega)]; exact g7.2 _ (by omega)
    have q4 : μ7.1 (R + 3) = μ.1 (R + 3) := g7.2 _ (by omega)
    rw [q3, q4]
    refine ih (by omega) _ (((g7.sI (k := b + 1) (by omega)).sI (k := b + 2) (by omega)).sI (k := b + 3) (by omega)) (fun j hj => by rw [sI_ne1 (by omega), sI_ne1 (by omega), sI_ne1 (by omega)]; exact y0 j hj) (fun p hp => ?_)
    by_cases e : p = k
    · subst e; simp (disch := omega) only [z_le, z_lt, z_eq, z_lt0, z_0le, z_eq0, z_le0, z_0lt, z_cl, z_in, z_add, z_mul, z_m1ne, z_m1ne', z_m1lt0, z_m1lt, z_ltm1, forall_eq, true_implies, false_implies, implies_true, true_and, and_true, false_and, and_false, not_true_eq_false, not_false_eq_true, ite_true, ite_false, sI_same, sI_ne1, sI_ne2, sA_same, sA_ne, sI_2, sA_2, sL_1, sR_1]
    · simp (disch := omega) only [z_le, z_lt, z_eq, z_lt0, z_0le, z_eq0, z_le0, z_0lt, z_cl, z_in, z_add, z_mul, z_m1ne, z_m1ne', z_m1lt0, z_m1lt, z_ltm1, forall_eq, true_implies, false_implies, implies_true, true_and, and_true, false_and, and_false, not_true_eq_false, not_false_eq_true, ite_true, ite_false, sI_same, sI_ne1, sI_ne2, sA_same, sA_ne, sI_2, sA_2, sL_1, sR_1]; exact y1 p (by omega)
section COAST
variable {co : Co} {r : Ro} {U : Un} {T : Tx} {fp : Int32} {sd : Nat} {I : Im} {G K : Gt}
abbrev pco (T : Tx) : Co := (prs T 240 0 co0).2
abbrev prB (T : Tx) : Ro := rB (pco T 0 3) (pco T 9) (pco T 10)
end COAST
