/-! ===== the reference's coast; both alike ===== -/
theorem prs_bare {T : Tx} : ∀ d i co, (prs T d i co).2 = co ∨ (prs T d i co).2 0 0 ≠ 0 := by
  intro d
  induction d with
  | zero => intro i co; exact Or.inl rfl
  | succ d ih =>
    intro i co
    by_cases h : sk T i < T.1
    · cases q : clP T co (sk T i) with
      | inl e => rw [prs_inl h q]; exact Or.inl rfl
      | inr i' =>
        rw [prs_inr h q]
        rcases ih i' (clC T co (sk T i)) with e | e
        · right; rw [e]; exact clC_ne h q
        · exact Or.inr e
    · rw [show prs T (d + 1) i co = (.inr (sk T i), co) by unfold prs; rw [if_neg h]]; exact Or.inl rfl
theorem rB_s {i j : Nat} {f9 f10 : Nat → Nat} (h1 : ¬ j = 15 + i) (h2 : ¬ j = 21 + i) : rB (i + 1) f9 f10 j = rB i f9 f10 j := by
  unfold rB
  by_cases a : 15 ≤ j ∧ j < 15 + i
  · rw [if_pos (show 15 ≤ j ∧ j < 15 + (i + 1) by omega), if_pos a]
  · rw [if_neg (show ¬ (15 ≤ j ∧ j < 15 + (i + 1)) by omega), if_neg a]
    by_cases b : 21 ≤ j ∧ j < 21 + i
    · rw [if_pos (show 21 ≤ j ∧ j < 21 + (i + 1) by omega), if_pos b]
    · rw [if_neg (show ¬ (21 ≤ j ∧ j < 21 + (i + 1)) by omega), if_neg b]
section MCO
variable {ν : Mem} {Q : Int32 → Mem → Prop}
theorem M_c144 (h : ∀ ν' : Mem, ν'.2 = ν.2 → (∀ k, k ≠ 8 → ν'.1 k = ν.1 k) → (∀ k, k < 24 → ν'.1 8 k = ν.1 5 k) → w_X7_coast_168 ν' Q) : w_X7_coast_144 (nI 0) ν Q := by
  unfold w_X7_coast_144
  intro X hX
  refine cnt_dn (P := fun i => i ≤ 24 → ∀ ν1 : Mem, ν1.2 = ν.2 → (∀ k, k ≠ 8 → ν1.1 k = ν.1 k) → (∀ k, k < i → ν1.1 8 k = ν.1 5 k) → X (nI i) ν1) 24 ?_ ?_ (by decide) ν rfl (fun _ _ => rfl) (fun k hk => by omega)
  · intro _ ν1 g2 g1 g0
    apply hX
    unfold s_X7_coast_144
    exact ⟨fun _ => h ν1 g2 g1 g0, fun z => absurd (by decide) z⟩
  · intro i hi ih _ ν1 g2 g1 g0
    apply hX
    unfold s_X7_coast_144
    simp (disch := omega) only [z_le, z_lt, z_eq, z_lt0, z_0le, z_eq0, z_le0, z_0lt, z_cl, z_in, z_add, z_mul, z_m1ne, z_m1ne', z_m1lt0, z_m1lt, z_ltm1, forall_eq, true_implies, false_implies, implies_true, true_and, and_true, false_and, and_false, not_true_eq_false, not_false_eq_true, ite_true, ite_false]
    refine ⟨fun z => by omega, fun _ => ⟨hi, hi, ?_⟩⟩
    refine ih (by omega) _ g2 (fun k hk => by rw [sI_r hk]; exact g1 k hk) (fun k hk => ?_)
    by_cases e : k = i
    · subst e; rw [sI_same, g1 5 (by decide)]
    · rw [sI_ne2 e]; exact g0 k (by omega)
theorem M_c170 (h : ∀ ν' : Mem, ν'.2 = ν.2 → (∀ k, k ≠ 11 → ν'.1 k = ν.1 k) → (∀ k, k < 8 → ν'.1 11 k = ν.1 7 k) → w_X7_coast_194 ν' Q) : w_X7_coast_170 (nI 0) ν Q := by
  unfold w_X7_coast_170
  intro X hX
  refine cnt_dn (P := fun i => i ≤ 8 → ∀ ν1 : Mem, ν1.2 = ν.2 → (∀ k, k ≠ 11 → ν1.1 k = ν.1 k) → (∀ k, k < i → ν1.1 11 k = ν.1 7 k) → X (nI i) ν1) 8 ?_ ?_ (by decide) ν rfl (fun _ _ => rfl) (fun k hk => by omega)
  · intro _ ν1 g2 g1 g0
    apply hX
    unfold s_X7_coast_170
    exact ⟨fun _ => h ν1 g2 g1 g0, fun z => absurd (by decide) z⟩
  · intro i hi ih _ ν1 g2 g1 g0
    apply hX
    unfold s_X7_coast_170
    simp (disch := omega) only [z_le, z_lt, z_eq, z_lt0, z_0le, z_eq0, z_le0, z_0lt, z_cl, z_in, z_add, z_mul, z_m1ne, z_m1ne', z_m1lt0, z_m1lt, z_ltm1, forall_eq, true_implies, false_implies, implies_true, true_and, and_true, false_and, and_false, not_true_eq_false, not_false_eq_true, ite_true, ite_false]
    refine ⟨fun z => by omega, fun _ => ⟨hi, hi, ?_⟩⟩
    refine ih (by omega) _ g2 (fun k hk => by rw [sI_r hk]; exact g1 k hk) (fun k hk => ?_)
    by_cases e : k = i
    · subst e; rw [sI_same, g1 7 (by decide)]
    · rw [sI_ne2 e]; exact g0 k (by omega)
theorem M_c196 {f5 f6 : Nat → Nat} {y : Nat} (hy : y ≤ 1) (e8 : ν.1 0 8 = nI y) (hv : ∀ v, v < 2 → ν.1 3 v = nI (f5 v) ∧ ν.1 4 v = nI (f6 v)) (h0 : y = 0 → ∀ v, f5 v = 127 ∧ f6 v = 0)
    (h : ∀ ν' : Mem, ν'.2 = ν.2 → (∀ k, k ≠ 12 → k ≠ 13 → ν'.1 k = ν.1 k) → (∀ v, v < 2 → ν'.1 12 v = nI (f5 v) ∧ ν'.1 13 v = nI (f6 v)) → w_X7_coast_254 ν' Q) : w_X7_coast_196 (nI 0) ν Q := by
  unfold w_X7_coast_196
  intro X hX
  refine cnt_dn (P := fun i => i ≤ 2 → ∀ ν1 : Mem, ν1.2 = ν.2 → (∀ k, k ≠ 12 → k ≠ 13 → ν1.1 k = ν.1 k) → (∀ v, v < i → ν1.1 12 v = nI (f5 v) ∧ ν1.1 13 v = nI (f6 v)) → X (nI i) ν1) 2 ?_ ?_ (by decide) ν rfl (fun _ _ _ => rfl) (fun k hk => by omega)
  · intro _ ν1 g2 g1 g0
    apply hX
    unfold s_X7_coast_196
    exact ⟨fun _ => h ν1 g2 g1 g0, fun z => absurd (by decide) z⟩
  · intro i hi ih _ ν1 g2 g1 g0
    have hvi := hv i hi
    have nxt : ∀ x5 x6, x5 = nI (f5 i) → x6 = nI (f6 i) → X (nI (i + 1)) (sI (sI ν1 12 i x5) 13 i x6) := by
      intro x5 x6 k5 k6
      subst k5 k6
      refine ih (by omega) _ g2 (fun k k1 k2 => by rw [sI_r k2, sI_r k1]; exact g1 k k1 k2) (fun v hv => ?_)
      by_cases e : v = i
      · subst e; simp (disch := omega) only [z_le, z_lt, z_eq, z_lt0, z_0le, z_eq0, z_le0, z_0lt, z_cl, z_in, z_add, z_mul, z_m1ne, z_m1ne', z_m1lt0, z_m1lt, z_ltm1, forall_eq, true_implies, false_implies, implies_true, true_and, and_true, false_and, and_false, not_true_eq_false, not_false_eq_true, ite_true, ite_false, sI_same, sI_ne1, sI_ne2, sA_same, sA_ne, sI_2, sA_2, sL_1, sR_1]
      · simp (disch := omega) only [z_le, z_lt, z_eq, z_lt0, z_0le, z_eq0, z_le0, z_0lt, z_cl, z_in, z_add, z_mul, z_m1ne, z_m1ne', z_m1lt0, z_m1lt, z_ltm1, forall_eq, true_implies, false_implies, implies_true, true_and, and_true, false_and, and_false, not_true_eq_false, not_false_eq_true, ite_true, ite_false, sI_same, sI_ne1, sI_ne2, sA_same, sA_ne, sI_2, sA_2, sL_1, sR_1]; exact g0 v (by omega)
    have z8 : ∀ x, (sI ν1 12 i x).1 0 8 = nI y := fun x => by rw [sI_ne1 (by decide), g1 0 (by decide) (by decide)]; exact e8
    have q47 : ∀ x5 x6, x5 = nI (f5 i) → x6 = nI (f6 i) → w_X7_coast_247 X (nI i) x6 (nI i) (sI ν1 12 i x5) Q := by
      intro x5 x6 k5 k6
      unfold w_X7_coast_247
      simp (disch := omega) only [z_le, z_lt, z_eq, z_lt0, z_0le, z_eq0, z_le0, z_0lt, z_cl, z_in, z_add, z_mul, z_m1ne, z_m1ne', z_m1lt0, z_m1lt, z_ltm1, forall_eq, true_implies, false_implies, implies_true, true_and, and_true, false_and, and_false, not_true_eq_false, not_false_eq_true, ite_true, ite_false]
      exact ⟨hi, nxt x5 x6 k5 k6⟩
    have q24 : ∀ x5, x5 = nI (f5 i) → w_X7_coast_224 X (nI i) x5 (nI i) ν1 Q := by
      intro x5 k5
      unfold w_X7_coast_224
      rw [z_in (by omega) (by decide), z_cl (by omega)]
      refine ⟨hi, fun μ16 e16 => ?_⟩
      subst e16
      rw [z8, z_eq0 (by omega)]
      refine ⟨fun z => q47 x5 (nI 0) k5 (by rw [(h0 z i).2]), fun z => ⟨hi, q47 x5 _ k5 ?_⟩⟩
      rw [sI_ne1 (by decide), g1 4 (by decide) (by decide)]
      exact hvi.2
    apply hX
    unfold s_X7_coast_196
    rw [z_le (by decide) (by omega), g1 0 (by decide) (by decide), e8, z_eq0 (by omega), z_in (by omega) (by decide), z_cl (by omega)]
    refine ⟨fun z => by omega, fun _ => ⟨fun z => q24 (nI 127) (by rw [(h0 z i).1]), fun z => ⟨hi, q24 _ ?_⟩⟩⟩
    rw [g1 3 (by decide) (by decide)]
    exact hvi.1
theorem M_c256 (h : ∀ ν' : Mem, ν'.2 = ν.2 → (∀ k, k ≠ 14 → ν'.1 k = ν.1 k) → (∀ k, k < 27 → ν'.1 14 k = nI 0) → w_X7_coast_275 ν' Q) : w_X7_coast_256 (nI 0) ν Q := by
  unfold w_X7_coast_256
  intro X hX
  refine cnt_dn (P := fun i => i ≤ 27 → ∀ ν1 : Mem, ν1.2 = ν.2 → (∀ k, k ≠ 14 → ν1.1 k = ν.1 k) → (∀ k, k < i → ν1.1 14 k = nI 0) → X (nI i) ν1) 27 ?_ ?_ (by decide) ν rfl (fun _ _ => rfl) (fun k hk => by omega)
  · intro _ ν1 g2 g1 g0
    apply hX
    unfold s_X7_coast_256
    exact ⟨fun _ => h ν1 g2 g1 g0, fun z => absurd (by decide) z⟩
  · intro i hi ih _ ν1 g2 g1 g0
    apply hX
    unfold s_X7_coast_256
    simp (disch := omega) only [z_le, z_lt, z_eq, z_lt0, z_0le, z_eq0, z_le0, z_0lt, z_cl, z_in, z_add, z_mul, z_m1ne, z_m1ne', z_m1lt0, z_m1lt, z_ltm1, forall_eq, true_implies, false_implies, implies_true, true_and, and_true, false_and, and_false, not_true_eq_false, not_false_eq_true, ite_true, ite_false]
    refine ⟨fun z => by omega, fun _ => ⟨hi, ?_⟩⟩
    refine ih (by omega) _ g2 (fun k hk => by rw [sI_r hk]; exact g1 k hk) (fun k hk => ?_)
    by_cases e : k = i
    · subst e; rw [sI_same]
    · rw [sI_ne2 e]; exact g0 k (by omega)
theorem M_c277 {n : Nat} {f9 f10 f3 f4 : Nat → Nat} (hn : n ≤ 6) (e20 : ν.1 0 20 = nI n) (h6 : ∀ p, p < n → ν.1 6 (4 * p) = nI (f9 p) ∧ ν.1 6 (4 * p + 1) = nI (f10 p) ∧ ν.1 6 (4 * p + 2) = nI (f3 p) ∧ ν.1 6 (4 * p + 3) = nI (f4 p)) (h14 : ∀ k, k < 27 → ν.1 14 k = nI 0)
    (h : ∀ ν' : Mem, ν'.2 = ν.2 → (∀ k, k ≠ 9 → k ≠ 10 → k ≠ 14 → ν'.1 k = ν.1 k) → (∀ p, p < n → ν'.1 9 p = nI (f3 p) ∧ ν'.1 10 p = nI (f4 p)) → StR ν' 14 (rB n f9 f10) → w_X7_coast_359 ν' Q) : w_X7_coast_277 (nI 0) ν Q := by
  unfold w_X7_coast_277
  intro X hX
  refine cnt_dn (P := fun i => i ≤ n → ∀ ν1 : Mem, ν1.2 = ν.2 → (∀ k, k ≠ 9 → k ≠ 10 → k ≠ 14 → ν1.1 k = ν.1 k) → (∀ p, p < i → ν1.1 9 p = nI (f3 p) ∧ ν1.1 10 p = nI (f4 p)) → StR ν1 14 (rB i f9 f10) → X (nI i) ν1) n ?_ ?_ (by omega) ν rfl (fun _ _ _ _ => rfl) (fun k hk => by omega) (fun j hj => by rw [h14 j hj, rB_o (by omega) (by omega)])
  · intro _ ν1 g2 g1 g0 gs
    apply hX
    unfold s_X7_coast_277
    rw [g1 0 (by decide) (by decide) (by decide), e20]
    exact ⟨fun _ => h ν1 g2 g1 g0 gs, fun z => absurd ((z_le (by omega) (by omega)).mpr (Nat.le_refl _)) z⟩
  · intro i hi ih _ ν1 g2 g1 g0 gs
    apply hX
    unfold s_X7_coast_277
    obtain ⟨k9, k10, k3, k4⟩ := h6 i hi
    have q6 : ν1.1 6 = ν.1 6 := g1 6 (by decide) (by decide) (by decide)
    rw [g1 0 (by decide) (by decide) (by decide), e20]
    simp (disch := omega) only [z_le, z_lt, z_eq, z_lt0, z_0le, z_eq0, z_le0, z_0lt, z_cl, z_in, z_add, z_mul, z_m1ne, z_m1ne', z_m1lt0, z_m1lt, z_ltm1, forall_eq, true_implies, false_implies, implies_true, true_and, and_true, false_and, and_false, not_true_eq_false, not_false_eq_true, ite_true, ite_false, sI_same, sI_ne1, sI_ne2, sA_same, sA_ne, sI_2, sA_2, sL_1, sR_1, q6, k9, k10, k3, k4]
    refine ⟨fun z => by omega, fun _ => ⟨by omega, by omega, by omega, by omega, by omega, by omega, by omega, by omega, ?_⟩⟩
    refine ih (by omega) _ g2 (fun k a b c => by rw [sI_r b, sI_r a, sI_r c, sI_r c]; exact g1 k a b c) (fun p hp => ?_) (fun j hj => ?_)
    · by_cases e : p = i
      · subst e; simp (disch := omega) only [z_le, z_lt, z_eq, z_lt0, z_0le, z_eq0, z_le0, z_0lt, z_cl, z_in, z_add, z_mul, z_m1ne, z_m1ne', z_m1lt0, z_m1lt, z_ltm1, forall_eq, true_implies, false_implies, implies_true, true_and, and_true, false_and, and_false, not_true_eq_false, not_false_eq_true, ite_true, ite_false, sI_same, sI_ne1, sI_ne2, sA_same, sA_ne, sI_2, sA_2, sL_1, sR_1]
      · simp (disch := omega) only [z_le, z_lt, z_eq, z_lt0, z_0le, z_eq0, z_le0, z_0lt, z_cl, z_in, z_add, z_mul, z_m1ne, z_m1ne', z_m1lt0, z_m1lt, z_ltm1, forall_eq, true_implies, false_implies, implies_true, true_and, and_true, false_and, and_false, not_true_eq_false, not_false_eq_true, ite_true, ite_false, sI_same, sI_ne1, sI_ne2, sA_same, sA_ne, sI_2, sA_2, sL_1, sR_1]; exact g0 p (by omega)
    · by_cases e : j = 15 + i
      · subst e; rw [rB_c (by omega)]; simp (disch := omega) only [z_le, z_lt, z_eq, z_lt0, z_0le, z_eq0, z_le0, z_0lt, z_cl, z_in, z_add, z_mul, z_m1ne, z_m1ne', z_m1lt0, z_m1lt, z_ltm1, forall_eq, true_implies, false_implies, implies_true, true_and, and_true, false_and, and_false, not_true_eq_false, not_false_eq_true, ite_true, ite_false, sI_same, sI_ne1, sI_ne2, sA_same, sA_ne, sI_2, sA_2, sL_1, sR_1]
      · by_cases e2 : j = 21 + i
        · subst e2; rw [rB_m (by omega) (by omega)]; simp (disch := omega) only [z_le, z_lt, z_eq, z_lt0, z_0le, z_eq0, z_le0, z_0lt, z_cl, z_in, z_add, z_mul, z_m1ne, z_m1ne', z_m1lt0, z_m1lt, z_ltm1, forall_eq, true_implies, false_implies, implies_true, true_and, and_true, false_and, and_false, not_true_eq_false, not_false_eq_true, ite_true, ite_false, sI_same, sI_ne1, sI_ne2, sA_same, sA_ne, sI_2, sA_2, sL_1, sR_1]
        · have := gs j hj
          simp (disch := omega) only [z_le, z_lt, z_eq, z_lt0, z_0le, z_eq0, z_le0, z_0lt, z_cl, z_in, z_add, z_mul, z_m1ne, z_m1ne', z_m1lt0, z_m1lt, z_ltm1, forall_eq, true_implies, false_implies, implies_true, true_and, and_true, false_and, and_false, not_true_eq_false, not_false_eq_true, ite_true, ite_false, sI_same, sI_ne1, sI_ne2, sA_same, sA_ne, sI_2, sA_2, sL_1, sR_1, this]
          rw [rB_s e e2]
end MCO
section COAST
variable {co : Co} {r : Ro} {U : Un} {T : Tx} {fp : Int32} {sd : Nat} {I : Im} {G K : Gt}
theorem M_coast {ν : Mem} {Q : Int32 → Mem → Prop} (hA : VA co r U T sd I G K) (hM : RM ν co r U T fp sd I G K)
    (h1 : ∀ (e : Nat × Nat) (ν' : Mem), (prs T 240 0 co0).1 = .inl e → RM ν' co r U (0, T.2) (nI e.2) sd I G K → Q ((-10) - nI e.1) ν')
    (h2 : ∀ (i' : Nat) (ν' : Mem), (prs T 240 0 co0).1 = .inr i' → RM ν' (pco T) (prB T) (0, U.2) (0, T.2) (-1) sd (fun _ => none) (0, G.2) (0, K.2) → Q (nI (pco T 0 3)) ν') : w_X7_coast ν Q := by
  have hT : vTx T := hA.2.2.2.1
  unfold w_X7_coast
  refine M_reads hT hM.2.2.2.1 (fun i' ν2 f2 est d2 e8 => ?_) (fun e ν2 f2 est r2 => ?_)
  · intro μ3 e3
    refine ⟨fun _ => ?_, fun z => absurd z (by decide)⟩
    have hv := prs_v (T := T) 240 0 co0 vP_0
    have hbare : (prs T 240 0 co0).2 0 0 = 0 → (prs T 240 0 co0).2 = co0 := fun z => (prs_bare 240 0 co0).resolve_right (fun y => y z)
    have hn6 := hv.1.2.2.2.1
    have hd0 := d2.1
    obtain ⟨b5, b6, b7, _, _⟩ := d2.2.1
    have hd3 := d2.2.2
    obtain ⟨c0, c1, c2, c3, c4, c5, _⟩ := hv.1
    generalize hy : (if (prs T 240 0 co0).2 0 0 = 0 then 0 else 1) = y at e8
    have hy1 : y ≤ 1 := by rw [← hy]; split <;> omega
    have hy0 : y = 0 → (prs T 240 0 co0).2 0 0 = 0 := by
      intro z
      rw [← hy] at z
      by_cases q : (prs T 240 0 co0).2 0 0 = 0
      · exact q
      · rw [if_neg q] at z; omega
    have hyn : y ≠ 0 → (prs T 240 0 co0).2 0 0 ≠ 0 := by
      intro z q
      rw [if_pos q] at hy
      exact z hy.symm
    have two : ∀ (x : Int32) (v : Nat) (P : Int32 → Prop), (y = 0 → v = 0) → (y ≠ 0 → x = nI v) → P (nI v) → (nI y = 0 → P (nI 0)) ∧ (¬ nI y = 0 → P x) := by
      intro x v P k0 k1 hP
      rw [z_eq0 (by omega)]
      refine ⟨fun z => ?_, fun z => ?_⟩
      · rw [k0 z] at hP; exact hP
      · rw [k1 z]; exact hP
    have twoV : ∀ (x : Int32) (v : Nat) (A : Prop) (P : Int32 → Prop), A → (y = 0 → v = 0) → (y ≠ 0 → x = nI v) → P (nI v) → (nI y = 0 → P (nI 0)) ∧ (¬ nI y = 0 → (A ∧ P x)) := by
      intro x v A P hA k0 k1 hP
      rw [z_eq0 (by omega)]
      refine ⟨fun z => ?_, fun z => ⟨hA, ?_⟩⟩
      · rw [k0 z] at hP; exact hP
      · rw [k1 z]; exact hP
    intro μ4 e4
    have m4 : ∀ k, k ≠ 0 → μ4.1 k = ν2.1 k := fun k hk => by rw [e4, e3, sI_r hk, sI_r hk]
    have s4 : ∀ j, j ≠ 0 → j ≠ 2 → μ4.1 0 j = ν2.1 0 j := fun j j0 j2 => by rw [e4, e3, sI_ne2 j2, sI_ne2 j0]
    have x0 : μ4.1 0 0 = nI 0 := by rw [e4, e3]; simp (disch := omega) only [z_le, z_lt, z_eq, z_lt0, z_0le, z_eq0, z_le0, z_0lt, z_cl, z_in, z_add, z_mul, z_m1ne, z_m1ne', z_m1lt0, z_m1lt, z_ltm1, forall_eq, true_implies, false_implies, implies_true, true_and, and_true, false_and, and_false, not_true_eq_false, not_false_eq_true, ite_true, ite_false, sI_same, sI_ne1, sI_ne2, sA_same, sA_ne, sI_2, sA_2, sL_1, sR_1]
    have x2 : μ4.1 0 2 = -1 := by rw [e4]; simp (disch := omega) only [z_le, z_lt, z_eq, z_lt0, z_0le, z_eq0, z_le0, z_0lt, z_cl, z_in, z_add, z_mul, z_m1ne, z_m1ne', z_m1lt0, z_m1lt, z_ltm1, forall_eq, true_implies, false_implies, implies_true, true_and, and_true, false_and, and_false, not_true_eq_false, not_false_eq_true, ite_true, ite_false, sI_same, sI_ne1, sI_ne2, sA_same, sA_ne, sI_2, sA_2, sL_1, sR_1]
    have l4 : μ4.2 = ν2.2 := by rw [e4, e3]; rfl
    clear e4 e3
    rw [s4 8 (by decide) (by decide), e8]
    refine ⟨by rcases (by omega : y = 0 ∨ y = 1) with rfl | rfl; exact Or.inl rfl; exact Or.inr rfl, fun μ5 e5 => ?_⟩
    have s58 : μ5.1 0 8 = nI y := by rw [e5, sI_ne2 (by decide), s4 8 (by decide) (by decide)]; exact e8
    have s52 : μ5.1 2 = ν2.1 2 := by rw [e5, sI_r (by decide)]; exact m4 2 (by decide)
    rw [s58, z_cl (by decide), s52]
    refine twoV _ (pco T 0 0) _ (fun x => w_X7_coast_61 x μ5 Q) (vp_in_nI (by decide) (by decide)) hy0 (fun z => (hd0 (hyn z)).1) ?_
    unfold w_X7_coast_61
    intro μ7 e7
    have s78 : μ7.1 0 8 = nI y := by rw [e7, sI_ne2 (by decide)]; exact s58
    have s72 : μ7.1 2 = ν2.1 2 := by rw [e7, sI_r (by decide)]; exact s52
    rw [s78, z_cl (by decide), s72]
    refine twoV _ (pco T 0 1) _ (fun x => w_X7_coast_82 x μ7 Q) (vp_in_nI (by decide) (by decide)) (fun z => (c5 (hy0 z)).1) (fun z => (hd0 (hyn z)).2) ?_
    unfold w_X7_coast_82
    intro μ8 e8'
    have s88 : μ8.1 0 8 = nI y := by rw [e8', sI_ne2 (by decide)]; exact s78
    have s85 : μ8.1 0 5 = nI (pco T 0 3) := by rw [e8', e7, e5, sI_ne2 (by decide), sI_ne2 (by decide), sI_ne2 (by decide), s4 5 (by decide) (by decide)]; exact b5
    rw [s88, s85]
    refine two _ (pco T 0 3) (fun x => w_X7_coast_101 x μ8 Q) (fun z => (c5 (hy0 z)).2.2.1) (fun _ => rfl) ?_
    unfold w_X7_coast_101
    intro μ9 e9
    have s98 : μ9.1 0 8 = nI y := by rw [e9, sI_ne2 (by decide)]; exact s88
    have s96 : μ9.1 0 6 = nI (pco T 0 2) := by rw [e9, e8', e7, e5, sI_ne2 (by decide), sI_ne2 (by decide), sI_ne2 (by decide), sI_ne2 (by decide), s4 6 (by decide) (by decide)]; exact b6
    rw [s98, s96]
    refine two _ (pco T 0 2) (fun x => w_X7_coast_120 x μ9 Q) (fun z => (c5 (hy0 z)).2.1) (fun _ => rfl) ?_
    unfold w_X7_coast_120
    intro μ10 e10
    have s108 : μ10.1 0 8 = nI y := by rw [e10, sI_ne2 (by decide)]; exact s98
    have s107 : μ10.1 0 7 = nI (pco T 0 4) := by rw [e10, e9, e8', e7, e5, sI_ne2 (by decide), sI_ne2 (by decide), sI_ne2 (by decide), sI_ne2 (by decide), sI_ne2 (by decide), s4 7 (by decide) (by decide)]; exact b7
    rw [s108, s107]
    refine two _ (pco T 0 4) (fun x => w_X7_coast_139 x μ10 Q) (fun z => (c5 (hy0 z)).2.2.2) (fun _ => rfl) ?_
    unfold w_X7_coast_139
    intro μ11 e11
    have m11 : ∀ k, k ≠ 0 → μ11.1 k = ν2.1 k := fun k hk => by rw [e11, e10, e9, e8', e7, e5, sI_r hk, sI_r hk, sI_r hk, sI_r hk, sI_r hk, sI_r hk]; exact m4 k hk
    have l11 : μ11.2 = ν2.2 := by rw [e11, e10, e9, e8', e7, e5]; exact l4
    have y8 : μ11.1 0 8 = nI y := by rw [e11, sI_ne2 (by decide)]; exact s108
    have y0 : μ11.1 0 0 = nI 0 := by rw [e11, e10, e9, e8', e7, e5]; simp (disch := omega) only [z_le, z_lt, z_eq, z_lt0, z_0le, z_eq0, z_le0, z_0lt, z_cl, z_in, z_add, z_mul, z_m1ne, z_m1ne', z_m1lt0, z_m1lt, z_ltm1, forall_eq, true_implies, false_implies, implies_true, true_and, and_true, false_and, and_false, not_true_eq_false, not_false_eq_true, ite_true, ite_false, sI_same, sI_ne1, sI_ne2, sA_same, sA_ne, sI_2, sA_2, sL_1, sR_1]; exact x0
    have y2 : μ11.1 0 2 = -1 := by rw [e11, e10, e9, e8', e7, e5]; simp (disch := omega) only [z_le, z_lt, z_eq, z_lt0, z_0le, z_eq0, z_le0, z_0lt, z_cl, z_in, z_add, z_mul, z_m1ne, z_m1ne', z_m1lt0, z_m1lt, z_ltm1, forall_eq, true_implies, false_implies, implies_true, true_and, and_true, false_and, and_false, not_true_eq_false, not_false_eq_true, ite_true, ite_false, sI_same, sI_ne1, sI_ne2, sA_same, sA_ne, sI_2, sA_2, sL_1, sR_1]; exact x2
    have y17 : μ11.1 0 17 = nI y := by rw [e11, e10, e9, e8', e7, e5]; simp (disch := omega) only [z_le, z_lt, z_eq, z_lt0, z_0le, z_eq0, z_le0, z_0lt, z_cl, z_in, z_add, z_mul, z_m1ne, z_m1ne', z_m1lt0, z_m1lt, z_ltm1, forall_eq, true_implies, false_implies, implies_true, true_and, and_true, false_and, and_false, not_true_eq_false, not_false_eq_true, ite_true, ite_false, sI_same, sI_ne1, sI_ne2, sA_same, sA_ne, sI_2, sA_2, sL_1, sR_1]
    have y18 : μ11.1 0 18 = nI (pco T 0 0) := by rw [e11, e10, e9, e8', e7]; simp (disch := omega) only [z_le, z_lt, z_eq, z_lt0, z_0le, z_eq0, z_le0, z_0lt, z_cl, z_in, z_add, z_mul, z_m1ne, z_m1ne', z_m1lt0, z_m1lt, z_ltm1, forall_eq, true_implies, false_implies, implies_true, true_and, and_true, false_and, and_false, not_true_eq_false, not_false_eq_true, ite_true, ite_false, sI_same, sI_ne1, sI_ne2, sA_same, sA_ne, sI_2, sA_2, sL_1, sR_1]
    have y19 : μ11.1 0 19 = nI (pco T 0 1) := by rw [e11, e10, e9, e8']; simp (disch := omega) only [z_le, z_lt, z_eq, z_lt0, z_0le, z_eq0, z_le0, z_0lt, z_cl, z_in, z_add, z_mul, z_m1ne, z_m1ne', z_m1lt0, z_m1lt, z_ltm1, forall_eq, true_implies, false_implies, implies_true, true_and, and_true, false_and, and_false, not_true_eq_false, not_false_eq_true, ite_true, ite_false, sI_same, sI_ne1, sI_ne2, sA_same, sA_ne, sI_2, sA_2, sL_1, sR_1]
    have y20 : μ11.1 0 20 = nI (pco T 0 3) := by rw [e11, e10, e9]; simp (disch := omega) only [z_le, z_lt, z_eq, z_lt0, z_0le, z_eq0, z_le0, z_0lt, z_cl, z_in, z_add, z_mul, z_m1ne, z_m1ne', z_m1lt0, z_m1lt, z_ltm1, forall_eq, true_implies, false_implies, implies_true, true_and, and_true, false_and, and_false, not_true_eq_false, not_false_eq_true, ite_true, ite_false, sI_same, sI_ne1, sI_ne2, sA_same, sA_ne, sI_2, sA_2, sL_1, sR_1]
    have y21 : μ11.1 0 21 = nI (pco T 0 2) := by rw [e11, e10]; simp (disch := omega) only [z_le, z_lt, z_eq, z_lt0, z_0le, z_eq0, z_le0, z_0lt, z_cl, z_in, z_add, z_mul, z_m1ne, z_m1ne', z_m1lt0, z_m1lt, z_ltm1, forall_eq, true_implies, false_implies, implies_true, true_and, and_true, false_and, and_false, not_true_eq_false, not_false_eq_true, ite_true, ite_false, sI_same, sI_ne1, sI_ne2, sA_same, sA_ne, sI_2, sA_2, sL_1, sR_1]
    have y22 : μ11.1 0 22 = nI (pco T 0 4) := by rw [e11]; simp (disch := omega) only [z_le, z_lt, z_eq, z_lt0, z_0le, z_eq0, z_le0, z_0lt, z_cl, z_in, z_add, z_mul, z_m1ne, z_m1ne', z_m1lt0, z_m1lt, z_ltm1, forall_eq, true_implies, false_implies, implies_true, true_and, and_true, false_and, and_false, not_true_eq_false, not_false_eq_true, ite_true, ite_false, sI_same, sI_ne1, sI_ne2, sA_same, sA_ne, sI_2, sA_2, sL_1, sR_1]
    have y33 : μ11.1 0 33 = ν.1 0 33 := by rw [e11, e10, e9, e8', e7, e5]; simp (disch := omega) only [z_le, z_lt, z_eq, z_lt0, z_0le, z_eq0, z_le0, z_0lt, z_cl, z_in, z_add, z_mul, z_m1ne, z_m1ne', z_m1lt0, z_m1lt, z_ltm1, forall_eq, true_implies, false_implies, implies_true, true_and, and_true, false_and, and_false, not_true_eq_false, not_false_eq_true, ite_true, ite_false, sI_same, sI_ne1, sI_ne2, sA_same, sA_ne, sI_2, sA_2, sL_1, sR_1]; rw [s4 33 (by decide) (by decide)]; exact f2.2.2 33 (by omega)
    clear e11 e10 e9 e8' e7 e5 s108 s107 s98 s96 s88 s85 s78 s72 s58 s52 two twoV
    refine M_c144 (fun ν3 l3 m3 g3 => ?_)
    unfold w_X7_coast_168
    refine M_c170 (fun ν4 l4' m4' g4 => ?_)
    unfold w_X7_coast_194
    have e80 : ∀ k, k ≠ 8 → k ≠ 11 → ν4.1 k = μ11.1 k := fun k k1 k2 => (m4' k k2).trans (m3 k k1)
    refine M_c196 (f5 := pco T 5) (f6 := pco T 6) hy1 (by rw [e80 0 (by decide) (by decide)]; exact y8) (fun v hv => by rw [e80 3 (by decide) (by decide), e80 4 (by decide) (by decide), m11 3 (by decide), m11 4 (by decide)]; exact hd3.1 v hv) (fun z v => ?_) (fun ν5 l5 m5 g5 => ?_)
    · have := hbare (hy0 z)
      show (prs T 240 0 co0).2 5 v = 127 ∧ (prs T 240 0 co0).2 6 v = 0
      rw [this]
      exact ⟨rfl, rfl⟩
    unfold w_X7_coast_254
    refine M_c256 (fun ν6 l6 m6 g6 => ?_)
    unfold w_X7_coast_275
    have e90 : ∀ k, k ≠ 8 → k ≠ 11 → k ≠ 12 → k ≠ 13 → k ≠ 14 → ν6.1 k = μ11.1 k := fun k k1 k2 k3 k4 k5 => (m6 k k5).trans ((m5 k k3 k4).trans (e80 k k1 k2))
    have e06 : ν6.1 6 = ν2.1 6 := by rw [e90 6 (by decide) (by decide) (by decide) (by decide) (by decide), m11 6 (by decide)]
    refine M_c277 (f9 := pco T 9) (f10 := pco T 10) (f3 := pco T 3) (f4 := pco T 4) hn6 (by rw [e90 0 (by decide) (by decide) (by decide) (by decide) (by decide)]; exact y20) (fun p hp => by rw [e06]; exact hd3.2.2.1 p hp) g6 (fun ν7 l7 m7 g7 gs => ?_)
    unfold w_X7_coast_359
    intro ν8 e8a ν9 e9a ν10 e10a
    refine ⟨vp_in_nI (by decide) (by decide), fun ν11 e11a => ⟨vp_in_nI (by decide) (by decide), fun ν12 e12a => ?_⟩⟩
    rw [z_cl (by decide)] at e11a e12a
    have l12 : ν12.2 = ν.2 := by rw [e12a, e11a, e10a, e9a, e8a]; exact l7.trans (l6.trans (l5.trans (l4'.trans (l3.trans (l11.trans f2.1)))))
    have m12 : ∀ k, k ≠ 0 → k ≠ 21 → ν12.1 k = ν7.1 k := fun k k0 k1 => by rw [e12a, e11a, e10a, e9a, e8a, sI_r k1, sI_r k1, sI_r k0, sI_r k0, sI_r k0]
    have s12 : ∀ j, j ≠ 37 → j ≠ 39 → j ≠ 32 → ν12.1 0 j = μ11.1 0 j := fun j j1 j2 j3 => by
      rw [e12a, e11a, e10a, e9a, e8a, sI_ne1 (by decide), sI_ne1 (by decide), sI_ne2 j3, sI_ne2 j2, sI_ne2 j1, m7 0 (by decide) (by decide) (by decide), e90 0 (by decide) (by decide) (by decide) (by decide) (by decide)]
    have w37 : ν12.1 0 37 = nI 0 := by rw [e12a, e11a, e10a, e9a, e8a]; simp (disch := omega) only [z_le, z_lt, z_eq, z_lt0, z_0le, z_eq0, z_le0, z_0lt, z_cl, z_in, z_add, z_mul, z_m1ne, z_m1ne', z_m1lt0, z_m1lt, z_ltm1, forall_eq, true_implies, false_implies, implies_true, true_and, and_true, false_and, and_false, not_true_eq_false, not_false_eq_true, ite_true, ite_false, sI_same, sI_ne1, sI_ne2, sA_same, sA_ne, sI_2, sA_2, sL_1, sR_1]
    have w39 : ν12.1 0 39 = nI 0 := by rw [e12a, e11a, e10a, e9a, e8a]; simp (disch := omega) only [z_le, z_lt, z_eq, z_lt0, z_0le, z_eq0, z_le0, z_0lt, z_cl, z_in, z_add, z_mul, z_m1ne, z_m1ne', z_m1lt0, z_m1lt, z_ltm1, forall_eq, true_implies, false_implies, implies_true, true_and, and_true, false_and, and_false, not_true_eq_false, not_false_eq_true, ite_true, ite_false, sI_same, sI_ne1, sI_ne2, sA_same, sA_ne, sI_2, sA_2, sL_1, sR_1]
    have w32 : ν12.1 0 32 = nI 0 := by rw [e12a, e11a, e10a, e9a, e8a]; simp (disch := omega) only [z_le, z_lt, z_eq, z_lt0, z_0le, z_eq0, z_le0, z_0lt, z_cl, z_in, z_add, z_mul, z_m1ne, z_m1ne', z_m1lt0, z_m1lt, z_ltm1, forall_eq, true_implies, false_implies, implies_true, true_and, and_true, false_and, and_false, not_true_eq_false, not_false_eq_true, ite_true, ite_false, sI_same, sI_ne1, sI_ne2, sA_same, sA_ne, sI_2, sA_2, sL_1, sR_1]
    have w210 : ν12.1 21 0 = nI 0 := by rw [e12a, e11a, e10a, e9a, e8a]; simp (disch := omega) only [z_le, z_lt, z_eq, z_lt0, z_0le, z_eq0, z_le0, z_0lt, z_cl, z_in, z_add, z_mul, z_m1ne, z_m1ne', z_m1lt0, z_m1lt, z_ltm1, forall_eq, true_implies, false_implies, implies_true, true_and, and_true, false_and, and_false, not_true_eq_false, not_false_eq_true, ite_true, ite_false, sI_same, sI_ne1, sI_ne2, sA_same, sA_ne, sI_2, sA_2, sL_1, sR_1]
    have w211 : ν12.1 21 1 = nI 0 := by rw [e12a, e11a, e10a, e9a, e8a]; simp (disch := omega) only [z_le, z_lt, z_eq, z_lt0, z_0le, z_eq0, z_le0, z_0lt, z_cl, z_in, z_add, z_mul, z_m1ne, z_m1ne', z_m1lt0, z_m1lt, z_ltm1, forall_eq, true_implies, false_implies, implies_true, true_and, and_true, false_and, and_false, not_true_eq_false, not_false_eq_true, ite_true, ite_false, sI_same, sI_ne1, sI_ne2, sA_same, sA_ne, sI_2, sA_2, sL_1, sR_1]
    clear e12a e11a e10a e9a e8a
    rw [s12 20 (by decide) (by decide) (by decide), y20]
    refine h2 i' ν12 est ⟨⟨⟨?_, ?_, ?_, ?_, ?_, ?_⟩, fun h hh => ?_, fun p hp => ?_, fun v hv => ?_, fun g hg => ?_⟩, ?_, ?_, ⟨?_, fun i hi => absurd hi (Nat.not_lt_zero _)⟩, ?_, ?_, fun i hi => ?_, ⟨w37, fun i hi => absurd hi (Nat.not_lt_zero _)⟩, ⟨w39, fun i hi => absurd hi (Nat.not_lt_zero _)⟩⟩
    · rw [s12 17 (by decide) (by decide) (by decide), y17]
      show nI y = nI (if (prs T 240 0 co0).2 0 0 = 0 then 0 else 1)
      rw [hy]
    · rw [s12 18 (by decide) (by decide) (by decide), y18]
    · rw [s12 19 (by decide) (by decide) (by decide), y19]
    · rw [s12 20 (by decide) (by decide) (by decide), y20]
    · rw [s12 21 (by decide) (by decide) (by decide), y21]
    · rw [s12 22 (by decide) (by decide) (by decide), y22]
    · have hh2 : h < 12 := Nat.lt_of_lt_of_le hh c2
      have e1 : ν12.1 8 = ν3.1 8 := by
        rw [m12 8 (by decide) (by decide), m7 8 (by decide) (by decide) (by decide), m6 8 (by decide), m5 8 (by decide) (by decide), m4' 8 (by decide)]
      rw [e1, g3 (2 * h) (by omega), g3 (2 * h + 1) (by omega), m11 5 (by decide)]
      exact hd3.2.1 h hh
    · rw [m12 9 (by decide) (by decide), m12 10 (by decide) (by decide)]
      exact g7 p hp
    · have e1 : ν12.1 12 = ν5.1 12 := by rw [m12 12 (by decide) (by decide), m7 12 (by decide) (by decide) (by decide), m6 12 (by decide)]
      have e2 : ν12.1 13 = ν5.1 13 := by rw [m12 13 (by decide) (by decide), m7 13 (by decide) (by decide) (by decide), m6 13 (by decide)]
      rw [e1, e2]
      exact g5 v hv
    · have hg2 : g < 4 := Nat.lt_of_lt_of_le hg c4
      have e1 : ν12.1 11 = ν4.1 11 := by
        rw [m12 11 (by decide) (by decide), m7 11 (by decide) (by decide) (by decide), m6 11 (by decide), m5 11 (by decide) (by decide)]
      rw [e1, g4 (2 * g) (by omega), g4 (2 * g + 1) (by omega), m3 7 (by decide), m11 7 (by decide)]
      exact hd3.2.2.2 g hg
    · exact gs.fr (m12 14 (by decide) (by decide))
    · obtain ⟨a, ha, k1, k2, k3⟩ := hM.2.2.1
      refine ⟨a, ha, ?_, w32, fun i hi => absurd hi (Nat.not_lt_zero _)⟩
      rw [s12 33 (by decide) (by decide) (by decide), y33]
      exact k1
    · rw [s12 0 (by decide) (by decide) (by decide)]; exact y0
    · rw [s12 2 (by decide) (by decide) (by decide)]; exact y2
    · rw [l12]; exact hM.2.2.2.2.2.1
    · dsimp only
      rcases (by omega : i = 0 ∨ i = 1) with rfl | rfl
      · exact w210
      · exact w211
  · intro μ3 e3
    refine ⟨fun z => absurd rfl z, fun _ μ6 e6 => ?_⟩
    have e64 : μ6.1 0 4 = nI e.1 := by rw [e6, e3]; simp (disch := omega) only [z_le, z_lt, z_eq, z_lt0, z_0le, z_eq0, z_le0, z_0lt, z_cl, z_in, z_add, z_mul, z_m1ne, z_m1ne', z_m1lt0, z_m1lt, z_ltm1, forall_eq, true_implies, false_implies, implies_true, true_and, and_true, false_and, and_false, not_true_eq_false, not_false_eq_true, ite_true, ite_false, sI_same, sI_ne1, sI_ne2, sA_same, sA_ne, sI_2, sA_2, sL_1, sR_1]; exact r2.1
    rw [e64]
    refine h1 e μ6 est (hM.text ?_ (fun k hk => ?_) (fun j hj => ?_) ?_ ⟨?_, fun i hi => absurd hi (Nat.not_lt_zero _)⟩)
    · rw [e6, e3]; exact f2.1
    · rw [e6, e3, sI_r (by omega), sI_r (by omega)]; exact f2.2.1 k (Or.inr hk)
    · rw [e6, e3, sI_ne2 (by omega), sI_ne2 (by omega)]; exact f2.2.2 j (Or.inr hj)
    · rw [e6, e3]; simp (disch := omega) only [z_le, z_lt, z_eq, z_lt0, z_0le, z_eq0, z_le0, z_0lt, z_cl, z_in, z_add, z_mul, z_m1ne, z_m1ne', z_m1lt0, z_m1lt, z_ltm1, forall_eq, true_implies, false_implies, implies_true, true_and, and_true, false_and, and_false, not_true_eq_false, not_false_eq_true, ite_true, ite_false, sI_same, sI_ne1, sI_ne2, sA_same, sA_ne, sI_2, sA_2, sL_1, sR_1]; exact r2.2
    · rw [e6, e3]; simp (disch := omega) only [z_le, z_lt, z_eq, z_lt0, z_0le, z_eq0, z_le0, z_0lt, z_cl, z_in, z_add, z_mul, z_m1ne, z_m1ne', z_m1lt0, z_m1lt, z_ltm1, forall_eq, true_implies, false_implies, implies_true, true_and, and_true, false_and, and_false, not_true_eq_false, not_false_eq_true, ite_true, ite_false, sI_same, sI_ne1, sI_ne2, sA_same, sA_ne, sI_2, sA_2, sL_1, sR_1]
end COAST
theorem P_coast {μ ν : Mem} (h : Rel μ ν) : w_X6_coast μ (fun x μ' => w_X7_coast ν (fun y ν' => x = y ∧ Rel μ' ν')) := by
  obtain ⟨co, r, U, T, fp, sd, I, G, K, hA, hF, hM⟩ := h
  refine F_coast hA hF (fun e μ1 est F1 => ?_) (fun i' μ1 est F1 => ?_)
  · refine M_coast hA hM (fun e2 ν1 est2 M1 => ?_) (fun i' ν1 est2 M1 => ?_)
    · rw [est] at est2
      cases est2
      refine ⟨rfl, co, r, U, (0, T.2), _, sd, I, G, K, ?_, F1, M1⟩
      exact ⟨hA.1, hA.2.1, hA.2.2.1, ⟨Nat.zero_le _, fun i hi => absurd hi (Nat.not_lt_zero _)⟩, hA.2.2.2.2⟩
    · rw [est] at est2; cases est2
  · refine M_coast hA hM (fun e2 ν1 est2 M1 => ?_) (fun i2 ν1 est2 M1 => ?_)
    · rw [est] at est2; cases est2
    · refine ⟨rfl, pco T, prB T, (0, U.2), (0, T.2), -1, sd, fun _ => none, (0, G.2), (0, K.2), ?_, F1, M1⟩
      have hv := prs_v (T := T) 240 0 co0 vP_0
      have hn6 := hv.1.2.2.2.1
      refine ⟨hv.1, ?_, ⟨Nat.zero_le _, fun i hi => absurd hi (Nat.not_lt_zero _)⟩, ⟨Nat.zero_le _, fun i hi => absurd hi (Nat.not_lt_zero _)⟩, hA.2.2.2.2.1, fun i q hq => (by cases hq), ⟨Nat.zero_le _, fun i hi => absurd hi (Nat.not_lt_zero _)⟩, ⟨Nat.zero_le _, fun i hi => absurd hi (Nat.not_lt_zero _)⟩⟩
      have lo : ∀ j, j < 15 → prB T j = 0 := fun j hj => rB_lo hj
      have hdl : 0 < dl (pco T) := by unfold dl; split <;> omega
      refine ⟨by rw [lo 0 (by decide)]; decide, by rw [lo 1 (by decide)]; exact hdl, by rw [lo 2 (by decide)]; decide, by rw [lo 3 (by decide)]; decide, by rw [lo 4 (by decide)]; decide, by rw [lo 5 (by decide)]; decide, by rw [lo 6 (by decide)]; decide, by rw [lo 7 (by decide)]; decide, by rw [lo 8 (by decide)]; decide, fun p hp => ?_, fun p q hp hq e => ?_⟩
      · have hp6 : p < 6 := Nat.lt_of_lt_of_le hp hn6
        rw [lo (9 + p) (by omega), show prB T (15 + p) = pco T 9 p from rB_c hp, show prB T (21 + p) = pco T 10 p from rB_m hn6 hp]
        exact ⟨Nat.zero_le _, (hv.2.2.2.1 p hp).1, (hv.2.2.2.1 p hp).2⟩
      · rw [show prB T (15 + p) = pco T 9 p from rB_c hp, show prB T (15 + q) = pco T 9 q from rB_c hq] at e
        exact hv.2.2.2.2 p q hp hq e
