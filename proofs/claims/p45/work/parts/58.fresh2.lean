/-! ===== feed, coast, images before the first coast ===== -/
theorem coast_VA {T : Tx} {sd : Nat} {u : Nat → Ro} {g k : Nat → Nat → Nat} (hsd : sd < 2147483648) : VA (pco T) (prB T) (0, u) (0, T.2) sd (fun _ => none) (0, g) (0, k) := by
  have hv := prs_v (T := T) 240 0 co0 vP_0
  have hn6 := hv.1.2.2.2.1
  refine ⟨hv.1, ?_, ⟨Nat.zero_le _, fun i hi => absurd hi (Nat.not_lt_zero _)⟩, ⟨Nat.zero_le _, fun i hi => absurd hi (Nat.not_lt_zero _)⟩, hsd, fun i q hq => (by cases hq), ⟨Nat.zero_le _, fun i hi => absurd hi (Nat.not_lt_zero _)⟩, ⟨Nat.zero_le _, fun i hi => absurd hi (Nat.not_lt_zero _)⟩⟩
  have lo : ∀ j, j < 15 → prB T j = 0 := fun j hj => rB_lo hj
  have hdl : 0 < dl (pco T) := by unfold dl; split <;> omega
  refine ⟨by rw [lo 0 (by decide)]; decide, by rw [lo 1 (by decide)]; exact hdl, by rw [lo 2 (by decide)]; decide, by rw [lo 3 (by decide)]; decide, by rw [lo 4 (by decide)]; decide, by rw [lo 5 (by decide)]; decide, by rw [lo 6 (by decide)]; decide, by rw [lo 7 (by decide)]; decide, by rw [lo 8 (by decide)]; decide, fun p hp => ?_, fun p q hp hq e => ?_⟩
  · have hp6 : p < 6 := Nat.lt_of_lt_of_le hp hn6
    rw [lo (9 + p) (by omega), show prB T (15 + p) = pco T 9 p from rB_c hp, show prB T (21 + p) = pco T 10 p from rB_m hn6 hp]
    exact ⟨Nat.zero_le _, (hv.2.2.2.1 p hp).1, (hv.2.2.2.1 p hp).2⟩
  · rw [show prB T (15 + p) = pco T 9 p from rB_c hp, show prB T (15 + q) = pco T 9 q from rB_c hq] at e
    exact hv.2.2.2.2 p q hp hq e
theorem F0_coast {μ : Mem} {T : Tx} {fp : Int32} {sd : Nat} {I : Im} {L : Nat → Nat → Nat} {Q : Int32 → Mem → Prop} (hA : VA0 T sd I) (hF : RF0 μ T fp sd I L)
    (h1 : ∀ (e : Nat × Nat) (μ' : Mem), (prs T 240 0 co0).1 = .inl e → RF0 μ' (0, T.2) (nI e.2) sd I L → Q ((-10) - nI e.1) μ')
    (h2 : ∀ (i' : Nat) (μ' : Mem), (prs T 240 0 co0).1 = .inr i' → RF μ' (pco T) (prB T) (0, zu) (0, T.2) (-1) sd (fun _ => none) (0, zg) (0, L) → Q (nI (pco T 0 3)) μ') : w_X6_coast μ Q := by
  have hF0 := hF
  obtain ⟨⟨r0, r1⟩, c0, ⟨j3, j14⟩, a4, a5, a6, a7, a8, a9, a10, a11, a12⟩ := hF
  have d0 : sF.2.1 (μ.2.2 0) = 0 := by rw [r0]; decide +kernel
  have d1 : sF.2.1 (μ.2.2 1) = 0 := by rw [r1]; decide +kernel
  have d2 : μ.2.2 0 ≠ μ.2.2 1 := by rw [r0, r1]; decide
  have a3 : JB μ (μ.2.2 1) := by rw [r1]; exact j14
  have hb3 : JB μ (μ.2.2 0) := by rw [r0]; exact j3
  have hR := co_far d1
  have hR0 := co_far d0
  have hT : vTx T := hA.2.2.2.1
  unfold w_X6_coast
  refine F_readAll hT a6 hR a3 (fun μ1 f1 rd1 j1 p1 => ?_)
  have g1 : ∀ k, k ≠ 1 → ¬ (μ.2.2 1 ≤ k ∧ k ≤ μ.2.2 1 + 10) → (sI μ1 1 1 (nI 0)).1 k = μ.1 k := fun k k1 k2 => by rw [sI_r k1]; exact f1.2.1 k k1 k2
  cases est : (prs T 240 0 co0).1 with
  | inl e =>
    rw [est] at rd1
    unfold RdF at rd1
    dsimp only at rd1
    show (nI e.1 = 0 → _) ∧ (¬ nI e.1 = 0 → _)
    rw [z_eq0 (by omega)]
    refine ⟨fun z => by omega, fun _ => h1 e _ est ?_⟩
    rw [r1] at g1 j1
    refine RF0.to hF0 (by rw [sI_2, f1.1]) (fun k k1 k2 => g1 k (by omega) (by omega)) (j1.fr (sI_r (by decide))) (a4.fr (fun k _ _ => g1 k (by omega) (by omega))) (a5.fr (fun k _ _ => g1 k (by omega) (by omega))) ⟨sI_same, fun i hi => absurd hi (Nat.not_lt_zero _)⟩ ?_ ?_ (a9.fr (fun k _ _ => g1 k (by omega) (by omega))) ?_ ?_ (a12.fr (g1 246 (by decide) (by omega)) (g1 247 (by decide) (by omega)))
    · rw [sI_ne2 (by decide)]; exact rd1.2.1
    · rw [g1 0 (by decide) (by omega)]; exact a8
    · rw [g1 237 (by decide) (by omega)]; exact a10
    · rw [g1 241 (by decide) (by omega)]; exact a11
  | inr i' =>
    have dr := p1 i' est
    have hv := prs_v (T := T) 240 0 co0 vP_0
    have hn6 := hv.1.2.2.2.1
    rw [est] at rd1
    unfold RdF at rd1
    dsimp only at rd1
    refine ⟨fun _ => ?_, fun z => absurd rfl z⟩
    intro μ6 e6 μ7 e7
    have eR : μ7.2.2 0 = μ.2.2 1 := by rw [e7, e6]; show μ1.2.2 1 = _; rw [f1.1]
    have eD : μ7.2.2 1 = μ.2.2 0 := by rw [e7]; show μ1.2.2 0 = _; rw [f1.1]
    have e71 : μ7.1 = (sI μ1 1 1 (nI 0)).1 := by rw [e7, e6]; rfl
    have e7l : μ7.2.1 = μ.2.1 := by rw [e7, e6]; show μ1.2.1 = _; rw [f1.1]
    rw [eR]
    have g7 : ∀ k, k ≠ 1 → μ7.1 k = μ1.1 k := fun k hk => by rw [e71, sI_r hk]
    have s7 : ∀ j, j ≠ 1 → μ7.1 1 j = μ1.1 1 j := fun j hj => by rw [e71, sI_ne2 hj]
    have t7 : μ7.1 1 1 = nI 0 := by rw [e71, sI_same]
    have g7m : ∀ k, k ≠ 1 → ¬ (μ.2.2 1 ≤ k ∧ k ≤ μ.2.2 1 + 10) → μ7.1 k = μ.1 k := fun k k1 k2 => by rw [g7 k k1]; exact f1.2.1 k k1 k2
    refine F_begin (n := pco T 0 3) (f9 := pco T 9) (f10 := pco T 10) rfl hR hn6 (fun p hp => ?_) (fun p h1 h2 => ?_) (fun μ10 f10 s10 => ?_)
    · rw [g7 _ (by omega), g7 _ (by omega)]; exact dr.2.1 p hp
    · rw [g7 _ (by omega)]; exact dr.2.2.1 p h1 h2
    intro μ11 e11
    refine ⟨vp_in_nI (by decide) (by decide), fun μ12 e12 => ⟨vp_in_nI (by decide) (by decide), fun μ13 e13 => fun μ14 e14 => fun μ15 e15 => ?_⟩⟩
    rw [z_cl (by decide)] at e12 e13
    have e152 : μ15.2 = μ7.2 := by rw [e15, e14, e13, e12, e11]; show μ10.2 = _; exact f10.1
    have g15 : ∀ k, k ≠ 41 → k ≠ 236 → k ≠ 237 → k ≠ 241 → μ15.1 k = μ10.1 k := fun k k1 k2 k3 k4 => by rw [e15, e14, e13, e12, e11, sI_r k4, sI_r k3, sI_r k2, sI_r k2, sI_r k1]
    have u41 : ∀ j, j ≠ 2 → μ15.1 41 j = μ10.1 41 j := fun j hj => by rw [e15, e14, e13, e12, e11]; simp (disch := omega) only [z_le, z_lt, z_eq, z_lt0, z_0le, z_eq0, z_le0, z_0lt, z_cl, z_in, z_add, z_mul, z_m1ne, z_m1ne', z_m1lt0, z_m1lt, z_ltm1, forall_eq, true_implies, false_implies, implies_true, true_and, and_true, false_and, and_false, not_true_eq_false, not_false_eq_true, ite_true, ite_false, sI_same, sI_ne1, sI_ne2, sA_same, sA_ne, sI_2, sA_2, sL_1, sR_1]
    have u412 : μ15.1 41 2 = nI 0 := by rw [e15, e14, e13, e12, e11]; simp (disch := omega) only [z_le, z_lt, z_eq, z_lt0, z_0le, z_eq0, z_le0, z_0lt, z_cl, z_in, z_add, z_mul, z_m1ne, z_m1ne', z_m1lt0, z_m1lt, z_ltm1, forall_eq, true_implies, false_implies, implies_true, true_and, and_true, false_and, and_false, not_true_eq_false, not_false_eq_true, ite_true, ite_false, sI_same, sI_ne1, sI_ne2, sA_same, sA_ne, sI_2, sA_2, sL_1, sR_1]
    have u2360 : μ15.1 236 0 = -1 := by rw [e15, e14, e13, e12, e11]; simp (disch := omega) only [z_le, z_lt, z_eq, z_lt0, z_0le, z_eq0, z_le0, z_0lt, z_cl, z_in, z_add, z_mul, z_m1ne, z_m1ne', z_m1lt0, z_m1lt, z_ltm1, forall_eq, true_implies, false_implies, implies_true, true_and, and_true, false_and, and_false, not_true_eq_false, not_false_eq_true, ite_true, ite_false, sI_same, sI_ne1, sI_ne2, sA_same, sA_ne, sI_2, sA_2, sL_1, sR_1]
    have u2361 : μ15.1 236 1 = -1 := by rw [e15, e14, e13, e12, e11]; simp (disch := omega) only [z_le, z_lt, z_eq, z_lt0, z_0le, z_eq0, z_le0, z_0lt, z_cl, z_in, z_add, z_mul, z_m1ne, z_m1ne', z_m1lt0, z_m1lt, z_ltm1, forall_eq, true_implies, false_implies, implies_true, true_and, and_true, false_and, and_false, not_true_eq_false, not_false_eq_true, ite_true, ite_false, sI_same, sI_ne1, sI_ne2, sA_same, sA_ne, sI_2, sA_2, sL_1, sR_1]
    have u237 : μ15.1 237 3 = nI 0 := by rw [e15, e14, e13, e12, e11]; simp (disch := omega) only [z_le, z_lt, z_eq, z_lt0, z_0le, z_eq0, z_le0, z_0lt, z_cl, z_in, z_add, z_mul, z_m1ne, z_m1ne', z_m1lt0, z_m1lt, z_ltm1, forall_eq, true_implies, false_implies, implies_true, true_and, and_true, false_and, and_false, not_true_eq_false, not_false_eq_true, ite_true, ite_false, sI_same, sI_ne1, sI_ne2, sA_same, sA_ne, sI_2, sA_2, sL_1, sR_1]
    have u241 : μ15.1 241 3 = nI 0 := by rw [e15, e14, e13, e12, e11]; simp (disch := omega) only [z_le, z_lt, z_eq, z_lt0, z_0le, z_eq0, z_le0, z_0lt, z_cl, z_in, z_add, z_mul, z_m1ne, z_m1ne', z_m1lt0, z_m1lt, z_ltm1, forall_eq, true_implies, false_implies, implies_true, true_and, and_true, false_and, and_false, not_true_eq_false, not_false_eq_true, ite_true, ite_false, sI_same, sI_ne1, sI_ne2, sA_same, sA_ne, sI_2, sA_2, sL_1, sR_1]
    clear e15 e14 e13 e12 e11 e7 e6
    have w15 : ∀ k, k < 25 → μ15.1 k = μ7.1 k := fun k hk => by rw [g15 k (by omega) (by omega) (by omega) (by omega)]; exact f10.2 k (by omega)
    have hlw : ∀ k, 245 < k → μ15.1 k = μ.1 k := fun k hk => by rw [g15 k (by omega) (by omega) (by omega) (by omega), f10.2 k (by omega)]; exact g7m k (by omega) (by omega)
    have hco : CoF μ15 (μ.2.2 1) (pco T) := dr.1.fr3 (fun k _ _ => by rw [w15 k (by omega), g7 k (by omega)])
    have eR15 : μ15.2.2 0 = μ.2.2 1 := by rw [e152]; exact eR
    have eD15 : μ15.2.2 1 = μ.2.2 0 := by rw [e152]; exact eD
    rw [eR15, hco.1.2.2.2.1]
    refine h2 i' μ15 est ?_
    refine ⟨?_, ?_, ?_, ?_, ?_, ⟨?_, fun i hi => absurd hi (Nat.not_lt_zero _)⟩, ?_, ?_, ?_, ⟨u237, fun e he => absurd he (Nat.not_lt_zero _)⟩, ⟨u241, fun e he => absurd he (Nat.not_lt_zero _), a12.fr (hlw 246 (by decide)) (hlw 247 (by decide))⟩⟩
    · rw [eR15, eD15]; exact ⟨d1, d0, Ne.symm d2⟩
    · rw [eR15]; exact hco
    · rw [eD15]
      have : JB μ15 (μ.2.2 0) := JB.fr (μ := μ) hb3 (by rw [w15 _ (by omega), g7m _ (by omega) (by omega)])
      exact this
    · exact s10.fr (fun k _ _ => g15 k (by omega) (by omega) (by omega) (by omega))
    · obtain ⟨o, ho, b1, b2, b3⟩ := a5
      refine ⟨o, ho, ?_, u412, fun i hi => absurd hi (Nat.not_lt_zero _)⟩
      rw [u41 1 (by decide), f10.2 41 (by decide), g7m 41 (by decide) (by omega)]
      exact b1
    · rw [w15 1 (by decide)]; exact t7
    · rw [w15 1 (by decide), s7 5 (by decide)]; exact rd1.2.1
    · rw [w15 0 (by decide), g7m 0 (by decide) (by omega)]; exact a8
    · intro i hi
      dsimp only
      rcases (by omega : i = 0 ∨ i = 1) with rfl | rfl
      · exact u2360
      · exact u2361
