/-! ===== feed, coast, images before the first coast ===== -/
theorem coast_VA {T : Tx} {sd : Nat} {u : Nat → Ro} {g k : Nat → Nat → Nat} (hsd : sd < 2147483648) : VA (pco T) (prB T) (0, u) (0, T.2) sd (fun _ => none) (0, g) (0, k) := by
  have hv := prs_v (T := T) 240 0 co0 vP_0
  have hn6 := hv.1.2.2.2.1
  refine ⟨hv.1, ?_, ⟨Nat.zero_le _, fun i hi => absurd hi (Nat.not_lt_zero _)⟩, ⟨Nat.zero_le _, fun i hi => absurd hi (Nat.not_lt_zero _)⟩, hsd, fun i q hq => (by cases hq), ⟨Nat.zero_le _, fun i hi => absurd hi (Nat.not_lt_zero _)⟩, ⟨Nat.zero_le _, fun i hi => absurd hi (Nat.not_lt_zero _)⟩⟩
  have lo : ∀ j, j < 15 → prB T j = 0 := fun j hj => rB_lo hj
  have hdl : 0 < dl (pco T) := by unfold dl; split <;> omega
  refine ⟨by rw [lo 0 (by decide)]; decide, by rw [lo 1 (by decide)]; exact hdl, by rw [lo 2 (by decide)]; decide, by rw [lo 3 (by decide)]; decide, by rw [lo 4 (by decide)]; decide, by rw [lo 5 (by decide)]; decide, by rw [lo 6 (by decide)]; decide, by rw [lo 7 (by decide)]; decide, by rw [lo 8 (by decide)]; decide, fun p hp => ?_, fun p q hp hq e => ?_⟩
  · have hp6 : p < 6 := Nat.lt_of_lt_of_le hp hn6
    rw [lo (9 + p) (by omega), show prB T (15 + p) = pco T 9 p from rB_c hp, show prB T (21 + p) = pco T 10 p from rB_m hn6 hp]
    exact ⟨Nat.zero_le _, (hv.2.2.2.1 p hp).1, (hv.2.2.2.1 p hp).2⟩
  · rw [show prB T (15 + p) = pco T 9 p from rB_c hp, show prB T (15 + q) = pco T 9 q from rB_c hq] at e
    exact hv.2.2.2.2 p q hp hq e
theorem F0_coast {μ : Mem} {T : Tx} {fp : Int32} {sd : Nat} {I : Im} {Q : Int32 → Mem → Prop} (hA : VA0 T sd I) (hF : RF0 μ T fp sd I)
    (h1 : ∀ (e : Nat × Nat) (μ' : Mem), (prs T 240 0 co0).1 = .inl e → RF0 μ' (0, T.2) (nI e.2) sd I → Q ((-10) - nI e.1) μ')
    (h2 : ∀ (i' : Nat) (μ' : Mem), (prs T 240 0 co0).1 = .inr i' → RF μ' (pco T) (prB T) (0, zu) (0, T.2) (-1) sd (fun _ => none) (0, zg) (0, zg) → Q (nI (pco T 0 3)) μ') : w_X6_coast μ Q := by
  have hF0 := hF
  obtain ⟨⟨r0, r1⟩, c0, ⟨j3, j14⟩, a4, a5, a6, a7, a8, a9, a10, a11⟩ := hF
  have d0 : sF.2.1 (μ.2.2 0) = 0 := by rw [r0]; decide +kernel
  have d1 : sF.2.1 (μ.2.2 1) = 0 := by rw [r1]; decide +kernel
  have d2 : μ.2.2 0 ≠ μ.2.2 1 := by rw [r0, r1]; decide
  have a3 : JB μ (μ.2.2 1) := by rw [r1]; exact j14
  have hb3 : JB μ (μ.2.2 0) := by rw [r0]; exact j3
  have hR := co_far d1
  have hR0 := co_far d0
  have hT : vTx T := hA.2.2.2.1
  unfold w_X6_coast
  refine F_readAll hT a6 hR a3 (fun μ1 f1 rd1 j1 p1 => ?_)
  have g1 : ∀ k, k ≠ 1 → ¬ (μ.2.2 1 ≤ k ∧ k ≤ μ.2.2 1 + 10) → (sI μ1 1 1 (nI 0)).1 k = μ.1 k := fun k k1 k2 => by rw [sI_r k1]; exact f1.2.1 k k1 k2
  cases est : (prs T 240 0 co0).1 with
  | inl e =>
    rw [est] at rd1
    unfold RdF at rd1
    dsimp only at rd1
    show (nI e.1 = 0 → _) ∧ (¬ nI e.1 = 0 → _)
    rw [z_eq0 (by omega)]
    refine ⟨fun z => by omega, fun _ => h1 e _ est ?_⟩
    rw [r1] at g1 j1
    refine RF0.to hF0 (by rw [sI_2, f1.1]) (fun k k1 k2 => g1 k (by omega) (by omega)) (j1.fr (sI_r (by decide))) (a4.fr (fun k _ _ => g1 k (by omega) (by omega))) (a5.fr (fun k _ _ => g1 k (by omega) (by omega))) ⟨sI_same, fun i hi => absurd hi (Nat.not_lt_zero _)⟩ ?_ ?_ (a9.fr (fun k _ _ => g1 k (by omega) (by omega))) ?_ ?_
    · rw [sI_ne2 (by decide)]; exact rd1.2.1
    · rw [g1 0 (by decide) (by omega)]; exact a8
    · rw [g1 237 (by decide) (by omega)]; exact a10
    · rw [g1 241 (by decide) (by omega)]; exact a11
  | inr i' =>
    have dr := p1 i' est
    have hv := prs_v (T := T) 240 0 co0 vP_0
    have hn6 := hv.1.2.2.2.1
    rw [est] at rd1
    unfold RdF at rd1
    dsimp only at rd1
    refine ⟨fun _ => ?_, fun z => absurd rfl z⟩
    intro μ6 e6 μ7 e7
    have eR : μ7.2.2 0 = μ.2.2 1 := by rw [e7, e6]; show μ1.2.2 1 = _; rw [f1.1]
    have eD : μ7.2.2 1 = μ.2.2 0 := by rw [e7]; show μ1.2.2 0 = _; rw [f1.1]
    have e71 : μ7.1 = (sI μ1 1 1 (nI 0)).1 := by rw [e7, e6]; rfl
    have e7l : μ7.2.1 = μ.2.1 := by rw [e7, e6]; show μ1.2.1 = _; rw [f1.1]
    rw [eR]
    have g7 : ∀ k, k ≠ 1 → μ7.1 k = μ1.1 k := fun k hk => by rw [e71, sI_r hk]
    have s7 : ∀ j, j ≠ 1 → μ7.1 1 j = μ1.1 1 j := fun j hj => by rw [e71, sI_ne2 hj]
    have t7 : μ7.1 1 1 = nI 0 := by rw [e71, sI_same]
    have g7m : ∀ k, k ≠ 1 → ¬ (μ.2.2 1 ≤ k ∧ k ≤ μ.2.2 1 + 10) → μ7.1 k = μ.1 k := fun k k1 k2 => by rw [g7 k k1]; exact f1.2.1 k k1 k2
    refine F_begin (n := pco T 0 3) (f9 := pco T 9) (f10 := pco T 10) rfl hR hn6 (fun p hp => ?_) (fun p h1 h2 => ?_) (fun μ10 f10 s10 => ?_)
    · rw [g7 _ (by omega), g7 _ (by omega)]; exact dr.2.1 p hp
    · rw [g7 _ (by omega)]; exact dr.2.2.1 p h1 h2
    intro μ11 e11
    refine ⟨vp_in_nI (by decide) (by decide), fun μ12 e12 => ⟨vp_in_nI (by decide) (by decide), fun μ13 e13 => fun μ14 e14 => fun μ15 e15 => ?_⟩⟩
    rw [z_cl (by decide)] at e12 e13
    have e152 : μ15.2 = μ7.2 := by rw [e15, e14, e13, e12, e11]; show μ10.2 = _; exact f10.1
    have g15 : ∀ k, k ≠ 41 → k ≠ 236 → k ≠ 237 → k ≠ 241 → μ15.1 k = μ10.1 k := fun k k1 k2 k3 k4 => by rw [e15, e14, e13, e12, e11, sI_r k4, sI_r k3, sI_r k2, sI_r k2, sI_r k1]
    have u41 : ∀ j, j ≠ 2 → μ15.1 41 j = μ10.1 41 j := fun j hj => by rw [e15, e14, e13, e12, e11]; simp (disch := omega) only [z_le, z_lt, z_eq, z_lt0, z_0le, z_eq0, z_le0, z_0lt, z_cl, z_in, z_add, z_mul, z_m1ne, z_m1ne', z_m1lt0, z_m1lt, z_ltm1, forall_eq, true_implies, false_implies, implies_true, true_and, and_true, false_and, and_false, not_true_eq_false, not_false_eq_true, ite_true, ite_false, sI_same, sI_ne1, sI_ne2, sA_same, sA_ne, sI_2, sA_2, sL_1, sR_1]
    have u412 : μ15.1 41 2 = nI 0 := by rw [e15, e14, e13, e12, e11]; simp (disch := omega) only [z_le, z_lt, z_eq, z_lt0, z_0le, z_eq0, z_le0, z_0lt, z_cl, z_in, z_add, z_mul, z_m1ne, z_m1ne', z_m1lt0, z_m1lt, z_ltm1, forall_eq, true_implies, false_implies, implies_true, true_and, and_true, false_and, and_false, not_true_eq_false, not_false_eq_true, ite_true, ite_false, sI_same, sI_ne1, sI_ne2, sA_same, sA_ne, sI_2, sA_2, sL_1, sR_1]
    have u2360 : μ15.1 236 0 = -1 := by rw [e15, e14, e13, e12, e11]; simp (disch := omega) only [z_le, z_lt, z_eq, z_lt0, z_0le, z_eq0, z_le0, z_0lt, z_cl, z_in, z_add, z_mul, z_m1ne, z_m1ne', z_m1lt0, z_m1lt, z_ltm1, forall_eq, true_implies, false_implies, implies_true, true_and, and_true, false_and, and_false, not_true_eq_false, not_false_eq_true, ite_true, ite_false, sI_same, sI_ne1, sI_ne2, sA_same, sA_ne, sI_2, sA_2, sL_1, sR_1]
    have u2361 : μ15.1 236 1 = -1 := by rw [e15, e14, e13, e12, e11]; simp (disch := omega) only [z_le, z_lt, z_eq, z_lt0, z_0le, z_eq0, z_le0, z_0lt, z_cl, z_in, z_add, z_mul, z_m1ne, z_m1ne', z_m1lt0, z_m1lt, z_ltm1, forall_eq, true_implies, false_implies, implies_true, true_and, and_true, false_and, and_false, not_true_eq_false, not_false_eq_true, ite_true, ite_false, sI_same, sI_ne1, sI_ne2, sA_same, sA_ne, sI_2, sA_2, sL_1, sR_1]
    have u237 : μ15.1 237 3 = nI 0 := by rw [e15, e14, e13, e12, e11]; simp (disch := omega) only [z_le, z_lt, z_eq, z_lt0, z_0le, z_eq0, z_le0, z_0lt, z_cl, z_in, z_add, z_mul, z_m1ne, z_m1ne', z_m1lt0, z_m1lt, z_ltm1, forall_eq, true_implies, false_implies, implies_true, true_and, and_true, false_and, and_false, not_true_eq_false, not_false_eq_true, ite_true, ite_false, sI_same, sI_ne1, sI_ne2, sA_same, sA_ne, sI_2, sA_2, sL_1, sR_1]
    have u241 : μ15.1 241 3 = nI 0 := by rw [e15, e14, e13, e12, e11]; simp (disch := omega) only [z_le, z_lt, z_eq, z_lt0, z_0le, z_eq0, z_le0, z_0lt, z_cl, z_in, z_add, z_mul, z_m1ne, z_m1ne', z_m1lt0, z_m1lt, z_ltm1, forall_eq, true_implies, false_implies, implies_true, true_and, and_true, false_and, and_false, not_true_eq_false, not_false_eq_true, ite_true, ite_false, sI_same, sI_ne1, sI_ne2, sA_same, sA_ne, sI_2, sA_2, sL_1, sR_1]
    clear e15 e14 e13 e12 e11 e7 e6
    have w15 : ∀ k, k < 25 → μ15.1 k = μ7.1 k := fun k hk => by rw [g15 k (by omega) (by omega) (by omega) (by omega)]; exact f10.2 k (by omega)
    have hco : CoF μ15 (μ.2.2 1) (pco T) := dr.1.fr3 (fun k _ _ => by rw [w15 k (by omega), g7 k (by omega)])
    have eR15 : μ15.2.2 0 = μ.2.2 1 := by rw [e152]; exact eR
    have eD15 : μ15.2.2 1 = μ.2.2 0 := by rw [e152]; exact eD
    rw [eR15, hco.1.2.2.2.1]
    refine h2 i' μ15 est ?_
    refine ⟨?_, ?_, ?_, ?_, ?_, ⟨?_, fun i hi => absurd hi (Nat.not_lt_zero _)⟩, ?_, ?_, ?_, ⟨u237, fun e he => absurd he (Nat.not_lt_zero _)⟩, ⟨u241, fun e he => absurd he (Nat.not_lt_zero _)⟩⟩
    · rw [eR15, eD15]; exact ⟨d1, d0, Ne.symm d2⟩
    · rw [eR15]; exact hco
    · rw [eD15]
      have : JB μ15 (μ.2.2 0) := JB.fr (μ := μ) hb3 (by rw [w15 _ (by omega), g7m _ (by omega) (by omega)])
      exact this
    · exact s10.fr (fun k _ _ => g15 k (by omega) (by omega) (by omega) (by omega))
    · obtain ⟨o, ho, b1, b2, b3⟩ := a5
      refine ⟨o, ho, ?_, u412, fun i hi => absurd hi (Nat.not_lt_zero _)⟩
      rw [u41 1 (by decide), f10.2 41 (by decide), g7m 41 (by decide) (by omega)]
      exact b1
    · rw [w15 1 (by decide)]; exact t7
    · rw [w15 1 (by decide), s7 5 (by decide)]; exact rd1.2.1
    · rw [w15 0 (by decide), g7m 0 (by decide) (by omega)]; exact a8
    · intro i hi
      dsimp only
      rcases (by omega : i = 0 ∨ i = 1) with rfl | rfl
      · exact u2360
      · exact u2361
theorem P0_coast {μ ν : Mem} (h : Rel0 μ ν) : w_X6_coast μ (fun x μ' => w_X7_coast ν (fun y ν' => x = y ∧ RelA μ' ν')) := by
  obtain ⟨T, fp, sd, I, hA, hI, hF, hM⟩ := h
  refine F0_coast hA hF (fun e μ1 est F1 => ?_) (fun i' μ1 est F1 => ?_)
  · refine M_coast hA hM (fun e2 ν1 est2 M1 => ?_) (fun i' ν1 est2 M1 => ?_)
    · rw [est] at est2
      cases est2
      exact ⟨rfl, Or.inr ⟨(0, T.2), _, sd, I, ⟨hA.1, hA.2.1, hA.2.2.1, ⟨Nat.zero_le _, fun i hi => absurd hi (Nat.not_lt_zero _)⟩, hA.2.2.2.2⟩, hI, F1, M1⟩⟩
    · rw [est] at est2; cases est2
  · refine M_coast hA hM (fun e2 ν1 est2 M1 => ?_) (fun i2 ν1 est2 M1 => ?_)
    · rw [est] at est2; cases est2
    · exact ⟨rfl, Or.inl ⟨pco T, prB T, (0, zu), (0, T.2), -1, sd, fun _ => none, (0, zg), (0, zg), coast_VA hA.2.2.2.2.1, F1, M1⟩⟩
theorem P0_keep {μ ν : Mem} {a : Int32} (h : Rel0 μ ν) : w_X6_keep a μ (fun x μ' => w_X7_keep a ν (fun y ν' => x = y ∧ RelA μ' ν')) := by
  obtain ⟨T, fp, sd, I, hA, hI, hF, hM⟩ := h
  unfold w_X6_keep w_X7_keep
  rcases z_cases a 0 1 (by decide) (by decide) with ⟨i, h1, h2, rfl⟩ | ho
  · refine F_image_in h2 ⟨fun z => (by cases z), fun b3 hb3 => ?_⟩
    cases hb3
    refine ⟨st_img i (by omega), F_become (st_img i (by omega)) st_25 (by omega) hF.2.2.2.1 (by decide) (Nat.zero_le _) (fun μ1 f1 s1 => ?_)⟩
    have e10 : μ1.1 0 10 = nI sd := by rw [f1.2 0 (by omega)]; exact hF.2.2.2.2.2.2.2.1
    rw [e10]
    refine F_put (n := 2) (by decide) (by decide) (by omega) ?_
    intro μ3 h3
    subst h3
    have f3 : RF0 (sI (sI μ1 236 i (nI sd)) 41 2 (nI 0)) T fp sd (fun k => if k = i then some (sd, zr) else I k) := by
      have g : ∀ k, k ≠ 41 → k ≠ 236 → ¬ (224 + 6 * i ≤ k ∧ k < 224 + 6 * i + 6) → (sI (sI μ1 236 i (nI sd)) 41 2 (nI 0)).1 k = μ.1 k := fun k k1 k2 k3 => by rw [sI_r k1, sI_r k2]; exact f1.2 k k3
      obtain ⟨a1, a2, a3, a4, a5, a6, a7, a8, a9, a10, a11⟩ := hF
      refine RF0.to ⟨a1, a2, a3, a4, a5, a6, a7, a8, a9, a10, a11⟩ (congrArg Prod.snd f1.1) (fun k k1 k2 => g k (by omega) (by omega) (by omega)) (a3.2.fr (g 19 (by decide) (by decide) (by omega))) (a4.fr (fun k _ _ => g k (by omega) (by omega) (by omega))) ?_ (a6.fr (fun k _ _ => g k (by omega) (by omega) (by omega))) ?_ ?_ (fun k hk => ?_) ?_ ?_
      · exact a5.nil (by rw [sI_ne2 (by decide), sI_ne1 (by decide), f1.2 41 (by omega)]) sI_same
      · rw [g 1 (by decide) (by decide) (by omega)]; exact a7
      · rw [g 0 (by decide) (by decide) (by omega)]; exact a8
      · by_cases q : k = i
        · rw [if_pos q, q]
          dsimp only
          exact ⟨by rw [sI_ne1 (by decide), sI_same], s1.fr (fun c c1 c2 => by rw [sI_r (by omega), sI_r (by omega)])⟩
        · rw [if_neg q]
          have := a9 k hk
          rw [sI_ne1 (by decide), sI_ne2 q, f1.2 236 (by omega)]
          cases e : I k with
          | none => rw [e] at this; exact this
          | some t =>
            rw [e] at this
            exact ⟨this.1, this.2.fr (fun c c1 c2 => by rw [sI_r (by omega), sI_r (by omega), f1.2 c (by omega)])⟩
      · rw [g 237 (by decide) (by decide) (by omega)]; exact a10
      · rw [g 241 (by decide) (by decide) (by omega)]; exact a11
    refine MW_in h1 h2 (by decide) ⟨fun _ => ?_, fun z => absurd z (by decide)⟩
    rw [z_cl (by omega)]
    refine ⟨vp_in_nI (by omega) (by decide), fun ν1 n1 => ⟨vp_in_nI (by omega) (by decide), fun ν2 n2 ν3 n3 => ?_⟩⟩
    have esd : ν1.2.1 0 = lN sd := by rw [n1]; exact hM.2.2.2.2.2.1
    rw [esd] at n2
    have hk21 : ∀ k, k ≠ 0 → k ≠ 21 → ν3.1 k = ν.1 k := by intro k k1 k2; rw [n3, sI_r k1, n2, n1]; exact sI_r k2
    have h0 : ∀ j, j ≠ 32 → ν3.1 0 j = ν.1 0 j := by intro j hj; rw [n3, sI_ne2 hj, n2, sL_1, n1, sI_ne1 (by decide)]
    have e32 : ν3.1 0 32 = nI 0 := by rw [n3, sI_same]
    have e21 : ν3.1 21 i = nI 1 ∧ ∀ k, k ≠ i → ν3.1 21 k = ν.1 21 k := by
      refine ⟨?_, fun k hk => ?_⟩
      · rw [n3, sI_ne1 (by decide), n2, sL_1, n1, sI_same]
      · rw [n3, sI_ne1 (by decide), n2, sL_1, n1, sI_ne2 hk]
    have el : ν3.2.1 (1 + i) = lN sd ∧ ∀ k, k ≠ 1 + i → ν3.2.1 k = ν.2.1 k := by
      refine ⟨?_, fun k hk => ?_⟩
      · rw [n3, n2]; exact sL_same
      · rw [n3, n2]; show (sL ν1 (1 + i) (lN sd)).2.1 k = _; rw [sL_ne hk, n1]; rfl
    unfold w_X7_keep_36
    intro X hX
    refine cnt_dn (P := fun j => j ≤ 27 → ∀ ν4 : Mem, ν4.2 = ν3.2 → (∀ k, k ≠ 22 → ν4.1 k = ν3.1 k) → (∀ t, t < j → ν4.1 22 (27 * i + t) = nI (zr t)) → (∀ t, t < 27 * i ∨ 27 * i + 27 ≤ t → ν4.1 22 t = ν.1 22 t) → X (nI j) ν4) 27 ?_ ?_ (by decide) ν3 rfl (fun _ _ => rfl) (fun t ht => by omega) (fun t ht => by rw [hk21 22 (by decide) (by decide)])
    · intro _ ν4 g2 gk gj go
      apply hX
      unfold s_X7_keep_36
      refine ⟨fun _ => ?_, fun q => absurd (by decide) q⟩
      refine ⟨rfl, Or.inr ⟨T, fp, sd, (fun k => if k = i then some (sd, zr) else I k), ?_, fun k q hq => ?_, f3, ?_⟩⟩
      · refine ⟨hA.1, hA.2.1, hA.2.2.1, hA.2.2.2.1, hA.2.2.2.2.1, fun k q hq => ?_, hA.2.2.2.2.2.2⟩
        dsimp only at hq
        split at hq
        · cases hq; exact ⟨hA.2.2.2.2.1, hA.2.1⟩
        · exact hA.2.2.2.2.2.1 k q hq
      · dsimp only at hq
        split at hq
        · cases hq; rfl
        · exact hI k q hq
      · refine hM.imgs (fun k k1 k2 k3 => by rw [gk k k3, hk21 k k1 k2]) (fun j hj => by rw [gk 0 (by decide), h0 j hj]) (by rw [g2, el.2 0 (by omega)]) (hM.2.2.1.nil (by rw [gk 0 (by decide), h0 33 (by decide)]) (by rw [gk 0 (by decide), e32])) (fun k hk => ?_)
        by_cases q : k = i
        · rw [if_pos q, q]
          dsimp only
          exact ⟨by rw [gk 21 (by decide)]; exact e21.1, by rw [g2]; exact el.1, fun t ht => gj t ht⟩
        · rw [if_neg q]
          have := hM.2.2.2.2.2.2.1 k hk
          rw [gk 21 (by decide), e21.2 k q, g2, el.2 (1 + k) (by omega)]
          cases e : I k with
          | none => rw [e] at this; exact this
          | some t =>
            rw [e] at this
            exact ⟨this.1, this.2.1, fun u hu => by rw [go (27 * k + u) (by omega)]; exact this.2.2 u hu⟩
    · intro j hj ih _ ν4 g2 gk gj go
      apply hX
      unfold s_X7_keep_36
      have e14 : ν4.1 14 j = nI (zr j) := by rw [gk 14 (by decide), hk21 14 (by decide) (by decide)]; exact hM.2.1 j hj
      simp (disch := omega) only [z_le, z_lt, z_eq, z_lt0, z_0le, z_eq0, z_le0, z_0lt, z_cl, z_in, z_add, z_mul, z_m1ne, z_m1ne', z_m1lt0, z_m1lt, z_ltm1, forall_eq, true_implies, false_implies, implies_true, true_and, and_true, false_and, and_false, not_true_eq_false, not_false_eq_true, ite_true, ite_false, e14]
      refine ⟨fun q => absurd q (by omega), fun _ => ⟨hj, by omega, ?_⟩⟩
      refine ih (by omega) _ (by exact g2) (fun k hk => by rw [sI_r hk]; exact gk k hk) (fun t ht => ?_) (fun t ht => ?_)
      · rw [sI_get]
        by_cases q : t = j
        · rw [if_pos ⟨rfl, by omega⟩, q]
        · rw [if_neg (fun z => q (by omega))]; exact gj t (by omega)
      · rw [sI_ne2 (by omega)]; exact go t ht
  · refine F_image_out ho ⟨fun _ => ?_, fun b3 hb3 => (by cases hb3)⟩
    exact MW_out ho ⟨fun z => absurd (by decide) z, fun _ => done0 hA hI hF hM⟩
theorem P0_goBack {μ ν : Mem} {a : Int32} (h : Rel0 μ ν) : w_X6_goBack a μ (fun x μ' => w_X7_goBack a ν (fun y ν' => x = y ∧ RelA μ' ν')) := by
  obtain ⟨T, fp, sd, I, hA, hI, hF, hM⟩ := h
  unfold w_X6_goBack w_X7_goBack
  rcases z_cases a 0 1 (by decide) (by decide) with ⟨i, h1, h2, rfl⟩ | ho
  · refine F_image_in h2 ⟨fun z => (by cases z), fun b3 hb3 => ?_⟩
    cases hb3
    refine ⟨st_img i (by omega), ?_⟩
    refine F_at (n := 2) (by decide) (by decide) (by omega) ?_
    have fi := hF.2.2.2.2.2.2.2.2.1 i (by omega)
    have mi := hM.2.2.2.2.2.2.1 i (by omega)
    cases e : I i with
    | none =>
      rw [e] at fi mi
      dsimp only at fi mi
      rw [fi]
      refine ⟨fun z => absurd rfl z, fun _ => ?_⟩
      refine MW_in h1 h2 (by decide) ⟨fun _ => ?_, fun z => absurd z (by decide)⟩
      rw [z_cl (by omega), mi]
      exact ⟨vp_in_nI (by omega) (by decide), fun z => absurd (by decide) z, fun _ => done0 hA hI hF hM⟩
    | some t =>
      rw [e] at fi mi
      dsimp only at fi mi
      have ht := hA.2.2.2.2.2.1 i t e
      rw [fi.1]
      refine ⟨fun _ => ?_, fun z => absurd z (by rw [z_m1ne ht.1]; exact id)⟩
      refine F_become st_25 (st_img i (by omega)) (by omega) fi.2 (by decide) ht.2.2.2.1 (fun μ1 f1 s1 => ?_)
      intro μ2 g2 μ3 g3
      subst g2 g3
      have et := hI i t e
      rw [et] at s1
      have f3 : RF0 (sI (sI μ1 0 10 (nI t.1)) 41 2 (nI 0)) T fp t.1 I := by
        have g : ∀ k, k ≠ 41 → k ≠ 0 → ¬ (25 ≤ k ∧ k < 31) → (sI (sI μ1 0 10 (nI t.1)) 41 2 (nI 0)).1 k = μ.1 k := fun k k1 k2 k3 => by rw [sI_r k1, sI_r k2]; exact f1.2 k (by omega)
        obtain ⟨a1, a2, a3, a4, a5, a6, a7, a8, a9, a10, a11⟩ := hF
        refine RF0.to ⟨a1, a2, a3, a4, a5, a6, a7, a8, a9, a10, a11⟩ (congrArg Prod.snd f1.1) (fun k k1 k2 => g k (by omega) (by omega) (by omega)) (a3.2.fr (g 19 (by decide) (by decide) (by omega))) (s1.fr (fun k _ _ => by rw [sI_r (by omega), sI_r (by omega)])) ?_ (a6.fr (fun k _ _ => g k (by omega) (by omega) (by omega))) ?_ ?_ (a9.fr (fun k _ _ => g k (by omega) (by omega) (by omega))) ?_ ?_
        · exact a5.nil (by rw [sI_ne2 (by decide), sI_ne1 (by decide), f1.2 41 (by omega)]) sI_same
        · rw [g 1 (by decide) (by decide) (by omega)]; exact a7
        · rw [sI_ne1 (by decide), sI_same]
        · rw [g 237 (by decide) (by decide) (by omega)]; exact a10
        · rw [g 241 (by decide) (by decide) (by omega)]; exact a11
      refine MW_in h1 h2 (by decide) ⟨fun _ => ?_, fun z => absurd z (by decide)⟩
      rw [z_cl (by omega), mi.1, mi.2.1]
      refine ⟨vp_in_nI (by omega) (by decide), fun _ => ⟨vp_in_nI (by omega) (by decide), fun ν1 n1 ν2 n2 => ?_⟩, fun z => absurd z (by decide)⟩
      have m2 : RM0 ν2 T fp t.1 I := by
        rw [n2, n1]
        exact (hM.seed (s2 := t.1)).nil
      have e22 : ∀ j, j < 27 → ν2.1 22 (27 * i + j) = nI (t.2 j) := by
        intro j hj
        rw [n2, sI_ne1 (by decide), n1]
        exact mi.2.2 j hj
      unfold w_X7_goBack_41
      intro X hX
      refine cnt_dn (P := fun j => j ≤ 27 → ∀ ν4 : Mem, FrB 14 ν2 ν4 → (∀ u, u < j → ν4.1 14 u = nI (t.2 u)) → X (nI j) ν4) 27 ?_ ?_ (by decide) ν2 FrB.rf (fun u hu => by omega)
      · intro _ ν4 g4 s4
        apply hX
        unfold s_X7_goBack_41
        refine ⟨fun _ => ?_, fun q => absurd (by decide) q⟩
        rw [et] at s4
        exact ⟨rfl, Or.inr ⟨T, fp, t.1, I, ⟨hA.1, hA.2.1, hA.2.2.1, hA.2.2.2.1, ht.1, hA.2.2.2.2.2⟩, hI, f3, m2.now g4.M s4⟩⟩
      · intro j hj ih _ ν4 g4 s4
        apply hX
        unfold s_X7_goBack_41
        have e22j : ν4.1 22 (27 * i + j) = nI (t.2 j) := by rw [g4.2 22 (by decide)]; exact e22 j hj
        simp (disch := omega) only [z_le, z_lt, z_eq, z_lt0, z_0le, z_eq0, z_le0, z_0lt, z_cl, z_in, z_add, z_mul, z_m1ne, z_m1ne', z_m1lt0, z_m1lt, z_ltm1, forall_eq, true_implies, false_implies, implies_true, true_and, and_true, false_and, and_false, not_true_eq_false, not_false_eq_true, ite_true, ite_false, e22j]
        refine ⟨fun q => absurd q (by omega), fun _ => ⟨by omega, hj, ?_⟩⟩
        refine ih (by omega) _ g4.sI (fun u hu => ?_)
        rw [sI_get]
        by_cases q : u = j
        · rw [if_pos ⟨rfl, q⟩, q]
        · rw [if_neg (fun z => q z.2)]; exact s4 u (by omega)
  · refine F_image_out ho ⟨fun _ => ?_, fun b3 hb3 => (by cases hb3)⟩
    exact MW_out ho ⟨fun z => absurd (by decide) z, fun _ => done0 hA hI hF hM⟩
theorem P0_feed {μ ν : Mem} {a : Int32} (h : Rel0 μ ν) : w_X6_feed a μ (fun x μ' => w_X7_feed a ν (fun y ν' => x = y ∧ RelA μ' ν')) := by
  obtain ⟨T, fp, sd, I, hA, hI, hF, hM⟩ := h
  have e11 := hF.2.2.2.2.2.1.1
  have e00 := hM.2.2.2.1.1
  have hT := hA.2.2.2.1
  unfold w_X6_feed w_X7_feed
  rcases z_cases a 0 255 (by decide) (by decide) with ⟨x, h1, h2, rfl⟩ | ho
  · refine W_in h1 h2 (by decide) ⟨fun _ => ?_, fun z => absurd z (by decide)⟩
    rw [e11, z_lt (by omega) (by decide)]
    refine ⟨fun q => ?_, fun q => ?_⟩
    · unfold w_X3_append
      rw [e11]
      refine F_put (n := 240) (by decide) (by decide) q ?_
      intro μ3 h3
      rw [sI_ne1 (by decide), e11, z_add] at h3
      subst h3
      rw [sI_same]
      have f1 : RF0 (sI (sI μ 2 T.1 (nI x)) 1 1 (nI (T.1 + 1))) (fedT T x) fp sd I := by
        have g : ∀ k, k ≠ 1 → k ≠ 2 → (sI (sI μ 2 T.1 (nI x)) 1 1 (nI (T.1 + 1))).1 k = μ.1 k := fun k k1 k2 => by rw [sI_r k1, sI_r k2]
        refine RF0.to hF rfl (fun k k1 k2 => g k (by omega) (by omega)) (hF.2.2.1.2.fr (g 19 (by decide) (by decide))) (hF.2.2.2.1.fr (fun k _ _ => g k (by omega) (by omega))) (hF.2.2.2.2.1.fr (fun k _ _ => g k (by omega) (by omega))) ⟨sI_same, fun i hi => ?_⟩ ?_ (by rw [g 0 (by decide) (by decide)]; exact hF.2.2.2.2.2.2.2.1) (hF.2.2.2.2.2.2.2.2.1.fr (fun k _ _ => g k (by omega) (by omega))) (by rw [g 237 (by decide) (by decide)]; exact hF.2.2.2.2.2.2.2.2.2.1) (by rw [g 241 (by decide) (by decide)]; exact hF.2.2.2.2.2.2.2.2.2.2)
        · rw [sI_ne1 (by decide)]
          unfold fedT
          dsimp only
          have hii : i < T.1 + 1 := hi
          by_cases q2 : i = T.1
          · rw [if_pos q2, q2, sI_same]
          · rw [if_neg q2, sI_ne2 q2]; exact hF.2.2.2.2.2.1.2 i (by omega)
        · rw [sI_ne2 (by decide), sI_ne1 (by decide)]; exact hF.2.2.2.2.2.2.1
      refine MW_in h1 h2 (by decide) ⟨fun _ => ?_, fun z => absurd z (by decide)⟩
      rw [e00, z_cl (by omega)]
      refine ⟨fun _ => ⟨vp_in_nI q (by decide), fun ν3 k3 ν4 k4 => ?_⟩, fun z => absurd ((z_eq (by omega) (by decide)).mp z) (by omega)⟩
      rw [k3, sI_ne1 (by decide), e00, z_add] at k4
      subst k4
      rw [sI_same]
      refine ⟨rfl, Or.inr ⟨fedT T x, fp, sd, I, ?_, hI, f1, ?_⟩⟩
      · refine ⟨hA.1, hA.2.1, hA.2.2.1, ⟨by show T.1 + 1 ≤ 240; omega, fun i hi => ?_⟩, hA.2.2.2.2⟩
        have hii : i < T.1 + 1 := hi
        unfold fedT
        dsimp only
        split
        · exact h2
        · exact hT.2 i (by omega)
      · refine hM.text rfl (fun k k1 => by rw [sI_r (by omega), sI_r (by omega)]) (fun j hj => ?_) ?_ ⟨sI_same, fun i hi => ?_⟩
        · rw [sI_ne2 (by omega), sI_ne1 (by decide)]
        · rw [sI_ne2 (by decide), sI_ne1 (by decide)]; exact hM.2.2.2.2.1
        · rw [sI_ne1 (by decide)]
          unfold fedT
          dsimp only
          have hii : i < T.1 + 1 := hi
          by_cases q2 : i = T.1
          · rw [if_pos q2, q2, sI_same]
          · rw [if_neg q2, sI_ne2 q2]; exact hM.2.2.2.1.2 i (by omega)
    · refine MW_in h1 h2 (by decide) ⟨fun _ => ?_, fun z => absurd z (by decide)⟩
      rw [e00]
      exact ⟨fun z => absurd (by rw [show T.1 = 240 by omega]) z, fun _ => done0 hA hI hF hM⟩
  · refine F_within0 ho ⟨fun z => absurd (by decide) z, fun _ => ?_⟩
    exact MW_out ho ⟨fun z => absurd (by decide) z, fun _ => done0 hA hI hF hM⟩
theorem start0 : Rel0 μ0 ν0 := by
  have e0 : ∀ i j, i ≠ 5 → co0 i j = 0 := fun i j h => by unfold co0; rw [if_neg h]
  have m0 : ∀ k, k ≠ 1 → k ≠ 10 → k ≠ 21 → k ≠ 236 → μ0.1 k = fun _ => 0 := fun k h1 h2 h3 h4 => μ0_0 h1 h2 h3 h4
  have n0 : ∀ k, k ≠ 0 → k ≠ 12 → ν0.1 k = fun _ => 0 := fun k h1 h2 => by
    show (if k = 0 then _ else if k = 12 then _ else fun _ => (0 : Int32)) = _
    rw [if_neg h1, if_neg h2]
  have st : ∀ b, b ≠ 1 → b ≠ 10 → b ≠ 21 → b ≠ 236 → b + 1 ≠ 10 → b + 1 ≠ 21 → b + 1 ≠ 236 → b + 2 ≠ 10 → b + 2 ≠ 21 → b + 2 ≠ 236 → b + 3 ≠ 10 → b + 3 ≠ 21 → b + 3 ≠ 236 → b + 4 ≠ 10 → b + 4 ≠ 21 → b + 4 ≠ 236 → b + 5 ≠ 10 → b + 5 ≠ 21 → b + 5 ≠ 236 → b ≠ 0 → StF μ0 b 6 zr := by
    intro b _ _ _ _ _ _ _ _ _ _ _ _ _ _ _ _ _ _ _ _
    unfold StF
    rw [m0 b (by omega) (by omega) (by omega) (by omega), m0 (b + 1) (by omega) (by omega) (by omega) (by omega), m0 (b + 2) (by omega) (by omega) (by omega) (by omega), m0 (b + 3) (by omega) (by omega) (by omega) (by omega), m0 (b + 4) (by omega) (by omega) (by omega) (by omega), m0 (b + 5) (by omega) (by omega) (by omega) (by omega)]
    exact ⟨⟨rfl, rfl, rfl, rfl, rfl⟩, fun p _ => ⟨rfl, rfl, rfl⟩, fun p h1 h2 => by omega, fun v _ => ⟨rfl, rfl⟩⟩
  refine ⟨(0, fun _ => 0), -1, 0, fun _ => none, ?_, fun i q h => (by cases h), ?_, ?_⟩
  · refine ⟨vP_0.1, ?_, ⟨Nat.zero_le _, fun i hi => absurd hi (Nat.not_lt_zero _)⟩, ⟨Nat.zero_le _, fun i hi => absurd hi (Nat.not_lt_zero _)⟩, by decide, fun i q h => (by cases h), ⟨Nat.zero_le _, fun i hi => absurd hi (Nat.not_lt_zero _)⟩, ⟨Nat.zero_le _, fun i hi => absurd hi (Nat.not_lt_zero _)⟩⟩
    refine ⟨Nat.zero_le _, by decide, Nat.zero_le _, Nat.zero_le _, Nat.zero_le _, Nat.zero_le _, Nat.zero_le _, Nat.zero_le _, Nat.zero_le _, fun p hp => absurd hp (Nat.not_lt_zero _), fun p q hp => absurd hp (Nat.not_lt_zero _)⟩
  · refine ⟨⟨rfl, rfl⟩, ⟨⟨rfl, rfl, rfl, rfl, rfl⟩, fun v hv => ?_⟩, ⟨fun p _ => ⟨0, by decide, rfl⟩, fun p _ => ⟨0, by decide, rfl⟩⟩, st 25 (by decide) (by decide) (by decide) (by decide) (by decide) (by decide) (by decide) (by decide) (by decide) (by decide) (by decide) (by decide) (by decide) (by decide) (by decide) (by decide) (by decide) (by decide) (by decide) (by decide), ⟨0, by decide, rfl, rfl, fun i hi => absurd hi (Nat.not_lt_zero _)⟩, ⟨rfl, fun i hi => absurd hi (Nat.not_lt_zero _)⟩, rfl, rfl, fun i hi => ?_, rfl, rfl⟩
    · rcases (by omega : v = 0 ∨ v = 1) with rfl | rfl
      · exact ⟨rfl, rfl⟩
      · exact ⟨rfl, rfl⟩
    · rcases (by omega : i = 0 ∨ i = 1) with rfl | rfl
      · exact (rfl : μ0.1 236 0 = -1)
      · exact (rfl : μ0.1 236 1 = -1)
  · refine ⟨⟨⟨rfl, rfl, rfl, rfl, rfl, rfl⟩, fun h hh => absurd hh (Nat.not_lt_zero _), fun p hp => absurd hp (Nat.not_lt_zero _), fun v hv => ?_, fun g hg => absurd hg (Nat.not_lt_zero _)⟩, fun j hj => ?_, ⟨0, by decide, rfl, rfl, fun i hi => absurd hi (Nat.not_lt_zero _)⟩, ⟨rfl, fun i hi => absurd hi (Nat.not_lt_zero _)⟩, rfl, rfl, fun i hi => ?_, ⟨rfl, fun i hi => absurd hi (Nat.not_lt_zero _)⟩, ⟨rfl, fun i hi => absurd hi (Nat.not_lt_zero _)⟩⟩
    · rcases (by omega : v = 0 ∨ v = 1) with rfl | rfl
      · exact ⟨rfl, rfl⟩
      · exact ⟨rfl, rfl⟩
    · rw [n0 14 (by decide) (by decide)]; rfl
    · show ν0.1 21 i = nI 0
      rw [n0 21 (by decide) (by decide)]; rfl
