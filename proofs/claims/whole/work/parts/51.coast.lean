/-! ===== coast ===== -/
theorem CoF.fr3 {μ μ1 : Mem} {R : Nat} {co : Co} (hc : CoF μ R co) (h : ∀ k, R ≤ k → k ≤ R + 10 → μ1.1 k = μ.1 k) : CoF μ1 R co := by
  unfold CoF at hc ⊢
  rw [h R (by omega) (by omega), h (R + 1) (by omega) (by omega), h (R + 2) (by omega) (by omega), h (R + 5) (by omega) (by omega), h (R + 6) (by omega) (by omega), h (R + 7) (by omega) (by omega), h (R + 8) (by omega) (by omega), h (R + 9) (by omega) (by omega), h (R + 10) (by omega) (by omega)]
  exact hc
def rB (n : Nat) (f9 f10 : Nat → Nat) : Ro := fun j => if 15 ≤ j ∧ j < 15 + n then f9 (j - 15) else if 21 ≤ j ∧ j < 21 + n then f10 (j - 21) else 0
theorem rB_lo {n j : Nat} {f9 f10 : Nat → Nat} (h : j < 15) : rB n f9 f10 j = 0 := by
  unfold rB
  rw [if_neg (by omega), if_neg (by omega)]
theorem rB_c {n p : Nat} {f9 f10 : Nat → Nat} (h : p < n) : rB n f9 f10 (15 + p) = f9 p := by
  unfold rB
  rw [if_pos (by omega), show 15 + p - 15 = p by omega]
theorem rB_m {n p : Nat} {f9 f10 : Nat → Nat} (hn : n ≤ 6) (h : p < n) : rB n f9 f10 (21 + p) = f10 p := by
  unfold rB
  rw [if_neg (by omega), if_pos (by omega), show 21 + p - 21 = p by omega]
theorem rB_o {n j : Nat} {f9 f10 : Nat → Nat} (h : ¬ (15 ≤ j ∧ j < 15 + n)) (h2 : ¬ (21 ≤ j ∧ j < 21 + n)) : rB n f9 f10 j = 0 := by
  unfold rB
  rw [if_neg h, if_neg h2]
theorem F_begin {μ : Mem} {b R n : Nat} {f9 f10 : Nat → Nat} {Q : Mem → Prop} (hb : b = 25) (hR : R = 3 ∨ R = 14) (hn : n ≤ 6) (h9 : ∀ p, p < n → μ.1 (R + 3) p = nI (f9 p) ∧ μ.1 (R + 4) p = nI (f10 p)) (hm : ∀ p, n ≤ p → p < 6 → μ.1 (R + 3) p = -1)
    (h : ∀ μ' : Mem, FrS b μ μ' → StF μ' b n (rB n f9 f10) → Q μ') : w_X4_begin b R μ Q := by
  unfold w_X4_begin
  intro μ1 e1 μ2 e2 μ3 e3 μ4 e4 μ5 e5
  have f5 : FrS b μ μ5 := by
    rw [e5, e4, e3, e2, e1]
    exact ((((FrS.rf.sI (by omega)).sI (by omega)).sI (by omega)).sI (by omega)).sI (by omega)
  have z5 : ∀ j, j < 5 → μ5.1 b j = nI 0 := by
    intro j hj
    rw [e5, e4, e3, e2, e1]
    rcases (by omega : j = 0 ∨ j = 1 ∨ j = 2 ∨ j = 3 ∨ j = 4) with rfl | rfl | rfl | rfl | rfl <;> simp (disch := omega) only [z_le, z_lt, z_eq, z_lt0, z_0le, z_eq0, z_le0, z_0lt, z_cl, z_in, z_add, z_mul, z_m1ne, z_m1ne', z_m1lt0, z_m1lt, z_ltm1, forall_eq, true_implies, false_implies, implies_true, true_and, and_true, false_and, and_false, not_true_eq_false, not_false_eq_true, ite_true, ite_false, sI_same, sI_ne1, sI_ne2, sA_same, sA_ne, sI_2, sA_2, sL_1, sR_1]
  clear e5 e4 e3 e2 e1
  have two : ∀ μ6 : Mem, FrS b μ μ6 → (∀ j, j < 5 → μ6.1 b j = nI 0) → (∀ p, p < 6 → μ6.1 (b + 1) p = μ.1 (R + 3) p ∧ μ6.1 (b + 2) p = μ.1 (R + 4) p ∧ μ6.1 (b + 3) p = nI 0) → w_X4_begin_70 b R μ6 Q := by
    intro μ6 g6 x0 x1
    unfold w_X4_begin_70 w_X4_begin_72
    intro Y hY
    refine cnt_dn (P := fun k => k ≤ 2 → ∀ μ7 : Mem, FrS b μ μ7 → (∀ j, j < 5 → μ7.1 b j = nI 0) → (∀ p, p < 6 → μ7.1 (b + 1) p = μ.1 (R + 3) p ∧ μ7.1 (b + 2) p = μ.1 (R + 4) p ∧ μ7.1 (b + 3) p = nI 0) → (∀ v, v < k → μ7.1 (b + 4) v = nI 0 ∧ μ7.1 (b + 5) v = nI 0) → Y (nI k) μ7) 2 ?_ ?_ (by decide) μ6 g6 x0 x1 (fun v hv => by omega)
    · intro _ μ7 g7 y0 y1 y2
      apply hY
      unfold s_X4_begin_72
      refine ⟨fun _ => h μ7 g7 ?_, fun z => absurd (by decide) z⟩
      unfold StF
      refine ⟨⟨?_, ?_, ?_, ?_, ?_⟩, fun p hp => ?_, fun p h1 h2 => ?_, fun v hv => ?_⟩
      · rw [y0 0 (by decide), rB_lo (by decide)]
      · rw [y0 1 (by decide), rB_lo (by decide)]
      · rw [y0 2 (by decide), rB_lo (by decide)]
      · rw [y0 3 (by decide), rB_lo (by decide)]
      · rw [y0 4 (by decide), rB_lo (by decide)]
      · have a := y1 p (by omega)
        rw [a.1, a.2.1, a.2.2, (h9 p hp).1, (h9 p hp).2, rB_c hp, rB_m hn hp, rB_lo (by omega)]
        exact ⟨rfl, rfl, rfl⟩
      · have a := y1 p h2
        rw [a.1, a.2.2, hm p h1 h2]
        exact ⟨rfl, rfl⟩
      · rw [(y2 v hv).1, (y2 v hv).2, rB_lo (by omega), rB_lo (by omega)]
        exact ⟨rfl, rfl⟩
    · intro k hk ih _ μ7 g7 y0 y1 y2
      apply hY
      unfold s_X4_begin_72
      simp (disch := omega) only [z_le, z_lt, z_eq, z_lt0, z_0le, z_eq0, z_le0, z_0lt, z_cl, z_in, z_add, z_mul, z_m1ne, z_m1ne', z_m1lt0, z_m1lt, z_ltm1, forall_eq, true_implies, false_implies, implies_true, true_and, and_true, false_and, and_false, not_true_eq_false, not_false_eq_true, ite_true, ite_false]
      refine ⟨fun z => by omega, fun _ => ⟨hk, hk, ?_⟩⟩
      refine ih (by omega) _ ((g7.sI (k := b + 4) (by omega)).sI (k := b + 5) (by omega)) (fun j hj => by rw [sI_ne1 (by omega), sI_ne1 (by omega)]; exact y0 j hj) (fun p hp => by rw [sI_ne1 (by omega), sI_ne1 (by omega), sI_ne1 (by omega), sI_ne1 (by omega), sI_ne1 (by omega), sI_ne1 (by omega)]; exact y1 p hp) (fun v hv => ?_)
      by_cases e : v = k
      · subst e; simp (disch := omega) only [z_le, z_lt, z_eq, z_lt0, z_0le, z_eq0, z_le0, z_0lt, z_cl, z_in, z_add, z_mul, z_m1ne, z_m1ne', z_m1lt0, z_m1lt, z_ltm1, forall_eq, true_implies, false_implies, implies_true, true_and, and_true, false_and, and_false, not_true_eq_false, not_false_eq_true, ite_true, ite_false, sI_same, sI_ne1, sI_ne2, sA_same, sA_ne, sI_2, sA_2, sL_1, sR_1]
      · simp (disch := omega) only [z_le, z_lt, z_eq, z_lt0, z_0le, z_eq0, z_le0, z_0lt, z_cl, z_in, z_add, z_mul, z_m1ne, z_m1ne', z_m1lt0, z_m1lt, z_ltm1, forall_eq, true_implies, false_implies, implies_true, true_and, and_true, false_and, and_false, not_true_eq_false, not_false_eq_true, ite_true, ite_false, sI_same, sI_ne1, sI_ne2, sA_same, sA_ne, sI_2, sA_2, sL_1, sR_1]; exact y2 v (by omega)
  unfold w_X4_begin_27
  intro X hX
  refine cnt_dn (P := fun k => k ≤ 6 → ∀ μ7 : Mem, FrS b μ μ7 → (∀ j, j < 5 → μ7.1 b j = nI 0) → (∀ p, p < k → μ7.1 (b + 1) p = μ.1 (R + 3) p ∧ μ7.1 (b + 2) p = μ.1 (R + 4) p ∧ μ7.1 (b + 3) p = nI 0) → X (nI k) μ7) 6 ?_ ?_ (by decide) μ5 f5 z5 (fun v hv => by omega)
  · intro _ μ7 g7 y0 y1
    apply hX
    unfold s_X4_begin_27
    exact ⟨fun _ => two μ7 g7 y0 y1, fun z => absurd (by decide) z⟩
  · intro k hk ih _ μ7 g7 y0 y1
    apply hX
    unfold s_X4_begin_27
    simp (disch := omega) only [z_le, z_lt, z_eq, z_lt0, z_0le, z_eq0, z_le0, z_0lt, z_cl, z_in, z_add, z_mul, z_m1ne, z_m1ne', z_m1lt0, z_m1lt, z_ltm1, forall_eq, true_implies, false_implies, implies_true, true_and, and_true, false_and, and_false, not_true_eq_false, not_false_eq_true, ite_true, ite_false]
    refine ⟨fun z => by omega, fun _ => ⟨hk, hk, hk, hk, hk, ?_⟩⟩
    have q3 : (sI μ7 (b + 1) k (μ7.1 (R + 3) k)).1 (R + 4) = μ.1 (R + 4) := by rw [sI_r (by omega)]; exact g7.2 _ (by omega)
    have q4 : μ7.1 (R + 3) = μ.1 (R + 3) := g7.2 _ (by omega)
    rw [q3, q4]
    refine ih (by omega) _ (((g7.sI (k := b + 1) (by omega)).sI (k := b + 2) (by omega)).sI (k := b + 3) (by omega)) (fun j hj => by rw [sI_ne1 (by omega), sI_ne1 (by omega), sI_ne1 (by omega)]; exact y0 j hj) (fun p hp => ?_)
    by_cases e : p = k
    · subst e; simp (disch := omega) only [z_le, z_lt, z_eq, z_lt0, z_0le, z_eq0, z_le0, z_0lt, z_cl, z_in, z_add, z_mul, z_m1ne, z_m1ne', z_m1lt0, z_m1lt, z_ltm1, forall_eq, true_implies, false_implies, implies_true, true_and, and_true, false_and, and_false, not_true_eq_false, not_false_eq_true, ite_true, ite_false, sI_same, sI_ne1, sI_ne2, sA_same, sA_ne, sI_2, sA_2, sL_1, sR_1]
    · simp (disch := omega) only [z_le, z_lt, z_eq, z_lt0, z_0le, z_eq0, z_le0, z_0lt, z_cl, z_in, z_add, z_mul, z_m1ne, z_m1ne', z_m1lt0, z_m1lt, z_ltm1, forall_eq, true_implies, false_implies, implies_true, true_and, and_true, false_and, and_false, not_true_eq_false, not_false_eq_true, ite_true, ite_false, sI_same, sI_ne1, sI_ne2, sA_same, sA_ne, sI_2, sA_2, sL_1, sR_1]; exact y1 p (by omega)
section COAST
variable {co : Co} {r : Ro} {U : Un} {T : Tx} {fp : Int32} {sd : Nat} {I : Im} {G K : Gt}
abbrev pco (T : Tx) : Co := (prs T 240 0 co0).2
abbrev prB (T : Tx) : Ro := rB (pco T 0 3) (pco T 9) (pco T 10)
theorem F_coast {μ : Mem} {Q : Int32 → Mem → Prop} (hA : VA co r U T sd I G K) (hF : RF μ co r U T fp sd I G K)
    (h1 : ∀ (e : Nat × Nat) (μ' : Mem), (prs T 240 0 co0).1 = .inl e → RF μ' co r U (0, T.2) (nI e.2) sd I G K → Q ((-10) - nI e.1) μ')
    (h2 : ∀ (i' : Nat) (μ' : Mem), (prs T 240 0 co0).1 = .inr i' → RF μ' (pco T) (prB T) (0, U.2) (0, T.2) (-1) sd (fun _ => none) (0, G.2) (0, K.2) → Q (nI (pco T 0 3)) μ') : w_X6_coast μ Q := by
  obtain ⟨⟨d0, d1, d2⟩, a2, a3, a4, a5, a6, a7, a8, a9, a10, a11⟩ := hF
  have hR := co_far d1
  have hR0 := co_far d0
  have hT : vTx T := hA.2.2.2.1
  unfold w_X6_coast
  refine F_readAll hT a6 hR a3 (fun μ1 f1 r1 j1 p1 => ?_)
  have g1 : ∀ k, k ≠ 1 → ¬ (μ.2.2 1 ≤ k ∧ k ≤ μ.2.2 1 + 10) → (sI μ1 1 1 (nI 0)).1 k = μ.1 k := fun k k1 k2 => by rw [sI_r k1]; exact f1.2.1 k k1 k2
  cases est : (prs T 240 0 co0).1 with
  | inl e =>
    rw [est] at r1
    unfold RdF at r1
    dsimp only at r1
    show (nI e.1 = 0 → _) ∧ (¬ nI e.1 = 0 → _)
    rw [z_eq0 (by omega)]
    refine ⟨fun z => by omega, fun _ => h1 e _ est ?_⟩
    refine ⟨?_, ?_, ?_, ?_, ?_, ⟨sI_same, fun i hi => absurd hi (Nat.not_lt_zero _)⟩, ?_, ?_, ?_, ?_, ?_⟩
    · rw [sI_2, f1.1]; exact ⟨d0, d1, d2⟩
    · rw [sI_2, f1.1]; exact a2.fr3 (fun k _ _ => g1 k (by omega) (by omega))
    · rw [sI_2, f1.1]; exact j1.fr (sI_r (by omega))
    · exact a4.fr (fun k _ _ => g1 k (by omega) (by omega))
    · exact a5.fr (fun k _ _ => g1 k (by omega) (by omega))
    · rw [sI_ne2 (by decide)]; exact r1.2.1
    · rw [g1 0 (by decide) (by omega)]; exact a8
    · exact a9.fr (fun k _ _ => g1 k (by omega) (by omega))
    · exact a10.fr (fun k _ _ => g1 k (by omega) (by omega))
    · exact a11.fr (fun k _ _ => g1 k (by omega) (by omega))
  | inr i' =>
    have dr := p1 i' est
    have hv := prs_v (T := T) 240 0 co0 vP_0
    have hn6 := hv.1.2.2.2.1
    rw [est] at r1
    unfold RdF at r1
    dsimp only at r1
    refine ⟨fun _ => ?_, fun z => absurd rfl z⟩
    intro μ6 e6 μ7 e7
    have eR : μ7.2.2 0 = μ.2.2 1 := by rw [e7, e6]; show μ1.2.2 1 = _; rw [f1.1]
    have eD : μ7.2.2 1 = μ.2.2 0 := by rw [e7]; show μ1.2.2 0 = _; rw [f1.1]
    have e71 : μ7.1 = (sI μ1 1 1 (nI 0)).1 := by rw [e7, e6]; rfl
    have e7l : μ7.2.1 = μ.2.1 := by rw [e7, e6]; show μ1.2.1 = _; rw [f1.1]
    rw [eR]
    have g7 : ∀ k, k ≠ 1 → μ7.1 k = μ1.1 k := fun k hk => by rw [e71, sI_r hk]
    have s7 : ∀ j, j ≠ 1 → μ7.1 1 j = μ1.1 1 j := fun j hj => by rw [e71, sI_ne2 hj]
    have t7 : μ7.1 1 1 = nI 0 := by rw [e71, sI_same]
    have g7m : ∀ k, k ≠ 1 → ¬ (μ.2.2 1 ≤ k ∧ k ≤ μ.2.2 1 + 10) → μ7.1 k = μ.1 k := fun k k1 k2 => by rw [g7 k k1]; exact f1.2.1 k k1 k2
    refine F_begin (n := pco T 0 3) (f9 := pco T 9) (f10 := pco T 10) rfl hR hn6 (fun p hp => ?_) (fun p h1 h2 => ?_) (fun μ10 f10 s10 => ?_)
    · rw [g7 _ (by omega), g7 _ (by omega)]; exact dr.2.1 p hp
    · rw [g7 _ (by omega)]; exact dr.2.2.1 p h1 h2
    intro μ11 e11
    refine ⟨vp_in_nI (by decide) (by decide), fun μ12 e12 => ⟨vp_in_nI (by decide) (by decide), fun μ13 e13 => fun μ14 e14 => fun μ15 e15 => ?_⟩⟩
    rw [z_cl (by decide)] at e12 e13
    have e152 : μ15.2 = μ7.2 := by rw [e15, e14, e13, e12, e11]; show μ10.2 = _; exact f10.1
    have g15 : ∀ k, k ≠ 41 → k ≠ 236 → k ≠ 237 → k ≠ 241 → μ15.1 k = μ10.1 k := fun k k1 k2 k3 k4 => by rw [e15, e14, e13, e12, e11, sI_r k4, sI_r k3, sI_r k2, sI_r k2, sI_r k1]
    have u41 : ∀ j, j ≠ 2 → μ15.1 41 j = μ10.1 41 j := fun j hj => by rw [e15, e14, e13, e12, e11]; simp (disch := omega) only [z_le, z_lt, z_eq, z_lt0, z_0le, z_eq0, z_le0, z_0lt, z_cl, z_in, z_add, z_mul, z_m1ne, z_m1ne', z_m1lt0, z_m1lt, z_ltm1, forall_eq, true_implies, false_implies, implies_true, true_and, and_true, false_and, and_false, not_true_eq_false, not_false_eq_true, ite_true, ite_false, sI_same, sI_ne1, sI_ne2, sA_same, sA_ne, sI_2, sA_2, sL_1, sR_1]
    have u412 : μ15.1 41 2 = nI 0 := by rw [e15, e14, e13, e12, e11]; simp (disch := omega) only [z_le, z_lt, z_eq, z_lt0, z_0le, z_eq0, z_le0, z_0lt, z_cl, z_in, z_add, z_mul, z_m1ne, z_m1ne', z_m1lt0, z_m1lt, z_ltm1, forall_eq, true_implies, false_implies, implies_true, true_and, and_true, false_and, and_false, not_true_eq_false, not_false_eq_true, ite_true, ite_false, sI_same, sI_ne1, sI_ne2, sA_same, sA_ne, sI_2, sA_2, sL_1, sR_1]
    have u2360 : μ15.1 236 0 = -1 := by rw [e15, e14, e13, e12, e11]; simp (disch := omega) only [z_le, z_lt, z_eq, z_lt0, z_0le, z_eq0, z_le0, z_0lt, z_cl, z_in, z_add, z_mul, z_m1ne, z_m1ne', z_m1lt0, z_m1lt, z_ltm1, forall_eq, true_implies, false_implies, implies_true, true_and, and_true, false_and, and_false, not_true_eq_false, not_false_eq_true, ite_true, ite_false, sI_same, sI_ne1, sI_ne2, sA_same, sA_ne, sI_2, sA_2, sL_1, sR_1]
    have u2361 : μ15.1 236 1 = -1 := by rw [e15, e14, e13, e12, e11]; simp (disch := omega) only [z_le, z_lt, z_eq, z_lt0, z_0le, z_eq0, z_le0, z_0lt, z_cl, z_in, z_add, z_mul, z_m1ne, z_m1ne', z_m1lt0, z_m1lt, z_ltm1, forall_eq, true_implies, false_implies, implies_true, true_and, and_true, false_and, and_false, not_true_eq_false, not_false_eq_true, ite_true, ite_false, sI_same, sI_ne1, sI_ne2, sA_same, sA_ne, sI_2, sA_2, sL_1, sR_1]
    have u237 : μ15.1 237 3 = nI 0 := by rw [e15, e14, e13, e12, e11]; simp (disch := omega) only [z_le, z_lt, z_eq, z_lt0, z_0le, z_eq0, z_le0, z_0lt, z_cl, z_in, z_add, z_mul, z_m1ne, z_m1ne', z_m1lt0, z_m1lt, z_ltm1, forall_eq, true_implies, false_implies, implies_true, true_and, and_true, false_and, and_false, not_true_eq_false, not_false_eq_true, ite_true, ite_false, sI_same, sI_ne1, sI_ne2, sA_same, sA_ne, sI_2, sA_2, sL_1, sR_1]
    have u241 : μ15.1 241 3 = nI 0 := by rw [e15, e14, e13, e12, e11]; simp (disch := omega) only [z_le, z_lt, z_eq, z_lt0, z_0le, z_eq0, z_le0, z_0lt, z_cl, z_in, z_add, z_mul, z_m1ne, z_m1ne', z_m1lt0, z_m1lt, z_ltm1, forall_eq, true_implies, false_implies, implies_true, true_and, and_true, false_and, and_false, not_true_eq_false, not_false_eq_true, ite_true, ite_false, sI_same, sI_ne1, sI_ne2, sA_same, sA_ne, sI_2, sA_2, sL_1, sR_1]
    clear e15 e14 e13 e12 e11 e7 e6
    have w15 : ∀ k, k < 25 → μ15.1 k = μ7.1 k := fun k hk => by rw [g15 k (by omega) (by omega) (by omega) (by omega)]; exact f10.2 k (by omega)
    have hco : CoF μ15 (μ.2.2 1) (pco T) := dr.1.fr3 (fun k _ _ => by rw [w15 k (by omega), g7 k (by omega)])
    have eR15 : μ15.2.2 0 = μ.2.2 1 := by rw [e152]; exact eR
    have eD15 : μ15.2.2 1 = μ.2.2 0 := by rw [e152]; exact eD
    rw [eR15, hco.1.2.2.2.1]
    refine h2 i' μ15 est ?_
    refine ⟨?_, ?_, ?_, ?_, ?_, ⟨?_, fun i hi => absurd hi (Nat.not_lt_zero _)⟩, ?_, ?_, ?_, ⟨u237, fun e he => absurd he (Nat.not_lt_zero _)⟩, ⟨u241, fun e he => absurd he (Nat.not_lt_zero _)⟩⟩
    · rw [eR15, eD15]; exact ⟨d1, d0, Ne.symm d2⟩
    · rw [eR15]; exact hco
    · rw [eD15]
      have hb := a2.2.2.2.2.1
      have : JB μ15 (μ.2.2 0) := JB.fr (μ := μ) hb (by rw [w15 _ (by omega), g7m _ (by omega) (by omega)])
      exact this
    · exact s10.fr (fun k _ _ => g15 k (by omega) (by omega) (by omega) (by omega))
    · obtain ⟨o, ho, b1, b2, b3⟩ := a5
      refine ⟨o, ho, ?_, u412, fun i hi => absurd hi (Nat.not_lt_zero _)⟩
      rw [u41 1 (by decide), f10.2 41 (by decide), g7m 41 (by decide) (by omega)]
      exact b1
    · rw [w15 1 (by decide)]; exact t7
    · rw [w15 1 (by decide), s7 5 (by decide)]; exact r1.2.1
    · rw [w15 0 (by decide), g7m 0 (by decide) (by omega)]; exact a8
    · intro i hi
      dsimp only
      rcases (by omega : i = 0 ∨ i = 1) with rfl | rfl
      · exact u2360
      · exact u2361
end COAST
