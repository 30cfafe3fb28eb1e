/-! ===== the text's numbers keep their bounds; FogNets reads it all ===== -/
theorem twoP_inr {T : Tx} {a b c d p i' : Nat} (hp : p ≤ T.1) (h : twoP T a b c d p = .inr i') : (a ≤ val T p ∧ val T p ≤ b) ∧ (c ≤ val T (nx T p) ∧ val T (nx T p) ≤ d) ∧ p < i' ∧ i' ≤ T.1 := by
  obtain ⟨i2, e2, g2⟩ := bnd_inr h
  obtain ⟨i1, e1, g1⟩ := bnd_inr e2
  obtain ⟨j1, l1, m1, _⟩ := numA_inr (show numA T a b p = .inr i1 from e1)
  obtain ⟨j2, l2, m2, _⟩ := numA_inr g1
  have h3 := endA_inr g2
  have s1 : p ≤ nx T p := Nat.le_trans sk_ge (Nat.le_add_right _ _)
  have s2 : nx T p ≤ nx T (nx T p) := Nat.le_trans sk_ge (Nat.le_add_right _ _)
  subst j1 j2
  exact ⟨⟨l1, m1⟩, ⟨l2, m2⟩, by omega, h3.2⟩
theorem posP_inr {T : Tx} {co : Co} {p i' : Nat} (hp : p ≤ T.1) (h : posP T co p = .inr i') : val T p ≤ co 0 0 - 1 ∧ pin (co 9) (val T p) (co 0 3) = none ∧ val T (nx T p) ≤ 9 ∧ (1 ≤ val T (nx T (nx T p)) ∧ val T (nx T (nx T p)) ≤ 99) ∧ val T (nx T (nx T (nx T p))) ≤ 1 ∧ p < i' ∧ i' ≤ T.1 := by
  obtain ⟨i5, e5, g5⟩ := bnd_inr h
  obtain ⟨i4, e4, g4⟩ := bnd_inr e5
  obtain ⟨i3, e3, g3⟩ := bnd_inr e4
  obtain ⟨i2, e2, g2⟩ := bnd_inr e3
  obtain ⟨i1, e1, g1⟩ := bnd_inr e2
  obtain ⟨j1, l1, m1, _⟩ := numA_inr (show numA T 0 (co 0 0 - 1) p = .inr i1 from e1)
  have hk : pin (co 9) (val T p) (co 0 3) = none ∧ i2 = i1 := by
    unfold tkA at g1
    split at g1
    · next q => cases g1; exact ⟨q, rfl⟩
    · cases g1
  obtain ⟨k1, k2⟩ := hk
  obtain ⟨j2, l2, m2, _⟩ := numA_inr g2
  obtain ⟨j3, l3, m3, _⟩ := numA_inr g3
  obtain ⟨j4, l4, m4, _⟩ := numA_inr g4
  have h3 := endA_inr g5
  have s : ∀ i, i ≤ nx T i := fun i => Nat.le_trans sk_ge (Nat.le_add_right _ _)
  subst k2 j1
  have s1 := s p
  have s2 := s (nx T p)
  have s3 := s (nx T (nx T p))
  have s4 := s (nx T (nx T (nx T p)))
  rw [j2] at j3 m3 l3
  rw [j3] at j4 m4 l4
  exact ⟨m1, k1, m2, ⟨l3, m3⟩, m4, by omega, h3.2⟩
theorem vP_F {T : Tx} {co : Co} {p i' : Nat} (hv : vP co) (q : co 0 0 = 0) (hp : p ≤ T.1) (h : twoP T 1 12 0 20 p = .inr i') : vP (cF T co p) := by
  obtain ⟨⟨l1, m1⟩, ⟨_, m2⟩, _⟩ := twoP_inr hp h
  obtain ⟨⟨v0, v1, v2, v3, v4, v5, v6, v7, v8, v9, v10⟩, u0, u1, u2, u3⟩ := hv
  obtain ⟨z1, z2, z3, z4⟩ := v5 q
  unfold vP vCo cF
  simp (disch := omega) only [z_le, z_lt, z_eq, z_lt0, z_0le, z_eq0, z_le0, z_0lt, z_cl, z_in, z_add, z_mul, z_m1ne, z_m1ne', z_m1lt0, z_m1lt, z_ltm1, forall_eq, true_implies, false_implies, implies_true, true_and, and_true, false_and, and_false, not_true_eq_false, not_false_eq_true, ite_true, ite_false, up2_s, up2_c, up2_r]
  refine ⟨⟨m1, m2, v2, v3, v4, fun z => by omega, v6, v7, v8, v9, fun g hg => ?_⟩, u0, u1, fun p1 hp1 => ?_, u3⟩
  · rw [z4] at hg; omega
  · rw [z3] at hp1; omega
theorem vP_H {T : Tx} {co : Co} {p i' : Nat} (hv : vP co) (q : ¬ co 0 0 = 0) (n : co 0 2 < 12) (hp : p ≤ T.1) (h : twoP T 0 1 0 40 p = .inr i') : vP (cH T co p) := by
  obtain ⟨⟨l1, m1⟩, ⟨_, m2⟩, _⟩ := twoP_inr hp h
  obtain ⟨⟨v0, v1, v2, v3, v4, v5, v6, v7, v8, v9, v10⟩, u0, u1, u2, u3⟩ := hv
  unfold vP vCo cH
  simp (disch := omega) only [z_le, z_lt, z_eq, z_lt0, z_0le, z_eq0, z_le0, z_0lt, z_cl, z_in, z_add, z_mul, z_m1ne, z_m1ne', z_m1lt0, z_m1lt, z_ltm1, forall_eq, true_implies, false_implies, implies_true, true_and, and_true, false_and, and_false, not_true_eq_false, not_false_eq_true, ite_true, ite_false, up2_s, up2_c, up2_r]
  refine ⟨⟨v0, v1, n, v3, v4, fun z => absurd z q, fun k hk => ?_, fun z => by omega, v8, v9, v10⟩, u0, u1, u2, u3⟩
  by_cases e : k = co 0 2
  · subst e; simp (disch := omega) only [z_le, z_lt, z_eq, z_lt0, z_0le, z_eq0, z_le0, z_0lt, z_cl, z_in, z_add, z_mul, z_m1ne, z_m1ne', z_m1lt0, z_m1lt, z_ltm1, forall_eq, true_implies, false_implies, implies_true, true_and, and_true, false_and, and_false, not_true_eq_false, not_false_eq_true, ite_true, ite_false, up2_s, up2_c, up2_r]; exact ⟨m1, m2⟩
  · simp (disch := omega) only [z_le, z_lt, z_eq, z_lt0, z_0le, z_eq0, z_le0, z_0lt, z_cl, z_in, z_add, z_mul, z_m1ne, z_m1ne', z_m1lt0, z_m1lt, z_ltm1, forall_eq, true_implies, false_implies, implies_true, true_and, and_true, false_and, and_false, not_true_eq_false, not_false_eq_true, ite_true, ite_false, up2_s, up2_c, up2_r]; exact v6 k (by omega)
theorem vP_P {T : Tx} {co : Co} {p i' : Nat} (hv : vP co) (q : ¬ co 0 0 = 0) (n : co 0 3 < 6) (hp : p ≤ T.1) (h : posP T co p = .inr i') : vP (cP T co p) := by
  obtain ⟨m0, mk, m1, m2, m3, _⟩ := posP_inr hp h
  obtain ⟨⟨v0, v1, v2, v3, v4, v5, v6, v7, v8, v9, v10⟩, u0, u1, u2, u3⟩ := hv
  have new := pin_none mk
  unfold vP vCo cP
  simp (disch := omega) only [z_le, z_lt, z_eq, z_lt0, z_0le, z_eq0, z_le0, z_0lt, z_cl, z_in, z_add, z_mul, z_m1ne, z_m1ne', z_m1lt0, z_m1lt, z_ltm1, forall_eq, true_implies, false_implies, implies_true, true_and, and_true, false_and, and_false, not_true_eq_false, not_false_eq_true, ite_true, ite_false, up2_s, up2_c, up2_r]
  refine ⟨⟨v0, v1, v2, n, v4, fun z => absurd z q, v6, v7, fun k hk => ?_, v9, v10⟩, u0, u1, fun k hk => ?_, fun k l hk hl e => ?_⟩
  · by_cases e : k = co 0 3
    · subst e; simp (disch := omega) only [z_le, z_lt, z_eq, z_lt0, z_0le, z_eq0, z_le0, z_0lt, z_cl, z_in, z_add, z_mul, z_m1ne, z_m1ne', z_m1lt0, z_m1lt, z_ltm1, forall_eq, true_implies, false_implies, implies_true, true_and, and_true, false_and, and_false, not_true_eq_false, not_false_eq_true, ite_true, ite_false, up2_s, up2_c, up2_r]; exact ⟨m2.1, m2.2, m3⟩
    · simp (disch := omega) only [z_le, z_lt, z_eq, z_lt0, z_0le, z_eq0, z_le0, z_0lt, z_cl, z_in, z_add, z_mul, z_m1ne, z_m1ne', z_m1lt0, z_m1lt, z_ltm1, forall_eq, true_implies, false_implies, implies_true, true_and, and_true, false_and, and_false, not_true_eq_false, not_false_eq_true, ite_true, ite_false, up2_s, up2_c, up2_r]; exact v8 k (by omega)
  · by_cases e : k = co 0 3
    · subst e; simp (disch := omega) only [z_le, z_lt, z_eq, z_lt0, z_0le, z_eq0, z_le0, z_0lt, z_cl, z_in, z_add, z_mul, z_m1ne, z_m1ne', z_m1lt0, z_m1lt, z_ltm1, forall_eq, true_implies, false_implies, implies_true, true_and, and_true, false_and, and_false, not_true_eq_false, not_false_eq_true, ite_true, ite_false, up2_s, up2_c, up2_r]; exact ⟨by omega, m1⟩
    · simp (disch := omega) only [z_le, z_lt, z_eq, z_lt0, z_0le, z_eq0, z_le0, z_0lt, z_cl, z_in, z_add, z_mul, z_m1ne, z_m1ne', z_m1lt0, z_m1lt, z_ltm1, forall_eq, true_implies, false_implies, implies_true, true_and, and_true, false_and, and_false, not_true_eq_false, not_false_eq_true, ite_true, ite_false, up2_s, up2_c, up2_r]; exact u2 k (by omega)
  · by_cases e1 : k = co 0 3
    · by_cases e2 : l = co 0 3
      · omega
      · subst e1
        simp (disch := omega) only [z_le, z_lt, z_eq, z_lt0, z_0le, z_eq0, z_le0, z_0lt, z_cl, z_in, z_add, z_mul, z_m1ne, z_m1ne', z_m1lt0, z_m1lt, z_ltm1, forall_eq, true_implies, false_implies, implies_true, true_and, and_true, false_and, and_false, not_true_eq_false, not_false_eq_true, ite_true, ite_false, up2_s, up2_c, up2_r] at e
        exact absurd e.symm (new l (by omega))
    · by_cases e2 : l = co 0 3
      · subst e2
        simp (disch := omega) only [z_le, z_lt, z_eq, z_lt0, z_0le, z_eq0, z_le0, z_0lt, z_cl, z_in, z_add, z_mul, z_m1ne, z_m1ne', z_m1lt0, z_m1lt, z_ltm1, forall_eq, true_implies, false_implies, implies_true, true_and, and_true, false_and, and_false, not_true_eq_false, not_false_eq_true, ite_true, ite_false, up2_s, up2_c, up2_r] at e
        exact absurd e (new k (by omega))
      · simp (disch := omega) only [z_le, z_lt, z_eq, z_lt0, z_0le, z_eq0, z_le0, z_0lt, z_cl, z_in, z_add, z_mul, z_m1ne, z_m1ne', z_m1lt0, z_m1lt, z_ltm1, forall_eq, true_implies, false_implies, implies_true, true_and, and_true, false_and, and_false, not_true_eq_false, not_false_eq_true, ite_true, ite_false, up2_s, up2_c, up2_r] at e
        exact u3 k l (by omega) (by omega) e
theorem vP_D {T : Tx} {co : Co} {p i' : Nat} (hv : vP co) (hp : p ≤ T.1) (h : twoP T 0 127 0 127 p = .inr i') : vP (cD T co p) := by
  obtain ⟨⟨l1, m1⟩, ⟨_, m2⟩, _⟩ := twoP_inr hp h
  obtain ⟨⟨v0, v1, v2, v3, v4, v5, v6, v7, v8, v9, v10⟩, u0, u1, u2, u3⟩ := hv
  unfold vP vCo cD
  simp (disch := omega) only [z_le, z_lt, z_eq, z_lt0, z_0le, z_eq0, z_le0, z_0lt, z_cl, z_in, z_add, z_mul, z_m1ne, z_m1ne', z_m1lt0, z_m1lt, z_ltm1, forall_eq, true_implies, false_implies, implies_true, true_and, and_true, false_and, and_false, not_true_eq_false, not_false_eq_true, ite_true, ite_false, up2_s, up2_c, up2_r]
  refine ⟨⟨v0, v1, v2, v3, v4, v5, v6, v7, v8, fun v hv => ?_, v10⟩, by decide, u1, u2, u3⟩
  have := v9 v hv
  rcases (by omega : v = 0 ∨ v = 1) with rfl | rfl
  · simp (disch := omega) only [z_le, z_lt, z_eq, z_lt0, z_0le, z_eq0, z_le0, z_0lt, z_cl, z_in, z_add, z_mul, z_m1ne, z_m1ne', z_m1lt0, z_m1lt, z_ltm1, forall_eq, true_implies, false_implies, implies_true, true_and, and_true, false_and, and_false, not_true_eq_false, not_false_eq_true, ite_true, ite_false, up2_s, up2_c, up2_r]; exact ⟨m1, this.2⟩
  · simp (disch := omega) only [z_le, z_lt, z_eq, z_lt0, z_0le, z_eq0, z_le0, z_0lt, z_cl, z_in, z_add, z_mul, z_m1ne, z_m1ne', z_m1lt0, z_m1lt, z_ltm1, forall_eq, true_implies, false_implies, implies_true, true_and, and_true, false_and, and_false, not_true_eq_false, not_false_eq_true, ite_true, ite_false, up2_s, up2_c, up2_r]; exact ⟨m2, this.2⟩
theorem vP_U {T : Tx} {co : Co} {p i' : Nat} (hv : vP co) (hp : p ≤ T.1) (h : twoP T 0 99 0 99 p = .inr i') : vP (cU T co p) := by
  obtain ⟨⟨l1, m1⟩, ⟨_, m2⟩, _⟩ := twoP_inr hp h
  obtain ⟨⟨v0, v1, v2, v3, v4, v5, v6, v7, v8, v9, v10⟩, u0, u1, u2, u3⟩ := hv
  unfold vP vCo cU
  simp (disch := omega) only [z_le, z_lt, z_eq, z_lt0, z_0le, z_eq0, z_le0, z_0lt, z_cl, z_in, z_add, z_mul, z_m1ne, z_m1ne', z_m1lt0, z_m1lt, z_ltm1, forall_eq, true_implies, false_implies, implies_true, true_and, and_true, false_and, and_false, not_true_eq_false, not_false_eq_true, ite_true, ite_false, up2_s, up2_c, up2_r]
  refine ⟨⟨v0, v1, v2, v3, v4, v5, v6, v7, v8, fun v hv => ?_, v10⟩, u0, by decide, u2, u3⟩
  have := v9 v hv
  rcases (by omega : v = 0 ∨ v = 1) with rfl | rfl
  · simp (disch := omega) only [z_le, z_lt, z_eq, z_lt0, z_0le, z_eq0, z_le0, z_0lt, z_cl, z_in, z_add, z_mul, z_m1ne, z_m1ne', z_m1lt0, z_m1lt, z_ltm1, forall_eq, true_implies, false_implies, implies_true, true_and, and_true, false_and, and_false, not_true_eq_false, not_false_eq_true, ite_true, ite_false, up2_s, up2_c, up2_r]; exact ⟨this.1, m1⟩
  · simp (disch := omega) only [z_le, z_lt, z_eq, z_lt0, z_0le, z_eq0, z_le0, z_0lt, z_cl, z_in, z_add, z_mul, z_m1ne, z_m1ne', z_m1lt0, z_m1lt, z_ltm1, forall_eq, true_implies, false_implies, implies_true, true_and, and_true, false_and, and_false, not_true_eq_false, not_false_eq_true, ite_true, ite_false, up2_s, up2_c, up2_r]; exact ⟨this.1, m2⟩
theorem vP_G {T : Tx} {co : Co} {p i' : Nat} (hv : vP co) (q : ¬ co 0 0 = 0) (n : co 0 4 < 4) (hp : p ≤ T.1) (h : twoP T 0 (co 0 0 - 1) 1 20 p = .inr i') : vP (cG T co p) := by
  obtain ⟨⟨l1, m1⟩, ⟨l2, m2⟩, _⟩ := twoP_inr hp h
  obtain ⟨⟨v0, v1, v2, v3, v4, v5, v6, v7, v8, v9, v10⟩, u0, u1, u2, u3⟩ := hv
  unfold vP vCo cG
  simp (disch := omega) only [z_le, z_lt, z_eq, z_lt0, z_0le, z_eq0, z_le0, z_0lt, z_cl, z_in, z_add, z_mul, z_m1ne, z_m1ne', z_m1lt0, z_m1lt, z_ltm1, forall_eq, true_implies, false_implies, implies_true, true_and, and_true, false_and, and_false, not_true_eq_false, not_false_eq_true, ite_true, ite_false, up2_s, up2_c, up2_r]
  refine ⟨⟨v0, v1, v2, v3, n, fun z => absurd z q, v6, v7, v8, v9, fun k hk => ?_⟩, u0, u1, u2, u3⟩
  by_cases e : k = co 0 4
  · subst e; simp (disch := omega) only [z_le, z_lt, z_eq, z_lt0, z_0le, z_eq0, z_le0, z_0lt, z_cl, z_in, z_add, z_mul, z_m1ne, z_m1ne', z_m1lt0, z_m1lt, z_ltm1, forall_eq, true_implies, false_implies, implies_true, true_and, and_true, false_and, and_false, not_true_eq_false, not_false_eq_true, ite_true, ite_false, up2_s, up2_c, up2_r]; exact ⟨by omega, l2, m2⟩
  · simp (disch := omega) only [z_le, z_lt, z_eq, z_lt0, z_0le, z_eq0, z_le0, z_0lt, z_cl, z_in, z_add, z_mul, z_m1ne, z_m1ne', z_m1lt0, z_m1lt, z_ltm1, forall_eq, true_implies, false_implies, implies_true, true_and, and_true, false_and, and_false, not_true_eq_false, not_false_eq_true, ite_true, ite_false, up2_s, up2_c, up2_r]; exact v10 k (by omega)
theorem clP_v {T : Tx} {co : Co} {s i' : Nat} (hv : vP co) (hs : s < T.1) (h : clP T co s = .inr i') : vP (clC T co s) ∧ s < i' ∧ i' ≤ T.1 := by
  unfold clP at h
  unfold clC
  by_cases q : co 0 0 = 0
  · rw [if_pos q] at h ⊢
    split at h
    · have := twoP_inr hs h; exact ⟨vP_F hv q hs h, by omega, this.2.2.2⟩
    · cases h
  rw [if_neg q] at h ⊢
  by_cases w1 : T.2 s = 102
  · rw [if_pos w1] at h; cases h
  rw [if_neg w1] at h
  by_cases w2 : T.2 s = 104
  · rw [if_pos w2] at h ⊢
    split at h
    · next n => have := twoP_inr hs h; exact ⟨vP_H hv q n hs h, by omega, this.2.2.2⟩
    · cases h
  rw [if_neg w2] at h ⊢
  by_cases w3 : T.2 s = 112
  · rw [if_pos w3] at h ⊢
    split at h
    · next n => have := (posP_inr hs h).2.2.2.2.2; exact ⟨vP_P hv q n hs h, by omega, this.2⟩
    · cases h
  rw [if_neg w3] at h ⊢
  by_cases w4 : T.2 s = 100
  · rw [if_pos w4] at h ⊢
    split at h
    · have := twoP_inr hs h; exact ⟨vP_D hv hs h, by omega, this.2.2.2⟩
    · cases h
  rw [if_neg w4] at h ⊢
  by_cases w5 : T.2 s = 117
  · rw [if_pos w5] at h ⊢
    split at h
    · have := twoP_inr hs h; exact ⟨vP_U hv hs h, by omega, this.2.2.2⟩
    · cases h
  rw [if_neg w5] at h ⊢
  by_cases w6 : T.2 s = 103
  · rw [if_pos w6] at h
    split at h
    · next n => have := twoP_inr hs h; exact ⟨vP_G hv q n hs h, by omega, this.2.2.2⟩
    · cases h
  rw [if_neg w6] at h
  cases h
def co0 : Co := fun i _ => if i = 5 then 127 else 0
theorem vP_0 : vP co0 := by
  have e0 : ∀ i j, i ≠ 5 → co0 i j = 0 := fun i j h => by unfold co0; rw [if_neg h]
  have e5 : ∀ j, co0 5 j = 127 := fun j => by unfold co0; rw [if_pos rfl]
  unfold vP vCo
  simp (disch := omega) only [z_le, z_lt, z_eq, z_lt0, z_0le, z_eq0, z_le0, z_0lt, z_cl, z_in, z_add, z_mul, z_m1ne, z_m1ne', z_m1lt0, z_m1lt, z_ltm1, forall_eq, true_implies, false_implies, implies_true, true_and, and_true, false_and, and_false, not_true_eq_false, not_false_eq_true, ite_true, ite_false, e0, e5]
  refine ⟨⟨by decide, by decide, by decide, by decide, by decide, fun h hh => by omega, fun p hp => by omega, fun v hv => by decide, fun g hg => by omega⟩, by decide, by decide, fun p hp => by omega, fun p q hp => by omega⟩
def prs (T : Tx) : Nat → Nat → Co → Rs × Co
  | 0, i, co => (.inr i, co)
  | d + 1, i, co => if sk T i < T.1 then (match clP T co (sk T i) with
      | .inl e => (.inl e, co)
      | .inr i' => prs T d i' (clC T co (sk T i))) else (.inr (sk T i), co)
theorem prs_end {T : Tx} {i : Nat} {co : Co} (h : ¬ sk T i < T.1) : ∀ d, i ≤ T.1 → T.1 - i ≤ d → prs T d i co = (.inr (sk T i), co) := by
  intro d hi hd
  cases d with
  | zero => rw [sk_end (by omega)]; rfl
  | succ d => unfold prs; rw [if_neg h]
theorem prs_inl {T : Tx} {i d : Nat} {co : Co} {e : Nat × Nat} (h : sk T i < T.1) (q : clP T co (sk T i) = .inl e) : prs T (d + 1) i co = (.inl e, co) := by
  unfold prs; rw [if_pos h, q]
theorem prs_inr {T : Tx} {i i' d : Nat} {co : Co} (h : sk T i < T.1) (q : clP T co (sk T i) = .inr i') : prs T (d + 1) i co = prs T d i' (clC T co (sk T i)) := by
  rw [prs, if_pos h, q]
theorem prs_v {T : Tx} : ∀ d i co, vP co → vP (prs T d i co).2 := by
  intro d
  induction d with
  | zero => intro i co hv; exact hv
  | succ d ih =>
    intro i co hv
    by_cases h : sk T i < T.1
    · cases q : clP T co (sk T i) with
      | inl e => rw [prs_inl h q]; exact hv
      | inr i' => rw [prs_inr h q]; exact ih i' _ (clP_v hv h q).1
    · rw [show prs T (d + 1) i co = (.inr (sk T i), co) by unfold prs; rw [if_neg h]]; exact hv
def fcd : Rs → Nat
  | .inl e => e.1
  | .inr _ => 0
theorem F_wipe {μ : Mem} {R : Nat} {Q : Mem → Prop} (hR : R = 3 ∨ R = 14) (hj : JB μ R)
    (h : ∀ μ' : Mem, FrD R μ μ' → JB μ' R → (∀ j, j < 5 → μ'.1 R j = nI 0) → μ'.1 (R + 1) 0 = nI 0 → μ'.1 (R + 2) 0 = nI 0 → (∀ p, p < 6 → μ'.1 (R + 3) p = -1 ∧ μ'.1 (R + 6) p = -1) → (∀ v, v < 2 → μ'.1 (R + 7) v = nI 127 ∧ μ'.1 (R + 8) v = nI 0) → Q μ') : w_X0_wipe R μ Q := by
  unfold w_X0_wipe
  intro μ1 e1 μ2 e2 μ3 e3 μ4 e4 μ5 e5
  subst e1 e2 e3 e4 e5
  refine ⟨vp_in_nI (by decide) (by decide), fun μ6 e6 => ⟨vp_in_nI (by decide) (by decide), fun μ7 e7 => ?_⟩⟩
  rw [z_cl (by decide)] at e6 e7
  have q1 : R ≤ R + 1 ∧ R + 1 ≤ R + 10 := by omega
  have q2 : R ≤ R + 2 ∧ R + 2 ≤ R + 10 := by omega
  have fr7 : FrD R μ μ7 := by
    rw [e7, e6]
    exact (FrD.put hR (by omega)).trans ((FrD.put hR (by omega)).trans ((FrD.put hR (by omega)).trans ((FrD.put hR (by omega)).trans ((FrD.put hR (by omega)).trans ((FrD.put hR q1).trans (FrD.put hR q2))))))
  have j7 : JB μ7 R := by
    refine hj.fr ?_
    rw [e7, e6, sI_r (by omega), sI_r (by omega), sI_r (by omega), sI_r (by omega), sI_r (by omega), sI_r (by omega), sI_r (by omega)]
  have c0 : ∀ j, j < 5 → μ7.1 R j = nI 0 := by
    intro j hj5
    rw [e7, e6]
    rcases (by omega : j = 0 ∨ j = 1 ∨ j = 2 ∨ j = 3 ∨ j = 4) with rfl | rfl | rfl | rfl | rfl <;> simp (disch := omega) only [z_le, z_lt, z_eq, z_lt0, z_0le, z_eq0, z_le0, z_0lt, z_cl, z_in, z_add, z_mul, z_m1ne, z_m1ne', z_m1lt0, z_m1lt, z_ltm1, forall_eq, true_implies, false_implies, implies_true, true_and, and_true, false_and, and_false, not_true_eq_false, not_false_eq_true, ite_true, ite_false, sI_same, sI_ne1, sI_ne2, sA_same, sA_ne, sI_2, sA_2, sL_1, sR_1]
  have c1 : μ7.1 (R + 1) 0 = nI 0 := by rw [e7, e6]; simp (disch := omega) only [z_le, z_lt, z_eq, z_lt0, z_0le, z_eq0, z_le0, z_0lt, z_cl, z_in, z_add, z_mul, z_m1ne, z_m1ne', z_m1lt0, z_m1lt, z_ltm1, forall_eq, true_implies, false_implies, implies_true, true_and, and_true, false_and, and_false, not_true_eq_false, not_false_eq_true, ite_true, ite_false, sI_same, sI_ne1, sI_ne2, sA_same, sA_ne, sI_2, sA_2, sL_1, sR_1]
  have c2 : μ7.1 (R + 2) 0 = nI 0 := by rw [e7, e6]; simp (disch := omega) only [z_le, z_lt, z_eq, z_lt0, z_0le, z_eq0, z_le0, z_0lt, z_cl, z_in, z_add, z_mul, z_m1ne, z_m1ne', z_m1lt0, z_m1lt, z_ltm1, forall_eq, true_implies, false_implies, implies_true, true_and, and_true, false_and, and_false, not_true_eq_false, not_false_eq_true, ite_true, ite_false, sI_same, sI_ne1, sI_ne2, sA_same, sA_ne, sI_2, sA_2, sL_1, sR_1]
  clear e7 e6
  unfold w_X0_wipe_41
  intro X hX
  have two : ∀ μ8 : Mem, FrD R μ μ8 → JB μ8 R → (∀ j, j < 5 → μ8.1 R j = nI 0) → μ8.1 (R + 1) 0 = nI 0 → μ8.1 (R + 2) 0 = nI 0 → (∀ p, p < 6 → μ8.1 (R + 3) p = -1 ∧ μ8.1 (R + 6) p = -1) → w_X0_wipe_69 R (nI 0) μ8 Q := by
    intro μ8 f8 g8 d0 d1 d2 d3
    unfold w_X0_wipe_69
    intro Y hY
    refine cnt_dn (P := fun k => k ≤ 2 → ∀ μ9 : Mem, FrD R μ μ9 → JB μ9 R → (∀ j, j < 5 → μ9.1 R j = nI 0) → μ9.1 (R + 1) 0 = nI 0 → μ9.1 (R + 2) 0 = nI 0 → (∀ p, p < 6 → μ9.1 (R + 3) p = -1 ∧ μ9.1 (R + 6) p = -1) → (∀ v, v < k → μ9.1 (R + 7) v = nI 127 ∧ μ9.1 (R + 8) v = nI 0) → Y (nI k) μ9) 2 ?_ ?_ (by decide) μ8 f8 g8 d0 d1 d2 d3 (fun v hv => by omega)
    · intro _ μ9 f9 g9 x0 x1 x2 x3 x4
      apply hY
      unfold s_X0_wipe_69
      exact ⟨fun _ => h μ9 f9 g9 x0 x1 x2 x3 x4, fun z => absurd (by decide) z⟩
    · intro k hk ih _ μ9 f9 g9 x0 x1 x2 x3 x4
      apply hY
      unfold s_X0_wipe_69
      simp (disch := omega) only [z_le, z_lt, z_eq, z_lt0, z_0le, z_eq0, z_le0, z_0lt, z_cl, z_in, z_add, z_mul, z_m1ne, z_m1ne', z_m1lt0, z_m1lt, z_ltm1, forall_eq, true_implies, false_implies, implies_true, true_and, and_true, false_and, and_false, not_true_eq_false, not_false_eq_true, ite_true, ite_false]
      refine ⟨fun z => by omega, fun _ => ⟨hk, hk, ?_⟩⟩
      have q7 : R ≤ R + 7 ∧ R + 7 ≤ R + 10 := by omega
      refine ih (by omega) (sI (sI μ9 (R + 7) k (nI 127)) (R + 8) k (nI 0)) (f9.trans ((FrD.put hR q7).trans (FrD.put hR (by omega)))) (g9.fr (by rw [sI_r (by omega), sI_r (by omega)])) (fun j hj5 => by rw [sI_ne1 (by omega), sI_ne1 (by omega)]; exact x0 j hj5) (by rw [sI_ne1 (by omega), sI_ne1 (by omega)]; exact x1) (by rw [sI_ne1 (by omega), sI_ne1 (by omega)]; exact x2) (fun p hp => by rw [sI_ne1 (by omega), sI_ne1 (by omega), sI_ne1 (by omega), sI_ne1 (by omega)]; exact x3 p hp) (fun v hv => ?_)
      by_cases e : v = k
      · subst e; simp (disch := omega) only [z_le, z_lt, z_eq, z_lt0, z_0le, z_eq0, z_le0, z_0lt, z_cl, z_in, z_add, z_mul, z_m1ne, z_m1ne', z_m1lt0, z_m1lt, z_ltm1, forall_eq, true_implies, false_implies, implies_true, true_and, and_true, false_and, and_false, not_true_eq_false, not_false_eq_true, ite_true, ite_false, sI_same, sI_ne1, sI_ne2, sA_same, sA_ne, sI_2, sA_2, sL_1, sR_1]
      · simp (disch := omega) only [z_le, z_lt, z_eq, z_lt0, z_0le, z_eq0, z_le0, z_0lt, z_cl, z_in, z_add, z_mul, z_m1ne, z_m1ne', z_m1lt0, z_m1lt, z_ltm1, forall_eq, true_implies, false_implies, implies_true, true_and, and_true, false_and, and_false, not_true_eq_false, not_false_eq_true, ite_true, ite_false, sI_same, sI_ne1, sI_ne2, sA_same, sA_ne, sI_2, sA_2, sL_1, sR_1]; exact x4 v (by omega)
  refine cnt_dn (P := fun k => k ≤ 6 → ∀ μ9 : Mem, FrD R μ μ9 → JB μ9 R → (∀ j, j < 5 → μ9.1 R j = nI 0) → μ9.1 (R + 1) 0 = nI 0 → μ9.1 (R + 2) 0 = nI 0 → (∀ p, p < k → μ9.1 (R + 3) p = -1 ∧ μ9.1 (R + 6) p = -1) → X (nI k) μ9) 6 ?_ ?_ (by decide) μ7 fr7 j7 c0 c1 c2 (fun v hv => by omega)
  · intro _ μ9 f9 g9 x0 x1 x2 x3
    apply hX
    unfold s_X0_wipe_41 w_X0_wipe_67
    exact ⟨fun _ => two μ9 f9 g9 x0 x1 x2 x3, fun z => absurd (by decide) z⟩
  · intro k hk ih _ μ9 f9 g9 x0 x1 x2 x3
    apply hX
    unfold s_X0_wipe_41
    simp (disch := omega) only [z_le, z_lt, z_eq, z_lt0, z_0le, z_eq0, z_le0, z_0lt, z_cl, z_in, z_add, z_mul, z_m1ne, z_m1ne', z_m1lt0, z_m1lt, z_ltm1, forall_eq, true_implies, false_implies, implies_true, true_and, and_true, false_and, and_false, not_true_eq_false, not_false_eq_true, ite_true, ite_false]
    refine ⟨fun z => by omega, fun _ => ⟨hk, hk, ?_⟩⟩
    have q3 : R ≤ R + 3 ∧ R + 3 ≤ R + 10 := by omega
    refine ih (by omega) (sI (sI μ9 (R + 3) k (-1)) (R + 6) k (-1)) (f9.trans ((FrD.put hR q3).trans (FrD.put hR (by omega)))) (g9.fr (by rw [sI_r (by omega), sI_r (by omega)])) (fun j hj5 => by rw [sI_ne1 (by omega), sI_ne1 (by omega)]; exact x0 j hj5) (by rw [sI_ne1 (by omega), sI_ne1 (by omega)]; exact x1) (by rw [sI_ne1 (by omega), sI_ne1 (by omega)]; exact x2) (fun p hp => ?_)
    by_cases e : p = k
    · subst e; simp (disch := omega) only [z_le, z_lt, z_eq, z_lt0, z_0le, z_eq0, z_le0, z_0lt, z_cl, z_in, z_add, z_mul, z_m1ne, z_m1ne', z_m1lt0, z_m1lt, z_ltm1, forall_eq, true_implies, false_implies, implies_true, true_and, and_true, false_and, and_false, not_true_eq_false, not_false_eq_true, ite_true, ite_false, sI_same, sI_ne1, sI_ne2, sA_same, sA_ne, sI_2, sA_2, sL_1, sR_1]
    · simp (disch := omega) only [z_le, z_lt, z_eq, z_lt0, z_0le, z_eq0, z_le0, z_0lt, z_cl, z_in, z_add, z_mul, z_m1ne, z_m1ne', z_m1lt0, z_m1lt, z_ltm1, forall_eq, true_implies, false_implies, implies_true, true_and, and_true, false_and, and_false, not_true_eq_false, not_false_eq_true, ite_true, ite_false, sI_same, sI_ne1, sI_ne2, sA_same, sA_ne, sI_2, sA_2, sL_1, sR_1]; exact x3 p (by omega)
theorem F_readAll {μ : Mem} {T : Tx} {R : Nat} {Q : Int32 → Mem → Prop} (hT : vTx T) (tx : TxF μ T) (hR : R = 3 ∨ R = 14) (hj : JB μ R)
    (h : ∀ μ' : Mem, FrD R μ μ' → RdF μ' T (prs T 240 0 co0).1 → JB μ' R → (∀ i', (prs T 240 0 co0).1 = .inr i' → DrF μ' R (prs T 240 0 co0).2) → Q (nI (fcd (prs T 240 0 co0).1)) (sI μ' 1 1 (nI 0))) : w_X3_readAll R μ Q := by
  have h1 := hT.1
  unfold w_X3_readAll
  refine F_wipe hR hj (fun μ2 f2 g2 x0 x1 x2 x3 x4 => ?_)
  intro μ3 e3 μ4 e4 μ5 e5 μ6 e6 μ7 e7
  have ne1 : ∀ k, k ≠ 1 → μ7.1 k = μ2.1 k := by
    intro k hk
    rw [e7, e6, e5, e4, e3, sI_r hk, sI_r hk, sI_r hk, sI_r hk, sI_r hk]
  have fr7 : FrD R μ μ7 := by
    refine f2.trans ?_
    rw [e7, e6, e5, e4, e3]
    exact (FrD.flag (by decide)).trans ((FrD.flag (by decide)).trans ((FrD.flag (by decide)).trans ((FrD.flag (by decide)).trans (FrD.flag (by decide)))))
  have r7 : RdF μ7 T (.inr 0) := by
    rw [e7, e6, e5, e4, e3]
    unfold RdF
    dsimp only
    simp (disch := omega) only [z_le, z_lt, z_eq, z_lt0, z_0le, z_eq0, z_le0, z_0lt, z_cl, z_in, z_add, z_mul, z_m1ne, z_m1ne', z_m1lt0, z_m1lt, z_ltm1, forall_eq, true_implies, false_implies, implies_true, true_and, and_true, false_and, and_false, not_true_eq_false, not_false_eq_true, ite_true, ite_false, sI_same, sI_ne1, sI_ne2, sA_same, sA_ne, sI_2, sA_2, sL_1, sR_1]
    exact Nat.zero_le _
  have d7 : DrF μ7 R co0 := by
    have e0 : ∀ i j, i ≠ 5 → co0 i j = 0 := fun i j h => by unfold co0; rw [if_neg h]
    have e5' : ∀ j, co0 5 j = 127 := fun j => by unfold co0; rw [if_pos rfl]
    have hdl : dl co0 = 1 := by unfold dl; rw [e0 0 2 (by decide), if_pos rfl]
    unfold DrF CoF
    rw [hdl]
    simp (disch := omega) only [z_le, z_lt, z_eq, z_lt0, z_0le, z_eq0, z_le0, z_0lt, z_cl, z_in, z_add, z_mul, z_m1ne, z_m1ne', z_m1lt0, z_m1lt, z_ltm1, forall_eq, true_implies, false_implies, implies_true, true_and, and_true, false_and, and_false, not_true_eq_false, not_false_eq_true, ite_true, ite_false, e0, e5']
    rw [ne1 R (by omega), ne1 (R + 1) (by omega), ne1 (R + 2) (by omega), ne1 (R + 3) (by omega), ne1 (R + 6) (by omega), ne1 (R + 7) (by omega), ne1 (R + 8) (by omega), ne1 (R + 5) (by omega)]
    refine ⟨⟨⟨x0 0 (by decide), x0 1 (by decide), x0 2 (by decide), x0 3 (by decide), x0 4 (by decide)⟩, fun k hk => ?_, fun p hp => by omega, fun p _ hp => (x3 p hp).2, g2, x4, fun g hg => by omega⟩, fun p hp => by omega, fun p _ hp => (x3 p hp).1, ?_, ?_⟩
    · rw [show k = 0 by omega]; exact ⟨x1, x2⟩
    · rw [e7, e6]; simp (disch := omega) only [z_le, z_lt, z_eq, z_lt0, z_0le, z_eq0, z_le0, z_0lt, z_cl, z_in, z_add, z_mul, z_m1ne, z_m1ne', z_m1lt0, z_m1lt, z_ltm1, forall_eq, true_implies, false_implies, implies_true, true_and, and_true, false_and, and_false, not_true_eq_false, not_false_eq_true, ite_true, ite_false, sI_same, sI_ne1, sI_ne2, sA_same, sA_ne, sI_2, sA_2, sL_1, sR_1]
    · rw [e7]; simp (disch := omega) only [z_le, z_lt, z_eq, z_lt0, z_0le, z_eq0, z_le0, z_0lt, z_cl, z_in, z_add, z_mul, z_m1ne, z_m1ne', z_m1lt0, z_m1lt, z_ltm1, forall_eq, true_implies, false_implies, implies_true, true_and, and_true, false_and, and_false, not_true_eq_false, not_false_eq_true, ite_true, ite_false, sI_same, sI_ne1, sI_ne2, sA_same, sA_ne, sI_2, sA_2, sL_1, sR_1]
  clear e7 e6 e5 e4 e3 ne1
  unfold w_X3_readAll_31
  intro X hX
  have fin : ∀ (μ8 : Mem) (st : Rs) (co1 : Co), FrD R μ μ8 → RdF μ8 T st → JB μ8 R → (∀ i', st = .inr i' → DrF μ8 R co1) → prs T 240 0 co0 = (st, co1) → w_X3_readAll_70 R μ8 Q := by
    intro μ8 st co1 f8 r8 j8 d8 e8
    have := h μ8 f8
    rw [e8] at this
    have hh := this r8 j8 d8
    unfold w_X3_readAll_70
    intro μ13 e13
    subst e13
    rw [sI_ne2 (by decide)]
    cases st with
    | inl e => rw [r8.1]; exact hh
    | inr i => rw [r8.1]; exact hh
  have key : ∀ d k i co (μ1 : Mem), k + d = 240 → T.1 - i ≤ d → FrD R μ μ1 → RdF μ1 T (.inr i) → DrF μ1 R co → vP co → prs T d i co = prs T 240 0 co0 → X (nI k) μ1 := by
    intro d
    induction d with
    | zero =>
      intro k i co μ1 hk hd fr rd dr hv ep
      apply hX
      unfold s_X3_readAll_31
      refine ⟨fun _ => fin μ1 (.inr i) co fr rd dr.jb (fun i' z => by cases z; exact dr) ep.symm, fun z => absurd ((z_le (by decide) (by omega)).mpr (by omega)) z⟩
    | succ d ih =>
      intro k i co μ1 hk hd fr rd dr hv ep
      have tx1 := tx.d hR fr
      apply hX
      unfold s_X3_readAll_31
      rw [rd.1]
      refine ⟨fun z => absurd ((z_le (by decide) (by omega)).mp z) (by omega), fun _ => ⟨fun z => absurd rfl z, fun _ => ?_⟩⟩
      refine F_skip hT tx1 rd.2.2.1 rd.2.2.2 (fun μ9 f9 g9 e9 => ?_)
      have rd9 : RdF μ9 T (.inr (sk T i)) := ⟨by rw [g9 4 (by decide)]; exact rd.1, by rw [g9 5 (by decide)]; exact rd.2.1, e9, sk_le rd.2.2.2⟩
      have dr9 := dr.rd hR f9
      have fr9 := fr.trans f9.d
      by_cases q : sk T i < T.1
      · have el : ltI T (sk T i) = nI (T.2 (sk T i)) := by unfold ltI; rw [if_pos q]
        have hl := hT.2 _ q
        rw [el, z_m1ne (by omega)]
        refine ⟨fun _ => ?_, fun z => z.elim⟩
        refine F_readClause hT (tx1.rd f9) hR dr9 hv q rd9 rfl (fun μ11 hc => ?_)
        intro x12 e12
        rw [z_add] at e12
        subst e12
        obtain ⟨c1, c2, c3, c4⟩ := hc
        cases est : clP T co (sk T i) with
        | inl e =>
          rw [est] at c2
          rw [prs_inl q est] at ep
          have f11 := fin μ11 (.inl e) co (fr9.trans c1) c2 c3 (fun i' z => by cases z) ep.symm
          apply hX
          unfold s_X3_readAll_31
          refine ⟨fun _ => f11, fun _ => ⟨fun _ => f11, fun z => ?_⟩⟩
          rw [c2.1, z_eq0 (by have := c2.2.2.2; omega)] at z
          have := c2.2.2.1
          omega
        | inr i' =>
          have hcv := clP_v hv q est
          have := @sk_ge T i
          have dr11 := c4 i' est
          rw [est] at c2
          rw [prs_inr q est] at ep
          exact ih (k + 1) i' _ μ11 (by omega) (by omega) (fr9.trans c1) c2 dr11 hcv.1 ep
      · have el : ltI T (sk T i) = -1 := by unfold ltI; rw [if_neg q]
        rw [el]
        refine ⟨fun z => absurd rfl z, fun _ => ?_⟩
        rw [prs_end q (d + 1) rd.2.2.2 hd] at ep
        unfold w_X3_readAll_55
        exact fin μ9 (.inr (sk T i)) co fr9 rd9 dr9.jb (fun i' z => by cases z; exact dr9) ep.symm
  exact key 240 0 0 co0 μ7 rfl (by omega) fr7 r7 d7 vP_0 rfl
