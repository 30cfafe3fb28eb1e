/-! ===== FogNets: a clause read ===== -/
def up2 (co : Co) (a b x : Nat) : Co := fun i j => if i = a ∧ j = b then x else co i j
theorem up2_s {co : Co} {a b x : Nat} : up2 co a b x a b = x := by simp [up2]
theorem up2_r {co : Co} {a b x i j : Nat} (h : i ≠ a) : up2 co a b x i j = co i j := by simp [up2, h]
theorem up2_c {co : Co} {a b x j : Nat} (h : j ≠ b) : up2 co a b x a j = co a j := by simp [up2, h]
def cF (T : Tx) (co : Co) (p : Nat) : Co := up2 (up2 co 0 0 (val T p)) 0 1 (val T (nx T p))
def cH (T : Tx) (co : Co) (p : Nat) : Co := up2 (up2 (up2 co 1 (co 0 2) (val T p)) 2 (co 0 2) (val T (nx T p))) 0 2 (co 0 2 + 1)
def cP (T : Tx) (co : Co) (p : Nat) : Co := up2 (up2 (up2 (up2 (up2 co 9 (co 0 3) (val T p)) 10 (co 0 3) (val T (nx T p))) 3 (co 0 3) (val T (nx T (nx T p)))) 4 (co 0 3) (val T (nx T (nx T (nx T p))))) 0 3 (co 0 3 + 1)
def cD (T : Tx) (co : Co) (p : Nat) : Co := up2 (up2 (up2 co 5 0 (val T p)) 5 1 (val T (nx T p))) 11 0 1
def cU (T : Tx) (co : Co) (p : Nat) : Co := up2 (up2 (up2 co 6 0 (val T p)) 6 1 (val T (nx T p))) 11 1 1
def cG (T : Tx) (co : Co) (p : Nat) : Co := up2 (up2 (up2 co 7 (co 0 4) (val T p)) 8 (co 0 4) (val T (nx T p))) 0 4 (co 0 4 + 1)
/-- two numbers and the end of a clause -/
def twoP (T : Tx) (a b c d p : Nat) : Rs := bnd (endA T) (bnd (numA T c d) (bnd (numA T a b) (.inr p)))
def tkA (T : Tx) (co : Co) (p : Nat) (i : Nat) : Rs := if pin (co 9) (val T p) (co 0 3) = none then .inr i else .inl (4, sk T p)
def posP (T : Tx) (co : Co) (p : Nat) : Rs := bnd (endA T) (bnd (numA T 0 1) (bnd (numA T 1 99) (bnd (numA T 0 9) (bnd (tkA T co p) (bnd (numA T 0 (co 0 0 - 1)) (.inr p))))))
def clP (T : Tx) (co : Co) (s : Nat) : Rs :=
  if co 0 0 = 0 then (if T.2 s = 102 then twoP T 1 12 0 20 (s + 1) else .inl (1, s))
  else if T.2 s = 102 then .inl (3, s)
  else if T.2 s = 104 then (if co 0 2 < 12 then twoP T 0 1 0 40 (s + 1) else .inl (3, s))
  else if T.2 s = 112 then (if co 0 3 < 6 then posP T co (s + 1) else .inl (3, s))
  else if T.2 s = 100 then (if co 11 0 = 0 then twoP T 0 127 0 127 (s + 1) else .inl (3, s))
  else if T.2 s = 117 then (if co 11 1 = 0 then twoP T 0 99 0 99 (s + 1) else .inl (3, s))
  else if T.2 s = 103 then (if co 0 4 < 4 then twoP T 0 (co 0 0 - 1) 1 20 (s + 1) else .inl (3, s))
  else .inl (1, s)
def clC (T : Tx) (co : Co) (s : Nat) : Co :=
  if co 0 0 = 0 then cF T co (s + 1) else if T.2 s = 104 then cH T co (s + 1) else if T.2 s = 112 then cP T co (s + 1)
  else if T.2 s = 100 then cD T co (s + 1) else if T.2 s = 117 then cU T co (s + 1) else cG T co (s + 1)
def JB (μ : Mem) (R : Nat) : Prop := ∀ p, p < 6 → ∃ z, z < 1000 ∧ μ.1 (R + 5) p = nI z
def FrD (R : Nat) (μ μ' : Mem) : Prop := μ'.2 = μ.2 ∧ (∀ k, k ≠ 1 → ¬ (R ≤ k ∧ k ≤ R + 10) → μ'.1 k = μ.1 k) ∧ μ'.1 1 1 = μ.1 1 1
def DrF (μ : Mem) (R : Nat) (co : Co) : Prop := CoF μ R co ∧ (∀ p, p < co 0 3 → μ.1 (R + 3) p = nI (co 9 p) ∧ μ.1 (R + 4) p = nI (co 10 p)) ∧ (∀ p, co 0 3 ≤ p → p < 6 → μ.1 (R + 3) p = -1) ∧ μ.1 1 6 = nI (co 11 0) ∧ μ.1 1 7 = nI (co 11 1)
def vP (co : Co) : Prop := vCo co ∧ co 11 0 ≤ 1 ∧ co 11 1 ≤ 1 ∧ (∀ p, p < co 0 3 → co 9 p < co 0 0 ∧ co 10 p ≤ 9) ∧ ∀ p q, p < co 0 3 → q < co 0 3 → co 9 p = co 9 q → p = q
theorem FrD.trans {R : Nat} {μ μ1 μ2 : Mem} (h : FrD R μ μ1) (g : FrD R μ1 μ2) : FrD R μ μ2 :=
  ⟨g.1.trans h.1, fun k h1 h2 => (g.2.1 k h1 h2).trans (h.2.1 k h1 h2), g.2.2.trans h.2.2⟩
theorem FrRd.d {R : Nat} {μ μ1 : Mem} (h : FrRd μ μ1) : FrD R μ μ1 := ⟨h.1, fun k h1 _ => h.2.1 k h1, h.2.2 1 (by decide) (by decide) (by decide) (by decide)⟩
theorem FrD.put {R k j : Nat} {x : Int32} {μ : Mem} (hR : R = 3 ∨ R = 14) (h : R ≤ k ∧ k ≤ R + 10) : FrD R μ (sI μ k j x) :=
  ⟨rfl, fun a _ h2 => sI_r (fun z => h2 (by omega)), sI_ne1 (by omega)⟩
theorem FrD.flag {R j : Nat} {x : Int32} {μ : Mem} (h : j ≠ 1) : FrD R μ (sI μ 1 j x) :=
  ⟨rfl, fun a h1 _ => sI_r h1, sI_ne2 (Ne.symm h)⟩
theorem TxF.d {R : Nat} {μ μ1 : Mem} {T : Tx} (hR : R = 3 ∨ R = 14) (h : TxF μ T) (f : FrD R μ μ1) : TxF μ1 T := by
  unfold TxF at h ⊢
  rw [f.2.2, f.2.1 2 (by decide) (by omega)]; exact h
theorem RdF.fr {μ μ1 : Mem} {T : Tx} {st : Rs} (h : RdF μ T st) (f : ∀ j, j ≤ 5 → μ1.1 1 j = μ.1 1 j) : RdF μ1 T st := by
  unfold RdF at h ⊢
  cases st with
  | inl e => dsimp only at h ⊢; rw [f 4 (by decide), f 5 (by decide)]; exact h
  | inr i => dsimp only at h ⊢; rw [f 4 (by decide), f 5 (by decide), f 2 (by decide)]; exact h
theorem JB.fr {μ μ1 : Mem} {R : Nat} (h : JB μ R) (f : μ1.1 (R + 5) = μ.1 (R + 5)) : JB μ1 R := by
  unfold JB at h ⊢
  rw [f]; exact h
theorem JB.put {μ : Mem} {R p z : Nat} (h : JB μ R) (hz : z < 1000) : JB (sI μ (R + 5) p (nI z)) R := by
  intro q hq
  by_cases e : q = p
  · rw [e, sI_same]; exact ⟨z, hz, rfl⟩
  · rw [sI_ne2 e]; exact h q hq
theorem DrF.rd {μ μ1 : Mem} {R : Nat} {co : Co} (hR : R = 3 ∨ R = 14) (h : DrF μ R co) (f : FrRd μ μ1) : DrF μ1 R co := by
  unfold DrF CoF at h ⊢
  rw [f.2.1 R (by omega), f.2.1 (R + 1) (by omega), f.2.1 (R + 2) (by omega), f.2.1 (R + 3) (by omega), f.2.1 (R + 4) (by omega), f.2.1 (R + 5) (by omega), f.2.1 (R + 6) (by omega), f.2.1 (R + 7) (by omega), f.2.1 (R + 8) (by omega), f.2.1 (R + 9) (by omega), f.2.1 (R + 10) (by omega), f.2.2 6 (by decide) (by decide) (by decide) (by decide), f.2.2 7 (by decide) (by decide) (by decide) (by decide)]
  exact h
theorem DrF.jb {μ : Mem} {R : Nat} {co : Co} (h : DrF μ R co) : JB μ R := h.1.2.2.2.2.1
theorem co_len {R : Nat} (hR : R = 3 ∨ R = 14) : sF.2.2 (R + 1) = 12 ∧ sF.2.2 (R + 2) = 12 ∧ sF.2.2 (R + 3) = 6 ∧ sF.2.2 (R + 4) = 6 ∧ sF.2.2 (R + 5) = 6 ∧ sF.2.2 (R + 6) = 6 ∧ sF.2.2 (R + 7) = 2 ∧ sF.2.2 (R + 8) = 2 ∧ sF.2.2 (R + 9) = 4 ∧ sF.2.2 (R + 10) = 4 := by
  rcases hR with rfl | rfl <;> decide +kernel
/-- what a clause leaves -/
def ClF (T : Tx) (R : Nat) (μ : Mem) (st : Rs) (co1 : Co) (μ' : Mem) : Prop := FrD R μ μ' ∧ RdF μ' T st ∧ JB μ' R ∧ ∀ i', st = .inr i' → DrF μ' R co1
section CLAU
variable {μ : Mem} {T : Tx} {R p : Nat} {co : Co} {Q : Mem → Prop}
theorem two_ok {a b c d p i' z1 z2 : Nat} {μ2 μ4 : Mem} (o2 : Okn T a b (.inr p) z1 μ2) (o4 : Okn T c d (bnd (numA T a b) (.inr p)) z2 μ4) (h : twoP T a b c d p = .inr i') : z1 = val T p ∧ z2 = val T (nx T p) := by
  obtain ⟨i2, e2, _⟩ := bnd_inr h
  obtain ⟨i1, e1, _, _, q2, _⟩ := o4 i2 e2
  obtain ⟨i0, e0, _, q0, q1, _⟩ := o2 i1 e1
  cases e0
  subst q0
  exact ⟨q1, q2⟩
theorem F_readCells (hT : vTx T) (tx : TxF μ T) (hR : R = 3 ∨ R = 14) (hd : DrF μ R co) (rd : RdF μ T (.inr p)) (h : ∀ μ' : Mem, ClF T R μ (twoP T 1 12 0 20 p) (cF T co p) μ' → Q μ') : w_X3_readCells R μ Q := by
  unfold w_X3_readCells
  refine F_number hT tx rd (by decide) (by decide) (fun z1 μ2 hz1 f2 t2 r2 o2 => ?_)
  refine F_number hT t2 r2 (by decide) (by decide) (fun z2 μ4 hz2 f4 t4 r4 o4 => ?_)
  refine F_end hT t4 r4 (fun μ6 f6 r6 => ?_)
  intro μ7 e7 μ8 e8
  subst e7 e8
  have fr := f2.trans (f4.trans f6)
  have hd6 := hd.rd hR fr
  refine h _ ⟨fr.d.trans ((FrD.put hR (by omega)).trans (FrD.put hR (by omega))), r6.fr (fun j _ => by rw [sI_ne1 (by omega), sI_ne1 (by omega)]), hd6.jb.fr (by rw [sI_r (by omega), sI_r (by omega)]), fun i' hi' => ?_⟩
  obtain ⟨q1, q2⟩ := two_ok o2 o4 hi'
  subst q1 q2
  have hdl : dl (cF T co p) = dl co := by unfold dl cF; simp (disch := omega) only [z_le, z_lt, z_eq, z_lt0, z_0le, z_eq0, z_le0, z_0lt, z_cl, z_in, z_add, z_mul, z_m1ne, z_m1ne', z_m1lt0, z_m1lt, z_ltm1, forall_eq, true_implies, false_implies, implies_true, true_and, and_true, false_and, and_false, not_true_eq_false, not_false_eq_true, ite_true, ite_false, up2_c, up2_r]
  unfold DrF CoF at hd6 ⊢
  rw [hdl]
  unfold cF
  simp (disch := omega) only [z_le, z_lt, z_eq, z_lt0, z_0le, z_eq0, z_le0, z_0lt, z_cl, z_in, z_add, z_mul, z_m1ne, z_m1ne', z_m1lt0, z_m1lt, z_ltm1, forall_eq, true_implies, false_implies, implies_true, true_and, and_true, false_and, and_false, not_true_eq_false, not_false_eq_true, ite_true, ite_false, sI_same, sI_ne1, sI_ne2, sA_same, sA_ne, sI_2, sA_2, sL_1, sR_1, up2_s, up2_c, up2_r]
  obtain ⟨⟨⟨a0, a1, a2, a3, a4⟩, b⟩, c⟩ := hd6
  exact ⟨⟨⟨a2, a3, a4⟩, b⟩, c⟩
theorem F_readHour (hT : vTx T) (tx : TxF μ T) (hR : R = 3 ∨ R = 14) (hd : DrF μ R co) (hn : co 0 2 < 12) (rd : RdF μ T (.inr p)) (h : ∀ μ' : Mem, ClF T R μ (twoP T 0 1 0 40 p) (cH T co p) μ' → Q μ') : w_X3_readHour R μ Q := by
  unfold w_X3_readHour
  have hl := co_len hR
  refine F_number hT tx rd (by decide) (by decide) (fun z1 μ2 hz1 f2 t2 r2 o2 => ?_)
  refine F_number hT t2 r2 (by decide) (by decide) (fun z2 μ4 hz2 f4 t4 r4 o4 => ?_)
  refine F_end hT t4 r4 (fun μ6 f6 r6 => ?_)
  have fr := f2.trans (f4.trans f6)
  have hd6 := hd.rd hR fr
  have e2 := hd6.1.1.2.2.1
  rw [e2]
  refine F_put hl.1 (by decide) hn ?_
  rw [sI_ne1 (by omega), e2]
  refine F_put hl.2.1 (by decide) hn ?_
  intro μ11 e11
  rw [sI_ne1 (by omega), sI_ne1 (by omega), e2, z_add] at e11
  subst e11
  refine h _ ⟨fr.d.trans ((FrD.put hR (by omega)).trans ((FrD.put hR (by omega)).trans (FrD.put hR (by omega)))), r6.fr (fun j _ => by rw [sI_ne1 (by omega), sI_ne1 (by omega), sI_ne1 (by omega)]), hd6.jb.fr (by rw [sI_r (by omega), sI_r (by omega), sI_r (by omega)]), fun i' hi' => ?_⟩
  obtain ⟨q1, q2⟩ := two_ok o2 o4 hi'
  subst q1 q2
  have hdl : dl (cH T co p) = co 0 2 + 1 := by unfold dl cH; rw [up2_s, if_neg (by omega)]
  obtain ⟨⟨⟨a0, a1, a2, a3, a4⟩, b1, b2⟩, c⟩ := hd6
  unfold DrF CoF
  rw [hdl]
  unfold cH
  refine ⟨⟨?_, fun k hk => ?_, ?_⟩, ?_⟩
  · simp (disch := omega) only [z_le, z_lt, z_eq, z_lt0, z_0le, z_eq0, z_le0, z_0lt, z_cl, z_in, z_add, z_mul, z_m1ne, z_m1ne', z_m1lt0, z_m1lt, z_ltm1, forall_eq, true_implies, false_implies, implies_true, true_and, and_true, false_and, and_false, not_true_eq_false, not_false_eq_true, ite_true, ite_false, sI_same, sI_ne1, sI_ne2, sA_same, sA_ne, sI_2, sA_2, sL_1, sR_1, up2_s, up2_c, up2_r]; exact ⟨a0, a1, a3, a4⟩
  · by_cases q : k = co 0 2
    · subst q; simp (disch := omega) only [z_le, z_lt, z_eq, z_lt0, z_0le, z_eq0, z_le0, z_0lt, z_cl, z_in, z_add, z_mul, z_m1ne, z_m1ne', z_m1lt0, z_m1lt, z_ltm1, forall_eq, true_implies, false_implies, implies_true, true_and, and_true, false_and, and_false, not_true_eq_false, not_false_eq_true, ite_true, ite_false, sI_same, sI_ne1, sI_ne2, sA_same, sA_ne, sI_2, sA_2, sL_1, sR_1, up2_s, up2_c, up2_r]
    · simp (disch := omega) only [z_le, z_lt, z_eq, z_lt0, z_0le, z_eq0, z_le0, z_0lt, z_cl, z_in, z_add, z_mul, z_m1ne, z_m1ne', z_m1lt0, z_m1lt, z_ltm1, forall_eq, true_implies, false_implies, implies_true, true_and, and_true, false_and, and_false, not_true_eq_false, not_false_eq_true, ite_true, ite_false, sI_same, sI_ne1, sI_ne2, sA_same, sA_ne, sI_2, sA_2, sL_1, sR_1, up2_s, up2_c, up2_r]; exact b1 k (by unfold dl; split <;> omega)
  · simp (disch := omega) only [z_le, z_lt, z_eq, z_lt0, z_0le, z_eq0, z_le0, z_0lt, z_cl, z_in, z_add, z_mul, z_m1ne, z_m1ne', z_m1lt0, z_m1lt, z_ltm1, forall_eq, true_implies, false_implies, implies_true, true_and, and_true, false_and, and_false, not_true_eq_false, not_false_eq_true, ite_true, ite_false, sI_same, sI_ne1, sI_ne2, sA_same, sA_ne, sI_2, sA_2, sL_1, sR_1, up2_s, up2_c, up2_r]; exact b2
  · simp (disch := omega) only [z_le, z_lt, z_eq, z_lt0, z_0le, z_eq0, z_le0, z_0lt, z_cl, z_in, z_add, z_mul, z_m1ne, z_m1ne', z_m1lt0, z_m1lt, z_ltm1, forall_eq, true_implies, false_implies, implies_true, true_and, and_true, false_and, and_false, not_true_eq_false, not_false_eq_true, ite_true, ite_false, sI_same, sI_ne1, sI_ne2, sA_same, sA_ne, sI_2, sA_2, sL_1, sR_1, up2_s, up2_c, up2_r]; exact c
theorem F_readGoat (hT : vTx T) (tx : TxF μ T) (hR : R = 3 ∨ R = 14) (hd : DrF μ R co) (hc : 1 ≤ co 0 0 ∧ co 0 0 ≤ 12) (hn : co 0 4 < 4) (rd : RdF μ T (.inr p)) (h : ∀ μ' : Mem, ClF T R μ (twoP T 0 (co 0 0 - 1) 1 20 p) (cG T co p) μ' → Q μ') : w_X3_readGoat R μ Q := by
  unfold w_X3_readGoat
  have hl := co_len hR
  rw [hd.1.1.1, z_sub hc.1]
  refine F_number hT tx rd (by decide) (by omega) (fun z1 μ2 hz1 f2 t2 r2 o2 => ?_)
  refine F_number hT t2 r2 (by decide) (by decide) (fun z2 μ4 hz2 f4 t4 r4 o4 => ?_)
  refine F_end hT t4 r4 (fun μ6 f6 r6 => ?_)
  have fr := f2.trans (f4.trans f6)
  have hd6 := hd.rd hR fr
  have e2 := hd6.1.1.2.2.2.2
  rw [e2]
  refine F_put hl.2.2.2.2.2.2.2.2.1 (by decide) hn ?_
  rw [sI_ne1 (by omega), e2]
  refine F_put hl.2.2.2.2.2.2.2.2.2 (by decide) hn ?_
  intro μ11 e11
  rw [sI_ne1 (by omega), sI_ne1 (by omega), e2, z_add] at e11
  subst e11
  refine h _ ⟨fr.d.trans ((FrD.put hR (by omega)).trans ((FrD.put hR (by omega)).trans (FrD.put hR (by omega)))), r6.fr (fun j _ => by rw [sI_ne1 (by omega), sI_ne1 (by omega), sI_ne1 (by omega)]), hd6.jb.fr (by rw [sI_r (by omega), sI_r (by omega), sI_r (by omega)]), fun i' hi' => ?_⟩
  obtain ⟨q1, q2⟩ := two_ok o2 o4 hi'
  subst q1 q2
  have hdl : dl (cG T co p) = dl co := by unfold dl cG; simp (disch := omega) only [z_le, z_lt, z_eq, z_lt0, z_0le, z_eq0, z_le0, z_0lt, z_cl, z_in, z_add, z_mul, z_m1ne, z_m1ne', z_m1lt0, z_m1lt, z_ltm1, forall_eq, true_implies, false_implies, implies_true, true_and, and_true, false_and, and_false, not_true_eq_false, not_false_eq_true, ite_true, ite_false, up2_c, up2_r]
  obtain ⟨⟨⟨a0, a1, a2, a3, a4⟩, b1, b2, b3, b4, b5, b6⟩, c⟩ := hd6
  unfold DrF CoF
  rw [hdl]
  unfold cG
  refine ⟨⟨?_, ?_, ?_, ?_, ?_, ?_, fun k hk => ?_⟩, ?_⟩
  · simp (disch := omega) only [z_le, z_lt, z_eq, z_lt0, z_0le, z_eq0, z_le0, z_0lt, z_cl, z_in, z_add, z_mul, z_m1ne, z_m1ne', z_m1lt0, z_m1lt, z_ltm1, forall_eq, true_implies, false_implies, implies_true, true_and, and_true, false_and, and_false, not_true_eq_false, not_false_eq_true, ite_true, ite_false, sI_same, sI_ne1, sI_ne2, sA_same, sA_ne, sI_2, sA_2, sL_1, sR_1, up2_s, up2_c, up2_r]; exact ⟨a0, a1, a2, a3⟩
  · simp (disch := omega) only [z_le, z_lt, z_eq, z_lt0, z_0le, z_eq0, z_le0, z_0lt, z_cl, z_in, z_add, z_mul, z_m1ne, z_m1ne', z_m1lt0, z_m1lt, z_ltm1, forall_eq, true_implies, false_implies, implies_true, true_and, and_true, false_and, and_false, not_true_eq_false, not_false_eq_true, ite_true, ite_false, sI_same, sI_ne1, sI_ne2, sA_same, sA_ne, sI_2, sA_2, sL_1, sR_1, up2_s, up2_c, up2_r]; exact b1
  · simp (disch := omega) only [z_le, z_lt, z_eq, z_lt0, z_0le, z_eq0, z_le0, z_0lt, z_cl, z_in, z_add, z_mul, z_m1ne, z_m1ne', z_m1lt0, z_m1lt, z_ltm1, forall_eq, true_implies, false_implies, implies_true, true_and, and_true, false_and, and_false, not_true_eq_false, not_false_eq_true, ite_true, ite_false, sI_same, sI_ne1, sI_ne2, sA_same, sA_ne, sI_2, sA_2, sL_1, sR_1, up2_s, up2_c, up2_r]; exact b2
  · simp (disch := omega) only [z_le, z_lt, z_eq, z_lt0, z_0le, z_eq0, z_le0, z_0lt, z_cl, z_in, z_add, z_mul, z_m1ne, z_m1ne', z_m1lt0, z_m1lt, z_ltm1, forall_eq, true_implies, false_implies, implies_true, true_and, and_true, false_and, and_false, not_true_eq_false, not_false_eq_true, ite_true, ite_false, sI_same, sI_ne1, sI_ne2, sA_same, sA_ne, sI_2, sA_2, sL_1, sR_1, up2_s, up2_c, up2_r]; exact b3
  · simp (disch := omega) only [z_le, z_lt, z_eq, z_lt0, z_0le, z_eq0, z_le0, z_0lt, z_cl, z_in, z_add, z_mul, z_m1ne, z_m1ne', z_m1lt0, z_m1lt, z_ltm1, forall_eq, true_implies, false_implies, implies_true, true_and, and_true, false_and, and_false, not_true_eq_false, not_false_eq_true, ite_true, ite_false, sI_same, sI_ne1, sI_ne2, sA_same, sA_ne, sI_2, sA_2, sL_1, sR_1, up2_s, up2_c, up2_r]; exact b4
  · simp (disch := omega) only [z_le, z_lt, z_eq, z_lt0, z_0le, z_eq0, z_le0, z_0lt, z_cl, z_in, z_add, z_mul, z_m1ne, z_m1ne', z_m1lt0, z_m1lt, z_ltm1, forall_eq, true_implies, false_implies, implies_true, true_and, and_true, false_and, and_false, not_true_eq_false, not_false_eq_true, ite_true, ite_false, sI_same, sI_ne1, sI_ne2, sA_same, sA_ne, sI_2, sA_2, sL_1, sR_1, up2_s, up2_c, up2_r]; exact b5
  · rw [up2_s] at hk
    by_cases q : k = co 0 4
    · subst q; simp (disch := omega) only [z_le, z_lt, z_eq, z_lt0, z_0le, z_eq0, z_le0, z_0lt, z_cl, z_in, z_add, z_mul, z_m1ne, z_m1ne', z_m1lt0, z_m1lt, z_ltm1, forall_eq, true_implies, false_implies, implies_true, true_and, and_true, false_and, and_false, not_true_eq_false, not_false_eq_true, ite_true, ite_false, sI_same, sI_ne1, sI_ne2, sA_same, sA_ne, sI_2, sA_2, sL_1, sR_1, up2_s, up2_c, up2_r]
    · simp (disch := omega) only [z_le, z_lt, z_eq, z_lt0, z_0le, z_eq0, z_le0, z_0lt, z_cl, z_in, z_add, z_mul, z_m1ne, z_m1ne', z_m1lt0, z_m1lt, z_ltm1, forall_eq, true_implies, false_implies, implies_true, true_and, and_true, false_and, and_false, not_true_eq_false, not_false_eq_true, ite_true, ite_false, sI_same, sI_ne1, sI_ne2, sA_same, sA_ne, sI_2, sA_2, sL_1, sR_1, up2_s, up2_c, up2_r]; exact b6 k (by omega)
  · simp (disch := omega) only [z_le, z_lt, z_eq, z_lt0, z_0le, z_eq0, z_le0, z_0lt, z_cl, z_in, z_add, z_mul, z_m1ne, z_m1ne', z_m1lt0, z_m1lt, z_ltm1, forall_eq, true_implies, false_implies, implies_true, true_and, and_true, false_and, and_false, not_true_eq_false, not_false_eq_true, ite_true, ite_false, sI_same, sI_ne1, sI_ne2, sA_same, sA_ne, sI_2, sA_2, sL_1, sR_1, up2_s, up2_c, up2_r]; exact c
theorem F_readPair {m k : Nat} {Q : Mem → Prop} (hT : vTx T) (tx : TxF μ T) (hR : R = 3 ∨ R = 14) (hk : k = 7 ∨ k = 8) (hm : m < 1000) (rd : RdF μ T (.inr p))
    (h : ∀ (z1 z2 : Nat) (μ1 : Mem), FrRd (sI (sI μ (R + k) 0 (nI z1)) (R + k) 1 (nI z2)) μ1 → RdF μ1 T (twoP T 0 m 0 m p) → (∀ i', twoP T 0 m 0 m p = .inr i' → z1 = val T p ∧ z2 = val T (nx T p)) → Q μ1) : w_X3_readPair (R + k) (nI m) μ Q := by
  have hl := co_len hR
  have hlk : sF.2.2 (R + k) = 2 := by rcases hk with rfl | rfl <;> simp only [hl]
  unfold w_X3_readPair
  refine F_number hT tx rd (by decide) hm (fun z1 μ2 hz1 f2 t2 r2 o2 => ?_)
  refine F_put hlk (by decide) (by decide) ?_
  have t3 : TxF (sI μ2 (R + k) 0 (nI z1)) T := t2.d hR (FrD.put hR (by omega))
  have r3 : RdF (sI μ2 (R + k) 0 (nI z1)) T (bnd (numA T 0 m) (.inr p)) := r2.fr (fun j _ => sI_ne1 (by omega))
  refine F_number hT t3 r3 (by decide) hm (fun z2 μ4 hz2 f4 t4 r4 o4 => ?_)
  refine F_put hlk (by decide) (by decide) ?_
  have t5 : TxF (sI μ4 (R + k) 1 (nI z2)) T := t4.d hR (FrD.put hR (by omega))
  have r5 : RdF (sI μ4 (R + k) 1 (nI z2)) T (bnd (numA T 0 m) (bnd (numA T 0 m) (.inr p))) := r4.fr (fun j _ => sI_ne1 (by omega))
  refine F_end hT t5 r5 (fun μ6 f6 r6 => ?_)
  refine h z1 z2 μ6 ⟨?_, fun a ha => ?_, fun j j2 j3 j4 j5 => ?_⟩ r6 (fun i' hi' => two_ok o2 o4 hi')
  · exact f6.1.trans (f4.1.trans f2.1)
  · rw [f6.2.1 a ha]
    funext j
    by_cases q : a = R + k
    · subst q
      by_cases q1 : j = 1
      · subst q1; rw [sI_same, sI_same]
      · rw [sI_ne2 q1, sI_ne2 q1, f4.2.1 _ ha]
        by_cases q0 : j = 0
        · subst q0; rw [sI_same, sI_same]
        · rw [sI_ne2 q0, sI_ne2 q0, f2.2.1 _ ha]
    · rw [sI_ne1 q, sI_ne1 q, sI_ne1 q, f4.2.1 _ ha, sI_ne1 q, f2.2.1 _ ha]
  · rw [f6.2.2 j j2 j3 j4 j5, sI_ne1 (by omega), f4.2.2 j j2 j3 j4 j5, sI_ne1 (by omega), f2.2.2 j j2 j3 j4 j5, sI_ne1 (by omega), sI_ne1 (by omega)]
theorem F_readDays (hT : vTx T) (tx : TxF μ T) (hR : R = 3 ∨ R = 14) (hd : DrF μ R co) (rd : RdF μ T (.inr p)) (h : ∀ μ' : Mem, ClF T R μ (twoP T 0 127 0 127 p) (cD T co p) μ' → Q μ') : w_X3_readPair (R + 7) (nI 127) μ (fun μ5 => ∀ μ6 : Mem, μ6 = sI μ5 1 6 (nI 1) → Q μ6) := by
  refine F_readPair hT tx hR (Or.inl rfl) (by decide) rd (fun z1 z2 μ1 f1 r1 o1 => ?_)
  intro μ6 e6
  subst e6
  have fd : FrD R μ μ1 := (FrD.put hR (by omega)).trans ((FrD.put hR (by omega)).trans f1.d)
  have hd1 := hd
  unfold DrF CoF at hd1
  obtain ⟨⟨⟨a0, a1, a2, a3, a4⟩, b1, b2, b3, b4, b5, b6⟩, c1, c2, c3, c4⟩ := hd1
  have hj : JB μ1 R := hd.jb.fr (by rw [f1.2.1 _ (by omega), sI_r (by omega), sI_r (by omega)])
  refine h _ ⟨fd.trans (FrD.flag (by decide)), r1.fr (fun j hj => by rw [sI_ne2 (by omega)]), hj.fr (by rw [sI_r (by omega)]), fun i' hi' => ?_⟩
  obtain ⟨q1, q2⟩ := o1 i' hi'
  subst q1 q2
  have hdl : dl (cD T co p) = dl co := by unfold dl cD; simp (disch := omega) only [z_le, z_lt, z_eq, z_lt0, z_0le, z_eq0, z_le0, z_0lt, z_cl, z_in, z_add, z_mul, z_m1ne, z_m1ne', z_m1lt0, z_m1lt, z_ltm1, forall_eq, true_implies, false_implies, implies_true, true_and, and_true, false_and, and_false, not_true_eq_false, not_false_eq_true, ite_true, ite_false, up2_c, up2_r]
  unfold DrF CoF
  rw [hdl]
  unfold cD
  refine ⟨⟨?_, ?_, ?_, ?_, ?_, fun v hv => ?_, ?_⟩, ?_, ?_, ?_, ?_⟩
  · simp (disch := omega) only [z_le, z_lt, z_eq, z_lt0, z_0le, z_eq0, z_le0, z_0lt, z_cl, z_in, z_add, z_mul, z_m1ne, z_m1ne', z_m1lt0, z_m1lt, z_ltm1, forall_eq, true_implies, false_implies, implies_true, true_and, and_true, false_and, and_false, not_true_eq_false, not_false_eq_true, ite_true, ite_false, sI_same, sI_ne1, sI_ne2, sA_same, sA_ne, sI_2, sA_2, sL_1, sR_1, up2_s, up2_c, up2_r, f1.2.1]; exact ⟨a0, a1, a2, a3, a4⟩
  · simp (disch := omega) only [z_le, z_lt, z_eq, z_lt0, z_0le, z_eq0, z_le0, z_0lt, z_cl, z_in, z_add, z_mul, z_m1ne, z_m1ne', z_m1lt0, z_m1lt, z_ltm1, forall_eq, true_implies, false_implies, implies_true, true_and, and_true, false_and, and_false, not_true_eq_false, not_false_eq_true, ite_true, ite_false, sI_same, sI_ne1, sI_ne2, sA_same, sA_ne, sI_2, sA_2, sL_1, sR_1, up2_s, up2_c, up2_r, f1.2.1]; exact b1
  · simp (disch := omega) only [z_le, z_lt, z_eq, z_lt0, z_0le, z_eq0, z_le0, z_0lt, z_cl, z_in, z_add, z_mul, z_m1ne, z_m1ne', z_m1lt0, z_m1lt, z_ltm1, forall_eq, true_implies, false_implies, implies_true, true_and, and_true, false_and, and_false, not_true_eq_false, not_false_eq_true, ite_true, ite_false, sI_same, sI_ne1, sI_ne2, sA_same, sA_ne, sI_2, sA_2, sL_1, sR_1, up2_s, up2_c, up2_r, f1.2.1]; exact b2
  · simp (disch := omega) only [z_le, z_lt, z_eq, z_lt0, z_0le, z_eq0, z_le0, z_0lt, z_cl, z_in, z_add, z_mul, z_m1ne, z_m1ne', z_m1lt0, z_m1lt, z_ltm1, forall_eq, true_implies, false_implies, implies_true, true_and, and_true, false_and, and_false, not_true_eq_false, not_false_eq_true, ite_true, ite_false, sI_same, sI_ne1, sI_ne2, sA_same, sA_ne, sI_2, sA_2, sL_1, sR_1, up2_s, up2_c, up2_r, f1.2.1]; exact b3
  · simp (disch := omega) only [z_le, z_lt, z_eq, z_lt0, z_0le, z_eq0, z_le0, z_0lt, z_cl, z_in, z_add, z_mul, z_m1ne, z_m1ne', z_m1lt0, z_m1lt, z_ltm1, forall_eq, true_implies, false_implies, implies_true, true_and, and_true, false_and, and_false, not_true_eq_false, not_false_eq_true, ite_true, ite_false, sI_same, sI_ne1, sI_ne2, sA_same, sA_ne, sI_2, sA_2, sL_1, sR_1, up2_s, up2_c, up2_r, f1.2.1]; exact b4
  · have := b5 v hv
    rcases (by omega : v = 0 ∨ v = 1) with rfl | rfl
    · simp (disch := omega) only [z_le, z_lt, z_eq, z_lt0, z_0le, z_eq0, z_le0, z_0lt, z_cl, z_in, z_add, z_mul, z_m1ne, z_m1ne', z_m1lt0, z_m1lt, z_ltm1, forall_eq, true_implies, false_implies, implies_true, true_and, and_true, false_and, and_false, not_true_eq_false, not_false_eq_true, ite_true, ite_false, sI_same, sI_ne1, sI_ne2, sA_same, sA_ne, sI_2, sA_2, sL_1, sR_1, up2_s, up2_c, up2_r, f1.2.1]; exact this.2
    · simp (disch := omega) only [z_le, z_lt, z_eq, z_lt0, z_0le, z_eq0, z_le0, z_0lt, z_cl, z_in, z_add, z_mul, z_m1ne, z_m1ne', z_m1lt0, z_m1lt, z_ltm1, forall_eq, true_implies, false_implies, implies_true, true_and, and_true, false_and, and_false, not_true_eq_false, not_false_eq_true, ite_true, ite_false, sI_same, sI_ne1, sI_ne2, sA_same, sA_ne, sI_2, sA_2, sL_1, sR_1, up2_s, up2_c, up2_r, f1.2.1]; exact this.2
  · simp (disch := omega) only [z_le, z_lt, z_eq, z_lt0, z_0le, z_eq0, z_le0, z_0lt, z_cl, z_in, z_add, z_mul, z_m1ne, z_m1ne', z_m1lt0, z_m1lt, z_ltm1, forall_eq, true_implies, false_implies, implies_true, true_and, and_true, false_and, and_false, not_true_eq_false, not_false_eq_true, ite_true, ite_false, sI_same, sI_ne1, sI_ne2, sA_same, sA_ne, sI_2, sA_2, sL_1, sR_1, up2_s, up2_c, up2_r, f1.2.1]; exact b6
  · simp (disch := omega) only [z_le, z_lt, z_eq, z_lt0, z_0le, z_eq0, z_le0, z_0lt, z_cl, z_in, z_add, z_mul, z_m1ne, z_m1ne', z_m1lt0, z_m1lt, z_ltm1, forall_eq, true_implies, false_implies, implies_true, true_and, and_true, false_and, and_false, not_true_eq_false, not_false_eq_true, ite_true, ite_false, sI_same, sI_ne1, sI_ne2, sA_same, sA_ne, sI_2, sA_2, sL_1, sR_1, up2_s, up2_c, up2_r, f1.2.1]; exact c1
  · simp (disch := omega) only [z_le, z_lt, z_eq, z_lt0, z_0le, z_eq0, z_le0, z_0lt, z_cl, z_in, z_add, z_mul, z_m1ne, z_m1ne', z_m1lt0, z_m1lt, z_ltm1, forall_eq, true_implies, false_implies, implies_true, true_and, and_true, false_and, and_false, not_true_eq_false, not_false_eq_true, ite_true, ite_false, sI_same, sI_ne1, sI_ne2, sA_same, sA_ne, sI_2, sA_2, sL_1, sR_1, up2_s, up2_c, up2_r, f1.2.1]; exact c2
  · rw [sI_same, up2_s]
  · simp (disch := omega) only [z_le, z_lt, z_eq, z_lt0, z_0le, z_eq0, z_le0, z_0lt, z_cl, z_in, z_add, z_mul, z_m1ne, z_m1ne', z_m1lt0, z_m1lt, z_ltm1, forall_eq, true_implies, false_implies, implies_true, true_and, and_true, false_and, and_false, not_true_eq_false, not_false_eq_true, ite_true, ite_false, sI_same, sI_ne1, sI_ne2, sA_same, sA_ne, sI_2, sA_2, sL_1, sR_1, up2_s, up2_c, up2_r, f1.2.2]; exact c4
theorem F_readUses (hT : vTx T) (tx : TxF μ T) (hR : R = 3 ∨ R = 14) (hd : DrF μ R co) (rd : RdF μ T (.inr p)) (h : ∀ μ' : Mem, ClF T R μ (twoP T 0 99 0 99 p) (cU T co p) μ' → Q μ') : w_X3_readPair (R + 8) (nI 99) μ (fun μ5 => ∀ μ6 : Mem, μ6 = sI μ5 1 7 (nI 1) → Q μ6) := by
  refine F_readPair hT tx hR (Or.inr rfl) (by decide) rd (fun z1 z2 μ1 f1 r1 o1 => ?_)
  intro μ6 e6
  subst e6
  have fd : FrD R μ μ1 := (FrD.put hR (by omega)).trans ((FrD.put hR (by omega)).trans f1.d)
  have hd1 := hd
  unfold DrF CoF at hd1
  obtain ⟨⟨⟨a0, a1, a2, a3, a4⟩, b1, b2, b3, b4, b5, b6⟩, c1, c2, c3, c4⟩ := hd1
  have hj : JB μ1 R := hd.jb.fr (by rw [f1.2.1 _ (by omega), sI_r (by omega), sI_r (by omega)])
  refine h _ ⟨fd.trans (FrD.flag (by decide)), r1.fr (fun j hj => by rw [sI_ne2 (by omega)]), hj.fr (by rw [sI_r (by omega)]), fun i' hi' => ?_⟩
  obtain ⟨q1, q2⟩ := o1 i' hi'
  subst q1 q2
  have hdl : dl (cU T co p) = dl co := by unfold dl cU; simp (disch := omega) only [z_le, z_lt, z_eq, z_lt0, z_0le, z_eq0, z_le0, z_0lt, z_cl, z_in, z_add, z_mul, z_m1ne, z_m1ne', z_m1lt0, z_m1lt, z_ltm1, forall_eq, true_implies, false_implies, implies_true, true_and, and_true, false_and, and_false, not_true_eq_false, not_false_eq_true, ite_true, ite_false, up2_c, up2_r]
  unfold DrF CoF
  rw [hdl]
  unfold cU
  refine ⟨⟨?_, ?_, ?_, ?_, ?_, fun v hv => ?_, ?_⟩, ?_, ?_, ?_, ?_⟩
  · simp (disch := omega) only [z_le, z_lt, z_eq, z_lt0, z_0le, z_eq0, z_le0, z_0lt, z_cl, z_in, z_add, z_mul, z_m1ne, z_m1ne', z_m1lt0, z_m1lt, z_ltm1, forall_eq, true_implies, false_implies, implies_true, true_and, and_true, false_and, and_false, not_true_eq_false, not_false_eq_true, ite_true, ite_false, sI_same, sI_ne1, sI_ne2, sA_same, sA_ne, sI_2, sA_2, sL_1, sR_1, up2_s, up2_c, up2_r, f1.2.1]; exact ⟨a0, a1, a2, a3, a4⟩
  · simp (disch := omega) only [z_le, z_lt, z_eq, z_lt0, z_0le, z_eq0, z_le0, z_0lt, z_cl, z_in, z_add, z_mul, z_m1ne, z_m1ne', z_m1lt0, z_m1lt, z_ltm1, forall_eq, true_implies, false_implies, implies_true, true_and, and_true, false_and, and_false, not_true_eq_false, not_false_eq_true, ite_true, ite_false, sI_same, sI_ne1, sI_ne2, sA_same, sA_ne, sI_2, sA_2, sL_1, sR_1, up2_s, up2_c, up2_r, f1.2.1]; exact b1
  · simp (disch := omega) only [z_le, z_lt, z_eq, z_lt0, z_0le, z_eq0, z_le0, z_0lt, z_cl, z_in, z_add, z_mul, z_m1ne, z_m1ne', z_m1lt0, z_m1lt, z_ltm1, forall_eq, true_implies, false_implies, implies_true, true_and, and_true, false_and, and_false, not_true_eq_false, not_false_eq_true, ite_true, ite_false, sI_same, sI_ne1, sI_ne2, sA_same, sA_ne, sI_2, sA_2, sL_1, sR_1, up2_s, up2_c, up2_r, f1.2.1]; exact b2
  · simp (disch := omega) only [z_le, z_lt, z_eq, z_lt0, z_0le, z_eq0, z_le0, z_0lt, z_cl, z_in, z_add, z_mul, z_m1ne, z_m1ne', z_m1lt0, z_m1lt, z_ltm1, forall_eq, true_implies, false_implies, implies_true, true_and, and_true, false_and, and_false, not_true_eq_false, not_false_eq_true, ite_true, ite_false, sI_same, sI_ne1, sI_ne2, sA_same, sA_ne, sI_2, sA_2, sL_1, sR_1, up2_s, up2_c, up2_r, f1.2.1]; exact b3
  · simp (disch := omega) only [z_le, z_lt, z_eq, z_lt0, z_0le, z_eq0, z_le0, z_0lt, z_cl, z_in, z_add, z_mul, z_m1ne, z_m1ne', z_m1lt0, z_m1lt, z_ltm1, forall_eq, true_implies, false_implies, implies_true, true_and, and_true, false_and, and_false, not_true_eq_false, not_false_eq_true, ite_true, ite_false, sI_same, sI_ne1, sI_ne2, sA_same, sA_ne, sI_2, sA_2, sL_1, sR_1, up2_s, up2_c, up2_r, f1.2.1]; exact b4
  · have := b5 v hv
    rcases (by omega : v = 0 ∨ v = 1) with rfl | rfl
    · simp (disch := omega) only [z_le, z_lt, z_eq, z_lt0, z_0le, z_eq0, z_le0, z_0lt, z_cl, z_in, z_add, z_mul, z_m1ne, z_m1ne', z_m1lt0, z_m1lt, z_ltm1, forall_eq, true_implies, false_implies, implies_true, true_and, and_true, false_and, and_false, not_true_eq_false, not_false_eq_true, ite_true, ite_false, sI_same, sI_ne1, sI_ne2, sA_same, sA_ne, sI_2, sA_2, sL_1, sR_1, up2_s, up2_c, up2_r, f1.2.1]; exact this.1
    · simp (disch := omega) only [z_le, z_lt, z_eq, z_lt0, z_0le, z_eq0, z_le0, z_0lt, z_cl, z_in, z_add, z_mul, z_m1ne, z_m1ne', z_m1lt0, z_m1lt, z_ltm1, forall_eq, true_implies, false_implies, implies_true, true_and, and_true, false_and, and_false, not_true_eq_false, not_false_eq_true, ite_true, ite_false, sI_same, sI_ne1, sI_ne2, sA_same, sA_ne, sI_2, sA_2, sL_1, sR_1, up2_s, up2_c, up2_r, f1.2.1]; exact this.1
  · simp (disch := omega) only [z_le, z_lt, z_eq, z_lt0, z_0le, z_eq0, z_le0, z_0lt, z_cl, z_in, z_add, z_mul, z_m1ne, z_m1ne', z_m1lt0, z_m1lt, z_ltm1, forall_eq, true_implies, false_implies, implies_true, true_and, and_true, false_and, and_false, not_true_eq_false, not_false_eq_true, ite_true, ite_false, sI_same, sI_ne1, sI_ne2, sA_same, sA_ne, sI_2, sA_2, sL_1, sR_1, up2_s, up2_c, up2_r, f1.2.1]; exact b6
  · simp (disch := omega) only [z_le, z_lt, z_eq, z_lt0, z_0le, z_eq0, z_le0, z_0lt, z_cl, z_in, z_add, z_mul, z_m1ne, z_m1ne', z_m1lt0, z_m1lt, z_ltm1, forall_eq, true_implies, false_implies, implies_true, true_and, and_true, false_and, and_false, not_true_eq_false, not_false_eq_true, ite_true, ite_false, sI_same, sI_ne1, sI_ne2, sA_same, sA_ne, sI_2, sA_2, sL_1, sR_1, up2_s, up2_c, up2_r, f1.2.1]; exact c1
  · simp (disch := omega) only [z_le, z_lt, z_eq, z_lt0, z_0le, z_eq0, z_le0, z_0lt, z_cl, z_in, z_add, z_mul, z_m1ne, z_m1ne', z_m1lt0, z_m1lt, z_ltm1, forall_eq, true_implies, false_implies, implies_true, true_and, and_true, false_and, and_false, not_true_eq_false, not_false_eq_true, ite_true, ite_false, sI_same, sI_ne1, sI_ne2, sA_same, sA_ne, sI_2, sA_2, sL_1, sR_1, up2_s, up2_c, up2_r, f1.2.1]; exact c2
  · simp (disch := omega) only [z_le, z_lt, z_eq, z_lt0, z_0le, z_eq0, z_le0, z_0lt, z_cl, z_in, z_add, z_mul, z_m1ne, z_m1ne', z_m1lt0, z_m1lt, z_ltm1, forall_eq, true_implies, false_implies, implies_true, true_and, and_true, false_and, and_false, not_true_eq_false, not_false_eq_true, ite_true, ite_false, sI_same, sI_ne1, sI_ne2, sA_same, sA_ne, sI_2, sA_2, sL_1, sR_1, up2_s, up2_c, up2_r, f1.2.2]; exact c3
  · rw [sI_same, up2_s]
end CLAU
