/-! ===== FogNets: posts, clauses, the whole text ===== -/
theorem pin_all {f : Nat → Nat} {c n : Nat} (h : ∀ q, q < n → f q ≠ c) : pin f c n = none := by
  cases e : pin f c n with
  | none => rfl
  | some q =>
    obtain ⟨h1, h2⟩ := pin_some e
    exact absurd h2 (h q h1)
theorem pin_ex {f : Nat → Nat} {c n q : Nat} (h1 : q < n) (h2 : f q = c) : pin f c n ≠ none := fun e => pin_none e q h1 h2
theorem F_hasPostIn {μ : Mem} {R n c : Nat} {f : Nat → Nat} {Q : Int32 → Prop} (hn : n ≤ 6) (e3 : μ.1 R 3 = nI n) (hp : ∀ p, p < n → μ.1 (R + 3) p = nI (f p)) (hf : ∀ p, p < n → f p < 1000) (hc : c < 1000)
    (h : Q (nI (if pin f c n = none then 0 else 1))) : w_X0_hasPostIn R (nI c) μ Q := by
  unfold w_X0_hasPostIn w_X0_hasPostIn_2
  intro X hX
  have key : ∀ d a, n - a ≤ d → a ≤ n → (∀ q, q < a → f q ≠ c) → X (nI a) := by
    intro d
    induction d with
    | zero =>
      intro a hd ha hq
      apply hX
      unfold s_X0_hasPostIn_2
      rw [e3]
      refine ⟨fun _ => ?_, fun z => absurd ((z_le (by omega) (by omega)).mpr (by omega)) z⟩
      rw [if_pos (pin_all (fun q q1 => hq q (by omega)))] at h
      exact h
    | succ d ih =>
      intro a hd ha hq
      apply hX
      unfold s_X0_hasPostIn_2
      rw [e3]
      simp (disch := omega) only [z_le, z_lt, z_eq, z_lt0, z_0le, z_eq0, z_le0, z_0lt, z_cl, z_in, z_add, z_mul, z_m1ne, z_m1ne', z_m1lt0, z_m1lt, z_ltm1, forall_eq, true_implies, false_implies, implies_true, true_and, and_true, false_and, and_false, not_true_eq_false, not_false_eq_true, ite_true, ite_false]
      refine ⟨fun z => ?_, fun z => ⟨fun z2 => by omega, fun _ => ⟨by omega, ?_⟩⟩⟩
      · rw [if_pos (pin_all (fun q q1 => hq q (by omega)))] at h
        exact h
      · have := hf a (by omega)
        rw [hp a (by omega), z_eq (by omega) (by omega)]
        refine ⟨fun q => ih (a + 1) (by omega) (by omega) (fun b hb => ?_), fun q => ?_⟩
        · by_cases e : b = a
          · rw [e]; exact q
          · exact hq b (by omega)
        · rw [if_neg (pin_ex (by omega) q)] at h
          exact h
  exact key _ 0 (Nat.le_refl _) (Nat.zero_le _) (fun q hq => by omega)
section POST
variable {μ : Mem} {T : Tx} {R p : Nat} {co : Co} {Q : Mem → Prop}
theorem F_post29 {st : Rs} {z0 : Nat} (hT : vTx T) (tx : TxF μ T) (hR : R = 3 ∨ R = 14) (hd : DrF μ R co) (hn : co 0 3 < 6) (rd : RdF μ T st) (hz : ∀ i', st = .inr i' → z0 = val T p ∧ i' = nx T p)
    (h : ∀ μ' : Mem, ClF T R μ (bnd (endA T) (bnd (numA T 0 1) (bnd (numA T 1 99) (bnd (numA T 0 9) st)))) (cP T co p) μ' → Q μ') : w_X3_readPost_29 R (nI z0) μ Q := by
  unfold w_X3_readPost_29
  have hl := co_len hR
  refine F_number hT tx rd (by decide) (by decide) (fun z1 μ2 hz1 f2 t2 r2 o2 => ?_)
  refine F_number hT t2 r2 (by decide) (by decide) (fun z2 μ4 hz2 f4 t4 r4 o4 => ?_)
  refine F_number hT t4 r4 (by decide) (by decide) (fun z3 μ5 hz3 f5 t5 r5 o5 => ?_)
  refine F_end hT t5 r5 (fun μ6 f6 r6 => ?_)
  have fr := f2.trans (f4.trans (f5.trans f6))
  have hd6 := hd.rd hR fr
  have e2 := hd6.1.1.2.2.2.1
  rw [e2]
  refine F_put hl.2.2.1 (by decide) hn ?_
  rw [sI_ne1 (by omega), e2]
  refine F_put hl.2.2.2.1 (by decide) hn ?_
  rw [sI_ne1 (by omega), sI_ne1 (by omega), e2]
  refine F_put hl.2.2.2.2.1 (by decide) hn ?_
  rw [sI_ne1 (by omega), sI_ne1 (by omega), sI_ne1 (by omega), e2]
  refine F_put hl.2.2.2.2.2.1 (by decide) hn ?_
  intro μ11 e11
  rw [sI_ne1 (by omega), sI_ne1 (by omega), sI_ne1 (by omega), sI_ne1 (by omega), e2, z_add] at e11
  subst e11
  have P4 : R ≤ R + 4 ∧ R + 4 ≤ R + 10 := by omega
  refine h _ ⟨fr.d.trans ((FrD.put hR (by omega)).trans ((FrD.put hR P4).trans ((FrD.put hR (by omega)).trans ((FrD.put hR (by omega)).trans (FrD.put hR (by omega)))))), r6.fr (fun j _ => by rw [sI_ne1 (by omega), sI_ne1 (by omega), sI_ne1 (by omega), sI_ne1 (by omega), sI_ne1 (by omega)]), ?_, fun i' hi' => ?_⟩
  · refine JB.fr (JB.fr (JB.put (JB.fr (JB.fr hd6.jb (μ1 := sI μ6 (R + 3) (co 0 3) (nI z0)) ?_) (μ1 := sI (sI μ6 (R + 3) (co 0 3) (nI z0)) (R + 4) (co 0 3) (nI z1)) ?_) hz2 (p := co 0 3)) (μ1 := sI (sI (sI (sI μ6 (R + 3) (co 0 3) (nI z0)) (R + 4) (co 0 3) (nI z1)) (R + 5) (co 0 3) (nI z2)) (R + 6) (co 0 3) (nI z3)) ?_) ?_
    · rw [sI_r (by omega)]
    · rw [sI_r (by omega)]
    · rw [sI_r (by omega)]
    · rw [sI_r (by omega)]
  · obtain ⟨i3, e3, _⟩ := bnd_inr hi'
    obtain ⟨i2, g2, _, j2, q3, _⟩ := o5 i3 e3
    obtain ⟨i1, g1, _, j1, q2, _⟩ := o4 i2 g2
    obtain ⟨i0, g0, _, j0, q1, _⟩ := o2 i1 g1
    obtain ⟨q0, k0⟩ := hz i0 g0
    subst k0 j0 j1
    subst q0 q1 q2 q3
    have hdl : dl (cP T co p) = dl co := by unfold dl cP; simp (disch := omega) only [z_le, z_lt, z_eq, z_lt0, z_0le, z_eq0, z_le0, z_0lt, z_cl, z_in, z_add, z_mul, z_m1ne, z_m1ne', z_m1lt0, z_m1lt, z_ltm1, forall_eq, true_implies, false_implies, implies_true, true_and, and_true, false_and, and_false, not_true_eq_false, not_false_eq_true, ite_true, ite_false, up2_c, up2_r]
    obtain ⟨⟨⟨a0, a1, a2, a3, a4⟩, b1, b2, b3, b4, b5, b6⟩, c1, c2, c3, c4⟩ := hd6
    unfold DrF CoF
    rw [hdl]
    unfold cP
    refine ⟨⟨?_, ?_, fun k hk => ?_, fun k hk hk2 => ?_, fun k hk => ?_, ?_, ?_⟩, fun k hk => ?_, fun k hk hk2 => ?_, ?_⟩
    · simp (disch := omega) only [z_le, z_lt, z_eq, z_lt0, z_0le, z_eq0, z_le0, z_0lt, z_cl, z_in, z_add, z_mul, z_m1ne, z_m1ne', z_m1lt0, z_m1lt, z_ltm1, forall_eq, true_implies, false_implies, implies_true, true_and, and_true, false_and, and_false, not_true_eq_false, not_false_eq_true, ite_true, ite_false, sI_same, sI_ne1, sI_ne2, sA_same, sA_ne, sI_2, sA_2, sL_1, sR_1, up2_s, up2_c, up2_r]; exact ⟨a0, a1, a2, a4⟩
    · simp (disch := omega) only [z_le, z_lt, z_eq, z_lt0, z_0le, z_eq0, z_le0, z_0lt, z_cl, z_in, z_add, z_mul, z_m1ne, z_m1ne', z_m1lt0, z_m1lt, z_ltm1, forall_eq, true_implies, false_implies, implies_true, true_and, and_true, false_and, and_false, not_true_eq_false, not_false_eq_true, ite_true, ite_false, sI_same, sI_ne1, sI_ne2, sA_same, sA_ne, sI_2, sA_2, sL_1, sR_1, up2_s, up2_c, up2_r]; exact b1
    · rw [up2_s] at hk
      by_cases q : k = co 0 3
      · subst q; simp (disch := omega) only [z_le, z_lt, z_eq, z_lt0, z_0le, z_eq0, z_le0, z_0lt, z_cl, z_in, z_add, z_mul, z_m1ne, z_m1ne', z_m1lt0, z_m1lt, z_ltm1, forall_eq, true_implies, false_implies, implies_true, true_and, and_true, false_and, and_false, not_true_eq_false, not_false_eq_true, ite_true, ite_false, sI_same, sI_ne1, sI_ne2, sA_same, sA_ne, sI_2, sA_2, sL_1, sR_1, up2_s, up2_c, up2_r]
      · simp (disch := omega) only [z_le, z_lt, z_eq, z_lt0, z_0le, z_eq0, z_le0, z_0lt, z_cl, z_in, z_add, z_mul, z_m1ne, z_m1ne', z_m1lt0, z_m1lt, z_ltm1, forall_eq, true_implies, false_implies, implies_true, true_and, and_true, false_and, and_false, not_true_eq_false, not_false_eq_true, ite_true, ite_false, sI_same, sI_ne1, sI_ne2, sA_same, sA_ne, sI_2, sA_2, sL_1, sR_1, up2_s, up2_c, up2_r]; exact b2 k (by omega)
    · rw [up2_s] at hk
      simp (disch := omega) only [z_le, z_lt, z_eq, z_lt0, z_0le, z_eq0, z_le0, z_0lt, z_cl, z_in, z_add, z_mul, z_m1ne, z_m1ne', z_m1lt0, z_m1lt, z_ltm1, forall_eq, true_implies, false_implies, implies_true, true_and, and_true, false_and, and_false, not_true_eq_false, not_false_eq_true, ite_true, ite_false, sI_same, sI_ne1, sI_ne2, sA_same, sA_ne, sI_2, sA_2, sL_1, sR_1, up2_s, up2_c, up2_r]; exact b3 k (by omega) hk2
    · by_cases q : k = co 0 3
      · subst q; simp (disch := omega) only [z_le, z_lt, z_eq, z_lt0, z_0le, z_eq0, z_le0, z_0lt, z_cl, z_in, z_add, z_mul, z_m1ne, z_m1ne', z_m1lt0, z_m1lt, z_ltm1, forall_eq, true_implies, false_implies, implies_true, true_and, and_true, false_and, and_false, not_true_eq_false, not_false_eq_true, ite_true, ite_false, sI_same, sI_ne1, sI_ne2, sA_same, sA_ne, sI_2, sA_2, sL_1, sR_1, up2_s, up2_c, up2_r]; exact ⟨_, hz2, rfl⟩
      · simp (disch := omega) only [z_le, z_lt, z_eq, z_lt0, z_0le, z_eq0, z_le0, z_0lt, z_cl, z_in, z_add, z_mul, z_m1ne, z_m1ne', z_m1lt0, z_m1lt, z_ltm1, forall_eq, true_implies, false_implies, implies_true, true_and, and_true, false_and, and_false, not_true_eq_false, not_false_eq_true, ite_true, ite_false, sI_same, sI_ne1, sI_ne2, sA_same, sA_ne, sI_2, sA_2, sL_1, sR_1, up2_s, up2_c, up2_r]; exact b4 k hk
    · simp (disch := omega) only [z_le, z_lt, z_eq, z_lt0, z_0le, z_eq0, z_le0, z_0lt, z_cl, z_in, z_add, z_mul, z_m1ne, z_m1ne', z_m1lt0, z_m1lt, z_ltm1, forall_eq, true_implies, false_implies, implies_true, true_and, and_true, false_and, and_false, not_true_eq_false, not_false_eq_true, ite_true, ite_false, sI_same, sI_ne1, sI_ne2, sA_same, sA_ne, sI_2, sA_2, sL_1, sR_1, up2_s, up2_c, up2_r]; exact b5
    · simp (disch := omega) only [z_le, z_lt, z_eq, z_lt0, z_0le, z_eq0, z_le0, z_0lt, z_cl, z_in, z_add, z_mul, z_m1ne, z_m1ne', z_m1lt0, z_m1lt, z_ltm1, forall_eq, true_implies, false_implies, implies_true, true_and, and_true, false_and, and_false, not_true_eq_false, not_false_eq_true, ite_true, ite_false, sI_same, sI_ne1, sI_ne2, sA_same, sA_ne, sI_2, sA_2, sL_1, sR_1, up2_s, up2_c, up2_r]; exact b6
    · rw [up2_s] at hk
      by_cases q : k = co 0 3
      · subst q; simp (disch := omega) only [z_le, z_lt, z_eq, z_lt0, z_0le, z_eq0, z_le0, z_0lt, z_cl, z_in, z_add, z_mul, z_m1ne, z_m1ne', z_m1lt0, z_m1lt, z_ltm1, forall_eq, true_implies, false_implies, implies_true, true_and, and_true, false_and, and_false, not_true_eq_false, not_false_eq_true, ite_true, ite_false, sI_same, sI_ne1, sI_ne2, sA_same, sA_ne, sI_2, sA_2, sL_1, sR_1, up2_s, up2_c, up2_r]
      · simp (disch := omega) only [z_le, z_lt, z_eq, z_lt0, z_0le, z_eq0, z_le0, z_0lt, z_cl, z_in, z_add, z_mul, z_m1ne, z_m1ne', z_m1lt0, z_m1lt, z_ltm1, forall_eq, true_implies, false_implies, implies_true, true_and, and_true, false_and, and_false, not_true_eq_false, not_false_eq_true, ite_true, ite_false, sI_same, sI_ne1, sI_ne2, sA_same, sA_ne, sI_2, sA_2, sL_1, sR_1, up2_s, up2_c, up2_r]; exact c1 k (by omega)
    · rw [up2_s] at hk
      simp (disch := omega) only [z_le, z_lt, z_eq, z_lt0, z_0le, z_eq0, z_le0, z_0lt, z_cl, z_in, z_add, z_mul, z_m1ne, z_m1ne', z_m1lt0, z_m1lt, z_ltm1, forall_eq, true_implies, false_implies, implies_true, true_and, and_true, false_and, and_false, not_true_eq_false, not_false_eq_true, ite_true, ite_false, sI_same, sI_ne1, sI_ne2, sA_same, sA_ne, sI_2, sA_2, sL_1, sR_1, up2_s, up2_c, up2_r]; exact c2 k (by omega) hk2
    · simp (disch := omega) only [z_le, z_lt, z_eq, z_lt0, z_0le, z_eq0, z_le0, z_0lt, z_cl, z_in, z_add, z_mul, z_m1ne, z_m1ne', z_m1lt0, z_m1lt, z_ltm1, forall_eq, true_implies, false_implies, implies_true, true_and, and_true, false_and, and_false, not_true_eq_false, not_false_eq_true, ite_true, ite_false, sI_same, sI_ne1, sI_ne2, sA_same, sA_ne, sI_2, sA_2, sL_1, sR_1, up2_s, up2_c, up2_r]; exact ⟨c3, c4⟩
theorem F_readPost (hT : vTx T) (tx : TxF μ T) (hR : R = 3 ∨ R = 14) (hd : DrF μ R co) (hv : vP co) (hc : 1 ≤ co 0 0) (hn : co 0 3 < 6) (rd : RdF μ T (.inr p))
    (h : ∀ μ' : Mem, ClF T R μ (posP T co p) (cP T co p) μ' → Q μ') : w_X3_readPost R μ Q := by
  have h12 := hv.1.1
  unfold w_X3_readPost
  rw [hd.1.1.1, z_sub hc]
  refine F_number hT tx rd (by decide) (by omega) (fun z0 μ2 hz0 f2 t2 r2 o2 => ?_)
  have hd2 := hd.rd hR f2
  have e3 := hd2.1.1.2.2.2.1
  have go : ∀ (μ3 : Mem) (st : Rs), FrRd μ2 μ3 → RdF μ3 T st → st = bnd (tkA T co p) (bnd (numA T 0 (co 0 0 - 1)) (.inr p)) → (∀ i', st = .inr i' → z0 = val T p ∧ i' = nx T p) → w_X3_readPost_29 R (nI z0) μ3 Q := by
    intro μ3 st f3 r3 es hz
    refine F_post29 hT (t2.rd f3) hR (hd2.rd hR f3) hn r3 hz (fun μ' hcl => h μ' ?_)
    rw [es] at hcl
    exact ⟨(f2.trans f3).d.trans hcl.1, hcl.2⟩
  have okz : ∀ i', bnd (numA T 0 (co 0 0 - 1)) (.inr p) = .inr i' → z0 = val T p ∧ i' = nx T p ∧ μ2.1 1 3 = nI (sk T p) := by
    intro i' hi'
    obtain ⟨i0, g0, _, j0, q1, _, _, q3⟩ := o2 i' hi'
    cases g0
    exact ⟨q1, j0, q3⟩
  refine F_hasPostIn (by omega) e3 (fun q hq => (hd2.2.1 q hq).1) (fun q hq => by have := (hv.2.2.2.1 q hq).1; omega) hz0 ?_
  by_cases q : pin (co 9) z0 (co 0 3) = none
  · rw [if_pos q]
    refine ⟨fun _ => ?_, fun z => absurd rfl z⟩
    cases est : bnd (numA T 0 (co 0 0 - 1)) (.inr p) with
    | inl e =>
      rw [est] at r2
      exact go μ2 (.inl e) FrRd.rfl' r2 (by rw [est]; rfl) (fun i' z => by cases z)
    | inr i =>
      obtain ⟨k1, k2, k3⟩ := okz i est
      rw [est] at r2
      refine go μ2 (.inr i) FrRd.rfl' r2 ?_ (fun i' z => by cases z; exact ⟨k1, k2⟩)
      rw [est]
      show _ = tkA T co p i
      unfold tkA
      rw [← k1, if_pos q]
  · rw [if_neg q]
    refine ⟨fun z => absurd z (by decide), fun _ => ?_⟩
    refine F_fail r2 (fun e est => ?_) (fun i est => ?_)
    · rw [est] at r2
      exact go μ2 (.inl e) FrRd.rfl' r2 (by rw [est]; rfl) (fun i' z => by cases z)
    · obtain ⟨k1, k2, k3⟩ := okz i est
      rw [k3]
      refine go _ (.inl (4, sk T p)) ((FrRd.put (by omega)).trans (FrRd.put (by omega))) (RdF.err (by decide)) ?_ (fun i' z => by cases z)
      rw [est]
      show _ = tkA T co p i
      unfold tkA
      rw [← k1, if_neg q]
end POST
def fowN (co : Co) (w : Nat) : Nat :=
  if co 0 0 = 0 then (if w = 102 then 0 else 1) else if w = 102 then 3 else if w = 104 then (if co 0 2 < 12 then 0 else 3) else if w = 112 then (if co 0 3 < 6 then 0 else 3)
  else if w = 100 then (if co 11 0 = 0 then 0 else 3) else if w = 117 then (if co 11 1 = 0 then 0 else 3) else if w = 103 then (if co 0 4 < 4 then 0 else 3) else 1
theorem F_fow {μ : Mem} {R w : Nat} {co : Co} {Q : Int32 → Prop} (hd : DrF μ R co) (hv : vP co) (hw : w ≤ 255) (h : Q (nI (fowN co w))) : w_X3_faultOfWord R (nI w) μ Q := by
  obtain ⟨⟨v0, v1, v2, v3, v4, _⟩, u0, u1, _⟩ := hv
  unfold w_X3_faultOfWord
  rw [hd.1.1.1, hd.1.1.2.2.1, hd.1.1.2.2.2.1, hd.1.1.2.2.2.2, hd.2.2.2.1, hd.2.2.2.2]
  simp (disch := omega) only [z_le, z_lt, z_eq, z_lt0, z_0le, z_eq0, z_le0, z_0lt, z_cl, z_in, z_add, z_mul, z_m1ne, z_m1ne', z_m1lt0, z_m1lt, z_ltm1, forall_eq, true_implies, false_implies, implies_true, true_and, and_true, false_and, and_false, not_true_eq_false, not_false_eq_true, ite_true, ite_false]
  by_cases q : co 0 0 = 0
  · refine ⟨fun z => absurd q z, fun _ => ⟨fun z => ?_, fun z => ?_⟩⟩
    · have e : fowN co w = 1 := by unfold fowN; rw [if_pos q, if_neg z]
      rw [e] at h; exact h
    · have e : fowN co w = 0 := by unfold fowN; rw [if_pos q, if_pos z]
      rw [e] at h; exact h
  · refine ⟨fun _ => ?_, fun z => absurd z q⟩
    have two : ∀ (P : Prop) [Decidable P] (a b : Nat), fowN co w = (if P then a else b) → (P → Q (nI a)) ∧ (¬ P → Q (nI b)) := by
      intro P _ a b e
      refine ⟨fun z => ?_, fun z => ?_⟩
      · rw [if_pos z] at e; rw [e] at h; exact h
      · rw [if_neg z] at e; rw [e] at h; exact h
    by_cases w1 : w = 102
    · have e : fowN co w = 3 := by unfold fowN; rw [if_neg q, if_pos w1]
      rw [e] at h
      subst w1
      repeat (first | refine ⟨fun _ => ?_, fun z => absurd rfl z⟩ | refine ⟨fun z => absurd z (by decide), fun _ => ?_⟩)
      exact h
    by_cases w2 : w = 104
    · have := two (co 0 2 < 12) 0 3 (by unfold fowN; rw [if_neg q, if_neg w1, if_pos w2])
      subst w2
      repeat (first | refine ⟨fun _ => ?_, fun z => absurd rfl z⟩ | refine ⟨fun z => absurd z (by decide), fun _ => ?_⟩)
      exact ⟨fun z => this.2 (by omega), fun z => this.1 (by omega)⟩
    by_cases w3 : w = 112
    · have := two (co 0 3 < 6) 0 3 (by unfold fowN; rw [if_neg q, if_neg w1, if_neg w2, if_pos w3])
      subst w3
      repeat (first | refine ⟨fun _ => ?_, fun z => absurd rfl z⟩ | refine ⟨fun z => absurd z (by decide), fun _ => ?_⟩)
      exact ⟨fun z => this.2 (by omega), fun z => this.1 (by omega)⟩
    by_cases w4 : w = 100
    · have := two (co 11 0 = 0) 0 3 (by unfold fowN; rw [if_neg q, if_neg w1, if_neg w2, if_neg w3, if_pos w4])
      subst w4
      repeat (first | refine ⟨fun _ => ?_, fun z => absurd rfl z⟩ | refine ⟨fun z => absurd z (by decide), fun _ => ?_⟩)
      exact this
    by_cases w5 : w = 117
    · have := two (co 11 1 = 0) 0 3 (by unfold fowN; rw [if_neg q, if_neg w1, if_neg w2, if_neg w3, if_neg w4, if_pos w5])
      subst w5
      repeat (first | refine ⟨fun _ => ?_, fun z => absurd rfl z⟩ | refine ⟨fun z => absurd z (by decide), fun _ => ?_⟩)
      exact this
    by_cases w6 : w = 103
    · have := two (co 0 4 < 4) 0 3 (by unfold fowN; rw [if_neg q, if_neg w1, if_neg w2, if_neg w3, if_neg w4, if_neg w5, if_pos w6])
      subst w6
      repeat (first | refine ⟨fun _ => ?_, fun z => absurd rfl z⟩ | refine ⟨fun z => absurd z (by decide), fun _ => ?_⟩)
      exact ⟨fun z => this.2 (by omega), fun z => this.1 (by omega)⟩
    have e : fowN co w = 1 := by unfold fowN; rw [if_neg q, if_neg w1, if_neg w2, if_neg w3, if_neg w4, if_neg w5, if_neg w6]
    rw [e] at h
    repeat (first | exact h | refine ⟨fun _ => h, fun _ => ?_⟩ | refine ⟨fun z => absurd z (by assumption), fun _ => ?_⟩)
theorem F_readClause {μ : Mem} {T : Tx} {R s w : Nat} {co : Co} {Q : Mem → Prop} (hT : vTx T) (tx : TxF μ T) (hR : R = 3 ∨ R = 14) (hd : DrF μ R co) (hv : vP co) (hs : s < T.1) (rd : RdF μ T (.inr s)) (hw : w = T.2 s)
    (h : ∀ μ' : Mem, ClF T R μ (clP T co s) (clC T co s) μ' → Q μ') : w_X3_readClause R (nI w) μ Q := by
  have hw2 : w ≤ 255 := by rw [hw]; exact hT.2 s hs
  have c2 : μ.1 1 2 = nI s := rd.2.2.1
  have h12 := hv.1.1
  unfold w_X3_readClause
  refine F_fow hd hv hw2 ?_
  have bad : ∀ c, 1 ≤ c ∧ c ≤ 4 → fowN co w = c → clP T co s = .inl (c, s) → ∀ P : Prop, (nI (fowN co w) = 0 → P) ∧ (¬ nI (fowN co w) = 0 → w_X3_fail (nI (fowN co w)) (μ.1 1 2) μ (fun μ19 => Q μ19)) := by
    intro c hc e1 e2 P
    rw [e1, z_eq0 (by omega), c2]
    refine ⟨fun z => by omega, fun _ => F_fail rd (fun e z => by cases z) (fun _ _ => h _ ⟨(FrD.flag (by decide)).trans (FrD.flag (by decide)), ?_, (hd.jb.fr (by rw [sI_r (by omega), sI_r (by omega)])), fun i' z => ?_⟩)⟩
    · rw [e2]; exact RdF.err hc
    · rw [e2] at z; cases z
  have f3 : FrRd μ (sI μ 1 2 (nI (s + 1))) := FrRd.put (by omega)
  have t3 := tx.rd f3
  have d3 := hd.rd hR f3
  have r3 : RdF (sI μ 1 2 (nI (s + 1))) T (.inr (s + 1)) := ⟨by rw [sI_ne2 (by decide)]; exact rd.1, by rw [sI_ne2 (by decide)]; exact rd.2.1, sI_same, hs⟩
  have fin : ∀ st co1 μ', clP T co s = st → clC T co s = co1 → ClF T R (sI μ 1 2 (nI (s + 1))) st co1 μ' → Q μ' := by
    intro st co1 μ' e1 e2 hc
    refine h μ' ?_
    rw [e1, e2]
    exact ⟨f3.d.trans hc.1, hc.2⟩
  have good : ∀ P : Mem → Prop, fowN co w = 0 → P (sI μ 1 2 (nI (s + 1))) → (nI (fowN co w) = 0 → ∀ μ3 : Mem, μ3 = sI μ 1 2 ((μ.1 1 2) + (nI 1)) → P μ3) ∧ (¬ nI (fowN co w) = 0 → w_X3_fail (nI (fowN co w)) (μ.1 1 2) μ (fun μ19 => Q μ19)) := by
    intro P e hP
    rw [e]
    refine ⟨fun _ μ3 e3 => ?_, fun z => absurd rfl z⟩
    rw [c2, z_add] at e3
    subst e3
    exact hP
  by_cases q : co 0 0 = 0
  · by_cases w1 : w = 102
    · refine good _ (by unfold fowN; rw [if_pos q, if_pos w1]) ?_
      have e1 : clP T co s = twoP T 1 12 0 20 (s + 1) := by unfold clP; rw [if_pos q, ← hw, if_pos w1]
      have e2 : clC T co s = cF T co (s + 1) := by unfold clC; rw [if_pos q]
      subst w1
      repeat (first | refine ⟨fun _ => ?_, fun z => absurd rfl z⟩ | refine ⟨fun z => absurd z (by decide), fun _ => ?_⟩)
      exact F_readCells hT t3 hR d3 r3 (fun μ' hc => fin _ _ μ' e1 e2 hc)
    · exact bad 1 (by decide) (by unfold fowN; rw [if_pos q, if_neg w1]) (by unfold clP; rw [if_pos q, ← hw, if_neg w1]) _
  · by_cases w1 : w = 102
    · exact bad 3 (by decide) (by unfold fowN; rw [if_neg q, if_pos w1]) (by unfold clP; rw [if_neg q, ← hw, if_pos w1]) _
    by_cases w2 : w = 104
    · by_cases n : co 0 2 < 12
      · refine good _ (by unfold fowN; rw [if_neg q, if_neg w1, if_pos w2, if_pos n]) ?_
        have e1 : clP T co s = twoP T 0 1 0 40 (s + 1) := by unfold clP; rw [if_neg q, ← hw, if_neg w1, if_pos w2, if_pos n]
        have e2 : clC T co s = cH T co (s + 1) := by unfold clC; rw [if_neg q, ← hw, if_pos w2]
        subst w2
        repeat (first | refine ⟨fun _ => ?_, fun z => absurd rfl z⟩ | refine ⟨fun z => absurd z (by decide), fun _ => ?_⟩)
        exact F_readHour hT t3 hR d3 n r3 (fun μ' hc => fin _ _ μ' e1 e2 hc)
      · exact bad 3 (by decide) (by unfold fowN; rw [if_neg q, if_neg w1, if_pos w2, if_neg n]) (by unfold clP; rw [if_neg q, ← hw, if_neg w1, if_pos w2, if_neg n]) _
    by_cases w3 : w = 112
    · by_cases n : co 0 3 < 6
      · refine good _ (by unfold fowN; rw [if_neg q, if_neg w1, if_neg w2, if_pos w3, if_pos n]) ?_
        have e1 : clP T co s = posP T co (s + 1) := by unfold clP; rw [if_neg q, ← hw, if_neg w1, if_neg w2, if_pos w3, if_pos n]
        have e2 : clC T co s = cP T co (s + 1) := by unfold clC; rw [if_neg q, ← hw, if_neg w2, if_pos w3]
        subst w3
        repeat (first | refine ⟨fun _ => ?_, fun z => absurd rfl z⟩ | refine ⟨fun z => absurd z (by decide), fun _ => ?_⟩)
        exact F_readPost hT t3 hR d3 hv (by omega) n r3 (fun μ' hc => fin _ _ μ' e1 e2 hc)
      · exact bad 3 (by decide) (by unfold fowN; rw [if_neg q, if_neg w1, if_neg w2, if_pos w3, if_neg n]) (by unfold clP; rw [if_neg q, ← hw, if_neg w1, if_neg w2, if_pos w3, if_neg n]) _
    by_cases w4 : w = 100
    · by_cases n : co 11 0 = 0
      · refine good _ (by unfold fowN; rw [if_neg q, if_neg w1, if_neg w2, if_neg w3, if_pos w4, if_pos n]) ?_
        have e1 : clP T co s = twoP T 0 127 0 127 (s + 1) := by unfold clP; rw [if_neg q, ← hw, if_neg w1, if_neg w2, if_neg w3, if_pos w4, if_pos n]
        have e2 : clC T co s = cD T co (s + 1) := by unfold clC; rw [if_neg q, ← hw, if_neg w2, if_neg w3, if_pos w4]
        subst w4
        repeat (first | refine ⟨fun _ => ?_, fun z => absurd rfl z⟩ | refine ⟨fun z => absurd z (by decide), fun _ => ?_⟩)
        exact F_readDays hT t3 hR d3 r3 (fun μ' hc => fin _ _ μ' e1 e2 hc)
      · exact bad 3 (by decide) (by unfold fowN; rw [if_neg q, if_neg w1, if_neg w2, if_neg w3, if_pos w4, if_neg n]) (by unfold clP; rw [if_neg q, ← hw, if_neg w1, if_neg w2, if_neg w3, if_pos w4, if_neg n]) _
    by_cases w5 : w = 117
    · by_cases n : co 11 1 = 0
      · refine good _ (by unfold fowN; rw [if_neg q, if_neg w1, if_neg w2, if_neg w3, if_neg w4, if_pos w5, if_pos n]) ?_
        have e1 : clP T co s = twoP T 0 99 0 99 (s + 1) := by unfold clP; rw [if_neg q, ← hw, if_neg w1, if_neg w2, if_neg w3, if_neg w4, if_pos w5, if_pos n]
        have e2 : clC T co s = cU T co (s + 1) := by unfold clC; rw [if_neg q, ← hw, if_neg w2, if_neg w3, if_neg w4, if_pos w5]
        subst w5
        repeat (first | refine ⟨fun _ => ?_, fun z => absurd rfl z⟩ | refine ⟨fun z => absurd z (by decide), fun _ => ?_⟩)
        exact F_readUses hT t3 hR d3 r3 (fun μ' hc => fin _ _ μ' e1 e2 hc)
      · exact bad 3 (by decide) (by unfold fowN; rw [if_neg q, if_neg w1, if_neg w2, if_neg w3, if_neg w4, if_pos w5, if_neg n]) (by unfold clP; rw [if_neg q, ← hw, if_neg w1, if_neg w2, if_neg w3, if_neg w4, if_pos w5, if_neg n]) _
    by_cases w6 : w = 103
    · by_cases n : co 0 4 < 4
      · refine good _ (by unfold fowN; rw [if_neg q, if_neg w1, if_neg w2, if_neg w3, if_neg w4, if_neg w5, if_pos w6, if_pos n]) ?_
        have e1 : clP T co s = twoP T 0 (co 0 0 - 1) 1 20 (s + 1) := by unfold clP; rw [if_neg q, ← hw, if_neg w1, if_neg w2, if_neg w3, if_neg w4, if_neg w5, if_pos w6, if_pos n]
        have e2 : clC T co s = cG T co (s + 1) := by unfold clC; rw [if_neg q, ← hw, if_neg w2, if_neg w3, if_neg w4, if_neg w5]
        subst w6
        repeat (first | refine ⟨fun _ => ?_, fun z => absurd rfl z⟩ | refine ⟨fun z => absurd z (by decide), fun _ => ?_⟩)
        exact F_readGoat hT t3 hR d3 ⟨by omega, h12⟩ n r3 (fun μ' hc => fin _ _ μ' e1 e2 hc)
      · exact bad 3 (by decide) (by unfold fowN; rw [if_neg q, if_neg w1, if_neg w2, if_neg w3, if_neg w4, if_neg w5, if_pos w6, if_neg n]) (by unfold clP; rw [if_neg q, ← hw, if_neg w1, if_neg w2, if_neg w3, if_neg w4, if_neg w5, if_pos w6, if_neg n]) _
    exact bad 1 (by decide) (by unfold fowN; rw [if_neg q, if_neg w1, if_neg w2, if_neg w3, if_neg w4, if_neg w5, if_neg w6]) (by unfold clP; rw [if_neg q, ← hw, if_neg w1, if_neg w2, if_neg w3, if_neg w4, if_neg w5, if_neg w6]) _
