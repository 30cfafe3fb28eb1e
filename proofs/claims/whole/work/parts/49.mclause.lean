/-! ===== the reference reads a clause ===== -/
theorem FrRm.both {a b : Mem} {i j : Nat} {x : Int32} (h : FrRm a b) : FrRm (sI a i j x) (sI b i j x) := by
  refine ⟨h.1, fun k hk => ?_, fun l l3 l4 => ?_⟩
  · funext m
    by_cases q : k = i
    · subst q
      by_cases y : m = j
      · subst y; rw [sI_same, sI_same]
      · rw [sI_ne2 y, sI_ne2 y, h.2.1 _ hk]
    · rw [sI_ne1 q, sI_ne1 q, h.2.1 _ hk]
  · by_cases q : i = 0
    · subst q
      by_cases y : l = j
      · subst y; rw [sI_same, sI_same]
      · rw [sI_ne2 y, sI_ne2 y, h.2.2 l l3 l4]
    · rw [sI_ne1 (Ne.symm q), sI_ne1 (Ne.symm q), h.2.2 l l3 l4]
theorem RdM.fr {ν ν1 : Mem} {T : Tx} {st : Rs} (h : RdM ν T st) (h3 : ν1.1 0 3 = ν.1 0 3) (h4 : ν1.1 0 4 = ν.1 0 4) : RdM ν1 T st := by
  unfold RdM at h ⊢
  cases st with
  | inl e => dsimp only at h ⊢; rw [h3, h4]; exact h
  | inr i => dsimp only at h ⊢; rw [h3]; exact h
def DrM (ν : Mem) (co : Co) : Prop :=
  (co 0 0 ≠ 0 → ν.1 2 0 = nI (co 0 0) ∧ ν.1 2 1 = nI (co 0 1)) ∧
  (ν.1 0 5 = nI (co 0 3) ∧ ν.1 0 6 = nI (co 0 2) ∧ ν.1 0 7 = nI (co 0 4) ∧ ν.1 0 9 = nI (co 11 0) ∧ ν.1 0 10 = nI (co 11 1)) ∧
  (∀ v, v < 2 → ν.1 3 v = nI (co 5 v) ∧ ν.1 4 v = nI (co 6 v)) ∧
  (∀ h, h < co 0 2 → ν.1 5 (2 * h) = nI (co 1 h) ∧ ν.1 5 (2 * h + 1) = nI (co 2 h)) ∧
  (∀ p, p < co 0 3 → ν.1 6 (4 * p) = nI (co 9 p) ∧ ν.1 6 (4 * p + 1) = nI (co 10 p) ∧ ν.1 6 (4 * p + 2) = nI (co 3 p) ∧ ν.1 6 (4 * p + 3) = nI (co 4 p)) ∧
  (∀ g, g < co 0 4 → ν.1 7 (2 * g) = nI (co 7 g) ∧ ν.1 7 (2 * g + 1) = nI (co 8 g))
theorem DrM.rd {ν ν1 : Mem} {co : Co} (h : DrM ν co) (f : FrRm ν ν1) : DrM ν1 co := by
  unfold DrM at h ⊢
  rw [f.2.1 2 (by decide), f.2.1 3 (by decide), f.2.1 4 (by decide), f.2.1 5 (by decide), f.2.1 6 (by decide), f.2.1 7 (by decide), f.2.2 5 (by decide) (by decide), f.2.2 6 (by decide) (by decide), f.2.2 7 (by decide) (by decide), f.2.2 9 (by decide) (by decide), f.2.2 10 (by decide) (by decide)]
  exact h
section MTWO
variable {ν : Mem} {T : Tx} {b o a1 a2 a3 a4 p : Nat} {Q : Int32 → Mem → Prop}
theorem M_two_a (hT : vTx T) (tx : TxM ν T) (rd : RdM ν T (.inr p)) (hb : 2 ≤ b ∧ b ≤ 7) (ho : o + 1 < sM.2.2 b) (hN : sM.2.2 b < 2147483648) (g1 : a1 < 1000) (g2 : a2 < 1000) (g3 : a3 < 1000) (g4 : a4 < 1000)
    (h1 : ∀ (i' : Nat) (ν' : Mem), FrRm (sI (sI ν b o (nI (val T p))) b (o + 1) (nI (val T (nx T p)))) ν' → twoP T a1 a2 a3 a4 p = .inr i' → RdM ν' T (.inr i') → Q (nI 1) ν')
    (h2 : ∀ (e : Nat × Nat) (ν' : Mem), FrC ν ν' → twoP T a1 a2 a3 a4 p = .inl e → RdM ν' T (.inl e) → Q (nI 0) ν') :
    w_X7_reads2 b (nI o) (nI a1) (nI a2) (nI a3) (nI a4) ν (fun r2 μ3 => ((r2 = 0 → Q (nI 0) μ3) ∧ (¬ r2 = 0 → w_X7_ends μ3 (fun r4 μ5 => ((r4 = 0 → Q (nI 0) μ5) ∧ (¬ r4 = 0 → Q (nI 1) μ5)))))) := by
  have fs : FrC ν (sI (sI ν b o (nI (val T p))) b (o + 1) (nI (val T (nx T p)))) := (FrC.put hb).trans (FrC.put hb)
  refine M_reads2 hT tx rd hb ho hN g1 g2 g3 g4 (fun ν2 f2 q2 r2 => ⟨fun z => absurd z (by decide), fun _ => ?_⟩) (fun e ν2 f2 q2 r2 => ⟨fun _ => h2 e ν2 f2 ?_ r2, fun z => absurd rfl z⟩)
  · have e1 : twoP T a1 a2 a3 a4 p = endA T (nx T (nx T p)) := by unfold twoP; rw [q2]; rfl
    refine M_ends hT (tx.c (fs.trans f2.c)) r2 (fun i' ν4 f4 q4 r4 => ⟨fun z => absurd z (by decide), fun _ => h1 i' ν4 (f2.trans f4) (e1.trans q4) r4⟩) (fun e ν4 f4 q4 r4 => ⟨fun _ => h2 e ν4 (fs.trans (f2.c.trans f4.c)) (e1.trans q4) r4, fun z => absurd rfl z⟩)
  · unfold twoP; rw [q2]; rfl
theorem M_two_b {k n : Nat} (hk : 5 ≤ k ∧ k ≤ 7) (hn : ν.1 0 k = nI n) (hT : vTx T) (tx : TxM ν T) (rd : RdM ν T (.inr p)) (hb : 2 ≤ b ∧ b ≤ 7) (ho : o + 1 < sM.2.2 b) (hN : sM.2.2 b < 2147483648) (g1 : a1 < 1000) (g2 : a2 < 1000) (g3 : a3 < 1000) (g4 : a4 < 1000)
    (h1 : ∀ (i' : Nat) (ν' : Mem), FrRm (sI (sI (sI ν b o (nI (val T p))) b (o + 1) (nI (val T (nx T p)))) 0 k (nI (n + 1))) ν' → twoP T a1 a2 a3 a4 p = .inr i' → RdM ν' T (.inr i') → Q (nI 1) ν')
    (h2 : ∀ (e : Nat × Nat) (ν' : Mem), FrC ν ν' → twoP T a1 a2 a3 a4 p = .inl e → RdM ν' T (.inl e) → Q (nI 0) ν') :
    w_X7_reads2 b (nI o) (nI a1) (nI a2) (nI a3) (nI a4) ν (fun r2 μ3 => ((¬ r2 = 0 → ∀ μ4 : Mem, μ4 = sI μ3 0 k ((μ3.1 0 k) + (nI 1)) → w_X7_ends μ4 (fun r5 μ6 => ((r5 = 0 ∨ r5 = 1) ∧ Q r5 μ6))) ∧ (r2 = 0 → Q (nI 0) μ3))) := by
  have fs : FrC ν (sI (sI ν b o (nI (val T p))) b (o + 1) (nI (val T (nx T p)))) := (FrC.put hb).trans (FrC.put hb)
  refine M_reads2 hT tx rd hb ho hN g1 g2 g3 g4 (fun ν2 f2 q2 r2 => ⟨fun _ => ?_, fun z => absurd z (by decide)⟩) (fun e ν2 f2 q2 r2 => ⟨fun z => absurd rfl z, fun _ => h2 e ν2 f2 ?_ r2⟩)
  · intro μ4 e4
    rw [f2.2.2 k (by omega) (by omega), sI_ne1 (by omega), sI_ne1 (by omega), hn, z_add] at e4
    subst e4
    have e1 : twoP T a1 a2 a3 a4 p = endA T (nx T (nx T p)) := by unfold twoP; rw [q2]; rfl
    have ff : FrC ν2 (sI ν2 0 k (nI (n + 1))) := FrC.flag (by omega)
    refine M_ends hT (tx.c ((fs.trans f2.c).trans ff)) (r2.fr (sI_ne2 (by omega)) (sI_ne2 (by omega))) (fun i' ν4 f4 q4 r4 => ⟨Or.inr rfl, h1 i' ν4 (f2.both.trans f4) (e1.trans q4) r4⟩) (fun e ν4 f4 q4 r4 => ⟨Or.inl rfl, h2 e ν4 (fs.trans (f2.c.trans (ff.trans f4.c))) (e1.trans q4) r4⟩)
  · unfold twoP; rw [q2]; rfl
end MTWO
section MCLAU
variable {ν : Mem} {T : Tx} {s : Nat} {co : Co} {Q : Int32 → Mem → Prop}
theorem RdM.put {ν : Mem} {T : Tx} {i : Nat} (h : i ≤ T.1) : RdM (sI ν 0 3 (nI i)) T (.inr i) := ⟨sI_same, h⟩
theorem M_fails {c p : Nat} (rd : RdM ν T (.inr p)) (h : ∀ ν' : Mem, FrC ν ν' → RdM ν' T (.inl (c, p)) → Q (nI 0) ν') : w_X7_fails (nI c) ν Q := by
  unfold w_X7_fails
  intro μ1 e1
  subst e1
  exact h _ (FrC.flag (by decide)) ⟨sI_same, by rw [sI_ne2 (by decide)]; exact rd.1⟩
theorem M_readsHead (hT : vTx T) (tx : TxM ν T) (hd : DrM ν co) (hs : s < T.1) (rd : RdM ν T (.inr s))
    (h1 : ∀ (i' : Nat) (ν' : Mem), FrC ν ν' → twoP T 1 12 0 20 (s + 1) = .inr i' → RdM ν' T (.inr i') → DrM ν' (cF T co (s + 1)) → Q (nI 1) ν')
    (h2 : ∀ (e : Nat × Nat) (ν' : Mem), FrC ν ν' → twoP T 1 12 0 20 (s + 1) = .inl e → RdM ν' T (.inl e) → Q (nI 0) ν') : w_X7_readsHead ν Q := by
  unfold w_X7_readsHead
  intro μ1 e1
  rw [rd.1, z_add] at e1
  subst e1
  have f1 : FrRm ν (sI ν 0 3 (nI (s + 1))) := FrRm.put (by omega)
  refine M_two_a (o := 0) hT (tx.rd f1) (RdM.put hs) (by decide) (by decide) (by decide) (by decide) (by decide) (by decide) (by decide) (fun i' ν' f q r => ?_) (fun e ν' f q r => h2 e ν' (f1.c.trans f) q r)
  refine h1 i' ν' (f1.c.trans (((FrC.put (by decide)).trans (FrC.put (by decide))).trans f.c)) q r ?_
  have hd1 := hd.rd f1
  obtain ⟨a, b, c⟩ := hd1
  unfold DrM cF
  refine ⟨?_, ?_, ?_⟩
  · simp (disch := omega) only [z_le, z_lt, z_eq, z_lt0, z_0le, z_eq0, z_le0, z_0lt, z_cl, z_in, z_add, z_mul, z_m1ne, z_m1ne', z_m1lt0, z_m1lt, z_ltm1, forall_eq, true_implies, false_implies, implies_true, true_and, and_true, false_and, and_false, not_true_eq_false, not_false_eq_true, ite_true, ite_false, sI_same, sI_ne1, sI_ne2, sA_same, sA_ne, sI_2, sA_2, sL_1, sR_1, up2_s, up2_c, up2_r, f.2.1]
  · simp (disch := omega) only [z_le, z_lt, z_eq, z_lt0, z_0le, z_eq0, z_le0, z_0lt, z_cl, z_in, z_add, z_mul, z_m1ne, z_m1ne', z_m1lt0, z_m1lt, z_ltm1, forall_eq, true_implies, false_implies, implies_true, true_and, and_true, false_and, and_false, not_true_eq_false, not_false_eq_true, ite_true, ite_false, sI_same, sI_ne1, sI_ne2, sA_same, sA_ne, sI_2, sA_2, sL_1, sR_1, up2_s, up2_c, up2_r, f.2.2]
    simp (disch := omega) only [z_le, z_lt, z_eq, z_lt0, z_0le, z_eq0, z_le0, z_0lt, z_cl, z_in, z_add, z_mul, z_m1ne, z_m1ne', z_m1lt0, z_m1lt, z_ltm1, forall_eq, true_implies, false_implies, implies_true, true_and, and_true, false_and, and_false, not_true_eq_false, not_false_eq_true, ite_true, ite_false, sI_same, sI_ne1, sI_ne2, sA_same, sA_ne, sI_2, sA_2, sL_1, sR_1] at b
    exact b
  · simp (disch := omega) only [z_le, z_lt, z_eq, z_lt0, z_0le, z_eq0, z_le0, z_0lt, z_cl, z_in, z_add, z_mul, z_m1ne, z_m1ne', z_m1lt0, z_m1lt, z_ltm1, forall_eq, true_implies, false_implies, implies_true, true_and, and_true, false_and, and_false, not_true_eq_false, not_false_eq_true, ite_true, ite_false, sI_same, sI_ne1, sI_ne2, sA_same, sA_ne, sI_2, sA_2, sL_1, sR_1, up2_s, up2_c, up2_r, f.2.1]
    simp (disch := omega) only [z_le, z_lt, z_eq, z_lt0, z_0le, z_eq0, z_le0, z_0lt, z_cl, z_in, z_add, z_mul, z_m1ne, z_m1ne', z_m1lt0, z_m1lt, z_ltm1, forall_eq, true_implies, false_implies, implies_true, true_and, and_true, false_and, and_false, not_true_eq_false, not_false_eq_true, ite_true, ite_false, sI_same, sI_ne1, sI_ne2, sA_same, sA_ne, sI_2, sA_2, sL_1, sR_1] at c
    exact c
theorem M_readsDays (hT : vTx T) (tx : TxM ν T) (hd : DrM ν co) (h0 : co 11 0 = 0) (hs : s < T.1) (rd : RdM ν T (.inr s))
    (h1 : ∀ (i' : Nat) (ν' : Mem), FrC ν ν' → twoP T 0 127 0 127 (s + 1) = .inr i' → RdM ν' T (.inr i') → DrM ν' (cD T co (s + 1)) → Q (nI 1) ν')
    (h2 : ∀ (e : Nat × Nat) (ν' : Mem), FrC ν ν' → twoP T 0 127 0 127 (s + 1) = .inl e → RdM ν' T (.inl e) → Q (nI 0) ν') : w_X7_readsDays ν Q := by
  unfold w_X7_readsDays
  rw [hd.2.1.2.2.2.1, h0]
  refine ⟨fun _ => ?_, fun z => absurd rfl z⟩
  intro μ1 e1 μ2 e2
  rw [rd.1, z_add] at e1
  subst e1 e2
  have f1 : FrRm ν (sI ν 0 3 (nI (s + 1))) := FrRm.put (by omega)
  have f2 : FrC ν (sI (sI ν 0 3 (nI (s + 1))) 0 9 (nI 1)) := f1.c.trans (FrC.flag (by decide))
  refine M_two_a (o := 0) hT (tx.c f2) ((RdM.put hs).fr (sI_ne2 (by decide)) (sI_ne2 (by decide))) (by decide) (by decide) (by decide) (by decide) (by decide) (by decide) (by decide) (fun i' ν' f q r => ?_) (fun e ν' f q r => h2 e ν' (f2.trans f) q r)
  refine h1 i' ν' (f2.trans (((FrC.put (by decide)).trans (FrC.put (by decide))).trans f.c)) q r ?_
  obtain ⟨a, ⟨b0, b1, b2, b3, b4⟩, c, d⟩ := hd
  unfold DrM cD
  refine ⟨?_, ?_, fun v hv => ?_, ?_⟩
  · simp (disch := omega) only [z_le, z_lt, z_eq, z_lt0, z_0le, z_eq0, z_le0, z_0lt, z_cl, z_in, z_add, z_mul, z_m1ne, z_m1ne', z_m1lt0, z_m1lt, z_ltm1, forall_eq, true_implies, false_implies, implies_true, true_and, and_true, false_and, and_false, not_true_eq_false, not_false_eq_true, ite_true, ite_false, sI_same, sI_ne1, sI_ne2, sA_same, sA_ne, sI_2, sA_2, sL_1, sR_1, up2_s, up2_c, up2_r, f.2.1]; exact a
  · simp (disch := omega) only [z_le, z_lt, z_eq, z_lt0, z_0le, z_eq0, z_le0, z_0lt, z_cl, z_in, z_add, z_mul, z_m1ne, z_m1ne', z_m1lt0, z_m1lt, z_ltm1, forall_eq, true_implies, false_implies, implies_true, true_and, and_true, false_and, and_false, not_true_eq_false, not_false_eq_true, ite_true, ite_false, sI_same, sI_ne1, sI_ne2, sA_same, sA_ne, sI_2, sA_2, sL_1, sR_1, up2_s, up2_c, up2_r, f.2.2]; exact ⟨b0, b1, b2, b4⟩
  · have := c v hv
    rcases (by omega : v = 0 ∨ v = 1) with rfl | rfl
    · simp (disch := omega) only [z_le, z_lt, z_eq, z_lt0, z_0le, z_eq0, z_le0, z_0lt, z_cl, z_in, z_add, z_mul, z_m1ne, z_m1ne', z_m1lt0, z_m1lt, z_ltm1, forall_eq, true_implies, false_implies, implies_true, true_and, and_true, false_and, and_false, not_true_eq_false, not_false_eq_true, ite_true, ite_false, sI_same, sI_ne1, sI_ne2, sA_same, sA_ne, sI_2, sA_2, sL_1, sR_1, up2_s, up2_c, up2_r, f.2.1]; exact this.2
    · simp (disch := omega) only [z_le, z_lt, z_eq, z_lt0, z_0le, z_eq0, z_le0, z_0lt, z_cl, z_in, z_add, z_mul, z_m1ne, z_m1ne', z_m1lt0, z_m1lt, z_ltm1, forall_eq, true_implies, false_implies, implies_true, true_and, and_true, false_and, and_false, not_true_eq_false, not_false_eq_true, ite_true, ite_false, sI_same, sI_ne1, sI_ne2, sA_same, sA_ne, sI_2, sA_2, sL_1, sR_1, up2_s, up2_c, up2_r, f.2.1]; exact this.2
  · simp (disch := omega) only [z_le, z_lt, z_eq, z_lt0, z_0le, z_eq0, z_le0, z_0lt, z_cl, z_in, z_add, z_mul, z_m1ne, z_m1ne', z_m1lt0, z_m1lt, z_ltm1, forall_eq, true_implies, false_implies, implies_true, true_and, and_true, false_and, and_false, not_true_eq_false, not_false_eq_true, ite_true, ite_false, sI_same, sI_ne1, sI_ne2, sA_same, sA_ne, sI_2, sA_2, sL_1, sR_1, up2_s, up2_c, up2_r, f.2.1]; exact d
theorem M_readsUse (hT : vTx T) (tx : TxM ν T) (hd : DrM ν co) (h0 : co 11 1 = 0) (hs : s < T.1) (rd : RdM ν T (.inr s))
    (h1 : ∀ (i' : Nat) (ν' : Mem), FrC ν ν' → twoP T 0 99 0 99 (s + 1) = .inr i' → RdM ν' T (.inr i') → DrM ν' (cU T co (s + 1)) → Q (nI 1) ν')
    (h2 : ∀ (e : Nat × Nat) (ν' : Mem), FrC ν ν' → twoP T 0 99 0 99 (s + 1) = .inl e → RdM ν' T (.inl e) → Q (nI 0) ν') : w_X7_readsUse ν Q := by
  unfold w_X7_readsUse
  rw [hd.2.1.2.2.2.2, h0]
  refine ⟨fun _ => ?_, fun z => absurd rfl z⟩
  intro μ1 e1 μ2 e2
  rw [rd.1, z_add] at e1
  subst e1 e2
  have f1 : FrRm ν (sI ν 0 3 (nI (s + 1))) := FrRm.put (by omega)
  have f2 : FrC ν (sI (sI ν 0 3 (nI (s + 1))) 0 10 (nI 1)) := f1.c.trans (FrC.flag (by decide))
  refine M_two_a (o := 0) hT (tx.c f2) ((RdM.put hs).fr (sI_ne2 (by decide)) (sI_ne2 (by decide))) (by decide) (by decide) (by decide) (by decide) (by decide) (by decide) (by decide) (fun i' ν' f q r => ?_) (fun e ν' f q r => h2 e ν' (f2.trans f) q r)
  refine h1 i' ν' (f2.trans (((FrC.put (by decide)).trans (FrC.put (by decide))).trans f.c)) q r ?_
  obtain ⟨a, ⟨b0, b1, b2, b3, b4⟩, c, d⟩ := hd
  unfold DrM cU
  refine ⟨?_, ?_, fun v hv => ?_, ?_⟩
  · simp (disch := omega) only [z_le, z_lt, z_eq, z_lt0, z_0le, z_eq0, z_le0, z_0lt, z_cl, z_in, z_add, z_mul, z_m1ne, z_m1ne', z_m1lt0, z_m1lt, z_ltm1, forall_eq, true_implies, false_implies, implies_true, true_and, and_true, false_and, and_false, not_true_eq_false, not_false_eq_true, ite_true, ite_false, sI_same, sI_ne1, sI_ne2, sA_same, sA_ne, sI_2, sA_2, sL_1, sR_1, up2_s, up2_c, up2_r, f.2.1]; exact a
  · simp (disch := omega) only [z_le, z_lt, z_eq, z_lt0, z_0le, z_eq0, z_le0, z_0lt, z_cl, z_in, z_add, z_mul, z_m1ne, z_m1ne', z_m1lt0, z_m1lt, z_ltm1, forall_eq, true_implies, false_implies, implies_true, true_and, and_true, false_and, and_false, not_true_eq_false, not_false_eq_true, ite_true, ite_false, sI_same, sI_ne1, sI_ne2, sA_same, sA_ne, sI_2, sA_2, sL_1, sR_1, up2_s, up2_c, up2_r, f.2.2]; exact ⟨b0, b1, b2, b3⟩
  · have := c v hv
    rcases (by omega : v = 0 ∨ v = 1) with rfl | rfl
    · simp (disch := omega) only [z_le, z_lt, z_eq, z_lt0, z_0le, z_eq0, z_le0, z_0lt, z_cl, z_in, z_add, z_mul, z_m1ne, z_m1ne', z_m1lt0, z_m1lt, z_ltm1, forall_eq, true_implies, false_implies, implies_true, true_and, and_true, false_and, and_false, not_true_eq_false, not_false_eq_true, ite_true, ite_false, sI_same, sI_ne1, sI_ne2, sA_same, sA_ne, sI_2, sA_2, sL_1, sR_1, up2_s, up2_c, up2_r, f.2.1]; exact this.1
    · simp (disch := omega) only [z_le, z_lt, z_eq, z_lt0, z_0le, z_eq0, z_le0, z_0lt, z_cl, z_in, z_add, z_mul, z_m1ne, z_m1ne', z_m1lt0, z_m1lt, z_ltm1, forall_eq, true_implies, false_implies, implies_true, true_and, and_true, false_and, and_false, not_true_eq_false, not_false_eq_true, ite_true, ite_false, sI_same, sI_ne1, sI_ne2, sA_same, sA_ne, sI_2, sA_2, sL_1, sR_1, up2_s, up2_c, up2_r, f.2.1]; exact this.1
  · simp (disch := omega) only [z_le, z_lt, z_eq, z_lt0, z_0le, z_eq0, z_le0, z_0lt, z_cl, z_in, z_add, z_mul, z_m1ne, z_m1ne', z_m1lt0, z_m1lt, z_ltm1, forall_eq, true_implies, false_implies, implies_true, true_and, and_true, false_and, and_false, not_true_eq_false, not_false_eq_true, ite_true, ite_false, sI_same, sI_ne1, sI_ne2, sA_same, sA_ne, sI_2, sA_2, sL_1, sR_1, up2_s, up2_c, up2_r, f.2.1]; exact d
theorem M_readsHour (hT : vTx T) (tx : TxM ν T) (hd : DrM ν co) (hn : co 0 2 < 12) (hs : s < T.1) (rd : RdM ν T (.inr s))
    (h1 : ∀ (i' : Nat) (ν' : Mem), FrC ν ν' → twoP T 0 1 0 40 (s + 1) = .inr i' → RdM ν' T (.inr i') → DrM ν' (cH T co (s + 1)) → Q (nI 1) ν')
    (h2 : ∀ (e : Nat × Nat) (ν' : Mem), FrC ν ν' → twoP T 0 1 0 40 (s + 1) = .inl e → RdM ν' T (.inl e) → Q (nI 0) ν') : w_X7_readsHour ν Q := by
  unfold w_X7_readsHour
  have e6 := hd.2.1.2.1
  rw [e6, z_eq (by omega) (by decide)]
  refine ⟨fun _ => ?_, fun z => by omega⟩
  intro μ1 e1
  rw [rd.1, z_add] at e1
  subst e1
  have f1 : FrRm ν (sI ν 0 3 (nI (s + 1))) := FrRm.put (by omega)
  rw [sI_ne2 (by decide), e6, z_mul]
  have hl : sM.2.2 5 = 24 := by decide
  refine M_two_b (k := 6) (n := co 0 2) (by decide) (by rw [sI_ne2 (by decide)]; exact e6) hT (tx.rd f1) (RdM.put hs) (by decide) (by omega) (by decide) (by decide) (by decide) (by decide) (by decide) (fun i' ν' f q r => ?_) (fun e ν' f q r => h2 e ν' (f1.c.trans f) q r)
  refine h1 i' ν' (f1.c.trans (((FrC.put (by decide)).trans ((FrC.put (by decide)).trans (FrC.flag (by decide)))).trans f.c)) q r ?_
  obtain ⟨a, ⟨b0, b1, b2, b3, b4⟩, c, d, d1⟩ := hd
  unfold DrM cH
  refine ⟨?_, ?_, ?_, fun h hh => ?_, ?_⟩
  · simp (disch := omega) only [z_le, z_lt, z_eq, z_lt0, z_0le, z_eq0, z_le0, z_0lt, z_cl, z_in, z_add, z_mul, z_m1ne, z_m1ne', z_m1lt0, z_m1lt, z_ltm1, forall_eq, true_implies, false_implies, implies_true, true_and, and_true, false_and, and_false, not_true_eq_false, not_false_eq_true, ite_true, ite_false, sI_same, sI_ne1, sI_ne2, sA_same, sA_ne, sI_2, sA_2, sL_1, sR_1, up2_s, up2_c, up2_r, f.2.1]; exact a
  · simp (disch := omega) only [z_le, z_lt, z_eq, z_lt0, z_0le, z_eq0, z_le0, z_0lt, z_cl, z_in, z_add, z_mul, z_m1ne, z_m1ne', z_m1lt0, z_m1lt, z_ltm1, forall_eq, true_implies, false_implies, implies_true, true_and, and_true, false_and, and_false, not_true_eq_false, not_false_eq_true, ite_true, ite_false, sI_same, sI_ne1, sI_ne2, sA_same, sA_ne, sI_2, sA_2, sL_1, sR_1, up2_s, up2_c, up2_r, f.2.2]; exact ⟨b0, b2, b3, b4⟩
  · simp (disch := omega) only [z_le, z_lt, z_eq, z_lt0, z_0le, z_eq0, z_le0, z_0lt, z_cl, z_in, z_add, z_mul, z_m1ne, z_m1ne', z_m1lt0, z_m1lt, z_ltm1, forall_eq, true_implies, false_implies, implies_true, true_and, and_true, false_and, and_false, not_true_eq_false, not_false_eq_true, ite_true, ite_false, sI_same, sI_ne1, sI_ne2, sA_same, sA_ne, sI_2, sA_2, sL_1, sR_1, up2_s, up2_c, up2_r, f.2.1]; exact c
  · rw [up2_s] at hh
    by_cases y : h = co 0 2
    · subst y; simp (disch := omega) only [z_le, z_lt, z_eq, z_lt0, z_0le, z_eq0, z_le0, z_0lt, z_cl, z_in, z_add, z_mul, z_m1ne, z_m1ne', z_m1lt0, z_m1lt, z_ltm1, forall_eq, true_implies, false_implies, implies_true, true_and, and_true, false_and, and_false, not_true_eq_false, not_false_eq_true, ite_true, ite_false, sI_same, sI_ne1, sI_ne2, sA_same, sA_ne, sI_2, sA_2, sL_1, sR_1, up2_s, up2_c, up2_r, f.2.1]
    · simp (disch := omega) only [z_le, z_lt, z_eq, z_lt0, z_0le, z_eq0, z_le0, z_0lt, z_cl, z_in, z_add, z_mul, z_m1ne, z_m1ne', z_m1lt0, z_m1lt, z_ltm1, forall_eq, true_implies, false_implies, implies_true, true_and, and_true, false_and, and_false, not_true_eq_false, not_false_eq_true, ite_true, ite_false, sI_same, sI_ne1, sI_ne2, sA_same, sA_ne, sI_2, sA_2, sL_1, sR_1, up2_s, up2_c, up2_r, f.2.1]; exact d h (by omega)
  · simp (disch := omega) only [z_le, z_lt, z_eq, z_lt0, z_0le, z_eq0, z_le0, z_0lt, z_cl, z_in, z_add, z_mul, z_m1ne, z_m1ne', z_m1lt0, z_m1lt, z_ltm1, forall_eq, true_implies, false_implies, implies_true, true_and, and_true, false_and, and_false, not_true_eq_false, not_false_eq_true, ite_true, ite_false, sI_same, sI_ne1, sI_ne2, sA_same, sA_ne, sI_2, sA_2, sL_1, sR_1, up2_s, up2_c, up2_r, f.2.1]; exact d1
theorem M_readsGoat (hT : vTx T) (tx : TxM ν T) (hd : DrM ν co) (hc : 1 ≤ co 0 0 ∧ co 0 0 ≤ 12) (hn : co 0 4 < 4) (hs : s < T.1) (rd : RdM ν T (.inr s))
    (h1 : ∀ (i' : Nat) (ν' : Mem), FrC ν ν' → twoP T 0 (co 0 0 - 1) 1 20 (s + 1) = .inr i' → RdM ν' T (.inr i') → DrM ν' (cG T co (s + 1)) → Q (nI 1) ν')
    (h2 : ∀ (e : Nat × Nat) (ν' : Mem), FrC ν ν' → twoP T 0 (co 0 0 - 1) 1 20 (s + 1) = .inl e → RdM ν' T (.inl e) → Q (nI 0) ν') : w_X7_readsGoat ν Q := by
  unfold w_X7_readsGoat
  have e6 := hd.2.1.2.2.1
  rw [e6, z_eq (by omega) (by decide)]
  refine ⟨fun _ => ?_, fun z => by omega⟩
  intro μ1 e1
  rw [rd.1, z_add] at e1
  subst e1
  have f1 : FrRm ν (sI ν 0 3 (nI (s + 1))) := FrRm.put (by omega)
  refine ⟨vp_in_nI (by decide) (by decide), ?_⟩
  rw [sI_ne2 (by decide), e6, z_mul, z_cl (by decide), sI_ne1 (by decide), (hd.1 (by omega)).1, z_sub hc.1]
  have hl : sM.2.2 7 = 8 := by decide
  refine M_two_b (k := 7) (n := co 0 4) (by decide) (by rw [sI_ne2 (by decide)]; exact e6) hT (tx.rd f1) (RdM.put hs) (by decide) (by omega) (by decide) (by decide) (by omega) (by decide) (by decide) (fun i' ν' f q r => ?_) (fun e ν' f q r => h2 e ν' (f1.c.trans f) q r)
  refine h1 i' ν' (f1.c.trans (((FrC.put (by decide)).trans ((FrC.put (by decide)).trans (FrC.flag (by decide)))).trans f.c)) q r ?_
  obtain ⟨a, ⟨b0, b1, b2, b3, b4⟩, c, d, d1, d2⟩ := hd
  unfold DrM cG
  refine ⟨?_, ?_, ?_, ?_, ?_, fun h hh => ?_⟩
  · simp (disch := omega) only [z_le, z_lt, z_eq, z_lt0, z_0le, z_eq0, z_le0, z_0lt, z_cl, z_in, z_add, z_mul, z_m1ne, z_m1ne', z_m1lt0, z_m1lt, z_ltm1, forall_eq, true_implies, false_implies, implies_true, true_and, and_true, false_and, and_false, not_true_eq_false, not_false_eq_true, ite_true, ite_false, sI_same, sI_ne1, sI_ne2, sA_same, sA_ne, sI_2, sA_2, sL_1, sR_1, up2_s, up2_c, up2_r, f.2.1]; exact a
  · simp (disch := omega) only [z_le, z_lt, z_eq, z_lt0, z_0le, z_eq0, z_le0, z_0lt, z_cl, z_in, z_add, z_mul, z_m1ne, z_m1ne', z_m1lt0, z_m1lt, z_ltm1, forall_eq, true_implies, false_implies, implies_true, true_and, and_true, false_and, and_false, not_true_eq_false, not_false_eq_true, ite_true, ite_false, sI_same, sI_ne1, sI_ne2, sA_same, sA_ne, sI_2, sA_2, sL_1, sR_1, up2_s, up2_c, up2_r, f.2.2]; exact ⟨b0, b1, b3, b4⟩
  · simp (disch := omega) only [z_le, z_lt, z_eq, z_lt0, z_0le, z_eq0, z_le0, z_0lt, z_cl, z_in, z_add, z_mul, z_m1ne, z_m1ne', z_m1lt0, z_m1lt, z_ltm1, forall_eq, true_implies, false_implies, implies_true, true_and, and_true, false_and, and_false, not_true_eq_false, not_false_eq_true, ite_true, ite_false, sI_same, sI_ne1, sI_ne2, sA_same, sA_ne, sI_2, sA_2, sL_1, sR_1, up2_s, up2_c, up2_r, f.2.1]; exact c
  · simp (disch := omega) only [z_le, z_lt, z_eq, z_lt0, z_0le, z_eq0, z_le0, z_0lt, z_cl, z_in, z_add, z_mul, z_m1ne, z_m1ne', z_m1lt0, z_m1lt, z_ltm1, forall_eq, true_implies, false_implies, implies_true, true_and, and_true, false_and, and_false, not_true_eq_false, not_false_eq_true, ite_true, ite_false, sI_same, sI_ne1, sI_ne2, sA_same, sA_ne, sI_2, sA_2, sL_1, sR_1, up2_s, up2_c, up2_r, f.2.1]; exact d
  · simp (disch := omega) only [z_le, z_lt, z_eq, z_lt0, z_0le, z_eq0, z_le0, z_0lt, z_cl, z_in, z_add, z_mul, z_m1ne, z_m1ne', z_m1lt0, z_m1lt, z_ltm1, forall_eq, true_implies, false_implies, implies_true, true_and, and_true, false_and, and_false, not_true_eq_false, not_false_eq_true, ite_true, ite_false, sI_same, sI_ne1, sI_ne2, sA_same, sA_ne, sI_2, sA_2, sL_1, sR_1, up2_s, up2_c, up2_r, f.2.1]; exact d1
  · rw [up2_s] at hh
    by_cases y : h = co 0 4
    · subst y; simp (disch := omega) only [z_le, z_lt, z_eq, z_lt0, z_0le, z_eq0, z_le0, z_0lt, z_cl, z_in, z_add, z_mul, z_m1ne, z_m1ne', z_m1lt0, z_m1lt, z_ltm1, forall_eq, true_implies, false_implies, implies_true, true_and, and_true, false_and, and_false, not_true_eq_false, not_false_eq_true, ite_true, ite_false, sI_same, sI_ne1, sI_ne2, sA_same, sA_ne, sI_2, sA_2, sL_1, sR_1, up2_s, up2_c, up2_r, f.2.1]
    · simp (disch := omega) only [z_le, z_lt, z_eq, z_lt0, z_0le, z_eq0, z_le0, z_0lt, z_cl, z_in, z_add, z_mul, z_m1ne, z_m1ne', z_m1lt0, z_m1lt, z_ltm1, forall_eq, true_implies, false_implies, implies_true, true_and, and_true, false_and, and_false, not_true_eq_false, not_false_eq_true, ite_true, ite_false, sI_same, sI_ne1, sI_ne2, sA_same, sA_ne, sI_2, sA_2, sL_1, sR_1, up2_s, up2_c, up2_r, f.2.1]; exact d2 h (by omega)
theorem M_isTaken {f : Nat → Nat} {n c : Nat} {Q : Int32 → Prop} (hn : n ≤ 6) (e5 : ν.1 0 5 = nI n) (h6 : ∀ p, p < n → ν.1 6 (4 * p) = nI (f p)) (hf : ∀ p, p < n → f p < 1000) (hc : c < 1000) (h : Q (nI (if pin f c n = none then 0 else 1))) : w_X7_isTaken (nI c) ν Q := by
  unfold w_X7_isTaken w_X7_isTaken_4
  intro X hX
  refine cnt_dn (P := fun k => k ≤ n → ∀ x, x = nI (if pin f c k = none then 0 else 1) → X x (nI k)) n ?_ ?_ (by omega) (nI 0) rfl
  · intro _ x ex
    apply hX
    unfold s_X7_isTaken_4
    subst ex
    rw [e5, z_le (by omega) (by omega)]
    refine ⟨fun _ => ⟨?_, h⟩, fun z => absurd (Nat.le_refl _) z⟩
    split
    · exact Or.inl rfl
    · exact Or.inr rfl
  · intro k hk ih _ x ex
    apply hX
    unfold s_X7_isTaken_4 w_X7_isTaken_28 w_X7_isTaken_33
    have h6k := h6 k hk
    have hfk := hf k hk
    rw [e5, z_le (by omega) (by omega)]
    refine ⟨fun z => by omega, fun _ => ⟨fun z => ?_, fun z => ⟨?_, fun y => ?_, fun y => ?_⟩⟩⟩
    · intro x1 e1
      rw [z_add] at e1
      subst e1
      refine ih (by omega) _ ?_
      have : pin f c k ≠ none := by
        intro w
        rw [if_pos w] at ex
        exact z ex
      rw [if_neg]
      show (if f k = c then some k else pin f c k) ≠ none
      split
      · exact fun w => by cases w
      · exact this
    · rw [z_mul]; exact vp_in_nI (by omega) (by decide)
    · rw [z_mul, z_cl (by omega), h6k, z_eq (by omega) (by omega)] at y
      intro x1 e1
      rw [z_add] at e1
      subst e1
      refine ih (by omega) _ ?_
      have : pin f c k = none := by
        by_cases w : pin f c k = none
        · exact w
        · rw [if_neg w] at ex; rw [ex] at z; exact absurd z (by decide)
      rw [if_pos]
      show (if f k = c then some k else pin f c k) = none
      rw [if_neg y]; exact this
    · rw [z_mul, z_cl (by omega), h6k, z_eq (by omega) (by omega)] at y
      intro x1 e1
      rw [z_add] at e1
      subst e1
      refine ih (by omega) _ ?_
      rw [if_neg]
      show (if f k = c then some k else pin f c k) ≠ none
      rw [if_pos y]
      exact fun w => by cases w
end MCLAU
