/-! ===== draws; undone ===== -/
def nxS (s : Nat) : Nat := (s * 1103515245 + 12345) % 2147483648
def drV (s n : Nat) : Nat := s / 65536 % n
theorem sL_same {μ : Mem} {j : Nat} {v : Int64} : (sL μ j v).2.1 j = v := by simp [sL, vp_updL]
theorem sL_ne {μ : Mem} {j k : Nat} {v : Int64} (h : k ≠ j) : (sL μ j v).2.1 k = μ.2.1 k := by simp [sL, vp_updL, h]
theorem nxS_lt (s : Nat) : nxS s < 2147483648 := Nat.mod_lt _ (by decide)
theorem drV_lt {s n : Nat} (h : 0 < n) : drV s n < n := Nat.mod_lt _ h
theorem l_nat {n : Nat} (h : n < 9223372036854775808) : (lN n).toBitVec.toNat = n := by
  show (BitVec.ofNat 64 n).toNat = n
  rw [BitVec.toNat_ofNat]
  exact Nat.mod_eq_of_lt (by omega)
theorem l_and {a b : Nat} (ha : a < 9223372036854775808) (hb : b < 9223372036854775808) : lN a &&& lN b = lN (a &&& b) := by
  apply Int64.toBitVec_inj.mp
  apply BitVec.eq_of_toNat_eq
  rw [Int64.toBitVec_and, BitVec.toNat_and, l_nat ha, l_nat hb, l_nat]
  exact Nat.lt_of_le_of_lt Nat.and_le_left ha
theorem l_mask {a : Nat} (ha : a < 9223372036854775808) : lN a &&& lN 2147483647 = lN (a % 2147483648) := by
  rw [l_and ha (by decide)]
  have := Nat.and_two_pow_sub_one_eq_mod a 31
  exact congrArg lN this
theorem l_mul2 {s : Nat} (h : s < 2147483648) : s * 1103515245 + 12345 < 9223372036854775808 := by
  have : s * 1103515245 ≤ 2147483647 * 1103515245 := Nat.mul_le_mul_right _ (by omega)
  omega
theorem RF.seed {μ : Mem} {co : Co} {r : Ro} {U : Un} {T : Tx} {fp : Int32} {sd s2 : Nat} {I : Im} {G K : Gt} (h : RF μ co r U T fp sd I G K) : RF (sI μ 0 10 (nI s2)) co r U T fp s2 I G K := by
  obtain ⟨a1, a2, a3, a4, a5, a6, a7, a8, a9, a10, a11⟩ := h
  have hd := co_far a1.2.1
  have hf : ∀ k, k ≠ 0 → (sI μ 0 10 (nI s2)).1 k = μ.1 k := fun k hk => sI_r hk
  refine ⟨a1, a2.fr a1.1 (fun k _ _ => hf k (by omega)), ?_, a4.fr (fun k _ _ => hf k (by omega)), a5.fr (fun k _ _ => hf k (by omega)), a6.fr (fun k _ _ => hf k (by omega)), ?_, sI_same, a9.fr (fun k _ _ => hf k (by omega)), a10.fr (fun k _ _ => hf k (by omega)), a11.fr (fun k _ _ => hf k (by omega))⟩
  · show ∀ p, p < 6 → ∃ z, z < 1000 ∧ (sI μ 0 10 (nI s2)).1 (μ.2.2 1 + 5) p = nI z
    rw [hf (μ.2.2 1 + 5) (by omega)]; exact a3
  · rw [hf 1 (by omega)]; exact a7
theorem F_draw {μ : Mem} {s n : Nat} {Q : Int32 → Mem → Prop} (e : μ.1 0 10 = nI s) (hs : s < 2147483648) (h0 : 0 < n) (hn : n < 2147483648) (h : Q (nI (drV (nxS s) n)) (sI μ 0 10 (nI (nxS s)))) : w_X6_draw (nI n) μ Q := by
  have hm := l_mul2 hs
  have hx := nxS_lt s
  have hd : nxS s / 65536 < 2147483648 := by omega
  unfold w_X6_draw
  intro μ1 e1
  rw [e, nI_l hs, lN_mul, lN_add, l_mask hm, lN_i] at e1
  have e2 : μ1 = sI μ 0 10 (nI (nxS s)) := e1
  subst e2
  rw [sI_same, z_div (by omega) (by decide) (by decide), z_rem hd h0 hn]
  simp (disch := omega) only [z_le, z_lt, z_eq, z_lt0, z_0le, z_eq0, z_le0, z_0lt, z_cl, z_in, z_add, z_mul, z_m1ne, z_m1ne', z_m1lt0, z_m1lt, z_ltm1, forall_eq, true_implies, false_implies, implies_true, true_and, and_true, false_and, and_false, not_true_eq_false, not_false_eq_true, ite_true, ite_false]
  refine ⟨fun q => absurd q (by omega), fun _ => ⟨by omega, by omega, h⟩⟩
def lickD (co : Co) (r : Ro) (s : Nat) : Ro × Nat :=
  if co 0 3 = 0 then (r, s) else if drV (nxS s) 8 = 0 then (upN r (9 + drV (nxS (nxS s)) (co 0 3)) (r (9 + drV (nxS (nxS s)) (co 0 3)) - drV (nxS (nxS (nxS s))) 10), nxS (nxS (nxS s))) else (r, nxS s)
def drift1 (co : Co) (r : Ro) (s : Nat) : Ro × Nat := lickD co (pasR co r (drV (nxS s) 41) (drV (nxS (nxS s)) 2) false) (nxS (nxS s))
def driftN (co : Co) (r : Ro) (U : Un) (s : Nat) : Nat → Nat × (Ro × Nat) × Un
  | 0 => (0, (r, s), U)
  | i + 1 => ((driftN co r U s i).1 + sumN (pasT co (driftN co r U s i).2.1.1 (drV (nxS (driftN co r U s i).2.1.2) 41) (drV (nxS (nxS (driftN co r U s i).2.1.2)) 2)) (co 0 3), drift1 co (driftN co r U s i).2.1.1 (driftN co r U s i).2.1.2, remU (driftN co r U s i).2.2 (driftN co r U s i).2.1.1)
theorem lickD_v {co : Co} {r : Ro} {s B : Nat} (hv : vCo co) (hr : vRo co r B) (hs : s < 2147483648) : vRo co (lickD co r s).1 B ∧ (lickD co r s).2 < 2147483648 := by
  have hn := hv.2.2.2.1
  unfold lickD
  split
  · exact ⟨hr, hs⟩
  · next h0 =>
    split
    · have hp : drV (nxS (nxS s)) (co 0 3) < co 0 3 := drV_lt (by omega)
      have := (hr.2.2.2.2.2.2.2.2.2.1 _ hp).1
      exact ⟨vRo_jar hr hn hp (by omega), nxS_lt _⟩
    · exact ⟨hr, nxS_lt _⟩
theorem driftN_v {co : Co} {r : Ro} {U : Un} {s B : Nat} (hv : vCo co) (hr : vRo co r B) (hs : s < 2147483648) : ∀ i, vRo co (driftN co r U s i).2.1.1 (B + i) ∧ (driftN co r U s i).2.1.2 < 2147483648 := by
  intro i
  induction i with
  | zero => exact ⟨hr, hs⟩
  | succ i ih => exact lickD_v hv (vRo_pas hv ih.1) (nxS_lt _)
theorem driftN_U {co : Co} {r : Ro} {U : Un} {s B : Nat} (hv : vCo co) (hr : vRo co r B) (hs : s < 2147483648) (hU : U.1 ≤ 30) (hUv : ∀ i, i < U.1 → vRo co (U.2 i) 9060) : ∀ i, B + i ≤ 9060 → (driftN co r U s i).2.2.1 ≤ 30 ∧ ∀ k, k < (driftN co r U s i).2.2.1 → vRo co ((driftN co r U s i).2.2.2 k) 9060 := by
  intro i
  induction i with
  | zero => intro _; exact ⟨hU, hUv⟩
  | succ i ih =>
    intro hB
    obtain ⟨h1, h2⟩ := ih (by omega)
    exact ⟨remU_le h1, remU_v h1 h2 (vRo_mono (driftN_v hv hr hs i).1 (by omega))⟩
theorem F_lickBy {μ : Mem} {co : Co} {r : Ro} {U : Un} {T : Tx} {fp : Int32} {sd B : Nat} {I : Im} {G K : Gt} {Q : Mem → Prop} (hv : vCo co) (hr : vRo co r B) (hs : sd < 2147483648) (hF : RF μ co r U T fp sd I G K)
    (h : ∀ μ' : Mem, RF μ' co (lickD co r sd).1 U T fp (lickD co r sd).2 I G K → Q μ') : w_X6_lickByDraws μ Q := by
  have hn := hv.2.2.2.1
  have hnx := nxS_lt
  unfold w_X6_lickByDraws
  rw [hF.2.1.1.2.2.2.1]
  unfold lickD at h
  by_cases h0 : co 0 3 = 0
  · rw [if_pos h0] at h
    exact ⟨fun _ => h μ hF, fun z => absurd (by rw [h0]; rfl) z⟩
  · rw [if_neg h0] at h
    refine ⟨fun z => absurd ((z_eq0 (by omega)).mp z) h0, fun _ => ?_⟩
    refine F_draw hF.2.2.2.2.2.2.2.1 hs (by decide) (by decide) ?_
    have f1 := hF.seed (s2 := nxS sd)
    have hd8 : drV (nxS sd) 8 < 8 := drV_lt (by decide)
    rw [z_eq0 (by omega)]
    refine ⟨fun q => ?_, fun q => ?_⟩
    · rw [if_pos q] at h
      rw [f1.2.1.1.2.2.2.1]
      refine F_draw f1.2.2.2.2.2.2.2.1 (hnx _) (by omega) (by omega) ?_
      have f2 := f1.seed (s2 := nxS (nxS sd))
      refine F_draw f2.2.2.2.2.2.2.2.1 (hnx _) (by decide) (by decide) ?_
      have f3 := f2.seed (s2 := nxS (nxS (nxS sd)))
      have hp : drV (nxS (nxS sd)) (co 0 3) < co 0 3 := drV_lt (by omega)
      have hd10 : drV (nxS (nxS (nxS sd))) 10 < 10 := drV_lt (by decide)
      have hj := (hr.2.2.2.2.2.2.2.2.2.1 _ hp).1
      have hsz := (hv.2.2.2.2.2.2.2.2.1 _ hp).2.1
      refine F_lose st_25 (by omega) (f3.2.2.2.1.2.1 _ hp).2.2 (by omega) (by omega) ?_
      exact h _ (f3.now ((FrS.rf (b := 25)).sI (by omega)).P (f3.2.2.2.1.updJ hp hn))
    · rw [if_neg q] at h
      exact h _ f1
