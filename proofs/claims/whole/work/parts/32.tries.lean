/-! ===== undone; hours that are tried ===== -/
theorem PaF.back {μ μ1 : Mem} {n k : Nat} {U : Un} (h : PaF μ n U) (hk : k ≤ U.1) (e1 : μ1.1 41 1 = μ.1 41 1) (e2 : μ1.1 41 2 = nI (U.1 - k)) (hf : ∀ c, 43 ≤ c → c < 223 → μ1.1 c = μ.1 c) : PaF μ1 n (U.1 - k, U.2) := by
  obtain ⟨o, ho, h1, h2, h3⟩ := h
  have hm : ∀ x, x % 30 < 30 := fun x => Nat.mod_lt _ (by decide)
  refine ⟨o, ho, by rw [e1]; exact h1, e2, fun i hi => (h3 i (by have : i < U.1 - k := hi; omega)).fr (fun c h4 h5 => hf c (by omega) ?_)⟩
  have := hm (o + i); omega
theorem P_undo {μ ν : Mem} {a : Int32} (h : Rel μ ν) : w_X6_undo a μ (fun x μ' => w_X7_undo a ν (fun y ν' => x = y ∧ Rel μ' ν')) := by
  obtain ⟨co, r, U, T, fp, sd, I, G, K, hA, hF, hM⟩ := h
  have hv := hA.1
  have hn := hv.2.2.2.1
  have hU := hA.2.2.1.1
  have hm : ∀ x, x % 30 < 30 := fun x => Nat.mod_lt _ (by decide)
  unfold w_X6_undo w_X7_undo
  obtain ⟨o, ho, e1, e2, hi⟩ := hF.2.2.2.2.1
  obtain ⟨u, hu, d1, d2, hj⟩ := hM.2.2.1
  rcases z_cases a 1 30 (by decide) (by decide) with ⟨k, h1, h2, rfl⟩ | ho'
  · refine W_in h1 h2 (by decide) ⟨fun _ => ?_, fun z => absurd z (by decide)⟩
    rw [e2, z_le (by omega) (by omega)]
    refine ⟨fun q => ?_, fun q => ?_⟩
    · unfold w_X2_takeBack
      rw [e2, z_sub q]
      refine F_stateAt ho e1 (by omega) ⟨fun z => (by cases z), fun b3 hb3 => ?_⟩
      cases hb3
      have hst := st_ring ((o + (U.1 - k)) % 30) (hm _)
      have hv9 := hA.2.2.1.2 (U.1 - k) (by omega)
      refine ⟨hst, F_become st_25 hst (by omega) (hi (U.1 - k) (by omega)) hn hv9.2.2.1 (fun μ2 f2 s2 => ?_)⟩
      intro μ3 e3
      rw [f2.2 41 (by omega), e2, z_sub q] at e3
      subst e3
      have f3 := hF.now f2.P s2
      have f4 := f3.past (U1 := (U.1 - k, U.2)) (μ1 := sI μ2 41 2 (nI (U.1 - k))) ⟨rfl, fun c hc => sI_r (by omega)⟩ (f3.2.2.2.2.1.back q (sI_ne2 (by decide)) sI_same (fun c h4 h5 => sI_r (by omega)))
      have fd : (sI μ2 41 2 (nI (U.1 - k))).1 25 0 = nI (U.2 (U.1 - k) 0) := f4.2.2.2.1.1.1
      refine MW_in h1 h2 (by decide) ⟨fun _ => ?_, fun z => absurd z (by decide)⟩
      rw [d1, d2, z_le (by omega) (by omega)]
      refine ⟨fun _ => ⟨by decide, fun x3 hx3 => ?_⟩, fun z => absurd q z⟩
      have hx4 : x3 = nI ((u + 30 - k) % 30) := by rw [hx3, z_add, z_sub (by omega), z_rem (by omega) (by decide) (by decide)]
      subst hx4
      intro ν4 g4 ν5 g5
      rw [g4, sI_ne2 (by decide), d2, z_sub q, ← g4] at g5
      have m1 : RM ν5 co r (U.1 - k, U.2) T fp sd I G K := by
        refine hM.past ⟨by rw [g5, g4]; rfl, fun c c1 c2 => ?_, fun j j1 j2 => ?_⟩ ⟨(u + 30 - k) % 30, hm _, ?_, ?_, fun i hi2 => ?_⟩
        · rw [g5, g4, sI_r c2, sI_r c2]
        · rw [g5, g4, sI_ne2 j1, sI_ne2 j2]
        · rw [g5, g4, sI_ne2 (by decide), sI_same]
        · rw [g5, sI_same]
        · have hi3 : i < U.1 - k := hi2
          have := hj i (by omega)
          unfold StM at this ⊢
          have e0 : ν5.1 17 = ν.1 17 := by rw [g5, g4, sI_r (by decide), sI_r (by decide)]
          rw [e0, show ((u + 30 - k) % 30 + 30 - (U.1 - k) + i) % 30 = (u + 30 - U.1 + i) % 30 by omega]
          exact this
      have c33 : ν5.1 0 33 = nI ((u + 30 - k) % 30) := by rw [g5, g4, sI_ne2 (by decide), sI_same]
      have hrow := hj (U.1 - k) (by omega)
      rw [show (u + 30 - U.1 + (U.1 - k)) % 30 = (u + 30 - k) % 30 by omega] at hrow
      have c17 : ν5.1 17 = ν.1 17 := by rw [g5, g4, sI_r (by decide), sI_r (by decide)]
      have h30 := hm (u + 30 - k)
      unfold w_X7_undo_52
      intro X hX
      refine cnt_dn (P := fun j => j ≤ 27 → ∀ ν6 : Mem, FrB 14 ν5 ν6 → (∀ i, i < j → ν6.1 14 i = nI (U.2 (U.1 - k) i)) → X (nI j) ν6) 27 ?_ ?_ (by decide) ν5 FrB.rf (fun i hi => by omega)
      · intro _ ν6 f6 s6
        apply hX
        unfold s_X7_undo_52
        simp (disch := omega) only [z_le, z_lt, z_eq, z_lt0, z_0le, z_eq0, z_le0, z_0lt, z_cl, z_in, z_add, z_mul, z_m1ne, z_m1ne', z_m1lt0, z_m1lt, z_ltm1, forall_eq, true_implies, false_implies, implies_true, true_and, and_true, false_and, and_false, not_true_eq_false, not_false_eq_true, ite_true, ite_false]
        refine ⟨fun _ => ⟨by decide, ?_⟩, fun q => absurd (Nat.le_refl _) q⟩
        have e0 := s6 0 (by decide)
        rw [fd, e0]
        exact ⟨rfl, co, U.2 (U.1 - k), (U.1 - k, U.2), T, fp, sd, I, G, K, ⟨hv, hv9, ⟨by show U.1 - k ≤ 30; omega, fun i hi2 => hA.2.2.1.2 i (by have : i < U.1 - k := hi2; omega)⟩, hA.2.2.2⟩, f4, m1.now f6.M s6⟩
      · intro j hj2 ih _ ν6 f6 s6
        apply hX
        unfold s_X7_undo_52
        have e33 : ν6.1 0 33 = nI ((u + 30 - k) % 30) := by rw [f6.2 0 (by decide), c33]
        have e17 : ν6.1 17 (27 * ((u + 30 - k) % 30) + j) = nI (U.2 (U.1 - k) j) := by rw [f6.2 17 (by decide), c17]; exact hrow j hj2
        simp (disch := omega) only [z_le, z_lt, z_eq, z_lt0, z_0le, z_eq0, z_le0, z_0lt, z_cl, z_in, z_add, z_mul, z_m1ne, z_m1ne', z_m1lt0, z_m1lt, z_ltm1, forall_eq, true_implies, false_implies, implies_true, true_and, and_true, false_and, and_false, not_true_eq_false, not_false_eq_true, ite_true, ite_false, e33, e17]
        refine ⟨fun q => absurd q (by omega), fun _ => ⟨by omega, hj2, ?_⟩⟩
        refine ih (by omega) _ f6.sI (fun i hi3 => ?_)
        rw [sI_get]
        by_cases e : i = j
        · rw [if_pos ⟨rfl, e⟩, e]
        · rw [if_neg (fun z => e z.2)]; exact s6 i (by omega)
    · refine MW_in h1 h2 (by decide) ⟨fun _ => ?_, fun z => absurd z (by decide)⟩
      rw [d2, z_le (by omega) (by omega)]
      exact ⟨fun z => absurd z q, fun _ => (by first | exact done (hA) (hF) (hM) | exact (done (x := 0) (hA) (hF) (hM)).2)⟩
  · refine F_within0 ho' ⟨fun z => absurd (by decide) z, fun _ => ?_⟩
    exact MW_out ho' ⟨fun z => absurd (by decide) z, fun _ => done hA hF hM⟩
/-! hours on a state that is tried -/
def tryN (co : Co) (r : Ro) : Nat → Nat × Ro × (Nat → Nat)
  | 0 => (0, r, fun _ => 0)
  | i + 1 => ((tryN co r i).1 + sumN (pasT co (tryN co r i).2.1 (co 2 ((tryN co r i).2.1 1)) (co 1 ((tryN co r i).2.1 1))) (co 0 3), pasR co (tryN co r i).2.1 (co 2 ((tryN co r i).2.1 1)) (co 1 ((tryN co r i).2.1 1)) false,
      fun p => (tryN co r i).2.2 p + pasT co (tryN co r i).2.1 (co 2 ((tryN co r i).2.1 1)) (co 1 ((tryN co r i).2.1 1)) p)
theorem tryN_v {co : Co} {r : Ro} {B : Nat} (hv : vCo co) (hr : vRo co r B) : ∀ i, vRo co (tryN co r i).2.1 (B + i) := by
  intro i
  induction i with
  | zero => exact hr
  | succ i ih => exact vRo_pas hv ih
theorem pasT_le {co : Co} {r : Ro} {B H fog side p : Nat} (hr : vRH co r B H) (hf : fog ≤ 40) : pasT co r fog side p ≤ 40 := by
  have h1 := lead_le (set := hs co (r 0)) (side := side) (fog := litF co r fog) (p := p) hr
  have h2 := litF_le (co := co) (r := r) (fog := fog)
  unfold pasT; omega
theorem tryN_le {co : Co} {r : Ro} {B : Nat} (hv : vCo co) (hr : vRo co r B) : ∀ i, (tryN co r i).1 ≤ 240 * i ∧ ∀ p, (tryN co r i).2.2 p ≤ 40 * i := by
  intro i
  induction i with
  | zero => exact ⟨Nat.le_refl _, fun _ => Nat.le_refl _⟩
  | succ i ih =>
    have hri := tryN_v hv hr i
    have hh := co_hour hv hri.2.1
    refine ⟨?_, fun p => ?_⟩
    · have := sumT_le (side := co 1 ((tryN co r i).2.1 1)) hv hri hh.2
      have := ih.1
      show (tryN co r i).1 + _ ≤ _
      omega
    · have := pasT_le (side := co 1 ((tryN co r i).2.1 1)) (p := p) hri hh.2
      have := ih.2 p
      show (tryN co r i).2.2 p + _ ≤ _
      omega
theorem tryN_out {co : Co} {r : Ro} {p : Nat} (hp : co 0 3 ≤ p) : ∀ i, (tryN co r i).2.2 p = 0 := by
  intro i
  induction i with
  | zero => rfl
  | succ i ih =>
    show (tryN co r i).2.2 p + _ = 0
    rw [ih]
    unfold pasT
    rw [lead_out hp]
theorem sumN_add (f g : Nat → Nat) : ∀ n, sumN (fun p => f p + g p) n = sumN f n + sumN g n := by
  intro n
  induction n with
  | zero => rfl
  | succ n ih => unfold sumN; rw [ih]; omega
theorem tryN_sum {co : Co} {r : Ro} : ∀ i, (tryN co r i).1 = sumN (tryN co r i).2.2 (co 0 3) := by
  have z : ∀ n, sumN (fun _ => 0) n = 0 := by
    intro n
    induction n with
    | zero => rfl
    | succ n ih => unfold sumN; rw [ih]
  intro i
  induction i with
  | zero => exact (z _).symm
  | succ i ih =>
    show (tryN co r i).1 + _ = sumN (fun p => (tryN co r i).2.2 p + _) _
    rw [sumN_add, ih]
def FrX (μ μ' : Mem) : Prop := μ'.2 = μ.2 ∧ ∀ k, ¬ (31 ≤ k ∧ k < 41) → μ'.1 k = μ.1 k
theorem FrX.rf {μ : Mem} : FrX μ μ := ⟨rfl, fun _ _ => rfl⟩
theorem FrX.tr {a b c : Mem} (h1 : FrX a b) (h2 : FrX b c) : FrX a c := ⟨h2.1.trans h1.1, fun k hk => (h2.2 k hk).trans (h1.2 k hk)⟩
theorem FrP.X {a b : Mem} (h : FrP 31 a b) : FrX a b := ⟨h.1, fun k hk => h.2 k (by omega) (by omega)⟩
theorem FrS.X {a b : Mem} (h : FrS 31 a b) : FrX a b := h.P.X
theorem FrW.X {a b : Mem} (h : FrW a b) : FrX a b := ⟨h.1, fun k hk => h.2 k (by omega)⟩
theorem FrX.sI {a b : Mem} {k j : Nat} {x : Int32} (h : FrX a b) (hk : 31 ≤ k ∧ k < 41) : FrX a (sI b k j x) := ⟨h.1, fun c hc => by rw [sI_r (by omega)]; exact h.2 c hc⟩
theorem RF.X {μ μ1 : Mem} {co : Co} {r : Ro} {U : Un} {T : Tx} {fp : Int32} {sd : Nat} {I : Im} {G K : Gt} (h : RF μ co r U T fp sd I G K) (hf : FrX μ μ1) : RF μ1 co r U T fp sd I G K := h.fr hf.1 (fun k hk _ => hf.2 k hk)
theorem F_tryHours {μ : Mem} {co : Co} {r : Ro} {B n : Nat} {Q : Int32 → Mem → Prop} (hR : sF.2.1 (μ.2.2 0) = 0) (hc : CoF μ (μ.2.2 0) co) (hs : StF μ 31 (co 0 3) r) (hv : vCo co) (hcells : co 0 0 ≠ 0) (hr : vRo co r B) (hB : B + n < 100000)
    (h : ∀ μ' : Mem, FrX μ μ' → StF μ' 31 (co 0 3) (tryN co r n).2.1 → (∀ p, p < 6 → μ'.1 37 p = nI ((tryN co r n).2.2 p)) → Q (nI (tryN co r n).1) μ') : w_X6_tryHours (nI n) μ Q := by
  have hRf := co_far hR
  unfold w_X6_tryHours w_X6_tryHours_4
  intro X hX
  refine cnt_dn (P := fun i => i ≤ 6 → ∀ μ1 : Mem, μ1.2 = μ.2 → (∀ k, k ≠ 37 → μ1.1 k = μ.1 k) → (∀ p, p < i → μ1.1 37 p = nI 0) → X (nI i) μ1) 6 ?_ ?_ (by decide) μ rfl (fun _ _ => rfl) (fun p hp => by omega)
  · intro _ μ1 f2 fk h37
    apply hX
    unfold s_X6_tryHours_4
    refine ⟨fun _ => ?_, fun q => absurd (by decide) q⟩
    unfold w_X6_tryHours_23 w_X6_tryHours_25
    intro Y hY
    refine cnt_dn (P := fun i => i ≤ n → ∀ μ3 : Mem, FrX μ μ3 → StF μ3 31 (co 0 3) (tryN co r i).2.1 → (∀ p, p < 6 → μ3.1 37 p = nI ((tryN co r i).2.2 p)) → Y (nI (tryN co r i).1) (nI i) μ3) n ?_ ?_ (by omega) μ1 ⟨f2, fun k hk => fk k (by omega)⟩ (hs.fr (fun k _ _ => fk k (by omega))) h37
    · intro _ μ3 f3 s3 t3
      apply hY
      unfold s_X6_tryHours_25
      exact ⟨fun _ => h μ3 f3 s3 t3, fun q => absurd ((z_le (by omega) (by omega)).mpr (Nat.le_refl _)) q⟩
    · intro i hi ih _ μ3 f3 s3 t3
      apply hY
      unfold s_X6_tryHours_25
      rw [z_le (by omega) (by omega)]
      refine ⟨fun q => absurd hi (by omega), fun _ => ?_⟩
      have hri := tryN_v hv hr i
      have hh := co_hour hv hri.2.1
      have hle := tryN_le hv hr i
      rw [s3.1.2.1, f3.1]
      have hc3 : CoF μ3 (μ.2.2 0) co := hc.fr hR (fun k _ _ => f3.2 k (by omega))
      refine F_sideAt hR hc3 hv hri.2.1 (F_fogAt hR hc3 hv hri.2.1 ?_)
      refine F_passHour (c := false) st_31 hR hc3 s3 hv hcells hri (by omega) hh.1 hh.2 (fun μ4 g4 s4 t4 => ?_)
      intro x12 e12
      rw [z_add] at e12
      subst e12
      unfold w_X6_tryHours_80
      intro Z hZ
      refine cnt_dn (P := fun j => j ≤ 6 → ∀ μ5 : Mem, μ5.2 = μ4.2 → (∀ k, k ≠ 37 → μ5.1 k = μ4.1 k) → (∀ p, p < 6 → μ5.1 37 p = nI (if p < j then (tryN co r (i + 1)).2.2 p else (tryN co r i).2.2 p)) → Z (nI j) μ5) 6 ?_ ?_ (by decide) μ4 rfl (fun _ _ => rfl) (fun p hp => ?_)
      · intro _ μ5 f5 k5 t5
        apply hZ
        unfold s_X6_tryHours_80 w_X6_tryHours_113
        refine ⟨fun _ => ?_, fun q => absurd (by decide) q⟩
        simp (disch := omega) only [z_le, z_lt, z_eq, z_lt0, z_0le, z_eq0, z_le0, z_0lt, z_cl, z_in, z_add, z_mul, z_m1ne, z_m1ne', z_m1lt0, z_m1lt, z_ltm1, forall_eq, true_implies, false_implies, implies_true, true_and, and_true, false_and, and_false, not_true_eq_false, not_false_eq_true, ite_true, ite_false]
        refine ih (by omega) μ5 (f3.tr (g4.X.tr ⟨f5, fun k hk => k5 k (by omega)⟩)) (s4.fr (fun k _ _ => k5 k (by omega))) (fun p hp => ?_)
        have := t5 p hp
        rw [if_pos hp] at this
        exact this
      · intro j hj ihj _ μ5 f5 k5 t5
        apply hZ
        unfold s_X6_tryHours_80
        have e37 := t5 j hj
        rw [if_neg (by omega)] at e37
        have e39 : μ5.1 39 j = nI (pasT co (tryN co r i).2.1 (co 2 ((tryN co r i).2.1 1)) (co 1 ((tryN co r i).2.1 1)) j) := by rw [k5 39 (by decide)]; exact t4 j hj
        simp (disch := omega) only [z_le, z_lt, z_eq, z_lt0, z_0le, z_eq0, z_le0, z_0lt, z_cl, z_in, z_add, z_mul, z_m1ne, z_m1ne', z_m1lt0, z_m1lt, z_ltm1, forall_eq, true_implies, false_implies, implies_true, true_and, and_true, false_and, and_false, not_true_eq_false, not_false_eq_true, ite_true, ite_false, e37, e39]
        refine ⟨fun q => absurd q (by omega), fun _ => ⟨hj, hj, hj, ?_⟩⟩
        refine ihj (by omega) _ (by exact f5) (fun k hk => by rw [sI_r hk]; exact k5 k hk) (fun p hp => ?_)
        rw [sI_get]
        by_cases e : p = j
        · rw [if_pos ⟨rfl, e⟩, if_pos (by omega), e]; rfl
        · rw [if_neg (fun z => e z.2), t5 p hp]
          by_cases e2 : p < j
          · rw [if_pos e2, if_pos (by omega)]
          · rw [if_neg e2, if_neg (by omega)]
      · rw [if_neg (by omega), g4.2 37 (by omega) (by omega)]; exact t3 p hp
  · intro i hi ih _ μ1 f2 fk h37
    apply hX
    unfold s_X6_tryHours_4
    simp (disch := omega) only [z_le, z_lt, z_eq, z_lt0, z_0le, z_eq0, z_le0, z_0lt, z_cl, z_in, z_add, z_mul, z_m1ne, z_m1ne', z_m1lt0, z_m1lt, z_ltm1, forall_eq, true_implies, false_implies, implies_true, true_and, and_true, false_and, and_false, not_true_eq_false, not_false_eq_true, ite_true, ite_false]
    refine ⟨fun q => absurd q (by omega), fun _ => ⟨hi, ?_⟩⟩
    refine ih (by omega) _ f2 (fun k hk => by rw [sI_r hk]; exact fk k hk) (fun p hp => ?_)
    rw [sI_get]
    by_cases e : p = i
    · rw [if_pos ⟨rfl, e⟩]
    · rw [if_neg (fun z => e z.2)]; exact h37 p (by omega)
theorem M_copyNow {ν : Mem} {r : Ro} {Q : Mem → Prop} (hs : StR ν 14 r) (h : ∀ ν' : Mem, FrB 15 ν ν' → StR ν' 15 r → Q ν') : w_X7_copyNow ν Q := by
  unfold w_X7_copyNow w_X7_copyNow_2
  intro X hX
  refine cnt_dn (P := fun j => j ≤ 27 → ∀ ν1 : Mem, FrB 15 ν ν1 → (∀ i, i < j → ν1.1 15 i = nI (r i)) → X (nI j) ν1) 27 ?_ ?_ (by decide) ν FrB.rf (fun i hi => by omega)
  · intro _ ν1 f1 s1
    apply hX
    unfold s_X7_copyNow_2
    exact ⟨fun _ => h ν1 f1 s1, fun q => absurd (by decide) q⟩
  · intro j hj ih _ ν1 f1 s1
    apply hX
    unfold s_X7_copyNow_2
    have e14 : ν1.1 14 j = nI (r j) := by rw [f1.2 14 (by decide)]; exact hs j hj
    simp (disch := omega) only [z_le, z_lt, z_eq, z_lt0, z_0le, z_eq0, z_le0, z_0lt, z_cl, z_in, z_add, z_mul, z_m1ne, z_m1ne', z_m1lt0, z_m1lt, z_ltm1, forall_eq, true_implies, false_implies, implies_true, true_and, and_true, false_and, and_false, not_true_eq_false, not_false_eq_true, ite_true, ite_false, e14]
    refine ⟨fun q => absurd q (by omega), fun _ => ⟨hj, hj, ?_⟩⟩
    refine ih (by omega) _ f1.sI (fun i hi => ?_)
    rw [sI_get]
    by_cases e : i = j
    · rw [if_pos ⟨rfl, e⟩, e]
    · rw [if_neg (fun z => e z.2)]; exact s1 i (by omega)
def FrG (ν ν' : Mem) : Prop := ν'.2 = ν.2 ∧ ∀ k, k ≠ 15 → k ≠ 16 → k ≠ 18 → ν'.1 k = ν.1 k
theorem FrG.rf {ν : Mem} : FrG ν ν := ⟨rfl, fun _ _ _ _ => rfl⟩
theorem FrG.tr {a b c : Mem} (h1 : FrG a b) (h2 : FrG b c) : FrG a c := ⟨h2.1.trans h1.1, fun k hk hl hm => (h2.2 k hk hl hm).trans (h1.2 k hk hl hm)⟩
theorem FrG.sI {a b : Mem} {k j : Nat} {x : Int32} (h : FrG a b) (hk : k = 15 ∨ k = 16 ∨ k = 18) : FrG a (sI b k j x) := ⟨h.1, fun c h1 h2 h3 => by rw [sI_r (by omega)]; exact h.2 c h1 h2 h3⟩
theorem FrM.G {a b : Mem} (h : FrM 15 a b) : FrG a b := ⟨h.1, fun k h1 h2 _ => h.2 k h1 h2⟩
theorem FrB.G {a b : Mem} (h : FrB 15 a b) : FrG a b := ⟨h.1, fun k h1 _ _ => h.2 k h1⟩
theorem FrT.G {a b : Mem} (h : FrT a b) : FrG a b := ⟨h.1, fun k _ h1 _ => h.2 k h1⟩
theorem RM.G {ν ν1 : Mem} {co : Co} {r : Ro} {U : Un} {T : Tx} {fp : Int32} {sd : Nat} {I : Im} {G K : Gt} (h : RM ν co r U T fp sd I G K) (hf : FrG ν ν1) : RM ν1 co r U T fp sd I G K := h.fr hf.1 hf.2
theorem M_goesOn {ν : Mem} {co : Co} {r : Ro} {B n : Nat} {Q : Mem → Prop} (hc : CoM ν co) (hs : StR ν 15 r) (hv : vCo co) (hcells : co 0 0 ≠ 0) (hr : vRo co r B) (hB : B + n < 100000)
    (h : ∀ ν' : Mem, FrG ν ν' → StR ν' 15 (tryN co r n).2.1 → (∀ p, p < co 0 3 → ν'.1 18 p = nI ((tryN co r n).2.2 p)) → Q ν') : w_X7_goesOn (nI n) ν Q := by
  have hn6 := hv.2.2.2.1
  have e20 := hc.1.2.2.2.1
  unfold w_X7_goesOn w_X7_goesOn_2
  intro X hX
  refine cnt_dn (P := fun i => i ≤ co 0 3 → ∀ ν1 : Mem, FrB 18 ν ν1 → (∀ p, p < i → ν1.1 18 p = nI 0) → X (nI i) ν1) (co 0 3) ?_ ?_ (by omega) ν FrB.rf (fun p hp => by omega)
  · intro _ ν1 f1 h18
    apply hX
    unfold s_X7_goesOn_2
    rw [f1.2 0 (by decide), e20, z_le (by omega) (by omega)]
    refine ⟨fun _ => ?_, fun q => absurd (Nat.le_refl _) q⟩
    unfold w_X7_goesOn_23 w_X7_goesOn_25
    intro Y hY
    refine cnt_dn (P := fun i => i ≤ n → ∀ ν3 : Mem, FrG ν ν3 → StR ν3 15 (tryN co r i).2.1 → (∀ p, p < co 0 3 → ν3.1 18 p = nI ((tryN co r i).2.2 p)) → Y (nI i) ν3) n ?_ ?_ (by omega) ν1 ⟨f1.1, fun k _ _ hk => f1.2 k hk⟩ (hs.fr (f1.2 15 (by decide))) h18
    · intro _ ν3 f3 s3 t3
      apply hY
      unfold s_X7_goesOn_25
      exact ⟨fun _ => h ν3 f3 s3 t3, fun q => absurd ((z_le (by omega) (by omega)).mpr (Nat.le_refl _)) q⟩
    · intro i hi ih _ ν3 f3 s3 t3
      apply hY
      unfold s_X7_goesOn_25
      rw [z_le (by omega) (by omega)]
      refine ⟨fun q => absurd hi (by omega), fun _ => ?_⟩
      have hri := tryN_v hv hr i
      have hle := tryN_le hv hr i
      have hc3 : CoM ν3 co := hc.fr (fun k hk => f3.2 k (by omega) (by omega) (by omega))
      refine M_passesOn (Or.inr rfl) hc3 s3 hv hcells hri (by omega) (fun ν4 g4 s4 t4 => ?_)
      have e204 : ν4.1 0 20 = nI (co 0 3) := by rw [g4.2 0 (by decide) (by decide), f3.2 0 (by decide) (by decide) (by decide)]; exact e20
      unfold w_X7_goesOn_41
      intro Z hZ
      refine cnt_dn (P := fun j => j ≤ co 0 3 → ∀ ν5 : Mem, FrB 18 ν4 ν5 → (∀ p, p < co 0 3 → ν5.1 18 p = nI (if p < j then (tryN co r (i + 1)).2.2 p else (tryN co r i).2.2 p)) → Z (nI j) ν5) (co 0 3) ?_ ?_ (by omega) ν4 FrB.rf (fun p hp => ?_)
      · intro _ ν5 f5 t5
        apply hZ
        unfold s_X7_goesOn_41 w_X7_goesOn_70
        rw [f5.2 0 (by decide), e204, z_le (by omega) (by omega)]
        refine ⟨fun _ => ?_, fun q => absurd (Nat.le_refl _) q⟩
        simp (disch := omega) only [z_le, z_lt, z_eq, z_lt0, z_0le, z_eq0, z_le0, z_0lt, z_cl, z_in, z_add, z_mul, z_m1ne, z_m1ne', z_m1lt0, z_m1lt, z_ltm1, forall_eq, true_implies, false_implies, implies_true, true_and, and_true, false_and, and_false, not_true_eq_false, not_false_eq_true, ite_true, ite_false]
        refine ih (by omega) ν5 (f3.tr (g4.G.tr ⟨f5.1, fun k _ _ hk => f5.2 k hk⟩)) (s4.fr (f5.2 15 (by decide))) (fun p hp => ?_)
        have := t5 p hp
        rw [if_pos hp] at this
        exact this
      · intro j hj ihj _ ν5 f5 t5
        apply hZ
        unfold s_X7_goesOn_41
        have e18 := t5 j hj
        rw [if_neg (by omega)] at e18
        have e16 : ν5.1 16 j = nI (pasT co (tryN co r i).2.1 (co 2 ((tryN co r i).2.1 1)) (co 1 ((tryN co r i).2.1 1)) j) := by rw [f5.2 16 (by decide)]; exact t4 j hj
        rw [f5.2 0 (by decide), e204]
        simp (disch := omega) only [z_le, z_lt, z_eq, z_lt0, z_0le, z_eq0, z_le0, z_0lt, z_cl, z_in, z_add, z_mul, z_m1ne, z_m1ne', z_m1lt0, z_m1lt, z_ltm1, forall_eq, true_implies, false_implies, implies_true, true_and, and_true, false_and, and_false, not_true_eq_false, not_false_eq_true, ite_true, ite_false, e18, e16]
        refine ⟨fun q => absurd q (by omega), fun _ => ⟨by omega, by omega, by omega, ?_⟩⟩
        refine ihj (by omega) _ f5.sI (fun p hp => ?_)
        rw [sI_get]
        by_cases e : p = j
        · rw [if_pos ⟨rfl, e⟩, if_pos (by omega), e]; rfl
        · rw [if_neg (fun z => e z.2), t5 p hp]
          by_cases e2 : p < j
          · rw [if_pos e2, if_pos (by omega)]
          · rw [if_neg e2, if_neg (by omega)]
      · rw [if_neg (by omega), g4.2 18 (by decide) (by decide)]; exact t3 p hp
  · intro i hi ih _ ν1 f1 h18
    apply hX
    unfold s_X7_goesOn_2
    rw [f1.2 0 (by decide), e20]
    simp (disch := omega) only [z_le, z_lt, z_eq, z_lt0, z_0le, z_eq0, z_le0, z_0lt, z_cl, z_in, z_add, z_mul, z_m1ne, z_m1ne', z_m1lt0, z_m1lt, z_ltm1, forall_eq, true_implies, false_implies, implies_true, true_and, and_true, false_and, and_false, not_true_eq_false, not_false_eq_true, ite_true, ite_false]
    refine ⟨fun q => absurd q (by omega), fun _ => ⟨by omega, ?_⟩⟩
    refine ih (by omega) _ f1.sI (fun p hp => ?_)
    rw [sI_get]
    by_cases e : p = i
    · rw [if_pos ⟨rfl, e⟩]
    · rw [if_neg (fun z => e z.2)]; exact h18 p (by omega)
section TRY
variable {μ ν : Mem} {co : Co} {r : Ro} {U : Un} {T : Tx} {fp : Int32} {sd : Nat} {I : Im} {G K : Gt}
theorem F_copy (hA : VA co r U T sd I G K) (hF : RF μ co r U T fp sd I G K) {Q : Mem → Prop} (h : ∀ μ' : Mem, FrX μ μ' → RF μ' co r U T fp sd I G K → StF μ' 31 (co 0 3) r → Q μ') : w_X4_become 31 25 μ Q :=
  F_become st_31 st_25 (by decide) hF.2.2.2.1 hA.1.2.2.2.1 hA.2.1.2.2.1 (fun μ2 f2 s2 => h μ2 f2.X (hF.X f2.X) s2)
theorem F_run {r1 : Ro} {n : Nat} (hA : VA co r U T sd I G K) (hF : RF μ co r U T fp sd I G K) (hs : StF μ 31 (co 0 3) r1) (hcells : co 0 0 ≠ 0) (hr : vRo co r1 9060) (hn : n ≤ 1000) {Q : Int32 → Mem → Prop}
    (h : ∀ μ' : Mem, RF μ' co r U T fp sd I G K → StF μ' 31 (co 0 3) (tryN co r1 n).2.1 → (∀ p, p < 6 → μ'.1 37 p = nI ((tryN co r1 n).2.2 p)) → Q (nI (tryN co r1 n).1) μ') : w_X6_tryHours (nI n) μ Q :=
  F_tryHours hF.1.1 hF.2.1 hs hA.1 hcells hr (by omega) (fun μ2 f2 s2 t2 => h μ2 (hF.X f2) s2 t2)
theorem M_copy (hM : RM ν co r U T fp sd I G K) {Q : Mem → Prop} (h : ∀ ν' : Mem, RM ν' co r U T fp sd I G K → StR ν' 15 r → Q ν') : w_X7_copyNow ν Q :=
  M_copyNow hM.2.1 (fun ν2 f2 s2 => h ν2 (hM.G f2.G) s2)
theorem M_run {r1 : Ro} {n : Nat} (hA : VA co r U T sd I G K) (hM : RM ν co r U T fp sd I G K) (hs : StR ν 15 r1) (hcells : co 0 0 ≠ 0) (hr : vRo co r1 9060) (hn : n ≤ 1000) {Q : Mem → Prop}
    (h : ∀ ν' : Mem, RM ν' co r U T fp sd I G K → StR ν' 15 (tryN co r1 n).2.1 → (∀ p, p < co 0 3 → ν'.1 18 p = nI ((tryN co r1 n).2.2 p)) → Q ν') : w_X7_goesOn (nI n) ν Q :=
  M_goesOn hM.1 hs hA.1 hcells hr (by omega) (fun ν2 f2 s2 t2 => h ν2 (hM.G f2) s2 t2)
end TRY
theorem post_cells {co : Co} {p : Nat} (hv : vCo co) (hp : p < co 0 3) : co 0 0 ≠ 0 := fun z => by have := (hv.2.2.2.2.2.1 z).2.2.1; omega
theorem P_gets {μ ν : Mem} {a b : Int32} (h : Rel μ ν) : w_X6_gets a b μ (fun x μ' => w_X7_gets a b ν (fun y ν' => x = y ∧ Rel μ' ν')) := by
  obtain ⟨co, r, U, T, fp, sd, I, G, K, hA, hF, hM⟩ := h
  have hv := hA.1
  have hn := hv.2.2.2.1
  unfold w_X6_gets w_X7_gets
  rcases upto a (co 0 3) with ⟨p, hp, rfl⟩ | ho
  · have hc := post_cells hv hp
    refine F_isPost_in hF hv hp ⟨fun _ => ?_, fun z => absurd z (by decide)⟩
    rcases z_cases b 0 99 (by decide) (by decide) with ⟨x, h1, h2, rfl⟩ | hb
    · refine W_in h1 h2 (by decide) ⟨fun _ => F_copy hA hF (fun μ1 _ f1 s1 => ?_), fun z => absurd z (by decide)⟩
      refine F_run hA f1 s1 hc hA.2.1 (by omega) (fun μ2 f2 s2 t2 => ?_)
      refine F_at (n := 6) (by decide) (by decide) (by omega) ?_
      refine M_isPost_in hM hv hp ⟨fun _ => MW_in h1 h2 (by decide) ⟨fun _ => M_copy hM (fun ν1 m1 v1 => ?_), fun z => absurd z (by decide)⟩, fun z => absurd z (by decide)⟩
      refine M_run hA m1 v1 hc hA.2.1 (by omega) (fun ν2 m2 v2 w2 => ?_)
      have hle := (tryN_le hv hA.2.1 x).2 p
      simp (disch := omega) only [z_le, z_lt, z_eq, z_lt0, z_0le, z_eq0, z_le0, z_0lt, z_cl, z_in, z_add, z_mul, z_m1ne, z_m1ne', z_m1lt0, z_m1lt, z_ltm1, forall_eq, true_implies, false_implies, implies_true, true_and, and_true, false_and, and_false, not_true_eq_false, not_false_eq_true, ite_true, ite_false, t2 p (by omega), w2 p hp]
      exact ⟨by omega, (by first | exact done (hA) (f2) (m2) | exact (done (x := 0) (hA) (f2) (m2)).2)⟩
    · refine F_within0 hb ⟨fun z => absurd (by decide) z, fun _ => ?_⟩
      exact M_isPost_in hM hv hp ⟨fun _ => MW_out hb ⟨fun z => absurd (by decide) z, fun _ => done hA hF hM⟩, fun z => absurd z (by decide)⟩
  · refine F_isPost_out hF hv ho ⟨fun z => absurd (by decide) z, fun _ => ?_⟩
    exact M_isPost_out hM hv ho ⟨fun z => absurd (by decide) z, fun _ => done hA hF hM⟩
theorem P_level {μ ν : Mem} {a b : Int32} (h : Rel μ ν) : w_X6_level a b μ (fun x μ' => w_X7_level a b ν (fun y ν' => x = y ∧ Rel μ' ν')) := by
  obtain ⟨co, r, U, T, fp, sd, I, G, K, hA, hF, hM⟩ := h
  have hv := hA.1
  have hn := hv.2.2.2.1
  unfold w_X6_level w_X7_level
  rcases upto a (co 0 3) with ⟨p, hp, rfl⟩ | ho
  · have hc := post_cells hv hp
    refine F_isPost_in hF hv hp ⟨fun _ => ?_, fun z => absurd z (by decide)⟩
    rcases z_cases b 0 99 (by decide) (by decide) with ⟨x, h1, h2, rfl⟩ | hb
    · refine W_in h1 h2 (by decide) ⟨fun _ => F_copy hA hF (fun μ1 _ f1 s1 => ?_), fun z => absurd z (by decide)⟩
      refine F_run hA f1 s1 hc hA.2.1 (by omega) (fun μ2 f2 s2 t2 => ?_)
      refine F_at (n := 6) (st_n3 st_31) (by decide) (by omega) ?_
      refine M_isPost_in hM hv hp ⟨fun _ => MW_in h1 h2 (by decide) ⟨fun _ => M_copy hM (fun ν1 m1 v1 => ?_), fun z => absurd z (by decide)⟩, fun z => absurd z (by decide)⟩
      refine M_run hA m1 v1 hc hA.2.1 (by omega) (fun ν2 m2 v2 w2 => ?_)
      have e9 := v2 (9 + p) (by omega)
      have e31 := (s2.2.1 p hp).2.2
      simp (disch := omega) only [z_le, z_lt, z_eq, z_lt0, z_0le, z_eq0, z_le0, z_0lt, z_cl, z_in, z_add, z_mul, z_m1ne, z_m1ne', z_m1lt0, z_m1lt, z_ltm1, forall_eq, true_implies, false_implies, implies_true, true_and, and_true, false_and, and_false, not_true_eq_false, not_false_eq_true, ite_true, ite_false, e9, e31]
      exact ⟨by omega, (by first | exact done (hA) (f2) (m2) | exact (done (x := 0) (hA) (f2) (m2)).2)⟩
    · refine F_within0 hb ⟨fun z => absurd (by decide) z, fun _ => ?_⟩
      exact M_isPost_in hM hv hp ⟨fun _ => MW_out hb ⟨fun z => absurd (by decide) z, fun _ => done hA hF hM⟩, fun z => absurd z (by decide)⟩
  · refine F_isPost_out hF hv ho ⟨fun z => absurd (by decide) z, fun _ => ?_⟩
    exact M_isPost_out hM hv ho ⟨fun z => absurd (by decide) z, fun _ => done hA hF hM⟩
