/-! ===== undone; hours that are tried ===== -/
theorem PaF.back {μ μ1 : Mem} {n k : Nat} {U : Un} (h : PaF μ n U) (hk : k ≤ U.1) (e1 : μ1.1 41 1 = μ.1 41 1) (e2 : μ1.1 41 2 = nI (U.1 - k)) (hf : ∀ c, 43 ≤ c → c < 223 → μ1.1 c = μ.1 c) : PaF μ1 n (U.1 - k, U.2) := by
  obtain ⟨o, ho, h1, h2, h3⟩ := h
  have hm : ∀ x, x % 30 < 30 := fun x => Nat.mod_lt _ (by decide)
  refine ⟨o, ho, by rw [e1]; exact h1, e2, fun i hi => (h3 i (by have : i < U.1 - k := hi; omega)).fr (fun c h4 h5 => hf c (by omega) ?_)⟩
  have := hm (o + i); omega
/-! hours on a state that is tried -/
def tryN (co : Co) (r : Ro) : Nat → Nat × Ro × (Nat → Nat)
  | 0 => (0, r, fun _ => 0)
  | i + 1 => ((tryN co r i).1 + sumN (pasT co (tryN co r i).2.1 (co 2 ((tryN co r i).2.1 1)) (co 1 ((tryN co r i).2.1 1))) (co 0 3), pasR co (tryN co r i).2.1 (co 2 ((tryN co r i).2.1 1)) (co 1 ((tryN co r i).2.1 1)) false,
      fun p => (tryN co r i).2.2 p + pasT co (tryN co r i).2.1 (co 2 ((tryN co r i).2.1 1)) (co 1 ((tryN co r i).2.1 1)) p)
theorem tryN_v {co : Co} {r : Ro} {B : Nat} (hv : vCo co) (hr : vRo co r B) : ∀ i, vRo co (tryN co r i).2.1 (B + i) := by
  intro i
  induction i with
  | zero => exact hr
  | succ i ih => exact vRo_pas hv ih
theorem pasT_le {co : Co} {r : Ro} {B H fog side p : Nat} (hr : vRH co r B H) (hf : fog ≤ 40) : pasT co r fog side p ≤ 40 := by
  have h1 := lead_le (set := hs co (r 0)) (side := side) (fog := litF co r fog) (p := p) hr
  have h2 := litF_le (co := co) (r := r) (fog := fog)
  unfold pasT; omega
theorem tryN_le {co : Co} {r : Ro} {B : Nat} (hv : vCo co) (hr : vRo co r B) : ∀ i, (tryN co r i).1 ≤ 240 * i ∧ ∀ p, (tryN co r i).2.2 p ≤ 40 * i := by
  intro i
  induction i with
  | zero => exact ⟨Nat.le_refl _, fun _ => Nat.le_refl _⟩
  | succ i ih =>
    have hri := tryN_v hv hr i
    have hh := co_hour hv hri.2.1
    refine ⟨?_, fun p => ?_⟩
    · have := sumT_le (side := co 1 ((tryN co r i).2.1 1)) hv hri hh.2
      have := ih.1
      show (tryN co r i).1 + _ ≤ _
      omega
    · have := pasT_le (side := co 1 ((tryN co r i).2.1 1)) (p := p) hri hh.2
      have := ih.2 p
      show (tryN co r i).2.2 p + _ ≤ _
      omega
theorem tryN_out {co : Co} {r : Ro} {p : Nat} (hp : co 0 3 ≤ p) : ∀ i, (tryN co r i).2.2 p = 0 := by
  intro i
  induction i with
  | zero => rfl
  | succ i ih =>
    show (tryN co r i).2.2 p + _ = 0
    rw [ih]
    unfold pasT
    rw [lead_out hp]
theorem sumN_add (f g : Nat → Nat) : ∀ n, sumN (fun p => f p + g p) n = sumN f n + sumN g n := by
  intro n
  induction n with
  | zero => rfl
  | succ n ih => unfold sumN; rw [ih]; omega
theorem tryN_sum {co : Co} {r : Ro} : ∀ i, (tryN co r i).1 = sumN (tryN co r i).2.2 (co 0 3) := by
  have z : ∀ n, sumN (fun _ => 0) n = 0 := by
    intro n
    induction n with
    | zero => rfl
    | succ n ih => unfold sumN; rw [ih]
  intro i
  induction i with
  | zero => exact (z _).symm
  | succ i ih =>
    show (tryN co r i).1 + _ = sumN (fun p => (tryN co r i).2.2 p + _) _
    rw [sumN_add, ih]
def FrX (μ μ' : Mem) : Prop := μ'.2 = μ.2 ∧ ∀ k, ¬ (31 ≤ k ∧ k < 41) → μ'.1 k = μ.1 k
theorem FrX.rf {μ : Mem} : FrX μ μ := ⟨rfl, fun _ _ => rfl⟩
theorem FrX.tr {a b c : Mem} (h1 : FrX a b) (h2 : FrX b c) : FrX a c := ⟨h2.1.trans h1.1, fun k hk => (h2.2 k hk).trans (h1.2 k hk)⟩
theorem FrP.X {a b : Mem} (h : FrP 31 a b) : FrX a b := ⟨h.1, fun k hk => h.2 k (by omega) (by omega)⟩
theorem FrS.X {a b : Mem} (h : FrS 31 a b) : FrX a b := h.P.X
theorem FrW.X {a b : Mem} (h : FrW a b) : FrX a b := ⟨h.1, fun k hk => h.2 k (by omega)⟩
theorem FrX.sI {a b : Mem} {k j : Nat} {x : Int32} (h : FrX a b) (hk : 31 ≤ k ∧ k < 41) : FrX a (sI b k j x) := ⟨h.1, fun c hc => by rw [sI_r (by omega)]; exact h.2 c hc⟩
theorem RF.X {μ μ1 : Mem} {co : Co} {r : Ro} {U : Un} {T : Tx} {fp : Int32} {sd : Nat} {I : Im} {G K : Gt} (h : RF μ co r U T fp sd I G K) (hf : FrX μ μ1) : RF μ1 co r U T fp sd I G K := h.fr hf.1 (fun k hk _ => hf.2 k hk)
theorem F_tryHours {μ : Mem} {co : Co} {r : Ro} {B n : Nat} {Q : Int32 → Mem → Prop} (hR : sF.2.1 (μ.2.2 0) = 0) (hc : CoF μ (μ.2.2 0) co) (hs : StF μ 31 (co 0 3) r) (hv : vCo co) (hcells : co 0 0 ≠ 0) (hr : vRo co r B) (hB : B + n < 100000)
    (h : ∀ μ' : Mem, FrX μ μ' → StF μ' 31 (co 0 3) (tryN co r n).2.1 → (∀ p, p < 6 → μ'.1 37 p = nI ((tryN co r n).2.2 p)) → Q (nI (tryN co r n).1) μ') : w_X6_tryHours (nI n) μ Q := by
  have hRf := co_far hR
  unfold w_X6_tryHours w_X6_tryHours_4
  intro X hX
  refine cnt_dn (P := fun i => i ≤ 6 → ∀ μ1 : Mem, μ1.2 = μ.2 → (∀ k, k ≠ 37 → μ1.1 k = μ.1 k) → (∀ p, p < i → μ1.1 37 p = nI 0) → X (nI i) μ1) 6 ?_ ?_ (by decide) μ rfl (fun _ _ => rfl) (fun p hp => by omega)
  · intro _ μ1 f2 fk h37
    apply hX
    unfold s_X6_tryHours_4
    refine ⟨fun _ => ?_, fun q => absurd (by decide) q⟩
    unfold w_X6_tryHours_23 w_X6_tryHours_25
    intro Y hY
    refine cnt_dn (P := fun i => i ≤ n → ∀ μ3 : Mem, FrX μ μ3 → StF μ3 31 (co 0 3) (tryN co r i).2.1 → (∀ p, p < 6 → μ3.1 37 p = nI ((tryN co r i).2.2 p)) → Y (nI (tryN co r i).1) (nI i) μ3) n ?_ ?_ (by omega) μ1 ⟨f2, fun k hk => fk k (by omega)⟩ (hs.fr (fun k _ _ => fk k (by omega))) h37
    · intro _ μ3 f3 s3 t3
      apply hY
      unfold s_X6_tryHours_25
      exact ⟨fun _ => h μ3 f3 s3 t3, fun q => absurd ((z_le (by omega) (by omega)).mpr (Nat.le_refl _)) q⟩
    · intro i hi ih _ μ3 f3 s3 t3
      apply hY
      unfold s_X6_tryHours_25
      rw [z_le (by omega) (by omega)]
      refine ⟨fun q => absurd hi (by omega), fun _ => ?_⟩
      have hri := tryN_v hv hr i
      have hh := co_hour hv hri.2.1
      have hle := tryN_le hv hr i
      rw [s3.1.2.1, f3.1]
      have hc3 : CoF μ3 (μ.2.2 0) co := hc.fr hR (fun k _ _ => f3.2 k (by omega))
      refine F_sideAt hR hc3 hv hri.2.1 (F_fogAt hR hc3 hv hri.2.1 ?_)
      refine F_passHour (c := false) st_31 hR hc3 s3 hv hcells hri (by omega) hh.1 hh.2 (fun μ4 g4 s4 t4 => ?_)
      intro x12 e12
      rw [z_add] at e12
      subst e12
      unfold w_X6_tryHours_80
      intro Z hZ
      refine cnt_dn (P := fun j => j ≤ 6 → ∀ μ5 : Mem, μ5.2 = μ4.2 → (∀ k, k ≠ 37 → μ5.1 k = μ4.1 k) → (∀ p, p < 6 → μ5.1 37 p = nI (if p < j then (tryN co r (i + 1)).2.2 p else (tryN co r i).2.2 p)) → Z (nI j) μ5) 6 ?_ ?_ (by decide) μ4 rfl (fun _ _ => rfl) (fun p hp => ?_)
      · intro _ μ5 f5 k5 t5
        apply hZ
        unfold s_X6_tryHours_80 w_X6_tryHours_113
        refine ⟨fun _ => ?_, fun q => absurd (by decide) q⟩
        simp (disch := omega) only [z_le, z_lt, z_eq, z_lt0, z_0le, z_eq0, z_le0, z_0lt, z_cl, z_in, z_add, z_mul, z_m1ne, z_m1ne', z_m1lt0, z_m1lt, z_ltm1, forall_eq, true_implies, false_implies, implies_true, true_and, and_true, false_and, and_false, not_true_eq_false, not_false_eq_true, ite_true, ite_false]
        refine ih (by omega) μ5 (f3.tr (g4.X.tr ⟨f5, fun k hk => k5 k (by omega)⟩)) (s4.fr (fun k _ _ => k5 k (by omega))) (fun p hp => ?_)
        have := t5 p hp
        rw [if_pos hp] at this
        exact this
      · intro j hj ihj _ μ5 f5 k5 t5
        apply hZ
        unfold s_X6_tryHours_80
        have e37 := t5 j hj
        rw [if_neg (by omega)] at e37
        have e39 : μ5.1 39 j = nI (pasT co (tryN co r i).2.1 (co 2 ((tryN co r i).2.1 1)) (co 1 ((tryN co r i).2.1 1)) j) := by rw [k5 39 (by decide)]; exact t4 j hj
        simp (disch := omega) only [z_le, z_lt, z_eq, z_lt0, z_0le, z_eq0, z_le0, z_0lt, z_cl, z_in, z_add, z_mul, z_m1ne, z_m1ne', z_m1lt0, z_m1lt, z_ltm1, forall_eq, true_implies, false_implies, implies_true, true_and, and_true, false_and, and_false, not_true_eq_false, not_false_eq_true, ite_true, ite_false, e37, e39]
        refine ⟨fun q => absurd q (by omega), fun _ => ⟨hj, hj, hj, ?_⟩⟩
        refine ihj (by omega) _ (by exact f5) (fun k hk => by rw [sI_r hk]; exact k5 k hk) (fun p hp => ?_)
        rw [sI_get]
        by_cases e : p = j
        · rw [if_pos ⟨rfl, e⟩, if_pos (by omega), e]; rfl
        · rw [if_neg (fun z => e z.2), t5 p hp]
          by_cases e2 : p < j
          · rw [if_pos e2, if_pos (by omega)]
          · rw [if_neg e2, if_neg (by omega)]
      · rw [if_neg (by omega), g4.2 37 (by omega) (by omega)]; exact t3 p hp
  · intro i hi ih _ μ1 f2 fk h37
    apply hX
    unfold s_X6_tryHours_4
    simp (disch := omega) only [z_le, z_lt, z_eq, z_lt0, z_0le, z_eq0, z_le0, z_0lt, z_cl, z_in, z_add, z_mul, z_m1ne, z_m1ne', z_m1lt0, z_m1lt, z_ltm1, forall_eq, true_implies, false_implies, implies_true, true_and, and_true, false_and, and_false, not_true_eq_false, not_false_eq_true, ite_true, ite_false]
    refine ⟨fun q => absurd q (by omega), fun _ => ⟨hi, ?_⟩⟩
    refine ih (by omega) _ f2 (fun k hk => by rw [sI_r hk]; exact fk k hk) (fun p hp => ?_)
    rw [sI_get]
    by_cases e : p = i
    · rw [if_pos ⟨rfl, e⟩]
    · rw [if_neg (fun z => e z.2)]; exact h37 p (by omega)
section TRY
variable {μ ν : Mem} {co : Co} {r : Ro} {U : Un} {T : Tx} {fp : Int32} {sd : Nat} {I : Im} {G K : Gt}
theorem F_copy (hA : VA co r U T sd I G K) (hF : RF μ co r U T fp sd I G K) {Q : Mem → Prop} (h : ∀ μ' : Mem, FrX μ μ' → RF μ' co r U T fp sd I G K → StF μ' 31 (co 0 3) r → Q μ') : w_X4_become 31 25 μ Q :=
  F_become st_31 st_25 (by decide) hF.2.2.2.1 hA.1.2.2.2.1 hA.2.1.2.2.1 (fun μ2 f2 s2 => h μ2 f2.X (hF.X f2.X) s2)
theorem F_run {r1 : Ro} {n : Nat} (hA : VA co r U T sd I G K) (hF : RF μ co r U T fp sd I G K) (hs : StF μ 31 (co 0 3) r1) (hcells : co 0 0 ≠ 0) (hr : vRo co r1 9060) (hn : n ≤ 1000) {Q : Int32 → Mem → Prop}
    (h : ∀ μ' : Mem, RF μ' co r U T fp sd I G K → StF μ' 31 (co 0 3) (tryN co r1 n).2.1 → (∀ p, p < 6 → μ'.1 37 p = nI ((tryN co r1 n).2.2 p)) → Q (nI (tryN co r1 n).1) μ') : w_X6_tryHours (nI n) μ Q :=
  F_tryHours hF.1.1 hF.2.1 hs hA.1 hcells hr (by omega) (fun μ2 f2 s2 t2 => h μ2 (hF.X f2) s2 t2)
end TRY
theorem post_cells {co : Co} {p : Nat} (hv : vCo co) (hp : p < co 0 3) : co 0 0 ≠ 0 := fun z => by have := (hv.2.2.2.2.2.1 z).2.2.1; omega
