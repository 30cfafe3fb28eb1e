/-! ===== deeds: both sides alike ===== -/
theorem in_w {a b c : Int32} {μ : Mem} {Q : Int32 → Prop} : w_X7_in a b c μ Q = w_X6_within a b c μ Q := rfl
theorem W_in {a lo hi : Nat} {μ : Mem} {Q : Int32 → Prop} (h1 : lo ≤ a) (h2 : a ≤ hi) (hh : hi < 2147483648) (h : Q (nI 1)) : w_X6_within (nI a) (nI lo) (nI hi) μ Q :=
  F_within (by omega) (by omega) hh (by rw [if_pos ⟨h1, h2⟩]; exact h)
theorem MW_in {a lo hi : Nat} {μ : Mem} {Q : Int32 → Prop} (h1 : lo ≤ a) (h2 : a ≤ hi) (hh : hi < 2147483648) (h : Q (nI 1)) : w_X7_in (nI a) (nI lo) (nI hi) μ Q := W_in (μ := μ) h1 h2 hh h
theorem MW_out {x : Int32} {lo hi : Nat} {μ : Mem} {Q : Int32 → Prop} (hx : x < nI lo ∨ nI hi < x) (h : Q (nI 0)) : w_X7_in x (nI lo) (nI hi) μ Q := F_within0 (μ := μ) hx h
theorem W_upto_in {p n : Nat} {μ : Mem} {Q : Int32 → Prop} (hp : p < n) (hn : n < 2147483648) (h : Q (nI 1)) : w_X6_within (nI p) (nI 0) (nI n - nI 1) μ Q := by
  rw [z_sub (by omega)]
  exact W_in (Nat.zero_le _) (by omega) (by omega) h
theorem W_upto_out {a : Int32} {n : Nat} {μ : Mem} {Q : Int32 → Prop} (ha : ∀ p, p < n → a ≠ nI p) (hn : n < 2147483648) (h : Q (nI 0)) : w_X6_within a (nI 0) (nI n - nI 1) μ Q := by
  unfold w_X6_within
  refine ⟨fun _ => h, fun q => ?_⟩
  have q0 : ¬ a < 0 := q
  obtain ⟨j, hj, rfl⟩ := nI_of q0
  refine ⟨fun _ => h, fun q2 => ?_⟩
  exfalso
  apply q2
  rcases Nat.eq_zero_or_pos n with z | z
  · subst z
    have e : (nI 0 - nI 1 : Int32) = -1 := by decide
    rw [e]; exact z_m1le (by omega)
  · rw [z_sub (by omega), z_lt (by omega) (by omega)]
    rcases Nat.lt_or_ge j n with y | y
    · exact absurd rfl (ha j y)
    · omega
theorem upto (a : Int32) (n : Nat) : (∃ p, p < n ∧ a = nI p) ∨ ∀ p, p < n → a ≠ nI p := by
  by_cases h : ∃ p, p < n ∧ a = nI p
  · exact Or.inl h
  · exact Or.inr (fun p hp e => h ⟨p, hp, e⟩)
section SMALL
variable {μ ν : Mem} {co : Co} {r : Ro} {U : Un} {T : Tx} {fp : Int32} {sd : Nat} {I : Im} {G K : Gt} {Q : Int32 → Prop}
theorem F_isPost_in (h : RF μ co r U T fp sd I G K) (hv : vCo co) {p : Nat} (hp : p < co 0 3) (q : Q (nI 1)) : w_X6_isPost (nI p) μ Q := by
  have hn := hv.2.2.2.1
  unfold w_X6_isPost; rw [h.2.1.1.2.2.2.1]; exact W_upto_in hp (by omega) ⟨Or.inr rfl, q⟩
theorem F_isPost_out (h : RF μ co r U T fp sd I G K) (hv : vCo co) {a : Int32} (hp : ∀ p, p < co 0 3 → a ≠ nI p) (q : Q (nI 0)) : w_X6_isPost a μ Q := by
  have hn := hv.2.2.2.1
  unfold w_X6_isPost; rw [h.2.1.1.2.2.2.1]; exact W_upto_out hp (by omega) ⟨Or.inl rfl, q⟩
theorem F_isCell_in (h : RF μ co r U T fp sd I G K) (hv : vCo co) {p : Nat} (hp : p < co 0 0) (q : Q (nI 1)) : w_X6_isCell (nI p) μ Q := by
  have hn := hv.1
  unfold w_X6_isCell; rw [h.2.1.1.1]; exact W_upto_in hp (by omega) ⟨Or.inr rfl, q⟩
theorem F_isCell_out (h : RF μ co r U T fp sd I G K) (hv : vCo co) {a : Int32} (hp : ∀ p, p < co 0 0 → a ≠ nI p) (q : Q (nI 0)) : w_X6_isCell a μ Q := by
  have hn := hv.1
  unfold w_X6_isCell; rw [h.2.1.1.1]; exact W_upto_out hp (by omega) ⟨Or.inl rfl, q⟩
theorem F_isGoat_in (h : RF μ co r U T fp sd I G K) (hv : vCo co) {p : Nat} (hp : p < co 0 4) (q : Q (nI 1)) : w_X6_isGoat (nI p) μ Q := by
  have hn := hv.2.2.2.2.1
  unfold w_X6_isGoat; rw [h.2.1.1.2.2.2.2]; exact W_upto_in hp (by omega) ⟨Or.inr rfl, q⟩
theorem F_isGoat_out (h : RF μ co r U T fp sd I G K) (hv : vCo co) {a : Int32} (hp : ∀ p, p < co 0 4 → a ≠ nI p) (q : Q (nI 0)) : w_X6_isGoat a μ Q := by
  have hn := hv.2.2.2.2.1
  unfold w_X6_isGoat; rw [h.2.1.1.2.2.2.2]; exact W_upto_out hp (by omega) ⟨Or.inl rfl, q⟩
theorem F_isBare (h : RF μ co r U T fp sd I G K) (hv : vCo co) (q : Q (nI (if co 0 0 = 0 then 1 else 0))) : w_X6_isBare μ Q := by
  have hn := hv.1
  unfold w_X6_isBare; rw [h.2.1.1.1]
  simp (disch := omega) only [z_le, z_lt, z_eq, z_lt0, z_0le, z_eq0, z_le0, z_0lt, z_cl, z_in, z_add, z_mul, z_m1ne, z_m1ne', z_m1lt0, z_m1lt, z_ltm1, forall_eq, true_implies, false_implies, implies_true, true_and, and_true, false_and, and_false, not_true_eq_false, not_false_eq_true, ite_true, ite_false]
  refine ⟨fun z => ?_, fun z => ?_⟩
  · rw [if_neg z] at q; exact q
  · rw [if_pos z] at q; exact q
theorem F_isVillage_in {v : Nat} (hv : v < 2) (q : Q (nI 1)) : w_X6_isVillage (nI v) μ Q := by
  unfold w_X6_isVillage; exact W_in (Nat.zero_le _) (by omega) (by decide) ⟨Or.inr rfl, q⟩
theorem F_isVillage_out {a : Int32} (hv : a < nI 0 ∨ nI 1 < a) (q : Q (nI 0)) : w_X6_isVillage a μ Q := by
  unfold w_X6_isVillage; exact F_within0 hv ⟨Or.inl rfl, q⟩
theorem M_isPost_in (h : RM ν co r U T fp sd I G K) (hv : vCo co) {p : Nat} (hp : p < co 0 3) (q : Q (nI 1)) : w_X7_isPost (nI p) ν Q := by
  have hn := hv.2.2.2.1
  unfold w_X7_isPost; rw [h.1.1.2.2.2.1, in_w]; exact W_upto_in hp (by omega) ⟨Or.inr rfl, q⟩
theorem M_isPost_out (h : RM ν co r U T fp sd I G K) (hv : vCo co) {a : Int32} (hp : ∀ p, p < co 0 3 → a ≠ nI p) (q : Q (nI 0)) : w_X7_isPost a ν Q := by
  have hn := hv.2.2.2.1
  unfold w_X7_isPost; rw [h.1.1.2.2.2.1, in_w]; exact W_upto_out hp (by omega) ⟨Or.inl rfl, q⟩
theorem M_isCell_in (h : RM ν co r U T fp sd I G K) (hv : vCo co) {p : Nat} (hp : p < co 0 0) (q : Q (nI 1)) : w_X7_isCell (nI p) ν Q := by
  have hn := hv.1
  unfold w_X7_isCell; rw [h.1.1.2.1, in_w]; exact W_upto_in hp (by omega) ⟨Or.inr rfl, q⟩
theorem M_isCell_out (h : RM ν co r U T fp sd I G K) (hv : vCo co) {a : Int32} (hp : ∀ p, p < co 0 0 → a ≠ nI p) (q : Q (nI 0)) : w_X7_isCell a ν Q := by
  have hn := hv.1
  unfold w_X7_isCell; rw [h.1.1.2.1, in_w]; exact W_upto_out hp (by omega) ⟨Or.inl rfl, q⟩
theorem M_isVillage_in {v : Nat} (hv : v < 2) (q : Q (nI 1)) : w_X7_isVillage (nI v) ν Q := by
  unfold w_X7_isVillage; rw [in_w]; exact W_in (Nat.zero_le _) (by omega) (by decide) ⟨Or.inr rfl, q⟩
theorem M_isVillage_out {a : Int32} (hv : a < nI 0 ∨ nI 1 < a) (q : Q (nI 0)) : w_X7_isVillage a ν Q := by
  unfold w_X7_isVillage; rw [in_w]; exact F_within0 hv ⟨Or.inl rfl, q⟩
theorem M_need0 (q : Q (-1000000002)) : w_X7_need (nI 0) ν Q := by
  unfold w_X7_need; exact ⟨fun z => absurd (by decide) z, fun _ => q⟩
theorem M_need1 (h : RM ν co r U T fp sd I G K) (q : Q (if co 0 0 = 0 then (-1000000003) else nI 0)) : w_X7_need (nI 1) ν Q := by
  unfold w_X7_need; rw [h.1.1.1]
  refine ⟨fun _ => ?_, fun z => absurd z (by decide)⟩
  by_cases e : co 0 0 = 0
  · rw [if_pos e] at q ⊢; exact ⟨fun z => absurd (by decide) z, fun _ => q⟩
  · rw [if_neg e] at q ⊢; exact ⟨fun _ => q, fun z => absurd z (by decide)⟩
end SMALL
/-! hours -/
def hourN (co : Co) (r : Ro) (U : Un) : Nat → Nat × Ro × Un
  | 0 => (0, r, U)
  | i + 1 => ((hourN co r U i).1 + sumN (pasT co (hourN co r U i).2.1 (co 2 ((hourN co r U i).2.1 1)) (co 1 ((hourN co r U i).2.1 1))) (co 0 3), pasR co (hourN co r U i).2.1 (co 2 ((hourN co r U i).2.1 1)) (co 1 ((hourN co r U i).2.1 1)) false, remU (hourN co r U i).2.2 (hourN co r U i).2.1)
theorem hourN_v {co : Co} {r : Ro} {U : Un} {B : Nat} (hv : vCo co) (hr : vRo co r B) : ∀ i, vRo co (hourN co r U i).2.1 (B + i) := by
  intro i
  induction i with
  | zero => exact hr
  | succ i ih => exact vRo_pas hv ih
theorem hourN_U {co : Co} {r : Ro} {U : Un} {B : Nat} (hv : vCo co) (hr : vRo co r B) (hU : U.1 ≤ 30) (hUv : ∀ i, i < U.1 → vRo co (U.2 i) 9060) : ∀ i, B + i ≤ 9060 → (hourN co r U i).2.2.1 ≤ 30 ∧ ∀ k, k < (hourN co r U i).2.2.1 → vRo co ((hourN co r U i).2.2.2 k) 9060 := by
  intro i
  induction i with
  | zero => intro _; exact ⟨hU, hUv⟩
  | succ i ih =>
    intro hB
    obtain ⟨h1, h2⟩ := ih (by omega)
    exact ⟨remU_le h1, remU_v h1 h2 (vRo_mono (hourN_v hv hr i) (by omega))⟩
theorem sumT_le {co : Co} {r : Ro} {B fog side : Nat} (hv : vCo co) (hr : vRo co r B) (hf : fog ≤ 40) : sumN (pasT co r fog side) (co 0 3) ≤ 240 := by
  have hn := hv.2.2.2.1
  have := sumN_le (f := pasT co r fog side) (c := 40) (co 0 3) (fun p _ => by
    have h1 := lead_le (set := hs co (r 0)) (side := side) (fog := litF co r fog) (p := p) hr
    have h2 := litF_le (co := co) (r := r) (fog := fog)
    unfold pasT; omega)
  omega
theorem F_hours {μ : Mem} {co : Co} {r : Ro} {U : Un} {T : Tx} {fp : Int32} {sd : Nat} {I : Im} {G K : Gt} {n : Nat} {Q : Int32 → Mem → Prop} (hv : vCo co) (hcells : co 0 0 ≠ 0) (hr : vRo co r 9000) (hU : U.1 ≤ 30) (hUv : ∀ i, i < U.1 → vRo co (U.2 i) 9060) (hn : n ≤ 60) (hF : RF μ co r U T fp sd I G K)
    (h : ∀ μ' : Mem, RF μ' co (hourN co r U n).2.1 (hourN co r U n).2.2 T fp sd I G K → Q (nI (hourN co r U n).1) μ') : w_X6_hour_43 (nI n) (nI 0) (nI 0) μ Q := by
  have hn6 := hv.2.2.2.1
  unfold w_X6_hour_43
  intro X hX
  refine cnt_dn (P := fun i => i ≤ n → ∀ μ1 : Mem, RF μ1 co (hourN co r U i).2.1 (hourN co r U i).2.2 T fp sd I G K → X (nI (hourN co r U i).1) (nI i) μ1) n ?_ ?_ (by omega) μ hF
  · intro _ μ1 f1
    apply hX
    unfold s_X6_hour_43
    exact ⟨fun _ => h μ1 f1, fun q => absurd ((z_le (by omega) (by omega)).mpr (Nat.le_refl _)) q⟩
  · intro i hi ih _ μ1 f1
    apply hX
    unfold s_X6_hour_43
    rw [z_le (by omega) (by omega)]
    refine ⟨fun q => absurd hi (by omega), fun _ => ?_⟩
    have hri := hourN_v (U := U) hv hr i
    obtain ⟨hUi, hUvi⟩ := hourN_U hv hr hU hUv i (by omega)
    refine F_remember hn6 f1.2.2.2.1 hri hUi f1.2.2.2.2.1 (fun μ2 g2 p2 => ?_)
    have f2 := f1.past g2 p2
    have hh := co_hour hv hri.2.1
    rw [f2.2.2.2.1.1.2.1]
    refine F_sideAt f2.1.1 f2.2.1 hv hri.2.1 (F_fogAt f2.1.1 f2.2.1 hv hri.2.1 ?_)
    refine F_passHour (c := false) st_25 f2.1.1 f2.2.1 f2.2.2.2.1 hv hcells hri (by omega) hh.1 hh.2 (fun μ3 g3 s3 t3 => ?_)
    simp (disch := omega) only [z_le, z_lt, z_eq, z_lt0, z_0le, z_eq0, z_le0, z_0lt, z_cl, z_in, z_add, z_mul, z_m1ne, z_m1ne', z_m1lt0, z_m1lt, z_ltm1, forall_eq, true_implies, false_implies, implies_true, true_and, and_true, false_and, and_false, not_true_eq_false, not_false_eq_true, ite_true, ite_false]
    exact ih (by omega) μ3 (f2.now g3 s3)
theorem M_hours {ν : Mem} {co : Co} {r : Ro} {U : Un} {T : Tx} {fp : Int32} {sd : Nat} {I : Im} {G K : Gt} {n : Nat} {Q : Int32 → Mem → Prop} (hv : vCo co) (hcells : co 0 0 ≠ 0) (hr : vRo co r 9000) (hU : U.1 ≤ 30) (hUv : ∀ i, i < U.1 → vRo co (U.2 i) 9060) (hn : n ≤ 60) (hM : RM ν co r U T fp sd I G K)
    (h : ∀ ν' : Mem, RM ν' co (hourN co r U n).2.1 (hourN co r U n).2.2 T fp sd I G K → Q (nI (hourN co r U n).1) ν') : w_X7_hour_38 (nI n) (nI 0) (nI 0) ν Q := by
  unfold w_X7_hour_38
  intro X hX
  refine cnt_dn (P := fun i => i ≤ n → ∀ ν1 : Mem, RM ν1 co (hourN co r U i).2.1 (hourN co r U i).2.2 T fp sd I G K → X (nI (hourN co r U i).1) (nI i) ν1) n ?_ ?_ (by omega) ν hM
  · intro _ ν1 f1
    apply hX
    unfold s_X7_hour_38
    exact ⟨fun _ => h ν1 f1, fun q => absurd ((z_le (by omega) (by omega)).mpr (Nat.le_refl _)) q⟩
  · intro i hi ih _ ν1 f1
    apply hX
    unfold s_X7_hour_38
    rw [z_le (by omega) (by omega)]
    refine ⟨fun q => absurd hi (by omega), fun _ => ?_⟩
    have hri := hourN_v (U := U) hv hr i
    obtain ⟨hUi, hUvi⟩ := hourN_U hv hr hU hUv i (by omega)
    refine M_remember f1.2.1 hUi f1.2.2.1 (fun ν2 g2 p2 => ?_)
    have f2 := f1.past g2 p2
    refine M_passesOn (Or.inl rfl) f2.1 f2.2.1 hv hcells hri (by omega) (fun ν3 g3 s3 t3 => ?_)
    simp (disch := omega) only [z_le, z_lt, z_eq, z_lt0, z_0le, z_eq0, z_le0, z_0lt, z_cl, z_in, z_add, z_mul, z_m1ne, z_m1ne', z_m1lt0, z_m1lt, z_ltm1, forall_eq, true_implies, false_implies, implies_true, true_and, and_true, false_and, and_false, not_true_eq_false, not_false_eq_true, ite_true, ite_false]
    exact ih (by omega) ν3 (f2.now g3 s3)
theorem P_hour {μ ν : Mem} {a : Int32} (h : Rel μ ν) : w_X6_hour a μ (fun x μ' => w_X7_hour a ν (fun y ν' => x = y ∧ Rel μ' ν')) := by
  obtain ⟨co, r, U, T, fp, sd, I, G, K, hA, hF, hM⟩ := h
  have hv := hA.1
  have hr := hA.2.1
  unfold w_X6_hour w_X7_hour
  have e0 := hM.2.1 0 (by decide)
  rcases z_cases a 1 60 (by decide) (by decide) with ⟨n, h1, h2, rfl⟩ | ho
  · refine W_in h1 h2 (by decide) ⟨fun _ => F_isBare hF hv ?_, fun z => absurd z (by decide)⟩
    by_cases hc : co 0 0 = 0
    · rw [if_pos hc]
      refine ⟨fun z => absurd z (by decide), fun _ => ?_⟩
      refine MW_in h1 h2 (by decide) (M_need1 hM ?_)
      rw [if_pos hc]
      exact ⟨fun z => absurd z (by decide), fun _ => ⟨rfl, co, r, U, T, fp, sd, I, G, K, hA, hF, hM⟩⟩
    · rw [if_neg hc, hF.2.2.2.1.1.1]
      have hr0 := hr.1
      refine ⟨fun _ => ?_, fun z => absurd (by decide) z⟩
      rw [z_le (by omega) (by decide)]
      refine ⟨fun q => ?_, fun q => ?_⟩
      · have hr9 : vRo co r 9000 := ⟨q, hr.2⟩
        refine F_hours hv hc hr9 hA.2.2.1.1 hA.2.2.1.2 h2 hF (fun μ1 f1 => ?_)
        refine MW_in h1 h2 (by decide) (M_need1 hM ?_)
        rw [if_neg hc]
        refine ⟨fun _ => ?_, fun z => absurd (by decide) z⟩
        simp (disch := omega) only [z_le, z_lt, z_eq, z_lt0, z_0le, z_eq0, z_le0, z_0lt, z_cl, z_in, z_add, z_mul, z_m1ne, z_m1ne', z_m1lt0, z_m1lt, z_ltm1, forall_eq, true_implies, false_implies, implies_true, true_and, and_true, false_and, and_false, not_true_eq_false, not_false_eq_true, ite_true, ite_false, e0]
        refine ⟨by omega, fun _ => ?_, fun z => absurd q z⟩
        refine M_hours hv hc hr9 hA.2.2.1.1 hA.2.2.1.2 h2 hM (fun ν1 g1 => ?_)
        have hU := hourN_U hv hr9 hA.2.2.1.1 hA.2.2.1.2 n (by omega)
        exact ⟨rfl, co, _, _, T, fp, sd, I, G, K, ⟨hv, vRo_mono (hourN_v (U := U) hv hr9 n) (by omega), hU, hA.2.2.2⟩, f1, g1⟩
      · refine MW_in h1 h2 (by decide) (M_need1 hM ?_)
        rw [if_neg hc]
        refine ⟨fun _ => ?_, fun z => absurd (by decide) z⟩
        simp (disch := omega) only [z_le, z_lt, z_eq, z_lt0, z_0le, z_eq0, z_le0, z_0lt, z_cl, z_in, z_add, z_mul, z_m1ne, z_m1ne', z_m1lt0, z_m1lt, z_ltm1, forall_eq, true_implies, false_implies, implies_true, true_and, and_true, false_and, and_false, not_true_eq_false, not_false_eq_true, ite_true, ite_false, e0]
        refine ⟨by omega, fun z => absurd z q, fun _ => (by first | exact ⟨rfl, co, r, U, T, fp, sd, I, G, K, hA, hF, hM⟩ | exact ⟨co, r, U, T, fp, sd, I, G, K, hA, hF, hM⟩)⟩
  · refine F_within0 ho ⟨fun z => absurd (by decide) z, fun _ => ?_⟩
    refine MW_out ho (M_need0 ?_)
    exact ⟨fun z => absurd z (by decide), fun _ => ⟨rfl, co, r, U, T, fp, sd, I, G, K, hA, hF, hM⟩⟩
/-! one deed that is not an hour: both sides remember, then change -/
section DEED
variable {μ ν : Mem} {co : Co} {r : Ro} {U : Un} {T : Tx} {fp : Int32} {sd : Nat} {I : Im} {G K : Gt}
theorem F_rem (hA : VA co r U T sd I G K) (hF : RF μ co r U T fp sd I G K) {Q : Mem → Prop} (h : ∀ μ' : Mem, RF μ' co r (remU U r) T fp sd I G K → Q μ') : w_X2_remember 25 μ Q :=
  F_remember hA.1.2.2.2.1 hF.2.2.2.1 hA.2.1 hA.2.2.1.1 hF.2.2.2.2.1 (fun μ2 g2 p2 => h μ2 (hF.past g2 p2))
theorem M_rem (hA : VA co r U T sd I G K) (hM : RM ν co r U T fp sd I G K) {Q : Mem → Prop} (h : ∀ ν' : Mem, RM ν' co r (remU U r) T fp sd I G K → Q ν') : w_X7_remember ν Q :=
  M_remember hM.2.1 hA.2.2.1.1 hM.2.2.1 (fun ν2 g2 p2 => h ν2 (hM.past g2 p2))
theorem VA_rem (hA : VA co r U T sd I G K) {r1 : Ro} (h1 : vRo co r1 9060) : VA co r1 (remU U r) T sd I G K :=
  ⟨hA.1, h1, ⟨remU_le hA.2.2.1.1, remU_v hA.2.2.1.1 hA.2.2.1.2 hA.2.1⟩, hA.2.2.2⟩
theorem done {x : Int32} (hA : VA co r U T sd I G K) (hF : RF μ co r U T fp sd I G K) (hM : RM ν co r U T fp sd I G K) : x = x ∧ Rel μ ν := ⟨rfl, co, r, U, T, fp, sd, I, G, K, hA, hF, hM⟩
end DEED
theorem P_carry {μ ν : Mem} {a : Int32} (h : Rel μ ν) : w_X6_carry a μ (fun x μ' => w_X7_carry a ν (fun y ν' => x = y ∧ Rel μ' ν')) := by
  obtain ⟨co, r, U, T, fp, sd, I, G, K, hA, hF, hM⟩ := h
  have hv := hA.1
  unfold w_X6_carry w_X7_carry
  rcases z_cases a 0 1 (by decide) (by decide) with ⟨v, h1, h2, rfl⟩ | ho
  · refine F_isVillage_in (by omega) ⟨fun _ => F_isBare hF hv ?_, fun z => absurd z (by decide)⟩
    by_cases hc : co 0 0 = 0
    · rw [if_pos hc]
      refine ⟨fun z => absurd z (by decide), fun _ => ?_⟩
      refine M_isVillage_in (by omega) ⟨fun _ => ?_, fun z => absurd z (by decide)⟩
      rw [hM.1.1.1, if_pos hc]
      exact ⟨fun z => absurd (by decide) z, fun _ => done hA hF hM⟩
    · rw [if_neg hc]
      refine ⟨fun _ => F_rem hA hF (fun μ1 f1 => ?_), fun z => absurd (by decide) z⟩
      refine F_emptyJarsOf st_25 f1.1.1 f1.2.1 f1.2.2.2.1 hv hA.2.1 (by omega) (fun μ2 g2 s2 => ?_)
      have f2 := f1.now g2.P s2
      refine M_isVillage_in (by omega) ⟨fun _ => ?_, fun z => absurd z (by decide)⟩
      rw [hM.1.1.1, if_neg hc]
      refine ⟨fun _ => M_rem hA hM (fun ν1 m1 => ?_), fun z => absurd z (by decide)⟩
      refine M_carries (Or.inl rfl) m1.1 m1.2.1 hv hA.2.1 (by omega) (fun ν2 n2 t2 => ?_)
      exact done (VA_rem hA (vRo_car hv hA.2.1 (by omega))) f2 (m1.now n2.M t2)
  · refine F_isVillage_out ho ⟨fun z => absurd (by decide) z, fun _ => ?_⟩
    exact M_isVillage_out ho ⟨fun z => absurd (by decide) z, fun _ => done hA hF hM⟩
theorem vRo_jar {co : Co} {r : Ro} {B H p x : Nat} (hr : vRH co r B H) (hn : co 0 3 ≤ 6) (hp : p < co 0 3) (hx : x ≤ co 3 p) : vRH co (upN r (9 + p) x) B H := by
  obtain ⟨r0, r1, r2, r3, r4, r5, r6, r7, r8, hrp, inj⟩ := hr
  refine ⟨?_, ?_, ?_, ?_, ?_, ?_, ?_, ?_, ?_, fun q hq => ⟨?_, ?_, ?_⟩, fun a b ha hb h => ?_⟩
  · rw [upN_ne (by omega)]; exact r0
  · rw [upN_ne (by omega)]; exact r1
  · rw [upN_ne (by omega)]; exact r2
  · rw [upN_ne (by omega)]; exact r3
  · rw [upN_ne (by omega)]; exact r4
  · rw [upN_ne (by omega)]; exact r5
  · rw [upN_ne (by omega)]; exact r6
  · rw [upN_ne (by omega)]; exact r7
  · rw [upN_ne (by omega)]; exact r8
  · by_cases e : q = p
    · rw [e, upN_same]; exact hx
    · rw [upN_ne (by omega)]; exact (hrp q hq).1
  · rw [upN_ne (by omega)]; exact (hrp q hq).2.1
  · rw [upN_ne (by omega)]; exact (hrp q hq).2.2
  · rw [upN_ne (by omega), upN_ne (by omega)] at h; exact inj a b ha hb h
theorem M_licks {ν : Mem} {p x : Nat} {co : Co} {r : Ro} {Q : Mem → Prop} (hn : co 0 3 ≤ 6) (hp : p < co 0 3) (hs : StR ν 14 r) (hj : r (9 + p) < 1000000) (hx : x < 1000000) (h : Q (sI ν 14 (9 + p) (nI (r (9 + p) - x)))) : w_X7_licks (nI p) (nI x) ν Q := by
  unfold w_X7_licks w_X7_licks_36
  have e := hs (9 + p) (by omega)
  simp (disch := omega) only [z_le, z_lt, z_eq, z_lt0, z_0le, z_eq0, z_le0, z_0lt, z_cl, z_in, z_add, z_mul, z_m1ne, z_m1ne', z_m1lt0, z_m1lt, z_ltm1, forall_eq, true_implies, false_implies, implies_true, true_and, and_true, false_and, and_false, not_true_eq_false, not_false_eq_true, ite_true, ite_false, e]
  refine ⟨by omega, fun q => ⟨by omega, ?_⟩, fun q => ⟨by omega, by omega, ?_⟩⟩
  · rw [show r (9 + p) - x = 0 by omega] at h; exact h
  · rw [z_sub (by omega)]; exact h
theorem P_lick {μ ν : Mem} {a b : Int32} (h : Rel μ ν) : w_X6_lick a b μ (fun x μ' => w_X7_lick a b ν (fun y ν' => x = y ∧ Rel μ' ν')) := by
  obtain ⟨co, r, U, T, fp, sd, I, G, K, hA, hF, hM⟩ := h
  have hv := hA.1
  have hn := hv.2.2.2.1
  unfold w_X6_lick w_X7_lick
  rcases upto a (co 0 3) with ⟨p, hp, rfl⟩ | ho
  · refine F_isPost_in hF hv hp ⟨fun _ => ?_, fun z => absurd z (by decide)⟩
    rcases z_cases b 1 99 (by decide) (by decide) with ⟨x, h1, h2, rfl⟩ | hb
    · refine W_in h1 h2 (by decide) ⟨fun _ => F_rem hA hF (fun μ1 f1 => ?_), fun z => absurd z (by decide)⟩
      have hjl := (hA.2.1.2.2.2.2.2.2.2.2.2.1 p hp).1
      have hsz := (hv.2.2.2.2.2.2.2.2.1 p hp).2.1
      have ej := (f1.2.2.2.1.2.1 p hp).2.2
      refine F_lose st_25 (by omega) ej (by omega) (by omega) ?_
      have f2 := f1.now ((FrS.rf (b := 25) (μ := μ1)).sI (by omega)).P (f1.2.2.2.1.updJ (x := r (9 + p) - x) hp hn)
      refine M_isPost_in hM hv hp ⟨fun _ => MW_in h1 h2 (by decide) ⟨fun _ => M_rem hA hM (fun ν1 m1 => ?_), fun z => absurd z (by decide)⟩, fun z => absurd z (by decide)⟩
      refine M_licks hn hp m1.2.1 (by omega) (by omega) ?_
      simp (disch := omega) only [z_le, z_lt, z_eq, z_lt0, z_0le, z_eq0, z_le0, z_0lt, z_cl, z_in, z_add, z_mul, z_m1ne, z_m1ne', z_m1lt0, z_m1lt, z_ltm1, forall_eq, true_implies, false_implies, implies_true, true_and, and_true, false_and, and_false, not_true_eq_false, not_false_eq_true, ite_true, ite_false]
      rw [sI_same]
      exact ⟨by omega, done (VA_rem hA (vRo_jar hA.2.1 hn hp (by omega))) f2 (m1.now ((FrB.rf (b := 14) (ν := ν1)).sI).M m1.2.1.upd)⟩
    · refine F_within0 hb ⟨fun z => absurd (by decide) z, fun _ => ?_⟩
      exact M_isPost_in hM hv hp ⟨fun _ => MW_out hb ⟨fun z => absurd (by decide) z, fun _ => done hA hF hM⟩, fun z => absurd z (by decide)⟩
  · refine F_isPost_out hF hv ho ⟨fun z => absurd (by decide) z, fun _ => ?_⟩
    exact M_isPost_out hM hv ho ⟨fun z => absurd (by decide) z, fun _ => done hA hF hM⟩
