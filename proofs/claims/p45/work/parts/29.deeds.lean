theorem W_in {a lo hi : Nat} {μ : Mem} {Q : Int32 → Prop} (h1 : lo ≤ a) (h2 : a ≤ hi) (hh : hi < 2147483648) (h : Q (nI 1)) : w_X6_within (nI a) (nI lo) (nI hi) μ Q :=
  F_within (by omega) (by omega) hh (by rw [if_pos ⟨h1, h2⟩]; exact h)
theorem W_upto_in {p n : Nat} {μ : Mem} {Q : Int32 → Prop} (hp : p < n) (hn : n < 2147483648) (h : Q (nI 1)) : w_X6_within (nI p) (nI 0) (nI n - nI 1) μ Q := by
  rw [z_sub (by omega)]
  exact W_in (Nat.zero_le _) (by omega) (by omega) h
theorem W_upto_out {a : Int32} {n : Nat} {μ : Mem} {Q : Int32 → Prop} (ha : ∀ p, p < n → a ≠ nI p) (hn : n < 2147483648) (h : Q (nI 0)) : w_X6_within a (nI 0) (nI n - nI 1) μ Q := by
  unfold w_X6_within
  refine ⟨fun _ => h, fun q => ?_⟩
  have q0 : ¬ a < 0 := q
  obtain ⟨j, hj, rfl⟩ := nI_of q0
  refine ⟨fun _ => h, fun q2 => ?_⟩
  exfalso
  apply q2
  rcases Nat.eq_zero_or_pos n with z | z
  · subst z
    have e : (nI 0 - nI 1 : Int32) = -1 := by decide
    rw [e]; exact z_m1le (by omega)
  · rw [z_sub (by omega), z_lt (by omega) (by omega)]
    rcases Nat.lt_or_ge j n with y | y
    · exact absurd rfl (ha j y)
    · omega
theorem upto (a : Int32) (n : Nat) : (∃ p, p < n ∧ a = nI p) ∨ ∀ p, p < n → a ≠ nI p := by
  by_cases h : ∃ p, p < n ∧ a = nI p
  · exact Or.inl h
  · exact Or.inr (fun p hp e => h ⟨p, hp, e⟩)
section SMALL
variable {μ ν : Mem} {co : Co} {r : Ro} {U : Un} {T : Tx} {fp : Int32} {sd : Nat} {I : Im} {G K : Gt} {Q : Int32 → Prop}
theorem F_isPost_in (h : RF μ co r U T fp sd I G K) (hv : vCo co) {p : Nat} (hp : p < co 0 3) (q : Q (nI 1)) : w_X6_isPost (nI p) μ Q := by
  have hn := hv.2.2.2.1
  unfold w_X6_isPost; rw [h.2.1.1.2.2.2.1]; exact W_upto_in hp (by omega) ⟨Or.inr rfl, q⟩
theorem F_isPost_out (h : RF μ co r U T fp sd I G K) (hv : vCo co) {a : Int32} (hp : ∀ p, p < co 0 3 → a ≠ nI p) (q : Q (nI 0)) : w_X6_isPost a μ Q := by
  have hn := hv.2.2.2.1
  unfold w_X6_isPost; rw [h.2.1.1.2.2.2.1]; exact W_upto_out hp (by omega) ⟨Or.inl rfl, q⟩
theorem F_isCell_in (h : RF μ co r U T fp sd I G K) (hv : vCo co) {p : Nat} (hp : p < co 0 0) (q : Q (nI 1)) : w_X6_isCell (nI p) μ Q := by
  have hn := hv.1
  unfold w_X6_isCell; rw [h.2.1.1.1]; exact W_upto_in hp (by omega) ⟨Or.inr rfl, q⟩
theorem F_isCell_out (h : RF μ co r U T fp sd I G K) (hv : vCo co) {a : Int32} (hp : ∀ p, p < co 0 0 → a ≠ nI p) (q : Q (nI 0)) : w_X6_isCell a μ Q := by
  have hn := hv.1
  unfold w_X6_isCell; rw [h.2.1.1.1]; exact W_upto_out hp (by omega) ⟨Or.inl rfl, q⟩
theorem F_isGoat_in (h : RF μ co r U T fp sd I G K) (hv : vCo co) {p : Nat} (hp : p < co 0 4) (q : Q (nI 1)) : w_X6_isGoat (nI p) μ Q := by
  have hn := hv.2.2.2.2.1
  unfold w_X6_isGoat; rw [h.2.1.1.2.2.2.2]; exact W_upto_in hp (by omega) ⟨Or.inr rfl, q⟩
theorem F_isGoat_out (h : RF μ co r U T fp sd I G K) (hv : vCo co) {a : Int32} (hp : ∀ p, p < co 0 4 → a ≠ nI p) (q : Q (nI 0)) : w_X6_isGoat a μ Q := by
  have hn := hv.2.2.2.2.1
  unfold w_X6_isGoat; rw [h.2.1.1.2.2.2.2]; exact W_upto_out hp (by omega) ⟨Or.inl rfl, q⟩
theorem F_isBare (h : RF μ co r U T fp sd I G K) (hv : vCo co) (q : Q (nI (if co 0 0 = 0 then 1 else 0))) : w_X6_isBare μ Q := by
  have hn := hv.1
  unfold w_X6_isBare; rw [h.2.1.1.1]
  simp (disch := omega) only [z_le, z_lt, z_eq, z_lt0, z_0le, z_eq0, z_le0, z_0lt, z_cl, z_in, z_add, z_mul, z_m1ne, z_m1ne', z_m1lt0, z_m1lt, z_ltm1, forall_eq, true_implies, false_implies, implies_true, true_and, and_true, false_and, and_false, not_true_eq_false, not_false_eq_true, ite_true, ite_false]
  refine ⟨fun z => ?_, fun z => ?_⟩
  · rw [if_neg z] at q; exact q
  · rw [if_pos z] at q; exact q
theorem F_isVillage_in {v : Nat} (hv : v < 2) (q : Q (nI 1)) : w_X6_isVillage (nI v) μ Q := by
  unfold w_X6_isVillage; exact W_in (Nat.zero_le _) (by omega) (by decide) ⟨Or.inr rfl, q⟩
theorem F_isVillage_out {a : Int32} (hv : a < nI 0 ∨ nI 1 < a) (q : Q (nI 0)) : w_X6_isVillage a μ Q := by
  unfold w_X6_isVillage; exact F_within0 hv ⟨Or.inl rfl, q⟩
end SMALL
/-! hours -/
def hourN (co : Co) (r : Ro) (U : Un) : Nat → Nat × Ro × Un
  | 0 => (0, r, U)
  | i + 1 => ((hourN co r U i).1 + sumN (pasT co (hourN co r U i).2.1 (co 2 ((hourN co r U i).2.1 1)) (co 1 ((hourN co r U i).2.1 1))) (co 0 3), pasR co (hourN co r U i).2.1 (co 2 ((hourN co r U i).2.1 1)) (co 1 ((hourN co r U i).2.1 1)) false, remU (hourN co r U i).2.2 (hourN co r U i).2.1)
theorem hourN_v {co : Co} {r : Ro} {U : Un} {B : Nat} (hv : vCo co) (hr : vRo co r B) : ∀ i, vRo co (hourN co r U i).2.1 (B + i) := by
  intro i
  induction i with
  | zero => exact hr
  | succ i ih => exact vRo_pas hv ih
theorem hourN_U {co : Co} {r : Ro} {U : Un} {B : Nat} (hv : vCo co) (hr : vRo co r B) (hU : U.1 ≤ 30) (hUv : ∀ i, i < U.1 → vRo co (U.2 i) 9060) : ∀ i, B + i ≤ 9060 → (hourN co r U i).2.2.1 ≤ 30 ∧ ∀ k, k < (hourN co r U i).2.2.1 → vRo co ((hourN co r U i).2.2.2 k) 9060 := by
  intro i
  induction i with
  | zero => intro _; exact ⟨hU, hUv⟩
  | succ i ih =>
    intro hB
    obtain ⟨h1, h2⟩ := ih (by omega)
    exact ⟨remU_le h1, remU_v h1 h2 (vRo_mono (hourN_v hv hr i) (by omega))⟩
theorem sumT_le {co : Co} {r : Ro} {B fog side : Nat} (hv : vCo co) (hr : vRo co r B) (hf : fog ≤ 40) : sumN (pasT co r fog side) (co 0 3) ≤ 240 := by
  have hn := hv.2.2.2.1
  have := sumN_le (f := pasT co r fog side) (c := 40) (co 0 3) (fun p _ => by
    have h1 := lead_le (set := hs co (r 0)) (side := side) (fog := litF co r fog) (p := p) hr
    have h2 := litF_le (co := co) (r := r) (fog := fog)
    unfold pasT; omega)
  omega
theorem F_hours {μ : Mem} {co : Co} {r : Ro} {U : Un} {T : Tx} {fp : Int32} {sd : Nat} {I : Im} {G K : Gt} {n : Nat} {Q : Int32 → Mem → Prop} (hv : vCo co) (hcells : co 0 0 ≠ 0) (hr : vRo co r 9000) (hU : U.1 ≤ 30) (hUv : ∀ i, i < U.1 → vRo co (U.2 i) 9060) (hn : n ≤ 60) (hF : RF μ co r U T fp sd I G K)
    (h : ∀ μ' : Mem, RF μ' co (hourN co r U n).2.1 (hourN co r U n).2.2 T fp sd I G K → Q (nI (hourN co r U n).1) μ') : w_X6_hour_43 (nI n) (nI 0) (nI 0) μ Q := by
  have hn6 := hv.2.2.2.1
  unfold w_X6_hour_43
  intro X hX
  refine cnt_dn (P := fun i => i ≤ n → ∀ μ1 : Mem, RF μ1 co (hourN co r U i).2.1 (hourN co r U i).2.2 T fp sd I G K → X (nI (hourN co r U i).1) (nI i) μ1) n ?_ ?_ (by omega) μ hF
  · intro _ μ1 f1
    apply hX
    unfold s_X6_hour_43
    exact ⟨fun _ => h μ1 f1, fun q => absurd ((z_le (by omega) (by omega)).mpr (Nat.le_refl _)) q⟩
  · intro i hi ih _ μ1 f1
    apply hX
    unfold s_X6_hour_43
    rw [z_le (by omega) (by omega)]
    refine ⟨fun q => absurd hi (by omega), fun _ => ?_⟩
    have hri := hourN_v (U := U) hv hr i
    obtain ⟨hUi, hUvi⟩ := hourN_U hv hr hU hUv i (by omega)
    refine F_remember hn6 f1.2.2.2.1 hri hUi f1.2.2.2.2.1 (fun μ2 g2 p2 => ?_)
    have f2 := f1.past g2 p2
    have hh := co_hour hv hri.2.1
    rw [f2.2.2.2.1.1.2.1]
    refine F_sideAt f2.1.1 f2.2.1 hv hri.2.1 (F_fogAt f2.1.1 f2.2.1 hv hri.2.1 ?_)
    refine F_passHour (c := false) st_25 f2.1.1 f2.2.1 f2.2.2.2.1 hv hcells hri (by omega) hh.1 hh.2 (fun μ3 g3 s3 t3 => ?_)
    simp (disch := omega) only [z_le, z_lt, z_eq, z_lt0, z_0le, z_eq0, z_le0, z_0lt, z_cl, z_in, z_add, z_mul, z_m1ne, z_m1ne', z_m1lt0, z_m1lt, z_ltm1, forall_eq, true_implies, false_implies, implies_true, true_and, and_true, false_and, and_false, not_true_eq_false, not_false_eq_true, ite_true, ite_false]
    exact ih (by omega) μ3 (f2.now g3 s3)
/-! one deed that is not an hour: both sides remember, then change -/
section DEED
variable {μ ν : Mem} {co : Co} {r : Ro} {U : Un} {T : Tx} {fp : Int32} {sd : Nat} {I : Im} {G K : Gt}
theorem F_rem (hA : VA co r U T sd I G K) (hF : RF μ co r U T fp sd I G K) {Q : Mem → Prop} (h : ∀ μ' : Mem, RF μ' co r (remU U r) T fp sd I G K → Q μ') : w_X2_remember 25 μ Q :=
  F_remember hA.1.2.2.2.1 hF.2.2.2.1 hA.2.1 hA.2.2.1.1 hF.2.2.2.2.1 (fun μ2 g2 p2 => h μ2 (hF.past g2 p2))
theorem VA_rem (hA : VA co r U T sd I G K) {r1 : Ro} (h1 : vRo co r1 9060) : VA co r1 (remU U r) T sd I G K :=
  ⟨hA.1, h1, ⟨remU_le hA.2.2.1.1, remU_v hA.2.2.1.1 hA.2.2.1.2 hA.2.1⟩, hA.2.2.2⟩
end DEED
theorem vRo_jar {co : Co} {r : Ro} {B H p x : Nat} (hr : vRH co r B H) (hn : co 0 3 ≤ 6) (hp : p < co 0 3) (hx : x ≤ co 3 p) : vRH co (upN r (9 + p) x) B H := by
  obtain ⟨r0, r1, r2, r3, r4, r5, r6, r7, r8, hrp, inj⟩ := hr
  refine ⟨?_, ?_, ?_, ?_, ?_, ?_, ?_, ?_, ?_, fun q hq => ⟨?_, ?_, ?_⟩, fun a b ha hb h => ?_⟩
  · rw [upN_ne (by omega)]; exact r0
  · rw [upN_ne (by omega)]; exact r1
  · rw [upN_ne (by omega)]; exact r2
  · rw [upN_ne (by omega)]; exact r3
  · rw [upN_ne (by omega)]; exact r4
  · rw [upN_ne (by omega)]; exact r5
  · rw [upN_ne (by omega)]; exact r6
  · rw [upN_ne (by omega)]; exact r7
  · rw [upN_ne (by omega)]; exact r8
  · by_cases e : q = p
    · rw [e, upN_same]; exact hx
    · rw [upN_ne (by omega)]; exact (hrp q hq).1
  · rw [upN_ne (by omega)]; exact (hrp q hq).2.1
  · rw [upN_ne (by omega)]; exact (hrp q hq).2.2
  · rw [upN_ne (by omega), upN_ne (by omega)] at h; exact inj a b ha hb h
