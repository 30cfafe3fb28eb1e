/-! ===== the reference: passes ===== -/
theorem M_passes {ν : Mem} {b fog side : Nat} {co : Co} {r : Ro} {B : Nat} {c : Bool} {Q : Int32 → Mem → Prop} (hb : b = 14 ∨ b = 15) (hc : CoM ν co) (hS : StR ν b r) (hv : vCo co) (hcells : co 0 0 ≠ 0) (hr : vRo co r B) (hB : B < 1000000) (hside : side ≤ 1) (hfog : fog ≤ 40)
    (h : ∀ ν' : Mem, FrM b ν ν' → StR ν' b (pasR co r fog side c) → (∀ p, p < co 0 3 → ν'.1 16 p = nI (pasT co r fog side p)) → Q (nI (sumN (pasT co r fog side) (co 0 3))) ν') : w_X7_passes b (nI fog) (nI side) (nI (if c = true then 1 else 0)) ν Q := by
  have hn := hv.2.2.2.1
  have hvp := hv.2.2.2.2.2.2.2.2.1
  have hrp := hr.2.2.2.2.2.2.2.2.2.1
  have hr0 := hr.1
  have hlit := litF_le (co := co) (r := r) (fog := fog)
  have hd := dl_le hv
  have hr1 := hr.2.1
  have htl : ∀ p, pasT co r fog side p ≤ 40 := fun p => Nat.le_trans (lead_le hr) (by omega)
  unfold w_X7_passes
  have e2 := hS 2 (by decide)
  simp (disch := omega) only [z_le, z_lt, z_eq, z_lt0, z_0le, z_eq0, z_le0, z_0lt, z_cl, z_in, z_add, z_mul, z_m1ne, z_m1ne', z_m1lt0, z_m1lt, z_ltm1, forall_eq, true_implies, false_implies, implies_true, true_and, and_true, false_and, and_false, not_true_eq_false, not_false_eq_true, ite_true, ite_false, e2, hc.1.2.2.1]
  refine ⟨by omega, M_lit (by omega) hv.2.1 hr.2.2.1 ?_⟩
  refine M_hanging hc hv hS (by omega) ?_
  refine M_leads (by omega) (by omega) hc hv hS hr (hs_64 hv) hside (by omega) (fun ν1 f1 t1 => ?_)
  have s1 : StR ν1 b r := hS.fr (f1.2 b (by omega))
  have fin : ∀ ν2 : Mem, ∀ r2 : Ro, FrM b ν ν2 → (∀ p, p < co 0 3 → ν2.1 16 p = nI (pasT co r fog side p)) → StR ν2 b r2 → r2 = pasR co r fog side c → w_X7_passes_167 b (nI fog) (nI side) (nI (if c = true then 1 else 0)) ν2 Q := by
    intro ν2 r2 f2 t2 s2 e
    unfold w_X7_passes_167
    refine M_allTook (hc.frM hb f2) hn t2 ?_
    rw [e] at s2
    exact h ν2 f2 s2 t2
  unfold w_X7_passes_26
  intro X hX
  refine cnt_dn (P := fun i => i ≤ co 0 3 → ∀ ν2 : Mem, FrM b ν ν2 → (∀ p, p < co 0 3 → ν2.1 16 p = nI (pasT co r fog side p)) → StR ν2 b (pj co (pasT co r fog side) r i) → X (nI i) ν2) (co 0 3) ?_ ?_ (by omega) ν1 f1.M t1 s1
  · intro _ ν2 f2 t2 s2
    apply hX
    unfold s_X7_passes_26
    have e20 : ν2.1 0 20 = nI (co 0 3) := by rw [f2.2 0 (by omega) (by decide)]; exact hc.1.2.2.2.1
    rw [e20]
    refine ⟨fun _ => ?_, fun q => absurd ((z_le (by omega) (by omega)).mpr (Nat.le_refl _)) q⟩
    have hpj := vRo_pj (t := pasT co r fog side) hv hr (co 0 3) (Nat.le_refl _)
    have e1 : pj co (pasT co r fog side) r (co 0 3) 1 = r 1 := pj_oth (by decide) (by decide) _ hn
    have e1' := s2 1 (by decide)
    rw [e1] at e1'
    have f3 : FrM b ν (sI ν2 b 1 (nI (r 1 + 1))) := f2.tr ((FrB.rf (b := b) (ν := ν2)).sI).M
    have s3 : StR (sI ν2 b 1 (nI (r 1 + 1))) b (upN (pj co (pasT co r fog side) r (co 0 3)) 1 (r 1 + 1)) := s2.upd
    have t3 : ∀ p, p < co 0 3 → (sI ν2 b 1 (nI (r 1 + 1))).1 16 p = nI (pasT co r fog side p) := fun p hp => by rw [sI_ne1 (by omega)]; exact t2 p hp
    unfold w_X7_passes_110
    simp (disch := omega) only [z_le, z_lt, z_eq, z_lt0, z_0le, z_eq0, z_le0, z_0lt, z_cl, z_in, z_add, z_mul, z_m1ne, z_m1ne', z_m1lt0, z_m1lt, z_ltm1, forall_eq, true_implies, false_implies, implies_true, true_and, and_true, false_and, and_false, not_true_eq_false, not_false_eq_true, ite_true, ite_false, sI_same, sI_ne1, sI_ne2, sA_same, sA_ne, sI_2, sA_2, sL_1, sR_1, e1']
    refine ⟨by omega, by omega, by omega, M_dayLong (hc.frM hb f3) hv ?_⟩
    rw [if_neg hcells]
    simp (disch := omega) only [z_le, z_lt, z_eq, z_lt0, z_0le, z_eq0, z_le0, z_0lt, z_cl, z_in, z_add, z_mul, z_m1ne, z_m1ne', z_m1lt0, z_m1lt, z_ltm1, forall_eq, true_implies, false_implies, implies_true, true_and, and_true, false_and, and_false, not_true_eq_false, not_false_eq_true, ite_true, ite_false]
    refine ⟨fun q => fin _ _ f3 t3 s3 (by unfold pasR; rw [if_neg q]), fun q => ?_⟩
    have part : ∀ ν4 : Mem, ∀ r4 : Ro, FrB b (sI ν2 b 1 (nI (r 1 + 1))) ν4 → StR ν4 b r4 → vRH co r4 B (dl co + 1) → r4 0 = r 0 → r4 = (if c = true then carR co 1 (carR co 0 (upN (pj co (pasT co r fog side) r (co 0 3)) 1 (r 1 + 1))) else upN (pj co (pasT co r fog side) r (co 0 3)) 1 (r 1 + 1)) → w_X7_passes_146 b (nI fog) (nI side) (nI (if c = true then 1 else 0)) ν4 Q := by
      intro ν4 r4 f4 s4 v4 e40 e4
      have c4 := (hc.frM hb f3).frM hb f4.M
      unfold w_X7_passes_146
      refine M_drinks hb c4 s4 hv v4 (fun ν5 f5 s5 => ?_)
      have v5 := vRo_gj hv v4 (co 0 4)
      refine M_usesUp hb (c4.frM hb f5.M) s5 hv v5 (fun ν6 f6 s6 => ?_)
      have e60 : uj co (gj co r4 (co 0 4)) 2 0 = r 0 := by
        rw [uj_oth (by decide) 2 (by decide), gj_oth hn (by decide) (by decide), e40]
      have s7 := s6.upd (j := 1) (x := 0)
      have e7 := s7 0 (by decide)
      rw [upN_ne (by decide), e60] at e7
      simp (disch := omega) only [z_le, z_lt, z_eq, z_lt0, z_0le, z_eq0, z_le0, z_0lt, z_cl, z_in, z_add, z_mul, z_m1ne, z_m1ne', z_m1lt0, z_m1lt, z_ltm1, forall_eq, true_implies, false_implies, implies_true, true_and, and_true, false_and, and_false, not_true_eq_false, not_false_eq_true, ite_true, ite_false, e7]
      refine ⟨by omega, by omega, by omega, ?_⟩
      have s8 := s7.upd (j := 0) (x := r 0 + 1)
      have f8 : FrB b (sI ν2 b 1 (nI (r 1 + 1))) (sI (sI ν6 b 1 (nI 0)) b 0 (nI (r 0 + 1))) := ((f4.tr f5).tr f6).sI.sI
      refine fin _ _ (f3.tr f8.M) (fun p hp => by rw [f8.2 16 (by omega)]; exact t3 p hp) s8 ?_
      unfold pasR
      rw [if_pos q]
      unfold endR
      rw [← e4]
      have e00 : upN (pj co (pasT co r fog side) r (co 0 3)) 1 (r 1 + 1) 0 = r 0 := by
        rw [upN_ne (by decide)]; exact pj_oth (by decide) (by decide) _ hn
      rw [e00]
    have v3 := vRH_hour (H2 := dl co + 1) (x := r 1 + 1) hpj (by omega)
    have e30 : upN (pj co (pasT co r fog side) r (co 0 3)) 1 (r 1 + 1) 0 = r 0 := by
      rw [upN_ne (by decide)]; exact pj_oth (by decide) (by decide) _ hn
    cases c with
    | false => exact ⟨fun _ => part _ _ FrB.rf s3 v3 e30 rfl, fun z => absurd (by decide) z⟩
    | true =>
      refine ⟨fun z => absurd z (by decide), fun _ => ?_⟩
      refine M_carries hb (hc.frM hb f3) s3 hv v3 (by decide) (fun ν4 f4 s4 => ?_)
      have v4 := vRo_car (v := 0) hv v3 (by decide)
      refine M_carries hb ((hc.frM hb f3).frM hb f4.M) s4 hv v4 (by decide) (fun ν5 f5 s5 => ?_)
      refine part _ _ (f4.tr f5) s5 (vRo_car hv v4 (by decide)) ?_ rfl
      rw [carR_low (by decide) (by decide) hn (by decide), carR_low (by decide) (by decide) hn (by decide)]
      exact e30
  · intro i hi ih _ ν2 f2 t2 s2
    apply hX
    unfold s_X7_passes_26 w_X7_passes_78
    have e20 : ν2.1 0 20 = nI (co 0 3) := by rw [f2.2 0 (by omega) (by decide)]; exact hc.1.2.2.2.1
    have e9 : ν2.1 9 i = nI (co 3 i) := by rw [f2.2 9 (by omega) (by decide)]; exact (hc.2.2.1 i hi).1
    have hj := pj_jar2 (co := co) (t := pasT co r fog side) (r := r) (q := i) i (Nat.le_refl _)
    have ej := s2 (9 + i) (by omega)
    rw [hj] at ej
    have e3 := s2 3 (by decide)
    have et := t2 i hi
    have htk := htl i
    have hjl := (hrp i hi).1
    have hsz := (hvp i hi).2.1
    have hsp := pj_sp (co := co) (t := pasT co r fog side) (r := r) hr.2.2.2.1 i
    have ep : pj co (pasT co r fog side) r (i + 1) = upN (upN (pj co (pasT co r fog side) r i) (9 + i) (r (9 + i) + pasT co r fog side i - (r (9 + i) + pasT co r fog side i - co 3 i))) 3 (cnt (pj co (pasT co r fog side) r i 3 + (r (9 + i) + pasT co r fog side i - co 3 i))) := by
      show upN (upN _ _ _) _ _ = _
      rw [hj]
    rw [ep] at ih
    simp (disch := omega) only [z_le, z_lt, z_eq, z_lt0, z_0le, z_eq0, z_le0, z_0lt, z_cl, z_in, z_add, z_mul, z_m1ne, z_m1ne', z_m1lt0, z_m1lt, z_ltm1, forall_eq, true_implies, false_implies, implies_true, true_and, and_true, false_and, and_false, not_true_eq_false, not_false_eq_true, ite_true, ite_false, sI_same, sI_ne1, sI_ne2, sA_same, sA_ne, sI_2, sA_2, sL_1, sR_1, e20, e9, ej, et, e3, z_sub]
    refine ⟨fun q => absurd hi (by omega), fun _ => ⟨by omega, by omega, by omega, fun q => ?_, fun q => ?_⟩⟩
    · rw [show r (9 + i) + pasT co r fog side i - co 3 i = 0 by omega] at ih
      refine ⟨by omega, by omega, ?_⟩
      try rw [e3]
      try rw [z_add]
      refine M_counted (by omega) ⟨by omega, ?_⟩
      refine ih (by omega) _ (f2.tr ((FrB.rf (b := b) (ν := ν2)).sI.sI).M) (fun p hp => ?_) (s2.upd).upd
      rw [sI_ne1 (by omega), sI_ne1 (by omega)]; exact t2 p hp
    · refine ⟨by omega, ?_⟩
      simp (disch := omega) only [z_le, z_lt, z_eq, z_lt0, z_0le, z_eq0, z_le0, z_0lt, z_cl, z_in, z_add, z_mul, z_m1ne, z_m1ne', z_m1lt0, z_m1lt, z_ltm1, forall_eq, true_implies, false_implies, implies_true, true_and, and_true, false_and, and_false, not_true_eq_false, not_false_eq_true, ite_true, ite_false, z_sub]
      refine ⟨by omega, by omega, ?_⟩
      try rw [e3]
      try rw [z_add]
      refine M_counted (by omega) ⟨by omega, ?_⟩
      refine ih (by omega) _ (f2.tr ((FrB.rf (b := b) (ν := ν2)).sI.sI).M) (fun p hp => ?_) (s2.upd).upd
      rw [sI_ne1 (by omega), sI_ne1 (by omega)]; exact t2 p hp
theorem M_passesOn {ν : Mem} {b : Nat} {co : Co} {r : Ro} {B : Nat} {Q : Int32 → Mem → Prop} (hb : b = 14 ∨ b = 15) (hc : CoM ν co) (hS : StR ν b r) (hv : vCo co) (hcells : co 0 0 ≠ 0) (hr : vRo co r B) (hB : B < 1000000)
    (h : ∀ ν' : Mem, FrM b ν ν' → StR ν' b (pasR co r (co 2 (r 1)) (co 1 (r 1)) false) → (∀ p, p < co 0 3 → ν'.1 16 p = nI (pasT co r (co 2 (r 1)) (co 1 (r 1)) p)) → Q (nI (sumN (pasT co r (co 2 (r 1)) (co 1 (r 1))) (co 0 3))) ν') : w_X7_passesOn b ν Q := by
  have hh : co 1 (r 1) ≤ 1 ∧ co 2 (r 1) ≤ 40 := by
    have h1 := hr.2.1
    unfold dl at h1
    by_cases q : co 0 2 = 0
    · rw [if_pos q] at h1
      have := hv.2.2.2.2.2.2.2.1 q
      rw [show r 1 = 0 by omega]; omega
    · rw [if_neg q] at h1
      exact hv.2.2.2.2.2.2.1 _ h1
  unfold w_X7_passesOn
  refine M_fogOf hc hv hS hr.2.1 (M_sideOf hc hv hS hr.2.1 ?_)
  exact M_passes (c := false) hb hc hS hv hcells hr hB hh.1 hh.2 h
theorem co_hour {co : Co} {x : Nat} (hv : vCo co) (h1 : x < dl co) : co 1 x ≤ 1 ∧ co 2 x ≤ 40 := by
  unfold dl at h1
  by_cases q : co 0 2 = 0
  · rw [if_pos q] at h1
    have := hv.2.2.2.2.2.2.2.1 q
    rw [show x = 0 by omega]; omega
  · rw [if_neg q] at h1
    exact hv.2.2.2.2.2.2.1 _ h1
