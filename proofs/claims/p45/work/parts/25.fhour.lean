/-! ===== FogNets: the end of a day, an hour ===== -/
theorem cj_succ {co : Co} {v i : Nat} {r : Ro} : cj co v r (i + 1) = if co 4 i = v then upN (cj co v r i) (9 + i) 0 else cj co v r i := by
  funext j
  by_cases h : co 4 i = v
  · rw [if_pos h]
    unfold upN cj
    by_cases e : j = 9 + i
    · subst e
      rw [if_pos (by refine ⟨by omega, by omega, ?_⟩; rw [show 9 + i - 9 = i by omega]; exact h), if_pos rfl]
    · rw [if_neg e]
      by_cases q : 9 ≤ j ∧ j < 9 + i ∧ co 4 (j - 9) = v
      · rw [if_pos q, if_pos ⟨q.1, by omega, q.2.2⟩]
      · rw [if_neg q, if_neg (fun z => q ⟨z.1, by omega, z.2.2⟩)]
  · rw [if_neg h]
    unfold cj
    by_cases q : 9 ≤ j ∧ j < 9 + i ∧ co 4 (j - 9) = v
    · rw [if_pos q, if_pos ⟨q.1, by omega, q.2.2⟩]
    · rw [if_neg q, if_neg]
      intro z
      by_cases e : j = 9 + i
      · subst e; have := z.2.2; rw [show 9 + i - 9 = i by omega] at this; exact h this
      · exact q ⟨z.1, by omega, z.2.2⟩
theorem StF.updZ {μ : Mem} {b n p : Nat} {r : Ro} (hs : StF μ b n r) (hp6 : n ≤ p) : StF (sI μ (b + 3) p (nI 0)) b n r := by
  obtain ⟨⟨a0, a1, a2, a3, a4⟩, hp, hp2, hv⟩ := hs
  refine ⟨?_, fun q h => ?_, fun q h1 h2 => ?_, fun v h => ?_⟩
  · rw [sI_r (by omega)]
    exact ⟨a0, a1, a2, a3, a4⟩
  · rw [sI_ne1 (by omega), sI_ne1 (by omega), sI_ne2 (by omega)]
    exact hp q h
  · rw [sI_ne1 (by omega)]
    refine ⟨(hp2 q h1 h2).1, ?_⟩
    rw [sI_get]
    by_cases e : q = p
    · rw [if_pos ⟨rfl, e⟩]
    · rw [if_neg (fun z => e z.2)]; exact (hp2 q h1 h2).2
  · rw [sI_ne1 (by omega), sI_ne1 (by omega)]
    exact hv v h
theorem F_emptyJarsOf {μ : Mem} {b R v : Nat} {co : Co} {r : Ro} {B H : Nat} {Q : Int32 → Mem → Prop} (hb : sF.2.1 b = 4) (hR : sF.2.1 R = 0) (hc : CoF μ R co) (hs : StF μ b (co 0 3) r) (hv : vCo co) (hr : vRH co r B H) (hv2 : v < 2)
    (h : ∀ μ' : Mem, FrS b μ μ' → StF μ' b (co 0 3) (carR co v r) → Q (nI (cjS co v r (co 0 3))) μ') : w_X4_emptyJarsOf b R (nI v) μ Q := by
  have hfar := st_far hb
  have hRf := co_far hR
  have hn := hv.2.2.2.1
  have hvp := hv.2.2.2.2.2.2.2.2.1
  obtain ⟨-, -, hcp, hcp2, -, -, -⟩ := hc
  have hrp := hr.2.2.2.2.2.2.2.2.2.1
  have hcis : r (5 + v) ≤ 99999 := by
    obtain ⟨-, -, -, -, -, r5, r6, -⟩ := hr
    rcases (by omega : v = 0 ∨ v = 1) with q | q <;> subst q <;> assumption
  unfold w_X4_emptyJarsOf w_X4_emptyJarsOf_5
  intro X hX
  refine cnt_dn (P := fun i => ∀ μ1 : Mem, FrS b μ μ1 → StF μ1 b (co 0 3) (cj co v r (min i (co 0 3))) → X (nI (cjS co v r (min i (co 0 3)))) (nI i) μ1) 6 ?_ ?_ μ FrS.rf (by
    have e : cj co v r (min 0 (co 0 3)) = r := by
      funext j; unfold cj; rw [if_neg (by omega)]
    rw [e]; exact hs)
  · intro μ1 f1 s1
    apply hX
    unfold s_X4_emptyJarsOf_5
    refine ⟨fun _ => ?_, fun q => absurd (by decide) q⟩
    rw [Nat.min_eq_right hn] at s1 ⊢
    have hle := cjS_le (v := v) (n := co 0 3) hv hr (Nat.le_refl _)
    unfold w_X4_emptyJarsOf_50
    refine F_at (n := 2) (st_n4 hb) (by decide) hv2 ?_
    rw [(s1.2.2.2 v hv2).1]
    have e5 : cj co v r (co 0 3) (5 + v) = r (5 + v) := by unfold cj; rw [if_neg (by omega)]
    rw [e5]
    intro x ex
    have ex2 : x = nI (if 99999 < r (5 + v) + cjS co v r (co 0 3) then 99999 else r (5 + v) + cjS co v r (co 0 3)) := by
      rw [ex, z_add]
      by_cases q : 99999 < r (5 + v) + cjS co v r (co 0 3)
      · rw [if_pos q, if_pos ((z_lt (by decide) (by omega)).mpr q)]
      · rw [if_neg q, if_neg (fun z => q ((z_lt (by decide) (by omega)).mp z))]
    subst ex2
    refine F_put (n := 2) (st_n4 hb) (by decide) hv2 ?_
    refine h _ (f1.sI (by omega)) ?_
    exact s1.updC hv2 hn
  · intro i hi ih μ1 f1 s1
    apply hX
    unfold s_X4_emptyJarsOf_5 w_X4_emptyJarsOf_44
    have e6 : μ1.1 (R + 6) = μ.1 (R + 6) := f1.2 _ (by omega)
    simp (disch := omega) only [z_le, z_lt, z_eq, z_lt0, z_0le, z_eq0, z_le0, z_0lt, z_cl, z_in, z_add, z_mul, z_m1ne, z_m1ne', z_m1lt0, z_m1lt, z_ltm1, forall_eq, true_implies, false_implies, implies_true, true_and, and_true, false_and, and_false, not_true_eq_false, not_false_eq_true, ite_true, ite_false]
    rw [e6]
    refine ⟨fun q => absurd q (by omega), fun _ => ⟨hi, ?_⟩⟩
    by_cases hin : i < co 0 3
    · rw [Nat.min_eq_left (by omega)] at s1 ⊢
      rw [Nat.min_eq_left (by omega)] at ih
      rw [(hcp i hin).2, (s1.2.1 i hin).2.2]
      have ho := (hvp i hin).2.2
      have ej : cj co v r i (9 + i) = r (9 + i) := by unfold cj; rw [if_neg (by omega)]
      have eS : cjS co v r (i + 1) = cjS co v r i + (if co 4 i = v then r (9 + i) else 0) := rfl
      rw [cj_succ, eS] at ih
      rw [ej]
      simp (disch := omega) only [z_le, z_lt, z_eq, z_lt0, z_0le, z_eq0, z_le0, z_0lt, z_cl, z_in, z_add, z_mul, z_m1ne, z_m1ne', z_m1lt0, z_m1lt, z_ltm1, forall_eq, true_implies, false_implies, implies_true, true_and, and_true, false_and, and_false, not_true_eq_false, not_false_eq_true, ite_true, ite_false]
      refine ⟨fun q => ⟨hi, hi, ?_⟩, fun q => ?_⟩
      · rw [if_pos q, if_pos q] at ih
        exact ih _ (f1.sI (by omega)) (s1.updJ hin hn)
      · rw [if_neg q, if_neg q] at ih
        exact ih _ f1 s1
    · rw [Nat.min_eq_right (by omega)] at s1 ⊢
      rw [Nat.min_eq_right (by omega)] at ih
      rw [hcp2 i (by omega) hi]
      simp (disch := omega) only [z_le, z_lt, z_eq, z_lt0, z_0le, z_eq0, z_le0, z_0lt, z_cl, z_in, z_add, z_mul, z_m1ne, z_m1ne', z_m1lt0, z_m1lt, z_ltm1, forall_eq, true_implies, false_implies, implies_true, true_and, and_true, false_and, and_false, not_true_eq_false, not_false_eq_true, ite_true, ite_false]
      exact ih _ f1 s1
theorem F_endDay {μ : Mem} {b R : Nat} {co : Co} {r : Ro} {B H : Nat} {c : Bool} {Q : Mem → Prop} (hb : sF.2.1 b = 4) (hR : sF.2.1 R = 0) (hc : CoF μ R co) (hs : StF μ b (co 0 3) r) (hv : vCo co) (hr : vRH co r B H) (hB : B < 1000000)
    (h : ∀ μ' : Mem, FrS b μ μ' → StF μ' b (co 0 3) (endR co r c) → Q μ') : w_X4_endDay b R (nI (if c = true then 1 else 0)) μ Q := by
  have hfar := st_far hb
  have hRf := co_far hR
  have hn := hv.2.2.2.1
  have hn4 := hv.2.2.2.2.1
  have hvg := hv.2.2.2.2.2.2.2.2.2.2
  have hvu := hv.2.2.2.2.2.2.2.2.2.1
  have hvc := hv.1
  -- behind the carrying
  have part2 : ∀ r1 : Ro, vRH co r1 B H → r1 = (if c = true then carR co 1 (carR co 0 r) else r) → ∀ μ1 : Mem, FrS b μ μ1 → StF μ1 b (co 0 3) r1 → w_X4_endDay_18 b R (nI (if c = true then 1 else 0)) μ1 Q := by
    intro r1 hr1 er1 μ1 f1 s1
    unfold w_X4_endDay_18 w_X4_endDay_20
    intro X hX
    have fin : ∀ μ2 : Mem, FrS b μ μ2 → StF μ2 b (co 0 3) (gj co r1 (co 0 4)) → w_X4_endDay_93 b R (nI (if c = true then 1 else 0)) μ2 Q := by
      intro μ2 f2 s2
      unfold w_X4_endDay_93 w_X4_endDay_95
      intro Y hY
      have hg := vRo_gj hv hr1 (co 0 4)
      refine cnt_dn (P := fun i => i ≤ 2 → ∀ μ3 : Mem, FrS b μ μ3 → StF μ3 b (co 0 3) (uj co (gj co r1 (co 0 4)) i) → Y (nI i) μ3) 2 ?_ ?_ (by decide) μ2 f2 s2
      · intro _ μ3 f3 s3
        apply hY
        unfold s_X4_endDay_95
        refine ⟨fun _ => ?_, fun q => absurd (by decide) q⟩
        unfold w_X4_endDay_159
        have hu := vRo_uj hv hg 2 (Nat.le_refl _)
        have e0 : uj co (gj co r1 (co 0 4)) 2 0 = r 0 := by
          rw [uj_oth (by decide) 2 (by decide), gj_oth hn (by decide) (by decide), er1]
          split
          · rw [carR_low (by decide) (by decide) hn (by decide), carR_low (by decide) (by decide) hn (by decide)]
          · rfl
        simp (disch := omega) only [z_le, z_lt, z_eq, z_lt0, z_0le, z_eq0, z_le0, z_0lt, z_cl, z_in, z_add, z_mul, z_m1ne, z_m1ne', z_m1lt0, z_m1lt, z_ltm1, forall_eq, true_implies, false_implies, implies_true, true_and, and_true, false_and, and_false, not_true_eq_false, not_false_eq_true, ite_true, ite_false, s3.1.1]
        rw [e0]
        have s4 := s3.upd0 (j := 0) (x := r 0 + 1) (by decide)
        have s5 := s4.upd0 (j := 1) (x := 0) (by decide)
        refine h _ ((f3.sI (by omega)).sI (by omega)) ?_
        have e : endR co r c = upN (upN (uj co (gj co r1 (co 0 4)) 2) 0 (r 0 + 1)) 1 0 := by
          unfold endR
          rw [← er1]
          funext j
          unfold upN
          by_cases q0 : j = 0
          · rw [if_pos q0, if_neg (by omega), if_pos q0]
          · rw [if_neg q0]
            by_cases q1 : j = 1
            · rw [if_pos q1, if_pos q1]
            · rw [if_neg q1, if_neg q1, if_neg q0]
        rw [e]
        exact s5
      · intro i hi ih _ μ3 f3 s3
        apply hY
        unfold s_X4_endDay_95
        have hu := vRo_uj hv hg i (by omega)
        have e8 : μ3.1 (R + 8) = μ.1 (R + 8) := f3.2 _ (by omega)
        have h8 : μ3.1 (R + 8) i = nI (co 6 i) := by rw [e8]; exact (hc.2.2.2.2.2.1 i hi).2
        have h4 := (s3.2.2.2 i hi).1
        have h5 := (s3.2.2.2 i hi).2
        have hu6 := (hvu i hi).2
        have hcis : uj co (gj co r1 (co 0 4)) i (5 + i) ≤ 99999 := by
          obtain ⟨-, -, -, -, -, r5, r6, -⟩ := hu
          rcases (by omega : i = 0 ∨ i = 1) with q | q <;> subst q <;> assumption
        have hth : uj co (gj co r1 (co 0 4)) i (7 + i) ≤ 999999 := by
          obtain ⟨-, -, -, -, -, -, -, r7, r8, -⟩ := hu
          rcases (by omega : i = 0 ∨ i = 1) with q | q <;> subst q <;> assumption
        have emin : (if uj co (gj co r1 (co 0 4)) i (5 + i) < co 6 i then nI (uj co (gj co r1 (co 0 4)) i (5 + i)) else nI (co 6 i)) = nI (min (co 6 i) (uj co (gj co r1 (co 0 4)) i (5 + i))) := by
          by_cases q : uj co (gj co r1 (co 0 4)) i (5 + i) < co 6 i
          · rw [if_pos q, Nat.min_eq_right (by omega)]
          · rw [if_neg q, Nat.min_eq_left (by omega)]
        have hmin1 : min (co 6 i) (uj co (gj co r1 (co 0 4)) i (5 + i)) ≤ co 6 i := Nat.min_le_left _ _
        have hmin2 : min (co 6 i) (uj co (gj co r1 (co 0 4)) i (5 + i)) ≤ uj co (gj co r1 (co 0 4)) i (5 + i) := Nat.min_le_right _ _
        simp (disch := omega) only [z_le, z_lt, z_eq, z_lt0, z_0le, z_eq0, z_le0, z_0lt, z_cl, z_in, z_add, z_mul, z_m1ne, z_m1ne', z_m1lt0, z_m1lt, z_ltm1, forall_eq, true_implies, false_implies, implies_true, true_and, and_true, false_and, and_false, not_true_eq_false, not_false_eq_true, ite_true, ite_false, sI_same, sI_ne1, sI_ne2, sA_same, sA_ne, sI_2, sA_2, sL_1, sR_1, h8, h4, emin, z_sub]
        rw [h5]
        refine ⟨fun q => absurd q (by omega), fun _ => ⟨hi, hi, hi, hi, hi, hi, ?_⟩⟩
        rw [z_add, z_sub (by omega)]
        refine F_counted (by omega) ?_
        refine ⟨hi, ih (by omega) _ ((f3.sI (by omega)).sI (by omega)) ?_⟩
        have s4 := (s3.updC (v := i) (x := uj co (gj co r1 (co 0 4)) i (5 + i) - min (co 6 i) (uj co (gj co r1 (co 0 4)) i (5 + i))) hi hn).updT (v := i) (x := cnt (uj co (gj co r1 (co 0 4)) i (7 + i) + co 6 i - min (co 6 i) (uj co (gj co r1 (co 0 4)) i (5 + i)))) hi hn
        have e : uj co (gj co r1 (co 0 4)) (i + 1) = upN (upN (uj co (gj co r1 (co 0 4)) i) (5 + i) (uj co (gj co r1 (co 0 4)) i (5 + i) - min (co 6 i) (uj co (gj co r1 (co 0 4)) i (5 + i)))) (7 + i) (cnt (uj co (gj co r1 (co 0 4)) i (7 + i) + co 6 i - min (co 6 i) (uj co (gj co r1 (co 0 4)) i (5 + i)))) := by
          show upN (upN _ _ _) _ _ = _
          rw [show uj co (gj co r1 (co 0 4)) i (5 + i) - co 6 i = uj co (gj co r1 (co 0 4)) i (5 + i) - min (co 6 i) (uj co (gj co r1 (co 0 4)) i (5 + i)) by omega, show uj co (gj co r1 (co 0 4)) i (7 + i) + (co 6 i - uj co (gj co r1 (co 0 4)) i (5 + i)) = uj co (gj co r1 (co 0 4)) i (7 + i) + co 6 i - min (co 6 i) (uj co (gj co r1 (co 0 4)) i (5 + i)) by omega]
        rw [e]
        exact s4
    refine cnt_dn (P := fun i => i ≤ co 0 4 → ∀ μ2 : Mem, FrS b μ μ2 → StF μ2 b (co 0 3) (gj co r1 i) → X (nI i) μ2) (co 0 4) ?_ ?_ (by omega) μ1 f1 s1
    · intro _ μ2 f2 s2
      apply hX
      unfold s_X4_endDay_20
      have e4 : μ2.1 R 4 = nI (co 0 4) := by rw [f2.2 R (by omega)]; exact hc.1.2.2.2.2
      rw [e4]
      exact ⟨fun _ => fin μ2 f2 s2, fun q => absurd ((z_le (by omega) (by omega)).mpr (Nat.le_refl _)) q⟩
    · intro i hi ih _ μ2 f2 s2
      apply hX
      unfold s_X4_endDay_20
      have e4 : μ2.1 R 4 = nI (co 0 4) := by rw [f2.2 R (by omega)]; exact hc.1.2.2.2.2
      have e9 : μ2.1 (R + 9) i = nI (co 7 i) := by rw [f2.2 (R + 9) (by omega)]; exact (hc.2.2.2.2.2.2 i hi).1
      have e10 : μ2.1 (R + 10) i = nI (co 8 i) := by rw [f2.2 (R + 10) (by omega)]; exact (hc.2.2.2.2.2.2 i hi).2
      have hg := vRo_gj hv hr1 i
      have hgp := hg.2.2.2.2.2.2.2.2.2.1
      have hgi := hg.2.2.2.2.2.2.2.2.2.2
      have hvi := hvg i hi
      have hdr : gj co r1 i 4 ≤ 999999 := hg.2.2.2.2.1
      simp (disch := omega) only [z_le, z_lt, z_eq, z_lt0, z_0le, z_eq0, z_le0, z_0lt, z_cl, z_in, z_add, z_mul, z_m1ne, z_m1ne', z_m1lt0, z_m1lt, z_ltm1, forall_eq, true_implies, false_implies, implies_true, true_and, and_true, false_and, and_false, not_true_eq_false, not_false_eq_true, ite_true, ite_false, e4, e9, e10]
      refine ⟨fun q => absurd q (by omega), fun _ => ⟨fun q => absurd q (by omega), fun _ => ⟨by omega, ?_⟩⟩⟩
      refine F_postIn s2 hn (fun p hp => by have := (hgp p hp).2.1; omega) hgi (by omega) ?_
      cases e : pin (fun p => gj co r1 i (15 + p)) (co 7 i) (co 0 3) with
      | none =>
        have eg : gj co r1 (i + 1) = gj co r1 i := by simp only [gj, e]
        rw [eg] at ih
        refine F_at_m1 ⟨by omega, F_lose_m1 ?_⟩
        rw [s2.1.2.2.2.2, z_add, z_sub (by omega)]
        refine F_counted (by omega) ?_
        rw [show gj co r1 i 4 + 0 - 0 = gj co r1 i 4 by omega, cnt_id hdr]
        try simp (disch := omega) only [z_le, z_lt, z_eq, z_lt0, z_0le, z_eq0, z_le0, z_0lt, z_cl, z_in, z_add, z_mul, z_m1ne, z_m1ne', z_m1lt0, z_m1lt, z_ltm1, forall_eq, true_implies, false_implies, implies_true, true_and, and_true, false_and, and_false, not_true_eq_false, not_false_eq_true, ite_true, ite_false]
        refine ih (by omega) _ (f2.sI (by omega)) ?_
        have s3 := s2.upd0 (j := 4) (x := gj co r1 i 4) (by decide)
        rw [upN_id] at s3
        exact s3
      | some p =>
        obtain ⟨hp, -⟩ := pin_some e
        have hp6 : p < 6 := by omega
        have ejar := (s2.2.1 p hp).2.2
        have hjl := (hgp p hp).1
        have hsz := (hv.2.2.2.2.2.2.2.2.1 p hp).2.1
        refine F_at (n := 6) (st_n3 hb) (by decide) hp6 ⟨by omega, ?_⟩
        refine F_lose hb hp6 ejar (by omega) (by omega) ?_
        have s3 := s2.updJ (x := gj co r1 i (9 + p) - co 8 i) hp hn
        rw [ejar, s3.1.2.2.2.2, upN_ne (by omega), z_add, z_sub (by omega)]
        refine F_counted (by omega) ?_
        try simp (disch := omega) only [z_le, z_lt, z_eq, z_lt0, z_0le, z_eq0, z_le0, z_0lt, z_cl, z_in, z_add, z_mul, z_m1ne, z_m1ne', z_m1lt0, z_m1lt, z_ltm1, forall_eq, true_implies, false_implies, implies_true, true_and, and_true, false_and, and_false, not_true_eq_false, not_false_eq_true, ite_true, ite_false]
        refine ih (by omega) _ ((f2.sI (by omega)).sI (by omega)) ?_
        have s4 := s3.upd0 (j := 4) (x := cnt (gj co r1 i 4 + gj co r1 i (9 + p) - (gj co r1 i (9 + p) - co 8 i))) (by decide)
        have eg : gj co r1 (i + 1) = upN (upN (gj co r1 i) (9 + p) (gj co r1 i (9 + p) - co 8 i)) 4 (cnt (gj co r1 i 4 + gj co r1 i (9 + p) - (gj co r1 i (9 + p) - co 8 i))) := by
          simp only [gj, e]
          by_cases q : gj co r1 i (9 + p) < co 8 i
          · rw [if_pos q, show gj co r1 i (9 + p) - gj co r1 i (9 + p) = gj co r1 i (9 + p) - co 8 i by omega, show gj co r1 i 4 + gj co r1 i (9 + p) - (gj co r1 i (9 + p) - co 8 i) = gj co r1 i 4 + gj co r1 i (9 + p) by omega]
          · rw [if_neg q, show gj co r1 i 4 + gj co r1 i (9 + p) - (gj co r1 i (9 + p) - co 8 i) = gj co r1 i 4 + co 8 i by omega]
        rw [eg]
        exact s4
  unfold w_X4_endDay
  cases c with
  | false =>
    exact ⟨fun _ => part2 r hr rfl μ FrS.rf hs, fun q => absurd (by decide) q⟩
  | true =>
    refine ⟨fun q => absurd q (by decide), fun _ => ?_⟩
    refine F_emptyJarsOf hb hR hc hs hv hr (by decide) (fun μ1 f1 s1 => ?_)
    have hr1 := vRo_car (v := 0) hv hr (by decide)
    refine F_emptyJarsOf hb hR (hc.frP hR hb f1.P) s1 hv hr1 (by decide) (fun μ2 f2 s2 => ?_)
    exact part2 _ (vRo_car hv hr1 (by decide)) rfl μ2 (f1.tr f2) s2
theorem F_sideAt {μ : Mem} {R x : Nat} {co : Co} {Q : Int32 → Prop} (hR : sF.2.1 R = 0) (hc : CoF μ R co) (hv : vCo co) (hx : x < dl co) (h : Q (nI (co 1 x))) : w_X0_sideAt R (nI x) μ Q := by
  have := dl_le hv
  unfold w_X0_sideAt
  refine F_at (n := 12) (co_n1 hR) (by decide) (by omega) ?_
  rw [(hc.2.1 x hx).1]; exact h
theorem F_fogAt {μ : Mem} {R x : Nat} {co : Co} {Q : Int32 → Prop} (hR : sF.2.1 R = 0) (hc : CoF μ R co) (hv : vCo co) (hx : x < dl co) (h : Q (nI (co 2 x))) : w_X0_fogAt R (nI x) μ Q := by
  have := dl_le hv
  unfold w_X0_fogAt
  refine F_at (n := 12) (co_n2 hR) (by decide) (by omega) ?_
  rw [(hc.2.1 x hx).2]; exact h
theorem lead_le {co : Co} {r : Ro} {B H set side fog p : Nat} (hr : vRH co r B H) : (lead co r set side fog).2 p ≤ fog := by
  unfold lead
  refine swp_took (fun k q hq => ?_) _ _
  exact (hr.2.2.2.2.2.2.2.2.2.1 q (gAt_some hq).1).2.2
theorem lead_out {co : Co} {r : Ro} {set side fog p : Nat} (hp : co 0 3 ≤ p) : (lead co r set side fog).2 p = 0 := by
  unfold lead
  exact swp_out (fun k q hq => (gAt_some hq).1) _ _ hp
theorem hs_in {co : Co} {d p : Nat} (h : bitN (hs co d) p = true) : p < co 0 3 := by
  rw [bitN_eq] at h
  unfold hs at h
  rw [hsN_bit] at h
  simp at h
  exact h.1
theorem litF_le {co : Co} {r : Ro} {fog : Nat} : litF co r fog ≤ fog := by unfold litF; split <;> omega
theorem F_passHour {μ : Mem} {b R fog side : Nat} {co : Co} {r : Ro} {B : Nat} {c : Bool} {Q : Int32 → Mem → Prop} (hb : sF.2.1 b = 4) (hR : sF.2.1 R = 0) (hc : CoF μ R co) (hs : StF μ b (co 0 3) r) (hv : vCo co) (hcells : co 0 0 ≠ 0) (hr : vRo co r B) (hB : B < 1000000) (hside : side ≤ 1) (hfog : fog ≤ 40)
    (h : ∀ μ' : Mem, FrP b μ μ' → StF μ' b (co 0 3) (pasR co r fog side c) → (∀ p, p < 6 → μ'.1 39 p = nI (pasT co r fog side p)) → Q (nI (sumN (pasT co r fog side) (co 0 3))) μ') : w_X4_passHour b R (nI side) (nI fog) (nI (if c = true then 1 else 0)) μ Q := by
  have hfar := st_far hb
  have hRf := co_far hR
  have hn := hv.2.2.2.1
  have hvp := hv.2.2.2.2.2.2.2.2.1
  have hrp := hr.2.2.2.2.2.2.2.2.2.1
  have hr0 := hr.1
  unfold w_X4_passHour
  refine F_hanging hR hc hv hs.1.1 (by omega) ?_
  refine F_lampedFog hc hv hs.1.2.2.1 hr.2.2.1 (by omega) ?_
  have hlit := litF_le (co := co) (r := r) (fog := fog)
  rw [hc.1.1]
  refine F_blow (n := 0) hb hs hv hr (hs_64 hv) (fun p hp => hs_in hp) hside (by omega) (fun μ1 f1 bl => ?_)
  have ht : ∀ p, p < 6 → μ1.1 39 p = nI (pasT co r fog side p) := bl.1
  have htl : ∀ p, pasT co r fog side p ≤ 40 := fun p => Nat.le_trans (lead_le hr) (by omega)
  have hto : ∀ p, co 0 3 ≤ p → pasT co r fog side p = 0 := fun p hp => lead_out hp
  have s1 := hs.frW hb f1
  have hc1 : CoF μ1 R co := hc.frP hR hb (b := b) f1.P
  unfold w_X4_passHour_28
  intro X hX
  refine cnt_dn (P := fun i => ∀ μ2 : Mem, FrP b μ μ2 → (∀ p, p < 6 → μ2.1 39 p = nI (pasT co r fog side p)) → StF μ2 b (co 0 3) (pj co (pasT co r fog side) r (min i (co 0 3))) → X (nI (sumN (pasT co r fog side) (min i (co 0 3)))) (nI i) μ2) 6 ?_ ?_ μ1 f1.P ht (by rw [show min 0 (co 0 3) = 0 by omega]; exact s1)
  · intro μ2 f2 t2 s2
    apply hX
    unfold s_X4_passHour_28
    refine ⟨fun _ => ?_, fun q => absurd (by decide) q⟩
    rw [Nat.min_eq_right hn] at s2 ⊢
    unfold w_X4_passHour_117
    have hpj := vRo_pj (t := pasT co r fog side) hv hr (co 0 3) (Nat.le_refl _)
    have e1 : pj co (pasT co r fog side) r (co 0 3) 1 = r 1 := pj_oth (by decide) (by decide) _ hn
    have hd := dl_le hv
    have hr1 := hr.2.1
    intro μ3 e3
    rw [s2.1.2.1, e1, z_add] at e3
    subst e3
    have s3 := s2.upd0 (j := 1) (x := r 1 + 1) (by decide)
    have f3 : FrP b μ (sI μ2 b 1 (nI (r 1 + 1))) := f2.tr ((FrS.rf (b := b) (μ := μ2)).sI (by omega)).P
    have c3 := hc.frP hR hb f3
    refine F_hoursOfDay c3 hv ?_
    rw [if_neg hcells, s3.1.2.1, upN_same]
    simp (disch := omega) only [z_le, z_lt, z_eq, z_lt0, z_0le, z_eq0, z_le0, z_0lt, z_cl, z_in, z_add, z_mul, z_m1ne, z_m1ne', z_m1lt0, z_m1lt, z_ltm1, forall_eq, true_implies, false_implies, implies_true, true_and, and_true, false_and, and_false, not_true_eq_false, not_false_eq_true, ite_true, ite_false]
    have t3 : ∀ p, p < 6 → (sI μ2 b 1 (nI (r 1 + 1))).1 39 p = nI (pasT co r fog side p) := fun p hp => by
      rw [sI_ne1 (by omega)]; exact t2 p hp
    refine ⟨fun q => ?_, fun q => ?_⟩
    · refine h _ f3 ?_ t3
      unfold pasR
      rw [if_neg (by omega)]
      exact s3
    · refine F_endDay (c := c) hb hR c3 s3 hv (vRH_hour (H2 := dl co + 1) hpj (by omega)) hB (fun μ4 f4 s4 => ?_)
      refine h _ (f3.tr f4.P) ?_ (fun p hp => ?_)
      · unfold pasR
        rw [if_pos (by omega)]
        exact s4
      · rw [f4.2 39 (by omega)]; exact t3 p hp
  · intro i hi ih μ2 f2 t2 s2
    apply hX
    unfold s_X4_passHour_28
    have e5 : μ2.1 (R + 5) = μ.1 (R + 5) := f2.2 _ (by omega) (by omega)
    have hti := htl i
    by_cases hin : i < co 0 3
    · rw [Nat.min_eq_left (by omega)] at s2 ⊢
      rw [Nat.min_eq_left (by omega)] at ih
      have ejar := (s2.2.1 i hin).2.2
      have hj := pj_jar2 (co := co) (t := pasT co r fog side) (r := r) (q := i) i (Nat.le_refl _)
      rw [hj] at ejar
      have hjl := (hrp i hin).1
      have hsz := (hvp i hin).2.1
      have es : μ2.1 (R + 5) i = nI (co 3 i) := by rw [e5]; exact (hc.2.2.1 i hin).1
      have hsp := pj_sp (co := co) (t := pasT co r fog side) (r := r) hr.2.2.2.1 i
      have htk := t2 i hi
      have eS : sumN (pasT co r fog side) (i + 1) = sumN (pasT co r fog side) i + pasT co r fog side i := rfl
      have hSl := sumN_le (f := pasT co r fog side) (c := 40) i (fun p _ => htl p)
      simp (disch := omega) only [z_le, z_lt, z_eq, z_lt0, z_0le, z_eq0, z_le0, z_0lt, z_cl, z_in, z_add, z_mul, z_m1ne, z_m1ne', z_m1lt0, z_m1lt, z_ltm1, forall_eq, true_implies, false_implies, implies_true, true_and, and_true, false_and, and_false, not_true_eq_false, not_false_eq_true, ite_true, ite_false, sI_same, sI_ne1, sI_ne2, sA_same, sA_ne, sI_2, sA_2, sL_1, sR_1, ejar, htk, es]
      refine ⟨fun q => absurd q (by omega), fun _ => ⟨hi, hi, hi, hi, hi, ?_⟩⟩
      rw [z_max0 (by omega) (by omega), z_sub (by omega)]
      refine ⟨hi, hi, ?_⟩
      rw [s2.1.2.2.2.1, z_add]
      refine F_counted (by omega) ?_
      refine ⟨hi, ?_⟩
      rw [← eS]
      have s3 := (s2.updJ (x := r (9 + i) + pasT co r fog side i) hin hn).updJ (p := i) (x := r (9 + i) + pasT co r fog side i - (r (9 + i) + pasT co r fog side i - co 3 i)) hin hn
      have s4 := s3.upd0 (j := 3) (x := cnt (pj co (pasT co r fog side) r i 3 + (r (9 + i) + pasT co r fog side i - co 3 i))) (by decide)
      refine ih _ ?_ (fun p hp => ?_) ?_
      · exact f2.tr ((((FrS.rf (b := b) (μ := μ2)).sI (by omega)).sI (by omega)).sI (by omega)).P
      · rw [sI_ne1 (by omega), sI_ne1 (by omega), sI_ne1 (by omega)]; exact t2 p hp
      · have e : pj co (pasT co r fog side) r (i + 1) = upN (upN (upN (pj co (pasT co r fog side) r i) (9 + i) (r (9 + i) + pasT co r fog side i)) (9 + i) (r (9 + i) + pasT co r fog side i - (r (9 + i) + pasT co r fog side i - co 3 i))) 3 (cnt (pj co (pasT co r fog side) r i 3 + (r (9 + i) + pasT co r fog side i - co 3 i))) := by
          show upN (upN _ _ _) _ _ = _
          rw [hj]
          congr 1
          funext j
          unfold upN
          split <;> rfl
        rw [e]
        exact s4
    · rw [Nat.min_eq_right (by omega)] at s2 ⊢
      rw [Nat.min_eq_right (by omega)] at ih
      have ejar := (s2.2.2.1 i (by omega) hi).2
      obtain ⟨z, hz, ez⟩ := hc.2.2.2.2.1 i hi
      have es : μ2.1 (R + 5) i = nI z := by rw [e5]; exact ez
      have htk := t2 i hi
      rw [hto i (by omega)] at htk
      have hsp := pj_sp (co := co) (t := pasT co r fog side) (r := r) hr.2.2.2.1 (co 0 3)
      simp (disch := omega) only [z_le, z_lt, z_eq, z_lt0, z_0le, z_eq0, z_le0, z_0lt, z_cl, z_in, z_add, z_mul, z_m1ne, z_m1ne', z_m1lt0, z_m1lt, z_ltm1, forall_eq, true_implies, false_implies, implies_true, true_and, and_true, false_and, and_false, not_true_eq_false, not_false_eq_true, ite_true, ite_false, sI_same, sI_ne1, sI_ne2, sA_same, sA_ne, sI_2, sA_2, sL_1, sR_1, ejar, htk, es]
      refine ⟨fun q => absurd q (by omega), fun _ => ⟨hi, hi, hi, hi, hi, ?_⟩⟩
      rw [z_max0 (by omega) (by omega), z_sub (by omega)]
      refine ⟨hi, hi, ?_⟩
      rw [s2.1.2.2.2.1, z_add]
      refine F_counted (by omega) ?_
      refine ⟨hi, ?_⟩
      rw [show 0 + 0 - z = 0 by omega, show 0 + 0 - 0 = 0 by omega]
      simp only [Nat.add_zero]
      rw [cnt_id hsp]
      refine ih _ ?_ (fun p hp => ?_) ?_
      · exact f2.tr ((((FrS.rf (b := b) (μ := μ2)).sI (by omega)).sI (by omega)).sI (by omega)).P
      · rw [sI_ne1 (by omega), sI_ne1 (by omega), sI_ne1 (by omega)]; exact t2 p hp
      · have s3 := ((s2.updZ (p := i) (by omega)).updZ (p := i) (by omega)).upd0 (j := 3) (x := pj co (pasT co r fog side) r (co 0 3) 3) (by decide)
        rw [upN_id] at s3
        exact s3
