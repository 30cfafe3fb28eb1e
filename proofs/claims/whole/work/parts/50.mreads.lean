/-! ===== the reference reads a post's clause, any clause, a text ===== -/
section MPOST
variable {ν : Mem} {T : Tx} {s : Nat} {co : Co} {Q : Int32 → Mem → Prop}
theorem M_readsPost (hT : vTx T) (tx : TxM ν T) (hd : DrM ν co) (hv : vP co) (hc : 1 ≤ co 0 0) (hn : co 0 3 < 6) (hs : s < T.1) (rd : RdM ν T (.inr s))
    (h1 : ∀ (i' : Nat) (ν' : Mem), FrC ν ν' → posP T co (s + 1) = .inr i' → RdM ν' T (.inr i') → DrM ν' (cP T co (s + 1)) → Q (nI 1) ν')
    (h2 : ∀ (e : Nat × Nat) (ν' : Mem), FrC ν ν' → posP T co (s + 1) = .inl e → RdM ν' T (.inl e) → Q (nI 0) ν') : w_X7_readsPost ν Q := by
  unfold w_X7_readsPost
  have h12 := hv.1.1
  rw [hd.2.1.1, z_eq (by omega) (by decide)]
  refine ⟨fun _ => ?_, fun z => by omega⟩
  intro μ1 e1
  rw [rd.1, z_add] at e1
  subst e1
  have f1 : FrRm ν (sI ν 0 3 (nI (s + 1))) := FrRm.put (by omega)
  refine M_blanks hT (tx.rd f1) sI_same hs (fun ν3 f3 _ e3 => ?_)
  have f13 := f1.trans f3
  have hd3 := hd.rd f13
  intro x4 e4 x5 e5
  rw [e3] at e4
  rw [hd3.2.1.1, z_mul] at e5
  subst e4 e5
  refine ⟨vp_in_nI (by decide) (by decide), ?_⟩
  rw [z_cl (by decide), (hd3.1 (by omega)).1, z_sub hc]
  have r3 : RdM ν3 T (.inr (sk T (s + 1))) := ⟨e3, sk_le hs⟩
  refine M_number hT (tx.rd f13) r3 (by decide) (by omega) (fun ν7 f7 q7 r7 => ?_) (fun e ν7 f7 q7 r7 => ⟨fun z => absurd z (by decide), fun _ => h2 e ν7 (f13.trans f7).c ?_ r7⟩)
  · rw [numA_sk, nx_sk] at q7
    rw [nx_sk] at r7
    rw [val_sk]
    have hval := val_lt (T := T) (i := s + 1) hs
    have f17 := f13.trans f7
    have hd7 := hd.rd f17
    have tx7 := tx.rd f17
    rw [z_0le (by omega)]
    refine ⟨fun _ => ?_, fun z => absurd trivial z⟩
    refine M_isTaken (f := co 9) hv.1.2.2.2.1 hd7.2.1.1 (fun p hp => (hd7.2.2.2.2.1 p hp).1) (fun p hp => by have := (hv.2.2.2.1 p hp).1; omega) hval ?_
    by_cases q : pin (co 9) (val T (s + 1)) (co 0 3) = none
    · rw [if_pos q]
      have eP : posP T co (s + 1) = bnd (endA T) (bnd (numA T 0 1) (bnd (numA T 1 99) (numA T 0 9 (nx T (s + 1))))) := by
        unfold posP
        show bnd (endA T) (bnd _ (bnd _ (bnd _ (bnd (tkA T co (s + 1)) (numA T 0 (co 0 0 - 1) (s + 1)))))) = _
        rw [q7]
        show bnd (endA T) (bnd _ (bnd _ (bnd _ (tkA T co (s + 1) (nx T (s + 1)))))) = _
        unfold tkA
        rw [if_pos q]
        rfl
      refine ⟨fun _ => ⟨vp_in_nI (by omega) (by decide), ?_⟩, fun z => absurd rfl z⟩
      intro μ10 e10
      rw [z_cl (by omega)] at e10
      subst e10
      have f10 : FrC ν (sI ν7 6 (4 * co 0 3) (nI (val T (s + 1)))) := f17.c.trans (FrC.put (by decide))
      have r10 : RdM (sI ν7 6 (4 * co 0 3) (nI (val T (s + 1)))) T (.inr (nx T (s + 1))) := r7.fr (sI_ne1 (by decide)) (sI_ne1 (by decide))
      refine M_number hT (tx.c f10) r10 (by decide) (by decide) (fun ν12 f12 q12 r12 => ?_) (fun e ν12 f12 q12 r12 => ?_)
      · rw [z_add]
        refine ⟨vp_in_nI (by omega) (by decide), fun μ13 e13 => ⟨vp_in_nI (by omega) (by decide), ?_⟩⟩
        rw [z_cl (by omega)] at e13 ⊢
        subst e13
        have hval1 := val_lt r10.2
        rw [sI_same, z_lt0 (by omega)]
        refine ⟨fun z => z.elim, fun _ => ?_⟩
        rw [z_add]
        have e2 : posP T co (s + 1) = twoP T 1 99 0 1 (nx T (nx T (s + 1))) := by rw [eP, q12]; rfl
        have f13' : FrC ν (sI ν12 6 (4 * co 0 3 + 1) (nI (val T (nx T (s + 1))))) := f10.trans (f12.c.trans (FrC.put (by decide)))
        have hl : sM.2.2 6 = 24 := by decide
        refine M_two_b (k := 5) (n := co 0 3) (by decide) ?_ hT (tx.c f13') (r12.fr (sI_ne1 (by decide)) (sI_ne1 (by decide))) (by decide) (by omega) (by decide) (by decide) (by decide) (by decide) (by decide) (fun i' ν' f q r => ?_) (fun e ν' f q r => h2 e ν' (f13'.trans f) (e2.trans q) r)
        · rw [sI_ne1 (by decide), f12.2.2 5 (by decide) (by decide), sI_ne1 (by decide)]
          exact hd7.2.1.1
        · refine h1 i' ν' (f13'.trans (((FrC.put (by decide)).trans ((FrC.put (by decide)).trans (FrC.flag (by decide)))).trans f.c)) (e2.trans q) r ?_
          rw [show 4 * co 0 3 + 2 + 1 = 4 * co 0 3 + 3 from rfl] at f
          obtain ⟨a, ⟨b0, b1, b2, b3, b4⟩, c, d, d1, d2⟩ := hd7
          unfold DrM cP
          refine ⟨?_, ?_, ?_, ?_, fun h hh => ?_, ?_⟩
          · simp (disch := omega) only [z_le, z_lt, z_eq, z_lt0, z_0le, z_eq0, z_le0, z_0lt, z_cl, z_in, z_add, z_mul, z_m1ne, z_m1ne', z_m1lt0, z_m1lt, z_ltm1, forall_eq, true_implies, false_implies, implies_true, true_and, and_true, false_and, and_false, not_true_eq_false, not_false_eq_true, ite_true, ite_false, sI_same, sI_ne1, sI_ne2, sA_same, sA_ne, sI_2, sA_2, sL_1, sR_1, up2_s, up2_c, up2_r, f.2.1, f12.2.1]; exact a
          · simp (disch := omega) only [z_le, z_lt, z_eq, z_lt0, z_0le, z_eq0, z_le0, z_0lt, z_cl, z_in, z_add, z_mul, z_m1ne, z_m1ne', z_m1lt0, z_m1lt, z_ltm1, forall_eq, true_implies, false_implies, implies_true, true_and, and_true, false_and, and_false, not_true_eq_false, not_false_eq_true, ite_true, ite_false, sI_same, sI_ne1, sI_ne2, sA_same, sA_ne, sI_2, sA_2, sL_1, sR_1, up2_s, up2_c, up2_r, f.2.2, f12.2.2]; exact ⟨b1, b2, b3, b4⟩
          · simp (disch := omega) only [z_le, z_lt, z_eq, z_lt0, z_0le, z_eq0, z_le0, z_0lt, z_cl, z_in, z_add, z_mul, z_m1ne, z_m1ne', z_m1lt0, z_m1lt, z_ltm1, forall_eq, true_implies, false_implies, implies_true, true_and, and_true, false_and, and_false, not_true_eq_false, not_false_eq_true, ite_true, ite_false, sI_same, sI_ne1, sI_ne2, sA_same, sA_ne, sI_2, sA_2, sL_1, sR_1, up2_s, up2_c, up2_r, f.2.1, f12.2.1]; exact c
          · simp (disch := omega) only [z_le, z_lt, z_eq, z_lt0, z_0le, z_eq0, z_le0, z_0lt, z_cl, z_in, z_add, z_mul, z_m1ne, z_m1ne', z_m1lt0, z_m1lt, z_ltm1, forall_eq, true_implies, false_implies, implies_true, true_and, and_true, false_and, and_false, not_true_eq_false, not_false_eq_true, ite_true, ite_false, sI_same, sI_ne1, sI_ne2, sA_same, sA_ne, sI_2, sA_2, sL_1, sR_1, up2_s, up2_c, up2_r, f.2.1, f12.2.1]; exact d
          · rw [up2_s] at hh
            by_cases y : h = co 0 3
            · subst y; simp (disch := omega) only [z_le, z_lt, z_eq, z_lt0, z_0le, z_eq0, z_le0, z_0lt, z_cl, z_in, z_add, z_mul, z_m1ne, z_m1ne', z_m1lt0, z_m1lt, z_ltm1, forall_eq, true_implies, false_implies, implies_true, true_and, and_true, false_and, and_false, not_true_eq_false, not_false_eq_true, ite_true, ite_false, sI_same, sI_ne1, sI_ne2, sA_same, sA_ne, sI_2, sA_2, sL_1, sR_1, up2_s, up2_c, up2_r, f.2.1, f12.2.1]
            · simp (disch := omega) only [z_le, z_lt, z_eq, z_lt0, z_0le, z_eq0, z_le0, z_0lt, z_cl, z_in, z_add, z_mul, z_m1ne, z_m1ne', z_m1lt0, z_m1lt, z_ltm1, forall_eq, true_implies, false_implies, implies_true, true_and, and_true, false_and, and_false, not_true_eq_false, not_false_eq_true, ite_true, ite_false, sI_same, sI_ne1, sI_ne2, sA_same, sA_ne, sI_2, sA_2, sL_1, sR_1, up2_s, up2_c, up2_r, f.2.1, f12.2.1]; exact d1 h (by omega)
          · simp (disch := omega) only [z_le, z_lt, z_eq, z_lt0, z_0le, z_eq0, z_le0, z_0lt, z_cl, z_in, z_add, z_mul, z_m1ne, z_m1ne', z_m1lt0, z_m1lt, z_ltm1, forall_eq, true_implies, false_implies, implies_true, true_and, and_true, false_and, and_false, not_true_eq_false, not_false_eq_true, ite_true, ite_false, sI_same, sI_ne1, sI_ne2, sA_same, sA_ne, sI_2, sA_2, sL_1, sR_1, up2_s, up2_c, up2_r, f.2.1, f12.2.1]; exact d2
      · rw [z_add]
        refine ⟨vp_in_nI (by omega) (by decide), fun μ13 e13 => ⟨vp_in_nI (by omega) (by decide), ?_⟩⟩
        rw [z_cl (by omega)] at e13 ⊢
        subst e13
        rw [sI_same]
        refine ⟨fun _ => h2 e _ (f10.trans (f12.c.trans (FrC.put (by decide)))) ?_ (r12.fr (sI_ne1 (by decide)) (sI_ne1 (by decide))), fun z => absurd (by decide) z⟩
        rw [eP, q12]; rfl
    · rw [if_neg q]
      refine ⟨fun z => absurd z (by decide), fun _ => ?_⟩
      intro μ19 e19
      subst e19
      refine M_fails (p := sk T (s + 1)) (RdM.put (sk_le hs)) (fun ν' f r => ⟨Or.inl rfl, h2 _ ν' ((f17.trans (FrRm.put (by omega))).c.trans f) ?_ r⟩)
      unfold posP
      show bnd (endA T) (bnd _ (bnd _ (bnd _ (bnd (tkA T co (s + 1)) (numA T 0 (co 0 0 - 1) (s + 1)))))) = _
      rw [q7]
      show bnd (endA T) (bnd _ (bnd _ (bnd _ (tkA T co (s + 1) (nx T (s + 1)))))) = _
      unfold tkA
      rw [if_neg q]
      rfl
  · rw [numA_sk] at q7
    unfold posP
    show bnd (endA T) (bnd _ (bnd _ (bnd _ (bnd (tkA T co (s + 1)) (numA T 0 (co 0 0 - 1) (s + 1)))))) = _
    rw [q7]; rfl
theorem M_readsClause (hT : vTx T) (tx : TxM ν T) (hd : DrM ν co) (hv : vP co) (hs : s < T.1) (rd : RdM ν T (.inr s))
    (h1 : ∀ (i' : Nat) (ν' : Mem), FrC ν ν' → clP T co s = .inr i' → RdM ν' T (.inr i') → DrM ν' (clC T co s) → Q (nI 1) ν')
    (h2 : ∀ (e : Nat × Nat) (ν' : Mem), FrC ν ν' → clP T co s = .inl e → RdM ν' T (.inl e) → Q (nI 0) ν') : w_X7_readsClause (nI (if co 0 0 = 0 then 1 else 0)) ν Q := by
  have hT1 := hT.1
  have hw2 := hT.2 s hs
  have h12 := hv.1.1
  unfold w_X7_readsClause
  rw [rd.1]
  refine M_letter hT tx (by omega) ?_
  have el : ltI T s = nI (T.2 s) := by unfold ltI; rw [if_pos hs]
  rw [el]
  have bad : ∀ c, clP T co s = .inl (c, s) → w_X7_fails (nI c) ν (fun r5 μ6 => ((r5 = 0 ∨ r5 = 1) ∧ Q r5 μ6)) := fun c e => M_fails rd (fun ν' f r => ⟨Or.inl rfl, h2 _ ν' f e r⟩)
  by_cases q : co 0 0 = 0
  · rw [if_pos q]
    refine ⟨fun z => absurd z (by decide), fun _ => ?_⟩
    by_cases w1 : T.2 s = 102
    · refine ⟨fun z => absurd (by rw [w1]) z, fun _ => ?_⟩
      have e1 : clP T co s = twoP T 1 12 0 20 (s + 1) := by unfold clP; rw [if_pos q, if_pos w1]
      have e2 : clC T co s = cF T co (s + 1) := by unfold clC; rw [if_pos q]
      rw [e1, e2] at h1
      rw [e1] at h2
      exact M_readsHead hT tx hd hs rd (fun i' ν' f e r d => ⟨Or.inr rfl, h1 i' ν' f e r d⟩) (fun e ν' f y r => ⟨Or.inl rfl, h2 e ν' f y r⟩)
    · exact ⟨fun _ => bad 1 (by unfold clP; rw [if_pos q, if_neg w1]), fun z => absurd ((z_eq (by omega) (by decide)).mp z) w1⟩
  · rw [if_neg q]
    refine ⟨fun _ => ?_, fun z => absurd rfl z⟩
    by_cases w1 : T.2 s = 102
    · have := bad 3 (by unfold clP; rw [if_neg q, if_pos w1])
      rw [w1]
      repeat (first | refine ⟨fun _ => ?_, fun z => absurd rfl z⟩ | refine ⟨fun z => absurd z (by decide), fun _ => ?_⟩)
      exact this
    by_cases w2 : T.2 s = 104
    · have e1 : clP T co s = if co 0 2 < 12 then twoP T 0 1 0 40 (s + 1) else .inl (3, s) := by unfold clP; rw [if_neg q, if_neg w1, if_pos w2]
      have e2 : clC T co s = cH T co (s + 1) := by unfold clC; rw [if_neg q, if_pos w2]
      rw [e2] at h1
      rw [w2]
      repeat (first | refine ⟨fun _ => ?_, fun z => absurd rfl z⟩ | refine ⟨fun z => absurd z (by decide), fun _ => ?_⟩)
      by_cases n : co 0 2 < 12
      · rw [if_pos n] at e1
        rw [e1] at h1 h2
        exact M_readsHour hT tx hd n hs rd (fun i' ν' f e r d => ⟨Or.inr rfl, h1 i' ν' f e r d⟩) (fun e ν' f y r => ⟨Or.inl rfl, h2 e ν' f y r⟩)
      · rw [if_neg n] at e1
        have n12 := hv.1.2.2.1
        unfold w_X7_readsHour
        rw [hd.2.1.2.1, z_eq (by omega) (by decide)]
        exact ⟨fun z => absurd (by omega) z, fun _ => M_fails rd (fun ν' f r => ⟨Or.inl rfl, Or.inl rfl, h2 _ ν' f e1 r⟩)⟩
    by_cases w3 : T.2 s = 112
    · have e1 : clP T co s = if co 0 3 < 6 then posP T co (s + 1) else .inl (3, s) := by unfold clP; rw [if_neg q, if_neg w1, if_neg w2, if_pos w3]
      have e2 : clC T co s = cP T co (s + 1) := by unfold clC; rw [if_neg q, if_neg w2, if_pos w3]
      rw [e2] at h1
      rw [w3]
      repeat (first | refine ⟨fun _ => ?_, fun z => absurd rfl z⟩ | refine ⟨fun z => absurd z (by decide), fun _ => ?_⟩)
      by_cases n : co 0 3 < 6
      · rw [if_pos n] at e1
        rw [e1] at h1 h2
        exact M_readsPost hT tx hd hv (by omega) n hs rd (fun i' ν' f e r d => ⟨Or.inr rfl, h1 i' ν' f e r d⟩) (fun e ν' f y r => ⟨Or.inl rfl, h2 e ν' f y r⟩)
      · rw [if_neg n] at e1
        have n12 := hv.1.2.2.2.1
        unfold w_X7_readsPost
        rw [hd.2.1.1, z_eq (by omega) (by decide)]
        exact ⟨fun z => absurd (by omega) z, fun _ => M_fails rd (fun ν' f r => ⟨Or.inl rfl, Or.inl rfl, h2 _ ν' f e1 r⟩)⟩
    by_cases w4 : T.2 s = 100
    · have e1 : clP T co s = if co 11 0 = 0 then twoP T 0 127 0 127 (s + 1) else .inl (3, s) := by unfold clP; rw [if_neg q, if_neg w1, if_neg w2, if_neg w3, if_pos w4]
      have e2 : clC T co s = cD T co (s + 1) := by unfold clC; rw [if_neg q, if_neg w2, if_neg w3, if_pos w4]
      rw [e2] at h1
      rw [w4]
      repeat (first | refine ⟨fun _ => ?_, fun z => absurd rfl z⟩ | refine ⟨fun z => absurd z (by decide), fun _ => ?_⟩)
      by_cases n : co 11 0 = 0
      · rw [if_pos n] at e1
        rw [e1] at h1 h2
        exact M_readsDays hT tx hd n hs rd (fun i' ν' f e r d => ⟨Or.inr rfl, h1 i' ν' f e r d⟩) (fun e ν' f y r => ⟨Or.inl rfl, h2 e ν' f y r⟩)
      · rw [if_neg n] at e1
        have n12 := hv.2.1
        unfold w_X7_readsDays
        rw [hd.2.1.2.2.2.1, z_eq0 (by omega)]
        exact ⟨fun z => absurd z n, fun _ => M_fails rd (fun ν' f r => ⟨Or.inl rfl, Or.inl rfl, h2 _ ν' f e1 r⟩)⟩
    by_cases w5 : T.2 s = 117
    · have e1 : clP T co s = if co 11 1 = 0 then twoP T 0 99 0 99 (s + 1) else .inl (3, s) := by unfold clP; rw [if_neg q, if_neg w1, if_neg w2, if_neg w3, if_neg w4, if_pos w5]
      have e2 : clC T co s = cU T co (s + 1) := by unfold clC; rw [if_neg q, if_neg w2, if_neg w3, if_neg w4, if_pos w5]
      rw [e2] at h1
      rw [w5]
      repeat (first | refine ⟨fun _ => ?_, fun z => absurd rfl z⟩ | refine ⟨fun z => absurd z (by decide), fun _ => ?_⟩)
      by_cases n : co 11 1 = 0
      · rw [if_pos n] at e1
        rw [e1] at h1 h2
        exact M_readsUse hT tx hd n hs rd (fun i' ν' f e r d => ⟨Or.inr rfl, h1 i' ν' f e r d⟩) (fun e ν' f y r => ⟨Or.inl rfl, h2 e ν' f y r⟩)
      · rw [if_neg n] at e1
        have n12 := hv.2.2.1
        unfold w_X7_readsUse
        rw [hd.2.1.2.2.2.2, z_eq0 (by omega)]
        exact ⟨fun z => absurd z n, fun _ => M_fails rd (fun ν' f r => ⟨Or.inl rfl, Or.inl rfl, h2 _ ν' f e1 r⟩)⟩
    by_cases w6 : T.2 s = 103
    · have e1 : clP T co s = if co 0 4 < 4 then twoP T 0 (co 0 0 - 1) 1 20 (s + 1) else .inl (3, s) := by unfold clP; rw [if_neg q, if_neg w1, if_neg w2, if_neg w3, if_neg w4, if_neg w5, if_pos w6]
      have e2 : clC T co s = cG T co (s + 1) := by unfold clC; rw [if_neg q, if_neg w2, if_neg w3, if_neg w4, if_neg w5]
      rw [e2] at h1
      rw [w6]
      repeat (first | refine ⟨fun _ => ?_, fun z => absurd rfl z⟩ | refine ⟨fun z => absurd z (by decide), fun _ => ?_⟩)
      by_cases n : co 0 4 < 4
      · rw [if_pos n] at e1
        rw [e1] at h1 h2
        exact M_readsGoat hT tx hd ⟨by omega, h12⟩ n hs rd (fun i' ν' f e r d => ⟨Or.inr rfl, h1 i' ν' f e r d⟩) (fun e ν' f y r => ⟨Or.inl rfl, h2 e ν' f y r⟩)
      · rw [if_neg n] at e1
        have n12 := hv.1.2.2.2.2.1
        unfold w_X7_readsGoat
        rw [hd.2.1.2.2.1, z_eq (by omega) (by decide)]
        exact ⟨fun z => absurd (by omega) z, fun _ => M_fails rd (fun ν' f r => ⟨Or.inl rfl, Or.inl rfl, h2 _ ν' f e1 r⟩)⟩
    have b1 := bad 1 (by unfold clP; rw [if_neg q, if_neg w1, if_neg w2, if_neg w3, if_neg w4, if_neg w5, if_neg w6])
    rw [z_eq (by omega) (by decide), z_eq (by omega) (by decide), z_eq (by omega) (by decide), z_eq (by omega) (by decide), z_eq (by omega) (by decide), z_eq (by omega) (by decide), z_eq (by omega) (by decide), z_eq (by omega) (by decide), z_eq (by omega) (by decide), z_eq (by omega) (by decide), z_eq (by omega) (by decide), z_eq (by omega) (by decide), z_eq (by omega) (by decide), z_eq (by omega) (by decide), z_eq (by omega) (by decide), z_eq (by omega) (by decide), z_eq (by omega) (by decide), z_eq (by omega) (by decide)]
    repeat (first | exact b1 | refine ⟨fun z => absurd z (by assumption), fun _ => ?_⟩ | refine ⟨fun _ => b1, fun _ => ?_⟩)
theorem clC_ne {i' : Nat} (hs : s < T.1) (h : clP T co s = .inr i') : clC T co s 0 0 ≠ 0 := by
  unfold clC
  by_cases q : co 0 0 = 0
  · rw [if_pos q]
    unfold clP at h
    rw [if_pos q] at h
    split at h
    · have h1 : 1 ≤ val T (s + 1) := (twoP_inr hs h).1.1
      unfold cF
      rw [up2_c (by decide), up2_s]
      omega
    · cases h
  · rw [if_neg q]
    have e1 : cH T co (s + 1) 0 0 = co 0 0 := by unfold cH; simp (disch := omega) only [z_le, z_lt, z_eq, z_lt0, z_0le, z_eq0, z_le0, z_0lt, z_cl, z_in, z_add, z_mul, z_m1ne, z_m1ne', z_m1lt0, z_m1lt, z_ltm1, forall_eq, true_implies, false_implies, implies_true, true_and, and_true, false_and, and_false, not_true_eq_false, not_false_eq_true, ite_true, ite_false, up2_c, up2_r]
    have e2 : cP T co (s + 1) 0 0 = co 0 0 := by unfold cP; simp (disch := omega) only [z_le, z_lt, z_eq, z_lt0, z_0le, z_eq0, z_le0, z_0lt, z_cl, z_in, z_add, z_mul, z_m1ne, z_m1ne', z_m1lt0, z_m1lt, z_ltm1, forall_eq, true_implies, false_implies, implies_true, true_and, and_true, false_and, and_false, not_true_eq_false, not_false_eq_true, ite_true, ite_false, up2_c, up2_r]
    have e3 : cD T co (s + 1) 0 0 = co 0 0 := by unfold cD; simp (disch := omega) only [z_le, z_lt, z_eq, z_lt0, z_0le, z_eq0, z_le0, z_0lt, z_cl, z_in, z_add, z_mul, z_m1ne, z_m1ne', z_m1lt0, z_m1lt, z_ltm1, forall_eq, true_implies, false_implies, implies_true, true_and, and_true, false_and, and_false, not_true_eq_false, not_false_eq_true, ite_true, ite_false, up2_c, up2_r]
    have e4 : cU T co (s + 1) 0 0 = co 0 0 := by unfold cU; simp (disch := omega) only [z_le, z_lt, z_eq, z_lt0, z_0le, z_eq0, z_le0, z_0lt, z_cl, z_in, z_add, z_mul, z_m1ne, z_m1ne', z_m1lt0, z_m1lt, z_ltm1, forall_eq, true_implies, false_implies, implies_true, true_and, and_true, false_and, and_false, not_true_eq_false, not_false_eq_true, ite_true, ite_false, up2_c, up2_r]
    have e5 : cG T co (s + 1) 0 0 = co 0 0 := by unfold cG; simp (disch := omega) only [z_le, z_lt, z_eq, z_lt0, z_0le, z_eq0, z_le0, z_0lt, z_cl, z_in, z_add, z_mul, z_m1ne, z_m1ne', z_m1lt0, z_m1lt, z_ltm1, forall_eq, true_implies, false_implies, implies_true, true_and, and_true, false_and, and_false, not_true_eq_false, not_false_eq_true, ite_true, ite_false, up2_c, up2_r]
    split
    · rw [e1]; exact q
    split
    · rw [e2]; exact q
    split
    · rw [e3]; exact q
    split
    · rw [e4]; exact q
    rw [e5]; exact q
theorem DrM.s8 {ν : Mem} {x : Int32} (h : DrM ν co) : DrM (sI ν 0 8 x) co := by
  unfold DrM at h ⊢
  simp (disch := omega) only [z_le, z_lt, z_eq, z_lt0, z_0le, z_eq0, z_le0, z_0lt, z_cl, z_in, z_add, z_mul, z_m1ne, z_m1ne', z_m1lt0, z_m1lt, z_ltm1, forall_eq, true_implies, false_implies, implies_true, true_and, and_true, false_and, and_false, not_true_eq_false, not_false_eq_true, ite_true, ite_false, sI_same, sI_ne1, sI_ne2, sA_same, sA_ne, sI_2, sA_2, sL_1, sR_1]
  exact h
theorem M_reads (hT : vTx T) (tx : TxM ν T)
    (h1 : ∀ (i' : Nat) (ν' : Mem), FrC ν ν' → (prs T 240 0 co0).1 = .inr i' → DrM ν' (prs T 240 0 co0).2 → ν'.1 0 8 = nI (if (prs T 240 0 co0).2 0 0 = 0 then 0 else 1) → Q (nI 1) ν')
    (h2 : ∀ (e : Nat × Nat) (ν' : Mem), FrC ν ν' → (prs T 240 0 co0).1 = .inl e → RdM ν' T (.inl e) → Q (nI 0) ν') : w_X7_reads ν Q := by
  have hT1 := hT.1
  unfold w_X7_reads
  intro μ1 e1 μ2 e2 μ3 e3 μ4 e4 μ5 e5 μ6 e6
  have f6 : FrC ν μ6 := by
    rw [e6, e5, e4, e3, e2, e1]
    exact (FrC.flag (by decide)).trans ((FrC.flag (by decide)).trans ((FrC.flag (by decide)).trans ((FrC.flag (by decide)).trans ((FrC.flag (by decide)).trans (FrC.flag (by decide))))))
  have k3 : μ6.1 0 3 = nI 0 := by rw [e6, e5, e4, e3, e2, e1]; simp (disch := omega) only [z_le, z_lt, z_eq, z_lt0, z_0le, z_eq0, z_le0, z_0lt, z_cl, z_in, z_add, z_mul, z_m1ne, z_m1ne', z_m1lt0, z_m1lt, z_ltm1, forall_eq, true_implies, false_implies, implies_true, true_and, and_true, false_and, and_false, not_true_eq_false, not_false_eq_true, ite_true, ite_false, sI_same, sI_ne1, sI_ne2, sA_same, sA_ne, sI_2, sA_2, sL_1, sR_1]
  have k5 : μ6.1 0 5 = nI 0 := by rw [e6, e5, e4, e3, e2, e1]; simp (disch := omega) only [z_le, z_lt, z_eq, z_lt0, z_0le, z_eq0, z_le0, z_0lt, z_cl, z_in, z_add, z_mul, z_m1ne, z_m1ne', z_m1lt0, z_m1lt, z_ltm1, forall_eq, true_implies, false_implies, implies_true, true_and, and_true, false_and, and_false, not_true_eq_false, not_false_eq_true, ite_true, ite_false, sI_same, sI_ne1, sI_ne2, sA_same, sA_ne, sI_2, sA_2, sL_1, sR_1]
  have k6 : μ6.1 0 6 = nI 0 := by rw [e6, e5, e4, e3, e2, e1]; simp (disch := omega) only [z_le, z_lt, z_eq, z_lt0, z_0le, z_eq0, z_le0, z_0lt, z_cl, z_in, z_add, z_mul, z_m1ne, z_m1ne', z_m1lt0, z_m1lt, z_ltm1, forall_eq, true_implies, false_implies, implies_true, true_and, and_true, false_and, and_false, not_true_eq_false, not_false_eq_true, ite_true, ite_false, sI_same, sI_ne1, sI_ne2, sA_same, sA_ne, sI_2, sA_2, sL_1, sR_1]
  have k7 : μ6.1 0 7 = nI 0 := by rw [e6, e5, e4, e3, e2, e1]; simp (disch := omega) only [z_le, z_lt, z_eq, z_lt0, z_0le, z_eq0, z_le0, z_0lt, z_cl, z_in, z_add, z_mul, z_m1ne, z_m1ne', z_m1lt0, z_m1lt, z_ltm1, forall_eq, true_implies, false_implies, implies_true, true_and, and_true, false_and, and_false, not_true_eq_false, not_false_eq_true, ite_true, ite_false, sI_same, sI_ne1, sI_ne2, sA_same, sA_ne, sI_2, sA_2, sL_1, sR_1]
  have k9 : μ6.1 0 9 = nI 0 := by rw [e6, e5, e4, e3, e2, e1]; simp (disch := omega) only [z_le, z_lt, z_eq, z_lt0, z_0le, z_eq0, z_le0, z_0lt, z_cl, z_in, z_add, z_mul, z_m1ne, z_m1ne', z_m1lt0, z_m1lt, z_ltm1, forall_eq, true_implies, false_implies, implies_true, true_and, and_true, false_and, and_false, not_true_eq_false, not_false_eq_true, ite_true, ite_false, sI_same, sI_ne1, sI_ne2, sA_same, sA_ne, sI_2, sA_2, sL_1, sR_1]
  have k10 : μ6.1 0 10 = nI 0 := by rw [e6, e5, e4, e3, e2, e1]; simp (disch := omega) only [z_le, z_lt, z_eq, z_lt0, z_0le, z_eq0, z_le0, z_0lt, z_cl, z_in, z_add, z_mul, z_m1ne, z_m1ne', z_m1lt0, z_m1lt, z_ltm1, forall_eq, true_implies, false_implies, implies_true, true_and, and_true, false_and, and_false, not_true_eq_false, not_false_eq_true, ite_true, ite_false, sI_same, sI_ne1, sI_ne2, sA_same, sA_ne, sI_2, sA_2, sL_1, sR_1]
  clear e6 e5 e4 e3 e2 e1
  have two : ∀ ν1 : Mem, FrC ν ν1 → ν1.1 0 = μ6.1 0 → (∀ v, v < 2 → ν1.1 3 v = nI 127 ∧ ν1.1 4 v = nI 0) → w_X7_reads_60 (nI 1) ν1 Q := by
    intro ν1 fr f0 fv
    have d0 : DrM ν1 co0 := by
      have e0 : ∀ i j, i ≠ 5 → co0 i j = 0 := fun i j h => by unfold co0; rw [if_neg h]
      have e5' : ∀ j, co0 5 j = 127 := fun j => by unfold co0; rw [if_pos rfl]
      unfold DrM
      simp (disch := omega) only [z_le, z_lt, z_eq, z_lt0, z_0le, z_eq0, z_le0, z_0lt, z_cl, z_in, z_add, z_mul, z_m1ne, z_m1ne', z_m1lt0, z_m1lt, z_ltm1, forall_eq, true_implies, false_implies, implies_true, true_and, and_true, false_and, and_false, not_true_eq_false, not_false_eq_true, ite_true, ite_false, e0, e5']
      rw [f0]
      exact ⟨fun z => absurd rfl z, ⟨k5, k6, k7, k9, k10⟩, fv, fun h hh => by omega, fun h hh => by omega, fun h hh => by omega⟩
    unfold w_X7_reads_60
    refine M_blanks hT (tx.c fr) (by rw [f0]; exact k3) (Nat.zero_le _) (fun ν2 g2 _ e3 => ?_)
    unfold w_X7_reads_64
    intro X hX
    have key : ∀ d i co (ν3 : Mem), i ≤ T.1 → T.1 - i ≤ d → FrC ν ν3 → RdM ν3 T (.inr (sk T i)) → DrM ν3 co → vP co → prs T d i co = prs T 240 0 co0 → X (nI (if co 0 0 = 0 then 1 else 0)) ν3 := by
      intro d
      have fin : ∀ i co (ν3 : Mem), ¬ sk T i < T.1 → FrC ν ν3 → DrM ν3 co → prs T 240 0 co0 = (.inr (sk T i), co) → w_X7_reads_94 (nI (if co 0 0 = 0 then 1 else 0)) ν3 Q := by
        intro i co ν3 hi fr3 dr3 ep
        unfold w_X7_reads_94 w_X7_reads_104
        have g : ∀ y : Nat, y = (if co 0 0 = 0 then 0 else 1) → ∀ μ16 : Mem, μ16 = sI ν3 0 8 (nI y) → Q (nI 1) μ16 := by
          intro y ey μ16 e16
          subst e16
          refine h1 (sk T i) _ (fr3.trans (FrC.flag (by decide))) (by rw [ep]) (by rw [ep]; exact dr3.s8) ?_
          rw [sI_same, ep, ey]
        by_cases z : co 0 0 = 0
        · rw [if_pos z]
          exact ⟨fun _ => ⟨Or.inl rfl, g 0 (by rw [if_pos z])⟩, fun y => absurd y (by decide)⟩
        · rw [if_neg z]
          exact ⟨fun y => absurd rfl y, fun _ => ⟨Or.inr rfl, g 1 (by rw [if_neg z])⟩⟩
      induction d with
      | zero =>
        intro i co ν3 hi hd fr3 rd3 dr3 hv ep
        have hk := sk_le hi
        have e : sk T i = i := sk_end (by omega)
        apply hX
        unfold s_X7_reads_64
        rw [(tx.c fr3).1, rd3.1, z_le (by omega) (by omega)]
        refine ⟨fun _ => fin i co ν3 (by omega) fr3 dr3 ?_, fun z => by omega⟩
        rw [← ep, e]; rfl
      | succ d ih =>
        intro i co ν3 hi hd fr3 rd3 dr3 hv ep
        have hk := sk_le hi
        apply hX
        unfold s_X7_reads_64
        rw [(tx.c fr3).1, rd3.1, z_le (by omega) (by omega)]
        refine ⟨fun z => fin i co ν3 (by omega) fr3 dr3 ?_, fun z => ?_⟩
        · rw [← ep]
          exact prs_end (by omega) (d + 1) hi hd
        · have q : sk T i < T.1 := by omega
          refine M_readsClause hT (tx.c fr3) dr3 hv q rd3 (fun i' ν4 f4 est r4 d4 => ⟨fun _ => ?_, fun y => absurd y (by decide)⟩) (fun e ν4 f4 est r4 => ⟨fun y => absurd rfl y, fun _ => h2 e ν4 (fr3.trans f4) ?_ r4⟩)
          · have hcv := clP_v hv q est
            have hge := @sk_ge T i
            have fr4 := fr3.trans f4
            rw [prs_inr q est] at ep
            refine M_blanks hT (tx.c fr4) r4.1 r4.2 (fun ν5 g5 _ e5 => ?_)
            have := ih i' _ ν5 hcv.2.2 (by omega) (fr4.trans g5.c) ⟨e5, sk_le hcv.2.2⟩ (d4.rd g5) hcv.1 ep
            rw [if_neg (clC_ne q est)] at this
            exact this
          · rw [← ep, prs_inl q est]
    have := key 240 0 co0 ν2 (Nat.zero_le _) (by omega) (fr.trans g2.c) ⟨e3, sk_le (Nat.zero_le _)⟩ (d0.rd g2) vP_0 rfl
    exact this
  unfold w_X7_reads_34
  intro X hX
  refine cnt_dn (P := fun k => k ≤ 2 → ∀ ν1 : Mem, FrC ν ν1 → ν1.1 0 = μ6.1 0 → (∀ v, v < k → ν1.1 3 v = nI 127 ∧ ν1.1 4 v = nI 0) → X (nI k) ν1) 2 ?_ ?_ (by decide) μ6 f6 rfl (fun v hv => by omega)
  · intro _ ν1 fr f0 fv
    apply hX
    unfold s_X7_reads_34
    exact ⟨fun _ => two ν1 fr f0 fv, fun z => absurd (by decide) z⟩
  · intro k hk ih _ ν1 fr f0 fv
    apply hX
    unfold s_X7_reads_34
    simp (disch := omega) only [z_le, z_lt, z_eq, z_lt0, z_0le, z_eq0, z_le0, z_0lt, z_cl, z_in, z_add, z_mul, z_m1ne, z_m1ne', z_m1lt0, z_m1lt, z_ltm1, forall_eq, true_implies, false_implies, implies_true, true_and, and_true, false_and, and_false, not_true_eq_false, not_false_eq_true, ite_true, ite_false]
    refine ⟨fun z => by omega, fun _ => ⟨hk, hk, ?_⟩⟩
    refine ih (by omega) (sI (sI ν1 3 k (nI 127)) 4 k (nI 0)) (fr.trans ((FrC.put (by decide)).trans (FrC.put (by decide)))) (by rw [sI_r (by decide), sI_r (by decide)]; exact f0) (fun v hv => ?_)
    by_cases e : v = k
    · subst e; simp (disch := omega) only [z_le, z_lt, z_eq, z_lt0, z_0le, z_eq0, z_le0, z_0lt, z_cl, z_in, z_add, z_mul, z_m1ne, z_m1ne', z_m1lt0, z_m1lt, z_ltm1, forall_eq, true_implies, false_implies, implies_true, true_and, and_true, false_and, and_false, not_true_eq_false, not_false_eq_true, ite_true, ite_false, sI_same, sI_ne1, sI_ne2, sA_same, sA_ne, sI_2, sA_2, sL_1, sR_1]
    · simp (disch := omega) only [z_le, z_lt, z_eq, z_lt0, z_0le, z_eq0, z_le0, z_0lt, z_cl, z_in, z_add, z_mul, z_m1ne, z_m1ne', z_m1lt0, z_m1lt, z_ltm1, forall_eq, true_implies, false_implies, implies_true, true_and, and_true, false_and, and_false, not_true_eq_false, not_false_eq_true, ite_true, ite_false, sI_same, sI_ne1, sI_ne2, sA_same, sA_ne, sI_2, sA_2, sL_1, sR_1]; exact fv v (by omega)
end MPOST
