/-! ===== the law's checks: lamps, thirst, shares, goats, what is carried ===== -/
section LCHK
variable {μ : Mem} {co : Co} {r : Ro} {U : Un} {sd : Nat} {I : Im} {G : Gt} {L : Nat → Nat → Nat} {Q : Int32 → Mem → Prop} {Q0 : Int32 → Prop}
theorem L_took {n : Nat} (h : OK μ co r U sd I G L) (hn : n ≤ 99) (q : ∀ μ' : Mem, OK μ' co r U sd I G L → Q (nI (tryN co r n).1) μ') : w_L_took (nI n) μ Q := by
  have h6 := h.v.1.2.2.2.1
  unfold w_L_took w_L_took_4
  intro X hX
  refine cnt_dn (P := fun i => i ≤ co 0 3 → ∀ μ1 : Mem, OK μ1 co r U sd I G L → X (nI (sumN (tryN co r n).2.2 i)) (nI i) μ1) (co 0 3) ?_ ?_ (by omega) μ h
  · intro _ μ1 h1
    apply hX
    unfold s_L_took_4
    refine T3 h1 (br_yes ((z_le (by omega) (by omega)).mpr (Nat.le_refl _)) ?_)
    rw [← tryN_sum]
    exact q μ1 h1
  · intro i hi ih _ μ1 h1
    apply hX
    unfold s_L_took_4
    refine T3 h1 (br_no (fun z => by rw [z_le (by omega) (by omega)] at z; omega) (U_gets h1 hi hn (fun μ2 h2 => ?_)))
    intro x5 e5 x6 e6
    rw [z_add] at e5 e6
    subst e5 e6
    exact ih (by omega) μ2 h2
theorem L_lamps {n : Nat} (h : OK μ co r U sd I G L) (hn : n ≤ 99) (h2 : r 2 = 0) (hU : U.1 < 30) (q : ∀ (μ' : Mem) (V : Un), US U V → OK μ' co r V sd I G L → Q (nI 1) μ') : w_L_lamps (nI n) (nI U.1) μ Q := by
  have e0 : upN r 2 0 = r := by rw [← h2]; exact upN_id
  have hd := h.day
  unfold w_L_lamps
  refine U_lampCosts h hn (fun μ1 h1 => L_took h1 hn (fun μ2 k2 => U_lamp k2 (fun μ3 h3 => ?_)))
  rw [h2]
  refine bn_yes rfl (L_took h3 hn (fun μ4 h4 => bn_yes (by rw [e0]) (U_lampCosts h4 hn (fun μ5 h5 => bn_yes (by rw [upN_upN, upN_upN]) (UB h5 hU (fun μ6 V u6 h6 => br_no (nn0 (by omega)) (T8 h6 ?_)))))))
  rw [h2]
  refine bn_yes rfl (T15 h6 (bn_yes (by rw [u6.1]) (q μ6 V u6 h6)))
theorem L_thirst {v : Nat} (h : OK μ co r U sd I G L) (k : LK co L) (hv2 : v < 2) (h5 : r (5 + v) = 0) (q : ∀ μ' : Mem, OK μ' co r U sd I G L → Q (nI 1) μ') : w_L_thirst (nI v) (nI U.1) μ Q := by
  have hn := h.v.1.2.2.2.1
  have h7 : r (7 + v) ≤ 999999 := by
    have := h.v.2.1
    rcases (by omega : v = 0 ∨ v = 1) with rfl | rfl
    · exact this.2.2.2.2.2.2.2.1
    · exact this.2.2.2.2.2.2.2.2.1
  have hu := (h.v.1.2.2.2.2.2.2.2.2.2.1 v hv2).2
  unfold w_L_thirst
  refine U_thirsty h hv2 (fun μ1 h1 => VI3 h1 hv2 ?_)
  have eg : μ1.1 246 (((nI 7) + (nI v))).toNatClampNeg = nI (co 6 v) := by rw [z_add, z_cl (by omega), h1.g, (k.2.1 v hv2).2]
  rw [eg]
  refine ⟨by rw [z_add]; exact vp_in_nI (by omega) (by decide), ?_⟩
  by_cases c : co 6 v = 0
  · rw [thr_0 (itN_thr0 hn hv2 c h7), c]
    refine bn_yes rfl (bn_yes rfl (U_lasts h1 hv2 ?_))
    rw [if_pos c]
    exact bn_yes rfl (q μ1 h1)
  · refine bn_no (fun z => c ((z_eq0 (by omega)).mp z)) ?_
    have tail108 : w_L_thirst_108 (nI v) (nI U.1) (nI (r (7 + v))) μ1 Q := by
      unfold w_L_thirst_108
      exact VI3 h1 hv2 (bn_yes rfl (T15 h1 (bn_yes rfl (q μ1 h1))))
    have tail95 : ∀ x, w_L_thirst_95 (nI v) (nI U.1) x (nI (r (7 + v))) (nI 0) μ1 Q := by
      intro x
      unfold w_L_thirst_95
      exact br_yes (by decide) tail108
    have tail68 : ∀ o : Option Nat, (∀ w, o = some w → 1 ≤ w ∧ w ≤ 60) → w_L_thirst_68 (nI v) (nI U.1) (optI o) (nI (r (7 + v))) μ1 Q := by
      intro o ho
      unfold w_L_thirst_68
      refine U_lasts h1 hv2 ?_
      rw [if_neg c, h5, Nat.zero_div, if_neg (by decide)]
      cases o with
      | none => exact br_yes rfl (tail95 _)
      | some w =>
        have := ho w rfl
        refine br_no (fun z => (z_m1ne (by omega)).mp z) (br_yes ((z_lt (by decide) (by omega)).mpr (by omega)) (tail95 _))
    have hin : ∀ w, thr co r v 720 0 = some w → 1 ≤ w ∧ w ≤ 60 := fun w hw => thr_in hn hv2 720 0 w hw
    cases e : thr co r v 720 0 with
    | none => exact br_yes rfl (tail68 none (fun w hw => by cases hw))
    | some w =>
      obtain ⟨w1, w2⟩ := hin w e
      refine br_no (fun z => (z_m1ne (by omega)).mp z) (br_no (fun z => ?_) (br_yes ((z_le (by omega) (by decide)).mpr w2) (tail68 (some w) (fun y hy => by cases hy; exact ⟨w1, w2⟩))))
      have := (z_lt (by omega) (by decide)).mp z
      omega
theorem L_shares {x : Nat} (h : OK μ co r U sd I G L) (hx : x ≤ 999) (h3 : 0 < co 0 3) (q : Q0 (nI 1)) : w_L_shares (nI x) μ Q0 := by
  have hv := h.v.1
  have hn := hv.2.2.2.1
  have hs := sh_sum (x := x) hv h3
  unfold w_L_shares
  refine U_share h hx (by decide) h3 (U_share h hx (by decide) h3 (bn_yes (by rw [z_add, hs]) (br_no (nn0 (by omega)) (br_no (nn0 (by omega)) (VI4 h (by decide) ?_)))))
  have tail : w_L_shares_45 (nI x) (nI (shN co x 1)) μ Q0 := by
    unfold w_L_shares_45
    refine VI4 h (by decide) ?_
    have h64 := hsN_64 (fun p => decide (co 4 p = 1)) hn
    by_cases c : hsN (fun p => decide (co 4 p = 1)) (co 0 3) = 0
    · rw [sh_none hv h3 (by decide) (own_hsN hn c)]
      rw [c]
      exact bn_yes rfl (bn_yes rfl q)
    · exact bn_no (fun z => c ((z_eq0 (by omega)).mp z)) q
  have h64 := hsN_64 (fun p => decide (co 4 p = 0)) hn
  by_cases c : hsN (fun p => decide (co 4 p = 0)) (co 0 3) = 0
  · rw [sh_none (v := 0) hv h3 (by decide) (own_hsN hn c)]
    rw [c]
    exact bn_yes rfl (bn_yes rfl tail)
  · exact bn_no (fun z => c ((z_eq0 (by omega)).mp z)) tail
theorem L_carried (h : OK μ co r U sd I G L) (h5 : r 5 = 0) (h6 : r 6 = 0) (hU : U.1 < 29) (q : ∀ (μ' : Mem) (V : Un), US U V → OK μ' co r V sd I G L → Q (nI 1) μ') : w_L_carried (nI U.1) μ Q := by
  have hv := h.v.1
  have hn := hv.2.2.2.1
  have hr := h.v.2.1
  have hs := cjS_sum (r := r) hv
  have l0 := cjS_le (v := 0) hv hr (Nat.le_refl _)
  have l1 := cjS_le (v := 1) hv hr (Nat.le_refl _)
  have e1 := cjS_1 (r := r) hn
  have hd := h.day
  unfold w_L_carried
  refine T10 h (VI2 h (by decide) (VI2 h (by decide) (U_carry h (by decide) (fun μ1 h1 => U_carry h1 (by decide) (fun μ2 h2 => ?_)))))
  have z10 : sumN (fun p => carR co 1 (carR co 0 r) (9 + p)) (co 0 3) = 0 := sumN_zero _ (fun p hp => by
    have hown := (hv.2.2.2.2.2.2.2.2.1 p hp).2.2
    rw [car_jar hp hn (by decide)]
    by_cases c : co 4 p = 1
    · rw [if_pos c]
    · rw [if_neg c, car_jar hp hn (by decide), if_pos (by omega)])
  have c0 : carR co 1 (carR co 0 r) (5 + 0) = r (5 + 0) + cjS co 0 r (co 0 3) := by
    rw [car_cis (by decide) (by decide), if_neg (by decide), car_cis (by decide) (by decide), if_pos rfl, if_neg (by show ¬ 99999 < r 5 + _; omega)]
  have c1 : carR co 1 (carR co 0 r) (5 + 1) = r (5 + 1) + cjS co 1 (carR co 0 r) (co 0 3) := by
    rw [car_cis (by decide) (by decide), if_pos rfl, car_cis (by decide) (by decide), if_neg (show ¬ 1 = 0 by decide), if_neg (by rw [e1]; show ¬ 99999 < r 6 + _; omega)]
  have tail : w_L_carried_88 (nI U.1) (nI (sumN (fun p => r (9 + p)) (co 0 3))) (nI (r (5 + 0))) (nI 1) μ2 Q := by
    unfold w_L_carried_88
    refine br_no (by decide) ?_
    have r1 := rem_1 (r := r) (U := U) (by omega)
    have r2 := rem_1 (r := carR co 0 r) (U := remU U r) (by omega)
    refine U_undo h2 (by decide) (by omega) (fun μ3 h3 => ?_)
    have e2 : (remU (remU U r) (carR co 0 r)).1 - 2 = U.1 := by omega
    rw [e2, rem_3 (by omega) (by omega), rem_2 (by omega)] at h3 ⊢
    have us : US U (U.1, (remU (remU U r) (carR co 0 r)).2) := ⟨rfl, fun i hi => by
      show (remU (remU U r) (carR co 0 r)).2 i = _
      rw [rem_3 (by omega) (by omega), rem_3 (by omega) hi]⟩
    exact br_no (nn0 (by omega)) (T10 h3 (bn_yes rfl (VI2 h3 (by decide) (bn_yes rfl (T15 h3 (bn_yes rfl (q μ3 _ us h3)))))))
  refine bn_yes (by rw [z_add, e1, hs]) (T10 h2 ?_)
  rw [z10]
  refine bn_yes rfl (VI2 h2 (by decide) ?_)
  rw [c0, z_add]
  refine bn_yes rfl (VI2 h2 (by decide) ?_)
  rw [c1, z_add]
  exact bn_yes rfl tail
theorem L_yards (h : OK μ co r U sd I G L) (k : LK co L) (hU : U.1 < 30) (q : ∀ (μ' : Mem) (V : Un), US U V → OK μ' co r V sd I G L → Q (nI 1) μ') : w_L_yards (nI U.1) μ Q := by
  have hv := h.v.1
  have hn := hv.2.2.2.1
  have hg4 := hv.2.2.2.2.1
  have hcc := hv.1
  have hr := h.v.2.1
  have hd := h.day
  have hrp := hr.2.2.2.2.2.2.2.2.2.1
  have inj := hr.2.2.2.2.2.2.2.2.2.2
  have hsz := hv.2.2.2.2.2.2.2.2.1
  unfold w_L_yards w_L_yards_2
  intro X hX
  refine cnt_dn (P := fun i => i ≤ co 0 4 → ∀ (μ1 : Mem) (V : Un), US U V → OK μ1 co r V sd I G L → X (nI i) μ1) (co 0 4) ?_ ?_ (by omega) μ U US.rf h
  · intro _ μ1 V u1 h1
    apply hX
    unfold s_L_yards_2
    rw [h1.g4 k, z_le (by omega) (by omega)]
    exact ⟨vp4, br_yes (Nat.le_refl _) (q μ1 V u1 h1)⟩
  · intro i hi ih _ μ1 V u1 h1
    have ih := ih (by omega)
    have hcl := (hv.2.2.2.2.2.2.2.2.2.2 i hi).1
    obtain ⟨y1, y2⟩ := yd_spec (c := co 7 i) inj (co 0 0)
    apply hX
    unfold s_L_yards_2
    rw [h1.g4 k, h1.g3 k, z_le (by omega) (by omega)]
    refine ⟨vp4, br_no (by omega) (U_yards h1 hi (by decide) (U_yards h1 hi (by decide) ?_))⟩
    rw [if_pos rfl, if_neg (by decide)]
    have next : ∀ (μ2 : Mem) (W : Un), US U W → OK μ2 co r W sd I G L → w_L_yards_202 (nI U.1) X (nI i) μ2 Q := by
      intro μ2 W u2 h2
      unfold w_L_yards_202
      intro x31 e31
      rw [z_add] at e31
      subst e31
      exact ih μ2 W u2 h2
    cases e : yd co r (co 7 i) (co 0 0) with
    | none =>
      have z10 : sumN (fun p => r (9 + p)) (co 0 3) = 0 := sumN_zero _ (fun p hp => y1 e p hp (hrp p hp).2.1)
      refine br_no (by decide) (bn_yes rfl (T10 h1 ?_))
      rw [z10]
      refine br_yes rfl ?_
      unfold w_L_yards_111
      exact br_yes (by decide) (next μ1 V u1 h1)
    | some t =>
      obtain ⟨⟨b1, b2, b3, b4⟩, b5⟩ := y2 t e
      have ht := yd_ok (r := r) (c := co 7 i) (by omega) hn (co 0 0) (by omega) t e
      have hj := hrp t.1 b1
      have hs9 := hsz t.1 b1
      have tail : w_L_yards_111 (nI U.1) X (nI i) (nI t.2) (nI t.1) μ1 Q := by
        unfold w_L_yards_111
        refine br_no (nn0 (by omega)) (U_lick h1 b1 (by decide) (by decide) (fun μ2 h2 => ?_))
        rw [show r (9 + t.1) - 99 = 0 by omega] at h2 ⊢
        have hV : V.1 < 30 := by rw [u1.1]; exact hU
        have fin : w_L_yards_159 (nI U.1) X (nI i) (nI t.1) μ2 Q := by
          unfold w_L_yards_159
          refine UB h2 hV (fun μ3 W u3 h3 => br_no (nn0 (by omega)) ?_)
          unfold w_L_yards_172
          refine br_no (by decide) (U_yards h3 hi (by decide) ?_)
          rw [if_neg (by decide), e]
          refine bn_yes rfl (T15 h3 (br_yes (by rw [u3.1, u1.1]) (next μ3 W (u1.tr u3) h3)))
        refine bn_yes rfl (U_yards h2 hi (by decide) ?_)
        rw [if_pos rfl]
        have inj2 : ∀ a b, a < co 0 3 → b < co 0 3 → upN r (9 + t.1) 0 (15 + a) = upN r (9 + t.1) 0 (15 + b) → a = b := fun a b ha hb z => by
          rw [upN_ne (by omega), upN_ne (by omega)] at z
          exact inj a b ha hb z
        obtain ⟨-, y4⟩ := yd_spec (c := co 7 i) inj2 (co 0 0)
        cases e2 : yd co (upN r (9 + t.1) 0) (co 7 i) (co 0 0) with
        | none => exact br_yes rfl fin
        | some w =>
          obtain ⟨⟨c1, c2, c3, c4⟩, -⟩ := y4 w e2
          have hw := yd_ok (r := upN r (9 + t.1) 0) (c := co 7 i) (by omega) hn (co 0 0) (by omega) w e2
          have hne : w.1 ≠ t.1 := fun z => by rw [z, upN_same] at c2; omega
          rw [upN_ne (by omega)] at c2 c3 c4
          have h9 := b5 w.1 c1 c3 c2
          refine br_no (fun z => (z_m1ne (by omega)).mp z) (U_yards h2 hi (by decide) ?_)
          rw [if_pos rfl, e2]
          refine br_no (fun z => ?_) (U_yards h2 hi (by decide) ?_)
          · have z := (z_lt (by omega) (by omega)).mp z
            omega
          · rw [if_neg (by decide), e2]
            refine br_no (fun z => ?_) fin
            have z := (z_eq (by omega) (by omega)).mp z
            exact hne z
      refine br_yes ((z_0le (by omega)).mpr trivial) (br_no (nn0 (by omega)) ⟨vp3, br_no (fun z => ?_) (PO4 h1 b1 (br_no (fun z => ?_) (PO0 h1 b1 (U_goat h1 hi 0 (by decide) ?_))))⟩)
      · have z := (z_le (by omega) (by omega)).mp z
        omega
      · have z := (z_eq0 (by omega)).mp z
        omega
      · rw [if_pos rfl]
        by_cases c : r (15 + t.1) < co 7 i
        · have hw : t.2 = co 7 i - r (15 + t.1) := by rw [b4]; unfold way; rw [if_pos c]
          refine br_yes ?_ tail
          show nI (r (15 + t.1)) = nI (co 7 i) - nI t.2
          rw [z_sub (by omega)]
          congr 1
          omega
        · have hw : t.2 = r (15 + t.1) - co 7 i := by rw [b4]; unfold way; rw [if_neg c]
          by_cases c2 : nI (r (15 + t.1)) = (nI (co 7 i) - nI t.2)
          · exact br_yes c2 tail
          · refine br_no c2 (PO0 h1 b1 (U_goat h1 hi 0 (by decide) ?_))
            rw [if_pos rfl]
            refine br_yes ?_ tail
            show nI (r (15 + t.1)) = nI (co 7 i) + nI t.2
            rw [z_add]
            congr 1
            omega
end LCHK
