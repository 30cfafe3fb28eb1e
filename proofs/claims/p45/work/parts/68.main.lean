/-! ===== the law from its numbers to its end ===== -/
theorem OK0.fr {μ μ1 : Mem} {l : List Nat} {sd : Nat} {L L1 : Nat → Nat → Nat} (h : OK0 μ l sd L) (f : FrN μ μ1) (hl : LwF μ1 L1) : OK0 μ1 l sd L1 := by
  obtain ⟨fp, I, hA, a1, a2, a3, a4, a5, a6, a7, a8, a9, a10, a11, a12⟩ := h
  have g := f.2
  refine ⟨fp, I, hA, ?_, ?_, ⟨a3.1.fr (g 8 (by decide) (by decide)), a3.2.fr (g 19 (by decide) (by decide))⟩, a4.fr (fun k _ _ => g k (by omega) (by omega)), a5.fr (fun k _ _ => g k (by omega) (by omega)), a6.fr (fun k _ _ => g k (by omega) (by omega)), ?_, ?_, a9.fr (fun k _ _ => g k (by omega) (by omega)), ?_, ?_, hl⟩
  · rw [f.1]; exact a1
  · unfold C0 at a2 ⊢
    rw [g 3 (by decide) (by decide), g 10 (by decide) (by decide), g 11 (by decide) (by decide)]
    exact a2
  · rw [g 1 (by decide) (by decide)]; exact a7
  · rw [g 0 (by decide) (by decide)]; exact a8
  · rw [g 237 (by decide) (by decide)]; exact a10
  · rw [g 241 (by decide) (by decide)]; exact a11
theorem pas_lamp {co : Co} {r : Ro} {fog side : Nat} (hn : co 0 3 ≤ 6) : pasR co r fog side false 2 = r 2 := by
  unfold pasR
  split
  · unfold endR
    rw [if_neg (by decide), upN_ne (by decide), upN_ne (by decide), uj_oth (by decide) 2 (by decide), gj_oth hn (by decide) (by decide), upN_ne (by decide), pj_oth (by decide) (by decide) _ hn]
  · rw [upN_ne (by decide), pj_oth (by decide) (by decide) _ hn]
section MAIN
variable {co : Co} {r : Ro} {U : Un} {s : Nat}
theorem hour_U : ∀ i, U.1 + i ≤ 30 → (hourN co r U i).2.2.1 = U.1 + i ∧ (∀ j, j < U.1 → (hourN co r U i).2.2.2 j = U.2 j) ∧ (0 < i → (hourN co r U i).2.2.2 U.1 = r) := by
  intro i
  induction i with
  | zero => intro _; exact ⟨rfl, fun _ _ => rfl, fun z => absurd z (by decide)⟩
  | succ i ih =>
    intro h
    obtain ⟨h1, h2, h3⟩ := ih (by omega)
    have e : (hourN co r U (i + 1)).2.2 = remU (hourN co r U i).2.2 (hourN co r U i).2.1 := rfl
    rw [e]
    have hU : (hourN co r U i).2.2.1 < 30 := by omega
    refine ⟨by rw [rem_1 hU]; omega, fun j hj => by rw [rem_3 hU (by omega)]; exact h2 j hj, fun _ => ?_⟩
    by_cases c : i = 0
    · subst c
      exact rem_2 (U := U) hU
    · rw [rem_3 hU (by omega)]; exact h3 (by omega)
theorem drift_U : ∀ i, U.1 + i ≤ 30 → (driftN co r U s i).2.2.1 = U.1 + i ∧ (∀ j, j < U.1 → (driftN co r U s i).2.2.2 j = U.2 j) ∧ (0 < i → (driftN co r U s i).2.2.2 U.1 = r) := by
  intro i
  induction i with
  | zero => intro _; exact ⟨rfl, fun _ _ => rfl, fun z => absurd z (by decide)⟩
  | succ i ih =>
    intro h
    obtain ⟨h1, h2, h3⟩ := ih (by omega)
    have e : (driftN co r U s (i + 1)).2.2 = remU (driftN co r U s i).2.2 (driftN co r U s i).2.1.1 := rfl
    rw [e]
    have hU : (driftN co r U s i).2.2.1 < 30 := by omega
    refine ⟨by rw [rem_1 hU]; omega, fun j hj => by rw [rem_3 hU (by omega)]; exact h2 j hj, fun _ => ?_⟩
    by_cases c : i = 0
    · subst c
      exact rem_2 (U := U) hU
    · rw [rem_3 hU (by omega)]; exact h3 (by omega)
theorem drift_same {V : Un} : ∀ i, (driftN co r U s i).1 = (driftN co r V s i).1 ∧ (driftN co r U s i).2.1 = (driftN co r V s i).2.1 := by
  intro i
  induction i with
  | zero => exact ⟨rfl, rfl⟩
  | succ i ih =>
    obtain ⟨h1, h2⟩ := ih
    have e1 : ∀ W : Un, (driftN co r W s (i + 1)).1 = (driftN co r W s i).1 + sumN (pasT co (driftN co r W s i).2.1.1 (drV (nxS (driftN co r W s i).2.1.2) 41) (drV (nxS (nxS (driftN co r W s i).2.1.2)) 2)) (co 0 3) := fun _ => rfl
    have e2 : ∀ W : Un, (driftN co r W s (i + 1)).2.1 = drift1 co (driftN co r W s i).2.1.1 (driftN co r W s i).2.1.2 := fun _ => rfl
    rw [e1, e1, e2, e2, h1, h2]
    exact ⟨rfl, rfl⟩
theorem hour_inv (hv : vCo co) (hr : vRo co r 0) (h0 : ∀ j, j < 15 → r j = 0) : ∀ i, i ≤ 5 → (hourN co r U i).2.1 2 = 0 ∧ (hourN co r U i).2.1 5 = 0 ∧ (hourN co r U i).2.1 6 = 0 ∧ tot co (hourN co r U i).2.1 = (hourN co r U i).1 ∧ (hourN co r U i).1 ≤ 240 * i := by
  have hn := hv.2.2.2.1
  intro i
  induction i with
  | zero =>
    intro _
    refine ⟨h0 2 (by decide), h0 5 (by decide), h0 6 (by decide), ?_, Nat.le_refl _⟩
    show tot co r = 0
    unfold tot
    rw [sumN_zero _ (fun p hp => h0 (9 + p) (by omega)), h0 3 (by decide), h0 4 (by decide)]
  | succ i ih =>
    intro h
    obtain ⟨h2, h5, h6, ht, hs⟩ := ih (by omega)
    have hri := hourN_v (U := U) hv hr i
    have hh := co_hour hv hri.2.1
    have hle := sumT_le (side := co 1 ((hourN co r U i).2.1 1)) hv hri hh.2
    have e1 : (hourN co r U (i + 1)).2.1 = pasR co (hourN co r U i).2.1 (co 2 ((hourN co r U i).2.1 1)) (co 1 ((hourN co r U i).2.1 1)) false := rfl
    have e2 : (hourN co r U (i + 1)).1 = (hourN co r U i).1 + sumN (pasT co (hourN co r U i).2.1 (co 2 ((hourN co r U i).2.1 1)) (co 1 ((hourN co r U i).2.1 1))) (co 0 3) := rfl
    rw [e1, e2]
    refine ⟨by rw [pas_lamp hn]; exact h2, pas_cis (v := 0) hn (by decide) h5, pas_cis (v := 1) hn (by decide) h6, ?_, by omega⟩
    rw [tot_pas hn (by omega), ht]
end MAIN
section LAWMAIN
variable {μ : Mem} {ss : Nat × (Nat → Int32)} {co : Co} {r r0 : Ro} {U V : Un} {sd : Nat} {I : Im} {G2 : Nat → Nat → Nat} {L : Nat → Nat → Nat} {Q : Int32 → Mem → Prop}
/-- behind all checks: undone, images -/
theorem W_523 (hss : ss.1 ≤ 260) (h : OK μ co (driftN co r0 V sd 9).2.1.1 U (driftN co r0 V sd 9).2.1.2 I (0, G2) L) (hi : I 0 = some (sd, r0)) (hd : sd = cv ss 35) (h9 : r0 0 = 0) (q : ∀ μ' : Mem, Q (nI 1) μ') : w_L_law_523 ss (nI 1) (nI (driftN co r0 V sd 9).1) μ Q := by
  unfold w_L_law_523
  refine T10 h (br_no (by decide) (U_goBack h hi (fun μ1 h1 => bn_yes rfl (U_drift h1 (by decide) (by decide) (by show r0 0 ≤ 9000; omega) (fun μ2 h2 => ?_)))))
  obtain ⟨s1, s2⟩ := drift_same (co := co) (r := r0) (s := sd) (U := V) (V := (0, U.2)) 9
  have s2' : (driftN co r0 V sd 9).2.1 = (driftN co r0 (0, U.2) sd 9).2.1 := s2
  refine bn_yes (by rw [s1]) (T10 h2 (bn_yes ?_ (U_goBack h2 hi (fun μ3 h3 => bn_yes rfl (U_seed h3 (by decide) (fun μ4 h4 => L_cell hss (by decide) (bn_yes (by rw [hd]) (q μ4))))))))
  rw [s2']
theorem W_288 {gone : Nat} (hss : ss.1 ≤ 260) (k : LK co L) (kw : LW r0 L (co 0 3)) (h3 : 0 < co 0 3) (hg : 1 ≤ gone ∧ gone ≤ 5) (hU : U.1 = gone) (hU0 : U.2 0 = r0) (hi : I 0 = some (sd, r0)) (hd : sd = cv ss 35) (h9 : r0 0 = 0)
    (r2 : r 2 = 0) (r5 : r 5 = 0) (r6 : r 6 = 0) (r9 : r 0 ≤ 9000) (hV : US U V) (h : OK μ co r V sd I (0, G2) L) (q : ∀ μ' : Mem, Q (nI 1) μ') : w_L_law_288 ss (nI gone) μ Q := by
  have c50 := cv_lt (ss := ss) (k := 50) (by decide)
  have c51 := cv_lt (ss := ss) (k := 51) (by decide)
  have c52 := cv_lt (ss := ss) (k := 52) (by decide)
  have c53 := cv_lt (ss := ss) (k := 53) (by decide)
  have c55 := cv_lt (ss := ss) (k := 55) (by decide)
  have m50 := Nat.mod_lt (cv ss 50) (show 0 < 30 by decide)
  have m51 := Nat.mod_lt (cv ss 51) (show 0 < 2 by decide)
  have m52 := Nat.mod_lt (cv ss 52) (show 0 < 60 by decide)
  have m522 := Nat.mod_lt (cv ss 52 / 64) (show 0 < 2 by decide)
  have m53 := Nat.mod_lt (cv ss 53) (show 0 < 1000 by decide)
  have m55 := Nat.mod_lt (cv ss 55) (show 0 < 20 by decide)
  have hVg : V.1 = gone := hV.1.trans hU
  unfold w_L_law_288
  refine L_cell hss (by decide) ⟨by decide, fun x48 e48 => ?_⟩
  rw [z_rem (by omega) (by decide) (by decide)] at e48
  subst e48
  rw [← hVg]
  refine L_lamps h (by omega) r2 (by omega) (fun μ1 V1 u1 h1 => br_no (by decide) (L_cell hss (by decide) ⟨by decide, fun x53 e53 => ?_⟩))
  rw [z_rem (by omega) (by decide) (by decide)] at e53
  subst e53
  rw [← u1.1]
  have r5v : r (5 + cv ss 51 % 2) = 0 := by
    rcases (by omega : cv ss 51 % 2 = 0 ∨ cv ss 51 % 2 = 1) with z | z
    · rw [z]; exact r5
    · rw [z]; exact r6
  refine L_thirst h1 k (by omega) r5v (fun μ2 h2 => br_no (by decide) (L_cell hss (by decide) ⟨by decide, fun x58 e58 => L_cell hss (by decide) ⟨by decide, by decide, fun x61 e61 => ?_⟩⟩))
  rw [z_rem (by omega) (by decide) (by decide)] at e58
  rw [z_div (by omega) (by decide) (by decide), z_rem (by omega) (by decide) (by decide)] at e61
  subst e58 e61
  refine L_led h2 k (by omega) (by omega) (fun μ3 h3' => br_no (by decide) (L_cell hss (by decide) ⟨by decide, fun x66 e66 => ?_⟩))
  rw [z_rem (by omega) (by decide) (by decide)] at e66
  subst e66
  have hV1 : V1.1 < 30 := by rw [u1.1]; omega
  refine L_shares h3' (by omega) h3 (br_no (by decide) (L_yards h3' k hV1 (fun μ4 V2 u2 h4 => br_no (by decide) ?_)))
  rw [← u2.1]
  refine L_carried h4 r5 r6 (by rw [u2.1, u1.1]; omega) (fun μ5 V3 u3 h5 => bn_no (by decide) (L_cell hss (by decide) ⟨by decide, fun x75 e75 => ?_⟩))
  rw [z_rem (by omega) (by decide) (by decide)] at e75
  subst e75
  rw [z_add]
  obtain ⟨n, en⟩ : ∃ n, n = 1 + cv ss 55 % 20 := ⟨_, rfl⟩
  have us : US U V3 := hV.tr (u1.tr (u2.tr u3))
  have g3 : V3.1 = gone := us.1.trans hU
  obtain ⟨d1, d2, d3⟩ := drift_U (co := co) (r := r) (s := sd) (U := V3) n (by omega)
  rw [← en]
  refine U_drift h5 (by omega) (by omega) r9 (fun μ6 h6 => br_no (fun z => ?_) (L_cell hss (by decide) ⟨by decide, fun x80 e80 => ?_⟩))
  · have hsum : (driftN co r V3 sd n).1 ≤ 240 * n := by
      have hv := h5.v.1
      have hsd : sd < 2147483648 := by rw [hd]; exact Nat.lt_trans (cv_lt (by decide)) (by decide)
      have key : ∀ i, i ≤ n → (driftN co r V3 sd i).1 ≤ 240 * i := by
        intro i
        induction i with
        | zero => intro _; exact Nat.le_refl _
        | succ i ih =>
          intro hi'
          have ih := ih (by omega)
          have hri := (driftN_v (U := V3) hv h5.v.2.1 hsd i).1
          have hf : drV (nxS (driftN co r V3 sd i).2.1.2) 41 < 41 := drV_lt (by decide)
          have := sumT_le (side := drV (nxS (nxS (driftN co r V3 sd i).2.1.2)) 2) (fog := drV (nxS (driftN co r V3 sd i).2.1.2) 41) hv hri (by omega)
          show (driftN co r V3 sd i).1 + _ ≤ _
          omega
      exact key n (Nat.le_refl _)
    exact nn0 (by omega) z
  rw [z_rem (by omega) (by decide) (by decide)] at e80
  subst e80
  rw [z_add, ← en]
  have hi6 : (driftN co r V3 sd n).2.2.1 - n = V3.1 := by omega
  refine U_undo h6 (by omega) (by omega) (fun μ7 h7 => ?_)
  rw [hi6, d3 (by omega)] at h7 ⊢
  refine T6 h7 (bn_yes rfl (T15 h7 (bn_yes (by show nI V3.1 = nI V2.1; rw [u3.1]) ?_)))
  have hgone : V2.1 = gone := by rw [← u3.1]; exact g3
  rw [hgone]
  refine U_undo h7 hg.1 (by show gone ≤ V3.1; omega) (fun μ8 h8 => ?_)
  have e0 : (driftN co r V3 sd n).2.2.2 (V3.1 - gone) = r0 := by
    rw [show V3.1 - gone = 0 by omega, d2 0 (by omega), us.2 0 (by omega)]
    exact hU0
  have h8' : OK μ8 co r0 (V3.1 - gone, (driftN co r V3 sd n).2.2.2) (driftN co r V3 sd n).2.1.2 I (0, G2) L := by
    rw [← e0]; exact h8
  have e0' : ((V3.1, (driftN co r V3 sd n).2.2.2) : Un).2 (((V3.1, (driftN co r V3 sd n).2.2.2) : Un).1 - gone) 0 = 0 := by
    show (driftN co r V3 sd n).2.2.2 (V3.1 - gone) 0 = 0
    rw [e0]; exact h9
  rw [e0']
  have s09 : r0 0 ≤ 9000 := by omega
  have low : ∀ (W : Un) (t : Nat), t < 2147483648 → ∀ i, i ≤ 9 → vRo co r0 9060 → vCo co → (driftN co r0 W t i).1 ≤ 240 * i := by
    intro W t ht i
    induction i with
    | zero => intro _ _ _; exact Nat.le_refl _
    | succ i ih =>
      intro hi' hr0 hv
      have ih := ih (by omega) hr0 hv
      have hri := (driftN_v (U := W) hv hr0 ht i).1
      have hf : drV (nxS (driftN co r0 W t i).2.1.2) 41 < 41 := drV_lt (by decide)
      have := sumT_le (side := drV (nxS (nxS (driftN co r0 W t i).2.1.2)) 2) (fog := drV (nxS (driftN co r0 W t i).2.1.2) 41) hv hri (by omega)
      show (driftN co r0 W t i).1 + _ ≤ _
      omega
  have hsd2 : (driftN co r V3 sd n).2.1.2 < 2147483648 := by
    obtain ⟨T2, hA, -, -⟩ := h8'
    exact hA.2.2.2.2.1
  refine br_yes rfl (L_isCoast h8' k kw (br_no (by decide) (U_drift h8' (by decide) (by decide) s09 (fun μ9 h9' => br_no (fun z => ?_) (U_goBack h9' hi (fun μ10 h10 => bn_yes rfl (L_isCoast h10 k kw (br_no (by decide) (T15 h10 (bn_yes rfl ?_)))))))))) 
  · have := low (V3.1 - gone, (driftN co r V3 sd n).2.2.2) (driftN co r V3 sd n).2.1.2 hsd2 9 (Nat.le_refl _) h8'.v.2.1 h8'.v.1
    exact nn0 (by omega) z
  · unfold w_L_law_506
    exact br_no (by decide) (U_drift h10 (by decide) (by decide) s09 (fun μ11 h11 => W_523 hss h11 hi hd h9 q))
theorem W_172 {gone : Nat} (hss : ss.1 ≤ 260) (k : LK co L) (kw : LW r0 L (co 0 3)) (h3 : 0 < co 0 3) (hg : 1 ≤ gone ∧ gone ≤ 5) (hU : U.1 = gone) (hU0 : U.2 0 = r0) (hi : I 0 = some (sd, r0)) (hd : sd = cv ss 35) (h9 : r0 0 = 0)
    (r2 : r 2 = 0) (r5 : r 5 = 0) (r6 : r 6 = 0) (r9 : r 0 ≤ 9000) (h : OK μ co r U sd I (0, G2) L) (q : ∀ μ' : Mem, Q (nI 1) μ') : w_L_law_172 ss (nI gone) (nI (tot co r)) μ Q := by
  have hn := h.v.1.2.2.2.1
  have hday := h.day
  unfold w_L_law_172
  refine PO4 (p := 0) h h3 (T10 h (T11 h (T12 h (bn_yes ?_ (U_lick (p := 0) h h3 (by decide) (by decide) (fun μ1 h1 => ?_))))))
  · rw [z_add, z_add]; rfl
  have end241 : ∀ (μ1 : Mem) (V : Un) (G3 : Nat → Nat → Nat), US U V → OK μ1 co r V sd I (0, G3) L → w_L_law_241 ss (nI gone) (nI 0) μ1 Q := by
    intro μ1 V G3 u1 h1
    unfold w_L_law_241
    intro X hX
    refine cnt_dn (P := fun i => i ≤ co 0 3 → ∀ (μ2 : Mem) (W : Un) (G4 : Nat → Nat → Nat), US U W → OK μ2 co r W sd I (0, G4) L → X (nI i) μ2) (co 0 3) ?_ ?_ (by omega) μ1 V G3 u1 h1
    · intro _ μ2 W G4 u2 h2
      apply hX
      unfold s_L_law_241
      rw [h2.g3 k, z_le (by omega) (by omega)]
      exact ⟨vp3, br_yes (Nat.le_refl _) (W_288 hss k kw h3 hg hU hU0 hi hd h9 r2 r5 r6 r9 u2 h2 q)⟩
    · intro i hi' ih _ μ2 W G4 u2 h2
      have ih := ih (by omega)
      have hW : W.1 = gone := u2.1.trans hU
      apply hX
      unfold s_L_law_241
      rw [h2.g3 k, z_le (by omega) (by omega), ← hW, z_add]
      refine ⟨vp3, br_no (by omega) (L_best h2 hi' (by omega) (fun μ3 W3 u3 h4 => br_no (by decide) (L_cell hss (by omega) (L_thick h4 k hi' (Nat.lt_trans (cv_lt (by omega)) (by decide)) (fun μ5 G5 h5 => bn_no (by decide) (fun x45 e45 => ?_))))))⟩
      rw [z_add] at e45
      subst e45
      exact ih μ5 W3 G5 (u2.tr u3) h5
  have end225 : ∀ x : Nat, x = r (9 + 0) - 3 → w_L_law_225 ss (nI gone) (nI x) (nI (r (9 + 0) - 3)) μ1 Q := by
    intro x hx
    unfold w_L_law_225
    refine bn_yes (by rw [hx]) (UB h1 (by omega) (fun μ2 V u2 h2 => br_yes ((z_0le (by omega)).mpr trivial) (end241 μ2 V G2 u2 h2)))
  have hj := (h.v.2.1.2.2.2.2.2.2.2.2.2.1 0 h3).1
  have hsz := (h.v.1.2.2.2.2.2.2.2.2.1 0 h3).2.1
  rw [z_le (by decide) (by omega)]
  refine ⟨fun c => ?_, fun c => end225 0 (by omega)⟩
  rw [z_sub c]
  exact end225 _ rfl
theorem L_law (hss : ss.1 ≤ 260) {g w : Nat → Nat} (ha : A2 μ g w) {L0 : Nat → Nat → Nat} (h0 : OK0 μ [] 0 L0) (q : ∀ μ' : Mem, Q (nI 1) μ') : w_L_law ss μ Q := by
  unfold w_L_law
  have e35 : cv ss 35 < 2147483648 := Nat.lt_trans (cv_lt (by decide)) (by decide)
  refine L_numbers hss ha (fun μ2 L f2 l2 n => L_cell hss (by decide) (N_seed (h0.fr f2 l2) e35 (fun μ6 h6 => bn_yes rfl (L_coast h6 n (fun μ8 h8 => br_no (by decide) (U_keep h8 (fun μ10 h10 => br_yes rfl (L_cell hss (by decide) ⟨by decide, fun x13 e13 x14 e14 => ?_⟩)))))))) 
  have c36 := cv_lt (ss := ss) (k := 36) (by decide)
  have m36 := Nat.mod_lt (cv ss 36) (show 0 < 5 by decide)
  rw [z_rem (by omega) (by decide) (by decide)] at e13
  rw [e13, z_add] at e14
  subst e14
  obtain ⟨gone, eg⟩ : ∃ gone, gone = 1 + cv ss 36 % 5 := ⟨_, rfl⟩
  rw [← eg]
  have hg : 1 ≤ gone ∧ gone ≤ 5 := by omega
  have n3 := n.2.2.2.1
  have k := c00_LK n
  obtain ⟨co, eco⟩ : ∃ co, co = c00 L := ⟨_, rfl⟩
  obtain ⟨r0, er0⟩ : ∃ r0, r0 = r00 L := ⟨_, rfl⟩
  rw [← eco] at h10 k
  rw [← er0] at h10
  have hv := h10.v.1
  have hn := hv.2.2.2.1
  have k3 : L 100 3 = co 0 3 := k.1.2.2.2.1
  have h3 : 0 < co 0 3 := by omega
  have z0 : ∀ j, j < 15 → r0 j = 0 := fun j hj => by rw [er0]; exact r00_lo hj
  have kw : LW r0 L (co 0 3) := ⟨fun j hj => by rw [z0 j hj]; exact n.2.2.2.2.2.2.2.2.2.2 j hj, fun p hp => by
    have := r00_c n (p := p) (by omega)
    rw [er0]
    exact ⟨this.1.symm, this.2.symm⟩⟩
  have hr0 : vRo co r0 0 := ⟨by rw [z0 0 (by decide)]; exact Nat.le_refl _, h10.v.2.1.2⟩
  obtain ⟨U0, eU0⟩ : ∃ U0 : Un, U0 = (0, ((0, zu) : Un).2) := ⟨_, rfl⟩
  obtain ⟨I0, eI0⟩ : ∃ I0 : Im, I0 = fun k => if k = 0 then some (cv ss 35, r0) else none := ⟨_, rfl⟩
  have h10 : OK μ10 co r0 U0 (cv ss 35) I0 (0, zg) L := by rw [eU0, eI0]; exact h10
  have hi : I0 0 = some (cv ss 35, r0) := by rw [eI0]; exact if_pos rfl
  unfold w_L_law_84
  intro X hX
  refine cnt_dn (P := fun i => i ≤ gone → ∀ μ1 : Mem, OK μ1 co (hourN co r0 U0 i).2.1 (hourN co r0 U0 i).2.2 (cv ss 35) I0 (0, zg) L → X (nI (hourN co r0 U0 i).1) (nI i) μ1) gone ?_ ?_ (by omega) μ10 h10
  · intro _ μ1 h1
    obtain ⟨i2, i5, i6, it, il⟩ := hour_inv (U := U0) hv hr0 z0 gone hg.2
    have hU0z : U0.1 = 0 := by rw [eU0]
    obtain ⟨u1, u2, u3⟩ := hour_U (co := co) (r := r0) (U := U0) gone (by omega)
    rw [hU0z] at u1 u3
    have hday := (hourN_v (U := U0) hv hr0 gone).1
    apply hX
    unfold s_L_law_84
    refine br_yes ((z_le (by omega) (by omega)).mpr (Nat.le_refl _)) ?_
    rw [← it]
    exact W_172 hss k kw h3 hg (by omega) (u3 (by omega)) hi rfl (z0 0 (by decide)) i2 i5 i6 (by omega) h1 q
  · intro i hi' ih _ μ1 h1
    have ih := ih (by omega)
    obtain ⟨i2, i5, i6, it, il⟩ := hour_inv (U := U0) hv hr0 z0 i (by omega)
    obtain ⟨r, er⟩ : ∃ r, r = (hourN co r0 U0 i).2.1 := ⟨_, rfl⟩
    obtain ⟨U, eU⟩ : ∃ U, U = (hourN co r0 U0 i).2.2 := ⟨_, rfl⟩
    have es : (hourN co r0 U0 (i + 1)).2 = (hourN co r U 1).2 := by rw [er, eU]; rfl
    have es1 : (hourN co r0 U0 (i + 1)).1 = (hourN co r0 U0 i).1 + (hourN co r U 1).1 := by
      rw [er, eU]
      show _ = _ + (0 + _)
      rw [Nat.zero_add]
      rfl
    have hday := (hourN_v (U := U0) hv hr0 i).1
    rw [← er, ← eU] at h1
    rw [← er] at i2 hday
    rw [es1] at ih
    have es2 : (hourN co r0 U0 (i + 1)).2.1 = (hourN co r U 1).2.1 := by rw [es]
    have es3 : (hourN co r0 U0 (i + 1)).2.2 = (hourN co r U 1).2.2 := by rw [es]
    rw [es2, es3] at ih
    have hrr := h1.v.2.1
    have hfog := (co_hour hv hrr.2.1).2
    have ht1 := (tryN_le hv hrr 1)
    apply hX
    unfold s_L_law_84
    refine br_no (fun z => ?_) ?_
    · have := (z_le (by omega) (by omega)).mp z
      omega
    unfold w_L_law_97
    intro Y hY
    refine cnt_dn (P := fun p => p ≤ co 0 3 → ∀ μ2 : Mem, OK μ2 co r U (cv ss 35) I0 (0, zg) L → Y (nI (sumN (tryN co r 1).2.2 p)) (nI p) μ2) (co 0 3) ?_ ?_ (by omega) μ1 h1
    · intro _ μ2 h2
      apply hY
      unfold s_L_law_97
      rw [h2.g3 k, z_le (by omega) (by omega)]
      refine ⟨vp3, br_yes (Nat.le_refl _) ?_⟩
      unfold w_L_law_123
      rw [← tryN_sum]
      refine U_left h2 (fun μ3 h3' => U_fogNow h3' 1 (by decide) ?_)
      rw [if_neg (by decide), z_add]
      have elit : litF co r (co 2 (r 1)) = co 2 (r 1) := by unfold litF; rw [if_neg (by omega)]
      have esum := lead_sum (set := hs co (r 0)) (side := co 1 (r 1)) (fog := litF co r (co 2 (r 1))) hrr
      have etry : (tryN co r 1).1 = sumN (lead co r (hs co (r 0)) (co 1 (r 1)) (litF co r (co 2 (r 1)))).2 (co 0 3) := by
        show 0 + sumN (pasT co r (co 2 (r 1)) (co 1 (r 1))) (co 0 3) = _
        rw [Nat.zero_add]
        rfl
      refine bn_yes (by rw [etry, esum, elit]) (U_hour h3' (by decide) (by decide) (by omega) (fun μ4 h4 => ?_))
      have e1 : (hourN co r U 1).1 = (tryN co r 1).1 := rfl
      refine br_yes (by rw [e1]) (fun x25 e25 x26 e26 => ?_)
      rw [z_add] at e25 e26
      rw [← e1] at e25
      subst e25 e26
      exact ih μ4 h4
    · intro p hp ihp _ μ2 h2
      have ihp := ihp (by omega)
      apply hY
      unfold s_L_law_97
      rw [h2.g3 k, z_le (by omega) (by omega)]
      refine ⟨vp3, br_no (by omega) (U_gets h2 hp (by decide) (fun μ3 h3' x17 e17 x18 e18 => ?_))⟩
      rw [z_add] at e17 e18
      subst e17 e18
      exact ihp μ3 h3'
end LAWMAIN
