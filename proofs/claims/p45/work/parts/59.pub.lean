/-! ===== the calls as the law makes them: what each answers, in the document's numbers; the law's own rows stay ===== -/
def OK (μ : Mem) (co : Co) (r : Ro) (U : Un) (sd : Nat) (I : Im) (G : Gt) (L : Nat → Nat → Nat) : Prop :=
  ∃ T2 : Nat → Nat, VA co r U (0, T2) sd I G (0, L) ∧ RF μ co r U (0, T2) (-1) sd I G (0, L) ∧ co 0 0 ≠ 0
section PUB
variable {μ : Mem} {co : Co} {r : Ro} {U : Un} {sd : Nat} {I : Im} {G : Gt} {L : Nat → Nat → Nat} {Q : Int32 → Mem → Prop} {Q0 : Int32 → Prop}
theorem OK.v (h : OK μ co r U sd I G L) : vCo co ∧ vRo co r 9060 ∧ co 0 0 ≠ 0 := by
  obtain ⟨T2, hA, hF, hc⟩ := h
  exact ⟨hA.1, hA.2.1, hc⟩
theorem OK.g (h : OK μ co r U sd I G L) (j : Nat) : μ.1 246 j = nI (L 100 j) := by
  obtain ⟨T2, hA, hF, hc⟩ := h
  exact hF.2.2.2.2.2.2.2.2.2.2.2.2.1 j
theorem OK.w (h : OK μ co r U sd I G L) (j : Nat) : μ.1 247 j = nI (L 101 j) := by
  obtain ⟨T2, hA, hF, hc⟩ := h
  exact hF.2.2.2.2.2.2.2.2.2.2.2.2.2 j
theorem OK.mk {T2 : Nat → Nat} (hA : VA co r U (0, T2) sd I G (0, L)) (hF : RF μ co r U (0, T2) (-1) sd I G (0, L)) (hc : co 0 0 ≠ 0) : OK μ co r U sd I G L := ⟨T2, hA, hF, hc⟩
theorem U_told (h : OK μ co r U sd I G L) (k v : Nat) (hv : (k = 0 ∧ v = co 0 0) ∨ (k = 1 ∧ v = co 0 1) ∨ (k = 2 ∧ v = dl co) ∨ (k = 3 ∧ v = co 0 3) ∨ (k = 4 ∧ v = co 0 4) ∨ (k = 5 ∧ v = 0) ∨ (k = 6 ∧ v = r 0) ∨ (k = 7 ∧ v = r 1) ∨ (k = 8 ∧ v = r 2) ∨ (k = 9 ∧ v = hs co (r 0)) ∨ (k = 10 ∧ v = sumN (fun p => r (9 + p)) (co 0 3)) ∨ (k = 11 ∧ v = r 3) ∨ (k = 12 ∧ v = r 4) ∨ (k = 15 ∧ v = U.1)) (q : Q0 (nI v)) : w_X6_told (nI k) μ Q0 := by
  obtain ⟨T2, hA, hF, hc⟩ := h
  rcases hv with ⟨rfl, rfl⟩ | ⟨rfl, rfl⟩ | ⟨rfl, rfl⟩ | ⟨rfl, rfl⟩ | ⟨rfl, rfl⟩ | ⟨rfl, rfl⟩ | ⟨rfl, rfl⟩ | ⟨rfl, rfl⟩ | ⟨rfl, rfl⟩ | ⟨rfl, rfl⟩ | ⟨rfl, rfl⟩ | ⟨rfl, rfl⟩ | ⟨rfl, rfl⟩ | ⟨rfl, rfl⟩
  · exact F_told_0 hA hF q
  · exact F_told_1 hA hF q
  · exact F_told_2 hA hF (by rw [if_neg hc]; exact q)
  · exact F_told_3 hA hF q
  · exact F_told_4 hA hF q
  · exact F_told_5 hA hF q
  · exact F_told_6 hA hF q
  · exact F_told_7 hA hF q
  · exact F_told_8 hA hF q
  · exact F_told_9 hA hF q
  · exact F_told_10 hA hF q
  · exact F_told_11 hA hF q
  · exact F_told_12 hA hF q
  · exact F_told_15 hA hF q
theorem U_post (h : OK μ co r U sd I G L) {p : Nat} (hp : p < co 0 3) (k v : Nat) (hv : (k = 0 ∧ v = r (15 + p)) ∨ (k = 1 ∧ v = r (21 + p)) ∨ (k = 2 ∧ v = co 3 p) ∨ (k = 3 ∧ v = co 4 p) ∨ (k = 4 ∧ v = r (9 + p))) (q : Q0 (nI v)) : w_X6_post (nI p) (nI k) μ Q0 := by
  obtain ⟨T2, hA, hF, hc⟩ := h
  rcases hv with ⟨rfl, rfl⟩ | ⟨rfl, rfl⟩ | ⟨rfl, rfl⟩ | ⟨rfl, rfl⟩ | ⟨rfl, rfl⟩
  · exact F_post_0 hA hF hp q
  · exact F_post_1 hA hF hp q
  · exact F_post_2 hA hF hp q
  · exact F_post_3 hA hF hp q
  · exact F_post_4 hA hF hp q
theorem U_village (h : OK μ co r U sd I G L) {w : Nat} (hw : w < 2) (k v : Nat) (hv : (k = 0 ∧ v = co 5 w) ∨ (k = 1 ∧ v = co 6 w) ∨ (k = 2 ∧ v = r (5 + w)) ∨ (k = 3 ∧ v = r (7 + w)) ∨ (k = 4 ∧ v = hsN (fun p => decide (co 4 p = w)) (co 0 3))) (q : Q0 (nI v)) : w_X6_village (nI w) (nI k) μ Q0 := by
  obtain ⟨T2, hA, hF, hc⟩ := h
  rcases hv with ⟨rfl, rfl⟩ | ⟨rfl, rfl⟩ | ⟨rfl, rfl⟩ | ⟨rfl, rfl⟩ | ⟨rfl, rfl⟩
  · exact F_village_0 hA hF hw q
  · exact F_village_1 hA hF hw q
  · exact F_village_2 hA hF hw q
  · exact F_village_3 hA hF hw q
  · exact F_village_4 hA hF hw q
theorem U_goat (h : OK μ co r U sd I G L) {g : Nat} (hg : g < co 0 4) (w : Nat) (hw : w ≤ 1) (q : Q0 (nI (if w = 0 then co 7 g else co 8 g))) : w_X6_goat (nI g) (nI w) μ Q0 := by
  obtain ⟨T2, hA, hF, hc⟩ := h
  have hv := hA.1
  have hgm := hv.2.2.2.2.1
  unfold w_X6_goat
  refine F_isGoat_in hF hv hg ⟨fun _ => ?_, fun z => absurd z (by decide)⟩
  refine W_in (Nat.zero_le _) hw (by decide) ⟨fun _ => ?_, fun z => absurd z (by decide)⟩
  rw [z_eq0 (by omega)]
  have e9 := hF.2.1.2.2.2.2.2.2 g hg
  refine ⟨fun q2 => ?_, fun q2 => ?_⟩
  · refine F_at (n := 4) (co_n10 hF.1.1) (by decide) (by omega) ?_
    rw [e9.2]
    rw [if_neg q2] at q; exact q
  · refine F_at (n := 4) (co_n9 hF.1.1) (by decide) (by omega) ?_
    rw [e9.1]
    rw [if_pos q2] at q; exact q
theorem U_fogNow (h : OK μ co r U sd I G L) (w : Nat) (hw : w ≤ 1) (q : Q0 (nI (if w = 0 then co 1 (r 1) else co 2 (r 1)))) : w_X6_fog (-1) (nI w) μ Q0 := by
  obtain ⟨T2, hA, hF, hc⟩ := h
  have hv := hA.1
  have hr := hA.2.1
  unfold w_X6_fog
  rw [hF.2.1.1.2.2.1]
  refine ⟨fun _ => ?_, fun z => absurd rfl z⟩
  unfold w_X6_fog_25
  refine W_in (Nat.zero_le _) hw (by decide) ⟨fun _ => ⟨fun z => absurd rfl z, fun _ => F_isBare hF hv ?_⟩, fun z => absurd z (by decide)⟩
  rw [if_neg hc]
  refine ⟨fun _ => ?_, fun z => absurd (by decide) z⟩
  unfold w_X6_fog_52 w_X6_fog_68
  refine ⟨fun z => absurd rfl z, fun _ => ?_⟩
  rw [hF.2.2.2.1.1.2.1, z_eq0 (by omega)]
  refine ⟨fun q2 => F_fogAt hF.1.1 hF.2.1 hv hr.2.1 ?_, fun q2 => F_sideAt hF.1.1 hF.2.1 hv hr.2.1 ?_⟩
  · rw [if_neg q2] at q; exact q
  · rw [if_pos q2] at q; exact q
theorem U_fogAt (h : OK μ co r U sd I G L) {x : Nat} (hx : x < co 0 2) (w : Nat) (hw : w ≤ 1) (q : Q0 (nI (if w = 0 then co 1 x else co 2 x))) : w_X6_fog (nI x) (nI w) μ Q0 := by
  obtain ⟨T2, hA, hF, hc⟩ := h
  have hv := hA.1
  have hhm := hv.2.2.1
  have hdl : dl co = co 0 2 := by unfold dl; rw [if_neg (by omega)]
  have hne : nI x ≠ -1 := by rw [Ne, z_m1ne (by omega)]; exact id
  unfold w_X6_fog
  rw [hF.2.1.1.2.2.1]
  refine ⟨fun z => absurd z hne, fun _ => ?_⟩
  refine W_upto_in hx (by omega) ⟨fun _ => ?_, fun z => absurd z (by decide)⟩
  unfold w_X6_fog_25
  refine W_in (Nat.zero_le _) hw (by decide) ⟨fun _ => ⟨fun _ => ?_, fun z => absurd z hne⟩, fun z => absurd z (by decide)⟩
  unfold w_X6_fog_52 w_X6_fog_68
  refine ⟨fun _ => ?_, fun z => absurd z hne⟩
  rw [z_eq0 (by omega)]
  refine ⟨fun q2 => F_fogAt hF.1.1 hF.2.1 hv (by omega) ?_, fun q2 => F_sideAt hF.1.1 hF.2.1 hv (by omega) ?_⟩
  · rw [if_neg q2] at q; exact q
  · rw [if_pos q2] at q; exact q
theorem U_hour (h : OK μ co r U sd I G L) {n : Nat} (h1 : 1 ≤ n) (h2 : n ≤ 60) (h9 : r 0 ≤ 9000)
    (q : ∀ μ' : Mem, OK μ' co (hourN co r U n).2.1 (hourN co r U n).2.2 sd I G L → Q (nI (hourN co r U n).1) μ') : w_X6_hour (nI n) μ Q := by
  obtain ⟨T2, hA, hF, hc⟩ := h
  have hv := hA.1
  have hr := hA.2.1
  unfold w_X6_hour
  refine W_in h1 h2 (by decide) ⟨fun _ => F_isBare hF hv ?_, fun z => absurd z (by decide)⟩
  rw [if_neg hc, hF.2.2.2.1.1.1]
  refine ⟨fun _ => ?_, fun z => absurd (by decide) z⟩
  rw [z_le (by omega) (by decide)]
  refine ⟨fun _ => ?_, fun z => absurd h9 z⟩
  have hr9 : vRo co r 9000 := ⟨h9, hr.2⟩
  refine F_hours hv hc hr9 hA.2.2.1.1 hA.2.2.1.2 h2 hF (fun μ1 f1 => q μ1 ?_)
  have hU := hourN_U hv hr9 hA.2.2.1.1 hA.2.2.1.2 n (by omega)
  exact OK.mk ⟨hv, vRo_mono (hourN_v (U := U) hv hr9 n) (by omega), hU, hA.2.2.2⟩ f1 hc
theorem U_drift (h : OK μ co r U sd I G L) {n : Nat} (h1 : 1 ≤ n) (h2 : n ≤ 60) (h9 : r 0 ≤ 9000)
    (q : ∀ μ' : Mem, OK μ' co (driftN co r U sd n).2.1.1 (driftN co r U sd n).2.2 (driftN co r U sd n).2.1.2 I G L → Q (nI (driftN co r U sd n).1) μ') : w_X6_drift (nI n) μ Q := by
  obtain ⟨T2, hA, hF, hc⟩ := h
  have hv := hA.1
  have hr := hA.2.1
  have hsd := hA.2.2.2.2.1
  unfold w_X6_drift
  refine W_in h1 h2 (by decide) ⟨fun _ => F_isBare hF hv ?_, fun z => absurd z (by decide)⟩
  rw [if_neg hc, hF.2.2.2.1.1.1]
  refine ⟨fun _ => ?_, fun z => absurd (by decide) z⟩
  rw [z_le (by omega) (by decide)]
  refine ⟨fun _ => ?_, fun z => absurd h9 z⟩
  have hr9 : vRo co r 9000 := ⟨h9, hr.2⟩
  have dv := fun i => driftN_v (U := U) hv hr9 hsd i
  have dU := fun i => driftN_U (U := U) (s := sd) hv hr9 hsd hA.2.2.1.1 hA.2.2.1.2 i
  unfold w_X6_drift_43
  intro X hX
  refine cnt_dn (P := fun i => i ≤ n → ∀ μ1 : Mem, RF μ1 co (driftN co r U sd i).2.1.1 (driftN co r U sd i).2.2 (0, T2) (-1) (driftN co r U sd i).2.1.2 I G (0, L) → X (nI (driftN co r U sd i).1) (nI i) μ1) n ?_ ?_ (by omega) μ hF
  · intro _ μ1 f1
    apply hX
    unfold s_X6_drift_43
    refine ⟨fun _ => q μ1 ?_, fun z => absurd ((z_le (by omega) (by omega)).mpr (Nat.le_refl _)) z⟩
    exact OK.mk ⟨hv, vRo_mono (dv n).1 (by omega), dU n (by omega), hA.2.2.2.1, (dv n).2, hA.2.2.2.2.2⟩ f1 hc
  · intro i hi ih _ μ1 f1
    apply hX
    unfold s_X6_drift_43
    rw [z_le (by omega) (by omega)]
    refine ⟨fun z => absurd hi (by omega), fun _ => ?_⟩
    obtain ⟨hri, hsi⟩ := dv i
    obtain ⟨hUi, hUvi⟩ := dU i (by omega)
    refine F_remember hv.2.2.2.1 f1.2.2.2.1 hri hUi f1.2.2.2.2.1 (fun μ2 g2 p2 => ?_)
    have f2 := f1.past g2 p2
    refine F_draw f2.2.2.2.2.2.2.2.1 hsi (by decide) (by decide) ?_
    have f3 := f2.seed (s2 := nxS (driftN co r U sd i).2.1.2)
    refine F_draw f3.2.2.2.2.2.2.2.1 (nxS_lt _) (by decide) (by decide) ?_
    have f4 := f3.seed (s2 := nxS (nxS (driftN co r U sd i).2.1.2))
    have hd2 : drV (nxS (nxS (driftN co r U sd i).2.1.2)) 2 < 2 := drV_lt (by decide)
    have hd41 : drV (nxS (driftN co r U sd i).2.1.2) 41 < 41 := drV_lt (by decide)
    refine F_passHour (c := false) st_25 f4.1.1 f4.2.1 f4.2.2.2.1 hv hc hri (by omega) (by omega) (by omega) (fun μ5 g5 s5 t5 => ?_)
    have f5 := f4.now g5 s5
    have hr5 := vRo_pas (fog := drV (nxS (driftN co r U sd i).2.1.2) 41) (side := drV (nxS (nxS (driftN co r U sd i).2.1.2)) 2) (c := false) hv hri
    intro x13 e13
    rw [z_add] at e13
    have e13' : x13 = nI (driftN co r U sd (i + 1)).1 := e13
    subst e13'
    have ed : (driftN co r U sd (i + 1)).2.1 = drift1 co (driftN co r U sd i).2.1.1 (driftN co r U sd i).2.1.2 := rfl
    refine F_lickBy hv hr5 (nxS_lt _) f5 (fun μ6 f6 => ?_)
    simp (disch := omega) only [z_le, z_lt, z_eq, z_lt0, z_0le, z_eq0, z_le0, z_0lt, z_cl, z_in, z_add, z_mul, z_m1ne, z_m1ne', z_m1lt0, z_m1lt, z_ltm1, forall_eq, true_implies, false_implies, implies_true, true_and, and_true, false_and, and_false, not_true_eq_false, not_false_eq_true, ite_true, ite_false]
    exact ih (by omega) μ6 f6
theorem OK.deed (h : OK μ co r U sd I G L) {r1 : Ro} (hr : vRo co r1 9060) {Q1 : Mem → Prop} (q : ∀ μ1 : Mem, OK μ1 co r (remU U r) sd I G L → Q1 μ1) : w_X2_remember 25 μ Q1 := by
  obtain ⟨T2, hA, hF, hc⟩ := h
  exact F_rem hA hF (fun μ1 f1 => q μ1 (OK.mk (VA_rem hA hA.2.1) f1 hc))
theorem U_carry (h : OK μ co r U sd I G L) {v : Nat} (hv2 : v < 2) (q : ∀ μ' : Mem, OK μ' co (carR co v r) (remU U r) sd I G L → Q (nI (cjS co v r (co 0 3))) μ') : w_X6_carry (nI v) μ Q := by
  obtain ⟨T2, hA, hF, hc⟩ := h
  have hv := hA.1
  unfold w_X6_carry
  refine F_isVillage_in (by omega) ⟨fun _ => F_isBare hF hv ?_, fun z => absurd z (by decide)⟩
  rw [if_neg hc]
  refine ⟨fun _ => F_rem hA hF (fun μ1 f1 => ?_), fun z => absurd (by decide) z⟩
  refine F_emptyJarsOf st_25 f1.1.1 f1.2.1 f1.2.2.2.1 hv hA.2.1 (by omega) (fun μ2 g2 s2 => ?_)
  exact q μ2 (OK.mk (VA_rem hA (vRo_car hv hA.2.1 (by omega))) (f1.now g2.P s2) hc)
theorem U_lick (h : OK μ co r U sd I G L) {p x : Nat} (hp : p < co 0 3) (h1 : 1 ≤ x) (h2 : x ≤ 99) (q : ∀ μ' : Mem, OK μ' co (upN r (9 + p) (r (9 + p) - x)) (remU U r) sd I G L → Q (nI (r (9 + p) - x)) μ') : w_X6_lick (nI p) (nI x) μ Q := by
  obtain ⟨T2, hA, hF, hc⟩ := h
  have hv := hA.1
  have hn := hv.2.2.2.1
  unfold w_X6_lick
  refine F_isPost_in hF hv hp ⟨fun _ => ?_, fun z => absurd z (by decide)⟩
  refine W_in h1 h2 (by decide) ⟨fun _ => F_rem hA hF (fun μ1 f1 => ?_), fun z => absurd z (by decide)⟩
  have hjl := (hA.2.1.2.2.2.2.2.2.2.2.2.1 p hp).1
  have hsz := (hv.2.2.2.2.2.2.2.2.1 p hp).2.1
  have ej := (f1.2.2.2.1.2.1 p hp).2.2
  refine F_lose st_25 (by omega) ej (by omega) (by omega) ?_
  exact q _ (OK.mk (VA_rem hA (vRo_jar hA.2.1 hn hp (by omega))) (f1.now ((FrS.rf (b := 25) (μ := μ1)).sI (by omega)).P (f1.2.2.2.1.updJ (x := r (9 + p) - x) hp hn)) hc)
theorem U_mesh (h : OK μ co r U sd I G L) {p x : Nat} (hp : p < co 0 3) (h2 : x ≤ 9) (q : ∀ μ' : Mem, OK μ' co (upN r (21 + p) x) (remU U r) sd I G L → Q (nI (r (21 + p))) μ') : w_X6_mesh (nI p) (nI x) μ Q := by
  obtain ⟨T2, hA, hF, hc⟩ := h
  have hv := hA.1
  have hn := hv.2.2.2.1
  unfold w_X6_mesh
  refine F_isPost_in hF hv hp ⟨fun _ => ?_, fun z => absurd z (by decide)⟩
  refine W_in (Nat.zero_le _) h2 (by decide) ⟨fun _ => F_rem hA hF (fun μ1 f1 => ?_), fun z => absurd z (by decide)⟩
  refine F_at (n := 6) (st_n2 st_25) (by decide) (by omega) ?_
  refine F_put (n := 6) (st_n2 st_25) (by decide) (by omega) ?_
  have em := (f1.2.2.2.1.2.1 p hp).2.1
  rw [em]
  exact q _ (OK.mk (VA_rem hA (vRo_mesh hA.2.1 hp hn h2)) (f1.now ((FrS.rf (b := 25) (μ := μ1)).sI (by omega)).P (f1.2.2.2.1.updM (x := x) hp hn)) hc)
theorem U_move (h : OK μ co r U sd I G L) {p x : Nat} (hp : p < co 0 3) (hx : x < co 0 0) (hno : ∀ q, q < co 0 3 → r (15 + q) ≠ x) (q : ∀ μ' : Mem, OK μ' co (upN r (15 + p) x) (remU U r) sd I G L → Q (nI (r (15 + p))) μ') : w_X6_move (nI p) (nI x) μ Q := by
  obtain ⟨T2, hA, hF, hc⟩ := h
  have hv := hA.1
  have hn := hv.2.2.2.1
  have hcc := hv.1
  have hrp := hA.2.1.2.2.2.2.2.2.2.2.2.1
  have inj := hA.2.1.2.2.2.2.2.2.2.2.2.2
  unfold w_X6_move
  refine F_isPost_in hF hv hp ⟨fun z => absurd z (by decide), fun _ => ?_⟩
  refine F_isCell_in hF hv hx ⟨fun _ => ?_, fun z => absurd z (by decide)⟩
  refine F_postIn hF.2.2.2.1 hn (fun q hq => by have := (hrp q hq).2.1; omega) inj (by omega) ?_
  have hpin : pin (fun p => r (15 + p)) x (co 0 3) = none := by
    cases e : pin (fun p => r (15 + p)) x (co 0 3) with
    | none => rfl
    | some t => exact absurd (pin_some e).2 (hno t (pin_some e).1)
  rw [hpin]
  refine ⟨fun _ => F_rem hA hF (fun μ1 f1 => ?_), fun z => absurd rfl z⟩
  refine F_at (n := 6) (st_n1 st_25) (by decide) (by omega) ?_
  refine F_put (n := 6) (st_n1 st_25) (by decide) (by omega) ?_
  have em := (f1.2.2.2.1.2.1 p hp).1
  rw [em]
  exact q _ (OK.mk (VA_rem hA (vRo_move hA.2.1 hp hn hx (fun t ht _ => hno t ht))) (f1.now ((FrS.rf (b := 25) (μ := μ1)).sI (by omega)).P (f1.2.2.2.1.updK (x := x) hp hn)) hc)
theorem U_lamp (h : OK μ co r U sd I G L) (q : ∀ μ' : Mem, OK μ' co (upN r 2 1) (remU U r) sd I G L → Q (nI (r 2)) μ') : w_X6_lamp (nI 1) μ Q := by
  obtain ⟨T2, hA, hF, hc⟩ := h
  have hv := hA.1
  have h2 := hA.2.1.2.2.1
  unfold w_X6_lamp
  refine F_isBare hF hv ?_
  rw [if_neg hc]
  refine ⟨fun _ => F_rem hA hF (fun μ1 f1 => ?_), fun z => absurd (by decide) z⟩
  have f2 := f1.now ((FrS.rf (b := 25) (μ := μ1)).sI (by omega)).P (f1.2.2.2.1.upd0 (j := 2) (x := 1) (by decide))
  have go : ∀ s, s = r 2 → w_X6_lamp_36 (nI 1) (nI s) μ1 Q := by
    intro s hs
    unfold w_X6_lamp_36
    refine ⟨Or.inr rfl, ?_⟩
    intro μ5 e5
    subst e5
    rw [hs]
    exact q _ (OK.mk (VA_rem hA (vRo_lamp hA.2.1 (by decide))) f2 hc)
  rw [f1.2.2.2.1.1.2.2.1]
  have h0 : nI (r 2) = 0 ↔ r 2 = 0 := z_eq0 (by omega)
  exact ⟨fun q => go 0 (h0.mp q).symm, fun q => go 1 (by have h9 : ¬ r 2 = 0 := fun z => q (h0.mpr z); omega)⟩
theorem U_undo (h : OK μ co r U sd I G L) {k : Nat} (h1 : 1 ≤ k) (h2 : k ≤ U.1) (q : ∀ μ' : Mem, OK μ' co (U.2 (U.1 - k)) (U.1 - k, U.2) sd I G L → Q (nI (U.2 (U.1 - k) 0)) μ') : w_X6_undo (nI k) μ Q := by
  obtain ⟨T2, hA, hF, hc⟩ := h
  have hv := hA.1
  have hn := hv.2.2.2.1
  have hU := hA.2.2.1.1
  have hm : ∀ x, x % 30 < 30 := fun x => Nat.mod_lt _ (by decide)
  unfold w_X6_undo
  obtain ⟨o, ho, e1, e2, hi⟩ := hF.2.2.2.2.1
  refine W_in h1 (by omega : k ≤ 30) (by decide) ⟨fun _ => ?_, fun z => absurd z (by decide)⟩
  rw [e2, z_le (by omega) (by omega)]
  refine ⟨fun _ => ?_, fun z => absurd h2 z⟩
  unfold w_X2_takeBack
  rw [e2, z_sub h2]
  refine F_stateAt ho e1 (by omega) ⟨fun z => (by cases z), fun b3 hb3 => ?_⟩
  cases hb3
  have hst := st_ring ((o + (U.1 - k)) % 30) (hm _)
  have hv9 := hA.2.2.1.2 (U.1 - k) (by omega)
  refine ⟨hst, F_become st_25 hst (by omega) (hi (U.1 - k) (by omega)) hn hv9.2.2.1 (fun μ2 f2 s2 => ?_)⟩
  intro μ3 e3
  rw [f2.2 41 (by omega), e2, z_sub h2] at e3
  subst e3
  have f3 := hF.now f2.P s2
  have f4 := f3.past (U1 := (U.1 - k, U.2)) (μ1 := sI μ2 41 2 (nI (U.1 - k))) ⟨rfl, fun c hc => sI_r (by omega)⟩ (f3.2.2.2.2.1.back h2 (sI_ne2 (by decide)) sI_same (fun c h4 h5 => sI_r (by omega)))
  have fd : (sI μ2 41 2 (nI (U.1 - k))).1 25 0 = nI (U.2 (U.1 - k) 0) := f4.2.2.2.1.1.1
  rw [fd]
  exact q _ (OK.mk ⟨hv, hv9, ⟨by show U.1 - k ≤ 30; omega, fun i hi2 => hA.2.2.1.2 i (by have : i < U.1 - k := hi2; omega)⟩, hA.2.2.2⟩ f4 hc)
theorem U_gets (h : OK μ co r U sd I G L) {p x : Nat} (hp : p < co 0 3) (h2 : x ≤ 99) (q : ∀ μ' : Mem, OK μ' co r U sd I G L → Q (nI ((tryN co r x).2.2 p)) μ') : w_X6_gets (nI p) (nI x) μ Q := by
  obtain ⟨T2, hA, hF, hc⟩ := h
  have hv := hA.1
  have hn := hv.2.2.2.1
  unfold w_X6_gets
  refine F_isPost_in hF hv hp ⟨fun _ => ?_, fun z => absurd z (by decide)⟩
  refine W_in (Nat.zero_le _) h2 (by decide) ⟨fun _ => F_copy hA hF (fun μ1 _ f1 s1 => ?_), fun z => absurd z (by decide)⟩
  refine F_run hA f1 s1 hc hA.2.1 (by omega) (fun μ2 f2 s2 t2 => ?_)
  refine F_at (n := 6) (by decide) (by decide) (by omega) ?_
  rw [t2 p (by omega)]
  exact q _ (OK.mk hA f2 hc)
theorem U_left (h : OK μ co r U sd I G L) (q : ∀ μ' : Mem, OK μ' co r U sd I G L → Q (nI (lead co r (hs co (r 0)) (co 1 (r 1)) (litF co r (co 2 (r 1)))).1) μ') : w_X6_left μ Q := by
  obtain ⟨T2, hA, hF, hc⟩ := h
  have hv := hA.1
  have h64 := hs_64 (d := r 0) hv
  unfold w_X6_left
  refine F_isBare hF hv ?_
  rw [if_neg hc]
  refine ⟨fun _ => F_hang hA hF ?_, fun z => absurd (by decide) z⟩
  refine F_next hA hF h64 (fun q hq => hs_in hq) (fun μ1 f1 b1 => ?_)
  rw [b1.2.1]
  exact q _ (OK.mk hA f1 hc)
theorem U_bestMesh (h : OK μ co r U sd I G L) {p w : Nat} (hp : p < co 0 3) (hw : w ≤ 1) (q : ∀ μ' : Mem, OK μ' co r U sd I G L → Q (if w = 0 then i1 (bst (bmF co r p) 10) else i2 (bst (bmF co r p) 10)) μ') : w_X6_bestMesh (nI p) (nI w) μ Q := by
  obtain ⟨T2, hA, hF, hc⟩ := h
  have hv := hA.1
  unfold w_X6_bestMesh
  refine F_isPost_in hF hv hp ⟨fun _ => ?_, fun z => absurd z (by decide)⟩
  exact W_in (Nat.zero_le _) hw (by decide) ⟨fun _ => F_bestMesh hA hF hp hw (fun μ1 f1 => q μ1 (OK.mk hA f1 hc)), fun z => absurd z (by decide)⟩
theorem U_bestCell (h : OK μ co r U sd I G L) {p w : Nat} (hp : p < co 0 3) (hw : w ≤ 1) (q : ∀ μ' : Mem, OK μ' co r U sd I G L → Q (if w = 0 then i1 (bst (bcF co r p) 12) else i2 (bst (bcF co r p) 12)) μ') : w_X6_bestCell (nI p) (nI w) μ Q := by
  obtain ⟨T2, hA, hF, hc⟩ := h
  have hv := hA.1
  unfold w_X6_bestCell
  refine F_isPost_in hF hv hp ⟨fun _ => ?_, fun z => absurd z (by decide)⟩
  exact W_in (Nat.zero_le _) hw (by decide) ⟨fun _ => F_bestCell hA hF hp hw (fun μ1 f1 => q μ1 (OK.mk hA f1 hc)), fun z => absurd z (by decide)⟩
theorem U_lampCosts (h : OK μ co r U sd I G L) {n : Nat} (h2 : n ≤ 99) (q : ∀ μ' : Mem, OK μ' co r U sd I G L → Q (nI (tryN co (upN r 2 0) n).1 - nI (tryN co (upN r 2 1) n).1) μ') : w_X6_lampCosts (nI n) μ Q := by
  obtain ⟨T2, hA, hF, hc⟩ := h
  have hv := hA.1
  unfold w_X6_lampCosts
  refine W_in (Nat.zero_le _) h2 (by decide) ⟨fun _ => F_isBare hF hv ?_, fun z => absurd z (by decide)⟩
  rw [if_neg hc]
  refine ⟨fun _ => F_copy hA hF (fun μ1 _ f1 s1 => ?_), fun z => absurd (by decide) z⟩
  intro μ2 e2
  subst e2
  have f2 := f1.X (FrX.rf.sI (k := 31) (j := 2) (x := nI 0) (by decide))
  refine F_run hA f2 (s1.upd0 (j := 2) (x := 0) (by decide)) hc (vRo_lamp hA.2.1 (by decide)) (by omega) (fun μ3 f3 s3 t3 => ?_)
  refine F_copy hA f3 (fun μ4 _ f4 s4 => ?_)
  intro μ5 e5
  subst e5
  have f5 := f4.X (FrX.rf.sI (k := 31) (j := 2) (x := nI 1) (by decide))
  refine F_run hA f5 (s4.upd0 (j := 2) (x := 1) (by decide)) hc (vRo_lamp hA.2.1 (by decide)) (by omega) (fun μ6 f6 s6 t6 => ?_)
  exact q _ (OK.mk hA f6 hc)
theorem U_thirsty (h : OK μ co r U sd I G L) {v : Nat} (hv2 : v < 2) (q : ∀ μ' : Mem, OK μ' co r U sd I G L → Q (optI (thr co r v 720 0)) μ') : w_X6_thirsty (nI v) μ Q := by
  obtain ⟨T2, hA, hF, hc⟩ := h
  have hv := hA.1
  unfold w_X6_thirsty
  refine F_isVillage_in (by omega) ⟨fun _ => F_isBare hF hv ?_, fun z => absurd z (by decide)⟩
  rw [if_neg hc]
  refine ⟨fun _ => F_copy hA hF (fun μ1 _ f1 s1 => ?_), fun z => absurd (by decide) z⟩
  refine F_at (n := 2) (st_n5 st_25) (by decide) (by omega) ?_
  rw [(f1.2.2.2.1.2.2.2 v (by omega)).2]
  exact F_thirsty hA f1 s1 hc (by omega) (fun μ2 f2 => q μ2 (OK.mk hA f2 hc))
theorem U_lasts (h : OK μ co r U sd I G L) {v : Nat} (hv2 : v < 2) (q : Q0 (nI (if co 6 v = 0 then 999 else if 999 < r (5 + v) / co 6 v then 999 else r (5 + v) / co 6 v))) : w_X6_lasts (nI v) μ Q0 := by
  obtain ⟨T2, hA, hF, hc⟩ := h
  have hv := hA.1
  have hr := hA.2.1
  unfold w_X6_lasts
  have hu := (hv.2.2.2.2.2.2.2.2.2.1 v (by omega)).2
  have h5 := hr.2.2.2.2.2.1
  have h6 := hr.2.2.2.2.2.2.1
  have h56 : r (5 + v) ≤ 99999 := by rcases (by omega : v = 0 ∨ v = 1) with z | z <;> rw [z] <;> assumption
  have e8 := (hF.2.1.2.2.2.2.2.1 v (by omega)).2
  have e29 := (hF.2.2.2.1.2.2.2 v (by omega)).1
  have hq := Nat.div_le_self (r (5 + v)) (co 6 v)
  refine F_isVillage_in (by omega) ⟨fun _ => ?_, fun z => absurd z (by decide)⟩
  refine F_at (n := 2) (co_n8 hF.1.1) (by decide) (by omega) ?_
  rw [e8]
  simp (disch := omega) only [z_le, z_lt, z_eq, z_lt0, z_0le, z_eq0, z_le0, z_0lt, z_cl, z_in, z_add, z_mul, z_m1ne, z_m1ne', z_m1lt0, z_m1lt, z_ltm1, forall_eq, true_implies, false_implies, implies_true, true_and, and_true, false_and, and_false, not_true_eq_false, not_false_eq_true, ite_true, ite_false]
  refine ⟨fun z => ?_, fun z => ?_⟩
  · refine F_at (n := 2) (st_n4 st_25) (by decide) (by omega) ?_
    rw [e29]
    simp (disch := omega) only [z_le, z_lt, z_eq, z_lt0, z_0le, z_eq0, z_le0, z_0lt, z_cl, z_in, z_add, z_mul, z_m1ne, z_m1ne', z_m1lt0, z_m1lt, z_ltm1, forall_eq, true_implies, false_implies, implies_true, true_and, and_true, false_and, and_false, not_true_eq_false, not_false_eq_true, ite_true, ite_false, z_div]
    refine ⟨by omega, ?_⟩
    rw [if_neg (by omega)] at q
    by_cases c : 999 < r (5 + v) / co 6 v
    · rw [if_pos c] at q ⊢
      exact q
    · rw [if_neg c] at q ⊢
      exact q
  · rw [if_pos (by omega)] at q; exact q
theorem U_led (h : OK μ co r U sd I G L) {x s i : Nat} (hx : x ≤ 99) (hs1 : s ≤ 1) (hi : i < x) (q : ∀ μ' : Mem, OK μ' co r U sd I G L → Q (optI (tk (gO co r (hs co (r 0)) s) (lead co r (hs co (r 0)) s x).2 i 12 0 0)) μ') : w_X6_led (nI x) (nI s) (nI i) μ Q := by
  obtain ⟨T2, hA, hF, hc⟩ := h
  have hv := hA.1
  have hr := hA.2.1
  have h64 := hs_64 (d := r 0) hv
  unfold w_X6_led
  refine W_in (Nat.zero_le _) hx (by decide) ⟨fun z => absurd z (by decide), fun _ => ?_⟩
  refine W_in (Nat.zero_le _) hs1 (by decide) ⟨fun z => absurd z (by decide), fun _ => ?_⟩
  refine W_upto_in hi (by omega) ⟨fun _ => F_isBare hF hv ?_, fun z => absurd z (by decide)⟩
  rw [if_neg hc]
  refine ⟨fun _ => F_hang hA hF ?_, fun z => absurd (by decide) z⟩
  rw [hF.2.1.1.1]
  refine F_blowN hA hF h64 (fun q hq => hs_in hq) hs1 hx (fun μ1 f1 b1 => ?_)
  refine F_takerOf hv hr hx (by omega) b1 ?_
  exact q _ (OK.mk hA f1 hc)
theorem U_got (h : OK μ co r U sd I G L) {p s x : Nat} (hp : p < co 0 3) (hs1 : s ≤ 1) (hx : x ≤ 40) (hG : G.1 < 6) (q : ∀ μ' : Mem, OK μ' co r U sd I (noteN G p s x) L → Q (nI (G.1 + 1)) μ') : w_X6_got (nI p) (nI s) (nI x) μ Q := by
  obtain ⟨T2, hA, hF, hc⟩ := h
  have hv := hA.1
  have hG2 := hA.2.2.2.2.2.2.1
  have e3 := hF.2.2.2.2.2.2.2.2.2.1.1
  unfold w_X6_got
  refine F_isPost_in hF hv hp ⟨fun _ => ?_, fun z => absurd z (by decide)⟩
  refine W_in (Nat.zero_le _) hs1 (by decide) ⟨fun z => absurd z (by decide), fun _ => ?_⟩
  refine W_in (Nat.zero_le _) hx (by decide) ⟨fun _ => ?_, fun z => absurd z (by decide)⟩
  rw [e3, z_lt (by omega) (by decide)]
  refine ⟨fun _ => ?_, fun z => absurd hG z⟩
  refine F_note (N := 6) (by decide) (by decide) (by decide) (by decide) e3 hG (fun μ1 f2 fk f3 fe fp' fs fx => ?_)
  have f1 : RF μ1 co r U (0, T2) (-1) sd I (noteN G p s x) (0, L) := by
    refine hF.notes f2 (fun k hk => fk k (by omega)) ⟨f3, fun e he => ?_⟩ (hF.2.2.2.2.2.2.2.2.2.2.fr (fun k k1 k2 => fk k (by omega)))
    have hee : e < G.1 + 1 := he
    by_cases q2 : e = G.1
    · obtain ⟨n0, n1, n2⟩ := noteN_own (G := G) (p := p) (s := s) (x := x)
      rw [q2, n0, n1, n2]
      exact ⟨fp', fs, fx⟩
    · rw [noteN_ne q2]
      have := hF.2.2.2.2.2.2.2.2.2.1.2 e (by omega)
      obtain ⟨w1, w2, w3⟩ := fe e q2
      exact ⟨w1.trans this.1, w2.trans this.2.1, w3.trans this.2.2⟩
  refine q μ1 (OK.mk ⟨hv, hA.2.1, hA.2.2.1, hA.2.2.2.1, hA.2.2.2.2.1, hA.2.2.2.2.2.1, ⟨by show G.1 + 1 ≤ 6; omega, fun e he => ?_⟩, hA.2.2.2.2.2.2.2⟩ f1 hc)
  have hee : e < G.1 + 1 := he
  by_cases q2 : e = G.1
  · obtain ⟨n0, n1, n2⟩ := noteN_own (G := G) (p := p) (s := s) (x := x)
    rw [q2, n0, n1, n2]
    exact ⟨hp, hs1, hx⟩
  · rw [noteN_ne q2]
    exact hG2.2 e (by omega)
theorem U_thick (h : OK μ co r U sd I G L) {w : Nat} (hw : w ≤ 2) (q : ∀ μ' : Mem, OK μ' co r U sd I G L → Q (if w = 0 then nI (c41 co r G) else optI (if w = 2 then lsO (fitA co r G) 41 else fsO (fitA co r G) 41)) μ') : w_X6_thick (nI w) μ Q := by
  obtain ⟨T2, hA, hF, hc⟩ := h
  have hv := hA.1
  unfold w_X6_thick
  refine W_in (Nat.zero_le _) hw (by decide) ⟨fun _ => F_isBare hF hv ?_, fun z => absurd z (by decide)⟩
  rw [if_neg hc]
  refine ⟨fun _ => F_fitting hA hF (fun μ1 f1 => ?_), fun z => absurd (by decide) z⟩
  have q := q μ1 (OK.mk hA f1 hc)
  have h41 := hsN_41 (fitA co r G) (i := 41) (by omega)
  rw [z_eq0 (by omega)]
  refine ⟨fun z => F_thick hw z ?_, fun z => J_longs (by omega) ?_⟩
  · rw [if_neg z] at q; exact q
  · rw [bits_hsN (fitA co r G) (by decide)]
    rw [if_pos z] at q; exact q
theorem U_lookAt (h : OK μ co r U sd I G L) {s : Nat} (hs1 : s ≤ 1) (q : ∀ μ' : Mem, OK μ' co r U sd I G L → Q (optI (lkN (prt co r G s) (c41 co r G) (co 0 3)).1) μ') : w_X6_lookAt (nI s) μ Q := by
  obtain ⟨T2, hA, hF, hc⟩ := h
  have hv := hA.1
  unfold w_X6_lookAt
  refine W_in (Nat.zero_le _) hs1 (by decide) ⟨fun _ => F_isBare hF hv ?_, fun z => absurd z (by decide)⟩
  rw [if_neg hc]
  refine ⟨fun _ => F_fitting hA hF (fun μ1 f1 => ?_), fun z => absurd (by decide) z⟩
  have h41 := hsN_41 (fitA co r G) (i := 41) (by omega)
  refine J_longs (by omega) ?_
  rw [bits_hsN (fitA co r G) (by decide)]
  exact F_look hA f1 hs1 (fun μ2 f2 => q μ2 (OK.mk hA f2 hc))
theorem U_needs (h : OK μ co r U sd I G L) {p s x : Nat} (hp : p < co 0 3) (hs1 : s ≤ 1) (hx : x ≤ 40) (q : ∀ μ' : Mem, OK μ' co r U sd I G L → Q (optI (fnd (fun t => decide (x ≤ tkn co r p s t)) 41 0)) μ') : w_X6_needs (nI p) (nI s) (nI x) μ Q := by
  obtain ⟨T2, hA, hF, hc⟩ := h
  have hv := hA.1
  unfold w_X6_needs
  refine F_isPost_in hF hv hp ⟨fun _ => ?_, fun z => absurd z (by decide)⟩
  refine W_in (Nat.zero_le _) hs1 (by decide) ⟨fun z => absurd z (by decide), fun _ => ?_⟩
  exact W_in (Nat.zero_le _) hx (by decide) ⟨fun _ => F_needs hA hF hp hs1 hx (fun μ1 f1 => q μ1 (OK.mk hA f1 hc)), fun z => absurd z (by decide)⟩
theorem U_tear (h : OK μ co r U sd I G L) (q : ∀ μ' : Mem, OK μ' co r U sd I (0, G.2) L → Q (nI G.1) μ') : w_X6_tear μ Q := by
  obtain ⟨T2, hA, hF, hc⟩ := h
  have e3 := hF.2.2.2.2.2.2.2.2.2.1.1
  have b3 := hF.2.2.2.2.2.2.2.2.2.2.1
  have hl := hF.2.2.2.2.2.2.2.2.2.2.2.2
  unfold w_X6_tear
  intro x1 h1 μ2 h2 μ3 h3
  subst h2 h3
  rw [e3, b3, z_add] at h1
  subst h1
  refine q _ (OK.mk (T2 := T2) ?_ ?_ hc)
  · exact ⟨hA.1, hA.2.1, hA.2.2.1, hA.2.2.2.1, hA.2.2.2.2.1, hA.2.2.2.2.2.1, ⟨Nat.zero_le _, fun e he => absurd he (Nat.not_lt_zero _)⟩, ⟨Nat.zero_le _, fun e he => absurd he (Nat.not_lt_zero _)⟩⟩
  · refine hF.notes rfl (fun k hk => by rw [sI_r (by omega), sI_r (by omega)]) ⟨?_, fun e he => absurd he (Nat.not_lt_zero _)⟩ ⟨?_, fun e he => absurd he (Nat.not_lt_zero _), hl.fr (by rw [sI_r (by decide), sI_r (by decide)]) (by rw [sI_r (by decide), sI_r (by decide)])⟩
    · rw [sI_ne1 (by decide), sI_same]
    · rw [sI_same]
theorem U_seed (h : OK μ co r U sd I G L) {j : Nat} (hj : j < 2147483648) (q : ∀ μ' : Mem, OK μ' co r U j I G L → Q (nI sd) μ') : w_X6_seed (nI j) μ Q := by
  obtain ⟨T2, hA, hF, hc⟩ := h
  have e10 := hF.2.2.2.2.2.2.2.1
  unfold w_X6_seed
  refine ⟨fun _ => ?_, fun z => absurd ((z_0le (by omega)).mpr trivial) z⟩
  intro x1 hx1 μ2 hμ2
  rw [e10] at hx1
  subst hμ2 hx1
  exact q _ (OK.mk ⟨hA.1, hA.2.1, hA.2.2.1, hA.2.2.2.1, hj, hA.2.2.2.2.2⟩ hF.seed hc)
theorem U_keep (h : OK μ co r U sd I G L) (q : ∀ μ' : Mem, OK μ' co r (0, U.2) sd (fun k => if k = 0 then some (sd, r) else I k) G L → Q (nI 1) μ') : w_X6_keep (nI 0) μ Q := by
  obtain ⟨T2, hA, hF, hc⟩ := h
  have hv := hA.1
  have hn := hv.2.2.2.1
  unfold w_X6_keep
  refine F_image_in (by decide) ⟨fun z => (by cases z), fun b3 hb3 => ?_⟩
  cases hb3
  refine ⟨st_img 0 (by omega), F_become (st_img 0 (by omega)) st_25 (by omega) hF.2.2.2.1 hn hA.2.1.2.2.1 (fun μ1 f1 s1 => ?_)⟩
  have e10 : μ1.1 0 10 = nI sd := by rw [f1.2 0 (by omega)]; exact hF.2.2.2.2.2.2.2.1
  rw [e10]
  refine F_put (n := 2) (by decide) (by decide) (by omega) ?_
  intro μ3 h3
  subst h3
  have f2 : RF (sI μ1 236 0 (nI sd)) co r U (0, T2) (-1) sd (fun k => if k = 0 then some (sd, r) else I k) G (0, L) := by
    refine hF.imgs f1.1 (fun k hk => by rw [sI_r (by omega)]; exact f1.2 k (by omega)) (fun k hk => ?_)
    by_cases q : k = 0
    · rw [if_pos q, q]
      dsimp only
      exact ⟨sI_same, s1.fr (fun c c1 c2 => sI_r (by omega))⟩
    · rw [if_neg q]
      have := hF.2.2.2.2.2.2.2.2.1 k hk
      rw [sI_ne2 q, f1.2 236 (by omega)]
      cases e : I k with
      | none => rw [e] at this; exact this
      | some t =>
        rw [e] at this
        exact ⟨this.1, this.2.fr (fun c c1 c2 => by rw [sI_r (by omega), f1.2 c (by omega)])⟩
  refine q _ (OK.mk ⟨hv, hA.2.1, ⟨Nat.zero_le _, fun i hi => absurd hi (Nat.not_lt_zero _)⟩, hA.2.2.2.1, hA.2.2.2.2.1, fun i t ht => ?_, hA.2.2.2.2.2.2⟩ f2.nil hc)
  have ht : (if i = 0 then some (sd, r) else I i) = some t := ht
  by_cases q : i = 0
  · rw [if_pos q] at ht
    cases ht
    exact ⟨hA.2.2.2.2.1, hA.2.1⟩
  · rw [if_neg q] at ht
    exact hA.2.2.2.2.2.1 i t ht
theorem U_goBack (h : OK μ co r U sd I G L) {t : Nat × Ro} (e : I 0 = some t) (q : ∀ μ' : Mem, OK μ' co t.2 (0, U.2) t.1 I G L → Q (nI 1) μ') : w_X6_goBack (nI 0) μ Q := by
  obtain ⟨T2, hA, hF, hc⟩ := h
  have hv := hA.1
  have hn := hv.2.2.2.1
  unfold w_X6_goBack
  refine F_image_in (by decide) ⟨fun z => (by cases z), fun b3 hb3 => ?_⟩
  cases hb3
  refine ⟨st_img 0 (by omega), ?_⟩
  refine F_at (n := 2) (by decide) (by decide) (by omega) ?_
  have fi := hF.2.2.2.2.2.2.2.2.1 0 (by omega)
  rw [e] at fi
  dsimp only at fi
  have ht := hA.2.2.2.2.2.1 0 t e
  rw [fi.1]
  refine ⟨fun _ => ?_, fun z => absurd z (by rw [z_m1ne ht.1]; exact id)⟩
  refine F_become st_25 (st_img 0 (by omega)) (by omega) fi.2 hn ht.2.2.2.1 (fun μ1 f1 s1 => ?_)
  intro μ2 g2 μ3 g3
  subst g2 g3
  have f3 := ((hF.now f1.P s1).seed (s2 := t.1)).nil
  exact q _ (OK.mk ⟨hv, ht.2, ⟨Nat.zero_le _, fun k hk => absurd hk (Nat.not_lt_zero _)⟩, hA.2.2.2.1, ht.1, hA.2.2.2.2.2⟩ f3 hc)
theorem U_fault (h : OK μ co r U sd I G L) (q : Q0 (-1)) : w_X6_fault μ Q0 := by
  obtain ⟨T2, hA, hF, hc⟩ := h
  unfold w_X6_fault
  rw [hF.2.2.2.2.2.2.1]
  exact q
/-- a share's parts -/
def shN (co : Co) (x v : Nat) : Nat := x * own co v / co 0 3 + (if v = (if x * own co 1 % co 0 3 ≤ x * own co 0 % co 0 3 then 0 else 1) then x - x * own co 0 / co 0 3 - x * own co 1 / co 0 3 else 0)
theorem own_le (v : Nat) : own co v ≤ co 0 3 := sumN_1 (fun p => decide (co 4 p = v)) (co 0 3)
theorem own_sum (hv : vCo co) : own co 0 + own co 1 = co 0 3 := by
  have hown : ∀ p, p < co 0 3 → co 4 p ≤ 1 := fun p hp => (hv.2.2.2.2.2.2.2.2.1 p hp).2.2
  have key : ∀ n, n ≤ co 0 3 → sumN (fun p => if decide (co 4 p = 0) = true then 1 else 0) n + sumN (fun p => if decide (co 4 p = 1) = true then 1 else 0) n = n := by
    intro n
    induction n with
    | zero => intro _; rfl
    | succ n ih =>
      intro h
      have := ih (by omega)
      have h1 := hown n (by omega)
      show sumN _ n + (if decide (co 4 n = 0) = true then 1 else 0) + (sumN _ n + (if decide (co 4 n = 1) = true then 1 else 0)) = n + 1
      rcases (by omega : co 4 n = 0 ∨ co 4 n = 1) with z | z
      · rw [if_pos (decide_eq_true z), if_neg (by rw [z]; decide)]; omega
      · rw [if_neg (by rw [z]; decide), if_pos (decide_eq_true z)]; omega
  exact key _ (Nat.le_refl _)
theorem U_share (h : OK μ co r U sd I G L) {x v : Nat} (hx : x ≤ 999) (hv2 : v < 2) (h3 : 0 < co 0 3) (q : Q0 (nI (shN co x v))) : w_X6_share (nI x) (nI v) μ Q0 := by
  obtain ⟨T2, hA, hF, hc⟩ := h
  have hv := hA.1
  have hn := hv.2.2.2.1
  have e3 := hF.2.1.1.2.2.2.1
  have hsum := own_sum hv
  have o0 := own_le (co := co) 0
  have o1 := own_le (co := co) 1
  have m0 : x * own co 0 ≤ 999 * 6 := Nat.mul_le_mul hx (by omega)
  have m1 : x * own co 1 ≤ 999 * 6 := Nat.mul_le_mul hx (by omega)
  have hms : x * own co 0 + x * own co 1 = x * co 0 3 := by rw [← Nat.mul_add, hsum]
  have hd0 := Nat.div_le_self (x * own co 0) (co 0 3)
  have hd1 := Nat.div_le_self (x * own co 1) (co 0 3)
  have hdd : x * own co 0 / co 0 3 + x * own co 1 / co 0 3 ≤ x := by
    have a0 := Nat.div_mul_le_self (x * own co 0) (co 0 3)
    have a1 := Nat.div_mul_le_self (x * own co 1) (co 0 3)
    have : (x * own co 0 / co 0 3 + x * own co 1 / co 0 3) * co 0 3 ≤ x * co 0 3 := by rw [Nat.add_mul]; omega
    exact Nat.le_of_mul_le_mul_right this h3
  have hq0 : x * own co 0 / co 0 3 ≤ x := Nat.le_trans (Nat.le_add_right _ _) hdd
  have hq1 : x * own co 1 / co 0 3 ≤ x - x * own co 0 / co 0 3 := Nat.le_sub_of_add_le (by rw [Nat.add_comm]; exact hdd)
  have hr0 := Nat.mod_lt (x * own co 0) h3
  have hr1 := Nat.mod_lt (x * own co 1) h3
  unfold w_X6_share
  refine F_isVillage_in (by omega) ⟨fun _ => ?_, fun z => absurd z (by decide)⟩
  refine W_in (Nat.zero_le _) hx (by decide) ⟨fun _ => ?_, fun z => absurd z (by decide)⟩
  intro x6 hx6
  rw [e3] at hx6
  subst hx6
  rw [z_0lt (by omega)]
  refine ⟨fun _ => ?_, fun z => absurd h3 z⟩
  have hne : ¬ nI (co 0 3) = 0 := nI_ne0 h3 (by omega)
  have pcO : ∀ w, w < 2 → pc (hsN (fun p => decide (co 4 p = w)) (co 0 3)) = own co w := fun w _ => pc_hsN _ hn
  refine F_postsOf hF.2.1 hv (by decide) (J_bits (hsN_64 _ hn) ?_)
  rw [pcO 0 (by decide)]
  intro x12 e12
  refine F_postsOf hF.2.1 hv (by decide) (J_bits (hsN_64 _ hn) ?_)
  rw [pcO 1 (by decide)]
  intro x18 e18
  rw [z_mul] at e12 e18
  refine ⟨hne, hne, fun x19 e19 => ⟨hne, fun x20 e20 => ⟨hne, fun x21 e21 => ?_⟩⟩⟩
  rw [e12, e18, z_div (by omega) h3 (by omega), z_div (by omega) h3 (by omega), z_sub hq0, z_sub hq1] at e19
  have k20 : x20 = nI (x * own co 0 % co 0 3) := by rw [e20, e12]; exact z_rem (by omega) h3 (by omega)
  have k21 : x21 = nI (x * own co 1 % co 0 3) := by rw [e21, e18]; exact z_rem (by omega) h3 (by omega)
  unfold w_X6_share_97 w_X6_share_110
  have fin : ∀ (l y : Nat) (x5 : Int32), (l = if x * own co 1 % co 0 3 ≤ x * own co 0 % co 0 3 then 0 else 1) → y = x * own co v → x5 = nI y → (¬ nI (co 0 3) = 0 ∧ ((¬ nI v = nI l → Q0 ((x5 / nI (co 0 3)) + (nI 0))) ∧ (nI v = nI l → Q0 ((x5 / nI (co 0 3)) + x19)))) := by
    intro l y x5 hl hy h5
    have hl1 : l ≤ 1 := by rw [hl]; split <;> omega
    have hvv : y ≤ 999 * 6 := by rw [hy]; rcases (by omega : v = 0 ∨ v = 1) with z | z <;> rw [z] <;> assumption
    unfold shN at q
    rw [← hl, ← hy] at q
    refine ⟨hne, fun q3 => ?_, fun q3 => ?_⟩
    · rw [z_eq (by omega) (by omega)] at q3
      rw [if_neg q3] at q
      rw [h5, z_div (by omega) h3 (by omega), z_add]
      exact q
    · rw [z_eq (by omega) (by omega)] at q3
      rw [if_pos q3] at q
      rw [h5, e19, z_div (by omega) h3 (by omega), z_add]
      exact q
  rw [k20, k21, z_lt (by omega) (by omega)]
  have hl0 : ¬ (x * own co 0 % co 0 3 < x * own co 1 % co 0 3) → (0 = if x * own co 1 % co 0 3 ≤ x * own co 0 % co 0 3 then 0 else 1) := fun z => by rw [if_pos (by omega)]
  have hl1 : (x * own co 0 % co 0 3 < x * own co 1 % co 0 3) → (1 = if x * own co 1 % co 0 3 ≤ x * own co 0 % co 0 3 then 0 else 1) := fun z => by rw [if_neg (by omega)]
  refine ⟨fun q2 => ⟨fun q3 => ?_, fun q3 => ?_⟩, fun q2 => ⟨fun q3 => ?_, fun q3 => ?_⟩⟩
  · have : v = 1 := by rw [z_eq0 (by omega)] at q3; omega
    exact fin 1 _ x18 (hl1 q2) (by rw [this]) e18
  · have : v = 0 := by rw [z_eq0 (by omega)] at q3; exact q3
    exact fin 1 _ x12 (hl1 q2) (by rw [this]) e12
  · have : v = 1 := by rw [z_eq0 (by omega)] at q3; omega
    exact fin 0 _ x18 (hl0 q2) (by rw [this]) e18
  · have : v = 0 := by rw [z_eq0 (by omega)] at q3; exact q3
    exact fin 0 _ x12 (hl0 q2) (by rw [this]) e12
theorem U_yards (h : OK μ co r U sd I G L) {g w : Nat} (hg : g < co 0 4) (h2 : w ≤ 1) (q0 : Q0 (if w = 0 then i2 (yd co r (co 7 g) (co 0 0)) else i1 (yd co r (co 7 g) (co 0 0)))) : w_X6_yards (nI g) (nI w) μ Q0 := by
  obtain ⟨T2, hA, hF, hc⟩ := h
  have hv := hA.1
  have hr := hA.2.1
  have hcc := hv.1
  have hn := hv.2.2.2.1
  have hgm := hv.2.2.2.2.1
  have e0 := hF.2.1.1.1
  have hrp := hr.2.2.2.2.2.2.2.2.2.1
  have hsz := hv.2.2.2.2.2.2.2.2.1
  have hcl := (hv.2.2.2.2.2.2.2.2.2.2 g hg).1
  have e9 := (hF.2.1.2.2.2.2.2.2 g hg).1
  unfold w_X6_yards
  refine F_isGoat_in hF hv hg ⟨fun _ => ?_, fun z => absurd z (by decide)⟩
  refine W_in (Nat.zero_le _) h2 (by decide) ⟨fun _ => ?_, fun z => absurd z (by decide)⟩
  refine F_at (n := 4) (co_n9 hF.1.1) (by decide) (by omega) ?_
  rw [e9]
  have key : ∀ Q : Int32 → Prop, Q (if w = 0 then i2 (yd co r (co 7 g) (co 0 0)) else i1 (yd co r (co 7 g) (co 0 0))) → w_X6_yards_44 (nI g) (nI w) (nI (co 7 g)) (-1) (-1) (nI 0) μ Q := by
    intro Q hQ
    unfold w_X6_yards_44
    intro X hX
    refine cnt_dn (P := fun i => i ≤ co 0 0 → X (i1 (yd co r (co 7 g) i)) (i2 (yd co r (co 7 g) i)) (nI i)) (co 0 0) ?_ ?_ (by omega)
    · intro _
      apply hX
      unfold s_X6_yards_44 w_X6_yards_131
      rw [e0, z_le (by omega) (by omega), z_eq0 (by omega)]
      refine ⟨fun _ => ⟨fun q => ?_, fun q => ?_⟩, fun q => absurd (Nat.le_refl _) q⟩
      · rw [if_neg q] at hQ; exact hQ
      · rw [if_pos q] at hQ; exact hQ
    · intro i hi ih _
      have ih := ih (by omega)
      apply hX
      unfold s_X6_yards_44 w_X6_yards_117 w_X6_yards_125
      rw [e0, z_le (by omega) (by omega), z_le (by decide) (by omega)]
      refine ⟨fun q => absurd hi (by omega), fun _ => ⟨fun q => absurd q (by omega), fun _ => F_pin hA hF (by omega) ?_⟩⟩
      rw [z_abs i (by omega) (co 7 g) (by omega)]
      intro x11 hx11
      subst hx11
      cases e : pin (fun p => r (15 + p)) i (co 0 3) with
      | none =>
        have ey : yd co r (co 7 g) (i + 1) = yd co r (co 7 g) i := by
          show (match pin (fun p => r (15 + p)) i (co 0 3) with
            | none => yd co r (co 7 g) i
            | some p => if 0 < r (9 + p) then ydn (yd co r (co 7 g) i) p (way (co 7 g) i) else yd co r (co 7 g) i) = _
          rw [e]
        rw [ey] at ih
        refine ⟨fun _ => ?_, fun z => absurd rfl z⟩
        simp (disch := omega) only [z_le, z_lt, z_eq, z_lt0, z_0le, z_eq0, z_le0, z_0lt, z_cl, z_in, z_add, z_mul, z_m1ne, z_m1ne', z_m1lt0, z_m1lt, z_ltm1, forall_eq, true_implies, false_implies, implies_true, true_and, and_true, false_and, and_false, not_true_eq_false, not_false_eq_true, ite_true, ite_false]
        exact ih
      | some p =>
        have hp := (pin_some e).1
        have ey : yd co r (co 7 g) (i + 1) = if 0 < r (9 + p) then ydn (yd co r (co 7 g) i) p (way (co 7 g) i) else yd co r (co 7 g) i := by
          show (match pin (fun p => r (15 + p)) i (co 0 3) with
            | none => yd co r (co 7 g) i
            | some p => if 0 < r (9 + p) then ydn (yd co r (co 7 g) i) p (way (co 7 g) i) else yd co r (co 7 g) i) = _
          rw [e]
        rw [ey] at ih
        have hj := hrp p hp
        have hs9 := hsz p hp
        refine ⟨fun z => absurd z (by unfold optI; dsimp only; rw [z_m1ne (by omega)]; exact id), fun _ => ?_⟩
        unfold optI
        dsimp only
        refine F_at (n := 6) (st_n3 st_25) (by decide) (by omega) ?_
        rw [(hF.2.2.2.1.2.1 p hp).2.2]
        simp (disch := omega) only [z_le, z_lt, z_eq, z_lt0, z_0le, z_eq0, z_le0, z_0lt, z_cl, z_in, z_add, z_mul, z_m1ne, z_m1ne', z_m1lt0, z_m1lt, z_ltm1, forall_eq, true_implies, false_implies, implies_true, true_and, and_true, false_and, and_false, not_true_eq_false, not_false_eq_true, ite_true, ite_false]
        refine ⟨fun q => ?_, fun q => ?_⟩
        · rw [if_neg (by omega)] at ih
          exact ih
        · rw [if_pos (by omega)] at ih
          unfold ydn at ih
          have hw := way_lt (c := co 7 g) (a := i) (by omega) (by omega)
          cases e2 : yd co r (co 7 g) i with
          | none =>
            rw [e2] at ih
            exact ⟨fun _ => ih, fun z => absurd rfl z⟩
          | some t =>
            rw [e2] at ih
            dsimp only at ih
            have ht := yd_ok (r := r) (c := co 7 g) (by omega) hn i (by omega) t e2
            unfold i1 i2
            dsimp only
            simp (disch := omega) only [z_le, z_lt, z_eq, z_lt0, z_0le, z_eq0, z_le0, z_0lt, z_cl, z_in, z_add, z_mul, z_m1ne, z_m1ne', z_m1lt0, z_m1lt, z_ltm1, forall_eq, true_implies, false_implies, implies_true, true_and, and_true, false_and, and_false, not_true_eq_false, not_false_eq_true, ite_true, ite_false]
            refine ⟨fun q2 => ?_, fun q2 => ?_⟩
            · rw [if_neg (by omega)] at ih
              exact ih
            · rw [if_pos (by omega)] at ih
              exact ih
  exact key _ q0
end PUB
