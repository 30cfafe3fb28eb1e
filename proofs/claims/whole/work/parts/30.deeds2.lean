/-! ===== deeds: meshes, moves, the lamp, draws, undone ===== -/
theorem StF.updM {μ : Mem} {b n p x : Nat} {r : Ro} (hs : StF μ b n r) (hp6 : p < n) (hn : n ≤ 6) : StF (sI μ (b + 2) p (nI x)) b n (upN r (21 + p) x) := by
  obtain ⟨⟨a0, a1, a2, a3, a4⟩, hp, hp2, hv⟩ := hs
  refine ⟨?_, fun q h => ?_, fun q h1 h2 => ?_, fun v h => ?_⟩
  · rw [sI_r (by omega), upN_ne (by omega), upN_ne (by omega), upN_ne (by omega), upN_ne (by omega), upN_ne (by omega)]
    exact ⟨a0, a1, a2, a3, a4⟩
  · rw [sI_r (a := b + 1) (by omega), sI_r (a := b + 3) (by omega), upN_ne (i := 15 + q) (by omega), upN_ne (i := 9 + q) (by omega)]
    refine ⟨(hp q h).1, ?_, (hp q h).2.2⟩
    rw [sI_get]; unfold upN
    by_cases e : q = p
    · rw [if_pos ⟨rfl, e⟩, if_pos (by omega)]
    · rw [if_neg (fun z => e z.2), if_neg (by omega)]; exact (hp q h).2.1
  · rw [sI_r (by omega), sI_r (by omega)]
    exact hp2 q h1 h2
  · rw [sI_r (by omega), sI_r (by omega), upN_ne (by omega), upN_ne (by omega)]
    exact hv v h
theorem StF.updK {μ : Mem} {b n p x : Nat} {r : Ro} (hs : StF μ b n r) (hp6 : p < n) (hn : n ≤ 6) : StF (sI μ (b + 1) p (nI x)) b n (upN r (15 + p) x) := by
  obtain ⟨⟨a0, a1, a2, a3, a4⟩, hp, hp2, hv⟩ := hs
  refine ⟨?_, fun q h => ?_, fun q h1 h2 => ?_, fun v h => ?_⟩
  · rw [sI_r (by omega), upN_ne (by omega), upN_ne (by omega), upN_ne (by omega), upN_ne (by omega), upN_ne (by omega)]
    exact ⟨a0, a1, a2, a3, a4⟩
  · rw [sI_r (a := b + 2) (by omega), sI_r (a := b + 3) (by omega), upN_ne (i := 21 + q) (by omega), upN_ne (i := 9 + q) (by omega)]
    refine ⟨?_, (hp q h).2⟩
    rw [sI_get]; unfold upN
    by_cases e : q = p
    · rw [if_pos ⟨rfl, e⟩, if_pos (by omega)]
    · rw [if_neg (fun z => e z.2), if_neg (by omega)]; exact (hp q h).1
  · rw [sI_ne2 (by omega), sI_r (by omega)]
    exact hp2 q h1 h2
  · rw [sI_r (by omega), sI_r (by omega), upN_ne (by omega), upN_ne (by omega)]
    exact hv v h
theorem vRo_mesh {co : Co} {r : Ro} {B H p x : Nat} (hr : vRH co r B H) (hp : p < co 0 3) (hn : co 0 3 ≤ 6) (hx : x ≤ 9) : vRH co (upN r (21 + p) x) B H := by
  obtain ⟨r0, r1, r2, r3, r4, r5, r6, r7, r8, hrp, inj⟩ := hr
  refine ⟨?_, ?_, ?_, ?_, ?_, ?_, ?_, ?_, ?_, fun q hq => ⟨?_, ?_, ?_⟩, fun a b ha hb h => ?_⟩
  · rw [upN_ne (by omega)]; exact r0
  · rw [upN_ne (by omega)]; exact r1
  · rw [upN_ne (by omega)]; exact r2
  · rw [upN_ne (by omega)]; exact r3
  · rw [upN_ne (by omega)]; exact r4
  · rw [upN_ne (by omega)]; exact r5
  · rw [upN_ne (by omega)]; exact r6
  · rw [upN_ne (by omega)]; exact r7
  · rw [upN_ne (by omega)]; exact r8
  · rw [upN_ne (by omega)]; exact (hrp q hq).1
  · rw [upN_ne (by omega)]; exact (hrp q hq).2.1
  · by_cases e : q = p
    · rw [e, upN_same]; exact hx
    · rw [upN_ne (by omega)]; exact (hrp q hq).2.2
  · rw [upN_ne (by omega), upN_ne (by omega)] at h; exact inj a b ha hb h
theorem vRo_move {co : Co} {r : Ro} {B H p x : Nat} (hr : vRH co r B H) (hp : p < co 0 3) (hn : co 0 3 ≤ 6) (hx : x < co 0 0) (hno : ∀ q, q < co 0 3 → q ≠ p → r (15 + q) ≠ x) : vRH co (upN r (15 + p) x) B H := by
  obtain ⟨r0, r1, r2, r3, r4, r5, r6, r7, r8, hrp, inj⟩ := hr
  refine ⟨?_, ?_, ?_, ?_, ?_, ?_, ?_, ?_, ?_, fun q hq => ⟨?_, ?_, ?_⟩, fun a b ha hb h => ?_⟩
  · rw [upN_ne (by omega)]; exact r0
  · rw [upN_ne (by omega)]; exact r1
  · rw [upN_ne (by omega)]; exact r2
  · rw [upN_ne (by omega)]; exact r3
  · rw [upN_ne (by omega)]; exact r4
  · rw [upN_ne (by omega)]; exact r5
  · rw [upN_ne (by omega)]; exact r6
  · rw [upN_ne (by omega)]; exact r7
  · rw [upN_ne (by omega)]; exact r8
  · rw [upN_ne (by omega)]; exact (hrp q hq).1
  · by_cases e : q = p
    · rw [e, upN_same]; exact hx
    · rw [upN_ne (by omega)]; exact (hrp q hq).2.1
  · rw [upN_ne (by omega)]; exact (hrp q hq).2.2
  · by_cases ea : a = p
    · by_cases eb : b = p
      · omega
      · rw [ea, upN_same, upN_ne (by omega)] at h; exact absurd h.symm (hno b hb eb)
    · by_cases eb : b = p
      · rw [eb, upN_same, upN_ne (by omega)] at h; exact absurd h (hno a ha ea)
      · rw [upN_ne (by omega), upN_ne (by omega)] at h; exact inj a b ha hb h
theorem P_mesh {μ ν : Mem} {a b : Int32} (h : Rel μ ν) : w_X6_mesh a b μ (fun x μ' => w_X7_mesh a b ν (fun y ν' => x = y ∧ Rel μ' ν')) := by
  obtain ⟨co, r, U, T, fp, sd, I, G, K, hA, hF, hM⟩ := h
  have hv := hA.1
  have hn := hv.2.2.2.1
  unfold w_X6_mesh w_X7_mesh
  rcases upto a (co 0 3) with ⟨p, hp, rfl⟩ | ho
  · refine F_isPost_in hF hv hp ⟨fun _ => ?_, fun z => absurd z (by decide)⟩
    rcases z_cases b 0 9 (by decide) (by decide) with ⟨x, h1, h2, rfl⟩ | hb
    · refine W_in h1 h2 (by decide) ⟨fun _ => F_rem hA hF (fun μ1 f1 => ?_), fun z => absurd z (by decide)⟩
      refine F_at (n := 6) (st_n2 st_25) (by decide) (by omega) ?_
      refine F_put (n := 6) (st_n2 st_25) (by decide) (by omega) ?_
      have em := (f1.2.2.2.1.2.1 p hp).2.1
      have f2 := f1.now ((FrS.rf (b := 25) (μ := μ1)).sI (by omega)).P (f1.2.2.2.1.updM (x := x) hp hn)
      refine M_isPost_in hM hv hp ⟨fun _ => MW_in h1 h2 (by decide) ⟨fun _ => M_rem hA hM (fun ν1 m1 => ?_), fun z => absurd z (by decide)⟩, fun z => absurd z (by decide)⟩
      have en := m1.2.1 (21 + p) (by omega)
      simp (disch := omega) only [z_le, z_lt, z_eq, z_lt0, z_0le, z_eq0, z_le0, z_0lt, z_cl, z_in, z_add, z_mul, z_m1ne, z_m1ne', z_m1lt0, z_m1lt, z_ltm1, forall_eq, true_implies, false_implies, implies_true, true_and, and_true, false_and, and_false, not_true_eq_false, not_false_eq_true, ite_true, ite_false, en, em]
      exact ⟨by omega, by omega, (by first | exact done (VA_rem hA (vRo_mesh hA.2.1 hp hn h2)) (f2) (m1.now ((FrB.rf (b := 14) (ν := ν1)).sI).M m1.2.1.upd) | exact (done (x := 0) (VA_rem hA (vRo_mesh hA.2.1 hp hn h2)) (f2) (m1.now ((FrB.rf (b := 14) (ν := ν1)).sI).M m1.2.1.upd)).2)⟩
    · refine F_within0 hb ⟨fun z => absurd (by decide) z, fun _ => ?_⟩
      exact M_isPost_in hM hv hp ⟨fun _ => MW_out hb ⟨fun z => absurd (by decide) z, fun _ => done hA hF hM⟩, fun z => absurd z (by decide)⟩
  · refine F_isPost_out hF hv ho ⟨fun z => absurd (by decide) z, fun _ => ?_⟩
    exact M_isPost_out hM hv ho ⟨fun z => absurd (by decide) z, fun _ => done hA hF hM⟩
theorem optI_m1 (o : Option Nat) (h : ∀ p, o = some p → p < 2147483648) : (optI o = -1) ↔ o = none := by
  cases o with
  | none => exact ⟨fun _ => rfl, fun _ => rfl⟩
  | some p =>
    refine ⟨fun q => ?_, fun q => by cases q⟩
    have := (z_m1ne (h p rfl)).mp q
    exact this.elim
theorem P_move {μ ν : Mem} {a b : Int32} (h : Rel μ ν) : w_X6_move a b μ (fun x μ' => w_X7_move a b ν (fun y ν' => x = y ∧ Rel μ' ν')) := by
  obtain ⟨co, r, U, T, fp, sd, I, G, K, hA, hF, hM⟩ := h
  have hv := hA.1
  have hn := hv.2.2.2.1
  have hcc := hv.1
  have hrp := hA.2.1.2.2.2.2.2.2.2.2.2.1
  have inj := hA.2.1.2.2.2.2.2.2.2.2.2.2
  unfold w_X6_move w_X7_move
  rcases upto a (co 0 3) with ⟨p, hp, rfl⟩ | ho
  · refine F_isPost_in hF hv hp ⟨fun z => absurd z (by decide), fun _ => ?_⟩
    rcases upto b (co 0 0) with ⟨x, hx, rfl⟩ | hb
    · refine F_isCell_in hF hv hx ⟨fun _ => ?_, fun z => absurd z (by decide)⟩
      refine F_postIn hF.2.2.2.1 hn (fun q hq => by have := (hrp q hq).2.1; omega) inj (by omega) ?_
      have hop : ∀ q, pin (fun p => r (15 + p)) x (co 0 3) = some q → q < 2147483648 := fun q hq => by have := (pin_some hq).1; omega
      rw [optI_m1 _ hop]
      refine ⟨fun e => F_rem hA hF (fun μ1 f1 => ?_), fun e => ?_⟩
      · refine F_at (n := 6) (st_n1 st_25) (by decide) (by omega) ?_
        refine F_put (n := 6) (st_n1 st_25) (by decide) (by omega) ?_
        have em := (f1.2.2.2.1.2.1 p hp).1
        have f2 := f1.now ((FrS.rf (b := 25) (μ := μ1)).sI (by omega)).P (f1.2.2.2.1.updK (x := x) hp hn)
        refine M_isPost_in hM hv hp ⟨fun z => absurd z (by decide), fun _ => M_isCell_in hM hv hx ⟨fun _ => ?_, fun z => absurd z (by decide)⟩⟩
        refine M_postIn hM.1 hn hM.2.1 (fun q hq => by have := (hrp q hq).2.1; omega) (by omega) ?_
        rw [optI_m1 _ hop]
        refine ⟨fun _ => M_rem hA hM (fun ν1 m1 => ?_), fun z => absurd e z⟩
        have en := m1.2.1 (15 + p) (by omega)
        simp (disch := omega) only [z_le, z_lt, z_eq, z_lt0, z_0le, z_eq0, z_le0, z_0lt, z_cl, z_in, z_add, z_mul, z_m1ne, z_m1ne', z_m1lt0, z_m1lt, z_ltm1, forall_eq, true_implies, false_implies, implies_true, true_and, and_true, false_and, and_false, not_true_eq_false, not_false_eq_true, ite_true, ite_false, en, em]
        exact ⟨by omega, by omega, (by first | exact done (VA_rem hA (vRo_move hA.2.1 hp hn hx (fun q hq _ => pin_none e q hq))) (f2) (m1.now ((FrB.rf (b := 14) (ν := ν1)).sI).M m1.2.1.upd) | exact (done (x := 0) (VA_rem hA (vRo_move hA.2.1 hp hn hx (fun q hq _ => pin_none e q hq))) (f2) (m1.now ((FrB.rf (b := 14) (ν := ν1)).sI).M m1.2.1.upd)).2)⟩
      · refine M_isPost_in hM hv hp ⟨fun z => absurd z (by decide), fun _ => M_isCell_in hM hv hx ⟨fun _ => ?_, fun z => absurd z (by decide)⟩⟩
        refine M_postIn hM.1 hn hM.2.1 (fun q hq => by have := (hrp q hq).2.1; omega) (by omega) ?_
        rw [optI_m1 _ hop]
        exact ⟨fun z => absurd z e, fun _ => done hA hF hM⟩
    · refine F_isCell_out hF hv hb ⟨fun z => absurd (by decide) z, fun _ => ?_⟩
      exact M_isPost_in hM hv hp ⟨fun z => absurd z (by decide), fun _ => M_isCell_out hM hv hb ⟨fun z => absurd (by decide) z, fun _ => done hA hF hM⟩⟩
  · refine F_isPost_out hF hv ho ⟨fun _ => ?_, fun z => absurd (by decide) z⟩
    exact M_isPost_out hM hv ho ⟨fun _ => done hA hF hM, fun z => absurd (by decide) z⟩
theorem vRo_lamp {co : Co} {r : Ro} {B H x : Nat} (hr : vRH co r B H) (hx : x ≤ 1) : vRH co (upN r 2 x) B H := by
  obtain ⟨r0, r1, r2, r3, r4, r5, r6, r7, r8, hrp, inj⟩ := hr
  refine ⟨?_, ?_, ?_, ?_, ?_, ?_, ?_, ?_, ?_, fun q hq => ⟨?_, ?_, ?_⟩, fun a b ha hb h => ?_⟩
  · rw [upN_ne (by omega)]; exact r0
  · rw [upN_ne (by omega)]; exact r1
  · rw [upN_same]; exact hx
  · rw [upN_ne (by omega)]; exact r3
  · rw [upN_ne (by omega)]; exact r4
  · rw [upN_ne (by omega)]; exact r5
  · rw [upN_ne (by omega)]; exact r6
  · rw [upN_ne (by omega)]; exact r7
  · rw [upN_ne (by omega)]; exact r8
  · rw [upN_ne (by omega)]; exact (hrp q hq).1
  · rw [upN_ne (by omega)]; exact (hrp q hq).2.1
  · rw [upN_ne (by omega)]; exact (hrp q hq).2.2
  · rw [upN_ne (by omega), upN_ne (by omega)] at h; exact inj a b ha hb h
theorem P_lamp {μ ν : Mem} {b : Nat} (hb : b ≤ 1) (h : Rel μ ν) : w_X6_lamp (nI b) μ (fun x μ' => w_X7_lamp (nI b) ν (fun y ν' => x = y ∧ Rel μ' ν')) := by
  obtain ⟨co, r, U, T, fp, sd, I, G, K, hA, hF, hM⟩ := h
  have hv := hA.1
  have h2 := hA.2.1.2.2.1
  unfold w_X6_lamp w_X7_lamp
  refine F_isBare hF hv ?_
  by_cases hc : co 0 0 = 0
  · rw [if_pos hc]
    refine ⟨fun z => absurd z (by decide), fun _ => ?_⟩
    rw [hM.1.1.1, if_pos hc]
    exact ⟨fun z => absurd (by decide) z, fun _ => done hA hF hM⟩
  · rw [if_neg hc]
    refine ⟨fun _ => F_rem hA hF (fun μ1 f1 => ?_), fun z => absurd (by decide) z⟩
    have f2 := f1.now ((FrS.rf (b := 25) (μ := μ1)).sI (by omega)).P (f1.2.2.2.1.upd0 (j := 2) (x := b) (by decide))
    have go : ∀ s, s = r 2 → w_X6_lamp_36 (nI b) (nI s) μ1 (fun x μ' => (¬ ν.1 0 17 = 0 → w_X7_remember ν (fun μ2 => (vp_in (nI 2) 27 ∧ ∀ x3 : Int32, x3 = (μ2.1 14 ((nI 2)).toNatClampNeg) → ((nI b = 0 → (w_X7_lamp_35 (nI b) x3 (nI 0) (nI 2) μ2 (fun y ν' => x = y ∧ Rel μ' ν'))) ∧ (¬ nI b = 0 → (w_X7_lamp_35 (nI b) x3 (nI 1) (nI 2) μ2 (fun y ν' => x = y ∧ Rel μ' ν')))))) ) ∧ (ν.1 0 17 = 0 → x = -1000000003 ∧ Rel μ' ν)) := by
      intro s hs
      unfold w_X6_lamp_36
      have hb01 : nI b = 0 ∨ nI b = 1 := by
        rcases (by omega : b = 0 ∨ b = 1) with q | q
        · rw [q]; exact Or.inl rfl
        · rw [q]; exact Or.inr rfl
      refine ⟨hb01, ?_⟩
      intro μ5 e5
      subst e5
      rw [hM.1.1.1, if_neg hc]
      refine ⟨fun _ => M_rem hA hM (fun ν1 m1 => ?_), fun z => absurd z (by decide)⟩
      have en := m1.2.1 2 (by decide)
      have fin : ∀ v, v = b → w_X7_lamp_35 (nI b) (nI (r 2)) (nI v) (nI 2) ν1 (fun y ν' => nI s = y ∧ Rel (sI μ1 25 2 (nI b)) ν') := by
        intro v hvb
        unfold w_X7_lamp_35
        simp (disch := omega) only [z_le, z_lt, z_eq, z_lt0, z_0le, z_eq0, z_le0, z_0lt, z_cl, z_in, z_add, z_mul, z_m1ne, z_m1ne', z_m1lt0, z_m1lt, z_ltm1, forall_eq, true_implies, false_implies, implies_true, true_and, and_true, false_and, and_false, not_true_eq_false, not_false_eq_true, ite_true, ite_false]
        refine ⟨by omega, ?_⟩
        rw [hs, hvb]
        have d := done (x := nI (r 2)) (VA_rem hA (vRo_lamp hA.2.1 hb)) f2 (m1.now ((FrB.rf (b := 14) (ν := ν1)).sI).M (m1.2.1.upd (j := 2) (x := b)))
        first | exact d | exact d.2 | (simp only [true_and]; exact d.2)
      simp (disch := omega) only [z_le, z_lt, z_eq, z_lt0, z_0le, z_eq0, z_le0, z_0lt, z_cl, z_in, z_add, z_mul, z_m1ne, z_m1ne', z_m1lt0, z_m1lt, z_ltm1, forall_eq, true_implies, false_implies, implies_true, true_and, and_true, false_and, and_false, not_true_eq_false, not_false_eq_true, ite_true, ite_false, en]
      refine ⟨by omega, fun q => fin 0 (by omega), fun q => fin 1 (by omega)⟩
    rw [f1.2.2.2.1.1.2.2.1]
    have h0 : nI (r 2) = 0 ↔ r 2 = 0 := z_eq0 (by omega)
    exact ⟨fun q => go 0 (h0.mp q).symm, fun q => go 1 (by have h9 : ¬ r 2 = 0 := fun z => q (h0.mpr z); omega)⟩
