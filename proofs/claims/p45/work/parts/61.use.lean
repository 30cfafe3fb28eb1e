/-! ===== each told number by itself; branches; what is undone ===== -/
section USE
variable {μ : Mem} {co : Co} {r : Ro} {U : Un} {sd : Nat} {I : Im} {G : Gt} {L : Nat → Nat → Nat} {Q : Int32 → Mem → Prop} {Q0 : Int32 → Prop}
theorem T0 (h : OK μ co r U sd I G L) (q : Q0 (nI (co 0 0))) : w_X6_told (nI 0) μ Q0 := by
  obtain ⟨T2, hA, hF, hc⟩ := h
  exact F_told_0 hA hF q
theorem T1 (h : OK μ co r U sd I G L) (q : Q0 (nI (co 0 1))) : w_X6_told (nI 1) μ Q0 := by
  obtain ⟨T2, hA, hF, hc⟩ := h
  exact F_told_1 hA hF q
theorem T3 (h : OK μ co r U sd I G L) (q : Q0 (nI (co 0 3))) : w_X6_told (nI 3) μ Q0 := by
  obtain ⟨T2, hA, hF, hc⟩ := h
  exact F_told_3 hA hF q
theorem T4 (h : OK μ co r U sd I G L) (q : Q0 (nI (co 0 4))) : w_X6_told (nI 4) μ Q0 := by
  obtain ⟨T2, hA, hF, hc⟩ := h
  exact F_told_4 hA hF q
theorem T5 (h : OK μ co r U sd I G L) (q : Q0 (nI (0))) : w_X6_told (nI 5) μ Q0 := by
  obtain ⟨T2, hA, hF, hc⟩ := h
  exact F_told_5 hA hF q
theorem T6 (h : OK μ co r U sd I G L) (q : Q0 (nI (r 0))) : w_X6_told (nI 6) μ Q0 := by
  obtain ⟨T2, hA, hF, hc⟩ := h
  exact F_told_6 hA hF q
theorem T7 (h : OK μ co r U sd I G L) (q : Q0 (nI (r 1))) : w_X6_told (nI 7) μ Q0 := by
  obtain ⟨T2, hA, hF, hc⟩ := h
  exact F_told_7 hA hF q
theorem T8 (h : OK μ co r U sd I G L) (q : Q0 (nI (r 2))) : w_X6_told (nI 8) μ Q0 := by
  obtain ⟨T2, hA, hF, hc⟩ := h
  exact F_told_8 hA hF q
theorem T9 (h : OK μ co r U sd I G L) (q : Q0 (nI (hs co (r 0)))) : w_X6_told (nI 9) μ Q0 := by
  obtain ⟨T2, hA, hF, hc⟩ := h
  exact F_told_9 hA hF q
theorem T10 (h : OK μ co r U sd I G L) (q : Q0 (nI (sumN (fun p => r (9 + p)) (co 0 3)))) : w_X6_told (nI 10) μ Q0 := by
  obtain ⟨T2, hA, hF, hc⟩ := h
  exact F_told_10 hA hF q
theorem T11 (h : OK μ co r U sd I G L) (q : Q0 (nI (r 3))) : w_X6_told (nI 11) μ Q0 := by
  obtain ⟨T2, hA, hF, hc⟩ := h
  exact F_told_11 hA hF q
theorem T12 (h : OK μ co r U sd I G L) (q : Q0 (nI (r 4))) : w_X6_told (nI 12) μ Q0 := by
  obtain ⟨T2, hA, hF, hc⟩ := h
  exact F_told_12 hA hF q
theorem T15 (h : OK μ co r U sd I G L) (q : Q0 (nI (U.1))) : w_X6_told (nI 15) μ Q0 := by
  obtain ⟨T2, hA, hF, hc⟩ := h
  exact F_told_15 hA hF q
theorem T2 (h : OK μ co r U sd I G L) (q : Q0 (nI (dl co))) : w_X6_told (nI 2) μ Q0 := by
  obtain ⟨T2, hA, hF, hc⟩ := h
  exact F_told_2 hA hF (by rw [if_neg hc]; exact q)
theorem PO0 (h : OK μ co r U sd I G L) {p : Nat} (hp : p < co 0 3) (q : Q0 (nI (r (15 + p)))) : w_X6_post (nI p) (nI 0) μ Q0 := by
  obtain ⟨T2, hA, hF, hc⟩ := h
  exact F_post_0 hA hF hp q
theorem PO1 (h : OK μ co r U sd I G L) {p : Nat} (hp : p < co 0 3) (q : Q0 (nI (r (21 + p)))) : w_X6_post (nI p) (nI 1) μ Q0 := by
  obtain ⟨T2, hA, hF, hc⟩ := h
  exact F_post_1 hA hF hp q
theorem PO2 (h : OK μ co r U sd I G L) {p : Nat} (hp : p < co 0 3) (q : Q0 (nI (co 3 p))) : w_X6_post (nI p) (nI 2) μ Q0 := by
  obtain ⟨T2, hA, hF, hc⟩ := h
  exact F_post_2 hA hF hp q
theorem PO3 (h : OK μ co r U sd I G L) {p : Nat} (hp : p < co 0 3) (q : Q0 (nI (co 4 p))) : w_X6_post (nI p) (nI 3) μ Q0 := by
  obtain ⟨T2, hA, hF, hc⟩ := h
  exact F_post_3 hA hF hp q
theorem PO4 (h : OK μ co r U sd I G L) {p : Nat} (hp : p < co 0 3) (q : Q0 (nI (r (9 + p)))) : w_X6_post (nI p) (nI 4) μ Q0 := by
  obtain ⟨T2, hA, hF, hc⟩ := h
  exact F_post_4 hA hF hp q
theorem VI0 (h : OK μ co r U sd I G L) {v : Nat} (hv : v < 2) (q : Q0 (nI (co 5 v))) : w_X6_village (nI v) (nI 0) μ Q0 := by
  obtain ⟨T2, hA, hF, hc⟩ := h
  exact F_village_0 hA hF hv q
theorem VI1 (h : OK μ co r U sd I G L) {v : Nat} (hv : v < 2) (q : Q0 (nI (co 6 v))) : w_X6_village (nI v) (nI 1) μ Q0 := by
  obtain ⟨T2, hA, hF, hc⟩ := h
  exact F_village_1 hA hF hv q
theorem VI2 (h : OK μ co r U sd I G L) {v : Nat} (hv : v < 2) (q : Q0 (nI (r (5 + v)))) : w_X6_village (nI v) (nI 2) μ Q0 := by
  obtain ⟨T2, hA, hF, hc⟩ := h
  exact F_village_2 hA hF hv q
theorem VI3 (h : OK μ co r U sd I G L) {v : Nat} (hv : v < 2) (q : Q0 (nI (r (7 + v)))) : w_X6_village (nI v) (nI 3) μ Q0 := by
  obtain ⟨T2, hA, hF, hc⟩ := h
  exact F_village_3 hA hF hv q
theorem VI4 (h : OK μ co r U sd I G L) {v : Nat} (hv : v < 2) (q : Q0 (nI (hsN (fun p => decide (co 4 p = v)) (co 0 3)))) : w_X6_village (nI v) (nI 4) μ Q0 := by
  obtain ⟨T2, hA, hF, hc⟩ := h
  exact F_village_4 hA hF hv q
theorem br_yes {A P R : Prop} (h : A) (k : P) : (A → P) ∧ (¬ A → R) := ⟨fun _ => k, fun z => absurd h z⟩
theorem br_no {A P R : Prop} (h : ¬ A) (k : R) : (A → P) ∧ (¬ A → R) := ⟨fun z => absurd z h, fun _ => k⟩
theorem bn_yes {A P R : Prop} (h : A) (k : R) : (¬ A → P) ∧ (A → R) := ⟨fun z => absurd h z, fun _ => k⟩
theorem bn_no {A P R : Prop} (h : ¬ A) (k : P) : (¬ A → P) ∧ (A → R) := ⟨fun _ => k, fun z => absurd z h⟩
/-- the same undone deeds -/
def US (U V : Un) : Prop := V.1 = U.1 ∧ ∀ i, i < U.1 → V.2 i = U.2 i
theorem US.rf : US U U := ⟨rfl, fun _ _ => rfl⟩
theorem US.tr {V W : Un} (h1 : US U V) (h2 : US V W) : US U W := ⟨h2.1.trans h1.1, fun i hi => (h2.2 i (by rw [h1.1]; exact hi)).trans (h1.2 i hi)⟩
theorem rem_1 (hU : U.1 < 30) : (remU U r).1 = U.1 + 1 := by unfold remU; rw [if_pos hU]
theorem rem_2 (hU : U.1 < 30) : (remU U r).2 U.1 = r := by
  unfold remU; rw [if_pos hU]
  exact if_pos rfl
theorem rem_3 (hU : U.1 < 30) {i : Nat} (hi : i < U.1) : (remU U r).2 i = U.2 i := by
  unfold remU; rw [if_pos hU]
  exact if_neg (by omega)
/-- the latest deed undone -/
theorem UB {r1 : Ro} (h : OK μ co r1 (remU U r) sd I G L) (hU : U.1 < 30) (q : ∀ (μ' : Mem) (V : Un), US U V → OK μ' co r V sd I G L → Q (nI (r 0)) μ') : w_X6_undo (nI 1) μ Q := by
  have e1 := rem_1 (r := r) hU
  refine U_undo h (Nat.le_refl _) (by omega) (fun μ1 h1 => ?_)
  have e2 : (remU U r).1 - 1 = U.1 := by omega
  rw [e2, rem_2 hU] at h1 ⊢
  exact q μ1 (U.1, (remU U r).2) ⟨rfl, fun i hi => rem_3 hU hi⟩ h1
/-- what the law's own rows hold of the coast -/
def LK (co : Co) (L : Nat → Nat → Nat) : Prop :=
  (L 100 0 = co 0 0 ∧ L 100 1 = co 0 1 ∧ L 100 2 = co 0 2 ∧ L 100 3 = co 0 3 ∧ L 100 4 = co 0 4) ∧ (∀ v, v < 2 → L 100 (5 + v) = co 5 v ∧ L 100 (7 + v) = co 6 v) ∧
  (∀ p, p < co 0 3 → L 100 (9 + p) = co 3 p ∧ L 100 (15 + p) = co 4 p) ∧ (∀ i, i < co 0 4 → L 100 (21 + i) = co 7 i ∧ L 100 (25 + i) = co 8 i) ∧ (∀ h, h < co 0 2 → L 100 (29 + 2 * h) = co 1 h ∧ L 100 (30 + 2 * h) = co 2 h)
theorem OK.g3 (h : OK μ co r U sd I G L) (k : LK co L) : μ.1 246 ((nI 3)).toNatClampNeg = nI (co 0 3) := by rw [z_cl (by decide), h.g 3, k.1.2.2.2.1]
theorem OK.g4 (h : OK μ co r U sd I G L) (k : LK co L) : μ.1 246 ((nI 4)).toNatClampNeg = nI (co 0 4) := by rw [z_cl (by decide), h.g 4, k.1.2.2.2.2]
theorem vp3 : vp_in (nI 3) 53 := vp_in_nI (by decide) (by decide)
theorem vp4 : vp_in (nI 4) 53 := vp_in_nI (by decide) (by decide)
theorem nn0 {a : Nat} (ha : a < 2147483648) : ¬ (nI a < 0) := fun z => (z_lt0 ha).mp z
theorem OK.day (h : OK μ co r U sd I G L) : r 0 ≤ 9060 := h.v.2.1.1
end USE
