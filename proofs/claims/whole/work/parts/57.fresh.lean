/-! ===== before the first coast: nothing is told yet ===== -/
def zr : Ro := fun _ => 0
def zg : Nat → Nat → Nat := fun _ _ => 0
def zu : Nat → Ro := fun _ => zr
def C0 (μ : Mem) : Prop := (μ.1 3 0 = nI 0 ∧ μ.1 3 1 = nI 0 ∧ μ.1 3 2 = nI 0 ∧ μ.1 3 3 = nI 0 ∧ μ.1 3 4 = nI 0) ∧ ∀ v, v < 2 → μ.1 10 v = nI 127 ∧ μ.1 11 v = nI 0
def RF0 (μ : Mem) (T : Tx) (fp : Int32) (sd : Nat) (I : Im) : Prop :=
  (μ.2.2 0 = 3 ∧ μ.2.2 1 = 14) ∧ C0 μ ∧ (JB μ 3 ∧ JB μ 14) ∧ StF μ 25 6 zr ∧ PaF μ 6 (0, zu) ∧ TxF μ T ∧ μ.1 1 5 = fp ∧ μ.1 0 10 = nI sd ∧ ImF μ 6 I ∧ μ.1 237 3 = nI 0 ∧ μ.1 241 3 = nI 0
abbrev VA0 (T : Tx) (sd : Nat) (I : Im) : Prop := VA co0 zr (0, zu) T sd I (0, zg) (0, zg)
abbrev RM0 (ν : Mem) (T : Tx) (fp : Int32) (sd : Nat) (I : Im) : Prop := RM ν co0 zr (0, zu) T fp sd I (0, zg) (0, zg)
def Rel0 (μ ν : Mem) : Prop := ∃ (T : Tx) (fp : Int32) (sd : Nat) (I : Im), VA0 T sd I ∧ (∀ i q, I i = some q → q.2 = zr) ∧ RF0 μ T fp sd I ∧ RM0 ν T fp sd I
def RelA (μ ν : Mem) : Prop := Rel μ ν ∨ Rel0 μ ν
theorem RF0.to {μ μ1 : Mem} {T T1 : Tx} {fp fp1 : Int32} {sd sd1 : Nat} {I I1 : Im} (h : RF0 μ T fp sd I) (h2 : μ1.2.2 = μ.2.2) (hc : ∀ k, 3 ≤ k → k < 14 → μ1.1 k = μ.1 k) (hj : JB μ1 14) (hs : StF μ1 25 6 zr) (hp : PaF μ1 6 (0, zu)) (ht : TxF μ1 T1) (h5 : μ1.1 1 5 = fp1) (h10 : μ1.1 0 10 = nI sd1) (hi : ImF μ1 6 I1) (hg : μ1.1 237 3 = nI 0) (hb : μ1.1 241 3 = nI 0) : RF0 μ1 T1 fp1 sd1 I1 := by
  obtain ⟨a1, a2, a3, _⟩ := h
  refine ⟨by rw [h2]; exact a1, ?_, ⟨a3.1.fr (hc 8 (by decide) (by decide)), hj⟩, hs, hp, ht, h5, h10, hi, hg, hb⟩
  unfold C0 at a2 ⊢
  rw [hc 3 (by decide) (by decide), hc 10 (by decide) (by decide), hc 11 (by decide) (by decide)]
  exact a2
section FRESH
variable {μ ν : Mem} {T : Tx} {fp : Int32} {sd : Nat} {I : Im} {Q : Int32 → Prop}
theorem B_isPost (h : RF0 μ T fp sd I) {a : Int32} (q : Q (nI 0)) : w_X6_isPost a μ Q := by
  unfold w_X6_isPost
  rw [h.1.1, h.2.1.1.2.2.2.1]
  exact W_upto_out (n := 0) (fun p hp => absurd hp (Nat.not_lt_zero _)) (by decide) ⟨Or.inl rfl, q⟩
theorem B_isGoat (h : RF0 μ T fp sd I) {a : Int32} (q : Q (nI 0)) : w_X6_isGoat a μ Q := by
  unfold w_X6_isGoat
  rw [h.1.1, h.2.1.1.2.2.2.2]
  exact W_upto_out (n := 0) (fun p hp => absurd hp (Nat.not_lt_zero _)) (by decide) ⟨Or.inl rfl, q⟩
theorem B_isBare (h : RF0 μ T fp sd I) (q : Q (nI 1)) : w_X6_isBare μ Q := by
  unfold w_X6_isBare
  rw [h.1.1, h.2.1.1.1]
  exact ⟨fun z => absurd rfl z, fun _ => q⟩
theorem B_postsOf (h : RF0 μ T fp sd I) {a : Int32} (q : Q (nI 0)) : w_X0_postsOf (μ.2.2 0) a μ Q := by
  unfold w_X0_postsOf w_X0_postsOf_4
  rw [h.1.1]
  intro X hX
  apply hX
  unfold s_X0_postsOf_4
  rw [h.2.1.1.2.2.2.1]
  exact ⟨fun _ => q, fun z => absurd (by decide) z⟩
theorem B_hanging (h : RF0 μ T fp sd I) (q : Q (nI 0)) : w_X4_hanging 25 (μ.2.2 0) μ Q := by
  have e0 : μ.1 25 0 = nI 0 := h.2.2.2.1.1.1
  unfold w_X4_hanging w_X4_hanging_4
  intro X hX
  refine cnt_dn (P := fun i => i ≤ 2 → X (nI 0) (nI i)) 2 ?_ ?_ (by decide)
  · intro _
    apply hX
    unfold s_X4_hanging_4
    exact ⟨fun _ => q, fun z => absurd (by decide) z⟩
  · intro i hi ih _
    apply hX
    unfold s_X4_hanging_4
    rw [z_le (by decide) (by omega)]
    refine ⟨fun z => by omega, fun _ => ?_⟩
    have nxt : w_X4_hanging_29 25 (μ.2.2 0) X (nI 0) (nI i) μ Q := by
      unfold w_X4_hanging_29
      intro x6 e6
      rw [z_add] at e6
      subst e6
      exact ih (by omega)
    unfold w_X0_hangsOn
    rw [h.1.1]
    refine F_at (n := 2) (by decide) (by decide) hi ?_
    refine ⟨by decide, fun x3 e3 => ⟨fun _ => ?_, fun _ => ?_⟩⟩
    · rw [← h.1.1]
      exact ⟨fun _ => nxt, fun z => absurd rfl z⟩
    · rw [← h.1.1]
      refine ⟨fun z => absurd z (by decide), fun _ => B_postsOf h ?_⟩
      intro x5 e5
      rw [show (nI 0 ||| nI 0 : Int32) = nI 0 by decide] at e5
      subst e5
      exact nxt
theorem done0 {x : Int32} (hA : VA0 T sd I) (hI : ∀ i q, I i = some q → q.2 = zr) (hF : RF0 μ T fp sd I) (hM : RM0 ν T fp sd I) : x = x ∧ RelA μ ν := ⟨rfl, Or.inr ⟨T, fp, sd, I, hA, hI, hF, hM⟩⟩
end FRESH
theorem P0_lick {μ ν : Mem} {a b : Int32} (h : Rel0 μ ν) : w_X6_lick a b μ (fun x μ' => w_X7_lick a b ν (fun y ν' => x = y ∧ RelA μ' ν')) := by
  obtain ⟨T, fp, sd, I, hA, hI, hF, hM⟩ := h
  unfold w_X6_lick w_X7_lick
  refine B_isPost hF ?_
  first | refine ⟨fun z => absurd rfl z, fun _ => ?_⟩ | refine ⟨fun _ => ?_, fun z => absurd rfl z⟩
  refine M_isPost_out hM hA.1 (fun p hp => absurd hp (Nat.not_lt_zero _)) ?_
  first | refine ⟨fun z => absurd rfl z, fun _ => ?_⟩ | refine ⟨fun _ => ?_, fun z => absurd rfl z⟩
  exact done0 hA hI hF hM
theorem P0_mesh {μ ν : Mem} {a b : Int32} (h : Rel0 μ ν) : w_X6_mesh a b μ (fun x μ' => w_X7_mesh a b ν (fun y ν' => x = y ∧ RelA μ' ν')) := by
  obtain ⟨T, fp, sd, I, hA, hI, hF, hM⟩ := h
  unfold w_X6_mesh w_X7_mesh
  refine B_isPost hF ?_
  first | refine ⟨fun z => absurd rfl z, fun _ => ?_⟩ | refine ⟨fun _ => ?_, fun z => absurd rfl z⟩
  refine M_isPost_out hM hA.1 (fun p hp => absurd hp (Nat.not_lt_zero _)) ?_
  first | refine ⟨fun z => absurd rfl z, fun _ => ?_⟩ | refine ⟨fun _ => ?_, fun z => absurd rfl z⟩
  exact done0 hA hI hF hM
theorem P0_move {μ ν : Mem} {a b : Int32} (h : Rel0 μ ν) : w_X6_move a b μ (fun x μ' => w_X7_move a b ν (fun y ν' => x = y ∧ RelA μ' ν')) := by
  obtain ⟨T, fp, sd, I, hA, hI, hF, hM⟩ := h
  unfold w_X6_move w_X7_move
  refine B_isPost hF ?_
  first | refine ⟨fun z => absurd rfl z, fun _ => ?_⟩ | refine ⟨fun _ => ?_, fun z => absurd rfl z⟩
  refine M_isPost_out hM hA.1 (fun p hp => absurd hp (Nat.not_lt_zero _)) ?_
  first | refine ⟨fun z => absurd rfl z, fun _ => ?_⟩ | refine ⟨fun _ => ?_, fun z => absurd rfl z⟩
  exact done0 hA hI hF hM
theorem P0_gets {μ ν : Mem} {a b : Int32} (h : Rel0 μ ν) : w_X6_gets a b μ (fun x μ' => w_X7_gets a b ν (fun y ν' => x = y ∧ RelA μ' ν')) := by
  obtain ⟨T, fp, sd, I, hA, hI, hF, hM⟩ := h
  unfold w_X6_gets w_X7_gets
  refine B_isPost hF ?_
  first | refine ⟨fun z => absurd rfl z, fun _ => ?_⟩ | refine ⟨fun _ => ?_, fun z => absurd rfl z⟩
  refine M_isPost_out hM hA.1 (fun p hp => absurd hp (Nat.not_lt_zero _)) ?_
  first | refine ⟨fun z => absurd rfl z, fun _ => ?_⟩ | refine ⟨fun _ => ?_, fun z => absurd rfl z⟩
  exact done0 hA hI hF hM
theorem P0_level {μ ν : Mem} {a b : Int32} (h : Rel0 μ ν) : w_X6_level a b μ (fun x μ' => w_X7_level a b ν (fun y ν' => x = y ∧ RelA μ' ν')) := by
  obtain ⟨T, fp, sd, I, hA, hI, hF, hM⟩ := h
  unfold w_X6_level w_X7_level
  refine B_isPost hF ?_
  first | refine ⟨fun z => absurd rfl z, fun _ => ?_⟩ | refine ⟨fun _ => ?_, fun z => absurd rfl z⟩
  refine M_isPost_out hM hA.1 (fun p hp => absurd hp (Nat.not_lt_zero _)) ?_
  first | refine ⟨fun z => absurd rfl z, fun _ => ?_⟩ | refine ⟨fun _ => ?_, fun z => absurd rfl z⟩
  exact done0 hA hI hF hM
theorem P0_shadow {μ ν : Mem} {a : Int32} (h : Rel0 μ ν) : w_X6_shadow a μ (fun x μ' => w_X7_shadow a ν (fun y ν' => x = y ∧ RelA μ' ν')) := by
  obtain ⟨T, fp, sd, I, hA, hI, hF, hM⟩ := h
  unfold w_X6_shadow w_X7_shadow
  refine B_isPost hF ?_
  first | refine ⟨fun z => absurd rfl z, fun _ => ?_⟩ | refine ⟨fun _ => ?_, fun z => absurd rfl z⟩
  refine M_isPost_out hM hA.1 (fun p hp => absurd hp (Nat.not_lt_zero _)) ?_
  first | refine ⟨fun z => absurd rfl z, fun _ => ?_⟩ | refine ⟨fun _ => ?_, fun z => absurd rfl z⟩
  exact done0 hA hI hF hM
theorem P0_bestMesh {μ ν : Mem} {a b : Int32} (h : Rel0 μ ν) : w_X6_bestMesh a b μ (fun x μ' => w_X7_bestMesh a b ν (fun y ν' => x = y ∧ RelA μ' ν')) := by
  obtain ⟨T, fp, sd, I, hA, hI, hF, hM⟩ := h
  unfold w_X6_bestMesh w_X7_bestMesh
  refine B_isPost hF ?_
  first | refine ⟨fun z => absurd rfl z, fun _ => ?_⟩ | refine ⟨fun _ => ?_, fun z => absurd rfl z⟩
  refine M_isPost_out hM hA.1 (fun p hp => absurd hp (Nat.not_lt_zero _)) ?_
  first | refine ⟨fun z => absurd rfl z, fun _ => ?_⟩ | refine ⟨fun _ => ?_, fun z => absurd rfl z⟩
  exact done0 hA hI hF hM
theorem P0_bestCell {μ ν : Mem} {a b : Int32} (h : Rel0 μ ν) : w_X6_bestCell a b μ (fun x μ' => w_X7_bestCell a b ν (fun y ν' => x = y ∧ RelA μ' ν')) := by
  obtain ⟨T, fp, sd, I, hA, hI, hF, hM⟩ := h
  unfold w_X6_bestCell w_X7_bestCell
  refine B_isPost hF ?_
  first | refine ⟨fun z => absurd rfl z, fun _ => ?_⟩ | refine ⟨fun _ => ?_, fun z => absurd rfl z⟩
  refine M_isPost_out hM hA.1 (fun p hp => absurd hp (Nat.not_lt_zero _)) ?_
  first | refine ⟨fun z => absurd rfl z, fun _ => ?_⟩ | refine ⟨fun _ => ?_, fun z => absurd rfl z⟩
  exact done0 hA hI hF hM
theorem P0_bestTwo {μ ν : Mem} {a b c : Int32} (h : Rel0 μ ν) : w_X6_bestTwo a b c μ (fun x μ' => w_X7_bestTwo a b c ν (fun y ν' => x = y ∧ RelA μ' ν')) := by
  obtain ⟨T, fp, sd, I, hA, hI, hF, hM⟩ := h
  unfold w_X6_bestTwo w_X7_bestTwo
  refine B_isPost hF ?_
  first | refine ⟨fun z => absurd rfl z, fun _ => ?_⟩ | refine ⟨fun _ => ?_, fun z => absurd rfl z⟩
  refine M_isPost_out hM hA.1 (fun p hp => absurd hp (Nat.not_lt_zero _)) ?_
  first | refine ⟨fun z => absurd rfl z, fun _ => ?_⟩ | refine ⟨fun _ => ?_, fun z => absurd rfl z⟩
  exact done0 hA hI hF hM
theorem P0_got {μ ν : Mem} {a b c : Int32} (h : Rel0 μ ν) : w_X6_got a b c μ (fun x μ' => w_X7_got a b c ν (fun y ν' => x = y ∧ RelA μ' ν')) := by
  obtain ⟨T, fp, sd, I, hA, hI, hF, hM⟩ := h
  unfold w_X6_got w_X7_got
  refine B_isPost hF ?_
  first | refine ⟨fun z => absurd rfl z, fun _ => ?_⟩ | refine ⟨fun _ => ?_, fun z => absurd rfl z⟩
  refine M_isPost_out hM hA.1 (fun p hp => absurd hp (Nat.not_lt_zero _)) ?_
  first | refine ⟨fun z => absurd rfl z, fun _ => ?_⟩ | refine ⟨fun _ => ?_, fun z => absurd rfl z⟩
  exact done0 hA hI hF hM
theorem P0_needs {μ ν : Mem} {a b c : Int32} (h : Rel0 μ ν) : w_X6_needs a b c μ (fun x μ' => w_X7_needs a b c ν (fun y ν' => x = y ∧ RelA μ' ν')) := by
  obtain ⟨T, fp, sd, I, hA, hI, hF, hM⟩ := h
  unfold w_X6_needs w_X7_needs
  refine B_isPost hF ?_
  first | refine ⟨fun z => absurd rfl z, fun _ => ?_⟩ | refine ⟨fun _ => ?_, fun z => absurd rfl z⟩
  refine M_isPost_out hM hA.1 (fun p hp => absurd hp (Nat.not_lt_zero _)) ?_
  first | refine ⟨fun z => absurd rfl z, fun _ => ?_⟩ | refine ⟨fun _ => ?_, fun z => absurd rfl z⟩
  exact done0 hA hI hF hM
theorem P0_write {μ ν : Mem} {a b : Int32} (h : Rel0 μ ν) : w_X6_write a b μ (fun x μ' => w_X7_write a b ν (fun y ν' => x = y ∧ RelA μ' ν')) := by
  obtain ⟨T, fp, sd, I, hA, hI, hF, hM⟩ := h
  unfold w_X6_write w_X7_write
  refine B_isPost hF ?_
  first | refine ⟨fun z => absurd rfl z, fun _ => ?_⟩ | refine ⟨fun _ => ?_, fun z => absurd rfl z⟩
  refine M_isPost_out hM hA.1 (fun p hp => absurd hp (Nat.not_lt_zero _)) ?_
  first | refine ⟨fun z => absurd rfl z, fun _ => ?_⟩ | refine ⟨fun _ => ?_, fun z => absurd rfl z⟩
  exact done0 hA hI hF hM
theorem P0_post {μ ν : Mem} {a b : Int32} (h : Rel0 μ ν) : w_X6_post a b μ (fun x => w_X7_post a b ν (fun y => x = y)) := by
  obtain ⟨T, fp, sd, I, hA, hI, hF, hM⟩ := h
  unfold w_X6_post w_X7_post
  refine B_isPost hF ?_
  first | refine ⟨fun z => absurd rfl z, fun _ => ?_⟩ | refine ⟨fun _ => ?_, fun z => absurd rfl z⟩
  refine M_isPost_out hM hA.1 (fun p hp => absurd hp (Nat.not_lt_zero _)) ?_
  first | refine ⟨fun z => absurd rfl z, fun _ => ?_⟩ | refine ⟨fun _ => ?_, fun z => absurd rfl z⟩
  rfl
theorem P0_hour {μ ν : Mem} {a : Int32} (h : Rel0 μ ν) : w_X6_hour a μ (fun x μ' => w_X7_hour a ν (fun y ν' => x = y ∧ RelA μ' ν')) := by
  obtain ⟨T, fp, sd, I, hA, hI, hF, hM⟩ := h
  unfold w_X6_hour w_X7_hour
  rcases z_cases a 1 60 (by decide) (by decide) with ⟨x, h1, h2, rfl⟩ | ho
  · refine W_in h1 h2 (by decide) ?_
    first | refine ⟨fun z => absurd z (by decide), fun _ => ?_⟩ | refine ⟨fun _ => ?_, fun z => absurd z (by decide)⟩
    refine B_isBare hF ?_
    first | refine ⟨fun z => absurd z (by decide), fun _ => ?_⟩ | refine ⟨fun _ => ?_, fun z => absurd z (by decide)⟩
    refine MW_in h1 h2 (by decide) ?_
    refine M_need1 hM ?_
    rw [if_pos (show co0 0 0 = 0 from rfl)]
    exact ⟨fun z => absurd z (by decide), fun _ => done0 hA hI hF hM⟩
  · refine F_within0 ho ?_
    first | refine ⟨fun z => absurd rfl z, fun _ => ?_⟩ | refine ⟨fun _ => ?_, fun z => absurd rfl z⟩
    refine MW_out ho ?_
    refine M_need0 ?_
    exact ⟨fun z => absurd z (by decide), fun _ => done0 hA hI hF hM⟩
theorem P0_drift {μ ν : Mem} {a : Int32} (h : Rel0 μ ν) : w_X6_drift a μ (fun x μ' => w_X7_drift a ν (fun y ν' => x = y ∧ RelA μ' ν')) := by
  obtain ⟨T, fp, sd, I, hA, hI, hF, hM⟩ := h
  unfold w_X6_drift w_X7_drift
  rcases z_cases a 1 60 (by decide) (by decide) with ⟨x, h1, h2, rfl⟩ | ho
  · refine W_in h1 h2 (by decide) ?_
    first | refine ⟨fun z => absurd z (by decide), fun _ => ?_⟩ | refine ⟨fun _ => ?_, fun z => absurd z (by decide)⟩
    refine B_isBare hF ?_
    first | refine ⟨fun z => absurd z (by decide), fun _ => ?_⟩ | refine ⟨fun _ => ?_, fun z => absurd z (by decide)⟩
    refine MW_in h1 h2 (by decide) ?_
    refine M_need1 hM ?_
    rw [if_pos (show co0 0 0 = 0 from rfl)]
    exact ⟨fun z => absurd z (by decide), fun _ => done0 hA hI hF hM⟩
  · refine F_within0 ho ?_
    first | refine ⟨fun z => absurd rfl z, fun _ => ?_⟩ | refine ⟨fun _ => ?_, fun z => absurd rfl z⟩
    refine MW_out ho ?_
    refine M_need0 ?_
    exact ⟨fun z => absurd z (by decide), fun _ => done0 hA hI hF hM⟩
theorem P0_apart {μ ν : Mem} {a : Int32} (h : Rel0 μ ν) : w_X6_apart a μ (fun x => w_X7_apart a ν (fun y => x = y)) := by
  obtain ⟨T, fp, sd, I, hA, hI, hF, hM⟩ := h
  unfold w_X6_apart w_X7_apart
  rcases z_cases a 0 99 (by decide) (by decide) with ⟨x, h1, h2, rfl⟩ | ho
  · refine W_in h1 h2 (by decide) ?_
    first | refine ⟨fun z => absurd z (by decide), fun _ => ?_⟩ | refine ⟨fun _ => ?_, fun z => absurd z (by decide)⟩
    refine B_isBare hF ?_
    first | refine ⟨fun z => absurd z (by decide), fun _ => ?_⟩ | refine ⟨fun _ => ?_, fun z => absurd z (by decide)⟩
    refine MW_in h1 h2 (by decide) ?_
    refine M_need1 hM ?_
    rw [if_pos (show co0 0 0 = 0 from rfl)]
    exact ⟨fun z => absurd z (by decide), fun _ => rfl⟩
  · refine F_within0 ho ?_
    first | refine ⟨fun z => absurd rfl z, fun _ => ?_⟩ | refine ⟨fun _ => ?_, fun z => absurd rfl z⟩
    refine MW_out ho ?_
    refine M_need0 ?_
    exact ⟨fun z => absurd z (by decide), fun _ => rfl⟩
theorem P0_thick {μ ν : Mem} {a : Int32} (h : Rel0 μ ν) : w_X6_thick a μ (fun x μ' => w_X7_thick a ν (fun y ν' => x = y ∧ RelA μ' ν')) := by
  obtain ⟨T, fp, sd, I, hA, hI, hF, hM⟩ := h
  unfold w_X6_thick w_X7_thick
  rcases z_cases a 0 2 (by decide) (by decide) with ⟨x, h1, h2, rfl⟩ | ho
  · refine W_in h1 h2 (by decide) ?_
    first | refine ⟨fun z => absurd z (by decide), fun _ => ?_⟩ | refine ⟨fun _ => ?_, fun z => absurd z (by decide)⟩
    refine B_isBare hF ?_
    first | refine ⟨fun z => absurd z (by decide), fun _ => ?_⟩ | refine ⟨fun _ => ?_, fun z => absurd z (by decide)⟩
    refine MW_in h1 h2 (by decide) ?_
    refine M_need1 hM ?_
    rw [if_pos (show co0 0 0 = 0 from rfl)]
    exact ⟨fun z => absurd z (by decide), fun _ => done0 hA hI hF hM⟩
  · refine F_within0 ho ?_
    first | refine ⟨fun z => absurd rfl z, fun _ => ?_⟩ | refine ⟨fun _ => ?_, fun z => absurd rfl z⟩
    refine MW_out ho ?_
    refine M_need0 ?_
    exact ⟨fun z => absurd z (by decide), fun _ => done0 hA hI hF hM⟩
theorem P0_lampCosts {μ ν : Mem} {a : Int32} (h : Rel0 μ ν) : w_X6_lampCosts a μ (fun x μ' => w_X7_lampCosts a ν (fun y ν' => x = y ∧ RelA μ' ν')) := by
  obtain ⟨T, fp, sd, I, hA, hI, hF, hM⟩ := h
  unfold w_X6_lampCosts w_X7_lampCosts
  rcases z_cases a 0 99 (by decide) (by decide) with ⟨x, h1, h2, rfl⟩ | ho
  · refine W_in h1 h2 (by decide) ?_
    first | refine ⟨fun z => absurd z (by decide), fun _ => ?_⟩ | refine ⟨fun _ => ?_, fun z => absurd z (by decide)⟩
    refine B_isBare hF ?_
    first | refine ⟨fun z => absurd z (by decide), fun _ => ?_⟩ | refine ⟨fun _ => ?_, fun z => absurd z (by decide)⟩
    refine MW_in h1 h2 (by decide) ?_
    refine M_need1 hM ?_
    rw [if_pos (show co0 0 0 = 0 from rfl)]
    exact ⟨fun z => absurd z (by decide), fun _ => done0 hA hI hF hM⟩
  · refine F_within0 ho ?_
    first | refine ⟨fun z => absurd rfl z, fun _ => ?_⟩ | refine ⟨fun _ => ?_, fun z => absurd rfl z⟩
    refine MW_out ho ?_
    refine M_need0 ?_
    exact ⟨fun z => absurd z (by decide), fun _ => done0 hA hI hF hM⟩
theorem P0_lookAt {μ ν : Mem} {a : Int32} (h : Rel0 μ ν) : w_X6_lookAt a μ (fun x μ' => w_X7_lookAt a ν (fun y ν' => x = y ∧ RelA μ' ν')) := by
  obtain ⟨T, fp, sd, I, hA, hI, hF, hM⟩ := h
  unfold w_X6_lookAt w_X7_lookAt w_X7_isSide
  rcases z_cases a 0 1 (by decide) (by decide) with ⟨x, h1, h2, rfl⟩ | ho
  · refine W_in h1 h2 (by decide) ?_
    first | refine ⟨fun z => absurd z (by decide), fun _ => ?_⟩ | refine ⟨fun _ => ?_, fun z => absurd z (by decide)⟩
    refine B_isBare hF ?_
    first | refine ⟨fun z => absurd z (by decide), fun _ => ?_⟩ | refine ⟨fun _ => ?_, fun z => absurd z (by decide)⟩
    refine MW_in h1 h2 (by decide) ?_
    refine ⟨Or.inr rfl, ?_⟩
    refine M_need1 hM ?_
    rw [if_pos (show co0 0 0 = 0 from rfl)]
    exact ⟨fun z => absurd z (by decide), fun _ => done0 hA hI hF hM⟩
  · refine F_within0 ho ?_
    first | refine ⟨fun z => absurd rfl z, fun _ => ?_⟩ | refine ⟨fun _ => ?_, fun z => absurd rfl z⟩
    refine MW_out ho ?_
    refine ⟨Or.inl rfl, ?_⟩
    refine M_need0 ?_
    exact ⟨fun z => absurd z (by decide), fun _ => done0 hA hI hF hM⟩
theorem P0_carry {μ ν : Mem} {a : Int32} (h : Rel0 μ ν) : w_X6_carry a μ (fun x μ' => w_X7_carry a ν (fun y ν' => x = y ∧ RelA μ' ν')) := by
  obtain ⟨T, fp, sd, I, hA, hI, hF, hM⟩ := h
  have e17 : ν.1 0 17 = nI 0 := hM.1.1.1
  unfold w_X6_carry w_X7_carry
  rcases z_cases a 0 1 (by decide) (by decide) with ⟨x, h1, h2, rfl⟩ | ho
  · refine F_isVillage_in (by omega) ?_
    first | refine ⟨fun z => absurd z (by decide), fun _ => ?_⟩ | refine ⟨fun _ => ?_, fun z => absurd z (by decide)⟩
    refine B_isBare hF ?_
    first | refine ⟨fun z => absurd z (by decide), fun _ => ?_⟩ | refine ⟨fun _ => ?_, fun z => absurd z (by decide)⟩
    refine M_isVillage_in (by omega) ?_
    first | refine ⟨fun z => absurd z (by decide), fun _ => ?_⟩ | refine ⟨fun _ => ?_, fun z => absurd z (by decide)⟩
    rw [e17]
    first | refine ⟨fun z => absurd rfl z, fun _ => ?_⟩ | refine ⟨fun _ => ?_, fun z => absurd rfl z⟩
    exact done0 hA hI hF hM
  · refine F_isVillage_out ho ?_
    first | refine ⟨fun z => absurd rfl z, fun _ => ?_⟩ | refine ⟨fun _ => ?_, fun z => absurd rfl z⟩
    refine M_isVillage_out ho ?_
    first | refine ⟨fun z => absurd rfl z, fun _ => ?_⟩ | refine ⟨fun _ => ?_, fun z => absurd rfl z⟩
    exact done0 hA hI hF hM
theorem P0_thirsty {μ ν : Mem} {a : Int32} (h : Rel0 μ ν) : w_X6_thirsty a μ (fun x μ' => w_X7_thirsty a ν (fun y ν' => x = y ∧ RelA μ' ν')) := by
  obtain ⟨T, fp, sd, I, hA, hI, hF, hM⟩ := h
  have e17 : ν.1 0 17 = nI 0 := hM.1.1.1
  unfold w_X6_thirsty w_X7_thirsty
  rcases z_cases a 0 1 (by decide) (by decide) with ⟨x, h1, h2, rfl⟩ | ho
  · refine F_isVillage_in (by omega) ?_
    first | refine ⟨fun z => absurd z (by decide), fun _ => ?_⟩ | refine ⟨fun _ => ?_, fun z => absurd z (by decide)⟩
    refine B_isBare hF ?_
    first | refine ⟨fun z => absurd z (by decide), fun _ => ?_⟩ | refine ⟨fun _ => ?_, fun z => absurd z (by decide)⟩
    refine M_isVillage_in (by omega) ?_
    first | refine ⟨fun z => absurd z (by decide), fun _ => ?_⟩ | refine ⟨fun _ => ?_, fun z => absurd z (by decide)⟩
    rw [e17]
    first | refine ⟨fun z => absurd rfl z, fun _ => ?_⟩ | refine ⟨fun _ => ?_, fun z => absurd rfl z⟩
    exact done0 hA hI hF hM
  · refine F_isVillage_out ho ?_
    first | refine ⟨fun z => absurd rfl z, fun _ => ?_⟩ | refine ⟨fun _ => ?_, fun z => absurd rfl z⟩
    refine M_isVillage_out ho ?_
    first | refine ⟨fun z => absurd rfl z, fun _ => ?_⟩ | refine ⟨fun _ => ?_, fun z => absurd rfl z⟩
    exact done0 hA hI hF hM
theorem P0_lamp {μ ν : Mem} {a : Int32} (h : Rel0 μ ν) : w_X6_lamp a μ (fun x μ' => w_X7_lamp a ν (fun y ν' => x = y ∧ RelA μ' ν')) := by
  obtain ⟨T, fp, sd, I, hA, hI, hF, hM⟩ := h
  have e17 : ν.1 0 17 = nI 0 := hM.1.1.1
  unfold w_X6_lamp w_X7_lamp
  refine B_isBare hF ?_
  first | refine ⟨fun z => absurd z (by decide), fun _ => ?_⟩ | refine ⟨fun _ => ?_, fun z => absurd z (by decide)⟩
  rw [e17]
  first | refine ⟨fun z => absurd rfl z, fun _ => ?_⟩ | refine ⟨fun _ => ?_, fun z => absurd rfl z⟩
  exact done0 hA hI hF hM
theorem P0_left {μ ν : Mem} (h : Rel0 μ ν) : w_X6_left  μ (fun x μ' => w_X7_left  ν (fun y ν' => x = y ∧ RelA μ' ν')) := by
  obtain ⟨T, fp, sd, I, hA, hI, hF, hM⟩ := h
  have e17 : ν.1 0 17 = nI 0 := hM.1.1.1
  unfold w_X6_left w_X7_left
  refine B_isBare hF ?_
  first | refine ⟨fun z => absurd z (by decide), fun _ => ?_⟩ | refine ⟨fun _ => ?_, fun z => absurd z (by decide)⟩
  rw [e17]
  first | refine ⟨fun z => absurd rfl z, fun _ => ?_⟩ | refine ⟨fun _ => ?_, fun z => absurd rfl z⟩
  exact done0 hA hI hF hM
theorem P0_both {μ ν : Mem} (h : Rel0 μ ν) : w_X6_both  μ (fun x => w_X7_both  ν (fun y => x = y)) := by
  obtain ⟨T, fp, sd, I, hA, hI, hF, hM⟩ := h
  have e17 : ν.1 0 17 = nI 0 := hM.1.1.1
  unfold w_X6_both w_X7_both
  refine B_isBare hF ?_
  first | refine ⟨fun z => absurd z (by decide), fun _ => ?_⟩ | refine ⟨fun _ => ?_, fun z => absurd z (by decide)⟩
  rw [e17]
  first | refine ⟨fun z => absurd rfl z, fun _ => ?_⟩ | refine ⟨fun _ => ?_, fun z => absurd rfl z⟩
  rfl
theorem P0_goat {μ ν : Mem} {a b : Int32} (h : Rel0 μ ν) : w_X6_goat a b μ (fun x => w_X7_goat a b ν (fun y => x = y)) := by
  obtain ⟨T, fp, sd, I, hA, hI, hF, hM⟩ := h
  have e22 : ν.1 0 22 = nI 0 := hM.1.1.2.2.2.2.2
  unfold w_X6_goat w_X7_goat
  refine B_isGoat hF ?_
  first | refine ⟨fun z => absurd rfl z, fun _ => ?_⟩ | refine ⟨fun _ => ?_, fun z => absurd rfl z⟩
  rw [e22]
  refine MW_upto_out (n := 0) (fun p hp => absurd hp (Nat.not_lt_zero _)) (by decide) ?_
  first | refine ⟨fun z => absurd rfl z, fun _ => ?_⟩ | refine ⟨fun _ => ?_, fun z => absurd rfl z⟩
  rfl
theorem P0_yards {μ ν : Mem} {a b : Int32} (h : Rel0 μ ν) : w_X6_yards a b μ (fun x => w_X7_yards a b ν (fun y => x = y)) := by
  obtain ⟨T, fp, sd, I, hA, hI, hF, hM⟩ := h
  have e22 : ν.1 0 22 = nI 0 := hM.1.1.2.2.2.2.2
  unfold w_X6_yards w_X7_yards
  refine B_isGoat hF ?_
  first | refine ⟨fun z => absurd rfl z, fun _ => ?_⟩ | refine ⟨fun _ => ?_, fun z => absurd rfl z⟩
  rw [e22]
  refine MW_upto_out (n := 0) (fun p hp => absurd hp (Nat.not_lt_zero _)) (by decide) ?_
  first | refine ⟨fun z => absurd rfl z, fun _ => ?_⟩ | refine ⟨fun _ => ?_, fun z => absurd rfl z⟩
  rfl
theorem P0_fault {μ ν : Mem} (h : Rel0 μ ν) : w_X6_fault  μ (fun x => w_X7_fault  ν (fun y => x = y)) := by
  obtain ⟨T, fp, sd, I, hA, hI, hF, hM⟩ := h
  unfold w_X6_fault w_X7_fault
  rw [hF.2.2.2.2.2.2.1, hM.2.2.2.2.1]
theorem P0_told {μ ν : Mem} {a : Int32} (h : Rel0 μ ν) : w_X6_told a μ (fun x => w_X7_told a ν (fun y => x = y)) := by
  obtain ⟨T, fp, sd, I, hA, hI, hF, hM⟩ := h
  rcases z_cases a 0 15 (by decide) (by decide) with ⟨k, h1, h2, rfl⟩ | ho
  · rcases (by omega : k = 0 ∨ k = 1 ∨ k = 2 ∨ k = 3 ∨ k = 4 ∨ k = 5 ∨ k = 6 ∨ k = 7 ∨ k = 8 ∨ k = 9 ∨ k = 10 ∨ k = 11 ∨ k = 12 ∨ k = 13 ∨ k = 14 ∨ k = 15) with rfl | rfl | rfl | rfl | rfl | rfl | rfl | rfl | rfl | rfl | rfl | rfl | rfl | rfl | rfl | rfl
    · have key : ∀ Q : Int32 → Prop, Q (nI 0) → w_X6_told (nI 0) μ Q := by
        intro Q hq
        unfold w_X6_told
        repeat (first | refine ⟨fun _ => ?_, fun z => absurd rfl z⟩ | refine ⟨fun z => absurd z (by decide), fun _ => ?_⟩)
        rw [hF.1.1, hF.2.1.1.1]
        exact hq
      exact key _ (M_told_0 hA hM rfl)
    · have key : ∀ Q : Int32 → Prop, Q (nI 0) → w_X6_told (nI 1) μ Q := by
        intro Q hq
        unfold w_X6_told
        repeat (first | refine ⟨fun _ => ?_, fun z => absurd rfl z⟩ | refine ⟨fun z => absurd z (by decide), fun _ => ?_⟩)
        rw [hF.1.1, hF.2.1.1.2.1]
        exact hq
      exact key _ (M_told_1 hA hM rfl)
    · have key : ∀ Q : Int32 → Prop, Q (nI 0) → w_X6_told (nI 2) μ Q := by
        intro Q hq
        unfold w_X6_told
        repeat (first | refine ⟨fun _ => ?_, fun z => absurd rfl z⟩ | refine ⟨fun z => absurd z (by decide), fun _ => ?_⟩)
        unfold w_X0_hoursOfDay
        rw [hF.1.1, hF.2.1.1.1]
        exact ⟨fun z => absurd rfl z, fun _ => hq⟩
      exact key _ (M_told_2 hA hM rfl)
    · have key : ∀ Q : Int32 → Prop, Q (nI 0) → w_X6_told (nI 3) μ Q := by
        intro Q hq
        unfold w_X6_told
        repeat (first | refine ⟨fun _ => ?_, fun z => absurd rfl z⟩ | refine ⟨fun z => absurd z (by decide), fun _ => ?_⟩)
        rw [hF.1.1, hF.2.1.1.2.2.2.1]
        exact hq
      exact key _ (M_told_3 hA hM rfl)
    · have key : ∀ Q : Int32 → Prop, Q (nI 0) → w_X6_told (nI 4) μ Q := by
        intro Q hq
        unfold w_X6_told
        repeat (first | refine ⟨fun _ => ?_, fun z => absurd rfl z⟩ | refine ⟨fun z => absurd z (by decide), fun _ => ?_⟩)
        rw [hF.1.1, hF.2.1.1.2.2.2.2]
        exact hq
      exact key _ (M_told_4 hA hM rfl)
    · have key : ∀ Q : Int32 → Prop, Q (nI T.1) → w_X6_told (nI 5) μ Q := by
        intro Q hq
        unfold w_X6_told
        repeat (first | refine ⟨fun _ => ?_, fun z => absurd rfl z⟩ | refine ⟨fun z => absurd z (by decide), fun _ => ?_⟩)
        rw [hF.2.2.2.2.2.1.1]
        exact hq
      exact key _ (M_told_5 hA hM rfl)
    · have key : ∀ Q : Int32 → Prop, Q (nI 0) → w_X6_told (nI 6) μ Q := by
        intro Q hq
        unfold w_X6_told
        repeat (first | refine ⟨fun _ => ?_, fun z => absurd rfl z⟩ | refine ⟨fun z => absurd z (by decide), fun _ => ?_⟩)
        rw [hF.2.2.2.1.1.1]
        exact hq
      exact key _ (M_told_6 hA hM rfl)
    · have key : ∀ Q : Int32 → Prop, Q (nI 0) → w_X6_told (nI 7) μ Q := by
        intro Q hq
        unfold w_X6_told
        repeat (first | refine ⟨fun _ => ?_, fun z => absurd rfl z⟩ | refine ⟨fun z => absurd z (by decide), fun _ => ?_⟩)
        rw [hF.2.2.2.1.1.2.1]
        exact hq
      exact key _ (M_told_7 hA hM rfl)
    · have key : ∀ Q : Int32 → Prop, Q (nI 0) → w_X6_told (nI 8) μ Q := by
        intro Q hq
        unfold w_X6_told
        repeat (first | refine ⟨fun _ => ?_, fun z => absurd rfl z⟩ | refine ⟨fun z => absurd z (by decide), fun _ => ?_⟩)
        rw [hF.2.2.2.1.1.2.2.1]
        exact ⟨fun _ => hq, fun z => absurd rfl z⟩
      exact key _ (M_told_8 hA hM rfl)
    · have key : ∀ Q : Int32 → Prop, Q (nI 0) → w_X6_told (nI 9) μ Q := by
        intro Q hq
        unfold w_X6_told
        repeat (first | refine ⟨fun _ => ?_, fun z => absurd rfl z⟩ | refine ⟨fun z => absurd z (by decide), fun _ => ?_⟩)
        exact B_hanging hF hq
      exact key _ (M_told_9 hA hM rfl)
    · have key : ∀ Q : Int32 → Prop, Q (nI 0) → w_X6_told (nI 10) μ Q := by
        intro Q hq
        unfold w_X6_told
        repeat (first | refine ⟨fun _ => ?_, fun z => absurd rfl z⟩ | refine ⟨fun z => absurd z (by decide), fun _ => ?_⟩)
        exact F_inJars (co := fun i j => if i = 0 ∧ j = 3 then 6 else 0) hF.2.2.2.1 (by decide) (fun p hp => Nat.zero_le _) hq
      exact key _ (M_told_10 hA hM rfl)
    · have key : ∀ Q : Int32 → Prop, Q (nI 0) → w_X6_told (nI 11) μ Q := by
        intro Q hq
        unfold w_X6_told
        repeat (first | refine ⟨fun _ => ?_, fun z => absurd rfl z⟩ | refine ⟨fun z => absurd z (by decide), fun _ => ?_⟩)
        rw [hF.2.2.2.1.1.2.2.2.1]
        exact hq
      exact key _ (M_told_11 hA hM rfl)
    · have key : ∀ Q : Int32 → Prop, Q (nI 0) → w_X6_told (nI 12) μ Q := by
        intro Q hq
        unfold w_X6_told
        repeat (first | refine ⟨fun _ => ?_, fun z => absurd rfl z⟩ | refine ⟨fun z => absurd z (by decide), fun _ => ?_⟩)
        rw [hF.2.2.2.1.1.2.2.2.2]
        exact hq
      exact key _ (M_told_12 hA hM rfl)
    · have key : ∀ Q : Int32 → Prop, Q (nI 0) → w_X6_told (nI 13) μ Q := by
        intro Q hq
        unfold w_X6_told
        repeat (first | refine ⟨fun _ => ?_, fun z => absurd rfl z⟩ | refine ⟨fun z => absurd z (by decide), fun _ => ?_⟩)
        rw [hF.2.2.2.2.2.2.2.2.2.1]
        exact hq
      exact key _ (M_told_13 hA hM rfl)
    · have key : ∀ Q : Int32 → Prop, Q (nI 0) → w_X6_told (nI 14) μ Q := by
        intro Q hq
        unfold w_X6_told
        repeat (first | refine ⟨fun _ => ?_, fun z => absurd rfl z⟩ | refine ⟨fun z => absurd z (by decide), fun _ => ?_⟩)
        rw [hF.2.2.2.2.2.2.2.2.2.2]
        exact hq
      exact key _ (M_told_14 hA hM rfl)
    · have key : ∀ Q : Int32 → Prop, Q (nI 0) → w_X6_told (nI 15) μ Q := by
        intro Q hq
        unfold w_X6_told
        repeat (first | refine ⟨fun _ => ?_, fun z => absurd rfl z⟩ | refine ⟨fun z => absurd z (by decide), fun _ => ?_⟩)
        obtain ⟨_, _, _, e, _⟩ := hF.2.2.2.2.1
        rw [e]
        exact hq
      exact key _ (M_told_15 hA hM rfl)
  · have hn := fun k hk => outs_ne (by decide) ho k (Nat.zero_le _) hk
    exact F_told_out hn (M_told_out hn rfl)
theorem P0_village {μ ν : Mem} {a b : Int32} (h : Rel0 μ ν) : w_X6_village a b μ (fun x => w_X7_village a b ν (fun y => x = y)) := by
  obtain ⟨T, fp, sd, I, hA, hI, hF, hM⟩ := h
  rcases z_cases a 0 1 (by decide) (by decide) with ⟨v, v1, v2, rfl⟩ | ho
  · rcases z_cases b 0 4 (by decide) (by decide) with ⟨k, h1, h2, rfl⟩ | hb
    · rcases (by omega : k = 0 ∨ k = 1 ∨ k = 2 ∨ k = 3 ∨ k = 4) with rfl | rfl | rfl | rfl | rfl
      · unfold w_X6_village
        refine F_isVillage_in (by omega) ⟨fun _ => ?_, fun z => absurd z (by decide)⟩
        repeat (first | refine ⟨fun _ => ?_, fun z => absurd rfl z⟩ | refine ⟨fun z => absurd z (by decide), fun _ => ?_⟩)
        rw [hF.1.1]
        refine F_at (n := 2) (by decide) (by decide) (by omega) ?_
        rw [(hF.2.1.2 v (by omega)).1]
        exact M_village_0 hA hM (by omega) rfl
      · unfold w_X6_village
        refine F_isVillage_in (by omega) ⟨fun _ => ?_, fun z => absurd z (by decide)⟩
        repeat (first | refine ⟨fun _ => ?_, fun z => absurd rfl z⟩ | refine ⟨fun z => absurd z (by decide), fun _ => ?_⟩)
        rw [hF.1.1]
        refine F_at (n := 2) (by decide) (by decide) (by omega) ?_
        rw [(hF.2.1.2 v (by omega)).2]
        exact M_village_1 hA hM (by omega) rfl
      · unfold w_X6_village
        refine F_isVillage_in (by omega) ⟨fun _ => ?_, fun z => absurd z (by decide)⟩
        repeat (first | refine ⟨fun _ => ?_, fun z => absurd rfl z⟩ | refine ⟨fun z => absurd z (by decide), fun _ => ?_⟩)
        refine F_at (n := 2) (by decide) (by decide) (by omega) ?_
        rw [(hF.2.2.2.1.2.2.2 v (by omega)).1]
        exact M_village_2 hA hM (by omega) rfl
      · unfold w_X6_village
        refine F_isVillage_in (by omega) ⟨fun _ => ?_, fun z => absurd z (by decide)⟩
        repeat (first | refine ⟨fun _ => ?_, fun z => absurd rfl z⟩ | refine ⟨fun z => absurd z (by decide), fun _ => ?_⟩)
        refine F_at (n := 2) (by decide) (by decide) (by omega) ?_
        rw [(hF.2.2.2.1.2.2.2 v (by omega)).2]
        exact M_village_3 hA hM (by omega) rfl
      · unfold w_X6_village
        refine F_isVillage_in (by omega) ⟨fun _ => ?_, fun z => absurd z (by decide)⟩
        repeat (first | refine ⟨fun _ => ?_, fun z => absurd rfl z⟩ | refine ⟨fun z => absurd z (by decide), fun _ => ?_⟩)
        exact B_postsOf hF (M_village_4 hA hM (by omega) rfl)
    · have hn := fun k hk => outs_ne (by decide) hb k (Nat.zero_le _) hk
      unfold w_X6_village w_X7_village
      refine F_isVillage_in (by omega) ⟨fun _ => ⟨fun z => absurd z (hn 0 (by decide)), fun _ => ⟨fun z => absurd z (hn 1 (by decide)), fun _ => ⟨fun z => absurd z (hn 2 (by decide)), fun _ => ⟨fun z => absurd z (hn 3 (by decide)), fun _ => ⟨fun z => absurd z (hn 4 (by decide)), fun _ => ?_⟩⟩⟩⟩⟩, fun z => absurd z (by decide)⟩
      exact M_isVillage_in (by omega) ⟨fun _ => ⟨fun z => absurd z (hn 0 (by decide)), fun _ => ⟨fun z => absurd z (hn 1 (by decide)), fun _ => ⟨fun z => absurd z (hn 2 (by decide)), fun _ => ⟨fun z => absurd z (hn 3 (by decide)), fun _ => ⟨fun z => absurd z (hn 4 (by decide)), fun _ => rfl⟩⟩⟩⟩⟩, fun z => absurd z (by decide)⟩
  · unfold w_X6_village w_X7_village
    refine F_isVillage_out ho ⟨fun z => absurd (by decide) z, fun _ => ?_⟩
    exact M_isVillage_out ho ⟨fun z => absurd (by decide) z, fun _ => rfl⟩
theorem P0_fog {μ ν : Mem} {a b : Int32} (h : Rel0 μ ν) : w_X6_fog a b μ (fun x => w_X7_fog a b ν (fun y => x = y)) := by
  obtain ⟨T, fp, sd, I, hA, hI, hF, hM⟩ := h
  have e2 := hF.2.1.1.2.2.1
  have e21 : ν.1 0 21 = nI 0 := hM.1.1.2.2.2.2.1
  unfold w_X6_fog w_X7_fog
  rw [hF.1.1, e2, e21]
  by_cases ha : a = -1
  · refine ⟨fun _ => ?_, fun z => absurd ha z⟩
    unfold w_X6_fog_25
    rcases z_cases b 0 1 (by decide) (by decide) with ⟨w, h1, h2, rfl⟩ | hb
    · refine W_in h1 h2 (by decide) ⟨fun _ => ⟨fun z => absurd ha z, fun _ => B_isBare hF ?_⟩, fun z => absurd z (by decide)⟩
      refine ⟨fun z => absurd z (by decide), fun _ => ?_⟩
      refine MW_in h1 h2 (by decide) ⟨fun z => absurd z (by decide), fun _ => ⟨fun _ => ?_, fun z => absurd ha z⟩⟩
      unfold w_X7_fog_31
      rw [show ν.1 0 17 = nI 0 from hM.1.1.1]
      exact ⟨fun _ => ⟨fun z => absurd (by decide) z, fun _ => rfl⟩, fun z => absurd ha z⟩
    · refine F_within0 hb ⟨fun z => absurd (by decide) z, fun _ => ?_⟩
      exact MW_out hb ⟨fun _ => rfl, fun z => absurd (by decide) z⟩
  · refine ⟨fun z => absurd z ha, fun _ => ?_⟩
    refine W_upto_out (n := 0) (fun p hp => absurd hp (Nat.not_lt_zero _)) (by decide) ⟨fun z => absurd (by decide) z, fun _ => ?_⟩
    rcases z_cases b 0 1 (by decide) (by decide) with ⟨w, h1, h2, rfl⟩ | hb
    · refine MW_in h1 h2 (by decide) ⟨fun z => absurd z (by decide), fun _ => ⟨fun z => absurd z ha, fun _ => ?_⟩⟩
      exact MW_upto_out (n := 0) (fun p hp => absurd hp (Nat.not_lt_zero _)) (by decide) ⟨fun z => absurd (by decide) z, fun _ => rfl⟩
    · exact MW_out hb ⟨fun _ => rfl, fun z => absurd (by decide) z⟩
theorem P0_undo {μ ν : Mem} {a : Int32} (h : Rel0 μ ν) : w_X6_undo a μ (fun x μ' => w_X7_undo a ν (fun y ν' => x = y ∧ RelA μ' ν')) := by
  obtain ⟨T, fp, sd, I, hA, hI, hF, hM⟩ := h
  obtain ⟨_, _, _, e2, _⟩ := hF.2.2.2.2.1
  obtain ⟨_, _, _, e32, _⟩ := hM.2.2.1
  have e2 : μ.1 41 2 = nI 0 := e2
  have e32 : ν.1 0 32 = nI 0 := e32
  unfold w_X6_undo w_X7_undo
  rw [e2, e32]
  rcases z_cases a 1 30 (by decide) (by decide) with ⟨x, h1, h2, rfl⟩ | ho
  · refine W_in h1 h2 (by decide) ⟨fun _ => ?_, fun z => absurd z (by decide)⟩
    rw [z_le (by omega) (by decide)]
    refine ⟨fun z => by omega, fun _ => ?_⟩
    refine MW_in h1 h2 (by decide) ⟨fun _ => ?_, fun z => absurd z (by decide)⟩
    exact ⟨fun z => by omega, fun _ => done0 hA hI hF hM⟩
  · refine F_within0 ho ⟨fun z => absurd (by decide) z, fun _ => ?_⟩
    exact MW_out ho ⟨fun z => absurd (by decide) z, fun _ => done0 hA hI hF hM⟩
theorem P0_lasts {μ ν : Mem} {a : Int32} (h : Rel0 μ ν) : w_X6_lasts a μ (fun x => w_X7_lasts a ν (fun y => x = y)) := by
  obtain ⟨T, fp, sd, I, hA, hI, hF, hM⟩ := h
  unfold w_X6_lasts w_X7_lasts
  rcases z_cases a 0 1 (by decide) (by decide) with ⟨v, h1, h2, rfl⟩ | ho
  · have e13 : ν.1 13 v = nI 0 := (hM.1.2.2.2.1 v (by omega)).2
    refine F_isVillage_in (by omega) ⟨fun _ => ?_, fun z => absurd z (by decide)⟩
    rw [hF.1.1]
    refine F_at (n := 2) (by decide) (by decide) (by omega) ?_
    rw [(hF.2.1.2 v (by omega)).2]
    refine ⟨fun z => absurd z (by decide), fun _ => ?_⟩
    refine M_isVillage_in (by omega) ⟨fun _ => ?_, fun z => absurd z (by decide)⟩
    unfold w_X7_lasts_40
    simp (disch := omega) only [z_le, z_lt, z_eq, z_lt0, z_0le, z_eq0, z_le0, z_0lt, z_cl, z_in, z_add, z_mul, z_m1ne, z_m1ne', z_m1lt0, z_m1lt, z_ltm1, forall_eq, true_implies, false_implies, implies_true, true_and, and_true, false_and, and_false, not_true_eq_false, not_false_eq_true, ite_true, ite_false, e13]
    omega
  · refine F_isVillage_out ho ⟨fun z => absurd (by decide) z, fun _ => ?_⟩
    exact M_isVillage_out ho ⟨fun z => absurd (by decide) z, fun _ => rfl⟩
theorem P0_share {μ ν : Mem} {a b : Int32} (h : Rel0 μ ν) : w_X6_share a b μ (fun x => w_X7_share a b ν (fun y => x = y)) := by
  obtain ⟨T, fp, sd, I, hA, hI, hF, hM⟩ := h
  have e3 := hF.2.1.1.2.2.2.1
  have e20 : ν.1 0 20 = nI 0 := hM.1.1.2.2.2.1
  unfold w_X6_share w_X7_share
  rcases z_cases b 0 1 (by decide) (by decide) with ⟨v, v1, v2, rfl⟩ | hb
  · refine F_isVillage_in (by omega) ⟨fun _ => ?_, fun z => absurd z (by decide)⟩
    rcases z_cases a 0 999 (by decide) (by decide) with ⟨x, h1, h2, rfl⟩ | ho
    · refine W_in h1 h2 (by decide) ⟨fun _ => ?_, fun z => absurd z (by decide)⟩
      intro x6 hx6
      rw [hF.1.1, e3] at hx6
      subst hx6
      refine ⟨fun z => absurd z (by decide), fun _ => ?_⟩
      refine M_isVillage_in (by omega) ⟨fun _ => MW_in h1 h2 (by decide) ⟨fun _ => ?_, fun z => absurd z (by decide)⟩, fun z => absurd z (by decide)⟩
      rw [e20]
      exact ⟨fun z => absurd rfl z, fun _ => rfl⟩
    · refine F_within0 ho ⟨fun z => absurd (by decide) z, fun _ => ?_⟩
      exact M_isVillage_in (by omega) ⟨fun _ => MW_out ho ⟨fun z => absurd (by decide) z, fun _ => rfl⟩, fun z => absurd z (by decide)⟩
  · refine F_isVillage_out hb ⟨fun z => absurd (by decide) z, fun _ => ?_⟩
    exact M_isVillage_out hb ⟨fun z => absurd (by decide) z, fun _ => rfl⟩
theorem P0_judge {μ ν : Mem} (h : Rel0 μ ν) : w_X6_judge  μ (fun x => w_X7_judge  ν (fun y => x = y)) := by
  obtain ⟨T, fp, sd, I, hA, hI, hF, hM⟩ := h
  unfold w_X6_judge w_X6_judge_2
  intro X hX
  apply hX
  unfold s_X6_judge_2
  rw [hF.2.2.2.2.2.2.2.2.2.2]
  refine ⟨fun _ => ?_, fun z => absurd (by decide) z⟩
  unfold w_X7_judge
  intro x1 e1
  rw [show ν.1 0 39 = nI 0 from hM.2.2.2.2.2.2.2.2.1] at e1
  unfold w_X7_judge_9
  intro Y hY
  apply hY
  unfold s_X7_judge_9
  subst e1
  exact ⟨fun _ => rfl, fun z => absurd (by decide) z⟩
theorem P0_led {μ ν : Mem} {a b c : Int32} (h : Rel0 μ ν) : w_X6_led a b c μ (fun x μ' => w_X7_led a b c ν (fun y ν' => x = y ∧ RelA μ' ν')) := by
  obtain ⟨T, fp, sd, I, hA, hI, hF, hM⟩ := h
  have no : ∀ {Q : Int32 → Mem → Prop} {a b c : Int32}, Q (-1000000002) ν → w_X7_led_35 a b c ν Q := by
    intro Q a b c hq
    unfold w_X7_led_35 w_X7_led_36
    exact M_need0 ⟨fun z => absurd z (by decide), fun _ => hq⟩
  unfold w_X6_led w_X7_led
  rcases z_cases a 0 99 (by decide) (by decide) with ⟨x, a1, a2, rfl⟩ | ha
  · refine W_in a1 a2 (by decide) ⟨fun z => absurd z (by decide), fun _ => ?_⟩
    rcases z_cases b 0 1 (by decide) (by decide) with ⟨s, s1, s2, rfl⟩ | hb
    · refine W_in s1 s2 (by decide) ⟨fun z => absurd z (by decide), fun _ => ?_⟩
      rcases upto c x with ⟨i, hi, rfl⟩ | hc
      · refine W_upto_in hi (by omega) ⟨fun _ => B_isBare hF ?_, fun z => absurd z (by decide)⟩
        refine ⟨fun z => absurd z (by decide), fun _ => ?_⟩
        refine MW_in a1 a2 (by decide) ⟨fun z => absurd z (by decide), fun _ => MW_in s1 s2 (by decide) ⟨fun z => absurd z (by decide), fun _ => ?_⟩⟩
        refine MW_upto_in hi (by omega) ⟨fun z => absurd z (by decide), fun _ => ?_⟩
        unfold w_X7_led_36
        refine M_need1 hM ?_
        rw [if_pos (show co0 0 0 = 0 from rfl)]
        exact ⟨fun z => absurd z (by decide), fun _ => (done0 hA hI hF hM)⟩
      · refine W_upto_out hc (by omega) ⟨fun z => absurd (by decide) z, fun _ => ?_⟩
        refine MW_in a1 a2 (by decide) ⟨fun z => absurd z (by decide), fun _ => MW_in s1 s2 (by decide) ⟨fun z => absurd z (by decide), fun _ => ?_⟩⟩
        exact MW_upto_out hc (by omega) ⟨fun _ => no (done0 hA hI hF hM), fun z => absurd (by decide) z⟩
    · refine F_within0 hb ⟨fun _ => ?_, fun z => absurd (by decide) z⟩
      exact MW_in a1 a2 (by decide) ⟨fun z => absurd z (by decide), fun _ => MW_out hb ⟨fun _ => no (done0 hA hI hF hM), fun z => absurd (by decide) z⟩⟩
  · refine F_within0 ha ⟨fun _ => ?_, fun z => absurd (by decide) z⟩
    exact MW_out ha ⟨fun _ => no (done0 hA hI hF hM), fun z => absurd (by decide) z⟩
theorem P0_tear {μ ν : Mem} (h : Rel0 μ ν) : w_X6_tear  μ (fun x μ' => w_X7_tear  ν (fun y ν' => x = y ∧ RelA μ' ν')) := by
  obtain ⟨T, fp, sd, I, hA, hI, hF, hM⟩ := h
  have e37 : ν.1 0 37 = nI 0 := hM.2.2.2.2.2.2.2.1.1
  have e39 : ν.1 0 39 = nI 0 := hM.2.2.2.2.2.2.2.2.1
  unfold w_X6_tear w_X7_tear
  intro x1 h1 μ2 h2 μ3 h3 y1 k1 ν2 k2 ν3 k3
  subst h2 h3 k2 k3
  refine ⟨by rw [h1, k1, hF.2.2.2.2.2.2.2.2.2.1, hF.2.2.2.2.2.2.2.2.2.2, e37, e39], Or.inr ⟨T, fp, sd, I, hA, hI, ?_, ?_⟩⟩
  · have g : ∀ k, k ≠ 237 → k ≠ 241 → (sI (sI μ 237 3 (nI 0)) 241 3 (nI 0)).1 k = μ.1 k := fun k k1 k2 => by rw [sI_r k2, sI_r k1]
    obtain ⟨a1, a2, a3, a4, a5, a6, a7, a8, a9, a10, a11⟩ := hF
    refine RF0.to ⟨a1, a2, a3, a4, a5, a6, a7, a8, a9, a10, a11⟩ rfl (fun k k1 k2 => g k (by omega) (by omega)) (a3.2.fr (g 19 (by decide) (by decide))) (a4.fr (fun k _ _ => g k (by omega) (by omega))) (a5.fr (fun k _ _ => g k (by omega) (by omega))) (a6.fr (fun k _ _ => g k (by omega) (by omega))) ?_ ?_ (a9.fr (fun k _ _ => g k (by omega) (by omega))) ?_ ?_
    · rw [g 1 (by decide) (by decide)]; exact a7
    · rw [g 0 (by decide) (by decide)]; exact a8
    · rw [sI_ne1 (by decide), sI_same]
    · rw [sI_same]
  · refine hM.notes rfl (fun k hk _ _ => by rw [sI_r (by omega), sI_r (by omega)]) (fun j j1 j2 => by rw [sI_ne2 j2, sI_ne2 j1]) ⟨?_, fun e he => absurd he (Nat.not_lt_zero _)⟩ ⟨?_, fun e he => absurd he (Nat.not_lt_zero _)⟩
    · rw [sI_ne2 (by decide), sI_same]
    · rw [sI_same]
theorem P0_seed {μ ν : Mem} {a : Int32} (h : Rel0 μ ν) : w_X6_seed a μ (fun x μ' => w_X7_seed a ν (fun y ν' => x = y ∧ RelA μ' ν')) := by
  obtain ⟨T, fp, sd, I, hA, hI, hF, hM⟩ := h
  have e10 := hF.2.2.2.2.2.2.2.1
  have m0 := hM.2.2.2.2.2.1
  unfold w_X6_seed w_X7_seed
  by_cases q : 0 ≤ a
  · refine ⟨fun _ => ?_, fun z => absurd q z⟩
    obtain ⟨j, hj, rfl⟩ := nI_of (Int32.not_lt.mpr q)
    intro x1 hx1 μ2 hμ2
    refine ⟨fun _ => ?_, fun z => absurd q z⟩
    intro y1 hy1 ν2 hν2
    rw [nI_l hj] at hν2
    rw [m0, lN_i] at hy1
    rw [e10] at hx1
    subst hμ2 hν2
    refine ⟨hx1.trans hy1.symm, Or.inr ⟨T, fp, j, I, ⟨hA.1, hA.2.1, hA.2.2.1, hA.2.2.2.1, hj, hA.2.2.2.2.2⟩, hI, ?_, hM.seed⟩⟩
    have g : ∀ k, k ≠ 0 → (sI μ 0 10 (nI j)).1 k = μ.1 k := fun k k1 => sI_r k1
    obtain ⟨a1, a2, a3, a4, a5, a6, a7, a8, a9, a10, a11⟩ := hF
    refine RF0.to ⟨a1, a2, a3, a4, a5, a6, a7, a8, a9, a10, a11⟩ rfl (fun k k1 k2 => g k (by omega)) (a3.2.fr (g 19 (by decide))) (a4.fr (fun k _ _ => g k (by omega))) (a5.fr (fun k _ _ => g k (by omega))) (a6.fr (fun k _ _ => g k (by omega))) ?_ sI_same (a9.fr (fun k _ _ => g k (by omega))) ?_ ?_
    · rw [g 1 (by decide)]; exact a7
    · rw [g 237 (by decide)]; exact a10
    · rw [g 241 (by decide)]; exact a11
  · exact ⟨fun z => absurd z q, fun _ => ⟨fun z => absurd z q, fun _ => done0 hA hI hF hM⟩⟩
