/-! ===== the relation between the two memories ===== -/
abbrev Un : Type := Nat × (Nat → Ro)
abbrev Tx : Type := Nat × (Nat → Nat)
abbrev Im : Type := Nat → Option (Nat × Ro)
abbrev Gt : Type := Nat × (Nat → Nat → Nat)
def remU (U : Un) (r : Ro) : Un := if U.1 < 30 then (U.1 + 1, fun i => if i = U.1 then r else U.2 i) else (30, fun i => if i = 29 then r else U.2 (i + 1))
def PaF (μ : Mem) (n : Nat) (U : Un) : Prop := ∃ o, o < 30 ∧ μ.1 41 1 = nI o ∧ μ.1 41 2 = nI U.1 ∧ ∀ i, i < U.1 → StF μ (43 + 6 * ((o + i) % 30)) n (U.2 i)
def TxF (μ : Mem) (T : Tx) : Prop := μ.1 1 1 = nI T.1 ∧ ∀ i, i < T.1 → μ.1 2 i = nI (T.2 i)
def ImF (μ : Mem) (n : Nat) (I : Im) : Prop := ∀ i, i < 2 → match I i with
  | none => μ.1 236 i = -1
  | some q => μ.1 236 i = nI q.1 ∧ StF μ (224 + 6 * i) n q.2
def GoF (μ : Mem) (G : Gt) : Prop := μ.1 237 3 = nI G.1 ∧ ∀ e, e < G.1 → μ.1 238 e = nI (G.2 e 0) ∧ μ.1 239 e = nI (G.2 e 1) ∧ μ.1 240 e = nI (G.2 e 2)
/-- the law's own two rows; they stand among the book's notes, of which there are none -/
def LwF (μ : Mem) (L : Nat → Nat → Nat) : Prop := (∀ j, μ.1 246 j = nI (L 100 j)) ∧ ∀ j, μ.1 247 j = nI (L 101 j)
theorem LwF.fr {μ μ1 : Mem} {L : Nat → Nat → Nat} (h : LwF μ L) (h1 : μ1.1 246 = μ.1 246) (h2 : μ1.1 247 = μ.1 247) : LwF μ1 L := by
  unfold LwF at h ⊢
  rw [h1, h2]
  exact h
def BkF (μ : Mem) (K : Gt) : Prop := μ.1 241 3 = nI K.1 ∧ (∀ e, e < K.1 → μ.1 242 e = nI (K.2 e 0) ∧ μ.1 244 e = nI (K.2 e 2)) ∧ LwF μ K.2
def VA (co : Co) (r : Ro) (U : Un) (T : Tx) (sd : Nat) (I : Im) (G K : Gt) : Prop :=
  vCo co ∧ vRo co r 9060 ∧ (U.1 ≤ 30 ∧ ∀ i, i < U.1 → vRo co (U.2 i) 9060) ∧ (T.1 ≤ 240 ∧ ∀ i, i < T.1 → T.2 i ≤ 255) ∧ sd < 2147483648 ∧ (∀ i q, I i = some q → q.1 < 2147483648 ∧ vRo co q.2 9060) ∧
  (G.1 ≤ 6 ∧ ∀ e, e < G.1 → G.2 e 0 < co 0 3 ∧ G.2 e 1 ≤ 1 ∧ G.2 e 2 ≤ 40) ∧ (K.1 ≤ 20 ∧ ∀ e, e < K.1 → K.2 e 0 < co 0 3 ∧ K.2 e 2 ≤ 99)
def RF (μ : Mem) (co : Co) (r : Ro) (U : Un) (T : Tx) (fp : Int32) (sd : Nat) (I : Im) (G K : Gt) : Prop :=
  (sF.2.1 (μ.2.2 0) = 0 ∧ sF.2.1 (μ.2.2 1) = 0 ∧ μ.2.2 0 ≠ μ.2.2 1) ∧ CoF μ (μ.2.2 0) co ∧ (∀ p, p < 6 → ∃ z, z < 1000 ∧ μ.1 (μ.2.2 1 + 5) p = nI z) ∧ StF μ 25 (co 0 3) r ∧ PaF μ (co 0 3) U ∧ TxF μ T ∧ μ.1 1 5 = fp ∧ μ.1 0 10 = nI sd ∧ ImF μ (co 0 3) I ∧ GoF μ G ∧ BkF μ K
/-! frames -/
theorem st_form_all : ∀ b, b < 249 → sF.2.1 b = 4 → (b % 6 = 1 ∧ 25 ≤ b ∧ b ≤ 217) ∨ b = 224 ∨ b = 230 := by decide +kernel
theorem st_form {b : Nat} (h : sF.2.1 b = 4) : (b % 6 = 1 ∧ 25 ≤ b ∧ b ≤ 217) ∨ b = 224 ∨ b = 230 := st_form_all b (sF_lt b (by omega)) h
theorem st_ring : ∀ i, i < 30 → sF.2.1 (43 + 6 * i) = 4 := by decide +kernel
theorem st_25 : sF.2.1 25 = 4 := by decide +kernel
theorem st_31 : sF.2.1 31 = 4 := by decide +kernel
theorem st_img : ∀ i, i < 2 → sF.2.1 (224 + 6 * i) = 4 := by decide +kernel
theorem PaF.fr {μ μ1 : Mem} {n : Nat} {U : Un} (h : PaF μ n U) (hf : ∀ k, 41 ≤ k → k < 223 → μ1.1 k = μ.1 k) : PaF μ1 n U := by
  obtain ⟨o, ho, h1, h2, h3⟩ := h
  have hm : ∀ x, x % 30 < 30 := fun x => Nat.mod_lt _ (by decide)
  refine ⟨o, ho, by rw [hf 41 (by decide) (by decide)]; exact h1, by rw [hf 41 (by decide) (by decide)]; exact h2, fun i hi => (h3 i hi).fr (fun k h4 h5 => hf k ?_ ?_)⟩
  · omega
  · have := hm (o + i); omega
theorem ImF.fr {μ μ1 : Mem} {n : Nat} {I : Im} (h : ImF μ n I) (hf : ∀ k, 224 ≤ k → k < 237 → μ1.1 k = μ.1 k) : ImF μ1 n I := by
  intro i hi
  have := h i hi
  cases e : I i with
  | none => rw [e] at this; dsimp only at this ⊢; rw [hf 236 (by decide) (by decide)]; exact this
  | some q =>
    rw [e] at this; dsimp only at this ⊢
    rw [hf 236 (by decide) (by decide)]
    exact ⟨this.1, this.2.fr (fun k h4 h5 => hf k (by omega) (by omega))⟩
theorem GoF.fr {μ μ1 : Mem} {G : Gt} (h : GoF μ G) (hf : ∀ k, 237 ≤ k → k < 241 → μ1.1 k = μ.1 k) : GoF μ1 G := by
  unfold GoF at h ⊢
  rw [hf 237 (by decide) (by decide), hf 238 (by decide) (by decide), hf 239 (by decide) (by decide), hf 240 (by decide) (by decide)]
  exact h
theorem BkF.fr {μ μ1 : Mem} {G : Gt} (h : BkF μ G) (hf : ∀ k, 241 ≤ k → (k < 245 ∨ k = 246 ∨ k = 247) → μ1.1 k = μ.1 k) : BkF μ1 G := by
  unfold BkF at h ⊢
  rw [hf 241 (by decide) (by decide), hf 242 (by decide) (by decide), hf 244 (by decide) (by decide)]
  exact ⟨h.1, h.2.1, h.2.2.fr (hf 246 (by decide) (by decide)) (hf 247 (by decide) (by decide))⟩
theorem TxF.fr {μ μ1 : Mem} {T : Tx} (h : TxF μ T) (hf : ∀ k, 1 ≤ k → k < 3 → μ1.1 k = μ.1 k) : TxF μ1 T := by
  unfold TxF at h ⊢
  rw [hf 1 (by decide) (by decide), hf 2 (by decide) (by decide)]
  exact h
/-- all but what is tried stays -/
theorem RF.fr {μ μ1 : Mem} {co : Co} {r : Ro} {U : Un} {T : Tx} {fp : Int32} {sd : Nat} {I : Im} {G K : Gt} (h : RF μ co r U T fp sd I G K) (h2 : μ1.2 = μ.2) (hf : ∀ k, ¬ (31 ≤ k ∧ k < 41) → k ≠ 245 → μ1.1 k = μ.1 k) : RF μ1 co r U T fp sd I G K := by
  obtain ⟨a1, a2, a3, a4, a5, a6, a7, a8, a9, a10, a11⟩ := h
  have hd := co_far a1.2.1
  refine ⟨by rw [h2]; exact a1, ?_, ?_, a4.fr (fun k _ _ => hf k (by omega) (by omega)), a5.fr (fun k _ _ => hf k (by omega) (by omega)), a6.fr (fun k _ _ => hf k (by omega) (by omega)), ?_, ?_, a9.fr (fun k _ _ => hf k (by omega) (by omega)), a10.fr (fun k _ _ => hf k (by omega) (by omega)), a11.fr (fun k _ _ => hf k (by omega) (by omega))⟩
  · rw [h2]; exact a2.fr a1.1 (fun k _ _ => hf k (by omega) (by omega))
  · rw [h2, hf (μ.2.2 1 + 5) (by omega) (by omega)]; exact a3
  · rw [hf 1 (by omega) (by omega)]; exact a7
  · rw [hf 0 (by omega) (by omega)]; exact a8
/-- what is so now changes -/
theorem RF.now {μ μ1 : Mem} {co : Co} {r r1 : Ro} {U : Un} {T : Tx} {fp : Int32} {sd : Nat} {I : Im} {G K : Gt} (h : RF μ co r U T fp sd I G K) (hf : FrP 25 μ μ1) (hs : StF μ1 25 (co 0 3) r1) : RF μ1 co r1 U T fp sd I G K := by
  obtain ⟨a1, a2, a3, a4, a5, a6, a7, a8, a9, a10, a11⟩ := h
  have hd := co_far a1.2.1
  have h2 := hf.1
  have hf := hf.2
  refine ⟨by rw [h2]; exact a1, ?_, ?_, hs, a5.fr (fun k _ _ => hf k (by omega) (by omega)), a6.fr (fun k _ _ => hf k (by omega) (by omega)), ?_, ?_, a9.fr (fun k _ _ => hf k (by omega) (by omega)), a10.fr (fun k _ _ => hf k (by omega) (by omega)), a11.fr (fun k _ _ => hf k (by omega) (by omega))⟩
  · rw [h2]; exact a2.fr a1.1 (fun k _ _ => hf k (by omega) (by omega))
  · rw [h2, hf (μ.2.2 1 + 5) (by omega) (by omega)]; exact a3
  · rw [hf 1 (by omega) (by omega)]; exact a7
  · rw [hf 0 (by omega) (by omega)]; exact a8
def FrR (μ μ' : Mem) : Prop := μ'.2 = μ.2 ∧ ∀ k, ¬ (41 ≤ k ∧ k < 223) → μ'.1 k = μ.1 k
theorem RF.past {μ μ1 : Mem} {co : Co} {r : Ro} {U U1 : Un} {T : Tx} {fp : Int32} {sd : Nat} {I : Im} {G K : Gt} (h : RF μ co r U T fp sd I G K) (hf : FrR μ μ1) (hs : PaF μ1 (co 0 3) U1) : RF μ1 co r U1 T fp sd I G K := by
  obtain ⟨a1, a2, a3, a4, a5, a6, a7, a8, a9, a10, a11⟩ := h
  have hd := co_far a1.2.1
  have h2 := hf.1
  have hf := hf.2
  refine ⟨by rw [h2]; exact a1, ?_, ?_, a4.fr (fun k _ _ => hf k (by omega)), hs, a6.fr (fun k _ _ => hf k (by omega)), ?_, ?_, a9.fr (fun k _ _ => hf k (by omega)), a10.fr (fun k _ _ => hf k (by omega)), a11.fr (fun k _ _ => hf k (by omega))⟩
  · rw [h2]; exact a2.fr a1.1 (fun k _ _ => hf k (by omega))
  · rw [h2, hf (μ.2.2 1 + 5) (by omega)]; exact a3
  · rw [hf 1 (by omega)]; exact a7
  · rw [hf 0 (by omega)]; exact a8
/-! remembering, and back -/
theorem cpy_lt {f g : Nat → Int32} {n j : Nat} (h : j < n) : va_cpy f g 0 0 n j = f j := by
  have := pk_cpy_in (f := f) (g := g) (sp := 0) (dp := 0) (n := n) (j := j) (Nat.zero_le _) (by omega)
  rw [this]; congr 1; omega
theorem F_become {μ : Mem} {b0 b1 n : Nat} {r : Ro} {Q : Mem → Prop} (h0 : sF.2.1 b0 = 4) (h1 : sF.2.1 b1 = 4) (hne : b0 ≠ b1) (hs : StF μ b1 n r) (hn : n ≤ 6) (h2 : r 2 ≤ 1)
    (h : ∀ μ' : Mem, FrS b0 μ μ' → StF μ' b0 n r → Q μ') : w_X4_become b0 b1 μ Q := by
  have f0 := st_form h0
  have f1 := st_form h1
  have e0 : ∀ k j, k < 6 → j < 6 → b1 + k ≠ b0 + j := by intro k j hk hj; omega
  have n0 := e0 0
  obtain ⟨⟨a0, a1, a2, a3, a4⟩, hp, hp2, hv⟩ := hs
  unfold w_X4_become
  intro m1 e1 m2 e2
  refine ⟨?_, ?_⟩
  · rw [e2, e1, sI_r (by omega), sI_r (by omega), a2]
    rcases (by omega : r 2 = 0 ∨ r 2 = 1) with q | q
    · rw [q]; exact Or.inl rfl
    · rw [q]; exact Or.inr rfl
  · intro m3 e3 m4 e4 m5 e5 m6 e6 m7 e7 m8 e8 m9 e9 m10 e10
    subst e1 e2 e3 e4 e5 e6 e7 e8 e9 e10
    refine h _ ⟨rfl, fun k hk => ?_⟩ ⟨?_, fun p hpn => ?_, fun p q1 q2 => ?_, fun v hv2 => ?_⟩
    · rw [sA_ne (by omega), sA_ne (by omega), sA_ne (by omega), sA_ne (by omega), sA_ne (by omega), sI_r (by omega), sI_r (by omega), sI_r (by omega), sI_r (by omega), sI_r (by omega)]
    · simp (disch := omega) only [sA_ne, sA_same, sI_same, sI_ne2, sI_r]
      exact ⟨a0, a1, a2, a3, a4⟩
    · simp (disch := omega) only [sA_ne, sA_same, sI_same, sI_ne2, sI_r]
      rw [cpy_lt (by omega), cpy_lt (by omega), cpy_lt (by omega)]
      exact hp p hpn
    · simp (disch := omega) only [sA_ne, sA_same, sI_same, sI_ne2, sI_r]
      rw [cpy_lt (by omega), cpy_lt (by omega)]
      exact hp2 p q1 q2
    · simp (disch := omega) only [sA_ne, sA_same, sI_same, sI_ne2, sI_r]
      rw [cpy_lt (by omega), cpy_lt (by omega)]
      exact hv v hv2
theorem F_stateAt {μ : Mem} {o x : Nat} {Q : Option Nat → Prop} (ho : o < 30) (e1 : μ.1 41 1 = nI o) (hx : x < 30) (h : Q (some (43 + 6 * ((o + x) % 30)))) : w_X2_stateAt (nI x) μ Q := by
  have hm : (o + x) % 30 < 30 := Nat.mod_lt _ (by decide)
  unfold w_X2_stateAt
  simp (disch := omega) only [z_le, z_lt, z_eq, z_lt0, z_0le, z_eq0, z_le0, z_0lt, z_cl, z_in, z_add, z_mul, z_m1ne, z_m1ne', z_m1lt0, z_m1lt, z_ltm1, forall_eq, true_implies, false_implies, implies_true, true_and, and_true, false_and, and_false, not_true_eq_false, not_false_eq_true, ite_true, ite_false, e1, z_rem]
  refine ⟨by omega, fun q => absurd q (by omega), fun _ => ⟨hm, st_ring _ hm, h⟩⟩
theorem F_remember {μ : Mem} {co : Co} {r : Ro} {B : Nat} {U : Un} {Q : Mem → Prop} (hn : co 0 3 ≤ 6) (hs : StF μ 25 (co 0 3) r) (hr : vRo co r B) (hU : U.1 ≤ 30) (hp : PaF μ (co 0 3) U)
    (h : ∀ μ' : Mem, FrR μ μ' → PaF μ' (co 0 3) (remU U r) → Q μ') : w_X2_remember 25 μ Q := by
  obtain ⟨o, ho, e1, e2, hi⟩ := hp
  have hm : ∀ x, x % 30 < 30 := fun x => Nat.mod_lt _ (by decide)
  have fin : ∀ μ1 : Mem, ∀ o1 m1 : Nat, o1 < 30 → m1 < 30 → FrR μ μ1 → μ1.1 41 1 = nI o1 → μ1.1 41 2 = nI (m1 + 1) → (∀ k, k ≠ 41 → μ1.1 k = μ.1 k) → (remU U r).1 = m1 + 1 → (remU U r).2 m1 = r → (∀ i, i < m1 → StF μ (43 + 6 * ((o1 + i) % 30)) (co 0 3) ((remU U r).2 i)) → w_X2_remember_35 25 μ1 Q := by
    intro μ1 o1 m1 ho1 hm1 f1 a1 a2 ak ru1 ru2 hi1
    unfold w_X2_remember_35
    rw [a2, z_sub (by omega), Nat.add_sub_cancel]
    refine F_stateAt ho1 a1 hm1 ⟨fun z => (by cases z), fun b6 hb6 => ?_⟩
    cases hb6
    have hst := st_ring ((o1 + m1) % 30) (hm _)
    refine ⟨hst, F_become hst st_25 (by omega) (hs.fr (fun k _ _ => ak k (by omega))) hn hr.2.2.1 (fun μ2 f2 s2 => ?_)⟩
    have hmm := hm (o1 + m1)
    refine h μ2 ⟨f2.1.trans f1.1, fun k hk => by rw [f2.2 k (by omega)]; exact f1.2 k hk⟩ ⟨o1, ho1, ?_, ?_, fun i hi2 => ?_⟩
    · rw [f2.2 41 (by omega)]; exact a1
    · rw [f2.2 41 (by omega), ru1]; exact a2
    · rw [ru1] at hi2
      by_cases e : i = m1
      · rw [e, ru2]; exact s2
      · have := hm (o1 + i)
        refine (hi1 i (by omega)).fr (fun k h4 h5 => ?_)
        rw [f2.2 k ?_, ak k (by omega)]
        omega
  unfold w_X2_remember
  simp (disch := omega) only [z_le, z_lt, z_eq, z_lt0, z_0le, z_eq0, z_le0, z_0lt, z_cl, z_in, z_add, z_mul, z_m1ne, z_m1ne', z_m1lt0, z_m1lt, z_ltm1, forall_eq, true_implies, false_implies, implies_true, true_and, and_true, false_and, and_false, not_true_eq_false, not_false_eq_true, ite_true, ite_false, e1, e2, z_rem]
  refine ⟨fun q => ⟨by omega, ?_⟩, fun q => ?_⟩
  · have eU : U.1 = 30 := by omega
    have er : remU U r = (30, fun i => if i = 29 then r else U.2 (i + 1)) := by unfold remU; rw [if_neg (by omega)]
    refine fin _ ((o + 1) % 30) 29 (hm _) (by decide) ⟨rfl, fun k hk => by rw [sI_r (by omega)]⟩ sI_same (by rw [sI_ne2 (by decide), e2, eU]) (fun k hk => by rw [sI_r hk]) (by rw [er]) (by rw [er]; simp) (fun i hi2 => ?_)
    rw [er]
    dsimp only
    rw [if_neg (by omega)]
    have := hi (i + 1) (by omega)
    rw [show ((o + 1) % 30 + i) % 30 = (o + (i + 1)) % 30 by omega]
    exact this
  · have er : remU U r = (U.1 + 1, fun i => if i = U.1 then r else U.2 i) := by unfold remU; rw [if_pos (by omega)]
    refine fin _ o U.1 ho (by omega) ⟨rfl, fun k hk => by rw [sI_r (by omega)]⟩ (by rw [sI_ne2 (by decide), e1]) sI_same (fun k hk => by rw [sI_r hk]) (by rw [er]) (by rw [er]; simp) (fun i hi2 => ?_)
    rw [er]
    dsimp only
    rw [if_neg (by omega)]
    exact hi i hi2
theorem remU_le {U : Un} {r : Ro} (h : U.1 ≤ 30) : (remU U r).1 ≤ 30 := by unfold remU; split <;> omega
theorem remU_v {co : Co} {U : Un} {r : Ro} {B : Nat} (hU : U.1 ≤ 30) (h : ∀ i, i < U.1 → vRo co (U.2 i) B) (hr : vRo co r B) : ∀ i, i < (remU U r).1 → vRo co ((remU U r).2 i) B := by
  intro i hi
  unfold remU at hi ⊢
  by_cases q : U.1 < 30
  · rw [if_pos q] at hi ⊢
    dsimp only at hi ⊢
    by_cases e : i = U.1
    · rw [if_pos e]; exact hr
    · rw [if_neg e]; exact h i (by omega)
  · rw [if_neg q] at hi ⊢
    dsimp only at hi ⊢
    by_cases e : i = 29
    · rw [if_pos e]; exact hr
    · rw [if_neg e]; exact h (i + 1) (by omega)
