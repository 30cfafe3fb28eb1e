/-! ===== notes: got, write, judge, tear; images: seed, keep, goBack ===== -/
theorem RF.notes {μ μ1 : Mem} {co : Co} {r : Ro} {U : Un} {T : Tx} {fp : Int32} {sd : Nat} {I : Im} {G K G1 K1 : Gt} (h : RF μ co r U T fp sd I G K) (h2 : μ1.2 = μ.2) (hf : ∀ k, ¬ (237 ≤ k ∧ k < 245) → μ1.1 k = μ.1 k) (hg : GoF μ1 G1) (hk : BkF μ1 K1) : RF μ1 co r U T fp sd I G1 K1 := by
  obtain ⟨a1, a2, a3, a4, a5, a6, a7, a8, a9, a10, a11⟩ := h
  have hd := co_far a1.2.1
  have hd0 := co_far a1.1
  refine ⟨by rw [h2]; exact a1, ?_, ?_, a4.fr (fun k _ _ => hf k (by omega)), a5.fr (fun k _ _ => hf k (by omega)), a6.fr (fun k _ _ => hf k (by omega)), ?_, ?_, a9.fr (fun k _ _ => hf k (by omega)), hg, hk⟩
  · rw [h2]; exact a2.fr a1.1 (fun k _ _ => hf k (by omega))
  · rw [h2, hf (μ.2.2 1 + 5) (by omega)]; exact a3
  · rw [hf 1 (by omega)]; exact a7
  · rw [hf 0 (by omega)]; exact a8
theorem F_note {b N m p s x : Nat} {μ : Mem} {Q : Int32 → Mem → Prop} (h1 : sF.2.2 (b + 1) = N) (h2 : sF.2.2 (b + 2) = N) (h3 : sF.2.2 (b + 3) = N) (hN : N < 2147483648) (e : μ.1 b 3 = nI m) (hm : m < N)
    (h : ∀ μ' : Mem, μ'.2 = μ.2 → (∀ k, ¬ (b ≤ k ∧ k < b + 4) → μ'.1 k = μ.1 k) → μ'.1 b 3 = nI (m + 1) → (∀ e, e ≠ m → μ'.1 (b + 1) e = μ.1 (b + 1) e ∧ μ'.1 (b + 2) e = μ.1 (b + 2) e ∧ μ'.1 (b + 3) e = μ.1 (b + 3) e) → μ'.1 (b + 1) m = nI p → μ'.1 (b + 2) m = nI s → μ'.1 (b + 3) m = nI x → Q (nI (m + 1)) μ') : w_X1_note b (nI p) (nI s) (nI x) μ Q := by
  unfold w_X1_note
  rw [e]
  refine F_put h1 hN hm ?_
  rw [sI_ne1 (by omega), e]
  refine F_put h2 hN hm ?_
  rw [sI_ne1 (by omega), sI_ne1 (by omega), e]
  refine F_put h3 hN hm ?_
  intro μ7 e7
  rw [sI_ne1 (by omega), sI_ne1 (by omega), sI_ne1 (by omega), e, z_add] at e7
  subst e7
  rw [sI_same]
  refine h _ rfl (fun k hk => ?_) sI_same (fun e he => ⟨?_, ?_, ?_⟩) ?_ ?_ ?_
  · rw [sI_r (by omega), sI_r (by omega), sI_r (by omega), sI_r (by omega)]
  · rw [sI_ne1 (by omega), sI_ne1 (by omega), sI_ne1 (by omega), sI_ne2 he]
  · rw [sI_ne1 (by omega), sI_ne1 (by omega), sI_ne2 he, sI_ne1 (by omega)]
  · rw [sI_ne1 (by omega), sI_ne2 he, sI_ne1 (by omega), sI_ne1 (by omega)]
  · rw [sI_ne1 (by omega), sI_ne1 (by omega), sI_ne1 (by omega), sI_same]
  · rw [sI_ne1 (by omega), sI_ne1 (by omega), sI_same]
  · rw [sI_ne1 (by omega), sI_same]
def noteN (G : Gt) (p s x : Nat) : Gt := (G.1 + 1, fun e => if e = G.1 then (fun j => if j = 0 then p else if j = 1 then s else x) else G.2 e)
theorem noteN_own {G : Gt} {p s x : Nat} : (noteN G p s x).2 G.1 0 = p ∧ (noteN G p s x).2 G.1 1 = s ∧ (noteN G p s x).2 G.1 2 = x := by
  unfold noteN
  dsimp only
  rw [if_pos rfl]
  exact ⟨rfl, rfl, rfl⟩
theorem noteN_ne {G : Gt} {p s x e : Nat} (h : e ≠ G.1) : (noteN G p s x).2 e = G.2 e := by
  unfold noteN
  dsimp only
  rw [if_neg h]
def dwn (k : Nat) : Int32 := if k = 0 then -1 else nI (k - 1)
theorem dwn_s (k : Nat) : nI k + (-1) = dwn k := by
  unfold dwn
  by_cases q : k = 0
  · rw [if_pos q, q]; decide
  · rw [if_neg q]
    have := z_m1 (k - 1)
    rw [show k - 1 + 1 = k by omega] at this
    exact this
theorem dwn_1 {k : Nat} : nI k - nI 1 = dwn k := by
  rw [← dwn_s, Int32.sub_eq_add_neg]; rfl
theorem F_image_in {i : Nat} {μ : Mem} {Q : Option Nat → Prop} (hi : i ≤ 1) (h : Q (some (224 + 6 * i))) : w_X6_imageOf (nI i) μ Q := by
  unfold w_X6_imageOf
  simp (disch := omega) only [z_le, z_lt, z_eq, z_lt0, z_0le, z_eq0, z_le0, z_0lt, z_cl, z_in, z_add, z_mul, z_m1ne, z_m1ne', z_m1lt0, z_m1lt, z_ltm1, forall_eq, true_implies, false_implies, implies_true, true_and, and_true, false_and, and_false, not_true_eq_false, not_false_eq_true, ite_true, ite_false]
  refine ⟨fun q => absurd q (by omega), fun _ => ⟨fun q => absurd q (by omega), fun _ => ⟨by omega, st_img i (by omega), h⟩⟩⟩
theorem F_image_out {a : Int32} {μ : Mem} {Q : Option Nat → Prop} (ha : a < nI 0 ∨ nI 1 < a) (h : Q none) : w_X6_imageOf a μ Q := by
  unfold w_X6_imageOf
  refine ⟨fun _ => h, fun q => ⟨fun _ => h, fun q2 => ?_⟩⟩
  exfalso
  rcases ha with z | z
  · exact q z
  · apply q2
    rw [Int32.le_iff_toInt_le]
    rw [Int32.lt_iff_toInt_lt] at z
    have e1 : (nI 1).toInt = 1 := by decide
    have e2 : (nI 2).toInt = 2 := by decide
    omega
theorem RF.imgs {μ μ1 : Mem} {co : Co} {r : Ro} {U : Un} {T : Tx} {fp : Int32} {sd : Nat} {I I1 : Im} {G K : Gt} (h : RF μ co r U T fp sd I G K) (h2 : μ1.2 = μ.2) (hf : ∀ k, ¬ (224 ≤ k ∧ k < 237) → μ1.1 k = μ.1 k) (hi : ImF μ1 (co 0 3) I1) : RF μ1 co r U T fp sd I1 G K := by
  obtain ⟨a1, a2, a3, a4, a5, a6, a7, a8, a9, a10, a11⟩ := h
  have hd := co_far a1.2.1
  have hd0 := co_far a1.1
  refine ⟨by rw [h2]; exact a1, ?_, ?_, a4.fr (fun k _ _ => hf k (by omega)), a5.fr (fun k _ _ => hf k (by omega)), a6.fr (fun k _ _ => hf k (by omega)), ?_, ?_, hi, a10.fr (fun k _ _ => hf k (by omega)), a11.fr (fun k _ _ => hf k (by omega))⟩
  · rw [h2]; exact a2.fr a1.1 (fun k _ _ => hf k (by omega))
  · rw [h2, hf (μ.2.2 1 + 5) (by omega)]; exact a3
  · rw [hf 1 (by omega)]; exact a7
  · rw [hf 0 (by omega)]; exact a8
theorem PaF.nil {μ μ1 : Mem} {n : Nat} {U : Un} (h : PaF μ n U) (e1 : μ1.1 41 1 = μ.1 41 1) (e2 : μ1.1 41 2 = nI 0) : PaF μ1 n (0, U.2) := by
  obtain ⟨o, ho, h1, h2, h3⟩ := h
  exact ⟨o, ho, e1.trans h1, e2, fun i hi => absurd hi (Nat.not_lt_zero _)⟩
theorem RF.nil {μ : Mem} {co : Co} {r : Ro} {U : Un} {T : Tx} {fp : Int32} {sd : Nat} {I : Im} {G K : Gt} (h : RF μ co r U T fp sd I G K) : RF (sI μ 41 2 (nI 0)) co r (0, U.2) T fp sd I G K :=
  h.past ⟨rfl, fun k hk => sI_r (by omega)⟩ (h.2.2.2.2.1.nil (sI_ne2 (by decide)) sI_same)
