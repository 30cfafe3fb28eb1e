/-! ===== notes: got, write, judge, tear; images: seed, keep, goBack ===== -/
theorem RF.notes {μ μ1 : Mem} {co : Co} {r : Ro} {U : Un} {T : Tx} {fp : Int32} {sd : Nat} {I : Im} {G K G1 K1 : Gt} (h : RF μ co r U T fp sd I G K) (h2 : μ1.2 = μ.2) (hf : ∀ k, ¬ (237 ≤ k ∧ k < 245) → μ1.1 k = μ.1 k) (hg : GoF μ1 G1) (hk : BkF μ1 K1) : RF μ1 co r U T fp sd I G1 K1 := by
  obtain ⟨a1, a2, a3, a4, a5, a6, a7, a8, a9, a10, a11⟩ := h
  have hd := co_far a1.2.1
  have hd0 := co_far a1.1
  refine ⟨by rw [h2]; exact a1, ?_, ?_, a4.fr (fun k _ _ => hf k (by omega)), a5.fr (fun k _ _ => hf k (by omega)), a6.fr (fun k _ _ => hf k (by omega)), ?_, ?_, a9.fr (fun k _ _ => hf k (by omega)), hg, hk⟩
  · rw [h2]; exact a2.fr a1.1 (fun k _ _ => hf k (by omega))
  · rw [h2, hf (μ.2.2 1 + 5) (by omega)]; exact a3
  · rw [hf 1 (by omega)]; exact a7
  · rw [hf 0 (by omega)]; exact a8
theorem RM.notes {ν ν1 : Mem} {co : Co} {r : Ro} {U : Un} {T : Tx} {fp : Int32} {sd : Nat} {I : Im} {G K G1 K1 : Gt} (h : RM ν co r U T fp sd I G K) (h2 : ν1.2 = ν.2) (hf : ∀ k, k ≠ 0 → k ≠ 19 → k ≠ 20 → ν1.1 k = ν.1 k) (h0 : ∀ j, j ≠ 37 → j ≠ 39 → ν1.1 0 j = ν.1 0 j) (hg : GoM ν1 G1) (hk : BkM ν1 K1) : RM ν1 co r U T fp sd I G1 K1 := by
  obtain ⟨a1, a2, a3, a4, a5, a6, a7, a8, a9⟩ := h
  exact ⟨a1.fr2 (fun k _ _ => hf k (by omega) (by omega) (by omega)) (fun j _ _ => h0 j (by omega) (by omega)), a2.fr (hf 14 (by decide) (by decide) (by decide)), a3.fr (hf 17 (by decide) (by decide) (by decide)) (h0 32 (by decide) (by decide)) (h0 33 (by decide) (by decide)), a4.fr (hf 1 (by decide) (by decide) (by decide)) (h0 0 (by decide) (by decide)), by rw [h0 2 (by decide) (by decide)]; exact a5, by rw [h2]; exact a6, a7.fr (hf 21 (by decide) (by decide) (by decide)) (hf 22 (by decide) (by decide) (by decide)) (fun j _ => by rw [h2]), hg, hk⟩
theorem F_note {b N m p s x : Nat} {μ : Mem} {Q : Int32 → Mem → Prop} (h1 : sF.2.2 (b + 1) = N) (h2 : sF.2.2 (b + 2) = N) (h3 : sF.2.2 (b + 3) = N) (hN : N < 2147483648) (e : μ.1 b 3 = nI m) (hm : m < N)
    (h : ∀ μ' : Mem, μ'.2 = μ.2 → (∀ k, ¬ (b ≤ k ∧ k < b + 4) → μ'.1 k = μ.1 k) → μ'.1 b 3 = nI (m + 1) → (∀ e, e ≠ m → μ'.1 (b + 1) e = μ.1 (b + 1) e ∧ μ'.1 (b + 2) e = μ.1 (b + 2) e ∧ μ'.1 (b + 3) e = μ.1 (b + 3) e) → μ'.1 (b + 1) m = nI p → μ'.1 (b + 2) m = nI s → μ'.1 (b + 3) m = nI x → Q (nI (m + 1)) μ') : w_X1_note b (nI p) (nI s) (nI x) μ Q := by
  unfold w_X1_note
  rw [e]
  refine F_put h1 hN hm ?_
  rw [sI_ne1 (by omega), e]
  refine F_put h2 hN hm ?_
  rw [sI_ne1 (by omega), sI_ne1 (by omega), e]
  refine F_put h3 hN hm ?_
  intro μ7 e7
  rw [sI_ne1 (by omega), sI_ne1 (by omega), sI_ne1 (by omega), e, z_add] at e7
  subst e7
  rw [sI_same]
  refine h _ rfl (fun k hk => ?_) sI_same (fun e he => ⟨?_, ?_, ?_⟩) ?_ ?_ ?_
  · rw [sI_r (by omega), sI_r (by omega), sI_r (by omega), sI_r (by omega)]
  · rw [sI_ne1 (by omega), sI_ne1 (by omega), sI_ne1 (by omega), sI_ne2 he]
  · rw [sI_ne1 (by omega), sI_ne1 (by omega), sI_ne2 he, sI_ne1 (by omega)]
  · rw [sI_ne1 (by omega), sI_ne2 he, sI_ne1 (by omega), sI_ne1 (by omega)]
  · rw [sI_ne1 (by omega), sI_ne1 (by omega), sI_ne1 (by omega), sI_same]
  · rw [sI_ne1 (by omega), sI_ne1 (by omega), sI_same]
  · rw [sI_ne1 (by omega), sI_same]
def noteN (G : Gt) (p s x : Nat) : Gt := (G.1 + 1, fun e => if e = G.1 then (fun j => if j = 0 then p else if j = 1 then s else x) else G.2 e)
theorem noteN_own {G : Gt} {p s x : Nat} : (noteN G p s x).2 G.1 0 = p ∧ (noteN G p s x).2 G.1 1 = s ∧ (noteN G p s x).2 G.1 2 = x := by
  unfold noteN
  dsimp only
  rw [if_pos rfl]
  exact ⟨rfl, rfl, rfl⟩
theorem noteN_ne {G : Gt} {p s x e : Nat} (h : e ≠ G.1) : (noteN G p s x).2 e = G.2 e := by
  unfold noteN
  dsimp only
  rw [if_neg h]
theorem P_got {μ ν : Mem} {a b c : Int32} (h : Rel μ ν) : w_X6_got a b c μ (fun x μ' => w_X7_got a b c ν (fun y ν' => x = y ∧ Rel μ' ν')) := by
  obtain ⟨co, r, U, T, fp, sd, I, G, K, hA, hF, hM⟩ := h
  have hv := hA.1
  have hn := hv.2.2.2.1
  have hG := hA.2.2.2.2.2.2.1
  have e3 := hF.2.2.2.2.2.2.2.2.2.1.1
  have e37 := hM.2.2.2.2.2.2.2.1.1
  unfold w_X6_got w_X7_got w_X7_isSide
  rcases upto a (co 0 3) with ⟨p, hp, rfl⟩ | ho
  · refine F_isPost_in hF hv hp ⟨fun _ => ?_, fun z => absurd z (by decide)⟩
    rcases z_cases b 0 1 (by decide) (by decide) with ⟨s, s1, s2, rfl⟩ | hb
    · refine W_in s1 s2 (by decide) ⟨fun z => absurd z (by decide), fun _ => ?_⟩
      rcases z_cases c 0 40 (by decide) (by decide) with ⟨x, x1, x2, rfl⟩ | hc
      · refine W_in x1 x2 (by decide) ⟨fun _ => ?_, fun z => absurd z (by decide)⟩
        have mside : ∀ Q : Int32 → Mem → Prop, (G.1 < 6 → ∀ ν', RM ν' co r U T fp sd I (noteN G p s x) K → Q (nI (G.1 + 1)) ν') → (¬ G.1 < 6 → Q (-1000000004) ν) → w_X7_got (nI p) (nI s) (nI x) ν Q := by
          intro Q hq1 hq2
          unfold w_X7_got w_X7_isSide
          refine M_isPost_in hM hv hp ⟨fun _ => MW_in s1 s2 (by decide) ⟨Or.inr rfl, fun z => absurd z (by decide), fun _ => MW_in x1 x2 (by decide) ⟨fun _ => ?_, fun z => absurd z (by decide)⟩⟩, fun z => absurd z (by decide)⟩
          simp (disch := omega) only [z_le, z_lt, z_eq, z_lt0, z_0le, z_eq0, z_le0, z_0lt, z_cl, z_in, z_add, z_mul, z_m1ne, z_m1ne', z_m1lt0, z_m1lt, z_ltm1, forall_eq, true_implies, false_implies, implies_true, true_and, and_true, false_and, and_false, not_true_eq_false, not_false_eq_true, ite_true, ite_false, sI_same, sI_ne1, sI_ne2, sA_same, sA_ne, sI_2, sA_2, sL_1, sR_1, e37]
          refine ⟨fun q => ?_, fun q => hq2 (by omega)⟩
          refine ⟨by omega, by omega, by omega, ?_⟩
          refine hq1 (by omega) _ (hM.notes rfl (fun k k1 k2 k3 => ?_) (fun j j1 j2 => ?_) ⟨?_, fun e he => ?_⟩ ?_)
          · rw [sI_r (by omega), sI_r (by omega), sI_r (by omega), sI_r (by omega)]
          · rw [sI_ne2 (by omega), sI_ne1 (by omega), sI_ne1 (by omega), sI_ne1 (by omega)]
          · rw [sI_same]; rfl
          · have hee : e < G.1 + 1 := he
            by_cases q2 : e = G.1
            · obtain ⟨n0, n1, n2⟩ := noteN_own (G := G) (p := p) (s := s) (x := x)
              rw [q2, n0, n1, n2]
              simp (disch := omega) only [z_le, z_lt, z_eq, z_lt0, z_0le, z_eq0, z_le0, z_0lt, z_cl, z_in, z_add, z_mul, z_m1ne, z_m1ne', z_m1lt0, z_m1lt, z_ltm1, forall_eq, true_implies, false_implies, implies_true, true_and, and_true, false_and, and_false, not_true_eq_false, not_false_eq_true, ite_true, ite_false, sI_same, sI_ne1, sI_ne2, sA_same, sA_ne, sI_2, sA_2, sL_1, sR_1]
            · rw [noteN_ne q2]
              have := hM.2.2.2.2.2.2.2.1.2 e (by omega)
              rw [sI_ne1 (by omega), sI_ne2 (by omega), sI_ne2 (by omega), sI_ne2 (by omega), sI_ne1 (by omega), sI_ne2 (by omega), sI_ne2 (by omega), sI_ne2 (by omega), sI_ne1 (by omega), sI_ne2 (by omega), sI_ne2 (by omega), sI_ne2 (by omega)]
              exact this
          · refine hM.2.2.2.2.2.2.2.2.fr ?_ ?_
            · rw [sI_r (by omega), sI_r (by omega), sI_r (by omega), sI_r (by omega)]
            · rw [sI_ne2 (by omega), sI_ne1 (by omega), sI_ne1 (by omega), sI_ne1 (by omega)]
        rw [e3, z_lt (by omega) (by decide)]
        refine ⟨fun q => ?_, fun q => ?_⟩
        · refine F_note (N := 6) (by decide) (by decide) (by decide) (by decide) e3 q (fun μ1 f2 fk f3 fe fp' fs fx => ?_)
          have f1 : RF μ1 co r U T fp sd I (noteN G p s x) K := by
            refine hF.notes f2 (fun k hk => fk k (by omega)) ⟨f3, fun e he => ?_⟩ (hF.2.2.2.2.2.2.2.2.2.2.fr (fun k k1 k2 => fk k (by omega)))
            have hee : e < G.1 + 1 := he
            by_cases q2 : e = G.1
            · obtain ⟨n0, n1, n2⟩ := noteN_own (G := G) (p := p) (s := s) (x := x)
              rw [q2, n0, n1, n2]
              exact ⟨fp', fs, fx⟩
            · rw [noteN_ne q2]
              have := hF.2.2.2.2.2.2.2.2.2.1.2 e (by omega)
              obtain ⟨w1, w2, w3⟩ := fe e q2
              exact ⟨w1.trans this.1, w2.trans this.2.1, w3.trans this.2.2⟩
          refine mside (fun y ν' => nI (G.1 + 1) = y ∧ Rel μ1 ν') (fun _ ν1 m1 => ?_) (fun z => absurd q z)
          refine ⟨rfl, co, r, U, T, fp, sd, I, noteN G p s x, K, ?_, f1, m1⟩
          refine ⟨hv, hA.2.1, hA.2.2.1, hA.2.2.2.1, hA.2.2.2.2.1, hA.2.2.2.2.2.1, ⟨by show G.1 + 1 ≤ 6; omega, fun e he => ?_⟩, hA.2.2.2.2.2.2.2⟩
          have hee : e < G.1 + 1 := he
          by_cases q2 : e = G.1
          · obtain ⟨n0, n1, n2⟩ := noteN_own (G := G) (p := p) (s := s) (x := x)
            rw [q2, n0, n1, n2]
            exact ⟨hp, s2, x2⟩
          · rw [noteN_ne q2]
            exact hG.2 e (by omega)
        · exact mside (fun y ν' => (-1000000004 : Int32) = y ∧ Rel μ ν') (fun z => absurd z q) (fun _ => done hA hF hM)
      · refine F_within0 hc ⟨fun z => absurd (by decide) z, fun _ => ?_⟩
        exact M_isPost_in hM hv hp ⟨fun _ => MW_in s1 s2 (by decide) ⟨Or.inr rfl, fun z => absurd z (by decide), fun _ => MW_out hc ⟨fun z => absurd (by decide) z, fun _ => done hA hF hM⟩⟩, fun z => absurd z (by decide)⟩
    · refine F_within0 hb ⟨fun _ => ?_, fun z => absurd (by decide) z⟩
      exact M_isPost_in hM hv hp ⟨fun _ => MW_out hb ⟨Or.inl rfl, fun _ => done hA hF hM, fun z => absurd (by decide) z⟩, fun z => absurd z (by decide)⟩
  · refine F_isPost_out hF hv ho ⟨fun z => absurd (by decide) z, fun _ => ?_⟩
    exact M_isPost_out hM hv ho ⟨fun z => absurd (by decide) z, fun _ => done hA hF hM⟩
theorem P_write {μ ν : Mem} {a b : Int32} (h : Rel μ ν) : w_X6_write a b μ (fun x μ' => w_X7_write a b ν (fun y ν' => x = y ∧ Rel μ' ν')) := by
  obtain ⟨co, r, U, T, fp, sd, I, G, K, hA, hF, hM⟩ := h
  have hv := hA.1
  have hn := hv.2.2.2.1
  have hK := hA.2.2.2.2.2.2.2
  have e3 := hF.2.2.2.2.2.2.2.2.2.2.1
  have e39 := hM.2.2.2.2.2.2.2.2.1
  unfold w_X6_write w_X7_write
  rcases upto a (co 0 3) with ⟨p, hp, rfl⟩ | ho
  · refine F_isPost_in hF hv hp ⟨fun _ => ?_, fun z => absurd z (by decide)⟩
    rcases z_cases b 0 99 (by decide) (by decide) with ⟨x, x1, x2, rfl⟩ | hc
    · refine W_in x1 x2 (by decide) ⟨fun _ => ?_, fun z => absurd z (by decide)⟩
      have mside : ∀ Q : Int32 → Mem → Prop, (K.1 < 20 → ∀ ν', RM ν' co r U T fp sd I G (noteN K p 0 x) → Q (nI (K.1 + 1)) ν') → (¬ K.1 < 20 → Q (-1000000004) ν) → w_X7_write (nI p) (nI x) ν Q := by
        intro Q hq1 hq2
        unfold w_X7_write
        refine M_isPost_in hM hv hp ⟨fun _ => MW_in x1 x2 (by decide) ⟨fun _ => ?_, fun z => absurd z (by decide)⟩, fun z => absurd z (by decide)⟩
        simp (disch := omega) only [z_le, z_lt, z_eq, z_lt0, z_0le, z_eq0, z_le0, z_0lt, z_cl, z_in, z_add, z_mul, z_m1ne, z_m1ne', z_m1lt0, z_m1lt, z_ltm1, forall_eq, true_implies, false_implies, implies_true, true_and, and_true, false_and, and_false, not_true_eq_false, not_false_eq_true, ite_true, ite_false, sI_same, sI_ne1, sI_ne2, sA_same, sA_ne, sI_2, sA_2, sL_1, sR_1, e39]
        refine ⟨fun q => ?_, fun q => hq2 (by omega)⟩
        refine ⟨by omega, by omega, ?_⟩
        refine hq1 (by omega) _ (hM.notes rfl (fun k k1 k2 k3 => ?_) (fun j j1 j2 => ?_) ?_ ⟨?_, fun e he => ?_⟩)
        · rw [sI_r (by omega), sI_r (by omega), sI_r (by omega)]
        · rw [sI_ne2 (by omega), sI_ne1 (by omega), sI_ne1 (by omega)]
        · refine hM.2.2.2.2.2.2.2.1.fr ?_ ?_
          · rw [sI_r (by omega), sI_r (by omega), sI_r (by omega)]
          · rw [sI_ne2 (by omega), sI_ne1 (by omega), sI_ne1 (by omega)]
        · rw [sI_same]; rfl
        · have hee : e < K.1 + 1 := he
          by_cases q2 : e = K.1
          · obtain ⟨n0, n1, n2⟩ := noteN_own (G := K) (p := p) (s := 0) (x := x)
            rw [q2, n0, n2]
            simp (disch := omega) only [z_le, z_lt, z_eq, z_lt0, z_0le, z_eq0, z_le0, z_0lt, z_cl, z_in, z_add, z_mul, z_m1ne, z_m1ne', z_m1lt0, z_m1lt, z_ltm1, forall_eq, true_implies, false_implies, implies_true, true_and, and_true, false_and, and_false, not_true_eq_false, not_false_eq_true, ite_true, ite_false, sI_same, sI_ne1, sI_ne2, sA_same, sA_ne, sI_2, sA_2, sL_1, sR_1]
          · rw [noteN_ne q2]
            have := hM.2.2.2.2.2.2.2.2.2 e (by omega)
            rw [sI_ne1 (by omega), sI_ne2 (by omega), sI_ne2 (by omega), sI_ne1 (by omega), sI_ne2 (by omega), sI_ne2 (by omega)]
            exact this
      rw [e3, z_lt (by omega) (by decide)]
      refine ⟨fun q => ?_, fun q => ?_⟩
      · refine F_note (N := 20) (by decide) (by decide) (by decide) (by decide) e3 q (fun μ1 f2 fk f3 fe fp' fs fx => ?_)
        have f1 : RF μ1 co r U T fp sd I G (noteN K p 0 x) := by
          refine hF.notes f2 (fun k hk => fk k (by omega)) (hF.2.2.2.2.2.2.2.2.2.1.fr (fun k k1 k2 => fk k (by omega))) ⟨f3, fun e he => ?_⟩
          have hee : e < K.1 + 1 := he
          by_cases q2 : e = K.1
          · obtain ⟨n0, n1, n2⟩ := noteN_own (G := K) (p := p) (s := 0) (x := x)
            rw [q2, n0, n2]
            exact ⟨fp', fx⟩
          · rw [noteN_ne q2]
            have := hF.2.2.2.2.2.2.2.2.2.2.2 e (by omega)
            obtain ⟨w1, w2, w3⟩ := fe e q2
            exact ⟨w1.trans this.1, w3.trans this.2⟩
        refine mside (fun y ν' => nI (K.1 + 1) = y ∧ Rel μ1 ν') (fun _ ν1 m1 => ?_) (fun z => absurd q z)
        refine ⟨rfl, co, r, U, T, fp, sd, I, G, noteN K p 0 x, ?_, f1, m1⟩
        refine ⟨hv, hA.2.1, hA.2.2.1, hA.2.2.2.1, hA.2.2.2.2.1, hA.2.2.2.2.2.1, hA.2.2.2.2.2.2.1, ⟨by show K.1 + 1 ≤ 20; omega, fun e he => ?_⟩⟩
        have hee : e < K.1 + 1 := he
        by_cases q2 : e = K.1
        · obtain ⟨n0, n1, n2⟩ := noteN_own (G := K) (p := p) (s := 0) (x := x)
          rw [q2, n0, n2]
          exact ⟨hp, x2⟩
        · rw [noteN_ne q2]
          exact hK.2 e (by omega)
      · exact mside (fun y ν' => (-1000000004 : Int32) = y ∧ Rel μ ν') (fun z => absurd z q) (fun _ => done hA hF hM)
    · refine F_within0 hc ⟨fun z => absurd (by decide) z, fun _ => ?_⟩
      exact M_isPost_in hM hv hp ⟨fun _ => MW_out hc ⟨fun z => absurd (by decide) z, fun _ => done hA hF hM⟩, fun z => absurd z (by decide)⟩
  · refine F_isPost_out hF hv ho ⟨fun z => absurd (by decide) z, fun _ => ?_⟩
    exact M_isPost_out hM hv ho ⟨fun z => absurd (by decide) z, fun _ => done hA hF hM⟩
theorem P_tear {μ ν : Mem} (h : Rel μ ν) : w_X6_tear μ (fun x μ' => w_X7_tear ν (fun y ν' => x = y ∧ Rel μ' ν')) := by
  obtain ⟨co, r, U, T, fp, sd, I, G, K, hA, hF, hM⟩ := h
  have e3 := hF.2.2.2.2.2.2.2.2.2.1.1
  have b3 := hF.2.2.2.2.2.2.2.2.2.2.1
  have e37 := hM.2.2.2.2.2.2.2.1.1
  have e39 := hM.2.2.2.2.2.2.2.2.1
  unfold w_X6_tear w_X7_tear
  intro x1 h1 μ2 h2 μ3 h3 y1 k1 ν2 k2 ν3 k3
  subst h2 h3 k2 k3
  refine ⟨by rw [h1, k1, e3, b3, e37, e39], co, r, U, T, fp, sd, I, (0, G.2), (0, K.2), ?_, ?_, ?_⟩
  · exact ⟨hA.1, hA.2.1, hA.2.2.1, hA.2.2.2.1, hA.2.2.2.2.1, hA.2.2.2.2.2.1, ⟨Nat.zero_le _, fun e he => absurd he (Nat.not_lt_zero _)⟩, ⟨Nat.zero_le _, fun e he => absurd he (Nat.not_lt_zero _)⟩⟩
  · refine hF.notes rfl (fun k hk => by rw [sI_r (by omega), sI_r (by omega)]) ⟨?_, fun e he => absurd he (Nat.not_lt_zero _)⟩ ⟨?_, fun e he => absurd he (Nat.not_lt_zero _)⟩
    · rw [sI_ne1 (by decide), sI_same]
    · rw [sI_same]
  · refine hM.notes rfl (fun k hk _ _ => by rw [sI_r (by omega), sI_r (by omega)]) (fun j j1 j2 => by rw [sI_ne2 j2, sI_ne2 j1]) ⟨?_, fun e he => absurd he (Nat.not_lt_zero _)⟩ ⟨?_, fun e he => absurd he (Nat.not_lt_zero _)⟩
    · rw [sI_ne2 (by decide), sI_same]
    · rw [sI_same]
def dwn (k : Nat) : Int32 := if k = 0 then -1 else nI (k - 1)
theorem dwn_s (k : Nat) : nI k + (-1) = dwn k := by
  unfold dwn
  by_cases q : k = 0
  · rw [if_pos q, q]; decide
  · rw [if_neg q]
    have := z_m1 (k - 1)
    rw [show k - 1 + 1 = k by omega] at this
    exact this
theorem dwn_1 {k : Nat} : nI k - nI 1 = dwn k := by
  rw [← dwn_s, Int32.sub_eq_add_neg]; rfl
theorem P_judge {μ ν : Mem} (h : Rel μ ν) : w_X6_judge μ (fun x => w_X7_judge ν (fun y => x = y)) := by
  obtain ⟨co, r, U, T, fp, sd, I, G, K, hA, hF, hM⟩ := h
  have hv := hA.1
  have hn := hv.2.2.2.1
  have hK := hA.2.2.2.2.2.2.2
  have b3 := hF.2.2.2.2.2.2.2.2.2.2
  have e39 := hM.2.2.2.2.2.2.2.2
  have hrp := hA.2.1.2.2.2.2.2.2.2.2.2.1
  have hsz := hv.2.2.2.2.2.2.2.2.1
  have key : ∀ Q : Int32 → Prop, Q (optI (fnd (fun e => decide (¬ r (9 + K.2 e 0) = K.2 e 2)) K.1 0)) → w_X6_judge μ Q := by
    intro Q hQ
    unfold w_X6_judge w_X6_judge_2
    intro X hX
    refine cnt_dn (P := fun i => i ≤ K.1 → Q (optI (fnd (fun e => decide (¬ r (9 + K.2 e 0) = K.2 e 2)) (K.1 - i) i)) → X (nI i)) K.1 ?_ ?_ (by omega) hQ
    · intro _ hq
      rw [Nat.sub_self] at hq
      apply hX
      unfold s_X6_judge_2
      rw [b3.1]
      exact ⟨fun _ => hq, fun q => absurd ((z_le (by omega) (by omega)).mpr (Nat.le_refl _)) q⟩
    · intro i hi ih _ hq
      rw [fnd_step hi] at hq
      have hp := (hK.2 i hi).1
      have hx := (hK.2 i hi).2
      have hj := hrp _ hp
      have hs9 := hsz _ hp
      apply hX
      unfold s_X6_judge_2
      rw [b3.1, z_le (by omega) (by omega), z_le (by omega) (by omega)]
      refine ⟨fun q => absurd hi (by omega), fun _ => ⟨fun q => absurd q (by omega), fun _ => ?_⟩⟩
      refine F_at (n := 20) (by decide) (by decide) (by omega) ?_
      rw [(b3.2 i hi).1]
      refine F_at (n := 6) (st_n3 st_25) (by decide) (by omega) ?_
      rw [(hF.2.2.2.1.2.1 _ hp).2.2]
      refine F_at (n := 20) (by decide) (by decide) (by omega) ?_
      rw [(b3.2 i hi).2]
      simp (disch := omega) only [z_le, z_lt, z_eq, z_lt0, z_0le, z_eq0, z_le0, z_0lt, z_cl, z_in, z_add, z_mul, z_m1ne, z_m1ne', z_m1lt0, z_m1lt, z_ltm1, forall_eq, true_implies, false_implies, implies_true, true_and, and_true, false_and, and_false, not_true_eq_false, not_false_eq_true, ite_true, ite_false]
      refine ⟨fun q => ?_, fun q => ?_⟩
      · rw [if_neg (by simpa using q)] at hq
        exact ih (by omega) hq
      · rw [if_pos (by simpa using q)] at hq
        exact hq
  refine key _ ?_
  unfold w_X7_judge
  intro x1 hx1
  rw [e39.1, dwn_1] at hx1
  subst hx1
  unfold w_X7_judge_9
  intro X hX
  have all : ∀ k, k ≤ K.1 → X (optI (fnd (fun e => decide (¬ r (9 + K.2 e 0) = K.2 e 2)) (K.1 - k) k)) (dwn k) := by
    intro k
    induction k with
    | zero =>
      intro _
      apply hX
      unfold s_X7_judge_9
      refine ⟨fun _ => ?_, fun q => absurd (by decide) q⟩
      rfl
    | succ k ih =>
      intro hk
      have ih := ih (by omega)
      rw [fnd_step (by omega)] at ih
      have hp := (hK.2 k hk).1
      have hx := (hK.2 k hk).2
      have hj := hrp _ hp
      have hs9 := hsz _ hp
      have ek := (e39.2 k hk).1
      have ek2 := (e39.2 k hk).2
      have e14 := hM.2.1 (9 + K.2 k 0) (by omega)
      have ed : dwn (k + 1) = nI k := by unfold dwn; rw [if_neg (by omega)]; rfl
      rw [ed]
      apply hX
      unfold s_X7_judge_9 w_X7_judge_47
      simp (disch := omega) only [z_le, z_lt, z_eq, z_lt0, z_0le, z_eq0, z_le0, z_0lt, z_cl, z_in, z_add, z_mul, z_m1ne, z_m1ne', z_m1lt0, z_m1lt, z_ltm1, forall_eq, true_implies, false_implies, implies_true, true_and, and_true, false_and, and_false, not_true_eq_false, not_false_eq_true, ite_true, ite_false, ek, ek2, e14, dwn_s]
      refine ⟨by omega, by omega, by omega, fun q => ?_, fun q => ?_⟩
      · rw [if_neg (by simpa using q)] at ih
        exact ih
      · rw [if_pos (by simpa using q)] at ih
        exact ih
  have := all K.1 (Nat.le_refl _)
  rw [Nat.sub_self] at this
  exact this
/-! images -/
theorem P_seed {μ ν : Mem} {a : Int32} (h : Rel μ ν) : w_X6_seed a μ (fun x μ' => w_X7_seed a ν (fun y ν' => x = y ∧ Rel μ' ν')) := by
  obtain ⟨co, r, U, T, fp, sd, I, G, K, hA, hF, hM⟩ := h
  have e10 := hF.2.2.2.2.2.2.2.1
  have m0 := hM.2.2.2.2.2.1
  unfold w_X6_seed w_X7_seed
  by_cases q : 0 ≤ a
  · refine ⟨fun _ => ?_, fun z => absurd q z⟩
    obtain ⟨j, hj, rfl⟩ := nI_of (Int32.not_lt.mpr q)
    intro x1 hx1 μ2 hμ2
    refine ⟨fun _ => ?_, fun z => absurd q z⟩
    intro y1 hy1 ν2 hν2
    rw [nI_l hj] at hν2
    rw [m0, lN_i] at hy1
    rw [e10] at hx1
    subst hμ2 hν2
    exact ⟨hx1.trans hy1.symm, co, r, U, T, fp, j, I, G, K, ⟨hA.1, hA.2.1, hA.2.2.1, hA.2.2.2.1, hj, hA.2.2.2.2.2⟩, hF.seed, hM.seed⟩
  · exact ⟨fun z => absurd z q, fun _ => ⟨fun z => absurd z q, fun _ => done hA hF hM⟩⟩
theorem F_image_in {i : Nat} {μ : Mem} {Q : Option Nat → Prop} (hi : i ≤ 1) (h : Q (some (224 + 6 * i))) : w_X6_imageOf (nI i) μ Q := by
  unfold w_X6_imageOf
  simp (disch := omega) only [z_le, z_lt, z_eq, z_lt0, z_0le, z_eq0, z_le0, z_0lt, z_cl, z_in, z_add, z_mul, z_m1ne, z_m1ne', z_m1lt0, z_m1lt, z_ltm1, forall_eq, true_implies, false_implies, implies_true, true_and, and_true, false_and, and_false, not_true_eq_false, not_false_eq_true, ite_true, ite_false]
  refine ⟨fun q => absurd q (by omega), fun _ => ⟨fun q => absurd q (by omega), fun _ => ⟨by omega, st_img i (by omega), h⟩⟩⟩
theorem F_image_out {a : Int32} {μ : Mem} {Q : Option Nat → Prop} (ha : a < nI 0 ∨ nI 1 < a) (h : Q none) : w_X6_imageOf a μ Q := by
  unfold w_X6_imageOf
  refine ⟨fun _ => h, fun q => ⟨fun _ => h, fun q2 => ?_⟩⟩
  exfalso
  rcases ha with z | z
  · exact q z
  · apply q2
    rw [Int32.le_iff_toInt_le]
    rw [Int32.lt_iff_toInt_lt] at z
    have e1 : (nI 1).toInt = 1 := by decide
    have e2 : (nI 2).toInt = 2 := by decide
    omega
theorem RF.imgs {μ μ1 : Mem} {co : Co} {r : Ro} {U : Un} {T : Tx} {fp : Int32} {sd : Nat} {I I1 : Im} {G K : Gt} (h : RF μ co r U T fp sd I G K) (h2 : μ1.2 = μ.2) (hf : ∀ k, ¬ (224 ≤ k ∧ k < 237) → μ1.1 k = μ.1 k) (hi : ImF μ1 (co 0 3) I1) : RF μ1 co r U T fp sd I1 G K := by
  obtain ⟨a1, a2, a3, a4, a5, a6, a7, a8, a9, a10, a11⟩ := h
  have hd := co_far a1.2.1
  have hd0 := co_far a1.1
  refine ⟨by rw [h2]; exact a1, ?_, ?_, a4.fr (fun k _ _ => hf k (by omega)), a5.fr (fun k _ _ => hf k (by omega)), a6.fr (fun k _ _ => hf k (by omega)), ?_, ?_, hi, a10.fr (fun k _ _ => hf k (by omega)), a11.fr (fun k _ _ => hf k (by omega))⟩
  · rw [h2]; exact a2.fr a1.1 (fun k _ _ => hf k (by omega))
  · rw [h2, hf (μ.2.2 1 + 5) (by omega)]; exact a3
  · rw [hf 1 (by omega)]; exact a7
  · rw [hf 0 (by omega)]; exact a8
theorem RM.imgs {ν ν1 : Mem} {co : Co} {r : Ro} {U U1 : Un} {T : Tx} {fp : Int32} {sd : Nat} {I I1 : Im} {G K : Gt} (h : RM ν co r U T fp sd I G K) (hf : ∀ k, k ≠ 0 → k ≠ 21 → k ≠ 22 → ν1.1 k = ν.1 k) (h0 : ∀ j, j ≠ 32 → ν1.1 0 j = ν.1 0 j) (hl : ν1.2.1 0 = ν.2.1 0) (hp : PaM ν1 U1) (hi : ImM ν1 I1) : RM ν1 co r U1 T fp sd I1 G K := by
  obtain ⟨a1, a2, a3, a4, a5, a6, a7, a8, a9⟩ := h
  exact ⟨a1.fr2 (fun k _ _ => hf k (by omega) (by omega) (by omega)) (fun j _ _ => h0 j (by omega)), a2.fr (hf 14 (by decide) (by decide) (by decide)), hp, a4.fr (hf 1 (by decide) (by decide) (by decide)) (h0 0 (by decide)), by rw [h0 2 (by decide)]; exact a5, by rw [hl]; exact a6, hi, a8.fr (hf 19 (by decide) (by decide) (by decide)) (h0 37 (by decide)), a9.fr (hf 20 (by decide) (by decide) (by decide)) (h0 39 (by decide))⟩
theorem PaF.nil {μ μ1 : Mem} {n : Nat} {U : Un} (h : PaF μ n U) (e1 : μ1.1 41 1 = μ.1 41 1) (e2 : μ1.1 41 2 = nI 0) : PaF μ1 n (0, U.2) := by
  obtain ⟨o, ho, h1, h2, h3⟩ := h
  exact ⟨o, ho, e1.trans h1, e2, fun i hi => absurd hi (Nat.not_lt_zero _)⟩
theorem PaM.nil {ν ν1 : Mem} {U : Un} (h : PaM ν U) (e1 : ν1.1 0 33 = ν.1 0 33) (e2 : ν1.1 0 32 = nI 0) : PaM ν1 (0, U.2) := by
  obtain ⟨o, ho, h1, h2, h3⟩ := h
  exact ⟨o, ho, e1.trans h1, e2, fun i hi => absurd hi (Nat.not_lt_zero _)⟩
theorem RF.nil {μ : Mem} {co : Co} {r : Ro} {U : Un} {T : Tx} {fp : Int32} {sd : Nat} {I : Im} {G K : Gt} (h : RF μ co r U T fp sd I G K) : RF (sI μ 41 2 (nI 0)) co r (0, U.2) T fp sd I G K :=
  h.past ⟨rfl, fun k hk => sI_r (by omega)⟩ (h.2.2.2.2.1.nil (sI_ne2 (by decide)) sI_same)
theorem RM.nil {ν : Mem} {co : Co} {r : Ro} {U : Un} {T : Tx} {fp : Int32} {sd : Nat} {I : Im} {G K : Gt} (h : RM ν co r U T fp sd I G K) : RM (sI ν 0 32 (nI 0)) co r (0, U.2) T fp sd I G K :=
  h.past ⟨rfl, fun k _ hk => sI_r hk, fun j hj _ => sI_ne2 hj⟩ (h.2.2.1.nil (sI_ne2 (by decide)) sI_same)
theorem P_keep {μ ν : Mem} {a : Int32} (h : Rel μ ν) : w_X6_keep a μ (fun x μ' => w_X7_keep a ν (fun y ν' => x = y ∧ Rel μ' ν')) := by
  obtain ⟨co, r, U, T, fp, sd, I, G, K, hA, hF, hM⟩ := h
  have hv := hA.1
  have hn := hv.2.2.2.1
  unfold w_X6_keep w_X7_keep
  rcases z_cases a 0 1 (by decide) (by decide) with ⟨i, h1, h2, rfl⟩ | ho
  · refine F_image_in h2 ⟨fun z => (by cases z), fun b3 hb3 => ?_⟩
    cases hb3
    refine ⟨st_img i (by omega), F_become (st_img i (by omega)) st_25 (by omega) hF.2.2.2.1 hn hA.2.1.2.2.1 (fun μ1 f1 s1 => ?_)⟩
    have e10 : μ1.1 0 10 = nI sd := by rw [f1.2 0 (by omega)]; exact hF.2.2.2.2.2.2.2.1
    rw [e10]
    refine F_put (n := 2) (by decide) (by decide) (by omega) ?_
    intro μ3 h3
    subst h3
    have f2 : RF (sI μ1 236 i (nI sd)) co r U T fp sd (fun k => if k = i then some (sd, r) else I k) G K := by
      refine hF.imgs f1.1 (fun k hk => by rw [sI_r (by omega)]; exact f1.2 k (by omega)) (fun k hk => ?_)
      by_cases q : k = i
      · rw [if_pos q, q]
        dsimp only
        exact ⟨sI_same, s1.fr (fun c c1 c2 => sI_r (by omega))⟩
      · rw [if_neg q]
        have := hF.2.2.2.2.2.2.2.2.1 k hk
        rw [sI_ne2 q, f1.2 236 (by omega)]
        cases e : I k with
        | none => rw [e] at this; exact this
        | some t =>
          rw [e] at this
          exact ⟨this.1, this.2.fr (fun c c1 c2 => by rw [sI_r (by omega), f1.2 c (by omega)])⟩
    have f3 := f2.nil
    refine MW_in h1 h2 (by decide) ⟨fun _ => ?_, fun z => absurd z (by decide)⟩
    rw [z_cl (by omega)]
    refine ⟨vp_in_nI (by omega) (by decide), fun ν1 n1 => ⟨vp_in_nI (by omega) (by decide), fun ν2 n2 ν3 n3 => ?_⟩⟩
    have esd : ν1.2.1 0 = lN sd := by rw [n1]; exact hM.2.2.2.2.2.1
    rw [esd] at n2
    have hk21 : ∀ k, k ≠ 0 → k ≠ 21 → ν3.1 k = ν.1 k := by intro k k1 k2; rw [n3, sI_r k1, n2, n1]; exact sI_r k2
    have h0 : ∀ j, j ≠ 32 → ν3.1 0 j = ν.1 0 j := by intro j hj; rw [n3, sI_ne2 hj, n2, sL_1, n1, sI_ne1 (by decide)]
    have e32 : ν3.1 0 32 = nI 0 := by rw [n3, sI_same]
    have e21 : ν3.1 21 i = nI 1 ∧ ∀ k, k ≠ i → ν3.1 21 k = ν.1 21 k := by
      refine ⟨?_, fun k hk => ?_⟩
      · rw [n3, sI_ne1 (by decide), n2, sL_1, n1, sI_same]
      · rw [n3, sI_ne1 (by decide), n2, sL_1, n1, sI_ne2 hk]
    have el : ν3.2.1 (1 + i) = lN sd ∧ ∀ k, k ≠ 1 + i → ν3.2.1 k = ν.2.1 k := by
      refine ⟨?_, fun k hk => ?_⟩
      · rw [n3, n2]; exact sL_same
      · rw [n3, n2]; show (sL ν1 (1 + i) (lN sd)).2.1 k = _; rw [sL_ne hk, n1]; rfl
    unfold w_X7_keep_36
    intro X hX
    refine cnt_dn (P := fun j => j ≤ 27 → ∀ ν4 : Mem, ν4.2 = ν3.2 → (∀ k, k ≠ 22 → ν4.1 k = ν3.1 k) → (∀ t, t < j → ν4.1 22 (27 * i + t) = nI (r t)) → (∀ t, t < 27 * i ∨ 27 * i + 27 ≤ t → ν4.1 22 t = ν.1 22 t) → X (nI j) ν4) 27 ?_ ?_ (by decide) ν3 rfl (fun _ _ => rfl) (fun t ht => by omega) (fun t ht => by rw [hk21 22 (by decide) (by decide)])
    · intro _ ν4 g2 gk gj go
      apply hX
      unfold s_X7_keep_36
      refine ⟨fun _ => ?_, fun q => absurd (by decide) q⟩
      refine ⟨rfl, co, r, (0, U.2), T, fp, sd, (fun k => if k = i then some (sd, r) else I k), G, K, ?_, f3, ?_⟩
      · refine ⟨hv, hA.2.1, ⟨Nat.zero_le _, fun k hk => absurd hk (Nat.not_lt_zero _)⟩, hA.2.2.2.1, hA.2.2.2.2.1, fun k q hq => ?_, hA.2.2.2.2.2.2⟩
        dsimp only at hq
        split at hq
        · cases hq; exact ⟨hA.2.2.2.2.1, hA.2.1⟩
        · exact hA.2.2.2.2.2.1 k q hq
      · refine hM.imgs (fun k k1 k2 k3 => by rw [gk k k3, hk21 k k1 k2]) (fun j hj => by rw [gk 0 (by decide), h0 j hj]) (by rw [g2, el.2 0 (by omega)]) (hM.2.2.1.nil (by rw [gk 0 (by decide), h0 33 (by decide)]) (by rw [gk 0 (by decide), e32])) (fun k hk => ?_)
        by_cases q : k = i
        · rw [if_pos q, q]
          dsimp only
          exact ⟨by rw [gk 21 (by decide)]; exact e21.1, by rw [g2]; exact el.1, fun t ht => gj t ht⟩
        · rw [if_neg q]
          have := hM.2.2.2.2.2.2.1 k hk
          rw [gk 21 (by decide), e21.2 k q, g2, el.2 (1 + k) (by omega)]
          cases e : I k with
          | none => rw [e] at this; exact this
          | some t =>
            rw [e] at this
            exact ⟨this.1, this.2.1, fun u hu => by rw [go (27 * k + u) (by omega)]; exact this.2.2 u hu⟩
    · intro j hj ih _ ν4 g2 gk gj go
      apply hX
      unfold s_X7_keep_36
      have e14 : ν4.1 14 j = nI (r j) := by rw [gk 14 (by decide), hk21 14 (by decide) (by decide)]; exact hM.2.1 j hj
      simp (disch := omega) only [z_le, z_lt, z_eq, z_lt0, z_0le, z_eq0, z_le0, z_0lt, z_cl, z_in, z_add, z_mul, z_m1ne, z_m1ne', z_m1lt0, z_m1lt, z_ltm1, forall_eq, true_implies, false_implies, implies_true, true_and, and_true, false_and, and_false, not_true_eq_false, not_false_eq_true, ite_true, ite_false, e14]
      refine ⟨fun q => absurd q (by omega), fun _ => ⟨hj, by omega, ?_⟩⟩
      refine ih (by omega) _ (by exact g2) (fun k hk => by rw [sI_r hk]; exact gk k hk) (fun t ht => ?_) (fun t ht => ?_)
      · rw [sI_get]
        by_cases q : t = j
        · rw [if_pos ⟨rfl, by omega⟩, q]
        · rw [if_neg (fun z => q (by omega))]; exact gj t (by omega)
      · rw [sI_ne2 (by omega)]; exact go t ht
  · refine F_image_out ho ⟨fun _ => ?_, fun b3 hb3 => (by cases hb3)⟩
    exact MW_out ho ⟨fun z => absurd (by decide) z, fun _ => done hA hF hM⟩
theorem P_goBack {μ ν : Mem} {a : Int32} (h : Rel μ ν) : w_X6_goBack a μ (fun x μ' => w_X7_goBack a ν (fun y ν' => x = y ∧ Rel μ' ν')) := by
  obtain ⟨co, r, U, T, fp, sd, I, G, K, hA, hF, hM⟩ := h
  have hv := hA.1
  have hn := hv.2.2.2.1
  unfold w_X6_goBack w_X7_goBack
  rcases z_cases a 0 1 (by decide) (by decide) with ⟨i, h1, h2, rfl⟩ | ho
  · refine F_image_in h2 ⟨fun z => (by cases z), fun b3 hb3 => ?_⟩
    cases hb3
    refine ⟨st_img i (by omega), ?_⟩
    refine F_at (n := 2) (by decide) (by decide) (by omega) ?_
    have fi := hF.2.2.2.2.2.2.2.2.1 i (by omega)
    have mi := hM.2.2.2.2.2.2.1 i (by omega)
    cases e : I i with
    | none =>
      rw [e] at fi mi
      dsimp only at fi mi
      rw [fi]
      refine ⟨fun z => absurd rfl z, fun _ => ?_⟩
      refine MW_in h1 h2 (by decide) ⟨fun _ => ?_, fun z => absurd z (by decide)⟩
      rw [z_cl (by omega), mi]
      exact ⟨vp_in_nI (by omega) (by decide), fun z => absurd (by decide) z, fun _ => done hA hF hM⟩
    | some t =>
      rw [e] at fi mi
      dsimp only at fi mi
      have ht := hA.2.2.2.2.2.1 i t e
      rw [fi.1]
      refine ⟨fun _ => ?_, fun z => absurd z (by rw [z_m1ne ht.1]; exact id)⟩
      refine F_become st_25 (st_img i (by omega)) (by omega) fi.2 hn ht.2.2.2.1 (fun μ1 f1 s1 => ?_)
      intro μ2 g2 μ3 g3
      subst g2 g3
      have f3 := ((hF.now f1.P s1).seed (s2 := t.1)).nil
      refine MW_in h1 h2 (by decide) ⟨fun _ => ?_, fun z => absurd z (by decide)⟩
      rw [z_cl (by omega), mi.1, mi.2.1]
      refine ⟨vp_in_nI (by omega) (by decide), fun _ => ⟨vp_in_nI (by omega) (by decide), fun ν1 n1 ν2 n2 => ?_⟩, fun z => absurd z (by decide)⟩
      have m2 : RM ν2 co r (0, U.2) T fp t.1 I G K := by
        rw [n2, n1]
        exact (hM.seed (s2 := t.1)).nil
      have e22 : ∀ j, j < 27 → ν2.1 22 (27 * i + j) = nI (t.2 j) := by
        intro j hj
        rw [n2, sI_ne1 (by decide), n1]
        exact mi.2.2 j hj
      unfold w_X7_goBack_41
      intro X hX
      refine cnt_dn (P := fun j => j ≤ 27 → ∀ ν4 : Mem, FrB 14 ν2 ν4 → (∀ u, u < j → ν4.1 14 u = nI (t.2 u)) → X (nI j) ν4) 27 ?_ ?_ (by decide) ν2 FrB.rf (fun u hu => by omega)
      · intro _ ν4 g4 s4
        apply hX
        unfold s_X7_goBack_41
        refine ⟨fun _ => ?_, fun q => absurd (by decide) q⟩
        refine ⟨rfl, co, t.2, (0, U.2), T, fp, t.1, I, G, K, ?_, f3, m2.now g4.M s4⟩
        exact ⟨hv, ht.2, ⟨Nat.zero_le _, fun k hk => absurd hk (Nat.not_lt_zero _)⟩, hA.2.2.2.1, ht.1, hA.2.2.2.2.2⟩
      · intro j hj ih _ ν4 g4 s4
        apply hX
        unfold s_X7_goBack_41
        have e22j : ν4.1 22 (27 * i + j) = nI (t.2 j) := by rw [g4.2 22 (by decide)]; exact e22 j hj
        simp (disch := omega) only [z_le, z_lt, z_eq, z_lt0, z_0le, z_eq0, z_le0, z_0lt, z_cl, z_in, z_add, z_mul, z_m1ne, z_m1ne', z_m1lt0, z_m1lt, z_ltm1, forall_eq, true_implies, false_implies, implies_true, true_and, and_true, false_and, and_false, not_true_eq_false, not_false_eq_true, ite_true, ite_false, e22j]
        refine ⟨fun q => absurd q (by omega), fun _ => ⟨by omega, hj, ?_⟩⟩
        refine ih (by omega) _ g4.sI (fun u hu => ?_)
        rw [sI_get]
        by_cases q : u = j
        · rw [if_pos ⟨rfl, q⟩, q]
        · rw [if_neg (fun z => q z.2)]; exact s4 u (by omega)
  · refine F_image_out ho ⟨fun _ => ?_, fun b3 hb3 => (by cases hb3)⟩
    exact MW_out ho ⟨fun z => absurd (by decide) z, fun _ => done hA hF hM⟩
