/-! ===== the reference reads a text ===== -/
def FrRm (ν ν' : Mem) : Prop := ν'.2 = ν.2 ∧ (∀ k, k ≠ 0 → ν'.1 k = ν.1 k) ∧ ∀ j, j ≠ 3 → j ≠ 4 → ν'.1 0 j = ν.1 0 j
def RdM (ν : Mem) (T : Tx) : Rs → Prop
  | .inl e => ν.1 0 4 = nI e.1 ∧ ν.1 0 3 = nI e.2
  | .inr i => ν.1 0 3 = nI i ∧ i ≤ T.1
theorem FrRm.rfl' {ν : Mem} : FrRm ν ν := ⟨rfl, fun _ _ => rfl, fun _ _ _ => rfl⟩
theorem FrRm.trans {ν ν1 ν2 : Mem} (h : FrRm ν ν1) (g : FrRm ν1 ν2) : FrRm ν ν2 :=
  ⟨g.1.trans h.1, fun k hk => (g.2.1 k hk).trans (h.2.1 k hk), fun j h2 h3 => (g.2.2 j h2 h3).trans (h.2.2 j h2 h3)⟩
theorem FrRm.put {ν : Mem} {j : Nat} {x : Int32} (h : j = 3 ∨ j = 4) : FrRm ν (sI ν 0 j x) :=
  ⟨rfl, fun k hk => sI_r hk, fun i h2 h3 => sI_ne2 (by omega)⟩
theorem TxM.rd {ν ν1 : Mem} {T : Tx} (h : TxM ν T) (f : FrRm ν ν1) : TxM ν1 T := by
  unfold TxM at h ⊢
  rw [f.2.2 0 (by decide) (by decide), f.2.1 1 (by decide)]; exact h
theorem M_letter {ν : Mem} {T : Tx} {i : Nat} {Q : Int32 → Prop} (hT : vTx T) (tx : TxM ν T) (hi : i < 1000) (h : Q (ltI T i)) : w_X7_letterAt (nI i) ν Q := by
  have h1 := hT.1
  unfold ltI at h
  unfold w_X7_letterAt
  rw [tx.1]
  simp (disch := omega) only [z_le, z_lt, z_eq, z_lt0, z_0le, z_eq0, z_le0, z_0lt, z_cl, z_in, z_add, z_mul, z_m1ne, z_m1ne', z_m1lt0, z_m1lt, z_ltm1, forall_eq, true_implies, false_implies, implies_true, true_and, and_true, false_and, and_false, not_true_eq_false, not_false_eq_true, ite_true, ite_false]
  by_cases q : i < T.1
  · rw [if_pos q] at h
    refine ⟨fun z => by omega, fun _ => ⟨by omega, ?_⟩⟩
    rw [tx.2 i q]; exact h
  · rw [if_neg q] at h
    exact ⟨fun _ => h, fun z => by omega⟩
theorem M_blanks {ν : Mem} {T : Tx} {i : Nat} {Q : Mem → Prop} (hT : vTx T) (tx : TxM ν T) (hp : ν.1 0 3 = nI i) (hi : i ≤ T.1)
    (h : ∀ ν' : Mem, FrRm ν ν' → (∀ j, j ≠ 3 → ν'.1 0 j = ν.1 0 j) → ν'.1 0 3 = nI (sk T i) → Q ν') : w_X7_blanks ν Q := by
  have h1 := hT.1
  unfold w_X7_blanks w_X7_blanks_0
  intro X hX
  have key : ∀ d a (ν1 : Mem), T.1 - a ≤ d → a ≤ T.1 → ν1.1 0 3 = nI a → sk T a = sk T i → FrRm ν ν1 → (∀ j, j ≠ 3 → ν1.1 0 j = ν.1 0 j) → X ν1 := by
    intro d
    induction d with
    | zero =>
      intro a ν1 hd ha e es fr f1
      have tx1 := tx.rd fr
      apply hX
      unfold s_X7_blanks_0
      rw [e]
      refine M_letter hT tx1 (by omega) ?_
      have el : ltI T a = -1 := by unfold ltI; rw [if_neg (by omega)]
      rw [el]
      refine ⟨fun _ => ?_, fun z => absurd z (by decide)⟩
      have := h ν1 fr f1
      rw [← es, sk_end (by omega)] at this
      exact this e
    | succ d ih =>
      intro a ν1 hd ha e es fr f1
      have tx1 := tx.rd fr
      have fin : sk T a = a → Q ν1 := by
        intro q
        have := h ν1 fr f1
        rw [← es, q] at this
        exact this e
      apply hX
      unfold s_X7_blanks_0
      rw [e]
      refine M_letter hT tx1 (by omega) ?_
      by_cases z : a < T.1
      · have el : ltI T a = nI (T.2 a) := by unfold ltI; rw [if_pos z]
        have := hT.2 a z
        rw [el, z_eq (by omega) (by decide)]
        refine ⟨fun q => fin (sk_nb q), fun q => ?_⟩
        intro μ3 e3
        rw [z_add] at e3
        subst e3
        exact ih (a + 1) _ (by omega) (by omega) sI_same ((sk_bl z q).symm.trans es) (fr.trans (FrRm.put (Or.inl rfl))) (fun j hj => by rw [sI_ne2 hj]; exact f1 j hj)
      · have el : ltI T a = -1 := by unfold ltI; rw [if_neg z]
        rw [el]
        exact ⟨fun _ => fin (sk_end (by omega)), fun z => absurd z (by decide)⟩
  exact key _ i ν (Nat.le_refl _) hi hp rfl FrRm.rfl' (fun _ _ => rfl)
theorem M_num_fin {ν ν0 : Mem} {T : Tx} {lo hi i n v : Nat} {Q : Int32 → Mem → Prop} (hlo : lo < 1000) (hhi : hi < 1000) (hi2 : i ≤ T.1) (hT : T.1 ≤ 240) (hfg : fg T i = (n, v)) (hn : n ≤ 240) (hv : v < 1000) (e3 : ν.1 0 3 = nI (sk T i)) (fr : FrRm ν0 ν)
    (h1 : ∀ ν' : Mem, FrRm ν0 ν' → numA T lo hi i = .inr (nx T i) → RdM ν' T (.inr (nx T i)) → Q (nI (val T i)) ν')
    (h2 : ∀ (e : Nat × Nat) (ν' : Mem), FrRm ν0 ν' → numA T lo hi i = .inl e → RdM ν' T (.inl e) → Q (-1) ν') : w_X7_number_64 (nI lo) (nI hi) (nI (sk T i + n)) (nI v) ν Q := by
  have hk := sk_le hi2
  have hval : val T i = v := by unfold val; rw [hfg]
  have hnx : nx T i = sk T i + n := by unfold nx; rw [hfg]
  have hle := nx_le hi2
  have bad : ∀ c, numA T lo hi i = .inl (c, sk T i) → w_X7_number_104 (nI lo) (nI hi) (nI c) ν Q := by
    intro c q
    unfold w_X7_number_104 w_X7_fails
    intro μ1 e1
    subst e1
    exact h2 _ _ (fr.trans (FrRm.put (by omega))) q ⟨sI_same, by rw [sI_ne2 (by decide)]; exact e3⟩
  unfold w_X7_number_64 w_X7_number_93
  intro x11 e11
  rw [e3, z_sub (by omega), Nat.add_sub_cancel_left] at e11
  subst e11
  rw [z_eq0 (by omega)]
  refine ⟨fun q => ⟨fun z => absurd q z, fun _ => bad 1 (by unfold numA; rw [hfg, if_pos q])⟩, fun q => ?_⟩
  rw [z_lt (by decide) (by omega)]
  have b2 : (3 < n ∨ v < lo ∨ hi < v) → (¬ n = 0 → w_X7_number_104 (nI lo) (nI hi) (nI 2) ν Q) ∧ (n = 0 → w_X7_number_104 (nI lo) (nI hi) (nI 1) ν Q) := by
    intro q2
    refine ⟨fun _ => bad 2 ?_, fun z => absurd z q⟩
    unfold numA
    rw [hfg, hval, if_neg q, if_pos q2]
  refine ⟨fun q2 => b2 (Or.inl q2), fun q2 => ?_⟩
  by_cases q3 : lo ≤ v ∧ v ≤ hi
  · refine MW_in q3.1 q3.2 (by omega) ⟨fun _ => ?_, fun z => absurd z (by decide)⟩
    intro μ14 e14
    subst e14
    have en : numA T lo hi i = .inr (nx T i) := by
      unfold numA
      rw [hfg, hval, if_neg q, if_neg]
      show ¬ (3 < n ∨ v < lo ∨ hi < v)
      omega
    rw [← hval]
    refine h1 _ (fr.trans (FrRm.put (by omega))) en ⟨?_, hle⟩
    rw [hnx, sI_same]
  · refine MW_out (lo := lo) (hi := hi) ?_ ⟨fun z => absurd rfl z, fun _ => b2 (by omega)⟩
    rw [z_lt (by omega) (by omega), z_lt (by omega) (by omega)]
    omega
theorem M_number {ν : Mem} {T : Tx} {lo hi i : Nat} {Q : Int32 → Mem → Prop} (hT : vTx T) (tx : TxM ν T) (rd : RdM ν T (.inr i)) (hlo : lo < 1000) (hhi : hi < 1000)
    (h1 : ∀ ν' : Mem, FrRm ν ν' → numA T lo hi i = .inr (nx T i) → RdM ν' T (.inr (nx T i)) → Q (nI (val T i)) ν')
    (h2 : ∀ (e : Nat × Nat) (ν' : Mem), FrRm ν ν' → numA T lo hi i = .inl e → RdM ν' T (.inl e) → Q (-1) ν') : w_X7_number (nI lo) (nI hi) ν Q := by
  have hT1 := hT.1
  have hi2 := rd.2
  have hk := sk_le hi2
  unfold w_X7_number
  refine M_blanks hT tx rd.1 rd.2 (fun ν2 fr f1 e3 => ?_)
  have tx2 := tx.rd fr
  intro x3 ex
  rw [e3] at ex
  subst ex
  unfold w_X7_number_12
  intro X hX
  have key : ∀ d a n v, T.1 - a ≤ d → a ≤ T.1 → fgv n v → a = sk T i + n → fgs T a n v = fg T i → X (nI a) (nI v) := by
    intro d
    have fin : ∀ a n v, a = sk T i + n → a ≤ T.1 → fgv n v → fgs T a n v = fg T i → fgs T a n v = (n, v) → w_X7_number_64 (nI lo) (nI hi) (nI a) (nI v) ν2 Q := by
      intro a n v ea ha hv es q
      rw [q] at es
      rw [ea]
      exact M_num_fin hlo hhi hi2 hT1 es.symm (by omega) hv.2.2.2 e3 fr h1 h2
    induction d with
    | zero =>
      intro a n v hd ha hv ea es
      apply hX
      unfold s_X7_number_12
      refine M_letter hT tx2 (by omega) ?_
      have el : ltI T a = -1 := by unfold ltI; rw [if_neg (by omega)]
      rw [el]
      refine MW_out (lo := 48) (hi := 57) (Or.inl (by decide)) ⟨fun _ => fin a n v ea ha hv es (fg_end (by omega)), fun z => absurd rfl z⟩
    | succ d ih =>
      intro a n v hd ha hv ea es
      apply hX
      unfold s_X7_number_12
      refine M_letter hT tx2 (by omega) ?_
      by_cases z : a < T.1
      · have el : ltI T a = nI (T.2 a) := by unfold ltI; rw [if_pos z]
        have hl := hT.2 a z
        rw [el]
        by_cases q : 48 ≤ T.2 a ∧ T.2 a ≤ 57
        · refine MW_in q.1 q.2 (by decide) ⟨fun z2 => absurd z2 (by decide), fun _ => ?_⟩
          unfold w_X7_number_56
          rw [e3, ea, z_sub (by omega), Nat.add_sub_cancel_left, ← ea, z_le (by decide) (by omega)]
          have nxt : ∀ v1, v1 = (if n < 3 then 10 * v + T.2 a - 48 else v) → ∀ x10 : Int32, x10 = nI a + nI 1 → X x10 (nI v1) := by
            intro v1 hv1 x10 e10
            rw [z_add] at e10
            subst e10
            exact ih (a + 1) (n + 1) v1 (by omega) (by omega) (by rw [hv1]; exact fgv_s hv q) (by omega) (by rw [hv1, ← fg_dig z q]; exact es)
          refine ⟨fun z2 => nxt v (by rw [if_neg (by omega)]), fun z2 => ?_⟩
          refine M_letter hT tx2 (by omega) ?_
          have hv4 := hv.2.2.2
          rw [el, z_mul, z_add (10 * v), z_sub (by omega)]
          exact nxt _ (by rw [if_pos (by omega)])
        · refine MW_out (lo := 48) (hi := 57) ?_ ⟨fun _ => fin a n v ea ha hv es (fg_non q), fun z2 => absurd rfl z2⟩
          rw [z_lt (by omega) (by decide), z_lt (by decide) (by omega)]
          omega
      · have el : ltI T a = -1 := by unfold ltI; rw [if_neg z]
        rw [el]
        refine MW_out (lo := 48) (hi := 57) (Or.inl (by decide)) ⟨fun _ => fin a n v ea ha hv es (fg_end (by omega)), fun z => absurd rfl z⟩
  exact key _ (sk T i) 0 0 (Nat.le_refl _) hk ⟨fun _ => rfl, fun _ => by decide, fun _ => by decide, by decide⟩ rfl rfl
theorem M_ends {ν : Mem} {T : Tx} {i : Nat} {Q : Int32 → Mem → Prop} (hT : vTx T) (tx : TxM ν T) (rd : RdM ν T (.inr i))
    (h1 : ∀ (i' : Nat) (ν' : Mem), FrRm ν ν' → endA T i = .inr i' → RdM ν' T (.inr i') → Q (nI 1) ν')
    (h2 : ∀ (e : Nat × Nat) (ν' : Mem), FrRm ν ν' → endA T i = .inl e → RdM ν' T (.inl e) → Q (nI 0) ν') : w_X7_ends ν Q := by
  have hT1 := hT.1
  have hk := sk_le rd.2
  unfold w_X7_ends
  refine M_blanks hT tx rd.1 rd.2 (fun ν2 fr f1 e3 => ?_)
  have tx2 := tx.rd fr
  rw [e3]
  refine M_letter hT tx2 (by omega) ⟨fun q => ?_, fun q => ?_⟩
  · have q1 : sk T i < T.1 ∧ T.2 (sk T i) = 59 := by
      unfold ltI at q
      by_cases z : sk T i < T.1
      · rw [if_pos z] at q
        have := hT.2 _ z
        exact ⟨z, (z_eq (by omega) (by decide)).mp q⟩
      · rw [if_neg z] at q; exact absurd q (by decide)
    intro μ5 e5
    rw [z_add] at e5
    subst e5
    exact h1 _ _ (fr.trans (FrRm.put (by omega))) (by unfold endA; rw [if_pos q1]) ⟨sI_same, by omega⟩
  · unfold w_X7_fails
    intro μ1 e1
    subst e1
    refine ⟨Or.inl rfl, h2 (1, sk T i) _ (fr.trans (FrRm.put (by omega))) ?_ ⟨sI_same, by rw [sI_ne2 (by decide)]; exact e3⟩⟩
    unfold endA
    rw [if_neg]
    intro z
    apply q
    unfold ltI
    rw [if_pos z.1, z.2]
/-- what a clause may touch -/
def FrC (ν ν' : Mem) : Prop := ν'.2 = ν.2 ∧ (∀ k, (k = 1 ∨ 8 ≤ k) → ν'.1 k = ν.1 k) ∧ ∀ j, (j = 0 ∨ 11 ≤ j) → ν'.1 0 j = ν.1 0 j
theorem FrC.trans {ν ν1 ν2 : Mem} (h : FrC ν ν1) (g : FrC ν1 ν2) : FrC ν ν2 :=
  ⟨g.1.trans h.1, fun k hk => (g.2.1 k hk).trans (h.2.1 k hk), fun j h2 => (g.2.2 j h2).trans (h.2.2 j h2)⟩
theorem FrRm.c {ν ν1 : Mem} (h : FrRm ν ν1) : FrC ν ν1 := ⟨h.1, fun k h1 => h.2.1 k (by omega), fun j h1 => h.2.2 j (by omega) (by omega)⟩
theorem FrC.put {ν : Mem} {k j : Nat} {x : Int32} (h : 2 ≤ k ∧ k ≤ 7) : FrC ν (sI ν k j x) :=
  ⟨rfl, fun a h2 => sI_r (by omega), fun i hi => sI_ne1 (by omega)⟩
theorem FrC.flag {ν : Mem} {j : Nat} {x : Int32} (h : 1 ≤ j ∧ j ≤ 10) : FrC ν (sI ν 0 j x) :=
  ⟨rfl, fun a h2 => sI_r (by omega), fun i hi => sI_ne2 (by omega)⟩
theorem TxM.c {ν ν1 : Mem} {T : Tx} (h : TxM ν T) (f : FrC ν ν1) : TxM ν1 T := by
  unfold TxM at h ⊢
  rw [f.2.2 0 (Or.inl rfl), f.2.1 1 (Or.inl rfl)]; exact h
theorem M_reads2 {ν : Mem} {T : Tx} {b o a1 a2 a3 a4 p : Nat} {Q : Int32 → Mem → Prop} (hT : vTx T) (tx : TxM ν T) (rd : RdM ν T (.inr p)) (hb : 2 ≤ b ∧ b ≤ 7) (ho : o + 1 < sM.2.2 b) (hN : sM.2.2 b < 2147483648) (g1 : a1 < 1000) (g2 : a2 < 1000) (g3 : a3 < 1000) (g4 : a4 < 1000)
    (h1 : ∀ ν' : Mem, FrRm (sI (sI ν b o (nI (val T p))) b (o + 1) (nI (val T (nx T p)))) ν' → bnd (numA T a3 a4) (bnd (numA T a1 a2) (.inr p)) = .inr (nx T (nx T p)) → RdM ν' T (.inr (nx T (nx T p))) → Q (nI 1) ν')
    (h2 : ∀ (e : Nat × Nat) (ν' : Mem), FrC ν ν' → bnd (numA T a3 a4) (bnd (numA T a1 a2) (.inr p)) = .inl e → RdM ν' T (.inl e) → Q (nI 0) ν') : w_X7_reads2 b (nI o) (nI a1) (nI a2) (nI a3) (nI a4) ν Q := by
  unfold w_X7_reads2
  refine M_number hT tx rd g1 g2 (fun ν2 f2 q2 r2 => ?_) (fun e ν2 f2 q2 r2 => ?_)
  · refine ⟨vp_in_nI (by omega) hN, fun ν3 k3 => ⟨vp_in_nI (by omega) hN, ?_⟩⟩
    rw [z_cl (by omega)] at k3 ⊢
    subst k3
    have hval := val_lt rd.2
    rw [sI_same, z_0le (by omega)]
    refine ⟨fun _ => ?_, fun z => absurd trivial z⟩
    have f3 : FrC ν (sI ν2 b o (nI (val T p))) := f2.c.trans (FrC.put hb)
    have r3 : RdM (sI ν2 b o (nI (val T p))) T (.inr (nx T p)) := ⟨by rw [sI_ne1 (by omega)]; exact r2.1, r2.2⟩
    have e1 : bnd (numA T a3 a4) (bnd (numA T a1 a2) (.inr p)) = numA T a3 a4 (nx T p) := by
      show bnd (numA T a3 a4) (numA T a1 a2 p) = _
      rw [q2]; rfl
    rw [e1] at h1 h2
    refine M_number hT (tx.c f3) r3 g3 g4 (fun ν5 f5 q5 r5 => ?_) (fun e ν5 f5 q5 r5 => ?_)
    · rw [z_add]
      refine ⟨vp_in_nI ho hN, fun ν6 k6 => ⟨vp_in_nI ho hN, ?_⟩⟩
      rw [z_cl (by omega)] at k6 ⊢
      subst k6
      have hval2 := val_lt r2.2
      rw [sI_same, z_lt0 (by omega)]
      refine ⟨fun z => z.elim, fun _ => h1 _ ⟨?_, fun k hk => ?_, fun j j3 j4 => ?_⟩ q5 ⟨by rw [sI_ne1 (by omega)]; exact r5.1, r5.2⟩⟩
      · exact f5.1.trans f2.1
      · by_cases q : k = b
        · subst q
          funext j
          by_cases y1 : j = o + 1
          · subst y1; rw [sI_same, sI_same]
          · rw [sI_ne2 y1, sI_ne2 y1, f5.2.1 _ hk]
            by_cases y0 : j = o
            · subst y0; rw [sI_same, sI_same]
            · rw [sI_ne2 y0, sI_ne2 y0, f2.2.1 _ hk]
        · rw [sI_r q, sI_r q, sI_r q, f5.2.1 _ hk, sI_r q, f2.2.1 _ hk]
      · rw [sI_ne1 (by omega), f5.2.2 j j3 j4, sI_ne1 (by omega), f2.2.2 j j3 j4, sI_ne1 (by omega), sI_ne1 (by omega)]
    · rw [z_add]
      refine ⟨vp_in_nI ho hN, fun ν6 k6 => ⟨vp_in_nI ho hN, ?_⟩⟩
      rw [z_cl (by omega)] at k6 ⊢
      subst k6
      rw [sI_same]
      refine ⟨fun _ => h2 e _ (f3.trans (f5.c.trans (FrC.put hb))) q5 ⟨by rw [sI_ne1 (by omega)]; exact r5.1, by rw [sI_ne1 (by omega)]; exact r5.2⟩, fun z => absurd (by decide) z⟩
  · refine ⟨vp_in_nI (by omega) hN, fun ν3 k3 => ⟨vp_in_nI (by omega) hN, ?_⟩⟩
    rw [z_cl (by omega)] at k3 ⊢
    subst k3
    rw [sI_same]
    refine ⟨fun z => absurd z (by decide), fun _ => h2 e _ (f2.c.trans (FrC.put hb)) ?_ ⟨by rw [sI_ne1 (by omega)]; exact r2.1, by rw [sI_ne1 (by omega)]; exact r2.2⟩⟩
    show bnd (numA T a3 a4) (numA T a1 a2 p) = _
    rw [q2]; rfl
