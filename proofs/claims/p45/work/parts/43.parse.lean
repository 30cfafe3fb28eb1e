/-! ===== a text read: places, numbers, clauses ===== -/
abbrev Rs : Type := Sum (Nat × Nat) Nat
def skN (f : Nat → Nat) : Nat → Nat → Nat
  | 0, i => i
  | d + 1, i => if f i = 32 then skN f d (i + 1) else i
def sk (T : Tx) (i : Nat) : Nat := skN T.2 (T.1 - i) i
def fgN (f : Nat → Nat) : Nat → Nat → Nat → Nat → Nat × Nat
  | 0, _, n, v => (n, v)
  | d + 1, i, n, v => if 48 ≤ f i ∧ f i ≤ 57 then fgN f d (i + 1) (n + 1) (if n < 3 then 10 * v + f i - 48 else v) else (n, v)
def fgs (T : Tx) (i n v : Nat) : Nat × Nat := fgN T.2 (T.1 - i) i n v
def fg (T : Tx) (i : Nat) : Nat × Nat := fgs T (sk T i) 0 0
def val (T : Tx) (i : Nat) : Nat := (fg T i).2
def nx (T : Tx) (i : Nat) : Nat := sk T i + (fg T i).1
def numA (T : Tx) (lo hi i : Nat) : Rs := if (fg T i).1 = 0 then .inl (1, sk T i) else if 3 < (fg T i).1 ∨ val T i < lo ∨ hi < val T i then .inl (2, sk T i) else .inr (nx T i)
def bnd (f : Nat → Rs) : Rs → Rs
  | .inl e => .inl e
  | .inr i => f i
def endA (T : Tx) (i : Nat) : Rs := if sk T i < T.1 ∧ T.2 (sk T i) = 59 then .inr (sk T i + 1) else .inl (1, sk T i)
theorem sk_end {T : Tx} {i : Nat} (h : T.1 ≤ i) : sk T i = i := by
  unfold sk
  rw [show T.1 - i = 0 by omega]; rfl
theorem sk_bl {T : Tx} {i : Nat} (h : i < T.1) (e : T.2 i = 32) : sk T i = sk T (i + 1) := by
  unfold sk
  rw [show T.1 - i = (T.1 - (i + 1)) + 1 by omega]
  show (if T.2 i = 32 then _ else _) = _
  rw [if_pos e]
theorem sk_nb {T : Tx} {i : Nat} (e : ¬ T.2 i = 32) : sk T i = i := by
  by_cases h : i < T.1
  · unfold sk
    rw [show T.1 - i = (T.1 - (i + 1)) + 1 by omega]
    show (if T.2 i = 32 then _ else _) = _
    rw [if_neg e]
  · exact sk_end (by omega)
theorem sk_all {T : Tx} : ∀ d i, T.1 - i ≤ d → i ≤ sk T i ∧ (i ≤ T.1 → sk T i ≤ T.1) ∧ (sk T i < T.1 → ¬ T.2 (sk T i) = 32) ∧ sk T (sk T i) = sk T i := by
  intro d
  induction d with
  | zero => intro i h; rw [sk_end (by omega)]; exact ⟨Nat.le_refl _, id, fun z => by omega, sk_end (by omega)⟩
  | succ d ih =>
    intro i h
    by_cases h1 : i < T.1
    · by_cases e : T.2 i = 32
      · rw [sk_bl h1 e]
        obtain ⟨a1, a2, a3, a4⟩ := ih (i + 1) (by omega)
        exact ⟨by omega, fun _ => a2 (by omega), a3, a4⟩
      · rw [sk_nb e]; exact ⟨Nat.le_refl _, id, fun _ => e, sk_nb e⟩
    · rw [sk_end (by omega)]; exact ⟨Nat.le_refl _, id, fun z => by omega, sk_end (by omega)⟩
theorem sk_ge {T : Tx} {i : Nat} : i ≤ sk T i := (sk_all _ i (Nat.le_refl _)).1
theorem sk_le {T : Tx} {i : Nat} (h : i ≤ T.1) : sk T i ≤ T.1 := (sk_all _ i (Nat.le_refl _)).2.1 h
theorem sk_sk {T : Tx} {i : Nat} : sk T (sk T i) = sk T i := (sk_all _ i (Nat.le_refl _)).2.2.2
theorem fg_sk {T : Tx} {i : Nat} : fg T (sk T i) = fg T i := by unfold fg; rw [sk_sk]
theorem val_sk {T : Tx} {i : Nat} : val T (sk T i) = val T i := by unfold val; rw [fg_sk]
theorem nx_sk {T : Tx} {i : Nat} : nx T (sk T i) = nx T i := by unfold nx; rw [fg_sk, sk_sk]
theorem numA_sk {T : Tx} {lo hi i : Nat} : numA T lo hi (sk T i) = numA T lo hi i := by unfold numA; rw [fg_sk, sk_sk, val_sk, nx_sk]
theorem fg_end {T : Tx} {i n v : Nat} (h : T.1 ≤ i) : fgs T i n v = (n, v) := by
  unfold fgs
  rw [show T.1 - i = 0 by omega]; rfl
theorem fg_dig {T : Tx} {i n v : Nat} (h : i < T.1) (e : 48 ≤ T.2 i ∧ T.2 i ≤ 57) : fgs T i n v = fgs T (i + 1) (n + 1) (if n < 3 then 10 * v + T.2 i - 48 else v) := by
  unfold fgs
  rw [show T.1 - i = (T.1 - (i + 1)) + 1 by omega]
  show (if _ then _ else _) = _
  rw [if_pos e]
theorem fg_non {T : Tx} {i n v : Nat} (e : ¬ (48 ≤ T.2 i ∧ T.2 i ≤ 57)) : fgs T i n v = (n, v) := by
  by_cases h : i < T.1
  · unfold fgs
    rw [show T.1 - i = (T.1 - (i + 1)) + 1 by omega]
    show (if _ then _ else _) = _
    rw [if_neg e]
  · exact fg_end (by omega)
def fgv (n v : Nat) : Prop := (n = 0 → v = 0) ∧ (n = 1 → v < 10) ∧ (n = 2 → v < 100) ∧ v < 1000
theorem fgv_s {n v f : Nat} (h : fgv n v) (e : 48 ≤ f ∧ f ≤ 57) : fgv (n + 1) (if n < 3 then 10 * v + f - 48 else v) := by
  unfold fgv at h ⊢
  split
  · refine ⟨fun z => by omega, fun z => ?_, fun z => ?_, ?_⟩ <;> omega
  · refine ⟨fun z => by omega, fun z => ?_, fun z => ?_, ?_⟩ <;> omega
theorem fgs_v {T : Tx} : ∀ d i n v, T.1 - i ≤ d → i ≤ T.1 → fgv n v → n ≤ (fgs T i n v).1 ∧ i + (fgs T i n v).1 ≤ T.1 + n ∧ (fgs T i n v).2 < 1000 := by
  intro d
  induction d with
  | zero => intro i n v h hi hv; rw [fg_end (by omega)]; exact ⟨Nat.le_refl _, by show i + n ≤ _; omega, hv.2.2.2⟩
  | succ d ih =>
    intro i n v h hi hv
    by_cases h1 : i < T.1
    · by_cases e : 48 ≤ T.2 i ∧ T.2 i ≤ 57
      · rw [fg_dig h1 e]
        obtain ⟨a1, a2, a3⟩ := ih (i + 1) (n + 1) _ (by omega) (by omega) (fgv_s hv e)
        exact ⟨by omega, by omega, a3⟩
      · rw [fg_non e]; exact ⟨Nat.le_refl _, by show i + n ≤ _; omega, hv.2.2.2⟩
    · rw [fg_end (by omega)]; exact ⟨Nat.le_refl _, by show i + n ≤ _; omega, hv.2.2.2⟩
theorem val_lt {T : Tx} {i : Nat} (h : i ≤ T.1) : val T i < 1000 := (fgs_v _ (sk T i) 0 0 (Nat.le_refl _) (sk_le h) ⟨fun _ => rfl, fun _ => by decide, fun _ => by decide, by decide⟩).2.2
theorem nx_le {T : Tx} {i : Nat} (h : i ≤ T.1) : nx T i ≤ T.1 := (fgs_v _ (sk T i) 0 0 (Nat.le_refl _) (sk_le h) ⟨fun _ => rfl, fun _ => by decide, fun _ => by decide, by decide⟩).2.1
theorem numA_inr {T : Tx} {lo hi i i' : Nat} (h : numA T lo hi i = .inr i') : i' = nx T i ∧ lo ≤ val T i ∧ val T i ≤ hi ∧ (fg T i).1 ≠ 0 ∧ (fg T i).1 ≤ 3 := by
  unfold numA at h
  split at h
  · cases h
  · split at h
    · cases h
    · cases h; exact ⟨rfl, by omega, by omega, by omega, by omega⟩
theorem numA_inl {T : Tx} {lo hi i : Nat} {e : Nat × Nat} (h : numA T lo hi i = .inl e) : ((fg T i).1 = 0 ∧ e = (1, sk T i)) ∨ ((fg T i).1 ≠ 0 ∧ (3 < (fg T i).1 ∨ val T i < lo ∨ hi < val T i) ∧ e = (2, sk T i)) := by
  unfold numA at h
  split at h
  · next q => cases h; exact Or.inl ⟨q, rfl⟩
  · split at h
    · next q1 q => cases h; exact Or.inr ⟨q1, q, rfl⟩
    · cases h
theorem endA_inr {T : Tx} {i i' : Nat} (h : endA T i = .inr i') : i < i' ∧ i' ≤ T.1 := by
  unfold endA at h
  split at h
  · next q => cases h; have := @sk_ge T i; omega
  · cases h
theorem bnd_inr {f : Nat → Rs} {st : Rs} {j : Nat} (h : bnd f st = .inr j) : ∃ i, st = .inr i ∧ f i = .inr j := by
  cases st with
  | inl e => cases h
  | inr i => exact ⟨i, rfl, h⟩
/-! FogNets' reader -/
def ltI (T : Tx) (i : Nat) : Int32 := if i < T.1 then nI (T.2 i) else -1
def vTx (T : Tx) : Prop := T.1 ≤ 240 ∧ ∀ i, i < T.1 → T.2 i ≤ 255
def FrRd (μ μ' : Mem) : Prop := μ'.2 = μ.2 ∧ (∀ k, k ≠ 1 → μ'.1 k = μ.1 k) ∧ ∀ j, j ≠ 2 → j ≠ 3 → j ≠ 4 → j ≠ 5 → μ'.1 1 j = μ.1 1 j
def RdF (μ : Mem) (T : Tx) : Rs → Prop
  | .inl e => μ.1 1 4 = nI e.1 ∧ μ.1 1 5 = nI e.2 ∧ 1 ≤ e.1 ∧ e.1 ≤ 4
  | .inr i => μ.1 1 4 = nI 0 ∧ μ.1 1 5 = -1 ∧ μ.1 1 2 = nI i ∧ i ≤ T.1
theorem FrRd.rfl' {μ : Mem} : FrRd μ μ := ⟨rfl, fun _ _ => rfl, fun _ _ _ _ _ => rfl⟩
theorem FrRd.trans {μ μ1 μ2 : Mem} (h : FrRd μ μ1) (g : FrRd μ1 μ2) : FrRd μ μ2 :=
  ⟨g.1.trans h.1, fun k hk => (g.2.1 k hk).trans (h.2.1 k hk), fun j h2 h3 h4 h5 => (g.2.2 j h2 h3 h4 h5).trans (h.2.2 j h2 h3 h4 h5)⟩
theorem FrRd.put {μ : Mem} {j : Nat} {x : Int32} (h : j = 2 ∨ j = 3 ∨ j = 4 ∨ j = 5) : FrRd μ (sI μ 1 j x) :=
  ⟨rfl, fun k hk => sI_r hk, fun i h2 h3 h4 h5 => sI_ne2 (by omega)⟩
theorem TxF.rd {μ μ1 : Mem} {T : Tx} (h : TxF μ T) (f : FrRd μ μ1) : TxF μ1 T := by
  unfold TxF at h ⊢
  rw [f.2.2 1 (by decide) (by decide) (by decide) (by decide), f.2.1 2 (by decide)]; exact h
theorem F_letter {μ : Mem} {T : Tx} {i : Nat} {Q : Int32 → Prop} (hT : vTx T) (tx : TxF μ T) (hi : i < 1000) (h : Q (ltI T i)) : w_X3_letterAt (nI i) μ Q := by
  have h1 := hT.1
  unfold ltI at h
  unfold w_X3_letterAt
  rw [tx.1]
  simp (disch := omega) only [z_le, z_lt, z_eq, z_lt0, z_0le, z_eq0, z_le0, z_0lt, z_cl, z_in, z_add, z_mul, z_m1ne, z_m1ne', z_m1lt0, z_m1lt, z_ltm1, forall_eq, true_implies, false_implies, implies_true, true_and, and_true, false_and, and_false, not_true_eq_false, not_false_eq_true, ite_true, ite_false]
  by_cases q : i < T.1
  · rw [if_pos q] at h
    refine ⟨fun z => by omega, fun _ => ⟨fun z => by omega, fun _ => ⟨by omega, ?_⟩⟩⟩
    rw [tx.2 i q]; exact h
  · rw [if_neg q] at h
    exact ⟨fun _ => h, fun z => by omega⟩
theorem F_skip {μ : Mem} {T : Tx} {i : Nat} {Q : Int32 → Mem → Prop} (hT : vTx T) (tx : TxF μ T) (hp : μ.1 1 2 = nI i) (hi : i ≤ T.1)
    (h : ∀ μ' : Mem, FrRd μ μ' → (∀ j, j ≠ 2 → μ'.1 1 j = μ.1 1 j) → μ'.1 1 2 = nI (sk T i) → Q (ltI T (sk T i)) μ') : w_X3_nextLetter μ Q := by
  have h1 := hT.1
  unfold w_X3_nextLetter w_X3_nextLetter_0
  intro X hX
  have key : ∀ d a (μ1 : Mem), T.1 - a ≤ d → a ≤ T.1 → μ1.1 1 2 = nI a → sk T a = sk T i → FrRd μ μ1 → (∀ j, j ≠ 2 → μ1.1 1 j = μ.1 1 j) → X μ1 := by
    intro d
    induction d with
    | zero =>
      intro a μ1 hd ha e es fr f1
      have tx1 := tx.rd fr
      apply hX
      unfold s_X3_nextLetter_0
      rw [e, tx1.1]
      refine ⟨fun _ => ?_, fun z => absurd ((z_le (by omega) (by omega)).mpr (by omega)) z⟩
      unfold w_X3_nextLetter_37
      rw [e]
      refine F_letter hT tx1 (by omega) ?_
      have := h μ1 fr f1
      rw [← es, sk_end (by omega)] at this
      exact this e
    | succ d ih =>
      intro a μ1 hd ha e es fr f1
      have tx1 := tx.rd fr
      apply hX
      unfold s_X3_nextLetter_0
      rw [e, tx1.1]
      have fin : sk T a = a → w_X3_nextLetter_37 μ1 Q := by
        intro q
        unfold w_X3_nextLetter_37
        rw [e]
        refine F_letter hT tx1 (by omega) ?_
        have := h μ1 fr f1
        rw [← es, q] at this
        exact this e
      refine ⟨fun z => ?_, fun z => ?_⟩
      · rw [z_le (by omega) (by omega)] at z
        exact fin (sk_end z)
      · rw [z_le (by omega) (by omega)] at z
        refine F_letter hT tx1 (by omega) ?_
        unfold ltI
        rw [if_pos (by omega)]
        have := hT.2 a (by omega)
        rw [z_eq (by omega) (by decide)]
        refine ⟨fun q => fin (sk_nb q), fun q => ?_⟩
        intro μ3 e3
        rw [z_add] at e3
        subst e3
        exact ih (a + 1) _ (by omega) (by omega) sI_same ((sk_bl (by omega) q).symm.trans es) (fr.trans (FrRd.put (Or.inl rfl))) (fun j hj => by rw [sI_ne2 hj]; exact f1 j hj)
  exact key _ i μ (Nat.le_refl _) hi hp rfl FrRd.rfl' (fun _ _ => rfl)
theorem F_fail {μ : Mem} {T : Tx} {st : Rs} {c : Nat} {x : Int32} {Q : Mem → Prop} (hs : RdF μ T st) (h0 : ∀ e, st = .inl e → Q μ) (h1 : ∀ i, st = .inr i → Q (sI (sI μ 1 4 (nI c)) 1 5 x)) : w_X3_fail (nI c) x μ Q := by
  unfold w_X3_fail
  cases st with
  | inl e =>
    have a := hs
    unfold RdF at a
    rw [a.1, z_eq0 (by omega)]
    exact ⟨fun z => by omega, fun _ => h0 e rfl⟩
  | inr i =>
    have a := hs
    unfold RdF at a
    rw [a.1]
    refine ⟨fun _ => ?_, fun z => absurd rfl z⟩
    intro μ1 e1 μ2 e2
    subst e1 e2
    exact h1 i rfl
theorem RdF.err {μ : Mem} {T : Tx} {c p : Nat} (hc : 1 ≤ c ∧ c ≤ 4) : RdF (sI (sI μ 1 4 (nI c)) 1 5 (nI p)) T (.inl (c, p)) := by
  unfold RdF
  exact ⟨by rw [sI_ne2 (by decide), sI_same], sI_same, hc.1, hc.2⟩
theorem F_end {μ : Mem} {T : Tx} {st : Rs} {Q : Mem → Prop} (hT : vTx T) (tx : TxF μ T) (hs : RdF μ T st) (h : ∀ μ' : Mem, FrRd μ μ' → RdF μ' T (bnd (endA T) st) → Q μ') : w_X3_readEnd μ Q := by
  have h1 := hT.1
  unfold w_X3_readEnd
  cases st with
  | inl e =>
    have a := hs
    unfold RdF at a
    rw [a.1, z_eq0 (by omega)]
    exact ⟨fun z => by omega, fun _ => h μ FrRd.rfl' hs⟩
  | inr i =>
    have a := hs
    unfold RdF at a
    obtain ⟨a1, a2, a3, a4⟩ := a
    rw [a1]
    refine ⟨fun _ => ?_, fun z => absurd rfl z⟩
    have hk := sk_le a4
    refine F_skip hT tx a3 a4 (fun μ2 fr f1 e2 => ⟨fun q => ?_, fun q => ?_⟩)
    · have es : bnd (endA T) (.inr i) = .inl (1, sk T i) := by
        show endA T i = _
        unfold endA
        rw [if_neg]
        intro z
        apply q
        unfold ltI
        rw [if_pos z.1, z.2]
      have hs2 : RdF μ2 T (.inr (sk T i)) := ⟨by rw [f1 4 (by decide)]; exact a1, by rw [f1 5 (by decide)]; exact a2, e2, hk⟩
      rw [e2]
      refine F_fail hs2 (fun e z => by cases z) (fun _ _ => ?_)
      refine h _ (fr.trans ((FrRd.put (by omega)).trans (FrRd.put (by omega)))) ?_
      rw [es]
      exact RdF.err (by decide)
    · have q1 : sk T i < T.1 ∧ T.2 (sk T i) = 59 := by
        unfold ltI at q
        by_cases z : sk T i < T.1
        · rw [if_pos z] at q
          have := hT.2 _ z
          exact ⟨z, (z_eq (by omega) (by decide)).mp q⟩
        · rw [if_neg z] at q; exact absurd q (by decide)
      have es : bnd (endA T) (.inr i) = .inr (sk T i + 1) := by
        show endA T i = _
        unfold endA
        rw [if_pos q1]
      rw [e2, z_add]
      intro μ5 e5
      subst e5
      refine h _ (fr.trans (FrRd.put (by omega))) ?_
      rw [es]
      exact ⟨by rw [sI_ne2 (by decide), f1 4 (by decide)]; exact a1, by rw [sI_ne2 (by decide), f1 5 (by decide)]; exact a2, sI_same, by omega⟩
