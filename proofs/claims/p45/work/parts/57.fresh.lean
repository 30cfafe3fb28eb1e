/-! ===== before the first coast: nothing is told yet ===== -/
def zr : Ro := fun _ => 0
def zg : Nat → Nat → Nat := fun _ _ => 0
def zu : Nat → Ro := fun _ => zr
def C0 (μ : Mem) : Prop := (μ.1 3 0 = nI 0 ∧ μ.1 3 1 = nI 0 ∧ μ.1 3 2 = nI 0 ∧ μ.1 3 3 = nI 0 ∧ μ.1 3 4 = nI 0) ∧ ∀ v, v < 2 → μ.1 10 v = nI 127 ∧ μ.1 11 v = nI 0
def RF0 (μ : Mem) (T : Tx) (fp : Int32) (sd : Nat) (I : Im) (L : Nat → Nat → Nat) : Prop :=
  (μ.2.2 0 = 3 ∧ μ.2.2 1 = 14) ∧ C0 μ ∧ (JB μ 3 ∧ JB μ 14) ∧ StF μ 25 6 zr ∧ PaF μ 6 (0, zu) ∧ TxF μ T ∧ μ.1 1 5 = fp ∧ μ.1 0 10 = nI sd ∧ ImF μ 6 I ∧ μ.1 237 3 = nI 0 ∧ μ.1 241 3 = nI 0 ∧ LwF μ L
abbrev VA0 (T : Tx) (sd : Nat) (I : Im) : Prop := VA co0 zr (0, zu) T sd I (0, zg) (0, zg)
theorem RF0.to {μ μ1 : Mem} {T T1 : Tx} {fp fp1 : Int32} {sd sd1 : Nat} {I I1 : Im} {L : Nat → Nat → Nat} (h : RF0 μ T fp sd I L) (h2 : μ1.2.2 = μ.2.2) (hc : ∀ k, 3 ≤ k → k < 14 → μ1.1 k = μ.1 k) (hj : JB μ1 14) (hs : StF μ1 25 6 zr) (hp : PaF μ1 6 (0, zu)) (ht : TxF μ1 T1) (h5 : μ1.1 1 5 = fp1) (h10 : μ1.1 0 10 = nI sd1) (hi : ImF μ1 6 I1) (hg : μ1.1 237 3 = nI 0) (hb : μ1.1 241 3 = nI 0) (hl : LwF μ1 L) : RF0 μ1 T1 fp1 sd1 I1 L := by
  obtain ⟨a1, a2, a3, _⟩ := h
  refine ⟨by rw [h2]; exact a1, ?_, ⟨a3.1.fr (hc 8 (by decide) (by decide)), hj⟩, hs, hp, ht, h5, h10, hi, hg, hb, hl⟩
  unfold C0 at a2 ⊢
  rw [hc 3 (by decide) (by decide), hc 10 (by decide) (by decide), hc 11 (by decide) (by decide)]
  exact a2
