/-! ===== the next hour's fog; what is best ===== -/
section NEXT
variable {μ ν : Mem} {co : Co} {r : Ro} {U : Un} {T : Tx} {fp : Int32} {sd : Nat} {I : Im} {G K : Gt}
theorem F_hang (hA : VA co r U T sd I G K) (hF : RF μ co r U T fp sd I G K) {Q : Int32 → Prop} (h : Q (nI (hs co (r 0)))) : w_X4_hanging 25 (μ.2.2 0) μ Q := by
  have := hA.2.1.1
  exact F_hanging hF.1.1 hF.2.1 hA.1 hF.2.2.2.1.1.1 (by omega) h
theorem F_next (hA : VA co r U T sd I G K) (hF : RF μ co r U T fp sd I G K) {set : Nat} {Q : Mem → Prop} (hset : set < 64) (hbit : ∀ p, bitN set p = true → p < co 0 3)
    (h : ∀ μ' : Mem, RF μ' co r U T fp sd I G K → Blown μ' co r set (co 1 (r 1)) (litF co r (co 2 (r 1))) → Q μ') : w_X6_blowNext (nI set) μ Q := by
  have hv := hA.1
  have hr := hA.2.1
  have hh := co_hour hv hr.2.1
  have hl := litF_le (co := co) (r := r) (fog := co 2 (r 1))
  unfold w_X6_blowNext
  rw [hF.2.2.2.1.1.2.1]
  refine F_fogAt hF.1.1 hF.2.1 hv hr.2.1 (F_lampedFog hF.2.1 hv hF.2.2.2.1.1.2.2.1 hr.2.2.1 (by omega) (F_sideAt hF.1.1 hF.2.1 hv hr.2.1 ?_))
  rw [hF.2.1.1.1]
  exact F_blow (n := 6) st_25 hF.2.2.2.1 hv hr hset hbit hh.1 (by omega) (fun μ2 f2 b2 => h μ2 (hF.X f2.X) b2)
theorem F_blowN (hA : VA co r U T sd I G K) (hF : RF μ co r U T fp sd I G K) {set side fog : Nat} {Q : Mem → Prop} (hset : set < 64) (hbit : ∀ p, bitN set p = true → p < co 0 3) (hside : side ≤ 1) (hfog : fog ≤ 99)
    (h : ∀ μ' : Mem, RF μ' co r U T fp sd I G K → Blown μ' co r set side fog → Q μ') : w_X5_blow 25 (nI (co 0 0)) (nI set) (nI side) (nI fog) μ Q :=
  F_blow (n := 6) st_25 hF.2.2.2.1 hA.1 hA.2.1 hset hbit hside hfog (fun μ2 f2 b2 => h μ2 (hF.X f2.X) b2)
end NEXT
theorem swp_not {g : Nat → Option Nat} {mesh : Nat → Nat} {fog p : Nat} (hg : ∀ k, g k ≠ some p) : ∀ k, (swp g mesh fog k).2 p = 0 := by
  intro k
  induction k with
  | zero => rfl
  | succ k ih =>
    unfold swp
    split
    · exact ih
    · next q hq =>
      dsimp only
      rw [upN_ne (fun z => hg k (by rw [z]; exact hq))]
      exact ih
theorem lead_not {co : Co} {r : Ro} {set side fog p : Nat} (h : bitN set p = false) : (lead co r set side fog).2 p = 0 := by
  unfold lead
  refine swp_not (fun k q => ?_) _
  have := (gAt_some q).2.2
  rw [h] at this
  cases this
theorem hs_bit {co : Co} {d p : Nat} (hp : p < co 0 3) : bitN (hs co d) p = hg co d (co 4 p) := by
  rw [bitN_eq]
  unfold hs
  rw [hsN_bit]
  simp [hp]
theorem and_pow (s p : Nat) : s &&& 2 ^ p = if s.testBit p = true then 2 ^ p else 0 := by
  apply Nat.eq_of_testBit_eq
  intro i
  rw [Nat.testBit_and, Nat.testBit_two_pow]
  by_cases q : p = i
  · subst q
    by_cases t : s.testBit p = true
    · rw [if_pos t, Nat.testBit_two_pow]; simp [t]
    · rw [if_neg t]; simp [t]
  · rw [decide_eq_false q, Bool.and_false]
    split
    · rw [Nat.testBit_two_pow, decide_eq_false q]
    · simp
/-! the best of what is tried: the first of the greatest -/
abbrev Bs : Type := Option (Nat × Nat)
def up (s : Bs) (k : Nat) (o : Option Nat) : Bs := match o with
  | none => s
  | some v => match s with
    | none => some (k, v)
    | some q => if q.2 < v then some (k, v) else some q
def bst (f : Nat → Option Nat) : Nat → Bs
  | 0 => none
  | i + 1 => up (bst f i) i (f i)
def i1 (s : Bs) : Int32 := match s with
  | none => -1
  | some q => nI q.1
def i2 (s : Bs) : Int32 := match s with
  | none => -1
  | some q => nI q.2
def z1 (s : Bs) : Int32 := match s with
  | none => nI 0
  | some q => nI q.1
def okB (s : Bs) : Prop := ∀ q, s = some q → q.1 < 100000 ∧ q.2 < 100000
theorem up_ok {s : Bs} {k : Nat} {o : Option Nat} (h : okB s) (hk : k < 100000) (ho : ∀ v, o = some v → v < 100000) : okB (up s k o) := by
  unfold up
  cases o with
  | none => exact h
  | some v =>
    have hv := ho v rfl
    cases s with
    | none => intro q hq; cases hq; exact ⟨hk, hv⟩
    | some t =>
      dsimp only
      split
      · intro q hq; cases hq; exact ⟨hk, hv⟩
      · exact h
theorem up_le {s : Bs} {k v : Nat} (h : okB s) (hv : v < 100000) : (nI v ≤ i2 s → up s k (some v) = s) ∧ (¬ nI v ≤ i2 s → up s k (some v) = some (k, v)) := by
  unfold up i2
  cases s with
  | none =>
    refine ⟨fun q => ?_, fun _ => rfl⟩
    exfalso
    have := z_m1le (a := v) (by omega)
    exact absurd q (Int32.not_le.mpr this)
  | some t =>
    have ht := h t rfl
    dsimp only
    rw [z_le (by omega) (by omega)]
    exact ⟨fun q => if_neg (by omega), fun q => if_pos (by omega)⟩
theorem up_ne {s : Bs} {k : Nat} {o : Option Nat} (h : s ≠ none ∨ o ≠ none) : up s k o ≠ none := by
  unfold up
  cases o with
  | none => rcases h with h | h; exact h; exact absurd rfl h
  | some v =>
    cases s with
    | none => exact fun z => by cases z
    | some t => dsimp only; split <;> exact fun z => by cases z
theorem z1_eq {s : Bs} (h : s ≠ none) : z1 s = i1 s := by
  cases s with
  | none => exact absurd rfl h
  | some q => rfl
theorem bst_ok {f : Nat → Option Nat} : ∀ i, i ≤ 1000 → (∀ k v, k < i → f k = some v → v < 100000) → okB (bst f i) := by
  intro i
  induction i with
  | zero => intro _ _ q hq; cases hq
  | succ i ih => intro hi hf; exact up_ok (ih (by omega) (fun k v hk => hf k v (by omega))) (by omega) (fun v hv => hf i v (by omega) hv)
theorem bst_ne {f : Nat → Option Nat} {k v : Nat} (h : f k = some v) : ∀ i, k < i → bst f i ≠ none := by
  intro i
  induction i with
  | zero => intro q; omega
  | succ i ih =>
    intro q
    refine up_ne ?_
    by_cases e : k = i
    · right; rw [← e, h]; exact fun z => by cases z
    · exact Or.inl (ih (by omega))
theorem bst_end {f : Nat → Option Nat} {n : Nat} (h : ∀ k, n ≤ k → f k = none) : ∀ d, bst f (n + d) = bst f n := by
  intro d
  induction d with
  | zero => rfl
  | succ d ih =>
    show up (bst f (n + d)) (n + d) (f (n + d)) = _
    rw [h _ (by omega), ih]; rfl
theorem what_pick {w : Nat} {x y : Int32} {μ : Mem} {Q : Int32 → Mem → Prop} (hw : w ≤ 1) (h : Q (if w = 0 then x else y) μ) : (¬ nI w = 0 → Q y μ) ∧ (nI w = 0 → Q x μ) := by
  rw [z_eq0 (by omega)]
  refine ⟨fun q => ?_, fun q => ?_⟩
  · rw [if_neg q] at h; exact h
  · rw [if_pos q] at h; exact h
section BEST
variable {μ ν : Mem} {co : Co} {r : Ro} {U : Un} {T : Tx} {fp : Int32} {sd : Nat} {I : Im} {G K : Gt}
def bmF (co : Co) (r : Ro) (p : Nat) : Nat → Option Nat := fun m => some ((tryN co (upN r (21 + p) m) (dl co)).2.2 p)
theorem F_bestMesh {p w : Nat} {Q : Int32 → Mem → Prop} (hA : VA co r U T sd I G K) (hF : RF μ co r U T fp sd I G K) (hp : p < co 0 3) (hw : w ≤ 1)
    (h : ∀ μ' : Mem, RF μ' co r U T fp sd I G K → Q (if w = 0 then i1 (bst (bmF co r p) 10) else i2 (bst (bmF co r p) 10)) μ') : w_X6_bestMesh_31 (nI p) (nI w) (-1) (-1) (nI 0) μ Q := by
  have hv := hA.1
  have hn := hv.2.2.2.1
  have hc := post_cells hv hp
  have hdl := dl_le hv
  have ok : ∀ i, i ≤ 10 → okB (bst (bmF co r p) i) := fun i hi => bst_ok i (by omega) (fun k v hk e => by
    cases e
    have := (tryN_le hv (vRo_mesh (x := k) hA.2.1 hp hn (by omega)) (dl co)).2 p
    omega)
  unfold w_X6_bestMesh_31
  intro X hX
  refine cnt_dn (P := fun i => i ≤ 10 → ∀ μ1 : Mem, RF μ1 co r U T fp sd I G K → X (i1 (bst (bmF co r p) i)) (i2 (bst (bmF co r p) i)) (nI i) μ1) 10 ?_ ?_ (by decide) μ hF
  · intro _ μ1 f1
    apply hX
    unfold s_X6_bestMesh_31 w_X6_bestMesh_106
    exact ⟨fun _ => what_pick hw (h μ1 f1), fun q => absurd (by decide) q⟩
  · intro i hi ih _ μ1 f1
    apply hX
    unfold s_X6_bestMesh_31
    rw [z_lt (by decide) (by omega)]
    refine ⟨fun q => absurd q (by omega), fun _ => F_copy hA f1 (fun μ2 _ f2 s2 => ?_)⟩
    refine F_put (n := 6) (st_n2 st_31) (by decide) (by omega) ?_
    have f3 := f2.X (FrX.rf.sI (k := 31 + 2) (j := p) (x := nI i) (by decide))
    have s3 := s2.updM (x := i) hp hn
    have hr3 := vRo_mesh (x := i) hA.2.1 hp hn (by omega)
    refine F_hoursOfDay f3.2.1 hv ?_
    rw [if_neg hc]
    refine F_run hA f3 s3 hc hr3 (by omega) (fun μ4 f4 s4 t4 => ?_)
    refine F_at (n := 6) (by decide) (by decide) (by omega) ?_
    rw [t4 p (by omega)]
    have hle := (tryN_le hv hr3 (dl co)).2 p
    have hup := up_le (k := i) (v := (tryN co (upN r (21 + p) i) (dl co)).2.2 p) (ok i (by omega)) (by omega)
    have eb : bst (bmF co r p) (i + 1) = up (bst (bmF co r p) i) i (some ((tryN co (upN r (21 + p) i) (dl co)).2.2 p)) := rfl
    refine ⟨fun q => ?_, fun q => ?_⟩
    · unfold w_X6_bestMesh_100
      rw [eb, hup.1 q] at ih
      simp (disch := omega) only [z_le, z_lt, z_eq, z_lt0, z_0le, z_eq0, z_le0, z_0lt, z_cl, z_in, z_add, z_mul, z_m1ne, z_m1ne', z_m1lt0, z_m1lt, z_ltm1, forall_eq, true_implies, false_implies, implies_true, true_and, and_true, false_and, and_false, not_true_eq_false, not_false_eq_true, ite_true, ite_false]
      exact ih (by omega) μ4 f4
    · refine F_at (n := 6) (by decide) (by decide) (by omega) ?_
      rw [t4 p (by omega)]
      unfold w_X6_bestMesh_100
      rw [eb, hup.2 q] at ih
      simp (disch := omega) only [z_le, z_lt, z_eq, z_lt0, z_0le, z_eq0, z_le0, z_0lt, z_cl, z_in, z_add, z_mul, z_m1ne, z_m1ne', z_m1lt0, z_m1lt, z_ltm1, forall_eq, true_implies, false_implies, implies_true, true_and, and_true, false_and, and_false, not_true_eq_false, not_false_eq_true, ite_true, ite_false]
      exact ih (by omega) μ4 f4
end BEST
