/-! ===== the next hour's fog; what is best ===== -/
section NEXT
variable {μ ν : Mem} {co : Co} {r : Ro} {U : Un} {T : Tx} {fp : Int32} {sd : Nat} {I : Im} {G K : Gt}
theorem F_hang (hA : VA co r U T sd I G K) (hF : RF μ co r U T fp sd I G K) {Q : Int32 → Prop} (h : Q (nI (hs co (r 0)))) : w_X4_hanging 25 (μ.2.2 0) μ Q := by
  have := hA.2.1.1
  exact F_hanging hF.1.1 hF.2.1 hA.1 hF.2.2.2.1.1.1 (by omega) h
theorem M_hang (hA : VA co r U T sd I G K) (hM : RM ν co r U T fp sd I G K) {Q : Int32 → Prop} (h : Q (nI (hs co (r 0)))) : w_X7_hanging 14 ν Q := by
  have := hA.2.1.1
  exact M_hanging hM.1 hA.1 hM.2.1 (by omega) h
theorem F_next (hA : VA co r U T sd I G K) (hF : RF μ co r U T fp sd I G K) {set : Nat} {Q : Mem → Prop} (hset : set < 64) (hbit : ∀ p, bitN set p = true → p < co 0 3)
    (h : ∀ μ' : Mem, RF μ' co r U T fp sd I G K → Blown μ' co r set (co 1 (r 1)) (litF co r (co 2 (r 1))) → Q μ') : w_X6_blowNext (nI set) μ Q := by
  have hv := hA.1
  have hr := hA.2.1
  have hh := co_hour hv hr.2.1
  have hl := litF_le (co := co) (r := r) (fog := co 2 (r 1))
  unfold w_X6_blowNext
  rw [hF.2.2.2.1.1.2.1]
  refine F_fogAt hF.1.1 hF.2.1 hv hr.2.1 (F_lampedFog hF.2.1 hv hF.2.2.2.1.1.2.2.1 hr.2.2.1 (by omega) (F_sideAt hF.1.1 hF.2.1 hv hr.2.1 ?_))
  rw [hF.2.1.1.1]
  exact F_blow (n := 6) st_25 hF.2.2.2.1 hv hr hset hbit hh.1 (by omega) (fun μ2 f2 b2 => h μ2 (hF.X f2.X) b2)
theorem F_blowN (hA : VA co r U T sd I G K) (hF : RF μ co r U T fp sd I G K) {set side fog : Nat} {Q : Mem → Prop} (hset : set < 64) (hbit : ∀ p, bitN set p = true → p < co 0 3) (hside : side ≤ 1) (hfog : fog ≤ 99)
    (h : ∀ μ' : Mem, RF μ' co r U T fp sd I G K → Blown μ' co r set side fog → Q μ') : w_X5_blow 25 (nI (co 0 0)) (nI set) (nI side) (nI fog) μ Q :=
  F_blow (n := 6) st_25 hF.2.2.2.1 hA.1 hA.2.1 hset hbit hside hfog (fun μ2 f2 b2 => h μ2 (hF.X f2.X) b2)
theorem M_leadN (hA : VA co r U T sd I G K) (hM : RM ν co r U T fp sd I G K) {set side fog : Nat} {Q : Int32 → Mem → Prop} (hset : set < 64) (hside : side ≤ 1) (hfog : fog ≤ 99)
    (h : ∀ ν' : Mem, RM ν' co r U T fp sd I G K → (∀ p, p < co 0 3 → ν'.1 16 p = nI ((lead co r set side fog).2 p)) → Q (nI (lead co r set side fog).1) ν') : w_X7_leads 14 (nI fog) (nI side) (nI set) ν Q :=
  M_leads (by decide) (by decide) hM.1 hA.1 hM.2.1 hA.2.1 hset hside hfog (fun ν2 f2 t2 => h ν2 (hM.G f2.G) t2)
end NEXT
theorem swp_not {g : Nat → Option Nat} {mesh : Nat → Nat} {fog p : Nat} (hg : ∀ k, g k ≠ some p) : ∀ k, (swp g mesh fog k).2 p = 0 := by
  intro k
  induction k with
  | zero => rfl
  | succ k ih =>
    unfold swp
    split
    · exact ih
    · next q hq =>
      dsimp only
      rw [upN_ne (fun z => hg k (by rw [z]; exact hq))]
      exact ih
theorem lead_not {co : Co} {r : Ro} {set side fog p : Nat} (h : bitN set p = false) : (lead co r set side fog).2 p = 0 := by
  unfold lead
  refine swp_not (fun k q => ?_) _
  have := (gAt_some q).2.2
  rw [h] at this
  cases this
theorem hs_bit {co : Co} {d p : Nat} (hp : p < co 0 3) : bitN (hs co d) p = hg co d (co 4 p) := by
  rw [bitN_eq]
  unfold hs
  rw [hsN_bit]
  simp [hp]
theorem and_pow (s p : Nat) : s &&& 2 ^ p = if s.testBit p = true then 2 ^ p else 0 := by
  apply Nat.eq_of_testBit_eq
  intro i
  rw [Nat.testBit_and, Nat.testBit_two_pow]
  by_cases q : p = i
  · subst q
    by_cases t : s.testBit p = true
    · rw [if_pos t, Nat.testBit_two_pow]; simp [t]
    · rw [if_neg t]; simp [t]
  · rw [decide_eq_false q, Bool.and_false]
    split
    · rw [Nat.testBit_two_pow, decide_eq_false q]
    · simp
theorem P_shadow {μ ν : Mem} {a : Int32} (h : Rel μ ν) : w_X6_shadow a μ (fun x μ' => w_X7_shadow a ν (fun y ν' => x = y ∧ Rel μ' ν')) := by
  obtain ⟨co, r, U, T, fp, sd, I, G, K, hA, hF, hM⟩ := h
  have hv := hA.1
  have hn := hv.2.2.2.1
  have hr := hA.2.1
  have hd := hr.1
  have hh := co_hour hv hr.2.1
  have hl := litF_le (co := co) (r := r) (fog := co 2 (r 1))
  have h64 := hs_64 (d := r 0) hv
  unfold w_X6_shadow w_X7_shadow
  rcases upto a (co 0 3) with ⟨p, hp, rfl⟩ | ho
  · refine F_isPost_in hF hv hp ⟨fun _ => F_hang hA hF ?_, fun z => absurd z (by decide)⟩
    refine F_next hA hF h64 (fun q hq => hs_in hq) (fun μ1 f1 b1 => ?_)
    refine F_at (n := 6) (by decide) (by decide) (by omega) ?_
    have hp2 := pow6 p (by omega)
    have hand : hs co (r 0) &&& 2 ^ p < 64 := Nat.lt_of_le_of_lt Nat.and_le_left h64
    simp (disch := omega) only [z_le, z_lt, z_eq, z_lt0, z_0le, z_eq0, z_le0, z_0lt, z_cl, z_in, z_add, z_mul, z_m1ne, z_m1ne', z_m1lt0, z_m1lt, z_ltm1, forall_eq, true_implies, false_implies, implies_true, true_and, and_true, false_and, and_false, not_true_eq_false, not_false_eq_true, ite_true, ite_false, z_shl1, z_and]
    refine F_next hA f1 hand (fun q hq => hs_in (d := r 0) ?_) (fun μ2 f2 b2 => ?_)
    · rw [bitN_eq] at hq ⊢
      rw [Nat.testBit_and] at hq
      cases e : (hs co (r 0)).testBit q with
      | true => rfl
      | false => rw [e] at hq; cases hq
    refine F_at (n := 6) (by decide) (by decide) (by omega) ?_
    rw [b1.1 p (by omega), b2.1 p (by omega)]
    refine M_isPost_in hM hv hp ⟨fun _ => ?_, fun z => absurd z (by decide)⟩
    refine M_isHanging hM.1 hv hM.2.1 (by omega) hp ?_
    by_cases g : hg co (r 0) (co 4 p) = true
    · rw [if_pos g]
      refine ⟨fun _ => M_fogOf hM.1 hv hM.2.1 hr.2.1 ?_, fun z => absurd z (by decide)⟩
      have e2 := hM.2.1 2 (by decide)
      have e19 := hM.1.1.2.2.1
      simp (disch := omega) only [z_le, z_lt, z_eq, z_lt0, z_0le, z_eq0, z_le0, z_0lt, z_cl, z_in, z_add, z_mul, z_m1ne, z_m1ne', z_m1lt0, z_m1lt, z_ltm1, forall_eq, true_implies, false_implies, implies_true, true_and, and_true, false_and, and_false, not_true_eq_false, not_false_eq_true, ite_true, ite_false, e2, e19]
      refine ⟨by decide, M_lit (by omega) hv.2.1 hr.2.2.1 (M_sideOf hM.1 hv hM.2.1 hr.2.1 ?_)⟩
      refine M_leadN hA hM hp2 hh.1 (by omega) (fun ν1 m1 t1 => ?_)
      simp (disch := omega) only [z_le, z_lt, z_eq, z_lt0, z_0le, z_eq0, z_le0, z_0lt, z_cl, z_in, z_add, z_mul, z_m1ne, z_m1ne', z_m1lt0, z_m1lt, z_ltm1, forall_eq, true_implies, false_implies, implies_true, true_and, and_true, false_and, and_false, not_true_eq_false, not_false_eq_true, ite_true, ite_false, t1 p hp]
      refine ⟨by omega, M_sideOf m1.1 hv m1.2.1 hr.2.1 (M_hang hA m1 ?_)⟩
      refine M_leadN hA m1 h64 hh.1 (by omega) (fun ν2 m2 t2 => ?_)
      simp (disch := omega) only [z_le, z_lt, z_eq, z_lt0, z_0le, z_eq0, z_le0, z_0lt, z_cl, z_in, z_add, z_mul, z_m1ne, z_m1ne', z_m1lt0, z_m1lt, z_ltm1, forall_eq, true_implies, false_implies, implies_true, true_and, and_true, false_and, and_false, not_true_eq_false, not_false_eq_true, ite_true, ite_false, t2 p hp]
      have ea : hs co (r 0) &&& 2 ^ p = 2 ^ p := by
        have := hs_bit (d := r 0) hp
        rw [bitN_eq, g] at this
        rw [and_pow, this]; rfl
      rw [ea]
      exact ⟨by omega, (by first | exact done (hA) (f2) (m2) | exact (done (x := 0) (hA) (f2) (m2)).2)⟩
    · rw [if_neg g]
      refine ⟨fun z => absurd (by decide) z, fun _ => ?_⟩
      have eb : bitN (hs co (r 0)) p = false := by rw [hs_bit hp]; simpa using g
      have ea : hs co (r 0) &&& 2 ^ p = 0 := by
        rw [bitN_eq] at eb
        rw [and_pow, eb]; rfl
      rw [ea, lead_not eb, lead_not (by unfold bitN; simp)]
      exact ⟨by decide, co, r, U, T, fp, sd, I, G, K, hA, f2, hM⟩
  · refine F_isPost_out hF hv ho ⟨fun z => absurd (by decide) z, fun _ => ?_⟩
    exact M_isPost_out hM hv ho ⟨fun z => absurd (by decide) z, fun _ => done hA hF hM⟩
theorem P_left {μ ν : Mem} (h : Rel μ ν) : w_X6_left μ (fun x μ' => w_X7_left ν (fun y ν' => x = y ∧ Rel μ' ν')) := by
  obtain ⟨co, r, U, T, fp, sd, I, G, K, hA, hF, hM⟩ := h
  have hv := hA.1
  have hr := hA.2.1
  have hd := hr.1
  have hh := co_hour hv hr.2.1
  have hl := litF_le (co := co) (r := r) (fog := co 2 (r 1))
  have h64 := hs_64 (d := r 0) hv
  unfold w_X6_left w_X7_left
  refine F_isBare hF hv ?_
  rw [hM.1.1.1]
  by_cases hc : co 0 0 = 0
  · rw [if_pos hc, if_pos hc]
    exact ⟨fun z => absurd z (by decide), fun _ => ⟨fun z => absurd (by decide) z, fun _ => done hA hF hM⟩⟩
  · rw [if_neg hc, if_neg hc]
    refine ⟨fun _ => F_hang hA hF ?_, fun z => absurd (by decide) z⟩
    refine F_next hA hF h64 (fun q hq => hs_in hq) (fun μ1 f1 b1 => ?_)
    refine ⟨fun _ => M_fogOf hM.1 hv hM.2.1 hr.2.1 ?_, fun z => absurd z (by decide)⟩
    have e2 := hM.2.1 2 (by decide)
    have e19 := hM.1.1.2.2.1
    simp (disch := omega) only [z_le, z_lt, z_eq, z_lt0, z_0le, z_eq0, z_le0, z_0lt, z_cl, z_in, z_add, z_mul, z_m1ne, z_m1ne', z_m1lt0, z_m1lt, z_ltm1, forall_eq, true_implies, false_implies, implies_true, true_and, and_true, false_and, and_false, not_true_eq_false, not_false_eq_true, ite_true, ite_false, e2, e19]
    refine ⟨by decide, M_lit (by omega) hv.2.1 hr.2.2.1 (M_sideOf hM.1 hv hM.2.1 hr.2.1 (M_hang hA hM ?_))⟩
    refine M_leadN hA hM h64 hh.1 (by omega) (fun ν2 m2 t2 => ?_)
    rw [b1.2.1]
    exact done hA f1 m2
/-! the best of what is tried: the first of the greatest -/
abbrev Bs : Type := Option (Nat × Nat)
def up (s : Bs) (k : Nat) (o : Option Nat) : Bs := match o with
  | none => s
  | some v => match s with
    | none => some (k, v)
    | some q => if q.2 < v then some (k, v) else some q
def bst (f : Nat → Option Nat) : Nat → Bs
  | 0 => none
  | i + 1 => up (bst f i) i (f i)
def i1 (s : Bs) : Int32 := match s with
  | none => -1
  | some q => nI q.1
def i2 (s : Bs) : Int32 := match s with
  | none => -1
  | some q => nI q.2
def z1 (s : Bs) : Int32 := match s with
  | none => nI 0
  | some q => nI q.1
def okB (s : Bs) : Prop := ∀ q, s = some q → q.1 < 100000 ∧ q.2 < 100000
theorem up_ok {s : Bs} {k : Nat} {o : Option Nat} (h : okB s) (hk : k < 100000) (ho : ∀ v, o = some v → v < 100000) : okB (up s k o) := by
  unfold up
  cases o with
  | none => exact h
  | some v =>
    have hv := ho v rfl
    cases s with
    | none => intro q hq; cases hq; exact ⟨hk, hv⟩
    | some t =>
      dsimp only
      split
      · intro q hq; cases hq; exact ⟨hk, hv⟩
      · exact h
theorem up_le {s : Bs} {k v : Nat} (h : okB s) (hv : v < 100000) : (nI v ≤ i2 s → up s k (some v) = s) ∧ (¬ nI v ≤ i2 s → up s k (some v) = some (k, v)) := by
  unfold up i2
  cases s with
  | none =>
    refine ⟨fun q => ?_, fun _ => rfl⟩
    exfalso
    have := z_m1le (a := v) (by omega)
    exact absurd q (Int32.not_le.mpr this)
  | some t =>
    have ht := h t rfl
    dsimp only
    rw [z_le (by omega) (by omega)]
    exact ⟨fun q => if_neg (by omega), fun q => if_pos (by omega)⟩
theorem up_ne {s : Bs} {k : Nat} {o : Option Nat} (h : s ≠ none ∨ o ≠ none) : up s k o ≠ none := by
  unfold up
  cases o with
  | none => rcases h with h | h; exact h; exact absurd rfl h
  | some v =>
    cases s with
    | none => exact fun z => by cases z
    | some t => dsimp only; split <;> exact fun z => by cases z
theorem z1_eq {s : Bs} (h : s ≠ none) : z1 s = i1 s := by
  cases s with
  | none => exact absurd rfl h
  | some q => rfl
theorem bst_ok {f : Nat → Option Nat} : ∀ i, i ≤ 1000 → (∀ k v, k < i → f k = some v → v < 100000) → okB (bst f i) := by
  intro i
  induction i with
  | zero => intro _ _ q hq; cases hq
  | succ i ih => intro hi hf; exact up_ok (ih (by omega) (fun k v hk => hf k v (by omega))) (by omega) (fun v hv => hf i v (by omega) hv)
theorem bst_ne {f : Nat → Option Nat} {k v : Nat} (h : f k = some v) : ∀ i, k < i → bst f i ≠ none := by
  intro i
  induction i with
  | zero => intro q; omega
  | succ i ih =>
    intro q
    refine up_ne ?_
    by_cases e : k = i
    · right; rw [← e, h]; exact fun z => by cases z
    · exact Or.inl (ih (by omega))
theorem bst_end {f : Nat → Option Nat} {n : Nat} (h : ∀ k, n ≤ k → f k = none) : ∀ d, bst f (n + d) = bst f n := by
  intro d
  induction d with
  | zero => rfl
  | succ d ih =>
    show up (bst f (n + d)) (n + d) (f (n + d)) = _
    rw [h _ (by omega), ih]; rfl
theorem what_pick {w : Nat} {x y : Int32} {μ : Mem} {Q : Int32 → Mem → Prop} (hw : w ≤ 1) (h : Q (if w = 0 then x else y) μ) : (¬ nI w = 0 → Q y μ) ∧ (nI w = 0 → Q x μ) := by
  rw [z_eq0 (by omega)]
  refine ⟨fun q => ?_, fun q => ?_⟩
  · rw [if_neg q] at h; exact h
  · rw [if_pos q] at h; exact h
section BEST
variable {μ ν : Mem} {co : Co} {r : Ro} {U : Un} {T : Tx} {fp : Int32} {sd : Nat} {I : Im} {G K : Gt}
def bmF (co : Co) (r : Ro) (p : Nat) : Nat → Option Nat := fun m => some ((tryN co (upN r (21 + p) m) (dl co)).2.2 p)
theorem F_bestMesh {p w : Nat} {Q : Int32 → Mem → Prop} (hA : VA co r U T sd I G K) (hF : RF μ co r U T fp sd I G K) (hp : p < co 0 3) (hw : w ≤ 1)
    (h : ∀ μ' : Mem, RF μ' co r U T fp sd I G K → Q (if w = 0 then i1 (bst (bmF co r p) 10) else i2 (bst (bmF co r p) 10)) μ') : w_X6_bestMesh_31 (nI p) (nI w) (-1) (-1) (nI 0) μ Q := by
  have hv := hA.1
  have hn := hv.2.2.2.1
  have hc := post_cells hv hp
  have hdl := dl_le hv
  have ok : ∀ i, i ≤ 10 → okB (bst (bmF co r p) i) := fun i hi => bst_ok i (by omega) (fun k v hk e => by
    cases e
    have := (tryN_le hv (vRo_mesh (x := k) hA.2.1 hp hn (by omega)) (dl co)).2 p
    omega)
  unfold w_X6_bestMesh_31
  intro X hX
  refine cnt_dn (P := fun i => i ≤ 10 → ∀ μ1 : Mem, RF μ1 co r U T fp sd I G K → X (i1 (bst (bmF co r p) i)) (i2 (bst (bmF co r p) i)) (nI i) μ1) 10 ?_ ?_ (by decide) μ hF
  · intro _ μ1 f1
    apply hX
    unfold s_X6_bestMesh_31 w_X6_bestMesh_106
    exact ⟨fun _ => what_pick hw (h μ1 f1), fun q => absurd (by decide) q⟩
  · intro i hi ih _ μ1 f1
    apply hX
    unfold s_X6_bestMesh_31
    rw [z_lt (by decide) (by omega)]
    refine ⟨fun q => absurd q (by omega), fun _ => F_copy hA f1 (fun μ2 _ f2 s2 => ?_)⟩
    refine F_put (n := 6) (st_n2 st_31) (by decide) (by omega) ?_
    have f3 := f2.X (FrX.rf.sI (k := 31 + 2) (j := p) (x := nI i) (by decide))
    have s3 := s2.updM (x := i) hp hn
    have hr3 := vRo_mesh (x := i) hA.2.1 hp hn (by omega)
    refine F_hoursOfDay f3.2.1 hv ?_
    rw [if_neg hc]
    refine F_run hA f3 s3 hc hr3 (by omega) (fun μ4 f4 s4 t4 => ?_)
    refine F_at (n := 6) (by decide) (by decide) (by omega) ?_
    rw [t4 p (by omega)]
    have hle := (tryN_le hv hr3 (dl co)).2 p
    have hup := up_le (k := i) (v := (tryN co (upN r (21 + p) i) (dl co)).2.2 p) (ok i (by omega)) (by omega)
    have eb : bst (bmF co r p) (i + 1) = up (bst (bmF co r p) i) i (some ((tryN co (upN r (21 + p) i) (dl co)).2.2 p)) := rfl
    refine ⟨fun q => ?_, fun q => ?_⟩
    · unfold w_X6_bestMesh_100
      rw [eb, hup.1 q] at ih
      simp (disch := omega) only [z_le, z_lt, z_eq, z_lt0, z_0le, z_eq0, z_le0, z_0lt, z_cl, z_in, z_add, z_mul, z_m1ne, z_m1ne', z_m1lt0, z_m1lt, z_ltm1, forall_eq, true_implies, false_implies, implies_true, true_and, and_true, false_and, and_false, not_true_eq_false, not_false_eq_true, ite_true, ite_false]
      exact ih (by omega) μ4 f4
    · refine F_at (n := 6) (by decide) (by decide) (by omega) ?_
      rw [t4 p (by omega)]
      unfold w_X6_bestMesh_100
      rw [eb, hup.2 q] at ih
      simp (disch := omega) only [z_le, z_lt, z_eq, z_lt0, z_0le, z_eq0, z_le0, z_0lt, z_cl, z_in, z_add, z_mul, z_m1ne, z_m1ne', z_m1lt0, z_m1lt, z_ltm1, forall_eq, true_implies, false_implies, implies_true, true_and, and_true, false_and, and_false, not_true_eq_false, not_false_eq_true, ite_true, ite_false]
      exact ih (by omega) μ4 f4
theorem M_bestMesh {p w : Nat} {Q : Int32 → Mem → Prop} (hA : VA co r U T sd I G K) (hM : RM ν co r U T fp sd I G K) (hp : p < co 0 3) (hw : w ≤ 1)
    (h : ∀ ν' : Mem, RM ν' co r U T fp sd I G K → Q (if w = 0 then z1 (bst (bmF co r p) 10) else i2 (bst (bmF co r p) 10)) ν') : w_X7_bestMesh_31 (nI p) (nI w) (nI 0) (-1) (nI 0) ν Q := by
  have hv := hA.1
  have hn := hv.2.2.2.1
  have hc := post_cells hv hp
  have hdl := dl_le hv
  have ok : ∀ i, i ≤ 10 → okB (bst (bmF co r p) i) := fun i hi => bst_ok i (by omega) (fun k v hk e => by
    cases e
    have := (tryN_le hv (vRo_mesh (x := k) hA.2.1 hp hn (by omega)) (dl co)).2 p
    omega)
  unfold w_X7_bestMesh_31
  intro X hX
  refine cnt_dn (P := fun i => i ≤ 10 → ∀ ν1 : Mem, RM ν1 co r U T fp sd I G K → X (z1 (bst (bmF co r p) i)) (i2 (bst (bmF co r p) i)) (nI i) ν1) 10 ?_ ?_ (by decide) ν hM
  · intro _ ν1 m1
    apply hX
    unfold s_X7_bestMesh_31 w_X7_bestMesh_109
    exact ⟨fun _ => what_pick hw (h ν1 m1), fun q => absurd (by decide) q⟩
  · intro i hi ih _ ν1 m1
    apply hX
    unfold s_X7_bestMesh_31
    rw [z_le (by decide) (by omega)]
    refine ⟨fun q => absurd q (by omega), fun _ => M_copy m1 (fun ν2 m2 s2 => ?_)⟩
    simp (disch := omega) only [z_le, z_lt, z_eq, z_lt0, z_0le, z_eq0, z_le0, z_0lt, z_cl, z_in, z_add, z_mul, z_m1ne, z_m1ne', z_m1lt0, z_m1lt, z_ltm1, forall_eq, true_implies, false_implies, implies_true, true_and, and_true, false_and, and_false, not_true_eq_false, not_false_eq_true, ite_true, ite_false]
    refine ⟨by omega, ?_⟩
    have m3 := m2.G (FrG.rf.sI (k := 15) (j := 21 + p) (x := nI i) (Or.inl rfl))
    have s3 := s2.upd (j := 21 + p) (x := i)
    have hr3 := vRo_mesh (x := i) hA.2.1 hp hn (by omega)
    refine M_dayLong m3.1 hv ?_
    rw [if_neg hc]
    refine M_run hA m3 s3 hc hr3 (by omega) (fun ν4 m4 s4 t4 => ?_)
    unfold w_X7_bestMesh_78 w_X7_bestMesh_101
    have hle := (tryN_le hv hr3 (dl co)).2 p
    have hup := up_le (k := i) (v := (tryN co (upN r (21 + p) i) (dl co)).2.2 p) (ok i (by omega)) (by omega)
    have eb : bst (bmF co r p) (i + 1) = up (bst (bmF co r p) i) i (some ((tryN co (upN r (21 + p) i) (dl co)).2.2 p)) := rfl
    simp (disch := omega) only [z_le, z_lt, z_eq, z_lt0, z_0le, z_eq0, z_le0, z_0lt, z_cl, z_in, z_add, z_mul, z_m1ne, z_m1ne', z_m1lt0, z_m1lt, z_ltm1, forall_eq, true_implies, false_implies, implies_true, true_and, and_true, false_and, and_false, not_true_eq_false, not_false_eq_true, ite_true, ite_false, t4 p hp]
    refine ⟨by omega, fun q => ⟨by omega, fun _ => ?_, fun q2 => absurd q q2⟩, fun q => ⟨by omega, fun q2 => absurd q2 q, fun _ => ⟨by omega, ?_⟩⟩⟩
    · rw [eb, hup.1 q] at ih
      exact ih (by omega) ν4 m4
    · rw [eb, hup.2 q] at ih
      exact ih (by omega) ν4 m4
end BEST
theorem P_bestMesh {μ ν : Mem} {a b : Int32} (h : Rel μ ν) : w_X6_bestMesh a b μ (fun x μ' => w_X7_bestMesh a b ν (fun y ν' => x = y ∧ Rel μ' ν')) := by
  obtain ⟨co, r, U, T, fp, sd, I, G, K, hA, hF, hM⟩ := h
  have hv := hA.1
  unfold w_X6_bestMesh w_X7_bestMesh
  rcases upto a (co 0 3) with ⟨p, hp, rfl⟩ | ho
  · refine F_isPost_in hF hv hp ⟨fun _ => ?_, fun z => absurd z (by decide)⟩
    rcases z_cases b 0 1 (by decide) (by decide) with ⟨w, h1, h2, rfl⟩ | hb
    · refine W_in h1 h2 (by decide) ⟨fun _ => F_bestMesh hA hF hp h2 (fun μ1 f1 => ?_), fun z => absurd z (by decide)⟩
      refine M_isPost_in hM hv hp ⟨fun _ => MW_in h1 h2 (by decide) ⟨fun _ => M_bestMesh hA hM hp h2 (fun ν1 m1 => ?_), fun z => absurd z (by decide)⟩, fun z => absurd z (by decide)⟩
      rw [z1_eq (bst_ne (f := bmF co r p) (k := 0) rfl 10 (by decide))]
      exact done hA f1 m1
    · refine F_within0 hb ⟨fun z => absurd (by decide) z, fun _ => ?_⟩
      exact M_isPost_in hM hv hp ⟨fun _ => MW_out hb ⟨fun z => absurd (by decide) z, fun _ => done hA hF hM⟩, fun z => absurd z (by decide)⟩
  · refine F_isPost_out hF hv ho ⟨fun z => absurd (by decide) z, fun _ => ?_⟩
    exact M_isPost_out hM hv ho ⟨fun z => absurd (by decide) z, fun _ => done hA hF hM⟩
