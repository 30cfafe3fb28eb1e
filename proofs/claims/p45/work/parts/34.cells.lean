/-! ===== which cell; two posts both ===== -/
def okO (o : Option Nat) (p q : Nat) : Bool := match o with
  | none => true
  | some t => decide (t = p) || decide (t = q)
def opn (co : Co) (r : Ro) (p q a : Nat) : Bool := decide (a < co 0 0) && okO (pin (fun t => r (15 + t)) a (co 0 3)) p q
theorem opn_out {co : Co} {r : Ro} {p q a : Nat} (h : co 0 0 ≤ a) : opn co r p q a = false := by
  unfold opn
  rw [decide_eq_false (by omega)]; rfl
theorem opn_lt {co : Co} {r : Ro} {p q a : Nat} (h : opn co r p q a = true) : a < co 0 0 := by
  rcases Nat.lt_or_ge a (co 0 0) with z | z
  · exact z
  · rw [opn_out z] at h; cases h
theorem opn_off {co : Co} {r : Ro} {p q a : Nat} (h : opn co r p q a = true) (inj : ∀ a b, a < co 0 3 → b < co 0 3 → r (15 + a) = r (15 + b) → a = b) {t : Nat} (ht : t < co 0 3) (h1 : t ≠ p) (h2 : t ≠ q) : r (15 + t) ≠ a := by
  intro e
  unfold opn okO at h
  rw [pin_of (f := fun t => r (15 + t)) ht e inj] at h
  simp [h1, h2] at h
theorem opn_own {co : Co} {r : Ro} {p q t : Nat} (ht : t < co 0 3) (h : r (15 + t) < co 0 0) (inj : ∀ a b, a < co 0 3 → b < co 0 3 → r (15 + a) = r (15 + b) → a = b) (hpq : t = p ∨ t = q) : opn co r p q (r (15 + t)) = true := by
  unfold opn okO
  rw [pin_of (f := fun t => r (15 + t)) ht rfl inj, decide_eq_true h]
  rcases hpq with z | z <;> simp [z]
theorem posts_chain {o : Option Nat} {p q : Nat} {Q : Int32 → Prop} (ho : ∀ t, o = some t → t < 100) (hp : p < 100) (hq : q < 100) (h : Q (nI (if okO o p q = true then 1 else 0))) :
    ((optI o = ((-1) : Int32) → Q (nI 1)) ∧ (¬ optI o = ((-1) : Int32) → ((optI o = nI p → Q (nI 1)) ∧ (¬ optI o = nI p → ((¬ optI o = nI q → Q (nI 0)) ∧ (optI o = nI q → Q (nI 1))))))) := by
  cases o with
  | none => exact ⟨fun _ => h, fun z => absurd rfl z⟩
  | some t =>
    have ht := ho t rfl
    unfold okO at h
    unfold optI
    dsimp only at h ⊢
    simp (disch := omega) only [z_le, z_lt, z_eq, z_lt0, z_0le, z_eq0, z_le0, z_0lt, z_cl, z_in, z_add, z_mul, z_m1ne, z_m1ne', z_m1lt0, z_m1lt, z_ltm1, forall_eq, true_implies, false_implies, implies_true, true_and, and_true, false_and, and_false, not_true_eq_false, not_false_eq_true, ite_true, ite_false]
    refine ⟨fun e => ?_, fun e => ⟨fun e2 => ?_, fun e2 => ?_⟩⟩
    · simp [e] at h; exact h
    · simp [e, e2] at h; exact h
    · simp [e2] at h; exact h
section OPEN
variable {μ ν : Mem} {co : Co} {r : Ro} {U : Un} {T : Tx} {fp : Int32} {sd : Nat} {I : Im} {G K : Gt}
theorem F_pin (hA : VA co r U T sd I G K) (hF : RF μ co r U T fp sd I G K) {a : Nat} (ha : a < 100) {Q : Int32 → Prop} (h : Q (optI (pin (fun t => r (15 + t)) a (co 0 3)))) : w_X4_postIn 25 (nI a) μ Q := by
  have hcc := hA.1.1
  have hrp := hA.2.1.2.2.2.2.2.2.2.2.2.1
  exact F_postIn hF.2.2.2.1 hA.1.2.2.2.1 (fun q hq => by have := (hrp q hq).2.1; omega) hA.2.1.2.2.2.2.2.2.2.2.2.2 (by omega) h
theorem F_isOpen (hA : VA co r U T sd I G K) (hF : RF μ co r U T fp sd I G K) {a p q : Nat} (ha : a < 100) (hp : p < co 0 3) (hq : q < co 0 3) {Q : Int32 → Prop} (h : Q (nI (if opn co r p q a = true then 1 else 0))) : w_X6_isOpenTo (nI a) (nI p) (nI q) μ Q := by
  have hv := hA.1
  have hcc := hv.1
  have hn := hv.2.2.2.1
  unfold w_X6_isOpenTo
  rcases Nat.lt_or_ge a (co 0 0) with z | z
  · refine F_isCell_in hF hv z ⟨fun _ => F_pin hA hF ha ?_, fun z => absurd z (by decide)⟩
    refine posts_chain (fun t ht => by have := (pin_some ht).1; omega) (by omega) (by omega) ?_
    unfold opn at h
    rw [decide_eq_true z, Bool.true_and] at h
    exact h
  · refine F_isCell_out hF hv (fun x hx e => ?_) ⟨fun z => absurd (by decide) z, fun _ => ?_⟩
    · rw [z_eq (by omega) (by omega)] at e; omega
    · rw [opn_out z] at h; exact h
def bcF (co : Co) (r : Ro) (p : Nat) : Nat → Option Nat := fun a => if opn co r p p a = true then some ((tryN co (upN r (15 + p) a) (dl co)).2.2 p) else none
theorem bc_v (hA : VA co r U T sd I G K) {p a : Nat} (hp : p < co 0 3) (h : opn co r p p a = true) : vRo co (upN r (15 + p) a) 9060 :=
  vRo_move hA.2.1 hp hA.1.2.2.2.1 (opn_lt h) (fun q hq hne => opn_off h hA.2.1.2.2.2.2.2.2.2.2.2.2 hq hne hne)
theorem bc_ok (hA : VA co r U T sd I G K) {p : Nat} (hp : p < co 0 3) : ∀ i, i ≤ 12 → okB (bst (bcF co r p) i) := fun i hi => bst_ok i (by omega) (fun k v hk e => by
  have hdl := dl_le hA.1
  unfold bcF at e
  split at e
  · next q =>
    cases e
    have := (tryN_le hA.1 (bc_v hA hp q) (dl co)).2 p
    omega
  · cases e)
theorem F_bestCell {p w : Nat} {Q : Int32 → Mem → Prop} (hA : VA co r U T sd I G K) (hF : RF μ co r U T fp sd I G K) (hp : p < co 0 3) (hw : w ≤ 1)
    (h : ∀ μ' : Mem, RF μ' co r U T fp sd I G K → Q (if w = 0 then i1 (bst (bcF co r p) 12) else i2 (bst (bcF co r p) 12)) μ') : w_X6_bestCell_31 (nI p) (nI w) (-1) (-1) (nI 0) μ Q := by
  have hv := hA.1
  have hn := hv.2.2.2.1
  have hc := post_cells hv hp
  have hdl := dl_le hv
  have ok := bc_ok hA hp
  unfold w_X6_bestCell_31
  intro X hX
  refine cnt_dn (P := fun i => i ≤ 12 → ∀ μ1 : Mem, RF μ1 co r U T fp sd I G K → X (i1 (bst (bcF co r p) i)) (i2 (bst (bcF co r p) i)) (nI i) μ1) 12 ?_ ?_ (by decide) μ hF
  · intro _ μ1 f1
    apply hX
    unfold s_X6_bestCell_31 w_X6_bestCell_120
    exact ⟨fun _ => what_pick hw (h μ1 f1), fun q => absurd (by decide) q⟩
  · intro i hi ih _ μ1 f1
    apply hX
    unfold s_X6_bestCell_31
    rw [z_le (by decide) (by omega)]
    refine ⟨fun q => absurd q (by omega), fun _ => F_isOpen hA f1 (by omega) hp hp ?_⟩
    have eb : bst (bcF co r p) (i + 1) = up (bst (bcF co r p) i) i (bcF co r p i) := rfl
    by_cases ho : opn co r p p i = true
    · have ef : bcF co r p i = some ((tryN co (upN r (15 + p) i) (dl co)).2.2 p) := by unfold bcF; rw [if_pos ho]
      rw [ef] at eb
      rw [if_pos ho]
      refine ⟨fun _ => F_copy hA f1 (fun μ2 _ f2 s2 => ?_), fun z => absurd z (by decide)⟩
      refine F_put (n := 6) (st_n1 st_31) (by decide) (by omega) ?_
      have f3 := f2.X (FrX.rf.sI (k := 31 + 1) (j := p) (x := nI i) (by decide))
      have s3 := s2.updK (x := i) hp hn
      have hr3 := bc_v hA hp ho
      refine F_hoursOfDay f3.2.1 hv ?_
      rw [if_neg hc]
      refine F_run hA f3 s3 hc hr3 (by omega) (fun μ4 f4 s4 t4 => ?_)
      refine F_at (n := 6) (by decide) (by decide) (by omega) ?_
      rw [t4 p (by omega)]
      have hle := (tryN_le hv hr3 (dl co)).2 p
      have hup := up_le (k := i) (v := (tryN co (upN r (15 + p) i) (dl co)).2.2 p) (ok i (by omega)) (by omega)
      refine ⟨fun q => ?_, fun q => ?_⟩
      · unfold w_X6_bestCell_114
        rw [eb, hup.1 q] at ih
        simp (disch := omega) only [z_le, z_lt, z_eq, z_lt0, z_0le, z_eq0, z_le0, z_0lt, z_cl, z_in, z_add, z_mul, z_m1ne, z_m1ne', z_m1lt0, z_m1lt, z_ltm1, forall_eq, true_implies, false_implies, implies_true, true_and, and_true, false_and, and_false, not_true_eq_false, not_false_eq_true, ite_true, ite_false]
        exact ih (by omega) μ4 f4
      · refine F_at (n := 6) (by decide) (by decide) (by omega) ?_
        rw [t4 p (by omega)]
        unfold w_X6_bestCell_114
        rw [eb, hup.2 q] at ih
        simp (disch := omega) only [z_le, z_lt, z_eq, z_lt0, z_0le, z_eq0, z_le0, z_0lt, z_cl, z_in, z_add, z_mul, z_m1ne, z_m1ne', z_m1lt0, z_m1lt, z_ltm1, forall_eq, true_implies, false_implies, implies_true, true_and, and_true, false_and, and_false, not_true_eq_false, not_false_eq_true, ite_true, ite_false]
        exact ih (by omega) μ4 f4
    · have ef : bcF co r p i = none := by unfold bcF; rw [if_neg ho]
      rw [ef] at eb
      rw [if_neg ho]
      refine ⟨fun z => absurd (by decide) z, fun _ => ?_⟩
      unfold w_X6_bestCell_114
      rw [eb] at ih
      simp (disch := omega) only [z_le, z_lt, z_eq, z_lt0, z_0le, z_eq0, z_le0, z_0lt, z_cl, z_in, z_add, z_mul, z_m1ne, z_m1ne', z_m1lt0, z_m1lt, z_ltm1, forall_eq, true_implies, false_implies, implies_true, true_and, and_true, false_and, and_false, not_true_eq_false, not_false_eq_true, ite_true, ite_false]
      exact ih (by omega) μ1 f1
end OPEN
