/-! ===== two posts; what the lamp costs ===== -/
def inn (g : Nat → Nat → Option Nat) (a : Nat) (s : Bs) : Nat → Bs
  | 0 => s
  | j + 1 => up (inn g a s j) (100 * a + j) (g a j)
def out (g : Nat → Nat → Option Nat) (m : Nat) : Nat → Bs
  | 0 => none
  | i + 1 => inn g i (out g m i) m
theorem inn_ok {g : Nat → Nat → Option Nat} {a : Nat} {s : Bs} (ha : a ≤ 12) (h : okB s) (hg : ∀ b v, g a b = some v → v < 100000) : ∀ j, j ≤ 12 → okB (inn g a s j) := by
  intro j
  induction j with
  | zero => intro _; exact h
  | succ j ih => intro hj; exact up_ok (ih (by omega)) (by omega) (fun v hv => hg j v hv)
theorem out_ok {g : Nat → Nat → Option Nat} {m : Nat} (hm : m ≤ 12) (hg : ∀ a b v, g a b = some v → v < 100000) : ∀ i, i ≤ 12 → okB (out g m i) := by
  intro i
  induction i with
  | zero => intro _ q hq; cases hq
  | succ i ih => intro hi; exact inn_ok (by omega) (ih (by omega)) (hg i) m hm
theorem inn_end {g : Nat → Nat → Option Nat} {a n : Nat} {s : Bs} (h : ∀ b, n ≤ b → g a b = none) : ∀ d, inn g a s (n + d) = inn g a s n := by
  intro d
  induction d with
  | zero => rfl
  | succ d ih =>
    show up (inn g a s (n + d)) _ (g a (n + d)) = _
    rw [h _ (by omega), ih]; rfl
theorem inn_none {g : Nat → Nat → Option Nat} {a : Nat} {s : Bs} (h : ∀ b, g a b = none) (m : Nat) : inn g a s m = s := by
  have := inn_end (g := g) (a := a) (n := 0) (s := s) (fun b _ => h b) m
  rw [Nat.zero_add] at this; exact this
theorem out_eq {g : Nat → Nat → Option Nat} {n d : Nat} (h : ∀ a b, n ≤ b → g a b = none) : ∀ i, out g (n + d) i = out g n i := by
  intro i
  induction i with
  | zero => rfl
  | succ i ih =>
    show inn g i (out g (n + d) i) (n + d) = inn g i (out g n i) n
    rw [ih, inn_end (h i)]
theorem out_end {g : Nat → Nat → Option Nat} {m n : Nat} (h : ∀ a b, n ≤ a → g a b = none) : ∀ d, out g m (n + d) = out g m n := by
  intro d
  induction d with
  | zero => rfl
  | succ d ih =>
    show inn g (n + d) (out g m (n + d)) m = _
    rw [inn_none (fun b => h _ b (by omega)), ih]
theorem inn_ne {g : Nat → Nat → Option Nat} {a : Nat} {s : Bs} (h : s ≠ none) : ∀ j, inn g a s j ≠ none := by
  intro j
  induction j with
  | zero => exact h
  | succ j ih => exact up_ne (Or.inl ih)
theorem inn_ne2 {g : Nat → Nat → Option Nat} {a b v : Nat} {s : Bs} (h : g a b = some v) : ∀ j, b < j → inn g a s j ≠ none := by
  intro j
  induction j with
  | zero => intro q; omega
  | succ j ih =>
    intro q
    refine up_ne ?_
    by_cases e : b = j
    · right; rw [← e, h]; exact fun z => by cases z
    · exact Or.inl (ih (by omega))
theorem out_ne {g : Nat → Nat → Option Nat} {a b v m : Nat} (h : g a b = some v) (hb : b < m) : ∀ i, a < i → out g m i ≠ none := by
  intro i
  induction i with
  | zero => intro q; omega
  | succ i ih =>
    intro q
    by_cases e : a = i
    · subst e; exact inn_ne2 h m hb
    · exact inn_ne (ih (by omega)) m
def ownS (co : Co) (t : Nat → Nat) (v : Nat) : Nat := sumN (fun k => if co 4 k = v then t k else 0) (co 0 3)
theorem ownS_2 {co : Co} {t : Nat → Nat} (hv : vCo co) : ownS co t 0 + ownS co t 1 = sumN t (co 0 3) := by
  have key : ∀ n, n ≤ co 0 3 → sumN (fun k => if co 4 k = 0 then t k else 0) n + sumN (fun k => if co 4 k = 1 then t k else 0) n = sumN t n := by
    intro n
    induction n with
    | zero => intro _; rfl
    | succ n ih =>
      intro hn
      have := ih (by omega)
      have h4 := (hv.2.2.2.2.2.2.2.2.1 n (by omega)).2.2
      unfold sumN
      rcases (by omega : co 4 n = 0 ∨ co 4 n = 1) with q | q
      · rw [if_pos q, if_neg (by omega)]; omega
      · rw [if_neg (by omega), if_pos q]; omega
  exact key _ (Nat.le_refl _)
theorem sumN_mono {f g : Nat → Nat} : ∀ n, (∀ k, k < n → f k ≤ g k) → sumN f n ≤ sumN g n := by
  intro n
  induction n with
  | zero => intro _; exact Nat.le_refl _
  | succ n ih =>
    intro h
    have := ih (fun k hk => h k (by omega))
    have := h n (by omega)
    unfold sumN; omega
theorem sumN_part {f : Nat → Nat} {i : Nat} : ∀ n, i ≤ n → sumN f i ≤ sumN f n := by
  intro n
  induction n with
  | zero => intro h; rw [show i = 0 by omega]; exact Nat.le_refl _
  | succ n ih =>
    intro h
    rcases Nat.lt_or_ge i (n + 1) with q | q
    · have := ih (by omega)
      show _ ≤ sumN f n + f n
      omega
    · rw [show i = n + 1 by omega]; exact Nat.le_refl _
theorem M_sumOf {ν : Mem} {co : Co} {t : Nat → Nat} {v : Nat} {Q : Int32 → Prop} (hv : vCo co) (hc : CoM ν co) (hv2 : v < 2) (hb : sumN t (co 0 3) < 100000) (ht : ∀ p, p < co 0 3 → ν.1 18 p = nI (t p)) (h : Q (nI (ownS co t v))) : w_X7_sumOf (nI v) ν Q := by
  have hn := hv.2.2.2.1
  unfold w_X7_sumOf w_X7_sumOf_4
  intro X hX
  refine cnt_dn (P := fun i => i ≤ co 0 3 → X (nI (sumN (fun k => if co 4 k = v then t k else 0) i)) (nI i)) (co 0 3) ?_ ?_ (by omega)
  · intro _
    apply hX
    unfold s_X7_sumOf_4
    rw [hc.1.2.2.2.1, z_le (by omega) (by omega)]
    exact ⟨fun _ => h, fun q => absurd (Nat.le_refl _) q⟩
  · intro i hi ih _
    apply hX
    unfold s_X7_sumOf_4 w_X7_sumOf_33
    have h4 := (hv.2.2.2.2.2.2.2.2.1 i hi).2.2
    have e10 := (hc.2.2.1 i hi).2
    rw [hc.1.2.2.2.1]
    simp (disch := omega) only [z_le, z_lt, z_eq, z_lt0, z_0le, z_eq0, z_le0, z_0lt, z_cl, z_in, z_add, z_mul, z_m1ne, z_m1ne', z_m1lt0, z_m1lt, z_ltm1, forall_eq, true_implies, false_implies, implies_true, true_and, and_true, false_and, and_false, not_true_eq_false, not_false_eq_true, ite_true, ite_false, e10, ht i hi]
    refine ⟨fun q => absurd q (by omega), fun _ => ⟨by omega, fun q => ?_, fun q => ⟨by omega, ?_⟩⟩⟩
    · unfold sumN at ih; rw [if_neg q] at ih; exact ih (by omega)
    · unfold sumN at ih; rw [if_pos q] at ih; exact ih (by omega)
/-- both posts moved -/
def mv2 (r : Ro) (p a q b : Nat) : Ro := upN (upN r (15 + p) a) (15 + q) b
theorem vRo_move2 {co : Co} {r : Ro} {B H p q a b : Nat} (hr : vRH co r B H) (hp : p < co 0 3) (hq : q < co 0 3) (hne : p ≠ q) (hn : co 0 3 ≤ 6) (ha : a < co 0 0) (hb : b < co 0 0) (hab : a ≠ b) (hno : ∀ t, t < co 0 3 → t ≠ p → t ≠ q → r (15 + t) ≠ a ∧ r (15 + t) ≠ b) : vRH co (mv2 r p a q b) B H := by
  obtain ⟨r0, r1, r2, r3, r4, r5, r6, r7, r8, hrp, inj⟩ := hr
  have cell : ∀ t, mv2 r p a q b (15 + t) = if t = q then b else if t = p then a else r (15 + t) := by
    intro t
    unfold mv2 upN
    by_cases e : t = q
    · rw [if_pos (by omega), if_pos e]
    · rw [if_neg (by omega), if_neg e]
      by_cases e2 : t = p
      · rw [if_pos (by omega), if_pos e2]
      · rw [if_neg (by omega), if_neg e2]
  have oth : ∀ j, j < 15 ∨ 21 ≤ j → mv2 r p a q b j = r j := by
    intro j hj
    unfold mv2
    rw [upN_ne (by omega), upN_ne (by omega)]
  refine ⟨?_, ?_, ?_, ?_, ?_, ?_, ?_, ?_, ?_, fun t ht => ⟨?_, ?_, ?_⟩, fun x y hx hy h => ?_⟩
  · rw [oth _ (by omega)]; exact r0
  · rw [oth _ (by omega)]; exact r1
  · rw [oth _ (by omega)]; exact r2
  · rw [oth _ (by omega)]; exact r3
  · rw [oth _ (by omega)]; exact r4
  · rw [oth _ (by omega)]; exact r5
  · rw [oth _ (by omega)]; exact r6
  · rw [oth _ (by omega)]; exact r7
  · rw [oth _ (by omega)]; exact r8
  · rw [oth _ (by omega)]; exact (hrp t ht).1
  · rw [cell]
    split
    · exact hb
    · split
      · exact ha
      · exact (hrp t ht).2.1
  · rw [oth _ (by omega)]; exact (hrp t ht).2.2
  · rw [cell, cell] at h
    by_cases x1 : x = q
    · rw [if_pos x1] at h
      by_cases y1 : y = q
      · rw [x1, y1]
      · rw [if_neg y1] at h
        by_cases y2 : y = p
        · rw [if_pos y2] at h; exact absurd h.symm hab
        · rw [if_neg y2] at h; exact absurd h.symm (hno y hy y2 y1).2
    · rw [if_neg x1] at h
      by_cases x2 : x = p
      · rw [if_pos x2] at h
        by_cases y1 : y = q
        · rw [if_pos y1] at h; exact absurd h hab
        · rw [if_neg y1] at h
          by_cases y2 : y = p
          · rw [x2, y2]
          · rw [if_neg y2] at h; exact absurd h.symm (hno y hy y2 y1).1
      · rw [if_neg x2] at h
        by_cases y1 : y = q
        · rw [if_pos y1] at h; exact absurd h (hno x hx x2 x1).2
        · rw [if_neg y1] at h
          by_cases y2 : y = p
          · rw [if_pos y2] at h; exact absurd h (hno x hx x2 x1).1
          · rw [if_neg y2] at h; exact inj x y hx hy h
def lesN (co : Co) (r : Ro) (p a q b : Nat) : Nat :=
  if ownS co (tryN co (mv2 r p a q b) (7 * dl co)).2.2 1 < ownS co (tryN co (mv2 r p a q b) (7 * dl co)).2.2 0 then ownS co (tryN co (mv2 r p a q b) (7 * dl co)).2.2 1 else ownS co (tryN co (mv2 r p a q b) (7 * dl co)).2.2 0
def btG (co : Co) (r : Ro) (p q : Nat) : Nat → Nat → Option Nat := fun a b => if a ≠ b ∧ opn co r p q a = true ∧ opn co r p q b = true then some (lesN co r p a q b) else none
section TWO
variable {μ ν : Mem} {co : Co} {r : Ro} {U : Un} {T : Tx} {fp : Int32} {sd : Nat} {I : Im} {G K : Gt}
theorem bt_v (hA : VA co r U T sd I G K) {p q a b : Nat} (hp : p < co 0 3) (hq : q < co 0 3) (hne : p ≠ q) (hab : a ≠ b) (ha : opn co r p q a = true) (hb : opn co r p q b = true) : vRo co (mv2 r p a q b) 9060 :=
  vRo_move2 hA.2.1 hp hq hne hA.1.2.2.2.1 (opn_lt ha) (opn_lt hb) hab (fun _ ht h1 h2 => ⟨opn_off ha hA.2.1.2.2.2.2.2.2.2.2.2.2 ht h1 h2, opn_off hb hA.2.1.2.2.2.2.2.2.2.2.2.2 ht h1 h2⟩)
theorem bt_b (hv : vCo co) {s : Ro} {B : Nat} (hs : vRo co s B) : sumN (tryN co s (7 * dl co)).2.2 (co 0 3) < 100000 ∧ ownS co (tryN co s (7 * dl co)).2.2 0 + ownS co (tryN co s (7 * dl co)).2.2 1 = (tryN co s (7 * dl co)).1 := by
  have hdl := dl_le hv
  have := (tryN_le hv hs (7 * dl co)).1
  rw [tryN_sum] at this ⊢
  exact ⟨by omega, ownS_2 hv⟩
theorem bt_g (hA : VA co r U T sd I G K) {p q : Nat} (hp : p < co 0 3) (hq : q < co 0 3) (hne : p ≠ q) : ∀ a b v, btG co r p q a b = some v → v < 100000 := by
  intro a b v e
  unfold btG at e
  split at e
  · next z =>
    cases e
    have := bt_b hA.1 (bt_v hA hp hq hne z.1 z.2.1 z.2.2)
    rw [tryN_sum] at this
    unfold lesN
    split <;> omega
  · cases e
theorem F_lesser {p q a b : Nat} {Q : Int32 → Mem → Prop} (hA : VA co r U T sd I G K) (hF : RF μ co r U T fp sd I G K) (hp : p < co 0 3) (hq : q < co 0 3) (hne : p ≠ q) (hab : a ≠ b) (ha : opn co r p q a = true) (hb : opn co r p q b = true)
    (h : ∀ μ' : Mem, RF μ' co r U T fp sd I G K → Q (nI (lesN co r p a q b)) μ') : w_X6_lesserHaul (nI p) (nI a) (nI q) (nI b) μ Q := by
  have hv := hA.1
  have hn := hv.2.2.2.1
  have hc := post_cells hv hp
  have hdl := dl_le hv
  have hv2 := bt_v hA hp hq hne hab ha hb
  have hbb := bt_b hv hv2
  unfold w_X6_lesserHaul
  refine F_copy hA hF (fun μ2 _ f2 s2 => ?_)
  refine F_put (n := 6) (st_n1 st_31) (by decide) (by omega) ?_
  refine F_put (n := 6) (st_n1 st_31) (by decide) (by omega) ?_
  have f3 := f2.X ((FrX.rf.sI (k := 31 + 1) (j := p) (x := nI a) (by decide)).sI (k := 31 + 1) (j := q) (x := nI b) (by decide))
  have s3 := (s2.updK (x := a) hp hn).updK (x := b) hq hn
  refine F_hoursOfDay f3.2.1 hv ?_
  rw [if_neg hc, z_mul]
  refine F_run hA f3 s3 hc hv2 (by omega) (fun μ4 f4 s4 t4 => ?_)
  have hco := f4.2.1
  have fin : w_X6_lesserHaul_97 (nI p) (nI a) (nI q) (nI b) (nI (tryN co (mv2 r p a q b) (7 * dl co)).1) (nI (ownS co (tryN co (mv2 r p a q b) (7 * dl co)).2.2 1)) μ4 Q := by
    unfold w_X6_lesserHaul_97
    intro x e
    rw [← hbb.2, z_sub (by omega), Nat.add_sub_cancel] at e
    have e2 : x = nI (lesN co r p a q b) := by
      rw [e]
      unfold lesN
      have := hbb.2
      rw [tryN_sum] at this
      by_cases z : ownS co (tryN co (mv2 r p a q b) (7 * dl co)).2.2 1 < ownS co (tryN co (mv2 r p a q b) (7 * dl co)).2.2 0
      · rw [if_pos z, if_pos ((z_lt (by omega) (by omega)).mpr z)]
      · rw [if_neg z, if_neg (fun y => z ((z_lt (by omega) (by omega)).mp y))]
    rw [e2]
    exact h μ4 f4
  unfold w_X6_lesserHaul_58
  intro X hX
  refine cnt_dn (P := fun i => X (nI (sumN (fun k => if co 4 k = 1 then (tryN co (mv2 r p a q b) (7 * dl co)).2.2 k else 0) (min i (co 0 3)))) (nI i)) 6 ?_ ?_
  · apply hX
    unfold s_X6_lesserHaul_58
    rw [Nat.min_eq_right hn]
    exact ⟨fun _ => fin, fun q => absurd (by decide) q⟩
  · intro i hi ih
    apply hX
    unfold s_X6_lesserHaul_58 w_X6_lesserHaul_91
    simp (disch := omega) only [z_le, z_lt, z_eq, z_lt0, z_0le, z_eq0, z_le0, z_0lt, z_cl, z_in, z_add, z_mul, z_m1ne, z_m1ne', z_m1lt0, z_m1lt, z_ltm1, forall_eq, true_implies, false_implies, implies_true, true_and, and_true, false_and, and_false, not_true_eq_false, not_false_eq_true, ite_true, ite_false]
    refine ⟨fun q => absurd q (by omega), fun _ => ⟨hi, ?_⟩⟩
    by_cases hin : i < co 0 3
    · rw [Nat.min_eq_left (by omega)] at ih ⊢
      have h4 := (hv.2.2.2.2.2.2.2.2.1 i hin).2.2
      rw [(hco.2.2.1 i hin).2, t4 i hi]
      simp (disch := omega) only [z_le, z_lt, z_eq, z_lt0, z_0le, z_eq0, z_le0, z_0lt, z_cl, z_in, z_add, z_mul, z_m1ne, z_m1ne', z_m1lt0, z_m1lt, z_ltm1, forall_eq, true_implies, false_implies, implies_true, true_and, and_true, false_and, and_false, not_true_eq_false, not_false_eq_true, ite_true, ite_false]
      refine ⟨fun q => ?_, fun q => ⟨hi, ?_⟩⟩
      · unfold sumN at ih; rw [if_neg q] at ih; exact ih
      · unfold sumN at ih; rw [if_pos q] at ih; exact ih
    · rw [Nat.min_eq_right (by omega)] at ih ⊢
      rw [hco.2.2.2.1 i (by omega) hi]
      refine ⟨fun _ => ?_, fun q => absurd q (by decide)⟩
      exact ih
theorem F_bestTwo {p q w : Nat} {Q : Int32 → Mem → Prop} (hA : VA co r U T sd I G K) (hF : RF μ co r U T fp sd I G K) (hp : p < co 0 3) (hq : q < co 0 3) (hne : p ≠ q) (hw : w ≤ 1)
    (h : ∀ μ' : Mem, RF μ' co r U T fp sd I G K → Q (if w = 0 then i1 (out (btG co r p q) 12 12) else i2 (out (btG co r p q) 12 12)) μ') : w_X6_bestTwo_45 (nI p) (nI q) (nI w) (-1) (-1) (nI 0) μ Q := by
  have hg := bt_g hA hp hq hne
  have ok := out_ok (m := 12) (by decide) hg
  unfold w_X6_bestTwo_45
  intro X hX
  refine cnt_dn (P := fun i => i ≤ 12 → ∀ μ1 : Mem, RF μ1 co r U T fp sd I G K → X (i1 (out (btG co r p q) 12 i)) (i2 (out (btG co r p q) 12 i)) (nI i) μ1) 12 ?_ ?_ (by decide) μ hF
  · intro _ μ1 f1
    apply hX
    unfold s_X6_bestTwo_45 w_X6_bestTwo_142
    exact ⟨fun _ => what_pick hw (h μ1 f1), fun q => absurd (by decide) q⟩
  · intro a ha ih _ μ1 f1
    apply hX
    unfold s_X6_bestTwo_45
    rw [z_le (by decide) (by omega)]
    refine ⟨fun z => absurd z (by omega), fun _ => F_isOpen hA f1 (by omega) hp hq ?_⟩
    have eo : out (btG co r p q) 12 (a + 1) = inn (btG co r p q) a (out (btG co r p q) 12 a) 12 := rfl
    by_cases ho : opn co r p q a = true
    · rw [if_pos ho]
      refine ⟨fun _ => ?_, fun z => absurd z (by decide)⟩
      have oki := inn_ok (a := a) (by omega) (ok a (by omega)) (hg a)
      unfold w_X6_bestTwo_69
      intro Y hY
      refine cnt_dn (P := fun j => j ≤ 12 → ∀ μ2 : Mem, RF μ2 co r U T fp sd I G K → Y (i1 (inn (btG co r p q) a (out (btG co r p q) 12 a) j)) (i2 (inn (btG co r p q) a (out (btG co r p q) 12 a) j)) (nI j) μ2) 12 ?_ ?_ (by decide) μ1 f1
      · intro _ μ2 f2
        apply hY
        unfold s_X6_bestTwo_69 w_X6_bestTwo_136
        refine ⟨fun _ => ?_, fun q => absurd (by decide) q⟩
        rw [eo] at ih
        simp (disch := omega) only [z_le, z_lt, z_eq, z_lt0, z_0le, z_eq0, z_le0, z_0lt, z_cl, z_in, z_add, z_mul, z_m1ne, z_m1ne', z_m1lt0, z_m1lt, z_ltm1, forall_eq, true_implies, false_implies, implies_true, true_and, and_true, false_and, and_false, not_true_eq_false, not_false_eq_true, ite_true, ite_false]
        exact ih (by omega) μ2 f2
      · intro b hb ihb _ μ2 f2
        apply hY
        unfold s_X6_bestTwo_69
        have eb : inn (btG co r p q) a (out (btG co r p q) 12 a) (b + 1) = up (inn (btG co r p q) a (out (btG co r p q) 12 a) b) (100 * a + b) (btG co r p q a b) := rfl
        have skip : btG co r p q a b = none → ∀ μ3 : Mem, RF μ3 co r U T fp sd I G K → w_X6_bestTwo_130 (nI p) (nI q) (nI w) X Y (i1 (inn (btG co r p q) a (out (btG co r p q) 12 a) b)) (i2 (inn (btG co r p q) a (out (btG co r p q) 12 a) b)) (nI a) (nI b) μ3 Q := by
          intro e μ3 f3
          unfold w_X6_bestTwo_130
          rw [e] at eb
          rw [eb] at ihb
          simp (disch := omega) only [z_le, z_lt, z_eq, z_lt0, z_0le, z_eq0, z_le0, z_0lt, z_cl, z_in, z_add, z_mul, z_m1ne, z_m1ne', z_m1lt0, z_m1lt, z_ltm1, forall_eq, true_implies, false_implies, implies_true, true_and, and_true, false_and, and_false, not_true_eq_false, not_false_eq_true, ite_true, ite_false]
          exact ihb (by omega) μ3 f3
        rw [z_le (by decide) (by omega), z_eq (by omega) (by omega)]
        refine ⟨fun z => absurd z (by omega), fun _ => ⟨fun z => skip (by unfold btG; rw [if_neg (fun y => y.1 z.symm)]) μ2 f2, fun hab => F_isOpen hA f2 (by omega) hp hq ?_⟩⟩
        by_cases hob : opn co r p q b = true
        · rw [if_pos hob]
          refine ⟨fun _ => ?_, fun z => absurd z (by decide)⟩
          have eg : btG co r p q a b = some (lesN co r p a q b) := by unfold btG; rw [if_pos ⟨fun z => hab z.symm, ho, hob⟩]
          refine F_lesser hA f2 hp hq hne (fun z => hab z.symm) ho hob (fun μ3 f3 => ?_)
          rw [eg] at eb
          have hup := up_le (k := 100 * a + b) (v := lesN co r p a q b) (oki b (by omega)) (hg a b _ eg)
          refine ⟨fun z => ?_, fun z => ?_⟩
          · unfold w_X6_bestTwo_130
            rw [eb, hup.1 z] at ihb
            simp (disch := omega) only [z_le, z_lt, z_eq, z_lt0, z_0le, z_eq0, z_le0, z_0lt, z_cl, z_in, z_add, z_mul, z_m1ne, z_m1ne', z_m1lt0, z_m1lt, z_ltm1, forall_eq, true_implies, false_implies, implies_true, true_and, and_true, false_and, and_false, not_true_eq_false, not_false_eq_true, ite_true, ite_false]
            exact ihb (by omega) μ3 f3
          · unfold w_X6_bestTwo_130
            rw [eb, hup.2 z] at ihb
            simp (disch := omega) only [z_le, z_lt, z_eq, z_lt0, z_0le, z_eq0, z_le0, z_0lt, z_cl, z_in, z_add, z_mul, z_m1ne, z_m1ne', z_m1lt0, z_m1lt, z_ltm1, forall_eq, true_implies, false_implies, implies_true, true_and, and_true, false_and, and_false, not_true_eq_false, not_false_eq_true, ite_true, ite_false]
            exact ihb (by omega) μ3 f3
        · rw [if_neg hob]
          exact ⟨fun z => absurd (by decide) z, fun _ => skip (by unfold btG; rw [if_neg (fun y => hob y.2.2)]) μ2 f2⟩
    · rw [if_neg ho]
      refine ⟨fun z => absurd (by decide) z, fun _ => ?_⟩
      unfold w_X6_bestTwo_136
      rw [eo, inn_none (fun b => by unfold btG; rw [if_neg (fun y => ho y.2.1)])] at ih
      simp (disch := omega) only [z_le, z_lt, z_eq, z_lt0, z_0le, z_eq0, z_le0, z_0lt, z_cl, z_in, z_add, z_mul, z_m1ne, z_m1ne', z_m1lt0, z_m1lt, z_ltm1, forall_eq, true_implies, false_implies, implies_true, true_and, and_true, false_and, and_false, not_true_eq_false, not_false_eq_true, ite_true, ite_false]
      exact ih (by omega) μ1 f1
theorem M_bestTwo {p q w : Nat} {Q : Int32 → Mem → Prop} (hA : VA co r U T sd I G K) (hM : RM ν co r U T fp sd I G K) (hp : p < co 0 3) (hq : q < co 0 3) (hne : p ≠ q) (hw : w ≤ 1)
    (h : ∀ ν' : Mem, RM ν' co r U T fp sd I G K → Q (if w = 0 then z1 (out (btG co r p q) (co 0 0) (co 0 0)) else i2 (out (btG co r p q) (co 0 0) (co 0 0))) ν') : w_X7_bestTwo_45 (nI p) (nI q) (nI w) (nI 0) (-1) (nI 0) ν Q := by
  have hv := hA.1
  have hn := hv.2.2.2.1
  have hcc := hv.1
  have hc := post_cells hv hp
  have hdl := dl_le hv
  have hg := bt_g hA hp hq hne
  have ok := out_ok (m := co 0 0) hcc hg
  unfold w_X7_bestTwo_45
  intro X hX
  refine cnt_dn (P := fun i => i ≤ co 0 0 → ∀ ν1 : Mem, RM ν1 co r U T fp sd I G K → X (z1 (out (btG co r p q) (co 0 0) i)) (i2 (out (btG co r p q) (co 0 0) i)) (nI i) ν1) (co 0 0) ?_ ?_ (by omega) ν hM
  · intro _ ν1 m1
    apply hX
    unfold s_X7_bestTwo_45 w_X7_bestTwo_210
    rw [m1.1.1.2.1, z_le (by omega) (by omega)]
    exact ⟨fun _ => what_pick hw (h ν1 m1), fun q => absurd (Nat.le_refl _) q⟩
  · intro a ha ih _ ν1 m1
    apply hX
    unfold s_X7_bestTwo_45
    rw [m1.1.1.2.1, z_le (by omega) (by omega)]
    refine ⟨fun z => absurd z (by omega), fun _ => ?_⟩
    have eo : out (btG co r p q) (co 0 0) (a + 1) = inn (btG co r p q) a (out (btG co r p q) (co 0 0) a) (co 0 0) := rfl
    have oki := inn_ok (a := a) (by omega) (ok a (by omega)) (hg a)
    unfold w_X7_bestTwo_57
    intro Y hY
    refine cnt_dn (P := fun j => j ≤ co 0 0 → ∀ ν2 : Mem, RM ν2 co r U T fp sd I G K → Y (z1 (inn (btG co r p q) a (out (btG co r p q) (co 0 0) a) j)) (i2 (inn (btG co r p q) a (out (btG co r p q) (co 0 0) a) j)) (nI j) ν2) (co 0 0) ?_ ?_ (by omega) ν1 m1
    · intro _ ν2 m2
      apply hY
      unfold s_X7_bestTwo_57 w_X7_bestTwo_204
      rw [m2.1.1.2.1, z_le (by omega) (by omega)]
      refine ⟨fun _ => ?_, fun q => absurd (Nat.le_refl _) q⟩
      rw [eo] at ih
      simp (disch := omega) only [z_le, z_lt, z_eq, z_lt0, z_0le, z_eq0, z_le0, z_0lt, z_cl, z_in, z_add, z_mul, z_m1ne, z_m1ne', z_m1lt0, z_m1lt, z_ltm1, forall_eq, true_implies, false_implies, implies_true, true_and, and_true, false_and, and_false, not_true_eq_false, not_false_eq_true, ite_true, ite_false]
      exact ih (by omega) ν2 m2
    · intro b hb ihb _ ν2 m2
      apply hY
      unfold s_X7_bestTwo_57
      have eb : inn (btG co r p q) a (out (btG co r p q) (co 0 0) a) (b + 1) = up (inn (btG co r p q) a (out (btG co r p q) (co 0 0) a) b) (100 * a + b) (btG co r p q a b) := rfl
      have skip : btG co r p q a b = none → ∀ ν3 : Mem, RM ν3 co r U T fp sd I G K → w_X7_bestTwo_198 (nI p) (nI q) (nI w) X Y (z1 (inn (btG co r p q) a (out (btG co r p q) (co 0 0) a) b)) (i2 (inn (btG co r p q) a (out (btG co r p q) (co 0 0) a) b)) (nI a) (nI b) ν3 Q := by
        intro e ν3 m3
        unfold w_X7_bestTwo_198
        rw [e] at eb
        rw [eb] at ihb
        simp (disch := omega) only [z_le, z_lt, z_eq, z_lt0, z_0le, z_eq0, z_le0, z_0lt, z_cl, z_in, z_add, z_mul, z_m1ne, z_m1ne', z_m1lt0, z_m1lt, z_ltm1, forall_eq, true_implies, false_implies, implies_true, true_and, and_true, false_and, and_false, not_true_eq_false, not_false_eq_true, ite_true, ite_false]
        exact ihb (by omega) ν3 m3
      rw [m2.1.1.2.1, z_le (by omega) (by omega), z_eq (by omega) (by omega)]
      refine ⟨fun z => absurd z (by omega), fun _ => ⟨fun z => skip (by unfold btG; rw [if_neg (fun y => y.1 z)]) ν2 m2, fun hab => M_isFor hA m2 ha hp hq ?_⟩⟩
      by_cases hoa : opn co r p q a = true
      · rw [if_pos hoa]
        refine ⟨fun z => absurd z (by decide), fun _ => M_isFor hA m2 hb hp hq ?_⟩
        by_cases hob : opn co r p q b = true
        · rw [if_pos hob]
          refine ⟨fun z => absurd z (by decide), fun _ => M_copy m2 (fun ν3 m3 s3 => ?_)⟩
          have eg : btG co r p q a b = some (lesN co r p a q b) := by unfold btG; rw [if_pos ⟨hab, hoa, hob⟩]
          have hv2 := bt_v hA hp hq hne hab hoa hob
          have hbb := bt_b hv hv2
          simp (disch := omega) only [z_le, z_lt, z_eq, z_lt0, z_0le, z_eq0, z_le0, z_0lt, z_cl, z_in, z_add, z_mul, z_m1ne, z_m1ne', z_m1lt0, z_m1lt, z_ltm1, forall_eq, true_implies, false_implies, implies_true, true_and, and_true, false_and, and_false, not_true_eq_false, not_false_eq_true, ite_true, ite_false]
          refine ⟨by omega, by omega, ?_⟩
          have m4 := m3.G ((FrG.rf.sI (k := 15) (j := 15 + p) (x := nI a) (Or.inl rfl)).sI (k := 15) (j := 15 + q) (x := nI b) (Or.inl rfl))
          have s4 := (s3.upd (j := 15 + p) (x := a)).upd (j := 15 + q) (x := b)
          refine M_dayLong m4.1 hv ?_
          rw [if_neg hc, z_mul]
          refine M_run hA m4 s4 hc hv2 (by omega) (fun ν5 m5 s5 t5 => ?_)
          refine M_sumOf hv m5.1 (by decide) hbb.1 t5 (M_sumOf hv m5.1 (by decide) hbb.1 t5 ?_)
          rw [eg] at eb
          have hup := up_le (k := 100 * a + b) (v := lesN co r p a q b) (oki b (by omega)) (hg a b _ eg)
          have go : w_X7_bestTwo_158 (nI p) (nI q) (nI w) X Y (z1 (inn (btG co r p q) a (out (btG co r p q) (co 0 0) a) b)) (i2 (inn (btG co r p q) a (out (btG co r p q) (co 0 0) a) b)) (nI a) (nI b) (nI (lesN co r p a q b)) ν5 Q := by
            unfold w_X7_bestTwo_158 w_X7_bestTwo_180 w_X7_bestTwo_196 w_X7_bestTwo_198
            simp (disch := omega) only [z_le, z_lt, z_eq, z_lt0, z_0le, z_eq0, z_le0, z_0lt, z_cl, z_in, z_add, z_mul, z_m1ne, z_m1ne', z_m1lt0, z_m1lt, z_ltm1, forall_eq, true_implies, false_implies, implies_true, true_and, and_true, false_and, and_false, not_true_eq_false, not_false_eq_true, ite_true, ite_false]
            refine ⟨fun z => ⟨fun _ => ?_, fun z2 => absurd z z2⟩, fun z => ⟨fun z2 => absurd z2 z, fun _ => ?_⟩⟩
            · rw [eb, hup.1 z] at ihb
              exact ihb (by omega) ν5 m5
            · rw [eb, hup.2 z] at ihb
              exact ihb (by omega) ν5 m5
          have hs2 := hbb.2
          rw [tryN_sum] at hs2
          rw [z_le (by omega) (by omega)]
          refine ⟨fun z => M_sumOf hv m5.1 (by decide) hbb.1 t5 ?_, fun z => M_sumOf hv m5.1 (by decide) hbb.1 t5 ?_⟩
          · have : lesN co r p a q b = ownS co (tryN co (mv2 r p a q b) (7 * dl co)).2.2 1 := by unfold lesN; split <;> omega
            rw [this] at go; exact go
          · have : lesN co r p a q b = ownS co (tryN co (mv2 r p a q b) (7 * dl co)).2.2 0 := by unfold lesN; split <;> omega
            rw [this] at go; exact go
        · rw [if_neg hob]
          exact ⟨fun _ => skip (by unfold btG; rw [if_neg (fun y => hob y.2.2)]) ν2 m2, fun z => absurd (by decide) z⟩
      · rw [if_neg hoa]
        exact ⟨fun _ => skip (by unfold btG; rw [if_neg (fun y => hoa y.2.1)]) ν2 m2, fun z => absurd (by decide) z⟩
theorem bt_end {p q : Nat} (hA : VA co r U T sd I G K) (hp : p < co 0 3) (hq : q < co 0 3) (hne : p ≠ q) : out (btG co r p q) 12 12 = out (btG co r p q) (co 0 0) (co 0 0) ∧ out (btG co r p q) (co 0 0) (co 0 0) ≠ none := by
  have hcc := hA.1.1
  have inj := hA.2.1.2.2.2.2.2.2.2.2.2.2
  have hrp := hA.2.1.2.2.2.2.2.2.2.2.2.1
  have e1 := out_eq (g := btG co r p q) (n := co 0 0) (d := 12 - co 0 0) (fun a b hb => by unfold btG; rw [opn_out hb]; simp) 12
  have e2 := out_end (g := btG co r p q) (m := co 0 0) (n := co 0 0) (fun a b ha => by unfold btG; rw [opn_out ha]; simp) (12 - co 0 0)
  rw [show co 0 0 + (12 - co 0 0) = 12 by omega] at e1 e2
  have h1 := opn_own (q := q) hp (hrp p hp).2.1 inj (Or.inl rfl)
  have h2 := opn_own (p := p) hq (hrp q hq).2.1 inj (Or.inr rfl)
  have hg : btG co r p q (r (15 + p)) (r (15 + q)) = some (lesN co r p (r (15 + p)) q (r (15 + q))) := by
    unfold btG
    rw [if_pos ⟨fun e => hne (inj p q hp hq e), h1, h2⟩]
  exact ⟨e1.trans e2, out_ne hg (hrp q hq).2.1 (co 0 0) (hrp p hp).2.1⟩
end TWO
theorem P_bestTwo {μ ν : Mem} {a b c : Int32} (h : Rel μ ν) : w_X6_bestTwo a b c μ (fun x μ' => w_X7_bestTwo a b c ν (fun y ν' => x = y ∧ Rel μ' ν')) := by
  obtain ⟨co, r, U, T, fp, sd, I, G, K, hA, hF, hM⟩ := h
  have hv := hA.1
  have hn := hv.2.2.2.1
  unfold w_X6_bestTwo w_X7_bestTwo
  rcases upto a (co 0 3) with ⟨p, hp, rfl⟩ | ho
  · refine F_isPost_in hF hv hp ⟨fun z => absurd z (by decide), fun _ => ?_⟩
    rcases upto b (co 0 3) with ⟨q, hq, rfl⟩ | hob
    · refine F_isPost_in hF hv hq ⟨fun z => absurd z (by decide), fun _ => ?_⟩
      rw [z_eq (by omega) (by omega)]
      refine ⟨fun hne => ?_, fun e => ?_⟩
      · rcases z_cases c 0 1 (by decide) (by decide) with ⟨w, h1, h2, rfl⟩ | hb
        · refine W_in h1 h2 (by decide) ⟨fun _ => F_bestTwo hA hF hp hq hne h2 (fun μ1 f1 => ?_), fun z => absurd z (by decide)⟩
          refine M_isPost_in hM hv hp ⟨fun z => absurd z (by decide), fun _ => M_isPost_in hM hv hq ⟨fun z => absurd z (by decide), fun _ => ?_⟩⟩
          skip
          refine ⟨fun _ => MW_in h1 h2 (by decide) ⟨fun _ => M_bestTwo hA hM hp hq hne h2 (fun ν1 m1 => ?_), fun z => absurd z (by decide)⟩, fun z => absurd z hne⟩
          obtain ⟨e1, e2⟩ := bt_end hA hp hq hne
          rw [e1, z1_eq e2]
          exact done hA f1 m1
        · refine F_within0 hb ⟨fun z => absurd (by decide) z, fun _ => ?_⟩
          refine M_isPost_in hM hv hp ⟨fun z => absurd z (by decide), fun _ => M_isPost_in hM hv hq ⟨fun z => absurd z (by decide), fun _ => ?_⟩⟩
          skip
          exact ⟨fun _ => MW_out hb ⟨fun z => absurd (by decide) z, fun _ => done hA hF hM⟩, fun z => absurd z hne⟩
      · refine M_isPost_in hM hv hp ⟨fun z => absurd z (by decide), fun _ => M_isPost_in hM hv hq ⟨fun z => absurd z (by decide), fun _ => ?_⟩⟩
        skip
        exact ⟨fun z => absurd e z, fun _ => done hA hF hM⟩
    · refine F_isPost_out hF hv hob ⟨fun _ => ?_, fun z => absurd (by decide) z⟩
      exact M_isPost_in hM hv hp ⟨fun z => absurd z (by decide), fun _ => M_isPost_out hM hv hob ⟨fun _ => done hA hF hM, fun z => absurd (by decide) z⟩⟩
  · refine F_isPost_out hF hv ho ⟨fun _ => ?_, fun z => absurd (by decide) z⟩
    exact M_isPost_out hM hv ho ⟨fun _ => done hA hF hM, fun z => absurd (by decide) z⟩
theorem M_tookWith {ν : Mem} {co : Co} {r : Ro} {U : Un} {T : Tx} {fp : Int32} {sd : Nat} {I : Im} {G K : Gt} {l n : Nat} {Q : Int32 → Mem → Prop} (hA : VA co r U T sd I G K) (hM : RM ν co r U T fp sd I G K) (hc : co 0 0 ≠ 0) (hl : l ≤ 1) (hn : n ≤ 99)
    (h : ∀ ν' : Mem, RM ν' co r U T fp sd I G K → Q (nI (tryN co (upN r 2 l) n).1) ν') : w_X7_tookWith (nI l) (nI n) ν Q := by
  have hv := hA.1
  unfold w_X7_tookWith
  refine M_copy hM (fun ν2 m2 s2 => ?_)
  simp (disch := omega) only [z_le, z_lt, z_eq, z_lt0, z_0le, z_eq0, z_le0, z_0lt, z_cl, z_in, z_add, z_mul, z_m1ne, z_m1ne', z_m1lt0, z_m1lt, z_ltm1, forall_eq, true_implies, false_implies, implies_true, true_and, and_true, false_and, and_false, not_true_eq_false, not_false_eq_true, ite_true, ite_false]
  refine ⟨by decide, ?_⟩
  have m3 := m2.G (FrG.rf.sI (k := 15) (j := 2) (x := nI l) (Or.inl rfl))
  have s3 := s2.upd (j := 2) (x := l)
  have hr3 := vRo_lamp hA.2.1 hl
  have hle := (tryN_le hv hr3 n).1
  have hs := tryN_sum (co := co) (r := upN r 2 l) n
  refine M_run hA m3 s3 hc hr3 (by omega) (fun ν4 m4 s4 t4 => ?_)
  refine M_sumOf hv m4.1 (by decide) (by omega) t4 (M_sumOf hv m4.1 (by decide) (by omega) t4 ?_)
  rw [z_add, ownS_2 hv, ← hs]
  exact h ν4 m4
theorem P_lampCosts {μ ν : Mem} {a : Int32} (h : Rel μ ν) : w_X6_lampCosts a μ (fun x μ' => w_X7_lampCosts a ν (fun y ν' => x = y ∧ Rel μ' ν')) := by
  obtain ⟨co, r, U, T, fp, sd, I, G, K, hA, hF, hM⟩ := h
  have hv := hA.1
  unfold w_X6_lampCosts w_X7_lampCosts
  rcases z_cases a 0 99 (by decide) (by decide) with ⟨n, h1, h2, rfl⟩ | hb
  · refine W_in h1 h2 (by decide) ⟨fun _ => F_isBare hF hv ?_, fun z => absurd z (by decide)⟩
    by_cases hc : co 0 0 = 0
    · rw [if_pos hc]
      refine ⟨fun z => absurd z (by decide), fun _ => ?_⟩
      refine MW_in h1 h2 (by decide) (M_need1 hM ?_)
      rw [if_pos hc]
      exact ⟨fun z => absurd z (by decide), fun _ => done hA hF hM⟩
    · rw [if_neg hc]
      refine ⟨fun _ => F_copy hA hF (fun μ1 _ f1 s1 => ?_), fun z => absurd (by decide) z⟩
      intro μ2 e2
      subst e2
      have f2 := f1.X (FrX.rf.sI (k := 31) (j := 2) (x := nI 0) (by decide))
      refine F_run hA f2 (s1.upd0 (j := 2) (x := 0) (by decide)) hc (vRo_lamp hA.2.1 (by decide)) (by omega) (fun μ3 f3 s3 t3 => ?_)
      refine F_copy hA f3 (fun μ4 _ f4 s4 => ?_)
      intro μ5 e5
      subst e5
      have f5 := f4.X (FrX.rf.sI (k := 31) (j := 2) (x := nI 1) (by decide))
      refine F_run hA f5 (s4.upd0 (j := 2) (x := 1) (by decide)) hc (vRo_lamp hA.2.1 (by decide)) (by omega) (fun μ6 f6 s6 t6 => ?_)
      refine MW_in h1 h2 (by decide) (M_need1 hM ?_)
      rw [if_neg hc]
      refine ⟨fun _ => ?_, fun z => absurd (by decide) z⟩
      refine M_tookWith hA hM hc (by decide) h2 (fun ν1 m1 => M_tookWith hA m1 hc (by decide) h2 (fun ν2 m2 => ?_))
      exact done hA f6 m2
  · refine F_within0 hb ⟨fun z => absurd (by decide) z, fun _ => ?_⟩
    refine MW_out hb (M_need0 ?_)
    exact ⟨fun z => absurd z (by decide), fun _ => done hA hF hM⟩
