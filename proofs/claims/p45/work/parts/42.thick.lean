/-! ===== how thick it was: thick, needs, lookAt ===== -/
def tkn (co : Co) (r : Ro) (p side t : Nat) : Nat := (lead co r (hs co (r 0)) side t).2 p
theorem tkn_le {co : Co} {r : Ro} {B H p side t : Nat} (hr : vRH co r B H) : tkn co r p side t ≤ t := lead_le hr
def fitE (co : Co) (r : Ro) (G : Gt) (t : Nat) : Nat → Bool
  | 0 => true
  | e + 1 => fitE co r G t e && decide (tkn co r (G.2 e 0) (G.2 e 1) t = G.2 e 2)
def fitA (co : Co) (r : Ro) (G : Gt) (t : Nat) : Bool := fitE co r G t G.1
theorem fitE_no {co : Co} {r : Ro} {G : Gt} {t i : Nat} (h : fitE co r G t i = false) : ∀ d, fitE co r G t (i + d) = false := by
  intro d
  induction d with
  | zero => exact h
  | succ d ih => show (fitE co r G t (i + d) && _) = false; rw [ih]; rfl
theorem FrW.rf2 {μ : Mem} : FrW μ μ := ⟨rfl, fun _ _ => rfl⟩
theorem FrW.tr2 {a b c : Mem} (h1 : FrW a b) (h2 : FrW b c) : FrW a c := ⟨h2.1.trans h1.1, fun k hk => (h2.2 k hk).trans (h1.2 k hk)⟩
def fsO (f : Nat → Bool) : Nat → Option Nat
  | 0 => none
  | i + 1 => match fsO f i with
    | some x => some x
    | none => if f i = true then some i else none
def lsO (f : Nat → Bool) : Nat → Option Nat
  | 0 => none
  | i + 1 => if f i = true then some i else lsO f i
theorem fsO_lt {f : Nat → Bool} : ∀ i x, fsO f i = some x → x < i := by
  intro i
  induction i with
  | zero => intro x h; cases h
  | succ i ih =>
    intro x h
    unfold fsO at h
    cases e : fsO f i with
    | some y => rw [e] at h; have h2 := ih y e; cases h; omega
    | none =>
      rw [e] at h
      dsimp only at h
      split at h
      · cases h; omega
      · cases h
theorem lsO_lt {f : Nat → Bool} : ∀ i x, lsO f i = some x → x < i := by
  intro i
  induction i with
  | zero => intro x h; cases h
  | succ i ih =>
    intro x h
    unfold lsO at h
    split at h
    · cases h; omega
    · have := ih x h; omega
theorem bits_hsN (f : Nat → Bool) {n N : Nat} (h : n ≤ N) : sumN (fun p => hsN f n / 2 ^ p % 2) N = sumN (fun p => if f p = true then 1 else 0) n := by
  have e1 := sumN_end (f := fun p => hsN f n / 2 ^ p % 2) (n := n) (fun p hp => by
    show hsN f n / 2 ^ p % 2 = 0
    rw [bitV, hsN_bit, decide_eq_false (by omega)]; rfl) (N - n)
  rw [show n + (N - n) = N by omega] at e1
  rw [e1]
  exact sumN_congr n (fun p hp => by rw [bitV, hsN_bit, decide_eq_true hp]; simp)
theorem hsN_41 (f : Nat → Bool) {i : Nat} (h : i ≤ 41) : hsN f i < 2199023255552 := Nat.lt_of_lt_of_le (hsN_lt f i) (Nat.pow_le_pow_right (by decide) h : 2 ^ i ≤ 2 ^ 41)
theorem pow_41 {i : Nat} (h : i ≤ 41) : 2 ^ i ≤ 2199023255552 := (Nat.pow_le_pow_right (by decide) h : 2 ^ i ≤ 2 ^ 41)
def cX (f : Nat → Bool) (g : Nat → Nat) (x n : Nat) : Nat := sumN (fun t => if (f t && decide (g t = x)) = true then 1 else 0) n
theorem cX_s (f : Nat → Bool) (g : Nat → Nat) (x i : Nat) : cX f g x (i + 1) = if (f i && decide (g i = x)) = true then cX f g x i + 1 else cX f g x i := sumN_s (fun t => f t && decide (g t = x)) i
theorem cX_le (f : Nat → Bool) (g : Nat → Nat) (x i : Nat) : cX f g x i ≤ i := sumN_1 (fun t => f t && decide (g t = x)) i
def mxN (h : Nat → Nat) : Nat → Nat
  | 0 => 0
  | n + 1 => if h n ≤ mxN h n then mxN h n else h n
theorem mxN_le {h : Nat → Nat} {c : Nat} : ∀ n, (∀ x, x < n → h x ≤ c) → mxN h n ≤ c := by
  intro n
  induction n with
  | zero => intro _; exact Nat.zero_le _
  | succ n ih =>
    intro q
    have := ih (fun x hx => q x (by omega))
    have := q n (by omega)
    unfold mxN
    split <;> omega
theorem mxN_ge {h : Nat → Nat} : ∀ n x, x < n → h x ≤ mxN h n := by
  intro n
  induction n with
  | zero => intro x hx; omega
  | succ n ih =>
    intro x hx
    unfold mxN
    by_cases e : x = n
    · subst e; split <;> omega
    · have := ih x (by omega)
      split <;> omega
theorem mxN_congr {h h2 : Nat → Nat} : ∀ n, (∀ x, x < n → h x = h2 x) → mxN h n = mxN h2 n := by
  intro n
  induction n with
  | zero => intro _; rfl
  | succ n ih => intro q; unfold mxN; rw [ih (fun x hx => q x (by omega)), q n (by omega)]
theorem mxN_upd {h h2 : Nat → Nat} {n x0 : Nat} (hx : x0 < n) (ho : ∀ x, x ≠ x0 → h2 x = h x) (hg : h x0 ≤ h2 x0) : mxN h2 n = if mxN h n < h2 x0 then h2 x0 else mxN h n := by
  have k1 : mxN h n ≤ mxN h2 n := mxN_le n (fun x hxn => by
    have := mxN_ge (h := h2) n x hxn
    by_cases e : x = x0
    · subst e; omega
    · rw [← ho x e]; exact this)
  have k2 := mxN_ge (h := h2) n x0 hx
  apply Nat.le_antisymm
  · refine mxN_le n (fun x hxn => ?_)
    by_cases e : x = x0
    · subst e; split <;> omega
    · rw [ho x e]
      have := mxN_ge (h := h) n x hxn
      split <;> omega
  · split
    · exact k2
    · exact k1
def lkN (part : Nat → Nat) (c0 : Nat) : Nat → Option Nat × Nat
  | 0 => (none, c0)
  | p + 1 => if (lkN part c0 p).2 ≤ part p then lkN part c0 p else (some p, part p)
theorem lkN_le {part : Nat → Nat} {c0 : Nat} : ∀ i, (lkN part c0 i).2 ≤ c0 := by
  intro i
  induction i with
  | zero => exact Nat.le_refl _
  | succ i ih =>
    unfold lkN
    split
    · exact ih
    · dsimp only; omega
section THICK
variable {μ ν : Mem} {co : Co} {r : Ro} {U : Un} {T : Tx} {fp : Int32} {sd : Nat} {I : Im} {G K : Gt}
theorem F_takenOf {p side t : Nat} {Q : Int32 → Mem → Prop} (hA : VA co r U T sd I G K) (hF : RF μ co r U T fp sd I G K) (hp : p < co 0 3) (hside : side ≤ 1) (ht : t ≤ 99)
    (h : ∀ μ' : Mem, FrW μ μ' → RF μ' co r U T fp sd I G K → Q (nI (tkn co r p side t)) μ') : w_X6_takenOf (nI p) (nI side) (nI t) μ Q := by
  have hn := hA.1.2.2.2.1
  have h64 := hs_64 (d := r 0) hA.1
  unfold w_X6_takenOf
  refine F_hang hA hF ?_
  rw [hF.2.1.1.1]
  refine F_blow (n := 6) st_25 hF.2.2.2.1 hA.1 hA.2.1 h64 (fun q hq => hs_in hq) hside ht (fun μ2 f2 b2 => ?_)
  refine F_at (n := 6) (by decide) (by decide) (by omega) ?_
  rw [b2.1 p (by omega)]
  exact h μ2 f2 (hF.X f2.X)
theorem F_fitsAll {t : Nat} {Q : Int32 → Mem → Prop} (hA : VA co r U T sd I G K) (hF : RF μ co r U T fp sd I G K) (ht : t ≤ 40)
    (h : ∀ μ' : Mem, FrW μ μ' → RF μ' co r U T fp sd I G K → Q (nI (if fitA co r G t = true then 1 else 0)) μ') : w_X6_fitsAll (nI t) μ Q := by
  have hG := hA.2.2.2.2.2.2.1
  unfold w_X6_fitsAll w_X6_fitsAll_2
  intro X hX
  refine cnt_dn (P := fun i => i ≤ G.1 → ∀ μ1 : Mem, FrW μ μ1 → RF μ1 co r U T fp sd I G K → fitE co r G t i = true → X (nI i) μ1) G.1 ?_ ?_ (by omega) μ FrW.rf2 hF rfl
  · intro _ μ1 f1 g1 hfit
    apply hX
    unfold s_X6_fitsAll_2
    rw [g1.2.2.2.2.2.2.2.2.2.1.1]
    have := h μ1 f1 g1
    have hf2 : fitA co r G t = true := hfit
    rw [if_pos hf2] at this
    exact ⟨fun _ => this, fun q => absurd ((z_le (by omega) (by omega)).mpr (Nat.le_refl _)) q⟩
  · intro i hi ih _ μ1 f1 g1 hfit
    have hGi := hG.2 i hi
    have eG := g1.2.2.2.2.2.2.2.2.2.1
    apply hX
    unfold s_X6_fitsAll_2
    rw [eG.1, z_le (by omega) (by omega), z_le (by omega) (by omega)]
    refine ⟨fun q => absurd hi (by omega), fun _ => ⟨fun q => absurd q (by omega), fun _ => ?_⟩⟩
    refine F_at (n := 6) (by decide) (by decide) (by omega) (F_at (n := 6) (by decide) (by decide) (by omega) ?_)
    rw [(eG.2 i hi).1, (eG.2 i hi).2.1]
    refine F_takenOf hA g1 hGi.1 hGi.2.1 (by omega) (fun μ2 f2 g2 => ?_)
    refine F_at (n := 6) (by decide) (by decide) (by omega) ?_
    rw [(g2.2.2.2.2.2.2.2.2.2.1.2 i hi).2.2]
    have hle := tkn_le (p := G.2 i 0) (side := G.2 i 1) (t := t) hA.2.1
    rw [z_eq (by omega) (by omega)]
    refine ⟨fun q => ?_, fun q => ?_⟩
    · simp (disch := omega) only [z_le, z_lt, z_eq, z_lt0, z_0le, z_eq0, z_le0, z_0lt, z_cl, z_in, z_add, z_mul, z_m1ne, z_m1ne', z_m1lt0, z_m1lt, z_ltm1, forall_eq, true_implies, false_implies, implies_true, true_and, and_true, false_and, and_false, not_true_eq_false, not_false_eq_true, ite_true, ite_false]
      refine ih (by omega) μ2 (f1.tr2 f2) g2 ?_
      show (fitE co r G t i && decide (tkn co r (G.2 i 0) (G.2 i 1) t = G.2 i 2)) = true
      rw [hfit, decide_eq_true q]; rfl
    · have := h μ2 (f1.tr2 f2) g2
      have hno : fitE co r G t (i + 1) = false := by
        show (fitE co r G t i && decide (tkn co r (G.2 i 0) (G.2 i 1) t = G.2 i 2)) = false
        rw [decide_eq_false q, Bool.and_false]
      have hno2 := fitE_no hno (G.1 - (i + 1))
      rw [show i + 1 + (G.1 - (i + 1)) = G.1 by omega] at hno2
      have hno3 : fitA co r G t = false := hno2
      rw [hno3] at this
      exact this
theorem F_fitting {Q : Int64 → Mem → Prop} (hA : VA co r U T sd I G K) (hF : RF μ co r U T fp sd I G K)
    (h : ∀ μ' : Mem, RF μ' co r U T fp sd I G K → Q (lN (hsN (fitA co r G) 41)) μ') : w_X6_fitting μ Q := by
  unfold w_X6_fitting w_X6_fitting_4
  intro X hX
  refine cnt_dn (P := fun i => i ≤ 41 → ∀ μ1 : Mem, RF μ1 co r U T fp sd I G K → X (lN (hsN (fitA co r G) i)) (nI i) μ1) 41 ?_ ?_ (by decide) μ hF
  · intro _ μ1 g1
    apply hX
    unfold s_X6_fitting_4
    exact ⟨fun _ => h μ1 g1, fun q => absurd (by decide) q⟩
  · intro i hi ih _ μ1 g1
    have h41 := hsN_41 (fitA co r G) (i := i) (by omega)
    have hp := pow_41 (i := i) (by omega)
    apply hX
    unfold s_X6_fitting_4 w_X6_fitting_24
    rw [z_lt (by decide) (by omega)]
    refine ⟨fun q => absurd q (by omega), fun _ => F_fitsAll hA g1 (by omega) (fun μ2 f2 g2 => ?_)⟩
    have ih := ih (by omega) μ2 g2
    unfold hsN at ih
    by_cases q : fitA co r G i = true
    · rw [if_pos q] at ih ⊢
      refine ⟨fun z => absurd z (by decide), fun _ => ?_⟩
      rw [l_shl i hi, l_or (by omega) (by omega)]
      intro x3 e3 x4 e4
      rw [z_add] at e4
      subst e3 e4
      exact ih
    · rw [if_neg q] at ih ⊢
      refine ⟨fun _ => ?_, fun z => absurd (by decide) z⟩
      simp (disch := omega) only [z_le, z_lt, z_eq, z_lt0, z_0le, z_eq0, z_le0, z_0lt, z_cl, z_in, z_add, z_mul, z_m1ne, z_m1ne', z_m1lt0, z_m1lt, z_ltm1, forall_eq, true_implies, false_implies, implies_true, true_and, and_true, false_and, and_false, not_true_eq_false, not_false_eq_true, ite_true, ite_false]
      exact ih
theorem bit_cmp {f : Nat → Bool} {i : Nat} (hi : i < 41) (c : Nat) : lg_cmp ((lN (hsN f 41) >>> ((nI i).toInt64 &&& 63)) &&& (lN 1)) (lN c) = lg_cmp (lN (if f i = true then 1 else 0)) (lN c) := by
  have h41 := hsN_41 f (i := 41) (by omega)
  have hd : hsN f 41 / 2 ^ i ≤ hsN f 41 := Nat.div_le_self _ _
  rw [l_shr (by omega) (by omega), l_and (by omega) (by decide), Nat.and_one_is_mod, bitV, hsN_bit, decide_eq_true hi, Bool.true_and]
theorem lc_11 : lg_cmp (lN 1) (lN 1) = 0 := by decide +kernel
theorem lc_00 : lg_cmp (lN 0) (lN 0) = 0 := by decide +kernel
theorem lc_01 : ¬ lg_cmp (lN 0) (lN 1) = 0 := by decide +kernel
theorem lc_10 : ¬ lg_cmp (lN 1) (lN 0) = 0 := by decide +kernel
theorem F_thick {w : Nat} {Q : Int32 → Mem → Prop} (hw : w ≤ 2) (hw0 : w ≠ 0) {f : Nat → Bool} (h : Q (optI (if w = 2 then lsO f 41 else fsO f 41)) μ) : w_X6_thick_42 (nI w) (lN (hsN f 41)) (-1) (nI 0) μ Q := by
  unfold w_X6_thick_42
  intro X hX
  suffices hs : X (optI (if w = 2 then lsO f 0 else fsO f 0)) (nI 0) by
    have e0 : (if w = 2 then lsO f 0 else fsO f 0) = none := by split <;> rfl
    rw [e0] at hs
    exact hs
  refine cnt_dn (P := fun i => i ≤ 41 → X (optI (if w = 2 then lsO f i else fsO f i)) (nI i)) 41 ?_ ?_ (by decide)
  · intro _
    apply hX
    unfold s_X6_thick_42
    exact ⟨fun _ => h, fun q => absurd (by decide) q⟩
  · intro i hi ih _
    have ih := ih (by omega)
    apply hX
    unfold s_X6_thick_42 w_X6_thick_65 w_X6_thick_83 w_X6_thick_87
    rw [z_lt (by decide) (by omega), bit_cmp hi, z_add]
    refine ⟨fun q => absurd q (by omega), fun _ => ?_⟩
    by_cases q : f i = true
    · rw [if_pos q]
      refine ⟨fun z => absurd lc_11 z, fun _ => ⟨fun z => absurd z (by decide), fun _ => ?_⟩⟩
      rw [z_eq (by omega) (by decide)]
      refine ⟨fun q2 x9 e9 => ?_, fun q2 => ?_⟩
      · subst e9
        rw [if_pos q2] at ih
        unfold lsO at ih
        rw [if_pos q] at ih
        exact ih
      · rw [if_neg q2] at ih ⊢
        unfold fsO at ih
        cases e : fsO f i with
        | none =>
          rw [e] at ih
          dsimp only at ih
          rw [if_pos q] at ih
          refine ⟨fun z => absurd rfl z, fun _ x9 e9 => ?_⟩
          subst e9
          exact ih
        | some x =>
          rw [e] at ih
          have hx := fsO_lt i x e
          refine ⟨fun _ x9 e9 => ?_, fun z => absurd z (by unfold optI; dsimp only; rw [z_m1ne (by omega)]; exact id)⟩
          subst e9
          exact ih
    · rw [if_neg q]
      refine ⟨fun _ => ⟨fun _ x9 e9 => ?_, fun z => absurd rfl z⟩, fun z => absurd z lc_01⟩
      subst e9
      unfold lsO fsO at ih
      rw [if_neg q] at ih
      by_cases q2 : w = 2
      · rw [if_pos q2] at ih ⊢; exact ih
      · rw [if_neg q2] at ih ⊢
        cases e : fsO f i with
        | none =>
          rw [e] at ih
          dsimp only at ih
          rw [if_neg q] at ih
          exact ih
        | some x => rw [e] at ih; exact ih
end THICK
section NEEDS
variable {μ ν : Mem} {co : Co} {r : Ro} {U : Un} {T : Tx} {fp : Int32} {sd : Nat} {I : Im} {G K : Gt}
theorem F_needs {p s x : Nat} {Q : Int32 → Mem → Prop} (hA : VA co r U T sd I G K) (hF : RF μ co r U T fp sd I G K) (hp : p < co 0 3) (hs1 : s ≤ 1) (hx : x ≤ 40)
    (h : ∀ μ' : Mem, RF μ' co r U T fp sd I G K → Q (optI (fnd (fun t => decide (x ≤ tkn co r p s t)) 41 0)) μ') : w_X6_needs_36 (nI p) (nI s) (nI x) (nI 0) μ Q := by
  unfold w_X6_needs_36
  intro X hX
  refine cnt_dn (P := fun i => i ≤ 41 → ∀ μ1 : Mem, RF μ1 co r U T fp sd I G K → (∀ μ' : Mem, RF μ' co r U T fp sd I G K → Q (optI (fnd (fun t => decide (x ≤ tkn co r p s t)) (41 - i) i)) μ') → X (nI i) μ1) 41 ?_ ?_ (by decide) μ hF h
  · intro _ μ1 f1 hq
    apply hX
    unfold s_X6_needs_36
    exact ⟨fun _ => hq μ1 f1, fun q => absurd (by decide) q⟩
  · intro i hi ih _ μ1 f1 hq
    rw [fnd_step hi] at hq
    have hle := tkn_le (p := p) (side := s) (t := i) hA.2.1
    apply hX
    unfold s_X6_needs_36
    rw [z_lt (by decide) (by omega)]
    refine ⟨fun q => absurd q (by omega), fun _ => F_takenOf hA f1 hp hs1 (by omega) (fun μ2 _ f2 => ?_)⟩
    rw [z_lt (by omega) (by omega), z_add]
    refine ⟨fun q x9 e9 => ?_, fun q => ?_⟩
    · subst e9
      rw [if_neg (by simpa using q)] at hq
      exact ih (by omega) μ2 f2 hq
    · rw [if_pos (by simpa using q)] at hq
      exact hq μ2 f2
end NEEDS
section LOOK
variable {μ ν : Mem} {co : Co} {r : Ro} {U : Un} {T : Tx} {fp : Int32} {sd : Nat} {I : Im} {G K : Gt}
def prt (co : Co) (r : Ro) (G : Gt) (s p : Nat) : Nat := mxN (fun x => cX (fitA co r G) (tkn co r p s) x 41) 41
theorem prt_le (co : Co) (r : Ro) (G : Gt) (s p : Nat) : prt co r G s p ≤ 41 := mxN_le 41 (fun x _ => cX_le _ _ x 41)
theorem RF.Y {μ1 : Mem} (h : RF μ co r U T fp sd I G K) (h2 : μ1.2 = μ.2) (hf : ∀ k, k ≠ 245 → μ1.1 k = μ.1 k) : RF μ1 co r U T fp sd I G K := h.fr h2 (fun k _ hk => hf k hk)
theorem F_part {p s : Nat} {Q : Int32 → Mem → Prop} (hA : VA co r U T sd I G K) (hF : RF μ co r U T fp sd I G K) (hp : p < co 0 3) (hs1 : s ≤ 1)
    (h : ∀ μ' : Mem, RF μ' co r U T fp sd I G K → Q (nI (prt co r G s p)) μ') : w_X6_greatestPart (lN (hsN (fitA co r G) 41)) (nI p) (nI s) μ Q := by
  unfold w_X6_greatestPart w_X6_greatestPart_3
  intro X hX
  refine cnt_dn (P := fun i => i ≤ 41 → ∀ μ1 : Mem, RF μ1 co r U T fp sd I G K → (∀ x, x < i → μ1.1 245 x = nI 0) → X (nI i) μ1) 41 ?_ ?_ (by decide) μ hF (fun x hx => by omega)
  · intro _ μ1 f1 h0
    apply hX
    unfold s_X6_greatestPart_3
    refine ⟨fun _ => ?_, fun q => absurd (by decide) q⟩
    unfold w_X6_greatestPart_24 w_X6_greatestPart_30
    intro Y hY
    refine cnt_dn (P := fun i => i ≤ 41 → ∀ μ3 : Mem, RF μ3 co r U T fp sd I G K → (∀ x, x < 41 → μ3.1 245 x = nI (cX (fitA co r G) (tkn co r p s) x i)) → Y (nI (mxN (fun x => cX (fitA co r G) (tkn co r p s) x i) 41)) (nI i) μ3) 41 ?_ ?_ (by decide) μ1 f1 h0
    · intro _ μ3 f3 t3
      apply hY
      unfold s_X6_greatestPart_30
      exact ⟨fun _ => h μ3 f3, fun q => absurd (by decide) q⟩
    · intro i hi ih _ μ3 f3 t3
      have ih := ih (by omega)
      apply hY
      unfold s_X6_greatestPart_30 w_X6_greatestPart_95
      rw [z_lt (by decide) (by omega), bit_cmp hi, z_add]
      refine ⟨fun q => absurd q (by omega), fun _ => ?_⟩
      by_cases q : fitA co r G i = true
      · rw [if_pos q]
        refine ⟨fun _ => ?_, fun z => absurd z lc_10⟩
        refine F_takenOf hA f3 hp hs1 (by omega) (fun μ4 f4 g4 => ?_)
        have hle := tkn_le (p := p) (side := s) (t := i) hA.2.1
        have hcx := cX_le (fitA co r G) (tkn co r p s) (tkn co r p s i) i
        refine F_at (n := 41) (by decide) (by decide) (by omega) ?_
        rw [f4.2 245 (by omega), t3 _ (by omega), z_add]
        have own1 : cX (fitA co r G) (tkn co r p s) (tkn co r p s i) (i + 1) = cX (fitA co r G) (tkn co r p s) (tkn co r p s i) i + 1 := by
          rw [cX_s, if_pos (by rw [q]; simp)]
        have oth : ∀ x, x ≠ tkn co r p s i → cX (fitA co r G) (tkn co r p s) x (i + 1) = cX (fitA co r G) (tkn co r p s) x i := by
          intro x hx
          rw [cX_s, if_neg (by simp [Ne.symm hx])]
        have hmx := mxN_upd (h := fun x => cX (fitA co r G) (tkn co r p s) x i) (h2 := fun x => cX (fitA co r G) (tkn co r p s) x (i + 1)) (n := 41) (x0 := tkn co r p s i) (by omega) oth (by omega)
        rw [own1] at hmx
        rw [hmx] at ih
        have hml : mxN (fun x => cX (fitA co r G) (tkn co r p s) x i) 41 ≤ i := mxN_le 41 (fun x _ => cX_le _ _ x i)
        intro x7 e7
        subst e7
        refine F_put (n := 41) (by decide) (by decide) (by omega) ?_
        intro x10 e10 x11 e11
        subst e11
        have ex : x10 = nI (if mxN (fun x => cX (fitA co r G) (tkn co r p s) x i) 41 < cX (fitA co r G) (tkn co r p s) (tkn co r p s i) i + 1 then cX (fitA co r G) (tkn co r p s) (tkn co r p s i) i + 1 else mxN (fun x => cX (fitA co r G) (tkn co r p s) x i) 41) := by
          rw [e10]
          by_cases q3 : mxN (fun x => cX (fitA co r G) (tkn co r p s) x i) 41 < cX (fitA co r G) (tkn co r p s) (tkn co r p s i) i + 1
          · rw [if_pos ((z_lt (by omega) (by omega)).mpr q3), if_pos q3]
          · rw [if_neg (fun z => q3 ((z_lt (by omega) (by omega)).mp z)), if_neg q3]
        rw [ex]
        refine ih _ (g4.Y rfl (fun k hk => sI_r hk)) (fun x hx => ?_)
        by_cases e : x = tkn co r p s i
        · rw [e, own1, sI_same]
        · rw [sI_ne2 e, oth x e, f4.2 245 (by omega)]; exact t3 x hx
      · rw [if_neg q]
        refine ⟨fun z => absurd lc_00 z, fun _ x11 e11 => ?_⟩
        subst e11
        have oth : ∀ x, cX (fitA co r G) (tkn co r p s) x (i + 1) = cX (fitA co r G) (tkn co r p s) x i := by
          intro x
          rw [cX_s, if_neg (by rw [Bool.eq_false_iff.mpr q]; simp)]
        have hmx := mxN_congr (h := fun x => cX (fitA co r G) (tkn co r p s) x (i + 1)) (h2 := fun x => cX (fitA co r G) (tkn co r p s) x i) 41 (fun x _ => oth x)
        rw [hmx] at ih
        exact ih μ3 f3 (fun x hx => by rw [oth x]; exact t3 x hx)
  · intro i hi ih _ μ1 f1 h0
    apply hX
    unfold s_X6_greatestPart_3
    simp (disch := omega) only [z_le, z_lt, z_eq, z_lt0, z_0le, z_eq0, z_le0, z_0lt, z_cl, z_in, z_add, z_mul, z_m1ne, z_m1ne', z_m1lt0, z_m1lt, z_ltm1, forall_eq, true_implies, false_implies, implies_true, true_and, and_true, false_and, and_false, not_true_eq_false, not_false_eq_true, ite_true, ite_false]
    refine ⟨fun q => absurd q (by omega), fun _ => ⟨hi, ?_⟩⟩
    refine ih (by omega) _ (f1.Y rfl (fun k hk => sI_r hk)) (fun x hx => ?_)
    rw [sI_get]
    by_cases e : x = i
    · rw [if_pos ⟨rfl, e⟩]
    · rw [if_neg (fun z => e z.2)]; exact h0 x (by omega)
def c41 (co : Co) (r : Ro) (G : Gt) : Nat := sumN (fun t => if fitA co r G t = true then 1 else 0) 41
theorem F_look {s : Nat} {Q : Int32 → Mem → Prop} (hA : VA co r U T sd I G K) (hF : RF μ co r U T fp sd I G K) (hs1 : s ≤ 1)
    (h : ∀ μ' : Mem, RF μ' co r U T fp sd I G K → Q (optI (lkN (prt co r G s) (c41 co r G) (co 0 3)).1) μ') : w_X6_lookAt_39 (nI s) (lN (hsN (fitA co r G) 41)) (-1) (nI (c41 co r G)) (nI 0) μ Q := by
  have hv := hA.1
  have hn := hv.2.2.2.1
  have hc : c41 co r G ≤ 41 := sumN_1 (fitA co r G) 41
  unfold w_X6_lookAt_39
  intro X hX
  refine cnt_dn (P := fun i => i ≤ 6 → ∀ μ1 : Mem, RF μ1 co r U T fp sd I G K → X (optI (lkN (prt co r G s) (c41 co r G) (min i (co 0 3))).1) (nI (lkN (prt co r G s) (c41 co r G) (min i (co 0 3))).2) (nI i) μ1) 6 ?_ ?_ (by decide) μ ?_
  · intro _ μ1 f1
    apply hX
    unfold s_X6_lookAt_39
    rw [show min 6 (co 0 3) = co 0 3 by omega]
    exact ⟨fun _ => h μ1 f1, fun q => absurd (by decide) q⟩
  · intro i hi ih _ μ1 f1
    have ih := ih (by omega)
    have hl := lkN_le (part := prt co r G s) (c0 := c41 co r G) (min i (co 0 3))
    apply hX
    unfold s_X6_lookAt_39 w_X6_lookAt_83
    rw [z_le (by decide) (by omega), z_add]
    refine ⟨fun q => absurd q (by omega), fun _ => ?_⟩
    rcases Nat.lt_or_ge i (co 0 3) with hp | hp
    · refine F_isPost_in f1 hv hp ⟨fun _ => F_part hA f1 hp hs1 (fun μ2 f2 => ?_), fun z => absurd z (by decide)⟩
      have ih := ih μ2 f2
      have hpl := prt_le co r G s i
      rw [show min (i + 1) (co 0 3) = i + 1 by omega] at ih
      rw [show min i (co 0 3) = i by omega] at hl ⊢
      unfold lkN at ih
      rw [z_le (by omega) (by omega)]
      refine ⟨fun q x13 e13 => ?_, fun q x13 e13 => ?_⟩
      · subst e13
        rw [if_pos q] at ih
        exact ih
      · subst e13
        rw [if_neg q] at ih
        exact ih
    · refine F_isPost_out f1 hv (fun p hp2 e => ?_) ⟨fun z => absurd (by decide) z, fun _ x13 e13 => ?_⟩
      · rw [z_eq (by omega) (by omega)] at e; omega
      · subst e13
        have ih := ih μ1 f1
        rw [show min (i + 1) (co 0 3) = co 0 3 by omega] at ih
        rw [show min i (co 0 3) = co 0 3 by omega]
        exact ih
  · exact hF
end LOOK
