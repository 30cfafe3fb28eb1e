/-! ===== the numbers that the law draws out of its script ===== -/
def cv (ss : Nat × (Nat → Int32)) (k : Nat) : Nat := if ss.1 ≤ k then (61 * k + 7) * (k + 3) else (ss.2 k).toBitVec.toNat % 268435456
theorem and28 (x : Int32) : (x &&& nI 268435455) = nI (x.toBitVec.toNat % 268435456) := by
  apply Int32.toBitVec_inj.mp
  apply BitVec.eq_of_toNat_eq
  have h := Nat.mod_lt x.toBitVec.toNat (show 0 < 268435456 by decide)
  rw [Int32.toBitVec_and, BitVec.toNat_and, z_tn (by decide), z_tn (by omega)]
  exact Nat.and_two_pow_sub_one_eq_mod x.toBitVec.toNat 28
theorem cv_lt {ss : Nat × (Nat → Int32)} {k : Nat} (hk : k < 100) : cv ss k < 268435456 := by
  unfold cv
  split
  · have h1 : 61 * k + 7 ≤ 6107 := by omega
    have h2 : k + 3 ≤ 103 := by omega
    exact Nat.lt_of_le_of_lt (Nat.mul_le_mul h1 h2) (by decide)
  · exact Nat.mod_lt _ (by decide)
theorem L_cell {ss : Nat × (Nat → Int32)} {k : Nat} {μ : Mem} {Q : Int32 → Prop} (hs : ss.1 ≤ 260) (hk : k < 100) (q : Q (nI (cv ss k))) : w_L_cell ss (nI k) μ Q := by
  unfold w_L_cell
  rw [z_le (by omega) (by omega)]
  unfold cv at q
  by_cases c : ss.1 ≤ k
  · rw [if_pos c] at q
    refine br_yes c ?_
    rw [z_mul, z_add, z_add, z_mul]
    exact q
  · rw [if_neg c] at q
    refine br_no c ⟨vp_in_nI (by omega) (by omega), ?_⟩
    rw [z_cl (by omega), and28]
    exact q
def A2 (μ : Mem) (g w : Nat → Nat) : Prop := (∀ j, μ.1 246 j = nI (g j)) ∧ ∀ j, μ.1 247 j = nI (w j)
def FrN (μ μ' : Mem) : Prop := μ'.2 = μ.2 ∧ ∀ k, k ≠ 246 → k ≠ 247 → μ'.1 k = μ.1 k
section NUMB
variable {μ μ1 : Mem} {g w : Nat → Nat} {ss : Nat × (Nat → Int32)} {Q : Mem → Prop}
theorem A2.ug (h : A2 μ g w) (j x : Nat) : A2 (sI μ 246 j (nI x)) (upN g j x) w := by
  refine ⟨fun i => ?_, fun i => by rw [sI_ne1 (by decide)]; exact h.2 i⟩
  unfold upN
  by_cases c : i = j
  · rw [c, sI_same, if_pos rfl]
  · rw [sI_ne2 c, if_neg c]; exact h.1 i
theorem A2.uw (h : A2 μ g w) (j x : Nat) : A2 (sI μ 247 j (nI x)) g (upN w j x) := by
  refine ⟨fun i => by rw [sI_ne1 (by decide)]; exact h.1 i, fun i => ?_⟩
  unfold upN
  by_cases c : i = j
  · rw [c, sI_same, if_pos rfl]
  · rw [sI_ne2 c, if_neg c]; exact h.2 i
theorem FrN.rf : FrN μ μ := ⟨rfl, fun _ _ _ => rfl⟩
theorem FrN.tr {μ2 : Mem} (h1 : FrN μ μ1) (h2 : FrN μ1 μ2) : FrN μ μ2 := ⟨h2.1.trans h1.1, fun k k1 k2 => (h2.2 k k1 k2).trans (h1.2 k k1 k2)⟩
theorem FrN.u {k j : Nat} {x : Int32} (h : FrN μ μ1) (hk : k = 246 ∨ k = 247) : FrN μ (sI μ1 k j x) := ⟨h.1, fun c h1 h2 => by rw [sI_r (by omega)]; exact h.2 c h1 h2⟩
theorem A2.gi (h : A2 μ g w) {j : Nat} (hj : j < 1000) : μ.1 246 ((nI j)).toNatClampNeg = nI (g j) := by rw [z_cl (by omega), h.1 j]
/-- what is drawn before the posts -/
def G1 (g : Nat → Nat) : Prop := (4 ≤ g 0 ∧ g 0 ≤ 12) ∧ g 1 ≤ 20 ∧ g 2 ≤ 4 ∧ (1 ≤ g 3 ∧ g 3 ≤ 4) ∧ g 4 ≤ 4 ∧ (g 5 ≤ 127 ∧ g 6 ≤ 127 ∧ g 7 ≤ 29 ∧ g 8 ≤ 19)
def GP (g w : Nat → Nat) (n : Nat) : Prop := (∀ p, p < n → w (15 + p) < g 0 ∧ w (21 + p) ≤ 9 ∧ (1 ≤ g (9 + p) ∧ g (9 + p) ≤ 99) ∧ g (15 + p) ≤ 1) ∧ ∀ p q, p < n → q < n → w (15 + p) = w (15 + q) → p = q
def GG (g : Nat → Nat) (n : Nat) : Prop := ∀ i, i < n → g (21 + i) < g 0 ∧ 1 ≤ g (25 + i) ∧ g (25 + i) ≤ 20
def GH (g : Nat → Nat) (n : Nat) : Prop := ∀ h, h < n → g (29 + 2 * h) ≤ 1 ∧ g (30 + 2 * h) ≤ 40
theorem G1.cg {g g' : Nat → Nat} (h : G1 g) (e : ∀ j, j < 9 → g' j = g j) : G1 g' := by
  unfold G1 at h ⊢
  rw [e 0 (by decide), e 1 (by decide), e 2 (by decide), e 3 (by decide), e 4 (by decide), e 5 (by decide), e 6 (by decide), e 7 (by decide), e 8 (by decide)]
  exact h
theorem N_450 (hs : ss.1 ≤ 260) (h : A2 μ g w) (h2 : g 2 ≤ 4)
    (q : ∀ (μ' : Mem) (g' : Nat → Nat), FrN μ μ' → A2 μ' g' w → (∀ j, j < 29 → g' j = g j) → GH g' (g 2) → Q μ') : w_L_numbers_450 ss (nI 10) (nI 4) (nI 0) μ Q := by
  unfold w_L_numbers_450
  intro X hX
  refine cnt_dn (P := fun i => i ≤ g 2 → ∀ (μ1 : Mem) (g1 : Nat → Nat), FrN μ μ1 → A2 μ1 g1 w → (∀ j, j < 29 → g1 j = g j) → GH g1 i → X (nI i) μ1) (g 2) ?_ ?_ (by omega) μ g FrN.rf h (fun _ _ => rfl) (fun i hi => by omega)
  · intro _ μ1 g1 f1 a1 e1 b1
    apply hX
    unfold s_L_numbers_450
    rw [a1.gi (by decide), e1 2 (by decide), z_le (by omega) (by omega)]
    exact ⟨vp_in_nI (by decide) (by decide), br_yes (Nat.le_refl _) (q μ1 g1 f1 a1 e1 b1)⟩
  · intro i hi ih _ μ1 g1 f1 a1 e1 b1
    have ih := ih (by omega)
    have hx := cv_lt (ss := ss) (k := 10 + 12 + i) (by omega)
    apply hX
    unfold s_L_numbers_450
    rw [a1.gi (by decide), e1 2 (by decide), z_le (by omega) (by omega)]
    simp only [z_add, z_mul]
    refine ⟨vp_in_nI (by decide) (by decide), br_no (by omega) (L_cell hs (by omega) ⟨by decide, fun x52 e52 => ⟨vp_in_nI (by omega) (by decide), fun μ53 e53 => ⟨by decide, by decide, fun x54 e54 => ⟨vp_in_nI (by omega) (by decide), fun μ55 e55 x56 e56 => ?_⟩⟩⟩⟩)⟩
    obtain ⟨x, ex⟩ : ∃ x, x = cv ss (10 + 12 + i) := ⟨_, rfl⟩
    rw [← ex] at hx e52 e54
    rw [z_rem (by omega) (by decide) (by decide)] at e52
    rw [z_div (by omega) (by decide) (by decide), z_rem (by omega) (by decide) (by decide)] at e54
    rw [e52, z_cl (by omega)] at e53
    rw [e54, z_cl (by omega)] at e55
    subst e56
    have a2 := (a1.ug (29 + 2 * i) (x % 2)).ug (30 + 2 * i) (x / 2 % 41)
    have f2 : FrN μ (sI (sI μ1 246 (29 + 2 * i) (nI (x % 2))) 246 (30 + 2 * i) (nI (x / 2 % 41))) := (f1.u (Or.inl rfl)).u (Or.inl rfl)
    rw [← e53] at a2 f2
    rw [← e55] at a2 f2
    refine ih μ55 _ f2 a2 (fun j hj => ?_) (fun h hh => ?_)
    · rw [upN_ne (by omega), upN_ne (by omega)]; exact e1 j hj
    · have m2 := Nat.mod_lt x (show 0 < 2 by decide)
      have m41 := Nat.mod_lt (x / 2) (show 0 < 41 by decide)
      by_cases c : h = i
      · subst c
        rw [upN_ne (by omega), upN_same, upN_same]
        omega
      · rw [upN_ne (by omega), upN_ne (by omega), upN_ne (by omega), upN_ne (by omega)]
        exact b1 h (by omega)
theorem N_390 (hs : ss.1 ≤ 260) (h : A2 μ g w) (h1 : G1 g)
    (q : ∀ (μ' : Mem) (g' : Nat → Nat), FrN μ μ' → A2 μ' g' w → (∀ j, j < 21 → g' j = g j) → GG g' (g 4) → GH g' (g 2) → Q μ') : w_L_numbers_390 ss (nI 10) (nI 4) (nI 0) μ Q := by
  obtain ⟨c0, c1, c2, c3, c4, c5⟩ := h1
  unfold w_L_numbers_390
  intro X hX
  refine cnt_dn (P := fun i => i ≤ g 4 → ∀ (μ1 : Mem) (g1 : Nat → Nat), FrN μ μ1 → A2 μ1 g1 w → (∀ j, j < 21 → g1 j = g j) → GG g1 i → X (nI i) μ1) (g 4) ?_ ?_ (by omega) μ g FrN.rf h (fun _ _ => rfl) (fun i hi => by omega)
  · intro _ μ1 g1 f1 a1 e1 b1
    apply hX
    unfold s_L_numbers_390
    rw [a1.gi (by decide), e1 4 (by decide), z_le (by omega) (by omega)]
    refine ⟨vp4, br_yes (Nat.le_refl _) ?_⟩
    unfold w_L_numbers_387 at *
    unfold w_L_numbers_447
    refine N_450 hs a1 (by rw [e1 2 (by decide)]; exact c2) (fun μ2 g2 f2 a2 e2 b2 => ?_)
    rw [e1 2 (by decide)] at b2
    refine q μ2 g2 ⟨f2.1.trans f1.1, fun k k1 k2 => (f2.2 k k1 k2).trans (f1.2 k k1 k2)⟩ a2 (fun j hj => (e2 j (by omega)).trans (e1 j hj)) (fun i hi => ?_) b2
    rw [e2 (21 + i) (by omega), e2 0 (by decide), e2 (25 + i) (by omega)]
    exact b1 i hi
  · intro i hi ih _ μ1 g1 f1 a1 e1 b1
    have ih := ih (by omega)
    have hx := cv_lt (ss := ss) (k := 10 + 8 + i) (by omega)
    apply hX
    unfold s_L_numbers_390
    rw [a1.gi (by decide), e1 4 (by decide), z_le (by omega) (by omega)]
    simp only [z_add]
    rw [a1.gi (by decide), e1 0 (by decide)]
    have hne : ¬ nI (g 0) = 0 := fun z => by rw [z_eq0 (by omega)] at z; omega
    refine ⟨vp4, br_no (by omega) (L_cell hs (by omega) ⟨vp_in_nI (by decide) (by decide), hne, fun x45 e45 => ⟨vp_in_nI (by omega) (by decide), fun μ46 e46 => ⟨by decide, by decide, fun x47 e47 => ⟨vp_in_nI (by omega) (by decide), fun μ48 e48 x49 e49 => ?_⟩⟩⟩⟩)⟩
    obtain ⟨x, ex⟩ : ∃ x, x = cv ss (10 + 8 + i) := ⟨_, rfl⟩
    rw [← ex] at hx e45 e47
    have mg := Nat.mod_lt x (show 0 < g 0 by omega)
    have m20 := Nat.mod_lt (x / 16) (show 0 < 20 by decide)
    rw [z_rem (by omega) (by omega) (by omega)] at e45
    rw [z_div (by omega) (by decide) (by decide), z_rem (by omega) (by decide) (by decide)] at e47
    rw [e45, z_cl (by omega)] at e46
    rw [e47, z_cl (by omega), z_add] at e48
    subst e49
    have a2 := (a1.ug (21 + i) (x % g 0)).ug (25 + i) (1 + x / 16 % 20)
    have f2 : FrN μ (sI (sI μ1 246 (21 + i) (nI (x % g 0))) 246 (25 + i) (nI (1 + x / 16 % 20))) := (f1.u (Or.inl rfl)).u (Or.inl rfl)
    rw [← e46] at a2 f2
    rw [← e48] at a2 f2
    have e0 := e1 0 (by decide)
    refine ih μ48 _ f2 a2 (fun j hj => ?_) (fun h hh => ?_)
    · rw [upN_ne (by omega), upN_ne (by omega)]; exact e1 j hj
    · rw [upN_ne (show 0 ≠ 25 + i by omega), upN_ne (show 0 ≠ 21 + i by omega), e0]
      by_cases c : h = i
      · subst c
        rw [upN_ne (by omega), upN_same, upN_same]
        omega
      · rw [upN_ne (by omega), upN_ne (by omega), upN_ne (by omega), upN_ne (by omega)]
        have := b1 h (by omega)
        rw [e0] at this
        exact this
/-- the cells that are looked at, one after another -/
def sq (n a : Nat) : Nat → Nat
  | 0 => a
  | k + 1 => if sq n a k = n - 1 then 0 else sq n a k + 1
theorem sq_lt {n a : Nat} (ha : a < n) : ∀ k, sq n a k < n := by
  intro k
  induction k with
  | zero => exact ha
  | succ k ih =>
    show (if sq n a k = n - 1 then 0 else sq n a k + 1) < n
    split <;> omega
theorem sq_4 {n a : Nat} (hn : 4 ≤ n) (ha : a < n) : sq n a 0 ≠ sq n a 1 ∧ sq n a 0 ≠ sq n a 2 ∧ sq n a 0 ≠ sq n a 3 ∧ sq n a 1 ≠ sq n a 2 ∧ sq n a 1 ≠ sq n a 3 ∧ sq n a 2 ≠ sq n a 3 := by
  have e0 : sq n a 0 = a := rfl
  have e1 : sq n a 1 = if sq n a 0 = n - 1 then 0 else sq n a 0 + 1 := rfl
  have e2 : sq n a 2 = if sq n a 1 = n - 1 then 0 else sq n a 1 + 1 := rfl
  have e3 : sq n a 3 = if sq n a 2 = n - 1 then 0 else sq n a 2 + 1 := rfl
  rw [e0] at *
  split at e1 <;> split at e2 <;> split at e3 <;> omega
theorem sq_free {n a p : Nat} {f : Nat → Nat} (hn : 4 ≤ n) (ha : a < n) (hp : p ≤ 3) (h : ∀ j, j < 4 → ∃ i, i < p ∧ f i = sq n a j) : False := by
  obtain ⟨d1, d2, d3, d4, d5, d6⟩ := sq_4 hn ha
  obtain ⟨i0, l0, e0⟩ := h 0 (by decide)
  obtain ⟨i1, l1, e1⟩ := h 1 (by decide)
  obtain ⟨i2, l2, e2⟩ := h 2 (by decide)
  obtain ⟨i3, l3, e3⟩ := h 3 (by decide)
  rcases (by omega : i0 = i1 ∨ i0 = i2 ∨ i0 = i3 ∨ i1 = i2 ∨ i1 = i3 ∨ i2 = i3) with z | z | z | z | z | z
  · rw [z, e1] at e0; exact d1 e0.symm
  · rw [z, e2] at e0; exact d2 e0.symm
  · rw [z, e3] at e0; exact d3 e0.symm
  · rw [z, e2] at e1; exact d4 e1.symm
  · rw [z, e3] at e1; exact d5 e1.symm
  · rw [z, e3] at e2; exact d6 e2.symm
theorem pow12 : ∀ i, i < 12 → 2 ^ i < 4096 := by decide
theorem N_224 (hs : ss.1 ≤ 260) (h : A2 μ g w) (h1 : G1 g)
    (q : ∀ (μ' : Mem) (g' w' : Nat → Nat), FrN μ μ' → A2 μ' g' w' → (∀ j, j < 9 → g' j = g j) → (∀ j, j < 15 → w' j = w j) → GP g' w' (g 3) → GG g' (g 4) → GH g' (g 2) → Q μ') : w_L_numbers_224 ss (nI 10) (nI 4) (nI 0) (nI 0) μ Q := by
  obtain ⟨c0, c1, c2, c3, c4, c5⟩ := id h1
  unfold w_L_numbers_224
  intro X hX
  refine cnt_dn (P := fun i => i ≤ g 3 → ∀ (u : Nat) (μ1 : Mem) (g1 w1 : Nat → Nat), u < 4096 → FrN μ μ1 → A2 μ1 g1 w1 → (∀ j, j < 9 → g1 j = g j) → (∀ j, j < 15 → w1 j = w j) → GP g1 w1 i → (∀ a, a < 12 → (u / 2 ^ a % 2 = 1 ↔ ∃ p, p < i ∧ w1 (15 + p) = a)) → X (nI u) (nI i) μ1) (g 3) ?_ ?_ (by omega) 0 μ g w (by decide) FrN.rf h (fun _ _ => rfl) (fun _ _ => rfl) ⟨fun i hi => by omega, fun p q hp => by omega⟩ (fun a ha => ⟨fun z => (by rw [Nat.zero_div] at z; cases z), fun ⟨p, hp, _⟩ => by omega⟩)
  · intro _ u μ1 g1 w1 hu f1 a1 e1 e2 b1 b2
    apply hX
    unfold s_L_numbers_224
    rw [a1.gi (by decide), e1 3 (by decide), z_le (by omega) (by omega)]
    refine ⟨vp3, br_yes (Nat.le_refl _) ?_⟩
    unfold w_L_numbers_387
    refine N_390 hs a1 (h1.cg e1) (fun μ2 g2 f2 a2 e3 b3 b4 => ?_)
    rw [e1 4 (by decide)] at b3
    rw [e1 2 (by decide)] at b4
    refine q μ2 g2 w1 ⟨f2.1.trans f1.1, fun k k1 k2 => (f2.2 k k1 k2).trans (f1.2 k k1 k2)⟩ a2 (fun j hj => (e3 j (by omega)).trans (e1 j hj)) e2 ⟨fun p hp => ?_, b1.2⟩ b3 b4
    rw [e3 0 (by decide), e3 (9 + p) (by omega), e3 (15 + p) (by omega)]
    exact b1.1 p hp
  · intro i hi ih _ u μ1 g1 w1 hu f1 a1 e1 e2 b1 b2
    have ih := ih (by omega)
    have hx := cv_lt (ss := ss) (k := 10 + 2 + i) (by omega)
    have e0 := e1 0 (by decide)
    have hne : ¬ nI (g 0) = 0 := fun z => by rw [z_eq0 (by omega)] at z; omega
    apply hX
    unfold s_L_numbers_224
    rw [a1.gi (by decide), e1 3 (by decide), z_le (by omega) (by omega)]
    simp only [z_add]
    rw [a1.gi (by decide), e0]
    refine ⟨vp3, br_no (by omega) (L_cell hs (by omega) ⟨vp_in_nI (by decide) (by decide), hne, fun x31 e31 => ?_⟩)⟩
    obtain ⟨x, ex⟩ : ∃ x, x = cv ss (10 + 2 + i) := ⟨_, rfl⟩
    rw [← ex] at hx e31 ⊢
    have mg := Nat.mod_lt x (show 0 < g 0 by omega)
    rw [z_rem (by omega) (by omega) (by omega)] at e31
    subst e31
    obtain ⟨a0, ea0⟩ : ∃ a0, a0 = x % g 0 := ⟨_, rfl⟩
    rw [← ea0] at mg ⊢
    -- a free cell is found
    have found : ∀ a, a < g 0 → ¬ (u / 2 ^ a % 2 = 1) → w_L_numbers_299 ss (nI 10) (nI 4) X (nI x) (nI u) (nI i) (nI a) μ1 Q := by
      intro a ha hfree
      have hp2 := pow12 a (by omega)
      unfold w_L_numbers_299
      intro x33 e33
      rw [z_shl1 (by omega), z_or (by omega) (by omega)] at e33
      simp only [z_add]
      refine ⟨vp_in_nI (by omega) (by decide), fun μ34 e34 => ⟨by decide, by decide, fun x35 e35 => ⟨vp_in_nI (by omega) (by decide), fun μ36 e36 => ⟨by decide, by decide, by decide, fun x37 e37 => ?_⟩⟩⟩⟩
      rw [z_cl (by omega)] at e34
      rw [z_div (by omega) (by decide) (by decide), z_rem (by omega) (by decide) (by decide)] at e35
      rw [e35, z_cl (by omega)] at e36
      rw [z_div (by omega) (by decide) (by decide), z_rem (by omega) (by decide) (by decide)] at e37
      have m10 := Nat.mod_lt (x / 16) (show 0 < 10 by decide)
      have m2 := Nat.mod_lt (x / 32768) (show 0 < 2 by decide)
      have m22 := Nat.mod_lt (x / 65536) (show 0 < 2 by decide)
      have hu2 : u ||| 2 ^ a < 4096 := Nat.or_lt_two_pow (n := 12) hu hp2
      have next : ∀ s, 1 ≤ s → s ≤ 99 → w_L_numbers_364 ss (nI 10) (nI 4) X (nI x) x33 (nI i) (nI s) (nI x / nI 256) (nI 1) (nI (9 + i)) μ36 Q := by
        intro s s1 s99
        have ms := Nat.mod_lt (x / 256) (show 0 < s by omega)
        unfold w_L_numbers_364
        rw [z_div (by omega) (by decide) (by decide)]
        refine ⟨fun z => by rw [z_eq0 (by omega)] at z; omega, fun x38 e38 => ⟨vp_in_nI (by omega) (by decide), fun μ39 e39 => ⟨by decide, by decide, fun x40 e40 => ⟨by rw [z_add]; exact vp_in_nI (by omega) (by decide), fun μ41 e41 x42 e42 => ?_⟩⟩⟩⟩
        rw [z_rem (by omega) (by omega) (by omega)] at e38
        rw [e38, z_cl (by omega), z_add] at e39
        rw [z_div (by omega) (by decide) (by decide), z_rem (by omega) (by decide) (by decide)] at e40
        rw [e40, z_add, z_cl (by omega)] at e41
        rw [z_add] at e42
        have a2 := (((a1.uw (15 + i) a).uw (21 + i) (x / 16 % 10)).ug (9 + i) (1 + x / 256 % s)).ug (15 + i) (x / 65536 % 2)
        have f2 : FrN μ (sI (sI (sI (sI μ1 247 (15 + i) (nI a)) 247 (21 + i) (nI (x / 16 % 10))) 246 (9 + i) (nI (1 + x / 256 % s))) 246 (15 + i) (nI (x / 65536 % 2))) := (((f1.u (Or.inr rfl)).u (Or.inr rfl)).u (Or.inl rfl)).u (Or.inl rfl)
        rw [← e34] at a2 f2
        rw [← e36] at a2 f2
        rw [← e39] at a2 f2
        rw [← e41] at a2 f2
        rw [e33]
        subst e42
        have hold : ∀ p, p < i → upN (upN w1 (15 + i) a) (21 + i) (x / 16 % 10) (15 + p) = w1 (15 + p) := fun p hp => by rw [upN_ne (by omega), upN_ne (by omega)]
        have hnew : upN (upN w1 (15 + i) a) (21 + i) (x / 16 % 10) (15 + i) = a := by rw [upN_ne (by omega), upN_same]
        refine ih (u ||| 2 ^ a) μ41 _ _ hu2 f2 a2 (fun j hj => ?_) (fun j hj => ?_) ⟨fun p hp => ?_, fun p1 p2 h1 h2 e => ?_⟩ (fun a' ha' => ⟨fun z => ?_, fun ⟨p, hp, e⟩ => ?_⟩)
        · rw [upN_ne (by omega), upN_ne (by omega)]; exact e1 j hj
        · rw [upN_ne (by omega), upN_ne (by omega)]; exact e2 j hj
        · rw [upN_ne (show 0 ≠ 15 + i by omega), upN_ne (show 0 ≠ 9 + i by omega), e0]
          by_cases c : p = i
          · subst c
            rw [hnew, upN_same, upN_ne (show 9 + p ≠ 15 + p by omega), upN_same, upN_same]
            omega
          · have hb := b1.1 p (by omega)
            rw [e0] at hb
            rw [hold p (by omega), upN_ne (show 21 + p ≠ 21 + i by omega), upN_ne (show 21 + p ≠ 15 + i by omega), upN_ne (show 9 + p ≠ 15 + i by omega), upN_ne (show 9 + p ≠ 9 + i by omega), upN_ne (show 15 + p ≠ 15 + i by omega), upN_ne (show 15 + p ≠ 9 + i by omega)]
            exact hb
        · have nofree : ∀ p, p < i → w1 (15 + p) ≠ a := fun p hp z => hfree ((b2 a (by omega)).mpr ⟨p, hp, z⟩)
          by_cases d1 : p1 = i
          · by_cases d2 : p2 = i
            · omega
            · rw [d1, hnew, hold p2 (by omega)] at e
              exact absurd e.symm (nofree p2 (by omega))
          · by_cases d2 : p2 = i
            · rw [d2, hnew, hold p1 (by omega)] at e
              exact absurd e (nofree p1 (by omega))
            · rw [hold p1 (by omega), hold p2 (by omega)] at e
              exact b1.2 p1 p2 (by omega) (by omega) e
        · rcases or_bit z with z | z
          · obtain ⟨p, hp, e⟩ := (b2 a' ha').mp z
            exact ⟨p, by omega, by rw [hold p hp]; exact e⟩
          · exact ⟨i, by omega, by rw [hnew]; exact z⟩
        · have hor : ∀ y, (u ||| 2 ^ a) / 2 ^ y % 2 = 1 ↔ (u.testBit y || (2 ^ a).testBit y) = true := fun y => by
            rw [← Nat.testBit_or, ← bitN_eq]
            unfold bitN
            exact decide_eq_true_iff.symm
          rw [hor]
          by_cases c : p = i
          · rw [c, hnew] at e
            rw [e, Nat.testBit_two_pow, decide_eq_true rfl, Bool.or_true]
          · rw [hold p (by omega)] at e
            have hb := (b2 a' ha').mpr ⟨p, by omega, e⟩
            have : u.testBit a' = true := by rw [← bitN_eq]; exact decide_eq_true hb
            rw [this, Bool.true_or]
      rw [e37, z_eq0 (by omega)]
      refine ⟨fun _ => next 20 (by decide) (by decide), fun _ => next 99 (by decide) (by decide)⟩
    unfold w_L_numbers_255
    intro Y hY
    have search : ∀ n k, k + n = 4 → (∀ j, j < k → ∃ p, p < i ∧ w1 (15 + p) = sq (g 0) a0 j) → Y (nI (sq (g 0) a0 k)) (nI k) := by
      intro n
      induction n with
      | zero =>
        intro k hk hall
        have : k = 4 := by omega
        subst this
        exact (sq_free c0.1 mg (by omega) hall).elim
      | succ n ihn =>
        intro k hk hall
        have hlt := sq_lt mg k
        have hdv := Nat.div_le_self u (2 ^ sq (g 0) a0 k)
        have hb := Nat.mod_lt (u / 2 ^ sq (g 0) a0 k) (show 0 < 2 by decide)
        apply hY
        unfold s_L_numbers_255
        rw [z_le (by decide) (by omega), z_shr (by omega) (by omega), z_and1 (by omega), z_eq (by omega) (by decide), a1.gi (by decide), e0, z_sub (by omega), z_eq (by omega) (by omega)]
        refine br_no (by omega) ?_
        by_cases c : u / 2 ^ sq (g 0) a0 k % 2 = 1
        · refine bn_yes c ⟨vp_in_nI (by decide) (by decide), ?_⟩
          have hall2 : ∀ j, j < k + 1 → ∃ p, p < i ∧ w1 (15 + p) = sq (g 0) a0 j := fun j hj => by
            by_cases d : j = k
            · rw [d]; exact (b2 _ (by omega)).mp c
            · exact hall j (by omega)
          have nx := ihn (k + 1) (by omega) hall2
          have es : sq (g 0) a0 (k + 1) = if sq (g 0) a0 k = g 0 - 1 then 0 else sq (g 0) a0 k + 1 := rfl
          by_cases d : sq (g 0) a0 k = g 0 - 1
          · refine bn_yes d ?_
            rw [es, if_pos d] at nx
            unfold w_L_numbers_291
            intro x32 e32
            rw [z_add] at e32
            subst e32
            exact nx
          · refine bn_no d ?_
            rw [es, if_neg d] at nx
            unfold w_L_numbers_291
            intro x32 e32
            rw [z_add] at e32
            rw [z_add]
            subst e32
            exact nx
        · exact bn_no c (found _ hlt c)
    exact search 4 0 rfl (fun j hj => by omega)
/-- the first five numbers -/
def GA (g : Nat → Nat) : Prop := (4 ≤ g 0 ∧ g 0 ≤ 12) ∧ g 1 ≤ 20 ∧ g 2 ≤ 4 ∧ (1 ≤ g 3 ∧ g 3 ≤ 4) ∧ g 4 ≤ 4
def LL (g w : Nat → Nat) : Nat → Nat → Nat := fun a => if a = 100 then g else if a = 101 then w else fun _ => 0
theorem N_192 {y s3 : Nat} (hs : ss.1 ≤ 260) (h : A2 μ g w) (ga : GA g) (h5 : g 5 ≤ 127) (hw : ∀ j, j < 15 → w j = 0) (hy : y < 268435456) (h3 : s3 ≤ 127)
    (q : ∀ (μ' : Mem) (L : Nat → Nat → Nat), FrN μ μ' → LwF μ' L → NG L → Q μ') : w_L_numbers_192 ss (nI 10) (nI 4) (nI y) (nI s3) (nI 6) μ Q := by
  have n30 := Nat.mod_lt (y / 16384) (show 0 < 30 by decide)
  have n20 := Nat.mod_lt (y / 1048576) (show 0 < 20 by decide)
  unfold w_L_numbers_192
  refine ⟨vp_in_nI (by decide) (by decide), fun μ24 e24 => ⟨by decide, by decide, fun x25 e25 => ⟨vp_in_nI (by decide) (by decide), fun μ26 e26 => ⟨by decide, by decide, fun x27 e27 => ⟨vp_in_nI (by decide) (by decide), fun μ28 e28 => ?_⟩⟩⟩⟩⟩
  rw [z_cl (by decide)] at e24
  rw [z_div (by omega) (by decide) (by decide), z_rem (by omega) (by decide) (by decide)] at e25 e27
  rw [e25, z_cl (by decide)] at e26
  rw [e27, z_cl (by decide)] at e28
  have a4 := ((h.ug 6 s3).ug 7 (y / 16384 % 30)).ug 8 (y / 1048576 % 20)
  have f4 : FrN μ (sI (sI (sI μ 246 6 (nI s3)) 246 7 (nI (y / 16384 % 30))) 246 8 (nI (y / 1048576 % 20))) := ((FrN.rf.u (Or.inl rfl)).u (Or.inl rfl)).u (Or.inl rfl)
  rw [← e24] at a4 f4
  rw [← e26] at a4 f4
  rw [← e28] at a4 f4
  have g1 : G1 (upN (upN (upN g 6 s3) 7 (y / 16384 % 30)) 8 (y / 1048576 % 20)) := by
    obtain ⟨c0, c1, c2, c3, c4⟩ := ga
    unfold G1
    simp only [upN]
    simp
    refine ⟨c0, c1, c2, c3, c4, h5, h3, by omega, by omega⟩
  refine N_224 hs a4 g1 (fun μ1 g' w' f1 a1 e1 e2 b1 b2 b3 => q μ1 (LL g' w') (f4.tr f1) ⟨a1.1, a1.2⟩ ?_)
  have g1' := g1.cg e1
  obtain ⟨c0, c1, c2, c3, c4, c5⟩ := g1'
  have b1 : GP g' w' (g' 3) := by rw [e1 3 (by decide)]; exact b1
  have b2 : GG g' (g' 4) := by rw [e1 4 (by decide)]; exact b2
  have b3 : GH g' (g' 2) := by rw [e1 2 (by decide)]; exact b3
  exact ⟨c0, c1, c2, c3, c4, c5, b1.1, b1.2, b2, b3, fun j hj => (e2 j hj).trans (hw j hj)⟩
theorem N_168 {y s3 : Nat} {v6 : Int32} (hs : ss.1 ≤ 260) (h : A2 μ g w) (ga : GA g) (hw : ∀ j, j < 15 → w j = 0) (hy : y < 268435456) (h3 : s3 ≤ 127)
    (q : ∀ (μ' : Mem) (L : Nat → Nat → Nat), FrN μ μ' → LwF μ' L → NG L → Q μ') : w_L_numbers_168 ss (nI 10) (nI 4) (nI y) v6 (nI s3) (nI 5) μ Q := by
  have n128 := Nat.mod_lt (y / 128) (show 0 < 128 by decide)
  unfold w_L_numbers_168
  refine ⟨vp_in_nI (by decide) (by decide), fun μ22 e22 => ?_⟩
  rw [z_cl (by decide)] at e22
  have a4 := h.ug 5 s3
  have f4 : FrN μ (sI μ 246 5 (nI s3)) := FrN.rf.u (Or.inl rfl)
  rw [← e22] at a4 f4
  have ga' : GA (upN g 5 s3) := by
    unfold GA at ga ⊢
    rw [upN_ne (by decide), upN_ne (by decide), upN_ne (by decide), upN_ne (by decide), upN_ne (by decide)]
    exact ga
  refine ⟨fun _ => ⟨by decide, by decide, fun x23 e23 => ?_⟩, fun _ => ?_⟩
  · rw [z_div (by omega) (by decide) (by decide), z_rem (by omega) (by decide) (by decide)] at e23
    rw [e23]
    exact N_192 hs a4 ga' (by rw [upN_same]; exact h3) hw hy (by omega) (fun μ1 L f1 => q μ1 L (f4.tr f1))
  · exact N_192 hs a4 ga' (by rw [upN_same]; exact h3) hw hy (by decide) (fun μ1 L f1 => q μ1 L (f4.tr f1))
theorem N_139 {s1 : Int32} (hs : ss.1 ≤ 260) (h : A2 μ g w) (ga : GA g) (hw : ∀ j, j < 15 → w j = 0)
    (q : ∀ (μ' : Mem) (L : Nat → Nat → Nat), FrN μ μ' → LwF μ' L → NG L → Q μ') : w_L_numbers_139 ss (nI 10) (nI 4) s1 μ Q := by
  have hy := cv_lt (ss := ss) (k := 10 + 1) (by decide)
  unfold w_L_numbers_139
  rw [z_add]
  refine L_cell hs (by decide) ?_
  obtain ⟨y, ey⟩ : ∃ y, y = cv ss (10 + 1) := ⟨_, rfl⟩
  rw [← ey] at hy ⊢
  have n128 := Nat.mod_lt y (show 0 < 128 by decide)
  refine ⟨fun _ => ⟨by decide, fun x21 e21 => ?_⟩, fun _ => ?_⟩
  · rw [z_rem (by omega) (by decide) (by decide)] at e21
    rw [e21]
    exact N_168 hs h ga hw hy (by omega) q
  · exact N_168 hs h ga hw hy (by decide) q
theorem N_100 {x s3 : Nat} (hs : ss.1 ≤ 260) (h : A2 μ g w) (h0 : 4 ≤ g 0 ∧ g 0 ≤ 12) (h1 : g 1 ≤ 20) (hw : ∀ j, j < 15 → w j = 0) (hx : x < 268435456) (h3 : s3 ≤ 4)
    (q : ∀ (μ' : Mem) (L : Nat → Nat → Nat), FrN μ μ' → LwF μ' L → NG L → Q μ') : w_L_numbers_100 ss (nI 10) (nI 4) (nI x) (nI s3) (nI 2) μ Q := by
  have m44 := Nat.mod_lt (x / 4096) (show 0 < 4 by decide)
  have m55 := Nat.mod_lt (x / 32768) (show 0 < 5 by decide)
  unfold w_L_numbers_100
  refine ⟨vp_in_nI (by decide) (by decide), fun μ13 e13 => ⟨by decide, by decide, fun x14 e14 => ⟨vp_in_nI (by decide) (by decide), fun μ15 e15 => ⟨by decide, by decide, fun x16 e16 => ⟨vp_in_nI (by decide) (by decide), fun μ17 e17 => ⟨by decide, by decide, fun x18 e18 => ?_⟩⟩⟩⟩⟩⟩
  rw [z_cl (by decide)] at e13
  rw [z_div (by omega) (by decide) (by decide), z_rem (by omega) (by decide) (by decide)] at e14 e16
  rw [e14, z_add, z_cl (by decide)] at e15
  rw [e16, z_cl (by decide)] at e17
  have a4 := ((h.ug 2 s3).ug 3 (1 + x / 4096 % 4)).ug 4 (x / 32768 % 5)
  have f4 : FrN μ (sI (sI (sI μ 246 2 (nI s3)) 246 3 (nI (1 + x / 4096 % 4))) 246 4 (nI (x / 32768 % 5))) := ((FrN.rf.u (Or.inl rfl)).u (Or.inl rfl)).u (Or.inl rfl)
  rw [← e13] at a4 f4
  rw [← e15] at a4 f4
  rw [← e17] at a4 f4
  have ga : GA (upN (upN (upN g 2 s3) 3 (1 + x / 4096 % 4)) 4 (x / 32768 % 5)) := by
    unfold GA
    simp only [upN]
    simp
    refine ⟨h0, h1, h3, by omega, by omega⟩
  exact ⟨fun _ => N_139 hs a4 ga hw (fun μ1 L f1 => q μ1 L (f4.tr f1)), fun _ => N_139 hs a4 ga hw (fun μ1 L f1 => q μ1 L (f4.tr f1))⟩
theorem N_43 (hs : ss.1 ≤ 260) (h : A2 μ g w) (hw : ∀ j, j < 15 → w j = 0) (q : ∀ (μ' : Mem) (L : Nat → Nat → Nat), FrN μ μ' → LwF μ' L → NG L → Q μ') : w_L_numbers_43 ss (nI 10) (nI 4) μ Q := by
  have hx := cv_lt (ss := ss) (k := 10) (by decide)
  unfold w_L_numbers_43
  refine L_cell hs (by decide) ⟨by decide, fun x7 e7 => ⟨vp_in_nI (by decide) (by decide), fun μ8 e8 => ⟨by decide, by decide, fun x9 e9 => ⟨vp_in_nI (by decide) (by decide), fun μ10 e10 => ⟨by decide, by decide, fun x11 e11 => ?_⟩⟩⟩⟩⟩
  obtain ⟨x, ex⟩ : ∃ x, x = cv ss 10 := ⟨_, rfl⟩
  rw [← ex] at hx e7 e9 e11 ⊢
  have m9 := Nat.mod_lt x (show 0 < 9 by decide)
  have m21 := Nat.mod_lt (x / 16) (show 0 < 21 by decide)
  have m4 := Nat.mod_lt (x / 512) (show 0 < 4 by decide)
  have e13 : nI 13 - nI 4 = nI 9 := z_sub (by decide)
  rw [e13, z_rem (by omega) (by decide) (by decide)] at e7
  rw [e7, z_add, z_cl (by decide)] at e8
  rw [z_div (by omega) (by decide) (by decide), z_rem (by omega) (by decide) (by decide)] at e9
  rw [e9, z_cl (by decide)] at e10
  have a3 := (h.ug 0 (4 + x % 9)).ug 1 (x / 16 % 21)
  have f3 : FrN μ (sI (sI μ 246 0 (nI (4 + x % 9))) 246 1 (nI (x / 16 % 21))) := (FrN.rf.u (Or.inl rfl)).u (Or.inl rfl)
  rw [← e8] at a3 f3
  rw [← e10] at a3 f3
  have h0 : upN (upN g 0 (4 + x % 9)) 1 (x / 16 % 21) 0 = 4 + x % 9 := by rw [upN_ne (by decide), upN_same]
  have h1 : upN (upN g 0 (4 + x % 9)) 1 (x / 16 % 21) 1 = x / 16 % 21 := upN_same
  refine ⟨fun _ => ⟨by decide, by decide, fun x12 e12 => ?_⟩, fun _ => ?_⟩
  · rw [z_div (by omega) (by decide) (by decide), z_rem (by omega) (by decide) (by decide)] at e12
    rw [e12, z_add]
    exact N_100 hs a3 (by rw [h0]; omega) (by rw [h1]; omega) hw hx (by omega) (fun μ1 L f1 => q μ1 L (f3.tr f1))
  · exact N_100 hs a3 (by rw [h0]; omega) (by rw [h1]; omega) hw hx (by decide) (fun μ1 L f1 => q μ1 L (f3.tr f1))
/-- all that the law draws -/
theorem L_numbers (hs : ss.1 ≤ 260) (h : A2 μ g w) (q : ∀ (μ' : Mem) (L : Nat → Nat → Nat), FrN μ μ' → LwF μ' L → NG L → Q μ') : w_L_numbers ss (nI 10) (nI 4) μ Q := by
  have rows : ∀ (μ1 : Mem) (g1 : Nat → Nat), FrN μ μ1 → A2 μ1 g1 w → w_L_numbers_21 ss (nI 10) (nI 4) μ1 Q := by
    intro μ1 g1 f1 a1
    unfold w_L_numbers_21 w_L_numbers_24
    intro X hX
    refine cnt_dn (P := fun i => i ≤ 27 → ∀ (μ2 : Mem) (w2 : Nat → Nat), FrN μ μ2 → A2 μ2 g1 w2 → (∀ j, j < i → w2 j = 0) → X (nI i) μ2) 27 ?_ ?_ (by decide) μ1 w f1 a1 (fun j hj => by omega)
    · intro _ μ2 w2 f2 a2 e2
      apply hX
      unfold s_L_numbers_24
      exact br_yes (by decide) (N_43 hs a2 (fun j hj => e2 j (by omega)) (fun μ3 L f3 => q μ3 L (f2.tr f3)))
    · intro i hi ih _ μ2 w2 f2 a2 e2
      apply hX
      unfold s_L_numbers_24
      rw [z_le (by decide) (by omega)]
      refine br_no (by omega) ⟨vp_in_nI hi (by decide), fun μ3 e3 x4 e4 => ?_⟩
      rw [z_cl (by omega)] at e3
      rw [z_add] at e4
      subst e3 e4
      refine ih (by omega) _ _ (f2.u (Or.inr rfl)) (a2.uw i 0) (fun j hj => ?_)
      by_cases c : j = i
      · rw [c, upN_same]
      · rw [upN_ne c]; exact e2 j (by omega)
  unfold w_L_numbers w_L_numbers_3
  intro X hX
  refine cnt_dn (P := fun i => i ≤ 53 → ∀ (μ2 : Mem) (g2 : Nat → Nat), FrN μ μ2 → A2 μ2 g2 w → X (nI i) μ2) 53 ?_ ?_ (by decide) μ g FrN.rf h
  · intro _ μ2 g2 f2 a2
    apply hX
    unfold s_L_numbers_3
    exact br_yes (by decide) (rows μ2 g2 f2 a2)
  · intro i hi ih _ μ2 g2 f2 a2
    apply hX
    unfold s_L_numbers_3
    rw [z_le (by decide) (by omega)]
    refine br_no (by omega) ⟨vp_in_nI hi (by decide), fun μ3 e3 x4 e4 => ?_⟩
    rw [z_cl (by omega)] at e3
    rw [z_add] at e4
    subst e3 e4
    exact ih (by omega) _ _ (f2.u (Or.inl rfl)) (a2.ug i 0)
end NUMB
