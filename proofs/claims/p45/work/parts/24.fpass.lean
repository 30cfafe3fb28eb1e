/-! ===== FogNets: an hour ===== -/
theorem sI_r {μ : Mem} {k j a : Nat} {v : Int32} (h : a ≠ k) : (sI μ k j v).1 a = μ.1 a := by funext i; exact sI_ne1 h
def FrS (b : Nat) (μ μ' : Mem) : Prop := μ'.2 = μ.2 ∧ ∀ k, ¬ (b ≤ k ∧ k < b + 6) → μ'.1 k = μ.1 k
def FrP (b : Nat) (μ μ' : Mem) : Prop := μ'.2 = μ.2 ∧ ∀ k, ¬ (b ≤ k ∧ k < b + 6) → ¬ (38 ≤ k ∧ k < 41) → μ'.1 k = μ.1 k
theorem FrS.rf {b : Nat} {μ : Mem} : FrS b μ μ := ⟨rfl, fun _ _ => rfl⟩
theorem FrS.tr {b : Nat} {μ μ1 μ2 : Mem} (h1 : FrS b μ μ1) (h2 : FrS b μ1 μ2) : FrS b μ μ2 := ⟨h2.1.trans h1.1, fun k hk => (h2.2 k hk).trans (h1.2 k hk)⟩
theorem FrS.sI {b k j : Nat} {x : Int32} {μ μ1 : Mem} (h : FrS b μ μ1) (hk : b ≤ k ∧ k < b + 6) : FrS b μ (sI μ1 k j x) := ⟨h.1, fun k2 h2 => by
  rw [← h.2 k2 h2]; funext i; rw [sI_ne1 (by omega)]⟩
theorem FrS.P {b : Nat} {μ μ1 : Mem} (h : FrS b μ μ1) : FrP b μ μ1 := ⟨h.1, fun k hk _ => h.2 k hk⟩
theorem FrP.rf {b : Nat} {μ : Mem} : FrP b μ μ := ⟨rfl, fun _ _ _ => rfl⟩
theorem FrP.tr {b : Nat} {μ μ1 μ2 : Mem} (h1 : FrP b μ μ1) (h2 : FrP b μ1 μ2) : FrP b μ μ2 := ⟨h2.1.trans h1.1, fun k hk hl => (h2.2 k hk hl).trans (h1.2 k hk hl)⟩
theorem FrW.P {b : Nat} {μ μ1 : Mem} (h : FrW μ μ1) : FrP b μ μ1 := ⟨h.1, fun k _ hl => h.2 k hl⟩
theorem CoF.fr {μ μ1 : Mem} {R : Nat} {co : Co} (hR : sF.2.1 R = 0) (hc : CoF μ R co) (h : ∀ k, 3 ≤ k → k < 25 → μ1.1 k = μ.1 k) : CoF μ1 R co := by
  have hR2 := co_far hR
  unfold CoF at hc ⊢
  rw [h R (by omega) (by omega), h (R + 1) (by omega) (by omega), h (R + 2) (by omega) (by omega), h (R + 5) (by omega) (by omega), h (R + 6) (by omega) (by omega), h (R + 7) (by omega) (by omega), h (R + 8) (by omega) (by omega), h (R + 9) (by omega) (by omega), h (R + 10) (by omega) (by omega)]
  exact hc
theorem CoF.frP {μ μ1 : Mem} {R b : Nat} {co : Co} (hR : sF.2.1 R = 0) (hb : sF.2.1 b = 4) (hc : CoF μ R co) (h : FrP b μ μ1) : CoF μ1 R co := by
  have := st_far hb
  exact hc.fr hR (fun k _ hk => h.2 k (by omega) (by omega))
theorem StF.fr {μ μ1 : Mem} {b n : Nat} {r : Ro} (hs : StF μ b n r) (h : ∀ k, b ≤ k → k < b + 6 → μ1.1 k = μ.1 k) : StF μ1 b n r := by
  unfold StF at hs ⊢
  rw [h b (by omega) (by omega), h (b + 1) (by omega) (by omega), h (b + 2) (by omega) (by omega), h (b + 3) (by omega) (by omega), h (b + 4) (by omega) (by omega), h (b + 5) (by omega) (by omega)]
  exact hs
theorem StF.frW {μ μ1 : Mem} {b n : Nat} {r : Ro} (hb : sF.2.1 b = 4) (hs : StF μ b n r) (h : FrW μ μ1) : StF μ1 b n r := by
  have := st_far hb
  exact hs.fr (fun k h1 h2 => h.2 k (by omega))
theorem F_postIn {μ : Mem} {b c : Nat} {co : Co} {r : Ro} {Q : Int32 → Prop} (hs : StF μ b (co 0 3) r) (hn : co 0 3 ≤ 6) (hcl : ∀ p, p < co 0 3 → r (15 + p) < 2147483648) (inj : ∀ p q, p < co 0 3 → q < co 0 3 → r (15 + p) = r (15 + q) → p = q) (hc : c < 2147483648)
    (h : Q (optI (pin (fun p => r (15 + p)) c (co 0 3)))) : w_X4_postIn b (nI c) μ Q := by
  obtain ⟨-, hp, hp2, -⟩ := hs
  unfold w_X4_postIn w_X4_postIn_2
  intro X hX
  refine cnt_dn (P := fun i => (∀ p, p < i → p < co 0 3 → r (15 + p) ≠ c) → X (nI i)) 6 ?_ ?_ (fun p hp => by omega)
  · intro hno
    apply hX
    unfold s_X4_postIn_2
    refine ⟨fun _ => ?_, fun q => absurd (by decide) q⟩
    cases e : pin (fun p => r (15 + p)) c (co 0 3) with
    | none => rw [e] at h; exact h
    | some p =>
      obtain ⟨h1, h2⟩ := pin_some e
      exact absurd h2 (hno p (by omega) h1)
  · intro i hi ih hno
    apply hX
    unfold s_X4_postIn_2
    simp (disch := omega) only [z_le, z_lt, z_eq, z_lt0, z_0le, z_eq0, z_le0, z_0lt, z_cl, z_in, z_add, z_mul, z_m1ne, z_m1ne', z_m1lt0, z_m1lt, z_ltm1, forall_eq, true_implies, false_implies, implies_true, true_and, and_true, false_and, and_false, not_true_eq_false, not_false_eq_true, ite_true, ite_false]
    refine ⟨fun q => absurd q (by omega), fun _ => ⟨hi, ?_⟩⟩
    by_cases hin : i < co 0 3
    · rw [(hp i hin).1]
      have := hcl i hin
      simp (disch := omega) only [z_le, z_lt, z_eq, z_lt0, z_0le, z_eq0, z_le0, z_0lt, z_cl, z_in, z_add, z_mul, z_m1ne, z_m1ne', z_m1lt0, z_m1lt, z_ltm1, forall_eq, true_implies, false_implies, implies_true, true_and, and_true, false_and, and_false, not_true_eq_false, not_false_eq_true, ite_true, ite_false]
      refine ⟨fun q => ih (fun p hp1 hp3 => ?_), fun q => ?_⟩
      · by_cases e : p = i
        · rw [e]; exact q
        · exact hno p (by omega) hp3
      · rw [pin_of (f := fun p => r (15 + p)) hin q inj] at h
        exact h
    · rw [(hp2 i (by omega) hi).1]
      simp (disch := omega) only [z_le, z_lt, z_eq, z_lt0, z_0le, z_eq0, z_le0, z_0lt, z_cl, z_in, z_add, z_mul, z_m1ne, z_m1ne', z_m1lt0, z_m1lt, z_ltm1, forall_eq, true_implies, false_implies, implies_true, true_and, and_true, false_and, and_false, not_true_eq_false, not_false_eq_true, ite_true, ite_false]
      exact ih (fun p hp1 hp3 => hno p (by omega) hp3)
theorem sumN_le {f : Nat → Nat} {c : Nat} : ∀ n, (∀ p, p < n → f p ≤ c) → sumN f n ≤ n * c := by
  intro n
  induction n with
  | zero => intro _; simp [sumN]
  | succ n ih =>
    intro h
    have h1 := ih (fun p hp => h p (by omega))
    have h2 := h n (by omega)
    unfold sumN
    rw [Nat.succ_mul]
    omega
theorem F_inJars {μ : Mem} {b : Nat} {co : Co} {r : Ro} {Q : Int32 → Prop} (hs : StF μ b (co 0 3) r) (hn : co 0 3 ≤ 6) (hj : ∀ p, p < co 0 3 → r (9 + p) ≤ 99) (h : Q (nI (sumN (fun p => r (9 + p)) (co 0 3)))) : w_X4_inJars b μ Q := by
  obtain ⟨-, hp, hp2, -⟩ := hs
  unfold w_X4_inJars w_X4_inJars_4
  intro X hX
  refine cnt_dn (P := fun i => X (nI (sumN (fun p => r (9 + p)) (min i (co 0 3)))) (nI i)) 6 ?_ ?_
  · apply hX
    unfold s_X4_inJars_4
    refine ⟨fun _ => ?_, fun q => absurd (by decide) q⟩
    rw [Nat.min_eq_right hn]; exact h
  · intro i hi ih
    apply hX
    unfold s_X4_inJars_4
    simp (disch := omega) only [z_le, z_lt, z_eq, z_lt0, z_0le, z_eq0, z_le0, z_0lt, z_cl, z_in, z_add, z_mul, z_m1ne, z_m1ne', z_m1lt0, z_m1lt, z_ltm1, forall_eq, true_implies, false_implies, implies_true, true_and, and_true, false_and, and_false, not_true_eq_false, not_false_eq_true, ite_true, ite_false]
    refine ⟨fun q => absurd q (by omega), fun _ => ⟨hi, ?_⟩⟩
    by_cases hin : i < co 0 3
    · rw [(hp i hin).2.2]
      rw [Nat.min_eq_left (by omega)] at ih ⊢
      simp (disch := omega) only [z_le, z_lt, z_eq, z_lt0, z_0le, z_eq0, z_le0, z_0lt, z_cl, z_in, z_add, z_mul, z_m1ne, z_m1ne', z_m1lt0, z_m1lt, z_ltm1, forall_eq, true_implies, false_implies, implies_true, true_and, and_true, false_and, and_false, not_true_eq_false, not_false_eq_true, ite_true, ite_false]
      exact ih
    · rw [(hp2 i (by omega) hi).2]
      rw [Nat.min_eq_right (by omega)] at ih ⊢
      simp (disch := omega) only [z_le, z_lt, z_eq, z_lt0, z_0le, z_eq0, z_le0, z_0lt, z_cl, z_in, z_add, z_mul, z_m1ne, z_m1ne', z_m1lt0, z_m1lt, z_ltm1, forall_eq, true_implies, false_implies, implies_true, true_and, and_true, false_and, and_false, not_true_eq_false, not_false_eq_true, ite_true, ite_false]
      exact ih
theorem z_max0 {a b : Nat} (ha : a < 1073741824) (hb : b < 1073741824) : (if nI a - nI b < nI 0 then nI 0 else nI a - nI b) = nI (a - b) := by
  by_cases h : a < b
  · rw [if_pos (by rw [nI_0]; exact pk_sneg (by omega) h), show a - b = 0 by omega]
  · rw [z_sub (by omega), if_neg]
    rw [z_lt (by omega) (by decide)]
    omega
theorem F_lampedFog {μ : Mem} {b R fog : Nat} {co : Co} {r : Ro} {Q : Int32 → Prop} (hc : CoF μ R co) (hv : vCo co) (e2 : μ.1 b 2 = nI (r 2)) (h2 : r 2 ≤ 1) (hf : fog ≤ 99) (h : Q (nI (litF co r fog))) : w_X4_lampedFog b R (nI fog) μ Q := by
  have h1 := hv.2.1
  unfold w_X4_lampedFog
  unfold litF at h
  simp (disch := omega) only [z_le, z_lt, z_eq, z_lt0, z_0le, z_eq0, z_le0, z_0lt, z_cl, z_in, z_add, z_mul, z_m1ne, z_m1ne', z_m1lt0, z_m1lt, z_ltm1, forall_eq, true_implies, false_implies, implies_true, true_and, and_true, false_and, and_false, not_true_eq_false, not_false_eq_true, ite_true, ite_false, e2, hc.1.2.1]
  rw [z_max0 (by omega) (by omega)]
  refine ⟨fun q => ?_, fun q => ?_⟩
  · rw [if_neg (by omega)] at h; exact h
  · rw [if_pos (by omega)] at h; exact h
theorem F_counted {x : Nat} {μ : Mem} {Q : Int32 → Prop} (hx : x < 2147483648) (h : Q (nI (cnt x))) : w_X4_counted (nI x) μ Q := by
  unfold w_X4_counted
  intro y e
  subst e
  unfold cnt at h
  by_cases q : 999999 < x
  · rw [if_pos q] at h; rw [if_pos ((z_lt (by decide) hx).mpr q)]; exact h
  · rw [if_neg q] at h; rw [if_neg (fun z => q ((z_lt (by decide) hx).mp z))]; exact h
theorem F_lose {μ : Mem} {b p x j : Nat} {Q : Int32 → Mem → Prop} (hb : sF.2.1 b = 4) (hp : p < 6) (hj : μ.1 (b + 3) p = nI j) (hj2 : j < 1073741824) (hx : x < 1073741824) (h : Q (nI (j - x)) (sI μ (b + 3) p (nI (j - x)))) : w_X4_loseFromJar b (nI p) (nI x) μ Q := by
  unfold w_X4_loseFromJar
  refine F_at (n := 6) (st_n3 hb) (by decide) hp ?_
  rw [hj]
  intro y e
  rw [z_max0 hj2 hx] at e
  subst e
  refine F_put (n := 6) (st_n3 hb) (by decide) hp ?_
  refine F_at (n := 6) (st_n3 hb) (by decide) hp ?_
  rw [sI_same]
  exact h
theorem F_lose_m1 {μ : Mem} {b x : Nat} {Q : Int32 → Mem → Prop} (h : Q (nI 0) μ) : w_X4_loseFromJar b (-1) (nI x) μ Q := by
  unfold w_X4_loseFromJar
  refine F_at_m1 ?_
  intro y e
  refine F_put_m1 ?_
  exact F_at_m1 h
/-- one number of a state changes -/
theorem StF.upd0 {μ : Mem} {b n j x : Nat} {r : Ro} (hs : StF μ b n r) (hj : j < 5) : StF (sI μ b j (nI x)) b n (upN r j x) := by
  obtain ⟨⟨a0, a1, a2, a3, a4⟩, hp, hp2, hv⟩ := hs
  refine ⟨?_, fun p h => ?_, fun p h1 h2 => ?_, fun v h => ?_⟩
  · have key : ∀ i, i < 5 → μ.1 b i = nI (r i) → (sI μ b j (nI x)).1 b i = nI (upN r j x i) := by
      intro i hi e
      rw [sI_get]; unfold upN
      by_cases q : i = j
      · rw [if_pos ⟨rfl, q⟩, if_pos q]
      · rw [if_neg (fun z => q z.2), if_neg q]; exact e
    exact ⟨key 0 (by decide) a0, key 1 (by decide) a1, key 2 (by decide) a2, key 3 (by decide) a3, key 4 (by decide) a4⟩
  · rw [sI_ne1 (by omega), sI_ne1 (by omega), sI_ne1 (by omega), upN_ne (by omega), upN_ne (by omega), upN_ne (by omega)]
    exact hp p h
  · rw [sI_ne1 (by omega), sI_ne1 (by omega)]
    exact hp2 p h1 h2
  · rw [sI_ne1 (by omega), sI_ne1 (by omega), upN_ne (by omega), upN_ne (by omega)]
    exact hv v h
theorem StF.updJ {μ : Mem} {b n p x : Nat} {r : Ro} (hs : StF μ b n r) (hp6 : p < n) (hn : n ≤ 6) : StF (sI μ (b + 3) p (nI x)) b n (upN r (9 + p) x) := by
  obtain ⟨⟨a0, a1, a2, a3, a4⟩, hp, hp2, hv⟩ := hs
  refine ⟨?_, fun q h => ?_, fun q h1 h2 => ?_, fun v h => ?_⟩
  · rw [sI_r (by omega), upN_ne (by omega), upN_ne (by omega), upN_ne (by omega), upN_ne (by omega), upN_ne (by omega)]
    exact ⟨a0, a1, a2, a3, a4⟩
  · rw [sI_ne1 (by omega), sI_ne1 (by omega), upN_ne (by omega), upN_ne (by omega)]
    refine ⟨(hp q h).1, (hp q h).2.1, ?_⟩
    rw [sI_get]; unfold upN
    by_cases e : q = p
    · rw [if_pos ⟨rfl, e⟩, if_pos (by omega)]
    · rw [if_neg (fun z => e z.2), if_neg (by omega)]; exact (hp q h).2.2
  · rw [sI_ne1 (by omega), sI_ne2 (by omega)]
    exact hp2 q h1 h2
  · rw [sI_ne1 (by omega), sI_ne1 (by omega), upN_ne (by omega), upN_ne (by omega)]
    exact hv v h
theorem StF.updC {μ : Mem} {b n v x : Nat} {r : Ro} (hs : StF μ b n r) (hv2 : v < 2) (hn : n ≤ 6) : StF (sI μ (b + 4) v (nI x)) b n (upN r (5 + v) x) := by
  obtain ⟨⟨a0, a1, a2, a3, a4⟩, hp, hp2, hv⟩ := hs
  refine ⟨?_, fun q h => ?_, fun q h1 h2 => ?_, fun w h => ?_⟩
  · rw [sI_r (by omega), upN_ne (by omega), upN_ne (by omega), upN_ne (by omega), upN_ne (by omega), upN_ne (by omega)]
    exact ⟨a0, a1, a2, a3, a4⟩
  · rw [sI_ne1 (by omega), sI_ne1 (by omega), sI_ne1 (by omega), upN_ne (by omega), upN_ne (by omega), upN_ne (by omega)]
    exact hp q h
  · rw [sI_ne1 (by omega), sI_ne1 (by omega)]
    exact hp2 q h1 h2
  · rw [sI_ne1 (a := b + 5) (by omega), upN_ne (i := 7 + w) (by omega)]
    refine ⟨?_, (hv w h).2⟩
    rw [sI_get]; unfold upN
    by_cases e : w = v
    · rw [if_pos ⟨rfl, e⟩, if_pos (by omega)]
    · rw [if_neg (fun z => e z.2), if_neg (by omega)]; exact (hv w h).1
theorem StF.updT {μ : Mem} {b n v x : Nat} {r : Ro} (hs : StF μ b n r) (hv2 : v < 2) (hn : n ≤ 6) : StF (sI μ (b + 5) v (nI x)) b n (upN r (7 + v) x) := by
  obtain ⟨⟨a0, a1, a2, a3, a4⟩, hp, hp2, hv⟩ := hs
  refine ⟨?_, fun q h => ?_, fun q h1 h2 => ?_, fun w h => ?_⟩
  · rw [sI_r (by omega), upN_ne (by omega), upN_ne (by omega), upN_ne (by omega), upN_ne (by omega), upN_ne (by omega)]
    exact ⟨a0, a1, a2, a3, a4⟩
  · rw [sI_ne1 (by omega), sI_ne1 (by omega), sI_ne1 (by omega), upN_ne (by omega), upN_ne (by omega), upN_ne (by omega)]
    exact hp q h
  · rw [sI_ne1 (by omega), sI_ne1 (by omega)]
    exact hp2 q h1 h2
  · rw [sI_ne1 (a := b + 4) (by omega), upN_ne (i := 5 + w) (by omega)]
    refine ⟨(hv w h).1, ?_⟩
    rw [sI_get]; unfold upN
    by_cases e : w = v
    · rw [if_pos ⟨rfl, e⟩, if_pos (by omega)]
    · rw [if_neg (fun z => e z.2), if_neg (by omega)]; exact (hv w h).2
/-! what the spec's functions leave as it is -/
theorem upN_id {r : Ro} {j : Nat} : upN r j (r j) = r := by
  funext i; unfold upN; split
  · next h => rw [h]
  · rfl
theorem pj_oth {co : Co} {t : Nat → Nat} {r : Ro} {j : Nat} (h3 : j ≠ 3) (hj : j < 9 ∨ 15 ≤ j) : ∀ p, p ≤ 6 → pj co t r p j = r j := by
  intro p
  induction p with
  | zero => intro _; rfl
  | succ p ih =>
    intro hp
    unfold pj
    rw [upN_ne h3, upN_ne (by omega)]
    exact ih (by omega)
theorem pj_jar {co : Co} {t : Nat → Nat} {r : Ro} {q : Nat} : ∀ p, q < p → pj co t r p (9 + q) = r (9 + q) + t q - (r (9 + q) + t q - co 3 q) := by
  have before : ∀ p, p ≤ q → pj co t r p (9 + q) = r (9 + q) := by
    intro p
    induction p with
    | zero => intro _; rfl
    | succ p ih =>
      intro hp
      unfold pj
      rw [upN_ne (by omega), upN_ne (by omega)]
      exact ih (by omega)
  intro p
  induction p with
  | zero => intro h; omega
  | succ p ih =>
    intro hp
    unfold pj
    rw [upN_ne (by omega)]
    by_cases e : q = p
    · subst e
      rw [upN_same, before q (Nat.le_refl _)]
    · rw [upN_ne (by omega)]
      exact ih (by omega)
theorem pj_jar2 {co : Co} {t : Nat → Nat} {r : Ro} {q : Nat} : ∀ p, p ≤ q → pj co t r p (9 + q) = r (9 + q) := by
  intro p
  induction p with
  | zero => intro _; rfl
  | succ p ih =>
    intro hp
    unfold pj
    rw [upN_ne (by omega), upN_ne (by omega)]
    exact ih (by omega)
theorem cnt_le (x : Nat) : cnt x ≤ 999999 := by unfold cnt; split <;> omega
theorem cnt_id {x : Nat} (h : x ≤ 999999) : cnt x = x := by unfold cnt; rw [if_neg (by omega)]
theorem pj_sp {co : Co} {t : Nat → Nat} {r : Ro} (h : r 3 ≤ 999999) : ∀ p, pj co t r p 3 ≤ 999999 := by
  intro p
  cases p with
  | zero => exact h
  | succ p => unfold pj; rw [upN_same]; exact cnt_le _
theorem vRo_pj {co : Co} {t : Nat → Nat} {r : Ro} {B H : Nat} (hv : vCo co) (hr : vRH co r B H) : ∀ p, p ≤ co 0 3 → vRH co (pj co t r p) B H := by
  intro p hp
  have hn := hv.2.2.2.1
  obtain ⟨r0, r1, r2, r3, r4, r5, r6, r7, r8, hrp, inj⟩ := hr
  refine ⟨?_, ?_, ?_, pj_sp r3 p, ?_, ?_, ?_, ?_, ?_, fun q hq => ⟨?_, ?_, ?_⟩, fun a b ha hb h => ?_⟩
  · rw [pj_oth (by decide) (by decide) p (by omega)]; exact r0
  · rw [pj_oth (by decide) (by decide) p (by omega)]; exact r1
  · rw [pj_oth (by decide) (by decide) p (by omega)]; exact r2
  · rw [pj_oth (by decide) (by decide) p (by omega)]; exact r4
  · rw [pj_oth (by decide) (by decide) p (by omega)]; exact r5
  · rw [pj_oth (by decide) (by decide) p (by omega)]; exact r6
  · rw [pj_oth (by decide) (by decide) p (by omega)]; exact r7
  · rw [pj_oth (by decide) (by decide) p (by omega)]; exact r8
  · by_cases e : q < p
    · rw [pj_jar p e]; omega
    · rw [pj_jar2 p (by omega)]; exact (hrp q hq).1
  · rw [pj_oth (by omega) (by omega) p (by omega)]; exact (hrp q hq).2.1
  · rw [pj_oth (by omega) (by omega) p (by omega)]; exact (hrp q hq).2.2
  · rw [pj_oth (by omega) (by omega) p (by omega), pj_oth (by omega) (by omega) p (by omega)] at h
    exact inj a b ha hb h
theorem cjS_le {co : Co} {v : Nat} {r : Ro} {B H : Nat} (hv : vCo co) (hr : vRH co r B H) {n : Nat} (hn : n ≤ co 0 3) : cjS co v r n ≤ 594 := by
  have h3 := hv.2.2.2.1
  have hvp := hv.2.2.2.2.2.2.2.2.1
  obtain ⟨r0, r1, r2, r3, r4, r5, r6, r7, r8, hrp, inj⟩ := hr
  have := sumN_le (f := fun p => if co 4 p = v then r (9 + p) else 0) (c := 99) n (fun p hp => by
    have h1 := (hrp p (by omega)).1
    have h2 := (hvp p (by omega)).2.1
    split <;> omega)
  unfold cjS
  omega
theorem vRo_car {co : Co} {v : Nat} {r : Ro} {B H : Nat} (hv : vCo co) (hr : vRH co r B H) (hv2 : v < 2) : vRH co (carR co v r) B H := by
  have hn := hv.2.2.2.1
  obtain ⟨r0, r1, r2, r3, r4, r5, r6, r7, r8, hrp, inj⟩ := hr
  have hb : ∀ j, carR co v r j ≤ (if j = 5 + v then 99999 else r j) := by
    intro j
    unfold carR upN
    by_cases h : j = 5 + v
    · rw [if_pos h, if_pos h]; split <;> omega
    · rw [if_neg h, if_neg h]; unfold cj; split <;> omega
  have ho : ∀ j, 15 ≤ j → carR co v r j = r j := by
    intro j hj
    unfold carR
    rw [upN_ne (by omega)]
    unfold cj
    rw [if_neg (by omega)]
  have hlow : ∀ j, j < 9 → j ≠ 5 + v → carR co v r j = r j := by
    intro j hj h
    unfold carR
    rw [upN_ne h]
    unfold cj
    rw [if_neg (by omega)]
  have hcis : ∀ w, w < 2 → r (5 + w) ≤ 99999 → carR co v r (5 + w) ≤ 99999 := by
    intro w hw h
    have := hb (5 + w)
    split at this <;> omega
  refine ⟨?_, ?_, ?_, ?_, ?_, hcis 0 (by decide) r5, hcis 1 (by decide) r6, ?_, ?_, fun q hq => ⟨?_, ?_, ?_⟩, fun a b ha hb h => ?_⟩
  · rw [hlow 0 (by decide) (by omega)]; exact r0
  · rw [hlow 1 (by decide) (by omega)]; exact r1
  · rw [hlow 2 (by decide) (by omega)]; exact r2
  · rw [hlow 3 (by decide) (by omega)]; exact r3
  · rw [hlow 4 (by decide) (by omega)]; exact r4
  · rw [hlow 7 (by decide) (by omega)]; exact r7
  · rw [hlow 8 (by decide) (by omega)]; exact r8
  · have h1 := hb (9 + q)
    rw [if_neg (by omega)] at h1
    exact Nat.le_trans h1 (hrp q hq).1
  · rw [ho _ (by omega)]; exact (hrp q hq).2.1
  · rw [ho _ (by omega)]; exact (hrp q hq).2.2
  · rw [ho _ (by omega), ho _ (by omega)] at h; exact inj a b ha hb h
theorem gj_oth {co : Co} {r : Ro} {j : Nat} (hn : co 0 3 ≤ 6) (h : j ≠ 4) (hj : j < 9 ∨ 15 ≤ j) : ∀ g, gj co r g j = r j := by
  intro g
  induction g with
  | zero => rfl
  | succ g ih =>
    cases e : pin (fun p => gj co r g (15 + p)) (co 7 g) (co 0 3) with
    | none => simp only [gj, e]; exact ih
    | some p =>
      have := (pin_some e).1
      simp only [gj, e]
      rw [upN_ne h, upN_ne (by omega)]
      exact ih
theorem vRo_gj {co : Co} {r : Ro} {B H : Nat} (hv : vCo co) (hr : vRH co r B H) : ∀ g, vRH co (gj co r g) B H := by
  intro g
  have hn := hv.2.2.2.1
  induction g with
  | zero => exact hr
  | succ g ih =>
    unfold gj
    split
    · exact ih
    · next p hp =>
      have hp3 := (pin_some hp).1
      obtain ⟨r0, r1, r2, r3, r4, r5, r6, r7, r8, hrp, inj⟩ := ih
      refine ⟨?_, ?_, ?_, ?_, ?_, ?_, ?_, ?_, ?_, fun q hq => ⟨?_, ?_, ?_⟩, fun a b ha hb h => ?_⟩
      · rw [upN_ne (by omega), upN_ne (by omega)]; exact r0
      · rw [upN_ne (by omega), upN_ne (by omega)]; exact r1
      · rw [upN_ne (by omega), upN_ne (by omega)]; exact r2
      · rw [upN_ne (by omega), upN_ne (by omega)]; exact r3
      · rw [upN_same]; exact cnt_le _
      · rw [upN_ne (by omega), upN_ne (by omega)]; exact r5
      · rw [upN_ne (by omega), upN_ne (by omega)]; exact r6
      · rw [upN_ne (by omega), upN_ne (by omega)]; exact r7
      · rw [upN_ne (by omega), upN_ne (by omega)]; exact r8
      · rw [upN_ne (by omega)]
        by_cases e : q = p
        · subst e; rw [upN_same]
          have := (hrp q hq).1
          omega
        · rw [upN_ne (by omega)]; exact (hrp q hq).1
      · rw [upN_ne (by omega), upN_ne (by omega)]; exact (hrp q hq).2.1
      · rw [upN_ne (by omega), upN_ne (by omega)]; exact (hrp q hq).2.2
      · rw [upN_ne (by omega), upN_ne (by omega), upN_ne (by omega), upN_ne (by omega)] at h
        exact inj a b ha hb h
theorem vRo_uj {co : Co} {r : Ro} {B H : Nat} (hv : vCo co) (hr : vRH co r B H) : ∀ v, v ≤ 2 → vRH co (uj co r v) B H := by
  intro v
  induction v with
  | zero => intro _; exact hr
  | succ v ih =>
    intro hv2
    obtain ⟨r0, r1, r2, r3, r4, r5, r6, r7, r8, hrp, inj⟩ := ih (by omega)
    have hc : ∀ w, w < 2 → uj co r v (5 + w) ≤ 99999 → upN (upN (uj co r v) (5 + v) (uj co r v (5 + v) - co 6 v)) (7 + v) (cnt (uj co r v (7 + v) + (co 6 v - uj co r v (5 + v)))) (5 + w) ≤ 99999 := by
      intro w hw h
      rw [upN_ne (by omega)]
      by_cases e : w = v
      · subst e; rw [upN_same]; omega
      · rw [upN_ne (by omega)]; exact h
    have ht : ∀ w, w < 2 → uj co r v (7 + w) ≤ 999999 → upN (upN (uj co r v) (5 + v) (uj co r v (5 + v) - co 6 v)) (7 + v) (cnt (uj co r v (7 + v) + (co 6 v - uj co r v (5 + v)))) (7 + w) ≤ 999999 := by
      intro w hw h
      by_cases e : w = v
      · subst e; rw [upN_same]; exact cnt_le _
      · rw [upN_ne (by omega), upN_ne (by omega)]; exact h
    unfold uj
    refine ⟨?_, ?_, ?_, ?_, ?_, hc 0 (by decide) r5, hc 1 (by decide) r6, ht 0 (by decide) r7, ht 1 (by decide) r8, fun q hq => ⟨?_, ?_, ?_⟩, fun a b ha hb h => ?_⟩
    · rw [upN_ne (by omega), upN_ne (by omega)]; exact r0
    · rw [upN_ne (by omega), upN_ne (by omega)]; exact r1
    · rw [upN_ne (by omega), upN_ne (by omega)]; exact r2
    · rw [upN_ne (by omega), upN_ne (by omega)]; exact r3
    · rw [upN_ne (by omega), upN_ne (by omega)]; exact r4
    · rw [upN_ne (by omega), upN_ne (by omega)]; exact (hrp q hq).1
    · rw [upN_ne (by omega), upN_ne (by omega)]; exact (hrp q hq).2.1
    · rw [upN_ne (by omega), upN_ne (by omega)]; exact (hrp q hq).2.2
    · rw [upN_ne (by omega), upN_ne (by omega), upN_ne (by omega), upN_ne (by omega)] at h
      exact inj a b ha hb h
theorem uj_oth {co : Co} {r : Ro} {j : Nat} (hj : j < 5 ∨ 9 ≤ j) : ∀ v, v ≤ 2 → uj co r v j = r j := by
  intro v
  induction v with
  | zero => intro _; rfl
  | succ v ih => intro h; unfold uj; rw [upN_ne (by omega), upN_ne (by omega)]; exact ih (by omega)
theorem carR_low {co : Co} {v : Nat} {r : Ro} {j : Nat} (hj : j < 5 ∨ 7 ≤ j) (h9 : j < 9 ∨ 15 ≤ j) (hn : co 0 3 ≤ 6) (hv : v < 2) : carR co v r j = r j := by
  unfold carR
  rw [upN_ne (by omega)]
  unfold cj
  rw [if_neg (by omega)]
theorem vRo_end {co : Co} {r : Ro} {B H : Nat} {c : Bool} (hv : vCo co) (hr : vRH co r B H) : vRo co (endR co r c) (B + 1) := by
  have hd := dl_le hv
  have h0 := hr.1
  have h1 : vRH co (if c = true then carR co 1 (carR co 0 r) else r) B H := by
    split
    · exact vRo_car hv (vRo_car hv hr (by decide)) (by decide)
    · exact hr
  obtain ⟨r0, r1, r2, r3, r4, r5, r6, r7, r8, hrp, inj⟩ := vRo_uj hv (vRo_gj hv h1 (co 0 4)) 2 (Nat.le_refl _)
  unfold endR
  refine ⟨?_, ?_, ?_, ?_, ?_, ?_, ?_, ?_, ?_, fun q hq => ⟨?_, ?_, ?_⟩, fun a b ha hb h => ?_⟩
  · rw [upN_same]; omega
  · rw [upN_ne (by decide), upN_same]; omega
  · rw [upN_ne (by decide), upN_ne (by decide)]; exact r2
  · rw [upN_ne (by decide), upN_ne (by decide)]; exact r3
  · rw [upN_ne (by decide), upN_ne (by decide)]; exact r4
  · rw [upN_ne (by decide), upN_ne (by decide)]; exact r5
  · rw [upN_ne (by decide), upN_ne (by decide)]; exact r6
  · rw [upN_ne (by decide), upN_ne (by decide)]; exact r7
  · rw [upN_ne (by decide), upN_ne (by decide)]; exact r8
  · rw [upN_ne (by omega), upN_ne (by omega)]; exact (hrp q hq).1
  · rw [upN_ne (by omega), upN_ne (by omega)]; exact (hrp q hq).2.1
  · rw [upN_ne (by omega), upN_ne (by omega)]; exact (hrp q hq).2.2
  · rw [upN_ne (by omega), upN_ne (by omega), upN_ne (by omega), upN_ne (by omega)] at h
    exact inj a b ha hb h
theorem vRH_hour {co : Co} {r : Ro} {B H H2 x : Nat} (hr : vRH co r B H) (hx : x < H2) : vRH co (upN r 1 x) B H2 := by
  obtain ⟨r0, r1, r2, r3, r4, r5, r6, r7, r8, hrp, inj⟩ := hr
  refine ⟨?_, ?_, ?_, ?_, ?_, ?_, ?_, ?_, ?_, fun q hq => ⟨?_, ?_, ?_⟩, fun a b ha hb h => ?_⟩
  · rw [upN_ne (by decide)]; exact r0
  · rw [upN_same]; exact hx
  · rw [upN_ne (by decide)]; exact r2
  · rw [upN_ne (by decide)]; exact r3
  · rw [upN_ne (by decide)]; exact r4
  · rw [upN_ne (by decide)]; exact r5
  · rw [upN_ne (by decide)]; exact r6
  · rw [upN_ne (by decide)]; exact r7
  · rw [upN_ne (by decide)]; exact r8
  · rw [upN_ne (by omega)]; exact (hrp q hq).1
  · rw [upN_ne (by omega)]; exact (hrp q hq).2.1
  · rw [upN_ne (by omega)]; exact (hrp q hq).2.2
  · rw [upN_ne (by omega), upN_ne (by omega)] at h
    exact inj a b ha hb h
theorem vRo_mono {co : Co} {r : Ro} {B B2 H : Nat} (hr : vRH co r B H) (h : B ≤ B2) : vRH co r B2 H := ⟨Nat.le_trans hr.1 h, hr.2⟩
theorem vRo_pas {co : Co} {r : Ro} {B fog side : Nat} {c : Bool} (hv : vCo co) (hr : vRo co r B) : vRo co (pasR co r fog side c) (B + 1) := by
  unfold pasR
  have h1 := vRo_pj (t := pasT co r fog side) hv hr (co 0 3) (Nat.le_refl _)
  have := hr.2.1
  split
  · exact vRo_end hv (vRH_hour (H2 := dl co + 1) h1 (by omega))
  · exact vRo_mono (vRH_hour h1 (by omega)) (by omega)
