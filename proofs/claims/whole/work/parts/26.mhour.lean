/-! ===== the reference: an hour ===== -/
def StR (ν : Mem) (b : Nat) (r : Ro) : Prop := ∀ j, j < 27 → ν.1 b j = nI (r j)
def FrT (ν ν' : Mem) : Prop := ν'.2 = ν.2 ∧ ∀ k, k ≠ 16 → ν'.1 k = ν.1 k
def FrB (b : Nat) (ν ν' : Mem) : Prop := ν'.2 = ν.2 ∧ ∀ k, k ≠ b → ν'.1 k = ν.1 k
def FrM (b : Nat) (ν ν' : Mem) : Prop := ν'.2 = ν.2 ∧ ∀ k, k ≠ b → k ≠ 16 → ν'.1 k = ν.1 k
theorem FrB.rf {b : Nat} {ν : Mem} : FrB b ν ν := ⟨rfl, fun _ _ => rfl⟩
theorem FrB.tr {b : Nat} {a c d : Mem} (h1 : FrB b a c) (h2 : FrB b c d) : FrB b a d := ⟨h2.1.trans h1.1, fun k hk => (h2.2 k hk).trans (h1.2 k hk)⟩
theorem FrB.sI {b j : Nat} {x : Int32} {a c : Mem} (h : FrB b a c) : FrB b a (sI c b j x) := ⟨h.1, fun k hk => by rw [sI_r hk]; exact h.2 k hk⟩
theorem FrB.M {b : Nat} {a c : Mem} (h : FrB b a c) : FrM b a c := ⟨h.1, fun k hk _ => h.2 k hk⟩
theorem FrT.M {b : Nat} {a c : Mem} (h : FrT a c) : FrM b a c := ⟨h.1, fun k _ hk => h.2 k hk⟩
theorem FrM.rf {b : Nat} {ν : Mem} : FrM b ν ν := ⟨rfl, fun _ _ _ => rfl⟩
theorem FrM.tr {b : Nat} {a c d : Mem} (h1 : FrM b a c) (h2 : FrM b c d) : FrM b a d := ⟨h2.1.trans h1.1, fun k hk hl => (h2.2 k hk hl).trans (h1.2 k hk hl)⟩
theorem CoM.fr {ν ν1 : Mem} {co : Co} (hc : CoM ν co) (h : ∀ k, k < 14 → ν1.1 k = ν.1 k) : CoM ν1 co := by
  unfold CoM at hc ⊢
  rw [h 0 (by decide), h 8 (by decide), h 9 (by decide), h 10 (by decide), h 11 (by decide), h 12 (by decide), h 13 (by decide)]
  exact hc
theorem CoM.frM {ν ν1 : Mem} {b : Nat} {co : Co} (hc : CoM ν co) (hb : b = 14 ∨ b = 15) (h : FrM b ν ν1) : CoM ν1 co := hc.fr (fun k hk => h.2 k (by omega) (by omega))
theorem StR.upd {ν : Mem} {b j x : Nat} {r : Ro} (hs : StR ν b r) : StR (sI ν b j (nI x)) b (upN r j x) := by
  intro i hi
  rw [sI_get]; unfold upN
  by_cases e : i = j
  · rw [if_pos ⟨rfl, e⟩, if_pos e]
  · rw [if_neg (fun z => e z.2), if_neg e]; exact hs i hi
theorem StR.fr {ν ν1 : Mem} {b : Nat} {r : Ro} (hs : StR ν b r) (h : ν1.1 b = ν.1 b) : StR ν1 b r := by
  intro i hi; rw [h]; exact hs i hi
theorem M_in {a lo hi : Nat} {μ : Mem} {Q : Int32 → Prop} (ha : a < 2147483648) (hl : lo < 2147483648) (hh : hi < 2147483648) (h : Q (nI (if lo ≤ a ∧ a ≤ hi then 1 else 0))) : w_X7_in (nI a) (nI lo) (nI hi) μ Q := by
  unfold w_X7_in
  simp (disch := omega) only [z_le, z_lt, z_eq, z_lt0, z_0le, z_eq0, z_le0, z_0lt, z_cl, z_in, z_add, z_mul, z_m1ne, z_m1ne', z_m1lt0, z_m1lt, z_ltm1, forall_eq, true_implies, false_implies, implies_true, true_and, and_true, false_and, and_false, not_true_eq_false, not_false_eq_true, ite_true, ite_false]
  refine ⟨fun q => ?_, fun q => ⟨fun q2 => ?_, fun q2 => ?_⟩⟩
  · rw [if_neg (by omega)] at h; exact h
  · rw [if_neg (by omega)] at h; exact h
  · rw [if_pos (by omega)] at h; exact h
theorem M_in0 {x : Int32} {lo hi : Nat} {μ : Mem} {Q : Int32 → Prop} (hx : x < nI lo ∨ nI hi < x) (h : Q (nI 0)) : w_X7_in x (nI lo) (nI hi) μ Q := by
  unfold w_X7_in
  exact ⟨fun _ => h, fun q => ⟨fun _ => h, fun q2 => by rcases hx with z | z; exact absurd z q; exact absurd z q2⟩⟩
theorem M_has {s k : Nat} {μ : Mem} {Q : Int32 → Prop} (hs : s < 2147483648) (hk : k < 31) (h : Q (nI (if bitN s k = true then 1 else 0))) : w_X7_has (nI s) (nI k) μ Q := by
  unfold w_X7_has
  have := Nat.div_le_self s (2 ^ k)
  simp (disch := omega) only [z_le, z_lt, z_eq, z_lt0, z_0le, z_eq0, z_le0, z_0lt, z_cl, z_in, z_add, z_mul, z_m1ne, z_m1ne', z_m1lt0, z_m1lt, z_ltm1, forall_eq, true_implies, false_implies, implies_true, true_and, and_true, false_and, and_false, not_true_eq_false, not_false_eq_true, ite_true, ite_false, z_shr, z_and1]
  unfold bitN at h
  refine ⟨fun q => ?_, fun q => ?_⟩
  · rw [if_neg (by simpa using q)] at h; exact h
  · rw [if_pos (by simpa using q)] at h; exact h
theorem M_dayLong {ν : Mem} {co : Co} {Q : Int32 → Prop} (hc : CoM ν co) (hv : vCo co) (h : Q (nI (if co 0 0 = 0 then 0 else dl co))) : w_X7_dayLong ν Q := by
  obtain ⟨⟨e17, e18, e19, e20, e21, e22⟩, -⟩ := hc
  have h2 := hv.2.2.1
  unfold w_X7_dayLong
  by_cases q : co 0 0 = 0
  · rw [if_pos q] at e17 h
    rw [e17]
    exact ⟨fun z => absurd (by decide) z, fun _ => h⟩
  · rw [if_neg q] at e17 h
    rw [e17, e21]
    refine ⟨fun _ => ?_, fun z => absurd z (by decide)⟩
    unfold dl at h
    simp (disch := omega) only [z_le, z_lt, z_eq, z_lt0, z_0le, z_eq0, z_le0, z_0lt, z_cl, z_in, z_add, z_mul, z_m1ne, z_m1ne', z_m1lt0, z_m1lt, z_ltm1, forall_eq, true_implies, false_implies, implies_true, true_and, and_true, false_and, and_false, not_true_eq_false, not_false_eq_true, ite_true, ite_false]
    refine ⟨fun z => ?_, fun z => ?_⟩
    · rw [if_pos z] at h; exact h
    · rw [if_neg z] at h; exact h
theorem M_sideOf {ν : Mem} {b : Nat} {co : Co} {r : Ro} {Q : Int32 → Prop} (hc : CoM ν co) (hv : vCo co) (hs : StR ν b r) (hr1 : r 1 < dl co) (h : Q (nI (co 1 (r 1)))) : w_X7_sideOf b ν Q := by
  obtain ⟨⟨-, -, -, -, e21, -⟩, hh, -⟩ := hc
  have h2 := hv.2.2.1
  have hz := hv.2.2.2.2.2.2.2.1
  unfold w_X7_sideOf
  have e1 := hs 1 (by decide)
  have hd12 := dl_le hv
  have h112 : r 1 < 12 := by omega
  unfold dl at hr1
  simp (disch := omega) only [z_le, z_lt, z_eq, z_lt0, z_0le, z_eq0, z_le0, z_0lt, z_cl, z_in, z_add, z_mul, z_m1ne, z_m1ne', z_m1lt0, z_m1lt, z_ltm1, forall_eq, true_implies, false_implies, implies_true, true_and, and_true, false_and, and_false, not_true_eq_false, not_false_eq_true, ite_true, ite_false, e21, e1]
  refine ⟨fun q => ?_, fun q => ?_⟩
  · rw [if_pos q] at hr1
    rw [show r 1 = 0 by omega, (hz q).1] at h
    exact h
  · rw [if_neg q] at hr1
    refine ⟨by omega, by omega, ?_⟩
    rw [(hh _ hr1).1]; exact h
theorem M_fogOf {ν : Mem} {b : Nat} {co : Co} {r : Ro} {Q : Int32 → Prop} (hc : CoM ν co) (hv : vCo co) (hs : StR ν b r) (hr1 : r 1 < dl co) (h : Q (nI (co 2 (r 1)))) : w_X7_fogOf b ν Q := by
  obtain ⟨⟨-, -, -, -, e21, -⟩, hh, -⟩ := hc
  have h2 := hv.2.2.1
  have hz := hv.2.2.2.2.2.2.2.1
  unfold w_X7_fogOf
  have e1 := hs 1 (by decide)
  have hd12 := dl_le hv
  have h112 : r 1 < 12 := by omega
  unfold dl at hr1
  simp (disch := omega) only [z_le, z_lt, z_eq, z_lt0, z_0le, z_eq0, z_le0, z_0lt, z_cl, z_in, z_add, z_mul, z_m1ne, z_m1ne', z_m1lt0, z_m1lt, z_ltm1, forall_eq, true_implies, false_implies, implies_true, true_and, and_true, false_and, and_false, not_true_eq_false, not_false_eq_true, ite_true, ite_false, e21, e1]
  refine ⟨fun q => ?_, fun q => ?_⟩
  · rw [if_pos q] at hr1
    rw [show r 1 = 0 by omega, (hz q).2] at h
    exact h
  · rw [if_neg q] at hr1
    refine ⟨by omega, by omega, ?_⟩
    rw [(hh _ hr1).2]; exact h
theorem M_isHanging {ν : Mem} {b p : Nat} {co : Co} {r : Ro} {Q : Int32 → Prop} (hc : CoM ν co) (hv : vCo co) (hs : StR ν b r) (hd : r 0 < 2147483648) (hp : p < co 0 3) (h : Q (nI (if hg co (r 0) (co 4 p) = true then 1 else 0))) : w_X7_isHanging b (nI p) ν Q := by
  obtain ⟨-, -, hp3, hu, -⟩ := hc
  have hn := hv.2.2.2.1
  have ho := (hv.2.2.2.2.2.2.2.2.1 p hp).2.2
  have h5 := (hv.2.2.2.2.2.2.2.2.2.1 (co 4 p) (by omega)).1
  have h7 : r 0 % 7 < 7 := Nat.mod_lt _ (by decide)
  unfold w_X7_isHanging
  simp (disch := omega) only [z_le, z_lt, z_eq, z_lt0, z_0le, z_eq0, z_le0, z_0lt, z_cl, z_in, z_add, z_mul, z_m1ne, z_m1ne', z_m1lt0, z_m1lt, z_ltm1, forall_eq, true_implies, false_implies, implies_true, true_and, and_true, false_and, and_false, not_true_eq_false, not_false_eq_true, ite_true, ite_false, (hp3 p hp).2, hs 0 (by decide), z_rem, (hu (co 4 p) (by omega)).1]
  refine ⟨by omega, by omega, by omega, by omega, ?_⟩
  refine M_has (by omega) (by omega) ?_
  have e : bitN (co 5 (co 4 p)) (r 0 % 7) = hg co (r 0) (co 4 p) := rfl
  rw [e]
  refine ⟨?_, h⟩
  by_cases q : hg co (r 0) (co 4 p) = true
  · rw [if_pos q]; exact Or.inr rfl
  · rw [if_neg q]; exact Or.inl rfl
theorem M_hanging {ν : Mem} {b : Nat} {co : Co} {r : Ro} {Q : Int32 → Prop} (hc : CoM ν co) (hv : vCo co) (hS : StR ν b r) (hd : r 0 < 2147483648) (h : Q (nI (hs co (r 0)))) : w_X7_hanging b ν Q := by
  have hn := hv.2.2.2.1
  have e20 := hc.1.2.2.2.1
  unfold w_X7_hanging w_X7_hanging_4
  intro X hX
  refine cnt_dn (P := fun i => X (nI (hsN (fun p => hg co (r 0) (co 4 p)) i)) (nI i)) (co 0 3) ?_ ?_
  · apply hX
    unfold s_X7_hanging_4
    rw [e20]
    exact ⟨fun _ => h, fun q => absurd ((z_le (by omega) (by omega)).mpr (Nat.le_refl _)) q⟩
  · intro i hi ih
    apply hX
    unfold s_X7_hanging_4 w_X7_hanging_29
    have h2 := pow6 i (by omega)
    have h3 := hsN_64 (fun p => hg co (r 0) (co 4 p)) (n := i) (by omega)
    simp (disch := omega) only [z_le, z_lt, z_eq, z_lt0, z_0le, z_eq0, z_le0, z_0lt, z_cl, z_in, z_add, z_mul, z_m1ne, z_m1ne', z_m1lt0, z_m1lt, z_ltm1, forall_eq, true_implies, false_implies, implies_true, true_and, and_true, false_and, and_false, not_true_eq_false, not_false_eq_true, ite_true, ite_false, e20, z_shl1]
    refine ⟨fun q => absurd hi (by omega), fun _ => M_isHanging hc hv hS hd hi ?_⟩
    unfold hsN at ih
    by_cases q : hg co (r 0) (co 4 i) = true
    · rw [if_pos q] at ih ⊢
      refine ⟨fun z => absurd z (by decide), fun _ => ?_⟩
      simp (disch := omega) only [z_le, z_lt, z_eq, z_lt0, z_0le, z_eq0, z_le0, z_0lt, z_cl, z_in, z_add, z_mul, z_m1ne, z_m1ne', z_m1lt0, z_m1lt, z_ltm1, forall_eq, true_implies, false_implies, implies_true, true_and, and_true, false_and, and_false, not_true_eq_false, not_false_eq_true, ite_true, ite_false, z_or]
      exact ih
    · rw [if_neg q] at ih ⊢
      refine ⟨fun _ => ?_, fun z => absurd (by decide) z⟩
      simp (disch := omega) only [z_le, z_lt, z_eq, z_lt0, z_0le, z_eq0, z_le0, z_0lt, z_cl, z_in, z_add, z_mul, z_m1ne, z_m1ne', z_m1lt0, z_m1lt, z_ltm1, forall_eq, true_implies, false_implies, implies_true, true_and, and_true, false_and, and_false, not_true_eq_false, not_false_eq_true, ite_true, ite_false, z_or]
      rw [Nat.or_zero]
      exact ih
theorem M_postIn {ν : Mem} {b c : Nat} {co : Co} {r : Ro} {Q : Int32 → Prop} (hc : CoM ν co) (hn : co 0 3 ≤ 6) (hs : StR ν b r) (hcl : ∀ p, p < co 0 3 → r (15 + p) < 2147483648) (hc2 : c < 2147483648) (h : Q (optI (pin (fun p => r (15 + p)) c (co 0 3)))) : w_X7_postIn b (nI c) ν Q := by
  have e20 := hc.1.2.2.2.1
  unfold w_X7_postIn w_X7_postIn_5
  intro X hX
  refine cnt_dn (P := fun i => X (optI (pin (fun p => r (15 + p)) c i)) (nI i)) (co 0 3) ?_ ?_
  · apply hX
    unfold s_X7_postIn_5
    rw [e20]
    exact ⟨fun _ => h, fun q => absurd ((z_le (by omega) (by omega)).mpr (Nat.le_refl _)) q⟩
  · intro i hi ih
    apply hX
    unfold s_X7_postIn_5 w_X7_postIn_31
    have h1 := hcl i hi
    have e := hs (15 + i) (by omega)
    simp (disch := omega) only [z_le, z_lt, z_eq, z_lt0, z_0le, z_eq0, z_le0, z_0lt, z_cl, z_in, z_add, z_mul, z_m1ne, z_m1ne', z_m1lt0, z_m1lt, z_ltm1, forall_eq, true_implies, false_implies, implies_true, true_and, and_true, false_and, and_false, not_true_eq_false, not_false_eq_true, ite_true, ite_false, e20, e]
    refine ⟨fun q => absurd hi (by omega), fun _ => ⟨by omega, fun q => ?_, fun q => ?_⟩⟩
    · unfold pin at ih; rw [if_neg q] at ih; exact ih
    · unfold pin at ih; rw [if_pos q] at ih; exact ih
theorem M_jars {ν : Mem} {b : Nat} {co : Co} {r : Ro} {Q : Int32 → Prop} (hc : CoM ν co) (hn : co 0 3 ≤ 6) (hs : StR ν b r) (h : Q (nI (sumN (fun p => r (9 + p)) (co 0 3)))) : w_X7_jars b ν Q := by
  have e20 := hc.1.2.2.2.1
  unfold w_X7_jars w_X7_jars_4
  intro X hX
  refine cnt_dn (P := fun i => X (nI (sumN (fun p => r (9 + p)) i)) (nI i)) (co 0 3) ?_ ?_
  · apply hX
    unfold s_X7_jars_4
    rw [e20]
    exact ⟨fun _ => h, fun q => absurd ((z_le (by omega) (by omega)).mpr (Nat.le_refl _)) q⟩
  · intro i hi ih
    apply hX
    unfold s_X7_jars_4
    have e := hs (9 + i) (by omega)
    simp (disch := omega) only [z_le, z_lt, z_eq, z_lt0, z_0le, z_eq0, z_le0, z_0lt, z_cl, z_in, z_add, z_mul, z_m1ne, z_m1ne', z_m1lt0, z_m1lt, z_ltm1, forall_eq, true_implies, false_implies, implies_true, true_and, and_true, false_and, and_false, not_true_eq_false, not_false_eq_true, ite_true, ite_false, e20, e]
    exact ⟨fun q => absurd hi (by omega), fun _ => ⟨by omega, ih⟩⟩
theorem M_takes {m t : Nat} {ν : Mem} {Q : Int32 → Prop} (hm : m ≤ 9) (ht : t ≤ 99) (h : Q (nI (t * (if 20 ≤ t then m else 9 - m) / 10))) : w_X7_takes (nI m) (nI t) ν Q := by
  unfold w_X7_takes
  have h1 : t * (9 - m) ≤ 99 * 9 := Nat.mul_le_mul ht (by omega)
  have h2 : t * m ≤ 99 * 9 := Nat.mul_le_mul ht hm
  simp (disch := omega) only [z_le, z_lt, z_eq, z_lt0, z_0le, z_eq0, z_le0, z_0lt, z_cl, z_in, z_add, z_mul, z_m1ne, z_m1ne', z_m1lt0, z_m1lt, z_ltm1, forall_eq, true_implies, false_implies, implies_true, true_and, and_true, false_and, and_false, not_true_eq_false, not_false_eq_true, ite_true, ite_false, z_sub, z_div]
  refine ⟨fun q => ⟨by omega, ?_⟩, fun q => ⟨by omega, ?_⟩⟩
  · rw [if_neg (by omega)] at h; exact h
  · rw [if_pos (by omega)] at h; exact h
theorem M_leads {ν : Mem} {b : Nat} {co : Co} {r : Ro} {B H set side fog : Nat} {Q : Int32 → Mem → Prop} (hb : b ≠ 16) (hb0 : b ≠ 0) (hc : CoM ν co) (hv : vCo co) (hs : StR ν b r) (hr : vRH co r B H) (hset : set < 64) (hside : side ≤ 1) (hfog : fog ≤ 99)
    (h : ∀ ν' : Mem, FrT ν ν' → (∀ p, p < co 0 3 → ν'.1 16 p = nI ((lead co r set side fog).2 p)) → Q (nI (lead co r set side fog).1) ν') : w_X7_leads b (nI fog) (nI side) (nI set) ν Q := by
  have hn := hv.2.2.2.1
  have hcc := hv.1
  have hrp := hr.2.2.2.2.2.2.2.2.2.1
  unfold w_X7_leads w_X7_leads_3
  intro X hX
  refine cnt_dn (P := fun i => ∀ ν1 : Mem, FrT ν ν1 → (∀ p, p < i → ν1.1 16 p = nI 0) → X (nI i) ν1) (co 0 3) ?_ ?_ ν ⟨rfl, fun _ _ => rfl⟩ (fun p hp => by omega)
  · intro ν1 f1 t1
    apply hX
    unfold s_X7_leads_3
    have e20 : ν1.1 0 20 = nI (co 0 3) := by rw [f1.2 0 (by decide)]; exact hc.1.2.2.2.1
    rw [e20]
    refine ⟨fun _ => ?_, fun q => absurd ((z_le (by omega) (by omega)).mpr (Nat.le_refl _)) q⟩
    unfold w_X7_leads_26 w_X7_leads_32
    intro Y hY
    refine cnt_dn (P := fun k => k ≤ co 0 0 → ∀ ν2 : Mem, FrT ν ν2 → (∀ p, p < co 0 3 → ν2.1 16 p = nI ((swp (gAt co r set side) (fun p => r (21 + p)) fog k).2 p)) → Y (nI (swp (gAt co r set side) (fun p => r (21 + p)) fog k).1) (nI k) ν2) (co 0 0) ?_ ?_ (by omega) ν1 f1 (fun p hp => t1 p hp)
    · intro _ ν2 f2 t2
      apply hY
      unfold s_X7_leads_32
      have e18 : ν2.1 0 18 = nI (co 0 0) := by rw [f2.2 0 (by decide)]; exact hc.1.2.1
      rw [e18]
      exact ⟨fun _ => h ν2 f2 t2, fun q => absurd ((z_le (by omega) (by omega)).mpr (Nat.le_refl _)) q⟩
    · intro k hk ih _ ν2 f2 t2
      apply hY
      unfold s_X7_leads_32
      have e18 : ν2.1 0 18 = nI (co 0 0) := by rw [f2.2 0 (by decide)]; exact hc.1.2.1
      have c2 : CoM ν2 co := hc.fr (fun k hk => f2.2 k (by omega))
      have s2 : StR ν2 b r := hs.fr (f2.2 b hb)
      have hle := swp_le (g := gAt co r set side) (mesh := fun p => r (21 + p)) (fog := fog) k
      have go : ∀ x, x = posn co side k → w_X7_leads_61 b (nI fog) (nI side) (nI set) Y (nI (swp (gAt co r set side) (fun p => r (21 + p)) fog k).1) (nI k) (nI x) ν2 Q := by
        intro x hx
        have hx12 : x ≤ 12 := by rw [hx]; unfold posn; split <;> omega
        unfold w_X7_leads_61 w_X7_leads_113
        refine M_postIn c2 hn s2 (fun p hp => by have := (hrp p hp).2.1; omega) (by omega) ?_
        rw [hx]
        cases e : pin (fun p => r (15 + p)) (posn co side k) (co 0 3) with
        | none =>
          have eg : gAt co r set side k = none := by unfold gAt; rw [e]
          unfold optI
          refine ⟨fun _ => ?_, fun z => absurd rfl z⟩
          simp (disch := omega) only [z_le, z_lt, z_eq, z_lt0, z_0le, z_eq0, z_le0, z_0lt, z_cl, z_in, z_add, z_mul, z_m1ne, z_m1ne', z_m1lt0, z_m1lt, z_ltm1, forall_eq, true_implies, false_implies, implies_true, true_and, and_true, false_and, and_false, not_true_eq_false, not_false_eq_true, ite_true, ite_false]
          have e2 : swp (gAt co r set side) (fun p => r (21 + p)) fog (k + 1) = swp (gAt co r set side) (fun p => r (21 + p)) fog k := by rw [swp_succ, eg]
          rw [e2] at ih
          exact ih (by omega) ν2 f2 t2
        | some p =>
          obtain ⟨hp, -⟩ := pin_some e
          have hm := (hrp p hp).2.2
          unfold optI
          dsimp only
          simp (disch := omega) only [z_le, z_lt, z_eq, z_lt0, z_0le, z_eq0, z_le0, z_0lt, z_cl, z_in, z_add, z_mul, z_m1ne, z_m1ne', z_m1lt0, z_m1lt, z_ltm1, forall_eq, true_implies, false_implies, implies_true, true_and, and_true, false_and, and_false, not_true_eq_false, not_false_eq_true, ite_true, ite_false]
          refine M_has (by omega) (by omega) ?_
          by_cases q : bitN set p = true
          · have eg : gAt co r set side k = some p := by unfold gAt; rw [e]; dsimp only; rw [if_pos q]
            rw [if_pos q]
            refine ⟨fun z => absurd z (by decide), fun _ => ?_⟩
            have e21 := s2 (21 + p) (by omega)
            rw [e21]
            refine ⟨by omega, M_takes hm (by omega) ⟨by omega, ?_⟩⟩
            have e2 : swp (gAt co r set side) (fun p => r (21 + p)) fog (k + 1) = _ := swp_succ
            rw [eg] at e2
            dsimp only at e2
            have htk := take_le (b := (swp (gAt co r set side) (fun p => r (21 + p)) fog k).1) (t := if 20 ≤ (swp (gAt co r set side) (fun p => r (21 + p)) fog k).1 then r (21 + p) else 9 - r (21 + p)) (by split <;> omega)
            rw [sI_same]
            simp (disch := omega) only [z_le, z_lt, z_eq, z_lt0, z_0le, z_eq0, z_le0, z_0lt, z_cl, z_in, z_add, z_mul, z_m1ne, z_m1ne', z_m1lt0, z_m1lt, z_ltm1, forall_eq, true_implies, false_implies, implies_true, true_and, and_true, false_and, and_false, not_true_eq_false, not_false_eq_true, ite_true, ite_false, z_sub]
            refine ⟨by omega, ?_⟩
            rw [e2] at ih
            refine ih (by omega) _ ⟨f2.1, fun k2 hk2 => by rw [sI_r hk2]; exact f2.2 k2 hk2⟩ (fun p' hp' => ?_)
            rw [sI_get]
            dsimp only
            by_cases e6 : p' = p
            · rw [if_pos ⟨rfl, e6⟩, e6, upN_same]
            · rw [if_neg (fun z => e6 z.2), upN_ne e6]; exact t2 p' hp'
          · have eg : gAt co r set side k = none := by unfold gAt; rw [e]; dsimp only; rw [if_neg q]
            rw [if_neg q]
            refine ⟨fun _ => ?_, fun z => absurd (by decide) z⟩
            have e2 : swp (gAt co r set side) (fun p => r (21 + p)) fog (k + 1) = swp (gAt co r set side) (fun p => r (21 + p)) fog k := by rw [swp_succ, eg]
            rw [e2] at ih
            exact ih (by omega) ν2 f2 t2
      simp (disch := omega) only [z_le, z_lt, z_eq, z_lt0, z_0le, z_eq0, z_le0, z_0lt, z_cl, z_in, z_add, z_mul, z_m1ne, z_m1ne', z_m1lt0, z_m1lt, z_ltm1, forall_eq, true_implies, false_implies, implies_true, true_and, and_true, false_and, and_false, not_true_eq_false, not_false_eq_true, ite_true, ite_false, e18, z_sub]
      refine ⟨fun q => absurd hk (by omega), fun _ => ⟨fun q => ?_, fun q => ?_⟩⟩
      · exact go _ (by unfold posn; rw [if_neg q])
      · exact go _ (by unfold posn; rw [if_pos q])
  · intro i hi ih ν1 f1 t1
    apply hX
    unfold s_X7_leads_3
    have e20 : ν1.1 0 20 = nI (co 0 3) := by rw [f1.2 0 (by decide)]; exact hc.1.2.2.2.1
    simp (disch := omega) only [z_le, z_lt, z_eq, z_lt0, z_0le, z_eq0, z_le0, z_0lt, z_cl, z_in, z_add, z_mul, z_m1ne, z_m1ne', z_m1lt0, z_m1lt, z_ltm1, forall_eq, true_implies, false_implies, implies_true, true_and, and_true, false_and, and_false, not_true_eq_false, not_false_eq_true, ite_true, ite_false, e20]
    refine ⟨fun q => absurd hi (by omega), fun _ => ⟨by omega, ?_⟩⟩
    refine ih _ ⟨f1.1, fun k2 hk2 => by rw [sI_r hk2]; exact f1.2 k2 hk2⟩ (fun p hp => ?_)
    rw [sI_get]
    by_cases e6 : p = i
    · rw [if_pos ⟨rfl, e6⟩]
    · rw [if_neg (fun z => e6 z.2)]; exact t1 p (by omega)
theorem M_counted {x : Nat} {ν : Mem} {Q : Int32 → Prop} (hx : x < 2147483648) (h : Q (nI (cnt x))) : w_X7_counted (nI x) ν Q := by
  unfold w_X7_counted
  unfold cnt at h
  simp (disch := omega) only [z_le, z_lt, z_eq, z_lt0, z_0le, z_eq0, z_le0, z_0lt, z_cl, z_in, z_add, z_mul, z_m1ne, z_m1ne', z_m1lt0, z_m1lt, z_ltm1, forall_eq, true_implies, false_implies, implies_true, true_and, and_true, false_and, and_false, not_true_eq_false, not_false_eq_true, ite_true, ite_false]
  refine ⟨fun q => ?_, fun q => ?_⟩
  · rw [if_neg (by omega)] at h; exact h
  · rw [if_pos (by omega)] at h; exact h
theorem M_lit {fog : Nat} {co : Co} {r : Ro} {ν : Mem} {Q : Int32 → Prop} (hf : fog ≤ 99) (hb : co 0 1 ≤ 20) (h2 : r 2 ≤ 1) (h : Q (nI (litF co r fog))) : w_X7_lit (nI fog) (nI (r 2)) (nI (co 0 1)) ν Q := by
  unfold w_X7_lit w_X7_lit_11
  unfold litF at h
  simp (disch := omega) only [z_le, z_lt, z_eq, z_lt0, z_0le, z_eq0, z_le0, z_0lt, z_cl, z_in, z_add, z_mul, z_m1ne, z_m1ne', z_m1lt0, z_m1lt, z_ltm1, forall_eq, true_implies, false_implies, implies_true, true_and, and_true, false_and, and_false, not_true_eq_false, not_false_eq_true, ite_true, ite_false]
  refine ⟨fun q => ?_, fun q => ?_⟩
  · rw [if_neg q] at h
    rw [z_sub (by omega), Nat.sub_zero]
    exact ⟨fun _ => h, fun z => absurd (nI_pos' (by omega)) z⟩
  · rw [if_pos q] at h
    by_cases z : co 0 1 ≤ fog
    · rw [z_sub z]
      exact ⟨fun _ => h, fun z => absurd (nI_pos' (by omega)) z⟩
    · have hneg := pk_sneg (a := fog) (b := co 0 1) (by omega) (by omega)
      rw [show fog - co 0 1 = 0 by omega] at h
      refine ⟨fun y => absurd hneg (Int32.not_lt.mpr y), fun _ => h⟩
theorem M_allTook {ν : Mem} {co : Co} {t : Nat → Nat} {Q : Int32 → Prop} (hc : CoM ν co) (hn : co 0 3 ≤ 6) (ht : ∀ p, p < co 0 3 → ν.1 16 p = nI (t p)) (h : Q (nI (sumN t (co 0 3)))) : w_X7_allTook ν Q := by
  have e20 := hc.1.2.2.2.1
  unfold w_X7_allTook w_X7_allTook_4
  intro X hX
  refine cnt_dn (P := fun i => X (nI (sumN t i)) (nI i)) (co 0 3) ?_ ?_
  · apply hX
    unfold s_X7_allTook_4
    rw [e20]
    exact ⟨fun _ => h, fun q => absurd ((z_le (by omega) (by omega)).mpr (Nat.le_refl _)) q⟩
  · intro i hi ih
    apply hX
    unfold s_X7_allTook_4
    simp (disch := omega) only [z_le, z_lt, z_eq, z_lt0, z_0le, z_eq0, z_le0, z_0lt, z_cl, z_in, z_add, z_mul, z_m1ne, z_m1ne', z_m1lt0, z_m1lt, z_ltm1, forall_eq, true_implies, false_implies, implies_true, true_and, and_true, false_and, and_false, not_true_eq_false, not_false_eq_true, ite_true, ite_false, e20, ht i hi]
    exact ⟨fun q => absurd hi (by omega), fun _ => ⟨by omega, ih⟩⟩
theorem cj_end {co : Co} {v n : Nat} {r : Ro} {j : Nat} (h : j < 9 ∨ 9 + n ≤ j) : cj co v r n j = r j := by
  unfold cj; rw [if_neg (by omega)]
theorem M_carries {ν : Mem} {b v : Nat} {co : Co} {r : Ro} {B H : Nat} {Q : Int32 → Mem → Prop} (hb : b = 14 ∨ b = 15) (hc : CoM ν co) (hS : StR ν b r) (hv : vCo co) (hr : vRH co r B H) (hv2 : v < 2)
    (h : ∀ ν' : Mem, FrB b ν ν' → StR ν' b (carR co v r) → Q (nI (cjS co v r (co 0 3))) ν') : w_X7_carries b (nI v) ν Q := by
  have hn := hv.2.2.2.1
  have hvp := hv.2.2.2.2.2.2.2.2.1
  have hrp := hr.2.2.2.2.2.2.2.2.2.1
  have hcis : r (5 + v) ≤ 99999 := by
    obtain ⟨-, -, -, -, -, r5, r6, -⟩ := hr
    rcases (by omega : v = 0 ∨ v = 1) with q | q <;> subst q <;> assumption
  unfold w_X7_carries w_X7_carries_5
  intro X hX
  refine cnt_dn (P := fun i => i ≤ co 0 3 → ∀ ν1 : Mem, FrB b ν ν1 → StR ν1 b (cj co v r i) → X (nI (cjS co v r i)) (nI i) ν1) (co 0 3) ?_ ?_ (by omega) ν FrB.rf (by
    have e : cj co v r 0 = r := by funext j; exact cj_end (by omega)
    rw [e]; exact hS)
  · intro _ ν1 f1 s1
    apply hX
    unfold s_X7_carries_5
    have e20 : ν1.1 0 20 = nI (co 0 3) := by rw [f1.2 0 (by omega)]; exact hc.1.2.2.2.1
    rw [e20]
    refine ⟨fun _ => ?_, fun q => absurd ((z_le (by omega) (by omega)).mpr (Nat.le_refl _)) q⟩
    have hle := cjS_le (v := v) (n := co 0 3) hv hr (Nat.le_refl _)
    unfold w_X7_carries_74 w_X7_carries_102
    have e5 := s1 (5 + v) (by omega)
    rw [cj_end (by omega)] at e5
    simp (disch := omega) only [z_le, z_lt, z_eq, z_lt0, z_0le, z_eq0, z_le0, z_0lt, z_cl, z_in, z_add, z_mul, z_m1ne, z_m1ne', z_m1lt0, z_m1lt, z_ltm1, forall_eq, true_implies, false_implies, implies_true, true_and, and_true, false_and, and_false, not_true_eq_false, not_false_eq_true, ite_true, ite_false, e5]
    refine ⟨by omega, fun q => ⟨by omega, by omega, ?_⟩, fun q => ⟨by omega, ?_⟩⟩
    · refine h _ f1.sI ?_
      unfold carR
      rw [if_neg (by omega)]
      exact s1.upd
    · refine h _ f1.sI ?_
      unfold carR
      rw [if_pos (by omega)]
      exact s1.upd
  · intro i hi ih _ ν1 f1 s1
    apply hX
    unfold s_X7_carries_5 w_X7_carries_37 w_X7_carries_67
    have e20 : ν1.1 0 20 = nI (co 0 3) := by rw [f1.2 0 (by omega)]; exact hc.1.2.2.2.1
    have e10 : ν1.1 10 i = nI (co 4 i) := by rw [f1.2 10 (by omega)]; exact (hc.2.2.1 i hi).2
    have ho := (hvp i hi).2.2
    have e9 := s1 (9 + i) (by omega)
    rw [cj_end (by omega)] at e9
    have eS : cjS co v r (i + 1) = cjS co v r i + (if co 4 i = v then r (9 + i) else 0) := rfl
    rw [cj_succ, eS] at ih
    simp (disch := omega) only [z_le, z_lt, z_eq, z_lt0, z_0le, z_eq0, z_le0, z_0lt, z_cl, z_in, z_add, z_mul, z_m1ne, z_m1ne', z_m1lt0, z_m1lt, z_ltm1, forall_eq, true_implies, false_implies, implies_true, true_and, and_true, false_and, and_false, not_true_eq_false, not_false_eq_true, ite_true, ite_false, e20, e10, e9]
    refine ⟨fun q => absurd hi (by omega), fun _ => ⟨by omega, fun q => ?_, fun q => ?_⟩⟩
    · rw [if_neg q, if_neg q] at ih
      refine ⟨by omega, fun _ => ⟨by omega, by omega, ?_⟩, fun z => absurd z q⟩
      refine ih (by omega) _ f1.sI ?_
      have s2 := s1.upd (j := 9 + i) (x := r (9 + i))
      have e : upN (cj co v r i) (9 + i) (r (9 + i)) = cj co v r i := by
        have e2 : cj co v r i (9 + i) = r (9 + i) := cj_end (by omega)
        rw [← e2]; exact upN_id
      rw [e] at s2
      exact s2
    · rw [if_pos q, if_pos q] at ih
      refine ⟨by omega, by omega, fun z => absurd q z, fun _ => ⟨by omega, ?_⟩⟩
      exact ih (by omega) _ f1.sI s1.upd
theorem M_drinks {ν : Mem} {b : Nat} {co : Co} {r : Ro} {B H : Nat} {Q : Mem → Prop} (hb : b = 14 ∨ b = 15) (hc : CoM ν co) (hS : StR ν b r) (hv : vCo co) (hr : vRH co r B H)
    (h : ∀ ν' : Mem, FrB b ν ν' → StR ν' b (gj co r (co 0 4)) → Q ν') : w_X7_drinks b ν Q := by
  have hn := hv.2.2.2.1
  have hn4 := hv.2.2.2.2.1
  have hcc := hv.1
  have hvg := hv.2.2.2.2.2.2.2.2.2.2
  unfold w_X7_drinks w_X7_drinks_2
  intro X hX
  refine cnt_dn (P := fun i => i ≤ co 0 4 → ∀ ν1 : Mem, FrB b ν ν1 → StR ν1 b (gj co r i) → X (nI i) ν1) (co 0 4) ?_ ?_ (by omega) ν FrB.rf hS
  · intro _ ν1 f1 s1
    apply hX
    unfold s_X7_drinks_2
    have e22 : ν1.1 0 22 = nI (co 0 4) := by rw [f1.2 0 (by omega)]; exact hc.1.2.2.2.2.2
    rw [e22]
    exact ⟨fun _ => h ν1 f1 s1, fun q => absurd ((z_le (by omega) (by omega)).mpr (Nat.le_refl _)) q⟩
  · intro i hi ih _ ν1 f1 s1
    apply hX
    unfold s_X7_drinks_2 w_X7_drinks_92 w_X7_drinks_67
    have e22 : ν1.1 0 22 = nI (co 0 4) := by rw [f1.2 0 (by omega)]; exact hc.1.2.2.2.2.2
    have e11 : ν1.1 11 (2 * i) = nI (co 7 i) := by rw [f1.2 11 (by omega)]; exact (hc.2.2.2.2 i hi).1
    have e11b : ν1.1 11 (2 * i + 1) = nI (co 8 i) := by rw [f1.2 11 (by omega)]; exact (hc.2.2.2.2 i hi).2
    have c1 : CoM ν1 co := hc.frM hb f1.M
    have hg := vRo_gj hv hr i
    have hgp := hg.2.2.2.2.2.2.2.2.2.1
    have hvi := hvg i hi
    have hdr : gj co r i 4 ≤ 999999 := hg.2.2.2.2.1
    have e4 := s1 4 (by decide)
    simp (disch := omega) only [z_le, z_lt, z_eq, z_lt0, z_0le, z_eq0, z_le0, z_0lt, z_cl, z_in, z_add, z_mul, z_m1ne, z_m1ne', z_m1lt0, z_m1lt, z_ltm1, forall_eq, true_implies, false_implies, implies_true, true_and, and_true, false_and, and_false, not_true_eq_false, not_false_eq_true, ite_true, ite_false, e22, e11, e11b]
    refine ⟨fun q => absurd hi (by omega), fun _ => ⟨by omega, ?_⟩⟩
    refine M_postIn c1 hn s1 (fun p hp => by have := (hgp p hp).2.1; omega) (by omega) ?_
    cases e : pin (fun p => gj co r i (15 + p)) (co 7 i) (co 0 3) with
    | none =>
      have eg : gj co r (i + 1) = gj co r i := by simp only [gj, e]
      rw [eg] at ih
      exact ⟨fun _ => ih (by omega) _ f1 s1, fun z => absurd rfl z⟩
    | some p =>
      obtain ⟨hp, -⟩ := pin_some e
      have e9 := s1 (9 + p) (by omega)
      have hjl := (hgp p hp).1
      have hsz := (hv.2.2.2.2.2.2.2.2.1 p hp).2.1
      have e20 : gj co r (i + 1) = upN (upN (gj co r i) (9 + p) (gj co r i (9 + p) - (if gj co r i (9 + p) < co 8 i then gj co r i (9 + p) else co 8 i))) 4 (cnt (gj co r i 4 + (if gj co r i (9 + p) < co 8 i then gj co r i (9 + p) else co 8 i))) := by simp only [gj, e]
      rw [e20] at ih
      unfold optI
      dsimp only
      simp (disch := omega) only [z_le, z_lt, z_eq, z_lt0, z_0le, z_eq0, z_le0, z_0lt, z_cl, z_in, z_add, z_mul, z_m1ne, z_m1ne', z_m1lt0, z_m1lt, z_ltm1, forall_eq, true_implies, false_implies, implies_true, true_and, and_true, false_and, and_false, not_true_eq_false, not_false_eq_true, ite_true, ite_false, sI_same, sI_ne1, sI_ne2, sA_same, sA_ne, sI_2, sA_2, sL_1, sR_1, e9, e4, z_sub]
      refine ⟨by omega, by omega, fun q => ⟨by omega, by omega, by omega, by omega, ?_⟩, fun q => ⟨by omega, by omega, by omega, by omega, ?_⟩⟩
      · rw [if_neg (by omega)] at ih
        try rw [e4]
        try rw [z_add]
        refine M_counted (by omega) ⟨by omega, ?_⟩
        unfold w_X7_drinks_92
        simp (disch := omega) only [z_le, z_lt, z_eq, z_lt0, z_0le, z_eq0, z_le0, z_0lt, z_cl, z_in, z_add, z_mul, z_m1ne, z_m1ne', z_m1lt0, z_m1lt, z_ltm1, forall_eq, true_implies, false_implies, implies_true, true_and, and_true, false_and, and_false, not_true_eq_false, not_false_eq_true, ite_true, ite_false, z_sub]
        exact ih (by omega) _ f1.sI.sI (s1.upd).upd
      · rw [if_pos (by omega)] at ih
        try rw [e4]
        try rw [z_add]
        refine M_counted (by omega) ⟨by omega, ?_⟩
        unfold w_X7_drinks_92
        simp (disch := omega) only [z_le, z_lt, z_eq, z_lt0, z_0le, z_eq0, z_le0, z_0lt, z_cl, z_in, z_add, z_mul, z_m1ne, z_m1ne', z_m1lt0, z_m1lt, z_ltm1, forall_eq, true_implies, false_implies, implies_true, true_and, and_true, false_and, and_false, not_true_eq_false, not_false_eq_true, ite_true, ite_false, z_sub]
        exact ih (by omega) _ f1.sI.sI (s1.upd).upd
theorem M_usesUp {ν : Mem} {b : Nat} {co : Co} {r : Ro} {B H : Nat} {Q : Mem → Prop} (hb : b = 14 ∨ b = 15) (hc : CoM ν co) (hS : StR ν b r) (hv : vCo co) (hr : vRH co r B H)
    (h : ∀ ν' : Mem, FrB b ν ν' → StR ν' b (uj co r 2) → Q ν') : w_X7_usesUp b ν Q := by
  have hvu := hv.2.2.2.2.2.2.2.2.2.1
  unfold w_X7_usesUp w_X7_usesUp_2
  intro X hX
  refine cnt_dn (P := fun i => i ≤ 2 → ∀ ν1 : Mem, FrB b ν ν1 → StR ν1 b (uj co r i) → X (nI i) ν1) 2 ?_ ?_ (by omega) ν FrB.rf hS
  · intro _ ν1 f1 s1
    apply hX
    unfold s_X7_usesUp_2
    exact ⟨fun _ => h ν1 f1 s1, fun q => absurd (by decide) q⟩
  · intro i hi ih _ ν1 f1 s1
    apply hX
    unfold s_X7_usesUp_2 w_X7_usesUp_37
    have e13 : ν1.1 13 i = nI (co 6 i) := by rw [f1.2 13 (by omega)]; exact (hc.2.2.2.1 i hi).2
    have e5 := s1 (5 + i) (by omega)
    have e7 := s1 (7 + i) (by omega)
    have hu6 := (hvu i hi).2
    have hu := vRo_uj hv hr i (by omega)
    have hcis : uj co r i (5 + i) ≤ 99999 := by
      obtain ⟨-, -, -, -, -, r5, r6, -⟩ := hu
      rcases (by omega : i = 0 ∨ i = 1) with q | q <;> subst q <;> assumption
    have hth : uj co r i (7 + i) ≤ 999999 := by
      obtain ⟨-, -, -, -, -, -, -, r7, r8, -⟩ := hu
      rcases (by omega : i = 0 ∨ i = 1) with q | q <;> subst q <;> assumption
    have eu : uj co r (i + 1) = upN (upN (uj co r i) (5 + i) (uj co r i (5 + i) - co 6 i)) (7 + i) (cnt (uj co r i (7 + i) + (co 6 i - uj co r i (5 + i)))) := rfl
    rw [eu] at ih
    simp (disch := omega) only [z_le, z_lt, z_eq, z_lt0, z_0le, z_eq0, z_le0, z_0lt, z_cl, z_in, z_add, z_mul, z_m1ne, z_m1ne', z_m1lt0, z_m1lt, z_ltm1, forall_eq, true_implies, false_implies, implies_true, true_and, and_true, false_and, and_false, not_true_eq_false, not_false_eq_true, ite_true, ite_false, sI_same, sI_ne1, sI_ne2, sA_same, sA_ne, sI_2, sA_2, sL_1, sR_1, e13, e5, e7, z_sub]
    refine ⟨fun q => absurd hi (by omega), fun _ => ⟨hi, by omega, fun q => ?_, fun q => ?_⟩⟩
    · rw [show co 6 i - 0 = co 6 i by omega, z_sub (by omega)]
      refine ⟨by omega, hi, by omega, by omega, ?_⟩
      rw [show co 6 i - uj co r i (5 + i) = 0 by omega] at ih
      try rw [e7]
      try rw [z_add]
      refine M_counted (by omega) ⟨by omega, ?_⟩
      exact ih (by omega) _ f1.sI.sI (s1.upd).upd
    · refine ⟨hi, by omega, by omega, hi, by omega, ?_⟩
      simp (disch := omega) only [z_le, z_lt, z_eq, z_lt0, z_0le, z_eq0, z_le0, z_0lt, z_cl, z_in, z_add, z_mul, z_m1ne, z_m1ne', z_m1lt0, z_m1lt, z_ltm1, forall_eq, true_implies, false_implies, implies_true, true_and, and_true, false_and, and_false, not_true_eq_false, not_false_eq_true, ite_true, ite_false, z_sub]
      rw [show co 6 i - (co 6 i - uj co r i (5 + i)) = uj co r i (5 + i) by omega]
      refine ⟨by omega, ?_⟩
      rw [show uj co r i (5 + i) - co 6 i = uj co r i (5 + i) - uj co r i (5 + i) by omega] at ih
      try rw [e7]
      try rw [z_add]
      refine M_counted (by omega) ⟨by omega, ?_⟩
      exact ih (by omega) _ f1.sI.sI (s1.upd).upd
