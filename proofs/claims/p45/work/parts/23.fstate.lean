/-! ===== FogNets: a fog's way ===== -/
def optI (o : Option Nat) : Int32 := match o with
  | none => -1
  | some p => nI p
def pinB (f : Nat → Nat) (bit : Nat → Bool) (c : Nat) : Nat → Option Nat
  | 0 => none
  | n + 1 => if bit n = true ∧ f n = c then some n else pinB f bit c n
theorem pinB_some {f : Nat → Nat} {bit : Nat → Bool} {c : Nat} : ∀ {n p : Nat}, pinB f bit c n = some p → p < n ∧ f p = c ∧ bit p = true := by
  intro n
  induction n with
  | zero => intro p h; cases h
  | succ n ih =>
    intro p h
    unfold pinB at h
    split at h
    · next q => cases h; exact ⟨by omega, q.2, q.1⟩
    · obtain ⟨h1, h2⟩ := ih h; exact ⟨by omega, h2⟩
theorem pinB_none {f : Nat → Nat} {bit : Nat → Bool} {c : Nat} : ∀ {n : Nat}, pinB f bit c n = none → ∀ p, p < n → ¬ (bit p = true ∧ f p = c) := by
  intro n
  induction n with
  | zero => intro _ p hp; omega
  | succ n ih =>
    intro h p hp
    unfold pinB at h
    split at h
    · cases h
    · next q =>
      by_cases e : p = n
      · subst e; exact q
      · exact ih h p (by omega)
theorem pin_some {f : Nat → Nat} {c : Nat} : ∀ {n p : Nat}, pin f c n = some p → p < n ∧ f p = c := by
  intro n
  induction n with
  | zero => intro p h; cases h
  | succ n ih =>
    intro p h
    unfold pin at h
    split at h
    · next q => cases h; exact ⟨by omega, q⟩
    · obtain ⟨h1, h2⟩ := ih h; exact ⟨by omega, h2⟩
theorem pin_none {f : Nat → Nat} {c : Nat} : ∀ {n : Nat}, pin f c n = none → ∀ p, p < n → f p ≠ c := by
  intro n
  induction n with
  | zero => intro _ p hp; omega
  | succ n ih =>
    intro h p hp
    unfold pin at h
    split at h
    · cases h
    · next q =>
      by_cases e : p = n
      · subst e; exact q
      · exact ih h p (by omega)
theorem pin_of {f : Nat → Nat} {c n p : Nat} (hp : p < n) (h : f p = c) (inj : ∀ a b, a < n → b < n → f a = f b → a = b) : pin f c n = some p := by
  cases e : pin f c n with
  | none => exact absurd h (pin_none e p hp)
  | some q =>
    obtain ⟨h1, h2⟩ := pin_some e
    rw [inj q p h1 hp (h2.trans h.symm)]
theorem gAt_some {co : Co} {r : Ro} {set side k p : Nat} (h : gAt co r set side k = some p) : p < co 0 3 ∧ r (15 + p) = posn co side k ∧ bitN set p = true := by
  unfold gAt at h
  cases e : pin (fun p => r (15 + p)) (posn co side k) (co 0 3) with
  | none => rw [e] at h; cases h
  | some q =>
    rw [e] at h
    obtain ⟨h1, h2⟩ := pin_some e
    dsimp only at h
    split at h
    · next b => cases h; exact ⟨h1, h2, b⟩
    · cases h
theorem gAt_none {co : Co} {r : Ro} {set side k : Nat} (inj : ∀ p q, p < co 0 3 → q < co 0 3 → r (15 + p) = r (15 + q) → p = q) (h : gAt co r set side k = none) (p : Nat) (hp : p < co 0 3) (hc : r (15 + p) = posn co side k) : bitN set p = false := by
  unfold gAt at h
  rw [pin_of (f := fun p => r (15 + p)) hp hc inj] at h
  dsimp only at h
  split at h
  · cases h
  · next b => simpa using b
theorem swp_congr {g g' : Nat → Option Nat} {mesh : Nat → Nat} {fog : Nat} : ∀ n, (∀ k, k < n → g k = g' k) → swp g mesh fog n = swp g' mesh fog n := by
  intro n
  induction n with
  | zero => intro _; rfl
  | succ n ih =>
    intro h
    unfold swp
    rw [ih (fun k hk => h k (by omega)), h n (by omega)]
theorem swp_succ {g : Nat → Option Nat} {mesh : Nat → Nat} {fog k : Nat} : swp g mesh fog (k + 1) = match g k with
    | none => swp g mesh fog k
    | some p => ((swp g mesh fog k).1 - (swp g mesh fog k).1 * (if 20 ≤ (swp g mesh fog k).1 then mesh p else 9 - mesh p) / 10,
        upN (swp g mesh fog k).2 p ((swp g mesh fog k).1 * (if 20 ≤ (swp g mesh fog k).1 then mesh p else 9 - mesh p) / 10)) := rfl
theorem st_far_all : ∀ b, b < 249 → sF.2.1 b = 4 → 25 ≤ b ∧ b + 5 < 246 ∧ (b + 5 < 37 ∨ 43 ≤ b) ∧ (b + 5 < 223 ∨ 224 ≤ b) ∧ (b + 5 < 236) := by decide +kernel
theorem st_far {b : Nat} (h : sF.2.1 b = 4) : 25 ≤ b ∧ b + 5 < 246 ∧ (b + 5 < 37 ∨ 43 ≤ b) ∧ (b + 5 < 223 ∨ 224 ≤ b) ∧ (b + 5 < 236) := st_far_all b (sF_lt b (by omega)) h
theorem co_far_all : ∀ b, b < 249 → sF.2.1 b = 0 → b = 3 ∨ b = 14 := by decide +kernel
theorem co_far {b : Nat} (h : sF.2.1 b = 0) : b = 3 ∨ b = 14 := co_far_all b (sF_lt b (by omega)) h
theorem swp_none {g : Nat → Option Nat} {mesh : Nat → Nat} {fog n : Nat} : ∀ d, (∀ k, n ≤ k → g k = none) → swp g mesh fog (n + d) = swp g mesh fog n := by
  intro d
  induction d with
  | zero => intro _; rfl
  | succ d ih =>
    intro h
    rw [show n + (d + 1) = (n + d) + 1 by omega, swp_succ, h (n + d) (by omega)]
    exact ih h
theorem take_le {b t : Nat} (ht : t ≤ 9) : b * t / 10 ≤ b := by
  have : b * t ≤ b * 9 := Nat.mul_le_mul_left b ht
  omega
theorem swp_le {g : Nat → Option Nat} {mesh : Nat → Nat} {fog : Nat} : ∀ k, (swp g mesh fog k).1 ≤ fog := by
  intro k
  induction k with
  | zero => exact Nat.le_refl _
  | succ k ih =>
    unfold swp
    split
    · exact ih
    · exact Nat.le_trans (Nat.sub_le _ _) ih
theorem swp_took {g : Nat → Option Nat} {mesh : Nat → Nat} {fog : Nat} (hm : ∀ k p, g k = some p → mesh p ≤ 9) : ∀ k p, (swp g mesh fog k).2 p ≤ fog := by
  intro k
  induction k with
  | zero => intro p; exact Nat.zero_le _
  | succ k ih =>
    intro p
    unfold swp
    split
    · exact ih p
    · next q hq =>
      dsimp only
      unfold upN
      split
      · refine Nat.le_trans (take_le ?_) (swp_le k)
        have := hm k q hq
        split <;> omega
      · exact ih p
theorem swp_out {g : Nat → Option Nat} {mesh : Nat → Nat} {fog n : Nat} (hg : ∀ k p, g k = some p → p < n) : ∀ k p, n ≤ p → (swp g mesh fog k).2 p = 0 := by
  intro k
  induction k with
  | zero => intro p _; rfl
  | succ k ih =>
    intro p hp
    unfold swp
    split
    · exact ih p hp
    · next q hq =>
      dsimp only
      have := hg k q hq
      rw [upN_ne (by omega)]
      exact ih p hp
/-- the place downwind of a post -/
def idx (co : Co) (r : Ro) (side p : Nat) : Nat := if side = 0 then r (15 + p) else co 0 0 - 1 - r (15 + p)
def gO (co : Co) (r : Ro) (set side : Nat) : Nat → Option Nat := fun i => if i < co 0 0 then gAt co r set side i else none
/-- what a fog's way leaves behind: what nets took, their order, what goes beyond -/
def Blown (μ : Mem) (co : Co) (r : Ro) (set side fog : Nat) : Prop :=
  (∀ p, p < 6 → μ.1 39 p = nI ((lead co r set side fog).2 p)) ∧ μ.1 38 2 = nI (lead co r set side fog).1 ∧
  (∀ i, i < 12 → μ.1 40 i = optI (gO co r set side i))
def FrW (μ μ' : Mem) : Prop := μ'.2 = μ.2 ∧ ∀ k, ¬ (38 ≤ k ∧ k < 41) → μ'.1 k = μ.1 k
theorem F_lineUp {μ : Mem} {b n : Nat} {co : Co} {r : Ro} {B set side : Nat} {Q : Mem → Prop} (hb : sF.2.1 b = 4) (hs : StF μ b (co 0 3) r) (hv : vCo co) (hr : vRo co r B) (hset : set < 64) (hbit : ∀ p, bitN set p = true → p < co 0 3) (hside : side ≤ 1)
    (h : ∀ μ' : Mem, FrW μ μ' → μ'.1 38 = μ.1 38 → (∀ p, p < 6 → μ'.1 39 p = nI 0) → (∀ i, i < 12 → μ'.1 40 i = optI (pinB (idx co r side) (bitN set) i 6)) → Q μ') : w_X5_lineUp b (nI (co 0 0)) (nI set) (nI side) μ Q := by
  have hfar := st_far hb
  obtain ⟨-, hp, -, -⟩ := hs
  obtain ⟨v0, -, -, hn, -⟩ := hv
  obtain ⟨-, -, -, -, -, -, -, -, -, hrp, -⟩ := hr
  unfold w_X5_lineUp w_X5_lineUp_3
  intro X hX
  have key : ∀ i, i ≤ 12 → ∀ μ1 : Mem, FrW μ μ1 → μ1.1 38 = μ.1 38 → (∀ j, j < i → μ1.1 40 j = -1) → X (nI i) μ1 := by
    intro i hi
    have hd : ∃ d, i + d = 12 := ⟨12 - i, by omega⟩
    obtain ⟨d, hd⟩ := hd
    induction d generalizing i with
    | zero =>
      intro μ1 hf h38 ho
      have hi12 : i = 12 := by omega
      subst hi12
      apply hX
      unfold s_X5_lineUp_3
      refine ⟨fun _ => ?_, fun q => absurd (by decide) q⟩
      unfold w_X5_lineUp_24 w_X5_lineUp_27
      intro Y hY
      refine cnt_dn (P := fun i => ∀ μ2 : Mem, FrW μ μ2 → μ2.1 38 = μ.1 38 → (∀ p, p < i → μ2.1 39 p = nI 0) → (∀ j, j < 12 → μ2.1 40 j = optI (pinB (idx co r side) (bitN set) j i)) → Y (nI i) μ2) 6 ?_ ?_ μ1 hf h38 (fun p hp => by omega) (fun j hj => ho j hj)
      · intro μ2 f2 e38 ht hor
        apply hY
        unfold s_X5_lineUp_27
        exact ⟨fun _ => h μ2 f2 e38 ht hor, fun q => absurd (by decide) q⟩
      · intro i hi ih μ2 f2 e38 ht hor
        apply hY
        unfold s_X5_lineUp_27 w_X5_lineUp_82 w_X5_lineUp_87
        have hs2 : set / 2 ^ i ≤ set := Nat.div_le_self _ _
        simp (disch := omega) only [z_le, z_lt, z_eq, z_lt0, z_0le, z_eq0, z_le0, z_0lt, z_cl, z_in, z_add, z_mul, z_m1ne, z_m1ne', z_m1lt0, z_m1lt, z_ltm1, forall_eq, true_implies, false_implies, implies_true, true_and, and_true, false_and, and_false, not_true_eq_false, not_false_eq_true, ite_true, ite_false, z_shr, z_and1]
        refine ⟨fun q => absurd q (by omega), fun _ => ⟨hi, ?_⟩⟩
        have f3 : FrW μ (sI μ2 39 i (nI 0)) := ⟨f2.1, fun k hk => by
          rw [← f2.2 k hk]
          funext j
          rw [sI_ne1 (by omega)]⟩
        have e3 : ∀ p, p < i + 1 → (sI μ2 39 i (nI 0)).1 39 p = nI 0 := by
          intro p hp
          rw [sI_get]
          by_cases e : p = i
          · rw [if_pos ⟨rfl, e⟩]
          · rw [if_neg (fun q => e q.2)]; exact ht p (by omega)
        have e38' : (sI μ2 39 i (nI 0)).1 38 = μ.1 38 := by
          rw [← e38]; funext j; rw [sI_ne1 (by decide)]
        have e4 : ∀ j, j < 12 → (sI μ2 39 i (nI 0)).1 40 j = optI (pinB (idx co r side) (bitN set) j i) := by
          intro j hj
          rw [sI_ne1 (by decide)]; exact hor j hj
        refine ⟨fun q => ?_, fun q => ?_⟩
        · refine ih _ f3 e38' e3 (fun j hj => ?_)
          rw [e4 j hj]
          have hbf : ¬ (bitN set i = true ∧ idx co r side i = j) := fun z => q (by have := z.1; unfold bitN at this; simpa using this)
          conv => rhs; unfold pinB
          rw [if_neg hbf]
        · have hbt : bitN set i = true := by unfold bitN; simpa using q
          have hin := hbit i hbt
          have hcell := (hrp i hin).2.1
          have ecell : (sI μ2 39 i (nI 0)).1 (b + 1) i = nI (r (15 + i)) := by
            rw [sI_ne1 (by omega), f2.2 (b + 1) (by omega)]
            exact (hp i hin).1
          have last : ∀ x, x = idx co r side i → w_X6_put 40 (nI x) (nI i) (sI μ2 39 i (nI 0)) (fun μ5 => Y (nI (i + 1)) μ5) := by
            intro x hx
            have hx12 : x < 12 := by rw [hx]; unfold idx; split <;> omega
            refine F_put (n := 12) nF_40 (by decide) hx12 ?_
            refine ih _ ⟨f3.1, fun k hk => ?_⟩ ?_ (fun p hp => ?_) (fun j hj => ?_)
            · rw [← f3.2 k hk]; funext j; rw [sI_ne1 (by omega)]
            · rw [← e38']; funext j; rw [sI_ne1 (by decide)]
            · rw [sI_ne1 (by decide)]; exact e3 p hp
            · conv => rhs; unfold pinB
              by_cases e : idx co r side i = j
              · rw [if_pos ⟨hbt, e⟩, sI_get, if_pos ⟨rfl, by rw [hx, e]⟩]; rfl
              · rw [if_neg (fun z => e z.2), sI_get, if_neg (fun z => e (by rw [← hx, z.2]))]
                exact e4 j hj
          rw [ecell]
          refine ⟨fun q0 => ⟨hi, ?_⟩, fun q0 => ⟨hi, ?_⟩⟩
          · simp (disch := omega) only [z_le, z_lt, z_eq, z_lt0, z_0le, z_eq0, z_le0, z_0lt, z_cl, z_in, z_add, z_mul, z_m1ne, z_m1ne', z_m1lt0, z_m1lt, z_ltm1, forall_eq, true_implies, false_implies, implies_true, true_and, and_true, false_and, and_false, not_true_eq_false, not_false_eq_true, ite_true, ite_false, z_sub]
            exact last _ (by unfold idx; rw [if_neg (by omega)])
          · exact last _ (by unfold idx; rw [if_pos q0])
    | succ d ih =>
      intro μ1 hf h38 ho
      apply hX
      unfold s_X5_lineUp_3
      simp (disch := omega) only [z_le, z_lt, z_eq, z_lt0, z_0le, z_eq0, z_le0, z_0lt, z_cl, z_in, z_add, z_mul, z_m1ne, z_m1ne', z_m1lt0, z_m1lt, z_ltm1, forall_eq, true_implies, false_implies, implies_true, true_and, and_true, false_and, and_false, not_true_eq_false, not_false_eq_true, ite_true, ite_false]
      refine ⟨fun q => absurd q (by omega), fun _ => ⟨by omega, ?_⟩⟩
      refine ih (i + 1) (by omega) (by omega) _ ⟨hf.1, fun k hk => ?_⟩ ?_ (fun j hj => ?_)
      · rw [← hf.2 k hk]; funext j; rw [sI_ne1 (by omega)]
      · rw [← h38]; funext j; rw [sI_ne1 (by decide)]
      · rw [sI_get]
        by_cases e : j = i
        · rw [if_pos ⟨rfl, e⟩]
        · rw [if_neg (fun z => e z.2)]; exact ho j (by omega)
  exact key 0 (by omega) μ ⟨rfl, fun _ _ => rfl⟩ rfl (fun j hj => by omega)
theorem idx_pos {co : Co} {r : Ro} {side p i : Nat} (hc : r (15 + p) < co 0 0) (hi : i < co 0 0) : idx co r side p = i ↔ r (15 + p) = posn co side i := by
  unfold idx posn
  by_cases h : side = 0
  · simp [h]
  · simp only [h, if_false]
    omega
theorem order_eq {co : Co} {r : Ro} {B set side i : Nat} (hv : vCo co) (hr : vRo co r B) (hbit : ∀ p, bitN set p = true → p < co 0 3) : pinB (idx co r side) (bitN set) i 6 = gO co r set side i := by
  unfold gO
  have hn := hv.2.2.2.1
  obtain ⟨-, -, -, -, -, -, -, -, -, hrp, inj⟩ := hr
  cases e : pinB (idx co r side) (bitN set) i 6 with
  | none =>
    by_cases hi : i < co 0 0
    · rw [if_pos hi]
      cases e2 : gAt co r set side i with
      | none => rfl
      | some p =>
        obtain ⟨h1, h2, h3⟩ := gAt_some e2
        exact absurd ⟨h3, (idx_pos (hrp p h1).2.1 hi).mpr h2⟩ (pinB_none e p (by omega))
    · rw [if_neg hi]
  | some p =>
    obtain ⟨h1, h2, h3⟩ := pinB_some e
    have hp := hbit p h3
    have hc := (hrp p hp).2.1
    have hi : i < co 0 0 := by rw [← h2]; unfold idx; split <;> omega
    rw [if_pos hi]
    have hpos := (idx_pos hc hi).mp h2
    cases e2 : gAt co r set side i with
    | none =>
      have := gAt_none inj e2 p hp hpos
      rw [this] at h3; cases h3
    | some q =>
      obtain ⟨g1, g2, g3⟩ := gAt_some e2
      rw [inj p q hp g1 (hpos.trans g2.symm)]
theorem F_blow {μ : Mem} {b n : Nat} {co : Co} {r : Ro} {B set side fog : Nat} {Q : Mem → Prop} (hb : sF.2.1 b = 4) (hs : StF μ b (co 0 3) r) (hv : vCo co) (hr : vRo co r B) (hset : set < 64) (hbit : ∀ p, bitN set p = true → p < co 0 3) (hside : side ≤ 1) (hfog : fog ≤ 99)
    (h : ∀ μ' : Mem, FrW μ μ' → Blown μ' co r set side fog → Q μ') : w_X5_blow b (nI (co 0 0)) (nI set) (nI side) (nI fog) μ Q := by
  have hfar := st_far hb
  have hn6 := hv.2.2.2.1
  have hc12 := hv.1
  have hrp := hr.2.2.2.2.2.2.2.2.2.1
  have inj := hr.2.2.2.2.2.2.2.2.2.2
  unfold w_X5_blow
  refine F_lineUp (n := n) hb hs hv hr hset hbit hside (fun μ1 f1 e38 ht hor => ?_)
  intro μ2 e2
  subst e2
  have hg12 : ∀ k, co 0 0 ≤ k → (gO co r set side) k = none := fun k hk => by unfold gO; rw [if_neg (by omega)]
  have hgp : ∀ k p, (gO co r set side) k = some p → p < co 0 3 := by
    intro k p hk
    unfold gO at hk
    split at hk
    · exact (gAt_some hk).1
    · cases hk
  have hfin : swp (gO co r set side) (fun p => r (21 + p)) fog 12 = lead co r set side fog := by
    unfold lead
    have e := swp_none (g := gO co r set side) (mesh := fun p => r (21 + p)) (fog := fog) (n := co 0 0) (12 - co 0 0) hg12
    rw [show co 0 0 + (12 - co 0 0) = 12 by omega] at e
    rw [e]
    exact swp_congr _ (fun k hk => by unfold gO; rw [if_pos hk])
  have f2 : FrW μ (sI μ1 38 2 (nI fog)) := ⟨f1.1, fun k hk => by rw [← f1.2 k hk]; funext j; rw [sI_ne1 (by omega)]⟩
  unfold w_X5_blow_18
  intro X hX
  refine cnt_dn (P := fun i => ∀ μ3 : Mem, FrW μ μ3 → (∀ j, j < 12 → μ3.1 40 j = optI ((gO co r set side) j)) → μ3.1 38 2 = nI (swp (gO co r set side) (fun p => r (21 + p)) fog i).1 → (∀ p, p < 6 → μ3.1 39 p = nI ((swp (gO co r set side) (fun p => r (21 + p)) fog i).2 p)) → X (nI i) μ3) 12 ?_ ?_ _ f2 (fun j hj => ?_) sI_same (fun p hp => ?_)
  · intro μ3 f3 ho he htk
    apply hX
    unfold s_X5_blow_18
    refine ⟨fun _ => h μ3 f3 ⟨?_, ?_, ho⟩, fun q => absurd (by decide) q⟩
    · intro p hp; rw [htk p hp, hfin]
    · rw [he, hfin]
  · intro i hi ih μ3 f3 ho he htk
    apply hX
    unfold s_X5_blow_18 w_X5_blow_113
    simp (disch := omega) only [z_le, z_lt, z_eq, z_lt0, z_0le, z_eq0, z_le0, z_0lt, z_cl, z_in, z_add, z_mul, z_m1ne, z_m1ne', z_m1lt0, z_m1lt, z_ltm1, forall_eq, true_implies, false_implies, implies_true, true_and, and_true, false_and, and_false, not_true_eq_false, not_false_eq_true, ite_true, ite_false]
    refine ⟨fun q => absurd q (by omega), fun _ => ⟨hi, ?_⟩⟩
    rw [ho i hi]
    have hle := swp_le (g := gO co r set side) (mesh := fun p => r (21 + p)) (fog := fog) i
    cases e : (gO co r set side) i with
    | none =>
      unfold optI
      refine ⟨fun _ => ?_, fun q => absurd (by decide) q⟩
      refine ih μ3 f3 ho ?_ ?_
      · rw [he, swp_succ, e]
      · intro p hp; rw [htk p hp, swp_succ, e]
    | some p =>
      have hp := hgp i p e
      have hm := (hrp p hp).2.2
      unfold optI
      dsimp only
      simp (disch := omega) only [z_le, z_lt, z_eq, z_lt0, z_0le, z_eq0, z_le0, z_0lt, z_cl, z_in, z_add, z_mul, z_m1ne, z_m1ne', z_m1lt0, z_m1lt, z_ltm1, forall_eq, true_implies, false_implies, implies_true, true_and, and_true, false_and, and_false, not_true_eq_false, not_false_eq_true, ite_true, ite_false]
      refine ⟨fun q => ?_, fun q => absurd (by omega) q⟩
      have emesh : μ3.1 (b + 2) p = nI (r (21 + p)) := by rw [f3.2 (b + 2) (by omega)]; exact (hs.2.1 p hp).2.1
      rw [he, emesh]
      have go : ∀ t, t ≤ 9 → t = (if 20 ≤ (swp (gO co r set side) (fun p => r (21 + p)) fog i).1 then r (21 + p) else 9 - r (21 + p)) → w_X5_blow_78 b (nI (co 0 0)) (nI set) (nI side) (nI fog) X (nI i) (nI p) (nI t) μ3 Q := by
        intro t ht htd
        have hmul : (swp (gO co r set side) (fun p => r (21 + p)) fog i).1 * t ≤ 99 * 9 := Nat.mul_le_mul (by omega) ht
        have htk2 := take_le (b := (swp (gO co r set side) (fun p => r (21 + p)) fog i).1) ht
        unfold w_X5_blow_78 w_X5_blow_113
        simp (disch := omega) only [z_le, z_lt, z_eq, z_lt0, z_0le, z_eq0, z_le0, z_0lt, z_cl, z_in, z_add, z_mul, z_m1ne, z_m1ne', z_m1lt0, z_m1lt, z_ltm1, forall_eq, true_implies, false_implies, implies_true, true_and, and_true, false_and, and_false, not_true_eq_false, not_false_eq_true, ite_true, ite_false, sI_same, sI_ne1, sI_ne2, sA_same, sA_ne, sI_2, sA_2, sL_1, sR_1, he, z_div, z_sub]
        refine ⟨by omega, by omega, by omega, ?_⟩
        refine ih _ ⟨f3.1, fun k hk => ?_⟩ (fun j hj => ?_) ?_ (fun p' hp' => ?_)
        · rw [← f3.2 k hk]; funext j; rw [sI_ne1 (by omega), sI_ne1 (by omega)]
        · rw [sI_ne1 (by decide), sI_ne1 (by decide)]; exact ho j hj
        · rw [sI_same, swp_succ, e]; dsimp only; rw [← htd]
        · rw [sI_ne1 (by decide), swp_succ, e]
          dsimp only
          rw [← htd, sI_get]
          by_cases e6 : p' = p
          · rw [if_pos ⟨rfl, e6⟩, e6, upN_same]
          · rw [if_neg (fun z => e6 z.2), upN_ne e6]; exact htk p' hp'
      simp (disch := omega) only [z_le, z_lt, z_eq, z_lt0, z_0le, z_eq0, z_le0, z_0lt, z_cl, z_in, z_add, z_mul, z_m1ne, z_m1ne', z_m1lt0, z_m1lt, z_ltm1, forall_eq, true_implies, false_implies, implies_true, true_and, and_true, false_and, and_false, not_true_eq_false, not_false_eq_true, ite_true, ite_false, z_sub]
      refine ⟨fun q1 => ⟨by omega, ?_⟩, fun q1 => ⟨by omega, ?_⟩⟩
      · exact go _ (by omega) (by rw [if_neg (by omega)])
      · exact go _ (by omega) (by rw [if_pos (by omega)])
  · rw [sI_ne1 (by decide), hor j hj, order_eq hv hr hbit]
  · rw [sI_ne1 (by decide)]; exact ht p hp
