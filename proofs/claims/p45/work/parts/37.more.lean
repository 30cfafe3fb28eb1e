def tk (g : Nat → Option Nat) (t : Nat → Nat) (x : Nat) : Nat → Nat → Nat → Option Nat
  | 0, _, _ => none
  | d + 1, k, gone => match g k with
    | none => tk g t x d (k + 1) gone
    | some p => if x < gone + t p then some p else tk g t x d (k + 1) (gone + t p)
theorem tk_step {g : Nat → Option Nat} {t : Nat → Nat} {x N k gone : Nat} (h : k < N) : tk g t x (N - k) k gone = match g k with
    | none => tk g t x (N - (k + 1)) (k + 1) gone
    | some p => if x < gone + t p then some p else tk g t x (N - (k + 1)) (k + 1) (gone + t p) := by
  rw [show N - k = (N - (k + 1)) + 1 by omega]; rfl
theorem tk_none {g : Nat → Option Nat} {t : Nat → Nat} {x n : Nat} (hg : ∀ k, n ≤ k → g k = none) : ∀ d k gone, n ≤ k → tk g t x d k gone = none := by
  intro d
  induction d with
  | zero => intro _ _ _; rfl
  | succ d ih => intro k gone hk; unfold tk; rw [hg k hk]; exact ih (k + 1) gone (by omega)
theorem tk_end {g : Nat → Option Nat} {t : Nat → Nat} {x n : Nat} (hg : ∀ k, n ≤ k → g k = none) : ∀ d e k gone, n ≤ k + d → tk g t x (d + e) k gone = tk g t x d k gone := by
  intro d
  induction d with
  | zero => intro e k gone h; rw [Nat.zero_add]; exact tk_none hg e k gone (by omega)
  | succ d ih =>
    intro e k gone h
    rw [show d + 1 + e = (d + e) + 1 by omega]
    unfold tk
    cases g k with
    | none => exact ih e (k + 1) gone (by omega)
    | some p => dsimp only; rw [ih e (k + 1) (gone + t p) (by omega)]
theorem tk_more {g g2 : Nat → Option Nat} {t : Nat → Nat} {x n : Nat} (h1 : ∀ k, k < n → g2 k = g k ∨ (g k = none ∧ ∃ p, g2 k = some p ∧ t p = 0)) : ∀ d k gone, k + d ≤ n → gone ≤ x → tk g2 t x d k gone = tk g t x d k gone := by
  intro d
  induction d with
  | zero => intro _ _ _ _; rfl
  | succ d ih =>
    intro k gone hk hg
    unfold tk
    rcases h1 k (by omega) with e | ⟨e1, p, e2, e3⟩
    · rw [e]
      cases g k with
      | none => exact ih (k + 1) gone (by omega) hg
      | some p =>
        dsimp only
        by_cases q : x < gone + t p
        · rw [if_pos q, if_pos q]
        · rw [if_neg q, if_neg q]; exact ih (k + 1) _ (by omega) (by omega)
    · rw [e1, e2]
      dsimp only
      rw [e3, if_neg (by omega)]
      exact ih (k + 1) _ (by omega) (by omega)
section LED
variable {μ ν : Mem} {co : Co} {r : Ro} {U : Un} {T : Tx} {fp : Int32} {sd : Nat} {I : Im} {G K : Gt}
theorem F_takerOf {side fog i : Nat} {Q : Int32 → Prop} (hv : vCo co) (hr : vRo co r 9060) (hfog : fog ≤ 99) (hi : i < 100) (hb : Blown μ co r (hs co (r 0)) side fog) (h : Q (optI (tk (gO co r (hs co (r 0)) side) (lead co r (hs co (r 0)) side fog).2 i 12 0 0))) : w_X5_takerOf (nI i) μ Q := by
  have hn := hv.2.2.2.1
  unfold w_X5_takerOf w_X5_takerOf_4
  intro X hX
  refine cnt_dn (P := fun k => ∀ gone, gone ≤ 99 * k → Q (optI (tk (gO co r (hs co (r 0)) side) (lead co r (hs co (r 0)) side fog).2 i (12 - k) k gone)) → X (nI gone) (nI k)) 12 ?_ ?_ 0 (by omega) h
  · intro gone _ hq
    apply hX
    unfold s_X5_takerOf_4
    exact ⟨fun _ => hq, fun q => absurd (by decide) q⟩
  · intro k hk ih gone hg hq
    rw [tk_step hk] at hq
    apply hX
    unfold s_X5_takerOf_4 w_X5_takerOf_47
    rw [z_le (by decide) (by omega)]
    refine ⟨fun q => absurd hk (by omega), fun _ => ⟨vp_in_nI (by omega) (by decide), fun x1 e1 => ?_⟩⟩
    rw [z_cl (by omega), hb.2.2 k hk] at e1
    subst e1
    cases e : gO co r (hs co (r 0)) side k with
    | none =>
      rw [e] at hq
      refine ⟨fun z => absurd rfl z, fun _ => ?_⟩
      simp (disch := omega) only [z_le, z_lt, z_eq, z_lt0, z_0le, z_eq0, z_le0, z_0lt, z_cl, z_in, z_add, z_mul, z_m1ne, z_m1ne', z_m1lt0, z_m1lt, z_ltm1, forall_eq, true_implies, false_implies, implies_true, true_and, and_true, false_and, and_false, not_true_eq_false, not_false_eq_true, ite_true, ite_false]
      exact ih gone (by omega) hq
    | some p =>
      rw [e] at hq
      dsimp only at hq
      have hp : p < co 0 3 := by
        unfold gO at e
        split at e
        · exact (gAt_some e).1
        · cases e
      have hle := lead_le (set := hs co (r 0)) (side := side) (fog := fog) (p := p) hr
      unfold optI
      dsimp only
      refine ⟨fun _ => ?_, fun z => absurd z (by rw [z_m1ne (by omega)]; exact id)⟩
      refine F_at (n := 6) (by decide) (by decide) (by omega) ?_
      rw [hb.1 p (by omega)]
      simp (disch := omega) only [z_le, z_lt, z_eq, z_lt0, z_0le, z_eq0, z_le0, z_0lt, z_cl, z_in, z_add, z_mul, z_m1ne, z_m1ne', z_m1lt0, z_m1lt, z_ltm1, forall_eq, true_implies, false_implies, implies_true, true_and, and_true, false_and, and_false, not_true_eq_false, not_false_eq_true, ite_true, ite_false]
      refine ⟨fun q => ?_, fun q => ?_⟩
      · rw [if_neg (by omega)] at hq
        exact ih _ (by omega) hq
      · rw [if_pos (by omega)] at hq
        exact hq
end LED
/-! a goat's way -/
def way (c a : Nat) : Nat := if a < c then c - a else a - c
def ydn (s : Bs) (p w : Nat) : Bs := match s with
  | none => some (p, w)
  | some q => if w < q.2 then some (p, w) else some q
def yd (co : Co) (r : Ro) (c : Nat) : Nat → Bs
  | 0 => none
  | a + 1 => match pin (fun p => r (15 + p)) a (co 0 3) with
    | none => yd co r c a
    | some p => if 0 < r (9 + p) then ydn (yd co r c a) p (way c a) else yd co r c a
theorem z_abs : ∀ a, a < 12 → ∀ c, c < 12 → (if 0 ≤ (nI a - nI c) then (nI a - nI c) else 0 - (nI a - nI c)) = nI (way c a) := by decide +kernel
theorem way_lt {c a : Nat} (h1 : c < 12) (h2 : a < 12) : way c a < 12 := by unfold way; split <;> omega
theorem yd_ok {co : Co} {r : Ro} {c : Nat} (hc : c < 12) (hn : co 0 3 ≤ 6) : ∀ a, a ≤ 12 → ∀ q, yd co r c a = some q → q.1 < 6 ∧ q.2 < 12 := by
  intro a
  induction a with
  | zero => intro _ q hq; cases hq
  | succ a ih =>
    intro ha q hq
    unfold yd at hq
    cases e : pin (fun p => r (15 + p)) a (co 0 3) with
    | none => rw [e] at hq; exact ih (by omega) q hq
    | some p =>
      rw [e] at hq
      dsimp only at hq
      have hp := (pin_some e).1
      have hw := way_lt hc (show a < 12 by omega)
      split at hq
      · unfold ydn at hq
        cases e2 : yd co r c a with
        | none => rw [e2] at hq; cases hq; exact ⟨by omega, hw⟩
        | some t =>
          rw [e2] at hq
          dsimp only at hq
          split at hq
          · cases hq; exact ⟨by omega, hw⟩
          · cases hq; exact ih (by omega) _ e2
      · exact ih (by omega) q hq
def i3 (s : Bs) : Int32 := match s with
  | none => nI 100000000
  | some q => nI q.2
/-! odds -/
def odd (b : Int32) : Nat → Int64
  | 0 => lN 1000000000
  | i + 1 => (odd b i * b.toInt64) / (lN 100)
