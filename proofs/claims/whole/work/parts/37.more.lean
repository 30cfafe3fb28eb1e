/-! ===== led, yards, clear, thirsty ===== -/
theorem MW_upto_in {p n : Nat} {μ : Mem} {Q : Int32 → Prop} (hp : p < n) (hn : n < 2147483648) (h : Q (nI 1)) : w_X7_in (nI p) (nI 0) (nI n - nI 1) μ Q := W_upto_in (μ := μ) hp hn h
theorem MW_upto_out {a : Int32} {n : Nat} {μ : Mem} {Q : Int32 → Prop} (ha : ∀ p, p < n → a ≠ nI p) (hn : n < 2147483648) (h : Q (nI 0)) : w_X7_in a (nI 0) (nI n - nI 1) μ Q := W_upto_out (μ := μ) ha hn h
def tk (g : Nat → Option Nat) (t : Nat → Nat) (x : Nat) : Nat → Nat → Nat → Option Nat
  | 0, _, _ => none
  | d + 1, k, gone => match g k with
    | none => tk g t x d (k + 1) gone
    | some p => if x < gone + t p then some p else tk g t x d (k + 1) (gone + t p)
theorem tk_step {g : Nat → Option Nat} {t : Nat → Nat} {x N k gone : Nat} (h : k < N) : tk g t x (N - k) k gone = match g k with
    | none => tk g t x (N - (k + 1)) (k + 1) gone
    | some p => if x < gone + t p then some p else tk g t x (N - (k + 1)) (k + 1) (gone + t p) := by
  rw [show N - k = (N - (k + 1)) + 1 by omega]; rfl
theorem tk_none {g : Nat → Option Nat} {t : Nat → Nat} {x n : Nat} (hg : ∀ k, n ≤ k → g k = none) : ∀ d k gone, n ≤ k → tk g t x d k gone = none := by
  intro d
  induction d with
  | zero => intro _ _ _; rfl
  | succ d ih => intro k gone hk; unfold tk; rw [hg k hk]; exact ih (k + 1) gone (by omega)
theorem tk_end {g : Nat → Option Nat} {t : Nat → Nat} {x n : Nat} (hg : ∀ k, n ≤ k → g k = none) : ∀ d e k gone, n ≤ k + d → tk g t x (d + e) k gone = tk g t x d k gone := by
  intro d
  induction d with
  | zero => intro e k gone h; rw [Nat.zero_add]; exact tk_none hg e k gone (by omega)
  | succ d ih =>
    intro e k gone h
    rw [show d + 1 + e = (d + e) + 1 by omega]
    unfold tk
    cases g k with
    | none => exact ih e (k + 1) gone (by omega)
    | some p => dsimp only; rw [ih e (k + 1) (gone + t p) (by omega)]
theorem tk_more {g g2 : Nat → Option Nat} {t : Nat → Nat} {x n : Nat} (h1 : ∀ k, k < n → g2 k = g k ∨ (g k = none ∧ ∃ p, g2 k = some p ∧ t p = 0)) : ∀ d k gone, k + d ≤ n → gone ≤ x → tk g2 t x d k gone = tk g t x d k gone := by
  intro d
  induction d with
  | zero => intro _ _ _ _; rfl
  | succ d ih =>
    intro k gone hk hg
    unfold tk
    rcases h1 k (by omega) with e | ⟨e1, p, e2, e3⟩
    · rw [e]
      cases g k with
      | none => exact ih (k + 1) gone (by omega) hg
      | some p =>
        dsimp only
        by_cases q : x < gone + t p
        · rw [if_pos q, if_pos q]
        · rw [if_neg q, if_neg q]; exact ih (k + 1) _ (by omega) (by omega)
    · rw [e1, e2]
      dsimp only
      rw [e3, if_neg (by omega)]
      exact ih (k + 1) _ (by omega) (by omega)
section LED
variable {μ ν : Mem} {co : Co} {r : Ro} {U : Un} {T : Tx} {fp : Int32} {sd : Nat} {I : Im} {G K : Gt}
theorem F_takerOf {side fog i : Nat} {Q : Int32 → Prop} (hv : vCo co) (hr : vRo co r 9060) (hfog : fog ≤ 99) (hi : i < 100) (hb : Blown μ co r (hs co (r 0)) side fog) (h : Q (optI (tk (gO co r (hs co (r 0)) side) (lead co r (hs co (r 0)) side fog).2 i 12 0 0))) : w_X5_takerOf (nI i) μ Q := by
  have hn := hv.2.2.2.1
  unfold w_X5_takerOf w_X5_takerOf_4
  intro X hX
  refine cnt_dn (P := fun k => ∀ gone, gone ≤ 99 * k → Q (optI (tk (gO co r (hs co (r 0)) side) (lead co r (hs co (r 0)) side fog).2 i (12 - k) k gone)) → X (nI gone) (nI k)) 12 ?_ ?_ 0 (by omega) h
  · intro gone _ hq
    apply hX
    unfold s_X5_takerOf_4
    exact ⟨fun _ => hq, fun q => absurd (by decide) q⟩
  · intro k hk ih gone hg hq
    rw [tk_step hk] at hq
    apply hX
    unfold s_X5_takerOf_4 w_X5_takerOf_47
    rw [z_le (by decide) (by omega)]
    refine ⟨fun q => absurd hk (by omega), fun _ => ⟨vp_in_nI (by omega) (by decide), fun x1 e1 => ?_⟩⟩
    rw [z_cl (by omega), hb.2.2 k hk] at e1
    subst e1
    cases e : gO co r (hs co (r 0)) side k with
    | none =>
      rw [e] at hq
      refine ⟨fun z => absurd rfl z, fun _ => ?_⟩
      simp (disch := omega) only [z_le, z_lt, z_eq, z_lt0, z_0le, z_eq0, z_le0, z_0lt, z_cl, z_in, z_add, z_mul, z_m1ne, z_m1ne', z_m1lt0, z_m1lt, z_ltm1, forall_eq, true_implies, false_implies, implies_true, true_and, and_true, false_and, and_false, not_true_eq_false, not_false_eq_true, ite_true, ite_false]
      exact ih gone (by omega) hq
    | some p =>
      rw [e] at hq
      dsimp only at hq
      have hp : p < co 0 3 := by
        unfold gO at e
        split at e
        · exact (gAt_some e).1
        · cases e
      have hle := lead_le (set := hs co (r 0)) (side := side) (fog := fog) (p := p) hr
      unfold optI
      dsimp only
      refine ⟨fun _ => ?_, fun z => absurd z (by rw [z_m1ne (by omega)]; exact id)⟩
      refine F_at (n := 6) (by decide) (by decide) (by omega) ?_
      rw [hb.1 p (by omega)]
      simp (disch := omega) only [z_le, z_lt, z_eq, z_lt0, z_0le, z_eq0, z_le0, z_0lt, z_cl, z_in, z_add, z_mul, z_m1ne, z_m1ne', z_m1lt0, z_m1lt, z_ltm1, forall_eq, true_implies, false_implies, implies_true, true_and, and_true, false_and, and_false, not_true_eq_false, not_false_eq_true, ite_true, ite_false]
      refine ⟨fun q => ?_, fun q => ?_⟩
      · rw [if_neg (by omega)] at hq
        exact ih _ (by omega) hq
      · rw [if_pos (by omega)] at hq
        exact hq
theorem M_led {side fog i : Nat} {Q : Int32 → Mem → Prop} (hA : VA co r U T sd I G K) (hM : RM ν co r U T fp sd I G K) (hside : side ≤ 1) (hfog : fog ≤ 99) (hi : i < 100) (ht : ∀ p, p < co 0 3 → ν.1 16 p = nI ((lead co r (hs co (r 0)) side fog).2 p))
    (h : Q (optI (tk (fun k => pin (fun p => r (15 + p)) (posn co side k) (co 0 3)) (lead co r (hs co (r 0)) side fog).2 i (co 0 0) 0 0)) ν) : w_X7_led_74 (nI fog) (nI side) (nI i) (nI 0) (nI 0) ν Q := by
  have hv := hA.1
  have hr := hA.2.1
  have hcc := hv.1
  have hn := hv.2.2.2.1
  have e18 := hM.1.1.2.1
  unfold w_X7_led_74
  intro X hX
  refine cnt_dn (P := fun k => ∀ gone, gone ≤ 99 * k → Q (optI (tk (fun k => pin (fun p => r (15 + p)) (posn co side k) (co 0 3)) (lead co r (hs co (r 0)) side fog).2 i (co 0 0 - k) k gone)) ν → X (nI gone) (nI k)) (co 0 0) ?_ ?_ 0 (by omega) h
  · intro gone _ hq
    apply hX
    unfold s_X7_led_74
    rw [e18]
    rw [Nat.sub_self] at hq
    exact ⟨fun _ => hq, fun q => absurd ((z_le (by omega) (by omega)).mpr (Nat.le_refl _)) q⟩
  · intro k hk ih gone hg hq
    rw [tk_step hk] at hq
    have body : w_X7_led_106 (nI fog) (nI side) (nI i) X (nI gone) (nI k) (nI (posn co side k)) ν Q := by
      have hpos : posn co side k < 100 := by unfold posn; split <;> omega
      unfold w_X7_led_106
      refine M_pin hA hM hpos ?_
      cases e : pin (fun p => r (15 + p)) (posn co side k) (co 0 3) with
      | none =>
        rw [e] at hq
        refine ⟨fun _ => ?_, fun z => absurd rfl z⟩
        unfold w_X7_led_134 w_X7_led_153
        refine ⟨fun z => absurd rfl z, fun _ => ?_⟩
        simp (disch := omega) only [z_le, z_lt, z_eq, z_lt0, z_0le, z_eq0, z_le0, z_0lt, z_cl, z_in, z_add, z_mul, z_m1ne, z_m1ne', z_m1lt0, z_m1lt, z_ltm1, forall_eq, true_implies, false_implies, implies_true, true_and, and_true, false_and, and_false, not_true_eq_false, not_false_eq_true, ite_true, ite_false]
        exact ih gone (by omega) hq
      | some p =>
        rw [e] at hq
        dsimp only at hq
        have hp := (pin_some e).1
        have hle := lead_le (set := hs co (r 0)) (side := side) (fog := fog) (p := p) hr
        have e16 := ht p hp
        unfold optI
        dsimp only
        simp (disch := omega) only [z_le, z_lt, z_eq, z_lt0, z_0le, z_eq0, z_le0, z_0lt, z_cl, z_in, z_add, z_mul, z_m1ne, z_m1ne', z_m1lt0, z_m1lt, z_ltm1, forall_eq, true_implies, false_implies, implies_true, true_and, and_true, false_and, and_false, not_true_eq_false, not_false_eq_true, ite_true, ite_false, e16]
        refine ⟨by omega, fun q => ?_, fun q => ?_⟩
        · rw [if_neg (by omega)] at hq
          unfold w_X7_led_134 w_X7_led_153
          simp (disch := omega) only [z_le, z_lt, z_eq, z_lt0, z_0le, z_eq0, z_le0, z_0lt, z_cl, z_in, z_add, z_mul, z_m1ne, z_m1ne', z_m1lt0, z_m1lt, z_ltm1, forall_eq, true_implies, false_implies, implies_true, true_and, and_true, false_and, and_false, not_true_eq_false, not_false_eq_true, ite_true, ite_false, e16]
          exact ⟨by omega, ih _ (by omega) hq⟩
        · rw [if_pos (by omega)] at hq
          exact hq
    apply hX
    unfold s_X7_led_74
    rw [e18, z_le (by omega) (by omega)]
    refine ⟨fun q => absurd hk (by omega), fun _ => ⟨fun q => ?_, fun q => ?_⟩⟩
    · rw [z_eq0 (by omega)] at q
      have ep : posn co side k = co 0 0 - 1 - k := by unfold posn; rw [if_neg q]
      rw [ep] at body
      rw [z_sub (by omega), z_sub (by omega)]
      exact body
    · rw [z_eq0 (by omega)] at q
      have ep : posn co side k = k := by unfold posn; rw [if_pos q]
      rw [ep] at body
      exact body
end LED
theorem P_led {μ ν : Mem} {a b c : Int32} (h : Rel μ ν) : w_X6_led a b c μ (fun x μ' => w_X7_led a b c ν (fun y ν' => x = y ∧ Rel μ' ν')) := by
  obtain ⟨co, r, U, T, fp, sd, I, G, K, hA, hF, hM⟩ := h
  have hv := hA.1
  have hr := hA.2.1
  have hcc := hv.1
  have h64 := hs_64 (d := r 0) hv
  have no : ∀ {Q : Int32 → Mem → Prop} {a b c : Int32}, Q (-1000000002) ν → w_X7_led_35 a b c ν Q := by
    intro Q a b c hq
    unfold w_X7_led_35 w_X7_led_36
    exact M_need0 ⟨fun z => absurd z (by decide), fun _ => hq⟩
  unfold w_X6_led w_X7_led
  rcases z_cases a 0 99 (by decide) (by decide) with ⟨x, a1, a2, rfl⟩ | ha
  · refine W_in a1 a2 (by decide) ⟨fun z => absurd z (by decide), fun _ => ?_⟩
    rcases z_cases b 0 1 (by decide) (by decide) with ⟨s, s1, s2, rfl⟩ | hb
    · refine W_in s1 s2 (by decide) ⟨fun z => absurd z (by decide), fun _ => ?_⟩
      rcases upto c x with ⟨i, hi, rfl⟩ | hc
      · refine W_upto_in hi (by omega) ⟨fun _ => F_isBare hF hv ?_, fun z => absurd z (by decide)⟩
        by_cases hc : co 0 0 = 0
        · rw [if_pos hc]
          refine ⟨fun z => absurd z (by decide), fun _ => ?_⟩
          refine MW_in a1 a2 (by decide) ⟨fun z => absurd z (by decide), fun _ => MW_in s1 s2 (by decide) ⟨fun z => absurd z (by decide), fun _ => ?_⟩⟩
          refine MW_upto_in hi (by omega) ⟨fun z => absurd z (by decide), fun _ => ?_⟩
          unfold w_X7_led_36
          refine M_need1 hM ?_
          rw [if_pos hc]
          exact ⟨fun z => absurd z (by decide), fun _ => done hA hF hM⟩
        · rw [if_neg hc]
          refine ⟨fun _ => F_hang hA hF ?_, fun z => absurd (by decide) z⟩
          rw [hF.2.1.1.1]
          refine F_blowN hA hF h64 (fun q hq => hs_in hq) s2 a2 (fun μ1 f1 b1 => ?_)
          refine F_takerOf hv hr a2 (by omega) b1 ?_
          refine MW_in a1 a2 (by decide) ⟨fun z => absurd z (by decide), fun _ => MW_in s1 s2 (by decide) ⟨fun z => absurd z (by decide), fun _ => ?_⟩⟩
          refine MW_upto_in hi (by omega) ⟨fun z => absurd z (by decide), fun _ => ?_⟩
          unfold w_X7_led_36
          refine M_need1 hM ?_
          rw [if_neg hc]
          refine ⟨fun _ => M_hang hA hM ?_, fun z => absurd (by decide) z⟩
          refine M_leadN hA hM h64 s2 a2 (fun ν1 m1 t1 => ?_)
          refine M_led hA m1 s2 a2 (by omega) t1 ?_
          have e1 := tk_end (g := gO co r (hs co (r 0)) s) (t := (lead co r (hs co (r 0)) s x).2) (x := i) (n := co 0 0) (fun k hk => by unfold gO; rw [if_neg (by omega)]) (co 0 0) (12 - co 0 0) 0 0 (by omega)
          rw [show co 0 0 + (12 - co 0 0) = 12 by omega] at e1
          have e2 := tk_more (g := gO co r (hs co (r 0)) s) (g2 := fun k => pin (fun p => r (15 + p)) (posn co s k) (co 0 3)) (t := (lead co r (hs co (r 0)) s x).2) (x := i) (n := co 0 0) (fun k hk => by
            show pin (fun p => r (15 + p)) (posn co s k) (co 0 3) = _ ∨ _
            unfold gO
            rw [if_pos hk]
            cases e : pin (fun p => r (15 + p)) (posn co s k) (co 0 3) with
            | none => left; unfold gAt; rw [e]
            | some p =>
              cases e2 : bitN (hs co (r 0)) p with
              | true => left; unfold gAt; rw [e]; dsimp only; rw [if_pos e2]
              | false =>
                right
                refine ⟨?_, p, rfl, lead_not e2⟩
                unfold gAt; rw [e]; dsimp only; rw [e2]; rfl) (co 0 0) 0 0 (by omega) (by omega)
          rw [e1, e2]
          exact done hA f1 m1
      · refine W_upto_out hc (by omega) ⟨fun z => absurd (by decide) z, fun _ => ?_⟩
        refine MW_in a1 a2 (by decide) ⟨fun z => absurd z (by decide), fun _ => MW_in s1 s2 (by decide) ⟨fun z => absurd z (by decide), fun _ => ?_⟩⟩
        refine MW_upto_out hc (by omega) ⟨fun _ => no (done hA hF hM), fun z => absurd (by decide) z⟩
    · refine F_within0 hb ⟨fun _ => ?_, fun z => absurd (by decide) z⟩
      refine MW_in a1 a2 (by decide) ⟨fun z => absurd z (by decide), fun _ => MW_out hb ⟨fun _ => no (done hA hF hM), fun z => absurd (by decide) z⟩⟩
  · refine F_within0 ha ⟨fun _ => ?_, fun z => absurd (by decide) z⟩
    exact MW_out ha ⟨fun _ => no (done hA hF hM), fun z => absurd (by decide) z⟩
/-! a goat's way -/
def way (c a : Nat) : Nat := if a < c then c - a else a - c
def ydn (s : Bs) (p w : Nat) : Bs := match s with
  | none => some (p, w)
  | some q => if w < q.2 then some (p, w) else some q
def yd (co : Co) (r : Ro) (c : Nat) : Nat → Bs
  | 0 => none
  | a + 1 => match pin (fun p => r (15 + p)) a (co 0 3) with
    | none => yd co r c a
    | some p => if 0 < r (9 + p) then ydn (yd co r c a) p (way c a) else yd co r c a
theorem z_abs : ∀ a, a < 12 → ∀ c, c < 12 → (if 0 ≤ (nI a - nI c) then (nI a - nI c) else 0 - (nI a - nI c)) = nI (way c a) := by decide +kernel
theorem way_lt {c a : Nat} (h1 : c < 12) (h2 : a < 12) : way c a < 12 := by unfold way; split <;> omega
theorem yd_ok {co : Co} {r : Ro} {c : Nat} (hc : c < 12) (hn : co 0 3 ≤ 6) : ∀ a, a ≤ 12 → ∀ q, yd co r c a = some q → q.1 < 6 ∧ q.2 < 12 := by
  intro a
  induction a with
  | zero => intro _ q hq; cases hq
  | succ a ih =>
    intro ha q hq
    unfold yd at hq
    cases e : pin (fun p => r (15 + p)) a (co 0 3) with
    | none => rw [e] at hq; exact ih (by omega) q hq
    | some p =>
      rw [e] at hq
      dsimp only at hq
      have hp := (pin_some e).1
      have hw := way_lt hc (show a < 12 by omega)
      split at hq
      · unfold ydn at hq
        cases e2 : yd co r c a with
        | none => rw [e2] at hq; cases hq; exact ⟨by omega, hw⟩
        | some t =>
          rw [e2] at hq
          dsimp only at hq
          split at hq
          · cases hq; exact ⟨by omega, hw⟩
          · cases hq; exact ih (by omega) _ e2
      · exact ih (by omega) q hq
def i3 (s : Bs) : Int32 := match s with
  | none => nI 100000000
  | some q => nI q.2
theorem P_yards {μ ν : Mem} {a b : Int32} (h : Rel μ ν) : w_X6_yards a b μ (fun x => w_X7_yards a b ν (fun y => x = y)) := by
  obtain ⟨co, r, U, T, fp, sd, I, G, K, hA, hF, hM⟩ := h
  have hv := hA.1
  have hr := hA.2.1
  have hcc := hv.1
  have hn := hv.2.2.2.1
  have hgm := hv.2.2.2.2.1
  have e0 := hF.2.1.1.1
  have e18 := hM.1.1.2.1
  have e22 := hM.1.1.2.2.2.2.2
  have hrp := hr.2.2.2.2.2.2.2.2.2.1
  have hsz := hv.2.2.2.2.2.2.2.2.1
  unfold w_X6_yards w_X7_yards
  rw [e22]
  rcases upto a (co 0 4) with ⟨g, hg, rfl⟩ | ho
  · have hcl := (hv.2.2.2.2.2.2.2.2.2.2 g hg).1
    have e9 := (hF.2.1.2.2.2.2.2.2 g hg).1
    have e11 := (hM.1.2.2.2.2 g hg).1
    refine F_isGoat_in hF hv hg ⟨fun _ => ?_, fun z => absurd z (by decide)⟩
    rcases z_cases b 0 1 (by decide) (by decide) with ⟨w, h1, h2, rfl⟩ | hb
    · refine W_in h1 h2 (by decide) ⟨fun _ => ?_, fun z => absurd z (by decide)⟩
      refine F_at (n := 4) (co_n9 hF.1.1) (by decide) (by omega) ?_
      rw [e9]
      have key : ∀ Q : Int32 → Prop, Q (if w = 0 then i2 (yd co r (co 7 g) (co 0 0)) else i1 (yd co r (co 7 g) (co 0 0))) → w_X6_yards_44 (nI g) (nI w) (nI (co 7 g)) (-1) (-1) (nI 0) μ Q := by
        intro Q hQ
        unfold w_X6_yards_44
        intro X hX
        refine cnt_dn (P := fun i => i ≤ co 0 0 → X (i1 (yd co r (co 7 g) i)) (i2 (yd co r (co 7 g) i)) (nI i)) (co 0 0) ?_ ?_ (by omega)
        · intro _
          apply hX
          unfold s_X6_yards_44 w_X6_yards_131
          rw [e0, z_le (by omega) (by omega), z_eq0 (by omega)]
          refine ⟨fun _ => ⟨fun q => ?_, fun q => ?_⟩, fun q => absurd (Nat.le_refl _) q⟩
          · rw [if_neg q] at hQ; exact hQ
          · rw [if_pos q] at hQ; exact hQ
        · intro i hi ih _
          have ih := ih (by omega)
          apply hX
          unfold s_X6_yards_44 w_X6_yards_117 w_X6_yards_125
          rw [e0, z_le (by omega) (by omega), z_le (by decide) (by omega)]
          refine ⟨fun q => absurd hi (by omega), fun _ => ⟨fun q => absurd q (by omega), fun _ => F_pin hA hF (by omega) ?_⟩⟩
          rw [z_abs i (by omega) (co 7 g) (by omega)]
          intro x11 hx11
          subst hx11
          cases e : pin (fun p => r (15 + p)) i (co 0 3) with
          | none =>
            have ey : yd co r (co 7 g) (i + 1) = yd co r (co 7 g) i := by
              show (match pin (fun p => r (15 + p)) i (co 0 3) with
                | none => yd co r (co 7 g) i
                | some p => if 0 < r (9 + p) then ydn (yd co r (co 7 g) i) p (way (co 7 g) i) else yd co r (co 7 g) i) = _
              rw [e]
            rw [ey] at ih
            refine ⟨fun _ => ?_, fun z => absurd rfl z⟩
            simp (disch := omega) only [z_le, z_lt, z_eq, z_lt0, z_0le, z_eq0, z_le0, z_0lt, z_cl, z_in, z_add, z_mul, z_m1ne, z_m1ne', z_m1lt0, z_m1lt, z_ltm1, forall_eq, true_implies, false_implies, implies_true, true_and, and_true, false_and, and_false, not_true_eq_false, not_false_eq_true, ite_true, ite_false]
            exact ih
          | some p =>
            have hp := (pin_some e).1
            have ey : yd co r (co 7 g) (i + 1) = if 0 < r (9 + p) then ydn (yd co r (co 7 g) i) p (way (co 7 g) i) else yd co r (co 7 g) i := by
              show (match pin (fun p => r (15 + p)) i (co 0 3) with
                | none => yd co r (co 7 g) i
                | some p => if 0 < r (9 + p) then ydn (yd co r (co 7 g) i) p (way (co 7 g) i) else yd co r (co 7 g) i) = _
              rw [e]
            rw [ey] at ih
            have hj := hrp p hp
            have hs9 := hsz p hp
            refine ⟨fun z => absurd z (by unfold optI; dsimp only; rw [z_m1ne (by omega)]; exact id), fun _ => ?_⟩
            unfold optI
            dsimp only
            refine F_at (n := 6) (st_n3 st_25) (by decide) (by omega) ?_
            rw [(hF.2.2.2.1.2.1 p hp).2.2]
            simp (disch := omega) only [z_le, z_lt, z_eq, z_lt0, z_0le, z_eq0, z_le0, z_0lt, z_cl, z_in, z_add, z_mul, z_m1ne, z_m1ne', z_m1lt0, z_m1lt, z_ltm1, forall_eq, true_implies, false_implies, implies_true, true_and, and_true, false_and, and_false, not_true_eq_false, not_false_eq_true, ite_true, ite_false]
            refine ⟨fun q => ?_, fun q => ?_⟩
            · rw [if_neg (by omega)] at ih
              exact ih
            · rw [if_pos (by omega)] at ih
              unfold ydn at ih
              have hw := way_lt (c := co 7 g) (a := i) (by omega) (by omega)
              cases e2 : yd co r (co 7 g) i with
              | none =>
                rw [e2] at ih
                exact ⟨fun _ => ih, fun z => absurd rfl z⟩
              | some t =>
                rw [e2] at ih
                dsimp only at ih
                have ht := yd_ok (r := r) (c := co 7 g) (by omega) hn i (by omega) t e2
                unfold i1 i2
                dsimp only
                simp (disch := omega) only [z_le, z_lt, z_eq, z_lt0, z_0le, z_eq0, z_le0, z_0lt, z_cl, z_in, z_add, z_mul, z_m1ne, z_m1ne', z_m1lt0, z_m1lt, z_ltm1, forall_eq, true_implies, false_implies, implies_true, true_and, and_true, false_and, and_false, not_true_eq_false, not_false_eq_true, ite_true, ite_false]
                refine ⟨fun q2 => ?_, fun q2 => ?_⟩
                · rw [if_neg (by omega)] at ih
                  exact ih
                · rw [if_pos (by omega)] at ih
                  exact ih
      have key2 : ∀ Q : Int32 → Prop, Q (if w = 0 then i2 (yd co r (co 7 g) (co 0 0)) else i1 (yd co r (co 7 g) (co 0 0))) → w_X7_yards_39 (nI g) (nI w) (-1) (nI 100000000) (nI 0) ν Q := by
        intro Q hQ
        unfold w_X7_yards_39
        intro X hX
        refine cnt_dn (P := fun i => i ≤ co 0 0 → X (i1 (yd co r (co 7 g) i)) (i3 (yd co r (co 7 g) i)) (nI i)) (co 0 0) ?_ ?_ (by omega)
        · intro _
          apply hX
          unfold s_X7_yards_39 w_X7_yards_165
          rw [e18, z_le (by omega) (by omega), z_eq0 (by omega)]
          refine ⟨fun _ => ?_, fun q => absurd (Nat.le_refl _) q⟩
          cases e2 : yd co r (co 7 g) (co 0 0) with
          | none =>
            rw [e2] at hQ
            unfold i1 i2 at hQ
            dsimp only at hQ
            refine ⟨fun z => absurd rfl z, fun _ => ?_⟩
            split at hQ <;> exact hQ
          | some t =>
            rw [e2] at hQ
            have ht := yd_ok (r := r) (c := co 7 g) (by omega) hn (co 0 0) (by omega) t e2
            refine ⟨fun _ => ⟨fun q => ?_, fun q => ?_⟩, fun z => absurd z (by unfold i1; dsimp only; rw [z_m1ne (by omega)]; exact id)⟩
            · rw [if_neg q] at hQ; exact hQ
            · rw [if_pos q] at hQ; exact hQ
        · intro i hi ih _
          have ih := ih (by omega)
          apply hX
          unfold s_X7_yards_39
          rw [e18, z_le (by omega) (by omega)]
          refine ⟨fun q => absurd hi (by omega), fun _ => M_pin hA hM (by omega) ?_⟩
          have hw := way_lt (c := co 7 g) (a := i) (by omega) (by omega)
          have body : w_X7_yards_98 (nI g) (nI w) X (i1 (yd co r (co 7 g) i)) (i3 (yd co r (co 7 g) i)) (nI i) (optI (pin (fun p => r (15 + p)) i (co 0 3))) (nI (way (co 7 g) i)) ν Q := by
            unfold w_X7_yards_98 w_X7_yards_130 w_X7_yards_131 w_X7_yards_144 w_X7_yards_157
            cases e : pin (fun p => r (15 + p)) i (co 0 3) with
            | none =>
              have ey : yd co r (co 7 g) (i + 1) = yd co r (co 7 g) i := by
                show (match pin (fun p => r (15 + p)) i (co 0 3) with
                  | none => yd co r (co 7 g) i
                  | some p => if 0 < r (9 + p) then ydn (yd co r (co 7 g) i) p (way (co 7 g) i) else yd co r (co 7 g) i) = _
                rw [e]
              rw [ey] at ih
              refine ⟨fun _ => ?_, fun z => absurd rfl z⟩
              simp (disch := omega) only [z_le, z_lt, z_eq, z_lt0, z_0le, z_eq0, z_le0, z_0lt, z_cl, z_in, z_add, z_mul, z_m1ne, z_m1ne', z_m1lt0, z_m1lt, z_ltm1, forall_eq, true_implies, false_implies, implies_true, true_and, and_true, false_and, and_false, not_true_eq_false, not_false_eq_true, ite_true, ite_false]
              exact ih
            | some p =>
              have hp := (pin_some e).1
              have ey : yd co r (co 7 g) (i + 1) = if 0 < r (9 + p) then ydn (yd co r (co 7 g) i) p (way (co 7 g) i) else yd co r (co 7 g) i := by
                show (match pin (fun p => r (15 + p)) i (co 0 3) with
                  | none => yd co r (co 7 g) i
                  | some p => if 0 < r (9 + p) then ydn (yd co r (co 7 g) i) p (way (co 7 g) i) else yd co r (co 7 g) i) = _
                rw [e]
              rw [ey] at ih
              have hj := hrp p hp
              have hs9 := hsz p hp
              have e14 := hM.2.1 (9 + p) (by omega)
              refine ⟨fun z => absurd z (by unfold optI; dsimp only; rw [z_m1ne (by omega)]; exact id), fun _ => ?_⟩
              unfold optI
              dsimp only
              simp (disch := omega) only [z_le, z_lt, z_eq, z_lt0, z_0le, z_eq0, z_le0, z_0lt, z_cl, z_in, z_add, z_mul, z_m1ne, z_m1ne', z_m1lt0, z_m1lt, z_ltm1, forall_eq, true_implies, false_implies, implies_true, true_and, and_true, false_and, and_false, not_true_eq_false, not_false_eq_true, ite_true, ite_false, e14]
              refine ⟨by omega, fun q => ?_, fun q => ?_⟩
              · rw [if_neg (by omega)] at ih
                exact ih
              · rw [if_pos (by omega)] at ih
                unfold ydn at ih
                cases e2 : yd co r (co 7 g) i with
                | none =>
                  rw [e2] at ih
                  unfold i3
                  dsimp only
                  refine ⟨fun z => absurd ((z_le (by decide) (by omega)).mp z) (by omega), fun _ => ⟨fun z => absurd z (by decide), fun _ => ⟨fun z => absurd z (by decide), fun _ => ih⟩⟩⟩
                | some t =>
                  rw [e2] at ih
                  dsimp only at ih
                  have ht := yd_ok (r := r) (c := co 7 g) (by omega) hn i (by omega) t e2
                  unfold i1 i3
                  dsimp only
                  rw [z_le (by omega) (by omega)]
                  refine ⟨fun q2 => ?_, fun q2 => ?_⟩
                  · rw [if_neg (by omega)] at ih
                    exact ih
                  · rw [if_pos (by omega)] at ih
                    exact ⟨fun z => absurd z (by decide), fun _ => ⟨fun z => absurd z (by decide), fun _ => ih⟩⟩
          simp (disch := omega) only [z_le, z_lt, z_eq, z_lt0, z_0le, z_eq0, z_le0, z_0lt, z_cl, z_in, z_add, z_mul, z_m1ne, z_m1ne', z_m1lt0, z_m1lt, z_ltm1, forall_eq, true_implies, false_implies, implies_true, true_and, and_true, false_and, and_false, not_true_eq_false, not_false_eq_true, ite_true, ite_false, e11]
          refine ⟨by omega, fun q => ⟨by omega, ?_⟩, fun q => ⟨by omega, ?_⟩⟩
          · rw [z_sub (by omega)]
            rw [show way (co 7 g) i = i - co 7 g by unfold way; rw [if_neg (by omega)]] at body
            exact body
          · rw [z_sub (by omega)]
            rw [show way (co 7 g) i = co 7 g - i by unfold way; rw [if_pos (by omega)]] at body
            exact body
      refine key _ ?_
      exact MW_upto_in hg (by omega) ⟨fun _ => MW_in h1 h2 (by decide) ⟨fun _ => key2 _ rfl, fun z => absurd z (by decide)⟩, fun z => absurd z (by decide)⟩
    · refine F_within0 hb ⟨fun z => absurd (by decide) z, fun _ => ?_⟩
      exact MW_upto_in hg (by omega) ⟨fun _ => MW_out hb ⟨fun z => absurd (by decide) z, fun _ => rfl⟩, fun z => absurd z (by decide)⟩
  · refine F_isGoat_out hF hv ho ⟨fun z => absurd (by decide) z, fun _ => ?_⟩
    exact MW_upto_out ho (by omega) ⟨fun z => absurd (by decide) z, fun _ => rfl⟩
/-! odds -/
def odd (b : Int32) : Nat → Int64
  | 0 => lN 1000000000
  | i + 1 => (odd b i * b.toInt64) / (lN 100)
theorem F_clear {n : Nat} {b : Int32} {μ : Mem} {Q : Int32 → Prop} (hn : n ≤ 60) (h : Q (odd b n).toInt32) : w_X6_clear_30 (nI n) b (lN 1000000000) (nI 0) μ Q := by
  unfold w_X6_clear_30
  intro X hX
  refine cnt_dn (P := fun i => X (odd b i) (nI i)) n ?_ ?_
  · apply hX
    unfold s_X6_clear_30
    exact ⟨fun _ => h, fun q => absurd ((z_le (by omega) (by omega)).mpr (Nat.le_refl _)) q⟩
  · intro i hi ih
    apply hX
    unfold s_X6_clear_30
    simp (disch := omega) only [z_le, z_lt, z_eq, z_lt0, z_0le, z_eq0, z_le0, z_0lt, z_cl, z_in, z_add, z_mul, z_m1ne, z_m1ne', z_m1lt0, z_m1lt, z_ltm1, forall_eq, true_implies, false_implies, implies_true, true_and, and_true, false_and, and_false, not_true_eq_false, not_false_eq_true, ite_true, ite_false]
    exact ⟨fun q => absurd hi (by omega), fun _ => ⟨by decide, ih⟩⟩
theorem P_clear {μ ν : Mem} {a b : Int32} : w_X6_clear a b μ (fun x => w_X7_clear a b ν (fun y => x = y)) := by
  unfold w_X6_clear w_X7_clear
  rcases z_cases a 0 60 (by decide) (by decide) with ⟨n, a1, a2, rfl⟩ | ha
  · refine W_in a1 a2 (by decide) ⟨fun z => absurd z (by decide), fun _ => ?_⟩
    rcases z_cases b 0 100 (by decide) (by decide) with ⟨s, s1, s2, rfl⟩ | hb
    · refine W_in s1 s2 (by decide) ⟨fun _ => F_clear a2 ?_, fun z => absurd z (by decide)⟩
      exact MW_in a1 a2 (by decide) ⟨fun z => absurd z (by decide), fun _ => MW_in s1 s2 (by decide) ⟨fun _ => F_clear (μ := ν) a2 rfl, fun z => absurd z (by decide)⟩⟩
    · refine F_within0 hb ⟨fun z => absurd (by decide) z, fun _ => ?_⟩
      exact MW_in a1 a2 (by decide) ⟨fun z => absurd z (by decide), fun _ => MW_out hb ⟨fun z => absurd (by decide) z, fun _ => rfl⟩⟩
  · refine F_within0 ha ⟨fun _ => ?_, fun z => absurd (by decide) z⟩
    exact MW_out ha ⟨fun _ => rfl, fun z => absurd (by decide) z⟩
