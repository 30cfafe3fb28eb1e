/-! ===== who is thirsty first ===== -/
theorem pas_end {co : Co} {r : Ro} {fog side : Nat} {c : Bool} (hn : co 0 3 ≤ 6) (h : r 1 + 1 = dl co) : pasR co r fog side c 0 = r 0 + 1 ∧ pasR co r fog side c 1 = 0 := by
  unfold pasR
  rw [if_pos h]
  unfold endR
  refine ⟨?_, ?_⟩
  · rw [upN_same, upN_ne (by decide), pj_oth (by decide) (by decide) _ hn]
  · rw [upN_ne (by decide), upN_same]
theorem pas_in {co : Co} {r : Ro} {fog side : Nat} {c : Bool} (hn : co 0 3 ≤ 6) (h : ¬ r 1 + 1 = dl co) : pasR co r fog side c 0 = r 0 ∧ pasR co r fog side c 1 = r 1 + 1 ∧ ∀ v, v < 2 → pasR co r fog side c (7 + v) = r (7 + v) := by
  unfold pasR
  rw [if_neg h]
  refine ⟨?_, ?_, fun v hv => ?_⟩
  · rw [upN_ne (by decide), pj_oth (by decide) (by decide) _ hn]
  · rw [upN_same]
  · rw [upN_ne (by omega), pj_oth (by omega) (by omega) _ hn]
def itN (co : Co) (r : Ro) : Nat → Ro
  | 0 => r
  | i + 1 => pasR co (itN co r i) (co 2 (itN co r i 1)) (co 1 (itN co r i 1)) true
theorem itN_v {co : Co} {r : Ro} {B : Nat} (hv : vCo co) (hr : vRo co r B) : ∀ i, vRo co (itN co r i) (B + i) := by
  intro i
  induction i with
  | zero => exact hr
  | succ i ih => exact vRo_pas hv ih
theorem itN_ix {co : Co} {r : Ro} {B : Nat} (hv : vCo co) (hr : vRo co r B) : ∀ i, r 0 ≤ itN co r i 0 ∧ i ≤ 12 * (itN co r i 0 - r 0) + itN co r i 1 := by
  intro i
  have hdl := dl_le hv
  induction i with
  | zero => exact ⟨Nat.le_refl _, by omega⟩
  | succ i ih =>
    have hi := (itN_v hv hr i).2.1
    show r 0 ≤ pasR co (itN co r i) (co 2 (itN co r i 1)) (co 1 (itN co r i 1)) true 0 ∧ _ ≤ 12 * (pasR co (itN co r i) (co 2 (itN co r i 1)) (co 1 (itN co r i 1)) true 0 - r 0) + pasR co (itN co r i) (co 2 (itN co r i 1)) (co 1 (itN co r i 1)) true 1
    by_cases q : itN co r i 1 + 1 = dl co
    · obtain ⟨a, b⟩ := pas_end (fog := co 2 (itN co r i 1)) (side := co 1 (itN co r i 1)) (c := true) hv.2.2.2.1 q
      rw [a, b]; omega
    · obtain ⟨a, b, -⟩ := pas_in (fog := co 2 (itN co r i 1)) (side := co 1 (itN co r i 1)) (c := true) hv.2.2.2.1 q
      rw [a, b]; omega
/-- how many days' ends on there is more thirst than now; so many hours, 60 days' ends at most -/
def thr (co : Co) (r : Ro) (v : Nat) : Nat → Nat → Option Nat
  | 0, _ => none
  | d + 1, i => if 60 ≤ itN co r i 0 - r 0 then none else if r (7 + v) < itN co r (i + 1) (7 + v) then some (itN co r (i + 1) 0 - r 0) else thr co r v d (i + 1)
theorem thr_step {co : Co} {r : Ro} {v i : Nat} (h : i < 720) : thr co r v (720 - i) i = if 60 ≤ itN co r i 0 - r 0 then none else if r (7 + v) < itN co r (i + 1) (7 + v) then some (itN co r (i + 1) 0 - r 0) else thr co r v (720 - (i + 1)) (i + 1) := by
  rw [show 720 - i = (720 - (i + 1)) + 1 by omega]; rfl
section THIRST
variable {μ ν : Mem} {co : Co} {r : Ro} {U : Un} {T : Tx} {fp : Int32} {sd : Nat} {I : Im} {G K : Gt}
theorem t_le (hA : VA co r U T sd I G K) {v : Nat} (hv2 : v < 2) : r (7 + v) ≤ 999999 := by
  have h7 := hA.2.1.2.2.2.2.2.2.2.1
  have h8 := hA.2.1.2.2.2.2.2.2.2.2.1
  rcases (by omega : v = 0 ∨ v = 1) with z | z <;> rw [z] <;> assumption
theorem i_le (hA : VA co r U T sd I G K) {v : Nat} (hv2 : v < 2) (i : Nat) : itN co r i (7 + v) ≤ 999999 := by
  have h7 := (itN_v hA.1 hA.2.1 i).2.2.2.2.2.2.2.1
  have h8 := (itN_v hA.1 hA.2.1 i).2.2.2.2.2.2.2.2.1
  rcases (by omega : v = 0 ∨ v = 1) with z | z <;> rw [z] <;> assumption
theorem F_thirsty {v : Nat} {Q : Int32 → Mem → Prop} (hA : VA co r U T sd I G K) (hF : RF μ co r U T fp sd I G K) (hs : StF μ 31 (co 0 3) r) (hcells : co 0 0 ≠ 0) (hv2 : v < 2)
    (h : ∀ μ' : Mem, RF μ' co r U T fp sd I G K → Q (optI (thr co r v 720 0)) μ') : w_X6_thirsty_45 (nI v) (nI (r (7 + v))) (nI 0) μ Q := by
  have hv := hA.1
  have hr := hA.2.1
  have ht := t_le hA hv2
  unfold w_X6_thirsty_45
  intro X hX
  refine cnt_dn (P := fun i => ∀ μ1 : Mem, RF μ1 co r U T fp sd I G K → StF μ1 31 (co 0 3) (itN co r i) → (∀ μ' : Mem, RF μ' co r U T fp sd I G K → Q (optI (thr co r v (720 - i) i)) μ') → X (nI i) μ1) 720 ?_ ?_ μ hF hs h
  · intro μ1 f1 s1 hq
    apply hX
    unfold s_X6_thirsty_45
    exact ⟨fun _ => hq μ1 f1, fun q => absurd (by decide) q⟩
  · intro i hi ih μ1 f1 s1 hq
    rw [thr_step hi] at hq
    have hri := itN_v hv hr i
    have hix := itN_ix hv hr i
    have hix1 := itN_ix hv hr (i + 1)
    have hri1 := itN_v hv hr (i + 1)
    have hr0 := hr.1
    have h0 := hri.1
    have h01 := hri1.1
    have hh := co_hour hv hri.2.1
    have hle := i_le hA hv2 (i + 1)
    apply hX
    unfold s_X6_thirsty_45
    rw [z_le (by omega) (by omega), s1.1.1, f1.2.2.2.1.1.1, z_sub hix.1, z_le (by omega) (by omega), s1.1.2.1]
    refine ⟨fun q => absurd hi (by omega), fun _ => ⟨fun q => ?_, fun q => ?_⟩⟩
    · rw [if_pos q] at hq
      exact hq μ1 f1
    · rw [if_neg q] at hq
      refine F_sideAt f1.1.1 f1.2.1 hv hri.2.1 (F_fogAt f1.1.1 f1.2.1 hv hri.2.1 ?_)
      refine F_passHour (c := true) st_31 f1.1.1 f1.2.1 s1 hv hcells hri (by omega) hh.1 hh.2 (fun μ2 g2 s2 t2 => ?_)
      have f2 := f1.X g2.X
      refine F_at (n := 2) (st_n5 st_31) (by decide) (by omega) ?_
      have e36 := (s2.2.2.2 v hv2).2
      rw [e36]
      have s2' : StF μ2 31 (co 0 3) (itN co r (i + 1)) := s2
      change (nI (itN co r (i + 1) (7 + v)) ≤ _ → _) ∧ (¬ nI (itN co r (i + 1) (7 + v)) ≤ _ → _)
      rw [z_le (by omega) (by omega)]
      refine ⟨fun q2 => ?_, fun q2 => ?_⟩
      · rw [if_neg (by omega)] at hq
        simp (disch := omega) only [z_le, z_lt, z_eq, z_lt0, z_0le, z_eq0, z_le0, z_0lt, z_cl, z_in, z_add, z_mul, z_m1ne, z_m1ne', z_m1lt0, z_m1lt, z_ltm1, forall_eq, true_implies, false_implies, implies_true, true_and, and_true, false_and, and_false, not_true_eq_false, not_false_eq_true, ite_true, ite_false]
        exact ih μ2 f2 s2' hq
      · rw [if_pos (by omega)] at hq
        unfold w_X6_thirsty_132
        rw [s2'.1.1, f2.2.2.2.1.1.1, z_sub hix1.1]
        exact hq μ2 f2
end THIRST
