/-! ===== all is as it was: the law's look at the whole coast ===== -/
def LW (r : Ro) (L : Nat → Nat → Nat) (n : Nat) : Prop := (∀ j, j < 15 → L 101 j = r j) ∧ ∀ p, p < n → L 101 (15 + p) = r (15 + p) ∧ L 101 (21 + p) = r (21 + p)
theorem z_shl0 : ∀ k, k < 6 → (nI 0 <<< (nI k &&& 31) : Int32) = nI 0 := by decide +kernel
theorem z_shlb {b p : Nat} (hb : b < 2) (hp : p < 6) : (nI b <<< (nI p &&& 31) : Int32) = nI (if b = 1 then 2 ^ p else 0) := by
  rcases (by omega : b = 0 ∨ b = 1) with rfl | rfl
  · rw [z_shl0 p hp]; rfl
  · rw [z_shl1 (by omega), if_pos rfl]
section LSAME
variable {μ : Mem} {co : Co} {r : Ro} {U : Un} {sd : Nat} {I : Im} {G : Gt} {L : Nat → Nat → Nat} {Q0 : Int32 → Prop}
theorem OK.gi (h : OK μ co r U sd I G L) {j : Nat} (hj : j < 1000) : μ.1 246 ((nI j)).toNatClampNeg = nI (L 100 j) := by rw [z_cl (by omega), h.g j]
theorem OK.wi (h : OK μ co r U sd I G L) {j : Nat} (hj : j < 1000) : μ.1 247 ((nI j)).toNatClampNeg = nI (L 101 j) := by rw [z_cl (by omega), h.w j]
theorem L_hang (h : OK μ co r U sd I G L) (k : LK co L) (e0 : L 101 0 = r 0) (q : Q0 (nI (hs co (r 0)))) : w_L_hang μ Q0 := by
  have hv := h.v.1
  have hn := hv.2.2.2.1
  have hd := h.day
  unfold w_L_hang w_L_hang_4
  intro X hX
  refine cnt_dn (P := fun i => i ≤ co 0 3 → X (nI (hsN (fun p => hg co (r 0) (co 4 p)) i)) (nI i)) (co 0 3) ?_ ?_ (by omega)
  · intro _
    apply hX
    unfold s_L_hang_4
    rw [h.g3 k, z_le (by omega) (by omega)]
    exact ⟨vp3, br_yes (Nat.le_refl _) q⟩
  · intro i hi ih _
    have ih := ih (by omega)
    have hown := (hv.2.2.2.2.2.2.2.2.1 i hi).2.2
    have h64 := hsN_64 (fun p => hg co (r 0) (co 4 p)) (show i ≤ 6 by omega)
    have hset := (hv.2.2.2.2.2.2.2.2.2.1 (co 4 i) (by omega)).1
    have hm := Nat.mod_lt (r 0) (show 0 < 7 by decide)
    have e1 : μ.1 246 (((nI 15) + (nI i))).toNatClampNeg = nI (co 4 i) := by rw [z_add, h.gi (by omega), (k.2.2.1 i hi).2]
    have e2 : μ.1 246 (((nI 5) + (nI (co 4 i)))).toNatClampNeg = nI (co 5 (co 4 i)) := by rw [z_add, h.gi (by omega), (k.2.1 (co 4 i) (by omega)).1]
    have e3 : μ.1 247 ((nI 0)).toNatClampNeg = nI (r 0) := by rw [h.wi (by decide), e0]
    apply hX
    unfold s_L_hang_4
    rw [h.g3 k, z_le (by omega) (by omega), e1, e2, e3]
    refine ⟨vp3, br_no (by omega) ⟨by rw [z_add]; exact vp_in_nI (by omega) (by decide), by rw [z_add]; exact vp_in_nI (by omega) (by decide), fun x1 f1 => ⟨vp_in_nI (by decide) (by decide), by decide, fun x2 f2 x3 f3 x4 f4 => ?_⟩⟩⟩
    rw [z_rem (by omega) (by decide) (by decide)] at f2
    subst f1 f2
    have hb := Nat.mod_lt (co 5 (co 4 i) / 2 ^ (r 0 % 7)) (show 0 < 2 by decide)
    have hdv := Nat.div_le_self (co 5 (co 4 i)) (2 ^ (r 0 % 7))
    have hp2 := pow6 i (by omega)
    have hle : (if co 5 (co 4 i) / 2 ^ (r 0 % 7) % 2 = 1 then 2 ^ i else 0) < 64 := by split <;> omega
    rw [z_shr (by omega) (by omega), z_and1 (by omega), z_shlb hb (by omega), z_or (by omega) (by omega)] at f3
    rw [z_add] at f4
    subst f3 f4
    have es : hsN (fun p => hg co (r 0) (co 4 p)) i ||| (if co 5 (co 4 i) / 2 ^ (r 0 % 7) % 2 = 1 then 2 ^ i else 0) = hsN (fun p => hg co (r 0) (co 4 p)) (i + 1) := by
      show _ = if hg co (r 0) (co 4 i) = true then _ else _
      unfold hg
      by_cases c : co 5 (co 4 i) / 2 ^ (r 0 % 7) % 2 = 1
      · rw [if_pos c, if_pos (decide_eq_true c)]
      · rw [if_neg c, if_neg (by rw [decide_eq_false c]; decide), Nat.or_zero]
    rw [es]
    exact ih
theorem L_dayLong (h : OK μ co r U sd I G L) (k : LK co L) (q : Q0 (nI (dl co))) : w_L_dayLong μ Q0 := by
  have hh := h.v.1.2.2.1
  have e2 : μ.1 246 ((nI 2)).toNatClampNeg = nI (co 0 2) := by rw [h.gi (by decide), k.1.2.2.1]
  unfold w_L_dayLong
  rw [e2, z_le (by decide) (by omega)]
  unfold dl at q
  refine ⟨vp_in_nI (by decide) (by decide), ?_⟩
  by_cases c : co 0 2 = 0
  · rw [if_pos c] at q
    exact br_no (by omega) q
  · rw [if_neg c] at q
    exact br_yes (by omega) ⟨vp_in_nI (by decide) (by decide), q⟩
theorem L_side (h : OK μ co r U sd I G L) (k : LK co L) (e1 : L 101 1 = r 1) (q : Q0 (nI (co 1 (r 1)))) : w_L_side μ Q0 := by
  have hv := h.v.1
  have hh := hv.2.2.1
  have hr1 := h.v.2.1.2.1
  have e2 : μ.1 246 ((nI 2)).toNatClampNeg = nI (co 0 2) := by rw [h.gi (by decide), k.1.2.2.1]
  have e3 : μ.1 247 ((nI 1)).toNatClampNeg = nI (r 1) := by rw [h.wi (by decide), e1]
  unfold w_L_side
  rw [e2, e3, z_le (by decide) (by omega)]
  refine ⟨vp_in_nI (by decide) (by decide), ?_⟩
  unfold dl at hr1
  by_cases c : co 0 2 = 0
  · rw [if_pos c] at hr1
    rw [show r 1 = 0 by omega, (hv.2.2.2.2.2.2.2.1 c).1] at q
    exact br_no (by omega) q
  · rw [if_neg c] at hr1
    refine br_yes (by omega) ⟨vp_in_nI (by decide) (by decide), by rw [z_mul, z_add]; exact vp_in_nI (by omega) (by decide), fun x1 f1 => ?_⟩
    rw [z_mul, z_add, h.gi (by omega), (k.2.2.2.2 (r 1) hr1).1] at f1
    subst f1
    exact q
theorem L_fog (h : OK μ co r U sd I G L) (k : LK co L) (e1 : L 101 1 = r 1) (q : Q0 (nI (co 2 (r 1)))) : w_L_fog μ Q0 := by
  have hv := h.v.1
  have hh := hv.2.2.1
  have hr1 := h.v.2.1.2.1
  have e2 : μ.1 246 ((nI 2)).toNatClampNeg = nI (co 0 2) := by rw [h.gi (by decide), k.1.2.2.1]
  have e3 : μ.1 247 ((nI 1)).toNatClampNeg = nI (r 1) := by rw [h.wi (by decide), e1]
  unfold w_L_fog
  rw [e2, e3, z_le (by decide) (by omega)]
  refine ⟨vp_in_nI (by decide) (by decide), ?_⟩
  unfold dl at hr1
  by_cases c : co 0 2 = 0
  · rw [if_pos c] at hr1
    rw [show r 1 = 0 by omega, (hv.2.2.2.2.2.2.2.1 c).2] at q
    exact br_no (by omega) q
  · rw [if_neg c] at hr1
    refine br_yes (by omega) ⟨vp_in_nI (by decide) (by decide), by rw [z_mul, z_add]; exact vp_in_nI (by omega) (by decide), fun x1 f1 => ?_⟩
    rw [z_mul, z_add, h.gi (by omega), (k.2.2.2.2 (r 1) hr1).2] at f1
    subst f1
    exact q
theorem L_isCoast (h : OK μ co r U sd I G L) (k : LK co L) (kw : LW r L (co 0 3)) (q : Q0 (nI 1)) : w_L_isCoast μ Q0 := by
  have hv := h.v.1
  have hr := h.v.2.1
  have hn := hv.2.2.2.1
  have hg4 := hv.2.2.2.2.1
  have hh12 := hv.2.2.1
  have hrp := hr.2.2.2.2.2.2.2.2.2.1
  have hsz := hv.2.2.2.2.2.2.2.2.1
  obtain ⟨kw1, kw2⟩ := kw
  obtain ⟨⟨k0, k1, k2, k3, k4⟩, kv, kp, kg, kh⟩ := id k
  -- hours
  have w534 : w_L_isCoast_534 (nI 1) (nI 0) μ Q0 := by
    unfold w_L_isCoast_534
    intro X hX
    refine cnt_dn (P := fun i => i ≤ co 0 2 → X (nI 1) (nI i)) (co 0 2) ?_ ?_ (by omega)
    · intro _
      apply hX
      unfold s_L_isCoast_534
      rw [h.gi (by decide), k2, z_le (by omega) (by omega)]
      exact ⟨vp_in_nI (by decide) (by decide), br_yes (Nat.le_refl _) ⟨Or.inr rfl, q⟩⟩
    · intro i hi ih _
      have ih := ih (by omega)
      apply hX
      unfold s_L_isCoast_534
      simp only [z_add, z_mul]
      rw [h.gi (by decide), k2, z_le (by omega) (by omega), h.gi (by omega), h.gi (by omega), (kh i hi).1, (kh i hi).2]
      refine ⟨vp_in_nI (by decide) (by decide), br_no (by omega) (br_no (by decide) (U_fogAt h hi 0 (by decide) ⟨vp_in_nI (by omega) (by decide), ?_⟩))⟩
      rw [if_pos rfl]
      refine bn_yes rfl (U_fogAt h hi 1 (by decide) ⟨vp_in_nI (by omega) (by decide), ?_⟩)
      rw [if_neg (by decide)]
      refine bn_yes rfl ?_
      unfold w_L_isCoast_590
      intro x72 e72
      rw [z_add] at e72
      subst e72
      exact ih
  -- goats
  have w471 : w_L_isCoast_471 (nI 1) (nI 0) μ Q0 := by
    unfold w_L_isCoast_471
    intro X hX
    refine cnt_dn (P := fun i => i ≤ co 0 4 → X (nI 1) (nI i)) (co 0 4) ?_ ?_ (by omega)
    · intro _
      apply hX
      unfold s_L_isCoast_471
      rw [h.gi (by decide), k4, z_le (by omega) (by omega)]
      exact ⟨vp4, br_yes (Nat.le_refl _) w534⟩
    · intro i hi ih _
      have ih := ih (by omega)
      apply hX
      unfold s_L_isCoast_471
      simp only [z_add]
      rw [h.gi (by decide), k4, z_le (by omega) (by omega), h.gi (by omega), h.gi (by omega), (kg i hi).1, (kg i hi).2]
      refine ⟨vp4, br_no (by omega) (br_no (by decide) (U_goat h hi 0 (by decide) ⟨vp_in_nI (by omega) (by decide), ?_⟩))⟩
      rw [if_pos rfl]
      refine bn_yes rfl (U_goat h hi 1 (by decide) ⟨vp_in_nI (by omega) (by decide), ?_⟩)
      rw [if_neg (by decide)]
      refine bn_yes rfl ?_
      unfold w_L_isCoast_523
      intro x67 e67
      rw [z_add] at e67
      subst e67
      exact ih
  -- villages
  have w321 : w_L_isCoast_321 (nI 1) (nI 0) μ Q0 := by
    unfold w_L_isCoast_321
    intro X hX
    refine cnt_dn (P := fun i => i ≤ 2 → X (nI 1) (nI i)) 2 ?_ ?_ (by omega)
    · intro _
      apply hX
      unfold s_L_isCoast_321
      exact br_yes (by decide) w471
    · intro v hv2 ih _
      have ih := ih (by omega)
      apply hX
      unfold s_L_isCoast_321
      rw [z_le (by decide) (by omega)]
      refine br_no (by omega) (br_no (by decide) ?_)
      unfold w_L_isCoast_338
      intro Y hY
      refine cnt_dn (P := fun i => i ≤ co 0 3 → Y (nI (hsN (fun p => decide (co 4 p = v)) i)) (nI i)) (co 0 3) ?_ ?_ (by omega)
      · intro _
        apply hY
        unfold s_L_isCoast_338
        rw [h.g3 k, z_le (by omega) (by omega)]
        refine ⟨vp3, br_yes (Nat.le_refl _) ?_⟩
        unfold w_L_isCoast_377
        simp only [z_add]
        have a5 : L 101 (5 + v) = r (5 + v) := kw1 (5 + v) (by omega)
        have a7 : L 101 (7 + v) = r (7 + v) := kw1 (7 + v) (by omega)
        rw [h.gi (by omega), h.gi (by omega), h.wi (by omega), h.wi (by omega), (kv v hv2).1, (kv v hv2).2, a5, a7]
        refine VI0 h hv2 ⟨vp_in_nI (by omega) (by decide), bn_yes rfl (VI1 h hv2 ⟨vp_in_nI (by omega) (by decide), bn_yes rfl (VI2 h hv2 ⟨vp_in_nI (by omega) (by decide), bn_yes rfl (VI3 h hv2 ⟨vp_in_nI (by omega) (by decide), bn_yes rfl (VI4 h hv2 (bn_yes rfl ?_))⟩)⟩)⟩)⟩
        unfold w_L_isCoast_460
        intro x62 e62
        rw [z_add] at e62
        subst e62
        exact ih
      · intro i hi ih2 _
        have ih2 := ih2 (by omega)
        have h64 := hsN_64 (fun p => decide (co 4 p = v)) (show i ≤ 6 by omega)
        have hown := (hsz i hi).2.2
        have hp2 := pow6 i (by omega)
        apply hY
        unfold s_L_isCoast_338
        rw [z_add, h.g3 k, z_le (by omega) (by omega), h.gi (by omega), (kp i hi).2, z_eq (by omega) (by omega), z_shl1 (by omega)]
        have step : ∀ s, hsN (fun p => decide (co 4 p = v)) i ||| s = hsN (fun p => decide (co 4 p = v)) (i + 1) → s < 64 → w_L_isCoast_368 X Y (nI v) (nI i) (nI s) (nI (hsN (fun p => decide (co 4 p = v)) i)) μ Q0 := by
          intro s e hs
          unfold w_L_isCoast_368
          intro x50 e50 x51 e51
          rw [z_or (by omega) (by omega), e] at e50
          rw [z_add] at e51
          subst e50 e51
          exact ih2
        refine ⟨vp3, br_no (by omega) ⟨vp_in_nI (by omega) (by decide), ?_⟩⟩
        by_cases c : co 4 i = v
        · refine bn_yes c (step _ ?_ hp2)
          show _ = if decide (co 4 i = v) = true then _ else _
          rw [if_pos (decide_eq_true c)]
        · refine bn_no c (step 0 ?_ (by decide))
          show _ = if decide (co 4 i = v) = true then _ else _
          rw [if_neg (by rw [decide_eq_false c]; decide), Nat.or_zero]
  -- posts
  have w207 : w_L_isCoast_207 (nI 1) (nI 0) μ Q0 := by
    unfold w_L_isCoast_207
    intro X hX
    refine cnt_dn (P := fun i => i ≤ co 0 3 → X (nI 1) (nI i)) (co 0 3) ?_ ?_ (by omega)
    · intro _
      apply hX
      unfold s_L_isCoast_207
      rw [h.g3 k, z_le (by omega) (by omega)]
      exact ⟨vp3, br_yes (Nat.le_refl _) w321⟩
    · intro i hi ih _
      have ih := ih (by omega)
      have a9 : L 101 (9 + i) = r (9 + i) := kw1 (9 + i) (by omega)
      apply hX
      unfold s_L_isCoast_207
      simp only [z_add]
      rw [h.g3 k, z_le (by omega) (by omega), h.wi (show 15 + i < 1000 by omega), h.wi (show 21 + i < 1000 by omega), h.gi (show 9 + i < 1000 by omega), h.gi (show 15 + i < 1000 by omega), h.wi (show 9 + i < 1000 by omega), (kw2 i hi).1, (kw2 i hi).2, (kp i hi).1, (kp i hi).2, a9]
      refine ⟨vp3, br_no (by omega) (br_no (by decide) (PO0 h hi ⟨vp_in_nI (by omega) (by decide), bn_yes rfl (PO1 h hi ⟨vp_in_nI (by omega) (by decide), bn_yes rfl (PO2 h hi ⟨vp_in_nI (by omega) (by decide), bn_yes rfl (PO3 h hi ⟨vp_in_nI (by omega) (by decide), bn_yes rfl (PO4 h hi ⟨vp_in_nI (by omega) (by decide), bn_yes rfl ?_⟩)⟩)⟩)⟩)⟩))⟩
      unfold w_L_isCoast_310
      intro x49 e49
      rw [z_add] at e49
      subst e49
      exact ih
  unfold w_L_isCoast w_L_isCoast_5
  intro X hX
  refine cnt_dn (P := fun i => i ≤ co 0 3 → X (nI (sumN (fun p => r (9 + p)) i)) (nI i)) (co 0 3) ?_ ?_ (by omega)
  · intro _
    apply hX
    unfold s_L_isCoast_5
    rw [h.g3 k, z_le (by omega) (by omega)]
    refine ⟨vp3, br_yes (Nat.le_refl _) ?_⟩
    unfold w_L_isCoast_29
    have a0 : L 101 0 = r 0 := kw1 0 (by decide)
    have a1 : L 101 1 = r 1 := kw1 1 (by decide)
    rw [h.gi (show 0 < 1000 by decide), h.gi (show 1 < 1000 by decide), h.gi (show 3 < 1000 by decide), h.gi (show 4 < 1000 by decide), h.wi (show 0 < 1000 by decide), h.wi (show 1 < 1000 by decide), h.wi (show 2 < 1000 by decide), h.wi (show 3 < 1000 by decide), h.wi (show 4 < 1000 by decide), k0, k1, k3, k4, a0, a1, kw1 2 (by decide), kw1 3 (by decide), kw1 4 (by decide)]
    refine T0 h ⟨vp_in_nI (by decide) (by decide), bn_yes rfl (T1 h ⟨vp_in_nI (by decide) (by decide), bn_yes rfl (T2 h (L_dayLong h k (bn_yes rfl (T3 h ⟨vp3, bn_yes rfl (T4 h ⟨vp4, bn_yes rfl (T6 h ⟨vp_in_nI (by decide) (by decide), bn_yes rfl (T7 h ⟨vp_in_nI (by decide) (by decide), bn_yes rfl (T8 h ⟨vp_in_nI (by decide) (by decide), bn_yes rfl (T9 h (L_hang h k a0 (bn_yes rfl (T10 h (bn_yes rfl (T11 h ⟨vp_in_nI (by decide) (by decide), bn_yes rfl (T12 h ⟨vp_in_nI (by decide) (by decide), bn_yes rfl (U_fogNow h 0 (by decide) (L_side h k a1 ?_))⟩)⟩))))))⟩)⟩)⟩)⟩)⟩))))⟩)⟩
    rw [if_pos rfl]
    refine bn_yes rfl (U_fogNow h 1 (by decide) (L_fog h k a1 ?_))
    rw [if_neg (by decide)]
    exact bn_yes rfl w207
  · intro i hi ih _
    have ih := ih (by omega)
    have a9 : L 101 (9 + i) = r (9 + i) := kw1 (9 + i) (by omega)
    apply hX
    unfold s_L_isCoast_5
    rw [z_add, h.g3 k, z_le (by omega) (by omega), h.wi (by omega), a9]
    refine ⟨vp3, br_no (by omega) ⟨vp_in_nI (by omega) (by decide), fun x1 e1 x2 e2 => ?_⟩⟩
    rw [z_add] at e1 e2
    subst e1 e2
    exact ih
end LSAME
