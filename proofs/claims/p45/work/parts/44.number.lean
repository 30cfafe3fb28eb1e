/-! ===== FogNets: a number read ===== -/
section NUMB
variable {μ : Mem} {T : Tx} {lo hi i : Nat} {Q : Int32 → Mem → Prop}
def Okn (T : Tx) (lo hi : Nat) (st : Rs) (z : Nat) (μ' : Mem) : Prop := ∀ i', bnd (numA T lo hi) st = .inr i' → ∃ i, st = .inr i ∧ i ≤ T.1 ∧ i' = nx T i ∧ z = val T i ∧ lo ≤ z ∧ z ≤ hi ∧ μ'.1 1 3 = nI (sk T i)
theorem F_num_fin {n v : Nat} (hlo : lo < 1000) (hhi : hi < 1000) (hi2 : i ≤ T.1) (hT : T.1 ≤ 240) (hfg : fg T i = (n, v)) (hn : n ≤ 240) (hv : v < 1000) (e2 : μ.1 1 2 = nI (sk T i + n)) (e3 : μ.1 1 3 = nI (sk T i)) (e4 : μ.1 1 4 = nI 0) (e5 : μ.1 1 5 = -1)
    (h : ∀ (z : Nat) (μ' : Mem), z < 1000 → FrRd μ μ' → RdF μ' T (numA T lo hi i) → Okn T lo hi (.inr i) z μ' → Q (nI z) μ') : w_X3_readNumber_93 (nI lo) (nI hi) (nI n) (nI v) μ Q := by
  have hk := sk_le hi2
  have hval : val T i = v := by unfold val; rw [hfg]
  have hnx : nx T i = sk T i + n := by unfold nx; rw [hfg]
  have hle := nx_le hi2
  have hs : RdF μ T (.inr (sk T i + n)) := ⟨e4, e5, e2, by omega⟩
  have bad : ∀ c, (c = 1 ∨ c = 2) → numA T lo hi i = .inl (c, sk T i) → w_X3_fail (nI c) (μ.1 1 3) μ (fun μ16 => Q (nI v) μ16) := by
    intro c hc q
    rw [e3]
    refine F_fail hs (fun e z => by cases z) (fun _ _ => ?_)
    refine h v _ hv ((FrRd.put (by omega)).trans (FrRd.put (by omega))) ?_ ?_
    · rw [q]; exact RdF.err (by omega)
    · intro i' z
      have z2 : numA T lo hi i = .inr i' := z
      rw [q] at z2; cases z2
  unfold w_X3_readNumber_93 w_X3_readNumber_126
  rw [z_eq0 (by omega)]
  refine ⟨fun q => ?_, fun q => ?_⟩
  · rw [z_lt (by decide) (by omega)]
    refine ⟨fun q2 => ?_, fun q2 => ?_⟩
    · exact bad 2 (Or.inr rfl) (by unfold numA; rw [hfg, if_neg q, if_pos (Or.inl q2)])
    · refine F_within (by omega) (by omega) (by omega) ?_
      by_cases q3 : lo ≤ v ∧ v ≤ hi
      · rw [if_pos q3]
        have en : numA T lo hi i = .inr (nx T i) := by
          unfold numA
          rw [hfg, hval, if_neg q, if_neg]
          show ¬ (3 < n ∨ v < lo ∨ hi < v)
          omega
        refine ⟨fun _ => ?_, fun z => absurd z (by decide)⟩
        refine h v μ hv FrRd.rfl' ?_ ?_
        · rw [en, hnx]; exact hs
        · intro i' z
          have z2 : numA T lo hi i = .inr i' := z
          rw [en] at z2
          cases z2
          exact ⟨i, rfl, hi2, rfl, hval.symm, q3.1, q3.2, e3⟩
      · rw [if_neg q3]
        refine ⟨fun z => absurd rfl z, fun _ => ?_⟩
        refine bad 2 (Or.inr rfl) ?_
        unfold numA
        rw [hfg, hval, if_neg q, if_pos]
        show 3 < n ∨ v < lo ∨ hi < v
        omega
  · exact bad 1 (Or.inl rfl) (by unfold numA; rw [hfg, if_pos q])
theorem F_number {st : Rs} (hT : vTx T) (tx : TxF μ T) (hs : RdF μ T st) (hlo : lo < 1000) (hhi : hi < 1000)
    (h : ∀ (z : Nat) (μ' : Mem), z < 1000 → FrRd μ μ' → TxF μ' T → RdF μ' T (bnd (numA T lo hi) st) → Okn T lo hi st z μ' → Q (nI z) μ') : w_X3_readNumber (nI lo) (nI hi) μ Q := by
  have h1 := hT.1
  unfold w_X3_readNumber
  cases st with
  | inl e =>
    have a := hs
    unfold RdF at a
    rw [a.1, z_eq0 (by omega)]
    exact ⟨fun z => by omega, fun _ => h lo μ hlo FrRd.rfl' tx hs (fun i' z => by cases z)⟩
  | inr i =>
    have a := hs
    unfold RdF at a
    obtain ⟨a1, a2, a3, a4⟩ := a
    rw [a1]
    refine ⟨fun _ => ?_, fun z => absurd rfl z⟩
    have hk := sk_le a4
    refine F_skip hT tx a3 a4 (fun μ2 fr f1 e2 => ?_)
    intro μ3 e3
    rw [e2] at e3
    have c3 : μ3.1 1 3 = nI (sk T i) := by rw [e3, sI_same]
    have c2 : μ3.1 1 2 = nI (sk T i) := by rw [e3, sI_ne2 (by decide)]; exact e2
    have c4 : μ3.1 1 4 = nI 0 := by rw [e3, sI_ne2 (by decide), f1 4 (by decide)]; exact a1
    have c5 : μ3.1 1 5 = -1 := by rw [e3, sI_ne2 (by decide), f1 5 (by decide)]; exact a2
    have fr3 : FrRd μ μ3 := by rw [e3]; exact fr.trans (FrRd.put (by omega))
    clear e3 f1 e2
    unfold w_X3_readNumber_28
    intro X hX
    have key : ∀ d a n v (μ1 : Mem), T.1 - a ≤ d → a ≤ T.1 → fgv n v → a = sk T i + n → μ1.1 1 2 = nI a → fgs T a n v = fg T i → FrRd μ3 μ1 → (∀ j, j ≠ 2 → μ1.1 1 j = μ3.1 1 j) → X (ltI T a) (nI n) (nI v) μ1 := by
      intro d
      induction d with
      | zero =>
        intro a n v μ1 hd ha hv ea e es fr1 f1
        have tx1 := (tx.rd fr3).rd fr1
        apply hX
        unfold s_X3_readNumber_28
        rw [e, tx1.1]
        refine ⟨fun _ => ?_, fun z => absurd ((z_le (by omega) (by omega)).mpr (by omega)) z⟩
        rw [fg_end (by omega)] at es
        refine F_num_fin hlo hhi a4 h1 es.symm (by omega) hv.2.2.2 (by rw [e, ea]) (by rw [f1 3 (by decide)]; exact c3) (by rw [f1 4 (by decide)]; exact c4) (by rw [f1 5 (by decide)]; exact c5) (fun z μ' hz fz rz oz => ?_)
        exact h z μ' hz (fr3.trans (fr1.trans fz)) (tx1.rd fz) rz oz
      | succ d ih =>
        intro a n v μ1 hd ha hv ea e es fr1 f1
        have tx1 := (tx.rd fr3).rd fr1
        have fin : fgs T a n v = (n, v) → w_X3_readNumber_93 (nI lo) (nI hi) (nI n) (nI v) μ1 Q := by
          intro q
          rw [q] at es
          refine F_num_fin hlo hhi a4 h1 es.symm (by omega) hv.2.2.2 (by rw [e, ea]) (by rw [f1 3 (by decide)]; exact c3) (by rw [f1 4 (by decide)]; exact c4) (by rw [f1 5 (by decide)]; exact c5) (fun z μ' hz fz rz oz => ?_)
          exact h z μ' hz (fr3.trans (fr1.trans fz)) (tx1.rd fz) rz oz
        apply hX
        unfold s_X3_readNumber_28 w_X3_readNumber_68
        rw [e, tx1.1, z_le (by omega) (by omega)]
        refine ⟨fun z => fin (fg_end z), fun z => ?_⟩
        have hl := hT.2 a (by omega)
        have el : ltI T a = nI (T.2 a) := by unfold ltI; rw [if_pos (by omega)]
        rw [el]
        refine F_within (by omega) (by decide) (by decide) ?_
        by_cases q : 48 ≤ T.2 a ∧ T.2 a ≤ 57
        · rw [if_pos q]
          refine ⟨fun z2 => absurd z2 (by decide), fun _ => ?_⟩
          have nxt : ∀ v1, v1 = (if n < 3 then 10 * v + T.2 a - 48 else v) → ∀ x7 : Int32, x7 = nI n + nI 1 → ∀ μ8 : Mem, μ8 = sI μ1 1 2 (nI a + nI 1) → w_X3_letterAt (μ8.1 1 2) μ8 (fun r9 => X r9 x7 (nI v1) μ8) := by
            intro v1 hv1 x7 e7 μ8 e8
            rw [z_add] at e7 e8
            subst e7 e8
            rw [sI_same]
            refine F_letter hT (tx1.rd (FrRd.put (by omega))) (by omega) ?_
            refine ih (a + 1) (n + 1) v1 _ (by omega) (by omega) (by rw [hv1]; exact fgv_s hv q) (by omega) sI_same (by rw [hv1, ← fg_dig (by omega) q]; exact es) (fr1.trans (FrRd.put (by omega))) (fun j hj => by rw [sI_ne2 hj]; exact f1 j hj)
          rw [z_le (by decide) (by omega)]
          refine ⟨fun z2 => nxt v (by rw [if_neg (by omega)]), fun z2 => ?_⟩
          intro x6 e6
          have hv4 := hv.2.2.2
          rw [z_mul, z_add, z_sub (by omega)] at e6
          subst e6
          exact nxt _ (by rw [if_pos (by omega)])
        · rw [if_neg q]
          exact ⟨fun _ => fin (fg_non q), fun z2 => absurd rfl z2⟩
    have h0 := key _ (sk T i) 0 0 μ3 (Nat.le_refl _) hk ⟨fun _ => rfl, fun _ => by decide, fun _ => by decide, by decide⟩ rfl c2 rfl FrRd.rfl' (fun _ _ => rfl)
    exact h0
end NUMB
