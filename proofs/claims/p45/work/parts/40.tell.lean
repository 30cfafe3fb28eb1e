/-! ===== told, post, fog, village, goat, fault, feed ===== -/
section TELL
variable {μ ν : Mem} {co : Co} {r : Ro} {U : Un} {T : Tx} {fp : Int32} {sd : Nat} {I : Im} {G K : Gt} {Q : Int32 → Prop}
theorem F_told_0 (hA : VA co r U T sd I G K) (hF : RF μ co r U T fp sd I G K) (h : Q (nI (co 0 0))) : w_X6_told (nI 0) μ Q := by
  unfold w_X6_told
  repeat (first | refine ⟨fun _ => ?_, fun z => absurd rfl z⟩ | refine ⟨fun z => absurd z (by decide), fun _ => ?_⟩)
  rw [hF.2.1.1.1]; exact h
theorem F_told_1 (hA : VA co r U T sd I G K) (hF : RF μ co r U T fp sd I G K) (h : Q (nI (co 0 1))) : w_X6_told (nI 1) μ Q := by
  unfold w_X6_told
  repeat (first | refine ⟨fun _ => ?_, fun z => absurd rfl z⟩ | refine ⟨fun z => absurd z (by decide), fun _ => ?_⟩)
  rw [hF.2.1.1.2.1]; exact h
theorem F_told_2 (hA : VA co r U T sd I G K) (hF : RF μ co r U T fp sd I G K) (h : Q (nI ((if co 0 0 = 0 then 0 else dl co)))) : w_X6_told (nI 2) μ Q := by
  unfold w_X6_told
  repeat (first | refine ⟨fun _ => ?_, fun z => absurd rfl z⟩ | refine ⟨fun z => absurd z (by decide), fun _ => ?_⟩)
  exact F_hoursOfDay hF.2.1 hA.1 h
theorem F_told_3 (hA : VA co r U T sd I G K) (hF : RF μ co r U T fp sd I G K) (h : Q (nI (co 0 3))) : w_X6_told (nI 3) μ Q := by
  unfold w_X6_told
  repeat (first | refine ⟨fun _ => ?_, fun z => absurd rfl z⟩ | refine ⟨fun z => absurd z (by decide), fun _ => ?_⟩)
  rw [hF.2.1.1.2.2.2.1]; exact h
theorem F_told_4 (hA : VA co r U T sd I G K) (hF : RF μ co r U T fp sd I G K) (h : Q (nI (co 0 4))) : w_X6_told (nI 4) μ Q := by
  unfold w_X6_told
  repeat (first | refine ⟨fun _ => ?_, fun z => absurd rfl z⟩ | refine ⟨fun z => absurd z (by decide), fun _ => ?_⟩)
  rw [hF.2.1.1.2.2.2.2]; exact h
theorem F_told_5 (hA : VA co r U T sd I G K) (hF : RF μ co r U T fp sd I G K) (h : Q (nI (T.1))) : w_X6_told (nI 5) μ Q := by
  unfold w_X6_told
  repeat (first | refine ⟨fun _ => ?_, fun z => absurd rfl z⟩ | refine ⟨fun z => absurd z (by decide), fun _ => ?_⟩)
  rw [hF.2.2.2.2.2.1.1]; exact h
theorem F_told_6 (hA : VA co r U T sd I G K) (hF : RF μ co r U T fp sd I G K) (h : Q (nI (r 0))) : w_X6_told (nI 6) μ Q := by
  unfold w_X6_told
  repeat (first | refine ⟨fun _ => ?_, fun z => absurd rfl z⟩ | refine ⟨fun z => absurd z (by decide), fun _ => ?_⟩)
  rw [hF.2.2.2.1.1.1]; exact h
theorem F_told_7 (hA : VA co r U T sd I G K) (hF : RF μ co r U T fp sd I G K) (h : Q (nI (r 1))) : w_X6_told (nI 7) μ Q := by
  unfold w_X6_told
  repeat (first | refine ⟨fun _ => ?_, fun z => absurd rfl z⟩ | refine ⟨fun z => absurd z (by decide), fun _ => ?_⟩)
  rw [hF.2.2.2.1.1.2.1]; exact h
theorem F_told_8 (hA : VA co r U T sd I G K) (hF : RF μ co r U T fp sd I G K) (h : Q (nI (r 2))) : w_X6_told (nI 8) μ Q := by
  unfold w_X6_told
  repeat (first | refine ⟨fun _ => ?_, fun z => absurd rfl z⟩ | refine ⟨fun z => absurd z (by decide), fun _ => ?_⟩)
  have h2 := hA.2.1.2.2.1
  rw [hF.2.2.2.1.1.2.2.1, z_eq0 (by omega)]
  refine ⟨fun q => ?_, fun q => ?_⟩
  · rw [q] at h; exact h
  · rw [show r 2 = 1 by omega] at h; exact h
theorem F_told_9 (hA : VA co r U T sd I G K) (hF : RF μ co r U T fp sd I G K) (h : Q (nI (hs co (r 0)))) : w_X6_told (nI 9) μ Q := by
  unfold w_X6_told
  repeat (first | refine ⟨fun _ => ?_, fun z => absurd rfl z⟩ | refine ⟨fun z => absurd z (by decide), fun _ => ?_⟩)
  exact F_hang hA hF h
theorem F_told_10 (hA : VA co r U T sd I G K) (hF : RF μ co r U T fp sd I G K) (h : Q (nI (sumN (fun p => r (9 + p)) (co 0 3)))) : w_X6_told (nI 10) μ Q := by
  unfold w_X6_told
  repeat (first | refine ⟨fun _ => ?_, fun z => absurd rfl z⟩ | refine ⟨fun z => absurd z (by decide), fun _ => ?_⟩)
  exact F_inJars hF.2.2.2.1 hA.1.2.2.2.1 (fun p hp => by have := (hA.2.1.2.2.2.2.2.2.2.2.2.1 p hp).1; have := hA.1.2.2.2.2.2.2.2.2.1 p hp; omega) h
theorem F_told_11 (hA : VA co r U T sd I G K) (hF : RF μ co r U T fp sd I G K) (h : Q (nI (r 3))) : w_X6_told (nI 11) μ Q := by
  unfold w_X6_told
  repeat (first | refine ⟨fun _ => ?_, fun z => absurd rfl z⟩ | refine ⟨fun z => absurd z (by decide), fun _ => ?_⟩)
  rw [hF.2.2.2.1.1.2.2.2.1]; exact h
theorem F_told_12 (hA : VA co r U T sd I G K) (hF : RF μ co r U T fp sd I G K) (h : Q (nI (r 4))) : w_X6_told (nI 12) μ Q := by
  unfold w_X6_told
  repeat (first | refine ⟨fun _ => ?_, fun z => absurd rfl z⟩ | refine ⟨fun z => absurd z (by decide), fun _ => ?_⟩)
  rw [hF.2.2.2.1.1.2.2.2.2]; exact h
theorem F_told_13 (hA : VA co r U T sd I G K) (hF : RF μ co r U T fp sd I G K) (h : Q (nI (G.1))) : w_X6_told (nI 13) μ Q := by
  unfold w_X6_told
  repeat (first | refine ⟨fun _ => ?_, fun z => absurd rfl z⟩ | refine ⟨fun z => absurd z (by decide), fun _ => ?_⟩)
  rw [hF.2.2.2.2.2.2.2.2.2.1.1]; exact h
theorem F_told_14 (hA : VA co r U T sd I G K) (hF : RF μ co r U T fp sd I G K) (h : Q (nI (K.1))) : w_X6_told (nI 14) μ Q := by
  unfold w_X6_told
  repeat (first | refine ⟨fun _ => ?_, fun z => absurd rfl z⟩ | refine ⟨fun z => absurd z (by decide), fun _ => ?_⟩)
  rw [hF.2.2.2.2.2.2.2.2.2.2.1]; exact h
theorem F_told_15 (hA : VA co r U T sd I G K) (hF : RF μ co r U T fp sd I G K) (h : Q (nI (U.1))) : w_X6_told (nI 15) μ Q := by
  unfold w_X6_told
  repeat (first | refine ⟨fun _ => ?_, fun z => absurd rfl z⟩ | refine ⟨fun z => absurd z (by decide), fun _ => ?_⟩)
  obtain ⟨o, ho, e1, e2, hi⟩ := hF.2.2.2.2.1
  rw [e2]; exact h
theorem F_told_out {a : Int32} (hn : ∀ k, k ≤ 15 → ¬ a = nI k) (h : Q (-1000000002)) : w_X6_told a μ Q := by
  unfold w_X6_told
  exact ⟨fun z => absurd z (hn 0 (by decide)), fun _ => ⟨fun z => absurd z (hn 1 (by decide)), fun _ => ⟨fun z => absurd z (hn 2 (by decide)), fun _ => ⟨fun z => absurd z (hn 3 (by decide)), fun _ => ⟨fun z => absurd z (hn 4 (by decide)), fun _ => ⟨fun z => absurd z (hn 5 (by decide)), fun _ => ⟨fun z => absurd z (hn 6 (by decide)), fun _ => ⟨fun z => absurd z (hn 7 (by decide)), fun _ => ⟨fun z => absurd z (hn 8 (by decide)), fun _ => ⟨fun z => absurd z (hn 9 (by decide)), fun _ => ⟨fun z => absurd z (hn 10 (by decide)), fun _ => ⟨fun z => absurd z (hn 11 (by decide)), fun _ => ⟨fun z => absurd z (hn 12 (by decide)), fun _ => ⟨fun z => absurd z (hn 13 (by decide)), fun _ => ⟨fun z => absurd z (hn 14 (by decide)), fun _ => ⟨fun z => absurd z (hn 15 (by decide)), fun _ => h⟩⟩⟩⟩⟩⟩⟩⟩⟩⟩⟩⟩⟩⟩⟩⟩
theorem outs_ne {a : Int32} {lo hi : Nat} (hh : hi < 2147483648) (ho : a < nI lo ∨ nI hi < a) : ∀ k, lo ≤ k → k ≤ hi → ¬ a = nI k := by
  intro k h1 h2 e
  subst e
  rcases ho with z | z
  · rw [z_lt (by omega) (by omega)] at z; omega
  · rw [z_lt (by omega) (by omega)] at z; omega
end TELL
section TELL2
variable {μ ν : Mem} {co : Co} {r : Ro} {U : Un} {T : Tx} {fp : Int32} {sd : Nat} {I : Im} {G K : Gt} {Q : Int32 → Prop}
theorem F_post_0 {p : Nat} (hA : VA co r U T sd I G K) (hF : RF μ co r U T fp sd I G K) (hp : p < co 0 3) (h : Q (nI (r (15 + p)))) : w_X6_post (nI p) (nI 0) μ Q := by
  have hn := hA.1.2.2.2.1
  unfold w_X6_post
  refine F_isPost_in hF hA.1 hp ⟨fun _ => ?_, fun z => absurd z (by decide)⟩
  repeat (first | refine ⟨fun _ => ?_, fun z => absurd rfl z⟩ | refine ⟨fun z => absurd z (by decide), fun _ => ?_⟩)
  refine F_at (n := 6) (st_n1 st_25) (by decide) (by omega) ?_
  rw [(hF.2.2.2.1.2.1 p hp).1]; exact h
theorem F_post_1 {p : Nat} (hA : VA co r U T sd I G K) (hF : RF μ co r U T fp sd I G K) (hp : p < co 0 3) (h : Q (nI (r (21 + p)))) : w_X6_post (nI p) (nI 1) μ Q := by
  have hn := hA.1.2.2.2.1
  unfold w_X6_post
  refine F_isPost_in hF hA.1 hp ⟨fun _ => ?_, fun z => absurd z (by decide)⟩
  repeat (first | refine ⟨fun _ => ?_, fun z => absurd rfl z⟩ | refine ⟨fun z => absurd z (by decide), fun _ => ?_⟩)
  refine F_at (n := 6) (st_n2 st_25) (by decide) (by omega) ?_
  rw [(hF.2.2.2.1.2.1 p hp).2.1]; exact h
theorem F_post_2 {p : Nat} (hA : VA co r U T sd I G K) (hF : RF μ co r U T fp sd I G K) (hp : p < co 0 3) (h : Q (nI (co 3 p))) : w_X6_post (nI p) (nI 2) μ Q := by
  have hn := hA.1.2.2.2.1
  unfold w_X6_post
  refine F_isPost_in hF hA.1 hp ⟨fun _ => ?_, fun z => absurd z (by decide)⟩
  repeat (first | refine ⟨fun _ => ?_, fun z => absurd rfl z⟩ | refine ⟨fun z => absurd z (by decide), fun _ => ?_⟩)
  refine F_at (n := 6) (co_n5 hF.1.1) (by decide) (by omega) ?_
  rw [(hF.2.1.2.2.1 p hp).1]; exact h
theorem F_post_3 {p : Nat} (hA : VA co r U T sd I G K) (hF : RF μ co r U T fp sd I G K) (hp : p < co 0 3) (h : Q (nI (co 4 p))) : w_X6_post (nI p) (nI 3) μ Q := by
  have hn := hA.1.2.2.2.1
  unfold w_X6_post
  refine F_isPost_in hF hA.1 hp ⟨fun _ => ?_, fun z => absurd z (by decide)⟩
  repeat (first | refine ⟨fun _ => ?_, fun z => absurd rfl z⟩ | refine ⟨fun z => absurd z (by decide), fun _ => ?_⟩)
  refine F_at (n := 6) (co_n6 hF.1.1) (by decide) (by omega) ?_
  rw [(hF.2.1.2.2.1 p hp).2]; exact h
theorem F_post_4 {p : Nat} (hA : VA co r U T sd I G K) (hF : RF μ co r U T fp sd I G K) (hp : p < co 0 3) (h : Q (nI (r (9 + p)))) : w_X6_post (nI p) (nI 4) μ Q := by
  have hn := hA.1.2.2.2.1
  unfold w_X6_post
  refine F_isPost_in hF hA.1 hp ⟨fun _ => ?_, fun z => absurd z (by decide)⟩
  repeat (first | refine ⟨fun _ => ?_, fun z => absurd rfl z⟩ | refine ⟨fun z => absurd z (by decide), fun _ => ?_⟩)
  refine F_at (n := 6) (st_n3 st_25) (by decide) (by omega) ?_
  rw [(hF.2.2.2.1.2.1 p hp).2.2]; exact h
theorem F_village_0 {v : Nat} (hA : VA co r U T sd I G K) (hF : RF μ co r U T fp sd I G K) (hv2 : v < 2) (h : Q (nI (co 5 v))) : w_X6_village (nI v) (nI 0) μ Q := by
  unfold w_X6_village
  refine F_isVillage_in hv2 ⟨fun _ => ?_, fun z => absurd z (by decide)⟩
  repeat (first | refine ⟨fun _ => ?_, fun z => absurd rfl z⟩ | refine ⟨fun z => absurd z (by decide), fun _ => ?_⟩)
  refine F_at (n := 2) (co_n7 hF.1.1) (by decide) (by omega) ?_
  rw [(hF.2.1.2.2.2.2.2.1 v hv2).1]; exact h
theorem F_village_1 {v : Nat} (hA : VA co r U T sd I G K) (hF : RF μ co r U T fp sd I G K) (hv2 : v < 2) (h : Q (nI (co 6 v))) : w_X6_village (nI v) (nI 1) μ Q := by
  unfold w_X6_village
  refine F_isVillage_in hv2 ⟨fun _ => ?_, fun z => absurd z (by decide)⟩
  repeat (first | refine ⟨fun _ => ?_, fun z => absurd rfl z⟩ | refine ⟨fun z => absurd z (by decide), fun _ => ?_⟩)
  refine F_at (n := 2) (co_n8 hF.1.1) (by decide) (by omega) ?_
  rw [(hF.2.1.2.2.2.2.2.1 v hv2).2]; exact h
theorem F_village_2 {v : Nat} (hA : VA co r U T sd I G K) (hF : RF μ co r U T fp sd I G K) (hv2 : v < 2) (h : Q (nI (r (5 + v)))) : w_X6_village (nI v) (nI 2) μ Q := by
  unfold w_X6_village
  refine F_isVillage_in hv2 ⟨fun _ => ?_, fun z => absurd z (by decide)⟩
  repeat (first | refine ⟨fun _ => ?_, fun z => absurd rfl z⟩ | refine ⟨fun z => absurd z (by decide), fun _ => ?_⟩)
  refine F_at (n := 2) (st_n4 st_25) (by decide) (by omega) ?_
  rw [(hF.2.2.2.1.2.2.2 v hv2).1]; exact h
theorem F_village_3 {v : Nat} (hA : VA co r U T sd I G K) (hF : RF μ co r U T fp sd I G K) (hv2 : v < 2) (h : Q (nI (r (7 + v)))) : w_X6_village (nI v) (nI 3) μ Q := by
  unfold w_X6_village
  refine F_isVillage_in hv2 ⟨fun _ => ?_, fun z => absurd z (by decide)⟩
  repeat (first | refine ⟨fun _ => ?_, fun z => absurd rfl z⟩ | refine ⟨fun z => absurd z (by decide), fun _ => ?_⟩)
  refine F_at (n := 2) (st_n5 st_25) (by decide) (by omega) ?_
  rw [(hF.2.2.2.1.2.2.2 v hv2).2]; exact h
theorem F_village_4 {v : Nat} (hA : VA co r U T sd I G K) (hF : RF μ co r U T fp sd I G K) (hv2 : v < 2) (h : Q (nI (hsN (fun p => decide (co 4 p = v)) (co 0 3)))) : w_X6_village (nI v) (nI 4) μ Q := by
  unfold w_X6_village
  refine F_isVillage_in hv2 ⟨fun _ => ?_, fun z => absurd z (by decide)⟩
  repeat (first | refine ⟨fun _ => ?_, fun z => absurd rfl z⟩ | refine ⟨fun z => absurd z (by decide), fun _ => ?_⟩)
  exact F_postsOf hF.2.1 hA.1 hv2 h
end TELL2
/-! a letter more -/
theorem RF.text {μ μ1 : Mem} {co : Co} {r : Ro} {U : Un} {T T1 : Tx} {fp fp1 : Int32} {sd : Nat} {I : Im} {G K : Gt} (h : RF μ co r U T fp sd I G K) (h2 : μ1.2 = μ.2) (hf : ∀ k, k ≠ 1 → k ≠ 2 → μ1.1 k = μ.1 k) (h5 : μ1.1 1 5 = fp1) (ht : TxF μ1 T1) : RF μ1 co r U T1 fp1 sd I G K := by
  obtain ⟨a1, a2, a3, a4, a5, a6, a7, a8, a9, a10, a11⟩ := h
  have hd := co_far a1.2.1
  have hd0 := co_far a1.1
  refine ⟨by rw [h2]; exact a1, ?_, ?_, a4.fr (fun k _ _ => hf k (by omega) (by omega)), a5.fr (fun k _ _ => hf k (by omega) (by omega)), ht, h5, ?_, a9.fr (fun k _ _ => hf k (by omega) (by omega)), a10.fr (fun k _ _ => hf k (by omega) (by omega)), a11.fr (fun k _ _ => hf k (by omega) (by omega))⟩
  · rw [h2]; exact a2.fr a1.1 (fun k _ _ => hf k (by omega) (by omega))
  · rw [h2, hf (μ.2.2 1 + 5) (by omega) (by omega)]; exact a3
  · rw [hf 0 (by omega) (by omega)]; exact a8
def fedT (T : Tx) (x : Nat) : Tx := (T.1 + 1, fun i => if i = T.1 then x else T.2 i)
