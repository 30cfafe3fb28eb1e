/-! ===== told, post, fog, village, goat, fault, feed ===== -/
section TELL
variable {μ ν : Mem} {co : Co} {r : Ro} {U : Un} {T : Tx} {fp : Int32} {sd : Nat} {I : Im} {G K : Gt} {Q : Int32 → Prop}
theorem F_told_0 (hA : VA co r U T sd I G K) (hF : RF μ co r U T fp sd I G K) (h : Q (nI (co 0 0))) : w_X6_told (nI 0) μ Q := by
  unfold w_X6_told
  repeat (first | refine ⟨fun _ => ?_, fun z => absurd rfl z⟩ | refine ⟨fun z => absurd z (by decide), fun _ => ?_⟩)
  rw [hF.2.1.1.1]; exact h
theorem M_told_0 (hA : VA co r U T sd I G K) (hM : RM ν co r U T fp sd I G K) (h : Q (nI (co 0 0))) : w_X7_told (nI 0) ν Q := by
  unfold w_X7_told
  repeat (first | refine ⟨fun _ => ?_, fun z => absurd rfl z⟩ | refine ⟨fun z => absurd z (by decide), fun _ => ?_⟩)
  rw [hM.1.1.2.1]; exact h
theorem F_told_1 (hA : VA co r U T sd I G K) (hF : RF μ co r U T fp sd I G K) (h : Q (nI (co 0 1))) : w_X6_told (nI 1) μ Q := by
  unfold w_X6_told
  repeat (first | refine ⟨fun _ => ?_, fun z => absurd rfl z⟩ | refine ⟨fun z => absurd z (by decide), fun _ => ?_⟩)
  rw [hF.2.1.1.2.1]; exact h
theorem M_told_1 (hA : VA co r U T sd I G K) (hM : RM ν co r U T fp sd I G K) (h : Q (nI (co 0 1))) : w_X7_told (nI 1) ν Q := by
  unfold w_X7_told
  repeat (first | refine ⟨fun _ => ?_, fun z => absurd rfl z⟩ | refine ⟨fun z => absurd z (by decide), fun _ => ?_⟩)
  rw [hM.1.1.2.2.1]; exact h
theorem F_told_2 (hA : VA co r U T sd I G K) (hF : RF μ co r U T fp sd I G K) (h : Q (nI ((if co 0 0 = 0 then 0 else dl co)))) : w_X6_told (nI 2) μ Q := by
  unfold w_X6_told
  repeat (first | refine ⟨fun _ => ?_, fun z => absurd rfl z⟩ | refine ⟨fun z => absurd z (by decide), fun _ => ?_⟩)
  exact F_hoursOfDay hF.2.1 hA.1 h
theorem M_told_2 (hA : VA co r U T sd I G K) (hM : RM ν co r U T fp sd I G K) (h : Q (nI ((if co 0 0 = 0 then 0 else dl co)))) : w_X7_told (nI 2) ν Q := by
  unfold w_X7_told
  repeat (first | refine ⟨fun _ => ?_, fun z => absurd rfl z⟩ | refine ⟨fun z => absurd z (by decide), fun _ => ?_⟩)
  exact M_dayLong hM.1 hA.1 h
theorem F_told_3 (hA : VA co r U T sd I G K) (hF : RF μ co r U T fp sd I G K) (h : Q (nI (co 0 3))) : w_X6_told (nI 3) μ Q := by
  unfold w_X6_told
  repeat (first | refine ⟨fun _ => ?_, fun z => absurd rfl z⟩ | refine ⟨fun z => absurd z (by decide), fun _ => ?_⟩)
  rw [hF.2.1.1.2.2.2.1]; exact h
theorem M_told_3 (hA : VA co r U T sd I G K) (hM : RM ν co r U T fp sd I G K) (h : Q (nI (co 0 3))) : w_X7_told (nI 3) ν Q := by
  unfold w_X7_told
  repeat (first | refine ⟨fun _ => ?_, fun z => absurd rfl z⟩ | refine ⟨fun z => absurd z (by decide), fun _ => ?_⟩)
  rw [hM.1.1.2.2.2.1]; exact h
theorem F_told_4 (hA : VA co r U T sd I G K) (hF : RF μ co r U T fp sd I G K) (h : Q (nI (co 0 4))) : w_X6_told (nI 4) μ Q := by
  unfold w_X6_told
  repeat (first | refine ⟨fun _ => ?_, fun z => absurd rfl z⟩ | refine ⟨fun z => absurd z (by decide), fun _ => ?_⟩)
  rw [hF.2.1.1.2.2.2.2]; exact h
theorem M_told_4 (hA : VA co r U T sd I G K) (hM : RM ν co r U T fp sd I G K) (h : Q (nI (co 0 4))) : w_X7_told (nI 4) ν Q := by
  unfold w_X7_told
  repeat (first | refine ⟨fun _ => ?_, fun z => absurd rfl z⟩ | refine ⟨fun z => absurd z (by decide), fun _ => ?_⟩)
  rw [hM.1.1.2.2.2.2.2]; exact h
theorem F_told_5 (hA : VA co r U T sd I G K) (hF : RF μ co r U T fp sd I G K) (h : Q (nI (T.1))) : w_X6_told (nI 5) μ Q := by
  unfold w_X6_told
  repeat (first | refine ⟨fun _ => ?_, fun z => absurd rfl z⟩ | refine ⟨fun z => absurd z (by decide), fun _ => ?_⟩)
  rw [hF.2.2.2.2.2.1.1]; exact h
theorem M_told_5 (hA : VA co r U T sd I G K) (hM : RM ν co r U T fp sd I G K) (h : Q (nI (T.1))) : w_X7_told (nI 5) ν Q := by
  unfold w_X7_told
  repeat (first | refine ⟨fun _ => ?_, fun z => absurd rfl z⟩ | refine ⟨fun z => absurd z (by decide), fun _ => ?_⟩)
  rw [hM.2.2.2.1.1]; exact h
theorem F_told_6 (hA : VA co r U T sd I G K) (hF : RF μ co r U T fp sd I G K) (h : Q (nI (r 0))) : w_X6_told (nI 6) μ Q := by
  unfold w_X6_told
  repeat (first | refine ⟨fun _ => ?_, fun z => absurd rfl z⟩ | refine ⟨fun z => absurd z (by decide), fun _ => ?_⟩)
  rw [hF.2.2.2.1.1.1]; exact h
theorem M_told_6 (hA : VA co r U T sd I G K) (hM : RM ν co r U T fp sd I G K) (h : Q (nI (r 0))) : w_X7_told (nI 6) ν Q := by
  unfold w_X7_told
  repeat (first | refine ⟨fun _ => ?_, fun z => absurd rfl z⟩ | refine ⟨fun z => absurd z (by decide), fun _ => ?_⟩)
  rw [z_cl (by decide), hM.2.1 0 (by decide)]; exact ⟨vp_in_nI (by decide) (by decide), h⟩
theorem F_told_7 (hA : VA co r U T sd I G K) (hF : RF μ co r U T fp sd I G K) (h : Q (nI (r 1))) : w_X6_told (nI 7) μ Q := by
  unfold w_X6_told
  repeat (first | refine ⟨fun _ => ?_, fun z => absurd rfl z⟩ | refine ⟨fun z => absurd z (by decide), fun _ => ?_⟩)
  rw [hF.2.2.2.1.1.2.1]; exact h
theorem M_told_7 (hA : VA co r U T sd I G K) (hM : RM ν co r U T fp sd I G K) (h : Q (nI (r 1))) : w_X7_told (nI 7) ν Q := by
  unfold w_X7_told
  repeat (first | refine ⟨fun _ => ?_, fun z => absurd rfl z⟩ | refine ⟨fun z => absurd z (by decide), fun _ => ?_⟩)
  rw [z_cl (by decide), hM.2.1 1 (by decide)]; exact ⟨vp_in_nI (by decide) (by decide), h⟩
theorem F_told_8 (hA : VA co r U T sd I G K) (hF : RF μ co r U T fp sd I G K) (h : Q (nI (r 2))) : w_X6_told (nI 8) μ Q := by
  unfold w_X6_told
  repeat (first | refine ⟨fun _ => ?_, fun z => absurd rfl z⟩ | refine ⟨fun z => absurd z (by decide), fun _ => ?_⟩)
  have h2 := hA.2.1.2.2.1
  rw [hF.2.2.2.1.1.2.2.1, z_eq0 (by omega)]
  refine ⟨fun q => ?_, fun q => ?_⟩
  · rw [q] at h; exact h
  · rw [show r 2 = 1 by omega] at h; exact h
theorem M_told_8 (hA : VA co r U T sd I G K) (hM : RM ν co r U T fp sd I G K) (h : Q (nI (r 2))) : w_X7_told (nI 8) ν Q := by
  unfold w_X7_told
  repeat (first | refine ⟨fun _ => ?_, fun z => absurd rfl z⟩ | refine ⟨fun z => absurd z (by decide), fun _ => ?_⟩)
  rw [z_cl (by decide), hM.2.1 2 (by decide)]; exact ⟨vp_in_nI (by decide) (by decide), h⟩
theorem F_told_9 (hA : VA co r U T sd I G K) (hF : RF μ co r U T fp sd I G K) (h : Q (nI (hs co (r 0)))) : w_X6_told (nI 9) μ Q := by
  unfold w_X6_told
  repeat (first | refine ⟨fun _ => ?_, fun z => absurd rfl z⟩ | refine ⟨fun z => absurd z (by decide), fun _ => ?_⟩)
  exact F_hang hA hF h
theorem M_told_9 (hA : VA co r U T sd I G K) (hM : RM ν co r U T fp sd I G K) (h : Q (nI (hs co (r 0)))) : w_X7_told (nI 9) ν Q := by
  unfold w_X7_told
  repeat (first | refine ⟨fun _ => ?_, fun z => absurd rfl z⟩ | refine ⟨fun z => absurd z (by decide), fun _ => ?_⟩)
  exact M_hang hA hM h
theorem F_told_10 (hA : VA co r U T sd I G K) (hF : RF μ co r U T fp sd I G K) (h : Q (nI (sumN (fun p => r (9 + p)) (co 0 3)))) : w_X6_told (nI 10) μ Q := by
  unfold w_X6_told
  repeat (first | refine ⟨fun _ => ?_, fun z => absurd rfl z⟩ | refine ⟨fun z => absurd z (by decide), fun _ => ?_⟩)
  exact F_inJars hF.2.2.2.1 hA.1.2.2.2.1 (fun p hp => by have := (hA.2.1.2.2.2.2.2.2.2.2.2.1 p hp).1; have := hA.1.2.2.2.2.2.2.2.2.1 p hp; omega) h
theorem M_told_10 (hA : VA co r U T sd I G K) (hM : RM ν co r U T fp sd I G K) (h : Q (nI (sumN (fun p => r (9 + p)) (co 0 3)))) : w_X7_told (nI 10) ν Q := by
  unfold w_X7_told
  repeat (first | refine ⟨fun _ => ?_, fun z => absurd rfl z⟩ | refine ⟨fun z => absurd z (by decide), fun _ => ?_⟩)
  exact M_jars hM.1 hA.1.2.2.2.1 hM.2.1 h
theorem F_told_11 (hA : VA co r U T sd I G K) (hF : RF μ co r U T fp sd I G K) (h : Q (nI (r 3))) : w_X6_told (nI 11) μ Q := by
  unfold w_X6_told
  repeat (first | refine ⟨fun _ => ?_, fun z => absurd rfl z⟩ | refine ⟨fun z => absurd z (by decide), fun _ => ?_⟩)
  rw [hF.2.2.2.1.1.2.2.2.1]; exact h
theorem M_told_11 (hA : VA co r U T sd I G K) (hM : RM ν co r U T fp sd I G K) (h : Q (nI (r 3))) : w_X7_told (nI 11) ν Q := by
  unfold w_X7_told
  repeat (first | refine ⟨fun _ => ?_, fun z => absurd rfl z⟩ | refine ⟨fun z => absurd z (by decide), fun _ => ?_⟩)
  rw [z_cl (by decide), hM.2.1 3 (by decide)]; exact ⟨vp_in_nI (by decide) (by decide), h⟩
theorem F_told_12 (hA : VA co r U T sd I G K) (hF : RF μ co r U T fp sd I G K) (h : Q (nI (r 4))) : w_X6_told (nI 12) μ Q := by
  unfold w_X6_told
  repeat (first | refine ⟨fun _ => ?_, fun z => absurd rfl z⟩ | refine ⟨fun z => absurd z (by decide), fun _ => ?_⟩)
  rw [hF.2.2.2.1.1.2.2.2.2]; exact h
theorem M_told_12 (hA : VA co r U T sd I G K) (hM : RM ν co r U T fp sd I G K) (h : Q (nI (r 4))) : w_X7_told (nI 12) ν Q := by
  unfold w_X7_told
  repeat (first | refine ⟨fun _ => ?_, fun z => absurd rfl z⟩ | refine ⟨fun z => absurd z (by decide), fun _ => ?_⟩)
  rw [z_cl (by decide), hM.2.1 4 (by decide)]; exact ⟨vp_in_nI (by decide) (by decide), h⟩
theorem F_told_13 (hA : VA co r U T sd I G K) (hF : RF μ co r U T fp sd I G K) (h : Q (nI (G.1))) : w_X6_told (nI 13) μ Q := by
  unfold w_X6_told
  repeat (first | refine ⟨fun _ => ?_, fun z => absurd rfl z⟩ | refine ⟨fun z => absurd z (by decide), fun _ => ?_⟩)
  rw [hF.2.2.2.2.2.2.2.2.2.1.1]; exact h
theorem M_told_13 (hA : VA co r U T sd I G K) (hM : RM ν co r U T fp sd I G K) (h : Q (nI (G.1))) : w_X7_told (nI 13) ν Q := by
  unfold w_X7_told
  repeat (first | refine ⟨fun _ => ?_, fun z => absurd rfl z⟩ | refine ⟨fun z => absurd z (by decide), fun _ => ?_⟩)
  rw [hM.2.2.2.2.2.2.2.1.1]; exact h
theorem F_told_14 (hA : VA co r U T sd I G K) (hF : RF μ co r U T fp sd I G K) (h : Q (nI (K.1))) : w_X6_told (nI 14) μ Q := by
  unfold w_X6_told
  repeat (first | refine ⟨fun _ => ?_, fun z => absurd rfl z⟩ | refine ⟨fun z => absurd z (by decide), fun _ => ?_⟩)
  rw [hF.2.2.2.2.2.2.2.2.2.2.1]; exact h
theorem M_told_14 (hA : VA co r U T sd I G K) (hM : RM ν co r U T fp sd I G K) (h : Q (nI (K.1))) : w_X7_told (nI 14) ν Q := by
  unfold w_X7_told
  repeat (first | refine ⟨fun _ => ?_, fun z => absurd rfl z⟩ | refine ⟨fun z => absurd z (by decide), fun _ => ?_⟩)
  rw [hM.2.2.2.2.2.2.2.2.1]; exact h
theorem F_told_15 (hA : VA co r U T sd I G K) (hF : RF μ co r U T fp sd I G K) (h : Q (nI (U.1))) : w_X6_told (nI 15) μ Q := by
  unfold w_X6_told
  repeat (first | refine ⟨fun _ => ?_, fun z => absurd rfl z⟩ | refine ⟨fun z => absurd z (by decide), fun _ => ?_⟩)
  obtain ⟨o, ho, e1, e2, hi⟩ := hF.2.2.2.2.1
  rw [e2]; exact h
theorem M_told_15 (hA : VA co r U T sd I G K) (hM : RM ν co r U T fp sd I G K) (h : Q (nI (U.1))) : w_X7_told (nI 15) ν Q := by
  unfold w_X7_told
  repeat (first | refine ⟨fun _ => ?_, fun z => absurd rfl z⟩ | refine ⟨fun z => absurd z (by decide), fun _ => ?_⟩)
  obtain ⟨o, ho, e1, e2, hi⟩ := hM.2.2.1
  rw [e2]; exact h
theorem F_told_out {a : Int32} (hn : ∀ k, k ≤ 15 → ¬ a = nI k) (h : Q (-1000000002)) : w_X6_told a μ Q := by
  unfold w_X6_told
  exact ⟨fun z => absurd z (hn 0 (by decide)), fun _ => ⟨fun z => absurd z (hn 1 (by decide)), fun _ => ⟨fun z => absurd z (hn 2 (by decide)), fun _ => ⟨fun z => absurd z (hn 3 (by decide)), fun _ => ⟨fun z => absurd z (hn 4 (by decide)), fun _ => ⟨fun z => absurd z (hn 5 (by decide)), fun _ => ⟨fun z => absurd z (hn 6 (by decide)), fun _ => ⟨fun z => absurd z (hn 7 (by decide)), fun _ => ⟨fun z => absurd z (hn 8 (by decide)), fun _ => ⟨fun z => absurd z (hn 9 (by decide)), fun _ => ⟨fun z => absurd z (hn 10 (by decide)), fun _ => ⟨fun z => absurd z (hn 11 (by decide)), fun _ => ⟨fun z => absurd z (hn 12 (by decide)), fun _ => ⟨fun z => absurd z (hn 13 (by decide)), fun _ => ⟨fun z => absurd z (hn 14 (by decide)), fun _ => ⟨fun z => absurd z (hn 15 (by decide)), fun _ => h⟩⟩⟩⟩⟩⟩⟩⟩⟩⟩⟩⟩⟩⟩⟩⟩
theorem M_told_out {a : Int32} (hn : ∀ k, k ≤ 15 → ¬ a = nI k) (h : Q (-1000000002)) : w_X7_told a ν Q := by
  unfold w_X7_told
  exact ⟨fun z => absurd z (hn 0 (by decide)), fun _ => ⟨fun z => absurd z (hn 1 (by decide)), fun _ => ⟨fun z => absurd z (hn 2 (by decide)), fun _ => ⟨fun z => absurd z (hn 3 (by decide)), fun _ => ⟨fun z => absurd z (hn 4 (by decide)), fun _ => ⟨fun z => absurd z (hn 5 (by decide)), fun _ => ⟨fun z => absurd z (hn 6 (by decide)), fun _ => ⟨fun z => absurd z (hn 7 (by decide)), fun _ => ⟨fun z => absurd z (hn 8 (by decide)), fun _ => ⟨fun z => absurd z (hn 9 (by decide)), fun _ => ⟨fun z => absurd z (hn 10 (by decide)), fun _ => ⟨fun z => absurd z (hn 11 (by decide)), fun _ => ⟨fun z => absurd z (hn 12 (by decide)), fun _ => ⟨fun z => absurd z (hn 13 (by decide)), fun _ => ⟨fun z => absurd z (hn 14 (by decide)), fun _ => ⟨fun z => absurd z (hn 15 (by decide)), fun _ => h⟩⟩⟩⟩⟩⟩⟩⟩⟩⟩⟩⟩⟩⟩⟩⟩
theorem outs_ne {a : Int32} {lo hi : Nat} (hh : hi < 2147483648) (ho : a < nI lo ∨ nI hi < a) : ∀ k, lo ≤ k → k ≤ hi → ¬ a = nI k := by
  intro k h1 h2 e
  subst e
  rcases ho with z | z
  · rw [z_lt (by omega) (by omega)] at z; omega
  · rw [z_lt (by omega) (by omega)] at z; omega
end TELL
theorem P_told {μ ν : Mem} {a : Int32} (h : Rel μ ν) : w_X6_told a μ (fun x => w_X7_told a ν (fun y => x = y)) := by
  obtain ⟨co, r, U, T, fp, sd, I, G, K, hA, hF, hM⟩ := h
  rcases z_cases a 0 15 (by decide) (by decide) with ⟨k, h1, h2, rfl⟩ | ho
  · rcases (by omega : k = 0 ∨ k = 1 ∨ k = 2 ∨ k = 3 ∨ k = 4 ∨ k = 5 ∨ k = 6 ∨ k = 7 ∨ k = 8 ∨ k = 9 ∨ k = 10 ∨ k = 11 ∨ k = 12 ∨ k = 13 ∨ k = 14 ∨ k = 15) with rfl | rfl | rfl | rfl | rfl | rfl | rfl | rfl | rfl | rfl | rfl | rfl | rfl | rfl | rfl | rfl
    · exact F_told_0 hA hF (M_told_0 hA hM rfl)
    · exact F_told_1 hA hF (M_told_1 hA hM rfl)
    · exact F_told_2 hA hF (M_told_2 hA hM rfl)
    · exact F_told_3 hA hF (M_told_3 hA hM rfl)
    · exact F_told_4 hA hF (M_told_4 hA hM rfl)
    · exact F_told_5 hA hF (M_told_5 hA hM rfl)
    · exact F_told_6 hA hF (M_told_6 hA hM rfl)
    · exact F_told_7 hA hF (M_told_7 hA hM rfl)
    · exact F_told_8 hA hF (M_told_8 hA hM rfl)
    · exact F_told_9 hA hF (M_told_9 hA hM rfl)
    · exact F_told_10 hA hF (M_told_10 hA hM rfl)
    · exact F_told_11 hA hF (M_told_11 hA hM rfl)
    · exact F_told_12 hA hF (M_told_12 hA hM rfl)
    · exact F_told_13 hA hF (M_told_13 hA hM rfl)
    · exact F_told_14 hA hF (M_told_14 hA hM rfl)
    · exact F_told_15 hA hF (M_told_15 hA hM rfl)
  · have hn := fun k hk => outs_ne (by decide) ho k (Nat.zero_le _) hk
    exact F_told_out hn (M_told_out hn rfl)
theorem P_fault {μ ν : Mem} (h : Rel μ ν) : w_X6_fault μ (fun x => w_X7_fault ν (fun y => x = y)) := by
  obtain ⟨co, r, U, T, fp, sd, I, G, K, hA, hF, hM⟩ := h
  unfold w_X6_fault w_X7_fault
  rw [hF.2.2.2.2.2.2.1, hM.2.2.2.2.1]
section TELL2
variable {μ ν : Mem} {co : Co} {r : Ro} {U : Un} {T : Tx} {fp : Int32} {sd : Nat} {I : Im} {G K : Gt} {Q : Int32 → Prop}
theorem F_post_0 {p : Nat} (hA : VA co r U T sd I G K) (hF : RF μ co r U T fp sd I G K) (hp : p < co 0 3) (h : Q (nI (r (15 + p)))) : w_X6_post (nI p) (nI 0) μ Q := by
  have hn := hA.1.2.2.2.1
  unfold w_X6_post
  refine F_isPost_in hF hA.1 hp ⟨fun _ => ?_, fun z => absurd z (by decide)⟩
  repeat (first | refine ⟨fun _ => ?_, fun z => absurd rfl z⟩ | refine ⟨fun z => absurd z (by decide), fun _ => ?_⟩)
  refine F_at (n := 6) (st_n1 st_25) (by decide) (by omega) ?_
  rw [(hF.2.2.2.1.2.1 p hp).1]; exact h
theorem M_post_0 {p : Nat} (hA : VA co r U T sd I G K) (hM : RM ν co r U T fp sd I G K) (hp : p < co 0 3) (h : Q (nI (r (15 + p)))) : w_X7_post (nI p) (nI 0) ν Q := by
  have hn := hA.1.2.2.2.1
  unfold w_X7_post
  refine M_isPost_in hM hA.1 hp ⟨fun _ => ?_, fun z => absurd z (by decide)⟩
  repeat (first | refine ⟨fun _ => ?_, fun z => absurd rfl z⟩ | refine ⟨fun z => absurd z (by decide), fun _ => ?_⟩)
  rw [z_add, z_cl (by omega), hM.2.1 (15 + p) (by omega)]; exact ⟨vp_in_nI (by omega) (by decide), h⟩
theorem F_post_1 {p : Nat} (hA : VA co r U T sd I G K) (hF : RF μ co r U T fp sd I G K) (hp : p < co 0 3) (h : Q (nI (r (21 + p)))) : w_X6_post (nI p) (nI 1) μ Q := by
  have hn := hA.1.2.2.2.1
  unfold w_X6_post
  refine F_isPost_in hF hA.1 hp ⟨fun _ => ?_, fun z => absurd z (by decide)⟩
  repeat (first | refine ⟨fun _ => ?_, fun z => absurd rfl z⟩ | refine ⟨fun z => absurd z (by decide), fun _ => ?_⟩)
  refine F_at (n := 6) (st_n2 st_25) (by decide) (by omega) ?_
  rw [(hF.2.2.2.1.2.1 p hp).2.1]; exact h
theorem M_post_1 {p : Nat} (hA : VA co r U T sd I G K) (hM : RM ν co r U T fp sd I G K) (hp : p < co 0 3) (h : Q (nI (r (21 + p)))) : w_X7_post (nI p) (nI 1) ν Q := by
  have hn := hA.1.2.2.2.1
  unfold w_X7_post
  refine M_isPost_in hM hA.1 hp ⟨fun _ => ?_, fun z => absurd z (by decide)⟩
  repeat (first | refine ⟨fun _ => ?_, fun z => absurd rfl z⟩ | refine ⟨fun z => absurd z (by decide), fun _ => ?_⟩)
  rw [z_add, z_cl (by omega), hM.2.1 (21 + p) (by omega)]; exact ⟨vp_in_nI (by omega) (by decide), h⟩
theorem F_post_2 {p : Nat} (hA : VA co r U T sd I G K) (hF : RF μ co r U T fp sd I G K) (hp : p < co 0 3) (h : Q (nI (co 3 p))) : w_X6_post (nI p) (nI 2) μ Q := by
  have hn := hA.1.2.2.2.1
  unfold w_X6_post
  refine F_isPost_in hF hA.1 hp ⟨fun _ => ?_, fun z => absurd z (by decide)⟩
  repeat (first | refine ⟨fun _ => ?_, fun z => absurd rfl z⟩ | refine ⟨fun z => absurd z (by decide), fun _ => ?_⟩)
  refine F_at (n := 6) (co_n5 hF.1.1) (by decide) (by omega) ?_
  rw [(hF.2.1.2.2.1 p hp).1]; exact h
theorem M_post_2 {p : Nat} (hA : VA co r U T sd I G K) (hM : RM ν co r U T fp sd I G K) (hp : p < co 0 3) (h : Q (nI (co 3 p))) : w_X7_post (nI p) (nI 2) ν Q := by
  have hn := hA.1.2.2.2.1
  unfold w_X7_post
  refine M_isPost_in hM hA.1 hp ⟨fun _ => ?_, fun z => absurd z (by decide)⟩
  repeat (first | refine ⟨fun _ => ?_, fun z => absurd rfl z⟩ | refine ⟨fun z => absurd z (by decide), fun _ => ?_⟩)
  rw [z_cl (by omega), (hM.1.2.2.1 p hp).1]; exact ⟨vp_in_nI (by omega) (by decide), h⟩
theorem F_post_3 {p : Nat} (hA : VA co r U T sd I G K) (hF : RF μ co r U T fp sd I G K) (hp : p < co 0 3) (h : Q (nI (co 4 p))) : w_X6_post (nI p) (nI 3) μ Q := by
  have hn := hA.1.2.2.2.1
  unfold w_X6_post
  refine F_isPost_in hF hA.1 hp ⟨fun _ => ?_, fun z => absurd z (by decide)⟩
  repeat (first | refine ⟨fun _ => ?_, fun z => absurd rfl z⟩ | refine ⟨fun z => absurd z (by decide), fun _ => ?_⟩)
  refine F_at (n := 6) (co_n6 hF.1.1) (by decide) (by omega) ?_
  rw [(hF.2.1.2.2.1 p hp).2]; exact h
theorem M_post_3 {p : Nat} (hA : VA co r U T sd I G K) (hM : RM ν co r U T fp sd I G K) (hp : p < co 0 3) (h : Q (nI (co 4 p))) : w_X7_post (nI p) (nI 3) ν Q := by
  have hn := hA.1.2.2.2.1
  unfold w_X7_post
  refine M_isPost_in hM hA.1 hp ⟨fun _ => ?_, fun z => absurd z (by decide)⟩
  repeat (first | refine ⟨fun _ => ?_, fun z => absurd rfl z⟩ | refine ⟨fun z => absurd z (by decide), fun _ => ?_⟩)
  rw [z_cl (by omega), (hM.1.2.2.1 p hp).2]; exact ⟨vp_in_nI (by omega) (by decide), h⟩
theorem F_post_4 {p : Nat} (hA : VA co r U T sd I G K) (hF : RF μ co r U T fp sd I G K) (hp : p < co 0 3) (h : Q (nI (r (9 + p)))) : w_X6_post (nI p) (nI 4) μ Q := by
  have hn := hA.1.2.2.2.1
  unfold w_X6_post
  refine F_isPost_in hF hA.1 hp ⟨fun _ => ?_, fun z => absurd z (by decide)⟩
  repeat (first | refine ⟨fun _ => ?_, fun z => absurd rfl z⟩ | refine ⟨fun z => absurd z (by decide), fun _ => ?_⟩)
  refine F_at (n := 6) (st_n3 st_25) (by decide) (by omega) ?_
  rw [(hF.2.2.2.1.2.1 p hp).2.2]; exact h
theorem M_post_4 {p : Nat} (hA : VA co r U T sd I G K) (hM : RM ν co r U T fp sd I G K) (hp : p < co 0 3) (h : Q (nI (r (9 + p)))) : w_X7_post (nI p) (nI 4) ν Q := by
  have hn := hA.1.2.2.2.1
  unfold w_X7_post
  refine M_isPost_in hM hA.1 hp ⟨fun _ => ?_, fun z => absurd z (by decide)⟩
  repeat (first | refine ⟨fun _ => ?_, fun z => absurd rfl z⟩ | refine ⟨fun z => absurd z (by decide), fun _ => ?_⟩)
  rw [z_add, z_cl (by omega), hM.2.1 (9 + p) (by omega)]; exact ⟨vp_in_nI (by omega) (by decide), h⟩
theorem P_post {μ ν : Mem} {a b : Int32} (h : Rel μ ν) : w_X6_post a b μ (fun x => w_X7_post a b ν (fun y => x = y)) := by
  obtain ⟨co, r, U, T, fp, sd, I, G, K, hA, hF, hM⟩ := h
  have hv := hA.1
  rcases upto a (co 0 3) with ⟨p, hp, rfl⟩ | ho
  · rcases z_cases b 0 4 (by decide) (by decide) with ⟨k, h1, h2, rfl⟩ | hb
    · rcases (by omega : k = 0 ∨ k = 1 ∨ k = 2 ∨ k = 3 ∨ k = 4) with rfl | rfl | rfl | rfl | rfl
      · exact F_post_0 hA hF hp (M_post_0 hA hM hp rfl)
      · exact F_post_1 hA hF hp (M_post_1 hA hM hp rfl)
      · exact F_post_2 hA hF hp (M_post_2 hA hM hp rfl)
      · exact F_post_3 hA hF hp (M_post_3 hA hM hp rfl)
      · exact F_post_4 hA hF hp (M_post_4 hA hM hp rfl)
    · have hn := fun k hk => outs_ne (by decide) hb k (Nat.zero_le _) hk
      unfold w_X6_post w_X7_post
      refine F_isPost_in hF hv hp ⟨fun _ => ⟨fun z => absurd z (hn 0 (by decide)), fun _ => ⟨fun z => absurd z (hn 1 (by decide)), fun _ => ⟨fun z => absurd z (hn 2 (by decide)), fun _ => ⟨fun z => absurd z (hn 3 (by decide)), fun _ => ⟨fun z => absurd z (hn 4 (by decide)), fun _ => ?_⟩⟩⟩⟩⟩, fun z => absurd z (by decide)⟩
      exact M_isPost_in hM hv hp ⟨fun _ => ⟨fun z => absurd z (hn 0 (by decide)), fun _ => ⟨fun z => absurd z (hn 1 (by decide)), fun _ => ⟨fun z => absurd z (hn 2 (by decide)), fun _ => ⟨fun z => absurd z (hn 3 (by decide)), fun _ => ⟨fun z => absurd z (hn 4 (by decide)), fun _ => rfl⟩⟩⟩⟩⟩, fun z => absurd z (by decide)⟩
  · unfold w_X6_post w_X7_post
    refine F_isPost_out hF hv ho ⟨fun z => absurd (by decide) z, fun _ => ?_⟩
    exact M_isPost_out hM hv ho ⟨fun z => absurd (by decide) z, fun _ => rfl⟩
theorem M_postsOf {v : Nat} (hc : CoM ν co) (hv : vCo co) (hv2 : v < 2) (h : Q (nI (hsN (fun p => decide (co 4 p = v)) (co 0 3)))) : w_X7_postsOf (nI v) ν Q := by
  have e20 := hc.1.2.2.2.1
  have hp := hc.2.2.1
  have hn := hv.2.2.2.1
  have hvp := hv.2.2.2.2.2.2.2.2.1
  unfold w_X7_postsOf w_X7_postsOf_4
  intro X hX
  refine cnt_dn (P := fun i => X (nI (hsN (fun p => decide (co 4 p = v)) i)) (nI i)) (co 0 3) ?_ ?_
  · apply hX
    unfold s_X7_postsOf_4
    rw [e20]
    exact ⟨fun _ => h, fun q => absurd ((z_le (by omega) (by omega)).mpr (Nat.le_refl _)) q⟩
  · intro i hi ih
    apply hX
    unfold s_X7_postsOf_4 w_X7_postsOf_30
    have h1 := hvp i hi
    have h2 := pow6 i (by omega)
    have h3 := hsN_64 (fun p => decide (co 4 p = v)) (n := i) (by omega)
    simp (disch := omega) only [z_le, z_lt, z_eq, z_lt0, z_0le, z_eq0, z_le0, z_0lt, z_cl, z_in, z_add, z_mul, z_m1ne, z_m1ne', z_m1lt0, z_m1lt, z_ltm1, forall_eq, true_implies, false_implies, implies_true, true_and, and_true, false_and, and_false, not_true_eq_false, not_false_eq_true, ite_true, ite_false, e20, (hp i hi).2, z_shl1, z_or, Nat.or_zero]
    refine ⟨fun q => absurd hi (by omega), fun _ => ⟨by omega, fun q => ?_, fun q => ?_⟩⟩
    · unfold hsN at ih; rw [if_neg (by simpa using q)] at ih; exact ih
    · unfold hsN at ih; rw [if_pos (by simpa using q)] at ih; exact ih
theorem F_village_0 {v : Nat} (hA : VA co r U T sd I G K) (hF : RF μ co r U T fp sd I G K) (hv2 : v < 2) (h : Q (nI (co 5 v))) : w_X6_village (nI v) (nI 0) μ Q := by
  unfold w_X6_village
  refine F_isVillage_in hv2 ⟨fun _ => ?_, fun z => absurd z (by decide)⟩
  repeat (first | refine ⟨fun _ => ?_, fun z => absurd rfl z⟩ | refine ⟨fun z => absurd z (by decide), fun _ => ?_⟩)
  refine F_at (n := 2) (co_n7 hF.1.1) (by decide) (by omega) ?_
  rw [(hF.2.1.2.2.2.2.2.1 v hv2).1]; exact h
theorem M_village_0 {v : Nat} (hA : VA co r U T sd I G K) (hM : RM ν co r U T fp sd I G K) (hv2 : v < 2) (h : Q (nI (co 5 v))) : w_X7_village (nI v) (nI 0) ν Q := by
  unfold w_X7_village
  refine M_isVillage_in hv2 ⟨fun _ => ?_, fun z => absurd z (by decide)⟩
  repeat (first | refine ⟨fun _ => ?_, fun z => absurd rfl z⟩ | refine ⟨fun z => absurd z (by decide), fun _ => ?_⟩)
  rw [z_cl (by omega), (hM.1.2.2.2.1 v hv2).1]; exact ⟨vp_in_nI (by omega) (by decide), h⟩
theorem F_village_1 {v : Nat} (hA : VA co r U T sd I G K) (hF : RF μ co r U T fp sd I G K) (hv2 : v < 2) (h : Q (nI (co 6 v))) : w_X6_village (nI v) (nI 1) μ Q := by
  unfold w_X6_village
  refine F_isVillage_in hv2 ⟨fun _ => ?_, fun z => absurd z (by decide)⟩
  repeat (first | refine ⟨fun _ => ?_, fun z => absurd rfl z⟩ | refine ⟨fun z => absurd z (by decide), fun _ => ?_⟩)
  refine F_at (n := 2) (co_n8 hF.1.1) (by decide) (by omega) ?_
  rw [(hF.2.1.2.2.2.2.2.1 v hv2).2]; exact h
theorem M_village_1 {v : Nat} (hA : VA co r U T sd I G K) (hM : RM ν co r U T fp sd I G K) (hv2 : v < 2) (h : Q (nI (co 6 v))) : w_X7_village (nI v) (nI 1) ν Q := by
  unfold w_X7_village
  refine M_isVillage_in hv2 ⟨fun _ => ?_, fun z => absurd z (by decide)⟩
  repeat (first | refine ⟨fun _ => ?_, fun z => absurd rfl z⟩ | refine ⟨fun z => absurd z (by decide), fun _ => ?_⟩)
  rw [z_cl (by omega), (hM.1.2.2.2.1 v hv2).2]; exact ⟨vp_in_nI (by omega) (by decide), h⟩
theorem F_village_2 {v : Nat} (hA : VA co r U T sd I G K) (hF : RF μ co r U T fp sd I G K) (hv2 : v < 2) (h : Q (nI (r (5 + v)))) : w_X6_village (nI v) (nI 2) μ Q := by
  unfold w_X6_village
  refine F_isVillage_in hv2 ⟨fun _ => ?_, fun z => absurd z (by decide)⟩
  repeat (first | refine ⟨fun _ => ?_, fun z => absurd rfl z⟩ | refine ⟨fun z => absurd z (by decide), fun _ => ?_⟩)
  refine F_at (n := 2) (st_n4 st_25) (by decide) (by omega) ?_
  rw [(hF.2.2.2.1.2.2.2 v hv2).1]; exact h
theorem M_village_2 {v : Nat} (hA : VA co r U T sd I G K) (hM : RM ν co r U T fp sd I G K) (hv2 : v < 2) (h : Q (nI (r (5 + v)))) : w_X7_village (nI v) (nI 2) ν Q := by
  unfold w_X7_village
  refine M_isVillage_in hv2 ⟨fun _ => ?_, fun z => absurd z (by decide)⟩
  repeat (first | refine ⟨fun _ => ?_, fun z => absurd rfl z⟩ | refine ⟨fun z => absurd z (by decide), fun _ => ?_⟩)
  rw [z_add, z_cl (by omega), hM.2.1 (5 + v) (by omega)]; exact ⟨vp_in_nI (by omega) (by decide), h⟩
theorem F_village_3 {v : Nat} (hA : VA co r U T sd I G K) (hF : RF μ co r U T fp sd I G K) (hv2 : v < 2) (h : Q (nI (r (7 + v)))) : w_X6_village (nI v) (nI 3) μ Q := by
  unfold w_X6_village
  refine F_isVillage_in hv2 ⟨fun _ => ?_, fun z => absurd z (by decide)⟩
  repeat (first | refine ⟨fun _ => ?_, fun z => absurd rfl z⟩ | refine ⟨fun z => absurd z (by decide), fun _ => ?_⟩)
  refine F_at (n := 2) (st_n5 st_25) (by decide) (by omega) ?_
  rw [(hF.2.2.2.1.2.2.2 v hv2).2]; exact h
theorem M_village_3 {v : Nat} (hA : VA co r U T sd I G K) (hM : RM ν co r U T fp sd I G K) (hv2 : v < 2) (h : Q (nI (r (7 + v)))) : w_X7_village (nI v) (nI 3) ν Q := by
  unfold w_X7_village
  refine M_isVillage_in hv2 ⟨fun _ => ?_, fun z => absurd z (by decide)⟩
  repeat (first | refine ⟨fun _ => ?_, fun z => absurd rfl z⟩ | refine ⟨fun z => absurd z (by decide), fun _ => ?_⟩)
  rw [z_add, z_cl (by omega), hM.2.1 (7 + v) (by omega)]; exact ⟨vp_in_nI (by omega) (by decide), h⟩
theorem F_village_4 {v : Nat} (hA : VA co r U T sd I G K) (hF : RF μ co r U T fp sd I G K) (hv2 : v < 2) (h : Q (nI (hsN (fun p => decide (co 4 p = v)) (co 0 3)))) : w_X6_village (nI v) (nI 4) μ Q := by
  unfold w_X6_village
  refine F_isVillage_in hv2 ⟨fun _ => ?_, fun z => absurd z (by decide)⟩
  repeat (first | refine ⟨fun _ => ?_, fun z => absurd rfl z⟩ | refine ⟨fun z => absurd z (by decide), fun _ => ?_⟩)
  exact F_postsOf hF.2.1 hA.1 hv2 h
theorem M_village_4 {v : Nat} (hA : VA co r U T sd I G K) (hM : RM ν co r U T fp sd I G K) (hv2 : v < 2) (h : Q (nI (hsN (fun p => decide (co 4 p = v)) (co 0 3)))) : w_X7_village (nI v) (nI 4) ν Q := by
  unfold w_X7_village
  refine M_isVillage_in hv2 ⟨fun _ => ?_, fun z => absurd z (by decide)⟩
  repeat (first | refine ⟨fun _ => ?_, fun z => absurd rfl z⟩ | refine ⟨fun z => absurd z (by decide), fun _ => ?_⟩)
  exact M_postsOf hM.1 hA.1 hv2 h
theorem P_village {μ ν : Mem} {a b : Int32} (h : Rel μ ν) : w_X6_village a b μ (fun x => w_X7_village a b ν (fun y => x = y)) := by
  obtain ⟨co, r, U, T, fp, sd, I, G, K, hA, hF, hM⟩ := h
  have hv := hA.1
  rcases z_cases a 0 1 (by decide) (by decide) with ⟨v, v1, v2, rfl⟩ | ho
  · rcases z_cases b 0 4 (by decide) (by decide) with ⟨k, h1, h2, rfl⟩ | hb
    · rcases (by omega : k = 0 ∨ k = 1 ∨ k = 2 ∨ k = 3 ∨ k = 4) with rfl | rfl | rfl | rfl | rfl
      · exact F_village_0 hA hF (by omega) (M_village_0 hA hM (by omega) rfl)
      · exact F_village_1 hA hF (by omega) (M_village_1 hA hM (by omega) rfl)
      · exact F_village_2 hA hF (by omega) (M_village_2 hA hM (by omega) rfl)
      · exact F_village_3 hA hF (by omega) (M_village_3 hA hM (by omega) rfl)
      · exact F_village_4 hA hF (by omega) (M_village_4 hA hM (by omega) rfl)
    · have hn := fun k hk => outs_ne (by decide) hb k (Nat.zero_le _) hk
      unfold w_X6_village w_X7_village
      refine F_isVillage_in (by omega) ⟨fun _ => ⟨fun z => absurd z (hn 0 (by decide)), fun _ => ⟨fun z => absurd z (hn 1 (by decide)), fun _ => ⟨fun z => absurd z (hn 2 (by decide)), fun _ => ⟨fun z => absurd z (hn 3 (by decide)), fun _ => ⟨fun z => absurd z (hn 4 (by decide)), fun _ => ?_⟩⟩⟩⟩⟩, fun z => absurd z (by decide)⟩
      exact M_isVillage_in (by omega) ⟨fun _ => ⟨fun z => absurd z (hn 0 (by decide)), fun _ => ⟨fun z => absurd z (hn 1 (by decide)), fun _ => ⟨fun z => absurd z (hn 2 (by decide)), fun _ => ⟨fun z => absurd z (hn 3 (by decide)), fun _ => ⟨fun z => absurd z (hn 4 (by decide)), fun _ => rfl⟩⟩⟩⟩⟩, fun z => absurd z (by decide)⟩
  · unfold w_X6_village w_X7_village
    refine F_isVillage_out ho ⟨fun z => absurd (by decide) z, fun _ => ?_⟩
    exact M_isVillage_out ho ⟨fun z => absurd (by decide) z, fun _ => rfl⟩
theorem P_goat {μ ν : Mem} {a b : Int32} (h : Rel μ ν) : w_X6_goat a b μ (fun x => w_X7_goat a b ν (fun y => x = y)) := by
  obtain ⟨co, r, U, T, fp, sd, I, G, K, hA, hF, hM⟩ := h
  have hv := hA.1
  have hgm := hv.2.2.2.2.1
  have e22 := hM.1.1.2.2.2.2.2
  unfold w_X6_goat w_X7_goat
  rw [e22]
  rcases upto a (co 0 4) with ⟨g, hg, rfl⟩ | ho
  · refine F_isGoat_in hF hv hg ⟨fun _ => ?_, fun z => absurd z (by decide)⟩
    rcases z_cases b 0 1 (by decide) (by decide) with ⟨w, h1, h2, rfl⟩ | hb
    · refine W_in h1 h2 (by decide) ⟨fun _ => ?_, fun z => absurd z (by decide)⟩
      rw [z_eq0 (by omega)]
      have e9 := hF.2.1.2.2.2.2.2.2 g hg
      have e11 := hM.1.2.2.2.2 g hg
      refine ⟨fun q => ?_, fun q => ?_⟩
      · refine F_at (n := 4) (co_n10 hF.1.1) (by decide) (by omega) ?_
        rw [e9.2]
        refine MW_upto_in hg (by omega) ⟨fun _ => MW_in h1 h2 (by decide) ⟨fun z => absurd z (by decide), fun _ => ?_⟩, fun z => absurd z (by decide)⟩
        rw [show w = 1 by omega, z_mul, z_add, z_cl (by omega), e11.2]
        exact ⟨vp_in_nI (by omega) (by decide), rfl⟩
      · refine F_at (n := 4) (co_n9 hF.1.1) (by decide) (by omega) ?_
        rw [e9.1]
        refine MW_upto_in hg (by omega) ⟨fun _ => MW_in h1 h2 (by decide) ⟨fun z => absurd z (by decide), fun _ => ?_⟩, fun z => absurd z (by decide)⟩
        rw [q, z_mul, z_add, z_cl (by omega), Nat.add_zero, e11.1]
        exact ⟨vp_in_nI (by omega) (by decide), rfl⟩
    · refine F_within0 hb ⟨fun z => absurd (by decide) z, fun _ => ?_⟩
      exact MW_upto_in hg (by omega) ⟨fun _ => MW_out hb ⟨fun _ => rfl, fun z => absurd (by decide) z⟩, fun z => absurd z (by decide)⟩
  · refine F_isGoat_out hF hv ho ⟨fun z => absurd (by decide) z, fun _ => ?_⟩
    exact MW_upto_out ho (by omega) ⟨fun z => absurd (by decide) z, fun _ => rfl⟩
end TELL2
theorem P_fog {μ ν : Mem} {a b : Int32} (h : Rel μ ν) : w_X6_fog a b μ (fun x => w_X7_fog a b ν (fun y => x = y)) := by
  obtain ⟨co, r, U, T, fp, sd, I, G, K, hA, hF, hM⟩ := h
  have hv := hA.1
  have hr := hA.2.1
  have hhm := hv.2.2.1
  have e2 := hF.2.1.1.2.2.1
  have e21 := hM.1.1.2.2.2.2.1
  unfold w_X6_fog w_X7_fog
  rw [e2, e21]
  by_cases ha : a = -1
  · refine ⟨fun _ => ?_, fun z => absurd ha z⟩
    unfold w_X6_fog_25
    rcases z_cases b 0 1 (by decide) (by decide) with ⟨w, h1, h2, rfl⟩ | hb
    · refine W_in h1 h2 (by decide) ⟨fun _ => ⟨fun z => absurd ha z, fun _ => F_isBare hF hv ?_⟩, fun z => absurd z (by decide)⟩
      by_cases hc : co 0 0 = 0
      · rw [if_pos hc]
        refine ⟨fun z => absurd z (by decide), fun _ => ?_⟩
        refine MW_in h1 h2 (by decide) ⟨fun z => absurd z (by decide), fun _ => ⟨fun _ => ?_, fun z => absurd ha z⟩⟩
        unfold w_X7_fog_31
        rw [hM.1.1.1, if_pos hc]
        exact ⟨fun _ => ⟨fun z => absurd (by decide) z, fun _ => rfl⟩, fun z => absurd ha z⟩
      · rw [if_neg hc]
        refine ⟨fun _ => ?_, fun z => absurd (by decide) z⟩
        unfold w_X6_fog_52 w_X6_fog_68
        refine ⟨fun z => absurd ha z, fun _ => ?_⟩
        rw [hF.2.2.2.1.1.2.1, z_eq0 (by omega)]
        refine ⟨fun q => F_fogAt hF.1.1 hF.2.1 hv hr.2.1 ?_, fun q => F_sideAt hF.1.1 hF.2.1 hv hr.2.1 ?_⟩
        · refine MW_in h1 h2 (by decide) ⟨fun z => absurd z (by decide), fun _ => ⟨fun _ => ?_, fun z => absurd ha z⟩⟩
          unfold w_X7_fog_31
          rw [hM.1.1.1, if_neg hc, z_eq0 (a := w) (by omega)]
          exact ⟨fun _ => ⟨fun _ => ⟨fun _ => M_fogOf hM.1 hv hM.2.1 hr.2.1 rfl, fun z => absurd z q⟩, fun z => absurd z (by decide)⟩, fun z => absurd ha z⟩
        · refine MW_in h1 h2 (by decide) ⟨fun z => absurd z (by decide), fun _ => ⟨fun _ => ?_, fun z => absurd ha z⟩⟩
          unfold w_X7_fog_31
          rw [hM.1.1.1, if_neg hc, z_eq0 (a := w) (by omega)]
          exact ⟨fun _ => ⟨fun _ => ⟨fun z => absurd q z, fun _ => M_sideOf hM.1 hv hM.2.1 hr.2.1 rfl⟩, fun z => absurd z (by decide)⟩, fun z => absurd ha z⟩
    · refine F_within0 hb ⟨fun z => absurd (by decide) z, fun _ => ?_⟩
      exact MW_out hb ⟨fun _ => rfl, fun z => absurd (by decide) z⟩
  · refine ⟨fun z => absurd z ha, fun _ => ?_⟩
    rcases upto a (co 0 2) with ⟨hh, hlt, rfl⟩ | ho
    · have hdl : dl co = co 0 2 := by unfold dl; rw [if_neg (by omega)]
      refine W_upto_in hlt (by omega) ⟨fun _ => ?_, fun z => absurd z (by decide)⟩
      unfold w_X6_fog_25
      rcases z_cases b 0 1 (by decide) (by decide) with ⟨w, h1, h2, rfl⟩ | hb
      · refine W_in h1 h2 (by decide) ⟨fun _ => ⟨fun _ => ?_, fun z => absurd z ha⟩, fun z => absurd z (by decide)⟩
        unfold w_X6_fog_52 w_X6_fog_68
        refine ⟨fun _ => ?_, fun z => absurd z ha⟩
        rw [z_eq0 (by omega)]
        have e8 := hM.1.2.1 hh hlt
        refine ⟨fun q => F_fogAt hF.1.1 hF.2.1 hv (by omega) ?_, fun q => F_sideAt hF.1.1 hF.2.1 hv (by omega) ?_⟩
        · refine MW_in h1 h2 (by decide) ⟨fun z => absurd z (by decide), fun _ => ⟨fun z => absurd z ha, fun _ => MW_upto_in hlt (by omega) ⟨fun _ => ?_, fun z => absurd z (by decide)⟩⟩⟩
          unfold w_X7_fog_31
          rw [show w = 1 by omega, z_mul, z_add, z_cl (by omega), e8.2]
          exact ⟨fun z => absurd z ha, fun _ => ⟨vp_in_nI (by omega) (by decide), rfl⟩⟩
        · refine MW_in h1 h2 (by decide) ⟨fun z => absurd z (by decide), fun _ => ⟨fun z => absurd z ha, fun _ => MW_upto_in hlt (by omega) ⟨fun _ => ?_, fun z => absurd z (by decide)⟩⟩⟩
          unfold w_X7_fog_31
          rw [q, z_mul, z_add, z_cl (by omega), Nat.add_zero, e8.1]
          exact ⟨fun z => absurd z ha, fun _ => ⟨vp_in_nI (by omega) (by decide), rfl⟩⟩
      · refine F_within0 hb ⟨fun z => absurd (by decide) z, fun _ => ?_⟩
        exact MW_out hb ⟨fun _ => rfl, fun z => absurd (by decide) z⟩
    · refine W_upto_out ho (by omega) ⟨fun z => absurd (by decide) z, fun _ => ?_⟩
      rcases z_cases b 0 1 (by decide) (by decide) with ⟨w, h1, h2, rfl⟩ | hb
      · exact MW_in h1 h2 (by decide) ⟨fun z => absurd z (by decide), fun _ => ⟨fun z => absurd z ha, fun _ => MW_upto_out ho (by omega) ⟨fun z => absurd (by decide) z, fun _ => rfl⟩⟩⟩
      · exact MW_out hb ⟨fun _ => rfl, fun z => absurd (by decide) z⟩
/-! a letter more -/
theorem RF.text {μ μ1 : Mem} {co : Co} {r : Ro} {U : Un} {T T1 : Tx} {fp fp1 : Int32} {sd : Nat} {I : Im} {G K : Gt} (h : RF μ co r U T fp sd I G K) (h2 : μ1.2 = μ.2) (hf : ∀ k, k ≠ 1 → k ≠ 2 → μ1.1 k = μ.1 k) (h5 : μ1.1 1 5 = fp1) (ht : TxF μ1 T1) : RF μ1 co r U T1 fp1 sd I G K := by
  obtain ⟨a1, a2, a3, a4, a5, a6, a7, a8, a9, a10, a11⟩ := h
  have hd := co_far a1.2.1
  have hd0 := co_far a1.1
  refine ⟨by rw [h2]; exact a1, ?_, ?_, a4.fr (fun k _ _ => hf k (by omega) (by omega)), a5.fr (fun k _ _ => hf k (by omega) (by omega)), ht, h5, ?_, a9.fr (fun k _ _ => hf k (by omega) (by omega)), a10.fr (fun k _ _ => hf k (by omega) (by omega)), a11.fr (fun k _ _ => hf k (by omega) (by omega))⟩
  · rw [h2]; exact a2.fr a1.1 (fun k _ _ => hf k (by omega) (by omega))
  · rw [h2, hf (μ.2.2 1 + 5) (by omega) (by omega)]; exact a3
  · rw [hf 0 (by omega) (by omega)]; exact a8
theorem RM.text {ν ν1 : Mem} {co : Co} {r : Ro} {U : Un} {T T1 : Tx} {fp fp1 : Int32} {sd : Nat} {I : Im} {G K : Gt} (h : RM ν co r U T fp sd I G K) (h2 : ν1.2 = ν.2) (hf : ∀ k, 8 ≤ k → ν1.1 k = ν.1 k) (h0 : ∀ j, 11 ≤ j → ν1.1 0 j = ν.1 0 j) (h5 : ν1.1 0 2 = fp1) (ht : TxM ν1 T1) : RM ν1 co r U T1 fp1 sd I G K := by
  obtain ⟨a1, a2, a3, a4, a5, a6, a7, a8, a9⟩ := h
  exact ⟨a1.fr2 (fun k _ _ => hf k (by omega)) (fun j _ _ => h0 j (by omega)), a2.fr (hf 14 (by decide)), a3.fr (hf 17 (by decide)) (h0 32 (by decide)) (h0 33 (by decide)), ht, h5, by rw [h2]; exact a6, a7.fr (hf 21 (by decide)) (hf 22 (by decide)) (fun j _ => by rw [h2]), a8.fr (hf 19 (by decide)) (h0 37 (by decide)), a9.fr (hf 20 (by decide)) (h0 39 (by decide))⟩
def fedT (T : Tx) (x : Nat) : Tx := (T.1 + 1, fun i => if i = T.1 then x else T.2 i)
theorem P_feed {μ ν : Mem} {a : Int32} (h : Rel μ ν) : w_X6_feed a μ (fun x μ' => w_X7_feed a ν (fun y ν' => x = y ∧ Rel μ' ν')) := by
  obtain ⟨co, r, U, T, fp, sd, I, G, K, hA, hF, hM⟩ := h
  have e11 := hF.2.2.2.2.2.1.1
  have e00 := hM.2.2.2.1.1
  have hT := hA.2.2.2.1
  unfold w_X6_feed w_X7_feed
  rcases z_cases a 0 255 (by decide) (by decide) with ⟨x, h1, h2, rfl⟩ | ho
  · refine W_in h1 h2 (by decide) ⟨fun _ => ?_, fun z => absurd z (by decide)⟩
    rw [e11, z_lt (by omega) (by decide)]
    refine ⟨fun q => ?_, fun q => ?_⟩
    · unfold w_X3_append
      rw [e11]
      refine F_put (n := 240) (by decide) (by decide) q ?_
      intro μ3 h3
      rw [sI_ne1 (by decide), e11, z_add] at h3
      subst h3
      rw [sI_same]
      have f1 : RF (sI (sI μ 2 T.1 (nI x)) 1 1 (nI (T.1 + 1))) co r U (fedT T x) fp sd I G K := by
        refine hF.text rfl (fun k k1 k2 => by rw [sI_r k1, sI_r k2]) ?_ ⟨sI_same, fun i hi => ?_⟩
        · rw [sI_ne2 (by decide), sI_ne1 (by decide)]; exact hF.2.2.2.2.2.2.1
        · rw [sI_ne1 (by decide)]
          unfold fedT
          dsimp only
          have hii : i < T.1 + 1 := hi
          by_cases q2 : i = T.1
          · rw [if_pos q2, q2, sI_same]
          · rw [if_neg q2, sI_ne2 q2]; exact hF.2.2.2.2.2.1.2 i (by omega)
      refine MW_in h1 h2 (by decide) ⟨fun _ => ?_, fun z => absurd z (by decide)⟩
      rw [e00, z_cl (by omega)]
      refine ⟨fun _ => ⟨vp_in_nI q (by decide), fun ν3 k3 ν4 k4 => ?_⟩, fun z => absurd ((z_eq (by omega) (by decide)).mp z) (by omega)⟩
      rw [k3, sI_ne1 (by decide), e00, z_add] at k4
      subst k4
      rw [sI_same]
      refine ⟨rfl, co, r, U, fedT T x, fp, sd, I, G, K, ?_, f1, ?_⟩
      · refine ⟨hA.1, hA.2.1, hA.2.2.1, ⟨by show T.1 + 1 ≤ 240; omega, fun i hi => ?_⟩, hA.2.2.2.2⟩
        have hii : i < T.1 + 1 := hi
        unfold fedT
        dsimp only
        split
        · exact h2
        · exact hT.2 i (by omega)
      · refine hM.text rfl (fun k k1 => by rw [sI_r (by omega), sI_r (by omega)]) (fun j hj => ?_) ?_ ⟨sI_same, fun i hi => ?_⟩
        · rw [sI_ne2 (by omega), sI_ne1 (by decide)]
        · rw [sI_ne2 (by decide), sI_ne1 (by decide)]; exact hM.2.2.2.2.1
        · rw [sI_ne1 (by decide)]
          unfold fedT
          dsimp only
          have hii : i < T.1 + 1 := hi
          by_cases q2 : i = T.1
          · rw [if_pos q2, q2, sI_same]
          · rw [if_neg q2, sI_ne2 q2]; exact hM.2.2.2.1.2 i (by omega)
    · refine MW_in h1 h2 (by decide) ⟨fun _ => ?_, fun z => absurd z (by decide)⟩
      rw [e00]
      exact ⟨fun z => absurd (by rw [show T.1 = 240 by omega]) z, fun _ => done hA hF hM⟩
  · refine F_within0 ho ⟨fun z => absurd (by decide) z, fun _ => ?_⟩
    exact MW_out ho ⟨fun z => absurd (by decide) z, fun _ => done hA hF hM⟩
