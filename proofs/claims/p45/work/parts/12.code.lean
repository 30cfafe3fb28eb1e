set_option maxHeartbeats 4000000 in
set_option maxRecDepth 100000 in
theorem c_X6_isVillage (l : Launch) (D : va_G) (C : Nat → ClassId) (ad : Nat → Nat) (a0 : Int32) (μ : Mem) (Q : Int32 → Prop) (h : w_X6_isVillage a0 μ Q) : Mi sF l yX6_isVillage cX6_isVillage 1 (some .boolean) rm_X6_isVillage D C ad [.int a0] μ (fun r μ' => μ = μ' ∧ Q r) := by
  refine fm_z (by decide +kernel) sF_lt (Nat.le_of_ble_eq_true rfl) (fun K X hret => ?_)
  have X : CK sF D C ad K cX6_isVillage 1 RX6 := X
  refine b_lv (lv' := [(0, .int a0)]) rfl ?_
  unfold w_X6_isVillage at h
  refine b_iload_n X dX6_isVillage_0 rfl 0 rfl ?_
  refine b_iconst (v := (nI 0)) X dX6_isVillage_1 (by decide) ?_
  refine b_iconst (v := (nI 1)) X dX6_isVillage_2 (by decide) ?_
  refine bSi (st := []) (nA := 3) X (c_X6_within l D C ad a0 (nI 0) (nI 1) μ _ h) gw_X6_80 hd_X6_within ⟨Nat.zero_le _, Nat.zero_le _⟩ rfl rfl ⟨Nat.le_of_ble_eq_true rfl, Nat.le_of_ble_eq_true rfl⟩ rfl rfl (Nat.le_of_ble_eq_true rfl) dX6_isVillage_3 (fun r1 μ2 h => ?_)
  obtain ⟨rfl, h⟩ := h
  exact hret _ _ _ _ ⟨h.1, rfl, h.2⟩ dX6_isVillage_6
set_option maxHeartbeats 4000000 in
set_option maxRecDepth 100000 in
theorem c_X6_village (l : Launch) (D : va_G) (C : Nat → ClassId) (ad : Nat → Nat) (a1 : Int32) (a2 : Int32) (μ : Mem) (Q : Int32 → Prop) (h : w_X6_village a1 a2 μ Q) : Mi sF l yX6_village cX6_village 3 (some .int) rm_X6_village D C ad [.ref (ad 0), .int a1, .int a2] μ (fun r μ' => μ = μ' ∧ Q r) := by
  refine fm_i (by decide +kernel) sF_lt (Nat.le_of_ble_eq_true rfl) (fun K X hret => ?_)
  have X : CK sF D C ad K cX6_village 3 RX6 := X
  refine b_lv (lv' := [(0, .ref (ad 0)), (1, .int a1), (2, .int a2)]) rfl ?_
  unfold w_X6_village at h
  refine b_iload_n X dX6_village_0 rfl 1 rfl ?_
  refine bSi (st := []) (nA := 1) X (c_X6_isVillage l D C ad a1 μ _ h) gw_X6_184 hd_X6_isVillage ⟨Nat.zero_le _, Nat.zero_le _⟩ rfl rfl ⟨Nat.le_of_ble_eq_true rfl, Nat.le_of_ble_eq_true rfl⟩ rfl rfl (Nat.le_of_ble_eq_true rfl) dX6_village_1 (fun r1 μ2 h => ?_)
  obtain ⟨rfl, h⟩ := h
  refine b_if_ne (t := 10) X dX6_village_4 (by decide) (fun c => ?_) (fun c => ?_)
  · replace h := h.1 c
    refine b_iload_n X dX6_village_10 rfl 2 rfl ?_
    by_cases c0 : a2 = (nI 0)
    · replace h := h.1 c0
      refine b_tsIn (v := (nI 0)) (j := 0) (t := 44) X dX6_village_11 c0 (by decide) (by decide) (by decide) rfl (by decide) ?_
      refine b_aload_n X dX6_village_44 rfl 0 rfl ?_
      refine g_6_1 X kF_0 m_f_X6_19 dX6_village_45 ?_
      refine b_wf (fun hf3 => ?_)
      refine g_0_11 X (hf3 kF_0).1 m_f_X6_187 dX6_village_48 ?_
      refine b_iload_n X dX6_village_51 rfl 1 rfl ?_
      refine bSi (st := []) (nA := 2) X (c_X6_at l D C ad ((μ.2.2 0) + 7) (co_k7 (hf3 kF_0).1) a1 μ _ h) gw_X6_154 hd_X6_at ⟨Nat.zero_le _, Nat.zero_le _⟩ rfl rfl ⟨Nat.le_of_ble_eq_true rfl, Nat.le_of_ble_eq_true rfl⟩ rfl rfl (Nat.le_of_ble_eq_true rfl) dX6_village_52 (fun r4 μ5 h => ?_)
      obtain ⟨rfl, h⟩ := h
      exact hret _ _ _ _ ⟨rfl, h⟩ dX6_village_55
    replace h := h.2 c0
    by_cases c1 : a2 = (nI 1)
    · replace h := h.1 c1
      refine b_tsIn (v := (nI 1)) (j := 1) (t := 56) X dX6_village_11 c1 (by decide) (by decide) (by decide) rfl (by decide) ?_
      refine b_aload_n X dX6_village_56 rfl 0 rfl ?_
      refine g_6_1 X kF_0 m_f_X6_19 dX6_village_57 ?_
      refine b_wf (fun hf6 => ?_)
      refine g_0_12 X (hf6 kF_0).1 m_f_X6_190 dX6_village_60 ?_
      refine b_iload_n X dX6_village_63 rfl 1 rfl ?_
      refine bSi (st := []) (nA := 2) X (c_X6_at l D C ad ((μ.2.2 0) + 8) (co_k8 (hf6 kF_0).1) a1 μ _ h) gw_X6_154 hd_X6_at ⟨Nat.zero_le _, Nat.zero_le _⟩ rfl rfl ⟨Nat.le_of_ble_eq_true rfl, Nat.le_of_ble_eq_true rfl⟩ rfl rfl (Nat.le_of_ble_eq_true rfl) dX6_village_64 (fun r7 μ8 h => ?_)
      obtain ⟨rfl, h⟩ := h
      exact hret _ _ _ _ ⟨rfl, h⟩ dX6_village_67
    replace h := h.2 c1
    by_cases c2 : a2 = (nI 2)
    · replace h := h.1 c2
      refine b_tsIn (v := (nI 2)) (j := 2) (t := 68) X dX6_village_11 c2 (by decide) (by decide) (by decide) rfl (by decide) ?_
      refine b_aload_n X dX6_village_68 rfl 0 rfl ?_
      refine g_6_3 X kF_0 m_f_X6_29 dX6_village_69 ?_
      refine g_4_8 X kF_25 m_f_X6_193 dX6_village_72 ?_
      refine b_iload_n X dX6_village_75 rfl 1 rfl ?_
      refine bSi (st := []) (nA := 2) X (c_X6_at l D C ad (25 + 4) (st_k4 kF_25) a1 μ _ h) gw_X6_154 hd_X6_at ⟨Nat.zero_le _, Nat.zero_le _⟩ rfl rfl ⟨Nat.le_of_ble_eq_true rfl, Nat.le_of_ble_eq_true rfl⟩ rfl rfl (Nat.le_of_ble_eq_true rfl) dX6_village_76 (fun r9 μ10 h => ?_)
      obtain ⟨rfl, h⟩ := h
      exact hret _ _ _ _ ⟨rfl, h⟩ dX6_village_79
    replace h := h.2 c2
    by_cases c3 : a2 = (nI 3)
    · replace h := h.1 c3
      refine b_tsIn (v := (nI 3)) (j := 3) (t := 80) X dX6_village_11 c3 (by decide) (by decide) (by decide) rfl (by decide) ?_
      refine b_aload_n X dX6_village_80 rfl 0 rfl ?_
      refine g_6_3 X kF_0 m_f_X6_29 dX6_village_81 ?_
      refine g_4_9 X kF_25 m_f_X6_196 dX6_village_84 ?_
      refine b_iload_n X dX6_village_87 rfl 1 rfl ?_
      refine bSi (st := []) (nA := 2) X (c_X6_at l D C ad (25 + 5) (st_k5 kF_25) a1 μ _ h) gw_X6_154 hd_X6_at ⟨Nat.zero_le _, Nat.zero_le _⟩ rfl rfl ⟨Nat.le_of_ble_eq_true rfl, Nat.le_of_ble_eq_true rfl⟩ rfl rfl (Nat.le_of_ble_eq_true rfl) dX6_village_88 (fun r11 μ12 h => ?_)
      obtain ⟨rfl, h⟩ := h
      exact hret _ _ _ _ ⟨rfl, h⟩ dX6_village_91
    replace h := h.2 c3
    by_cases c4 : a2 = (nI 4)
    · replace h := h.1 c4
      refine b_tsIn (v := (nI 4)) (j := 4) (t := 92) X dX6_village_11 c4 (by decide) (by decide) (by decide) rfl (by decide) ?_
      refine b_aload_n X dX6_village_92 rfl 0 rfl ?_
      refine g_6_1 X kF_0 m_f_X6_19 dX6_village_93 ?_
      refine b_wf (fun hf13 => ?_)
      refine b_iload_n X dX6_village_96 rfl 1 rfl ?_
      refine bVi (st := []) (nA := 1) X (c_X0_postsOf l D C ad (μ.2.2 0) (hf13 kF_0).1 a1 μ _ h) (hf13 kF_0).1 (by decide) (enc_0 (hf13 kF_0).1) rfl gw_X6_199 ⟨rfl, hd_X0_postsOf⟩ ⟨Nat.zero_le _, Nat.zero_le _⟩ rfl rfl ⟨Nat.le_of_ble_eq_true rfl, Nat.le_of_ble_eq_true rfl⟩ rfl rfl (Nat.le_of_ble_eq_true rfl) dX6_village_97 (fun r14 μ15 h => ?_)
      obtain ⟨rfl, h⟩ := h
      exact hret _ _ _ _ ⟨rfl, h⟩ dX6_village_100
    replace h := h.2 c4
    have e0 := i32ne (j := 0) c0 (by decide)
    have e1 := i32ne (j := 1) c1 (by decide)
    have e2 := i32ne (j := 2) c2 (by decide)
    have e3 := i32ne (j := 3) c3 (by decide)
    have e4 := i32ne (j := 4) c4 (by decide)
    refine b_tsOut (t := 101) X dX6_village_11 (by omega) (by decide) ?_
    refine b_ldc (v := ((-1000000002) : Int32)) X m_k_X6_84 dX6_village_101 ?_
    exact hret _ _ _ _ ⟨rfl, h⟩ dX6_village_103
  · replace h := h.2 c
    refine b_ldc (v := ((-1000000001) : Int32)) X m_k_X6_150 dX6_village_7 ?_
    exact hret _ _ _ _ ⟨rfl, h⟩ dX6_village_9
set_option maxHeartbeats 4000000 in
set_option maxRecDepth 100000 in
theorem c_X6_isGoat (l : Launch) (D : va_G) (C : Nat → ClassId) (ad : Nat → Nat) (a1 : Int32) (μ : Mem) (Q : Int32 → Prop) (h : w_X6_isGoat a1 μ Q) : Mi sF l yX6_isGoat cX6_isGoat 2 (some .boolean) rm_X6_isGoat D C ad [.ref (ad 0), .int a1] μ (fun r μ' => μ = μ' ∧ Q r) := by
  refine fm_z (by decide +kernel) sF_lt (Nat.le_of_ble_eq_true rfl) (fun K X hret => ?_)
  have X : CK sF D C ad K cX6_isGoat 2 RX6 := X
  refine b_lv (lv' := [(0, .ref (ad 0)), (1, .int a1)]) rfl ?_
  unfold w_X6_isGoat at h
  refine b_iload_n X dX6_isGoat_0 rfl 1 rfl ?_
  refine b_iconst (v := (nI 0)) X dX6_isGoat_1 (by decide) ?_
  refine b_aload_n X dX6_isGoat_2 rfl 0 rfl ?_
  refine g_6_1 X kF_0 m_f_X6_19 dX6_isGoat_3 ?_
  refine b_wf (fun hf1 => ?_)
  refine g_0_4 X (hf1 kF_0).1 m_f_X6_121 dX6_isGoat_6 ?_
  refine b_iconst (v := (nI 1)) X dX6_isGoat_9 (by decide) ?_
  refine b_isub X dX6_isGoat_10 ?_
  refine bSi (st := []) (nA := 3) X (c_X6_within l D C ad a1 (nI 0) ((μ.1 (μ.2.2 0) 4) - (nI 1)) μ _ h) gw_X6_80 hd_X6_within ⟨Nat.zero_le _, Nat.zero_le _⟩ rfl rfl ⟨Nat.le_of_ble_eq_true rfl, Nat.le_of_ble_eq_true rfl⟩ rfl rfl (Nat.le_of_ble_eq_true rfl) dX6_isGoat_11 (fun r2 μ3 h => ?_)
  obtain ⟨rfl, h⟩ := h
  exact hret _ _ _ _ ⟨h.1, rfl, h.2⟩ dX6_isGoat_14
set_option maxHeartbeats 4000000 in
set_option maxRecDepth 100000 in
theorem c_X6_goat (l : Launch) (D : va_G) (C : Nat → ClassId) (ad : Nat → Nat) (a1 : Int32) (a2 : Int32) (μ : Mem) (Q : Int32 → Prop) (h : w_X6_goat a1 a2 μ Q) : Mi sF l yX6_goat cX6_goat 3 (some .int) rm_X6_goat D C ad [.ref (ad 0), .int a1, .int a2] μ (fun r μ' => μ = μ' ∧ Q r) := by
  refine fm_i (by decide +kernel) sF_lt (Nat.le_of_ble_eq_true rfl) (fun K X hret => ?_)
  have X : CK sF D C ad K cX6_goat 3 RX6 := X
  refine b_lv (lv' := [(0, .ref (ad 0)), (1, .int a1), (2, .int a2)]) rfl ?_
  unfold w_X6_goat at h
  refine b_aload_n X dX6_goat_0 rfl 0 rfl ?_
  refine b_iload_n X dX6_goat_1 rfl 1 rfl ?_
  refine bVi (st := []) (nA := 1) X (c_X6_isGoat l D C ad a1 μ _ h) kF_0 (by decide) (enc_6 kF_0) rfl gw_X6_202 ⟨rfl, hd_X6_isGoat⟩ ⟨Nat.zero_le _, Nat.zero_le _⟩ rfl rfl ⟨Nat.le_of_ble_eq_true rfl, Nat.le_of_ble_eq_true rfl⟩ rfl rfl (Nat.le_of_ble_eq_true rfl) dX6_goat_2 (fun r1 μ2 h => ?_)
  obtain ⟨rfl, h⟩ := h
  refine b_if_ne (t := 11) X dX6_goat_5 (by decide) (fun c => ?_) (fun c => ?_)
  · replace h := h.1 c
    refine b_iload_n X dX6_goat_11 rfl 2 rfl ?_
    refine b_iconst (v := (nI 0)) X dX6_goat_12 (by decide) ?_
    refine b_iconst (v := (nI 1)) X dX6_goat_13 (by decide) ?_
    refine bSi (st := []) (nA := 3) X (c_X6_within l D C ad a2 (nI 0) (nI 1) μ _ h) gw_X6_80 hd_X6_within ⟨Nat.zero_le _, Nat.zero_le _⟩ rfl rfl ⟨Nat.le_of_ble_eq_true rfl, Nat.le_of_ble_eq_true rfl⟩ rfl rfl (Nat.le_of_ble_eq_true rfl) dX6_goat_14 (fun r3 μ4 h => ?_)
    obtain ⟨rfl, h⟩ := h
    refine b_if_ne (t := 23) X dX6_goat_17 (by decide) (fun c => ?_) (fun c => ?_)
    · replace h := h.1 c
      refine b_iload_n X dX6_goat_23 rfl 2 rfl ?_
      refine b_if_ne (t := 37) X dX6_goat_24 (by decide) (fun c => ?_) (fun c => ?_)
      · replace h := h.1 c
        refine b_aload_n X dX6_goat_37 rfl 0 rfl ?_
        refine g_6_1 X kF_0 m_f_X6_19 dX6_goat_38 ?_
        refine b_wf (fun hf5 => ?_)
        refine g_0_14 X (hf5 kF_0).1 m_f_X6_208 dX6_goat_41 ?_
        refine b_iload_n X dX6_goat_44 rfl 1 rfl ?_
        refine bSi (st := []) (nA := 2) X (c_X6_at l D C ad ((μ.2.2 0) + 10) (co_k10 (hf5 kF_0).1) a1 μ _ h) gw_X6_154 hd_X6_at ⟨Nat.zero_le _, Nat.zero_le _⟩ rfl rfl ⟨Nat.le_of_ble_eq_true rfl, Nat.le_of_ble_eq_true rfl⟩ rfl rfl (Nat.le_of_ble_eq_true rfl) dX6_goat_45 (fun r6 μ7 h => ?_)
        obtain ⟨rfl, h⟩ := h
        exact hret _ _ _ _ ⟨rfl, h⟩ dX6_goat_48
      · replace h := h.2 c
        refine b_aload_n X dX6_goat_27 rfl 0 rfl ?_
        refine g_6_1 X kF_0 m_f_X6_19 dX6_goat_28 ?_
        refine b_wf (fun hf8 => ?_)
        refine g_0_13 X (hf8 kF_0).1 m_f_X6_205 dX6_goat_31 ?_
        refine b_goto (t := 44) X dX6_goat_34 (by decide) ?_
        refine b_iload_n X dX6_goat_44 rfl 1 rfl ?_
        refine bSi (st := []) (nA := 2) X (c_X6_at l D C ad ((μ.2.2 0) + 9) (co_k9 (hf8 kF_0).1) a1 μ _ h) gw_X6_154 hd_X6_at ⟨Nat.zero_le _, Nat.zero_le _⟩ rfl rfl ⟨Nat.le_of_ble_eq_true rfl, Nat.le_of_ble_eq_true rfl⟩ rfl rfl (Nat.le_of_ble_eq_true rfl) dX6_goat_45 (fun r9 μ10 h => ?_)
        obtain ⟨rfl, h⟩ := h
        exact hret _ _ _ _ ⟨rfl, h⟩ dX6_goat_48
    · replace h := h.2 c
      refine b_ldc (v := ((-1000000002) : Int32)) X m_k_X6_84 dX6_goat_20 ?_
      exact hret _ _ _ _ ⟨rfl, h⟩ dX6_goat_22
  · replace h := h.2 c
    refine b_ldc (v := ((-1000000001) : Int32)) X m_k_X6_150 dX6_goat_8 ?_
    exact hret _ _ _ _ ⟨rfl, h⟩ dX6_goat_10
set_option maxHeartbeats 4000000 in
set_option maxRecDepth 100000 in
theorem c_X6_hour (l : Launch) (D : va_G) (C : Nat → ClassId) (ad : Nat → Nat) (a1 : Int32) (μ : Mem) (Q : Int32 → Mem → Prop) (h : w_X6_hour a1 μ Q) : Mi sF l yX6_hour cX6_hour 4 (some .int) rm_X6_hour D C ad [.ref (ad 0), .int a1] μ Q := by
  refine fm_i (by decide +kernel) sF_lt (Nat.le_of_ble_eq_true rfl) (fun K X hret => ?_)
  have X : CK sF D C ad K cX6_hour 4 RX6 := X
  refine b_lv (lv' := [(0, .ref (ad 0)), (1, .int a1)]) rfl ?_
  unfold w_X6_hour at h
  have B43 : ∀ (v2 : Int32) (v3 : Int32) (μ : Mem), w_X6_hour_43 a1 v2 v3 μ Q → WB sF l D C ad rm_X6_hour K 4 μ 43 [(0, .ref (ad 0)), (1, .int a1), (2, .int v2), (3, .int v3)] [] := by
    intro v2 v3 μ h
    obtain ⟨Y43, eY⟩ : ∃ Y : Int32 → Int32 → Mem → Prop, Y = fun (v2 : Int32) (v3 : Int32) (μ : Mem) => WB sF l D C ad rm_X6_hour K 4 μ 43 [(0, .ref (ad 0)), (1, .int a1), (2, .int v2), (3, .int v3)] [] := ⟨_, rfl⟩
    have B43 : Y43 v2 v3 μ := by
      unfold w_X6_hour_43 at h
      refine h Y43 ?_
      clear h
      intro v2 v3 μ h
      unfold s_X6_hour_43 at h
      rw [eY]
      show WB sF l D C ad rm_X6_hour K 4 μ 43 [(0, .ref (ad 0)), (1, .int a1), (2, .int v2), (3, .int v3)] []
      have T43 : ∀ (v2 : Int32) (v3 : Int32) (μ : Mem), Y43 v2 v3 μ → WB sF l D C ad rm_X6_hour K 4 μ 43 [(0, .ref (ad 0)), (1, .int a1), (2, .int v2), (3, .int v3)] [] := by
        intro v2 v3 μ h
        rw [eY] at h
        exact h
      clear eY
      refine b_iload_n X dX6_hour_43 rfl 3 rfl ?_
      refine b_iload_n X dX6_hour_44 rfl 1 rfl ?_
      refine b_icmp_ge (t := 112) X dX6_hour_45 (by decide) (fun c => ?_) (fun c => ?_)
      · replace h := h.1 c
        refine b_iload_n X dX6_hour_112 rfl 2 rfl ?_
        exact hret _ _ _ _ h dX6_hour_113
      · replace h := h.2 c
        refine b_aload_n X dX6_hour_48 rfl 0 rfl ?_
        refine g_6_7 X kF_0 m_f_X6_50 dX6_hour_49 ?_
        refine b_aload_n X dX6_hour_52 rfl 0 rfl ?_
        refine g_6_3 X kF_0 m_f_X6_29 dX6_hour_53 ?_
        refine bVv (st := []) (nA := 1) X (c_X2_remember l D C ad 25 kF_25 μ _ h) kF_41 (by decide) (enc_2 kF_41) rfl gw_X6_211 ⟨rfl, hd_X2_remember⟩ ⟨Nat.zero_le _, Nat.zero_le _⟩ rfl rfl ⟨Nat.le_of_ble_eq_true rfl, Nat.le_of_ble_eq_true rfl⟩ rfl rfl (Nat.le_of_ble_eq_true rfl) dX6_hour_56 (fun μ6 h => ?_)
        refine b_iload_n X dX6_hour_59 rfl 2 rfl ?_
        refine b_aload_n X dX6_hour_60 rfl 0 rfl ?_
        refine g_6_3 X kF_0 m_f_X6_29 dX6_hour_61 ?_
        refine b_aload_n X dX6_hour_64 rfl 0 rfl ?_
        refine g_6_1 X kF_0 m_f_X6_19 dX6_hour_65 ?_
        refine b_wf (fun hf7 => ?_)
        refine b_aload_n X dX6_hour_68 rfl 0 rfl ?_
        refine g_6_6 X kF_0 m_f_X6_43 dX6_hour_69 ?_
        refine b_aload_n X dX6_hour_72 rfl 0 rfl ?_
        refine g_6_1 X kF_0 m_f_X6_19 dX6_hour_73 ?_
        refine b_wf (fun hf8 => ?_)
        refine b_aload_n X dX6_hour_76 rfl 0 rfl ?_
        refine g_6_3 X kF_0 m_f_X6_29 dX6_hour_77 ?_
        refine g_4_1 X kF_25 m_f_X6_127 dX6_hour_80 ?_
        refine bVi (st := [.ref (ad 38), .ref (ad (μ6.2.2 0)), .ref (ad 25), .int v2]) (nA := 1) X (c_X0_sideAt l D C ad (μ6.2.2 0) (hf8 kF_0).1 (μ6.1 25 1) μ6 _ h) (hf8 kF_0).1 (by decide) (enc_0 (hf8 kF_0).1) rfl gw_X6_178 ⟨rfl, hd_X0_sideAt⟩ ⟨Nat.zero_le _, Nat.zero_le _⟩ rfl rfl ⟨Nat.le_of_ble_eq_true rfl, Nat.le_of_ble_eq_true rfl⟩ rfl rfl (Nat.le_of_ble_eq_true rfl) dX6_hour_83 (fun r9 μ10 h => ?_)
        obtain ⟨rfl, h⟩ := h
        refine b_aload_n X dX6_hour_86 rfl 0 rfl ?_
        refine g_6_1 X kF_0 m_f_X6_19 dX6_hour_87 ?_
        refine b_wf (fun hf11 => ?_)
        refine b_aload_n X dX6_hour_90 rfl 0 rfl ?_
        refine g_6_3 X kF_0 m_f_X6_29 dX6_hour_91 ?_
        refine g_4_1 X kF_25 m_f_X6_127 dX6_hour_94 ?_
        refine bVi (st := [.int r9, .ref (ad 38), .ref (ad (μ6.2.2 0)), .ref (ad 25), .int v2]) (nA := 1) X (c_X0_fogAt l D C ad (μ6.2.2 0) (hf11 kF_0).1 (μ6.1 25 1) μ6 _ h) (hf11 kF_0).1 (by decide) (enc_0 (hf11 kF_0).1) rfl gw_X6_181 ⟨rfl, hd_X0_fogAt⟩ ⟨Nat.zero_le _, Nat.zero_le _⟩ rfl rfl ⟨Nat.le_of_ble_eq_true rfl, Nat.le_of_ble_eq_true rfl⟩ rfl rfl (Nat.le_of_ble_eq_true rfl) dX6_hour_97 (fun r12 μ13 h => ?_)
        obtain ⟨rfl, h⟩ := h
        refine b_iconst (v := (nI 0)) X dX6_hour_100 (by decide) ?_
        refine bVi (st := [.int v2]) (nA := 5) X (c_X4_passHour l D C ad 25 kF_25 (μ6.2.2 0) (hf7 kF_0).1 r9 r12 (nI 0) μ6 _ h) kF_25 (by decide) (enc_4 kF_25) rfl gw_X6_215 ⟨rfl, hd_X4_passHour⟩ ⟨Nat.zero_le _, Nat.zero_le _⟩ rfl rfl ⟨Nat.le_of_ble_eq_true rfl, Nat.le_of_ble_eq_true rfl⟩ rfl rfl (Nat.le_of_ble_eq_true rfl) dX6_hour_101 (fun r14 μ15 h => ?_)
        refine b_iadd X dX6_hour_104 ?_
        refine b_topi (fun x16 ex16 => ?_)
        replace h := h x16 ex16
        refine b_istore_n (lv' := [(2, .int x16), (0, .ref (ad 0)), (1, .int a1), (3, .int v3)]) X dX6_hour_105 rfl (by decide) rfl ?_
        obtain ⟨x17, ex17⟩ : ∃ y : Int32, y = v3 + (nI 1) := ⟨_, rfl⟩
        replace h := h x17 ex17
        refine b_iinc (x := x17) (lv' := [(3, .int x17), (2, .int x16), (0, .ref (ad 0)), (1, .int a1)]) (q := 3) X dX6_hour_106 rfl (by rw [ex17]; rfl) (by decide) rfl ?_
        refine b_goto (t := 43) X dX6_hour_109 (by decide) ?_
        refine b_sub (lv' := [(0, .ref (ad 0)), (1, .int a1), (2, .int x16), (3, .int x17)]) [2, 3, 1, 0] rfl ?_
        exact T43 x16 x17 μ15 h
    rw [eY] at B43
    exact B43
  refine b_iload_n X dX6_hour_0 rfl 1 rfl ?_
  refine b_iconst (v := (nI 1)) X dX6_hour_1 (by decide) ?_
  refine b_bipush (v := (nI 60)) X dX6_hour_2 (by decide) ?_
  refine bSi (st := []) (nA := 3) X (c_X6_within l D C ad a1 (nI 1) (nI 60) μ _ h) gw_X6_80 hd_X6_within ⟨Nat.zero_le _, Nat.zero_le _⟩ rfl rfl ⟨Nat.le_of_ble_eq_true rfl, Nat.le_of_ble_eq_true rfl⟩ rfl rfl (Nat.le_of_ble_eq_true rfl) dX6_hour_4 (fun r1 μ2 h => ?_)
  obtain ⟨rfl, h⟩ := h
  refine b_if_ne (t := 13) X dX6_hour_7 (by decide) (fun c => ?_) (fun c => ?_)
  · replace h := h.1 c
    refine b_aload_n X dX6_hour_13 rfl 0 rfl ?_
    refine bVi (st := []) (nA := 0) X (c_X6_isBare l D C ad  μ _ h) kF_0 (by decide) (enc_6 kF_0) rfl gw_X6_173 ⟨rfl, hd_X6_isBare⟩ ⟨Nat.zero_le _, Nat.zero_le _⟩ rfl rfl ⟨Nat.le_of_ble_eq_true rfl, Nat.le_of_ble_eq_true rfl⟩ rfl rfl (Nat.le_of_ble_eq_true rfl) dX6_hour_14 (fun r3 μ4 h => ?_)
    obtain ⟨rfl, h⟩ := h
    refine b_if_eq (t := 23) X dX6_hour_17 (by decide) (fun c => ?_) (fun c => ?_)
    · replace h := h.1 c
      refine b_aload_n X dX6_hour_23 rfl 0 rfl ?_
      refine g_6_3 X kF_0 m_f_X6_29 dX6_hour_24 ?_
      refine g_4_0 X kF_25 m_f_X6_124 dX6_hour_27 ?_
      refine b_sipush (v := (nI 9000)) X dX6_hour_30 (by decide) ?_
      refine b_icmp_le (t := 39) X dX6_hour_33 (by decide) (fun c => ?_) (fun c => ?_)
      · replace h := h.1 c
        refine b_iconst (v := (nI 0)) X dX6_hour_39 (by decide) ?_
        refine b_istore_n (lv' := [(2, .int (nI 0)), (0, .ref (ad 0)), (1, .int a1)]) X dX6_hour_40 rfl (by decide) rfl ?_
        refine b_iconst (v := (nI 0)) X dX6_hour_41 (by decide) ?_
        refine b_istore_n (lv' := [(3, .int (nI 0)), (2, .int (nI 0)), (0, .ref (ad 0)), (1, .int a1)]) X dX6_hour_42 rfl (by decide) rfl ?_
        refine b_sub (lv' := [(0, .ref (ad 0)), (1, .int a1), (2, .int (nI 0)), (3, .int (nI 0))]) [2, 3, 1, 0] rfl ?_
        exact B43 (nI 0) (nI 0) μ h
      · replace h := h.2 c
        refine b_ldc (v := ((-1000000004) : Int32)) X m_k_X6_88 dX6_hour_36 ?_
        exact hret _ _ _ _ h dX6_hour_38
    · replace h := h.2 c
      refine b_ldc (v := ((-1000000003) : Int32)) X m_k_X6_177 dX6_hour_20 ?_
      exact hret _ _ _ _ h dX6_hour_22
  · replace h := h.2 c
    refine b_ldc (v := ((-1000000002) : Int32)) X m_k_X6_84 dX6_hour_10 ?_
    exact hret _ _ _ _ h dX6_hour_12
set_option maxHeartbeats 4000000 in
set_option maxRecDepth 100000 in
theorem c_X6_carry (l : Launch) (D : va_G) (C : Nat → ClassId) (ad : Nat → Nat) (a1 : Int32) (μ : Mem) (Q : Int32 → Mem → Prop) (h : w_X6_carry a1 μ Q) : Mi sF l yX6_carry cX6_carry 2 (some .int) rm_X6_carry D C ad [.ref (ad 0), .int a1] μ Q := by
  refine fm_i (by decide +kernel) sF_lt (Nat.le_of_ble_eq_true rfl) (fun K X hret => ?_)
  have X : CK sF D C ad K cX6_carry 2 RX6 := X
  refine b_lv (lv' := [(0, .ref (ad 0)), (1, .int a1)]) rfl ?_
  unfold w_X6_carry at h
  refine b_iload_n X dX6_carry_0 rfl 1 rfl ?_
  refine bSi (st := []) (nA := 1) X (c_X6_isVillage l D C ad a1 μ _ h) gw_X6_184 hd_X6_isVillage ⟨Nat.zero_le _, Nat.zero_le _⟩ rfl rfl ⟨Nat.le_of_ble_eq_true rfl, Nat.le_of_ble_eq_true rfl⟩ rfl rfl (Nat.le_of_ble_eq_true rfl) dX6_carry_1 (fun r1 μ2 h => ?_)
  obtain ⟨rfl, h⟩ := h
  refine b_if_ne (t := 10) X dX6_carry_4 (by decide) (fun c => ?_) (fun c => ?_)
  · replace h := h.1 c
    refine b_aload_n X dX6_carry_10 rfl 0 rfl ?_
    refine bVi (st := []) (nA := 0) X (c_X6_isBare l D C ad  μ _ h) kF_0 (by decide) (enc_6 kF_0) rfl gw_X6_173 ⟨rfl, hd_X6_isBare⟩ ⟨Nat.zero_le _, Nat.zero_le _⟩ rfl rfl ⟨Nat.le_of_ble_eq_true rfl, Nat.le_of_ble_eq_true rfl⟩ rfl rfl (Nat.le_of_ble_eq_true rfl) dX6_carry_11 (fun r3 μ4 h => ?_)
    obtain ⟨rfl, h⟩ := h
    refine b_if_eq (t := 20) X dX6_carry_14 (by decide) (fun c => ?_) (fun c => ?_)
    · replace h := h.1 c
      refine b_aload_n X dX6_carry_20 rfl 0 rfl ?_
      refine g_6_7 X kF_0 m_f_X6_50 dX6_carry_21 ?_
      refine b_aload_n X dX6_carry_24 rfl 0 rfl ?_
      refine g_6_3 X kF_0 m_f_X6_29 dX6_carry_25 ?_
      refine bVv (st := []) (nA := 1) X (c_X2_remember l D C ad 25 kF_25 μ _ h) kF_41 (by decide) (enc_2 kF_41) rfl gw_X6_211 ⟨rfl, hd_X2_remember⟩ ⟨Nat.zero_le _, Nat.zero_le _⟩ rfl rfl ⟨Nat.le_of_ble_eq_true rfl, Nat.le_of_ble_eq_true rfl⟩ rfl rfl (Nat.le_of_ble_eq_true rfl) dX6_carry_28 (fun μ6 h => ?_)
      refine b_aload_n X dX6_carry_31 rfl 0 rfl ?_
      refine g_6_3 X kF_0 m_f_X6_29 dX6_carry_32 ?_
      refine b_aload_n X dX6_carry_35 rfl 0 rfl ?_
      refine g_6_1 X kF_0 m_f_X6_19 dX6_carry_36 ?_
      refine b_wf (fun hf7 => ?_)
      refine b_iload_n X dX6_carry_39 rfl 1 rfl ?_
      refine bVi (st := []) (nA := 2) X (c_X4_emptyJarsOf l D C ad 25 kF_25 (μ6.2.2 0) (hf7 kF_0).1 a1 μ6 _ h) kF_25 (by decide) (enc_4 kF_25) rfl gw_X6_219 ⟨rfl, hd_X4_emptyJarsOf⟩ ⟨Nat.zero_le _, Nat.zero_le _⟩ rfl rfl ⟨Nat.le_of_ble_eq_true rfl, Nat.le_of_ble_eq_true rfl⟩ rfl rfl (Nat.le_of_ble_eq_true rfl) dX6_carry_40 (fun r8 μ9 h => ?_)
      exact hret _ _ _ _ h dX6_carry_43
    · replace h := h.2 c
      refine b_ldc (v := ((-1000000003) : Int32)) X m_k_X6_177 dX6_carry_17 ?_
      exact hret _ _ _ _ h dX6_carry_19
  · replace h := h.2 c
    refine b_ldc (v := ((-1000000001) : Int32)) X m_k_X6_150 dX6_carry_7 ?_
    exact hret _ _ _ _ h dX6_carry_9
set_option maxHeartbeats 4000000 in
set_option maxRecDepth 100000 in
theorem c_X6_lick (l : Launch) (D : va_G) (C : Nat → ClassId) (ad : Nat → Nat) (a1 : Int32) (a2 : Int32) (μ : Mem) (Q : Int32 → Mem → Prop) (h : w_X6_lick a1 a2 μ Q) : Mi sF l yX6_lick cX6_lick 3 (some .int) rm_X6_lick D C ad [.ref (ad 0), .int a1, .int a2] μ Q := by
  refine fm_i (by decide +kernel) sF_lt (Nat.le_of_ble_eq_true rfl) (fun K X hret => ?_)
  have X : CK sF D C ad K cX6_lick 3 RX6 := X
  refine b_lv (lv' := [(0, .ref (ad 0)), (1, .int a1), (2, .int a2)]) rfl ?_
  unfold w_X6_lick at h
  refine b_aload_n X dX6_lick_0 rfl 0 rfl ?_
  refine b_iload_n X dX6_lick_1 rfl 1 rfl ?_
  refine bVi (st := []) (nA := 1) X (c_X6_isPost l D C ad a1 μ _ h) kF_0 (by decide) (enc_6 kF_0) rfl gw_X6_146 ⟨rfl, hd_X6_isPost⟩ ⟨Nat.zero_le _, Nat.zero_le _⟩ rfl rfl ⟨Nat.le_of_ble_eq_true rfl, Nat.le_of_ble_eq_true rfl⟩ rfl rfl (Nat.le_of_ble_eq_true rfl) dX6_lick_2 (fun r1 μ2 h => ?_)
  obtain ⟨rfl, h⟩ := h
  refine b_if_ne (t := 11) X dX6_lick_5 (by decide) (fun c => ?_) (fun c => ?_)
  · replace h := h.1 c
    refine b_iload_n X dX6_lick_11 rfl 2 rfl ?_
    refine b_iconst (v := (nI 1)) X dX6_lick_12 (by decide) ?_
    refine b_bipush (v := (nI 99)) X dX6_lick_13 (by decide) ?_
    refine bSi (st := []) (nA := 3) X (c_X6_within l D C ad a2 (nI 1) (nI 99) μ _ h) gw_X6_80 hd_X6_within ⟨Nat.zero_le _, Nat.zero_le _⟩ rfl rfl ⟨Nat.le_of_ble_eq_true rfl, Nat.le_of_ble_eq_true rfl⟩ rfl rfl (Nat.le_of_ble_eq_true rfl) dX6_lick_15 (fun r3 μ4 h => ?_)
    obtain ⟨rfl, h⟩ := h
    refine b_if_ne (t := 24) X dX6_lick_18 (by decide) (fun c => ?_) (fun c => ?_)
    · replace h := h.1 c
      refine b_aload_n X dX6_lick_24 rfl 0 rfl ?_
      refine g_6_7 X kF_0 m_f_X6_50 dX6_lick_25 ?_
      refine b_aload_n X dX6_lick_28 rfl 0 rfl ?_
      refine g_6_3 X kF_0 m_f_X6_29 dX6_lick_29 ?_
      refine bVv (st := []) (nA := 1) X (c_X2_remember l D C ad 25 kF_25 μ _ h) kF_41 (by decide) (enc_2 kF_41) rfl gw_X6_211 ⟨rfl, hd_X2_remember⟩ ⟨Nat.zero_le _, Nat.zero_le _⟩ rfl rfl ⟨Nat.le_of_ble_eq_true rfl, Nat.le_of_ble_eq_true rfl⟩ rfl rfl (Nat.le_of_ble_eq_true rfl) dX6_lick_32 (fun μ6 h => ?_)
      refine b_aload_n X dX6_lick_35 rfl 0 rfl ?_
      refine g_6_3 X kF_0 m_f_X6_29 dX6_lick_36 ?_
      refine b_iload_n X dX6_lick_39 rfl 1 rfl ?_
      refine b_iload_n X dX6_lick_40 rfl 2 rfl ?_
      refine bVi (st := []) (nA := 2) X (c_X4_loseFromJar l D C ad 25 kF_25 a1 a2 μ6 _ h) kF_25 (by decide) (enc_4 kF_25) rfl gw_X6_223 ⟨rfl, hd_X4_loseFromJar⟩ ⟨Nat.zero_le _, Nat.zero_le _⟩ rfl rfl ⟨Nat.le_of_ble_eq_true rfl, Nat.le_of_ble_eq_true rfl⟩ rfl rfl (Nat.le_of_ble_eq_true rfl) dX6_lick_41 (fun r7 μ8 h => ?_)
      exact hret _ _ _ _ h dX6_lick_44
    · replace h := h.2 c
      refine b_ldc (v := ((-1000000002) : Int32)) X m_k_X6_84 dX6_lick_21 ?_
      exact hret _ _ _ _ h dX6_lick_23
  · replace h := h.2 c
    refine b_ldc (v := ((-1000000001) : Int32)) X m_k_X6_150 dX6_lick_8 ?_
    exact hret _ _ _ _ h dX6_lick_10
set_option maxHeartbeats 4000000 in
set_option maxRecDepth 100000 in
theorem c_X6_mesh (l : Launch) (D : va_G) (C : Nat → ClassId) (ad : Nat → Nat) (a1 : Int32) (a2 : Int32) (μ : Mem) (Q : Int32 → Mem → Prop) (h : w_X6_mesh a1 a2 μ Q) : Mi sF l yX6_mesh cX6_mesh 4 (some .int) rm_X6_mesh D C ad [.ref (ad 0), .int a1, .int a2] μ Q := by
  refine fm_i (by decide +kernel) sF_lt (Nat.le_of_ble_eq_true rfl) (fun K X hret => ?_)
  have X : CK sF D C ad K cX6_mesh 4 RX6 := X
  refine b_lv (lv' := [(0, .ref (ad 0)), (1, .int a1), (2, .int a2)]) rfl ?_
  unfold w_X6_mesh at h
  refine b_aload_n X dX6_mesh_0 rfl 0 rfl ?_
  refine b_iload_n X dX6_mesh_1 rfl 1 rfl ?_
  refine bVi (st := []) (nA := 1) X (c_X6_isPost l D C ad a1 μ _ h) kF_0 (by decide) (enc_6 kF_0) rfl gw_X6_146 ⟨rfl, hd_X6_isPost⟩ ⟨Nat.zero_le _, Nat.zero_le _⟩ rfl rfl ⟨Nat.le_of_ble_eq_true rfl, Nat.le_of_ble_eq_true rfl⟩ rfl rfl (Nat.le_of_ble_eq_true rfl) dX6_mesh_2 (fun r1 μ2 h => ?_)
  obtain ⟨rfl, h⟩ := h
  refine b_if_ne (t := 11) X dX6_mesh_5 (by decide) (fun c => ?_) (fun c => ?_)
  · replace h := h.1 c
    refine b_iload_n X dX6_mesh_11 rfl 2 rfl ?_
    refine b_iconst (v := (nI 0)) X dX6_mesh_12 (by decide) ?_
    refine b_bipush (v := (nI 9)) X dX6_mesh_13 (by decide) ?_
    refine bSi (st := []) (nA := 3) X (c_X6_within l D C ad a2 (nI 0) (nI 9) μ _ h) gw_X6_80 hd_X6_within ⟨Nat.zero_le _, Nat.zero_le _⟩ rfl rfl ⟨Nat.le_of_ble_eq_true rfl, Nat.le_of_ble_eq_true rfl⟩ rfl rfl (Nat.le_of_ble_eq_true rfl) dX6_mesh_15 (fun r3 μ4 h => ?_)
    obtain ⟨rfl, h⟩ := h
    refine b_if_ne (t := 24) X dX6_mesh_18 (by decide) (fun c => ?_) (fun c => ?_)
    · replace h := h.1 c
      refine b_aload_n X dX6_mesh_24 rfl 0 rfl ?_
      refine g_6_7 X kF_0 m_f_X6_50 dX6_mesh_25 ?_
      refine b_aload_n X dX6_mesh_28 rfl 0 rfl ?_
      refine g_6_3 X kF_0 m_f_X6_29 dX6_mesh_29 ?_
      refine bVv (st := []) (nA := 1) X (c_X2_remember l D C ad 25 kF_25 μ _ h) kF_41 (by decide) (enc_2 kF_41) rfl gw_X6_211 ⟨rfl, hd_X2_remember⟩ ⟨Nat.zero_le _, Nat.zero_le _⟩ rfl rfl ⟨Nat.le_of_ble_eq_true rfl, Nat.le_of_ble_eq_true rfl⟩ rfl rfl (Nat.le_of_ble_eq_true rfl) dX6_mesh_32 (fun μ6 h => ?_)
      refine b_aload_n X dX6_mesh_35 rfl 0 rfl ?_
      refine g_6_3 X kF_0 m_f_X6_29 dX6_mesh_36 ?_
      refine g_4_6 X kF_25 m_f_X6_158 dX6_mesh_39 ?_
      refine b_iload_n X dX6_mesh_42 rfl 1 rfl ?_
      refine bSi (st := []) (nA := 2) X (c_X6_at l D C ad (25 + 2) (st_k2 kF_25) a1 μ6 _ h) gw_X6_154 hd_X6_at ⟨Nat.zero_le _, Nat.zero_le _⟩ rfl rfl ⟨Nat.le_of_ble_eq_true rfl, Nat.le_of_ble_eq_true rfl⟩ rfl rfl (Nat.le_of_ble_eq_true rfl) dX6_mesh_43 (fun r7 μ8 h => ?_)
      obtain ⟨rfl, h⟩ := h
      refine b_istore_n (lv' := [(3, .int r7), (0, .ref (ad 0)), (1, .int a1), (2, .int a2)]) X dX6_mesh_46 rfl (by decide) rfl ?_
      refine b_aload_n X dX6_mesh_47 rfl 1 rfl ?_
      refine g_6_3 X kF_0 m_f_X6_29 dX6_mesh_48 ?_
      refine g_4_6 X kF_25 m_f_X6_158 dX6_mesh_51 ?_
      refine b_iload_n X dX6_mesh_54 rfl 2 rfl ?_
      refine b_iload_n X dX6_mesh_55 rfl 3 rfl ?_
      refine bSv (st := []) (nA := 3) X (c_X6_put l D C ad (25 + 2) (st_k2 kF_25) a1 a2 μ6 _ h) gw_X6_227 hd_X6_put ⟨Nat.zero_le _, Nat.zero_le _⟩ rfl rfl ⟨Nat.le_of_ble_eq_true rfl, Nat.le_of_ble_eq_true rfl⟩ rfl rfl (Nat.le_of_ble_eq_true rfl) dX6_mesh_56 (fun μ10 h => ?_)
      refine b_iload_n X dX6_mesh_59 rfl 0 rfl ?_
      exact hret _ _ _ _ h dX6_mesh_60
    · replace h := h.2 c
      refine b_ldc (v := ((-1000000002) : Int32)) X m_k_X6_84 dX6_mesh_21 ?_
      exact hret _ _ _ _ h dX6_mesh_23
  · replace h := h.2 c
    refine b_ldc (v := ((-1000000001) : Int32)) X m_k_X6_150 dX6_mesh_8 ?_
    exact hret _ _ _ _ h dX6_mesh_10
set_option maxHeartbeats 4000000 in
set_option maxRecDepth 100000 in
theorem c_X6_isCell (l : Launch) (D : va_G) (C : Nat → ClassId) (ad : Nat → Nat) (a1 : Int32) (μ : Mem) (Q : Int32 → Prop) (h : w_X6_isCell a1 μ Q) : Mi sF l yX6_isCell cX6_isCell 2 (some .boolean) rm_X6_isCell D C ad [.ref (ad 0), .int a1] μ (fun r μ' => μ = μ' ∧ Q r) := by
  refine fm_z (by decide +kernel) sF_lt (Nat.le_of_ble_eq_true rfl) (fun K X hret => ?_)
  have X : CK sF D C ad K cX6_isCell 2 RX6 := X
  refine b_lv (lv' := [(0, .ref (ad 0)), (1, .int a1)]) rfl ?_
  unfold w_X6_isCell at h
  refine b_iload_n X dX6_isCell_0 rfl 1 rfl ?_
  refine b_iconst (v := (nI 0)) X dX6_isCell_1 (by decide) ?_
  refine b_aload_n X dX6_isCell_2 rfl 0 rfl ?_
  refine g_6_1 X kF_0 m_f_X6_19 dX6_isCell_3 ?_
  refine b_wf (fun hf1 => ?_)
  refine g_0_0 X (hf1 kF_0).1 m_f_X6_111 dX6_isCell_6 ?_
  refine b_iconst (v := (nI 1)) X dX6_isCell_9 (by decide) ?_
  refine b_isub X dX6_isCell_10 ?_
  refine bSi (st := []) (nA := 3) X (c_X6_within l D C ad a1 (nI 0) ((μ.1 (μ.2.2 0) 0) - (nI 1)) μ _ h) gw_X6_80 hd_X6_within ⟨Nat.zero_le _, Nat.zero_le _⟩ rfl rfl ⟨Nat.le_of_ble_eq_true rfl, Nat.le_of_ble_eq_true rfl⟩ rfl rfl (Nat.le_of_ble_eq_true rfl) dX6_isCell_11 (fun r2 μ3 h => ?_)
  obtain ⟨rfl, h⟩ := h
  exact hret _ _ _ _ ⟨h.1, rfl, h.2⟩ dX6_isCell_14
set_option maxHeartbeats 4000000 in
set_option maxRecDepth 100000 in
theorem c_X6_move (l : Launch) (D : va_G) (C : Nat → ClassId) (ad : Nat → Nat) (a1 : Int32) (a2 : Int32) (μ : Mem) (Q : Int32 → Mem → Prop) (h : w_X6_move a1 a2 μ Q) : Mi sF l yX6_move cX6_move 4 (some .int) rm_X6_move D C ad [.ref (ad 0), .int a1, .int a2] μ Q := by
  refine fm_i (by decide +kernel) sF_lt (Nat.le_of_ble_eq_true rfl) (fun K X hret => ?_)
  have X : CK sF D C ad K cX6_move 4 RX6 := X
  refine b_lv (lv' := [(0, .ref (ad 0)), (1, .int a1), (2, .int a2)]) rfl ?_
  unfold w_X6_move at h
  refine b_aload_n X dX6_move_0 rfl 0 rfl ?_
  refine b_iload_n X dX6_move_1 rfl 1 rfl ?_
  refine bVi (st := []) (nA := 1) X (c_X6_isPost l D C ad a1 μ _ h) kF_0 (by decide) (enc_6 kF_0) rfl gw_X6_146 ⟨rfl, hd_X6_isPost⟩ ⟨Nat.zero_le _, Nat.zero_le _⟩ rfl rfl ⟨Nat.le_of_ble_eq_true rfl, Nat.le_of_ble_eq_true rfl⟩ rfl rfl (Nat.le_of_ble_eq_true rfl) dX6_move_2 (fun r1 μ2 h => ?_)
  obtain ⟨rfl, h⟩ := h
  refine b_if_eq (t := 16) X dX6_move_5 (by decide) (fun c => ?_) (fun c => ?_)
  · replace h := h.1 c
    refine b_ldc (v := ((-1000000001) : Int32)) X m_k_X6_150 dX6_move_16 ?_
    exact hret _ _ _ _ h dX6_move_18
  · replace h := h.2 c
    refine b_aload_n X dX6_move_8 rfl 0 rfl ?_
    refine b_iload_n X dX6_move_9 rfl 2 rfl ?_
    refine bVi (st := []) (nA := 1) X (c_X6_isCell l D C ad a2 μ _ h) kF_0 (by decide) (enc_6 kF_0) rfl gw_X6_231 ⟨rfl, hd_X6_isCell⟩ ⟨Nat.zero_le _, Nat.zero_le _⟩ rfl rfl ⟨Nat.le_of_ble_eq_true rfl, Nat.le_of_ble_eq_true rfl⟩ rfl rfl (Nat.le_of_ble_eq_true rfl) dX6_move_10 (fun r3 μ4 h => ?_)
    obtain ⟨rfl, h⟩ := h
    refine b_if_ne (t := 19) X dX6_move_13 (by decide) (fun c => ?_) (fun c => ?_)
    · replace h := h.1 c
      refine b_aload_n X dX6_move_19 rfl 0 rfl ?_
      refine g_6_3 X kF_0 m_f_X6_29 dX6_move_20 ?_
      refine b_iload_n X dX6_move_23 rfl 2 rfl ?_
      refine bVi (st := []) (nA := 1) X (c_X4_postIn l D C ad 25 kF_25 a2 μ _ h) kF_25 (by decide) (enc_4 kF_25) rfl gw_X6_234 ⟨rfl, hd_X4_postIn⟩ ⟨Nat.zero_le _, Nat.zero_le _⟩ rfl rfl ⟨Nat.le_of_ble_eq_true rfl, Nat.le_of_ble_eq_true rfl⟩ rfl rfl (Nat.le_of_ble_eq_true rfl) dX6_move_24 (fun r5 μ6 h => ?_)
      obtain ⟨rfl, h⟩ := h
      refine b_iconst (v := ((-1) : Int32)) X dX6_move_27 (by decide) ?_
      refine b_icmp_eq (t := 34) X dX6_move_28 (by decide) (fun c => ?_) (fun c => ?_)
      · replace h := h.1 c
        refine b_aload_n X dX6_move_34 rfl 0 rfl ?_
        refine g_6_7 X kF_0 m_f_X6_50 dX6_move_35 ?_
        refine b_aload_n X dX6_move_38 rfl 0 rfl ?_
        refine g_6_3 X kF_0 m_f_X6_29 dX6_move_39 ?_
        refine bVv (st := []) (nA := 1) X (c_X2_remember l D C ad 25 kF_25 μ _ h) kF_41 (by decide) (enc_2 kF_41) rfl gw_X6_211 ⟨rfl, hd_X2_remember⟩ ⟨Nat.zero_le _, Nat.zero_le _⟩ rfl rfl ⟨Nat.le_of_ble_eq_true rfl, Nat.le_of_ble_eq_true rfl⟩ rfl rfl (Nat.le_of_ble_eq_true rfl) dX6_move_42 (fun μ8 h => ?_)
        refine b_aload_n X dX6_move_45 rfl 0 rfl ?_
        refine g_6_3 X kF_0 m_f_X6_29 dX6_move_46 ?_
        refine g_4_5 X kF_25 m_f_X6_151 dX6_move_49 ?_
        refine b_iload_n X dX6_move_52 rfl 1 rfl ?_
        refine bSi (st := []) (nA := 2) X (c_X6_at l D C ad (25 + 1) (st_k1 kF_25) a1 μ8 _ h) gw_X6_154 hd_X6_at ⟨Nat.zero_le _, Nat.zero_le _⟩ rfl rfl ⟨Nat.le_of_ble_eq_true rfl, Nat.le_of_ble_eq_true rfl⟩ rfl rfl (Nat.le_of_ble_eq_true rfl) dX6_move_53 (fun r9 μ10 h => ?_)
        obtain ⟨rfl, h⟩ := h
        refine b_istore_n (lv' := [(3, .int r9), (0, .ref (ad 0)), (1, .int a1), (2, .int a2)]) X dX6_move_56 rfl (by decide) rfl ?_
        refine b_aload_n X dX6_move_57 rfl 1 rfl ?_
        refine g_6_3 X kF_0 m_f_X6_29 dX6_move_58 ?_
        refine g_4_5 X kF_25 m_f_X6_151 dX6_move_61 ?_
        refine b_iload_n X dX6_move_64 rfl 2 rfl ?_
        refine b_iload_n X dX6_move_65 rfl 3 rfl ?_
        refine bSv (st := []) (nA := 3) X (c_X6_put l D C ad (25 + 1) (st_k1 kF_25) a1 a2 μ8 _ h) gw_X6_227 hd_X6_put ⟨Nat.zero_le _, Nat.zero_le _⟩ rfl rfl ⟨Nat.le_of_ble_eq_true rfl, Nat.le_of_ble_eq_true rfl⟩ rfl rfl (Nat.le_of_ble_eq_true rfl) dX6_move_66 (fun μ12 h => ?_)
        refine b_iload_n X dX6_move_69 rfl 0 rfl ?_
        exact hret _ _ _ _ h dX6_move_70
      · replace h := h.2 c
        refine b_ldc (v := ((-1000000003) : Int32)) X m_k_X6_177 dX6_move_31 ?_
        exact hret _ _ _ _ h dX6_move_33
    · replace h := h.2 c
      refine b_ldc (v := ((-1000000001) : Int32)) X m_k_X6_150 dX6_move_16 ?_
      exact hret _ _ _ _ h dX6_move_18
set_option maxHeartbeats 4000000 in
set_option maxRecDepth 100000 in
theorem c_X6_lamp (l : Launch) (D : va_G) (C : Nat → ClassId) (ad : Nat → Nat) (a1 : Int32) (μ : Mem) (Q : Int32 → Mem → Prop) (h : w_X6_lamp a1 μ Q) : Mi sF l yX6_lamp cX6_lamp 3 (some .int) rm_X6_lamp D C ad [.ref (ad 0), .int a1] μ Q := by
  refine fm_i (by decide +kernel) sF_lt (Nat.le_of_ble_eq_true rfl) (fun K X hret => ?_)
  have X : CK sF D C ad K cX6_lamp 3 RX6 := X
  refine b_lv (lv' := [(0, .ref (ad 0)), (1, .int a1)]) rfl ?_
  unfold w_X6_lamp at h
  have B36 : ∀ (s1 : Int32) (μ : Mem), w_X6_lamp_36 a1 s1 μ Q → WB sF l D C ad rm_X6_lamp K 3 μ 36 [(0, .ref (ad 0)), (1, .int a1)] [.int s1] := by
    intro s1 μ h
    unfold w_X6_lamp_36 at h
    refine b_istore_n (lv' := [(2, .int s1), (0, .ref (ad 0)), (1, .int a1)]) X dX6_lamp_36 rfl (by decide) rfl ?_
    refine b_aload_n X dX6_lamp_37 rfl 1 rfl ?_
    refine g_6_3 X kF_0 m_f_X6_29 dX6_lamp_38 ?_
    refine b_iload_n X dX6_lamp_41 rfl 2 rfl ?_
    have hz := h.1
    replace h := h.2
    refine p_4_2 X kF_25 hz m_f_X6_130 dX6_lamp_42 (fun μ5 eμ5 => ?_)
    replace h := h μ5 eμ5
    refine b_iload_n X dX6_lamp_45 rfl 0 rfl ?_
    exact hret _ _ _ _ h dX6_lamp_46
  refine b_aload_n X dX6_lamp_0 rfl 0 rfl ?_
  refine bVi (st := []) (nA := 0) X (c_X6_isBare l D C ad  μ _ h) kF_0 (by decide) (enc_6 kF_0) rfl gw_X6_173 ⟨rfl, hd_X6_isBare⟩ ⟨Nat.zero_le _, Nat.zero_le _⟩ rfl rfl ⟨Nat.le_of_ble_eq_true rfl, Nat.le_of_ble_eq_true rfl⟩ rfl rfl (Nat.le_of_ble_eq_true rfl) dX6_lamp_1 (fun r1 μ2 h => ?_)
  obtain ⟨rfl, h⟩ := h
  refine b_if_eq (t := 10) X dX6_lamp_4 (by decide) (fun c => ?_) (fun c => ?_)
  · replace h := h.1 c
    refine b_aload_n X dX6_lamp_10 rfl 0 rfl ?_
    refine g_6_7 X kF_0 m_f_X6_50 dX6_lamp_11 ?_
    refine b_aload_n X dX6_lamp_14 rfl 0 rfl ?_
    refine g_6_3 X kF_0 m_f_X6_29 dX6_lamp_15 ?_
    refine bVv (st := []) (nA := 1) X (c_X2_remember l D C ad 25 kF_25 μ _ h) kF_41 (by decide) (enc_2 kF_41) rfl gw_X6_211 ⟨rfl, hd_X2_remember⟩ ⟨Nat.zero_le _, Nat.zero_le _⟩ rfl rfl ⟨Nat.le_of_ble_eq_true rfl, Nat.le_of_ble_eq_true rfl⟩ rfl rfl (Nat.le_of_ble_eq_true rfl) dX6_lamp_18 (fun μ4 h => ?_)
    refine b_aload_n X dX6_lamp_21 rfl 0 rfl ?_
    refine g_6_3 X kF_0 m_f_X6_29 dX6_lamp_22 ?_
    refine g_4_2 X kF_25 m_f_X6_130 dX6_lamp_25 ?_
    refine b_if_eq (t := 35) X dX6_lamp_28 (by decide) (fun c => ?_) (fun c => ?_)
    · replace h := h.1 c
      refine b_iconst (v := (nI 0)) X dX6_lamp_35 (by decide) ?_
      refine b_sub (lv' := [(0, .ref (ad 0)), (1, .int a1)]) [0, 1] rfl ?_
      exact B36 (nI 0) μ4 h
    · replace h := h.2 c
      refine b_iconst (v := (nI 1)) X dX6_lamp_31 (by decide) ?_
      refine b_goto (t := 36) X dX6_lamp_32 (by decide) ?_
      refine b_sub (lv' := [(0, .ref (ad 0)), (1, .int a1)]) [0, 1] rfl ?_
      exact B36 (nI 1) μ4 h
  · replace h := h.2 c
    refine b_ldc (v := ((-1000000003) : Int32)) X m_k_X6_177 dX6_lamp_7 ?_
    exact hret _ _ _ _ h dX6_lamp_9
set_option maxHeartbeats 4000000 in
set_option maxRecDepth 100000 in
theorem c_X6_draw (l : Launch) (D : va_G) (C : Nat → ClassId) (ad : Nat → Nat) (a1 : Int32) (μ : Mem) (Q : Int32 → Mem → Prop) (h : w_X6_draw a1 μ Q) : Mi sF l yX6_draw cX6_draw 2 (some .int) rm_X6_draw D C ad [.ref (ad 0), .int a1] μ Q := by
  refine fm_i (by decide +kernel) sF_lt (Nat.le_of_ble_eq_true rfl) (fun K X hret => ?_)
  have X : CK sF D C ad K cX6_draw 2 RX6 := X
  refine b_lv (lv' := [(0, .ref (ad 0)), (1, .int a1)]) rfl ?_
  unfold w_X6_draw at h
  refine b_aload_n X dX6_draw_0 rfl 0 rfl ?_
  refine b_aload_n X dX6_draw_1 rfl 0 rfl ?_
  refine g_6_10 X kF_0 m_f_X6_61 dX6_draw_2 ?_
  refine b_i2l X dX6_draw_5 ?_
  refine b_ldc2 (v := (lN 1103515245)) X m_K_X6_326 dX6_draw_6 ?_
  refine b_lmul X dX6_draw_9 ?_
  refine b_ldc2 (v := (lN 12345)) X m_K_X6_328 dX6_draw_10 ?_
  refine b_ladd X dX6_draw_13 ?_
  refine b_ldc2 (v := (lN 2147483647)) X m_K_X6_330 dX6_draw_14 ?_
  refine b_land X dX6_draw_17 ?_
  refine b_l2i X dX6_draw_18 ?_
  refine p_6_10 X kF_0 m_f_X6_61 dX6_draw_19 (fun μ1 eμ1 => ?_)
  replace h := h μ1 eμ1
  refine b_iload_n X dX6_draw_22 rfl 1 rfl ?_
  refine b_if_le (t := 39) X dX6_draw_23 (by decide) (fun c => ?_) (fun c => ?_)
  · replace h := h.1 c
    refine b_iconst (v := (nI 0)) X dX6_draw_39 (by decide) ?_
    exact hret _ _ _ _ h dX6_draw_40
  · replace h := h.2 c
    refine b_aload_n X dX6_draw_26 rfl 0 rfl ?_
    refine g_6_10 X kF_0 m_f_X6_61 dX6_draw_27 ?_
    refine b_ldcw (v := (nI 65536)) X m_k_X6_332 dX6_draw_30 ?_
    have hz := h.1
    replace h := h.2
    refine b_idiv X dX6_draw_33 hz ?_
    clear hz
    refine b_iload_n X dX6_draw_34 rfl 1 rfl ?_
    have hz := h.1
    replace h := h.2
    refine b_irem X dX6_draw_35 hz ?_
    clear hz
    refine b_topi (fun x2 ex2 => ?_)
    replace h := h x2 ex2
    refine b_goto (t := 40) X dX6_draw_36 (by decide) ?_
    exact hret _ _ _ _ h dX6_draw_40
set_option maxHeartbeats 4000000 in
set_option maxRecDepth 100000 in
theorem c_X6_lickByDraws (l : Launch) (D : va_G) (C : Nat → ClassId) (ad : Nat → Nat)  (μ : Mem) (Q : Mem → Prop) (h : w_X6_lickByDraws  μ Q) : Mv sF l yX6_lickByDraws cX6_lickByDraws 2 none rm_X6_lickByDraws D C ad [.ref (ad 0)] μ Q := by
  refine fm_v (by decide +kernel) sF_lt (Nat.le_of_ble_eq_true rfl) (fun K X hret => ?_)
  have X : CK sF D C ad K cX6_lickByDraws 2 RX6 := X
  refine b_lv (lv' := [(0, .ref (ad 0))]) rfl ?_
  unfold w_X6_lickByDraws at h
  refine b_aload_n X dX6_lickByDraws_0 rfl 0 rfl ?_
  refine g_6_1 X kF_0 m_f_X6_19 dX6_lickByDraws_1 ?_
  refine b_wf (fun hf1 => ?_)
  refine g_0_3 X (hf1 kF_0).1 m_f_X6_105 dX6_lickByDraws_4 ?_
  refine b_if_eq (t := 19) X dX6_lickByDraws_7 (by decide) (fun c => ?_) (fun c => ?_)
  · replace h := h.1 c
    exact hret _ _ _ h dX6_lickByDraws_19
  · replace h := h.2 c
    refine b_aload_n X dX6_lickByDraws_10 rfl 0 rfl ?_
    refine b_bipush (v := (nI 8)) X dX6_lickByDraws_11 (by decide) ?_
    refine bVi (st := []) (nA := 1) X (c_X6_draw l D C ad (nI 8) μ _ h) kF_0 (by decide) (enc_6 kF_0) rfl gw_X6_237 ⟨rfl, hd_X6_draw⟩ ⟨Nat.zero_le _, Nat.zero_le _⟩ rfl rfl ⟨Nat.le_of_ble_eq_true rfl, Nat.le_of_ble_eq_true rfl⟩ rfl rfl (Nat.le_of_ble_eq_true rfl) dX6_lickByDraws_13 (fun r2 μ3 h => ?_)
    refine b_if_eq (t := 20) X dX6_lickByDraws_16 (by decide) (fun c => ?_) (fun c => ?_)
    · replace h := h.1 c
      refine b_aload_n X dX6_lickByDraws_20 rfl 0 rfl ?_
      refine b_aload_n X dX6_lickByDraws_21 rfl 0 rfl ?_
      refine g_6_1 X kF_0 m_f_X6_19 dX6_lickByDraws_22 ?_
      refine b_wf (fun hf4 => ?_)
      refine g_0_3 X (hf4 kF_0).1 m_f_X6_105 dX6_lickByDraws_25 ?_
      refine bVi (st := []) (nA := 1) X (c_X6_draw l D C ad (μ3.1 (μ3.2.2 0) 3) μ3 _ h) kF_0 (by decide) (enc_6 kF_0) rfl gw_X6_237 ⟨rfl, hd_X6_draw⟩ ⟨Nat.zero_le _, Nat.zero_le _⟩ rfl rfl ⟨Nat.le_of_ble_eq_true rfl, Nat.le_of_ble_eq_true rfl⟩ rfl rfl (Nat.le_of_ble_eq_true rfl) dX6_lickByDraws_28 (fun r5 μ6 h => ?_)
      refine b_istore_n (lv' := [(1, .int r5), (0, .ref (ad 0))]) X dX6_lickByDraws_31 rfl (by decide) rfl ?_
      refine b_aload_n X dX6_lickByDraws_32 rfl 1 rfl ?_
      refine g_6_3 X kF_0 m_f_X6_29 dX6_lickByDraws_33 ?_
      refine b_iload_n X dX6_lickByDraws_36 rfl 0 rfl ?_
      refine b_aload_n X dX6_lickByDraws_37 rfl 1 rfl ?_
      refine b_bipush (v := (nI 10)) X dX6_lickByDraws_38 (by decide) ?_
      refine bVi (st := [.int r5, .ref (ad 25)]) (nA := 1) X (c_X6_draw l D C ad (nI 10) μ6 _ h) kF_0 (by decide) (enc_6 kF_0) rfl gw_X6_237 ⟨rfl, hd_X6_draw⟩ ⟨Nat.zero_le _, Nat.zero_le _⟩ rfl rfl ⟨Nat.le_of_ble_eq_true rfl, Nat.le_of_ble_eq_true rfl⟩ rfl rfl (Nat.le_of_ble_eq_true rfl) dX6_lickByDraws_40 (fun r7 μ8 h => ?_)
      refine bVi (st := []) (nA := 2) X (c_X4_loseFromJar l D C ad 25 kF_25 r5 r7 μ8 _ h) kF_25 (by decide) (enc_4 kF_25) rfl gw_X6_223 ⟨rfl, hd_X4_loseFromJar⟩ ⟨Nat.zero_le _, Nat.zero_le _⟩ rfl rfl ⟨Nat.le_of_ble_eq_true rfl, Nat.le_of_ble_eq_true rfl⟩ rfl rfl (Nat.le_of_ble_eq_true rfl) dX6_lickByDraws_43 (fun r9 μ10 h => ?_)
      refine b_pop X dX6_lickByDraws_46 rfl ?_
      exact hret _ _ _ h dX6_lickByDraws_47
    · replace h := h.2 c
      exact hret _ _ _ h dX6_lickByDraws_19
set_option maxHeartbeats 4000000 in
set_option maxRecDepth 100000 in
theorem c_X6_drift (l : Launch) (D : va_G) (C : Nat → ClassId) (ad : Nat → Nat) (a1 : Int32) (μ : Mem) (Q : Int32 → Mem → Prop) (h : w_X6_drift a1 μ Q) : Mi sF l yX6_drift cX6_drift 6 (some .int) rm_X6_drift D C ad [.ref (ad 0), .int a1] μ Q := by
  refine fm_i (by decide +kernel) sF_lt (Nat.le_of_ble_eq_true rfl) (fun K X hret => ?_)
  have X : CK sF D C ad K cX6_drift 6 RX6 := X
  refine b_lv (lv' := [(0, .ref (ad 0)), (1, .int a1)]) rfl ?_
  unfold w_X6_drift at h
  have B43 : ∀ (v2 : Int32) (v3 : Int32) (μ : Mem), w_X6_drift_43 a1 v2 v3 μ Q → WB sF l D C ad rm_X6_drift K 6 μ 43 [(0, .ref (ad 0)), (1, .int a1), (2, .int v2), (3, .int v3)] [] := by
    intro v2 v3 μ h
    obtain ⟨Y43, eY⟩ : ∃ Y : Int32 → Int32 → Mem → Prop, Y = fun (v2 : Int32) (v3 : Int32) (μ : Mem) => WB sF l D C ad rm_X6_drift K 6 μ 43 [(0, .ref (ad 0)), (1, .int a1), (2, .int v2), (3, .int v3)] [] := ⟨_, rfl⟩
    have B43 : Y43 v2 v3 μ := by
      unfold w_X6_drift_43 at h
      refine h Y43 ?_
      clear h
      intro v2 v3 μ h
      unfold s_X6_drift_43 at h
      rw [eY]
      show WB sF l D C ad rm_X6_drift K 6 μ 43 [(0, .ref (ad 0)), (1, .int a1), (2, .int v2), (3, .int v3)] []
      have T43 : ∀ (v2 : Int32) (v3 : Int32) (μ : Mem), Y43 v2 v3 μ → WB sF l D C ad rm_X6_drift K 6 μ 43 [(0, .ref (ad 0)), (1, .int a1), (2, .int v2), (3, .int v3)] [] := by
        intro v2 v3 μ h
        rw [eY] at h
        exact h
      clear eY
      refine b_iload_n X dX6_drift_43 rfl 3 rfl ?_
      refine b_iload_n X dX6_drift_44 rfl 1 rfl ?_
      refine b_icmp_ge (t := 107) X dX6_drift_45 (by decide) (fun c => ?_) (fun c => ?_)
      · replace h := h.1 c
        refine b_iload_n X dX6_drift_107 rfl 2 rfl ?_
        exact hret _ _ _ _ h dX6_drift_108
      · replace h := h.2 c
        refine b_aload_n X dX6_drift_48 rfl 0 rfl ?_
        refine g_6_7 X kF_0 m_f_X6_50 dX6_drift_49 ?_
        refine b_aload_n X dX6_drift_52 rfl 0 rfl ?_
        refine g_6_3 X kF_0 m_f_X6_29 dX6_drift_53 ?_
        refine bVv (st := []) (nA := 1) X (c_X2_remember l D C ad 25 kF_25 μ _ h) kF_41 (by decide) (enc_2 kF_41) rfl gw_X6_211 ⟨rfl, hd_X2_remember⟩ ⟨Nat.zero_le _, Nat.zero_le _⟩ rfl rfl ⟨Nat.le_of_ble_eq_true rfl, Nat.le_of_ble_eq_true rfl⟩ rfl rfl (Nat.le_of_ble_eq_true rfl) dX6_drift_56 (fun μ6 h => ?_)
        refine b_aload_n X dX6_drift_59 rfl 0 rfl ?_
        refine b_bipush (v := (nI 41)) X dX6_drift_60 (by decide) ?_
        refine bVi (st := []) (nA := 1) X (c_X6_draw l D C ad (nI 41) μ6 _ h) kF_0 (by decide) (enc_6 kF_0) rfl gw_X6_237 ⟨rfl, hd_X6_draw⟩ ⟨Nat.zero_le _, Nat.zero_le _⟩ rfl rfl ⟨Nat.le_of_ble_eq_true rfl, Nat.le_of_ble_eq_true rfl⟩ rfl rfl (Nat.le_of_ble_eq_true rfl) dX6_drift_62 (fun r7 μ8 h => ?_)
        refine b_istore (lv' := [(4, .int r7), (0, .ref (ad 0)), (1, .int a1), (2, .int v2), (3, .int v3)]) X dX6_drift_65 (by decide) rfl ?_
        refine b_aload_n X dX6_drift_67 rfl 1 rfl ?_
        refine b_iconst (v := (nI 2)) X dX6_drift_68 (by decide) ?_
        refine bVi (st := []) (nA := 1) X (c_X6_draw l D C ad (nI 2) μ8 _ h) kF_0 (by decide) (enc_6 kF_0) rfl gw_X6_237 ⟨rfl, hd_X6_draw⟩ ⟨Nat.zero_le _, Nat.zero_le _⟩ rfl rfl ⟨Nat.le_of_ble_eq_true rfl, Nat.le_of_ble_eq_true rfl⟩ rfl rfl (Nat.le_of_ble_eq_true rfl) dX6_drift_69 (fun r9 μ10 h => ?_)
        refine b_istore (lv' := [(5, .int r9), (4, .int r7), (0, .ref (ad 0)), (1, .int a1), (2, .int v2), (3, .int v3)]) X dX6_drift_72 (by decide) rfl ?_
        refine b_iload_n X dX6_drift_74 rfl 4 rfl ?_
        refine b_aload_n X dX6_drift_75 rfl 2 rfl ?_
        refine g_6_3 X kF_0 m_f_X6_29 dX6_drift_76 ?_
        refine b_aload_n X dX6_drift_79 rfl 2 rfl ?_
        refine g_6_1 X kF_0 m_f_X6_19 dX6_drift_80 ?_
        refine b_wf (fun hf11 => ?_)
        refine b_aload_n X dX6_drift_83 rfl 2 rfl ?_
        refine g_6_6 X kF_0 m_f_X6_43 dX6_drift_84 ?_
        refine b_iload X dX6_drift_87 0 rfl ?_
        refine b_iload X dX6_drift_89 1 rfl ?_
        refine b_iconst (v := (nI 0)) X dX6_drift_91 (by decide) ?_
        refine bVi (st := [.int v2]) (nA := 5) X (c_X4_passHour l D C ad 25 kF_25 (μ10.2.2 0) (hf11 kF_0).1 r9 r7 (nI 0) μ10 _ h) kF_25 (by decide) (enc_4 kF_25) rfl gw_X6_215 ⟨rfl, hd_X4_passHour⟩ ⟨Nat.zero_le _, Nat.zero_le _⟩ rfl rfl ⟨Nat.le_of_ble_eq_true rfl, Nat.le_of_ble_eq_true rfl⟩ rfl rfl (Nat.le_of_ble_eq_true rfl) dX6_drift_92 (fun r12 μ13 h => ?_)
        refine b_iadd X dX6_drift_95 ?_
        refine b_topi (fun x14 ex14 => ?_)
        replace h := h x14 ex14
        refine b_istore_n (lv' := [(2, .int x14), (5, .int r9), (4, .int r7), (0, .ref (ad 0)), (1, .int a1), (3, .int v3)]) X dX6_drift_96 rfl (by decide) rfl ?_
        refine b_aload_n X dX6_drift_97 rfl 3 rfl ?_
        refine bVv (st := []) (nA := 0) X (c_X6_lickByDraws l D C ad  μ13 _ h) kF_0 (by decide) (enc_6 kF_0) rfl gw_X6_240 ⟨rfl, hd_X6_lickByDraws⟩ ⟨Nat.zero_le _, Nat.zero_le _⟩ rfl rfl ⟨Nat.le_of_ble_eq_true rfl, Nat.le_of_ble_eq_true rfl⟩ rfl rfl (Nat.le_of_ble_eq_true rfl) dX6_drift_98 (fun μ16 h => ?_)
        obtain ⟨x17, ex17⟩ : ∃ y : Int32, y = v3 + (nI 1) := ⟨_, rfl⟩
        replace h := h x17 ex17
        refine b_iinc (x := x17) (lv' := [(3, .int x17), (2, .int x14), (5, .int r9), (4, .int r7), (0, .ref (ad 0)), (1, .int a1)]) (q := 5) X dX6_drift_101 rfl (by rw [ex17]; rfl) (by decide) rfl ?_
        refine b_goto (t := 43) X dX6_drift_104 (by decide) ?_
        refine b_sub (lv' := [(0, .ref (ad 0)), (1, .int a1), (2, .int x14), (3, .int x17)]) [4, 5, 1, 0] rfl ?_
        exact T43 x14 x17 μ16 h
    rw [eY] at B43
    exact B43
  refine b_iload_n X dX6_drift_0 rfl 1 rfl ?_
  refine b_iconst (v := (nI 1)) X dX6_drift_1 (by decide) ?_
  refine b_bipush (v := (nI 60)) X dX6_drift_2 (by decide) ?_
  refine bSi (st := []) (nA := 3) X (c_X6_within l D C ad a1 (nI 1) (nI 60) μ _ h) gw_X6_80 hd_X6_within ⟨Nat.zero_le _, Nat.zero_le _⟩ rfl rfl ⟨Nat.le_of_ble_eq_true rfl, Nat.le_of_ble_eq_true rfl⟩ rfl rfl (Nat.le_of_ble_eq_true rfl) dX6_drift_4 (fun r1 μ2 h => ?_)
  obtain ⟨rfl, h⟩ := h
  refine b_if_ne (t := 13) X dX6_drift_7 (by decide) (fun c => ?_) (fun c => ?_)
  · replace h := h.1 c
    refine b_aload_n X dX6_drift_13 rfl 0 rfl ?_
    refine bVi (st := []) (nA := 0) X (c_X6_isBare l D C ad  μ _ h) kF_0 (by decide) (enc_6 kF_0) rfl gw_X6_173 ⟨rfl, hd_X6_isBare⟩ ⟨Nat.zero_le _, Nat.zero_le _⟩ rfl rfl ⟨Nat.le_of_ble_eq_true rfl, Nat.le_of_ble_eq_true rfl⟩ rfl rfl (Nat.le_of_ble_eq_true rfl) dX6_drift_14 (fun r3 μ4 h => ?_)
    obtain ⟨rfl, h⟩ := h
    refine b_if_eq (t := 23) X dX6_drift_17 (by decide) (fun c => ?_) (fun c => ?_)
    · replace h := h.1 c
      refine b_aload_n X dX6_drift_23 rfl 0 rfl ?_
      refine g_6_3 X kF_0 m_f_X6_29 dX6_drift_24 ?_
      refine g_4_0 X kF_25 m_f_X6_124 dX6_drift_27 ?_
      refine b_sipush (v := (nI 9000)) X dX6_drift_30 (by decide) ?_
      refine b_icmp_le (t := 39) X dX6_drift_33 (by decide) (fun c => ?_) (fun c => ?_)
      · replace h := h.1 c
        refine b_iconst (v := (nI 0)) X dX6_drift_39 (by decide) ?_
        refine b_istore_n (lv' := [(2, .int (nI 0)), (0, .ref (ad 0)), (1, .int a1)]) X dX6_drift_40 rfl (by decide) rfl ?_
        refine b_iconst (v := (nI 0)) X dX6_drift_41 (by decide) ?_
        refine b_istore_n (lv' := [(3, .int (nI 0)), (2, .int (nI 0)), (0, .ref (ad 0)), (1, .int a1)]) X dX6_drift_42 rfl (by decide) rfl ?_
        refine b_sub (lv' := [(0, .ref (ad 0)), (1, .int a1), (2, .int (nI 0)), (3, .int (nI 0))]) [2, 3, 1, 0] rfl ?_
        exact B43 (nI 0) (nI 0) μ h
      · replace h := h.2 c
        refine b_ldc (v := ((-1000000004) : Int32)) X m_k_X6_88 dX6_drift_36 ?_
        exact hret _ _ _ _ h dX6_drift_38
    · replace h := h.2 c
      refine b_ldc (v := ((-1000000003) : Int32)) X m_k_X6_177 dX6_drift_20 ?_
      exact hret _ _ _ _ h dX6_drift_22
  · replace h := h.2 c
    refine b_ldc (v := ((-1000000002) : Int32)) X m_k_X6_84 dX6_drift_10 ?_
    exact hret _ _ _ _ h dX6_drift_12
set_option maxHeartbeats 4000000 in
set_option maxRecDepth 100000 in
theorem c_X6_undo (l : Launch) (D : va_G) (C : Nat → ClassId) (ad : Nat → Nat) (a1 : Int32) (μ : Mem) (Q : Int32 → Mem → Prop) (h : w_X6_undo a1 μ Q) : Mi sF l yX6_undo cX6_undo 2 (some .int) rm_X6_undo D C ad [.ref (ad 0), .int a1] μ Q := by
  refine fm_i (by decide +kernel) sF_lt (Nat.le_of_ble_eq_true rfl) (fun K X hret => ?_)
  have X : CK sF D C ad K cX6_undo 2 RX6 := X
  refine b_lv (lv' := [(0, .ref (ad 0)), (1, .int a1)]) rfl ?_
  unfold w_X6_undo at h
  refine b_iload_n X dX6_undo_0 rfl 1 rfl ?_
  refine b_iconst (v := (nI 1)) X dX6_undo_1 (by decide) ?_
  refine b_bipush (v := (nI 30)) X dX6_undo_2 (by decide) ?_
  refine bSi (st := []) (nA := 3) X (c_X6_within l D C ad a1 (nI 1) (nI 30) μ _ h) gw_X6_80 hd_X6_within ⟨Nat.zero_le _, Nat.zero_le _⟩ rfl rfl ⟨Nat.le_of_ble_eq_true rfl, Nat.le_of_ble_eq_true rfl⟩ rfl rfl (Nat.le_of_ble_eq_true rfl) dX6_undo_4 (fun r1 μ2 h => ?_)
  obtain ⟨rfl, h⟩ := h
  refine b_if_ne (t := 13) X dX6_undo_7 (by decide) (fun c => ?_) (fun c => ?_)
  · replace h := h.1 c
    refine b_iload_n X dX6_undo_13 rfl 1 rfl ?_
    refine b_aload_n X dX6_undo_14 rfl 0 rfl ?_
    refine g_6_7 X kF_0 m_f_X6_50 dX6_undo_15 ?_
    refine g_2_2 X kF_41 m_f_X6_101 dX6_undo_18 ?_
    refine b_icmp_le (t := 27) X dX6_undo_21 (by decide) (fun c => ?_) (fun c => ?_)
    · replace h := h.1 c
      refine b_aload_n X dX6_undo_27 rfl 0 rfl ?_
      refine g_6_7 X kF_0 m_f_X6_50 dX6_undo_28 ?_
      refine b_aload_n X dX6_undo_31 rfl 0 rfl ?_
      refine g_6_3 X kF_0 m_f_X6_29 dX6_undo_32 ?_
      refine b_iload_n X dX6_undo_35 rfl 1 rfl ?_
      refine bVv (st := []) (nA := 2) X (c_X2_takeBack l D C ad 25 kF_25 a1 μ _ h) kF_41 (by decide) (enc_2 kF_41) rfl gw_X6_243 ⟨rfl, hd_X2_takeBack⟩ ⟨Nat.zero_le _, Nat.zero_le _⟩ rfl rfl ⟨Nat.le_of_ble_eq_true rfl, Nat.le_of_ble_eq_true rfl⟩ rfl rfl (Nat.le_of_ble_eq_true rfl) dX6_undo_36 (fun μ4 h => ?_)
      refine b_aload_n X dX6_undo_39 rfl 0 rfl ?_
      refine g_6_3 X kF_0 m_f_X6_29 dX6_undo_40 ?_
      refine g_4_0 X kF_25 m_f_X6_124 dX6_undo_43 ?_
      exact hret _ _ _ _ h dX6_undo_46
    · replace h := h.2 c
      refine b_ldc (v := ((-1000000003) : Int32)) X m_k_X6_177 dX6_undo_24 ?_
      exact hret _ _ _ _ h dX6_undo_26
  · replace h := h.2 c
    refine b_ldc (v := ((-1000000002) : Int32)) X m_k_X6_84 dX6_undo_10 ?_
    exact hret _ _ _ _ h dX6_undo_12
set_option maxHeartbeats 4000000 in
set_option maxRecDepth 100000 in
theorem c_X6_tryHours (l : Launch) (D : va_G) (C : Nat → ClassId) (ad : Nat → Nat) (a1 : Int32) (μ : Mem) (Q : Int32 → Mem → Prop) (h : w_X6_tryHours a1 μ Q) : Mi sF l yX6_tryHours cX6_tryHours 5 (some .int) rm_X6_tryHours D C ad [.ref (ad 0), .int a1] μ Q := by
  refine fm_i (by decide +kernel) sF_lt (Nat.le_of_ble_eq_true rfl) (fun K X hret => ?_)
  have X : CK sF D C ad K cX6_tryHours 5 RX6 := X
  refine b_lv (lv' := [(0, .ref (ad 0)), (1, .int a1)]) rfl ?_
  unfold w_X6_tryHours at h
  have B4 : ∀ (v2 : Int32) (v3 : Int32) (μ : Mem), w_X6_tryHours_4 a1 v2 v3 μ Q → WB sF l D C ad rm_X6_tryHours K 5 μ 4 [(0, .ref (ad 0)), (1, .int a1), (2, .int v2), (3, .int v3)] [] := by
    intro v2 v3 μ h
    obtain ⟨Y4, eY⟩ : ∃ Y : Int32 → Mem → Prop, Y = fun (v3 : Int32) (μ : Mem) => WB sF l D C ad rm_X6_tryHours K 5 μ 4 [(0, .ref (ad 0)), (1, .int a1), (2, .int v2), (3, .int v3)] [] := ⟨_, rfl⟩
    have B4 : Y4 v3 μ := by
      unfold w_X6_tryHours_4 at h
      refine h Y4 ?_
      clear h
      intro v3 μ h
      unfold s_X6_tryHours_4 at h
      rw [eY]
      show WB sF l D C ad rm_X6_tryHours K 5 μ 4 [(0, .ref (ad 0)), (1, .int a1), (2, .int v2), (3, .int v3)] []
      have T4 : ∀ (v3 : Int32) (μ : Mem), Y4 v3 μ → WB sF l D C ad rm_X6_tryHours K 5 μ 4 [(0, .ref (ad 0)), (1, .int a1), (2, .int v2), (3, .int v3)] [] := by
        intro v3 μ h
        rw [eY] at h
        exact h
      clear eY
      have B23 : ∀ (v2 : Int32) (μ : Mem), w_X6_tryHours_23 a1 v2 μ Q → WB sF l D C ad rm_X6_tryHours K 5 μ 23 [(0, .ref (ad 0)), (1, .int a1), (2, .int v2)] [] := by
        intro v2 μ h
        unfold w_X6_tryHours_23 at h
        have B25 : ∀ (v2 : Int32) (v3 : Int32) (μ : Mem), w_X6_tryHours_25 a1 v2 v3 μ Q → WB sF l D C ad rm_X6_tryHours K 5 μ 25 [(0, .ref (ad 0)), (1, .int a1), (2, .int v2), (3, .int v3)] [] := by
          intro v2 v3 μ h
          obtain ⟨Y25, eY⟩ : ∃ Y : Int32 → Int32 → Mem → Prop, Y = fun (v2 : Int32) (v3 : Int32) (μ : Mem) => WB sF l D C ad rm_X6_tryHours K 5 μ 25 [(0, .ref (ad 0)), (1, .int a1), (2, .int v2), (3, .int v3)] [] := ⟨_, rfl⟩
          have B25 : Y25 v2 v3 μ := by
            unfold w_X6_tryHours_25 at h
            refine h Y25 ?_
            clear h
            intro v2 v3 μ h
            unfold s_X6_tryHours_25 at h
            rw [eY]
            show WB sF l D C ad rm_X6_tryHours K 5 μ 25 [(0, .ref (ad 0)), (1, .int a1), (2, .int v2), (3, .int v3)] []
            have T25 : ∀ (v2 : Int32) (v3 : Int32) (μ : Mem), Y25 v2 v3 μ → WB sF l D C ad rm_X6_tryHours K 5 μ 25 [(0, .ref (ad 0)), (1, .int a1), (2, .int v2), (3, .int v3)] [] := by
              intro v2 v3 μ h
              rw [eY] at h
              exact h
            clear eY
            have B80 : ∀ (v2 : Int32) (v3 : Int32) (v4 : Int32) (μ : Mem), w_X6_tryHours_80 a1 Y25 v2 v3 v4 μ Q → WB sF l D C ad rm_X6_tryHours K 5 μ 80 [(0, .ref (ad 0)), (1, .int a1), (2, .int v2), (3, .int v3), (4, .int v4)] [] := by
              intro v2 v3 v4 μ h
              obtain ⟨Y80, eY⟩ : ∃ Y : Int32 → Mem → Prop, Y = fun (v4 : Int32) (μ : Mem) => WB sF l D C ad rm_X6_tryHours K 5 μ 80 [(0, .ref (ad 0)), (1, .int a1), (2, .int v2), (3, .int v3), (4, .int v4)] [] := ⟨_, rfl⟩
              have B80 : Y80 v4 μ := by
                unfold w_X6_tryHours_80 at h
                refine h Y80 ?_
                clear h
                intro v4 μ h
                unfold s_X6_tryHours_80 at h
                rw [eY]
                show WB sF l D C ad rm_X6_tryHours K 5 μ 80 [(0, .ref (ad 0)), (1, .int a1), (2, .int v2), (3, .int v3), (4, .int v4)] []
                have T80 : ∀ (v4 : Int32) (μ : Mem), Y80 v4 μ → WB sF l D C ad rm_X6_tryHours K 5 μ 80 [(0, .ref (ad 0)), (1, .int a1), (2, .int v2), (3, .int v3), (4, .int v4)] [] := by
                  intro v4 μ h
                  rw [eY] at h
                  exact h
                clear eY
                have B113 : ∀ (v2 : Int32) (v3 : Int32) (μ : Mem), w_X6_tryHours_113 a1 Y25 v2 v3 μ Q → WB sF l D C ad rm_X6_tryHours K 5 μ 113 [(0, .ref (ad 0)), (1, .int a1), (2, .int v2), (3, .int v3)] [] := by
                  intro v2 v3 μ h
                  unfold w_X6_tryHours_113 at h
                  obtain ⟨x15, ex15⟩ : ∃ y : Int32, y = v3 + (nI 1) := ⟨_, rfl⟩
                  replace h := h x15 ex15
                  refine b_iinc (x := x15) (lv' := [(3, .int x15), (0, .ref (ad 0)), (1, .int a1), (2, .int v2)]) (q := 3) X dX6_tryHours_113 rfl (by rw [ex15]; rfl) (by decide) rfl ?_
                  refine b_goto (t := 25) X dX6_tryHours_116 (by decide) ?_
                  refine b_sub (lv' := [(0, .ref (ad 0)), (1, .int a1), (2, .int v2), (3, .int x15)]) [1, 2, 3, 0] rfl ?_
                  exact T25 v2 x15 μ h
                refine b_iload X dX6_tryHours_80 4 rfl ?_
                refine b_bipush (v := (nI 6)) X dX6_tryHours_82 (by decide) ?_
                refine b_icmp_ge (t := 113) X dX6_tryHours_84 (by decide) (fun c => ?_) (fun c => ?_)
                · replace h := h.1 c
                  refine b_sub (lv' := [(0, .ref (ad 0)), (1, .int a1), (2, .int v2), (3, .int v3)]) [0, 1, 2, 3] rfl ?_
                  exact B113 v2 v3 μ h
                · replace h := h.2 c
                  refine b_aload_n X dX6_tryHours_87 rfl 0 rfl ?_
                  refine g_6_5 X kF_0 m_f_X6_36 dX6_tryHours_88 ?_
                  refine b_iload X dX6_tryHours_91 4 rfl ?_
                  refine b_dup2 X dX6_tryHours_93 rfl rfl ?_
                  have hz := h.1
                  replace h := h.2
                  refine b_iald X kF_37 nF_37 hz dX6_tryHours_94 ?_
                  clear hz
                  refine b_aload_n X dX6_tryHours_95 rfl 0 rfl ?_
                  refine g_6_6 X kF_0 m_f_X6_43 dX6_tryHours_96 ?_
                  refine g_5_0 X kF_38 m_f_X6_256 dX6_tryHours_99 ?_
                  refine b_iload X dX6_tryHours_102 4 rfl ?_
                  have hz := h.1
                  replace h := h.2
                  refine b_iald X kF_39 nF_39 hz dX6_tryHours_104 ?_
                  clear hz
                  refine b_iadd X dX6_tryHours_105 ?_
                  have hz := h.1
                  replace h := h.2
                  refine b_iast X kF_37 nF_37 hz dX6_tryHours_106 (fun μ13 eμ13 => ?_)
                  clear hz
                  replace h := h μ13 eμ13
                  obtain ⟨x14, ex14⟩ : ∃ y : Int32, y = v4 + (nI 1) := ⟨_, rfl⟩
                  replace h := h x14 ex14
                  refine b_iinc (x := x14) (lv' := [(4, .int x14), (0, .ref (ad 0)), (1, .int a1), (2, .int v2), (3, .int v3)]) (q := 4) X dX6_tryHours_107 rfl (by rw [ex14]; rfl) (by decide) rfl ?_
                  refine b_goto (t := 80) X dX6_tryHours_110 (by decide) ?_
                  refine b_sub (lv' := [(0, .ref (ad 0)), (1, .int a1), (2, .int v2), (3, .int v3), (4, .int x14)]) [1, 2, 3, 4, 0] rfl ?_
                  exact T80 x14 μ13 h
              rw [eY] at B80
              exact B80
            refine b_iload_n X dX6_tryHours_25 rfl 3 rfl ?_
            refine b_iload_n X dX6_tryHours_26 rfl 1 rfl ?_
            refine b_icmp_ge (t := 119) X dX6_tryHours_27 (by decide) (fun c => ?_) (fun c => ?_)
            · replace h := h.1 c
              refine b_iload_n X dX6_tryHours_119 rfl 2 rfl ?_
              exact hret _ _ _ _ h dX6_tryHours_120
            · replace h := h.2 c
              refine b_iload_n X dX6_tryHours_30 rfl 2 rfl ?_
              refine b_aload_n X dX6_tryHours_31 rfl 0 rfl ?_
              refine g_6_4 X kF_0 m_f_X6_33 dX6_tryHours_32 ?_
              refine b_aload_n X dX6_tryHours_35 rfl 0 rfl ?_
              refine g_6_1 X kF_0 m_f_X6_19 dX6_tryHours_36 ?_
              refine b_wf (fun hf3 => ?_)
              refine b_aload_n X dX6_tryHours_39 rfl 0 rfl ?_
              refine g_6_6 X kF_0 m_f_X6_43 dX6_tryHours_40 ?_
              refine b_aload_n X dX6_tryHours_43 rfl 0 rfl ?_
              refine g_6_1 X kF_0 m_f_X6_19 dX6_tryHours_44 ?_
              refine b_wf (fun hf4 => ?_)
              refine b_aload_n X dX6_tryHours_47 rfl 0 rfl ?_
              refine g_6_4 X kF_0 m_f_X6_33 dX6_tryHours_48 ?_
              refine g_4_1 X kF_31 m_f_X6_127 dX6_tryHours_51 ?_
              refine bVi (st := [.ref (ad 38), .ref (ad (μ.2.2 0)), .ref (ad 31), .int v2]) (nA := 1) X (c_X0_sideAt l D C ad (μ.2.2 0) (hf4 kF_0).1 (μ.1 31 1) μ _ h) (hf4 kF_0).1 (by decide) (enc_0 (hf4 kF_0).1) rfl gw_X6_178 ⟨rfl, hd_X0_sideAt⟩ ⟨Nat.zero_le _, Nat.zero_le _⟩ rfl rfl ⟨Nat.le_of_ble_eq_true rfl, Nat.le_of_ble_eq_true rfl⟩ rfl rfl (Nat.le_of_ble_eq_true rfl) dX6_tryHours_54 (fun r5 μ6 h => ?_)
              obtain ⟨rfl, h⟩ := h
              refine b_aload_n X dX6_tryHours_57 rfl 0 rfl ?_
              refine g_6_1 X kF_0 m_f_X6_19 dX6_tryHours_58 ?_
              refine b_wf (fun hf7 => ?_)
              refine b_aload_n X dX6_tryHours_61 rfl 0 rfl ?_
              refine g_6_4 X kF_0 m_f_X6_33 dX6_tryHours_62 ?_
              refine g_4_1 X kF_31 m_f_X6_127 dX6_tryHours_65 ?_
              refine bVi (st := [.int r5, .ref (ad 38), .ref (ad (μ.2.2 0)), .ref (ad 31), .int v2]) (nA := 1) X (c_X0_fogAt l D C ad (μ.2.2 0) (hf7 kF_0).1 (μ.1 31 1) μ _ h) (hf7 kF_0).1 (by decide) (enc_0 (hf7 kF_0).1) rfl gw_X6_181 ⟨rfl, hd_X0_fogAt⟩ ⟨Nat.zero_le _, Nat.zero_le _⟩ rfl rfl ⟨Nat.le_of_ble_eq_true rfl, Nat.le_of_ble_eq_true rfl⟩ rfl rfl (Nat.le_of_ble_eq_true rfl) dX6_tryHours_68 (fun r8 μ9 h => ?_)
              obtain ⟨rfl, h⟩ := h
              refine b_iconst (v := (nI 0)) X dX6_tryHours_71 (by decide) ?_
              refine bVi (st := [.int v2]) (nA := 5) X (c_X4_passHour l D C ad 31 kF_31 (μ.2.2 0) (hf3 kF_0).1 r5 r8 (nI 0) μ _ h) kF_31 (by decide) (enc_4 kF_31) rfl gw_X6_215 ⟨rfl, hd_X4_passHour⟩ ⟨Nat.zero_le _, Nat.zero_le _⟩ rfl rfl ⟨Nat.le_of_ble_eq_true rfl, Nat.le_of_ble_eq_true rfl⟩ rfl rfl (Nat.le_of_ble_eq_true rfl) dX6_tryHours_72 (fun r10 μ11 h => ?_)
              refine b_iadd X dX6_tryHours_75 ?_
              refine b_topi (fun x12 ex12 => ?_)
              replace h := h x12 ex12
              refine b_istore_n (lv' := [(2, .int x12), (0, .ref (ad 0)), (1, .int a1), (3, .int v3)]) X dX6_tryHours_76 rfl (by decide) rfl ?_
              refine b_iconst (v := (nI 0)) X dX6_tryHours_77 (by decide) ?_
              refine b_istore (lv' := [(4, .int (nI 0)), (2, .int x12), (0, .ref (ad 0)), (1, .int a1), (3, .int v3)]) X dX6_tryHours_78 (by decide) rfl ?_
              refine b_sub (lv' := [(0, .ref (ad 0)), (1, .int a1), (2, .int x12), (3, .int v3), (4, .int (nI 0))]) [2, 3, 1, 4, 0] rfl ?_
              exact B80 x12 v3 (nI 0) μ11 h
          rw [eY] at B25
          exact B25
        refine b_iconst (v := (nI 0)) X dX6_tryHours_23 (by decide) ?_
        refine b_istore_n (lv' := [(3, .int (nI 0)), (0, .ref (ad 0)), (1, .int a1), (2, .int v2)]) X dX6_tryHours_24 rfl (by decide) rfl ?_
        refine b_sub (lv' := [(0, .ref (ad 0)), (1, .int a1), (2, .int v2), (3, .int (nI 0))]) [1, 2, 3, 0] rfl ?_
        exact B25 v2 (nI 0) μ h
      refine b_iload_n X dX6_tryHours_4 rfl 3 rfl ?_
      refine b_bipush (v := (nI 6)) X dX6_tryHours_5 (by decide) ?_
      refine b_icmp_ge (t := 23) X dX6_tryHours_7 (by decide) (fun c => ?_) (fun c => ?_)
      · replace h := h.1 c
        refine b_sub (lv' := [(0, .ref (ad 0)), (1, .int a1), (2, .int v2)]) [0, 1, 2] rfl ?_
        exact B23 v2 μ h
      · replace h := h.2 c
        refine b_aload_n X dX6_tryHours_10 rfl 0 rfl ?_
        refine g_6_5 X kF_0 m_f_X6_36 dX6_tryHours_11 ?_
        refine b_iload_n X dX6_tryHours_14 rfl 3 rfl ?_
        refine b_iconst (v := (nI 0)) X dX6_tryHours_15 (by decide) ?_
        have hz := h.1
        replace h := h.2
        refine b_iast X kF_37 nF_37 hz dX6_tryHours_16 (fun μ1 eμ1 => ?_)
        clear hz
        replace h := h μ1 eμ1
        obtain ⟨x2, ex2⟩ : ∃ y : Int32, y = v3 + (nI 1) := ⟨_, rfl⟩
        replace h := h x2 ex2
        refine b_iinc (x := x2) (lv' := [(3, .int x2), (0, .ref (ad 0)), (1, .int a1), (2, .int v2)]) (q := 3) X dX6_tryHours_17 rfl (by rw [ex2]; rfl) (by decide) rfl ?_
        refine b_goto (t := 4) X dX6_tryHours_20 (by decide) ?_
        refine b_sub (lv' := [(0, .ref (ad 0)), (1, .int a1), (2, .int v2), (3, .int x2)]) [1, 2, 3, 0] rfl ?_
        exact T4 x2 μ1 h
    rw [eY] at B4
    exact B4
  refine b_iconst (v := (nI 0)) X dX6_tryHours_0 (by decide) ?_
  refine b_istore_n (lv' := [(2, .int (nI 0)), (0, .ref (ad 0)), (1, .int a1)]) X dX6_tryHours_1 rfl (by decide) rfl ?_
  refine b_iconst (v := (nI 0)) X dX6_tryHours_2 (by decide) ?_
  refine b_istore_n (lv' := [(3, .int (nI 0)), (2, .int (nI 0)), (0, .ref (ad 0)), (1, .int a1)]) X dX6_tryHours_3 rfl (by decide) rfl ?_
  refine b_sub (lv' := [(0, .ref (ad 0)), (1, .int a1), (2, .int (nI 0)), (3, .int (nI 0))]) [2, 3, 1, 0] rfl ?_
  exact B4 (nI 0) (nI 0) μ h
set_option maxHeartbeats 4000000 in
set_option maxRecDepth 100000 in
theorem c_X6_gets (l : Launch) (D : va_G) (C : Nat → ClassId) (ad : Nat → Nat) (a1 : Int32) (a2 : Int32) (μ : Mem) (Q : Int32 → Mem → Prop) (h : w_X6_gets a1 a2 μ Q) : Mi sF l yX6_gets cX6_gets 3 (some .int) rm_X6_gets D C ad [.ref (ad 0), .int a1, .int a2] μ Q := by
  refine fm_i (by decide +kernel) sF_lt (Nat.le_of_ble_eq_true rfl) (fun K X hret => ?_)
  have X : CK sF D C ad K cX6_gets 3 RX6 := X
  refine b_lv (lv' := [(0, .ref (ad 0)), (1, .int a1), (2, .int a2)]) rfl ?_
  unfold w_X6_gets at h
  refine b_aload_n X dX6_gets_0 rfl 0 rfl ?_
  refine b_iload_n X dX6_gets_1 rfl 1 rfl ?_
  refine bVi (st := []) (nA := 1) X (c_X6_isPost l D C ad a1 μ _ h) kF_0 (by decide) (enc_6 kF_0) rfl gw_X6_146 ⟨rfl, hd_X6_isPost⟩ ⟨Nat.zero_le _, Nat.zero_le _⟩ rfl rfl ⟨Nat.le_of_ble_eq_true rfl, Nat.le_of_ble_eq_true rfl⟩ rfl rfl (Nat.le_of_ble_eq_true rfl) dX6_gets_2 (fun r1 μ2 h => ?_)
  obtain ⟨rfl, h⟩ := h
  refine b_if_ne (t := 11) X dX6_gets_5 (by decide) (fun c => ?_) (fun c => ?_)
  · replace h := h.1 c
    refine b_iload_n X dX6_gets_11 rfl 2 rfl ?_
    refine b_iconst (v := (nI 0)) X dX6_gets_12 (by decide) ?_
    refine b_bipush (v := (nI 99)) X dX6_gets_13 (by decide) ?_
    refine bSi (st := []) (nA := 3) X (c_X6_within l D C ad a2 (nI 0) (nI 99) μ _ h) gw_X6_80 hd_X6_within ⟨Nat.zero_le _, Nat.zero_le _⟩ rfl rfl ⟨Nat.le_of_ble_eq_true rfl, Nat.le_of_ble_eq_true rfl⟩ rfl rfl (Nat.le_of_ble_eq_true rfl) dX6_gets_15 (fun r3 μ4 h => ?_)
    obtain ⟨rfl, h⟩ := h
    refine b_if_ne (t := 24) X dX6_gets_18 (by decide) (fun c => ?_) (fun c => ?_)
    · replace h := h.1 c
      refine b_aload_n X dX6_gets_24 rfl 0 rfl ?_
      refine g_6_4 X kF_0 m_f_X6_33 dX6_gets_25 ?_
      refine b_aload_n X dX6_gets_28 rfl 0 rfl ?_
      refine g_6_3 X kF_0 m_f_X6_29 dX6_gets_29 ?_
      refine bVv (st := []) (nA := 1) X (c_X4_become l D C ad 31 kF_31 25 kF_25 μ _ h) kF_31 (by decide) (enc_4 kF_31) rfl gw_X6_247 ⟨rfl, hd_X4_become⟩ ⟨Nat.zero_le _, Nat.zero_le _⟩ rfl rfl ⟨Nat.le_of_ble_eq_true rfl, Nat.le_of_ble_eq_true rfl⟩ rfl rfl (Nat.le_of_ble_eq_true rfl) dX6_gets_32 (fun μ6 h => ?_)
      refine b_aload_n X dX6_gets_35 rfl 0 rfl ?_
      refine b_iload_n X dX6_gets_36 rfl 2 rfl ?_
      refine bVi (st := []) (nA := 1) X (c_X6_tryHours l D C ad a2 μ6 _ h) kF_0 (by decide) (enc_6 kF_0) rfl gw_X6_250 ⟨rfl, hd_X6_tryHours⟩ ⟨Nat.zero_le _, Nat.zero_le _⟩ rfl rfl ⟨Nat.le_of_ble_eq_true rfl, Nat.le_of_ble_eq_true rfl⟩ rfl rfl (Nat.le_of_ble_eq_true rfl) dX6_gets_37 (fun r7 μ8 h => ?_)
      refine b_pop X dX6_gets_40 rfl ?_
      refine b_aload_n X dX6_gets_41 rfl 0 rfl ?_
      refine g_6_5 X kF_0 m_f_X6_36 dX6_gets_42 ?_
      refine b_iload_n X dX6_gets_45 rfl 1 rfl ?_
      refine bSi (st := []) (nA := 2) X (c_X6_at l D C ad 37 kF_37 a1 μ8 _ h) gw_X6_154 hd_X6_at ⟨Nat.zero_le _, Nat.zero_le _⟩ rfl rfl ⟨Nat.le_of_ble_eq_true rfl, Nat.le_of_ble_eq_true rfl⟩ rfl rfl (Nat.le_of_ble_eq_true rfl) dX6_gets_46 (fun r9 μ10 h => ?_)
      obtain ⟨rfl, h⟩ := h
      exact hret _ _ _ _ h dX6_gets_49
    · replace h := h.2 c
      refine b_ldc (v := ((-1000000002) : Int32)) X m_k_X6_84 dX6_gets_21 ?_
      exact hret _ _ _ _ h dX6_gets_23
  · replace h := h.2 c
    refine b_ldc (v := ((-1000000001) : Int32)) X m_k_X6_150 dX6_gets_8 ?_
    exact hret _ _ _ _ h dX6_gets_10
set_option maxHeartbeats 4000000 in
set_option maxRecDepth 100000 in
theorem c_X6_blowNext (l : Launch) (D : va_G) (C : Nat → ClassId) (ad : Nat → Nat) (a1 : Int32) (μ : Mem) (Q : Mem → Prop) (h : w_X6_blowNext a1 μ Q) : Mv sF l yX6_blowNext cX6_blowNext 3 none rm_X6_blowNext D C ad [.ref (ad 0), .int a1] μ Q := by
  refine fm_v (by decide +kernel) sF_lt (Nat.le_of_ble_eq_true rfl) (fun K X hret => ?_)
  have X : CK sF D C ad K cX6_blowNext 3 RX6 := X
  refine b_lv (lv' := [(0, .ref (ad 0)), (1, .int a1)]) rfl ?_
  unfold w_X6_blowNext at h
  refine b_aload_n X dX6_blowNext_0 rfl 0 rfl ?_
  refine g_6_3 X kF_0 m_f_X6_29 dX6_blowNext_1 ?_
  refine b_aload_n X dX6_blowNext_4 rfl 0 rfl ?_
  refine g_6_1 X kF_0 m_f_X6_19 dX6_blowNext_5 ?_
  refine b_wf (fun hf1 => ?_)
  refine b_aload_n X dX6_blowNext_8 rfl 0 rfl ?_
  refine g_6_1 X kF_0 m_f_X6_19 dX6_blowNext_9 ?_
  refine b_wf (fun hf2 => ?_)
  refine b_aload_n X dX6_blowNext_12 rfl 0 rfl ?_
  refine g_6_3 X kF_0 m_f_X6_29 dX6_blowNext_13 ?_
  refine g_4_1 X kF_25 m_f_X6_127 dX6_blowNext_16 ?_
  refine bVi (st := [.ref (ad (μ.2.2 0)), .ref (ad 25)]) (nA := 1) X (c_X0_fogAt l D C ad (μ.2.2 0) (hf2 kF_0).1 (μ.1 25 1) μ _ h) (hf2 kF_0).1 (by decide) (enc_0 (hf2 kF_0).1) rfl gw_X6_181 ⟨rfl, hd_X0_fogAt⟩ ⟨Nat.zero_le _, Nat.zero_le _⟩ rfl rfl ⟨Nat.le_of_ble_eq_true rfl, Nat.le_of_ble_eq_true rfl⟩ rfl rfl (Nat.le_of_ble_eq_true rfl) dX6_blowNext_19 (fun r3 μ4 h => ?_)
  obtain ⟨rfl, h⟩ := h
  refine bVi (st := []) (nA := 2) X (c_X4_lampedFog l D C ad 25 kF_25 (μ.2.2 0) (hf1 kF_0).1 r3 μ _ h) kF_25 (by decide) (enc_4 kF_25) rfl gw_X6_333 ⟨rfl, hd_X4_lampedFog⟩ ⟨Nat.zero_le _, Nat.zero_le _⟩ rfl rfl ⟨Nat.le_of_ble_eq_true rfl, Nat.le_of_ble_eq_true rfl⟩ rfl rfl (Nat.le_of_ble_eq_true rfl) dX6_blowNext_22 (fun r5 μ6 h => ?_)
  obtain ⟨rfl, h⟩ := h
  refine b_istore_n (lv' := [(2, .int r5), (0, .ref (ad 0)), (1, .int a1)]) X dX6_blowNext_25 rfl (by decide) rfl ?_
  refine b_aload_n X dX6_blowNext_26 rfl 1 rfl ?_
  refine g_6_6 X kF_0 m_f_X6_43 dX6_blowNext_27 ?_
  refine b_aload_n X dX6_blowNext_30 rfl 1 rfl ?_
  refine g_6_3 X kF_0 m_f_X6_29 dX6_blowNext_31 ?_
  refine b_aload_n X dX6_blowNext_34 rfl 1 rfl ?_
  refine g_6_1 X kF_0 m_f_X6_19 dX6_blowNext_35 ?_
  refine b_wf (fun hf7 => ?_)
  refine g_0_0 X (hf7 kF_0).1 m_f_X6_111 dX6_blowNext_38 ?_
  refine b_iload_n X dX6_blowNext_41 rfl 2 rfl ?_
  refine b_aload_n X dX6_blowNext_42 rfl 1 rfl ?_
  refine g_6_1 X kF_0 m_f_X6_19 dX6_blowNext_43 ?_
  refine b_wf (fun hf8 => ?_)
  refine b_aload_n X dX6_blowNext_46 rfl 1 rfl ?_
  refine g_6_3 X kF_0 m_f_X6_29 dX6_blowNext_47 ?_
  refine g_4_1 X kF_25 m_f_X6_127 dX6_blowNext_50 ?_
  refine bVi (st := [.int a1, .int (μ.1 (μ.2.2 0) 0), .ref (ad 25), .ref (ad 38)]) (nA := 1) X (c_X0_sideAt l D C ad (μ.2.2 0) (hf8 kF_0).1 (μ.1 25 1) μ _ h) (hf8 kF_0).1 (by decide) (enc_0 (hf8 kF_0).1) rfl gw_X6_178 ⟨rfl, hd_X0_sideAt⟩ ⟨Nat.zero_le _, Nat.zero_le _⟩ rfl rfl ⟨Nat.le_of_ble_eq_true rfl, Nat.le_of_ble_eq_true rfl⟩ rfl rfl (Nat.le_of_ble_eq_true rfl) dX6_blowNext_53 (fun r9 μ10 h => ?_)
  obtain ⟨rfl, h⟩ := h
  refine b_iload_n X dX6_blowNext_56 rfl 0 rfl ?_
  refine bVv (st := []) (nA := 5) X (c_X5_blow l D C ad 25 kF_25 (μ.1 (μ.2.2 0) 0) a1 r9 r5 μ _ h) kF_38 (by decide) (enc_5 kF_38) rfl gw_X6_283 ⟨rfl, hd_X5_blow⟩ ⟨Nat.zero_le _, Nat.zero_le _⟩ rfl rfl ⟨Nat.le_of_ble_eq_true rfl, Nat.le_of_ble_eq_true rfl⟩ rfl rfl (Nat.le_of_ble_eq_true rfl) dX6_blowNext_57 (fun μ12 h => ?_)
  exact hret _ _ _ h dX6_blowNext_60
set_option maxHeartbeats 4000000 in
set_option maxRecDepth 100000 in
theorem c_X6_left (l : Launch) (D : va_G) (C : Nat → ClassId) (ad : Nat → Nat)  (μ : Mem) (Q : Int32 → Mem → Prop) (h : w_X6_left  μ Q) : Mi sF l yX6_left cX6_left 1 (some .int) rm_X6_left D C ad [.ref (ad 0)] μ Q := by
  refine fm_i (by decide +kernel) sF_lt (Nat.le_of_ble_eq_true rfl) (fun K X hret => ?_)
  have X : CK sF D C ad K cX6_left 1 RX6 := X
  refine b_lv (lv' := [(0, .ref (ad 0))]) rfl ?_
  unfold w_X6_left at h
  refine b_aload_n X dX6_left_0 rfl 0 rfl ?_
  refine bVi (st := []) (nA := 0) X (c_X6_isBare l D C ad  μ _ h) kF_0 (by decide) (enc_6 kF_0) rfl gw_X6_173 ⟨rfl, hd_X6_isBare⟩ ⟨Nat.zero_le _, Nat.zero_le _⟩ rfl rfl ⟨Nat.le_of_ble_eq_true rfl, Nat.le_of_ble_eq_true rfl⟩ rfl rfl (Nat.le_of_ble_eq_true rfl) dX6_left_1 (fun r1 μ2 h => ?_)
  obtain ⟨rfl, h⟩ := h
  refine b_if_eq (t := 10) X dX6_left_4 (by decide) (fun c => ?_) (fun c => ?_)
  · replace h := h.1 c
    refine b_aload_n X dX6_left_10 rfl 0 rfl ?_
    refine b_aload_n X dX6_left_11 rfl 0 rfl ?_
    refine g_6_3 X kF_0 m_f_X6_29 dX6_left_12 ?_
    refine b_aload_n X dX6_left_15 rfl 0 rfl ?_
    refine g_6_1 X kF_0 m_f_X6_19 dX6_left_16 ?_
    refine b_wf (fun hf3 => ?_)
    refine bVi (st := [.ref (ad 0)]) (nA := 1) X (c_X4_hanging l D C ad 25 kF_25 (μ.2.2 0) (hf3 kF_0).1 μ _ h) kF_25 (by decide) (enc_4 kF_25) rfl gw_X6_134 ⟨rfl, hd_X4_hanging⟩ ⟨Nat.zero_le _, Nat.zero_le _⟩ rfl rfl ⟨Nat.le_of_ble_eq_true rfl, Nat.le_of_ble_eq_true rfl⟩ rfl rfl (Nat.le_of_ble_eq_true rfl) dX6_left_19 (fun r4 μ5 h => ?_)
    obtain ⟨rfl, h⟩ := h
    refine bVv (st := []) (nA := 1) X (c_X6_blowNext l D C ad r4 μ _ h) kF_0 (by decide) (enc_6 kF_0) rfl gw_X6_253 ⟨rfl, hd_X6_blowNext⟩ ⟨Nat.zero_le _, Nat.zero_le _⟩ rfl rfl ⟨Nat.le_of_ble_eq_true rfl, Nat.le_of_ble_eq_true rfl⟩ rfl rfl (Nat.le_of_ble_eq_true rfl) dX6_left_22 (fun μ7 h => ?_)
    refine b_aload_n X dX6_left_25 rfl 0 rfl ?_
    refine g_6_6 X kF_0 m_f_X6_43 dX6_left_26 ?_
    refine g_5_2 X kF_38 m_f_X6_259 dX6_left_29 ?_
    exact hret _ _ _ _ h dX6_left_32
  · replace h := h.2 c
    refine b_ldc (v := ((-1000000003) : Int32)) X m_k_X6_177 dX6_left_7 ?_
    exact hret _ _ _ _ h dX6_left_9
set_option maxHeartbeats 4000000 in
set_option maxRecDepth 100000 in
theorem c_X6_bestMesh (l : Launch) (D : va_G) (C : Nat → ClassId) (ad : Nat → Nat) (a1 : Int32) (a2 : Int32) (μ : Mem) (Q : Int32 → Mem → Prop) (h : w_X6_bestMesh a1 a2 μ Q) : Mi sF l yX6_bestMesh cX6_bestMesh 6 (some .int) rm_X6_bestMesh D C ad [.ref (ad 0), .int a1, .int a2] μ Q := by
  refine fm_i (by decide +kernel) sF_lt (Nat.le_of_ble_eq_true rfl) (fun K X hret => ?_)
  have X : CK sF D C ad K cX6_bestMesh 6 RX6 := X
  refine b_lv (lv' := [(0, .ref (ad 0)), (1, .int a1), (2, .int a2)]) rfl ?_
  unfold w_X6_bestMesh at h
  have B31 : ∀ (v3 : Int32) (v4 : Int32) (v5 : Int32) (μ : Mem), w_X6_bestMesh_31 a1 a2 v3 v4 v5 μ Q → WB sF l D C ad rm_X6_bestMesh K 6 μ 31 [(0, .ref (ad 0)), (1, .int a1), (2, .int a2), (3, .int v3), (4, .int v4), (5, .int v5)] [] := by
    intro v3 v4 v5 μ h
    obtain ⟨Y31, eY⟩ : ∃ Y : Int32 → Int32 → Int32 → Mem → Prop, Y = fun (v3 : Int32) (v4 : Int32) (v5 : Int32) (μ : Mem) => WB sF l D C ad rm_X6_bestMesh K 6 μ 31 [(0, .ref (ad 0)), (1, .int a1), (2, .int a2), (3, .int v3), (4, .int v4), (5, .int v5)] [] := ⟨_, rfl⟩
    have B31 : Y31 v3 v4 v5 μ := by
      unfold w_X6_bestMesh_31 at h
      refine h Y31 ?_
      clear h
      intro v3 v4 v5 μ h
      unfold s_X6_bestMesh_31 at h
      rw [eY]
      show WB sF l D C ad rm_X6_bestMesh K 6 μ 31 [(0, .ref (ad 0)), (1, .int a1), (2, .int a2), (3, .int v3), (4, .int v4), (5, .int v5)] []
      have T31 : ∀ (v3 : Int32) (v4 : Int32) (v5 : Int32) (μ : Mem), Y31 v3 v4 v5 μ → WB sF l D C ad rm_X6_bestMesh K 6 μ 31 [(0, .ref (ad 0)), (1, .int a1), (2, .int a2), (3, .int v3), (4, .int v4), (5, .int v5)] [] := by
        intro v3 v4 v5 μ h
        rw [eY] at h
        exact h
      clear eY
      have B106 : ∀ (v3 : Int32) (v4 : Int32) (μ : Mem), w_X6_bestMesh_106 a1 a2 v3 v4 μ Q → WB sF l D C ad rm_X6_bestMesh K 6 μ 106 [(2, .int a2), (3, .int v3), (4, .int v4)] [] := by
        intro v3 v4 μ h
        unfold w_X6_bestMesh_106 at h
        refine b_iload_n X dX6_bestMesh_106 rfl 0 rfl ?_
        refine b_if_ne (t := 114) X dX6_bestMesh_107 (by decide) (fun c => ?_) (fun c => ?_)
        · replace h := h.1 c
          refine b_iload X dX6_bestMesh_114 2 rfl ?_
          exact hret _ _ _ _ h dX6_bestMesh_116
        · replace h := h.2 c
          refine b_iload_n X dX6_bestMesh_110 rfl 1 rfl ?_
          refine b_goto (t := 116) X dX6_bestMesh_111 (by decide) ?_
          exact hret _ _ _ _ h dX6_bestMesh_116
      have B100 : ∀ (v3 : Int32) (v4 : Int32) (v5 : Int32) (μ : Mem), w_X6_bestMesh_100 a1 a2 Y31 v3 v4 v5 μ Q → WB sF l D C ad rm_X6_bestMesh K 6 μ 100 [(0, .ref (ad 0)), (1, .int a1), (2, .int a2), (3, .int v3), (4, .int v4), (5, .int v5)] [] := by
        intro v3 v4 v5 μ h
        unfold w_X6_bestMesh_100 at h
        obtain ⟨x18, ex18⟩ : ∃ y : Int32, y = v5 + (nI 1) := ⟨_, rfl⟩
        replace h := h x18 ex18
        refine b_iinc (x := x18) (lv' := [(5, .int x18), (0, .ref (ad 0)), (1, .int a1), (2, .int a2), (3, .int v3), (4, .int v4)]) (q := 5) X dX6_bestMesh_100 rfl (by rw [ex18]; rfl) (by decide) rfl ?_
        refine b_goto (t := 31) X dX6_bestMesh_103 (by decide) ?_
        refine b_sub (lv' := [(0, .ref (ad 0)), (1, .int a1), (2, .int a2), (3, .int v3), (4, .int v4), (5, .int x18)]) [1, 2, 3, 4, 5, 0] rfl ?_
        exact T31 v3 v4 x18 μ h
      refine b_iload X dX6_bestMesh_31 5 rfl ?_
      refine b_bipush (v := (nI 9)) X dX6_bestMesh_33 (by decide) ?_
      refine b_icmp_gt (t := 106) X dX6_bestMesh_35 (by decide) (fun c => ?_) (fun c => ?_)
      · replace h := h.1 c
        refine b_sub (lv' := [(2, .int a2), (3, .int v3), (4, .int v4)]) [2, 3, 4] rfl ?_
        exact B106 v3 v4 μ h
      · replace h := h.2 c
        refine b_aload_n X dX6_bestMesh_38 rfl 0 rfl ?_
        refine g_6_4 X kF_0 m_f_X6_33 dX6_bestMesh_39 ?_
        refine b_aload_n X dX6_bestMesh_42 rfl 0 rfl ?_
        refine g_6_3 X kF_0 m_f_X6_29 dX6_bestMesh_43 ?_
        refine bVv (st := []) (nA := 1) X (c_X4_become l D C ad 31 kF_31 25 kF_25 μ _ h) kF_31 (by decide) (enc_4 kF_31) rfl gw_X6_247 ⟨rfl, hd_X4_become⟩ ⟨Nat.zero_le _, Nat.zero_le _⟩ rfl rfl ⟨Nat.le_of_ble_eq_true rfl, Nat.le_of_ble_eq_true rfl⟩ rfl rfl (Nat.le_of_ble_eq_true rfl) dX6_bestMesh_46 (fun μ6 h => ?_)
        refine b_aload_n X dX6_bestMesh_49 rfl 0 rfl ?_
        refine g_6_4 X kF_0 m_f_X6_33 dX6_bestMesh_50 ?_
        refine g_4_6 X kF_31 m_f_X6_158 dX6_bestMesh_53 ?_
        refine b_iload_n X dX6_bestMesh_56 rfl 1 rfl ?_
        refine b_iload X dX6_bestMesh_57 5 rfl ?_
        refine bSv (st := []) (nA := 3) X (c_X6_put l D C ad (31 + 2) (st_k2 kF_31) a1 v5 μ6 _ h) gw_X6_227 hd_X6_put ⟨Nat.zero_le _, Nat.zero_le _⟩ rfl rfl ⟨Nat.le_of_ble_eq_true rfl, Nat.le_of_ble_eq_true rfl⟩ rfl rfl (Nat.le_of_ble_eq_true rfl) dX6_bestMesh_59 (fun μ8 h => ?_)
        refine b_aload_n X dX6_bestMesh_62 rfl 0 rfl ?_
        refine b_aload_n X dX6_bestMesh_63 rfl 0 rfl ?_
        refine g_6_1 X kF_0 m_f_X6_19 dX6_bestMesh_64 ?_
        refine b_wf (fun hf9 => ?_)
        refine bVi (st := [.ref (ad 0)]) (nA := 0) X (c_X0_hoursOfDay l D C ad (μ8.2.2 0) (hf9 kF_0).1 μ8 _ h) (hf9 kF_0).1 (by decide) (enc_0 (hf9 kF_0).1) rfl gw_X6_117 ⟨rfl, hd_X0_hoursOfDay⟩ ⟨Nat.zero_le _, Nat.zero_le _⟩ rfl rfl ⟨Nat.le_of_ble_eq_true rfl, Nat.le_of_ble_eq_true rfl⟩ rfl rfl (Nat.le_of_ble_eq_true rfl) dX6_bestMesh_67 (fun r10 μ11 h => ?_)
        obtain ⟨rfl, h⟩ := h
        refine bVi (st := []) (nA := 1) X (c_X6_tryHours l D C ad r10 μ8 _ h) kF_0 (by decide) (enc_6 kF_0) rfl gw_X6_250 ⟨rfl, hd_X6_tryHours⟩ ⟨Nat.zero_le _, Nat.zero_le _⟩ rfl rfl ⟨Nat.le_of_ble_eq_true rfl, Nat.le_of_ble_eq_true rfl⟩ rfl rfl (Nat.le_of_ble_eq_true rfl) dX6_bestMesh_70 (fun r12 μ13 h => ?_)
        refine b_pop X dX6_bestMesh_73 rfl ?_
        refine b_aload_n X dX6_bestMesh_74 rfl 0 rfl ?_
        refine g_6_5 X kF_0 m_f_X6_36 dX6_bestMesh_75 ?_
        refine b_iload_n X dX6_bestMesh_78 rfl 1 rfl ?_
        refine bSi (st := []) (nA := 2) X (c_X6_at l D C ad 37 kF_37 a1 μ13 _ h) gw_X6_154 hd_X6_at ⟨Nat.zero_le _, Nat.zero_le _⟩ rfl rfl ⟨Nat.le_of_ble_eq_true rfl, Nat.le_of_ble_eq_true rfl⟩ rfl rfl (Nat.le_of_ble_eq_true rfl) dX6_bestMesh_79 (fun r14 μ15 h => ?_)
        obtain ⟨rfl, h⟩ := h
        refine b_iload X dX6_bestMesh_82 4 rfl ?_
        refine b_icmp_le (t := 100) X dX6_bestMesh_84 (by decide) (fun c => ?_) (fun c => ?_)
        · replace h := h.1 c
          refine b_sub (lv' := [(0, .ref (ad 0)), (1, .int a1), (2, .int a2), (3, .int v3), (4, .int v4), (5, .int v5)]) [0, 1, 2, 3, 4, 5] rfl ?_
          exact B100 v3 v4 v5 μ13 h
        · replace h := h.2 c
          refine b_aload_n X dX6_bestMesh_87 rfl 0 rfl ?_
          refine g_6_5 X kF_0 m_f_X6_36 dX6_bestMesh_88 ?_
          refine b_iload_n X dX6_bestMesh_91 rfl 1 rfl ?_
          refine bSi (st := []) (nA := 2) X (c_X6_at l D C ad 37 kF_37 a1 μ13 _ h) gw_X6_154 hd_X6_at ⟨Nat.zero_le _, Nat.zero_le _⟩ rfl rfl ⟨Nat.le_of_ble_eq_true rfl, Nat.le_of_ble_eq_true rfl⟩ rfl rfl (Nat.le_of_ble_eq_true rfl) dX6_bestMesh_92 (fun r16 μ17 h => ?_)
          obtain ⟨rfl, h⟩ := h
          refine b_istore (lv' := [(4, .int r16), (0, .ref (ad 0)), (1, .int a1), (2, .int a2), (3, .int v3), (5, .int v5)]) X dX6_bestMesh_95 (by decide) rfl ?_
          refine b_iload X dX6_bestMesh_97 5 rfl ?_
          refine b_istore_n (lv' := [(3, .int v5), (4, .int r16), (0, .ref (ad 0)), (1, .int a1), (2, .int a2), (5, .int v5)]) X dX6_bestMesh_99 rfl (by decide) rfl ?_
          refine b_sub (lv' := [(0, .ref (ad 0)), (1, .int a1), (2, .int a2), (3, .int v5), (4, .int r16), (5, .int v5)]) [2, 3, 4, 0, 1, 5] rfl ?_
          exact B100 v5 r16 v5 μ13 h
    rw [eY] at B31
    exact B31
  refine b_aload_n X dX6_bestMesh_0 rfl 0 rfl ?_
  refine b_iload_n X dX6_bestMesh_1 rfl 1 rfl ?_
  refine bVi (st := []) (nA := 1) X (c_X6_isPost l D C ad a1 μ _ h) kF_0 (by decide) (enc_6 kF_0) rfl gw_X6_146 ⟨rfl, hd_X6_isPost⟩ ⟨Nat.zero_le _, Nat.zero_le _⟩ rfl rfl ⟨Nat.le_of_ble_eq_true rfl, Nat.le_of_ble_eq_true rfl⟩ rfl rfl (Nat.le_of_ble_eq_true rfl) dX6_bestMesh_2 (fun r1 μ2 h => ?_)
  obtain ⟨rfl, h⟩ := h
  refine b_if_ne (t := 11) X dX6_bestMesh_5 (by decide) (fun c => ?_) (fun c => ?_)
  · replace h := h.1 c
    refine b_iload_n X dX6_bestMesh_11 rfl 2 rfl ?_
    refine b_iconst (v := (nI 0)) X dX6_bestMesh_12 (by decide) ?_
    refine b_iconst (v := (nI 1)) X dX6_bestMesh_13 (by decide) ?_
    refine bSi (st := []) (nA := 3) X (c_X6_within l D C ad a2 (nI 0) (nI 1) μ _ h) gw_X6_80 hd_X6_within ⟨Nat.zero_le _, Nat.zero_le _⟩ rfl rfl ⟨Nat.le_of_ble_eq_true rfl, Nat.le_of_ble_eq_true rfl⟩ rfl rfl (Nat.le_of_ble_eq_true rfl) dX6_bestMesh_14 (fun r3 μ4 h => ?_)
    obtain ⟨rfl, h⟩ := h
    refine b_if_ne (t := 23) X dX6_bestMesh_17 (by decide) (fun c => ?_) (fun c => ?_)
    · replace h := h.1 c
      refine b_iconst (v := ((-1) : Int32)) X dX6_bestMesh_23 (by decide) ?_
      refine b_istore_n (lv' := [(3, .int ((-1) : Int32)), (0, .ref (ad 0)), (1, .int a1), (2, .int a2)]) X dX6_bestMesh_24 rfl (by decide) rfl ?_
      refine b_iconst (v := ((-1) : Int32)) X dX6_bestMesh_25 (by decide) ?_
      refine b_istore (lv' := [(4, .int ((-1) : Int32)), (3, .int ((-1) : Int32)), (0, .ref (ad 0)), (1, .int a1), (2, .int a2)]) X dX6_bestMesh_26 (by decide) rfl ?_
      refine b_iconst (v := (nI 0)) X dX6_bestMesh_28 (by decide) ?_
      refine b_istore (lv' := [(5, .int (nI 0)), (4, .int ((-1) : Int32)), (3, .int ((-1) : Int32)), (0, .ref (ad 0)), (1, .int a1), (2, .int a2)]) X dX6_bestMesh_29 (by decide) rfl ?_
      refine b_sub (lv' := [(0, .ref (ad 0)), (1, .int a1), (2, .int a2), (3, .int ((-1) : Int32)), (4, .int ((-1) : Int32)), (5, .int (nI 0))]) [3, 4, 5, 2, 1, 0] rfl ?_
      exact B31 ((-1) : Int32) ((-1) : Int32) (nI 0) μ h
    · replace h := h.2 c
      refine b_ldc (v := ((-1000000002) : Int32)) X m_k_X6_84 dX6_bestMesh_20 ?_
      exact hret _ _ _ _ h dX6_bestMesh_22
  · replace h := h.2 c
    refine b_ldc (v := ((-1000000001) : Int32)) X m_k_X6_150 dX6_bestMesh_8 ?_
    exact hret _ _ _ _ h dX6_bestMesh_10
set_option maxHeartbeats 4000000 in
set_option maxRecDepth 100000 in
theorem c_X6_isOpenTo (l : Launch) (D : va_G) (C : Nat → ClassId) (ad : Nat → Nat) (a1 : Int32) (a2 : Int32) (a3 : Int32) (μ : Mem) (Q : Int32 → Prop) (h : w_X6_isOpenTo a1 a2 a3 μ Q) : Mi sF l yX6_isOpenTo cX6_isOpenTo 5 (some .boolean) rm_X6_isOpenTo D C ad [.ref (ad 0), .int a1, .int a2, .int a3] μ (fun r μ' => μ = μ' ∧ Q r) := by
  refine fm_z (by decide +kernel) sF_lt (Nat.le_of_ble_eq_true rfl) (fun K X hret => ?_)
  have X : CK sF D C ad K cX6_isOpenTo 5 RX6 := X
  refine b_lv (lv' := [(0, .ref (ad 0)), (1, .int a1), (2, .int a2), (3, .int a3)]) rfl ?_
  unfold w_X6_isOpenTo at h
  refine b_aload_n X dX6_isOpenTo_0 rfl 0 rfl ?_
  refine b_iload_n X dX6_isOpenTo_1 rfl 1 rfl ?_
  refine bVi (st := []) (nA := 1) X (c_X6_isCell l D C ad a1 μ _ h) kF_0 (by decide) (enc_6 kF_0) rfl gw_X6_231 ⟨rfl, hd_X6_isCell⟩ ⟨Nat.zero_le _, Nat.zero_le _⟩ rfl rfl ⟨Nat.le_of_ble_eq_true rfl, Nat.le_of_ble_eq_true rfl⟩ rfl rfl (Nat.le_of_ble_eq_true rfl) dX6_isOpenTo_2 (fun r1 μ2 h => ?_)
  obtain ⟨rfl, h⟩ := h
  refine b_if_ne (t := 10) X dX6_isOpenTo_5 (by decide) (fun c => ?_) (fun c => ?_)
  · replace h := h.1 c
    refine b_aload_n X dX6_isOpenTo_10 rfl 0 rfl ?_
    refine g_6_3 X kF_0 m_f_X6_29 dX6_isOpenTo_11 ?_
    refine b_iload_n X dX6_isOpenTo_14 rfl 1 rfl ?_
    refine bVi (st := []) (nA := 1) X (c_X4_postIn l D C ad 25 kF_25 a1 μ _ h) kF_25 (by decide) (enc_4 kF_25) rfl gw_X6_234 ⟨rfl, hd_X4_postIn⟩ ⟨Nat.zero_le _, Nat.zero_le _⟩ rfl rfl ⟨Nat.le_of_ble_eq_true rfl, Nat.le_of_ble_eq_true rfl⟩ rfl rfl (Nat.le_of_ble_eq_true rfl) dX6_isOpenTo_15 (fun r3 μ4 h => ?_)
    obtain ⟨rfl, h⟩ := h
    refine b_istore (lv' := [(4, .int r3), (0, .ref (ad 0)), (1, .int a1), (2, .int a2), (3, .int a3)]) X dX6_isOpenTo_18 (by decide) rfl ?_
    refine b_iload X dX6_isOpenTo_20 0 rfl ?_
    refine b_iconst (v := ((-1) : Int32)) X dX6_isOpenTo_22 (by decide) ?_
    refine b_icmp_eq (t := 38) X dX6_isOpenTo_23 (by decide) (fun c => ?_) (fun c => ?_)
    · replace h := h.1 c
      refine b_iconst (v := (nI 1)) X dX6_isOpenTo_38 (by decide) ?_
      refine b_goto (t := 43) X dX6_isOpenTo_39 (by decide) ?_
      exact hret _ _ _ _ ⟨(Or.inr rfl), rfl, h⟩ dX6_isOpenTo_43
    · replace h := h.2 c
      refine b_iload X dX6_isOpenTo_26 0 rfl ?_
      refine b_iload_n X dX6_isOpenTo_28 rfl 3 rfl ?_
      refine b_icmp_eq (t := 38) X dX6_isOpenTo_29 (by decide) (fun c => ?_) (fun c => ?_)
      · replace h := h.1 c
        refine b_iconst (v := (nI 1)) X dX6_isOpenTo_38 (by decide) ?_
        refine b_goto (t := 43) X dX6_isOpenTo_39 (by decide) ?_
        exact hret _ _ _ _ ⟨(Or.inr rfl), rfl, h⟩ dX6_isOpenTo_43
      · replace h := h.2 c
        refine b_iload X dX6_isOpenTo_32 0 rfl ?_
        refine b_iload_n X dX6_isOpenTo_34 rfl 4 rfl ?_
        refine b_icmp_ne (t := 42) X dX6_isOpenTo_35 (by decide) (fun c => ?_) (fun c => ?_)
        · replace h := h.1 c
          refine b_iconst (v := (nI 0)) X dX6_isOpenTo_42 (by decide) ?_
          exact hret _ _ _ _ ⟨(Or.inl rfl), rfl, h⟩ dX6_isOpenTo_43
        · replace h := h.2 c
          refine b_iconst (v := (nI 1)) X dX6_isOpenTo_38 (by decide) ?_
          refine b_goto (t := 43) X dX6_isOpenTo_39 (by decide) ?_
          exact hret _ _ _ _ ⟨(Or.inr rfl), rfl, h⟩ dX6_isOpenTo_43
  · replace h := h.2 c
    refine b_iconst (v := (nI 0)) X dX6_isOpenTo_8 (by decide) ?_
    exact hret _ _ _ _ ⟨(Or.inl rfl), rfl, h⟩ dX6_isOpenTo_9
set_option maxHeartbeats 4000000 in
set_option maxRecDepth 100000 in
theorem c_X6_bestCell (l : Launch) (D : va_G) (C : Nat → ClassId) (ad : Nat → Nat) (a1 : Int32) (a2 : Int32) (μ : Mem) (Q : Int32 → Mem → Prop) (h : w_X6_bestCell a1 a2 μ Q) : Mi sF l yX6_bestCell cX6_bestCell 6 (some .int) rm_X6_bestCell D C ad [.ref (ad 0), .int a1, .int a2] μ Q := by
  refine fm_i (by decide +kernel) sF_lt (Nat.le_of_ble_eq_true rfl) (fun K X hret => ?_)
  have X : CK sF D C ad K cX6_bestCell 6 RX6 := X
  refine b_lv (lv' := [(0, .ref (ad 0)), (1, .int a1), (2, .int a2)]) rfl ?_
  unfold w_X6_bestCell at h
  have B31 : ∀ (v3 : Int32) (v4 : Int32) (v5 : Int32) (μ : Mem), w_X6_bestCell_31 a1 a2 v3 v4 v5 μ Q → WB sF l D C ad rm_X6_bestCell K 6 μ 31 [(0, .ref (ad 0)), (1, .int a1), (2, .int a2), (3, .int v3), (4, .int v4), (5, .int v5)] [] := by
    intro v3 v4 v5 μ h
    obtain ⟨Y31, eY⟩ : ∃ Y : Int32 → Int32 → Int32 → Mem → Prop, Y = fun (v3 : Int32) (v4 : Int32) (v5 : Int32) (μ : Mem) => WB sF l D C ad rm_X6_bestCell K 6 μ 31 [(0, .ref (ad 0)), (1, .int a1), (2, .int a2), (3, .int v3), (4, .int v4), (5, .int v5)] [] := ⟨_, rfl⟩
    have B31 : Y31 v3 v4 v5 μ := by
      unfold w_X6_bestCell_31 at h
      refine h Y31 ?_
      clear h
      intro v3 v4 v5 μ h
      unfold s_X6_bestCell_31 at h
      rw [eY]
      show WB sF l D C ad rm_X6_bestCell K 6 μ 31 [(0, .ref (ad 0)), (1, .int a1), (2, .int a2), (3, .int v3), (4, .int v4), (5, .int v5)] []
      have T31 : ∀ (v3 : Int32) (v4 : Int32) (v5 : Int32) (μ : Mem), Y31 v3 v4 v5 μ → WB sF l D C ad rm_X6_bestCell K 6 μ 31 [(0, .ref (ad 0)), (1, .int a1), (2, .int a2), (3, .int v3), (4, .int v4), (5, .int v5)] [] := by
        intro v3 v4 v5 μ h
        rw [eY] at h
        exact h
      clear eY
      have B120 : ∀ (v3 : Int32) (v4 : Int32) (μ : Mem), w_X6_bestCell_120 a1 a2 v3 v4 μ Q → WB sF l D C ad rm_X6_bestCell K 6 μ 120 [(2, .int a2), (3, .int v3), (4, .int v4)] [] := by
        intro v3 v4 μ h
        unfold w_X6_bestCell_120 at h
        refine b_iload_n X dX6_bestCell_120 rfl 0 rfl ?_
        refine b_if_ne (t := 128) X dX6_bestCell_121 (by decide) (fun c => ?_) (fun c => ?_)
        · replace h := h.1 c
          refine b_iload X dX6_bestCell_128 2 rfl ?_
          exact hret _ _ _ _ h dX6_bestCell_130
        · replace h := h.2 c
          refine b_iload_n X dX6_bestCell_124 rfl 1 rfl ?_
          refine b_goto (t := 130) X dX6_bestCell_125 (by decide) ?_
          exact hret _ _ _ _ h dX6_bestCell_130
      have B114 : ∀ (v3 : Int32) (v4 : Int32) (v5 : Int32) (μ : Mem), w_X6_bestCell_114 a1 a2 Y31 v3 v4 v5 μ Q → WB sF l D C ad rm_X6_bestCell K 6 μ 114 [(0, .ref (ad 0)), (1, .int a1), (2, .int a2), (3, .int v3), (4, .int v4), (5, .int v5)] [] := by
        intro v3 v4 v5 μ h
        unfold w_X6_bestCell_114 at h
        obtain ⟨x20, ex20⟩ : ∃ y : Int32, y = v5 + (nI 1) := ⟨_, rfl⟩
        replace h := h x20 ex20
        refine b_iinc (x := x20) (lv' := [(5, .int x20), (0, .ref (ad 0)), (1, .int a1), (2, .int a2), (3, .int v3), (4, .int v4)]) (q := 5) X dX6_bestCell_114 rfl (by rw [ex20]; rfl) (by decide) rfl ?_
        refine b_goto (t := 31) X dX6_bestCell_117 (by decide) ?_
        refine b_sub (lv' := [(0, .ref (ad 0)), (1, .int a1), (2, .int a2), (3, .int v3), (4, .int v4), (5, .int x20)]) [1, 2, 3, 4, 5, 0] rfl ?_
        exact T31 v3 v4 x20 μ h
      refine b_iload X dX6_bestCell_31 5 rfl ?_
      refine b_bipush (v := (nI 12)) X dX6_bestCell_33 (by decide) ?_
      refine b_icmp_ge (t := 120) X dX6_bestCell_35 (by decide) (fun c => ?_) (fun c => ?_)
      · replace h := h.1 c
        refine b_sub (lv' := [(2, .int a2), (3, .int v3), (4, .int v4)]) [2, 3, 4] rfl ?_
        exact B120 v3 v4 μ h
      · replace h := h.2 c
        refine b_aload_n X dX6_bestCell_38 rfl 0 rfl ?_
        refine b_iload X dX6_bestCell_39 5 rfl ?_
        refine b_iload_n X dX6_bestCell_41 rfl 1 rfl ?_
        refine b_iload_n X dX6_bestCell_42 rfl 1 rfl ?_
        refine bVi (st := []) (nA := 3) X (c_X6_isOpenTo l D C ad v5 a1 a1 μ _ h) kF_0 (by decide) (enc_6 kF_0) rfl gw_X6_262 ⟨rfl, hd_X6_isOpenTo⟩ ⟨Nat.zero_le _, Nat.zero_le _⟩ rfl rfl ⟨Nat.le_of_ble_eq_true rfl, Nat.le_of_ble_eq_true rfl⟩ rfl rfl (Nat.le_of_ble_eq_true rfl) dX6_bestCell_43 (fun r5 μ6 h => ?_)
        obtain ⟨rfl, h⟩ := h
        refine b_if_ne (t := 52) X dX6_bestCell_46 (by decide) (fun c => ?_) (fun c => ?_)
        · replace h := h.1 c
          refine b_aload_n X dX6_bestCell_52 rfl 0 rfl ?_
          refine g_6_4 X kF_0 m_f_X6_33 dX6_bestCell_53 ?_
          refine b_aload_n X dX6_bestCell_56 rfl 0 rfl ?_
          refine g_6_3 X kF_0 m_f_X6_29 dX6_bestCell_57 ?_
          refine bVv (st := []) (nA := 1) X (c_X4_become l D C ad 31 kF_31 25 kF_25 μ _ h) kF_31 (by decide) (enc_4 kF_31) rfl gw_X6_247 ⟨rfl, hd_X4_become⟩ ⟨Nat.zero_le _, Nat.zero_le _⟩ rfl rfl ⟨Nat.le_of_ble_eq_true rfl, Nat.le_of_ble_eq_true rfl⟩ rfl rfl (Nat.le_of_ble_eq_true rfl) dX6_bestCell_60 (fun μ8 h => ?_)
          refine b_aload_n X dX6_bestCell_63 rfl 0 rfl ?_
          refine g_6_4 X kF_0 m_f_X6_33 dX6_bestCell_64 ?_
          refine g_4_5 X kF_31 m_f_X6_151 dX6_bestCell_67 ?_
          refine b_iload_n X dX6_bestCell_70 rfl 1 rfl ?_
          refine b_iload X dX6_bestCell_71 5 rfl ?_
          refine bSv (st := []) (nA := 3) X (c_X6_put l D C ad (31 + 1) (st_k1 kF_31) a1 v5 μ8 _ h) gw_X6_227 hd_X6_put ⟨Nat.zero_le _, Nat.zero_le _⟩ rfl rfl ⟨Nat.le_of_ble_eq_true rfl, Nat.le_of_ble_eq_true rfl⟩ rfl rfl (Nat.le_of_ble_eq_true rfl) dX6_bestCell_73 (fun μ10 h => ?_)
          refine b_aload_n X dX6_bestCell_76 rfl 0 rfl ?_
          refine b_aload_n X dX6_bestCell_77 rfl 0 rfl ?_
          refine g_6_1 X kF_0 m_f_X6_19 dX6_bestCell_78 ?_
          refine b_wf (fun hf11 => ?_)
          refine bVi (st := [.ref (ad 0)]) (nA := 0) X (c_X0_hoursOfDay l D C ad (μ10.2.2 0) (hf11 kF_0).1 μ10 _ h) (hf11 kF_0).1 (by decide) (enc_0 (hf11 kF_0).1) rfl gw_X6_117 ⟨rfl, hd_X0_hoursOfDay⟩ ⟨Nat.zero_le _, Nat.zero_le _⟩ rfl rfl ⟨Nat.le_of_ble_eq_true rfl, Nat.le_of_ble_eq_true rfl⟩ rfl rfl (Nat.le_of_ble_eq_true rfl) dX6_bestCell_81 (fun r12 μ13 h => ?_)
          obtain ⟨rfl, h⟩ := h
          refine bVi (st := []) (nA := 1) X (c_X6_tryHours l D C ad r12 μ10 _ h) kF_0 (by decide) (enc_6 kF_0) rfl gw_X6_250 ⟨rfl, hd_X6_tryHours⟩ ⟨Nat.zero_le _, Nat.zero_le _⟩ rfl rfl ⟨Nat.le_of_ble_eq_true rfl, Nat.le_of_ble_eq_true rfl⟩ rfl rfl (Nat.le_of_ble_eq_true rfl) dX6_bestCell_84 (fun r14 μ15 h => ?_)
          refine b_pop X dX6_bestCell_87 rfl ?_
          refine b_aload_n X dX6_bestCell_88 rfl 0 rfl ?_
          refine g_6_5 X kF_0 m_f_X6_36 dX6_bestCell_89 ?_
          refine b_iload_n X dX6_bestCell_92 rfl 1 rfl ?_
          refine bSi (st := []) (nA := 2) X (c_X6_at l D C ad 37 kF_37 a1 μ15 _ h) gw_X6_154 hd_X6_at ⟨Nat.zero_le _, Nat.zero_le _⟩ rfl rfl ⟨Nat.le_of_ble_eq_true rfl, Nat.le_of_ble_eq_true rfl⟩ rfl rfl (Nat.le_of_ble_eq_true rfl) dX6_bestCell_93 (fun r16 μ17 h => ?_)
          obtain ⟨rfl, h⟩ := h
          refine b_iload X dX6_bestCell_96 4 rfl ?_
          refine b_icmp_le (t := 114) X dX6_bestCell_98 (by decide) (fun c => ?_) (fun c => ?_)
          · replace h := h.1 c
            refine b_sub (lv' := [(0, .ref (ad 0)), (1, .int a1), (2, .int a2), (3, .int v3), (4, .int v4), (5, .int v5)]) [0, 1, 2, 3, 4, 5] rfl ?_
            exact B114 v3 v4 v5 μ15 h
          · replace h := h.2 c
            refine b_aload_n X dX6_bestCell_101 rfl 0 rfl ?_
            refine g_6_5 X kF_0 m_f_X6_36 dX6_bestCell_102 ?_
            refine b_iload_n X dX6_bestCell_105 rfl 1 rfl ?_
            refine bSi (st := []) (nA := 2) X (c_X6_at l D C ad 37 kF_37 a1 μ15 _ h) gw_X6_154 hd_X6_at ⟨Nat.zero_le _, Nat.zero_le _⟩ rfl rfl ⟨Nat.le_of_ble_eq_true rfl, Nat.le_of_ble_eq_true rfl⟩ rfl rfl (Nat.le_of_ble_eq_true rfl) dX6_bestCell_106 (fun r18 μ19 h => ?_)
            obtain ⟨rfl, h⟩ := h
            refine b_istore (lv' := [(4, .int r18), (0, .ref (ad 0)), (1, .int a1), (2, .int a2), (3, .int v3), (5, .int v5)]) X dX6_bestCell_109 (by decide) rfl ?_
            refine b_iload X dX6_bestCell_111 5 rfl ?_
            refine b_istore_n (lv' := [(3, .int v5), (4, .int r18), (0, .ref (ad 0)), (1, .int a1), (2, .int a2), (5, .int v5)]) X dX6_bestCell_113 rfl (by decide) rfl ?_
            refine b_sub (lv' := [(0, .ref (ad 0)), (1, .int a1), (2, .int a2), (3, .int v5), (4, .int r18), (5, .int v5)]) [2, 3, 4, 0, 1, 5] rfl ?_
            exact B114 v5 r18 v5 μ15 h
        · replace h := h.2 c
          refine b_goto (t := 114) X dX6_bestCell_49 (by decide) ?_
          refine b_sub (lv' := [(0, .ref (ad 0)), (1, .int a1), (2, .int a2), (3, .int v3), (4, .int v4), (5, .int v5)]) [0, 1, 2, 3, 4, 5] rfl ?_
          exact B114 v3 v4 v5 μ h
    rw [eY] at B31
    exact B31
  refine b_aload_n X dX6_bestCell_0 rfl 0 rfl ?_
  refine b_iload_n X dX6_bestCell_1 rfl 1 rfl ?_
  refine bVi (st := []) (nA := 1) X (c_X6_isPost l D C ad a1 μ _ h) kF_0 (by decide) (enc_6 kF_0) rfl gw_X6_146 ⟨rfl, hd_X6_isPost⟩ ⟨Nat.zero_le _, Nat.zero_le _⟩ rfl rfl ⟨Nat.le_of_ble_eq_true rfl, Nat.le_of_ble_eq_true rfl⟩ rfl rfl (Nat.le_of_ble_eq_true rfl) dX6_bestCell_2 (fun r1 μ2 h => ?_)
  obtain ⟨rfl, h⟩ := h
  refine b_if_ne (t := 11) X dX6_bestCell_5 (by decide) (fun c => ?_) (fun c => ?_)
  · replace h := h.1 c
    refine b_iload_n X dX6_bestCell_11 rfl 2 rfl ?_
    refine b_iconst (v := (nI 0)) X dX6_bestCell_12 (by decide) ?_
    refine b_iconst (v := (nI 1)) X dX6_bestCell_13 (by decide) ?_
    refine bSi (st := []) (nA := 3) X (c_X6_within l D C ad a2 (nI 0) (nI 1) μ _ h) gw_X6_80 hd_X6_within ⟨Nat.zero_le _, Nat.zero_le _⟩ rfl rfl ⟨Nat.le_of_ble_eq_true rfl, Nat.le_of_ble_eq_true rfl⟩ rfl rfl (Nat.le_of_ble_eq_true rfl) dX6_bestCell_14 (fun r3 μ4 h => ?_)
    obtain ⟨rfl, h⟩ := h
    refine b_if_ne (t := 23) X dX6_bestCell_17 (by decide) (fun c => ?_) (fun c => ?_)
    · replace h := h.1 c
      refine b_iconst (v := ((-1) : Int32)) X dX6_bestCell_23 (by decide) ?_
      refine b_istore_n (lv' := [(3, .int ((-1) : Int32)), (0, .ref (ad 0)), (1, .int a1), (2, .int a2)]) X dX6_bestCell_24 rfl (by decide) rfl ?_
      refine b_iconst (v := ((-1) : Int32)) X dX6_bestCell_25 (by decide) ?_
      refine b_istore (lv' := [(4, .int ((-1) : Int32)), (3, .int ((-1) : Int32)), (0, .ref (ad 0)), (1, .int a1), (2, .int a2)]) X dX6_bestCell_26 (by decide) rfl ?_
      refine b_iconst (v := (nI 0)) X dX6_bestCell_28 (by decide) ?_
      refine b_istore (lv' := [(5, .int (nI 0)), (4, .int ((-1) : Int32)), (3, .int ((-1) : Int32)), (0, .ref (ad 0)), (1, .int a1), (2, .int a2)]) X dX6_bestCell_29 (by decide) rfl ?_
      refine b_sub (lv' := [(0, .ref (ad 0)), (1, .int a1), (2, .int a2), (3, .int ((-1) : Int32)), (4, .int ((-1) : Int32)), (5, .int (nI 0))]) [3, 4, 5, 2, 1, 0] rfl ?_
      exact B31 ((-1) : Int32) ((-1) : Int32) (nI 0) μ h
    · replace h := h.2 c
      refine b_ldc (v := ((-1000000002) : Int32)) X m_k_X6_84 dX6_bestCell_20 ?_
      exact hret _ _ _ _ h dX6_bestCell_22
  · replace h := h.2 c
    refine b_ldc (v := ((-1000000001) : Int32)) X m_k_X6_150 dX6_bestCell_8 ?_
    exact hret _ _ _ _ h dX6_bestCell_10
set_option maxHeartbeats 4000000 in
set_option maxRecDepth 100000 in
theorem c_X6_lampCosts (l : Launch) (D : va_G) (C : Nat → ClassId) (ad : Nat → Nat) (a1 : Int32) (μ : Mem) (Q : Int32 → Mem → Prop) (h : w_X6_lampCosts a1 μ Q) : Mi sF l yX6_lampCosts cX6_lampCosts 3 (some .int) rm_X6_lampCosts D C ad [.ref (ad 0), .int a1] μ Q := by
  refine fm_i (by decide +kernel) sF_lt (Nat.le_of_ble_eq_true rfl) (fun K X hret => ?_)
  have X : CK sF D C ad K cX6_lampCosts 3 RX6 := X
  refine b_lv (lv' := [(0, .ref (ad 0)), (1, .int a1)]) rfl ?_
  unfold w_X6_lampCosts at h
  refine b_iload_n X dX6_lampCosts_0 rfl 1 rfl ?_
  refine b_iconst (v := (nI 0)) X dX6_lampCosts_1 (by decide) ?_
  refine b_bipush (v := (nI 99)) X dX6_lampCosts_2 (by decide) ?_
  refine bSi (st := []) (nA := 3) X (c_X6_within l D C ad a1 (nI 0) (nI 99) μ _ h) gw_X6_80 hd_X6_within ⟨Nat.zero_le _, Nat.zero_le _⟩ rfl rfl ⟨Nat.le_of_ble_eq_true rfl, Nat.le_of_ble_eq_true rfl⟩ rfl rfl (Nat.le_of_ble_eq_true rfl) dX6_lampCosts_4 (fun r1 μ2 h => ?_)
  obtain ⟨rfl, h⟩ := h
  refine b_if_ne (t := 13) X dX6_lampCosts_7 (by decide) (fun c => ?_) (fun c => ?_)
  · replace h := h.1 c
    refine b_aload_n X dX6_lampCosts_13 rfl 0 rfl ?_
    refine bVi (st := []) (nA := 0) X (c_X6_isBare l D C ad  μ _ h) kF_0 (by decide) (enc_6 kF_0) rfl gw_X6_173 ⟨rfl, hd_X6_isBare⟩ ⟨Nat.zero_le _, Nat.zero_le _⟩ rfl rfl ⟨Nat.le_of_ble_eq_true rfl, Nat.le_of_ble_eq_true rfl⟩ rfl rfl (Nat.le_of_ble_eq_true rfl) dX6_lampCosts_14 (fun r3 μ4 h => ?_)
    obtain ⟨rfl, h⟩ := h
    refine b_if_eq (t := 23) X dX6_lampCosts_17 (by decide) (fun c => ?_) (fun c => ?_)
    · replace h := h.1 c
      refine b_aload_n X dX6_lampCosts_23 rfl 0 rfl ?_
      refine g_6_4 X kF_0 m_f_X6_33 dX6_lampCosts_24 ?_
      refine b_aload_n X dX6_lampCosts_27 rfl 0 rfl ?_
      refine g_6_3 X kF_0 m_f_X6_29 dX6_lampCosts_28 ?_
      refine bVv (st := []) (nA := 1) X (c_X4_become l D C ad 31 kF_31 25 kF_25 μ _ h) kF_31 (by decide) (enc_4 kF_31) rfl gw_X6_247 ⟨rfl, hd_X4_become⟩ ⟨Nat.zero_le _, Nat.zero_le _⟩ rfl rfl ⟨Nat.le_of_ble_eq_true rfl, Nat.le_of_ble_eq_true rfl⟩ rfl rfl (Nat.le_of_ble_eq_true rfl) dX6_lampCosts_31 (fun μ6 h => ?_)
      refine b_aload_n X dX6_lampCosts_34 rfl 0 rfl ?_
      refine g_6_4 X kF_0 m_f_X6_33 dX6_lampCosts_35 ?_
      refine b_iconst (v := (nI 0)) X dX6_lampCosts_38 (by decide) ?_
      refine p_4_2 X kF_31 (Or.inl rfl) m_f_X6_130 dX6_lampCosts_39 (fun μ7 eμ7 => ?_)
      replace h := h μ7 eμ7
      refine b_aload_n X dX6_lampCosts_42 rfl 0 rfl ?_
      refine b_iload_n X dX6_lampCosts_43 rfl 1 rfl ?_
      refine bVi (st := []) (nA := 1) X (c_X6_tryHours l D C ad a1 μ7 _ h) kF_0 (by decide) (enc_6 kF_0) rfl gw_X6_250 ⟨rfl, hd_X6_tryHours⟩ ⟨Nat.zero_le _, Nat.zero_le _⟩ rfl rfl ⟨Nat.le_of_ble_eq_true rfl, Nat.le_of_ble_eq_true rfl⟩ rfl rfl (Nat.le_of_ble_eq_true rfl) dX6_lampCosts_44 (fun r8 μ9 h => ?_)
      refine b_istore_n (lv' := [(2, .int r8), (0, .ref (ad 0)), (1, .int a1)]) X dX6_lampCosts_47 rfl (by decide) rfl ?_
      refine b_aload_n X dX6_lampCosts_48 rfl 1 rfl ?_
      refine g_6_4 X kF_0 m_f_X6_33 dX6_lampCosts_49 ?_
      refine b_aload_n X dX6_lampCosts_52 rfl 1 rfl ?_
      refine g_6_3 X kF_0 m_f_X6_29 dX6_lampCosts_53 ?_
      refine bVv (st := []) (nA := 1) X (c_X4_become l D C ad 31 kF_31 25 kF_25 μ9 _ h) kF_31 (by decide) (enc_4 kF_31) rfl gw_X6_247 ⟨rfl, hd_X4_become⟩ ⟨Nat.zero_le _, Nat.zero_le _⟩ rfl rfl ⟨Nat.le_of_ble_eq_true rfl, Nat.le_of_ble_eq_true rfl⟩ rfl rfl (Nat.le_of_ble_eq_true rfl) dX6_lampCosts_56 (fun μ11 h => ?_)
      refine b_aload_n X dX6_lampCosts_59 rfl 1 rfl ?_
      refine g_6_4 X kF_0 m_f_X6_33 dX6_lampCosts_60 ?_
      refine b_iconst (v := (nI 1)) X dX6_lampCosts_63 (by decide) ?_
      refine p_4_2 X kF_31 (Or.inr rfl) m_f_X6_130 dX6_lampCosts_64 (fun μ12 eμ12 => ?_)
      replace h := h μ12 eμ12
      refine b_iload_n X dX6_lampCosts_67 rfl 0 rfl ?_
      refine b_aload_n X dX6_lampCosts_68 rfl 1 rfl ?_
      refine b_iload_n X dX6_lampCosts_69 rfl 2 rfl ?_
      refine bVi (st := [.int r8]) (nA := 1) X (c_X6_tryHours l D C ad a1 μ12 _ h) kF_0 (by decide) (enc_6 kF_0) rfl gw_X6_250 ⟨rfl, hd_X6_tryHours⟩ ⟨Nat.zero_le _, Nat.zero_le _⟩ rfl rfl ⟨Nat.le_of_ble_eq_true rfl, Nat.le_of_ble_eq_true rfl⟩ rfl rfl (Nat.le_of_ble_eq_true rfl) dX6_lampCosts_70 (fun r13 μ14 h => ?_)
      refine b_isub X dX6_lampCosts_73 ?_
      exact hret _ _ _ _ h dX6_lampCosts_74
    · replace h := h.2 c
      refine b_ldc (v := ((-1000000003) : Int32)) X m_k_X6_177 dX6_lampCosts_20 ?_
      exact hret _ _ _ _ h dX6_lampCosts_22
  · replace h := h.2 c
    refine b_ldc (v := ((-1000000002) : Int32)) X m_k_X6_84 dX6_lampCosts_10 ?_
    exact hret _ _ _ _ h dX6_lampCosts_12
set_option maxHeartbeats 4000000 in
set_option maxRecDepth 100000 in
theorem c_X6_thirsty (l : Launch) (D : va_G) (C : Nat → ClassId) (ad : Nat → Nat) (a1 : Int32) (μ : Mem) (Q : Int32 → Mem → Prop) (h : w_X6_thirsty a1 μ Q) : Mi sF l yX6_thirsty cX6_thirsty 4 (some .int) rm_X6_thirsty D C ad [.ref (ad 0), .int a1] μ Q := by
  refine fm_i (by decide +kernel) sF_lt (Nat.le_of_ble_eq_true rfl) (fun K X hret => ?_)
  have X : CK sF D C ad K cX6_thirsty 4 RX6 := X
  refine b_lv (lv' := [(0, .ref (ad 0)), (1, .int a1)]) rfl ?_
  unfold w_X6_thirsty at h
  have B45 : ∀ (v2 : Int32) (v3 : Int32) (μ : Mem), w_X6_thirsty_45 a1 v2 v3 μ Q → WB sF l D C ad rm_X6_thirsty K 4 μ 45 [(0, .ref (ad 0)), (1, .int a1), (2, .int v2), (3, .int v3)] [] := by
    intro v2 v3 μ h
    obtain ⟨Y45, eY⟩ : ∃ Y : Int32 → Mem → Prop, Y = fun (v3 : Int32) (μ : Mem) => WB sF l D C ad rm_X6_thirsty K 4 μ 45 [(0, .ref (ad 0)), (1, .int a1), (2, .int v2), (3, .int v3)] [] := ⟨_, rfl⟩
    have B45 : Y45 v3 μ := by
      unfold w_X6_thirsty_45 at h
      refine h Y45 ?_
      clear h
      intro v3 μ h
      unfold s_X6_thirsty_45 at h
      rw [eY]
      show WB sF l D C ad rm_X6_thirsty K 4 μ 45 [(0, .ref (ad 0)), (1, .int a1), (2, .int v2), (3, .int v3)] []
      have T45 : ∀ (v3 : Int32) (μ : Mem), Y45 v3 μ → WB sF l D C ad rm_X6_thirsty K 4 μ 45 [(0, .ref (ad 0)), (1, .int a1), (2, .int v2), (3, .int v3)] [] := by
        intro v3 μ h
        rw [eY] at h
        exact h
      clear eY
      have B132 : ∀ (μ : Mem), w_X6_thirsty_132 a1 μ Q → WB sF l D C ad rm_X6_thirsty K 4 μ 132 [(0, .ref (ad 0))] [] := by
        intro μ h
        unfold w_X6_thirsty_132 at h
        refine b_aload_n X dX6_thirsty_132 rfl 0 rfl ?_
        refine g_6_4 X kF_0 m_f_X6_33 dX6_thirsty_133 ?_
        refine g_4_0 X kF_31 m_f_X6_124 dX6_thirsty_136 ?_
        refine b_aload_n X dX6_thirsty_139 rfl 0 rfl ?_
        refine g_6_3 X kF_0 m_f_X6_29 dX6_thirsty_140 ?_
        refine g_4_0 X kF_25 m_f_X6_124 dX6_thirsty_143 ?_
        refine b_isub X dX6_thirsty_146 ?_
        exact hret _ _ _ _ h dX6_thirsty_147
      refine b_iload_n X dX6_thirsty_45 rfl 3 rfl ?_
      refine b_sipush (v := (nI 720)) X dX6_thirsty_46 (by decide) ?_
      refine b_icmp_ge (t := 154) X dX6_thirsty_49 (by decide) (fun c => ?_) (fun c => ?_)
      · replace h := h.1 c
        refine b_iconst (v := ((-1) : Int32)) X dX6_thirsty_154 (by decide) ?_
        exact hret _ _ _ _ h dX6_thirsty_155
      · replace h := h.2 c
        refine b_aload_n X dX6_thirsty_52 rfl 0 rfl ?_
        refine g_6_4 X kF_0 m_f_X6_33 dX6_thirsty_53 ?_
        refine g_4_0 X kF_31 m_f_X6_124 dX6_thirsty_56 ?_
        refine b_aload_n X dX6_thirsty_59 rfl 0 rfl ?_
        refine g_6_3 X kF_0 m_f_X6_29 dX6_thirsty_60 ?_
        refine g_4_0 X kF_25 m_f_X6_124 dX6_thirsty_63 ?_
        refine b_isub X dX6_thirsty_66 ?_
        refine b_bipush (v := (nI 60)) X dX6_thirsty_67 (by decide) ?_
        refine b_icmp_ge (t := 154) X dX6_thirsty_69 (by decide) (fun c => ?_) (fun c => ?_)
        · replace h := h.1 c
          refine b_iconst (v := ((-1) : Int32)) X dX6_thirsty_154 (by decide) ?_
          exact hret _ _ _ _ h dX6_thirsty_155
        · replace h := h.2 c
          refine b_aload_n X dX6_thirsty_72 rfl 0 rfl ?_
          refine g_6_4 X kF_0 m_f_X6_33 dX6_thirsty_73 ?_
          refine b_aload_n X dX6_thirsty_76 rfl 0 rfl ?_
          refine g_6_1 X kF_0 m_f_X6_19 dX6_thirsty_77 ?_
          refine b_wf (fun hf9 => ?_)
          refine b_aload_n X dX6_thirsty_80 rfl 0 rfl ?_
          refine g_6_6 X kF_0 m_f_X6_43 dX6_thirsty_81 ?_
          refine b_aload_n X dX6_thirsty_84 rfl 0 rfl ?_
          refine g_6_1 X kF_0 m_f_X6_19 dX6_thirsty_85 ?_
          refine b_wf (fun hf10 => ?_)
          refine b_aload_n X dX6_thirsty_88 rfl 0 rfl ?_
          refine g_6_4 X kF_0 m_f_X6_33 dX6_thirsty_89 ?_
          refine g_4_1 X kF_31 m_f_X6_127 dX6_thirsty_92 ?_
          refine bVi (st := [.ref (ad 38), .ref (ad (μ.2.2 0)), .ref (ad 31)]) (nA := 1) X (c_X0_sideAt l D C ad (μ.2.2 0) (hf10 kF_0).1 (μ.1 31 1) μ _ h) (hf10 kF_0).1 (by decide) (enc_0 (hf10 kF_0).1) rfl gw_X6_178 ⟨rfl, hd_X0_sideAt⟩ ⟨Nat.zero_le _, Nat.zero_le _⟩ rfl rfl ⟨Nat.le_of_ble_eq_true rfl, Nat.le_of_ble_eq_true rfl⟩ rfl rfl (Nat.le_of_ble_eq_true rfl) dX6_thirsty_95 (fun r11 μ12 h => ?_)
          obtain ⟨rfl, h⟩ := h
          refine b_aload_n X dX6_thirsty_98 rfl 0 rfl ?_
          refine g_6_1 X kF_0 m_f_X6_19 dX6_thirsty_99 ?_
          refine b_wf (fun hf13 => ?_)
          refine b_aload_n X dX6_thirsty_102 rfl 0 rfl ?_
          refine g_6_4 X kF_0 m_f_X6_33 dX6_thirsty_103 ?_
          refine g_4_1 X kF_31 m_f_X6_127 dX6_thirsty_106 ?_
          refine bVi (st := [.int r11, .ref (ad 38), .ref (ad (μ.2.2 0)), .ref (ad 31)]) (nA := 1) X (c_X0_fogAt l D C ad (μ.2.2 0) (hf13 kF_0).1 (μ.1 31 1) μ _ h) (hf13 kF_0).1 (by decide) (enc_0 (hf13 kF_0).1) rfl gw_X6_181 ⟨rfl, hd_X0_fogAt⟩ ⟨Nat.zero_le _, Nat.zero_le _⟩ rfl rfl ⟨Nat.le_of_ble_eq_true rfl, Nat.le_of_ble_eq_true rfl⟩ rfl rfl (Nat.le_of_ble_eq_true rfl) dX6_thirsty_109 (fun r14 μ15 h => ?_)
          obtain ⟨rfl, h⟩ := h
          refine b_iconst (v := (nI 1)) X dX6_thirsty_112 (by decide) ?_
          refine bVi (st := []) (nA := 5) X (c_X4_passHour l D C ad 31 kF_31 (μ.2.2 0) (hf9 kF_0).1 r11 r14 (nI 1) μ _ h) kF_31 (by decide) (enc_4 kF_31) rfl gw_X6_215 ⟨rfl, hd_X4_passHour⟩ ⟨Nat.zero_le _, Nat.zero_le _⟩ rfl rfl ⟨Nat.le_of_ble_eq_true rfl, Nat.le_of_ble_eq_true rfl⟩ rfl rfl (Nat.le_of_ble_eq_true rfl) dX6_thirsty_113 (fun r16 μ17 h => ?_)
          refine b_pop X dX6_thirsty_116 rfl ?_
          refine b_aload_n X dX6_thirsty_117 rfl 0 rfl ?_
          refine g_6_4 X kF_0 m_f_X6_33 dX6_thirsty_118 ?_
          refine g_4_9 X kF_31 m_f_X6_196 dX6_thirsty_121 ?_
          refine b_iload_n X dX6_thirsty_124 rfl 1 rfl ?_
          refine bSi (st := []) (nA := 2) X (c_X6_at l D C ad (31 + 5) (st_k5 kF_31) a1 μ17 _ h) gw_X6_154 hd_X6_at ⟨Nat.zero_le _, Nat.zero_le _⟩ rfl rfl ⟨Nat.le_of_ble_eq_true rfl, Nat.le_of_ble_eq_true rfl⟩ rfl rfl (Nat.le_of_ble_eq_true rfl) dX6_thirsty_125 (fun r18 μ19 h => ?_)
          obtain ⟨rfl, h⟩ := h
          refine b_iload_n X dX6_thirsty_128 rfl 2 rfl ?_
          refine b_icmp_le (t := 148) X dX6_thirsty_129 (by decide) (fun c => ?_) (fun c => ?_)
          · replace h := h.1 c
            obtain ⟨x20, ex20⟩ : ∃ y : Int32, y = v3 + (nI 1) := ⟨_, rfl⟩
            replace h := h x20 ex20
            refine b_iinc (x := x20) (lv' := [(3, .int x20), (0, .ref (ad 0)), (1, .int a1), (2, .int v2)]) (q := 3) X dX6_thirsty_148 rfl (by rw [ex20]; rfl) (by decide) rfl ?_
            refine b_goto (t := 45) X dX6_thirsty_151 (by decide) ?_
            refine b_sub (lv' := [(0, .ref (ad 0)), (1, .int a1), (2, .int v2), (3, .int x20)]) [1, 2, 3, 0] rfl ?_
            exact T45 x20 μ17 h
          · replace h := h.2 c
            refine b_sub (lv' := [(0, .ref (ad 0))]) [0] rfl ?_
            exact B132 μ17 h
    rw [eY] at B45
    exact B45
  refine b_iload_n X dX6_thirsty_0 rfl 1 rfl ?_
  refine bSi (st := []) (nA := 1) X (c_X6_isVillage l D C ad a1 μ _ h) gw_X6_184 hd_X6_isVillage ⟨Nat.zero_le _, Nat.zero_le _⟩ rfl rfl ⟨Nat.le_of_ble_eq_true rfl, Nat.le_of_ble_eq_true rfl⟩ rfl rfl (Nat.le_of_ble_eq_true rfl) dX6_thirsty_1 (fun r1 μ2 h => ?_)
  obtain ⟨rfl, h⟩ := h
  refine b_if_ne (t := 10) X dX6_thirsty_4 (by decide) (fun c => ?_) (fun c => ?_)
  · replace h := h.1 c
    refine b_aload_n X dX6_thirsty_10 rfl 0 rfl ?_
    refine bVi (st := []) (nA := 0) X (c_X6_isBare l D C ad  μ _ h) kF_0 (by decide) (enc_6 kF_0) rfl gw_X6_173 ⟨rfl, hd_X6_isBare⟩ ⟨Nat.zero_le _, Nat.zero_le _⟩ rfl rfl ⟨Nat.le_of_ble_eq_true rfl, Nat.le_of_ble_eq_true rfl⟩ rfl rfl (Nat.le_of_ble_eq_true rfl) dX6_thirsty_11 (fun r3 μ4 h => ?_)
    obtain ⟨rfl, h⟩ := h
    refine b_if_eq (t := 20) X dX6_thirsty_14 (by decide) (fun c => ?_) (fun c => ?_)
    · replace h := h.1 c
      refine b_aload_n X dX6_thirsty_20 rfl 0 rfl ?_
      refine g_6_4 X kF_0 m_f_X6_33 dX6_thirsty_21 ?_
      refine b_aload_n X dX6_thirsty_24 rfl 0 rfl ?_
      refine g_6_3 X kF_0 m_f_X6_29 dX6_thirsty_25 ?_
      refine bVv (st := []) (nA := 1) X (c_X4_become l D C ad 31 kF_31 25 kF_25 μ _ h) kF_31 (by decide) (enc_4 kF_31) rfl gw_X6_247 ⟨rfl, hd_X4_become⟩ ⟨Nat.zero_le _, Nat.zero_le _⟩ rfl rfl ⟨Nat.le_of_ble_eq_true rfl, Nat.le_of_ble_eq_true rfl⟩ rfl rfl (Nat.le_of_ble_eq_true rfl) dX6_thirsty_28 (fun μ6 h => ?_)
      refine b_aload_n X dX6_thirsty_31 rfl 0 rfl ?_
      refine g_6_3 X kF_0 m_f_X6_29 dX6_thirsty_32 ?_
      refine g_4_9 X kF_25 m_f_X6_196 dX6_thirsty_35 ?_
      refine b_iload_n X dX6_thirsty_38 rfl 1 rfl ?_
      refine bSi (st := []) (nA := 2) X (c_X6_at l D C ad (25 + 5) (st_k5 kF_25) a1 μ6 _ h) gw_X6_154 hd_X6_at ⟨Nat.zero_le _, Nat.zero_le _⟩ rfl rfl ⟨Nat.le_of_ble_eq_true rfl, Nat.le_of_ble_eq_true rfl⟩ rfl rfl (Nat.le_of_ble_eq_true rfl) dX6_thirsty_39 (fun r7 μ8 h => ?_)
      obtain ⟨rfl, h⟩ := h
      refine b_istore_n (lv' := [(2, .int r7), (0, .ref (ad 0)), (1, .int a1)]) X dX6_thirsty_42 rfl (by decide) rfl ?_
      refine b_iconst (v := (nI 0)) X dX6_thirsty_43 (by decide) ?_
      refine b_istore_n (lv' := [(3, .int (nI 0)), (2, .int r7), (0, .ref (ad 0)), (1, .int a1)]) X dX6_thirsty_44 rfl (by decide) rfl ?_
      refine b_sub (lv' := [(0, .ref (ad 0)), (1, .int a1), (2, .int r7), (3, .int (nI 0))]) [2, 3, 1, 0] rfl ?_
      exact B45 r7 (nI 0) μ6 h
    · replace h := h.2 c
      refine b_ldc (v := ((-1000000003) : Int32)) X m_k_X6_177 dX6_thirsty_17 ?_
      exact hret _ _ _ _ h dX6_thirsty_19
  · replace h := h.2 c
    refine b_ldc (v := ((-1000000001) : Int32)) X m_k_X6_150 dX6_thirsty_7 ?_
    exact hret _ _ _ _ h dX6_thirsty_9
