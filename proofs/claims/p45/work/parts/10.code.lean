set_option maxHeartbeats 4000000 in
set_option maxRecDepth 100000 in
theorem c_X0_wipe (l : Launch) (D : va_G) (C : Nat → ClassId) (ad : Nat → Nat) (b0 : Nat) (h0 : sF.2.1 b0 = 0) (μ : Mem) (Q : Mem → Prop) (h : w_X0_wipe b0 μ Q) : Mv sF l yX0_wipe cX0_wipe 2 none rm_X0_wipe D C ad [.ref (ad b0)] μ Q := by
  refine fm_v (by decide +kernel) sF_lt (Nat.le_of_ble_eq_true rfl) (fun K X hret => ?_)
  have X : CK sF D C ad K cX0_wipe 2 RX0 := X
  refine b_lv (lv' := [(0, .ref (ad b0))]) rfl ?_
  unfold w_X0_wipe at h
  have B41 : ∀ (v1 : Int32) (μ : Mem), w_X0_wipe_41 b0 v1 μ Q → WB sF l D C ad rm_X0_wipe K 2 μ 41 [(0, .ref (ad b0)), (1, .int v1)] [] := by
    intro v1 μ h
    obtain ⟨Y41, eY⟩ : ∃ Y : Int32 → Mem → Prop, Y = fun (v1 : Int32) (μ : Mem) => WB sF l D C ad rm_X0_wipe K 2 μ 41 [(0, .ref (ad b0)), (1, .int v1)] [] := ⟨_, rfl⟩
    have B41 : Y41 v1 μ := by
      unfold w_X0_wipe_41 at h
      refine h Y41 ?_
      clear h
      intro v1 μ h
      unfold s_X0_wipe_41 at h
      rw [eY]
      show WB sF l D C ad rm_X0_wipe K 2 μ 41 [(0, .ref (ad b0)), (1, .int v1)] []
      have T41 : ∀ (v1 : Int32) (μ : Mem), Y41 v1 μ → WB sF l D C ad rm_X0_wipe K 2 μ 41 [(0, .ref (ad b0)), (1, .int v1)] [] := by
        intro v1 μ h
        rw [eY] at h
        exact h
      clear eY
      have B67 : ∀ (μ : Mem), w_X0_wipe_67 b0 μ Q → WB sF l D C ad rm_X0_wipe K 2 μ 67 [(0, .ref (ad b0))] [] := by
        intro μ h
        unfold w_X0_wipe_67 at h
        have B69 : ∀ (v1 : Int32) (μ : Mem), w_X0_wipe_69 b0 v1 μ Q → WB sF l D C ad rm_X0_wipe K 2 μ 69 [(0, .ref (ad b0)), (1, .int v1)] [] := by
          intro v1 μ h
          obtain ⟨Y69, eY⟩ : ∃ Y : Int32 → Mem → Prop, Y = fun (v1 : Int32) (μ : Mem) => WB sF l D C ad rm_X0_wipe K 2 μ 69 [(0, .ref (ad b0)), (1, .int v1)] [] := ⟨_, rfl⟩
          have B69 : Y69 v1 μ := by
            unfold w_X0_wipe_69 at h
            refine h Y69 ?_
            clear h
            intro v1 μ h
            unfold s_X0_wipe_69 at h
            rw [eY]
            show WB sF l D C ad rm_X0_wipe K 2 μ 69 [(0, .ref (ad b0)), (1, .int v1)] []
            have T69 : ∀ (v1 : Int32) (μ : Mem), Y69 v1 μ → WB sF l D C ad rm_X0_wipe K 2 μ 69 [(0, .ref (ad b0)), (1, .int v1)] [] := by
              intro v1 μ h
              rw [eY] at h
              exact h
            clear eY
            refine b_iload_n X dX0_wipe_69 rfl 1 rfl ?_
            refine b_iconst (v := (nI 2)) X dX0_wipe_70 (by decide) ?_
            refine b_icmp_ge (t := 95) X dX0_wipe_71 (by decide) (fun c => ?_) (fun c => ?_)
            · replace h := h.1 c
              exact hret _ _ _ h dX0_wipe_95
            · replace h := h.2 c
              refine b_aload_n X dX0_wipe_74 rfl 0 rfl ?_
              refine g_0_11 X h0 m_f_X0_30 dX0_wipe_75 ?_
              refine b_iload_n X dX0_wipe_78 rfl 1 rfl ?_
              refine b_bipush (v := (nI 127)) X dX0_wipe_79 (by decide) ?_
              have hz := h.1
              replace h := h.2
              refine b_iast X (co_k7 h0) (co_n7 h0) hz dX0_wipe_81 (fun μ11 eμ11 => ?_)
              clear hz
              replace h := h μ11 eμ11
              refine b_aload_n X dX0_wipe_82 rfl 0 rfl ?_
              refine g_0_12 X h0 m_f_X0_33 dX0_wipe_83 ?_
              refine b_iload_n X dX0_wipe_86 rfl 1 rfl ?_
              refine b_iconst (v := (nI 0)) X dX0_wipe_87 (by decide) ?_
              have hz := h.1
              replace h := h.2
              refine b_iast X (co_k8 h0) (co_n8 h0) hz dX0_wipe_88 (fun μ12 eμ12 => ?_)
              clear hz
              replace h := h μ12 eμ12
              obtain ⟨x13, ex13⟩ : ∃ y : Int32, y = v1 + (nI 1) := ⟨_, rfl⟩
              replace h := h x13 ex13
              refine b_iinc (x := x13) (lv' := [(1, .int x13), (0, .ref (ad b0))]) (q := 1) X dX0_wipe_89 rfl (by rw [ex13]; rfl) (by decide) rfl ?_
              refine b_goto (t := 69) X dX0_wipe_92 (by decide) ?_
              refine b_sub (lv' := [(0, .ref (ad b0)), (1, .int x13)]) [1, 0] rfl ?_
              exact T69 x13 μ12 h
          rw [eY] at B69
          exact B69
        refine b_iconst (v := (nI 0)) X dX0_wipe_67 (by decide) ?_
        refine b_istore_n (lv' := [(1, .int (nI 0)), (0, .ref (ad b0))]) X dX0_wipe_68 rfl (by decide) rfl ?_
        refine b_sub (lv' := [(0, .ref (ad b0)), (1, .int (nI 0))]) [1, 0] rfl ?_
        exact B69 (nI 0) μ h
      refine b_iload_n X dX0_wipe_41 rfl 1 rfl ?_
      refine b_bipush (v := (nI 6)) X dX0_wipe_42 (by decide) ?_
      refine b_icmp_ge (t := 67) X dX0_wipe_44 (by decide) (fun c => ?_) (fun c => ?_)
      · replace h := h.1 c
        refine b_sub (lv' := [(0, .ref (ad b0))]) [0] rfl ?_
        exact B67 μ h
      · replace h := h.2 c
        refine b_aload_n X dX0_wipe_47 rfl 0 rfl ?_
        refine g_0_7 X h0 m_f_X0_18 dX0_wipe_48 ?_
        refine b_iload_n X dX0_wipe_51 rfl 1 rfl ?_
        refine b_iconst (v := ((-1) : Int32)) X dX0_wipe_52 (by decide) ?_
        have hz := h.1
        replace h := h.2
        refine b_iast X (co_k3 h0) (co_n3 h0) hz dX0_wipe_53 (fun μ8 eμ8 => ?_)
        clear hz
        replace h := h μ8 eμ8
        refine b_aload_n X dX0_wipe_54 rfl 0 rfl ?_
        refine g_0_10 X h0 m_f_X0_27 dX0_wipe_55 ?_
        refine b_iload_n X dX0_wipe_58 rfl 1 rfl ?_
        refine b_iconst (v := ((-1) : Int32)) X dX0_wipe_59 (by decide) ?_
        have hz := h.1
        replace h := h.2
        refine b_iast X (co_k6 h0) (co_n6 h0) hz dX0_wipe_60 (fun μ9 eμ9 => ?_)
        clear hz
        replace h := h μ9 eμ9
        obtain ⟨x10, ex10⟩ : ∃ y : Int32, y = v1 + (nI 1) := ⟨_, rfl⟩
        replace h := h x10 ex10
        refine b_iinc (x := x10) (lv' := [(1, .int x10), (0, .ref (ad b0))]) (q := 1) X dX0_wipe_61 rfl (by rw [ex10]; rfl) (by decide) rfl ?_
        refine b_goto (t := 41) X dX0_wipe_64 (by decide) ?_
        refine b_sub (lv' := [(0, .ref (ad b0)), (1, .int x10)]) [1, 0] rfl ?_
        exact T41 x10 μ9 h
    rw [eY] at B41
    exact B41
  refine b_aload_n X dX0_wipe_0 rfl 0 rfl ?_
  refine b_iconst (v := (nI 0)) X dX0_wipe_1 (by decide) ?_
  refine p_0_0 X h0 m_f_X0_42 dX0_wipe_2 (fun μ1 eμ1 => ?_)
  replace h := h μ1 eμ1
  refine b_aload_n X dX0_wipe_5 rfl 0 rfl ?_
  refine b_iconst (v := (nI 0)) X dX0_wipe_6 (by decide) ?_
  refine p_0_1 X h0 m_f_X0_46 dX0_wipe_7 (fun μ2 eμ2 => ?_)
  replace h := h μ2 eμ2
  refine b_aload_n X dX0_wipe_10 rfl 0 rfl ?_
  refine b_iconst (v := (nI 0)) X dX0_wipe_11 (by decide) ?_
  refine p_0_2 X h0 m_f_X0_49 dX0_wipe_12 (fun μ3 eμ3 => ?_)
  replace h := h μ3 eμ3
  refine b_aload_n X dX0_wipe_15 rfl 0 rfl ?_
  refine b_iconst (v := (nI 0)) X dX0_wipe_16 (by decide) ?_
  refine p_0_3 X h0 m_f_X0_52 dX0_wipe_17 (fun μ4 eμ4 => ?_)
  replace h := h μ4 eμ4
  refine b_aload_n X dX0_wipe_20 rfl 0 rfl ?_
  refine b_iconst (v := (nI 0)) X dX0_wipe_21 (by decide) ?_
  refine p_0_4 X h0 m_f_X0_55 dX0_wipe_22 (fun μ5 eμ5 => ?_)
  replace h := h μ5 eμ5
  refine b_aload_n X dX0_wipe_25 rfl 0 rfl ?_
  refine g_0_5 X h0 m_f_X0_9 dX0_wipe_26 ?_
  refine b_iconst (v := (nI 0)) X dX0_wipe_29 (by decide) ?_
  refine b_iconst (v := (nI 0)) X dX0_wipe_30 (by decide) ?_
  have hz := h.1
  replace h := h.2
  refine b_iast X (co_k1 h0) (co_n1 h0) hz dX0_wipe_31 (fun μ6 eμ6 => ?_)
  clear hz
  replace h := h μ6 eμ6
  refine b_aload_n X dX0_wipe_32 rfl 0 rfl ?_
  refine g_0_6 X h0 m_f_X0_15 dX0_wipe_33 ?_
  refine b_iconst (v := (nI 0)) X dX0_wipe_36 (by decide) ?_
  refine b_iconst (v := (nI 0)) X dX0_wipe_37 (by decide) ?_
  have hz := h.1
  replace h := h.2
  refine b_iast X (co_k2 h0) (co_n2 h0) hz dX0_wipe_38 (fun μ7 eμ7 => ?_)
  clear hz
  replace h := h μ7 eμ7
  refine b_iconst (v := (nI 0)) X dX0_wipe_39 (by decide) ?_
  refine b_istore_n (lv' := [(1, .int (nI 0)), (0, .ref (ad b0))]) X dX0_wipe_40 rfl (by decide) rfl ?_
  refine b_sub (lv' := [(0, .ref (ad b0)), (1, .int (nI 0))]) [1, 0] rfl ?_
  exact B41 (nI 0) μ7 h
set_option maxHeartbeats 4000000 in
set_option maxRecDepth 100000 in
theorem c_X0_hoursOfDay (l : Launch) (D : va_G) (C : Nat → ClassId) (ad : Nat → Nat) (b0 : Nat) (h0 : sF.2.1 b0 = 0) (μ : Mem) (Q : Int32 → Prop) (h : w_X0_hoursOfDay b0 μ Q) : Mi sF l yX0_hoursOfDay cX0_hoursOfDay 1 (some .int) rm_X0_hoursOfDay D C ad [.ref (ad b0)] μ (fun r μ' => μ = μ' ∧ Q r) := by
  refine fm_i (by decide +kernel) sF_lt (Nat.le_of_ble_eq_true rfl) (fun K X hret => ?_)
  have X : CK sF D C ad K cX0_hoursOfDay 1 RX0 := X
  refine b_lv (lv' := [(0, .ref (ad b0))]) rfl ?_
  unfold w_X0_hoursOfDay at h
  refine b_aload_n X dX0_hoursOfDay_0 rfl 0 rfl ?_
  refine g_0_0 X h0 m_f_X0_42 dX0_hoursOfDay_1 ?_
  refine b_if_ne (t := 11) X dX0_hoursOfDay_4 (by decide) (fun c => ?_) (fun c => ?_)
  · replace h := h.1 c
    refine b_aload_n X dX0_hoursOfDay_11 rfl 0 rfl ?_
    refine g_0_2 X h0 m_f_X0_49 dX0_hoursOfDay_12 ?_
    refine b_iconst (v := (nI 1)) X dX0_hoursOfDay_15 (by decide) ?_
    refine b_mmax X ⟨Nat.zero_le _, Nat.zero_le _⟩ m_m_X0_58 m_s_mmax m_n_J9 m_c_mmax (Nat.le_of_ble_eq_true rfl) (Nat.le_of_ble_eq_true rfl) dX0_hoursOfDay_16 ?_
    refine b_topi (fun x1 ex1 => ?_)
    replace h := h x1 ex1
    exact hret _ _ _ _ ⟨rfl, h⟩ dX0_hoursOfDay_19
  · replace h := h.2 c
    refine b_iconst (v := (nI 0)) X dX0_hoursOfDay_7 (by decide) ?_
    refine b_goto (t := 19) X dX0_hoursOfDay_8 (by decide) ?_
    exact hret _ _ _ _ ⟨rfl, h⟩ dX0_hoursOfDay_19
set_option maxHeartbeats 4000000 in
set_option maxRecDepth 100000 in
theorem c_X6_at (l : Launch) (D : va_G) (C : Nat → ClassId) (ad : Nat → Nat) (b0 : Nat) (h0 : sF.2.1 b0 = 8) (a1 : Int32) (μ : Mem) (Q : Int32 → Prop) (h : w_X6_at b0 a1 μ Q) : Mi sF l yX6_at cX6_at 2 (some .int) rm_X6_at D C ad [.ref (ad b0), .int a1] μ (fun r μ' => μ = μ' ∧ Q r) := by
  refine fm_i (by decide +kernel) sF_lt (Nat.le_of_ble_eq_true rfl) (fun K X hret => ?_)
  have X : CK sF D C ad K cX6_at 2 RX6 := X
  refine b_lv (lv' := [(0, .ref (ad b0)), (1, .int a1)]) rfl ?_
  unfold w_X6_at at h
  refine b_iload_n X dX6_at_0 rfl 1 rfl ?_
  refine b_if_lt (t := 16) X dX6_at_1 (by decide) (fun c => ?_) (fun c => ?_)
  · replace h := h.1 c
    refine b_iconst (v := (nI 0)) X dX6_at_16 (by decide) ?_
    exact hret _ _ _ _ ⟨rfl, h⟩ dX6_at_17
  · replace h := h.2 c
    refine b_iload_n X dX6_at_4 rfl 1 rfl ?_
    refine b_aload_n X dX6_at_5 rfl 0 rfl ?_
    refine b_alen X h0 rfl rfl dX6_at_6 ?_
    refine b_icmp_ge (t := 16) X dX6_at_7 (by decide) (fun c => ?_) (fun c => ?_)
    · replace h := h.1 c
      refine b_iconst (v := (nI 0)) X dX6_at_16 (by decide) ?_
      exact hret _ _ _ _ ⟨rfl, h⟩ dX6_at_17
    · replace h := h.2 c
      refine b_aload_n X dX6_at_10 rfl 0 rfl ?_
      refine b_iload_n X dX6_at_11 rfl 1 rfl ?_
      have hz := h.1
      replace h := h.2
      refine b_iald X h0 rfl hz dX6_at_12 ?_
      clear hz
      refine b_goto (t := 17) X dX6_at_13 (by decide) ?_
      exact hret _ _ _ _ ⟨rfl, h⟩ dX6_at_17
set_option maxHeartbeats 4000000 in
set_option maxRecDepth 100000 in
theorem c_X0_sideAt (l : Launch) (D : va_G) (C : Nat → ClassId) (ad : Nat → Nat) (b0 : Nat) (h0 : sF.2.1 b0 = 0) (a1 : Int32) (μ : Mem) (Q : Int32 → Prop) (h : w_X0_sideAt b0 a1 μ Q) : Mi sF l yX0_sideAt cX0_sideAt 2 (some .int) rm_X0_sideAt D C ad [.ref (ad b0), .int a1] μ (fun r μ' => μ = μ' ∧ Q r) := by
  refine fm_i (by decide +kernel) sF_lt (Nat.le_of_ble_eq_true rfl) (fun K X hret => ?_)
  have X : CK sF D C ad K cX0_sideAt 2 RX0 := X
  refine b_lv (lv' := [(0, .ref (ad b0)), (1, .int a1)]) rfl ?_
  unfold w_X0_sideAt at h
  refine b_aload_n X dX0_sideAt_0 rfl 0 rfl ?_
  refine g_0_5 X h0 m_f_X0_9 dX0_sideAt_1 ?_
  refine b_iload_n X dX0_sideAt_4 rfl 1 rfl ?_
  refine bNi (st := []) (host := "FogNets") (nA := 2) X (c_X6_at l D C ad (b0 + 1) (co_k1 h0) a1 μ _ h) nx_X0_64 m_s_X6_at m_n_X6 m_c_X6_at hd_X6_at ⟨Nat.zero_le _, Nat.zero_le _⟩ rfl rfl ⟨Nat.le_of_ble_eq_true rfl, Nat.le_of_ble_eq_true rfl⟩ rfl rfl (Nat.le_of_ble_eq_true rfl) dX0_sideAt_5 (fun r1 μ2 h => ?_)
  obtain ⟨rfl, h⟩ := h
  exact hret _ _ _ _ ⟨rfl, h⟩ dX0_sideAt_8
set_option maxHeartbeats 4000000 in
set_option maxRecDepth 100000 in
theorem c_X0_fogAt (l : Launch) (D : va_G) (C : Nat → ClassId) (ad : Nat → Nat) (b0 : Nat) (h0 : sF.2.1 b0 = 0) (a1 : Int32) (μ : Mem) (Q : Int32 → Prop) (h : w_X0_fogAt b0 a1 μ Q) : Mi sF l yX0_fogAt cX0_fogAt 2 (some .int) rm_X0_fogAt D C ad [.ref (ad b0), .int a1] μ (fun r μ' => μ = μ' ∧ Q r) := by
  refine fm_i (by decide +kernel) sF_lt (Nat.le_of_ble_eq_true rfl) (fun K X hret => ?_)
  have X : CK sF D C ad K cX0_fogAt 2 RX0 := X
  refine b_lv (lv' := [(0, .ref (ad b0)), (1, .int a1)]) rfl ?_
  unfold w_X0_fogAt at h
  refine b_aload_n X dX0_fogAt_0 rfl 0 rfl ?_
  refine g_0_6 X h0 m_f_X0_15 dX0_fogAt_1 ?_
  refine b_iload_n X dX0_fogAt_4 rfl 1 rfl ?_
  refine bNi (st := []) (host := "FogNets") (nA := 2) X (c_X6_at l D C ad (b0 + 2) (co_k2 h0) a1 μ _ h) nx_X0_64 m_s_X6_at m_n_X6 m_c_X6_at hd_X6_at ⟨Nat.zero_le _, Nat.zero_le _⟩ rfl rfl ⟨Nat.le_of_ble_eq_true rfl, Nat.le_of_ble_eq_true rfl⟩ rfl rfl (Nat.le_of_ble_eq_true rfl) dX0_fogAt_5 (fun r1 μ2 h => ?_)
  obtain ⟨rfl, h⟩ := h
  exact hret _ _ _ _ ⟨rfl, h⟩ dX0_fogAt_8
set_option maxHeartbeats 4000000 in
set_option maxRecDepth 100000 in
theorem c_X0_hangsOn (l : Launch) (D : va_G) (C : Nat → ClassId) (ad : Nat → Nat) (b0 : Nat) (h0 : sF.2.1 b0 = 0) (a1 : Int32) (a2 : Int32) (μ : Mem) (Q : Int32 → Prop) (h : w_X0_hangsOn b0 a1 a2 μ Q) : Mi sF l yX0_hangsOn cX0_hangsOn 3 (some .boolean) rm_X0_hangsOn D C ad [.ref (ad b0), .int a1, .int a2] μ (fun r μ' => μ = μ' ∧ Q r) := by
  refine fm_z (by decide +kernel) sF_lt (Nat.le_of_ble_eq_true rfl) (fun K X hret => ?_)
  have X : CK sF D C ad K cX0_hangsOn 3 RX0 := X
  refine b_lv (lv' := [(0, .ref (ad b0)), (1, .int a1), (2, .int a2)]) rfl ?_
  unfold w_X0_hangsOn at h
  refine b_aload_n X dX0_hangsOn_0 rfl 0 rfl ?_
  refine g_0_11 X h0 m_f_X0_30 dX0_hangsOn_1 ?_
  refine b_iload_n X dX0_hangsOn_4 rfl 1 rfl ?_
  refine bNi (st := []) (host := "FogNets") (nA := 2) X (c_X6_at l D C ad (b0 + 7) (co_k7 h0) a1 μ _ h) nx_X0_64 m_s_X6_at m_n_X6 m_c_X6_at hd_X6_at ⟨Nat.zero_le _, Nat.zero_le _⟩ rfl rfl ⟨Nat.le_of_ble_eq_true rfl, Nat.le_of_ble_eq_true rfl⟩ rfl rfl (Nat.le_of_ble_eq_true rfl) dX0_hangsOn_5 (fun r1 μ2 h => ?_)
  obtain ⟨rfl, h⟩ := h
  refine b_iload_n X dX0_hangsOn_8 rfl 2 rfl ?_
  refine b_bipush (v := (nI 7)) X dX0_hangsOn_9 (by decide) ?_
  have hz := h.1
  replace h := h.2
  refine b_irem X dX0_hangsOn_11 hz ?_
  clear hz
  refine b_topi (fun x3 ex3 => ?_)
  replace h := h x3 ex3
  refine b_ishr X dX0_hangsOn_12 ?_
  refine b_iconst (v := (nI 1)) X dX0_hangsOn_13 (by decide) ?_
  refine b_iand X dX0_hangsOn_14 ?_
  refine b_iconst (v := (nI 1)) X dX0_hangsOn_15 (by decide) ?_
  refine b_icmp_ne (t := 23) X dX0_hangsOn_16 (by decide) (fun c => ?_) (fun c => ?_)
  · replace h := h.1 c
    refine b_iconst (v := (nI 0)) X dX0_hangsOn_23 (by decide) ?_
    exact hret _ _ _ _ ⟨(Or.inl rfl), rfl, h⟩ dX0_hangsOn_24
  · replace h := h.2 c
    refine b_iconst (v := (nI 1)) X dX0_hangsOn_19 (by decide) ?_
    refine b_goto (t := 24) X dX0_hangsOn_20 (by decide) ?_
    exact hret _ _ _ _ ⟨(Or.inr rfl), rfl, h⟩ dX0_hangsOn_24
set_option maxHeartbeats 4000000 in
set_option maxRecDepth 100000 in
theorem c_X0_postsOf (l : Launch) (D : va_G) (C : Nat → ClassId) (ad : Nat → Nat) (b0 : Nat) (h0 : sF.2.1 b0 = 0) (a1 : Int32) (μ : Mem) (Q : Int32 → Prop) (h : w_X0_postsOf b0 a1 μ Q) : Mi sF l yX0_postsOf cX0_postsOf 4 (some .int) rm_X0_postsOf D C ad [.ref (ad b0), .int a1] μ (fun r μ' => μ = μ' ∧ Q r) := by
  refine fm_i (by decide +kernel) sF_lt (Nat.le_of_ble_eq_true rfl) (fun K X hret => ?_)
  have X : CK sF D C ad K cX0_postsOf 4 RX0 := X
  refine b_lv (lv' := [(0, .ref (ad b0)), (1, .int a1)]) rfl ?_
  unfold w_X0_postsOf at h
  have B4 : ∀ (v2 : Int32) (v3 : Int32), w_X0_postsOf_4 b0 a1 v2 v3 μ Q → WB sF l D C ad rm_X0_postsOf K 4 μ 4 [(0, .ref (ad b0)), (1, .int a1), (2, .int v2), (3, .int v3)] [] := by
    intro v2 v3 h
    obtain ⟨Y4, eY⟩ : ∃ Y : Int32 → Int32 → Prop, Y = fun (v2 : Int32) (v3 : Int32) => WB sF l D C ad rm_X0_postsOf K 4 μ 4 [(0, .ref (ad b0)), (1, .int a1), (2, .int v2), (3, .int v3)] [] := ⟨_, rfl⟩
    have B4 : Y4 v2 v3 := by
      unfold w_X0_postsOf_4 at h
      refine h Y4 ?_
      clear h
      intro v2 v3 h
      unfold s_X0_postsOf_4 at h
      rw [eY]
      show WB sF l D C ad rm_X0_postsOf K 4 μ 4 [(0, .ref (ad b0)), (1, .int a1), (2, .int v2), (3, .int v3)] []
      have T4 : ∀ (v2 : Int32) (v3 : Int32), Y4 v2 v3 → WB sF l D C ad rm_X0_postsOf K 4 μ 4 [(0, .ref (ad b0)), (1, .int a1), (2, .int v2), (3, .int v3)] [] := by
        intro v2 v3 h
        rw [eY] at h
        exact h
      clear eY
      have B34 : ∀ (v2 : Int32) (v3 : Int32), w_X0_postsOf_34 b0 a1 Y4 v2 v3 μ Q → WB sF l D C ad rm_X0_postsOf K 4 μ 34 [(0, .ref (ad b0)), (1, .int a1), (2, .int v2), (3, .int v3)] [] := by
        intro v2 v3 h
        unfold w_X0_postsOf_34 at h
        obtain ⟨x2, ex2⟩ : ∃ y : Int32, y = v3 + (nI 1) := ⟨_, rfl⟩
        replace h := h x2 ex2
        refine b_iinc (x := x2) (lv' := [(3, .int x2), (0, .ref (ad b0)), (1, .int a1), (2, .int v2)]) (q := 3) X dX0_postsOf_34 rfl (by rw [ex2]; rfl) (by decide) rfl ?_
        refine b_goto (t := 4) X dX0_postsOf_37 (by decide) ?_
        refine b_sub (lv' := [(0, .ref (ad b0)), (1, .int a1), (2, .int v2), (3, .int x2)]) [1, 2, 3, 0] rfl ?_
        exact T4 v2 x2 h
      refine b_iload_n X dX0_postsOf_4 rfl 3 rfl ?_
      refine b_aload_n X dX0_postsOf_5 rfl 0 rfl ?_
      refine g_0_3 X h0 m_f_X0_52 dX0_postsOf_6 ?_
      refine b_icmp_ge (t := 40) X dX0_postsOf_9 (by decide) (fun c => ?_) (fun c => ?_)
      · replace h := h.1 c
        refine b_iload_n X dX0_postsOf_40 rfl 2 rfl ?_
        exact hret _ _ _ _ ⟨rfl, h⟩ dX0_postsOf_41
      · replace h := h.2 c
        refine b_iload_n X dX0_postsOf_12 rfl 3 rfl ?_
        refine b_bipush (v := (nI 6)) X dX0_postsOf_13 (by decide) ?_
        refine b_icmp_ge (t := 40) X dX0_postsOf_15 (by decide) (fun c => ?_) (fun c => ?_)
        · replace h := h.1 c
          refine b_iload_n X dX0_postsOf_40 rfl 2 rfl ?_
          exact hret _ _ _ _ ⟨rfl, h⟩ dX0_postsOf_41
        · replace h := h.2 c
          refine b_aload_n X dX0_postsOf_18 rfl 0 rfl ?_
          refine g_0_10 X h0 m_f_X0_27 dX0_postsOf_19 ?_
          refine b_iload_n X dX0_postsOf_22 rfl 3 rfl ?_
          have hz := h.1
          replace h := h.2
          refine b_iald X (co_k6 h0) (co_n6 h0) hz dX0_postsOf_23 ?_
          clear hz
          refine b_iload_n X dX0_postsOf_24 rfl 1 rfl ?_
          refine b_icmp_ne (t := 34) X dX0_postsOf_25 (by decide) (fun c => ?_) (fun c => ?_)
          · replace h := h.1 c
            refine b_sub (lv' := [(0, .ref (ad b0)), (1, .int a1), (2, .int v2), (3, .int v3)]) [0, 1, 2, 3] rfl ?_
            exact B34 v2 v3 h
          · replace h := h.2 c
            refine b_iload_n X dX0_postsOf_28 rfl 2 rfl ?_
            refine b_iconst (v := (nI 1)) X dX0_postsOf_29 (by decide) ?_
            refine b_iload_n X dX0_postsOf_30 rfl 3 rfl ?_
            refine b_ishl X dX0_postsOf_31 ?_
            refine b_ior X dX0_postsOf_32 ?_
            refine b_topi (fun x1 ex1 => ?_)
            replace h := h x1 ex1
            refine b_istore_n (lv' := [(2, .int x1), (0, .ref (ad b0)), (1, .int a1), (3, .int v3)]) X dX0_postsOf_33 rfl (by decide) rfl ?_
            refine b_sub (lv' := [(0, .ref (ad b0)), (1, .int a1), (2, .int x1), (3, .int v3)]) [1, 2, 0, 3] rfl ?_
            exact B34 x1 v3 h
    rw [eY] at B4
    exact B4
  refine b_iconst (v := (nI 0)) X dX0_postsOf_0 (by decide) ?_
  refine b_istore_n (lv' := [(2, .int (nI 0)), (0, .ref (ad b0)), (1, .int a1)]) X dX0_postsOf_1 rfl (by decide) rfl ?_
  refine b_iconst (v := (nI 0)) X dX0_postsOf_2 (by decide) ?_
  refine b_istore_n (lv' := [(3, .int (nI 0)), (2, .int (nI 0)), (0, .ref (ad b0)), (1, .int a1)]) X dX0_postsOf_3 rfl (by decide) rfl ?_
  refine b_sub (lv' := [(0, .ref (ad b0)), (1, .int a1), (2, .int (nI 0)), (3, .int (nI 0))]) [2, 3, 1, 0] rfl ?_
  exact B4 (nI 0) (nI 0) h
set_option maxHeartbeats 4000000 in
set_option maxRecDepth 100000 in
theorem c_X0_hasPostIn (l : Launch) (D : va_G) (C : Nat → ClassId) (ad : Nat → Nat) (b0 : Nat) (h0 : sF.2.1 b0 = 0) (a1 : Int32) (μ : Mem) (Q : Int32 → Prop) (h : w_X0_hasPostIn b0 a1 μ Q) : Mi sF l yX0_hasPostIn cX0_hasPostIn 3 (some .boolean) rm_X0_hasPostIn D C ad [.ref (ad b0), .int a1] μ (fun r μ' => μ = μ' ∧ Q r) := by
  refine fm_z (by decide +kernel) sF_lt (Nat.le_of_ble_eq_true rfl) (fun K X hret => ?_)
  have X : CK sF D C ad K cX0_hasPostIn 3 RX0 := X
  refine b_lv (lv' := [(0, .ref (ad b0)), (1, .int a1)]) rfl ?_
  unfold w_X0_hasPostIn at h
  have B2 : ∀ (v2 : Int32), w_X0_hasPostIn_2 b0 a1 v2 μ Q → WB sF l D C ad rm_X0_hasPostIn K 3 μ 2 [(0, .ref (ad b0)), (1, .int a1), (2, .int v2)] [] := by
    intro v2 h
    obtain ⟨Y2, eY⟩ : ∃ Y : Int32 → Prop, Y = fun (v2 : Int32) => WB sF l D C ad rm_X0_hasPostIn K 3 μ 2 [(0, .ref (ad b0)), (1, .int a1), (2, .int v2)] [] := ⟨_, rfl⟩
    have B2 : Y2 v2 := by
      unfold w_X0_hasPostIn_2 at h
      refine h Y2 ?_
      clear h
      intro v2 h
      unfold s_X0_hasPostIn_2 at h
      rw [eY]
      show WB sF l D C ad rm_X0_hasPostIn K 3 μ 2 [(0, .ref (ad b0)), (1, .int a1), (2, .int v2)] []
      have T2 : ∀ (v2 : Int32), Y2 v2 → WB sF l D C ad rm_X0_hasPostIn K 3 μ 2 [(0, .ref (ad b0)), (1, .int a1), (2, .int v2)] [] := by
        intro v2 h
        rw [eY] at h
        exact h
      clear eY
      refine b_iload_n X dX0_hasPostIn_2 rfl 2 rfl ?_
      refine b_aload_n X dX0_hasPostIn_3 rfl 0 rfl ?_
      refine g_0_3 X h0 m_f_X0_52 dX0_hasPostIn_4 ?_
      refine b_icmp_ge (t := 34) X dX0_hasPostIn_7 (by decide) (fun c => ?_) (fun c => ?_)
      · replace h := h.1 c
        refine b_iconst (v := (nI 0)) X dX0_hasPostIn_34 (by decide) ?_
        exact hret _ _ _ _ ⟨(Or.inl rfl), rfl, h⟩ dX0_hasPostIn_35
      · replace h := h.2 c
        refine b_iload_n X dX0_hasPostIn_10 rfl 2 rfl ?_
        refine b_bipush (v := (nI 6)) X dX0_hasPostIn_11 (by decide) ?_
        refine b_icmp_ge (t := 34) X dX0_hasPostIn_13 (by decide) (fun c => ?_) (fun c => ?_)
        · replace h := h.1 c
          refine b_iconst (v := (nI 0)) X dX0_hasPostIn_34 (by decide) ?_
          exact hret _ _ _ _ ⟨(Or.inl rfl), rfl, h⟩ dX0_hasPostIn_35
        · replace h := h.2 c
          refine b_aload_n X dX0_hasPostIn_16 rfl 0 rfl ?_
          refine g_0_7 X h0 m_f_X0_18 dX0_hasPostIn_17 ?_
          refine b_iload_n X dX0_hasPostIn_20 rfl 2 rfl ?_
          have hz := h.1
          replace h := h.2
          refine b_iald X (co_k3 h0) (co_n3 h0) hz dX0_hasPostIn_21 ?_
          clear hz
          refine b_iload_n X dX0_hasPostIn_22 rfl 1 rfl ?_
          refine b_icmp_ne (t := 28) X dX0_hasPostIn_23 (by decide) (fun c => ?_) (fun c => ?_)
          · replace h := h.1 c
            obtain ⟨x1, ex1⟩ : ∃ y : Int32, y = v2 + (nI 1) := ⟨_, rfl⟩
            replace h := h x1 ex1
            refine b_iinc (x := x1) (lv' := [(2, .int x1), (0, .ref (ad b0)), (1, .int a1)]) (q := 2) X dX0_hasPostIn_28 rfl (by rw [ex1]; rfl) (by decide) rfl ?_
            refine b_goto (t := 2) X dX0_hasPostIn_31 (by decide) ?_
            refine b_sub (lv' := [(0, .ref (ad b0)), (1, .int a1), (2, .int x1)]) [1, 2, 0] rfl ?_
            exact T2 x1 h
          · replace h := h.2 c
            refine b_iconst (v := (nI 1)) X dX0_hasPostIn_26 (by decide) ?_
            exact hret _ _ _ _ ⟨(Or.inr rfl), rfl, h⟩ dX0_hasPostIn_27
    rw [eY] at B2
    exact B2
  refine b_iconst (v := (nI 0)) X dX0_hasPostIn_0 (by decide) ?_
  refine b_istore_n (lv' := [(2, .int (nI 0)), (0, .ref (ad b0)), (1, .int a1)]) X dX0_hasPostIn_1 rfl (by decide) rfl ?_
  refine b_sub (lv' := [(0, .ref (ad b0)), (1, .int a1), (2, .int (nI 0))]) [1, 2, 0] rfl ?_
  exact B2 (nI 0) h
set_option maxHeartbeats 4000000 in
set_option maxRecDepth 100000 in
theorem c_X6_put (l : Launch) (D : va_G) (C : Nat → ClassId) (ad : Nat → Nat) (b0 : Nat) (h0 : sF.2.1 b0 = 8) (a1 : Int32) (a2 : Int32) (μ : Mem) (Q : Mem → Prop) (h : w_X6_put b0 a1 a2 μ Q) : Mv sF l yX6_put cX6_put 3 none rm_X6_put D C ad [.ref (ad b0), .int a1, .int a2] μ Q := by
  refine fm_v (by decide +kernel) sF_lt (Nat.le_of_ble_eq_true rfl) (fun K X hret => ?_)
  have X : CK sF D C ad K cX6_put 3 RX6 := X
  refine b_lv (lv' := [(0, .ref (ad b0)), (1, .int a1), (2, .int a2)]) rfl ?_
  unfold w_X6_put at h
  refine b_iload_n X dX6_put_0 rfl 1 rfl ?_
  refine b_if_lt (t := 14) X dX6_put_1 (by decide) (fun c => ?_) (fun c => ?_)
  · replace h := h.1 c
    exact hret _ _ _ h dX6_put_14
  · replace h := h.2 c
    refine b_iload_n X dX6_put_4 rfl 1 rfl ?_
    refine b_aload_n X dX6_put_5 rfl 0 rfl ?_
    refine b_alen X h0 rfl rfl dX6_put_6 ?_
    refine b_icmp_ge (t := 14) X dX6_put_7 (by decide) (fun c => ?_) (fun c => ?_)
    · replace h := h.1 c
      exact hret _ _ _ h dX6_put_14
    · replace h := h.2 c
      refine b_aload_n X dX6_put_10 rfl 0 rfl ?_
      refine b_iload_n X dX6_put_11 rfl 1 rfl ?_
      refine b_iload_n X dX6_put_12 rfl 2 rfl ?_
      have hz := h.1
      replace h := h.2
      refine b_iast X h0 rfl hz dX6_put_13 (fun μ1 eμ1 => ?_)
      clear hz
      replace h := h μ1 eμ1
      exact hret _ _ _ h dX6_put_14
set_option maxHeartbeats 4000000 in
set_option maxRecDepth 100000 in
theorem c_X1_note (l : Launch) (D : va_G) (C : Nat → ClassId) (ad : Nat → Nat) (b0 : Nat) (h0 : sF.2.1 b0 = 1) (a1 : Int32) (a2 : Int32) (a3 : Int32) (μ : Mem) (Q : Int32 → Mem → Prop) (h : w_X1_note b0 a1 a2 a3 μ Q) : Mi sF l yX1_note cX1_note 4 (some .int) rm_X1_note D C ad [.ref (ad b0), .int a1, .int a2, .int a3] μ Q := by
  refine fm_i (by decide +kernel) sF_lt (Nat.le_of_ble_eq_true rfl) (fun K X hret => ?_)
  have X : CK sF D C ad K cX1_note 4 RX1 := X
  refine b_lv (lv' := [(0, .ref (ad b0)), (1, .int a1), (2, .int a2), (3, .int a3)]) rfl ?_
  unfold w_X1_note at h
  refine b_aload_n X dX1_note_0 rfl 0 rfl ?_
  refine g_1_0 X h0 m_f_X1_19 dX1_note_1 ?_
  refine b_aload_n X dX1_note_4 rfl 0 rfl ?_
  refine g_1_3 X h0 m_f_X1_7 dX1_note_5 ?_
  refine b_iload_n X dX1_note_8 rfl 1 rfl ?_
  refine bNv (st := []) (host := "FogNets") (nA := 3) X (c_X6_put l D C ad (b0 + 1) (nt_k1 h0) (μ.1 b0 3) a1 μ _ h) nx_X1_29 m_s_X6_put m_n_X6 m_c_X6_put hd_X6_put ⟨Nat.zero_le _, Nat.zero_le _⟩ rfl rfl ⟨Nat.le_of_ble_eq_true rfl, Nat.le_of_ble_eq_true rfl⟩ rfl rfl (Nat.le_of_ble_eq_true rfl) dX1_note_9 (fun μ2 h => ?_)
  refine b_aload_n X dX1_note_12 rfl 0 rfl ?_
  refine g_1_1 X h0 m_f_X1_23 dX1_note_13 ?_
  refine b_aload_n X dX1_note_16 rfl 0 rfl ?_
  refine g_1_3 X h0 m_f_X1_7 dX1_note_17 ?_
  refine b_iload_n X dX1_note_20 rfl 2 rfl ?_
  refine bNv (st := []) (host := "FogNets") (nA := 3) X (c_X6_put l D C ad (b0 + 2) (nt_k2 h0) (μ2.1 b0 3) a2 μ2 _ h) nx_X1_29 m_s_X6_put m_n_X6 m_c_X6_put hd_X6_put ⟨Nat.zero_le _, Nat.zero_le _⟩ rfl rfl ⟨Nat.le_of_ble_eq_true rfl, Nat.le_of_ble_eq_true rfl⟩ rfl rfl (Nat.le_of_ble_eq_true rfl) dX1_note_21 (fun μ4 h => ?_)
  refine b_aload_n X dX1_note_24 rfl 0 rfl ?_
  refine g_1_2 X h0 m_f_X1_26 dX1_note_25 ?_
  refine b_aload_n X dX1_note_28 rfl 0 rfl ?_
  refine g_1_3 X h0 m_f_X1_7 dX1_note_29 ?_
  refine b_iload_n X dX1_note_32 rfl 3 rfl ?_
  refine bNv (st := []) (host := "FogNets") (nA := 3) X (c_X6_put l D C ad (b0 + 3) (nt_k3 h0) (μ4.1 b0 3) a3 μ4 _ h) nx_X1_29 m_s_X6_put m_n_X6 m_c_X6_put hd_X6_put ⟨Nat.zero_le _, Nat.zero_le _⟩ rfl rfl ⟨Nat.le_of_ble_eq_true rfl, Nat.le_of_ble_eq_true rfl⟩ rfl rfl (Nat.le_of_ble_eq_true rfl) dX1_note_33 (fun μ6 h => ?_)
  refine b_aload_n X dX1_note_36 rfl 0 rfl ?_
  refine b_dup X dX1_note_37 rfl ?_
  refine g_1_3 X h0 m_f_X1_7 dX1_note_38 ?_
  refine b_iconst (v := (nI 1)) X dX1_note_41 (by decide) ?_
  refine b_iadd X dX1_note_42 ?_
  refine p_1_3 X h0 m_f_X1_7 dX1_note_43 (fun μ7 eμ7 => ?_)
  replace h := h μ7 eμ7
  refine b_aload_n X dX1_note_46 rfl 0 rfl ?_
  refine g_1_3 X h0 m_f_X1_7 dX1_note_47 ?_
  exact hret _ _ _ _ h dX1_note_50
set_option maxHeartbeats 4000000 in
set_option maxRecDepth 100000 in
theorem c_X2_stateAt (l : Launch) (D : va_G) (C : Nat → ClassId) (ad : Nat → Nat) (a1 : Int32) (μ : Mem) (Q : Option Nat → Prop) (h : w_X2_stateAt a1 μ Q) : Mq sF l yX2_stateAt cX2_stateAt 3 (some (.object RX4)) rm_X2_stateAt D C ad [.ref (ad 41), .int a1] μ (fun r μ' => μ = μ' ∧ Q r) := by
  refine fm_q (by decide +kernel) sF_lt (Nat.le_of_ble_eq_true rfl) (fun K X hret => ?_)
  have X : CK sF D C ad K cX2_stateAt 3 RX2 := X
  refine b_lv (lv' := [(0, .ref (ad 41)), (1, .int a1)]) rfl ?_
  unfold w_X2_stateAt at h
  refine b_aload_n X dX2_stateAt_0 rfl 0 rfl ?_
  refine g_2_1 X kF_41 m_f_X2_17 dX2_stateAt_1 ?_
  refine b_iload_n X dX2_stateAt_4 rfl 1 rfl ?_
  refine b_iadd X dX2_stateAt_5 ?_
  refine b_bipush (v := (nI 30)) X dX2_stateAt_6 (by decide) ?_
  have hz := h.1
  replace h := h.2
  refine b_irem X dX2_stateAt_8 hz ?_
  clear hz
  refine b_topi (fun x1 ex1 => ?_)
  replace h := h x1 ex1
  refine b_istore_n (lv' := [(2, .int x1), (0, .ref (ad 41)), (1, .int a1)]) X dX2_stateAt_9 rfl (by decide) rfl ?_
  refine b_iload_n X dX2_stateAt_10 rfl 2 rfl ?_
  refine b_if_lt (t := 33) X dX2_stateAt_11 (by decide) (fun c => ?_) (fun c => ?_)
  · replace h := h.1 c
    refine b_null X dX2_stateAt_33 ?_
    exact hret none _ _ _ ⟨rfl, h⟩ dX2_stateAt_34
  · replace h := h.2 c
    refine b_iload_n X dX2_stateAt_14 rfl 0 rfl ?_
    refine b_if_lt (t := 33) X dX2_stateAt_15 (by decide) (fun c => ?_) (fun c => ?_)
    · replace h := h.1 c
      refine b_null X dX2_stateAt_33 ?_
      exact hret none _ _ _ ⟨rfl, h⟩ dX2_stateAt_34
    · replace h := h.2 c
      refine b_iload_n X dX2_stateAt_18 rfl 0 rfl ?_
      refine b_bipush (v := (nI 30)) X dX2_stateAt_19 (by decide) ?_
      refine b_icmp_ge (t := 33) X dX2_stateAt_21 (by decide) (fun c => ?_) (fun c => ?_)
      · replace h := h.1 c
        refine b_null X dX2_stateAt_33 ?_
        exact hret none _ _ _ ⟨rfl, h⟩ dX2_stateAt_34
      · replace h := h.2 c
        refine b_aload_n X dX2_stateAt_24 rfl 1 rfl ?_
        refine g_2_0 X kF_41 m_f_X2_11 dX2_stateAt_25 ?_
        refine b_iload_n X dX2_stateAt_28 rfl 0 rfl ?_
        have hz := h.1
        replace h := h.2
        refine b_aald11 X kF_42 nF_42 hz dX2_stateAt_29 ?_
        clear hz
        have hk2 := h.1
        replace h := h.2
        refine b_goto (t := 34) X dX2_stateAt_30 (by decide) ?_
        exact hret (some (43 + 6 * (x1).toNatClampNeg)) _ _ _ ⟨rfl, h⟩ dX2_stateAt_34
set_option maxHeartbeats 4000000 in
set_option maxRecDepth 100000 in
theorem c_X4_become (l : Launch) (D : va_G) (C : Nat → ClassId) (ad : Nat → Nat) (b0 : Nat) (h0 : sF.2.1 b0 = 4) (b1 : Nat) (h1 : sF.2.1 b1 = 4) (μ : Mem) (Q : Mem → Prop) (h : w_X4_become b0 b1 μ Q) : Mv sF l yX4_become cX4_become 2 none rm_X4_become D C ad [.ref (ad b0), .ref (ad b1)] μ Q := by
  refine fm_v (by decide +kernel) sF_lt (Nat.le_of_ble_eq_true rfl) (fun K X hret => ?_)
  have X : CK sF D C ad K cX4_become 2 RX4 := X
  refine b_lv (lv' := [(0, .ref (ad b0)), (1, .ref (ad b1))]) rfl ?_
  unfold w_X4_become at h
  refine b_aload_n X dX4_become_0 rfl 0 rfl ?_
  refine b_aload_n X dX4_become_1 rfl 1 rfl ?_
  refine g_4_0 X h1 m_f_X4_9 dX4_become_2 ?_
  refine p_4_0 X h0 m_f_X4_9 dX4_become_5 (fun μ1 eμ1 => ?_)
  replace h := h μ1 eμ1
  refine b_aload_n X dX4_become_8 rfl 0 rfl ?_
  refine b_aload_n X dX4_become_9 rfl 1 rfl ?_
  refine g_4_1 X h1 m_f_X4_15 dX4_become_10 ?_
  refine p_4_1 X h0 m_f_X4_15 dX4_become_13 (fun μ2 eμ2 => ?_)
  replace h := h μ2 eμ2
  refine b_aload_n X dX4_become_16 rfl 0 rfl ?_
  refine b_aload_n X dX4_become_17 rfl 1 rfl ?_
  refine g_4_2 X h1 m_f_X4_18 dX4_become_18 ?_
  have hz := h.1
  replace h := h.2
  refine p_4_2 X h0 hz m_f_X4_18 dX4_become_21 (fun μ3 eμ3 => ?_)
  replace h := h μ3 eμ3
  refine b_aload_n X dX4_become_24 rfl 0 rfl ?_
  refine b_aload_n X dX4_become_25 rfl 1 rfl ?_
  refine g_4_3 X h1 m_f_X4_22 dX4_become_26 ?_
  refine p_4_3 X h0 m_f_X4_22 dX4_become_29 (fun μ4 eμ4 => ?_)
  replace h := h μ4 eμ4
  refine b_aload_n X dX4_become_32 rfl 0 rfl ?_
  refine b_aload_n X dX4_become_33 rfl 1 rfl ?_
  refine g_4_4 X h1 m_f_X4_25 dX4_become_34 ?_
  refine p_4_4 X h0 m_f_X4_25 dX4_become_37 (fun μ5 eμ5 => ?_)
  replace h := h μ5 eμ5
  refine b_aload_n X dX4_become_40 rfl 1 rfl ?_
  refine g_4_5 X h1 m_f_X4_28 dX4_become_41 ?_
  refine b_iconst (v := (nI 0)) X dX4_become_44 (by decide) ?_
  refine b_aload_n X dX4_become_45 rfl 0 rfl ?_
  refine g_4_5 X h0 m_f_X4_28 dX4_become_46 ?_
  refine b_iconst (v := (nI 0)) X dX4_become_49 (by decide) ?_
  refine b_bipush (v := (nI 6)) X dX4_become_50 (by decide) ?_
  refine b_st (st' := [.int (nI 6), .int 0, .ref (ad (b0 + 1)), .int 0, .ref (ad (b1 + 1))]) rfl ?_
  refine b_copy (N := 6) X (st_k1 h1) (st_k1 h0) (st_n1 h1) (st_n1 h0) (by decide) (by decide) m_m_X4_52 m_v_arraycopyName m_s_arraycopyName m_n_J10 (Nat.le_of_ble_eq_true rfl) (by decide) dX4_become_52 (fun μ6 eμ6 => ?_)
  replace h := h μ6 eμ6
  refine b_aload_n X dX4_become_55 rfl 1 rfl ?_
  refine g_4_6 X h1 m_f_X4_32 dX4_become_56 ?_
  refine b_iconst (v := (nI 0)) X dX4_become_59 (by decide) ?_
  refine b_aload_n X dX4_become_60 rfl 0 rfl ?_
  refine g_4_6 X h0 m_f_X4_32 dX4_become_61 ?_
  refine b_iconst (v := (nI 0)) X dX4_become_64 (by decide) ?_
  refine b_bipush (v := (nI 6)) X dX4_become_65 (by decide) ?_
  refine b_st (st' := [.int (nI 6), .int 0, .ref (ad (b0 + 2)), .int 0, .ref (ad (b1 + 2))]) rfl ?_
  refine b_copy (N := 6) X (st_k2 h1) (st_k2 h0) (st_n2 h1) (st_n2 h0) (by decide) (by decide) m_m_X4_52 m_v_arraycopyName m_s_arraycopyName m_n_J10 (Nat.le_of_ble_eq_true rfl) (by decide) dX4_become_67 (fun μ7 eμ7 => ?_)
  replace h := h μ7 eμ7
  refine b_aload_n X dX4_become_70 rfl 1 rfl ?_
  refine g_4_7 X h1 m_f_X4_35 dX4_become_71 ?_
  refine b_iconst (v := (nI 0)) X dX4_become_74 (by decide) ?_
  refine b_aload_n X dX4_become_75 rfl 0 rfl ?_
  refine g_4_7 X h0 m_f_X4_35 dX4_become_76 ?_
  refine b_iconst (v := (nI 0)) X dX4_become_79 (by decide) ?_
  refine b_bipush (v := (nI 6)) X dX4_become_80 (by decide) ?_
  refine b_st (st' := [.int (nI 6), .int 0, .ref (ad (b0 + 3)), .int 0, .ref (ad (b1 + 3))]) rfl ?_
  refine b_copy (N := 6) X (st_k3 h1) (st_k3 h0) (st_n3 h1) (st_n3 h0) (by decide) (by decide) m_m_X4_52 m_v_arraycopyName m_s_arraycopyName m_n_J10 (Nat.le_of_ble_eq_true rfl) (by decide) dX4_become_82 (fun μ8 eμ8 => ?_)
  replace h := h μ8 eμ8
  refine b_aload_n X dX4_become_85 rfl 1 rfl ?_
  refine g_4_8 X h1 m_f_X4_38 dX4_become_86 ?_
  refine b_iconst (v := (nI 0)) X dX4_become_89 (by decide) ?_
  refine b_aload_n X dX4_become_90 rfl 0 rfl ?_
  refine g_4_8 X h0 m_f_X4_38 dX4_become_91 ?_
  refine b_iconst (v := (nI 0)) X dX4_become_94 (by decide) ?_
  refine b_iconst (v := (nI 2)) X dX4_become_95 (by decide) ?_
  refine b_st (st' := [.int (nI 2), .int 0, .ref (ad (b0 + 4)), .int 0, .ref (ad (b1 + 4))]) rfl ?_
  refine b_copy (N := 2) X (st_k4 h1) (st_k4 h0) (st_n4 h1) (st_n4 h0) (by decide) (by decide) m_m_X4_52 m_v_arraycopyName m_s_arraycopyName m_n_J10 (Nat.le_of_ble_eq_true rfl) (by decide) dX4_become_96 (fun μ9 eμ9 => ?_)
  replace h := h μ9 eμ9
  refine b_aload_n X dX4_become_99 rfl 1 rfl ?_
  refine g_4_9 X h1 m_f_X4_41 dX4_become_100 ?_
  refine b_iconst (v := (nI 0)) X dX4_become_103 (by decide) ?_
  refine b_aload_n X dX4_become_104 rfl 0 rfl ?_
  refine g_4_9 X h0 m_f_X4_41 dX4_become_105 ?_
  refine b_iconst (v := (nI 0)) X dX4_become_108 (by decide) ?_
  refine b_iconst (v := (nI 2)) X dX4_become_109 (by decide) ?_
  refine b_st (st' := [.int (nI 2), .int 0, .ref (ad (b0 + 5)), .int 0, .ref (ad (b1 + 5))]) rfl ?_
  refine b_copy (N := 2) X (st_k5 h1) (st_k5 h0) (st_n5 h1) (st_n5 h0) (by decide) (by decide) m_m_X4_52 m_v_arraycopyName m_s_arraycopyName m_n_J10 (Nat.le_of_ble_eq_true rfl) (by decide) dX4_become_110 (fun μ10 eμ10 => ?_)
  replace h := h μ10 eμ10
  exact hret _ _ _ h dX4_become_113
set_option maxHeartbeats 4000000 in
set_option maxRecDepth 100000 in
theorem c_X2_remember (l : Launch) (D : va_G) (C : Nat → ClassId) (ad : Nat → Nat) (b1 : Nat) (h1 : sF.2.1 b1 = 4) (μ : Mem) (Q : Mem → Prop) (h : w_X2_remember b1 μ Q) : Mv sF l yX2_remember cX2_remember 3 none rm_X2_remember D C ad [.ref (ad 41), .ref (ad b1)] μ Q := by
  refine fm_v (by decide +kernel) sF_lt (Nat.le_of_ble_eq_true rfl) (fun K X hret => ?_)
  have X : CK sF D C ad K cX2_remember 3 RX2 := X
  refine b_lv (lv' := [(0, .ref (ad 41)), (1, .ref (ad b1))]) rfl ?_
  unfold w_X2_remember at h
  have B35 : ∀ (μ : Mem), w_X2_remember_35 b1 μ Q → WB sF l D C ad rm_X2_remember K 3 μ 35 [(0, .ref (ad 41)), (1, .ref (ad b1))] [] := by
    intro μ h
    unfold w_X2_remember_35 at h
    refine b_aload_n X dX2_remember_35 rfl 0 rfl ?_
    refine b_aload_n X dX2_remember_36 rfl 0 rfl ?_
    refine g_2_2 X kF_41 m_f_X2_21 dX2_remember_37 ?_
    refine b_iconst (v := (nI 1)) X dX2_remember_40 (by decide) ?_
    refine b_isub X dX2_remember_41 ?_
    refine bVq (st := []) (nA := 1) X (c_X2_stateAt l D C ad ((μ.1 41 2) - (nI 1)) μ _ h) kF_41 (by decide) (enc_2 kF_41) rfl gw_X2_25 ⟨rfl, hd_X2_stateAt⟩ ⟨Nat.zero_le _, Nat.zero_le _⟩ rfl rfl ⟨Nat.le_of_ble_eq_true rfl, Nat.le_of_ble_eq_true rfl⟩ rfl rfl (Nat.le_of_ble_eq_true rfl) dX2_remember_42 (fun r4 μ5 h => ?_)
    obtain ⟨rfl, h⟩ := h
    rcases r4 with _ | b6
    · replace h := h.1 rfl
      refine b_st (st' := [.null]) rfl ?_
      refine b_astoreN_n (lv' := [(2, .null), (0, .ref (ad 41)), (1, .ref (ad b1))]) X dX2_remember_45 rfl (by decide) rfl ?_
      refine b_aloadN_n X dX2_remember_46 rfl 0 rfl ?_
      refine b_ifnullN (t := 55) X dX2_remember_47 (by decide) ?_
      exact hret _ _ _ h dX2_remember_55
    · replace h := h.2 b6 rfl
      have hk_b6 := h.1
      replace h := h.2
      refine b_st (st' := [.ref (ad b6)]) rfl ?_
      refine b_astore_n (lv' := [(2, .ref (ad b6)), (0, .ref (ad 41)), (1, .ref (ad b1))]) X dX2_remember_45 rfl (by decide) rfl ?_
      refine b_aload_n X dX2_remember_46 rfl 0 rfl ?_
      refine b_ifnull1 X dX2_remember_47 ?_
      refine b_aload_n X dX2_remember_50 rfl 0 rfl ?_
      refine b_aload_n X dX2_remember_51 rfl 2 rfl ?_
      refine bVv (st := []) (nA := 1) X (c_X4_become l D C ad b6 hk_b6 b1 h1 μ _ h) hk_b6 (by decide) (enc_4 hk_b6) rfl gw_X2_29 ⟨rfl, hd_X4_become⟩ ⟨Nat.zero_le _, Nat.zero_le _⟩ rfl rfl ⟨Nat.le_of_ble_eq_true rfl, Nat.le_of_ble_eq_true rfl⟩ rfl rfl (Nat.le_of_ble_eq_true rfl) dX2_remember_52 (fun μ8 h => ?_)
      exact hret _ _ _ h dX2_remember_55
  refine b_aload_n X dX2_remember_0 rfl 0 rfl ?_
  refine g_2_2 X kF_41 m_f_X2_21 dX2_remember_1 ?_
  refine b_bipush (v := (nI 30)) X dX2_remember_4 (by decide) ?_
  refine b_icmp_ge (t := 22) X dX2_remember_6 (by decide) (fun c => ?_) (fun c => ?_)
  · replace h := h.1 c
    refine b_aload_n X dX2_remember_22 rfl 0 rfl ?_
    refine b_aload_n X dX2_remember_23 rfl 0 rfl ?_
    refine g_2_1 X kF_41 m_f_X2_17 dX2_remember_24 ?_
    refine b_iconst (v := (nI 1)) X dX2_remember_27 (by decide) ?_
    refine b_iadd X dX2_remember_28 ?_
    refine b_bipush (v := (nI 30)) X dX2_remember_29 (by decide) ?_
    have hz := h.1
    replace h := h.2
    refine b_irem X dX2_remember_31 hz ?_
    clear hz
    refine b_topi (fun x1 ex1 => ?_)
    replace h := h x1 ex1
    refine p_2_1 X kF_41 m_f_X2_17 dX2_remember_32 (fun μ2 eμ2 => ?_)
    replace h := h μ2 eμ2
    refine b_sub (lv' := [(0, .ref (ad 41)), (1, .ref (ad b1))]) [0, 1] rfl ?_
    exact B35 μ2 h
  · replace h := h.2 c
    refine b_aload_n X dX2_remember_9 rfl 0 rfl ?_
    refine b_dup X dX2_remember_10 rfl ?_
    refine g_2_2 X kF_41 m_f_X2_21 dX2_remember_11 ?_
    refine b_iconst (v := (nI 1)) X dX2_remember_14 (by decide) ?_
    refine b_iadd X dX2_remember_15 ?_
    refine p_2_2 X kF_41 m_f_X2_21 dX2_remember_16 (fun μ3 eμ3 => ?_)
    replace h := h μ3 eμ3
    refine b_goto (t := 35) X dX2_remember_19 (by decide) ?_
    refine b_sub (lv' := [(0, .ref (ad 41)), (1, .ref (ad b1))]) [0, 1] rfl ?_
    exact B35 μ3 h
set_option maxHeartbeats 4000000 in
set_option maxRecDepth 100000 in
theorem c_X2_takeBack (l : Launch) (D : va_G) (C : Nat → ClassId) (ad : Nat → Nat) (b1 : Nat) (h1 : sF.2.1 b1 = 4) (a2 : Int32) (μ : Mem) (Q : Mem → Prop) (h : w_X2_takeBack b1 a2 μ Q) : Mv sF l yX2_takeBack cX2_takeBack 4 none rm_X2_takeBack D C ad [.ref (ad 41), .ref (ad b1), .int a2] μ Q := by
  refine fm_v (by decide +kernel) sF_lt (Nat.le_of_ble_eq_true rfl) (fun K X hret => ?_)
  have X : CK sF D C ad K cX2_takeBack 4 RX2 := X
  refine b_lv (lv' := [(0, .ref (ad 41)), (1, .ref (ad b1)), (2, .int a2)]) rfl ?_
  unfold w_X2_takeBack at h
  refine b_aload_n X dX2_takeBack_0 rfl 0 rfl ?_
  refine b_aload_n X dX2_takeBack_1 rfl 0 rfl ?_
  refine g_2_2 X kF_41 m_f_X2_21 dX2_takeBack_2 ?_
  refine b_iload_n X dX2_takeBack_5 rfl 2 rfl ?_
  refine b_isub X dX2_takeBack_6 ?_
  refine bVq (st := []) (nA := 1) X (c_X2_stateAt l D C ad ((μ.1 41 2) - a2) μ _ h) kF_41 (by decide) (enc_2 kF_41) rfl gw_X2_25 ⟨rfl, hd_X2_stateAt⟩ ⟨Nat.zero_le _, Nat.zero_le _⟩ rfl rfl ⟨Nat.le_of_ble_eq_true rfl, Nat.le_of_ble_eq_true rfl⟩ rfl rfl (Nat.le_of_ble_eq_true rfl) dX2_takeBack_7 (fun r1 μ2 h => ?_)
  obtain ⟨rfl, h⟩ := h
  rcases r1 with _ | b3
  · replace h := h.1 rfl
    refine b_st (st' := [.null]) rfl ?_
    refine b_astoreN_n (lv' := [(3, .null), (0, .ref (ad 41)), (1, .ref (ad b1)), (2, .int a2)]) X dX2_takeBack_10 rfl (by decide) rfl ?_
    refine b_aloadN_n X dX2_takeBack_11 rfl 0 rfl ?_
    refine b_ifnonnullN X dX2_takeBack_12 ?_
    exact hret _ _ _ h dX2_takeBack_15
  · replace h := h.2 b3 rfl
    have hk_b3 := h.1
    replace h := h.2
    refine b_st (st' := [.ref (ad b3)]) rfl ?_
    refine b_astore_n (lv' := [(3, .ref (ad b3)), (0, .ref (ad 41)), (1, .ref (ad b1)), (2, .int a2)]) X dX2_takeBack_10 rfl (by decide) rfl ?_
    refine b_aload_n X dX2_takeBack_11 rfl 0 rfl ?_
    refine b_ifnonnull1 (t := 16) X dX2_takeBack_12 (by decide) ?_
    refine b_aload_n X dX2_takeBack_16 rfl 2 rfl ?_
    refine b_aload_n X dX2_takeBack_17 rfl 0 rfl ?_
    refine bVv (st := []) (nA := 1) X (c_X4_become l D C ad b1 h1 b3 hk_b3 μ _ h) h1 (by decide) (enc_4 h1) rfl gw_X2_29 ⟨rfl, hd_X4_become⟩ ⟨Nat.zero_le _, Nat.zero_le _⟩ rfl rfl ⟨Nat.le_of_ble_eq_true rfl, Nat.le_of_ble_eq_true rfl⟩ rfl rfl (Nat.le_of_ble_eq_true rfl) dX2_takeBack_18 (fun μ5 h => ?_)
    refine b_aload_n X dX2_takeBack_21 rfl 1 rfl ?_
    refine b_dup X dX2_takeBack_22 rfl ?_
    refine g_2_2 X kF_41 m_f_X2_21 dX2_takeBack_23 ?_
    refine b_iload_n X dX2_takeBack_26 rfl 3 rfl ?_
    refine b_isub X dX2_takeBack_27 ?_
    refine p_2_2 X kF_41 m_f_X2_21 dX2_takeBack_28 (fun μ6 eμ6 => ?_)
    replace h := h μ6 eμ6
    exact hret _ _ _ h dX2_takeBack_31
set_option maxHeartbeats 4000000 in
set_option maxRecDepth 100000 in
theorem c_X3_append (l : Launch) (D : va_G) (C : Nat → ClassId) (ad : Nat → Nat) (a1 : Int32) (μ : Mem) (Q : Int32 → Mem → Prop) (h : w_X3_append a1 μ Q) : Mi sF l yX3_append cX3_append 2 (some .int) rm_X3_append D C ad [.ref (ad 1), .int a1] μ Q := by
  refine fm_i (by decide +kernel) sF_lt (Nat.le_of_ble_eq_true rfl) (fun K X hret => ?_)
  have X : CK sF D C ad K cX3_append 2 RX3 := X
  refine b_lv (lv' := [(0, .ref (ad 1)), (1, .int a1)]) rfl ?_
  unfold w_X3_append at h
  refine b_aload_n X dX3_append_0 rfl 0 rfl ?_
  refine g_3_0 X kF_1 m_f_X3_9 dX3_append_1 ?_
  refine b_aload_n X dX3_append_4 rfl 0 rfl ?_
  refine g_3_1 X kF_1 m_f_X3_15 dX3_append_5 ?_
  refine b_iload_n X dX3_append_8 rfl 1 rfl ?_
  refine bNv (st := []) (host := "FogNets") (nA := 3) X (c_X6_put l D C ad 2 kF_2 (μ.1 1 1) a1 μ _ h) nx_X3_38 m_s_X6_put m_n_X6 m_c_X6_put hd_X6_put ⟨Nat.zero_le _, Nat.zero_le _⟩ rfl rfl ⟨Nat.le_of_ble_eq_true rfl, Nat.le_of_ble_eq_true rfl⟩ rfl rfl (Nat.le_of_ble_eq_true rfl) dX3_append_9 (fun μ2 h => ?_)
  refine b_aload_n X dX3_append_12 rfl 0 rfl ?_
  refine b_dup X dX3_append_13 rfl ?_
  refine g_3_1 X kF_1 m_f_X3_15 dX3_append_14 ?_
  refine b_iconst (v := (nI 1)) X dX3_append_17 (by decide) ?_
  refine b_iadd X dX3_append_18 ?_
  refine p_3_1 X kF_1 m_f_X3_15 dX3_append_19 (fun μ3 eμ3 => ?_)
  replace h := h μ3 eμ3
  refine b_aload_n X dX3_append_22 rfl 0 rfl ?_
  refine g_3_1 X kF_1 m_f_X3_15 dX3_append_23 ?_
  exact hret _ _ _ _ h dX3_append_26
set_option maxHeartbeats 4000000 in
set_option maxRecDepth 100000 in
theorem c_X3_letterAt (l : Launch) (D : va_G) (C : Nat → ClassId) (ad : Nat → Nat) (a1 : Int32) (μ : Mem) (Q : Int32 → Prop) (h : w_X3_letterAt a1 μ Q) : Mi sF l yX3_letterAt cX3_letterAt 2 (some .int) rm_X3_letterAt D C ad [.ref (ad 1), .int a1] μ (fun r μ' => μ = μ' ∧ Q r) := by
  refine fm_i (by decide +kernel) sF_lt (Nat.le_of_ble_eq_true rfl) (fun K X hret => ?_)
  have X : CK sF D C ad K cX3_letterAt 2 RX3 := X
  refine b_lv (lv' := [(0, .ref (ad 1)), (1, .int a1)]) rfl ?_
  unfold w_X3_letterAt at h
  refine b_iload_n X dX3_letterAt_0 rfl 1 rfl ?_
  refine b_if_lt (t := 28) X dX3_letterAt_1 (by decide) (fun c => ?_) (fun c => ?_)
  · replace h := h.1 c
    refine b_iconst (v := ((-1) : Int32)) X dX3_letterAt_28 (by decide) ?_
    exact hret _ _ _ _ ⟨rfl, h⟩ dX3_letterAt_29
  · replace h := h.2 c
    refine b_iload_n X dX3_letterAt_4 rfl 1 rfl ?_
    refine b_aload_n X dX3_letterAt_5 rfl 0 rfl ?_
    refine g_3_1 X kF_1 m_f_X3_15 dX3_letterAt_6 ?_
    refine b_icmp_ge (t := 28) X dX3_letterAt_9 (by decide) (fun c => ?_) (fun c => ?_)
    · replace h := h.1 c
      refine b_iconst (v := ((-1) : Int32)) X dX3_letterAt_28 (by decide) ?_
      exact hret _ _ _ _ ⟨rfl, h⟩ dX3_letterAt_29
    · replace h := h.2 c
      refine b_iload_n X dX3_letterAt_12 rfl 1 rfl ?_
      refine b_sipush (v := (nI 240)) X dX3_letterAt_13 (by decide) ?_
      refine b_icmp_ge (t := 28) X dX3_letterAt_16 (by decide) (fun c => ?_) (fun c => ?_)
      · replace h := h.1 c
        refine b_iconst (v := ((-1) : Int32)) X dX3_letterAt_28 (by decide) ?_
        exact hret _ _ _ _ ⟨rfl, h⟩ dX3_letterAt_29
      · replace h := h.2 c
        refine b_aload_n X dX3_letterAt_19 rfl 0 rfl ?_
        refine g_3_0 X kF_1 m_f_X3_9 dX3_letterAt_20 ?_
        refine b_iload_n X dX3_letterAt_23 rfl 1 rfl ?_
        have hz := h.1
        replace h := h.2
        refine b_iald X kF_2 nF_2 hz dX3_letterAt_24 ?_
        clear hz
        refine b_goto (t := 29) X dX3_letterAt_25 (by decide) ?_
        exact hret _ _ _ _ ⟨rfl, h⟩ dX3_letterAt_29
set_option maxHeartbeats 4000000 in
set_option maxRecDepth 100000 in
theorem c_X3_nextLetter (l : Launch) (D : va_G) (C : Nat → ClassId) (ad : Nat → Nat)  (μ : Mem) (Q : Int32 → Mem → Prop) (h : w_X3_nextLetter  μ Q) : Mi sF l yX3_nextLetter cX3_nextLetter 1 (some .int) rm_X3_nextLetter D C ad [.ref (ad 1)] μ Q := by
  refine fm_i (by decide +kernel) sF_lt (Nat.le_of_ble_eq_true rfl) (fun K X hret => ?_)
  have X : CK sF D C ad K cX3_nextLetter 1 RX3 := X
  refine b_lv (lv' := [(0, .ref (ad 1))]) rfl ?_
  unfold w_X3_nextLetter at h
  have B0 : ∀ (μ : Mem), w_X3_nextLetter_0 μ Q → WB sF l D C ad rm_X3_nextLetter K 1 μ 0 [(0, .ref (ad 1))] [] := by
    intro μ h
    obtain ⟨Y0, eY⟩ : ∃ Y : Mem → Prop, Y = fun (μ : Mem) => WB sF l D C ad rm_X3_nextLetter K 1 μ 0 [(0, .ref (ad 1))] [] := ⟨_, rfl⟩
    have B0 : Y0 μ := by
      unfold w_X3_nextLetter_0 at h
      refine h Y0 ?_
      clear h
      intro μ h
      unfold s_X3_nextLetter_0 at h
      rw [eY]
      show WB sF l D C ad rm_X3_nextLetter K 1 μ 0 [(0, .ref (ad 1))] []
      have T0 : ∀ (μ : Mem), Y0 μ → WB sF l D C ad rm_X3_nextLetter K 1 μ 0 [(0, .ref (ad 1))] [] := by
        intro μ h
        rw [eY] at h
        exact h
      clear eY
      have B37 : ∀ (μ : Mem), w_X3_nextLetter_37 μ Q → WB sF l D C ad rm_X3_nextLetter K 1 μ 37 [(0, .ref (ad 1))] [] := by
        intro μ h
        unfold w_X3_nextLetter_37 at h
        refine b_aload_n X dX3_nextLetter_37 rfl 0 rfl ?_
        refine b_aload_n X dX3_nextLetter_38 rfl 0 rfl ?_
        refine g_3_2 X kF_1 m_f_X3_19 dX3_nextLetter_39 ?_
        refine bVi (st := []) (nA := 1) X (c_X3_letterAt l D C ad (μ.1 1 2) μ _ h) kF_1 (by decide) (enc_3 kF_1) rfl gw_X3_55 ⟨rfl, hd_X3_letterAt⟩ ⟨Nat.zero_le _, Nat.zero_le _⟩ rfl rfl ⟨Nat.le_of_ble_eq_true rfl, Nat.le_of_ble_eq_true rfl⟩ rfl rfl (Nat.le_of_ble_eq_true rfl) dX3_nextLetter_42 (fun r4 μ5 h => ?_)
        obtain ⟨rfl, h⟩ := h
        exact hret _ _ _ _ h dX3_nextLetter_45
      refine b_aload_n X dX3_nextLetter_0 rfl 0 rfl ?_
      refine g_3_2 X kF_1 m_f_X3_19 dX3_nextLetter_1 ?_
      refine b_aload_n X dX3_nextLetter_4 rfl 0 rfl ?_
      refine g_3_1 X kF_1 m_f_X3_15 dX3_nextLetter_5 ?_
      refine b_icmp_ge (t := 37) X dX3_nextLetter_8 (by decide) (fun c => ?_) (fun c => ?_)
      · replace h := h.1 c
        refine b_sub (lv' := [(0, .ref (ad 1))]) [0] rfl ?_
        exact B37 μ h
      · replace h := h.2 c
        refine b_aload_n X dX3_nextLetter_11 rfl 0 rfl ?_
        refine b_aload_n X dX3_nextLetter_12 rfl 0 rfl ?_
        refine g_3_2 X kF_1 m_f_X3_19 dX3_nextLetter_13 ?_
        refine bVi (st := []) (nA := 1) X (c_X3_letterAt l D C ad (μ.1 1 2) μ _ h) kF_1 (by decide) (enc_3 kF_1) rfl gw_X3_55 ⟨rfl, hd_X3_letterAt⟩ ⟨Nat.zero_le _, Nat.zero_le _⟩ rfl rfl ⟨Nat.le_of_ble_eq_true rfl, Nat.le_of_ble_eq_true rfl⟩ rfl rfl (Nat.le_of_ble_eq_true rfl) dX3_nextLetter_16 (fun r1 μ2 h => ?_)
        obtain ⟨rfl, h⟩ := h
        refine b_bipush (v := (nI 32)) X dX3_nextLetter_19 (by decide) ?_
        refine b_icmp_ne (t := 37) X dX3_nextLetter_21 (by decide) (fun c => ?_) (fun c => ?_)
        · replace h := h.1 c
          refine b_sub (lv' := [(0, .ref (ad 1))]) [0] rfl ?_
          exact B37 μ h
        · replace h := h.2 c
          refine b_aload_n X dX3_nextLetter_24 rfl 0 rfl ?_
          refine b_dup X dX3_nextLetter_25 rfl ?_
          refine g_3_2 X kF_1 m_f_X3_19 dX3_nextLetter_26 ?_
          refine b_iconst (v := (nI 1)) X dX3_nextLetter_29 (by decide) ?_
          refine b_iadd X dX3_nextLetter_30 ?_
          refine p_3_2 X kF_1 m_f_X3_19 dX3_nextLetter_31 (fun μ3 eμ3 => ?_)
          replace h := h μ3 eμ3
          refine b_goto (t := 0) X dX3_nextLetter_34 (by decide) ?_
          refine b_sub (lv' := [(0, .ref (ad 1))]) [0] rfl ?_
          exact T0 μ3 h
    rw [eY] at B0
    exact B0
  refine b_sub (lv' := [(0, .ref (ad 1))]) [0] rfl ?_
  exact B0 μ h
set_option maxHeartbeats 4000000 in
set_option maxRecDepth 100000 in
theorem c_X3_faultOfWord (l : Launch) (D : va_G) (C : Nat → ClassId) (ad : Nat → Nat) (b1 : Nat) (h1 : sF.2.1 b1 = 0) (a2 : Int32) (μ : Mem) (Q : Int32 → Prop) (h : w_X3_faultOfWord b1 a2 μ Q) : Mi sF l yX3_faultOfWord cX3_faultOfWord 3 (some .int) rm_X3_faultOfWord D C ad [.ref (ad 1), .ref (ad b1), .int a2] μ (fun r μ' => μ = μ' ∧ Q r) := by
  refine fm_i (by decide +kernel) sF_lt (Nat.le_of_ble_eq_true rfl) (fun K X hret => ?_)
  have X : CK sF D C ad K cX3_faultOfWord 3 RX3 := X
  refine b_lv (lv' := [(0, .ref (ad 1)), (1, .ref (ad b1)), (2, .int a2)]) rfl ?_
  unfold w_X3_faultOfWord at h
  refine b_aload_n X dX3_faultOfWord_0 rfl 1 rfl ?_
  refine g_0_0 X h1 m_f_X3_90 dX3_faultOfWord_1 ?_
  refine b_if_ne (t := 19) X dX3_faultOfWord_4 (by decide) (fun c => ?_) (fun c => ?_)
  · replace h := h.1 c
    refine b_iload_n X dX3_faultOfWord_19 rfl 2 rfl ?_
    by_cases c0 : a2 = (nI 100)
    · replace h := h.1 c0
      refine b_tsIn (v := (nI 100)) (j := 100) (t := 140) X dX3_faultOfWord_20 c0 (by decide) (by decide) (by decide) rfl (by decide) ?_
      refine b_aload_n X dX3_faultOfWord_140 rfl 0 rfl ?_
      refine g_3_6 X kF_1 m_f_X3_31 dX3_faultOfWord_141 ?_
      refine b_if_eq (t := 151) X dX3_faultOfWord_144 (by decide) (fun c => ?_) (fun c => ?_)
      · replace h := h.1 c
        refine b_iconst (v := (nI 0)) X dX3_faultOfWord_151 (by decide) ?_
        exact hret _ _ _ _ ⟨rfl, h⟩ dX3_faultOfWord_152
      · replace h := h.2 c
        refine b_iconst (v := (nI 3)) X dX3_faultOfWord_147 (by decide) ?_
        refine b_goto (t := 152) X dX3_faultOfWord_148 (by decide) ?_
        exact hret _ _ _ _ ⟨rfl, h⟩ dX3_faultOfWord_152
    replace h := h.2 c0
    by_cases c1 : a2 = (nI 101)
    · replace h := h.1 c1
      refine b_tsIn (v := (nI 101)) (j := 101) (t := 180) X dX3_faultOfWord_20 c1 (by decide) (by decide) (by decide) rfl (by decide) ?_
      refine b_iconst (v := (nI 1)) X dX3_faultOfWord_180 (by decide) ?_
      exact hret _ _ _ _ ⟨rfl, h⟩ dX3_faultOfWord_181
    replace h := h.2 c1
    by_cases c2 : a2 = (nI 102)
    · replace h := h.1 c2
      refine b_tsIn (v := (nI 102)) (j := 102) (t := 108) X dX3_faultOfWord_20 c2 (by decide) (by decide) (by decide) rfl (by decide) ?_
      refine b_iconst (v := (nI 3)) X dX3_faultOfWord_108 (by decide) ?_
      exact hret _ _ _ _ ⟨rfl, h⟩ dX3_faultOfWord_109
    replace h := h.2 c2
    by_cases c3 : a2 = (nI 103)
    · replace h := h.1 c3
      refine b_tsIn (v := (nI 103)) (j := 103) (t := 166) X dX3_faultOfWord_20 c3 (by decide) (by decide) (by decide) rfl (by decide) ?_
      refine b_aload_n X dX3_faultOfWord_166 rfl 1 rfl ?_
      refine g_0_4 X h1 m_f_X3_99 dX3_faultOfWord_167 ?_
      refine b_iconst (v := (nI 4)) X dX3_faultOfWord_170 (by decide) ?_
      refine b_icmp_ge (t := 178) X dX3_faultOfWord_171 (by decide) (fun c => ?_) (fun c => ?_)
      · replace h := h.1 c
        refine b_iconst (v := (nI 3)) X dX3_faultOfWord_178 (by decide) ?_
        exact hret _ _ _ _ ⟨rfl, h⟩ dX3_faultOfWord_179
      · replace h := h.2 c
        refine b_iconst (v := (nI 0)) X dX3_faultOfWord_174 (by decide) ?_
        refine b_goto (t := 179) X dX3_faultOfWord_175 (by decide) ?_
        exact hret _ _ _ _ ⟨rfl, h⟩ dX3_faultOfWord_179
    replace h := h.2 c3
    by_cases c4 : a2 = (nI 104)
    · replace h := h.1 c4
      refine b_tsIn (v := (nI 104)) (j := 104) (t := 110) X dX3_faultOfWord_20 c4 (by decide) (by decide) (by decide) rfl (by decide) ?_
      refine b_aload_n X dX3_faultOfWord_110 rfl 1 rfl ?_
      refine g_0_2 X h1 m_f_X3_93 dX3_faultOfWord_111 ?_
      refine b_bipush (v := (nI 12)) X dX3_faultOfWord_114 (by decide) ?_
      refine b_icmp_ge (t := 123) X dX3_faultOfWord_116 (by decide) (fun c => ?_) (fun c => ?_)
      · replace h := h.1 c
        refine b_iconst (v := (nI 3)) X dX3_faultOfWord_123 (by decide) ?_
        exact hret _ _ _ _ ⟨rfl, h⟩ dX3_faultOfWord_124
      · replace h := h.2 c
        refine b_iconst (v := (nI 0)) X dX3_faultOfWord_119 (by decide) ?_
        refine b_goto (t := 124) X dX3_faultOfWord_120 (by decide) ?_
        exact hret _ _ _ _ ⟨rfl, h⟩ dX3_faultOfWord_124
    replace h := h.2 c4
    by_cases c5 : a2 = (nI 105)
    · replace h := h.1 c5
      refine b_tsIn (v := (nI 105)) (j := 105) (t := 180) X dX3_faultOfWord_20 c5 (by decide) (by decide) (by decide) rfl (by decide) ?_
      refine b_iconst (v := (nI 1)) X dX3_faultOfWord_180 (by decide) ?_
      exact hret _ _ _ _ ⟨rfl, h⟩ dX3_faultOfWord_181
    replace h := h.2 c5
    by_cases c6 : a2 = (nI 106)
    · replace h := h.1 c6
      refine b_tsIn (v := (nI 106)) (j := 106) (t := 180) X dX3_faultOfWord_20 c6 (by decide) (by decide) (by decide) rfl (by decide) ?_
      refine b_iconst (v := (nI 1)) X dX3_faultOfWord_180 (by decide) ?_
      exact hret _ _ _ _ ⟨rfl, h⟩ dX3_faultOfWord_181
    replace h := h.2 c6
    by_cases c7 : a2 = (nI 107)
    · replace h := h.1 c7
      refine b_tsIn (v := (nI 107)) (j := 107) (t := 180) X dX3_faultOfWord_20 c7 (by decide) (by decide) (by decide) rfl (by decide) ?_
      refine b_iconst (v := (nI 1)) X dX3_faultOfWord_180 (by decide) ?_
      exact hret _ _ _ _ ⟨rfl, h⟩ dX3_faultOfWord_181
    replace h := h.2 c7
    by_cases c8 : a2 = (nI 108)
    · replace h := h.1 c8
      refine b_tsIn (v := (nI 108)) (j := 108) (t := 180) X dX3_faultOfWord_20 c8 (by decide) (by decide) (by decide) rfl (by decide) ?_
      refine b_iconst (v := (nI 1)) X dX3_faultOfWord_180 (by decide) ?_
      exact hret _ _ _ _ ⟨rfl, h⟩ dX3_faultOfWord_181
    replace h := h.2 c8
    by_cases c9 : a2 = (nI 109)
    · replace h := h.1 c9
      refine b_tsIn (v := (nI 109)) (j := 109) (t := 180) X dX3_faultOfWord_20 c9 (by decide) (by decide) (by decide) rfl (by decide) ?_
      refine b_iconst (v := (nI 1)) X dX3_faultOfWord_180 (by decide) ?_
      exact hret _ _ _ _ ⟨rfl, h⟩ dX3_faultOfWord_181
    replace h := h.2 c9
    by_cases c10 : a2 = (nI 110)
    · replace h := h.1 c10
      refine b_tsIn (v := (nI 110)) (j := 110) (t := 180) X dX3_faultOfWord_20 c10 (by decide) (by decide) (by decide) rfl (by decide) ?_
      refine b_iconst (v := (nI 1)) X dX3_faultOfWord_180 (by decide) ?_
      exact hret _ _ _ _ ⟨rfl, h⟩ dX3_faultOfWord_181
    replace h := h.2 c10
    by_cases c11 : a2 = (nI 111)
    · replace h := h.1 c11
      refine b_tsIn (v := (nI 111)) (j := 111) (t := 180) X dX3_faultOfWord_20 c11 (by decide) (by decide) (by decide) rfl (by decide) ?_
      refine b_iconst (v := (nI 1)) X dX3_faultOfWord_180 (by decide) ?_
      exact hret _ _ _ _ ⟨rfl, h⟩ dX3_faultOfWord_181
    replace h := h.2 c11
    by_cases c12 : a2 = (nI 112)
    · replace h := h.1 c12
      refine b_tsIn (v := (nI 112)) (j := 112) (t := 125) X dX3_faultOfWord_20 c12 (by decide) (by decide) (by decide) rfl (by decide) ?_
      refine b_aload_n X dX3_faultOfWord_125 rfl 1 rfl ?_
      refine g_0_3 X h1 m_f_X3_96 dX3_faultOfWord_126 ?_
      refine b_bipush (v := (nI 6)) X dX3_faultOfWord_129 (by decide) ?_
      refine b_icmp_ge (t := 138) X dX3_faultOfWord_131 (by decide) (fun c => ?_) (fun c => ?_)
      · replace h := h.1 c
        refine b_iconst (v := (nI 3)) X dX3_faultOfWord_138 (by decide) ?_
        exact hret _ _ _ _ ⟨rfl, h⟩ dX3_faultOfWord_139
      · replace h := h.2 c
        refine b_iconst (v := (nI 0)) X dX3_faultOfWord_134 (by decide) ?_
        refine b_goto (t := 139) X dX3_faultOfWord_135 (by decide) ?_
        exact hret _ _ _ _ ⟨rfl, h⟩ dX3_faultOfWord_139
    replace h := h.2 c12
    by_cases c13 : a2 = (nI 113)
    · replace h := h.1 c13
      refine b_tsIn (v := (nI 113)) (j := 113) (t := 180) X dX3_faultOfWord_20 c13 (by decide) (by decide) (by decide) rfl (by decide) ?_
      refine b_iconst (v := (nI 1)) X dX3_faultOfWord_180 (by decide) ?_
      exact hret _ _ _ _ ⟨rfl, h⟩ dX3_faultOfWord_181
    replace h := h.2 c13
    by_cases c14 : a2 = (nI 114)
    · replace h := h.1 c14
      refine b_tsIn (v := (nI 114)) (j := 114) (t := 180) X dX3_faultOfWord_20 c14 (by decide) (by decide) (by decide) rfl (by decide) ?_
      refine b_iconst (v := (nI 1)) X dX3_faultOfWord_180 (by decide) ?_
      exact hret _ _ _ _ ⟨rfl, h⟩ dX3_faultOfWord_181
    replace h := h.2 c14
    by_cases c15 : a2 = (nI 115)
    · replace h := h.1 c15
      refine b_tsIn (v := (nI 115)) (j := 115) (t := 180) X dX3_faultOfWord_20 c15 (by decide) (by decide) (by decide) rfl (by decide) ?_
      refine b_iconst (v := (nI 1)) X dX3_faultOfWord_180 (by decide) ?_
      exact hret _ _ _ _ ⟨rfl, h⟩ dX3_faultOfWord_181
    replace h := h.2 c15
    by_cases c16 : a2 = (nI 116)
    · replace h := h.1 c16
      refine b_tsIn (v := (nI 116)) (j := 116) (t := 180) X dX3_faultOfWord_20 c16 (by decide) (by decide) (by decide) rfl (by decide) ?_
      refine b_iconst (v := (nI 1)) X dX3_faultOfWord_180 (by decide) ?_
      exact hret _ _ _ _ ⟨rfl, h⟩ dX3_faultOfWord_181
    replace h := h.2 c16
    by_cases c17 : a2 = (nI 117)
    · replace h := h.1 c17
      refine b_tsIn (v := (nI 117)) (j := 117) (t := 153) X dX3_faultOfWord_20 c17 (by decide) (by decide) (by decide) rfl (by decide) ?_
      refine b_aload_n X dX3_faultOfWord_153 rfl 0 rfl ?_
      refine g_3_7 X kF_1 m_f_X3_35 dX3_faultOfWord_154 ?_
      refine b_if_eq (t := 164) X dX3_faultOfWord_157 (by decide) (fun c => ?_) (fun c => ?_)
      · replace h := h.1 c
        refine b_iconst (v := (nI 0)) X dX3_faultOfWord_164 (by decide) ?_
        exact hret _ _ _ _ ⟨rfl, h⟩ dX3_faultOfWord_165
      · replace h := h.2 c
        refine b_iconst (v := (nI 3)) X dX3_faultOfWord_160 (by decide) ?_
        refine b_goto (t := 165) X dX3_faultOfWord_161 (by decide) ?_
        exact hret _ _ _ _ ⟨rfl, h⟩ dX3_faultOfWord_165
    replace h := h.2 c17
    have e0 := i32ne (j := 100) c0 (by decide)
    have e1 := i32ne (j := 101) c1 (by decide)
    have e2 := i32ne (j := 102) c2 (by decide)
    have e3 := i32ne (j := 103) c3 (by decide)
    have e4 := i32ne (j := 104) c4 (by decide)
    have e5 := i32ne (j := 105) c5 (by decide)
    have e6 := i32ne (j := 106) c6 (by decide)
    have e7 := i32ne (j := 107) c7 (by decide)
    have e8 := i32ne (j := 108) c8 (by decide)
    have e9 := i32ne (j := 109) c9 (by decide)
    have e10 := i32ne (j := 110) c10 (by decide)
    have e11 := i32ne (j := 111) c11 (by decide)
    have e12 := i32ne (j := 112) c12 (by decide)
    have e13 := i32ne (j := 113) c13 (by decide)
    have e14 := i32ne (j := 114) c14 (by decide)
    have e15 := i32ne (j := 115) c15 (by decide)
    have e16 := i32ne (j := 116) c16 (by decide)
    have e17 := i32ne (j := 117) c17 (by decide)
    refine b_tsOut (t := 180) X dX3_faultOfWord_20 (by omega) (by decide) ?_
    refine b_iconst (v := (nI 1)) X dX3_faultOfWord_180 (by decide) ?_
    exact hret _ _ _ _ ⟨rfl, h⟩ dX3_faultOfWord_181
  · replace h := h.2 c
    refine b_iload_n X dX3_faultOfWord_7 rfl 2 rfl ?_
    refine b_bipush (v := (nI 102)) X dX3_faultOfWord_8 (by decide) ?_
    refine b_icmp_ne (t := 17) X dX3_faultOfWord_10 (by decide) (fun c => ?_) (fun c => ?_)
    · replace h := h.1 c
      refine b_iconst (v := (nI 1)) X dX3_faultOfWord_17 (by decide) ?_
      exact hret _ _ _ _ ⟨rfl, h⟩ dX3_faultOfWord_18
    · replace h := h.2 c
      refine b_iconst (v := (nI 0)) X dX3_faultOfWord_13 (by decide) ?_
      refine b_goto (t := 18) X dX3_faultOfWord_14 (by decide) ?_
      exact hret _ _ _ _ ⟨rfl, h⟩ dX3_faultOfWord_18
set_option maxHeartbeats 4000000 in
set_option maxRecDepth 100000 in
theorem c_X3_fail (l : Launch) (D : va_G) (C : Nat → ClassId) (ad : Nat → Nat) (a1 : Int32) (a2 : Int32) (μ : Mem) (Q : Mem → Prop) (h : w_X3_fail a1 a2 μ Q) : Mv sF l yX3_fail cX3_fail 3 none rm_X3_fail D C ad [.ref (ad 1), .int a1, .int a2] μ Q := by
  refine fm_v (by decide +kernel) sF_lt (Nat.le_of_ble_eq_true rfl) (fun K X hret => ?_)
  have X : CK sF D C ad K cX3_fail 3 RX3 := X
  refine b_lv (lv' := [(0, .ref (ad 1)), (1, .int a1), (2, .int a2)]) rfl ?_
  unfold w_X3_fail at h
  refine b_aload_n X dX3_fail_0 rfl 0 rfl ?_
  refine g_3_4 X kF_1 m_f_X3_25 dX3_fail_1 ?_
  refine b_if_eq (t := 8) X dX3_fail_4 (by decide) (fun c => ?_) (fun c => ?_)
  · replace h := h.1 c
    refine b_aload_n X dX3_fail_8 rfl 0 rfl ?_
    refine b_iload_n X dX3_fail_9 rfl 1 rfl ?_
    refine p_3_4 X kF_1 m_f_X3_25 dX3_fail_10 (fun μ1 eμ1 => ?_)
    replace h := h μ1 eμ1
    refine b_aload_n X dX3_fail_13 rfl 0 rfl ?_
    refine b_iload_n X dX3_fail_14 rfl 2 rfl ?_
    refine p_3_5 X kF_1 m_f_X3_28 dX3_fail_15 (fun μ2 eμ2 => ?_)
    replace h := h μ2 eμ2
    exact hret _ _ _ h dX3_fail_18
  · replace h := h.2 c
    exact hret _ _ _ h dX3_fail_7
set_option maxHeartbeats 4000000 in
set_option maxRecDepth 100000 in
theorem c_X6_within (l : Launch) (D : va_G) (C : Nat → ClassId) (ad : Nat → Nat) (a0 : Int32) (a1 : Int32) (a2 : Int32) (μ : Mem) (Q : Int32 → Prop) (h : w_X6_within a0 a1 a2 μ Q) : Mi sF l yX6_within cX6_within 3 (some .boolean) rm_X6_within D C ad [.int a0, .int a1, .int a2] μ (fun r μ' => μ = μ' ∧ Q r) := by
  refine fm_z (by decide +kernel) sF_lt (Nat.le_of_ble_eq_true rfl) (fun K X hret => ?_)
  have X : CK sF D C ad K cX6_within 3 RX6 := X
  refine b_lv (lv' := [(0, .int a0), (1, .int a1), (2, .int a2)]) rfl ?_
  unfold w_X6_within at h
  refine b_iload_n X dX6_within_0 rfl 0 rfl ?_
  refine b_iload_n X dX6_within_1 rfl 1 rfl ?_
  refine b_icmp_lt (t := 14) X dX6_within_2 (by decide) (fun c => ?_) (fun c => ?_)
  · replace h := h.1 c
    refine b_iconst (v := (nI 0)) X dX6_within_14 (by decide) ?_
    exact hret _ _ _ _ ⟨(Or.inl rfl), rfl, h⟩ dX6_within_15
  · replace h := h.2 c
    refine b_iload_n X dX6_within_5 rfl 0 rfl ?_
    refine b_iload_n X dX6_within_6 rfl 2 rfl ?_
    refine b_icmp_gt (t := 14) X dX6_within_7 (by decide) (fun c => ?_) (fun c => ?_)
    · replace h := h.1 c
      refine b_iconst (v := (nI 0)) X dX6_within_14 (by decide) ?_
      exact hret _ _ _ _ ⟨(Or.inl rfl), rfl, h⟩ dX6_within_15
    · replace h := h.2 c
      refine b_iconst (v := (nI 1)) X dX6_within_10 (by decide) ?_
      refine b_goto (t := 15) X dX6_within_11 (by decide) ?_
      exact hret _ _ _ _ ⟨(Or.inr rfl), rfl, h⟩ dX6_within_15
set_option maxHeartbeats 4000000 in
set_option maxRecDepth 100000 in
theorem c_X3_readNumber (l : Launch) (D : va_G) (C : Nat → ClassId) (ad : Nat → Nat) (a1 : Int32) (a2 : Int32) (μ : Mem) (Q : Int32 → Mem → Prop) (h : w_X3_readNumber a1 a2 μ Q) : Mi sF l yX3_readNumber cX3_readNumber 6 (some .int) rm_X3_readNumber D C ad [.ref (ad 1), .int a1, .int a2] μ Q := by
  refine fm_i (by decide +kernel) sF_lt (Nat.le_of_ble_eq_true rfl) (fun K X hret => ?_)
  have X : CK sF D C ad K cX3_readNumber 6 RX3 := X
  refine b_lv (lv' := [(0, .ref (ad 1)), (1, .int a1), (2, .int a2)]) rfl ?_
  unfold w_X3_readNumber at h
  have B28 : ∀ (v3 : Int32) (v4 : Int32) (v5 : Int32) (μ : Mem), w_X3_readNumber_28 a1 a2 v3 v4 v5 μ Q → WB sF l D C ad rm_X3_readNumber K 6 μ 28 [(0, .ref (ad 1)), (1, .int a1), (2, .int a2), (3, .int v3), (4, .int v4), (5, .int v5)] [] := by
    intro v3 v4 v5 μ h
    obtain ⟨Y28, eY⟩ : ∃ Y : Int32 → Int32 → Int32 → Mem → Prop, Y = fun (v3 : Int32) (v4 : Int32) (v5 : Int32) (μ : Mem) => WB sF l D C ad rm_X3_readNumber K 6 μ 28 [(0, .ref (ad 1)), (1, .int a1), (2, .int a2), (3, .int v3), (4, .int v4), (5, .int v5)] [] := ⟨_, rfl⟩
    have B28 : Y28 v3 v4 v5 μ := by
      unfold w_X3_readNumber_28 at h
      refine h Y28 ?_
      clear h
      intro v3 v4 v5 μ h
      unfold s_X3_readNumber_28 at h
      rw [eY]
      show WB sF l D C ad rm_X3_readNumber K 6 μ 28 [(0, .ref (ad 1)), (1, .int a1), (2, .int a2), (3, .int v3), (4, .int v4), (5, .int v5)] []
      have T28 : ∀ (v3 : Int32) (v4 : Int32) (v5 : Int32) (μ : Mem), Y28 v3 v4 v5 μ → WB sF l D C ad rm_X3_readNumber K 6 μ 28 [(0, .ref (ad 1)), (1, .int a1), (2, .int a2), (3, .int v3), (4, .int v4), (5, .int v5)] [] := by
        intro v3 v4 v5 μ h
        rw [eY] at h
        exact h
      clear eY
      have B93 : ∀ (v4 : Int32) (v5 : Int32) (μ : Mem), w_X3_readNumber_93 a1 a2 v4 v5 μ Q → WB sF l D C ad rm_X3_readNumber K 6 μ 93 [(0, .ref (ad 1)), (1, .int a1), (2, .int a2), (4, .int v4), (5, .int v5)] [] := by
        intro v4 v5 μ h
        unfold w_X3_readNumber_93 at h
        have B126 : ∀ (v5 : Int32) (μ : Mem), w_X3_readNumber_126 a1 a2 v5 μ Q → WB sF l D C ad rm_X3_readNumber K 6 μ 126 [(0, .ref (ad 1)), (5, .int v5)] [] := by
          intro v5 μ h
          unfold w_X3_readNumber_126 at h
          refine b_aload_n X dX3_readNumber_126 rfl 0 rfl ?_
          refine b_iconst (v := (nI 2)) X dX3_readNumber_127 (by decide) ?_
          refine b_aload_n X dX3_readNumber_128 rfl 0 rfl ?_
          refine g_3_3 X kF_1 m_f_X3_22 dX3_readNumber_129 ?_
          refine bVv (st := []) (nA := 2) X (c_X3_fail l D C ad (nI 2) (μ.1 1 3) μ _ h) kF_1 (by decide) (enc_3 kF_1) rfl gw_X3_63 ⟨rfl, hd_X3_fail⟩ ⟨Nat.zero_le _, Nat.zero_le _⟩ rfl rfl ⟨Nat.le_of_ble_eq_true rfl, Nat.le_of_ble_eq_true rfl⟩ rfl rfl (Nat.le_of_ble_eq_true rfl) dX3_readNumber_132 (fun μ16 h => ?_)
          refine b_iload X dX3_readNumber_135 1 rfl ?_
          exact hret _ _ _ _ h dX3_readNumber_137
        refine b_iload X dX3_readNumber_93 3 rfl ?_
        refine b_if_ne (t := 110) X dX3_readNumber_95 (by decide) (fun c => ?_) (fun c => ?_)
        · replace h := h.1 c
          refine b_iload X dX3_readNumber_110 3 rfl ?_
          refine b_iconst (v := (nI 3)) X dX3_readNumber_112 (by decide) ?_
          refine b_icmp_gt (t := 126) X dX3_readNumber_113 (by decide) (fun c => ?_) (fun c => ?_)
          · replace h := h.1 c
            refine b_sub (lv' := [(0, .ref (ad 1)), (5, .int v5)]) [0, 4] rfl ?_
            exact B126 v5 μ h
          · replace h := h.2 c
            refine b_iload X dX3_readNumber_116 4 rfl ?_
            refine b_iload_n X dX3_readNumber_118 rfl 1 rfl ?_
            refine b_iload_n X dX3_readNumber_119 rfl 2 rfl ?_
            refine bNi (st := []) (host := "FogNets") (nA := 3) X (c_X6_within l D C ad v5 a1 a2 μ _ h) nx_X3_140 m_s_X6_within m_n_X6 m_c_X6_within hd_X6_within ⟨Nat.zero_le _, Nat.zero_le _⟩ rfl rfl ⟨Nat.le_of_ble_eq_true rfl, Nat.le_of_ble_eq_true rfl⟩ rfl rfl (Nat.le_of_ble_eq_true rfl) dX3_readNumber_120 (fun r11 μ12 h => ?_)
            obtain ⟨rfl, h⟩ := h
            refine b_if_ne (t := 135) X dX3_readNumber_123 (by decide) (fun c => ?_) (fun c => ?_)
            · replace h := h.1 c
              refine b_iload X dX3_readNumber_135 4 rfl ?_
              exact hret _ _ _ _ h dX3_readNumber_137
            · replace h := h.2 c
              refine b_sub (lv' := [(0, .ref (ad 1)), (5, .int v5)]) [0, 4] rfl ?_
              exact B126 v5 μ h
        · replace h := h.2 c
          refine b_aload_n X dX3_readNumber_98 rfl 0 rfl ?_
          refine b_iconst (v := (nI 1)) X dX3_readNumber_99 (by decide) ?_
          refine b_aload_n X dX3_readNumber_100 rfl 0 rfl ?_
          refine g_3_3 X kF_1 m_f_X3_22 dX3_readNumber_101 ?_
          refine bVv (st := []) (nA := 2) X (c_X3_fail l D C ad (nI 1) (μ.1 1 3) μ _ h) kF_1 (by decide) (enc_3 kF_1) rfl gw_X3_63 ⟨rfl, hd_X3_fail⟩ ⟨Nat.zero_le _, Nat.zero_le _⟩ rfl rfl ⟨Nat.le_of_ble_eq_true rfl, Nat.le_of_ble_eq_true rfl⟩ rfl rfl (Nat.le_of_ble_eq_true rfl) dX3_readNumber_104 (fun μ14 h => ?_)
          refine b_goto (t := 135) X dX3_readNumber_107 (by decide) ?_
          refine b_iload X dX3_readNumber_135 4 rfl ?_
          exact hret _ _ _ _ h dX3_readNumber_137
      have B68 : ∀ (v4 : Int32) (v5 : Int32) (μ : Mem), w_X3_readNumber_68 a1 a2 Y28 v4 v5 μ Q → WB sF l D C ad rm_X3_readNumber K 6 μ 68 [(0, .ref (ad 1)), (1, .int a1), (2, .int a2), (4, .int v4), (5, .int v5)] [] := by
        intro v4 v5 μ h
        unfold w_X3_readNumber_68 at h
        obtain ⟨x7, ex7⟩ : ∃ y : Int32, y = v4 + (nI 1) := ⟨_, rfl⟩
        replace h := h x7 ex7
        refine b_iinc (x := x7) (lv' := [(4, .int x7), (0, .ref (ad 1)), (1, .int a1), (2, .int a2), (5, .int v5)]) (q := 3) X dX3_readNumber_68 rfl (by rw [ex7]; rfl) (by decide) rfl ?_
        refine b_aload_n X dX3_readNumber_71 rfl 1 rfl ?_
        refine b_dup X dX3_readNumber_72 rfl ?_
        refine g_3_2 X kF_1 m_f_X3_19 dX3_readNumber_73 ?_
        refine b_iconst (v := (nI 1)) X dX3_readNumber_76 (by decide) ?_
        refine b_iadd X dX3_readNumber_77 ?_
        refine p_3_2 X kF_1 m_f_X3_19 dX3_readNumber_78 (fun μ8 eμ8 => ?_)
        replace h := h μ8 eμ8
        refine b_aload_n X dX3_readNumber_81 rfl 1 rfl ?_
        refine b_aload_n X dX3_readNumber_82 rfl 1 rfl ?_
        refine g_3_2 X kF_1 m_f_X3_19 dX3_readNumber_83 ?_
        refine bVi (st := []) (nA := 1) X (c_X3_letterAt l D C ad (μ8.1 1 2) μ8 _ h) kF_1 (by decide) (enc_3 kF_1) rfl gw_X3_55 ⟨rfl, hd_X3_letterAt⟩ ⟨Nat.zero_le _, Nat.zero_le _⟩ rfl rfl ⟨Nat.le_of_ble_eq_true rfl, Nat.le_of_ble_eq_true rfl⟩ rfl rfl (Nat.le_of_ble_eq_true rfl) dX3_readNumber_86 (fun r9 μ10 h => ?_)
        obtain ⟨rfl, h⟩ := h
        refine b_istore_n (lv' := [(3, .int r9), (4, .int x7), (0, .ref (ad 1)), (1, .int a1), (2, .int a2), (5, .int v5)]) X dX3_readNumber_89 rfl (by decide) rfl ?_
        refine b_goto (t := 28) X dX3_readNumber_90 (by decide) ?_
        refine b_sub (lv' := [(0, .ref (ad 1)), (1, .int a1), (2, .int a2), (3, .int r9), (4, .int x7), (5, .int v5)]) [2, 3, 4, 0, 1, 5] rfl ?_
        exact T28 r9 x7 v5 μ8 h
      refine b_aload_n X dX3_readNumber_28 rfl 0 rfl ?_
      refine g_3_2 X kF_1 m_f_X3_19 dX3_readNumber_29 ?_
      refine b_aload_n X dX3_readNumber_32 rfl 0 rfl ?_
      refine g_3_1 X kF_1 m_f_X3_15 dX3_readNumber_33 ?_
      refine b_icmp_ge (t := 93) X dX3_readNumber_36 (by decide) (fun c => ?_) (fun c => ?_)
      · replace h := h.1 c
        refine b_sub (lv' := [(0, .ref (ad 1)), (1, .int a1), (2, .int a2), (4, .int v4), (5, .int v5)]) [0, 1, 2, 4, 5] rfl ?_
        exact B93 v4 v5 μ h
      · replace h := h.2 c
        refine b_iload_n X dX3_readNumber_39 rfl 3 rfl ?_
        refine b_bipush (v := (nI 48)) X dX3_readNumber_40 (by decide) ?_
        refine b_bipush (v := (nI 57)) X dX3_readNumber_42 (by decide) ?_
        refine bNi (st := []) (host := "FogNets") (nA := 3) X (c_X6_within l D C ad v3 (nI 48) (nI 57) μ _ h) nx_X3_140 m_s_X6_within m_n_X6 m_c_X6_within hd_X6_within ⟨Nat.zero_le _, Nat.zero_le _⟩ rfl rfl ⟨Nat.le_of_ble_eq_true rfl, Nat.le_of_ble_eq_true rfl⟩ rfl rfl (Nat.le_of_ble_eq_true rfl) dX3_readNumber_44 (fun r4 μ5 h => ?_)
        obtain ⟨rfl, h⟩ := h
        refine b_if_eq (t := 93) X dX3_readNumber_47 (by decide) (fun c => ?_) (fun c => ?_)
        · replace h := h.1 c
          refine b_sub (lv' := [(0, .ref (ad 1)), (1, .int a1), (2, .int a2), (4, .int v4), (5, .int v5)]) [0, 1, 2, 4, 5] rfl ?_
          exact B93 v4 v5 μ h
        · replace h := h.2 c
          refine b_iload X dX3_readNumber_50 4 rfl ?_
          refine b_iconst (v := (nI 3)) X dX3_readNumber_52 (by decide) ?_
          refine b_icmp_ge (t := 68) X dX3_readNumber_53 (by decide) (fun c => ?_) (fun c => ?_)
          · replace h := h.1 c
            refine b_sub (lv' := [(0, .ref (ad 1)), (1, .int a1), (2, .int a2), (4, .int v4), (5, .int v5)]) [0, 1, 2, 4, 5] rfl ?_
            exact B68 v4 v5 μ h
          · replace h := h.2 c
            refine b_bipush (v := (nI 10)) X dX3_readNumber_56 (by decide) ?_
            refine b_iload X dX3_readNumber_58 5 rfl ?_
            refine b_imul X dX3_readNumber_60 ?_
            refine b_iload_n X dX3_readNumber_61 rfl 3 rfl ?_
            refine b_iadd X dX3_readNumber_62 ?_
            refine b_bipush (v := (nI 48)) X dX3_readNumber_63 (by decide) ?_
            refine b_isub X dX3_readNumber_65 ?_
            refine b_topi (fun x6 ex6 => ?_)
            replace h := h x6 ex6
            refine b_istore (lv' := [(5, .int x6), (0, .ref (ad 1)), (1, .int a1), (2, .int a2), (3, .int v3), (4, .int v4)]) X dX3_readNumber_66 (by decide) rfl ?_
            refine b_sub (lv' := [(0, .ref (ad 1)), (1, .int a1), (2, .int a2), (4, .int v4), (5, .int x6)]) [1, 2, 3, 5, 0] rfl ?_
            exact B68 v4 x6 μ h
    rw [eY] at B28
    exact B28
  refine b_aload_n X dX3_readNumber_0 rfl 0 rfl ?_
  refine g_3_4 X kF_1 m_f_X3_25 dX3_readNumber_1 ?_
  refine b_if_eq (t := 9) X dX3_readNumber_4 (by decide) (fun c => ?_) (fun c => ?_)
  · replace h := h.1 c
    refine b_aload_n X dX3_readNumber_9 rfl 0 rfl ?_
    refine bVi (st := []) (nA := 0) X (c_X3_nextLetter l D C ad  μ _ h) kF_1 (by decide) (enc_3 kF_1) rfl gw_X3_47 ⟨rfl, hd_X3_nextLetter⟩ ⟨Nat.zero_le _, Nat.zero_le _⟩ rfl rfl ⟨Nat.le_of_ble_eq_true rfl, Nat.le_of_ble_eq_true rfl⟩ rfl rfl (Nat.le_of_ble_eq_true rfl) dX3_readNumber_10 (fun r1 μ2 h => ?_)
    refine b_istore_n (lv' := [(3, .int r1), (0, .ref (ad 1)), (1, .int a1), (2, .int a2)]) X dX3_readNumber_13 rfl (by decide) rfl ?_
    refine b_aload_n X dX3_readNumber_14 rfl 1 rfl ?_
    refine b_aload_n X dX3_readNumber_15 rfl 1 rfl ?_
    refine g_3_2 X kF_1 m_f_X3_19 dX3_readNumber_16 ?_
    refine p_3_3 X kF_1 m_f_X3_22 dX3_readNumber_19 (fun μ3 eμ3 => ?_)
    replace h := h μ3 eμ3
    refine b_iconst (v := (nI 0)) X dX3_readNumber_22 (by decide) ?_
    refine b_istore (lv' := [(4, .int (nI 0)), (3, .int r1), (0, .ref (ad 1)), (1, .int a1), (2, .int a2)]) X dX3_readNumber_23 (by decide) rfl ?_
    refine b_iconst (v := (nI 0)) X dX3_readNumber_25 (by decide) ?_
    refine b_istore (lv' := [(5, .int (nI 0)), (4, .int (nI 0)), (3, .int r1), (0, .ref (ad 1)), (1, .int a1), (2, .int a2)]) X dX3_readNumber_26 (by decide) rfl ?_
    refine b_sub (lv' := [(0, .ref (ad 1)), (1, .int a1), (2, .int a2), (3, .int r1), (4, .int (nI 0)), (5, .int (nI 0))]) [3, 4, 5, 2, 1, 0] rfl ?_
    exact B28 r1 (nI 0) (nI 0) μ3 h
  · replace h := h.2 c
    refine b_iload_n X dX3_readNumber_7 rfl 1 rfl ?_
    exact hret _ _ _ _ h dX3_readNumber_8
set_option maxHeartbeats 4000000 in
set_option maxRecDepth 100000 in
theorem c_X3_readEnd (l : Launch) (D : va_G) (C : Nat → ClassId) (ad : Nat → Nat)  (μ : Mem) (Q : Mem → Prop) (h : w_X3_readEnd  μ Q) : Mv sF l yX3_readEnd cX3_readEnd 1 none rm_X3_readEnd D C ad [.ref (ad 1)] μ Q := by
  refine fm_v (by decide +kernel) sF_lt (Nat.le_of_ble_eq_true rfl) (fun K X hret => ?_)
  have X : CK sF D C ad K cX3_readEnd 1 RX3 := X
  refine b_lv (lv' := [(0, .ref (ad 1))]) rfl ?_
  unfold w_X3_readEnd at h
  refine b_aload_n X dX3_readEnd_0 rfl 0 rfl ?_
  refine g_3_4 X kF_1 m_f_X3_25 dX3_readEnd_1 ?_
  refine b_if_eq (t := 8) X dX3_readEnd_4 (by decide) (fun c => ?_) (fun c => ?_)
  · replace h := h.1 c
    refine b_aload_n X dX3_readEnd_8 rfl 0 rfl ?_
    refine bVi (st := []) (nA := 0) X (c_X3_nextLetter l D C ad  μ _ h) kF_1 (by decide) (enc_3 kF_1) rfl gw_X3_47 ⟨rfl, hd_X3_nextLetter⟩ ⟨Nat.zero_le _, Nat.zero_le _⟩ rfl rfl ⟨Nat.le_of_ble_eq_true rfl, Nat.le_of_ble_eq_true rfl⟩ rfl rfl (Nat.le_of_ble_eq_true rfl) dX3_readEnd_9 (fun r1 μ2 h => ?_)
    refine b_bipush (v := (nI 59)) X dX3_readEnd_12 (by decide) ?_
    refine b_icmp_ne (t := 30) X dX3_readEnd_14 (by decide) (fun c => ?_) (fun c => ?_)
    · replace h := h.1 c
      refine b_aload_n X dX3_readEnd_30 rfl 0 rfl ?_
      refine b_iconst (v := (nI 1)) X dX3_readEnd_31 (by decide) ?_
      refine b_aload_n X dX3_readEnd_32 rfl 0 rfl ?_
      refine g_3_2 X kF_1 m_f_X3_19 dX3_readEnd_33 ?_
      refine bVv (st := []) (nA := 2) X (c_X3_fail l D C ad (nI 1) (μ2.1 1 2) μ2 _ h) kF_1 (by decide) (enc_3 kF_1) rfl gw_X3_63 ⟨rfl, hd_X3_fail⟩ ⟨Nat.zero_le _, Nat.zero_le _⟩ rfl rfl ⟨Nat.le_of_ble_eq_true rfl, Nat.le_of_ble_eq_true rfl⟩ rfl rfl (Nat.le_of_ble_eq_true rfl) dX3_readEnd_36 (fun μ4 h => ?_)
      exact hret _ _ _ h dX3_readEnd_39
    · replace h := h.2 c
      refine b_aload_n X dX3_readEnd_17 rfl 0 rfl ?_
      refine b_dup X dX3_readEnd_18 rfl ?_
      refine g_3_2 X kF_1 m_f_X3_19 dX3_readEnd_19 ?_
      refine b_iconst (v := (nI 1)) X dX3_readEnd_22 (by decide) ?_
      refine b_iadd X dX3_readEnd_23 ?_
      refine p_3_2 X kF_1 m_f_X3_19 dX3_readEnd_24 (fun μ5 eμ5 => ?_)
      replace h := h μ5 eμ5
      refine b_goto (t := 39) X dX3_readEnd_27 (by decide) ?_
      exact hret _ _ _ h dX3_readEnd_39
  · replace h := h.2 c
    exact hret _ _ _ h dX3_readEnd_7
set_option maxHeartbeats 4000000 in
set_option maxRecDepth 100000 in
theorem c_X3_readCells (l : Launch) (D : va_G) (C : Nat → ClassId) (ad : Nat → Nat) (b1 : Nat) (h1 : sF.2.1 b1 = 0) (μ : Mem) (Q : Mem → Prop) (h : w_X3_readCells b1 μ Q) : Mv sF l yX3_readCells cX3_readCells 4 none rm_X3_readCells D C ad [.ref (ad 1), .ref (ad b1)] μ Q := by
  refine fm_v (by decide +kernel) sF_lt (Nat.le_of_ble_eq_true rfl) (fun K X hret => ?_)
  have X : CK sF D C ad K cX3_readCells 4 RX3 := X
  refine b_lv (lv' := [(0, .ref (ad 1)), (1, .ref (ad b1))]) rfl ?_
  unfold w_X3_readCells at h
  refine b_aload_n X dX3_readCells_0 rfl 0 rfl ?_
  refine b_iconst (v := (nI 1)) X dX3_readCells_1 (by decide) ?_
  refine b_bipush (v := (nI 12)) X dX3_readCells_2 (by decide) ?_
  refine bVi (st := []) (nA := 2) X (c_X3_readNumber l D C ad (nI 1) (nI 12) μ _ h) kF_1 (by decide) (enc_3 kF_1) rfl gw_X3_102 ⟨rfl, hd_X3_readNumber⟩ ⟨Nat.zero_le _, Nat.zero_le _⟩ rfl rfl ⟨Nat.le_of_ble_eq_true rfl, Nat.le_of_ble_eq_true rfl⟩ rfl rfl (Nat.le_of_ble_eq_true rfl) dX3_readCells_4 (fun r1 μ2 h => ?_)
  refine b_istore_n (lv' := [(2, .int r1), (0, .ref (ad 1)), (1, .ref (ad b1))]) X dX3_readCells_7 rfl (by decide) rfl ?_
  refine b_aload_n X dX3_readCells_8 rfl 1 rfl ?_
  refine b_iconst (v := (nI 0)) X dX3_readCells_9 (by decide) ?_
  refine b_bipush (v := (nI 20)) X dX3_readCells_10 (by decide) ?_
  refine bVi (st := []) (nA := 2) X (c_X3_readNumber l D C ad (nI 0) (nI 20) μ2 _ h) kF_1 (by decide) (enc_3 kF_1) rfl gw_X3_102 ⟨rfl, hd_X3_readNumber⟩ ⟨Nat.zero_le _, Nat.zero_le _⟩ rfl rfl ⟨Nat.le_of_ble_eq_true rfl, Nat.le_of_ble_eq_true rfl⟩ rfl rfl (Nat.le_of_ble_eq_true rfl) dX3_readCells_12 (fun r3 μ4 h => ?_)
  refine b_istore_n (lv' := [(3, .int r3), (2, .int r1), (0, .ref (ad 1)), (1, .ref (ad b1))]) X dX3_readCells_15 rfl (by decide) rfl ?_
  refine b_aload_n X dX3_readCells_16 rfl 2 rfl ?_
  refine bVv (st := []) (nA := 0) X (c_X3_readEnd l D C ad  μ4 _ h) kF_1 (by decide) (enc_3 kF_1) rfl gw_X3_106 ⟨rfl, hd_X3_readEnd⟩ ⟨Nat.zero_le _, Nat.zero_le _⟩ rfl rfl ⟨Nat.le_of_ble_eq_true rfl, Nat.le_of_ble_eq_true rfl⟩ rfl rfl (Nat.le_of_ble_eq_true rfl) dX3_readCells_17 (fun μ6 h => ?_)
  refine b_aload_n X dX3_readCells_20 rfl 3 rfl ?_
  refine b_iload_n X dX3_readCells_21 rfl 1 rfl ?_
  refine p_0_0 X h1 m_f_X3_90 dX3_readCells_22 (fun μ7 eμ7 => ?_)
  replace h := h μ7 eμ7
  refine b_aload_n X dX3_readCells_25 rfl 3 rfl ?_
  refine b_iload_n X dX3_readCells_26 rfl 0 rfl ?_
  refine p_0_1 X h1 m_f_X3_109 dX3_readCells_27 (fun μ8 eμ8 => ?_)
  replace h := h μ8 eμ8
  exact hret _ _ _ h dX3_readCells_30
set_option maxHeartbeats 4000000 in
set_option maxRecDepth 100000 in
theorem c_X3_readHour (l : Launch) (D : va_G) (C : Nat → ClassId) (ad : Nat → Nat) (b1 : Nat) (h1 : sF.2.1 b1 = 0) (μ : Mem) (Q : Mem → Prop) (h : w_X3_readHour b1 μ Q) : Mv sF l yX3_readHour cX3_readHour 4 none rm_X3_readHour D C ad [.ref (ad 1), .ref (ad b1)] μ Q := by
  refine fm_v (by decide +kernel) sF_lt (Nat.le_of_ble_eq_true rfl) (fun K X hret => ?_)
  have X : CK sF D C ad K cX3_readHour 4 RX3 := X
  refine b_lv (lv' := [(0, .ref (ad 1)), (1, .ref (ad b1))]) rfl ?_
  unfold w_X3_readHour at h
  refine b_aload_n X dX3_readHour_0 rfl 0 rfl ?_
  refine b_iconst (v := (nI 0)) X dX3_readHour_1 (by decide) ?_
  refine b_iconst (v := (nI 1)) X dX3_readHour_2 (by decide) ?_
  refine bVi (st := []) (nA := 2) X (c_X3_readNumber l D C ad (nI 0) (nI 1) μ _ h) kF_1 (by decide) (enc_3 kF_1) rfl gw_X3_102 ⟨rfl, hd_X3_readNumber⟩ ⟨Nat.zero_le _, Nat.zero_le _⟩ rfl rfl ⟨Nat.le_of_ble_eq_true rfl, Nat.le_of_ble_eq_true rfl⟩ rfl rfl (Nat.le_of_ble_eq_true rfl) dX3_readHour_3 (fun r1 μ2 h => ?_)
  refine b_istore_n (lv' := [(2, .int r1), (0, .ref (ad 1)), (1, .ref (ad b1))]) X dX3_readHour_6 rfl (by decide) rfl ?_
  refine b_aload_n X dX3_readHour_7 rfl 1 rfl ?_
  refine b_iconst (v := (nI 0)) X dX3_readHour_8 (by decide) ?_
  refine b_bipush (v := (nI 40)) X dX3_readHour_9 (by decide) ?_
  refine bVi (st := []) (nA := 2) X (c_X3_readNumber l D C ad (nI 0) (nI 40) μ2 _ h) kF_1 (by decide) (enc_3 kF_1) rfl gw_X3_102 ⟨rfl, hd_X3_readNumber⟩ ⟨Nat.zero_le _, Nat.zero_le _⟩ rfl rfl ⟨Nat.le_of_ble_eq_true rfl, Nat.le_of_ble_eq_true rfl⟩ rfl rfl (Nat.le_of_ble_eq_true rfl) dX3_readHour_11 (fun r3 μ4 h => ?_)
  refine b_istore_n (lv' := [(3, .int r3), (2, .int r1), (0, .ref (ad 1)), (1, .ref (ad b1))]) X dX3_readHour_14 rfl (by decide) rfl ?_
  refine b_aload_n X dX3_readHour_15 rfl 2 rfl ?_
  refine bVv (st := []) (nA := 0) X (c_X3_readEnd l D C ad  μ4 _ h) kF_1 (by decide) (enc_3 kF_1) rfl gw_X3_106 ⟨rfl, hd_X3_readEnd⟩ ⟨Nat.zero_le _, Nat.zero_le _⟩ rfl rfl ⟨Nat.le_of_ble_eq_true rfl, Nat.le_of_ble_eq_true rfl⟩ rfl rfl (Nat.le_of_ble_eq_true rfl) dX3_readHour_16 (fun μ6 h => ?_)
  refine b_aload_n X dX3_readHour_19 rfl 3 rfl ?_
  refine g_0_5 X h1 m_f_X3_112 dX3_readHour_20 ?_
  refine b_aload_n X dX3_readHour_23 rfl 3 rfl ?_
  refine g_0_2 X h1 m_f_X3_93 dX3_readHour_24 ?_
  refine b_iload_n X dX3_readHour_27 rfl 1 rfl ?_
  refine bNv (st := []) (host := "FogNets") (nA := 3) X (c_X6_put l D C ad (b1 + 1) (co_k1 h1) (μ6.1 b1 2) r1 μ6 _ h) nx_X3_38 m_s_X6_put m_n_X6 m_c_X6_put hd_X6_put ⟨Nat.zero_le _, Nat.zero_le _⟩ rfl rfl ⟨Nat.le_of_ble_eq_true rfl, Nat.le_of_ble_eq_true rfl⟩ rfl rfl (Nat.le_of_ble_eq_true rfl) dX3_readHour_28 (fun μ8 h => ?_)
  refine b_aload_n X dX3_readHour_31 rfl 3 rfl ?_
  refine g_0_6 X h1 m_f_X3_115 dX3_readHour_32 ?_
  refine b_aload_n X dX3_readHour_35 rfl 3 rfl ?_
  refine g_0_2 X h1 m_f_X3_93 dX3_readHour_36 ?_
  refine b_iload_n X dX3_readHour_39 rfl 0 rfl ?_
  refine bNv (st := []) (host := "FogNets") (nA := 3) X (c_X6_put l D C ad (b1 + 2) (co_k2 h1) (μ8.1 b1 2) r3 μ8 _ h) nx_X3_38 m_s_X6_put m_n_X6 m_c_X6_put hd_X6_put ⟨Nat.zero_le _, Nat.zero_le _⟩ rfl rfl ⟨Nat.le_of_ble_eq_true rfl, Nat.le_of_ble_eq_true rfl⟩ rfl rfl (Nat.le_of_ble_eq_true rfl) dX3_readHour_40 (fun μ10 h => ?_)
  refine b_aload_n X dX3_readHour_43 rfl 3 rfl ?_
  refine b_dup X dX3_readHour_44 rfl ?_
  refine g_0_2 X h1 m_f_X3_93 dX3_readHour_45 ?_
  refine b_iconst (v := (nI 1)) X dX3_readHour_48 (by decide) ?_
  refine b_iadd X dX3_readHour_49 ?_
  refine p_0_2 X h1 m_f_X3_93 dX3_readHour_50 (fun μ11 eμ11 => ?_)
  replace h := h μ11 eμ11
  exact hret _ _ _ h dX3_readHour_53
set_option maxHeartbeats 4000000 in
set_option maxRecDepth 100000 in
theorem c_X3_readPost (l : Launch) (D : va_G) (C : Nat → ClassId) (ad : Nat → Nat) (b1 : Nat) (h1 : sF.2.1 b1 = 0) (μ : Mem) (Q : Mem → Prop) (h : w_X3_readPost b1 μ Q) : Mv sF l yX3_readPost cX3_readPost 6 none rm_X3_readPost D C ad [.ref (ad 1), .ref (ad b1)] μ Q := by
  refine fm_v (by decide +kernel) sF_lt (Nat.le_of_ble_eq_true rfl) (fun K X hret => ?_)
  have X : CK sF D C ad K cX3_readPost 6 RX3 := X
  refine b_lv (lv' := [(0, .ref (ad 1)), (1, .ref (ad b1))]) rfl ?_
  unfold w_X3_readPost at h
  have B29 : ∀ (v2 : Int32) (μ : Mem), w_X3_readPost_29 b1 v2 μ Q → WB sF l D C ad rm_X3_readPost K 6 μ 29 [(0, .ref (ad 1)), (1, .ref (ad b1)), (2, .int v2)] [] := by
    intro v2 μ h
    unfold w_X3_readPost_29 at h
    refine b_aload_n X dX3_readPost_29 rfl 0 rfl ?_
    refine b_iconst (v := (nI 0)) X dX3_readPost_30 (by decide) ?_
    refine b_bipush (v := (nI 9)) X dX3_readPost_31 (by decide) ?_
    refine bVi (st := []) (nA := 2) X (c_X3_readNumber l D C ad (nI 0) (nI 9) μ _ h) kF_1 (by decide) (enc_3 kF_1) rfl gw_X3_102 ⟨rfl, hd_X3_readNumber⟩ ⟨Nat.zero_le _, Nat.zero_le _⟩ rfl rfl ⟨Nat.le_of_ble_eq_true rfl, Nat.le_of_ble_eq_true rfl⟩ rfl rfl (Nat.le_of_ble_eq_true rfl) dX3_readPost_33 (fun r7 μ8 h => ?_)
    refine b_istore_n (lv' := [(3, .int r7), (0, .ref (ad 1)), (1, .ref (ad b1)), (2, .int v2)]) X dX3_readPost_36 rfl (by decide) rfl ?_
    refine b_aload_n X dX3_readPost_37 rfl 1 rfl ?_
    refine b_iconst (v := (nI 1)) X dX3_readPost_38 (by decide) ?_
    refine b_bipush (v := (nI 99)) X dX3_readPost_39 (by decide) ?_
    refine bVi (st := []) (nA := 2) X (c_X3_readNumber l D C ad (nI 1) (nI 99) μ8 _ h) kF_1 (by decide) (enc_3 kF_1) rfl gw_X3_102 ⟨rfl, hd_X3_readNumber⟩ ⟨Nat.zero_le _, Nat.zero_le _⟩ rfl rfl ⟨Nat.le_of_ble_eq_true rfl, Nat.le_of_ble_eq_true rfl⟩ rfl rfl (Nat.le_of_ble_eq_true rfl) dX3_readPost_41 (fun r9 μ10 h => ?_)
    refine b_istore (lv' := [(4, .int r9), (3, .int r7), (0, .ref (ad 1)), (1, .ref (ad b1)), (2, .int v2)]) X dX3_readPost_44 (by decide) rfl ?_
    refine b_aload_n X dX3_readPost_46 rfl 2 rfl ?_
    refine b_iconst (v := (nI 0)) X dX3_readPost_47 (by decide) ?_
    refine b_iconst (v := (nI 1)) X dX3_readPost_48 (by decide) ?_
    refine bVi (st := []) (nA := 2) X (c_X3_readNumber l D C ad (nI 0) (nI 1) μ10 _ h) kF_1 (by decide) (enc_3 kF_1) rfl gw_X3_102 ⟨rfl, hd_X3_readNumber⟩ ⟨Nat.zero_le _, Nat.zero_le _⟩ rfl rfl ⟨Nat.le_of_ble_eq_true rfl, Nat.le_of_ble_eq_true rfl⟩ rfl rfl (Nat.le_of_ble_eq_true rfl) dX3_readPost_49 (fun r11 μ12 h => ?_)
    refine b_istore (lv' := [(5, .int r11), (4, .int r9), (3, .int r7), (0, .ref (ad 1)), (1, .ref (ad b1)), (2, .int v2)]) X dX3_readPost_52 (by decide) rfl ?_
    refine b_aload_n X dX3_readPost_54 rfl 3 rfl ?_
    refine bVv (st := []) (nA := 0) X (c_X3_readEnd l D C ad  μ12 _ h) kF_1 (by decide) (enc_3 kF_1) rfl gw_X3_106 ⟨rfl, hd_X3_readEnd⟩ ⟨Nat.zero_le _, Nat.zero_le _⟩ rfl rfl ⟨Nat.le_of_ble_eq_true rfl, Nat.le_of_ble_eq_true rfl⟩ rfl rfl (Nat.le_of_ble_eq_true rfl) dX3_readPost_55 (fun μ14 h => ?_)
    refine b_aload_n X dX3_readPost_58 rfl 4 rfl ?_
    refine g_0_7 X h1 m_f_X3_122 dX3_readPost_59 ?_
    refine b_aload_n X dX3_readPost_62 rfl 4 rfl ?_
    refine g_0_3 X h1 m_f_X3_96 dX3_readPost_63 ?_
    refine b_iload_n X dX3_readPost_66 rfl 5 rfl ?_
    refine bNv (st := []) (host := "FogNets") (nA := 3) X (c_X6_put l D C ad (b1 + 3) (co_k3 h1) (μ14.1 b1 3) v2 μ14 _ h) nx_X3_38 m_s_X6_put m_n_X6 m_c_X6_put hd_X6_put ⟨Nat.zero_le _, Nat.zero_le _⟩ rfl rfl ⟨Nat.le_of_ble_eq_true rfl, Nat.le_of_ble_eq_true rfl⟩ rfl rfl (Nat.le_of_ble_eq_true rfl) dX3_readPost_67 (fun μ16 h => ?_)
    refine b_aload_n X dX3_readPost_70 rfl 4 rfl ?_
    refine g_0_8 X h1 m_f_X3_125 dX3_readPost_71 ?_
    refine b_aload_n X dX3_readPost_74 rfl 4 rfl ?_
    refine g_0_3 X h1 m_f_X3_96 dX3_readPost_75 ?_
    refine b_iload_n X dX3_readPost_78 rfl 2 rfl ?_
    refine bNv (st := []) (host := "FogNets") (nA := 3) X (c_X6_put l D C ad (b1 + 4) (co_k4 h1) (μ16.1 b1 3) r7 μ16 _ h) nx_X3_38 m_s_X6_put m_n_X6 m_c_X6_put hd_X6_put ⟨Nat.zero_le _, Nat.zero_le _⟩ rfl rfl ⟨Nat.le_of_ble_eq_true rfl, Nat.le_of_ble_eq_true rfl⟩ rfl rfl (Nat.le_of_ble_eq_true rfl) dX3_readPost_79 (fun μ18 h => ?_)
    refine b_aload_n X dX3_readPost_82 rfl 4 rfl ?_
    refine g_0_9 X h1 m_f_X3_128 dX3_readPost_83 ?_
    refine b_aload_n X dX3_readPost_86 rfl 4 rfl ?_
    refine g_0_3 X h1 m_f_X3_96 dX3_readPost_87 ?_
    refine b_iload X dX3_readPost_90 1 rfl ?_
    refine bNv (st := []) (host := "FogNets") (nA := 3) X (c_X6_put l D C ad (b1 + 5) (co_k5 h1) (μ18.1 b1 3) r9 μ18 _ h) nx_X3_38 m_s_X6_put m_n_X6 m_c_X6_put hd_X6_put ⟨Nat.zero_le _, Nat.zero_le _⟩ rfl rfl ⟨Nat.le_of_ble_eq_true rfl, Nat.le_of_ble_eq_true rfl⟩ rfl rfl (Nat.le_of_ble_eq_true rfl) dX3_readPost_92 (fun μ20 h => ?_)
    refine b_aload_n X dX3_readPost_95 rfl 4 rfl ?_
    refine g_0_10 X h1 m_f_X3_131 dX3_readPost_96 ?_
    refine b_aload_n X dX3_readPost_99 rfl 4 rfl ?_
    refine g_0_3 X h1 m_f_X3_96 dX3_readPost_100 ?_
    refine b_iload X dX3_readPost_103 0 rfl ?_
    refine bNv (st := []) (host := "FogNets") (nA := 3) X (c_X6_put l D C ad (b1 + 6) (co_k6 h1) (μ20.1 b1 3) r11 μ20 _ h) nx_X3_38 m_s_X6_put m_n_X6 m_c_X6_put hd_X6_put ⟨Nat.zero_le _, Nat.zero_le _⟩ rfl rfl ⟨Nat.le_of_ble_eq_true rfl, Nat.le_of_ble_eq_true rfl⟩ rfl rfl (Nat.le_of_ble_eq_true rfl) dX3_readPost_105 (fun μ22 h => ?_)
    refine b_aload_n X dX3_readPost_108 rfl 4 rfl ?_
    refine b_dup X dX3_readPost_109 rfl ?_
    refine g_0_3 X h1 m_f_X3_96 dX3_readPost_110 ?_
    refine b_iconst (v := (nI 1)) X dX3_readPost_113 (by decide) ?_
    refine b_iadd X dX3_readPost_114 ?_
    refine p_0_3 X h1 m_f_X3_96 dX3_readPost_115 (fun μ23 eμ23 => ?_)
    replace h := h μ23 eμ23
    exact hret _ _ _ h dX3_readPost_118
  refine b_aload_n X dX3_readPost_0 rfl 0 rfl ?_
  refine b_iconst (v := (nI 0)) X dX3_readPost_1 (by decide) ?_
  refine b_aload_n X dX3_readPost_2 rfl 1 rfl ?_
  refine g_0_0 X h1 m_f_X3_90 dX3_readPost_3 ?_
  refine b_iconst (v := (nI 1)) X dX3_readPost_6 (by decide) ?_
  refine b_isub X dX3_readPost_7 ?_
  refine bVi (st := []) (nA := 2) X (c_X3_readNumber l D C ad (nI 0) ((μ.1 b1 0) - (nI 1)) μ _ h) kF_1 (by decide) (enc_3 kF_1) rfl gw_X3_102 ⟨rfl, hd_X3_readNumber⟩ ⟨Nat.zero_le _, Nat.zero_le _⟩ rfl rfl ⟨Nat.le_of_ble_eq_true rfl, Nat.le_of_ble_eq_true rfl⟩ rfl rfl (Nat.le_of_ble_eq_true rfl) dX3_readPost_8 (fun r1 μ2 h => ?_)
  refine b_istore_n (lv' := [(2, .int r1), (0, .ref (ad 1)), (1, .ref (ad b1))]) X dX3_readPost_11 rfl (by decide) rfl ?_
  refine b_aload_n X dX3_readPost_12 rfl 2 rfl ?_
  refine b_iload_n X dX3_readPost_13 rfl 0 rfl ?_
  refine bVi (st := []) (nA := 1) X (c_X0_hasPostIn l D C ad b1 h1 r1 μ2 _ h) h1 (by decide) (enc_0 h1) rfl gw_X3_118 ⟨rfl, hd_X0_hasPostIn⟩ ⟨Nat.zero_le _, Nat.zero_le _⟩ rfl rfl ⟨Nat.le_of_ble_eq_true rfl, Nat.le_of_ble_eq_true rfl⟩ rfl rfl (Nat.le_of_ble_eq_true rfl) dX3_readPost_14 (fun r3 μ4 h => ?_)
  obtain ⟨rfl, h⟩ := h
  refine b_if_eq (t := 29) X dX3_readPost_17 (by decide) (fun c => ?_) (fun c => ?_)
  · replace h := h.1 c
    refine b_sub (lv' := [(0, .ref (ad 1)), (1, .ref (ad b1)), (2, .int r1)]) [1, 2, 0] rfl ?_
    exact B29 r1 μ2 h
  · replace h := h.2 c
    refine b_aload_n X dX3_readPost_20 rfl 1 rfl ?_
    refine b_iconst (v := (nI 4)) X dX3_readPost_21 (by decide) ?_
    refine b_aload_n X dX3_readPost_22 rfl 1 rfl ?_
    refine g_3_3 X kF_1 m_f_X3_22 dX3_readPost_23 ?_
    refine bVv (st := []) (nA := 2) X (c_X3_fail l D C ad (nI 4) (μ2.1 1 3) μ2 _ h) kF_1 (by decide) (enc_3 kF_1) rfl gw_X3_63 ⟨rfl, hd_X3_fail⟩ ⟨Nat.zero_le _, Nat.zero_le _⟩ rfl rfl ⟨Nat.le_of_ble_eq_true rfl, Nat.le_of_ble_eq_true rfl⟩ rfl rfl (Nat.le_of_ble_eq_true rfl) dX3_readPost_26 (fun μ6 h => ?_)
    refine b_sub (lv' := [(0, .ref (ad 1)), (1, .ref (ad b1)), (2, .int r1)]) [1, 2, 0] rfl ?_
    exact B29 r1 μ6 h
set_option maxHeartbeats 4000000 in
set_option maxRecDepth 100000 in
theorem c_X3_readPair (l : Launch) (D : va_G) (C : Nat → ClassId) (ad : Nat → Nat) (b1 : Nat) (h1 : sF.2.1 b1 = 8) (a2 : Int32) (μ : Mem) (Q : Mem → Prop) (h : w_X3_readPair b1 a2 μ Q) : Mv sF l yX3_readPair cX3_readPair 3 none rm_X3_readPair D C ad [.ref (ad 1), .ref (ad b1), .int a2] μ Q := by
  refine fm_v (by decide +kernel) sF_lt (Nat.le_of_ble_eq_true rfl) (fun K X hret => ?_)
  have X : CK sF D C ad K cX3_readPair 3 RX3 := X
  refine b_lv (lv' := [(0, .ref (ad 1)), (1, .ref (ad b1)), (2, .int a2)]) rfl ?_
  unfold w_X3_readPair at h
  refine b_aload_n X dX3_readPair_0 rfl 1 rfl ?_
  refine b_iconst (v := (nI 0)) X dX3_readPair_1 (by decide) ?_
  refine b_aload_n X dX3_readPair_2 rfl 0 rfl ?_
  refine b_iconst (v := (nI 0)) X dX3_readPair_3 (by decide) ?_
  refine b_iload_n X dX3_readPair_4 rfl 2 rfl ?_
  refine bVi (st := [.int (nI 0), .ref (ad b1)]) (nA := 2) X (c_X3_readNumber l D C ad (nI 0) a2 μ _ h) kF_1 (by decide) (enc_3 kF_1) rfl gw_X3_102 ⟨rfl, hd_X3_readNumber⟩ ⟨Nat.zero_le _, Nat.zero_le _⟩ rfl rfl ⟨Nat.le_of_ble_eq_true rfl, Nat.le_of_ble_eq_true rfl⟩ rfl rfl (Nat.le_of_ble_eq_true rfl) dX3_readPair_5 (fun r1 μ2 h => ?_)
  refine bNv (st := []) (host := "FogNets") (nA := 3) X (c_X6_put l D C ad b1 h1 (nI 0) r1 μ2 _ h) nx_X3_38 m_s_X6_put m_n_X6 m_c_X6_put hd_X6_put ⟨Nat.zero_le _, Nat.zero_le _⟩ rfl rfl ⟨Nat.le_of_ble_eq_true rfl, Nat.le_of_ble_eq_true rfl⟩ rfl rfl (Nat.le_of_ble_eq_true rfl) dX3_readPair_8 (fun μ4 h => ?_)
  refine b_aload_n X dX3_readPair_11 rfl 1 rfl ?_
  refine b_iconst (v := (nI 1)) X dX3_readPair_12 (by decide) ?_
  refine b_aload_n X dX3_readPair_13 rfl 0 rfl ?_
  refine b_iconst (v := (nI 0)) X dX3_readPair_14 (by decide) ?_
  refine b_iload_n X dX3_readPair_15 rfl 2 rfl ?_
  refine bVi (st := [.int (nI 1), .ref (ad b1)]) (nA := 2) X (c_X3_readNumber l D C ad (nI 0) a2 μ4 _ h) kF_1 (by decide) (enc_3 kF_1) rfl gw_X3_102 ⟨rfl, hd_X3_readNumber⟩ ⟨Nat.zero_le _, Nat.zero_le _⟩ rfl rfl ⟨Nat.le_of_ble_eq_true rfl, Nat.le_of_ble_eq_true rfl⟩ rfl rfl (Nat.le_of_ble_eq_true rfl) dX3_readPair_16 (fun r5 μ6 h => ?_)
  refine bNv (st := []) (host := "FogNets") (nA := 3) X (c_X6_put l D C ad b1 h1 (nI 1) r5 μ6 _ h) nx_X3_38 m_s_X6_put m_n_X6 m_c_X6_put hd_X6_put ⟨Nat.zero_le _, Nat.zero_le _⟩ rfl rfl ⟨Nat.le_of_ble_eq_true rfl, Nat.le_of_ble_eq_true rfl⟩ rfl rfl (Nat.le_of_ble_eq_true rfl) dX3_readPair_19 (fun μ8 h => ?_)
  refine b_aload_n X dX3_readPair_22 rfl 0 rfl ?_
  refine bVv (st := []) (nA := 0) X (c_X3_readEnd l D C ad  μ8 _ h) kF_1 (by decide) (enc_3 kF_1) rfl gw_X3_106 ⟨rfl, hd_X3_readEnd⟩ ⟨Nat.zero_le _, Nat.zero_le _⟩ rfl rfl ⟨Nat.le_of_ble_eq_true rfl, Nat.le_of_ble_eq_true rfl⟩ rfl rfl (Nat.le_of_ble_eq_true rfl) dX3_readPair_23 (fun μ10 h => ?_)
  exact hret _ _ _ h dX3_readPair_26
set_option maxHeartbeats 4000000 in
set_option maxRecDepth 100000 in
theorem c_X3_readGoat (l : Launch) (D : va_G) (C : Nat → ClassId) (ad : Nat → Nat) (b1 : Nat) (h1 : sF.2.1 b1 = 0) (μ : Mem) (Q : Mem → Prop) (h : w_X3_readGoat b1 μ Q) : Mv sF l yX3_readGoat cX3_readGoat 4 none rm_X3_readGoat D C ad [.ref (ad 1), .ref (ad b1)] μ Q := by
  refine fm_v (by decide +kernel) sF_lt (Nat.le_of_ble_eq_true rfl) (fun K X hret => ?_)
  have X : CK sF D C ad K cX3_readGoat 4 RX3 := X
  refine b_lv (lv' := [(0, .ref (ad 1)), (1, .ref (ad b1))]) rfl ?_
  unfold w_X3_readGoat at h
  refine b_aload_n X dX3_readGoat_0 rfl 0 rfl ?_
  refine b_iconst (v := (nI 0)) X dX3_readGoat_1 (by decide) ?_
  refine b_aload_n X dX3_readGoat_2 rfl 1 rfl ?_
  refine g_0_0 X h1 m_f_X3_90 dX3_readGoat_3 ?_
  refine b_iconst (v := (nI 1)) X dX3_readGoat_6 (by decide) ?_
  refine b_isub X dX3_readGoat_7 ?_
  refine bVi (st := []) (nA := 2) X (c_X3_readNumber l D C ad (nI 0) ((μ.1 b1 0) - (nI 1)) μ _ h) kF_1 (by decide) (enc_3 kF_1) rfl gw_X3_102 ⟨rfl, hd_X3_readNumber⟩ ⟨Nat.zero_le _, Nat.zero_le _⟩ rfl rfl ⟨Nat.le_of_ble_eq_true rfl, Nat.le_of_ble_eq_true rfl⟩ rfl rfl (Nat.le_of_ble_eq_true rfl) dX3_readGoat_8 (fun r1 μ2 h => ?_)
  refine b_istore_n (lv' := [(2, .int r1), (0, .ref (ad 1)), (1, .ref (ad b1))]) X dX3_readGoat_11 rfl (by decide) rfl ?_
  refine b_aload_n X dX3_readGoat_12 rfl 1 rfl ?_
  refine b_iconst (v := (nI 1)) X dX3_readGoat_13 (by decide) ?_
  refine b_bipush (v := (nI 20)) X dX3_readGoat_14 (by decide) ?_
  refine bVi (st := []) (nA := 2) X (c_X3_readNumber l D C ad (nI 1) (nI 20) μ2 _ h) kF_1 (by decide) (enc_3 kF_1) rfl gw_X3_102 ⟨rfl, hd_X3_readNumber⟩ ⟨Nat.zero_le _, Nat.zero_le _⟩ rfl rfl ⟨Nat.le_of_ble_eq_true rfl, Nat.le_of_ble_eq_true rfl⟩ rfl rfl (Nat.le_of_ble_eq_true rfl) dX3_readGoat_16 (fun r3 μ4 h => ?_)
  refine b_istore_n (lv' := [(3, .int r3), (2, .int r1), (0, .ref (ad 1)), (1, .ref (ad b1))]) X dX3_readGoat_19 rfl (by decide) rfl ?_
  refine b_aload_n X dX3_readGoat_20 rfl 2 rfl ?_
  refine bVv (st := []) (nA := 0) X (c_X3_readEnd l D C ad  μ4 _ h) kF_1 (by decide) (enc_3 kF_1) rfl gw_X3_106 ⟨rfl, hd_X3_readEnd⟩ ⟨Nat.zero_le _, Nat.zero_le _⟩ rfl rfl ⟨Nat.le_of_ble_eq_true rfl, Nat.le_of_ble_eq_true rfl⟩ rfl rfl (Nat.le_of_ble_eq_true rfl) dX3_readGoat_21 (fun μ6 h => ?_)
  refine b_aload_n X dX3_readGoat_24 rfl 3 rfl ?_
  refine g_0_13 X h1 m_f_X3_134 dX3_readGoat_25 ?_
  refine b_aload_n X dX3_readGoat_28 rfl 3 rfl ?_
  refine g_0_4 X h1 m_f_X3_99 dX3_readGoat_29 ?_
  refine b_iload_n X dX3_readGoat_32 rfl 1 rfl ?_
  refine bNv (st := []) (host := "FogNets") (nA := 3) X (c_X6_put l D C ad (b1 + 9) (co_k9 h1) (μ6.1 b1 4) r1 μ6 _ h) nx_X3_38 m_s_X6_put m_n_X6 m_c_X6_put hd_X6_put ⟨Nat.zero_le _, Nat.zero_le _⟩ rfl rfl ⟨Nat.le_of_ble_eq_true rfl, Nat.le_of_ble_eq_true rfl⟩ rfl rfl (Nat.le_of_ble_eq_true rfl) dX3_readGoat_33 (fun μ8 h => ?_)
  refine b_aload_n X dX3_readGoat_36 rfl 3 rfl ?_
  refine g_0_14 X h1 m_f_X3_137 dX3_readGoat_37 ?_
  refine b_aload_n X dX3_readGoat_40 rfl 3 rfl ?_
  refine g_0_4 X h1 m_f_X3_99 dX3_readGoat_41 ?_
  refine b_iload_n X dX3_readGoat_44 rfl 0 rfl ?_
  refine bNv (st := []) (host := "FogNets") (nA := 3) X (c_X6_put l D C ad (b1 + 10) (co_k10 h1) (μ8.1 b1 4) r3 μ8 _ h) nx_X3_38 m_s_X6_put m_n_X6 m_c_X6_put hd_X6_put ⟨Nat.zero_le _, Nat.zero_le _⟩ rfl rfl ⟨Nat.le_of_ble_eq_true rfl, Nat.le_of_ble_eq_true rfl⟩ rfl rfl (Nat.le_of_ble_eq_true rfl) dX3_readGoat_45 (fun μ10 h => ?_)
  refine b_aload_n X dX3_readGoat_48 rfl 3 rfl ?_
  refine b_dup X dX3_readGoat_49 rfl ?_
  refine g_0_4 X h1 m_f_X3_99 dX3_readGoat_50 ?_
  refine b_iconst (v := (nI 1)) X dX3_readGoat_53 (by decide) ?_
  refine b_iadd X dX3_readGoat_54 ?_
  refine p_0_4 X h1 m_f_X3_99 dX3_readGoat_55 (fun μ11 eμ11 => ?_)
  replace h := h μ11 eμ11
  exact hret _ _ _ h dX3_readGoat_58
set_option maxHeartbeats 4000000 in
set_option maxRecDepth 100000 in
theorem c_X3_readClause (l : Launch) (D : va_G) (C : Nat → ClassId) (ad : Nat → Nat) (b1 : Nat) (h1 : sF.2.1 b1 = 0) (a2 : Int32) (μ : Mem) (Q : Mem → Prop) (h : w_X3_readClause b1 a2 μ Q) : Mv sF l yX3_readClause cX3_readClause 4 none rm_X3_readClause D C ad [.ref (ad 1), .ref (ad b1), .int a2] μ Q := by
  refine fm_v (by decide +kernel) sF_lt (Nat.le_of_ble_eq_true rfl) (fun K X hret => ?_)
  have X : CK sF D C ad K cX3_readClause 4 RX3 := X
  refine b_lv (lv' := [(0, .ref (ad 1)), (1, .ref (ad b1)), (2, .int a2)]) rfl ?_
  unfold w_X3_readClause at h
  refine b_aload_n X dX3_readClause_0 rfl 0 rfl ?_
  refine b_aload_n X dX3_readClause_1 rfl 1 rfl ?_
  refine b_iload_n X dX3_readClause_2 rfl 2 rfl ?_
  refine bVi (st := []) (nA := 2) X (c_X3_faultOfWord l D C ad b1 h1 a2 μ _ h) kF_1 (by decide) (enc_3 kF_1) rfl gw_X3_59 ⟨rfl, hd_X3_faultOfWord⟩ ⟨Nat.zero_le _, Nat.zero_le _⟩ rfl rfl ⟨Nat.le_of_ble_eq_true rfl, Nat.le_of_ble_eq_true rfl⟩ rfl rfl (Nat.le_of_ble_eq_true rfl) dX3_readClause_3 (fun r1 μ2 h => ?_)
  obtain ⟨rfl, h⟩ := h
  refine b_istore_n (lv' := [(3, .int r1), (0, .ref (ad 1)), (1, .ref (ad b1)), (2, .int a2)]) X dX3_readClause_6 rfl (by decide) rfl ?_
  refine b_iload_n X dX3_readClause_7 rfl 0 rfl ?_
  refine b_if_eq (t := 21) X dX3_readClause_8 (by decide) (fun c => ?_) (fun c => ?_)
  · replace h := h.1 c
    refine b_aload_n X dX3_readClause_21 rfl 1 rfl ?_
    refine b_dup X dX3_readClause_22 rfl ?_
    refine g_3_2 X kF_1 m_f_X3_19 dX3_readClause_23 ?_
    refine b_iconst (v := (nI 1)) X dX3_readClause_26 (by decide) ?_
    refine b_iadd X dX3_readClause_27 ?_
    refine p_3_2 X kF_1 m_f_X3_19 dX3_readClause_28 (fun μ3 eμ3 => ?_)
    replace h := h μ3 eμ3
    refine b_iload_n X dX3_readClause_31 rfl 3 rfl ?_
    by_cases c0 : a2 = (nI 100)
    · replace h := h.1 c0
      refine b_ls (t := 108) X dX3_readClause_32 (by decide) (by first | (rw [c0]; done) | (rw [c0]; decide +kernel)) (by decide) ?_
      refine b_aload_n X dX3_readClause_108 rfl 1 rfl ?_
      refine b_aload_n X dX3_readClause_109 rfl 2 rfl ?_
      refine g_0_11 X h1 m_f_X3_77 dX3_readClause_110 ?_
      refine b_bipush (v := (nI 127)) X dX3_readClause_113 (by decide) ?_
      refine bVv (st := []) (nA := 2) X (c_X3_readPair l D C ad (b1 + 7) (co_k7 h1) (nI 127) μ3 _ h) kF_1 (by decide) (enc_3 kF_1) rfl gw_X3_80 ⟨rfl, hd_X3_readPair⟩ ⟨Nat.zero_le _, Nat.zero_le _⟩ rfl rfl ⟨Nat.le_of_ble_eq_true rfl, Nat.le_of_ble_eq_true rfl⟩ rfl rfl (Nat.le_of_ble_eq_true rfl) dX3_readClause_115 (fun μ5 h => ?_)
      refine b_aload_n X dX3_readClause_118 rfl 1 rfl ?_
      refine b_iconst (v := (nI 1)) X dX3_readClause_119 (by decide) ?_
      refine p_3_6 X kF_1 (Or.inr rfl) m_f_X3_31 dX3_readClause_120 (fun μ6 eμ6 => ?_)
      replace h := h μ6 eμ6
      refine b_goto (t := 149) X dX3_readClause_123 (by decide) ?_
      exact hret _ _ _ h dX3_readClause_149
    replace h := h.2 c0
    by_cases c1 : a2 = (nI 102)
    · replace h := h.1 c1
      refine b_ls (t := 84) X dX3_readClause_32 (by decide) (by first | (rw [c1]; done) | (rw [c1]; decide +kernel)) (by decide) ?_
      refine b_aload_n X dX3_readClause_84 rfl 1 rfl ?_
      refine b_aload_n X dX3_readClause_85 rfl 2 rfl ?_
      refine bVv (st := []) (nA := 1) X (c_X3_readCells l D C ad b1 h1 μ3 _ h) kF_1 (by decide) (enc_3 kF_1) rfl gw_X3_67 ⟨rfl, hd_X3_readCells⟩ ⟨Nat.zero_le _, Nat.zero_le _⟩ rfl rfl ⟨Nat.le_of_ble_eq_true rfl, Nat.le_of_ble_eq_true rfl⟩ rfl rfl (Nat.le_of_ble_eq_true rfl) dX3_readClause_86 (fun μ8 h => ?_)
      refine b_goto (t := 149) X dX3_readClause_89 (by decide) ?_
      exact hret _ _ _ h dX3_readClause_149
    replace h := h.2 c1
    by_cases c2 : a2 = (nI 104)
    · replace h := h.1 c2
      refine b_ls (t := 92) X dX3_readClause_32 (by decide) (by first | (rw [c2]; done) | (rw [c2]; decide +kernel)) (by decide) ?_
      refine b_aload_n X dX3_readClause_92 rfl 1 rfl ?_
      refine b_aload_n X dX3_readClause_93 rfl 2 rfl ?_
      refine bVv (st := []) (nA := 1) X (c_X3_readHour l D C ad b1 h1 μ3 _ h) kF_1 (by decide) (enc_3 kF_1) rfl gw_X3_71 ⟨rfl, hd_X3_readHour⟩ ⟨Nat.zero_le _, Nat.zero_le _⟩ rfl rfl ⟨Nat.le_of_ble_eq_true rfl, Nat.le_of_ble_eq_true rfl⟩ rfl rfl (Nat.le_of_ble_eq_true rfl) dX3_readClause_94 (fun μ10 h => ?_)
      refine b_goto (t := 149) X dX3_readClause_97 (by decide) ?_
      exact hret _ _ _ h dX3_readClause_149
    replace h := h.2 c2
    by_cases c3 : a2 = (nI 112)
    · replace h := h.1 c3
      refine b_ls (t := 100) X dX3_readClause_32 (by decide) (by first | (rw [c3]; done) | (rw [c3]; decide +kernel)) (by decide) ?_
      refine b_aload_n X dX3_readClause_100 rfl 1 rfl ?_
      refine b_aload_n X dX3_readClause_101 rfl 2 rfl ?_
      refine bVv (st := []) (nA := 1) X (c_X3_readPost l D C ad b1 h1 μ3 _ h) kF_1 (by decide) (enc_3 kF_1) rfl gw_X3_74 ⟨rfl, hd_X3_readPost⟩ ⟨Nat.zero_le _, Nat.zero_le _⟩ rfl rfl ⟨Nat.le_of_ble_eq_true rfl, Nat.le_of_ble_eq_true rfl⟩ rfl rfl (Nat.le_of_ble_eq_true rfl) dX3_readClause_102 (fun μ12 h => ?_)
      refine b_goto (t := 149) X dX3_readClause_105 (by decide) ?_
      exact hret _ _ _ h dX3_readClause_149
    replace h := h.2 c3
    by_cases c4 : a2 = (nI 117)
    · replace h := h.1 c4
      refine b_ls (t := 126) X dX3_readClause_32 (by decide) (by first | (rw [c4]; done) | (rw [c4]; decide +kernel)) (by decide) ?_
      refine b_aload_n X dX3_readClause_126 rfl 1 rfl ?_
      refine b_aload_n X dX3_readClause_127 rfl 2 rfl ?_
      refine g_0_12 X h1 m_f_X3_84 dX3_readClause_128 ?_
      refine b_bipush (v := (nI 99)) X dX3_readClause_131 (by decide) ?_
      refine bVv (st := []) (nA := 2) X (c_X3_readPair l D C ad (b1 + 8) (co_k8 h1) (nI 99) μ3 _ h) kF_1 (by decide) (enc_3 kF_1) rfl gw_X3_80 ⟨rfl, hd_X3_readPair⟩ ⟨Nat.zero_le _, Nat.zero_le _⟩ rfl rfl ⟨Nat.le_of_ble_eq_true rfl, Nat.le_of_ble_eq_true rfl⟩ rfl rfl (Nat.le_of_ble_eq_true rfl) dX3_readClause_133 (fun μ14 h => ?_)
      refine b_aload_n X dX3_readClause_136 rfl 1 rfl ?_
      refine b_iconst (v := (nI 1)) X dX3_readClause_137 (by decide) ?_
      refine p_3_7 X kF_1 (Or.inr rfl) m_f_X3_35 dX3_readClause_138 (fun μ15 eμ15 => ?_)
      replace h := h μ15 eμ15
      refine b_goto (t := 149) X dX3_readClause_141 (by decide) ?_
      exact hret _ _ _ h dX3_readClause_149
    replace h := h.2 c4
    have e0 := i32ne (j := 100) c0 (by decide)
    have e1 := i32ne (j := 102) c1 (by decide)
    have e2 := i32ne (j := 104) c2 (by decide)
    have e3 := i32ne (j := 112) c3 (by decide)
    have e4 := i32ne (j := 117) c4 (by decide)
    refine b_ls (off := 112) (t := 144) X dX3_readClause_32 (by decide) (by simp [Op.lookupswitch.offset, Ne.symm e0, e0, Ne.symm e1, e1, Ne.symm e2, e2, Ne.symm e3, e3, Ne.symm e4, e4]) (by decide) ?_
    refine b_aload_n X dX3_readClause_144 rfl 1 rfl ?_
    refine b_aload_n X dX3_readClause_145 rfl 2 rfl ?_
    refine bVv (st := []) (nA := 1) X (c_X3_readGoat l D C ad b1 h1 μ3 _ h) kF_1 (by decide) (enc_3 kF_1) rfl gw_X3_87 ⟨rfl, hd_X3_readGoat⟩ ⟨Nat.zero_le _, Nat.zero_le _⟩ rfl rfl ⟨Nat.le_of_ble_eq_true rfl, Nat.le_of_ble_eq_true rfl⟩ rfl rfl (Nat.le_of_ble_eq_true rfl) dX3_readClause_146 (fun μ17 h => ?_)
    exact hret _ _ _ h dX3_readClause_149
  · replace h := h.2 c
    refine b_aload_n X dX3_readClause_11 rfl 1 rfl ?_
    refine b_iload_n X dX3_readClause_12 rfl 0 rfl ?_
    refine b_aload_n X dX3_readClause_13 rfl 1 rfl ?_
    refine g_3_2 X kF_1 m_f_X3_19 dX3_readClause_14 ?_
    refine bVv (st := []) (nA := 2) X (c_X3_fail l D C ad r1 (μ.1 1 2) μ _ h) kF_1 (by decide) (enc_3 kF_1) rfl gw_X3_63 ⟨rfl, hd_X3_fail⟩ ⟨Nat.zero_le _, Nat.zero_le _⟩ rfl rfl ⟨Nat.le_of_ble_eq_true rfl, Nat.le_of_ble_eq_true rfl⟩ rfl rfl (Nat.le_of_ble_eq_true rfl) dX3_readClause_17 (fun μ19 h => ?_)
    exact hret _ _ _ h dX3_readClause_20
set_option maxHeartbeats 4000000 in
set_option maxRecDepth 100000 in
theorem c_X3_readAll (l : Launch) (D : va_G) (C : Nat → ClassId) (ad : Nat → Nat) (b1 : Nat) (h1 : sF.2.1 b1 = 0) (μ : Mem) (Q : Int32 → Mem → Prop) (h : w_X3_readAll b1 μ Q) : Mi sF l yX3_readAll cX3_readAll 4 (some .int) rm_X3_readAll D C ad [.ref (ad 1), .ref (ad b1)] μ Q := by
  refine fm_i (by decide +kernel) sF_lt (Nat.le_of_ble_eq_true rfl) (fun K X hret => ?_)
  have X : CK sF D C ad K cX3_readAll 4 RX3 := X
  refine b_lv (lv' := [(0, .ref (ad 1)), (1, .ref (ad b1))]) rfl ?_
  unfold w_X3_readAll at h
  have B31 : ∀ (v2 : Int32) (μ : Mem), w_X3_readAll_31 b1 v2 μ Q → WB sF l D C ad rm_X3_readAll K 4 μ 31 [(0, .ref (ad 1)), (1, .ref (ad b1)), (2, .int v2)] [] := by
    intro v2 μ h
    obtain ⟨Y31, eY⟩ : ∃ Y : Int32 → Mem → Prop, Y = fun (v2 : Int32) (μ : Mem) => WB sF l D C ad rm_X3_readAll K 4 μ 31 [(0, .ref (ad 1)), (1, .ref (ad b1)), (2, .int v2)] [] := ⟨_, rfl⟩
    have B31 : Y31 v2 μ := by
      unfold w_X3_readAll_31 at h
      refine h Y31 ?_
      clear h
      intro v2 μ h
      unfold s_X3_readAll_31 at h
      rw [eY]
      show WB sF l D C ad rm_X3_readAll K 4 μ 31 [(0, .ref (ad 1)), (1, .ref (ad b1)), (2, .int v2)] []
      have T31 : ∀ (v2 : Int32) (μ : Mem), Y31 v2 μ → WB sF l D C ad rm_X3_readAll K 4 μ 31 [(0, .ref (ad 1)), (1, .ref (ad b1)), (2, .int v2)] [] := by
        intro v2 μ h
        rw [eY] at h
        exact h
      clear eY
      have B70 : ∀ (μ : Mem), w_X3_readAll_70 b1 μ Q → WB sF l D C ad rm_X3_readAll K 4 μ 70 [(0, .ref (ad 1))] [] := by
        intro μ h
        unfold w_X3_readAll_70 at h
        refine b_aload_n X dX3_readAll_70 rfl 0 rfl ?_
        refine b_iconst (v := (nI 0)) X dX3_readAll_71 (by decide) ?_
        refine p_3_1 X kF_1 m_f_X3_15 dX3_readAll_72 (fun μ13 eμ13 => ?_)
        replace h := h μ13 eμ13
        refine b_aload_n X dX3_readAll_75 rfl 0 rfl ?_
        refine g_3_4 X kF_1 m_f_X3_25 dX3_readAll_76 ?_
        exact hret _ _ _ _ h dX3_readAll_79
      have B55 : ∀ (μ : Mem), w_X3_readAll_55 b1 μ Q → WB sF l D C ad rm_X3_readAll K 4 μ 55 [(0, .ref (ad 1))] [] := by
        intro μ h
        unfold w_X3_readAll_55 at h
        refine b_goto (t := 70) X dX3_readAll_55 (by decide) ?_
        refine b_sub (lv' := [(0, .ref (ad 1))]) [0] rfl ?_
        exact B70 μ h
      refine b_iload_n X dX3_readAll_31 rfl 2 rfl ?_
      refine b_sipush (v := (nI 240)) X dX3_readAll_32 (by decide) ?_
      refine b_icmp_ge (t := 70) X dX3_readAll_35 (by decide) (fun c => ?_) (fun c => ?_)
      · replace h := h.1 c
        refine b_sub (lv' := [(0, .ref (ad 1))]) [0] rfl ?_
        exact B70 μ h
      · replace h := h.2 c
        refine b_aload_n X dX3_readAll_38 rfl 0 rfl ?_
        refine g_3_4 X kF_1 m_f_X3_25 dX3_readAll_39 ?_
        refine b_if_ne (t := 70) X dX3_readAll_42 (by decide) (fun c => ?_) (fun c => ?_)
        · replace h := h.1 c
          refine b_sub (lv' := [(0, .ref (ad 1))]) [0] rfl ?_
          exact B70 μ h
        · replace h := h.2 c
          refine b_aload_n X dX3_readAll_45 rfl 0 rfl ?_
          refine bVi (st := []) (nA := 0) X (c_X3_nextLetter l D C ad  μ _ h) kF_1 (by decide) (enc_3 kF_1) rfl gw_X3_47 ⟨rfl, hd_X3_nextLetter⟩ ⟨Nat.zero_le _, Nat.zero_le _⟩ rfl rfl ⟨Nat.le_of_ble_eq_true rfl, Nat.le_of_ble_eq_true rfl⟩ rfl rfl (Nat.le_of_ble_eq_true rfl) dX3_readAll_46 (fun r8 μ9 h => ?_)
          refine b_istore_n (lv' := [(3, .int r8), (0, .ref (ad 1)), (1, .ref (ad b1)), (2, .int v2)]) X dX3_readAll_49 rfl (by decide) rfl ?_
          refine b_iload_n X dX3_readAll_50 rfl 0 rfl ?_
          refine b_iconst (v := ((-1) : Int32)) X dX3_readAll_51 (by decide) ?_
          refine b_icmp_ne (t := 58) X dX3_readAll_52 (by decide) (fun c => ?_) (fun c => ?_)
          · replace h := h.1 c
            refine b_aload_n X dX3_readAll_58 rfl 1 rfl ?_
            refine b_aload_n X dX3_readAll_59 rfl 2 rfl ?_
            refine b_iload_n X dX3_readAll_60 rfl 0 rfl ?_
            refine bVv (st := []) (nA := 2) X (c_X3_readClause l D C ad b1 h1 r8 μ9 _ h) kF_1 (by decide) (enc_3 kF_1) rfl gw_X3_51 ⟨rfl, hd_X3_readClause⟩ ⟨Nat.zero_le _, Nat.zero_le _⟩ rfl rfl ⟨Nat.le_of_ble_eq_true rfl, Nat.le_of_ble_eq_true rfl⟩ rfl rfl (Nat.le_of_ble_eq_true rfl) dX3_readAll_61 (fun μ11 h => ?_)
            obtain ⟨x12, ex12⟩ : ∃ y : Int32, y = v2 + (nI 1) := ⟨_, rfl⟩
            replace h := h x12 ex12
            refine b_iinc (x := x12) (lv' := [(2, .int x12), (3, .int r8), (0, .ref (ad 1)), (1, .ref (ad b1))]) (q := 3) X dX3_readAll_64 rfl (by rw [ex12]; rfl) (by decide) rfl ?_
            refine b_goto (t := 31) X dX3_readAll_67 (by decide) ?_
            refine b_sub (lv' := [(0, .ref (ad 1)), (1, .ref (ad b1)), (2, .int x12)]) [2, 3, 0] rfl ?_
            exact T31 x12 μ11 h
          · replace h := h.2 c
            refine b_sub (lv' := [(0, .ref (ad 1))]) [1] rfl ?_
            exact B55 μ9 h
    rw [eY] at B31
    exact B31
  refine b_aload_n X dX3_readAll_0 rfl 1 rfl ?_
  refine bVv (st := []) (nA := 0) X (c_X0_wipe l D C ad b1 h1 μ _ h) h1 (by decide) (enc_0 h1) rfl gw_X3_42 ⟨rfl, hd_X0_wipe⟩ ⟨Nat.zero_le _, Nat.zero_le _⟩ rfl rfl ⟨Nat.le_of_ble_eq_true rfl, Nat.le_of_ble_eq_true rfl⟩ rfl rfl (Nat.le_of_ble_eq_true rfl) dX3_readAll_1 (fun μ2 h => ?_)
  refine b_aload_n X dX3_readAll_4 rfl 0 rfl ?_
  refine b_iconst (v := (nI 0)) X dX3_readAll_5 (by decide) ?_
  refine p_3_2 X kF_1 m_f_X3_19 dX3_readAll_6 (fun μ3 eμ3 => ?_)
  replace h := h μ3 eμ3
  refine b_aload_n X dX3_readAll_9 rfl 0 rfl ?_
  refine b_iconst (v := (nI 0)) X dX3_readAll_10 (by decide) ?_
  refine p_3_4 X kF_1 m_f_X3_25 dX3_readAll_11 (fun μ4 eμ4 => ?_)
  replace h := h μ4 eμ4
  refine b_aload_n X dX3_readAll_14 rfl 0 rfl ?_
  refine b_iconst (v := ((-1) : Int32)) X dX3_readAll_15 (by decide) ?_
  refine p_3_5 X kF_1 m_f_X3_28 dX3_readAll_16 (fun μ5 eμ5 => ?_)
  replace h := h μ5 eμ5
  refine b_aload_n X dX3_readAll_19 rfl 0 rfl ?_
  refine b_iconst (v := (nI 0)) X dX3_readAll_20 (by decide) ?_
  refine p_3_6 X kF_1 (Or.inl rfl) m_f_X3_31 dX3_readAll_21 (fun μ6 eμ6 => ?_)
  replace h := h μ6 eμ6
  refine b_aload_n X dX3_readAll_24 rfl 0 rfl ?_
  refine b_iconst (v := (nI 0)) X dX3_readAll_25 (by decide) ?_
  refine p_3_7 X kF_1 (Or.inl rfl) m_f_X3_35 dX3_readAll_26 (fun μ7 eμ7 => ?_)
  replace h := h μ7 eμ7
  refine b_iconst (v := (nI 0)) X dX3_readAll_29 (by decide) ?_
  refine b_istore_n (lv' := [(2, .int (nI 0)), (0, .ref (ad 1)), (1, .ref (ad b1))]) X dX3_readAll_30 rfl (by decide) rfl ?_
  refine b_sub (lv' := [(0, .ref (ad 1)), (1, .ref (ad b1)), (2, .int (nI 0))]) [1, 2, 0] rfl ?_
  exact B31 (nI 0) μ7 h
