set_option maxHeartbeats 4000000 in
set_option maxRecDepth 100000 in
theorem c_X6_lookAt (l : Launch) (D : va_G) (C : Nat → ClassId) (ad : Nat → Nat) (a1 : Int32) (μ : Mem) (Q : Int32 → Mem → Prop) (h : w_X6_lookAt a1 μ Q) : Mi sF l yX6_lookAt cX6_lookAt 8 (some .int) rm_X6_lookAt D C ad [.ref (ad 0), .int a1] μ Q := by
  refine fm_i (by decide +kernel) sF_lt (Nat.le_of_ble_eq_true rfl) (fun K X hret => ?_)
  have X : CK sF D C ad K cX6_lookAt 8 RX6 := X
  refine b_lv (lv' := [(0, .ref (ad 0)), (1, .int a1)]) rfl ?_
  unfold w_X6_lookAt at h
  have B39 : ∀ (v2 : Int64) (v4 : Int32) (v5 : Int32) (v6 : Int32) (μ : Mem), w_X6_lookAt_39 a1 v2 v4 v5 v6 μ Q → WB sF l D C ad rm_X6_lookAt K 8 μ 39 [(0, .ref (ad 0)), (1, .int a1), (2, .long v2), (4, .int v4), (5, .int v5), (6, .int v6)] [] := by
    intro v2 v4 v5 v6 μ h
    obtain ⟨Y39, eY⟩ : ∃ Y : Int32 → Int32 → Int32 → Mem → Prop, Y = fun (v4 : Int32) (v5 : Int32) (v6 : Int32) (μ : Mem) => WB sF l D C ad rm_X6_lookAt K 8 μ 39 [(0, .ref (ad 0)), (1, .int a1), (2, .long v2), (4, .int v4), (5, .int v5), (6, .int v6)] [] := ⟨_, rfl⟩
    have B39 : Y39 v4 v5 v6 μ := by
      unfold w_X6_lookAt_39 at h
      refine h Y39 ?_
      clear h
      intro v4 v5 v6 μ h
      unfold s_X6_lookAt_39 at h
      rw [eY]
      show WB sF l D C ad rm_X6_lookAt K 8 μ 39 [(0, .ref (ad 0)), (1, .int a1), (2, .long v2), (4, .int v4), (5, .int v5), (6, .int v6)] []
      have T39 : ∀ (v4 : Int32) (v5 : Int32) (v6 : Int32) (μ : Mem), Y39 v4 v5 v6 μ → WB sF l D C ad rm_X6_lookAt K 8 μ 39 [(0, .ref (ad 0)), (1, .int a1), (2, .long v2), (4, .int v4), (5, .int v5), (6, .int v6)] [] := by
        intro v4 v5 v6 μ h
        rw [eY] at h
        exact h
      clear eY
      have B83 : ∀ (v4 : Int32) (v5 : Int32) (v6 : Int32) (μ : Mem), w_X6_lookAt_83 a1 Y39 v2 v4 v5 v6 μ Q → WB sF l D C ad rm_X6_lookAt K 8 μ 83 [(0, .ref (ad 0)), (1, .int a1), (2, .long v2), (4, .int v4), (5, .int v5), (6, .int v6)] [] := by
        intro v4 v5 v6 μ h
        unfold w_X6_lookAt_83 at h
        obtain ⟨x13, ex13⟩ : ∃ y : Int32, y = v6 + (nI 1) := ⟨_, rfl⟩
        replace h := h x13 ex13
        refine b_iinc (x := x13) (lv' := [(6, .int x13), (0, .ref (ad 0)), (1, .int a1), (2, .long v2), (4, .int v4), (5, .int v5)]) (q := 5) X dX6_lookAt_83 rfl (by rw [ex13]; rfl) (by decide) rfl ?_
        refine b_goto (t := 39) X dX6_lookAt_86 (by decide) ?_
        refine b_sub (lv' := [(0, .ref (ad 0)), (1, .int a1), (2, .long v2), (4, .int v4), (5, .int v5), (6, .int x13)]) [1, 2, 3, 4, 5, 0] rfl ?_
        exact T39 v4 v5 x13 μ h
      refine b_iload X dX6_lookAt_39 5 rfl ?_
      refine b_bipush (v := (nI 6)) X dX6_lookAt_41 (by decide) ?_
      refine b_icmp_ge (t := 89) X dX6_lookAt_43 (by decide) (fun c => ?_) (fun c => ?_)
      · replace h := h.1 c
        refine b_iload X dX6_lookAt_89 3 rfl ?_
        exact hret _ _ _ _ h dX6_lookAt_91
      · replace h := h.2 c
        refine b_aload_n X dX6_lookAt_46 rfl 0 rfl ?_
        refine b_iload X dX6_lookAt_47 5 rfl ?_
        refine bVi (st := []) (nA := 1) X (c_X6_isPost l D C ad v6 μ _ h) kF_0 (by decide) (enc_6 kF_0) rfl gw_X6_146 ⟨rfl, hd_X6_isPost⟩ rfl rfl ⟨Nat.le_of_ble_eq_true rfl, Nat.le_of_ble_eq_true rfl⟩ rfl rfl (Nat.le_of_ble_eq_true rfl) dX6_lookAt_49 (fun r9 μ10 h => ?_)
        obtain ⟨rfl, h⟩ := h
        refine b_if_ne (t := 58) X dX6_lookAt_52 (by decide) (fun c => ?_) (fun c => ?_)
        · replace h := h.1 c
          refine b_aload_n X dX6_lookAt_58 rfl 0 rfl ?_
          refine b_lload_n X dX6_lookAt_59 rfl 2 rfl ?_
          refine b_iload X dX6_lookAt_60 5 rfl ?_
          refine b_iload_n X dX6_lookAt_62 rfl 1 rfl ?_
          refine bVi (st := []) (nA := 3) X (c_X6_greatestPart l D C ad v2 v6 a1 μ _ h) kF_0 (by decide) (enc_6 kF_0) rfl gw_X6_310 ⟨rfl, hd_X6_greatestPart⟩ rfl rfl ⟨Nat.le_of_ble_eq_true rfl, Nat.le_of_ble_eq_true rfl⟩ rfl rfl (Nat.le_of_ble_eq_true rfl) dX6_lookAt_63 (fun r11 μ12 h => ?_)
          refine b_istore (lv' := [(7, .int r11), (0, .ref (ad 0)), (1, .int a1), (2, .long v2), (4, .int v4), (5, .int v5), (6, .int v6)]) X dX6_lookAt_66 (by decide) rfl ?_
          refine b_iload X dX6_lookAt_68 0 rfl ?_
          refine b_iload X dX6_lookAt_70 5 rfl ?_
          refine b_icmp_ge (t := 83) X dX6_lookAt_72 (by decide) (fun c => ?_) (fun c => ?_)
          · replace h := h.1 c
            refine b_sub (lv' := [(0, .ref (ad 0)), (1, .int a1), (2, .long v2), (4, .int v4), (5, .int v5), (6, .int v6)]) [1, 2, 3, 4, 5, 6] rfl ?_
            exact B83 v4 v5 v6 μ12 h
          · replace h := h.2 c
            refine b_iload X dX6_lookAt_75 0 rfl ?_
            refine b_istore (lv' := [(5, .int r11), (7, .int r11), (0, .ref (ad 0)), (1, .int a1), (2, .long v2), (4, .int v4), (6, .int v6)]) X dX6_lookAt_77 (by decide) rfl ?_
            refine b_iload X dX6_lookAt_79 6 rfl ?_
            refine b_istore (lv' := [(4, .int v6), (5, .int r11), (7, .int r11), (0, .ref (ad 0)), (1, .int a1), (2, .long v2), (6, .int v6)]) X dX6_lookAt_81 (by decide) rfl ?_
            refine b_sub (lv' := [(0, .ref (ad 0)), (1, .int a1), (2, .long v2), (4, .int v6), (5, .int r11), (6, .int v6)]) [3, 4, 5, 0, 1, 6] rfl ?_
            exact B83 v6 r11 v6 μ12 h
        · replace h := h.2 c
          refine b_goto (t := 83) X dX6_lookAt_55 (by decide) ?_
          refine b_sub (lv' := [(0, .ref (ad 0)), (1, .int a1), (2, .long v2), (4, .int v4), (5, .int v5), (6, .int v6)]) [0, 1, 2, 3, 4, 5] rfl ?_
          exact B83 v4 v5 v6 μ h
    rw [eY] at B39
    exact B39
  refine b_iload_n X dX6_lookAt_0 rfl 1 rfl ?_
  refine b_iconst (v := (nI 0)) X dX6_lookAt_1 (by decide) ?_
  refine b_iconst (v := (nI 1)) X dX6_lookAt_2 (by decide) ?_
  refine bSi (st := []) (nA := 3) X (c_X6_within l D C ad a1 (nI 0) (nI 1) μ _ h) gw_X6_80 hd_X6_within rfl rfl ⟨Nat.le_of_ble_eq_true rfl, Nat.le_of_ble_eq_true rfl⟩ rfl rfl (Nat.le_of_ble_eq_true rfl) dX6_lookAt_3 (fun r1 μ2 h => ?_)
  obtain ⟨rfl, h⟩ := h
  refine b_if_ne (t := 12) X dX6_lookAt_6 (by decide) (fun c => ?_) (fun c => ?_)
  · replace h := h.1 c
    refine b_aload_n X dX6_lookAt_12 rfl 0 rfl ?_
    refine bVi (st := []) (nA := 0) X (c_X6_isBare l D C ad  μ _ h) kF_0 (by decide) (enc_6 kF_0) rfl gw_X6_173 ⟨rfl, hd_X6_isBare⟩ rfl rfl ⟨Nat.le_of_ble_eq_true rfl, Nat.le_of_ble_eq_true rfl⟩ rfl rfl (Nat.le_of_ble_eq_true rfl) dX6_lookAt_13 (fun r3 μ4 h => ?_)
    obtain ⟨rfl, h⟩ := h
    refine b_if_eq (t := 22) X dX6_lookAt_16 (by decide) (fun c => ?_) (fun c => ?_)
    · replace h := h.1 c
      refine b_aload_n X dX6_lookAt_22 rfl 0 rfl ?_
      refine bVl (st := []) (nA := 0) X (c_X6_fitting l D C ad  μ _ h) kF_0 (by decide) (enc_6 kF_0) rfl gw_X6_301 ⟨rfl, hd_X6_fitting⟩ rfl rfl ⟨Nat.le_of_ble_eq_true rfl, Nat.le_of_ble_eq_true rfl⟩ rfl rfl (Nat.le_of_ble_eq_true rfl) dX6_lookAt_23 (fun r5 μ6 h => ?_)
      refine b_lstore_n (lv' := [(2, .long r5), (0, .ref (ad 0)), (1, .int a1)]) X dX6_lookAt_26 rfl (by decide) rfl ?_
      refine b_iconst (v := ((-1) : Int32)) X dX6_lookAt_27 (by decide) ?_
      refine b_istore (lv' := [(4, .int ((-1) : Int32)), (2, .long r5), (0, .ref (ad 0)), (1, .int a1)]) X dX6_lookAt_28 (by decide) rfl ?_
      refine b_lload_n X dX6_lookAt_30 rfl 1 rfl ?_
      refine bSi (st := []) (nA := 1) X (c_J13_bitCount_95d88 l D C ad r5 μ6 _ h) gw_X6_305 hd_J13_bitCount_95d88 rfl rfl ⟨Nat.le_of_ble_eq_true rfl, Nat.le_of_ble_eq_true rfl⟩ rfl rfl (Nat.le_of_ble_eq_true rfl) dX6_lookAt_31 (fun r7 μ8 h => ?_)
      obtain ⟨rfl, h⟩ := h
      refine b_istore (lv' := [(5, .int r7), (4, .int ((-1) : Int32)), (2, .long r5), (0, .ref (ad 0)), (1, .int a1)]) X dX6_lookAt_34 (by decide) rfl ?_
      refine b_iconst (v := (nI 0)) X dX6_lookAt_36 (by decide) ?_
      refine b_istore (lv' := [(6, .int (nI 0)), (5, .int r7), (4, .int ((-1) : Int32)), (2, .long r5), (0, .ref (ad 0)), (1, .int a1)]) X dX6_lookAt_37 (by decide) rfl ?_
      refine b_sub (lv' := [(0, .ref (ad 0)), (1, .int a1), (2, .long r5), (4, .int ((-1) : Int32)), (5, .int r7), (6, .int (nI 0))]) [4, 5, 3, 2, 1, 0] rfl ?_
      exact B39 r5 ((-1) : Int32) r7 (nI 0) μ6 h
    · replace h := h.2 c
      refine b_ldc (v := ((-1000000003) : Int32)) X m_k_X6_177 dX6_lookAt_19 ?_
      exact hret _ _ _ _ h dX6_lookAt_21
  · replace h := h.2 c
    refine b_ldc (v := ((-1000000002) : Int32)) X m_k_X6_84 dX6_lookAt_9 ?_
    exact hret _ _ _ _ h dX6_lookAt_11
set_option maxHeartbeats 4000000 in
set_option maxRecDepth 100000 in
theorem c_X6_needs (l : Launch) (D : va_G) (C : Nat → ClassId) (ad : Nat → Nat) (a1 : Int32) (a2 : Int32) (a3 : Int32) (μ : Mem) (Q : Int32 → Mem → Prop) (h : w_X6_needs a1 a2 a3 μ Q) : Mi sF l yX6_needs cX6_needs 5 (some .int) rm_X6_needs D C ad [.ref (ad 0), .int a1, .int a2, .int a3] μ Q := by
  refine fm_i (by decide +kernel) sF_lt (Nat.le_of_ble_eq_true rfl) (fun K X hret => ?_)
  have X : CK sF D C ad K cX6_needs 5 RX6 := X
  refine b_lv (lv' := [(0, .ref (ad 0)), (1, .int a1), (2, .int a2), (3, .int a3)]) rfl ?_
  unfold w_X6_needs at h
  have B36 : ∀ (v4 : Int32) (μ : Mem), w_X6_needs_36 a1 a2 a3 v4 μ Q → WB sF l D C ad rm_X6_needs K 5 μ 36 [(0, .ref (ad 0)), (1, .int a1), (2, .int a2), (3, .int a3), (4, .int v4)] [] := by
    intro v4 μ h
    obtain ⟨Y36, eY⟩ : ∃ Y : Int32 → Mem → Prop, Y = fun (v4 : Int32) (μ : Mem) => WB sF l D C ad rm_X6_needs K 5 μ 36 [(0, .ref (ad 0)), (1, .int a1), (2, .int a2), (3, .int a3), (4, .int v4)] [] := ⟨_, rfl⟩
    have B36 : Y36 v4 μ := by
      unfold w_X6_needs_36 at h
      refine h Y36 ?_
      clear h
      intro v4 μ h
      unfold s_X6_needs_36 at h
      rw [eY]
      show WB sF l D C ad rm_X6_needs K 5 μ 36 [(0, .ref (ad 0)), (1, .int a1), (2, .int a2), (3, .int a3), (4, .int v4)] []
      have T36 : ∀ (v4 : Int32) (μ : Mem), Y36 v4 μ → WB sF l D C ad rm_X6_needs K 5 μ 36 [(0, .ref (ad 0)), (1, .int a1), (2, .int a2), (3, .int a3), (4, .int v4)] [] := by
        intro v4 μ h
        rw [eY] at h
        exact h
      clear eY
      refine b_iload X dX6_needs_36 4 rfl ?_
      refine b_bipush (v := (nI 40)) X dX6_needs_38 (by decide) ?_
      refine b_icmp_gt (t := 64) X dX6_needs_40 (by decide) (fun c => ?_) (fun c => ?_)
      · replace h := h.1 c
        refine b_iconst (v := ((-1) : Int32)) X dX6_needs_64 (by decide) ?_
        exact hret _ _ _ _ h dX6_needs_65
      · replace h := h.2 c
        refine b_aload_n X dX6_needs_43 rfl 0 rfl ?_
        refine b_iload_n X dX6_needs_44 rfl 1 rfl ?_
        refine b_iload_n X dX6_needs_45 rfl 2 rfl ?_
        refine b_iload X dX6_needs_46 4 rfl ?_
        refine bVi (st := []) (nA := 3) X (c_X6_takenOf l D C ad a1 a2 v4 μ _ h) kF_0 (by decide) (enc_6 kF_0) rfl gw_X6_314 ⟨rfl, hd_X6_takenOf⟩ rfl rfl ⟨Nat.le_of_ble_eq_true rfl, Nat.le_of_ble_eq_true rfl⟩ rfl rfl (Nat.le_of_ble_eq_true rfl) dX6_needs_48 (fun r7 μ8 h => ?_)
        refine b_iload_n X dX6_needs_51 rfl 3 rfl ?_
        refine b_icmp_lt (t := 58) X dX6_needs_52 (by decide) (fun c => ?_) (fun c => ?_)
        · replace h := h.1 c
          obtain ⟨x9, ex9⟩ : ∃ y : Int32, y = v4 + (nI 1) := ⟨_, rfl⟩
          replace h := h x9 ex9
          refine b_iinc (x := x9) (lv' := [(4, .int x9), (0, .ref (ad 0)), (1, .int a1), (2, .int a2), (3, .int a3)]) (q := 4) X dX6_needs_58 rfl (by rw [ex9]; rfl) (by decide) rfl ?_
          refine b_goto (t := 36) X dX6_needs_61 (by decide) ?_
          refine b_sub (lv' := [(0, .ref (ad 0)), (1, .int a1), (2, .int a2), (3, .int a3), (4, .int x9)]) [1, 2, 3, 4, 0] rfl ?_
          exact T36 x9 μ8 h
        · replace h := h.2 c
          refine b_iload X dX6_needs_55 4 rfl ?_
          exact hret _ _ _ _ h dX6_needs_57
    rw [eY] at B36
    exact B36
  refine b_aload_n X dX6_needs_0 rfl 0 rfl ?_
  refine b_iload_n X dX6_needs_1 rfl 1 rfl ?_
  refine bVi (st := []) (nA := 1) X (c_X6_isPost l D C ad a1 μ _ h) kF_0 (by decide) (enc_6 kF_0) rfl gw_X6_146 ⟨rfl, hd_X6_isPost⟩ rfl rfl ⟨Nat.le_of_ble_eq_true rfl, Nat.le_of_ble_eq_true rfl⟩ rfl rfl (Nat.le_of_ble_eq_true rfl) dX6_needs_2 (fun r1 μ2 h => ?_)
  obtain ⟨rfl, h⟩ := h
  refine b_if_ne (t := 11) X dX6_needs_5 (by decide) (fun c => ?_) (fun c => ?_)
  · replace h := h.1 c
    refine b_iload_n X dX6_needs_11 rfl 2 rfl ?_
    refine b_iconst (v := (nI 0)) X dX6_needs_12 (by decide) ?_
    refine b_iconst (v := (nI 1)) X dX6_needs_13 (by decide) ?_
    refine bSi (st := []) (nA := 3) X (c_X6_within l D C ad a2 (nI 0) (nI 1) μ _ h) gw_X6_80 hd_X6_within rfl rfl ⟨Nat.le_of_ble_eq_true rfl, Nat.le_of_ble_eq_true rfl⟩ rfl rfl (Nat.le_of_ble_eq_true rfl) dX6_needs_14 (fun r3 μ4 h => ?_)
    obtain ⟨rfl, h⟩ := h
    refine b_if_eq (t := 30) X dX6_needs_17 (by decide) (fun c => ?_) (fun c => ?_)
    · replace h := h.1 c
      refine b_ldc (v := ((-1000000002) : Int32)) X m_k_X6_84 dX6_needs_30 ?_
      exact hret _ _ _ _ h dX6_needs_32
    · replace h := h.2 c
      refine b_iload_n X dX6_needs_20 rfl 3 rfl ?_
      refine b_iconst (v := (nI 0)) X dX6_needs_21 (by decide) ?_
      refine b_bipush (v := (nI 40)) X dX6_needs_22 (by decide) ?_
      refine bSi (st := []) (nA := 3) X (c_X6_within l D C ad a3 (nI 0) (nI 40) μ _ h) gw_X6_80 hd_X6_within rfl rfl ⟨Nat.le_of_ble_eq_true rfl, Nat.le_of_ble_eq_true rfl⟩ rfl rfl (Nat.le_of_ble_eq_true rfl) dX6_needs_24 (fun r5 μ6 h => ?_)
      obtain ⟨rfl, h⟩ := h
      refine b_if_ne (t := 33) X dX6_needs_27 (by decide) (fun c => ?_) (fun c => ?_)
      · replace h := h.1 c
        refine b_iconst (v := (nI 0)) X dX6_needs_33 (by decide) ?_
        refine b_istore (lv' := [(4, .int (nI 0)), (0, .ref (ad 0)), (1, .int a1), (2, .int a2), (3, .int a3)]) X dX6_needs_34 (by decide) rfl ?_
        refine b_sub (lv' := [(0, .ref (ad 0)), (1, .int a1), (2, .int a2), (3, .int a3), (4, .int (nI 0))]) [1, 2, 3, 4, 0] rfl ?_
        exact B36 (nI 0) μ h
      · replace h := h.2 c
        refine b_ldc (v := ((-1000000002) : Int32)) X m_k_X6_84 dX6_needs_30 ?_
        exact hret _ _ _ _ h dX6_needs_32
  · replace h := h.2 c
    refine b_ldc (v := ((-1000000001) : Int32)) X m_k_X6_150 dX6_needs_8 ?_
    exact hret _ _ _ _ h dX6_needs_10
set_option maxHeartbeats 4000000 in
set_option maxRecDepth 100000 in
theorem c_X6_write (l : Launch) (D : va_G) (C : Nat → ClassId) (ad : Nat → Nat) (a1 : Int32) (a2 : Int32) (μ : Mem) (Q : Int32 → Mem → Prop) (h : w_X6_write a1 a2 μ Q) : Mi sF l yX6_write cX6_write 3 (some .int) rm_X6_write D C ad [.ref (ad 0), .int a1, .int a2] μ Q := by
  refine fm_i (by decide +kernel) sF_lt (Nat.le_of_ble_eq_true rfl) (fun K X hret => ?_)
  have X : CK sF D C ad K cX6_write 3 RX6 := X
  refine b_lv (lv' := [(0, .ref (ad 0)), (1, .int a1), (2, .int a2)]) rfl ?_
  unfold w_X6_write at h
  refine b_aload_n X dX6_write_0 rfl 0 rfl ?_
  refine b_iload_n X dX6_write_1 rfl 1 rfl ?_
  refine bVi (st := []) (nA := 1) X (c_X6_isPost l D C ad a1 μ _ h) kF_0 (by decide) (enc_6 kF_0) rfl gw_X6_146 ⟨rfl, hd_X6_isPost⟩ rfl rfl ⟨Nat.le_of_ble_eq_true rfl, Nat.le_of_ble_eq_true rfl⟩ rfl rfl (Nat.le_of_ble_eq_true rfl) dX6_write_2 (fun r1 μ2 h => ?_)
  obtain ⟨rfl, h⟩ := h
  refine b_if_ne (t := 11) X dX6_write_5 (by decide) (fun c => ?_) (fun c => ?_)
  · replace h := h.1 c
    refine b_iload_n X dX6_write_11 rfl 2 rfl ?_
    refine b_iconst (v := (nI 0)) X dX6_write_12 (by decide) ?_
    refine b_bipush (v := (nI 99)) X dX6_write_13 (by decide) ?_
    refine bSi (st := []) (nA := 3) X (c_X6_within l D C ad a2 (nI 0) (nI 99) μ _ h) gw_X6_80 hd_X6_within rfl rfl ⟨Nat.le_of_ble_eq_true rfl, Nat.le_of_ble_eq_true rfl⟩ rfl rfl (Nat.le_of_ble_eq_true rfl) dX6_write_15 (fun r3 μ4 h => ?_)
    obtain ⟨rfl, h⟩ := h
    refine b_if_ne (t := 24) X dX6_write_18 (by decide) (fun c => ?_) (fun c => ?_)
    · replace h := h.1 c
      refine b_aload_n X dX6_write_24 rfl 0 rfl ?_
      refine g_6_12 X kF_0 m_f_X6_74 dX6_write_25 ?_
      refine g_1_3 X kF_241 m_f_X6_104 dX6_write_28 ?_
      refine b_bipush (v := (nI 20)) X dX6_write_31 (by decide) ?_
      refine b_icmp_lt (t := 39) X dX6_write_33 (by decide) (fun c => ?_) (fun c => ?_)
      · replace h := h.1 c
        refine b_aload_n X dX6_write_39 rfl 0 rfl ?_
        refine g_6_12 X kF_0 m_f_X6_74 dX6_write_40 ?_
        refine b_iload_n X dX6_write_43 rfl 1 rfl ?_
        refine b_iconst (v := (nI 0)) X dX6_write_44 (by decide) ?_
        refine b_iload_n X dX6_write_45 rfl 2 rfl ?_
        refine bVi (st := []) (nA := 3) X (c_X1_note l D C ad 241 kF_241 a1 (nI 0) a2 μ _ h) kF_241 (by decide) (enc_1 kF_241) rfl gw_X6_297 ⟨rfl, hd_X1_note⟩ rfl rfl ⟨Nat.le_of_ble_eq_true rfl, Nat.le_of_ble_eq_true rfl⟩ rfl rfl (Nat.le_of_ble_eq_true rfl) dX6_write_46 (fun r5 μ6 h => ?_)
        exact hret _ _ _ _ h dX6_write_49
      · replace h := h.2 c
        refine b_ldc (v := ((-1000000004) : Int32)) X m_k_X6_88 dX6_write_36 ?_
        exact hret _ _ _ _ h dX6_write_38
    · replace h := h.2 c
      refine b_ldc (v := ((-1000000002) : Int32)) X m_k_X6_84 dX6_write_21 ?_
      exact hret _ _ _ _ h dX6_write_23
  · replace h := h.2 c
    refine b_ldc (v := ((-1000000001) : Int32)) X m_k_X6_150 dX6_write_8 ?_
    exact hret _ _ _ _ h dX6_write_10
set_option maxHeartbeats 4000000 in
set_option maxRecDepth 100000 in
theorem c_X6_judge (l : Launch) (D : va_G) (C : Nat → ClassId) (ad : Nat → Nat)  (μ : Mem) (Q : Int32 → Prop) (h : w_X6_judge  μ Q) : Mi sF l yX6_judge cX6_judge 2 (some .int) rm_X6_judge D C ad [.ref (ad 0)] μ (fun r μ' => μ = μ' ∧ Q r) := by
  refine fm_i (by decide +kernel) sF_lt (Nat.le_of_ble_eq_true rfl) (fun K X hret => ?_)
  have X : CK sF D C ad K cX6_judge 2 RX6 := X
  refine b_lv (lv' := [(0, .ref (ad 0))]) rfl ?_
  unfold w_X6_judge at h
  have B2 : ∀ (v1 : Int32), w_X6_judge_2 v1 μ Q → WB sF l D C ad rm_X6_judge K 2 μ 2 [(0, .ref (ad 0)), (1, .int v1)] [] := by
    intro v1 h
    obtain ⟨Y2, eY⟩ : ∃ Y : Int32 → Prop, Y = fun (v1 : Int32) => WB sF l D C ad rm_X6_judge K 2 μ 2 [(0, .ref (ad 0)), (1, .int v1)] [] := ⟨_, rfl⟩
    have B2 : Y2 v1 := by
      unfold w_X6_judge_2 at h
      refine h Y2 ?_
      clear h
      intro v1 h
      unfold s_X6_judge_2 at h
      rw [eY]
      show WB sF l D C ad rm_X6_judge K 2 μ 2 [(0, .ref (ad 0)), (1, .int v1)] []
      have T2 : ∀ (v1 : Int32), Y2 v1 → WB sF l D C ad rm_X6_judge K 2 μ 2 [(0, .ref (ad 0)), (1, .int v1)] [] := by
        intro v1 h
        rw [eY] at h
        exact h
      clear eY
      refine b_iload_n X dX6_judge_2 rfl 1 rfl ?_
      refine b_aload_n X dX6_judge_3 rfl 0 rfl ?_
      refine g_6_12 X kF_0 m_f_X6_74 dX6_judge_4 ?_
      refine g_1_3 X kF_241 m_f_X6_104 dX6_judge_7 ?_
      refine b_icmp_ge (t := 62) X dX6_judge_10 (by decide) (fun c => ?_) (fun c => ?_)
      · replace h := h.1 c
        refine b_iconst (v := ((-1) : Int32)) X dX6_judge_62 (by decide) ?_
        exact hret _ _ _ _ ⟨rfl, h⟩ dX6_judge_63
      · replace h := h.2 c
        refine b_iload_n X dX6_judge_13 rfl 1 rfl ?_
        refine b_bipush (v := (nI 20)) X dX6_judge_14 (by decide) ?_
        refine b_icmp_ge (t := 62) X dX6_judge_16 (by decide) (fun c => ?_) (fun c => ?_)
        · replace h := h.1 c
          refine b_iconst (v := ((-1) : Int32)) X dX6_judge_62 (by decide) ?_
          exact hret _ _ _ _ ⟨rfl, h⟩ dX6_judge_63
        · replace h := h.2 c
          refine b_aload_n X dX6_judge_19 rfl 0 rfl ?_
          refine g_6_3 X kF_0 m_f_X6_29 dX6_judge_20 ?_
          refine g_4_7 X kF_25 m_f_X6_167 dX6_judge_23 ?_
          refine b_aload_n X dX6_judge_26 rfl 0 rfl ?_
          refine g_6_12 X kF_0 m_f_X6_74 dX6_judge_27 ?_
          refine g_1_0 X kF_241 m_f_X6_317 dX6_judge_30 ?_
          refine b_iload_n X dX6_judge_33 rfl 1 rfl ?_
          refine bSi (st := [.ref (ad (25 + 3))]) (nA := 2) X (c_X6_at l D C ad (241 + 1) (nt_k1 kF_241) v1 μ _ h) gw_X6_154 hd_X6_at rfl rfl ⟨Nat.le_of_ble_eq_true rfl, Nat.le_of_ble_eq_true rfl⟩ rfl rfl (Nat.le_of_ble_eq_true rfl) dX6_judge_34 (fun r1 μ2 h => ?_)
          obtain ⟨rfl, h⟩ := h
          refine bSi (st := []) (nA := 2) X (c_X6_at l D C ad (25 + 3) (st_k3 kF_25) r1 μ _ h) gw_X6_154 hd_X6_at rfl rfl ⟨Nat.le_of_ble_eq_true rfl, Nat.le_of_ble_eq_true rfl⟩ rfl rfl (Nat.le_of_ble_eq_true rfl) dX6_judge_37 (fun r3 μ4 h => ?_)
          obtain ⟨rfl, h⟩ := h
          refine b_aload_n X dX6_judge_40 rfl 0 rfl ?_
          refine g_6_12 X kF_0 m_f_X6_74 dX6_judge_41 ?_
          refine g_1_2 X kF_241 m_f_X6_319 dX6_judge_44 ?_
          refine b_iload_n X dX6_judge_47 rfl 1 rfl ?_
          refine bSi (st := [.int r3]) (nA := 2) X (c_X6_at l D C ad (241 + 3) (nt_k3 kF_241) v1 μ _ h) gw_X6_154 hd_X6_at rfl rfl ⟨Nat.le_of_ble_eq_true rfl, Nat.le_of_ble_eq_true rfl⟩ rfl rfl (Nat.le_of_ble_eq_true rfl) dX6_judge_48 (fun r5 μ6 h => ?_)
          obtain ⟨rfl, h⟩ := h
          refine b_icmp_eq (t := 56) X dX6_judge_51 (by decide) (fun c => ?_) (fun c => ?_)
          · replace h := h.1 c
            obtain ⟨x7, ex7⟩ : ∃ y : Int32, y = v1 + (nI 1) := ⟨_, rfl⟩
            replace h := h x7 ex7
            refine b_iinc (x := x7) (lv' := [(1, .int x7), (0, .ref (ad 0))]) (q := 1) X dX6_judge_56 rfl (by rw [ex7]; rfl) (by decide) rfl ?_
            refine b_goto (t := 2) X dX6_judge_59 (by decide) ?_
            refine b_sub (lv' := [(0, .ref (ad 0)), (1, .int x7)]) [1, 0] rfl ?_
            exact T2 x7 h
          · replace h := h.2 c
            refine b_iload_n X dX6_judge_54 rfl 1 rfl ?_
            exact hret _ _ _ _ ⟨rfl, h⟩ dX6_judge_55
    rw [eY] at B2
    exact B2
  refine b_iconst (v := (nI 0)) X dX6_judge_0 (by decide) ?_
  refine b_istore_n (lv' := [(1, .int (nI 0)), (0, .ref (ad 0))]) X dX6_judge_1 rfl (by decide) rfl ?_
  refine b_sub (lv' := [(0, .ref (ad 0)), (1, .int (nI 0))]) [1, 0] rfl ?_
  exact B2 (nI 0) h
set_option maxHeartbeats 4000000 in
set_option maxRecDepth 100000 in
theorem c_X6_tear (l : Launch) (D : va_G) (C : Nat → ClassId) (ad : Nat → Nat)  (μ : Mem) (Q : Int32 → Mem → Prop) (h : w_X6_tear  μ Q) : Mi sF l yX6_tear cX6_tear 2 (some .int) rm_X6_tear D C ad [.ref (ad 0)] μ Q := by
  refine fm_i (by decide +kernel) sF_lt (Nat.le_of_ble_eq_true rfl) (fun K X hret => ?_)
  have X : CK sF D C ad K cX6_tear 2 RX6 := X
  refine b_lv (lv' := [(0, .ref (ad 0))]) rfl ?_
  unfold w_X6_tear at h
  refine b_aload_n X dX6_tear_0 rfl 0 rfl ?_
  refine g_6_11 X kF_0 m_f_X6_70 dX6_tear_1 ?_
  refine g_1_3 X kF_237 m_f_X6_104 dX6_tear_4 ?_
  refine b_aload_n X dX6_tear_7 rfl 0 rfl ?_
  refine g_6_12 X kF_0 m_f_X6_74 dX6_tear_8 ?_
  refine g_1_3 X kF_241 m_f_X6_104 dX6_tear_11 ?_
  refine b_iadd X dX6_tear_14 ?_
  refine b_topi (fun x1 ex1 => ?_)
  replace h := h x1 ex1
  refine b_istore_n (lv' := [(1, .int x1), (0, .ref (ad 0))]) X dX6_tear_15 rfl (by decide) rfl ?_
  refine b_aload_n X dX6_tear_16 rfl 1 rfl ?_
  refine g_6_11 X kF_0 m_f_X6_70 dX6_tear_17 ?_
  refine b_iconst (v := (nI 0)) X dX6_tear_20 (by decide) ?_
  refine p_1_3 X kF_237 m_f_X6_104 dX6_tear_21 (fun μ2 eμ2 => ?_)
  replace h := h μ2 eμ2
  refine b_aload_n X dX6_tear_24 rfl 1 rfl ?_
  refine g_6_12 X kF_0 m_f_X6_74 dX6_tear_25 ?_
  refine b_iconst (v := (nI 0)) X dX6_tear_28 (by decide) ?_
  refine p_1_3 X kF_241 m_f_X6_104 dX6_tear_29 (fun μ3 eμ3 => ?_)
  replace h := h μ3 eμ3
  refine b_iload_n X dX6_tear_32 rfl 0 rfl ?_
  exact hret _ _ _ _ h dX6_tear_33
set_option maxHeartbeats 4000000 in
set_option maxRecDepth 100000 in
theorem c_X6_seed (l : Launch) (D : va_G) (C : Nat → ClassId) (ad : Nat → Nat) (a1 : Int32) (μ : Mem) (Q : Int32 → Mem → Prop) (h : w_X6_seed a1 μ Q) : Mi sF l yX6_seed cX6_seed 3 (some .int) rm_X6_seed D C ad [.ref (ad 0), .int a1] μ Q := by
  refine fm_i (by decide +kernel) sF_lt (Nat.le_of_ble_eq_true rfl) (fun K X hret => ?_)
  have X : CK sF D C ad K cX6_seed 3 RX6 := X
  refine b_lv (lv' := [(0, .ref (ad 0)), (1, .int a1)]) rfl ?_
  unfold w_X6_seed at h
  refine b_iload_n X dX6_seed_0 rfl 1 rfl ?_
  refine b_if_ge (t := 7) X dX6_seed_1 (by decide) (fun c => ?_) (fun c => ?_)
  · replace h := h.1 c
    refine b_aload_n X dX6_seed_7 rfl 0 rfl ?_
    refine g_6_10 X kF_0 m_f_X6_61 dX6_seed_8 ?_
    refine b_topi (fun x1 ex1 => ?_)
    replace h := h x1 ex1
    refine b_istore_n (lv' := [(2, .int x1), (0, .ref (ad 0)), (1, .int a1)]) X dX6_seed_11 rfl (by decide) rfl ?_
    refine b_aload_n X dX6_seed_12 rfl 1 rfl ?_
    refine b_iload_n X dX6_seed_13 rfl 2 rfl ?_
    refine p_6_10 X kF_0 m_f_X6_61 dX6_seed_14 (fun μ2 eμ2 => ?_)
    replace h := h μ2 eμ2
    refine b_iload_n X dX6_seed_17 rfl 0 rfl ?_
    exact hret _ _ _ _ h dX6_seed_18
  · replace h := h.2 c
    refine b_ldc (v := ((-1000000002) : Int32)) X m_k_X6_84 dX6_seed_4 ?_
    exact hret _ _ _ _ h dX6_seed_6
set_option maxHeartbeats 4000000 in
set_option maxRecDepth 100000 in
theorem c_X6_imageOf (l : Launch) (D : va_G) (C : Nat → ClassId) (ad : Nat → Nat) (a1 : Int32) (μ : Mem) (Q : Option Nat → Prop) (h : w_X6_imageOf a1 μ Q) : Mq sF l yX6_imageOf cX6_imageOf 2 (some (.object RX4)) rm_X6_imageOf D C ad [.ref (ad 0), .int a1] μ (fun r μ' => μ = μ' ∧ Q r) := by
  refine fm_q (by decide +kernel) sF_lt (Nat.le_of_ble_eq_true rfl) (fun K X hret => ?_)
  have X : CK sF D C ad K cX6_imageOf 2 RX6 := X
  refine b_lv (lv' := [(0, .ref (ad 0)), (1, .int a1)]) rfl ?_
  unfold w_X6_imageOf at h
  refine b_iload_n X dX6_imageOf_0 rfl 1 rfl ?_
  refine b_if_lt (t := 27) X dX6_imageOf_1 (by decide) (fun c => ?_) (fun c => ?_)
  · replace h := h.1 c
    refine b_null X dX6_imageOf_27 ?_
    exact hret none _ _ _ ⟨rfl, h⟩ dX6_imageOf_28
  · replace h := h.2 c
    refine b_iload_n X dX6_imageOf_4 rfl 1 rfl ?_
    refine b_iconst (v := (nI 2)) X dX6_imageOf_5 (by decide) ?_
    refine b_icmp_ge (t := 27) X dX6_imageOf_6 (by decide) (fun c => ?_) (fun c => ?_)
    · replace h := h.1 c
      refine b_null X dX6_imageOf_27 ?_
      exact hret none _ _ _ ⟨rfl, h⟩ dX6_imageOf_28
    · replace h := h.2 c
      refine b_iload_n X dX6_imageOf_9 rfl 1 rfl ?_
      refine b_aload_n X dX6_imageOf_10 rfl 0 rfl ?_
      refine g_6_8 X kF_0 m_f_X6_54 dX6_imageOf_11 ?_
      refine b_alen12 X kF_223 nF_223 rfl dX6_imageOf_14 ?_
      refine b_icmp_ge (t := 27) X dX6_imageOf_15 (by decide) (fun c => ?_) (fun c => ?_)
      · replace h := h.1 c
        refine b_null X dX6_imageOf_27 ?_
        exact hret none _ _ _ ⟨rfl, h⟩ dX6_imageOf_28
      · replace h := h.2 c
        refine b_aload_n X dX6_imageOf_18 rfl 0 rfl ?_
        refine g_6_8 X kF_0 m_f_X6_54 dX6_imageOf_19 ?_
        refine b_iload_n X dX6_imageOf_22 rfl 1 rfl ?_
        have hz := h.1
        replace h := h.2
        refine b_aald12 X kF_223 nF_223 hz dX6_imageOf_23 ?_
        clear hz
        have hk1 := h.1
        replace h := h.2
        refine b_goto (t := 28) X dX6_imageOf_24 (by decide) ?_
        exact hret (some (224 + 6 * (a1).toNatClampNeg)) _ _ _ ⟨rfl, h⟩ dX6_imageOf_28
set_option maxHeartbeats 4000000 in
set_option maxRecDepth 100000 in
theorem c_X6_keep (l : Launch) (D : va_G) (C : Nat → ClassId) (ad : Nat → Nat) (a1 : Int32) (μ : Mem) (Q : Int32 → Mem → Prop) (h : w_X6_keep a1 μ Q) : Mi sF l yX6_keep cX6_keep 3 (some .int) rm_X6_keep D C ad [.ref (ad 0), .int a1] μ Q := by
  refine fm_i (by decide +kernel) sF_lt (Nat.le_of_ble_eq_true rfl) (fun K X hret => ?_)
  have X : CK sF D C ad K cX6_keep 3 RX6 := X
  refine b_lv (lv' := [(0, .ref (ad 0)), (1, .int a1)]) rfl ?_
  unfold w_X6_keep at h
  refine b_aload_n X dX6_keep_0 rfl 0 rfl ?_
  refine b_iload_n X dX6_keep_1 rfl 1 rfl ?_
  refine bVq (st := []) (nA := 1) X (c_X6_imageOf l D C ad a1 μ _ h) kF_0 (by decide) (enc_6 kF_0) rfl gw_X6_322 ⟨rfl, hd_X6_imageOf⟩ rfl rfl ⟨Nat.le_of_ble_eq_true rfl, Nat.le_of_ble_eq_true rfl⟩ rfl rfl (Nat.le_of_ble_eq_true rfl) dX6_keep_2 (fun r1 μ2 h => ?_)
  obtain ⟨rfl, h⟩ := h
  rcases r1 with _ | b3
  · replace h := h.1 rfl
    refine b_st (st' := [.null]) rfl ?_
    refine b_astoreN_n (lv' := [(2, .null), (0, .ref (ad 0)), (1, .int a1)]) X dX6_keep_5 rfl (by decide) rfl ?_
    refine b_aloadN_n X dX6_keep_6 rfl 0 rfl ?_
    refine b_ifnonnullN X dX6_keep_7 ?_
    refine b_ldc (v := ((-1000000001) : Int32)) X m_k_X6_150 dX6_keep_10 ?_
    exact hret _ _ _ _ h dX6_keep_12
  · replace h := h.2 b3 rfl
    have hk_b3 := h.1
    replace h := h.2
    refine b_st (st' := [.ref (ad b3)]) rfl ?_
    refine b_astore_n (lv' := [(2, .ref (ad b3)), (0, .ref (ad 0)), (1, .int a1)]) X dX6_keep_5 rfl (by decide) rfl ?_
    refine b_aload_n X dX6_keep_6 rfl 0 rfl ?_
    refine b_ifnonnull1 (t := 13) X dX6_keep_7 (by decide) ?_
    refine b_aload_n X dX6_keep_13 rfl 0 rfl ?_
    refine b_aload_n X dX6_keep_14 rfl 1 rfl ?_
    refine g_6_3 X kF_0 m_f_X6_29 dX6_keep_15 ?_
    refine bVv (st := []) (nA := 1) X (c_X4_become l D C ad b3 hk_b3 25 kF_25 μ _ h) hk_b3 (by decide) (enc_4 hk_b3) rfl gw_X6_247 ⟨rfl, hd_X4_become⟩ rfl rfl ⟨Nat.le_of_ble_eq_true rfl, Nat.le_of_ble_eq_true rfl⟩ rfl rfl (Nat.le_of_ble_eq_true rfl) dX6_keep_18 (fun μ5 h => ?_)
    refine b_aload_n X dX6_keep_21 rfl 1 rfl ?_
    refine g_6_9 X kF_0 m_f_X6_58 dX6_keep_22 ?_
    refine b_iload_n X dX6_keep_25 rfl 2 rfl ?_
    refine b_aload_n X dX6_keep_26 rfl 1 rfl ?_
    refine g_6_10 X kF_0 m_f_X6_61 dX6_keep_27 ?_
    refine bSv (st := []) (nA := 3) X (c_X6_put l D C ad 236 kF_236 a1 (μ5.1 0 10) μ5 _ h) gw_X6_227 hd_X6_put rfl rfl ⟨Nat.le_of_ble_eq_true rfl, Nat.le_of_ble_eq_true rfl⟩ rfl rfl (Nat.le_of_ble_eq_true rfl) dX6_keep_30 (fun μ7 h => ?_)
    refine b_aload_n X dX6_keep_33 rfl 1 rfl ?_
    refine g_6_7 X kF_0 m_f_X6_50 dX6_keep_34 ?_
    refine b_iconst (v := (nI 0)) X dX6_keep_37 (by decide) ?_
    refine p_2_2 X kF_41 m_f_X6_101 dX6_keep_38 (fun μ8 eμ8 => ?_)
    replace h := h μ8 eμ8
    refine b_iconst (v := (nI 1)) X dX6_keep_41 (by decide) ?_
    exact hret _ _ _ _ h dX6_keep_42
set_option maxHeartbeats 4000000 in
set_option maxRecDepth 100000 in
theorem c_X6_goBack (l : Launch) (D : va_G) (C : Nat → ClassId) (ad : Nat → Nat) (a1 : Int32) (μ : Mem) (Q : Int32 → Mem → Prop) (h : w_X6_goBack a1 μ Q) : Mi sF l yX6_goBack cX6_goBack 4 (some .int) rm_X6_goBack D C ad [.ref (ad 0), .int a1] μ Q := by
  refine fm_i (by decide +kernel) sF_lt (Nat.le_of_ble_eq_true rfl) (fun K X hret => ?_)
  have X : CK sF D C ad K cX6_goBack 4 RX6 := X
  refine b_lv (lv' := [(0, .ref (ad 0)), (1, .int a1)]) rfl ?_
  unfold w_X6_goBack at h
  refine b_aload_n X dX6_goBack_0 rfl 0 rfl ?_
  refine b_iload_n X dX6_goBack_1 rfl 1 rfl ?_
  refine bVq (st := []) (nA := 1) X (c_X6_imageOf l D C ad a1 μ _ h) kF_0 (by decide) (enc_6 kF_0) rfl gw_X6_322 ⟨rfl, hd_X6_imageOf⟩ rfl rfl ⟨Nat.le_of_ble_eq_true rfl, Nat.le_of_ble_eq_true rfl⟩ rfl rfl (Nat.le_of_ble_eq_true rfl) dX6_goBack_2 (fun r1 μ2 h => ?_)
  obtain ⟨rfl, h⟩ := h
  rcases r1 with _ | b3
  · replace h := h.1 rfl
    refine b_st (st' := [.null]) rfl ?_
    refine b_astoreN_n (lv' := [(2, .null), (0, .ref (ad 0)), (1, .int a1)]) X dX6_goBack_5 rfl (by decide) rfl ?_
    refine b_aloadN_n X dX6_goBack_6 rfl 0 rfl ?_
    refine b_ifnonnullN X dX6_goBack_7 ?_
    refine b_ldc (v := ((-1000000001) : Int32)) X m_k_X6_150 dX6_goBack_10 ?_
    exact hret _ _ _ _ h dX6_goBack_12
  · replace h := h.2 b3 rfl
    have hk_b3 := h.1
    replace h := h.2
    refine b_st (st' := [.ref (ad b3)]) rfl ?_
    refine b_astore_n (lv' := [(2, .ref (ad b3)), (0, .ref (ad 0)), (1, .int a1)]) X dX6_goBack_5 rfl (by decide) rfl ?_
    refine b_aload_n X dX6_goBack_6 rfl 0 rfl ?_
    refine b_ifnonnull1 (t := 13) X dX6_goBack_7 (by decide) ?_
    refine b_aload_n X dX6_goBack_13 rfl 1 rfl ?_
    refine g_6_9 X kF_0 m_f_X6_58 dX6_goBack_14 ?_
    refine b_iload_n X dX6_goBack_17 rfl 2 rfl ?_
    refine bSi (st := []) (nA := 2) X (c_X6_at l D C ad 236 kF_236 a1 μ _ h) gw_X6_154 hd_X6_at rfl rfl ⟨Nat.le_of_ble_eq_true rfl, Nat.le_of_ble_eq_true rfl⟩ rfl rfl (Nat.le_of_ble_eq_true rfl) dX6_goBack_18 (fun r4 μ5 h => ?_)
    obtain ⟨rfl, h⟩ := h
    refine b_istore_n (lv' := [(3, .int r4), (2, .ref (ad b3)), (0, .ref (ad 0)), (1, .int a1)]) X dX6_goBack_21 rfl (by decide) rfl ?_
    refine b_iload_n X dX6_goBack_22 rfl 0 rfl ?_
    refine b_iconst (v := ((-1) : Int32)) X dX6_goBack_23 (by decide) ?_
    refine b_icmp_ne (t := 30) X dX6_goBack_24 (by decide) (fun c => ?_) (fun c => ?_)
    · replace h := h.1 c
      refine b_aload_n X dX6_goBack_30 rfl 2 rfl ?_
      refine g_6_3 X kF_0 m_f_X6_29 dX6_goBack_31 ?_
      refine b_aload_n X dX6_goBack_34 rfl 1 rfl ?_
      refine bVv (st := []) (nA := 1) X (c_X4_become l D C ad 25 kF_25 b3 hk_b3 μ _ h) kF_25 (by decide) (enc_4 kF_25) rfl gw_X6_247 ⟨rfl, hd_X4_become⟩ rfl rfl ⟨Nat.le_of_ble_eq_true rfl, Nat.le_of_ble_eq_true rfl⟩ rfl rfl (Nat.le_of_ble_eq_true rfl) dX6_goBack_35 (fun μ7 h => ?_)
      refine b_aload_n X dX6_goBack_38 rfl 2 rfl ?_
      refine b_iload_n X dX6_goBack_39 rfl 0 rfl ?_
      refine p_6_10 X kF_0 m_f_X6_61 dX6_goBack_40 (fun μ8 eμ8 => ?_)
      replace h := h μ8 eμ8
      refine b_aload_n X dX6_goBack_43 rfl 2 rfl ?_
      refine g_6_7 X kF_0 m_f_X6_50 dX6_goBack_44 ?_
      refine b_iconst (v := (nI 0)) X dX6_goBack_47 (by decide) ?_
      refine p_2_2 X kF_41 m_f_X6_101 dX6_goBack_48 (fun μ9 eμ9 => ?_)
      replace h := h μ9 eμ9
      refine b_iconst (v := (nI 1)) X dX6_goBack_51 (by decide) ?_
      exact hret _ _ _ _ h dX6_goBack_52
    · replace h := h.2 c
      refine b_ldc (v := ((-1000000003) : Int32)) X m_k_X6_177 dX6_goBack_27 ?_
      exact hret _ _ _ _ h dX6_goBack_29
set_option maxHeartbeats 4000000 in
set_option maxRecDepth 100000 in
theorem c_X7_in (l : Launch) (D : va_G) (C : Nat → ClassId) (ad : Nat → Nat) (a0 : Int32) (a1 : Int32) (a2 : Int32) (μ : Mem) (Q : Int32 → Prop) (h : w_X7_in a0 a1 a2 μ Q) : Mi sM l yX7_in cX7_in 3 (some .boolean) rm_X7_in D C ad [.int a0, .int a1, .int a2] μ (fun r μ' => μ = μ' ∧ Q r) := by
  refine fm_z (by decide +kernel) sM_lt (Nat.le_of_ble_eq_true rfl) (fun K X hret => ?_)
  have X : CK sM D C ad K cX7_in 3 RX7 := X
  refine b_lv (lv' := [(0, .int a0), (1, .int a1), (2, .int a2)]) rfl ?_
  unfold w_X7_in at h
  refine b_iload_n X dX7_in_0 rfl 0 rfl ?_
  refine b_iload_n X dX7_in_1 rfl 1 rfl ?_
  refine b_icmp_lt (t := 14) X dX7_in_2 (by decide) (fun c => ?_) (fun c => ?_)
  · replace h := h.1 c
    refine b_iconst (v := (nI 0)) X dX7_in_14 (by decide) ?_
    exact hret _ _ _ _ ⟨(Or.inl rfl), rfl, h⟩ dX7_in_15
  · replace h := h.2 c
    refine b_iload_n X dX7_in_5 rfl 0 rfl ?_
    refine b_iload_n X dX7_in_6 rfl 2 rfl ?_
    refine b_icmp_gt (t := 14) X dX7_in_7 (by decide) (fun c => ?_) (fun c => ?_)
    · replace h := h.1 c
      refine b_iconst (v := (nI 0)) X dX7_in_14 (by decide) ?_
      exact hret _ _ _ _ ⟨(Or.inl rfl), rfl, h⟩ dX7_in_15
    · replace h := h.2 c
      refine b_iconst (v := (nI 1)) X dX7_in_10 (by decide) ?_
      refine b_goto (t := 15) X dX7_in_11 (by decide) ?_
      exact hret _ _ _ _ ⟨(Or.inr rfl), rfl, h⟩ dX7_in_15
set_option maxHeartbeats 4000000 in
set_option maxRecDepth 100000 in
theorem c_X7_has (l : Launch) (D : va_G) (C : Nat → ClassId) (ad : Nat → Nat) (a0 : Int32) (a1 : Int32) (μ : Mem) (Q : Int32 → Prop) (h : w_X7_has a0 a1 μ Q) : Mi sM l yX7_has cX7_has 2 (some .boolean) rm_X7_has D C ad [.int a0, .int a1] μ (fun r μ' => μ = μ' ∧ Q r) := by
  refine fm_z (by decide +kernel) sM_lt (Nat.le_of_ble_eq_true rfl) (fun K X hret => ?_)
  have X : CK sM D C ad K cX7_has 2 RX7 := X
  refine b_lv (lv' := [(0, .int a0), (1, .int a1)]) rfl ?_
  unfold w_X7_has at h
  refine b_iload_n X dX7_has_0 rfl 0 rfl ?_
  refine b_iload_n X dX7_has_1 rfl 1 rfl ?_
  refine b_ishr X dX7_has_2 ?_
  refine b_iconst (v := (nI 1)) X dX7_has_3 (by decide) ?_
  refine b_iand X dX7_has_4 ?_
  refine b_iconst (v := (nI 1)) X dX7_has_5 (by decide) ?_
  refine b_icmp_ne (t := 13) X dX7_has_6 (by decide) (fun c => ?_) (fun c => ?_)
  · replace h := h.1 c
    refine b_iconst (v := (nI 0)) X dX7_has_13 (by decide) ?_
    exact hret _ _ _ _ ⟨(Or.inl rfl), rfl, h⟩ dX7_has_14
  · replace h := h.2 c
    refine b_iconst (v := (nI 1)) X dX7_has_9 (by decide) ?_
    refine b_goto (t := 14) X dX7_has_10 (by decide) ?_
    exact hret _ _ _ _ ⟨(Or.inr rfl), rfl, h⟩ dX7_has_14
set_option maxHeartbeats 4000000 in
set_option maxRecDepth 100000 in
theorem c_X7_feed (l : Launch) (D : va_G) (C : Nat → ClassId) (ad : Nat → Nat) (a1 : Int32) (μ : Mem) (Q : Int32 → Mem → Prop) (h : w_X7_feed a1 μ Q) : Mi sM l yX7_feed cX7_feed 2 (some .int) rm_X7_feed D C ad [.ref (ad 0), .int a1] μ Q := by
  refine fm_i (by decide +kernel) sM_lt (Nat.le_of_ble_eq_true rfl) (fun K X hret => ?_)
  have X : CK sM D C ad K cX7_feed 2 RX7 := X
  refine b_lv (lv' := [(0, .ref (ad 0)), (1, .int a1)]) rfl ?_
  unfold w_X7_feed at h
  refine b_iload_n X dX7_feed_0 rfl 1 rfl ?_
  refine b_iconst (v := (nI 0)) X dX7_feed_1 (by decide) ?_
  refine b_sipush (v := (nI 255)) X dX7_feed_2 (by decide) ?_
  refine bSi (st := []) (nA := 3) X (c_X7_in l D C ad a1 (nI 0) (nI 255) μ _ h) gw_X7_85 hd_X7_in rfl rfl ⟨Nat.le_of_ble_eq_true rfl, Nat.le_of_ble_eq_true rfl⟩ rfl rfl (Nat.le_of_ble_eq_true rfl) dX7_feed_5 (fun r1 μ2 h => ?_)
  obtain ⟨rfl, h⟩ := h
  refine b_if_ne (t := 14) X dX7_feed_8 (by decide) (fun c => ?_) (fun c => ?_)
  · replace h := h.1 c
    refine b_aload_n X dX7_feed_14 rfl 0 rfl ?_
    refine g_7_0 X kM_0 m_f_X7_90 dX7_feed_15 ?_
    refine b_sipush (v := (nI 240)) X dX7_feed_18 (by decide) ?_
    refine b_icmp_ne (t := 27) X dX7_feed_21 (by decide) (fun c => ?_) (fun c => ?_)
    · replace h := h.1 c
      refine b_aload_n X dX7_feed_27 rfl 0 rfl ?_
      refine g_7_1 X kM_0 m_f_X7_7 dX7_feed_28 ?_
      refine b_aload_n X dX7_feed_31 rfl 0 rfl ?_
      refine g_7_0 X kM_0 m_f_X7_90 dX7_feed_32 ?_
      refine b_iload_n X dX7_feed_35 rfl 1 rfl ?_
      have hz := h.1
      replace h := h.2
      refine b_iast X kM_1 nM_1 hz dX7_feed_36 (fun μ3 eμ3 => ?_)
      clear hz
      replace h := h μ3 eμ3
      refine b_aload_n X dX7_feed_37 rfl 0 rfl ?_
      refine b_dup X dX7_feed_38 rfl ?_
      refine g_7_0 X kM_0 m_f_X7_90 dX7_feed_39 ?_
      refine b_iconst (v := (nI 1)) X dX7_feed_42 (by decide) ?_
      refine b_iadd X dX7_feed_43 ?_
      refine p_7_0 X kM_0 m_f_X7_90 dX7_feed_44 (fun μ4 eμ4 => ?_)
      replace h := h μ4 eμ4
      refine b_aload_n X dX7_feed_47 rfl 0 rfl ?_
      refine g_7_0 X kM_0 m_f_X7_90 dX7_feed_48 ?_
      exact hret _ _ _ _ h dX7_feed_51
    · replace h := h.2 c
      refine b_ldc (v := ((-1000000004) : Int32)) X m_k_X7_93 dX7_feed_24 ?_
      exact hret _ _ _ _ h dX7_feed_26
  · replace h := h.2 c
    refine b_ldc (v := ((-1000000002) : Int32)) X m_k_X7_89 dX7_feed_11 ?_
    exact hret _ _ _ _ h dX7_feed_13
set_option maxHeartbeats 4000000 in
set_option maxRecDepth 100000 in
theorem c_X7_fault (l : Launch) (D : va_G) (C : Nat → ClassId) (ad : Nat → Nat)  (μ : Mem) (Q : Int32 → Prop) (h : w_X7_fault  μ Q) : Mi sM l yX7_fault cX7_fault 1 (some .int) rm_X7_fault D C ad [.ref (ad 0)] μ (fun r μ' => μ = μ' ∧ Q r) := by
  refine fm_i (by decide +kernel) sM_lt (Nat.le_of_ble_eq_true rfl) (fun K X hret => ?_)
  have X : CK sM D C ad K cX7_fault 1 RX7 := X
  refine b_lv (lv' := [(0, .ref (ad 0))]) rfl ?_
  unfold w_X7_fault at h
  refine b_aload_n X dX7_fault_0 rfl 0 rfl ?_
  refine g_7_2 X kM_0 m_f_X7_13 dX7_fault_1 ?_
  exact hret _ _ _ _ ⟨rfl, h⟩ dX7_fault_4
set_option maxHeartbeats 4000000 in
set_option maxRecDepth 100000 in
theorem c_X7_letterAt (l : Launch) (D : va_G) (C : Nat → ClassId) (ad : Nat → Nat) (a1 : Int32) (μ : Mem) (Q : Int32 → Prop) (h : w_X7_letterAt a1 μ Q) : Mi sM l yX7_letterAt cX7_letterAt 2 (some .int) rm_X7_letterAt D C ad [.ref (ad 0), .int a1] μ (fun r μ' => μ = μ' ∧ Q r) := by
  refine fm_i (by decide +kernel) sM_lt (Nat.le_of_ble_eq_true rfl) (fun K X hret => ?_)
  have X : CK sM D C ad K cX7_letterAt 2 RX7 := X
  refine b_lv (lv' := [(0, .ref (ad 0)), (1, .int a1)]) rfl ?_
  unfold w_X7_letterAt at h
  refine b_iload_n X dX7_letterAt_0 rfl 1 rfl ?_
  refine b_aload_n X dX7_letterAt_1 rfl 0 rfl ?_
  refine g_7_0 X kM_0 m_f_X7_90 dX7_letterAt_2 ?_
  refine b_icmp_ge (t := 17) X dX7_letterAt_5 (by decide) (fun c => ?_) (fun c => ?_)
  · replace h := h.1 c
    refine b_iconst (v := ((-1) : Int32)) X dX7_letterAt_17 (by decide) ?_
    exact hret _ _ _ _ ⟨rfl, h⟩ dX7_letterAt_18
  · replace h := h.2 c
    refine b_aload_n X dX7_letterAt_8 rfl 0 rfl ?_
    refine g_7_1 X kM_0 m_f_X7_7 dX7_letterAt_9 ?_
    refine b_iload_n X dX7_letterAt_12 rfl 1 rfl ?_
    have hz := h.1
    replace h := h.2
    refine b_iald X kM_1 nM_1 hz dX7_letterAt_13 ?_
    clear hz
    refine b_goto (t := 18) X dX7_letterAt_14 (by decide) ?_
    exact hret _ _ _ _ ⟨rfl, h⟩ dX7_letterAt_18
set_option maxHeartbeats 4000000 in
set_option maxRecDepth 100000 in
theorem c_X7_blanks (l : Launch) (D : va_G) (C : Nat → ClassId) (ad : Nat → Nat)  (μ : Mem) (Q : Mem → Prop) (h : w_X7_blanks  μ Q) : Mv sM l yX7_blanks cX7_blanks 1 none rm_X7_blanks D C ad [.ref (ad 0)] μ Q := by
  refine fm_v (by decide +kernel) sM_lt (Nat.le_of_ble_eq_true rfl) (fun K X hret => ?_)
  have X : CK sM D C ad K cX7_blanks 1 RX7 := X
  refine b_lv (lv' := [(0, .ref (ad 0))]) rfl ?_
  unfold w_X7_blanks at h
  have B0 : ∀ (μ : Mem), w_X7_blanks_0 μ Q → WB sM l D C ad rm_X7_blanks K 1 μ 0 [(0, .ref (ad 0))] [] := by
    intro μ h
    obtain ⟨Y0, eY⟩ : ∃ Y : Mem → Prop, Y = fun (μ : Mem) => WB sM l D C ad rm_X7_blanks K 1 μ 0 [(0, .ref (ad 0))] [] := ⟨_, rfl⟩
    have B0 : Y0 μ := by
      unfold w_X7_blanks_0 at h
      refine h Y0 ?_
      clear h
      intro μ h
      unfold s_X7_blanks_0 at h
      rw [eY]
      show WB sM l D C ad rm_X7_blanks K 1 μ 0 [(0, .ref (ad 0))] []
      have T0 : ∀ (μ : Mem), Y0 μ → WB sM l D C ad rm_X7_blanks K 1 μ 0 [(0, .ref (ad 0))] [] := by
        intro μ h
        rw [eY] at h
        exact h
      clear eY
      refine b_aload_n X dX7_blanks_0 rfl 0 rfl ?_
      refine b_aload_n X dX7_blanks_1 rfl 0 rfl ?_
      refine g_7_3 X kM_0 m_f_X7_94 dX7_blanks_2 ?_
      refine bVi (st := []) (nA := 1) X (c_X7_letterAt l D C ad (μ.1 0 3) μ _ h) kM_0 (by decide) (enc_7 kM_0) rfl gw_X7_97 ⟨rfl, hd_X7_letterAt⟩ rfl rfl ⟨Nat.le_of_ble_eq_true rfl, Nat.le_of_ble_eq_true rfl⟩ rfl rfl (Nat.le_of_ble_eq_true rfl) dX7_blanks_5 (fun r1 μ2 h => ?_)
      obtain ⟨rfl, h⟩ := h
      refine b_bipush (v := (nI 32)) X dX7_blanks_8 (by decide) ?_
      refine b_icmp_ne (t := 26) X dX7_blanks_10 (by decide) (fun c => ?_) (fun c => ?_)
      · replace h := h.1 c
        exact hret _ _ _ h dX7_blanks_26
      · replace h := h.2 c
        refine b_aload_n X dX7_blanks_13 rfl 0 rfl ?_
        refine b_dup X dX7_blanks_14 rfl ?_
        refine g_7_3 X kM_0 m_f_X7_94 dX7_blanks_15 ?_
        refine b_iconst (v := (nI 1)) X dX7_blanks_18 (by decide) ?_
        refine b_iadd X dX7_blanks_19 ?_
        refine p_7_3 X kM_0 m_f_X7_94 dX7_blanks_20 (fun μ3 eμ3 => ?_)
        replace h := h μ3 eμ3
        refine b_goto (t := 0) X dX7_blanks_23 (by decide) ?_
        refine b_sub (lv' := [(0, .ref (ad 0))]) [0] rfl ?_
        exact T0 μ3 h
    rw [eY] at B0
    exact B0
  refine b_sub (lv' := [(0, .ref (ad 0))]) [0] rfl ?_
  exact B0 μ h
set_option maxHeartbeats 4000000 in
set_option maxRecDepth 100000 in
theorem c_X7_fails (l : Launch) (D : va_G) (C : Nat → ClassId) (ad : Nat → Nat) (a1 : Int32) (μ : Mem) (Q : Int32 → Mem → Prop) (h : w_X7_fails a1 μ Q) : Mi sM l yX7_fails cX7_fails 2 (some .boolean) rm_X7_fails D C ad [.ref (ad 0), .int a1] μ Q := by
  refine fm_z (by decide +kernel) sM_lt (Nat.le_of_ble_eq_true rfl) (fun K X hret => ?_)
  have X : CK sM D C ad K cX7_fails 2 RX7 := X
  refine b_lv (lv' := [(0, .ref (ad 0)), (1, .int a1)]) rfl ?_
  unfold w_X7_fails at h
  refine b_aload_n X dX7_fails_0 rfl 0 rfl ?_
  refine b_iload_n X dX7_fails_1 rfl 1 rfl ?_
  refine p_7_4 X kM_0 m_f_X7_101 dX7_fails_2 (fun μ1 eμ1 => ?_)
  replace h := h μ1 eμ1
  refine b_iconst (v := (nI 0)) X dX7_fails_5 (by decide) ?_
  exact hret _ _ _ _ ⟨(Or.inl rfl), h⟩ dX7_fails_6
set_option maxHeartbeats 4000000 in
set_option maxRecDepth 100000 in
theorem c_X7_number (l : Launch) (D : va_G) (C : Nat → ClassId) (ad : Nat → Nat) (a1 : Int32) (a2 : Int32) (μ : Mem) (Q : Int32 → Mem → Prop) (h : w_X7_number a1 a2 μ Q) : Mi sM l yX7_number cX7_number 6 (some .int) rm_X7_number D C ad [.ref (ad 0), .int a1, .int a2] μ Q := by
  refine fm_i (by decide +kernel) sM_lt (Nat.le_of_ble_eq_true rfl) (fun K X hret => ?_)
  have X : CK sM D C ad K cX7_number 6 RX7 := X
  refine b_lv (lv' := [(0, .ref (ad 0)), (1, .int a1), (2, .int a2)]) rfl ?_
  unfold w_X7_number at h
  have B12 : ∀ (v3 : Int32) (v4 : Int32) (μ : Mem), w_X7_number_12 a1 a2 v3 v4 μ Q → WB sM l D C ad rm_X7_number K 6 μ 12 [(0, .ref (ad 0)), (1, .int a1), (2, .int a2), (3, .int v3), (4, .int v4)] [] := by
    intro v3 v4 μ h
    obtain ⟨Y12, eY⟩ : ∃ Y : Int32 → Int32 → Prop, Y = fun (v3 : Int32) (v4 : Int32) => WB sM l D C ad rm_X7_number K 6 μ 12 [(0, .ref (ad 0)), (1, .int a1), (2, .int a2), (3, .int v3), (4, .int v4)] [] := ⟨_, rfl⟩
    have B12 : Y12 v3 v4 := by
      unfold w_X7_number_12 at h
      refine h Y12 ?_
      clear h
      intro v3 v4 h
      unfold s_X7_number_12 at h
      rw [eY]
      show WB sM l D C ad rm_X7_number K 6 μ 12 [(0, .ref (ad 0)), (1, .int a1), (2, .int a2), (3, .int v3), (4, .int v4)] []
      have T12 : ∀ (v3 : Int32) (v4 : Int32), Y12 v3 v4 → WB sM l D C ad rm_X7_number K 6 μ 12 [(0, .ref (ad 0)), (1, .int a1), (2, .int a2), (3, .int v3), (4, .int v4)] [] := by
        intro v3 v4 h
        rw [eY] at h
        exact h
      clear eY
      have B64 : ∀ (v3 : Int32) (v4 : Int32) (μ : Mem), w_X7_number_64 a1 a2 v3 v4 μ Q → WB sM l D C ad rm_X7_number K 6 μ 64 [(0, .ref (ad 0)), (1, .int a1), (2, .int a2), (3, .int v3), (4, .int v4)] [] := by
        intro v3 v4 μ h
        unfold w_X7_number_64 at h
        have B93 : ∀ (v5 : Int32) (μ : Mem), w_X7_number_93 a1 a2 v5 μ Q → WB sM l D C ad rm_X7_number K 6 μ 93 [(0, .ref (ad 0)), (5, .int v5)] [] := by
          intro v5 μ h
          unfold w_X7_number_93 at h
          have B104 : ∀ (s2 : Int32) (μ : Mem), w_X7_number_104 a1 a2 s2 μ Q → WB sM l D C ad rm_X7_number K 6 μ 104 [] [.int s2, .ref (ad 0)] := by
            intro s2 μ h
            unfold w_X7_number_104 at h
            refine bVi (st := []) (nA := 1) X (c_X7_fails l D C ad s2 μ _ h) kM_0 (by decide) (enc_7 kM_0) rfl gw_X7_107 ⟨rfl, hd_X7_fails⟩ rfl rfl ⟨Nat.le_of_ble_eq_true rfl, Nat.le_of_ble_eq_true rfl⟩ rfl rfl (Nat.le_of_ble_eq_true rfl) dX7_number_104 (fun r15 μ16 h => ?_)
            refine b_pop X dX7_number_107 rfl ?_
            refine b_iconst (v := ((-1) : Int32)) X dX7_number_108 (by decide) ?_
            exact hret _ _ _ _ h dX7_number_109
          refine b_aload_n X dX7_number_93 rfl 0 rfl ?_
          refine b_iload X dX7_number_94 1 rfl ?_
          refine b_if_ne (t := 103) X dX7_number_96 (by decide) (fun c => ?_) (fun c => ?_)
          · replace h := h.1 c
            refine b_iconst (v := (nI 2)) X dX7_number_103 (by decide) ?_
            refine b_sub (lv' := []) [] rfl ?_
            exact B104 (nI 2) μ h
          · replace h := h.2 c
            refine b_iconst (v := (nI 1)) X dX7_number_99 (by decide) ?_
            refine b_goto (t := 104) X dX7_number_100 (by decide) ?_
            refine b_sub (lv' := []) [] rfl ?_
            exact B104 (nI 1) μ h
        refine b_iload_n X dX7_number_64 rfl 3 rfl ?_
        refine b_aload_n X dX7_number_65 rfl 0 rfl ?_
        refine g_7_3 X kM_0 m_f_X7_94 dX7_number_66 ?_
        refine b_isub X dX7_number_69 ?_
        refine b_topi (fun x11 ex11 => ?_)
        replace h := h x11 ex11
        refine b_istore (lv' := [(5, .int x11), (0, .ref (ad 0)), (1, .int a1), (2, .int a2), (3, .int v3), (4, .int v4)]) X dX7_number_70 (by decide) rfl ?_
        refine b_iload X dX7_number_72 0 rfl ?_
        refine b_if_eq (t := 93) X dX7_number_74 (by decide) (fun c => ?_) (fun c => ?_)
        · replace h := h.1 c
          refine b_sub (lv' := [(0, .ref (ad 0)), (5, .int x11)]) [1, 0] rfl ?_
          exact B93 x11 μ h
        · replace h := h.2 c
          refine b_iload X dX7_number_77 0 rfl ?_
          refine b_iconst (v := (nI 3)) X dX7_number_79 (by decide) ?_
          refine b_icmp_gt (t := 93) X dX7_number_80 (by decide) (fun c => ?_) (fun c => ?_)
          · replace h := h.1 c
            refine b_sub (lv' := [(0, .ref (ad 0)), (5, .int x11)]) [1, 0] rfl ?_
            exact B93 x11 μ h
          · replace h := h.2 c
            refine b_iload X dX7_number_83 5 rfl ?_
            refine b_iload_n X dX7_number_85 rfl 2 rfl ?_
            refine b_iload_n X dX7_number_86 rfl 3 rfl ?_
            refine bSi (st := []) (nA := 3) X (c_X7_in l D C ad v4 a1 a2 μ _ h) gw_X7_85 hd_X7_in rfl rfl ⟨Nat.le_of_ble_eq_true rfl, Nat.le_of_ble_eq_true rfl⟩ rfl rfl (Nat.le_of_ble_eq_true rfl) dX7_number_87 (fun r12 μ13 h => ?_)
            obtain ⟨rfl, h⟩ := h
            refine b_if_ne (t := 110) X dX7_number_90 (by decide) (fun c => ?_) (fun c => ?_)
            · replace h := h.1 c
              refine b_aload_n X dX7_number_110 rfl 1 rfl ?_
              refine b_iload_n X dX7_number_111 rfl 4 rfl ?_
              refine p_7_3 X kM_0 m_f_X7_94 dX7_number_112 (fun μ14 eμ14 => ?_)
              replace h := h μ14 eμ14
              refine b_iload X dX7_number_115 5 rfl ?_
              exact hret _ _ _ _ h dX7_number_117
            · replace h := h.2 c
              refine b_sub (lv' := [(0, .ref (ad 0)), (5, .int x11)]) [1, 0] rfl ?_
              exact B93 x11 μ h
      have B56 : ∀ (v3 : Int32) (s1 : Int32), w_X7_number_56 a1 a2 Y12 v3 s1 μ Q → WB sM l D C ad rm_X7_number K 6 μ 56 [(0, .ref (ad 0)), (1, .int a1), (2, .int a2), (3, .int v3)] [.int s1] := by
        intro v3 s1 h
        unfold w_X7_number_56 at h
        refine b_istore (lv' := [(4, .int s1), (0, .ref (ad 0)), (1, .int a1), (2, .int a2), (3, .int v3)]) X dX7_number_56 (by decide) rfl ?_
        obtain ⟨x10, ex10⟩ : ∃ y : Int32, y = v3 + (nI 1) := ⟨_, rfl⟩
        replace h := h x10 ex10
        refine b_iinc (x := x10) (lv' := [(3, .int x10), (4, .int s1), (0, .ref (ad 0)), (1, .int a1), (2, .int a2)]) (q := 4) X dX7_number_58 rfl (by rw [ex10]; rfl) (by decide) rfl ?_
        refine b_goto (t := 12) X dX7_number_61 (by decide) ?_
        refine b_sub (lv' := [(0, .ref (ad 0)), (1, .int a1), (2, .int a2), (3, .int x10), (4, .int s1)]) [2, 3, 4, 0, 1] rfl ?_
        exact T12 x10 s1 h
      refine b_aload_n X dX7_number_12 rfl 0 rfl ?_
      refine b_iload_n X dX7_number_13 rfl 3 rfl ?_
      refine bVi (st := []) (nA := 1) X (c_X7_letterAt l D C ad v3 μ _ h) kM_0 (by decide) (enc_7 kM_0) rfl gw_X7_97 ⟨rfl, hd_X7_letterAt⟩ rfl rfl ⟨Nat.le_of_ble_eq_true rfl, Nat.le_of_ble_eq_true rfl⟩ rfl rfl (Nat.le_of_ble_eq_true rfl) dX7_number_14 (fun r4 μ5 h => ?_)
      obtain ⟨rfl, h⟩ := h
      refine b_bipush (v := (nI 48)) X dX7_number_17 (by decide) ?_
      refine b_bipush (v := (nI 57)) X dX7_number_19 (by decide) ?_
      refine bSi (st := []) (nA := 3) X (c_X7_in l D C ad r4 (nI 48) (nI 57) μ _ h) gw_X7_85 hd_X7_in rfl rfl ⟨Nat.le_of_ble_eq_true rfl, Nat.le_of_ble_eq_true rfl⟩ rfl rfl (Nat.le_of_ble_eq_true rfl) dX7_number_21 (fun r6 μ7 h => ?_)
      obtain ⟨rfl, h⟩ := h
      refine b_if_eq (t := 64) X dX7_number_24 (by decide) (fun c => ?_) (fun c => ?_)
      · replace h := h.1 c
        refine b_sub (lv' := [(0, .ref (ad 0)), (1, .int a1), (2, .int a2), (3, .int v3), (4, .int v4)]) [0, 1, 2, 3, 4] rfl ?_
        exact B64 v3 v4 μ h
      · replace h := h.2 c
        refine b_iload_n X dX7_number_27 rfl 3 rfl ?_
        refine b_aload_n X dX7_number_28 rfl 0 rfl ?_
        refine g_7_3 X kM_0 m_f_X7_94 dX7_number_29 ?_
        refine b_isub X dX7_number_32 ?_
        refine b_iconst (v := (nI 3)) X dX7_number_33 (by decide) ?_
        refine b_icmp_ge (t := 54) X dX7_number_34 (by decide) (fun c => ?_) (fun c => ?_)
        · replace h := h.1 c
          refine b_iload X dX7_number_54 4 rfl ?_
          refine b_sub (lv' := [(0, .ref (ad 0)), (1, .int a1), (2, .int a2), (3, .int v3)]) [0, 1, 2, 3] rfl ?_
          exact B56 v3 v4 h
        · replace h := h.2 c
          refine b_bipush (v := (nI 10)) X dX7_number_37 (by decide) ?_
          refine b_iload X dX7_number_39 4 rfl ?_
          refine b_imul X dX7_number_41 ?_
          refine b_aload_n X dX7_number_42 rfl 0 rfl ?_
          refine b_iload_n X dX7_number_43 rfl 3 rfl ?_
          refine bVi (st := [.int ((nI 10) * v4)]) (nA := 1) X (c_X7_letterAt l D C ad v3 μ _ h) kM_0 (by decide) (enc_7 kM_0) rfl gw_X7_97 ⟨rfl, hd_X7_letterAt⟩ rfl rfl ⟨Nat.le_of_ble_eq_true rfl, Nat.le_of_ble_eq_true rfl⟩ rfl rfl (Nat.le_of_ble_eq_true rfl) dX7_number_44 (fun r8 μ9 h => ?_)
          obtain ⟨rfl, h⟩ := h
          refine b_iadd X dX7_number_47 ?_
          refine b_bipush (v := (nI 48)) X dX7_number_48 (by decide) ?_
          refine b_isub X dX7_number_50 ?_
          refine b_goto (t := 56) X dX7_number_51 (by decide) ?_
          refine b_sub (lv' := [(0, .ref (ad 0)), (1, .int a1), (2, .int a2), (3, .int v3)]) [0, 1, 2, 3] rfl ?_
          exact B56 v3 ((((nI 10) * v4) + r8) - (nI 48)) h
    rw [eY] at B12
    exact B12
  refine b_aload_n X dX7_number_0 rfl 0 rfl ?_
  refine bVv (st := []) (nA := 0) X (c_X7_blanks l D C ad  μ _ h) kM_0 (by decide) (enc_7 kM_0) rfl gw_X7_104 ⟨rfl, hd_X7_blanks⟩ rfl rfl ⟨Nat.le_of_ble_eq_true rfl, Nat.le_of_ble_eq_true rfl⟩ rfl rfl (Nat.le_of_ble_eq_true rfl) dX7_number_1 (fun μ2 h => ?_)
  refine b_aload_n X dX7_number_4 rfl 0 rfl ?_
  refine g_7_3 X kM_0 m_f_X7_94 dX7_number_5 ?_
  refine b_topi (fun x3 ex3 => ?_)
  replace h := h x3 ex3
  refine b_istore_n (lv' := [(3, .int x3), (0, .ref (ad 0)), (1, .int a1), (2, .int a2)]) X dX7_number_8 rfl (by decide) rfl ?_
  refine b_iconst (v := (nI 0)) X dX7_number_9 (by decide) ?_
  refine b_istore (lv' := [(4, .int (nI 0)), (3, .int x3), (0, .ref (ad 0)), (1, .int a1), (2, .int a2)]) X dX7_number_10 (by decide) rfl ?_
  refine b_sub (lv' := [(0, .ref (ad 0)), (1, .int a1), (2, .int a2), (3, .int x3), (4, .int (nI 0))]) [2, 3, 4, 1, 0] rfl ?_
  exact B12 x3 (nI 0) μ2 h
set_option maxHeartbeats 4000000 in
set_option maxRecDepth 100000 in
theorem c_X7_ends (l : Launch) (D : va_G) (C : Nat → ClassId) (ad : Nat → Nat)  (μ : Mem) (Q : Int32 → Mem → Prop) (h : w_X7_ends  μ Q) : Mi sM l yX7_ends cX7_ends 1 (some .boolean) rm_X7_ends D C ad [.ref (ad 0)] μ Q := by
  refine fm_z (by decide +kernel) sM_lt (Nat.le_of_ble_eq_true rfl) (fun K X hret => ?_)
  have X : CK sM D C ad K cX7_ends 1 RX7 := X
  refine b_lv (lv' := [(0, .ref (ad 0))]) rfl ?_
  unfold w_X7_ends at h
  refine b_aload_n X dX7_ends_0 rfl 0 rfl ?_
  refine bVv (st := []) (nA := 0) X (c_X7_blanks l D C ad  μ _ h) kM_0 (by decide) (enc_7 kM_0) rfl gw_X7_104 ⟨rfl, hd_X7_blanks⟩ rfl rfl ⟨Nat.le_of_ble_eq_true rfl, Nat.le_of_ble_eq_true rfl⟩ rfl rfl (Nat.le_of_ble_eq_true rfl) dX7_ends_1 (fun μ2 h => ?_)
  refine b_aload_n X dX7_ends_4 rfl 0 rfl ?_
  refine b_aload_n X dX7_ends_5 rfl 0 rfl ?_
  refine g_7_3 X kM_0 m_f_X7_94 dX7_ends_6 ?_
  refine bVi (st := []) (nA := 1) X (c_X7_letterAt l D C ad (μ2.1 0 3) μ2 _ h) kM_0 (by decide) (enc_7 kM_0) rfl gw_X7_97 ⟨rfl, hd_X7_letterAt⟩ rfl rfl ⟨Nat.le_of_ble_eq_true rfl, Nat.le_of_ble_eq_true rfl⟩ rfl rfl (Nat.le_of_ble_eq_true rfl) dX7_ends_9 (fun r3 μ4 h => ?_)
  obtain ⟨rfl, h⟩ := h
  refine b_bipush (v := (nI 59)) X dX7_ends_12 (by decide) ?_
  refine b_icmp_eq (t := 23) X dX7_ends_14 (by decide) (fun c => ?_) (fun c => ?_)
  · replace h := h.1 c
    refine b_aload_n X dX7_ends_23 rfl 0 rfl ?_
    refine b_dup X dX7_ends_24 rfl ?_
    refine g_7_3 X kM_0 m_f_X7_94 dX7_ends_25 ?_
    refine b_iconst (v := (nI 1)) X dX7_ends_28 (by decide) ?_
    refine b_iadd X dX7_ends_29 ?_
    refine p_7_3 X kM_0 m_f_X7_94 dX7_ends_30 (fun μ5 eμ5 => ?_)
    replace h := h μ5 eμ5
    refine b_iconst (v := (nI 1)) X dX7_ends_33 (by decide) ?_
    exact hret _ _ _ _ ⟨(Or.inr rfl), h⟩ dX7_ends_34
  · replace h := h.2 c
    refine b_aload_n X dX7_ends_17 rfl 0 rfl ?_
    refine b_iconst (v := (nI 1)) X dX7_ends_18 (by decide) ?_
    refine bVi (st := []) (nA := 1) X (c_X7_fails l D C ad (nI 1) μ2 _ h) kM_0 (by decide) (enc_7 kM_0) rfl gw_X7_107 ⟨rfl, hd_X7_fails⟩ rfl rfl ⟨Nat.le_of_ble_eq_true rfl, Nat.le_of_ble_eq_true rfl⟩ rfl rfl (Nat.le_of_ble_eq_true rfl) dX7_ends_19 (fun r6 μ7 h => ?_)
    exact hret _ _ _ _ ⟨h.1, h.2⟩ dX7_ends_22
set_option maxHeartbeats 4000000 in
set_option maxRecDepth 100000 in
theorem c_X7_reads2 (l : Launch) (D : va_G) (C : Nat → ClassId) (ad : Nat → Nat) (b1 : Nat) (h1 : sM.2.1 b1 = 8) (a2 : Int32) (a3 : Int32) (a4 : Int32) (a5 : Int32) (a6 : Int32) (μ : Mem) (Q : Int32 → Mem → Prop) (h : w_X7_reads2 b1 a2 a3 a4 a5 a6 μ Q) : Mi sM l yX7_reads2 cX7_reads2 7 (some .boolean) rm_X7_reads2 D C ad [.ref (ad 0), .ref (ad b1), .int a2, .int a3, .int a4, .int a5, .int a6] μ Q := by
  refine fm_z (by decide +kernel) sM_lt (Nat.le_of_ble_eq_true rfl) (fun K X hret => ?_)
  have X : CK sM D C ad K cX7_reads2 7 RX7 := X
  refine b_lv (lv' := [(0, .ref (ad 0)), (1, .ref (ad b1)), (2, .int a2), (3, .int a3), (4, .int a4), (5, .int a5), (6, .int a6)]) rfl ?_
  unfold w_X7_reads2 at h
  refine b_aload_n X dX7_reads2_0 rfl 1 rfl ?_
  refine b_iload_n X dX7_reads2_1 rfl 2 rfl ?_
  refine b_aload_n X dX7_reads2_2 rfl 0 rfl ?_
  refine b_iload_n X dX7_reads2_3 rfl 3 rfl ?_
  refine b_iload X dX7_reads2_4 4 rfl ?_
  refine bVi (st := [.int a2, .ref (ad b1)]) (nA := 2) X (c_X7_number l D C ad a3 a4 μ _ h) kM_0 (by decide) (enc_7 kM_0) rfl gw_X7_111 ⟨rfl, hd_X7_number⟩ rfl rfl ⟨Nat.le_of_ble_eq_true rfl, Nat.le_of_ble_eq_true rfl⟩ rfl rfl (Nat.le_of_ble_eq_true rfl) dX7_reads2_6 (fun r1 μ2 h => ?_)
  have hz := h.1
  replace h := h.2
  refine b_iast X h1 rfl hz dX7_reads2_9 (fun μ3 eμ3 => ?_)
  clear hz
  replace h := h μ3 eμ3
  refine b_aload_n X dX7_reads2_10 rfl 1 rfl ?_
  refine b_iload_n X dX7_reads2_11 rfl 2 rfl ?_
  have hz := h.1
  replace h := h.2
  refine b_iald X h1 rfl hz dX7_reads2_12 ?_
  clear hz
  refine b_if_ge (t := 18) X dX7_reads2_13 (by decide) (fun c => ?_) (fun c => ?_)
  · replace h := h.1 c
    refine b_aload_n X dX7_reads2_18 rfl 1 rfl ?_
    refine b_iload_n X dX7_reads2_19 rfl 2 rfl ?_
    refine b_iconst (v := (nI 1)) X dX7_reads2_20 (by decide) ?_
    refine b_iadd X dX7_reads2_21 ?_
    refine b_aload_n X dX7_reads2_22 rfl 0 rfl ?_
    refine b_iload X dX7_reads2_23 5 rfl ?_
    refine b_iload X dX7_reads2_25 6 rfl ?_
    refine bVi (st := [.int (a2 + (nI 1)), .ref (ad b1)]) (nA := 2) X (c_X7_number l D C ad a5 a6 μ3 _ h) kM_0 (by decide) (enc_7 kM_0) rfl gw_X7_111 ⟨rfl, hd_X7_number⟩ rfl rfl ⟨Nat.le_of_ble_eq_true rfl, Nat.le_of_ble_eq_true rfl⟩ rfl rfl (Nat.le_of_ble_eq_true rfl) dX7_reads2_27 (fun r4 μ5 h => ?_)
    have hz := h.1
    replace h := h.2
    refine b_iast X h1 rfl hz dX7_reads2_30 (fun μ6 eμ6 => ?_)
    clear hz
    replace h := h μ6 eμ6
    refine b_aload_n X dX7_reads2_31 rfl 1 rfl ?_
    refine b_iload_n X dX7_reads2_32 rfl 2 rfl ?_
    refine b_iconst (v := (nI 1)) X dX7_reads2_33 (by decide) ?_
    refine b_iadd X dX7_reads2_34 ?_
    have hz := h.1
    replace h := h.2
    refine b_iald X h1 rfl hz dX7_reads2_35 ?_
    clear hz
    refine b_if_lt (t := 43) X dX7_reads2_36 (by decide) (fun c => ?_) (fun c => ?_)
    · replace h := h.1 c
      refine b_iconst (v := (nI 0)) X dX7_reads2_43 (by decide) ?_
      exact hret _ _ _ _ ⟨(Or.inl rfl), h⟩ dX7_reads2_44
    · replace h := h.2 c
      refine b_iconst (v := (nI 1)) X dX7_reads2_39 (by decide) ?_
      refine b_goto (t := 44) X dX7_reads2_40 (by decide) ?_
      exact hret _ _ _ _ ⟨(Or.inr rfl), h⟩ dX7_reads2_44
  · replace h := h.2 c
    refine b_iconst (v := (nI 0)) X dX7_reads2_16 (by decide) ?_
    exact hret _ _ _ _ ⟨(Or.inl rfl), h⟩ dX7_reads2_17
set_option maxHeartbeats 4000000 in
set_option maxRecDepth 100000 in
theorem c_X7_readsHead (l : Launch) (D : va_G) (C : Nat → ClassId) (ad : Nat → Nat)  (μ : Mem) (Q : Int32 → Mem → Prop) (h : w_X7_readsHead  μ Q) : Mi sM l yX7_readsHead cX7_readsHead 1 (some .boolean) rm_X7_readsHead D C ad [.ref (ad 0)] μ Q := by
  refine fm_z (by decide +kernel) sM_lt (Nat.le_of_ble_eq_true rfl) (fun K X hret => ?_)
  have X : CK sM D C ad K cX7_readsHead 1 RX7 := X
  refine b_lv (lv' := [(0, .ref (ad 0))]) rfl ?_
  unfold w_X7_readsHead at h
  refine b_aload_n X dX7_readsHead_0 rfl 0 rfl ?_
  refine b_dup X dX7_readsHead_1 rfl ?_
  refine g_7_3 X kM_0 m_f_X7_94 dX7_readsHead_2 ?_
  refine b_iconst (v := (nI 1)) X dX7_readsHead_5 (by decide) ?_
  refine b_iadd X dX7_readsHead_6 ?_
  refine p_7_3 X kM_0 m_f_X7_94 dX7_readsHead_7 (fun μ1 eμ1 => ?_)
  replace h := h μ1 eμ1
  refine b_aload_n X dX7_readsHead_10 rfl 0 rfl ?_
  refine b_aload_n X dX7_readsHead_11 rfl 0 rfl ?_
  refine g_7_11 X kM_0 m_f_X7_17 dX7_readsHead_12 ?_
  refine b_iconst (v := (nI 0)) X dX7_readsHead_15 (by decide) ?_
  refine b_iconst (v := (nI 1)) X dX7_readsHead_16 (by decide) ?_
  refine b_bipush (v := (nI 12)) X dX7_readsHead_17 (by decide) ?_
  refine b_iconst (v := (nI 0)) X dX7_readsHead_19 (by decide) ?_
  refine b_bipush (v := (nI 20)) X dX7_readsHead_20 (by decide) ?_
  refine bVi (st := []) (nA := 6) X (c_X7_reads2 l D C ad 2 kM_2 (nI 0) (nI 1) (nI 12) (nI 0) (nI 20) μ1 _ h) kM_0 (by decide) (enc_7 kM_0) rfl gw_X7_115 ⟨rfl, hd_X7_reads2⟩ rfl rfl ⟨Nat.le_of_ble_eq_true rfl, Nat.le_of_ble_eq_true rfl⟩ rfl rfl (Nat.le_of_ble_eq_true rfl) dX7_readsHead_22 (fun r2 μ3 h => ?_)
  refine b_if_eq (t := 39) X dX7_readsHead_25 (by decide) (fun c => ?_) (fun c => ?_)
  · replace h := h.1 c
    refine b_iconst (v := (nI 0)) X dX7_readsHead_39 (by decide) ?_
    exact hret _ _ _ _ ⟨(Or.inl rfl), h⟩ dX7_readsHead_40
  · replace h := h.2 c
    refine b_aload_n X dX7_readsHead_28 rfl 0 rfl ?_
    refine bVi (st := []) (nA := 0) X (c_X7_ends l D C ad  μ3 _ h) kM_0 (by decide) (enc_7 kM_0) rfl gw_X7_119 ⟨rfl, hd_X7_ends⟩ rfl rfl ⟨Nat.le_of_ble_eq_true rfl, Nat.le_of_ble_eq_true rfl⟩ rfl rfl (Nat.le_of_ble_eq_true rfl) dX7_readsHead_29 (fun r4 μ5 h => ?_)
    refine b_if_eq (t := 39) X dX7_readsHead_32 (by decide) (fun c => ?_) (fun c => ?_)
    · replace h := h.1 c
      refine b_iconst (v := (nI 0)) X dX7_readsHead_39 (by decide) ?_
      exact hret _ _ _ _ ⟨(Or.inl rfl), h⟩ dX7_readsHead_40
    · replace h := h.2 c
      refine b_iconst (v := (nI 1)) X dX7_readsHead_35 (by decide) ?_
      refine b_goto (t := 40) X dX7_readsHead_36 (by decide) ?_
      exact hret _ _ _ _ ⟨(Or.inr rfl), h⟩ dX7_readsHead_40
set_option maxHeartbeats 4000000 in
set_option maxRecDepth 100000 in
theorem c_X7_readsHour (l : Launch) (D : va_G) (C : Nat → ClassId) (ad : Nat → Nat)  (μ : Mem) (Q : Int32 → Mem → Prop) (h : w_X7_readsHour  μ Q) : Mi sM l yX7_readsHour cX7_readsHour 1 (some .boolean) rm_X7_readsHour D C ad [.ref (ad 0)] μ Q := by
  refine fm_z (by decide +kernel) sM_lt (Nat.le_of_ble_eq_true rfl) (fun K X hret => ?_)
  have X : CK sM D C ad K cX7_readsHour 1 RX7 := X
  refine b_lv (lv' := [(0, .ref (ad 0))]) rfl ?_
  unfold w_X7_readsHour at h
  refine b_aload_n X dX7_readsHour_0 rfl 0 rfl ?_
  refine g_7_6 X kM_0 m_f_X7_123 dX7_readsHour_1 ?_
  refine b_bipush (v := (nI 12)) X dX7_readsHour_4 (by decide) ?_
  refine b_icmp_ne (t := 15) X dX7_readsHour_6 (by decide) (fun c => ?_) (fun c => ?_)
  · replace h := h.1 c
    refine b_aload_n X dX7_readsHour_15 rfl 0 rfl ?_
    refine b_dup X dX7_readsHour_16 rfl ?_
    refine g_7_3 X kM_0 m_f_X7_94 dX7_readsHour_17 ?_
    refine b_iconst (v := (nI 1)) X dX7_readsHour_20 (by decide) ?_
    refine b_iadd X dX7_readsHour_21 ?_
    refine p_7_3 X kM_0 m_f_X7_94 dX7_readsHour_22 (fun μ1 eμ1 => ?_)
    replace h := h μ1 eμ1
    refine b_aload_n X dX7_readsHour_25 rfl 0 rfl ?_
    refine b_aload_n X dX7_readsHour_26 rfl 0 rfl ?_
    refine g_7_14 X kM_0 m_f_X7_26 dX7_readsHour_27 ?_
    refine b_iconst (v := (nI 2)) X dX7_readsHour_30 (by decide) ?_
    refine b_aload_n X dX7_readsHour_31 rfl 0 rfl ?_
    refine g_7_6 X kM_0 m_f_X7_123 dX7_readsHour_32 ?_
    refine b_imul X dX7_readsHour_35 ?_
    refine b_iconst (v := (nI 0)) X dX7_readsHour_36 (by decide) ?_
    refine b_iconst (v := (nI 1)) X dX7_readsHour_37 (by decide) ?_
    refine b_iconst (v := (nI 0)) X dX7_readsHour_38 (by decide) ?_
    refine b_bipush (v := (nI 40)) X dX7_readsHour_39 (by decide) ?_
    refine bVi (st := []) (nA := 6) X (c_X7_reads2 l D C ad 5 kM_5 ((nI 2) * (μ1.1 0 6)) (nI 0) (nI 1) (nI 0) (nI 40) μ1 _ h) kM_0 (by decide) (enc_7 kM_0) rfl gw_X7_115 ⟨rfl, hd_X7_reads2⟩ rfl rfl ⟨Nat.le_of_ble_eq_true rfl, Nat.le_of_ble_eq_true rfl⟩ rfl rfl (Nat.le_of_ble_eq_true rfl) dX7_readsHour_41 (fun r2 μ3 h => ?_)
    refine b_if_ne (t := 49) X dX7_readsHour_44 (by decide) (fun c => ?_) (fun c => ?_)
    · replace h := h.1 c
      refine b_aload_n X dX7_readsHour_49 rfl 0 rfl ?_
      refine b_dup X dX7_readsHour_50 rfl ?_
      refine g_7_6 X kM_0 m_f_X7_123 dX7_readsHour_51 ?_
      refine b_iconst (v := (nI 1)) X dX7_readsHour_54 (by decide) ?_
      refine b_iadd X dX7_readsHour_55 ?_
      refine p_7_6 X kM_0 m_f_X7_123 dX7_readsHour_56 (fun μ4 eμ4 => ?_)
      replace h := h μ4 eμ4
      refine b_aload_n X dX7_readsHour_59 rfl 0 rfl ?_
      refine bVi (st := []) (nA := 0) X (c_X7_ends l D C ad  μ4 _ h) kM_0 (by decide) (enc_7 kM_0) rfl gw_X7_119 ⟨rfl, hd_X7_ends⟩ rfl rfl ⟨Nat.le_of_ble_eq_true rfl, Nat.le_of_ble_eq_true rfl⟩ rfl rfl (Nat.le_of_ble_eq_true rfl) dX7_readsHour_60 (fun r5 μ6 h => ?_)
      exact hret _ _ _ _ ⟨h.1, h.2⟩ dX7_readsHour_63
    · replace h := h.2 c
      refine b_iconst (v := (nI 0)) X dX7_readsHour_47 (by decide) ?_
      exact hret _ _ _ _ ⟨(Or.inl rfl), h⟩ dX7_readsHour_48
  · replace h := h.2 c
    refine b_aload_n X dX7_readsHour_9 rfl 0 rfl ?_
    refine b_iconst (v := (nI 3)) X dX7_readsHour_10 (by decide) ?_
    refine bVi (st := []) (nA := 1) X (c_X7_fails l D C ad (nI 3) μ _ h) kM_0 (by decide) (enc_7 kM_0) rfl gw_X7_107 ⟨rfl, hd_X7_fails⟩ rfl rfl ⟨Nat.le_of_ble_eq_true rfl, Nat.le_of_ble_eq_true rfl⟩ rfl rfl (Nat.le_of_ble_eq_true rfl) dX7_readsHour_11 (fun r7 μ8 h => ?_)
    exact hret _ _ _ _ ⟨h.1, h.2⟩ dX7_readsHour_14
set_option maxHeartbeats 4000000 in
set_option maxRecDepth 100000 in
theorem c_X7_isTaken (l : Launch) (D : va_G) (C : Nat → ClassId) (ad : Nat → Nat) (a1 : Int32) (μ : Mem) (Q : Int32 → Prop) (h : w_X7_isTaken a1 μ Q) : Mi sM l yX7_isTaken cX7_isTaken 4 (some .boolean) rm_X7_isTaken D C ad [.ref (ad 0), .int a1] μ (fun r μ' => μ = μ' ∧ Q r) := by
  refine fm_z (by decide +kernel) sM_lt (Nat.le_of_ble_eq_true rfl) (fun K X hret => ?_)
  have X : CK sM D C ad K cX7_isTaken 4 RX7 := X
  refine b_lv (lv' := [(0, .ref (ad 0)), (1, .int a1)]) rfl ?_
  unfold w_X7_isTaken at h
  have B4 : ∀ (v2 : Int32) (v3 : Int32), w_X7_isTaken_4 a1 v2 v3 μ Q → WB sM l D C ad rm_X7_isTaken K 4 μ 4 [(0, .ref (ad 0)), (1, .int a1), (2, .int v2), (3, .int v3)] [] := by
    intro v2 v3 h
    obtain ⟨Y4, eY⟩ : ∃ Y : Int32 → Int32 → Prop, Y = fun (v2 : Int32) (v3 : Int32) => WB sM l D C ad rm_X7_isTaken K 4 μ 4 [(0, .ref (ad 0)), (1, .int a1), (2, .int v2), (3, .int v3)] [] := ⟨_, rfl⟩
    have B4 : Y4 v2 v3 := by
      unfold w_X7_isTaken_4 at h
      refine h Y4 ?_
      clear h
      intro v2 v3 h
      unfold s_X7_isTaken_4 at h
      rw [eY]
      show WB sM l D C ad rm_X7_isTaken K 4 μ 4 [(0, .ref (ad 0)), (1, .int a1), (2, .int v2), (3, .int v3)] []
      have T4 : ∀ (v2 : Int32) (v3 : Int32), Y4 v2 v3 → WB sM l D C ad rm_X7_isTaken K 4 μ 4 [(0, .ref (ad 0)), (1, .int a1), (2, .int v2), (3, .int v3)] [] := by
        intro v2 v3 h
        rw [eY] at h
        exact h
      clear eY
      have B33 : ∀ (v3 : Int32) (s1 : Int32), w_X7_isTaken_33 a1 Y4 v3 s1 μ Q → WB sM l D C ad rm_X7_isTaken K 4 μ 33 [(0, .ref (ad 0)), (1, .int a1), (3, .int v3)] [.int s1] := by
        intro v3 s1 h
        unfold w_X7_isTaken_33 at h
        refine b_istore_n (lv' := [(2, .int s1), (0, .ref (ad 0)), (1, .int a1), (3, .int v3)]) X dX7_isTaken_33 rfl (by decide) rfl ?_
        obtain ⟨x1, ex1⟩ : ∃ y : Int32, y = v3 + (nI 1) := ⟨_, rfl⟩
        replace h := h x1 ex1
        refine b_iinc (x := x1) (lv' := [(3, .int x1), (2, .int s1), (0, .ref (ad 0)), (1, .int a1)]) (q := 3) X dX7_isTaken_34 rfl (by rw [ex1]; rfl) (by decide) rfl ?_
        refine b_goto (t := 4) X dX7_isTaken_37 (by decide) ?_
        refine b_sub (lv' := [(0, .ref (ad 0)), (1, .int a1), (2, .int s1), (3, .int x1)]) [2, 3, 1, 0] rfl ?_
        exact T4 s1 x1 h
      have B28 : ∀ (v3 : Int32), w_X7_isTaken_28 a1 Y4 v3 μ Q → WB sM l D C ad rm_X7_isTaken K 4 μ 28 [(0, .ref (ad 0)), (1, .int a1), (3, .int v3)] [] := by
        intro v3 h
        unfold w_X7_isTaken_28 at h
        refine b_iconst (v := (nI 1)) X dX7_isTaken_28 (by decide) ?_
        refine b_goto (t := 33) X dX7_isTaken_29 (by decide) ?_
        refine b_sub (lv' := [(0, .ref (ad 0)), (1, .int a1), (3, .int v3)]) [0, 1, 2] rfl ?_
        exact B33 v3 (nI 1) h
      refine b_iload_n X dX7_isTaken_4 rfl 3 rfl ?_
      refine b_aload_n X dX7_isTaken_5 rfl 0 rfl ?_
      refine g_7_5 X kM_0 m_f_X7_126 dX7_isTaken_6 ?_
      refine b_icmp_ge (t := 40) X dX7_isTaken_9 (by decide) (fun c => ?_) (fun c => ?_)
      · replace h := h.1 c
        refine b_iload_n X dX7_isTaken_40 rfl 2 rfl ?_
        exact hret _ _ _ _ ⟨h.1, rfl, h.2⟩ dX7_isTaken_41
      · replace h := h.2 c
        refine b_iload_n X dX7_isTaken_12 rfl 2 rfl ?_
        refine b_if_ne (t := 28) X dX7_isTaken_13 (by decide) (fun c => ?_) (fun c => ?_)
        · replace h := h.1 c
          refine b_sub (lv' := [(0, .ref (ad 0)), (1, .int a1), (3, .int v3)]) [0, 1, 3] rfl ?_
          exact B28 v3 h
        · replace h := h.2 c
          refine b_aload_n X dX7_isTaken_16 rfl 0 rfl ?_
          refine g_7_15 X kM_0 m_f_X7_29 dX7_isTaken_17 ?_
          refine b_iconst (v := (nI 4)) X dX7_isTaken_20 (by decide) ?_
          refine b_iload_n X dX7_isTaken_21 rfl 3 rfl ?_
          refine b_imul X dX7_isTaken_22 ?_
          have hz := h.1
          replace h := h.2
          refine b_iald X kM_6 nM_6 hz dX7_isTaken_23 ?_
          clear hz
          refine b_iload_n X dX7_isTaken_24 rfl 1 rfl ?_
          refine b_icmp_ne (t := 32) X dX7_isTaken_25 (by decide) (fun c => ?_) (fun c => ?_)
          · replace h := h.1 c
            refine b_iconst (v := (nI 0)) X dX7_isTaken_32 (by decide) ?_
            refine b_sub (lv' := [(0, .ref (ad 0)), (1, .int a1), (3, .int v3)]) [0, 1, 3] rfl ?_
            exact B33 v3 (nI 0) h
          · replace h := h.2 c
            refine b_sub (lv' := [(0, .ref (ad 0)), (1, .int a1), (3, .int v3)]) [0, 1, 3] rfl ?_
            exact B28 v3 h
    rw [eY] at B4
    exact B4
  refine b_iconst (v := (nI 0)) X dX7_isTaken_0 (by decide) ?_
  refine b_istore_n (lv' := [(2, .int (nI 0)), (0, .ref (ad 0)), (1, .int a1)]) X dX7_isTaken_1 rfl (by decide) rfl ?_
  refine b_iconst (v := (nI 0)) X dX7_isTaken_2 (by decide) ?_
  refine b_istore_n (lv' := [(3, .int (nI 0)), (2, .int (nI 0)), (0, .ref (ad 0)), (1, .int a1)]) X dX7_isTaken_3 rfl (by decide) rfl ?_
  refine b_sub (lv' := [(0, .ref (ad 0)), (1, .int a1), (2, .int (nI 0)), (3, .int (nI 0))]) [2, 3, 1, 0] rfl ?_
  exact B4 (nI 0) (nI 0) h
set_option maxHeartbeats 4000000 in
set_option maxRecDepth 100000 in
theorem c_X7_readsPost (l : Launch) (D : va_G) (C : Nat → ClassId) (ad : Nat → Nat)  (μ : Mem) (Q : Int32 → Mem → Prop) (h : w_X7_readsPost  μ Q) : Mi sM l yX7_readsPost cX7_readsPost 4 (some .boolean) rm_X7_readsPost D C ad [.ref (ad 0)] μ Q := by
  refine fm_z (by decide +kernel) sM_lt (Nat.le_of_ble_eq_true rfl) (fun K X hret => ?_)
  have X : CK sM D C ad K cX7_readsPost 4 RX7 := X
  refine b_lv (lv' := [(0, .ref (ad 0))]) rfl ?_
  unfold w_X7_readsPost at h
  refine b_aload_n X dX7_readsPost_0 rfl 0 rfl ?_
  refine g_7_5 X kM_0 m_f_X7_126 dX7_readsPost_1 ?_
  refine b_bipush (v := (nI 6)) X dX7_readsPost_4 (by decide) ?_
  refine b_icmp_ne (t := 15) X dX7_readsPost_6 (by decide) (fun c => ?_) (fun c => ?_)
  · replace h := h.1 c
    refine b_aload_n X dX7_readsPost_15 rfl 0 rfl ?_
    refine b_dup X dX7_readsPost_16 rfl ?_
    refine g_7_3 X kM_0 m_f_X7_94 dX7_readsPost_17 ?_
    refine b_iconst (v := (nI 1)) X dX7_readsPost_20 (by decide) ?_
    refine b_iadd X dX7_readsPost_21 ?_
    refine p_7_3 X kM_0 m_f_X7_94 dX7_readsPost_22 (fun μ1 eμ1 => ?_)
    replace h := h μ1 eμ1
    refine b_aload_n X dX7_readsPost_25 rfl 0 rfl ?_
    refine bVv (st := []) (nA := 0) X (c_X7_blanks l D C ad  μ1 _ h) kM_0 (by decide) (enc_7 kM_0) rfl gw_X7_104 ⟨rfl, hd_X7_blanks⟩ rfl rfl ⟨Nat.le_of_ble_eq_true rfl, Nat.le_of_ble_eq_true rfl⟩ rfl rfl (Nat.le_of_ble_eq_true rfl) dX7_readsPost_26 (fun μ3 h => ?_)
    refine b_aload_n X dX7_readsPost_29 rfl 0 rfl ?_
    refine g_7_3 X kM_0 m_f_X7_94 dX7_readsPost_30 ?_
    refine b_topi (fun x4 ex4 => ?_)
    replace h := h x4 ex4
    refine b_istore_n (lv' := [(1, .int x4), (0, .ref (ad 0))]) X dX7_readsPost_33 rfl (by decide) rfl ?_
    refine b_iconst (v := (nI 4)) X dX7_readsPost_34 (by decide) ?_
    refine b_aload_n X dX7_readsPost_35 rfl 1 rfl ?_
    refine g_7_5 X kM_0 m_f_X7_126 dX7_readsPost_36 ?_
    refine b_imul X dX7_readsPost_39 ?_
    refine b_topi (fun x5 ex5 => ?_)
    replace h := h x5 ex5
    refine b_istore_n (lv' := [(2, .int x5), (1, .int x4), (0, .ref (ad 0))]) X dX7_readsPost_40 rfl (by decide) rfl ?_
    refine b_aload_n X dX7_readsPost_41 rfl 2 rfl ?_
    refine b_iconst (v := (nI 0)) X dX7_readsPost_42 (by decide) ?_
    refine b_aload_n X dX7_readsPost_43 rfl 2 rfl ?_
    refine g_7_11 X kM_0 m_f_X7_17 dX7_readsPost_44 ?_
    refine b_iconst (v := (nI 0)) X dX7_readsPost_47 (by decide) ?_
    have hz := h.1
    replace h := h.2
    refine b_iald X kM_2 nM_2 hz dX7_readsPost_48 ?_
    clear hz
    refine b_iconst (v := (nI 1)) X dX7_readsPost_49 (by decide) ?_
    refine b_isub X dX7_readsPost_50 ?_
    refine bVi (st := []) (nA := 2) X (c_X7_number l D C ad (nI 0) ((μ3.1 2 ((nI 0)).toNatClampNeg) - (nI 1)) μ3 _ h) kM_0 (by decide) (enc_7 kM_0) rfl gw_X7_111 ⟨rfl, hd_X7_number⟩ rfl rfl ⟨Nat.le_of_ble_eq_true rfl, Nat.le_of_ble_eq_true rfl⟩ rfl rfl (Nat.le_of_ble_eq_true rfl) dX7_readsPost_51 (fun r6 μ7 h => ?_)
    refine b_istore_n (lv' := [(3, .int r6), (2, .int x5), (1, .int x4), (0, .ref (ad 0))]) X dX7_readsPost_54 rfl (by decide) rfl ?_
    refine b_iload_n X dX7_readsPost_55 rfl 0 rfl ?_
    refine b_if_ge (t := 61) X dX7_readsPost_56 (by decide) (fun c => ?_) (fun c => ?_)
    · replace h := h.1 c
      refine b_aload_n X dX7_readsPost_61 rfl 3 rfl ?_
      refine b_iload_n X dX7_readsPost_62 rfl 0 rfl ?_
      refine bVi (st := []) (nA := 1) X (c_X7_isTaken l D C ad r6 μ7 _ h) kM_0 (by decide) (enc_7 kM_0) rfl gw_X7_129 ⟨rfl, hd_X7_isTaken⟩ rfl rfl ⟨Nat.le_of_ble_eq_true rfl, Nat.le_of_ble_eq_true rfl⟩ rfl rfl (Nat.le_of_ble_eq_true rfl) dX7_readsPost_63 (fun r8 μ9 h => ?_)
      obtain ⟨rfl, h⟩ := h
      refine b_if_eq (t := 80) X dX7_readsPost_66 (by decide) (fun c => ?_) (fun c => ?_)
      · replace h := h.1 c
        refine b_aload_n X dX7_readsPost_80 rfl 3 rfl ?_
        refine g_7_15 X kM_0 m_f_X7_29 dX7_readsPost_81 ?_
        refine b_iload_n X dX7_readsPost_84 rfl 1 rfl ?_
        refine b_iload_n X dX7_readsPost_85 rfl 0 rfl ?_
        have hz := h.1
        replace h := h.2
        refine b_iast X kM_6 nM_6 hz dX7_readsPost_86 (fun μ10 eμ10 => ?_)
        clear hz
        replace h := h μ10 eμ10
        refine b_aload_n X dX7_readsPost_87 rfl 3 rfl ?_
        refine g_7_15 X kM_0 m_f_X7_29 dX7_readsPost_88 ?_
        refine b_iload_n X dX7_readsPost_91 rfl 1 rfl ?_
        refine b_iconst (v := (nI 1)) X dX7_readsPost_92 (by decide) ?_
        refine b_iadd X dX7_readsPost_93 ?_
        refine b_aload_n X dX7_readsPost_94 rfl 3 rfl ?_
        refine b_iconst (v := (nI 0)) X dX7_readsPost_95 (by decide) ?_
        refine b_bipush (v := (nI 9)) X dX7_readsPost_96 (by decide) ?_
        refine bVi (st := [.int (x5 + (nI 1)), .ref (ad 6)]) (nA := 2) X (c_X7_number l D C ad (nI 0) (nI 9) μ10 _ h) kM_0 (by decide) (enc_7 kM_0) rfl gw_X7_111 ⟨rfl, hd_X7_number⟩ rfl rfl ⟨Nat.le_of_ble_eq_true rfl, Nat.le_of_ble_eq_true rfl⟩ rfl rfl (Nat.le_of_ble_eq_true rfl) dX7_readsPost_98 (fun r11 μ12 h => ?_)
        have hz := h.1
        replace h := h.2
        refine b_iast X kM_6 nM_6 hz dX7_readsPost_101 (fun μ13 eμ13 => ?_)
        clear hz
        replace h := h μ13 eμ13
        refine b_aload_n X dX7_readsPost_102 rfl 3 rfl ?_
        refine g_7_15 X kM_0 m_f_X7_29 dX7_readsPost_103 ?_
        refine b_iload_n X dX7_readsPost_106 rfl 1 rfl ?_
        refine b_iconst (v := (nI 1)) X dX7_readsPost_107 (by decide) ?_
        refine b_iadd X dX7_readsPost_108 ?_
        have hz := h.1
        replace h := h.2
        refine b_iald X kM_6 nM_6 hz dX7_readsPost_109 ?_
        clear hz
        refine b_if_lt (t := 132) X dX7_readsPost_110 (by decide) (fun c => ?_) (fun c => ?_)
        · replace h := h.1 c
          refine b_iconst (v := (nI 0)) X dX7_readsPost_132 (by decide) ?_
          exact hret _ _ _ _ ⟨(Or.inl rfl), h⟩ dX7_readsPost_133
        · replace h := h.2 c
          refine b_aload_n X dX7_readsPost_113 rfl 3 rfl ?_
          refine b_aload_n X dX7_readsPost_114 rfl 3 rfl ?_
          refine g_7_15 X kM_0 m_f_X7_29 dX7_readsPost_115 ?_
          refine b_iload_n X dX7_readsPost_118 rfl 1 rfl ?_
          refine b_iconst (v := (nI 2)) X dX7_readsPost_119 (by decide) ?_
          refine b_iadd X dX7_readsPost_120 ?_
          refine b_iconst (v := (nI 1)) X dX7_readsPost_121 (by decide) ?_
          refine b_bipush (v := (nI 99)) X dX7_readsPost_122 (by decide) ?_
          refine b_iconst (v := (nI 0)) X dX7_readsPost_124 (by decide) ?_
          refine b_iconst (v := (nI 1)) X dX7_readsPost_125 (by decide) ?_
          refine bVi (st := []) (nA := 6) X (c_X7_reads2 l D C ad 6 kM_6 (x5 + (nI 2)) (nI 1) (nI 99) (nI 0) (nI 1) μ13 _ h) kM_0 (by decide) (enc_7 kM_0) rfl gw_X7_115 ⟨rfl, hd_X7_reads2⟩ rfl rfl ⟨Nat.le_of_ble_eq_true rfl, Nat.le_of_ble_eq_true rfl⟩ rfl rfl (Nat.le_of_ble_eq_true rfl) dX7_readsPost_126 (fun r14 μ15 h => ?_)
          refine b_if_ne (t := 134) X dX7_readsPost_129 (by decide) (fun c => ?_) (fun c => ?_)
          · replace h := h.1 c
            refine b_aload_n X dX7_readsPost_134 rfl 3 rfl ?_
            refine b_dup X dX7_readsPost_135 rfl ?_
            refine g_7_5 X kM_0 m_f_X7_126 dX7_readsPost_136 ?_
            refine b_iconst (v := (nI 1)) X dX7_readsPost_139 (by decide) ?_
            refine b_iadd X dX7_readsPost_140 ?_
            refine p_7_5 X kM_0 m_f_X7_126 dX7_readsPost_141 (fun μ16 eμ16 => ?_)
            replace h := h μ16 eμ16
            refine b_aload_n X dX7_readsPost_144 rfl 3 rfl ?_
            refine bVi (st := []) (nA := 0) X (c_X7_ends l D C ad  μ16 _ h) kM_0 (by decide) (enc_7 kM_0) rfl gw_X7_119 ⟨rfl, hd_X7_ends⟩ rfl rfl ⟨Nat.le_of_ble_eq_true rfl, Nat.le_of_ble_eq_true rfl⟩ rfl rfl (Nat.le_of_ble_eq_true rfl) dX7_readsPost_145 (fun r17 μ18 h => ?_)
            exact hret _ _ _ _ ⟨h.1, h.2⟩ dX7_readsPost_148
          · replace h := h.2 c
            refine b_iconst (v := (nI 0)) X dX7_readsPost_132 (by decide) ?_
            exact hret _ _ _ _ ⟨(Or.inl rfl), h⟩ dX7_readsPost_133
      · replace h := h.2 c
        refine b_aload_n X dX7_readsPost_69 rfl 3 rfl ?_
        refine b_iload_n X dX7_readsPost_70 rfl 2 rfl ?_
        refine p_7_3 X kM_0 m_f_X7_94 dX7_readsPost_71 (fun μ19 eμ19 => ?_)
        replace h := h μ19 eμ19
        refine b_aload_n X dX7_readsPost_74 rfl 3 rfl ?_
        refine b_iconst (v := (nI 4)) X dX7_readsPost_75 (by decide) ?_
        refine bVi (st := []) (nA := 1) X (c_X7_fails l D C ad (nI 4) μ19 _ h) kM_0 (by decide) (enc_7 kM_0) rfl gw_X7_107 ⟨rfl, hd_X7_fails⟩ rfl rfl ⟨Nat.le_of_ble_eq_true rfl, Nat.le_of_ble_eq_true rfl⟩ rfl rfl (Nat.le_of_ble_eq_true rfl) dX7_readsPost_76 (fun r20 μ21 h => ?_)
        exact hret _ _ _ _ ⟨h.1, h.2⟩ dX7_readsPost_79
    · replace h := h.2 c
      refine b_iconst (v := (nI 0)) X dX7_readsPost_59 (by decide) ?_
      exact hret _ _ _ _ ⟨(Or.inl rfl), h⟩ dX7_readsPost_60
  · replace h := h.2 c
    refine b_aload_n X dX7_readsPost_9 rfl 0 rfl ?_
    refine b_iconst (v := (nI 3)) X dX7_readsPost_10 (by decide) ?_
    refine bVi (st := []) (nA := 1) X (c_X7_fails l D C ad (nI 3) μ _ h) kM_0 (by decide) (enc_7 kM_0) rfl gw_X7_107 ⟨rfl, hd_X7_fails⟩ rfl rfl ⟨Nat.le_of_ble_eq_true rfl, Nat.le_of_ble_eq_true rfl⟩ rfl rfl (Nat.le_of_ble_eq_true rfl) dX7_readsPost_11 (fun r22 μ23 h => ?_)
    exact hret _ _ _ _ ⟨h.1, h.2⟩ dX7_readsPost_14
set_option maxHeartbeats 4000000 in
set_option maxRecDepth 100000 in
theorem c_X7_readsGoat (l : Launch) (D : va_G) (C : Nat → ClassId) (ad : Nat → Nat)  (μ : Mem) (Q : Int32 → Mem → Prop) (h : w_X7_readsGoat  μ Q) : Mi sM l yX7_readsGoat cX7_readsGoat 1 (some .boolean) rm_X7_readsGoat D C ad [.ref (ad 0)] μ Q := by
  refine fm_z (by decide +kernel) sM_lt (Nat.le_of_ble_eq_true rfl) (fun K X hret => ?_)
  have X : CK sM D C ad K cX7_readsGoat 1 RX7 := X
  refine b_lv (lv' := [(0, .ref (ad 0))]) rfl ?_
  unfold w_X7_readsGoat at h
  refine b_aload_n X dX7_readsGoat_0 rfl 0 rfl ?_
  refine g_7_7 X kM_0 m_f_X7_132 dX7_readsGoat_1 ?_
  refine b_iconst (v := (nI 4)) X dX7_readsGoat_4 (by decide) ?_
  refine b_icmp_ne (t := 14) X dX7_readsGoat_5 (by decide) (fun c => ?_) (fun c => ?_)
  · replace h := h.1 c
    refine b_aload_n X dX7_readsGoat_14 rfl 0 rfl ?_
    refine b_dup X dX7_readsGoat_15 rfl ?_
    refine g_7_3 X kM_0 m_f_X7_94 dX7_readsGoat_16 ?_
    refine b_iconst (v := (nI 1)) X dX7_readsGoat_19 (by decide) ?_
    refine b_iadd X dX7_readsGoat_20 ?_
    refine p_7_3 X kM_0 m_f_X7_94 dX7_readsGoat_21 (fun μ1 eμ1 => ?_)
    replace h := h μ1 eμ1
    refine b_aload_n X dX7_readsGoat_24 rfl 0 rfl ?_
    refine b_aload_n X dX7_readsGoat_25 rfl 0 rfl ?_
    refine g_7_16 X kM_0 m_f_X7_32 dX7_readsGoat_26 ?_
    refine b_iconst (v := (nI 2)) X dX7_readsGoat_29 (by decide) ?_
    refine b_aload_n X dX7_readsGoat_30 rfl 0 rfl ?_
    refine g_7_7 X kM_0 m_f_X7_132 dX7_readsGoat_31 ?_
    refine b_imul X dX7_readsGoat_34 ?_
    refine b_iconst (v := (nI 0)) X dX7_readsGoat_35 (by decide) ?_
    refine b_aload_n X dX7_readsGoat_36 rfl 0 rfl ?_
    refine g_7_11 X kM_0 m_f_X7_17 dX7_readsGoat_37 ?_
    refine b_iconst (v := (nI 0)) X dX7_readsGoat_40 (by decide) ?_
    have hz := h.1
    replace h := h.2
    refine b_iald X kM_2 nM_2 hz dX7_readsGoat_41 ?_
    clear hz
    refine b_iconst (v := (nI 1)) X dX7_readsGoat_42 (by decide) ?_
    refine b_isub X dX7_readsGoat_43 ?_
    refine b_iconst (v := (nI 1)) X dX7_readsGoat_44 (by decide) ?_
    refine b_bipush (v := (nI 20)) X dX7_readsGoat_45 (by decide) ?_
    refine bVi (st := []) (nA := 6) X (c_X7_reads2 l D C ad 7 kM_7 ((nI 2) * (μ1.1 0 7)) (nI 0) ((μ1.1 2 ((nI 0)).toNatClampNeg) - (nI 1)) (nI 1) (nI 20) μ1 _ h) kM_0 (by decide) (enc_7 kM_0) rfl gw_X7_115 ⟨rfl, hd_X7_reads2⟩ rfl rfl ⟨Nat.le_of_ble_eq_true rfl, Nat.le_of_ble_eq_true rfl⟩ rfl rfl (Nat.le_of_ble_eq_true rfl) dX7_readsGoat_47 (fun r2 μ3 h => ?_)
    refine b_if_ne (t := 55) X dX7_readsGoat_50 (by decide) (fun c => ?_) (fun c => ?_)
    · replace h := h.1 c
      refine b_aload_n X dX7_readsGoat_55 rfl 0 rfl ?_
      refine b_dup X dX7_readsGoat_56 rfl ?_
      refine g_7_7 X kM_0 m_f_X7_132 dX7_readsGoat_57 ?_
      refine b_iconst (v := (nI 1)) X dX7_readsGoat_60 (by decide) ?_
      refine b_iadd X dX7_readsGoat_61 ?_
      refine p_7_7 X kM_0 m_f_X7_132 dX7_readsGoat_62 (fun μ4 eμ4 => ?_)
      replace h := h μ4 eμ4
      refine b_aload_n X dX7_readsGoat_65 rfl 0 rfl ?_
      refine bVi (st := []) (nA := 0) X (c_X7_ends l D C ad  μ4 _ h) kM_0 (by decide) (enc_7 kM_0) rfl gw_X7_119 ⟨rfl, hd_X7_ends⟩ rfl rfl ⟨Nat.le_of_ble_eq_true rfl, Nat.le_of_ble_eq_true rfl⟩ rfl rfl (Nat.le_of_ble_eq_true rfl) dX7_readsGoat_66 (fun r5 μ6 h => ?_)
      exact hret _ _ _ _ ⟨h.1, h.2⟩ dX7_readsGoat_69
    · replace h := h.2 c
      refine b_iconst (v := (nI 0)) X dX7_readsGoat_53 (by decide) ?_
      exact hret _ _ _ _ ⟨(Or.inl rfl), h⟩ dX7_readsGoat_54
  · replace h := h.2 c
    refine b_aload_n X dX7_readsGoat_8 rfl 0 rfl ?_
    refine b_iconst (v := (nI 3)) X dX7_readsGoat_9 (by decide) ?_
    refine bVi (st := []) (nA := 1) X (c_X7_fails l D C ad (nI 3) μ _ h) kM_0 (by decide) (enc_7 kM_0) rfl gw_X7_107 ⟨rfl, hd_X7_fails⟩ rfl rfl ⟨Nat.le_of_ble_eq_true rfl, Nat.le_of_ble_eq_true rfl⟩ rfl rfl (Nat.le_of_ble_eq_true rfl) dX7_readsGoat_10 (fun r7 μ8 h => ?_)
    exact hret _ _ _ _ ⟨h.1, h.2⟩ dX7_readsGoat_13
set_option maxHeartbeats 4000000 in
set_option maxRecDepth 100000 in
theorem c_X7_readsDays (l : Launch) (D : va_G) (C : Nat → ClassId) (ad : Nat → Nat)  (μ : Mem) (Q : Int32 → Mem → Prop) (h : w_X7_readsDays  μ Q) : Mi sM l yX7_readsDays cX7_readsDays 1 (some .boolean) rm_X7_readsDays D C ad [.ref (ad 0)] μ Q := by
  refine fm_z (by decide +kernel) sM_lt (Nat.le_of_ble_eq_true rfl) (fun K X hret => ?_)
  have X : CK sM D C ad K cX7_readsDays 1 RX7 := X
  refine b_lv (lv' := [(0, .ref (ad 0))]) rfl ?_
  unfold w_X7_readsDays at h
  refine b_aload_n X dX7_readsDays_0 rfl 0 rfl ?_
  refine g_7_9 X kM_0 m_f_X7_135 dX7_readsDays_1 ?_
  refine b_if_eq (t := 13) X dX7_readsDays_4 (by decide) (fun c => ?_) (fun c => ?_)
  · replace h := h.1 c
    refine b_aload_n X dX7_readsDays_13 rfl 0 rfl ?_
    refine b_dup X dX7_readsDays_14 rfl ?_
    refine g_7_3 X kM_0 m_f_X7_94 dX7_readsDays_15 ?_
    refine b_iconst (v := (nI 1)) X dX7_readsDays_18 (by decide) ?_
    refine b_iadd X dX7_readsDays_19 ?_
    refine p_7_3 X kM_0 m_f_X7_94 dX7_readsDays_20 (fun μ1 eμ1 => ?_)
    replace h := h μ1 eμ1
    refine b_aload_n X dX7_readsDays_23 rfl 0 rfl ?_
    refine b_iconst (v := (nI 1)) X dX7_readsDays_24 (by decide) ?_
    refine p_7_9 X kM_0 (Or.inr rfl) m_f_X7_135 dX7_readsDays_25 (fun μ2 eμ2 => ?_)
    replace h := h μ2 eμ2
    refine b_aload_n X dX7_readsDays_28 rfl 0 rfl ?_
    refine b_aload_n X dX7_readsDays_29 rfl 0 rfl ?_
    refine g_7_12 X kM_0 m_f_X7_20 dX7_readsDays_30 ?_
    refine b_iconst (v := (nI 0)) X dX7_readsDays_33 (by decide) ?_
    refine b_iconst (v := (nI 0)) X dX7_readsDays_34 (by decide) ?_
    refine b_bipush (v := (nI 127)) X dX7_readsDays_35 (by decide) ?_
    refine b_iconst (v := (nI 0)) X dX7_readsDays_37 (by decide) ?_
    refine b_bipush (v := (nI 127)) X dX7_readsDays_38 (by decide) ?_
    refine bVi (st := []) (nA := 6) X (c_X7_reads2 l D C ad 3 kM_3 (nI 0) (nI 0) (nI 127) (nI 0) (nI 127) μ2 _ h) kM_0 (by decide) (enc_7 kM_0) rfl gw_X7_115 ⟨rfl, hd_X7_reads2⟩ rfl rfl ⟨Nat.le_of_ble_eq_true rfl, Nat.le_of_ble_eq_true rfl⟩ rfl rfl (Nat.le_of_ble_eq_true rfl) dX7_readsDays_40 (fun r3 μ4 h => ?_)
    refine b_if_eq (t := 57) X dX7_readsDays_43 (by decide) (fun c => ?_) (fun c => ?_)
    · replace h := h.1 c
      refine b_iconst (v := (nI 0)) X dX7_readsDays_57 (by decide) ?_
      exact hret _ _ _ _ ⟨(Or.inl rfl), h⟩ dX7_readsDays_58
    · replace h := h.2 c
      refine b_aload_n X dX7_readsDays_46 rfl 0 rfl ?_
      refine bVi (st := []) (nA := 0) X (c_X7_ends l D C ad  μ4 _ h) kM_0 (by decide) (enc_7 kM_0) rfl gw_X7_119 ⟨rfl, hd_X7_ends⟩ rfl rfl ⟨Nat.le_of_ble_eq_true rfl, Nat.le_of_ble_eq_true rfl⟩ rfl rfl (Nat.le_of_ble_eq_true rfl) dX7_readsDays_47 (fun r5 μ6 h => ?_)
      refine b_if_eq (t := 57) X dX7_readsDays_50 (by decide) (fun c => ?_) (fun c => ?_)
      · replace h := h.1 c
        refine b_iconst (v := (nI 0)) X dX7_readsDays_57 (by decide) ?_
        exact hret _ _ _ _ ⟨(Or.inl rfl), h⟩ dX7_readsDays_58
      · replace h := h.2 c
        refine b_iconst (v := (nI 1)) X dX7_readsDays_53 (by decide) ?_
        refine b_goto (t := 58) X dX7_readsDays_54 (by decide) ?_
        exact hret _ _ _ _ ⟨(Or.inr rfl), h⟩ dX7_readsDays_58
  · replace h := h.2 c
    refine b_aload_n X dX7_readsDays_7 rfl 0 rfl ?_
    refine b_iconst (v := (nI 3)) X dX7_readsDays_8 (by decide) ?_
    refine bVi (st := []) (nA := 1) X (c_X7_fails l D C ad (nI 3) μ _ h) kM_0 (by decide) (enc_7 kM_0) rfl gw_X7_107 ⟨rfl, hd_X7_fails⟩ rfl rfl ⟨Nat.le_of_ble_eq_true rfl, Nat.le_of_ble_eq_true rfl⟩ rfl rfl (Nat.le_of_ble_eq_true rfl) dX7_readsDays_9 (fun r7 μ8 h => ?_)
    exact hret _ _ _ _ ⟨h.1, h.2⟩ dX7_readsDays_12
set_option maxHeartbeats 4000000 in
set_option maxRecDepth 100000 in
theorem c_X7_readsUse (l : Launch) (D : va_G) (C : Nat → ClassId) (ad : Nat → Nat)  (μ : Mem) (Q : Int32 → Mem → Prop) (h : w_X7_readsUse  μ Q) : Mi sM l yX7_readsUse cX7_readsUse 1 (some .boolean) rm_X7_readsUse D C ad [.ref (ad 0)] μ Q := by
  refine fm_z (by decide +kernel) sM_lt (Nat.le_of_ble_eq_true rfl) (fun K X hret => ?_)
  have X : CK sM D C ad K cX7_readsUse 1 RX7 := X
  refine b_lv (lv' := [(0, .ref (ad 0))]) rfl ?_
  unfold w_X7_readsUse at h
  refine b_aload_n X dX7_readsUse_0 rfl 0 rfl ?_
  refine g_7_10 X kM_0 m_f_X7_139 dX7_readsUse_1 ?_
  refine b_if_eq (t := 13) X dX7_readsUse_4 (by decide) (fun c => ?_) (fun c => ?_)
  · replace h := h.1 c
    refine b_aload_n X dX7_readsUse_13 rfl 0 rfl ?_
    refine b_dup X dX7_readsUse_14 rfl ?_
    refine g_7_3 X kM_0 m_f_X7_94 dX7_readsUse_15 ?_
    refine b_iconst (v := (nI 1)) X dX7_readsUse_18 (by decide) ?_
    refine b_iadd X dX7_readsUse_19 ?_
    refine p_7_3 X kM_0 m_f_X7_94 dX7_readsUse_20 (fun μ1 eμ1 => ?_)
    replace h := h μ1 eμ1
    refine b_aload_n X dX7_readsUse_23 rfl 0 rfl ?_
    refine b_iconst (v := (nI 1)) X dX7_readsUse_24 (by decide) ?_
    refine p_7_10 X kM_0 (Or.inr rfl) m_f_X7_139 dX7_readsUse_25 (fun μ2 eμ2 => ?_)
    replace h := h μ2 eμ2
    refine b_aload_n X dX7_readsUse_28 rfl 0 rfl ?_
    refine b_aload_n X dX7_readsUse_29 rfl 0 rfl ?_
    refine g_7_13 X kM_0 m_f_X7_23 dX7_readsUse_30 ?_
    refine b_iconst (v := (nI 0)) X dX7_readsUse_33 (by decide) ?_
    refine b_iconst (v := (nI 0)) X dX7_readsUse_34 (by decide) ?_
    refine b_bipush (v := (nI 99)) X dX7_readsUse_35 (by decide) ?_
    refine b_iconst (v := (nI 0)) X dX7_readsUse_37 (by decide) ?_
    refine b_bipush (v := (nI 99)) X dX7_readsUse_38 (by decide) ?_
    refine bVi (st := []) (nA := 6) X (c_X7_reads2 l D C ad 4 kM_4 (nI 0) (nI 0) (nI 99) (nI 0) (nI 99) μ2 _ h) kM_0 (by decide) (enc_7 kM_0) rfl gw_X7_115 ⟨rfl, hd_X7_reads2⟩ rfl rfl ⟨Nat.le_of_ble_eq_true rfl, Nat.le_of_ble_eq_true rfl⟩ rfl rfl (Nat.le_of_ble_eq_true rfl) dX7_readsUse_40 (fun r3 μ4 h => ?_)
    refine b_if_eq (t := 57) X dX7_readsUse_43 (by decide) (fun c => ?_) (fun c => ?_)
    · replace h := h.1 c
      refine b_iconst (v := (nI 0)) X dX7_readsUse_57 (by decide) ?_
      exact hret _ _ _ _ ⟨(Or.inl rfl), h⟩ dX7_readsUse_58
    · replace h := h.2 c
      refine b_aload_n X dX7_readsUse_46 rfl 0 rfl ?_
      refine bVi (st := []) (nA := 0) X (c_X7_ends l D C ad  μ4 _ h) kM_0 (by decide) (enc_7 kM_0) rfl gw_X7_119 ⟨rfl, hd_X7_ends⟩ rfl rfl ⟨Nat.le_of_ble_eq_true rfl, Nat.le_of_ble_eq_true rfl⟩ rfl rfl (Nat.le_of_ble_eq_true rfl) dX7_readsUse_47 (fun r5 μ6 h => ?_)
      refine b_if_eq (t := 57) X dX7_readsUse_50 (by decide) (fun c => ?_) (fun c => ?_)
      · replace h := h.1 c
        refine b_iconst (v := (nI 0)) X dX7_readsUse_57 (by decide) ?_
        exact hret _ _ _ _ ⟨(Or.inl rfl), h⟩ dX7_readsUse_58
      · replace h := h.2 c
        refine b_iconst (v := (nI 1)) X dX7_readsUse_53 (by decide) ?_
        refine b_goto (t := 58) X dX7_readsUse_54 (by decide) ?_
        exact hret _ _ _ _ ⟨(Or.inr rfl), h⟩ dX7_readsUse_58
  · replace h := h.2 c
    refine b_aload_n X dX7_readsUse_7 rfl 0 rfl ?_
    refine b_iconst (v := (nI 3)) X dX7_readsUse_8 (by decide) ?_
    refine bVi (st := []) (nA := 1) X (c_X7_fails l D C ad (nI 3) μ _ h) kM_0 (by decide) (enc_7 kM_0) rfl gw_X7_107 ⟨rfl, hd_X7_fails⟩ rfl rfl ⟨Nat.le_of_ble_eq_true rfl, Nat.le_of_ble_eq_true rfl⟩ rfl rfl (Nat.le_of_ble_eq_true rfl) dX7_readsUse_9 (fun r7 μ8 h => ?_)
    exact hret _ _ _ _ ⟨h.1, h.2⟩ dX7_readsUse_12
set_option maxHeartbeats 4000000 in
set_option maxRecDepth 100000 in
theorem c_X7_readsClause (l : Launch) (D : va_G) (C : Nat → ClassId) (ad : Nat → Nat) (a1 : Int32) (μ : Mem) (Q : Int32 → Mem → Prop) (h : w_X7_readsClause a1 μ Q) : Mi sM l yX7_readsClause cX7_readsClause 3 (some .boolean) rm_X7_readsClause D C ad [.ref (ad 0), .int a1] μ Q := by
  refine fm_z (by decide +kernel) sM_lt (Nat.le_of_ble_eq_true rfl) (fun K X hret => ?_)
  have X : CK sM D C ad K cX7_readsClause 3 RX7 := X
  refine b_lv (lv' := [(0, .ref (ad 0)), (1, .int a1)]) rfl ?_
  unfold w_X7_readsClause at h
  refine b_aload_n X dX7_readsClause_0 rfl 0 rfl ?_
  refine b_aload_n X dX7_readsClause_1 rfl 0 rfl ?_
  refine g_7_3 X kM_0 m_f_X7_94 dX7_readsClause_2 ?_
  refine bVi (st := []) (nA := 1) X (c_X7_letterAt l D C ad (μ.1 0 3) μ _ h) kM_0 (by decide) (enc_7 kM_0) rfl gw_X7_97 ⟨rfl, hd_X7_letterAt⟩ rfl rfl ⟨Nat.le_of_ble_eq_true rfl, Nat.le_of_ble_eq_true rfl⟩ rfl rfl (Nat.le_of_ble_eq_true rfl) dX7_readsClause_5 (fun r1 μ2 h => ?_)
  obtain ⟨rfl, h⟩ := h
  refine b_istore_n (lv' := [(2, .int r1), (0, .ref (ad 0)), (1, .int a1)]) X dX7_readsClause_8 rfl (by decide) rfl ?_
  refine b_iload_n X dX7_readsClause_9 rfl 2 rfl ?_
  refine b_if_eq (t := 32) X dX7_readsClause_10 (by decide) (fun c => ?_) (fun c => ?_)
  · replace h := h.1 c
    refine b_iload_n X dX7_readsClause_32 rfl 0 rfl ?_
    by_cases c0 : r1 = (nI 100)
    · replace h := h.1 c0
      refine b_tsIn (v := (nI 100)) (j := 100) (t := 136) X dX7_readsClause_33 c0 (by decide) (by decide) (by decide) rfl (by decide) ?_
      refine b_aload_n X dX7_readsClause_136 rfl 1 rfl ?_
      refine bVi (st := []) (nA := 0) X (c_X7_readsDays l D C ad  μ _ h) kM_0 (by decide) (enc_7 kM_0) rfl gw_X7_151 ⟨rfl, hd_X7_readsDays⟩ rfl rfl ⟨Nat.le_of_ble_eq_true rfl, Nat.le_of_ble_eq_true rfl⟩ rfl rfl (Nat.le_of_ble_eq_true rfl) dX7_readsClause_137 (fun r3 μ4 h => ?_)
      exact hret _ _ _ _ ⟨h.1, h.2⟩ dX7_readsClause_140
    replace h := h.2 c0
    by_cases c1 : r1 = (nI 101)
    · replace h := h.1 c1
      refine b_tsIn (v := (nI 101)) (j := 101) (t := 151) X dX7_readsClause_33 c1 (by decide) (by decide) (by decide) rfl (by decide) ?_
      refine b_aload_n X dX7_readsClause_151 rfl 1 rfl ?_
      refine b_iconst (v := (nI 1)) X dX7_readsClause_152 (by decide) ?_
      refine bVi (st := []) (nA := 1) X (c_X7_fails l D C ad (nI 1) μ _ h) kM_0 (by decide) (enc_7 kM_0) rfl gw_X7_107 ⟨rfl, hd_X7_fails⟩ rfl rfl ⟨Nat.le_of_ble_eq_true rfl, Nat.le_of_ble_eq_true rfl⟩ rfl rfl (Nat.le_of_ble_eq_true rfl) dX7_readsClause_153 (fun r5 μ6 h => ?_)
      exact hret _ _ _ _ ⟨h.1, h.2⟩ dX7_readsClause_156
    replace h := h.2 c1
    by_cases c2 : r1 = (nI 102)
    · replace h := h.1 c2
      refine b_tsIn (v := (nI 102)) (j := 102) (t := 120) X dX7_readsClause_33 c2 (by decide) (by decide) (by decide) rfl (by decide) ?_
      refine b_aload_n X dX7_readsClause_120 rfl 1 rfl ?_
      refine b_iconst (v := (nI 3)) X dX7_readsClause_121 (by decide) ?_
      refine bVi (st := []) (nA := 1) X (c_X7_fails l D C ad (nI 3) μ _ h) kM_0 (by decide) (enc_7 kM_0) rfl gw_X7_107 ⟨rfl, hd_X7_fails⟩ rfl rfl ⟨Nat.le_of_ble_eq_true rfl, Nat.le_of_ble_eq_true rfl⟩ rfl rfl (Nat.le_of_ble_eq_true rfl) dX7_readsClause_122 (fun r7 μ8 h => ?_)
      exact hret _ _ _ _ ⟨h.1, h.2⟩ dX7_readsClause_125
    replace h := h.2 c2
    by_cases c3 : r1 = (nI 103)
    · replace h := h.1 c3
      refine b_tsIn (v := (nI 103)) (j := 103) (t := 146) X dX7_readsClause_33 c3 (by decide) (by decide) (by decide) rfl (by decide) ?_
      refine b_aload_n X dX7_readsClause_146 rfl 1 rfl ?_
      refine bVi (st := []) (nA := 0) X (c_X7_readsGoat l D C ad  μ _ h) kM_0 (by decide) (enc_7 kM_0) rfl gw_X7_157 ⟨rfl, hd_X7_readsGoat⟩ rfl rfl ⟨Nat.le_of_ble_eq_true rfl, Nat.le_of_ble_eq_true rfl⟩ rfl rfl (Nat.le_of_ble_eq_true rfl) dX7_readsClause_147 (fun r9 μ10 h => ?_)
      exact hret _ _ _ _ ⟨h.1, h.2⟩ dX7_readsClause_150
    replace h := h.2 c3
    by_cases c4 : r1 = (nI 104)
    · replace h := h.1 c4
      refine b_tsIn (v := (nI 104)) (j := 104) (t := 126) X dX7_readsClause_33 c4 (by decide) (by decide) (by decide) rfl (by decide) ?_
      refine b_aload_n X dX7_readsClause_126 rfl 1 rfl ?_
      refine bVi (st := []) (nA := 0) X (c_X7_readsHour l D C ad  μ _ h) kM_0 (by decide) (enc_7 kM_0) rfl gw_X7_145 ⟨rfl, hd_X7_readsHour⟩ rfl rfl ⟨Nat.le_of_ble_eq_true rfl, Nat.le_of_ble_eq_true rfl⟩ rfl rfl (Nat.le_of_ble_eq_true rfl) dX7_readsClause_127 (fun r11 μ12 h => ?_)
      exact hret _ _ _ _ ⟨h.1, h.2⟩ dX7_readsClause_130
    replace h := h.2 c4
    by_cases c5 : r1 = (nI 105)
    · replace h := h.1 c5
      refine b_tsIn (v := (nI 105)) (j := 105) (t := 151) X dX7_readsClause_33 c5 (by decide) (by decide) (by decide) rfl (by decide) ?_
      refine b_aload_n X dX7_readsClause_151 rfl 1 rfl ?_
      refine b_iconst (v := (nI 1)) X dX7_readsClause_152 (by decide) ?_
      refine bVi (st := []) (nA := 1) X (c_X7_fails l D C ad (nI 1) μ _ h) kM_0 (by decide) (enc_7 kM_0) rfl gw_X7_107 ⟨rfl, hd_X7_fails⟩ rfl rfl ⟨Nat.le_of_ble_eq_true rfl, Nat.le_of_ble_eq_true rfl⟩ rfl rfl (Nat.le_of_ble_eq_true rfl) dX7_readsClause_153 (fun r13 μ14 h => ?_)
      exact hret _ _ _ _ ⟨h.1, h.2⟩ dX7_readsClause_156
    replace h := h.2 c5
    by_cases c6 : r1 = (nI 106)
    · replace h := h.1 c6
      refine b_tsIn (v := (nI 106)) (j := 106) (t := 151) X dX7_readsClause_33 c6 (by decide) (by decide) (by decide) rfl (by decide) ?_
      refine b_aload_n X dX7_readsClause_151 rfl 1 rfl ?_
      refine b_iconst (v := (nI 1)) X dX7_readsClause_152 (by decide) ?_
      refine bVi (st := []) (nA := 1) X (c_X7_fails l D C ad (nI 1) μ _ h) kM_0 (by decide) (enc_7 kM_0) rfl gw_X7_107 ⟨rfl, hd_X7_fails⟩ rfl rfl ⟨Nat.le_of_ble_eq_true rfl, Nat.le_of_ble_eq_true rfl⟩ rfl rfl (Nat.le_of_ble_eq_true rfl) dX7_readsClause_153 (fun r15 μ16 h => ?_)
      exact hret _ _ _ _ ⟨h.1, h.2⟩ dX7_readsClause_156
    replace h := h.2 c6
    by_cases c7 : r1 = (nI 107)
    · replace h := h.1 c7
      refine b_tsIn (v := (nI 107)) (j := 107) (t := 151) X dX7_readsClause_33 c7 (by decide) (by decide) (by decide) rfl (by decide) ?_
      refine b_aload_n X dX7_readsClause_151 rfl 1 rfl ?_
      refine b_iconst (v := (nI 1)) X dX7_readsClause_152 (by decide) ?_
      refine bVi (st := []) (nA := 1) X (c_X7_fails l D C ad (nI 1) μ _ h) kM_0 (by decide) (enc_7 kM_0) rfl gw_X7_107 ⟨rfl, hd_X7_fails⟩ rfl rfl ⟨Nat.le_of_ble_eq_true rfl, Nat.le_of_ble_eq_true rfl⟩ rfl rfl (Nat.le_of_ble_eq_true rfl) dX7_readsClause_153 (fun r17 μ18 h => ?_)
      exact hret _ _ _ _ ⟨h.1, h.2⟩ dX7_readsClause_156
    replace h := h.2 c7
    by_cases c8 : r1 = (nI 108)
    · replace h := h.1 c8
      refine b_tsIn (v := (nI 108)) (j := 108) (t := 151) X dX7_readsClause_33 c8 (by decide) (by decide) (by decide) rfl (by decide) ?_
      refine b_aload_n X dX7_readsClause_151 rfl 1 rfl ?_
      refine b_iconst (v := (nI 1)) X dX7_readsClause_152 (by decide) ?_
      refine bVi (st := []) (nA := 1) X (c_X7_fails l D C ad (nI 1) μ _ h) kM_0 (by decide) (enc_7 kM_0) rfl gw_X7_107 ⟨rfl, hd_X7_fails⟩ rfl rfl ⟨Nat.le_of_ble_eq_true rfl, Nat.le_of_ble_eq_true rfl⟩ rfl rfl (Nat.le_of_ble_eq_true rfl) dX7_readsClause_153 (fun r19 μ20 h => ?_)
      exact hret _ _ _ _ ⟨h.1, h.2⟩ dX7_readsClause_156
    replace h := h.2 c8
    by_cases c9 : r1 = (nI 109)
    · replace h := h.1 c9
      refine b_tsIn (v := (nI 109)) (j := 109) (t := 151) X dX7_readsClause_33 c9 (by decide) (by decide) (by decide) rfl (by decide) ?_
      refine b_aload_n X dX7_readsClause_151 rfl 1 rfl ?_
      refine b_iconst (v := (nI 1)) X dX7_readsClause_152 (by decide) ?_
      refine bVi (st := []) (nA := 1) X (c_X7_fails l D C ad (nI 1) μ _ h) kM_0 (by decide) (enc_7 kM_0) rfl gw_X7_107 ⟨rfl, hd_X7_fails⟩ rfl rfl ⟨Nat.le_of_ble_eq_true rfl, Nat.le_of_ble_eq_true rfl⟩ rfl rfl (Nat.le_of_ble_eq_true rfl) dX7_readsClause_153 (fun r21 μ22 h => ?_)
      exact hret _ _ _ _ ⟨h.1, h.2⟩ dX7_readsClause_156
    replace h := h.2 c9
    by_cases c10 : r1 = (nI 110)
    · replace h := h.1 c10
      refine b_tsIn (v := (nI 110)) (j := 110) (t := 151) X dX7_readsClause_33 c10 (by decide) (by decide) (by decide) rfl (by decide) ?_
      refine b_aload_n X dX7_readsClause_151 rfl 1 rfl ?_
      refine b_iconst (v := (nI 1)) X dX7_readsClause_152 (by decide) ?_
      refine bVi (st := []) (nA := 1) X (c_X7_fails l D C ad (nI 1) μ _ h) kM_0 (by decide) (enc_7 kM_0) rfl gw_X7_107 ⟨rfl, hd_X7_fails⟩ rfl rfl ⟨Nat.le_of_ble_eq_true rfl, Nat.le_of_ble_eq_true rfl⟩ rfl rfl (Nat.le_of_ble_eq_true rfl) dX7_readsClause_153 (fun r23 μ24 h => ?_)
      exact hret _ _ _ _ ⟨h.1, h.2⟩ dX7_readsClause_156
    replace h := h.2 c10
    by_cases c11 : r1 = (nI 111)
    · replace h := h.1 c11
      refine b_tsIn (v := (nI 111)) (j := 111) (t := 151) X dX7_readsClause_33 c11 (by decide) (by decide) (by decide) rfl (by decide) ?_
      refine b_aload_n X dX7_readsClause_151 rfl 1 rfl ?_
      refine b_iconst (v := (nI 1)) X dX7_readsClause_152 (by decide) ?_
      refine bVi (st := []) (nA := 1) X (c_X7_fails l D C ad (nI 1) μ _ h) kM_0 (by decide) (enc_7 kM_0) rfl gw_X7_107 ⟨rfl, hd_X7_fails⟩ rfl rfl ⟨Nat.le_of_ble_eq_true rfl, Nat.le_of_ble_eq_true rfl⟩ rfl rfl (Nat.le_of_ble_eq_true rfl) dX7_readsClause_153 (fun r25 μ26 h => ?_)
      exact hret _ _ _ _ ⟨h.1, h.2⟩ dX7_readsClause_156
    replace h := h.2 c11
    by_cases c12 : r1 = (nI 112)
    · replace h := h.1 c12
      refine b_tsIn (v := (nI 112)) (j := 112) (t := 131) X dX7_readsClause_33 c12 (by decide) (by decide) (by decide) rfl (by decide) ?_
      refine b_aload_n X dX7_readsClause_131 rfl 1 rfl ?_
      refine bVi (st := []) (nA := 0) X (c_X7_readsPost l D C ad  μ _ h) kM_0 (by decide) (enc_7 kM_0) rfl gw_X7_148 ⟨rfl, hd_X7_readsPost⟩ rfl rfl ⟨Nat.le_of_ble_eq_true rfl, Nat.le_of_ble_eq_true rfl⟩ rfl rfl (Nat.le_of_ble_eq_true rfl) dX7_readsClause_132 (fun r27 μ28 h => ?_)
      exact hret _ _ _ _ ⟨h.1, h.2⟩ dX7_readsClause_135
    replace h := h.2 c12
    by_cases c13 : r1 = (nI 113)
    · replace h := h.1 c13
      refine b_tsIn (v := (nI 113)) (j := 113) (t := 151) X dX7_readsClause_33 c13 (by decide) (by decide) (by decide) rfl (by decide) ?_
      refine b_aload_n X dX7_readsClause_151 rfl 1 rfl ?_
      refine b_iconst (v := (nI 1)) X dX7_readsClause_152 (by decide) ?_
      refine bVi (st := []) (nA := 1) X (c_X7_fails l D C ad (nI 1) μ _ h) kM_0 (by decide) (enc_7 kM_0) rfl gw_X7_107 ⟨rfl, hd_X7_fails⟩ rfl rfl ⟨Nat.le_of_ble_eq_true rfl, Nat.le_of_ble_eq_true rfl⟩ rfl rfl (Nat.le_of_ble_eq_true rfl) dX7_readsClause_153 (fun r29 μ30 h => ?_)
      exact hret _ _ _ _ ⟨h.1, h.2⟩ dX7_readsClause_156
    replace h := h.2 c13
    by_cases c14 : r1 = (nI 114)
    · replace h := h.1 c14
      refine b_tsIn (v := (nI 114)) (j := 114) (t := 151) X dX7_readsClause_33 c14 (by decide) (by decide) (by decide) rfl (by decide) ?_
      refine b_aload_n X dX7_readsClause_151 rfl 1 rfl ?_
      refine b_iconst (v := (nI 1)) X dX7_readsClause_152 (by decide) ?_
      refine bVi (st := []) (nA := 1) X (c_X7_fails l D C ad (nI 1) μ _ h) kM_0 (by decide) (enc_7 kM_0) rfl gw_X7_107 ⟨rfl, hd_X7_fails⟩ rfl rfl ⟨Nat.le_of_ble_eq_true rfl, Nat.le_of_ble_eq_true rfl⟩ rfl rfl (Nat.le_of_ble_eq_true rfl) dX7_readsClause_153 (fun r31 μ32 h => ?_)
      exact hret _ _ _ _ ⟨h.1, h.2⟩ dX7_readsClause_156
    replace h := h.2 c14
    by_cases c15 : r1 = (nI 115)
    · replace h := h.1 c15
      refine b_tsIn (v := (nI 115)) (j := 115) (t := 151) X dX7_readsClause_33 c15 (by decide) (by decide) (by decide) rfl (by decide) ?_
      refine b_aload_n X dX7_readsClause_151 rfl 1 rfl ?_
      refine b_iconst (v := (nI 1)) X dX7_readsClause_152 (by decide) ?_
      refine bVi (st := []) (nA := 1) X (c_X7_fails l D C ad (nI 1) μ _ h) kM_0 (by decide) (enc_7 kM_0) rfl gw_X7_107 ⟨rfl, hd_X7_fails⟩ rfl rfl ⟨Nat.le_of_ble_eq_true rfl, Nat.le_of_ble_eq_true rfl⟩ rfl rfl (Nat.le_of_ble_eq_true rfl) dX7_readsClause_153 (fun r33 μ34 h => ?_)
      exact hret _ _ _ _ ⟨h.1, h.2⟩ dX7_readsClause_156
    replace h := h.2 c15
    by_cases c16 : r1 = (nI 116)
    · replace h := h.1 c16
      refine b_tsIn (v := (nI 116)) (j := 116) (t := 151) X dX7_readsClause_33 c16 (by decide) (by decide) (by decide) rfl (by decide) ?_
      refine b_aload_n X dX7_readsClause_151 rfl 1 rfl ?_
      refine b_iconst (v := (nI 1)) X dX7_readsClause_152 (by decide) ?_
      refine bVi (st := []) (nA := 1) X (c_X7_fails l D C ad (nI 1) μ _ h) kM_0 (by decide) (enc_7 kM_0) rfl gw_X7_107 ⟨rfl, hd_X7_fails⟩ rfl rfl ⟨Nat.le_of_ble_eq_true rfl, Nat.le_of_ble_eq_true rfl⟩ rfl rfl (Nat.le_of_ble_eq_true rfl) dX7_readsClause_153 (fun r35 μ36 h => ?_)
      exact hret _ _ _ _ ⟨h.1, h.2⟩ dX7_readsClause_156
    replace h := h.2 c16
    by_cases c17 : r1 = (nI 117)
    · replace h := h.1 c17
      refine b_tsIn (v := (nI 117)) (j := 117) (t := 141) X dX7_readsClause_33 c17 (by decide) (by decide) (by decide) rfl (by decide) ?_
      refine b_aload_n X dX7_readsClause_141 rfl 1 rfl ?_
      refine bVi (st := []) (nA := 0) X (c_X7_readsUse l D C ad  μ _ h) kM_0 (by decide) (enc_7 kM_0) rfl gw_X7_154 ⟨rfl, hd_X7_readsUse⟩ rfl rfl ⟨Nat.le_of_ble_eq_true rfl, Nat.le_of_ble_eq_true rfl⟩ rfl rfl (Nat.le_of_ble_eq_true rfl) dX7_readsClause_142 (fun r37 μ38 h => ?_)
      exact hret _ _ _ _ ⟨h.1, h.2⟩ dX7_readsClause_145
    replace h := h.2 c17
    have e0 := i32ne (j := 100) c0 (by decide)
    have e1 := i32ne (j := 101) c1 (by decide)
    have e2 := i32ne (j := 102) c2 (by decide)
    have e3 := i32ne (j := 103) c3 (by decide)
    have e4 := i32ne (j := 104) c4 (by decide)
    have e5 := i32ne (j := 105) c5 (by decide)
    have e6 := i32ne (j := 106) c6 (by decide)
    have e7 := i32ne (j := 107) c7 (by decide)
    have e8 := i32ne (j := 108) c8 (by decide)
    have e9 := i32ne (j := 109) c9 (by decide)
    have e10 := i32ne (j := 110) c10 (by decide)
    have e11 := i32ne (j := 111) c11 (by decide)
    have e12 := i32ne (j := 112) c12 (by decide)
    have e13 := i32ne (j := 113) c13 (by decide)
    have e14 := i32ne (j := 114) c14 (by decide)
    have e15 := i32ne (j := 115) c15 (by decide)
    have e16 := i32ne (j := 116) c16 (by decide)
    have e17 := i32ne (j := 117) c17 (by decide)
    refine b_tsOut (t := 151) X dX7_readsClause_33 (by omega) (by decide) ?_
    refine b_aload_n X dX7_readsClause_151 rfl 1 rfl ?_
    refine b_iconst (v := (nI 1)) X dX7_readsClause_152 (by decide) ?_
    refine bVi (st := []) (nA := 1) X (c_X7_fails l D C ad (nI 1) μ _ h) kM_0 (by decide) (enc_7 kM_0) rfl gw_X7_107 ⟨rfl, hd_X7_fails⟩ rfl rfl ⟨Nat.le_of_ble_eq_true rfl, Nat.le_of_ble_eq_true rfl⟩ rfl rfl (Nat.le_of_ble_eq_true rfl) dX7_readsClause_153 (fun r39 μ40 h => ?_)
    exact hret _ _ _ _ ⟨h.1, h.2⟩ dX7_readsClause_156
  · replace h := h.2 c
    refine b_iload_n X dX7_readsClause_13 rfl 0 rfl ?_
    refine b_bipush (v := (nI 102)) X dX7_readsClause_14 (by decide) ?_
    refine b_icmp_ne (t := 26) X dX7_readsClause_16 (by decide) (fun c => ?_) (fun c => ?_)
    · replace h := h.1 c
      refine b_aload_n X dX7_readsClause_26 rfl 1 rfl ?_
      refine b_iconst (v := (nI 1)) X dX7_readsClause_27 (by decide) ?_
      refine bVi (st := []) (nA := 1) X (c_X7_fails l D C ad (nI 1) μ _ h) kM_0 (by decide) (enc_7 kM_0) rfl gw_X7_107 ⟨rfl, hd_X7_fails⟩ rfl rfl ⟨Nat.le_of_ble_eq_true rfl, Nat.le_of_ble_eq_true rfl⟩ rfl rfl (Nat.le_of_ble_eq_true rfl) dX7_readsClause_28 (fun r41 μ42 h => ?_)
      exact hret _ _ _ _ ⟨h.1, h.2⟩ dX7_readsClause_31
    · replace h := h.2 c
      refine b_aload_n X dX7_readsClause_19 rfl 1 rfl ?_
      refine bVi (st := []) (nA := 0) X (c_X7_readsHead l D C ad  μ _ h) kM_0 (by decide) (enc_7 kM_0) rfl gw_X7_142 ⟨rfl, hd_X7_readsHead⟩ rfl rfl ⟨Nat.le_of_ble_eq_true rfl, Nat.le_of_ble_eq_true rfl⟩ rfl rfl (Nat.le_of_ble_eq_true rfl) dX7_readsClause_20 (fun r43 μ44 h => ?_)
      refine b_goto (t := 31) X dX7_readsClause_23 (by decide) ?_
      exact hret _ _ _ _ ⟨h.1, h.2⟩ dX7_readsClause_31
set_option maxHeartbeats 4000000 in
set_option maxRecDepth 100000 in
theorem c_X7_reads (l : Launch) (D : va_G) (C : Nat → ClassId) (ad : Nat → Nat)  (μ : Mem) (Q : Int32 → Mem → Prop) (h : w_X7_reads  μ Q) : Mi sM l yX7_reads cX7_reads 3 (some .boolean) rm_X7_reads D C ad [.ref (ad 0)] μ Q := by
  refine fm_z (by decide +kernel) sM_lt (Nat.le_of_ble_eq_true rfl) (fun K X hret => ?_)
  have X : CK sM D C ad K cX7_reads 3 RX7 := X
  refine b_lv (lv' := [(0, .ref (ad 0))]) rfl ?_
  unfold w_X7_reads at h
  have B34 : ∀ (v1 : Int32) (v2 : Int32) (μ : Mem), w_X7_reads_34 v1 v2 μ Q → WB sM l D C ad rm_X7_reads K 3 μ 34 [(0, .ref (ad 0)), (1, .int v1), (2, .int v2)] [] := by
    intro v1 v2 μ h
    obtain ⟨Y34, eY⟩ : ∃ Y : Int32 → Mem → Prop, Y = fun (v2 : Int32) (μ : Mem) => WB sM l D C ad rm_X7_reads K 3 μ 34 [(0, .ref (ad 0)), (1, .int v1), (2, .int v2)] [] := ⟨_, rfl⟩
    have B34 : Y34 v2 μ := by
      unfold w_X7_reads_34 at h
      refine h Y34 ?_
      clear h
      intro v2 μ h
      unfold s_X7_reads_34 at h
      rw [eY]
      show WB sM l D C ad rm_X7_reads K 3 μ 34 [(0, .ref (ad 0)), (1, .int v1), (2, .int v2)] []
      have T34 : ∀ (v2 : Int32) (μ : Mem), Y34 v2 μ → WB sM l D C ad rm_X7_reads K 3 μ 34 [(0, .ref (ad 0)), (1, .int v1), (2, .int v2)] [] := by
        intro v2 μ h
        rw [eY] at h
        exact h
      clear eY
      have B60 : ∀ (v1 : Int32) (μ : Mem), w_X7_reads_60 v1 μ Q → WB sM l D C ad rm_X7_reads K 3 μ 60 [(0, .ref (ad 0)), (1, .int v1)] [] := by
        intro v1 μ h
        unfold w_X7_reads_60 at h
        have B64 : ∀ (v1 : Int32) (μ : Mem), w_X7_reads_64 v1 μ Q → WB sM l D C ad rm_X7_reads K 3 μ 64 [(0, .ref (ad 0)), (1, .int v1)] [] := by
          intro v1 μ h
          obtain ⟨Y64, eY⟩ : ∃ Y : Int32 → Mem → Prop, Y = fun (v1 : Int32) (μ : Mem) => WB sM l D C ad rm_X7_reads K 3 μ 64 [(0, .ref (ad 0)), (1, .int v1)] [] := ⟨_, rfl⟩
          have B64 : Y64 v1 μ := by
            unfold w_X7_reads_64 at h
            refine h Y64 ?_
            clear h
            intro v1 μ h
            unfold s_X7_reads_64 at h
            rw [eY]
            show WB sM l D C ad rm_X7_reads K 3 μ 64 [(0, .ref (ad 0)), (1, .int v1)] []
            have T64 : ∀ (v1 : Int32) (μ : Mem), Y64 v1 μ → WB sM l D C ad rm_X7_reads K 3 μ 64 [(0, .ref (ad 0)), (1, .int v1)] [] := by
              intro v1 μ h
              rw [eY] at h
              exact h
            clear eY
            have B94 : ∀ (v1 : Int32) (μ : Mem), w_X7_reads_94 v1 μ Q → WB sM l D C ad rm_X7_reads K 3 μ 94 [(0, .ref (ad 0)), (1, .int v1)] [] := by
              intro v1 μ h
              unfold w_X7_reads_94 at h
              have B104 : ∀ (s2 : Int32) (μ : Mem), w_X7_reads_104 s2 μ Q → WB sM l D C ad rm_X7_reads K 3 μ 104 [] [.int s2, .ref (ad 0)] := by
                intro s2 μ h
                unfold w_X7_reads_104 at h
                have hz := h.1
                replace h := h.2
                refine p_7_8 X kM_0 hz m_f_X7_164 dX7_reads_104 (fun μ16 eμ16 => ?_)
                replace h := h μ16 eμ16
                refine b_iconst (v := (nI 1)) X dX7_reads_107 (by decide) ?_
                exact hret _ _ _ _ ⟨(Or.inr rfl), h⟩ dX7_reads_108
              refine b_aload_n X dX7_reads_94 rfl 0 rfl ?_
              refine b_iload_n X dX7_reads_95 rfl 1 rfl ?_
              refine b_if_ne (t := 103) X dX7_reads_96 (by decide) (fun c => ?_) (fun c => ?_)
              · replace h := h.1 c
                refine b_iconst (v := (nI 0)) X dX7_reads_103 (by decide) ?_
                refine b_sub (lv' := []) [] rfl ?_
                exact B104 (nI 0) μ h
              · replace h := h.2 c
                refine b_iconst (v := (nI 1)) X dX7_reads_99 (by decide) ?_
                refine b_goto (t := 104) X dX7_reads_100 (by decide) ?_
                refine b_sub (lv' := []) [] rfl ?_
                exact B104 (nI 1) μ h
            refine b_aload_n X dX7_reads_64 rfl 0 rfl ?_
            refine g_7_3 X kM_0 m_f_X7_94 dX7_reads_65 ?_
            refine b_aload_n X dX7_reads_68 rfl 0 rfl ?_
            refine g_7_0 X kM_0 m_f_X7_90 dX7_reads_69 ?_
            refine b_icmp_ge (t := 94) X dX7_reads_72 (by decide) (fun c => ?_) (fun c => ?_)
            · replace h := h.1 c
              refine b_sub (lv' := [(0, .ref (ad 0)), (1, .int v1)]) [0, 1] rfl ?_
              exact B94 v1 μ h
            · replace h := h.2 c
              refine b_aload_n X dX7_reads_75 rfl 0 rfl ?_
              refine b_iload_n X dX7_reads_76 rfl 1 rfl ?_
              refine bVi (st := []) (nA := 1) X (c_X7_readsClause l D C ad v1 μ _ h) kM_0 (by decide) (enc_7 kM_0) rfl gw_X7_160 ⟨rfl, hd_X7_readsClause⟩ rfl rfl ⟨Nat.le_of_ble_eq_true rfl, Nat.le_of_ble_eq_true rfl⟩ rfl rfl (Nat.le_of_ble_eq_true rfl) dX7_reads_77 (fun r12 μ13 h => ?_)
              refine b_if_ne (t := 85) X dX7_reads_80 (by decide) (fun c => ?_) (fun c => ?_)
              · replace h := h.1 c
                refine b_iconst (v := (nI 0)) X dX7_reads_85 (by decide) ?_
                refine b_istore_n (lv' := [(1, .int (nI 0)), (0, .ref (ad 0))]) X dX7_reads_86 rfl (by decide) rfl ?_
                refine b_aload_n X dX7_reads_87 rfl 1 rfl ?_
                refine bVv (st := []) (nA := 0) X (c_X7_blanks l D C ad  μ13 _ h) kM_0 (by decide) (enc_7 kM_0) rfl gw_X7_104 ⟨rfl, hd_X7_blanks⟩ rfl rfl ⟨Nat.le_of_ble_eq_true rfl, Nat.le_of_ble_eq_true rfl⟩ rfl rfl (Nat.le_of_ble_eq_true rfl) dX7_reads_88 (fun μ15 h => ?_)
                refine b_goto (t := 64) X dX7_reads_91 (by decide) ?_
                refine b_sub (lv' := [(0, .ref (ad 0)), (1, .int (nI 0))]) [1, 0] rfl ?_
                exact T64 (nI 0) μ15 h
              · replace h := h.2 c
                refine b_iconst (v := (nI 0)) X dX7_reads_83 (by decide) ?_
                exact hret _ _ _ _ ⟨(Or.inl rfl), h⟩ dX7_reads_84
          rw [eY] at B64
          exact B64
        refine b_aload_n X dX7_reads_60 rfl 0 rfl ?_
        refine bVv (st := []) (nA := 0) X (c_X7_blanks l D C ad  μ _ h) kM_0 (by decide) (enc_7 kM_0) rfl gw_X7_104 ⟨rfl, hd_X7_blanks⟩ rfl rfl ⟨Nat.le_of_ble_eq_true rfl, Nat.le_of_ble_eq_true rfl⟩ rfl rfl (Nat.le_of_ble_eq_true rfl) dX7_reads_61 (fun μ11 h => ?_)
        refine b_sub (lv' := [(0, .ref (ad 0)), (1, .int v1)]) [0, 1] rfl ?_
        exact B64 v1 μ11 h
      refine b_iload_n X dX7_reads_34 rfl 2 rfl ?_
      refine b_iconst (v := (nI 2)) X dX7_reads_35 (by decide) ?_
      refine b_icmp_ge (t := 60) X dX7_reads_36 (by decide) (fun c => ?_) (fun c => ?_)
      · replace h := h.1 c
        refine b_sub (lv' := [(0, .ref (ad 0)), (1, .int v1)]) [0, 1] rfl ?_
        exact B60 v1 μ h
      · replace h := h.2 c
        refine b_aload_n X dX7_reads_39 rfl 0 rfl ?_
        refine g_7_12 X kM_0 m_f_X7_20 dX7_reads_40 ?_
        refine b_iload_n X dX7_reads_43 rfl 2 rfl ?_
        refine b_bipush (v := (nI 127)) X dX7_reads_44 (by decide) ?_
        have hz := h.1
        replace h := h.2
        refine b_iast X kM_3 nM_3 hz dX7_reads_46 (fun μ7 eμ7 => ?_)
        clear hz
        replace h := h μ7 eμ7
        refine b_aload_n X dX7_reads_47 rfl 0 rfl ?_
        refine g_7_13 X kM_0 m_f_X7_23 dX7_reads_48 ?_
        refine b_iload_n X dX7_reads_51 rfl 2 rfl ?_
        refine b_iconst (v := (nI 0)) X dX7_reads_52 (by decide) ?_
        have hz := h.1
        replace h := h.2
        refine b_iast X kM_4 nM_4 hz dX7_reads_53 (fun μ8 eμ8 => ?_)
        clear hz
        replace h := h μ8 eμ8
        obtain ⟨x9, ex9⟩ : ∃ y : Int32, y = v2 + (nI 1) := ⟨_, rfl⟩
        replace h := h x9 ex9
        refine b_iinc (x := x9) (lv' := [(2, .int x9), (0, .ref (ad 0)), (1, .int v1)]) (q := 2) X dX7_reads_54 rfl (by rw [ex9]; rfl) (by decide) rfl ?_
        refine b_goto (t := 34) X dX7_reads_57 (by decide) ?_
        refine b_sub (lv' := [(0, .ref (ad 0)), (1, .int v1), (2, .int x9)]) [1, 2, 0] rfl ?_
        exact T34 x9 μ8 h
    rw [eY] at B34
    exact B34
  refine b_iconst (v := (nI 1)) X dX7_reads_0 (by decide) ?_
  refine b_istore_n (lv' := [(1, .int (nI 1)), (0, .ref (ad 0))]) X dX7_reads_1 rfl (by decide) rfl ?_
  refine b_aload_n X dX7_reads_2 rfl 1 rfl ?_
  refine b_iconst (v := (nI 0)) X dX7_reads_3 (by decide) ?_
  refine p_7_3 X kM_0 m_f_X7_94 dX7_reads_4 (fun μ1 eμ1 => ?_)
  replace h := h μ1 eμ1
  refine b_aload_n X dX7_reads_7 rfl 1 rfl ?_
  refine b_iconst (v := (nI 0)) X dX7_reads_8 (by decide) ?_
  refine p_7_5 X kM_0 m_f_X7_126 dX7_reads_9 (fun μ2 eμ2 => ?_)
  replace h := h μ2 eμ2
  refine b_aload_n X dX7_reads_12 rfl 1 rfl ?_
  refine b_iconst (v := (nI 0)) X dX7_reads_13 (by decide) ?_
  refine p_7_6 X kM_0 m_f_X7_123 dX7_reads_14 (fun μ3 eμ3 => ?_)
  replace h := h μ3 eμ3
  refine b_aload_n X dX7_reads_17 rfl 1 rfl ?_
  refine b_iconst (v := (nI 0)) X dX7_reads_18 (by decide) ?_
  refine p_7_7 X kM_0 m_f_X7_132 dX7_reads_19 (fun μ4 eμ4 => ?_)
  replace h := h μ4 eμ4
  refine b_aload_n X dX7_reads_22 rfl 1 rfl ?_
  refine b_iconst (v := (nI 0)) X dX7_reads_23 (by decide) ?_
  refine p_7_9 X kM_0 (Or.inl rfl) m_f_X7_135 dX7_reads_24 (fun μ5 eμ5 => ?_)
  replace h := h μ5 eμ5
  refine b_aload_n X dX7_reads_27 rfl 1 rfl ?_
  refine b_iconst (v := (nI 0)) X dX7_reads_28 (by decide) ?_
  refine p_7_10 X kM_0 (Or.inl rfl) m_f_X7_139 dX7_reads_29 (fun μ6 eμ6 => ?_)
  replace h := h μ6 eμ6
  refine b_iconst (v := (nI 0)) X dX7_reads_32 (by decide) ?_
  refine b_istore_n (lv' := [(2, .int (nI 0)), (1, .int (nI 1)), (0, .ref (ad 0))]) X dX7_reads_33 rfl (by decide) rfl ?_
  refine b_sub (lv' := [(0, .ref (ad 0)), (1, .int (nI 1)), (2, .int (nI 0))]) [2, 1, 0] rfl ?_
  exact B34 (nI 1) (nI 0) μ6 h
