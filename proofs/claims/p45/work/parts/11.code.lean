set_option maxHeartbeats 4000000 in
set_option maxRecDepth 100000 in
theorem c_X4_begin (l : Launch) (D : va_G) (C : Nat → ClassId) (ad : Nat → Nat) (b0 : Nat) (h0 : sF.2.1 b0 = 4) (b1 : Nat) (h1 : sF.2.1 b1 = 0) (μ : Mem) (Q : Mem → Prop) (h : w_X4_begin b0 b1 μ Q) : Mv sF l yX4_begin cX4_begin 3 none rm_X4_begin D C ad [.ref (ad b0), .ref (ad b1)] μ Q := by
  refine fm_v (by decide +kernel) sF_lt (Nat.le_of_ble_eq_true rfl) (fun K X hret => ?_)
  have X : CK sF D C ad K cX4_begin 3 RX4 := X
  refine b_lv (lv' := [(0, .ref (ad b0)), (1, .ref (ad b1))]) rfl ?_
  unfold w_X4_begin at h
  have B27 : ∀ (v2 : Int32) (μ : Mem), w_X4_begin_27 b0 b1 v2 μ Q → WB sF l D C ad rm_X4_begin K 3 μ 27 [(0, .ref (ad b0)), (1, .ref (ad b1)), (2, .int v2)] [] := by
    intro v2 μ h
    obtain ⟨Y27, eY⟩ : ∃ Y : Int32 → Mem → Prop, Y = fun (v2 : Int32) (μ : Mem) => WB sF l D C ad rm_X4_begin K 3 μ 27 [(0, .ref (ad b0)), (1, .ref (ad b1)), (2, .int v2)] [] := ⟨_, rfl⟩
    have B27 : Y27 v2 μ := by
      unfold w_X4_begin_27 at h
      refine h Y27 ?_
      clear h
      intro v2 μ h
      unfold s_X4_begin_27 at h
      rw [eY]
      show WB sF l D C ad rm_X4_begin K 3 μ 27 [(0, .ref (ad b0)), (1, .ref (ad b1)), (2, .int v2)] []
      have T27 : ∀ (v2 : Int32) (μ : Mem), Y27 v2 μ → WB sF l D C ad rm_X4_begin K 3 μ 27 [(0, .ref (ad b0)), (1, .ref (ad b1)), (2, .int v2)] [] := by
        intro v2 μ h
        rw [eY] at h
        exact h
      clear eY
      have B70 : ∀ (μ : Mem), w_X4_begin_70 b0 b1 μ Q → WB sF l D C ad rm_X4_begin K 3 μ 70 [(0, .ref (ad b0))] [] := by
        intro μ h
        unfold w_X4_begin_70 at h
        have B72 : ∀ (v2 : Int32) (μ : Mem), w_X4_begin_72 b0 b1 v2 μ Q → WB sF l D C ad rm_X4_begin K 3 μ 72 [(0, .ref (ad b0)), (2, .int v2)] [] := by
          intro v2 μ h
          obtain ⟨Y72, eY⟩ : ∃ Y : Int32 → Mem → Prop, Y = fun (v2 : Int32) (μ : Mem) => WB sF l D C ad rm_X4_begin K 3 μ 72 [(0, .ref (ad b0)), (2, .int v2)] [] := ⟨_, rfl⟩
          have B72 : Y72 v2 μ := by
            unfold w_X4_begin_72 at h
            refine h Y72 ?_
            clear h
            intro v2 μ h
            unfold s_X4_begin_72 at h
            rw [eY]
            show WB sF l D C ad rm_X4_begin K 3 μ 72 [(0, .ref (ad b0)), (2, .int v2)] []
            have T72 : ∀ (v2 : Int32) (μ : Mem), Y72 v2 μ → WB sF l D C ad rm_X4_begin K 3 μ 72 [(0, .ref (ad b0)), (2, .int v2)] [] := by
              intro v2 μ h
              rw [eY] at h
              exact h
            clear eY
            refine b_iload_n X dX4_begin_72 rfl 1 rfl ?_
            refine b_iconst (v := (nI 2)) X dX4_begin_73 (by decide) ?_
            refine b_icmp_ge (t := 97) X dX4_begin_74 (by decide) (fun c => ?_) (fun c => ?_)
            · replace h := h.1 c
              exact hret _ _ _ h dX4_begin_97
            · replace h := h.2 c
              refine b_aload_n X dX4_begin_77 rfl 0 rfl ?_
              refine g_4_8 X h0 m_f_X4_38 dX4_begin_78 ?_
              refine b_iload_n X dX4_begin_81 rfl 1 rfl ?_
              refine b_iconst (v := (nI 0)) X dX4_begin_82 (by decide) ?_
              have hz := h.1
              replace h := h.2
              refine b_iast X (st_k4 h0) (st_n4 h0) hz dX4_begin_83 (fun μ10 eμ10 => ?_)
              clear hz
              replace h := h μ10 eμ10
              refine b_aload_n X dX4_begin_84 rfl 0 rfl ?_
              refine g_4_9 X h0 m_f_X4_41 dX4_begin_85 ?_
              refine b_iload_n X dX4_begin_88 rfl 1 rfl ?_
              refine b_iconst (v := (nI 0)) X dX4_begin_89 (by decide) ?_
              have hz := h.1
              replace h := h.2
              refine b_iast X (st_k5 h0) (st_n5 h0) hz dX4_begin_90 (fun μ11 eμ11 => ?_)
              clear hz
              replace h := h μ11 eμ11
              obtain ⟨x12, ex12⟩ : ∃ y : Int32, y = v2 + (nI 1) := ⟨_, rfl⟩
              replace h := h x12 ex12
              refine b_iinc (x := x12) (lv' := [(2, .int x12), (0, .ref (ad b0))]) (q := 1) X dX4_begin_91 rfl (by rw [ex12]; rfl) (by decide) rfl ?_
              refine b_goto (t := 72) X dX4_begin_94 (by decide) ?_
              refine b_sub (lv' := [(0, .ref (ad b0)), (2, .int x12)]) [1, 0] rfl ?_
              exact T72 x12 μ11 h
          rw [eY] at B72
          exact B72
        refine b_iconst (v := (nI 0)) X dX4_begin_70 (by decide) ?_
        refine b_istore_n (lv' := [(2, .int (nI 0)), (0, .ref (ad b0))]) X dX4_begin_71 rfl (by decide) rfl ?_
        refine b_sub (lv' := [(0, .ref (ad b0)), (2, .int (nI 0))]) [1, 0] rfl ?_
        exact B72 (nI 0) μ h
      refine b_iload_n X dX4_begin_27 rfl 2 rfl ?_
      refine b_bipush (v := (nI 6)) X dX4_begin_28 (by decide) ?_
      refine b_icmp_ge (t := 70) X dX4_begin_30 (by decide) (fun c => ?_) (fun c => ?_)
      · replace h := h.1 c
        refine b_sub (lv' := [(0, .ref (ad b0))]) [0] rfl ?_
        exact B70 μ h
      · replace h := h.2 c
        refine b_aload_n X dX4_begin_33 rfl 0 rfl ?_
        refine g_4_5 X h0 m_f_X4_28 dX4_begin_34 ?_
        refine b_iload_n X dX4_begin_37 rfl 2 rfl ?_
        refine b_aload_n X dX4_begin_38 rfl 1 rfl ?_
        refine g_0_7 X h1 m_f_X4_44 dX4_begin_39 ?_
        refine b_iload_n X dX4_begin_42 rfl 2 rfl ?_
        have hz := h.1
        replace h := h.2
        refine b_iald X (co_k3 h1) (co_n3 h1) hz dX4_begin_43 ?_
        clear hz
        have hz := h.1
        replace h := h.2
        refine b_iast X (st_k1 h0) (st_n1 h0) hz dX4_begin_44 (fun μ6 eμ6 => ?_)
        clear hz
        replace h := h μ6 eμ6
        refine b_aload_n X dX4_begin_45 rfl 0 rfl ?_
        refine g_4_6 X h0 m_f_X4_32 dX4_begin_46 ?_
        refine b_iload_n X dX4_begin_49 rfl 2 rfl ?_
        refine b_aload_n X dX4_begin_50 rfl 1 rfl ?_
        refine g_0_8 X h1 m_f_X4_49 dX4_begin_51 ?_
        refine b_iload_n X dX4_begin_54 rfl 2 rfl ?_
        have hz := h.1
        replace h := h.2
        refine b_iald X (co_k4 h1) (co_n4 h1) hz dX4_begin_55 ?_
        clear hz
        have hz := h.1
        replace h := h.2
        refine b_iast X (st_k2 h0) (st_n2 h0) hz dX4_begin_56 (fun μ7 eμ7 => ?_)
        clear hz
        replace h := h μ7 eμ7
        refine b_aload_n X dX4_begin_57 rfl 0 rfl ?_
        refine g_4_7 X h0 m_f_X4_35 dX4_begin_58 ?_
        refine b_iload_n X dX4_begin_61 rfl 2 rfl ?_
        refine b_iconst (v := (nI 0)) X dX4_begin_62 (by decide) ?_
        have hz := h.1
        replace h := h.2
        refine b_iast X (st_k3 h0) (st_n3 h0) hz dX4_begin_63 (fun μ8 eμ8 => ?_)
        clear hz
        replace h := h μ8 eμ8
        obtain ⟨x9, ex9⟩ : ∃ y : Int32, y = v2 + (nI 1) := ⟨_, rfl⟩
        replace h := h x9 ex9
        refine b_iinc (x := x9) (lv' := [(2, .int x9), (0, .ref (ad b0)), (1, .ref (ad b1))]) (q := 2) X dX4_begin_64 rfl (by rw [ex9]; rfl) (by decide) rfl ?_
        refine b_goto (t := 27) X dX4_begin_67 (by decide) ?_
        refine b_sub (lv' := [(0, .ref (ad b0)), (1, .ref (ad b1)), (2, .int x9)]) [1, 2, 0] rfl ?_
        exact T27 x9 μ8 h
    rw [eY] at B27
    exact B27
  refine b_aload_n X dX4_begin_0 rfl 0 rfl ?_
  refine b_iconst (v := (nI 0)) X dX4_begin_1 (by decide) ?_
  refine p_4_0 X h0 m_f_X4_9 dX4_begin_2 (fun μ1 eμ1 => ?_)
  replace h := h μ1 eμ1
  refine b_aload_n X dX4_begin_5 rfl 0 rfl ?_
  refine b_iconst (v := (nI 0)) X dX4_begin_6 (by decide) ?_
  refine p_4_1 X h0 m_f_X4_15 dX4_begin_7 (fun μ2 eμ2 => ?_)
  replace h := h μ2 eμ2
  refine b_aload_n X dX4_begin_10 rfl 0 rfl ?_
  refine b_iconst (v := (nI 0)) X dX4_begin_11 (by decide) ?_
  refine p_4_2 X h0 (Or.inl rfl) m_f_X4_18 dX4_begin_12 (fun μ3 eμ3 => ?_)
  replace h := h μ3 eμ3
  refine b_aload_n X dX4_begin_15 rfl 0 rfl ?_
  refine b_iconst (v := (nI 0)) X dX4_begin_16 (by decide) ?_
  refine p_4_3 X h0 m_f_X4_22 dX4_begin_17 (fun μ4 eμ4 => ?_)
  replace h := h μ4 eμ4
  refine b_aload_n X dX4_begin_20 rfl 0 rfl ?_
  refine b_iconst (v := (nI 0)) X dX4_begin_21 (by decide) ?_
  refine p_4_4 X h0 m_f_X4_25 dX4_begin_22 (fun μ5 eμ5 => ?_)
  replace h := h μ5 eμ5
  refine b_iconst (v := (nI 0)) X dX4_begin_25 (by decide) ?_
  refine b_istore_n (lv' := [(2, .int (nI 0)), (0, .ref (ad b0)), (1, .ref (ad b1))]) X dX4_begin_26 rfl (by decide) rfl ?_
  refine b_sub (lv' := [(0, .ref (ad b0)), (1, .ref (ad b1)), (2, .int (nI 0))]) [1, 2, 0] rfl ?_
  exact B27 (nI 0) μ5 h
set_option maxHeartbeats 4000000 in
set_option maxRecDepth 100000 in
theorem c_X4_hanging (l : Launch) (D : va_G) (C : Nat → ClassId) (ad : Nat → Nat) (b0 : Nat) (h0 : sF.2.1 b0 = 4) (b1 : Nat) (h1 : sF.2.1 b1 = 0) (μ : Mem) (Q : Int32 → Prop) (h : w_X4_hanging b0 b1 μ Q) : Mi sF l yX4_hanging cX4_hanging 4 (some .int) rm_X4_hanging D C ad [.ref (ad b0), .ref (ad b1)] μ (fun r μ' => μ = μ' ∧ Q r) := by
  refine fm_i (by decide +kernel) sF_lt (Nat.le_of_ble_eq_true rfl) (fun K X hret => ?_)
  have X : CK sF D C ad K cX4_hanging 4 RX4 := X
  refine b_lv (lv' := [(0, .ref (ad b0)), (1, .ref (ad b1))]) rfl ?_
  unfold w_X4_hanging at h
  have B4 : ∀ (v2 : Int32) (v3 : Int32), w_X4_hanging_4 b0 b1 v2 v3 μ Q → WB sF l D C ad rm_X4_hanging K 4 μ 4 [(0, .ref (ad b0)), (1, .ref (ad b1)), (2, .int v2), (3, .int v3)] [] := by
    intro v2 v3 h
    obtain ⟨Y4, eY⟩ : ∃ Y : Int32 → Int32 → Prop, Y = fun (v2 : Int32) (v3 : Int32) => WB sF l D C ad rm_X4_hanging K 4 μ 4 [(0, .ref (ad b0)), (1, .ref (ad b1)), (2, .int v2), (3, .int v3)] [] := ⟨_, rfl⟩
    have B4 : Y4 v2 v3 := by
      unfold w_X4_hanging_4 at h
      refine h Y4 ?_
      clear h
      intro v2 v3 h
      unfold s_X4_hanging_4 at h
      rw [eY]
      show WB sF l D C ad rm_X4_hanging K 4 μ 4 [(0, .ref (ad b0)), (1, .ref (ad b1)), (2, .int v2), (3, .int v3)] []
      have T4 : ∀ (v2 : Int32) (v3 : Int32), Y4 v2 v3 → WB sF l D C ad rm_X4_hanging K 4 μ 4 [(0, .ref (ad b0)), (1, .ref (ad b1)), (2, .int v2), (3, .int v3)] [] := by
        intro v2 v3 h
        rw [eY] at h
        exact h
      clear eY
      have B29 : ∀ (v2 : Int32) (v3 : Int32), w_X4_hanging_29 b0 b1 Y4 v2 v3 μ Q → WB sF l D C ad rm_X4_hanging K 4 μ 29 [(0, .ref (ad b0)), (1, .ref (ad b1)), (2, .int v2), (3, .int v3)] [] := by
        intro v2 v3 h
        unfold w_X4_hanging_29 at h
        obtain ⟨x6, ex6⟩ : ∃ y : Int32, y = v3 + (nI 1) := ⟨_, rfl⟩
        replace h := h x6 ex6
        refine b_iinc (x := x6) (lv' := [(3, .int x6), (0, .ref (ad b0)), (1, .ref (ad b1)), (2, .int v2)]) (q := 3) X dX4_hanging_29 rfl (by rw [ex6]; rfl) (by decide) rfl ?_
        refine b_goto (t := 4) X dX4_hanging_32 (by decide) ?_
        refine b_sub (lv' := [(0, .ref (ad b0)), (1, .ref (ad b1)), (2, .int v2), (3, .int x6)]) [1, 2, 3, 0] rfl ?_
        exact T4 v2 x6 h
      refine b_iload_n X dX4_hanging_4 rfl 3 rfl ?_
      refine b_iconst (v := (nI 2)) X dX4_hanging_5 (by decide) ?_
      refine b_icmp_ge (t := 35) X dX4_hanging_6 (by decide) (fun c => ?_) (fun c => ?_)
      · replace h := h.1 c
        refine b_iload_n X dX4_hanging_35 rfl 2 rfl ?_
        exact hret _ _ _ _ ⟨rfl, h⟩ dX4_hanging_36
      · replace h := h.2 c
        refine b_aload_n X dX4_hanging_9 rfl 1 rfl ?_
        refine b_iload_n X dX4_hanging_10 rfl 3 rfl ?_
        refine b_aload_n X dX4_hanging_11 rfl 0 rfl ?_
        refine g_4_0 X h0 m_f_X4_9 dX4_hanging_12 ?_
        refine bVi (st := []) (nA := 2) X (c_X0_hangsOn l D C ad b1 h1 v3 (μ.1 b0 0) μ _ h) h1 (by decide) (enc_0 h1) rfl gw_X4_58 ⟨rfl, hd_X0_hangsOn⟩ ⟨Nat.zero_le _, Nat.zero_le _⟩ rfl rfl ⟨Nat.le_of_ble_eq_true rfl, Nat.le_of_ble_eq_true rfl⟩ rfl rfl (Nat.le_of_ble_eq_true rfl) dX4_hanging_15 (fun r1 μ2 h => ?_)
        obtain ⟨rfl, h⟩ := h
        refine b_if_eq (t := 29) X dX4_hanging_18 (by decide) (fun c => ?_) (fun c => ?_)
        · replace h := h.1 c
          refine b_sub (lv' := [(0, .ref (ad b0)), (1, .ref (ad b1)), (2, .int v2), (3, .int v3)]) [0, 1, 2, 3] rfl ?_
          exact B29 v2 v3 h
        · replace h := h.2 c
          refine b_iload_n X dX4_hanging_21 rfl 2 rfl ?_
          refine b_aload_n X dX4_hanging_22 rfl 1 rfl ?_
          refine b_iload_n X dX4_hanging_23 rfl 3 rfl ?_
          refine bVi (st := [.int v2]) (nA := 1) X (c_X0_postsOf l D C ad b1 h1 v3 μ _ h) h1 (by decide) (enc_0 h1) rfl gw_X4_62 ⟨rfl, hd_X0_postsOf⟩ ⟨Nat.zero_le _, Nat.zero_le _⟩ rfl rfl ⟨Nat.le_of_ble_eq_true rfl, Nat.le_of_ble_eq_true rfl⟩ rfl rfl (Nat.le_of_ble_eq_true rfl) dX4_hanging_24 (fun r3 μ4 h => ?_)
          obtain ⟨rfl, h⟩ := h
          refine b_ior X dX4_hanging_27 ?_
          refine b_topi (fun x5 ex5 => ?_)
          replace h := h x5 ex5
          refine b_istore_n (lv' := [(2, .int x5), (0, .ref (ad b0)), (1, .ref (ad b1)), (3, .int v3)]) X dX4_hanging_28 rfl (by decide) rfl ?_
          refine b_sub (lv' := [(0, .ref (ad b0)), (1, .ref (ad b1)), (2, .int x5), (3, .int v3)]) [1, 2, 0, 3] rfl ?_
          exact B29 x5 v3 h
    rw [eY] at B4
    exact B4
  refine b_iconst (v := (nI 0)) X dX4_hanging_0 (by decide) ?_
  refine b_istore_n (lv' := [(2, .int (nI 0)), (0, .ref (ad b0)), (1, .ref (ad b1))]) X dX4_hanging_1 rfl (by decide) rfl ?_
  refine b_iconst (v := (nI 0)) X dX4_hanging_2 (by decide) ?_
  refine b_istore_n (lv' := [(3, .int (nI 0)), (2, .int (nI 0)), (0, .ref (ad b0)), (1, .ref (ad b1))]) X dX4_hanging_3 rfl (by decide) rfl ?_
  refine b_sub (lv' := [(0, .ref (ad b0)), (1, .ref (ad b1)), (2, .int (nI 0)), (3, .int (nI 0))]) [2, 3, 1, 0] rfl ?_
  exact B4 (nI 0) (nI 0) h
set_option maxHeartbeats 4000000 in
set_option maxRecDepth 100000 in
theorem c_X4_postIn (l : Launch) (D : va_G) (C : Nat → ClassId) (ad : Nat → Nat) (b0 : Nat) (h0 : sF.2.1 b0 = 4) (a1 : Int32) (μ : Mem) (Q : Int32 → Prop) (h : w_X4_postIn b0 a1 μ Q) : Mi sF l yX4_postIn cX4_postIn 3 (some .int) rm_X4_postIn D C ad [.ref (ad b0), .int a1] μ (fun r μ' => μ = μ' ∧ Q r) := by
  refine fm_i (by decide +kernel) sF_lt (Nat.le_of_ble_eq_true rfl) (fun K X hret => ?_)
  have X : CK sF D C ad K cX4_postIn 3 RX4 := X
  refine b_lv (lv' := [(0, .ref (ad b0)), (1, .int a1)]) rfl ?_
  unfold w_X4_postIn at h
  have B2 : ∀ (v2 : Int32), w_X4_postIn_2 b0 a1 v2 μ Q → WB sF l D C ad rm_X4_postIn K 3 μ 2 [(0, .ref (ad b0)), (1, .int a1), (2, .int v2)] [] := by
    intro v2 h
    obtain ⟨Y2, eY⟩ : ∃ Y : Int32 → Prop, Y = fun (v2 : Int32) => WB sF l D C ad rm_X4_postIn K 3 μ 2 [(0, .ref (ad b0)), (1, .int a1), (2, .int v2)] [] := ⟨_, rfl⟩
    have B2 : Y2 v2 := by
      unfold w_X4_postIn_2 at h
      refine h Y2 ?_
      clear h
      intro v2 h
      unfold s_X4_postIn_2 at h
      rw [eY]
      show WB sF l D C ad rm_X4_postIn K 3 μ 2 [(0, .ref (ad b0)), (1, .int a1), (2, .int v2)] []
      have T2 : ∀ (v2 : Int32), Y2 v2 → WB sF l D C ad rm_X4_postIn K 3 μ 2 [(0, .ref (ad b0)), (1, .int a1), (2, .int v2)] [] := by
        intro v2 h
        rw [eY] at h
        exact h
      clear eY
      refine b_iload_n X dX4_postIn_2 rfl 2 rfl ?_
      refine b_bipush (v := (nI 6)) X dX4_postIn_3 (by decide) ?_
      refine b_icmp_ge (t := 26) X dX4_postIn_5 (by decide) (fun c => ?_) (fun c => ?_)
      · replace h := h.1 c
        refine b_iconst (v := ((-1) : Int32)) X dX4_postIn_26 (by decide) ?_
        exact hret _ _ _ _ ⟨rfl, h⟩ dX4_postIn_27
      · replace h := h.2 c
        refine b_aload_n X dX4_postIn_8 rfl 0 rfl ?_
        refine g_4_5 X h0 m_f_X4_28 dX4_postIn_9 ?_
        refine b_iload_n X dX4_postIn_12 rfl 2 rfl ?_
        have hz := h.1
        replace h := h.2
        refine b_iald X (st_k1 h0) (st_n1 h0) hz dX4_postIn_13 ?_
        clear hz
        refine b_iload_n X dX4_postIn_14 rfl 1 rfl ?_
        refine b_icmp_ne (t := 20) X dX4_postIn_15 (by decide) (fun c => ?_) (fun c => ?_)
        · replace h := h.1 c
          obtain ⟨x1, ex1⟩ : ∃ y : Int32, y = v2 + (nI 1) := ⟨_, rfl⟩
          replace h := h x1 ex1
          refine b_iinc (x := x1) (lv' := [(2, .int x1), (0, .ref (ad b0)), (1, .int a1)]) (q := 2) X dX4_postIn_20 rfl (by rw [ex1]; rfl) (by decide) rfl ?_
          refine b_goto (t := 2) X dX4_postIn_23 (by decide) ?_
          refine b_sub (lv' := [(0, .ref (ad b0)), (1, .int a1), (2, .int x1)]) [1, 2, 0] rfl ?_
          exact T2 x1 h
        · replace h := h.2 c
          refine b_iload_n X dX4_postIn_18 rfl 2 rfl ?_
          exact hret _ _ _ _ ⟨rfl, h⟩ dX4_postIn_19
    rw [eY] at B2
    exact B2
  refine b_iconst (v := (nI 0)) X dX4_postIn_0 (by decide) ?_
  refine b_istore_n (lv' := [(2, .int (nI 0)), (0, .ref (ad b0)), (1, .int a1)]) X dX4_postIn_1 rfl (by decide) rfl ?_
  refine b_sub (lv' := [(0, .ref (ad b0)), (1, .int a1), (2, .int (nI 0))]) [1, 2, 0] rfl ?_
  exact B2 (nI 0) h
set_option maxHeartbeats 4000000 in
set_option maxRecDepth 100000 in
theorem c_X4_inJars (l : Launch) (D : va_G) (C : Nat → ClassId) (ad : Nat → Nat) (b0 : Nat) (h0 : sF.2.1 b0 = 4) (μ : Mem) (Q : Int32 → Prop) (h : w_X4_inJars b0 μ Q) : Mi sF l yX4_inJars cX4_inJars 3 (some .int) rm_X4_inJars D C ad [.ref (ad b0)] μ (fun r μ' => μ = μ' ∧ Q r) := by
  refine fm_i (by decide +kernel) sF_lt (Nat.le_of_ble_eq_true rfl) (fun K X hret => ?_)
  have X : CK sF D C ad K cX4_inJars 3 RX4 := X
  refine b_lv (lv' := [(0, .ref (ad b0))]) rfl ?_
  unfold w_X4_inJars at h
  have B4 : ∀ (v1 : Int32) (v2 : Int32), w_X4_inJars_4 b0 v1 v2 μ Q → WB sF l D C ad rm_X4_inJars K 3 μ 4 [(0, .ref (ad b0)), (1, .int v1), (2, .int v2)] [] := by
    intro v1 v2 h
    obtain ⟨Y4, eY⟩ : ∃ Y : Int32 → Int32 → Prop, Y = fun (v1 : Int32) (v2 : Int32) => WB sF l D C ad rm_X4_inJars K 3 μ 4 [(0, .ref (ad b0)), (1, .int v1), (2, .int v2)] [] := ⟨_, rfl⟩
    have B4 : Y4 v1 v2 := by
      unfold w_X4_inJars_4 at h
      refine h Y4 ?_
      clear h
      intro v1 v2 h
      unfold s_X4_inJars_4 at h
      rw [eY]
      show WB sF l D C ad rm_X4_inJars K 3 μ 4 [(0, .ref (ad b0)), (1, .int v1), (2, .int v2)] []
      have T4 : ∀ (v1 : Int32) (v2 : Int32), Y4 v1 v2 → WB sF l D C ad rm_X4_inJars K 3 μ 4 [(0, .ref (ad b0)), (1, .int v1), (2, .int v2)] [] := by
        intro v1 v2 h
        rw [eY] at h
        exact h
      clear eY
      refine b_iload_n X dX4_inJars_4 rfl 2 rfl ?_
      refine b_bipush (v := (nI 6)) X dX4_inJars_5 (by decide) ?_
      refine b_icmp_ge (t := 25) X dX4_inJars_7 (by decide) (fun c => ?_) (fun c => ?_)
      · replace h := h.1 c
        refine b_iload_n X dX4_inJars_25 rfl 1 rfl ?_
        exact hret _ _ _ _ ⟨rfl, h⟩ dX4_inJars_26
      · replace h := h.2 c
        refine b_iload_n X dX4_inJars_10 rfl 1 rfl ?_
        refine b_aload_n X dX4_inJars_11 rfl 0 rfl ?_
        refine g_4_7 X h0 m_f_X4_35 dX4_inJars_12 ?_
        refine b_iload_n X dX4_inJars_15 rfl 2 rfl ?_
        have hz := h.1
        replace h := h.2
        refine b_iald X (st_k3 h0) (st_n3 h0) hz dX4_inJars_16 ?_
        clear hz
        refine b_iadd X dX4_inJars_17 ?_
        refine b_topi (fun x1 ex1 => ?_)
        replace h := h x1 ex1
        refine b_istore_n (lv' := [(1, .int x1), (0, .ref (ad b0)), (2, .int v2)]) X dX4_inJars_18 rfl (by decide) rfl ?_
        obtain ⟨x2, ex2⟩ : ∃ y : Int32, y = v2 + (nI 1) := ⟨_, rfl⟩
        replace h := h x2 ex2
        refine b_iinc (x := x2) (lv' := [(2, .int x2), (1, .int x1), (0, .ref (ad b0))]) (q := 2) X dX4_inJars_19 rfl (by rw [ex2]; rfl) (by decide) rfl ?_
        refine b_goto (t := 4) X dX4_inJars_22 (by decide) ?_
        refine b_sub (lv' := [(0, .ref (ad b0)), (1, .int x1), (2, .int x2)]) [2, 1, 0] rfl ?_
        exact T4 x1 x2 h
    rw [eY] at B4
    exact B4
  refine b_iconst (v := (nI 0)) X dX4_inJars_0 (by decide) ?_
  refine b_istore_n (lv' := [(1, .int (nI 0)), (0, .ref (ad b0))]) X dX4_inJars_1 rfl (by decide) rfl ?_
  refine b_iconst (v := (nI 0)) X dX4_inJars_2 (by decide) ?_
  refine b_istore_n (lv' := [(2, .int (nI 0)), (1, .int (nI 0)), (0, .ref (ad b0))]) X dX4_inJars_3 rfl (by decide) rfl ?_
  refine b_sub (lv' := [(0, .ref (ad b0)), (1, .int (nI 0)), (2, .int (nI 0))]) [2, 1, 0] rfl ?_
  exact B4 (nI 0) (nI 0) h
set_option maxHeartbeats 4000000 in
set_option maxRecDepth 100000 in
theorem c_X4_lampedFog (l : Launch) (D : va_G) (C : Nat → ClassId) (ad : Nat → Nat) (b0 : Nat) (h0 : sF.2.1 b0 = 4) (b1 : Nat) (h1 : sF.2.1 b1 = 0) (a2 : Int32) (μ : Mem) (Q : Int32 → Prop) (h : w_X4_lampedFog b0 b1 a2 μ Q) : Mi sF l yX4_lampedFog cX4_lampedFog 3 (some .int) rm_X4_lampedFog D C ad [.ref (ad b0), .ref (ad b1), .int a2] μ (fun r μ' => μ = μ' ∧ Q r) := by
  refine fm_i (by decide +kernel) sF_lt (Nat.le_of_ble_eq_true rfl) (fun K X hret => ?_)
  have X : CK sF D C ad K cX4_lampedFog 3 RX4 := X
  refine b_lv (lv' := [(0, .ref (ad b0)), (1, .ref (ad b1)), (2, .int a2)]) rfl ?_
  unfold w_X4_lampedFog at h
  refine b_aload_n X dX4_lampedFog_0 rfl 0 rfl ?_
  refine g_4_2 X h0 m_f_X4_18 dX4_lampedFog_1 ?_
  refine b_if_eq (t := 20) X dX4_lampedFog_4 (by decide) (fun c => ?_) (fun c => ?_)
  · replace h := h.1 c
    refine b_iload_n X dX4_lampedFog_20 rfl 2 rfl ?_
    exact hret _ _ _ _ ⟨rfl, h⟩ dX4_lampedFog_21
  · replace h := h.2 c
    refine b_iload_n X dX4_lampedFog_7 rfl 2 rfl ?_
    refine b_aload_n X dX4_lampedFog_8 rfl 1 rfl ?_
    refine g_0_1 X h1 m_f_X4_66 dX4_lampedFog_9 ?_
    refine b_isub X dX4_lampedFog_12 ?_
    refine b_iconst (v := (nI 0)) X dX4_lampedFog_13 (by decide) ?_
    refine b_mmax X ⟨Nat.zero_le _, Nat.zero_le _⟩ m_m_X4_69 m_s_mmax m_n_J9 m_c_mmax (Nat.le_of_ble_eq_true rfl) (Nat.le_of_ble_eq_true rfl) dX4_lampedFog_14 ?_
    refine b_topi (fun x1 ex1 => ?_)
    replace h := h x1 ex1
    refine b_goto (t := 21) X dX4_lampedFog_17 (by decide) ?_
    exact hret _ _ _ _ ⟨rfl, h⟩ dX4_lampedFog_21
set_option maxHeartbeats 4000000 in
set_option maxRecDepth 100000 in
theorem c_X5_lineUp (l : Launch) (D : va_G) (C : Nat → ClassId) (ad : Nat → Nat) (b1 : Nat) (h1 : sF.2.1 b1 = 4) (a2 : Int32) (a3 : Int32) (a4 : Int32) (μ : Mem) (Q : Mem → Prop) (h : w_X5_lineUp b1 a2 a3 a4 μ Q) : Mv sF l yX5_lineUp cX5_lineUp 6 none rm_X5_lineUp D C ad [.ref (ad 38), .ref (ad b1), .int a2, .int a3, .int a4] μ Q := by
  refine fm_v (by decide +kernel) sF_lt (Nat.le_of_ble_eq_true rfl) (fun K X hret => ?_)
  have X : CK sF D C ad K cX5_lineUp 6 RX5 := X
  refine b_lv (lv' := [(0, .ref (ad 38)), (1, .ref (ad b1)), (2, .int a2), (3, .int a3), (4, .int a4)]) rfl ?_
  unfold w_X5_lineUp at h
  have B3 : ∀ (v5 : Int32) (μ : Mem), w_X5_lineUp_3 b1 a2 a3 a4 v5 μ Q → WB sF l D C ad rm_X5_lineUp K 6 μ 3 [(0, .ref (ad 38)), (1, .ref (ad b1)), (2, .int a2), (3, .int a3), (4, .int a4), (5, .int v5)] [] := by
    intro v5 μ h
    obtain ⟨Y3, eY⟩ : ∃ Y : Int32 → Mem → Prop, Y = fun (v5 : Int32) (μ : Mem) => WB sF l D C ad rm_X5_lineUp K 6 μ 3 [(0, .ref (ad 38)), (1, .ref (ad b1)), (2, .int a2), (3, .int a3), (4, .int a4), (5, .int v5)] [] := ⟨_, rfl⟩
    have B3 : Y3 v5 μ := by
      unfold w_X5_lineUp_3 at h
      refine h Y3 ?_
      clear h
      intro v5 μ h
      unfold s_X5_lineUp_3 at h
      rw [eY]
      show WB sF l D C ad rm_X5_lineUp K 6 μ 3 [(0, .ref (ad 38)), (1, .ref (ad b1)), (2, .int a2), (3, .int a3), (4, .int a4), (5, .int v5)] []
      have T3 : ∀ (v5 : Int32) (μ : Mem), Y3 v5 μ → WB sF l D C ad rm_X5_lineUp K 6 μ 3 [(0, .ref (ad 38)), (1, .ref (ad b1)), (2, .int a2), (3, .int a3), (4, .int a4), (5, .int v5)] [] := by
        intro v5 μ h
        rw [eY] at h
        exact h
      clear eY
      have B24 : ∀ (μ : Mem), w_X5_lineUp_24 b1 a2 a3 a4 μ Q → WB sF l D C ad rm_X5_lineUp K 6 μ 24 [(0, .ref (ad 38)), (1, .ref (ad b1)), (2, .int a2), (3, .int a3), (4, .int a4)] [] := by
        intro μ h
        unfold w_X5_lineUp_24 at h
        have B27 : ∀ (v5 : Int32) (μ : Mem), w_X5_lineUp_27 b1 a2 a3 a4 v5 μ Q → WB sF l D C ad rm_X5_lineUp K 6 μ 27 [(0, .ref (ad 38)), (1, .ref (ad b1)), (2, .int a2), (3, .int a3), (4, .int a4), (5, .int v5)] [] := by
          intro v5 μ h
          obtain ⟨Y27, eY⟩ : ∃ Y : Int32 → Mem → Prop, Y = fun (v5 : Int32) (μ : Mem) => WB sF l D C ad rm_X5_lineUp K 6 μ 27 [(0, .ref (ad 38)), (1, .ref (ad b1)), (2, .int a2), (3, .int a3), (4, .int a4), (5, .int v5)] [] := ⟨_, rfl⟩
          have B27 : Y27 v5 μ := by
            unfold w_X5_lineUp_27 at h
            refine h Y27 ?_
            clear h
            intro v5 μ h
            unfold s_X5_lineUp_27 at h
            rw [eY]
            show WB sF l D C ad rm_X5_lineUp K 6 μ 27 [(0, .ref (ad 38)), (1, .ref (ad b1)), (2, .int a2), (3, .int a3), (4, .int a4), (5, .int v5)] []
            have T27 : ∀ (v5 : Int32) (μ : Mem), Y27 v5 μ → WB sF l D C ad rm_X5_lineUp K 6 μ 27 [(0, .ref (ad 38)), (1, .ref (ad b1)), (2, .int a2), (3, .int a3), (4, .int a4), (5, .int v5)] [] := by
              intro v5 μ h
              rw [eY] at h
              exact h
            clear eY
            have B87 : ∀ (v5 : Int32) (μ : Mem), w_X5_lineUp_87 b1 a2 a3 a4 Y27 v5 μ Q → WB sF l D C ad rm_X5_lineUp K 6 μ 87 [(0, .ref (ad 38)), (1, .ref (ad b1)), (2, .int a2), (3, .int a3), (4, .int a4), (5, .int v5)] [] := by
              intro v5 μ h
              unfold w_X5_lineUp_87 at h
              obtain ⟨x6, ex6⟩ : ∃ y : Int32, y = v5 + (nI 1) := ⟨_, rfl⟩
              replace h := h x6 ex6
              refine b_iinc (x := x6) (lv' := [(5, .int x6), (0, .ref (ad 38)), (1, .ref (ad b1)), (2, .int a2), (3, .int a3), (4, .int a4)]) (q := 5) X dX5_lineUp_87 rfl (by rw [ex6]; rfl) (by decide) rfl ?_
              refine b_goto (t := 27) X dX5_lineUp_90 (by decide) ?_
              refine b_sub (lv' := [(0, .ref (ad 38)), (1, .ref (ad b1)), (2, .int a2), (3, .int a3), (4, .int a4), (5, .int x6)]) [1, 2, 3, 4, 5, 0] rfl ?_
              exact T27 x6 μ h
            have B82 : ∀ (v5 : Int32) (s2 : Int32) (μ : Mem), w_X5_lineUp_82 b1 a2 a3 a4 Y27 v5 s2 μ Q → WB sF l D C ad rm_X5_lineUp K 6 μ 82 [(0, .ref (ad 38)), (1, .ref (ad b1)), (2, .int a2), (3, .int a3), (4, .int a4), (5, .int v5)] [.int s2, .ref (ad 40)] := by
              intro v5 s2 μ h
              unfold w_X5_lineUp_82 at h
              refine b_iload X dX5_lineUp_82 5 rfl ?_
              refine bNv (st := []) (host := "FogNets") (nA := 3) X (c_X6_put l D C ad 40 kF_40 s2 v5 μ _ h) nx_X5_38 m_s_X6_put m_n_X6 m_c_X6_put hd_X6_put ⟨Nat.zero_le _, Nat.zero_le _⟩ rfl rfl ⟨Nat.le_of_ble_eq_true rfl, Nat.le_of_ble_eq_true rfl⟩ rfl rfl (Nat.le_of_ble_eq_true rfl) dX5_lineUp_84 (fun μ5 h => ?_)
              refine b_sub (lv' := [(0, .ref (ad 38)), (1, .ref (ad b1)), (2, .int a2), (3, .int a3), (4, .int a4), (5, .int v5)]) [0, 1, 2, 3, 4, 5] rfl ?_
              exact B87 v5 μ5 h
            refine b_iload X dX5_lineUp_27 5 rfl ?_
            refine b_bipush (v := (nI 6)) X dX5_lineUp_29 (by decide) ?_
            refine b_icmp_ge (t := 93) X dX5_lineUp_31 (by decide) (fun c => ?_) (fun c => ?_)
            · replace h := h.1 c
              exact hret _ _ _ h dX5_lineUp_93
            · replace h := h.2 c
              refine b_aload_n X dX5_lineUp_34 rfl 0 rfl ?_
              refine g_5_0 X kF_38 m_f_X5_9 dX5_lineUp_35 ?_
              refine b_iload X dX5_lineUp_38 5 rfl ?_
              refine b_iconst (v := (nI 0)) X dX5_lineUp_40 (by decide) ?_
              have hz := h.1
              replace h := h.2
              refine b_iast X kF_39 nF_39 hz dX5_lineUp_41 (fun μ3 eμ3 => ?_)
              clear hz
              replace h := h μ3 eμ3
              refine b_iload_n X dX5_lineUp_42 rfl 3 rfl ?_
              refine b_iload X dX5_lineUp_43 5 rfl ?_
              refine b_ishr X dX5_lineUp_45 ?_
              refine b_iconst (v := (nI 1)) X dX5_lineUp_46 (by decide) ?_
              refine b_iand X dX5_lineUp_47 ?_
              refine b_iconst (v := (nI 1)) X dX5_lineUp_48 (by decide) ?_
              refine b_icmp_ne (t := 87) X dX5_lineUp_49 (by decide) (fun c => ?_) (fun c => ?_)
              · replace h := h.1 c
                refine b_sub (lv' := [(0, .ref (ad 38)), (1, .ref (ad b1)), (2, .int a2), (3, .int a3), (4, .int a4), (5, .int v5)]) [0, 1, 2, 3, 4, 5] rfl ?_
                exact B87 v5 μ3 h
              · replace h := h.2 c
                refine b_aload_n X dX5_lineUp_52 rfl 0 rfl ?_
                refine g_5_1 X kF_38 m_f_X5_15 dX5_lineUp_53 ?_
                refine b_iload X dX5_lineUp_56 4 rfl ?_
                refine b_if_ne (t := 71) X dX5_lineUp_58 (by decide) (fun c => ?_) (fun c => ?_)
                · replace h := h.1 c
                  refine b_iload_n X dX5_lineUp_71 rfl 2 rfl ?_
                  refine b_iconst (v := (nI 1)) X dX5_lineUp_72 (by decide) ?_
                  refine b_isub X dX5_lineUp_73 ?_
                  refine b_aload_n X dX5_lineUp_74 rfl 1 rfl ?_
                  refine g_4_5 X h1 m_f_X5_35 dX5_lineUp_75 ?_
                  refine b_iload X dX5_lineUp_78 5 rfl ?_
                  have hz := h.1
                  replace h := h.2
                  refine b_iald X (st_k1 h1) (st_n1 h1) hz dX5_lineUp_80 ?_
                  clear hz
                  refine b_isub X dX5_lineUp_81 ?_
                  refine b_sub (lv' := [(0, .ref (ad 38)), (1, .ref (ad b1)), (2, .int a2), (3, .int a3), (4, .int a4), (5, .int v5)]) [0, 1, 2, 3, 4, 5] rfl ?_
                  exact B82 v5 ((a2 - (nI 1)) - (μ3.1 (b1 + 1) (v5).toNatClampNeg)) μ3 h
                · replace h := h.2 c
                  refine b_aload_n X dX5_lineUp_61 rfl 1 rfl ?_
                  refine g_4_5 X h1 m_f_X5_35 dX5_lineUp_62 ?_
                  refine b_iload X dX5_lineUp_65 5 rfl ?_
                  have hz := h.1
                  replace h := h.2
                  refine b_iald X (st_k1 h1) (st_n1 h1) hz dX5_lineUp_67 ?_
                  clear hz
                  refine b_goto (t := 82) X dX5_lineUp_68 (by decide) ?_
                  refine b_sub (lv' := [(0, .ref (ad 38)), (1, .ref (ad b1)), (2, .int a2), (3, .int a3), (4, .int a4), (5, .int v5)]) [0, 1, 2, 3, 4, 5] rfl ?_
                  exact B82 v5 (μ3.1 (b1 + 1) (v5).toNatClampNeg) μ3 h
          rw [eY] at B27
          exact B27
        refine b_iconst (v := (nI 0)) X dX5_lineUp_24 (by decide) ?_
        refine b_istore (lv' := [(5, .int (nI 0)), (0, .ref (ad 38)), (1, .ref (ad b1)), (2, .int a2), (3, .int a3), (4, .int a4)]) X dX5_lineUp_25 (by decide) rfl ?_
        refine b_sub (lv' := [(0, .ref (ad 38)), (1, .ref (ad b1)), (2, .int a2), (3, .int a3), (4, .int a4), (5, .int (nI 0))]) [1, 2, 3, 4, 5, 0] rfl ?_
        exact B27 (nI 0) μ h
      refine b_iload X dX5_lineUp_3 5 rfl ?_
      refine b_bipush (v := (nI 12)) X dX5_lineUp_5 (by decide) ?_
      refine b_icmp_ge (t := 24) X dX5_lineUp_7 (by decide) (fun c => ?_) (fun c => ?_)
      · replace h := h.1 c
        refine b_sub (lv' := [(0, .ref (ad 38)), (1, .ref (ad b1)), (2, .int a2), (3, .int a3), (4, .int a4)]) [0, 1, 2, 3, 4] rfl ?_
        exact B24 μ h
      · replace h := h.2 c
        refine b_aload_n X dX5_lineUp_10 rfl 0 rfl ?_
        refine g_5_1 X kF_38 m_f_X5_15 dX5_lineUp_11 ?_
        refine b_iload X dX5_lineUp_14 5 rfl ?_
        refine b_iconst (v := ((-1) : Int32)) X dX5_lineUp_16 (by decide) ?_
        have hz := h.1
        replace h := h.2
        refine b_iast X kF_40 nF_40 hz dX5_lineUp_17 (fun μ1 eμ1 => ?_)
        clear hz
        replace h := h μ1 eμ1
        obtain ⟨x2, ex2⟩ : ∃ y : Int32, y = v5 + (nI 1) := ⟨_, rfl⟩
        replace h := h x2 ex2
        refine b_iinc (x := x2) (lv' := [(5, .int x2), (0, .ref (ad 38)), (1, .ref (ad b1)), (2, .int a2), (3, .int a3), (4, .int a4)]) (q := 5) X dX5_lineUp_18 rfl (by rw [ex2]; rfl) (by decide) rfl ?_
        refine b_goto (t := 3) X dX5_lineUp_21 (by decide) ?_
        refine b_sub (lv' := [(0, .ref (ad 38)), (1, .ref (ad b1)), (2, .int a2), (3, .int a3), (4, .int a4), (5, .int x2)]) [1, 2, 3, 4, 5, 0] rfl ?_
        exact T3 x2 μ1 h
    rw [eY] at B3
    exact B3
  refine b_iconst (v := (nI 0)) X dX5_lineUp_0 (by decide) ?_
  refine b_istore (lv' := [(5, .int (nI 0)), (0, .ref (ad 38)), (1, .ref (ad b1)), (2, .int a2), (3, .int a3), (4, .int a4)]) X dX5_lineUp_1 (by decide) rfl ?_
  refine b_sub (lv' := [(0, .ref (ad 38)), (1, .ref (ad b1)), (2, .int a2), (3, .int a3), (4, .int a4), (5, .int (nI 0))]) [1, 2, 3, 4, 5, 0] rfl ?_
  exact B3 (nI 0) μ h
set_option maxHeartbeats 4000000 in
set_option maxRecDepth 100000 in
theorem c_X5_blow (l : Launch) (D : va_G) (C : Nat → ClassId) (ad : Nat → Nat) (b1 : Nat) (h1 : sF.2.1 b1 = 4) (a2 : Int32) (a3 : Int32) (a4 : Int32) (a5 : Int32) (μ : Mem) (Q : Mem → Prop) (h : w_X5_blow b1 a2 a3 a4 a5 μ Q) : Mv sF l yX5_blow cX5_blow 9 none rm_X5_blow D C ad [.ref (ad 38), .ref (ad b1), .int a2, .int a3, .int a4, .int a5] μ Q := by
  refine fm_v (by decide +kernel) sF_lt (Nat.le_of_ble_eq_true rfl) (fun K X hret => ?_)
  have X : CK sF D C ad K cX5_blow 9 RX5 := X
  refine b_lv (lv' := [(0, .ref (ad 38)), (1, .ref (ad b1)), (2, .int a2), (3, .int a3), (4, .int a4), (5, .int a5)]) rfl ?_
  unfold w_X5_blow at h
  have B18 : ∀ (v6 : Int32) (μ : Mem), w_X5_blow_18 b1 a2 a3 a4 a5 v6 μ Q → WB sF l D C ad rm_X5_blow K 9 μ 18 [(0, .ref (ad 38)), (1, .ref (ad b1)), (6, .int v6)] [] := by
    intro v6 μ h
    obtain ⟨Y18, eY⟩ : ∃ Y : Int32 → Mem → Prop, Y = fun (v6 : Int32) (μ : Mem) => WB sF l D C ad rm_X5_blow K 9 μ 18 [(0, .ref (ad 38)), (1, .ref (ad b1)), (6, .int v6)] [] := ⟨_, rfl⟩
    have B18 : Y18 v6 μ := by
      unfold w_X5_blow_18 at h
      refine h Y18 ?_
      clear h
      intro v6 μ h
      unfold s_X5_blow_18 at h
      rw [eY]
      show WB sF l D C ad rm_X5_blow K 9 μ 18 [(0, .ref (ad 38)), (1, .ref (ad b1)), (6, .int v6)] []
      have T18 : ∀ (v6 : Int32) (μ : Mem), Y18 v6 μ → WB sF l D C ad rm_X5_blow K 9 μ 18 [(0, .ref (ad 38)), (1, .ref (ad b1)), (6, .int v6)] [] := by
        intro v6 μ h
        rw [eY] at h
        exact h
      clear eY
      have B113 : ∀ (v6 : Int32) (μ : Mem), w_X5_blow_113 b1 a2 a3 a4 a5 Y18 v6 μ Q → WB sF l D C ad rm_X5_blow K 9 μ 113 [(0, .ref (ad 38)), (1, .ref (ad b1)), (6, .int v6)] [] := by
        intro v6 μ h
        unfold w_X5_blow_113 at h
        obtain ⟨x7, ex7⟩ : ∃ y : Int32, y = v6 + (nI 1) := ⟨_, rfl⟩
        replace h := h x7 ex7
        refine b_iinc (x := x7) (lv' := [(6, .int x7), (0, .ref (ad 38)), (1, .ref (ad b1))]) (q := 2) X dX5_blow_113 rfl (by rw [ex7]; rfl) (by decide) rfl ?_
        refine b_goto (t := 18) X dX5_blow_116 (by decide) ?_
        refine b_sub (lv' := [(0, .ref (ad 38)), (1, .ref (ad b1)), (6, .int x7)]) [1, 2, 0] rfl ?_
        exact T18 x7 μ h
      have B78 : ∀ (v6 : Int32) (v7 : Int32) (s1 : Int32) (μ : Mem), w_X5_blow_78 b1 a2 a3 a4 a5 Y18 v6 v7 s1 μ Q → WB sF l D C ad rm_X5_blow K 9 μ 78 [(0, .ref (ad 38)), (1, .ref (ad b1)), (6, .int v6), (7, .int v7)] [.int s1] := by
        intro v6 v7 s1 μ h
        unfold w_X5_blow_78 at h
        refine b_istore (lv' := [(8, .int s1), (0, .ref (ad 38)), (1, .ref (ad b1)), (6, .int v6), (7, .int v7)]) X dX5_blow_78 (by decide) rfl ?_
        refine b_aload_n X dX5_blow_80 rfl 1 rfl ?_
        refine g_5_0 X kF_38 m_f_X5_9 dX5_blow_81 ?_
        refine b_iload X dX5_blow_84 4 rfl ?_
        refine b_aload_n X dX5_blow_86 rfl 1 rfl ?_
        refine g_5_2 X kF_38 m_f_X5_18 dX5_blow_87 ?_
        refine b_iload X dX5_blow_90 0 rfl ?_
        refine b_imul X dX5_blow_92 ?_
        refine b_bipush (v := (nI 10)) X dX5_blow_93 (by decide) ?_
        have hz := h.1
        replace h := h.2
        refine b_idiv X dX5_blow_95 hz ?_
        clear hz
        have hz := h.1
        replace h := h.2
        refine b_iast X kF_39 nF_39 hz dX5_blow_96 (fun μ5 eμ5 => ?_)
        clear hz
        replace h := h μ5 eμ5
        refine b_aload_n X dX5_blow_97 rfl 1 rfl ?_
        refine b_dup X dX5_blow_98 rfl ?_
        refine g_5_2 X kF_38 m_f_X5_18 dX5_blow_99 ?_
        refine b_aload_n X dX5_blow_102 rfl 1 rfl ?_
        refine g_5_0 X kF_38 m_f_X5_9 dX5_blow_103 ?_
        refine b_iload X dX5_blow_106 4 rfl ?_
        have hz := h.1
        replace h := h.2
        refine b_iald X kF_39 nF_39 hz dX5_blow_108 ?_
        clear hz
        refine b_isub X dX5_blow_109 ?_
        refine p_5_2 X kF_38 m_f_X5_18 dX5_blow_110 (fun μ6 eμ6 => ?_)
        replace h := h μ6 eμ6
        refine b_sub (lv' := [(0, .ref (ad 38)), (1, .ref (ad b1)), (6, .int v6)]) [1, 2, 3] rfl ?_
        exact B113 v6 μ6 h
      refine b_iload X dX5_blow_18 2 rfl ?_
      refine b_bipush (v := (nI 12)) X dX5_blow_20 (by decide) ?_
      refine b_icmp_ge (t := 119) X dX5_blow_22 (by decide) (fun c => ?_) (fun c => ?_)
      · replace h := h.1 c
        exact hret _ _ _ h dX5_blow_119
      · replace h := h.2 c
        refine b_aload_n X dX5_blow_25 rfl 0 rfl ?_
        refine g_5_1 X kF_38 m_f_X5_15 dX5_blow_26 ?_
        refine b_iload X dX5_blow_29 2 rfl ?_
        have hz := h.1
        replace h := h.2
        refine b_iald X kF_40 nF_40 hz dX5_blow_31 ?_
        clear hz
        refine b_topi (fun x4 ex4 => ?_)
        replace h := h x4 ex4
        refine b_istore (lv' := [(7, .int x4), (0, .ref (ad 38)), (1, .ref (ad b1)), (6, .int v6)]) X dX5_blow_32 (by decide) rfl ?_
        refine b_iload X dX5_blow_34 0 rfl ?_
        refine b_if_lt (t := 113) X dX5_blow_36 (by decide) (fun c => ?_) (fun c => ?_)
        · replace h := h.1 c
          refine b_sub (lv' := [(0, .ref (ad 38)), (1, .ref (ad b1)), (6, .int v6)]) [1, 2, 3] rfl ?_
          exact B113 v6 μ h
        · replace h := h.2 c
          refine b_iload X dX5_blow_39 0 rfl ?_
          refine b_bipush (v := (nI 6)) X dX5_blow_41 (by decide) ?_
          refine b_icmp_lt (t := 49) X dX5_blow_43 (by decide) (fun c => ?_) (fun c => ?_)
          · replace h := h.1 c
            refine b_aload_n X dX5_blow_49 rfl 1 rfl ?_
            refine g_5_2 X kF_38 m_f_X5_18 dX5_blow_50 ?_
            refine b_bipush (v := (nI 20)) X dX5_blow_53 (by decide) ?_
            refine b_icmp_lt (t := 68) X dX5_blow_55 (by decide) (fun c => ?_) (fun c => ?_)
            · replace h := h.1 c
              refine b_bipush (v := (nI 9)) X dX5_blow_68 (by decide) ?_
              refine b_aload_n X dX5_blow_70 rfl 2 rfl ?_
              refine g_4_6 X h1 m_f_X5_26 dX5_blow_71 ?_
              refine b_iload X dX5_blow_74 0 rfl ?_
              have hz := h.1
              replace h := h.2
              refine b_iald X (st_k2 h1) (st_n2 h1) hz dX5_blow_76 ?_
              clear hz
              refine b_isub X dX5_blow_77 ?_
              refine b_sub (lv' := [(0, .ref (ad 38)), (1, .ref (ad b1)), (6, .int v6), (7, .int x4)]) [1, 2, 3, 0] rfl ?_
              exact B78 v6 x4 ((nI 9) - (μ.1 (b1 + 2) (x4).toNatClampNeg)) μ h
            · replace h := h.2 c
              refine b_aload_n X dX5_blow_58 rfl 2 rfl ?_
              refine g_4_6 X h1 m_f_X5_26 dX5_blow_59 ?_
              refine b_iload X dX5_blow_62 0 rfl ?_
              have hz := h.1
              replace h := h.2
              refine b_iald X (st_k2 h1) (st_n2 h1) hz dX5_blow_64 ?_
              clear hz
              refine b_goto (t := 78) X dX5_blow_65 (by decide) ?_
              refine b_sub (lv' := [(0, .ref (ad 38)), (1, .ref (ad b1)), (6, .int v6), (7, .int x4)]) [1, 2, 3, 0] rfl ?_
              exact B78 v6 x4 (μ.1 (b1 + 2) (x4).toNatClampNeg) μ h
          · replace h := h.2 c
            refine b_goto (t := 113) X dX5_blow_46 (by decide) ?_
            refine b_sub (lv' := [(0, .ref (ad 38)), (1, .ref (ad b1)), (6, .int v6)]) [1, 2, 3] rfl ?_
            exact B113 v6 μ h
    rw [eY] at B18
    exact B18
  refine b_aload_n X dX5_blow_0 rfl 0 rfl ?_
  refine b_aload_n X dX5_blow_1 rfl 1 rfl ?_
  refine b_iload_n X dX5_blow_2 rfl 2 rfl ?_
  refine b_iload_n X dX5_blow_3 rfl 3 rfl ?_
  refine b_iload X dX5_blow_4 4 rfl ?_
  refine bVv (st := []) (nA := 4) X (c_X5_lineUp l D C ad b1 h1 a2 a3 a4 μ _ h) kF_38 (by decide) (enc_5 kF_38) rfl gw_X5_22 ⟨rfl, hd_X5_lineUp⟩ ⟨Nat.zero_le _, Nat.zero_le _⟩ rfl rfl ⟨Nat.le_of_ble_eq_true rfl, Nat.le_of_ble_eq_true rfl⟩ rfl rfl (Nat.le_of_ble_eq_true rfl) dX5_blow_6 (fun μ2 h => ?_)
  refine b_aload_n X dX5_blow_9 rfl 0 rfl ?_
  refine b_iload X dX5_blow_10 5 rfl ?_
  refine p_5_2 X kF_38 m_f_X5_18 dX5_blow_12 (fun μ3 eμ3 => ?_)
  replace h := h μ3 eμ3
  refine b_iconst (v := (nI 0)) X dX5_blow_15 (by decide) ?_
  refine b_istore (lv' := [(6, .int (nI 0)), (0, .ref (ad 38)), (1, .ref (ad b1)), (2, .int a2), (3, .int a3), (4, .int a4), (5, .int a5)]) X dX5_blow_16 (by decide) rfl ?_
  refine b_sub (lv' := [(0, .ref (ad 38)), (1, .ref (ad b1)), (6, .int (nI 0))]) [1, 2, 0] rfl ?_
  exact B18 (nI 0) μ3 h
set_option maxHeartbeats 4000000 in
set_option maxRecDepth 100000 in
theorem c_X4_counted (l : Launch) (D : va_G) (C : Nat → ClassId) (ad : Nat → Nat) (a0 : Int32) (μ : Mem) (Q : Int32 → Prop) (h : w_X4_counted a0 μ Q) : Mi sF l yX4_counted cX4_counted 1 (some .int) rm_X4_counted D C ad [.int a0] μ (fun r μ' => μ = μ' ∧ Q r) := by
  refine fm_i (by decide +kernel) sF_lt (Nat.le_of_ble_eq_true rfl) (fun K X hret => ?_)
  have X : CK sF D C ad K cX4_counted 1 RX4 := X
  refine b_lv (lv' := [(0, .int a0)]) rfl ?_
  unfold w_X4_counted at h
  refine b_iload_n X dX4_counted_0 rfl 0 rfl ?_
  refine b_ldc (v := (nI 999999)) X m_k_X4_145 dX4_counted_1 ?_
  refine b_mmin X ⟨Nat.zero_le _, Nat.zero_le _⟩ m_m_X4_134 m_s_mmin m_n_J9 m_c_mmin (Nat.le_of_ble_eq_true rfl) (Nat.le_of_ble_eq_true rfl) dX4_counted_3 ?_
  refine b_topi (fun x1 ex1 => ?_)
  replace h := h x1 ex1
  exact hret _ _ _ _ ⟨rfl, h⟩ dX4_counted_6
set_option maxHeartbeats 4000000 in
set_option maxRecDepth 100000 in
theorem c_X4_emptyJarsOf (l : Launch) (D : va_G) (C : Nat → ClassId) (ad : Nat → Nat) (b0 : Nat) (h0 : sF.2.1 b0 = 4) (b1 : Nat) (h1 : sF.2.1 b1 = 0) (a2 : Int32) (μ : Mem) (Q : Int32 → Mem → Prop) (h : w_X4_emptyJarsOf b0 b1 a2 μ Q) : Mi sF l yX4_emptyJarsOf cX4_emptyJarsOf 5 (some .int) rm_X4_emptyJarsOf D C ad [.ref (ad b0), .ref (ad b1), .int a2] μ Q := by
  refine fm_i (by decide +kernel) sF_lt (Nat.le_of_ble_eq_true rfl) (fun K X hret => ?_)
  have X : CK sF D C ad K cX4_emptyJarsOf 5 RX4 := X
  refine b_lv (lv' := [(0, .ref (ad b0)), (1, .ref (ad b1)), (2, .int a2)]) rfl ?_
  unfold w_X4_emptyJarsOf at h
  have B5 : ∀ (v3 : Int32) (v4 : Int32) (μ : Mem), w_X4_emptyJarsOf_5 b0 b1 a2 v3 v4 μ Q → WB sF l D C ad rm_X4_emptyJarsOf K 5 μ 5 [(0, .ref (ad b0)), (1, .ref (ad b1)), (2, .int a2), (3, .int v3), (4, .int v4)] [] := by
    intro v3 v4 μ h
    obtain ⟨Y5, eY⟩ : ∃ Y : Int32 → Int32 → Mem → Prop, Y = fun (v3 : Int32) (v4 : Int32) (μ : Mem) => WB sF l D C ad rm_X4_emptyJarsOf K 5 μ 5 [(0, .ref (ad b0)), (1, .ref (ad b1)), (2, .int a2), (3, .int v3), (4, .int v4)] [] := ⟨_, rfl⟩
    have B5 : Y5 v3 v4 μ := by
      unfold w_X4_emptyJarsOf_5 at h
      refine h Y5 ?_
      clear h
      intro v3 v4 μ h
      unfold s_X4_emptyJarsOf_5 at h
      rw [eY]
      show WB sF l D C ad rm_X4_emptyJarsOf K 5 μ 5 [(0, .ref (ad b0)), (1, .ref (ad b1)), (2, .int a2), (3, .int v3), (4, .int v4)] []
      have T5 : ∀ (v3 : Int32) (v4 : Int32) (μ : Mem), Y5 v3 v4 μ → WB sF l D C ad rm_X4_emptyJarsOf K 5 μ 5 [(0, .ref (ad b0)), (1, .ref (ad b1)), (2, .int a2), (3, .int v3), (4, .int v4)] [] := by
        intro v3 v4 μ h
        rw [eY] at h
        exact h
      clear eY
      have B50 : ∀ (v3 : Int32) (μ : Mem), w_X4_emptyJarsOf_50 b0 b1 a2 v3 μ Q → WB sF l D C ad rm_X4_emptyJarsOf K 5 μ 50 [(0, .ref (ad b0)), (2, .int a2), (3, .int v3)] [] := by
        intro v3 μ h
        unfold w_X4_emptyJarsOf_50 at h
        refine b_aload_n X dX4_emptyJarsOf_50 rfl 0 rfl ?_
        refine g_4_8 X h0 m_f_X4_38 dX4_emptyJarsOf_51 ?_
        refine b_iload_n X dX4_emptyJarsOf_54 rfl 1 rfl ?_
        refine b_aload_n X dX4_emptyJarsOf_55 rfl 0 rfl ?_
        refine g_4_8 X h0 m_f_X4_38 dX4_emptyJarsOf_56 ?_
        refine b_iload_n X dX4_emptyJarsOf_59 rfl 1 rfl ?_
        refine bNi (st := [.int a2, .ref (ad (b0 + 4))]) (host := "FogNets") (nA := 2) X (c_X6_at l D C ad (b0 + 4) (st_k4 h0) a2 μ _ h) nx_X4_121 m_s_X6_at m_n_X6 m_c_X6_at hd_X6_at ⟨Nat.zero_le _, Nat.zero_le _⟩ rfl rfl ⟨Nat.le_of_ble_eq_true rfl, Nat.le_of_ble_eq_true rfl⟩ rfl rfl (Nat.le_of_ble_eq_true rfl) dX4_emptyJarsOf_60 (fun r4 μ5 h => ?_)
        obtain ⟨rfl, h⟩ := h
        refine b_iload_n X dX4_emptyJarsOf_63 rfl 2 rfl ?_
        refine b_iadd X dX4_emptyJarsOf_64 ?_
        refine b_ldc (v := (nI 99999)) X m_k_X4_140 dX4_emptyJarsOf_65 ?_
        refine b_mmin X ⟨Nat.zero_le _, Nat.zero_le _⟩ m_m_X4_134 m_s_mmin m_n_J9 m_c_mmin (Nat.le_of_ble_eq_true rfl) (Nat.le_of_ble_eq_true rfl) dX4_emptyJarsOf_67 ?_
        refine b_topi (fun x6 ex6 => ?_)
        replace h := h x6 ex6
        refine bNv (st := []) (host := "FogNets") (nA := 3) X (c_X6_put l D C ad (b0 + 4) (st_k4 h0) a2 x6 μ _ h) nx_X4_141 m_s_X6_put m_n_X6 m_c_X6_put hd_X6_put ⟨Nat.zero_le _, Nat.zero_le _⟩ rfl rfl ⟨Nat.le_of_ble_eq_true rfl, Nat.le_of_ble_eq_true rfl⟩ rfl rfl (Nat.le_of_ble_eq_true rfl) dX4_emptyJarsOf_70 (fun μ8 h => ?_)
        refine b_iload_n X dX4_emptyJarsOf_73 rfl 2 rfl ?_
        exact hret _ _ _ _ h dX4_emptyJarsOf_74
      have B44 : ∀ (v3 : Int32) (v4 : Int32) (μ : Mem), w_X4_emptyJarsOf_44 b0 b1 a2 Y5 v3 v4 μ Q → WB sF l D C ad rm_X4_emptyJarsOf K 5 μ 44 [(0, .ref (ad b0)), (1, .ref (ad b1)), (2, .int a2), (3, .int v3), (4, .int v4)] [] := by
        intro v3 v4 μ h
        unfold w_X4_emptyJarsOf_44 at h
        obtain ⟨x3, ex3⟩ : ∃ y : Int32, y = v4 + (nI 1) := ⟨_, rfl⟩
        replace h := h x3 ex3
        refine b_iinc (x := x3) (lv' := [(4, .int x3), (0, .ref (ad b0)), (1, .ref (ad b1)), (2, .int a2), (3, .int v3)]) (q := 4) X dX4_emptyJarsOf_44 rfl (by rw [ex3]; rfl) (by decide) rfl ?_
        refine b_goto (t := 5) X dX4_emptyJarsOf_47 (by decide) ?_
        refine b_sub (lv' := [(0, .ref (ad b0)), (1, .ref (ad b1)), (2, .int a2), (3, .int v3), (4, .int x3)]) [1, 2, 3, 4, 0] rfl ?_
        exact T5 v3 x3 μ h
      refine b_iload X dX4_emptyJarsOf_5 4 rfl ?_
      refine b_bipush (v := (nI 6)) X dX4_emptyJarsOf_7 (by decide) ?_
      refine b_icmp_ge (t := 50) X dX4_emptyJarsOf_9 (by decide) (fun c => ?_) (fun c => ?_)
      · replace h := h.1 c
        refine b_sub (lv' := [(0, .ref (ad b0)), (2, .int a2), (3, .int v3)]) [0, 2, 3] rfl ?_
        exact B50 v3 μ h
      · replace h := h.2 c
        refine b_aload_n X dX4_emptyJarsOf_12 rfl 1 rfl ?_
        refine g_0_10 X h1 m_f_X4_137 dX4_emptyJarsOf_13 ?_
        refine b_iload X dX4_emptyJarsOf_16 4 rfl ?_
        have hz := h.1
        replace h := h.2
        refine b_iald X (co_k6 h1) (co_n6 h1) hz dX4_emptyJarsOf_18 ?_
        clear hz
        refine b_iload_n X dX4_emptyJarsOf_19 rfl 2 rfl ?_
        refine b_icmp_eq (t := 26) X dX4_emptyJarsOf_20 (by decide) (fun c => ?_) (fun c => ?_)
        · replace h := h.1 c
          refine b_iload_n X dX4_emptyJarsOf_26 rfl 3 rfl ?_
          refine b_aload_n X dX4_emptyJarsOf_27 rfl 0 rfl ?_
          refine g_4_7 X h0 m_f_X4_35 dX4_emptyJarsOf_28 ?_
          refine b_iload X dX4_emptyJarsOf_31 4 rfl ?_
          have hz := h.1
          replace h := h.2
          refine b_iald X (st_k3 h0) (st_n3 h0) hz dX4_emptyJarsOf_33 ?_
          clear hz
          refine b_iadd X dX4_emptyJarsOf_34 ?_
          refine b_topi (fun x1 ex1 => ?_)
          replace h := h x1 ex1
          refine b_istore_n (lv' := [(3, .int x1), (0, .ref (ad b0)), (1, .ref (ad b1)), (2, .int a2), (4, .int v4)]) X dX4_emptyJarsOf_35 rfl (by decide) rfl ?_
          refine b_aload_n X dX4_emptyJarsOf_36 rfl 1 rfl ?_
          refine g_4_7 X h0 m_f_X4_35 dX4_emptyJarsOf_37 ?_
          refine b_iload X dX4_emptyJarsOf_40 4 rfl ?_
          refine b_iconst (v := (nI 0)) X dX4_emptyJarsOf_42 (by decide) ?_
          have hz := h.1
          replace h := h.2
          refine b_iast X (st_k3 h0) (st_n3 h0) hz dX4_emptyJarsOf_43 (fun μ2 eμ2 => ?_)
          clear hz
          replace h := h μ2 eμ2
          refine b_sub (lv' := [(0, .ref (ad b0)), (1, .ref (ad b1)), (2, .int a2), (3, .int x1), (4, .int v4)]) [1, 2, 3, 0, 4] rfl ?_
          exact B44 x1 v4 μ2 h
        · replace h := h.2 c
          refine b_goto (t := 44) X dX4_emptyJarsOf_23 (by decide) ?_
          refine b_sub (lv' := [(0, .ref (ad b0)), (1, .ref (ad b1)), (2, .int a2), (3, .int v3), (4, .int v4)]) [0, 1, 2, 3, 4] rfl ?_
          exact B44 v3 v4 μ h
    rw [eY] at B5
    exact B5
  refine b_iconst (v := (nI 0)) X dX4_emptyJarsOf_0 (by decide) ?_
  refine b_istore_n (lv' := [(3, .int (nI 0)), (0, .ref (ad b0)), (1, .ref (ad b1)), (2, .int a2)]) X dX4_emptyJarsOf_1 rfl (by decide) rfl ?_
  refine b_iconst (v := (nI 0)) X dX4_emptyJarsOf_2 (by decide) ?_
  refine b_istore (lv' := [(4, .int (nI 0)), (3, .int (nI 0)), (0, .ref (ad b0)), (1, .ref (ad b1)), (2, .int a2)]) X dX4_emptyJarsOf_3 (by decide) rfl ?_
  refine b_sub (lv' := [(0, .ref (ad b0)), (1, .ref (ad b1)), (2, .int a2), (3, .int (nI 0)), (4, .int (nI 0))]) [2, 3, 4, 1, 0] rfl ?_
  exact B5 (nI 0) (nI 0) μ h
set_option maxHeartbeats 4000000 in
set_option maxRecDepth 100000 in
theorem c_X4_loseFromJar (l : Launch) (D : va_G) (C : Nat → ClassId) (ad : Nat → Nat) (b0 : Nat) (h0 : sF.2.1 b0 = 4) (a1 : Int32) (a2 : Int32) (μ : Mem) (Q : Int32 → Mem → Prop) (h : w_X4_loseFromJar b0 a1 a2 μ Q) : Mi sF l yX4_loseFromJar cX4_loseFromJar 3 (some .int) rm_X4_loseFromJar D C ad [.ref (ad b0), .int a1, .int a2] μ Q := by
  refine fm_i (by decide +kernel) sF_lt (Nat.le_of_ble_eq_true rfl) (fun K X hret => ?_)
  have X : CK sF D C ad K cX4_loseFromJar 3 RX4 := X
  refine b_lv (lv' := [(0, .ref (ad b0)), (1, .int a1), (2, .int a2)]) rfl ?_
  unfold w_X4_loseFromJar at h
  refine b_aload_n X dX4_loseFromJar_0 rfl 0 rfl ?_
  refine g_4_7 X h0 m_f_X4_35 dX4_loseFromJar_1 ?_
  refine b_iload_n X dX4_loseFromJar_4 rfl 1 rfl ?_
  refine b_aload_n X dX4_loseFromJar_5 rfl 0 rfl ?_
  refine g_4_7 X h0 m_f_X4_35 dX4_loseFromJar_6 ?_
  refine b_iload_n X dX4_loseFromJar_9 rfl 1 rfl ?_
  refine bNi (st := [.int a1, .ref (ad (b0 + 3))]) (host := "FogNets") (nA := 2) X (c_X6_at l D C ad (b0 + 3) (st_k3 h0) a1 μ _ h) nx_X4_121 m_s_X6_at m_n_X6 m_c_X6_at hd_X6_at ⟨Nat.zero_le _, Nat.zero_le _⟩ rfl rfl ⟨Nat.le_of_ble_eq_true rfl, Nat.le_of_ble_eq_true rfl⟩ rfl rfl (Nat.le_of_ble_eq_true rfl) dX4_loseFromJar_10 (fun r1 μ2 h => ?_)
  obtain ⟨rfl, h⟩ := h
  refine b_iload_n X dX4_loseFromJar_13 rfl 2 rfl ?_
  refine b_isub X dX4_loseFromJar_14 ?_
  refine b_iconst (v := (nI 0)) X dX4_loseFromJar_15 (by decide) ?_
  refine b_mmax X ⟨Nat.zero_le _, Nat.zero_le _⟩ m_m_X4_69 m_s_mmax m_n_J9 m_c_mmax (Nat.le_of_ble_eq_true rfl) (Nat.le_of_ble_eq_true rfl) dX4_loseFromJar_16 ?_
  refine b_topi (fun x3 ex3 => ?_)
  replace h := h x3 ex3
  refine bNv (st := []) (host := "FogNets") (nA := 3) X (c_X6_put l D C ad (b0 + 3) (st_k3 h0) a1 x3 μ _ h) nx_X4_141 m_s_X6_put m_n_X6 m_c_X6_put hd_X6_put ⟨Nat.zero_le _, Nat.zero_le _⟩ rfl rfl ⟨Nat.le_of_ble_eq_true rfl, Nat.le_of_ble_eq_true rfl⟩ rfl rfl (Nat.le_of_ble_eq_true rfl) dX4_loseFromJar_19 (fun μ5 h => ?_)
  refine b_aload_n X dX4_loseFromJar_22 rfl 0 rfl ?_
  refine g_4_7 X h0 m_f_X4_35 dX4_loseFromJar_23 ?_
  refine b_iload_n X dX4_loseFromJar_26 rfl 1 rfl ?_
  refine bNi (st := []) (host := "FogNets") (nA := 2) X (c_X6_at l D C ad (b0 + 3) (st_k3 h0) a1 μ5 _ h) nx_X4_121 m_s_X6_at m_n_X6 m_c_X6_at hd_X6_at ⟨Nat.zero_le _, Nat.zero_le _⟩ rfl rfl ⟨Nat.le_of_ble_eq_true rfl, Nat.le_of_ble_eq_true rfl⟩ rfl rfl (Nat.le_of_ble_eq_true rfl) dX4_loseFromJar_27 (fun r6 μ7 h => ?_)
  obtain ⟨rfl, h⟩ := h
  exact hret _ _ _ _ h dX4_loseFromJar_30
set_option maxHeartbeats 4000000 in
set_option maxRecDepth 100000 in
theorem c_X4_endDay (l : Launch) (D : va_G) (C : Nat → ClassId) (ad : Nat → Nat) (b0 : Nat) (h0 : sF.2.1 b0 = 4) (b1 : Nat) (h1 : sF.2.1 b1 = 0) (a2 : Int32) (μ : Mem) (Q : Mem → Prop) (h : w_X4_endDay b0 b1 a2 μ Q) : Mv sF l yX4_endDay cX4_endDay 7 none rm_X4_endDay D C ad [.ref (ad b0), .ref (ad b1), .int a2] μ Q := by
  refine fm_v (by decide +kernel) sF_lt (Nat.le_of_ble_eq_true rfl) (fun K X hret => ?_)
  have X : CK sF D C ad K cX4_endDay 7 RX4 := X
  refine b_lv (lv' := [(0, .ref (ad b0)), (1, .ref (ad b1)), (2, .int a2)]) rfl ?_
  unfold w_X4_endDay at h
  have B18 : ∀ (μ : Mem), w_X4_endDay_18 b0 b1 a2 μ Q → WB sF l D C ad rm_X4_endDay K 7 μ 18 [(0, .ref (ad b0)), (1, .ref (ad b1))] [] := by
    intro μ h
    unfold w_X4_endDay_18 at h
    have B20 : ∀ (v3 : Int32) (μ : Mem), w_X4_endDay_20 b0 b1 a2 v3 μ Q → WB sF l D C ad rm_X4_endDay K 7 μ 20 [(0, .ref (ad b0)), (1, .ref (ad b1)), (3, .int v3)] [] := by
      intro v3 μ h
      obtain ⟨Y20, eY⟩ : ∃ Y : Int32 → Mem → Prop, Y = fun (v3 : Int32) (μ : Mem) => WB sF l D C ad rm_X4_endDay K 7 μ 20 [(0, .ref (ad b0)), (1, .ref (ad b1)), (3, .int v3)] [] := ⟨_, rfl⟩
      have B20 : Y20 v3 μ := by
        unfold w_X4_endDay_20 at h
        refine h Y20 ?_
        clear h
        intro v3 μ h
        unfold s_X4_endDay_20 at h
        rw [eY]
        show WB sF l D C ad rm_X4_endDay K 7 μ 20 [(0, .ref (ad b0)), (1, .ref (ad b1)), (3, .int v3)] []
        have T20 : ∀ (v3 : Int32) (μ : Mem), Y20 v3 μ → WB sF l D C ad rm_X4_endDay K 7 μ 20 [(0, .ref (ad b0)), (1, .ref (ad b1)), (3, .int v3)] [] := by
          intro v3 μ h
          rw [eY] at h
          exact h
        clear eY
        have B93 : ∀ (μ : Mem), w_X4_endDay_93 b0 b1 a2 μ Q → WB sF l D C ad rm_X4_endDay K 7 μ 93 [(0, .ref (ad b0)), (1, .ref (ad b1))] [] := by
          intro μ h
          unfold w_X4_endDay_93 at h
          have B95 : ∀ (v3 : Int32) (μ : Mem), w_X4_endDay_95 b0 b1 a2 v3 μ Q → WB sF l D C ad rm_X4_endDay K 7 μ 95 [(0, .ref (ad b0)), (1, .ref (ad b1)), (3, .int v3)] [] := by
            intro v3 μ h
            obtain ⟨Y95, eY⟩ : ∃ Y : Int32 → Mem → Prop, Y = fun (v3 : Int32) (μ : Mem) => WB sF l D C ad rm_X4_endDay K 7 μ 95 [(0, .ref (ad b0)), (1, .ref (ad b1)), (3, .int v3)] [] := ⟨_, rfl⟩
            have B95 : Y95 v3 μ := by
              unfold w_X4_endDay_95 at h
              refine h Y95 ?_
              clear h
              intro v3 μ h
              unfold s_X4_endDay_95 at h
              rw [eY]
              show WB sF l D C ad rm_X4_endDay K 7 μ 95 [(0, .ref (ad b0)), (1, .ref (ad b1)), (3, .int v3)] []
              have T95 : ∀ (v3 : Int32) (μ : Mem), Y95 v3 μ → WB sF l D C ad rm_X4_endDay K 7 μ 95 [(0, .ref (ad b0)), (1, .ref (ad b1)), (3, .int v3)] [] := by
                intro v3 μ h
                rw [eY] at h
                exact h
              clear eY
              have B159 : ∀ (μ : Mem), w_X4_endDay_159 b0 b1 a2 μ Q → WB sF l D C ad rm_X4_endDay K 7 μ 159 [(0, .ref (ad b0))] [] := by
                intro μ h
                unfold w_X4_endDay_159 at h
                refine b_aload_n X dX4_endDay_159 rfl 0 rfl ?_
                refine b_dup X dX4_endDay_160 rfl ?_
                refine g_4_0 X h0 m_f_X4_9 dX4_endDay_161 ?_
                refine b_iconst (v := (nI 1)) X dX4_endDay_164 (by decide) ?_
                refine b_iadd X dX4_endDay_165 ?_
                refine p_4_0 X h0 m_f_X4_9 dX4_endDay_166 (fun μ21 eμ21 => ?_)
                replace h := h μ21 eμ21
                refine b_aload_n X dX4_endDay_169 rfl 0 rfl ?_
                refine b_iconst (v := (nI 0)) X dX4_endDay_170 (by decide) ?_
                refine p_4_1 X h0 m_f_X4_15 dX4_endDay_171 (fun μ22 eμ22 => ?_)
                replace h := h μ22 eμ22
                exact hret _ _ _ h dX4_endDay_174
              refine b_iload_n X dX4_endDay_95 rfl 2 rfl ?_
              refine b_iconst (v := (nI 2)) X dX4_endDay_96 (by decide) ?_
              refine b_icmp_ge (t := 159) X dX4_endDay_97 (by decide) (fun c => ?_) (fun c => ?_)
              · replace h := h.1 c
                refine b_sub (lv' := [(0, .ref (ad b0))]) [0] rfl ?_
                exact B159 μ h
              · replace h := h.2 c
                refine b_aload_n X dX4_endDay_100 rfl 1 rfl ?_
                refine g_0_12 X h1 m_f_X4_131 dX4_endDay_101 ?_
                refine b_iload_n X dX4_endDay_104 rfl 2 rfl ?_
                have hz := h.1
                replace h := h.2
                refine b_iald X (co_k8 h1) (co_n8 h1) hz dX4_endDay_105 ?_
                clear hz
                refine b_aload_n X dX4_endDay_106 rfl 0 rfl ?_
                refine g_4_8 X h0 m_f_X4_38 dX4_endDay_107 ?_
                refine b_iload_n X dX4_endDay_110 rfl 2 rfl ?_
                have hz := h.1
                replace h := h.2
                refine b_iald X (st_k4 h0) (st_n4 h0) hz dX4_endDay_111 ?_
                clear hz
                refine b_mmin X ⟨Nat.zero_le _, Nat.zero_le _⟩ m_m_X4_134 m_s_mmin m_n_J9 m_c_mmin (Nat.le_of_ble_eq_true rfl) (Nat.le_of_ble_eq_true rfl) dX4_endDay_112 ?_
                refine b_topi (fun x15 ex15 => ?_)
                replace h := h x15 ex15
                refine b_istore (lv' := [(4, .int x15), (0, .ref (ad b0)), (1, .ref (ad b1)), (3, .int v3)]) X dX4_endDay_115 (by decide) rfl ?_
                refine b_aload_n X dX4_endDay_117 rfl 1 rfl ?_
                refine g_4_8 X h0 m_f_X4_38 dX4_endDay_118 ?_
                refine b_iload_n X dX4_endDay_121 rfl 3 rfl ?_
                refine b_dup2 X dX4_endDay_122 rfl rfl ?_
                have hz := h.1
                replace h := h.2
                refine b_iald X (st_k4 h0) (st_n4 h0) hz dX4_endDay_123 ?_
                clear hz
                refine b_iload X dX4_endDay_124 0 rfl ?_
                refine b_isub X dX4_endDay_126 ?_
                have hz := h.1
                replace h := h.2
                refine b_iast X (st_k4 h0) (st_n4 h0) hz dX4_endDay_127 (fun μ16 eμ16 => ?_)
                clear hz
                replace h := h μ16 eμ16
                refine b_aload_n X dX4_endDay_128 rfl 1 rfl ?_
                refine g_4_9 X h0 m_f_X4_41 dX4_endDay_129 ?_
                refine b_iload_n X dX4_endDay_132 rfl 3 rfl ?_
                refine b_aload_n X dX4_endDay_133 rfl 1 rfl ?_
                refine g_4_9 X h0 m_f_X4_41 dX4_endDay_134 ?_
                refine b_iload_n X dX4_endDay_137 rfl 3 rfl ?_
                have hz := h.1
                replace h := h.2
                refine b_iald X (st_k5 h0) (st_n5 h0) hz dX4_endDay_138 ?_
                clear hz
                refine b_aload_n X dX4_endDay_139 rfl 2 rfl ?_
                refine g_0_12 X h1 m_f_X4_131 dX4_endDay_140 ?_
                refine b_iload_n X dX4_endDay_143 rfl 3 rfl ?_
                have hz := h.1
                replace h := h.2
                refine b_iald X (co_k8 h1) (co_n8 h1) hz dX4_endDay_144 ?_
                clear hz
                refine b_iadd X dX4_endDay_145 ?_
                refine b_iload X dX4_endDay_146 0 rfl ?_
                refine b_isub X dX4_endDay_148 ?_
                refine bSi (st := [.int v3, .ref (ad (b0 + 5))]) (nA := 1) X (c_X4_counted l D C ad (((μ16.1 (b0 + 5) (v3).toNatClampNeg) + (μ16.1 (b1 + 8) (v3).toNatClampNeg)) - x15) μ16 _ h) gw_X4_98 hd_X4_counted ⟨Nat.zero_le _, Nat.zero_le _⟩ rfl rfl ⟨Nat.le_of_ble_eq_true rfl, Nat.le_of_ble_eq_true rfl⟩ rfl rfl (Nat.le_of_ble_eq_true rfl) dX4_endDay_149 (fun r17 μ18 h => ?_)
                obtain ⟨rfl, h⟩ := h
                have hz := h.1
                replace h := h.2
                refine b_iast X (st_k5 h0) (st_n5 h0) hz dX4_endDay_152 (fun μ19 eμ19 => ?_)
                clear hz
                replace h := h μ19 eμ19
                obtain ⟨x20, ex20⟩ : ∃ y : Int32, y = v3 + (nI 1) := ⟨_, rfl⟩
                replace h := h x20 ex20
                refine b_iinc (x := x20) (lv' := [(3, .int x20), (4, .int x15), (0, .ref (ad b0)), (1, .ref (ad b1))]) (q := 3) X dX4_endDay_153 rfl (by rw [ex20]; rfl) (by decide) rfl ?_
                refine b_goto (t := 95) X dX4_endDay_156 (by decide) ?_
                refine b_sub (lv' := [(0, .ref (ad b0)), (1, .ref (ad b1)), (3, .int x20)]) [2, 3, 0] rfl ?_
                exact T95 x20 μ19 h
            rw [eY] at B95
            exact B95
          refine b_iconst (v := (nI 0)) X dX4_endDay_93 (by decide) ?_
          refine b_istore_n (lv' := [(3, .int (nI 0)), (0, .ref (ad b0)), (1, .ref (ad b1))]) X dX4_endDay_94 rfl (by decide) rfl ?_
          refine b_sub (lv' := [(0, .ref (ad b0)), (1, .ref (ad b1)), (3, .int (nI 0))]) [1, 2, 0] rfl ?_
          exact B95 (nI 0) μ h
        refine b_iload_n X dX4_endDay_20 rfl 2 rfl ?_
        refine b_aload_n X dX4_endDay_21 rfl 1 rfl ?_
        refine g_0_4 X h1 m_f_X4_112 dX4_endDay_22 ?_
        refine b_icmp_ge (t := 93) X dX4_endDay_25 (by decide) (fun c => ?_) (fun c => ?_)
        · replace h := h.1 c
          refine b_sub (lv' := [(0, .ref (ad b0)), (1, .ref (ad b1))]) [0, 1] rfl ?_
          exact B93 μ h
        · replace h := h.2 c
          refine b_iload_n X dX4_endDay_28 rfl 2 rfl ?_
          refine b_iconst (v := (nI 4)) X dX4_endDay_29 (by decide) ?_
          refine b_icmp_ge (t := 93) X dX4_endDay_30 (by decide) (fun c => ?_) (fun c => ?_)
          · replace h := h.1 c
            refine b_sub (lv' := [(0, .ref (ad b0)), (1, .ref (ad b1))]) [0, 1] rfl ?_
            exact B93 μ h
          · replace h := h.2 c
            refine b_aload_n X dX4_endDay_33 rfl 0 rfl ?_
            refine b_aload_n X dX4_endDay_34 rfl 1 rfl ?_
            refine g_0_13 X h1 m_f_X4_115 dX4_endDay_35 ?_
            refine b_iload_n X dX4_endDay_38 rfl 2 rfl ?_
            have hz := h.1
            replace h := h.2
            refine b_iald X (co_k9 h1) (co_n9 h1) hz dX4_endDay_39 ?_
            clear hz
            refine bVi (st := []) (nA := 1) X (c_X4_postIn l D C ad b0 h0 (μ.1 (b1 + 9) (v3).toNatClampNeg) μ _ h) h0 (by decide) (enc_4 h0) rfl gw_X4_118 ⟨rfl, hd_X4_postIn⟩ ⟨Nat.zero_le _, Nat.zero_le _⟩ rfl rfl ⟨Nat.le_of_ble_eq_true rfl, Nat.le_of_ble_eq_true rfl⟩ rfl rfl (Nat.le_of_ble_eq_true rfl) dX4_endDay_40 (fun r5 μ6 h => ?_)
            obtain ⟨rfl, h⟩ := h
            refine b_istore (lv' := [(4, .int r5), (0, .ref (ad b0)), (1, .ref (ad b1)), (3, .int v3)]) X dX4_endDay_43 (by decide) rfl ?_
            refine b_aload_n X dX4_endDay_45 rfl 1 rfl ?_
            refine g_4_7 X h0 m_f_X4_35 dX4_endDay_46 ?_
            refine b_iload X dX4_endDay_49 0 rfl ?_
            refine bNi (st := []) (host := "FogNets") (nA := 2) X (c_X6_at l D C ad (b0 + 3) (st_k3 h0) r5 μ _ h) nx_X4_121 m_s_X6_at m_n_X6 m_c_X6_at hd_X6_at ⟨Nat.zero_le _, Nat.zero_le _⟩ rfl rfl ⟨Nat.le_of_ble_eq_true rfl, Nat.le_of_ble_eq_true rfl⟩ rfl rfl (Nat.le_of_ble_eq_true rfl) dX4_endDay_51 (fun r7 μ8 h => ?_)
            obtain ⟨rfl, h⟩ := h
            refine b_istore (lv' := [(5, .int r7), (4, .int r5), (0, .ref (ad b0)), (1, .ref (ad b1)), (3, .int v3)]) X dX4_endDay_54 (by decide) rfl ?_
            refine b_aload_n X dX4_endDay_56 rfl 2 rfl ?_
            refine b_iload X dX4_endDay_57 1 rfl ?_
            refine b_aload_n X dX4_endDay_59 rfl 3 rfl ?_
            refine g_0_14 X h1 m_f_X4_125 dX4_endDay_60 ?_
            refine b_iload_n X dX4_endDay_63 rfl 4 rfl ?_
            have hz := h.1
            replace h := h.2
            refine b_iald X (co_k10 h1) (co_n10 h1) hz dX4_endDay_64 ?_
            clear hz
            refine bVi (st := []) (nA := 2) X (c_X4_loseFromJar l D C ad b0 h0 r5 (μ.1 (b1 + 10) (v3).toNatClampNeg) μ _ h) h0 (by decide) (enc_4 h0) rfl gw_X4_128 ⟨rfl, hd_X4_loseFromJar⟩ ⟨Nat.zero_le _, Nat.zero_le _⟩ rfl rfl ⟨Nat.le_of_ble_eq_true rfl, Nat.le_of_ble_eq_true rfl⟩ rfl rfl (Nat.le_of_ble_eq_true rfl) dX4_endDay_65 (fun r9 μ10 h => ?_)
            refine b_istore (lv' := [(6, .int r9), (5, .int r7), (4, .int r5), (0, .ref (ad b0)), (1, .ref (ad b1)), (3, .int v3)]) X dX4_endDay_68 (by decide) rfl ?_
            refine b_aload_n X dX4_endDay_70 rfl 3 rfl ?_
            refine b_aload_n X dX4_endDay_71 rfl 3 rfl ?_
            refine g_4_4 X h0 m_f_X4_25 dX4_endDay_72 ?_
            refine b_iload X dX4_endDay_75 1 rfl ?_
            refine b_iadd X dX4_endDay_77 ?_
            refine b_iload X dX4_endDay_78 0 rfl ?_
            refine b_isub X dX4_endDay_80 ?_
            refine bSi (st := [.ref (ad b0)]) (nA := 1) X (c_X4_counted l D C ad (((μ10.1 b0 4) + r7) - r9) μ10 _ h) gw_X4_98 hd_X4_counted ⟨Nat.zero_le _, Nat.zero_le _⟩ rfl rfl ⟨Nat.le_of_ble_eq_true rfl, Nat.le_of_ble_eq_true rfl⟩ rfl rfl (Nat.le_of_ble_eq_true rfl) dX4_endDay_81 (fun r11 μ12 h => ?_)
            obtain ⟨rfl, h⟩ := h
            refine p_4_4 X h0 m_f_X4_25 dX4_endDay_84 (fun μ13 eμ13 => ?_)
            replace h := h μ13 eμ13
            obtain ⟨x14, ex14⟩ : ∃ y : Int32, y = v3 + (nI 1) := ⟨_, rfl⟩
            replace h := h x14 ex14
            refine b_iinc (x := x14) (lv' := [(3, .int x14), (6, .int r9), (5, .int r7), (4, .int r5), (0, .ref (ad b0)), (1, .ref (ad b1))]) (q := 5) X dX4_endDay_87 rfl (by rw [ex14]; rfl) (by decide) rfl ?_
            refine b_goto (t := 20) X dX4_endDay_90 (by decide) ?_
            refine b_sub (lv' := [(0, .ref (ad b0)), (1, .ref (ad b1)), (3, .int x14)]) [4, 5, 0] rfl ?_
            exact T20 x14 μ13 h
      rw [eY] at B20
      exact B20
    refine b_iconst (v := (nI 0)) X dX4_endDay_18 (by decide) ?_
    refine b_istore_n (lv' := [(3, .int (nI 0)), (0, .ref (ad b0)), (1, .ref (ad b1))]) X dX4_endDay_19 rfl (by decide) rfl ?_
    refine b_sub (lv' := [(0, .ref (ad b0)), (1, .ref (ad b1)), (3, .int (nI 0))]) [1, 2, 0] rfl ?_
    exact B20 (nI 0) μ h
  refine b_iload_n X dX4_endDay_0 rfl 2 rfl ?_
  refine b_if_eq (t := 18) X dX4_endDay_1 (by decide) (fun c => ?_) (fun c => ?_)
  · replace h := h.1 c
    refine b_sub (lv' := [(0, .ref (ad b0)), (1, .ref (ad b1))]) [0, 1] rfl ?_
    exact B18 μ h
  · replace h := h.2 c
    refine b_aload_n X dX4_endDay_4 rfl 0 rfl ?_
    refine b_aload_n X dX4_endDay_5 rfl 1 rfl ?_
    refine b_iconst (v := (nI 0)) X dX4_endDay_6 (by decide) ?_
    refine bVi (st := []) (nA := 2) X (c_X4_emptyJarsOf l D C ad b0 h0 b1 h1 (nI 0) μ _ h) h0 (by decide) (enc_4 h0) rfl gw_X4_109 ⟨rfl, hd_X4_emptyJarsOf⟩ ⟨Nat.zero_le _, Nat.zero_le _⟩ rfl rfl ⟨Nat.le_of_ble_eq_true rfl, Nat.le_of_ble_eq_true rfl⟩ rfl rfl (Nat.le_of_ble_eq_true rfl) dX4_endDay_7 (fun r1 μ2 h => ?_)
    refine b_pop X dX4_endDay_10 rfl ?_
    refine b_aload_n X dX4_endDay_11 rfl 0 rfl ?_
    refine b_aload_n X dX4_endDay_12 rfl 1 rfl ?_
    refine b_iconst (v := (nI 1)) X dX4_endDay_13 (by decide) ?_
    refine bVi (st := []) (nA := 2) X (c_X4_emptyJarsOf l D C ad b0 h0 b1 h1 (nI 1) μ2 _ h) h0 (by decide) (enc_4 h0) rfl gw_X4_109 ⟨rfl, hd_X4_emptyJarsOf⟩ ⟨Nat.zero_le _, Nat.zero_le _⟩ rfl rfl ⟨Nat.le_of_ble_eq_true rfl, Nat.le_of_ble_eq_true rfl⟩ rfl rfl (Nat.le_of_ble_eq_true rfl) dX4_endDay_14 (fun r3 μ4 h => ?_)
    refine b_pop X dX4_endDay_17 rfl ?_
    refine b_sub (lv' := [(0, .ref (ad b0)), (1, .ref (ad b1))]) [0, 1] rfl ?_
    exact B18 μ4 h
set_option maxHeartbeats 4000000 in
set_option maxRecDepth 100000 in
theorem c_X4_passHour (l : Launch) (D : va_G) (C : Nat → ClassId) (ad : Nat → Nat) (b0 : Nat) (h0 : sF.2.1 b0 = 4) (b1 : Nat) (h1 : sF.2.1 b1 = 0) (a3 : Int32) (a4 : Int32) (a5 : Int32) (μ : Mem) (Q : Int32 → Mem → Prop) (h : w_X4_passHour b0 b1 a3 a4 a5 μ Q) : Mi sF l yX4_passHour cX4_passHour 9 (some .int) rm_X4_passHour D C ad [.ref (ad b0), .ref (ad b1), .ref (ad 38), .int a3, .int a4, .int a5] μ Q := by
  refine fm_i (by decide +kernel) sF_lt (Nat.le_of_ble_eq_true rfl) (fun K X hret => ?_)
  have X : CK sF D C ad K cX4_passHour 9 RX4 := X
  refine b_lv (lv' := [(0, .ref (ad b0)), (1, .ref (ad b1)), (2, .ref (ad 38)), (3, .int a3), (4, .int a4), (5, .int a5)]) rfl ?_
  unfold w_X4_passHour at h
  have B28 : ∀ (v6 : Int32) (v7 : Int32) (μ : Mem), w_X4_passHour_28 b0 b1 a3 a4 a5 v6 v7 μ Q → WB sF l D C ad rm_X4_passHour K 9 μ 28 [(0, .ref (ad b0)), (1, .ref (ad b1)), (2, .ref (ad 38)), (5, .int a5), (6, .int v6), (7, .int v7)] [] := by
    intro v6 v7 μ h
    obtain ⟨Y28, eY⟩ : ∃ Y : Int32 → Int32 → Mem → Prop, Y = fun (v6 : Int32) (v7 : Int32) (μ : Mem) => WB sF l D C ad rm_X4_passHour K 9 μ 28 [(0, .ref (ad b0)), (1, .ref (ad b1)), (2, .ref (ad 38)), (5, .int a5), (6, .int v6), (7, .int v7)] [] := ⟨_, rfl⟩
    have B28 : Y28 v6 v7 μ := by
      unfold w_X4_passHour_28 at h
      refine h Y28 ?_
      clear h
      intro v6 v7 μ h
      unfold s_X4_passHour_28 at h
      rw [eY]
      show WB sF l D C ad rm_X4_passHour K 9 μ 28 [(0, .ref (ad b0)), (1, .ref (ad b1)), (2, .ref (ad 38)), (5, .int a5), (6, .int v6), (7, .int v7)] []
      have T28 : ∀ (v6 : Int32) (v7 : Int32) (μ : Mem), Y28 v6 v7 μ → WB sF l D C ad rm_X4_passHour K 9 μ 28 [(0, .ref (ad b0)), (1, .ref (ad b1)), (2, .ref (ad 38)), (5, .int a5), (6, .int v6), (7, .int v7)] [] := by
        intro v6 v7 μ h
        rw [eY] at h
        exact h
      clear eY
      have B117 : ∀ (v6 : Int32) (μ : Mem), w_X4_passHour_117 b0 b1 a3 a4 a5 v6 μ Q → WB sF l D C ad rm_X4_passHour K 9 μ 117 [(0, .ref (ad b0)), (1, .ref (ad b1)), (5, .int a5), (6, .int v6)] [] := by
        intro v6 μ h
        unfold w_X4_passHour_117 at h
        refine b_aload_n X dX4_passHour_117 rfl 0 rfl ?_
        refine b_dup X dX4_passHour_118 rfl ?_
        refine g_4_1 X h0 m_f_X4_15 dX4_passHour_119 ?_
        refine b_iconst (v := (nI 1)) X dX4_passHour_122 (by decide) ?_
        refine b_iadd X dX4_passHour_123 ?_
        refine p_4_1 X h0 m_f_X4_15 dX4_passHour_124 (fun μ15 eμ15 => ?_)
        replace h := h μ15 eμ15
        refine b_aload_n X dX4_passHour_127 rfl 0 rfl ?_
        refine g_4_1 X h0 m_f_X4_15 dX4_passHour_128 ?_
        refine b_aload_n X dX4_passHour_131 rfl 1 rfl ?_
        refine bVi (st := [.int (μ15.1 b0 1)]) (nA := 0) X (c_X0_hoursOfDay l D C ad b1 h1 μ15 _ h) h1 (by decide) (enc_0 h1) rfl gw_X4_101 ⟨rfl, hd_X0_hoursOfDay⟩ ⟨Nat.zero_le _, Nat.zero_le _⟩ rfl rfl ⟨Nat.le_of_ble_eq_true rfl, Nat.le_of_ble_eq_true rfl⟩ rfl rfl (Nat.le_of_ble_eq_true rfl) dX4_passHour_132 (fun r16 μ17 h => ?_)
        obtain ⟨rfl, h⟩ := h
        refine b_icmp_lt (t := 145) X dX4_passHour_135 (by decide) (fun c => ?_) (fun c => ?_)
        · replace h := h.1 c
          refine b_iload X dX4_passHour_145 3 rfl ?_
          exact hret _ _ _ _ h dX4_passHour_147
        · replace h := h.2 c
          refine b_aload_n X dX4_passHour_138 rfl 0 rfl ?_
          refine b_aload_n X dX4_passHour_139 rfl 1 rfl ?_
          refine b_iload X dX4_passHour_140 2 rfl ?_
          refine bVv (st := []) (nA := 2) X (c_X4_endDay l D C ad b0 h0 b1 h1 a5 μ15 _ h) h0 (by decide) (enc_4 h0) rfl gw_X4_105 ⟨rfl, hd_X4_endDay⟩ ⟨Nat.zero_le _, Nat.zero_le _⟩ rfl rfl ⟨Nat.le_of_ble_eq_true rfl, Nat.le_of_ble_eq_true rfl⟩ rfl rfl (Nat.le_of_ble_eq_true rfl) dX4_passHour_142 (fun μ19 h => ?_)
          refine b_iload X dX4_passHour_145 3 rfl ?_
          exact hret _ _ _ _ h dX4_passHour_147
      refine b_iload X dX4_passHour_28 5 rfl ?_
      refine b_bipush (v := (nI 6)) X dX4_passHour_30 (by decide) ?_
      refine b_icmp_ge (t := 117) X dX4_passHour_32 (by decide) (fun c => ?_) (fun c => ?_)
      · replace h := h.1 c
        refine b_sub (lv' := [(0, .ref (ad b0)), (1, .ref (ad b1)), (5, .int a5), (6, .int v6)]) [0, 1, 3, 4] rfl ?_
        exact B117 v6 μ h
      · replace h := h.2 c
        refine b_aload_n X dX4_passHour_35 rfl 0 rfl ?_
        refine g_4_7 X h0 m_f_X4_35 dX4_passHour_36 ?_
        refine b_iload X dX4_passHour_39 5 rfl ?_
        refine b_dup2 X dX4_passHour_41 rfl rfl ?_
        have hz := h.1
        replace h := h.2
        refine b_iald X (st_k3 h0) (st_n3 h0) hz dX4_passHour_42 ?_
        clear hz
        refine b_aload_n X dX4_passHour_43 rfl 2 rfl ?_
        refine g_5_0 X kF_38 m_f_X4_92 dX4_passHour_44 ?_
        refine b_iload X dX4_passHour_47 5 rfl ?_
        have hz := h.1
        replace h := h.2
        refine b_iald X kF_39 nF_39 hz dX4_passHour_49 ?_
        clear hz
        refine b_iadd X dX4_passHour_50 ?_
        have hz := h.1
        replace h := h.2
        refine b_iast X (st_k3 h0) (st_n3 h0) hz dX4_passHour_51 (fun μ7 eμ7 => ?_)
        clear hz
        replace h := h μ7 eμ7
        refine b_aload_n X dX4_passHour_52 rfl 0 rfl ?_
        refine g_4_7 X h0 m_f_X4_35 dX4_passHour_53 ?_
        refine b_iload X dX4_passHour_56 5 rfl ?_
        have hz := h.1
        replace h := h.2
        refine b_iald X (st_k3 h0) (st_n3 h0) hz dX4_passHour_58 ?_
        clear hz
        refine b_aload_n X dX4_passHour_59 rfl 1 rfl ?_
        refine g_0_9 X h1 m_f_X4_95 dX4_passHour_60 ?_
        refine b_iload X dX4_passHour_63 5 rfl ?_
        have hz := h.1
        replace h := h.2
        refine b_iald X (co_k5 h1) (co_n5 h1) hz dX4_passHour_65 ?_
        clear hz
        refine b_isub X dX4_passHour_66 ?_
        refine b_iconst (v := (nI 0)) X dX4_passHour_67 (by decide) ?_
        refine b_mmax X ⟨Nat.zero_le _, Nat.zero_le _⟩ m_m_X4_69 m_s_mmax m_n_J9 m_c_mmax (Nat.le_of_ble_eq_true rfl) (Nat.le_of_ble_eq_true rfl) dX4_passHour_68 ?_
        refine b_topi (fun x8 ex8 => ?_)
        replace h := h x8 ex8
        refine b_istore (lv' := [(8, .int x8), (0, .ref (ad b0)), (1, .ref (ad b1)), (2, .ref (ad 38)), (5, .int a5), (6, .int v6), (7, .int v7)]) X dX4_passHour_71 (by decide) rfl ?_
        refine b_aload_n X dX4_passHour_73 rfl 1 rfl ?_
        refine g_4_7 X h0 m_f_X4_35 dX4_passHour_74 ?_
        refine b_iload X dX4_passHour_77 6 rfl ?_
        refine b_dup2 X dX4_passHour_79 rfl rfl ?_
        have hz := h.1
        replace h := h.2
        refine b_iald X (st_k3 h0) (st_n3 h0) hz dX4_passHour_80 ?_
        clear hz
        refine b_iload X dX4_passHour_81 0 rfl ?_
        refine b_isub X dX4_passHour_83 ?_
        have hz := h.1
        replace h := h.2
        refine b_iast X (st_k3 h0) (st_n3 h0) hz dX4_passHour_84 (fun μ9 eμ9 => ?_)
        clear hz
        replace h := h μ9 eμ9
        refine b_aload_n X dX4_passHour_85 rfl 1 rfl ?_
        refine b_aload_n X dX4_passHour_86 rfl 1 rfl ?_
        refine g_4_3 X h0 m_f_X4_22 dX4_passHour_87 ?_
        refine b_iload X dX4_passHour_90 0 rfl ?_
        refine b_iadd X dX4_passHour_92 ?_
        refine bSi (st := [.ref (ad b0)]) (nA := 1) X (c_X4_counted l D C ad ((μ9.1 b0 3) + x8) μ9 _ h) gw_X4_98 hd_X4_counted ⟨Nat.zero_le _, Nat.zero_le _⟩ rfl rfl ⟨Nat.le_of_ble_eq_true rfl, Nat.le_of_ble_eq_true rfl⟩ rfl rfl (Nat.le_of_ble_eq_true rfl) dX4_passHour_93 (fun r10 μ11 h => ?_)
        obtain ⟨rfl, h⟩ := h
        refine p_4_3 X h0 m_f_X4_22 dX4_passHour_96 (fun μ12 eμ12 => ?_)
        replace h := h μ12 eμ12
        refine b_iload X dX4_passHour_99 5 rfl ?_
        refine b_aload_n X dX4_passHour_101 rfl 3 rfl ?_
        refine g_5_0 X kF_38 m_f_X4_92 dX4_passHour_102 ?_
        refine b_iload X dX4_passHour_105 6 rfl ?_
        have hz := h.1
        replace h := h.2
        refine b_iald X kF_39 nF_39 hz dX4_passHour_107 ?_
        clear hz
        refine b_iadd X dX4_passHour_108 ?_
        refine b_topi (fun x13 ex13 => ?_)
        replace h := h x13 ex13
        refine b_istore (lv' := [(6, .int x13), (8, .int x8), (0, .ref (ad b0)), (1, .ref (ad b1)), (2, .ref (ad 38)), (5, .int a5), (7, .int v7)]) X dX4_passHour_109 (by decide) rfl ?_
        obtain ⟨x14, ex14⟩ : ∃ y : Int32, y = v7 + (nI 1) := ⟨_, rfl⟩
        replace h := h x14 ex14
        refine b_iinc (x := x14) (lv' := [(7, .int x14), (6, .int x13), (8, .int x8), (0, .ref (ad b0)), (1, .ref (ad b1)), (2, .ref (ad 38)), (5, .int a5)]) (q := 6) X dX4_passHour_111 rfl (by rw [ex14]; rfl) (by decide) rfl ?_
        refine b_goto (t := 28) X dX4_passHour_114 (by decide) ?_
        refine b_sub (lv' := [(0, .ref (ad b0)), (1, .ref (ad b1)), (2, .ref (ad 38)), (5, .int a5), (6, .int x13), (7, .int x14)]) [3, 4, 5, 6, 1, 0] rfl ?_
        exact T28 x13 x14 μ12 h
    rw [eY] at B28
    exact B28
  refine b_aload_n X dX4_passHour_0 rfl 2 rfl ?_
  refine b_aload_n X dX4_passHour_1 rfl 0 rfl ?_
  refine b_aload_n X dX4_passHour_2 rfl 1 rfl ?_
  refine g_0_0 X h1 m_f_X4_75 dX4_passHour_3 ?_
  refine b_aload_n X dX4_passHour_6 rfl 0 rfl ?_
  refine b_aload_n X dX4_passHour_7 rfl 1 rfl ?_
  refine bVi (st := [.int (μ.1 b1 0), .ref (ad b0), .ref (ad 38)]) (nA := 1) X (c_X4_hanging l D C ad b0 h0 b1 h1 μ _ h) h0 (by decide) (enc_4 h0) rfl gw_X4_78 ⟨rfl, hd_X4_hanging⟩ ⟨Nat.zero_le _, Nat.zero_le _⟩ rfl rfl ⟨Nat.le_of_ble_eq_true rfl, Nat.le_of_ble_eq_true rfl⟩ rfl rfl (Nat.le_of_ble_eq_true rfl) dX4_passHour_8 (fun r1 μ2 h => ?_)
  obtain ⟨rfl, h⟩ := h
  refine b_iload_n X dX4_passHour_11 rfl 3 rfl ?_
  refine b_aload_n X dX4_passHour_12 rfl 0 rfl ?_
  refine b_aload_n X dX4_passHour_13 rfl 1 rfl ?_
  refine b_iload X dX4_passHour_14 4 rfl ?_
  refine bVi (st := [.int a3, .int r1, .int (μ.1 b1 0), .ref (ad b0), .ref (ad 38)]) (nA := 2) X (c_X4_lampedFog l D C ad b0 h0 b1 h1 a4 μ _ h) h0 (by decide) (enc_4 h0) rfl gw_X4_82 ⟨rfl, hd_X4_lampedFog⟩ ⟨Nat.zero_le _, Nat.zero_le _⟩ rfl rfl ⟨Nat.le_of_ble_eq_true rfl, Nat.le_of_ble_eq_true rfl⟩ rfl rfl (Nat.le_of_ble_eq_true rfl) dX4_passHour_16 (fun r3 μ4 h => ?_)
  obtain ⟨rfl, h⟩ := h
  refine bVv (st := []) (nA := 5) X (c_X5_blow l D C ad b0 h0 (μ.1 b1 0) r1 a3 r3 μ _ h) kF_38 (by decide) (enc_5 kF_38) rfl gw_X4_86 ⟨rfl, hd_X5_blow⟩ ⟨Nat.zero_le _, Nat.zero_le _⟩ rfl rfl ⟨Nat.le_of_ble_eq_true rfl, Nat.le_of_ble_eq_true rfl⟩ rfl rfl (Nat.le_of_ble_eq_true rfl) dX4_passHour_19 (fun μ6 h => ?_)
  refine b_iconst (v := (nI 0)) X dX4_passHour_22 (by decide) ?_
  refine b_istore (lv' := [(6, .int (nI 0)), (0, .ref (ad b0)), (1, .ref (ad b1)), (2, .ref (ad 38)), (3, .int a3), (4, .int a4), (5, .int a5)]) X dX4_passHour_23 (by decide) rfl ?_
  refine b_iconst (v := (nI 0)) X dX4_passHour_25 (by decide) ?_
  refine b_istore (lv' := [(7, .int (nI 0)), (6, .int (nI 0)), (0, .ref (ad b0)), (1, .ref (ad b1)), (2, .ref (ad 38)), (3, .int a3), (4, .int a4), (5, .int a5)]) X dX4_passHour_26 (by decide) rfl ?_
  refine b_sub (lv' := [(0, .ref (ad b0)), (1, .ref (ad b1)), (2, .ref (ad 38)), (5, .int a5), (6, .int (nI 0)), (7, .int (nI 0))]) [2, 3, 4, 7, 1, 0] rfl ?_
  exact B28 (nI 0) (nI 0) μ6 h
set_option maxHeartbeats 4000000 in
set_option maxRecDepth 100000 in
theorem c_X5_takerOf (l : Launch) (D : va_G) (C : Nat → ClassId) (ad : Nat → Nat) (a1 : Int32) (μ : Mem) (Q : Int32 → Prop) (h : w_X5_takerOf a1 μ Q) : Mi sF l yX5_takerOf cX5_takerOf 5 (some .int) rm_X5_takerOf D C ad [.ref (ad 38), .int a1] μ (fun r μ' => μ = μ' ∧ Q r) := by
  refine fm_i (by decide +kernel) sF_lt (Nat.le_of_ble_eq_true rfl) (fun K X hret => ?_)
  have X : CK sF D C ad K cX5_takerOf 5 RX5 := X
  refine b_lv (lv' := [(0, .ref (ad 38)), (1, .int a1)]) rfl ?_
  unfold w_X5_takerOf at h
  have B4 : ∀ (v2 : Int32) (v3 : Int32), w_X5_takerOf_4 a1 v2 v3 μ Q → WB sF l D C ad rm_X5_takerOf K 5 μ 4 [(0, .ref (ad 38)), (1, .int a1), (2, .int v2), (3, .int v3)] [] := by
    intro v2 v3 h
    obtain ⟨Y4, eY⟩ : ∃ Y : Int32 → Int32 → Prop, Y = fun (v2 : Int32) (v3 : Int32) => WB sF l D C ad rm_X5_takerOf K 5 μ 4 [(0, .ref (ad 38)), (1, .int a1), (2, .int v2), (3, .int v3)] [] := ⟨_, rfl⟩
    have B4 : Y4 v2 v3 := by
      unfold w_X5_takerOf_4 at h
      refine h Y4 ?_
      clear h
      intro v2 v3 h
      unfold s_X5_takerOf_4 at h
      rw [eY]
      show WB sF l D C ad rm_X5_takerOf K 5 μ 4 [(0, .ref (ad 38)), (1, .int a1), (2, .int v2), (3, .int v3)] []
      have T4 : ∀ (v2 : Int32) (v3 : Int32), Y4 v2 v3 → WB sF l D C ad rm_X5_takerOf K 5 μ 4 [(0, .ref (ad 38)), (1, .int a1), (2, .int v2), (3, .int v3)] [] := by
        intro v2 v3 h
        rw [eY] at h
        exact h
      clear eY
      have B47 : ∀ (v2 : Int32) (v3 : Int32), w_X5_takerOf_47 a1 Y4 v2 v3 μ Q → WB sF l D C ad rm_X5_takerOf K 5 μ 47 [(0, .ref (ad 38)), (1, .int a1), (2, .int v2), (3, .int v3)] [] := by
        intro v2 v3 h
        unfold w_X5_takerOf_47 at h
        obtain ⟨x5, ex5⟩ : ∃ y : Int32, y = v3 + (nI 1) := ⟨_, rfl⟩
        replace h := h x5 ex5
        refine b_iinc (x := x5) (lv' := [(3, .int x5), (0, .ref (ad 38)), (1, .int a1), (2, .int v2)]) (q := 3) X dX5_takerOf_47 rfl (by rw [ex5]; rfl) (by decide) rfl ?_
        refine b_goto (t := 4) X dX5_takerOf_50 (by decide) ?_
        refine b_sub (lv' := [(0, .ref (ad 38)), (1, .int a1), (2, .int v2), (3, .int x5)]) [1, 2, 3, 0] rfl ?_
        exact T4 v2 x5 h
      refine b_iload_n X dX5_takerOf_4 rfl 3 rfl ?_
      refine b_bipush (v := (nI 12)) X dX5_takerOf_5 (by decide) ?_
      refine b_icmp_ge (t := 53) X dX5_takerOf_7 (by decide) (fun c => ?_) (fun c => ?_)
      · replace h := h.1 c
        refine b_iconst (v := ((-1) : Int32)) X dX5_takerOf_53 (by decide) ?_
        exact hret _ _ _ _ ⟨rfl, h⟩ dX5_takerOf_54
      · replace h := h.2 c
        refine b_aload_n X dX5_takerOf_10 rfl 0 rfl ?_
        refine g_5_1 X kF_38 m_f_X5_15 dX5_takerOf_11 ?_
        refine b_iload_n X dX5_takerOf_14 rfl 3 rfl ?_
        have hz := h.1
        replace h := h.2
        refine b_iald X kF_40 nF_40 hz dX5_takerOf_15 ?_
        clear hz
        refine b_topi (fun x1 ex1 => ?_)
        replace h := h x1 ex1
        refine b_istore (lv' := [(4, .int x1), (0, .ref (ad 38)), (1, .int a1), (2, .int v2), (3, .int v3)]) X dX5_takerOf_16 (by decide) rfl ?_
        refine b_iload X dX5_takerOf_18 0 rfl ?_
        refine b_iconst (v := ((-1) : Int32)) X dX5_takerOf_20 (by decide) ?_
        refine b_icmp_ne (t := 27) X dX5_takerOf_21 (by decide) (fun c => ?_) (fun c => ?_)
        · replace h := h.1 c
          refine b_iload_n X dX5_takerOf_27 rfl 3 rfl ?_
          refine b_aload_n X dX5_takerOf_28 rfl 1 rfl ?_
          refine g_5_0 X kF_38 m_f_X5_9 dX5_takerOf_29 ?_
          refine b_iload X dX5_takerOf_32 0 rfl ?_
          refine bNi (st := [.int v2]) (host := "FogNets") (nA := 2) X (c_X6_at l D C ad 39 kF_39 x1 μ _ h) nx_X5_31 m_s_X6_at m_n_X6 m_c_X6_at hd_X6_at ⟨Nat.zero_le _, Nat.zero_le _⟩ rfl rfl ⟨Nat.le_of_ble_eq_true rfl, Nat.le_of_ble_eq_true rfl⟩ rfl rfl (Nat.le_of_ble_eq_true rfl) dX5_takerOf_34 (fun r2 μ3 h => ?_)
          obtain ⟨rfl, h⟩ := h
          refine b_iadd X dX5_takerOf_37 ?_
          refine b_topi (fun x4 ex4 => ?_)
          replace h := h x4 ex4
          refine b_istore_n (lv' := [(2, .int x4), (4, .int x1), (0, .ref (ad 38)), (1, .int a1), (3, .int v3)]) X dX5_takerOf_38 rfl (by decide) rfl ?_
          refine b_iload_n X dX5_takerOf_39 rfl 3 rfl ?_
          refine b_iload_n X dX5_takerOf_40 rfl 0 rfl ?_
          refine b_icmp_ge (t := 47) X dX5_takerOf_41 (by decide) (fun c => ?_) (fun c => ?_)
          · replace h := h.1 c
            refine b_sub (lv' := [(0, .ref (ad 38)), (1, .int a1), (2, .int x4), (3, .int v3)]) [2, 3, 0, 4] rfl ?_
            exact B47 x4 v3 h
          · replace h := h.2 c
            refine b_iload X dX5_takerOf_44 1 rfl ?_
            exact hret _ _ _ _ ⟨rfl, h⟩ dX5_takerOf_46
        · replace h := h.2 c
          refine b_goto (t := 47) X dX5_takerOf_24 (by decide) ?_
          refine b_sub (lv' := [(0, .ref (ad 38)), (1, .int a1), (2, .int v2), (3, .int v3)]) [1, 2, 3, 4] rfl ?_
          exact B47 v2 v3 h
    rw [eY] at B4
    exact B4
  refine b_iconst (v := (nI 0)) X dX5_takerOf_0 (by decide) ?_
  refine b_istore_n (lv' := [(2, .int (nI 0)), (0, .ref (ad 38)), (1, .int a1)]) X dX5_takerOf_1 rfl (by decide) rfl ?_
  refine b_iconst (v := (nI 0)) X dX5_takerOf_2 (by decide) ?_
  refine b_istore_n (lv' := [(3, .int (nI 0)), (2, .int (nI 0)), (0, .ref (ad 38)), (1, .int a1)]) X dX5_takerOf_3 rfl (by decide) rfl ?_
  refine b_sub (lv' := [(0, .ref (ad 38)), (1, .int a1), (2, .int (nI 0)), (3, .int (nI 0))]) [2, 3, 1, 0] rfl ?_
  exact B4 (nI 0) (nI 0) h
set_option maxHeartbeats 4000000 in
set_option maxRecDepth 100000 in
theorem c_X6_feed (l : Launch) (D : va_G) (C : Nat → ClassId) (ad : Nat → Nat) (a1 : Int32) (μ : Mem) (Q : Int32 → Mem → Prop) (h : w_X6_feed a1 μ Q) : Mi sF l yX6_feed cX6_feed 2 (some .int) rm_X6_feed D C ad [.ref (ad 0), .int a1] μ Q := by
  refine fm_i (by decide +kernel) sF_lt (Nat.le_of_ble_eq_true rfl) (fun K X hret => ?_)
  have X : CK sF D C ad K cX6_feed 2 RX6 := X
  refine b_lv (lv' := [(0, .ref (ad 0)), (1, .int a1)]) rfl ?_
  unfold w_X6_feed at h
  refine b_iload_n X dX6_feed_0 rfl 1 rfl ?_
  refine b_iconst (v := (nI 0)) X dX6_feed_1 (by decide) ?_
  refine b_sipush (v := (nI 255)) X dX6_feed_2 (by decide) ?_
  refine bSi (st := []) (nA := 3) X (c_X6_within l D C ad a1 (nI 0) (nI 255) μ _ h) gw_X6_80 hd_X6_within ⟨Nat.zero_le _, Nat.zero_le _⟩ rfl rfl ⟨Nat.le_of_ble_eq_true rfl, Nat.le_of_ble_eq_true rfl⟩ rfl rfl (Nat.le_of_ble_eq_true rfl) dX6_feed_5 (fun r1 μ2 h => ?_)
  obtain ⟨rfl, h⟩ := h
  refine b_if_ne (t := 14) X dX6_feed_8 (by decide) (fun c => ?_) (fun c => ?_)
  · replace h := h.1 c
    refine b_aload_n X dX6_feed_14 rfl 0 rfl ?_
    refine g_6_0 X kF_0 m_f_X6_10 dX6_feed_15 ?_
    refine g_3_1 X kF_1 m_f_X6_85 dX6_feed_18 ?_
    refine b_sipush (v := (nI 240)) X dX6_feed_21 (by decide) ?_
    refine b_icmp_lt (t := 30) X dX6_feed_24 (by decide) (fun c => ?_) (fun c => ?_)
    · replace h := h.1 c
      refine b_aload_n X dX6_feed_30 rfl 0 rfl ?_
      refine g_6_0 X kF_0 m_f_X6_10 dX6_feed_31 ?_
      refine b_iload_n X dX6_feed_34 rfl 1 rfl ?_
      refine bVi (st := []) (nA := 1) X (c_X3_append l D C ad a1 μ _ h) kF_1 (by decide) (enc_3 kF_1) rfl gw_X6_89 ⟨rfl, hd_X3_append⟩ ⟨Nat.zero_le _, Nat.zero_le _⟩ rfl rfl ⟨Nat.le_of_ble_eq_true rfl, Nat.le_of_ble_eq_true rfl⟩ rfl rfl (Nat.le_of_ble_eq_true rfl) dX6_feed_35 (fun r3 μ4 h => ?_)
      exact hret _ _ _ _ h dX6_feed_38
    · replace h := h.2 c
      refine b_ldc (v := ((-1000000004) : Int32)) X m_k_X6_88 dX6_feed_27 ?_
      exact hret _ _ _ _ h dX6_feed_29
  · replace h := h.2 c
    refine b_ldc (v := ((-1000000002) : Int32)) X m_k_X6_84 dX6_feed_11 ?_
    exact hret _ _ _ _ h dX6_feed_13
set_option maxHeartbeats 4000000 in
set_option maxRecDepth 100000 in
theorem c_X6_coast (l : Launch) (D : va_G) (C : Nat → ClassId) (ad : Nat → Nat)  (μ : Mem) (Q : Int32 → Mem → Prop) (h : w_X6_coast  μ Q) : Mi sF l yX6_coast cX6_coast 3 (some .int) rm_X6_coast D C ad [.ref (ad 0)] μ Q := by
  refine fm_i (by decide +kernel) sF_lt (Nat.le_of_ble_eq_true rfl) (fun K X hret => ?_)
  have X : CK sF D C ad K cX6_coast 3 RX6 := X
  refine b_lv (lv' := [(0, .ref (ad 0))]) rfl ?_
  unfold w_X6_coast at h
  refine b_aload_n X dX6_coast_0 rfl 0 rfl ?_
  refine g_6_0 X kF_0 m_f_X6_10 dX6_coast_1 ?_
  refine b_aload_n X dX6_coast_4 rfl 0 rfl ?_
  refine g_6_2 X kF_0 m_f_X6_23 dX6_coast_5 ?_
  refine b_wf (fun hf1 => ?_)
  refine bVi (st := []) (nA := 1) X (c_X3_readAll l D C ad (μ.2.2 1) (hf1 kF_0).2 μ _ h) kF_1 (by decide) (enc_3 kF_1) rfl gw_X6_93 ⟨rfl, hd_X3_readAll⟩ ⟨Nat.zero_le _, Nat.zero_le _⟩ rfl rfl ⟨Nat.le_of_ble_eq_true rfl, Nat.le_of_ble_eq_true rfl⟩ rfl rfl (Nat.le_of_ble_eq_true rfl) dX6_coast_8 (fun r2 μ3 h => ?_)
  refine b_istore_n (lv' := [(1, .int r2), (0, .ref (ad 0))]) X dX6_coast_11 rfl (by decide) rfl ?_
  refine b_iload_n X dX6_coast_12 rfl 0 rfl ?_
  refine b_if_eq (t := 21) X dX6_coast_13 (by decide) (fun c => ?_) (fun c => ?_)
  · replace h := h.1 c
    refine b_aload_n X dX6_coast_21 rfl 1 rfl ?_
    refine g_6_1 X kF_0 m_f_X6_19 dX6_coast_22 ?_
    refine b_wf (fun hf4 => ?_)
    refine b_astore_n (lv' := [(2, .ref (ad (μ3.2.2 0))), (1, .int r2), (0, .ref (ad 0))]) X dX6_coast_25 rfl (by decide) rfl ?_
    refine b_aload_n X dX6_coast_26 rfl 2 rfl ?_
    refine b_aload_n X dX6_coast_27 rfl 2 rfl ?_
    refine g_6_2 X kF_0 m_f_X6_23 dX6_coast_28 ?_
    refine b_wf (fun hf5 => ?_)
    refine p_6_1 X (hf5 kF_0).2 m_f_X6_19 dX6_coast_31 (fun μ6 eμ6 => ?_)
    replace h := h μ6 eμ6
    refine b_aload_n X dX6_coast_34 rfl 2 rfl ?_
    refine b_aload_n X dX6_coast_35 rfl 0 rfl ?_
    refine p_6_2 X (hf4 kF_0).1 m_f_X6_23 dX6_coast_36 (fun μ7 eμ7 => ?_)
    replace h := h μ7 eμ7
    refine b_aload_n X dX6_coast_39 rfl 2 rfl ?_
    refine g_6_3 X kF_0 m_f_X6_29 dX6_coast_40 ?_
    refine b_aload_n X dX6_coast_43 rfl 2 rfl ?_
    refine g_6_1 X kF_0 m_f_X6_19 dX6_coast_44 ?_
    refine b_wf (fun hf8 => ?_)
    refine bVv (st := []) (nA := 1) X (c_X4_begin l D C ad 25 kF_25 (μ7.2.2 0) (hf8 kF_0).1 μ7 _ h) kF_25 (by decide) (enc_4 kF_25) rfl gw_X6_97 ⟨rfl, hd_X4_begin⟩ ⟨Nat.zero_le _, Nat.zero_le _⟩ rfl rfl ⟨Nat.le_of_ble_eq_true rfl, Nat.le_of_ble_eq_true rfl⟩ rfl rfl (Nat.le_of_ble_eq_true rfl) dX6_coast_47 (fun μ10 h => ?_)
    refine b_aload_n X dX6_coast_50 rfl 2 rfl ?_
    refine g_6_7 X kF_0 m_f_X6_50 dX6_coast_51 ?_
    refine b_iconst (v := (nI 0)) X dX6_coast_54 (by decide) ?_
    refine p_2_2 X kF_41 m_f_X6_101 dX6_coast_55 (fun μ11 eμ11 => ?_)
    replace h := h μ11 eμ11
    refine b_aload_n X dX6_coast_58 rfl 2 rfl ?_
    refine g_6_9 X kF_0 m_f_X6_58 dX6_coast_59 ?_
    refine b_iconst (v := (nI 0)) X dX6_coast_62 (by decide) ?_
    refine b_iconst (v := ((-1) : Int32)) X dX6_coast_63 (by decide) ?_
    have hz := h.1
    replace h := h.2
    refine b_iast X kF_236 nF_236 hz dX6_coast_64 (fun μ12 eμ12 => ?_)
    clear hz
    replace h := h μ12 eμ12
    refine b_aload_n X dX6_coast_65 rfl 2 rfl ?_
    refine g_6_9 X kF_0 m_f_X6_58 dX6_coast_66 ?_
    refine b_iconst (v := (nI 1)) X dX6_coast_69 (by decide) ?_
    refine b_iconst (v := ((-1) : Int32)) X dX6_coast_70 (by decide) ?_
    have hz := h.1
    replace h := h.2
    refine b_iast X kF_236 nF_236 hz dX6_coast_71 (fun μ13 eμ13 => ?_)
    clear hz
    replace h := h μ13 eμ13
    refine b_aload_n X dX6_coast_72 rfl 2 rfl ?_
    refine g_6_11 X kF_0 m_f_X6_70 dX6_coast_73 ?_
    refine b_iconst (v := (nI 0)) X dX6_coast_76 (by decide) ?_
    refine p_1_3 X kF_237 m_f_X6_104 dX6_coast_77 (fun μ14 eμ14 => ?_)
    replace h := h μ14 eμ14
    refine b_aload_n X dX6_coast_80 rfl 2 rfl ?_
    refine g_6_12 X kF_0 m_f_X6_74 dX6_coast_81 ?_
    refine b_iconst (v := (nI 0)) X dX6_coast_84 (by decide) ?_
    refine p_1_3 X kF_241 m_f_X6_104 dX6_coast_85 (fun μ15 eμ15 => ?_)
    replace h := h μ15 eμ15
    refine b_aload_n X dX6_coast_88 rfl 2 rfl ?_
    refine g_6_1 X kF_0 m_f_X6_19 dX6_coast_89 ?_
    refine b_wf (fun hf16 => ?_)
    refine g_0_3 X (hf16 kF_0).1 m_f_X6_105 dX6_coast_92 ?_
    exact hret _ _ _ _ h dX6_coast_95
  · replace h := h.2 c
    refine b_bipush (v := ((-10) : Int32)) X dX6_coast_16 (by decide) ?_
    refine b_iload_n X dX6_coast_18 rfl 0 rfl ?_
    refine b_isub X dX6_coast_19 ?_
    exact hret _ _ _ _ h dX6_coast_20
set_option maxHeartbeats 4000000 in
set_option maxRecDepth 100000 in
theorem c_X6_fault (l : Launch) (D : va_G) (C : Nat → ClassId) (ad : Nat → Nat)  (μ : Mem) (Q : Int32 → Prop) (h : w_X6_fault  μ Q) : Mi sF l yX6_fault cX6_fault 1 (some .int) rm_X6_fault D C ad [.ref (ad 0)] μ (fun r μ' => μ = μ' ∧ Q r) := by
  refine fm_i (by decide +kernel) sF_lt (Nat.le_of_ble_eq_true rfl) (fun K X hret => ?_)
  have X : CK sF D C ad K cX6_fault 1 RX6 := X
  refine b_lv (lv' := [(0, .ref (ad 0))]) rfl ?_
  unfold w_X6_fault at h
  refine b_aload_n X dX6_fault_0 rfl 0 rfl ?_
  refine g_6_0 X kF_0 m_f_X6_10 dX6_fault_1 ?_
  refine g_3_5 X kF_1 m_f_X6_108 dX6_fault_4 ?_
  exact hret _ _ _ _ ⟨rfl, h⟩ dX6_fault_7
set_option maxHeartbeats 4000000 in
set_option maxRecDepth 100000 in
theorem c_X6_told (l : Launch) (D : va_G) (C : Nat → ClassId) (ad : Nat → Nat) (a1 : Int32) (μ : Mem) (Q : Int32 → Prop) (h : w_X6_told a1 μ Q) : Mi sF l yX6_told cX6_told 2 (some .int) rm_X6_told D C ad [.ref (ad 0), .int a1] μ (fun r μ' => μ = μ' ∧ Q r) := by
  refine fm_i (by decide +kernel) sF_lt (Nat.le_of_ble_eq_true rfl) (fun K X hret => ?_)
  have X : CK sF D C ad K cX6_told 2 RX6 := X
  refine b_lv (lv' := [(0, .ref (ad 0)), (1, .int a1)]) rfl ?_
  unfold w_X6_told at h
  refine b_iload_n X dX6_told_0 rfl 1 rfl ?_
  by_cases c0 : a1 = (nI 0)
  · replace h := h.1 c0
    refine b_tsIn (v := (nI 0)) (j := 0) (t := 80) X dX6_told_1 c0 (by decide) (by decide) (by decide) rfl (by decide) ?_
    refine b_aload_n X dX6_told_80 rfl 0 rfl ?_
    refine g_6_1 X kF_0 m_f_X6_19 dX6_told_81 ?_
    refine b_wf (fun hf1 => ?_)
    refine g_0_0 X (hf1 kF_0).1 m_f_X6_111 dX6_told_84 ?_
    exact hret _ _ _ _ ⟨rfl, h⟩ dX6_told_87
  replace h := h.2 c0
  by_cases c1 : a1 = (nI 1)
  · replace h := h.1 c1
    refine b_tsIn (v := (nI 1)) (j := 1) (t := 88) X dX6_told_1 c1 (by decide) (by decide) (by decide) rfl (by decide) ?_
    refine b_aload_n X dX6_told_88 rfl 0 rfl ?_
    refine g_6_1 X kF_0 m_f_X6_19 dX6_told_89 ?_
    refine b_wf (fun hf2 => ?_)
    refine g_0_1 X (hf2 kF_0).1 m_f_X6_114 dX6_told_92 ?_
    exact hret _ _ _ _ ⟨rfl, h⟩ dX6_told_95
  replace h := h.2 c1
  by_cases c2 : a1 = (nI 2)
  · replace h := h.1 c2
    refine b_tsIn (v := (nI 2)) (j := 2) (t := 96) X dX6_told_1 c2 (by decide) (by decide) (by decide) rfl (by decide) ?_
    refine b_aload_n X dX6_told_96 rfl 0 rfl ?_
    refine g_6_1 X kF_0 m_f_X6_19 dX6_told_97 ?_
    refine b_wf (fun hf3 => ?_)
    refine bVi (st := []) (nA := 0) X (c_X0_hoursOfDay l D C ad (μ.2.2 0) (hf3 kF_0).1 μ _ h) (hf3 kF_0).1 (by decide) (enc_0 (hf3 kF_0).1) rfl gw_X6_117 ⟨rfl, hd_X0_hoursOfDay⟩ ⟨Nat.zero_le _, Nat.zero_le _⟩ rfl rfl ⟨Nat.le_of_ble_eq_true rfl, Nat.le_of_ble_eq_true rfl⟩ rfl rfl (Nat.le_of_ble_eq_true rfl) dX6_told_100 (fun r4 μ5 h => ?_)
    obtain ⟨rfl, h⟩ := h
    exact hret _ _ _ _ ⟨rfl, h⟩ dX6_told_103
  replace h := h.2 c2
  by_cases c3 : a1 = (nI 3)
  · replace h := h.1 c3
    refine b_tsIn (v := (nI 3)) (j := 3) (t := 104) X dX6_told_1 c3 (by decide) (by decide) (by decide) rfl (by decide) ?_
    refine b_aload_n X dX6_told_104 rfl 0 rfl ?_
    refine g_6_1 X kF_0 m_f_X6_19 dX6_told_105 ?_
    refine b_wf (fun hf6 => ?_)
    refine g_0_3 X (hf6 kF_0).1 m_f_X6_105 dX6_told_108 ?_
    exact hret _ _ _ _ ⟨rfl, h⟩ dX6_told_111
  replace h := h.2 c3
  by_cases c4 : a1 = (nI 4)
  · replace h := h.1 c4
    refine b_tsIn (v := (nI 4)) (j := 4) (t := 112) X dX6_told_1 c4 (by decide) (by decide) (by decide) rfl (by decide) ?_
    refine b_aload_n X dX6_told_112 rfl 0 rfl ?_
    refine g_6_1 X kF_0 m_f_X6_19 dX6_told_113 ?_
    refine b_wf (fun hf7 => ?_)
    refine g_0_4 X (hf7 kF_0).1 m_f_X6_121 dX6_told_116 ?_
    exact hret _ _ _ _ ⟨rfl, h⟩ dX6_told_119
  replace h := h.2 c4
  by_cases c5 : a1 = (nI 5)
  · replace h := h.1 c5
    refine b_tsIn (v := (nI 5)) (j := 5) (t := 120) X dX6_told_1 c5 (by decide) (by decide) (by decide) rfl (by decide) ?_
    refine b_aload_n X dX6_told_120 rfl 0 rfl ?_
    refine g_6_0 X kF_0 m_f_X6_10 dX6_told_121 ?_
    refine g_3_1 X kF_1 m_f_X6_85 dX6_told_124 ?_
    exact hret _ _ _ _ ⟨rfl, h⟩ dX6_told_127
  replace h := h.2 c5
  by_cases c6 : a1 = (nI 6)
  · replace h := h.1 c6
    refine b_tsIn (v := (nI 6)) (j := 6) (t := 128) X dX6_told_1 c6 (by decide) (by decide) (by decide) rfl (by decide) ?_
    refine b_aload_n X dX6_told_128 rfl 0 rfl ?_
    refine g_6_3 X kF_0 m_f_X6_29 dX6_told_129 ?_
    refine g_4_0 X kF_25 m_f_X6_124 dX6_told_132 ?_
    exact hret _ _ _ _ ⟨rfl, h⟩ dX6_told_135
  replace h := h.2 c6
  by_cases c7 : a1 = (nI 7)
  · replace h := h.1 c7
    refine b_tsIn (v := (nI 7)) (j := 7) (t := 136) X dX6_told_1 c7 (by decide) (by decide) (by decide) rfl (by decide) ?_
    refine b_aload_n X dX6_told_136 rfl 0 rfl ?_
    refine g_6_3 X kF_0 m_f_X6_29 dX6_told_137 ?_
    refine g_4_1 X kF_25 m_f_X6_127 dX6_told_140 ?_
    exact hret _ _ _ _ ⟨rfl, h⟩ dX6_told_143
  replace h := h.2 c7
  by_cases c8 : a1 = (nI 8)
  · replace h := h.1 c8
    refine b_tsIn (v := (nI 8)) (j := 8) (t := 144) X dX6_told_1 c8 (by decide) (by decide) (by decide) rfl (by decide) ?_
    refine b_aload_n X dX6_told_144 rfl 0 rfl ?_
    refine g_6_3 X kF_0 m_f_X6_29 dX6_told_145 ?_
    refine g_4_2 X kF_25 m_f_X6_130 dX6_told_148 ?_
    refine b_if_eq (t := 158) X dX6_told_151 (by decide) (fun c => ?_) (fun c => ?_)
    · replace h := h.1 c
      refine b_iconst (v := (nI 0)) X dX6_told_158 (by decide) ?_
      exact hret _ _ _ _ ⟨rfl, h⟩ dX6_told_159
    · replace h := h.2 c
      refine b_iconst (v := (nI 1)) X dX6_told_154 (by decide) ?_
      refine b_goto (t := 159) X dX6_told_155 (by decide) ?_
      exact hret _ _ _ _ ⟨rfl, h⟩ dX6_told_159
  replace h := h.2 c8
  by_cases c9 : a1 = (nI 9)
  · replace h := h.1 c9
    refine b_tsIn (v := (nI 9)) (j := 9) (t := 160) X dX6_told_1 c9 (by decide) (by decide) (by decide) rfl (by decide) ?_
    refine b_aload_n X dX6_told_160 rfl 0 rfl ?_
    refine g_6_3 X kF_0 m_f_X6_29 dX6_told_161 ?_
    refine b_aload_n X dX6_told_164 rfl 0 rfl ?_
    refine g_6_1 X kF_0 m_f_X6_19 dX6_told_165 ?_
    refine b_wf (fun hf8 => ?_)
    refine bVi (st := []) (nA := 1) X (c_X4_hanging l D C ad 25 kF_25 (μ.2.2 0) (hf8 kF_0).1 μ _ h) kF_25 (by decide) (enc_4 kF_25) rfl gw_X6_134 ⟨rfl, hd_X4_hanging⟩ ⟨Nat.zero_le _, Nat.zero_le _⟩ rfl rfl ⟨Nat.le_of_ble_eq_true rfl, Nat.le_of_ble_eq_true rfl⟩ rfl rfl (Nat.le_of_ble_eq_true rfl) dX6_told_168 (fun r9 μ10 h => ?_)
    obtain ⟨rfl, h⟩ := h
    exact hret _ _ _ _ ⟨rfl, h⟩ dX6_told_171
  replace h := h.2 c9
  by_cases c10 : a1 = (nI 10)
  · replace h := h.1 c10
    refine b_tsIn (v := (nI 10)) (j := 10) (t := 172) X dX6_told_1 c10 (by decide) (by decide) (by decide) rfl (by decide) ?_
    refine b_aload_n X dX6_told_172 rfl 0 rfl ?_
    refine g_6_3 X kF_0 m_f_X6_29 dX6_told_173 ?_
    refine bVi (st := []) (nA := 0) X (c_X4_inJars l D C ad 25 kF_25 μ _ h) kF_25 (by decide) (enc_4 kF_25) rfl gw_X6_137 ⟨rfl, hd_X4_inJars⟩ ⟨Nat.zero_le _, Nat.zero_le _⟩ rfl rfl ⟨Nat.le_of_ble_eq_true rfl, Nat.le_of_ble_eq_true rfl⟩ rfl rfl (Nat.le_of_ble_eq_true rfl) dX6_told_176 (fun r11 μ12 h => ?_)
    obtain ⟨rfl, h⟩ := h
    exact hret _ _ _ _ ⟨rfl, h⟩ dX6_told_179
  replace h := h.2 c10
  by_cases c11 : a1 = (nI 11)
  · replace h := h.1 c11
    refine b_tsIn (v := (nI 11)) (j := 11) (t := 180) X dX6_told_1 c11 (by decide) (by decide) (by decide) rfl (by decide) ?_
    refine b_aload_n X dX6_told_180 rfl 0 rfl ?_
    refine g_6_3 X kF_0 m_f_X6_29 dX6_told_181 ?_
    refine g_4_3 X kF_25 m_f_X6_140 dX6_told_184 ?_
    exact hret _ _ _ _ ⟨rfl, h⟩ dX6_told_187
  replace h := h.2 c11
  by_cases c12 : a1 = (nI 12)
  · replace h := h.1 c12
    refine b_tsIn (v := (nI 12)) (j := 12) (t := 188) X dX6_told_1 c12 (by decide) (by decide) (by decide) rfl (by decide) ?_
    refine b_aload_n X dX6_told_188 rfl 0 rfl ?_
    refine g_6_3 X kF_0 m_f_X6_29 dX6_told_189 ?_
    refine g_4_4 X kF_25 m_f_X6_143 dX6_told_192 ?_
    exact hret _ _ _ _ ⟨rfl, h⟩ dX6_told_195
  replace h := h.2 c12
  by_cases c13 : a1 = (nI 13)
  · replace h := h.1 c13
    refine b_tsIn (v := (nI 13)) (j := 13) (t := 196) X dX6_told_1 c13 (by decide) (by decide) (by decide) rfl (by decide) ?_
    refine b_aload_n X dX6_told_196 rfl 0 rfl ?_
    refine g_6_11 X kF_0 m_f_X6_70 dX6_told_197 ?_
    refine g_1_3 X kF_237 m_f_X6_104 dX6_told_200 ?_
    exact hret _ _ _ _ ⟨rfl, h⟩ dX6_told_203
  replace h := h.2 c13
  by_cases c14 : a1 = (nI 14)
  · replace h := h.1 c14
    refine b_tsIn (v := (nI 14)) (j := 14) (t := 204) X dX6_told_1 c14 (by decide) (by decide) (by decide) rfl (by decide) ?_
    refine b_aload_n X dX6_told_204 rfl 0 rfl ?_
    refine g_6_12 X kF_0 m_f_X6_74 dX6_told_205 ?_
    refine g_1_3 X kF_241 m_f_X6_104 dX6_told_208 ?_
    exact hret _ _ _ _ ⟨rfl, h⟩ dX6_told_211
  replace h := h.2 c14
  by_cases c15 : a1 = (nI 15)
  · replace h := h.1 c15
    refine b_tsIn (v := (nI 15)) (j := 15) (t := 212) X dX6_told_1 c15 (by decide) (by decide) (by decide) rfl (by decide) ?_
    refine b_aload_n X dX6_told_212 rfl 0 rfl ?_
    refine g_6_7 X kF_0 m_f_X6_50 dX6_told_213 ?_
    refine g_2_2 X kF_41 m_f_X6_101 dX6_told_216 ?_
    exact hret _ _ _ _ ⟨rfl, h⟩ dX6_told_219
  replace h := h.2 c15
  have e0 := i32ne (j := 0) c0 (by decide)
  have e1 := i32ne (j := 1) c1 (by decide)
  have e2 := i32ne (j := 2) c2 (by decide)
  have e3 := i32ne (j := 3) c3 (by decide)
  have e4 := i32ne (j := 4) c4 (by decide)
  have e5 := i32ne (j := 5) c5 (by decide)
  have e6 := i32ne (j := 6) c6 (by decide)
  have e7 := i32ne (j := 7) c7 (by decide)
  have e8 := i32ne (j := 8) c8 (by decide)
  have e9 := i32ne (j := 9) c9 (by decide)
  have e10 := i32ne (j := 10) c10 (by decide)
  have e11 := i32ne (j := 11) c11 (by decide)
  have e12 := i32ne (j := 12) c12 (by decide)
  have e13 := i32ne (j := 13) c13 (by decide)
  have e14 := i32ne (j := 14) c14 (by decide)
  have e15 := i32ne (j := 15) c15 (by decide)
  refine b_tsOut (t := 220) X dX6_told_1 (by omega) (by decide) ?_
  refine b_ldc (v := ((-1000000002) : Int32)) X m_k_X6_84 dX6_told_220 ?_
  exact hret _ _ _ _ ⟨rfl, h⟩ dX6_told_222
set_option maxHeartbeats 4000000 in
set_option maxRecDepth 100000 in
theorem c_X6_isPost (l : Launch) (D : va_G) (C : Nat → ClassId) (ad : Nat → Nat) (a1 : Int32) (μ : Mem) (Q : Int32 → Prop) (h : w_X6_isPost a1 μ Q) : Mi sF l yX6_isPost cX6_isPost 2 (some .boolean) rm_X6_isPost D C ad [.ref (ad 0), .int a1] μ (fun r μ' => μ = μ' ∧ Q r) := by
  refine fm_z (by decide +kernel) sF_lt (Nat.le_of_ble_eq_true rfl) (fun K X hret => ?_)
  have X : CK sF D C ad K cX6_isPost 2 RX6 := X
  refine b_lv (lv' := [(0, .ref (ad 0)), (1, .int a1)]) rfl ?_
  unfold w_X6_isPost at h
  refine b_iload_n X dX6_isPost_0 rfl 1 rfl ?_
  refine b_iconst (v := (nI 0)) X dX6_isPost_1 (by decide) ?_
  refine b_aload_n X dX6_isPost_2 rfl 0 rfl ?_
  refine g_6_1 X kF_0 m_f_X6_19 dX6_isPost_3 ?_
  refine b_wf (fun hf1 => ?_)
  refine g_0_3 X (hf1 kF_0).1 m_f_X6_105 dX6_isPost_6 ?_
  refine b_iconst (v := (nI 1)) X dX6_isPost_9 (by decide) ?_
  refine b_isub X dX6_isPost_10 ?_
  refine bSi (st := []) (nA := 3) X (c_X6_within l D C ad a1 (nI 0) ((μ.1 (μ.2.2 0) 3) - (nI 1)) μ _ h) gw_X6_80 hd_X6_within ⟨Nat.zero_le _, Nat.zero_le _⟩ rfl rfl ⟨Nat.le_of_ble_eq_true rfl, Nat.le_of_ble_eq_true rfl⟩ rfl rfl (Nat.le_of_ble_eq_true rfl) dX6_isPost_11 (fun r2 μ3 h => ?_)
  obtain ⟨rfl, h⟩ := h
  exact hret _ _ _ _ ⟨h.1, rfl, h.2⟩ dX6_isPost_14
set_option maxHeartbeats 4000000 in
set_option maxRecDepth 100000 in
theorem c_X6_post (l : Launch) (D : va_G) (C : Nat → ClassId) (ad : Nat → Nat) (a1 : Int32) (a2 : Int32) (μ : Mem) (Q : Int32 → Prop) (h : w_X6_post a1 a2 μ Q) : Mi sF l yX6_post cX6_post 3 (some .int) rm_X6_post D C ad [.ref (ad 0), .int a1, .int a2] μ (fun r μ' => μ = μ' ∧ Q r) := by
  refine fm_i (by decide +kernel) sF_lt (Nat.le_of_ble_eq_true rfl) (fun K X hret => ?_)
  have X : CK sF D C ad K cX6_post 3 RX6 := X
  refine b_lv (lv' := [(0, .ref (ad 0)), (1, .int a1), (2, .int a2)]) rfl ?_
  unfold w_X6_post at h
  refine b_aload_n X dX6_post_0 rfl 0 rfl ?_
  refine b_iload_n X dX6_post_1 rfl 1 rfl ?_
  refine bVi (st := []) (nA := 1) X (c_X6_isPost l D C ad a1 μ _ h) kF_0 (by decide) (enc_6 kF_0) rfl gw_X6_146 ⟨rfl, hd_X6_isPost⟩ ⟨Nat.zero_le _, Nat.zero_le _⟩ rfl rfl ⟨Nat.le_of_ble_eq_true rfl, Nat.le_of_ble_eq_true rfl⟩ rfl rfl (Nat.le_of_ble_eq_true rfl) dX6_post_2 (fun r1 μ2 h => ?_)
  obtain ⟨rfl, h⟩ := h
  refine b_if_ne (t := 11) X dX6_post_5 (by decide) (fun c => ?_) (fun c => ?_)
  · replace h := h.1 c
    refine b_iload_n X dX6_post_11 rfl 2 rfl ?_
    by_cases c0 : a2 = (nI 0)
    · replace h := h.1 c0
      refine b_tsIn (v := (nI 0)) (j := 0) (t := 48) X dX6_post_12 c0 (by decide) (by decide) (by decide) rfl (by decide) ?_
      refine b_aload_n X dX6_post_48 rfl 0 rfl ?_
      refine g_6_3 X kF_0 m_f_X6_29 dX6_post_49 ?_
      refine g_4_5 X kF_25 m_f_X6_151 dX6_post_52 ?_
      refine b_iload_n X dX6_post_55 rfl 1 rfl ?_
      refine bSi (st := []) (nA := 2) X (c_X6_at l D C ad (25 + 1) (st_k1 kF_25) a1 μ _ h) gw_X6_154 hd_X6_at ⟨Nat.zero_le _, Nat.zero_le _⟩ rfl rfl ⟨Nat.le_of_ble_eq_true rfl, Nat.le_of_ble_eq_true rfl⟩ rfl rfl (Nat.le_of_ble_eq_true rfl) dX6_post_56 (fun r3 μ4 h => ?_)
      obtain ⟨rfl, h⟩ := h
      exact hret _ _ _ _ ⟨rfl, h⟩ dX6_post_59
    replace h := h.2 c0
    by_cases c1 : a2 = (nI 1)
    · replace h := h.1 c1
      refine b_tsIn (v := (nI 1)) (j := 1) (t := 60) X dX6_post_12 c1 (by decide) (by decide) (by decide) rfl (by decide) ?_
      refine b_aload_n X dX6_post_60 rfl 0 rfl ?_
      refine g_6_3 X kF_0 m_f_X6_29 dX6_post_61 ?_
      refine g_4_6 X kF_25 m_f_X6_158 dX6_post_64 ?_
      refine b_iload_n X dX6_post_67 rfl 1 rfl ?_
      refine bSi (st := []) (nA := 2) X (c_X6_at l D C ad (25 + 2) (st_k2 kF_25) a1 μ _ h) gw_X6_154 hd_X6_at ⟨Nat.zero_le _, Nat.zero_le _⟩ rfl rfl ⟨Nat.le_of_ble_eq_true rfl, Nat.le_of_ble_eq_true rfl⟩ rfl rfl (Nat.le_of_ble_eq_true rfl) dX6_post_68 (fun r5 μ6 h => ?_)
      obtain ⟨rfl, h⟩ := h
      exact hret _ _ _ _ ⟨rfl, h⟩ dX6_post_71
    replace h := h.2 c1
    by_cases c2 : a2 = (nI 2)
    · replace h := h.1 c2
      refine b_tsIn (v := (nI 2)) (j := 2) (t := 72) X dX6_post_12 c2 (by decide) (by decide) (by decide) rfl (by decide) ?_
      refine b_aload_n X dX6_post_72 rfl 0 rfl ?_
      refine g_6_1 X kF_0 m_f_X6_19 dX6_post_73 ?_
      refine b_wf (fun hf7 => ?_)
      refine g_0_9 X (hf7 kF_0).1 m_f_X6_161 dX6_post_76 ?_
      refine b_iload_n X dX6_post_79 rfl 1 rfl ?_
      refine bSi (st := []) (nA := 2) X (c_X6_at l D C ad ((μ.2.2 0) + 5) (co_k5 (hf7 kF_0).1) a1 μ _ h) gw_X6_154 hd_X6_at ⟨Nat.zero_le _, Nat.zero_le _⟩ rfl rfl ⟨Nat.le_of_ble_eq_true rfl, Nat.le_of_ble_eq_true rfl⟩ rfl rfl (Nat.le_of_ble_eq_true rfl) dX6_post_80 (fun r8 μ9 h => ?_)
      obtain ⟨rfl, h⟩ := h
      exact hret _ _ _ _ ⟨rfl, h⟩ dX6_post_83
    replace h := h.2 c2
    by_cases c3 : a2 = (nI 3)
    · replace h := h.1 c3
      refine b_tsIn (v := (nI 3)) (j := 3) (t := 84) X dX6_post_12 c3 (by decide) (by decide) (by decide) rfl (by decide) ?_
      refine b_aload_n X dX6_post_84 rfl 0 rfl ?_
      refine g_6_1 X kF_0 m_f_X6_19 dX6_post_85 ?_
      refine b_wf (fun hf10 => ?_)
      refine g_0_10 X (hf10 kF_0).1 m_f_X6_164 dX6_post_88 ?_
      refine b_iload_n X dX6_post_91 rfl 1 rfl ?_
      refine bSi (st := []) (nA := 2) X (c_X6_at l D C ad ((μ.2.2 0) + 6) (co_k6 (hf10 kF_0).1) a1 μ _ h) gw_X6_154 hd_X6_at ⟨Nat.zero_le _, Nat.zero_le _⟩ rfl rfl ⟨Nat.le_of_ble_eq_true rfl, Nat.le_of_ble_eq_true rfl⟩ rfl rfl (Nat.le_of_ble_eq_true rfl) dX6_post_92 (fun r11 μ12 h => ?_)
      obtain ⟨rfl, h⟩ := h
      exact hret _ _ _ _ ⟨rfl, h⟩ dX6_post_95
    replace h := h.2 c3
    by_cases c4 : a2 = (nI 4)
    · replace h := h.1 c4
      refine b_tsIn (v := (nI 4)) (j := 4) (t := 96) X dX6_post_12 c4 (by decide) (by decide) (by decide) rfl (by decide) ?_
      refine b_aload_n X dX6_post_96 rfl 0 rfl ?_
      refine g_6_3 X kF_0 m_f_X6_29 dX6_post_97 ?_
      refine g_4_7 X kF_25 m_f_X6_167 dX6_post_100 ?_
      refine b_iload_n X dX6_post_103 rfl 1 rfl ?_
      refine bSi (st := []) (nA := 2) X (c_X6_at l D C ad (25 + 3) (st_k3 kF_25) a1 μ _ h) gw_X6_154 hd_X6_at ⟨Nat.zero_le _, Nat.zero_le _⟩ rfl rfl ⟨Nat.le_of_ble_eq_true rfl, Nat.le_of_ble_eq_true rfl⟩ rfl rfl (Nat.le_of_ble_eq_true rfl) dX6_post_104 (fun r13 μ14 h => ?_)
      obtain ⟨rfl, h⟩ := h
      exact hret _ _ _ _ ⟨rfl, h⟩ dX6_post_107
    replace h := h.2 c4
    have e0 := i32ne (j := 0) c0 (by decide)
    have e1 := i32ne (j := 1) c1 (by decide)
    have e2 := i32ne (j := 2) c2 (by decide)
    have e3 := i32ne (j := 3) c3 (by decide)
    have e4 := i32ne (j := 4) c4 (by decide)
    refine b_tsOut (t := 108) X dX6_post_12 (by omega) (by decide) ?_
    refine b_ldc (v := ((-1000000002) : Int32)) X m_k_X6_84 dX6_post_108 ?_
    exact hret _ _ _ _ ⟨rfl, h⟩ dX6_post_110
  · replace h := h.2 c
    refine b_ldc (v := ((-1000000001) : Int32)) X m_k_X6_150 dX6_post_8 ?_
    exact hret _ _ _ _ ⟨rfl, h⟩ dX6_post_10
set_option maxHeartbeats 4000000 in
set_option maxRecDepth 100000 in
theorem c_X6_isBare (l : Launch) (D : va_G) (C : Nat → ClassId) (ad : Nat → Nat)  (μ : Mem) (Q : Int32 → Prop) (h : w_X6_isBare  μ Q) : Mi sF l yX6_isBare cX6_isBare 1 (some .boolean) rm_X6_isBare D C ad [.ref (ad 0)] μ (fun r μ' => μ = μ' ∧ Q r) := by
  refine fm_z (by decide +kernel) sF_lt (Nat.le_of_ble_eq_true rfl) (fun K X hret => ?_)
  have X : CK sF D C ad K cX6_isBare 1 RX6 := X
  refine b_lv (lv' := [(0, .ref (ad 0))]) rfl ?_
  unfold w_X6_isBare at h
  refine b_aload_n X dX6_isBare_0 rfl 0 rfl ?_
  refine g_6_1 X kF_0 m_f_X6_19 dX6_isBare_1 ?_
  refine b_wf (fun hf1 => ?_)
  refine g_0_0 X (hf1 kF_0).1 m_f_X6_111 dX6_isBare_4 ?_
  refine b_if_ne (t := 14) X dX6_isBare_7 (by decide) (fun c => ?_) (fun c => ?_)
  · replace h := h.1 c
    refine b_iconst (v := (nI 0)) X dX6_isBare_14 (by decide) ?_
    exact hret _ _ _ _ ⟨(Or.inl rfl), rfl, h⟩ dX6_isBare_15
  · replace h := h.2 c
    refine b_iconst (v := (nI 1)) X dX6_isBare_10 (by decide) ?_
    refine b_goto (t := 15) X dX6_isBare_11 (by decide) ?_
    exact hret _ _ _ _ ⟨(Or.inr rfl), rfl, h⟩ dX6_isBare_15
set_option maxHeartbeats 4000000 in
set_option maxRecDepth 100000 in
theorem c_X6_fog (l : Launch) (D : va_G) (C : Nat → ClassId) (ad : Nat → Nat) (a1 : Int32) (a2 : Int32) (μ : Mem) (Q : Int32 → Prop) (h : w_X6_fog a1 a2 μ Q) : Mi sF l yX6_fog cX6_fog 4 (some .int) rm_X6_fog D C ad [.ref (ad 0), .int a1, .int a2] μ (fun r μ' => μ = μ' ∧ Q r) := by
  refine fm_i (by decide +kernel) sF_lt (Nat.le_of_ble_eq_true rfl) (fun K X hret => ?_)
  have X : CK sF D C ad K cX6_fog 4 RX6 := X
  refine b_lv (lv' := [(0, .ref (ad 0)), (1, .int a1), (2, .int a2)]) rfl ?_
  unfold w_X6_fog at h
  have B25 : w_X6_fog_25 a1 a2 μ Q → WB sF l D C ad rm_X6_fog K 4 μ 25 [(0, .ref (ad 0)), (1, .int a1), (2, .int a2)] [] := by
    intro  h
    unfold w_X6_fog_25 at h
    have B52 : w_X6_fog_52 a1 a2 μ Q → WB sF l D C ad rm_X6_fog K 4 μ 52 [(0, .ref (ad 0)), (1, .int a1), (2, .int a2)] [] := by
      intro  h
      unfold w_X6_fog_52 at h
      have B68 : ∀ (s1 : Int32), w_X6_fog_68 a1 a2 s1 μ Q → WB sF l D C ad rm_X6_fog K 4 μ 68 [(0, .ref (ad 0)), (2, .int a2)] [.int s1] := by
        intro s1 h
        unfold w_X6_fog_68 at h
        refine b_istore_n (lv' := [(3, .int s1), (0, .ref (ad 0)), (2, .int a2)]) X dX6_fog_68 rfl (by decide) rfl ?_
        refine b_iload_n X dX6_fog_69 rfl 2 rfl ?_
        refine b_if_ne (t := 84) X dX6_fog_70 (by decide) (fun c => ?_) (fun c => ?_)
        · replace h := h.1 c
          refine b_aload_n X dX6_fog_84 rfl 1 rfl ?_
          refine g_6_1 X kF_0 m_f_X6_19 dX6_fog_85 ?_
          refine b_wf (fun hf8 => ?_)
          refine b_iload_n X dX6_fog_88 rfl 0 rfl ?_
          refine bVi (st := []) (nA := 1) X (c_X0_fogAt l D C ad (μ.2.2 0) (hf8 kF_0).1 s1 μ _ h) (hf8 kF_0).1 (by decide) (enc_0 (hf8 kF_0).1) rfl gw_X6_181 ⟨rfl, hd_X0_fogAt⟩ ⟨Nat.zero_le _, Nat.zero_le _⟩ rfl rfl ⟨Nat.le_of_ble_eq_true rfl, Nat.le_of_ble_eq_true rfl⟩ rfl rfl (Nat.le_of_ble_eq_true rfl) dX6_fog_89 (fun r9 μ10 h => ?_)
          obtain ⟨rfl, h⟩ := h
          exact hret _ _ _ _ ⟨rfl, h⟩ dX6_fog_92
        · replace h := h.2 c
          refine b_aload_n X dX6_fog_73 rfl 1 rfl ?_
          refine g_6_1 X kF_0 m_f_X6_19 dX6_fog_74 ?_
          refine b_wf (fun hf11 => ?_)
          refine b_iload_n X dX6_fog_77 rfl 0 rfl ?_
          refine bVi (st := []) (nA := 1) X (c_X0_sideAt l D C ad (μ.2.2 0) (hf11 kF_0).1 s1 μ _ h) (hf11 kF_0).1 (by decide) (enc_0 (hf11 kF_0).1) rfl gw_X6_178 ⟨rfl, hd_X0_sideAt⟩ ⟨Nat.zero_le _, Nat.zero_le _⟩ rfl rfl ⟨Nat.le_of_ble_eq_true rfl, Nat.le_of_ble_eq_true rfl⟩ rfl rfl (Nat.le_of_ble_eq_true rfl) dX6_fog_78 (fun r12 μ13 h => ?_)
          obtain ⟨rfl, h⟩ := h
          refine b_goto (t := 92) X dX6_fog_81 (by decide) ?_
          exact hret _ _ _ _ ⟨rfl, h⟩ dX6_fog_92
      refine b_iload_n X dX6_fog_52 rfl 1 rfl ?_
      refine b_iconst (v := ((-1) : Int32)) X dX6_fog_53 (by decide) ?_
      refine b_icmp_ne (t := 67) X dX6_fog_54 (by decide) (fun c => ?_) (fun c => ?_)
      · replace h := h.1 c
        refine b_iload_n X dX6_fog_67 rfl 1 rfl ?_
        refine b_sub (lv' := [(0, .ref (ad 0)), (2, .int a2)]) [0, 2] rfl ?_
        exact B68 a1 h
      · replace h := h.2 c
        refine b_aload_n X dX6_fog_57 rfl 0 rfl ?_
        refine g_6_3 X kF_0 m_f_X6_29 dX6_fog_58 ?_
        refine g_4_1 X kF_25 m_f_X6_127 dX6_fog_61 ?_
        refine b_goto (t := 68) X dX6_fog_64 (by decide) ?_
        refine b_sub (lv' := [(0, .ref (ad 0)), (2, .int a2)]) [0, 2] rfl ?_
        exact B68 (μ.1 25 1) h
    refine b_iload_n X dX6_fog_25 rfl 2 rfl ?_
    refine b_iconst (v := (nI 0)) X dX6_fog_26 (by decide) ?_
    refine b_iconst (v := (nI 1)) X dX6_fog_27 (by decide) ?_
    refine bSi (st := []) (nA := 3) X (c_X6_within l D C ad a2 (nI 0) (nI 1) μ _ h) gw_X6_80 hd_X6_within ⟨Nat.zero_le _, Nat.zero_le _⟩ rfl rfl ⟨Nat.le_of_ble_eq_true rfl, Nat.le_of_ble_eq_true rfl⟩ rfl rfl (Nat.le_of_ble_eq_true rfl) dX6_fog_28 (fun r4 μ5 h => ?_)
    obtain ⟨rfl, h⟩ := h
    refine b_if_ne (t := 37) X dX6_fog_31 (by decide) (fun c => ?_) (fun c => ?_)
    · replace h := h.1 c
      refine b_iload_n X dX6_fog_37 rfl 1 rfl ?_
      refine b_iconst (v := ((-1) : Int32)) X dX6_fog_38 (by decide) ?_
      refine b_icmp_ne (t := 52) X dX6_fog_39 (by decide) (fun c => ?_) (fun c => ?_)
      · replace h := h.1 c
        refine b_sub (lv' := [(0, .ref (ad 0)), (1, .int a1), (2, .int a2)]) [0, 1, 2] rfl ?_
        exact B52  h
      · replace h := h.2 c
        refine b_aload_n X dX6_fog_42 rfl 0 rfl ?_
        refine bVi (st := []) (nA := 0) X (c_X6_isBare l D C ad  μ _ h) kF_0 (by decide) (enc_6 kF_0) rfl gw_X6_173 ⟨rfl, hd_X6_isBare⟩ ⟨Nat.zero_le _, Nat.zero_le _⟩ rfl rfl ⟨Nat.le_of_ble_eq_true rfl, Nat.le_of_ble_eq_true rfl⟩ rfl rfl (Nat.le_of_ble_eq_true rfl) dX6_fog_43 (fun r6 μ7 h => ?_)
        obtain ⟨rfl, h⟩ := h
        refine b_if_eq (t := 52) X dX6_fog_46 (by decide) (fun c => ?_) (fun c => ?_)
        · replace h := h.1 c
          refine b_sub (lv' := [(0, .ref (ad 0)), (1, .int a1), (2, .int a2)]) [0, 1, 2] rfl ?_
          exact B52  h
        · replace h := h.2 c
          refine b_ldc (v := ((-1000000003) : Int32)) X m_k_X6_177 dX6_fog_49 ?_
          exact hret _ _ _ _ ⟨rfl, h⟩ dX6_fog_51
    · replace h := h.2 c
      refine b_ldc (v := ((-1000000002) : Int32)) X m_k_X6_84 dX6_fog_34 ?_
      exact hret _ _ _ _ ⟨rfl, h⟩ dX6_fog_36
  refine b_iload_n X dX6_fog_0 rfl 1 rfl ?_
  refine b_iconst (v := ((-1) : Int32)) X dX6_fog_1 (by decide) ?_
  refine b_icmp_eq (t := 25) X dX6_fog_2 (by decide) (fun c => ?_) (fun c => ?_)
  · replace h := h.1 c
    refine b_sub (lv' := [(0, .ref (ad 0)), (1, .int a1), (2, .int a2)]) [0, 1, 2] rfl ?_
    exact B25  h
  · replace h := h.2 c
    refine b_iload_n X dX6_fog_5 rfl 1 rfl ?_
    refine b_iconst (v := (nI 0)) X dX6_fog_6 (by decide) ?_
    refine b_aload_n X dX6_fog_7 rfl 0 rfl ?_
    refine g_6_1 X kF_0 m_f_X6_19 dX6_fog_8 ?_
    refine b_wf (fun hf1 => ?_)
    refine g_0_2 X (hf1 kF_0).1 m_f_X6_170 dX6_fog_11 ?_
    refine b_iconst (v := (nI 1)) X dX6_fog_14 (by decide) ?_
    refine b_isub X dX6_fog_15 ?_
    refine bSi (st := []) (nA := 3) X (c_X6_within l D C ad a1 (nI 0) ((μ.1 (μ.2.2 0) 2) - (nI 1)) μ _ h) gw_X6_80 hd_X6_within ⟨Nat.zero_le _, Nat.zero_le _⟩ rfl rfl ⟨Nat.le_of_ble_eq_true rfl, Nat.le_of_ble_eq_true rfl⟩ rfl rfl (Nat.le_of_ble_eq_true rfl) dX6_fog_16 (fun r2 μ3 h => ?_)
    obtain ⟨rfl, h⟩ := h
    refine b_if_ne (t := 25) X dX6_fog_19 (by decide) (fun c => ?_) (fun c => ?_)
    · replace h := h.1 c
      refine b_sub (lv' := [(0, .ref (ad 0)), (1, .int a1), (2, .int a2)]) [0, 1, 2] rfl ?_
      exact B25  h
    · replace h := h.2 c
      refine b_ldc (v := ((-1000000002) : Int32)) X m_k_X6_84 dX6_fog_22 ?_
      exact hret _ _ _ _ ⟨rfl, h⟩ dX6_fog_24
