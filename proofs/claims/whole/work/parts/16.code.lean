set_option maxHeartbeats 4000000 in
set_option maxRecDepth 100000 in
theorem c_X7_drinks (l : Launch) (D : va_G) (C : Nat → ClassId) (ad : Nat → Nat) (b1 : Nat) (h1 : sM.2.1 b1 = 8) (n1 : sM.2.2 b1 = 27) (μ : Mem) (Q : Mem → Prop) (h : w_X7_drinks b1 μ Q) : Mv sM l yX7_drinks cX7_drinks 5 none rm_X7_drinks D C ad [.ref (ad 0), .ref (ad b1)] μ Q := by
  refine fm_v (by decide +kernel) sM_lt (Nat.le_of_ble_eq_true rfl) (fun K X hret => ?_)
  have X : CK sM D C ad K cX7_drinks 5 RX7 := X
  refine b_lv (lv' := [(0, .ref (ad 0)), (1, .ref (ad b1))]) rfl ?_
  unfold w_X7_drinks at h
  have B2 : ∀ (v2 : Int32) (μ : Mem), w_X7_drinks_2 b1 v2 μ Q → WB sM l D C ad rm_X7_drinks K 5 μ 2 [(0, .ref (ad 0)), (1, .ref (ad b1)), (2, .int v2)] [] := by
    intro v2 μ h
    obtain ⟨Y2, eY⟩ : ∃ Y : Int32 → Mem → Prop, Y = fun (v2 : Int32) (μ : Mem) => WB sM l D C ad rm_X7_drinks K 5 μ 2 [(0, .ref (ad 0)), (1, .ref (ad b1)), (2, .int v2)] [] := ⟨_, rfl⟩
    have B2 : Y2 v2 μ := by
      unfold w_X7_drinks_2 at h
      refine h Y2 ?_
      clear h
      intro v2 μ h
      unfold s_X7_drinks_2 at h
      rw [eY]
      show WB sM l D C ad rm_X7_drinks K 5 μ 2 [(0, .ref (ad 0)), (1, .ref (ad b1)), (2, .int v2)] []
      have T2 : ∀ (v2 : Int32) (μ : Mem), Y2 v2 μ → WB sM l D C ad rm_X7_drinks K 5 μ 2 [(0, .ref (ad 0)), (1, .ref (ad b1)), (2, .int v2)] [] := by
        intro v2 μ h
        rw [eY] at h
        exact h
      clear eY
      have B92 : ∀ (v2 : Int32) (μ : Mem), w_X7_drinks_92 b1 Y2 v2 μ Q → WB sM l D C ad rm_X7_drinks K 5 μ 92 [(0, .ref (ad 0)), (1, .ref (ad b1)), (2, .int v2)] [] := by
        intro v2 μ h
        unfold w_X7_drinks_92 at h
        obtain ⟨x7, ex7⟩ : ∃ y : Int32, y = v2 + (nI 1) := ⟨_, rfl⟩
        replace h := h x7 ex7
        refine b_iinc (x := x7) (lv' := [(2, .int x7), (0, .ref (ad 0)), (1, .ref (ad b1))]) (q := 2) X dX7_drinks_92 rfl (by rw [ex7]; rfl) (by decide) rfl ?_
        refine b_goto (t := 2) X dX7_drinks_95 (by decide) ?_
        refine b_sub (lv' := [(0, .ref (ad 0)), (1, .ref (ad b1)), (2, .int x7)]) [1, 2, 0] rfl ?_
        exact T2 x7 μ h
      have B67 : ∀ (v2 : Int32) (v3 : Int32) (s1 : Int32) (μ : Mem), w_X7_drinks_67 b1 Y2 v2 v3 s1 μ Q → WB sM l D C ad rm_X7_drinks K 5 μ 67 [(0, .ref (ad 0)), (1, .ref (ad b1)), (2, .int v2), (3, .int v3)] [.int s1] := by
        intro v2 v3 s1 μ h
        unfold w_X7_drinks_67 at h
        refine b_istore (lv' := [(4, .int s1), (0, .ref (ad 0)), (1, .ref (ad b1)), (2, .int v2), (3, .int v3)]) X dX7_drinks_67 (by decide) rfl ?_
        refine b_aload_n X dX7_drinks_69 rfl 2 rfl ?_
        refine b_bipush (v := (nI 9)) X dX7_drinks_70 (by decide) ?_
        refine b_iload_n X dX7_drinks_72 rfl 4 rfl ?_
        refine b_iadd X dX7_drinks_73 ?_
        refine b_dup2 X dX7_drinks_74 rfl rfl ?_
        have hz := h.1
        replace h := h.2
        refine b_iald X h1 n1 hz dX7_drinks_75 ?_
        clear hz
        refine b_iload X dX7_drinks_76 0 rfl ?_
        refine b_isub X dX7_drinks_78 ?_
        have hz := h.1
        replace h := h.2
        refine b_iast X h1 n1 hz dX7_drinks_79 (fun μ3 eμ3 => ?_)
        clear hz
        replace h := h μ3 eμ3
        refine b_aload_n X dX7_drinks_80 rfl 2 rfl ?_
        refine b_iconst (v := (nI 4)) X dX7_drinks_81 (by decide) ?_
        refine b_aload_n X dX7_drinks_82 rfl 2 rfl ?_
        refine b_iconst (v := (nI 4)) X dX7_drinks_83 (by decide) ?_
        have hz := h.1
        replace h := h.2
        refine b_iald X h1 n1 hz dX7_drinks_84 ?_
        clear hz
        refine b_iload X dX7_drinks_85 0 rfl ?_
        refine b_iadd X dX7_drinks_87 ?_
        refine bSi (st := [.int (nI 4), .ref (ad b1)]) (nA := 1) X (c_X7_counted l D C ad ((μ3.1 b1 ((nI 4)).toNatClampNeg) + s1) μ3 _ h) gw_X7_241 hd_X7_counted rfl rfl ⟨Nat.le_of_ble_eq_true rfl, Nat.le_of_ble_eq_true rfl⟩ rfl rfl (Nat.le_of_ble_eq_true rfl) dX7_drinks_88 (fun r4 μ5 h => ?_)
        obtain ⟨rfl, h⟩ := h
        have hz := h.1
        replace h := h.2
        refine b_iast X h1 n1 hz dX7_drinks_91 (fun μ6 eμ6 => ?_)
        clear hz
        replace h := h μ6 eμ6
        refine b_sub (lv' := [(0, .ref (ad 0)), (1, .ref (ad b1)), (2, .int v2)]) [1, 2, 3] rfl ?_
        exact B92 v2 μ6 h
      refine b_iload_n X dX7_drinks_2 rfl 2 rfl ?_
      refine b_aload_n X dX7_drinks_3 rfl 0 rfl ?_
      refine g_7_22 X kM_0 m_f_X7_185 dX7_drinks_4 ?_
      refine b_icmp_ge (t := 98) X dX7_drinks_7 (by decide) (fun c => ?_) (fun c => ?_)
      · replace h := h.1 c
        exact hret _ _ _ h dX7_drinks_98
      · replace h := h.2 c
        refine b_aload_n X dX7_drinks_10 rfl 0 rfl ?_
        refine b_aload_n X dX7_drinks_11 rfl 1 rfl ?_
        refine b_aload_n X dX7_drinks_12 rfl 0 rfl ?_
        refine g_7_26 X kM_0 m_f_X7_44 dX7_drinks_13 ?_
        refine b_iconst (v := (nI 2)) X dX7_drinks_16 (by decide) ?_
        refine b_iload_n X dX7_drinks_17 rfl 2 rfl ?_
        refine b_imul X dX7_drinks_18 ?_
        have hz := h.1
        replace h := h.2
        refine b_iald X kM_11 nM_11 hz dX7_drinks_19 ?_
        clear hz
        refine bVi (st := []) (nA := 2) X (c_X7_postIn l D C ad b1 h1 n1 (μ.1 11 (((nI 2) * v2)).toNatClampNeg) μ _ h) kM_0 (by decide) (enc_7 kM_0) rfl gw_X7_233 ⟨rfl, hd_X7_postIn⟩ rfl rfl ⟨Nat.le_of_ble_eq_true rfl, Nat.le_of_ble_eq_true rfl⟩ rfl rfl (Nat.le_of_ble_eq_true rfl) dX7_drinks_20 (fun r1 μ2 h => ?_)
        obtain ⟨rfl, h⟩ := h
        refine b_istore_n (lv' := [(3, .int r1), (0, .ref (ad 0)), (1, .ref (ad b1)), (2, .int v2)]) X dX7_drinks_23 rfl (by decide) rfl ?_
        refine b_iload_n X dX7_drinks_24 rfl 0 rfl ?_
        refine b_iconst (v := ((-1) : Int32)) X dX7_drinks_25 (by decide) ?_
        refine b_icmp_eq (t := 92) X dX7_drinks_26 (by decide) (fun c => ?_) (fun c => ?_)
        · replace h := h.1 c
          refine b_sub (lv' := [(0, .ref (ad 0)), (1, .ref (ad b1)), (2, .int v2)]) [1, 2, 3] rfl ?_
          exact B92 v2 μ h
        · replace h := h.2 c
          refine b_aload_n X dX7_drinks_29 rfl 2 rfl ?_
          refine b_bipush (v := (nI 9)) X dX7_drinks_30 (by decide) ?_
          refine b_iload_n X dX7_drinks_32 rfl 0 rfl ?_
          refine b_iadd X dX7_drinks_33 ?_
          have hz := h.1
          replace h := h.2
          refine b_iald X h1 n1 hz dX7_drinks_34 ?_
          clear hz
          refine b_aload_n X dX7_drinks_35 rfl 1 rfl ?_
          refine g_7_26 X kM_0 m_f_X7_44 dX7_drinks_36 ?_
          refine b_iconst (v := (nI 2)) X dX7_drinks_39 (by decide) ?_
          refine b_iload_n X dX7_drinks_40 rfl 3 rfl ?_
          refine b_imul X dX7_drinks_41 ?_
          refine b_iconst (v := (nI 1)) X dX7_drinks_42 (by decide) ?_
          refine b_iadd X dX7_drinks_43 ?_
          have hz := h.1
          replace h := h.2
          refine b_iald X kM_11 nM_11 hz dX7_drinks_44 ?_
          clear hz
          refine b_icmp_ge (t := 57) X dX7_drinks_45 (by decide) (fun c => ?_) (fun c => ?_)
          · replace h := h.1 c
            refine b_aload_n X dX7_drinks_57 rfl 1 rfl ?_
            refine g_7_26 X kM_0 m_f_X7_44 dX7_drinks_58 ?_
            refine b_iconst (v := (nI 2)) X dX7_drinks_61 (by decide) ?_
            refine b_iload_n X dX7_drinks_62 rfl 3 rfl ?_
            refine b_imul X dX7_drinks_63 ?_
            refine b_iconst (v := (nI 1)) X dX7_drinks_64 (by decide) ?_
            refine b_iadd X dX7_drinks_65 ?_
            have hz := h.1
            replace h := h.2
            refine b_iald X kM_11 nM_11 hz dX7_drinks_66 ?_
            clear hz
            refine b_sub (lv' := [(0, .ref (ad 0)), (1, .ref (ad b1)), (2, .int v2), (3, .int r1)]) [1, 2, 3, 0] rfl ?_
            exact B67 v2 r1 (μ.1 11 ((((nI 2) * v2) + (nI 1))).toNatClampNeg) μ h
          · replace h := h.2 c
            refine b_aload_n X dX7_drinks_48 rfl 2 rfl ?_
            refine b_bipush (v := (nI 9)) X dX7_drinks_49 (by decide) ?_
            refine b_iload_n X dX7_drinks_51 rfl 0 rfl ?_
            refine b_iadd X dX7_drinks_52 ?_
            have hz := h.1
            replace h := h.2
            refine b_iald X h1 n1 hz dX7_drinks_53 ?_
            clear hz
            refine b_goto (t := 67) X dX7_drinks_54 (by decide) ?_
            refine b_sub (lv' := [(0, .ref (ad 0)), (1, .ref (ad b1)), (2, .int v2), (3, .int r1)]) [1, 2, 3, 0] rfl ?_
            exact B67 v2 r1 (μ.1 b1 (((nI 9) + r1)).toNatClampNeg) μ h
    rw [eY] at B2
    exact B2
  refine b_iconst (v := (nI 0)) X dX7_drinks_0 (by decide) ?_
  refine b_istore_n (lv' := [(2, .int (nI 0)), (0, .ref (ad 0)), (1, .ref (ad b1))]) X dX7_drinks_1 rfl (by decide) rfl ?_
  refine b_sub (lv' := [(0, .ref (ad 0)), (1, .ref (ad b1)), (2, .int (nI 0))]) [1, 2, 0] rfl ?_
  exact B2 (nI 0) μ h
set_option maxHeartbeats 4000000 in
set_option maxRecDepth 100000 in
theorem c_X7_usesUp (l : Launch) (D : va_G) (C : Nat → ClassId) (ad : Nat → Nat) (b1 : Nat) (h1 : sM.2.1 b1 = 8) (n1 : sM.2.2 b1 = 27) (μ : Mem) (Q : Mem → Prop) (h : w_X7_usesUp b1 μ Q) : Mv sM l yX7_usesUp cX7_usesUp 4 none rm_X7_usesUp D C ad [.ref (ad 0), .ref (ad b1)] μ Q := by
  refine fm_v (by decide +kernel) sM_lt (Nat.le_of_ble_eq_true rfl) (fun K X hret => ?_)
  have X : CK sM D C ad K cX7_usesUp 4 RX7 := X
  refine b_lv (lv' := [(0, .ref (ad 0)), (1, .ref (ad b1))]) rfl ?_
  unfold w_X7_usesUp at h
  have B2 : ∀ (v2 : Int32) (μ : Mem), w_X7_usesUp_2 b1 v2 μ Q → WB sM l D C ad rm_X7_usesUp K 4 μ 2 [(0, .ref (ad 0)), (1, .ref (ad b1)), (2, .int v2)] [] := by
    intro v2 μ h
    obtain ⟨Y2, eY⟩ : ∃ Y : Int32 → Mem → Prop, Y = fun (v2 : Int32) (μ : Mem) => WB sM l D C ad rm_X7_usesUp K 4 μ 2 [(0, .ref (ad 0)), (1, .ref (ad b1)), (2, .int v2)] [] := ⟨_, rfl⟩
    have B2 : Y2 v2 μ := by
      unfold w_X7_usesUp_2 at h
      refine h Y2 ?_
      clear h
      intro v2 μ h
      unfold s_X7_usesUp_2 at h
      rw [eY]
      show WB sM l D C ad rm_X7_usesUp K 4 μ 2 [(0, .ref (ad 0)), (1, .ref (ad b1)), (2, .int v2)] []
      have T2 : ∀ (v2 : Int32) (μ : Mem), Y2 v2 μ → WB sM l D C ad rm_X7_usesUp K 4 μ 2 [(0, .ref (ad 0)), (1, .ref (ad b1)), (2, .int v2)] [] := by
        intro v2 μ h
        rw [eY] at h
        exact h
      clear eY
      have B37 : ∀ (v2 : Int32) (s1 : Int32) (μ : Mem), w_X7_usesUp_37 b1 Y2 v2 s1 μ Q → WB sM l D C ad rm_X7_usesUp K 4 μ 37 [(0, .ref (ad 0)), (1, .ref (ad b1)), (2, .int v2)] [.int s1] := by
        intro v2 s1 μ h
        unfold w_X7_usesUp_37 at h
        refine b_istore_n (lv' := [(3, .int s1), (0, .ref (ad 0)), (1, .ref (ad b1)), (2, .int v2)]) X dX7_usesUp_37 rfl (by decide) rfl ?_
        refine b_aload_n X dX7_usesUp_38 rfl 2 rfl ?_
        refine b_iconst (v := (nI 5)) X dX7_usesUp_39 (by decide) ?_
        refine b_iload_n X dX7_usesUp_40 rfl 3 rfl ?_
        refine b_iadd X dX7_usesUp_41 ?_
        refine b_dup2 X dX7_usesUp_42 rfl rfl ?_
        have hz := h.1
        replace h := h.2
        refine b_iald X h1 n1 hz dX7_usesUp_43 ?_
        clear hz
        refine b_aload_n X dX7_usesUp_44 rfl 1 rfl ?_
        refine g_7_28 X kM_0 m_f_X7_50 dX7_usesUp_45 ?_
        refine b_iload_n X dX7_usesUp_48 rfl 3 rfl ?_
        have hz := h.1
        replace h := h.2
        refine b_iald X kM_13 nM_13 hz dX7_usesUp_49 ?_
        clear hz
        refine b_iload_n X dX7_usesUp_50 rfl 0 rfl ?_
        refine b_isub X dX7_usesUp_51 ?_
        refine b_isub X dX7_usesUp_52 ?_
        have hz := h.1
        replace h := h.2
        refine b_iast X h1 n1 hz dX7_usesUp_53 (fun μ1 eμ1 => ?_)
        clear hz
        replace h := h μ1 eμ1
        refine b_aload_n X dX7_usesUp_54 rfl 2 rfl ?_
        refine b_bipush (v := (nI 7)) X dX7_usesUp_55 (by decide) ?_
        refine b_iload_n X dX7_usesUp_57 rfl 3 rfl ?_
        refine b_iadd X dX7_usesUp_58 ?_
        refine b_aload_n X dX7_usesUp_59 rfl 2 rfl ?_
        refine b_bipush (v := (nI 7)) X dX7_usesUp_60 (by decide) ?_
        refine b_iload_n X dX7_usesUp_62 rfl 3 rfl ?_
        refine b_iadd X dX7_usesUp_63 ?_
        have hz := h.1
        replace h := h.2
        refine b_iald X h1 n1 hz dX7_usesUp_64 ?_
        clear hz
        refine b_iload_n X dX7_usesUp_65 rfl 0 rfl ?_
        refine b_iadd X dX7_usesUp_66 ?_
        refine bSi (st := [.int ((nI 7) + v2), .ref (ad b1)]) (nA := 1) X (c_X7_counted l D C ad ((μ1.1 b1 (((nI 7) + v2)).toNatClampNeg) + s1) μ1 _ h) gw_X7_241 hd_X7_counted rfl rfl ⟨Nat.le_of_ble_eq_true rfl, Nat.le_of_ble_eq_true rfl⟩ rfl rfl (Nat.le_of_ble_eq_true rfl) dX7_usesUp_67 (fun r2 μ3 h => ?_)
        obtain ⟨rfl, h⟩ := h
        have hz := h.1
        replace h := h.2
        refine b_iast X h1 n1 hz dX7_usesUp_70 (fun μ4 eμ4 => ?_)
        clear hz
        replace h := h μ4 eμ4
        obtain ⟨x5, ex5⟩ : ∃ y : Int32, y = v2 + (nI 1) := ⟨_, rfl⟩
        replace h := h x5 ex5
        refine b_iinc (x := x5) (lv' := [(2, .int x5), (3, .int s1), (0, .ref (ad 0)), (1, .ref (ad b1))]) (q := 3) X dX7_usesUp_71 rfl (by rw [ex5]; rfl) (by decide) rfl ?_
        refine b_goto (t := 2) X dX7_usesUp_74 (by decide) ?_
        refine b_sub (lv' := [(0, .ref (ad 0)), (1, .ref (ad b1)), (2, .int x5)]) [2, 3, 0] rfl ?_
        exact T2 x5 μ4 h
      refine b_iload_n X dX7_usesUp_2 rfl 2 rfl ?_
      refine b_iconst (v := (nI 2)) X dX7_usesUp_3 (by decide) ?_
      refine b_icmp_ge (t := 77) X dX7_usesUp_4 (by decide) (fun c => ?_) (fun c => ?_)
      · replace h := h.1 c
        exact hret _ _ _ h dX7_usesUp_77
      · replace h := h.2 c
        refine b_aload_n X dX7_usesUp_7 rfl 0 rfl ?_
        refine g_7_28 X kM_0 m_f_X7_50 dX7_usesUp_8 ?_
        refine b_iload_n X dX7_usesUp_11 rfl 2 rfl ?_
        have hz := h.1
        replace h := h.2
        refine b_iald X kM_13 nM_13 hz dX7_usesUp_12 ?_
        clear hz
        refine b_aload_n X dX7_usesUp_13 rfl 1 rfl ?_
        refine b_iconst (v := (nI 5)) X dX7_usesUp_14 (by decide) ?_
        refine b_iload_n X dX7_usesUp_15 rfl 2 rfl ?_
        refine b_iadd X dX7_usesUp_16 ?_
        have hz := h.1
        replace h := h.2
        refine b_iald X h1 n1 hz dX7_usesUp_17 ?_
        clear hz
        refine b_icmp_le (t := 36) X dX7_usesUp_18 (by decide) (fun c => ?_) (fun c => ?_)
        · replace h := h.1 c
          refine b_iconst (v := (nI 0)) X dX7_usesUp_36 (by decide) ?_
          refine b_sub (lv' := [(0, .ref (ad 0)), (1, .ref (ad b1)), (2, .int v2)]) [0, 1, 2] rfl ?_
          exact B37 v2 (nI 0) μ h
        · replace h := h.2 c
          refine b_aload_n X dX7_usesUp_21 rfl 0 rfl ?_
          refine g_7_28 X kM_0 m_f_X7_50 dX7_usesUp_22 ?_
          refine b_iload_n X dX7_usesUp_25 rfl 2 rfl ?_
          have hz := h.1
          replace h := h.2
          refine b_iald X kM_13 nM_13 hz dX7_usesUp_26 ?_
          clear hz
          refine b_aload_n X dX7_usesUp_27 rfl 1 rfl ?_
          refine b_iconst (v := (nI 5)) X dX7_usesUp_28 (by decide) ?_
          refine b_iload_n X dX7_usesUp_29 rfl 2 rfl ?_
          refine b_iadd X dX7_usesUp_30 ?_
          have hz := h.1
          replace h := h.2
          refine b_iald X h1 n1 hz dX7_usesUp_31 ?_
          clear hz
          refine b_isub X dX7_usesUp_32 ?_
          refine b_goto (t := 37) X dX7_usesUp_33 (by decide) ?_
          refine b_sub (lv' := [(0, .ref (ad 0)), (1, .ref (ad b1)), (2, .int v2)]) [0, 1, 2] rfl ?_
          exact B37 v2 ((μ.1 13 (v2).toNatClampNeg) - (μ.1 b1 (((nI 5) + v2)).toNatClampNeg)) μ h
    rw [eY] at B2
    exact B2
  refine b_iconst (v := (nI 0)) X dX7_usesUp_0 (by decide) ?_
  refine b_istore_n (lv' := [(2, .int (nI 0)), (0, .ref (ad 0)), (1, .ref (ad b1))]) X dX7_usesUp_1 rfl (by decide) rfl ?_
  refine b_sub (lv' := [(0, .ref (ad 0)), (1, .ref (ad b1)), (2, .int (nI 0))]) [1, 2, 0] rfl ?_
  exact B2 (nI 0) μ h
set_option maxHeartbeats 4000000 in
set_option maxRecDepth 100000 in
theorem c_X7_carries (l : Launch) (D : va_G) (C : Nat → ClassId) (ad : Nat → Nat) (b1 : Nat) (h1 : sM.2.1 b1 = 8) (n1 : sM.2.2 b1 = 27) (a2 : Int32) (μ : Mem) (Q : Int32 → Mem → Prop) (h : w_X7_carries b1 a2 μ Q) : Mi sM l yX7_carries cX7_carries 5 (some .int) rm_X7_carries D C ad [.ref (ad 0), .ref (ad b1), .int a2] μ Q := by
  refine fm_i (by decide +kernel) sM_lt (Nat.le_of_ble_eq_true rfl) (fun K X hret => ?_)
  have X : CK sM D C ad K cX7_carries 5 RX7 := X
  refine b_lv (lv' := [(0, .ref (ad 0)), (1, .ref (ad b1)), (2, .int a2)]) rfl ?_
  unfold w_X7_carries at h
  have B5 : ∀ (v3 : Int32) (v4 : Int32) (μ : Mem), w_X7_carries_5 b1 a2 v3 v4 μ Q → WB sM l D C ad rm_X7_carries K 5 μ 5 [(0, .ref (ad 0)), (1, .ref (ad b1)), (2, .int a2), (3, .int v3), (4, .int v4)] [] := by
    intro v3 v4 μ h
    obtain ⟨Y5, eY⟩ : ∃ Y : Int32 → Int32 → Mem → Prop, Y = fun (v3 : Int32) (v4 : Int32) (μ : Mem) => WB sM l D C ad rm_X7_carries K 5 μ 5 [(0, .ref (ad 0)), (1, .ref (ad b1)), (2, .int a2), (3, .int v3), (4, .int v4)] [] := ⟨_, rfl⟩
    have B5 : Y5 v3 v4 μ := by
      unfold w_X7_carries_5 at h
      refine h Y5 ?_
      clear h
      intro v3 v4 μ h
      unfold s_X7_carries_5 at h
      rw [eY]
      show WB sM l D C ad rm_X7_carries K 5 μ 5 [(0, .ref (ad 0)), (1, .ref (ad b1)), (2, .int a2), (3, .int v3), (4, .int v4)] []
      have T5 : ∀ (v3 : Int32) (v4 : Int32) (μ : Mem), Y5 v3 v4 μ → WB sM l D C ad rm_X7_carries K 5 μ 5 [(0, .ref (ad 0)), (1, .ref (ad b1)), (2, .int a2), (3, .int v3), (4, .int v4)] [] := by
        intro v3 v4 μ h
        rw [eY] at h
        exact h
      clear eY
      have B74 : ∀ (v3 : Int32) (μ : Mem), w_X7_carries_74 b1 a2 v3 μ Q → WB sM l D C ad rm_X7_carries K 5 μ 74 [(1, .ref (ad b1)), (2, .int a2), (3, .int v3)] [] := by
        intro v3 μ h
        unfold w_X7_carries_74 at h
        have B102 : ∀ (v3 : Int32) (s3 : Int32) (s2 : Int32) (μ : Mem), w_X7_carries_102 b1 a2 v3 s3 s2 μ Q → WB sM l D C ad rm_X7_carries K 5 μ 102 [(3, .int v3)] [.int s3, .int s2, .ref (ad b1)] := by
          intro v3 s3 s2 μ h
          unfold w_X7_carries_102 at h
          have hz := h.1
          replace h := h.2
          refine b_iast X h1 n1 hz dX7_carries_102 (fun μ4 eμ4 => ?_)
          clear hz
          replace h := h μ4 eμ4
          refine b_iload_n X dX7_carries_103 rfl 0 rfl ?_
          exact hret _ _ _ _ h dX7_carries_104
        refine b_aload_n X dX7_carries_74 rfl 0 rfl ?_
        refine b_iconst (v := (nI 5)) X dX7_carries_75 (by decide) ?_
        refine b_iload_n X dX7_carries_76 rfl 1 rfl ?_
        refine b_iadd X dX7_carries_77 ?_
        refine b_aload_n X dX7_carries_78 rfl 0 rfl ?_
        refine b_iconst (v := (nI 5)) X dX7_carries_79 (by decide) ?_
        refine b_iload_n X dX7_carries_80 rfl 1 rfl ?_
        refine b_iadd X dX7_carries_81 ?_
        have hz := h.1
        replace h := h.2
        refine b_iald X h1 n1 hz dX7_carries_82 ?_
        clear hz
        refine b_iload_n X dX7_carries_83 rfl 2 rfl ?_
        refine b_iadd X dX7_carries_84 ?_
        refine b_ldc (v := (nI 99999)) X m_k_X7_244 dX7_carries_85 ?_
        refine b_icmp_le (t := 95) X dX7_carries_87 (by decide) (fun c => ?_) (fun c => ?_)
        · replace h := h.1 c
          refine b_aload_n X dX7_carries_95 rfl 0 rfl ?_
          refine b_iconst (v := (nI 5)) X dX7_carries_96 (by decide) ?_
          refine b_iload_n X dX7_carries_97 rfl 1 rfl ?_
          refine b_iadd X dX7_carries_98 ?_
          have hz := h.1
          replace h := h.2
          refine b_iald X h1 n1 hz dX7_carries_99 ?_
          clear hz
          refine b_iload_n X dX7_carries_100 rfl 2 rfl ?_
          refine b_iadd X dX7_carries_101 ?_
          refine b_sub (lv' := [(3, .int v3)]) [2] rfl ?_
          exact B102 v3 ((μ.1 b1 (((nI 5) + a2)).toNatClampNeg) + v3) ((nI 5) + a2) μ h
        · replace h := h.2 c
          refine b_ldc (v := (nI 99999)) X m_k_X7_244 dX7_carries_90 ?_
          refine b_goto (t := 102) X dX7_carries_92 (by decide) ?_
          refine b_sub (lv' := [(3, .int v3)]) [2] rfl ?_
          exact B102 v3 (nI 99999) ((nI 5) + a2) μ h
      have B37 : ∀ (v4 : Int32) (s2 : Int32) (s1 : Int32) (μ : Mem), w_X7_carries_37 b1 a2 Y5 v4 s2 s1 μ Q → WB sM l D C ad rm_X7_carries K 5 μ 37 [(0, .ref (ad 0)), (1, .ref (ad b1)), (2, .int a2), (4, .int v4)] [.int s2, .int s1] := by
        intro v4 s2 s1 μ h
        unfold w_X7_carries_37 at h
        have B67 : ∀ (v3 : Int32) (v4 : Int32) (s3 : Int32) (s2 : Int32) (μ : Mem), w_X7_carries_67 b1 a2 Y5 v3 v4 s3 s2 μ Q → WB sM l D C ad rm_X7_carries K 5 μ 67 [(0, .ref (ad 0)), (1, .ref (ad b1)), (2, .int a2), (3, .int v3), (4, .int v4)] [.int s3, .int s2, .ref (ad b1)] := by
          intro v3 v4 s3 s2 μ h
          unfold w_X7_carries_67 at h
          have hz := h.1
          replace h := h.2
          refine b_iast X h1 n1 hz dX7_carries_67 (fun μ2 eμ2 => ?_)
          clear hz
          replace h := h μ2 eμ2
          obtain ⟨x3, ex3⟩ : ∃ y : Int32, y = v4 + (nI 1) := ⟨_, rfl⟩
          replace h := h x3 ex3
          refine b_iinc (x := x3) (lv' := [(4, .int x3), (0, .ref (ad 0)), (1, .ref (ad b1)), (2, .int a2), (3, .int v3)]) (q := 4) X dX7_carries_68 rfl (by rw [ex3]; rfl) (by decide) rfl ?_
          refine b_goto (t := 5) X dX7_carries_71 (by decide) ?_
          refine b_sub (lv' := [(0, .ref (ad 0)), (1, .ref (ad b1)), (2, .int a2), (3, .int v3), (4, .int x3)]) [1, 2, 3, 4, 0] rfl ?_
          exact T5 v3 x3 μ2 h
        refine b_iadd X dX7_carries_37 ?_
        refine b_topi (fun x1 ex1 => ?_)
        replace h := h x1 ex1
        refine b_istore_n (lv' := [(3, .int x1), (0, .ref (ad 0)), (1, .ref (ad b1)), (2, .int a2), (4, .int v4)]) X dX7_carries_38 rfl (by decide) rfl ?_
        refine b_aload_n X dX7_carries_39 rfl 2 rfl ?_
        refine b_bipush (v := (nI 9)) X dX7_carries_40 (by decide) ?_
        refine b_iload X dX7_carries_42 4 rfl ?_
        refine b_iadd X dX7_carries_44 ?_
        refine b_aload_n X dX7_carries_45 rfl 1 rfl ?_
        refine g_7_25 X kM_0 m_f_X7_41 dX7_carries_46 ?_
        refine b_iload X dX7_carries_49 4 rfl ?_
        have hz := h.1
        replace h := h.2
        refine b_iald X kM_10 nM_10 hz dX7_carries_51 ?_
        clear hz
        refine b_iload_n X dX7_carries_52 rfl 3 rfl ?_
        refine b_icmp_ne (t := 60) X dX7_carries_53 (by decide) (fun c => ?_) (fun c => ?_)
        · replace h := h.1 c
          refine b_aload_n X dX7_carries_60 rfl 2 rfl ?_
          refine b_bipush (v := (nI 9)) X dX7_carries_61 (by decide) ?_
          refine b_iload X dX7_carries_63 4 rfl ?_
          refine b_iadd X dX7_carries_65 ?_
          have hz := h.1
          replace h := h.2
          refine b_iald X h1 n1 hz dX7_carries_66 ?_
          clear hz
          refine b_sub (lv' := [(0, .ref (ad 0)), (1, .ref (ad b1)), (2, .int a2), (3, .int x1), (4, .int v4)]) [1, 2, 3, 0, 4] rfl ?_
          exact B67 x1 v4 (μ.1 b1 (((nI 9) + v4)).toNatClampNeg) ((nI 9) + v4) μ h
        · replace h := h.2 c
          refine b_iconst (v := (nI 0)) X dX7_carries_56 (by decide) ?_
          refine b_goto (t := 67) X dX7_carries_57 (by decide) ?_
          refine b_sub (lv' := [(0, .ref (ad 0)), (1, .ref (ad b1)), (2, .int a2), (3, .int x1), (4, .int v4)]) [1, 2, 3, 0, 4] rfl ?_
          exact B67 x1 v4 (nI 0) ((nI 9) + v4) μ h
      refine b_iload X dX7_carries_5 4 rfl ?_
      refine b_aload_n X dX7_carries_7 rfl 0 rfl ?_
      refine g_7_20 X kM_0 m_f_X7_179 dX7_carries_8 ?_
      refine b_icmp_ge (t := 74) X dX7_carries_11 (by decide) (fun c => ?_) (fun c => ?_)
      · replace h := h.1 c
        refine b_sub (lv' := [(1, .ref (ad b1)), (2, .int a2), (3, .int v3)]) [1, 2, 3] rfl ?_
        exact B74 v3 μ h
      · replace h := h.2 c
        refine b_iload_n X dX7_carries_14 rfl 3 rfl ?_
        refine b_aload_n X dX7_carries_15 rfl 0 rfl ?_
        refine g_7_25 X kM_0 m_f_X7_41 dX7_carries_16 ?_
        refine b_iload X dX7_carries_19 4 rfl ?_
        have hz := h.1
        replace h := h.2
        refine b_iald X kM_10 nM_10 hz dX7_carries_21 ?_
        clear hz
        refine b_iload_n X dX7_carries_22 rfl 2 rfl ?_
        refine b_icmp_ne (t := 36) X dX7_carries_23 (by decide) (fun c => ?_) (fun c => ?_)
        · replace h := h.1 c
          refine b_iconst (v := (nI 0)) X dX7_carries_36 (by decide) ?_
          refine b_sub (lv' := [(0, .ref (ad 0)), (1, .ref (ad b1)), (2, .int a2), (4, .int v4)]) [0, 1, 2, 4] rfl ?_
          exact B37 v4 (nI 0) v3 μ h
        · replace h := h.2 c
          refine b_aload_n X dX7_carries_26 rfl 1 rfl ?_
          refine b_bipush (v := (nI 9)) X dX7_carries_27 (by decide) ?_
          refine b_iload X dX7_carries_29 4 rfl ?_
          refine b_iadd X dX7_carries_31 ?_
          have hz := h.1
          replace h := h.2
          refine b_iald X h1 n1 hz dX7_carries_32 ?_
          clear hz
          refine b_goto (t := 37) X dX7_carries_33 (by decide) ?_
          refine b_sub (lv' := [(0, .ref (ad 0)), (1, .ref (ad b1)), (2, .int a2), (4, .int v4)]) [0, 1, 2, 4] rfl ?_
          exact B37 v4 (μ.1 b1 (((nI 9) + v4)).toNatClampNeg) v3 μ h
    rw [eY] at B5
    exact B5
  refine b_iconst (v := (nI 0)) X dX7_carries_0 (by decide) ?_
  refine b_istore_n (lv' := [(3, .int (nI 0)), (0, .ref (ad 0)), (1, .ref (ad b1)), (2, .int a2)]) X dX7_carries_1 rfl (by decide) rfl ?_
  refine b_iconst (v := (nI 0)) X dX7_carries_2 (by decide) ?_
  refine b_istore (lv' := [(4, .int (nI 0)), (3, .int (nI 0)), (0, .ref (ad 0)), (1, .ref (ad b1)), (2, .int a2)]) X dX7_carries_3 (by decide) rfl ?_
  refine b_sub (lv' := [(0, .ref (ad 0)), (1, .ref (ad b1)), (2, .int a2), (3, .int (nI 0)), (4, .int (nI 0))]) [2, 3, 4, 1, 0] rfl ?_
  exact B5 (nI 0) (nI 0) μ h
set_option maxHeartbeats 4000000 in
set_option maxRecDepth 100000 in
theorem c_X7_passes (l : Launch) (D : va_G) (C : Nat → ClassId) (ad : Nat → Nat) (b1 : Nat) (h1 : sM.2.1 b1 = 8) (n1 : sM.2.2 b1 = 27) (a2 : Int32) (a3 : Int32) (a4 : Int32) (μ : Mem) (Q : Int32 → Mem → Prop) (h : w_X7_passes b1 a2 a3 a4 μ Q) : Mi sM l yX7_passes cX7_passes 8 (some .int) rm_X7_passes D C ad [.ref (ad 0), .ref (ad b1), .int a2, .int a3, .int a4] μ Q := by
  refine fm_i (by decide +kernel) sM_lt (Nat.le_of_ble_eq_true rfl) (fun K X hret => ?_)
  have X : CK sM D C ad K cX7_passes 8 RX7 := X
  refine b_lv (lv' := [(0, .ref (ad 0)), (1, .ref (ad b1)), (2, .int a2), (3, .int a3), (4, .int a4)]) rfl ?_
  unfold w_X7_passes at h
  have B26 : ∀ (v5 : Int32) (μ : Mem), w_X7_passes_26 b1 a2 a3 a4 v5 μ Q → WB sM l D C ad rm_X7_passes K 8 μ 26 [(0, .ref (ad 0)), (1, .ref (ad b1)), (4, .int a4), (5, .int v5)] [] := by
    intro v5 μ h
    obtain ⟨Y26, eY⟩ : ∃ Y : Int32 → Mem → Prop, Y = fun (v5 : Int32) (μ : Mem) => WB sM l D C ad rm_X7_passes K 8 μ 26 [(0, .ref (ad 0)), (1, .ref (ad b1)), (4, .int a4), (5, .int v5)] [] := ⟨_, rfl⟩
    have B26 : Y26 v5 μ := by
      unfold w_X7_passes_26 at h
      refine h Y26 ?_
      clear h
      intro v5 μ h
      unfold s_X7_passes_26 at h
      rw [eY]
      show WB sM l D C ad rm_X7_passes K 8 μ 26 [(0, .ref (ad 0)), (1, .ref (ad b1)), (4, .int a4), (5, .int v5)] []
      have T26 : ∀ (v5 : Int32) (μ : Mem), Y26 v5 μ → WB sM l D C ad rm_X7_passes K 8 μ 26 [(0, .ref (ad 0)), (1, .ref (ad b1)), (4, .int a4), (5, .int v5)] [] := by
        intro v5 μ h
        rw [eY] at h
        exact h
      clear eY
      have B110 : ∀ (μ : Mem), w_X7_passes_110 b1 a2 a3 a4 μ Q → WB sM l D C ad rm_X7_passes K 8 μ 110 [(0, .ref (ad 0)), (1, .ref (ad b1)), (4, .int a4)] [] := by
        intro μ h
        unfold w_X7_passes_110 at h
        have B167 : ∀ (μ : Mem), w_X7_passes_167 b1 a2 a3 a4 μ Q → WB sM l D C ad rm_X7_passes K 8 μ 167 [(0, .ref (ad 0))] [] := by
          intro μ h
          unfold w_X7_passes_167 at h
          refine b_aload_n X dX7_passes_167 rfl 0 rfl ?_
          refine bVi (st := []) (nA := 0) X (c_X7_allTook l D C ad  μ _ h) kM_0 (by decide) (enc_7 kM_0) rfl gw_X7_263 ⟨rfl, hd_X7_allTook⟩ rfl rfl ⟨Nat.le_of_ble_eq_true rfl, Nat.le_of_ble_eq_true rfl⟩ rfl rfl (Nat.le_of_ble_eq_true rfl) dX7_passes_168 (fun r26 μ27 h => ?_)
          obtain ⟨rfl, h⟩ := h
          exact hret _ _ _ _ h dX7_passes_171
        have B146 : ∀ (μ : Mem), w_X7_passes_146 b1 a2 a3 a4 μ Q → WB sM l D C ad rm_X7_passes K 8 μ 146 [(0, .ref (ad 0)), (1, .ref (ad b1))] [] := by
          intro μ h
          unfold w_X7_passes_146 at h
          refine b_aload_n X dX7_passes_146 rfl 0 rfl ?_
          refine b_aload_n X dX7_passes_147 rfl 1 rfl ?_
          refine bVv (st := []) (nA := 1) X (c_X7_drinks l D C ad b1 h1 n1 μ _ h) kM_0 (by decide) (enc_7 kM_0) rfl gw_X7_256 ⟨rfl, hd_X7_drinks⟩ rfl rfl ⟨Nat.le_of_ble_eq_true rfl, Nat.le_of_ble_eq_true rfl⟩ rfl rfl (Nat.le_of_ble_eq_true rfl) dX7_passes_148 (fun μ21 h => ?_)
          refine b_aload_n X dX7_passes_151 rfl 0 rfl ?_
          refine b_aload_n X dX7_passes_152 rfl 1 rfl ?_
          refine bVv (st := []) (nA := 1) X (c_X7_usesUp l D C ad b1 h1 n1 μ21 _ h) kM_0 (by decide) (enc_7 kM_0) rfl gw_X7_260 ⟨rfl, hd_X7_usesUp⟩ rfl rfl ⟨Nat.le_of_ble_eq_true rfl, Nat.le_of_ble_eq_true rfl⟩ rfl rfl (Nat.le_of_ble_eq_true rfl) dX7_passes_153 (fun μ23 h => ?_)
          refine b_aload_n X dX7_passes_156 rfl 1 rfl ?_
          refine b_iconst (v := (nI 1)) X dX7_passes_157 (by decide) ?_
          refine b_iconst (v := (nI 0)) X dX7_passes_158 (by decide) ?_
          have hz := h.1
          replace h := h.2
          refine b_iast X h1 n1 hz dX7_passes_159 (fun μ24 eμ24 => ?_)
          clear hz
          replace h := h μ24 eμ24
          refine b_aload_n X dX7_passes_160 rfl 1 rfl ?_
          refine b_iconst (v := (nI 0)) X dX7_passes_161 (by decide) ?_
          refine b_dup2 X dX7_passes_162 rfl rfl ?_
          have hz := h.1
          replace h := h.2
          refine b_iald X h1 n1 hz dX7_passes_163 ?_
          clear hz
          refine b_iconst (v := (nI 1)) X dX7_passes_164 (by decide) ?_
          refine b_iadd X dX7_passes_165 ?_
          have hz := h.1
          replace h := h.2
          refine b_iast X h1 n1 hz dX7_passes_166 (fun μ25 eμ25 => ?_)
          clear hz
          replace h := h μ25 eμ25
          refine b_sub (lv' := [(0, .ref (ad 0))]) [0] rfl ?_
          exact B167 μ25 h
        refine b_aload_n X dX7_passes_110 rfl 1 rfl ?_
        refine b_iconst (v := (nI 1)) X dX7_passes_111 (by decide) ?_
        refine b_dup2 X dX7_passes_112 rfl rfl ?_
        have hz := h.1
        replace h := h.2
        refine b_iald X h1 n1 hz dX7_passes_113 ?_
        clear hz
        refine b_iconst (v := (nI 1)) X dX7_passes_114 (by decide) ?_
        refine b_iadd X dX7_passes_115 ?_
        have hz := h.1
        replace h := h.2
        refine b_iast X h1 n1 hz dX7_passes_116 (fun μ13 eμ13 => ?_)
        clear hz
        replace h := h μ13 eμ13
        refine b_aload_n X dX7_passes_117 rfl 1 rfl ?_
        refine b_iconst (v := (nI 1)) X dX7_passes_118 (by decide) ?_
        have hz := h.1
        replace h := h.2
        refine b_iald X h1 n1 hz dX7_passes_119 ?_
        clear hz
        refine b_aload_n X dX7_passes_120 rfl 0 rfl ?_
        refine bVi (st := [.int (μ13.1 b1 ((nI 1)).toNatClampNeg)]) (nA := 0) X (c_X7_dayLong l D C ad  μ13 _ h) kM_0 (by decide) (enc_7 kM_0) rfl gw_X7_205 ⟨rfl, hd_X7_dayLong⟩ rfl rfl ⟨Nat.le_of_ble_eq_true rfl, Nat.le_of_ble_eq_true rfl⟩ rfl rfl (Nat.le_of_ble_eq_true rfl) dX7_passes_121 (fun r14 μ15 h => ?_)
        obtain ⟨rfl, h⟩ := h
        refine b_icmp_ne (t := 167) X dX7_passes_124 (by decide) (fun c => ?_) (fun c => ?_)
        · replace h := h.1 c
          refine b_sub (lv' := [(0, .ref (ad 0))]) [0] rfl ?_
          exact B167 μ13 h
        · replace h := h.2 c
          refine b_iload X dX7_passes_127 2 rfl ?_
          refine b_if_eq (t := 146) X dX7_passes_129 (by decide) (fun c => ?_) (fun c => ?_)
          · replace h := h.1 c
            refine b_sub (lv' := [(0, .ref (ad 0)), (1, .ref (ad b1))]) [0, 1] rfl ?_
            exact B146 μ13 h
          · replace h := h.2 c
            refine b_aload_n X dX7_passes_132 rfl 0 rfl ?_
            refine b_aload_n X dX7_passes_133 rfl 1 rfl ?_
            refine b_iconst (v := (nI 0)) X dX7_passes_134 (by decide) ?_
            refine bVi (st := []) (nA := 2) X (c_X7_carries l D C ad b1 h1 n1 (nI 0) μ13 _ h) kM_0 (by decide) (enc_7 kM_0) rfl gw_X7_253 ⟨rfl, hd_X7_carries⟩ rfl rfl ⟨Nat.le_of_ble_eq_true rfl, Nat.le_of_ble_eq_true rfl⟩ rfl rfl (Nat.le_of_ble_eq_true rfl) dX7_passes_135 (fun r16 μ17 h => ?_)
            refine b_pop X dX7_passes_138 rfl ?_
            refine b_aload_n X dX7_passes_139 rfl 0 rfl ?_
            refine b_aload_n X dX7_passes_140 rfl 1 rfl ?_
            refine b_iconst (v := (nI 1)) X dX7_passes_141 (by decide) ?_
            refine bVi (st := []) (nA := 2) X (c_X7_carries l D C ad b1 h1 n1 (nI 1) μ17 _ h) kM_0 (by decide) (enc_7 kM_0) rfl gw_X7_253 ⟨rfl, hd_X7_carries⟩ rfl rfl ⟨Nat.le_of_ble_eq_true rfl, Nat.le_of_ble_eq_true rfl⟩ rfl rfl (Nat.le_of_ble_eq_true rfl) dX7_passes_142 (fun r18 μ19 h => ?_)
            refine b_pop X dX7_passes_145 rfl ?_
            refine b_sub (lv' := [(0, .ref (ad 0)), (1, .ref (ad b1))]) [0, 1] rfl ?_
            exact B146 μ19 h
      have B78 : ∀ (v5 : Int32) (v6 : Int32) (s1 : Int32) (μ : Mem), w_X7_passes_78 b1 a2 a3 a4 Y26 v5 v6 s1 μ Q → WB sM l D C ad rm_X7_passes K 8 μ 78 [(0, .ref (ad 0)), (1, .ref (ad b1)), (4, .int a4), (5, .int v5), (6, .int v6)] [.int s1] := by
        intro v5 v6 s1 μ h
        unfold w_X7_passes_78 at h
        refine b_istore (lv' := [(7, .int s1), (0, .ref (ad 0)), (1, .ref (ad b1)), (4, .int a4), (5, .int v5), (6, .int v6)]) X dX7_passes_78 (by decide) rfl ?_
        refine b_aload_n X dX7_passes_80 rfl 2 rfl ?_
        refine b_bipush (v := (nI 9)) X dX7_passes_81 (by decide) ?_
        refine b_iload X dX7_passes_83 4 rfl ?_
        refine b_iadd X dX7_passes_85 ?_
        refine b_iload X dX7_passes_86 5 rfl ?_
        refine b_iload X dX7_passes_88 0 rfl ?_
        refine b_isub X dX7_passes_90 ?_
        have hz := h.1
        replace h := h.2
        refine b_iast X h1 n1 hz dX7_passes_91 (fun μ8 eμ8 => ?_)
        clear hz
        replace h := h μ8 eμ8
        refine b_aload_n X dX7_passes_92 rfl 2 rfl ?_
        refine b_iconst (v := (nI 3)) X dX7_passes_93 (by decide) ?_
        refine b_aload_n X dX7_passes_94 rfl 2 rfl ?_
        refine b_iconst (v := (nI 3)) X dX7_passes_95 (by decide) ?_
        have hz := h.1
        replace h := h.2
        refine b_iald X h1 n1 hz dX7_passes_96 ?_
        clear hz
        refine b_iload X dX7_passes_97 0 rfl ?_
        refine b_iadd X dX7_passes_99 ?_
        refine bSi (st := [.int (nI 3), .ref (ad b1)]) (nA := 1) X (c_X7_counted l D C ad ((μ8.1 b1 ((nI 3)).toNatClampNeg) + s1) μ8 _ h) gw_X7_241 hd_X7_counted rfl rfl ⟨Nat.le_of_ble_eq_true rfl, Nat.le_of_ble_eq_true rfl⟩ rfl rfl (Nat.le_of_ble_eq_true rfl) dX7_passes_100 (fun r9 μ10 h => ?_)
        obtain ⟨rfl, h⟩ := h
        have hz := h.1
        replace h := h.2
        refine b_iast X h1 n1 hz dX7_passes_103 (fun μ11 eμ11 => ?_)
        clear hz
        replace h := h μ11 eμ11
        obtain ⟨x12, ex12⟩ : ∃ y : Int32, y = v5 + (nI 1) := ⟨_, rfl⟩
        replace h := h x12 ex12
        refine b_iinc (x := x12) (lv' := [(5, .int x12), (7, .int s1), (0, .ref (ad 0)), (1, .ref (ad b1)), (4, .int a4), (6, .int v6)]) (q := 4) X dX7_passes_104 rfl (by rw [ex12]; rfl) (by decide) rfl ?_
        refine b_goto (t := 26) X dX7_passes_107 (by decide) ?_
        refine b_sub (lv' := [(0, .ref (ad 0)), (1, .ref (ad b1)), (4, .int a4), (5, .int x12)]) [2, 3, 4, 0] rfl ?_
        exact T26 x12 μ11 h
      refine b_iload X dX7_passes_26 3 rfl ?_
      refine b_aload_n X dX7_passes_28 rfl 0 rfl ?_
      refine g_7_20 X kM_0 m_f_X7_179 dX7_passes_29 ?_
      refine b_icmp_ge (t := 110) X dX7_passes_32 (by decide) (fun c => ?_) (fun c => ?_)
      · replace h := h.1 c
        refine b_sub (lv' := [(0, .ref (ad 0)), (1, .ref (ad b1)), (4, .int a4)]) [0, 1, 2] rfl ?_
        exact B110 μ h
      · replace h := h.2 c
        refine b_aload_n X dX7_passes_35 rfl 1 rfl ?_
        refine b_bipush (v := (nI 9)) X dX7_passes_36 (by decide) ?_
        refine b_iload X dX7_passes_38 3 rfl ?_
        refine b_iadd X dX7_passes_40 ?_
        have hz := h.1
        replace h := h.2
        refine b_iald X h1 n1 hz dX7_passes_41 ?_
        clear hz
        refine b_aload_n X dX7_passes_42 rfl 0 rfl ?_
        refine g_7_31 X kM_0 m_f_X7_59 dX7_passes_43 ?_
        refine b_iload X dX7_passes_46 3 rfl ?_
        have hz := h.1
        replace h := h.2
        refine b_iald X kM_16 nM_16 hz dX7_passes_48 ?_
        clear hz
        refine b_iadd X dX7_passes_49 ?_
        refine b_topi (fun x7 ex7 => ?_)
        replace h := h x7 ex7
        refine b_istore (lv' := [(6, .int x7), (0, .ref (ad 0)), (1, .ref (ad b1)), (4, .int a4), (5, .int v5)]) X dX7_passes_50 (by decide) rfl ?_
        refine b_iload X dX7_passes_52 0 rfl ?_
        refine b_aload_n X dX7_passes_54 rfl 1 rfl ?_
        refine g_7_24 X kM_0 m_f_X7_38 dX7_passes_55 ?_
        refine b_iload X dX7_passes_58 4 rfl ?_
        have hz := h.1
        replace h := h.2
        refine b_iald X kM_9 nM_9 hz dX7_passes_60 ?_
        clear hz
        refine b_icmp_le (t := 77) X dX7_passes_61 (by decide) (fun c => ?_) (fun c => ?_)
        · replace h := h.1 c
          refine b_iconst (v := (nI 0)) X dX7_passes_77 (by decide) ?_
          refine b_sub (lv' := [(0, .ref (ad 0)), (1, .ref (ad b1)), (4, .int a4), (5, .int v5), (6, .int x7)]) [1, 2, 3, 4, 0] rfl ?_
          exact B78 v5 x7 (nI 0) μ h
        · replace h := h.2 c
          refine b_iload X dX7_passes_64 0 rfl ?_
          refine b_aload_n X dX7_passes_66 rfl 1 rfl ?_
          refine g_7_24 X kM_0 m_f_X7_38 dX7_passes_67 ?_
          refine b_iload X dX7_passes_70 4 rfl ?_
          have hz := h.1
          replace h := h.2
          refine b_iald X kM_9 nM_9 hz dX7_passes_72 ?_
          clear hz
          refine b_isub X dX7_passes_73 ?_
          refine b_goto (t := 78) X dX7_passes_74 (by decide) ?_
          refine b_sub (lv' := [(0, .ref (ad 0)), (1, .ref (ad b1)), (4, .int a4), (5, .int v5), (6, .int x7)]) [1, 2, 3, 4, 0] rfl ?_
          exact B78 v5 x7 (x7 - (μ.1 9 (v5).toNatClampNeg)) μ h
    rw [eY] at B26
    exact B26
  refine b_aload_n X dX7_passes_0 rfl 0 rfl ?_
  refine b_aload_n X dX7_passes_1 rfl 1 rfl ?_
  refine b_iload_n X dX7_passes_2 rfl 2 rfl ?_
  refine b_aload_n X dX7_passes_3 rfl 1 rfl ?_
  refine b_iconst (v := (nI 2)) X dX7_passes_4 (by decide) ?_
  have hz := h.1
  replace h := h.2
  refine b_iald X h1 n1 hz dX7_passes_5 ?_
  clear hz
  refine b_aload_n X dX7_passes_6 rfl 0 rfl ?_
  refine g_7_19 X kM_0 m_f_X7_176 dX7_passes_7 ?_
  refine bSi (st := [.ref (ad b1), .ref (ad 0)]) (nA := 3) X (c_X7_lit l D C ad a2 (μ.1 b1 ((nI 2)).toNatClampNeg) (μ.1 0 19) μ _ h) gw_X7_245 hd_X7_lit rfl rfl ⟨Nat.le_of_ble_eq_true rfl, Nat.le_of_ble_eq_true rfl⟩ rfl rfl (Nat.le_of_ble_eq_true rfl) dX7_passes_10 (fun r1 μ2 h => ?_)
  obtain ⟨rfl, h⟩ := h
  refine b_iload_n X dX7_passes_13 rfl 3 rfl ?_
  refine b_aload_n X dX7_passes_14 rfl 0 rfl ?_
  refine b_aload_n X dX7_passes_15 rfl 1 rfl ?_
  refine bVi (st := [.int a3, .int r1, .ref (ad b1), .ref (ad 0)]) (nA := 1) X (c_X7_hanging l D C ad b1 h1 n1 μ _ h) kM_0 (by decide) (enc_7 kM_0) rfl gw_X7_209 ⟨rfl, hd_X7_hanging⟩ rfl rfl ⟨Nat.le_of_ble_eq_true rfl, Nat.le_of_ble_eq_true rfl⟩ rfl rfl (Nat.le_of_ble_eq_true rfl) dX7_passes_16 (fun r3 μ4 h => ?_)
  obtain ⟨rfl, h⟩ := h
  refine bVi (st := []) (nA := 4) X (c_X7_leads l D C ad b1 h1 n1 r1 a3 r3 μ _ h) kM_0 (by decide) (enc_7 kM_0) rfl gw_X7_249 ⟨rfl, hd_X7_leads⟩ rfl rfl ⟨Nat.le_of_ble_eq_true rfl, Nat.le_of_ble_eq_true rfl⟩ rfl rfl (Nat.le_of_ble_eq_true rfl) dX7_passes_19 (fun r5 μ6 h => ?_)
  refine b_pop X dX7_passes_22 rfl ?_
  refine b_iconst (v := (nI 0)) X dX7_passes_23 (by decide) ?_
  refine b_istore (lv' := [(5, .int (nI 0)), (0, .ref (ad 0)), (1, .ref (ad b1)), (2, .int a2), (3, .int a3), (4, .int a4)]) X dX7_passes_24 (by decide) rfl ?_
  refine b_sub (lv' := [(0, .ref (ad 0)), (1, .ref (ad b1)), (4, .int a4), (5, .int (nI 0))]) [1, 2, 5, 0] rfl ?_
  exact B26 (nI 0) μ6 h
set_option maxHeartbeats 4000000 in
set_option maxRecDepth 100000 in
theorem c_X7_passesOn (l : Launch) (D : va_G) (C : Nat → ClassId) (ad : Nat → Nat) (b1 : Nat) (h1 : sM.2.1 b1 = 8) (n1 : sM.2.2 b1 = 27) (μ : Mem) (Q : Int32 → Mem → Prop) (h : w_X7_passesOn b1 μ Q) : Mi sM l yX7_passesOn cX7_passesOn 2 (some .int) rm_X7_passesOn D C ad [.ref (ad 0), .ref (ad b1)] μ Q := by
  refine fm_i (by decide +kernel) sM_lt (Nat.le_of_ble_eq_true rfl) (fun K X hret => ?_)
  have X : CK sM D C ad K cX7_passesOn 2 RX7 := X
  refine b_lv (lv' := [(0, .ref (ad 0)), (1, .ref (ad b1))]) rfl ?_
  unfold w_X7_passesOn at h
  refine b_aload_n X dX7_passesOn_0 rfl 0 rfl ?_
  refine b_aload_n X dX7_passesOn_1 rfl 1 rfl ?_
  refine b_aload_n X dX7_passesOn_2 rfl 0 rfl ?_
  refine b_aload_n X dX7_passesOn_3 rfl 1 rfl ?_
  refine bVi (st := [.ref (ad b1), .ref (ad 0)]) (nA := 1) X (c_X7_fogOf l D C ad b1 h1 n1 μ _ h) kM_0 (by decide) (enc_7 kM_0) rfl gw_X7_224 ⟨rfl, hd_X7_fogOf⟩ rfl rfl ⟨Nat.le_of_ble_eq_true rfl, Nat.le_of_ble_eq_true rfl⟩ rfl rfl (Nat.le_of_ble_eq_true rfl) dX7_passesOn_4 (fun r1 μ2 h => ?_)
  obtain ⟨rfl, h⟩ := h
  refine b_aload_n X dX7_passesOn_7 rfl 0 rfl ?_
  refine b_aload_n X dX7_passesOn_8 rfl 1 rfl ?_
  refine bVi (st := [.int r1, .ref (ad b1), .ref (ad 0)]) (nA := 1) X (c_X7_sideOf l D C ad b1 h1 n1 μ _ h) kM_0 (by decide) (enc_7 kM_0) rfl gw_X7_221 ⟨rfl, hd_X7_sideOf⟩ rfl rfl ⟨Nat.le_of_ble_eq_true rfl, Nat.le_of_ble_eq_true rfl⟩ rfl rfl (Nat.le_of_ble_eq_true rfl) dX7_passesOn_9 (fun r3 μ4 h => ?_)
  obtain ⟨rfl, h⟩ := h
  refine b_iconst (v := (nI 0)) X dX7_passesOn_12 (by decide) ?_
  refine bVi (st := []) (nA := 4) X (c_X7_passes l D C ad b1 h1 n1 r1 r3 (nI 0) μ _ h) kM_0 (by decide) (enc_7 kM_0) rfl gw_X7_266 ⟨rfl, hd_X7_passes⟩ rfl rfl ⟨Nat.le_of_ble_eq_true rfl, Nat.le_of_ble_eq_true rfl⟩ rfl rfl (Nat.le_of_ble_eq_true rfl) dX7_passesOn_13 (fun r5 μ6 h => ?_)
  exact hret _ _ _ _ h dX7_passesOn_16
set_option maxHeartbeats 4000000 in
set_option maxRecDepth 100000 in
theorem c_X7_remember (l : Launch) (D : va_G) (C : Nat → ClassId) (ad : Nat → Nat)  (μ : Mem) (Q : Mem → Prop) (h : w_X7_remember  μ Q) : Mv sM l yX7_remember cX7_remember 2 none rm_X7_remember D C ad [.ref (ad 0)] μ Q := by
  refine fm_v (by decide +kernel) sM_lt (Nat.le_of_ble_eq_true rfl) (fun K X hret => ?_)
  have X : CK sM D C ad K cX7_remember 2 RX7 := X
  refine b_lv (lv' := [(0, .ref (ad 0))]) rfl ?_
  unfold w_X7_remember at h
  have B2 : ∀ (v1 : Int32) (μ : Mem), w_X7_remember_2 v1 μ Q → WB sM l D C ad rm_X7_remember K 2 μ 2 [(0, .ref (ad 0)), (1, .int v1)] [] := by
    intro v1 μ h
    obtain ⟨Y2, eY⟩ : ∃ Y : Int32 → Mem → Prop, Y = fun (v1 : Int32) (μ : Mem) => WB sM l D C ad rm_X7_remember K 2 μ 2 [(0, .ref (ad 0)), (1, .int v1)] [] := ⟨_, rfl⟩
    have B2 : Y2 v1 μ := by
      unfold w_X7_remember_2 at h
      refine h Y2 ?_
      clear h
      intro v1 μ h
      unfold s_X7_remember_2 at h
      rw [eY]
      show WB sM l D C ad rm_X7_remember K 2 μ 2 [(0, .ref (ad 0)), (1, .int v1)] []
      have T2 : ∀ (v1 : Int32) (μ : Mem), Y2 v1 μ → WB sM l D C ad rm_X7_remember K 2 μ 2 [(0, .ref (ad 0)), (1, .int v1)] [] := by
        intro v1 μ h
        rw [eY] at h
        exact h
      clear eY
      have B34 : ∀ (μ : Mem), w_X7_remember_34 μ Q → WB sM l D C ad rm_X7_remember K 2 μ 34 [(0, .ref (ad 0))] [] := by
        intro μ h
        unfold w_X7_remember_34 at h
        have B66 : ∀ (s3 : Int32) (s2 : Int32) (μ : Mem), w_X7_remember_66 s3 s2 μ Q → WB sM l D C ad rm_X7_remember K 2 μ 66 [] [.int s3, .int s2, .ref (ad 0)] := by
          intro s3 s2 μ h
          unfold w_X7_remember_66 at h
          refine b_iadd X dX7_remember_66 ?_
          refine p_7_32 X kM_0 m_f_X7_194 dX7_remember_67 (fun μ5 eμ5 => ?_)
          replace h := h μ5 eμ5
          exact hret _ _ _ h dX7_remember_70
        refine b_aload_n X dX7_remember_34 rfl 0 rfl ?_
        refine b_aload_n X dX7_remember_35 rfl 0 rfl ?_
        refine g_7_33 X kM_0 m_f_X7_270 dX7_remember_36 ?_
        refine b_iconst (v := (nI 1)) X dX7_remember_39 (by decide) ?_
        refine b_iadd X dX7_remember_40 ?_
        refine b_bipush (v := (nI 30)) X dX7_remember_41 (by decide) ?_
        have hz := h.1
        replace h := h.2
        refine b_irem X dX7_remember_43 hz ?_
        clear hz
        refine b_topi (fun x3 ex3 => ?_)
        replace h := h x3 ex3
        refine p_7_33 X kM_0 m_f_X7_270 dX7_remember_44 (fun μ4 eμ4 => ?_)
        replace h := h μ4 eμ4
        refine b_aload_n X dX7_remember_47 rfl 0 rfl ?_
        refine b_dup X dX7_remember_48 rfl ?_
        refine g_7_32 X kM_0 m_f_X7_194 dX7_remember_49 ?_
        refine b_aload_n X dX7_remember_52 rfl 0 rfl ?_
        refine g_7_32 X kM_0 m_f_X7_194 dX7_remember_53 ?_
        refine b_bipush (v := (nI 30)) X dX7_remember_56 (by decide) ?_
        refine b_icmp_ge (t := 65) X dX7_remember_58 (by decide) (fun c => ?_) (fun c => ?_)
        · replace h := h.1 c
          refine b_iconst (v := (nI 0)) X dX7_remember_65 (by decide) ?_
          refine b_sub (lv' := []) [] rfl ?_
          exact B66 (nI 0) (μ4.1 0 32) μ4 h
        · replace h := h.2 c
          refine b_iconst (v := (nI 1)) X dX7_remember_61 (by decide) ?_
          refine b_goto (t := 66) X dX7_remember_62 (by decide) ?_
          refine b_sub (lv' := []) [] rfl ?_
          exact B66 (nI 1) (μ4.1 0 32) μ4 h
      refine b_iload_n X dX7_remember_2 rfl 1 rfl ?_
      refine b_bipush (v := (nI 27)) X dX7_remember_3 (by decide) ?_
      refine b_icmp_ge (t := 34) X dX7_remember_5 (by decide) (fun c => ?_) (fun c => ?_)
      · replace h := h.1 c
        refine b_sub (lv' := [(0, .ref (ad 0))]) [0] rfl ?_
        exact B34 μ h
      · replace h := h.2 c
        refine b_aload_n X dX7_remember_8 rfl 0 rfl ?_
        refine g_7_34 X kM_0 m_f_X7_62 dX7_remember_9 ?_
        refine b_bipush (v := (nI 27)) X dX7_remember_12 (by decide) ?_
        refine b_aload_n X dX7_remember_14 rfl 0 rfl ?_
        refine g_7_33 X kM_0 m_f_X7_270 dX7_remember_15 ?_
        refine b_imul X dX7_remember_18 ?_
        refine b_iload_n X dX7_remember_19 rfl 1 rfl ?_
        refine b_iadd X dX7_remember_20 ?_
        refine b_aload_n X dX7_remember_21 rfl 0 rfl ?_
        refine g_7_29 X kM_0 m_f_X7_53 dX7_remember_22 ?_
        refine b_iload_n X dX7_remember_25 rfl 1 rfl ?_
        have hz := h.1
        replace h := h.2
        refine b_iald X kM_14 nM_14 hz dX7_remember_26 ?_
        clear hz
        have hz := h.1
        replace h := h.2
        refine b_iast X kM_17 nM_17 hz dX7_remember_27 (fun μ1 eμ1 => ?_)
        clear hz
        replace h := h μ1 eμ1
        obtain ⟨x2, ex2⟩ : ∃ y : Int32, y = v1 + (nI 1) := ⟨_, rfl⟩
        replace h := h x2 ex2
        refine b_iinc (x := x2) (lv' := [(1, .int x2), (0, .ref (ad 0))]) (q := 1) X dX7_remember_28 rfl (by rw [ex2]; rfl) (by decide) rfl ?_
        refine b_goto (t := 2) X dX7_remember_31 (by decide) ?_
        refine b_sub (lv' := [(0, .ref (ad 0)), (1, .int x2)]) [1, 0] rfl ?_
        exact T2 x2 μ1 h
    rw [eY] at B2
    exact B2
  refine b_iconst (v := (nI 0)) X dX7_remember_0 (by decide) ?_
  refine b_istore_n (lv' := [(1, .int (nI 0)), (0, .ref (ad 0))]) X dX7_remember_1 rfl (by decide) rfl ?_
  refine b_sub (lv' := [(0, .ref (ad 0)), (1, .int (nI 0))]) [1, 0] rfl ?_
  exact B2 (nI 0) μ h
set_option maxHeartbeats 4000000 in
set_option maxRecDepth 100000 in
theorem c_X7_need (l : Launch) (D : va_G) (C : Nat → ClassId) (ad : Nat → Nat) (a1 : Int32) (μ : Mem) (Q : Int32 → Prop) (h : w_X7_need a1 μ Q) : Mi sM l yX7_need cX7_need 2 (some .int) rm_X7_need D C ad [.ref (ad 0), .int a1] μ (fun r μ' => μ = μ' ∧ Q r) := by
  refine fm_i (by decide +kernel) sM_lt (Nat.le_of_ble_eq_true rfl) (fun K X hret => ?_)
  have X : CK sM D C ad K cX7_need 2 RX7 := X
  refine b_lv (lv' := [(0, .ref (ad 0)), (1, .int a1)]) rfl ?_
  unfold w_X7_need at h
  refine b_iload_n X dX7_need_0 rfl 1 rfl ?_
  refine b_if_ne (t := 9) X dX7_need_1 (by decide) (fun c => ?_) (fun c => ?_)
  · replace h := h.1 c
    refine b_aload_n X dX7_need_9 rfl 0 rfl ?_
    refine g_7_17 X kM_0 m_f_X7_170 dX7_need_10 ?_
    refine b_if_ne (t := 21) X dX7_need_13 (by decide) (fun c => ?_) (fun c => ?_)
    · replace h := h.1 c
      refine b_iconst (v := (nI 0)) X dX7_need_21 (by decide) ?_
      exact hret _ _ _ _ ⟨rfl, h⟩ dX7_need_22
    · replace h := h.2 c
      refine b_ldc (v := ((-1000000003) : Int32)) X m_k_X7_220 dX7_need_16 ?_
      refine b_goto (t := 22) X dX7_need_18 (by decide) ?_
      exact hret _ _ _ _ ⟨rfl, h⟩ dX7_need_22
  · replace h := h.2 c
    refine b_ldc (v := ((-1000000002) : Int32)) X m_k_X7_89 dX7_need_4 ?_
    refine b_goto (t := 22) X dX7_need_6 (by decide) ?_
    exact hret _ _ _ _ ⟨rfl, h⟩ dX7_need_22
set_option maxHeartbeats 4000000 in
set_option maxRecDepth 100000 in
theorem c_X7_hour (l : Launch) (D : va_G) (C : Nat → ClassId) (ad : Nat → Nat) (a1 : Int32) (μ : Mem) (Q : Int32 → Mem → Prop) (h : w_X7_hour a1 μ Q) : Mi sM l yX7_hour cX7_hour 5 (some .int) rm_X7_hour D C ad [.ref (ad 0), .int a1] μ Q := by
  refine fm_i (by decide +kernel) sM_lt (Nat.le_of_ble_eq_true rfl) (fun K X hret => ?_)
  have X : CK sM D C ad K cX7_hour 5 RX7 := X
  refine b_lv (lv' := [(0, .ref (ad 0)), (1, .int a1)]) rfl ?_
  unfold w_X7_hour at h
  have B38 : ∀ (v3 : Int32) (v4 : Int32) (μ : Mem), w_X7_hour_38 a1 v3 v4 μ Q → WB sM l D C ad rm_X7_hour K 5 μ 38 [(0, .ref (ad 0)), (1, .int a1), (3, .int v3), (4, .int v4)] [] := by
    intro v3 v4 μ h
    obtain ⟨Y38, eY⟩ : ∃ Y : Int32 → Int32 → Mem → Prop, Y = fun (v3 : Int32) (v4 : Int32) (μ : Mem) => WB sM l D C ad rm_X7_hour K 5 μ 38 [(0, .ref (ad 0)), (1, .int a1), (3, .int v3), (4, .int v4)] [] := ⟨_, rfl⟩
    have B38 : Y38 v3 v4 μ := by
      unfold w_X7_hour_38 at h
      refine h Y38 ?_
      clear h
      intro v3 v4 μ h
      unfold s_X7_hour_38 at h
      rw [eY]
      show WB sM l D C ad rm_X7_hour K 5 μ 38 [(0, .ref (ad 0)), (1, .int a1), (3, .int v3), (4, .int v4)] []
      have T38 : ∀ (v3 : Int32) (v4 : Int32) (μ : Mem), Y38 v3 v4 μ → WB sM l D C ad rm_X7_hour K 5 μ 38 [(0, .ref (ad 0)), (1, .int a1), (3, .int v3), (4, .int v4)] [] := by
        intro v3 v4 μ h
        rw [eY] at h
        exact h
      clear eY
      refine b_iload X dX7_hour_38 3 rfl ?_
      refine b_iload_n X dX7_hour_40 rfl 1 rfl ?_
      refine b_icmp_ge (t := 65) X dX7_hour_41 (by decide) (fun c => ?_) (fun c => ?_)
      · replace h := h.1 c
        refine b_iload_n X dX7_hour_65 rfl 2 rfl ?_
        exact hret _ _ _ _ h dX7_hour_66
      · replace h := h.2 c
        refine b_aload_n X dX7_hour_44 rfl 0 rfl ?_
        refine bVv (st := []) (nA := 0) X (c_X7_remember l D C ad  μ _ h) kM_0 (by decide) (enc_7 kM_0) rfl gw_X7_277 ⟨rfl, hd_X7_remember⟩ rfl rfl ⟨Nat.le_of_ble_eq_true rfl, Nat.le_of_ble_eq_true rfl⟩ rfl rfl (Nat.le_of_ble_eq_true rfl) dX7_hour_45 (fun μ6 h => ?_)
        refine b_iload_n X dX7_hour_48 rfl 2 rfl ?_
        refine b_aload_n X dX7_hour_49 rfl 0 rfl ?_
        refine b_aload_n X dX7_hour_50 rfl 0 rfl ?_
        refine g_7_29 X kM_0 m_f_X7_53 dX7_hour_51 ?_
        refine bVi (st := [.int v3]) (nA := 1) X (c_X7_passesOn l D C ad 14 kM_14 nM_14 μ6 _ h) kM_0 (by decide) (enc_7 kM_0) rfl gw_X7_280 ⟨rfl, hd_X7_passesOn⟩ rfl rfl ⟨Nat.le_of_ble_eq_true rfl, Nat.le_of_ble_eq_true rfl⟩ rfl rfl (Nat.le_of_ble_eq_true rfl) dX7_hour_54 (fun r7 μ8 h => ?_)
        refine b_iadd X dX7_hour_57 ?_
        refine b_topi (fun x9 ex9 => ?_)
        replace h := h x9 ex9
        refine b_istore_n (lv' := [(3, .int x9), (0, .ref (ad 0)), (1, .int a1), (4, .int v4)]) X dX7_hour_58 rfl (by decide) rfl ?_
        obtain ⟨x10, ex10⟩ : ∃ y : Int32, y = v4 + (nI 1) := ⟨_, rfl⟩
        replace h := h x10 ex10
        refine b_iinc (x := x10) (lv' := [(4, .int x10), (3, .int x9), (0, .ref (ad 0)), (1, .int a1)]) (q := 3) X dX7_hour_59 rfl (by rw [ex10]; rfl) (by decide) rfl ?_
        refine b_goto (t := 38) X dX7_hour_62 (by decide) ?_
        refine b_sub (lv' := [(0, .ref (ad 0)), (1, .int a1), (3, .int x9), (4, .int x10)]) [2, 3, 1, 0] rfl ?_
        exact T38 x9 x10 μ8 h
    rw [eY] at B38
    exact B38
  refine b_aload_n X dX7_hour_0 rfl 0 rfl ?_
  refine b_iload_n X dX7_hour_1 rfl 1 rfl ?_
  refine b_iconst (v := (nI 1)) X dX7_hour_2 (by decide) ?_
  refine b_bipush (v := (nI 60)) X dX7_hour_3 (by decide) ?_
  refine bSi (st := [.ref (ad 0)]) (nA := 3) X (c_X7_in l D C ad a1 (nI 1) (nI 60) μ _ h) gw_X7_85 hd_X7_in rfl rfl ⟨Nat.le_of_ble_eq_true rfl, Nat.le_of_ble_eq_true rfl⟩ rfl rfl (Nat.le_of_ble_eq_true rfl) dX7_hour_5 (fun r1 μ2 h => ?_)
  obtain ⟨rfl, h⟩ := h
  refine bVi (st := []) (nA := 1) X (c_X7_need l D C ad r1 μ _ h) kM_0 (by decide) (enc_7 kM_0) rfl gw_X7_273 ⟨rfl, hd_X7_need⟩ rfl rfl ⟨Nat.le_of_ble_eq_true rfl, Nat.le_of_ble_eq_true rfl⟩ rfl rfl (Nat.le_of_ble_eq_true rfl) dX7_hour_8 (fun r3 μ4 h => ?_)
  obtain ⟨rfl, h⟩ := h
  refine b_istore_n (lv' := [(2, .int r3), (0, .ref (ad 0)), (1, .int a1)]) X dX7_hour_11 rfl (by decide) rfl ?_
  refine b_iload_n X dX7_hour_12 rfl 0 rfl ?_
  refine b_if_ge (t := 18) X dX7_hour_13 (by decide) (fun c => ?_) (fun c => ?_)
  · replace h := h.1 c
    refine b_aload_n X dX7_hour_18 rfl 1 rfl ?_
    refine g_7_29 X kM_0 m_f_X7_53 dX7_hour_19 ?_
    refine b_iconst (v := (nI 0)) X dX7_hour_22 (by decide) ?_
    have hz := h.1
    replace h := h.2
    refine b_iald X kM_14 nM_14 hz dX7_hour_23 ?_
    clear hz
    refine b_sipush (v := (nI 9000)) X dX7_hour_24 (by decide) ?_
    refine b_icmp_le (t := 33) X dX7_hour_27 (by decide) (fun c => ?_) (fun c => ?_)
    · replace h := h.1 c
      refine b_iconst (v := (nI 0)) X dX7_hour_33 (by decide) ?_
      refine b_istore_n (lv' := [(3, .int (nI 0)), (2, .int r3), (0, .ref (ad 0)), (1, .int a1)]) X dX7_hour_34 rfl (by decide) rfl ?_
      refine b_iconst (v := (nI 0)) X dX7_hour_35 (by decide) ?_
      refine b_istore (lv' := [(4, .int (nI 0)), (3, .int (nI 0)), (2, .int r3), (0, .ref (ad 0)), (1, .int a1)]) X dX7_hour_36 (by decide) rfl ?_
      refine b_sub (lv' := [(0, .ref (ad 0)), (1, .int a1), (3, .int (nI 0)), (4, .int (nI 0))]) [3, 4, 1, 0] rfl ?_
      exact B38 (nI 0) (nI 0) μ h
    · replace h := h.2 c
      refine b_ldc (v := ((-1000000004) : Int32)) X m_k_X7_93 dX7_hour_30 ?_
      exact hret _ _ _ _ h dX7_hour_32
  · replace h := h.2 c
    refine b_iload_n X dX7_hour_16 rfl 0 rfl ?_
    exact hret _ _ _ _ h dX7_hour_17
set_option maxHeartbeats 4000000 in
set_option maxRecDepth 100000 in
theorem c_X7_carry (l : Launch) (D : va_G) (C : Nat → ClassId) (ad : Nat → Nat) (a1 : Int32) (μ : Mem) (Q : Int32 → Mem → Prop) (h : w_X7_carry a1 μ Q) : Mi sM l yX7_carry cX7_carry 2 (some .int) rm_X7_carry D C ad [.ref (ad 0), .int a1] μ Q := by
  refine fm_i (by decide +kernel) sM_lt (Nat.le_of_ble_eq_true rfl) (fun K X hret => ?_)
  have X : CK sM D C ad K cX7_carry 2 RX7 := X
  refine b_lv (lv' := [(0, .ref (ad 0)), (1, .int a1)]) rfl ?_
  unfold w_X7_carry at h
  refine b_iload_n X dX7_carry_0 rfl 1 rfl ?_
  refine bSi (st := []) (nA := 1) X (c_X7_isVillage l D C ad a1 μ _ h) gw_X7_227 hd_X7_isVillage rfl rfl ⟨Nat.le_of_ble_eq_true rfl, Nat.le_of_ble_eq_true rfl⟩ rfl rfl (Nat.le_of_ble_eq_true rfl) dX7_carry_1 (fun r1 μ2 h => ?_)
  obtain ⟨rfl, h⟩ := h
  refine b_if_ne (t := 10) X dX7_carry_4 (by decide) (fun c => ?_) (fun c => ?_)
  · replace h := h.1 c
    refine b_aload_n X dX7_carry_10 rfl 0 rfl ?_
    refine g_7_17 X kM_0 m_f_X7_170 dX7_carry_11 ?_
    refine b_if_ne (t := 20) X dX7_carry_14 (by decide) (fun c => ?_) (fun c => ?_)
    · replace h := h.1 c
      refine b_aload_n X dX7_carry_20 rfl 0 rfl ?_
      refine bVv (st := []) (nA := 0) X (c_X7_remember l D C ad  μ _ h) kM_0 (by decide) (enc_7 kM_0) rfl gw_X7_277 ⟨rfl, hd_X7_remember⟩ rfl rfl ⟨Nat.le_of_ble_eq_true rfl, Nat.le_of_ble_eq_true rfl⟩ rfl rfl (Nat.le_of_ble_eq_true rfl) dX7_carry_21 (fun μ4 h => ?_)
      refine b_aload_n X dX7_carry_24 rfl 0 rfl ?_
      refine b_aload_n X dX7_carry_25 rfl 0 rfl ?_
      refine g_7_29 X kM_0 m_f_X7_53 dX7_carry_26 ?_
      refine b_iload_n X dX7_carry_29 rfl 1 rfl ?_
      refine bVi (st := []) (nA := 2) X (c_X7_carries l D C ad 14 kM_14 nM_14 a1 μ4 _ h) kM_0 (by decide) (enc_7 kM_0) rfl gw_X7_253 ⟨rfl, hd_X7_carries⟩ rfl rfl ⟨Nat.le_of_ble_eq_true rfl, Nat.le_of_ble_eq_true rfl⟩ rfl rfl (Nat.le_of_ble_eq_true rfl) dX7_carry_30 (fun r5 μ6 h => ?_)
      exact hret _ _ _ _ h dX7_carry_33
    · replace h := h.2 c
      refine b_ldc (v := ((-1000000003) : Int32)) X m_k_X7_220 dX7_carry_17 ?_
      exact hret _ _ _ _ h dX7_carry_19
  · replace h := h.2 c
    refine b_ldc (v := ((-1000000001) : Int32)) X m_k_X7_219 dX7_carry_7 ?_
    exact hret _ _ _ _ h dX7_carry_9
set_option maxHeartbeats 4000000 in
set_option maxRecDepth 100000 in
theorem c_X7_licks (l : Launch) (D : va_G) (C : Nat → ClassId) (ad : Nat → Nat) (a1 : Int32) (a2 : Int32) (μ : Mem) (Q : Mem → Prop) (h : w_X7_licks a1 a2 μ Q) : Mv sM l yX7_licks cX7_licks 3 none rm_X7_licks D C ad [.ref (ad 0), .int a1, .int a2] μ Q := by
  refine fm_v (by decide +kernel) sM_lt (Nat.le_of_ble_eq_true rfl) (fun K X hret => ?_)
  have X : CK sM D C ad K cX7_licks 3 RX7 := X
  refine b_lv (lv' := [(0, .ref (ad 0)), (1, .int a1), (2, .int a2)]) rfl ?_
  unfold w_X7_licks at h
  have B36 : ∀ (s3 : Int32) (s2 : Int32) (μ : Mem), w_X7_licks_36 a1 a2 s3 s2 μ Q → WB sM l D C ad rm_X7_licks K 3 μ 36 [] [.int s3, .int s2, .ref (ad 14)] := by
    intro s3 s2 μ h
    unfold w_X7_licks_36 at h
    have hz := h.1
    replace h := h.2
    refine b_iast X kM_14 nM_14 hz dX7_licks_36 (fun μ1 eμ1 => ?_)
    clear hz
    replace h := h μ1 eμ1
    exact hret _ _ _ h dX7_licks_37
  refine b_aload_n X dX7_licks_0 rfl 0 rfl ?_
  refine g_7_29 X kM_0 m_f_X7_53 dX7_licks_1 ?_
  refine b_bipush (v := (nI 9)) X dX7_licks_4 (by decide) ?_
  refine b_iload_n X dX7_licks_6 rfl 1 rfl ?_
  refine b_iadd X dX7_licks_7 ?_
  refine b_aload_n X dX7_licks_8 rfl 0 rfl ?_
  refine g_7_29 X kM_0 m_f_X7_53 dX7_licks_9 ?_
  refine b_bipush (v := (nI 9)) X dX7_licks_12 (by decide) ?_
  refine b_iload_n X dX7_licks_14 rfl 1 rfl ?_
  refine b_iadd X dX7_licks_15 ?_
  have hz := h.1
  replace h := h.2
  refine b_iald X kM_14 nM_14 hz dX7_licks_16 ?_
  clear hz
  refine b_iload_n X dX7_licks_17 rfl 2 rfl ?_
  refine b_icmp_le (t := 35) X dX7_licks_18 (by decide) (fun c => ?_) (fun c => ?_)
  · replace h := h.1 c
    refine b_iconst (v := (nI 0)) X dX7_licks_35 (by decide) ?_
    refine b_sub (lv' := []) [] rfl ?_
    exact B36 (nI 0) ((nI 9) + a1) μ h
  · replace h := h.2 c
    refine b_aload_n X dX7_licks_21 rfl 0 rfl ?_
    refine g_7_29 X kM_0 m_f_X7_53 dX7_licks_22 ?_
    refine b_bipush (v := (nI 9)) X dX7_licks_25 (by decide) ?_
    refine b_iload_n X dX7_licks_27 rfl 1 rfl ?_
    refine b_iadd X dX7_licks_28 ?_
    have hz := h.1
    replace h := h.2
    refine b_iald X kM_14 nM_14 hz dX7_licks_29 ?_
    clear hz
    refine b_iload_n X dX7_licks_30 rfl 2 rfl ?_
    refine b_isub X dX7_licks_31 ?_
    refine b_goto (t := 36) X dX7_licks_32 (by decide) ?_
    refine b_sub (lv' := []) [] rfl ?_
    exact B36 ((μ.1 14 (((nI 9) + a1)).toNatClampNeg) - a2) ((nI 9) + a1) μ h
set_option maxHeartbeats 4000000 in
set_option maxRecDepth 100000 in
theorem c_X7_lick (l : Launch) (D : va_G) (C : Nat → ClassId) (ad : Nat → Nat) (a1 : Int32) (a2 : Int32) (μ : Mem) (Q : Int32 → Mem → Prop) (h : w_X7_lick a1 a2 μ Q) : Mi sM l yX7_lick cX7_lick 3 (some .int) rm_X7_lick D C ad [.ref (ad 0), .int a1, .int a2] μ Q := by
  refine fm_i (by decide +kernel) sM_lt (Nat.le_of_ble_eq_true rfl) (fun K X hret => ?_)
  have X : CK sM D C ad K cX7_lick 3 RX7 := X
  refine b_lv (lv' := [(0, .ref (ad 0)), (1, .int a1), (2, .int a2)]) rfl ?_
  unfold w_X7_lick at h
  refine b_aload_n X dX7_lick_0 rfl 0 rfl ?_
  refine b_iload_n X dX7_lick_1 rfl 1 rfl ?_
  refine bVi (st := []) (nA := 1) X (c_X7_isPost l D C ad a1 μ _ h) kM_0 (by decide) (enc_7 kM_0) rfl gw_X7_216 ⟨rfl, hd_X7_isPost⟩ rfl rfl ⟨Nat.le_of_ble_eq_true rfl, Nat.le_of_ble_eq_true rfl⟩ rfl rfl (Nat.le_of_ble_eq_true rfl) dX7_lick_2 (fun r1 μ2 h => ?_)
  obtain ⟨rfl, h⟩ := h
  refine b_if_ne (t := 11) X dX7_lick_5 (by decide) (fun c => ?_) (fun c => ?_)
  · replace h := h.1 c
    refine b_iload_n X dX7_lick_11 rfl 2 rfl ?_
    refine b_iconst (v := (nI 1)) X dX7_lick_12 (by decide) ?_
    refine b_bipush (v := (nI 99)) X dX7_lick_13 (by decide) ?_
    refine bSi (st := []) (nA := 3) X (c_X7_in l D C ad a2 (nI 1) (nI 99) μ _ h) gw_X7_85 hd_X7_in rfl rfl ⟨Nat.le_of_ble_eq_true rfl, Nat.le_of_ble_eq_true rfl⟩ rfl rfl (Nat.le_of_ble_eq_true rfl) dX7_lick_15 (fun r3 μ4 h => ?_)
    obtain ⟨rfl, h⟩ := h
    refine b_if_ne (t := 24) X dX7_lick_18 (by decide) (fun c => ?_) (fun c => ?_)
    · replace h := h.1 c
      refine b_aload_n X dX7_lick_24 rfl 0 rfl ?_
      refine bVv (st := []) (nA := 0) X (c_X7_remember l D C ad  μ _ h) kM_0 (by decide) (enc_7 kM_0) rfl gw_X7_277 ⟨rfl, hd_X7_remember⟩ rfl rfl ⟨Nat.le_of_ble_eq_true rfl, Nat.le_of_ble_eq_true rfl⟩ rfl rfl (Nat.le_of_ble_eq_true rfl) dX7_lick_25 (fun μ6 h => ?_)
      refine b_aload_n X dX7_lick_28 rfl 0 rfl ?_
      refine b_iload_n X dX7_lick_29 rfl 1 rfl ?_
      refine b_iload_n X dX7_lick_30 rfl 2 rfl ?_
      refine bVv (st := []) (nA := 2) X (c_X7_licks l D C ad a1 a2 μ6 _ h) kM_0 (by decide) (enc_7 kM_0) rfl gw_X7_283 ⟨rfl, hd_X7_licks⟩ rfl rfl ⟨Nat.le_of_ble_eq_true rfl, Nat.le_of_ble_eq_true rfl⟩ rfl rfl (Nat.le_of_ble_eq_true rfl) dX7_lick_31 (fun μ8 h => ?_)
      refine b_aload_n X dX7_lick_34 rfl 0 rfl ?_
      refine g_7_29 X kM_0 m_f_X7_53 dX7_lick_35 ?_
      refine b_bipush (v := (nI 9)) X dX7_lick_38 (by decide) ?_
      refine b_iload_n X dX7_lick_40 rfl 1 rfl ?_
      refine b_iadd X dX7_lick_41 ?_
      have hz := h.1
      replace h := h.2
      refine b_iald X kM_14 nM_14 hz dX7_lick_42 ?_
      clear hz
      exact hret _ _ _ _ h dX7_lick_43
    · replace h := h.2 c
      refine b_ldc (v := ((-1000000002) : Int32)) X m_k_X7_89 dX7_lick_21 ?_
      exact hret _ _ _ _ h dX7_lick_23
  · replace h := h.2 c
    refine b_ldc (v := ((-1000000001) : Int32)) X m_k_X7_219 dX7_lick_8 ?_
    exact hret _ _ _ _ h dX7_lick_10
set_option maxHeartbeats 4000000 in
set_option maxRecDepth 100000 in
theorem c_X7_mesh (l : Launch) (D : va_G) (C : Nat → ClassId) (ad : Nat → Nat) (a1 : Int32) (a2 : Int32) (μ : Mem) (Q : Int32 → Mem → Prop) (h : w_X7_mesh a1 a2 μ Q) : Mi sM l yX7_mesh cX7_mesh 4 (some .int) rm_X7_mesh D C ad [.ref (ad 0), .int a1, .int a2] μ Q := by
  refine fm_i (by decide +kernel) sM_lt (Nat.le_of_ble_eq_true rfl) (fun K X hret => ?_)
  have X : CK sM D C ad K cX7_mesh 4 RX7 := X
  refine b_lv (lv' := [(0, .ref (ad 0)), (1, .int a1), (2, .int a2)]) rfl ?_
  unfold w_X7_mesh at h
  refine b_aload_n X dX7_mesh_0 rfl 0 rfl ?_
  refine b_iload_n X dX7_mesh_1 rfl 1 rfl ?_
  refine bVi (st := []) (nA := 1) X (c_X7_isPost l D C ad a1 μ _ h) kM_0 (by decide) (enc_7 kM_0) rfl gw_X7_216 ⟨rfl, hd_X7_isPost⟩ rfl rfl ⟨Nat.le_of_ble_eq_true rfl, Nat.le_of_ble_eq_true rfl⟩ rfl rfl (Nat.le_of_ble_eq_true rfl) dX7_mesh_2 (fun r1 μ2 h => ?_)
  obtain ⟨rfl, h⟩ := h
  refine b_if_ne (t := 11) X dX7_mesh_5 (by decide) (fun c => ?_) (fun c => ?_)
  · replace h := h.1 c
    refine b_iload_n X dX7_mesh_11 rfl 2 rfl ?_
    refine b_iconst (v := (nI 0)) X dX7_mesh_12 (by decide) ?_
    refine b_bipush (v := (nI 9)) X dX7_mesh_13 (by decide) ?_
    refine bSi (st := []) (nA := 3) X (c_X7_in l D C ad a2 (nI 0) (nI 9) μ _ h) gw_X7_85 hd_X7_in rfl rfl ⟨Nat.le_of_ble_eq_true rfl, Nat.le_of_ble_eq_true rfl⟩ rfl rfl (Nat.le_of_ble_eq_true rfl) dX7_mesh_15 (fun r3 μ4 h => ?_)
    obtain ⟨rfl, h⟩ := h
    refine b_if_ne (t := 24) X dX7_mesh_18 (by decide) (fun c => ?_) (fun c => ?_)
    · replace h := h.1 c
      refine b_aload_n X dX7_mesh_24 rfl 0 rfl ?_
      refine bVv (st := []) (nA := 0) X (c_X7_remember l D C ad  μ _ h) kM_0 (by decide) (enc_7 kM_0) rfl gw_X7_277 ⟨rfl, hd_X7_remember⟩ rfl rfl ⟨Nat.le_of_ble_eq_true rfl, Nat.le_of_ble_eq_true rfl⟩ rfl rfl (Nat.le_of_ble_eq_true rfl) dX7_mesh_25 (fun μ6 h => ?_)
      refine b_aload_n X dX7_mesh_28 rfl 0 rfl ?_
      refine g_7_29 X kM_0 m_f_X7_53 dX7_mesh_29 ?_
      refine b_bipush (v := (nI 21)) X dX7_mesh_32 (by decide) ?_
      refine b_iload_n X dX7_mesh_34 rfl 1 rfl ?_
      refine b_iadd X dX7_mesh_35 ?_
      have hz := h.1
      replace h := h.2
      refine b_iald X kM_14 nM_14 hz dX7_mesh_36 ?_
      clear hz
      refine b_topi (fun x7 ex7 => ?_)
      replace h := h x7 ex7
      refine b_istore_n (lv' := [(3, .int x7), (0, .ref (ad 0)), (1, .int a1), (2, .int a2)]) X dX7_mesh_37 rfl (by decide) rfl ?_
      refine b_aload_n X dX7_mesh_38 rfl 1 rfl ?_
      refine g_7_29 X kM_0 m_f_X7_53 dX7_mesh_39 ?_
      refine b_bipush (v := (nI 21)) X dX7_mesh_42 (by decide) ?_
      refine b_iload_n X dX7_mesh_44 rfl 2 rfl ?_
      refine b_iadd X dX7_mesh_45 ?_
      refine b_iload_n X dX7_mesh_46 rfl 3 rfl ?_
      have hz := h.1
      replace h := h.2
      refine b_iast X kM_14 nM_14 hz dX7_mesh_47 (fun μ8 eμ8 => ?_)
      clear hz
      replace h := h μ8 eμ8
      refine b_iload_n X dX7_mesh_48 rfl 0 rfl ?_
      exact hret _ _ _ _ h dX7_mesh_49
    · replace h := h.2 c
      refine b_ldc (v := ((-1000000002) : Int32)) X m_k_X7_89 dX7_mesh_21 ?_
      exact hret _ _ _ _ h dX7_mesh_23
  · replace h := h.2 c
    refine b_ldc (v := ((-1000000001) : Int32)) X m_k_X7_219 dX7_mesh_8 ?_
    exact hret _ _ _ _ h dX7_mesh_10
set_option maxHeartbeats 4000000 in
set_option maxRecDepth 100000 in
theorem c_X7_move (l : Launch) (D : va_G) (C : Nat → ClassId) (ad : Nat → Nat) (a1 : Int32) (a2 : Int32) (μ : Mem) (Q : Int32 → Mem → Prop) (h : w_X7_move a1 a2 μ Q) : Mi sM l yX7_move cX7_move 4 (some .int) rm_X7_move D C ad [.ref (ad 0), .int a1, .int a2] μ Q := by
  refine fm_i (by decide +kernel) sM_lt (Nat.le_of_ble_eq_true rfl) (fun K X hret => ?_)
  have X : CK sM D C ad K cX7_move 4 RX7 := X
  refine b_lv (lv' := [(0, .ref (ad 0)), (1, .int a1), (2, .int a2)]) rfl ?_
  unfold w_X7_move at h
  refine b_aload_n X dX7_move_0 rfl 0 rfl ?_
  refine b_iload_n X dX7_move_1 rfl 1 rfl ?_
  refine bVi (st := []) (nA := 1) X (c_X7_isPost l D C ad a1 μ _ h) kM_0 (by decide) (enc_7 kM_0) rfl gw_X7_216 ⟨rfl, hd_X7_isPost⟩ rfl rfl ⟨Nat.le_of_ble_eq_true rfl, Nat.le_of_ble_eq_true rfl⟩ rfl rfl (Nat.le_of_ble_eq_true rfl) dX7_move_2 (fun r1 μ2 h => ?_)
  obtain ⟨rfl, h⟩ := h
  refine b_if_eq (t := 16) X dX7_move_5 (by decide) (fun c => ?_) (fun c => ?_)
  · replace h := h.1 c
    refine b_ldc (v := ((-1000000001) : Int32)) X m_k_X7_219 dX7_move_16 ?_
    exact hret _ _ _ _ h dX7_move_18
  · replace h := h.2 c
    refine b_aload_n X dX7_move_8 rfl 0 rfl ?_
    refine b_iload_n X dX7_move_9 rfl 2 rfl ?_
    refine bVi (st := []) (nA := 1) X (c_X7_isCell l D C ad a2 μ _ h) kM_0 (by decide) (enc_7 kM_0) rfl gw_X7_287 ⟨rfl, hd_X7_isCell⟩ rfl rfl ⟨Nat.le_of_ble_eq_true rfl, Nat.le_of_ble_eq_true rfl⟩ rfl rfl (Nat.le_of_ble_eq_true rfl) dX7_move_10 (fun r3 μ4 h => ?_)
    obtain ⟨rfl, h⟩ := h
    refine b_if_ne (t := 19) X dX7_move_13 (by decide) (fun c => ?_) (fun c => ?_)
    · replace h := h.1 c
      refine b_aload_n X dX7_move_19 rfl 0 rfl ?_
      refine b_aload_n X dX7_move_20 rfl 0 rfl ?_
      refine g_7_29 X kM_0 m_f_X7_53 dX7_move_21 ?_
      refine b_iload_n X dX7_move_24 rfl 2 rfl ?_
      refine bVi (st := []) (nA := 2) X (c_X7_postIn l D C ad 14 kM_14 nM_14 a2 μ _ h) kM_0 (by decide) (enc_7 kM_0) rfl gw_X7_233 ⟨rfl, hd_X7_postIn⟩ rfl rfl ⟨Nat.le_of_ble_eq_true rfl, Nat.le_of_ble_eq_true rfl⟩ rfl rfl (Nat.le_of_ble_eq_true rfl) dX7_move_25 (fun r5 μ6 h => ?_)
      obtain ⟨rfl, h⟩ := h
      refine b_iconst (v := ((-1) : Int32)) X dX7_move_28 (by decide) ?_
      refine b_icmp_eq (t := 35) X dX7_move_29 (by decide) (fun c => ?_) (fun c => ?_)
      · replace h := h.1 c
        refine b_aload_n X dX7_move_35 rfl 0 rfl ?_
        refine bVv (st := []) (nA := 0) X (c_X7_remember l D C ad  μ _ h) kM_0 (by decide) (enc_7 kM_0) rfl gw_X7_277 ⟨rfl, hd_X7_remember⟩ rfl rfl ⟨Nat.le_of_ble_eq_true rfl, Nat.le_of_ble_eq_true rfl⟩ rfl rfl (Nat.le_of_ble_eq_true rfl) dX7_move_36 (fun μ8 h => ?_)
        refine b_aload_n X dX7_move_39 rfl 0 rfl ?_
        refine g_7_29 X kM_0 m_f_X7_53 dX7_move_40 ?_
        refine b_bipush (v := (nI 15)) X dX7_move_43 (by decide) ?_
        refine b_iload_n X dX7_move_45 rfl 1 rfl ?_
        refine b_iadd X dX7_move_46 ?_
        have hz := h.1
        replace h := h.2
        refine b_iald X kM_14 nM_14 hz dX7_move_47 ?_
        clear hz
        refine b_topi (fun x9 ex9 => ?_)
        replace h := h x9 ex9
        refine b_istore_n (lv' := [(3, .int x9), (0, .ref (ad 0)), (1, .int a1), (2, .int a2)]) X dX7_move_48 rfl (by decide) rfl ?_
        refine b_aload_n X dX7_move_49 rfl 1 rfl ?_
        refine g_7_29 X kM_0 m_f_X7_53 dX7_move_50 ?_
        refine b_bipush (v := (nI 15)) X dX7_move_53 (by decide) ?_
        refine b_iload_n X dX7_move_55 rfl 2 rfl ?_
        refine b_iadd X dX7_move_56 ?_
        refine b_iload_n X dX7_move_57 rfl 3 rfl ?_
        have hz := h.1
        replace h := h.2
        refine b_iast X kM_14 nM_14 hz dX7_move_58 (fun μ10 eμ10 => ?_)
        clear hz
        replace h := h μ10 eμ10
        refine b_iload_n X dX7_move_59 rfl 0 rfl ?_
        exact hret _ _ _ _ h dX7_move_60
      · replace h := h.2 c
        refine b_ldc (v := ((-1000000003) : Int32)) X m_k_X7_220 dX7_move_32 ?_
        exact hret _ _ _ _ h dX7_move_34
    · replace h := h.2 c
      refine b_ldc (v := ((-1000000001) : Int32)) X m_k_X7_219 dX7_move_16 ?_
      exact hret _ _ _ _ h dX7_move_18
set_option maxHeartbeats 4000000 in
set_option maxRecDepth 100000 in
theorem c_X7_lamp (l : Launch) (D : va_G) (C : Nat → ClassId) (ad : Nat → Nat) (a1 : Int32) (μ : Mem) (Q : Int32 → Mem → Prop) (h : w_X7_lamp a1 μ Q) : Mi sM l yX7_lamp cX7_lamp 3 (some .int) rm_X7_lamp D C ad [.ref (ad 0), .int a1] μ Q := by
  refine fm_i (by decide +kernel) sM_lt (Nat.le_of_ble_eq_true rfl) (fun K X hret => ?_)
  have X : CK sM D C ad K cX7_lamp 3 RX7 := X
  refine b_lv (lv' := [(0, .ref (ad 0)), (1, .int a1)]) rfl ?_
  unfold w_X7_lamp at h
  have B35 : ∀ (v2 : Int32) (s3 : Int32) (s2 : Int32) (μ : Mem), w_X7_lamp_35 a1 v2 s3 s2 μ Q → WB sM l D C ad rm_X7_lamp K 3 μ 35 [(2, .int v2)] [.int s3, .int s2, .ref (ad 14)] := by
    intro v2 s3 s2 μ h
    unfold w_X7_lamp_35 at h
    have hz := h.1
    replace h := h.2
    refine b_iast X kM_14 nM_14 hz dX7_lamp_35 (fun μ4 eμ4 => ?_)
    clear hz
    replace h := h μ4 eμ4
    refine b_iload_n X dX7_lamp_36 rfl 0 rfl ?_
    exact hret _ _ _ _ h dX7_lamp_37
  refine b_aload_n X dX7_lamp_0 rfl 0 rfl ?_
  refine g_7_17 X kM_0 m_f_X7_170 dX7_lamp_1 ?_
  refine b_if_ne (t := 10) X dX7_lamp_4 (by decide) (fun c => ?_) (fun c => ?_)
  · replace h := h.1 c
    refine b_aload_n X dX7_lamp_10 rfl 0 rfl ?_
    refine bVv (st := []) (nA := 0) X (c_X7_remember l D C ad  μ _ h) kM_0 (by decide) (enc_7 kM_0) rfl gw_X7_277 ⟨rfl, hd_X7_remember⟩ rfl rfl ⟨Nat.le_of_ble_eq_true rfl, Nat.le_of_ble_eq_true rfl⟩ rfl rfl (Nat.le_of_ble_eq_true rfl) dX7_lamp_11 (fun μ2 h => ?_)
    refine b_aload_n X dX7_lamp_14 rfl 0 rfl ?_
    refine g_7_29 X kM_0 m_f_X7_53 dX7_lamp_15 ?_
    refine b_iconst (v := (nI 2)) X dX7_lamp_18 (by decide) ?_
    have hz := h.1
    replace h := h.2
    refine b_iald X kM_14 nM_14 hz dX7_lamp_19 ?_
    clear hz
    refine b_topi (fun x3 ex3 => ?_)
    replace h := h x3 ex3
    refine b_istore_n (lv' := [(2, .int x3), (0, .ref (ad 0)), (1, .int a1)]) X dX7_lamp_20 rfl (by decide) rfl ?_
    refine b_aload_n X dX7_lamp_21 rfl 1 rfl ?_
    refine g_7_29 X kM_0 m_f_X7_53 dX7_lamp_22 ?_
    refine b_iconst (v := (nI 2)) X dX7_lamp_25 (by decide) ?_
    refine b_iload_n X dX7_lamp_26 rfl 2 rfl ?_
    refine b_if_eq (t := 34) X dX7_lamp_27 (by decide) (fun c => ?_) (fun c => ?_)
    · replace h := h.1 c
      refine b_iconst (v := (nI 0)) X dX7_lamp_34 (by decide) ?_
      refine b_sub (lv' := [(2, .int x3)]) [0] rfl ?_
      exact B35 x3 (nI 0) (nI 2) μ2 h
    · replace h := h.2 c
      refine b_iconst (v := (nI 1)) X dX7_lamp_30 (by decide) ?_
      refine b_goto (t := 35) X dX7_lamp_31 (by decide) ?_
      refine b_sub (lv' := [(2, .int x3)]) [0] rfl ?_
      exact B35 x3 (nI 1) (nI 2) μ2 h
  · replace h := h.2 c
    refine b_ldc (v := ((-1000000003) : Int32)) X m_k_X7_220 dX7_lamp_7 ?_
    exact hret _ _ _ _ h dX7_lamp_9
set_option maxHeartbeats 4000000 in
set_option maxRecDepth 100000 in
theorem c_X7_draw (l : Launch) (D : va_G) (C : Nat → ClassId) (ad : Nat → Nat) (a1 : Int32) (μ : Mem) (Q : Int32 → Mem → Prop) (h : w_X7_draw a1 μ Q) : Mi sM l yX7_draw cX7_draw 2 (some .int) rm_X7_draw D C ad [.ref (ad 0), .int a1] μ Q := by
  refine fm_i (by decide +kernel) sM_lt (Nat.le_of_ble_eq_true rfl) (fun K X hret => ?_)
  have X : CK sM D C ad K cX7_draw 2 RX7 := X
  refine b_lv (lv' := [(0, .ref (ad 0)), (1, .int a1)]) rfl ?_
  unfold w_X7_draw at h
  refine b_aload_n X dX7_draw_0 rfl 0 rfl ?_
  refine b_aload_n X dX7_draw_1 rfl 0 rfl ?_
  refine g_7_35 X kM_0 m_f_X7_290 dX7_draw_2 ?_
  refine b_ldc2 (v := (lN 1103515245)) X m_K_X7_294 dX7_draw_5 ?_
  refine b_lmul X dX7_draw_8 ?_
  refine b_ldc2 (v := (lN 12345)) X m_K_X7_296 dX7_draw_9 ?_
  refine b_ladd X dX7_draw_12 ?_
  refine b_ldc2 (v := (lN 2147483648)) X m_K_X7_298 dX7_draw_13 ?_
  have hz := h.1
  replace h := h.2
  refine b_lrem X dX7_draw_16 hz ?_
  clear hz
  refine b_topl (fun x1 ex1 => ?_)
  replace h := h x1 ex1
  refine p_7_35 X m_f_X7_290 dX7_draw_17 (fun μ2 eμ2 => ?_)
  replace h := h μ2 eμ2
  refine b_aload_n X dX7_draw_20 rfl 0 rfl ?_
  refine g_7_35 X kM_0 m_f_X7_290 dX7_draw_21 ?_
  refine b_ldc2 (v := (lN 65536)) X m_K_X7_300 dX7_draw_24 ?_
  have hz := h.1
  replace h := h.2
  refine b_ldiv X dX7_draw_27 hz ?_
  clear hz
  refine b_iload_n X dX7_draw_28 rfl 1 rfl ?_
  refine b_i2l X dX7_draw_29 ?_
  have hz := h.1
  replace h := h.2
  refine b_lrem X dX7_draw_30 hz ?_
  clear hz
  refine b_topl (fun x3 ex3 => ?_)
  replace h := h x3 ex3
  refine b_l2i X dX7_draw_31 ?_
  exact hret _ _ _ _ h dX7_draw_32
set_option maxHeartbeats 4000000 in
set_option maxRecDepth 100000 in
theorem c_X7_drift (l : Launch) (D : va_G) (C : Nat → ClassId) (ad : Nat → Nat) (a1 : Int32) (μ : Mem) (Q : Int32 → Mem → Prop) (h : w_X7_drift a1 μ Q) : Mi sM l yX7_drift cX7_drift 7 (some .int) rm_X7_drift D C ad [.ref (ad 0), .int a1] μ Q := by
  refine fm_i (by decide +kernel) sM_lt (Nat.le_of_ble_eq_true rfl) (fun K X hret => ?_)
  have X : CK sM D C ad K cX7_drift 7 RX7 := X
  refine b_lv (lv' := [(0, .ref (ad 0)), (1, .int a1)]) rfl ?_
  unfold w_X7_drift at h
  have B38 : ∀ (v3 : Int32) (v4 : Int32) (μ : Mem), w_X7_drift_38 a1 v3 v4 μ Q → WB sM l D C ad rm_X7_drift K 7 μ 38 [(0, .ref (ad 0)), (1, .int a1), (3, .int v3), (4, .int v4)] [] := by
    intro v3 v4 μ h
    obtain ⟨Y38, eY⟩ : ∃ Y : Int32 → Int32 → Mem → Prop, Y = fun (v3 : Int32) (v4 : Int32) (μ : Mem) => WB sM l D C ad rm_X7_drift K 7 μ 38 [(0, .ref (ad 0)), (1, .int a1), (3, .int v3), (4, .int v4)] [] := ⟨_, rfl⟩
    have B38 : Y38 v3 v4 μ := by
      unfold w_X7_drift_38 at h
      refine h Y38 ?_
      clear h
      intro v3 v4 μ h
      unfold s_X7_drift_38 at h
      rw [eY]
      show WB sM l D C ad rm_X7_drift K 7 μ 38 [(0, .ref (ad 0)), (1, .int a1), (3, .int v3), (4, .int v4)] []
      have T38 : ∀ (v3 : Int32) (v4 : Int32) (μ : Mem), Y38 v3 v4 μ → WB sM l D C ad rm_X7_drift K 7 μ 38 [(0, .ref (ad 0)), (1, .int a1), (3, .int v3), (4, .int v4)] [] := by
        intro v3 v4 μ h
        rw [eY] at h
        exact h
      clear eY
      have B77 : ∀ (v4 : Int32) (s5 : Int32) (s4 : Int32) (s1 : Int32) (μ : Mem), w_X7_drift_77 a1 Y38 v4 s5 s4 s1 μ Q → WB sM l D C ad rm_X7_drift K 7 μ 77 [(0, .ref (ad 0)), (1, .int a1), (4, .int v4)] [.int s5, .int s4, .ref (ad 14), .ref (ad 0), .int s1] := by
        intro v4 s5 s4 s1 μ h
        unfold w_X7_drift_77 at h
        have B121 : ∀ (v3 : Int32) (v4 : Int32) (μ : Mem), w_X7_drift_121 a1 Y38 v3 v4 μ Q → WB sM l D C ad rm_X7_drift K 7 μ 121 [(0, .ref (ad 0)), (1, .int a1), (3, .int v3), (4, .int v4)] [] := by
          intro v3 v4 μ h
          unfold w_X7_drift_121 at h
          obtain ⟨x22, ex22⟩ : ∃ y : Int32, y = v4 + (nI 1) := ⟨_, rfl⟩
          replace h := h x22 ex22
          refine b_iinc (x := x22) (lv' := [(4, .int x22), (0, .ref (ad 0)), (1, .int a1), (3, .int v3)]) (q := 3) X dX7_drift_121 rfl (by rw [ex22]; rfl) (by decide) rfl ?_
          refine b_goto (t := 38) X dX7_drift_124 (by decide) ?_
          refine b_sub (lv' := [(0, .ref (ad 0)), (1, .int a1), (3, .int v3), (4, .int x22)]) [1, 2, 3, 0] rfl ?_
          exact T38 v3 x22 μ h
        refine b_iconst (v := (nI 0)) X dX7_drift_77 (by decide) ?_
        refine bVi (st := [.int s1]) (nA := 4) X (c_X7_passes l D C ad 14 kM_14 nM_14 s4 s5 (nI 0) μ _ h) kM_0 (by decide) (enc_7 kM_0) rfl gw_X7_266 ⟨rfl, hd_X7_passes⟩ rfl rfl ⟨Nat.le_of_ble_eq_true rfl, Nat.le_of_ble_eq_true rfl⟩ rfl rfl (Nat.le_of_ble_eq_true rfl) dX7_drift_78 (fun r11 μ12 h => ?_)
        refine b_iadd X dX7_drift_81 ?_
        refine b_topi (fun x13 ex13 => ?_)
        replace h := h x13 ex13
        refine b_istore_n (lv' := [(3, .int x13), (0, .ref (ad 0)), (1, .int a1), (4, .int v4)]) X dX7_drift_82 rfl (by decide) rfl ?_
        refine b_aload_n X dX7_drift_83 rfl 1 rfl ?_
        refine g_7_20 X kM_0 m_f_X7_179 dX7_drift_84 ?_
        refine b_if_le (t := 121) X dX7_drift_87 (by decide) (fun c => ?_) (fun c => ?_)
        · replace h := h.1 c
          refine b_sub (lv' := [(0, .ref (ad 0)), (1, .int a1), (3, .int x13), (4, .int v4)]) [1, 2, 0, 3] rfl ?_
          exact B121 x13 v4 μ12 h
        · replace h := h.2 c
          refine b_aload_n X dX7_drift_90 rfl 1 rfl ?_
          refine b_bipush (v := (nI 8)) X dX7_drift_91 (by decide) ?_
          refine bVi (st := []) (nA := 1) X (c_X7_draw l D C ad (nI 8) μ12 _ h) kM_0 (by decide) (enc_7 kM_0) rfl gw_X7_302 ⟨rfl, hd_X7_draw⟩ rfl rfl ⟨Nat.le_of_ble_eq_true rfl, Nat.le_of_ble_eq_true rfl⟩ rfl rfl (Nat.le_of_ble_eq_true rfl) dX7_drift_93 (fun r14 μ15 h => ?_)
          refine b_if_ne (t := 121) X dX7_drift_96 (by decide) (fun c => ?_) (fun c => ?_)
          · replace h := h.1 c
            refine b_sub (lv' := [(0, .ref (ad 0)), (1, .int a1), (3, .int x13), (4, .int v4)]) [1, 2, 0, 3] rfl ?_
            exact B121 x13 v4 μ15 h
          · replace h := h.2 c
            refine b_aload_n X dX7_drift_99 rfl 1 rfl ?_
            refine b_aload_n X dX7_drift_100 rfl 1 rfl ?_
            refine g_7_20 X kM_0 m_f_X7_179 dX7_drift_101 ?_
            refine bVi (st := []) (nA := 1) X (c_X7_draw l D C ad (μ15.1 0 20) μ15 _ h) kM_0 (by decide) (enc_7 kM_0) rfl gw_X7_302 ⟨rfl, hd_X7_draw⟩ rfl rfl ⟨Nat.le_of_ble_eq_true rfl, Nat.le_of_ble_eq_true rfl⟩ rfl rfl (Nat.le_of_ble_eq_true rfl) dX7_drift_104 (fun r16 μ17 h => ?_)
            refine b_istore (lv' := [(6, .int r16), (3, .int x13), (0, .ref (ad 0)), (1, .int a1), (4, .int v4)]) X dX7_drift_107 (by decide) rfl ?_
            refine b_aload_n X dX7_drift_109 rfl 2 rfl ?_
            refine b_iload X dX7_drift_110 0 rfl ?_
            refine b_aload_n X dX7_drift_112 rfl 2 rfl ?_
            refine b_bipush (v := (nI 10)) X dX7_drift_113 (by decide) ?_
            refine bVi (st := [.int r16, .ref (ad 0)]) (nA := 1) X (c_X7_draw l D C ad (nI 10) μ17 _ h) kM_0 (by decide) (enc_7 kM_0) rfl gw_X7_302 ⟨rfl, hd_X7_draw⟩ rfl rfl ⟨Nat.le_of_ble_eq_true rfl, Nat.le_of_ble_eq_true rfl⟩ rfl rfl (Nat.le_of_ble_eq_true rfl) dX7_drift_115 (fun r18 μ19 h => ?_)
            refine bVv (st := []) (nA := 2) X (c_X7_licks l D C ad r16 r18 μ19 _ h) kM_0 (by decide) (enc_7 kM_0) rfl gw_X7_283 ⟨rfl, hd_X7_licks⟩ rfl rfl ⟨Nat.le_of_ble_eq_true rfl, Nat.le_of_ble_eq_true rfl⟩ rfl rfl (Nat.le_of_ble_eq_true rfl) dX7_drift_118 (fun μ21 h => ?_)
            refine b_sub (lv' := [(0, .ref (ad 0)), (1, .int a1), (3, .int x13), (4, .int v4)]) [2, 3, 1, 4] rfl ?_
            exact B121 x13 v4 μ21 h
      refine b_iload X dX7_drift_38 3 rfl ?_
      refine b_iload_n X dX7_drift_40 rfl 1 rfl ?_
      refine b_icmp_ge (t := 127) X dX7_drift_41 (by decide) (fun c => ?_) (fun c => ?_)
      · replace h := h.1 c
        refine b_iload_n X dX7_drift_127 rfl 2 rfl ?_
        exact hret _ _ _ _ h dX7_drift_128
      · replace h := h.2 c
        refine b_aload_n X dX7_drift_44 rfl 0 rfl ?_
        refine bVv (st := []) (nA := 0) X (c_X7_remember l D C ad  μ _ h) kM_0 (by decide) (enc_7 kM_0) rfl gw_X7_277 ⟨rfl, hd_X7_remember⟩ rfl rfl ⟨Nat.le_of_ble_eq_true rfl, Nat.le_of_ble_eq_true rfl⟩ rfl rfl (Nat.le_of_ble_eq_true rfl) dX7_drift_45 (fun μ6 h => ?_)
        refine b_aload_n X dX7_drift_48 rfl 0 rfl ?_
        refine b_bipush (v := (nI 41)) X dX7_drift_49 (by decide) ?_
        refine bVi (st := []) (nA := 1) X (c_X7_draw l D C ad (nI 41) μ6 _ h) kM_0 (by decide) (enc_7 kM_0) rfl gw_X7_302 ⟨rfl, hd_X7_draw⟩ rfl rfl ⟨Nat.le_of_ble_eq_true rfl, Nat.le_of_ble_eq_true rfl⟩ rfl rfl (Nat.le_of_ble_eq_true rfl) dX7_drift_51 (fun r7 μ8 h => ?_)
        refine b_istore (lv' := [(5, .int r7), (0, .ref (ad 0)), (1, .int a1), (3, .int v3), (4, .int v4)]) X dX7_drift_54 (by decide) rfl ?_
        refine b_iload_n X dX7_drift_56 rfl 3 rfl ?_
        refine b_aload_n X dX7_drift_57 rfl 1 rfl ?_
        refine b_aload_n X dX7_drift_58 rfl 1 rfl ?_
        refine g_7_29 X kM_0 m_f_X7_53 dX7_drift_59 ?_
        refine b_iload X dX7_drift_62 0 rfl ?_
        refine b_aload_n X dX7_drift_64 rfl 1 rfl ?_
        refine b_iconst (v := (nI 2)) X dX7_drift_65 (by decide) ?_
        refine bVi (st := [.int r7, .ref (ad 14), .ref (ad 0), .int v3]) (nA := 1) X (c_X7_draw l D C ad (nI 2) μ8 _ h) kM_0 (by decide) (enc_7 kM_0) rfl gw_X7_302 ⟨rfl, hd_X7_draw⟩ rfl rfl ⟨Nat.le_of_ble_eq_true rfl, Nat.le_of_ble_eq_true rfl⟩ rfl rfl (Nat.le_of_ble_eq_true rfl) dX7_drift_66 (fun r9 μ10 h => ?_)
        refine b_if_ne (t := 76) X dX7_drift_69 (by decide) (fun c => ?_) (fun c => ?_)
        · replace h := h.1 c
          refine b_iconst (v := (nI 1)) X dX7_drift_76 (by decide) ?_
          refine b_sub (lv' := [(0, .ref (ad 0)), (1, .int a1), (4, .int v4)]) [1, 2, 4] rfl ?_
          exact B77 v4 (nI 1) r7 v3 μ10 h
        · replace h := h.2 c
          refine b_iconst (v := (nI 0)) X dX7_drift_72 (by decide) ?_
          refine b_goto (t := 77) X dX7_drift_73 (by decide) ?_
          refine b_sub (lv' := [(0, .ref (ad 0)), (1, .int a1), (4, .int v4)]) [1, 2, 4] rfl ?_
          exact B77 v4 (nI 0) r7 v3 μ10 h
    rw [eY] at B38
    exact B38
  refine b_aload_n X dX7_drift_0 rfl 0 rfl ?_
  refine b_iload_n X dX7_drift_1 rfl 1 rfl ?_
  refine b_iconst (v := (nI 1)) X dX7_drift_2 (by decide) ?_
  refine b_bipush (v := (nI 60)) X dX7_drift_3 (by decide) ?_
  refine bSi (st := [.ref (ad 0)]) (nA := 3) X (c_X7_in l D C ad a1 (nI 1) (nI 60) μ _ h) gw_X7_85 hd_X7_in rfl rfl ⟨Nat.le_of_ble_eq_true rfl, Nat.le_of_ble_eq_true rfl⟩ rfl rfl (Nat.le_of_ble_eq_true rfl) dX7_drift_5 (fun r1 μ2 h => ?_)
  obtain ⟨rfl, h⟩ := h
  refine bVi (st := []) (nA := 1) X (c_X7_need l D C ad r1 μ _ h) kM_0 (by decide) (enc_7 kM_0) rfl gw_X7_273 ⟨rfl, hd_X7_need⟩ rfl rfl ⟨Nat.le_of_ble_eq_true rfl, Nat.le_of_ble_eq_true rfl⟩ rfl rfl (Nat.le_of_ble_eq_true rfl) dX7_drift_8 (fun r3 μ4 h => ?_)
  obtain ⟨rfl, h⟩ := h
  refine b_istore_n (lv' := [(2, .int r3), (0, .ref (ad 0)), (1, .int a1)]) X dX7_drift_11 rfl (by decide) rfl ?_
  refine b_iload_n X dX7_drift_12 rfl 0 rfl ?_
  refine b_if_ge (t := 18) X dX7_drift_13 (by decide) (fun c => ?_) (fun c => ?_)
  · replace h := h.1 c
    refine b_aload_n X dX7_drift_18 rfl 1 rfl ?_
    refine g_7_29 X kM_0 m_f_X7_53 dX7_drift_19 ?_
    refine b_iconst (v := (nI 0)) X dX7_drift_22 (by decide) ?_
    have hz := h.1
    replace h := h.2
    refine b_iald X kM_14 nM_14 hz dX7_drift_23 ?_
    clear hz
    refine b_sipush (v := (nI 9000)) X dX7_drift_24 (by decide) ?_
    refine b_icmp_le (t := 33) X dX7_drift_27 (by decide) (fun c => ?_) (fun c => ?_)
    · replace h := h.1 c
      refine b_iconst (v := (nI 0)) X dX7_drift_33 (by decide) ?_
      refine b_istore_n (lv' := [(3, .int (nI 0)), (2, .int r3), (0, .ref (ad 0)), (1, .int a1)]) X dX7_drift_34 rfl (by decide) rfl ?_
      refine b_iconst (v := (nI 0)) X dX7_drift_35 (by decide) ?_
      refine b_istore (lv' := [(4, .int (nI 0)), (3, .int (nI 0)), (2, .int r3), (0, .ref (ad 0)), (1, .int a1)]) X dX7_drift_36 (by decide) rfl ?_
      refine b_sub (lv' := [(0, .ref (ad 0)), (1, .int a1), (3, .int (nI 0)), (4, .int (nI 0))]) [3, 4, 1, 0] rfl ?_
      exact B38 (nI 0) (nI 0) μ h
    · replace h := h.2 c
      refine b_ldc (v := ((-1000000004) : Int32)) X m_k_X7_93 dX7_drift_30 ?_
      exact hret _ _ _ _ h dX7_drift_32
  · replace h := h.2 c
    refine b_iload_n X dX7_drift_16 rfl 0 rfl ?_
    exact hret _ _ _ _ h dX7_drift_17
set_option maxHeartbeats 4000000 in
set_option maxRecDepth 100000 in
theorem c_X7_undo (l : Launch) (D : va_G) (C : Nat → ClassId) (ad : Nat → Nat) (a1 : Int32) (μ : Mem) (Q : Int32 → Mem → Prop) (h : w_X7_undo a1 μ Q) : Mi sM l yX7_undo cX7_undo 3 (some .int) rm_X7_undo D C ad [.ref (ad 0), .int a1] μ Q := by
  refine fm_i (by decide +kernel) sM_lt (Nat.le_of_ble_eq_true rfl) (fun K X hret => ?_)
  have X : CK sM D C ad K cX7_undo 3 RX7 := X
  refine b_lv (lv' := [(0, .ref (ad 0)), (1, .int a1)]) rfl ?_
  unfold w_X7_undo at h
  have B52 : ∀ (v2 : Int32) (μ : Mem), w_X7_undo_52 a1 v2 μ Q → WB sM l D C ad rm_X7_undo K 3 μ 52 [(0, .ref (ad 0)), (2, .int v2)] [] := by
    intro v2 μ h
    obtain ⟨Y52, eY⟩ : ∃ Y : Int32 → Mem → Prop, Y = fun (v2 : Int32) (μ : Mem) => WB sM l D C ad rm_X7_undo K 3 μ 52 [(0, .ref (ad 0)), (2, .int v2)] [] := ⟨_, rfl⟩
    have B52 : Y52 v2 μ := by
      unfold w_X7_undo_52 at h
      refine h Y52 ?_
      clear h
      intro v2 μ h
      unfold s_X7_undo_52 at h
      rw [eY]
      show WB sM l D C ad rm_X7_undo K 3 μ 52 [(0, .ref (ad 0)), (2, .int v2)] []
      have T52 : ∀ (v2 : Int32) (μ : Mem), Y52 v2 μ → WB sM l D C ad rm_X7_undo K 3 μ 52 [(0, .ref (ad 0)), (2, .int v2)] [] := by
        intro v2 μ h
        rw [eY] at h
        exact h
      clear eY
      refine b_iload_n X dX7_undo_52 rfl 1 rfl ?_
      refine b_bipush (v := (nI 27)) X dX7_undo_53 (by decide) ?_
      refine b_icmp_ge (t := 84) X dX7_undo_55 (by decide) (fun c => ?_) (fun c => ?_)
      · replace h := h.1 c
        refine b_aload_n X dX7_undo_84 rfl 0 rfl ?_
        refine g_7_29 X kM_0 m_f_X7_53 dX7_undo_85 ?_
        refine b_iconst (v := (nI 0)) X dX7_undo_88 (by decide) ?_
        have hz := h.1
        replace h := h.2
        refine b_iald X kM_14 nM_14 hz dX7_undo_89 ?_
        clear hz
        exact hret _ _ _ _ h dX7_undo_90
      · replace h := h.2 c
        refine b_aload_n X dX7_undo_58 rfl 0 rfl ?_
        refine g_7_29 X kM_0 m_f_X7_53 dX7_undo_59 ?_
        refine b_iload_n X dX7_undo_62 rfl 1 rfl ?_
        refine b_aload_n X dX7_undo_63 rfl 0 rfl ?_
        refine g_7_34 X kM_0 m_f_X7_62 dX7_undo_64 ?_
        refine b_bipush (v := (nI 27)) X dX7_undo_67 (by decide) ?_
        refine b_aload_n X dX7_undo_69 rfl 0 rfl ?_
        refine g_7_33 X kM_0 m_f_X7_270 dX7_undo_70 ?_
        refine b_imul X dX7_undo_73 ?_
        refine b_iload_n X dX7_undo_74 rfl 1 rfl ?_
        refine b_iadd X dX7_undo_75 ?_
        have hz := h.1
        replace h := h.2
        refine b_iald X kM_17 nM_17 hz dX7_undo_76 ?_
        clear hz
        have hz := h.1
        replace h := h.2
        refine b_iast X kM_14 nM_14 hz dX7_undo_77 (fun μ6 eμ6 => ?_)
        clear hz
        replace h := h μ6 eμ6
        obtain ⟨x7, ex7⟩ : ∃ y : Int32, y = v2 + (nI 1) := ⟨_, rfl⟩
        replace h := h x7 ex7
        refine b_iinc (x := x7) (lv' := [(2, .int x7), (0, .ref (ad 0))]) (q := 1) X dX7_undo_78 rfl (by rw [ex7]; rfl) (by decide) rfl ?_
        refine b_goto (t := 52) X dX7_undo_81 (by decide) ?_
        refine b_sub (lv' := [(0, .ref (ad 0)), (2, .int x7)]) [1, 0] rfl ?_
        exact T52 x7 μ6 h
    rw [eY] at B52
    exact B52
  refine b_iload_n X dX7_undo_0 rfl 1 rfl ?_
  refine b_iconst (v := (nI 1)) X dX7_undo_1 (by decide) ?_
  refine b_bipush (v := (nI 30)) X dX7_undo_2 (by decide) ?_
  refine bSi (st := []) (nA := 3) X (c_X7_in l D C ad a1 (nI 1) (nI 30) μ _ h) gw_X7_85 hd_X7_in rfl rfl ⟨Nat.le_of_ble_eq_true rfl, Nat.le_of_ble_eq_true rfl⟩ rfl rfl (Nat.le_of_ble_eq_true rfl) dX7_undo_4 (fun r1 μ2 h => ?_)
  obtain ⟨rfl, h⟩ := h
  refine b_if_ne (t := 13) X dX7_undo_7 (by decide) (fun c => ?_) (fun c => ?_)
  · replace h := h.1 c
    refine b_aload_n X dX7_undo_13 rfl 0 rfl ?_
    refine g_7_32 X kM_0 m_f_X7_194 dX7_undo_14 ?_
    refine b_iload_n X dX7_undo_17 rfl 1 rfl ?_
    refine b_icmp_ge (t := 24) X dX7_undo_18 (by decide) (fun c => ?_) (fun c => ?_)
    · replace h := h.1 c
      refine b_aload_n X dX7_undo_24 rfl 0 rfl ?_
      refine b_aload_n X dX7_undo_25 rfl 0 rfl ?_
      refine g_7_33 X kM_0 m_f_X7_270 dX7_undo_26 ?_
      refine b_bipush (v := (nI 30)) X dX7_undo_29 (by decide) ?_
      refine b_iadd X dX7_undo_31 ?_
      refine b_iload_n X dX7_undo_32 rfl 1 rfl ?_
      refine b_isub X dX7_undo_33 ?_
      refine b_bipush (v := (nI 30)) X dX7_undo_34 (by decide) ?_
      have hz := h.1
      replace h := h.2
      refine b_irem X dX7_undo_36 hz ?_
      clear hz
      refine b_topi (fun x3 ex3 => ?_)
      replace h := h x3 ex3
      refine p_7_33 X kM_0 m_f_X7_270 dX7_undo_37 (fun μ4 eμ4 => ?_)
      replace h := h μ4 eμ4
      refine b_aload_n X dX7_undo_40 rfl 0 rfl ?_
      refine b_dup X dX7_undo_41 rfl ?_
      refine g_7_32 X kM_0 m_f_X7_194 dX7_undo_42 ?_
      refine b_iload_n X dX7_undo_45 rfl 1 rfl ?_
      refine b_isub X dX7_undo_46 ?_
      refine p_7_32 X kM_0 m_f_X7_194 dX7_undo_47 (fun μ5 eμ5 => ?_)
      replace h := h μ5 eμ5
      refine b_iconst (v := (nI 0)) X dX7_undo_50 (by decide) ?_
      refine b_istore_n (lv' := [(2, .int (nI 0)), (0, .ref (ad 0)), (1, .int a1)]) X dX7_undo_51 rfl (by decide) rfl ?_
      refine b_sub (lv' := [(0, .ref (ad 0)), (2, .int (nI 0))]) [1, 0] rfl ?_
      exact B52 (nI 0) μ5 h
    · replace h := h.2 c
      refine b_ldc (v := ((-1000000003) : Int32)) X m_k_X7_220 dX7_undo_21 ?_
      exact hret _ _ _ _ h dX7_undo_23
  · replace h := h.2 c
    refine b_ldc (v := ((-1000000002) : Int32)) X m_k_X7_89 dX7_undo_10 ?_
    exact hret _ _ _ _ h dX7_undo_12
set_option maxHeartbeats 4000000 in
set_option maxRecDepth 100000 in
theorem c_X7_copyNow (l : Launch) (D : va_G) (C : Nat → ClassId) (ad : Nat → Nat)  (μ : Mem) (Q : Mem → Prop) (h : w_X7_copyNow  μ Q) : Mv sM l yX7_copyNow cX7_copyNow 2 none rm_X7_copyNow D C ad [.ref (ad 0)] μ Q := by
  refine fm_v (by decide +kernel) sM_lt (Nat.le_of_ble_eq_true rfl) (fun K X hret => ?_)
  have X : CK sM D C ad K cX7_copyNow 2 RX7 := X
  refine b_lv (lv' := [(0, .ref (ad 0))]) rfl ?_
  unfold w_X7_copyNow at h
  have B2 : ∀ (v1 : Int32) (μ : Mem), w_X7_copyNow_2 v1 μ Q → WB sM l D C ad rm_X7_copyNow K 2 μ 2 [(0, .ref (ad 0)), (1, .int v1)] [] := by
    intro v1 μ h
    obtain ⟨Y2, eY⟩ : ∃ Y : Int32 → Mem → Prop, Y = fun (v1 : Int32) (μ : Mem) => WB sM l D C ad rm_X7_copyNow K 2 μ 2 [(0, .ref (ad 0)), (1, .int v1)] [] := ⟨_, rfl⟩
    have B2 : Y2 v1 μ := by
      unfold w_X7_copyNow_2 at h
      refine h Y2 ?_
      clear h
      intro v1 μ h
      unfold s_X7_copyNow_2 at h
      rw [eY]
      show WB sM l D C ad rm_X7_copyNow K 2 μ 2 [(0, .ref (ad 0)), (1, .int v1)] []
      have T2 : ∀ (v1 : Int32) (μ : Mem), Y2 v1 μ → WB sM l D C ad rm_X7_copyNow K 2 μ 2 [(0, .ref (ad 0)), (1, .int v1)] [] := by
        intro v1 μ h
        rw [eY] at h
        exact h
      clear eY
      refine b_iload_n X dX7_copyNow_2 rfl 1 rfl ?_
      refine b_bipush (v := (nI 27)) X dX7_copyNow_3 (by decide) ?_
      refine b_icmp_ge (t := 26) X dX7_copyNow_5 (by decide) (fun c => ?_) (fun c => ?_)
      · replace h := h.1 c
        exact hret _ _ _ h dX7_copyNow_26
      · replace h := h.2 c
        refine b_aload_n X dX7_copyNow_8 rfl 0 rfl ?_
        refine g_7_30 X kM_0 m_f_X7_56 dX7_copyNow_9 ?_
        refine b_iload_n X dX7_copyNow_12 rfl 1 rfl ?_
        refine b_aload_n X dX7_copyNow_13 rfl 0 rfl ?_
        refine g_7_29 X kM_0 m_f_X7_53 dX7_copyNow_14 ?_
        refine b_iload_n X dX7_copyNow_17 rfl 1 rfl ?_
        have hz := h.1
        replace h := h.2
        refine b_iald X kM_14 nM_14 hz dX7_copyNow_18 ?_
        clear hz
        have hz := h.1
        replace h := h.2
        refine b_iast X kM_15 nM_15 hz dX7_copyNow_19 (fun μ1 eμ1 => ?_)
        clear hz
        replace h := h μ1 eμ1
        obtain ⟨x2, ex2⟩ : ∃ y : Int32, y = v1 + (nI 1) := ⟨_, rfl⟩
        replace h := h x2 ex2
        refine b_iinc (x := x2) (lv' := [(1, .int x2), (0, .ref (ad 0))]) (q := 1) X dX7_copyNow_20 rfl (by rw [ex2]; rfl) (by decide) rfl ?_
        refine b_goto (t := 2) X dX7_copyNow_23 (by decide) ?_
        refine b_sub (lv' := [(0, .ref (ad 0)), (1, .int x2)]) [1, 0] rfl ?_
        exact T2 x2 μ1 h
    rw [eY] at B2
    exact B2
  refine b_iconst (v := (nI 0)) X dX7_copyNow_0 (by decide) ?_
  refine b_istore_n (lv' := [(1, .int (nI 0)), (0, .ref (ad 0))]) X dX7_copyNow_1 rfl (by decide) rfl ?_
  refine b_sub (lv' := [(0, .ref (ad 0)), (1, .int (nI 0))]) [1, 0] rfl ?_
  exact B2 (nI 0) μ h
set_option maxHeartbeats 4000000 in
set_option maxRecDepth 100000 in
theorem c_X7_goesOn (l : Launch) (D : va_G) (C : Nat → ClassId) (ad : Nat → Nat) (a1 : Int32) (μ : Mem) (Q : Mem → Prop) (h : w_X7_goesOn a1 μ Q) : Mv sM l yX7_goesOn cX7_goesOn 4 none rm_X7_goesOn D C ad [.ref (ad 0), .int a1] μ Q := by
  refine fm_v (by decide +kernel) sM_lt (Nat.le_of_ble_eq_true rfl) (fun K X hret => ?_)
  have X : CK sM D C ad K cX7_goesOn 4 RX7 := X
  refine b_lv (lv' := [(0, .ref (ad 0)), (1, .int a1)]) rfl ?_
  unfold w_X7_goesOn at h
  have B2 : ∀ (v2 : Int32) (μ : Mem), w_X7_goesOn_2 a1 v2 μ Q → WB sM l D C ad rm_X7_goesOn K 4 μ 2 [(0, .ref (ad 0)), (1, .int a1), (2, .int v2)] [] := by
    intro v2 μ h
    obtain ⟨Y2, eY⟩ : ∃ Y : Int32 → Mem → Prop, Y = fun (v2 : Int32) (μ : Mem) => WB sM l D C ad rm_X7_goesOn K 4 μ 2 [(0, .ref (ad 0)), (1, .int a1), (2, .int v2)] [] := ⟨_, rfl⟩
    have B2 : Y2 v2 μ := by
      unfold w_X7_goesOn_2 at h
      refine h Y2 ?_
      clear h
      intro v2 μ h
      unfold s_X7_goesOn_2 at h
      rw [eY]
      show WB sM l D C ad rm_X7_goesOn K 4 μ 2 [(0, .ref (ad 0)), (1, .int a1), (2, .int v2)] []
      have T2 : ∀ (v2 : Int32) (μ : Mem), Y2 v2 μ → WB sM l D C ad rm_X7_goesOn K 4 μ 2 [(0, .ref (ad 0)), (1, .int a1), (2, .int v2)] [] := by
        intro v2 μ h
        rw [eY] at h
        exact h
      clear eY
      have B23 : ∀ (μ : Mem), w_X7_goesOn_23 a1 μ Q → WB sM l D C ad rm_X7_goesOn K 4 μ 23 [(0, .ref (ad 0)), (1, .int a1)] [] := by
        intro μ h
        unfold w_X7_goesOn_23 at h
        have B25 : ∀ (v2 : Int32) (μ : Mem), w_X7_goesOn_25 a1 v2 μ Q → WB sM l D C ad rm_X7_goesOn K 4 μ 25 [(0, .ref (ad 0)), (1, .int a1), (2, .int v2)] [] := by
          intro v2 μ h
          obtain ⟨Y25, eY⟩ : ∃ Y : Int32 → Mem → Prop, Y = fun (v2 : Int32) (μ : Mem) => WB sM l D C ad rm_X7_goesOn K 4 μ 25 [(0, .ref (ad 0)), (1, .int a1), (2, .int v2)] [] := ⟨_, rfl⟩
          have B25 : Y25 v2 μ := by
            unfold w_X7_goesOn_25 at h
            refine h Y25 ?_
            clear h
            intro v2 μ h
            unfold s_X7_goesOn_25 at h
            rw [eY]
            show WB sM l D C ad rm_X7_goesOn K 4 μ 25 [(0, .ref (ad 0)), (1, .int a1), (2, .int v2)] []
            have T25 : ∀ (v2 : Int32) (μ : Mem), Y25 v2 μ → WB sM l D C ad rm_X7_goesOn K 4 μ 25 [(0, .ref (ad 0)), (1, .int a1), (2, .int v2)] [] := by
              intro v2 μ h
              rw [eY] at h
              exact h
            clear eY
            have B41 : ∀ (v2 : Int32) (v3 : Int32) (μ : Mem), w_X7_goesOn_41 a1 Y25 v2 v3 μ Q → WB sM l D C ad rm_X7_goesOn K 4 μ 41 [(0, .ref (ad 0)), (1, .int a1), (2, .int v2), (3, .int v3)] [] := by
              intro v2 v3 μ h
              obtain ⟨Y41, eY⟩ : ∃ Y : Int32 → Mem → Prop, Y = fun (v3 : Int32) (μ : Mem) => WB sM l D C ad rm_X7_goesOn K 4 μ 41 [(0, .ref (ad 0)), (1, .int a1), (2, .int v2), (3, .int v3)] [] := ⟨_, rfl⟩
              have B41 : Y41 v3 μ := by
                unfold w_X7_goesOn_41 at h
                refine h Y41 ?_
                clear h
                intro v3 μ h
                unfold s_X7_goesOn_41 at h
                rw [eY]
                show WB sM l D C ad rm_X7_goesOn K 4 μ 41 [(0, .ref (ad 0)), (1, .int a1), (2, .int v2), (3, .int v3)] []
                have T41 : ∀ (v3 : Int32) (μ : Mem), Y41 v3 μ → WB sM l D C ad rm_X7_goesOn K 4 μ 41 [(0, .ref (ad 0)), (1, .int a1), (2, .int v2), (3, .int v3)] [] := by
                  intro v3 μ h
                  rw [eY] at h
                  exact h
                clear eY
                have B70 : ∀ (v2 : Int32) (μ : Mem), w_X7_goesOn_70 a1 Y25 v2 μ Q → WB sM l D C ad rm_X7_goesOn K 4 μ 70 [(0, .ref (ad 0)), (1, .int a1), (2, .int v2)] [] := by
                  intro v2 μ h
                  unfold w_X7_goesOn_70 at h
                  obtain ⟨x7, ex7⟩ : ∃ y : Int32, y = v2 + (nI 1) := ⟨_, rfl⟩
                  replace h := h x7 ex7
                  refine b_iinc (x := x7) (lv' := [(2, .int x7), (0, .ref (ad 0)), (1, .int a1)]) (q := 2) X dX7_goesOn_70 rfl (by rw [ex7]; rfl) (by decide) rfl ?_
                  refine b_goto (t := 25) X dX7_goesOn_73 (by decide) ?_
                  refine b_sub (lv' := [(0, .ref (ad 0)), (1, .int a1), (2, .int x7)]) [1, 2, 0] rfl ?_
                  exact T25 x7 μ h
                refine b_iload_n X dX7_goesOn_41 rfl 3 rfl ?_
                refine b_aload_n X dX7_goesOn_42 rfl 0 rfl ?_
                refine g_7_20 X kM_0 m_f_X7_179 dX7_goesOn_43 ?_
                refine b_icmp_ge (t := 70) X dX7_goesOn_46 (by decide) (fun c => ?_) (fun c => ?_)
                · replace h := h.1 c
                  refine b_sub (lv' := [(0, .ref (ad 0)), (1, .int a1), (2, .int v2)]) [0, 1, 2] rfl ?_
                  exact B70 v2 μ h
                · replace h := h.2 c
                  refine b_aload_n X dX7_goesOn_49 rfl 0 rfl ?_
                  refine g_7_36 X kM_0 m_f_X7_65 dX7_goesOn_50 ?_
                  refine b_iload_n X dX7_goesOn_53 rfl 3 rfl ?_
                  refine b_dup2 X dX7_goesOn_54 rfl rfl ?_
                  have hz := h.1
                  replace h := h.2
                  refine b_iald X kM_18 nM_18 hz dX7_goesOn_55 ?_
                  clear hz
                  refine b_aload_n X dX7_goesOn_56 rfl 0 rfl ?_
                  refine g_7_31 X kM_0 m_f_X7_59 dX7_goesOn_57 ?_
                  refine b_iload_n X dX7_goesOn_60 rfl 3 rfl ?_
                  have hz := h.1
                  replace h := h.2
                  refine b_iald X kM_16 nM_16 hz dX7_goesOn_61 ?_
                  clear hz
                  refine b_iadd X dX7_goesOn_62 ?_
                  have hz := h.1
                  replace h := h.2
                  refine b_iast X kM_18 nM_18 hz dX7_goesOn_63 (fun μ5 eμ5 => ?_)
                  clear hz
                  replace h := h μ5 eμ5
                  obtain ⟨x6, ex6⟩ : ∃ y : Int32, y = v3 + (nI 1) := ⟨_, rfl⟩
                  replace h := h x6 ex6
                  refine b_iinc (x := x6) (lv' := [(3, .int x6), (0, .ref (ad 0)), (1, .int a1), (2, .int v2)]) (q := 3) X dX7_goesOn_64 rfl (by rw [ex6]; rfl) (by decide) rfl ?_
                  refine b_goto (t := 41) X dX7_goesOn_67 (by decide) ?_
                  refine b_sub (lv' := [(0, .ref (ad 0)), (1, .int a1), (2, .int v2), (3, .int x6)]) [1, 2, 3, 0] rfl ?_
                  exact T41 x6 μ5 h
              rw [eY] at B41
              exact B41
            refine b_iload_n X dX7_goesOn_25 rfl 2 rfl ?_
            refine b_iload_n X dX7_goesOn_26 rfl 1 rfl ?_
            refine b_icmp_ge (t := 76) X dX7_goesOn_27 (by decide) (fun c => ?_) (fun c => ?_)
            · replace h := h.1 c
              exact hret _ _ _ h dX7_goesOn_76
            · replace h := h.2 c
              refine b_aload_n X dX7_goesOn_30 rfl 0 rfl ?_
              refine b_aload_n X dX7_goesOn_31 rfl 0 rfl ?_
              refine g_7_30 X kM_0 m_f_X7_56 dX7_goesOn_32 ?_
              refine bVi (st := []) (nA := 1) X (c_X7_passesOn l D C ad 15 kM_15 nM_15 μ _ h) kM_0 (by decide) (enc_7 kM_0) rfl gw_X7_280 ⟨rfl, hd_X7_passesOn⟩ rfl rfl ⟨Nat.le_of_ble_eq_true rfl, Nat.le_of_ble_eq_true rfl⟩ rfl rfl (Nat.le_of_ble_eq_true rfl) dX7_goesOn_35 (fun r3 μ4 h => ?_)
              refine b_pop X dX7_goesOn_38 rfl ?_
              refine b_iconst (v := (nI 0)) X dX7_goesOn_39 (by decide) ?_
              refine b_istore_n (lv' := [(3, .int (nI 0)), (0, .ref (ad 0)), (1, .int a1), (2, .int v2)]) X dX7_goesOn_40 rfl (by decide) rfl ?_
              refine b_sub (lv' := [(0, .ref (ad 0)), (1, .int a1), (2, .int v2), (3, .int (nI 0))]) [1, 2, 3, 0] rfl ?_
              exact B41 v2 (nI 0) μ4 h
          rw [eY] at B25
          exact B25
        refine b_iconst (v := (nI 0)) X dX7_goesOn_23 (by decide) ?_
        refine b_istore_n (lv' := [(2, .int (nI 0)), (0, .ref (ad 0)), (1, .int a1)]) X dX7_goesOn_24 rfl (by decide) rfl ?_
        refine b_sub (lv' := [(0, .ref (ad 0)), (1, .int a1), (2, .int (nI 0))]) [1, 2, 0] rfl ?_
        exact B25 (nI 0) μ h
      refine b_iload_n X dX7_goesOn_2 rfl 2 rfl ?_
      refine b_aload_n X dX7_goesOn_3 rfl 0 rfl ?_
      refine g_7_20 X kM_0 m_f_X7_179 dX7_goesOn_4 ?_
      refine b_icmp_ge (t := 23) X dX7_goesOn_7 (by decide) (fun c => ?_) (fun c => ?_)
      · replace h := h.1 c
        refine b_sub (lv' := [(0, .ref (ad 0)), (1, .int a1)]) [0, 1] rfl ?_
        exact B23 μ h
      · replace h := h.2 c
        refine b_aload_n X dX7_goesOn_10 rfl 0 rfl ?_
        refine g_7_36 X kM_0 m_f_X7_65 dX7_goesOn_11 ?_
        refine b_iload_n X dX7_goesOn_14 rfl 2 rfl ?_
        refine b_iconst (v := (nI 0)) X dX7_goesOn_15 (by decide) ?_
        have hz := h.1
        replace h := h.2
        refine b_iast X kM_18 nM_18 hz dX7_goesOn_16 (fun μ1 eμ1 => ?_)
        clear hz
        replace h := h μ1 eμ1
        obtain ⟨x2, ex2⟩ : ∃ y : Int32, y = v2 + (nI 1) := ⟨_, rfl⟩
        replace h := h x2 ex2
        refine b_iinc (x := x2) (lv' := [(2, .int x2), (0, .ref (ad 0)), (1, .int a1)]) (q := 2) X dX7_goesOn_17 rfl (by rw [ex2]; rfl) (by decide) rfl ?_
        refine b_goto (t := 2) X dX7_goesOn_20 (by decide) ?_
        refine b_sub (lv' := [(0, .ref (ad 0)), (1, .int a1), (2, .int x2)]) [1, 2, 0] rfl ?_
        exact T2 x2 μ1 h
    rw [eY] at B2
    exact B2
  refine b_iconst (v := (nI 0)) X dX7_goesOn_0 (by decide) ?_
  refine b_istore_n (lv' := [(2, .int (nI 0)), (0, .ref (ad 0)), (1, .int a1)]) X dX7_goesOn_1 rfl (by decide) rfl ?_
  refine b_sub (lv' := [(0, .ref (ad 0)), (1, .int a1), (2, .int (nI 0))]) [1, 2, 0] rfl ?_
  exact B2 (nI 0) μ h
set_option maxHeartbeats 4000000 in
set_option maxRecDepth 100000 in
theorem c_X7_gets (l : Launch) (D : va_G) (C : Nat → ClassId) (ad : Nat → Nat) (a1 : Int32) (a2 : Int32) (μ : Mem) (Q : Int32 → Mem → Prop) (h : w_X7_gets a1 a2 μ Q) : Mi sM l yX7_gets cX7_gets 3 (some .int) rm_X7_gets D C ad [.ref (ad 0), .int a1, .int a2] μ Q := by
  refine fm_i (by decide +kernel) sM_lt (Nat.le_of_ble_eq_true rfl) (fun K X hret => ?_)
  have X : CK sM D C ad K cX7_gets 3 RX7 := X
  refine b_lv (lv' := [(0, .ref (ad 0)), (1, .int a1), (2, .int a2)]) rfl ?_
  unfold w_X7_gets at h
  refine b_aload_n X dX7_gets_0 rfl 0 rfl ?_
  refine b_iload_n X dX7_gets_1 rfl 1 rfl ?_
  refine bVi (st := []) (nA := 1) X (c_X7_isPost l D C ad a1 μ _ h) kM_0 (by decide) (enc_7 kM_0) rfl gw_X7_216 ⟨rfl, hd_X7_isPost⟩ rfl rfl ⟨Nat.le_of_ble_eq_true rfl, Nat.le_of_ble_eq_true rfl⟩ rfl rfl (Nat.le_of_ble_eq_true rfl) dX7_gets_2 (fun r1 μ2 h => ?_)
  obtain ⟨rfl, h⟩ := h
  refine b_if_ne (t := 11) X dX7_gets_5 (by decide) (fun c => ?_) (fun c => ?_)
  · replace h := h.1 c
    refine b_iload_n X dX7_gets_11 rfl 2 rfl ?_
    refine b_iconst (v := (nI 0)) X dX7_gets_12 (by decide) ?_
    refine b_bipush (v := (nI 99)) X dX7_gets_13 (by decide) ?_
    refine bSi (st := []) (nA := 3) X (c_X7_in l D C ad a2 (nI 0) (nI 99) μ _ h) gw_X7_85 hd_X7_in rfl rfl ⟨Nat.le_of_ble_eq_true rfl, Nat.le_of_ble_eq_true rfl⟩ rfl rfl (Nat.le_of_ble_eq_true rfl) dX7_gets_15 (fun r3 μ4 h => ?_)
    obtain ⟨rfl, h⟩ := h
    refine b_if_ne (t := 24) X dX7_gets_18 (by decide) (fun c => ?_) (fun c => ?_)
    · replace h := h.1 c
      refine b_aload_n X dX7_gets_24 rfl 0 rfl ?_
      refine bVv (st := []) (nA := 0) X (c_X7_copyNow l D C ad  μ _ h) kM_0 (by decide) (enc_7 kM_0) rfl gw_X7_305 ⟨rfl, hd_X7_copyNow⟩ rfl rfl ⟨Nat.le_of_ble_eq_true rfl, Nat.le_of_ble_eq_true rfl⟩ rfl rfl (Nat.le_of_ble_eq_true rfl) dX7_gets_25 (fun μ6 h => ?_)
      refine b_aload_n X dX7_gets_28 rfl 0 rfl ?_
      refine b_iload_n X dX7_gets_29 rfl 2 rfl ?_
      refine bVv (st := []) (nA := 1) X (c_X7_goesOn l D C ad a2 μ6 _ h) kM_0 (by decide) (enc_7 kM_0) rfl gw_X7_308 ⟨rfl, hd_X7_goesOn⟩ rfl rfl ⟨Nat.le_of_ble_eq_true rfl, Nat.le_of_ble_eq_true rfl⟩ rfl rfl (Nat.le_of_ble_eq_true rfl) dX7_gets_30 (fun μ8 h => ?_)
      refine b_aload_n X dX7_gets_33 rfl 0 rfl ?_
      refine g_7_36 X kM_0 m_f_X7_65 dX7_gets_34 ?_
      refine b_iload_n X dX7_gets_37 rfl 1 rfl ?_
      have hz := h.1
      replace h := h.2
      refine b_iald X kM_18 nM_18 hz dX7_gets_38 ?_
      clear hz
      exact hret _ _ _ _ h dX7_gets_39
    · replace h := h.2 c
      refine b_ldc (v := ((-1000000002) : Int32)) X m_k_X7_89 dX7_gets_21 ?_
      exact hret _ _ _ _ h dX7_gets_23
  · replace h := h.2 c
    refine b_ldc (v := ((-1000000001) : Int32)) X m_k_X7_219 dX7_gets_8 ?_
    exact hret _ _ _ _ h dX7_gets_10
set_option maxHeartbeats 4000000 in
set_option maxRecDepth 100000 in
theorem c_X7_level (l : Launch) (D : va_G) (C : Nat → ClassId) (ad : Nat → Nat) (a1 : Int32) (a2 : Int32) (μ : Mem) (Q : Int32 → Mem → Prop) (h : w_X7_level a1 a2 μ Q) : Mi sM l yX7_level cX7_level 3 (some .int) rm_X7_level D C ad [.ref (ad 0), .int a1, .int a2] μ Q := by
  refine fm_i (by decide +kernel) sM_lt (Nat.le_of_ble_eq_true rfl) (fun K X hret => ?_)
  have X : CK sM D C ad K cX7_level 3 RX7 := X
  refine b_lv (lv' := [(0, .ref (ad 0)), (1, .int a1), (2, .int a2)]) rfl ?_
  unfold w_X7_level at h
  refine b_aload_n X dX7_level_0 rfl 0 rfl ?_
  refine b_iload_n X dX7_level_1 rfl 1 rfl ?_
  refine bVi (st := []) (nA := 1) X (c_X7_isPost l D C ad a1 μ _ h) kM_0 (by decide) (enc_7 kM_0) rfl gw_X7_216 ⟨rfl, hd_X7_isPost⟩ rfl rfl ⟨Nat.le_of_ble_eq_true rfl, Nat.le_of_ble_eq_true rfl⟩ rfl rfl (Nat.le_of_ble_eq_true rfl) dX7_level_2 (fun r1 μ2 h => ?_)
  obtain ⟨rfl, h⟩ := h
  refine b_if_ne (t := 11) X dX7_level_5 (by decide) (fun c => ?_) (fun c => ?_)
  · replace h := h.1 c
    refine b_iload_n X dX7_level_11 rfl 2 rfl ?_
    refine b_iconst (v := (nI 0)) X dX7_level_12 (by decide) ?_
    refine b_bipush (v := (nI 99)) X dX7_level_13 (by decide) ?_
    refine bSi (st := []) (nA := 3) X (c_X7_in l D C ad a2 (nI 0) (nI 99) μ _ h) gw_X7_85 hd_X7_in rfl rfl ⟨Nat.le_of_ble_eq_true rfl, Nat.le_of_ble_eq_true rfl⟩ rfl rfl (Nat.le_of_ble_eq_true rfl) dX7_level_15 (fun r3 μ4 h => ?_)
    obtain ⟨rfl, h⟩ := h
    refine b_if_ne (t := 24) X dX7_level_18 (by decide) (fun c => ?_) (fun c => ?_)
    · replace h := h.1 c
      refine b_aload_n X dX7_level_24 rfl 0 rfl ?_
      refine bVv (st := []) (nA := 0) X (c_X7_copyNow l D C ad  μ _ h) kM_0 (by decide) (enc_7 kM_0) rfl gw_X7_305 ⟨rfl, hd_X7_copyNow⟩ rfl rfl ⟨Nat.le_of_ble_eq_true rfl, Nat.le_of_ble_eq_true rfl⟩ rfl rfl (Nat.le_of_ble_eq_true rfl) dX7_level_25 (fun μ6 h => ?_)
      refine b_aload_n X dX7_level_28 rfl 0 rfl ?_
      refine b_iload_n X dX7_level_29 rfl 2 rfl ?_
      refine bVv (st := []) (nA := 1) X (c_X7_goesOn l D C ad a2 μ6 _ h) kM_0 (by decide) (enc_7 kM_0) rfl gw_X7_308 ⟨rfl, hd_X7_goesOn⟩ rfl rfl ⟨Nat.le_of_ble_eq_true rfl, Nat.le_of_ble_eq_true rfl⟩ rfl rfl (Nat.le_of_ble_eq_true rfl) dX7_level_30 (fun μ8 h => ?_)
      refine b_aload_n X dX7_level_33 rfl 0 rfl ?_
      refine g_7_30 X kM_0 m_f_X7_56 dX7_level_34 ?_
      refine b_bipush (v := (nI 9)) X dX7_level_37 (by decide) ?_
      refine b_iload_n X dX7_level_39 rfl 1 rfl ?_
      refine b_iadd X dX7_level_40 ?_
      have hz := h.1
      replace h := h.2
      refine b_iald X kM_15 nM_15 hz dX7_level_41 ?_
      clear hz
      exact hret _ _ _ _ h dX7_level_42
    · replace h := h.2 c
      refine b_ldc (v := ((-1000000002) : Int32)) X m_k_X7_89 dX7_level_21 ?_
      exact hret _ _ _ _ h dX7_level_23
  · replace h := h.2 c
    refine b_ldc (v := ((-1000000001) : Int32)) X m_k_X7_219 dX7_level_8 ?_
    exact hret _ _ _ _ h dX7_level_10
set_option maxHeartbeats 4000000 in
set_option maxRecDepth 100000 in
theorem c_X7_shadow (l : Launch) (D : va_G) (C : Nat → ClassId) (ad : Nat → Nat) (a1 : Int32) (μ : Mem) (Q : Int32 → Mem → Prop) (h : w_X7_shadow a1 μ Q) : Mi sM l yX7_shadow cX7_shadow 4 (some .int) rm_X7_shadow D C ad [.ref (ad 0), .int a1] μ Q := by
  refine fm_i (by decide +kernel) sM_lt (Nat.le_of_ble_eq_true rfl) (fun K X hret => ?_)
  have X : CK sM D C ad K cX7_shadow 4 RX7 := X
  refine b_lv (lv' := [(0, .ref (ad 0)), (1, .int a1)]) rfl ?_
  unfold w_X7_shadow at h
  refine b_aload_n X dX7_shadow_0 rfl 0 rfl ?_
  refine b_iload_n X dX7_shadow_1 rfl 1 rfl ?_
  refine bVi (st := []) (nA := 1) X (c_X7_isPost l D C ad a1 μ _ h) kM_0 (by decide) (enc_7 kM_0) rfl gw_X7_216 ⟨rfl, hd_X7_isPost⟩ rfl rfl ⟨Nat.le_of_ble_eq_true rfl, Nat.le_of_ble_eq_true rfl⟩ rfl rfl (Nat.le_of_ble_eq_true rfl) dX7_shadow_2 (fun r1 μ2 h => ?_)
  obtain ⟨rfl, h⟩ := h
  refine b_if_ne (t := 11) X dX7_shadow_5 (by decide) (fun c => ?_) (fun c => ?_)
  · replace h := h.1 c
    refine b_aload_n X dX7_shadow_11 rfl 0 rfl ?_
    refine b_aload_n X dX7_shadow_12 rfl 0 rfl ?_
    refine g_7_29 X kM_0 m_f_X7_53 dX7_shadow_13 ?_
    refine b_iload_n X dX7_shadow_16 rfl 1 rfl ?_
    refine bVi (st := []) (nA := 2) X (c_X7_isHanging l D C ad 14 kM_14 nM_14 a1 μ _ h) kM_0 (by decide) (enc_7 kM_0) rfl gw_X7_201 ⟨rfl, hd_X7_isHanging⟩ rfl rfl ⟨Nat.le_of_ble_eq_true rfl, Nat.le_of_ble_eq_true rfl⟩ rfl rfl (Nat.le_of_ble_eq_true rfl) dX7_shadow_17 (fun r3 μ4 h => ?_)
    obtain ⟨rfl, h⟩ := h
    refine b_if_ne (t := 25) X dX7_shadow_20 (by decide) (fun c => ?_) (fun c => ?_)
    · replace h := h.1 c
      refine b_aload_n X dX7_shadow_25 rfl 0 rfl ?_
      refine b_aload_n X dX7_shadow_26 rfl 0 rfl ?_
      refine g_7_29 X kM_0 m_f_X7_53 dX7_shadow_27 ?_
      refine bVi (st := []) (nA := 1) X (c_X7_fogOf l D C ad 14 kM_14 nM_14 μ _ h) kM_0 (by decide) (enc_7 kM_0) rfl gw_X7_224 ⟨rfl, hd_X7_fogOf⟩ rfl rfl ⟨Nat.le_of_ble_eq_true rfl, Nat.le_of_ble_eq_true rfl⟩ rfl rfl (Nat.le_of_ble_eq_true rfl) dX7_shadow_30 (fun r5 μ6 h => ?_)
      obtain ⟨rfl, h⟩ := h
      refine b_aload_n X dX7_shadow_33 rfl 0 rfl ?_
      refine g_7_29 X kM_0 m_f_X7_53 dX7_shadow_34 ?_
      refine b_iconst (v := (nI 2)) X dX7_shadow_37 (by decide) ?_
      have hz := h.1
      replace h := h.2
      refine b_iald X kM_14 nM_14 hz dX7_shadow_38 ?_
      clear hz
      refine b_aload_n X dX7_shadow_39 rfl 0 rfl ?_
      refine g_7_19 X kM_0 m_f_X7_176 dX7_shadow_40 ?_
      refine bSi (st := []) (nA := 3) X (c_X7_lit l D C ad r5 (μ.1 14 ((nI 2)).toNatClampNeg) (μ.1 0 19) μ _ h) gw_X7_245 hd_X7_lit rfl rfl ⟨Nat.le_of_ble_eq_true rfl, Nat.le_of_ble_eq_true rfl⟩ rfl rfl (Nat.le_of_ble_eq_true rfl) dX7_shadow_43 (fun r7 μ8 h => ?_)
      obtain ⟨rfl, h⟩ := h
      refine b_istore_n (lv' := [(2, .int r7), (0, .ref (ad 0)), (1, .int a1)]) X dX7_shadow_46 rfl (by decide) rfl ?_
      refine b_aload_n X dX7_shadow_47 rfl 1 rfl ?_
      refine b_aload_n X dX7_shadow_48 rfl 1 rfl ?_
      refine g_7_29 X kM_0 m_f_X7_53 dX7_shadow_49 ?_
      refine b_iload_n X dX7_shadow_52 rfl 0 rfl ?_
      refine b_aload_n X dX7_shadow_53 rfl 1 rfl ?_
      refine b_aload_n X dX7_shadow_54 rfl 1 rfl ?_
      refine g_7_29 X kM_0 m_f_X7_53 dX7_shadow_55 ?_
      refine bVi (st := [.int r7, .ref (ad 14), .ref (ad 0)]) (nA := 1) X (c_X7_sideOf l D C ad 14 kM_14 nM_14 μ _ h) kM_0 (by decide) (enc_7 kM_0) rfl gw_X7_221 ⟨rfl, hd_X7_sideOf⟩ rfl rfl ⟨Nat.le_of_ble_eq_true rfl, Nat.le_of_ble_eq_true rfl⟩ rfl rfl (Nat.le_of_ble_eq_true rfl) dX7_shadow_58 (fun r9 μ10 h => ?_)
      obtain ⟨rfl, h⟩ := h
      refine b_iconst (v := (nI 1)) X dX7_shadow_61 (by decide) ?_
      refine b_iload_n X dX7_shadow_62 rfl 2 rfl ?_
      refine b_ishl X dX7_shadow_63 ?_
      refine bVi (st := []) (nA := 4) X (c_X7_leads l D C ad 14 kM_14 nM_14 r7 r9 ((nI 1) <<< (a1 &&& 31)) μ _ h) kM_0 (by decide) (enc_7 kM_0) rfl gw_X7_249 ⟨rfl, hd_X7_leads⟩ rfl rfl ⟨Nat.le_of_ble_eq_true rfl, Nat.le_of_ble_eq_true rfl⟩ rfl rfl (Nat.le_of_ble_eq_true rfl) dX7_shadow_64 (fun r11 μ12 h => ?_)
      refine b_pop X dX7_shadow_67 rfl ?_
      refine b_aload_n X dX7_shadow_68 rfl 1 rfl ?_
      refine g_7_31 X kM_0 m_f_X7_59 dX7_shadow_69 ?_
      refine b_iload_n X dX7_shadow_72 rfl 2 rfl ?_
      have hz := h.1
      replace h := h.2
      refine b_iald X kM_16 nM_16 hz dX7_shadow_73 ?_
      clear hz
      refine b_topi (fun x13 ex13 => ?_)
      replace h := h x13 ex13
      refine b_istore_n (lv' := [(3, .int x13), (2, .int r7), (0, .ref (ad 0)), (1, .int a1)]) X dX7_shadow_74 rfl (by decide) rfl ?_
      refine b_aload_n X dX7_shadow_75 rfl 2 rfl ?_
      refine b_aload_n X dX7_shadow_76 rfl 2 rfl ?_
      refine g_7_29 X kM_0 m_f_X7_53 dX7_shadow_77 ?_
      refine b_iload_n X dX7_shadow_80 rfl 1 rfl ?_
      refine b_aload_n X dX7_shadow_81 rfl 2 rfl ?_
      refine b_aload_n X dX7_shadow_82 rfl 2 rfl ?_
      refine g_7_29 X kM_0 m_f_X7_53 dX7_shadow_83 ?_
      refine bVi (st := [.int r7, .ref (ad 14), .ref (ad 0)]) (nA := 1) X (c_X7_sideOf l D C ad 14 kM_14 nM_14 μ12 _ h) kM_0 (by decide) (enc_7 kM_0) rfl gw_X7_221 ⟨rfl, hd_X7_sideOf⟩ rfl rfl ⟨Nat.le_of_ble_eq_true rfl, Nat.le_of_ble_eq_true rfl⟩ rfl rfl (Nat.le_of_ble_eq_true rfl) dX7_shadow_86 (fun r14 μ15 h => ?_)
      obtain ⟨rfl, h⟩ := h
      refine b_aload_n X dX7_shadow_89 rfl 2 rfl ?_
      refine b_aload_n X dX7_shadow_90 rfl 2 rfl ?_
      refine g_7_29 X kM_0 m_f_X7_53 dX7_shadow_91 ?_
      refine bVi (st := [.int r14, .int r7, .ref (ad 14), .ref (ad 0)]) (nA := 1) X (c_X7_hanging l D C ad 14 kM_14 nM_14 μ12 _ h) kM_0 (by decide) (enc_7 kM_0) rfl gw_X7_209 ⟨rfl, hd_X7_hanging⟩ rfl rfl ⟨Nat.le_of_ble_eq_true rfl, Nat.le_of_ble_eq_true rfl⟩ rfl rfl (Nat.le_of_ble_eq_true rfl) dX7_shadow_94 (fun r16 μ17 h => ?_)
      obtain ⟨rfl, h⟩ := h
      refine bVi (st := []) (nA := 4) X (c_X7_leads l D C ad 14 kM_14 nM_14 r7 r14 r16 μ12 _ h) kM_0 (by decide) (enc_7 kM_0) rfl gw_X7_249 ⟨rfl, hd_X7_leads⟩ rfl rfl ⟨Nat.le_of_ble_eq_true rfl, Nat.le_of_ble_eq_true rfl⟩ rfl rfl (Nat.le_of_ble_eq_true rfl) dX7_shadow_97 (fun r18 μ19 h => ?_)
      refine b_pop X dX7_shadow_100 rfl ?_
      refine b_iload_n X dX7_shadow_101 rfl 0 rfl ?_
      refine b_aload_n X dX7_shadow_102 rfl 2 rfl ?_
      refine g_7_31 X kM_0 m_f_X7_59 dX7_shadow_103 ?_
      refine b_iload_n X dX7_shadow_106 rfl 3 rfl ?_
      have hz := h.1
      replace h := h.2
      refine b_iald X kM_16 nM_16 hz dX7_shadow_107 ?_
      clear hz
      refine b_isub X dX7_shadow_108 ?_
      exact hret _ _ _ _ h dX7_shadow_109
    · replace h := h.2 c
      refine b_iconst (v := (nI 0)) X dX7_shadow_23 (by decide) ?_
      exact hret _ _ _ _ h dX7_shadow_24
  · replace h := h.2 c
    refine b_ldc (v := ((-1000000001) : Int32)) X m_k_X7_219 dX7_shadow_8 ?_
    exact hret _ _ _ _ h dX7_shadow_10
