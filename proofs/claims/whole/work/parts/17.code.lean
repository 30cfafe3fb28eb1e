set_option maxHeartbeats 4000000 in
set_option maxRecDepth 100000 in
theorem c_X7_left (l : Launch) (D : va_G) (C : Nat → ClassId) (ad : Nat → Nat)  (μ : Mem) (Q : Int32 → Mem → Prop) (h : w_X7_left  μ Q) : Mi sM l yX7_left cX7_left 1 (some .int) rm_X7_left D C ad [.ref (ad 0)] μ Q := by
  refine fm_i (by decide +kernel) sM_lt (Nat.le_of_ble_eq_true rfl) (fun K X hret => ?_)
  have X : CK sM D C ad K cX7_left 1 RX7 := X
  refine b_lv (lv' := [(0, .ref (ad 0))]) rfl ?_
  unfold w_X7_left at h
  refine b_aload_n X dX7_left_0 rfl 0 rfl ?_
  refine g_7_17 X kM_0 m_f_X7_170 dX7_left_1 ?_
  refine b_if_ne (t := 12) X dX7_left_4 (by decide) (fun c => ?_) (fun c => ?_)
  · replace h := h.1 c
    refine b_aload_n X dX7_left_12 rfl 0 rfl ?_
    refine b_aload_n X dX7_left_13 rfl 0 rfl ?_
    refine g_7_29 X kM_0 m_f_X7_53 dX7_left_14 ?_
    refine b_aload_n X dX7_left_17 rfl 0 rfl ?_
    refine b_aload_n X dX7_left_18 rfl 0 rfl ?_
    refine g_7_29 X kM_0 m_f_X7_53 dX7_left_19 ?_
    refine bVi (st := [.ref (ad 14), .ref (ad 0)]) (nA := 1) X (c_X7_fogOf l D C ad 14 kM_14 nM_14 μ _ h) kM_0 (by decide) (enc_7 kM_0) rfl gw_X7_224 ⟨rfl, hd_X7_fogOf⟩ rfl rfl ⟨Nat.le_of_ble_eq_true rfl, Nat.le_of_ble_eq_true rfl⟩ rfl rfl (Nat.le_of_ble_eq_true rfl) dX7_left_22 (fun r1 μ2 h => ?_)
    obtain ⟨rfl, h⟩ := h
    refine b_aload_n X dX7_left_25 rfl 0 rfl ?_
    refine g_7_29 X kM_0 m_f_X7_53 dX7_left_26 ?_
    refine b_iconst (v := (nI 2)) X dX7_left_29 (by decide) ?_
    have hz := h.1
    replace h := h.2
    refine b_iald X kM_14 nM_14 hz dX7_left_30 ?_
    clear hz
    refine b_aload_n X dX7_left_31 rfl 0 rfl ?_
    refine g_7_19 X kM_0 m_f_X7_176 dX7_left_32 ?_
    refine bSi (st := [.ref (ad 14), .ref (ad 0)]) (nA := 3) X (c_X7_lit l D C ad r1 (μ.1 14 ((nI 2)).toNatClampNeg) (μ.1 0 19) μ _ h) gw_X7_245 hd_X7_lit rfl rfl ⟨Nat.le_of_ble_eq_true rfl, Nat.le_of_ble_eq_true rfl⟩ rfl rfl (Nat.le_of_ble_eq_true rfl) dX7_left_35 (fun r3 μ4 h => ?_)
    obtain ⟨rfl, h⟩ := h
    refine b_aload_n X dX7_left_38 rfl 0 rfl ?_
    refine b_aload_n X dX7_left_39 rfl 0 rfl ?_
    refine g_7_29 X kM_0 m_f_X7_53 dX7_left_40 ?_
    refine bVi (st := [.int r3, .ref (ad 14), .ref (ad 0)]) (nA := 1) X (c_X7_sideOf l D C ad 14 kM_14 nM_14 μ _ h) kM_0 (by decide) (enc_7 kM_0) rfl gw_X7_221 ⟨rfl, hd_X7_sideOf⟩ rfl rfl ⟨Nat.le_of_ble_eq_true rfl, Nat.le_of_ble_eq_true rfl⟩ rfl rfl (Nat.le_of_ble_eq_true rfl) dX7_left_43 (fun r5 μ6 h => ?_)
    obtain ⟨rfl, h⟩ := h
    refine b_aload_n X dX7_left_46 rfl 0 rfl ?_
    refine b_aload_n X dX7_left_47 rfl 0 rfl ?_
    refine g_7_29 X kM_0 m_f_X7_53 dX7_left_48 ?_
    refine bVi (st := [.int r5, .int r3, .ref (ad 14), .ref (ad 0)]) (nA := 1) X (c_X7_hanging l D C ad 14 kM_14 nM_14 μ _ h) kM_0 (by decide) (enc_7 kM_0) rfl gw_X7_209 ⟨rfl, hd_X7_hanging⟩ rfl rfl ⟨Nat.le_of_ble_eq_true rfl, Nat.le_of_ble_eq_true rfl⟩ rfl rfl (Nat.le_of_ble_eq_true rfl) dX7_left_51 (fun r7 μ8 h => ?_)
    obtain ⟨rfl, h⟩ := h
    refine bVi (st := []) (nA := 4) X (c_X7_leads l D C ad 14 kM_14 nM_14 r3 r5 r7 μ _ h) kM_0 (by decide) (enc_7 kM_0) rfl gw_X7_249 ⟨rfl, hd_X7_leads⟩ rfl rfl ⟨Nat.le_of_ble_eq_true rfl, Nat.le_of_ble_eq_true rfl⟩ rfl rfl (Nat.le_of_ble_eq_true rfl) dX7_left_54 (fun r9 μ10 h => ?_)
    exact hret _ _ _ _ h dX7_left_57
  · replace h := h.2 c
    refine b_ldc (v := ((-1000000003) : Int32)) X m_k_X7_220 dX7_left_7 ?_
    refine b_goto (t := 57) X dX7_left_9 (by decide) ?_
    exact hret _ _ _ _ h dX7_left_57
set_option maxHeartbeats 4000000 in
set_option maxRecDepth 100000 in
theorem c_X7_bestMesh (l : Launch) (D : va_G) (C : Nat → ClassId) (ad : Nat → Nat) (a1 : Int32) (a2 : Int32) (μ : Mem) (Q : Int32 → Mem → Prop) (h : w_X7_bestMesh a1 a2 μ Q) : Mi sM l yX7_bestMesh cX7_bestMesh 6 (some .int) rm_X7_bestMesh D C ad [.ref (ad 0), .int a1, .int a2] μ Q := by
  refine fm_i (by decide +kernel) sM_lt (Nat.le_of_ble_eq_true rfl) (fun K X hret => ?_)
  have X : CK sM D C ad K cX7_bestMesh 6 RX7 := X
  refine b_lv (lv' := [(0, .ref (ad 0)), (1, .int a1), (2, .int a2)]) rfl ?_
  unfold w_X7_bestMesh at h
  have B31 : ∀ (v3 : Int32) (v4 : Int32) (v5 : Int32) (μ : Mem), w_X7_bestMesh_31 a1 a2 v3 v4 v5 μ Q → WB sM l D C ad rm_X7_bestMesh K 6 μ 31 [(0, .ref (ad 0)), (1, .int a1), (2, .int a2), (3, .int v3), (4, .int v4), (5, .int v5)] [] := by
    intro v3 v4 v5 μ h
    obtain ⟨Y31, eY⟩ : ∃ Y : Int32 → Int32 → Int32 → Mem → Prop, Y = fun (v3 : Int32) (v4 : Int32) (v5 : Int32) (μ : Mem) => WB sM l D C ad rm_X7_bestMesh K 6 μ 31 [(0, .ref (ad 0)), (1, .int a1), (2, .int a2), (3, .int v3), (4, .int v4), (5, .int v5)] [] := ⟨_, rfl⟩
    have B31 : Y31 v3 v4 v5 μ := by
      unfold w_X7_bestMesh_31 at h
      refine h Y31 ?_
      clear h
      intro v3 v4 v5 μ h
      unfold s_X7_bestMesh_31 at h
      rw [eY]
      show WB sM l D C ad rm_X7_bestMesh K 6 μ 31 [(0, .ref (ad 0)), (1, .int a1), (2, .int a2), (3, .int v3), (4, .int v4), (5, .int v5)] []
      have T31 : ∀ (v3 : Int32) (v4 : Int32) (v5 : Int32) (μ : Mem), Y31 v3 v4 v5 μ → WB sM l D C ad rm_X7_bestMesh K 6 μ 31 [(0, .ref (ad 0)), (1, .int a1), (2, .int a2), (3, .int v3), (4, .int v4), (5, .int v5)] [] := by
        intro v3 v4 v5 μ h
        rw [eY] at h
        exact h
      clear eY
      have B109 : ∀ (v3 : Int32) (v4 : Int32) (μ : Mem), w_X7_bestMesh_109 a1 a2 v3 v4 μ Q → WB sM l D C ad rm_X7_bestMesh K 6 μ 109 [(2, .int a2), (3, .int v3), (4, .int v4)] [] := by
        intro v3 v4 μ h
        unfold w_X7_bestMesh_109 at h
        refine b_iload_n X dX7_bestMesh_109 rfl 0 rfl ?_
        refine b_if_ne (t := 117) X dX7_bestMesh_110 (by decide) (fun c => ?_) (fun c => ?_)
        · replace h := h.1 c
          refine b_iload X dX7_bestMesh_117 2 rfl ?_
          exact hret _ _ _ _ h dX7_bestMesh_119
        · replace h := h.2 c
          refine b_iload_n X dX7_bestMesh_113 rfl 1 rfl ?_
          refine b_goto (t := 119) X dX7_bestMesh_114 (by decide) ?_
          exact hret _ _ _ _ h dX7_bestMesh_119
      have B78 : ∀ (v4 : Int32) (v5 : Int32) (s1 : Int32) (μ : Mem), w_X7_bestMesh_78 a1 a2 Y31 v4 v5 s1 μ Q → WB sM l D C ad rm_X7_bestMesh K 6 μ 78 [(0, .ref (ad 0)), (1, .int a1), (2, .int a2), (4, .int v4), (5, .int v5)] [.int s1] := by
        intro v4 v5 s1 μ h
        unfold w_X7_bestMesh_78 at h
        have B101 : ∀ (v3 : Int32) (v5 : Int32) (s1 : Int32) (μ : Mem), w_X7_bestMesh_101 a1 a2 Y31 v3 v5 s1 μ Q → WB sM l D C ad rm_X7_bestMesh K 6 μ 101 [(0, .ref (ad 0)), (1, .int a1), (2, .int a2), (3, .int v3), (5, .int v5)] [.int s1] := by
          intro v3 v5 s1 μ h
          unfold w_X7_bestMesh_101 at h
          refine b_istore (lv' := [(4, .int s1), (0, .ref (ad 0)), (1, .int a1), (2, .int a2), (3, .int v3), (5, .int v5)]) X dX7_bestMesh_101 (by decide) rfl ?_
          obtain ⟨x12, ex12⟩ : ∃ y : Int32, y = v5 + (nI 1) := ⟨_, rfl⟩
          replace h := h x12 ex12
          refine b_iinc (x := x12) (lv' := [(5, .int x12), (4, .int s1), (0, .ref (ad 0)), (1, .int a1), (2, .int a2), (3, .int v3)]) (q := 5) X dX7_bestMesh_103 rfl (by rw [ex12]; rfl) (by decide) rfl ?_
          refine b_goto (t := 31) X dX7_bestMesh_106 (by decide) ?_
          refine b_sub (lv' := [(0, .ref (ad 0)), (1, .int a1), (2, .int a2), (3, .int v3), (4, .int s1), (5, .int x12)]) [2, 3, 4, 5, 1, 0] rfl ?_
          exact T31 v3 s1 x12 μ h
        refine b_istore_n (lv' := [(3, .int s1), (0, .ref (ad 0)), (1, .int a1), (2, .int a2), (4, .int v4), (5, .int v5)]) X dX7_bestMesh_78 rfl (by decide) rfl ?_
        refine b_aload_n X dX7_bestMesh_79 rfl 1 rfl ?_
        refine g_7_36 X kM_0 m_f_X7_65 dX7_bestMesh_80 ?_
        refine b_iload_n X dX7_bestMesh_83 rfl 2 rfl ?_
        have hz := h.1
        replace h := h.2
        refine b_iald X kM_18 nM_18 hz dX7_bestMesh_84 ?_
        clear hz
        refine b_iload X dX7_bestMesh_85 4 rfl ?_
        refine b_icmp_le (t := 99) X dX7_bestMesh_87 (by decide) (fun c => ?_) (fun c => ?_)
        · replace h := h.1 c
          refine b_iload X dX7_bestMesh_99 4 rfl ?_
          refine b_sub (lv' := [(0, .ref (ad 0)), (1, .int a1), (2, .int a2), (3, .int s1), (5, .int v5)]) [1, 2, 3, 0, 5] rfl ?_
          exact B101 s1 v5 v4 μ h
        · replace h := h.2 c
          refine b_aload_n X dX7_bestMesh_90 rfl 1 rfl ?_
          refine g_7_36 X kM_0 m_f_X7_65 dX7_bestMesh_91 ?_
          refine b_iload_n X dX7_bestMesh_94 rfl 2 rfl ?_
          have hz := h.1
          replace h := h.2
          refine b_iald X kM_18 nM_18 hz dX7_bestMesh_95 ?_
          clear hz
          refine b_goto (t := 101) X dX7_bestMesh_96 (by decide) ?_
          refine b_sub (lv' := [(0, .ref (ad 0)), (1, .int a1), (2, .int a2), (3, .int s1), (5, .int v5)]) [1, 2, 3, 0, 5] rfl ?_
          exact B101 s1 v5 (μ.1 18 (a1).toNatClampNeg) μ h
      refine b_iload X dX7_bestMesh_31 5 rfl ?_
      refine b_bipush (v := (nI 10)) X dX7_bestMesh_33 (by decide) ?_
      refine b_icmp_ge (t := 109) X dX7_bestMesh_35 (by decide) (fun c => ?_) (fun c => ?_)
      · replace h := h.1 c
        refine b_sub (lv' := [(2, .int a2), (3, .int v3), (4, .int v4)]) [2, 3, 4] rfl ?_
        exact B109 v3 v4 μ h
      · replace h := h.2 c
        refine b_aload_n X dX7_bestMesh_38 rfl 0 rfl ?_
        refine bVv (st := []) (nA := 0) X (c_X7_copyNow l D C ad  μ _ h) kM_0 (by decide) (enc_7 kM_0) rfl gw_X7_305 ⟨rfl, hd_X7_copyNow⟩ rfl rfl ⟨Nat.le_of_ble_eq_true rfl, Nat.le_of_ble_eq_true rfl⟩ rfl rfl (Nat.le_of_ble_eq_true rfl) dX7_bestMesh_39 (fun μ6 h => ?_)
        refine b_aload_n X dX7_bestMesh_42 rfl 0 rfl ?_
        refine g_7_30 X kM_0 m_f_X7_56 dX7_bestMesh_43 ?_
        refine b_bipush (v := (nI 21)) X dX7_bestMesh_46 (by decide) ?_
        refine b_iload_n X dX7_bestMesh_48 rfl 1 rfl ?_
        refine b_iadd X dX7_bestMesh_49 ?_
        refine b_iload X dX7_bestMesh_50 5 rfl ?_
        have hz := h.1
        replace h := h.2
        refine b_iast X kM_15 nM_15 hz dX7_bestMesh_52 (fun μ7 eμ7 => ?_)
        clear hz
        replace h := h μ7 eμ7
        refine b_aload_n X dX7_bestMesh_53 rfl 0 rfl ?_
        refine b_aload_n X dX7_bestMesh_54 rfl 0 rfl ?_
        refine bVi (st := [.ref (ad 0)]) (nA := 0) X (c_X7_dayLong l D C ad  μ7 _ h) kM_0 (by decide) (enc_7 kM_0) rfl gw_X7_205 ⟨rfl, hd_X7_dayLong⟩ rfl rfl ⟨Nat.le_of_ble_eq_true rfl, Nat.le_of_ble_eq_true rfl⟩ rfl rfl (Nat.le_of_ble_eq_true rfl) dX7_bestMesh_55 (fun r8 μ9 h => ?_)
        obtain ⟨rfl, h⟩ := h
        refine bVv (st := []) (nA := 1) X (c_X7_goesOn l D C ad r8 μ7 _ h) kM_0 (by decide) (enc_7 kM_0) rfl gw_X7_308 ⟨rfl, hd_X7_goesOn⟩ rfl rfl ⟨Nat.le_of_ble_eq_true rfl, Nat.le_of_ble_eq_true rfl⟩ rfl rfl (Nat.le_of_ble_eq_true rfl) dX7_bestMesh_58 (fun μ11 h => ?_)
        refine b_aload_n X dX7_bestMesh_61 rfl 0 rfl ?_
        refine g_7_36 X kM_0 m_f_X7_65 dX7_bestMesh_62 ?_
        refine b_iload_n X dX7_bestMesh_65 rfl 1 rfl ?_
        have hz := h.1
        replace h := h.2
        refine b_iald X kM_18 nM_18 hz dX7_bestMesh_66 ?_
        clear hz
        refine b_iload X dX7_bestMesh_67 4 rfl ?_
        refine b_icmp_le (t := 77) X dX7_bestMesh_69 (by decide) (fun c => ?_) (fun c => ?_)
        · replace h := h.1 c
          refine b_iload_n X dX7_bestMesh_77 rfl 3 rfl ?_
          refine b_sub (lv' := [(0, .ref (ad 0)), (1, .int a1), (2, .int a2), (4, .int v4), (5, .int v5)]) [0, 1, 2, 4, 5] rfl ?_
          exact B78 v4 v5 v3 μ11 h
        · replace h := h.2 c
          refine b_iload X dX7_bestMesh_72 5 rfl ?_
          refine b_goto (t := 78) X dX7_bestMesh_74 (by decide) ?_
          refine b_sub (lv' := [(0, .ref (ad 0)), (1, .int a1), (2, .int a2), (4, .int v4), (5, .int v5)]) [0, 1, 2, 4, 5] rfl ?_
          exact B78 v4 v5 v5 μ11 h
    rw [eY] at B31
    exact B31
  refine b_aload_n X dX7_bestMesh_0 rfl 0 rfl ?_
  refine b_iload_n X dX7_bestMesh_1 rfl 1 rfl ?_
  refine bVi (st := []) (nA := 1) X (c_X7_isPost l D C ad a1 μ _ h) kM_0 (by decide) (enc_7 kM_0) rfl gw_X7_216 ⟨rfl, hd_X7_isPost⟩ rfl rfl ⟨Nat.le_of_ble_eq_true rfl, Nat.le_of_ble_eq_true rfl⟩ rfl rfl (Nat.le_of_ble_eq_true rfl) dX7_bestMesh_2 (fun r1 μ2 h => ?_)
  obtain ⟨rfl, h⟩ := h
  refine b_if_ne (t := 11) X dX7_bestMesh_5 (by decide) (fun c => ?_) (fun c => ?_)
  · replace h := h.1 c
    refine b_iload_n X dX7_bestMesh_11 rfl 2 rfl ?_
    refine b_iconst (v := (nI 0)) X dX7_bestMesh_12 (by decide) ?_
    refine b_iconst (v := (nI 1)) X dX7_bestMesh_13 (by decide) ?_
    refine bSi (st := []) (nA := 3) X (c_X7_in l D C ad a2 (nI 0) (nI 1) μ _ h) gw_X7_85 hd_X7_in rfl rfl ⟨Nat.le_of_ble_eq_true rfl, Nat.le_of_ble_eq_true rfl⟩ rfl rfl (Nat.le_of_ble_eq_true rfl) dX7_bestMesh_14 (fun r3 μ4 h => ?_)
    obtain ⟨rfl, h⟩ := h
    refine b_if_ne (t := 23) X dX7_bestMesh_17 (by decide) (fun c => ?_) (fun c => ?_)
    · replace h := h.1 c
      refine b_iconst (v := (nI 0)) X dX7_bestMesh_23 (by decide) ?_
      refine b_istore_n (lv' := [(3, .int (nI 0)), (0, .ref (ad 0)), (1, .int a1), (2, .int a2)]) X dX7_bestMesh_24 rfl (by decide) rfl ?_
      refine b_iconst (v := ((-1) : Int32)) X dX7_bestMesh_25 (by decide) ?_
      refine b_istore (lv' := [(4, .int ((-1) : Int32)), (3, .int (nI 0)), (0, .ref (ad 0)), (1, .int a1), (2, .int a2)]) X dX7_bestMesh_26 (by decide) rfl ?_
      refine b_iconst (v := (nI 0)) X dX7_bestMesh_28 (by decide) ?_
      refine b_istore (lv' := [(5, .int (nI 0)), (4, .int ((-1) : Int32)), (3, .int (nI 0)), (0, .ref (ad 0)), (1, .int a1), (2, .int a2)]) X dX7_bestMesh_29 (by decide) rfl ?_
      refine b_sub (lv' := [(0, .ref (ad 0)), (1, .int a1), (2, .int a2), (3, .int (nI 0)), (4, .int ((-1) : Int32)), (5, .int (nI 0))]) [3, 4, 5, 2, 1, 0] rfl ?_
      exact B31 (nI 0) ((-1) : Int32) (nI 0) μ h
    · replace h := h.2 c
      refine b_ldc (v := ((-1000000002) : Int32)) X m_k_X7_89 dX7_bestMesh_20 ?_
      exact hret _ _ _ _ h dX7_bestMesh_22
  · replace h := h.2 c
    refine b_ldc (v := ((-1000000001) : Int32)) X m_k_X7_219 dX7_bestMesh_8 ?_
    exact hret _ _ _ _ h dX7_bestMesh_10
set_option maxHeartbeats 4000000 in
set_option maxRecDepth 100000 in
theorem c_X7_bestCell (l : Launch) (D : va_G) (C : Nat → ClassId) (ad : Nat → Nat) (a1 : Int32) (a2 : Int32) (μ : Mem) (Q : Int32 → Mem → Prop) (h : w_X7_bestCell a1 a2 μ Q) : Mi sM l yX7_bestCell cX7_bestCell 7 (some .int) rm_X7_bestCell D C ad [.ref (ad 0), .int a1, .int a2] μ Q := by
  refine fm_i (by decide +kernel) sM_lt (Nat.le_of_ble_eq_true rfl) (fun K X hret => ?_)
  have X : CK sM D C ad K cX7_bestCell 7 RX7 := X
  refine b_lv (lv' := [(0, .ref (ad 0)), (1, .int a1), (2, .int a2)]) rfl ?_
  unfold w_X7_bestCell at h
  have B31 : ∀ (v3 : Int32) (v4 : Int32) (v5 : Int32) (μ : Mem), w_X7_bestCell_31 a1 a2 v3 v4 v5 μ Q → WB sM l D C ad rm_X7_bestCell K 7 μ 31 [(0, .ref (ad 0)), (1, .int a1), (2, .int a2), (3, .int v3), (4, .int v4), (5, .int v5)] [] := by
    intro v3 v4 v5 μ h
    obtain ⟨Y31, eY⟩ : ∃ Y : Int32 → Int32 → Int32 → Mem → Prop, Y = fun (v3 : Int32) (v4 : Int32) (v5 : Int32) (μ : Mem) => WB sM l D C ad rm_X7_bestCell K 7 μ 31 [(0, .ref (ad 0)), (1, .int a1), (2, .int a2), (3, .int v3), (4, .int v4), (5, .int v5)] [] := ⟨_, rfl⟩
    have B31 : Y31 v3 v4 v5 μ := by
      unfold w_X7_bestCell_31 at h
      refine h Y31 ?_
      clear h
      intro v3 v4 v5 μ h
      unfold s_X7_bestCell_31 at h
      rw [eY]
      show WB sM l D C ad rm_X7_bestCell K 7 μ 31 [(0, .ref (ad 0)), (1, .int a1), (2, .int a2), (3, .int v3), (4, .int v4), (5, .int v5)] []
      have T31 : ∀ (v3 : Int32) (v4 : Int32) (v5 : Int32) (μ : Mem), Y31 v3 v4 v5 μ → WB sM l D C ad rm_X7_bestCell K 7 μ 31 [(0, .ref (ad 0)), (1, .int a1), (2, .int a2), (3, .int v3), (4, .int v4), (5, .int v5)] [] := by
        intro v3 v4 v5 μ h
        rw [eY] at h
        exact h
      clear eY
      have B135 : ∀ (v3 : Int32) (v4 : Int32) (μ : Mem), w_X7_bestCell_135 a1 a2 v3 v4 μ Q → WB sM l D C ad rm_X7_bestCell K 7 μ 135 [(2, .int a2), (3, .int v3), (4, .int v4)] [] := by
        intro v3 v4 μ h
        unfold w_X7_bestCell_135 at h
        refine b_iload_n X dX7_bestCell_135 rfl 0 rfl ?_
        refine b_if_ne (t := 143) X dX7_bestCell_136 (by decide) (fun c => ?_) (fun c => ?_)
        · replace h := h.1 c
          refine b_iload X dX7_bestCell_143 2 rfl ?_
          exact hret _ _ _ _ h dX7_bestCell_145
        · replace h := h.2 c
          refine b_iload_n X dX7_bestCell_139 rfl 1 rfl ?_
          refine b_goto (t := 145) X dX7_bestCell_140 (by decide) ?_
          exact hret _ _ _ _ h dX7_bestCell_145
      have B129 : ∀ (v3 : Int32) (v4 : Int32) (v5 : Int32) (μ : Mem), w_X7_bestCell_129 a1 a2 Y31 v3 v4 v5 μ Q → WB sM l D C ad rm_X7_bestCell K 7 μ 129 [(0, .ref (ad 0)), (1, .int a1), (2, .int a2), (3, .int v3), (4, .int v4), (5, .int v5)] [] := by
        intro v3 v4 v5 μ h
        unfold w_X7_bestCell_129 at h
        obtain ⟨x14, ex14⟩ : ∃ y : Int32, y = v5 + (nI 1) := ⟨_, rfl⟩
        replace h := h x14 ex14
        refine b_iinc (x := x14) (lv' := [(5, .int x14), (0, .ref (ad 0)), (1, .int a1), (2, .int a2), (3, .int v3), (4, .int v4)]) (q := 5) X dX7_bestCell_129 rfl (by rw [ex14]; rfl) (by decide) rfl ?_
        refine b_goto (t := 31) X dX7_bestCell_132 (by decide) ?_
        refine b_sub (lv' := [(0, .ref (ad 0)), (1, .int a1), (2, .int a2), (3, .int v3), (4, .int v4), (5, .int x14)]) [1, 2, 3, 4, 5, 0] rfl ?_
        exact T31 v3 v4 x14 μ h
      have B64 : ∀ (v3 : Int32) (v4 : Int32) (v5 : Int32) (μ : Mem), w_X7_bestCell_64 a1 a2 Y31 v3 v4 v5 μ Q → WB sM l D C ad rm_X7_bestCell K 7 μ 64 [(0, .ref (ad 0)), (1, .int a1), (2, .int a2), (3, .int v3), (4, .int v4), (5, .int v5)] [] := by
        intro v3 v4 v5 μ h
        unfold w_X7_bestCell_64 at h
        have B104 : ∀ (v4 : Int32) (v5 : Int32) (s1 : Int32) (μ : Mem), w_X7_bestCell_104 a1 a2 Y31 v4 v5 s1 μ Q → WB sM l D C ad rm_X7_bestCell K 7 μ 104 [(0, .ref (ad 0)), (1, .int a1), (2, .int a2), (4, .int v4), (5, .int v5)] [.int s1] := by
          intro v4 v5 s1 μ h
          unfold w_X7_bestCell_104 at h
          have B127 : ∀ (v3 : Int32) (v5 : Int32) (s1 : Int32) (μ : Mem), w_X7_bestCell_127 a1 a2 Y31 v3 v5 s1 μ Q → WB sM l D C ad rm_X7_bestCell K 7 μ 127 [(0, .ref (ad 0)), (1, .int a1), (2, .int a2), (3, .int v3), (5, .int v5)] [.int s1] := by
            intro v3 v5 s1 μ h
            unfold w_X7_bestCell_127 at h
            refine b_istore (lv' := [(4, .int s1), (0, .ref (ad 0)), (1, .int a1), (2, .int a2), (3, .int v3), (5, .int v5)]) X dX7_bestCell_127 (by decide) rfl ?_
            refine b_sub (lv' := [(0, .ref (ad 0)), (1, .int a1), (2, .int a2), (3, .int v3), (4, .int s1), (5, .int v5)]) [1, 2, 3, 4, 0, 5] rfl ?_
            exact B129 v3 s1 v5 μ h
          refine b_istore_n (lv' := [(3, .int s1), (0, .ref (ad 0)), (1, .int a1), (2, .int a2), (4, .int v4), (5, .int v5)]) X dX7_bestCell_104 rfl (by decide) rfl ?_
          refine b_aload_n X dX7_bestCell_105 rfl 1 rfl ?_
          refine g_7_36 X kM_0 m_f_X7_65 dX7_bestCell_106 ?_
          refine b_iload_n X dX7_bestCell_109 rfl 2 rfl ?_
          have hz := h.1
          replace h := h.2
          refine b_iald X kM_18 nM_18 hz dX7_bestCell_110 ?_
          clear hz
          refine b_iload X dX7_bestCell_111 4 rfl ?_
          refine b_icmp_le (t := 125) X dX7_bestCell_113 (by decide) (fun c => ?_) (fun c => ?_)
          · replace h := h.1 c
            refine b_iload X dX7_bestCell_125 4 rfl ?_
            refine b_sub (lv' := [(0, .ref (ad 0)), (1, .int a1), (2, .int a2), (3, .int s1), (5, .int v5)]) [1, 2, 3, 0, 5] rfl ?_
            exact B127 s1 v5 v4 μ h
          · replace h := h.2 c
            refine b_aload_n X dX7_bestCell_116 rfl 1 rfl ?_
            refine g_7_36 X kM_0 m_f_X7_65 dX7_bestCell_117 ?_
            refine b_iload_n X dX7_bestCell_120 rfl 2 rfl ?_
            have hz := h.1
            replace h := h.2
            refine b_iald X kM_18 nM_18 hz dX7_bestCell_121 ?_
            clear hz
            refine b_goto (t := 127) X dX7_bestCell_122 (by decide) ?_
            refine b_sub (lv' := [(0, .ref (ad 0)), (1, .int a1), (2, .int a2), (3, .int s1), (5, .int v5)]) [1, 2, 3, 0, 5] rfl ?_
            exact B127 s1 v5 (μ.1 18 (a1).toNatClampNeg) μ h
        refine b_aload_n X dX7_bestCell_64 rfl 0 rfl ?_
        refine bVv (st := []) (nA := 0) X (c_X7_copyNow l D C ad  μ _ h) kM_0 (by decide) (enc_7 kM_0) rfl gw_X7_305 ⟨rfl, hd_X7_copyNow⟩ rfl rfl ⟨Nat.le_of_ble_eq_true rfl, Nat.le_of_ble_eq_true rfl⟩ rfl rfl (Nat.le_of_ble_eq_true rfl) dX7_bestCell_65 (fun μ8 h => ?_)
        refine b_aload_n X dX7_bestCell_68 rfl 0 rfl ?_
        refine g_7_30 X kM_0 m_f_X7_56 dX7_bestCell_69 ?_
        refine b_bipush (v := (nI 15)) X dX7_bestCell_72 (by decide) ?_
        refine b_iload_n X dX7_bestCell_74 rfl 1 rfl ?_
        refine b_iadd X dX7_bestCell_75 ?_
        refine b_iload X dX7_bestCell_76 5 rfl ?_
        have hz := h.1
        replace h := h.2
        refine b_iast X kM_15 nM_15 hz dX7_bestCell_78 (fun μ9 eμ9 => ?_)
        clear hz
        replace h := h μ9 eμ9
        refine b_aload_n X dX7_bestCell_79 rfl 0 rfl ?_
        refine b_aload_n X dX7_bestCell_80 rfl 0 rfl ?_
        refine bVi (st := [.ref (ad 0)]) (nA := 0) X (c_X7_dayLong l D C ad  μ9 _ h) kM_0 (by decide) (enc_7 kM_0) rfl gw_X7_205 ⟨rfl, hd_X7_dayLong⟩ rfl rfl ⟨Nat.le_of_ble_eq_true rfl, Nat.le_of_ble_eq_true rfl⟩ rfl rfl (Nat.le_of_ble_eq_true rfl) dX7_bestCell_81 (fun r10 μ11 h => ?_)
        obtain ⟨rfl, h⟩ := h
        refine bVv (st := []) (nA := 1) X (c_X7_goesOn l D C ad r10 μ9 _ h) kM_0 (by decide) (enc_7 kM_0) rfl gw_X7_308 ⟨rfl, hd_X7_goesOn⟩ rfl rfl ⟨Nat.le_of_ble_eq_true rfl, Nat.le_of_ble_eq_true rfl⟩ rfl rfl (Nat.le_of_ble_eq_true rfl) dX7_bestCell_84 (fun μ13 h => ?_)
        refine b_aload_n X dX7_bestCell_87 rfl 0 rfl ?_
        refine g_7_36 X kM_0 m_f_X7_65 dX7_bestCell_88 ?_
        refine b_iload_n X dX7_bestCell_91 rfl 1 rfl ?_
        have hz := h.1
        replace h := h.2
        refine b_iald X kM_18 nM_18 hz dX7_bestCell_92 ?_
        clear hz
        refine b_iload X dX7_bestCell_93 4 rfl ?_
        refine b_icmp_le (t := 103) X dX7_bestCell_95 (by decide) (fun c => ?_) (fun c => ?_)
        · replace h := h.1 c
          refine b_iload_n X dX7_bestCell_103 rfl 3 rfl ?_
          refine b_sub (lv' := [(0, .ref (ad 0)), (1, .int a1), (2, .int a2), (4, .int v4), (5, .int v5)]) [0, 1, 2, 4, 5] rfl ?_
          exact B104 v4 v5 v3 μ13 h
        · replace h := h.2 c
          refine b_iload X dX7_bestCell_98 5 rfl ?_
          refine b_goto (t := 104) X dX7_bestCell_100 (by decide) ?_
          refine b_sub (lv' := [(0, .ref (ad 0)), (1, .int a1), (2, .int a2), (4, .int v4), (5, .int v5)]) [0, 1, 2, 4, 5] rfl ?_
          exact B104 v4 v5 v5 μ13 h
      refine b_iload X dX7_bestCell_31 5 rfl ?_
      refine b_aload_n X dX7_bestCell_33 rfl 0 rfl ?_
      refine g_7_18 X kM_0 m_f_X7_173 dX7_bestCell_34 ?_
      refine b_icmp_ge (t := 135) X dX7_bestCell_37 (by decide) (fun c => ?_) (fun c => ?_)
      · replace h := h.1 c
        refine b_sub (lv' := [(2, .int a2), (3, .int v3), (4, .int v4)]) [2, 3, 4] rfl ?_
        exact B135 v3 v4 μ h
      · replace h := h.2 c
        refine b_aload_n X dX7_bestCell_40 rfl 0 rfl ?_
        refine b_aload_n X dX7_bestCell_41 rfl 0 rfl ?_
        refine g_7_29 X kM_0 m_f_X7_53 dX7_bestCell_42 ?_
        refine b_iload X dX7_bestCell_45 5 rfl ?_
        refine bVi (st := []) (nA := 2) X (c_X7_postIn l D C ad 14 kM_14 nM_14 v5 μ _ h) kM_0 (by decide) (enc_7 kM_0) rfl gw_X7_233 ⟨rfl, hd_X7_postIn⟩ rfl rfl ⟨Nat.le_of_ble_eq_true rfl, Nat.le_of_ble_eq_true rfl⟩ rfl rfl (Nat.le_of_ble_eq_true rfl) dX7_bestCell_47 (fun r5 μ6 h => ?_)
        obtain ⟨rfl, h⟩ := h
        refine b_istore (lv' := [(6, .int r5), (0, .ref (ad 0)), (1, .int a1), (2, .int a2), (3, .int v3), (4, .int v4), (5, .int v5)]) X dX7_bestCell_50 (by decide) rfl ?_
        refine b_iload X dX7_bestCell_52 0 rfl ?_
        refine b_iconst (v := ((-1) : Int32)) X dX7_bestCell_54 (by decide) ?_
        refine b_icmp_eq (t := 64) X dX7_bestCell_55 (by decide) (fun c => ?_) (fun c => ?_)
        · replace h := h.1 c
          refine b_sub (lv' := [(0, .ref (ad 0)), (1, .int a1), (2, .int a2), (3, .int v3), (4, .int v4), (5, .int v5)]) [1, 2, 3, 4, 5, 6] rfl ?_
          exact B64 v3 v4 v5 μ h
        · replace h := h.2 c
          refine b_iload X dX7_bestCell_58 0 rfl ?_
          refine b_iload_n X dX7_bestCell_60 rfl 2 rfl ?_
          refine b_icmp_ne (t := 129) X dX7_bestCell_61 (by decide) (fun c => ?_) (fun c => ?_)
          · replace h := h.1 c
            refine b_sub (lv' := [(0, .ref (ad 0)), (1, .int a1), (2, .int a2), (3, .int v3), (4, .int v4), (5, .int v5)]) [1, 2, 3, 4, 5, 6] rfl ?_
            exact B129 v3 v4 v5 μ h
          · replace h := h.2 c
            refine b_sub (lv' := [(0, .ref (ad 0)), (1, .int a1), (2, .int a2), (3, .int v3), (4, .int v4), (5, .int v5)]) [1, 2, 3, 4, 5, 6] rfl ?_
            exact B64 v3 v4 v5 μ h
    rw [eY] at B31
    exact B31
  refine b_aload_n X dX7_bestCell_0 rfl 0 rfl ?_
  refine b_iload_n X dX7_bestCell_1 rfl 1 rfl ?_
  refine bVi (st := []) (nA := 1) X (c_X7_isPost l D C ad a1 μ _ h) kM_0 (by decide) (enc_7 kM_0) rfl gw_X7_216 ⟨rfl, hd_X7_isPost⟩ rfl rfl ⟨Nat.le_of_ble_eq_true rfl, Nat.le_of_ble_eq_true rfl⟩ rfl rfl (Nat.le_of_ble_eq_true rfl) dX7_bestCell_2 (fun r1 μ2 h => ?_)
  obtain ⟨rfl, h⟩ := h
  refine b_if_ne (t := 11) X dX7_bestCell_5 (by decide) (fun c => ?_) (fun c => ?_)
  · replace h := h.1 c
    refine b_iload_n X dX7_bestCell_11 rfl 2 rfl ?_
    refine b_iconst (v := (nI 0)) X dX7_bestCell_12 (by decide) ?_
    refine b_iconst (v := (nI 1)) X dX7_bestCell_13 (by decide) ?_
    refine bSi (st := []) (nA := 3) X (c_X7_in l D C ad a2 (nI 0) (nI 1) μ _ h) gw_X7_85 hd_X7_in rfl rfl ⟨Nat.le_of_ble_eq_true rfl, Nat.le_of_ble_eq_true rfl⟩ rfl rfl (Nat.le_of_ble_eq_true rfl) dX7_bestCell_14 (fun r3 μ4 h => ?_)
    obtain ⟨rfl, h⟩ := h
    refine b_if_ne (t := 23) X dX7_bestCell_17 (by decide) (fun c => ?_) (fun c => ?_)
    · replace h := h.1 c
      refine b_iconst (v := (nI 0)) X dX7_bestCell_23 (by decide) ?_
      refine b_istore_n (lv' := [(3, .int (nI 0)), (0, .ref (ad 0)), (1, .int a1), (2, .int a2)]) X dX7_bestCell_24 rfl (by decide) rfl ?_
      refine b_iconst (v := ((-1) : Int32)) X dX7_bestCell_25 (by decide) ?_
      refine b_istore (lv' := [(4, .int ((-1) : Int32)), (3, .int (nI 0)), (0, .ref (ad 0)), (1, .int a1), (2, .int a2)]) X dX7_bestCell_26 (by decide) rfl ?_
      refine b_iconst (v := (nI 0)) X dX7_bestCell_28 (by decide) ?_
      refine b_istore (lv' := [(5, .int (nI 0)), (4, .int ((-1) : Int32)), (3, .int (nI 0)), (0, .ref (ad 0)), (1, .int a1), (2, .int a2)]) X dX7_bestCell_29 (by decide) rfl ?_
      refine b_sub (lv' := [(0, .ref (ad 0)), (1, .int a1), (2, .int a2), (3, .int (nI 0)), (4, .int ((-1) : Int32)), (5, .int (nI 0))]) [3, 4, 5, 2, 1, 0] rfl ?_
      exact B31 (nI 0) ((-1) : Int32) (nI 0) μ h
    · replace h := h.2 c
      refine b_ldc (v := ((-1000000002) : Int32)) X m_k_X7_89 dX7_bestCell_20 ?_
      exact hret _ _ _ _ h dX7_bestCell_22
  · replace h := h.2 c
    refine b_ldc (v := ((-1000000001) : Int32)) X m_k_X7_219 dX7_bestCell_8 ?_
    exact hret _ _ _ _ h dX7_bestCell_10
set_option maxHeartbeats 4000000 in
set_option maxRecDepth 100000 in
theorem c_X7_sumOf (l : Launch) (D : va_G) (C : Nat → ClassId) (ad : Nat → Nat) (a1 : Int32) (μ : Mem) (Q : Int32 → Prop) (h : w_X7_sumOf a1 μ Q) : Mi sM l yX7_sumOf cX7_sumOf 4 (some .int) rm_X7_sumOf D C ad [.ref (ad 0), .int a1] μ (fun r μ' => μ = μ' ∧ Q r) := by
  refine fm_i (by decide +kernel) sM_lt (Nat.le_of_ble_eq_true rfl) (fun K X hret => ?_)
  have X : CK sM D C ad K cX7_sumOf 4 RX7 := X
  refine b_lv (lv' := [(0, .ref (ad 0)), (1, .int a1)]) rfl ?_
  unfold w_X7_sumOf at h
  have B4 : ∀ (v2 : Int32) (v3 : Int32), w_X7_sumOf_4 a1 v2 v3 μ Q → WB sM l D C ad rm_X7_sumOf K 4 μ 4 [(0, .ref (ad 0)), (1, .int a1), (2, .int v2), (3, .int v3)] [] := by
    intro v2 v3 h
    obtain ⟨Y4, eY⟩ : ∃ Y : Int32 → Int32 → Prop, Y = fun (v2 : Int32) (v3 : Int32) => WB sM l D C ad rm_X7_sumOf K 4 μ 4 [(0, .ref (ad 0)), (1, .int a1), (2, .int v2), (3, .int v3)] [] := ⟨_, rfl⟩
    have B4 : Y4 v2 v3 := by
      unfold w_X7_sumOf_4 at h
      refine h Y4 ?_
      clear h
      intro v2 v3 h
      unfold s_X7_sumOf_4 at h
      rw [eY]
      show WB sM l D C ad rm_X7_sumOf K 4 μ 4 [(0, .ref (ad 0)), (1, .int a1), (2, .int v2), (3, .int v3)] []
      have T4 : ∀ (v2 : Int32) (v3 : Int32), Y4 v2 v3 → WB sM l D C ad rm_X7_sumOf K 4 μ 4 [(0, .ref (ad 0)), (1, .int a1), (2, .int v2), (3, .int v3)] [] := by
        intro v2 v3 h
        rw [eY] at h
        exact h
      clear eY
      have B33 : ∀ (v3 : Int32) (s2 : Int32) (s1 : Int32), w_X7_sumOf_33 a1 Y4 v3 s2 s1 μ Q → WB sM l D C ad rm_X7_sumOf K 4 μ 33 [(0, .ref (ad 0)), (1, .int a1), (3, .int v3)] [.int s2, .int s1] := by
        intro v3 s2 s1 h
        unfold w_X7_sumOf_33 at h
        refine b_iadd X dX7_sumOf_33 ?_
        refine b_topi (fun x1 ex1 => ?_)
        replace h := h x1 ex1
        refine b_istore_n (lv' := [(2, .int x1), (0, .ref (ad 0)), (1, .int a1), (3, .int v3)]) X dX7_sumOf_34 rfl (by decide) rfl ?_
        obtain ⟨x2, ex2⟩ : ∃ y : Int32, y = v3 + (nI 1) := ⟨_, rfl⟩
        replace h := h x2 ex2
        refine b_iinc (x := x2) (lv' := [(3, .int x2), (2, .int x1), (0, .ref (ad 0)), (1, .int a1)]) (q := 3) X dX7_sumOf_35 rfl (by rw [ex2]; rfl) (by decide) rfl ?_
        refine b_goto (t := 4) X dX7_sumOf_38 (by decide) ?_
        refine b_sub (lv' := [(0, .ref (ad 0)), (1, .int a1), (2, .int x1), (3, .int x2)]) [2, 3, 1, 0] rfl ?_
        exact T4 x1 x2 h
      refine b_iload_n X dX7_sumOf_4 rfl 3 rfl ?_
      refine b_aload_n X dX7_sumOf_5 rfl 0 rfl ?_
      refine g_7_20 X kM_0 m_f_X7_179 dX7_sumOf_6 ?_
      refine b_icmp_ge (t := 41) X dX7_sumOf_9 (by decide) (fun c => ?_) (fun c => ?_)
      · replace h := h.1 c
        refine b_iload_n X dX7_sumOf_41 rfl 2 rfl ?_
        exact hret _ _ _ _ ⟨rfl, h⟩ dX7_sumOf_42
      · replace h := h.2 c
        refine b_iload_n X dX7_sumOf_12 rfl 2 rfl ?_
        refine b_aload_n X dX7_sumOf_13 rfl 0 rfl ?_
        refine g_7_25 X kM_0 m_f_X7_41 dX7_sumOf_14 ?_
        refine b_iload_n X dX7_sumOf_17 rfl 3 rfl ?_
        have hz := h.1
        replace h := h.2
        refine b_iald X kM_10 nM_10 hz dX7_sumOf_18 ?_
        clear hz
        refine b_iload_n X dX7_sumOf_19 rfl 1 rfl ?_
        refine b_icmp_ne (t := 32) X dX7_sumOf_20 (by decide) (fun c => ?_) (fun c => ?_)
        · replace h := h.1 c
          refine b_iconst (v := (nI 0)) X dX7_sumOf_32 (by decide) ?_
          refine b_sub (lv' := [(0, .ref (ad 0)), (1, .int a1), (3, .int v3)]) [0, 1, 3] rfl ?_
          exact B33 v3 (nI 0) v2 h
        · replace h := h.2 c
          refine b_aload_n X dX7_sumOf_23 rfl 0 rfl ?_
          refine g_7_36 X kM_0 m_f_X7_65 dX7_sumOf_24 ?_
          refine b_iload_n X dX7_sumOf_27 rfl 3 rfl ?_
          have hz := h.1
          replace h := h.2
          refine b_iald X kM_18 nM_18 hz dX7_sumOf_28 ?_
          clear hz
          refine b_goto (t := 33) X dX7_sumOf_29 (by decide) ?_
          refine b_sub (lv' := [(0, .ref (ad 0)), (1, .int a1), (3, .int v3)]) [0, 1, 3] rfl ?_
          exact B33 v3 (μ.1 18 (v3).toNatClampNeg) v2 h
    rw [eY] at B4
    exact B4
  refine b_iconst (v := (nI 0)) X dX7_sumOf_0 (by decide) ?_
  refine b_istore_n (lv' := [(2, .int (nI 0)), (0, .ref (ad 0)), (1, .int a1)]) X dX7_sumOf_1 rfl (by decide) rfl ?_
  refine b_iconst (v := (nI 0)) X dX7_sumOf_2 (by decide) ?_
  refine b_istore_n (lv' := [(3, .int (nI 0)), (2, .int (nI 0)), (0, .ref (ad 0)), (1, .int a1)]) X dX7_sumOf_3 rfl (by decide) rfl ?_
  refine b_sub (lv' := [(0, .ref (ad 0)), (1, .int a1), (2, .int (nI 0)), (3, .int (nI 0))]) [2, 3, 1, 0] rfl ?_
  exact B4 (nI 0) (nI 0) h
set_option maxHeartbeats 4000000 in
set_option maxRecDepth 100000 in
theorem c_X7_isFor (l : Launch) (D : va_G) (C : Nat → ClassId) (ad : Nat → Nat) (a1 : Int32) (a2 : Int32) (a3 : Int32) (μ : Mem) (Q : Int32 → Prop) (h : w_X7_isFor a1 a2 a3 μ Q) : Mi sM l yX7_isFor cX7_isFor 5 (some .boolean) rm_X7_isFor D C ad [.ref (ad 0), .int a1, .int a2, .int a3] μ (fun r μ' => μ = μ' ∧ Q r) := by
  refine fm_z (by decide +kernel) sM_lt (Nat.le_of_ble_eq_true rfl) (fun K X hret => ?_)
  have X : CK sM D C ad K cX7_isFor 5 RX7 := X
  refine b_lv (lv' := [(0, .ref (ad 0)), (1, .int a1), (2, .int a2), (3, .int a3)]) rfl ?_
  unfold w_X7_isFor at h
  refine b_aload_n X dX7_isFor_0 rfl 0 rfl ?_
  refine b_aload_n X dX7_isFor_1 rfl 0 rfl ?_
  refine g_7_29 X kM_0 m_f_X7_53 dX7_isFor_2 ?_
  refine b_iload_n X dX7_isFor_5 rfl 1 rfl ?_
  refine bVi (st := []) (nA := 2) X (c_X7_postIn l D C ad 14 kM_14 nM_14 a1 μ _ h) kM_0 (by decide) (enc_7 kM_0) rfl gw_X7_233 ⟨rfl, hd_X7_postIn⟩ rfl rfl ⟨Nat.le_of_ble_eq_true rfl, Nat.le_of_ble_eq_true rfl⟩ rfl rfl (Nat.le_of_ble_eq_true rfl) dX7_isFor_6 (fun r1 μ2 h => ?_)
  obtain ⟨rfl, h⟩ := h
  refine b_istore (lv' := [(4, .int r1), (0, .ref (ad 0)), (1, .int a1), (2, .int a2), (3, .int a3)]) X dX7_isFor_9 (by decide) rfl ?_
  refine b_iload X dX7_isFor_11 0 rfl ?_
  refine b_iconst (v := ((-1) : Int32)) X dX7_isFor_13 (by decide) ?_
  refine b_icmp_eq (t := 29) X dX7_isFor_14 (by decide) (fun c => ?_) (fun c => ?_)
  · replace h := h.1 c
    refine b_iconst (v := (nI 1)) X dX7_isFor_29 (by decide) ?_
    refine b_goto (t := 34) X dX7_isFor_30 (by decide) ?_
    exact hret _ _ _ _ ⟨(Or.inr rfl), rfl, h⟩ dX7_isFor_34
  · replace h := h.2 c
    refine b_iload X dX7_isFor_17 0 rfl ?_
    refine b_iload_n X dX7_isFor_19 rfl 3 rfl ?_
    refine b_icmp_eq (t := 29) X dX7_isFor_20 (by decide) (fun c => ?_) (fun c => ?_)
    · replace h := h.1 c
      refine b_iconst (v := (nI 1)) X dX7_isFor_29 (by decide) ?_
      refine b_goto (t := 34) X dX7_isFor_30 (by decide) ?_
      exact hret _ _ _ _ ⟨(Or.inr rfl), rfl, h⟩ dX7_isFor_34
    · replace h := h.2 c
      refine b_iload X dX7_isFor_23 0 rfl ?_
      refine b_iload_n X dX7_isFor_25 rfl 4 rfl ?_
      refine b_icmp_ne (t := 33) X dX7_isFor_26 (by decide) (fun c => ?_) (fun c => ?_)
      · replace h := h.1 c
        refine b_iconst (v := (nI 0)) X dX7_isFor_33 (by decide) ?_
        exact hret _ _ _ _ ⟨(Or.inl rfl), rfl, h⟩ dX7_isFor_34
      · replace h := h.2 c
        refine b_iconst (v := (nI 1)) X dX7_isFor_29 (by decide) ?_
        refine b_goto (t := 34) X dX7_isFor_30 (by decide) ?_
        exact hret _ _ _ _ ⟨(Or.inr rfl), rfl, h⟩ dX7_isFor_34
set_option maxHeartbeats 4000000 in
set_option maxRecDepth 100000 in
theorem c_X7_bestTwo (l : Launch) (D : va_G) (C : Nat → ClassId) (ad : Nat → Nat) (a1 : Int32) (a2 : Int32) (a3 : Int32) (μ : Mem) (Q : Int32 → Mem → Prop) (h : w_X7_bestTwo a1 a2 a3 μ Q) : Mi sM l yX7_bestTwo cX7_bestTwo 9 (some .int) rm_X7_bestTwo D C ad [.ref (ad 0), .int a1, .int a2, .int a3] μ Q := by
  refine fm_i (by decide +kernel) sM_lt (Nat.le_of_ble_eq_true rfl) (fun K X hret => ?_)
  have X : CK sM D C ad K cX7_bestTwo 9 RX7 := X
  refine b_lv (lv' := [(0, .ref (ad 0)), (1, .int a1), (2, .int a2), (3, .int a3)]) rfl ?_
  unfold w_X7_bestTwo at h
  have B45 : ∀ (v4 : Int32) (v5 : Int32) (v6 : Int32) (μ : Mem), w_X7_bestTwo_45 a1 a2 a3 v4 v5 v6 μ Q → WB sM l D C ad rm_X7_bestTwo K 9 μ 45 [(0, .ref (ad 0)), (1, .int a1), (2, .int a2), (3, .int a3), (4, .int v4), (5, .int v5), (6, .int v6)] [] := by
    intro v4 v5 v6 μ h
    obtain ⟨Y45, eY⟩ : ∃ Y : Int32 → Int32 → Int32 → Mem → Prop, Y = fun (v4 : Int32) (v5 : Int32) (v6 : Int32) (μ : Mem) => WB sM l D C ad rm_X7_bestTwo K 9 μ 45 [(0, .ref (ad 0)), (1, .int a1), (2, .int a2), (3, .int a3), (4, .int v4), (5, .int v5), (6, .int v6)] [] := ⟨_, rfl⟩
    have B45 : Y45 v4 v5 v6 μ := by
      unfold w_X7_bestTwo_45 at h
      refine h Y45 ?_
      clear h
      intro v4 v5 v6 μ h
      unfold s_X7_bestTwo_45 at h
      rw [eY]
      show WB sM l D C ad rm_X7_bestTwo K 9 μ 45 [(0, .ref (ad 0)), (1, .int a1), (2, .int a2), (3, .int a3), (4, .int v4), (5, .int v5), (6, .int v6)] []
      have T45 : ∀ (v4 : Int32) (v5 : Int32) (v6 : Int32) (μ : Mem), Y45 v4 v5 v6 μ → WB sM l D C ad rm_X7_bestTwo K 9 μ 45 [(0, .ref (ad 0)), (1, .int a1), (2, .int a2), (3, .int a3), (4, .int v4), (5, .int v5), (6, .int v6)] [] := by
        intro v4 v5 v6 μ h
        rw [eY] at h
        exact h
      clear eY
      have B210 : ∀ (v4 : Int32) (v5 : Int32) (μ : Mem), w_X7_bestTwo_210 a1 a2 a3 v4 v5 μ Q → WB sM l D C ad rm_X7_bestTwo K 9 μ 210 [(3, .int a3), (4, .int v4), (5, .int v5)] [] := by
        intro v4 v5 μ h
        unfold w_X7_bestTwo_210 at h
        refine b_iload_n X dX7_bestTwo_210 rfl 0 rfl ?_
        refine b_if_ne (t := 219) X dX7_bestTwo_211 (by decide) (fun c => ?_) (fun c => ?_)
        · replace h := h.1 c
          refine b_iload X dX7_bestTwo_219 2 rfl ?_
          exact hret _ _ _ _ h dX7_bestTwo_221
        · replace h := h.2 c
          refine b_iload X dX7_bestTwo_214 1 rfl ?_
          refine b_goto (t := 221) X dX7_bestTwo_216 (by decide) ?_
          exact hret _ _ _ _ h dX7_bestTwo_221
      have B57 : ∀ (v4 : Int32) (v5 : Int32) (v6 : Int32) (v7 : Int32) (μ : Mem), w_X7_bestTwo_57 a1 a2 a3 Y45 v4 v5 v6 v7 μ Q → WB sM l D C ad rm_X7_bestTwo K 9 μ 57 [(0, .ref (ad 0)), (1, .int a1), (2, .int a2), (3, .int a3), (4, .int v4), (5, .int v5), (6, .int v6), (7, .int v7)] [] := by
        intro v4 v5 v6 v7 μ h
        obtain ⟨Y57, eY⟩ : ∃ Y : Int32 → Int32 → Int32 → Mem → Prop, Y = fun (v4 : Int32) (v5 : Int32) (v7 : Int32) (μ : Mem) => WB sM l D C ad rm_X7_bestTwo K 9 μ 57 [(0, .ref (ad 0)), (1, .int a1), (2, .int a2), (3, .int a3), (4, .int v4), (5, .int v5), (6, .int v6), (7, .int v7)] [] := ⟨_, rfl⟩
        have B57 : Y57 v4 v5 v7 μ := by
          unfold w_X7_bestTwo_57 at h
          refine h Y57 ?_
          clear h
          intro v4 v5 v7 μ h
          unfold s_X7_bestTwo_57 at h
          rw [eY]
          show WB sM l D C ad rm_X7_bestTwo K 9 μ 57 [(0, .ref (ad 0)), (1, .int a1), (2, .int a2), (3, .int a3), (4, .int v4), (5, .int v5), (6, .int v6), (7, .int v7)] []
          have T57 : ∀ (v4 : Int32) (v5 : Int32) (v7 : Int32) (μ : Mem), Y57 v4 v5 v7 μ → WB sM l D C ad rm_X7_bestTwo K 9 μ 57 [(0, .ref (ad 0)), (1, .int a1), (2, .int a2), (3, .int a3), (4, .int v4), (5, .int v5), (6, .int v6), (7, .int v7)] [] := by
            intro v4 v5 v7 μ h
            rw [eY] at h
            exact h
          clear eY
          have B204 : ∀ (v4 : Int32) (v5 : Int32) (v6 : Int32) (μ : Mem), w_X7_bestTwo_204 a1 a2 a3 Y45 v4 v5 v6 μ Q → WB sM l D C ad rm_X7_bestTwo K 9 μ 204 [(0, .ref (ad 0)), (1, .int a1), (2, .int a2), (3, .int a3), (4, .int v4), (5, .int v5), (6, .int v6)] [] := by
            intro v4 v5 v6 μ h
            unfold w_X7_bestTwo_204 at h
            obtain ⟨x28, ex28⟩ : ∃ y : Int32, y = v6 + (nI 1) := ⟨_, rfl⟩
            replace h := h x28 ex28
            refine b_iinc (x := x28) (lv' := [(6, .int x28), (0, .ref (ad 0)), (1, .int a1), (2, .int a2), (3, .int a3), (4, .int v4), (5, .int v5)]) (q := 6) X dX7_bestTwo_204 rfl (by rw [ex28]; rfl) (by decide) rfl ?_
            refine b_goto (t := 45) X dX7_bestTwo_207 (by decide) ?_
            refine b_sub (lv' := [(0, .ref (ad 0)), (1, .int a1), (2, .int a2), (3, .int a3), (4, .int v4), (5, .int v5), (6, .int x28)]) [1, 2, 3, 4, 5, 6, 0] rfl ?_
            exact T45 v4 v5 x28 μ h
          have B198 : ∀ (v4 : Int32) (v5 : Int32) (v7 : Int32) (μ : Mem), w_X7_bestTwo_198 a1 a2 a3 Y45 Y57 v4 v5 v6 v7 μ Q → WB sM l D C ad rm_X7_bestTwo K 9 μ 198 [(0, .ref (ad 0)), (1, .int a1), (2, .int a2), (3, .int a3), (4, .int v4), (5, .int v5), (6, .int v6), (7, .int v7)] [] := by
            intro v4 v5 v7 μ h
            unfold w_X7_bestTwo_198 at h
            obtain ⟨x27, ex27⟩ : ∃ y : Int32, y = v7 + (nI 1) := ⟨_, rfl⟩
            replace h := h x27 ex27
            refine b_iinc (x := x27) (lv' := [(7, .int x27), (0, .ref (ad 0)), (1, .int a1), (2, .int a2), (3, .int a3), (4, .int v4), (5, .int v5), (6, .int v6)]) (q := 7) X dX7_bestTwo_198 rfl (by rw [ex27]; rfl) (by decide) rfl ?_
            refine b_goto (t := 57) X dX7_bestTwo_201 (by decide) ?_
            refine b_sub (lv' := [(0, .ref (ad 0)), (1, .int a1), (2, .int a2), (3, .int a3), (4, .int v4), (5, .int v5), (6, .int v6), (7, .int x27)]) [1, 2, 3, 4, 5, 6, 7, 0] rfl ?_
            exact T57 v4 v5 x27 μ h
          have B158 : ∀ (v4 : Int32) (v5 : Int32) (v7 : Int32) (s1 : Int32) (μ : Mem), w_X7_bestTwo_158 a1 a2 a3 Y45 Y57 v4 v5 v6 v7 s1 μ Q → WB sM l D C ad rm_X7_bestTwo K 9 μ 158 [(0, .ref (ad 0)), (1, .int a1), (2, .int a2), (3, .int a3), (4, .int v4), (5, .int v5), (6, .int v6), (7, .int v7)] [.int s1] := by
            intro v4 v5 v7 s1 μ h
            unfold w_X7_bestTwo_158 at h
            have B180 : ∀ (v5 : Int32) (v7 : Int32) (v8 : Int32) (s1 : Int32) (μ : Mem), w_X7_bestTwo_180 a1 a2 a3 Y45 Y57 v5 v6 v7 v8 s1 μ Q → WB sM l D C ad rm_X7_bestTwo K 9 μ 180 [(0, .ref (ad 0)), (1, .int a1), (2, .int a2), (3, .int a3), (5, .int v5), (6, .int v6), (7, .int v7), (8, .int v8)] [.int s1] := by
              intro v5 v7 v8 s1 μ h
              unfold w_X7_bestTwo_180 at h
              have B196 : ∀ (v4 : Int32) (v7 : Int32) (s1 : Int32) (μ : Mem), w_X7_bestTwo_196 a1 a2 a3 Y45 Y57 v4 v6 v7 s1 μ Q → WB sM l D C ad rm_X7_bestTwo K 9 μ 196 [(0, .ref (ad 0)), (1, .int a1), (2, .int a2), (3, .int a3), (4, .int v4), (6, .int v6), (7, .int v7)] [.int s1] := by
                intro v4 v7 s1 μ h
                unfold w_X7_bestTwo_196 at h
                refine b_istore (lv' := [(5, .int s1), (0, .ref (ad 0)), (1, .int a1), (2, .int a2), (3, .int a3), (4, .int v4), (6, .int v6), (7, .int v7)]) X dX7_bestTwo_196 (by decide) rfl ?_
                refine b_sub (lv' := [(0, .ref (ad 0)), (1, .int a1), (2, .int a2), (3, .int a3), (4, .int v4), (5, .int s1), (6, .int v6), (7, .int v7)]) [1, 2, 3, 4, 5, 0, 6, 7] rfl ?_
                exact B198 v4 s1 v7 μ h
              refine b_istore (lv' := [(4, .int s1), (0, .ref (ad 0)), (1, .int a1), (2, .int a2), (3, .int a3), (5, .int v5), (6, .int v6), (7, .int v7), (8, .int v8)]) X dX7_bestTwo_180 (by decide) rfl ?_
              refine b_iload X dX7_bestTwo_182 8 rfl ?_
              refine b_iload X dX7_bestTwo_184 5 rfl ?_
              refine b_icmp_le (t := 194) X dX7_bestTwo_186 (by decide) (fun c => ?_) (fun c => ?_)
              · replace h := h.1 c
                refine b_iload X dX7_bestTwo_194 5 rfl ?_
                refine b_sub (lv' := [(0, .ref (ad 0)), (1, .int a1), (2, .int a2), (3, .int a3), (4, .int s1), (6, .int v6), (7, .int v7)]) [1, 2, 3, 4, 0, 6, 7] rfl ?_
                exact B196 s1 v7 v5 μ h
              · replace h := h.2 c
                refine b_iload X dX7_bestTwo_189 8 rfl ?_
                refine b_goto (t := 196) X dX7_bestTwo_191 (by decide) ?_
                refine b_sub (lv' := [(0, .ref (ad 0)), (1, .int a1), (2, .int a2), (3, .int a3), (4, .int s1), (6, .int v6), (7, .int v7)]) [1, 2, 3, 4, 0, 6, 7] rfl ?_
                exact B196 s1 v7 v8 μ h
            refine b_istore (lv' := [(8, .int s1), (0, .ref (ad 0)), (1, .int a1), (2, .int a2), (3, .int a3), (4, .int v4), (5, .int v5), (6, .int v6), (7, .int v7)]) X dX7_bestTwo_158 (by decide) rfl ?_
            refine b_iload X dX7_bestTwo_160 0 rfl ?_
            refine b_iload X dX7_bestTwo_162 6 rfl ?_
            refine b_icmp_le (t := 178) X dX7_bestTwo_164 (by decide) (fun c => ?_) (fun c => ?_)
            · replace h := h.1 c
              refine b_iload X dX7_bestTwo_178 5 rfl ?_
              refine b_sub (lv' := [(0, .ref (ad 0)), (1, .int a1), (2, .int a2), (3, .int a3), (5, .int v5), (6, .int v6), (7, .int v7), (8, .int s1)]) [1, 2, 3, 4, 6, 7, 8, 0] rfl ?_
              exact B180 v5 v7 s1 v4 μ h
            · replace h := h.2 c
              refine b_bipush (v := (nI 100)) X dX7_bestTwo_167 (by decide) ?_
              refine b_iload X dX7_bestTwo_169 7 rfl ?_
              refine b_imul X dX7_bestTwo_171 ?_
              refine b_iload X dX7_bestTwo_172 8 rfl ?_
              refine b_iadd X dX7_bestTwo_174 ?_
              refine b_goto (t := 180) X dX7_bestTwo_175 (by decide) ?_
              refine b_sub (lv' := [(0, .ref (ad 0)), (1, .int a1), (2, .int a2), (3, .int a3), (5, .int v5), (6, .int v6), (7, .int v7), (8, .int s1)]) [1, 2, 3, 4, 6, 7, 8, 0] rfl ?_
              exact B180 v5 v7 s1 (((nI 100) * v6) + v7) μ h
          refine b_iload X dX7_bestTwo_57 7 rfl ?_
          refine b_aload_n X dX7_bestTwo_59 rfl 0 rfl ?_
          refine g_7_18 X kM_0 m_f_X7_173 dX7_bestTwo_60 ?_
          refine b_icmp_ge (t := 204) X dX7_bestTwo_63 (by decide) (fun c => ?_) (fun c => ?_)
          · replace h := h.1 c
            refine b_sub (lv' := [(0, .ref (ad 0)), (1, .int a1), (2, .int a2), (3, .int a3), (4, .int v4), (5, .int v5), (6, .int v6)]) [0, 1, 2, 3, 4, 5, 6] rfl ?_
            exact B204 v4 v5 v6 μ h
          · replace h := h.2 c
            refine b_iload X dX7_bestTwo_66 6 rfl ?_
            refine b_iload X dX7_bestTwo_68 7 rfl ?_
            refine b_icmp_eq (t := 198) X dX7_bestTwo_70 (by decide) (fun c => ?_) (fun c => ?_)
            · replace h := h.1 c
              refine b_sub (lv' := [(0, .ref (ad 0)), (1, .int a1), (2, .int a2), (3, .int a3), (4, .int v4), (5, .int v5), (6, .int v6), (7, .int v7)]) [0, 1, 2, 3, 4, 5, 6, 7] rfl ?_
              exact B198 v4 v5 v7 μ h
            · replace h := h.2 c
              refine b_aload_n X dX7_bestTwo_73 rfl 0 rfl ?_
              refine b_iload X dX7_bestTwo_74 6 rfl ?_
              refine b_iload_n X dX7_bestTwo_76 rfl 1 rfl ?_
              refine b_iload_n X dX7_bestTwo_77 rfl 2 rfl ?_
              refine bVi (st := []) (nA := 3) X (c_X7_isFor l D C ad v6 a1 a2 μ _ h) kM_0 (by decide) (enc_7 kM_0) rfl gw_X7_312 ⟨rfl, hd_X7_isFor⟩ rfl rfl ⟨Nat.le_of_ble_eq_true rfl, Nat.le_of_ble_eq_true rfl⟩ rfl rfl (Nat.le_of_ble_eq_true rfl) dX7_bestTwo_78 (fun r7 μ8 h => ?_)
              obtain ⟨rfl, h⟩ := h
              refine b_if_eq (t := 198) X dX7_bestTwo_81 (by decide) (fun c => ?_) (fun c => ?_)
              · replace h := h.1 c
                refine b_sub (lv' := [(0, .ref (ad 0)), (1, .int a1), (2, .int a2), (3, .int a3), (4, .int v4), (5, .int v5), (6, .int v6), (7, .int v7)]) [0, 1, 2, 3, 4, 5, 6, 7] rfl ?_
                exact B198 v4 v5 v7 μ h
              · replace h := h.2 c
                refine b_aload_n X dX7_bestTwo_84 rfl 0 rfl ?_
                refine b_iload X dX7_bestTwo_85 7 rfl ?_
                refine b_iload_n X dX7_bestTwo_87 rfl 1 rfl ?_
                refine b_iload_n X dX7_bestTwo_88 rfl 2 rfl ?_
                refine bVi (st := []) (nA := 3) X (c_X7_isFor l D C ad v7 a1 a2 μ _ h) kM_0 (by decide) (enc_7 kM_0) rfl gw_X7_312 ⟨rfl, hd_X7_isFor⟩ rfl rfl ⟨Nat.le_of_ble_eq_true rfl, Nat.le_of_ble_eq_true rfl⟩ rfl rfl (Nat.le_of_ble_eq_true rfl) dX7_bestTwo_89 (fun r9 μ10 h => ?_)
                obtain ⟨rfl, h⟩ := h
                refine b_if_eq (t := 198) X dX7_bestTwo_92 (by decide) (fun c => ?_) (fun c => ?_)
                · replace h := h.1 c
                  refine b_sub (lv' := [(0, .ref (ad 0)), (1, .int a1), (2, .int a2), (3, .int a3), (4, .int v4), (5, .int v5), (6, .int v6), (7, .int v7)]) [0, 1, 2, 3, 4, 5, 6, 7] rfl ?_
                  exact B198 v4 v5 v7 μ h
                · replace h := h.2 c
                  refine b_aload_n X dX7_bestTwo_95 rfl 0 rfl ?_
                  refine bVv (st := []) (nA := 0) X (c_X7_copyNow l D C ad  μ _ h) kM_0 (by decide) (enc_7 kM_0) rfl gw_X7_305 ⟨rfl, hd_X7_copyNow⟩ rfl rfl ⟨Nat.le_of_ble_eq_true rfl, Nat.le_of_ble_eq_true rfl⟩ rfl rfl (Nat.le_of_ble_eq_true rfl) dX7_bestTwo_96 (fun μ12 h => ?_)
                  refine b_aload_n X dX7_bestTwo_99 rfl 0 rfl ?_
                  refine g_7_30 X kM_0 m_f_X7_56 dX7_bestTwo_100 ?_
                  refine b_bipush (v := (nI 15)) X dX7_bestTwo_103 (by decide) ?_
                  refine b_iload_n X dX7_bestTwo_105 rfl 1 rfl ?_
                  refine b_iadd X dX7_bestTwo_106 ?_
                  refine b_iload X dX7_bestTwo_107 6 rfl ?_
                  have hz := h.1
                  replace h := h.2
                  refine b_iast X kM_15 nM_15 hz dX7_bestTwo_109 (fun μ13 eμ13 => ?_)
                  clear hz
                  replace h := h μ13 eμ13
                  refine b_aload_n X dX7_bestTwo_110 rfl 0 rfl ?_
                  refine g_7_30 X kM_0 m_f_X7_56 dX7_bestTwo_111 ?_
                  refine b_bipush (v := (nI 15)) X dX7_bestTwo_114 (by decide) ?_
                  refine b_iload_n X dX7_bestTwo_116 rfl 2 rfl ?_
                  refine b_iadd X dX7_bestTwo_117 ?_
                  refine b_iload X dX7_bestTwo_118 7 rfl ?_
                  have hz := h.1
                  replace h := h.2
                  refine b_iast X kM_15 nM_15 hz dX7_bestTwo_120 (fun μ14 eμ14 => ?_)
                  clear hz
                  replace h := h μ14 eμ14
                  refine b_aload_n X dX7_bestTwo_121 rfl 0 rfl ?_
                  refine b_bipush (v := (nI 7)) X dX7_bestTwo_122 (by decide) ?_
                  refine b_aload_n X dX7_bestTwo_124 rfl 0 rfl ?_
                  refine bVi (st := [.int (nI 7), .ref (ad 0)]) (nA := 0) X (c_X7_dayLong l D C ad  μ14 _ h) kM_0 (by decide) (enc_7 kM_0) rfl gw_X7_205 ⟨rfl, hd_X7_dayLong⟩ rfl rfl ⟨Nat.le_of_ble_eq_true rfl, Nat.le_of_ble_eq_true rfl⟩ rfl rfl (Nat.le_of_ble_eq_true rfl) dX7_bestTwo_125 (fun r15 μ16 h => ?_)
                  obtain ⟨rfl, h⟩ := h
                  refine b_imul X dX7_bestTwo_128 ?_
                  refine bVv (st := []) (nA := 1) X (c_X7_goesOn l D C ad ((nI 7) * r15) μ14 _ h) kM_0 (by decide) (enc_7 kM_0) rfl gw_X7_308 ⟨rfl, hd_X7_goesOn⟩ rfl rfl ⟨Nat.le_of_ble_eq_true rfl, Nat.le_of_ble_eq_true rfl⟩ rfl rfl (Nat.le_of_ble_eq_true rfl) dX7_bestTwo_129 (fun μ18 h => ?_)
                  refine b_aload_n X dX7_bestTwo_132 rfl 0 rfl ?_
                  refine b_iconst (v := (nI 0)) X dX7_bestTwo_133 (by decide) ?_
                  refine bVi (st := []) (nA := 1) X (c_X7_sumOf l D C ad (nI 0) μ18 _ h) kM_0 (by decide) (enc_7 kM_0) rfl gw_X7_315 ⟨rfl, hd_X7_sumOf⟩ rfl rfl ⟨Nat.le_of_ble_eq_true rfl, Nat.le_of_ble_eq_true rfl⟩ rfl rfl (Nat.le_of_ble_eq_true rfl) dX7_bestTwo_134 (fun r19 μ20 h => ?_)
                  obtain ⟨rfl, h⟩ := h
                  refine b_aload_n X dX7_bestTwo_137 rfl 0 rfl ?_
                  refine b_iconst (v := (nI 1)) X dX7_bestTwo_138 (by decide) ?_
                  refine bVi (st := [.int r19]) (nA := 1) X (c_X7_sumOf l D C ad (nI 1) μ18 _ h) kM_0 (by decide) (enc_7 kM_0) rfl gw_X7_315 ⟨rfl, hd_X7_sumOf⟩ rfl rfl ⟨Nat.le_of_ble_eq_true rfl, Nat.le_of_ble_eq_true rfl⟩ rfl rfl (Nat.le_of_ble_eq_true rfl) dX7_bestTwo_139 (fun r21 μ22 h => ?_)
                  obtain ⟨rfl, h⟩ := h
                  refine b_icmp_ge (t := 153) X dX7_bestTwo_142 (by decide) (fun c => ?_) (fun c => ?_)
                  · replace h := h.1 c
                    refine b_aload_n X dX7_bestTwo_153 rfl 0 rfl ?_
                    refine b_iconst (v := (nI 1)) X dX7_bestTwo_154 (by decide) ?_
                    refine bVi (st := []) (nA := 1) X (c_X7_sumOf l D C ad (nI 1) μ18 _ h) kM_0 (by decide) (enc_7 kM_0) rfl gw_X7_315 ⟨rfl, hd_X7_sumOf⟩ rfl rfl ⟨Nat.le_of_ble_eq_true rfl, Nat.le_of_ble_eq_true rfl⟩ rfl rfl (Nat.le_of_ble_eq_true rfl) dX7_bestTwo_155 (fun r23 μ24 h => ?_)
                    obtain ⟨rfl, h⟩ := h
                    refine b_sub (lv' := [(0, .ref (ad 0)), (1, .int a1), (2, .int a2), (3, .int a3), (4, .int v4), (5, .int v5), (6, .int v6), (7, .int v7)]) [0, 1, 2, 3, 4, 5, 6, 7] rfl ?_
                    exact B158 v4 v5 v7 r23 μ18 h
                  · replace h := h.2 c
                    refine b_aload_n X dX7_bestTwo_145 rfl 0 rfl ?_
                    refine b_iconst (v := (nI 0)) X dX7_bestTwo_146 (by decide) ?_
                    refine bVi (st := []) (nA := 1) X (c_X7_sumOf l D C ad (nI 0) μ18 _ h) kM_0 (by decide) (enc_7 kM_0) rfl gw_X7_315 ⟨rfl, hd_X7_sumOf⟩ rfl rfl ⟨Nat.le_of_ble_eq_true rfl, Nat.le_of_ble_eq_true rfl⟩ rfl rfl (Nat.le_of_ble_eq_true rfl) dX7_bestTwo_147 (fun r25 μ26 h => ?_)
                    obtain ⟨rfl, h⟩ := h
                    refine b_goto (t := 158) X dX7_bestTwo_150 (by decide) ?_
                    refine b_sub (lv' := [(0, .ref (ad 0)), (1, .int a1), (2, .int a2), (3, .int a3), (4, .int v4), (5, .int v5), (6, .int v6), (7, .int v7)]) [0, 1, 2, 3, 4, 5, 6, 7] rfl ?_
                    exact B158 v4 v5 v7 r25 μ18 h
        rw [eY] at B57
        exact B57
      refine b_iload X dX7_bestTwo_45 6 rfl ?_
      refine b_aload_n X dX7_bestTwo_47 rfl 0 rfl ?_
      refine g_7_18 X kM_0 m_f_X7_173 dX7_bestTwo_48 ?_
      refine b_icmp_ge (t := 210) X dX7_bestTwo_51 (by decide) (fun c => ?_) (fun c => ?_)
      · replace h := h.1 c
        refine b_sub (lv' := [(3, .int a3), (4, .int v4), (5, .int v5)]) [3, 4, 5] rfl ?_
        exact B210 v4 v5 μ h
      · replace h := h.2 c
        refine b_iconst (v := (nI 0)) X dX7_bestTwo_54 (by decide) ?_
        refine b_istore (lv' := [(7, .int (nI 0)), (0, .ref (ad 0)), (1, .int a1), (2, .int a2), (3, .int a3), (4, .int v4), (5, .int v5), (6, .int v6)]) X dX7_bestTwo_55 (by decide) rfl ?_
        refine b_sub (lv' := [(0, .ref (ad 0)), (1, .int a1), (2, .int a2), (3, .int a3), (4, .int v4), (5, .int v5), (6, .int v6), (7, .int (nI 0))]) [1, 2, 3, 4, 5, 6, 7, 0] rfl ?_
        exact B57 v4 v5 v6 (nI 0) μ h
    rw [eY] at B45
    exact B45
  refine b_aload_n X dX7_bestTwo_0 rfl 0 rfl ?_
  refine b_iload_n X dX7_bestTwo_1 rfl 1 rfl ?_
  refine bVi (st := []) (nA := 1) X (c_X7_isPost l D C ad a1 μ _ h) kM_0 (by decide) (enc_7 kM_0) rfl gw_X7_216 ⟨rfl, hd_X7_isPost⟩ rfl rfl ⟨Nat.le_of_ble_eq_true rfl, Nat.le_of_ble_eq_true rfl⟩ rfl rfl (Nat.le_of_ble_eq_true rfl) dX7_bestTwo_2 (fun r1 μ2 h => ?_)
  obtain ⟨rfl, h⟩ := h
  refine b_if_eq (t := 21) X dX7_bestTwo_5 (by decide) (fun c => ?_) (fun c => ?_)
  · replace h := h.1 c
    refine b_ldc (v := ((-1000000001) : Int32)) X m_k_X7_219 dX7_bestTwo_21 ?_
    exact hret _ _ _ _ h dX7_bestTwo_23
  · replace h := h.2 c
    refine b_aload_n X dX7_bestTwo_8 rfl 0 rfl ?_
    refine b_iload_n X dX7_bestTwo_9 rfl 2 rfl ?_
    refine bVi (st := []) (nA := 1) X (c_X7_isPost l D C ad a2 μ _ h) kM_0 (by decide) (enc_7 kM_0) rfl gw_X7_216 ⟨rfl, hd_X7_isPost⟩ rfl rfl ⟨Nat.le_of_ble_eq_true rfl, Nat.le_of_ble_eq_true rfl⟩ rfl rfl (Nat.le_of_ble_eq_true rfl) dX7_bestTwo_10 (fun r3 μ4 h => ?_)
    obtain ⟨rfl, h⟩ := h
    refine b_if_eq (t := 21) X dX7_bestTwo_13 (by decide) (fun c => ?_) (fun c => ?_)
    · replace h := h.1 c
      refine b_ldc (v := ((-1000000001) : Int32)) X m_k_X7_219 dX7_bestTwo_21 ?_
      exact hret _ _ _ _ h dX7_bestTwo_23
    · replace h := h.2 c
      refine b_iload_n X dX7_bestTwo_16 rfl 1 rfl ?_
      refine b_iload_n X dX7_bestTwo_17 rfl 2 rfl ?_
      refine b_icmp_ne (t := 24) X dX7_bestTwo_18 (by decide) (fun c => ?_) (fun c => ?_)
      · replace h := h.1 c
        refine b_iload_n X dX7_bestTwo_24 rfl 3 rfl ?_
        refine b_iconst (v := (nI 0)) X dX7_bestTwo_25 (by decide) ?_
        refine b_iconst (v := (nI 1)) X dX7_bestTwo_26 (by decide) ?_
        refine bSi (st := []) (nA := 3) X (c_X7_in l D C ad a3 (nI 0) (nI 1) μ _ h) gw_X7_85 hd_X7_in rfl rfl ⟨Nat.le_of_ble_eq_true rfl, Nat.le_of_ble_eq_true rfl⟩ rfl rfl (Nat.le_of_ble_eq_true rfl) dX7_bestTwo_27 (fun r5 μ6 h => ?_)
        obtain ⟨rfl, h⟩ := h
        refine b_if_ne (t := 36) X dX7_bestTwo_30 (by decide) (fun c => ?_) (fun c => ?_)
        · replace h := h.1 c
          refine b_iconst (v := (nI 0)) X dX7_bestTwo_36 (by decide) ?_
          refine b_istore (lv' := [(4, .int (nI 0)), (0, .ref (ad 0)), (1, .int a1), (2, .int a2), (3, .int a3)]) X dX7_bestTwo_37 (by decide) rfl ?_
          refine b_iconst (v := ((-1) : Int32)) X dX7_bestTwo_39 (by decide) ?_
          refine b_istore (lv' := [(5, .int ((-1) : Int32)), (4, .int (nI 0)), (0, .ref (ad 0)), (1, .int a1), (2, .int a2), (3, .int a3)]) X dX7_bestTwo_40 (by decide) rfl ?_
          refine b_iconst (v := (nI 0)) X dX7_bestTwo_42 (by decide) ?_
          refine b_istore (lv' := [(6, .int (nI 0)), (5, .int ((-1) : Int32)), (4, .int (nI 0)), (0, .ref (ad 0)), (1, .int a1), (2, .int a2), (3, .int a3)]) X dX7_bestTwo_43 (by decide) rfl ?_
          refine b_sub (lv' := [(0, .ref (ad 0)), (1, .int a1), (2, .int a2), (3, .int a3), (4, .int (nI 0)), (5, .int ((-1) : Int32)), (6, .int (nI 0))]) [3, 4, 5, 6, 2, 1, 0] rfl ?_
          exact B45 (nI 0) ((-1) : Int32) (nI 0) μ h
        · replace h := h.2 c
          refine b_ldc (v := ((-1000000002) : Int32)) X m_k_X7_89 dX7_bestTwo_33 ?_
          exact hret _ _ _ _ h dX7_bestTwo_35
      · replace h := h.2 c
        refine b_ldc (v := ((-1000000001) : Int32)) X m_k_X7_219 dX7_bestTwo_21 ?_
        exact hret _ _ _ _ h dX7_bestTwo_23
set_option maxHeartbeats 4000000 in
set_option maxRecDepth 100000 in
theorem c_X7_tookWith (l : Launch) (D : va_G) (C : Nat → ClassId) (ad : Nat → Nat) (a1 : Int32) (a2 : Int32) (μ : Mem) (Q : Int32 → Mem → Prop) (h : w_X7_tookWith a1 a2 μ Q) : Mi sM l yX7_tookWith cX7_tookWith 3 (some .int) rm_X7_tookWith D C ad [.ref (ad 0), .int a1, .int a2] μ Q := by
  refine fm_i (by decide +kernel) sM_lt (Nat.le_of_ble_eq_true rfl) (fun K X hret => ?_)
  have X : CK sM D C ad K cX7_tookWith 3 RX7 := X
  refine b_lv (lv' := [(0, .ref (ad 0)), (1, .int a1), (2, .int a2)]) rfl ?_
  unfold w_X7_tookWith at h
  refine b_aload_n X dX7_tookWith_0 rfl 0 rfl ?_
  refine bVv (st := []) (nA := 0) X (c_X7_copyNow l D C ad  μ _ h) kM_0 (by decide) (enc_7 kM_0) rfl gw_X7_305 ⟨rfl, hd_X7_copyNow⟩ rfl rfl ⟨Nat.le_of_ble_eq_true rfl, Nat.le_of_ble_eq_true rfl⟩ rfl rfl (Nat.le_of_ble_eq_true rfl) dX7_tookWith_1 (fun μ2 h => ?_)
  refine b_aload_n X dX7_tookWith_4 rfl 0 rfl ?_
  refine g_7_30 X kM_0 m_f_X7_56 dX7_tookWith_5 ?_
  refine b_iconst (v := (nI 2)) X dX7_tookWith_8 (by decide) ?_
  refine b_iload_n X dX7_tookWith_9 rfl 1 rfl ?_
  have hz := h.1
  replace h := h.2
  refine b_iast X kM_15 nM_15 hz dX7_tookWith_10 (fun μ3 eμ3 => ?_)
  clear hz
  replace h := h μ3 eμ3
  refine b_aload_n X dX7_tookWith_11 rfl 0 rfl ?_
  refine b_iload_n X dX7_tookWith_12 rfl 2 rfl ?_
  refine bVv (st := []) (nA := 1) X (c_X7_goesOn l D C ad a2 μ3 _ h) kM_0 (by decide) (enc_7 kM_0) rfl gw_X7_308 ⟨rfl, hd_X7_goesOn⟩ rfl rfl ⟨Nat.le_of_ble_eq_true rfl, Nat.le_of_ble_eq_true rfl⟩ rfl rfl (Nat.le_of_ble_eq_true rfl) dX7_tookWith_13 (fun μ5 h => ?_)
  refine b_aload_n X dX7_tookWith_16 rfl 0 rfl ?_
  refine b_iconst (v := (nI 0)) X dX7_tookWith_17 (by decide) ?_
  refine bVi (st := []) (nA := 1) X (c_X7_sumOf l D C ad (nI 0) μ5 _ h) kM_0 (by decide) (enc_7 kM_0) rfl gw_X7_315 ⟨rfl, hd_X7_sumOf⟩ rfl rfl ⟨Nat.le_of_ble_eq_true rfl, Nat.le_of_ble_eq_true rfl⟩ rfl rfl (Nat.le_of_ble_eq_true rfl) dX7_tookWith_18 (fun r6 μ7 h => ?_)
  obtain ⟨rfl, h⟩ := h
  refine b_aload_n X dX7_tookWith_21 rfl 0 rfl ?_
  refine b_iconst (v := (nI 1)) X dX7_tookWith_22 (by decide) ?_
  refine bVi (st := [.int r6]) (nA := 1) X (c_X7_sumOf l D C ad (nI 1) μ5 _ h) kM_0 (by decide) (enc_7 kM_0) rfl gw_X7_315 ⟨rfl, hd_X7_sumOf⟩ rfl rfl ⟨Nat.le_of_ble_eq_true rfl, Nat.le_of_ble_eq_true rfl⟩ rfl rfl (Nat.le_of_ble_eq_true rfl) dX7_tookWith_23 (fun r8 μ9 h => ?_)
  obtain ⟨rfl, h⟩ := h
  refine b_iadd X dX7_tookWith_26 ?_
  exact hret _ _ _ _ h dX7_tookWith_27
set_option maxHeartbeats 4000000 in
set_option maxRecDepth 100000 in
theorem c_X7_lampCosts (l : Launch) (D : va_G) (C : Nat → ClassId) (ad : Nat → Nat) (a1 : Int32) (μ : Mem) (Q : Int32 → Mem → Prop) (h : w_X7_lampCosts a1 μ Q) : Mi sM l yX7_lampCosts cX7_lampCosts 3 (some .int) rm_X7_lampCosts D C ad [.ref (ad 0), .int a1] μ Q := by
  refine fm_i (by decide +kernel) sM_lt (Nat.le_of_ble_eq_true rfl) (fun K X hret => ?_)
  have X : CK sM D C ad K cX7_lampCosts 3 RX7 := X
  refine b_lv (lv' := [(0, .ref (ad 0)), (1, .int a1)]) rfl ?_
  unfold w_X7_lampCosts at h
  refine b_aload_n X dX7_lampCosts_0 rfl 0 rfl ?_
  refine b_iload_n X dX7_lampCosts_1 rfl 1 rfl ?_
  refine b_iconst (v := (nI 0)) X dX7_lampCosts_2 (by decide) ?_
  refine b_bipush (v := (nI 99)) X dX7_lampCosts_3 (by decide) ?_
  refine bSi (st := [.ref (ad 0)]) (nA := 3) X (c_X7_in l D C ad a1 (nI 0) (nI 99) μ _ h) gw_X7_85 hd_X7_in rfl rfl ⟨Nat.le_of_ble_eq_true rfl, Nat.le_of_ble_eq_true rfl⟩ rfl rfl (Nat.le_of_ble_eq_true rfl) dX7_lampCosts_5 (fun r1 μ2 h => ?_)
  obtain ⟨rfl, h⟩ := h
  refine bVi (st := []) (nA := 1) X (c_X7_need l D C ad r1 μ _ h) kM_0 (by decide) (enc_7 kM_0) rfl gw_X7_273 ⟨rfl, hd_X7_need⟩ rfl rfl ⟨Nat.le_of_ble_eq_true rfl, Nat.le_of_ble_eq_true rfl⟩ rfl rfl (Nat.le_of_ble_eq_true rfl) dX7_lampCosts_8 (fun r3 μ4 h => ?_)
  obtain ⟨rfl, h⟩ := h
  refine b_istore_n (lv' := [(2, .int r3), (0, .ref (ad 0)), (1, .int a1)]) X dX7_lampCosts_11 rfl (by decide) rfl ?_
  refine b_iload_n X dX7_lampCosts_12 rfl 0 rfl ?_
  refine b_if_ge (t := 20) X dX7_lampCosts_13 (by decide) (fun c => ?_) (fun c => ?_)
  · replace h := h.1 c
    refine b_aload_n X dX7_lampCosts_20 rfl 1 rfl ?_
    refine b_iconst (v := (nI 0)) X dX7_lampCosts_21 (by decide) ?_
    refine b_iload_n X dX7_lampCosts_22 rfl 2 rfl ?_
    refine bVi (st := []) (nA := 2) X (c_X7_tookWith l D C ad (nI 0) a1 μ _ h) kM_0 (by decide) (enc_7 kM_0) rfl gw_X7_318 ⟨rfl, hd_X7_tookWith⟩ rfl rfl ⟨Nat.le_of_ble_eq_true rfl, Nat.le_of_ble_eq_true rfl⟩ rfl rfl (Nat.le_of_ble_eq_true rfl) dX7_lampCosts_23 (fun r5 μ6 h => ?_)
    refine b_aload_n X dX7_lampCosts_26 rfl 1 rfl ?_
    refine b_iconst (v := (nI 1)) X dX7_lampCosts_27 (by decide) ?_
    refine b_iload_n X dX7_lampCosts_28 rfl 2 rfl ?_
    refine bVi (st := [.int r5]) (nA := 2) X (c_X7_tookWith l D C ad (nI 1) a1 μ6 _ h) kM_0 (by decide) (enc_7 kM_0) rfl gw_X7_318 ⟨rfl, hd_X7_tookWith⟩ rfl rfl ⟨Nat.le_of_ble_eq_true rfl, Nat.le_of_ble_eq_true rfl⟩ rfl rfl (Nat.le_of_ble_eq_true rfl) dX7_lampCosts_29 (fun r7 μ8 h => ?_)
    refine b_isub X dX7_lampCosts_32 ?_
    exact hret _ _ _ _ h dX7_lampCosts_33
  · replace h := h.2 c
    refine b_iload_n X dX7_lampCosts_16 rfl 0 rfl ?_
    refine b_goto (t := 33) X dX7_lampCosts_17 (by decide) ?_
    exact hret _ _ _ _ h dX7_lampCosts_33
set_option maxHeartbeats 4000000 in
set_option maxRecDepth 100000 in
theorem c_X7_thirsty (l : Launch) (D : va_G) (C : Nat → ClassId) (ad : Nat → Nat) (a1 : Int32) (μ : Mem) (Q : Int32 → Mem → Prop) (h : w_X7_thirsty a1 μ Q) : Mi sM l yX7_thirsty cX7_thirsty 4 (some .int) rm_X7_thirsty D C ad [.ref (ad 0), .int a1] μ Q := by
  refine fm_i (by decide +kernel) sM_lt (Nat.le_of_ble_eq_true rfl) (fun K X hret => ?_)
  have X : CK sM D C ad K cX7_thirsty 4 RX7 := X
  refine b_lv (lv' := [(0, .ref (ad 0)), (1, .int a1)]) rfl ?_
  unfold w_X7_thirsty at h
  have B26 : ∀ (v2 : Int32) (μ : Mem), w_X7_thirsty_26 a1 v2 μ Q → WB sM l D C ad rm_X7_thirsty K 4 μ 26 [(0, .ref (ad 0)), (1, .int a1), (2, .int v2)] [] := by
    intro v2 μ h
    obtain ⟨Y26, eY⟩ : ∃ Y : Int32 → Mem → Prop, Y = fun (v2 : Int32) (μ : Mem) => WB sM l D C ad rm_X7_thirsty K 4 μ 26 [(0, .ref (ad 0)), (1, .int a1), (2, .int v2)] [] := ⟨_, rfl⟩
    have B26 : Y26 v2 μ := by
      unfold w_X7_thirsty_26 at h
      refine h Y26 ?_
      clear h
      intro v2 μ h
      unfold s_X7_thirsty_26 at h
      rw [eY]
      show WB sM l D C ad rm_X7_thirsty K 4 μ 26 [(0, .ref (ad 0)), (1, .int a1), (2, .int v2)] []
      have T26 : ∀ (v2 : Int32) (μ : Mem), Y26 v2 μ → WB sM l D C ad rm_X7_thirsty K 4 μ 26 [(0, .ref (ad 0)), (1, .int a1), (2, .int v2)] [] := by
        intro v2 μ h
        rw [eY] at h
        exact h
      clear eY
      have B39 : ∀ (v2 : Int32) (v3 : Int32) (μ : Mem), w_X7_thirsty_39 a1 Y26 v2 v3 μ Q → WB sM l D C ad rm_X7_thirsty K 4 μ 39 [(0, .ref (ad 0)), (1, .int a1), (2, .int v2), (3, .int v3)] [] := by
        intro v2 v3 μ h
        obtain ⟨Y39, eY⟩ : ∃ Y : Mem → Prop, Y = fun (μ : Mem) => WB sM l D C ad rm_X7_thirsty K 4 μ 39 [(0, .ref (ad 0)), (1, .int a1), (2, .int v2), (3, .int v3)] [] := ⟨_, rfl⟩
        have B39 : Y39 μ := by
          unfold w_X7_thirsty_39 at h
          refine h Y39 ?_
          clear h
          intro μ h
          unfold s_X7_thirsty_39 at h
          rw [eY]
          show WB sM l D C ad rm_X7_thirsty K 4 μ 39 [(0, .ref (ad 0)), (1, .int a1), (2, .int v2), (3, .int v3)] []
          have T39 : ∀ (μ : Mem), Y39 μ → WB sM l D C ad rm_X7_thirsty K 4 μ 39 [(0, .ref (ad 0)), (1, .int a1), (2, .int v2), (3, .int v3)] [] := by
            intro μ h
            rw [eY] at h
            exact h
          clear eY
          have B78 : ∀ (v2 : Int32) (μ : Mem), w_X7_thirsty_78 a1 Y26 v2 μ Q → WB sM l D C ad rm_X7_thirsty K 4 μ 78 [(0, .ref (ad 0)), (1, .int a1), (2, .int v2)] [] := by
            intro v2 μ h
            unfold w_X7_thirsty_78 at h
            refine b_aload_n X dX7_thirsty_78 rfl 0 rfl ?_
            refine g_7_30 X kM_0 m_f_X7_56 dX7_thirsty_79 ?_
            refine b_bipush (v := (nI 7)) X dX7_thirsty_82 (by decide) ?_
            refine b_iload_n X dX7_thirsty_84 rfl 1 rfl ?_
            refine b_iadd X dX7_thirsty_85 ?_
            have hz := h.1
            replace h := h.2
            refine b_iald X kM_15 nM_15 hz dX7_thirsty_86 ?_
            clear hz
            refine b_aload_n X dX7_thirsty_87 rfl 0 rfl ?_
            refine g_7_29 X kM_0 m_f_X7_53 dX7_thirsty_88 ?_
            refine b_bipush (v := (nI 7)) X dX7_thirsty_91 (by decide) ?_
            refine b_iload_n X dX7_thirsty_93 rfl 1 rfl ?_
            refine b_iadd X dX7_thirsty_94 ?_
            have hz := h.1
            replace h := h.2
            refine b_iald X kM_14 nM_14 hz dX7_thirsty_95 ?_
            clear hz
            refine b_icmp_le (t := 101) X dX7_thirsty_96 (by decide) (fun c => ?_) (fun c => ?_)
            · replace h := h.1 c
              obtain ⟨x12, ex12⟩ : ∃ y : Int32, y = v2 + (nI 1) := ⟨_, rfl⟩
              replace h := h x12 ex12
              refine b_iinc (x := x12) (lv' := [(2, .int x12), (0, .ref (ad 0)), (1, .int a1)]) (q := 2) X dX7_thirsty_101 rfl (by rw [ex12]; rfl) (by decide) rfl ?_
              refine b_goto (t := 26) X dX7_thirsty_104 (by decide) ?_
              refine b_sub (lv' := [(0, .ref (ad 0)), (1, .int a1), (2, .int x12)]) [1, 2, 0] rfl ?_
              exact T26 x12 μ h
            · replace h := h.2 c
              refine b_iload_n X dX7_thirsty_99 rfl 2 rfl ?_
              exact hret _ _ _ _ h dX7_thirsty_100
          refine b_aload_n X dX7_thirsty_39 rfl 0 rfl ?_
          refine g_7_30 X kM_0 m_f_X7_56 dX7_thirsty_40 ?_
          refine b_iconst (v := (nI 0)) X dX7_thirsty_43 (by decide) ?_
          have hz := h.1
          replace h := h.2
          refine b_iald X kM_15 nM_15 hz dX7_thirsty_44 ?_
          clear hz
          refine b_iload_n X dX7_thirsty_45 rfl 3 rfl ?_
          refine b_icmp_ne (t := 78) X dX7_thirsty_46 (by decide) (fun c => ?_) (fun c => ?_)
          · replace h := h.1 c
            refine b_sub (lv' := [(0, .ref (ad 0)), (1, .int a1), (2, .int v2)]) [0, 1, 2] rfl ?_
            exact B78 v2 μ h
          · replace h := h.2 c
            refine b_aload_n X dX7_thirsty_49 rfl 0 rfl ?_
            refine b_aload_n X dX7_thirsty_50 rfl 0 rfl ?_
            refine g_7_30 X kM_0 m_f_X7_56 dX7_thirsty_51 ?_
            refine b_aload_n X dX7_thirsty_54 rfl 0 rfl ?_
            refine b_aload_n X dX7_thirsty_55 rfl 0 rfl ?_
            refine g_7_30 X kM_0 m_f_X7_56 dX7_thirsty_56 ?_
            refine bVi (st := [.ref (ad 15), .ref (ad 0)]) (nA := 1) X (c_X7_fogOf l D C ad 15 kM_15 nM_15 μ _ h) kM_0 (by decide) (enc_7 kM_0) rfl gw_X7_224 ⟨rfl, hd_X7_fogOf⟩ rfl rfl ⟨Nat.le_of_ble_eq_true rfl, Nat.le_of_ble_eq_true rfl⟩ rfl rfl (Nat.le_of_ble_eq_true rfl) dX7_thirsty_59 (fun r6 μ7 h => ?_)
            obtain ⟨rfl, h⟩ := h
            refine b_aload_n X dX7_thirsty_62 rfl 0 rfl ?_
            refine b_aload_n X dX7_thirsty_63 rfl 0 rfl ?_
            refine g_7_30 X kM_0 m_f_X7_56 dX7_thirsty_64 ?_
            refine bVi (st := [.int r6, .ref (ad 15), .ref (ad 0)]) (nA := 1) X (c_X7_sideOf l D C ad 15 kM_15 nM_15 μ _ h) kM_0 (by decide) (enc_7 kM_0) rfl gw_X7_221 ⟨rfl, hd_X7_sideOf⟩ rfl rfl ⟨Nat.le_of_ble_eq_true rfl, Nat.le_of_ble_eq_true rfl⟩ rfl rfl (Nat.le_of_ble_eq_true rfl) dX7_thirsty_67 (fun r8 μ9 h => ?_)
            obtain ⟨rfl, h⟩ := h
            refine b_iconst (v := (nI 1)) X dX7_thirsty_70 (by decide) ?_
            refine bVi (st := []) (nA := 4) X (c_X7_passes l D C ad 15 kM_15 nM_15 r6 r8 (nI 1) μ _ h) kM_0 (by decide) (enc_7 kM_0) rfl gw_X7_266 ⟨rfl, hd_X7_passes⟩ rfl rfl ⟨Nat.le_of_ble_eq_true rfl, Nat.le_of_ble_eq_true rfl⟩ rfl rfl (Nat.le_of_ble_eq_true rfl) dX7_thirsty_71 (fun r10 μ11 h => ?_)
            refine b_pop X dX7_thirsty_74 rfl ?_
            refine b_goto (t := 39) X dX7_thirsty_75 (by decide) ?_
            refine b_sub (lv' := [(0, .ref (ad 0)), (1, .int a1), (2, .int v2), (3, .int v3)]) [0, 1, 2, 3] rfl ?_
            exact T39 μ11 h
        rw [eY] at B39
        exact B39
      refine b_iload_n X dX7_thirsty_26 rfl 2 rfl ?_
      refine b_bipush (v := (nI 60)) X dX7_thirsty_27 (by decide) ?_
      refine b_icmp_gt (t := 107) X dX7_thirsty_29 (by decide) (fun c => ?_) (fun c => ?_)
      · replace h := h.1 c
        refine b_iconst (v := ((-1) : Int32)) X dX7_thirsty_107 (by decide) ?_
        exact hret _ _ _ _ h dX7_thirsty_108
      · replace h := h.2 c
        refine b_aload_n X dX7_thirsty_32 rfl 0 rfl ?_
        refine g_7_30 X kM_0 m_f_X7_56 dX7_thirsty_33 ?_
        refine b_iconst (v := (nI 0)) X dX7_thirsty_36 (by decide) ?_
        have hz := h.1
        replace h := h.2
        refine b_iald X kM_15 nM_15 hz dX7_thirsty_37 ?_
        clear hz
        refine b_topi (fun x5 ex5 => ?_)
        replace h := h x5 ex5
        refine b_istore_n (lv' := [(3, .int x5), (0, .ref (ad 0)), (1, .int a1), (2, .int v2)]) X dX7_thirsty_38 rfl (by decide) rfl ?_
        refine b_sub (lv' := [(0, .ref (ad 0)), (1, .int a1), (2, .int v2), (3, .int x5)]) [1, 2, 3, 0] rfl ?_
        exact B39 v2 x5 μ h
    rw [eY] at B26
    exact B26
  refine b_iload_n X dX7_thirsty_0 rfl 1 rfl ?_
  refine bSi (st := []) (nA := 1) X (c_X7_isVillage l D C ad a1 μ _ h) gw_X7_227 hd_X7_isVillage rfl rfl ⟨Nat.le_of_ble_eq_true rfl, Nat.le_of_ble_eq_true rfl⟩ rfl rfl (Nat.le_of_ble_eq_true rfl) dX7_thirsty_1 (fun r1 μ2 h => ?_)
  obtain ⟨rfl, h⟩ := h
  refine b_if_ne (t := 10) X dX7_thirsty_4 (by decide) (fun c => ?_) (fun c => ?_)
  · replace h := h.1 c
    refine b_aload_n X dX7_thirsty_10 rfl 0 rfl ?_
    refine g_7_17 X kM_0 m_f_X7_170 dX7_thirsty_11 ?_
    refine b_if_ne (t := 20) X dX7_thirsty_14 (by decide) (fun c => ?_) (fun c => ?_)
    · replace h := h.1 c
      refine b_aload_n X dX7_thirsty_20 rfl 0 rfl ?_
      refine bVv (st := []) (nA := 0) X (c_X7_copyNow l D C ad  μ _ h) kM_0 (by decide) (enc_7 kM_0) rfl gw_X7_305 ⟨rfl, hd_X7_copyNow⟩ rfl rfl ⟨Nat.le_of_ble_eq_true rfl, Nat.le_of_ble_eq_true rfl⟩ rfl rfl (Nat.le_of_ble_eq_true rfl) dX7_thirsty_21 (fun μ4 h => ?_)
      refine b_iconst (v := (nI 1)) X dX7_thirsty_24 (by decide) ?_
      refine b_istore_n (lv' := [(2, .int (nI 1)), (0, .ref (ad 0)), (1, .int a1)]) X dX7_thirsty_25 rfl (by decide) rfl ?_
      refine b_sub (lv' := [(0, .ref (ad 0)), (1, .int a1), (2, .int (nI 1))]) [1, 2, 0] rfl ?_
      exact B26 (nI 1) μ4 h
    · replace h := h.2 c
      refine b_ldc (v := ((-1000000003) : Int32)) X m_k_X7_220 dX7_thirsty_17 ?_
      exact hret _ _ _ _ h dX7_thirsty_19
  · replace h := h.2 c
    refine b_ldc (v := ((-1000000001) : Int32)) X m_k_X7_219 dX7_thirsty_7 ?_
    exact hret _ _ _ _ h dX7_thirsty_9
set_option maxHeartbeats 4000000 in
set_option maxRecDepth 100000 in
theorem c_X7_lasts (l : Launch) (D : va_G) (C : Nat → ClassId) (ad : Nat → Nat) (a1 : Int32) (μ : Mem) (Q : Int32 → Prop) (h : w_X7_lasts a1 μ Q) : Mi sM l yX7_lasts cX7_lasts 3 (some .int) rm_X7_lasts D C ad [.ref (ad 0), .int a1] μ (fun r μ' => μ = μ' ∧ Q r) := by
  refine fm_i (by decide +kernel) sM_lt (Nat.le_of_ble_eq_true rfl) (fun K X hret => ?_)
  have X : CK sM D C ad K cX7_lasts 3 RX7 := X
  refine b_lv (lv' := [(0, .ref (ad 0)), (1, .int a1)]) rfl ?_
  unfold w_X7_lasts at h
  have B40 : ∀ (s1 : Int32), w_X7_lasts_40 a1 s1 μ Q → WB sM l D C ad rm_X7_lasts K 3 μ 40 [] [.int s1] := by
    intro s1 h
    unfold w_X7_lasts_40 at h
    refine b_istore_n (lv' := [(2, .int s1)]) X dX7_lasts_40 rfl (by decide) rfl ?_
    refine b_iload_n X dX7_lasts_41 rfl 0 rfl ?_
    refine b_sipush (v := (nI 999)) X dX7_lasts_42 (by decide) ?_
    refine b_icmp_le (t := 54) X dX7_lasts_45 (by decide) (fun c => ?_) (fun c => ?_)
    · replace h := h.1 c
      refine b_iload_n X dX7_lasts_54 rfl 0 rfl ?_
      exact hret _ _ _ _ ⟨rfl, h⟩ dX7_lasts_55
    · replace h := h.2 c
      refine b_sipush (v := (nI 999)) X dX7_lasts_48 (by decide) ?_
      refine b_goto (t := 55) X dX7_lasts_51 (by decide) ?_
      exact hret _ _ _ _ ⟨rfl, h⟩ dX7_lasts_55
  refine b_iload_n X dX7_lasts_0 rfl 1 rfl ?_
  refine bSi (st := []) (nA := 1) X (c_X7_isVillage l D C ad a1 μ _ h) gw_X7_227 hd_X7_isVillage rfl rfl ⟨Nat.le_of_ble_eq_true rfl, Nat.le_of_ble_eq_true rfl⟩ rfl rfl (Nat.le_of_ble_eq_true rfl) dX7_lasts_1 (fun r1 μ2 h => ?_)
  obtain ⟨rfl, h⟩ := h
  refine b_if_ne (t := 10) X dX7_lasts_4 (by decide) (fun c => ?_) (fun c => ?_)
  · replace h := h.1 c
    refine b_aload_n X dX7_lasts_10 rfl 0 rfl ?_
    refine g_7_28 X kM_0 m_f_X7_50 dX7_lasts_11 ?_
    refine b_iload_n X dX7_lasts_14 rfl 1 rfl ?_
    have hz := h.1
    replace h := h.2
    refine b_iald X kM_13 nM_13 hz dX7_lasts_15 ?_
    clear hz
    refine b_if_ne (t := 25) X dX7_lasts_16 (by decide) (fun c => ?_) (fun c => ?_)
    · replace h := h.1 c
      refine b_aload_n X dX7_lasts_25 rfl 0 rfl ?_
      refine g_7_29 X kM_0 m_f_X7_53 dX7_lasts_26 ?_
      refine b_iconst (v := (nI 5)) X dX7_lasts_29 (by decide) ?_
      refine b_iload_n X dX7_lasts_30 rfl 1 rfl ?_
      refine b_iadd X dX7_lasts_31 ?_
      have hz := h.1
      replace h := h.2
      refine b_iald X kM_14 nM_14 hz dX7_lasts_32 ?_
      clear hz
      refine b_aload_n X dX7_lasts_33 rfl 0 rfl ?_
      refine g_7_28 X kM_0 m_f_X7_50 dX7_lasts_34 ?_
      refine b_iload_n X dX7_lasts_37 rfl 1 rfl ?_
      have hz := h.1
      replace h := h.2
      refine b_iald X kM_13 nM_13 hz dX7_lasts_38 ?_
      clear hz
      have hz := h.1
      replace h := h.2
      refine b_idiv X dX7_lasts_39 hz ?_
      clear hz
      refine b_sub (lv' := []) [] rfl ?_
      exact B40 ((μ.1 14 (((nI 5) + a1)).toNatClampNeg) / (μ.1 13 (a1).toNatClampNeg)) h
    · replace h := h.2 c
      refine b_sipush (v := (nI 999)) X dX7_lasts_19 (by decide) ?_
      refine b_goto (t := 40) X dX7_lasts_22 (by decide) ?_
      refine b_sub (lv' := []) [] rfl ?_
      exact B40 (nI 999) h
  · replace h := h.2 c
    refine b_ldc (v := ((-1000000001) : Int32)) X m_k_X7_219 dX7_lasts_7 ?_
    exact hret _ _ _ _ ⟨rfl, h⟩ dX7_lasts_9
set_option maxHeartbeats 4000000 in
set_option maxRecDepth 100000 in
theorem c_X7_both (l : Launch) (D : va_G) (C : Nat → ClassId) (ad : Nat → Nat)  (μ : Mem) (Q : Int32 → Prop) (h : w_X7_both  μ Q) : Mi sM l yX7_both cX7_both 2 (some .int) rm_X7_both D C ad [.ref (ad 0)] μ (fun r μ' => μ = μ' ∧ Q r) := by
  refine fm_i (by decide +kernel) sM_lt (Nat.le_of_ble_eq_true rfl) (fun K X hret => ?_)
  have X : CK sM D C ad K cX7_both 2 RX7 := X
  refine b_lv (lv' := [(0, .ref (ad 0))]) rfl ?_
  unfold w_X7_both at h
  have B12 : ∀ (v1 : Int32), w_X7_both_12 v1 μ Q → WB sM l D C ad rm_X7_both K 2 μ 12 [(0, .ref (ad 0)), (1, .int v1)] [] := by
    intro v1 h
    obtain ⟨Y12, eY⟩ : ∃ Y : Int32 → Prop, Y = fun (v1 : Int32) => WB sM l D C ad rm_X7_both K 2 μ 12 [(0, .ref (ad 0)), (1, .int v1)] [] := ⟨_, rfl⟩
    have B12 : Y12 v1 := by
      unfold w_X7_both_12 at h
      refine h Y12 ?_
      clear h
      intro v1 h
      unfold s_X7_both_12 at h
      rw [eY]
      show WB sM l D C ad rm_X7_both K 2 μ 12 [(0, .ref (ad 0)), (1, .int v1)] []
      have T12 : ∀ (v1 : Int32), Y12 v1 → WB sM l D C ad rm_X7_both K 2 μ 12 [(0, .ref (ad 0)), (1, .int v1)] [] := by
        intro v1 h
        rw [eY] at h
        exact h
      clear eY
      refine b_iload_n X dX7_both_12 rfl 1 rfl ?_
      refine b_bipush (v := (nI 7)) X dX7_both_13 (by decide) ?_
      refine b_icmp_ge (t := 56) X dX7_both_15 (by decide) (fun c => ?_) (fun c => ?_)
      · replace h := h.1 c
        refine b_iconst (v := ((-1) : Int32)) X dX7_both_56 (by decide) ?_
        exact hret _ _ _ _ ⟨rfl, h⟩ dX7_both_57
      · replace h := h.2 c
        refine b_aload_n X dX7_both_18 rfl 0 rfl ?_
        refine g_7_27 X kM_0 m_f_X7_47 dX7_both_19 ?_
        refine b_iconst (v := (nI 0)) X dX7_both_22 (by decide) ?_
        have hz := h.1
        replace h := h.2
        refine b_iald X kM_12 nM_12 hz dX7_both_23 ?_
        clear hz
        refine b_aload_n X dX7_both_24 rfl 0 rfl ?_
        refine g_7_27 X kM_0 m_f_X7_47 dX7_both_25 ?_
        refine b_iconst (v := (nI 1)) X dX7_both_28 (by decide) ?_
        have hz := h.1
        replace h := h.2
        refine b_iald X kM_12 nM_12 hz dX7_both_29 ?_
        clear hz
        refine b_iand X dX7_both_30 ?_
        refine b_aload_n X dX7_both_31 rfl 0 rfl ?_
        refine g_7_29 X kM_0 m_f_X7_53 dX7_both_32 ?_
        refine b_iconst (v := (nI 0)) X dX7_both_35 (by decide) ?_
        have hz := h.1
        replace h := h.2
        refine b_iald X kM_14 nM_14 hz dX7_both_36 ?_
        clear hz
        refine b_iload_n X dX7_both_37 rfl 1 rfl ?_
        refine b_iadd X dX7_both_38 ?_
        refine b_bipush (v := (nI 7)) X dX7_both_39 (by decide) ?_
        have hz := h.1
        replace h := h.2
        refine b_irem X dX7_both_41 hz ?_
        clear hz
        refine b_topi (fun x1 ex1 => ?_)
        replace h := h x1 ex1
        refine bSi (st := []) (nA := 2) X (c_X7_has l D C ad ((μ.1 12 ((nI 0)).toNatClampNeg) &&& (μ.1 12 ((nI 1)).toNatClampNeg)) x1 μ _ h) gw_X7_197 hd_X7_has rfl rfl ⟨Nat.le_of_ble_eq_true rfl, Nat.le_of_ble_eq_true rfl⟩ rfl rfl (Nat.le_of_ble_eq_true rfl) dX7_both_42 (fun r2 μ3 h => ?_)
        obtain ⟨rfl, h⟩ := h
        refine b_if_eq (t := 50) X dX7_both_45 (by decide) (fun c => ?_) (fun c => ?_)
        · replace h := h.1 c
          obtain ⟨x4, ex4⟩ : ∃ y : Int32, y = v1 + (nI 1) := ⟨_, rfl⟩
          replace h := h x4 ex4
          refine b_iinc (x := x4) (lv' := [(1, .int x4), (0, .ref (ad 0))]) (q := 1) X dX7_both_50 rfl (by rw [ex4]; rfl) (by decide) rfl ?_
          refine b_goto (t := 12) X dX7_both_53 (by decide) ?_
          refine b_sub (lv' := [(0, .ref (ad 0)), (1, .int x4)]) [1, 0] rfl ?_
          exact T12 x4 h
        · replace h := h.2 c
          refine b_iload_n X dX7_both_48 rfl 1 rfl ?_
          exact hret _ _ _ _ ⟨rfl, h⟩ dX7_both_49
    rw [eY] at B12
    exact B12
  refine b_aload_n X dX7_both_0 rfl 0 rfl ?_
  refine g_7_17 X kM_0 m_f_X7_170 dX7_both_1 ?_
  refine b_if_ne (t := 10) X dX7_both_4 (by decide) (fun c => ?_) (fun c => ?_)
  · replace h := h.1 c
    refine b_iconst (v := (nI 0)) X dX7_both_10 (by decide) ?_
    refine b_istore_n (lv' := [(1, .int (nI 0)), (0, .ref (ad 0))]) X dX7_both_11 rfl (by decide) rfl ?_
    refine b_sub (lv' := [(0, .ref (ad 0)), (1, .int (nI 0))]) [1, 0] rfl ?_
    exact B12 (nI 0) h
  · replace h := h.2 c
    refine b_ldc (v := ((-1000000003) : Int32)) X m_k_X7_220 dX7_both_7 ?_
    exact hret _ _ _ _ ⟨rfl, h⟩ dX7_both_9
set_option maxHeartbeats 4000000 in
set_option maxRecDepth 100000 in
theorem c_X7_apart (l : Launch) (D : va_G) (C : Nat → ClassId) (ad : Nat → Nat) (a1 : Int32) (μ : Mem) (Q : Int32 → Prop) (h : w_X7_apart a1 μ Q) : Mi sM l yX7_apart cX7_apart 5 (some .int) rm_X7_apart D C ad [.ref (ad 0), .int a1] μ (fun r μ' => μ = μ' ∧ Q r) := by
  refine fm_i (by decide +kernel) sM_lt (Nat.le_of_ble_eq_true rfl) (fun K X hret => ?_)
  have X : CK sM D C ad K cX7_apart 5 RX7 := X
  refine b_lv (lv' := [(0, .ref (ad 0)), (1, .int a1)]) rfl ?_
  unfold w_X7_apart at h
  have B23 : ∀ (v3 : Int32) (v4 : Int32), w_X7_apart_23 a1 v3 v4 μ Q → WB sM l D C ad rm_X7_apart K 5 μ 23 [(0, .ref (ad 0)), (1, .int a1), (3, .int v3), (4, .int v4)] [] := by
    intro v3 v4 h
    obtain ⟨Y23, eY⟩ : ∃ Y : Int32 → Int32 → Prop, Y = fun (v3 : Int32) (v4 : Int32) => WB sM l D C ad rm_X7_apart K 5 μ 23 [(0, .ref (ad 0)), (1, .int a1), (3, .int v3), (4, .int v4)] [] := ⟨_, rfl⟩
    have B23 : Y23 v3 v4 := by
      unfold w_X7_apart_23 at h
      refine h Y23 ?_
      clear h
      intro v3 v4 h
      unfold s_X7_apart_23 at h
      rw [eY]
      show WB sM l D C ad rm_X7_apart K 5 μ 23 [(0, .ref (ad 0)), (1, .int a1), (3, .int v3), (4, .int v4)] []
      have T23 : ∀ (v3 : Int32) (v4 : Int32), Y23 v3 v4 → WB sM l D C ad rm_X7_apart K 5 μ 23 [(0, .ref (ad 0)), (1, .int a1), (3, .int v3), (4, .int v4)] [] := by
        intro v3 v4 h
        rw [eY] at h
        exact h
      clear eY
      have B66 : ∀ (v4 : Int32) (s2 : Int32) (s1 : Int32), w_X7_apart_66 a1 Y23 v4 s2 s1 μ Q → WB sM l D C ad rm_X7_apart K 5 μ 66 [(0, .ref (ad 0)), (1, .int a1), (4, .int v4)] [.int s2, .int s1] := by
        intro v4 s2 s1 h
        unfold w_X7_apart_66 at h
        refine b_iadd X dX7_apart_66 ?_
        refine b_topi (fun x8 ex8 => ?_)
        replace h := h x8 ex8
        refine b_istore_n (lv' := [(3, .int x8), (0, .ref (ad 0)), (1, .int a1), (4, .int v4)]) X dX7_apart_67 rfl (by decide) rfl ?_
        obtain ⟨x9, ex9⟩ : ∃ y : Int32, y = v4 + (nI 1) := ⟨_, rfl⟩
        replace h := h x9 ex9
        refine b_iinc (x := x9) (lv' := [(4, .int x9), (3, .int x8), (0, .ref (ad 0)), (1, .int a1)]) (q := 3) X dX7_apart_68 rfl (by rw [ex9]; rfl) (by decide) rfl ?_
        refine b_goto (t := 23) X dX7_apart_71 (by decide) ?_
        refine b_sub (lv' := [(0, .ref (ad 0)), (1, .int a1), (3, .int x8), (4, .int x9)]) [2, 3, 1, 0] rfl ?_
        exact T23 x8 x9 h
      refine b_iload X dX7_apart_23 3 rfl ?_
      refine b_iload_n X dX7_apart_25 rfl 1 rfl ?_
      refine b_icmp_ge (t := 74) X dX7_apart_26 (by decide) (fun c => ?_) (fun c => ?_)
      · replace h := h.1 c
        refine b_iload_n X dX7_apart_74 rfl 2 rfl ?_
        exact hret _ _ _ _ ⟨rfl, h⟩ dX7_apart_75
      · replace h := h.2 c
        refine b_iload_n X dX7_apart_29 rfl 2 rfl ?_
        refine b_aload_n X dX7_apart_30 rfl 0 rfl ?_
        refine g_7_27 X kM_0 m_f_X7_47 dX7_apart_31 ?_
        refine b_iconst (v := (nI 0)) X dX7_apart_34 (by decide) ?_
        have hz := h.1
        replace h := h.2
        refine b_iald X kM_12 nM_12 hz dX7_apart_35 ?_
        clear hz
        refine b_aload_n X dX7_apart_36 rfl 0 rfl ?_
        refine g_7_27 X kM_0 m_f_X7_47 dX7_apart_37 ?_
        refine b_iconst (v := (nI 1)) X dX7_apart_40 (by decide) ?_
        have hz := h.1
        replace h := h.2
        refine b_iald X kM_12 nM_12 hz dX7_apart_41 ?_
        clear hz
        refine b_ixor X dX7_apart_42 ?_
        refine b_aload_n X dX7_apart_43 rfl 0 rfl ?_
        refine g_7_29 X kM_0 m_f_X7_53 dX7_apart_44 ?_
        refine b_iconst (v := (nI 0)) X dX7_apart_47 (by decide) ?_
        have hz := h.1
        replace h := h.2
        refine b_iald X kM_14 nM_14 hz dX7_apart_48 ?_
        clear hz
        refine b_iload X dX7_apart_49 3 rfl ?_
        refine b_iadd X dX7_apart_51 ?_
        refine b_bipush (v := (nI 7)) X dX7_apart_52 (by decide) ?_
        have hz := h.1
        replace h := h.2
        refine b_irem X dX7_apart_54 hz ?_
        clear hz
        refine b_topi (fun x5 ex5 => ?_)
        replace h := h x5 ex5
        refine bSi (st := [.int v3]) (nA := 2) X (c_X7_has l D C ad ((μ.1 12 ((nI 0)).toNatClampNeg) ^^^ (μ.1 12 ((nI 1)).toNatClampNeg)) x5 μ _ h) gw_X7_197 hd_X7_has rfl rfl ⟨Nat.le_of_ble_eq_true rfl, Nat.le_of_ble_eq_true rfl⟩ rfl rfl (Nat.le_of_ble_eq_true rfl) dX7_apart_55 (fun r6 μ7 h => ?_)
        obtain ⟨rfl, h⟩ := h
        refine b_if_eq (t := 65) X dX7_apart_58 (by decide) (fun c => ?_) (fun c => ?_)
        · replace h := h.1 c
          refine b_iconst (v := (nI 0)) X dX7_apart_65 (by decide) ?_
          refine b_sub (lv' := [(0, .ref (ad 0)), (1, .int a1), (4, .int v4)]) [0, 1, 3] rfl ?_
          exact B66 v4 (nI 0) v3 h
        · replace h := h.2 c
          refine b_iconst (v := (nI 1)) X dX7_apart_61 (by decide) ?_
          refine b_goto (t := 66) X dX7_apart_62 (by decide) ?_
          refine b_sub (lv' := [(0, .ref (ad 0)), (1, .int a1), (4, .int v4)]) [0, 1, 3] rfl ?_
          exact B66 v4 (nI 1) v3 h
    rw [eY] at B23
    exact B23
  refine b_aload_n X dX7_apart_0 rfl 0 rfl ?_
  refine b_iload_n X dX7_apart_1 rfl 1 rfl ?_
  refine b_iconst (v := (nI 0)) X dX7_apart_2 (by decide) ?_
  refine b_bipush (v := (nI 99)) X dX7_apart_3 (by decide) ?_
  refine bSi (st := [.ref (ad 0)]) (nA := 3) X (c_X7_in l D C ad a1 (nI 0) (nI 99) μ _ h) gw_X7_85 hd_X7_in rfl rfl ⟨Nat.le_of_ble_eq_true rfl, Nat.le_of_ble_eq_true rfl⟩ rfl rfl (Nat.le_of_ble_eq_true rfl) dX7_apart_5 (fun r1 μ2 h => ?_)
  obtain ⟨rfl, h⟩ := h
  refine bVi (st := []) (nA := 1) X (c_X7_need l D C ad r1 μ _ h) kM_0 (by decide) (enc_7 kM_0) rfl gw_X7_273 ⟨rfl, hd_X7_need⟩ rfl rfl ⟨Nat.le_of_ble_eq_true rfl, Nat.le_of_ble_eq_true rfl⟩ rfl rfl (Nat.le_of_ble_eq_true rfl) dX7_apart_8 (fun r3 μ4 h => ?_)
  obtain ⟨rfl, h⟩ := h
  refine b_istore_n (lv' := [(2, .int r3), (0, .ref (ad 0)), (1, .int a1)]) X dX7_apart_11 rfl (by decide) rfl ?_
  refine b_iload_n X dX7_apart_12 rfl 0 rfl ?_
  refine b_if_ge (t := 18) X dX7_apart_13 (by decide) (fun c => ?_) (fun c => ?_)
  · replace h := h.1 c
    refine b_iconst (v := (nI 0)) X dX7_apart_18 (by decide) ?_
    refine b_istore_n (lv' := [(3, .int (nI 0)), (2, .int r3), (0, .ref (ad 0)), (1, .int a1)]) X dX7_apart_19 rfl (by decide) rfl ?_
    refine b_iconst (v := (nI 0)) X dX7_apart_20 (by decide) ?_
    refine b_istore (lv' := [(4, .int (nI 0)), (3, .int (nI 0)), (2, .int r3), (0, .ref (ad 0)), (1, .int a1)]) X dX7_apart_21 (by decide) rfl ?_
    refine b_sub (lv' := [(0, .ref (ad 0)), (1, .int a1), (3, .int (nI 0)), (4, .int (nI 0))]) [3, 4, 1, 0] rfl ?_
    exact B23 (nI 0) (nI 0) h
  · replace h := h.2 c
    refine b_iload_n X dX7_apart_16 rfl 0 rfl ?_
    exact hret _ _ _ _ ⟨rfl, h⟩ dX7_apart_17
set_option maxHeartbeats 4000000 in
set_option maxRecDepth 100000 in
theorem c_X7_ownedBy (l : Launch) (D : va_G) (C : Nat → ClassId) (ad : Nat → Nat) (a1 : Int32) (μ : Mem) (Q : Int32 → Prop) (h : w_X7_ownedBy a1 μ Q) : Mi sM l yX7_ownedBy cX7_ownedBy 4 (some .int) rm_X7_ownedBy D C ad [.ref (ad 0), .int a1] μ (fun r μ' => μ = μ' ∧ Q r) := by
  refine fm_i (by decide +kernel) sM_lt (Nat.le_of_ble_eq_true rfl) (fun K X hret => ?_)
  have X : CK sM D C ad K cX7_ownedBy 4 RX7 := X
  refine b_lv (lv' := [(0, .ref (ad 0)), (1, .int a1)]) rfl ?_
  unfold w_X7_ownedBy at h
  have B4 : ∀ (v2 : Int32) (v3 : Int32), w_X7_ownedBy_4 a1 v2 v3 μ Q → WB sM l D C ad rm_X7_ownedBy K 4 μ 4 [(0, .ref (ad 0)), (1, .int a1), (2, .int v2), (3, .int v3)] [] := by
    intro v2 v3 h
    obtain ⟨Y4, eY⟩ : ∃ Y : Int32 → Int32 → Prop, Y = fun (v2 : Int32) (v3 : Int32) => WB sM l D C ad rm_X7_ownedBy K 4 μ 4 [(0, .ref (ad 0)), (1, .int a1), (2, .int v2), (3, .int v3)] [] := ⟨_, rfl⟩
    have B4 : Y4 v2 v3 := by
      unfold w_X7_ownedBy_4 at h
      refine h Y4 ?_
      clear h
      intro v2 v3 h
      unfold s_X7_ownedBy_4 at h
      rw [eY]
      show WB sM l D C ad rm_X7_ownedBy K 4 μ 4 [(0, .ref (ad 0)), (1, .int a1), (2, .int v2), (3, .int v3)] []
      have T4 : ∀ (v2 : Int32) (v3 : Int32), Y4 v2 v3 → WB sM l D C ad rm_X7_ownedBy K 4 μ 4 [(0, .ref (ad 0)), (1, .int a1), (2, .int v2), (3, .int v3)] [] := by
        intro v2 v3 h
        rw [eY] at h
        exact h
      clear eY
      have B28 : ∀ (v3 : Int32) (s2 : Int32) (s1 : Int32), w_X7_ownedBy_28 a1 Y4 v3 s2 s1 μ Q → WB sM l D C ad rm_X7_ownedBy K 4 μ 28 [(0, .ref (ad 0)), (1, .int a1), (3, .int v3)] [.int s2, .int s1] := by
        intro v3 s2 s1 h
        unfold w_X7_ownedBy_28 at h
        refine b_iadd X dX7_ownedBy_28 ?_
        refine b_topi (fun x1 ex1 => ?_)
        replace h := h x1 ex1
        refine b_istore_n (lv' := [(2, .int x1), (0, .ref (ad 0)), (1, .int a1), (3, .int v3)]) X dX7_ownedBy_29 rfl (by decide) rfl ?_
        obtain ⟨x2, ex2⟩ : ∃ y : Int32, y = v3 + (nI 1) := ⟨_, rfl⟩
        replace h := h x2 ex2
        refine b_iinc (x := x2) (lv' := [(3, .int x2), (2, .int x1), (0, .ref (ad 0)), (1, .int a1)]) (q := 3) X dX7_ownedBy_30 rfl (by rw [ex2]; rfl) (by decide) rfl ?_
        refine b_goto (t := 4) X dX7_ownedBy_33 (by decide) ?_
        refine b_sub (lv' := [(0, .ref (ad 0)), (1, .int a1), (2, .int x1), (3, .int x2)]) [2, 3, 1, 0] rfl ?_
        exact T4 x1 x2 h
      refine b_iload_n X dX7_ownedBy_4 rfl 3 rfl ?_
      refine b_aload_n X dX7_ownedBy_5 rfl 0 rfl ?_
      refine g_7_20 X kM_0 m_f_X7_179 dX7_ownedBy_6 ?_
      refine b_icmp_ge (t := 36) X dX7_ownedBy_9 (by decide) (fun c => ?_) (fun c => ?_)
      · replace h := h.1 c
        refine b_iload_n X dX7_ownedBy_36 rfl 2 rfl ?_
        exact hret _ _ _ _ ⟨rfl, h⟩ dX7_ownedBy_37
      · replace h := h.2 c
        refine b_iload_n X dX7_ownedBy_12 rfl 2 rfl ?_
        refine b_aload_n X dX7_ownedBy_13 rfl 0 rfl ?_
        refine g_7_25 X kM_0 m_f_X7_41 dX7_ownedBy_14 ?_
        refine b_iload_n X dX7_ownedBy_17 rfl 3 rfl ?_
        have hz := h.1
        replace h := h.2
        refine b_iald X kM_10 nM_10 hz dX7_ownedBy_18 ?_
        clear hz
        refine b_iload_n X dX7_ownedBy_19 rfl 1 rfl ?_
        refine b_icmp_ne (t := 27) X dX7_ownedBy_20 (by decide) (fun c => ?_) (fun c => ?_)
        · replace h := h.1 c
          refine b_iconst (v := (nI 0)) X dX7_ownedBy_27 (by decide) ?_
          refine b_sub (lv' := [(0, .ref (ad 0)), (1, .int a1), (3, .int v3)]) [0, 1, 3] rfl ?_
          exact B28 v3 (nI 0) v2 h
        · replace h := h.2 c
          refine b_iconst (v := (nI 1)) X dX7_ownedBy_23 (by decide) ?_
          refine b_goto (t := 28) X dX7_ownedBy_24 (by decide) ?_
          refine b_sub (lv' := [(0, .ref (ad 0)), (1, .int a1), (3, .int v3)]) [0, 1, 3] rfl ?_
          exact B28 v3 (nI 1) v2 h
    rw [eY] at B4
    exact B4
  refine b_iconst (v := (nI 0)) X dX7_ownedBy_0 (by decide) ?_
  refine b_istore_n (lv' := [(2, .int (nI 0)), (0, .ref (ad 0)), (1, .int a1)]) X dX7_ownedBy_1 rfl (by decide) rfl ?_
  refine b_iconst (v := (nI 0)) X dX7_ownedBy_2 (by decide) ?_
  refine b_istore_n (lv' := [(3, .int (nI 0)), (2, .int (nI 0)), (0, .ref (ad 0)), (1, .int a1)]) X dX7_ownedBy_3 rfl (by decide) rfl ?_
  refine b_sub (lv' := [(0, .ref (ad 0)), (1, .int a1), (2, .int (nI 0)), (3, .int (nI 0))]) [2, 3, 1, 0] rfl ?_
  exact B4 (nI 0) (nI 0) h
set_option maxHeartbeats 4000000 in
set_option maxRecDepth 100000 in
theorem c_X7_share (l : Launch) (D : va_G) (C : Nat → ClassId) (ad : Nat → Nat) (a1 : Int32) (a2 : Int32) (μ : Mem) (Q : Int32 → Prop) (h : w_X7_share a1 a2 μ Q) : Mi sM l yX7_share cX7_share 5 (some .int) rm_X7_share D C ad [.ref (ad 0), .int a1, .int a2] μ (fun r μ' => μ = μ' ∧ Q r) := by
  refine fm_i (by decide +kernel) sM_lt (Nat.le_of_ble_eq_true rfl) (fun K X hret => ?_)
  have X : CK sM D C ad K cX7_share 5 RX7 := X
  refine b_lv (lv' := [(0, .ref (ad 0)), (1, .int a1), (2, .int a2)]) rfl ?_
  unfold w_X7_share at h
  have B93 : ∀ (v3 : Int32) (s1 : Int32), w_X7_share_93 a1 a2 v3 s1 μ Q → WB sM l D C ad rm_X7_share K 5 μ 93 [(0, .ref (ad 0)), (1, .int a1), (2, .int a2), (3, .int v3)] [.int s1] := by
    intro v3 s1 h
    unfold w_X7_share_93 at h
    refine b_istore (lv' := [(4, .int s1), (0, .ref (ad 0)), (1, .int a1), (2, .int a2), (3, .int v3)]) X dX7_share_93 (by decide) rfl ?_
    refine b_iload_n X dX7_share_95 rfl 2 rfl ?_
    refine b_aload_n X dX7_share_96 rfl 1 rfl ?_
    refine b_iload_n X dX7_share_97 rfl 3 rfl ?_
    refine bVi (st := [.int a1]) (nA := 1) X (c_X7_ownedBy l D C ad a2 μ _ h) kM_0 (by decide) (enc_7 kM_0) rfl gw_X7_321 ⟨rfl, hd_X7_ownedBy⟩ rfl rfl ⟨Nat.le_of_ble_eq_true rfl, Nat.le_of_ble_eq_true rfl⟩ rfl rfl (Nat.le_of_ble_eq_true rfl) dX7_share_98 (fun r16 μ17 h => ?_)
    obtain ⟨rfl, h⟩ := h
    refine b_imul X dX7_share_101 ?_
    refine b_aload_n X dX7_share_102 rfl 1 rfl ?_
    refine g_7_20 X kM_0 m_f_X7_179 dX7_share_103 ?_
    have hz := h.1
    replace h := h.2
    refine b_idiv X dX7_share_106 hz ?_
    clear hz
    refine b_iload_n X dX7_share_107 rfl 3 rfl ?_
    refine b_iload X dX7_share_108 0 rfl ?_
    refine b_icmp_ne (t := 117) X dX7_share_110 (by decide) (fun c => ?_) (fun c => ?_)
    · replace h := h.1 c
      refine b_iconst (v := (nI 0)) X dX7_share_117 (by decide) ?_
      refine b_iadd X dX7_share_118 ?_
      exact hret _ _ _ _ ⟨rfl, h⟩ dX7_share_119
    · replace h := h.2 c
      refine b_iload_n X dX7_share_113 rfl 4 rfl ?_
      refine b_goto (t := 118) X dX7_share_114 (by decide) ?_
      refine b_iadd X dX7_share_118 ?_
      exact hret _ _ _ _ ⟨rfl, h⟩ dX7_share_119
  refine b_iload_n X dX7_share_0 rfl 2 rfl ?_
  refine bSi (st := []) (nA := 1) X (c_X7_isVillage l D C ad a2 μ _ h) gw_X7_227 hd_X7_isVillage rfl rfl ⟨Nat.le_of_ble_eq_true rfl, Nat.le_of_ble_eq_true rfl⟩ rfl rfl (Nat.le_of_ble_eq_true rfl) dX7_share_1 (fun r1 μ2 h => ?_)
  obtain ⟨rfl, h⟩ := h
  refine b_if_ne (t := 10) X dX7_share_4 (by decide) (fun c => ?_) (fun c => ?_)
  · replace h := h.1 c
    refine b_iload_n X dX7_share_10 rfl 1 rfl ?_
    refine b_iconst (v := (nI 0)) X dX7_share_11 (by decide) ?_
    refine b_sipush (v := (nI 999)) X dX7_share_12 (by decide) ?_
    refine bSi (st := []) (nA := 3) X (c_X7_in l D C ad a1 (nI 0) (nI 999) μ _ h) gw_X7_85 hd_X7_in rfl rfl ⟨Nat.le_of_ble_eq_true rfl, Nat.le_of_ble_eq_true rfl⟩ rfl rfl (Nat.le_of_ble_eq_true rfl) dX7_share_15 (fun r3 μ4 h => ?_)
    obtain ⟨rfl, h⟩ := h
    refine b_if_ne (t := 24) X dX7_share_18 (by decide) (fun c => ?_) (fun c => ?_)
    · replace h := h.1 c
      refine b_aload_n X dX7_share_24 rfl 0 rfl ?_
      refine g_7_20 X kM_0 m_f_X7_179 dX7_share_25 ?_
      refine b_if_ne (t := 33) X dX7_share_28 (by decide) (fun c => ?_) (fun c => ?_)
      · replace h := h.1 c
        refine b_iload_n X dX7_share_33 rfl 1 rfl ?_
        refine b_iload_n X dX7_share_34 rfl 1 rfl ?_
        refine b_aload_n X dX7_share_35 rfl 0 rfl ?_
        refine b_iconst (v := (nI 0)) X dX7_share_36 (by decide) ?_
        refine bVi (st := [.int a1, .int a1]) (nA := 1) X (c_X7_ownedBy l D C ad (nI 0) μ _ h) kM_0 (by decide) (enc_7 kM_0) rfl gw_X7_321 ⟨rfl, hd_X7_ownedBy⟩ rfl rfl ⟨Nat.le_of_ble_eq_true rfl, Nat.le_of_ble_eq_true rfl⟩ rfl rfl (Nat.le_of_ble_eq_true rfl) dX7_share_37 (fun r5 μ6 h => ?_)
        obtain ⟨rfl, h⟩ := h
        refine b_imul X dX7_share_40 ?_
        refine b_aload_n X dX7_share_41 rfl 0 rfl ?_
        refine g_7_20 X kM_0 m_f_X7_179 dX7_share_42 ?_
        have hz := h.1
        replace h := h.2
        refine b_idiv X dX7_share_45 hz ?_
        clear hz
        refine b_isub X dX7_share_46 ?_
        refine b_iload_n X dX7_share_47 rfl 1 rfl ?_
        refine b_aload_n X dX7_share_48 rfl 0 rfl ?_
        refine b_iconst (v := (nI 1)) X dX7_share_49 (by decide) ?_
        refine bVi (st := [.int a1, .int (a1 - ((a1 * r5) / (μ.1 0 20)))]) (nA := 1) X (c_X7_ownedBy l D C ad (nI 1) μ _ h) kM_0 (by decide) (enc_7 kM_0) rfl gw_X7_321 ⟨rfl, hd_X7_ownedBy⟩ rfl rfl ⟨Nat.le_of_ble_eq_true rfl, Nat.le_of_ble_eq_true rfl⟩ rfl rfl (Nat.le_of_ble_eq_true rfl) dX7_share_50 (fun r7 μ8 h => ?_)
        obtain ⟨rfl, h⟩ := h
        refine b_imul X dX7_share_53 ?_
        refine b_aload_n X dX7_share_54 rfl 0 rfl ?_
        refine g_7_20 X kM_0 m_f_X7_179 dX7_share_55 ?_
        have hz := h.1
        replace h := h.2
        refine b_idiv X dX7_share_58 hz ?_
        clear hz
        refine b_isub X dX7_share_59 ?_
        refine b_topi (fun x9 ex9 => ?_)
        replace h := h x9 ex9
        refine b_istore_n (lv' := [(3, .int x9), (0, .ref (ad 0)), (1, .int a1), (2, .int a2)]) X dX7_share_60 rfl (by decide) rfl ?_
        refine b_iload_n X dX7_share_61 rfl 2 rfl ?_
        refine b_aload_n X dX7_share_62 rfl 1 rfl ?_
        refine b_iconst (v := (nI 1)) X dX7_share_63 (by decide) ?_
        refine bVi (st := [.int a1]) (nA := 1) X (c_X7_ownedBy l D C ad (nI 1) μ _ h) kM_0 (by decide) (enc_7 kM_0) rfl gw_X7_321 ⟨rfl, hd_X7_ownedBy⟩ rfl rfl ⟨Nat.le_of_ble_eq_true rfl, Nat.le_of_ble_eq_true rfl⟩ rfl rfl (Nat.le_of_ble_eq_true rfl) dX7_share_64 (fun r10 μ11 h => ?_)
        obtain ⟨rfl, h⟩ := h
        refine b_imul X dX7_share_67 ?_
        refine b_aload_n X dX7_share_68 rfl 1 rfl ?_
        refine g_7_20 X kM_0 m_f_X7_179 dX7_share_69 ?_
        have hz := h.1
        replace h := h.2
        refine b_irem X dX7_share_72 hz ?_
        clear hz
        refine b_topi (fun x12 ex12 => ?_)
        replace h := h x12 ex12
        refine b_iload_n X dX7_share_73 rfl 2 rfl ?_
        refine b_aload_n X dX7_share_74 rfl 1 rfl ?_
        refine b_iconst (v := (nI 0)) X dX7_share_75 (by decide) ?_
        refine bVi (st := [.int a1, .int x12]) (nA := 1) X (c_X7_ownedBy l D C ad (nI 0) μ _ h) kM_0 (by decide) (enc_7 kM_0) rfl gw_X7_321 ⟨rfl, hd_X7_ownedBy⟩ rfl rfl ⟨Nat.le_of_ble_eq_true rfl, Nat.le_of_ble_eq_true rfl⟩ rfl rfl (Nat.le_of_ble_eq_true rfl) dX7_share_76 (fun r13 μ14 h => ?_)
        obtain ⟨rfl, h⟩ := h
        refine b_imul X dX7_share_79 ?_
        refine b_aload_n X dX7_share_80 rfl 1 rfl ?_
        refine g_7_20 X kM_0 m_f_X7_179 dX7_share_81 ?_
        have hz := h.1
        replace h := h.2
        refine b_irem X dX7_share_84 hz ?_
        clear hz
        refine b_topi (fun x15 ex15 => ?_)
        replace h := h x15 ex15
        refine b_icmp_le (t := 92) X dX7_share_85 (by decide) (fun c => ?_) (fun c => ?_)
        · replace h := h.1 c
          refine b_iconst (v := (nI 0)) X dX7_share_92 (by decide) ?_
          refine b_sub (lv' := [(0, .ref (ad 0)), (1, .int a1), (2, .int a2), (3, .int x9)]) [1, 2, 3, 0] rfl ?_
          exact B93 x9 (nI 0) h
        · replace h := h.2 c
          refine b_iconst (v := (nI 1)) X dX7_share_88 (by decide) ?_
          refine b_goto (t := 93) X dX7_share_89 (by decide) ?_
          refine b_sub (lv' := [(0, .ref (ad 0)), (1, .int a1), (2, .int a2), (3, .int x9)]) [1, 2, 3, 0] rfl ?_
          exact B93 x9 (nI 1) h
      · replace h := h.2 c
        refine b_iconst (v := (nI 0)) X dX7_share_31 (by decide) ?_
        exact hret _ _ _ _ ⟨rfl, h⟩ dX7_share_32
    · replace h := h.2 c
      refine b_ldc (v := ((-1000000002) : Int32)) X m_k_X7_89 dX7_share_21 ?_
      exact hret _ _ _ _ ⟨rfl, h⟩ dX7_share_23
  · replace h := h.2 c
    refine b_ldc (v := ((-1000000001) : Int32)) X m_k_X7_219 dX7_share_7 ?_
    exact hret _ _ _ _ ⟨rfl, h⟩ dX7_share_9
set_option maxHeartbeats 4000000 in
set_option maxRecDepth 100000 in
theorem c_X7_led (l : Launch) (D : va_G) (C : Nat → ClassId) (ad : Nat → Nat) (a1 : Int32) (a2 : Int32) (a3 : Int32) (μ : Mem) (Q : Int32 → Mem → Prop) (h : w_X7_led a1 a2 a3 μ Q) : Mi sM l yX7_led cX7_led 8 (some .int) rm_X7_led D C ad [.ref (ad 0), .int a1, .int a2, .int a3] μ Q := by
  refine fm_i (by decide +kernel) sM_lt (Nat.le_of_ble_eq_true rfl) (fun K X hret => ?_)
  have X : CK sM D C ad K cX7_led 8 RX7 := X
  refine b_lv (lv' := [(0, .ref (ad 0)), (1, .int a1), (2, .int a2), (3, .int a3)]) rfl ?_
  unfold w_X7_led at h
  have B36 : ∀ (s2 : Int32) (μ : Mem), w_X7_led_36 a1 a2 a3 s2 μ Q → WB sM l D C ad rm_X7_led K 8 μ 36 [(0, .ref (ad 0)), (1, .int a1), (2, .int a2), (3, .int a3)] [.int s2, .ref (ad 0)] := by
    intro s2 μ h
    unfold w_X7_led_36 at h
    have B74 : ∀ (v5 : Int32) (v6 : Int32) (μ : Mem), w_X7_led_74 a1 a2 a3 v5 v6 μ Q → WB sM l D C ad rm_X7_led K 8 μ 74 [(0, .ref (ad 0)), (2, .int a2), (3, .int a3), (5, .int v5), (6, .int v6)] [] := by
      intro v5 v6 μ h
      obtain ⟨Y74, eY⟩ : ∃ Y : Int32 → Int32 → Prop, Y = fun (v5 : Int32) (v6 : Int32) => WB sM l D C ad rm_X7_led K 8 μ 74 [(0, .ref (ad 0)), (2, .int a2), (3, .int a3), (5, .int v5), (6, .int v6)] [] := ⟨_, rfl⟩
      have B74 : Y74 v5 v6 := by
        unfold w_X7_led_74 at h
        refine h Y74 ?_
        clear h
        intro v5 v6 h
        unfold s_X7_led_74 at h
        rw [eY]
        show WB sM l D C ad rm_X7_led K 8 μ 74 [(0, .ref (ad 0)), (2, .int a2), (3, .int a3), (5, .int v5), (6, .int v6)] []
        have T74 : ∀ (v5 : Int32) (v6 : Int32), Y74 v5 v6 → WB sM l D C ad rm_X7_led K 8 μ 74 [(0, .ref (ad 0)), (2, .int a2), (3, .int a3), (5, .int v5), (6, .int v6)] [] := by
          intro v5 v6 h
          rw [eY] at h
          exact h
        clear eY
        have B106 : ∀ (v5 : Int32) (v6 : Int32) (s3 : Int32), w_X7_led_106 a1 a2 a3 Y74 v5 v6 s3 μ Q → WB sM l D C ad rm_X7_led K 8 μ 106 [(0, .ref (ad 0)), (2, .int a2), (3, .int a3), (5, .int v5), (6, .int v6)] [.int s3, .ref (ad 14), .ref (ad 0)] := by
          intro v5 v6 s3 h
          unfold w_X7_led_106 at h
          have B134 : ∀ (v5 : Int32) (v6 : Int32) (v7 : Int32), w_X7_led_134 a1 a2 a3 Y74 v5 v6 v7 μ Q → WB sM l D C ad rm_X7_led K 8 μ 134 [(0, .ref (ad 0)), (2, .int a2), (3, .int a3), (5, .int v5), (6, .int v6), (7, .int v7)] [] := by
            intro v5 v6 v7 h
            unfold w_X7_led_134 at h
            have B153 : ∀ (v6 : Int32) (s2 : Int32) (s1 : Int32), w_X7_led_153 a1 a2 a3 Y74 v6 s2 s1 μ Q → WB sM l D C ad rm_X7_led K 8 μ 153 [(0, .ref (ad 0)), (2, .int a2), (3, .int a3), (6, .int v6)] [.int s2, .int s1] := by
              intro v6 s2 s1 h
              unfold w_X7_led_153 at h
              refine b_iadd X dX7_led_153 ?_
              refine b_topi (fun x15 ex15 => ?_)
              replace h := h x15 ex15
              refine b_istore (lv' := [(5, .int x15), (0, .ref (ad 0)), (2, .int a2), (3, .int a3), (6, .int v6)]) X dX7_led_154 (by decide) rfl ?_
              obtain ⟨x16, ex16⟩ : ∃ y : Int32, y = v6 + (nI 1) := ⟨_, rfl⟩
              replace h := h x16 ex16
              refine b_iinc (x := x16) (lv' := [(6, .int x16), (5, .int x15), (0, .ref (ad 0)), (2, .int a2), (3, .int a3)]) (q := 4) X dX7_led_156 rfl (by rw [ex16]; rfl) (by decide) rfl ?_
              refine b_goto (t := 74) X dX7_led_159 (by decide) ?_
              refine b_sub (lv' := [(0, .ref (ad 0)), (2, .int a2), (3, .int a3), (5, .int x15), (6, .int x16)]) [2, 3, 4, 1, 0] rfl ?_
              exact T74 x15 x16 h
            refine b_iload X dX7_led_134 3 rfl ?_
            refine b_iload X dX7_led_136 5 rfl ?_
            refine b_iconst (v := ((-1) : Int32)) X dX7_led_138 (by decide) ?_
            refine b_icmp_ne (t := 146) X dX7_led_139 (by decide) (fun c => ?_) (fun c => ?_)
            · replace h := h.1 c
              refine b_aload_n X dX7_led_146 rfl 0 rfl ?_
              refine g_7_31 X kM_0 m_f_X7_59 dX7_led_147 ?_
              refine b_iload X dX7_led_150 5 rfl ?_
              have hz := h.1
              replace h := h.2
              refine b_iald X kM_16 nM_16 hz dX7_led_152 ?_
              clear hz
              refine b_sub (lv' := [(0, .ref (ad 0)), (2, .int a2), (3, .int a3), (6, .int v6)]) [0, 1, 2, 4] rfl ?_
              exact B153 v6 (μ.1 16 (v7).toNatClampNeg) v5 h
            · replace h := h.2 c
              refine b_iconst (v := (nI 0)) X dX7_led_142 (by decide) ?_
              refine b_goto (t := 153) X dX7_led_143 (by decide) ?_
              refine b_sub (lv' := [(0, .ref (ad 0)), (2, .int a2), (3, .int a3), (6, .int v6)]) [0, 1, 2, 4] rfl ?_
              exact B153 v6 (nI 0) v5 h
          refine bVi (st := []) (nA := 2) X (c_X7_postIn l D C ad 14 kM_14 nM_14 s3 μ _ h) kM_0 (by decide) (enc_7 kM_0) rfl gw_X7_233 ⟨rfl, hd_X7_postIn⟩ rfl rfl ⟨Nat.le_of_ble_eq_true rfl, Nat.le_of_ble_eq_true rfl⟩ rfl rfl (Nat.le_of_ble_eq_true rfl) dX7_led_106 (fun r13 μ14 h => ?_)
          obtain ⟨rfl, h⟩ := h
          refine b_istore (lv' := [(7, .int r13), (0, .ref (ad 0)), (2, .int a2), (3, .int a3), (5, .int v5), (6, .int v6)]) X dX7_led_109 (by decide) rfl ?_
          refine b_iload X dX7_led_111 0 rfl ?_
          refine b_iconst (v := ((-1) : Int32)) X dX7_led_113 (by decide) ?_
          refine b_icmp_eq (t := 134) X dX7_led_114 (by decide) (fun c => ?_) (fun c => ?_)
          · replace h := h.1 c
            refine b_sub (lv' := [(0, .ref (ad 0)), (2, .int a2), (3, .int a3), (5, .int v5), (6, .int v6), (7, .int r13)]) [1, 2, 3, 4, 5, 0] rfl ?_
            exact B134 v5 v6 r13 h
          · replace h := h.2 c
            refine b_iload_n X dX7_led_117 rfl 3 rfl ?_
            refine b_iload X dX7_led_118 4 rfl ?_
            refine b_aload_n X dX7_led_120 rfl 1 rfl ?_
            refine g_7_31 X kM_0 m_f_X7_59 dX7_led_121 ?_
            refine b_iload X dX7_led_124 0 rfl ?_
            have hz := h.1
            replace h := h.2
            refine b_iald X kM_16 nM_16 hz dX7_led_126 ?_
            clear hz
            refine b_iadd X dX7_led_127 ?_
            refine b_icmp_ge (t := 134) X dX7_led_128 (by decide) (fun c => ?_) (fun c => ?_)
            · replace h := h.1 c
              refine b_sub (lv' := [(0, .ref (ad 0)), (2, .int a2), (3, .int a3), (5, .int v5), (6, .int v6), (7, .int r13)]) [1, 2, 3, 4, 5, 0] rfl ?_
              exact B134 v5 v6 r13 h
            · replace h := h.2 c
              refine b_iload X dX7_led_131 0 rfl ?_
              exact hret _ _ _ _ h dX7_led_133
        refine b_iload X dX7_led_74 4 rfl ?_
        refine b_aload_n X dX7_led_76 rfl 0 rfl ?_
        refine g_7_18 X kM_0 m_f_X7_173 dX7_led_77 ?_
        refine b_icmp_ge (t := 162) X dX7_led_80 (by decide) (fun c => ?_) (fun c => ?_)
        · replace h := h.1 c
          refine b_iconst (v := ((-1) : Int32)) X dX7_led_162 (by decide) ?_
          exact hret _ _ _ _ h dX7_led_163
        · replace h := h.2 c
          refine b_aload_n X dX7_led_83 rfl 0 rfl ?_
          refine b_aload_n X dX7_led_84 rfl 0 rfl ?_
          refine g_7_29 X kM_0 m_f_X7_53 dX7_led_85 ?_
          refine b_iload_n X dX7_led_88 rfl 1 rfl ?_
          refine b_if_ne (t := 97) X dX7_led_89 (by decide) (fun c => ?_) (fun c => ?_)
          · replace h := h.1 c
            refine b_aload_n X dX7_led_97 rfl 0 rfl ?_
            refine g_7_18 X kM_0 m_f_X7_173 dX7_led_98 ?_
            refine b_iconst (v := (nI 1)) X dX7_led_101 (by decide) ?_
            refine b_isub X dX7_led_102 ?_
            refine b_iload X dX7_led_103 4 rfl ?_
            refine b_isub X dX7_led_105 ?_
            refine b_sub (lv' := [(0, .ref (ad 0)), (2, .int a2), (3, .int a3), (5, .int v5), (6, .int v6)]) [0, 1, 2, 3, 4] rfl ?_
            exact B106 v5 v6 (((μ.1 0 18) - (nI 1)) - v6) h
          · replace h := h.2 c
            refine b_iload X dX7_led_92 4 rfl ?_
            refine b_goto (t := 106) X dX7_led_94 (by decide) ?_
            refine b_sub (lv' := [(0, .ref (ad 0)), (2, .int a2), (3, .int a3), (5, .int v5), (6, .int v6)]) [0, 1, 2, 3, 4] rfl ?_
            exact B106 v5 v6 v6 h
      rw [eY] at B74
      exact B74
    refine bVi (st := []) (nA := 1) X (c_X7_need l D C ad s2 μ _ h) kM_0 (by decide) (enc_7 kM_0) rfl gw_X7_273 ⟨rfl, hd_X7_need⟩ rfl rfl ⟨Nat.le_of_ble_eq_true rfl, Nat.le_of_ble_eq_true rfl⟩ rfl rfl (Nat.le_of_ble_eq_true rfl) dX7_led_36 (fun r7 μ8 h => ?_)
    obtain ⟨rfl, h⟩ := h
    refine b_istore (lv' := [(4, .int r7), (0, .ref (ad 0)), (1, .int a1), (2, .int a2), (3, .int a3)]) X dX7_led_39 (by decide) rfl ?_
    refine b_iload X dX7_led_41 0 rfl ?_
    refine b_if_ge (t := 49) X dX7_led_43 (by decide) (fun c => ?_) (fun c => ?_)
    · replace h := h.1 c
      refine b_aload_n X dX7_led_49 rfl 1 rfl ?_
      refine b_aload_n X dX7_led_50 rfl 1 rfl ?_
      refine g_7_29 X kM_0 m_f_X7_53 dX7_led_51 ?_
      refine b_iload_n X dX7_led_54 rfl 2 rfl ?_
      refine b_iload_n X dX7_led_55 rfl 3 rfl ?_
      refine b_aload_n X dX7_led_56 rfl 1 rfl ?_
      refine b_aload_n X dX7_led_57 rfl 1 rfl ?_
      refine g_7_29 X kM_0 m_f_X7_53 dX7_led_58 ?_
      refine bVi (st := [.int a2, .int a1, .ref (ad 14), .ref (ad 0)]) (nA := 1) X (c_X7_hanging l D C ad 14 kM_14 nM_14 μ _ h) kM_0 (by decide) (enc_7 kM_0) rfl gw_X7_209 ⟨rfl, hd_X7_hanging⟩ rfl rfl ⟨Nat.le_of_ble_eq_true rfl, Nat.le_of_ble_eq_true rfl⟩ rfl rfl (Nat.le_of_ble_eq_true rfl) dX7_led_61 (fun r9 μ10 h => ?_)
      obtain ⟨rfl, h⟩ := h
      refine bVi (st := []) (nA := 4) X (c_X7_leads l D C ad 14 kM_14 nM_14 a1 a2 r9 μ _ h) kM_0 (by decide) (enc_7 kM_0) rfl gw_X7_249 ⟨rfl, hd_X7_leads⟩ rfl rfl ⟨Nat.le_of_ble_eq_true rfl, Nat.le_of_ble_eq_true rfl⟩ rfl rfl (Nat.le_of_ble_eq_true rfl) dX7_led_64 (fun r11 μ12 h => ?_)
      refine b_pop X dX7_led_67 rfl ?_
      refine b_iconst (v := (nI 0)) X dX7_led_68 (by decide) ?_
      refine b_istore (lv' := [(5, .int (nI 0)), (4, .int r7), (0, .ref (ad 0)), (1, .int a1), (2, .int a2), (3, .int a3)]) X dX7_led_69 (by decide) rfl ?_
      refine b_iconst (v := (nI 0)) X dX7_led_71 (by decide) ?_
      refine b_istore (lv' := [(6, .int (nI 0)), (5, .int (nI 0)), (4, .int r7), (0, .ref (ad 0)), (1, .int a1), (2, .int a2), (3, .int a3)]) X dX7_led_72 (by decide) rfl ?_
      refine b_sub (lv' := [(0, .ref (ad 0)), (2, .int a2), (3, .int a3), (5, .int (nI 0)), (6, .int (nI 0))]) [3, 5, 6, 1, 0] rfl ?_
      exact B74 (nI 0) (nI 0) μ12 h
    · replace h := h.2 c
      refine b_iload X dX7_led_46 0 rfl ?_
      exact hret _ _ _ _ h dX7_led_48
  have B35 : ∀ (μ : Mem), w_X7_led_35 a1 a2 a3 μ Q → WB sM l D C ad rm_X7_led K 8 μ 35 [(0, .ref (ad 0)), (1, .int a1), (2, .int a2), (3, .int a3)] [.ref (ad 0)] := by
    intro μ h
    unfold w_X7_led_35 at h
    refine b_iconst (v := (nI 0)) X dX7_led_35 (by decide) ?_
    refine b_sub (lv' := [(0, .ref (ad 0)), (1, .int a1), (2, .int a2), (3, .int a3)]) [0, 1, 2, 3] rfl ?_
    exact B36 (nI 0) μ h
  refine b_aload_n X dX7_led_0 rfl 0 rfl ?_
  refine b_iload_n X dX7_led_1 rfl 1 rfl ?_
  refine b_iconst (v := (nI 0)) X dX7_led_2 (by decide) ?_
  refine b_bipush (v := (nI 99)) X dX7_led_3 (by decide) ?_
  refine bSi (st := [.ref (ad 0)]) (nA := 3) X (c_X7_in l D C ad a1 (nI 0) (nI 99) μ _ h) gw_X7_85 hd_X7_in rfl rfl ⟨Nat.le_of_ble_eq_true rfl, Nat.le_of_ble_eq_true rfl⟩ rfl rfl (Nat.le_of_ble_eq_true rfl) dX7_led_5 (fun r1 μ2 h => ?_)
  obtain ⟨rfl, h⟩ := h
  refine b_if_eq (t := 35) X dX7_led_8 (by decide) (fun c => ?_) (fun c => ?_)
  · replace h := h.1 c
    refine b_sub (lv' := [(0, .ref (ad 0)), (1, .int a1), (2, .int a2), (3, .int a3)]) [0, 1, 2, 3] rfl ?_
    exact B35 μ h
  · replace h := h.2 c
    refine b_iload_n X dX7_led_11 rfl 2 rfl ?_
    refine b_iconst (v := (nI 0)) X dX7_led_12 (by decide) ?_
    refine b_iconst (v := (nI 1)) X dX7_led_13 (by decide) ?_
    refine bSi (st := [.ref (ad 0)]) (nA := 3) X (c_X7_in l D C ad a2 (nI 0) (nI 1) μ _ h) gw_X7_85 hd_X7_in rfl rfl ⟨Nat.le_of_ble_eq_true rfl, Nat.le_of_ble_eq_true rfl⟩ rfl rfl (Nat.le_of_ble_eq_true rfl) dX7_led_14 (fun r3 μ4 h => ?_)
    obtain ⟨rfl, h⟩ := h
    refine b_if_eq (t := 35) X dX7_led_17 (by decide) (fun c => ?_) (fun c => ?_)
    · replace h := h.1 c
      refine b_sub (lv' := [(0, .ref (ad 0)), (1, .int a1), (2, .int a2), (3, .int a3)]) [0, 1, 2, 3] rfl ?_
      exact B35 μ h
    · replace h := h.2 c
      refine b_iload_n X dX7_led_20 rfl 3 rfl ?_
      refine b_iconst (v := (nI 0)) X dX7_led_21 (by decide) ?_
      refine b_iload_n X dX7_led_22 rfl 1 rfl ?_
      refine b_iconst (v := (nI 1)) X dX7_led_23 (by decide) ?_
      refine b_isub X dX7_led_24 ?_
      refine bSi (st := [.ref (ad 0)]) (nA := 3) X (c_X7_in l D C ad a3 (nI 0) (a1 - (nI 1)) μ _ h) gw_X7_85 hd_X7_in rfl rfl ⟨Nat.le_of_ble_eq_true rfl, Nat.le_of_ble_eq_true rfl⟩ rfl rfl (Nat.le_of_ble_eq_true rfl) dX7_led_25 (fun r5 μ6 h => ?_)
      obtain ⟨rfl, h⟩ := h
      refine b_if_eq (t := 35) X dX7_led_28 (by decide) (fun c => ?_) (fun c => ?_)
      · replace h := h.1 c
        refine b_sub (lv' := [(0, .ref (ad 0)), (1, .int a1), (2, .int a2), (3, .int a3)]) [0, 1, 2, 3] rfl ?_
        exact B35 μ h
      · replace h := h.2 c
        refine b_iconst (v := (nI 1)) X dX7_led_31 (by decide) ?_
        refine b_goto (t := 36) X dX7_led_32 (by decide) ?_
        refine b_sub (lv' := [(0, .ref (ad 0)), (1, .int a1), (2, .int a2), (3, .int a3)]) [0, 1, 2, 3] rfl ?_
        exact B36 (nI 1) μ h
