set_option maxHeartbeats 4000000 in
set_option maxRecDepth 100000 in
theorem c_X6_bestTwo (l : Launch) (D : va_G) (C : Nat → ClassId) (ad : Nat → Nat) (a1 : Int32) (a2 : Int32) (a3 : Int32) (μ : Mem) (Q : Int32 → Mem → Prop) (h : w_X6_bestTwo a1 a2 a3 μ Q) : Mi sF l yX6_bestTwo cX6_bestTwo 9 (some .int) rm_X6_bestTwo D C ad [.ref (ad 0), .int a1, .int a2, .int a3] μ Q := by
  refine fm_i (by decide +kernel) sF_lt (Nat.le_of_ble_eq_true rfl) (fun K X hret => ?_)
  have X : CK sF D C ad K cX6_bestTwo 9 RX6 := X
  refine b_lv (lv' := [(0, .ref (ad 0)), (1, .int a1), (2, .int a2), (3, .int a3)]) rfl ?_
  unfold w_X6_bestTwo at h
  have B45 : ∀ (v4 : Int32) (v5 : Int32) (v6 : Int32) (μ : Mem), w_X6_bestTwo_45 a1 a2 a3 v4 v5 v6 μ Q → WB sF l D C ad rm_X6_bestTwo K 9 μ 45 [(0, .ref (ad 0)), (1, .int a1), (2, .int a2), (3, .int a3), (4, .int v4), (5, .int v5), (6, .int v6)] [] := by
    intro v4 v5 v6 μ h
    obtain ⟨Y45, eY⟩ : ∃ Y : Int32 → Int32 → Int32 → Mem → Prop, Y = fun (v4 : Int32) (v5 : Int32) (v6 : Int32) (μ : Mem) => WB sF l D C ad rm_X6_bestTwo K 9 μ 45 [(0, .ref (ad 0)), (1, .int a1), (2, .int a2), (3, .int a3), (4, .int v4), (5, .int v5), (6, .int v6)] [] := ⟨_, rfl⟩
    have B45 : Y45 v4 v5 v6 μ := by
      unfold w_X6_bestTwo_45 at h
      refine h Y45 ?_
      clear h
      intro v4 v5 v6 μ h
      unfold s_X6_bestTwo_45 at h
      rw [eY]
      show WB sF l D C ad rm_X6_bestTwo K 9 μ 45 [(0, .ref (ad 0)), (1, .int a1), (2, .int a2), (3, .int a3), (4, .int v4), (5, .int v5), (6, .int v6)] []
      have T45 : ∀ (v4 : Int32) (v5 : Int32) (v6 : Int32) (μ : Mem), Y45 v4 v5 v6 μ → WB sF l D C ad rm_X6_bestTwo K 9 μ 45 [(0, .ref (ad 0)), (1, .int a1), (2, .int a2), (3, .int a3), (4, .int v4), (5, .int v5), (6, .int v6)] [] := by
        intro v4 v5 v6 μ h
        rw [eY] at h
        exact h
      clear eY
      have B142 : ∀ (v4 : Int32) (v5 : Int32) (μ : Mem), w_X6_bestTwo_142 a1 a2 a3 v4 v5 μ Q → WB sF l D C ad rm_X6_bestTwo K 9 μ 142 [(3, .int a3), (4, .int v4), (5, .int v5)] [] := by
        intro v4 v5 μ h
        unfold w_X6_bestTwo_142 at h
        refine b_iload_n X dX6_bestTwo_142 rfl 0 rfl ?_
        refine b_if_ne (t := 151) X dX6_bestTwo_143 (by decide) (fun c => ?_) (fun c => ?_)
        · replace h := h.1 c
          refine b_iload X dX6_bestTwo_151 2 rfl ?_
          exact hret _ _ _ _ h dX6_bestTwo_153
        · replace h := h.2 c
          refine b_iload X dX6_bestTwo_146 1 rfl ?_
          refine b_goto (t := 153) X dX6_bestTwo_148 (by decide) ?_
          exact hret _ _ _ _ h dX6_bestTwo_153
      have B136 : ∀ (v4 : Int32) (v5 : Int32) (v6 : Int32) (μ : Mem), w_X6_bestTwo_136 a1 a2 a3 Y45 v4 v5 v6 μ Q → WB sF l D C ad rm_X6_bestTwo K 9 μ 136 [(0, .ref (ad 0)), (1, .int a1), (2, .int a2), (3, .int a3), (4, .int v4), (5, .int v5), (6, .int v6)] [] := by
        intro v4 v5 v6 μ h
        unfold w_X6_bestTwo_136 at h
        obtain ⟨x15, ex15⟩ : ∃ y : Int32, y = v6 + (nI 1) := ⟨_, rfl⟩
        replace h := h x15 ex15
        refine b_iinc (x := x15) (lv' := [(6, .int x15), (0, .ref (ad 0)), (1, .int a1), (2, .int a2), (3, .int a3), (4, .int v4), (5, .int v5)]) (q := 6) X dX6_bestTwo_136 rfl (by rw [ex15]; rfl) (by decide) rfl ?_
        refine b_goto (t := 45) X dX6_bestTwo_139 (by decide) ?_
        refine b_sub (lv' := [(0, .ref (ad 0)), (1, .int a1), (2, .int a2), (3, .int a3), (4, .int v4), (5, .int v5), (6, .int x15)]) [1, 2, 3, 4, 5, 6, 0] rfl ?_
        exact T45 v4 v5 x15 μ h
      have B69 : ∀ (v4 : Int32) (v5 : Int32) (v6 : Int32) (v7 : Int32) (μ : Mem), w_X6_bestTwo_69 a1 a2 a3 Y45 v4 v5 v6 v7 μ Q → WB sF l D C ad rm_X6_bestTwo K 9 μ 69 [(0, .ref (ad 0)), (1, .int a1), (2, .int a2), (3, .int a3), (4, .int v4), (5, .int v5), (6, .int v6), (7, .int v7)] [] := by
        intro v4 v5 v6 v7 μ h
        obtain ⟨Y69, eY⟩ : ∃ Y : Int32 → Int32 → Int32 → Mem → Prop, Y = fun (v4 : Int32) (v5 : Int32) (v7 : Int32) (μ : Mem) => WB sF l D C ad rm_X6_bestTwo K 9 μ 69 [(0, .ref (ad 0)), (1, .int a1), (2, .int a2), (3, .int a3), (4, .int v4), (5, .int v5), (6, .int v6), (7, .int v7)] [] := ⟨_, rfl⟩
        have B69 : Y69 v4 v5 v7 μ := by
          unfold w_X6_bestTwo_69 at h
          refine h Y69 ?_
          clear h
          intro v4 v5 v7 μ h
          unfold s_X6_bestTwo_69 at h
          rw [eY]
          show WB sF l D C ad rm_X6_bestTwo K 9 μ 69 [(0, .ref (ad 0)), (1, .int a1), (2, .int a2), (3, .int a3), (4, .int v4), (5, .int v5), (6, .int v6), (7, .int v7)] []
          have T69 : ∀ (v4 : Int32) (v5 : Int32) (v7 : Int32) (μ : Mem), Y69 v4 v5 v7 μ → WB sF l D C ad rm_X6_bestTwo K 9 μ 69 [(0, .ref (ad 0)), (1, .int a1), (2, .int a2), (3, .int a3), (4, .int v4), (5, .int v5), (6, .int v6), (7, .int v7)] [] := by
            intro v4 v5 v7 μ h
            rw [eY] at h
            exact h
          clear eY
          have B130 : ∀ (v4 : Int32) (v5 : Int32) (v7 : Int32) (μ : Mem), w_X6_bestTwo_130 a1 a2 a3 Y45 Y69 v4 v5 v6 v7 μ Q → WB sF l D C ad rm_X6_bestTwo K 9 μ 130 [(0, .ref (ad 0)), (1, .int a1), (2, .int a2), (3, .int a3), (4, .int v4), (5, .int v5), (6, .int v6), (7, .int v7)] [] := by
            intro v4 v5 v7 μ h
            unfold w_X6_bestTwo_130 at h
            obtain ⟨x14, ex14⟩ : ∃ y : Int32, y = v7 + (nI 1) := ⟨_, rfl⟩
            replace h := h x14 ex14
            refine b_iinc (x := x14) (lv' := [(7, .int x14), (0, .ref (ad 0)), (1, .int a1), (2, .int a2), (3, .int a3), (4, .int v4), (5, .int v5), (6, .int v6)]) (q := 7) X dX6_bestTwo_130 rfl (by rw [ex14]; rfl) (by decide) rfl ?_
            refine b_goto (t := 69) X dX6_bestTwo_133 (by decide) ?_
            refine b_sub (lv' := [(0, .ref (ad 0)), (1, .int a1), (2, .int a2), (3, .int a3), (4, .int v4), (5, .int v5), (6, .int v6), (7, .int x14)]) [1, 2, 3, 4, 5, 6, 7, 0] rfl ?_
            exact T69 v4 v5 x14 μ h
          refine b_iload X dX6_bestTwo_69 7 rfl ?_
          refine b_bipush (v := (nI 12)) X dX6_bestTwo_71 (by decide) ?_
          refine b_icmp_ge (t := 136) X dX6_bestTwo_73 (by decide) (fun c => ?_) (fun c => ?_)
          · replace h := h.1 c
            refine b_sub (lv' := [(0, .ref (ad 0)), (1, .int a1), (2, .int a2), (3, .int a3), (4, .int v4), (5, .int v5), (6, .int v6)]) [0, 1, 2, 3, 4, 5, 6] rfl ?_
            exact B136 v4 v5 v6 μ h
          · replace h := h.2 c
            refine b_iload X dX6_bestTwo_76 7 rfl ?_
            refine b_iload X dX6_bestTwo_78 6 rfl ?_
            refine b_icmp_eq (t := 130) X dX6_bestTwo_80 (by decide) (fun c => ?_) (fun c => ?_)
            · replace h := h.1 c
              refine b_sub (lv' := [(0, .ref (ad 0)), (1, .int a1), (2, .int a2), (3, .int a3), (4, .int v4), (5, .int v5), (6, .int v6), (7, .int v7)]) [0, 1, 2, 3, 4, 5, 6, 7] rfl ?_
              exact B130 v4 v5 v7 μ h
            · replace h := h.2 c
              refine b_aload_n X dX6_bestTwo_83 rfl 0 rfl ?_
              refine b_iload X dX6_bestTwo_84 7 rfl ?_
              refine b_iload_n X dX6_bestTwo_86 rfl 1 rfl ?_
              refine b_iload_n X dX6_bestTwo_87 rfl 2 rfl ?_
              refine bVi (st := []) (nA := 3) X (c_X6_isOpenTo l D C ad v7 a1 a2 μ _ h) kF_0 (by decide) (enc_6 kF_0) rfl gw_X6_262 ⟨rfl, hd_X6_isOpenTo⟩ rfl rfl ⟨Nat.le_of_ble_eq_true rfl, Nat.le_of_ble_eq_true rfl⟩ rfl rfl (Nat.le_of_ble_eq_true rfl) dX6_bestTwo_88 (fun r9 μ10 h => ?_)
              obtain ⟨rfl, h⟩ := h
              refine b_if_ne (t := 97) X dX6_bestTwo_91 (by decide) (fun c => ?_) (fun c => ?_)
              · replace h := h.1 c
                refine b_aload_n X dX6_bestTwo_97 rfl 0 rfl ?_
                refine b_iload_n X dX6_bestTwo_98 rfl 1 rfl ?_
                refine b_iload X dX6_bestTwo_99 6 rfl ?_
                refine b_iload_n X dX6_bestTwo_101 rfl 2 rfl ?_
                refine b_iload X dX6_bestTwo_102 7 rfl ?_
                refine bVi (st := []) (nA := 4) X (c_X6_lesserHaul l D C ad a1 v6 a2 v7 μ _ h) kF_0 (by decide) (enc_6 kF_0) rfl gw_X6_265 ⟨rfl, hd_X6_lesserHaul⟩ rfl rfl ⟨Nat.le_of_ble_eq_true rfl, Nat.le_of_ble_eq_true rfl⟩ rfl rfl (Nat.le_of_ble_eq_true rfl) dX6_bestTwo_104 (fun r11 μ12 h => ?_)
                refine b_istore (lv' := [(8, .int r11), (0, .ref (ad 0)), (1, .int a1), (2, .int a2), (3, .int a3), (4, .int v4), (5, .int v5), (6, .int v6), (7, .int v7)]) X dX6_bestTwo_107 (by decide) rfl ?_
                refine b_iload X dX6_bestTwo_109 0 rfl ?_
                refine b_iload X dX6_bestTwo_111 6 rfl ?_
                refine b_icmp_le (t := 130) X dX6_bestTwo_113 (by decide) (fun c => ?_) (fun c => ?_)
                · replace h := h.1 c
                  refine b_sub (lv' := [(0, .ref (ad 0)), (1, .int a1), (2, .int a2), (3, .int a3), (4, .int v4), (5, .int v5), (6, .int v6), (7, .int v7)]) [1, 2, 3, 4, 5, 6, 7, 8] rfl ?_
                  exact B130 v4 v5 v7 μ12 h
                · replace h := h.2 c
                  refine b_iload X dX6_bestTwo_116 0 rfl ?_
                  refine b_istore (lv' := [(5, .int r11), (8, .int r11), (0, .ref (ad 0)), (1, .int a1), (2, .int a2), (3, .int a3), (4, .int v4), (6, .int v6), (7, .int v7)]) X dX6_bestTwo_118 (by decide) rfl ?_
                  refine b_bipush (v := (nI 100)) X dX6_bestTwo_120 (by decide) ?_
                  refine b_iload X dX6_bestTwo_122 7 rfl ?_
                  refine b_imul X dX6_bestTwo_124 ?_
                  refine b_iload X dX6_bestTwo_125 8 rfl ?_
                  refine b_iadd X dX6_bestTwo_127 ?_
                  refine b_topi (fun x13 ex13 => ?_)
                  replace h := h x13 ex13
                  refine b_istore (lv' := [(4, .int x13), (5, .int r11), (8, .int r11), (0, .ref (ad 0)), (1, .int a1), (2, .int a2), (3, .int a3), (6, .int v6), (7, .int v7)]) X dX6_bestTwo_128 (by decide) rfl ?_
                  refine b_sub (lv' := [(0, .ref (ad 0)), (1, .int a1), (2, .int a2), (3, .int a3), (4, .int x13), (5, .int r11), (6, .int v6), (7, .int v7)]) [3, 4, 5, 6, 0, 1, 7, 8] rfl ?_
                  exact B130 x13 r11 v7 μ12 h
              · replace h := h.2 c
                refine b_goto (t := 130) X dX6_bestTwo_94 (by decide) ?_
                refine b_sub (lv' := [(0, .ref (ad 0)), (1, .int a1), (2, .int a2), (3, .int a3), (4, .int v4), (5, .int v5), (6, .int v6), (7, .int v7)]) [0, 1, 2, 3, 4, 5, 6, 7] rfl ?_
                exact B130 v4 v5 v7 μ h
        rw [eY] at B69
        exact B69
      refine b_iload X dX6_bestTwo_45 6 rfl ?_
      refine b_bipush (v := (nI 12)) X dX6_bestTwo_47 (by decide) ?_
      refine b_icmp_ge (t := 142) X dX6_bestTwo_49 (by decide) (fun c => ?_) (fun c => ?_)
      · replace h := h.1 c
        refine b_sub (lv' := [(3, .int a3), (4, .int v4), (5, .int v5)]) [3, 4, 5] rfl ?_
        exact B142 v4 v5 μ h
      · replace h := h.2 c
        refine b_aload_n X dX6_bestTwo_52 rfl 0 rfl ?_
        refine b_iload X dX6_bestTwo_53 6 rfl ?_
        refine b_iload_n X dX6_bestTwo_55 rfl 1 rfl ?_
        refine b_iload_n X dX6_bestTwo_56 rfl 2 rfl ?_
        refine bVi (st := []) (nA := 3) X (c_X6_isOpenTo l D C ad v6 a1 a2 μ _ h) kF_0 (by decide) (enc_6 kF_0) rfl gw_X6_262 ⟨rfl, hd_X6_isOpenTo⟩ rfl rfl ⟨Nat.le_of_ble_eq_true rfl, Nat.le_of_ble_eq_true rfl⟩ rfl rfl (Nat.le_of_ble_eq_true rfl) dX6_bestTwo_57 (fun r7 μ8 h => ?_)
        obtain ⟨rfl, h⟩ := h
        refine b_if_ne (t := 66) X dX6_bestTwo_60 (by decide) (fun c => ?_) (fun c => ?_)
        · replace h := h.1 c
          refine b_iconst (v := (nI 0)) X dX6_bestTwo_66 (by decide) ?_
          refine b_istore (lv' := [(7, .int (nI 0)), (0, .ref (ad 0)), (1, .int a1), (2, .int a2), (3, .int a3), (4, .int v4), (5, .int v5), (6, .int v6)]) X dX6_bestTwo_67 (by decide) rfl ?_
          refine b_sub (lv' := [(0, .ref (ad 0)), (1, .int a1), (2, .int a2), (3, .int a3), (4, .int v4), (5, .int v5), (6, .int v6), (7, .int (nI 0))]) [1, 2, 3, 4, 5, 6, 7, 0] rfl ?_
          exact B69 v4 v5 v6 (nI 0) μ h
        · replace h := h.2 c
          refine b_goto (t := 136) X dX6_bestTwo_63 (by decide) ?_
          refine b_sub (lv' := [(0, .ref (ad 0)), (1, .int a1), (2, .int a2), (3, .int a3), (4, .int v4), (5, .int v5), (6, .int v6)]) [0, 1, 2, 3, 4, 5, 6] rfl ?_
          exact B136 v4 v5 v6 μ h
    rw [eY] at B45
    exact B45
  refine b_aload_n X dX6_bestTwo_0 rfl 0 rfl ?_
  refine b_iload_n X dX6_bestTwo_1 rfl 1 rfl ?_
  refine bVi (st := []) (nA := 1) X (c_X6_isPost l D C ad a1 μ _ h) kF_0 (by decide) (enc_6 kF_0) rfl gw_X6_146 ⟨rfl, hd_X6_isPost⟩ rfl rfl ⟨Nat.le_of_ble_eq_true rfl, Nat.le_of_ble_eq_true rfl⟩ rfl rfl (Nat.le_of_ble_eq_true rfl) dX6_bestTwo_2 (fun r1 μ2 h => ?_)
  obtain ⟨rfl, h⟩ := h
  refine b_if_eq (t := 21) X dX6_bestTwo_5 (by decide) (fun c => ?_) (fun c => ?_)
  · replace h := h.1 c
    refine b_ldc (v := ((-1000000001) : Int32)) X m_k_X6_150 dX6_bestTwo_21 ?_
    exact hret _ _ _ _ h dX6_bestTwo_23
  · replace h := h.2 c
    refine b_aload_n X dX6_bestTwo_8 rfl 0 rfl ?_
    refine b_iload_n X dX6_bestTwo_9 rfl 2 rfl ?_
    refine bVi (st := []) (nA := 1) X (c_X6_isPost l D C ad a2 μ _ h) kF_0 (by decide) (enc_6 kF_0) rfl gw_X6_146 ⟨rfl, hd_X6_isPost⟩ rfl rfl ⟨Nat.le_of_ble_eq_true rfl, Nat.le_of_ble_eq_true rfl⟩ rfl rfl (Nat.le_of_ble_eq_true rfl) dX6_bestTwo_10 (fun r3 μ4 h => ?_)
    obtain ⟨rfl, h⟩ := h
    refine b_if_eq (t := 21) X dX6_bestTwo_13 (by decide) (fun c => ?_) (fun c => ?_)
    · replace h := h.1 c
      refine b_ldc (v := ((-1000000001) : Int32)) X m_k_X6_150 dX6_bestTwo_21 ?_
      exact hret _ _ _ _ h dX6_bestTwo_23
    · replace h := h.2 c
      refine b_iload_n X dX6_bestTwo_16 rfl 1 rfl ?_
      refine b_iload_n X dX6_bestTwo_17 rfl 2 rfl ?_
      refine b_icmp_ne (t := 24) X dX6_bestTwo_18 (by decide) (fun c => ?_) (fun c => ?_)
      · replace h := h.1 c
        refine b_iload_n X dX6_bestTwo_24 rfl 3 rfl ?_
        refine b_iconst (v := (nI 0)) X dX6_bestTwo_25 (by decide) ?_
        refine b_iconst (v := (nI 1)) X dX6_bestTwo_26 (by decide) ?_
        refine bSi (st := []) (nA := 3) X (c_X6_within l D C ad a3 (nI 0) (nI 1) μ _ h) gw_X6_80 hd_X6_within rfl rfl ⟨Nat.le_of_ble_eq_true rfl, Nat.le_of_ble_eq_true rfl⟩ rfl rfl (Nat.le_of_ble_eq_true rfl) dX6_bestTwo_27 (fun r5 μ6 h => ?_)
        obtain ⟨rfl, h⟩ := h
        refine b_if_ne (t := 36) X dX6_bestTwo_30 (by decide) (fun c => ?_) (fun c => ?_)
        · replace h := h.1 c
          refine b_iconst (v := ((-1) : Int32)) X dX6_bestTwo_36 (by decide) ?_
          refine b_istore (lv' := [(4, .int ((-1) : Int32)), (0, .ref (ad 0)), (1, .int a1), (2, .int a2), (3, .int a3)]) X dX6_bestTwo_37 (by decide) rfl ?_
          refine b_iconst (v := ((-1) : Int32)) X dX6_bestTwo_39 (by decide) ?_
          refine b_istore (lv' := [(5, .int ((-1) : Int32)), (4, .int ((-1) : Int32)), (0, .ref (ad 0)), (1, .int a1), (2, .int a2), (3, .int a3)]) X dX6_bestTwo_40 (by decide) rfl ?_
          refine b_iconst (v := (nI 0)) X dX6_bestTwo_42 (by decide) ?_
          refine b_istore (lv' := [(6, .int (nI 0)), (5, .int ((-1) : Int32)), (4, .int ((-1) : Int32)), (0, .ref (ad 0)), (1, .int a1), (2, .int a2), (3, .int a3)]) X dX6_bestTwo_43 (by decide) rfl ?_
          refine b_sub (lv' := [(0, .ref (ad 0)), (1, .int a1), (2, .int a2), (3, .int a3), (4, .int ((-1) : Int32)), (5, .int ((-1) : Int32)), (6, .int (nI 0))]) [3, 4, 5, 6, 2, 1, 0] rfl ?_
          exact B45 ((-1) : Int32) ((-1) : Int32) (nI 0) μ h
        · replace h := h.2 c
          refine b_ldc (v := ((-1000000002) : Int32)) X m_k_X6_84 dX6_bestTwo_33 ?_
          exact hret _ _ _ _ h dX6_bestTwo_35
      · replace h := h.2 c
        refine b_ldc (v := ((-1000000001) : Int32)) X m_k_X6_150 dX6_bestTwo_21 ?_
        exact hret _ _ _ _ h dX6_bestTwo_23
set_option maxHeartbeats 4000000 in
set_option maxRecDepth 100000 in
theorem c_X6_lampCosts (l : Launch) (D : va_G) (C : Nat → ClassId) (ad : Nat → Nat) (a1 : Int32) (μ : Mem) (Q : Int32 → Mem → Prop) (h : w_X6_lampCosts a1 μ Q) : Mi sF l yX6_lampCosts cX6_lampCosts 3 (some .int) rm_X6_lampCosts D C ad [.ref (ad 0), .int a1] μ Q := by
  refine fm_i (by decide +kernel) sF_lt (Nat.le_of_ble_eq_true rfl) (fun K X hret => ?_)
  have X : CK sF D C ad K cX6_lampCosts 3 RX6 := X
  refine b_lv (lv' := [(0, .ref (ad 0)), (1, .int a1)]) rfl ?_
  unfold w_X6_lampCosts at h
  refine b_iload_n X dX6_lampCosts_0 rfl 1 rfl ?_
  refine b_iconst (v := (nI 0)) X dX6_lampCosts_1 (by decide) ?_
  refine b_bipush (v := (nI 99)) X dX6_lampCosts_2 (by decide) ?_
  refine bSi (st := []) (nA := 3) X (c_X6_within l D C ad a1 (nI 0) (nI 99) μ _ h) gw_X6_80 hd_X6_within rfl rfl ⟨Nat.le_of_ble_eq_true rfl, Nat.le_of_ble_eq_true rfl⟩ rfl rfl (Nat.le_of_ble_eq_true rfl) dX6_lampCosts_4 (fun r1 μ2 h => ?_)
  obtain ⟨rfl, h⟩ := h
  refine b_if_ne (t := 13) X dX6_lampCosts_7 (by decide) (fun c => ?_) (fun c => ?_)
  · replace h := h.1 c
    refine b_aload_n X dX6_lampCosts_13 rfl 0 rfl ?_
    refine bVi (st := []) (nA := 0) X (c_X6_isBare l D C ad  μ _ h) kF_0 (by decide) (enc_6 kF_0) rfl gw_X6_173 ⟨rfl, hd_X6_isBare⟩ rfl rfl ⟨Nat.le_of_ble_eq_true rfl, Nat.le_of_ble_eq_true rfl⟩ rfl rfl (Nat.le_of_ble_eq_true rfl) dX6_lampCosts_14 (fun r3 μ4 h => ?_)
    obtain ⟨rfl, h⟩ := h
    refine b_if_eq (t := 23) X dX6_lampCosts_17 (by decide) (fun c => ?_) (fun c => ?_)
    · replace h := h.1 c
      refine b_aload_n X dX6_lampCosts_23 rfl 0 rfl ?_
      refine g_6_4 X kF_0 m_f_X6_33 dX6_lampCosts_24 ?_
      refine b_aload_n X dX6_lampCosts_27 rfl 0 rfl ?_
      refine g_6_3 X kF_0 m_f_X6_29 dX6_lampCosts_28 ?_
      refine bVv (st := []) (nA := 1) X (c_X4_become l D C ad 31 kF_31 25 kF_25 μ _ h) kF_31 (by decide) (enc_4 kF_31) rfl gw_X6_247 ⟨rfl, hd_X4_become⟩ rfl rfl ⟨Nat.le_of_ble_eq_true rfl, Nat.le_of_ble_eq_true rfl⟩ rfl rfl (Nat.le_of_ble_eq_true rfl) dX6_lampCosts_31 (fun μ6 h => ?_)
      refine b_aload_n X dX6_lampCosts_34 rfl 0 rfl ?_
      refine g_6_4 X kF_0 m_f_X6_33 dX6_lampCosts_35 ?_
      refine b_iconst (v := (nI 0)) X dX6_lampCosts_38 (by decide) ?_
      refine p_4_2 X kF_31 (Or.inl rfl) m_f_X6_130 dX6_lampCosts_39 (fun μ7 eμ7 => ?_)
      replace h := h μ7 eμ7
      refine b_aload_n X dX6_lampCosts_42 rfl 0 rfl ?_
      refine b_iload_n X dX6_lampCosts_43 rfl 1 rfl ?_
      refine bVi (st := []) (nA := 1) X (c_X6_tryHours l D C ad a1 μ7 _ h) kF_0 (by decide) (enc_6 kF_0) rfl gw_X6_250 ⟨rfl, hd_X6_tryHours⟩ rfl rfl ⟨Nat.le_of_ble_eq_true rfl, Nat.le_of_ble_eq_true rfl⟩ rfl rfl (Nat.le_of_ble_eq_true rfl) dX6_lampCosts_44 (fun r8 μ9 h => ?_)
      refine b_istore_n (lv' := [(2, .int r8), (0, .ref (ad 0)), (1, .int a1)]) X dX6_lampCosts_47 rfl (by decide) rfl ?_
      refine b_aload_n X dX6_lampCosts_48 rfl 1 rfl ?_
      refine g_6_4 X kF_0 m_f_X6_33 dX6_lampCosts_49 ?_
      refine b_aload_n X dX6_lampCosts_52 rfl 1 rfl ?_
      refine g_6_3 X kF_0 m_f_X6_29 dX6_lampCosts_53 ?_
      refine bVv (st := []) (nA := 1) X (c_X4_become l D C ad 31 kF_31 25 kF_25 μ9 _ h) kF_31 (by decide) (enc_4 kF_31) rfl gw_X6_247 ⟨rfl, hd_X4_become⟩ rfl rfl ⟨Nat.le_of_ble_eq_true rfl, Nat.le_of_ble_eq_true rfl⟩ rfl rfl (Nat.le_of_ble_eq_true rfl) dX6_lampCosts_56 (fun μ11 h => ?_)
      refine b_aload_n X dX6_lampCosts_59 rfl 1 rfl ?_
      refine g_6_4 X kF_0 m_f_X6_33 dX6_lampCosts_60 ?_
      refine b_iconst (v := (nI 1)) X dX6_lampCosts_63 (by decide) ?_
      refine p_4_2 X kF_31 (Or.inr rfl) m_f_X6_130 dX6_lampCosts_64 (fun μ12 eμ12 => ?_)
      replace h := h μ12 eμ12
      refine b_iload_n X dX6_lampCosts_67 rfl 0 rfl ?_
      refine b_aload_n X dX6_lampCosts_68 rfl 1 rfl ?_
      refine b_iload_n X dX6_lampCosts_69 rfl 2 rfl ?_
      refine bVi (st := [.int r8]) (nA := 1) X (c_X6_tryHours l D C ad a1 μ12 _ h) kF_0 (by decide) (enc_6 kF_0) rfl gw_X6_250 ⟨rfl, hd_X6_tryHours⟩ rfl rfl ⟨Nat.le_of_ble_eq_true rfl, Nat.le_of_ble_eq_true rfl⟩ rfl rfl (Nat.le_of_ble_eq_true rfl) dX6_lampCosts_70 (fun r13 μ14 h => ?_)
      refine b_isub X dX6_lampCosts_73 ?_
      exact hret _ _ _ _ h dX6_lampCosts_74
    · replace h := h.2 c
      refine b_ldc (v := ((-1000000003) : Int32)) X m_k_X6_177 dX6_lampCosts_20 ?_
      exact hret _ _ _ _ h dX6_lampCosts_22
  · replace h := h.2 c
    refine b_ldc (v := ((-1000000002) : Int32)) X m_k_X6_84 dX6_lampCosts_10 ?_
    exact hret _ _ _ _ h dX6_lampCosts_12
set_option maxHeartbeats 4000000 in
set_option maxRecDepth 100000 in
theorem c_X6_thirsty (l : Launch) (D : va_G) (C : Nat → ClassId) (ad : Nat → Nat) (a1 : Int32) (μ : Mem) (Q : Int32 → Mem → Prop) (h : w_X6_thirsty a1 μ Q) : Mi sF l yX6_thirsty cX6_thirsty 4 (some .int) rm_X6_thirsty D C ad [.ref (ad 0), .int a1] μ Q := by
  refine fm_i (by decide +kernel) sF_lt (Nat.le_of_ble_eq_true rfl) (fun K X hret => ?_)
  have X : CK sF D C ad K cX6_thirsty 4 RX6 := X
  refine b_lv (lv' := [(0, .ref (ad 0)), (1, .int a1)]) rfl ?_
  unfold w_X6_thirsty at h
  have B45 : ∀ (v2 : Int32) (v3 : Int32) (μ : Mem), w_X6_thirsty_45 a1 v2 v3 μ Q → WB sF l D C ad rm_X6_thirsty K 4 μ 45 [(0, .ref (ad 0)), (1, .int a1), (2, .int v2), (3, .int v3)] [] := by
    intro v2 v3 μ h
    obtain ⟨Y45, eY⟩ : ∃ Y : Int32 → Mem → Prop, Y = fun (v3 : Int32) (μ : Mem) => WB sF l D C ad rm_X6_thirsty K 4 μ 45 [(0, .ref (ad 0)), (1, .int a1), (2, .int v2), (3, .int v3)] [] := ⟨_, rfl⟩
    have B45 : Y45 v3 μ := by
      unfold w_X6_thirsty_45 at h
      refine h Y45 ?_
      clear h
      intro v3 μ h
      unfold s_X6_thirsty_45 at h
      rw [eY]
      show WB sF l D C ad rm_X6_thirsty K 4 μ 45 [(0, .ref (ad 0)), (1, .int a1), (2, .int v2), (3, .int v3)] []
      have T45 : ∀ (v3 : Int32) (μ : Mem), Y45 v3 μ → WB sF l D C ad rm_X6_thirsty K 4 μ 45 [(0, .ref (ad 0)), (1, .int a1), (2, .int v2), (3, .int v3)] [] := by
        intro v3 μ h
        rw [eY] at h
        exact h
      clear eY
      have B132 : ∀ (μ : Mem), w_X6_thirsty_132 a1 μ Q → WB sF l D C ad rm_X6_thirsty K 4 μ 132 [(0, .ref (ad 0))] [] := by
        intro μ h
        unfold w_X6_thirsty_132 at h
        refine b_aload_n X dX6_thirsty_132 rfl 0 rfl ?_
        refine g_6_4 X kF_0 m_f_X6_33 dX6_thirsty_133 ?_
        refine g_4_0 X kF_31 m_f_X6_124 dX6_thirsty_136 ?_
        refine b_aload_n X dX6_thirsty_139 rfl 0 rfl ?_
        refine g_6_3 X kF_0 m_f_X6_29 dX6_thirsty_140 ?_
        refine g_4_0 X kF_25 m_f_X6_124 dX6_thirsty_143 ?_
        refine b_isub X dX6_thirsty_146 ?_
        exact hret _ _ _ _ h dX6_thirsty_147
      refine b_iload_n X dX6_thirsty_45 rfl 3 rfl ?_
      refine b_sipush (v := (nI 720)) X dX6_thirsty_46 (by decide) ?_
      refine b_icmp_ge (t := 154) X dX6_thirsty_49 (by decide) (fun c => ?_) (fun c => ?_)
      · replace h := h.1 c
        refine b_iconst (v := ((-1) : Int32)) X dX6_thirsty_154 (by decide) ?_
        exact hret _ _ _ _ h dX6_thirsty_155
      · replace h := h.2 c
        refine b_aload_n X dX6_thirsty_52 rfl 0 rfl ?_
        refine g_6_4 X kF_0 m_f_X6_33 dX6_thirsty_53 ?_
        refine g_4_0 X kF_31 m_f_X6_124 dX6_thirsty_56 ?_
        refine b_aload_n X dX6_thirsty_59 rfl 0 rfl ?_
        refine g_6_3 X kF_0 m_f_X6_29 dX6_thirsty_60 ?_
        refine g_4_0 X kF_25 m_f_X6_124 dX6_thirsty_63 ?_
        refine b_isub X dX6_thirsty_66 ?_
        refine b_bipush (v := (nI 60)) X dX6_thirsty_67 (by decide) ?_
        refine b_icmp_ge (t := 154) X dX6_thirsty_69 (by decide) (fun c => ?_) (fun c => ?_)
        · replace h := h.1 c
          refine b_iconst (v := ((-1) : Int32)) X dX6_thirsty_154 (by decide) ?_
          exact hret _ _ _ _ h dX6_thirsty_155
        · replace h := h.2 c
          refine b_aload_n X dX6_thirsty_72 rfl 0 rfl ?_
          refine g_6_4 X kF_0 m_f_X6_33 dX6_thirsty_73 ?_
          refine b_aload_n X dX6_thirsty_76 rfl 0 rfl ?_
          refine g_6_1 X kF_0 m_f_X6_19 dX6_thirsty_77 ?_
          refine b_wf (fun hf9 => ?_)
          refine b_aload_n X dX6_thirsty_80 rfl 0 rfl ?_
          refine g_6_6 X kF_0 m_f_X6_43 dX6_thirsty_81 ?_
          refine b_aload_n X dX6_thirsty_84 rfl 0 rfl ?_
          refine g_6_1 X kF_0 m_f_X6_19 dX6_thirsty_85 ?_
          refine b_wf (fun hf10 => ?_)
          refine b_aload_n X dX6_thirsty_88 rfl 0 rfl ?_
          refine g_6_4 X kF_0 m_f_X6_33 dX6_thirsty_89 ?_
          refine g_4_1 X kF_31 m_f_X6_127 dX6_thirsty_92 ?_
          refine bVi (st := [.ref (ad 38), .ref (ad (μ.2.2 0)), .ref (ad 31)]) (nA := 1) X (c_X0_sideAt l D C ad (μ.2.2 0) (hf10 kF_0).1 (μ.1 31 1) μ _ h) (hf10 kF_0).1 (by decide) (enc_0 (hf10 kF_0).1) rfl gw_X6_178 ⟨rfl, hd_X0_sideAt⟩ rfl rfl ⟨Nat.le_of_ble_eq_true rfl, Nat.le_of_ble_eq_true rfl⟩ rfl rfl (Nat.le_of_ble_eq_true rfl) dX6_thirsty_95 (fun r11 μ12 h => ?_)
          obtain ⟨rfl, h⟩ := h
          refine b_aload_n X dX6_thirsty_98 rfl 0 rfl ?_
          refine g_6_1 X kF_0 m_f_X6_19 dX6_thirsty_99 ?_
          refine b_wf (fun hf13 => ?_)
          refine b_aload_n X dX6_thirsty_102 rfl 0 rfl ?_
          refine g_6_4 X kF_0 m_f_X6_33 dX6_thirsty_103 ?_
          refine g_4_1 X kF_31 m_f_X6_127 dX6_thirsty_106 ?_
          refine bVi (st := [.int r11, .ref (ad 38), .ref (ad (μ.2.2 0)), .ref (ad 31)]) (nA := 1) X (c_X0_fogAt l D C ad (μ.2.2 0) (hf13 kF_0).1 (μ.1 31 1) μ _ h) (hf13 kF_0).1 (by decide) (enc_0 (hf13 kF_0).1) rfl gw_X6_181 ⟨rfl, hd_X0_fogAt⟩ rfl rfl ⟨Nat.le_of_ble_eq_true rfl, Nat.le_of_ble_eq_true rfl⟩ rfl rfl (Nat.le_of_ble_eq_true rfl) dX6_thirsty_109 (fun r14 μ15 h => ?_)
          obtain ⟨rfl, h⟩ := h
          refine b_iconst (v := (nI 1)) X dX6_thirsty_112 (by decide) ?_
          refine bVi (st := []) (nA := 5) X (c_X4_passHour l D C ad 31 kF_31 (μ.2.2 0) (hf9 kF_0).1 r11 r14 (nI 1) μ _ h) kF_31 (by decide) (enc_4 kF_31) rfl gw_X6_215 ⟨rfl, hd_X4_passHour⟩ rfl rfl ⟨Nat.le_of_ble_eq_true rfl, Nat.le_of_ble_eq_true rfl⟩ rfl rfl (Nat.le_of_ble_eq_true rfl) dX6_thirsty_113 (fun r16 μ17 h => ?_)
          refine b_pop X dX6_thirsty_116 rfl ?_
          refine b_aload_n X dX6_thirsty_117 rfl 0 rfl ?_
          refine g_6_4 X kF_0 m_f_X6_33 dX6_thirsty_118 ?_
          refine g_4_9 X kF_31 m_f_X6_196 dX6_thirsty_121 ?_
          refine b_iload_n X dX6_thirsty_124 rfl 1 rfl ?_
          refine bSi (st := []) (nA := 2) X (c_X6_at l D C ad (31 + 5) (st_k5 kF_31) a1 μ17 _ h) gw_X6_154 hd_X6_at rfl rfl ⟨Nat.le_of_ble_eq_true rfl, Nat.le_of_ble_eq_true rfl⟩ rfl rfl (Nat.le_of_ble_eq_true rfl) dX6_thirsty_125 (fun r18 μ19 h => ?_)
          obtain ⟨rfl, h⟩ := h
          refine b_iload_n X dX6_thirsty_128 rfl 2 rfl ?_
          refine b_icmp_le (t := 148) X dX6_thirsty_129 (by decide) (fun c => ?_) (fun c => ?_)
          · replace h := h.1 c
            obtain ⟨x20, ex20⟩ : ∃ y : Int32, y = v3 + (nI 1) := ⟨_, rfl⟩
            replace h := h x20 ex20
            refine b_iinc (x := x20) (lv' := [(3, .int x20), (0, .ref (ad 0)), (1, .int a1), (2, .int v2)]) (q := 3) X dX6_thirsty_148 rfl (by rw [ex20]; rfl) (by decide) rfl ?_
            refine b_goto (t := 45) X dX6_thirsty_151 (by decide) ?_
            refine b_sub (lv' := [(0, .ref (ad 0)), (1, .int a1), (2, .int v2), (3, .int x20)]) [1, 2, 3, 0] rfl ?_
            exact T45 x20 μ17 h
          · replace h := h.2 c
            refine b_sub (lv' := [(0, .ref (ad 0))]) [0] rfl ?_
            exact B132 μ17 h
    rw [eY] at B45
    exact B45
  refine b_iload_n X dX6_thirsty_0 rfl 1 rfl ?_
  refine bSi (st := []) (nA := 1) X (c_X6_isVillage l D C ad a1 μ _ h) gw_X6_184 hd_X6_isVillage rfl rfl ⟨Nat.le_of_ble_eq_true rfl, Nat.le_of_ble_eq_true rfl⟩ rfl rfl (Nat.le_of_ble_eq_true rfl) dX6_thirsty_1 (fun r1 μ2 h => ?_)
  obtain ⟨rfl, h⟩ := h
  refine b_if_ne (t := 10) X dX6_thirsty_4 (by decide) (fun c => ?_) (fun c => ?_)
  · replace h := h.1 c
    refine b_aload_n X dX6_thirsty_10 rfl 0 rfl ?_
    refine bVi (st := []) (nA := 0) X (c_X6_isBare l D C ad  μ _ h) kF_0 (by decide) (enc_6 kF_0) rfl gw_X6_173 ⟨rfl, hd_X6_isBare⟩ rfl rfl ⟨Nat.le_of_ble_eq_true rfl, Nat.le_of_ble_eq_true rfl⟩ rfl rfl (Nat.le_of_ble_eq_true rfl) dX6_thirsty_11 (fun r3 μ4 h => ?_)
    obtain ⟨rfl, h⟩ := h
    refine b_if_eq (t := 20) X dX6_thirsty_14 (by decide) (fun c => ?_) (fun c => ?_)
    · replace h := h.1 c
      refine b_aload_n X dX6_thirsty_20 rfl 0 rfl ?_
      refine g_6_4 X kF_0 m_f_X6_33 dX6_thirsty_21 ?_
      refine b_aload_n X dX6_thirsty_24 rfl 0 rfl ?_
      refine g_6_3 X kF_0 m_f_X6_29 dX6_thirsty_25 ?_
      refine bVv (st := []) (nA := 1) X (c_X4_become l D C ad 31 kF_31 25 kF_25 μ _ h) kF_31 (by decide) (enc_4 kF_31) rfl gw_X6_247 ⟨rfl, hd_X4_become⟩ rfl rfl ⟨Nat.le_of_ble_eq_true rfl, Nat.le_of_ble_eq_true rfl⟩ rfl rfl (Nat.le_of_ble_eq_true rfl) dX6_thirsty_28 (fun μ6 h => ?_)
      refine b_aload_n X dX6_thirsty_31 rfl 0 rfl ?_
      refine g_6_3 X kF_0 m_f_X6_29 dX6_thirsty_32 ?_
      refine g_4_9 X kF_25 m_f_X6_196 dX6_thirsty_35 ?_
      refine b_iload_n X dX6_thirsty_38 rfl 1 rfl ?_
      refine bSi (st := []) (nA := 2) X (c_X6_at l D C ad (25 + 5) (st_k5 kF_25) a1 μ6 _ h) gw_X6_154 hd_X6_at rfl rfl ⟨Nat.le_of_ble_eq_true rfl, Nat.le_of_ble_eq_true rfl⟩ rfl rfl (Nat.le_of_ble_eq_true rfl) dX6_thirsty_39 (fun r7 μ8 h => ?_)
      obtain ⟨rfl, h⟩ := h
      refine b_istore_n (lv' := [(2, .int r7), (0, .ref (ad 0)), (1, .int a1)]) X dX6_thirsty_42 rfl (by decide) rfl ?_
      refine b_iconst (v := (nI 0)) X dX6_thirsty_43 (by decide) ?_
      refine b_istore_n (lv' := [(3, .int (nI 0)), (2, .int r7), (0, .ref (ad 0)), (1, .int a1)]) X dX6_thirsty_44 rfl (by decide) rfl ?_
      refine b_sub (lv' := [(0, .ref (ad 0)), (1, .int a1), (2, .int r7), (3, .int (nI 0))]) [2, 3, 1, 0] rfl ?_
      exact B45 r7 (nI 0) μ6 h
    · replace h := h.2 c
      refine b_ldc (v := ((-1000000003) : Int32)) X m_k_X6_177 dX6_thirsty_17 ?_
      exact hret _ _ _ _ h dX6_thirsty_19
  · replace h := h.2 c
    refine b_ldc (v := ((-1000000001) : Int32)) X m_k_X6_150 dX6_thirsty_7 ?_
    exact hret _ _ _ _ h dX6_thirsty_9
set_option maxHeartbeats 4000000 in
set_option maxRecDepth 100000 in
theorem c_X6_lasts (l : Launch) (D : va_G) (C : Nat → ClassId) (ad : Nat → Nat) (a1 : Int32) (μ : Mem) (Q : Int32 → Prop) (h : w_X6_lasts a1 μ Q) : Mi sF l yX6_lasts cX6_lasts 3 (some .int) rm_X6_lasts D C ad [.ref (ad 0), .int a1] μ (fun r μ' => μ = μ' ∧ Q r) := by
  refine fm_i (by decide +kernel) sF_lt (Nat.le_of_ble_eq_true rfl) (fun K X hret => ?_)
  have X : CK sF D C ad K cX6_lasts 3 RX6 := X
  refine b_lv (lv' := [(0, .ref (ad 0)), (1, .int a1)]) rfl ?_
  unfold w_X6_lasts at h
  refine b_iload_n X dX6_lasts_0 rfl 1 rfl ?_
  refine bSi (st := []) (nA := 1) X (c_X6_isVillage l D C ad a1 μ _ h) gw_X6_184 hd_X6_isVillage rfl rfl ⟨Nat.le_of_ble_eq_true rfl, Nat.le_of_ble_eq_true rfl⟩ rfl rfl (Nat.le_of_ble_eq_true rfl) dX6_lasts_1 (fun r1 μ2 h => ?_)
  obtain ⟨rfl, h⟩ := h
  refine b_if_ne (t := 10) X dX6_lasts_4 (by decide) (fun c => ?_) (fun c => ?_)
  · replace h := h.1 c
    refine b_aload_n X dX6_lasts_10 rfl 0 rfl ?_
    refine g_6_1 X kF_0 m_f_X6_19 dX6_lasts_11 ?_
    refine b_wf (fun hf3 => ?_)
    refine g_0_12 X (hf3 kF_0).1 m_f_X6_190 dX6_lasts_14 ?_
    refine b_iload_n X dX6_lasts_17 rfl 1 rfl ?_
    refine bSi (st := []) (nA := 2) X (c_X6_at l D C ad ((μ.2.2 0) + 8) (co_k8 (hf3 kF_0).1) a1 μ _ h) gw_X6_154 hd_X6_at rfl rfl ⟨Nat.le_of_ble_eq_true rfl, Nat.le_of_ble_eq_true rfl⟩ rfl rfl (Nat.le_of_ble_eq_true rfl) dX6_lasts_18 (fun r4 μ5 h => ?_)
    obtain ⟨rfl, h⟩ := h
    refine b_istore_n (lv' := [(2, .int r4), (0, .ref (ad 0)), (1, .int a1)]) X dX6_lasts_21 rfl (by decide) rfl ?_
    refine b_iload_n X dX6_lasts_22 rfl 0 rfl ?_
    refine b_if_gt (t := 30) X dX6_lasts_23 (by decide) (fun c => ?_) (fun c => ?_)
    · replace h := h.1 c
      refine b_aload_n X dX6_lasts_30 rfl 1 rfl ?_
      refine g_6_3 X kF_0 m_f_X6_29 dX6_lasts_31 ?_
      refine g_4_8 X kF_25 m_f_X6_193 dX6_lasts_34 ?_
      refine b_iload_n X dX6_lasts_37 rfl 2 rfl ?_
      refine bSi (st := []) (nA := 2) X (c_X6_at l D C ad (25 + 4) (st_k4 kF_25) a1 μ _ h) gw_X6_154 hd_X6_at rfl rfl ⟨Nat.le_of_ble_eq_true rfl, Nat.le_of_ble_eq_true rfl⟩ rfl rfl (Nat.le_of_ble_eq_true rfl) dX6_lasts_38 (fun r6 μ7 h => ?_)
      obtain ⟨rfl, h⟩ := h
      refine b_iload_n X dX6_lasts_41 rfl 0 rfl ?_
      have hz := h.1
      replace h := h.2
      refine b_idiv X dX6_lasts_42 hz ?_
      clear hz
      refine b_sipush (v := (nI 999)) X dX6_lasts_43 (by decide) ?_
      refine b_mmin X m_m_X6_269 m_s_mmin m_n_J9 m_c_mmin (Nat.le_of_ble_eq_true rfl) (Nat.le_of_ble_eq_true rfl) dX6_lasts_46 ?_
      refine b_topi (fun x8 ex8 => ?_)
      replace h := h x8 ex8
      exact hret _ _ _ _ ⟨rfl, h⟩ dX6_lasts_49
    · replace h := h.2 c
      refine b_sipush (v := (nI 999)) X dX6_lasts_26 (by decide) ?_
      exact hret _ _ _ _ ⟨rfl, h⟩ dX6_lasts_29
  · replace h := h.2 c
    refine b_ldc (v := ((-1000000001) : Int32)) X m_k_X6_150 dX6_lasts_7 ?_
    exact hret _ _ _ _ ⟨rfl, h⟩ dX6_lasts_9
set_option maxHeartbeats 4000000 in
set_option maxRecDepth 100000 in
theorem c_X6_both (l : Launch) (D : va_G) (C : Nat → ClassId) (ad : Nat → Nat)  (μ : Mem) (Q : Int32 → Prop) (h : w_X6_both  μ Q) : Mi sF l yX6_both cX6_both 2 (some .int) rm_X6_both D C ad [.ref (ad 0)] μ (fun r μ' => μ = μ' ∧ Q r) := by
  refine fm_i (by decide +kernel) sF_lt (Nat.le_of_ble_eq_true rfl) (fun K X hret => ?_)
  have X : CK sF D C ad K cX6_both 2 RX6 := X
  refine b_lv (lv' := [(0, .ref (ad 0))]) rfl ?_
  unfold w_X6_both at h
  have B12 : ∀ (v1 : Int32), w_X6_both_12 v1 μ Q → WB sF l D C ad rm_X6_both K 2 μ 12 [(0, .ref (ad 0)), (1, .int v1)] [] := by
    intro v1 h
    obtain ⟨Y12, eY⟩ : ∃ Y : Int32 → Prop, Y = fun (v1 : Int32) => WB sF l D C ad rm_X6_both K 2 μ 12 [(0, .ref (ad 0)), (1, .int v1)] [] := ⟨_, rfl⟩
    have B12 : Y12 v1 := by
      unfold w_X6_both_12 at h
      refine h Y12 ?_
      clear h
      intro v1 h
      unfold s_X6_both_12 at h
      rw [eY]
      show WB sF l D C ad rm_X6_both K 2 μ 12 [(0, .ref (ad 0)), (1, .int v1)] []
      have T12 : ∀ (v1 : Int32), Y12 v1 → WB sF l D C ad rm_X6_both K 2 μ 12 [(0, .ref (ad 0)), (1, .int v1)] [] := by
        intro v1 h
        rw [eY] at h
        exact h
      clear eY
      have B60 : ∀ (v1 : Int32), w_X6_both_60 Y12 v1 μ Q → WB sF l D C ad rm_X6_both K 2 μ 60 [(0, .ref (ad 0)), (1, .int v1)] [] := by
        intro v1 h
        unfold w_X6_both_60 at h
        obtain ⟨x9, ex9⟩ : ∃ y : Int32, y = v1 + (nI 1) := ⟨_, rfl⟩
        replace h := h x9 ex9
        refine b_iinc (x := x9) (lv' := [(1, .int x9), (0, .ref (ad 0))]) (q := 1) X dX6_both_60 rfl (by rw [ex9]; rfl) (by decide) rfl ?_
        refine b_goto (t := 12) X dX6_both_63 (by decide) ?_
        refine b_sub (lv' := [(0, .ref (ad 0)), (1, .int x9)]) [1, 0] rfl ?_
        exact T12 x9 h
      refine b_iload_n X dX6_both_12 rfl 1 rfl ?_
      refine b_bipush (v := (nI 7)) X dX6_both_13 (by decide) ?_
      refine b_icmp_ge (t := 66) X dX6_both_15 (by decide) (fun c => ?_) (fun c => ?_)
      · replace h := h.1 c
        refine b_iconst (v := ((-1) : Int32)) X dX6_both_66 (by decide) ?_
        exact hret _ _ _ _ ⟨rfl, h⟩ dX6_both_67
      · replace h := h.2 c
        refine b_aload_n X dX6_both_18 rfl 0 rfl ?_
        refine g_6_1 X kF_0 m_f_X6_19 dX6_both_19 ?_
        refine b_wf (fun hf3 => ?_)
        refine b_iconst (v := (nI 0)) X dX6_both_22 (by decide) ?_
        refine b_aload_n X dX6_both_23 rfl 0 rfl ?_
        refine g_6_3 X kF_0 m_f_X6_29 dX6_both_24 ?_
        refine g_4_0 X kF_25 m_f_X6_124 dX6_both_27 ?_
        refine b_iload_n X dX6_both_30 rfl 1 rfl ?_
        refine b_iadd X dX6_both_31 ?_
        refine bVi (st := []) (nA := 2) X (c_X0_hangsOn l D C ad (μ.2.2 0) (hf3 kF_0).1 (nI 0) ((μ.1 25 0) + v1) μ _ h) (hf3 kF_0).1 (by decide) (enc_0 (hf3 kF_0).1) rfl gw_X6_274 ⟨rfl, hd_X0_hangsOn⟩ rfl rfl ⟨Nat.le_of_ble_eq_true rfl, Nat.le_of_ble_eq_true rfl⟩ rfl rfl (Nat.le_of_ble_eq_true rfl) dX6_both_32 (fun r4 μ5 h => ?_)
        obtain ⟨rfl, h⟩ := h
        refine b_if_eq (t := 60) X dX6_both_35 (by decide) (fun c => ?_) (fun c => ?_)
        · replace h := h.1 c
          refine b_sub (lv' := [(0, .ref (ad 0)), (1, .int v1)]) [0, 1] rfl ?_
          exact B60 v1 h
        · replace h := h.2 c
          refine b_aload_n X dX6_both_38 rfl 0 rfl ?_
          refine g_6_1 X kF_0 m_f_X6_19 dX6_both_39 ?_
          refine b_wf (fun hf6 => ?_)
          refine b_iconst (v := (nI 1)) X dX6_both_42 (by decide) ?_
          refine b_aload_n X dX6_both_43 rfl 0 rfl ?_
          refine g_6_3 X kF_0 m_f_X6_29 dX6_both_44 ?_
          refine g_4_0 X kF_25 m_f_X6_124 dX6_both_47 ?_
          refine b_iload_n X dX6_both_50 rfl 1 rfl ?_
          refine b_iadd X dX6_both_51 ?_
          refine bVi (st := []) (nA := 2) X (c_X0_hangsOn l D C ad (μ.2.2 0) (hf6 kF_0).1 (nI 1) ((μ.1 25 0) + v1) μ _ h) (hf6 kF_0).1 (by decide) (enc_0 (hf6 kF_0).1) rfl gw_X6_274 ⟨rfl, hd_X0_hangsOn⟩ rfl rfl ⟨Nat.le_of_ble_eq_true rfl, Nat.le_of_ble_eq_true rfl⟩ rfl rfl (Nat.le_of_ble_eq_true rfl) dX6_both_52 (fun r7 μ8 h => ?_)
          obtain ⟨rfl, h⟩ := h
          refine b_if_eq (t := 60) X dX6_both_55 (by decide) (fun c => ?_) (fun c => ?_)
          · replace h := h.1 c
            refine b_sub (lv' := [(0, .ref (ad 0)), (1, .int v1)]) [0, 1] rfl ?_
            exact B60 v1 h
          · replace h := h.2 c
            refine b_iload_n X dX6_both_58 rfl 1 rfl ?_
            exact hret _ _ _ _ ⟨rfl, h⟩ dX6_both_59
    rw [eY] at B12
    exact B12
  refine b_aload_n X dX6_both_0 rfl 0 rfl ?_
  refine bVi (st := []) (nA := 0) X (c_X6_isBare l D C ad  μ _ h) kF_0 (by decide) (enc_6 kF_0) rfl gw_X6_173 ⟨rfl, hd_X6_isBare⟩ rfl rfl ⟨Nat.le_of_ble_eq_true rfl, Nat.le_of_ble_eq_true rfl⟩ rfl rfl (Nat.le_of_ble_eq_true rfl) dX6_both_1 (fun r1 μ2 h => ?_)
  obtain ⟨rfl, h⟩ := h
  refine b_if_eq (t := 10) X dX6_both_4 (by decide) (fun c => ?_) (fun c => ?_)
  · replace h := h.1 c
    refine b_iconst (v := (nI 0)) X dX6_both_10 (by decide) ?_
    refine b_istore_n (lv' := [(1, .int (nI 0)), (0, .ref (ad 0))]) X dX6_both_11 rfl (by decide) rfl ?_
    refine b_sub (lv' := [(0, .ref (ad 0)), (1, .int (nI 0))]) [1, 0] rfl ?_
    exact B12 (nI 0) h
  · replace h := h.2 c
    refine b_ldc (v := ((-1000000003) : Int32)) X m_k_X6_177 dX6_both_7 ?_
    exact hret _ _ _ _ ⟨rfl, h⟩ dX6_both_9
set_option maxHeartbeats 4000000 in
set_option maxRecDepth 100000 in
theorem c_X6_apart (l : Launch) (D : va_G) (C : Nat → ClassId) (ad : Nat → Nat) (a1 : Int32) (μ : Mem) (Q : Int32 → Prop) (h : w_X6_apart a1 μ Q) : Mi sF l yX6_apart cX6_apart 4 (some .int) rm_X6_apart D C ad [.ref (ad 0), .int a1] μ (fun r μ' => μ = μ' ∧ Q r) := by
  refine fm_i (by decide +kernel) sF_lt (Nat.le_of_ble_eq_true rfl) (fun K X hret => ?_)
  have X : CK sF D C ad K cX6_apart 4 RX6 := X
  refine b_lv (lv' := [(0, .ref (ad 0)), (1, .int a1)]) rfl ?_
  unfold w_X6_apart at h
  have B27 : ∀ (v2 : Int32) (v3 : Int32), w_X6_apart_27 a1 v2 v3 μ Q → WB sF l D C ad rm_X6_apart K 4 μ 27 [(0, .ref (ad 0)), (1, .int a1), (2, .int v2), (3, .int v3)] [] := by
    intro v2 v3 h
    obtain ⟨Y27, eY⟩ : ∃ Y : Int32 → Int32 → Prop, Y = fun (v2 : Int32) (v3 : Int32) => WB sF l D C ad rm_X6_apart K 4 μ 27 [(0, .ref (ad 0)), (1, .int a1), (2, .int v2), (3, .int v3)] [] := ⟨_, rfl⟩
    have B27 : Y27 v2 v3 := by
      unfold w_X6_apart_27 at h
      refine h Y27 ?_
      clear h
      intro v2 v3 h
      unfold s_X6_apart_27 at h
      rw [eY]
      show WB sF l D C ad rm_X6_apart K 4 μ 27 [(0, .ref (ad 0)), (1, .int a1), (2, .int v2), (3, .int v3)] []
      have T27 : ∀ (v2 : Int32) (v3 : Int32), Y27 v2 v3 → WB sF l D C ad rm_X6_apart K 4 μ 27 [(0, .ref (ad 0)), (1, .int a1), (2, .int v2), (3, .int v3)] [] := by
        intro v2 v3 h
        rw [eY] at h
        exact h
      clear eY
      have B72 : ∀ (v2 : Int32) (v3 : Int32), w_X6_apart_72 a1 Y27 v2 v3 μ Q → WB sF l D C ad rm_X6_apart K 4 μ 72 [(0, .ref (ad 0)), (1, .int a1), (2, .int v2), (3, .int v3)] [] := by
        intro v2 v3 h
        unfold w_X6_apart_72 at h
        obtain ⟨x12, ex12⟩ : ∃ y : Int32, y = v3 + (nI 1) := ⟨_, rfl⟩
        replace h := h x12 ex12
        refine b_iinc (x := x12) (lv' := [(3, .int x12), (0, .ref (ad 0)), (1, .int a1), (2, .int v2)]) (q := 3) X dX6_apart_72 rfl (by rw [ex12]; rfl) (by decide) rfl ?_
        refine b_goto (t := 27) X dX6_apart_75 (by decide) ?_
        refine b_sub (lv' := [(0, .ref (ad 0)), (1, .int a1), (2, .int v2), (3, .int x12)]) [1, 2, 3, 0] rfl ?_
        exact T27 v2 x12 h
      refine b_iload_n X dX6_apart_27 rfl 3 rfl ?_
      refine b_iload_n X dX6_apart_28 rfl 1 rfl ?_
      refine b_icmp_ge (t := 78) X dX6_apart_29 (by decide) (fun c => ?_) (fun c => ?_)
      · replace h := h.1 c
        refine b_iload_n X dX6_apart_78 rfl 2 rfl ?_
        exact hret _ _ _ _ ⟨rfl, h⟩ dX6_apart_79
      · replace h := h.2 c
        refine b_aload_n X dX6_apart_32 rfl 0 rfl ?_
        refine g_6_1 X kF_0 m_f_X6_19 dX6_apart_33 ?_
        refine b_wf (fun hf5 => ?_)
        refine b_iconst (v := (nI 0)) X dX6_apart_36 (by decide) ?_
        refine b_aload_n X dX6_apart_37 rfl 0 rfl ?_
        refine g_6_3 X kF_0 m_f_X6_29 dX6_apart_38 ?_
        refine g_4_0 X kF_25 m_f_X6_124 dX6_apart_41 ?_
        refine b_iload_n X dX6_apart_44 rfl 3 rfl ?_
        refine b_iadd X dX6_apart_45 ?_
        refine bVi (st := []) (nA := 2) X (c_X0_hangsOn l D C ad (μ.2.2 0) (hf5 kF_0).1 (nI 0) ((μ.1 25 0) + v3) μ _ h) (hf5 kF_0).1 (by decide) (enc_0 (hf5 kF_0).1) rfl gw_X6_274 ⟨rfl, hd_X0_hangsOn⟩ rfl rfl ⟨Nat.le_of_ble_eq_true rfl, Nat.le_of_ble_eq_true rfl⟩ rfl rfl (Nat.le_of_ble_eq_true rfl) dX6_apart_46 (fun r6 μ7 h => ?_)
        obtain ⟨rfl, h⟩ := h
        refine b_aload_n X dX6_apart_49 rfl 0 rfl ?_
        refine g_6_1 X kF_0 m_f_X6_19 dX6_apart_50 ?_
        refine b_wf (fun hf8 => ?_)
        refine b_iconst (v := (nI 1)) X dX6_apart_53 (by decide) ?_
        refine b_aload_n X dX6_apart_54 rfl 0 rfl ?_
        refine g_6_3 X kF_0 m_f_X6_29 dX6_apart_55 ?_
        refine g_4_0 X kF_25 m_f_X6_124 dX6_apart_58 ?_
        refine b_iload_n X dX6_apart_61 rfl 3 rfl ?_
        refine b_iadd X dX6_apart_62 ?_
        refine bVi (st := [.int r6]) (nA := 2) X (c_X0_hangsOn l D C ad (μ.2.2 0) (hf8 kF_0).1 (nI 1) ((μ.1 25 0) + v3) μ _ h) (hf8 kF_0).1 (by decide) (enc_0 (hf8 kF_0).1) rfl gw_X6_274 ⟨rfl, hd_X0_hangsOn⟩ rfl rfl ⟨Nat.le_of_ble_eq_true rfl, Nat.le_of_ble_eq_true rfl⟩ rfl rfl (Nat.le_of_ble_eq_true rfl) dX6_apart_63 (fun r9 μ10 h => ?_)
        obtain ⟨rfl, h⟩ := h
        refine b_icmp_eq (t := 72) X dX6_apart_66 (by decide) (fun c => ?_) (fun c => ?_)
        · replace h := h.1 c
          refine b_sub (lv' := [(0, .ref (ad 0)), (1, .int a1), (2, .int v2), (3, .int v3)]) [0, 1, 2, 3] rfl ?_
          exact B72 v2 v3 h
        · replace h := h.2 c
          obtain ⟨x11, ex11⟩ : ∃ y : Int32, y = v2 + (nI 1) := ⟨_, rfl⟩
          replace h := h x11 ex11
          refine b_iinc (x := x11) (lv' := [(2, .int x11), (0, .ref (ad 0)), (1, .int a1), (3, .int v3)]) (q := 2) X dX6_apart_69 rfl (by rw [ex11]; rfl) (by decide) rfl ?_
          refine b_sub (lv' := [(0, .ref (ad 0)), (1, .int a1), (2, .int x11), (3, .int v3)]) [1, 2, 0, 3] rfl ?_
          exact B72 x11 v3 h
    rw [eY] at B27
    exact B27
  refine b_iload_n X dX6_apart_0 rfl 1 rfl ?_
  refine b_iconst (v := (nI 0)) X dX6_apart_1 (by decide) ?_
  refine b_bipush (v := (nI 99)) X dX6_apart_2 (by decide) ?_
  refine bSi (st := []) (nA := 3) X (c_X6_within l D C ad a1 (nI 0) (nI 99) μ _ h) gw_X6_80 hd_X6_within rfl rfl ⟨Nat.le_of_ble_eq_true rfl, Nat.le_of_ble_eq_true rfl⟩ rfl rfl (Nat.le_of_ble_eq_true rfl) dX6_apart_4 (fun r1 μ2 h => ?_)
  obtain ⟨rfl, h⟩ := h
  refine b_if_ne (t := 13) X dX6_apart_7 (by decide) (fun c => ?_) (fun c => ?_)
  · replace h := h.1 c
    refine b_aload_n X dX6_apart_13 rfl 0 rfl ?_
    refine bVi (st := []) (nA := 0) X (c_X6_isBare l D C ad  μ _ h) kF_0 (by decide) (enc_6 kF_0) rfl gw_X6_173 ⟨rfl, hd_X6_isBare⟩ rfl rfl ⟨Nat.le_of_ble_eq_true rfl, Nat.le_of_ble_eq_true rfl⟩ rfl rfl (Nat.le_of_ble_eq_true rfl) dX6_apart_14 (fun r3 μ4 h => ?_)
    obtain ⟨rfl, h⟩ := h
    refine b_if_eq (t := 23) X dX6_apart_17 (by decide) (fun c => ?_) (fun c => ?_)
    · replace h := h.1 c
      refine b_iconst (v := (nI 0)) X dX6_apart_23 (by decide) ?_
      refine b_istore_n (lv' := [(2, .int (nI 0)), (0, .ref (ad 0)), (1, .int a1)]) X dX6_apart_24 rfl (by decide) rfl ?_
      refine b_iconst (v := (nI 0)) X dX6_apart_25 (by decide) ?_
      refine b_istore_n (lv' := [(3, .int (nI 0)), (2, .int (nI 0)), (0, .ref (ad 0)), (1, .int a1)]) X dX6_apart_26 rfl (by decide) rfl ?_
      refine b_sub (lv' := [(0, .ref (ad 0)), (1, .int a1), (2, .int (nI 0)), (3, .int (nI 0))]) [2, 3, 1, 0] rfl ?_
      exact B27 (nI 0) (nI 0) h
    · replace h := h.2 c
      refine b_ldc (v := ((-1000000003) : Int32)) X m_k_X6_177 dX6_apart_20 ?_
      exact hret _ _ _ _ ⟨rfl, h⟩ dX6_apart_22
  · replace h := h.2 c
    refine b_ldc (v := ((-1000000002) : Int32)) X m_k_X6_84 dX6_apart_10 ?_
    exact hret _ _ _ _ ⟨rfl, h⟩ dX6_apart_12
set_option maxHeartbeats 4000000 in
set_option maxRecDepth 100000 in
theorem c_J6_bitCount_0f7a4 (l : Launch) (D : va_G) (C : Nat → ClassId) (ad : Nat → Nat) (a0 : Int32) (μ : Mem) (Q : Int32 → Prop) (h : w_J6_bitCount_0f7a4 a0 μ Q) : Mi sF l yJ6_bitCount_0f7a4 cJ6_bitCount_0f7a4 1 (some .int) rm_J6_bitCount_0f7a4 D C ad [.int a0] μ (fun r μ' => μ = μ' ∧ Q r) := by
  refine fm_i (by decide +kernel) sF_lt (Nat.le_of_ble_eq_true rfl) (fun K X hret => ?_)
  have X : CK sF D C ad K cJ6_bitCount_0f7a4 1 RJ6 := X
  refine b_lv (lv' := [(0, .int a0)]) rfl ?_
  unfold w_J6_bitCount_0f7a4 at h
  refine b_iload_n X dJ6_bitCount_0f7a4_0 rfl 0 rfl ?_
  refine b_iload_n X dJ6_bitCount_0f7a4_1 rfl 0 rfl ?_
  refine b_iconst (v := (nI 1)) X dJ6_bitCount_0f7a4_2 (by decide) ?_
  refine b_iushr X dJ6_bitCount_0f7a4_3 ?_
  refine b_topi (fun x1 ex1 => ?_)
  replace h := h x1 ex1
  refine b_ldcw (v := (nI 1431655765)) X m_k_J6_265 dJ6_bitCount_0f7a4_4 ?_
  refine b_iand X dJ6_bitCount_0f7a4_7 ?_
  refine b_isub X dJ6_bitCount_0f7a4_8 ?_
  refine b_topi (fun x2 ex2 => ?_)
  replace h := h x2 ex2
  refine b_istore_n (lv' := [(0, .int x2)]) X dJ6_bitCount_0f7a4_9 rfl (by decide) rfl ?_
  refine b_iload_n X dJ6_bitCount_0f7a4_10 rfl 0 rfl ?_
  refine b_ldcw (v := (nI 858993459)) X m_k_J6_266 dJ6_bitCount_0f7a4_11 ?_
  refine b_iand X dJ6_bitCount_0f7a4_14 ?_
  refine b_iload_n X dJ6_bitCount_0f7a4_15 rfl 0 rfl ?_
  refine b_iconst (v := (nI 2)) X dJ6_bitCount_0f7a4_16 (by decide) ?_
  refine b_iushr X dJ6_bitCount_0f7a4_17 ?_
  refine b_topi (fun x3 ex3 => ?_)
  replace h := h x3 ex3
  refine b_ldcw (v := (nI 858993459)) X m_k_J6_266 dJ6_bitCount_0f7a4_18 ?_
  refine b_iand X dJ6_bitCount_0f7a4_21 ?_
  refine b_iadd X dJ6_bitCount_0f7a4_22 ?_
  refine b_topi (fun x4 ex4 => ?_)
  replace h := h x4 ex4
  refine b_istore_n (lv' := [(0, .int x4)]) X dJ6_bitCount_0f7a4_23 rfl (by decide) rfl ?_
  refine b_iload_n X dJ6_bitCount_0f7a4_24 rfl 0 rfl ?_
  refine b_iload_n X dJ6_bitCount_0f7a4_25 rfl 0 rfl ?_
  refine b_iconst (v := (nI 4)) X dJ6_bitCount_0f7a4_26 (by decide) ?_
  refine b_iushr X dJ6_bitCount_0f7a4_27 ?_
  refine b_topi (fun x5 ex5 => ?_)
  replace h := h x5 ex5
  refine b_iadd X dJ6_bitCount_0f7a4_28 ?_
  refine b_ldcw (v := (nI 252645135)) X m_k_J6_267 dJ6_bitCount_0f7a4_29 ?_
  refine b_iand X dJ6_bitCount_0f7a4_32 ?_
  refine b_topi (fun x6 ex6 => ?_)
  replace h := h x6 ex6
  refine b_istore_n (lv' := [(0, .int x6)]) X dJ6_bitCount_0f7a4_33 rfl (by decide) rfl ?_
  refine b_iload_n X dJ6_bitCount_0f7a4_34 rfl 0 rfl ?_
  refine b_iload_n X dJ6_bitCount_0f7a4_35 rfl 0 rfl ?_
  refine b_bipush (v := (nI 8)) X dJ6_bitCount_0f7a4_36 (by decide) ?_
  refine b_iushr X dJ6_bitCount_0f7a4_38 ?_
  refine b_topi (fun x7 ex7 => ?_)
  replace h := h x7 ex7
  refine b_iadd X dJ6_bitCount_0f7a4_39 ?_
  refine b_topi (fun x8 ex8 => ?_)
  replace h := h x8 ex8
  refine b_istore_n (lv' := [(0, .int x8)]) X dJ6_bitCount_0f7a4_40 rfl (by decide) rfl ?_
  refine b_iload_n X dJ6_bitCount_0f7a4_41 rfl 0 rfl ?_
  refine b_iload_n X dJ6_bitCount_0f7a4_42 rfl 0 rfl ?_
  refine b_bipush (v := (nI 16)) X dJ6_bitCount_0f7a4_43 (by decide) ?_
  refine b_iushr X dJ6_bitCount_0f7a4_45 ?_
  refine b_topi (fun x9 ex9 => ?_)
  replace h := h x9 ex9
  refine b_iadd X dJ6_bitCount_0f7a4_46 ?_
  refine b_topi (fun x10 ex10 => ?_)
  replace h := h x10 ex10
  refine b_istore_n (lv' := [(0, .int x10)]) X dJ6_bitCount_0f7a4_47 rfl (by decide) rfl ?_
  refine b_iload_n X dJ6_bitCount_0f7a4_48 rfl 0 rfl ?_
  refine b_bipush (v := (nI 63)) X dJ6_bitCount_0f7a4_49 (by decide) ?_
  refine b_iand X dJ6_bitCount_0f7a4_51 ?_
  exact hret _ _ _ _ ⟨rfl, h⟩ dJ6_bitCount_0f7a4_52
set_option maxHeartbeats 4000000 in
set_option maxRecDepth 100000 in
theorem c_X6_share (l : Launch) (D : va_G) (C : Nat → ClassId) (ad : Nat → Nat) (a1 : Int32) (a2 : Int32) (μ : Mem) (Q : Int32 → Prop) (h : w_X6_share a1 a2 μ Q) : Mi sF l yX6_share cX6_share 8 (some .int) rm_X6_share D C ad [.ref (ad 0), .int a1, .int a2] μ (fun r μ' => μ = μ' ∧ Q r) := by
  refine fm_i (by decide +kernel) sF_lt (Nat.le_of_ble_eq_true rfl) (fun K X hret => ?_)
  have X : CK sF D C ad K cX6_share 8 RX6 := X
  refine b_lv (lv' := [(0, .ref (ad 0)), (1, .int a1), (2, .int a2)]) rfl ?_
  unfold w_X6_share at h
  have B97 : ∀ (v3 : Int32) (v4 : Int32) (v5 : Int32) (v6 : Int32) (s1 : Int32), w_X6_share_97 a1 a2 v3 v4 v5 v6 s1 μ Q → WB sF l D C ad rm_X6_share K 8 μ 97 [(2, .int a2), (3, .int v3), (4, .int v4), (5, .int v5), (6, .int v6)] [.int s1] := by
    intro v3 v4 v5 v6 s1 h
    unfold w_X6_share_97 at h
    have B110 : ∀ (v3 : Int32) (v6 : Int32) (v7 : Int32) (s1 : Int32), w_X6_share_110 a1 a2 v3 v6 v7 s1 μ Q → WB sF l D C ad rm_X6_share K 8 μ 110 [(2, .int a2), (3, .int v3), (6, .int v6), (7, .int v7)] [.int s1] := by
      intro v3 v6 v7 s1 h
      unfold w_X6_share_110 at h
      refine b_iload_n X dX6_share_110 rfl 1 rfl ?_
      have hz := h.1
      replace h := h.2
      refine b_idiv X dX6_share_111 hz ?_
      clear hz
      refine b_iload_n X dX6_share_112 rfl 0 rfl ?_
      refine b_iload X dX6_share_113 3 rfl ?_
      refine b_icmp_ne (t := 123) X dX6_share_115 (by decide) (fun c => ?_) (fun c => ?_)
      · replace h := h.1 c
        refine b_iconst (v := (nI 0)) X dX6_share_123 (by decide) ?_
        refine b_iadd X dX6_share_124 ?_
        exact hret _ _ _ _ ⟨rfl, h⟩ dX6_share_125
      · replace h := h.2 c
        refine b_iload X dX6_share_118 2 rfl ?_
        refine b_goto (t := 124) X dX6_share_120 (by decide) ?_
        refine b_iadd X dX6_share_124 ?_
        exact hret _ _ _ _ ⟨rfl, h⟩ dX6_share_125
    refine b_istore (lv' := [(7, .int s1), (2, .int a2), (3, .int v3), (4, .int v4), (5, .int v5), (6, .int v6)]) X dX6_share_97 (by decide) rfl ?_
    refine b_iload_n X dX6_share_99 rfl 1 rfl ?_
    refine b_if_ne (t := 108) X dX6_share_100 (by decide) (fun c => ?_) (fun c => ?_)
    · replace h := h.1 c
      refine b_iload X dX6_share_108 4 rfl ?_
      refine b_sub (lv' := [(2, .int a2), (3, .int v3), (6, .int v6), (7, .int s1)]) [1, 2, 5, 0] rfl ?_
      exact B110 v3 v6 s1 v5 h
    · replace h := h.2 c
      refine b_iload X dX6_share_103 3 rfl ?_
      refine b_goto (t := 110) X dX6_share_105 (by decide) ?_
      refine b_sub (lv' := [(2, .int a2), (3, .int v3), (6, .int v6), (7, .int s1)]) [1, 2, 5, 0] rfl ?_
      exact B110 v3 v6 s1 v4 h
  refine b_iload_n X dX6_share_0 rfl 2 rfl ?_
  refine bSi (st := []) (nA := 1) X (c_X6_isVillage l D C ad a2 μ _ h) gw_X6_184 hd_X6_isVillage rfl rfl ⟨Nat.le_of_ble_eq_true rfl, Nat.le_of_ble_eq_true rfl⟩ rfl rfl (Nat.le_of_ble_eq_true rfl) dX6_share_1 (fun r1 μ2 h => ?_)
  obtain ⟨rfl, h⟩ := h
  refine b_if_ne (t := 10) X dX6_share_4 (by decide) (fun c => ?_) (fun c => ?_)
  · replace h := h.1 c
    refine b_iload_n X dX6_share_10 rfl 1 rfl ?_
    refine b_iconst (v := (nI 0)) X dX6_share_11 (by decide) ?_
    refine b_sipush (v := (nI 999)) X dX6_share_12 (by decide) ?_
    refine bSi (st := []) (nA := 3) X (c_X6_within l D C ad a1 (nI 0) (nI 999) μ _ h) gw_X6_80 hd_X6_within rfl rfl ⟨Nat.le_of_ble_eq_true rfl, Nat.le_of_ble_eq_true rfl⟩ rfl rfl (Nat.le_of_ble_eq_true rfl) dX6_share_15 (fun r3 μ4 h => ?_)
    obtain ⟨rfl, h⟩ := h
    refine b_if_ne (t := 24) X dX6_share_18 (by decide) (fun c => ?_) (fun c => ?_)
    · replace h := h.1 c
      refine b_aload_n X dX6_share_24 rfl 0 rfl ?_
      refine g_6_1 X kF_0 m_f_X6_19 dX6_share_25 ?_
      refine b_wf (fun hf5 => ?_)
      refine g_0_3 X (hf5 kF_0).1 m_f_X6_105 dX6_share_28 ?_
      refine b_topi (fun x6 ex6 => ?_)
      replace h := h x6 ex6
      refine b_istore_n (lv' := [(3, .int x6), (0, .ref (ad 0)), (1, .int a1), (2, .int a2)]) X dX6_share_31 rfl (by decide) rfl ?_
      refine b_iload_n X dX6_share_32 rfl 0 rfl ?_
      refine b_if_gt (t := 38) X dX6_share_33 (by decide) (fun c => ?_) (fun c => ?_)
      · replace h := h.1 c
        refine b_iload_n X dX6_share_38 rfl 2 rfl ?_
        refine b_aload_n X dX6_share_39 rfl 1 rfl ?_
        refine g_6_1 X kF_0 m_f_X6_19 dX6_share_40 ?_
        refine b_wf (fun hf7 => ?_)
        refine b_iconst (v := (nI 0)) X dX6_share_43 (by decide) ?_
        refine bVi (st := [.int a1]) (nA := 1) X (c_X0_postsOf l D C ad (μ.2.2 0) (hf7 kF_0).1 (nI 0) μ _ h) (hf7 kF_0).1 (by decide) (enc_0 (hf7 kF_0).1) rfl gw_X6_199 ⟨rfl, hd_X0_postsOf⟩ rfl rfl ⟨Nat.le_of_ble_eq_true rfl, Nat.le_of_ble_eq_true rfl⟩ rfl rfl (Nat.le_of_ble_eq_true rfl) dX6_share_44 (fun r8 μ9 h => ?_)
        obtain ⟨rfl, h⟩ := h
        refine bSi (st := [.int a1]) (nA := 1) X (c_J6_bitCount_0f7a4 l D C ad r8 μ _ h) gw_X6_278 hd_J6_bitCount_0f7a4 rfl rfl ⟨Nat.le_of_ble_eq_true rfl, Nat.le_of_ble_eq_true rfl⟩ rfl rfl (Nat.le_of_ble_eq_true rfl) dX6_share_47 (fun r10 μ11 h => ?_)
        obtain ⟨rfl, h⟩ := h
        refine b_imul X dX6_share_50 ?_
        refine b_topi (fun x12 ex12 => ?_)
        replace h := h x12 ex12
        refine b_istore (lv' := [(4, .int x12), (3, .int x6), (0, .ref (ad 0)), (1, .int a1), (2, .int a2)]) X dX6_share_51 (by decide) rfl ?_
        refine b_iload_n X dX6_share_53 rfl 3 rfl ?_
        refine b_aload_n X dX6_share_54 rfl 2 rfl ?_
        refine g_6_1 X kF_0 m_f_X6_19 dX6_share_55 ?_
        refine b_wf (fun hf13 => ?_)
        refine b_iconst (v := (nI 1)) X dX6_share_58 (by decide) ?_
        refine bVi (st := [.int a1]) (nA := 1) X (c_X0_postsOf l D C ad (μ.2.2 0) (hf13 kF_0).1 (nI 1) μ _ h) (hf13 kF_0).1 (by decide) (enc_0 (hf13 kF_0).1) rfl gw_X6_199 ⟨rfl, hd_X0_postsOf⟩ rfl rfl ⟨Nat.le_of_ble_eq_true rfl, Nat.le_of_ble_eq_true rfl⟩ rfl rfl (Nat.le_of_ble_eq_true rfl) dX6_share_59 (fun r14 μ15 h => ?_)
        obtain ⟨rfl, h⟩ := h
        refine bSi (st := [.int a1]) (nA := 1) X (c_J6_bitCount_0f7a4 l D C ad r14 μ _ h) gw_X6_278 hd_J6_bitCount_0f7a4 rfl rfl ⟨Nat.le_of_ble_eq_true rfl, Nat.le_of_ble_eq_true rfl⟩ rfl rfl (Nat.le_of_ble_eq_true rfl) dX6_share_62 (fun r16 μ17 h => ?_)
        obtain ⟨rfl, h⟩ := h
        refine b_imul X dX6_share_65 ?_
        refine b_topi (fun x18 ex18 => ?_)
        replace h := h x18 ex18
        refine b_istore (lv' := [(5, .int x18), (4, .int x12), (3, .int x6), (0, .ref (ad 0)), (1, .int a1), (2, .int a2)]) X dX6_share_66 (by decide) rfl ?_
        refine b_iload_n X dX6_share_68 rfl 4 rfl ?_
        refine b_iload X dX6_share_69 1 rfl ?_
        refine b_iload_n X dX6_share_71 rfl 2 rfl ?_
        have hz := h.1
        replace h := h.2
        refine b_idiv X dX6_share_72 hz ?_
        clear hz
        refine b_isub X dX6_share_73 ?_
        refine b_iload X dX6_share_74 0 rfl ?_
        refine b_iload_n X dX6_share_76 rfl 2 rfl ?_
        have hz := h.1
        replace h := h.2
        refine b_idiv X dX6_share_77 hz ?_
        clear hz
        refine b_isub X dX6_share_78 ?_
        refine b_topi (fun x19 ex19 => ?_)
        replace h := h x19 ex19
        refine b_istore (lv' := [(6, .int x19), (5, .int x18), (4, .int x12), (3, .int x6), (0, .ref (ad 0)), (1, .int a1), (2, .int a2)]) X dX6_share_79 (by decide) rfl ?_
        refine b_iload X dX6_share_81 2 rfl ?_
        refine b_iload_n X dX6_share_83 rfl 3 rfl ?_
        have hz := h.1
        replace h := h.2
        refine b_irem X dX6_share_84 hz ?_
        clear hz
        refine b_topi (fun x20 ex20 => ?_)
        replace h := h x20 ex20
        refine b_iload X dX6_share_85 1 rfl ?_
        refine b_iload_n X dX6_share_87 rfl 3 rfl ?_
        have hz := h.1
        replace h := h.2
        refine b_irem X dX6_share_88 hz ?_
        clear hz
        refine b_topi (fun x21 ex21 => ?_)
        replace h := h x21 ex21
        refine b_icmp_lt (t := 96) X dX6_share_89 (by decide) (fun c => ?_) (fun c => ?_)
        · replace h := h.1 c
          refine b_iconst (v := (nI 1)) X dX6_share_96 (by decide) ?_
          refine b_sub (lv' := [(2, .int a2), (3, .int x6), (4, .int x12), (5, .int x18), (6, .int x19)]) [6, 3, 2, 1, 0] rfl ?_
          exact B97 x6 x12 x18 x19 (nI 1) h
        · replace h := h.2 c
          refine b_iconst (v := (nI 0)) X dX6_share_92 (by decide) ?_
          refine b_goto (t := 97) X dX6_share_93 (by decide) ?_
          refine b_sub (lv' := [(2, .int a2), (3, .int x6), (4, .int x12), (5, .int x18), (6, .int x19)]) [6, 3, 2, 1, 0] rfl ?_
          exact B97 x6 x12 x18 x19 (nI 0) h
      · replace h := h.2 c
        refine b_iconst (v := (nI 0)) X dX6_share_36 (by decide) ?_
        exact hret _ _ _ _ ⟨rfl, h⟩ dX6_share_37
    · replace h := h.2 c
      refine b_ldc (v := ((-1000000002) : Int32)) X m_k_X6_84 dX6_share_21 ?_
      exact hret _ _ _ _ ⟨rfl, h⟩ dX6_share_23
  · replace h := h.2 c
    refine b_ldc (v := ((-1000000001) : Int32)) X m_k_X6_150 dX6_share_7 ?_
    exact hret _ _ _ _ ⟨rfl, h⟩ dX6_share_9
set_option maxHeartbeats 4000000 in
set_option maxRecDepth 100000 in
theorem c_X6_led (l : Launch) (D : va_G) (C : Nat → ClassId) (ad : Nat → Nat) (a1 : Int32) (a2 : Int32) (a3 : Int32) (μ : Mem) (Q : Int32 → Mem → Prop) (h : w_X6_led a1 a2 a3 μ Q) : Mi sF l yX6_led cX6_led 4 (some .int) rm_X6_led D C ad [.ref (ad 0), .int a1, .int a2, .int a3] μ Q := by
  refine fm_i (by decide +kernel) sF_lt (Nat.le_of_ble_eq_true rfl) (fun K X hret => ?_)
  have X : CK sF D C ad K cX6_led 4 RX6 := X
  refine b_lv (lv' := [(0, .ref (ad 0)), (1, .int a1), (2, .int a2), (3, .int a3)]) rfl ?_
  unfold w_X6_led at h
  refine b_iload_n X dX6_led_0 rfl 1 rfl ?_
  refine b_iconst (v := (nI 0)) X dX6_led_1 (by decide) ?_
  refine b_bipush (v := (nI 99)) X dX6_led_2 (by decide) ?_
  refine bSi (st := []) (nA := 3) X (c_X6_within l D C ad a1 (nI 0) (nI 99) μ _ h) gw_X6_80 hd_X6_within rfl rfl ⟨Nat.le_of_ble_eq_true rfl, Nat.le_of_ble_eq_true rfl⟩ rfl rfl (Nat.le_of_ble_eq_true rfl) dX6_led_4 (fun r1 μ2 h => ?_)
  obtain ⟨rfl, h⟩ := h
  refine b_if_eq (t := 30) X dX6_led_7 (by decide) (fun c => ?_) (fun c => ?_)
  · replace h := h.1 c
    refine b_ldc (v := ((-1000000002) : Int32)) X m_k_X6_84 dX6_led_30 ?_
    exact hret _ _ _ _ h dX6_led_32
  · replace h := h.2 c
    refine b_iload_n X dX6_led_10 rfl 2 rfl ?_
    refine b_iconst (v := (nI 0)) X dX6_led_11 (by decide) ?_
    refine b_iconst (v := (nI 1)) X dX6_led_12 (by decide) ?_
    refine bSi (st := []) (nA := 3) X (c_X6_within l D C ad a2 (nI 0) (nI 1) μ _ h) gw_X6_80 hd_X6_within rfl rfl ⟨Nat.le_of_ble_eq_true rfl, Nat.le_of_ble_eq_true rfl⟩ rfl rfl (Nat.le_of_ble_eq_true rfl) dX6_led_13 (fun r3 μ4 h => ?_)
    obtain ⟨rfl, h⟩ := h
    refine b_if_eq (t := 30) X dX6_led_16 (by decide) (fun c => ?_) (fun c => ?_)
    · replace h := h.1 c
      refine b_ldc (v := ((-1000000002) : Int32)) X m_k_X6_84 dX6_led_30 ?_
      exact hret _ _ _ _ h dX6_led_32
    · replace h := h.2 c
      refine b_iload_n X dX6_led_19 rfl 3 rfl ?_
      refine b_iconst (v := (nI 0)) X dX6_led_20 (by decide) ?_
      refine b_iload_n X dX6_led_21 rfl 1 rfl ?_
      refine b_iconst (v := (nI 1)) X dX6_led_22 (by decide) ?_
      refine b_isub X dX6_led_23 ?_
      refine bSi (st := []) (nA := 3) X (c_X6_within l D C ad a3 (nI 0) (a1 - (nI 1)) μ _ h) gw_X6_80 hd_X6_within rfl rfl ⟨Nat.le_of_ble_eq_true rfl, Nat.le_of_ble_eq_true rfl⟩ rfl rfl (Nat.le_of_ble_eq_true rfl) dX6_led_24 (fun r5 μ6 h => ?_)
      obtain ⟨rfl, h⟩ := h
      refine b_if_ne (t := 33) X dX6_led_27 (by decide) (fun c => ?_) (fun c => ?_)
      · replace h := h.1 c
        refine b_aload_n X dX6_led_33 rfl 0 rfl ?_
        refine bVi (st := []) (nA := 0) X (c_X6_isBare l D C ad  μ _ h) kF_0 (by decide) (enc_6 kF_0) rfl gw_X6_173 ⟨rfl, hd_X6_isBare⟩ rfl rfl ⟨Nat.le_of_ble_eq_true rfl, Nat.le_of_ble_eq_true rfl⟩ rfl rfl (Nat.le_of_ble_eq_true rfl) dX6_led_34 (fun r7 μ8 h => ?_)
        obtain ⟨rfl, h⟩ := h
        refine b_if_eq (t := 43) X dX6_led_37 (by decide) (fun c => ?_) (fun c => ?_)
        · replace h := h.1 c
          refine b_aload_n X dX6_led_43 rfl 0 rfl ?_
          refine g_6_6 X kF_0 m_f_X6_43 dX6_led_44 ?_
          refine b_aload_n X dX6_led_47 rfl 0 rfl ?_
          refine g_6_3 X kF_0 m_f_X6_29 dX6_led_48 ?_
          refine b_aload_n X dX6_led_51 rfl 0 rfl ?_
          refine g_6_1 X kF_0 m_f_X6_19 dX6_led_52 ?_
          refine b_wf (fun hf9 => ?_)
          refine g_0_0 X (hf9 kF_0).1 m_f_X6_111 dX6_led_55 ?_
          refine b_aload_n X dX6_led_58 rfl 0 rfl ?_
          refine g_6_3 X kF_0 m_f_X6_29 dX6_led_59 ?_
          refine b_aload_n X dX6_led_62 rfl 0 rfl ?_
          refine g_6_1 X kF_0 m_f_X6_19 dX6_led_63 ?_
          refine b_wf (fun hf10 => ?_)
          refine bVi (st := [.int (μ.1 (μ.2.2 0) 0), .ref (ad 25), .ref (ad 38)]) (nA := 1) X (c_X4_hanging l D C ad 25 kF_25 (μ.2.2 0) (hf10 kF_0).1 μ _ h) kF_25 (by decide) (enc_4 kF_25) rfl gw_X6_134 ⟨rfl, hd_X4_hanging⟩ rfl rfl ⟨Nat.le_of_ble_eq_true rfl, Nat.le_of_ble_eq_true rfl⟩ rfl rfl (Nat.le_of_ble_eq_true rfl) dX6_led_66 (fun r11 μ12 h => ?_)
          obtain ⟨rfl, h⟩ := h
          refine b_iload_n X dX6_led_69 rfl 2 rfl ?_
          refine b_iload_n X dX6_led_70 rfl 1 rfl ?_
          refine bVv (st := []) (nA := 5) X (c_X5_blow l D C ad 25 kF_25 (μ.1 (μ.2.2 0) 0) r11 a2 a1 μ _ h) kF_38 (by decide) (enc_5 kF_38) rfl gw_X6_283 ⟨rfl, hd_X5_blow⟩ rfl rfl ⟨Nat.le_of_ble_eq_true rfl, Nat.le_of_ble_eq_true rfl⟩ rfl rfl (Nat.le_of_ble_eq_true rfl) dX6_led_71 (fun μ14 h => ?_)
          refine b_aload_n X dX6_led_74 rfl 0 rfl ?_
          refine g_6_6 X kF_0 m_f_X6_43 dX6_led_75 ?_
          refine b_iload_n X dX6_led_78 rfl 3 rfl ?_
          refine bVi (st := []) (nA := 1) X (c_X5_takerOf l D C ad a3 μ14 _ h) kF_38 (by decide) (enc_5 kF_38) rfl gw_X6_287 ⟨rfl, hd_X5_takerOf⟩ rfl rfl ⟨Nat.le_of_ble_eq_true rfl, Nat.le_of_ble_eq_true rfl⟩ rfl rfl (Nat.le_of_ble_eq_true rfl) dX6_led_79 (fun r15 μ16 h => ?_)
          obtain ⟨rfl, h⟩ := h
          exact hret _ _ _ _ h dX6_led_82
        · replace h := h.2 c
          refine b_ldc (v := ((-1000000003) : Int32)) X m_k_X6_177 dX6_led_40 ?_
          exact hret _ _ _ _ h dX6_led_42
      · replace h := h.2 c
        refine b_ldc (v := ((-1000000002) : Int32)) X m_k_X6_84 dX6_led_30 ?_
        exact hret _ _ _ _ h dX6_led_32
set_option maxHeartbeats 4000000 in
set_option maxRecDepth 100000 in
theorem c_X6_yards (l : Launch) (D : va_G) (C : Nat → ClassId) (ad : Nat → Nat) (a1 : Int32) (a2 : Int32) (μ : Mem) (Q : Int32 → Prop) (h : w_X6_yards a1 a2 μ Q) : Mi sF l yX6_yards cX6_yards 9 (some .int) rm_X6_yards D C ad [.ref (ad 0), .int a1, .int a2] μ (fun r μ' => μ = μ' ∧ Q r) := by
  refine fm_i (by decide +kernel) sF_lt (Nat.le_of_ble_eq_true rfl) (fun K X hret => ?_)
  have X : CK sF D C ad K cX6_yards 9 RX6 := X
  refine b_lv (lv' := [(0, .ref (ad 0)), (1, .int a1), (2, .int a2)]) rfl ?_
  unfold w_X6_yards at h
  have B44 : ∀ (v3 : Int32) (v4 : Int32) (v5 : Int32) (v6 : Int32), w_X6_yards_44 a1 a2 v3 v4 v5 v6 μ Q → WB sF l D C ad rm_X6_yards K 9 μ 44 [(0, .ref (ad 0)), (2, .int a2), (3, .int v3), (4, .int v4), (5, .int v5), (6, .int v6)] [] := by
    intro v3 v4 v5 v6 h
    obtain ⟨Y44, eY⟩ : ∃ Y : Int32 → Int32 → Int32 → Prop, Y = fun (v4 : Int32) (v5 : Int32) (v6 : Int32) => WB sF l D C ad rm_X6_yards K 9 μ 44 [(0, .ref (ad 0)), (2, .int a2), (3, .int v3), (4, .int v4), (5, .int v5), (6, .int v6)] [] := ⟨_, rfl⟩
    have B44 : Y44 v4 v5 v6 := by
      unfold w_X6_yards_44 at h
      refine h Y44 ?_
      clear h
      intro v4 v5 v6 h
      unfold s_X6_yards_44 at h
      rw [eY]
      show WB sF l D C ad rm_X6_yards K 9 μ 44 [(0, .ref (ad 0)), (2, .int a2), (3, .int v3), (4, .int v4), (5, .int v5), (6, .int v6)] []
      have T44 : ∀ (v4 : Int32) (v5 : Int32) (v6 : Int32), Y44 v4 v5 v6 → WB sF l D C ad rm_X6_yards K 9 μ 44 [(0, .ref (ad 0)), (2, .int a2), (3, .int v3), (4, .int v4), (5, .int v5), (6, .int v6)] [] := by
        intro v4 v5 v6 h
        rw [eY] at h
        exact h
      clear eY
      have B131 : ∀ (v4 : Int32) (v5 : Int32), w_X6_yards_131 a1 a2 v4 v5 μ Q → WB sF l D C ad rm_X6_yards K 9 μ 131 [(2, .int a2), (4, .int v4), (5, .int v5)] [] := by
        intro v4 v5 h
        unfold w_X6_yards_131 at h
        refine b_iload_n X dX6_yards_131 rfl 0 rfl ?_
        refine b_if_ne (t := 140) X dX6_yards_132 (by decide) (fun c => ?_) (fun c => ?_)
        · replace h := h.1 c
          refine b_iload X dX6_yards_140 1 rfl ?_
          exact hret _ _ _ _ ⟨rfl, h⟩ dX6_yards_142
        · replace h := h.2 c
          refine b_iload X dX6_yards_135 2 rfl ?_
          refine b_goto (t := 142) X dX6_yards_137 (by decide) ?_
          exact hret _ _ _ _ ⟨rfl, h⟩ dX6_yards_142
      have B125 : ∀ (v4 : Int32) (v5 : Int32) (v6 : Int32), w_X6_yards_125 a1 a2 Y44 v3 v4 v5 v6 μ Q → WB sF l D C ad rm_X6_yards K 9 μ 125 [(0, .ref (ad 0)), (2, .int a2), (3, .int v3), (4, .int v4), (5, .int v5), (6, .int v6)] [] := by
        intro v4 v5 v6 h
        unfold w_X6_yards_125 at h
        obtain ⟨x14, ex14⟩ : ∃ y : Int32, y = v6 + (nI 1) := ⟨_, rfl⟩
        replace h := h x14 ex14
        refine b_iinc (x := x14) (lv' := [(6, .int x14), (0, .ref (ad 0)), (2, .int a2), (3, .int v3), (4, .int v4), (5, .int v5)]) (q := 5) X dX6_yards_125 rfl (by rw [ex14]; rfl) (by decide) rfl ?_
        refine b_goto (t := 44) X dX6_yards_128 (by decide) ?_
        refine b_sub (lv' := [(0, .ref (ad 0)), (2, .int a2), (3, .int v3), (4, .int v4), (5, .int v5), (6, .int x14)]) [1, 2, 3, 4, 5, 0] rfl ?_
        exact T44 v4 v5 x14 h
      have B117 : ∀ (v6 : Int32) (v7 : Int32) (v8 : Int32), w_X6_yards_117 a1 a2 Y44 v3 v6 v7 v8 μ Q → WB sF l D C ad rm_X6_yards K 9 μ 117 [(0, .ref (ad 0)), (2, .int a2), (3, .int v3), (6, .int v6), (7, .int v7), (8, .int v8)] [] := by
        intro v6 v7 v8 h
        unfold w_X6_yards_117 at h
        refine b_iload X dX6_yards_117 4 rfl ?_
        refine b_istore (lv' := [(4, .int v7), (0, .ref (ad 0)), (2, .int a2), (3, .int v3), (6, .int v6), (7, .int v7), (8, .int v8)]) X dX6_yards_119 (by decide) rfl ?_
        refine b_iload X dX6_yards_121 6 rfl ?_
        refine b_istore (lv' := [(5, .int v8), (4, .int v7), (0, .ref (ad 0)), (2, .int a2), (3, .int v3), (6, .int v6), (7, .int v7), (8, .int v8)]) X dX6_yards_123 (by decide) rfl ?_
        refine b_sub (lv' := [(0, .ref (ad 0)), (2, .int a2), (3, .int v3), (4, .int v7), (5, .int v8), (6, .int v6)]) [2, 3, 4, 1, 0, 5] rfl ?_
        exact B125 v7 v8 v6 h
      refine b_iload X dX6_yards_44 5 rfl ?_
      refine b_aload_n X dX6_yards_46 rfl 0 rfl ?_
      refine g_6_1 X kF_0 m_f_X6_19 dX6_yards_47 ?_
      refine b_wf (fun hf8 => ?_)
      refine g_0_0 X (hf8 kF_0).1 m_f_X6_111 dX6_yards_50 ?_
      refine b_icmp_ge (t := 131) X dX6_yards_53 (by decide) (fun c => ?_) (fun c => ?_)
      · replace h := h.1 c
        refine b_sub (lv' := [(2, .int a2), (4, .int v4), (5, .int v5)]) [1, 3, 4] rfl ?_
        exact B131 v4 v5 h
      · replace h := h.2 c
        refine b_iload X dX6_yards_56 5 rfl ?_
        refine b_bipush (v := (nI 12)) X dX6_yards_58 (by decide) ?_
        refine b_icmp_ge (t := 131) X dX6_yards_60 (by decide) (fun c => ?_) (fun c => ?_)
        · replace h := h.1 c
          refine b_sub (lv' := [(2, .int a2), (4, .int v4), (5, .int v5)]) [1, 3, 4] rfl ?_
          exact B131 v4 v5 h
        · replace h := h.2 c
          refine b_aload_n X dX6_yards_63 rfl 0 rfl ?_
          refine g_6_3 X kF_0 m_f_X6_29 dX6_yards_64 ?_
          refine b_iload X dX6_yards_67 5 rfl ?_
          refine bVi (st := []) (nA := 1) X (c_X4_postIn l D C ad 25 kF_25 v6 μ _ h) kF_25 (by decide) (enc_4 kF_25) rfl gw_X6_234 ⟨rfl, hd_X4_postIn⟩ rfl rfl ⟨Nat.le_of_ble_eq_true rfl, Nat.le_of_ble_eq_true rfl⟩ rfl rfl (Nat.le_of_ble_eq_true rfl) dX6_yards_69 (fun r9 μ10 h => ?_)
          obtain ⟨rfl, h⟩ := h
          refine b_istore (lv' := [(7, .int r9), (0, .ref (ad 0)), (2, .int a2), (3, .int v3), (4, .int v4), (5, .int v5), (6, .int v6)]) X dX6_yards_72 (by decide) rfl ?_
          refine b_iload X dX6_yards_74 6 rfl ?_
          refine b_iload_n X dX6_yards_76 rfl 3 rfl ?_
          refine b_isub X dX6_yards_77 ?_
          refine b_mabs X m_m_X6_290 m_s_mabs m_n_J9 m_c_mabs (Nat.le_of_ble_eq_true rfl) (Nat.le_of_ble_eq_true rfl) dX6_yards_78 ?_
          refine b_topi (fun x11 ex11 => ?_)
          replace h := h x11 ex11
          refine b_istore (lv' := [(8, .int x11), (7, .int r9), (0, .ref (ad 0)), (2, .int a2), (3, .int v3), (4, .int v4), (5, .int v5), (6, .int v6)]) X dX6_yards_81 (by decide) rfl ?_
          refine b_iload X dX6_yards_83 1 rfl ?_
          refine b_iconst (v := ((-1) : Int32)) X dX6_yards_85 (by decide) ?_
          refine b_icmp_eq (t := 125) X dX6_yards_86 (by decide) (fun c => ?_) (fun c => ?_)
          · replace h := h.1 c
            refine b_sub (lv' := [(0, .ref (ad 0)), (2, .int a2), (3, .int v3), (4, .int v4), (5, .int v5), (6, .int v6)]) [2, 3, 4, 5, 6, 7] rfl ?_
            exact B125 v4 v5 v6 h
          · replace h := h.2 c
            refine b_aload_n X dX6_yards_89 rfl 2 rfl ?_
            refine g_6_3 X kF_0 m_f_X6_29 dX6_yards_90 ?_
            refine g_4_7 X kF_25 m_f_X6_167 dX6_yards_93 ?_
            refine b_iload X dX6_yards_96 1 rfl ?_
            refine bSi (st := []) (nA := 2) X (c_X6_at l D C ad (25 + 3) (st_k3 kF_25) r9 μ _ h) gw_X6_154 hd_X6_at rfl rfl ⟨Nat.le_of_ble_eq_true rfl, Nat.le_of_ble_eq_true rfl⟩ rfl rfl (Nat.le_of_ble_eq_true rfl) dX6_yards_98 (fun r12 μ13 h => ?_)
            obtain ⟨rfl, h⟩ := h
            refine b_if_le (t := 125) X dX6_yards_101 (by decide) (fun c => ?_) (fun c => ?_)
            · replace h := h.1 c
              refine b_sub (lv' := [(0, .ref (ad 0)), (2, .int a2), (3, .int v3), (4, .int v4), (5, .int v5), (6, .int v6)]) [2, 3, 4, 5, 6, 7] rfl ?_
              exact B125 v4 v5 v6 h
            · replace h := h.2 c
              refine b_iload X dX6_yards_104 5 rfl ?_
              refine b_iconst (v := ((-1) : Int32)) X dX6_yards_106 (by decide) ?_
              refine b_icmp_eq (t := 117) X dX6_yards_107 (by decide) (fun c => ?_) (fun c => ?_)
              · replace h := h.1 c
                refine b_sub (lv' := [(0, .ref (ad 0)), (2, .int a2), (3, .int v3), (6, .int v6), (7, .int r9), (8, .int x11)]) [2, 3, 4, 7, 1, 0] rfl ?_
                exact B117 v6 r9 x11 h
              · replace h := h.2 c
                refine b_iload X dX6_yards_110 0 rfl ?_
                refine b_iload X dX6_yards_112 6 rfl ?_
                refine b_icmp_ge (t := 125) X dX6_yards_114 (by decide) (fun c => ?_) (fun c => ?_)
                · replace h := h.1 c
                  refine b_sub (lv' := [(0, .ref (ad 0)), (2, .int a2), (3, .int v3), (4, .int v4), (5, .int v5), (6, .int v6)]) [2, 3, 4, 5, 6, 7] rfl ?_
                  exact B125 v4 v5 v6 h
                · replace h := h.2 c
                  refine b_sub (lv' := [(0, .ref (ad 0)), (2, .int a2), (3, .int v3), (6, .int v6), (7, .int r9), (8, .int x11)]) [2, 3, 4, 7, 1, 0] rfl ?_
                  exact B117 v6 r9 x11 h
    rw [eY] at B44
    exact B44
  refine b_aload_n X dX6_yards_0 rfl 0 rfl ?_
  refine b_iload_n X dX6_yards_1 rfl 1 rfl ?_
  refine bVi (st := []) (nA := 1) X (c_X6_isGoat l D C ad a1 μ _ h) kF_0 (by decide) (enc_6 kF_0) rfl gw_X6_202 ⟨rfl, hd_X6_isGoat⟩ rfl rfl ⟨Nat.le_of_ble_eq_true rfl, Nat.le_of_ble_eq_true rfl⟩ rfl rfl (Nat.le_of_ble_eq_true rfl) dX6_yards_2 (fun r1 μ2 h => ?_)
  obtain ⟨rfl, h⟩ := h
  refine b_if_ne (t := 11) X dX6_yards_5 (by decide) (fun c => ?_) (fun c => ?_)
  · replace h := h.1 c
    refine b_iload_n X dX6_yards_11 rfl 2 rfl ?_
    refine b_iconst (v := (nI 0)) X dX6_yards_12 (by decide) ?_
    refine b_iconst (v := (nI 1)) X dX6_yards_13 (by decide) ?_
    refine bSi (st := []) (nA := 3) X (c_X6_within l D C ad a2 (nI 0) (nI 1) μ _ h) gw_X6_80 hd_X6_within rfl rfl ⟨Nat.le_of_ble_eq_true rfl, Nat.le_of_ble_eq_true rfl⟩ rfl rfl (Nat.le_of_ble_eq_true rfl) dX6_yards_14 (fun r3 μ4 h => ?_)
    obtain ⟨rfl, h⟩ := h
    refine b_if_ne (t := 23) X dX6_yards_17 (by decide) (fun c => ?_) (fun c => ?_)
    · replace h := h.1 c
      refine b_aload_n X dX6_yards_23 rfl 0 rfl ?_
      refine g_6_1 X kF_0 m_f_X6_19 dX6_yards_24 ?_
      refine b_wf (fun hf5 => ?_)
      refine g_0_13 X (hf5 kF_0).1 m_f_X6_205 dX6_yards_27 ?_
      refine b_iload_n X dX6_yards_30 rfl 1 rfl ?_
      refine bSi (st := []) (nA := 2) X (c_X6_at l D C ad ((μ.2.2 0) + 9) (co_k9 (hf5 kF_0).1) a1 μ _ h) gw_X6_154 hd_X6_at rfl rfl ⟨Nat.le_of_ble_eq_true rfl, Nat.le_of_ble_eq_true rfl⟩ rfl rfl (Nat.le_of_ble_eq_true rfl) dX6_yards_31 (fun r6 μ7 h => ?_)
      obtain ⟨rfl, h⟩ := h
      refine b_istore_n (lv' := [(3, .int r6), (0, .ref (ad 0)), (1, .int a1), (2, .int a2)]) X dX6_yards_34 rfl (by decide) rfl ?_
      refine b_iconst (v := ((-1) : Int32)) X dX6_yards_35 (by decide) ?_
      refine b_istore (lv' := [(4, .int ((-1) : Int32)), (3, .int r6), (0, .ref (ad 0)), (1, .int a1), (2, .int a2)]) X dX6_yards_36 (by decide) rfl ?_
      refine b_iconst (v := ((-1) : Int32)) X dX6_yards_38 (by decide) ?_
      refine b_istore (lv' := [(5, .int ((-1) : Int32)), (4, .int ((-1) : Int32)), (3, .int r6), (0, .ref (ad 0)), (1, .int a1), (2, .int a2)]) X dX6_yards_39 (by decide) rfl ?_
      refine b_iconst (v := (nI 0)) X dX6_yards_41 (by decide) ?_
      refine b_istore (lv' := [(6, .int (nI 0)), (5, .int ((-1) : Int32)), (4, .int ((-1) : Int32)), (3, .int r6), (0, .ref (ad 0)), (1, .int a1), (2, .int a2)]) X dX6_yards_42 (by decide) rfl ?_
      refine b_sub (lv' := [(0, .ref (ad 0)), (2, .int a2), (3, .int r6), (4, .int ((-1) : Int32)), (5, .int ((-1) : Int32)), (6, .int (nI 0))]) [4, 6, 3, 2, 1, 0] rfl ?_
      exact B44 r6 ((-1) : Int32) ((-1) : Int32) (nI 0) h
    · replace h := h.2 c
      refine b_ldc (v := ((-1000000002) : Int32)) X m_k_X6_84 dX6_yards_20 ?_
      exact hret _ _ _ _ ⟨rfl, h⟩ dX6_yards_22
  · replace h := h.2 c
    refine b_ldc (v := ((-1000000001) : Int32)) X m_k_X6_150 dX6_yards_8 ?_
    exact hret _ _ _ _ ⟨rfl, h⟩ dX6_yards_10
set_option maxHeartbeats 4000000 in
set_option maxRecDepth 100000 in
theorem c_X6_clear (l : Launch) (D : va_G) (C : Nat → ClassId) (ad : Nat → Nat) (a1 : Int32) (a2 : Int32) (μ : Mem) (Q : Int32 → Prop) (h : w_X6_clear a1 a2 μ Q) : Mi sF l yX6_clear cX6_clear 6 (some .int) rm_X6_clear D C ad [.ref (ad 0), .int a1, .int a2] μ (fun r μ' => μ = μ' ∧ Q r) := by
  refine fm_i (by decide +kernel) sF_lt (Nat.le_of_ble_eq_true rfl) (fun K X hret => ?_)
  have X : CK sF D C ad K cX6_clear 6 RX6 := X
  refine b_lv (lv' := [(0, .ref (ad 0)), (1, .int a1), (2, .int a2)]) rfl ?_
  unfold w_X6_clear at h
  have B30 : ∀ (v3 : Int64) (v5 : Int32), w_X6_clear_30 a1 a2 v3 v5 μ Q → WB sF l D C ad rm_X6_clear K 6 μ 30 [(1, .int a1), (2, .int a2), (3, .long v3), (5, .int v5)] [] := by
    intro v3 v5 h
    obtain ⟨Y30, eY⟩ : ∃ Y : Int64 → Int32 → Prop, Y = fun (v3 : Int64) (v5 : Int32) => WB sF l D C ad rm_X6_clear K 6 μ 30 [(1, .int a1), (2, .int a2), (3, .long v3), (5, .int v5)] [] := ⟨_, rfl⟩
    have B30 : Y30 v3 v5 := by
      unfold w_X6_clear_30 at h
      refine h Y30 ?_
      clear h
      intro v3 v5 h
      unfold s_X6_clear_30 at h
      rw [eY]
      show WB sF l D C ad rm_X6_clear K 6 μ 30 [(1, .int a1), (2, .int a2), (3, .long v3), (5, .int v5)] []
      have T30 : ∀ (v3 : Int64) (v5 : Int32), Y30 v3 v5 → WB sF l D C ad rm_X6_clear K 6 μ 30 [(1, .int a1), (2, .int a2), (3, .long v3), (5, .int v5)] [] := by
        intro v3 v5 h
        rw [eY] at h
        exact h
      clear eY
      refine b_iload X dX6_clear_30 3 rfl ?_
      refine b_iload_n X dX6_clear_32 rfl 0 rfl ?_
      refine b_icmp_ge (t := 51) X dX6_clear_33 (by decide) (fun c => ?_) (fun c => ?_)
      · replace h := h.1 c
        refine b_lload_n X dX6_clear_51 rfl 2 rfl ?_
        refine b_l2i X dX6_clear_52 ?_
        exact hret _ _ _ _ ⟨rfl, h⟩ dX6_clear_53
      · replace h := h.2 c
        refine b_lload_n X dX6_clear_36 rfl 2 rfl ?_
        refine b_iload_n X dX6_clear_37 rfl 1 rfl ?_
        refine b_i2l X dX6_clear_38 ?_
        refine b_lmul X dX6_clear_39 ?_
        refine b_ldc2 (v := (lN 100)) X m_K_X6_295 dX6_clear_40 ?_
        have hz := h.1
        replace h := h.2
        refine b_ldiv X dX6_clear_43 hz ?_
        clear hz
        refine b_topl (fun x5 ex5 => ?_)
        replace h := h x5 ex5
        refine b_lstore_n (lv' := [(3, .long x5), (1, .int a1), (2, .int a2), (5, .int v5)]) X dX6_clear_44 rfl (by decide) rfl ?_
        obtain ⟨x6, ex6⟩ : ∃ y : Int32, y = v5 + (nI 1) := ⟨_, rfl⟩
        replace h := h x6 ex6
        refine b_iinc (x := x6) (lv' := [(5, .int x6), (3, .long x5), (1, .int a1), (2, .int a2)]) (q := 3) X dX6_clear_45 rfl (by rw [ex6]; rfl) (by decide) rfl ?_
        refine b_goto (t := 30) X dX6_clear_48 (by decide) ?_
        refine b_sub (lv' := [(1, .int a1), (2, .int a2), (3, .long x5), (5, .int x6)]) [2, 3, 1, 0] rfl ?_
        exact T30 x5 x6 h
    rw [eY] at B30
    exact B30
  refine b_iload_n X dX6_clear_0 rfl 1 rfl ?_
  refine b_iconst (v := (nI 0)) X dX6_clear_1 (by decide) ?_
  refine b_bipush (v := (nI 60)) X dX6_clear_2 (by decide) ?_
  refine bSi (st := []) (nA := 3) X (c_X6_within l D C ad a1 (nI 0) (nI 60) μ _ h) gw_X6_80 hd_X6_within rfl rfl ⟨Nat.le_of_ble_eq_true rfl, Nat.le_of_ble_eq_true rfl⟩ rfl rfl (Nat.le_of_ble_eq_true rfl) dX6_clear_4 (fun r1 μ2 h => ?_)
  obtain ⟨rfl, h⟩ := h
  refine b_if_eq (t := 20) X dX6_clear_7 (by decide) (fun c => ?_) (fun c => ?_)
  · replace h := h.1 c
    refine b_ldc (v := ((-1000000002) : Int32)) X m_k_X6_84 dX6_clear_20 ?_
    exact hret _ _ _ _ ⟨rfl, h⟩ dX6_clear_22
  · replace h := h.2 c
    refine b_iload_n X dX6_clear_10 rfl 2 rfl ?_
    refine b_iconst (v := (nI 0)) X dX6_clear_11 (by decide) ?_
    refine b_bipush (v := (nI 100)) X dX6_clear_12 (by decide) ?_
    refine bSi (st := []) (nA := 3) X (c_X6_within l D C ad a2 (nI 0) (nI 100) μ _ h) gw_X6_80 hd_X6_within rfl rfl ⟨Nat.le_of_ble_eq_true rfl, Nat.le_of_ble_eq_true rfl⟩ rfl rfl (Nat.le_of_ble_eq_true rfl) dX6_clear_14 (fun r3 μ4 h => ?_)
    obtain ⟨rfl, h⟩ := h
    refine b_if_ne (t := 23) X dX6_clear_17 (by decide) (fun c => ?_) (fun c => ?_)
    · replace h := h.1 c
      refine b_ldc2 (v := (lN 1000000000)) X m_K_X6_293 dX6_clear_23 ?_
      refine b_lstore_n (lv' := [(3, .long (lN 1000000000)), (0, .ref (ad 0)), (1, .int a1), (2, .int a2)]) X dX6_clear_26 rfl (by decide) rfl ?_
      refine b_iconst (v := (nI 0)) X dX6_clear_27 (by decide) ?_
      refine b_istore (lv' := [(5, .int (nI 0)), (3, .long (lN 1000000000)), (0, .ref (ad 0)), (1, .int a1), (2, .int a2)]) X dX6_clear_28 (by decide) rfl ?_
      refine b_sub (lv' := [(1, .int a1), (2, .int a2), (3, .long (lN 1000000000)), (5, .int (nI 0))]) [3, 4, 1, 0] rfl ?_
      exact B30 (lN 1000000000) (nI 0) h
    · replace h := h.2 c
      refine b_ldc (v := ((-1000000002) : Int32)) X m_k_X6_84 dX6_clear_20 ?_
      exact hret _ _ _ _ ⟨rfl, h⟩ dX6_clear_22
set_option maxHeartbeats 4000000 in
set_option maxRecDepth 100000 in
theorem c_X6_got (l : Launch) (D : va_G) (C : Nat → ClassId) (ad : Nat → Nat) (a1 : Int32) (a2 : Int32) (a3 : Int32) (μ : Mem) (Q : Int32 → Mem → Prop) (h : w_X6_got a1 a2 a3 μ Q) : Mi sF l yX6_got cX6_got 4 (some .int) rm_X6_got D C ad [.ref (ad 0), .int a1, .int a2, .int a3] μ Q := by
  refine fm_i (by decide +kernel) sF_lt (Nat.le_of_ble_eq_true rfl) (fun K X hret => ?_)
  have X : CK sF D C ad K cX6_got 4 RX6 := X
  refine b_lv (lv' := [(0, .ref (ad 0)), (1, .int a1), (2, .int a2), (3, .int a3)]) rfl ?_
  unfold w_X6_got at h
  refine b_aload_n X dX6_got_0 rfl 0 rfl ?_
  refine b_iload_n X dX6_got_1 rfl 1 rfl ?_
  refine bVi (st := []) (nA := 1) X (c_X6_isPost l D C ad a1 μ _ h) kF_0 (by decide) (enc_6 kF_0) rfl gw_X6_146 ⟨rfl, hd_X6_isPost⟩ rfl rfl ⟨Nat.le_of_ble_eq_true rfl, Nat.le_of_ble_eq_true rfl⟩ rfl rfl (Nat.le_of_ble_eq_true rfl) dX6_got_2 (fun r1 μ2 h => ?_)
  obtain ⟨rfl, h⟩ := h
  refine b_if_ne (t := 11) X dX6_got_5 (by decide) (fun c => ?_) (fun c => ?_)
  · replace h := h.1 c
    refine b_iload_n X dX6_got_11 rfl 2 rfl ?_
    refine b_iconst (v := (nI 0)) X dX6_got_12 (by decide) ?_
    refine b_iconst (v := (nI 1)) X dX6_got_13 (by decide) ?_
    refine bSi (st := []) (nA := 3) X (c_X6_within l D C ad a2 (nI 0) (nI 1) μ _ h) gw_X6_80 hd_X6_within rfl rfl ⟨Nat.le_of_ble_eq_true rfl, Nat.le_of_ble_eq_true rfl⟩ rfl rfl (Nat.le_of_ble_eq_true rfl) dX6_got_14 (fun r3 μ4 h => ?_)
    obtain ⟨rfl, h⟩ := h
    refine b_if_eq (t := 30) X dX6_got_17 (by decide) (fun c => ?_) (fun c => ?_)
    · replace h := h.1 c
      refine b_ldc (v := ((-1000000002) : Int32)) X m_k_X6_84 dX6_got_30 ?_
      exact hret _ _ _ _ h dX6_got_32
    · replace h := h.2 c
      refine b_iload_n X dX6_got_20 rfl 3 rfl ?_
      refine b_iconst (v := (nI 0)) X dX6_got_21 (by decide) ?_
      refine b_bipush (v := (nI 40)) X dX6_got_22 (by decide) ?_
      refine bSi (st := []) (nA := 3) X (c_X6_within l D C ad a3 (nI 0) (nI 40) μ _ h) gw_X6_80 hd_X6_within rfl rfl ⟨Nat.le_of_ble_eq_true rfl, Nat.le_of_ble_eq_true rfl⟩ rfl rfl (Nat.le_of_ble_eq_true rfl) dX6_got_24 (fun r5 μ6 h => ?_)
      obtain ⟨rfl, h⟩ := h
      refine b_if_ne (t := 33) X dX6_got_27 (by decide) (fun c => ?_) (fun c => ?_)
      · replace h := h.1 c
        refine b_aload_n X dX6_got_33 rfl 0 rfl ?_
        refine g_6_11 X kF_0 m_f_X6_70 dX6_got_34 ?_
        refine g_1_3 X kF_237 m_f_X6_104 dX6_got_37 ?_
        refine b_bipush (v := (nI 6)) X dX6_got_40 (by decide) ?_
        refine b_icmp_lt (t := 48) X dX6_got_42 (by decide) (fun c => ?_) (fun c => ?_)
        · replace h := h.1 c
          refine b_aload_n X dX6_got_48 rfl 0 rfl ?_
          refine g_6_11 X kF_0 m_f_X6_70 dX6_got_49 ?_
          refine b_iload_n X dX6_got_52 rfl 1 rfl ?_
          refine b_iload_n X dX6_got_53 rfl 2 rfl ?_
          refine b_iload_n X dX6_got_54 rfl 3 rfl ?_
          refine bVi (st := []) (nA := 3) X (c_X1_note l D C ad 237 kF_237 a1 a2 a3 μ _ h) kF_237 (by decide) (enc_1 kF_237) rfl gw_X6_297 ⟨rfl, hd_X1_note⟩ rfl rfl ⟨Nat.le_of_ble_eq_true rfl, Nat.le_of_ble_eq_true rfl⟩ rfl rfl (Nat.le_of_ble_eq_true rfl) dX6_got_55 (fun r7 μ8 h => ?_)
          exact hret _ _ _ _ h dX6_got_58
        · replace h := h.2 c
          refine b_ldc (v := ((-1000000004) : Int32)) X m_k_X6_88 dX6_got_45 ?_
          exact hret _ _ _ _ h dX6_got_47
      · replace h := h.2 c
        refine b_ldc (v := ((-1000000002) : Int32)) X m_k_X6_84 dX6_got_30 ?_
        exact hret _ _ _ _ h dX6_got_32
  · replace h := h.2 c
    refine b_ldc (v := ((-1000000001) : Int32)) X m_k_X6_150 dX6_got_8 ?_
    exact hret _ _ _ _ h dX6_got_10
set_option maxHeartbeats 4000000 in
set_option maxRecDepth 100000 in
theorem c_X6_takenOf (l : Launch) (D : va_G) (C : Nat → ClassId) (ad : Nat → Nat) (a1 : Int32) (a2 : Int32) (a3 : Int32) (μ : Mem) (Q : Int32 → Mem → Prop) (h : w_X6_takenOf a1 a2 a3 μ Q) : Mi sF l yX6_takenOf cX6_takenOf 4 (some .int) rm_X6_takenOf D C ad [.ref (ad 0), .int a1, .int a2, .int a3] μ Q := by
  refine fm_i (by decide +kernel) sF_lt (Nat.le_of_ble_eq_true rfl) (fun K X hret => ?_)
  have X : CK sF D C ad K cX6_takenOf 4 RX6 := X
  refine b_lv (lv' := [(0, .ref (ad 0)), (1, .int a1), (2, .int a2), (3, .int a3)]) rfl ?_
  unfold w_X6_takenOf at h
  refine b_aload_n X dX6_takenOf_0 rfl 0 rfl ?_
  refine g_6_6 X kF_0 m_f_X6_43 dX6_takenOf_1 ?_
  refine b_aload_n X dX6_takenOf_4 rfl 0 rfl ?_
  refine g_6_3 X kF_0 m_f_X6_29 dX6_takenOf_5 ?_
  refine b_aload_n X dX6_takenOf_8 rfl 0 rfl ?_
  refine g_6_1 X kF_0 m_f_X6_19 dX6_takenOf_9 ?_
  refine b_wf (fun hf1 => ?_)
  refine g_0_0 X (hf1 kF_0).1 m_f_X6_111 dX6_takenOf_12 ?_
  refine b_aload_n X dX6_takenOf_15 rfl 0 rfl ?_
  refine g_6_3 X kF_0 m_f_X6_29 dX6_takenOf_16 ?_
  refine b_aload_n X dX6_takenOf_19 rfl 0 rfl ?_
  refine g_6_1 X kF_0 m_f_X6_19 dX6_takenOf_20 ?_
  refine b_wf (fun hf2 => ?_)
  refine bVi (st := [.int (μ.1 (μ.2.2 0) 0), .ref (ad 25), .ref (ad 38)]) (nA := 1) X (c_X4_hanging l D C ad 25 kF_25 (μ.2.2 0) (hf2 kF_0).1 μ _ h) kF_25 (by decide) (enc_4 kF_25) rfl gw_X6_134 ⟨rfl, hd_X4_hanging⟩ rfl rfl ⟨Nat.le_of_ble_eq_true rfl, Nat.le_of_ble_eq_true rfl⟩ rfl rfl (Nat.le_of_ble_eq_true rfl) dX6_takenOf_23 (fun r3 μ4 h => ?_)
  obtain ⟨rfl, h⟩ := h
  refine b_iload_n X dX6_takenOf_26 rfl 2 rfl ?_
  refine b_iload_n X dX6_takenOf_27 rfl 3 rfl ?_
  refine bVv (st := []) (nA := 5) X (c_X5_blow l D C ad 25 kF_25 (μ.1 (μ.2.2 0) 0) r3 a2 a3 μ _ h) kF_38 (by decide) (enc_5 kF_38) rfl gw_X6_283 ⟨rfl, hd_X5_blow⟩ rfl rfl ⟨Nat.le_of_ble_eq_true rfl, Nat.le_of_ble_eq_true rfl⟩ rfl rfl (Nat.le_of_ble_eq_true rfl) dX6_takenOf_28 (fun μ6 h => ?_)
  refine b_aload_n X dX6_takenOf_31 rfl 0 rfl ?_
  refine g_6_6 X kF_0 m_f_X6_43 dX6_takenOf_32 ?_
  refine g_5_0 X kF_38 m_f_X6_256 dX6_takenOf_35 ?_
  refine b_iload_n X dX6_takenOf_38 rfl 1 rfl ?_
  refine bSi (st := []) (nA := 2) X (c_X6_at l D C ad 39 kF_39 a1 μ6 _ h) gw_X6_154 hd_X6_at rfl rfl ⟨Nat.le_of_ble_eq_true rfl, Nat.le_of_ble_eq_true rfl⟩ rfl rfl (Nat.le_of_ble_eq_true rfl) dX6_takenOf_39 (fun r7 μ8 h => ?_)
  obtain ⟨rfl, h⟩ := h
  exact hret _ _ _ _ h dX6_takenOf_42
set_option maxHeartbeats 4000000 in
set_option maxRecDepth 100000 in
theorem c_X6_fitsAll (l : Launch) (D : va_G) (C : Nat → ClassId) (ad : Nat → Nat) (a1 : Int32) (μ : Mem) (Q : Int32 → Mem → Prop) (h : w_X6_fitsAll a1 μ Q) : Mi sF l yX6_fitsAll cX6_fitsAll 4 (some .boolean) rm_X6_fitsAll D C ad [.ref (ad 0), .int a1] μ Q := by
  refine fm_z (by decide +kernel) sF_lt (Nat.le_of_ble_eq_true rfl) (fun K X hret => ?_)
  have X : CK sF D C ad K cX6_fitsAll 4 RX6 := X
  refine b_lv (lv' := [(0, .ref (ad 0)), (1, .int a1)]) rfl ?_
  unfold w_X6_fitsAll at h
  have B2 : ∀ (v2 : Int32) (μ : Mem), w_X6_fitsAll_2 a1 v2 μ Q → WB sF l D C ad rm_X6_fitsAll K 4 μ 2 [(0, .ref (ad 0)), (1, .int a1), (2, .int v2)] [] := by
    intro v2 μ h
    obtain ⟨Y2, eY⟩ : ∃ Y : Int32 → Mem → Prop, Y = fun (v2 : Int32) (μ : Mem) => WB sF l D C ad rm_X6_fitsAll K 4 μ 2 [(0, .ref (ad 0)), (1, .int a1), (2, .int v2)] [] := ⟨_, rfl⟩
    have B2 : Y2 v2 μ := by
      unfold w_X6_fitsAll_2 at h
      refine h Y2 ?_
      clear h
      intro v2 μ h
      unfold s_X6_fitsAll_2 at h
      rw [eY]
      show WB sF l D C ad rm_X6_fitsAll K 4 μ 2 [(0, .ref (ad 0)), (1, .int a1), (2, .int v2)] []
      have T2 : ∀ (v2 : Int32) (μ : Mem), Y2 v2 μ → WB sF l D C ad rm_X6_fitsAll K 4 μ 2 [(0, .ref (ad 0)), (1, .int a1), (2, .int v2)] [] := by
        intro v2 μ h
        rw [eY] at h
        exact h
      clear eY
      refine b_iload_n X dX6_fitsAll_2 rfl 2 rfl ?_
      refine b_aload_n X dX6_fitsAll_3 rfl 0 rfl ?_
      refine g_6_11 X kF_0 m_f_X6_70 dX6_fitsAll_4 ?_
      refine g_1_3 X kF_237 m_f_X6_104 dX6_fitsAll_7 ?_
      refine b_icmp_ge (t := 70) X dX6_fitsAll_10 (by decide) (fun c => ?_) (fun c => ?_)
      · replace h := h.1 c
        refine b_iconst (v := (nI 1)) X dX6_fitsAll_70 (by decide) ?_
        exact hret _ _ _ _ ⟨(Or.inr rfl), h⟩ dX6_fitsAll_71
      · replace h := h.2 c
        refine b_iload_n X dX6_fitsAll_13 rfl 2 rfl ?_
        refine b_bipush (v := (nI 6)) X dX6_fitsAll_14 (by decide) ?_
        refine b_icmp_ge (t := 70) X dX6_fitsAll_16 (by decide) (fun c => ?_) (fun c => ?_)
        · replace h := h.1 c
          refine b_iconst (v := (nI 1)) X dX6_fitsAll_70 (by decide) ?_
          exact hret _ _ _ _ ⟨(Or.inr rfl), h⟩ dX6_fitsAll_71
        · replace h := h.2 c
          refine b_aload_n X dX6_fitsAll_19 rfl 0 rfl ?_
          refine b_aload_n X dX6_fitsAll_20 rfl 0 rfl ?_
          refine g_6_11 X kF_0 m_f_X6_70 dX6_fitsAll_21 ?_
          refine g_1_0 X kF_237 m_f_X6_317 dX6_fitsAll_24 ?_
          refine b_iload_n X dX6_fitsAll_27 rfl 2 rfl ?_
          refine bSi (st := [.ref (ad 0)]) (nA := 2) X (c_X6_at l D C ad (237 + 1) (nt_k1 kF_237) v2 μ _ h) gw_X6_154 hd_X6_at rfl rfl ⟨Nat.le_of_ble_eq_true rfl, Nat.le_of_ble_eq_true rfl⟩ rfl rfl (Nat.le_of_ble_eq_true rfl) dX6_fitsAll_28 (fun r1 μ2 h => ?_)
          obtain ⟨rfl, h⟩ := h
          refine b_aload_n X dX6_fitsAll_31 rfl 0 rfl ?_
          refine g_6_11 X kF_0 m_f_X6_70 dX6_fitsAll_32 ?_
          refine g_1_1 X kF_237 m_f_X6_339 dX6_fitsAll_35 ?_
          refine b_iload_n X dX6_fitsAll_38 rfl 2 rfl ?_
          refine bSi (st := [.int r1, .ref (ad 0)]) (nA := 2) X (c_X6_at l D C ad (237 + 2) (nt_k2 kF_237) v2 μ _ h) gw_X6_154 hd_X6_at rfl rfl ⟨Nat.le_of_ble_eq_true rfl, Nat.le_of_ble_eq_true rfl⟩ rfl rfl (Nat.le_of_ble_eq_true rfl) dX6_fitsAll_39 (fun r3 μ4 h => ?_)
          obtain ⟨rfl, h⟩ := h
          refine b_iload_n X dX6_fitsAll_42 rfl 1 rfl ?_
          refine bVi (st := []) (nA := 3) X (c_X6_takenOf l D C ad r1 r3 a1 μ _ h) kF_0 (by decide) (enc_6 kF_0) rfl gw_X6_314 ⟨rfl, hd_X6_takenOf⟩ rfl rfl ⟨Nat.le_of_ble_eq_true rfl, Nat.le_of_ble_eq_true rfl⟩ rfl rfl (Nat.le_of_ble_eq_true rfl) dX6_fitsAll_43 (fun r5 μ6 h => ?_)
          refine b_istore_n (lv' := [(3, .int r5), (0, .ref (ad 0)), (1, .int a1), (2, .int v2)]) X dX6_fitsAll_46 rfl (by decide) rfl ?_
          refine b_iload_n X dX6_fitsAll_47 rfl 0 rfl ?_
          refine b_aload_n X dX6_fitsAll_48 rfl 1 rfl ?_
          refine g_6_11 X kF_0 m_f_X6_70 dX6_fitsAll_49 ?_
          refine g_1_2 X kF_237 m_f_X6_319 dX6_fitsAll_52 ?_
          refine b_iload_n X dX6_fitsAll_55 rfl 3 rfl ?_
          refine bSi (st := [.int r5]) (nA := 2) X (c_X6_at l D C ad (237 + 3) (nt_k3 kF_237) v2 μ6 _ h) gw_X6_154 hd_X6_at rfl rfl ⟨Nat.le_of_ble_eq_true rfl, Nat.le_of_ble_eq_true rfl⟩ rfl rfl (Nat.le_of_ble_eq_true rfl) dX6_fitsAll_56 (fun r7 μ8 h => ?_)
          obtain ⟨rfl, h⟩ := h
          refine b_icmp_eq (t := 64) X dX6_fitsAll_59 (by decide) (fun c => ?_) (fun c => ?_)
          · replace h := h.1 c
            obtain ⟨x9, ex9⟩ : ∃ y : Int32, y = v2 + (nI 1) := ⟨_, rfl⟩
            replace h := h x9 ex9
            refine b_iinc (x := x9) (lv' := [(2, .int x9), (3, .int r5), (0, .ref (ad 0)), (1, .int a1)]) (q := 3) X dX6_fitsAll_64 rfl (by rw [ex9]; rfl) (by decide) rfl ?_
            refine b_goto (t := 2) X dX6_fitsAll_67 (by decide) ?_
            refine b_sub (lv' := [(0, .ref (ad 0)), (1, .int a1), (2, .int x9)]) [2, 3, 0] rfl ?_
            exact T2 x9 μ6 h
          · replace h := h.2 c
            refine b_iconst (v := (nI 0)) X dX6_fitsAll_62 (by decide) ?_
            exact hret _ _ _ _ ⟨(Or.inl rfl), h⟩ dX6_fitsAll_63
    rw [eY] at B2
    exact B2
  refine b_iconst (v := (nI 0)) X dX6_fitsAll_0 (by decide) ?_
  refine b_istore_n (lv' := [(2, .int (nI 0)), (0, .ref (ad 0)), (1, .int a1)]) X dX6_fitsAll_1 rfl (by decide) rfl ?_
  refine b_sub (lv' := [(0, .ref (ad 0)), (1, .int a1), (2, .int (nI 0))]) [1, 2, 0] rfl ?_
  exact B2 (nI 0) μ h
set_option maxHeartbeats 4000000 in
set_option maxRecDepth 100000 in
theorem c_X6_fitting (l : Launch) (D : va_G) (C : Nat → ClassId) (ad : Nat → Nat)  (μ : Mem) (Q : Int64 → Mem → Prop) (h : w_X6_fitting  μ Q) : Ml sF l yX6_fitting cX6_fitting 4 (some .long) rm_X6_fitting D C ad [.ref (ad 0)] μ Q := by
  refine fm_l (by decide +kernel) sF_lt (Nat.le_of_ble_eq_true rfl) (fun K X hret => ?_)
  have X : CK sF D C ad K cX6_fitting 4 RX6 := X
  refine b_lv (lv' := [(0, .ref (ad 0))]) rfl ?_
  unfold w_X6_fitting at h
  have B4 : ∀ (v1 : Int64) (v3 : Int32) (μ : Mem), w_X6_fitting_4 v1 v3 μ Q → WB sF l D C ad rm_X6_fitting K 4 μ 4 [(0, .ref (ad 0)), (1, .long v1), (3, .int v3)] [] := by
    intro v1 v3 μ h
    obtain ⟨Y4, eY⟩ : ∃ Y : Int64 → Int32 → Mem → Prop, Y = fun (v1 : Int64) (v3 : Int32) (μ : Mem) => WB sF l D C ad rm_X6_fitting K 4 μ 4 [(0, .ref (ad 0)), (1, .long v1), (3, .int v3)] [] := ⟨_, rfl⟩
    have B4 : Y4 v1 v3 μ := by
      unfold w_X6_fitting_4 at h
      refine h Y4 ?_
      clear h
      intro v1 v3 μ h
      unfold s_X6_fitting_4 at h
      rw [eY]
      show WB sF l D C ad rm_X6_fitting K 4 μ 4 [(0, .ref (ad 0)), (1, .long v1), (3, .int v3)] []
      have T4 : ∀ (v1 : Int64) (v3 : Int32) (μ : Mem), Y4 v1 v3 μ → WB sF l D C ad rm_X6_fitting K 4 μ 4 [(0, .ref (ad 0)), (1, .long v1), (3, .int v3)] [] := by
        intro v1 v3 μ h
        rw [eY] at h
        exact h
      clear eY
      have B24 : ∀ (v1 : Int64) (v3 : Int32) (μ : Mem), w_X6_fitting_24 Y4 v1 v3 μ Q → WB sF l D C ad rm_X6_fitting K 4 μ 24 [(0, .ref (ad 0)), (1, .long v1), (3, .int v3)] [] := by
        intro v1 v3 μ h
        unfold w_X6_fitting_24 at h
        obtain ⟨x4, ex4⟩ : ∃ y : Int32, y = v3 + (nI 1) := ⟨_, rfl⟩
        replace h := h x4 ex4
        refine b_iinc (x := x4) (lv' := [(3, .int x4), (0, .ref (ad 0)), (1, .long v1)]) (q := 2) X dX6_fitting_24 rfl (by rw [ex4]; rfl) (by decide) rfl ?_
        refine b_goto (t := 4) X dX6_fitting_27 (by decide) ?_
        refine b_sub (lv' := [(0, .ref (ad 0)), (1, .long v1), (3, .int x4)]) [1, 2, 0] rfl ?_
        exact T4 v1 x4 μ h
      refine b_iload_n X dX6_fitting_4 rfl 2 rfl ?_
      refine b_bipush (v := (nI 40)) X dX6_fitting_5 (by decide) ?_
      refine b_icmp_gt (t := 30) X dX6_fitting_7 (by decide) (fun c => ?_) (fun c => ?_)
      · replace h := h.1 c
        refine b_lload_n X dX6_fitting_30 rfl 1 rfl ?_
        exact hret _ _ _ _ h dX6_fitting_31
      · replace h := h.2 c
        refine b_aload_n X dX6_fitting_10 rfl 0 rfl ?_
        refine b_iload_n X dX6_fitting_11 rfl 2 rfl ?_
        refine bVi (st := []) (nA := 1) X (c_X6_fitsAll l D C ad v3 μ _ h) kF_0 (by decide) (enc_6 kF_0) rfl gw_X6_336 ⟨rfl, hd_X6_fitsAll⟩ rfl rfl ⟨Nat.le_of_ble_eq_true rfl, Nat.le_of_ble_eq_true rfl⟩ rfl rfl (Nat.le_of_ble_eq_true rfl) dX6_fitting_12 (fun r1 μ2 h => ?_)
        refine b_if_eq (t := 24) X dX6_fitting_15 (by decide) (fun c => ?_) (fun c => ?_)
        · replace h := h.1 c
          refine b_sub (lv' := [(0, .ref (ad 0)), (1, .long v1), (3, .int v3)]) [0, 1, 2] rfl ?_
          exact B24 v1 v3 μ2 h
        · replace h := h.2 c
          refine b_lload_n X dX6_fitting_18 rfl 1 rfl ?_
          refine b_lconst (v := (lN 1)) X dX6_fitting_19 (by decide) ?_
          refine b_iload_n X dX6_fitting_20 rfl 2 rfl ?_
          refine b_lshl X dX6_fitting_21 ?_
          refine b_lor X dX6_fitting_22 ?_
          refine b_topl (fun x3 ex3 => ?_)
          replace h := h x3 ex3
          refine b_lstore_n (lv' := [(1, .long x3), (0, .ref (ad 0)), (3, .int v3)]) X dX6_fitting_23 rfl (by decide) rfl ?_
          refine b_sub (lv' := [(0, .ref (ad 0)), (1, .long x3), (3, .int v3)]) [1, 0, 2] rfl ?_
          exact B24 x3 v3 μ2 h
    rw [eY] at B4
    exact B4
  refine b_lconst (v := (lN 0)) X dX6_fitting_0 (by decide) ?_
  refine b_lstore_n (lv' := [(1, .long (lN 0)), (0, .ref (ad 0))]) X dX6_fitting_1 rfl (by decide) rfl ?_
  refine b_iconst (v := (nI 0)) X dX6_fitting_2 (by decide) ?_
  refine b_istore_n (lv' := [(3, .int (nI 0)), (1, .long (lN 0)), (0, .ref (ad 0))]) X dX6_fitting_3 rfl (by decide) rfl ?_
  refine b_sub (lv' := [(0, .ref (ad 0)), (1, .long (lN 0)), (3, .int (nI 0))]) [2, 1, 0] rfl ?_
  exact B4 (lN 0) (nI 0) μ h
set_option maxHeartbeats 4000000 in
set_option maxRecDepth 100000 in
theorem c_J13_bitCount_95d88 (l : Launch) (D : va_G) (C : Nat → ClassId) (ad : Nat → Nat) (a0 : Int64) (μ : Mem) (Q : Int32 → Prop) (h : w_J13_bitCount_95d88 a0 μ Q) : Mi sF l yJ13_bitCount_95d88 cJ13_bitCount_95d88 2 (some .int) rm_J13_bitCount_95d88 D C ad [.long a0] μ (fun r μ' => μ = μ' ∧ Q r) := by
  refine fm_i (by decide +kernel) sF_lt (Nat.le_of_ble_eq_true rfl) (fun K X hret => ?_)
  have X : CK sF D C ad K cJ13_bitCount_95d88 2 RJ13 := X
  refine b_lv (lv' := [(0, .long a0)]) rfl ?_
  unfold w_J13_bitCount_95d88 at h
  refine b_lload_n X dJ13_bitCount_95d88_0 rfl 0 rfl ?_
  refine b_lload_n X dJ13_bitCount_95d88_1 rfl 0 rfl ?_
  refine b_iconst (v := (nI 1)) X dJ13_bitCount_95d88_2 (by decide) ?_
  refine b_lushr X dJ13_bitCount_95d88_3 ?_
  refine b_topl (fun x1 ex1 => ?_)
  replace h := h x1 ex1
  refine b_ldc2 (v := (lN 6148914691236517205)) X m_K_J13_314 dJ13_bitCount_95d88_4 ?_
  refine b_land X dJ13_bitCount_95d88_7 ?_
  refine b_lsub X dJ13_bitCount_95d88_8 ?_
  refine b_topl (fun x2 ex2 => ?_)
  replace h := h x2 ex2
  refine b_lstore_n (lv' := [(0, .long x2)]) X dJ13_bitCount_95d88_9 rfl (by decide) rfl ?_
  refine b_lload_n X dJ13_bitCount_95d88_10 rfl 0 rfl ?_
  refine b_ldc2 (v := (lN 3689348814741910323)) X m_K_J13_316 dJ13_bitCount_95d88_11 ?_
  refine b_land X dJ13_bitCount_95d88_14 ?_
  refine b_lload_n X dJ13_bitCount_95d88_15 rfl 0 rfl ?_
  refine b_iconst (v := (nI 2)) X dJ13_bitCount_95d88_16 (by decide) ?_
  refine b_lushr X dJ13_bitCount_95d88_17 ?_
  refine b_topl (fun x3 ex3 => ?_)
  replace h := h x3 ex3
  refine b_ldc2 (v := (lN 3689348814741910323)) X m_K_J13_316 dJ13_bitCount_95d88_18 ?_
  refine b_land X dJ13_bitCount_95d88_21 ?_
  refine b_ladd X dJ13_bitCount_95d88_22 ?_
  refine b_topl (fun x4 ex4 => ?_)
  replace h := h x4 ex4
  refine b_lstore_n (lv' := [(0, .long x4)]) X dJ13_bitCount_95d88_23 rfl (by decide) rfl ?_
  refine b_lload_n X dJ13_bitCount_95d88_24 rfl 0 rfl ?_
  refine b_lload_n X dJ13_bitCount_95d88_25 rfl 0 rfl ?_
  refine b_iconst (v := (nI 4)) X dJ13_bitCount_95d88_26 (by decide) ?_
  refine b_lushr X dJ13_bitCount_95d88_27 ?_
  refine b_topl (fun x5 ex5 => ?_)
  replace h := h x5 ex5
  refine b_ladd X dJ13_bitCount_95d88_28 ?_
  refine b_ldc2 (v := (lN 1085102592571150095)) X m_K_J13_318 dJ13_bitCount_95d88_29 ?_
  refine b_land X dJ13_bitCount_95d88_32 ?_
  refine b_topl (fun x6 ex6 => ?_)
  replace h := h x6 ex6
  refine b_lstore_n (lv' := [(0, .long x6)]) X dJ13_bitCount_95d88_33 rfl (by decide) rfl ?_
  refine b_lload_n X dJ13_bitCount_95d88_34 rfl 0 rfl ?_
  refine b_lload_n X dJ13_bitCount_95d88_35 rfl 0 rfl ?_
  refine b_bipush (v := (nI 8)) X dJ13_bitCount_95d88_36 (by decide) ?_
  refine b_lushr X dJ13_bitCount_95d88_38 ?_
  refine b_topl (fun x7 ex7 => ?_)
  replace h := h x7 ex7
  refine b_ladd X dJ13_bitCount_95d88_39 ?_
  refine b_topl (fun x8 ex8 => ?_)
  replace h := h x8 ex8
  refine b_lstore_n (lv' := [(0, .long x8)]) X dJ13_bitCount_95d88_40 rfl (by decide) rfl ?_
  refine b_lload_n X dJ13_bitCount_95d88_41 rfl 0 rfl ?_
  refine b_lload_n X dJ13_bitCount_95d88_42 rfl 0 rfl ?_
  refine b_bipush (v := (nI 16)) X dJ13_bitCount_95d88_43 (by decide) ?_
  refine b_lushr X dJ13_bitCount_95d88_45 ?_
  refine b_topl (fun x9 ex9 => ?_)
  replace h := h x9 ex9
  refine b_ladd X dJ13_bitCount_95d88_46 ?_
  refine b_topl (fun x10 ex10 => ?_)
  replace h := h x10 ex10
  refine b_lstore_n (lv' := [(0, .long x10)]) X dJ13_bitCount_95d88_47 rfl (by decide) rfl ?_
  refine b_lload_n X dJ13_bitCount_95d88_48 rfl 0 rfl ?_
  refine b_lload_n X dJ13_bitCount_95d88_49 rfl 0 rfl ?_
  refine b_bipush (v := (nI 32)) X dJ13_bitCount_95d88_50 (by decide) ?_
  refine b_lushr X dJ13_bitCount_95d88_52 ?_
  refine b_topl (fun x11 ex11 => ?_)
  replace h := h x11 ex11
  refine b_ladd X dJ13_bitCount_95d88_53 ?_
  refine b_topl (fun x12 ex12 => ?_)
  replace h := h x12 ex12
  refine b_lstore_n (lv' := [(0, .long x12)]) X dJ13_bitCount_95d88_54 rfl (by decide) rfl ?_
  refine b_lload_n X dJ13_bitCount_95d88_55 rfl 0 rfl ?_
  refine b_l2i X dJ13_bitCount_95d88_56 ?_
  refine b_bipush (v := (nI 127)) X dJ13_bitCount_95d88_57 (by decide) ?_
  refine b_iand X dJ13_bitCount_95d88_59 ?_
  exact hret _ _ _ _ ⟨rfl, h⟩ dJ13_bitCount_95d88_60
set_option maxHeartbeats 4000000 in
set_option maxRecDepth 100000 in
theorem c_X6_thick (l : Launch) (D : va_G) (C : Nat → ClassId) (ad : Nat → Nat) (a1 : Int32) (μ : Mem) (Q : Int32 → Mem → Prop) (h : w_X6_thick a1 μ Q) : Mi sF l yX6_thick cX6_thick 7 (some .int) rm_X6_thick D C ad [.ref (ad 0), .int a1] μ Q := by
  refine fm_i (by decide +kernel) sF_lt (Nat.le_of_ble_eq_true rfl) (fun K X hret => ?_)
  have X : CK sF D C ad K cX6_thick 7 RX6 := X
  refine b_lv (lv' := [(0, .ref (ad 0)), (1, .int a1)]) rfl ?_
  unfold w_X6_thick at h
  have B42 : ∀ (v2 : Int64) (v4 : Int32) (v5 : Int32) (μ : Mem), w_X6_thick_42 a1 v2 v4 v5 μ Q → WB sF l D C ad rm_X6_thick K 7 μ 42 [(1, .int a1), (2, .long v2), (4, .int v4), (5, .int v5)] [] := by
    intro v2 v4 v5 μ h
    obtain ⟨Y42, eY⟩ : ∃ Y : Int32 → Int32 → Prop, Y = fun (v4 : Int32) (v5 : Int32) => WB sF l D C ad rm_X6_thick K 7 μ 42 [(1, .int a1), (2, .long v2), (4, .int v4), (5, .int v5)] [] := ⟨_, rfl⟩
    have B42 : Y42 v4 v5 := by
      unfold w_X6_thick_42 at h
      refine h Y42 ?_
      clear h
      intro v4 v5 h
      unfold s_X6_thick_42 at h
      rw [eY]
      show WB sF l D C ad rm_X6_thick K 7 μ 42 [(1, .int a1), (2, .long v2), (4, .int v4), (5, .int v5)] []
      have T42 : ∀ (v4 : Int32) (v5 : Int32), Y42 v4 v5 → WB sF l D C ad rm_X6_thick K 7 μ 42 [(1, .int a1), (2, .long v2), (4, .int v4), (5, .int v5)] [] := by
        intro v4 v5 h
        rw [eY] at h
        exact h
      clear eY
      have B65 : ∀ (v4 : Int32) (v5 : Int32) (s1 : Int32), w_X6_thick_65 a1 Y42 v2 v4 v5 s1 μ Q → WB sF l D C ad rm_X6_thick K 7 μ 65 [(1, .int a1), (2, .long v2), (4, .int v4), (5, .int v5)] [.int s1] := by
        intro v4 v5 s1 h
        unfold w_X6_thick_65 at h
        have B87 : ∀ (v4 : Int32) (v5 : Int32), w_X6_thick_87 a1 Y42 v2 v4 v5 μ Q → WB sF l D C ad rm_X6_thick K 7 μ 87 [(1, .int a1), (2, .long v2), (4, .int v4), (5, .int v5)] [] := by
          intro v4 v5 h
          unfold w_X6_thick_87 at h
          obtain ⟨x9, ex9⟩ : ∃ y : Int32, y = v5 + (nI 1) := ⟨_, rfl⟩
          replace h := h x9 ex9
          refine b_iinc (x := x9) (lv' := [(5, .int x9), (1, .int a1), (2, .long v2), (4, .int v4)]) (q := 3) X dX6_thick_87 rfl (by rw [ex9]; rfl) (by decide) rfl ?_
          refine b_goto (t := 42) X dX6_thick_90 (by decide) ?_
          refine b_sub (lv' := [(1, .int a1), (2, .long v2), (4, .int v4), (5, .int x9)]) [1, 2, 3, 0] rfl ?_
          exact T42 v4 x9 h
        have B83 : ∀ (v5 : Int32), w_X6_thick_83 a1 Y42 v2 v5 μ Q → WB sF l D C ad rm_X6_thick K 7 μ 83 [(1, .int a1), (2, .long v2), (5, .int v5)] [] := by
          intro v5 h
          unfold w_X6_thick_83 at h
          refine b_iload X dX6_thick_83 2 rfl ?_
          refine b_istore (lv' := [(4, .int v5), (1, .int a1), (2, .long v2), (5, .int v5)]) X dX6_thick_85 (by decide) rfl ?_
          refine b_sub (lv' := [(1, .int a1), (2, .long v2), (4, .int v5), (5, .int v5)]) [1, 2, 0, 3] rfl ?_
          exact B87 v5 v5 h
        refine b_istore (lv' := [(6, .int s1), (1, .int a1), (2, .long v2), (4, .int v4), (5, .int v5)]) X dX6_thick_65 (by decide) rfl ?_
        refine b_iload X dX6_thick_67 0 rfl ?_
        refine b_if_eq (t := 87) X dX6_thick_69 (by decide) (fun c => ?_) (fun c => ?_)
        · replace h := h.1 c
          refine b_sub (lv' := [(1, .int a1), (2, .long v2), (4, .int v4), (5, .int v5)]) [1, 2, 3, 4] rfl ?_
          exact B87 v4 v5 h
        · replace h := h.2 c
          refine b_iload_n X dX6_thick_72 rfl 1 rfl ?_
          refine b_iconst (v := (nI 2)) X dX6_thick_73 (by decide) ?_
          refine b_icmp_eq (t := 83) X dX6_thick_74 (by decide) (fun c => ?_) (fun c => ?_)
          · replace h := h.1 c
            refine b_sub (lv' := [(1, .int a1), (2, .long v2), (5, .int v5)]) [1, 2, 4] rfl ?_
            exact B83 v5 h
          · replace h := h.2 c
            refine b_iload X dX6_thick_77 3 rfl ?_
            refine b_iconst (v := ((-1) : Int32)) X dX6_thick_79 (by decide) ?_
            refine b_icmp_ne (t := 87) X dX6_thick_80 (by decide) (fun c => ?_) (fun c => ?_)
            · replace h := h.1 c
              refine b_sub (lv' := [(1, .int a1), (2, .long v2), (4, .int v4), (5, .int v5)]) [1, 2, 3, 4] rfl ?_
              exact B87 v4 v5 h
            · replace h := h.2 c
              refine b_sub (lv' := [(1, .int a1), (2, .long v2), (5, .int v5)]) [1, 2, 4] rfl ?_
              exact B83 v5 h
      refine b_iload X dX6_thick_42 3 rfl ?_
      refine b_bipush (v := (nI 40)) X dX6_thick_44 (by decide) ?_
      refine b_icmp_gt (t := 93) X dX6_thick_46 (by decide) (fun c => ?_) (fun c => ?_)
      · replace h := h.1 c
        refine b_iload X dX6_thick_93 2 rfl ?_
        exact hret _ _ _ _ h dX6_thick_95
      · replace h := h.2 c
        refine b_lload_n X dX6_thick_49 rfl 1 rfl ?_
        refine b_iload X dX6_thick_50 3 rfl ?_
        refine b_lshr X dX6_thick_52 ?_
        refine b_lconst (v := (lN 1)) X dX6_thick_53 (by decide) ?_
        refine b_land X dX6_thick_54 ?_
        refine b_lconst (v := (lN 1)) X dX6_thick_55 (by decide) ?_
        refine b_lcmp X dX6_thick_56 ?_
        refine b_if_ne (t := 64) X dX6_thick_57 (by decide) (fun c => ?_) (fun c => ?_)
        · replace h := h.1 c
          refine b_iconst (v := (nI 0)) X dX6_thick_64 (by decide) ?_
          refine b_sub (lv' := [(1, .int a1), (2, .long v2), (4, .int v4), (5, .int v5)]) [0, 1, 2, 3] rfl ?_
          exact B65 v4 v5 (nI 0) h
        · replace h := h.2 c
          refine b_iconst (v := (nI 1)) X dX6_thick_60 (by decide) ?_
          refine b_goto (t := 65) X dX6_thick_61 (by decide) ?_
          refine b_sub (lv' := [(1, .int a1), (2, .long v2), (4, .int v4), (5, .int v5)]) [0, 1, 2, 3] rfl ?_
          exact B65 v4 v5 (nI 1) h
    rw [eY] at B42
    exact B42
  refine b_iload_n X dX6_thick_0 rfl 1 rfl ?_
  refine b_iconst (v := (nI 0)) X dX6_thick_1 (by decide) ?_
  refine b_iconst (v := (nI 2)) X dX6_thick_2 (by decide) ?_
  refine bSi (st := []) (nA := 3) X (c_X6_within l D C ad a1 (nI 0) (nI 2) μ _ h) gw_X6_80 hd_X6_within rfl rfl ⟨Nat.le_of_ble_eq_true rfl, Nat.le_of_ble_eq_true rfl⟩ rfl rfl (Nat.le_of_ble_eq_true rfl) dX6_thick_3 (fun r1 μ2 h => ?_)
  obtain ⟨rfl, h⟩ := h
  refine b_if_ne (t := 12) X dX6_thick_6 (by decide) (fun c => ?_) (fun c => ?_)
  · replace h := h.1 c
    refine b_aload_n X dX6_thick_12 rfl 0 rfl ?_
    refine bVi (st := []) (nA := 0) X (c_X6_isBare l D C ad  μ _ h) kF_0 (by decide) (enc_6 kF_0) rfl gw_X6_173 ⟨rfl, hd_X6_isBare⟩ rfl rfl ⟨Nat.le_of_ble_eq_true rfl, Nat.le_of_ble_eq_true rfl⟩ rfl rfl (Nat.le_of_ble_eq_true rfl) dX6_thick_13 (fun r3 μ4 h => ?_)
    obtain ⟨rfl, h⟩ := h
    refine b_if_eq (t := 22) X dX6_thick_16 (by decide) (fun c => ?_) (fun c => ?_)
    · replace h := h.1 c
      refine b_aload_n X dX6_thick_22 rfl 0 rfl ?_
      refine bVl (st := []) (nA := 0) X (c_X6_fitting l D C ad  μ _ h) kF_0 (by decide) (enc_6 kF_0) rfl gw_X6_301 ⟨rfl, hd_X6_fitting⟩ rfl rfl ⟨Nat.le_of_ble_eq_true rfl, Nat.le_of_ble_eq_true rfl⟩ rfl rfl (Nat.le_of_ble_eq_true rfl) dX6_thick_23 (fun r5 μ6 h => ?_)
      refine b_lstore_n (lv' := [(2, .long r5), (0, .ref (ad 0)), (1, .int a1)]) X dX6_thick_26 rfl (by decide) rfl ?_
      refine b_iload_n X dX6_thick_27 rfl 2 rfl ?_
      refine b_if_ne (t := 36) X dX6_thick_28 (by decide) (fun c => ?_) (fun c => ?_)
      · replace h := h.1 c
        refine b_iconst (v := ((-1) : Int32)) X dX6_thick_36 (by decide) ?_
        refine b_istore (lv' := [(4, .int ((-1) : Int32)), (2, .long r5), (0, .ref (ad 0)), (1, .int a1)]) X dX6_thick_37 (by decide) rfl ?_
        refine b_iconst (v := (nI 0)) X dX6_thick_39 (by decide) ?_
        refine b_istore (lv' := [(5, .int (nI 0)), (4, .int ((-1) : Int32)), (2, .long r5), (0, .ref (ad 0)), (1, .int a1)]) X dX6_thick_40 (by decide) rfl ?_
        refine b_sub (lv' := [(1, .int a1), (2, .long r5), (4, .int ((-1) : Int32)), (5, .int (nI 0))]) [4, 2, 1, 0] rfl ?_
        exact B42 r5 ((-1) : Int32) (nI 0) μ6 h
      · replace h := h.2 c
        refine b_lload_n X dX6_thick_31 rfl 0 rfl ?_
        refine bSi (st := []) (nA := 1) X (c_J13_bitCount_95d88 l D C ad r5 μ6 _ h) gw_X6_305 hd_J13_bitCount_95d88 rfl rfl ⟨Nat.le_of_ble_eq_true rfl, Nat.le_of_ble_eq_true rfl⟩ rfl rfl (Nat.le_of_ble_eq_true rfl) dX6_thick_32 (fun r7 μ8 h => ?_)
        obtain ⟨rfl, h⟩ := h
        exact hret _ _ _ _ h dX6_thick_35
    · replace h := h.2 c
      refine b_ldc (v := ((-1000000003) : Int32)) X m_k_X6_177 dX6_thick_19 ?_
      exact hret _ _ _ _ h dX6_thick_21
  · replace h := h.2 c
    refine b_ldc (v := ((-1000000002) : Int32)) X m_k_X6_84 dX6_thick_9 ?_
    exact hret _ _ _ _ h dX6_thick_11
set_option maxHeartbeats 4000000 in
set_option maxRecDepth 100000 in
theorem c_X6_greatestPart (l : Launch) (D : va_G) (C : Nat → ClassId) (ad : Nat → Nat) (a1 : Int64) (a3 : Int32) (a4 : Int32) (μ : Mem) (Q : Int32 → Mem → Prop) (h : w_X6_greatestPart a1 a3 a4 μ Q) : Mi sF l yX6_greatestPart cX6_greatestPart 9 (some .int) rm_X6_greatestPart D C ad [.ref (ad 0), .long a1, .int a3, .int a4] μ Q := by
  refine fm_i (by decide +kernel) sF_lt (Nat.le_of_ble_eq_true rfl) (fun K X hret => ?_)
  have X : CK sF D C ad K cX6_greatestPart 9 RX6 := X
  refine b_lv (lv' := [(0, .ref (ad 0)), (1, .long a1), (3, .int a3), (4, .int a4)]) rfl ?_
  unfold w_X6_greatestPart at h
  have B3 : ∀ (v5 : Int32) (μ : Mem), w_X6_greatestPart_3 a1 a3 a4 v5 μ Q → WB sF l D C ad rm_X6_greatestPart K 9 μ 3 [(0, .ref (ad 0)), (1, .long a1), (3, .int a3), (4, .int a4), (5, .int v5)] [] := by
    intro v5 μ h
    obtain ⟨Y3, eY⟩ : ∃ Y : Int32 → Mem → Prop, Y = fun (v5 : Int32) (μ : Mem) => WB sF l D C ad rm_X6_greatestPart K 9 μ 3 [(0, .ref (ad 0)), (1, .long a1), (3, .int a3), (4, .int a4), (5, .int v5)] [] := ⟨_, rfl⟩
    have B3 : Y3 v5 μ := by
      unfold w_X6_greatestPart_3 at h
      refine h Y3 ?_
      clear h
      intro v5 μ h
      unfold s_X6_greatestPart_3 at h
      rw [eY]
      show WB sF l D C ad rm_X6_greatestPart K 9 μ 3 [(0, .ref (ad 0)), (1, .long a1), (3, .int a3), (4, .int a4), (5, .int v5)] []
      have T3 : ∀ (v5 : Int32) (μ : Mem), Y3 v5 μ → WB sF l D C ad rm_X6_greatestPart K 9 μ 3 [(0, .ref (ad 0)), (1, .long a1), (3, .int a3), (4, .int a4), (5, .int v5)] [] := by
        intro v5 μ h
        rw [eY] at h
        exact h
      clear eY
      have B24 : ∀ (μ : Mem), w_X6_greatestPart_24 a1 a3 a4 μ Q → WB sF l D C ad rm_X6_greatestPart K 9 μ 24 [(0, .ref (ad 0)), (1, .long a1), (3, .int a3), (4, .int a4)] [] := by
        intro μ h
        unfold w_X6_greatestPart_24 at h
        have B30 : ∀ (v5 : Int32) (v6 : Int32) (μ : Mem), w_X6_greatestPart_30 a1 a3 a4 v5 v6 μ Q → WB sF l D C ad rm_X6_greatestPart K 9 μ 30 [(0, .ref (ad 0)), (1, .long a1), (3, .int a3), (4, .int a4), (5, .int v5), (6, .int v6)] [] := by
          intro v5 v6 μ h
          obtain ⟨Y30, eY⟩ : ∃ Y : Int32 → Int32 → Mem → Prop, Y = fun (v5 : Int32) (v6 : Int32) (μ : Mem) => WB sF l D C ad rm_X6_greatestPart K 9 μ 30 [(0, .ref (ad 0)), (1, .long a1), (3, .int a3), (4, .int a4), (5, .int v5), (6, .int v6)] [] := ⟨_, rfl⟩
          have B30 : Y30 v5 v6 μ := by
            unfold w_X6_greatestPart_30 at h
            refine h Y30 ?_
            clear h
            intro v5 v6 μ h
            unfold s_X6_greatestPart_30 at h
            rw [eY]
            show WB sF l D C ad rm_X6_greatestPart K 9 μ 30 [(0, .ref (ad 0)), (1, .long a1), (3, .int a3), (4, .int a4), (5, .int v5), (6, .int v6)] []
            have T30 : ∀ (v5 : Int32) (v6 : Int32) (μ : Mem), Y30 v5 v6 μ → WB sF l D C ad rm_X6_greatestPart K 9 μ 30 [(0, .ref (ad 0)), (1, .long a1), (3, .int a3), (4, .int a4), (5, .int v5), (6, .int v6)] [] := by
              intro v5 v6 μ h
              rw [eY] at h
              exact h
            clear eY
            have B95 : ∀ (v5 : Int32) (v6 : Int32) (μ : Mem), w_X6_greatestPart_95 a1 a3 a4 Y30 v5 v6 μ Q → WB sF l D C ad rm_X6_greatestPart K 9 μ 95 [(0, .ref (ad 0)), (1, .long a1), (3, .int a3), (4, .int a4), (5, .int v5), (6, .int v6)] [] := by
              intro v5 v6 μ h
              unfold w_X6_greatestPart_95 at h
              obtain ⟨x11, ex11⟩ : ∃ y : Int32, y = v6 + (nI 1) := ⟨_, rfl⟩
              replace h := h x11 ex11
              refine b_iinc (x := x11) (lv' := [(6, .int x11), (0, .ref (ad 0)), (1, .long a1), (3, .int a3), (4, .int a4), (5, .int v5)]) (q := 5) X dX6_greatestPart_95 rfl (by rw [ex11]; rfl) (by decide) rfl ?_
              refine b_goto (t := 30) X dX6_greatestPart_98 (by decide) ?_
              refine b_sub (lv' := [(0, .ref (ad 0)), (1, .long a1), (3, .int a3), (4, .int a4), (5, .int v5), (6, .int x11)]) [1, 2, 3, 4, 5, 0] rfl ?_
              exact T30 v5 x11 μ h
            refine b_iload X dX6_greatestPart_30 5 rfl ?_
            refine b_bipush (v := (nI 40)) X dX6_greatestPart_32 (by decide) ?_
            refine b_icmp_gt (t := 101) X dX6_greatestPart_34 (by decide) (fun c => ?_) (fun c => ?_)
            · replace h := h.1 c
              refine b_iload X dX6_greatestPart_101 4 rfl ?_
              exact hret _ _ _ _ h dX6_greatestPart_103
            · replace h := h.2 c
              refine b_lload_n X dX6_greatestPart_37 rfl 1 rfl ?_
              refine b_iload X dX6_greatestPart_38 5 rfl ?_
              refine b_lshr X dX6_greatestPart_40 ?_
              refine b_lconst (v := (lN 1)) X dX6_greatestPart_41 (by decide) ?_
              refine b_land X dX6_greatestPart_42 ?_
              refine b_lconst (v := (lN 0)) X dX6_greatestPart_43 (by decide) ?_
              refine b_lcmp X dX6_greatestPart_44 ?_
              refine b_if_ne (t := 51) X dX6_greatestPart_45 (by decide) (fun c => ?_) (fun c => ?_)
              · replace h := h.1 c
                refine b_aload_n X dX6_greatestPart_51 rfl 0 rfl ?_
                refine b_iload_n X dX6_greatestPart_52 rfl 2 rfl ?_
                refine b_iload X dX6_greatestPart_53 3 rfl ?_
                refine b_iload X dX6_greatestPart_55 5 rfl ?_
                refine bVi (st := []) (nA := 3) X (c_X6_takenOf l D C ad a3 a4 v6 μ _ h) kF_0 (by decide) (enc_6 kF_0) rfl gw_X6_314 ⟨rfl, hd_X6_takenOf⟩ rfl rfl ⟨Nat.le_of_ble_eq_true rfl, Nat.le_of_ble_eq_true rfl⟩ rfl rfl (Nat.le_of_ble_eq_true rfl) dX6_greatestPart_57 (fun r3 μ4 h => ?_)
                refine b_istore (lv' := [(7, .int r3), (0, .ref (ad 0)), (1, .long a1), (3, .int a3), (4, .int a4), (5, .int v5), (6, .int v6)]) X dX6_greatestPart_60 (by decide) rfl ?_
                refine b_aload_n X dX6_greatestPart_62 rfl 1 rfl ?_
                refine g_6_13 X kF_0 m_f_X6_77 dX6_greatestPart_63 ?_
                refine b_iload X dX6_greatestPart_66 0 rfl ?_
                refine bSi (st := []) (nA := 2) X (c_X6_at l D C ad 245 kF_245 r3 μ4 _ h) gw_X6_154 hd_X6_at rfl rfl ⟨Nat.le_of_ble_eq_true rfl, Nat.le_of_ble_eq_true rfl⟩ rfl rfl (Nat.le_of_ble_eq_true rfl) dX6_greatestPart_68 (fun r5 μ6 h => ?_)
                obtain ⟨rfl, h⟩ := h
                refine b_iconst (v := (nI 1)) X dX6_greatestPart_71 (by decide) ?_
                refine b_iadd X dX6_greatestPart_72 ?_
                refine b_topi (fun x7 ex7 => ?_)
                replace h := h x7 ex7
                refine b_istore (lv' := [(8, .int x7), (7, .int r3), (0, .ref (ad 0)), (1, .long a1), (3, .int a3), (4, .int a4), (5, .int v5), (6, .int v6)]) X dX6_greatestPart_73 (by decide) rfl ?_
                refine b_aload_n X dX6_greatestPart_75 rfl 2 rfl ?_
                refine g_6_13 X kF_0 m_f_X6_77 dX6_greatestPart_76 ?_
                refine b_iload X dX6_greatestPart_79 1 rfl ?_
                refine b_iload X dX6_greatestPart_81 0 rfl ?_
                refine bSv (st := []) (nA := 3) X (c_X6_put l D C ad 245 kF_245 r3 x7 μ4 _ h) gw_X6_227 hd_X6_put rfl rfl ⟨Nat.le_of_ble_eq_true rfl, Nat.le_of_ble_eq_true rfl⟩ rfl rfl (Nat.le_of_ble_eq_true rfl) dX6_greatestPart_83 (fun μ9 h => ?_)
                refine b_iload X dX6_greatestPart_86 6 rfl ?_
                refine b_iload X dX6_greatestPart_88 0 rfl ?_
                refine b_mmax X m_m_X6_342 m_s_mmax m_n_J9 m_c_mmax (Nat.le_of_ble_eq_true rfl) (Nat.le_of_ble_eq_true rfl) dX6_greatestPart_90 ?_
                refine b_topi (fun x10 ex10 => ?_)
                replace h := h x10 ex10
                refine b_istore (lv' := [(5, .int x10), (8, .int x7), (7, .int r3), (0, .ref (ad 0)), (1, .long a1), (3, .int a3), (4, .int a4), (6, .int v6)]) X dX6_greatestPart_93 (by decide) rfl ?_
                refine b_sub (lv' := [(0, .ref (ad 0)), (1, .long a1), (3, .int a3), (4, .int a4), (5, .int x10), (6, .int v6)]) [3, 4, 5, 6, 0, 7] rfl ?_
                exact B95 x10 v6 μ9 h
              · replace h := h.2 c
                refine b_goto (t := 95) X dX6_greatestPart_48 (by decide) ?_
                refine b_sub (lv' := [(0, .ref (ad 0)), (1, .long a1), (3, .int a3), (4, .int a4), (5, .int v5), (6, .int v6)]) [0, 1, 2, 3, 4, 5] rfl ?_
                exact B95 v5 v6 μ h
          rw [eY] at B30
          exact B30
        refine b_iconst (v := (nI 0)) X dX6_greatestPart_24 (by decide) ?_
        refine b_istore (lv' := [(5, .int (nI 0)), (0, .ref (ad 0)), (1, .long a1), (3, .int a3), (4, .int a4)]) X dX6_greatestPart_25 (by decide) rfl ?_
        refine b_iconst (v := (nI 0)) X dX6_greatestPart_27 (by decide) ?_
        refine b_istore (lv' := [(6, .int (nI 0)), (5, .int (nI 0)), (0, .ref (ad 0)), (1, .long a1), (3, .int a3), (4, .int a4)]) X dX6_greatestPart_28 (by decide) rfl ?_
        refine b_sub (lv' := [(0, .ref (ad 0)), (1, .long a1), (3, .int a3), (4, .int a4), (5, .int (nI 0)), (6, .int (nI 0))]) [2, 3, 4, 5, 1, 0] rfl ?_
        exact B30 (nI 0) (nI 0) μ h
      refine b_iload X dX6_greatestPart_3 4 rfl ?_
      refine b_bipush (v := (nI 40)) X dX6_greatestPart_5 (by decide) ?_
      refine b_icmp_gt (t := 24) X dX6_greatestPart_7 (by decide) (fun c => ?_) (fun c => ?_)
      · replace h := h.1 c
        refine b_sub (lv' := [(0, .ref (ad 0)), (1, .long a1), (3, .int a3), (4, .int a4)]) [0, 1, 2, 3] rfl ?_
        exact B24 μ h
      · replace h := h.2 c
        refine b_aload_n X dX6_greatestPart_10 rfl 0 rfl ?_
        refine g_6_13 X kF_0 m_f_X6_77 dX6_greatestPart_11 ?_
        refine b_iload X dX6_greatestPart_14 4 rfl ?_
        refine b_iconst (v := (nI 0)) X dX6_greatestPart_16 (by decide) ?_
        have hz := h.1
        replace h := h.2
        refine b_iast X kF_245 nF_245 hz dX6_greatestPart_17 (fun μ1 eμ1 => ?_)
        clear hz
        replace h := h μ1 eμ1
        obtain ⟨x2, ex2⟩ : ∃ y : Int32, y = v5 + (nI 1) := ⟨_, rfl⟩
        replace h := h x2 ex2
        refine b_iinc (x := x2) (lv' := [(5, .int x2), (0, .ref (ad 0)), (1, .long a1), (3, .int a3), (4, .int a4)]) (q := 4) X dX6_greatestPart_18 rfl (by rw [ex2]; rfl) (by decide) rfl ?_
        refine b_goto (t := 3) X dX6_greatestPart_21 (by decide) ?_
        refine b_sub (lv' := [(0, .ref (ad 0)), (1, .long a1), (3, .int a3), (4, .int a4), (5, .int x2)]) [1, 2, 3, 4, 0] rfl ?_
        exact T3 x2 μ1 h
    rw [eY] at B3
    exact B3
  refine b_iconst (v := (nI 0)) X dX6_greatestPart_0 (by decide) ?_
  refine b_istore (lv' := [(5, .int (nI 0)), (0, .ref (ad 0)), (1, .long a1), (3, .int a3), (4, .int a4)]) X dX6_greatestPart_1 (by decide) rfl ?_
  refine b_sub (lv' := [(0, .ref (ad 0)), (1, .long a1), (3, .int a3), (4, .int a4), (5, .int (nI 0))]) [1, 2, 3, 4, 0] rfl ?_
  exact B3 (nI 0) μ h
