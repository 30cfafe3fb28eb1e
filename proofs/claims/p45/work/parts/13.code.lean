set_option maxHeartbeats 4000000 in
set_option maxRecDepth 100000 in
theorem c_X6_lasts (l : Launch) (D : va_G) (C : Nat → ClassId) (ad : Nat → Nat) (a1 : Int32) (μ : Mem) (Q : Int32 → Prop) (h : w_X6_lasts a1 μ Q) : Mi sF l yX6_lasts cX6_lasts 3 (some .int) rm_X6_lasts D C ad [.ref (ad 0), .int a1] μ (fun r μ' => μ = μ' ∧ Q r) := by
  refine fm_i (by decide +kernel) sF_lt (Nat.le_of_ble_eq_true rfl) (fun K X hret => ?_)
  have X : CK sF D C ad K cX6_lasts 3 RX6 := X
  refine b_lv (lv' := [(0, .ref (ad 0)), (1, .int a1)]) rfl ?_
  unfold w_X6_lasts at h
  refine b_iload_n X dX6_lasts_0 rfl 1 rfl ?_
  refine bSi (st := []) (nA := 1) X (c_X6_isVillage l D C ad a1 μ _ h) gw_X6_184 hd_X6_isVillage ⟨Nat.zero_le _, Nat.zero_le _⟩ rfl rfl ⟨Nat.le_of_ble_eq_true rfl, Nat.le_of_ble_eq_true rfl⟩ rfl rfl (Nat.le_of_ble_eq_true rfl) dX6_lasts_1 (fun r1 μ2 h => ?_)
  obtain ⟨rfl, h⟩ := h
  refine b_if_ne (t := 10) X dX6_lasts_4 (by decide) (fun c => ?_) (fun c => ?_)
  · replace h := h.1 c
    refine b_aload_n X dX6_lasts_10 rfl 0 rfl ?_
    refine g_6_1 X kF_0 m_f_X6_19 dX6_lasts_11 ?_
    refine b_wf (fun hf3 => ?_)
    refine g_0_12 X (hf3 kF_0).1 m_f_X6_190 dX6_lasts_14 ?_
    refine b_iload_n X dX6_lasts_17 rfl 1 rfl ?_
    refine bSi (st := []) (nA := 2) X (c_X6_at l D C ad ((μ.2.2 0) + 8) (co_k8 (hf3 kF_0).1) a1 μ _ h) gw_X6_154 hd_X6_at ⟨Nat.zero_le _, Nat.zero_le _⟩ rfl rfl ⟨Nat.le_of_ble_eq_true rfl, Nat.le_of_ble_eq_true rfl⟩ rfl rfl (Nat.le_of_ble_eq_true rfl) dX6_lasts_18 (fun r4 μ5 h => ?_)
    obtain ⟨rfl, h⟩ := h
    refine b_istore_n (lv' := [(2, .int r4), (0, .ref (ad 0)), (1, .int a1)]) X dX6_lasts_21 rfl (by decide) rfl ?_
    refine b_iload_n X dX6_lasts_22 rfl 0 rfl ?_
    refine b_if_gt (t := 30) X dX6_lasts_23 (by decide) (fun c => ?_) (fun c => ?_)
    · replace h := h.1 c
      refine b_aload_n X dX6_lasts_30 rfl 1 rfl ?_
      refine g_6_3 X kF_0 m_f_X6_29 dX6_lasts_31 ?_
      refine g_4_8 X kF_25 m_f_X6_193 dX6_lasts_34 ?_
      refine b_iload_n X dX6_lasts_37 rfl 2 rfl ?_
      refine bSi (st := []) (nA := 2) X (c_X6_at l D C ad (25 + 4) (st_k4 kF_25) a1 μ _ h) gw_X6_154 hd_X6_at ⟨Nat.zero_le _, Nat.zero_le _⟩ rfl rfl ⟨Nat.le_of_ble_eq_true rfl, Nat.le_of_ble_eq_true rfl⟩ rfl rfl (Nat.le_of_ble_eq_true rfl) dX6_lasts_38 (fun r6 μ7 h => ?_)
      obtain ⟨rfl, h⟩ := h
      refine b_iload_n X dX6_lasts_41 rfl 0 rfl ?_
      have hz := h.1
      replace h := h.2
      refine b_idiv X dX6_lasts_42 hz ?_
      clear hz
      refine b_sipush (v := (nI 999)) X dX6_lasts_43 (by decide) ?_
      refine b_mmin X ⟨Nat.zero_le _, Nat.zero_le _⟩ m_m_X6_269 m_s_mmin m_n_J9 m_c_mmin (Nat.le_of_ble_eq_true rfl) (Nat.le_of_ble_eq_true rfl) dX6_lasts_46 ?_
      refine b_topi (fun x8 ex8 => ?_)
      replace h := h x8 ex8
      exact hret _ _ _ _ ⟨rfl, h⟩ dX6_lasts_49
    · replace h := h.2 c
      refine b_sipush (v := (nI 999)) X dX6_lasts_26 (by decide) ?_
      exact hret _ _ _ _ ⟨rfl, h⟩ dX6_lasts_29
  · replace h := h.2 c
    refine b_ldc (v := ((-1000000001) : Int32)) X m_k_X6_150 dX6_lasts_7 ?_
    exact hret _ _ _ _ ⟨rfl, h⟩ dX6_lasts_9
set_option maxHeartbeats 4000000 in
set_option maxRecDepth 100000 in
theorem c_J6_bitCount_0f7a4 (l : Launch) (D : va_G) (C : Nat → ClassId) (ad : Nat → Nat) (a0 : Int32) (μ : Mem) (Q : Int32 → Prop) (h : w_J6_bitCount_0f7a4 a0 μ Q) : Mi sF l yJ6_bitCount_0f7a4 cJ6_bitCount_0f7a4 1 (some .int) rm_J6_bitCount_0f7a4 D C ad [.int a0] μ (fun r μ' => μ = μ' ∧ Q r) := by
  refine fm_i (by decide +kernel) sF_lt (Nat.le_of_ble_eq_true rfl) (fun K X hret => ?_)
  have X : CK sF D C ad K cJ6_bitCount_0f7a4 1 RJ6 := X
  refine b_lv (lv' := [(0, .int a0)]) rfl ?_
  unfold w_J6_bitCount_0f7a4 at h
  refine b_iload_n X dJ6_bitCount_0f7a4_0 rfl 0 rfl ?_
  refine b_iload_n X dJ6_bitCount_0f7a4_1 rfl 0 rfl ?_
  refine b_iconst (v := (nI 1)) X dJ6_bitCount_0f7a4_2 (by decide) ?_
  refine b_iushr X dJ6_bitCount_0f7a4_3 ?_
  refine b_topi (fun x1 ex1 => ?_)
  replace h := h x1 ex1
  refine b_ldcw (v := (nI 1431655765)) X m_k_J6_265 dJ6_bitCount_0f7a4_4 ?_
  refine b_iand X dJ6_bitCount_0f7a4_7 ?_
  refine b_isub X dJ6_bitCount_0f7a4_8 ?_
  refine b_topi (fun x2 ex2 => ?_)
  replace h := h x2 ex2
  refine b_istore_n (lv' := [(0, .int x2)]) X dJ6_bitCount_0f7a4_9 rfl (by decide) rfl ?_
  refine b_iload_n X dJ6_bitCount_0f7a4_10 rfl 0 rfl ?_
  refine b_ldcw (v := (nI 858993459)) X m_k_J6_266 dJ6_bitCount_0f7a4_11 ?_
  refine b_iand X dJ6_bitCount_0f7a4_14 ?_
  refine b_iload_n X dJ6_bitCount_0f7a4_15 rfl 0 rfl ?_
  refine b_iconst (v := (nI 2)) X dJ6_bitCount_0f7a4_16 (by decide) ?_
  refine b_iushr X dJ6_bitCount_0f7a4_17 ?_
  refine b_topi (fun x3 ex3 => ?_)
  replace h := h x3 ex3
  refine b_ldcw (v := (nI 858993459)) X m_k_J6_266 dJ6_bitCount_0f7a4_18 ?_
  refine b_iand X dJ6_bitCount_0f7a4_21 ?_
  refine b_iadd X dJ6_bitCount_0f7a4_22 ?_
  refine b_topi (fun x4 ex4 => ?_)
  replace h := h x4 ex4
  refine b_istore_n (lv' := [(0, .int x4)]) X dJ6_bitCount_0f7a4_23 rfl (by decide) rfl ?_
  refine b_iload_n X dJ6_bitCount_0f7a4_24 rfl 0 rfl ?_
  refine b_iload_n X dJ6_bitCount_0f7a4_25 rfl 0 rfl ?_
  refine b_iconst (v := (nI 4)) X dJ6_bitCount_0f7a4_26 (by decide) ?_
  refine b_iushr X dJ6_bitCount_0f7a4_27 ?_
  refine b_topi (fun x5 ex5 => ?_)
  replace h := h x5 ex5
  refine b_iadd X dJ6_bitCount_0f7a4_28 ?_
  refine b_ldcw (v := (nI 252645135)) X m_k_J6_267 dJ6_bitCount_0f7a4_29 ?_
  refine b_iand X dJ6_bitCount_0f7a4_32 ?_
  refine b_topi (fun x6 ex6 => ?_)
  replace h := h x6 ex6
  refine b_istore_n (lv' := [(0, .int x6)]) X dJ6_bitCount_0f7a4_33 rfl (by decide) rfl ?_
  refine b_iload_n X dJ6_bitCount_0f7a4_34 rfl 0 rfl ?_
  refine b_iload_n X dJ6_bitCount_0f7a4_35 rfl 0 rfl ?_
  refine b_bipush (v := (nI 8)) X dJ6_bitCount_0f7a4_36 (by decide) ?_
  refine b_iushr X dJ6_bitCount_0f7a4_38 ?_
  refine b_topi (fun x7 ex7 => ?_)
  replace h := h x7 ex7
  refine b_iadd X dJ6_bitCount_0f7a4_39 ?_
  refine b_topi (fun x8 ex8 => ?_)
  replace h := h x8 ex8
  refine b_istore_n (lv' := [(0, .int x8)]) X dJ6_bitCount_0f7a4_40 rfl (by decide) rfl ?_
  refine b_iload_n X dJ6_bitCount_0f7a4_41 rfl 0 rfl ?_
  refine b_iload_n X dJ6_bitCount_0f7a4_42 rfl 0 rfl ?_
  refine b_bipush (v := (nI 16)) X dJ6_bitCount_0f7a4_43 (by decide) ?_
  refine b_iushr X dJ6_bitCount_0f7a4_45 ?_
  refine b_topi (fun x9 ex9 => ?_)
  replace h := h x9 ex9
  refine b_iadd X dJ6_bitCount_0f7a4_46 ?_
  refine b_topi (fun x10 ex10 => ?_)
  replace h := h x10 ex10
  refine b_istore_n (lv' := [(0, .int x10)]) X dJ6_bitCount_0f7a4_47 rfl (by decide) rfl ?_
  refine b_iload_n X dJ6_bitCount_0f7a4_48 rfl 0 rfl ?_
  refine b_bipush (v := (nI 63)) X dJ6_bitCount_0f7a4_49 (by decide) ?_
  refine b_iand X dJ6_bitCount_0f7a4_51 ?_
  exact hret _ _ _ _ ⟨rfl, h⟩ dJ6_bitCount_0f7a4_52
set_option maxHeartbeats 4000000 in
set_option maxRecDepth 100000 in
theorem c_X6_share (l : Launch) (D : va_G) (C : Nat → ClassId) (ad : Nat → Nat) (a1 : Int32) (a2 : Int32) (μ : Mem) (Q : Int32 → Prop) (h : w_X6_share a1 a2 μ Q) : Mi sF l yX6_share cX6_share 8 (some .int) rm_X6_share D C ad [.ref (ad 0), .int a1, .int a2] μ (fun r μ' => μ = μ' ∧ Q r) := by
  refine fm_i (by decide +kernel) sF_lt (Nat.le_of_ble_eq_true rfl) (fun K X hret => ?_)
  have X : CK sF D C ad K cX6_share 8 RX6 := X
  refine b_lv (lv' := [(0, .ref (ad 0)), (1, .int a1), (2, .int a2)]) rfl ?_
  unfold w_X6_share at h
  have B97 : ∀ (v3 : Int32) (v4 : Int32) (v5 : Int32) (v6 : Int32) (s1 : Int32), w_X6_share_97 a1 a2 v3 v4 v5 v6 s1 μ Q → WB sF l D C ad rm_X6_share K 8 μ 97 [(2, .int a2), (3, .int v3), (4, .int v4), (5, .int v5), (6, .int v6)] [.int s1] := by
    intro v3 v4 v5 v6 s1 h
    unfold w_X6_share_97 at h
    have B110 : ∀ (v3 : Int32) (v6 : Int32) (v7 : Int32) (s1 : Int32), w_X6_share_110 a1 a2 v3 v6 v7 s1 μ Q → WB sF l D C ad rm_X6_share K 8 μ 110 [(2, .int a2), (3, .int v3), (6, .int v6), (7, .int v7)] [.int s1] := by
      intro v3 v6 v7 s1 h
      unfold w_X6_share_110 at h
      refine b_iload_n X dX6_share_110 rfl 1 rfl ?_
      have hz := h.1
      replace h := h.2
      refine b_idiv X dX6_share_111 hz ?_
      clear hz
      refine b_iload_n X dX6_share_112 rfl 0 rfl ?_
      refine b_iload X dX6_share_113 3 rfl ?_
      refine b_icmp_ne (t := 123) X dX6_share_115 (by decide) (fun c => ?_) (fun c => ?_)
      · replace h := h.1 c
        refine b_iconst (v := (nI 0)) X dX6_share_123 (by decide) ?_
        refine b_iadd X dX6_share_124 ?_
        exact hret _ _ _ _ ⟨rfl, h⟩ dX6_share_125
      · replace h := h.2 c
        refine b_iload X dX6_share_118 2 rfl ?_
        refine b_goto (t := 124) X dX6_share_120 (by decide) ?_
        refine b_iadd X dX6_share_124 ?_
        exact hret _ _ _ _ ⟨rfl, h⟩ dX6_share_125
    refine b_istore (lv' := [(7, .int s1), (2, .int a2), (3, .int v3), (4, .int v4), (5, .int v5), (6, .int v6)]) X dX6_share_97 (by decide) rfl ?_
    refine b_iload_n X dX6_share_99 rfl 1 rfl ?_
    refine b_if_ne (t := 108) X dX6_share_100 (by decide) (fun c => ?_) (fun c => ?_)
    · replace h := h.1 c
      refine b_iload X dX6_share_108 4 rfl ?_
      refine b_sub (lv' := [(2, .int a2), (3, .int v3), (6, .int v6), (7, .int s1)]) [1, 2, 5, 0] rfl ?_
      exact B110 v3 v6 s1 v5 h
    · replace h := h.2 c
      refine b_iload X dX6_share_103 3 rfl ?_
      refine b_goto (t := 110) X dX6_share_105 (by decide) ?_
      refine b_sub (lv' := [(2, .int a2), (3, .int v3), (6, .int v6), (7, .int s1)]) [1, 2, 5, 0] rfl ?_
      exact B110 v3 v6 s1 v4 h
  refine b_iload_n X dX6_share_0 rfl 2 rfl ?_
  refine bSi (st := []) (nA := 1) X (c_X6_isVillage l D C ad a2 μ _ h) gw_X6_184 hd_X6_isVillage ⟨Nat.zero_le _, Nat.zero_le _⟩ rfl rfl ⟨Nat.le_of_ble_eq_true rfl, Nat.le_of_ble_eq_true rfl⟩ rfl rfl (Nat.le_of_ble_eq_true rfl) dX6_share_1 (fun r1 μ2 h => ?_)
  obtain ⟨rfl, h⟩ := h
  refine b_if_ne (t := 10) X dX6_share_4 (by decide) (fun c => ?_) (fun c => ?_)
  · replace h := h.1 c
    refine b_iload_n X dX6_share_10 rfl 1 rfl ?_
    refine b_iconst (v := (nI 0)) X dX6_share_11 (by decide) ?_
    refine b_sipush (v := (nI 999)) X dX6_share_12 (by decide) ?_
    refine bSi (st := []) (nA := 3) X (c_X6_within l D C ad a1 (nI 0) (nI 999) μ _ h) gw_X6_80 hd_X6_within ⟨Nat.zero_le _, Nat.zero_le _⟩ rfl rfl ⟨Nat.le_of_ble_eq_true rfl, Nat.le_of_ble_eq_true rfl⟩ rfl rfl (Nat.le_of_ble_eq_true rfl) dX6_share_15 (fun r3 μ4 h => ?_)
    obtain ⟨rfl, h⟩ := h
    refine b_if_ne (t := 24) X dX6_share_18 (by decide) (fun c => ?_) (fun c => ?_)
    · replace h := h.1 c
      refine b_aload_n X dX6_share_24 rfl 0 rfl ?_
      refine g_6_1 X kF_0 m_f_X6_19 dX6_share_25 ?_
      refine b_wf (fun hf5 => ?_)
      refine g_0_3 X (hf5 kF_0).1 m_f_X6_105 dX6_share_28 ?_
      refine b_topi (fun x6 ex6 => ?_)
      replace h := h x6 ex6
      refine b_istore_n (lv' := [(3, .int x6), (0, .ref (ad 0)), (1, .int a1), (2, .int a2)]) X dX6_share_31 rfl (by decide) rfl ?_
      refine b_iload_n X dX6_share_32 rfl 0 rfl ?_
      refine b_if_gt (t := 38) X dX6_share_33 (by decide) (fun c => ?_) (fun c => ?_)
      · replace h := h.1 c
        refine b_iload_n X dX6_share_38 rfl 2 rfl ?_
        refine b_aload_n X dX6_share_39 rfl 1 rfl ?_
        refine g_6_1 X kF_0 m_f_X6_19 dX6_share_40 ?_
        refine b_wf (fun hf7 => ?_)
        refine b_iconst (v := (nI 0)) X dX6_share_43 (by decide) ?_
        refine bVi (st := [.int a1]) (nA := 1) X (c_X0_postsOf l D C ad (μ.2.2 0) (hf7 kF_0).1 (nI 0) μ _ h) (hf7 kF_0).1 (by decide) (enc_0 (hf7 kF_0).1) rfl gw_X6_199 ⟨rfl, hd_X0_postsOf⟩ ⟨Nat.zero_le _, Nat.zero_le _⟩ rfl rfl ⟨Nat.le_of_ble_eq_true rfl, Nat.le_of_ble_eq_true rfl⟩ rfl rfl (Nat.le_of_ble_eq_true rfl) dX6_share_44 (fun r8 μ9 h => ?_)
        obtain ⟨rfl, h⟩ := h
        refine bSi (st := [.int a1]) (nA := 1) X (c_J6_bitCount_0f7a4 l D C ad r8 μ _ h) gw_X6_278 hd_J6_bitCount_0f7a4 ⟨Nat.zero_le _, Nat.zero_le _⟩ rfl rfl ⟨Nat.le_of_ble_eq_true rfl, Nat.le_of_ble_eq_true rfl⟩ rfl rfl (Nat.le_of_ble_eq_true rfl) dX6_share_47 (fun r10 μ11 h => ?_)
        obtain ⟨rfl, h⟩ := h
        refine b_imul X dX6_share_50 ?_
        refine b_topi (fun x12 ex12 => ?_)
        replace h := h x12 ex12
        refine b_istore (lv' := [(4, .int x12), (3, .int x6), (0, .ref (ad 0)), (1, .int a1), (2, .int a2)]) X dX6_share_51 (by decide) rfl ?_
        refine b_iload_n X dX6_share_53 rfl 3 rfl ?_
        refine b_aload_n X dX6_share_54 rfl 2 rfl ?_
        refine g_6_1 X kF_0 m_f_X6_19 dX6_share_55 ?_
        refine b_wf (fun hf13 => ?_)
        refine b_iconst (v := (nI 1)) X dX6_share_58 (by decide) ?_
        refine bVi (st := [.int a1]) (nA := 1) X (c_X0_postsOf l D C ad (μ.2.2 0) (hf13 kF_0).1 (nI 1) μ _ h) (hf13 kF_0).1 (by decide) (enc_0 (hf13 kF_0).1) rfl gw_X6_199 ⟨rfl, hd_X0_postsOf⟩ ⟨Nat.zero_le _, Nat.zero_le _⟩ rfl rfl ⟨Nat.le_of_ble_eq_true rfl, Nat.le_of_ble_eq_true rfl⟩ rfl rfl (Nat.le_of_ble_eq_true rfl) dX6_share_59 (fun r14 μ15 h => ?_)
        obtain ⟨rfl, h⟩ := h
        refine bSi (st := [.int a1]) (nA := 1) X (c_J6_bitCount_0f7a4 l D C ad r14 μ _ h) gw_X6_278 hd_J6_bitCount_0f7a4 ⟨Nat.zero_le _, Nat.zero_le _⟩ rfl rfl ⟨Nat.le_of_ble_eq_true rfl, Nat.le_of_ble_eq_true rfl⟩ rfl rfl (Nat.le_of_ble_eq_true rfl) dX6_share_62 (fun r16 μ17 h => ?_)
        obtain ⟨rfl, h⟩ := h
        refine b_imul X dX6_share_65 ?_
        refine b_topi (fun x18 ex18 => ?_)
        replace h := h x18 ex18
        refine b_istore (lv' := [(5, .int x18), (4, .int x12), (3, .int x6), (0, .ref (ad 0)), (1, .int a1), (2, .int a2)]) X dX6_share_66 (by decide) rfl ?_
        refine b_iload_n X dX6_share_68 rfl 4 rfl ?_
        refine b_iload X dX6_share_69 1 rfl ?_
        refine b_iload_n X dX6_share_71 rfl 2 rfl ?_
        have hz := h.1
        replace h := h.2
        refine b_idiv X dX6_share_72 hz ?_
        clear hz
        refine b_isub X dX6_share_73 ?_
        refine b_iload X dX6_share_74 0 rfl ?_
        refine b_iload_n X dX6_share_76 rfl 2 rfl ?_
        have hz := h.1
        replace h := h.2
        refine b_idiv X dX6_share_77 hz ?_
        clear hz
        refine b_isub X dX6_share_78 ?_
        refine b_topi (fun x19 ex19 => ?_)
        replace h := h x19 ex19
        refine b_istore (lv' := [(6, .int x19), (5, .int x18), (4, .int x12), (3, .int x6), (0, .ref (ad 0)), (1, .int a1), (2, .int a2)]) X dX6_share_79 (by decide) rfl ?_
        refine b_iload X dX6_share_81 2 rfl ?_
        refine b_iload_n X dX6_share_83 rfl 3 rfl ?_
        have hz := h.1
        replace h := h.2
        refine b_irem X dX6_share_84 hz ?_
        clear hz
        refine b_topi (fun x20 ex20 => ?_)
        replace h := h x20 ex20
        refine b_iload X dX6_share_85 1 rfl ?_
        refine b_iload_n X dX6_share_87 rfl 3 rfl ?_
        have hz := h.1
        replace h := h.2
        refine b_irem X dX6_share_88 hz ?_
        clear hz
        refine b_topi (fun x21 ex21 => ?_)
        replace h := h x21 ex21
        refine b_icmp_lt (t := 96) X dX6_share_89 (by decide) (fun c => ?_) (fun c => ?_)
        · replace h := h.1 c
          refine b_iconst (v := (nI 1)) X dX6_share_96 (by decide) ?_
          refine b_sub (lv' := [(2, .int a2), (3, .int x6), (4, .int x12), (5, .int x18), (6, .int x19)]) [6, 3, 2, 1, 0] rfl ?_
          exact B97 x6 x12 x18 x19 (nI 1) h
        · replace h := h.2 c
          refine b_iconst (v := (nI 0)) X dX6_share_92 (by decide) ?_
          refine b_goto (t := 97) X dX6_share_93 (by decide) ?_
          refine b_sub (lv' := [(2, .int a2), (3, .int x6), (4, .int x12), (5, .int x18), (6, .int x19)]) [6, 3, 2, 1, 0] rfl ?_
          exact B97 x6 x12 x18 x19 (nI 0) h
      · replace h := h.2 c
        refine b_iconst (v := (nI 0)) X dX6_share_36 (by decide) ?_
        exact hret _ _ _ _ ⟨rfl, h⟩ dX6_share_37
    · replace h := h.2 c
      refine b_ldc (v := ((-1000000002) : Int32)) X m_k_X6_84 dX6_share_21 ?_
      exact hret _ _ _ _ ⟨rfl, h⟩ dX6_share_23
  · replace h := h.2 c
    refine b_ldc (v := ((-1000000001) : Int32)) X m_k_X6_150 dX6_share_7 ?_
    exact hret _ _ _ _ ⟨rfl, h⟩ dX6_share_9
set_option maxHeartbeats 4000000 in
set_option maxRecDepth 100000 in
theorem c_X6_led (l : Launch) (D : va_G) (C : Nat → ClassId) (ad : Nat → Nat) (a1 : Int32) (a2 : Int32) (a3 : Int32) (μ : Mem) (Q : Int32 → Mem → Prop) (h : w_X6_led a1 a2 a3 μ Q) : Mi sF l yX6_led cX6_led 4 (some .int) rm_X6_led D C ad [.ref (ad 0), .int a1, .int a2, .int a3] μ Q := by
  refine fm_i (by decide +kernel) sF_lt (Nat.le_of_ble_eq_true rfl) (fun K X hret => ?_)
  have X : CK sF D C ad K cX6_led 4 RX6 := X
  refine b_lv (lv' := [(0, .ref (ad 0)), (1, .int a1), (2, .int a2), (3, .int a3)]) rfl ?_
  unfold w_X6_led at h
  refine b_iload_n X dX6_led_0 rfl 1 rfl ?_
  refine b_iconst (v := (nI 0)) X dX6_led_1 (by decide) ?_
  refine b_bipush (v := (nI 99)) X dX6_led_2 (by decide) ?_
  refine bSi (st := []) (nA := 3) X (c_X6_within l D C ad a1 (nI 0) (nI 99) μ _ h) gw_X6_80 hd_X6_within ⟨Nat.zero_le _, Nat.zero_le _⟩ rfl rfl ⟨Nat.le_of_ble_eq_true rfl, Nat.le_of_ble_eq_true rfl⟩ rfl rfl (Nat.le_of_ble_eq_true rfl) dX6_led_4 (fun r1 μ2 h => ?_)
  obtain ⟨rfl, h⟩ := h
  refine b_if_eq (t := 30) X dX6_led_7 (by decide) (fun c => ?_) (fun c => ?_)
  · replace h := h.1 c
    refine b_ldc (v := ((-1000000002) : Int32)) X m_k_X6_84 dX6_led_30 ?_
    exact hret _ _ _ _ h dX6_led_32
  · replace h := h.2 c
    refine b_iload_n X dX6_led_10 rfl 2 rfl ?_
    refine b_iconst (v := (nI 0)) X dX6_led_11 (by decide) ?_
    refine b_iconst (v := (nI 1)) X dX6_led_12 (by decide) ?_
    refine bSi (st := []) (nA := 3) X (c_X6_within l D C ad a2 (nI 0) (nI 1) μ _ h) gw_X6_80 hd_X6_within ⟨Nat.zero_le _, Nat.zero_le _⟩ rfl rfl ⟨Nat.le_of_ble_eq_true rfl, Nat.le_of_ble_eq_true rfl⟩ rfl rfl (Nat.le_of_ble_eq_true rfl) dX6_led_13 (fun r3 μ4 h => ?_)
    obtain ⟨rfl, h⟩ := h
    refine b_if_eq (t := 30) X dX6_led_16 (by decide) (fun c => ?_) (fun c => ?_)
    · replace h := h.1 c
      refine b_ldc (v := ((-1000000002) : Int32)) X m_k_X6_84 dX6_led_30 ?_
      exact hret _ _ _ _ h dX6_led_32
    · replace h := h.2 c
      refine b_iload_n X dX6_led_19 rfl 3 rfl ?_
      refine b_iconst (v := (nI 0)) X dX6_led_20 (by decide) ?_
      refine b_iload_n X dX6_led_21 rfl 1 rfl ?_
      refine b_iconst (v := (nI 1)) X dX6_led_22 (by decide) ?_
      refine b_isub X dX6_led_23 ?_
      refine bSi (st := []) (nA := 3) X (c_X6_within l D C ad a3 (nI 0) (a1 - (nI 1)) μ _ h) gw_X6_80 hd_X6_within ⟨Nat.zero_le _, Nat.zero_le _⟩ rfl rfl ⟨Nat.le_of_ble_eq_true rfl, Nat.le_of_ble_eq_true rfl⟩ rfl rfl (Nat.le_of_ble_eq_true rfl) dX6_led_24 (fun r5 μ6 h => ?_)
      obtain ⟨rfl, h⟩ := h
      refine b_if_ne (t := 33) X dX6_led_27 (by decide) (fun c => ?_) (fun c => ?_)
      · replace h := h.1 c
        refine b_aload_n X dX6_led_33 rfl 0 rfl ?_
        refine bVi (st := []) (nA := 0) X (c_X6_isBare l D C ad  μ _ h) kF_0 (by decide) (enc_6 kF_0) rfl gw_X6_173 ⟨rfl, hd_X6_isBare⟩ ⟨Nat.zero_le _, Nat.zero_le _⟩ rfl rfl ⟨Nat.le_of_ble_eq_true rfl, Nat.le_of_ble_eq_true rfl⟩ rfl rfl (Nat.le_of_ble_eq_true rfl) dX6_led_34 (fun r7 μ8 h => ?_)
        obtain ⟨rfl, h⟩ := h
        refine b_if_eq (t := 43) X dX6_led_37 (by decide) (fun c => ?_) (fun c => ?_)
        · replace h := h.1 c
          refine b_aload_n X dX6_led_43 rfl 0 rfl ?_
          refine g_6_6 X kF_0 m_f_X6_43 dX6_led_44 ?_
          refine b_aload_n X dX6_led_47 rfl 0 rfl ?_
          refine g_6_3 X kF_0 m_f_X6_29 dX6_led_48 ?_
          refine b_aload_n X dX6_led_51 rfl 0 rfl ?_
          refine g_6_1 X kF_0 m_f_X6_19 dX6_led_52 ?_
          refine b_wf (fun hf9 => ?_)
          refine g_0_0 X (hf9 kF_0).1 m_f_X6_111 dX6_led_55 ?_
          refine b_aload_n X dX6_led_58 rfl 0 rfl ?_
          refine g_6_3 X kF_0 m_f_X6_29 dX6_led_59 ?_
          refine b_aload_n X dX6_led_62 rfl 0 rfl ?_
          refine g_6_1 X kF_0 m_f_X6_19 dX6_led_63 ?_
          refine b_wf (fun hf10 => ?_)
          refine bVi (st := [.int (μ.1 (μ.2.2 0) 0), .ref (ad 25), .ref (ad 38)]) (nA := 1) X (c_X4_hanging l D C ad 25 kF_25 (μ.2.2 0) (hf10 kF_0).1 μ _ h) kF_25 (by decide) (enc_4 kF_25) rfl gw_X6_134 ⟨rfl, hd_X4_hanging⟩ ⟨Nat.zero_le _, Nat.zero_le _⟩ rfl rfl ⟨Nat.le_of_ble_eq_true rfl, Nat.le_of_ble_eq_true rfl⟩ rfl rfl (Nat.le_of_ble_eq_true rfl) dX6_led_66 (fun r11 μ12 h => ?_)
          obtain ⟨rfl, h⟩ := h
          refine b_iload_n X dX6_led_69 rfl 2 rfl ?_
          refine b_iload_n X dX6_led_70 rfl 1 rfl ?_
          refine bVv (st := []) (nA := 5) X (c_X5_blow l D C ad 25 kF_25 (μ.1 (μ.2.2 0) 0) r11 a2 a1 μ _ h) kF_38 (by decide) (enc_5 kF_38) rfl gw_X6_283 ⟨rfl, hd_X5_blow⟩ ⟨Nat.zero_le _, Nat.zero_le _⟩ rfl rfl ⟨Nat.le_of_ble_eq_true rfl, Nat.le_of_ble_eq_true rfl⟩ rfl rfl (Nat.le_of_ble_eq_true rfl) dX6_led_71 (fun μ14 h => ?_)
          refine b_aload_n X dX6_led_74 rfl 0 rfl ?_
          refine g_6_6 X kF_0 m_f_X6_43 dX6_led_75 ?_
          refine b_iload_n X dX6_led_78 rfl 3 rfl ?_
          refine bVi (st := []) (nA := 1) X (c_X5_takerOf l D C ad a3 μ14 _ h) kF_38 (by decide) (enc_5 kF_38) rfl gw_X6_287 ⟨rfl, hd_X5_takerOf⟩ ⟨Nat.zero_le _, Nat.zero_le _⟩ rfl rfl ⟨Nat.le_of_ble_eq_true rfl, Nat.le_of_ble_eq_true rfl⟩ rfl rfl (Nat.le_of_ble_eq_true rfl) dX6_led_79 (fun r15 μ16 h => ?_)
          obtain ⟨rfl, h⟩ := h
          exact hret _ _ _ _ h dX6_led_82
        · replace h := h.2 c
          refine b_ldc (v := ((-1000000003) : Int32)) X m_k_X6_177 dX6_led_40 ?_
          exact hret _ _ _ _ h dX6_led_42
      · replace h := h.2 c
        refine b_ldc (v := ((-1000000002) : Int32)) X m_k_X6_84 dX6_led_30 ?_
        exact hret _ _ _ _ h dX6_led_32
set_option maxHeartbeats 4000000 in
set_option maxRecDepth 100000 in
theorem c_X6_yards (l : Launch) (D : va_G) (C : Nat → ClassId) (ad : Nat → Nat) (a1 : Int32) (a2 : Int32) (μ : Mem) (Q : Int32 → Prop) (h : w_X6_yards a1 a2 μ Q) : Mi sF l yX6_yards cX6_yards 9 (some .int) rm_X6_yards D C ad [.ref (ad 0), .int a1, .int a2] μ (fun r μ' => μ = μ' ∧ Q r) := by
  refine fm_i (by decide +kernel) sF_lt (Nat.le_of_ble_eq_true rfl) (fun K X hret => ?_)
  have X : CK sF D C ad K cX6_yards 9 RX6 := X
  refine b_lv (lv' := [(0, .ref (ad 0)), (1, .int a1), (2, .int a2)]) rfl ?_
  unfold w_X6_yards at h
  have B44 : ∀ (v3 : Int32) (v4 : Int32) (v5 : Int32) (v6 : Int32), w_X6_yards_44 a1 a2 v3 v4 v5 v6 μ Q → WB sF l D C ad rm_X6_yards K 9 μ 44 [(0, .ref (ad 0)), (2, .int a2), (3, .int v3), (4, .int v4), (5, .int v5), (6, .int v6)] [] := by
    intro v3 v4 v5 v6 h
    obtain ⟨Y44, eY⟩ : ∃ Y : Int32 → Int32 → Int32 → Prop, Y = fun (v4 : Int32) (v5 : Int32) (v6 : Int32) => WB sF l D C ad rm_X6_yards K 9 μ 44 [(0, .ref (ad 0)), (2, .int a2), (3, .int v3), (4, .int v4), (5, .int v5), (6, .int v6)] [] := ⟨_, rfl⟩
    have B44 : Y44 v4 v5 v6 := by
      unfold w_X6_yards_44 at h
      refine h Y44 ?_
      clear h
      intro v4 v5 v6 h
      unfold s_X6_yards_44 at h
      rw [eY]
      show WB sF l D C ad rm_X6_yards K 9 μ 44 [(0, .ref (ad 0)), (2, .int a2), (3, .int v3), (4, .int v4), (5, .int v5), (6, .int v6)] []
      have T44 : ∀ (v4 : Int32) (v5 : Int32) (v6 : Int32), Y44 v4 v5 v6 → WB sF l D C ad rm_X6_yards K 9 μ 44 [(0, .ref (ad 0)), (2, .int a2), (3, .int v3), (4, .int v4), (5, .int v5), (6, .int v6)] [] := by
        intro v4 v5 v6 h
        rw [eY] at h
        exact h
      clear eY
      have B131 : ∀ (v4 : Int32) (v5 : Int32), w_X6_yards_131 a1 a2 v4 v5 μ Q → WB sF l D C ad rm_X6_yards K 9 μ 131 [(2, .int a2), (4, .int v4), (5, .int v5)] [] := by
        intro v4 v5 h
        unfold w_X6_yards_131 at h
        refine b_iload_n X dX6_yards_131 rfl 0 rfl ?_
        refine b_if_ne (t := 140) X dX6_yards_132 (by decide) (fun c => ?_) (fun c => ?_)
        · replace h := h.1 c
          refine b_iload X dX6_yards_140 1 rfl ?_
          exact hret _ _ _ _ ⟨rfl, h⟩ dX6_yards_142
        · replace h := h.2 c
          refine b_iload X dX6_yards_135 2 rfl ?_
          refine b_goto (t := 142) X dX6_yards_137 (by decide) ?_
          exact hret _ _ _ _ ⟨rfl, h⟩ dX6_yards_142
      have B125 : ∀ (v4 : Int32) (v5 : Int32) (v6 : Int32), w_X6_yards_125 a1 a2 Y44 v3 v4 v5 v6 μ Q → WB sF l D C ad rm_X6_yards K 9 μ 125 [(0, .ref (ad 0)), (2, .int a2), (3, .int v3), (4, .int v4), (5, .int v5), (6, .int v6)] [] := by
        intro v4 v5 v6 h
        unfold w_X6_yards_125 at h
        obtain ⟨x14, ex14⟩ : ∃ y : Int32, y = v6 + (nI 1) := ⟨_, rfl⟩
        replace h := h x14 ex14
        refine b_iinc (x := x14) (lv' := [(6, .int x14), (0, .ref (ad 0)), (2, .int a2), (3, .int v3), (4, .int v4), (5, .int v5)]) (q := 5) X dX6_yards_125 rfl (by rw [ex14]; rfl) (by decide) rfl ?_
        refine b_goto (t := 44) X dX6_yards_128 (by decide) ?_
        refine b_sub (lv' := [(0, .ref (ad 0)), (2, .int a2), (3, .int v3), (4, .int v4), (5, .int v5), (6, .int x14)]) [1, 2, 3, 4, 5, 0] rfl ?_
        exact T44 v4 v5 x14 h
      have B117 : ∀ (v6 : Int32) (v7 : Int32) (v8 : Int32), w_X6_yards_117 a1 a2 Y44 v3 v6 v7 v8 μ Q → WB sF l D C ad rm_X6_yards K 9 μ 117 [(0, .ref (ad 0)), (2, .int a2), (3, .int v3), (6, .int v6), (7, .int v7), (8, .int v8)] [] := by
        intro v6 v7 v8 h
        unfold w_X6_yards_117 at h
        refine b_iload X dX6_yards_117 4 rfl ?_
        refine b_istore (lv' := [(4, .int v7), (0, .ref (ad 0)), (2, .int a2), (3, .int v3), (6, .int v6), (7, .int v7), (8, .int v8)]) X dX6_yards_119 (by decide) rfl ?_
        refine b_iload X dX6_yards_121 6 rfl ?_
        refine b_istore (lv' := [(5, .int v8), (4, .int v7), (0, .ref (ad 0)), (2, .int a2), (3, .int v3), (6, .int v6), (7, .int v7), (8, .int v8)]) X dX6_yards_123 (by decide) rfl ?_
        refine b_sub (lv' := [(0, .ref (ad 0)), (2, .int a2), (3, .int v3), (4, .int v7), (5, .int v8), (6, .int v6)]) [2, 3, 4, 1, 0, 5] rfl ?_
        exact B125 v7 v8 v6 h
      refine b_iload X dX6_yards_44 5 rfl ?_
      refine b_aload_n X dX6_yards_46 rfl 0 rfl ?_
      refine g_6_1 X kF_0 m_f_X6_19 dX6_yards_47 ?_
      refine b_wf (fun hf8 => ?_)
      refine g_0_0 X (hf8 kF_0).1 m_f_X6_111 dX6_yards_50 ?_
      refine b_icmp_ge (t := 131) X dX6_yards_53 (by decide) (fun c => ?_) (fun c => ?_)
      · replace h := h.1 c
        refine b_sub (lv' := [(2, .int a2), (4, .int v4), (5, .int v5)]) [1, 3, 4] rfl ?_
        exact B131 v4 v5 h
      · replace h := h.2 c
        refine b_iload X dX6_yards_56 5 rfl ?_
        refine b_bipush (v := (nI 12)) X dX6_yards_58 (by decide) ?_
        refine b_icmp_ge (t := 131) X dX6_yards_60 (by decide) (fun c => ?_) (fun c => ?_)
        · replace h := h.1 c
          refine b_sub (lv' := [(2, .int a2), (4, .int v4), (5, .int v5)]) [1, 3, 4] rfl ?_
          exact B131 v4 v5 h
        · replace h := h.2 c
          refine b_aload_n X dX6_yards_63 rfl 0 rfl ?_
          refine g_6_3 X kF_0 m_f_X6_29 dX6_yards_64 ?_
          refine b_iload X dX6_yards_67 5 rfl ?_
          refine bVi (st := []) (nA := 1) X (c_X4_postIn l D C ad 25 kF_25 v6 μ _ h) kF_25 (by decide) (enc_4 kF_25) rfl gw_X6_234 ⟨rfl, hd_X4_postIn⟩ ⟨Nat.zero_le _, Nat.zero_le _⟩ rfl rfl ⟨Nat.le_of_ble_eq_true rfl, Nat.le_of_ble_eq_true rfl⟩ rfl rfl (Nat.le_of_ble_eq_true rfl) dX6_yards_69 (fun r9 μ10 h => ?_)
          obtain ⟨rfl, h⟩ := h
          refine b_istore (lv' := [(7, .int r9), (0, .ref (ad 0)), (2, .int a2), (3, .int v3), (4, .int v4), (5, .int v5), (6, .int v6)]) X dX6_yards_72 (by decide) rfl ?_
          refine b_iload X dX6_yards_74 6 rfl ?_
          refine b_iload_n X dX6_yards_76 rfl 3 rfl ?_
          refine b_isub X dX6_yards_77 ?_
          refine b_mabs X ⟨Nat.zero_le _, Nat.zero_le _⟩ m_m_X6_290 m_s_mabs m_n_J9 m_c_mabs (Nat.le_of_ble_eq_true rfl) (Nat.le_of_ble_eq_true rfl) dX6_yards_78 ?_
          refine b_topi (fun x11 ex11 => ?_)
          replace h := h x11 ex11
          refine b_istore (lv' := [(8, .int x11), (7, .int r9), (0, .ref (ad 0)), (2, .int a2), (3, .int v3), (4, .int v4), (5, .int v5), (6, .int v6)]) X dX6_yards_81 (by decide) rfl ?_
          refine b_iload X dX6_yards_83 1 rfl ?_
          refine b_iconst (v := ((-1) : Int32)) X dX6_yards_85 (by decide) ?_
          refine b_icmp_eq (t := 125) X dX6_yards_86 (by decide) (fun c => ?_) (fun c => ?_)
          · replace h := h.1 c
            refine b_sub (lv' := [(0, .ref (ad 0)), (2, .int a2), (3, .int v3), (4, .int v4), (5, .int v5), (6, .int v6)]) [2, 3, 4, 5, 6, 7] rfl ?_
            exact B125 v4 v5 v6 h
          · replace h := h.2 c
            refine b_aload_n X dX6_yards_89 rfl 2 rfl ?_
            refine g_6_3 X kF_0 m_f_X6_29 dX6_yards_90 ?_
            refine g_4_7 X kF_25 m_f_X6_167 dX6_yards_93 ?_
            refine b_iload X dX6_yards_96 1 rfl ?_
            refine bSi (st := []) (nA := 2) X (c_X6_at l D C ad (25 + 3) (st_k3 kF_25) r9 μ _ h) gw_X6_154 hd_X6_at ⟨Nat.zero_le _, Nat.zero_le _⟩ rfl rfl ⟨Nat.le_of_ble_eq_true rfl, Nat.le_of_ble_eq_true rfl⟩ rfl rfl (Nat.le_of_ble_eq_true rfl) dX6_yards_98 (fun r12 μ13 h => ?_)
            obtain ⟨rfl, h⟩ := h
            refine b_if_le (t := 125) X dX6_yards_101 (by decide) (fun c => ?_) (fun c => ?_)
            · replace h := h.1 c
              refine b_sub (lv' := [(0, .ref (ad 0)), (2, .int a2), (3, .int v3), (4, .int v4), (5, .int v5), (6, .int v6)]) [2, 3, 4, 5, 6, 7] rfl ?_
              exact B125 v4 v5 v6 h
            · replace h := h.2 c
              refine b_iload X dX6_yards_104 5 rfl ?_
              refine b_iconst (v := ((-1) : Int32)) X dX6_yards_106 (by decide) ?_
              refine b_icmp_eq (t := 117) X dX6_yards_107 (by decide) (fun c => ?_) (fun c => ?_)
              · replace h := h.1 c
                refine b_sub (lv' := [(0, .ref (ad 0)), (2, .int a2), (3, .int v3), (6, .int v6), (7, .int r9), (8, .int x11)]) [2, 3, 4, 7, 1, 0] rfl ?_
                exact B117 v6 r9 x11 h
              · replace h := h.2 c
                refine b_iload X dX6_yards_110 0 rfl ?_
                refine b_iload X dX6_yards_112 6 rfl ?_
                refine b_icmp_ge (t := 125) X dX6_yards_114 (by decide) (fun c => ?_) (fun c => ?_)
                · replace h := h.1 c
                  refine b_sub (lv' := [(0, .ref (ad 0)), (2, .int a2), (3, .int v3), (4, .int v4), (5, .int v5), (6, .int v6)]) [2, 3, 4, 5, 6, 7] rfl ?_
                  exact B125 v4 v5 v6 h
                · replace h := h.2 c
                  refine b_sub (lv' := [(0, .ref (ad 0)), (2, .int a2), (3, .int v3), (6, .int v6), (7, .int r9), (8, .int x11)]) [2, 3, 4, 7, 1, 0] rfl ?_
                  exact B117 v6 r9 x11 h
    rw [eY] at B44
    exact B44
  refine b_aload_n X dX6_yards_0 rfl 0 rfl ?_
  refine b_iload_n X dX6_yards_1 rfl 1 rfl ?_
  refine bVi (st := []) (nA := 1) X (c_X6_isGoat l D C ad a1 μ _ h) kF_0 (by decide) (enc_6 kF_0) rfl gw_X6_202 ⟨rfl, hd_X6_isGoat⟩ ⟨Nat.zero_le _, Nat.zero_le _⟩ rfl rfl ⟨Nat.le_of_ble_eq_true rfl, Nat.le_of_ble_eq_true rfl⟩ rfl rfl (Nat.le_of_ble_eq_true rfl) dX6_yards_2 (fun r1 μ2 h => ?_)
  obtain ⟨rfl, h⟩ := h
  refine b_if_ne (t := 11) X dX6_yards_5 (by decide) (fun c => ?_) (fun c => ?_)
  · replace h := h.1 c
    refine b_iload_n X dX6_yards_11 rfl 2 rfl ?_
    refine b_iconst (v := (nI 0)) X dX6_yards_12 (by decide) ?_
    refine b_iconst (v := (nI 1)) X dX6_yards_13 (by decide) ?_
    refine bSi (st := []) (nA := 3) X (c_X6_within l D C ad a2 (nI 0) (nI 1) μ _ h) gw_X6_80 hd_X6_within ⟨Nat.zero_le _, Nat.zero_le _⟩ rfl rfl ⟨Nat.le_of_ble_eq_true rfl, Nat.le_of_ble_eq_true rfl⟩ rfl rfl (Nat.le_of_ble_eq_true rfl) dX6_yards_14 (fun r3 μ4 h => ?_)
    obtain ⟨rfl, h⟩ := h
    refine b_if_ne (t := 23) X dX6_yards_17 (by decide) (fun c => ?_) (fun c => ?_)
    · replace h := h.1 c
      refine b_aload_n X dX6_yards_23 rfl 0 rfl ?_
      refine g_6_1 X kF_0 m_f_X6_19 dX6_yards_24 ?_
      refine b_wf (fun hf5 => ?_)
      refine g_0_13 X (hf5 kF_0).1 m_f_X6_205 dX6_yards_27 ?_
      refine b_iload_n X dX6_yards_30 rfl 1 rfl ?_
      refine bSi (st := []) (nA := 2) X (c_X6_at l D C ad ((μ.2.2 0) + 9) (co_k9 (hf5 kF_0).1) a1 μ _ h) gw_X6_154 hd_X6_at ⟨Nat.zero_le _, Nat.zero_le _⟩ rfl rfl ⟨Nat.le_of_ble_eq_true rfl, Nat.le_of_ble_eq_true rfl⟩ rfl rfl (Nat.le_of_ble_eq_true rfl) dX6_yards_31 (fun r6 μ7 h => ?_)
      obtain ⟨rfl, h⟩ := h
      refine b_istore_n (lv' := [(3, .int r6), (0, .ref (ad 0)), (1, .int a1), (2, .int a2)]) X dX6_yards_34 rfl (by decide) rfl ?_
      refine b_iconst (v := ((-1) : Int32)) X dX6_yards_35 (by decide) ?_
      refine b_istore (lv' := [(4, .int ((-1) : Int32)), (3, .int r6), (0, .ref (ad 0)), (1, .int a1), (2, .int a2)]) X dX6_yards_36 (by decide) rfl ?_
      refine b_iconst (v := ((-1) : Int32)) X dX6_yards_38 (by decide) ?_
      refine b_istore (lv' := [(5, .int ((-1) : Int32)), (4, .int ((-1) : Int32)), (3, .int r6), (0, .ref (ad 0)), (1, .int a1), (2, .int a2)]) X dX6_yards_39 (by decide) rfl ?_
      refine b_iconst (v := (nI 0)) X dX6_yards_41 (by decide) ?_
      refine b_istore (lv' := [(6, .int (nI 0)), (5, .int ((-1) : Int32)), (4, .int ((-1) : Int32)), (3, .int r6), (0, .ref (ad 0)), (1, .int a1), (2, .int a2)]) X dX6_yards_42 (by decide) rfl ?_
      refine b_sub (lv' := [(0, .ref (ad 0)), (2, .int a2), (3, .int r6), (4, .int ((-1) : Int32)), (5, .int ((-1) : Int32)), (6, .int (nI 0))]) [4, 6, 3, 2, 1, 0] rfl ?_
      exact B44 r6 ((-1) : Int32) ((-1) : Int32) (nI 0) h
    · replace h := h.2 c
      refine b_ldc (v := ((-1000000002) : Int32)) X m_k_X6_84 dX6_yards_20 ?_
      exact hret _ _ _ _ ⟨rfl, h⟩ dX6_yards_22
  · replace h := h.2 c
    refine b_ldc (v := ((-1000000001) : Int32)) X m_k_X6_150 dX6_yards_8 ?_
    exact hret _ _ _ _ ⟨rfl, h⟩ dX6_yards_10
set_option maxHeartbeats 4000000 in
set_option maxRecDepth 100000 in
theorem c_X6_got (l : Launch) (D : va_G) (C : Nat → ClassId) (ad : Nat → Nat) (a1 : Int32) (a2 : Int32) (a3 : Int32) (μ : Mem) (Q : Int32 → Mem → Prop) (h : w_X6_got a1 a2 a3 μ Q) : Mi sF l yX6_got cX6_got 4 (some .int) rm_X6_got D C ad [.ref (ad 0), .int a1, .int a2, .int a3] μ Q := by
  refine fm_i (by decide +kernel) sF_lt (Nat.le_of_ble_eq_true rfl) (fun K X hret => ?_)
  have X : CK sF D C ad K cX6_got 4 RX6 := X
  refine b_lv (lv' := [(0, .ref (ad 0)), (1, .int a1), (2, .int a2), (3, .int a3)]) rfl ?_
  unfold w_X6_got at h
  refine b_aload_n X dX6_got_0 rfl 0 rfl ?_
  refine b_iload_n X dX6_got_1 rfl 1 rfl ?_
  refine bVi (st := []) (nA := 1) X (c_X6_isPost l D C ad a1 μ _ h) kF_0 (by decide) (enc_6 kF_0) rfl gw_X6_146 ⟨rfl, hd_X6_isPost⟩ ⟨Nat.zero_le _, Nat.zero_le _⟩ rfl rfl ⟨Nat.le_of_ble_eq_true rfl, Nat.le_of_ble_eq_true rfl⟩ rfl rfl (Nat.le_of_ble_eq_true rfl) dX6_got_2 (fun r1 μ2 h => ?_)
  obtain ⟨rfl, h⟩ := h
  refine b_if_ne (t := 11) X dX6_got_5 (by decide) (fun c => ?_) (fun c => ?_)
  · replace h := h.1 c
    refine b_iload_n X dX6_got_11 rfl 2 rfl ?_
    refine b_iconst (v := (nI 0)) X dX6_got_12 (by decide) ?_
    refine b_iconst (v := (nI 1)) X dX6_got_13 (by decide) ?_
    refine bSi (st := []) (nA := 3) X (c_X6_within l D C ad a2 (nI 0) (nI 1) μ _ h) gw_X6_80 hd_X6_within ⟨Nat.zero_le _, Nat.zero_le _⟩ rfl rfl ⟨Nat.le_of_ble_eq_true rfl, Nat.le_of_ble_eq_true rfl⟩ rfl rfl (Nat.le_of_ble_eq_true rfl) dX6_got_14 (fun r3 μ4 h => ?_)
    obtain ⟨rfl, h⟩ := h
    refine b_if_eq (t := 30) X dX6_got_17 (by decide) (fun c => ?_) (fun c => ?_)
    · replace h := h.1 c
      refine b_ldc (v := ((-1000000002) : Int32)) X m_k_X6_84 dX6_got_30 ?_
      exact hret _ _ _ _ h dX6_got_32
    · replace h := h.2 c
      refine b_iload_n X dX6_got_20 rfl 3 rfl ?_
      refine b_iconst (v := (nI 0)) X dX6_got_21 (by decide) ?_
      refine b_bipush (v := (nI 40)) X dX6_got_22 (by decide) ?_
      refine bSi (st := []) (nA := 3) X (c_X6_within l D C ad a3 (nI 0) (nI 40) μ _ h) gw_X6_80 hd_X6_within ⟨Nat.zero_le _, Nat.zero_le _⟩ rfl rfl ⟨Nat.le_of_ble_eq_true rfl, Nat.le_of_ble_eq_true rfl⟩ rfl rfl (Nat.le_of_ble_eq_true rfl) dX6_got_24 (fun r5 μ6 h => ?_)
      obtain ⟨rfl, h⟩ := h
      refine b_if_ne (t := 33) X dX6_got_27 (by decide) (fun c => ?_) (fun c => ?_)
      · replace h := h.1 c
        refine b_aload_n X dX6_got_33 rfl 0 rfl ?_
        refine g_6_11 X kF_0 m_f_X6_70 dX6_got_34 ?_
        refine g_1_3 X kF_237 m_f_X6_104 dX6_got_37 ?_
        refine b_bipush (v := (nI 6)) X dX6_got_40 (by decide) ?_
        refine b_icmp_lt (t := 48) X dX6_got_42 (by decide) (fun c => ?_) (fun c => ?_)
        · replace h := h.1 c
          refine b_aload_n X dX6_got_48 rfl 0 rfl ?_
          refine g_6_11 X kF_0 m_f_X6_70 dX6_got_49 ?_
          refine b_iload_n X dX6_got_52 rfl 1 rfl ?_
          refine b_iload_n X dX6_got_53 rfl 2 rfl ?_
          refine b_iload_n X dX6_got_54 rfl 3 rfl ?_
          refine bVi (st := []) (nA := 3) X (c_X1_note l D C ad 237 kF_237 a1 a2 a3 μ _ h) kF_237 (by decide) (enc_1 kF_237) rfl gw_X6_297 ⟨rfl, hd_X1_note⟩ ⟨Nat.zero_le _, Nat.zero_le _⟩ rfl rfl ⟨Nat.le_of_ble_eq_true rfl, Nat.le_of_ble_eq_true rfl⟩ rfl rfl (Nat.le_of_ble_eq_true rfl) dX6_got_55 (fun r7 μ8 h => ?_)
          exact hret _ _ _ _ h dX6_got_58
        · replace h := h.2 c
          refine b_ldc (v := ((-1000000004) : Int32)) X m_k_X6_88 dX6_got_45 ?_
          exact hret _ _ _ _ h dX6_got_47
      · replace h := h.2 c
        refine b_ldc (v := ((-1000000002) : Int32)) X m_k_X6_84 dX6_got_30 ?_
        exact hret _ _ _ _ h dX6_got_32
  · replace h := h.2 c
    refine b_ldc (v := ((-1000000001) : Int32)) X m_k_X6_150 dX6_got_8 ?_
    exact hret _ _ _ _ h dX6_got_10
set_option maxHeartbeats 4000000 in
set_option maxRecDepth 100000 in
theorem c_X6_takenOf (l : Launch) (D : va_G) (C : Nat → ClassId) (ad : Nat → Nat) (a1 : Int32) (a2 : Int32) (a3 : Int32) (μ : Mem) (Q : Int32 → Mem → Prop) (h : w_X6_takenOf a1 a2 a3 μ Q) : Mi sF l yX6_takenOf cX6_takenOf 4 (some .int) rm_X6_takenOf D C ad [.ref (ad 0), .int a1, .int a2, .int a3] μ Q := by
  refine fm_i (by decide +kernel) sF_lt (Nat.le_of_ble_eq_true rfl) (fun K X hret => ?_)
  have X : CK sF D C ad K cX6_takenOf 4 RX6 := X
  refine b_lv (lv' := [(0, .ref (ad 0)), (1, .int a1), (2, .int a2), (3, .int a3)]) rfl ?_
  unfold w_X6_takenOf at h
  refine b_aload_n X dX6_takenOf_0 rfl 0 rfl ?_
  refine g_6_6 X kF_0 m_f_X6_43 dX6_takenOf_1 ?_
  refine b_aload_n X dX6_takenOf_4 rfl 0 rfl ?_
  refine g_6_3 X kF_0 m_f_X6_29 dX6_takenOf_5 ?_
  refine b_aload_n X dX6_takenOf_8 rfl 0 rfl ?_
  refine g_6_1 X kF_0 m_f_X6_19 dX6_takenOf_9 ?_
  refine b_wf (fun hf1 => ?_)
  refine g_0_0 X (hf1 kF_0).1 m_f_X6_111 dX6_takenOf_12 ?_
  refine b_aload_n X dX6_takenOf_15 rfl 0 rfl ?_
  refine g_6_3 X kF_0 m_f_X6_29 dX6_takenOf_16 ?_
  refine b_aload_n X dX6_takenOf_19 rfl 0 rfl ?_
  refine g_6_1 X kF_0 m_f_X6_19 dX6_takenOf_20 ?_
  refine b_wf (fun hf2 => ?_)
  refine bVi (st := [.int (μ.1 (μ.2.2 0) 0), .ref (ad 25), .ref (ad 38)]) (nA := 1) X (c_X4_hanging l D C ad 25 kF_25 (μ.2.2 0) (hf2 kF_0).1 μ _ h) kF_25 (by decide) (enc_4 kF_25) rfl gw_X6_134 ⟨rfl, hd_X4_hanging⟩ ⟨Nat.zero_le _, Nat.zero_le _⟩ rfl rfl ⟨Nat.le_of_ble_eq_true rfl, Nat.le_of_ble_eq_true rfl⟩ rfl rfl (Nat.le_of_ble_eq_true rfl) dX6_takenOf_23 (fun r3 μ4 h => ?_)
  obtain ⟨rfl, h⟩ := h
  refine b_iload_n X dX6_takenOf_26 rfl 2 rfl ?_
  refine b_iload_n X dX6_takenOf_27 rfl 3 rfl ?_
  refine bVv (st := []) (nA := 5) X (c_X5_blow l D C ad 25 kF_25 (μ.1 (μ.2.2 0) 0) r3 a2 a3 μ _ h) kF_38 (by decide) (enc_5 kF_38) rfl gw_X6_283 ⟨rfl, hd_X5_blow⟩ ⟨Nat.zero_le _, Nat.zero_le _⟩ rfl rfl ⟨Nat.le_of_ble_eq_true rfl, Nat.le_of_ble_eq_true rfl⟩ rfl rfl (Nat.le_of_ble_eq_true rfl) dX6_takenOf_28 (fun μ6 h => ?_)
  refine b_aload_n X dX6_takenOf_31 rfl 0 rfl ?_
  refine g_6_6 X kF_0 m_f_X6_43 dX6_takenOf_32 ?_
  refine g_5_0 X kF_38 m_f_X6_256 dX6_takenOf_35 ?_
  refine b_iload_n X dX6_takenOf_38 rfl 1 rfl ?_
  refine bSi (st := []) (nA := 2) X (c_X6_at l D C ad 39 kF_39 a1 μ6 _ h) gw_X6_154 hd_X6_at ⟨Nat.zero_le _, Nat.zero_le _⟩ rfl rfl ⟨Nat.le_of_ble_eq_true rfl, Nat.le_of_ble_eq_true rfl⟩ rfl rfl (Nat.le_of_ble_eq_true rfl) dX6_takenOf_39 (fun r7 μ8 h => ?_)
  obtain ⟨rfl, h⟩ := h
  exact hret _ _ _ _ h dX6_takenOf_42
set_option maxHeartbeats 4000000 in
set_option maxRecDepth 100000 in
theorem c_X6_fitsAll (l : Launch) (D : va_G) (C : Nat → ClassId) (ad : Nat → Nat) (a1 : Int32) (μ : Mem) (Q : Int32 → Mem → Prop) (h : w_X6_fitsAll a1 μ Q) : Mi sF l yX6_fitsAll cX6_fitsAll 4 (some .boolean) rm_X6_fitsAll D C ad [.ref (ad 0), .int a1] μ Q := by
  refine fm_z (by decide +kernel) sF_lt (Nat.le_of_ble_eq_true rfl) (fun K X hret => ?_)
  have X : CK sF D C ad K cX6_fitsAll 4 RX6 := X
  refine b_lv (lv' := [(0, .ref (ad 0)), (1, .int a1)]) rfl ?_
  unfold w_X6_fitsAll at h
  have B2 : ∀ (v2 : Int32) (μ : Mem), w_X6_fitsAll_2 a1 v2 μ Q → WB sF l D C ad rm_X6_fitsAll K 4 μ 2 [(0, .ref (ad 0)), (1, .int a1), (2, .int v2)] [] := by
    intro v2 μ h
    obtain ⟨Y2, eY⟩ : ∃ Y : Int32 → Mem → Prop, Y = fun (v2 : Int32) (μ : Mem) => WB sF l D C ad rm_X6_fitsAll K 4 μ 2 [(0, .ref (ad 0)), (1, .int a1), (2, .int v2)] [] := ⟨_, rfl⟩
    have B2 : Y2 v2 μ := by
      unfold w_X6_fitsAll_2 at h
      refine h Y2 ?_
      clear h
      intro v2 μ h
      unfold s_X6_fitsAll_2 at h
      rw [eY]
      show WB sF l D C ad rm_X6_fitsAll K 4 μ 2 [(0, .ref (ad 0)), (1, .int a1), (2, .int v2)] []
      have T2 : ∀ (v2 : Int32) (μ : Mem), Y2 v2 μ → WB sF l D C ad rm_X6_fitsAll K 4 μ 2 [(0, .ref (ad 0)), (1, .int a1), (2, .int v2)] [] := by
        intro v2 μ h
        rw [eY] at h
        exact h
      clear eY
      refine b_iload_n X dX6_fitsAll_2 rfl 2 rfl ?_
      refine b_aload_n X dX6_fitsAll_3 rfl 0 rfl ?_
      refine g_6_11 X kF_0 m_f_X6_70 dX6_fitsAll_4 ?_
      refine g_1_3 X kF_237 m_f_X6_104 dX6_fitsAll_7 ?_
      refine b_icmp_ge (t := 70) X dX6_fitsAll_10 (by decide) (fun c => ?_) (fun c => ?_)
      · replace h := h.1 c
        refine b_iconst (v := (nI 1)) X dX6_fitsAll_70 (by decide) ?_
        exact hret _ _ _ _ ⟨(Or.inr rfl), h⟩ dX6_fitsAll_71
      · replace h := h.2 c
        refine b_iload_n X dX6_fitsAll_13 rfl 2 rfl ?_
        refine b_bipush (v := (nI 6)) X dX6_fitsAll_14 (by decide) ?_
        refine b_icmp_ge (t := 70) X dX6_fitsAll_16 (by decide) (fun c => ?_) (fun c => ?_)
        · replace h := h.1 c
          refine b_iconst (v := (nI 1)) X dX6_fitsAll_70 (by decide) ?_
          exact hret _ _ _ _ ⟨(Or.inr rfl), h⟩ dX6_fitsAll_71
        · replace h := h.2 c
          refine b_aload_n X dX6_fitsAll_19 rfl 0 rfl ?_
          refine b_aload_n X dX6_fitsAll_20 rfl 0 rfl ?_
          refine g_6_11 X kF_0 m_f_X6_70 dX6_fitsAll_21 ?_
          refine g_1_0 X kF_237 m_f_X6_317 dX6_fitsAll_24 ?_
          refine b_iload_n X dX6_fitsAll_27 rfl 2 rfl ?_
          refine bSi (st := [.ref (ad 0)]) (nA := 2) X (c_X6_at l D C ad (237 + 1) (nt_k1 kF_237) v2 μ _ h) gw_X6_154 hd_X6_at ⟨Nat.zero_le _, Nat.zero_le _⟩ rfl rfl ⟨Nat.le_of_ble_eq_true rfl, Nat.le_of_ble_eq_true rfl⟩ rfl rfl (Nat.le_of_ble_eq_true rfl) dX6_fitsAll_28 (fun r1 μ2 h => ?_)
          obtain ⟨rfl, h⟩ := h
          refine b_aload_n X dX6_fitsAll_31 rfl 0 rfl ?_
          refine g_6_11 X kF_0 m_f_X6_70 dX6_fitsAll_32 ?_
          refine g_1_1 X kF_237 m_f_X6_339 dX6_fitsAll_35 ?_
          refine b_iload_n X dX6_fitsAll_38 rfl 2 rfl ?_
          refine bSi (st := [.int r1, .ref (ad 0)]) (nA := 2) X (c_X6_at l D C ad (237 + 2) (nt_k2 kF_237) v2 μ _ h) gw_X6_154 hd_X6_at ⟨Nat.zero_le _, Nat.zero_le _⟩ rfl rfl ⟨Nat.le_of_ble_eq_true rfl, Nat.le_of_ble_eq_true rfl⟩ rfl rfl (Nat.le_of_ble_eq_true rfl) dX6_fitsAll_39 (fun r3 μ4 h => ?_)
          obtain ⟨rfl, h⟩ := h
          refine b_iload_n X dX6_fitsAll_42 rfl 1 rfl ?_
          refine bVi (st := []) (nA := 3) X (c_X6_takenOf l D C ad r1 r3 a1 μ _ h) kF_0 (by decide) (enc_6 kF_0) rfl gw_X6_314 ⟨rfl, hd_X6_takenOf⟩ ⟨Nat.zero_le _, Nat.zero_le _⟩ rfl rfl ⟨Nat.le_of_ble_eq_true rfl, Nat.le_of_ble_eq_true rfl⟩ rfl rfl (Nat.le_of_ble_eq_true rfl) dX6_fitsAll_43 (fun r5 μ6 h => ?_)
          refine b_istore_n (lv' := [(3, .int r5), (0, .ref (ad 0)), (1, .int a1), (2, .int v2)]) X dX6_fitsAll_46 rfl (by decide) rfl ?_
          refine b_iload_n X dX6_fitsAll_47 rfl 0 rfl ?_
          refine b_aload_n X dX6_fitsAll_48 rfl 1 rfl ?_
          refine g_6_11 X kF_0 m_f_X6_70 dX6_fitsAll_49 ?_
          refine g_1_2 X kF_237 m_f_X6_319 dX6_fitsAll_52 ?_
          refine b_iload_n X dX6_fitsAll_55 rfl 3 rfl ?_
          refine bSi (st := [.int r5]) (nA := 2) X (c_X6_at l D C ad (237 + 3) (nt_k3 kF_237) v2 μ6 _ h) gw_X6_154 hd_X6_at ⟨Nat.zero_le _, Nat.zero_le _⟩ rfl rfl ⟨Nat.le_of_ble_eq_true rfl, Nat.le_of_ble_eq_true rfl⟩ rfl rfl (Nat.le_of_ble_eq_true rfl) dX6_fitsAll_56 (fun r7 μ8 h => ?_)
          obtain ⟨rfl, h⟩ := h
          refine b_icmp_eq (t := 64) X dX6_fitsAll_59 (by decide) (fun c => ?_) (fun c => ?_)
          · replace h := h.1 c
            obtain ⟨x9, ex9⟩ : ∃ y : Int32, y = v2 + (nI 1) := ⟨_, rfl⟩
            replace h := h x9 ex9
            refine b_iinc (x := x9) (lv' := [(2, .int x9), (3, .int r5), (0, .ref (ad 0)), (1, .int a1)]) (q := 3) X dX6_fitsAll_64 rfl (by rw [ex9]; rfl) (by decide) rfl ?_
            refine b_goto (t := 2) X dX6_fitsAll_67 (by decide) ?_
            refine b_sub (lv' := [(0, .ref (ad 0)), (1, .int a1), (2, .int x9)]) [2, 3, 0] rfl ?_
            exact T2 x9 μ6 h
          · replace h := h.2 c
            refine b_iconst (v := (nI 0)) X dX6_fitsAll_62 (by decide) ?_
            exact hret _ _ _ _ ⟨(Or.inl rfl), h⟩ dX6_fitsAll_63
    rw [eY] at B2
    exact B2
  refine b_iconst (v := (nI 0)) X dX6_fitsAll_0 (by decide) ?_
  refine b_istore_n (lv' := [(2, .int (nI 0)), (0, .ref (ad 0)), (1, .int a1)]) X dX6_fitsAll_1 rfl (by decide) rfl ?_
  refine b_sub (lv' := [(0, .ref (ad 0)), (1, .int a1), (2, .int (nI 0))]) [1, 2, 0] rfl ?_
  exact B2 (nI 0) μ h
set_option maxHeartbeats 4000000 in
set_option maxRecDepth 100000 in
theorem c_X6_fitting (l : Launch) (D : va_G) (C : Nat → ClassId) (ad : Nat → Nat)  (μ : Mem) (Q : Int64 → Mem → Prop) (h : w_X6_fitting  μ Q) : Ml sF l yX6_fitting cX6_fitting 4 (some .long) rm_X6_fitting D C ad [.ref (ad 0)] μ Q := by
  refine fm_l (by decide +kernel) sF_lt (Nat.le_of_ble_eq_true rfl) (fun K X hret => ?_)
  have X : CK sF D C ad K cX6_fitting 4 RX6 := X
  refine b_lv (lv' := [(0, .ref (ad 0))]) rfl ?_
  unfold w_X6_fitting at h
  have B4 : ∀ (v1 : Int64) (v3 : Int32) (μ : Mem), w_X6_fitting_4 v1 v3 μ Q → WB sF l D C ad rm_X6_fitting K 4 μ 4 [(0, .ref (ad 0)), (1, .long v1), (3, .int v3)] [] := by
    intro v1 v3 μ h
    obtain ⟨Y4, eY⟩ : ∃ Y : Int64 → Int32 → Mem → Prop, Y = fun (v1 : Int64) (v3 : Int32) (μ : Mem) => WB sF l D C ad rm_X6_fitting K 4 μ 4 [(0, .ref (ad 0)), (1, .long v1), (3, .int v3)] [] := ⟨_, rfl⟩
    have B4 : Y4 v1 v3 μ := by
      unfold w_X6_fitting_4 at h
      refine h Y4 ?_
      clear h
      intro v1 v3 μ h
      unfold s_X6_fitting_4 at h
      rw [eY]
      show WB sF l D C ad rm_X6_fitting K 4 μ 4 [(0, .ref (ad 0)), (1, .long v1), (3, .int v3)] []
      have T4 : ∀ (v1 : Int64) (v3 : Int32) (μ : Mem), Y4 v1 v3 μ → WB sF l D C ad rm_X6_fitting K 4 μ 4 [(0, .ref (ad 0)), (1, .long v1), (3, .int v3)] [] := by
        intro v1 v3 μ h
        rw [eY] at h
        exact h
      clear eY
      have B24 : ∀ (v1 : Int64) (v3 : Int32) (μ : Mem), w_X6_fitting_24 Y4 v1 v3 μ Q → WB sF l D C ad rm_X6_fitting K 4 μ 24 [(0, .ref (ad 0)), (1, .long v1), (3, .int v3)] [] := by
        intro v1 v3 μ h
        unfold w_X6_fitting_24 at h
        obtain ⟨x4, ex4⟩ : ∃ y : Int32, y = v3 + (nI 1) := ⟨_, rfl⟩
        replace h := h x4 ex4
        refine b_iinc (x := x4) (lv' := [(3, .int x4), (0, .ref (ad 0)), (1, .long v1)]) (q := 2) X dX6_fitting_24 rfl (by rw [ex4]; rfl) (by decide) rfl ?_
        refine b_goto (t := 4) X dX6_fitting_27 (by decide) ?_
        refine b_sub (lv' := [(0, .ref (ad 0)), (1, .long v1), (3, .int x4)]) [1, 2, 0] rfl ?_
        exact T4 v1 x4 μ h
      refine b_iload_n X dX6_fitting_4 rfl 2 rfl ?_
      refine b_bipush (v := (nI 40)) X dX6_fitting_5 (by decide) ?_
      refine b_icmp_gt (t := 30) X dX6_fitting_7 (by decide) (fun c => ?_) (fun c => ?_)
      · replace h := h.1 c
        refine b_lload_n X dX6_fitting_30 rfl 1 rfl ?_
        exact hret _ _ _ _ h dX6_fitting_31
      · replace h := h.2 c
        refine b_aload_n X dX6_fitting_10 rfl 0 rfl ?_
        refine b_iload_n X dX6_fitting_11 rfl 2 rfl ?_
        refine bVi (st := []) (nA := 1) X (c_X6_fitsAll l D C ad v3 μ _ h) kF_0 (by decide) (enc_6 kF_0) rfl gw_X6_336 ⟨rfl, hd_X6_fitsAll⟩ ⟨Nat.zero_le _, Nat.zero_le _⟩ rfl rfl ⟨Nat.le_of_ble_eq_true rfl, Nat.le_of_ble_eq_true rfl⟩ rfl rfl (Nat.le_of_ble_eq_true rfl) dX6_fitting_12 (fun r1 μ2 h => ?_)
        refine b_if_eq (t := 24) X dX6_fitting_15 (by decide) (fun c => ?_) (fun c => ?_)
        · replace h := h.1 c
          refine b_sub (lv' := [(0, .ref (ad 0)), (1, .long v1), (3, .int v3)]) [0, 1, 2] rfl ?_
          exact B24 v1 v3 μ2 h
        · replace h := h.2 c
          refine b_lload_n X dX6_fitting_18 rfl 1 rfl ?_
          refine b_lconst (v := (lN 1)) X dX6_fitting_19 (by decide) ?_
          refine b_iload_n X dX6_fitting_20 rfl 2 rfl ?_
          refine b_lshl X dX6_fitting_21 ?_
          refine b_lor X dX6_fitting_22 ?_
          refine b_topl (fun x3 ex3 => ?_)
          replace h := h x3 ex3
          refine b_lstore_n (lv' := [(1, .long x3), (0, .ref (ad 0)), (3, .int v3)]) X dX6_fitting_23 rfl (by decide) rfl ?_
          refine b_sub (lv' := [(0, .ref (ad 0)), (1, .long x3), (3, .int v3)]) [1, 0, 2] rfl ?_
          exact B24 x3 v3 μ2 h
    rw [eY] at B4
    exact B4
  refine b_lconst (v := (lN 0)) X dX6_fitting_0 (by decide) ?_
  refine b_lstore_n (lv' := [(1, .long (lN 0)), (0, .ref (ad 0))]) X dX6_fitting_1 rfl (by decide) rfl ?_
  refine b_iconst (v := (nI 0)) X dX6_fitting_2 (by decide) ?_
  refine b_istore_n (lv' := [(3, .int (nI 0)), (1, .long (lN 0)), (0, .ref (ad 0))]) X dX6_fitting_3 rfl (by decide) rfl ?_
  refine b_sub (lv' := [(0, .ref (ad 0)), (1, .long (lN 0)), (3, .int (nI 0))]) [2, 1, 0] rfl ?_
  exact B4 (lN 0) (nI 0) μ h
set_option maxHeartbeats 4000000 in
set_option maxRecDepth 100000 in
theorem c_J13_bitCount_95d88 (l : Launch) (D : va_G) (C : Nat → ClassId) (ad : Nat → Nat) (a0 : Int64) (μ : Mem) (Q : Int32 → Prop) (h : w_J13_bitCount_95d88 a0 μ Q) : Mi sF l yJ13_bitCount_95d88 cJ13_bitCount_95d88 2 (some .int) rm_J13_bitCount_95d88 D C ad [.long a0] μ (fun r μ' => μ = μ' ∧ Q r) := by
  refine fm_i (by decide +kernel) sF_lt (Nat.le_of_ble_eq_true rfl) (fun K X hret => ?_)
  have X : CK sF D C ad K cJ13_bitCount_95d88 2 RJ13 := X
  refine b_lv (lv' := [(0, .long a0)]) rfl ?_
  unfold w_J13_bitCount_95d88 at h
  refine b_lload_n X dJ13_bitCount_95d88_0 rfl 0 rfl ?_
  refine b_lload_n X dJ13_bitCount_95d88_1 rfl 0 rfl ?_
  refine b_iconst (v := (nI 1)) X dJ13_bitCount_95d88_2 (by decide) ?_
  refine b_lushr X dJ13_bitCount_95d88_3 ?_
  refine b_topl (fun x1 ex1 => ?_)
  replace h := h x1 ex1
  refine b_ldc2 (v := (lN 6148914691236517205)) X m_K_J13_314 dJ13_bitCount_95d88_4 ?_
  refine b_land X dJ13_bitCount_95d88_7 ?_
  refine b_lsub X dJ13_bitCount_95d88_8 ?_
  refine b_topl (fun x2 ex2 => ?_)
  replace h := h x2 ex2
  refine b_lstore_n (lv' := [(0, .long x2)]) X dJ13_bitCount_95d88_9 rfl (by decide) rfl ?_
  refine b_lload_n X dJ13_bitCount_95d88_10 rfl 0 rfl ?_
  refine b_ldc2 (v := (lN 3689348814741910323)) X m_K_J13_316 dJ13_bitCount_95d88_11 ?_
  refine b_land X dJ13_bitCount_95d88_14 ?_
  refine b_lload_n X dJ13_bitCount_95d88_15 rfl 0 rfl ?_
  refine b_iconst (v := (nI 2)) X dJ13_bitCount_95d88_16 (by decide) ?_
  refine b_lushr X dJ13_bitCount_95d88_17 ?_
  refine b_topl (fun x3 ex3 => ?_)
  replace h := h x3 ex3
  refine b_ldc2 (v := (lN 3689348814741910323)) X m_K_J13_316 dJ13_bitCount_95d88_18 ?_
  refine b_land X dJ13_bitCount_95d88_21 ?_
  refine b_ladd X dJ13_bitCount_95d88_22 ?_
  refine b_topl (fun x4 ex4 => ?_)
  replace h := h x4 ex4
  refine b_lstore_n (lv' := [(0, .long x4)]) X dJ13_bitCount_95d88_23 rfl (by decide) rfl ?_
  refine b_lload_n X dJ13_bitCount_95d88_24 rfl 0 rfl ?_
  refine b_lload_n X dJ13_bitCount_95d88_25 rfl 0 rfl ?_
  refine b_iconst (v := (nI 4)) X dJ13_bitCount_95d88_26 (by decide) ?_
  refine b_lushr X dJ13_bitCount_95d88_27 ?_
  refine b_topl (fun x5 ex5 => ?_)
  replace h := h x5 ex5
  refine b_ladd X dJ13_bitCount_95d88_28 ?_
  refine b_ldc2 (v := (lN 1085102592571150095)) X m_K_J13_318 dJ13_bitCount_95d88_29 ?_
  refine b_land X dJ13_bitCount_95d88_32 ?_
  refine b_topl (fun x6 ex6 => ?_)
  replace h := h x6 ex6
  refine b_lstore_n (lv' := [(0, .long x6)]) X dJ13_bitCount_95d88_33 rfl (by decide) rfl ?_
  refine b_lload_n X dJ13_bitCount_95d88_34 rfl 0 rfl ?_
  refine b_lload_n X dJ13_bitCount_95d88_35 rfl 0 rfl ?_
  refine b_bipush (v := (nI 8)) X dJ13_bitCount_95d88_36 (by decide) ?_
  refine b_lushr X dJ13_bitCount_95d88_38 ?_
  refine b_topl (fun x7 ex7 => ?_)
  replace h := h x7 ex7
  refine b_ladd X dJ13_bitCount_95d88_39 ?_
  refine b_topl (fun x8 ex8 => ?_)
  replace h := h x8 ex8
  refine b_lstore_n (lv' := [(0, .long x8)]) X dJ13_bitCount_95d88_40 rfl (by decide) rfl ?_
  refine b_lload_n X dJ13_bitCount_95d88_41 rfl 0 rfl ?_
  refine b_lload_n X dJ13_bitCount_95d88_42 rfl 0 rfl ?_
  refine b_bipush (v := (nI 16)) X dJ13_bitCount_95d88_43 (by decide) ?_
  refine b_lushr X dJ13_bitCount_95d88_45 ?_
  refine b_topl (fun x9 ex9 => ?_)
  replace h := h x9 ex9
  refine b_ladd X dJ13_bitCount_95d88_46 ?_
  refine b_topl (fun x10 ex10 => ?_)
  replace h := h x10 ex10
  refine b_lstore_n (lv' := [(0, .long x10)]) X dJ13_bitCount_95d88_47 rfl (by decide) rfl ?_
  refine b_lload_n X dJ13_bitCount_95d88_48 rfl 0 rfl ?_
  refine b_lload_n X dJ13_bitCount_95d88_49 rfl 0 rfl ?_
  refine b_bipush (v := (nI 32)) X dJ13_bitCount_95d88_50 (by decide) ?_
  refine b_lushr X dJ13_bitCount_95d88_52 ?_
  refine b_topl (fun x11 ex11 => ?_)
  replace h := h x11 ex11
  refine b_ladd X dJ13_bitCount_95d88_53 ?_
  refine b_topl (fun x12 ex12 => ?_)
  replace h := h x12 ex12
  refine b_lstore_n (lv' := [(0, .long x12)]) X dJ13_bitCount_95d88_54 rfl (by decide) rfl ?_
  refine b_lload_n X dJ13_bitCount_95d88_55 rfl 0 rfl ?_
  refine b_l2i X dJ13_bitCount_95d88_56 ?_
  refine b_bipush (v := (nI 127)) X dJ13_bitCount_95d88_57 (by decide) ?_
  refine b_iand X dJ13_bitCount_95d88_59 ?_
  exact hret _ _ _ _ ⟨rfl, h⟩ dJ13_bitCount_95d88_60
set_option maxHeartbeats 4000000 in
set_option maxRecDepth 100000 in
theorem c_X6_thick (l : Launch) (D : va_G) (C : Nat → ClassId) (ad : Nat → Nat) (a1 : Int32) (μ : Mem) (Q : Int32 → Mem → Prop) (h : w_X6_thick a1 μ Q) : Mi sF l yX6_thick cX6_thick 7 (some .int) rm_X6_thick D C ad [.ref (ad 0), .int a1] μ Q := by
  refine fm_i (by decide +kernel) sF_lt (Nat.le_of_ble_eq_true rfl) (fun K X hret => ?_)
  have X : CK sF D C ad K cX6_thick 7 RX6 := X
  refine b_lv (lv' := [(0, .ref (ad 0)), (1, .int a1)]) rfl ?_
  unfold w_X6_thick at h
  have B42 : ∀ (v2 : Int64) (v4 : Int32) (v5 : Int32) (μ : Mem), w_X6_thick_42 a1 v2 v4 v5 μ Q → WB sF l D C ad rm_X6_thick K 7 μ 42 [(1, .int a1), (2, .long v2), (4, .int v4), (5, .int v5)] [] := by
    intro v2 v4 v5 μ h
    obtain ⟨Y42, eY⟩ : ∃ Y : Int32 → Int32 → Prop, Y = fun (v4 : Int32) (v5 : Int32) => WB sF l D C ad rm_X6_thick K 7 μ 42 [(1, .int a1), (2, .long v2), (4, .int v4), (5, .int v5)] [] := ⟨_, rfl⟩
    have B42 : Y42 v4 v5 := by
      unfold w_X6_thick_42 at h
      refine h Y42 ?_
      clear h
      intro v4 v5 h
      unfold s_X6_thick_42 at h
      rw [eY]
      show WB sF l D C ad rm_X6_thick K 7 μ 42 [(1, .int a1), (2, .long v2), (4, .int v4), (5, .int v5)] []
      have T42 : ∀ (v4 : Int32) (v5 : Int32), Y42 v4 v5 → WB sF l D C ad rm_X6_thick K 7 μ 42 [(1, .int a1), (2, .long v2), (4, .int v4), (5, .int v5)] [] := by
        intro v4 v5 h
        rw [eY] at h
        exact h
      clear eY
      have B65 : ∀ (v4 : Int32) (v5 : Int32) (s1 : Int32), w_X6_thick_65 a1 Y42 v2 v4 v5 s1 μ Q → WB sF l D C ad rm_X6_thick K 7 μ 65 [(1, .int a1), (2, .long v2), (4, .int v4), (5, .int v5)] [.int s1] := by
        intro v4 v5 s1 h
        unfold w_X6_thick_65 at h
        have B87 : ∀ (v4 : Int32) (v5 : Int32), w_X6_thick_87 a1 Y42 v2 v4 v5 μ Q → WB sF l D C ad rm_X6_thick K 7 μ 87 [(1, .int a1), (2, .long v2), (4, .int v4), (5, .int v5)] [] := by
          intro v4 v5 h
          unfold w_X6_thick_87 at h
          obtain ⟨x9, ex9⟩ : ∃ y : Int32, y = v5 + (nI 1) := ⟨_, rfl⟩
          replace h := h x9 ex9
          refine b_iinc (x := x9) (lv' := [(5, .int x9), (1, .int a1), (2, .long v2), (4, .int v4)]) (q := 3) X dX6_thick_87 rfl (by rw [ex9]; rfl) (by decide) rfl ?_
          refine b_goto (t := 42) X dX6_thick_90 (by decide) ?_
          refine b_sub (lv' := [(1, .int a1), (2, .long v2), (4, .int v4), (5, .int x9)]) [1, 2, 3, 0] rfl ?_
          exact T42 v4 x9 h
        have B83 : ∀ (v5 : Int32), w_X6_thick_83 a1 Y42 v2 v5 μ Q → WB sF l D C ad rm_X6_thick K 7 μ 83 [(1, .int a1), (2, .long v2), (5, .int v5)] [] := by
          intro v5 h
          unfold w_X6_thick_83 at h
          refine b_iload X dX6_thick_83 2 rfl ?_
          refine b_istore (lv' := [(4, .int v5), (1, .int a1), (2, .long v2), (5, .int v5)]) X dX6_thick_85 (by decide) rfl ?_
          refine b_sub (lv' := [(1, .int a1), (2, .long v2), (4, .int v5), (5, .int v5)]) [1, 2, 0, 3] rfl ?_
          exact B87 v5 v5 h
        refine b_istore (lv' := [(6, .int s1), (1, .int a1), (2, .long v2), (4, .int v4), (5, .int v5)]) X dX6_thick_65 (by decide) rfl ?_
        refine b_iload X dX6_thick_67 0 rfl ?_
        refine b_if_eq (t := 87) X dX6_thick_69 (by decide) (fun c => ?_) (fun c => ?_)
        · replace h := h.1 c
          refine b_sub (lv' := [(1, .int a1), (2, .long v2), (4, .int v4), (5, .int v5)]) [1, 2, 3, 4] rfl ?_
          exact B87 v4 v5 h
        · replace h := h.2 c
          refine b_iload_n X dX6_thick_72 rfl 1 rfl ?_
          refine b_iconst (v := (nI 2)) X dX6_thick_73 (by decide) ?_
          refine b_icmp_eq (t := 83) X dX6_thick_74 (by decide) (fun c => ?_) (fun c => ?_)
          · replace h := h.1 c
            refine b_sub (lv' := [(1, .int a1), (2, .long v2), (5, .int v5)]) [1, 2, 4] rfl ?_
            exact B83 v5 h
          · replace h := h.2 c
            refine b_iload X dX6_thick_77 3 rfl ?_
            refine b_iconst (v := ((-1) : Int32)) X dX6_thick_79 (by decide) ?_
            refine b_icmp_ne (t := 87) X dX6_thick_80 (by decide) (fun c => ?_) (fun c => ?_)
            · replace h := h.1 c
              refine b_sub (lv' := [(1, .int a1), (2, .long v2), (4, .int v4), (5, .int v5)]) [1, 2, 3, 4] rfl ?_
              exact B87 v4 v5 h
            · replace h := h.2 c
              refine b_sub (lv' := [(1, .int a1), (2, .long v2), (5, .int v5)]) [1, 2, 4] rfl ?_
              exact B83 v5 h
      refine b_iload X dX6_thick_42 3 rfl ?_
      refine b_bipush (v := (nI 40)) X dX6_thick_44 (by decide) ?_
      refine b_icmp_gt (t := 93) X dX6_thick_46 (by decide) (fun c => ?_) (fun c => ?_)
      · replace h := h.1 c
        refine b_iload X dX6_thick_93 2 rfl ?_
        exact hret _ _ _ _ h dX6_thick_95
      · replace h := h.2 c
        refine b_lload_n X dX6_thick_49 rfl 1 rfl ?_
        refine b_iload X dX6_thick_50 3 rfl ?_
        refine b_lshr X dX6_thick_52 ?_
        refine b_lconst (v := (lN 1)) X dX6_thick_53 (by decide) ?_
        refine b_land X dX6_thick_54 ?_
        refine b_lconst (v := (lN 1)) X dX6_thick_55 (by decide) ?_
        refine b_lcmp X dX6_thick_56 ?_
        refine b_if_ne (t := 64) X dX6_thick_57 (by decide) (fun c => ?_) (fun c => ?_)
        · replace h := h.1 c
          refine b_iconst (v := (nI 0)) X dX6_thick_64 (by decide) ?_
          refine b_sub (lv' := [(1, .int a1), (2, .long v2), (4, .int v4), (5, .int v5)]) [0, 1, 2, 3] rfl ?_
          exact B65 v4 v5 (nI 0) h
        · replace h := h.2 c
          refine b_iconst (v := (nI 1)) X dX6_thick_60 (by decide) ?_
          refine b_goto (t := 65) X dX6_thick_61 (by decide) ?_
          refine b_sub (lv' := [(1, .int a1), (2, .long v2), (4, .int v4), (5, .int v5)]) [0, 1, 2, 3] rfl ?_
          exact B65 v4 v5 (nI 1) h
    rw [eY] at B42
    exact B42
  refine b_iload_n X dX6_thick_0 rfl 1 rfl ?_
  refine b_iconst (v := (nI 0)) X dX6_thick_1 (by decide) ?_
  refine b_iconst (v := (nI 2)) X dX6_thick_2 (by decide) ?_
  refine bSi (st := []) (nA := 3) X (c_X6_within l D C ad a1 (nI 0) (nI 2) μ _ h) gw_X6_80 hd_X6_within ⟨Nat.zero_le _, Nat.zero_le _⟩ rfl rfl ⟨Nat.le_of_ble_eq_true rfl, Nat.le_of_ble_eq_true rfl⟩ rfl rfl (Nat.le_of_ble_eq_true rfl) dX6_thick_3 (fun r1 μ2 h => ?_)
  obtain ⟨rfl, h⟩ := h
  refine b_if_ne (t := 12) X dX6_thick_6 (by decide) (fun c => ?_) (fun c => ?_)
  · replace h := h.1 c
    refine b_aload_n X dX6_thick_12 rfl 0 rfl ?_
    refine bVi (st := []) (nA := 0) X (c_X6_isBare l D C ad  μ _ h) kF_0 (by decide) (enc_6 kF_0) rfl gw_X6_173 ⟨rfl, hd_X6_isBare⟩ ⟨Nat.zero_le _, Nat.zero_le _⟩ rfl rfl ⟨Nat.le_of_ble_eq_true rfl, Nat.le_of_ble_eq_true rfl⟩ rfl rfl (Nat.le_of_ble_eq_true rfl) dX6_thick_13 (fun r3 μ4 h => ?_)
    obtain ⟨rfl, h⟩ := h
    refine b_if_eq (t := 22) X dX6_thick_16 (by decide) (fun c => ?_) (fun c => ?_)
    · replace h := h.1 c
      refine b_aload_n X dX6_thick_22 rfl 0 rfl ?_
      refine bVl (st := []) (nA := 0) X (c_X6_fitting l D C ad  μ _ h) kF_0 (by decide) (enc_6 kF_0) rfl gw_X6_301 ⟨rfl, hd_X6_fitting⟩ ⟨Nat.zero_le _, Nat.zero_le _⟩ rfl rfl ⟨Nat.le_of_ble_eq_true rfl, Nat.le_of_ble_eq_true rfl⟩ rfl rfl (Nat.le_of_ble_eq_true rfl) dX6_thick_23 (fun r5 μ6 h => ?_)
      refine b_lstore_n (lv' := [(2, .long r5), (0, .ref (ad 0)), (1, .int a1)]) X dX6_thick_26 rfl (by decide) rfl ?_
      refine b_iload_n X dX6_thick_27 rfl 2 rfl ?_
      refine b_if_ne (t := 36) X dX6_thick_28 (by decide) (fun c => ?_) (fun c => ?_)
      · replace h := h.1 c
        refine b_iconst (v := ((-1) : Int32)) X dX6_thick_36 (by decide) ?_
        refine b_istore (lv' := [(4, .int ((-1) : Int32)), (2, .long r5), (0, .ref (ad 0)), (1, .int a1)]) X dX6_thick_37 (by decide) rfl ?_
        refine b_iconst (v := (nI 0)) X dX6_thick_39 (by decide) ?_
        refine b_istore (lv' := [(5, .int (nI 0)), (4, .int ((-1) : Int32)), (2, .long r5), (0, .ref (ad 0)), (1, .int a1)]) X dX6_thick_40 (by decide) rfl ?_
        refine b_sub (lv' := [(1, .int a1), (2, .long r5), (4, .int ((-1) : Int32)), (5, .int (nI 0))]) [4, 2, 1, 0] rfl ?_
        exact B42 r5 ((-1) : Int32) (nI 0) μ6 h
      · replace h := h.2 c
        refine b_lload_n X dX6_thick_31 rfl 0 rfl ?_
        refine bSi (st := []) (nA := 1) X (c_J13_bitCount_95d88 l D C ad r5 μ6 _ h) gw_X6_305 hd_J13_bitCount_95d88 ⟨Nat.zero_le _, Nat.zero_le _⟩ rfl rfl ⟨Nat.le_of_ble_eq_true rfl, Nat.le_of_ble_eq_true rfl⟩ rfl rfl (Nat.le_of_ble_eq_true rfl) dX6_thick_32 (fun r7 μ8 h => ?_)
        obtain ⟨rfl, h⟩ := h
        exact hret _ _ _ _ h dX6_thick_35
    · replace h := h.2 c
      refine b_ldc (v := ((-1000000003) : Int32)) X m_k_X6_177 dX6_thick_19 ?_
      exact hret _ _ _ _ h dX6_thick_21
  · replace h := h.2 c
    refine b_ldc (v := ((-1000000002) : Int32)) X m_k_X6_84 dX6_thick_9 ?_
    exact hret _ _ _ _ h dX6_thick_11
set_option maxHeartbeats 4000000 in
set_option maxRecDepth 100000 in
theorem c_X6_greatestPart (l : Launch) (D : va_G) (C : Nat → ClassId) (ad : Nat → Nat) (a1 : Int64) (a3 : Int32) (a4 : Int32) (μ : Mem) (Q : Int32 → Mem → Prop) (h : w_X6_greatestPart a1 a3 a4 μ Q) : Mi sF l yX6_greatestPart cX6_greatestPart 9 (some .int) rm_X6_greatestPart D C ad [.ref (ad 0), .long a1, .int a3, .int a4] μ Q := by
  refine fm_i (by decide +kernel) sF_lt (Nat.le_of_ble_eq_true rfl) (fun K X hret => ?_)
  have X : CK sF D C ad K cX6_greatestPart 9 RX6 := X
  refine b_lv (lv' := [(0, .ref (ad 0)), (1, .long a1), (3, .int a3), (4, .int a4)]) rfl ?_
  unfold w_X6_greatestPart at h
  have B3 : ∀ (v5 : Int32) (μ : Mem), w_X6_greatestPart_3 a1 a3 a4 v5 μ Q → WB sF l D C ad rm_X6_greatestPart K 9 μ 3 [(0, .ref (ad 0)), (1, .long a1), (3, .int a3), (4, .int a4), (5, .int v5)] [] := by
    intro v5 μ h
    obtain ⟨Y3, eY⟩ : ∃ Y : Int32 → Mem → Prop, Y = fun (v5 : Int32) (μ : Mem) => WB sF l D C ad rm_X6_greatestPart K 9 μ 3 [(0, .ref (ad 0)), (1, .long a1), (3, .int a3), (4, .int a4), (5, .int v5)] [] := ⟨_, rfl⟩
    have B3 : Y3 v5 μ := by
      unfold w_X6_greatestPart_3 at h
      refine h Y3 ?_
      clear h
      intro v5 μ h
      unfold s_X6_greatestPart_3 at h
      rw [eY]
      show WB sF l D C ad rm_X6_greatestPart K 9 μ 3 [(0, .ref (ad 0)), (1, .long a1), (3, .int a3), (4, .int a4), (5, .int v5)] []
      have T3 : ∀ (v5 : Int32) (μ : Mem), Y3 v5 μ → WB sF l D C ad rm_X6_greatestPart K 9 μ 3 [(0, .ref (ad 0)), (1, .long a1), (3, .int a3), (4, .int a4), (5, .int v5)] [] := by
        intro v5 μ h
        rw [eY] at h
        exact h
      clear eY
      have B24 : ∀ (μ : Mem), w_X6_greatestPart_24 a1 a3 a4 μ Q → WB sF l D C ad rm_X6_greatestPart K 9 μ 24 [(0, .ref (ad 0)), (1, .long a1), (3, .int a3), (4, .int a4)] [] := by
        intro μ h
        unfold w_X6_greatestPart_24 at h
        have B30 : ∀ (v5 : Int32) (v6 : Int32) (μ : Mem), w_X6_greatestPart_30 a1 a3 a4 v5 v6 μ Q → WB sF l D C ad rm_X6_greatestPart K 9 μ 30 [(0, .ref (ad 0)), (1, .long a1), (3, .int a3), (4, .int a4), (5, .int v5), (6, .int v6)] [] := by
          intro v5 v6 μ h
          obtain ⟨Y30, eY⟩ : ∃ Y : Int32 → Int32 → Mem → Prop, Y = fun (v5 : Int32) (v6 : Int32) (μ : Mem) => WB sF l D C ad rm_X6_greatestPart K 9 μ 30 [(0, .ref (ad 0)), (1, .long a1), (3, .int a3), (4, .int a4), (5, .int v5), (6, .int v6)] [] := ⟨_, rfl⟩
          have B30 : Y30 v5 v6 μ := by
            unfold w_X6_greatestPart_30 at h
            refine h Y30 ?_
            clear h
            intro v5 v6 μ h
            unfold s_X6_greatestPart_30 at h
            rw [eY]
            show WB sF l D C ad rm_X6_greatestPart K 9 μ 30 [(0, .ref (ad 0)), (1, .long a1), (3, .int a3), (4, .int a4), (5, .int v5), (6, .int v6)] []
            have T30 : ∀ (v5 : Int32) (v6 : Int32) (μ : Mem), Y30 v5 v6 μ → WB sF l D C ad rm_X6_greatestPart K 9 μ 30 [(0, .ref (ad 0)), (1, .long a1), (3, .int a3), (4, .int a4), (5, .int v5), (6, .int v6)] [] := by
              intro v5 v6 μ h
              rw [eY] at h
              exact h
            clear eY
            have B95 : ∀ (v5 : Int32) (v6 : Int32) (μ : Mem), w_X6_greatestPart_95 a1 a3 a4 Y30 v5 v6 μ Q → WB sF l D C ad rm_X6_greatestPart K 9 μ 95 [(0, .ref (ad 0)), (1, .long a1), (3, .int a3), (4, .int a4), (5, .int v5), (6, .int v6)] [] := by
              intro v5 v6 μ h
              unfold w_X6_greatestPart_95 at h
              obtain ⟨x11, ex11⟩ : ∃ y : Int32, y = v6 + (nI 1) := ⟨_, rfl⟩
              replace h := h x11 ex11
              refine b_iinc (x := x11) (lv' := [(6, .int x11), (0, .ref (ad 0)), (1, .long a1), (3, .int a3), (4, .int a4), (5, .int v5)]) (q := 5) X dX6_greatestPart_95 rfl (by rw [ex11]; rfl) (by decide) rfl ?_
              refine b_goto (t := 30) X dX6_greatestPart_98 (by decide) ?_
              refine b_sub (lv' := [(0, .ref (ad 0)), (1, .long a1), (3, .int a3), (4, .int a4), (5, .int v5), (6, .int x11)]) [1, 2, 3, 4, 5, 0] rfl ?_
              exact T30 v5 x11 μ h
            refine b_iload X dX6_greatestPart_30 5 rfl ?_
            refine b_bipush (v := (nI 40)) X dX6_greatestPart_32 (by decide) ?_
            refine b_icmp_gt (t := 101) X dX6_greatestPart_34 (by decide) (fun c => ?_) (fun c => ?_)
            · replace h := h.1 c
              refine b_iload X dX6_greatestPart_101 4 rfl ?_
              exact hret _ _ _ _ h dX6_greatestPart_103
            · replace h := h.2 c
              refine b_lload_n X dX6_greatestPart_37 rfl 1 rfl ?_
              refine b_iload X dX6_greatestPart_38 5 rfl ?_
              refine b_lshr X dX6_greatestPart_40 ?_
              refine b_lconst (v := (lN 1)) X dX6_greatestPart_41 (by decide) ?_
              refine b_land X dX6_greatestPart_42 ?_
              refine b_lconst (v := (lN 0)) X dX6_greatestPart_43 (by decide) ?_
              refine b_lcmp X dX6_greatestPart_44 ?_
              refine b_if_ne (t := 51) X dX6_greatestPart_45 (by decide) (fun c => ?_) (fun c => ?_)
              · replace h := h.1 c
                refine b_aload_n X dX6_greatestPart_51 rfl 0 rfl ?_
                refine b_iload_n X dX6_greatestPart_52 rfl 2 rfl ?_
                refine b_iload X dX6_greatestPart_53 3 rfl ?_
                refine b_iload X dX6_greatestPart_55 5 rfl ?_
                refine bVi (st := []) (nA := 3) X (c_X6_takenOf l D C ad a3 a4 v6 μ _ h) kF_0 (by decide) (enc_6 kF_0) rfl gw_X6_314 ⟨rfl, hd_X6_takenOf⟩ ⟨Nat.zero_le _, Nat.zero_le _⟩ rfl rfl ⟨Nat.le_of_ble_eq_true rfl, Nat.le_of_ble_eq_true rfl⟩ rfl rfl (Nat.le_of_ble_eq_true rfl) dX6_greatestPart_57 (fun r3 μ4 h => ?_)
                refine b_istore (lv' := [(7, .int r3), (0, .ref (ad 0)), (1, .long a1), (3, .int a3), (4, .int a4), (5, .int v5), (6, .int v6)]) X dX6_greatestPart_60 (by decide) rfl ?_
                refine b_aload_n X dX6_greatestPart_62 rfl 1 rfl ?_
                refine g_6_13 X kF_0 m_f_X6_77 dX6_greatestPart_63 ?_
                refine b_iload X dX6_greatestPart_66 0 rfl ?_
                refine bSi (st := []) (nA := 2) X (c_X6_at l D C ad 245 kF_245 r3 μ4 _ h) gw_X6_154 hd_X6_at ⟨Nat.zero_le _, Nat.zero_le _⟩ rfl rfl ⟨Nat.le_of_ble_eq_true rfl, Nat.le_of_ble_eq_true rfl⟩ rfl rfl (Nat.le_of_ble_eq_true rfl) dX6_greatestPart_68 (fun r5 μ6 h => ?_)
                obtain ⟨rfl, h⟩ := h
                refine b_iconst (v := (nI 1)) X dX6_greatestPart_71 (by decide) ?_
                refine b_iadd X dX6_greatestPart_72 ?_
                refine b_topi (fun x7 ex7 => ?_)
                replace h := h x7 ex7
                refine b_istore (lv' := [(8, .int x7), (7, .int r3), (0, .ref (ad 0)), (1, .long a1), (3, .int a3), (4, .int a4), (5, .int v5), (6, .int v6)]) X dX6_greatestPart_73 (by decide) rfl ?_
                refine b_aload_n X dX6_greatestPart_75 rfl 2 rfl ?_
                refine g_6_13 X kF_0 m_f_X6_77 dX6_greatestPart_76 ?_
                refine b_iload X dX6_greatestPart_79 1 rfl ?_
                refine b_iload X dX6_greatestPart_81 0 rfl ?_
                refine bSv (st := []) (nA := 3) X (c_X6_put l D C ad 245 kF_245 r3 x7 μ4 _ h) gw_X6_227 hd_X6_put ⟨Nat.zero_le _, Nat.zero_le _⟩ rfl rfl ⟨Nat.le_of_ble_eq_true rfl, Nat.le_of_ble_eq_true rfl⟩ rfl rfl (Nat.le_of_ble_eq_true rfl) dX6_greatestPart_83 (fun μ9 h => ?_)
                refine b_iload X dX6_greatestPart_86 6 rfl ?_
                refine b_iload X dX6_greatestPart_88 0 rfl ?_
                refine b_mmax X ⟨Nat.zero_le _, Nat.zero_le _⟩ m_m_X6_342 m_s_mmax m_n_J9 m_c_mmax (Nat.le_of_ble_eq_true rfl) (Nat.le_of_ble_eq_true rfl) dX6_greatestPart_90 ?_
                refine b_topi (fun x10 ex10 => ?_)
                replace h := h x10 ex10
                refine b_istore (lv' := [(5, .int x10), (8, .int x7), (7, .int r3), (0, .ref (ad 0)), (1, .long a1), (3, .int a3), (4, .int a4), (6, .int v6)]) X dX6_greatestPart_93 (by decide) rfl ?_
                refine b_sub (lv' := [(0, .ref (ad 0)), (1, .long a1), (3, .int a3), (4, .int a4), (5, .int x10), (6, .int v6)]) [3, 4, 5, 6, 0, 7] rfl ?_
                exact B95 x10 v6 μ9 h
              · replace h := h.2 c
                refine b_goto (t := 95) X dX6_greatestPart_48 (by decide) ?_
                refine b_sub (lv' := [(0, .ref (ad 0)), (1, .long a1), (3, .int a3), (4, .int a4), (5, .int v5), (6, .int v6)]) [0, 1, 2, 3, 4, 5] rfl ?_
                exact B95 v5 v6 μ h
          rw [eY] at B30
          exact B30
        refine b_iconst (v := (nI 0)) X dX6_greatestPart_24 (by decide) ?_
        refine b_istore (lv' := [(5, .int (nI 0)), (0, .ref (ad 0)), (1, .long a1), (3, .int a3), (4, .int a4)]) X dX6_greatestPart_25 (by decide) rfl ?_
        refine b_iconst (v := (nI 0)) X dX6_greatestPart_27 (by decide) ?_
        refine b_istore (lv' := [(6, .int (nI 0)), (5, .int (nI 0)), (0, .ref (ad 0)), (1, .long a1), (3, .int a3), (4, .int a4)]) X dX6_greatestPart_28 (by decide) rfl ?_
        refine b_sub (lv' := [(0, .ref (ad 0)), (1, .long a1), (3, .int a3), (4, .int a4), (5, .int (nI 0)), (6, .int (nI 0))]) [2, 3, 4, 5, 1, 0] rfl ?_
        exact B30 (nI 0) (nI 0) μ h
      refine b_iload X dX6_greatestPart_3 4 rfl ?_
      refine b_bipush (v := (nI 40)) X dX6_greatestPart_5 (by decide) ?_
      refine b_icmp_gt (t := 24) X dX6_greatestPart_7 (by decide) (fun c => ?_) (fun c => ?_)
      · replace h := h.1 c
        refine b_sub (lv' := [(0, .ref (ad 0)), (1, .long a1), (3, .int a3), (4, .int a4)]) [0, 1, 2, 3] rfl ?_
        exact B24 μ h
      · replace h := h.2 c
        refine b_aload_n X dX6_greatestPart_10 rfl 0 rfl ?_
        refine g_6_13 X kF_0 m_f_X6_77 dX6_greatestPart_11 ?_
        refine b_iload X dX6_greatestPart_14 4 rfl ?_
        refine b_iconst (v := (nI 0)) X dX6_greatestPart_16 (by decide) ?_
        have hz := h.1
        replace h := h.2
        refine b_iast X kF_245 nF_245 hz dX6_greatestPart_17 (fun μ1 eμ1 => ?_)
        clear hz
        replace h := h μ1 eμ1
        obtain ⟨x2, ex2⟩ : ∃ y : Int32, y = v5 + (nI 1) := ⟨_, rfl⟩
        replace h := h x2 ex2
        refine b_iinc (x := x2) (lv' := [(5, .int x2), (0, .ref (ad 0)), (1, .long a1), (3, .int a3), (4, .int a4)]) (q := 4) X dX6_greatestPart_18 rfl (by rw [ex2]; rfl) (by decide) rfl ?_
        refine b_goto (t := 3) X dX6_greatestPart_21 (by decide) ?_
        refine b_sub (lv' := [(0, .ref (ad 0)), (1, .long a1), (3, .int a3), (4, .int a4), (5, .int x2)]) [1, 2, 3, 4, 0] rfl ?_
        exact T3 x2 μ1 h
    rw [eY] at B3
    exact B3
  refine b_iconst (v := (nI 0)) X dX6_greatestPart_0 (by decide) ?_
  refine b_istore (lv' := [(5, .int (nI 0)), (0, .ref (ad 0)), (1, .long a1), (3, .int a3), (4, .int a4)]) X dX6_greatestPart_1 (by decide) rfl ?_
  refine b_sub (lv' := [(0, .ref (ad 0)), (1, .long a1), (3, .int a3), (4, .int a4), (5, .int (nI 0))]) [1, 2, 3, 4, 0] rfl ?_
  exact B3 (nI 0) μ h
set_option maxHeartbeats 4000000 in
set_option maxRecDepth 100000 in
theorem c_X6_lookAt (l : Launch) (D : va_G) (C : Nat → ClassId) (ad : Nat → Nat) (a1 : Int32) (μ : Mem) (Q : Int32 → Mem → Prop) (h : w_X6_lookAt a1 μ Q) : Mi sF l yX6_lookAt cX6_lookAt 8 (some .int) rm_X6_lookAt D C ad [.ref (ad 0), .int a1] μ Q := by
  refine fm_i (by decide +kernel) sF_lt (Nat.le_of_ble_eq_true rfl) (fun K X hret => ?_)
  have X : CK sF D C ad K cX6_lookAt 8 RX6 := X
  refine b_lv (lv' := [(0, .ref (ad 0)), (1, .int a1)]) rfl ?_
  unfold w_X6_lookAt at h
  have B39 : ∀ (v2 : Int64) (v4 : Int32) (v5 : Int32) (v6 : Int32) (μ : Mem), w_X6_lookAt_39 a1 v2 v4 v5 v6 μ Q → WB sF l D C ad rm_X6_lookAt K 8 μ 39 [(0, .ref (ad 0)), (1, .int a1), (2, .long v2), (4, .int v4), (5, .int v5), (6, .int v6)] [] := by
    intro v2 v4 v5 v6 μ h
    obtain ⟨Y39, eY⟩ : ∃ Y : Int32 → Int32 → Int32 → Mem → Prop, Y = fun (v4 : Int32) (v5 : Int32) (v6 : Int32) (μ : Mem) => WB sF l D C ad rm_X6_lookAt K 8 μ 39 [(0, .ref (ad 0)), (1, .int a1), (2, .long v2), (4, .int v4), (5, .int v5), (6, .int v6)] [] := ⟨_, rfl⟩
    have B39 : Y39 v4 v5 v6 μ := by
      unfold w_X6_lookAt_39 at h
      refine h Y39 ?_
      clear h
      intro v4 v5 v6 μ h
      unfold s_X6_lookAt_39 at h
      rw [eY]
      show WB sF l D C ad rm_X6_lookAt K 8 μ 39 [(0, .ref (ad 0)), (1, .int a1), (2, .long v2), (4, .int v4), (5, .int v5), (6, .int v6)] []
      have T39 : ∀ (v4 : Int32) (v5 : Int32) (v6 : Int32) (μ : Mem), Y39 v4 v5 v6 μ → WB sF l D C ad rm_X6_lookAt K 8 μ 39 [(0, .ref (ad 0)), (1, .int a1), (2, .long v2), (4, .int v4), (5, .int v5), (6, .int v6)] [] := by
        intro v4 v5 v6 μ h
        rw [eY] at h
        exact h
      clear eY
      have B83 : ∀ (v4 : Int32) (v5 : Int32) (v6 : Int32) (μ : Mem), w_X6_lookAt_83 a1 Y39 v2 v4 v5 v6 μ Q → WB sF l D C ad rm_X6_lookAt K 8 μ 83 [(0, .ref (ad 0)), (1, .int a1), (2, .long v2), (4, .int v4), (5, .int v5), (6, .int v6)] [] := by
        intro v4 v5 v6 μ h
        unfold w_X6_lookAt_83 at h
        obtain ⟨x13, ex13⟩ : ∃ y : Int32, y = v6 + (nI 1) := ⟨_, rfl⟩
        replace h := h x13 ex13
        refine b_iinc (x := x13) (lv' := [(6, .int x13), (0, .ref (ad 0)), (1, .int a1), (2, .long v2), (4, .int v4), (5, .int v5)]) (q := 5) X dX6_lookAt_83 rfl (by rw [ex13]; rfl) (by decide) rfl ?_
        refine b_goto (t := 39) X dX6_lookAt_86 (by decide) ?_
        refine b_sub (lv' := [(0, .ref (ad 0)), (1, .int a1), (2, .long v2), (4, .int v4), (5, .int v5), (6, .int x13)]) [1, 2, 3, 4, 5, 0] rfl ?_
        exact T39 v4 v5 x13 μ h
      refine b_iload X dX6_lookAt_39 5 rfl ?_
      refine b_bipush (v := (nI 6)) X dX6_lookAt_41 (by decide) ?_
      refine b_icmp_ge (t := 89) X dX6_lookAt_43 (by decide) (fun c => ?_) (fun c => ?_)
      · replace h := h.1 c
        refine b_iload X dX6_lookAt_89 3 rfl ?_
        exact hret _ _ _ _ h dX6_lookAt_91
      · replace h := h.2 c
        refine b_aload_n X dX6_lookAt_46 rfl 0 rfl ?_
        refine b_iload X dX6_lookAt_47 5 rfl ?_
        refine bVi (st := []) (nA := 1) X (c_X6_isPost l D C ad v6 μ _ h) kF_0 (by decide) (enc_6 kF_0) rfl gw_X6_146 ⟨rfl, hd_X6_isPost⟩ ⟨Nat.zero_le _, Nat.zero_le _⟩ rfl rfl ⟨Nat.le_of_ble_eq_true rfl, Nat.le_of_ble_eq_true rfl⟩ rfl rfl (Nat.le_of_ble_eq_true rfl) dX6_lookAt_49 (fun r9 μ10 h => ?_)
        obtain ⟨rfl, h⟩ := h
        refine b_if_ne (t := 58) X dX6_lookAt_52 (by decide) (fun c => ?_) (fun c => ?_)
        · replace h := h.1 c
          refine b_aload_n X dX6_lookAt_58 rfl 0 rfl ?_
          refine b_lload_n X dX6_lookAt_59 rfl 2 rfl ?_
          refine b_iload X dX6_lookAt_60 5 rfl ?_
          refine b_iload_n X dX6_lookAt_62 rfl 1 rfl ?_
          refine bVi (st := []) (nA := 3) X (c_X6_greatestPart l D C ad v2 v6 a1 μ _ h) kF_0 (by decide) (enc_6 kF_0) rfl gw_X6_310 ⟨rfl, hd_X6_greatestPart⟩ ⟨Nat.zero_le _, Nat.zero_le _⟩ rfl rfl ⟨Nat.le_of_ble_eq_true rfl, Nat.le_of_ble_eq_true rfl⟩ rfl rfl (Nat.le_of_ble_eq_true rfl) dX6_lookAt_63 (fun r11 μ12 h => ?_)
          refine b_istore (lv' := [(7, .int r11), (0, .ref (ad 0)), (1, .int a1), (2, .long v2), (4, .int v4), (5, .int v5), (6, .int v6)]) X dX6_lookAt_66 (by decide) rfl ?_
          refine b_iload X dX6_lookAt_68 0 rfl ?_
          refine b_iload X dX6_lookAt_70 5 rfl ?_
          refine b_icmp_ge (t := 83) X dX6_lookAt_72 (by decide) (fun c => ?_) (fun c => ?_)
          · replace h := h.1 c
            refine b_sub (lv' := [(0, .ref (ad 0)), (1, .int a1), (2, .long v2), (4, .int v4), (5, .int v5), (6, .int v6)]) [1, 2, 3, 4, 5, 6] rfl ?_
            exact B83 v4 v5 v6 μ12 h
          · replace h := h.2 c
            refine b_iload X dX6_lookAt_75 0 rfl ?_
            refine b_istore (lv' := [(5, .int r11), (7, .int r11), (0, .ref (ad 0)), (1, .int a1), (2, .long v2), (4, .int v4), (6, .int v6)]) X dX6_lookAt_77 (by decide) rfl ?_
            refine b_iload X dX6_lookAt_79 6 rfl ?_
            refine b_istore (lv' := [(4, .int v6), (5, .int r11), (7, .int r11), (0, .ref (ad 0)), (1, .int a1), (2, .long v2), (6, .int v6)]) X dX6_lookAt_81 (by decide) rfl ?_
            refine b_sub (lv' := [(0, .ref (ad 0)), (1, .int a1), (2, .long v2), (4, .int v6), (5, .int r11), (6, .int v6)]) [3, 4, 5, 0, 1, 6] rfl ?_
            exact B83 v6 r11 v6 μ12 h
        · replace h := h.2 c
          refine b_goto (t := 83) X dX6_lookAt_55 (by decide) ?_
          refine b_sub (lv' := [(0, .ref (ad 0)), (1, .int a1), (2, .long v2), (4, .int v4), (5, .int v5), (6, .int v6)]) [0, 1, 2, 3, 4, 5] rfl ?_
          exact B83 v4 v5 v6 μ h
    rw [eY] at B39
    exact B39
  refine b_iload_n X dX6_lookAt_0 rfl 1 rfl ?_
  refine b_iconst (v := (nI 0)) X dX6_lookAt_1 (by decide) ?_
  refine b_iconst (v := (nI 1)) X dX6_lookAt_2 (by decide) ?_
  refine bSi (st := []) (nA := 3) X (c_X6_within l D C ad a1 (nI 0) (nI 1) μ _ h) gw_X6_80 hd_X6_within ⟨Nat.zero_le _, Nat.zero_le _⟩ rfl rfl ⟨Nat.le_of_ble_eq_true rfl, Nat.le_of_ble_eq_true rfl⟩ rfl rfl (Nat.le_of_ble_eq_true rfl) dX6_lookAt_3 (fun r1 μ2 h => ?_)
  obtain ⟨rfl, h⟩ := h
  refine b_if_ne (t := 12) X dX6_lookAt_6 (by decide) (fun c => ?_) (fun c => ?_)
  · replace h := h.1 c
    refine b_aload_n X dX6_lookAt_12 rfl 0 rfl ?_
    refine bVi (st := []) (nA := 0) X (c_X6_isBare l D C ad  μ _ h) kF_0 (by decide) (enc_6 kF_0) rfl gw_X6_173 ⟨rfl, hd_X6_isBare⟩ ⟨Nat.zero_le _, Nat.zero_le _⟩ rfl rfl ⟨Nat.le_of_ble_eq_true rfl, Nat.le_of_ble_eq_true rfl⟩ rfl rfl (Nat.le_of_ble_eq_true rfl) dX6_lookAt_13 (fun r3 μ4 h => ?_)
    obtain ⟨rfl, h⟩ := h
    refine b_if_eq (t := 22) X dX6_lookAt_16 (by decide) (fun c => ?_) (fun c => ?_)
    · replace h := h.1 c
      refine b_aload_n X dX6_lookAt_22 rfl 0 rfl ?_
      refine bVl (st := []) (nA := 0) X (c_X6_fitting l D C ad  μ _ h) kF_0 (by decide) (enc_6 kF_0) rfl gw_X6_301 ⟨rfl, hd_X6_fitting⟩ ⟨Nat.zero_le _, Nat.zero_le _⟩ rfl rfl ⟨Nat.le_of_ble_eq_true rfl, Nat.le_of_ble_eq_true rfl⟩ rfl rfl (Nat.le_of_ble_eq_true rfl) dX6_lookAt_23 (fun r5 μ6 h => ?_)
      refine b_lstore_n (lv' := [(2, .long r5), (0, .ref (ad 0)), (1, .int a1)]) X dX6_lookAt_26 rfl (by decide) rfl ?_
      refine b_iconst (v := ((-1) : Int32)) X dX6_lookAt_27 (by decide) ?_
      refine b_istore (lv' := [(4, .int ((-1) : Int32)), (2, .long r5), (0, .ref (ad 0)), (1, .int a1)]) X dX6_lookAt_28 (by decide) rfl ?_
      refine b_lload_n X dX6_lookAt_30 rfl 1 rfl ?_
      refine bSi (st := []) (nA := 1) X (c_J13_bitCount_95d88 l D C ad r5 μ6 _ h) gw_X6_305 hd_J13_bitCount_95d88 ⟨Nat.zero_le _, Nat.zero_le _⟩ rfl rfl ⟨Nat.le_of_ble_eq_true rfl, Nat.le_of_ble_eq_true rfl⟩ rfl rfl (Nat.le_of_ble_eq_true rfl) dX6_lookAt_31 (fun r7 μ8 h => ?_)
      obtain ⟨rfl, h⟩ := h
      refine b_istore (lv' := [(5, .int r7), (4, .int ((-1) : Int32)), (2, .long r5), (0, .ref (ad 0)), (1, .int a1)]) X dX6_lookAt_34 (by decide) rfl ?_
      refine b_iconst (v := (nI 0)) X dX6_lookAt_36 (by decide) ?_
      refine b_istore (lv' := [(6, .int (nI 0)), (5, .int r7), (4, .int ((-1) : Int32)), (2, .long r5), (0, .ref (ad 0)), (1, .int a1)]) X dX6_lookAt_37 (by decide) rfl ?_
      refine b_sub (lv' := [(0, .ref (ad 0)), (1, .int a1), (2, .long r5), (4, .int ((-1) : Int32)), (5, .int r7), (6, .int (nI 0))]) [4, 5, 3, 2, 1, 0] rfl ?_
      exact B39 r5 ((-1) : Int32) r7 (nI 0) μ6 h
    · replace h := h.2 c
      refine b_ldc (v := ((-1000000003) : Int32)) X m_k_X6_177 dX6_lookAt_19 ?_
      exact hret _ _ _ _ h dX6_lookAt_21
  · replace h := h.2 c
    refine b_ldc (v := ((-1000000002) : Int32)) X m_k_X6_84 dX6_lookAt_9 ?_
    exact hret _ _ _ _ h dX6_lookAt_11
set_option maxHeartbeats 4000000 in
set_option maxRecDepth 100000 in
theorem c_X6_needs (l : Launch) (D : va_G) (C : Nat → ClassId) (ad : Nat → Nat) (a1 : Int32) (a2 : Int32) (a3 : Int32) (μ : Mem) (Q : Int32 → Mem → Prop) (h : w_X6_needs a1 a2 a3 μ Q) : Mi sF l yX6_needs cX6_needs 5 (some .int) rm_X6_needs D C ad [.ref (ad 0), .int a1, .int a2, .int a3] μ Q := by
  refine fm_i (by decide +kernel) sF_lt (Nat.le_of_ble_eq_true rfl) (fun K X hret => ?_)
  have X : CK sF D C ad K cX6_needs 5 RX6 := X
  refine b_lv (lv' := [(0, .ref (ad 0)), (1, .int a1), (2, .int a2), (3, .int a3)]) rfl ?_
  unfold w_X6_needs at h
  have B36 : ∀ (v4 : Int32) (μ : Mem), w_X6_needs_36 a1 a2 a3 v4 μ Q → WB sF l D C ad rm_X6_needs K 5 μ 36 [(0, .ref (ad 0)), (1, .int a1), (2, .int a2), (3, .int a3), (4, .int v4)] [] := by
    intro v4 μ h
    obtain ⟨Y36, eY⟩ : ∃ Y : Int32 → Mem → Prop, Y = fun (v4 : Int32) (μ : Mem) => WB sF l D C ad rm_X6_needs K 5 μ 36 [(0, .ref (ad 0)), (1, .int a1), (2, .int a2), (3, .int a3), (4, .int v4)] [] := ⟨_, rfl⟩
    have B36 : Y36 v4 μ := by
      unfold w_X6_needs_36 at h
      refine h Y36 ?_
      clear h
      intro v4 μ h
      unfold s_X6_needs_36 at h
      rw [eY]
      show WB sF l D C ad rm_X6_needs K 5 μ 36 [(0, .ref (ad 0)), (1, .int a1), (2, .int a2), (3, .int a3), (4, .int v4)] []
      have T36 : ∀ (v4 : Int32) (μ : Mem), Y36 v4 μ → WB sF l D C ad rm_X6_needs K 5 μ 36 [(0, .ref (ad 0)), (1, .int a1), (2, .int a2), (3, .int a3), (4, .int v4)] [] := by
        intro v4 μ h
        rw [eY] at h
        exact h
      clear eY
      refine b_iload X dX6_needs_36 4 rfl ?_
      refine b_bipush (v := (nI 40)) X dX6_needs_38 (by decide) ?_
      refine b_icmp_gt (t := 64) X dX6_needs_40 (by decide) (fun c => ?_) (fun c => ?_)
      · replace h := h.1 c
        refine b_iconst (v := ((-1) : Int32)) X dX6_needs_64 (by decide) ?_
        exact hret _ _ _ _ h dX6_needs_65
      · replace h := h.2 c
        refine b_aload_n X dX6_needs_43 rfl 0 rfl ?_
        refine b_iload_n X dX6_needs_44 rfl 1 rfl ?_
        refine b_iload_n X dX6_needs_45 rfl 2 rfl ?_
        refine b_iload X dX6_needs_46 4 rfl ?_
        refine bVi (st := []) (nA := 3) X (c_X6_takenOf l D C ad a1 a2 v4 μ _ h) kF_0 (by decide) (enc_6 kF_0) rfl gw_X6_314 ⟨rfl, hd_X6_takenOf⟩ ⟨Nat.zero_le _, Nat.zero_le _⟩ rfl rfl ⟨Nat.le_of_ble_eq_true rfl, Nat.le_of_ble_eq_true rfl⟩ rfl rfl (Nat.le_of_ble_eq_true rfl) dX6_needs_48 (fun r7 μ8 h => ?_)
        refine b_iload_n X dX6_needs_51 rfl 3 rfl ?_
        refine b_icmp_lt (t := 58) X dX6_needs_52 (by decide) (fun c => ?_) (fun c => ?_)
        · replace h := h.1 c
          obtain ⟨x9, ex9⟩ : ∃ y : Int32, y = v4 + (nI 1) := ⟨_, rfl⟩
          replace h := h x9 ex9
          refine b_iinc (x := x9) (lv' := [(4, .int x9), (0, .ref (ad 0)), (1, .int a1), (2, .int a2), (3, .int a3)]) (q := 4) X dX6_needs_58 rfl (by rw [ex9]; rfl) (by decide) rfl ?_
          refine b_goto (t := 36) X dX6_needs_61 (by decide) ?_
          refine b_sub (lv' := [(0, .ref (ad 0)), (1, .int a1), (2, .int a2), (3, .int a3), (4, .int x9)]) [1, 2, 3, 4, 0] rfl ?_
          exact T36 x9 μ8 h
        · replace h := h.2 c
          refine b_iload X dX6_needs_55 4 rfl ?_
          exact hret _ _ _ _ h dX6_needs_57
    rw [eY] at B36
    exact B36
  refine b_aload_n X dX6_needs_0 rfl 0 rfl ?_
  refine b_iload_n X dX6_needs_1 rfl 1 rfl ?_
  refine bVi (st := []) (nA := 1) X (c_X6_isPost l D C ad a1 μ _ h) kF_0 (by decide) (enc_6 kF_0) rfl gw_X6_146 ⟨rfl, hd_X6_isPost⟩ ⟨Nat.zero_le _, Nat.zero_le _⟩ rfl rfl ⟨Nat.le_of_ble_eq_true rfl, Nat.le_of_ble_eq_true rfl⟩ rfl rfl (Nat.le_of_ble_eq_true rfl) dX6_needs_2 (fun r1 μ2 h => ?_)
  obtain ⟨rfl, h⟩ := h
  refine b_if_ne (t := 11) X dX6_needs_5 (by decide) (fun c => ?_) (fun c => ?_)
  · replace h := h.1 c
    refine b_iload_n X dX6_needs_11 rfl 2 rfl ?_
    refine b_iconst (v := (nI 0)) X dX6_needs_12 (by decide) ?_
    refine b_iconst (v := (nI 1)) X dX6_needs_13 (by decide) ?_
    refine bSi (st := []) (nA := 3) X (c_X6_within l D C ad a2 (nI 0) (nI 1) μ _ h) gw_X6_80 hd_X6_within ⟨Nat.zero_le _, Nat.zero_le _⟩ rfl rfl ⟨Nat.le_of_ble_eq_true rfl, Nat.le_of_ble_eq_true rfl⟩ rfl rfl (Nat.le_of_ble_eq_true rfl) dX6_needs_14 (fun r3 μ4 h => ?_)
    obtain ⟨rfl, h⟩ := h
    refine b_if_eq (t := 30) X dX6_needs_17 (by decide) (fun c => ?_) (fun c => ?_)
    · replace h := h.1 c
      refine b_ldc (v := ((-1000000002) : Int32)) X m_k_X6_84 dX6_needs_30 ?_
      exact hret _ _ _ _ h dX6_needs_32
    · replace h := h.2 c
      refine b_iload_n X dX6_needs_20 rfl 3 rfl ?_
      refine b_iconst (v := (nI 0)) X dX6_needs_21 (by decide) ?_
      refine b_bipush (v := (nI 40)) X dX6_needs_22 (by decide) ?_
      refine bSi (st := []) (nA := 3) X (c_X6_within l D C ad a3 (nI 0) (nI 40) μ _ h) gw_X6_80 hd_X6_within ⟨Nat.zero_le _, Nat.zero_le _⟩ rfl rfl ⟨Nat.le_of_ble_eq_true rfl, Nat.le_of_ble_eq_true rfl⟩ rfl rfl (Nat.le_of_ble_eq_true rfl) dX6_needs_24 (fun r5 μ6 h => ?_)
      obtain ⟨rfl, h⟩ := h
      refine b_if_ne (t := 33) X dX6_needs_27 (by decide) (fun c => ?_) (fun c => ?_)
      · replace h := h.1 c
        refine b_iconst (v := (nI 0)) X dX6_needs_33 (by decide) ?_
        refine b_istore (lv' := [(4, .int (nI 0)), (0, .ref (ad 0)), (1, .int a1), (2, .int a2), (3, .int a3)]) X dX6_needs_34 (by decide) rfl ?_
        refine b_sub (lv' := [(0, .ref (ad 0)), (1, .int a1), (2, .int a2), (3, .int a3), (4, .int (nI 0))]) [1, 2, 3, 4, 0] rfl ?_
        exact B36 (nI 0) μ h
      · replace h := h.2 c
        refine b_ldc (v := ((-1000000002) : Int32)) X m_k_X6_84 dX6_needs_30 ?_
        exact hret _ _ _ _ h dX6_needs_32
  · replace h := h.2 c
    refine b_ldc (v := ((-1000000001) : Int32)) X m_k_X6_150 dX6_needs_8 ?_
    exact hret _ _ _ _ h dX6_needs_10
set_option maxHeartbeats 4000000 in
set_option maxRecDepth 100000 in
theorem c_X6_tear (l : Launch) (D : va_G) (C : Nat → ClassId) (ad : Nat → Nat)  (μ : Mem) (Q : Int32 → Mem → Prop) (h : w_X6_tear  μ Q) : Mi sF l yX6_tear cX6_tear 2 (some .int) rm_X6_tear D C ad [.ref (ad 0)] μ Q := by
  refine fm_i (by decide +kernel) sF_lt (Nat.le_of_ble_eq_true rfl) (fun K X hret => ?_)
  have X : CK sF D C ad K cX6_tear 2 RX6 := X
  refine b_lv (lv' := [(0, .ref (ad 0))]) rfl ?_
  unfold w_X6_tear at h
  refine b_aload_n X dX6_tear_0 rfl 0 rfl ?_
  refine g_6_11 X kF_0 m_f_X6_70 dX6_tear_1 ?_
  refine g_1_3 X kF_237 m_f_X6_104 dX6_tear_4 ?_
  refine b_aload_n X dX6_tear_7 rfl 0 rfl ?_
  refine g_6_12 X kF_0 m_f_X6_74 dX6_tear_8 ?_
  refine g_1_3 X kF_241 m_f_X6_104 dX6_tear_11 ?_
  refine b_iadd X dX6_tear_14 ?_
  refine b_topi (fun x1 ex1 => ?_)
  replace h := h x1 ex1
  refine b_istore_n (lv' := [(1, .int x1), (0, .ref (ad 0))]) X dX6_tear_15 rfl (by decide) rfl ?_
  refine b_aload_n X dX6_tear_16 rfl 1 rfl ?_
  refine g_6_11 X kF_0 m_f_X6_70 dX6_tear_17 ?_
  refine b_iconst (v := (nI 0)) X dX6_tear_20 (by decide) ?_
  refine p_1_3 X kF_237 m_f_X6_104 dX6_tear_21 (fun μ2 eμ2 => ?_)
  replace h := h μ2 eμ2
  refine b_aload_n X dX6_tear_24 rfl 1 rfl ?_
  refine g_6_12 X kF_0 m_f_X6_74 dX6_tear_25 ?_
  refine b_iconst (v := (nI 0)) X dX6_tear_28 (by decide) ?_
  refine p_1_3 X kF_241 m_f_X6_104 dX6_tear_29 (fun μ3 eμ3 => ?_)
  replace h := h μ3 eμ3
  refine b_iload_n X dX6_tear_32 rfl 0 rfl ?_
  exact hret _ _ _ _ h dX6_tear_33
set_option maxHeartbeats 4000000 in
set_option maxRecDepth 100000 in
theorem c_X6_seed (l : Launch) (D : va_G) (C : Nat → ClassId) (ad : Nat → Nat) (a1 : Int32) (μ : Mem) (Q : Int32 → Mem → Prop) (h : w_X6_seed a1 μ Q) : Mi sF l yX6_seed cX6_seed 3 (some .int) rm_X6_seed D C ad [.ref (ad 0), .int a1] μ Q := by
  refine fm_i (by decide +kernel) sF_lt (Nat.le_of_ble_eq_true rfl) (fun K X hret => ?_)
  have X : CK sF D C ad K cX6_seed 3 RX6 := X
  refine b_lv (lv' := [(0, .ref (ad 0)), (1, .int a1)]) rfl ?_
  unfold w_X6_seed at h
  refine b_iload_n X dX6_seed_0 rfl 1 rfl ?_
  refine b_if_ge (t := 7) X dX6_seed_1 (by decide) (fun c => ?_) (fun c => ?_)
  · replace h := h.1 c
    refine b_aload_n X dX6_seed_7 rfl 0 rfl ?_
    refine g_6_10 X kF_0 m_f_X6_61 dX6_seed_8 ?_
    refine b_topi (fun x1 ex1 => ?_)
    replace h := h x1 ex1
    refine b_istore_n (lv' := [(2, .int x1), (0, .ref (ad 0)), (1, .int a1)]) X dX6_seed_11 rfl (by decide) rfl ?_
    refine b_aload_n X dX6_seed_12 rfl 1 rfl ?_
    refine b_iload_n X dX6_seed_13 rfl 2 rfl ?_
    refine p_6_10 X kF_0 m_f_X6_61 dX6_seed_14 (fun μ2 eμ2 => ?_)
    replace h := h μ2 eμ2
    refine b_iload_n X dX6_seed_17 rfl 0 rfl ?_
    exact hret _ _ _ _ h dX6_seed_18
  · replace h := h.2 c
    refine b_ldc (v := ((-1000000002) : Int32)) X m_k_X6_84 dX6_seed_4 ?_
    exact hret _ _ _ _ h dX6_seed_6
set_option maxHeartbeats 4000000 in
set_option maxRecDepth 100000 in
theorem c_X6_imageOf (l : Launch) (D : va_G) (C : Nat → ClassId) (ad : Nat → Nat) (a1 : Int32) (μ : Mem) (Q : Option Nat → Prop) (h : w_X6_imageOf a1 μ Q) : Mq sF l yX6_imageOf cX6_imageOf 2 (some (.object RX4)) rm_X6_imageOf D C ad [.ref (ad 0), .int a1] μ (fun r μ' => μ = μ' ∧ Q r) := by
  refine fm_q (by decide +kernel) sF_lt (Nat.le_of_ble_eq_true rfl) (fun K X hret => ?_)
  have X : CK sF D C ad K cX6_imageOf 2 RX6 := X
  refine b_lv (lv' := [(0, .ref (ad 0)), (1, .int a1)]) rfl ?_
  unfold w_X6_imageOf at h
  refine b_iload_n X dX6_imageOf_0 rfl 1 rfl ?_
  refine b_if_lt (t := 27) X dX6_imageOf_1 (by decide) (fun c => ?_) (fun c => ?_)
  · replace h := h.1 c
    refine b_null X dX6_imageOf_27 ?_
    exact hret none _ _ _ ⟨rfl, h⟩ dX6_imageOf_28
  · replace h := h.2 c
    refine b_iload_n X dX6_imageOf_4 rfl 1 rfl ?_
    refine b_iconst (v := (nI 2)) X dX6_imageOf_5 (by decide) ?_
    refine b_icmp_ge (t := 27) X dX6_imageOf_6 (by decide) (fun c => ?_) (fun c => ?_)
    · replace h := h.1 c
      refine b_null X dX6_imageOf_27 ?_
      exact hret none _ _ _ ⟨rfl, h⟩ dX6_imageOf_28
    · replace h := h.2 c
      refine b_iload_n X dX6_imageOf_9 rfl 1 rfl ?_
      refine b_aload_n X dX6_imageOf_10 rfl 0 rfl ?_
      refine g_6_8 X kF_0 m_f_X6_54 dX6_imageOf_11 ?_
      refine b_alen12 X kF_223 nF_223 rfl dX6_imageOf_14 ?_
      refine b_icmp_ge (t := 27) X dX6_imageOf_15 (by decide) (fun c => ?_) (fun c => ?_)
      · replace h := h.1 c
        refine b_null X dX6_imageOf_27 ?_
        exact hret none _ _ _ ⟨rfl, h⟩ dX6_imageOf_28
      · replace h := h.2 c
        refine b_aload_n X dX6_imageOf_18 rfl 0 rfl ?_
        refine g_6_8 X kF_0 m_f_X6_54 dX6_imageOf_19 ?_
        refine b_iload_n X dX6_imageOf_22 rfl 1 rfl ?_
        have hz := h.1
        replace h := h.2
        refine b_aald12 X kF_223 nF_223 hz dX6_imageOf_23 ?_
        clear hz
        have hk1 := h.1
        replace h := h.2
        refine b_goto (t := 28) X dX6_imageOf_24 (by decide) ?_
        exact hret (some (224 + 6 * (a1).toNatClampNeg)) _ _ _ ⟨rfl, h⟩ dX6_imageOf_28
set_option maxHeartbeats 4000000 in
set_option maxRecDepth 100000 in
theorem c_X6_keep (l : Launch) (D : va_G) (C : Nat → ClassId) (ad : Nat → Nat) (a1 : Int32) (μ : Mem) (Q : Int32 → Mem → Prop) (h : w_X6_keep a1 μ Q) : Mi sF l yX6_keep cX6_keep 3 (some .int) rm_X6_keep D C ad [.ref (ad 0), .int a1] μ Q := by
  refine fm_i (by decide +kernel) sF_lt (Nat.le_of_ble_eq_true rfl) (fun K X hret => ?_)
  have X : CK sF D C ad K cX6_keep 3 RX6 := X
  refine b_lv (lv' := [(0, .ref (ad 0)), (1, .int a1)]) rfl ?_
  unfold w_X6_keep at h
  refine b_aload_n X dX6_keep_0 rfl 0 rfl ?_
  refine b_iload_n X dX6_keep_1 rfl 1 rfl ?_
  refine bVq (st := []) (nA := 1) X (c_X6_imageOf l D C ad a1 μ _ h) kF_0 (by decide) (enc_6 kF_0) rfl gw_X6_322 ⟨rfl, hd_X6_imageOf⟩ ⟨Nat.zero_le _, Nat.zero_le _⟩ rfl rfl ⟨Nat.le_of_ble_eq_true rfl, Nat.le_of_ble_eq_true rfl⟩ rfl rfl (Nat.le_of_ble_eq_true rfl) dX6_keep_2 (fun r1 μ2 h => ?_)
  obtain ⟨rfl, h⟩ := h
  rcases r1 with _ | b3
  · replace h := h.1 rfl
    refine b_st (st' := [.null]) rfl ?_
    refine b_astoreN_n (lv' := [(2, .null), (0, .ref (ad 0)), (1, .int a1)]) X dX6_keep_5 rfl (by decide) rfl ?_
    refine b_aloadN_n X dX6_keep_6 rfl 0 rfl ?_
    refine b_ifnonnullN X dX6_keep_7 ?_
    refine b_ldc (v := ((-1000000001) : Int32)) X m_k_X6_150 dX6_keep_10 ?_
    exact hret _ _ _ _ h dX6_keep_12
  · replace h := h.2 b3 rfl
    have hk_b3 := h.1
    replace h := h.2
    refine b_st (st' := [.ref (ad b3)]) rfl ?_
    refine b_astore_n (lv' := [(2, .ref (ad b3)), (0, .ref (ad 0)), (1, .int a1)]) X dX6_keep_5 rfl (by decide) rfl ?_
    refine b_aload_n X dX6_keep_6 rfl 0 rfl ?_
    refine b_ifnonnull1 (t := 13) X dX6_keep_7 (by decide) ?_
    refine b_aload_n X dX6_keep_13 rfl 0 rfl ?_
    refine b_aload_n X dX6_keep_14 rfl 1 rfl ?_
    refine g_6_3 X kF_0 m_f_X6_29 dX6_keep_15 ?_
    refine bVv (st := []) (nA := 1) X (c_X4_become l D C ad b3 hk_b3 25 kF_25 μ _ h) hk_b3 (by decide) (enc_4 hk_b3) rfl gw_X6_247 ⟨rfl, hd_X4_become⟩ ⟨Nat.zero_le _, Nat.zero_le _⟩ rfl rfl ⟨Nat.le_of_ble_eq_true rfl, Nat.le_of_ble_eq_true rfl⟩ rfl rfl (Nat.le_of_ble_eq_true rfl) dX6_keep_18 (fun μ5 h => ?_)
    refine b_aload_n X dX6_keep_21 rfl 1 rfl ?_
    refine g_6_9 X kF_0 m_f_X6_58 dX6_keep_22 ?_
    refine b_iload_n X dX6_keep_25 rfl 2 rfl ?_
    refine b_aload_n X dX6_keep_26 rfl 1 rfl ?_
    refine g_6_10 X kF_0 m_f_X6_61 dX6_keep_27 ?_
    refine bSv (st := []) (nA := 3) X (c_X6_put l D C ad 236 kF_236 a1 (μ5.1 0 10) μ5 _ h) gw_X6_227 hd_X6_put ⟨Nat.zero_le _, Nat.zero_le _⟩ rfl rfl ⟨Nat.le_of_ble_eq_true rfl, Nat.le_of_ble_eq_true rfl⟩ rfl rfl (Nat.le_of_ble_eq_true rfl) dX6_keep_30 (fun μ7 h => ?_)
    refine b_aload_n X dX6_keep_33 rfl 1 rfl ?_
    refine g_6_7 X kF_0 m_f_X6_50 dX6_keep_34 ?_
    refine b_iconst (v := (nI 0)) X dX6_keep_37 (by decide) ?_
    refine p_2_2 X kF_41 m_f_X6_101 dX6_keep_38 (fun μ8 eμ8 => ?_)
    replace h := h μ8 eμ8
    refine b_iconst (v := (nI 1)) X dX6_keep_41 (by decide) ?_
    exact hret _ _ _ _ h dX6_keep_42
set_option maxHeartbeats 4000000 in
set_option maxRecDepth 100000 in
theorem c_X6_goBack (l : Launch) (D : va_G) (C : Nat → ClassId) (ad : Nat → Nat) (a1 : Int32) (μ : Mem) (Q : Int32 → Mem → Prop) (h : w_X6_goBack a1 μ Q) : Mi sF l yX6_goBack cX6_goBack 4 (some .int) rm_X6_goBack D C ad [.ref (ad 0), .int a1] μ Q := by
  refine fm_i (by decide +kernel) sF_lt (Nat.le_of_ble_eq_true rfl) (fun K X hret => ?_)
  have X : CK sF D C ad K cX6_goBack 4 RX6 := X
  refine b_lv (lv' := [(0, .ref (ad 0)), (1, .int a1)]) rfl ?_
  unfold w_X6_goBack at h
  refine b_aload_n X dX6_goBack_0 rfl 0 rfl ?_
  refine b_iload_n X dX6_goBack_1 rfl 1 rfl ?_
  refine bVq (st := []) (nA := 1) X (c_X6_imageOf l D C ad a1 μ _ h) kF_0 (by decide) (enc_6 kF_0) rfl gw_X6_322 ⟨rfl, hd_X6_imageOf⟩ ⟨Nat.zero_le _, Nat.zero_le _⟩ rfl rfl ⟨Nat.le_of_ble_eq_true rfl, Nat.le_of_ble_eq_true rfl⟩ rfl rfl (Nat.le_of_ble_eq_true rfl) dX6_goBack_2 (fun r1 μ2 h => ?_)
  obtain ⟨rfl, h⟩ := h
  rcases r1 with _ | b3
  · replace h := h.1 rfl
    refine b_st (st' := [.null]) rfl ?_
    refine b_astoreN_n (lv' := [(2, .null), (0, .ref (ad 0)), (1, .int a1)]) X dX6_goBack_5 rfl (by decide) rfl ?_
    refine b_aloadN_n X dX6_goBack_6 rfl 0 rfl ?_
    refine b_ifnonnullN X dX6_goBack_7 ?_
    refine b_ldc (v := ((-1000000001) : Int32)) X m_k_X6_150 dX6_goBack_10 ?_
    exact hret _ _ _ _ h dX6_goBack_12
  · replace h := h.2 b3 rfl
    have hk_b3 := h.1
    replace h := h.2
    refine b_st (st' := [.ref (ad b3)]) rfl ?_
    refine b_astore_n (lv' := [(2, .ref (ad b3)), (0, .ref (ad 0)), (1, .int a1)]) X dX6_goBack_5 rfl (by decide) rfl ?_
    refine b_aload_n X dX6_goBack_6 rfl 0 rfl ?_
    refine b_ifnonnull1 (t := 13) X dX6_goBack_7 (by decide) ?_
    refine b_aload_n X dX6_goBack_13 rfl 1 rfl ?_
    refine g_6_9 X kF_0 m_f_X6_58 dX6_goBack_14 ?_
    refine b_iload_n X dX6_goBack_17 rfl 2 rfl ?_
    refine bSi (st := []) (nA := 2) X (c_X6_at l D C ad 236 kF_236 a1 μ _ h) gw_X6_154 hd_X6_at ⟨Nat.zero_le _, Nat.zero_le _⟩ rfl rfl ⟨Nat.le_of_ble_eq_true rfl, Nat.le_of_ble_eq_true rfl⟩ rfl rfl (Nat.le_of_ble_eq_true rfl) dX6_goBack_18 (fun r4 μ5 h => ?_)
    obtain ⟨rfl, h⟩ := h
    refine b_istore_n (lv' := [(3, .int r4), (2, .ref (ad b3)), (0, .ref (ad 0)), (1, .int a1)]) X dX6_goBack_21 rfl (by decide) rfl ?_
    refine b_iload_n X dX6_goBack_22 rfl 0 rfl ?_
    refine b_iconst (v := ((-1) : Int32)) X dX6_goBack_23 (by decide) ?_
    refine b_icmp_ne (t := 30) X dX6_goBack_24 (by decide) (fun c => ?_) (fun c => ?_)
    · replace h := h.1 c
      refine b_aload_n X dX6_goBack_30 rfl 2 rfl ?_
      refine g_6_3 X kF_0 m_f_X6_29 dX6_goBack_31 ?_
      refine b_aload_n X dX6_goBack_34 rfl 1 rfl ?_
      refine bVv (st := []) (nA := 1) X (c_X4_become l D C ad 25 kF_25 b3 hk_b3 μ _ h) kF_25 (by decide) (enc_4 kF_25) rfl gw_X6_247 ⟨rfl, hd_X4_become⟩ ⟨Nat.zero_le _, Nat.zero_le _⟩ rfl rfl ⟨Nat.le_of_ble_eq_true rfl, Nat.le_of_ble_eq_true rfl⟩ rfl rfl (Nat.le_of_ble_eq_true rfl) dX6_goBack_35 (fun μ7 h => ?_)
      refine b_aload_n X dX6_goBack_38 rfl 2 rfl ?_
      refine b_iload_n X dX6_goBack_39 rfl 0 rfl ?_
      refine p_6_10 X kF_0 m_f_X6_61 dX6_goBack_40 (fun μ8 eμ8 => ?_)
      replace h := h μ8 eμ8
      refine b_aload_n X dX6_goBack_43 rfl 2 rfl ?_
      refine g_6_7 X kF_0 m_f_X6_50 dX6_goBack_44 ?_
      refine b_iconst (v := (nI 0)) X dX6_goBack_47 (by decide) ?_
      refine p_2_2 X kF_41 m_f_X6_101 dX6_goBack_48 (fun μ9 eμ9 => ?_)
      replace h := h μ9 eμ9
      refine b_iconst (v := (nI 1)) X dX6_goBack_51 (by decide) ?_
      exact hret _ _ _ _ h dX6_goBack_52
    · replace h := h.2 c
      refine b_ldc (v := ((-1000000003) : Int32)) X m_k_X6_177 dX6_goBack_27 ?_
      exact hret _ _ _ _ h dX6_goBack_29
set_option maxHeartbeats 4000000 in
set_option maxRecDepth 100000 in
theorem c_L_cell (l : Launch) (D : va_G) (C : Nat → ClassId) (ad : Nat → Nat) (ss : Nat × (Nat → Int32)) (hss : ss = sX ad) (a1 : Int32) (μ : Mem) (Q : Int32 → Prop) (h : w_L_cell ss a1 μ Q) : Mi sF l yL_cell cL_cell 2 (some .int) rm_L_cell D C ad [.ref (ad 249), .int a1] μ (fun r μ' => μ = μ' ∧ Q r) := by
  refine fm_i (by decide +kernel) sF_lt (Nat.le_of_ble_eq_true rfl) (fun K X hret => ?_)
  have X : CK sF D C ad K cL_cell 2 RL := X
  refine b_lv (lv' := [(0, .ref (ad 249)), (1, .int a1)]) rfl ?_
  unfold w_L_cell at h
  refine b_iload_n X dL_cell_0 rfl 1 rfl ?_
  refine b_aload_n X dL_cell_1 rfl 0 rfl ?_
  refine b_slen X (by decide) hss dL_cell_2 ?_
  refine b_icmp_ge (t := 15) X dL_cell_3 (by decide) (fun c => ?_) (fun c => ?_)
  · replace h := h.1 c
    refine b_bipush (v := (nI 61)) X dL_cell_15 (by decide) ?_
    refine b_iload_n X dL_cell_17 rfl 1 rfl ?_
    refine b_imul X dL_cell_18 ?_
    refine b_bipush (v := (nI 7)) X dL_cell_19 (by decide) ?_
    refine b_iadd X dL_cell_21 ?_
    refine b_iload_n X dL_cell_22 rfl 1 rfl ?_
    refine b_iconst (v := (nI 3)) X dL_cell_23 (by decide) ?_
    refine b_iadd X dL_cell_24 ?_
    refine b_imul X dL_cell_25 ?_
    exact hret _ _ _ _ ⟨rfl, h⟩ dL_cell_26
  · replace h := h.2 c
    refine b_aload_n X dL_cell_6 rfl 0 rfl ?_
    refine b_iload_n X dL_cell_7 rfl 1 rfl ?_
    have hz := h.1
    replace h := h.2
    refine b_sld X (by decide) hss hz dL_cell_8 ?_
    clear hz
    refine b_ldc (v := (nI 268435455)) X m_k_L_7 dL_cell_9 ?_
    refine b_iand X dL_cell_11 ?_
    refine b_goto (t := 26) X dL_cell_12 (by decide) ?_
    exact hret _ _ _ _ ⟨rfl, h⟩ dL_cell_26
set_option maxHeartbeats 4000000 in
set_option maxRecDepth 100000 in
theorem c_L_put (l : Launch) (D : va_G) (C : Nat → ClassId) (ad : Nat → Nat) (a1 : Int32) (a2 : Int32) (μ : Mem) (Q : Int32 → Mem → Prop) (h : w_L_put a1 a2 μ Q) : Mi sF l yL_put cL_put 3 (some .int) rm_L_put D C ad [.ref (ad 0), .int a1, .int a2] μ Q := by
  refine fm_i (by decide +kernel) sF_lt (Nat.le_of_ble_eq_true rfl) (fun K X hret => ?_)
  have X : CK sF D C ad K cL_put 3 RL := X
  refine b_lv (lv' := [(0, .ref (ad 0)), (1, .int a1), (2, .int a2)]) rfl ?_
  unfold w_L_put at h
  refine b_iload_n X dL_put_0 rfl 1 rfl ?_
  refine b_if_lt (t := 21) X dL_put_1 (by decide) (fun c => ?_) (fun c => ?_)
  · replace h := h.1 c
    refine b_sipush (v := ((-1000) : Int32)) X dL_put_21 (by decide) ?_
    exact hret _ _ _ _ h dL_put_24
  · replace h := h.2 c
    refine b_aload_n X dL_put_4 rfl 0 rfl ?_
    refine b_iload_n X dL_put_5 rfl 2 rfl ?_
    refine bVi (st := []) (nA := 1) X (c_X6_feed l D C ad a2 μ _ h) kF_0 (by decide) (enc_6 kF_0) rfl gw_L_8 ⟨rfl, hd_X6_feed⟩ ⟨Nat.zero_le _, Nat.zero_le _⟩ rfl rfl ⟨Nat.le_of_ble_eq_true rfl, Nat.le_of_ble_eq_true rfl⟩ rfl rfl (Nat.le_of_ble_eq_true rfl) dL_put_6 (fun r1 μ2 h => ?_)
    refine b_iload_n X dL_put_9 rfl 1 rfl ?_
    refine b_iconst (v := (nI 1)) X dL_put_10 (by decide) ?_
    refine b_iadd X dL_put_11 ?_
    refine b_icmp_ne (t := 21) X dL_put_12 (by decide) (fun c => ?_) (fun c => ?_)
    · replace h := h.1 c
      refine b_sipush (v := ((-1000) : Int32)) X dL_put_21 (by decide) ?_
      exact hret _ _ _ _ h dL_put_24
    · replace h := h.2 c
      refine b_iload_n X dL_put_15 rfl 1 rfl ?_
      refine b_iconst (v := (nI 1)) X dL_put_16 (by decide) ?_
      refine b_iadd X dL_put_17 ?_
      refine b_goto (t := 24) X dL_put_18 (by decide) ?_
      exact hret _ _ _ _ h dL_put_24
set_option maxHeartbeats 4000000 in
set_option maxRecDepth 100000 in
theorem c_L_number (l : Launch) (D : va_G) (C : Nat → ClassId) (ad : Nat → Nat) (a1 : Int32) (a2 : Int32) (a3 : Int32) (μ : Mem) (Q : Int32 → Mem → Prop) (h : w_L_number a1 a2 a3 μ Q) : Mi sF l yL_number cL_number 5 (some .int) rm_L_number D C ad [.ref (ad 0), .int a1, .int a2, .int a3] μ Q := by
  refine fm_i (by decide +kernel) sF_lt (Nat.le_of_ble_eq_true rfl) (fun K X hret => ?_)
  have X : CK sF D C ad K cL_number 5 RL := X
  refine b_lv (lv' := [(0, .ref (ad 0)), (1, .int a1), (2, .int a2), (3, .int a3)]) rfl ?_
  unfold w_L_number at h
  have B22 : ∀ (s1 : Int32) (μ : Mem), w_L_number_22 a1 a2 a3 s1 μ Q → WB sF l D C ad rm_L_number K 5 μ 22 [(0, .ref (ad 0)), (2, .int a2), (3, .int a3)] [.int s1] := by
    intro s1 μ h
    unfold w_L_number_22 at h
    have B51 : ∀ (s1 : Int32) (μ : Mem), w_L_number_51 a1 a2 a3 s1 μ Q → WB sF l D C ad rm_L_number K 5 μ 51 [(0, .ref (ad 0)), (2, .int a2), (3, .int a3)] [.int s1] := by
      intro s1 μ h
      unfold w_L_number_51 at h
      refine b_istore (lv' := [(4, .int s1), (0, .ref (ad 0)), (2, .int a2), (3, .int a3)]) X dL_number_51 (by decide) rfl ?_
      refine b_aload_n X dL_number_53 rfl 1 rfl ?_
      refine b_aload_n X dL_number_54 rfl 1 rfl ?_
      refine b_iload X dL_number_55 0 rfl ?_
      refine b_bipush (v := (nI 48)) X dL_number_57 (by decide) ?_
      refine b_iload_n X dL_number_59 rfl 2 rfl ?_
      refine b_bipush (v := (nI 10)) X dL_number_60 (by decide) ?_
      have hz := h.1
      replace h := h.2
      refine b_irem X dL_number_62 hz ?_
      clear hz
      refine b_topi (fun x6 ex6 => ?_)
      replace h := h x6 ex6
      refine b_iadd X dL_number_63 ?_
      refine bSi (st := [.ref (ad 0)]) (nA := 3) X (c_L_put l D C ad s1 ((nI 48) + x6) μ _ h) gw_L_14 hd_L_put ⟨Nat.zero_le _, Nat.zero_le _⟩ rfl rfl ⟨Nat.le_of_ble_eq_true rfl, Nat.le_of_ble_eq_true rfl⟩ rfl rfl (Nat.le_of_ble_eq_true rfl) dL_number_64 (fun r7 μ8 h => ?_)
      refine b_iload_n X dL_number_67 rfl 3 rfl ?_
      refine bSi (st := []) (nA := 3) X (c_L_put l D C ad r7 a3 μ8 _ h) gw_L_14 hd_L_put ⟨Nat.zero_le _, Nat.zero_le _⟩ rfl rfl ⟨Nat.le_of_ble_eq_true rfl, Nat.le_of_ble_eq_true rfl⟩ rfl rfl (Nat.le_of_ble_eq_true rfl) dL_number_68 (fun r9 μ10 h => ?_)
      exact hret _ _ _ _ h dL_number_71
    refine b_istore (lv' := [(4, .int s1), (0, .ref (ad 0)), (2, .int a2), (3, .int a3)]) X dL_number_22 (by decide) rfl ?_
    refine b_iload_n X dL_number_24 rfl 2 rfl ?_
    refine b_bipush (v := (nI 9)) X dL_number_25 (by decide) ?_
    refine b_icmp_le (t := 49) X dL_number_27 (by decide) (fun c => ?_) (fun c => ?_)
    · replace h := h.1 c
      refine b_iload X dL_number_49 0 rfl ?_
      refine b_sub (lv' := [(0, .ref (ad 0)), (2, .int a2), (3, .int a3)]) [1, 2, 3] rfl ?_
      exact B51 s1 μ h
    · replace h := h.2 c
      refine b_aload_n X dL_number_30 rfl 1 rfl ?_
      refine b_iload X dL_number_31 0 rfl ?_
      refine b_bipush (v := (nI 48)) X dL_number_33 (by decide) ?_
      refine b_iload_n X dL_number_35 rfl 2 rfl ?_
      refine b_bipush (v := (nI 10)) X dL_number_36 (by decide) ?_
      have hz := h.1
      replace h := h.2
      refine b_idiv X dL_number_38 hz ?_
      clear hz
      refine b_bipush (v := (nI 10)) X dL_number_39 (by decide) ?_
      have hz := h.1
      replace h := h.2
      refine b_irem X dL_number_41 hz ?_
      clear hz
      refine b_topi (fun x3 ex3 => ?_)
      replace h := h x3 ex3
      refine b_iadd X dL_number_42 ?_
      refine bSi (st := []) (nA := 3) X (c_L_put l D C ad s1 ((nI 48) + x3) μ _ h) gw_L_14 hd_L_put ⟨Nat.zero_le _, Nat.zero_le _⟩ rfl rfl ⟨Nat.le_of_ble_eq_true rfl, Nat.le_of_ble_eq_true rfl⟩ rfl rfl (Nat.le_of_ble_eq_true rfl) dL_number_43 (fun r4 μ5 h => ?_)
      refine b_goto (t := 51) X dL_number_46 (by decide) ?_
      refine b_sub (lv' := [(0, .ref (ad 0)), (2, .int a2), (3, .int a3)]) [1, 2, 3] rfl ?_
      exact B51 r4 μ5 h
  refine b_iload_n X dL_number_0 rfl 2 rfl ?_
  refine b_bipush (v := (nI 99)) X dL_number_1 (by decide) ?_
  refine b_icmp_le (t := 21) X dL_number_3 (by decide) (fun c => ?_) (fun c => ?_)
  · replace h := h.1 c
    refine b_iload_n X dL_number_21 rfl 1 rfl ?_
    refine b_sub (lv' := [(0, .ref (ad 0)), (2, .int a2), (3, .int a3)]) [0, 2, 3] rfl ?_
    exact B22 a1 μ h
  · replace h := h.2 c
    refine b_aload_n X dL_number_6 rfl 0 rfl ?_
    refine b_iload_n X dL_number_7 rfl 1 rfl ?_
    refine b_bipush (v := (nI 48)) X dL_number_8 (by decide) ?_
    refine b_iload_n X dL_number_10 rfl 2 rfl ?_
    refine b_bipush (v := (nI 100)) X dL_number_11 (by decide) ?_
    have hz := h.1
    replace h := h.2
    refine b_idiv X dL_number_13 hz ?_
    clear hz
    refine b_iadd X dL_number_14 ?_
    refine bSi (st := []) (nA := 3) X (c_L_put l D C ad a1 ((nI 48) + (a2 / (nI 100))) μ _ h) gw_L_14 hd_L_put ⟨Nat.zero_le _, Nat.zero_le _⟩ rfl rfl ⟨Nat.le_of_ble_eq_true rfl, Nat.le_of_ble_eq_true rfl⟩ rfl rfl (Nat.le_of_ble_eq_true rfl) dL_number_15 (fun r1 μ2 h => ?_)
    refine b_goto (t := 22) X dL_number_18 (by decide) ?_
    refine b_sub (lv' := [(0, .ref (ad 0)), (2, .int a2), (3, .int a3)]) [0, 2, 3] rfl ?_
    exact B22 r1 μ2 h
set_option maxHeartbeats 4000000 in
set_option maxRecDepth 100000 in
theorem c_L_numbers (l : Launch) (D : va_G) (C : Nat → ClassId) (ad : Nat → Nat) (ss : Nat × (Nat → Int32)) (hss : ss = sX ad) (a1 : Int32) (a2 : Int32) (μ : Mem) (Q : Mem → Prop) (h : w_L_numbers ss a1 a2 μ Q) : Mv sF l yL_numbers cL_numbers 11 none rm_L_numbers D C ad [.ref (ad 249), .int a1, .int a2, .ref (ad 246), .ref (ad 247)] μ Q := by
  refine fm_v (by decide +kernel) sF_lt (Nat.le_of_ble_eq_true rfl) (fun K X hret => ?_)
  have X : CK sF D C ad K cL_numbers 11 RL := X
  refine b_lv (lv' := [(0, .ref (ad 249)), (1, .int a1), (2, .int a2), (3, .ref (ad 246)), (4, .ref (ad 247))]) rfl ?_
  unfold w_L_numbers at h
  have B3 : ∀ (v5 : Int32) (μ : Mem), w_L_numbers_3 ss a1 a2 v5 μ Q → WB sF l D C ad rm_L_numbers K 11 μ 3 [(0, .ref (ad 249)), (1, .int a1), (2, .int a2), (3, .ref (ad 246)), (4, .ref (ad 247)), (5, .int v5)] [] := by
    intro v5 μ h
    obtain ⟨Y3, eY⟩ : ∃ Y : Int32 → Mem → Prop, Y = fun (v5 : Int32) (μ : Mem) => WB sF l D C ad rm_L_numbers K 11 μ 3 [(0, .ref (ad 249)), (1, .int a1), (2, .int a2), (3, .ref (ad 246)), (4, .ref (ad 247)), (5, .int v5)] [] := ⟨_, rfl⟩
    have B3 : Y3 v5 μ := by
      unfold w_L_numbers_3 at h
      refine h Y3 ?_
      clear h
      intro v5 μ h
      unfold s_L_numbers_3 at h
      rw [eY]
      show WB sF l D C ad rm_L_numbers K 11 μ 3 [(0, .ref (ad 249)), (1, .int a1), (2, .int a2), (3, .ref (ad 246)), (4, .ref (ad 247)), (5, .int v5)] []
      have T3 : ∀ (v5 : Int32) (μ : Mem), Y3 v5 μ → WB sF l D C ad rm_L_numbers K 11 μ 3 [(0, .ref (ad 249)), (1, .int a1), (2, .int a2), (3, .ref (ad 246)), (4, .ref (ad 247)), (5, .int v5)] [] := by
        intro v5 μ h
        rw [eY] at h
        exact h
      clear eY
      have B21 : ∀ (μ : Mem), w_L_numbers_21 ss a1 a2 μ Q → WB sF l D C ad rm_L_numbers K 11 μ 21 [(0, .ref (ad 249)), (1, .int a1), (2, .int a2), (3, .ref (ad 246)), (4, .ref (ad 247))] [] := by
        intro μ h
        unfold w_L_numbers_21 at h
        have B24 : ∀ (v5 : Int32) (μ : Mem), w_L_numbers_24 ss a1 a2 v5 μ Q → WB sF l D C ad rm_L_numbers K 11 μ 24 [(0, .ref (ad 249)), (1, .int a1), (2, .int a2), (3, .ref (ad 246)), (4, .ref (ad 247)), (5, .int v5)] [] := by
          intro v5 μ h
          obtain ⟨Y24, eY⟩ : ∃ Y : Int32 → Mem → Prop, Y = fun (v5 : Int32) (μ : Mem) => WB sF l D C ad rm_L_numbers K 11 μ 24 [(0, .ref (ad 249)), (1, .int a1), (2, .int a2), (3, .ref (ad 246)), (4, .ref (ad 247)), (5, .int v5)] [] := ⟨_, rfl⟩
          have B24 : Y24 v5 μ := by
            unfold w_L_numbers_24 at h
            refine h Y24 ?_
            clear h
            intro v5 μ h
            unfold s_L_numbers_24 at h
            rw [eY]
            show WB sF l D C ad rm_L_numbers K 11 μ 24 [(0, .ref (ad 249)), (1, .int a1), (2, .int a2), (3, .ref (ad 246)), (4, .ref (ad 247)), (5, .int v5)] []
            have T24 : ∀ (v5 : Int32) (μ : Mem), Y24 v5 μ → WB sF l D C ad rm_L_numbers K 11 μ 24 [(0, .ref (ad 249)), (1, .int a1), (2, .int a2), (3, .ref (ad 246)), (4, .ref (ad 247)), (5, .int v5)] [] := by
              intro v5 μ h
              rw [eY] at h
              exact h
            clear eY
            have B43 : ∀ (μ : Mem), w_L_numbers_43 ss a1 a2 μ Q → WB sF l D C ad rm_L_numbers K 11 μ 43 [(0, .ref (ad 249)), (1, .int a1), (2, .int a2), (3, .ref (ad 246)), (4, .ref (ad 247))] [] := by
              intro μ h
              unfold w_L_numbers_43 at h
              have B100 : ∀ (v5 : Int32) (s3 : Int32) (s2 : Int32) (μ : Mem), w_L_numbers_100 ss a1 a2 v5 s3 s2 μ Q → WB sF l D C ad rm_L_numbers K 11 μ 100 [(0, .ref (ad 249)), (1, .int a1), (2, .int a2), (3, .ref (ad 246)), (4, .ref (ad 247)), (5, .int v5)] [.int s3, .int s2, .ref (ad 246)] := by
                intro v5 s3 s2 μ h
                unfold w_L_numbers_100 at h
                have B139 : ∀ (s1 : Int32) (μ : Mem), w_L_numbers_139 ss a1 a2 s1 μ Q → WB sF l D C ad rm_L_numbers K 11 μ 139 [(0, .ref (ad 249)), (1, .int a1), (3, .ref (ad 246)), (4, .ref (ad 247))] [.int s1] := by
                  intro s1 μ h
                  unfold w_L_numbers_139 at h
                  have B168 : ∀ (v5 : Int32) (v6 : Int32) (s3 : Int32) (s2 : Int32) (μ : Mem), w_L_numbers_168 ss a1 a2 v5 v6 s3 s2 μ Q → WB sF l D C ad rm_L_numbers K 11 μ 168 [(0, .ref (ad 249)), (1, .int a1), (3, .ref (ad 246)), (4, .ref (ad 247)), (5, .int v5), (6, .int v6)] [.int s3, .int s2, .ref (ad 246)] := by
                    intro v5 v6 s3 s2 μ h
                    unfold w_L_numbers_168 at h
                    have B192 : ∀ (v5 : Int32) (s3 : Int32) (s2 : Int32) (μ : Mem), w_L_numbers_192 ss a1 a2 v5 s3 s2 μ Q → WB sF l D C ad rm_L_numbers K 11 μ 192 [(0, .ref (ad 249)), (1, .int a1), (3, .ref (ad 246)), (4, .ref (ad 247)), (5, .int v5)] [.int s3, .int s2, .ref (ad 246)] := by
                      intro v5 s3 s2 μ h
                      unfold w_L_numbers_192 at h
                      have B224 : ∀ (v7 : Int32) (v8 : Int32) (μ : Mem), w_L_numbers_224 ss a1 a2 v7 v8 μ Q → WB sF l D C ad rm_L_numbers K 11 μ 224 [(0, .ref (ad 249)), (1, .int a1), (3, .ref (ad 246)), (4, .ref (ad 247)), (7, .int v7), (8, .int v8)] [] := by
                        intro v7 v8 μ h
                        obtain ⟨Y224, eY⟩ : ∃ Y : Int32 → Int32 → Mem → Prop, Y = fun (v7 : Int32) (v8 : Int32) (μ : Mem) => WB sF l D C ad rm_L_numbers K 11 μ 224 [(0, .ref (ad 249)), (1, .int a1), (3, .ref (ad 246)), (4, .ref (ad 247)), (7, .int v7), (8, .int v8)] [] := ⟨_, rfl⟩
                        have B224 : Y224 v7 v8 μ := by
                          unfold w_L_numbers_224 at h
                          refine h Y224 ?_
                          clear h
                          intro v7 v8 μ h
                          unfold s_L_numbers_224 at h
                          rw [eY]
                          show WB sF l D C ad rm_L_numbers K 11 μ 224 [(0, .ref (ad 249)), (1, .int a1), (3, .ref (ad 246)), (4, .ref (ad 247)), (7, .int v7), (8, .int v8)] []
                          have T224 : ∀ (v7 : Int32) (v8 : Int32) (μ : Mem), Y224 v7 v8 μ → WB sF l D C ad rm_L_numbers K 11 μ 224 [(0, .ref (ad 249)), (1, .int a1), (3, .ref (ad 246)), (4, .ref (ad 247)), (7, .int v7), (8, .int v8)] [] := by
                            intro v7 v8 μ h
                            rw [eY] at h
                            exact h
                          clear eY
                          have B387 : ∀ (μ : Mem), w_L_numbers_387 ss a1 a2 μ Q → WB sF l D C ad rm_L_numbers K 11 μ 387 [(0, .ref (ad 249)), (1, .int a1), (3, .ref (ad 246))] [] := by
                            intro μ h
                            unfold w_L_numbers_387 at h
                            have B390 : ∀ (v8 : Int32) (μ : Mem), w_L_numbers_390 ss a1 a2 v8 μ Q → WB sF l D C ad rm_L_numbers K 11 μ 390 [(0, .ref (ad 249)), (1, .int a1), (3, .ref (ad 246)), (8, .int v8)] [] := by
                              intro v8 μ h
                              obtain ⟨Y390, eY⟩ : ∃ Y : Int32 → Mem → Prop, Y = fun (v8 : Int32) (μ : Mem) => WB sF l D C ad rm_L_numbers K 11 μ 390 [(0, .ref (ad 249)), (1, .int a1), (3, .ref (ad 246)), (8, .int v8)] [] := ⟨_, rfl⟩
                              have B390 : Y390 v8 μ := by
                                unfold w_L_numbers_390 at h
                                refine h Y390 ?_
                                clear h
                                intro v8 μ h
                                unfold s_L_numbers_390 at h
                                rw [eY]
                                show WB sF l D C ad rm_L_numbers K 11 μ 390 [(0, .ref (ad 249)), (1, .int a1), (3, .ref (ad 246)), (8, .int v8)] []
                                have T390 : ∀ (v8 : Int32) (μ : Mem), Y390 v8 μ → WB sF l D C ad rm_L_numbers K 11 μ 390 [(0, .ref (ad 249)), (1, .int a1), (3, .ref (ad 246)), (8, .int v8)] [] := by
                                  intro v8 μ h
                                  rw [eY] at h
                                  exact h
                                clear eY
                                have B447 : ∀ (μ : Mem), w_L_numbers_447 ss a1 a2 μ Q → WB sF l D C ad rm_L_numbers K 11 μ 447 [(0, .ref (ad 249)), (1, .int a1), (3, .ref (ad 246))] [] := by
                                  intro μ h
                                  unfold w_L_numbers_447 at h
                                  have B450 : ∀ (v8 : Int32) (μ : Mem), w_L_numbers_450 ss a1 a2 v8 μ Q → WB sF l D C ad rm_L_numbers K 11 μ 450 [(0, .ref (ad 249)), (1, .int a1), (3, .ref (ad 246)), (8, .int v8)] [] := by
                                    intro v8 μ h
                                    obtain ⟨Y450, eY⟩ : ∃ Y : Int32 → Mem → Prop, Y = fun (v8 : Int32) (μ : Mem) => WB sF l D C ad rm_L_numbers K 11 μ 450 [(0, .ref (ad 249)), (1, .int a1), (3, .ref (ad 246)), (8, .int v8)] [] := ⟨_, rfl⟩
                                    have B450 : Y450 v8 μ := by
                                      unfold w_L_numbers_450 at h
                                      refine h Y450 ?_
                                      clear h
                                      intro v8 μ h
                                      unfold s_L_numbers_450 at h
                                      rw [eY]
                                      show WB sF l D C ad rm_L_numbers K 11 μ 450 [(0, .ref (ad 249)), (1, .int a1), (3, .ref (ad 246)), (8, .int v8)] []
                                      have T450 : ∀ (v8 : Int32) (μ : Mem), Y450 v8 μ → WB sF l D C ad rm_L_numbers K 11 μ 450 [(0, .ref (ad 249)), (1, .int a1), (3, .ref (ad 246)), (8, .int v8)] [] := by
                                        intro v8 μ h
                                        rw [eY] at h
                                        exact h
                                      clear eY
                                      refine b_iload X dL_numbers_450 3 rfl ?_
                                      refine b_aload_n X dL_numbers_452 rfl 2 rfl ?_
                                      refine b_iconst (v := (nI 2)) X dL_numbers_453 (by decide) ?_
                                      have hz := h.1
                                      replace h := h.2
                                      refine b_iald X kF_246 nF_246 hz dL_numbers_454 ?_
                                      clear hz
                                      refine b_icmp_ge (t := 506) X dL_numbers_455 (by decide) (fun c => ?_) (fun c => ?_)
                                      · replace h := h.1 c
                                        exact hret _ _ _ h dL_numbers_506
                                      · replace h := h.2 c
                                        refine b_aload_n X dL_numbers_458 rfl 0 rfl ?_
                                        refine b_iload_n X dL_numbers_459 rfl 1 rfl ?_
                                        refine b_bipush (v := (nI 12)) X dL_numbers_460 (by decide) ?_
                                        refine b_iadd X dL_numbers_462 ?_
                                        refine b_iload X dL_numbers_463 3 rfl ?_
                                        refine b_iadd X dL_numbers_465 ?_
                                        refine bSi (st := []) (nA := 2) X (c_L_cell l D C ad ss hss ((a1 + (nI 12)) + v8) μ _ h) gw_L_20 hd_L_cell ⟨Nat.zero_le _, Nat.zero_le _⟩ rfl rfl ⟨Nat.le_of_ble_eq_true rfl, Nat.le_of_ble_eq_true rfl⟩ rfl rfl (Nat.le_of_ble_eq_true rfl) dL_numbers_466 (fun r50 μ51 h => ?_)
                                        obtain ⟨rfl, h⟩ := h
                                        refine b_istore (lv' := [(5, .int r50), (0, .ref (ad 249)), (1, .int a1), (3, .ref (ad 246)), (8, .int v8)]) X dL_numbers_469 (by decide) rfl ?_
                                        refine b_aload_n X dL_numbers_471 rfl 3 rfl ?_
                                        refine b_bipush (v := (nI 29)) X dL_numbers_472 (by decide) ?_
                                        refine b_iconst (v := (nI 2)) X dL_numbers_474 (by decide) ?_
                                        refine b_iload X dL_numbers_475 4 rfl ?_
                                        refine b_imul X dL_numbers_477 ?_
                                        refine b_iadd X dL_numbers_478 ?_
                                        refine b_iload X dL_numbers_479 0 rfl ?_
                                        refine b_iconst (v := (nI 2)) X dL_numbers_481 (by decide) ?_
                                        have hz := h.1
                                        replace h := h.2
                                        refine b_irem X dL_numbers_482 hz ?_
                                        clear hz
                                        refine b_topi (fun x52 ex52 => ?_)
                                        replace h := h x52 ex52
                                        have hz := h.1
                                        replace h := h.2
                                        refine b_iast X kF_246 nF_246 hz dL_numbers_483 (fun μ53 eμ53 => ?_)
                                        clear hz
                                        replace h := h μ53 eμ53
                                        refine b_aload_n X dL_numbers_484 rfl 3 rfl ?_
                                        refine b_bipush (v := (nI 30)) X dL_numbers_485 (by decide) ?_
                                        refine b_iconst (v := (nI 2)) X dL_numbers_487 (by decide) ?_
                                        refine b_iload X dL_numbers_488 4 rfl ?_
                                        refine b_imul X dL_numbers_490 ?_
                                        refine b_iadd X dL_numbers_491 ?_
                                        refine b_iload X dL_numbers_492 0 rfl ?_
                                        refine b_iconst (v := (nI 2)) X dL_numbers_494 (by decide) ?_
                                        have hz := h.1
                                        replace h := h.2
                                        refine b_idiv X dL_numbers_495 hz ?_
                                        clear hz
                                        refine b_bipush (v := (nI 41)) X dL_numbers_496 (by decide) ?_
                                        have hz := h.1
                                        replace h := h.2
                                        refine b_irem X dL_numbers_498 hz ?_
                                        clear hz
                                        refine b_topi (fun x54 ex54 => ?_)
                                        replace h := h x54 ex54
                                        have hz := h.1
                                        replace h := h.2
                                        refine b_iast X kF_246 nF_246 hz dL_numbers_499 (fun μ55 eμ55 => ?_)
                                        clear hz
                                        replace h := h μ55 eμ55
                                        obtain ⟨x56, ex56⟩ : ∃ y : Int32, y = v8 + (nI 1) := ⟨_, rfl⟩
                                        replace h := h x56 ex56
                                        refine b_iinc (x := x56) (lv' := [(8, .int x56), (5, .int r50), (0, .ref (ad 249)), (1, .int a1), (3, .ref (ad 246))]) (q := 4) X dL_numbers_500 rfl (by rw [ex56]; rfl) (by decide) rfl ?_
                                        refine b_goto (t := 450) X dL_numbers_503 (by decide) ?_
                                        refine b_sub (lv' := [(0, .ref (ad 249)), (1, .int a1), (3, .ref (ad 246)), (8, .int x56)]) [2, 3, 4, 0] rfl ?_
                                        exact T450 x56 μ55 h
                                    rw [eY] at B450
                                    exact B450
                                  refine b_iconst (v := (nI 0)) X dL_numbers_447 (by decide) ?_
                                  refine b_istore (lv' := [(8, .int (nI 0)), (0, .ref (ad 249)), (1, .int a1), (3, .ref (ad 246))]) X dL_numbers_448 (by decide) rfl ?_
                                  refine b_sub (lv' := [(0, .ref (ad 249)), (1, .int a1), (3, .ref (ad 246)), (8, .int (nI 0))]) [1, 2, 3, 0] rfl ?_
                                  exact B450 (nI 0) μ h
                                refine b_iload X dL_numbers_390 3 rfl ?_
                                refine b_aload_n X dL_numbers_392 rfl 2 rfl ?_
                                refine b_iconst (v := (nI 4)) X dL_numbers_393 (by decide) ?_
                                have hz := h.1
                                replace h := h.2
                                refine b_iald X kF_246 nF_246 hz dL_numbers_394 ?_
                                clear hz
                                refine b_icmp_ge (t := 447) X dL_numbers_395 (by decide) (fun c => ?_) (fun c => ?_)
                                · replace h := h.1 c
                                  refine b_sub (lv' := [(0, .ref (ad 249)), (1, .int a1), (3, .ref (ad 246))]) [0, 1, 2] rfl ?_
                                  exact B447 μ h
                                · replace h := h.2 c
                                  refine b_aload_n X dL_numbers_398 rfl 0 rfl ?_
                                  refine b_iload_n X dL_numbers_399 rfl 1 rfl ?_
                                  refine b_bipush (v := (nI 8)) X dL_numbers_400 (by decide) ?_
                                  refine b_iadd X dL_numbers_402 ?_
                                  refine b_iload X dL_numbers_403 3 rfl ?_
                                  refine b_iadd X dL_numbers_405 ?_
                                  refine bSi (st := []) (nA := 2) X (c_L_cell l D C ad ss hss ((a1 + (nI 8)) + v8) μ _ h) gw_L_20 hd_L_cell ⟨Nat.zero_le _, Nat.zero_le _⟩ rfl rfl ⟨Nat.le_of_ble_eq_true rfl, Nat.le_of_ble_eq_true rfl⟩ rfl rfl (Nat.le_of_ble_eq_true rfl) dL_numbers_406 (fun r43 μ44 h => ?_)
                                  obtain ⟨rfl, h⟩ := h
                                  refine b_istore (lv' := [(5, .int r43), (0, .ref (ad 249)), (1, .int a1), (3, .ref (ad 246)), (8, .int v8)]) X dL_numbers_409 (by decide) rfl ?_
                                  refine b_aload_n X dL_numbers_411 rfl 3 rfl ?_
                                  refine b_bipush (v := (nI 21)) X dL_numbers_412 (by decide) ?_
                                  refine b_iload X dL_numbers_414 4 rfl ?_
                                  refine b_iadd X dL_numbers_416 ?_
                                  refine b_iload X dL_numbers_417 0 rfl ?_
                                  refine b_aload_n X dL_numbers_419 rfl 3 rfl ?_
                                  refine b_iconst (v := (nI 0)) X dL_numbers_420 (by decide) ?_
                                  have hz := h.1
                                  replace h := h.2
                                  refine b_iald X kF_246 nF_246 hz dL_numbers_421 ?_
                                  clear hz
                                  have hz := h.1
                                  replace h := h.2
                                  refine b_irem X dL_numbers_422 hz ?_
                                  clear hz
                                  refine b_topi (fun x45 ex45 => ?_)
                                  replace h := h x45 ex45
                                  have hz := h.1
                                  replace h := h.2
                                  refine b_iast X kF_246 nF_246 hz dL_numbers_423 (fun μ46 eμ46 => ?_)
                                  clear hz
                                  replace h := h μ46 eμ46
                                  refine b_aload_n X dL_numbers_424 rfl 3 rfl ?_
                                  refine b_bipush (v := (nI 25)) X dL_numbers_425 (by decide) ?_
                                  refine b_iload X dL_numbers_427 4 rfl ?_
                                  refine b_iadd X dL_numbers_429 ?_
                                  refine b_iconst (v := (nI 1)) X dL_numbers_430 (by decide) ?_
                                  refine b_iload X dL_numbers_431 0 rfl ?_
                                  refine b_bipush (v := (nI 16)) X dL_numbers_433 (by decide) ?_
                                  have hz := h.1
                                  replace h := h.2
                                  refine b_idiv X dL_numbers_435 hz ?_
                                  clear hz
                                  refine b_bipush (v := (nI 20)) X dL_numbers_436 (by decide) ?_
                                  have hz := h.1
                                  replace h := h.2
                                  refine b_irem X dL_numbers_438 hz ?_
                                  clear hz
                                  refine b_topi (fun x47 ex47 => ?_)
                                  replace h := h x47 ex47
                                  refine b_iadd X dL_numbers_439 ?_
                                  have hz := h.1
                                  replace h := h.2
                                  refine b_iast X kF_246 nF_246 hz dL_numbers_440 (fun μ48 eμ48 => ?_)
                                  clear hz
                                  replace h := h μ48 eμ48
                                  obtain ⟨x49, ex49⟩ : ∃ y : Int32, y = v8 + (nI 1) := ⟨_, rfl⟩
                                  replace h := h x49 ex49
                                  refine b_iinc (x := x49) (lv' := [(8, .int x49), (5, .int r43), (0, .ref (ad 249)), (1, .int a1), (3, .ref (ad 246))]) (q := 4) X dL_numbers_441 rfl (by rw [ex49]; rfl) (by decide) rfl ?_
                                  refine b_goto (t := 390) X dL_numbers_444 (by decide) ?_
                                  refine b_sub (lv' := [(0, .ref (ad 249)), (1, .int a1), (3, .ref (ad 246)), (8, .int x49)]) [2, 3, 4, 0] rfl ?_
                                  exact T390 x49 μ48 h
                              rw [eY] at B390
                              exact B390
                            refine b_iconst (v := (nI 0)) X dL_numbers_387 (by decide) ?_
                            refine b_istore (lv' := [(8, .int (nI 0)), (0, .ref (ad 249)), (1, .int a1), (3, .ref (ad 246))]) X dL_numbers_388 (by decide) rfl ?_
                            refine b_sub (lv' := [(0, .ref (ad 249)), (1, .int a1), (3, .ref (ad 246)), (8, .int (nI 0))]) [1, 2, 3, 0] rfl ?_
                            exact B390 (nI 0) μ h
                          have B255 : ∀ (v5 : Int32) (v7 : Int32) (v8 : Int32) (v9 : Int32) (v10 : Int32) (μ : Mem), w_L_numbers_255 ss a1 a2 Y224 v5 v7 v8 v9 v10 μ Q → WB sF l D C ad rm_L_numbers K 11 μ 255 [(0, .ref (ad 249)), (1, .int a1), (3, .ref (ad 246)), (4, .ref (ad 247)), (5, .int v5), (7, .int v7), (8, .int v8), (9, .int v9), (10, .int v10)] [] := by
                            intro v5 v7 v8 v9 v10 μ h
                            obtain ⟨Y255, eY⟩ : ∃ Y : Int32 → Int32 → Prop, Y = fun (v9 : Int32) (v10 : Int32) => WB sF l D C ad rm_L_numbers K 11 μ 255 [(0, .ref (ad 249)), (1, .int a1), (3, .ref (ad 246)), (4, .ref (ad 247)), (5, .int v5), (7, .int v7), (8, .int v8), (9, .int v9), (10, .int v10)] [] := ⟨_, rfl⟩
                            have B255 : Y255 v9 v10 := by
                              unfold w_L_numbers_255 at h
                              refine h Y255 ?_
                              clear h
                              intro v9 v10 h
                              unfold s_L_numbers_255 at h
                              rw [eY]
                              show WB sF l D C ad rm_L_numbers K 11 μ 255 [(0, .ref (ad 249)), (1, .int a1), (3, .ref (ad 246)), (4, .ref (ad 247)), (5, .int v5), (7, .int v7), (8, .int v8), (9, .int v9), (10, .int v10)] []
                              have T255 : ∀ (v9 : Int32) (v10 : Int32), Y255 v9 v10 → WB sF l D C ad rm_L_numbers K 11 μ 255 [(0, .ref (ad 249)), (1, .int a1), (3, .ref (ad 246)), (4, .ref (ad 247)), (5, .int v5), (7, .int v7), (8, .int v8), (9, .int v9), (10, .int v10)] [] := by
                                intro v9 v10 h
                                rw [eY] at h
                                exact h
                              clear eY
                              have B299 : ∀ (v5 : Int32) (v7 : Int32) (v8 : Int32) (v9 : Int32) (μ : Mem), w_L_numbers_299 ss a1 a2 Y224 v5 v7 v8 v9 μ Q → WB sF l D C ad rm_L_numbers K 11 μ 299 [(0, .ref (ad 249)), (1, .int a1), (3, .ref (ad 246)), (4, .ref (ad 247)), (5, .int v5), (7, .int v7), (8, .int v8), (9, .int v9)] [] := by
                                intro v5 v7 v8 v9 μ h
                                unfold w_L_numbers_299 at h
                                have B364 : ∀ (v5 : Int32) (v7 : Int32) (v8 : Int32) (s5 : Int32) (s4 : Int32) (s3 : Int32) (s2 : Int32) (μ : Mem), w_L_numbers_364 ss a1 a2 Y224 v5 v7 v8 s5 s4 s3 s2 μ Q → WB sF l D C ad rm_L_numbers K 11 μ 364 [(0, .ref (ad 249)), (1, .int a1), (3, .ref (ad 246)), (4, .ref (ad 247)), (5, .int v5), (7, .int v7), (8, .int v8)] [.int s5, .int s4, .int s3, .int s2, .ref (ad 246)] := by
                                  intro v5 v7 v8 s5 s4 s3 s2 μ h
                                  unfold w_L_numbers_364 at h
                                  have hz := h.1
                                  replace h := h.2
                                  refine b_irem X dL_numbers_364 hz ?_
                                  clear hz
                                  refine b_topi (fun x38 ex38 => ?_)
                                  replace h := h x38 ex38
                                  refine b_iadd X dL_numbers_365 ?_
                                  have hz := h.1
                                  replace h := h.2
                                  refine b_iast X kF_246 nF_246 hz dL_numbers_366 (fun μ39 eμ39 => ?_)
                                  clear hz
                                  replace h := h μ39 eμ39
                                  refine b_aload_n X dL_numbers_367 rfl 2 rfl ?_
                                  refine b_bipush (v := (nI 15)) X dL_numbers_368 (by decide) ?_
                                  refine b_iload X dL_numbers_370 6 rfl ?_
                                  refine b_iadd X dL_numbers_372 ?_
                                  refine b_iload X dL_numbers_373 4 rfl ?_
                                  refine b_ldc (v := (nI 65536)) X m_k_L_27 dL_numbers_375 ?_
                                  have hz := h.1
                                  replace h := h.2
                                  refine b_idiv X dL_numbers_377 hz ?_
                                  clear hz
                                  refine b_iconst (v := (nI 2)) X dL_numbers_378 (by decide) ?_
                                  have hz := h.1
                                  replace h := h.2
                                  refine b_irem X dL_numbers_379 hz ?_
                                  clear hz
                                  refine b_topi (fun x40 ex40 => ?_)
                                  replace h := h x40 ex40
                                  have hz := h.1
                                  replace h := h.2
                                  refine b_iast X kF_246 nF_246 hz dL_numbers_380 (fun μ41 eμ41 => ?_)
                                  clear hz
                                  replace h := h μ41 eμ41
                                  obtain ⟨x42, ex42⟩ : ∃ y : Int32, y = v8 + (nI 1) := ⟨_, rfl⟩
                                  replace h := h x42 ex42
                                  refine b_iinc (x := x42) (lv' := [(8, .int x42), (0, .ref (ad 249)), (1, .int a1), (3, .ref (ad 246)), (4, .ref (ad 247)), (5, .int v5), (7, .int v7)]) (q := 6) X dL_numbers_381 rfl (by rw [ex42]; rfl) (by decide) rfl ?_
                                  refine b_goto (t := 224) X dL_numbers_384 (by decide) ?_
                                  refine b_sub (lv' := [(0, .ref (ad 249)), (1, .int a1), (3, .ref (ad 246)), (4, .ref (ad 247)), (7, .int v7), (8, .int x42)]) [1, 2, 3, 4, 6, 0] rfl ?_
                                  exact T224 v7 x42 μ41 h
                                refine b_iload X dL_numbers_299 5 rfl ?_
                                refine b_iconst (v := (nI 1)) X dL_numbers_301 (by decide) ?_
                                refine b_iload X dL_numbers_302 7 rfl ?_
                                refine b_ishl X dL_numbers_304 ?_
                                refine b_ior X dL_numbers_305 ?_
                                refine b_topi (fun x33 ex33 => ?_)
                                replace h := h x33 ex33
                                refine b_istore (lv' := [(7, .int x33), (0, .ref (ad 249)), (1, .int a1), (3, .ref (ad 246)), (4, .ref (ad 247)), (5, .int v5), (8, .int v8), (9, .int v9)]) X dL_numbers_306 (by decide) rfl ?_
                                refine b_aload X dL_numbers_308 4 rfl ?_
                                refine b_bipush (v := (nI 15)) X dL_numbers_310 (by decide) ?_
                                refine b_iload X dL_numbers_312 6 rfl ?_
                                refine b_iadd X dL_numbers_314 ?_
                                refine b_iload X dL_numbers_315 7 rfl ?_
                                have hz := h.1
                                replace h := h.2
                                refine b_iast X kF_247 nF_247 hz dL_numbers_317 (fun μ34 eμ34 => ?_)
                                clear hz
                                replace h := h μ34 eμ34
                                refine b_aload X dL_numbers_318 4 rfl ?_
                                refine b_bipush (v := (nI 21)) X dL_numbers_320 (by decide) ?_
                                refine b_iload X dL_numbers_322 6 rfl ?_
                                refine b_iadd X dL_numbers_324 ?_
                                refine b_iload X dL_numbers_325 5 rfl ?_
                                refine b_bipush (v := (nI 16)) X dL_numbers_327 (by decide) ?_
                                have hz := h.1
                                replace h := h.2
                                refine b_idiv X dL_numbers_329 hz ?_
                                clear hz
                                refine b_bipush (v := (nI 10)) X dL_numbers_330 (by decide) ?_
                                have hz := h.1
                                replace h := h.2
                                refine b_irem X dL_numbers_332 hz ?_
                                clear hz
                                refine b_topi (fun x35 ex35 => ?_)
                                replace h := h x35 ex35
                                have hz := h.1
                                replace h := h.2
                                refine b_iast X kF_247 nF_247 hz dL_numbers_333 (fun μ36 eμ36 => ?_)
                                clear hz
                                replace h := h μ36 eμ36
                                refine b_aload_n X dL_numbers_334 rfl 3 rfl ?_
                                refine b_bipush (v := (nI 9)) X dL_numbers_335 (by decide) ?_
                                refine b_iload X dL_numbers_337 6 rfl ?_
                                refine b_iadd X dL_numbers_339 ?_
                                refine b_iconst (v := (nI 1)) X dL_numbers_340 (by decide) ?_
                                refine b_iload X dL_numbers_341 5 rfl ?_
                                refine b_sipush (v := (nI 256)) X dL_numbers_343 (by decide) ?_
                                have hz := h.1
                                replace h := h.2
                                refine b_idiv X dL_numbers_346 hz ?_
                                clear hz
                                refine b_iload X dL_numbers_347 5 rfl ?_
                                refine b_ldc (v := (nI 32768)) X m_k_L_24 dL_numbers_349 ?_
                                have hz := h.1
                                replace h := h.2
                                refine b_idiv X dL_numbers_351 hz ?_
                                clear hz
                                refine b_iconst (v := (nI 2)) X dL_numbers_352 (by decide) ?_
                                have hz := h.1
                                replace h := h.2
                                refine b_irem X dL_numbers_353 hz ?_
                                clear hz
                                refine b_topi (fun x37 ex37 => ?_)
                                replace h := h x37 ex37
                                refine b_if_ne (t := 362) X dL_numbers_354 (by decide) (fun c => ?_) (fun c => ?_)
                                · replace h := h.1 c
                                  refine b_bipush (v := (nI 20)) X dL_numbers_362 (by decide) ?_
                                  refine b_sub (lv' := [(0, .ref (ad 249)), (1, .int a1), (3, .ref (ad 246)), (4, .ref (ad 247)), (5, .int v5), (7, .int x33), (8, .int v8)]) [1, 2, 3, 4, 5, 0, 6] rfl ?_
                                  exact B364 v5 x33 v8 (nI 20) (v5 / (nI 256)) (nI 1) ((nI 9) + v8) μ36 h
                                · replace h := h.2 c
                                  refine b_bipush (v := (nI 99)) X dL_numbers_357 (by decide) ?_
                                  refine b_goto (t := 364) X dL_numbers_359 (by decide) ?_
                                  refine b_sub (lv' := [(0, .ref (ad 249)), (1, .int a1), (3, .ref (ad 246)), (4, .ref (ad 247)), (5, .int v5), (7, .int x33), (8, .int v8)]) [1, 2, 3, 4, 5, 0, 6] rfl ?_
                                  exact B364 v5 x33 v8 (nI 99) (v5 / (nI 256)) (nI 1) ((nI 9) + v8) μ36 h
                              have B291 : ∀ (v10 : Int32) (s1 : Int32), w_L_numbers_291 ss a1 a2 Y224 Y255 v5 v7 v8 v10 s1 μ Q → WB sF l D C ad rm_L_numbers K 11 μ 291 [(0, .ref (ad 249)), (1, .int a1), (3, .ref (ad 246)), (4, .ref (ad 247)), (5, .int v5), (7, .int v7), (8, .int v8), (10, .int v10)] [.int s1] := by
                                intro v10 s1 h
                                unfold w_L_numbers_291 at h
                                refine b_istore (lv' := [(9, .int s1), (0, .ref (ad 249)), (1, .int a1), (3, .ref (ad 246)), (4, .ref (ad 247)), (5, .int v5), (7, .int v7), (8, .int v8), (10, .int v10)]) X dL_numbers_291 (by decide) rfl ?_
                                obtain ⟨x32, ex32⟩ : ∃ y : Int32, y = v10 + (nI 1) := ⟨_, rfl⟩
                                replace h := h x32 ex32
                                refine b_iinc (x := x32) (lv' := [(10, .int x32), (9, .int s1), (0, .ref (ad 249)), (1, .int a1), (3, .ref (ad 246)), (4, .ref (ad 247)), (5, .int v5), (7, .int v7), (8, .int v8)]) (q := 8) X dL_numbers_293 rfl (by rw [ex32]; rfl) (by decide) rfl ?_
                                refine b_goto (t := 255) X dL_numbers_296 (by decide) ?_
                                refine b_sub (lv' := [(0, .ref (ad 249)), (1, .int a1), (3, .ref (ad 246)), (4, .ref (ad 247)), (5, .int v5), (7, .int v7), (8, .int v8), (9, .int s1), (10, .int x32)]) [2, 3, 4, 5, 6, 7, 8, 1, 0] rfl ?_
                                exact T255 s1 x32 h
                              refine b_iload X dL_numbers_255 8 rfl ?_
                              refine b_bipush (v := (nI 12)) X dL_numbers_257 (by decide) ?_
                              refine b_icmp_ge (t := 299) X dL_numbers_259 (by decide) (fun c => ?_) (fun c => ?_)
                              · replace h := h.1 c
                                refine b_sub (lv' := [(0, .ref (ad 249)), (1, .int a1), (3, .ref (ad 246)), (4, .ref (ad 247)), (5, .int v5), (7, .int v7), (8, .int v8), (9, .int v9)]) [0, 1, 2, 3, 4, 5, 6, 7] rfl ?_
                                exact B299 v5 v7 v8 v9 μ h
                              · replace h := h.2 c
                                refine b_iload X dL_numbers_262 5 rfl ?_
                                refine b_iload X dL_numbers_264 7 rfl ?_
                                refine b_ishr X dL_numbers_266 ?_
                                refine b_iconst (v := (nI 1)) X dL_numbers_267 (by decide) ?_
                                refine b_iand X dL_numbers_268 ?_
                                refine b_iconst (v := (nI 1)) X dL_numbers_269 (by decide) ?_
                                refine b_icmp_ne (t := 299) X dL_numbers_270 (by decide) (fun c => ?_) (fun c => ?_)
                                · replace h := h.1 c
                                  refine b_sub (lv' := [(0, .ref (ad 249)), (1, .int a1), (3, .ref (ad 246)), (4, .ref (ad 247)), (5, .int v5), (7, .int v7), (8, .int v8), (9, .int v9)]) [0, 1, 2, 3, 4, 5, 6, 7] rfl ?_
                                  exact B299 v5 v7 v8 v9 μ h
                                · replace h := h.2 c
                                  refine b_iload X dL_numbers_273 7 rfl ?_
                                  refine b_aload_n X dL_numbers_275 rfl 2 rfl ?_
                                  refine b_iconst (v := (nI 0)) X dL_numbers_276 (by decide) ?_
                                  have hz := h.1
                                  replace h := h.2
                                  refine b_iald X kF_246 nF_246 hz dL_numbers_277 ?_
                                  clear hz
                                  refine b_iconst (v := (nI 1)) X dL_numbers_278 (by decide) ?_
                                  refine b_isub X dL_numbers_279 ?_
                                  refine b_icmp_ne (t := 287) X dL_numbers_280 (by decide) (fun c => ?_) (fun c => ?_)
                                  · replace h := h.1 c
                                    refine b_iload X dL_numbers_287 7 rfl ?_
                                    refine b_iconst (v := (nI 1)) X dL_numbers_289 (by decide) ?_
                                    refine b_iadd X dL_numbers_290 ?_
                                    refine b_sub (lv' := [(0, .ref (ad 249)), (1, .int a1), (3, .ref (ad 246)), (4, .ref (ad 247)), (5, .int v5), (7, .int v7), (8, .int v8), (10, .int v10)]) [0, 1, 2, 3, 4, 5, 6, 8] rfl ?_
                                    exact B291 v10 (v9 + (nI 1)) h
                                  · replace h := h.2 c
                                    refine b_iconst (v := (nI 0)) X dL_numbers_283 (by decide) ?_
                                    refine b_goto (t := 291) X dL_numbers_284 (by decide) ?_
                                    refine b_sub (lv' := [(0, .ref (ad 249)), (1, .int a1), (3, .ref (ad 246)), (4, .ref (ad 247)), (5, .int v5), (7, .int v7), (8, .int v8), (10, .int v10)]) [0, 1, 2, 3, 4, 5, 6, 8] rfl ?_
                                    exact B291 v10 (nI 0) h
                            rw [eY] at B255
                            exact B255
                          refine b_iload X dL_numbers_224 5 rfl ?_
                          refine b_aload_n X dL_numbers_226 rfl 2 rfl ?_
                          refine b_iconst (v := (nI 3)) X dL_numbers_227 (by decide) ?_
                          have hz := h.1
                          replace h := h.2
                          refine b_iald X kF_246 nF_246 hz dL_numbers_228 ?_
                          clear hz
                          refine b_icmp_ge (t := 387) X dL_numbers_229 (by decide) (fun c => ?_) (fun c => ?_)
                          · replace h := h.1 c
                            refine b_sub (lv' := [(0, .ref (ad 249)), (1, .int a1), (3, .ref (ad 246))]) [0, 1, 2] rfl ?_
                            exact B387 μ h
                          · replace h := h.2 c
                            refine b_aload_n X dL_numbers_232 rfl 0 rfl ?_
                            refine b_iload_n X dL_numbers_233 rfl 1 rfl ?_
                            refine b_iconst (v := (nI 2)) X dL_numbers_234 (by decide) ?_
                            refine b_iadd X dL_numbers_235 ?_
                            refine b_iload X dL_numbers_236 5 rfl ?_
                            refine b_iadd X dL_numbers_238 ?_
                            refine bSi (st := []) (nA := 2) X (c_L_cell l D C ad ss hss ((a1 + (nI 2)) + v8) μ _ h) gw_L_20 hd_L_cell ⟨Nat.zero_le _, Nat.zero_le _⟩ rfl rfl ⟨Nat.le_of_ble_eq_true rfl, Nat.le_of_ble_eq_true rfl⟩ rfl rfl (Nat.le_of_ble_eq_true rfl) dL_numbers_239 (fun r29 μ30 h => ?_)
                            obtain ⟨rfl, h⟩ := h
                            refine b_istore (lv' := [(5, .int r29), (0, .ref (ad 249)), (1, .int a1), (3, .ref (ad 246)), (4, .ref (ad 247)), (7, .int v7), (8, .int v8)]) X dL_numbers_242 (by decide) rfl ?_
                            refine b_iload X dL_numbers_244 0 rfl ?_
                            refine b_aload_n X dL_numbers_246 rfl 3 rfl ?_
                            refine b_iconst (v := (nI 0)) X dL_numbers_247 (by decide) ?_
                            have hz := h.1
                            replace h := h.2
                            refine b_iald X kF_246 nF_246 hz dL_numbers_248 ?_
                            clear hz
                            have hz := h.1
                            replace h := h.2
                            refine b_irem X dL_numbers_249 hz ?_
                            clear hz
                            refine b_topi (fun x31 ex31 => ?_)
                            replace h := h x31 ex31
                            refine b_istore (lv' := [(9, .int x31), (5, .int r29), (0, .ref (ad 249)), (1, .int a1), (3, .ref (ad 246)), (4, .ref (ad 247)), (7, .int v7), (8, .int v8)]) X dL_numbers_250 (by decide) rfl ?_
                            refine b_iconst (v := (nI 0)) X dL_numbers_252 (by decide) ?_
                            refine b_istore (lv' := [(10, .int (nI 0)), (9, .int x31), (5, .int r29), (0, .ref (ad 249)), (1, .int a1), (3, .ref (ad 246)), (4, .ref (ad 247)), (7, .int v7), (8, .int v8)]) X dL_numbers_253 (by decide) rfl ?_
                            refine b_sub (lv' := [(0, .ref (ad 249)), (1, .int a1), (3, .ref (ad 246)), (4, .ref (ad 247)), (5, .int r29), (7, .int v7), (8, .int v8), (9, .int x31), (10, .int (nI 0))]) [3, 4, 5, 6, 2, 7, 8, 1, 0] rfl ?_
                            exact B255 r29 v7 v8 x31 (nI 0) μ h
                        rw [eY] at B224
                        exact B224
                      have hz := h.1
                      replace h := h.2
                      refine b_iast X kF_246 nF_246 hz dL_numbers_192 (fun μ24 eμ24 => ?_)
                      clear hz
                      replace h := h μ24 eμ24
                      refine b_aload_n X dL_numbers_193 rfl 2 rfl ?_
                      refine b_bipush (v := (nI 7)) X dL_numbers_194 (by decide) ?_
                      refine b_iload X dL_numbers_196 4 rfl ?_
                      refine b_sipush (v := (nI 16384)) X dL_numbers_198 (by decide) ?_
                      have hz := h.1
                      replace h := h.2
                      refine b_idiv X dL_numbers_201 hz ?_
                      clear hz
                      refine b_bipush (v := (nI 30)) X dL_numbers_202 (by decide) ?_
                      have hz := h.1
                      replace h := h.2
                      refine b_irem X dL_numbers_204 hz ?_
                      clear hz
                      refine b_topi (fun x25 ex25 => ?_)
                      replace h := h x25 ex25
                      have hz := h.1
                      replace h := h.2
                      refine b_iast X kF_246 nF_246 hz dL_numbers_205 (fun μ26 eμ26 => ?_)
                      clear hz
                      replace h := h μ26 eμ26
                      refine b_aload_n X dL_numbers_206 rfl 2 rfl ?_
                      refine b_bipush (v := (nI 8)) X dL_numbers_207 (by decide) ?_
                      refine b_iload X dL_numbers_209 4 rfl ?_
                      refine b_ldc (v := (nI 1048576)) X m_k_L_26 dL_numbers_211 ?_
                      have hz := h.1
                      replace h := h.2
                      refine b_idiv X dL_numbers_213 hz ?_
                      clear hz
                      refine b_bipush (v := (nI 20)) X dL_numbers_214 (by decide) ?_
                      have hz := h.1
                      replace h := h.2
                      refine b_irem X dL_numbers_216 hz ?_
                      clear hz
                      refine b_topi (fun x27 ex27 => ?_)
                      replace h := h x27 ex27
                      have hz := h.1
                      replace h := h.2
                      refine b_iast X kF_246 nF_246 hz dL_numbers_217 (fun μ28 eμ28 => ?_)
                      clear hz
                      replace h := h μ28 eμ28
                      refine b_iconst (v := (nI 0)) X dL_numbers_218 (by decide) ?_
                      refine b_istore (lv' := [(7, .int (nI 0)), (0, .ref (ad 249)), (1, .int a1), (3, .ref (ad 246)), (4, .ref (ad 247)), (5, .int v5)]) X dL_numbers_219 (by decide) rfl ?_
                      refine b_iconst (v := (nI 0)) X dL_numbers_221 (by decide) ?_
                      refine b_istore (lv' := [(8, .int (nI 0)), (7, .int (nI 0)), (0, .ref (ad 249)), (1, .int a1), (3, .ref (ad 246)), (4, .ref (ad 247)), (5, .int v5)]) X dL_numbers_222 (by decide) rfl ?_
                      refine b_sub (lv' := [(0, .ref (ad 249)), (1, .int a1), (3, .ref (ad 246)), (4, .ref (ad 247)), (7, .int (nI 0)), (8, .int (nI 0))]) [2, 3, 4, 5, 1, 0] rfl ?_
                      exact B224 (nI 0) (nI 0) μ28 h
                    have hz := h.1
                    replace h := h.2
                    refine b_iast X kF_246 nF_246 hz dL_numbers_168 (fun μ22 eμ22 => ?_)
                    clear hz
                    replace h := h μ22 eμ22
                    refine b_aload_n X dL_numbers_169 rfl 2 rfl ?_
                    refine b_bipush (v := (nI 6)) X dL_numbers_170 (by decide) ?_
                    refine b_iload X dL_numbers_172 5 rfl ?_
                    refine b_if_eq (t := 182) X dL_numbers_174 (by decide) (fun c => ?_) (fun c => ?_)
                    · replace h := h.1 c
                      refine b_iload X dL_numbers_182 4 rfl ?_
                      refine b_sipush (v := (nI 128)) X dL_numbers_184 (by decide) ?_
                      have hz := h.1
                      replace h := h.2
                      refine b_idiv X dL_numbers_187 hz ?_
                      clear hz
                      refine b_sipush (v := (nI 128)) X dL_numbers_188 (by decide) ?_
                      have hz := h.1
                      replace h := h.2
                      refine b_irem X dL_numbers_191 hz ?_
                      clear hz
                      refine b_topi (fun x23 ex23 => ?_)
                      replace h := h x23 ex23
                      refine b_sub (lv' := [(0, .ref (ad 249)), (1, .int a1), (3, .ref (ad 246)), (4, .ref (ad 247)), (5, .int v5)]) [0, 1, 2, 3, 4] rfl ?_
                      exact B192 v5 x23 (nI 6) μ22 h
                    · replace h := h.2 c
                      refine b_bipush (v := (nI 127)) X dL_numbers_177 (by decide) ?_
                      refine b_goto (t := 192) X dL_numbers_179 (by decide) ?_
                      refine b_sub (lv' := [(0, .ref (ad 249)), (1, .int a1), (3, .ref (ad 246)), (4, .ref (ad 247)), (5, .int v5)]) [0, 1, 2, 3, 4] rfl ?_
                      exact B192 v5 (nI 127) (nI 6) μ22 h
                  refine b_istore (lv' := [(6, .int s1), (0, .ref (ad 249)), (1, .int a1), (3, .ref (ad 246)), (4, .ref (ad 247))]) X dL_numbers_139 (by decide) rfl ?_
                  refine b_aload_n X dL_numbers_141 rfl 1 rfl ?_
                  refine b_iload_n X dL_numbers_142 rfl 2 rfl ?_
                  refine b_iconst (v := (nI 1)) X dL_numbers_143 (by decide) ?_
                  refine b_iadd X dL_numbers_144 ?_
                  refine bSi (st := []) (nA := 2) X (c_L_cell l D C ad ss hss (a1 + (nI 1)) μ _ h) gw_L_20 hd_L_cell ⟨Nat.zero_le _, Nat.zero_le _⟩ rfl rfl ⟨Nat.le_of_ble_eq_true rfl, Nat.le_of_ble_eq_true rfl⟩ rfl rfl (Nat.le_of_ble_eq_true rfl) dL_numbers_145 (fun r19 μ20 h => ?_)
                  obtain ⟨rfl, h⟩ := h
                  refine b_istore (lv' := [(5, .int r19), (6, .int s1), (0, .ref (ad 249)), (1, .int a1), (3, .ref (ad 246)), (4, .ref (ad 247))]) X dL_numbers_148 (by decide) rfl ?_
                  refine b_aload_n X dL_numbers_150 rfl 4 rfl ?_
                  refine b_iconst (v := (nI 5)) X dL_numbers_151 (by decide) ?_
                  refine b_iload X dL_numbers_152 1 rfl ?_
                  refine b_if_eq (t := 162) X dL_numbers_154 (by decide) (fun c => ?_) (fun c => ?_)
                  · replace h := h.1 c
                    refine b_iload X dL_numbers_162 0 rfl ?_
                    refine b_sipush (v := (nI 128)) X dL_numbers_164 (by decide) ?_
                    have hz := h.1
                    replace h := h.2
                    refine b_irem X dL_numbers_167 hz ?_
                    clear hz
                    refine b_topi (fun x21 ex21 => ?_)
                    replace h := h x21 ex21
                    refine b_sub (lv' := [(0, .ref (ad 249)), (1, .int a1), (3, .ref (ad 246)), (4, .ref (ad 247)), (5, .int r19), (6, .int s1)]) [2, 3, 4, 5, 0, 1] rfl ?_
                    exact B168 r19 s1 x21 (nI 5) μ h
                  · replace h := h.2 c
                    refine b_bipush (v := (nI 127)) X dL_numbers_157 (by decide) ?_
                    refine b_goto (t := 168) X dL_numbers_159 (by decide) ?_
                    refine b_sub (lv' := [(0, .ref (ad 249)), (1, .int a1), (3, .ref (ad 246)), (4, .ref (ad 247)), (5, .int r19), (6, .int s1)]) [2, 3, 4, 5, 0, 1] rfl ?_
                    exact B168 r19 s1 (nI 127) (nI 5) μ h
                have hz := h.1
                replace h := h.2
                refine b_iast X kF_246 nF_246 hz dL_numbers_100 (fun μ13 eμ13 => ?_)
                clear hz
                replace h := h μ13 eμ13
                refine b_aload_n X dL_numbers_101 rfl 3 rfl ?_
                refine b_iconst (v := (nI 3)) X dL_numbers_102 (by decide) ?_
                refine b_iconst (v := (nI 1)) X dL_numbers_103 (by decide) ?_
                refine b_iload X dL_numbers_104 5 rfl ?_
                refine b_sipush (v := (nI 4096)) X dL_numbers_106 (by decide) ?_
                have hz := h.1
                replace h := h.2
                refine b_idiv X dL_numbers_109 hz ?_
                clear hz
                refine b_iload_n X dL_numbers_110 rfl 2 rfl ?_
                have hz := h.1
                replace h := h.2
                refine b_irem X dL_numbers_111 hz ?_
                clear hz
                refine b_topi (fun x14 ex14 => ?_)
                replace h := h x14 ex14
                refine b_iadd X dL_numbers_112 ?_
                have hz := h.1
                replace h := h.2
                refine b_iast X kF_246 nF_246 hz dL_numbers_113 (fun μ15 eμ15 => ?_)
                clear hz
                replace h := h μ15 eμ15
                refine b_aload_n X dL_numbers_114 rfl 3 rfl ?_
                refine b_iconst (v := (nI 4)) X dL_numbers_115 (by decide) ?_
                refine b_iload X dL_numbers_116 5 rfl ?_
                refine b_ldc (v := (nI 32768)) X m_k_L_24 dL_numbers_118 ?_
                have hz := h.1
                replace h := h.2
                refine b_idiv X dL_numbers_120 hz ?_
                clear hz
                refine b_iconst (v := (nI 5)) X dL_numbers_121 (by decide) ?_
                have hz := h.1
                replace h := h.2
                refine b_irem X dL_numbers_122 hz ?_
                clear hz
                refine b_topi (fun x16 ex16 => ?_)
                replace h := h x16 ex16
                have hz := h.1
                replace h := h.2
                refine b_iast X kF_246 nF_246 hz dL_numbers_123 (fun μ17 eμ17 => ?_)
                clear hz
                replace h := h μ17 eμ17
                refine b_iload X dL_numbers_124 5 rfl ?_
                refine b_ldc (v := (nI 262144)) X m_k_L_25 dL_numbers_126 ?_
                have hz := h.1
                replace h := h.2
                refine b_idiv X dL_numbers_128 hz ?_
                clear hz
                refine b_iconst (v := (nI 3)) X dL_numbers_129 (by decide) ?_
                have hz := h.1
                replace h := h.2
                refine b_irem X dL_numbers_130 hz ?_
                clear hz
                refine b_topi (fun x18 ex18 => ?_)
                replace h := h x18 ex18
                refine b_if_ne (t := 138) X dL_numbers_131 (by decide) (fun c => ?_) (fun c => ?_)
                · replace h := h.1 c
                  refine b_iconst (v := (nI 0)) X dL_numbers_138 (by decide) ?_
                  refine b_sub (lv' := [(0, .ref (ad 249)), (1, .int a1), (3, .ref (ad 246)), (4, .ref (ad 247))]) [0, 1, 3, 4] rfl ?_
                  exact B139 (nI 0) μ17 h
                · replace h := h.2 c
                  refine b_iconst (v := (nI 1)) X dL_numbers_134 (by decide) ?_
                  refine b_goto (t := 139) X dL_numbers_135 (by decide) ?_
                  refine b_sub (lv' := [(0, .ref (ad 249)), (1, .int a1), (3, .ref (ad 246)), (4, .ref (ad 247))]) [0, 1, 3, 4] rfl ?_
                  exact B139 (nI 1) μ17 h
              refine b_aload_n X dL_numbers_43 rfl 0 rfl ?_
              refine b_iload_n X dL_numbers_44 rfl 1 rfl ?_
              refine bSi (st := []) (nA := 2) X (c_L_cell l D C ad ss hss a1 μ _ h) gw_L_20 hd_L_cell ⟨Nat.zero_le _, Nat.zero_le _⟩ rfl rfl ⟨Nat.le_of_ble_eq_true rfl, Nat.le_of_ble_eq_true rfl⟩ rfl rfl (Nat.le_of_ble_eq_true rfl) dL_numbers_45 (fun r5 μ6 h => ?_)
              obtain ⟨rfl, h⟩ := h
              refine b_istore (lv' := [(5, .int r5), (0, .ref (ad 249)), (1, .int a1), (2, .int a2), (3, .ref (ad 246)), (4, .ref (ad 247))]) X dL_numbers_48 (by decide) rfl ?_
              refine b_aload_n X dL_numbers_50 rfl 4 rfl ?_
              refine b_iconst (v := (nI 0)) X dL_numbers_51 (by decide) ?_
              refine b_iload_n X dL_numbers_52 rfl 3 rfl ?_
              refine b_iload X dL_numbers_53 0 rfl ?_
              refine b_bipush (v := (nI 13)) X dL_numbers_55 (by decide) ?_
              refine b_iload_n X dL_numbers_57 rfl 3 rfl ?_
              refine b_isub X dL_numbers_58 ?_
              have hz := h.1
              replace h := h.2
              refine b_irem X dL_numbers_59 hz ?_
              clear hz
              refine b_topi (fun x7 ex7 => ?_)
              replace h := h x7 ex7
              refine b_iadd X dL_numbers_60 ?_
              have hz := h.1
              replace h := h.2
              refine b_iast X kF_246 nF_246 hz dL_numbers_61 (fun μ8 eμ8 => ?_)
              clear hz
              replace h := h μ8 eμ8
              refine b_aload_n X dL_numbers_62 rfl 4 rfl ?_
              refine b_iconst (v := (nI 1)) X dL_numbers_63 (by decide) ?_
              refine b_iload X dL_numbers_64 0 rfl ?_
              refine b_bipush (v := (nI 16)) X dL_numbers_66 (by decide) ?_
              have hz := h.1
              replace h := h.2
              refine b_idiv X dL_numbers_68 hz ?_
              clear hz
              refine b_bipush (v := (nI 21)) X dL_numbers_69 (by decide) ?_
              have hz := h.1
              replace h := h.2
              refine b_irem X dL_numbers_71 hz ?_
              clear hz
              refine b_topi (fun x9 ex9 => ?_)
              replace h := h x9 ex9
              have hz := h.1
              replace h := h.2
              refine b_iast X kF_246 nF_246 hz dL_numbers_72 (fun μ10 eμ10 => ?_)
              clear hz
              replace h := h μ10 eμ10
              refine b_aload_n X dL_numbers_73 rfl 4 rfl ?_
              refine b_iconst (v := (nI 2)) X dL_numbers_74 (by decide) ?_
              refine b_iload X dL_numbers_75 0 rfl ?_
              refine b_sipush (v := (nI 512)) X dL_numbers_77 (by decide) ?_
              have hz := h.1
              replace h := h.2
              refine b_idiv X dL_numbers_80 hz ?_
              clear hz
              refine b_iconst (v := (nI 5)) X dL_numbers_81 (by decide) ?_
              have hz := h.1
              replace h := h.2
              refine b_irem X dL_numbers_82 hz ?_
              clear hz
              refine b_topi (fun x11 ex11 => ?_)
              replace h := h x11 ex11
              refine b_if_ne (t := 90) X dL_numbers_83 (by decide) (fun c => ?_) (fun c => ?_)
              · replace h := h.1 c
                refine b_iconst (v := (nI 1)) X dL_numbers_90 (by decide) ?_
                refine b_iload X dL_numbers_91 0 rfl ?_
                refine b_sipush (v := (nI 512)) X dL_numbers_93 (by decide) ?_
                have hz := h.1
                replace h := h.2
                refine b_idiv X dL_numbers_96 hz ?_
                clear hz
                refine b_iconst (v := (nI 4)) X dL_numbers_97 (by decide) ?_
                have hz := h.1
                replace h := h.2
                refine b_irem X dL_numbers_98 hz ?_
                clear hz
                refine b_topi (fun x12 ex12 => ?_)
                replace h := h x12 ex12
                refine b_iadd X dL_numbers_99 ?_
                refine b_sub (lv' := [(0, .ref (ad 249)), (1, .int a1), (2, .int a2), (3, .ref (ad 246)), (4, .ref (ad 247)), (5, .int r5)]) [1, 2, 3, 4, 5, 0] rfl ?_
                exact B100 r5 ((nI 1) + x12) (nI 2) μ10 h
              · replace h := h.2 c
                refine b_iconst (v := (nI 0)) X dL_numbers_86 (by decide) ?_
                refine b_goto (t := 100) X dL_numbers_87 (by decide) ?_
                refine b_sub (lv' := [(0, .ref (ad 249)), (1, .int a1), (2, .int a2), (3, .ref (ad 246)), (4, .ref (ad 247)), (5, .int r5)]) [1, 2, 3, 4, 5, 0] rfl ?_
                exact B100 r5 (nI 0) (nI 2) μ10 h
            refine b_iload X dL_numbers_24 5 rfl ?_
            refine b_bipush (v := (nI 27)) X dL_numbers_26 (by decide) ?_
            refine b_icmp_ge (t := 43) X dL_numbers_28 (by decide) (fun c => ?_) (fun c => ?_)
            · replace h := h.1 c
              refine b_sub (lv' := [(0, .ref (ad 249)), (1, .int a1), (2, .int a2), (3, .ref (ad 246)), (4, .ref (ad 247))]) [0, 1, 2, 3, 4] rfl ?_
              exact B43 μ h
            · replace h := h.2 c
              refine b_aload X dL_numbers_31 4 rfl ?_
              refine b_iload X dL_numbers_33 5 rfl ?_
              refine b_iconst (v := (nI 0)) X dL_numbers_35 (by decide) ?_
              have hz := h.1
              replace h := h.2
              refine b_iast X kF_247 nF_247 hz dL_numbers_36 (fun μ3 eμ3 => ?_)
              clear hz
              replace h := h μ3 eμ3
              obtain ⟨x4, ex4⟩ : ∃ y : Int32, y = v5 + (nI 1) := ⟨_, rfl⟩
              replace h := h x4 ex4
              refine b_iinc (x := x4) (lv' := [(5, .int x4), (0, .ref (ad 249)), (1, .int a1), (2, .int a2), (3, .ref (ad 246)), (4, .ref (ad 247))]) (q := 5) X dL_numbers_37 rfl (by rw [ex4]; rfl) (by decide) rfl ?_
              refine b_goto (t := 24) X dL_numbers_40 (by decide) ?_
              refine b_sub (lv' := [(0, .ref (ad 249)), (1, .int a1), (2, .int a2), (3, .ref (ad 246)), (4, .ref (ad 247)), (5, .int x4)]) [1, 2, 3, 4, 5, 0] rfl ?_
              exact T24 x4 μ3 h
          rw [eY] at B24
          exact B24
        refine b_iconst (v := (nI 0)) X dL_numbers_21 (by decide) ?_
        refine b_istore (lv' := [(5, .int (nI 0)), (0, .ref (ad 249)), (1, .int a1), (2, .int a2), (3, .ref (ad 246)), (4, .ref (ad 247))]) X dL_numbers_22 (by decide) rfl ?_
        refine b_sub (lv' := [(0, .ref (ad 249)), (1, .int a1), (2, .int a2), (3, .ref (ad 246)), (4, .ref (ad 247)), (5, .int (nI 0))]) [1, 2, 3, 4, 5, 0] rfl ?_
        exact B24 (nI 0) μ h
      refine b_iload X dL_numbers_3 5 rfl ?_
      refine b_bipush (v := (nI 53)) X dL_numbers_5 (by decide) ?_
      refine b_icmp_ge (t := 21) X dL_numbers_7 (by decide) (fun c => ?_) (fun c => ?_)
      · replace h := h.1 c
        refine b_sub (lv' := [(0, .ref (ad 249)), (1, .int a1), (2, .int a2), (3, .ref (ad 246)), (4, .ref (ad 247))]) [0, 1, 2, 3, 4] rfl ?_
        exact B21 μ h
      · replace h := h.2 c
        refine b_aload_n X dL_numbers_10 rfl 3 rfl ?_
        refine b_iload X dL_numbers_11 5 rfl ?_
        refine b_iconst (v := (nI 0)) X dL_numbers_13 (by decide) ?_
        have hz := h.1
        replace h := h.2
        refine b_iast X kF_246 nF_246 hz dL_numbers_14 (fun μ1 eμ1 => ?_)
        clear hz
        replace h := h μ1 eμ1
        obtain ⟨x2, ex2⟩ : ∃ y : Int32, y = v5 + (nI 1) := ⟨_, rfl⟩
        replace h := h x2 ex2
        refine b_iinc (x := x2) (lv' := [(5, .int x2), (0, .ref (ad 249)), (1, .int a1), (2, .int a2), (3, .ref (ad 246)), (4, .ref (ad 247))]) (q := 5) X dL_numbers_15 rfl (by rw [ex2]; rfl) (by decide) rfl ?_
        refine b_goto (t := 3) X dL_numbers_18 (by decide) ?_
        refine b_sub (lv' := [(0, .ref (ad 249)), (1, .int a1), (2, .int a2), (3, .ref (ad 246)), (4, .ref (ad 247)), (5, .int x2)]) [1, 2, 3, 4, 5, 0] rfl ?_
        exact T3 x2 μ1 h
    rw [eY] at B3
    exact B3
  refine b_iconst (v := (nI 0)) X dL_numbers_0 (by decide) ?_
  refine b_istore (lv' := [(5, .int (nI 0)), (0, .ref (ad 249)), (1, .int a1), (2, .int a2), (3, .ref (ad 246)), (4, .ref (ad 247))]) X dL_numbers_1 (by decide) rfl ?_
  refine b_sub (lv' := [(0, .ref (ad 249)), (1, .int a1), (2, .int a2), (3, .ref (ad 246)), (4, .ref (ad 247)), (5, .int (nI 0))]) [1, 2, 3, 4, 5, 0] rfl ?_
  exact B3 (nI 0) μ h
