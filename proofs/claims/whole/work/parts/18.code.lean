set_option maxHeartbeats 4000000 in
set_option maxRecDepth 100000 in
theorem c_X7_yards (l : Launch) (D : va_G) (C : Nat → ClassId) (ad : Nat → Nat) (a1 : Int32) (a2 : Int32) (μ : Mem) (Q : Int32 → Prop) (h : w_X7_yards a1 a2 μ Q) : Mi sM l yX7_yards cX7_yards 9 (some .int) rm_X7_yards D C ad [.ref (ad 0), .int a1, .int a2] μ (fun r μ' => μ = μ' ∧ Q r) := by
  refine fm_i (by decide +kernel) sM_lt (Nat.le_of_ble_eq_true rfl) (fun K X hret => ?_)
  have X : CK sM D C ad K cX7_yards 9 RX7 := X
  refine b_lv (lv' := [(0, .ref (ad 0)), (1, .int a1), (2, .int a2)]) rfl ?_
  unfold w_X7_yards at h
  have B39 : ∀ (v3 : Int32) (v4 : Int32) (v5 : Int32), w_X7_yards_39 a1 a2 v3 v4 v5 μ Q → WB sM l D C ad rm_X7_yards K 9 μ 39 [(0, .ref (ad 0)), (1, .int a1), (2, .int a2), (3, .int v3), (4, .int v4), (5, .int v5)] [] := by
    intro v3 v4 v5 h
    obtain ⟨Y39, eY⟩ : ∃ Y : Int32 → Int32 → Int32 → Prop, Y = fun (v3 : Int32) (v4 : Int32) (v5 : Int32) => WB sM l D C ad rm_X7_yards K 9 μ 39 [(0, .ref (ad 0)), (1, .int a1), (2, .int a2), (3, .int v3), (4, .int v4), (5, .int v5)] [] := ⟨_, rfl⟩
    have B39 : Y39 v3 v4 v5 := by
      unfold w_X7_yards_39 at h
      refine h Y39 ?_
      clear h
      intro v3 v4 v5 h
      unfold s_X7_yards_39 at h
      rw [eY]
      show WB sM l D C ad rm_X7_yards K 9 μ 39 [(0, .ref (ad 0)), (1, .int a1), (2, .int a2), (3, .int v3), (4, .int v4), (5, .int v5)] []
      have T39 : ∀ (v3 : Int32) (v4 : Int32) (v5 : Int32), Y39 v3 v4 v5 → WB sM l D C ad rm_X7_yards K 9 μ 39 [(0, .ref (ad 0)), (1, .int a1), (2, .int a2), (3, .int v3), (4, .int v4), (5, .int v5)] [] := by
        intro v3 v4 v5 h
        rw [eY] at h
        exact h
      clear eY
      have B165 : ∀ (v3 : Int32) (v4 : Int32), w_X7_yards_165 a1 a2 v3 v4 μ Q → WB sM l D C ad rm_X7_yards K 9 μ 165 [(2, .int a2), (3, .int v3), (4, .int v4)] [] := by
        intro v3 v4 h
        unfold w_X7_yards_165 at h
        refine b_iload_n X dX7_yards_165 rfl 1 rfl ?_
        refine b_iconst (v := ((-1) : Int32)) X dX7_yards_166 (by decide) ?_
        refine b_icmp_ne (t := 174) X dX7_yards_167 (by decide) (fun c => ?_) (fun c => ?_)
        · replace h := h.1 c
          refine b_iload_n X dX7_yards_174 rfl 0 rfl ?_
          refine b_if_ne (t := 183) X dX7_yards_175 (by decide) (fun c => ?_) (fun c => ?_)
          · replace h := h.1 c
            refine b_iload_n X dX7_yards_183 rfl 1 rfl ?_
            exact hret _ _ _ _ ⟨rfl, h⟩ dX7_yards_184
          · replace h := h.2 c
            refine b_iload X dX7_yards_178 2 rfl ?_
            refine b_goto (t := 184) X dX7_yards_180 (by decide) ?_
            exact hret _ _ _ _ ⟨rfl, h⟩ dX7_yards_184
        · replace h := h.2 c
          refine b_iconst (v := ((-1) : Int32)) X dX7_yards_170 (by decide) ?_
          refine b_goto (t := 184) X dX7_yards_171 (by decide) ?_
          exact hret _ _ _ _ ⟨rfl, h⟩ dX7_yards_184
      have B98 : ∀ (v3 : Int32) (v4 : Int32) (v5 : Int32) (v6 : Int32) (s1 : Int32), w_X7_yards_98 a1 a2 Y39 v3 v4 v5 v6 s1 μ Q → WB sM l D C ad rm_X7_yards K 9 μ 98 [(0, .ref (ad 0)), (1, .int a1), (2, .int a2), (3, .int v3), (4, .int v4), (5, .int v5), (6, .int v6)] [.int s1] := by
        intro v3 v4 v5 v6 s1 h
        unfold w_X7_yards_98 at h
        have B131 : ∀ (v3 : Int32) (v4 : Int32) (v5 : Int32) (v6 : Int32) (v7 : Int32) (s1 : Int32), w_X7_yards_131 a1 a2 Y39 v3 v4 v5 v6 v7 s1 μ Q → WB sM l D C ad rm_X7_yards K 9 μ 131 [(0, .ref (ad 0)), (1, .int a1), (2, .int a2), (3, .int v3), (4, .int v4), (5, .int v5), (6, .int v6), (7, .int v7)] [.int s1] := by
          intro v3 v4 v5 v6 v7 s1 h
          unfold w_X7_yards_131 at h
          have B144 : ∀ (v4 : Int32) (v5 : Int32) (v7 : Int32) (v8 : Int32) (s1 : Int32), w_X7_yards_144 a1 a2 Y39 v4 v5 v7 v8 s1 μ Q → WB sM l D C ad rm_X7_yards K 9 μ 144 [(0, .ref (ad 0)), (1, .int a1), (2, .int a2), (4, .int v4), (5, .int v5), (7, .int v7), (8, .int v8)] [.int s1] := by
            intro v4 v5 v7 v8 s1 h
            unfold w_X7_yards_144 at h
            have B157 : ∀ (v3 : Int32) (v5 : Int32) (s1 : Int32), w_X7_yards_157 a1 a2 Y39 v3 v5 s1 μ Q → WB sM l D C ad rm_X7_yards K 9 μ 157 [(0, .ref (ad 0)), (1, .int a1), (2, .int a2), (3, .int v3), (5, .int v5)] [.int s1] := by
              intro v3 v5 s1 h
              unfold w_X7_yards_157 at h
              refine b_istore (lv' := [(4, .int s1), (0, .ref (ad 0)), (1, .int a1), (2, .int a2), (3, .int v3), (5, .int v5)]) X dX7_yards_157 (by decide) rfl ?_
              obtain ⟨x7, ex7⟩ : ∃ y : Int32, y = v5 + (nI 1) := ⟨_, rfl⟩
              replace h := h x7 ex7
              refine b_iinc (x := x7) (lv' := [(5, .int x7), (4, .int s1), (0, .ref (ad 0)), (1, .int a1), (2, .int a2), (3, .int v3)]) (q := 5) X dX7_yards_159 rfl (by rw [ex7]; rfl) (by decide) rfl ?_
              refine b_goto (t := 39) X dX7_yards_162 (by decide) ?_
              refine b_sub (lv' := [(0, .ref (ad 0)), (1, .int a1), (2, .int a2), (3, .int v3), (4, .int s1), (5, .int x7)]) [2, 3, 4, 5, 1, 0] rfl ?_
              exact T39 v3 s1 x7 h
            refine b_istore_n (lv' := [(3, .int s1), (0, .ref (ad 0)), (1, .int a1), (2, .int a2), (4, .int v4), (5, .int v5), (7, .int v7), (8, .int v8)]) X dX7_yards_144 rfl (by decide) rfl ?_
            refine b_iload X dX7_yards_145 7 rfl ?_
            refine b_if_eq (t := 155) X dX7_yards_147 (by decide) (fun c => ?_) (fun c => ?_)
            · replace h := h.1 c
              refine b_iload X dX7_yards_155 4 rfl ?_
              refine b_sub (lv' := [(0, .ref (ad 0)), (1, .int a1), (2, .int a2), (3, .int s1), (5, .int v5)]) [1, 2, 3, 0, 5] rfl ?_
              exact B157 s1 v5 v4 h
            · replace h := h.2 c
              refine b_iload X dX7_yards_150 6 rfl ?_
              refine b_goto (t := 157) X dX7_yards_152 (by decide) ?_
              refine b_sub (lv' := [(0, .ref (ad 0)), (1, .int a1), (2, .int a2), (3, .int s1), (5, .int v5)]) [1, 2, 3, 0, 5] rfl ?_
              exact B157 s1 v5 v7 h
          refine b_istore (lv' := [(8, .int s1), (0, .ref (ad 0)), (1, .int a1), (2, .int a2), (3, .int v3), (4, .int v4), (5, .int v5), (6, .int v6), (7, .int v7)]) X dX7_yards_131 (by decide) rfl ?_
          refine b_iload X dX7_yards_133 0 rfl ?_
          refine b_if_eq (t := 143) X dX7_yards_135 (by decide) (fun c => ?_) (fun c => ?_)
          · replace h := h.1 c
            refine b_iload_n X dX7_yards_143 rfl 4 rfl ?_
            refine b_sub (lv' := [(0, .ref (ad 0)), (1, .int a1), (2, .int a2), (4, .int v4), (5, .int v5), (7, .int v7), (8, .int s1)]) [1, 2, 3, 5, 6, 8, 0] rfl ?_
            exact B144 v4 v5 v7 s1 v3 h
          · replace h := h.2 c
            refine b_iload X dX7_yards_138 7 rfl ?_
            refine b_goto (t := 144) X dX7_yards_140 (by decide) ?_
            refine b_sub (lv' := [(0, .ref (ad 0)), (1, .int a1), (2, .int a2), (4, .int v4), (5, .int v5), (7, .int v7), (8, .int s1)]) [1, 2, 3, 5, 6, 8, 0] rfl ?_
            exact B144 v4 v5 v7 s1 v6 h
        have B130 : ∀ (v3 : Int32) (v4 : Int32) (v5 : Int32) (v6 : Int32) (v7 : Int32), w_X7_yards_130 a1 a2 Y39 v3 v4 v5 v6 v7 μ Q → WB sM l D C ad rm_X7_yards K 9 μ 130 [(0, .ref (ad 0)), (1, .int a1), (2, .int a2), (3, .int v3), (4, .int v4), (5, .int v5), (6, .int v6), (7, .int v7)] [] := by
          intro v3 v4 v5 v6 v7 h
          unfold w_X7_yards_130 at h
          refine b_iconst (v := (nI 0)) X dX7_yards_130 (by decide) ?_
          refine b_sub (lv' := [(0, .ref (ad 0)), (1, .int a1), (2, .int a2), (3, .int v3), (4, .int v4), (5, .int v5), (6, .int v6), (7, .int v7)]) [0, 1, 2, 3, 4, 5, 6, 7] rfl ?_
          exact B131 v3 v4 v5 v6 v7 (nI 0) h
        refine b_istore (lv' := [(7, .int s1), (0, .ref (ad 0)), (1, .int a1), (2, .int a2), (3, .int v3), (4, .int v4), (5, .int v5), (6, .int v6)]) X dX7_yards_98 (by decide) rfl ?_
        refine b_iload X dX7_yards_100 7 rfl ?_
        refine b_iconst (v := ((-1) : Int32)) X dX7_yards_102 (by decide) ?_
        refine b_icmp_eq (t := 130) X dX7_yards_103 (by decide) (fun c => ?_) (fun c => ?_)
        · replace h := h.1 c
          refine b_sub (lv' := [(0, .ref (ad 0)), (1, .int a1), (2, .int a2), (3, .int v3), (4, .int v4), (5, .int v5), (6, .int v6), (7, .int s1)]) [1, 2, 3, 4, 5, 6, 7, 0] rfl ?_
          exact B130 v3 v4 v5 v6 s1 h
        · replace h := h.2 c
          refine b_aload_n X dX7_yards_106 rfl 1 rfl ?_
          refine g_7_29 X kM_0 m_f_X7_53 dX7_yards_107 ?_
          refine b_bipush (v := (nI 9)) X dX7_yards_110 (by decide) ?_
          refine b_iload X dX7_yards_112 7 rfl ?_
          refine b_iadd X dX7_yards_114 ?_
          have hz := h.1
          replace h := h.2
          refine b_iald X kM_14 nM_14 hz dX7_yards_115 ?_
          clear hz
          refine b_if_le (t := 130) X dX7_yards_116 (by decide) (fun c => ?_) (fun c => ?_)
          · replace h := h.1 c
            refine b_sub (lv' := [(0, .ref (ad 0)), (1, .int a1), (2, .int a2), (3, .int v3), (4, .int v4), (5, .int v5), (6, .int v6), (7, .int s1)]) [1, 2, 3, 4, 5, 6, 7, 0] rfl ?_
            exact B130 v3 v4 v5 v6 s1 h
          · replace h := h.2 c
            refine b_iload X dX7_yards_119 0 rfl ?_
            refine b_iload X dX7_yards_121 5 rfl ?_
            refine b_icmp_ge (t := 130) X dX7_yards_123 (by decide) (fun c => ?_) (fun c => ?_)
            · replace h := h.1 c
              refine b_sub (lv' := [(0, .ref (ad 0)), (1, .int a1), (2, .int a2), (3, .int v3), (4, .int v4), (5, .int v5), (6, .int v6), (7, .int s1)]) [1, 2, 3, 4, 5, 6, 7, 0] rfl ?_
              exact B130 v3 v4 v5 v6 s1 h
            · replace h := h.2 c
              refine b_iconst (v := (nI 1)) X dX7_yards_126 (by decide) ?_
              refine b_goto (t := 131) X dX7_yards_127 (by decide) ?_
              refine b_sub (lv' := [(0, .ref (ad 0)), (1, .int a1), (2, .int a2), (3, .int v3), (4, .int v4), (5, .int v5), (6, .int v6), (7, .int s1)]) [1, 2, 3, 4, 5, 6, 7, 0] rfl ?_
              exact B131 v3 v4 v5 v6 s1 (nI 1) h
      refine b_iload X dX7_yards_39 5 rfl ?_
      refine b_aload_n X dX7_yards_41 rfl 0 rfl ?_
      refine g_7_18 X kM_0 m_f_X7_173 dX7_yards_42 ?_
      refine b_icmp_ge (t := 165) X dX7_yards_45 (by decide) (fun c => ?_) (fun c => ?_)
      · replace h := h.1 c
        refine b_sub (lv' := [(2, .int a2), (3, .int v3), (4, .int v4)]) [2, 3, 4] rfl ?_
        exact B165 v3 v4 h
      · replace h := h.2 c
        refine b_aload_n X dX7_yards_48 rfl 0 rfl ?_
        refine b_aload_n X dX7_yards_49 rfl 0 rfl ?_
        refine g_7_29 X kM_0 m_f_X7_53 dX7_yards_50 ?_
        refine b_iload X dX7_yards_53 5 rfl ?_
        refine bVi (st := []) (nA := 2) X (c_X7_postIn l D C ad 14 kM_14 nM_14 v5 μ _ h) kM_0 (by decide) (enc_7 kM_0) rfl gw_X7_233 ⟨rfl, hd_X7_postIn⟩ rfl rfl ⟨Nat.le_of_ble_eq_true rfl, Nat.le_of_ble_eq_true rfl⟩ rfl rfl (Nat.le_of_ble_eq_true rfl) dX7_yards_55 (fun r5 μ6 h => ?_)
        obtain ⟨rfl, h⟩ := h
        refine b_istore (lv' := [(6, .int r5), (0, .ref (ad 0)), (1, .int a1), (2, .int a2), (3, .int v3), (4, .int v4), (5, .int v5)]) X dX7_yards_58 (by decide) rfl ?_
        refine b_iload X dX7_yards_60 6 rfl ?_
        refine b_aload_n X dX7_yards_62 rfl 1 rfl ?_
        refine g_7_26 X kM_0 m_f_X7_44 dX7_yards_63 ?_
        refine b_iconst (v := (nI 2)) X dX7_yards_66 (by decide) ?_
        refine b_iload_n X dX7_yards_67 rfl 2 rfl ?_
        refine b_imul X dX7_yards_68 ?_
        have hz := h.1
        replace h := h.2
        refine b_iald X kM_11 nM_11 hz dX7_yards_69 ?_
        clear hz
        refine b_icmp_ge (t := 87) X dX7_yards_70 (by decide) (fun c => ?_) (fun c => ?_)
        · replace h := h.1 c
          refine b_iload X dX7_yards_87 6 rfl ?_
          refine b_aload_n X dX7_yards_89 rfl 1 rfl ?_
          refine g_7_26 X kM_0 m_f_X7_44 dX7_yards_90 ?_
          refine b_iconst (v := (nI 2)) X dX7_yards_93 (by decide) ?_
          refine b_iload_n X dX7_yards_94 rfl 2 rfl ?_
          refine b_imul X dX7_yards_95 ?_
          have hz := h.1
          replace h := h.2
          refine b_iald X kM_11 nM_11 hz dX7_yards_96 ?_
          clear hz
          refine b_isub X dX7_yards_97 ?_
          refine b_sub (lv' := [(0, .ref (ad 0)), (1, .int a1), (2, .int a2), (3, .int v3), (4, .int v4), (5, .int v5), (6, .int r5)]) [1, 2, 3, 4, 5, 6, 0] rfl ?_
          exact B98 v3 v4 v5 r5 (v5 - (μ.1 11 (((nI 2) * a1)).toNatClampNeg)) h
        · replace h := h.2 c
          refine b_aload_n X dX7_yards_73 rfl 1 rfl ?_
          refine g_7_26 X kM_0 m_f_X7_44 dX7_yards_74 ?_
          refine b_iconst (v := (nI 2)) X dX7_yards_77 (by decide) ?_
          refine b_iload_n X dX7_yards_78 rfl 2 rfl ?_
          refine b_imul X dX7_yards_79 ?_
          have hz := h.1
          replace h := h.2
          refine b_iald X kM_11 nM_11 hz dX7_yards_80 ?_
          clear hz
          refine b_iload X dX7_yards_81 6 rfl ?_
          refine b_isub X dX7_yards_83 ?_
          refine b_goto (t := 98) X dX7_yards_84 (by decide) ?_
          refine b_sub (lv' := [(0, .ref (ad 0)), (1, .int a1), (2, .int a2), (3, .int v3), (4, .int v4), (5, .int v5), (6, .int r5)]) [1, 2, 3, 4, 5, 6, 0] rfl ?_
          exact B98 v3 v4 v5 r5 ((μ.1 11 (((nI 2) * a1)).toNatClampNeg) - v5) h
    rw [eY] at B39
    exact B39
  refine b_iload_n X dX7_yards_0 rfl 1 rfl ?_
  refine b_iconst (v := (nI 0)) X dX7_yards_1 (by decide) ?_
  refine b_aload_n X dX7_yards_2 rfl 0 rfl ?_
  refine g_7_22 X kM_0 m_f_X7_185 dX7_yards_3 ?_
  refine b_iconst (v := (nI 1)) X dX7_yards_6 (by decide) ?_
  refine b_isub X dX7_yards_7 ?_
  refine bSi (st := []) (nA := 3) X (c_X7_in l D C ad a1 (nI 0) ((μ.1 0 22) - (nI 1)) μ _ h) gw_X7_85 hd_X7_in rfl rfl ⟨Nat.le_of_ble_eq_true rfl, Nat.le_of_ble_eq_true rfl⟩ rfl rfl (Nat.le_of_ble_eq_true rfl) dX7_yards_8 (fun r1 μ2 h => ?_)
  obtain ⟨rfl, h⟩ := h
  refine b_if_ne (t := 17) X dX7_yards_11 (by decide) (fun c => ?_) (fun c => ?_)
  · replace h := h.1 c
    refine b_iload_n X dX7_yards_17 rfl 2 rfl ?_
    refine b_iconst (v := (nI 0)) X dX7_yards_18 (by decide) ?_
    refine b_iconst (v := (nI 1)) X dX7_yards_19 (by decide) ?_
    refine bSi (st := []) (nA := 3) X (c_X7_in l D C ad a2 (nI 0) (nI 1) μ _ h) gw_X7_85 hd_X7_in rfl rfl ⟨Nat.le_of_ble_eq_true rfl, Nat.le_of_ble_eq_true rfl⟩ rfl rfl (Nat.le_of_ble_eq_true rfl) dX7_yards_20 (fun r3 μ4 h => ?_)
    obtain ⟨rfl, h⟩ := h
    refine b_if_ne (t := 29) X dX7_yards_23 (by decide) (fun c => ?_) (fun c => ?_)
    · replace h := h.1 c
      refine b_iconst (v := ((-1) : Int32)) X dX7_yards_29 (by decide) ?_
      refine b_istore_n (lv' := [(3, .int ((-1) : Int32)), (0, .ref (ad 0)), (1, .int a1), (2, .int a2)]) X dX7_yards_30 rfl (by decide) rfl ?_
      refine b_ldcw (v := (nI 100000000)) X m_k_X7_324 dX7_yards_31 ?_
      refine b_istore (lv' := [(4, .int (nI 100000000)), (3, .int ((-1) : Int32)), (0, .ref (ad 0)), (1, .int a1), (2, .int a2)]) X dX7_yards_34 (by decide) rfl ?_
      refine b_iconst (v := (nI 0)) X dX7_yards_36 (by decide) ?_
      refine b_istore (lv' := [(5, .int (nI 0)), (4, .int (nI 100000000)), (3, .int ((-1) : Int32)), (0, .ref (ad 0)), (1, .int a1), (2, .int a2)]) X dX7_yards_37 (by decide) rfl ?_
      refine b_sub (lv' := [(0, .ref (ad 0)), (1, .int a1), (2, .int a2), (3, .int ((-1) : Int32)), (4, .int (nI 100000000)), (5, .int (nI 0))]) [3, 4, 5, 2, 1, 0] rfl ?_
      exact B39 ((-1) : Int32) (nI 100000000) (nI 0) h
    · replace h := h.2 c
      refine b_ldc (v := ((-1000000002) : Int32)) X m_k_X7_89 dX7_yards_26 ?_
      exact hret _ _ _ _ ⟨rfl, h⟩ dX7_yards_28
  · replace h := h.2 c
    refine b_ldc (v := ((-1000000001) : Int32)) X m_k_X7_219 dX7_yards_14 ?_
    exact hret _ _ _ _ ⟨rfl, h⟩ dX7_yards_16
set_option maxHeartbeats 4000000 in
set_option maxRecDepth 100000 in
theorem c_X7_clear (l : Launch) (D : va_G) (C : Nat → ClassId) (ad : Nat → Nat) (a1 : Int32) (a2 : Int32) (μ : Mem) (Q : Int32 → Prop) (h : w_X7_clear a1 a2 μ Q) : Mi sM l yX7_clear cX7_clear 6 (some .int) rm_X7_clear D C ad [.ref (ad 0), .int a1, .int a2] μ (fun r μ' => μ = μ' ∧ Q r) := by
  refine fm_i (by decide +kernel) sM_lt (Nat.le_of_ble_eq_true rfl) (fun K X hret => ?_)
  have X : CK sM D C ad K cX7_clear 6 RX7 := X
  refine b_lv (lv' := [(0, .ref (ad 0)), (1, .int a1), (2, .int a2)]) rfl ?_
  unfold w_X7_clear at h
  have B30 : ∀ (v3 : Int64) (v5 : Int32), w_X7_clear_30 a1 a2 v3 v5 μ Q → WB sM l D C ad rm_X7_clear K 6 μ 30 [(1, .int a1), (2, .int a2), (3, .long v3), (5, .int v5)] [] := by
    intro v3 v5 h
    obtain ⟨Y30, eY⟩ : ∃ Y : Int64 → Int32 → Prop, Y = fun (v3 : Int64) (v5 : Int32) => WB sM l D C ad rm_X7_clear K 6 μ 30 [(1, .int a1), (2, .int a2), (3, .long v3), (5, .int v5)] [] := ⟨_, rfl⟩
    have B30 : Y30 v3 v5 := by
      unfold w_X7_clear_30 at h
      refine h Y30 ?_
      clear h
      intro v3 v5 h
      unfold s_X7_clear_30 at h
      rw [eY]
      show WB sM l D C ad rm_X7_clear K 6 μ 30 [(1, .int a1), (2, .int a2), (3, .long v3), (5, .int v5)] []
      have T30 : ∀ (v3 : Int64) (v5 : Int32), Y30 v3 v5 → WB sM l D C ad rm_X7_clear K 6 μ 30 [(1, .int a1), (2, .int a2), (3, .long v3), (5, .int v5)] [] := by
        intro v3 v5 h
        rw [eY] at h
        exact h
      clear eY
      refine b_iload X dX7_clear_30 3 rfl ?_
      refine b_iload_n X dX7_clear_32 rfl 0 rfl ?_
      refine b_icmp_ge (t := 51) X dX7_clear_33 (by decide) (fun c => ?_) (fun c => ?_)
      · replace h := h.1 c
        refine b_lload_n X dX7_clear_51 rfl 2 rfl ?_
        refine b_l2i X dX7_clear_52 ?_
        exact hret _ _ _ _ ⟨rfl, h⟩ dX7_clear_53
      · replace h := h.2 c
        refine b_lload_n X dX7_clear_36 rfl 2 rfl ?_
        refine b_iload_n X dX7_clear_37 rfl 1 rfl ?_
        refine b_i2l X dX7_clear_38 ?_
        refine b_lmul X dX7_clear_39 ?_
        refine b_ldc2 (v := (lN 100)) X m_K_X7_327 dX7_clear_40 ?_
        have hz := h.1
        replace h := h.2
        refine b_ldiv X dX7_clear_43 hz ?_
        clear hz
        refine b_topl (fun x5 ex5 => ?_)
        replace h := h x5 ex5
        refine b_lstore_n (lv' := [(3, .long x5), (1, .int a1), (2, .int a2), (5, .int v5)]) X dX7_clear_44 rfl (by decide) rfl ?_
        obtain ⟨x6, ex6⟩ : ∃ y : Int32, y = v5 + (nI 1) := ⟨_, rfl⟩
        replace h := h x6 ex6
        refine b_iinc (x := x6) (lv' := [(5, .int x6), (3, .long x5), (1, .int a1), (2, .int a2)]) (q := 3) X dX7_clear_45 rfl (by rw [ex6]; rfl) (by decide) rfl ?_
        refine b_goto (t := 30) X dX7_clear_48 (by decide) ?_
        refine b_sub (lv' := [(1, .int a1), (2, .int a2), (3, .long x5), (5, .int x6)]) [2, 3, 1, 0] rfl ?_
        exact T30 x5 x6 h
    rw [eY] at B30
    exact B30
  refine b_iload_n X dX7_clear_0 rfl 1 rfl ?_
  refine b_iconst (v := (nI 0)) X dX7_clear_1 (by decide) ?_
  refine b_bipush (v := (nI 60)) X dX7_clear_2 (by decide) ?_
  refine bSi (st := []) (nA := 3) X (c_X7_in l D C ad a1 (nI 0) (nI 60) μ _ h) gw_X7_85 hd_X7_in rfl rfl ⟨Nat.le_of_ble_eq_true rfl, Nat.le_of_ble_eq_true rfl⟩ rfl rfl (Nat.le_of_ble_eq_true rfl) dX7_clear_4 (fun r1 μ2 h => ?_)
  obtain ⟨rfl, h⟩ := h
  refine b_if_eq (t := 20) X dX7_clear_7 (by decide) (fun c => ?_) (fun c => ?_)
  · replace h := h.1 c
    refine b_ldc (v := ((-1000000002) : Int32)) X m_k_X7_89 dX7_clear_20 ?_
    exact hret _ _ _ _ ⟨rfl, h⟩ dX7_clear_22
  · replace h := h.2 c
    refine b_iload_n X dX7_clear_10 rfl 2 rfl ?_
    refine b_iconst (v := (nI 0)) X dX7_clear_11 (by decide) ?_
    refine b_bipush (v := (nI 100)) X dX7_clear_12 (by decide) ?_
    refine bSi (st := []) (nA := 3) X (c_X7_in l D C ad a2 (nI 0) (nI 100) μ _ h) gw_X7_85 hd_X7_in rfl rfl ⟨Nat.le_of_ble_eq_true rfl, Nat.le_of_ble_eq_true rfl⟩ rfl rfl (Nat.le_of_ble_eq_true rfl) dX7_clear_14 (fun r3 μ4 h => ?_)
    obtain ⟨rfl, h⟩ := h
    refine b_if_ne (t := 23) X dX7_clear_17 (by decide) (fun c => ?_) (fun c => ?_)
    · replace h := h.1 c
      refine b_ldc2 (v := (lN 1000000000)) X m_K_X7_325 dX7_clear_23 ?_
      refine b_lstore_n (lv' := [(3, .long (lN 1000000000)), (0, .ref (ad 0)), (1, .int a1), (2, .int a2)]) X dX7_clear_26 rfl (by decide) rfl ?_
      refine b_iconst (v := (nI 0)) X dX7_clear_27 (by decide) ?_
      refine b_istore (lv' := [(5, .int (nI 0)), (3, .long (lN 1000000000)), (0, .ref (ad 0)), (1, .int a1), (2, .int a2)]) X dX7_clear_28 (by decide) rfl ?_
      refine b_sub (lv' := [(1, .int a1), (2, .int a2), (3, .long (lN 1000000000)), (5, .int (nI 0))]) [3, 4, 1, 0] rfl ?_
      exact B30 (lN 1000000000) (nI 0) h
    · replace h := h.2 c
      refine b_ldc (v := ((-1000000002) : Int32)) X m_k_X7_89 dX7_clear_20 ?_
      exact hret _ _ _ _ ⟨rfl, h⟩ dX7_clear_22
set_option maxHeartbeats 4000000 in
set_option maxRecDepth 100000 in
theorem c_X7_isSide (l : Launch) (D : va_G) (C : Nat → ClassId) (ad : Nat → Nat) (a0 : Int32) (μ : Mem) (Q : Int32 → Prop) (h : w_X7_isSide a0 μ Q) : Mi sM l yX7_isSide cX7_isSide 1 (some .boolean) rm_X7_isSide D C ad [.int a0] μ (fun r μ' => μ = μ' ∧ Q r) := by
  refine fm_z (by decide +kernel) sM_lt (Nat.le_of_ble_eq_true rfl) (fun K X hret => ?_)
  have X : CK sM D C ad K cX7_isSide 1 RX7 := X
  refine b_lv (lv' := [(0, .int a0)]) rfl ?_
  unfold w_X7_isSide at h
  refine b_iload_n X dX7_isSide_0 rfl 0 rfl ?_
  refine b_iconst (v := (nI 0)) X dX7_isSide_1 (by decide) ?_
  refine b_iconst (v := (nI 1)) X dX7_isSide_2 (by decide) ?_
  refine bSi (st := []) (nA := 3) X (c_X7_in l D C ad a0 (nI 0) (nI 1) μ _ h) gw_X7_85 hd_X7_in rfl rfl ⟨Nat.le_of_ble_eq_true rfl, Nat.le_of_ble_eq_true rfl⟩ rfl rfl (Nat.le_of_ble_eq_true rfl) dX7_isSide_3 (fun r1 μ2 h => ?_)
  obtain ⟨rfl, h⟩ := h
  exact hret _ _ _ _ ⟨h.1, rfl, h.2⟩ dX7_isSide_6
set_option maxHeartbeats 4000000 in
set_option maxRecDepth 100000 in
theorem c_X7_got (l : Launch) (D : va_G) (C : Nat → ClassId) (ad : Nat → Nat) (a1 : Int32) (a2 : Int32) (a3 : Int32) (μ : Mem) (Q : Int32 → Mem → Prop) (h : w_X7_got a1 a2 a3 μ Q) : Mi sM l yX7_got cX7_got 4 (some .int) rm_X7_got D C ad [.ref (ad 0), .int a1, .int a2, .int a3] μ Q := by
  refine fm_i (by decide +kernel) sM_lt (Nat.le_of_ble_eq_true rfl) (fun K X hret => ?_)
  have X : CK sM D C ad K cX7_got 4 RX7 := X
  refine b_lv (lv' := [(0, .ref (ad 0)), (1, .int a1), (2, .int a2), (3, .int a3)]) rfl ?_
  unfold w_X7_got at h
  refine b_aload_n X dX7_got_0 rfl 0 rfl ?_
  refine b_iload_n X dX7_got_1 rfl 1 rfl ?_
  refine bVi (st := []) (nA := 1) X (c_X7_isPost l D C ad a1 μ _ h) kM_0 (by decide) (enc_7 kM_0) rfl gw_X7_216 ⟨rfl, hd_X7_isPost⟩ rfl rfl ⟨Nat.le_of_ble_eq_true rfl, Nat.le_of_ble_eq_true rfl⟩ rfl rfl (Nat.le_of_ble_eq_true rfl) dX7_got_2 (fun r1 μ2 h => ?_)
  obtain ⟨rfl, h⟩ := h
  refine b_if_ne (t := 11) X dX7_got_5 (by decide) (fun c => ?_) (fun c => ?_)
  · replace h := h.1 c
    refine b_iload_n X dX7_got_11 rfl 2 rfl ?_
    refine bSi (st := []) (nA := 1) X (c_X7_isSide l D C ad a2 μ _ h) gw_X7_329 hd_X7_isSide rfl rfl ⟨Nat.le_of_ble_eq_true rfl, Nat.le_of_ble_eq_true rfl⟩ rfl rfl (Nat.le_of_ble_eq_true rfl) dX7_got_12 (fun r3 μ4 h => ?_)
    obtain ⟨rfl, h⟩ := h
    refine b_if_eq (t := 28) X dX7_got_15 (by decide) (fun c => ?_) (fun c => ?_)
    · replace h := h.1 c
      refine b_ldc (v := ((-1000000002) : Int32)) X m_k_X7_89 dX7_got_28 ?_
      exact hret _ _ _ _ h dX7_got_30
    · replace h := h.2 c
      refine b_iload_n X dX7_got_18 rfl 3 rfl ?_
      refine b_iconst (v := (nI 0)) X dX7_got_19 (by decide) ?_
      refine b_bipush (v := (nI 40)) X dX7_got_20 (by decide) ?_
      refine bSi (st := []) (nA := 3) X (c_X7_in l D C ad a3 (nI 0) (nI 40) μ _ h) gw_X7_85 hd_X7_in rfl rfl ⟨Nat.le_of_ble_eq_true rfl, Nat.le_of_ble_eq_true rfl⟩ rfl rfl (Nat.le_of_ble_eq_true rfl) dX7_got_22 (fun r5 μ6 h => ?_)
      obtain ⟨rfl, h⟩ := h
      refine b_if_ne (t := 31) X dX7_got_25 (by decide) (fun c => ?_) (fun c => ?_)
      · replace h := h.1 c
        refine b_aload_n X dX7_got_31 rfl 0 rfl ?_
        refine g_7_37 X kM_0 m_f_X7_188 dX7_got_32 ?_
        refine b_bipush (v := (nI 6)) X dX7_got_35 (by decide) ?_
        refine b_icmp_ne (t := 43) X dX7_got_37 (by decide) (fun c => ?_) (fun c => ?_)
        · replace h := h.1 c
          refine b_aload_n X dX7_got_43 rfl 0 rfl ?_
          refine g_7_38 X kM_0 m_f_X7_68 dX7_got_44 ?_
          refine b_iconst (v := (nI 3)) X dX7_got_47 (by decide) ?_
          refine b_aload_n X dX7_got_48 rfl 0 rfl ?_
          refine g_7_37 X kM_0 m_f_X7_188 dX7_got_49 ?_
          refine b_imul X dX7_got_52 ?_
          refine b_iload_n X dX7_got_53 rfl 1 rfl ?_
          have hz := h.1
          replace h := h.2
          refine b_iast X kM_19 nM_19 hz dX7_got_54 (fun μ7 eμ7 => ?_)
          clear hz
          replace h := h μ7 eμ7
          refine b_aload_n X dX7_got_55 rfl 0 rfl ?_
          refine g_7_38 X kM_0 m_f_X7_68 dX7_got_56 ?_
          refine b_iconst (v := (nI 3)) X dX7_got_59 (by decide) ?_
          refine b_aload_n X dX7_got_60 rfl 0 rfl ?_
          refine g_7_37 X kM_0 m_f_X7_188 dX7_got_61 ?_
          refine b_imul X dX7_got_64 ?_
          refine b_iconst (v := (nI 1)) X dX7_got_65 (by decide) ?_
          refine b_iadd X dX7_got_66 ?_
          refine b_iload_n X dX7_got_67 rfl 2 rfl ?_
          have hz := h.1
          replace h := h.2
          refine b_iast X kM_19 nM_19 hz dX7_got_68 (fun μ8 eμ8 => ?_)
          clear hz
          replace h := h μ8 eμ8
          refine b_aload_n X dX7_got_69 rfl 0 rfl ?_
          refine g_7_38 X kM_0 m_f_X7_68 dX7_got_70 ?_
          refine b_iconst (v := (nI 3)) X dX7_got_73 (by decide) ?_
          refine b_aload_n X dX7_got_74 rfl 0 rfl ?_
          refine g_7_37 X kM_0 m_f_X7_188 dX7_got_75 ?_
          refine b_imul X dX7_got_78 ?_
          refine b_iconst (v := (nI 2)) X dX7_got_79 (by decide) ?_
          refine b_iadd X dX7_got_80 ?_
          refine b_iload_n X dX7_got_81 rfl 3 rfl ?_
          have hz := h.1
          replace h := h.2
          refine b_iast X kM_19 nM_19 hz dX7_got_82 (fun μ9 eμ9 => ?_)
          clear hz
          replace h := h μ9 eμ9
          refine b_aload_n X dX7_got_83 rfl 0 rfl ?_
          refine b_dup X dX7_got_84 rfl ?_
          refine g_7_37 X kM_0 m_f_X7_188 dX7_got_85 ?_
          refine b_iconst (v := (nI 1)) X dX7_got_88 (by decide) ?_
          refine b_iadd X dX7_got_89 ?_
          refine p_7_37 X kM_0 m_f_X7_188 dX7_got_90 (fun μ10 eμ10 => ?_)
          replace h := h μ10 eμ10
          refine b_aload_n X dX7_got_93 rfl 0 rfl ?_
          refine g_7_37 X kM_0 m_f_X7_188 dX7_got_94 ?_
          exact hret _ _ _ _ h dX7_got_97
        · replace h := h.2 c
          refine b_ldc (v := ((-1000000004) : Int32)) X m_k_X7_93 dX7_got_40 ?_
          exact hret _ _ _ _ h dX7_got_42
      · replace h := h.2 c
        refine b_ldc (v := ((-1000000002) : Int32)) X m_k_X7_89 dX7_got_28 ?_
        exact hret _ _ _ _ h dX7_got_30
  · replace h := h.2 c
    refine b_ldc (v := ((-1000000001) : Int32)) X m_k_X7_219 dX7_got_8 ?_
    exact hret _ _ _ _ h dX7_got_10
set_option maxHeartbeats 4000000 in
set_option maxRecDepth 100000 in
theorem c_X7_tookOf (l : Launch) (D : va_G) (C : Nat → ClassId) (ad : Nat → Nat) (a1 : Int32) (a2 : Int32) (a3 : Int32) (μ : Mem) (Q : Int32 → Mem → Prop) (h : w_X7_tookOf a1 a2 a3 μ Q) : Mi sM l yX7_tookOf cX7_tookOf 4 (some .int) rm_X7_tookOf D C ad [.ref (ad 0), .int a1, .int a2, .int a3] μ Q := by
  refine fm_i (by decide +kernel) sM_lt (Nat.le_of_ble_eq_true rfl) (fun K X hret => ?_)
  have X : CK sM D C ad K cX7_tookOf 4 RX7 := X
  refine b_lv (lv' := [(0, .ref (ad 0)), (1, .int a1), (2, .int a2), (3, .int a3)]) rfl ?_
  unfold w_X7_tookOf at h
  refine b_aload_n X dX7_tookOf_0 rfl 0 rfl ?_
  refine b_aload_n X dX7_tookOf_1 rfl 0 rfl ?_
  refine g_7_29 X kM_0 m_f_X7_53 dX7_tookOf_2 ?_
  refine b_iload_n X dX7_tookOf_5 rfl 2 rfl ?_
  refine b_iload_n X dX7_tookOf_6 rfl 3 rfl ?_
  refine b_aload_n X dX7_tookOf_7 rfl 0 rfl ?_
  refine b_aload_n X dX7_tookOf_8 rfl 0 rfl ?_
  refine g_7_29 X kM_0 m_f_X7_53 dX7_tookOf_9 ?_
  refine bVi (st := [.int a3, .int a2, .ref (ad 14), .ref (ad 0)]) (nA := 1) X (c_X7_hanging l D C ad 14 kM_14 nM_14 μ _ h) kM_0 (by decide) (enc_7 kM_0) rfl gw_X7_209 ⟨rfl, hd_X7_hanging⟩ rfl rfl ⟨Nat.le_of_ble_eq_true rfl, Nat.le_of_ble_eq_true rfl⟩ rfl rfl (Nat.le_of_ble_eq_true rfl) dX7_tookOf_12 (fun r1 μ2 h => ?_)
  obtain ⟨rfl, h⟩ := h
  refine bVi (st := []) (nA := 4) X (c_X7_leads l D C ad 14 kM_14 nM_14 a2 a3 r1 μ _ h) kM_0 (by decide) (enc_7 kM_0) rfl gw_X7_249 ⟨rfl, hd_X7_leads⟩ rfl rfl ⟨Nat.le_of_ble_eq_true rfl, Nat.le_of_ble_eq_true rfl⟩ rfl rfl (Nat.le_of_ble_eq_true rfl) dX7_tookOf_15 (fun r3 μ4 h => ?_)
  refine b_pop X dX7_tookOf_18 rfl ?_
  refine b_aload_n X dX7_tookOf_19 rfl 0 rfl ?_
  refine g_7_31 X kM_0 m_f_X7_59 dX7_tookOf_20 ?_
  refine b_iload_n X dX7_tookOf_23 rfl 1 rfl ?_
  have hz := h.1
  replace h := h.2
  refine b_iald X kM_16 nM_16 hz dX7_tookOf_24 ?_
  clear hz
  exact hret _ _ _ _ h dX7_tookOf_25
set_option maxHeartbeats 4000000 in
set_option maxRecDepth 100000 in
theorem c_X7_isSo (l : Launch) (D : va_G) (C : Nat → ClassId) (ad : Nat → Nat) (a1 : Int32) (μ : Mem) (Q : Int32 → Mem → Prop) (h : w_X7_isSo a1 μ Q) : Mi sM l yX7_isSo cX7_isSo 4 (some .boolean) rm_X7_isSo D C ad [.ref (ad 0), .int a1] μ Q := by
  refine fm_z (by decide +kernel) sM_lt (Nat.le_of_ble_eq_true rfl) (fun K X hret => ?_)
  have X : CK sM D C ad K cX7_isSo 4 RX7 := X
  refine b_lv (lv' := [(0, .ref (ad 0)), (1, .int a1)]) rfl ?_
  unfold w_X7_isSo at h
  have B4 : ∀ (v2 : Int32) (v3 : Int32) (μ : Mem), w_X7_isSo_4 a1 v2 v3 μ Q → WB sM l D C ad rm_X7_isSo K 4 μ 4 [(0, .ref (ad 0)), (1, .int a1), (2, .int v2), (3, .int v3)] [] := by
    intro v2 v3 μ h
    obtain ⟨Y4, eY⟩ : ∃ Y : Int32 → Int32 → Mem → Prop, Y = fun (v2 : Int32) (v3 : Int32) (μ : Mem) => WB sM l D C ad rm_X7_isSo K 4 μ 4 [(0, .ref (ad 0)), (1, .int a1), (2, .int v2), (3, .int v3)] [] := ⟨_, rfl⟩
    have B4 : Y4 v2 v3 μ := by
      unfold w_X7_isSo_4 at h
      refine h Y4 ?_
      clear h
      intro v2 v3 μ h
      unfold s_X7_isSo_4 at h
      rw [eY]
      show WB sM l D C ad rm_X7_isSo K 4 μ 4 [(0, .ref (ad 0)), (1, .int a1), (2, .int v2), (3, .int v3)] []
      have T4 : ∀ (v2 : Int32) (v3 : Int32) (μ : Mem), Y4 v2 v3 μ → WB sM l D C ad rm_X7_isSo K 4 μ 4 [(0, .ref (ad 0)), (1, .int a1), (2, .int v2), (3, .int v3)] [] := by
        intro v2 v3 μ h
        rw [eY] at h
        exact h
      clear eY
      have B57 : ∀ (v3 : Int32) (s1 : Int32) (μ : Mem), w_X7_isSo_57 a1 Y4 v3 s1 μ Q → WB sM l D C ad rm_X7_isSo K 4 μ 57 [(0, .ref (ad 0)), (1, .int a1), (3, .int v3)] [.int s1] := by
        intro v3 s1 μ h
        unfold w_X7_isSo_57 at h
        refine b_istore_n (lv' := [(2, .int s1), (0, .ref (ad 0)), (1, .int a1), (3, .int v3)]) X dX7_isSo_57 rfl (by decide) rfl ?_
        obtain ⟨x3, ex3⟩ : ∃ y : Int32, y = v3 + (nI 1) := ⟨_, rfl⟩
        replace h := h x3 ex3
        refine b_iinc (x := x3) (lv' := [(3, .int x3), (2, .int s1), (0, .ref (ad 0)), (1, .int a1)]) (q := 3) X dX7_isSo_58 rfl (by rw [ex3]; rfl) (by decide) rfl ?_
        refine b_goto (t := 4) X dX7_isSo_61 (by decide) ?_
        refine b_sub (lv' := [(0, .ref (ad 0)), (1, .int a1), (2, .int s1), (3, .int x3)]) [2, 3, 1, 0] rfl ?_
        exact T4 s1 x3 μ h
      have B56 : ∀ (v3 : Int32) (μ : Mem), w_X7_isSo_56 a1 Y4 v3 μ Q → WB sM l D C ad rm_X7_isSo K 4 μ 56 [(0, .ref (ad 0)), (1, .int a1), (3, .int v3)] [] := by
        intro v3 μ h
        unfold w_X7_isSo_56 at h
        refine b_iconst (v := (nI 0)) X dX7_isSo_56 (by decide) ?_
        refine b_sub (lv' := [(0, .ref (ad 0)), (1, .int a1), (3, .int v3)]) [0, 1, 2] rfl ?_
        exact B57 v3 (nI 0) μ h
      refine b_iload_n X dX7_isSo_4 rfl 3 rfl ?_
      refine b_aload_n X dX7_isSo_5 rfl 0 rfl ?_
      refine g_7_37 X kM_0 m_f_X7_188 dX7_isSo_6 ?_
      refine b_icmp_ge (t := 64) X dX7_isSo_9 (by decide) (fun c => ?_) (fun c => ?_)
      · replace h := h.1 c
        refine b_iload_n X dX7_isSo_64 rfl 2 rfl ?_
        exact hret _ _ _ _ ⟨h.1, h.2⟩ dX7_isSo_65
      · replace h := h.2 c
        refine b_iload_n X dX7_isSo_12 rfl 2 rfl ?_
        refine b_if_eq (t := 56) X dX7_isSo_13 (by decide) (fun c => ?_) (fun c => ?_)
        · replace h := h.1 c
          refine b_sub (lv' := [(0, .ref (ad 0)), (1, .int a1), (3, .int v3)]) [0, 1, 3] rfl ?_
          exact B56 v3 μ h
        · replace h := h.2 c
          refine b_aload_n X dX7_isSo_16 rfl 0 rfl ?_
          refine b_aload_n X dX7_isSo_17 rfl 0 rfl ?_
          refine g_7_38 X kM_0 m_f_X7_68 dX7_isSo_18 ?_
          refine b_iconst (v := (nI 3)) X dX7_isSo_21 (by decide) ?_
          refine b_iload_n X dX7_isSo_22 rfl 3 rfl ?_
          refine b_imul X dX7_isSo_23 ?_
          have hz := h.1
          replace h := h.2
          refine b_iald X kM_19 nM_19 hz dX7_isSo_24 ?_
          clear hz
          refine b_iload_n X dX7_isSo_25 rfl 1 rfl ?_
          refine b_aload_n X dX7_isSo_26 rfl 0 rfl ?_
          refine g_7_38 X kM_0 m_f_X7_68 dX7_isSo_27 ?_
          refine b_iconst (v := (nI 3)) X dX7_isSo_30 (by decide) ?_
          refine b_iload_n X dX7_isSo_31 rfl 3 rfl ?_
          refine b_imul X dX7_isSo_32 ?_
          refine b_iconst (v := (nI 1)) X dX7_isSo_33 (by decide) ?_
          refine b_iadd X dX7_isSo_34 ?_
          have hz := h.1
          replace h := h.2
          refine b_iald X kM_19 nM_19 hz dX7_isSo_35 ?_
          clear hz
          refine bVi (st := []) (nA := 3) X (c_X7_tookOf l D C ad (μ.1 19 (((nI 3) * v3)).toNatClampNeg) a1 (μ.1 19 ((((nI 3) * v3) + (nI 1))).toNatClampNeg) μ _ h) kM_0 (by decide) (enc_7 kM_0) rfl gw_X7_332 ⟨rfl, hd_X7_tookOf⟩ rfl rfl ⟨Nat.le_of_ble_eq_true rfl, Nat.le_of_ble_eq_true rfl⟩ rfl rfl (Nat.le_of_ble_eq_true rfl) dX7_isSo_36 (fun r1 μ2 h => ?_)
          refine b_aload_n X dX7_isSo_39 rfl 0 rfl ?_
          refine g_7_38 X kM_0 m_f_X7_68 dX7_isSo_40 ?_
          refine b_iconst (v := (nI 3)) X dX7_isSo_43 (by decide) ?_
          refine b_iload_n X dX7_isSo_44 rfl 3 rfl ?_
          refine b_imul X dX7_isSo_45 ?_
          refine b_iconst (v := (nI 2)) X dX7_isSo_46 (by decide) ?_
          refine b_iadd X dX7_isSo_47 ?_
          have hz := h.1
          replace h := h.2
          refine b_iald X kM_19 nM_19 hz dX7_isSo_48 ?_
          clear hz
          refine b_icmp_ne (t := 56) X dX7_isSo_49 (by decide) (fun c => ?_) (fun c => ?_)
          · replace h := h.1 c
            refine b_sub (lv' := [(0, .ref (ad 0)), (1, .int a1), (3, .int v3)]) [0, 1, 3] rfl ?_
            exact B56 v3 μ2 h
          · replace h := h.2 c
            refine b_iconst (v := (nI 1)) X dX7_isSo_52 (by decide) ?_
            refine b_goto (t := 57) X dX7_isSo_53 (by decide) ?_
            refine b_sub (lv' := [(0, .ref (ad 0)), (1, .int a1), (3, .int v3)]) [0, 1, 3] rfl ?_
            exact B57 v3 (nI 1) μ2 h
    rw [eY] at B4
    exact B4
  refine b_iconst (v := (nI 1)) X dX7_isSo_0 (by decide) ?_
  refine b_istore_n (lv' := [(2, .int (nI 1)), (0, .ref (ad 0)), (1, .int a1)]) X dX7_isSo_1 rfl (by decide) rfl ?_
  refine b_iconst (v := (nI 0)) X dX7_isSo_2 (by decide) ?_
  refine b_istore_n (lv' := [(3, .int (nI 0)), (2, .int (nI 1)), (0, .ref (ad 0)), (1, .int a1)]) X dX7_isSo_3 rfl (by decide) rfl ?_
  refine b_sub (lv' := [(0, .ref (ad 0)), (1, .int a1), (2, .int (nI 1)), (3, .int (nI 0))]) [2, 3, 1, 0] rfl ?_
  exact B4 (nI 1) (nI 0) μ h
set_option maxHeartbeats 4000000 in
set_option maxRecDepth 100000 in
theorem c_X7_thick (l : Launch) (D : va_G) (C : Nat → ClassId) (ad : Nat → Nat) (a1 : Int32) (μ : Mem) (Q : Int32 → Mem → Prop) (h : w_X7_thick a1 μ Q) : Mi sM l yX7_thick cX7_thick 7 (some .int) rm_X7_thick D C ad [.ref (ad 0), .int a1] μ Q := by
  refine fm_i (by decide +kernel) sM_lt (Nat.le_of_ble_eq_true rfl) (fun K X hret => ?_)
  have X : CK sM D C ad K cX7_thick 7 RX7 := X
  refine b_lv (lv' := [(0, .ref (ad 0)), (1, .int a1)]) rfl ?_
  unfold w_X7_thick at h
  have B28 : ∀ (v3 : Int32) (v4 : Int32) (v5 : Int32) (v6 : Int32) (μ : Mem), w_X7_thick_28 a1 v3 v4 v5 v6 μ Q → WB sM l D C ad rm_X7_thick K 7 μ 28 [(0, .ref (ad 0)), (1, .int a1), (3, .int v3), (4, .int v4), (5, .int v5), (6, .int v6)] [] := by
    intro v3 v4 v5 v6 μ h
    obtain ⟨Y28, eY⟩ : ∃ Y : Int32 → Int32 → Int32 → Int32 → Mem → Prop, Y = fun (v3 : Int32) (v4 : Int32) (v5 : Int32) (v6 : Int32) (μ : Mem) => WB sM l D C ad rm_X7_thick K 7 μ 28 [(0, .ref (ad 0)), (1, .int a1), (3, .int v3), (4, .int v4), (5, .int v5), (6, .int v6)] [] := ⟨_, rfl⟩
    have B28 : Y28 v3 v4 v5 v6 μ := by
      unfold w_X7_thick_28 at h
      refine h Y28 ?_
      clear h
      intro v3 v4 v5 v6 μ h
      unfold s_X7_thick_28 at h
      rw [eY]
      show WB sM l D C ad rm_X7_thick K 7 μ 28 [(0, .ref (ad 0)), (1, .int a1), (3, .int v3), (4, .int v4), (5, .int v5), (6, .int v6)] []
      have T28 : ∀ (v3 : Int32) (v4 : Int32) (v5 : Int32) (v6 : Int32) (μ : Mem), Y28 v3 v4 v5 v6 μ → WB sM l D C ad rm_X7_thick K 7 μ 28 [(0, .ref (ad 0)), (1, .int a1), (3, .int v3), (4, .int v4), (5, .int v5), (6, .int v6)] [] := by
        intro v3 v4 v5 v6 μ h
        rw [eY] at h
        exact h
      clear eY
      have B72 : ∀ (v3 : Int32) (v4 : Int32) (v5 : Int32) (μ : Mem), w_X7_thick_72 a1 v3 v4 v5 μ Q → WB sM l D C ad rm_X7_thick K 7 μ 72 [(1, .int a1), (3, .int v3), (4, .int v4), (5, .int v5)] [] := by
        intro v3 v4 v5 μ h
        unfold w_X7_thick_72 at h
        refine b_iload_n X dX7_thick_72 rfl 0 rfl ?_
        refine b_if_ne (t := 80) X dX7_thick_73 (by decide) (fun c => ?_) (fun c => ?_)
        · replace h := h.1 c
          refine b_iload_n X dX7_thick_80 rfl 0 rfl ?_
          refine b_iconst (v := (nI 1)) X dX7_thick_81 (by decide) ?_
          refine b_icmp_ne (t := 90) X dX7_thick_82 (by decide) (fun c => ?_) (fun c => ?_)
          · replace h := h.1 c
            refine b_iload X dX7_thick_90 3 rfl ?_
            exact hret _ _ _ _ h dX7_thick_92
          · replace h := h.2 c
            refine b_iload X dX7_thick_85 2 rfl ?_
            refine b_goto (t := 92) X dX7_thick_87 (by decide) ?_
            exact hret _ _ _ _ h dX7_thick_92
        · replace h := h.2 c
          refine b_iload_n X dX7_thick_76 rfl 1 rfl ?_
          refine b_goto (t := 92) X dX7_thick_77 (by decide) ?_
          exact hret _ _ _ _ h dX7_thick_92
      have B66 : ∀ (v3 : Int32) (v4 : Int32) (v5 : Int32) (v6 : Int32) (μ : Mem), w_X7_thick_66 a1 Y28 v3 v4 v5 v6 μ Q → WB sM l D C ad rm_X7_thick K 7 μ 66 [(0, .ref (ad 0)), (1, .int a1), (3, .int v3), (4, .int v4), (5, .int v5), (6, .int v6)] [] := by
        intro v3 v4 v5 v6 μ h
        unfold w_X7_thick_66 at h
        obtain ⟨x8, ex8⟩ : ∃ y : Int32, y = v6 + (nI 1) := ⟨_, rfl⟩
        replace h := h x8 ex8
        refine b_iinc (x := x8) (lv' := [(6, .int x8), (0, .ref (ad 0)), (1, .int a1), (3, .int v3), (4, .int v4), (5, .int v5)]) (q := 5) X dX7_thick_66 rfl (by rw [ex8]; rfl) (by decide) rfl ?_
        refine b_goto (t := 28) X dX7_thick_69 (by decide) ?_
        refine b_sub (lv' := [(0, .ref (ad 0)), (1, .int a1), (3, .int v3), (4, .int v4), (5, .int v5), (6, .int x8)]) [1, 2, 3, 4, 5, 0] rfl ?_
        exact T28 v3 v4 v5 x8 μ h
      have B60 : ∀ (v3 : Int32) (v6 : Int32) (s1 : Int32) (μ : Mem), w_X7_thick_60 a1 Y28 v3 v6 s1 μ Q → WB sM l D C ad rm_X7_thick K 7 μ 60 [(0, .ref (ad 0)), (1, .int a1), (3, .int v3), (6, .int v6)] [.int s1] := by
        intro v3 v6 s1 μ h
        unfold w_X7_thick_60 at h
        refine b_istore (lv' := [(4, .int s1), (0, .ref (ad 0)), (1, .int a1), (3, .int v3), (6, .int v6)]) X dX7_thick_60 (by decide) rfl ?_
        refine b_iload X dX7_thick_62 4 rfl ?_
        refine b_istore (lv' := [(5, .int v6), (4, .int s1), (0, .ref (ad 0)), (1, .int a1), (3, .int v3), (6, .int v6)]) X dX7_thick_64 (by decide) rfl ?_
        refine b_sub (lv' := [(0, .ref (ad 0)), (1, .int a1), (3, .int v3), (4, .int s1), (5, .int v6), (6, .int v6)]) [2, 3, 4, 1, 0, 5] rfl ?_
        exact B66 v3 s1 v6 v6 μ h
      refine b_iload X dX7_thick_28 5 rfl ?_
      refine b_bipush (v := (nI 40)) X dX7_thick_30 (by decide) ?_
      refine b_icmp_gt (t := 72) X dX7_thick_32 (by decide) (fun c => ?_) (fun c => ?_)
      · replace h := h.1 c
        refine b_sub (lv' := [(1, .int a1), (3, .int v3), (4, .int v4), (5, .int v5)]) [1, 2, 3, 4] rfl ?_
        exact B72 v3 v4 v5 μ h
      · replace h := h.2 c
        refine b_aload_n X dX7_thick_35 rfl 0 rfl ?_
        refine b_iload X dX7_thick_36 5 rfl ?_
        refine bVi (st := []) (nA := 1) X (c_X7_isSo l D C ad v6 μ _ h) kM_0 (by decide) (enc_7 kM_0) rfl gw_X7_335 ⟨rfl, hd_X7_isSo⟩ rfl rfl ⟨Nat.le_of_ble_eq_true rfl, Nat.le_of_ble_eq_true rfl⟩ rfl rfl (Nat.le_of_ble_eq_true rfl) dX7_thick_38 (fun r5 μ6 h => ?_)
        refine b_if_eq (t := 66) X dX7_thick_41 (by decide) (fun c => ?_) (fun c => ?_)
        · replace h := h.1 c
          refine b_sub (lv' := [(0, .ref (ad 0)), (1, .int a1), (3, .int v3), (4, .int v4), (5, .int v5), (6, .int v6)]) [0, 1, 2, 3, 4, 5] rfl ?_
          exact B66 v3 v4 v5 v6 μ6 h
        · replace h := h.2 c
          obtain ⟨x7, ex7⟩ : ∃ y : Int32, y = v3 + (nI 1) := ⟨_, rfl⟩
          replace h := h x7 ex7
          refine b_iinc (x := x7) (lv' := [(3, .int x7), (0, .ref (ad 0)), (1, .int a1), (4, .int v4), (5, .int v5), (6, .int v6)]) (q := 2) X dX7_thick_44 rfl (by rw [ex7]; rfl) (by decide) rfl ?_
          refine b_iload X dX7_thick_47 3 rfl ?_
          refine b_iconst (v := ((-1) : Int32)) X dX7_thick_49 (by decide) ?_
          refine b_icmp_ne (t := 58) X dX7_thick_50 (by decide) (fun c => ?_) (fun c => ?_)
          · replace h := h.1 c
            refine b_iload X dX7_thick_58 3 rfl ?_
            refine b_sub (lv' := [(0, .ref (ad 0)), (1, .int a1), (3, .int x7), (6, .int v6)]) [1, 2, 0, 5] rfl ?_
            exact B60 x7 v6 v4 μ6 h
          · replace h := h.2 c
            refine b_iload X dX7_thick_53 5 rfl ?_
            refine b_goto (t := 60) X dX7_thick_55 (by decide) ?_
            refine b_sub (lv' := [(0, .ref (ad 0)), (1, .int a1), (3, .int x7), (6, .int v6)]) [1, 2, 0, 5] rfl ?_
            exact B60 x7 v6 v6 μ6 h
    rw [eY] at B28
    exact B28
  refine b_aload_n X dX7_thick_0 rfl 0 rfl ?_
  refine b_iload_n X dX7_thick_1 rfl 1 rfl ?_
  refine b_iconst (v := (nI 0)) X dX7_thick_2 (by decide) ?_
  refine b_iconst (v := (nI 2)) X dX7_thick_3 (by decide) ?_
  refine bSi (st := [.ref (ad 0)]) (nA := 3) X (c_X7_in l D C ad a1 (nI 0) (nI 2) μ _ h) gw_X7_85 hd_X7_in rfl rfl ⟨Nat.le_of_ble_eq_true rfl, Nat.le_of_ble_eq_true rfl⟩ rfl rfl (Nat.le_of_ble_eq_true rfl) dX7_thick_4 (fun r1 μ2 h => ?_)
  obtain ⟨rfl, h⟩ := h
  refine bVi (st := []) (nA := 1) X (c_X7_need l D C ad r1 μ _ h) kM_0 (by decide) (enc_7 kM_0) rfl gw_X7_273 ⟨rfl, hd_X7_need⟩ rfl rfl ⟨Nat.le_of_ble_eq_true rfl, Nat.le_of_ble_eq_true rfl⟩ rfl rfl (Nat.le_of_ble_eq_true rfl) dX7_thick_7 (fun r3 μ4 h => ?_)
  obtain ⟨rfl, h⟩ := h
  refine b_istore_n (lv' := [(2, .int r3), (0, .ref (ad 0)), (1, .int a1)]) X dX7_thick_10 rfl (by decide) rfl ?_
  refine b_iload_n X dX7_thick_11 rfl 0 rfl ?_
  refine b_if_ge (t := 17) X dX7_thick_12 (by decide) (fun c => ?_) (fun c => ?_)
  · replace h := h.1 c
    refine b_iconst (v := (nI 0)) X dX7_thick_17 (by decide) ?_
    refine b_istore_n (lv' := [(3, .int (nI 0)), (2, .int r3), (0, .ref (ad 0)), (1, .int a1)]) X dX7_thick_18 rfl (by decide) rfl ?_
    refine b_iconst (v := ((-1) : Int32)) X dX7_thick_19 (by decide) ?_
    refine b_istore (lv' := [(4, .int ((-1) : Int32)), (3, .int (nI 0)), (2, .int r3), (0, .ref (ad 0)), (1, .int a1)]) X dX7_thick_20 (by decide) rfl ?_
    refine b_iconst (v := ((-1) : Int32)) X dX7_thick_22 (by decide) ?_
    refine b_istore (lv' := [(5, .int ((-1) : Int32)), (4, .int ((-1) : Int32)), (3, .int (nI 0)), (2, .int r3), (0, .ref (ad 0)), (1, .int a1)]) X dX7_thick_23 (by decide) rfl ?_
    refine b_iconst (v := (nI 0)) X dX7_thick_25 (by decide) ?_
    refine b_istore (lv' := [(6, .int (nI 0)), (5, .int ((-1) : Int32)), (4, .int ((-1) : Int32)), (3, .int (nI 0)), (2, .int r3), (0, .ref (ad 0)), (1, .int a1)]) X dX7_thick_26 (by decide) rfl ?_
    refine b_sub (lv' := [(0, .ref (ad 0)), (1, .int a1), (3, .int (nI 0)), (4, .int ((-1) : Int32)), (5, .int ((-1) : Int32)), (6, .int (nI 0))]) [5, 6, 3, 2, 1, 0] rfl ?_
    exact B28 (nI 0) ((-1) : Int32) ((-1) : Int32) (nI 0) μ h
  · replace h := h.2 c
    refine b_iload_n X dX7_thick_15 rfl 0 rfl ?_
    exact hret _ _ _ _ h dX7_thick_16
set_option maxHeartbeats 4000000 in
set_option maxRecDepth 100000 in
theorem c_X7_greatest (l : Launch) (D : va_G) (C : Nat → ClassId) (ad : Nat → Nat) (a1 : Int32) (a2 : Int32) (μ : Mem) (Q : Int32 → Mem → Prop) (h : w_X7_greatest a1 a2 μ Q) : Mi sM l yX7_greatest cX7_greatest 7 (some .int) rm_X7_greatest D C ad [.ref (ad 0), .int a1, .int a2] μ Q := by
  refine fm_i (by decide +kernel) sM_lt (Nat.le_of_ble_eq_true rfl) (fun K X hret => ?_)
  have X : CK sM D C ad K cX7_greatest 7 RX7 := X
  refine b_lv (lv' := [(0, .ref (ad 0)), (1, .int a1), (2, .int a2)]) rfl ?_
  unfold w_X7_greatest at h
  have B5 : ∀ (v3 : Int32) (v4 : Int32) (μ : Mem), w_X7_greatest_5 a1 a2 v3 v4 μ Q → WB sM l D C ad rm_X7_greatest K 7 μ 5 [(0, .ref (ad 0)), (1, .int a1), (2, .int a2), (3, .int v3), (4, .int v4)] [] := by
    intro v3 v4 μ h
    obtain ⟨Y5, eY⟩ : ∃ Y : Int32 → Int32 → Mem → Prop, Y = fun (v3 : Int32) (v4 : Int32) (μ : Mem) => WB sM l D C ad rm_X7_greatest K 7 μ 5 [(0, .ref (ad 0)), (1, .int a1), (2, .int a2), (3, .int v3), (4, .int v4)] [] := ⟨_, rfl⟩
    have B5 : Y5 v3 v4 μ := by
      unfold w_X7_greatest_5 at h
      refine h Y5 ?_
      clear h
      intro v3 v4 μ h
      unfold s_X7_greatest_5 at h
      rw [eY]
      show WB sM l D C ad rm_X7_greatest K 7 μ 5 [(0, .ref (ad 0)), (1, .int a1), (2, .int a2), (3, .int v3), (4, .int v4)] []
      have T5 : ∀ (v3 : Int32) (v4 : Int32) (μ : Mem), Y5 v3 v4 μ → WB sM l D C ad rm_X7_greatest K 7 μ 5 [(0, .ref (ad 0)), (1, .int a1), (2, .int a2), (3, .int v3), (4, .int v4)] [] := by
        intro v3 v4 μ h
        rw [eY] at h
        exact h
      clear eY
      have B18 : ∀ (v3 : Int32) (v4 : Int32) (v5 : Int32) (v6 : Int32) (μ : Mem), w_X7_greatest_18 a1 a2 Y5 v3 v4 v5 v6 μ Q → WB sM l D C ad rm_X7_greatest K 7 μ 18 [(0, .ref (ad 0)), (1, .int a1), (2, .int a2), (3, .int v3), (4, .int v4), (5, .int v5), (6, .int v6)] [] := by
        intro v3 v4 v5 v6 μ h
        obtain ⟨Y18, eY⟩ : ∃ Y : Int32 → Int32 → Mem → Prop, Y = fun (v5 : Int32) (v6 : Int32) (μ : Mem) => WB sM l D C ad rm_X7_greatest K 7 μ 18 [(0, .ref (ad 0)), (1, .int a1), (2, .int a2), (3, .int v3), (4, .int v4), (5, .int v5), (6, .int v6)] [] := ⟨_, rfl⟩
        have B18 : Y18 v5 v6 μ := by
          unfold w_X7_greatest_18 at h
          refine h Y18 ?_
          clear h
          intro v5 v6 μ h
          unfold s_X7_greatest_18 at h
          rw [eY]
          show WB sM l D C ad rm_X7_greatest K 7 μ 18 [(0, .ref (ad 0)), (1, .int a1), (2, .int a2), (3, .int v3), (4, .int v4), (5, .int v5), (6, .int v6)] []
          have T18 : ∀ (v5 : Int32) (v6 : Int32) (μ : Mem), Y18 v5 v6 μ → WB sM l D C ad rm_X7_greatest K 7 μ 18 [(0, .ref (ad 0)), (1, .int a1), (2, .int a2), (3, .int v3), (4, .int v4), (5, .int v5), (6, .int v6)] [] := by
            intro v5 v6 μ h
            rw [eY] at h
            exact h
          clear eY
          have B63 : ∀ (v3 : Int32) (v4 : Int32) (v5 : Int32) (μ : Mem), w_X7_greatest_63 a1 a2 Y5 v3 v4 v5 μ Q → WB sM l D C ad rm_X7_greatest K 7 μ 63 [(0, .ref (ad 0)), (1, .int a1), (2, .int a2), (3, .int v3), (4, .int v4), (5, .int v5)] [] := by
            intro v3 v4 v5 μ h
            unfold w_X7_greatest_63 at h
            have B75 : ∀ (v4 : Int32) (s1 : Int32) (μ : Mem), w_X7_greatest_75 a1 a2 Y5 v4 s1 μ Q → WB sM l D C ad rm_X7_greatest K 7 μ 75 [(0, .ref (ad 0)), (1, .int a1), (2, .int a2), (4, .int v4)] [.int s1] := by
              intro v4 s1 μ h
              unfold w_X7_greatest_75 at h
              refine b_istore_n (lv' := [(3, .int s1), (0, .ref (ad 0)), (1, .int a1), (2, .int a2), (4, .int v4)]) X dX7_greatest_75 rfl (by decide) rfl ?_
              obtain ⟨x7, ex7⟩ : ∃ y : Int32, y = v4 + (nI 1) := ⟨_, rfl⟩
              replace h := h x7 ex7
              refine b_iinc (x := x7) (lv' := [(4, .int x7), (3, .int s1), (0, .ref (ad 0)), (1, .int a1), (2, .int a2)]) (q := 4) X dX7_greatest_76 rfl (by rw [ex7]; rfl) (by decide) rfl ?_
              refine b_goto (t := 5) X dX7_greatest_79 (by decide) ?_
              refine b_sub (lv' := [(0, .ref (ad 0)), (1, .int a1), (2, .int a2), (3, .int s1), (4, .int x7)]) [2, 3, 4, 1, 0] rfl ?_
              exact T5 s1 x7 μ h
            refine b_iload X dX7_greatest_63 5 rfl ?_
            refine b_iload_n X dX7_greatest_65 rfl 3 rfl ?_
            refine b_icmp_le (t := 74) X dX7_greatest_66 (by decide) (fun c => ?_) (fun c => ?_)
            · replace h := h.1 c
              refine b_iload_n X dX7_greatest_74 rfl 3 rfl ?_
              refine b_sub (lv' := [(0, .ref (ad 0)), (1, .int a1), (2, .int a2), (4, .int v4)]) [0, 1, 2, 4] rfl ?_
              exact B75 v4 v3 μ h
            · replace h := h.2 c
              refine b_iload X dX7_greatest_69 5 rfl ?_
              refine b_goto (t := 75) X dX7_greatest_71 (by decide) ?_
              refine b_sub (lv' := [(0, .ref (ad 0)), (1, .int a1), (2, .int a2), (4, .int v4)]) [0, 1, 2, 4] rfl ?_
              exact B75 v4 v5 μ h
          have B54 : ∀ (v6 : Int32) (s2 : Int32) (s1 : Int32) (μ : Mem), w_X7_greatest_54 a1 a2 Y5 Y18 v3 v4 v6 s2 s1 μ Q → WB sM l D C ad rm_X7_greatest K 7 μ 54 [(0, .ref (ad 0)), (1, .int a1), (2, .int a2), (3, .int v3), (4, .int v4), (6, .int v6)] [.int s2, .int s1] := by
            intro v6 s2 s1 μ h
            unfold w_X7_greatest_54 at h
            refine b_iadd X dX7_greatest_54 ?_
            refine b_topi (fun x5 ex5 => ?_)
            replace h := h x5 ex5
            refine b_istore (lv' := [(5, .int x5), (0, .ref (ad 0)), (1, .int a1), (2, .int a2), (3, .int v3), (4, .int v4), (6, .int v6)]) X dX7_greatest_55 (by decide) rfl ?_
            obtain ⟨x6, ex6⟩ : ∃ y : Int32, y = v6 + (nI 1) := ⟨_, rfl⟩
            replace h := h x6 ex6
            refine b_iinc (x := x6) (lv' := [(6, .int x6), (5, .int x5), (0, .ref (ad 0)), (1, .int a1), (2, .int a2), (3, .int v3), (4, .int v4)]) (q := 6) X dX7_greatest_57 rfl (by rw [ex6]; rfl) (by decide) rfl ?_
            refine b_goto (t := 18) X dX7_greatest_60 (by decide) ?_
            refine b_sub (lv' := [(0, .ref (ad 0)), (1, .int a1), (2, .int a2), (3, .int v3), (4, .int v4), (5, .int x5), (6, .int x6)]) [2, 3, 4, 5, 6, 1, 0] rfl ?_
            exact T18 x5 x6 μ h
          have B53 : ∀ (v6 : Int32) (s1 : Int32) (μ : Mem), w_X7_greatest_53 a1 a2 Y5 Y18 v3 v4 v6 s1 μ Q → WB sM l D C ad rm_X7_greatest K 7 μ 53 [(0, .ref (ad 0)), (1, .int a1), (2, .int a2), (3, .int v3), (4, .int v4), (6, .int v6)] [.int s1] := by
            intro v6 s1 μ h
            unfold w_X7_greatest_53 at h
            refine b_iconst (v := (nI 0)) X dX7_greatest_53 (by decide) ?_
            refine b_sub (lv' := [(0, .ref (ad 0)), (1, .int a1), (2, .int a2), (3, .int v3), (4, .int v4), (6, .int v6)]) [0, 1, 2, 3, 4, 5] rfl ?_
            exact B54 v6 (nI 0) s1 μ h
          refine b_iload X dX7_greatest_18 6 rfl ?_
          refine b_bipush (v := (nI 40)) X dX7_greatest_20 (by decide) ?_
          refine b_icmp_gt (t := 63) X dX7_greatest_22 (by decide) (fun c => ?_) (fun c => ?_)
          · replace h := h.1 c
            refine b_sub (lv' := [(0, .ref (ad 0)), (1, .int a1), (2, .int a2), (3, .int v3), (4, .int v4), (5, .int v5)]) [0, 1, 2, 3, 4, 5] rfl ?_
            exact B63 v3 v4 v5 μ h
          · replace h := h.2 c
            refine b_iload X dX7_greatest_25 5 rfl ?_
            refine b_aload_n X dX7_greatest_27 rfl 0 rfl ?_
            refine b_iload_n X dX7_greatest_28 rfl 1 rfl ?_
            refine b_iload X dX7_greatest_29 6 rfl ?_
            refine b_iload_n X dX7_greatest_31 rfl 2 rfl ?_
            refine bVi (st := [.int v5]) (nA := 3) X (c_X7_tookOf l D C ad a1 v6 a2 μ _ h) kM_0 (by decide) (enc_7 kM_0) rfl gw_X7_332 ⟨rfl, hd_X7_tookOf⟩ rfl rfl ⟨Nat.le_of_ble_eq_true rfl, Nat.le_of_ble_eq_true rfl⟩ rfl rfl (Nat.le_of_ble_eq_true rfl) dX7_greatest_32 (fun r1 μ2 h => ?_)
            refine b_iload X dX7_greatest_35 4 rfl ?_
            refine b_icmp_ne (t := 53) X dX7_greatest_37 (by decide) (fun c => ?_) (fun c => ?_)
            · replace h := h.1 c
              refine b_sub (lv' := [(0, .ref (ad 0)), (1, .int a1), (2, .int a2), (3, .int v3), (4, .int v4), (6, .int v6)]) [0, 1, 2, 3, 4, 6] rfl ?_
              exact B53 v6 v5 μ2 h
            · replace h := h.2 c
              refine b_aload_n X dX7_greatest_40 rfl 0 rfl ?_
              refine b_iload X dX7_greatest_41 6 rfl ?_
              refine bVi (st := [.int v5]) (nA := 1) X (c_X7_isSo l D C ad v6 μ2 _ h) kM_0 (by decide) (enc_7 kM_0) rfl gw_X7_335 ⟨rfl, hd_X7_isSo⟩ rfl rfl ⟨Nat.le_of_ble_eq_true rfl, Nat.le_of_ble_eq_true rfl⟩ rfl rfl (Nat.le_of_ble_eq_true rfl) dX7_greatest_43 (fun r3 μ4 h => ?_)
              refine b_if_eq (t := 53) X dX7_greatest_46 (by decide) (fun c => ?_) (fun c => ?_)
              · replace h := h.1 c
                refine b_sub (lv' := [(0, .ref (ad 0)), (1, .int a1), (2, .int a2), (3, .int v3), (4, .int v4), (6, .int v6)]) [0, 1, 2, 3, 4, 6] rfl ?_
                exact B53 v6 v5 μ4 h
              · replace h := h.2 c
                refine b_iconst (v := (nI 1)) X dX7_greatest_49 (by decide) ?_
                refine b_goto (t := 54) X dX7_greatest_50 (by decide) ?_
                refine b_sub (lv' := [(0, .ref (ad 0)), (1, .int a1), (2, .int a2), (3, .int v3), (4, .int v4), (6, .int v6)]) [0, 1, 2, 3, 4, 6] rfl ?_
                exact B54 v6 (nI 1) v5 μ4 h
        rw [eY] at B18
        exact B18
      refine b_iload X dX7_greatest_5 4 rfl ?_
      refine b_bipush (v := (nI 40)) X dX7_greatest_7 (by decide) ?_
      refine b_icmp_gt (t := 82) X dX7_greatest_9 (by decide) (fun c => ?_) (fun c => ?_)
      · replace h := h.1 c
        refine b_iload_n X dX7_greatest_82 rfl 3 rfl ?_
        exact hret _ _ _ _ h dX7_greatest_83
      · replace h := h.2 c
        refine b_iconst (v := (nI 0)) X dX7_greatest_12 (by decide) ?_
        refine b_istore (lv' := [(5, .int (nI 0)), (0, .ref (ad 0)), (1, .int a1), (2, .int a2), (3, .int v3), (4, .int v4)]) X dX7_greatest_13 (by decide) rfl ?_
        refine b_iconst (v := (nI 0)) X dX7_greatest_15 (by decide) ?_
        refine b_istore (lv' := [(6, .int (nI 0)), (5, .int (nI 0)), (0, .ref (ad 0)), (1, .int a1), (2, .int a2), (3, .int v3), (4, .int v4)]) X dX7_greatest_16 (by decide) rfl ?_
        refine b_sub (lv' := [(0, .ref (ad 0)), (1, .int a1), (2, .int a2), (3, .int v3), (4, .int v4), (5, .int (nI 0)), (6, .int (nI 0))]) [2, 3, 4, 5, 6, 1, 0] rfl ?_
        exact B18 v3 v4 (nI 0) (nI 0) μ h
    rw [eY] at B5
    exact B5
  refine b_iconst (v := (nI 0)) X dX7_greatest_0 (by decide) ?_
  refine b_istore_n (lv' := [(3, .int (nI 0)), (0, .ref (ad 0)), (1, .int a1), (2, .int a2)]) X dX7_greatest_1 rfl (by decide) rfl ?_
  refine b_iconst (v := (nI 0)) X dX7_greatest_2 (by decide) ?_
  refine b_istore (lv' := [(4, .int (nI 0)), (3, .int (nI 0)), (0, .ref (ad 0)), (1, .int a1), (2, .int a2)]) X dX7_greatest_3 (by decide) rfl ?_
  refine b_sub (lv' := [(0, .ref (ad 0)), (1, .int a1), (2, .int a2), (3, .int (nI 0)), (4, .int (nI 0))]) [2, 3, 4, 1, 0] rfl ?_
  exact B5 (nI 0) (nI 0) μ h
set_option maxHeartbeats 4000000 in
set_option maxRecDepth 100000 in
theorem c_X7_lookAt (l : Launch) (D : va_G) (C : Nat → ClassId) (ad : Nat → Nat) (a1 : Int32) (μ : Mem) (Q : Int32 → Mem → Prop) (h : w_X7_lookAt a1 μ Q) : Mi sM l yX7_lookAt cX7_lookAt 7 (some .int) rm_X7_lookAt D C ad [.ref (ad 0), .int a1] μ Q := by
  refine fm_i (by decide +kernel) sM_lt (Nat.le_of_ble_eq_true rfl) (fun K X hret => ?_)
  have X : CK sM D C ad K cX7_lookAt 7 RX7 := X
  refine b_lv (lv' := [(0, .ref (ad 0)), (1, .int a1)]) rfl ?_
  unfold w_X7_lookAt at h
  have B27 : ∀ (v3 : Int32) (v4 : Int32) (v5 : Int32) (μ : Mem), w_X7_lookAt_27 a1 v3 v4 v5 μ Q → WB sM l D C ad rm_X7_lookAt K 7 μ 27 [(0, .ref (ad 0)), (1, .int a1), (3, .int v3), (4, .int v4), (5, .int v5)] [] := by
    intro v3 v4 v5 μ h
    obtain ⟨Y27, eY⟩ : ∃ Y : Int32 → Int32 → Int32 → Mem → Prop, Y = fun (v3 : Int32) (v4 : Int32) (v5 : Int32) (μ : Mem) => WB sM l D C ad rm_X7_lookAt K 7 μ 27 [(0, .ref (ad 0)), (1, .int a1), (3, .int v3), (4, .int v4), (5, .int v5)] [] := ⟨_, rfl⟩
    have B27 : Y27 v3 v4 v5 μ := by
      unfold w_X7_lookAt_27 at h
      refine h Y27 ?_
      clear h
      intro v3 v4 v5 μ h
      unfold s_X7_lookAt_27 at h
      rw [eY]
      show WB sM l D C ad rm_X7_lookAt K 7 μ 27 [(0, .ref (ad 0)), (1, .int a1), (3, .int v3), (4, .int v4), (5, .int v5)] []
      have T27 : ∀ (v3 : Int32) (v4 : Int32) (v5 : Int32) (μ : Mem), Y27 v3 v4 v5 μ → WB sM l D C ad rm_X7_lookAt K 7 μ 27 [(0, .ref (ad 0)), (1, .int a1), (3, .int v3), (4, .int v4), (5, .int v5)] [] := by
        intro v3 v4 v5 μ h
        rw [eY] at h
        exact h
      clear eY
      have B58 : ∀ (v4 : Int32) (v5 : Int32) (v6 : Int32) (s1 : Int32) (μ : Mem), w_X7_lookAt_58 a1 Y27 v4 v5 v6 s1 μ Q → WB sM l D C ad rm_X7_lookAt K 7 μ 58 [(0, .ref (ad 0)), (1, .int a1), (4, .int v4), (5, .int v5), (6, .int v6)] [.int s1] := by
        intro v4 v5 v6 s1 μ h
        unfold w_X7_lookAt_58 at h
        have B73 : ∀ (v3 : Int32) (v5 : Int32) (s1 : Int32) (μ : Mem), w_X7_lookAt_73 a1 Y27 v3 v5 s1 μ Q → WB sM l D C ad rm_X7_lookAt K 7 μ 73 [(0, .ref (ad 0)), (1, .int a1), (3, .int v3), (5, .int v5)] [.int s1] := by
          intro v3 v5 s1 μ h
          unfold w_X7_lookAt_73 at h
          refine b_istore (lv' := [(4, .int s1), (0, .ref (ad 0)), (1, .int a1), (3, .int v3), (5, .int v5)]) X dX7_lookAt_73 (by decide) rfl ?_
          obtain ⟨x9, ex9⟩ : ∃ y : Int32, y = v5 + (nI 1) := ⟨_, rfl⟩
          replace h := h x9 ex9
          refine b_iinc (x := x9) (lv' := [(5, .int x9), (4, .int s1), (0, .ref (ad 0)), (1, .int a1), (3, .int v3)]) (q := 4) X dX7_lookAt_75 rfl (by rw [ex9]; rfl) (by decide) rfl ?_
          refine b_goto (t := 27) X dX7_lookAt_78 (by decide) ?_
          refine b_sub (lv' := [(0, .ref (ad 0)), (1, .int a1), (3, .int v3), (4, .int s1), (5, .int x9)]) [2, 3, 4, 1, 0] rfl ?_
          exact T27 v3 s1 x9 μ h
        refine b_istore_n (lv' := [(3, .int s1), (0, .ref (ad 0)), (1, .int a1), (4, .int v4), (5, .int v5), (6, .int v6)]) X dX7_lookAt_58 rfl (by decide) rfl ?_
        refine b_iload X dX7_lookAt_59 5 rfl ?_
        refine b_iload X dX7_lookAt_61 3 rfl ?_
        refine b_icmp_ge (t := 71) X dX7_lookAt_63 (by decide) (fun c => ?_) (fun c => ?_)
        · replace h := h.1 c
          refine b_iload X dX7_lookAt_71 3 rfl ?_
          refine b_sub (lv' := [(0, .ref (ad 0)), (1, .int a1), (3, .int s1), (5, .int v5)]) [1, 2, 0, 4] rfl ?_
          exact B73 s1 v5 v4 μ h
        · replace h := h.2 c
          refine b_iload X dX7_lookAt_66 5 rfl ?_
          refine b_goto (t := 73) X dX7_lookAt_68 (by decide) ?_
          refine b_sub (lv' := [(0, .ref (ad 0)), (1, .int a1), (3, .int s1), (5, .int v5)]) [1, 2, 0, 4] rfl ?_
          exact B73 s1 v5 v6 μ h
      refine b_iload X dX7_lookAt_27 4 rfl ?_
      refine b_aload_n X dX7_lookAt_29 rfl 0 rfl ?_
      refine g_7_20 X kM_0 m_f_X7_179 dX7_lookAt_30 ?_
      refine b_icmp_ge (t := 81) X dX7_lookAt_33 (by decide) (fun c => ?_) (fun c => ?_)
      · replace h := h.1 c
        refine b_iload_n X dX7_lookAt_81 rfl 2 rfl ?_
        exact hret _ _ _ _ h dX7_lookAt_82
      · replace h := h.2 c
        refine b_aload_n X dX7_lookAt_36 rfl 0 rfl ?_
        refine b_iload X dX7_lookAt_37 4 rfl ?_
        refine b_iload_n X dX7_lookAt_39 rfl 1 rfl ?_
        refine bVi (st := []) (nA := 2) X (c_X7_greatest l D C ad v5 a1 μ _ h) kM_0 (by decide) (enc_7 kM_0) rfl gw_X7_341 ⟨rfl, hd_X7_greatest⟩ rfl rfl ⟨Nat.le_of_ble_eq_true rfl, Nat.le_of_ble_eq_true rfl⟩ rfl rfl (Nat.le_of_ble_eq_true rfl) dX7_lookAt_40 (fun r7 μ8 h => ?_)
        refine b_istore (lv' := [(6, .int r7), (0, .ref (ad 0)), (1, .int a1), (3, .int v3), (4, .int v4), (5, .int v5)]) X dX7_lookAt_43 (by decide) rfl ?_
        refine b_iload X dX7_lookAt_45 0 rfl ?_
        refine b_iload X dX7_lookAt_47 4 rfl ?_
        refine b_icmp_ge (t := 57) X dX7_lookAt_49 (by decide) (fun c => ?_) (fun c => ?_)
        · replace h := h.1 c
          refine b_iload_n X dX7_lookAt_57 rfl 3 rfl ?_
          refine b_sub (lv' := [(0, .ref (ad 0)), (1, .int a1), (4, .int v4), (5, .int v5), (6, .int r7)]) [1, 2, 4, 5, 0] rfl ?_
          exact B58 v4 v5 r7 v3 μ8 h
        · replace h := h.2 c
          refine b_iload X dX7_lookAt_52 5 rfl ?_
          refine b_goto (t := 58) X dX7_lookAt_54 (by decide) ?_
          refine b_sub (lv' := [(0, .ref (ad 0)), (1, .int a1), (4, .int v4), (5, .int v5), (6, .int r7)]) [1, 2, 4, 5, 0] rfl ?_
          exact B58 v4 v5 r7 v5 μ8 h
    rw [eY] at B27
    exact B27
  refine b_aload_n X dX7_lookAt_0 rfl 0 rfl ?_
  refine b_iload_n X dX7_lookAt_1 rfl 1 rfl ?_
  refine bSi (st := [.ref (ad 0)]) (nA := 1) X (c_X7_isSide l D C ad a1 μ _ h) gw_X7_329 hd_X7_isSide rfl rfl ⟨Nat.le_of_ble_eq_true rfl, Nat.le_of_ble_eq_true rfl⟩ rfl rfl (Nat.le_of_ble_eq_true rfl) dX7_lookAt_2 (fun r1 μ2 h => ?_)
  obtain ⟨rfl, h⟩ := h
  refine bVi (st := []) (nA := 1) X (c_X7_need l D C ad r1 μ _ h) kM_0 (by decide) (enc_7 kM_0) rfl gw_X7_273 ⟨rfl, hd_X7_need⟩ rfl rfl ⟨Nat.le_of_ble_eq_true rfl, Nat.le_of_ble_eq_true rfl⟩ rfl rfl (Nat.le_of_ble_eq_true rfl) dX7_lookAt_5 (fun r3 μ4 h => ?_)
  obtain ⟨rfl, h⟩ := h
  refine b_istore_n (lv' := [(2, .int r3), (0, .ref (ad 0)), (1, .int a1)]) X dX7_lookAt_8 rfl (by decide) rfl ?_
  refine b_iload_n X dX7_lookAt_9 rfl 0 rfl ?_
  refine b_if_ge (t := 15) X dX7_lookAt_10 (by decide) (fun c => ?_) (fun c => ?_)
  · replace h := h.1 c
    refine b_iconst (v := ((-1) : Int32)) X dX7_lookAt_15 (by decide) ?_
    refine b_istore_n (lv' := [(3, .int ((-1) : Int32)), (2, .int r3), (0, .ref (ad 0)), (1, .int a1)]) X dX7_lookAt_16 rfl (by decide) rfl ?_
    refine b_aload_n X dX7_lookAt_17 rfl 2 rfl ?_
    refine b_iconst (v := (nI 0)) X dX7_lookAt_18 (by decide) ?_
    refine bVi (st := []) (nA := 1) X (c_X7_thick l D C ad (nI 0) μ _ h) kM_0 (by decide) (enc_7 kM_0) rfl gw_X7_338 ⟨rfl, hd_X7_thick⟩ rfl rfl ⟨Nat.le_of_ble_eq_true rfl, Nat.le_of_ble_eq_true rfl⟩ rfl rfl (Nat.le_of_ble_eq_true rfl) dX7_lookAt_19 (fun r5 μ6 h => ?_)
    refine b_istore (lv' := [(4, .int r5), (3, .int ((-1) : Int32)), (2, .int r3), (0, .ref (ad 0)), (1, .int a1)]) X dX7_lookAt_22 (by decide) rfl ?_
    refine b_iconst (v := (nI 0)) X dX7_lookAt_24 (by decide) ?_
    refine b_istore (lv' := [(5, .int (nI 0)), (4, .int r5), (3, .int ((-1) : Int32)), (2, .int r3), (0, .ref (ad 0)), (1, .int a1)]) X dX7_lookAt_25 (by decide) rfl ?_
    refine b_sub (lv' := [(0, .ref (ad 0)), (1, .int a1), (3, .int ((-1) : Int32)), (4, .int r5), (5, .int (nI 0))]) [4, 5, 2, 1, 0] rfl ?_
    exact B27 ((-1) : Int32) r5 (nI 0) μ6 h
  · replace h := h.2 c
    refine b_iload_n X dX7_lookAt_13 rfl 0 rfl ?_
    exact hret _ _ _ _ h dX7_lookAt_14
set_option maxHeartbeats 4000000 in
set_option maxRecDepth 100000 in
theorem c_X7_needs (l : Launch) (D : va_G) (C : Nat → ClassId) (ad : Nat → Nat) (a1 : Int32) (a2 : Int32) (a3 : Int32) (μ : Mem) (Q : Int32 → Mem → Prop) (h : w_X7_needs a1 a2 a3 μ Q) : Mi sM l yX7_needs cX7_needs 5 (some .int) rm_X7_needs D C ad [.ref (ad 0), .int a1, .int a2, .int a3] μ Q := by
  refine fm_i (by decide +kernel) sM_lt (Nat.le_of_ble_eq_true rfl) (fun K X hret => ?_)
  have X : CK sM D C ad K cX7_needs 5 RX7 := X
  refine b_lv (lv' := [(0, .ref (ad 0)), (1, .int a1), (2, .int a2), (3, .int a3)]) rfl ?_
  unfold w_X7_needs at h
  have B34 : ∀ (v4 : Int32) (μ : Mem), w_X7_needs_34 a1 a2 a3 v4 μ Q → WB sM l D C ad rm_X7_needs K 5 μ 34 [(0, .ref (ad 0)), (1, .int a1), (2, .int a2), (3, .int a3), (4, .int v4)] [] := by
    intro v4 μ h
    obtain ⟨Y34, eY⟩ : ∃ Y : Int32 → Mem → Prop, Y = fun (v4 : Int32) (μ : Mem) => WB sM l D C ad rm_X7_needs K 5 μ 34 [(0, .ref (ad 0)), (1, .int a1), (2, .int a2), (3, .int a3), (4, .int v4)] [] := ⟨_, rfl⟩
    have B34 : Y34 v4 μ := by
      unfold w_X7_needs_34 at h
      refine h Y34 ?_
      clear h
      intro v4 μ h
      unfold s_X7_needs_34 at h
      rw [eY]
      show WB sM l D C ad rm_X7_needs K 5 μ 34 [(0, .ref (ad 0)), (1, .int a1), (2, .int a2), (3, .int a3), (4, .int v4)] []
      have T34 : ∀ (v4 : Int32) (μ : Mem), Y34 v4 μ → WB sM l D C ad rm_X7_needs K 5 μ 34 [(0, .ref (ad 0)), (1, .int a1), (2, .int a2), (3, .int a3), (4, .int v4)] [] := by
        intro v4 μ h
        rw [eY] at h
        exact h
      clear eY
      refine b_iload X dX7_needs_34 4 rfl ?_
      refine b_bipush (v := (nI 40)) X dX7_needs_36 (by decide) ?_
      refine b_icmp_gt (t := 62) X dX7_needs_38 (by decide) (fun c => ?_) (fun c => ?_)
      · replace h := h.1 c
        refine b_iconst (v := ((-1) : Int32)) X dX7_needs_62 (by decide) ?_
        exact hret _ _ _ _ h dX7_needs_63
      · replace h := h.2 c
        refine b_aload_n X dX7_needs_41 rfl 0 rfl ?_
        refine b_iload_n X dX7_needs_42 rfl 1 rfl ?_
        refine b_iload X dX7_needs_43 4 rfl ?_
        refine b_iload_n X dX7_needs_45 rfl 2 rfl ?_
        refine bVi (st := []) (nA := 3) X (c_X7_tookOf l D C ad a1 v4 a2 μ _ h) kM_0 (by decide) (enc_7 kM_0) rfl gw_X7_332 ⟨rfl, hd_X7_tookOf⟩ rfl rfl ⟨Nat.le_of_ble_eq_true rfl, Nat.le_of_ble_eq_true rfl⟩ rfl rfl (Nat.le_of_ble_eq_true rfl) dX7_needs_46 (fun r7 μ8 h => ?_)
        refine b_iload_n X dX7_needs_49 rfl 3 rfl ?_
        refine b_icmp_lt (t := 56) X dX7_needs_50 (by decide) (fun c => ?_) (fun c => ?_)
        · replace h := h.1 c
          obtain ⟨x9, ex9⟩ : ∃ y : Int32, y = v4 + (nI 1) := ⟨_, rfl⟩
          replace h := h x9 ex9
          refine b_iinc (x := x9) (lv' := [(4, .int x9), (0, .ref (ad 0)), (1, .int a1), (2, .int a2), (3, .int a3)]) (q := 4) X dX7_needs_56 rfl (by rw [ex9]; rfl) (by decide) rfl ?_
          refine b_goto (t := 34) X dX7_needs_59 (by decide) ?_
          refine b_sub (lv' := [(0, .ref (ad 0)), (1, .int a1), (2, .int a2), (3, .int a3), (4, .int x9)]) [1, 2, 3, 4, 0] rfl ?_
          exact T34 x9 μ8 h
        · replace h := h.2 c
          refine b_iload X dX7_needs_53 4 rfl ?_
          exact hret _ _ _ _ h dX7_needs_55
    rw [eY] at B34
    exact B34
  refine b_aload_n X dX7_needs_0 rfl 0 rfl ?_
  refine b_iload_n X dX7_needs_1 rfl 1 rfl ?_
  refine bVi (st := []) (nA := 1) X (c_X7_isPost l D C ad a1 μ _ h) kM_0 (by decide) (enc_7 kM_0) rfl gw_X7_216 ⟨rfl, hd_X7_isPost⟩ rfl rfl ⟨Nat.le_of_ble_eq_true rfl, Nat.le_of_ble_eq_true rfl⟩ rfl rfl (Nat.le_of_ble_eq_true rfl) dX7_needs_2 (fun r1 μ2 h => ?_)
  obtain ⟨rfl, h⟩ := h
  refine b_if_ne (t := 11) X dX7_needs_5 (by decide) (fun c => ?_) (fun c => ?_)
  · replace h := h.1 c
    refine b_iload_n X dX7_needs_11 rfl 2 rfl ?_
    refine bSi (st := []) (nA := 1) X (c_X7_isSide l D C ad a2 μ _ h) gw_X7_329 hd_X7_isSide rfl rfl ⟨Nat.le_of_ble_eq_true rfl, Nat.le_of_ble_eq_true rfl⟩ rfl rfl (Nat.le_of_ble_eq_true rfl) dX7_needs_12 (fun r3 μ4 h => ?_)
    obtain ⟨rfl, h⟩ := h
    refine b_if_eq (t := 28) X dX7_needs_15 (by decide) (fun c => ?_) (fun c => ?_)
    · replace h := h.1 c
      refine b_ldc (v := ((-1000000002) : Int32)) X m_k_X7_89 dX7_needs_28 ?_
      exact hret _ _ _ _ h dX7_needs_30
    · replace h := h.2 c
      refine b_iload_n X dX7_needs_18 rfl 3 rfl ?_
      refine b_iconst (v := (nI 0)) X dX7_needs_19 (by decide) ?_
      refine b_bipush (v := (nI 40)) X dX7_needs_20 (by decide) ?_
      refine bSi (st := []) (nA := 3) X (c_X7_in l D C ad a3 (nI 0) (nI 40) μ _ h) gw_X7_85 hd_X7_in rfl rfl ⟨Nat.le_of_ble_eq_true rfl, Nat.le_of_ble_eq_true rfl⟩ rfl rfl (Nat.le_of_ble_eq_true rfl) dX7_needs_22 (fun r5 μ6 h => ?_)
      obtain ⟨rfl, h⟩ := h
      refine b_if_ne (t := 31) X dX7_needs_25 (by decide) (fun c => ?_) (fun c => ?_)
      · replace h := h.1 c
        refine b_iconst (v := (nI 0)) X dX7_needs_31 (by decide) ?_
        refine b_istore (lv' := [(4, .int (nI 0)), (0, .ref (ad 0)), (1, .int a1), (2, .int a2), (3, .int a3)]) X dX7_needs_32 (by decide) rfl ?_
        refine b_sub (lv' := [(0, .ref (ad 0)), (1, .int a1), (2, .int a2), (3, .int a3), (4, .int (nI 0))]) [1, 2, 3, 4, 0] rfl ?_
        exact B34 (nI 0) μ h
      · replace h := h.2 c
        refine b_ldc (v := ((-1000000002) : Int32)) X m_k_X7_89 dX7_needs_28 ?_
        exact hret _ _ _ _ h dX7_needs_30
  · replace h := h.2 c
    refine b_ldc (v := ((-1000000001) : Int32)) X m_k_X7_219 dX7_needs_8 ?_
    exact hret _ _ _ _ h dX7_needs_10
set_option maxHeartbeats 4000000 in
set_option maxRecDepth 100000 in
theorem c_X7_write (l : Launch) (D : va_G) (C : Nat → ClassId) (ad : Nat → Nat) (a1 : Int32) (a2 : Int32) (μ : Mem) (Q : Int32 → Mem → Prop) (h : w_X7_write a1 a2 μ Q) : Mi sM l yX7_write cX7_write 3 (some .int) rm_X7_write D C ad [.ref (ad 0), .int a1, .int a2] μ Q := by
  refine fm_i (by decide +kernel) sM_lt (Nat.le_of_ble_eq_true rfl) (fun K X hret => ?_)
  have X : CK sM D C ad K cX7_write 3 RX7 := X
  refine b_lv (lv' := [(0, .ref (ad 0)), (1, .int a1), (2, .int a2)]) rfl ?_
  unfold w_X7_write at h
  refine b_aload_n X dX7_write_0 rfl 0 rfl ?_
  refine b_iload_n X dX7_write_1 rfl 1 rfl ?_
  refine bVi (st := []) (nA := 1) X (c_X7_isPost l D C ad a1 μ _ h) kM_0 (by decide) (enc_7 kM_0) rfl gw_X7_216 ⟨rfl, hd_X7_isPost⟩ rfl rfl ⟨Nat.le_of_ble_eq_true rfl, Nat.le_of_ble_eq_true rfl⟩ rfl rfl (Nat.le_of_ble_eq_true rfl) dX7_write_2 (fun r1 μ2 h => ?_)
  obtain ⟨rfl, h⟩ := h
  refine b_if_ne (t := 11) X dX7_write_5 (by decide) (fun c => ?_) (fun c => ?_)
  · replace h := h.1 c
    refine b_iload_n X dX7_write_11 rfl 2 rfl ?_
    refine b_iconst (v := (nI 0)) X dX7_write_12 (by decide) ?_
    refine b_bipush (v := (nI 99)) X dX7_write_13 (by decide) ?_
    refine bSi (st := []) (nA := 3) X (c_X7_in l D C ad a2 (nI 0) (nI 99) μ _ h) gw_X7_85 hd_X7_in rfl rfl ⟨Nat.le_of_ble_eq_true rfl, Nat.le_of_ble_eq_true rfl⟩ rfl rfl (Nat.le_of_ble_eq_true rfl) dX7_write_15 (fun r3 μ4 h => ?_)
    obtain ⟨rfl, h⟩ := h
    refine b_if_ne (t := 24) X dX7_write_18 (by decide) (fun c => ?_) (fun c => ?_)
    · replace h := h.1 c
      refine b_aload_n X dX7_write_24 rfl 0 rfl ?_
      refine g_7_39 X kM_0 m_f_X7_191 dX7_write_25 ?_
      refine b_bipush (v := (nI 20)) X dX7_write_28 (by decide) ?_
      refine b_icmp_ne (t := 36) X dX7_write_30 (by decide) (fun c => ?_) (fun c => ?_)
      · replace h := h.1 c
        refine b_aload_n X dX7_write_36 rfl 0 rfl ?_
        refine g_7_40 X kM_0 m_f_X7_71 dX7_write_37 ?_
        refine b_iconst (v := (nI 2)) X dX7_write_40 (by decide) ?_
        refine b_aload_n X dX7_write_41 rfl 0 rfl ?_
        refine g_7_39 X kM_0 m_f_X7_191 dX7_write_42 ?_
        refine b_imul X dX7_write_45 ?_
        refine b_iload_n X dX7_write_46 rfl 1 rfl ?_
        have hz := h.1
        replace h := h.2
        refine b_iast X kM_20 nM_20 hz dX7_write_47 (fun μ5 eμ5 => ?_)
        clear hz
        replace h := h μ5 eμ5
        refine b_aload_n X dX7_write_48 rfl 0 rfl ?_
        refine g_7_40 X kM_0 m_f_X7_71 dX7_write_49 ?_
        refine b_iconst (v := (nI 2)) X dX7_write_52 (by decide) ?_
        refine b_aload_n X dX7_write_53 rfl 0 rfl ?_
        refine g_7_39 X kM_0 m_f_X7_191 dX7_write_54 ?_
        refine b_imul X dX7_write_57 ?_
        refine b_iconst (v := (nI 1)) X dX7_write_58 (by decide) ?_
        refine b_iadd X dX7_write_59 ?_
        refine b_iload_n X dX7_write_60 rfl 2 rfl ?_
        have hz := h.1
        replace h := h.2
        refine b_iast X kM_20 nM_20 hz dX7_write_61 (fun μ6 eμ6 => ?_)
        clear hz
        replace h := h μ6 eμ6
        refine b_aload_n X dX7_write_62 rfl 0 rfl ?_
        refine b_dup X dX7_write_63 rfl ?_
        refine g_7_39 X kM_0 m_f_X7_191 dX7_write_64 ?_
        refine b_iconst (v := (nI 1)) X dX7_write_67 (by decide) ?_
        refine b_iadd X dX7_write_68 ?_
        refine p_7_39 X kM_0 m_f_X7_191 dX7_write_69 (fun μ7 eμ7 => ?_)
        replace h := h μ7 eμ7
        refine b_aload_n X dX7_write_72 rfl 0 rfl ?_
        refine g_7_39 X kM_0 m_f_X7_191 dX7_write_73 ?_
        exact hret _ _ _ _ h dX7_write_76
      · replace h := h.2 c
        refine b_ldc (v := ((-1000000004) : Int32)) X m_k_X7_93 dX7_write_33 ?_
        exact hret _ _ _ _ h dX7_write_35
    · replace h := h.2 c
      refine b_ldc (v := ((-1000000002) : Int32)) X m_k_X7_89 dX7_write_21 ?_
      exact hret _ _ _ _ h dX7_write_23
  · replace h := h.2 c
    refine b_ldc (v := ((-1000000001) : Int32)) X m_k_X7_219 dX7_write_8 ?_
    exact hret _ _ _ _ h dX7_write_10
set_option maxHeartbeats 4000000 in
set_option maxRecDepth 100000 in
theorem c_X7_judge (l : Launch) (D : va_G) (C : Nat → ClassId) (ad : Nat → Nat)  (μ : Mem) (Q : Int32 → Prop) (h : w_X7_judge  μ Q) : Mi sM l yX7_judge cX7_judge 3 (some .int) rm_X7_judge D C ad [.ref (ad 0)] μ (fun r μ' => μ = μ' ∧ Q r) := by
  refine fm_i (by decide +kernel) sM_lt (Nat.le_of_ble_eq_true rfl) (fun K X hret => ?_)
  have X : CK sM D C ad K cX7_judge 3 RX7 := X
  refine b_lv (lv' := [(0, .ref (ad 0))]) rfl ?_
  unfold w_X7_judge at h
  have B9 : ∀ (v1 : Int32) (v2 : Int32), w_X7_judge_9 v1 v2 μ Q → WB sM l D C ad rm_X7_judge K 3 μ 9 [(0, .ref (ad 0)), (1, .int v1), (2, .int v2)] [] := by
    intro v1 v2 h
    obtain ⟨Y9, eY⟩ : ∃ Y : Int32 → Int32 → Prop, Y = fun (v1 : Int32) (v2 : Int32) => WB sM l D C ad rm_X7_judge K 3 μ 9 [(0, .ref (ad 0)), (1, .int v1), (2, .int v2)] [] := ⟨_, rfl⟩
    have B9 : Y9 v1 v2 := by
      unfold w_X7_judge_9 at h
      refine h Y9 ?_
      clear h
      intro v1 v2 h
      unfold s_X7_judge_9 at h
      rw [eY]
      show WB sM l D C ad rm_X7_judge K 3 μ 9 [(0, .ref (ad 0)), (1, .int v1), (2, .int v2)] []
      have T9 : ∀ (v1 : Int32) (v2 : Int32), Y9 v1 v2 → WB sM l D C ad rm_X7_judge K 3 μ 9 [(0, .ref (ad 0)), (1, .int v1), (2, .int v2)] [] := by
        intro v1 v2 h
        rw [eY] at h
        exact h
      clear eY
      have B47 : ∀ (v2 : Int32) (s1 : Int32), w_X7_judge_47 Y9 v2 s1 μ Q → WB sM l D C ad rm_X7_judge K 3 μ 47 [(0, .ref (ad 0)), (2, .int v2)] [.int s1] := by
        intro v2 s1 h
        unfold w_X7_judge_47 at h
        refine b_istore_n (lv' := [(1, .int s1), (0, .ref (ad 0)), (2, .int v2)]) X dX7_judge_47 rfl (by decide) rfl ?_
        obtain ⟨x3, ex3⟩ : ∃ y : Int32, y = v2 + ((-1) : Int32) := ⟨_, rfl⟩
        replace h := h x3 ex3
        refine b_iinc (x := x3) (lv' := [(2, .int x3), (1, .int s1), (0, .ref (ad 0))]) (q := 2) X dX7_judge_48 rfl (by rw [ex3]; rfl) (by decide) rfl ?_
        refine b_goto (t := 9) X dX7_judge_51 (by decide) ?_
        refine b_sub (lv' := [(0, .ref (ad 0)), (1, .int s1), (2, .int x3)]) [2, 1, 0] rfl ?_
        exact T9 s1 x3 h
      refine b_iload_n X dX7_judge_9 rfl 2 rfl ?_
      refine b_if_lt (t := 54) X dX7_judge_10 (by decide) (fun c => ?_) (fun c => ?_)
      · replace h := h.1 c
        refine b_iload_n X dX7_judge_54 rfl 1 rfl ?_
        exact hret _ _ _ _ ⟨rfl, h⟩ dX7_judge_55
      · replace h := h.2 c
        refine b_aload_n X dX7_judge_13 rfl 0 rfl ?_
        refine g_7_29 X kM_0 m_f_X7_53 dX7_judge_14 ?_
        refine b_bipush (v := (nI 9)) X dX7_judge_17 (by decide) ?_
        refine b_aload_n X dX7_judge_19 rfl 0 rfl ?_
        refine g_7_40 X kM_0 m_f_X7_71 dX7_judge_20 ?_
        refine b_iconst (v := (nI 2)) X dX7_judge_23 (by decide) ?_
        refine b_iload_n X dX7_judge_24 rfl 2 rfl ?_
        refine b_imul X dX7_judge_25 ?_
        have hz := h.1
        replace h := h.2
        refine b_iald X kM_20 nM_20 hz dX7_judge_26 ?_
        clear hz
        refine b_iadd X dX7_judge_27 ?_
        have hz := h.1
        replace h := h.2
        refine b_iald X kM_14 nM_14 hz dX7_judge_28 ?_
        clear hz
        refine b_topi (fun x2 ex2 => ?_)
        replace h := h x2 ex2
        refine b_aload_n X dX7_judge_29 rfl 0 rfl ?_
        refine g_7_40 X kM_0 m_f_X7_71 dX7_judge_30 ?_
        refine b_iconst (v := (nI 2)) X dX7_judge_33 (by decide) ?_
        refine b_iload_n X dX7_judge_34 rfl 2 rfl ?_
        refine b_imul X dX7_judge_35 ?_
        refine b_iconst (v := (nI 1)) X dX7_judge_36 (by decide) ?_
        refine b_iadd X dX7_judge_37 ?_
        have hz := h.1
        replace h := h.2
        refine b_iald X kM_20 nM_20 hz dX7_judge_38 ?_
        clear hz
        refine b_icmp_eq (t := 46) X dX7_judge_39 (by decide) (fun c => ?_) (fun c => ?_)
        · replace h := h.1 c
          refine b_iload_n X dX7_judge_46 rfl 1 rfl ?_
          refine b_sub (lv' := [(0, .ref (ad 0)), (2, .int v2)]) [0, 2] rfl ?_
          exact B47 v2 v1 h
        · replace h := h.2 c
          refine b_iload_n X dX7_judge_42 rfl 2 rfl ?_
          refine b_goto (t := 47) X dX7_judge_43 (by decide) ?_
          refine b_sub (lv' := [(0, .ref (ad 0)), (2, .int v2)]) [0, 2] rfl ?_
          exact B47 v2 v2 h
    rw [eY] at B9
    exact B9
  refine b_iconst (v := ((-1) : Int32)) X dX7_judge_0 (by decide) ?_
  refine b_istore_n (lv' := [(1, .int ((-1) : Int32)), (0, .ref (ad 0))]) X dX7_judge_1 rfl (by decide) rfl ?_
  refine b_aload_n X dX7_judge_2 rfl 1 rfl ?_
  refine g_7_39 X kM_0 m_f_X7_191 dX7_judge_3 ?_
  refine b_iconst (v := (nI 1)) X dX7_judge_6 (by decide) ?_
  refine b_isub X dX7_judge_7 ?_
  refine b_topi (fun x1 ex1 => ?_)
  replace h := h x1 ex1
  refine b_istore_n (lv' := [(2, .int x1), (1, .int ((-1) : Int32)), (0, .ref (ad 0))]) X dX7_judge_8 rfl (by decide) rfl ?_
  refine b_sub (lv' := [(0, .ref (ad 0)), (1, .int ((-1) : Int32)), (2, .int x1)]) [2, 1, 0] rfl ?_
  exact B9 ((-1) : Int32) x1 h
set_option maxHeartbeats 4000000 in
set_option maxRecDepth 100000 in
theorem c_X7_tear (l : Launch) (D : va_G) (C : Nat → ClassId) (ad : Nat → Nat)  (μ : Mem) (Q : Int32 → Mem → Prop) (h : w_X7_tear  μ Q) : Mi sM l yX7_tear cX7_tear 2 (some .int) rm_X7_tear D C ad [.ref (ad 0)] μ Q := by
  refine fm_i (by decide +kernel) sM_lt (Nat.le_of_ble_eq_true rfl) (fun K X hret => ?_)
  have X : CK sM D C ad K cX7_tear 2 RX7 := X
  refine b_lv (lv' := [(0, .ref (ad 0))]) rfl ?_
  unfold w_X7_tear at h
  refine b_aload_n X dX7_tear_0 rfl 0 rfl ?_
  refine g_7_37 X kM_0 m_f_X7_188 dX7_tear_1 ?_
  refine b_aload_n X dX7_tear_4 rfl 0 rfl ?_
  refine g_7_39 X kM_0 m_f_X7_191 dX7_tear_5 ?_
  refine b_iadd X dX7_tear_8 ?_
  refine b_topi (fun x1 ex1 => ?_)
  replace h := h x1 ex1
  refine b_istore_n (lv' := [(1, .int x1), (0, .ref (ad 0))]) X dX7_tear_9 rfl (by decide) rfl ?_
  refine b_aload_n X dX7_tear_10 rfl 1 rfl ?_
  refine b_iconst (v := (nI 0)) X dX7_tear_11 (by decide) ?_
  refine p_7_37 X kM_0 m_f_X7_188 dX7_tear_12 (fun μ2 eμ2 => ?_)
  replace h := h μ2 eμ2
  refine b_aload_n X dX7_tear_15 rfl 1 rfl ?_
  refine b_iconst (v := (nI 0)) X dX7_tear_16 (by decide) ?_
  refine p_7_39 X kM_0 m_f_X7_191 dX7_tear_17 (fun μ3 eμ3 => ?_)
  replace h := h μ3 eμ3
  refine b_iload_n X dX7_tear_20 rfl 0 rfl ?_
  exact hret _ _ _ _ h dX7_tear_21
set_option maxHeartbeats 4000000 in
set_option maxRecDepth 100000 in
theorem c_X7_seed (l : Launch) (D : va_G) (C : Nat → ClassId) (ad : Nat → Nat) (a1 : Int32) (μ : Mem) (Q : Int32 → Mem → Prop) (h : w_X7_seed a1 μ Q) : Mi sM l yX7_seed cX7_seed 3 (some .int) rm_X7_seed D C ad [.ref (ad 0), .int a1] μ Q := by
  refine fm_i (by decide +kernel) sM_lt (Nat.le_of_ble_eq_true rfl) (fun K X hret => ?_)
  have X : CK sM D C ad K cX7_seed 3 RX7 := X
  refine b_lv (lv' := [(0, .ref (ad 0)), (1, .int a1)]) rfl ?_
  unfold w_X7_seed at h
  refine b_iload_n X dX7_seed_0 rfl 1 rfl ?_
  refine b_if_ge (t := 7) X dX7_seed_1 (by decide) (fun c => ?_) (fun c => ?_)
  · replace h := h.1 c
    refine b_aload_n X dX7_seed_7 rfl 0 rfl ?_
    refine g_7_35 X kM_0 m_f_X7_290 dX7_seed_8 ?_
    refine b_l2i X dX7_seed_11 ?_
    refine b_topi (fun x1 ex1 => ?_)
    replace h := h x1 ex1
    refine b_istore_n (lv' := [(2, .int x1), (0, .ref (ad 0)), (1, .int a1)]) X dX7_seed_12 rfl (by decide) rfl ?_
    refine b_aload_n X dX7_seed_13 rfl 1 rfl ?_
    refine b_iload_n X dX7_seed_14 rfl 2 rfl ?_
    refine b_i2l X dX7_seed_15 ?_
    refine p_7_35 X m_f_X7_290 dX7_seed_16 (fun μ2 eμ2 => ?_)
    replace h := h μ2 eμ2
    refine b_iload_n X dX7_seed_19 rfl 0 rfl ?_
    exact hret _ _ _ _ h dX7_seed_20
  · replace h := h.2 c
    refine b_ldc (v := ((-1000000002) : Int32)) X m_k_X7_89 dX7_seed_4 ?_
    exact hret _ _ _ _ h dX7_seed_6
set_option maxHeartbeats 4000000 in
set_option maxRecDepth 100000 in
theorem c_X7_keep (l : Launch) (D : va_G) (C : Nat → ClassId) (ad : Nat → Nat) (a1 : Int32) (μ : Mem) (Q : Int32 → Mem → Prop) (h : w_X7_keep a1 μ Q) : Mi sM l yX7_keep cX7_keep 3 (some .int) rm_X7_keep D C ad [.ref (ad 0), .int a1] μ Q := by
  refine fm_i (by decide +kernel) sM_lt (Nat.le_of_ble_eq_true rfl) (fun K X hret => ?_)
  have X : CK sM D C ad K cX7_keep 3 RX7 := X
  refine b_lv (lv' := [(0, .ref (ad 0)), (1, .int a1)]) rfl ?_
  unfold w_X7_keep at h
  have B36 : ∀ (v2 : Int32) (μ : Mem), w_X7_keep_36 a1 v2 μ Q → WB sM l D C ad rm_X7_keep K 3 μ 36 [(0, .ref (ad 0)), (1, .int a1), (2, .int v2)] [] := by
    intro v2 μ h
    obtain ⟨Y36, eY⟩ : ∃ Y : Int32 → Mem → Prop, Y = fun (v2 : Int32) (μ : Mem) => WB sM l D C ad rm_X7_keep K 3 μ 36 [(0, .ref (ad 0)), (1, .int a1), (2, .int v2)] [] := ⟨_, rfl⟩
    have B36 : Y36 v2 μ := by
      unfold w_X7_keep_36 at h
      refine h Y36 ?_
      clear h
      intro v2 μ h
      unfold s_X7_keep_36 at h
      rw [eY]
      show WB sM l D C ad rm_X7_keep K 3 μ 36 [(0, .ref (ad 0)), (1, .int a1), (2, .int v2)] []
      have T36 : ∀ (v2 : Int32) (μ : Mem), Y36 v2 μ → WB sM l D C ad rm_X7_keep K 3 μ 36 [(0, .ref (ad 0)), (1, .int a1), (2, .int v2)] [] := by
        intro v2 μ h
        rw [eY] at h
        exact h
      clear eY
      refine b_iload_n X dX7_keep_36 rfl 2 rfl ?_
      refine b_bipush (v := (nI 27)) X dX7_keep_37 (by decide) ?_
      refine b_icmp_ge (t := 65) X dX7_keep_39 (by decide) (fun c => ?_) (fun c => ?_)
      · replace h := h.1 c
        refine b_iconst (v := (nI 1)) X dX7_keep_65 (by decide) ?_
        exact hret _ _ _ _ h dX7_keep_66
      · replace h := h.2 c
        refine b_aload_n X dX7_keep_42 rfl 0 rfl ?_
        refine g_7_42 X kM_0 m_f_X7_78 dX7_keep_43 ?_
        refine b_bipush (v := (nI 27)) X dX7_keep_46 (by decide) ?_
        refine b_iload_n X dX7_keep_48 rfl 1 rfl ?_
        refine b_imul X dX7_keep_49 ?_
        refine b_iload_n X dX7_keep_50 rfl 2 rfl ?_
        refine b_iadd X dX7_keep_51 ?_
        refine b_aload_n X dX7_keep_52 rfl 0 rfl ?_
        refine g_7_29 X kM_0 m_f_X7_53 dX7_keep_53 ?_
        refine b_iload_n X dX7_keep_56 rfl 2 rfl ?_
        have hz := h.1
        replace h := h.2
        refine b_iald X kM_14 nM_14 hz dX7_keep_57 ?_
        clear hz
        have hz := h.1
        replace h := h.2
        refine b_iast X kM_22 nM_22 hz dX7_keep_58 (fun μ6 eμ6 => ?_)
        clear hz
        replace h := h μ6 eμ6
        obtain ⟨x7, ex7⟩ : ∃ y : Int32, y = v2 + (nI 1) := ⟨_, rfl⟩
        replace h := h x7 ex7
        refine b_iinc (x := x7) (lv' := [(2, .int x7), (0, .ref (ad 0)), (1, .int a1)]) (q := 2) X dX7_keep_59 rfl (by rw [ex7]; rfl) (by decide) rfl ?_
        refine b_goto (t := 36) X dX7_keep_62 (by decide) ?_
        refine b_sub (lv' := [(0, .ref (ad 0)), (1, .int a1), (2, .int x7)]) [1, 2, 0] rfl ?_
        exact T36 x7 μ6 h
    rw [eY] at B36
    exact B36
  refine b_iload_n X dX7_keep_0 rfl 1 rfl ?_
  refine b_iconst (v := (nI 0)) X dX7_keep_1 (by decide) ?_
  refine b_iconst (v := (nI 1)) X dX7_keep_2 (by decide) ?_
  refine bSi (st := []) (nA := 3) X (c_X7_in l D C ad a1 (nI 0) (nI 1) μ _ h) gw_X7_85 hd_X7_in rfl rfl ⟨Nat.le_of_ble_eq_true rfl, Nat.le_of_ble_eq_true rfl⟩ rfl rfl (Nat.le_of_ble_eq_true rfl) dX7_keep_3 (fun r1 μ2 h => ?_)
  obtain ⟨rfl, h⟩ := h
  refine b_if_ne (t := 12) X dX7_keep_6 (by decide) (fun c => ?_) (fun c => ?_)
  · replace h := h.1 c
    refine b_aload_n X dX7_keep_12 rfl 0 rfl ?_
    refine g_7_41 X kM_0 m_f_X7_74 dX7_keep_13 ?_
    refine b_iload_n X dX7_keep_16 rfl 1 rfl ?_
    refine b_iconst (v := (nI 1)) X dX7_keep_17 (by decide) ?_
    have hz := h.1
    replace h := h.2
    refine b_zast X kM_21 nM_21 hz (Or.inr rfl) dX7_keep_18 (fun μ3 eμ3 => ?_)
    clear hz
    replace h := h μ3 eμ3
    refine b_aload_n X dX7_keep_19 rfl 0 rfl ?_
    refine g_7_43 X kM_0 m_f_X7_81 dX7_keep_20 ?_
    refine b_iload_n X dX7_keep_23 rfl 1 rfl ?_
    refine b_aload_n X dX7_keep_24 rfl 0 rfl ?_
    refine g_7_35 X kM_0 m_f_X7_290 dX7_keep_25 ?_
    have hz := h.1
    replace h := h.2
    refine b_last X kM_23 kM_nine nM_23 hz dX7_keep_28 (fun μ4 eμ4 => ?_)
    clear hz
    replace h := h μ4 eμ4
    refine b_aload_n X dX7_keep_29 rfl 0 rfl ?_
    refine b_iconst (v := (nI 0)) X dX7_keep_30 (by decide) ?_
    refine p_7_32 X kM_0 m_f_X7_194 dX7_keep_31 (fun μ5 eμ5 => ?_)
    replace h := h μ5 eμ5
    refine b_iconst (v := (nI 0)) X dX7_keep_34 (by decide) ?_
    refine b_istore_n (lv' := [(2, .int (nI 0)), (0, .ref (ad 0)), (1, .int a1)]) X dX7_keep_35 rfl (by decide) rfl ?_
    refine b_sub (lv' := [(0, .ref (ad 0)), (1, .int a1), (2, .int (nI 0))]) [1, 2, 0] rfl ?_
    exact B36 (nI 0) μ5 h
  · replace h := h.2 c
    refine b_ldc (v := ((-1000000001) : Int32)) X m_k_X7_219 dX7_keep_9 ?_
    exact hret _ _ _ _ h dX7_keep_11
set_option maxHeartbeats 4000000 in
set_option maxRecDepth 100000 in
theorem c_X7_goBack (l : Launch) (D : va_G) (C : Nat → ClassId) (ad : Nat → Nat) (a1 : Int32) (μ : Mem) (Q : Int32 → Mem → Prop) (h : w_X7_goBack a1 μ Q) : Mi sM l yX7_goBack cX7_goBack 3 (some .int) rm_X7_goBack D C ad [.ref (ad 0), .int a1] μ Q := by
  refine fm_i (by decide +kernel) sM_lt (Nat.le_of_ble_eq_true rfl) (fun K X hret => ?_)
  have X : CK sM D C ad K cX7_goBack 3 RX7 := X
  refine b_lv (lv' := [(0, .ref (ad 0)), (1, .int a1)]) rfl ?_
  unfold w_X7_goBack at h
  have B41 : ∀ (v2 : Int32) (μ : Mem), w_X7_goBack_41 a1 v2 μ Q → WB sM l D C ad rm_X7_goBack K 3 μ 41 [(0, .ref (ad 0)), (1, .int a1), (2, .int v2)] [] := by
    intro v2 μ h
    obtain ⟨Y41, eY⟩ : ∃ Y : Int32 → Mem → Prop, Y = fun (v2 : Int32) (μ : Mem) => WB sM l D C ad rm_X7_goBack K 3 μ 41 [(0, .ref (ad 0)), (1, .int a1), (2, .int v2)] [] := ⟨_, rfl⟩
    have B41 : Y41 v2 μ := by
      unfold w_X7_goBack_41 at h
      refine h Y41 ?_
      clear h
      intro v2 μ h
      unfold s_X7_goBack_41 at h
      rw [eY]
      show WB sM l D C ad rm_X7_goBack K 3 μ 41 [(0, .ref (ad 0)), (1, .int a1), (2, .int v2)] []
      have T41 : ∀ (v2 : Int32) (μ : Mem), Y41 v2 μ → WB sM l D C ad rm_X7_goBack K 3 μ 41 [(0, .ref (ad 0)), (1, .int a1), (2, .int v2)] [] := by
        intro v2 μ h
        rw [eY] at h
        exact h
      clear eY
      refine b_iload_n X dX7_goBack_41 rfl 2 rfl ?_
      refine b_bipush (v := (nI 27)) X dX7_goBack_42 (by decide) ?_
      refine b_icmp_ge (t := 70) X dX7_goBack_44 (by decide) (fun c => ?_) (fun c => ?_)
      · replace h := h.1 c
        refine b_iconst (v := (nI 1)) X dX7_goBack_70 (by decide) ?_
        exact hret _ _ _ _ h dX7_goBack_71
      · replace h := h.2 c
        refine b_aload_n X dX7_goBack_47 rfl 0 rfl ?_
        refine g_7_29 X kM_0 m_f_X7_53 dX7_goBack_48 ?_
        refine b_iload_n X dX7_goBack_51 rfl 2 rfl ?_
        refine b_aload_n X dX7_goBack_52 rfl 0 rfl ?_
        refine g_7_42 X kM_0 m_f_X7_78 dX7_goBack_53 ?_
        refine b_bipush (v := (nI 27)) X dX7_goBack_56 (by decide) ?_
        refine b_iload_n X dX7_goBack_58 rfl 1 rfl ?_
        refine b_imul X dX7_goBack_59 ?_
        refine b_iload_n X dX7_goBack_60 rfl 2 rfl ?_
        refine b_iadd X dX7_goBack_61 ?_
        have hz := h.1
        replace h := h.2
        refine b_iald X kM_22 nM_22 hz dX7_goBack_62 ?_
        clear hz
        have hz := h.1
        replace h := h.2
        refine b_iast X kM_14 nM_14 hz dX7_goBack_63 (fun μ5 eμ5 => ?_)
        clear hz
        replace h := h μ5 eμ5
        obtain ⟨x6, ex6⟩ : ∃ y : Int32, y = v2 + (nI 1) := ⟨_, rfl⟩
        replace h := h x6 ex6
        refine b_iinc (x := x6) (lv' := [(2, .int x6), (0, .ref (ad 0)), (1, .int a1)]) (q := 2) X dX7_goBack_64 rfl (by rw [ex6]; rfl) (by decide) rfl ?_
        refine b_goto (t := 41) X dX7_goBack_67 (by decide) ?_
        refine b_sub (lv' := [(0, .ref (ad 0)), (1, .int a1), (2, .int x6)]) [1, 2, 0] rfl ?_
        exact T41 x6 μ5 h
    rw [eY] at B41
    exact B41
  refine b_iload_n X dX7_goBack_0 rfl 1 rfl ?_
  refine b_iconst (v := (nI 0)) X dX7_goBack_1 (by decide) ?_
  refine b_iconst (v := (nI 1)) X dX7_goBack_2 (by decide) ?_
  refine bSi (st := []) (nA := 3) X (c_X7_in l D C ad a1 (nI 0) (nI 1) μ _ h) gw_X7_85 hd_X7_in rfl rfl ⟨Nat.le_of_ble_eq_true rfl, Nat.le_of_ble_eq_true rfl⟩ rfl rfl (Nat.le_of_ble_eq_true rfl) dX7_goBack_3 (fun r1 μ2 h => ?_)
  obtain ⟨rfl, h⟩ := h
  refine b_if_ne (t := 12) X dX7_goBack_6 (by decide) (fun c => ?_) (fun c => ?_)
  · replace h := h.1 c
    refine b_aload_n X dX7_goBack_12 rfl 0 rfl ?_
    refine g_7_41 X kM_0 m_f_X7_74 dX7_goBack_13 ?_
    refine b_iload_n X dX7_goBack_16 rfl 1 rfl ?_
    have hz := h.1
    replace h := h.2
    refine b_zald X kM_21 nM_21 hz dX7_goBack_17 ?_
    clear hz
    refine b_if_ne (t := 24) X dX7_goBack_18 (by decide) (fun c => ?_) (fun c => ?_)
    · replace h := h.1 c
      refine b_aload_n X dX7_goBack_24 rfl 0 rfl ?_
      refine b_aload_n X dX7_goBack_25 rfl 0 rfl ?_
      refine g_7_43 X kM_0 m_f_X7_81 dX7_goBack_26 ?_
      refine b_iload_n X dX7_goBack_29 rfl 1 rfl ?_
      have hz := h.1
      replace h := h.2
      refine b_lald X kM_23 nM_23 hz dX7_goBack_30 ?_
      clear hz
      refine p_7_35 X m_f_X7_290 dX7_goBack_31 (fun μ3 eμ3 => ?_)
      replace h := h μ3 eμ3
      refine b_aload_n X dX7_goBack_34 rfl 0 rfl ?_
      refine b_iconst (v := (nI 0)) X dX7_goBack_35 (by decide) ?_
      refine p_7_32 X kM_0 m_f_X7_194 dX7_goBack_36 (fun μ4 eμ4 => ?_)
      replace h := h μ4 eμ4
      refine b_iconst (v := (nI 0)) X dX7_goBack_39 (by decide) ?_
      refine b_istore_n (lv' := [(2, .int (nI 0)), (0, .ref (ad 0)), (1, .int a1)]) X dX7_goBack_40 rfl (by decide) rfl ?_
      refine b_sub (lv' := [(0, .ref (ad 0)), (1, .int a1), (2, .int (nI 0))]) [1, 2, 0] rfl ?_
      exact B41 (nI 0) μ4 h
    · replace h := h.2 c
      refine b_ldc (v := ((-1000000003) : Int32)) X m_k_X7_220 dX7_goBack_21 ?_
      exact hret _ _ _ _ h dX7_goBack_23
  · replace h := h.2 c
    refine b_ldc (v := ((-1000000001) : Int32)) X m_k_X7_219 dX7_goBack_9 ?_
    exact hret _ _ _ _ h dX7_goBack_11
