set_option maxHeartbeats 4000000 in
set_option maxRecDepth 100000 in
theorem c_L_thick (l : Launch) (D : va_G) (C : Nat → ClassId) (ad : Nat → Nat) (a2 : Int32) (a3 : Int32) (μ : Mem) (Q : Int32 → Mem → Prop) (h : w_L_thick a2 a3 μ Q) : Mi sF l yL_thick cL_thick 11 (some .boolean) rm_L_thick D C ad [.ref (ad 0), .ref (ad 246), .int a2, .int a3] μ Q := by
  refine fm_z (by decide +kernel) sF_lt (Nat.le_of_ble_eq_true rfl) (fun K X hret => ?_)
  have X : CK sF D C ad K cL_thick 11 RL := X
  refine b_lv (lv' := [(0, .ref (ad 0)), (1, .ref (ad 246)), (2, .int a2), (3, .int a3)]) rfl ?_
  unfold w_L_thick at h
  have B20 : ∀ (v4 : Int32) (v5 : Int32) (v6 : Int32) (v7 : Int32) (μ : Mem), w_L_thick_20 a2 a3 v4 v5 v6 v7 μ Q → WB sF l D C ad rm_L_thick K 11 μ 20 [(0, .ref (ad 0)), (1, .ref (ad 246)), (2, .int a2), (4, .int v4), (5, .int v5), (6, .int v6), (7, .int v7)] [] := by
    intro v4 v5 v6 v7 μ h
    obtain ⟨Y20, eY⟩ : ∃ Y : Int32 → Int32 → Mem → Prop, Y = fun (v6 : Int32) (v7 : Int32) (μ : Mem) => WB sF l D C ad rm_L_thick K 11 μ 20 [(0, .ref (ad 0)), (1, .ref (ad 246)), (2, .int a2), (4, .int v4), (5, .int v5), (6, .int v6), (7, .int v7)] [] := ⟨_, rfl⟩
    have B20 : Y20 v6 v7 μ := by
      unfold w_L_thick_20 at h
      refine h Y20 ?_
      clear h
      intro v6 v7 μ h
      unfold s_L_thick_20 at h
      rw [eY]
      show WB sF l D C ad rm_L_thick K 11 μ 20 [(0, .ref (ad 0)), (1, .ref (ad 246)), (2, .int a2), (4, .int v4), (5, .int v5), (6, .int v6), (7, .int v7)] []
      have T20 : ∀ (v6 : Int32) (v7 : Int32) (μ : Mem), Y20 v6 v7 μ → WB sF l D C ad rm_L_thick K 11 μ 20 [(0, .ref (ad 0)), (1, .ref (ad 246)), (2, .int a2), (4, .int v4), (5, .int v5), (6, .int v6), (7, .int v7)] [] := by
        intro v6 v7 μ h
        rw [eY] at h
        exact h
      clear eY
      have B57 : ∀ (v4 : Int32) (v5 : Int32) (v6 : Int32) (μ : Mem), w_L_thick_57 a2 a3 v4 v5 v6 μ Q → WB sF l D C ad rm_L_thick K 11 μ 57 [(0, .ref (ad 0)), (1, .ref (ad 246)), (2, .int a2), (4, .int v4), (5, .int v5), (6, .int v6)] [] := by
        intro v4 v5 v6 μ h
        unfold w_L_thick_57 at h
        have B191 : ∀ (v5 : Int32) (v6 : Int32) (v8 : Int32) (s1 : Int32) (μ : Mem), w_L_thick_191 a2 a3 v5 v6 v8 s1 μ Q → WB sF l D C ad rm_L_thick K 11 μ 191 [(0, .ref (ad 0)), (2, .int a2), (5, .int v5), (6, .int v6), (8, .int v8)] [.int s1] := by
          intro v5 v6 v8 s1 μ h
          unfold w_L_thick_191 at h
          refine b_istore (lv' := [(10, .int s1), (0, .ref (ad 0)), (2, .int a2), (5, .int v5), (6, .int v6), (8, .int v8)]) X dL_thick_191 (by decide) rfl ?_
          refine b_iload X dL_thick_193 0 rfl ?_
          refine b_if_eq (t := 243) X dL_thick_195 (by decide) (fun c => ?_) (fun c => ?_)
          · replace h := h.1 c
            refine b_iconst (v := (nI 0)) X dL_thick_243 (by decide) ?_
            exact hret _ _ _ _ ⟨(Or.inl rfl), h⟩ dL_thick_244
          · replace h := h.2 c
            refine b_aload_n X dL_thick_198 rfl 1 rfl ?_
            refine b_iload_n X dL_thick_199 rfl 2 rfl ?_
            refine b_iload X dL_thick_200 3 rfl ?_
            refine b_iload X dL_thick_202 4 rfl ?_
            refine bVi (st := []) (nA := 3) X (c_X6_got l D C ad a2 v5 v6 μ _ h) kF_0 (by decide) (enc_6 kF_0) rfl gw_L_173 ⟨rfl, hd_X6_got⟩ ⟨Nat.zero_le _, Nat.zero_le _⟩ rfl rfl ⟨Nat.le_of_ble_eq_true rfl, Nat.le_of_ble_eq_true rfl⟩ rfl rfl (Nat.le_of_ble_eq_true rfl) dL_thick_204 (fun r23 μ24 h => ?_)
            refine b_iconst (v := (nI 2)) X dL_thick_207 (by decide) ?_
            refine b_icmp_ne (t := 243) X dL_thick_208 (by decide) (fun c => ?_) (fun c => ?_)
            · replace h := h.1 c
              refine b_iconst (v := (nI 0)) X dL_thick_243 (by decide) ?_
              exact hret _ _ _ _ ⟨(Or.inl rfl), h⟩ dL_thick_244
            · replace h := h.2 c
              refine b_aload_n X dL_thick_211 rfl 1 rfl ?_
              refine b_iconst (v := (nI 0)) X dL_thick_212 (by decide) ?_
              refine bVi (st := []) (nA := 1) X (c_X6_thick l D C ad (nI 0) μ24 _ h) kF_0 (by decide) (enc_6 kF_0) rfl gw_L_176 ⟨rfl, hd_X6_thick⟩ ⟨Nat.zero_le _, Nat.zero_le _⟩ rfl rfl ⟨Nat.le_of_ble_eq_true rfl, Nat.le_of_ble_eq_true rfl⟩ rfl rfl (Nat.le_of_ble_eq_true rfl) dL_thick_213 (fun r25 μ26 h => ?_)
              refine b_iload X dL_thick_216 5 rfl ?_
              refine b_icmp_ne (t := 243) X dL_thick_218 (by decide) (fun c => ?_) (fun c => ?_)
              · replace h := h.1 c
                refine b_iconst (v := (nI 0)) X dL_thick_243 (by decide) ?_
                exact hret _ _ _ _ ⟨(Or.inl rfl), h⟩ dL_thick_244
              · replace h := h.2 c
                refine b_aload_n X dL_thick_221 rfl 1 rfl ?_
                refine bVi (st := []) (nA := 0) X (c_X6_tear l D C ad  μ26 _ h) kF_0 (by decide) (enc_6 kF_0) rfl gw_L_181 ⟨rfl, hd_X6_tear⟩ ⟨Nat.zero_le _, Nat.zero_le _⟩ rfl rfl ⟨Nat.le_of_ble_eq_true rfl, Nat.le_of_ble_eq_true rfl⟩ rfl rfl (Nat.le_of_ble_eq_true rfl) dL_thick_222 (fun r27 μ28 h => ?_)
                refine b_iconst (v := (nI 2)) X dL_thick_225 (by decide) ?_
                refine b_icmp_ne (t := 243) X dL_thick_226 (by decide) (fun c => ?_) (fun c => ?_)
                · replace h := h.1 c
                  refine b_iconst (v := (nI 0)) X dL_thick_243 (by decide) ?_
                  exact hret _ _ _ _ ⟨(Or.inl rfl), h⟩ dL_thick_244
                · replace h := h.2 c
                  refine b_aload_n X dL_thick_229 rfl 1 rfl ?_
                  refine b_iconst (v := (nI 0)) X dL_thick_230 (by decide) ?_
                  refine bVi (st := []) (nA := 1) X (c_X6_thick l D C ad (nI 0) μ28 _ h) kF_0 (by decide) (enc_6 kF_0) rfl gw_L_176 ⟨rfl, hd_X6_thick⟩ ⟨Nat.zero_le _, Nat.zero_le _⟩ rfl rfl ⟨Nat.le_of_ble_eq_true rfl, Nat.le_of_ble_eq_true rfl⟩ rfl rfl (Nat.le_of_ble_eq_true rfl) dL_thick_231 (fun r29 μ30 h => ?_)
                  refine b_bipush (v := (nI 41)) X dL_thick_234 (by decide) ?_
                  refine b_icmp_ne (t := 243) X dL_thick_236 (by decide) (fun c => ?_) (fun c => ?_)
                  · replace h := h.1 c
                    refine b_iconst (v := (nI 0)) X dL_thick_243 (by decide) ?_
                    exact hret _ _ _ _ ⟨(Or.inl rfl), h⟩ dL_thick_244
                  · replace h := h.2 c
                    refine b_iconst (v := (nI 1)) X dL_thick_239 (by decide) ?_
                    refine b_goto (t := 244) X dL_thick_240 (by decide) ?_
                    exact hret _ _ _ _ ⟨(Or.inr rfl), h⟩ dL_thick_244
        have B190 : ∀ (v5 : Int32) (v6 : Int32) (v8 : Int32) (μ : Mem), w_L_thick_190 a2 a3 v5 v6 v8 μ Q → WB sF l D C ad rm_L_thick K 11 μ 190 [(0, .ref (ad 0)), (2, .int a2), (5, .int v5), (6, .int v6), (8, .int v8)] [] := by
          intro v5 v6 v8 μ h
          unfold w_L_thick_190 at h
          refine b_iconst (v := (nI 0)) X dL_thick_190 (by decide) ?_
          refine b_sub (lv' := [(0, .ref (ad 0)), (2, .int a2), (5, .int v5), (6, .int v6), (8, .int v8)]) [0, 1, 2, 3, 4] rfl ?_
          exact B191 v5 v6 v8 (nI 0) μ h
        have B186 : ∀ (v5 : Int32) (v6 : Int32) (v8 : Int32) (μ : Mem), w_L_thick_186 a2 a3 v5 v6 v8 μ Q → WB sF l D C ad rm_L_thick K 11 μ 186 [(0, .ref (ad 0)), (2, .int a2), (5, .int v5), (6, .int v6), (8, .int v8)] [] := by
          intro v5 v6 v8 μ h
          unfold w_L_thick_186 at h
          refine b_iconst (v := (nI 1)) X dL_thick_186 (by decide) ?_
          refine b_goto (t := 191) X dL_thick_187 (by decide) ?_
          refine b_sub (lv' := [(0, .ref (ad 0)), (2, .int a2), (5, .int v5), (6, .int v6), (8, .int v8)]) [0, 1, 2, 3, 4] rfl ?_
          exact B191 v5 v6 v8 (nI 1) μ h
        refine b_aload_n X dL_thick_57 rfl 0 rfl ?_
        refine b_iload_n X dL_thick_58 rfl 2 rfl ?_
        refine b_iload X dL_thick_59 4 rfl ?_
        refine b_iload X dL_thick_61 5 rfl ?_
        refine bVi (st := []) (nA := 3) X (c_X6_needs l D C ad a2 v5 v6 μ _ h) kF_0 (by decide) (enc_6 kF_0) rfl gw_L_170 ⟨rfl, hd_X6_needs⟩ ⟨Nat.zero_le _, Nat.zero_le _⟩ rfl rfl ⟨Nat.le_of_ble_eq_true rfl, Nat.le_of_ble_eq_true rfl⟩ rfl rfl (Nat.le_of_ble_eq_true rfl) dL_thick_63 (fun r7 μ8 h => ?_)
        refine b_istore (lv' := [(7, .int r7), (0, .ref (ad 0)), (1, .ref (ad 246)), (2, .int a2), (4, .int v4), (5, .int v5), (6, .int v6)]) X dL_thick_66 (by decide) rfl ?_
        refine b_iload X dL_thick_68 0 rfl ?_
        refine b_if_lt (t := 93) X dL_thick_70 (by decide) (fun c => ?_) (fun c => ?_)
        · replace h := h.1 c
          refine b_iconst (v := (nI 0)) X dL_thick_93 (by decide) ?_
          exact hret _ _ _ _ ⟨(Or.inl rfl), h⟩ dL_thick_94
        · replace h := h.2 c
          refine b_iload X dL_thick_73 0 rfl ?_
          refine b_iload X dL_thick_75 4 rfl ?_
          refine b_icmp_gt (t := 93) X dL_thick_77 (by decide) (fun c => ?_) (fun c => ?_)
          · replace h := h.1 c
            refine b_iconst (v := (nI 0)) X dL_thick_93 (by decide) ?_
            exact hret _ _ _ _ ⟨(Or.inl rfl), h⟩ dL_thick_94
          · replace h := h.2 c
            refine b_aload_n X dL_thick_80 rfl 1 rfl ?_
            refine b_iload_n X dL_thick_81 rfl 3 rfl ?_
            refine b_iload X dL_thick_82 5 rfl ?_
            refine b_iload X dL_thick_84 6 rfl ?_
            refine bVi (st := []) (nA := 3) X (c_X6_got l D C ad a2 v5 v6 μ8 _ h) kF_0 (by decide) (enc_6 kF_0) rfl gw_L_173 ⟨rfl, hd_X6_got⟩ ⟨Nat.zero_le _, Nat.zero_le _⟩ rfl rfl ⟨Nat.le_of_ble_eq_true rfl, Nat.le_of_ble_eq_true rfl⟩ rfl rfl (Nat.le_of_ble_eq_true rfl) dL_thick_86 (fun r9 μ10 h => ?_)
            refine b_iconst (v := (nI 1)) X dL_thick_89 (by decide) ?_
            refine b_icmp_eq (t := 95) X dL_thick_90 (by decide) (fun c => ?_) (fun c => ?_)
            · replace h := h.1 c
              refine b_aload_n X dL_thick_95 rfl 1 rfl ?_
              refine b_iconst (v := (nI 0)) X dL_thick_96 (by decide) ?_
              refine bVi (st := []) (nA := 1) X (c_X6_thick l D C ad (nI 0) μ10 _ h) kF_0 (by decide) (enc_6 kF_0) rfl gw_L_176 ⟨rfl, hd_X6_thick⟩ ⟨Nat.zero_le _, Nat.zero_le _⟩ rfl rfl ⟨Nat.le_of_ble_eq_true rfl, Nat.le_of_ble_eq_true rfl⟩ rfl rfl (Nat.le_of_ble_eq_true rfl) dL_thick_97 (fun r11 μ12 h => ?_)
              refine b_istore (lv' := [(8, .int r11), (7, .int r7), (0, .ref (ad 0)), (1, .ref (ad 246)), (2, .int a2), (4, .int v4), (5, .int v5), (6, .int v6)]) X dL_thick_100 (by decide) rfl ?_
              refine b_aload_n X dL_thick_102 rfl 2 rfl ?_
              refine b_iload X dL_thick_103 6 rfl ?_
              refine bVi (st := []) (nA := 1) X (c_X6_lookAt l D C ad v5 μ12 _ h) kF_0 (by decide) (enc_6 kF_0) rfl gw_L_178 ⟨rfl, hd_X6_lookAt⟩ ⟨Nat.zero_le _, Nat.zero_le _⟩ rfl rfl ⟨Nat.le_of_ble_eq_true rfl, Nat.le_of_ble_eq_true rfl⟩ rfl rfl (Nat.le_of_ble_eq_true rfl) dL_thick_105 (fun r13 μ14 h => ?_)
              refine b_istore (lv' := [(9, .int r13), (8, .int r11), (7, .int r7), (0, .ref (ad 0)), (1, .ref (ad 246)), (2, .int a2), (4, .int v4), (5, .int v5), (6, .int v6)]) X dL_thick_108 (by decide) rfl ?_
              refine b_iload X dL_thick_110 1 rfl ?_
              refine b_if_le (t := 190) X dL_thick_112 (by decide) (fun c => ?_) (fun c => ?_)
              · replace h := h.1 c
                refine b_sub (lv' := [(0, .ref (ad 0)), (2, .int a2), (5, .int v5), (6, .int v6), (8, .int r11)]) [3, 5, 7, 8, 1] rfl ?_
                exact B190 v5 v6 r11 μ14 h
              · replace h := h.2 c
                refine b_iload X dL_thick_115 1 rfl ?_
                refine b_bipush (v := (nI 42)) X dL_thick_117 (by decide) ?_
                refine b_icmp_ge (t := 190) X dL_thick_119 (by decide) (fun c => ?_) (fun c => ?_)
                · replace h := h.1 c
                  refine b_sub (lv' := [(0, .ref (ad 0)), (2, .int a2), (5, .int v5), (6, .int v6), (8, .int r11)]) [3, 5, 7, 8, 1] rfl ?_
                  exact B190 v5 v6 r11 μ14 h
                · replace h := h.2 c
                  refine b_aload_n X dL_thick_122 rfl 3 rfl ?_
                  refine b_iconst (v := (nI 1)) X dL_thick_123 (by decide) ?_
                  refine bVi (st := []) (nA := 1) X (c_X6_thick l D C ad (nI 1) μ14 _ h) kF_0 (by decide) (enc_6 kF_0) rfl gw_L_176 ⟨rfl, hd_X6_thick⟩ ⟨Nat.zero_le _, Nat.zero_le _⟩ rfl rfl ⟨Nat.le_of_ble_eq_true rfl, Nat.le_of_ble_eq_true rfl⟩ rfl rfl (Nat.le_of_ble_eq_true rfl) dL_thick_124 (fun r15 μ16 h => ?_)
                  refine b_iload X dL_thick_127 6 rfl ?_
                  refine b_icmp_gt (t := 190) X dL_thick_129 (by decide) (fun c => ?_) (fun c => ?_)
                  · replace h := h.1 c
                    refine b_sub (lv' := [(0, .ref (ad 0)), (2, .int a2), (5, .int v5), (6, .int v6), (8, .int r11)]) [3, 5, 7, 8, 1] rfl ?_
                    exact B190 v5 v6 r11 μ16 h
                  · replace h := h.2 c
                    refine b_aload_n X dL_thick_132 rfl 3 rfl ?_
                    refine b_iconst (v := (nI 2)) X dL_thick_133 (by decide) ?_
                    refine bVi (st := []) (nA := 1) X (c_X6_thick l D C ad (nI 2) μ16 _ h) kF_0 (by decide) (enc_6 kF_0) rfl gw_L_176 ⟨rfl, hd_X6_thick⟩ ⟨Nat.zero_le _, Nat.zero_le _⟩ rfl rfl ⟨Nat.le_of_ble_eq_true rfl, Nat.le_of_ble_eq_true rfl⟩ rfl rfl (Nat.le_of_ble_eq_true rfl) dL_thick_134 (fun r17 μ18 h => ?_)
                    refine b_iload X dL_thick_137 6 rfl ?_
                    refine b_icmp_lt (t := 190) X dL_thick_139 (by decide) (fun c => ?_) (fun c => ?_)
                    · replace h := h.1 c
                      refine b_sub (lv' := [(0, .ref (ad 0)), (2, .int a2), (5, .int v5), (6, .int v6), (8, .int r11)]) [3, 5, 7, 8, 1] rfl ?_
                      exact B190 v5 v6 r11 μ18 h
                    · replace h := h.2 c
                      refine b_aload_n X dL_thick_142 rfl 3 rfl ?_
                      refine b_iconst (v := (nI 2)) X dL_thick_143 (by decide) ?_
                      refine bVi (st := []) (nA := 1) X (c_X6_thick l D C ad (nI 2) μ18 _ h) kF_0 (by decide) (enc_6 kF_0) rfl gw_L_176 ⟨rfl, hd_X6_thick⟩ ⟨Nat.zero_le _, Nat.zero_le _⟩ rfl rfl ⟨Nat.le_of_ble_eq_true rfl, Nat.le_of_ble_eq_true rfl⟩ rfl rfl (Nat.le_of_ble_eq_true rfl) dL_thick_144 (fun r19 μ20 h => ?_)
                      refine b_aload_n X dL_thick_147 rfl 3 rfl ?_
                      refine b_iconst (v := (nI 1)) X dL_thick_148 (by decide) ?_
                      refine bVi (st := [.int r19]) (nA := 1) X (c_X6_thick l D C ad (nI 1) μ20 _ h) kF_0 (by decide) (enc_6 kF_0) rfl gw_L_176 ⟨rfl, hd_X6_thick⟩ ⟨Nat.zero_le _, Nat.zero_le _⟩ rfl rfl ⟨Nat.le_of_ble_eq_true rfl, Nat.le_of_ble_eq_true rfl⟩ rfl rfl (Nat.le_of_ble_eq_true rfl) dL_thick_149 (fun r21 μ22 h => ?_)
                      refine b_isub X dL_thick_152 ?_
                      refine b_iload X dL_thick_153 1 rfl ?_
                      refine b_iconst (v := (nI 1)) X dL_thick_155 (by decide) ?_
                      refine b_isub X dL_thick_156 ?_
                      refine b_icmp_lt (t := 190) X dL_thick_157 (by decide) (fun c => ?_) (fun c => ?_)
                      · replace h := h.1 c
                        refine b_sub (lv' := [(0, .ref (ad 0)), (2, .int a2), (5, .int v5), (6, .int v6), (8, .int r11)]) [3, 5, 7, 8, 1] rfl ?_
                        exact B190 v5 v6 r11 μ22 h
                      · replace h := h.2 c
                        refine b_iload X dL_thick_160 0 rfl ?_
                        refine b_iconst (v := ((-1) : Int32)) X dL_thick_162 (by decide) ?_
                        refine b_icmp_lt (t := 190) X dL_thick_163 (by decide) (fun c => ?_) (fun c => ?_)
                        · replace h := h.1 c
                          refine b_sub (lv' := [(0, .ref (ad 0)), (2, .int a2), (5, .int v5), (6, .int v6), (8, .int r11)]) [3, 5, 7, 8, 1] rfl ?_
                          exact B190 v5 v6 r11 μ22 h
                        · replace h := h.2 c
                          refine b_iload X dL_thick_166 0 rfl ?_
                          refine b_aload_n X dL_thick_168 rfl 4 rfl ?_
                          refine b_iconst (v := (nI 3)) X dL_thick_169 (by decide) ?_
                          have hz := h.1
                          replace h := h.2
                          refine b_iald X kF_246 nF_246 hz dL_thick_170 ?_
                          clear hz
                          refine b_icmp_ge (t := 190) X dL_thick_171 (by decide) (fun c => ?_) (fun c => ?_)
                          · replace h := h.1 c
                            refine b_sub (lv' := [(0, .ref (ad 0)), (2, .int a2), (5, .int v5), (6, .int v6), (8, .int r11)]) [3, 5, 7, 8, 1] rfl ?_
                            exact B190 v5 v6 r11 μ22 h
                          · replace h := h.2 c
                            refine b_iload X dL_thick_174 1 rfl ?_
                            refine b_iconst (v := (nI 1)) X dL_thick_176 (by decide) ?_
                            refine b_icmp_gt (t := 186) X dL_thick_177 (by decide) (fun c => ?_) (fun c => ?_)
                            · replace h := h.1 c
                              refine b_sub (lv' := [(0, .ref (ad 0)), (2, .int a2), (5, .int v5), (6, .int v6), (8, .int r11)]) [3, 5, 7, 8, 1] rfl ?_
                              exact B186 v5 v6 r11 μ22 h
                            · replace h := h.2 c
                              refine b_iload X dL_thick_180 0 rfl ?_
                              refine b_iconst (v := ((-1) : Int32)) X dL_thick_182 (by decide) ?_
                              refine b_icmp_ne (t := 190) X dL_thick_183 (by decide) (fun c => ?_) (fun c => ?_)
                              · replace h := h.1 c
                                refine b_sub (lv' := [(0, .ref (ad 0)), (2, .int a2), (5, .int v5), (6, .int v6), (8, .int r11)]) [3, 5, 7, 8, 1] rfl ?_
                                exact B190 v5 v6 r11 μ22 h
                              · replace h := h.2 c
                                refine b_sub (lv' := [(0, .ref (ad 0)), (2, .int a2), (5, .int v5), (6, .int v6), (8, .int r11)]) [3, 5, 7, 8, 1] rfl ?_
                                exact B186 v5 v6 r11 μ22 h
            · replace h := h.2 c
              refine b_iconst (v := (nI 0)) X dL_thick_93 (by decide) ?_
              exact hret _ _ _ _ ⟨(Or.inl rfl), h⟩ dL_thick_94
      have B48 : ∀ (v7 : Int32) (s2 : Int32) (s1 : Int32) (μ : Mem), w_L_thick_48 a2 a3 Y20 v4 v5 v7 s2 s1 μ Q → WB sF l D C ad rm_L_thick K 11 μ 48 [(0, .ref (ad 0)), (1, .ref (ad 246)), (2, .int a2), (4, .int v4), (5, .int v5), (7, .int v7)] [.int s2, .int s1] := by
        intro v7 s2 s1 μ h
        unfold w_L_thick_48 at h
        refine b_iadd X dL_thick_48 ?_
        refine b_topi (fun x5 ex5 => ?_)
        replace h := h x5 ex5
        refine b_istore (lv' := [(6, .int x5), (0, .ref (ad 0)), (1, .ref (ad 246)), (2, .int a2), (4, .int v4), (5, .int v5), (7, .int v7)]) X dL_thick_49 (by decide) rfl ?_
        obtain ⟨x6, ex6⟩ : ∃ y : Int32, y = v7 + (nI 1) := ⟨_, rfl⟩
        replace h := h x6 ex6
        refine b_iinc (x := x6) (lv' := [(7, .int x6), (6, .int x5), (0, .ref (ad 0)), (1, .ref (ad 246)), (2, .int a2), (4, .int v4), (5, .int v5)]) (q := 6) X dL_thick_51 rfl (by rw [ex6]; rfl) (by decide) rfl ?_
        refine b_goto (t := 20) X dL_thick_54 (by decide) ?_
        refine b_sub (lv' := [(0, .ref (ad 0)), (1, .ref (ad 246)), (2, .int a2), (4, .int v4), (5, .int v5), (6, .int x5), (7, .int x6)]) [2, 3, 4, 5, 6, 1, 0] rfl ?_
        exact T20 x5 x6 μ h
      refine b_iload X dL_thick_20 6 rfl ?_
      refine b_iload X dL_thick_22 3 rfl ?_
      refine b_icmp_ge (t := 57) X dL_thick_24 (by decide) (fun c => ?_) (fun c => ?_)
      · replace h := h.1 c
        refine b_sub (lv' := [(0, .ref (ad 0)), (1, .ref (ad 246)), (2, .int a2), (4, .int v4), (5, .int v5), (6, .int v6)]) [0, 1, 2, 3, 4, 5] rfl ?_
        exact B57 v4 v5 v6 μ h
      · replace h := h.2 c
        refine b_iload X dL_thick_27 5 rfl ?_
        refine b_aload_n X dL_thick_29 rfl 0 rfl ?_
        refine b_iload X dL_thick_30 3 rfl ?_
        refine b_iload X dL_thick_32 4 rfl ?_
        refine b_iload X dL_thick_34 6 rfl ?_
        refine bVi (st := [.int v6]) (nA := 3) X (c_X6_led l D C ad v4 v5 v7 μ _ h) kF_0 (by decide) (enc_6 kF_0) rfl gw_L_167 ⟨rfl, hd_X6_led⟩ ⟨Nat.zero_le _, Nat.zero_le _⟩ rfl rfl ⟨Nat.le_of_ble_eq_true rfl, Nat.le_of_ble_eq_true rfl⟩ rfl rfl (Nat.le_of_ble_eq_true rfl) dL_thick_36 (fun r3 μ4 h => ?_)
        refine b_iload_n X dL_thick_39 rfl 2 rfl ?_
        refine b_icmp_ne (t := 47) X dL_thick_40 (by decide) (fun c => ?_) (fun c => ?_)
        · replace h := h.1 c
          refine b_iconst (v := (nI 0)) X dL_thick_47 (by decide) ?_
          refine b_sub (lv' := [(0, .ref (ad 0)), (1, .ref (ad 246)), (2, .int a2), (4, .int v4), (5, .int v5), (7, .int v7)]) [0, 1, 2, 3, 4, 6] rfl ?_
          exact B48 v7 (nI 0) v6 μ4 h
        · replace h := h.2 c
          refine b_iconst (v := (nI 1)) X dL_thick_43 (by decide) ?_
          refine b_goto (t := 48) X dL_thick_44 (by decide) ?_
          refine b_sub (lv' := [(0, .ref (ad 0)), (1, .ref (ad 246)), (2, .int a2), (4, .int v4), (5, .int v5), (7, .int v7)]) [0, 1, 2, 3, 4, 6] rfl ?_
          exact B48 v7 (nI 1) v6 μ4 h
    rw [eY] at B20
    exact B20
  refine b_iload_n X dL_thick_0 rfl 3 rfl ?_
  refine b_bipush (v := (nI 41)) X dL_thick_1 (by decide) ?_
  have hz := h.1
  replace h := h.2
  refine b_irem X dL_thick_3 hz ?_
  clear hz
  refine b_topi (fun x1 ex1 => ?_)
  replace h := h x1 ex1
  refine b_istore (lv' := [(4, .int x1), (0, .ref (ad 0)), (1, .ref (ad 246)), (2, .int a2), (3, .int a3)]) X dL_thick_4 (by decide) rfl ?_
  refine b_iload_n X dL_thick_6 rfl 4 rfl ?_
  refine b_bipush (v := (nI 64)) X dL_thick_7 (by decide) ?_
  have hz := h.1
  replace h := h.2
  refine b_idiv X dL_thick_9 hz ?_
  clear hz
  refine b_iconst (v := (nI 2)) X dL_thick_10 (by decide) ?_
  have hz := h.1
  replace h := h.2
  refine b_irem X dL_thick_11 hz ?_
  clear hz
  refine b_topi (fun x2 ex2 => ?_)
  replace h := h x2 ex2
  refine b_istore (lv' := [(5, .int x2), (4, .int x1), (0, .ref (ad 0)), (1, .ref (ad 246)), (2, .int a2), (3, .int a3)]) X dL_thick_12 (by decide) rfl ?_
  refine b_iconst (v := (nI 0)) X dL_thick_14 (by decide) ?_
  refine b_istore (lv' := [(6, .int (nI 0)), (5, .int x2), (4, .int x1), (0, .ref (ad 0)), (1, .ref (ad 246)), (2, .int a2), (3, .int a3)]) X dL_thick_15 (by decide) rfl ?_
  refine b_iconst (v := (nI 0)) X dL_thick_17 (by decide) ?_
  refine b_istore (lv' := [(7, .int (nI 0)), (6, .int (nI 0)), (5, .int x2), (4, .int x1), (0, .ref (ad 0)), (1, .ref (ad 246)), (2, .int a2), (3, .int a3)]) X dL_thick_18 (by decide) rfl ?_
  refine b_sub (lv' := [(0, .ref (ad 0)), (1, .ref (ad 246)), (2, .int a2), (4, .int x1), (5, .int x2), (6, .int (nI 0)), (7, .int (nI 0))]) [4, 5, 6, 3, 2, 1, 0] rfl ?_
  exact B20 x1 x2 (nI 0) (nI 0) μ h
set_option maxHeartbeats 4000000 in
set_option maxRecDepth 100000 in
theorem c_L_took (l : Launch) (D : va_G) (C : Nat → ClassId) (ad : Nat → Nat) (a1 : Int32) (μ : Mem) (Q : Int32 → Mem → Prop) (h : w_L_took a1 μ Q) : Mi sF l yL_took cL_took 4 (some .int) rm_L_took D C ad [.ref (ad 0), .int a1] μ Q := by
  refine fm_i (by decide +kernel) sF_lt (Nat.le_of_ble_eq_true rfl) (fun K X hret => ?_)
  have X : CK sF D C ad K cL_took 4 RL := X
  refine b_lv (lv' := [(0, .ref (ad 0)), (1, .int a1)]) rfl ?_
  unfold w_L_took at h
  have B4 : ∀ (v2 : Int32) (v3 : Int32) (μ : Mem), w_L_took_4 a1 v2 v3 μ Q → WB sF l D C ad rm_L_took K 4 μ 4 [(0, .ref (ad 0)), (1, .int a1), (2, .int v2), (3, .int v3)] [] := by
    intro v2 v3 μ h
    obtain ⟨Y4, eY⟩ : ∃ Y : Int32 → Int32 → Mem → Prop, Y = fun (v2 : Int32) (v3 : Int32) (μ : Mem) => WB sF l D C ad rm_L_took K 4 μ 4 [(0, .ref (ad 0)), (1, .int a1), (2, .int v2), (3, .int v3)] [] := ⟨_, rfl⟩
    have B4 : Y4 v2 v3 μ := by
      unfold w_L_took_4 at h
      refine h Y4 ?_
      clear h
      intro v2 v3 μ h
      unfold s_L_took_4 at h
      rw [eY]
      show WB sF l D C ad rm_L_took K 4 μ 4 [(0, .ref (ad 0)), (1, .int a1), (2, .int v2), (3, .int v3)] []
      have T4 : ∀ (v2 : Int32) (v3 : Int32) (μ : Mem), Y4 v2 v3 μ → WB sF l D C ad rm_L_took K 4 μ 4 [(0, .ref (ad 0)), (1, .int a1), (2, .int v2), (3, .int v3)] [] := by
        intro v2 v3 μ h
        rw [eY] at h
        exact h
      clear eY
      refine b_iload_n X dL_took_4 rfl 3 rfl ?_
      refine b_aload_n X dL_took_5 rfl 0 rfl ?_
      refine b_iconst (v := (nI 3)) X dL_took_6 (by decide) ?_
      refine bVi (st := [.int v3]) (nA := 1) X (c_X6_told l D C ad (nI 3) μ _ h) kF_0 (by decide) (enc_6 kF_0) rfl gw_L_28 ⟨rfl, hd_X6_told⟩ ⟨Nat.zero_le _, Nat.zero_le _⟩ rfl rfl ⟨Nat.le_of_ble_eq_true rfl, Nat.le_of_ble_eq_true rfl⟩ rfl rfl (Nat.le_of_ble_eq_true rfl) dL_took_7 (fun r1 μ2 h => ?_)
      obtain ⟨rfl, h⟩ := h
      refine b_icmp_ge (t := 28) X dL_took_10 (by decide) (fun c => ?_) (fun c => ?_)
      · replace h := h.1 c
        refine b_iload_n X dL_took_28 rfl 2 rfl ?_
        exact hret _ _ _ _ h dL_took_29
      · replace h := h.2 c
        refine b_iload_n X dL_took_13 rfl 2 rfl ?_
        refine b_aload_n X dL_took_14 rfl 0 rfl ?_
        refine b_iload_n X dL_took_15 rfl 3 rfl ?_
        refine b_iload_n X dL_took_16 rfl 1 rfl ?_
        refine bVi (st := [.int v2]) (nA := 2) X (c_X6_gets l D C ad v3 a1 μ _ h) kF_0 (by decide) (enc_6 kF_0) rfl gw_L_105 ⟨rfl, hd_X6_gets⟩ ⟨Nat.zero_le _, Nat.zero_le _⟩ rfl rfl ⟨Nat.le_of_ble_eq_true rfl, Nat.le_of_ble_eq_true rfl⟩ rfl rfl (Nat.le_of_ble_eq_true rfl) dL_took_17 (fun r3 μ4 h => ?_)
        refine b_iadd X dL_took_20 ?_
        refine b_topi (fun x5 ex5 => ?_)
        replace h := h x5 ex5
        refine b_istore_n (lv' := [(2, .int x5), (0, .ref (ad 0)), (1, .int a1), (3, .int v3)]) X dL_took_21 rfl (by decide) rfl ?_
        obtain ⟨x6, ex6⟩ : ∃ y : Int32, y = v3 + (nI 1) := ⟨_, rfl⟩
        replace h := h x6 ex6
        refine b_iinc (x := x6) (lv' := [(3, .int x6), (2, .int x5), (0, .ref (ad 0)), (1, .int a1)]) (q := 3) X dL_took_22 rfl (by rw [ex6]; rfl) (by decide) rfl ?_
        refine b_goto (t := 4) X dL_took_25 (by decide) ?_
        refine b_sub (lv' := [(0, .ref (ad 0)), (1, .int a1), (2, .int x5), (3, .int x6)]) [2, 3, 1, 0] rfl ?_
        exact T4 x5 x6 μ4 h
    rw [eY] at B4
    exact B4
  refine b_iconst (v := (nI 0)) X dL_took_0 (by decide) ?_
  refine b_istore_n (lv' := [(2, .int (nI 0)), (0, .ref (ad 0)), (1, .int a1)]) X dL_took_1 rfl (by decide) rfl ?_
  refine b_iconst (v := (nI 0)) X dL_took_2 (by decide) ?_
  refine b_istore_n (lv' := [(3, .int (nI 0)), (2, .int (nI 0)), (0, .ref (ad 0)), (1, .int a1)]) X dL_took_3 rfl (by decide) rfl ?_
  refine b_sub (lv' := [(0, .ref (ad 0)), (1, .int a1), (2, .int (nI 0)), (3, .int (nI 0))]) [2, 3, 1, 0] rfl ?_
  exact B4 (nI 0) (nI 0) μ h
set_option maxHeartbeats 4000000 in
set_option maxRecDepth 100000 in
theorem c_L_lamps (l : Launch) (D : va_G) (C : Nat → ClassId) (ad : Nat → Nat) (a1 : Int32) (a2 : Int32) (μ : Mem) (Q : Int32 → Mem → Prop) (h : w_L_lamps a1 a2 μ Q) : Mi sF l yL_lamps cL_lamps 5 (some .boolean) rm_L_lamps D C ad [.ref (ad 0), .int a1, .int a2] μ Q := by
  refine fm_z (by decide +kernel) sF_lt (Nat.le_of_ble_eq_true rfl) (fun K X hret => ?_)
  have X : CK sF D C ad K cL_lamps 5 RL := X
  refine b_lv (lv' := [(0, .ref (ad 0)), (1, .int a1), (2, .int a2)]) rfl ?_
  unfold w_L_lamps at h
  refine b_aload_n X dL_lamps_0 rfl 0 rfl ?_
  refine b_iload_n X dL_lamps_1 rfl 1 rfl ?_
  refine bVi (st := []) (nA := 1) X (c_X6_lampCosts l D C ad a1 μ _ h) kF_0 (by decide) (enc_6 kF_0) rfl gw_L_184 ⟨rfl, hd_X6_lampCosts⟩ ⟨Nat.zero_le _, Nat.zero_le _⟩ rfl rfl ⟨Nat.le_of_ble_eq_true rfl, Nat.le_of_ble_eq_true rfl⟩ rfl rfl (Nat.le_of_ble_eq_true rfl) dL_lamps_2 (fun r1 μ2 h => ?_)
  refine b_istore_n (lv' := [(3, .int r1), (0, .ref (ad 0)), (1, .int a1), (2, .int a2)]) X dL_lamps_5 rfl (by decide) rfl ?_
  refine b_aload_n X dL_lamps_6 rfl 1 rfl ?_
  refine b_iload_n X dL_lamps_7 rfl 2 rfl ?_
  refine bSi (st := []) (nA := 2) X (c_L_took l D C ad a1 μ2 _ h) gw_L_187 hd_L_took ⟨Nat.zero_le _, Nat.zero_le _⟩ rfl rfl ⟨Nat.le_of_ble_eq_true rfl, Nat.le_of_ble_eq_true rfl⟩ rfl rfl (Nat.le_of_ble_eq_true rfl) dL_lamps_8 (fun r3 μ4 h => ?_)
  refine b_istore (lv' := [(4, .int r3), (3, .int r1), (0, .ref (ad 0)), (1, .int a1), (2, .int a2)]) X dL_lamps_11 (by decide) rfl ?_
  refine b_aload_n X dL_lamps_13 rfl 2 rfl ?_
  refine b_iconst (v := (nI 1)) X dL_lamps_14 (by decide) ?_
  refine bVi (st := []) (nA := 1) X (c_X6_lamp l D C ad (nI 1) μ4 _ h) kF_0 (by decide) (enc_6 kF_0) rfl gw_L_191 ⟨rfl, hd_X6_lamp⟩ ⟨Nat.zero_le _, Nat.zero_le _⟩ rfl rfl ⟨Nat.le_of_ble_eq_true rfl, Nat.le_of_ble_eq_true rfl⟩ rfl rfl (Nat.le_of_ble_eq_true rfl) dL_lamps_15 (fun r5 μ6 h => ?_)
  refine b_if_ne (t := 73) X dL_lamps_18 (by decide) (fun c => ?_) (fun c => ?_)
  · replace h := h.1 c
    refine b_iconst (v := (nI 0)) X dL_lamps_73 (by decide) ?_
    exact hret _ _ _ _ ⟨(Or.inl rfl), h⟩ dL_lamps_74
  · replace h := h.2 c
    refine b_iload X dL_lamps_21 0 rfl ?_
    refine b_aload_n X dL_lamps_23 rfl 2 rfl ?_
    refine b_iload_n X dL_lamps_24 rfl 3 rfl ?_
    refine bSi (st := [.int r3]) (nA := 2) X (c_L_took l D C ad a1 μ6 _ h) gw_L_187 hd_L_took ⟨Nat.zero_le _, Nat.zero_le _⟩ rfl rfl ⟨Nat.le_of_ble_eq_true rfl, Nat.le_of_ble_eq_true rfl⟩ rfl rfl (Nat.le_of_ble_eq_true rfl) dL_lamps_25 (fun r7 μ8 h => ?_)
    refine b_isub X dL_lamps_28 ?_
    refine b_iload_n X dL_lamps_29 rfl 1 rfl ?_
    refine b_icmp_ne (t := 73) X dL_lamps_30 (by decide) (fun c => ?_) (fun c => ?_)
    · replace h := h.1 c
      refine b_iconst (v := (nI 0)) X dL_lamps_73 (by decide) ?_
      exact hret _ _ _ _ ⟨(Or.inl rfl), h⟩ dL_lamps_74
    · replace h := h.2 c
      refine b_aload_n X dL_lamps_33 rfl 2 rfl ?_
      refine b_iload_n X dL_lamps_34 rfl 3 rfl ?_
      refine bVi (st := []) (nA := 1) X (c_X6_lampCosts l D C ad a1 μ8 _ h) kF_0 (by decide) (enc_6 kF_0) rfl gw_L_184 ⟨rfl, hd_X6_lampCosts⟩ ⟨Nat.zero_le _, Nat.zero_le _⟩ rfl rfl ⟨Nat.le_of_ble_eq_true rfl, Nat.le_of_ble_eq_true rfl⟩ rfl rfl (Nat.le_of_ble_eq_true rfl) dL_lamps_35 (fun r9 μ10 h => ?_)
      refine b_iload_n X dL_lamps_38 rfl 1 rfl ?_
      refine b_icmp_ne (t := 73) X dL_lamps_39 (by decide) (fun c => ?_) (fun c => ?_)
      · replace h := h.1 c
        refine b_iconst (v := (nI 0)) X dL_lamps_73 (by decide) ?_
        exact hret _ _ _ _ ⟨(Or.inl rfl), h⟩ dL_lamps_74
      · replace h := h.2 c
        refine b_aload_n X dL_lamps_42 rfl 2 rfl ?_
        refine b_iconst (v := (nI 1)) X dL_lamps_43 (by decide) ?_
        refine bVi (st := []) (nA := 1) X (c_X6_undo l D C ad (nI 1) μ10 _ h) kF_0 (by decide) (enc_6 kF_0) rfl gw_L_116 ⟨rfl, hd_X6_undo⟩ ⟨Nat.zero_le _, Nat.zero_le _⟩ rfl rfl ⟨Nat.le_of_ble_eq_true rfl, Nat.le_of_ble_eq_true rfl⟩ rfl rfl (Nat.le_of_ble_eq_true rfl) dL_lamps_44 (fun r11 μ12 h => ?_)
        refine b_if_lt (t := 73) X dL_lamps_47 (by decide) (fun c => ?_) (fun c => ?_)
        · replace h := h.1 c
          refine b_iconst (v := (nI 0)) X dL_lamps_73 (by decide) ?_
          exact hret _ _ _ _ ⟨(Or.inl rfl), h⟩ dL_lamps_74
        · replace h := h.2 c
          refine b_aload_n X dL_lamps_50 rfl 2 rfl ?_
          refine b_bipush (v := (nI 8)) X dL_lamps_51 (by decide) ?_
          refine bVi (st := []) (nA := 1) X (c_X6_told l D C ad (nI 8) μ12 _ h) kF_0 (by decide) (enc_6 kF_0) rfl gw_L_28 ⟨rfl, hd_X6_told⟩ ⟨Nat.zero_le _, Nat.zero_le _⟩ rfl rfl ⟨Nat.le_of_ble_eq_true rfl, Nat.le_of_ble_eq_true rfl⟩ rfl rfl (Nat.le_of_ble_eq_true rfl) dL_lamps_53 (fun r13 μ14 h => ?_)
          obtain ⟨rfl, h⟩ := h
          refine b_if_ne (t := 73) X dL_lamps_56 (by decide) (fun c => ?_) (fun c => ?_)
          · replace h := h.1 c
            refine b_iconst (v := (nI 0)) X dL_lamps_73 (by decide) ?_
            exact hret _ _ _ _ ⟨(Or.inl rfl), h⟩ dL_lamps_74
          · replace h := h.2 c
            refine b_aload_n X dL_lamps_59 rfl 2 rfl ?_
            refine b_bipush (v := (nI 15)) X dL_lamps_60 (by decide) ?_
            refine bVi (st := []) (nA := 1) X (c_X6_told l D C ad (nI 15) μ12 _ h) kF_0 (by decide) (enc_6 kF_0) rfl gw_L_28 ⟨rfl, hd_X6_told⟩ ⟨Nat.zero_le _, Nat.zero_le _⟩ rfl rfl ⟨Nat.le_of_ble_eq_true rfl, Nat.le_of_ble_eq_true rfl⟩ rfl rfl (Nat.le_of_ble_eq_true rfl) dL_lamps_62 (fun r15 μ16 h => ?_)
            obtain ⟨rfl, h⟩ := h
            refine b_iload_n X dL_lamps_65 rfl 4 rfl ?_
            refine b_icmp_ne (t := 73) X dL_lamps_66 (by decide) (fun c => ?_) (fun c => ?_)
            · replace h := h.1 c
              refine b_iconst (v := (nI 0)) X dL_lamps_73 (by decide) ?_
              exact hret _ _ _ _ ⟨(Or.inl rfl), h⟩ dL_lamps_74
            · replace h := h.2 c
              refine b_iconst (v := (nI 1)) X dL_lamps_69 (by decide) ?_
              refine b_goto (t := 74) X dL_lamps_70 (by decide) ?_
              exact hret _ _ _ _ ⟨(Or.inr rfl), h⟩ dL_lamps_74
set_option maxHeartbeats 4000000 in
set_option maxRecDepth 100000 in
theorem c_L_thirst (l : Launch) (D : va_G) (C : Nat → ClassId) (ad : Nat → Nat) (a2 : Int32) (a3 : Int32) (μ : Mem) (Q : Int32 → Mem → Prop) (h : w_L_thirst a2 a3 μ Q) : Mi sF l yL_thirst cL_thirst 7 (some .boolean) rm_L_thirst D C ad [.ref (ad 0), .ref (ad 246), .int a2, .int a3] μ Q := by
  refine fm_z (by decide +kernel) sF_lt (Nat.le_of_ble_eq_true rfl) (fun K X hret => ?_)
  have X : CK sF D C ad K cL_thirst 7 RL := X
  refine b_lv (lv' := [(0, .ref (ad 0)), (1, .ref (ad 246)), (2, .int a2), (3, .int a3)]) rfl ?_
  unfold w_L_thirst at h
  have B68 : ∀ (v4 : Int32) (v5 : Int32) (μ : Mem), w_L_thirst_68 a2 a3 v4 v5 μ Q → WB sF l D C ad rm_L_thirst K 7 μ 68 [(0, .ref (ad 0)), (2, .int a2), (3, .int a3), (4, .int v4), (5, .int v5)] [] := by
    intro v4 v5 μ h
    unfold w_L_thirst_68 at h
    have B95 : ∀ (v4 : Int32) (v5 : Int32) (v6 : Int32) (μ : Mem), w_L_thirst_95 a2 a3 v4 v5 v6 μ Q → WB sF l D C ad rm_L_thirst K 7 μ 95 [(0, .ref (ad 0)), (2, .int a2), (3, .int a3), (4, .int v4), (5, .int v5), (6, .int v6)] [] := by
      intro v4 v5 v6 μ h
      unfold w_L_thirst_95 at h
      have B108 : ∀ (v5 : Int32) (μ : Mem), w_L_thirst_108 a2 a3 v5 μ Q → WB sF l D C ad rm_L_thirst K 7 μ 108 [(0, .ref (ad 0)), (2, .int a2), (3, .int a3), (5, .int v5)] [] := by
        intro v5 μ h
        unfold w_L_thirst_108 at h
        refine b_aload_n X dL_thirst_108 rfl 0 rfl ?_
        refine b_iload_n X dL_thirst_109 rfl 1 rfl ?_
        refine b_iconst (v := (nI 3)) X dL_thirst_110 (by decide) ?_
        refine bVi (st := []) (nA := 2) X (c_X6_village l D C ad a2 (nI 3) μ _ h) kF_0 (by decide) (enc_6 kF_0) rfl gw_L_85 ⟨rfl, hd_X6_village⟩ ⟨Nat.zero_le _, Nat.zero_le _⟩ rfl rfl ⟨Nat.le_of_ble_eq_true rfl, Nat.le_of_ble_eq_true rfl⟩ rfl rfl (Nat.le_of_ble_eq_true rfl) dL_thirst_111 (fun r9 μ10 h => ?_)
        obtain ⟨rfl, h⟩ := h
        refine b_iload X dL_thirst_114 3 rfl ?_
        refine b_icmp_ne (t := 133) X dL_thirst_116 (by decide) (fun c => ?_) (fun c => ?_)
        · replace h := h.1 c
          refine b_iconst (v := (nI 0)) X dL_thirst_133 (by decide) ?_
          exact hret _ _ _ _ ⟨(Or.inl rfl), h⟩ dL_thirst_134
        · replace h := h.2 c
          refine b_aload_n X dL_thirst_119 rfl 0 rfl ?_
          refine b_bipush (v := (nI 15)) X dL_thirst_120 (by decide) ?_
          refine bVi (st := []) (nA := 1) X (c_X6_told l D C ad (nI 15) μ _ h) kF_0 (by decide) (enc_6 kF_0) rfl gw_L_28 ⟨rfl, hd_X6_told⟩ ⟨Nat.zero_le _, Nat.zero_le _⟩ rfl rfl ⟨Nat.le_of_ble_eq_true rfl, Nat.le_of_ble_eq_true rfl⟩ rfl rfl (Nat.le_of_ble_eq_true rfl) dL_thirst_122 (fun r11 μ12 h => ?_)
          obtain ⟨rfl, h⟩ := h
          refine b_iload_n X dL_thirst_125 rfl 2 rfl ?_
          refine b_icmp_ne (t := 133) X dL_thirst_126 (by decide) (fun c => ?_) (fun c => ?_)
          · replace h := h.1 c
            refine b_iconst (v := (nI 0)) X dL_thirst_133 (by decide) ?_
            exact hret _ _ _ _ ⟨(Or.inl rfl), h⟩ dL_thirst_134
          · replace h := h.2 c
            refine b_iconst (v := (nI 1)) X dL_thirst_129 (by decide) ?_
            refine b_goto (t := 134) X dL_thirst_130 (by decide) ?_
            exact hret _ _ _ _ ⟨(Or.inr rfl), h⟩ dL_thirst_134
      refine b_iload X dL_thirst_95 5 rfl ?_
      refine b_bipush (v := (nI 60)) X dL_thirst_97 (by decide) ?_
      refine b_icmp_lt (t := 108) X dL_thirst_99 (by decide) (fun c => ?_) (fun c => ?_)
      · replace h := h.1 c
        refine b_sub (lv' := [(0, .ref (ad 0)), (2, .int a2), (3, .int a3), (5, .int v5)]) [0, 1, 2, 4] rfl ?_
        exact B108 v5 μ h
      · replace h := h.2 c
        refine b_iload X dL_thirst_102 3 rfl ?_
        refine b_iconst (v := ((-1) : Int32)) X dL_thirst_104 (by decide) ?_
        refine b_icmp_ne (t := 133) X dL_thirst_105 (by decide) (fun c => ?_) (fun c => ?_)
        · replace h := h.1 c
          refine b_iconst (v := (nI 0)) X dL_thirst_133 (by decide) ?_
          exact hret _ _ _ _ ⟨(Or.inl rfl), h⟩ dL_thirst_134
        · replace h := h.2 c
          refine b_sub (lv' := [(0, .ref (ad 0)), (2, .int a2), (3, .int a3), (5, .int v5)]) [0, 1, 2, 4] rfl ?_
          exact B108 v5 μ h
    refine b_aload_n X dL_thirst_68 rfl 0 rfl ?_
    refine b_iload_n X dL_thirst_69 rfl 1 rfl ?_
    refine bVi (st := []) (nA := 1) X (c_X6_lasts l D C ad a2 μ _ h) kF_0 (by decide) (enc_6 kF_0) rfl gw_L_197 ⟨rfl, hd_X6_lasts⟩ ⟨Nat.zero_le _, Nat.zero_le _⟩ rfl rfl ⟨Nat.le_of_ble_eq_true rfl, Nat.le_of_ble_eq_true rfl⟩ rfl rfl (Nat.le_of_ble_eq_true rfl) dL_thirst_70 (fun r7 μ8 h => ?_)
    obtain ⟨rfl, h⟩ := h
    refine b_istore (lv' := [(6, .int r7), (0, .ref (ad 0)), (2, .int a2), (3, .int a3), (4, .int v4), (5, .int v5)]) X dL_thirst_73 (by decide) rfl ?_
    refine b_iload X dL_thirst_75 4 rfl ?_
    refine b_iconst (v := ((-1) : Int32)) X dL_thirst_77 (by decide) ?_
    refine b_icmp_eq (t := 95) X dL_thirst_78 (by decide) (fun c => ?_) (fun c => ?_)
    · replace h := h.1 c
      refine b_sub (lv' := [(0, .ref (ad 0)), (2, .int a2), (3, .int a3), (4, .int v4), (5, .int v5), (6, .int r7)]) [1, 2, 3, 4, 5, 0] rfl ?_
      exact B95 v4 v5 r7 μ h
    · replace h := h.2 c
      refine b_iload X dL_thirst_81 4 rfl ?_
      refine b_iload X dL_thirst_83 0 rfl ?_
      refine b_icmp_gt (t := 95) X dL_thirst_85 (by decide) (fun c => ?_) (fun c => ?_)
      · replace h := h.1 c
        refine b_sub (lv' := [(0, .ref (ad 0)), (2, .int a2), (3, .int a3), (4, .int v4), (5, .int v5), (6, .int r7)]) [1, 2, 3, 4, 5, 0] rfl ?_
        exact B95 v4 v5 r7 μ h
      · replace h := h.2 c
        refine b_iload X dL_thirst_88 0 rfl ?_
        refine b_bipush (v := (nI 60)) X dL_thirst_90 (by decide) ?_
        refine b_icmp_lt (t := 133) X dL_thirst_92 (by decide) (fun c => ?_) (fun c => ?_)
        · replace h := h.1 c
          refine b_iconst (v := (nI 0)) X dL_thirst_133 (by decide) ?_
          exact hret _ _ _ _ ⟨(Or.inl rfl), h⟩ dL_thirst_134
        · replace h := h.2 c
          refine b_sub (lv' := [(0, .ref (ad 0)), (2, .int a2), (3, .int a3), (4, .int v4), (5, .int v5), (6, .int r7)]) [1, 2, 3, 4, 5, 0] rfl ?_
          exact B95 v4 v5 r7 μ h
  refine b_aload_n X dL_thirst_0 rfl 0 rfl ?_
  refine b_iload_n X dL_thirst_1 rfl 2 rfl ?_
  refine bVi (st := []) (nA := 1) X (c_X6_thirsty l D C ad a2 μ _ h) kF_0 (by decide) (enc_6 kF_0) rfl gw_L_194 ⟨rfl, hd_X6_thirsty⟩ ⟨Nat.zero_le _, Nat.zero_le _⟩ rfl rfl ⟨Nat.le_of_ble_eq_true rfl, Nat.le_of_ble_eq_true rfl⟩ rfl rfl (Nat.le_of_ble_eq_true rfl) dL_thirst_2 (fun r1 μ2 h => ?_)
  refine b_istore (lv' := [(4, .int r1), (0, .ref (ad 0)), (1, .ref (ad 246)), (2, .int a2), (3, .int a3)]) X dL_thirst_5 (by decide) rfl ?_
  refine b_aload_n X dL_thirst_7 rfl 1 rfl ?_
  refine b_iload_n X dL_thirst_8 rfl 3 rfl ?_
  refine b_iconst (v := (nI 3)) X dL_thirst_9 (by decide) ?_
  refine bVi (st := []) (nA := 2) X (c_X6_village l D C ad a2 (nI 3) μ2 _ h) kF_0 (by decide) (enc_6 kF_0) rfl gw_L_85 ⟨rfl, hd_X6_village⟩ ⟨Nat.zero_le _, Nat.zero_le _⟩ rfl rfl ⟨Nat.le_of_ble_eq_true rfl, Nat.le_of_ble_eq_true rfl⟩ rfl rfl (Nat.le_of_ble_eq_true rfl) dL_thirst_10 (fun r3 μ4 h => ?_)
  obtain ⟨rfl, h⟩ := h
  refine b_istore (lv' := [(5, .int r3), (4, .int r1), (0, .ref (ad 0)), (1, .ref (ad 246)), (2, .int a2), (3, .int a3)]) X dL_thirst_13 (by decide) rfl ?_
  refine b_aload_n X dL_thirst_15 rfl 3 rfl ?_
  refine b_bipush (v := (nI 7)) X dL_thirst_16 (by decide) ?_
  refine b_iload_n X dL_thirst_18 rfl 4 rfl ?_
  refine b_iadd X dL_thirst_19 ?_
  have hz := h.1
  replace h := h.2
  refine b_iald X kF_246 nF_246 hz dL_thirst_20 ?_
  clear hz
  refine b_if_ne (t := 47) X dL_thirst_21 (by decide) (fun c => ?_) (fun c => ?_)
  · replace h := h.1 c
    refine b_iload X dL_thirst_47 1 rfl ?_
    refine b_iconst (v := ((-1) : Int32)) X dL_thirst_49 (by decide) ?_
    refine b_icmp_eq (t := 68) X dL_thirst_50 (by decide) (fun c => ?_) (fun c => ?_)
    · replace h := h.1 c
      refine b_sub (lv' := [(0, .ref (ad 0)), (2, .int a2), (3, .int a3), (4, .int r1), (5, .int r3)]) [2, 4, 5, 1, 0] rfl ?_
      exact B68 r1 r3 μ2 h
    · replace h := h.2 c
      refine b_iload X dL_thirst_53 1 rfl ?_
      refine b_iconst (v := (nI 1)) X dL_thirst_55 (by decide) ?_
      refine b_icmp_lt (t := 66) X dL_thirst_56 (by decide) (fun c => ?_) (fun c => ?_)
      · replace h := h.1 c
        refine b_iconst (v := (nI 0)) X dL_thirst_66 (by decide) ?_
        exact hret _ _ _ _ ⟨(Or.inl rfl), h⟩ dL_thirst_67
      · replace h := h.2 c
        refine b_iload X dL_thirst_59 1 rfl ?_
        refine b_bipush (v := (nI 60)) X dL_thirst_61 (by decide) ?_
        refine b_icmp_le (t := 68) X dL_thirst_63 (by decide) (fun c => ?_) (fun c => ?_)
        · replace h := h.1 c
          refine b_sub (lv' := [(0, .ref (ad 0)), (2, .int a2), (3, .int a3), (4, .int r1), (5, .int r3)]) [2, 4, 5, 1, 0] rfl ?_
          exact B68 r1 r3 μ2 h
        · replace h := h.2 c
          refine b_iconst (v := (nI 0)) X dL_thirst_66 (by decide) ?_
          exact hret _ _ _ _ ⟨(Or.inl rfl), h⟩ dL_thirst_67
  · replace h := h.2 c
    refine b_iload X dL_thirst_24 1 rfl ?_
    refine b_iconst (v := ((-1) : Int32)) X dL_thirst_26 (by decide) ?_
    refine b_icmp_ne (t := 45) X dL_thirst_27 (by decide) (fun c => ?_) (fun c => ?_)
    · replace h := h.1 c
      refine b_iconst (v := (nI 0)) X dL_thirst_45 (by decide) ?_
      exact hret _ _ _ _ ⟨(Or.inl rfl), h⟩ dL_thirst_46
    · replace h := h.2 c
      refine b_aload_n X dL_thirst_30 rfl 2 rfl ?_
      refine b_iload_n X dL_thirst_31 rfl 4 rfl ?_
      refine bVi (st := []) (nA := 1) X (c_X6_lasts l D C ad a2 μ2 _ h) kF_0 (by decide) (enc_6 kF_0) rfl gw_L_197 ⟨rfl, hd_X6_lasts⟩ ⟨Nat.zero_le _, Nat.zero_le _⟩ rfl rfl ⟨Nat.le_of_ble_eq_true rfl, Nat.le_of_ble_eq_true rfl⟩ rfl rfl (Nat.le_of_ble_eq_true rfl) dL_thirst_32 (fun r5 μ6 h => ?_)
      obtain ⟨rfl, h⟩ := h
      refine b_sipush (v := (nI 999)) X dL_thirst_35 (by decide) ?_
      refine b_icmp_ne (t := 45) X dL_thirst_38 (by decide) (fun c => ?_) (fun c => ?_)
      · replace h := h.1 c
        refine b_iconst (v := (nI 0)) X dL_thirst_45 (by decide) ?_
        exact hret _ _ _ _ ⟨(Or.inl rfl), h⟩ dL_thirst_46
      · replace h := h.2 c
        refine b_iconst (v := (nI 1)) X dL_thirst_41 (by decide) ?_
        refine b_goto (t := 46) X dL_thirst_42 (by decide) ?_
        exact hret _ _ _ _ ⟨(Or.inr rfl), h⟩ dL_thirst_46
set_option maxHeartbeats 4000000 in
set_option maxRecDepth 100000 in
theorem c_L_led (l : Launch) (D : va_G) (C : Nat → ClassId) (ad : Nat → Nat) (a2 : Int32) (a3 : Int32) (μ : Mem) (Q : Int32 → Mem → Prop) (h : w_L_led a2 a3 μ Q) : Mi sF l yL_led cL_led 9 (some .boolean) rm_L_led D C ad [.ref (ad 0), .ref (ad 246), .int a2, .int a3] μ Q := by
  refine fm_z (by decide +kernel) sF_lt (Nat.le_of_ble_eq_true rfl) (fun K X hret => ?_)
  have X : CK sF D C ad K cL_led 9 RL := X
  refine b_lv (lv' := [(0, .ref (ad 0)), (1, .ref (ad 246)), (2, .int a2), (3, .int a3)]) rfl ?_
  unfold w_L_led at h
  have B13 : ∀ (v4 : Int32) (v5 : Int32) (v6 : Int32) (v7 : Int32) (μ : Mem), w_L_led_13 a2 a3 v4 v5 v6 v7 μ Q → WB sF l D C ad rm_L_led K 9 μ 13 [(0, .ref (ad 0)), (1, .ref (ad 246)), (2, .int a2), (3, .int a3), (4, .int v4), (5, .int v5), (6, .int v6), (7, .int v7)] [] := by
    intro v4 v5 v6 v7 μ h
    obtain ⟨Y13, eY⟩ : ∃ Y : Int32 → Int32 → Int32 → Int32 → Mem → Prop, Y = fun (v4 : Int32) (v5 : Int32) (v6 : Int32) (v7 : Int32) (μ : Mem) => WB sF l D C ad rm_L_led K 9 μ 13 [(0, .ref (ad 0)), (1, .ref (ad 246)), (2, .int a2), (3, .int a3), (4, .int v4), (5, .int v5), (6, .int v6), (7, .int v7)] [] := ⟨_, rfl⟩
    have B13 : Y13 v4 v5 v6 v7 μ := by
      unfold w_L_led_13 at h
      refine h Y13 ?_
      clear h
      intro v4 v5 v6 v7 μ h
      unfold s_L_led_13 at h
      rw [eY]
      show WB sF l D C ad rm_L_led K 9 μ 13 [(0, .ref (ad 0)), (1, .ref (ad 246)), (2, .int a2), (3, .int a3), (4, .int v4), (5, .int v5), (6, .int v6), (7, .int v7)] []
      have T13 : ∀ (v4 : Int32) (v5 : Int32) (v6 : Int32) (v7 : Int32) (μ : Mem), Y13 v4 v5 v6 v7 μ → WB sF l D C ad rm_L_led K 9 μ 13 [(0, .ref (ad 0)), (1, .ref (ad 246)), (2, .int a2), (3, .int a3), (4, .int v4), (5, .int v5), (6, .int v6), (7, .int v7)] [] := by
        intro v4 v5 v6 v7 μ h
        rw [eY] at h
        exact h
      clear eY
      have B53 : ∀ (v4 : Int32) (v5 : Int32) (v6 : Int32) (v7 : Int32) (v8 : Int32) (μ : Mem), w_L_led_53 a2 a3 Y13 v4 v5 v6 v7 v8 μ Q → WB sF l D C ad rm_L_led K 9 μ 53 [(0, .ref (ad 0)), (1, .ref (ad 246)), (2, .int a2), (3, .int a3), (4, .int v4), (5, .int v5), (6, .int v6), (7, .int v7), (8, .int v8)] [] := by
        intro v4 v5 v6 v7 v8 μ h
        unfold w_L_led_53 at h
        have B76 : ∀ (v4 : Int32) (v5 : Int32) (v6 : Int32) (v7 : Int32) (v8 : Int32) (μ : Mem), w_L_led_76 a2 a3 Y13 v4 v5 v6 v7 v8 μ Q → WB sF l D C ad rm_L_led K 9 μ 76 [(0, .ref (ad 0)), (1, .ref (ad 246)), (2, .int a2), (3, .int a3), (4, .int v4), (5, .int v5), (6, .int v6), (7, .int v7), (8, .int v8)] [] := by
          intro v4 v5 v6 v7 v8 μ h
          unfold w_L_led_76 at h
          have B97 : ∀ (v4 : Int32) (v5 : Int32) (v6 : Int32) (v7 : Int32) (v8 : Int32) (μ : Mem), w_L_led_97 a2 a3 Y13 v4 v5 v6 v7 v8 μ Q → WB sF l D C ad rm_L_led K 9 μ 97 [(0, .ref (ad 0)), (1, .ref (ad 246)), (2, .int a2), (3, .int a3), (4, .int v4), (5, .int v5), (6, .int v6), (7, .int v7), (8, .int v8)] [] := by
            intro v4 v5 v6 v7 v8 μ h
            unfold w_L_led_97 at h
            have B150 : ∀ (v4 : Int32) (v5 : Int32) (v6 : Int32) (v7 : Int32) (v8 : Int32) (μ : Mem), w_L_led_150 a2 a3 Y13 v4 v5 v6 v7 v8 μ Q → WB sF l D C ad rm_L_led K 9 μ 150 [(0, .ref (ad 0)), (1, .ref (ad 246)), (2, .int a2), (3, .int a3), (4, .int v4), (5, .int v5), (6, .int v6), (7, .int v7), (8, .int v8)] [] := by
              intro v4 v5 v6 v7 v8 μ h
              unfold w_L_led_150 at h
              have B165 : ∀ (v4 : Int32) (v6 : Int32) (v7 : Int32) (v8 : Int32) (s2 : Int32) (s1 : Int32) (μ : Mem), w_L_led_165 a2 a3 Y13 v4 v6 v7 v8 s2 s1 μ Q → WB sF l D C ad rm_L_led K 9 μ 165 [(0, .ref (ad 0)), (1, .ref (ad 246)), (2, .int a2), (3, .int a3), (4, .int v4), (6, .int v6), (7, .int v7), (8, .int v8)] [.int s2, .int s1] := by
                intro v4 v6 v7 v8 s2 s1 μ h
                unfold w_L_led_165 at h
                have B180 : ∀ (v4 : Int32) (v5 : Int32) (v7 : Int32) (v8 : Int32) (s2 : Int32) (s1 : Int32) (μ : Mem), w_L_led_180 a2 a3 Y13 v4 v5 v7 v8 s2 s1 μ Q → WB sF l D C ad rm_L_led K 9 μ 180 [(0, .ref (ad 0)), (1, .ref (ad 246)), (2, .int a2), (3, .int a3), (4, .int v4), (5, .int v5), (7, .int v7), (8, .int v8)] [.int s2, .int s1] := by
                  intro v4 v5 v7 v8 s2 s1 μ h
                  unfold w_L_led_180 at h
                  have B195 : ∀ (v5 : Int32) (v6 : Int32) (v7 : Int32) (s1 : Int32) (μ : Mem), w_L_led_195 a2 a3 Y13 v5 v6 v7 s1 μ Q → WB sF l D C ad rm_L_led K 9 μ 195 [(0, .ref (ad 0)), (1, .ref (ad 246)), (2, .int a2), (3, .int a3), (5, .int v5), (6, .int v6), (7, .int v7)] [.int s1] := by
                    intro v5 v6 v7 s1 μ h
                    unfold w_L_led_195 at h
                    refine b_istore (lv' := [(4, .int s1), (0, .ref (ad 0)), (1, .ref (ad 246)), (2, .int a2), (3, .int a3), (5, .int v5), (6, .int v6), (7, .int v7)]) X dL_led_195 (by decide) rfl ?_
                    obtain ⟨x11, ex11⟩ : ∃ y : Int32, y = v7 + (nI 1) := ⟨_, rfl⟩
                    replace h := h x11 ex11
                    refine b_iinc (x := x11) (lv' := [(7, .int x11), (4, .int s1), (0, .ref (ad 0)), (1, .ref (ad 246)), (2, .int a2), (3, .int a3), (5, .int v5), (6, .int v6)]) (q := 7) X dL_led_197 rfl (by rw [ex11]; rfl) (by decide) rfl ?_
                    refine b_goto (t := 13) X dL_led_200 (by decide) ?_
                    refine b_sub (lv' := [(0, .ref (ad 0)), (1, .ref (ad 246)), (2, .int a2), (3, .int a3), (4, .int s1), (5, .int v5), (6, .int v6), (7, .int x11)]) [2, 3, 4, 5, 1, 6, 7, 0] rfl ?_
                    exact T13 s1 v5 v6 x11 μ h
                  refine b_iadd X dL_led_180 ?_
                  refine b_topi (fun x10 ex10 => ?_)
                  replace h := h x10 ex10
                  refine b_istore (lv' := [(6, .int x10), (0, .ref (ad 0)), (1, .ref (ad 246)), (2, .int a2), (3, .int a3), (4, .int v4), (5, .int v5), (7, .int v7), (8, .int v8)]) X dL_led_181 (by decide) rfl ?_
                  refine b_iload X dL_led_183 8 rfl ?_
                  refine b_if_ge (t := 193) X dL_led_185 (by decide) (fun c => ?_) (fun c => ?_)
                  · replace h := h.1 c
                    refine b_iload X dL_led_193 8 rfl ?_
                    refine b_sub (lv' := [(0, .ref (ad 0)), (1, .ref (ad 246)), (2, .int a2), (3, .int a3), (5, .int v5), (6, .int x10), (7, .int v7)]) [1, 2, 3, 4, 6, 0, 7] rfl ?_
                    exact B195 v5 x10 v7 v8 μ h
                  · replace h := h.2 c
                    refine b_iload X dL_led_188 5 rfl ?_
                    refine b_goto (t := 195) X dL_led_190 (by decide) ?_
                    refine b_sub (lv' := [(0, .ref (ad 0)), (1, .ref (ad 246)), (2, .int a2), (3, .int a3), (5, .int v5), (6, .int x10), (7, .int v7)]) [1, 2, 3, 4, 6, 0, 7] rfl ?_
                    exact B195 v5 x10 v7 v4 μ h
                refine b_ior X dL_led_165 ?_
                refine b_topi (fun x9 ex9 => ?_)
                replace h := h x9 ex9
                refine b_istore (lv' := [(5, .int x9), (0, .ref (ad 0)), (1, .ref (ad 246)), (2, .int a2), (3, .int a3), (4, .int v4), (6, .int v6), (7, .int v7), (8, .int v8)]) X dL_led_166 (by decide) rfl ?_
                refine b_iload X dL_led_168 6 rfl ?_
                refine b_iload X dL_led_170 8 rfl ?_
                refine b_if_ge (t := 179) X dL_led_172 (by decide) (fun c => ?_) (fun c => ?_)
                · replace h := h.1 c
                  refine b_iconst (v := (nI 0)) X dL_led_179 (by decide) ?_
                  refine b_sub (lv' := [(0, .ref (ad 0)), (1, .ref (ad 246)), (2, .int a2), (3, .int a3), (4, .int v4), (5, .int x9), (7, .int v7), (8, .int v8)]) [1, 2, 3, 4, 5, 0, 7, 8] rfl ?_
                  exact B180 v4 x9 v7 v8 (nI 0) v6 μ h
                · replace h := h.2 c
                  refine b_iconst (v := (nI 1)) X dL_led_175 (by decide) ?_
                  refine b_goto (t := 180) X dL_led_176 (by decide) ?_
                  refine b_sub (lv' := [(0, .ref (ad 0)), (1, .ref (ad 246)), (2, .int a2), (3, .int a3), (4, .int v4), (5, .int x9), (7, .int v7), (8, .int v8)]) [1, 2, 3, 4, 5, 0, 7, 8] rfl ?_
                  exact B180 v4 x9 v7 v8 (nI 1) v6 μ h
              refine b_iload X dL_led_150 5 rfl ?_
              refine b_iload X dL_led_152 8 rfl ?_
              refine b_if_ge (t := 161) X dL_led_154 (by decide) (fun c => ?_) (fun c => ?_)
              · replace h := h.1 c
                refine b_iconst (v := (nI 1)) X dL_led_161 (by decide) ?_
                refine b_iload X dL_led_162 8 rfl ?_
                refine b_ishl X dL_led_164 ?_
                refine b_sub (lv' := [(0, .ref (ad 0)), (1, .ref (ad 246)), (2, .int a2), (3, .int a3), (4, .int v4), (6, .int v6), (7, .int v7), (8, .int v8)]) [0, 1, 2, 3, 4, 6, 7, 8] rfl ?_
                exact B165 v4 v6 v7 v8 ((nI 1) <<< (v8 &&& 31)) v5 μ h
              · replace h := h.2 c
                refine b_iconst (v := (nI 0)) X dL_led_157 (by decide) ?_
                refine b_goto (t := 165) X dL_led_158 (by decide) ?_
                refine b_sub (lv' := [(0, .ref (ad 0)), (1, .ref (ad 246)), (2, .int a2), (3, .int a3), (4, .int v4), (6, .int v6), (7, .int v7), (8, .int v8)]) [0, 1, 2, 3, 4, 6, 7, 8] rfl ?_
                exact B165 v4 v6 v7 v8 (nI 0) v5 μ h
            have B136 : ∀ (v4 : Int32) (v5 : Int32) (v6 : Int32) (v7 : Int32) (v8 : Int32) (s1 : Int32) (μ : Mem), w_L_led_136 a2 a3 Y13 v4 v5 v6 v7 v8 s1 μ Q → WB sF l D C ad rm_L_led K 9 μ 136 [(0, .ref (ad 0)), (1, .ref (ad 246)), (2, .int a2), (3, .int a3), (4, .int v4), (5, .int v5), (6, .int v6), (7, .int v7), (8, .int v8)] [.int s1] := by
              intro v4 v5 v6 v7 v8 s1 μ h
              unfold w_L_led_136 at h
              have B145 : ∀ (v4 : Int32) (v5 : Int32) (v6 : Int32) (v7 : Int32) (v8 : Int32) (s2 : Int32) (s1 : Int32) (μ : Mem), w_L_led_145 a2 a3 Y13 v4 v5 v6 v7 v8 s2 s1 μ Q → WB sF l D C ad rm_L_led K 9 μ 145 [(0, .ref (ad 0)), (1, .ref (ad 246)), (2, .int a2), (3, .int a3), (4, .int v4), (5, .int v5), (6, .int v6), (7, .int v7), (8, .int v8)] [.int s2, .int s1] := by
                intro v4 v5 v6 v7 v8 s2 s1 μ h
                unfold w_L_led_145 at h
                refine b_icmp_eq (t := 150) X dL_led_145 (by decide) (fun c => ?_) (fun c => ?_)
                · replace h := h.1 c
                  refine b_sub (lv' := [(0, .ref (ad 0)), (1, .ref (ad 246)), (2, .int a2), (3, .int a3), (4, .int v4), (5, .int v5), (6, .int v6), (7, .int v7), (8, .int v8)]) [0, 1, 2, 3, 4, 5, 6, 7, 8] rfl ?_
                  exact B150 v4 v5 v6 v7 v8 μ h
                · replace h := h.2 c
                  refine b_iconst (v := (nI 0)) X dL_led_148 (by decide) ?_
                  exact hret _ _ _ _ ⟨(Or.inl rfl), h⟩ dL_led_149
              refine b_iload_n X dL_led_136 rfl 3 rfl ?_
              refine b_if_ne (t := 144) X dL_led_137 (by decide) (fun c => ?_) (fun c => ?_)
              · replace h := h.1 c
                refine b_iconst (v := (nI 0)) X dL_led_144 (by decide) ?_
                refine b_sub (lv' := [(0, .ref (ad 0)), (1, .ref (ad 246)), (2, .int a2), (3, .int a3), (4, .int v4), (5, .int v5), (6, .int v6), (7, .int v7), (8, .int v8)]) [0, 1, 2, 3, 4, 5, 6, 7, 8] rfl ?_
                exact B145 v4 v5 v6 v7 v8 (nI 0) s1 μ h
              · replace h := h.2 c
                refine b_iconst (v := (nI 1)) X dL_led_140 (by decide) ?_
                refine b_goto (t := 145) X dL_led_141 (by decide) ?_
                refine b_sub (lv' := [(0, .ref (ad 0)), (1, .ref (ad 246)), (2, .int a2), (3, .int a3), (4, .int v4), (5, .int v5), (6, .int v6), (7, .int v7), (8, .int v8)]) [0, 1, 2, 3, 4, 5, 6, 7, 8] rfl ?_
                exact B145 v4 v5 v6 v7 v8 (nI 1) s1 μ h
            refine b_iload X dL_led_97 8 rfl ?_
            refine b_if_lt (t := 150) X dL_led_99 (by decide) (fun c => ?_) (fun c => ?_)
            · replace h := h.1 c
              refine b_sub (lv' := [(0, .ref (ad 0)), (1, .ref (ad 246)), (2, .int a2), (3, .int a3), (4, .int v4), (5, .int v5), (6, .int v6), (7, .int v7), (8, .int v8)]) [0, 1, 2, 3, 4, 5, 6, 7, 8] rfl ?_
              exact B150 v4 v5 v6 v7 v8 μ h
            · replace h := h.2 c
              refine b_iload X dL_led_102 4 rfl ?_
              refine b_if_lt (t := 150) X dL_led_104 (by decide) (fun c => ?_) (fun c => ?_)
              · replace h := h.1 c
                refine b_sub (lv' := [(0, .ref (ad 0)), (1, .ref (ad 246)), (2, .int a2), (3, .int a3), (4, .int v4), (5, .int v5), (6, .int v6), (7, .int v7), (8, .int v8)]) [0, 1, 2, 3, 4, 5, 6, 7, 8] rfl ?_
                exact B150 v4 v5 v6 v7 v8 μ h
              · replace h := h.2 c
                refine b_iload X dL_led_107 8 rfl ?_
                refine b_iload X dL_led_109 4 rfl ?_
                refine b_icmp_eq (t := 150) X dL_led_111 (by decide) (fun c => ?_) (fun c => ?_)
                · replace h := h.1 c
                  refine b_sub (lv' := [(0, .ref (ad 0)), (1, .ref (ad 246)), (2, .int a2), (3, .int a3), (4, .int v4), (5, .int v5), (6, .int v6), (7, .int v7), (8, .int v8)]) [0, 1, 2, 3, 4, 5, 6, 7, 8] rfl ?_
                  exact B150 v4 v5 v6 v7 v8 μ h
                · replace h := h.2 c
                  refine b_aload_n X dL_led_114 rfl 0 rfl ?_
                  refine b_iload X dL_led_115 8 rfl ?_
                  refine b_iconst (v := (nI 0)) X dL_led_117 (by decide) ?_
                  refine bVi (st := []) (nA := 2) X (c_X6_post l D C ad v8 (nI 0) μ _ h) kF_0 (by decide) (enc_6 kF_0) rfl gw_L_82 ⟨rfl, hd_X6_post⟩ ⟨Nat.zero_le _, Nat.zero_le _⟩ rfl rfl ⟨Nat.le_of_ble_eq_true rfl, Nat.le_of_ble_eq_true rfl⟩ rfl rfl (Nat.le_of_ble_eq_true rfl) dL_led_118 (fun r5 μ6 h => ?_)
                  obtain ⟨rfl, h⟩ := h
                  refine b_aload_n X dL_led_121 rfl 0 rfl ?_
                  refine b_iload X dL_led_122 4 rfl ?_
                  refine b_iconst (v := (nI 0)) X dL_led_124 (by decide) ?_
                  refine bVi (st := [.int r5]) (nA := 2) X (c_X6_post l D C ad v4 (nI 0) μ _ h) kF_0 (by decide) (enc_6 kF_0) rfl gw_L_82 ⟨rfl, hd_X6_post⟩ ⟨Nat.zero_le _, Nat.zero_le _⟩ rfl rfl ⟨Nat.le_of_ble_eq_true rfl, Nat.le_of_ble_eq_true rfl⟩ rfl rfl (Nat.le_of_ble_eq_true rfl) dL_led_125 (fun r7 μ8 h => ?_)
                  obtain ⟨rfl, h⟩ := h
                  refine b_icmp_le (t := 135) X dL_led_128 (by decide) (fun c => ?_) (fun c => ?_)
                  · replace h := h.1 c
                    refine b_iconst (v := (nI 0)) X dL_led_135 (by decide) ?_
                    refine b_sub (lv' := [(0, .ref (ad 0)), (1, .ref (ad 246)), (2, .int a2), (3, .int a3), (4, .int v4), (5, .int v5), (6, .int v6), (7, .int v7), (8, .int v8)]) [0, 1, 2, 3, 4, 5, 6, 7, 8] rfl ?_
                    exact B136 v4 v5 v6 v7 v8 (nI 0) μ h
                  · replace h := h.2 c
                    refine b_iconst (v := (nI 1)) X dL_led_131 (by decide) ?_
                    refine b_goto (t := 136) X dL_led_132 (by decide) ?_
                    refine b_sub (lv' := [(0, .ref (ad 0)), (1, .ref (ad 246)), (2, .int a2), (3, .int a3), (4, .int v4), (5, .int v5), (6, .int v6), (7, .int v7), (8, .int v8)]) [0, 1, 2, 3, 4, 5, 6, 7, 8] rfl ?_
                    exact B136 v4 v5 v6 v7 v8 (nI 1) μ h
          refine b_iload X dL_led_76 8 rfl ?_
          refine b_if_lt (t := 97) X dL_led_78 (by decide) (fun c => ?_) (fun c => ?_)
          · replace h := h.1 c
            refine b_sub (lv' := [(0, .ref (ad 0)), (1, .ref (ad 246)), (2, .int a2), (3, .int a3), (4, .int v4), (5, .int v5), (6, .int v6), (7, .int v7), (8, .int v8)]) [0, 1, 2, 3, 4, 5, 6, 7, 8] rfl ?_
            exact B97 v4 v5 v6 v7 v8 μ h
          · replace h := h.2 c
            refine b_aload_n X dL_led_81 rfl 0 rfl ?_
            refine b_bipush (v := (nI 9)) X dL_led_82 (by decide) ?_
            refine bVi (st := []) (nA := 1) X (c_X6_told l D C ad (nI 9) μ _ h) kF_0 (by decide) (enc_6 kF_0) rfl gw_L_28 ⟨rfl, hd_X6_told⟩ ⟨Nat.zero_le _, Nat.zero_le _⟩ rfl rfl ⟨Nat.le_of_ble_eq_true rfl, Nat.le_of_ble_eq_true rfl⟩ rfl rfl (Nat.le_of_ble_eq_true rfl) dL_led_84 (fun r3 μ4 h => ?_)
            obtain ⟨rfl, h⟩ := h
            refine b_iload X dL_led_87 8 rfl ?_
            refine b_ishr X dL_led_89 ?_
            refine b_iconst (v := (nI 1)) X dL_led_90 (by decide) ?_
            refine b_iand X dL_led_91 ?_
            refine b_if_ne (t := 97) X dL_led_92 (by decide) (fun c => ?_) (fun c => ?_)
            · replace h := h.1 c
              refine b_sub (lv' := [(0, .ref (ad 0)), (1, .ref (ad 246)), (2, .int a2), (3, .int a3), (4, .int v4), (5, .int v5), (6, .int v6), (7, .int v7), (8, .int v8)]) [0, 1, 2, 3, 4, 5, 6, 7, 8] rfl ?_
              exact B97 v4 v5 v6 v7 v8 μ h
            · replace h := h.2 c
              refine b_iconst (v := (nI 0)) X dL_led_95 (by decide) ?_
              exact hret _ _ _ _ ⟨(Or.inl rfl), h⟩ dL_led_96
        refine b_iload X dL_led_53 8 rfl ?_
        refine b_if_lt (t := 76) X dL_led_55 (by decide) (fun c => ?_) (fun c => ?_)
        · replace h := h.1 c
          refine b_sub (lv' := [(0, .ref (ad 0)), (1, .ref (ad 246)), (2, .int a2), (3, .int a3), (4, .int v4), (5, .int v5), (6, .int v6), (7, .int v7), (8, .int v8)]) [0, 1, 2, 3, 4, 5, 6, 7, 8] rfl ?_
          exact B76 v4 v5 v6 v7 v8 μ h
        · replace h := h.2 c
          refine b_iload X dL_led_58 8 rfl ?_
          refine b_iload X dL_led_60 4 rfl ?_
          refine b_icmp_eq (t := 76) X dL_led_62 (by decide) (fun c => ?_) (fun c => ?_)
          · replace h := h.1 c
            refine b_sub (lv' := [(0, .ref (ad 0)), (1, .ref (ad 246)), (2, .int a2), (3, .int a3), (4, .int v4), (5, .int v5), (6, .int v6), (7, .int v7), (8, .int v8)]) [0, 1, 2, 3, 4, 5, 6, 7, 8] rfl ?_
            exact B76 v4 v5 v6 v7 v8 μ h
          · replace h := h.2 c
            refine b_iload X dL_led_65 5 rfl ?_
            refine b_iload X dL_led_67 8 rfl ?_
            refine b_ishr X dL_led_69 ?_
            refine b_iconst (v := (nI 1)) X dL_led_70 (by decide) ?_
            refine b_iand X dL_led_71 ?_
            refine b_iconst (v := (nI 1)) X dL_led_72 (by decide) ?_
            refine b_icmp_eq (t := 95) X dL_led_73 (by decide) (fun c => ?_) (fun c => ?_)
            · replace h := h.1 c
              refine b_iconst (v := (nI 0)) X dL_led_95 (by decide) ?_
              exact hret _ _ _ _ ⟨(Or.inl rfl), h⟩ dL_led_96
            · replace h := h.2 c
              refine b_sub (lv' := [(0, .ref (ad 0)), (1, .ref (ad 246)), (2, .int a2), (3, .int a3), (4, .int v4), (5, .int v5), (6, .int v6), (7, .int v7), (8, .int v8)]) [0, 1, 2, 3, 4, 5, 6, 7, 8] rfl ?_
              exact B76 v4 v5 v6 v7 v8 μ h
      refine b_iload X dL_led_13 7 rfl ?_
      refine b_iload_n X dL_led_15 rfl 2 rfl ?_
      refine b_icmp_ge (t := 203) X dL_led_16 (by decide) (fun c => ?_) (fun c => ?_)
      · replace h := h.1 c
        refine b_iconst (v := (nI 1)) X dL_led_203 (by decide) ?_
        exact hret _ _ _ _ ⟨(Or.inr rfl), h⟩ dL_led_204
      · replace h := h.2 c
        refine b_aload_n X dL_led_19 rfl 0 rfl ?_
        refine b_iload_n X dL_led_20 rfl 2 rfl ?_
        refine b_iload_n X dL_led_21 rfl 3 rfl ?_
        refine b_iload X dL_led_22 7 rfl ?_
        refine bVi (st := []) (nA := 3) X (c_X6_led l D C ad a2 a3 v7 μ _ h) kF_0 (by decide) (enc_6 kF_0) rfl gw_L_167 ⟨rfl, hd_X6_led⟩ ⟨Nat.zero_le _, Nat.zero_le _⟩ rfl rfl ⟨Nat.le_of_ble_eq_true rfl, Nat.le_of_ble_eq_true rfl⟩ rfl rfl (Nat.le_of_ble_eq_true rfl) dL_led_24 (fun r1 μ2 h => ?_)
        refine b_istore (lv' := [(8, .int r1), (0, .ref (ad 0)), (1, .ref (ad 246)), (2, .int a2), (3, .int a3), (4, .int v4), (5, .int v5), (6, .int v6), (7, .int v7)]) X dL_led_27 (by decide) rfl ?_
        refine b_iload X dL_led_29 0 rfl ?_
        refine b_iconst (v := ((-1) : Int32)) X dL_led_31 (by decide) ?_
        refine b_icmp_lt (t := 95) X dL_led_32 (by decide) (fun c => ?_) (fun c => ?_)
        · replace h := h.1 c
          refine b_iconst (v := (nI 0)) X dL_led_95 (by decide) ?_
          exact hret _ _ _ _ ⟨(Or.inl rfl), h⟩ dL_led_96
        · replace h := h.2 c
          refine b_iload X dL_led_35 0 rfl ?_
          refine b_aload_n X dL_led_37 rfl 2 rfl ?_
          refine b_iconst (v := (nI 3)) X dL_led_38 (by decide) ?_
          have hz := h.1
          replace h := h.2
          refine b_iald X kF_246 nF_246 hz dL_led_39 ?_
          clear hz
          refine b_icmp_ge (t := 95) X dL_led_40 (by decide) (fun c => ?_) (fun c => ?_)
          · replace h := h.1 c
            refine b_iconst (v := (nI 0)) X dL_led_95 (by decide) ?_
            exact hret _ _ _ _ ⟨(Or.inl rfl), h⟩ dL_led_96
          · replace h := h.2 c
            refine b_iload X dL_led_43 7 rfl ?_
            refine b_if_le (t := 53) X dL_led_45 (by decide) (fun c => ?_) (fun c => ?_)
            · replace h := h.1 c
              refine b_sub (lv' := [(0, .ref (ad 0)), (1, .ref (ad 246)), (2, .int a2), (3, .int a3), (4, .int v4), (5, .int v5), (6, .int v6), (7, .int v7), (8, .int r1)]) [1, 2, 3, 4, 5, 6, 7, 8, 0] rfl ?_
              exact B53 v4 v5 v6 v7 r1 μ2 h
            · replace h := h.2 c
              refine b_iload X dL_led_48 0 rfl ?_
              refine b_if_ge (t := 95) X dL_led_50 (by decide) (fun c => ?_) (fun c => ?_)
              · replace h := h.1 c
                refine b_iconst (v := (nI 0)) X dL_led_95 (by decide) ?_
                exact hret _ _ _ _ ⟨(Or.inl rfl), h⟩ dL_led_96
              · replace h := h.2 c
                refine b_sub (lv' := [(0, .ref (ad 0)), (1, .ref (ad 246)), (2, .int a2), (3, .int a3), (4, .int v4), (5, .int v5), (6, .int v6), (7, .int v7), (8, .int r1)]) [1, 2, 3, 4, 5, 6, 7, 8, 0] rfl ?_
                exact B53 v4 v5 v6 v7 r1 μ2 h
    rw [eY] at B13
    exact B13
  refine b_bipush (v := ((-2) : Int32)) X dL_led_0 (by decide) ?_
  refine b_istore (lv' := [(4, .int ((-2) : Int32)), (0, .ref (ad 0)), (1, .ref (ad 246)), (2, .int a2), (3, .int a3)]) X dL_led_2 (by decide) rfl ?_
  refine b_iconst (v := (nI 0)) X dL_led_4 (by decide) ?_
  refine b_istore (lv' := [(5, .int (nI 0)), (4, .int ((-2) : Int32)), (0, .ref (ad 0)), (1, .ref (ad 246)), (2, .int a2), (3, .int a3)]) X dL_led_5 (by decide) rfl ?_
  refine b_iconst (v := (nI 0)) X dL_led_7 (by decide) ?_
  refine b_istore (lv' := [(6, .int (nI 0)), (5, .int (nI 0)), (4, .int ((-2) : Int32)), (0, .ref (ad 0)), (1, .ref (ad 246)), (2, .int a2), (3, .int a3)]) X dL_led_8 (by decide) rfl ?_
  refine b_iconst (v := (nI 0)) X dL_led_10 (by decide) ?_
  refine b_istore (lv' := [(7, .int (nI 0)), (6, .int (nI 0)), (5, .int (nI 0)), (4, .int ((-2) : Int32)), (0, .ref (ad 0)), (1, .ref (ad 246)), (2, .int a2), (3, .int a3)]) X dL_led_11 (by decide) rfl ?_
  refine b_sub (lv' := [(0, .ref (ad 0)), (1, .ref (ad 246)), (2, .int a2), (3, .int a3), (4, .int ((-2) : Int32)), (5, .int (nI 0)), (6, .int (nI 0)), (7, .int (nI 0))]) [4, 5, 6, 7, 3, 2, 1, 0] rfl ?_
  exact B13 ((-2) : Int32) (nI 0) (nI 0) (nI 0) μ h
set_option maxHeartbeats 4000000 in
set_option maxRecDepth 100000 in
theorem c_L_shares (l : Launch) (D : va_G) (C : Nat → ClassId) (ad : Nat → Nat) (a2 : Int32) (μ : Mem) (Q : Int32 → Prop) (h : w_L_shares a2 μ Q) : Mi sF l yL_shares cL_shares 5 (some .boolean) rm_L_shares D C ad [.ref (ad 0), .ref (ad 246), .int a2] μ (fun r μ' => μ = μ' ∧ Q r) := by
  refine fm_z (by decide +kernel) sF_lt (Nat.le_of_ble_eq_true rfl) (fun K X hret => ?_)
  have X : CK sF D C ad K cL_shares 5 RL := X
  refine b_lv (lv' := [(0, .ref (ad 0)), (1, .ref (ad 246)), (2, .int a2)]) rfl ?_
  unfold w_L_shares at h
  have B45 : ∀ (v4 : Int32), w_L_shares_45 a2 v4 μ Q → WB sF l D C ad rm_L_shares K 5 μ 45 [(0, .ref (ad 0)), (4, .int v4)] [] := by
    intro v4 h
    unfold w_L_shares_45 at h
    refine b_aload_n X dL_shares_45 rfl 0 rfl ?_
    refine b_iconst (v := (nI 1)) X dL_shares_46 (by decide) ?_
    refine b_iconst (v := (nI 4)) X dL_shares_47 (by decide) ?_
    refine bVi (st := []) (nA := 2) X (c_X6_village l D C ad (nI 1) (nI 4) μ _ h) kF_0 (by decide) (enc_6 kF_0) rfl gw_L_85 ⟨rfl, hd_X6_village⟩ ⟨Nat.zero_le _, Nat.zero_le _⟩ rfl rfl ⟨Nat.le_of_ble_eq_true rfl, Nat.le_of_ble_eq_true rfl⟩ rfl rfl (Nat.le_of_ble_eq_true rfl) dL_shares_48 (fun r7 μ8 h => ?_)
    obtain ⟨rfl, h⟩ := h
    refine b_if_ne (t := 59) X dL_shares_51 (by decide) (fun c => ?_) (fun c => ?_)
    · replace h := h.1 c
      refine b_iconst (v := (nI 1)) X dL_shares_59 (by decide) ?_
      refine b_goto (t := 64) X dL_shares_60 (by decide) ?_
      exact hret _ _ _ _ ⟨(Or.inr rfl), rfl, h⟩ dL_shares_64
    · replace h := h.2 c
      refine b_iload X dL_shares_54 1 rfl ?_
      refine b_if_ne (t := 63) X dL_shares_56 (by decide) (fun c => ?_) (fun c => ?_)
      · replace h := h.1 c
        refine b_iconst (v := (nI 0)) X dL_shares_63 (by decide) ?_
        exact hret _ _ _ _ ⟨(Or.inl rfl), rfl, h⟩ dL_shares_64
      · replace h := h.2 c
        refine b_iconst (v := (nI 1)) X dL_shares_59 (by decide) ?_
        refine b_goto (t := 64) X dL_shares_60 (by decide) ?_
        exact hret _ _ _ _ ⟨(Or.inr rfl), rfl, h⟩ dL_shares_64
  refine b_aload_n X dL_shares_0 rfl 0 rfl ?_
  refine b_iload_n X dL_shares_1 rfl 2 rfl ?_
  refine b_iconst (v := (nI 0)) X dL_shares_2 (by decide) ?_
  refine bVi (st := []) (nA := 2) X (c_X6_share l D C ad a2 (nI 0) μ _ h) kF_0 (by decide) (enc_6 kF_0) rfl gw_L_200 ⟨rfl, hd_X6_share⟩ ⟨Nat.zero_le _, Nat.zero_le _⟩ rfl rfl ⟨Nat.le_of_ble_eq_true rfl, Nat.le_of_ble_eq_true rfl⟩ rfl rfl (Nat.le_of_ble_eq_true rfl) dL_shares_3 (fun r1 μ2 h => ?_)
  obtain ⟨rfl, h⟩ := h
  refine b_istore_n (lv' := [(3, .int r1), (0, .ref (ad 0)), (1, .ref (ad 246)), (2, .int a2)]) X dL_shares_6 rfl (by decide) rfl ?_
  refine b_aload_n X dL_shares_7 rfl 1 rfl ?_
  refine b_iload_n X dL_shares_8 rfl 3 rfl ?_
  refine b_iconst (v := (nI 1)) X dL_shares_9 (by decide) ?_
  refine bVi (st := []) (nA := 2) X (c_X6_share l D C ad a2 (nI 1) μ _ h) kF_0 (by decide) (enc_6 kF_0) rfl gw_L_200 ⟨rfl, hd_X6_share⟩ ⟨Nat.zero_le _, Nat.zero_le _⟩ rfl rfl ⟨Nat.le_of_ble_eq_true rfl, Nat.le_of_ble_eq_true rfl⟩ rfl rfl (Nat.le_of_ble_eq_true rfl) dL_shares_10 (fun r3 μ4 h => ?_)
  obtain ⟨rfl, h⟩ := h
  refine b_istore (lv' := [(4, .int r3), (3, .int r1), (0, .ref (ad 0)), (1, .ref (ad 246)), (2, .int a2)]) X dL_shares_13 (by decide) rfl ?_
  refine b_iload_n X dL_shares_15 rfl 1 rfl ?_
  refine b_iload X dL_shares_16 0 rfl ?_
  refine b_iadd X dL_shares_18 ?_
  refine b_iload_n X dL_shares_19 rfl 4 rfl ?_
  refine b_icmp_ne (t := 63) X dL_shares_20 (by decide) (fun c => ?_) (fun c => ?_)
  · replace h := h.1 c
    refine b_iconst (v := (nI 0)) X dL_shares_63 (by decide) ?_
    exact hret _ _ _ _ ⟨(Or.inl rfl), rfl, h⟩ dL_shares_64
  · replace h := h.2 c
    refine b_iload_n X dL_shares_23 rfl 1 rfl ?_
    refine b_if_lt (t := 63) X dL_shares_24 (by decide) (fun c => ?_) (fun c => ?_)
    · replace h := h.1 c
      refine b_iconst (v := (nI 0)) X dL_shares_63 (by decide) ?_
      exact hret _ _ _ _ ⟨(Or.inl rfl), rfl, h⟩ dL_shares_64
    · replace h := h.2 c
      refine b_iload X dL_shares_27 0 rfl ?_
      refine b_if_lt (t := 63) X dL_shares_29 (by decide) (fun c => ?_) (fun c => ?_)
      · replace h := h.1 c
        refine b_iconst (v := (nI 0)) X dL_shares_63 (by decide) ?_
        exact hret _ _ _ _ ⟨(Or.inl rfl), rfl, h⟩ dL_shares_64
      · replace h := h.2 c
        refine b_aload_n X dL_shares_32 rfl 2 rfl ?_
        refine b_iconst (v := (nI 0)) X dL_shares_33 (by decide) ?_
        refine b_iconst (v := (nI 4)) X dL_shares_34 (by decide) ?_
        refine bVi (st := []) (nA := 2) X (c_X6_village l D C ad (nI 0) (nI 4) μ _ h) kF_0 (by decide) (enc_6 kF_0) rfl gw_L_85 ⟨rfl, hd_X6_village⟩ ⟨Nat.zero_le _, Nat.zero_le _⟩ rfl rfl ⟨Nat.le_of_ble_eq_true rfl, Nat.le_of_ble_eq_true rfl⟩ rfl rfl (Nat.le_of_ble_eq_true rfl) dL_shares_35 (fun r5 μ6 h => ?_)
        obtain ⟨rfl, h⟩ := h
        refine b_if_ne (t := 45) X dL_shares_38 (by decide) (fun c => ?_) (fun c => ?_)
        · replace h := h.1 c
          refine b_sub (lv' := [(0, .ref (ad 0)), (4, .int r3)]) [2, 0] rfl ?_
          exact B45 r3 h
        · replace h := h.2 c
          refine b_iload_n X dL_shares_41 rfl 1 rfl ?_
          refine b_if_ne (t := 63) X dL_shares_42 (by decide) (fun c => ?_) (fun c => ?_)
          · replace h := h.1 c
            refine b_iconst (v := (nI 0)) X dL_shares_63 (by decide) ?_
            exact hret _ _ _ _ ⟨(Or.inl rfl), rfl, h⟩ dL_shares_64
          · replace h := h.2 c
            refine b_sub (lv' := [(0, .ref (ad 0)), (4, .int r3)]) [2, 0] rfl ?_
            exact B45 r3 h
set_option maxHeartbeats 4000000 in
set_option maxRecDepth 100000 in
theorem c_L_yards (l : Launch) (D : va_G) (C : Nat → ClassId) (ad : Nat → Nat) (a2 : Int32) (μ : Mem) (Q : Int32 → Mem → Prop) (h : w_L_yards a2 μ Q) : Mi sF l yL_yards cL_yards 7 (some .boolean) rm_L_yards D C ad [.ref (ad 0), .ref (ad 246), .int a2] μ Q := by
  refine fm_z (by decide +kernel) sF_lt (Nat.le_of_ble_eq_true rfl) (fun K X hret => ?_)
  have X : CK sF D C ad K cL_yards 7 RL := X
  refine b_lv (lv' := [(0, .ref (ad 0)), (1, .ref (ad 246)), (2, .int a2)]) rfl ?_
  unfold w_L_yards at h
  have B2 : ∀ (v3 : Int32) (μ : Mem), w_L_yards_2 a2 v3 μ Q → WB sF l D C ad rm_L_yards K 7 μ 2 [(0, .ref (ad 0)), (1, .ref (ad 246)), (2, .int a2), (3, .int v3)] [] := by
    intro v3 μ h
    obtain ⟨Y2, eY⟩ : ∃ Y : Int32 → Mem → Prop, Y = fun (v3 : Int32) (μ : Mem) => WB sF l D C ad rm_L_yards K 7 μ 2 [(0, .ref (ad 0)), (1, .ref (ad 246)), (2, .int a2), (3, .int v3)] [] := ⟨_, rfl⟩
    have B2 : Y2 v3 μ := by
      unfold w_L_yards_2 at h
      refine h Y2 ?_
      clear h
      intro v3 μ h
      unfold s_L_yards_2 at h
      rw [eY]
      show WB sF l D C ad rm_L_yards K 7 μ 2 [(0, .ref (ad 0)), (1, .ref (ad 246)), (2, .int a2), (3, .int v3)] []
      have T2 : ∀ (v3 : Int32) (μ : Mem), Y2 v3 μ → WB sF l D C ad rm_L_yards K 7 μ 2 [(0, .ref (ad 0)), (1, .ref (ad 246)), (2, .int a2), (3, .int v3)] [] := by
        intro v3 μ h
        rw [eY] at h
        exact h
      clear eY
      have B111 : ∀ (v3 : Int32) (v4 : Int32) (v5 : Int32) (μ : Mem), w_L_yards_111 a2 Y2 v3 v4 v5 μ Q → WB sF l D C ad rm_L_yards K 7 μ 111 [(0, .ref (ad 0)), (1, .ref (ad 246)), (2, .int a2), (3, .int v3), (4, .int v4), (5, .int v5)] [] := by
        intro v3 v4 v5 μ h
        unfold w_L_yards_111 at h
        have B202 : ∀ (v3 : Int32) (μ : Mem), w_L_yards_202 a2 Y2 v3 μ Q → WB sF l D C ad rm_L_yards K 7 μ 202 [(0, .ref (ad 0)), (1, .ref (ad 246)), (2, .int a2), (3, .int v3)] [] := by
          intro v3 μ h
          unfold w_L_yards_202 at h
          obtain ⟨x31, ex31⟩ : ∃ y : Int32, y = v3 + (nI 1) := ⟨_, rfl⟩
          replace h := h x31 ex31
          refine b_iinc (x := x31) (lv' := [(3, .int x31), (0, .ref (ad 0)), (1, .ref (ad 246)), (2, .int a2)]) (q := 3) X dL_yards_202 rfl (by rw [ex31]; rfl) (by decide) rfl ?_
          refine b_goto (t := 2) X dL_yards_205 (by decide) ?_
          refine b_sub (lv' := [(0, .ref (ad 0)), (1, .ref (ad 246)), (2, .int a2), (3, .int x31)]) [1, 2, 3, 0] rfl ?_
          exact T2 x31 μ h
        have B172 : ∀ (v3 : Int32) (v5 : Int32) (s1 : Int32) (μ : Mem), w_L_yards_172 a2 Y2 v3 v5 s1 μ Q → WB sF l D C ad rm_L_yards K 7 μ 172 [(0, .ref (ad 0)), (1, .ref (ad 246)), (2, .int a2), (3, .int v3), (5, .int v5)] [.int s1] := by
          intro v3 v5 s1 μ h
          unfold w_L_yards_172 at h
          refine b_istore (lv' := [(6, .int s1), (0, .ref (ad 0)), (1, .ref (ad 246)), (2, .int a2), (3, .int v3), (5, .int v5)]) X dL_yards_172 (by decide) rfl ?_
          refine b_iload X dL_yards_174 0 rfl ?_
          refine b_if_eq (t := 200) X dL_yards_176 (by decide) (fun c => ?_) (fun c => ?_)
          · replace h := h.1 c
            refine b_iconst (v := (nI 0)) X dL_yards_200 (by decide) ?_
            exact hret _ _ _ _ ⟨(Or.inl rfl), h⟩ dL_yards_201
          · replace h := h.2 c
            refine b_aload_n X dL_yards_179 rfl 1 rfl ?_
            refine b_iload_n X dL_yards_180 rfl 4 rfl ?_
            refine b_iconst (v := (nI 1)) X dL_yards_181 (by decide) ?_
            refine bVi (st := []) (nA := 2) X (c_X6_yards l D C ad v3 (nI 1) μ _ h) kF_0 (by decide) (enc_6 kF_0) rfl gw_L_203 ⟨rfl, hd_X6_yards⟩ ⟨Nat.zero_le _, Nat.zero_le _⟩ rfl rfl ⟨Nat.le_of_ble_eq_true rfl, Nat.le_of_ble_eq_true rfl⟩ rfl rfl (Nat.le_of_ble_eq_true rfl) dL_yards_182 (fun r27 μ28 h => ?_)
            obtain ⟨rfl, h⟩ := h
            refine b_iload X dL_yards_185 5 rfl ?_
            refine b_icmp_ne (t := 200) X dL_yards_187 (by decide) (fun c => ?_) (fun c => ?_)
            · replace h := h.1 c
              refine b_iconst (v := (nI 0)) X dL_yards_200 (by decide) ?_
              exact hret _ _ _ _ ⟨(Or.inl rfl), h⟩ dL_yards_201
            · replace h := h.2 c
              refine b_aload_n X dL_yards_190 rfl 1 rfl ?_
              refine b_bipush (v := (nI 15)) X dL_yards_191 (by decide) ?_
              refine bVi (st := []) (nA := 1) X (c_X6_told l D C ad (nI 15) μ _ h) kF_0 (by decide) (enc_6 kF_0) rfl gw_L_28 ⟨rfl, hd_X6_told⟩ ⟨Nat.zero_le _, Nat.zero_le _⟩ rfl rfl ⟨Nat.le_of_ble_eq_true rfl, Nat.le_of_ble_eq_true rfl⟩ rfl rfl (Nat.le_of_ble_eq_true rfl) dL_yards_193 (fun r29 μ30 h => ?_)
              obtain ⟨rfl, h⟩ := h
              refine b_iload_n X dL_yards_196 rfl 3 rfl ?_
              refine b_icmp_eq (t := 202) X dL_yards_197 (by decide) (fun c => ?_) (fun c => ?_)
              · replace h := h.1 c
                refine b_sub (lv' := [(0, .ref (ad 0)), (1, .ref (ad 246)), (2, .int a2), (3, .int v3)]) [1, 2, 3, 4] rfl ?_
                exact B202 v3 μ h
              · replace h := h.2 c
                refine b_iconst (v := (nI 0)) X dL_yards_200 (by decide) ?_
                exact hret _ _ _ _ ⟨(Or.inl rfl), h⟩ dL_yards_201
        have B171 : ∀ (v3 : Int32) (v5 : Int32) (μ : Mem), w_L_yards_171 a2 Y2 v3 v5 μ Q → WB sF l D C ad rm_L_yards K 7 μ 171 [(0, .ref (ad 0)), (1, .ref (ad 246)), (2, .int a2), (3, .int v3), (5, .int v5)] [] := by
          intro v3 v5 μ h
          unfold w_L_yards_171 at h
          refine b_iconst (v := (nI 0)) X dL_yards_171 (by decide) ?_
          refine b_sub (lv' := [(0, .ref (ad 0)), (1, .ref (ad 246)), (2, .int a2), (3, .int v3), (5, .int v5)]) [0, 1, 2, 3, 4] rfl ?_
          exact B172 v3 v5 (nI 0) μ h
        have B159 : ∀ (v3 : Int32) (v5 : Int32) (μ : Mem), w_L_yards_159 a2 Y2 v3 v5 μ Q → WB sF l D C ad rm_L_yards K 7 μ 159 [(0, .ref (ad 0)), (1, .ref (ad 246)), (2, .int a2), (3, .int v3), (5, .int v5)] [] := by
          intro v3 v5 μ h
          unfold w_L_yards_159 at h
          refine b_aload_n X dL_yards_159 rfl 0 rfl ?_
          refine b_iconst (v := (nI 1)) X dL_yards_160 (by decide) ?_
          refine bVi (st := []) (nA := 1) X (c_X6_undo l D C ad (nI 1) μ _ h) kF_0 (by decide) (enc_6 kF_0) rfl gw_L_116 ⟨rfl, hd_X6_undo⟩ ⟨Nat.zero_le _, Nat.zero_le _⟩ rfl rfl ⟨Nat.le_of_ble_eq_true rfl, Nat.le_of_ble_eq_true rfl⟩ rfl rfl (Nat.le_of_ble_eq_true rfl) dL_yards_161 (fun r25 μ26 h => ?_)
          refine b_if_lt (t := 171) X dL_yards_164 (by decide) (fun c => ?_) (fun c => ?_)
          · replace h := h.1 c
            refine b_sub (lv' := [(0, .ref (ad 0)), (1, .ref (ad 246)), (2, .int a2), (3, .int v3), (5, .int v5)]) [0, 1, 2, 3, 4] rfl ?_
            exact B171 v3 v5 μ26 h
          · replace h := h.2 c
            refine b_iconst (v := (nI 1)) X dL_yards_167 (by decide) ?_
            refine b_goto (t := 172) X dL_yards_168 (by decide) ?_
            refine b_sub (lv' := [(0, .ref (ad 0)), (1, .ref (ad 246)), (2, .int a2), (3, .int v3), (5, .int v5)]) [0, 1, 2, 3, 4] rfl ?_
            exact B172 v3 v5 (nI 1) μ26 h
        refine b_iload X dL_yards_111 4 rfl ?_
        refine b_if_lt (t := 202) X dL_yards_113 (by decide) (fun c => ?_) (fun c => ?_)
        · replace h := h.1 c
          refine b_sub (lv' := [(0, .ref (ad 0)), (1, .ref (ad 246)), (2, .int a2), (3, .int v3)]) [0, 1, 2, 3] rfl ?_
          exact B202 v3 μ h
        · replace h := h.2 c
          refine b_aload_n X dL_yards_116 rfl 0 rfl ?_
          refine b_iload X dL_yards_117 5 rfl ?_
          refine b_bipush (v := (nI 99)) X dL_yards_119 (by decide) ?_
          refine bVi (st := []) (nA := 2) X (c_X6_lick l D C ad v5 (nI 99) μ _ h) kF_0 (by decide) (enc_6 kF_0) rfl gw_L_113 ⟨rfl, hd_X6_lick⟩ ⟨Nat.zero_le _, Nat.zero_le _⟩ rfl rfl ⟨Nat.le_of_ble_eq_true rfl, Nat.le_of_ble_eq_true rfl⟩ rfl rfl (Nat.le_of_ble_eq_true rfl) dL_yards_121 (fun r17 μ18 h => ?_)
          refine b_if_ne (t := 171) X dL_yards_124 (by decide) (fun c => ?_) (fun c => ?_)
          · replace h := h.1 c
            refine b_sub (lv' := [(0, .ref (ad 0)), (1, .ref (ad 246)), (2, .int a2), (3, .int v3), (5, .int v5)]) [0, 1, 2, 3, 5] rfl ?_
            exact B171 v3 v5 μ18 h
          · replace h := h.2 c
            refine b_aload_n X dL_yards_127 rfl 0 rfl ?_
            refine b_iload_n X dL_yards_128 rfl 3 rfl ?_
            refine b_iconst (v := (nI 0)) X dL_yards_129 (by decide) ?_
            refine bVi (st := []) (nA := 2) X (c_X6_yards l D C ad v3 (nI 0) μ18 _ h) kF_0 (by decide) (enc_6 kF_0) rfl gw_L_203 ⟨rfl, hd_X6_yards⟩ ⟨Nat.zero_le _, Nat.zero_le _⟩ rfl rfl ⟨Nat.le_of_ble_eq_true rfl, Nat.le_of_ble_eq_true rfl⟩ rfl rfl (Nat.le_of_ble_eq_true rfl) dL_yards_130 (fun r19 μ20 h => ?_)
            obtain ⟨rfl, h⟩ := h
            refine b_iconst (v := ((-1) : Int32)) X dL_yards_133 (by decide) ?_
            refine b_icmp_eq (t := 159) X dL_yards_134 (by decide) (fun c => ?_) (fun c => ?_)
            · replace h := h.1 c
              refine b_sub (lv' := [(0, .ref (ad 0)), (1, .ref (ad 246)), (2, .int a2), (3, .int v3), (5, .int v5)]) [0, 1, 2, 3, 5] rfl ?_
              exact B159 v3 v5 μ18 h
            · replace h := h.2 c
              refine b_aload_n X dL_yards_137 rfl 0 rfl ?_
              refine b_iload_n X dL_yards_138 rfl 3 rfl ?_
              refine b_iconst (v := (nI 0)) X dL_yards_139 (by decide) ?_
              refine bVi (st := []) (nA := 2) X (c_X6_yards l D C ad v3 (nI 0) μ18 _ h) kF_0 (by decide) (enc_6 kF_0) rfl gw_L_203 ⟨rfl, hd_X6_yards⟩ ⟨Nat.zero_le _, Nat.zero_le _⟩ rfl rfl ⟨Nat.le_of_ble_eq_true rfl, Nat.le_of_ble_eq_true rfl⟩ rfl rfl (Nat.le_of_ble_eq_true rfl) dL_yards_140 (fun r21 μ22 h => ?_)
              obtain ⟨rfl, h⟩ := h
              refine b_iload X dL_yards_143 4 rfl ?_
              refine b_icmp_lt (t := 171) X dL_yards_145 (by decide) (fun c => ?_) (fun c => ?_)
              · replace h := h.1 c
                refine b_sub (lv' := [(0, .ref (ad 0)), (1, .ref (ad 246)), (2, .int a2), (3, .int v3), (5, .int v5)]) [0, 1, 2, 3, 5] rfl ?_
                exact B171 v3 v5 μ18 h
              · replace h := h.2 c
                refine b_aload_n X dL_yards_148 rfl 0 rfl ?_
                refine b_iload_n X dL_yards_149 rfl 3 rfl ?_
                refine b_iconst (v := (nI 1)) X dL_yards_150 (by decide) ?_
                refine bVi (st := []) (nA := 2) X (c_X6_yards l D C ad v3 (nI 1) μ18 _ h) kF_0 (by decide) (enc_6 kF_0) rfl gw_L_203 ⟨rfl, hd_X6_yards⟩ ⟨Nat.zero_le _, Nat.zero_le _⟩ rfl rfl ⟨Nat.le_of_ble_eq_true rfl, Nat.le_of_ble_eq_true rfl⟩ rfl rfl (Nat.le_of_ble_eq_true rfl) dL_yards_151 (fun r23 μ24 h => ?_)
                obtain ⟨rfl, h⟩ := h
                refine b_iload X dL_yards_154 5 rfl ?_
                refine b_icmp_eq (t := 171) X dL_yards_156 (by decide) (fun c => ?_) (fun c => ?_)
                · replace h := h.1 c
                  refine b_sub (lv' := [(0, .ref (ad 0)), (1, .ref (ad 246)), (2, .int a2), (3, .int v3), (5, .int v5)]) [0, 1, 2, 3, 5] rfl ?_
                  exact B171 v3 v5 μ18 h
                · replace h := h.2 c
                  refine b_sub (lv' := [(0, .ref (ad 0)), (1, .ref (ad 246)), (2, .int a2), (3, .int v3), (5, .int v5)]) [0, 1, 2, 3, 5] rfl ?_
                  exact B159 v3 v5 μ18 h
      refine b_iload_n X dL_yards_2 rfl 3 rfl ?_
      refine b_aload_n X dL_yards_3 rfl 1 rfl ?_
      refine b_iconst (v := (nI 4)) X dL_yards_4 (by decide) ?_
      have hz := h.1
      replace h := h.2
      refine b_iald X kF_246 nF_246 hz dL_yards_5 ?_
      clear hz
      refine b_icmp_ge (t := 208) X dL_yards_6 (by decide) (fun c => ?_) (fun c => ?_)
      · replace h := h.1 c
        refine b_iconst (v := (nI 1)) X dL_yards_208 (by decide) ?_
        exact hret _ _ _ _ ⟨(Or.inr rfl), h⟩ dL_yards_209
      · replace h := h.2 c
        refine b_aload_n X dL_yards_9 rfl 0 rfl ?_
        refine b_iload_n X dL_yards_10 rfl 3 rfl ?_
        refine b_iconst (v := (nI 0)) X dL_yards_11 (by decide) ?_
        refine bVi (st := []) (nA := 2) X (c_X6_yards l D C ad v3 (nI 0) μ _ h) kF_0 (by decide) (enc_6 kF_0) rfl gw_L_203 ⟨rfl, hd_X6_yards⟩ ⟨Nat.zero_le _, Nat.zero_le _⟩ rfl rfl ⟨Nat.le_of_ble_eq_true rfl, Nat.le_of_ble_eq_true rfl⟩ rfl rfl (Nat.le_of_ble_eq_true rfl) dL_yards_12 (fun r1 μ2 h => ?_)
        obtain ⟨rfl, h⟩ := h
        refine b_istore (lv' := [(4, .int r1), (0, .ref (ad 0)), (1, .ref (ad 246)), (2, .int a2), (3, .int v3)]) X dL_yards_15 (by decide) rfl ?_
        refine b_aload_n X dL_yards_17 rfl 1 rfl ?_
        refine b_iload_n X dL_yards_18 rfl 4 rfl ?_
        refine b_iconst (v := (nI 1)) X dL_yards_19 (by decide) ?_
        refine bVi (st := []) (nA := 2) X (c_X6_yards l D C ad v3 (nI 1) μ _ h) kF_0 (by decide) (enc_6 kF_0) rfl gw_L_203 ⟨rfl, hd_X6_yards⟩ ⟨Nat.zero_le _, Nat.zero_le _⟩ rfl rfl ⟨Nat.le_of_ble_eq_true rfl, Nat.le_of_ble_eq_true rfl⟩ rfl rfl (Nat.le_of_ble_eq_true rfl) dL_yards_20 (fun r3 μ4 h => ?_)
        obtain ⟨rfl, h⟩ := h
        refine b_istore (lv' := [(5, .int r3), (4, .int r1), (0, .ref (ad 0)), (1, .ref (ad 246)), (2, .int a2), (3, .int v3)]) X dL_yards_23 (by decide) rfl ?_
        refine b_iload X dL_yards_25 1 rfl ?_
        refine b_if_ge (t := 48) X dL_yards_27 (by decide) (fun c => ?_) (fun c => ?_)
        · replace h := h.1 c
          refine b_iload X dL_yards_48 0 rfl ?_
          refine b_if_lt (t := 109) X dL_yards_50 (by decide) (fun c => ?_) (fun c => ?_)
          · replace h := h.1 c
            refine b_iconst (v := (nI 0)) X dL_yards_109 (by decide) ?_
            exact hret _ _ _ _ ⟨(Or.inl rfl), h⟩ dL_yards_110
          · replace h := h.2 c
            refine b_iload X dL_yards_53 0 rfl ?_
            refine b_aload_n X dL_yards_55 rfl 3 rfl ?_
            refine b_iconst (v := (nI 3)) X dL_yards_56 (by decide) ?_
            have hz := h.1
            replace h := h.2
            refine b_iald X kF_246 nF_246 hz dL_yards_57 ?_
            clear hz
            refine b_icmp_ge (t := 109) X dL_yards_58 (by decide) (fun c => ?_) (fun c => ?_)
            · replace h := h.1 c
              refine b_iconst (v := (nI 0)) X dL_yards_109 (by decide) ?_
              exact hret _ _ _ _ ⟨(Or.inl rfl), h⟩ dL_yards_110
            · replace h := h.2 c
              refine b_aload_n X dL_yards_61 rfl 2 rfl ?_
              refine b_iload X dL_yards_62 0 rfl ?_
              refine b_iconst (v := (nI 4)) X dL_yards_64 (by decide) ?_
              refine bVi (st := []) (nA := 2) X (c_X6_post l D C ad r3 (nI 4) μ _ h) kF_0 (by decide) (enc_6 kF_0) rfl gw_L_82 ⟨rfl, hd_X6_post⟩ ⟨Nat.zero_le _, Nat.zero_le _⟩ rfl rfl ⟨Nat.le_of_ble_eq_true rfl, Nat.le_of_ble_eq_true rfl⟩ rfl rfl (Nat.le_of_ble_eq_true rfl) dL_yards_65 (fun r5 μ6 h => ?_)
              obtain ⟨rfl, h⟩ := h
              refine b_if_eq (t := 109) X dL_yards_68 (by decide) (fun c => ?_) (fun c => ?_)
              · replace h := h.1 c
                refine b_iconst (v := (nI 0)) X dL_yards_109 (by decide) ?_
                exact hret _ _ _ _ ⟨(Or.inl rfl), h⟩ dL_yards_110
              · replace h := h.2 c
                refine b_aload_n X dL_yards_71 rfl 2 rfl ?_
                refine b_iload X dL_yards_72 0 rfl ?_
                refine b_iconst (v := (nI 0)) X dL_yards_74 (by decide) ?_
                refine bVi (st := []) (nA := 2) X (c_X6_post l D C ad r3 (nI 0) μ _ h) kF_0 (by decide) (enc_6 kF_0) rfl gw_L_82 ⟨rfl, hd_X6_post⟩ ⟨Nat.zero_le _, Nat.zero_le _⟩ rfl rfl ⟨Nat.le_of_ble_eq_true rfl, Nat.le_of_ble_eq_true rfl⟩ rfl rfl (Nat.le_of_ble_eq_true rfl) dL_yards_75 (fun r7 μ8 h => ?_)
                obtain ⟨rfl, h⟩ := h
                refine b_aload_n X dL_yards_78 rfl 2 rfl ?_
                refine b_iload_n X dL_yards_79 rfl 5 rfl ?_
                refine b_iconst (v := (nI 0)) X dL_yards_80 (by decide) ?_
                refine bVi (st := [.int r7]) (nA := 2) X (c_X6_goat l D C ad v3 (nI 0) μ _ h) kF_0 (by decide) (enc_6 kF_0) rfl gw_L_88 ⟨rfl, hd_X6_goat⟩ ⟨Nat.zero_le _, Nat.zero_le _⟩ rfl rfl ⟨Nat.le_of_ble_eq_true rfl, Nat.le_of_ble_eq_true rfl⟩ rfl rfl (Nat.le_of_ble_eq_true rfl) dL_yards_81 (fun r9 μ10 h => ?_)
                obtain ⟨rfl, h⟩ := h
                refine b_iload X dL_yards_84 1 rfl ?_
                refine b_isub X dL_yards_86 ?_
                refine b_icmp_eq (t := 111) X dL_yards_87 (by decide) (fun c => ?_) (fun c => ?_)
                · replace h := h.1 c
                  refine b_sub (lv' := [(0, .ref (ad 0)), (1, .ref (ad 246)), (2, .int a2), (3, .int v3), (4, .int r1), (5, .int r3)]) [2, 3, 4, 5, 1, 0] rfl ?_
                  exact B111 v3 r1 r3 μ h
                · replace h := h.2 c
                  refine b_aload_n X dL_yards_90 rfl 2 rfl ?_
                  refine b_iload X dL_yards_91 0 rfl ?_
                  refine b_iconst (v := (nI 0)) X dL_yards_93 (by decide) ?_
                  refine bVi (st := []) (nA := 2) X (c_X6_post l D C ad r3 (nI 0) μ _ h) kF_0 (by decide) (enc_6 kF_0) rfl gw_L_82 ⟨rfl, hd_X6_post⟩ ⟨Nat.zero_le _, Nat.zero_le _⟩ rfl rfl ⟨Nat.le_of_ble_eq_true rfl, Nat.le_of_ble_eq_true rfl⟩ rfl rfl (Nat.le_of_ble_eq_true rfl) dL_yards_94 (fun r11 μ12 h => ?_)
                  obtain ⟨rfl, h⟩ := h
                  refine b_aload_n X dL_yards_97 rfl 2 rfl ?_
                  refine b_iload_n X dL_yards_98 rfl 5 rfl ?_
                  refine b_iconst (v := (nI 0)) X dL_yards_99 (by decide) ?_
                  refine bVi (st := [.int r11]) (nA := 2) X (c_X6_goat l D C ad v3 (nI 0) μ _ h) kF_0 (by decide) (enc_6 kF_0) rfl gw_L_88 ⟨rfl, hd_X6_goat⟩ ⟨Nat.zero_le _, Nat.zero_le _⟩ rfl rfl ⟨Nat.le_of_ble_eq_true rfl, Nat.le_of_ble_eq_true rfl⟩ rfl rfl (Nat.le_of_ble_eq_true rfl) dL_yards_100 (fun r13 μ14 h => ?_)
                  obtain ⟨rfl, h⟩ := h
                  refine b_iload X dL_yards_103 1 rfl ?_
                  refine b_iadd X dL_yards_105 ?_
                  refine b_icmp_eq (t := 111) X dL_yards_106 (by decide) (fun c => ?_) (fun c => ?_)
                  · replace h := h.1 c
                    refine b_sub (lv' := [(0, .ref (ad 0)), (1, .ref (ad 246)), (2, .int a2), (3, .int v3), (4, .int r1), (5, .int r3)]) [2, 3, 4, 5, 1, 0] rfl ?_
                    exact B111 v3 r1 r3 μ h
                  · replace h := h.2 c
                    refine b_iconst (v := (nI 0)) X dL_yards_109 (by decide) ?_
                    exact hret _ _ _ _ ⟨(Or.inl rfl), h⟩ dL_yards_110
        · replace h := h.2 c
          refine b_iload X dL_yards_30 0 rfl ?_
          refine b_iconst (v := ((-1) : Int32)) X dL_yards_32 (by decide) ?_
          refine b_icmp_ne (t := 109) X dL_yards_33 (by decide) (fun c => ?_) (fun c => ?_)
          · replace h := h.1 c
            refine b_iconst (v := (nI 0)) X dL_yards_109 (by decide) ?_
            exact hret _ _ _ _ ⟨(Or.inl rfl), h⟩ dL_yards_110
          · replace h := h.2 c
            refine b_aload_n X dL_yards_36 rfl 2 rfl ?_
            refine b_bipush (v := (nI 10)) X dL_yards_37 (by decide) ?_
            refine bVi (st := []) (nA := 1) X (c_X6_told l D C ad (nI 10) μ _ h) kF_0 (by decide) (enc_6 kF_0) rfl gw_L_28 ⟨rfl, hd_X6_told⟩ ⟨Nat.zero_le _, Nat.zero_le _⟩ rfl rfl ⟨Nat.le_of_ble_eq_true rfl, Nat.le_of_ble_eq_true rfl⟩ rfl rfl (Nat.le_of_ble_eq_true rfl) dL_yards_39 (fun r15 μ16 h => ?_)
            obtain ⟨rfl, h⟩ := h
            refine b_if_eq (t := 111) X dL_yards_42 (by decide) (fun c => ?_) (fun c => ?_)
            · replace h := h.1 c
              refine b_sub (lv' := [(0, .ref (ad 0)), (1, .ref (ad 246)), (2, .int a2), (3, .int v3), (4, .int r1), (5, .int r3)]) [2, 3, 4, 5, 1, 0] rfl ?_
              exact B111 v3 r1 r3 μ h
            · replace h := h.2 c
              refine b_goto (t := 109) X dL_yards_45 (by decide) ?_
              refine b_iconst (v := (nI 0)) X dL_yards_109 (by decide) ?_
              exact hret _ _ _ _ ⟨(Or.inl rfl), h⟩ dL_yards_110
    rw [eY] at B2
    exact B2
  refine b_iconst (v := (nI 0)) X dL_yards_0 (by decide) ?_
  refine b_istore_n (lv' := [(3, .int (nI 0)), (0, .ref (ad 0)), (1, .ref (ad 246)), (2, .int a2)]) X dL_yards_1 rfl (by decide) rfl ?_
  refine b_sub (lv' := [(0, .ref (ad 0)), (1, .ref (ad 246)), (2, .int a2), (3, .int (nI 0))]) [1, 2, 3, 0] rfl ?_
  exact B2 (nI 0) μ h
set_option maxHeartbeats 4000000 in
set_option maxRecDepth 100000 in
theorem c_L_carried (l : Launch) (D : va_G) (C : Nat → ClassId) (ad : Nat → Nat) (a2 : Int32) (μ : Mem) (Q : Int32 → Mem → Prop) (h : w_L_carried a2 μ Q) : Mi sF l yL_carried cL_carried 9 (some .boolean) rm_L_carried D C ad [.ref (ad 0), .ref (ad 246), .int a2] μ Q := by
  refine fm_z (by decide +kernel) sF_lt (Nat.le_of_ble_eq_true rfl) (fun K X hret => ?_)
  have X : CK sF D C ad K cL_carried 9 RL := X
  refine b_lv (lv' := [(0, .ref (ad 0)), (1, .ref (ad 246)), (2, .int a2)]) rfl ?_
  unfold w_L_carried at h
  have B88 : ∀ (v3 : Int32) (v4 : Int32) (s1 : Int32) (μ : Mem), w_L_carried_88 a2 v3 v4 s1 μ Q → WB sF l D C ad rm_L_carried K 9 μ 88 [(0, .ref (ad 0)), (2, .int a2), (3, .int v3), (4, .int v4)] [.int s1] := by
    intro v3 v4 s1 μ h
    unfold w_L_carried_88 at h
    refine b_istore (lv' := [(8, .int s1), (0, .ref (ad 0)), (2, .int a2), (3, .int v3), (4, .int v4)]) X dL_carried_88 (by decide) rfl ?_
    refine b_iload X dL_carried_90 0 rfl ?_
    refine b_if_eq (t := 138) X dL_carried_92 (by decide) (fun c => ?_) (fun c => ?_)
    · replace h := h.1 c
      refine b_iconst (v := (nI 0)) X dL_carried_138 (by decide) ?_
      exact hret _ _ _ _ ⟨(Or.inl rfl), h⟩ dL_carried_139
    · replace h := h.2 c
      refine b_aload_n X dL_carried_95 rfl 1 rfl ?_
      refine b_iconst (v := (nI 2)) X dL_carried_96 (by decide) ?_
      refine bVi (st := []) (nA := 1) X (c_X6_undo l D C ad (nI 2) μ _ h) kF_0 (by decide) (enc_6 kF_0) rfl gw_L_116 ⟨rfl, hd_X6_undo⟩ ⟨Nat.zero_le _, Nat.zero_le _⟩ rfl rfl ⟨Nat.le_of_ble_eq_true rfl, Nat.le_of_ble_eq_true rfl⟩ rfl rfl (Nat.le_of_ble_eq_true rfl) dL_carried_97 (fun r17 μ18 h => ?_)
      refine b_if_lt (t := 138) X dL_carried_100 (by decide) (fun c => ?_) (fun c => ?_)
      · replace h := h.1 c
        refine b_iconst (v := (nI 0)) X dL_carried_138 (by decide) ?_
        exact hret _ _ _ _ ⟨(Or.inl rfl), h⟩ dL_carried_139
      · replace h := h.2 c
        refine b_aload_n X dL_carried_103 rfl 1 rfl ?_
        refine b_bipush (v := (nI 10)) X dL_carried_104 (by decide) ?_
        refine bVi (st := []) (nA := 1) X (c_X6_told l D C ad (nI 10) μ18 _ h) kF_0 (by decide) (enc_6 kF_0) rfl gw_L_28 ⟨rfl, hd_X6_told⟩ ⟨Nat.zero_le _, Nat.zero_le _⟩ rfl rfl ⟨Nat.le_of_ble_eq_true rfl, Nat.le_of_ble_eq_true rfl⟩ rfl rfl (Nat.le_of_ble_eq_true rfl) dL_carried_106 (fun r19 μ20 h => ?_)
        obtain ⟨rfl, h⟩ := h
        refine b_iload_n X dL_carried_109 rfl 3 rfl ?_
        refine b_icmp_ne (t := 138) X dL_carried_110 (by decide) (fun c => ?_) (fun c => ?_)
        · replace h := h.1 c
          refine b_iconst (v := (nI 0)) X dL_carried_138 (by decide) ?_
          exact hret _ _ _ _ ⟨(Or.inl rfl), h⟩ dL_carried_139
        · replace h := h.2 c
          refine b_aload_n X dL_carried_113 rfl 1 rfl ?_
          refine b_iconst (v := (nI 0)) X dL_carried_114 (by decide) ?_
          refine b_iconst (v := (nI 2)) X dL_carried_115 (by decide) ?_
          refine bVi (st := []) (nA := 2) X (c_X6_village l D C ad (nI 0) (nI 2) μ18 _ h) kF_0 (by decide) (enc_6 kF_0) rfl gw_L_85 ⟨rfl, hd_X6_village⟩ ⟨Nat.zero_le _, Nat.zero_le _⟩ rfl rfl ⟨Nat.le_of_ble_eq_true rfl, Nat.le_of_ble_eq_true rfl⟩ rfl rfl (Nat.le_of_ble_eq_true rfl) dL_carried_116 (fun r21 μ22 h => ?_)
          obtain ⟨rfl, h⟩ := h
          refine b_iload X dL_carried_119 4 rfl ?_
          refine b_icmp_ne (t := 138) X dL_carried_121 (by decide) (fun c => ?_) (fun c => ?_)
          · replace h := h.1 c
            refine b_iconst (v := (nI 0)) X dL_carried_138 (by decide) ?_
            exact hret _ _ _ _ ⟨(Or.inl rfl), h⟩ dL_carried_139
          · replace h := h.2 c
            refine b_aload_n X dL_carried_124 rfl 1 rfl ?_
            refine b_bipush (v := (nI 15)) X dL_carried_125 (by decide) ?_
            refine bVi (st := []) (nA := 1) X (c_X6_told l D C ad (nI 15) μ18 _ h) kF_0 (by decide) (enc_6 kF_0) rfl gw_L_28 ⟨rfl, hd_X6_told⟩ ⟨Nat.zero_le _, Nat.zero_le _⟩ rfl rfl ⟨Nat.le_of_ble_eq_true rfl, Nat.le_of_ble_eq_true rfl⟩ rfl rfl (Nat.le_of_ble_eq_true rfl) dL_carried_127 (fun r23 μ24 h => ?_)
            obtain ⟨rfl, h⟩ := h
            refine b_iload_n X dL_carried_130 rfl 2 rfl ?_
            refine b_icmp_ne (t := 138) X dL_carried_131 (by decide) (fun c => ?_) (fun c => ?_)
            · replace h := h.1 c
              refine b_iconst (v := (nI 0)) X dL_carried_138 (by decide) ?_
              exact hret _ _ _ _ ⟨(Or.inl rfl), h⟩ dL_carried_139
            · replace h := h.2 c
              refine b_iconst (v := (nI 1)) X dL_carried_134 (by decide) ?_
              refine b_goto (t := 139) X dL_carried_135 (by decide) ?_
              exact hret _ _ _ _ ⟨(Or.inr rfl), h⟩ dL_carried_139
  have B87 : ∀ (v3 : Int32) (v4 : Int32) (μ : Mem), w_L_carried_87 a2 v3 v4 μ Q → WB sF l D C ad rm_L_carried K 9 μ 87 [(0, .ref (ad 0)), (2, .int a2), (3, .int v3), (4, .int v4)] [] := by
    intro v3 v4 μ h
    unfold w_L_carried_87 at h
    refine b_iconst (v := (nI 0)) X dL_carried_87 (by decide) ?_
    refine b_sub (lv' := [(0, .ref (ad 0)), (2, .int a2), (3, .int v3), (4, .int v4)]) [0, 1, 2, 3] rfl ?_
    exact B88 v3 v4 (nI 0) μ h
  refine b_aload_n X dL_carried_0 rfl 0 rfl ?_
  refine b_bipush (v := (nI 10)) X dL_carried_1 (by decide) ?_
  refine bVi (st := []) (nA := 1) X (c_X6_told l D C ad (nI 10) μ _ h) kF_0 (by decide) (enc_6 kF_0) rfl gw_L_28 ⟨rfl, hd_X6_told⟩ ⟨Nat.zero_le _, Nat.zero_le _⟩ rfl rfl ⟨Nat.le_of_ble_eq_true rfl, Nat.le_of_ble_eq_true rfl⟩ rfl rfl (Nat.le_of_ble_eq_true rfl) dL_carried_3 (fun r1 μ2 h => ?_)
  obtain ⟨rfl, h⟩ := h
  refine b_istore_n (lv' := [(3, .int r1), (0, .ref (ad 0)), (1, .ref (ad 246)), (2, .int a2)]) X dL_carried_6 rfl (by decide) rfl ?_
  refine b_aload_n X dL_carried_7 rfl 1 rfl ?_
  refine b_iconst (v := (nI 0)) X dL_carried_8 (by decide) ?_
  refine b_iconst (v := (nI 2)) X dL_carried_9 (by decide) ?_
  refine bVi (st := []) (nA := 2) X (c_X6_village l D C ad (nI 0) (nI 2) μ _ h) kF_0 (by decide) (enc_6 kF_0) rfl gw_L_85 ⟨rfl, hd_X6_village⟩ ⟨Nat.zero_le _, Nat.zero_le _⟩ rfl rfl ⟨Nat.le_of_ble_eq_true rfl, Nat.le_of_ble_eq_true rfl⟩ rfl rfl (Nat.le_of_ble_eq_true rfl) dL_carried_10 (fun r3 μ4 h => ?_)
  obtain ⟨rfl, h⟩ := h
  refine b_istore (lv' := [(4, .int r3), (3, .int r1), (0, .ref (ad 0)), (1, .ref (ad 246)), (2, .int a2)]) X dL_carried_13 (by decide) rfl ?_
  refine b_aload_n X dL_carried_15 rfl 2 rfl ?_
  refine b_iconst (v := (nI 1)) X dL_carried_16 (by decide) ?_
  refine b_iconst (v := (nI 2)) X dL_carried_17 (by decide) ?_
  refine bVi (st := []) (nA := 2) X (c_X6_village l D C ad (nI 1) (nI 2) μ _ h) kF_0 (by decide) (enc_6 kF_0) rfl gw_L_85 ⟨rfl, hd_X6_village⟩ ⟨Nat.zero_le _, Nat.zero_le _⟩ rfl rfl ⟨Nat.le_of_ble_eq_true rfl, Nat.le_of_ble_eq_true rfl⟩ rfl rfl (Nat.le_of_ble_eq_true rfl) dL_carried_18 (fun r5 μ6 h => ?_)
  obtain ⟨rfl, h⟩ := h
  refine b_istore (lv' := [(5, .int r5), (4, .int r3), (3, .int r1), (0, .ref (ad 0)), (1, .ref (ad 246)), (2, .int a2)]) X dL_carried_21 (by decide) rfl ?_
  refine b_aload_n X dL_carried_23 rfl 3 rfl ?_
  refine b_iconst (v := (nI 0)) X dL_carried_24 (by decide) ?_
  refine bVi (st := []) (nA := 1) X (c_X6_carry l D C ad (nI 0) μ _ h) kF_0 (by decide) (enc_6 kF_0) rfl gw_L_205 ⟨rfl, hd_X6_carry⟩ ⟨Nat.zero_le _, Nat.zero_le _⟩ rfl rfl ⟨Nat.le_of_ble_eq_true rfl, Nat.le_of_ble_eq_true rfl⟩ rfl rfl (Nat.le_of_ble_eq_true rfl) dL_carried_25 (fun r7 μ8 h => ?_)
  refine b_istore (lv' := [(6, .int r7), (5, .int r5), (4, .int r3), (3, .int r1), (0, .ref (ad 0)), (1, .ref (ad 246)), (2, .int a2)]) X dL_carried_28 (by decide) rfl ?_
  refine b_aload_n X dL_carried_30 rfl 4 rfl ?_
  refine b_iconst (v := (nI 1)) X dL_carried_31 (by decide) ?_
  refine bVi (st := []) (nA := 1) X (c_X6_carry l D C ad (nI 1) μ8 _ h) kF_0 (by decide) (enc_6 kF_0) rfl gw_L_205 ⟨rfl, hd_X6_carry⟩ ⟨Nat.zero_le _, Nat.zero_le _⟩ rfl rfl ⟨Nat.le_of_ble_eq_true rfl, Nat.le_of_ble_eq_true rfl⟩ rfl rfl (Nat.le_of_ble_eq_true rfl) dL_carried_32 (fun r9 μ10 h => ?_)
  refine b_istore (lv' := [(7, .int r9), (6, .int r7), (5, .int r5), (4, .int r3), (3, .int r1), (0, .ref (ad 0)), (1, .ref (ad 246)), (2, .int a2)]) X dL_carried_35 (by decide) rfl ?_
  refine b_iload X dL_carried_37 1 rfl ?_
  refine b_iload X dL_carried_39 0 rfl ?_
  refine b_iadd X dL_carried_41 ?_
  refine b_iload_n X dL_carried_42 rfl 4 rfl ?_
  refine b_icmp_ne (t := 87) X dL_carried_43 (by decide) (fun c => ?_) (fun c => ?_)
  · replace h := h.1 c
    refine b_sub (lv' := [(0, .ref (ad 0)), (2, .int a2), (3, .int r1), (4, .int r3)]) [5, 7, 4, 3] rfl ?_
    exact B87 r1 r3 μ10 h
  · replace h := h.2 c
    refine b_aload_n X dL_carried_46 rfl 5 rfl ?_
    refine b_bipush (v := (nI 10)) X dL_carried_47 (by decide) ?_
    refine bVi (st := []) (nA := 1) X (c_X6_told l D C ad (nI 10) μ10 _ h) kF_0 (by decide) (enc_6 kF_0) rfl gw_L_28 ⟨rfl, hd_X6_told⟩ ⟨Nat.zero_le _, Nat.zero_le _⟩ rfl rfl ⟨Nat.le_of_ble_eq_true rfl, Nat.le_of_ble_eq_true rfl⟩ rfl rfl (Nat.le_of_ble_eq_true rfl) dL_carried_49 (fun r11 μ12 h => ?_)
    obtain ⟨rfl, h⟩ := h
    refine b_if_ne (t := 87) X dL_carried_52 (by decide) (fun c => ?_) (fun c => ?_)
    · replace h := h.1 c
      refine b_sub (lv' := [(0, .ref (ad 0)), (2, .int a2), (3, .int r1), (4, .int r3)]) [5, 7, 4, 3] rfl ?_
      exact B87 r1 r3 μ10 h
    · replace h := h.2 c
      refine b_aload_n X dL_carried_55 rfl 5 rfl ?_
      refine b_iconst (v := (nI 0)) X dL_carried_56 (by decide) ?_
      refine b_iconst (v := (nI 2)) X dL_carried_57 (by decide) ?_
      refine bVi (st := []) (nA := 2) X (c_X6_village l D C ad (nI 0) (nI 2) μ10 _ h) kF_0 (by decide) (enc_6 kF_0) rfl gw_L_85 ⟨rfl, hd_X6_village⟩ ⟨Nat.zero_le _, Nat.zero_le _⟩ rfl rfl ⟨Nat.le_of_ble_eq_true rfl, Nat.le_of_ble_eq_true rfl⟩ rfl rfl (Nat.le_of_ble_eq_true rfl) dL_carried_58 (fun r13 μ14 h => ?_)
      obtain ⟨rfl, h⟩ := h
      refine b_iload X dL_carried_61 3 rfl ?_
      refine b_iload X dL_carried_63 1 rfl ?_
      refine b_iadd X dL_carried_65 ?_
      refine b_icmp_ne (t := 87) X dL_carried_66 (by decide) (fun c => ?_) (fun c => ?_)
      · replace h := h.1 c
        refine b_sub (lv' := [(0, .ref (ad 0)), (2, .int a2), (3, .int r1), (4, .int r3)]) [5, 7, 4, 3] rfl ?_
        exact B87 r1 r3 μ10 h
      · replace h := h.2 c
        refine b_aload_n X dL_carried_69 rfl 5 rfl ?_
        refine b_iconst (v := (nI 1)) X dL_carried_70 (by decide) ?_
        refine b_iconst (v := (nI 2)) X dL_carried_71 (by decide) ?_
        refine bVi (st := []) (nA := 2) X (c_X6_village l D C ad (nI 1) (nI 2) μ10 _ h) kF_0 (by decide) (enc_6 kF_0) rfl gw_L_85 ⟨rfl, hd_X6_village⟩ ⟨Nat.zero_le _, Nat.zero_le _⟩ rfl rfl ⟨Nat.le_of_ble_eq_true rfl, Nat.le_of_ble_eq_true rfl⟩ rfl rfl (Nat.le_of_ble_eq_true rfl) dL_carried_72 (fun r15 μ16 h => ?_)
        obtain ⟨rfl, h⟩ := h
        refine b_iload X dL_carried_75 2 rfl ?_
        refine b_iload X dL_carried_77 0 rfl ?_
        refine b_iadd X dL_carried_79 ?_
        refine b_icmp_ne (t := 87) X dL_carried_80 (by decide) (fun c => ?_) (fun c => ?_)
        · replace h := h.1 c
          refine b_sub (lv' := [(0, .ref (ad 0)), (2, .int a2), (3, .int r1), (4, .int r3)]) [5, 7, 4, 3] rfl ?_
          exact B87 r1 r3 μ10 h
        · replace h := h.2 c
          refine b_iconst (v := (nI 1)) X dL_carried_83 (by decide) ?_
          refine b_goto (t := 88) X dL_carried_84 (by decide) ?_
          refine b_sub (lv' := [(0, .ref (ad 0)), (2, .int a2), (3, .int r1), (4, .int r3)]) [5, 7, 4, 3] rfl ?_
          exact B88 r1 r3 (nI 1) μ10 h
set_option maxHeartbeats 4000000 in
set_option maxRecDepth 100000 in
theorem c_L_law (l : Launch) (D : va_G) (C : Nat → ClassId) (ad : Nat → Nat) (ss : Nat × (Nat → Int32)) (hss : ss = sX ad) (μ : Mem) (Q : Int32 → Mem → Prop) (h : w_L_law ss μ Q) {K : Ctx} (X : CK sF D C ad K cL_law 11 RL) (hret : ∀ (v : Int32) (μ' : Mem) (pc : Nat) (lv : List (Nat × Value)), (v = 0 ∨ v = 1) ∧ Q v μ' → decode cL_law pc = .ok (.ireturn, 1) → WC sF l D C ad room_1 K 11 626541 7222626 μ' pc lv [.int v]) : WC sF l D C ad room_1 K 11 626541 7222626 μ 24 [(0, .ref (ad 249)), (1, .ref (ad 0)), (2, .ref (ad 246)), (3, .ref (ad 247)), (4, .ref (ad 248))] [] := by
  unfold w_L_law at h
  have B84 : ∀ (v5 : Int32) (v6 : Int32) (v7 : Int32) (μ : Mem), w_L_law_84 ss v5 v6 v7 μ Q → WC sF l D C ad room_1 K 11 626541 7222626 μ 84 [(0, .ref (ad 249)), (1, .ref (ad 0)), (2, .ref (ad 246)), (3, .ref (ad 247)), (5, .int v5), (6, .int v6), (7, .int v7)] [] := by
    intro v5 v6 v7 μ h
    obtain ⟨Y84, eY⟩ : ∃ Y : Int32 → Int32 → Mem → Prop, Y = fun (v6 : Int32) (v7 : Int32) (μ : Mem) => WC sF l D C ad room_1 K 11 626541 7222626 μ 84 [(0, .ref (ad 249)), (1, .ref (ad 0)), (2, .ref (ad 246)), (3, .ref (ad 247)), (5, .int v5), (6, .int v6), (7, .int v7)] [] := ⟨_, rfl⟩
    have B84 : Y84 v6 v7 μ := by
      unfold w_L_law_84 at h
      refine h Y84 ?_
      clear h
      intro v6 v7 μ h
      unfold s_L_law_84 at h
      rw [eY]
      show WC sF l D C ad room_1 K 11 626541 7222626 μ 84 [(0, .ref (ad 249)), (1, .ref (ad 0)), (2, .ref (ad 246)), (3, .ref (ad 247)), (5, .int v5), (6, .int v6), (7, .int v7)] []
      have T84 : ∀ (v6 : Int32) (v7 : Int32) (μ : Mem), Y84 v6 v7 μ → WC sF l D C ad room_1 K 11 626541 7222626 μ 84 [(0, .ref (ad 249)), (1, .ref (ad 0)), (2, .ref (ad 246)), (3, .ref (ad 247)), (5, .int v5), (6, .int v6), (7, .int v7)] [] := by
        intro v6 v7 μ h
        rw [eY] at h
        exact h
      clear eY
      have B172 : ∀ (v5 : Int32) (v6 : Int32) (μ : Mem), w_L_law_172 ss v5 v6 μ Q → WC sF l D C ad room_1 K 11 626541 7222626 μ 172 [(0, .ref (ad 249)), (1, .ref (ad 0)), (2, .ref (ad 246)), (3, .ref (ad 247)), (5, .int v5), (6, .int v6)] [] := by
        intro v5 v6 μ h
        unfold w_L_law_172 at h
        have B225 : ∀ (v5 : Int32) (s2 : Int32) (s1 : Int32) (μ : Mem), w_L_law_225 ss v5 s2 s1 μ Q → WC sF l D C ad room_1 K 11 626541 7222626 μ 225 [(0, .ref (ad 249)), (1, .ref (ad 0)), (2, .ref (ad 246)), (3, .ref (ad 247)), (5, .int v5)] [.int s2, .int s1] := by
          intro v5 s2 s1 μ h
          unfold w_L_law_225 at h
          have B241 : ∀ (v5 : Int32) (v8 : Int32) (μ : Mem), w_L_law_241 ss v5 v8 μ Q → WC sF l D C ad room_1 K 11 626541 7222626 μ 241 [(0, .ref (ad 249)), (1, .ref (ad 0)), (2, .ref (ad 246)), (3, .ref (ad 247)), (5, .int v5), (8, .int v8)] [] := by
            intro v5 v8 μ h
            obtain ⟨Y241, eY⟩ : ∃ Y : Int32 → Mem → Prop, Y = fun (v8 : Int32) (μ : Mem) => WC sF l D C ad room_1 K 11 626541 7222626 μ 241 [(0, .ref (ad 249)), (1, .ref (ad 0)), (2, .ref (ad 246)), (3, .ref (ad 247)), (5, .int v5), (8, .int v8)] [] := ⟨_, rfl⟩
            have B241 : Y241 v8 μ := by
              unfold w_L_law_241 at h
              refine h Y241 ?_
              clear h
              intro v8 μ h
              unfold s_L_law_241 at h
              rw [eY]
              show WC sF l D C ad room_1 K 11 626541 7222626 μ 241 [(0, .ref (ad 249)), (1, .ref (ad 0)), (2, .ref (ad 246)), (3, .ref (ad 247)), (5, .int v5), (8, .int v8)] []
              have T241 : ∀ (v8 : Int32) (μ : Mem), Y241 v8 μ → WC sF l D C ad room_1 K 11 626541 7222626 μ 241 [(0, .ref (ad 249)), (1, .ref (ad 0)), (2, .ref (ad 246)), (3, .ref (ad 247)), (5, .int v5), (8, .int v8)] [] := by
                intro v8 μ h
                rw [eY] at h
                exact h
              clear eY
              have B288 : ∀ (v5 : Int32) (μ : Mem), w_L_law_288 ss v5 μ Q → WC sF l D C ad room_1 K 11 626541 7222626 μ 288 [(0, .ref (ad 249)), (1, .ref (ad 0)), (2, .ref (ad 246)), (3, .ref (ad 247)), (5, .int v5)] [] := by
                intro v5 μ h
                unfold w_L_law_288 at h
                have B506 : ∀ (s1 : Int32) (μ : Mem), w_L_law_506 ss s1 μ Q → WC sF l D C ad room_1 K 11 626541 7222626 μ 506 [(0, .ref (ad 249)), (1, .ref (ad 0))] [.int s1] := by
                  intro s1 μ h
                  unfold w_L_law_506 at h
                  have B523 : ∀ (v8 : Int32) (s1 : Int32) (μ : Mem), w_L_law_523 ss v8 s1 μ Q → WC sF l D C ad room_1 K 11 626541 7222626 μ 523 [(0, .ref (ad 249)), (1, .ref (ad 0)), (8, .int v8)] [.int s1] := by
                    intro v8 s1 μ h
                    unfold w_L_law_523 at h
                    refine b_istore (lv' := [(9, .int s1), (0, .ref (ad 249)), (1, .ref (ad 0)), (8, .int v8)]) X dL_law_523 (by decide) rfl ?_
                    refine b_aload_n X dL_law_525 rfl 2 rfl ?_
                    refine b_bipush (v := (nI 10)) X dL_law_526 (by decide) ?_
                    refine bVi (st := []) (nA := 1) X (c_X6_told l D C ad (nI 10) μ _ h) kF_0 (by decide) (enc_6 kF_0) rfl gw_L_28 ⟨rfl, hd_X6_told⟩ ⟨Nat.le_of_ble_eq_true rfl, Nat.le_of_ble_eq_true rfl⟩ rfl rfl ⟨Nat.le_of_ble_eq_true rfl, Nat.le_of_ble_eq_true rfl⟩ rfl rfl (Nat.le_of_ble_eq_true rfl) dL_law_528 (fun r101 μ102 h => ?_)
                    obtain ⟨rfl, h⟩ := h
                    refine b_istore (lv' := [(10, .int r101), (9, .int s1), (0, .ref (ad 249)), (1, .ref (ad 0)), (8, .int v8)]) X dL_law_531 (by decide) rfl ?_
                    refine b_iload X dL_law_533 4 rfl ?_
                    refine b_if_eq (t := 596) X dL_law_535 (by decide) (fun c => ?_) (fun c => ?_)
                    · replace h := h.1 c
                      refine b_iconst (v := (nI 0)) X dL_law_596 (by decide) ?_
                      exact hret _ _ _ _ ⟨(Or.inl rfl), h⟩ dL_law_597
                    · replace h := h.2 c
                      refine b_aload_n X dL_law_538 rfl 3 rfl ?_
                      refine b_iconst (v := (nI 0)) X dL_law_539 (by decide) ?_
                      refine bVi (st := []) (nA := 1) X (c_X6_goBack l D C ad (nI 0) μ _ h) kF_0 (by decide) (enc_6 kF_0) rfl gw_L_152 ⟨rfl, hd_X6_goBack⟩ ⟨Nat.le_of_ble_eq_true rfl, Nat.le_of_ble_eq_true rfl⟩ rfl rfl ⟨Nat.le_of_ble_eq_true rfl, Nat.le_of_ble_eq_true rfl⟩ rfl rfl (Nat.le_of_ble_eq_true rfl) dL_law_540 (fun r103 μ104 h => ?_)
                      refine b_iconst (v := (nI 1)) X dL_law_543 (by decide) ?_
                      refine b_icmp_ne (t := 596) X dL_law_544 (by decide) (fun c => ?_) (fun c => ?_)
                      · replace h := h.1 c
                        refine b_iconst (v := (nI 0)) X dL_law_596 (by decide) ?_
                        exact hret _ _ _ _ ⟨(Or.inl rfl), h⟩ dL_law_597
                      · replace h := h.2 c
                        refine b_aload_n X dL_law_547 rfl 3 rfl ?_
                        refine b_bipush (v := (nI 9)) X dL_law_548 (by decide) ?_
                        refine bVi (st := []) (nA := 1) X (c_X6_drift l D C ad (nI 9) μ104 _ h) kF_0 (by decide) (enc_6 kF_0) rfl gw_L_146 ⟨rfl, hd_X6_drift⟩ ⟨Nat.le_of_ble_eq_true rfl, Nat.le_of_ble_eq_true rfl⟩ rfl rfl ⟨Nat.le_of_ble_eq_true rfl, Nat.le_of_ble_eq_true rfl⟩ rfl rfl (Nat.le_of_ble_eq_true rfl) dL_law_550 (fun r105 μ106 h => ?_)
                        refine b_iload X dL_law_553 1 rfl ?_
                        refine b_icmp_ne (t := 596) X dL_law_555 (by decide) (fun c => ?_) (fun c => ?_)
                        · replace h := h.1 c
                          refine b_iconst (v := (nI 0)) X dL_law_596 (by decide) ?_
                          exact hret _ _ _ _ ⟨(Or.inl rfl), h⟩ dL_law_597
                        · replace h := h.2 c
                          refine b_aload_n X dL_law_558 rfl 3 rfl ?_
                          refine b_bipush (v := (nI 10)) X dL_law_559 (by decide) ?_
                          refine bVi (st := []) (nA := 1) X (c_X6_told l D C ad (nI 10) μ106 _ h) kF_0 (by decide) (enc_6 kF_0) rfl gw_L_28 ⟨rfl, hd_X6_told⟩ ⟨Nat.le_of_ble_eq_true rfl, Nat.le_of_ble_eq_true rfl⟩ rfl rfl ⟨Nat.le_of_ble_eq_true rfl, Nat.le_of_ble_eq_true rfl⟩ rfl rfl (Nat.le_of_ble_eq_true rfl) dL_law_561 (fun r107 μ108 h => ?_)
                          obtain ⟨rfl, h⟩ := h
                          refine b_iload X dL_law_564 0 rfl ?_
                          refine b_icmp_ne (t := 596) X dL_law_566 (by decide) (fun c => ?_) (fun c => ?_)
                          · replace h := h.1 c
                            refine b_iconst (v := (nI 0)) X dL_law_596 (by decide) ?_
                            exact hret _ _ _ _ ⟨(Or.inl rfl), h⟩ dL_law_597
                          · replace h := h.2 c
                            refine b_aload_n X dL_law_569 rfl 3 rfl ?_
                            refine b_iconst (v := (nI 0)) X dL_law_570 (by decide) ?_
                            refine bVi (st := []) (nA := 1) X (c_X6_goBack l D C ad (nI 0) μ106 _ h) kF_0 (by decide) (enc_6 kF_0) rfl gw_L_152 ⟨rfl, hd_X6_goBack⟩ ⟨Nat.le_of_ble_eq_true rfl, Nat.le_of_ble_eq_true rfl⟩ rfl rfl ⟨Nat.le_of_ble_eq_true rfl, Nat.le_of_ble_eq_true rfl⟩ rfl rfl (Nat.le_of_ble_eq_true rfl) dL_law_571 (fun r109 μ110 h => ?_)
                            refine b_iconst (v := (nI 1)) X dL_law_574 (by decide) ?_
                            refine b_icmp_ne (t := 596) X dL_law_575 (by decide) (fun c => ?_) (fun c => ?_)
                            · replace h := h.1 c
                              refine b_iconst (v := (nI 0)) X dL_law_596 (by decide) ?_
                              exact hret _ _ _ _ ⟨(Or.inl rfl), h⟩ dL_law_597
                            · replace h := h.2 c
                              refine b_aload_n X dL_law_578 rfl 3 rfl ?_
                              refine b_iconst (v := (nI 1)) X dL_law_579 (by decide) ?_
                              refine bVi (st := []) (nA := 1) X (c_X6_seed l D C ad (nI 1) μ110 _ h) kF_0 (by decide) (enc_6 kF_0) rfl gw_L_96 ⟨rfl, hd_X6_seed⟩ ⟨Nat.le_of_ble_eq_true rfl, Nat.le_of_ble_eq_true rfl⟩ rfl rfl ⟨Nat.le_of_ble_eq_true rfl, Nat.le_of_ble_eq_true rfl⟩ rfl rfl (Nat.le_of_ble_eq_true rfl) dL_law_580 (fun r111 μ112 h => ?_)
                              refine b_aload_n X dL_law_583 rfl 2 rfl ?_
                              refine b_bipush (v := (nI 35)) X dL_law_584 (by decide) ?_
                              refine bSi (st := [.int r111]) (nA := 2) X (c_L_cell l D C ad ss hss (nI 35) μ112 _ h) gw_L_20 hd_L_cell ⟨Nat.le_of_ble_eq_true rfl, Nat.le_of_ble_eq_true rfl⟩ rfl rfl ⟨Nat.le_of_ble_eq_true rfl, Nat.le_of_ble_eq_true rfl⟩ rfl rfl (Nat.le_of_ble_eq_true rfl) dL_law_586 (fun r113 μ114 h => ?_)
                              obtain ⟨rfl, h⟩ := h
                              refine b_icmp_ne (t := 596) X dL_law_589 (by decide) (fun c => ?_) (fun c => ?_)
                              · replace h := h.1 c
                                refine b_iconst (v := (nI 0)) X dL_law_596 (by decide) ?_
                                exact hret _ _ _ _ ⟨(Or.inl rfl), h⟩ dL_law_597
                              · replace h := h.2 c
                                refine b_iconst (v := (nI 1)) X dL_law_592 (by decide) ?_
                                refine b_goto (t := 597) X dL_law_593 (by decide) ?_
                                exact hret _ _ _ _ ⟨(Or.inr rfl), h⟩ dL_law_597
                  refine b_istore (lv' := [(8, .int s1), (0, .ref (ad 249)), (1, .ref (ad 0))]) X dL_law_506 (by decide) rfl ?_
                  refine b_iload X dL_law_508 0 rfl ?_
                  refine b_if_eq (t := 522) X dL_law_510 (by decide) (fun c => ?_) (fun c => ?_)
                  · replace h := h.1 c
                    refine b_iconst (v := ((-1) : Int32)) X dL_law_522 (by decide) ?_
                    refine b_sub (lv' := [(0, .ref (ad 249)), (1, .ref (ad 0)), (8, .int s1)]) [1, 2, 0] rfl ?_
                    exact B523 s1 ((-1) : Int32) μ h
                  · replace h := h.2 c
                    refine b_aload_n X dL_law_513 rfl 2 rfl ?_
                    refine b_bipush (v := (nI 9)) X dL_law_514 (by decide) ?_
                    refine bVi (st := []) (nA := 1) X (c_X6_drift l D C ad (nI 9) μ _ h) kF_0 (by decide) (enc_6 kF_0) rfl gw_L_146 ⟨rfl, hd_X6_drift⟩ ⟨Nat.le_of_ble_eq_true rfl, Nat.le_of_ble_eq_true rfl⟩ rfl rfl ⟨Nat.le_of_ble_eq_true rfl, Nat.le_of_ble_eq_true rfl⟩ rfl rfl (Nat.le_of_ble_eq_true rfl) dL_law_516 (fun r99 μ100 h => ?_)
                    refine b_goto (t := 523) X dL_law_519 (by decide) ?_
                    refine b_sub (lv' := [(0, .ref (ad 249)), (1, .ref (ad 0)), (8, .int s1)]) [1, 2, 0] rfl ?_
                    exact B523 s1 r99 μ100 h
                have B505 : ∀ (μ : Mem), w_L_law_505 ss μ Q → WC sF l D C ad room_1 K 11 626541 7222626 μ 505 [(0, .ref (ad 249)), (1, .ref (ad 0))] [] := by
                  intro μ h
                  unfold w_L_law_505 at h
                  refine b_iconst (v := (nI 0)) X dL_law_505 (by decide) ?_
                  refine b_sub (lv' := [(0, .ref (ad 249)), (1, .ref (ad 0))]) [0, 1] rfl ?_
                  exact B506 (nI 0) μ h
                refine b_aload_n X dL_law_288 rfl 1 rfl ?_
                refine b_aload_n X dL_law_289 rfl 0 rfl ?_
                refine b_bipush (v := (nI 50)) X dL_law_290 (by decide) ?_
                refine bSi (st := [.ref (ad 0)]) (nA := 2) X (c_L_cell l D C ad ss hss (nI 50) μ _ h) gw_L_20 hd_L_cell ⟨Nat.le_of_ble_eq_true rfl, Nat.le_of_ble_eq_true rfl⟩ rfl rfl ⟨Nat.le_of_ble_eq_true rfl, Nat.le_of_ble_eq_true rfl⟩ rfl rfl (Nat.le_of_ble_eq_true rfl) dL_law_292 (fun r46 μ47 h => ?_)
                obtain ⟨rfl, h⟩ := h
                refine b_bipush (v := (nI 30)) X dL_law_295 (by decide) ?_
                have hz := h.1
                replace h := h.2
                refine b_irem X dL_law_297 hz ?_
                clear hz
                refine b_topi (fun x48 ex48 => ?_)
                replace h := h x48 ex48
                refine b_iload X dL_law_298 4 rfl ?_
                refine bSi (st := []) (nA := 3) X (c_L_lamps l D C ad x48 v5 μ _ h) gw_L_126 hd_L_lamps ⟨Nat.le_of_ble_eq_true rfl, Nat.le_of_ble_eq_true rfl⟩ rfl rfl ⟨Nat.le_of_ble_eq_true rfl, Nat.le_of_ble_eq_true rfl⟩ rfl rfl (Nat.le_of_ble_eq_true rfl) dL_law_300 (fun r49 μ50 h => ?_)
                refine b_if_eq (t := 390) X dL_law_303 (by decide) (fun c => ?_) (fun c => ?_)
                · replace h := h.1 c
                  refine b_iconst (v := (nI 0)) X dL_law_390 (by decide) ?_
                  exact hret _ _ _ _ ⟨(Or.inl rfl), h⟩ dL_law_391
                · replace h := h.2 c
                  refine b_aload_n X dL_law_306 rfl 1 rfl ?_
                  refine b_aload_n X dL_law_307 rfl 2 rfl ?_
                  refine b_aload_n X dL_law_308 rfl 0 rfl ?_
                  refine b_bipush (v := (nI 51)) X dL_law_309 (by decide) ?_
                  refine bSi (st := [.ref (ad 246), .ref (ad 0)]) (nA := 2) X (c_L_cell l D C ad ss hss (nI 51) μ50 _ h) gw_L_20 hd_L_cell ⟨Nat.le_of_ble_eq_true rfl, Nat.le_of_ble_eq_true rfl⟩ rfl rfl ⟨Nat.le_of_ble_eq_true rfl, Nat.le_of_ble_eq_true rfl⟩ rfl rfl (Nat.le_of_ble_eq_true rfl) dL_law_311 (fun r51 μ52 h => ?_)
                  obtain ⟨rfl, h⟩ := h
                  refine b_iconst (v := (nI 2)) X dL_law_314 (by decide) ?_
                  have hz := h.1
                  replace h := h.2
                  refine b_irem X dL_law_315 hz ?_
                  clear hz
                  refine b_topi (fun x53 ex53 => ?_)
                  replace h := h x53 ex53
                  refine b_iload X dL_law_316 4 rfl ?_
                  refine bSi (st := []) (nA := 4) X (c_L_thirst l D C ad x53 v5 μ50 _ h) gw_L_130 hd_L_thirst ⟨Nat.le_of_ble_eq_true rfl, Nat.le_of_ble_eq_true rfl⟩ rfl rfl ⟨Nat.le_of_ble_eq_true rfl, Nat.le_of_ble_eq_true rfl⟩ rfl rfl (Nat.le_of_ble_eq_true rfl) dL_law_318 (fun r54 μ55 h => ?_)
                  refine b_if_eq (t := 390) X dL_law_321 (by decide) (fun c => ?_) (fun c => ?_)
                  · replace h := h.1 c
                    refine b_iconst (v := (nI 0)) X dL_law_390 (by decide) ?_
                    exact hret _ _ _ _ ⟨(Or.inl rfl), h⟩ dL_law_391
                  · replace h := h.2 c
                    refine b_aload_n X dL_law_324 rfl 1 rfl ?_
                    refine b_aload_n X dL_law_325 rfl 2 rfl ?_
                    refine b_aload_n X dL_law_326 rfl 0 rfl ?_
                    refine b_bipush (v := (nI 52)) X dL_law_327 (by decide) ?_
                    refine bSi (st := [.ref (ad 246), .ref (ad 0)]) (nA := 2) X (c_L_cell l D C ad ss hss (nI 52) μ55 _ h) gw_L_20 hd_L_cell ⟨Nat.le_of_ble_eq_true rfl, Nat.le_of_ble_eq_true rfl⟩ rfl rfl ⟨Nat.le_of_ble_eq_true rfl, Nat.le_of_ble_eq_true rfl⟩ rfl rfl (Nat.le_of_ble_eq_true rfl) dL_law_329 (fun r56 μ57 h => ?_)
                    obtain ⟨rfl, h⟩ := h
                    refine b_bipush (v := (nI 60)) X dL_law_332 (by decide) ?_
                    have hz := h.1
                    replace h := h.2
                    refine b_irem X dL_law_334 hz ?_
                    clear hz
                    refine b_topi (fun x58 ex58 => ?_)
                    replace h := h x58 ex58
                    refine b_aload_n X dL_law_335 rfl 0 rfl ?_
                    refine b_bipush (v := (nI 52)) X dL_law_336 (by decide) ?_
                    refine bSi (st := [.int x58, .ref (ad 246), .ref (ad 0)]) (nA := 2) X (c_L_cell l D C ad ss hss (nI 52) μ55 _ h) gw_L_20 hd_L_cell ⟨Nat.le_of_ble_eq_true rfl, Nat.le_of_ble_eq_true rfl⟩ rfl rfl ⟨Nat.le_of_ble_eq_true rfl, Nat.le_of_ble_eq_true rfl⟩ rfl rfl (Nat.le_of_ble_eq_true rfl) dL_law_338 (fun r59 μ60 h => ?_)
                    obtain ⟨rfl, h⟩ := h
                    refine b_bipush (v := (nI 64)) X dL_law_341 (by decide) ?_
                    have hz := h.1
                    replace h := h.2
                    refine b_idiv X dL_law_343 hz ?_
                    clear hz
                    refine b_iconst (v := (nI 2)) X dL_law_344 (by decide) ?_
                    have hz := h.1
                    replace h := h.2
                    refine b_irem X dL_law_345 hz ?_
                    clear hz
                    refine b_topi (fun x61 ex61 => ?_)
                    replace h := h x61 ex61
                    refine bSi (st := []) (nA := 4) X (c_L_led l D C ad x58 x61 μ55 _ h) gw_L_133 hd_L_led ⟨Nat.le_of_ble_eq_true rfl, Nat.le_of_ble_eq_true rfl⟩ rfl rfl ⟨Nat.le_of_ble_eq_true rfl, Nat.le_of_ble_eq_true rfl⟩ rfl rfl (Nat.le_of_ble_eq_true rfl) dL_law_346 (fun r62 μ63 h => ?_)
                    refine b_if_eq (t := 390) X dL_law_349 (by decide) (fun c => ?_) (fun c => ?_)
                    · replace h := h.1 c
                      refine b_iconst (v := (nI 0)) X dL_law_390 (by decide) ?_
                      exact hret _ _ _ _ ⟨(Or.inl rfl), h⟩ dL_law_391
                    · replace h := h.2 c
                      refine b_aload_n X dL_law_352 rfl 1 rfl ?_
                      refine b_aload_n X dL_law_353 rfl 2 rfl ?_
                      refine b_aload_n X dL_law_354 rfl 0 rfl ?_
                      refine b_bipush (v := (nI 53)) X dL_law_355 (by decide) ?_
                      refine bSi (st := [.ref (ad 246), .ref (ad 0)]) (nA := 2) X (c_L_cell l D C ad ss hss (nI 53) μ63 _ h) gw_L_20 hd_L_cell ⟨Nat.le_of_ble_eq_true rfl, Nat.le_of_ble_eq_true rfl⟩ rfl rfl ⟨Nat.le_of_ble_eq_true rfl, Nat.le_of_ble_eq_true rfl⟩ rfl rfl (Nat.le_of_ble_eq_true rfl) dL_law_357 (fun r64 μ65 h => ?_)
                      obtain ⟨rfl, h⟩ := h
                      refine b_sipush (v := (nI 1000)) X dL_law_360 (by decide) ?_
                      have hz := h.1
                      replace h := h.2
                      refine b_irem X dL_law_363 hz ?_
                      clear hz
                      refine b_topi (fun x66 ex66 => ?_)
                      replace h := h x66 ex66
                      refine bSi (st := []) (nA := 3) X (c_L_shares l D C ad x66 μ63 _ h) gw_L_136 hd_L_shares ⟨Nat.le_of_ble_eq_true rfl, Nat.le_of_ble_eq_true rfl⟩ rfl rfl ⟨Nat.le_of_ble_eq_true rfl, Nat.le_of_ble_eq_true rfl⟩ rfl rfl (Nat.le_of_ble_eq_true rfl) dL_law_364 (fun r67 μ68 h => ?_)
                      obtain ⟨rfl, h⟩ := h
                      refine b_if_eq (t := 390) X dL_law_367 (by decide) (fun c => ?_) (fun c => ?_)
                      · replace h := h.1 c
                        refine b_iconst (v := (nI 0)) X dL_law_390 (by decide) ?_
                        exact hret _ _ _ _ ⟨(Or.inl rfl), h⟩ dL_law_391
                      · replace h := h.2 c
                        refine b_aload_n X dL_law_370 rfl 1 rfl ?_
                        refine b_aload_n X dL_law_371 rfl 2 rfl ?_
                        refine b_iload X dL_law_372 4 rfl ?_
                        refine bSi (st := []) (nA := 3) X (c_L_yards l D C ad v5 μ63 _ h) gw_L_140 hd_L_yards ⟨Nat.le_of_ble_eq_true rfl, Nat.le_of_ble_eq_true rfl⟩ rfl rfl ⟨Nat.le_of_ble_eq_true rfl, Nat.le_of_ble_eq_true rfl⟩ rfl rfl (Nat.le_of_ble_eq_true rfl) dL_law_374 (fun r69 μ70 h => ?_)
                        refine b_if_eq (t := 390) X dL_law_377 (by decide) (fun c => ?_) (fun c => ?_)
                        · replace h := h.1 c
                          refine b_iconst (v := (nI 0)) X dL_law_390 (by decide) ?_
                          exact hret _ _ _ _ ⟨(Or.inl rfl), h⟩ dL_law_391
                        · replace h := h.2 c
                          refine b_aload_n X dL_law_380 rfl 1 rfl ?_
                          refine b_aload_n X dL_law_381 rfl 2 rfl ?_
                          refine b_iload X dL_law_382 4 rfl ?_
                          refine bSi (st := []) (nA := 3) X (c_L_carried l D C ad v5 μ70 _ h) gw_L_143 hd_L_carried ⟨Nat.le_of_ble_eq_true rfl, Nat.le_of_ble_eq_true rfl⟩ rfl rfl ⟨Nat.le_of_ble_eq_true rfl, Nat.le_of_ble_eq_true rfl⟩ rfl rfl (Nat.le_of_ble_eq_true rfl) dL_law_384 (fun r71 μ72 h => ?_)
                          refine b_if_ne (t := 392) X dL_law_387 (by decide) (fun c => ?_) (fun c => ?_)
                          · replace h := h.1 c
                            refine b_aload_n X dL_law_392 rfl 1 rfl ?_
                            refine b_iconst (v := (nI 1)) X dL_law_393 (by decide) ?_
                            refine b_aload_n X dL_law_394 rfl 0 rfl ?_
                            refine b_bipush (v := (nI 55)) X dL_law_395 (by decide) ?_
                            refine bSi (st := [.int (nI 1), .ref (ad 0)]) (nA := 2) X (c_L_cell l D C ad ss hss (nI 55) μ72 _ h) gw_L_20 hd_L_cell ⟨Nat.le_of_ble_eq_true rfl, Nat.le_of_ble_eq_true rfl⟩ rfl rfl ⟨Nat.le_of_ble_eq_true rfl, Nat.le_of_ble_eq_true rfl⟩ rfl rfl (Nat.le_of_ble_eq_true rfl) dL_law_397 (fun r73 μ74 h => ?_)
                            obtain ⟨rfl, h⟩ := h
                            refine b_bipush (v := (nI 20)) X dL_law_400 (by decide) ?_
                            have hz := h.1
                            replace h := h.2
                            refine b_irem X dL_law_402 hz ?_
                            clear hz
                            refine b_topi (fun x75 ex75 => ?_)
                            replace h := h x75 ex75
                            refine b_iadd X dL_law_403 ?_
                            refine bVi (st := []) (nA := 1) X (c_X6_drift l D C ad ((nI 1) + x75) μ72 _ h) kF_0 (by decide) (enc_6 kF_0) rfl gw_L_146 ⟨rfl, hd_X6_drift⟩ ⟨Nat.le_of_ble_eq_true rfl, Nat.le_of_ble_eq_true rfl⟩ rfl rfl ⟨Nat.le_of_ble_eq_true rfl, Nat.le_of_ble_eq_true rfl⟩ rfl rfl (Nat.le_of_ble_eq_true rfl) dL_law_404 (fun r76 μ77 h => ?_)
                            refine b_if_lt (t := 454) X dL_law_407 (by decide) (fun c => ?_) (fun c => ?_)
                            · replace h := h.1 c
                              refine b_iconst (v := (nI 0)) X dL_law_454 (by decide) ?_
                              exact hret _ _ _ _ ⟨(Or.inl rfl), h⟩ dL_law_455
                            · replace h := h.2 c
                              refine b_aload_n X dL_law_410 rfl 1 rfl ?_
                              refine b_iconst (v := (nI 1)) X dL_law_411 (by decide) ?_
                              refine b_aload_n X dL_law_412 rfl 0 rfl ?_
                              refine b_bipush (v := (nI 55)) X dL_law_413 (by decide) ?_
                              refine bSi (st := [.int (nI 1), .ref (ad 0)]) (nA := 2) X (c_L_cell l D C ad ss hss (nI 55) μ77 _ h) gw_L_20 hd_L_cell ⟨Nat.le_of_ble_eq_true rfl, Nat.le_of_ble_eq_true rfl⟩ rfl rfl ⟨Nat.le_of_ble_eq_true rfl, Nat.le_of_ble_eq_true rfl⟩ rfl rfl (Nat.le_of_ble_eq_true rfl) dL_law_415 (fun r78 μ79 h => ?_)
                              obtain ⟨rfl, h⟩ := h
                              refine b_bipush (v := (nI 20)) X dL_law_418 (by decide) ?_
                              have hz := h.1
                              replace h := h.2
                              refine b_irem X dL_law_420 hz ?_
                              clear hz
                              refine b_topi (fun x80 ex80 => ?_)
                              replace h := h x80 ex80
                              refine b_iadd X dL_law_421 ?_
                              refine bVi (st := []) (nA := 1) X (c_X6_undo l D C ad ((nI 1) + x80) μ77 _ h) kF_0 (by decide) (enc_6 kF_0) rfl gw_L_116 ⟨rfl, hd_X6_undo⟩ ⟨Nat.le_of_ble_eq_true rfl, Nat.le_of_ble_eq_true rfl⟩ rfl rfl ⟨Nat.le_of_ble_eq_true rfl, Nat.le_of_ble_eq_true rfl⟩ rfl rfl (Nat.le_of_ble_eq_true rfl) dL_law_422 (fun r81 μ82 h => ?_)
                              refine b_aload_n X dL_law_425 rfl 1 rfl ?_
                              refine b_bipush (v := (nI 6)) X dL_law_426 (by decide) ?_
                              refine bVi (st := [.int r81]) (nA := 1) X (c_X6_told l D C ad (nI 6) μ82 _ h) kF_0 (by decide) (enc_6 kF_0) rfl gw_L_28 ⟨rfl, hd_X6_told⟩ ⟨Nat.le_of_ble_eq_true rfl, Nat.le_of_ble_eq_true rfl⟩ rfl rfl ⟨Nat.le_of_ble_eq_true rfl, Nat.le_of_ble_eq_true rfl⟩ rfl rfl (Nat.le_of_ble_eq_true rfl) dL_law_428 (fun r83 μ84 h => ?_)
                              obtain ⟨rfl, h⟩ := h
                              refine b_icmp_ne (t := 454) X dL_law_431 (by decide) (fun c => ?_) (fun c => ?_)
                              · replace h := h.1 c
                                refine b_iconst (v := (nI 0)) X dL_law_454 (by decide) ?_
                                exact hret _ _ _ _ ⟨(Or.inl rfl), h⟩ dL_law_455
                              · replace h := h.2 c
                                refine b_aload_n X dL_law_434 rfl 1 rfl ?_
                                refine b_bipush (v := (nI 15)) X dL_law_435 (by decide) ?_
                                refine bVi (st := []) (nA := 1) X (c_X6_told l D C ad (nI 15) μ82 _ h) kF_0 (by decide) (enc_6 kF_0) rfl gw_L_28 ⟨rfl, hd_X6_told⟩ ⟨Nat.le_of_ble_eq_true rfl, Nat.le_of_ble_eq_true rfl⟩ rfl rfl ⟨Nat.le_of_ble_eq_true rfl, Nat.le_of_ble_eq_true rfl⟩ rfl rfl (Nat.le_of_ble_eq_true rfl) dL_law_437 (fun r85 μ86 h => ?_)
                                obtain ⟨rfl, h⟩ := h
                                refine b_iload X dL_law_440 4 rfl ?_
                                refine b_icmp_ne (t := 454) X dL_law_442 (by decide) (fun c => ?_) (fun c => ?_)
                                · replace h := h.1 c
                                  refine b_iconst (v := (nI 0)) X dL_law_454 (by decide) ?_
                                  exact hret _ _ _ _ ⟨(Or.inl rfl), h⟩ dL_law_455
                                · replace h := h.2 c
                                  refine b_aload_n X dL_law_445 rfl 1 rfl ?_
                                  refine b_iload X dL_law_446 4 rfl ?_
                                  refine bVi (st := []) (nA := 1) X (c_X6_undo l D C ad v5 μ82 _ h) kF_0 (by decide) (enc_6 kF_0) rfl gw_L_116 ⟨rfl, hd_X6_undo⟩ ⟨Nat.le_of_ble_eq_true rfl, Nat.le_of_ble_eq_true rfl⟩ rfl rfl ⟨Nat.le_of_ble_eq_true rfl, Nat.le_of_ble_eq_true rfl⟩ rfl rfl (Nat.le_of_ble_eq_true rfl) dL_law_448 (fun r87 μ88 h => ?_)
                                  refine b_if_eq (t := 456) X dL_law_451 (by decide) (fun c => ?_) (fun c => ?_)
                                  · replace h := h.1 c
                                    refine b_aload_n X dL_law_456 rfl 1 rfl ?_
                                    refine b_aload_n X dL_law_457 rfl 2 rfl ?_
                                    refine b_aload_n X dL_law_458 rfl 3 rfl ?_
                                    refine bSi (st := []) (nA := 3) X (c_L_isCoast l D C ad  μ88 _ h) gw_L_149 hd_L_isCoast ⟨Nat.le_of_ble_eq_true rfl, Nat.le_of_ble_eq_true rfl⟩ rfl rfl ⟨Nat.le_of_ble_eq_true rfl, Nat.le_of_ble_eq_true rfl⟩ rfl rfl (Nat.le_of_ble_eq_true rfl) dL_law_459 (fun r89 μ90 h => ?_)
                                    obtain ⟨rfl, h⟩ := h
                                    refine b_if_eq (t := 505) X dL_law_462 (by decide) (fun c => ?_) (fun c => ?_)
                                    · replace h := h.1 c
                                      refine b_sub (lv' := [(0, .ref (ad 249)), (1, .ref (ad 0))]) [0, 1] rfl ?_
                                      exact B505 μ88 h
                                    · replace h := h.2 c
                                      refine b_aload_n X dL_law_465 rfl 1 rfl ?_
                                      refine b_bipush (v := (nI 9)) X dL_law_466 (by decide) ?_
                                      refine bVi (st := []) (nA := 1) X (c_X6_drift l D C ad (nI 9) μ88 _ h) kF_0 (by decide) (enc_6 kF_0) rfl gw_L_146 ⟨rfl, hd_X6_drift⟩ ⟨Nat.le_of_ble_eq_true rfl, Nat.le_of_ble_eq_true rfl⟩ rfl rfl ⟨Nat.le_of_ble_eq_true rfl, Nat.le_of_ble_eq_true rfl⟩ rfl rfl (Nat.le_of_ble_eq_true rfl) dL_law_468 (fun r91 μ92 h => ?_)
                                      refine b_if_lt (t := 505) X dL_law_471 (by decide) (fun c => ?_) (fun c => ?_)
                                      · replace h := h.1 c
                                        refine b_sub (lv' := [(0, .ref (ad 249)), (1, .ref (ad 0))]) [0, 1] rfl ?_
                                        exact B505 μ92 h
                                      · replace h := h.2 c
                                        refine b_aload_n X dL_law_474 rfl 1 rfl ?_
                                        refine b_iconst (v := (nI 0)) X dL_law_475 (by decide) ?_
                                        refine bVi (st := []) (nA := 1) X (c_X6_goBack l D C ad (nI 0) μ92 _ h) kF_0 (by decide) (enc_6 kF_0) rfl gw_L_152 ⟨rfl, hd_X6_goBack⟩ ⟨Nat.le_of_ble_eq_true rfl, Nat.le_of_ble_eq_true rfl⟩ rfl rfl ⟨Nat.le_of_ble_eq_true rfl, Nat.le_of_ble_eq_true rfl⟩ rfl rfl (Nat.le_of_ble_eq_true rfl) dL_law_476 (fun r93 μ94 h => ?_)
                                        refine b_iconst (v := (nI 1)) X dL_law_479 (by decide) ?_
                                        refine b_icmp_ne (t := 505) X dL_law_480 (by decide) (fun c => ?_) (fun c => ?_)
                                        · replace h := h.1 c
                                          refine b_sub (lv' := [(0, .ref (ad 249)), (1, .ref (ad 0))]) [0, 1] rfl ?_
                                          exact B505 μ94 h
                                        · replace h := h.2 c
                                          refine b_aload_n X dL_law_483 rfl 1 rfl ?_
                                          refine b_aload_n X dL_law_484 rfl 2 rfl ?_
                                          refine b_aload_n X dL_law_485 rfl 3 rfl ?_
                                          refine bSi (st := []) (nA := 3) X (c_L_isCoast l D C ad  μ94 _ h) gw_L_149 hd_L_isCoast ⟨Nat.le_of_ble_eq_true rfl, Nat.le_of_ble_eq_true rfl⟩ rfl rfl ⟨Nat.le_of_ble_eq_true rfl, Nat.le_of_ble_eq_true rfl⟩ rfl rfl (Nat.le_of_ble_eq_true rfl) dL_law_486 (fun r95 μ96 h => ?_)
                                          obtain ⟨rfl, h⟩ := h
                                          refine b_if_eq (t := 505) X dL_law_489 (by decide) (fun c => ?_) (fun c => ?_)
                                          · replace h := h.1 c
                                            refine b_sub (lv' := [(0, .ref (ad 249)), (1, .ref (ad 0))]) [0, 1] rfl ?_
                                            exact B505 μ94 h
                                          · replace h := h.2 c
                                            refine b_aload_n X dL_law_492 rfl 1 rfl ?_
                                            refine b_bipush (v := (nI 15)) X dL_law_493 (by decide) ?_
                                            refine bVi (st := []) (nA := 1) X (c_X6_told l D C ad (nI 15) μ94 _ h) kF_0 (by decide) (enc_6 kF_0) rfl gw_L_28 ⟨rfl, hd_X6_told⟩ ⟨Nat.le_of_ble_eq_true rfl, Nat.le_of_ble_eq_true rfl⟩ rfl rfl ⟨Nat.le_of_ble_eq_true rfl, Nat.le_of_ble_eq_true rfl⟩ rfl rfl (Nat.le_of_ble_eq_true rfl) dL_law_495 (fun r97 μ98 h => ?_)
                                            obtain ⟨rfl, h⟩ := h
                                            refine b_if_ne (t := 505) X dL_law_498 (by decide) (fun c => ?_) (fun c => ?_)
                                            · replace h := h.1 c
                                              refine b_sub (lv' := [(0, .ref (ad 249)), (1, .ref (ad 0))]) [0, 1] rfl ?_
                                              exact B505 μ94 h
                                            · replace h := h.2 c
                                              refine b_iconst (v := (nI 1)) X dL_law_501 (by decide) ?_
                                              refine b_goto (t := 506) X dL_law_502 (by decide) ?_
                                              refine b_sub (lv' := [(0, .ref (ad 249)), (1, .ref (ad 0))]) [0, 1] rfl ?_
                                              exact B506 (nI 1) μ94 h
                                  · replace h := h.2 c
                                    refine b_iconst (v := (nI 0)) X dL_law_454 (by decide) ?_
                                    exact hret _ _ _ _ ⟨(Or.inl rfl), h⟩ dL_law_455
                          · replace h := h.2 c
                            refine b_iconst (v := (nI 0)) X dL_law_390 (by decide) ?_
                            exact hret _ _ _ _ ⟨(Or.inl rfl), h⟩ dL_law_391
              refine b_iload X dL_law_241 5 rfl ?_
              refine b_aload_n X dL_law_243 rfl 2 rfl ?_
              refine b_iconst (v := (nI 3)) X dL_law_244 (by decide) ?_
              have hz := h.1
              replace h := h.2
              refine b_iald X kF_246 nF_246 hz dL_law_245 ?_
              clear hz
              refine b_icmp_ge (t := 288) X dL_law_246 (by decide) (fun c => ?_) (fun c => ?_)
              · replace h := h.1 c
                refine b_sub (lv' := [(0, .ref (ad 249)), (1, .ref (ad 0)), (2, .ref (ad 246)), (3, .ref (ad 247)), (5, .int v5)]) [0, 1, 2, 3, 4] rfl ?_
                exact B288 v5 μ h
              · replace h := h.2 c
                refine b_aload_n X dL_law_249 rfl 1 rfl ?_
                refine b_aload_n X dL_law_250 rfl 2 rfl ?_
                refine b_iload X dL_law_251 5 rfl ?_
                refine b_iload X dL_law_253 4 rfl ?_
                refine bSi (st := []) (nA := 4) X (c_L_best l D C ad v8 v5 μ _ h) gw_L_119 hd_L_best ⟨Nat.le_of_ble_eq_true rfl, Nat.le_of_ble_eq_true rfl⟩ rfl rfl ⟨Nat.le_of_ble_eq_true rfl, Nat.le_of_ble_eq_true rfl⟩ rfl rfl (Nat.le_of_ble_eq_true rfl) dL_law_255 (fun r39 μ40 h => ?_)
                refine b_if_eq (t := 280) X dL_law_258 (by decide) (fun c => ?_) (fun c => ?_)
                · replace h := h.1 c
                  refine b_iconst (v := (nI 0)) X dL_law_280 (by decide) ?_
                  exact hret _ _ _ _ ⟨(Or.inl rfl), h⟩ dL_law_281
                · replace h := h.2 c
                  refine b_aload_n X dL_law_261 rfl 1 rfl ?_
                  refine b_aload_n X dL_law_262 rfl 2 rfl ?_
                  refine b_iload X dL_law_263 5 rfl ?_
                  refine b_aload_n X dL_law_265 rfl 0 rfl ?_
                  refine b_bipush (v := (nI 40)) X dL_law_266 (by decide) ?_
                  refine b_iload X dL_law_268 5 rfl ?_
                  refine b_iadd X dL_law_270 ?_
                  refine bSi (st := [.int v8, .ref (ad 246), .ref (ad 0)]) (nA := 2) X (c_L_cell l D C ad ss hss ((nI 40) + v8) μ40 _ h) gw_L_20 hd_L_cell ⟨Nat.le_of_ble_eq_true rfl, Nat.le_of_ble_eq_true rfl⟩ rfl rfl ⟨Nat.le_of_ble_eq_true rfl, Nat.le_of_ble_eq_true rfl⟩ rfl rfl (Nat.le_of_ble_eq_true rfl) dL_law_271 (fun r41 μ42 h => ?_)
                  obtain ⟨rfl, h⟩ := h
                  refine bSi (st := []) (nA := 4) X (c_L_thick l D C ad v8 r41 μ40 _ h) gw_L_123 hd_L_thick ⟨Nat.le_of_ble_eq_true rfl, Nat.le_of_ble_eq_true rfl⟩ rfl rfl ⟨Nat.le_of_ble_eq_true rfl, Nat.le_of_ble_eq_true rfl⟩ rfl rfl (Nat.le_of_ble_eq_true rfl) dL_law_274 (fun r43 μ44 h => ?_)
                  refine b_if_ne (t := 282) X dL_law_277 (by decide) (fun c => ?_) (fun c => ?_)
                  · replace h := h.1 c
                    obtain ⟨x45, ex45⟩ : ∃ y : Int32, y = v8 + (nI 1) := ⟨_, rfl⟩
                    replace h := h x45 ex45
                    refine b_iinc (x := x45) (lv' := [(8, .int x45), (0, .ref (ad 249)), (1, .ref (ad 0)), (2, .ref (ad 246)), (3, .ref (ad 247)), (5, .int v5)]) (q := 5) X dL_law_282 rfl (by rw [ex45]; rfl) (by decide) rfl ?_
                    refine b_goto (t := 241) X dL_law_285 (by decide) ?_
                    refine b_sub (lv' := [(0, .ref (ad 249)), (1, .ref (ad 0)), (2, .ref (ad 246)), (3, .ref (ad 247)), (5, .int v5), (8, .int x45)]) [1, 2, 3, 4, 5, 0] rfl ?_
                    exact T241 x45 μ44 h
                  · replace h := h.2 c
                    refine b_iconst (v := (nI 0)) X dL_law_280 (by decide) ?_
                    exact hret _ _ _ _ ⟨(Or.inl rfl), h⟩ dL_law_281
            rw [eY] at B241
            exact B241
          refine b_icmp_ne (t := 236) X dL_law_225 (by decide) (fun c => ?_) (fun c => ?_)
          · replace h := h.1 c
            refine b_iconst (v := (nI 0)) X dL_law_236 (by decide) ?_
            exact hret _ _ _ _ ⟨(Or.inl rfl), h⟩ dL_law_237
          · replace h := h.2 c
            refine b_aload_n X dL_law_228 rfl 1 rfl ?_
            refine b_iconst (v := (nI 1)) X dL_law_229 (by decide) ?_
            refine bVi (st := []) (nA := 1) X (c_X6_undo l D C ad (nI 1) μ _ h) kF_0 (by decide) (enc_6 kF_0) rfl gw_L_116 ⟨rfl, hd_X6_undo⟩ ⟨Nat.le_of_ble_eq_true rfl, Nat.le_of_ble_eq_true rfl⟩ rfl rfl ⟨Nat.le_of_ble_eq_true rfl, Nat.le_of_ble_eq_true rfl⟩ rfl rfl (Nat.le_of_ble_eq_true rfl) dL_law_230 (fun r37 μ38 h => ?_)
            refine b_if_ge (t := 238) X dL_law_233 (by decide) (fun c => ?_) (fun c => ?_)
            · replace h := h.1 c
              refine b_iconst (v := (nI 0)) X dL_law_238 (by decide) ?_
              refine b_istore (lv' := [(8, .int (nI 0)), (0, .ref (ad 249)), (1, .ref (ad 0)), (2, .ref (ad 246)), (3, .ref (ad 247)), (5, .int v5)]) X dL_law_239 (by decide) rfl ?_
              refine b_sub (lv' := [(0, .ref (ad 249)), (1, .ref (ad 0)), (2, .ref (ad 246)), (3, .ref (ad 247)), (5, .int v5), (8, .int (nI 0))]) [1, 2, 3, 4, 5, 0] rfl ?_
              exact B241 v5 (nI 0) μ38 h
            · replace h := h.2 c
              refine b_iconst (v := (nI 0)) X dL_law_236 (by decide) ?_
              exact hret _ _ _ _ ⟨(Or.inl rfl), h⟩ dL_law_237
        refine b_aload_n X dL_law_172 rfl 1 rfl ?_
        refine b_iconst (v := (nI 0)) X dL_law_173 (by decide) ?_
        refine b_iconst (v := (nI 4)) X dL_law_174 (by decide) ?_
        refine bVi (st := []) (nA := 2) X (c_X6_post l D C ad (nI 0) (nI 4) μ _ h) kF_0 (by decide) (enc_6 kF_0) rfl gw_L_82 ⟨rfl, hd_X6_post⟩ ⟨Nat.le_of_ble_eq_true rfl, Nat.le_of_ble_eq_true rfl⟩ rfl rfl ⟨Nat.le_of_ble_eq_true rfl, Nat.le_of_ble_eq_true rfl⟩ rfl rfl (Nat.le_of_ble_eq_true rfl) dL_law_175 (fun r27 μ28 h => ?_)
        obtain ⟨rfl, h⟩ := h
        refine b_istore (lv' := [(7, .int r27), (0, .ref (ad 249)), (1, .ref (ad 0)), (2, .ref (ad 246)), (3, .ref (ad 247)), (5, .int v5), (6, .int v6)]) X dL_law_178 (by decide) rfl ?_
        refine b_iload X dL_law_180 6 rfl ?_
        refine b_aload_n X dL_law_182 rfl 2 rfl ?_
        refine b_bipush (v := (nI 10)) X dL_law_183 (by decide) ?_
        refine bVi (st := [.int v6]) (nA := 1) X (c_X6_told l D C ad (nI 10) μ _ h) kF_0 (by decide) (enc_6 kF_0) rfl gw_L_28 ⟨rfl, hd_X6_told⟩ ⟨Nat.le_of_ble_eq_true rfl, Nat.le_of_ble_eq_true rfl⟩ rfl rfl ⟨Nat.le_of_ble_eq_true rfl, Nat.le_of_ble_eq_true rfl⟩ rfl rfl (Nat.le_of_ble_eq_true rfl) dL_law_185 (fun r29 μ30 h => ?_)
        obtain ⟨rfl, h⟩ := h
        refine b_aload_n X dL_law_188 rfl 2 rfl ?_
        refine b_bipush (v := (nI 11)) X dL_law_189 (by decide) ?_
        refine bVi (st := [.int r29, .int v6]) (nA := 1) X (c_X6_told l D C ad (nI 11) μ _ h) kF_0 (by decide) (enc_6 kF_0) rfl gw_L_28 ⟨rfl, hd_X6_told⟩ ⟨Nat.le_of_ble_eq_true rfl, Nat.le_of_ble_eq_true rfl⟩ rfl rfl ⟨Nat.le_of_ble_eq_true rfl, Nat.le_of_ble_eq_true rfl⟩ rfl rfl (Nat.le_of_ble_eq_true rfl) dL_law_191 (fun r31 μ32 h => ?_)
        obtain ⟨rfl, h⟩ := h
        refine b_iadd X dL_law_194 ?_
        refine b_aload_n X dL_law_195 rfl 2 rfl ?_
        refine b_bipush (v := (nI 12)) X dL_law_196 (by decide) ?_
        refine bVi (st := [.int (r29 + r31), .int v6]) (nA := 1) X (c_X6_told l D C ad (nI 12) μ _ h) kF_0 (by decide) (enc_6 kF_0) rfl gw_L_28 ⟨rfl, hd_X6_told⟩ ⟨Nat.le_of_ble_eq_true rfl, Nat.le_of_ble_eq_true rfl⟩ rfl rfl ⟨Nat.le_of_ble_eq_true rfl, Nat.le_of_ble_eq_true rfl⟩ rfl rfl (Nat.le_of_ble_eq_true rfl) dL_law_198 (fun r33 μ34 h => ?_)
        obtain ⟨rfl, h⟩ := h
        refine b_iadd X dL_law_201 ?_
        refine b_icmp_ne (t := 236) X dL_law_202 (by decide) (fun c => ?_) (fun c => ?_)
        · replace h := h.1 c
          refine b_iconst (v := (nI 0)) X dL_law_236 (by decide) ?_
          exact hret _ _ _ _ ⟨(Or.inl rfl), h⟩ dL_law_237
        · replace h := h.2 c
          refine b_aload_n X dL_law_205 rfl 2 rfl ?_
          refine b_iconst (v := (nI 0)) X dL_law_206 (by decide) ?_
          refine b_iconst (v := (nI 3)) X dL_law_207 (by decide) ?_
          refine bVi (st := []) (nA := 2) X (c_X6_lick l D C ad (nI 0) (nI 3) μ _ h) kF_0 (by decide) (enc_6 kF_0) rfl gw_L_113 ⟨rfl, hd_X6_lick⟩ ⟨Nat.le_of_ble_eq_true rfl, Nat.le_of_ble_eq_true rfl⟩ rfl rfl ⟨Nat.le_of_ble_eq_true rfl, Nat.le_of_ble_eq_true rfl⟩ rfl rfl (Nat.le_of_ble_eq_true rfl) dL_law_208 (fun r35 μ36 h => ?_)
          refine b_iload X dL_law_211 0 rfl ?_
          refine b_iconst (v := (nI 3)) X dL_law_213 (by decide) ?_
          refine b_icmp_ge (t := 221) X dL_law_214 (by decide) (fun c => ?_) (fun c => ?_)
          · replace h := h.1 c
            refine b_iload X dL_law_221 0 rfl ?_
            refine b_iconst (v := (nI 3)) X dL_law_223 (by decide) ?_
            refine b_isub X dL_law_224 ?_
            refine b_sub (lv' := [(0, .ref (ad 249)), (1, .ref (ad 0)), (2, .ref (ad 246)), (3, .ref (ad 247)), (5, .int v5)]) [1, 2, 3, 4, 5] rfl ?_
            exact B225 v5 (r27 - (nI 3)) r35 μ36 h
          · replace h := h.2 c
            refine b_iconst (v := (nI 0)) X dL_law_217 (by decide) ?_
            refine b_goto (t := 225) X dL_law_218 (by decide) ?_
            refine b_sub (lv' := [(0, .ref (ad 249)), (1, .ref (ad 0)), (2, .ref (ad 246)), (3, .ref (ad 247)), (5, .int v5)]) [1, 2, 3, 4, 5] rfl ?_
            exact B225 v5 (nI 0) r35 μ36 h
      have B97 : ∀ (v6 : Int32) (v7 : Int32) (v8 : Int32) (v9 : Int32) (μ : Mem), w_L_law_97 ss Y84 v5 v6 v7 v8 v9 μ Q → WC sF l D C ad room_1 K 11 626541 7222626 μ 97 [(0, .ref (ad 249)), (1, .ref (ad 0)), (2, .ref (ad 246)), (3, .ref (ad 247)), (5, .int v5), (6, .int v6), (7, .int v7), (8, .int v8), (9, .int v9)] [] := by
        intro v6 v7 v8 v9 μ h
        obtain ⟨Y97, eY⟩ : ∃ Y : Int32 → Int32 → Mem → Prop, Y = fun (v8 : Int32) (v9 : Int32) (μ : Mem) => WC sF l D C ad room_1 K 11 626541 7222626 μ 97 [(0, .ref (ad 249)), (1, .ref (ad 0)), (2, .ref (ad 246)), (3, .ref (ad 247)), (5, .int v5), (6, .int v6), (7, .int v7), (8, .int v8), (9, .int v9)] [] := ⟨_, rfl⟩
        have B97 : Y97 v8 v9 μ := by
          unfold w_L_law_97 at h
          refine h Y97 ?_
          clear h
          intro v8 v9 μ h
          unfold s_L_law_97 at h
          rw [eY]
          show WC sF l D C ad room_1 K 11 626541 7222626 μ 97 [(0, .ref (ad 249)), (1, .ref (ad 0)), (2, .ref (ad 246)), (3, .ref (ad 247)), (5, .int v5), (6, .int v6), (7, .int v7), (8, .int v8), (9, .int v9)] []
          have T97 : ∀ (v8 : Int32) (v9 : Int32) (μ : Mem), Y97 v8 v9 μ → WC sF l D C ad room_1 K 11 626541 7222626 μ 97 [(0, .ref (ad 249)), (1, .ref (ad 0)), (2, .ref (ad 246)), (3, .ref (ad 247)), (5, .int v5), (6, .int v6), (7, .int v7), (8, .int v8), (9, .int v9)] [] := by
            intro v8 v9 μ h
            rw [eY] at h
            exact h
          clear eY
          have B123 : ∀ (v6 : Int32) (v7 : Int32) (v8 : Int32) (μ : Mem), w_L_law_123 ss Y84 v5 v6 v7 v8 μ Q → WC sF l D C ad room_1 K 11 626541 7222626 μ 123 [(0, .ref (ad 249)), (1, .ref (ad 0)), (2, .ref (ad 246)), (3, .ref (ad 247)), (5, .int v5), (6, .int v6), (7, .int v7), (8, .int v8)] [] := by
            intro v6 v7 v8 μ h
            unfold w_L_law_123 at h
            refine b_aload_n X dL_law_123 rfl 1 rfl ?_
            refine bVi (st := []) (nA := 0) X (c_X6_left l D C ad  μ _ h) kF_0 (by decide) (enc_6 kF_0) rfl gw_L_108 ⟨rfl, hd_X6_left⟩ ⟨Nat.le_of_ble_eq_true rfl, Nat.le_of_ble_eq_true rfl⟩ rfl rfl ⟨Nat.le_of_ble_eq_true rfl, Nat.le_of_ble_eq_true rfl⟩ rfl rfl (Nat.le_of_ble_eq_true rfl) dL_law_124 (fun r19 μ20 h => ?_)
            refine b_istore (lv' := [(9, .int r19), (0, .ref (ad 249)), (1, .ref (ad 0)), (2, .ref (ad 246)), (3, .ref (ad 247)), (5, .int v5), (6, .int v6), (7, .int v7), (8, .int v8)]) X dL_law_127 (by decide) rfl ?_
            refine b_aload_n X dL_law_129 rfl 2 rfl ?_
            refine b_iconst (v := ((-1) : Int32)) X dL_law_130 (by decide) ?_
            refine b_iconst (v := (nI 1)) X dL_law_131 (by decide) ?_
            refine bVi (st := []) (nA := 2) X (c_X6_fog l D C ad ((-1) : Int32) (nI 1) μ20 _ h) kF_0 (by decide) (enc_6 kF_0) rfl gw_L_79 ⟨rfl, hd_X6_fog⟩ ⟨Nat.le_of_ble_eq_true rfl, Nat.le_of_ble_eq_true rfl⟩ rfl rfl ⟨Nat.le_of_ble_eq_true rfl, Nat.le_of_ble_eq_true rfl⟩ rfl rfl (Nat.le_of_ble_eq_true rfl) dL_law_132 (fun r21 μ22 h => ?_)
            obtain ⟨rfl, h⟩ := h
            refine b_istore (lv' := [(10, .int r21), (9, .int r19), (0, .ref (ad 249)), (1, .ref (ad 0)), (2, .ref (ad 246)), (3, .ref (ad 247)), (5, .int v5), (6, .int v6), (7, .int v7), (8, .int v8)]) X dL_law_135 (by decide) rfl ?_
            refine b_iload X dL_law_137 9 rfl ?_
            refine b_iload X dL_law_139 1 rfl ?_
            refine b_iadd X dL_law_141 ?_
            refine b_iload X dL_law_142 0 rfl ?_
            refine b_icmp_ne (t := 157) X dL_law_144 (by decide) (fun c => ?_) (fun c => ?_)
            · replace h := h.1 c
              refine b_iconst (v := (nI 0)) X dL_law_157 (by decide) ?_
              exact hret _ _ _ _ ⟨(Or.inl rfl), h⟩ dL_law_158
            · replace h := h.2 c
              refine b_aload_n X dL_law_147 rfl 3 rfl ?_
              refine b_iconst (v := (nI 1)) X dL_law_148 (by decide) ?_
              refine bVi (st := []) (nA := 1) X (c_X6_hour l D C ad (nI 1) μ20 _ h) kF_0 (by decide) (enc_6 kF_0) rfl gw_L_111 ⟨rfl, hd_X6_hour⟩ ⟨Nat.le_of_ble_eq_true rfl, Nat.le_of_ble_eq_true rfl⟩ rfl rfl ⟨Nat.le_of_ble_eq_true rfl, Nat.le_of_ble_eq_true rfl⟩ rfl rfl (Nat.le_of_ble_eq_true rfl) dL_law_149 (fun r23 μ24 h => ?_)
              refine b_iload X dL_law_152 9 rfl ?_
              refine b_icmp_eq (t := 159) X dL_law_154 (by decide) (fun c => ?_) (fun c => ?_)
              · replace h := h.1 c
                refine b_iload X dL_law_159 7 rfl ?_
                refine b_iload X dL_law_161 9 rfl ?_
                refine b_iadd X dL_law_163 ?_
                refine b_topi (fun x25 ex25 => ?_)
                replace h := h x25 ex25
                refine b_istore (lv' := [(6, .int x25), (10, .int r21), (9, .int r19), (0, .ref (ad 249)), (1, .ref (ad 0)), (2, .ref (ad 246)), (3, .ref (ad 247)), (5, .int v5), (7, .int v7), (8, .int v8)]) X dL_law_164 (by decide) rfl ?_
                obtain ⟨x26, ex26⟩ : ∃ y : Int32, y = v7 + (nI 1) := ⟨_, rfl⟩
                replace h := h x26 ex26
                refine b_iinc (x := x26) (lv' := [(7, .int x26), (6, .int x25), (10, .int r21), (9, .int r19), (0, .ref (ad 249)), (1, .ref (ad 0)), (2, .ref (ad 246)), (3, .ref (ad 247)), (5, .int v5), (8, .int v8)]) (q := 8) X dL_law_166 rfl (by rw [ex26]; rfl) (by decide) rfl ?_
                refine b_goto (t := 84) X dL_law_169 (by decide) ?_
                refine b_sub (lv' := [(0, .ref (ad 249)), (1, .ref (ad 0)), (2, .ref (ad 246)), (3, .ref (ad 247)), (5, .int v5), (6, .int x25), (7, .int x26)]) [4, 5, 6, 7, 8, 1, 0] rfl ?_
                exact T84 x25 x26 μ24 h
              · replace h := h.2 c
                refine b_iconst (v := (nI 0)) X dL_law_157 (by decide) ?_
                exact hret _ _ _ _ ⟨(Or.inl rfl), h⟩ dL_law_158
          refine b_iload X dL_law_97 8 rfl ?_
          refine b_aload_n X dL_law_99 rfl 2 rfl ?_
          refine b_iconst (v := (nI 3)) X dL_law_100 (by decide) ?_
          have hz := h.1
          replace h := h.2
          refine b_iald X kF_246 nF_246 hz dL_law_101 ?_
          clear hz
          refine b_icmp_ge (t := 123) X dL_law_102 (by decide) (fun c => ?_) (fun c => ?_)
          · replace h := h.1 c
            refine b_sub (lv' := [(0, .ref (ad 249)), (1, .ref (ad 0)), (2, .ref (ad 246)), (3, .ref (ad 247)), (5, .int v5), (6, .int v6), (7, .int v7), (8, .int v8)]) [0, 1, 2, 3, 4, 5, 6, 7] rfl ?_
            exact B123 v6 v7 v8 μ h
          · replace h := h.2 c
            refine b_iload X dL_law_105 7 rfl ?_
            refine b_aload_n X dL_law_107 rfl 1 rfl ?_
            refine b_iload X dL_law_108 8 rfl ?_
            refine b_iconst (v := (nI 1)) X dL_law_110 (by decide) ?_
            refine bVi (st := [.int v8]) (nA := 2) X (c_X6_gets l D C ad v9 (nI 1) μ _ h) kF_0 (by decide) (enc_6 kF_0) rfl gw_L_105 ⟨rfl, hd_X6_gets⟩ ⟨Nat.le_of_ble_eq_true rfl, Nat.le_of_ble_eq_true rfl⟩ rfl rfl ⟨Nat.le_of_ble_eq_true rfl, Nat.le_of_ble_eq_true rfl⟩ rfl rfl (Nat.le_of_ble_eq_true rfl) dL_law_111 (fun r15 μ16 h => ?_)
            refine b_iadd X dL_law_114 ?_
            refine b_topi (fun x17 ex17 => ?_)
            replace h := h x17 ex17
            refine b_istore (lv' := [(8, .int x17), (0, .ref (ad 249)), (1, .ref (ad 0)), (2, .ref (ad 246)), (3, .ref (ad 247)), (5, .int v5), (6, .int v6), (7, .int v7), (9, .int v9)]) X dL_law_115 (by decide) rfl ?_
            obtain ⟨x18, ex18⟩ : ∃ y : Int32, y = v9 + (nI 1) := ⟨_, rfl⟩
            replace h := h x18 ex18
            refine b_iinc (x := x18) (lv' := [(9, .int x18), (8, .int x17), (0, .ref (ad 249)), (1, .ref (ad 0)), (2, .ref (ad 246)), (3, .ref (ad 247)), (5, .int v5), (6, .int v6), (7, .int v7)]) (q := 8) X dL_law_117 rfl (by rw [ex18]; rfl) (by decide) rfl ?_
            refine b_goto (t := 97) X dL_law_120 (by decide) ?_
            refine b_sub (lv' := [(0, .ref (ad 249)), (1, .ref (ad 0)), (2, .ref (ad 246)), (3, .ref (ad 247)), (5, .int v5), (6, .int v6), (7, .int v7), (8, .int x17), (9, .int x18)]) [2, 3, 4, 5, 6, 7, 8, 1, 0] rfl ?_
            exact T97 x17 x18 μ16 h
        rw [eY] at B97
        exact B97
      refine b_iload X dL_law_84 6 rfl ?_
      refine b_iload X dL_law_86 4 rfl ?_
      refine b_icmp_ge (t := 172) X dL_law_88 (by decide) (fun c => ?_) (fun c => ?_)
      · replace h := h.1 c
        refine b_sub (lv' := [(0, .ref (ad 249)), (1, .ref (ad 0)), (2, .ref (ad 246)), (3, .ref (ad 247)), (5, .int v5), (6, .int v6)]) [0, 1, 2, 3, 4, 5] rfl ?_
        exact B172 v5 v6 μ h
      · replace h := h.2 c
        refine b_iconst (v := (nI 0)) X dL_law_91 (by decide) ?_
        refine b_istore (lv' := [(8, .int (nI 0)), (0, .ref (ad 249)), (1, .ref (ad 0)), (2, .ref (ad 246)), (3, .ref (ad 247)), (5, .int v5), (6, .int v6), (7, .int v7)]) X dL_law_92 (by decide) rfl ?_
        refine b_iconst (v := (nI 0)) X dL_law_94 (by decide) ?_
        refine b_istore (lv' := [(9, .int (nI 0)), (8, .int (nI 0)), (0, .ref (ad 249)), (1, .ref (ad 0)), (2, .ref (ad 246)), (3, .ref (ad 247)), (5, .int v5), (6, .int v6), (7, .int v7)]) X dL_law_95 (by decide) rfl ?_
        refine b_sub (lv' := [(0, .ref (ad 249)), (1, .ref (ad 0)), (2, .ref (ad 246)), (3, .ref (ad 247)), (5, .int v5), (6, .int v6), (7, .int v7), (8, .int (nI 0)), (9, .int (nI 0))]) [2, 3, 4, 5, 6, 7, 8, 1, 0] rfl ?_
        exact B97 v6 v7 (nI 0) (nI 0) μ h
    rw [eY] at B84
    exact B84
  refine b_aload_n X dL_law_24 rfl 0 rfl ?_
  refine b_bipush (v := (nI 10)) X dL_law_25 (by decide) ?_
  refine b_iconst (v := (nI 4)) X dL_law_27 (by decide) ?_
  refine b_aload_n X dL_law_28 rfl 2 rfl ?_
  refine b_aload_n X dL_law_29 rfl 3 rfl ?_
  refine bSv (st := []) (nA := 5) X (c_L_numbers l D C ad ss hss (nI 10) (nI 4) μ _ h) gw_L_92 hd_L_numbers ⟨Nat.le_of_ble_eq_true rfl, Nat.le_of_ble_eq_true rfl⟩ rfl rfl ⟨Nat.le_of_ble_eq_true rfl, Nat.le_of_ble_eq_true rfl⟩ rfl rfl (Nat.le_of_ble_eq_true rfl) dL_law_30 (fun μ2 h => ?_)
  refine b_aload_n X dL_law_33 rfl 1 rfl ?_
  refine b_aload_n X dL_law_34 rfl 0 rfl ?_
  refine b_bipush (v := (nI 35)) X dL_law_35 (by decide) ?_
  refine bSi (st := [.ref (ad 0)]) (nA := 2) X (c_L_cell l D C ad ss hss (nI 35) μ2 _ h) gw_L_20 hd_L_cell ⟨Nat.le_of_ble_eq_true rfl, Nat.le_of_ble_eq_true rfl⟩ rfl rfl ⟨Nat.le_of_ble_eq_true rfl, Nat.le_of_ble_eq_true rfl⟩ rfl rfl (Nat.le_of_ble_eq_true rfl) dL_law_37 (fun r3 μ4 h => ?_)
  obtain ⟨rfl, h⟩ := h
  refine bVi (st := []) (nA := 1) X (c_X6_seed l D C ad r3 μ2 _ h) kF_0 (by decide) (enc_6 kF_0) rfl gw_L_96 ⟨rfl, hd_X6_seed⟩ ⟨Nat.le_of_ble_eq_true rfl, Nat.le_of_ble_eq_true rfl⟩ rfl rfl ⟨Nat.le_of_ble_eq_true rfl, Nat.le_of_ble_eq_true rfl⟩ rfl rfl (Nat.le_of_ble_eq_true rfl) dL_law_40 (fun r5 μ6 h => ?_)
  refine b_if_ne (t := 64) X dL_law_43 (by decide) (fun c => ?_) (fun c => ?_)
  · replace h := h.1 c
    refine b_iconst (v := (nI 0)) X dL_law_64 (by decide) ?_
    exact hret _ _ _ _ ⟨(Or.inl rfl), h⟩ dL_law_65
  · replace h := h.2 c
    refine b_aload_n X dL_law_46 rfl 1 rfl ?_
    refine b_aload_n X dL_law_47 rfl 2 rfl ?_
    refine b_aload_n X dL_law_48 rfl 3 rfl ?_
    refine bSi (st := []) (nA := 3) X (c_L_coast l D C ad  μ6 _ h) gw_L_99 hd_L_coast ⟨Nat.le_of_ble_eq_true rfl, Nat.le_of_ble_eq_true rfl⟩ rfl rfl ⟨Nat.le_of_ble_eq_true rfl, Nat.le_of_ble_eq_true rfl⟩ rfl rfl (Nat.le_of_ble_eq_true rfl) dL_law_49 (fun r7 μ8 h => ?_)
    refine b_if_eq (t := 64) X dL_law_52 (by decide) (fun c => ?_) (fun c => ?_)
    · replace h := h.1 c
      refine b_iconst (v := (nI 0)) X dL_law_64 (by decide) ?_
      exact hret _ _ _ _ ⟨(Or.inl rfl), h⟩ dL_law_65
    · replace h := h.2 c
      refine b_aload_n X dL_law_55 rfl 1 rfl ?_
      refine b_iconst (v := (nI 0)) X dL_law_56 (by decide) ?_
      refine bVi (st := []) (nA := 1) X (c_X6_keep l D C ad (nI 0) μ8 _ h) kF_0 (by decide) (enc_6 kF_0) rfl gw_L_102 ⟨rfl, hd_X6_keep⟩ ⟨Nat.le_of_ble_eq_true rfl, Nat.le_of_ble_eq_true rfl⟩ rfl rfl ⟨Nat.le_of_ble_eq_true rfl, Nat.le_of_ble_eq_true rfl⟩ rfl rfl (Nat.le_of_ble_eq_true rfl) dL_law_57 (fun r9 μ10 h => ?_)
      refine b_iconst (v := (nI 1)) X dL_law_60 (by decide) ?_
      refine b_icmp_eq (t := 66) X dL_law_61 (by decide) (fun c => ?_) (fun c => ?_)
      · replace h := h.1 c
        refine b_iconst (v := (nI 1)) X dL_law_66 (by decide) ?_
        refine b_aload_n X dL_law_67 rfl 0 rfl ?_
        refine b_bipush (v := (nI 36)) X dL_law_68 (by decide) ?_
        refine bSi (st := [.int (nI 1)]) (nA := 2) X (c_L_cell l D C ad ss hss (nI 36) μ10 _ h) gw_L_20 hd_L_cell ⟨Nat.le_of_ble_eq_true rfl, Nat.le_of_ble_eq_true rfl⟩ rfl rfl ⟨Nat.le_of_ble_eq_true rfl, Nat.le_of_ble_eq_true rfl⟩ rfl rfl (Nat.le_of_ble_eq_true rfl) dL_law_70 (fun r11 μ12 h => ?_)
        obtain ⟨rfl, h⟩ := h
        refine b_iconst (v := (nI 5)) X dL_law_73 (by decide) ?_
        have hz := h.1
        replace h := h.2
        refine b_irem X dL_law_74 hz ?_
        clear hz
        refine b_topi (fun x13 ex13 => ?_)
        replace h := h x13 ex13
        refine b_iadd X dL_law_75 ?_
        refine b_topi (fun x14 ex14 => ?_)
        replace h := h x14 ex14
        refine b_istore (lv' := [(5, .int x14), (0, .ref (ad 249)), (1, .ref (ad 0)), (2, .ref (ad 246)), (3, .ref (ad 247)), (4, .ref (ad 248))]) X dL_law_76 (by decide) rfl ?_
        refine b_iconst (v := (nI 0)) X dL_law_78 (by decide) ?_
        refine b_istore (lv' := [(6, .int (nI 0)), (5, .int x14), (0, .ref (ad 249)), (1, .ref (ad 0)), (2, .ref (ad 246)), (3, .ref (ad 247)), (4, .ref (ad 248))]) X dL_law_79 (by decide) rfl ?_
        refine b_iconst (v := (nI 0)) X dL_law_81 (by decide) ?_
        refine b_istore (lv' := [(7, .int (nI 0)), (6, .int (nI 0)), (5, .int x14), (0, .ref (ad 249)), (1, .ref (ad 0)), (2, .ref (ad 246)), (3, .ref (ad 247)), (4, .ref (ad 248))]) X dL_law_82 (by decide) rfl ?_
        refine b_sub (lv' := [(0, .ref (ad 249)), (1, .ref (ad 0)), (2, .ref (ad 246)), (3, .ref (ad 247)), (5, .int x14), (6, .int (nI 0)), (7, .int (nI 0))]) [3, 4, 5, 6, 2, 1, 0] rfl ?_
        exact B84 x14 (nI 0) (nI 0) μ10 h
      · replace h := h.2 c
        refine b_iconst (v := (nI 0)) X dL_law_64 (by decide) ?_
        exact hret _ _ _ _ ⟨(Or.inl rfl), h⟩ dL_law_65
