set_option maxHeartbeats 4000000 in
set_option maxRecDepth 100000 in
theorem c_L_coast (l : Launch) (D : va_G) (C : Nat → ClassId) (ad : Nat → Nat)  (μ : Mem) (Q : Int32 → Mem → Prop) (h : w_L_coast  μ Q) : Mi sF l yL_coast cL_coast 5 (some .boolean) rm_L_coast D C ad [.ref (ad 0), .ref (ad 246), .ref (ad 247)] μ Q := by
  refine fm_z (by decide +kernel) sF_lt (Nat.le_of_ble_eq_true rfl) (fun K X hret => ?_)
  have X : CK sF D C ad K cL_coast 5 RL := X
  refine b_lv (lv' := [(0, .ref (ad 0)), (1, .ref (ad 246)), (2, .ref (ad 247))]) rfl ?_
  unfold w_L_coast at h
  have B39 : ∀ (v3 : Int32) (v4 : Int32) (μ : Mem), w_L_coast_39 v3 v4 μ Q → WB sF l D C ad rm_L_coast K 5 μ 39 [(0, .ref (ad 0)), (1, .ref (ad 246)), (2, .ref (ad 247)), (3, .int v3), (4, .int v4)] [] := by
    intro v3 v4 μ h
    obtain ⟨Y39, eY⟩ : ∃ Y : Int32 → Int32 → Mem → Prop, Y = fun (v3 : Int32) (v4 : Int32) (μ : Mem) => WB sF l D C ad rm_L_coast K 5 μ 39 [(0, .ref (ad 0)), (1, .ref (ad 246)), (2, .ref (ad 247)), (3, .int v3), (4, .int v4)] [] := ⟨_, rfl⟩
    have B39 : Y39 v3 v4 μ := by
      unfold w_L_coast_39 at h
      refine h Y39 ?_
      clear h
      intro v3 v4 μ h
      unfold s_L_coast_39 at h
      rw [eY]
      show WB sF l D C ad rm_L_coast K 5 μ 39 [(0, .ref (ad 0)), (1, .ref (ad 246)), (2, .ref (ad 247)), (3, .int v3), (4, .int v4)] []
      have T39 : ∀ (v3 : Int32) (v4 : Int32) (μ : Mem), Y39 v3 v4 μ → WB sF l D C ad rm_L_coast K 5 μ 39 [(0, .ref (ad 0)), (1, .ref (ad 246)), (2, .ref (ad 247)), (3, .int v3), (4, .int v4)] [] := by
        intro v3 v4 μ h
        rw [eY] at h
        exact h
      clear eY
      have B91 : ∀ (v3 : Int32) (μ : Mem), w_L_coast_91 v3 μ Q → WB sF l D C ad rm_L_coast K 5 μ 91 [(0, .ref (ad 0)), (1, .ref (ad 246)), (2, .ref (ad 247)), (3, .int v3)] [] := by
        intro v3 μ h
        unfold w_L_coast_91 at h
        have B94 : ∀ (v3 : Int32) (v4 : Int32) (μ : Mem), w_L_coast_94 v3 v4 μ Q → WB sF l D C ad rm_L_coast K 5 μ 94 [(0, .ref (ad 0)), (1, .ref (ad 246)), (2, .ref (ad 247)), (3, .int v3), (4, .int v4)] [] := by
          intro v3 v4 μ h
          obtain ⟨Y94, eY⟩ : ∃ Y : Int32 → Int32 → Mem → Prop, Y = fun (v3 : Int32) (v4 : Int32) (μ : Mem) => WB sF l D C ad rm_L_coast K 5 μ 94 [(0, .ref (ad 0)), (1, .ref (ad 246)), (2, .ref (ad 247)), (3, .int v3), (4, .int v4)] [] := ⟨_, rfl⟩
          have B94 : Y94 v3 v4 μ := by
            unfold w_L_coast_94 at h
            refine h Y94 ?_
            clear h
            intro v3 v4 μ h
            unfold s_L_coast_94 at h
            rw [eY]
            show WB sF l D C ad rm_L_coast K 5 μ 94 [(0, .ref (ad 0)), (1, .ref (ad 246)), (2, .ref (ad 247)), (3, .int v3), (4, .int v4)] []
            have T94 : ∀ (v3 : Int32) (v4 : Int32) (μ : Mem), Y94 v3 v4 μ → WB sF l D C ad rm_L_coast K 5 μ 94 [(0, .ref (ad 0)), (1, .ref (ad 246)), (2, .ref (ad 247)), (3, .int v3), (4, .int v4)] [] := by
              intro v3 v4 μ h
              rw [eY] at h
              exact h
            clear eY
            have B168 : ∀ (v3 : Int32) (μ : Mem), w_L_coast_168 v3 μ Q → WB sF l D C ad rm_L_coast K 5 μ 168 [(0, .ref (ad 0)), (1, .ref (ad 246)), (3, .int v3)] [] := by
              intro v3 μ h
              unfold w_L_coast_168 at h
              have B226 : ∀ (v3 : Int32) (v4 : Int32) (μ : Mem), w_L_coast_226 v3 v4 μ Q → WB sF l D C ad rm_L_coast K 5 μ 226 [(0, .ref (ad 0)), (1, .ref (ad 246)), (3, .int v3), (4, .int v4)] [] := by
                intro v3 v4 μ h
                obtain ⟨Y226, eY⟩ : ∃ Y : Int32 → Int32 → Mem → Prop, Y = fun (v3 : Int32) (v4 : Int32) (μ : Mem) => WB sF l D C ad rm_L_coast K 5 μ 226 [(0, .ref (ad 0)), (1, .ref (ad 246)), (3, .int v3), (4, .int v4)] [] := ⟨_, rfl⟩
                have B226 : Y226 v3 v4 μ := by
                  unfold w_L_coast_226 at h
                  refine h Y226 ?_
                  clear h
                  intro v3 v4 μ h
                  unfold s_L_coast_226 at h
                  rw [eY]
                  show WB sF l D C ad rm_L_coast K 5 μ 226 [(0, .ref (ad 0)), (1, .ref (ad 246)), (3, .int v3), (4, .int v4)] []
                  have T226 : ∀ (v3 : Int32) (v4 : Int32) (μ : Mem), Y226 v3 v4 μ → WB sF l D C ad rm_L_coast K 5 μ 226 [(0, .ref (ad 0)), (1, .ref (ad 246)), (3, .int v3), (4, .int v4)] [] := by
                    intro v3 v4 μ h
                    rw [eY] at h
                    exact h
                  clear eY
                  have B274 : ∀ (v3 : Int32) (μ : Mem), w_L_coast_274 v3 μ Q → WB sF l D C ad rm_L_coast K 5 μ 274 [(0, .ref (ad 0)), (1, .ref (ad 246)), (3, .int v3)] [] := by
                    intro v3 μ h
                    unfold w_L_coast_274 at h
                    refine b_iload_n X dL_coast_274 rfl 2 rfl ?_
                    refine b_if_le (t := 317) X dL_coast_275 (by decide) (fun c => ?_) (fun c => ?_)
                    · replace h := h.1 c
                      refine b_iconst (v := (nI 0)) X dL_coast_317 (by decide) ?_
                      exact hret _ _ _ _ ⟨(Or.inl rfl), h⟩ dL_coast_318
                    · replace h := h.2 c
                      refine b_aload_n X dL_coast_278 rfl 0 rfl ?_
                      refine b_iconst (v := (nI 5)) X dL_coast_279 (by decide) ?_
                      refine bVi (st := []) (nA := 1) X (c_X6_told l D C ad (nI 5) μ _ h) kF_0 (by decide) (enc_6 kF_0) rfl gw_L_28 ⟨rfl, hd_X6_told⟩ ⟨Nat.zero_le _, Nat.zero_le _⟩ rfl rfl ⟨Nat.le_of_ble_eq_true rfl, Nat.le_of_ble_eq_true rfl⟩ rfl rfl (Nat.le_of_ble_eq_true rfl) dL_coast_280 (fun r46 μ47 h => ?_)
                      obtain ⟨rfl, h⟩ := h
                      refine b_iload_n X dL_coast_283 rfl 2 rfl ?_
                      refine b_icmp_ne (t := 317) X dL_coast_284 (by decide) (fun c => ?_) (fun c => ?_)
                      · replace h := h.1 c
                        refine b_iconst (v := (nI 0)) X dL_coast_317 (by decide) ?_
                        exact hret _ _ _ _ ⟨(Or.inl rfl), h⟩ dL_coast_318
                      · replace h := h.2 c
                        refine b_aload_n X dL_coast_287 rfl 0 rfl ?_
                        refine bVi (st := []) (nA := 0) X (c_X6_coast l D C ad  μ _ h) kF_0 (by decide) (enc_6 kF_0) rfl gw_L_35 ⟨rfl, hd_X6_coast⟩ ⟨Nat.zero_le _, Nat.zero_le _⟩ rfl rfl ⟨Nat.le_of_ble_eq_true rfl, Nat.le_of_ble_eq_true rfl⟩ rfl rfl (Nat.le_of_ble_eq_true rfl) dL_coast_288 (fun r48 μ49 h => ?_)
                        refine b_aload_n X dL_coast_291 rfl 1 rfl ?_
                        refine b_iconst (v := (nI 3)) X dL_coast_292 (by decide) ?_
                        have hz := h.1
                        replace h := h.2
                        refine b_iald X kF_246 nF_246 hz dL_coast_293 ?_
                        clear hz
                        refine b_icmp_ne (t := 317) X dL_coast_294 (by decide) (fun c => ?_) (fun c => ?_)
                        · replace h := h.1 c
                          refine b_iconst (v := (nI 0)) X dL_coast_317 (by decide) ?_
                          exact hret _ _ _ _ ⟨(Or.inl rfl), h⟩ dL_coast_318
                        · replace h := h.2 c
                          refine b_aload_n X dL_coast_297 rfl 0 rfl ?_
                          refine bVi (st := []) (nA := 0) X (c_X6_fault l D C ad  μ49 _ h) kF_0 (by decide) (enc_6 kF_0) rfl gw_L_39 ⟨rfl, hd_X6_fault⟩ ⟨Nat.zero_le _, Nat.zero_le _⟩ rfl rfl ⟨Nat.le_of_ble_eq_true rfl, Nat.le_of_ble_eq_true rfl⟩ rfl rfl (Nat.le_of_ble_eq_true rfl) dL_coast_298 (fun r50 μ51 h => ?_)
                          obtain ⟨rfl, h⟩ := h
                          refine b_iconst (v := ((-1) : Int32)) X dL_coast_301 (by decide) ?_
                          refine b_icmp_ne (t := 317) X dL_coast_302 (by decide) (fun c => ?_) (fun c => ?_)
                          · replace h := h.1 c
                            refine b_iconst (v := (nI 0)) X dL_coast_317 (by decide) ?_
                            exact hret _ _ _ _ ⟨(Or.inl rfl), h⟩ dL_coast_318
                          · replace h := h.2 c
                            refine b_aload_n X dL_coast_305 rfl 0 rfl ?_
                            refine b_iconst (v := (nI 5)) X dL_coast_306 (by decide) ?_
                            refine bVi (st := []) (nA := 1) X (c_X6_told l D C ad (nI 5) μ49 _ h) kF_0 (by decide) (enc_6 kF_0) rfl gw_L_28 ⟨rfl, hd_X6_told⟩ ⟨Nat.zero_le _, Nat.zero_le _⟩ rfl rfl ⟨Nat.le_of_ble_eq_true rfl, Nat.le_of_ble_eq_true rfl⟩ rfl rfl (Nat.le_of_ble_eq_true rfl) dL_coast_307 (fun r52 μ53 h => ?_)
                            obtain ⟨rfl, h⟩ := h
                            refine b_if_ne (t := 317) X dL_coast_310 (by decide) (fun c => ?_) (fun c => ?_)
                            · replace h := h.1 c
                              refine b_iconst (v := (nI 0)) X dL_coast_317 (by decide) ?_
                              exact hret _ _ _ _ ⟨(Or.inl rfl), h⟩ dL_coast_318
                            · replace h := h.2 c
                              refine b_iconst (v := (nI 1)) X dL_coast_313 (by decide) ?_
                              refine b_goto (t := 318) X dL_coast_314 (by decide) ?_
                              exact hret _ _ _ _ ⟨(Or.inr rfl), h⟩ dL_coast_318
                  refine b_iload X dL_coast_226 3 rfl ?_
                  refine b_aload_n X dL_coast_228 rfl 1 rfl ?_
                  refine b_iconst (v := (nI 4)) X dL_coast_229 (by decide) ?_
                  have hz := h.1
                  replace h := h.2
                  refine b_iald X kF_246 nF_246 hz dL_coast_230 ?_
                  clear hz
                  refine b_icmp_ge (t := 274) X dL_coast_231 (by decide) (fun c => ?_) (fun c => ?_)
                  · replace h := h.1 c
                    refine b_sub (lv' := [(0, .ref (ad 0)), (1, .ref (ad 246)), (3, .int v3)]) [0, 1, 2] rfl ?_
                    exact B274 v3 μ h
                  · replace h := h.2 c
                    refine b_aload_n X dL_coast_234 rfl 0 rfl ?_
                    refine b_aload_n X dL_coast_235 rfl 0 rfl ?_
                    refine b_aload_n X dL_coast_236 rfl 0 rfl ?_
                    refine b_iload_n X dL_coast_237 rfl 2 rfl ?_
                    refine b_bipush (v := (nI 103)) X dL_coast_238 (by decide) ?_
                    refine bSi (st := [.ref (ad 0), .ref (ad 0)]) (nA := 3) X (c_L_put l D C ad v3 (nI 103) μ _ h) gw_L_14 hd_L_put ⟨Nat.zero_le _, Nat.zero_le _⟩ rfl rfl ⟨Nat.le_of_ble_eq_true rfl, Nat.le_of_ble_eq_true rfl⟩ rfl rfl (Nat.le_of_ble_eq_true rfl) dL_coast_240 (fun r39 μ40 h => ?_)
                    refine b_aload_n X dL_coast_243 rfl 1 rfl ?_
                    refine b_bipush (v := (nI 21)) X dL_coast_244 (by decide) ?_
                    refine b_iload X dL_coast_246 3 rfl ?_
                    refine b_iadd X dL_coast_248 ?_
                    have hz := h.1
                    replace h := h.2
                    refine b_iald X kF_246 nF_246 hz dL_coast_249 ?_
                    clear hz
                    refine b_bipush (v := (nI 32)) X dL_coast_250 (by decide) ?_
                    refine bSi (st := [.ref (ad 0)]) (nA := 4) X (c_L_number l D C ad r39 (μ40.1 246 (((nI 21) + v4)).toNatClampNeg) (nI 32) μ40 _ h) gw_L_31 hd_L_number ⟨Nat.zero_le _, Nat.zero_le _⟩ rfl rfl ⟨Nat.le_of_ble_eq_true rfl, Nat.le_of_ble_eq_true rfl⟩ rfl rfl (Nat.le_of_ble_eq_true rfl) dL_coast_252 (fun r41 μ42 h => ?_)
                    refine b_aload_n X dL_coast_255 rfl 1 rfl ?_
                    refine b_bipush (v := (nI 25)) X dL_coast_256 (by decide) ?_
                    refine b_iload X dL_coast_258 3 rfl ?_
                    refine b_iadd X dL_coast_260 ?_
                    have hz := h.1
                    replace h := h.2
                    refine b_iald X kF_246 nF_246 hz dL_coast_261 ?_
                    clear hz
                    refine b_bipush (v := (nI 59)) X dL_coast_262 (by decide) ?_
                    refine bSi (st := []) (nA := 4) X (c_L_number l D C ad r41 (μ42.1 246 (((nI 25) + v4)).toNatClampNeg) (nI 59) μ42 _ h) gw_L_31 hd_L_number ⟨Nat.zero_le _, Nat.zero_le _⟩ rfl rfl ⟨Nat.le_of_ble_eq_true rfl, Nat.le_of_ble_eq_true rfl⟩ rfl rfl (Nat.le_of_ble_eq_true rfl) dL_coast_264 (fun r43 μ44 h => ?_)
                    refine b_istore_n (lv' := [(3, .int r43), (0, .ref (ad 0)), (1, .ref (ad 246)), (4, .int v4)]) X dL_coast_267 rfl (by decide) rfl ?_
                    obtain ⟨x45, ex45⟩ : ∃ y : Int32, y = v4 + (nI 1) := ⟨_, rfl⟩
                    replace h := h x45 ex45
                    refine b_iinc (x := x45) (lv' := [(4, .int x45), (3, .int r43), (0, .ref (ad 0)), (1, .ref (ad 246))]) (q := 3) X dL_coast_268 rfl (by rw [ex45]; rfl) (by decide) rfl ?_
                    refine b_goto (t := 226) X dL_coast_271 (by decide) ?_
                    refine b_sub (lv' := [(0, .ref (ad 0)), (1, .ref (ad 246)), (3, .int r43), (4, .int x45)]) [2, 3, 1, 0] rfl ?_
                    exact T226 r43 x45 μ44 h
                rw [eY] at B226
                exact B226
              refine b_aload_n X dL_coast_168 rfl 0 rfl ?_
              refine b_aload_n X dL_coast_169 rfl 0 rfl ?_
              refine b_aload_n X dL_coast_170 rfl 0 rfl ?_
              refine b_iload_n X dL_coast_171 rfl 2 rfl ?_
              refine b_bipush (v := (nI 100)) X dL_coast_172 (by decide) ?_
              refine bSi (st := [.ref (ad 0), .ref (ad 0)]) (nA := 3) X (c_L_put l D C ad v3 (nI 100) μ _ h) gw_L_14 hd_L_put ⟨Nat.zero_le _, Nat.zero_le _⟩ rfl rfl ⟨Nat.le_of_ble_eq_true rfl, Nat.le_of_ble_eq_true rfl⟩ rfl rfl (Nat.le_of_ble_eq_true rfl) dL_coast_174 (fun r27 μ28 h => ?_)
              refine b_aload_n X dL_coast_177 rfl 1 rfl ?_
              refine b_iconst (v := (nI 5)) X dL_coast_178 (by decide) ?_
              have hz := h.1
              replace h := h.2
              refine b_iald X kF_246 nF_246 hz dL_coast_179 ?_
              clear hz
              refine b_bipush (v := (nI 32)) X dL_coast_180 (by decide) ?_
              refine bSi (st := [.ref (ad 0)]) (nA := 4) X (c_L_number l D C ad r27 (μ28.1 246 ((nI 5)).toNatClampNeg) (nI 32) μ28 _ h) gw_L_31 hd_L_number ⟨Nat.zero_le _, Nat.zero_le _⟩ rfl rfl ⟨Nat.le_of_ble_eq_true rfl, Nat.le_of_ble_eq_true rfl⟩ rfl rfl (Nat.le_of_ble_eq_true rfl) dL_coast_182 (fun r29 μ30 h => ?_)
              refine b_aload_n X dL_coast_185 rfl 1 rfl ?_
              refine b_bipush (v := (nI 6)) X dL_coast_186 (by decide) ?_
              have hz := h.1
              replace h := h.2
              refine b_iald X kF_246 nF_246 hz dL_coast_188 ?_
              clear hz
              refine b_bipush (v := (nI 59)) X dL_coast_189 (by decide) ?_
              refine bSi (st := []) (nA := 4) X (c_L_number l D C ad r29 (μ30.1 246 ((nI 6)).toNatClampNeg) (nI 59) μ30 _ h) gw_L_31 hd_L_number ⟨Nat.zero_le _, Nat.zero_le _⟩ rfl rfl ⟨Nat.le_of_ble_eq_true rfl, Nat.le_of_ble_eq_true rfl⟩ rfl rfl (Nat.le_of_ble_eq_true rfl) dL_coast_191 (fun r31 μ32 h => ?_)
              refine b_istore_n (lv' := [(3, .int r31), (0, .ref (ad 0)), (1, .ref (ad 246))]) X dL_coast_194 rfl (by decide) rfl ?_
              refine b_aload_n X dL_coast_195 rfl 1 rfl ?_
              refine b_aload_n X dL_coast_196 rfl 1 rfl ?_
              refine b_aload_n X dL_coast_197 rfl 1 rfl ?_
              refine b_iload_n X dL_coast_198 rfl 0 rfl ?_
              refine b_bipush (v := (nI 117)) X dL_coast_199 (by decide) ?_
              refine bSi (st := [.ref (ad 0), .ref (ad 0)]) (nA := 3) X (c_L_put l D C ad r31 (nI 117) μ32 _ h) gw_L_14 hd_L_put ⟨Nat.zero_le _, Nat.zero_le _⟩ rfl rfl ⟨Nat.le_of_ble_eq_true rfl, Nat.le_of_ble_eq_true rfl⟩ rfl rfl (Nat.le_of_ble_eq_true rfl) dL_coast_201 (fun r33 μ34 h => ?_)
              refine b_aload_n X dL_coast_204 rfl 2 rfl ?_
              refine b_bipush (v := (nI 7)) X dL_coast_205 (by decide) ?_
              have hz := h.1
              replace h := h.2
              refine b_iald X kF_246 nF_246 hz dL_coast_207 ?_
              clear hz
              refine b_bipush (v := (nI 32)) X dL_coast_208 (by decide) ?_
              refine bSi (st := [.ref (ad 0)]) (nA := 4) X (c_L_number l D C ad r33 (μ34.1 246 ((nI 7)).toNatClampNeg) (nI 32) μ34 _ h) gw_L_31 hd_L_number ⟨Nat.zero_le _, Nat.zero_le _⟩ rfl rfl ⟨Nat.le_of_ble_eq_true rfl, Nat.le_of_ble_eq_true rfl⟩ rfl rfl (Nat.le_of_ble_eq_true rfl) dL_coast_210 (fun r35 μ36 h => ?_)
              refine b_aload_n X dL_coast_213 rfl 2 rfl ?_
              refine b_bipush (v := (nI 8)) X dL_coast_214 (by decide) ?_
              have hz := h.1
              replace h := h.2
              refine b_iald X kF_246 nF_246 hz dL_coast_216 ?_
              clear hz
              refine b_bipush (v := (nI 59)) X dL_coast_217 (by decide) ?_
              refine bSi (st := []) (nA := 4) X (c_L_number l D C ad r35 (μ36.1 246 ((nI 8)).toNatClampNeg) (nI 59) μ36 _ h) gw_L_31 hd_L_number ⟨Nat.zero_le _, Nat.zero_le _⟩ rfl rfl ⟨Nat.le_of_ble_eq_true rfl, Nat.le_of_ble_eq_true rfl⟩ rfl rfl (Nat.le_of_ble_eq_true rfl) dL_coast_219 (fun r37 μ38 h => ?_)
              refine b_istore_n (lv' := [(3, .int r37), (0, .ref (ad 0)), (1, .ref (ad 246))]) X dL_coast_222 rfl (by decide) rfl ?_
              refine b_iconst (v := (nI 0)) X dL_coast_223 (by decide) ?_
              refine b_istore (lv' := [(4, .int (nI 0)), (3, .int r37), (0, .ref (ad 0)), (1, .ref (ad 246))]) X dL_coast_224 (by decide) rfl ?_
              refine b_sub (lv' := [(0, .ref (ad 0)), (1, .ref (ad 246)), (3, .int r37), (4, .int (nI 0))]) [2, 3, 1, 0] rfl ?_
              exact B226 r37 (nI 0) μ38 h
            refine b_iload X dL_coast_94 4 rfl ?_
            refine b_aload_n X dL_coast_96 rfl 1 rfl ?_
            refine b_iconst (v := (nI 3)) X dL_coast_97 (by decide) ?_
            have hz := h.1
            replace h := h.2
            refine b_iald X kF_246 nF_246 hz dL_coast_98 ?_
            clear hz
            refine b_icmp_ge (t := 168) X dL_coast_99 (by decide) (fun c => ?_) (fun c => ?_)
            · replace h := h.1 c
              refine b_sub (lv' := [(0, .ref (ad 0)), (1, .ref (ad 246)), (3, .int v3)]) [0, 1, 3] rfl ?_
              exact B168 v3 μ h
            · replace h := h.2 c
              refine b_aload_n X dL_coast_102 rfl 0 rfl ?_
              refine b_aload_n X dL_coast_103 rfl 0 rfl ?_
              refine b_aload_n X dL_coast_104 rfl 0 rfl ?_
              refine b_aload_n X dL_coast_105 rfl 0 rfl ?_
              refine b_aload_n X dL_coast_106 rfl 0 rfl ?_
              refine b_iload_n X dL_coast_107 rfl 3 rfl ?_
              refine b_bipush (v := (nI 112)) X dL_coast_108 (by decide) ?_
              refine bSi (st := [.ref (ad 0), .ref (ad 0), .ref (ad 0), .ref (ad 0)]) (nA := 3) X (c_L_put l D C ad v3 (nI 112) μ _ h) gw_L_14 hd_L_put ⟨Nat.zero_le _, Nat.zero_le _⟩ rfl rfl ⟨Nat.le_of_ble_eq_true rfl, Nat.le_of_ble_eq_true rfl⟩ rfl rfl (Nat.le_of_ble_eq_true rfl) dL_coast_110 (fun r16 μ17 h => ?_)
              refine b_aload_n X dL_coast_113 rfl 2 rfl ?_
              refine b_bipush (v := (nI 15)) X dL_coast_114 (by decide) ?_
              refine b_iload X dL_coast_116 4 rfl ?_
              refine b_iadd X dL_coast_118 ?_
              have hz := h.1
              replace h := h.2
              refine b_iald X kF_247 nF_247 hz dL_coast_119 ?_
              clear hz
              refine b_bipush (v := (nI 32)) X dL_coast_120 (by decide) ?_
              refine bSi (st := [.ref (ad 0), .ref (ad 0), .ref (ad 0)]) (nA := 4) X (c_L_number l D C ad r16 (μ17.1 247 (((nI 15) + v4)).toNatClampNeg) (nI 32) μ17 _ h) gw_L_31 hd_L_number ⟨Nat.zero_le _, Nat.zero_le _⟩ rfl rfl ⟨Nat.le_of_ble_eq_true rfl, Nat.le_of_ble_eq_true rfl⟩ rfl rfl (Nat.le_of_ble_eq_true rfl) dL_coast_122 (fun r18 μ19 h => ?_)
              refine b_aload_n X dL_coast_125 rfl 2 rfl ?_
              refine b_bipush (v := (nI 21)) X dL_coast_126 (by decide) ?_
              refine b_iload X dL_coast_128 4 rfl ?_
              refine b_iadd X dL_coast_130 ?_
              have hz := h.1
              replace h := h.2
              refine b_iald X kF_247 nF_247 hz dL_coast_131 ?_
              clear hz
              refine b_bipush (v := (nI 32)) X dL_coast_132 (by decide) ?_
              refine bSi (st := [.ref (ad 0), .ref (ad 0)]) (nA := 4) X (c_L_number l D C ad r18 (μ19.1 247 (((nI 21) + v4)).toNatClampNeg) (nI 32) μ19 _ h) gw_L_31 hd_L_number ⟨Nat.zero_le _, Nat.zero_le _⟩ rfl rfl ⟨Nat.le_of_ble_eq_true rfl, Nat.le_of_ble_eq_true rfl⟩ rfl rfl (Nat.le_of_ble_eq_true rfl) dL_coast_134 (fun r20 μ21 h => ?_)
              refine b_aload_n X dL_coast_137 rfl 1 rfl ?_
              refine b_bipush (v := (nI 9)) X dL_coast_138 (by decide) ?_
              refine b_iload X dL_coast_140 4 rfl ?_
              refine b_iadd X dL_coast_142 ?_
              have hz := h.1
              replace h := h.2
              refine b_iald X kF_246 nF_246 hz dL_coast_143 ?_
              clear hz
              refine b_bipush (v := (nI 32)) X dL_coast_144 (by decide) ?_
              refine bSi (st := [.ref (ad 0)]) (nA := 4) X (c_L_number l D C ad r20 (μ21.1 246 (((nI 9) + v4)).toNatClampNeg) (nI 32) μ21 _ h) gw_L_31 hd_L_number ⟨Nat.zero_le _, Nat.zero_le _⟩ rfl rfl ⟨Nat.le_of_ble_eq_true rfl, Nat.le_of_ble_eq_true rfl⟩ rfl rfl (Nat.le_of_ble_eq_true rfl) dL_coast_146 (fun r22 μ23 h => ?_)
              refine b_aload_n X dL_coast_149 rfl 1 rfl ?_
              refine b_bipush (v := (nI 15)) X dL_coast_150 (by decide) ?_
              refine b_iload X dL_coast_152 4 rfl ?_
              refine b_iadd X dL_coast_154 ?_
              have hz := h.1
              replace h := h.2
              refine b_iald X kF_246 nF_246 hz dL_coast_155 ?_
              clear hz
              refine b_bipush (v := (nI 59)) X dL_coast_156 (by decide) ?_
              refine bSi (st := []) (nA := 4) X (c_L_number l D C ad r22 (μ23.1 246 (((nI 15) + v4)).toNatClampNeg) (nI 59) μ23 _ h) gw_L_31 hd_L_number ⟨Nat.zero_le _, Nat.zero_le _⟩ rfl rfl ⟨Nat.le_of_ble_eq_true rfl, Nat.le_of_ble_eq_true rfl⟩ rfl rfl (Nat.le_of_ble_eq_true rfl) dL_coast_158 (fun r24 μ25 h => ?_)
              refine b_istore_n (lv' := [(3, .int r24), (0, .ref (ad 0)), (1, .ref (ad 246)), (2, .ref (ad 247)), (4, .int v4)]) X dL_coast_161 rfl (by decide) rfl ?_
              obtain ⟨x26, ex26⟩ : ∃ y : Int32, y = v4 + (nI 1) := ⟨_, rfl⟩
              replace h := h x26 ex26
              refine b_iinc (x := x26) (lv' := [(4, .int x26), (3, .int r24), (0, .ref (ad 0)), (1, .ref (ad 246)), (2, .ref (ad 247))]) (q := 4) X dL_coast_162 rfl (by rw [ex26]; rfl) (by decide) rfl ?_
              refine b_goto (t := 94) X dL_coast_165 (by decide) ?_
              refine b_sub (lv' := [(0, .ref (ad 0)), (1, .ref (ad 246)), (2, .ref (ad 247)), (3, .int r24), (4, .int x26)]) [2, 3, 4, 1, 0] rfl ?_
              exact T94 r24 x26 μ25 h
          rw [eY] at B94
          exact B94
        refine b_iconst (v := (nI 0)) X dL_coast_91 (by decide) ?_
        refine b_istore (lv' := [(4, .int (nI 0)), (0, .ref (ad 0)), (1, .ref (ad 246)), (2, .ref (ad 247)), (3, .int v3)]) X dL_coast_92 (by decide) rfl ?_
        refine b_sub (lv' := [(0, .ref (ad 0)), (1, .ref (ad 246)), (2, .ref (ad 247)), (3, .int v3), (4, .int (nI 0))]) [1, 2, 3, 4, 0] rfl ?_
        exact B94 v3 (nI 0) μ h
      refine b_iload X dL_coast_39 4 rfl ?_
      refine b_aload_n X dL_coast_41 rfl 1 rfl ?_
      refine b_iconst (v := (nI 2)) X dL_coast_42 (by decide) ?_
      have hz := h.1
      replace h := h.2
      refine b_iald X kF_246 nF_246 hz dL_coast_43 ?_
      clear hz
      refine b_icmp_ge (t := 91) X dL_coast_44 (by decide) (fun c => ?_) (fun c => ?_)
      · replace h := h.1 c
        refine b_sub (lv' := [(0, .ref (ad 0)), (1, .ref (ad 246)), (2, .ref (ad 247)), (3, .int v3)]) [0, 1, 2, 3] rfl ?_
        exact B91 v3 μ h
      · replace h := h.2 c
        refine b_aload_n X dL_coast_47 rfl 0 rfl ?_
        refine b_aload_n X dL_coast_48 rfl 0 rfl ?_
        refine b_aload_n X dL_coast_49 rfl 0 rfl ?_
        refine b_iload_n X dL_coast_50 rfl 3 rfl ?_
        refine b_bipush (v := (nI 104)) X dL_coast_51 (by decide) ?_
        refine bSi (st := [.ref (ad 0), .ref (ad 0)]) (nA := 3) X (c_L_put l D C ad v3 (nI 104) μ _ h) gw_L_14 hd_L_put ⟨Nat.zero_le _, Nat.zero_le _⟩ rfl rfl ⟨Nat.le_of_ble_eq_true rfl, Nat.le_of_ble_eq_true rfl⟩ rfl rfl (Nat.le_of_ble_eq_true rfl) dL_coast_53 (fun r9 μ10 h => ?_)
        refine b_aload_n X dL_coast_56 rfl 1 rfl ?_
        refine b_bipush (v := (nI 29)) X dL_coast_57 (by decide) ?_
        refine b_iconst (v := (nI 2)) X dL_coast_59 (by decide) ?_
        refine b_iload X dL_coast_60 4 rfl ?_
        refine b_imul X dL_coast_62 ?_
        refine b_iadd X dL_coast_63 ?_
        have hz := h.1
        replace h := h.2
        refine b_iald X kF_246 nF_246 hz dL_coast_64 ?_
        clear hz
        refine b_bipush (v := (nI 32)) X dL_coast_65 (by decide) ?_
        refine bSi (st := [.ref (ad 0)]) (nA := 4) X (c_L_number l D C ad r9 (μ10.1 246 (((nI 29) + ((nI 2) * v4))).toNatClampNeg) (nI 32) μ10 _ h) gw_L_31 hd_L_number ⟨Nat.zero_le _, Nat.zero_le _⟩ rfl rfl ⟨Nat.le_of_ble_eq_true rfl, Nat.le_of_ble_eq_true rfl⟩ rfl rfl (Nat.le_of_ble_eq_true rfl) dL_coast_67 (fun r11 μ12 h => ?_)
        refine b_aload_n X dL_coast_70 rfl 1 rfl ?_
        refine b_bipush (v := (nI 30)) X dL_coast_71 (by decide) ?_
        refine b_iconst (v := (nI 2)) X dL_coast_73 (by decide) ?_
        refine b_iload X dL_coast_74 4 rfl ?_
        refine b_imul X dL_coast_76 ?_
        refine b_iadd X dL_coast_77 ?_
        have hz := h.1
        replace h := h.2
        refine b_iald X kF_246 nF_246 hz dL_coast_78 ?_
        clear hz
        refine b_bipush (v := (nI 59)) X dL_coast_79 (by decide) ?_
        refine bSi (st := []) (nA := 4) X (c_L_number l D C ad r11 (μ12.1 246 (((nI 30) + ((nI 2) * v4))).toNatClampNeg) (nI 59) μ12 _ h) gw_L_31 hd_L_number ⟨Nat.zero_le _, Nat.zero_le _⟩ rfl rfl ⟨Nat.le_of_ble_eq_true rfl, Nat.le_of_ble_eq_true rfl⟩ rfl rfl (Nat.le_of_ble_eq_true rfl) dL_coast_81 (fun r13 μ14 h => ?_)
        refine b_istore_n (lv' := [(3, .int r13), (0, .ref (ad 0)), (1, .ref (ad 246)), (2, .ref (ad 247)), (4, .int v4)]) X dL_coast_84 rfl (by decide) rfl ?_
        obtain ⟨x15, ex15⟩ : ∃ y : Int32, y = v4 + (nI 1) := ⟨_, rfl⟩
        replace h := h x15 ex15
        refine b_iinc (x := x15) (lv' := [(4, .int x15), (3, .int r13), (0, .ref (ad 0)), (1, .ref (ad 246)), (2, .ref (ad 247))]) (q := 4) X dL_coast_85 rfl (by rw [ex15]; rfl) (by decide) rfl ?_
        refine b_goto (t := 39) X dL_coast_88 (by decide) ?_
        refine b_sub (lv' := [(0, .ref (ad 0)), (1, .ref (ad 246)), (2, .ref (ad 247)), (3, .int r13), (4, .int x15)]) [2, 3, 4, 1, 0] rfl ?_
        exact T39 r13 x15 μ14 h
    rw [eY] at B39
    exact B39
  refine b_aload_n X dL_coast_0 rfl 0 rfl ?_
  refine b_iconst (v := (nI 5)) X dL_coast_1 (by decide) ?_
  refine bVi (st := []) (nA := 1) X (c_X6_told l D C ad (nI 5) μ _ h) kF_0 (by decide) (enc_6 kF_0) rfl gw_L_28 ⟨rfl, hd_X6_told⟩ ⟨Nat.zero_le _, Nat.zero_le _⟩ rfl rfl ⟨Nat.le_of_ble_eq_true rfl, Nat.le_of_ble_eq_true rfl⟩ rfl rfl (Nat.le_of_ble_eq_true rfl) dL_coast_2 (fun r1 μ2 h => ?_)
  obtain ⟨rfl, h⟩ := h
  refine b_if_eq (t := 10) X dL_coast_5 (by decide) (fun c => ?_) (fun c => ?_)
  · replace h := h.1 c
    refine b_aload_n X dL_coast_10 rfl 0 rfl ?_
    refine b_aload_n X dL_coast_11 rfl 0 rfl ?_
    refine b_aload_n X dL_coast_12 rfl 0 rfl ?_
    refine b_iconst (v := (nI 0)) X dL_coast_13 (by decide) ?_
    refine b_bipush (v := (nI 102)) X dL_coast_14 (by decide) ?_
    refine bSi (st := [.ref (ad 0), .ref (ad 0)]) (nA := 3) X (c_L_put l D C ad (nI 0) (nI 102) μ _ h) gw_L_14 hd_L_put ⟨Nat.zero_le _, Nat.zero_le _⟩ rfl rfl ⟨Nat.le_of_ble_eq_true rfl, Nat.le_of_ble_eq_true rfl⟩ rfl rfl (Nat.le_of_ble_eq_true rfl) dL_coast_16 (fun r3 μ4 h => ?_)
    refine b_aload_n X dL_coast_19 rfl 1 rfl ?_
    refine b_iconst (v := (nI 0)) X dL_coast_20 (by decide) ?_
    have hz := h.1
    replace h := h.2
    refine b_iald X kF_246 nF_246 hz dL_coast_21 ?_
    clear hz
    refine b_bipush (v := (nI 32)) X dL_coast_22 (by decide) ?_
    refine bSi (st := [.ref (ad 0)]) (nA := 4) X (c_L_number l D C ad r3 (μ4.1 246 ((nI 0)).toNatClampNeg) (nI 32) μ4 _ h) gw_L_31 hd_L_number ⟨Nat.zero_le _, Nat.zero_le _⟩ rfl rfl ⟨Nat.le_of_ble_eq_true rfl, Nat.le_of_ble_eq_true rfl⟩ rfl rfl (Nat.le_of_ble_eq_true rfl) dL_coast_24 (fun r5 μ6 h => ?_)
    refine b_aload_n X dL_coast_27 rfl 1 rfl ?_
    refine b_iconst (v := (nI 1)) X dL_coast_28 (by decide) ?_
    have hz := h.1
    replace h := h.2
    refine b_iald X kF_246 nF_246 hz dL_coast_29 ?_
    clear hz
    refine b_bipush (v := (nI 59)) X dL_coast_30 (by decide) ?_
    refine bSi (st := []) (nA := 4) X (c_L_number l D C ad r5 (μ6.1 246 ((nI 1)).toNatClampNeg) (nI 59) μ6 _ h) gw_L_31 hd_L_number ⟨Nat.zero_le _, Nat.zero_le _⟩ rfl rfl ⟨Nat.le_of_ble_eq_true rfl, Nat.le_of_ble_eq_true rfl⟩ rfl rfl (Nat.le_of_ble_eq_true rfl) dL_coast_32 (fun r7 μ8 h => ?_)
    refine b_istore_n (lv' := [(3, .int r7), (0, .ref (ad 0)), (1, .ref (ad 246)), (2, .ref (ad 247))]) X dL_coast_35 rfl (by decide) rfl ?_
    refine b_iconst (v := (nI 0)) X dL_coast_36 (by decide) ?_
    refine b_istore (lv' := [(4, .int (nI 0)), (3, .int r7), (0, .ref (ad 0)), (1, .ref (ad 246)), (2, .ref (ad 247))]) X dL_coast_37 (by decide) rfl ?_
    refine b_sub (lv' := [(0, .ref (ad 0)), (1, .ref (ad 246)), (2, .ref (ad 247)), (3, .int r7), (4, .int (nI 0))]) [2, 3, 4, 1, 0] rfl ?_
    exact B39 r7 (nI 0) μ8 h
  · replace h := h.2 c
    refine b_iconst (v := (nI 0)) X dL_coast_8 (by decide) ?_
    exact hret _ _ _ _ ⟨(Or.inl rfl), h⟩ dL_coast_9
set_option maxHeartbeats 4000000 in
set_option maxRecDepth 100000 in
theorem c_L_hang (l : Launch) (D : va_G) (C : Nat → ClassId) (ad : Nat → Nat)  (μ : Mem) (Q : Int32 → Prop) (h : w_L_hang  μ Q) : Mi sF l yL_hang cL_hang 4 (some .int) rm_L_hang D C ad [.ref (ad 246), .ref (ad 247)] μ (fun r μ' => μ = μ' ∧ Q r) := by
  refine fm_i (by decide +kernel) sF_lt (Nat.le_of_ble_eq_true rfl) (fun K X hret => ?_)
  have X : CK sF D C ad K cL_hang 4 RL := X
  refine b_lv (lv' := [(0, .ref (ad 246)), (1, .ref (ad 247))]) rfl ?_
  unfold w_L_hang at h
  have B4 : ∀ (v2 : Int32) (v3 : Int32), w_L_hang_4 v2 v3 μ Q → WB sF l D C ad rm_L_hang K 4 μ 4 [(0, .ref (ad 246)), (1, .ref (ad 247)), (2, .int v2), (3, .int v3)] [] := by
    intro v2 v3 h
    obtain ⟨Y4, eY⟩ : ∃ Y : Int32 → Int32 → Prop, Y = fun (v2 : Int32) (v3 : Int32) => WB sF l D C ad rm_L_hang K 4 μ 4 [(0, .ref (ad 246)), (1, .ref (ad 247)), (2, .int v2), (3, .int v3)] [] := ⟨_, rfl⟩
    have B4 : Y4 v2 v3 := by
      unfold w_L_hang_4 at h
      refine h Y4 ?_
      clear h
      intro v2 v3 h
      unfold s_L_hang_4 at h
      rw [eY]
      show WB sF l D C ad rm_L_hang K 4 μ 4 [(0, .ref (ad 246)), (1, .ref (ad 247)), (2, .int v2), (3, .int v3)] []
      have T4 : ∀ (v2 : Int32) (v3 : Int32), Y4 v2 v3 → WB sF l D C ad rm_L_hang K 4 μ 4 [(0, .ref (ad 246)), (1, .ref (ad 247)), (2, .int v2), (3, .int v3)] [] := by
        intro v2 v3 h
        rw [eY] at h
        exact h
      clear eY
      refine b_iload_n X dL_hang_4 rfl 3 rfl ?_
      refine b_aload_n X dL_hang_5 rfl 0 rfl ?_
      refine b_iconst (v := (nI 3)) X dL_hang_6 (by decide) ?_
      have hz := h.1
      replace h := h.2
      refine b_iald X kF_246 nF_246 hz dL_hang_7 ?_
      clear hz
      refine b_icmp_ge (t := 41) X dL_hang_8 (by decide) (fun c => ?_) (fun c => ?_)
      · replace h := h.1 c
        refine b_iload_n X dL_hang_41 rfl 2 rfl ?_
        exact hret _ _ _ _ ⟨rfl, h⟩ dL_hang_42
      · replace h := h.2 c
        refine b_iload_n X dL_hang_11 rfl 2 rfl ?_
        refine b_aload_n X dL_hang_12 rfl 0 rfl ?_
        refine b_iconst (v := (nI 5)) X dL_hang_13 (by decide) ?_
        refine b_aload_n X dL_hang_14 rfl 0 rfl ?_
        refine b_bipush (v := (nI 15)) X dL_hang_15 (by decide) ?_
        refine b_iload_n X dL_hang_17 rfl 3 rfl ?_
        refine b_iadd X dL_hang_18 ?_
        have hz := h.1
        replace h := h.2
        refine b_iald X kF_246 nF_246 hz dL_hang_19 ?_
        clear hz
        refine b_iadd X dL_hang_20 ?_
        have hz := h.1
        replace h := h.2
        refine b_iald X kF_246 nF_246 hz dL_hang_21 ?_
        clear hz
        refine b_topi (fun x1 ex1 => ?_)
        replace h := h x1 ex1
        refine b_aload_n X dL_hang_22 rfl 1 rfl ?_
        refine b_iconst (v := (nI 0)) X dL_hang_23 (by decide) ?_
        have hz := h.1
        replace h := h.2
        refine b_iald X kF_247 nF_247 hz dL_hang_24 ?_
        clear hz
        refine b_bipush (v := (nI 7)) X dL_hang_25 (by decide) ?_
        have hz := h.1
        replace h := h.2
        refine b_irem X dL_hang_27 hz ?_
        clear hz
        refine b_topi (fun x2 ex2 => ?_)
        replace h := h x2 ex2
        refine b_ishr X dL_hang_28 ?_
        refine b_iconst (v := (nI 1)) X dL_hang_29 (by decide) ?_
        refine b_iand X dL_hang_30 ?_
        refine b_iload_n X dL_hang_31 rfl 3 rfl ?_
        refine b_ishl X dL_hang_32 ?_
        refine b_ior X dL_hang_33 ?_
        refine b_topi (fun x3 ex3 => ?_)
        replace h := h x3 ex3
        refine b_istore_n (lv' := [(2, .int x3), (0, .ref (ad 246)), (1, .ref (ad 247)), (3, .int v3)]) X dL_hang_34 rfl (by decide) rfl ?_
        obtain ⟨x4, ex4⟩ : ∃ y : Int32, y = v3 + (nI 1) := ⟨_, rfl⟩
        replace h := h x4 ex4
        refine b_iinc (x := x4) (lv' := [(3, .int x4), (2, .int x3), (0, .ref (ad 246)), (1, .ref (ad 247))]) (q := 3) X dL_hang_35 rfl (by rw [ex4]; rfl) (by decide) rfl ?_
        refine b_goto (t := 4) X dL_hang_38 (by decide) ?_
        refine b_sub (lv' := [(0, .ref (ad 246)), (1, .ref (ad 247)), (2, .int x3), (3, .int x4)]) [2, 3, 1, 0] rfl ?_
        exact T4 x3 x4 h
    rw [eY] at B4
    exact B4
  refine b_iconst (v := (nI 0)) X dL_hang_0 (by decide) ?_
  refine b_istore_n (lv' := [(2, .int (nI 0)), (0, .ref (ad 246)), (1, .ref (ad 247))]) X dL_hang_1 rfl (by decide) rfl ?_
  refine b_iconst (v := (nI 0)) X dL_hang_2 (by decide) ?_
  refine b_istore_n (lv' := [(3, .int (nI 0)), (2, .int (nI 0)), (0, .ref (ad 246)), (1, .ref (ad 247))]) X dL_hang_3 rfl (by decide) rfl ?_
  refine b_sub (lv' := [(0, .ref (ad 246)), (1, .ref (ad 247)), (2, .int (nI 0)), (3, .int (nI 0))]) [2, 3, 1, 0] rfl ?_
  exact B4 (nI 0) (nI 0) h
set_option maxHeartbeats 4000000 in
set_option maxRecDepth 100000 in
theorem c_L_dayLong (l : Launch) (D : va_G) (C : Nat → ClassId) (ad : Nat → Nat)  (μ : Mem) (Q : Int32 → Prop) (h : w_L_dayLong  μ Q) : Mi sF l yL_dayLong cL_dayLong 1 (some .int) rm_L_dayLong D C ad [.ref (ad 246)] μ (fun r μ' => μ = μ' ∧ Q r) := by
  refine fm_i (by decide +kernel) sF_lt (Nat.le_of_ble_eq_true rfl) (fun K X hret => ?_)
  have X : CK sF D C ad K cL_dayLong 1 RL := X
  refine b_lv (lv' := [(0, .ref (ad 246))]) rfl ?_
  unfold w_L_dayLong at h
  refine b_aload_n X dL_dayLong_0 rfl 0 rfl ?_
  refine b_iconst (v := (nI 2)) X dL_dayLong_1 (by decide) ?_
  have hz := h.1
  replace h := h.2
  refine b_iald X kF_246 nF_246 hz dL_dayLong_2 ?_
  clear hz
  refine b_iconst (v := (nI 1)) X dL_dayLong_3 (by decide) ?_
  refine b_icmp_ge (t := 11) X dL_dayLong_4 (by decide) (fun c => ?_) (fun c => ?_)
  · replace h := h.1 c
    refine b_aload_n X dL_dayLong_11 rfl 0 rfl ?_
    refine b_iconst (v := (nI 2)) X dL_dayLong_12 (by decide) ?_
    have hz := h.1
    replace h := h.2
    refine b_iald X kF_246 nF_246 hz dL_dayLong_13 ?_
    clear hz
    exact hret _ _ _ _ ⟨rfl, h⟩ dL_dayLong_14
  · replace h := h.2 c
    refine b_iconst (v := (nI 1)) X dL_dayLong_7 (by decide) ?_
    refine b_goto (t := 14) X dL_dayLong_8 (by decide) ?_
    exact hret _ _ _ _ ⟨rfl, h⟩ dL_dayLong_14
set_option maxHeartbeats 4000000 in
set_option maxRecDepth 100000 in
theorem c_L_side (l : Launch) (D : va_G) (C : Nat → ClassId) (ad : Nat → Nat)  (μ : Mem) (Q : Int32 → Prop) (h : w_L_side  μ Q) : Mi sF l yL_side cL_side 2 (some .int) rm_L_side D C ad [.ref (ad 246), .ref (ad 247)] μ (fun r μ' => μ = μ' ∧ Q r) := by
  refine fm_i (by decide +kernel) sF_lt (Nat.le_of_ble_eq_true rfl) (fun K X hret => ?_)
  have X : CK sF D C ad K cL_side 2 RL := X
  refine b_lv (lv' := [(0, .ref (ad 246)), (1, .ref (ad 247))]) rfl ?_
  unfold w_L_side at h
  refine b_aload_n X dL_side_0 rfl 0 rfl ?_
  refine b_iconst (v := (nI 2)) X dL_side_1 (by decide) ?_
  have hz := h.1
  replace h := h.2
  refine b_iald X kF_246 nF_246 hz dL_side_2 ?_
  clear hz
  refine b_iconst (v := (nI 1)) X dL_side_3 (by decide) ?_
  refine b_icmp_ge (t := 11) X dL_side_4 (by decide) (fun c => ?_) (fun c => ?_)
  · replace h := h.1 c
    refine b_aload_n X dL_side_11 rfl 0 rfl ?_
    refine b_bipush (v := (nI 29)) X dL_side_12 (by decide) ?_
    refine b_iconst (v := (nI 2)) X dL_side_14 (by decide) ?_
    refine b_aload_n X dL_side_15 rfl 1 rfl ?_
    refine b_iconst (v := (nI 1)) X dL_side_16 (by decide) ?_
    have hz := h.1
    replace h := h.2
    refine b_iald X kF_247 nF_247 hz dL_side_17 ?_
    clear hz
    refine b_imul X dL_side_18 ?_
    refine b_iadd X dL_side_19 ?_
    have hz := h.1
    replace h := h.2
    refine b_iald X kF_246 nF_246 hz dL_side_20 ?_
    clear hz
    refine b_topi (fun x1 ex1 => ?_)
    replace h := h x1 ex1
    exact hret _ _ _ _ ⟨rfl, h⟩ dL_side_21
  · replace h := h.2 c
    refine b_iconst (v := (nI 0)) X dL_side_7 (by decide) ?_
    refine b_goto (t := 21) X dL_side_8 (by decide) ?_
    exact hret _ _ _ _ ⟨rfl, h⟩ dL_side_21
set_option maxHeartbeats 4000000 in
set_option maxRecDepth 100000 in
theorem c_L_fog (l : Launch) (D : va_G) (C : Nat → ClassId) (ad : Nat → Nat)  (μ : Mem) (Q : Int32 → Prop) (h : w_L_fog  μ Q) : Mi sF l yL_fog cL_fog 2 (some .int) rm_L_fog D C ad [.ref (ad 246), .ref (ad 247)] μ (fun r μ' => μ = μ' ∧ Q r) := by
  refine fm_i (by decide +kernel) sF_lt (Nat.le_of_ble_eq_true rfl) (fun K X hret => ?_)
  have X : CK sF D C ad K cL_fog 2 RL := X
  refine b_lv (lv' := [(0, .ref (ad 246)), (1, .ref (ad 247))]) rfl ?_
  unfold w_L_fog at h
  refine b_aload_n X dL_fog_0 rfl 0 rfl ?_
  refine b_iconst (v := (nI 2)) X dL_fog_1 (by decide) ?_
  have hz := h.1
  replace h := h.2
  refine b_iald X kF_246 nF_246 hz dL_fog_2 ?_
  clear hz
  refine b_iconst (v := (nI 1)) X dL_fog_3 (by decide) ?_
  refine b_icmp_ge (t := 11) X dL_fog_4 (by decide) (fun c => ?_) (fun c => ?_)
  · replace h := h.1 c
    refine b_aload_n X dL_fog_11 rfl 0 rfl ?_
    refine b_bipush (v := (nI 30)) X dL_fog_12 (by decide) ?_
    refine b_iconst (v := (nI 2)) X dL_fog_14 (by decide) ?_
    refine b_aload_n X dL_fog_15 rfl 1 rfl ?_
    refine b_iconst (v := (nI 1)) X dL_fog_16 (by decide) ?_
    have hz := h.1
    replace h := h.2
    refine b_iald X kF_247 nF_247 hz dL_fog_17 ?_
    clear hz
    refine b_imul X dL_fog_18 ?_
    refine b_iadd X dL_fog_19 ?_
    have hz := h.1
    replace h := h.2
    refine b_iald X kF_246 nF_246 hz dL_fog_20 ?_
    clear hz
    refine b_topi (fun x1 ex1 => ?_)
    replace h := h x1 ex1
    exact hret _ _ _ _ ⟨rfl, h⟩ dL_fog_21
  · replace h := h.2 c
    refine b_iconst (v := (nI 0)) X dL_fog_7 (by decide) ?_
    refine b_goto (t := 21) X dL_fog_8 (by decide) ?_
    exact hret _ _ _ _ ⟨rfl, h⟩ dL_fog_21
set_option maxHeartbeats 4000000 in
set_option maxRecDepth 100000 in
theorem c_L_isCoast (l : Launch) (D : va_G) (C : Nat → ClassId) (ad : Nat → Nat)  (μ : Mem) (Q : Int32 → Prop) (h : w_L_isCoast  μ Q) : Mi sF l yL_isCoast cL_isCoast 8 (some .boolean) rm_L_isCoast D C ad [.ref (ad 0), .ref (ad 246), .ref (ad 247)] μ (fun r μ' => μ = μ' ∧ Q r) := by
  refine fm_z (by decide +kernel) sF_lt (Nat.le_of_ble_eq_true rfl) (fun K X hret => ?_)
  have X : CK sF D C ad K cL_isCoast 8 RL := X
  refine b_lv (lv' := [(0, .ref (ad 0)), (1, .ref (ad 246)), (2, .ref (ad 247))]) rfl ?_
  unfold w_L_isCoast at h
  have B5 : ∀ (v3 : Int32) (v4 : Int32), w_L_isCoast_5 v3 v4 μ Q → WB sF l D C ad rm_L_isCoast K 8 μ 5 [(0, .ref (ad 0)), (1, .ref (ad 246)), (2, .ref (ad 247)), (3, .int v3), (4, .int v4)] [] := by
    intro v3 v4 h
    obtain ⟨Y5, eY⟩ : ∃ Y : Int32 → Int32 → Prop, Y = fun (v3 : Int32) (v4 : Int32) => WB sF l D C ad rm_L_isCoast K 8 μ 5 [(0, .ref (ad 0)), (1, .ref (ad 246)), (2, .ref (ad 247)), (3, .int v3), (4, .int v4)] [] := ⟨_, rfl⟩
    have B5 : Y5 v3 v4 := by
      unfold w_L_isCoast_5 at h
      refine h Y5 ?_
      clear h
      intro v3 v4 h
      unfold s_L_isCoast_5 at h
      rw [eY]
      show WB sF l D C ad rm_L_isCoast K 8 μ 5 [(0, .ref (ad 0)), (1, .ref (ad 246)), (2, .ref (ad 247)), (3, .int v3), (4, .int v4)] []
      have T5 : ∀ (v3 : Int32) (v4 : Int32), Y5 v3 v4 → WB sF l D C ad rm_L_isCoast K 8 μ 5 [(0, .ref (ad 0)), (1, .ref (ad 246)), (2, .ref (ad 247)), (3, .int v3), (4, .int v4)] [] := by
        intro v3 v4 h
        rw [eY] at h
        exact h
      clear eY
      have B29 : ∀ (v3 : Int32), w_L_isCoast_29 v3 μ Q → WB sF l D C ad rm_L_isCoast K 8 μ 29 [(0, .ref (ad 0)), (1, .ref (ad 246)), (2, .ref (ad 247)), (3, .int v3)] [] := by
        intro v3 h
        unfold w_L_isCoast_29 at h
        have B202 : ∀ (s1 : Int32), w_L_isCoast_202 s1 μ Q → WB sF l D C ad rm_L_isCoast K 8 μ 202 [(0, .ref (ad 0)), (1, .ref (ad 246)), (2, .ref (ad 247))] [.int s1] := by
          intro s1 h
          unfold w_L_isCoast_202 at h
          have B207 : ∀ (v4 : Int32) (v5 : Int32), w_L_isCoast_207 v4 v5 μ Q → WB sF l D C ad rm_L_isCoast K 8 μ 207 [(0, .ref (ad 0)), (1, .ref (ad 246)), (2, .ref (ad 247)), (4, .int v4), (5, .int v5)] [] := by
            intro v4 v5 h
            obtain ⟨Y207, eY⟩ : ∃ Y : Int32 → Int32 → Prop, Y = fun (v4 : Int32) (v5 : Int32) => WB sF l D C ad rm_L_isCoast K 8 μ 207 [(0, .ref (ad 0)), (1, .ref (ad 246)), (2, .ref (ad 247)), (4, .int v4), (5, .int v5)] [] := ⟨_, rfl⟩
            have B207 : Y207 v4 v5 := by
              unfold w_L_isCoast_207 at h
              refine h Y207 ?_
              clear h
              intro v4 v5 h
              unfold s_L_isCoast_207 at h
              rw [eY]
              show WB sF l D C ad rm_L_isCoast K 8 μ 207 [(0, .ref (ad 0)), (1, .ref (ad 246)), (2, .ref (ad 247)), (4, .int v4), (5, .int v5)] []
              have T207 : ∀ (v4 : Int32) (v5 : Int32), Y207 v4 v5 → WB sF l D C ad rm_L_isCoast K 8 μ 207 [(0, .ref (ad 0)), (1, .ref (ad 246)), (2, .ref (ad 247)), (4, .int v4), (5, .int v5)] [] := by
                intro v4 v5 h
                rw [eY] at h
                exact h
              clear eY
              have B318 : ∀ (v4 : Int32), w_L_isCoast_318 v4 μ Q → WB sF l D C ad rm_L_isCoast K 8 μ 318 [(0, .ref (ad 0)), (1, .ref (ad 246)), (2, .ref (ad 247)), (4, .int v4)] [] := by
                intro v4 h
                unfold w_L_isCoast_318 at h
                have B321 : ∀ (v4 : Int32) (v5 : Int32), w_L_isCoast_321 v4 v5 μ Q → WB sF l D C ad rm_L_isCoast K 8 μ 321 [(0, .ref (ad 0)), (1, .ref (ad 246)), (2, .ref (ad 247)), (4, .int v4), (5, .int v5)] [] := by
                  intro v4 v5 h
                  obtain ⟨Y321, eY⟩ : ∃ Y : Int32 → Int32 → Prop, Y = fun (v4 : Int32) (v5 : Int32) => WB sF l D C ad rm_L_isCoast K 8 μ 321 [(0, .ref (ad 0)), (1, .ref (ad 246)), (2, .ref (ad 247)), (4, .int v4), (5, .int v5)] [] := ⟨_, rfl⟩
                  have B321 : Y321 v4 v5 := by
                    unfold w_L_isCoast_321 at h
                    refine h Y321 ?_
                    clear h
                    intro v4 v5 h
                    unfold s_L_isCoast_321 at h
                    rw [eY]
                    show WB sF l D C ad rm_L_isCoast K 8 μ 321 [(0, .ref (ad 0)), (1, .ref (ad 246)), (2, .ref (ad 247)), (4, .int v4), (5, .int v5)] []
                    have T321 : ∀ (v4 : Int32) (v5 : Int32), Y321 v4 v5 → WB sF l D C ad rm_L_isCoast K 8 μ 321 [(0, .ref (ad 0)), (1, .ref (ad 246)), (2, .ref (ad 247)), (4, .int v4), (5, .int v5)] [] := by
                      intro v4 v5 h
                      rw [eY] at h
                      exact h
                    clear eY
                    have B468 : ∀ (v4 : Int32), w_L_isCoast_468 v4 μ Q → WB sF l D C ad rm_L_isCoast K 8 μ 468 [(0, .ref (ad 0)), (1, .ref (ad 246)), (4, .int v4)] [] := by
                      intro v4 h
                      unfold w_L_isCoast_468 at h
                      have B471 : ∀ (v4 : Int32) (v5 : Int32), w_L_isCoast_471 v4 v5 μ Q → WB sF l D C ad rm_L_isCoast K 8 μ 471 [(0, .ref (ad 0)), (1, .ref (ad 246)), (4, .int v4), (5, .int v5)] [] := by
                        intro v4 v5 h
                        obtain ⟨Y471, eY⟩ : ∃ Y : Int32 → Int32 → Prop, Y = fun (v4 : Int32) (v5 : Int32) => WB sF l D C ad rm_L_isCoast K 8 μ 471 [(0, .ref (ad 0)), (1, .ref (ad 246)), (4, .int v4), (5, .int v5)] [] := ⟨_, rfl⟩
                        have B471 : Y471 v4 v5 := by
                          unfold w_L_isCoast_471 at h
                          refine h Y471 ?_
                          clear h
                          intro v4 v5 h
                          unfold s_L_isCoast_471 at h
                          rw [eY]
                          show WB sF l D C ad rm_L_isCoast K 8 μ 471 [(0, .ref (ad 0)), (1, .ref (ad 246)), (4, .int v4), (5, .int v5)] []
                          have T471 : ∀ (v4 : Int32) (v5 : Int32), Y471 v4 v5 → WB sF l D C ad rm_L_isCoast K 8 μ 471 [(0, .ref (ad 0)), (1, .ref (ad 246)), (4, .int v4), (5, .int v5)] [] := by
                            intro v4 v5 h
                            rw [eY] at h
                            exact h
                          clear eY
                          have B531 : ∀ (v4 : Int32), w_L_isCoast_531 v4 μ Q → WB sF l D C ad rm_L_isCoast K 8 μ 531 [(0, .ref (ad 0)), (1, .ref (ad 246)), (4, .int v4)] [] := by
                            intro v4 h
                            unfold w_L_isCoast_531 at h
                            have B534 : ∀ (v4 : Int32) (v5 : Int32), w_L_isCoast_534 v4 v5 μ Q → WB sF l D C ad rm_L_isCoast K 8 μ 534 [(0, .ref (ad 0)), (1, .ref (ad 246)), (4, .int v4), (5, .int v5)] [] := by
                              intro v4 v5 h
                              obtain ⟨Y534, eY⟩ : ∃ Y : Int32 → Int32 → Prop, Y = fun (v4 : Int32) (v5 : Int32) => WB sF l D C ad rm_L_isCoast K 8 μ 534 [(0, .ref (ad 0)), (1, .ref (ad 246)), (4, .int v4), (5, .int v5)] [] := ⟨_, rfl⟩
                              have B534 : Y534 v4 v5 := by
                                unfold w_L_isCoast_534 at h
                                refine h Y534 ?_
                                clear h
                                intro v4 v5 h
                                unfold s_L_isCoast_534 at h
                                rw [eY]
                                show WB sF l D C ad rm_L_isCoast K 8 μ 534 [(0, .ref (ad 0)), (1, .ref (ad 246)), (4, .int v4), (5, .int v5)] []
                                have T534 : ∀ (v4 : Int32) (v5 : Int32), Y534 v4 v5 → WB sF l D C ad rm_L_isCoast K 8 μ 534 [(0, .ref (ad 0)), (1, .ref (ad 246)), (4, .int v4), (5, .int v5)] [] := by
                                  intro v4 v5 h
                                  rw [eY] at h
                                  exact h
                                clear eY
                                have B590 : ∀ (v5 : Int32) (s1 : Int32), w_L_isCoast_590 Y534 v5 s1 μ Q → WB sF l D C ad rm_L_isCoast K 8 μ 590 [(0, .ref (ad 0)), (1, .ref (ad 246)), (5, .int v5)] [.int s1] := by
                                  intro v5 s1 h
                                  unfold w_L_isCoast_590 at h
                                  refine b_istore (lv' := [(4, .int s1), (0, .ref (ad 0)), (1, .ref (ad 246)), (5, .int v5)]) X dL_isCoast_590 (by decide) rfl ?_
                                  obtain ⟨x72, ex72⟩ : ∃ y : Int32, y = v5 + (nI 1) := ⟨_, rfl⟩
                                  replace h := h x72 ex72
                                  refine b_iinc (x := x72) (lv' := [(5, .int x72), (4, .int s1), (0, .ref (ad 0)), (1, .ref (ad 246))]) (q := 3) X dL_isCoast_592 rfl (by rw [ex72]; rfl) (by decide) rfl ?_
                                  refine b_goto (t := 534) X dL_isCoast_595 (by decide) ?_
                                  refine b_sub (lv' := [(0, .ref (ad 0)), (1, .ref (ad 246)), (4, .int s1), (5, .int x72)]) [2, 3, 1, 0] rfl ?_
                                  exact T534 s1 x72 h
                                have B589 : ∀ (v5 : Int32), w_L_isCoast_589 Y534 v5 μ Q → WB sF l D C ad rm_L_isCoast K 8 μ 589 [(0, .ref (ad 0)), (1, .ref (ad 246)), (5, .int v5)] [] := by
                                  intro v5 h
                                  unfold w_L_isCoast_589 at h
                                  refine b_iconst (v := (nI 0)) X dL_isCoast_589 (by decide) ?_
                                  refine b_sub (lv' := [(0, .ref (ad 0)), (1, .ref (ad 246)), (5, .int v5)]) [0, 1, 2] rfl ?_
                                  exact B590 v5 (nI 0) h
                                refine b_iload X dL_isCoast_534 3 rfl ?_
                                refine b_aload_n X dL_isCoast_536 rfl 1 rfl ?_
                                refine b_iconst (v := (nI 2)) X dL_isCoast_537 (by decide) ?_
                                have hz := h.1
                                replace h := h.2
                                refine b_iald X kF_246 nF_246 hz dL_isCoast_538 ?_
                                clear hz
                                refine b_icmp_ge (t := 598) X dL_isCoast_539 (by decide) (fun c => ?_) (fun c => ?_)
                                · replace h := h.1 c
                                  refine b_iload X dL_isCoast_598 2 rfl ?_
                                  exact hret _ _ _ _ ⟨h.1, rfl, h.2⟩ dL_isCoast_600
                                · replace h := h.2 c
                                  refine b_iload X dL_isCoast_542 2 rfl ?_
                                  refine b_if_eq (t := 598) X dL_isCoast_544 (by decide) (fun c => ?_) (fun c => ?_)
                                  · replace h := h.1 c
                                    refine b_iload X dL_isCoast_598 2 rfl ?_
                                    exact hret _ _ _ _ ⟨h.1, rfl, h.2⟩ dL_isCoast_600
                                  · replace h := h.2 c
                                    refine b_aload_n X dL_isCoast_547 rfl 0 rfl ?_
                                    refine b_iload X dL_isCoast_548 3 rfl ?_
                                    refine b_iconst (v := (nI 0)) X dL_isCoast_550 (by decide) ?_
                                    refine bVi (st := []) (nA := 2) X (c_X6_fog l D C ad v5 (nI 0) μ _ h) kF_0 (by decide) (enc_6 kF_0) rfl gw_L_79 ⟨rfl, hd_X6_fog⟩ ⟨Nat.zero_le _, Nat.zero_le _⟩ rfl rfl ⟨Nat.le_of_ble_eq_true rfl, Nat.le_of_ble_eq_true rfl⟩ rfl rfl (Nat.le_of_ble_eq_true rfl) dL_isCoast_551 (fun r68 μ69 h => ?_)
                                    obtain ⟨rfl, h⟩ := h
                                    refine b_aload_n X dL_isCoast_554 rfl 1 rfl ?_
                                    refine b_bipush (v := (nI 29)) X dL_isCoast_555 (by decide) ?_
                                    refine b_iconst (v := (nI 2)) X dL_isCoast_557 (by decide) ?_
                                    refine b_iload X dL_isCoast_558 3 rfl ?_
                                    refine b_imul X dL_isCoast_560 ?_
                                    refine b_iadd X dL_isCoast_561 ?_
                                    have hz := h.1
                                    replace h := h.2
                                    refine b_iald X kF_246 nF_246 hz dL_isCoast_562 ?_
                                    clear hz
                                    refine b_icmp_ne (t := 589) X dL_isCoast_563 (by decide) (fun c => ?_) (fun c => ?_)
                                    · replace h := h.1 c
                                      refine b_sub (lv' := [(0, .ref (ad 0)), (1, .ref (ad 246)), (5, .int v5)]) [0, 1, 3] rfl ?_
                                      exact B589 v5 h
                                    · replace h := h.2 c
                                      refine b_aload_n X dL_isCoast_566 rfl 0 rfl ?_
                                      refine b_iload X dL_isCoast_567 3 rfl ?_
                                      refine b_iconst (v := (nI 1)) X dL_isCoast_569 (by decide) ?_
                                      refine bVi (st := []) (nA := 2) X (c_X6_fog l D C ad v5 (nI 1) μ _ h) kF_0 (by decide) (enc_6 kF_0) rfl gw_L_79 ⟨rfl, hd_X6_fog⟩ ⟨Nat.zero_le _, Nat.zero_le _⟩ rfl rfl ⟨Nat.le_of_ble_eq_true rfl, Nat.le_of_ble_eq_true rfl⟩ rfl rfl (Nat.le_of_ble_eq_true rfl) dL_isCoast_570 (fun r70 μ71 h => ?_)
                                      obtain ⟨rfl, h⟩ := h
                                      refine b_aload_n X dL_isCoast_573 rfl 1 rfl ?_
                                      refine b_bipush (v := (nI 30)) X dL_isCoast_574 (by decide) ?_
                                      refine b_iconst (v := (nI 2)) X dL_isCoast_576 (by decide) ?_
                                      refine b_iload X dL_isCoast_577 3 rfl ?_
                                      refine b_imul X dL_isCoast_579 ?_
                                      refine b_iadd X dL_isCoast_580 ?_
                                      have hz := h.1
                                      replace h := h.2
                                      refine b_iald X kF_246 nF_246 hz dL_isCoast_581 ?_
                                      clear hz
                                      refine b_icmp_ne (t := 589) X dL_isCoast_582 (by decide) (fun c => ?_) (fun c => ?_)
                                      · replace h := h.1 c
                                        refine b_sub (lv' := [(0, .ref (ad 0)), (1, .ref (ad 246)), (5, .int v5)]) [0, 1, 3] rfl ?_
                                        exact B589 v5 h
                                      · replace h := h.2 c
                                        refine b_iconst (v := (nI 1)) X dL_isCoast_585 (by decide) ?_
                                        refine b_goto (t := 590) X dL_isCoast_586 (by decide) ?_
                                        refine b_sub (lv' := [(0, .ref (ad 0)), (1, .ref (ad 246)), (5, .int v5)]) [0, 1, 3] rfl ?_
                                        exact B590 v5 (nI 1) h
                              rw [eY] at B534
                              exact B534
                            refine b_iconst (v := (nI 0)) X dL_isCoast_531 (by decide) ?_
                            refine b_istore (lv' := [(5, .int (nI 0)), (0, .ref (ad 0)), (1, .ref (ad 246)), (4, .int v4)]) X dL_isCoast_532 (by decide) rfl ?_
                            refine b_sub (lv' := [(0, .ref (ad 0)), (1, .ref (ad 246)), (4, .int v4), (5, .int (nI 0))]) [1, 2, 3, 0] rfl ?_
                            exact B534 v4 (nI 0) h
                          have B523 : ∀ (v5 : Int32) (s1 : Int32), w_L_isCoast_523 Y471 v5 s1 μ Q → WB sF l D C ad rm_L_isCoast K 8 μ 523 [(0, .ref (ad 0)), (1, .ref (ad 246)), (5, .int v5)] [.int s1] := by
                            intro v5 s1 h
                            unfold w_L_isCoast_523 at h
                            refine b_istore (lv' := [(4, .int s1), (0, .ref (ad 0)), (1, .ref (ad 246)), (5, .int v5)]) X dL_isCoast_523 (by decide) rfl ?_
                            obtain ⟨x67, ex67⟩ : ∃ y : Int32, y = v5 + (nI 1) := ⟨_, rfl⟩
                            replace h := h x67 ex67
                            refine b_iinc (x := x67) (lv' := [(5, .int x67), (4, .int s1), (0, .ref (ad 0)), (1, .ref (ad 246))]) (q := 3) X dL_isCoast_525 rfl (by rw [ex67]; rfl) (by decide) rfl ?_
                            refine b_goto (t := 471) X dL_isCoast_528 (by decide) ?_
                            refine b_sub (lv' := [(0, .ref (ad 0)), (1, .ref (ad 246)), (4, .int s1), (5, .int x67)]) [2, 3, 1, 0] rfl ?_
                            exact T471 s1 x67 h
                          have B522 : ∀ (v5 : Int32), w_L_isCoast_522 Y471 v5 μ Q → WB sF l D C ad rm_L_isCoast K 8 μ 522 [(0, .ref (ad 0)), (1, .ref (ad 246)), (5, .int v5)] [] := by
                            intro v5 h
                            unfold w_L_isCoast_522 at h
                            refine b_iconst (v := (nI 0)) X dL_isCoast_522 (by decide) ?_
                            refine b_sub (lv' := [(0, .ref (ad 0)), (1, .ref (ad 246)), (5, .int v5)]) [0, 1, 2] rfl ?_
                            exact B523 v5 (nI 0) h
                          refine b_iload X dL_isCoast_471 3 rfl ?_
                          refine b_aload_n X dL_isCoast_473 rfl 1 rfl ?_
                          refine b_iconst (v := (nI 4)) X dL_isCoast_474 (by decide) ?_
                          have hz := h.1
                          replace h := h.2
                          refine b_iald X kF_246 nF_246 hz dL_isCoast_475 ?_
                          clear hz
                          refine b_icmp_ge (t := 531) X dL_isCoast_476 (by decide) (fun c => ?_) (fun c => ?_)
                          · replace h := h.1 c
                            refine b_sub (lv' := [(0, .ref (ad 0)), (1, .ref (ad 246)), (4, .int v4)]) [0, 1, 2] rfl ?_
                            exact B531 v4 h
                          · replace h := h.2 c
                            refine b_iload X dL_isCoast_479 2 rfl ?_
                            refine b_if_eq (t := 531) X dL_isCoast_481 (by decide) (fun c => ?_) (fun c => ?_)
                            · replace h := h.1 c
                              refine b_sub (lv' := [(0, .ref (ad 0)), (1, .ref (ad 246)), (4, .int v4)]) [0, 1, 2] rfl ?_
                              exact B531 v4 h
                            · replace h := h.2 c
                              refine b_aload_n X dL_isCoast_484 rfl 0 rfl ?_
                              refine b_iload X dL_isCoast_485 3 rfl ?_
                              refine b_iconst (v := (nI 0)) X dL_isCoast_487 (by decide) ?_
                              refine bVi (st := []) (nA := 2) X (c_X6_goat l D C ad v5 (nI 0) μ _ h) kF_0 (by decide) (enc_6 kF_0) rfl gw_L_88 ⟨rfl, hd_X6_goat⟩ ⟨Nat.zero_le _, Nat.zero_le _⟩ rfl rfl ⟨Nat.le_of_ble_eq_true rfl, Nat.le_of_ble_eq_true rfl⟩ rfl rfl (Nat.le_of_ble_eq_true rfl) dL_isCoast_488 (fun r63 μ64 h => ?_)
                              obtain ⟨rfl, h⟩ := h
                              refine b_aload_n X dL_isCoast_491 rfl 1 rfl ?_
                              refine b_bipush (v := (nI 21)) X dL_isCoast_492 (by decide) ?_
                              refine b_iload X dL_isCoast_494 3 rfl ?_
                              refine b_iadd X dL_isCoast_496 ?_
                              have hz := h.1
                              replace h := h.2
                              refine b_iald X kF_246 nF_246 hz dL_isCoast_497 ?_
                              clear hz
                              refine b_icmp_ne (t := 522) X dL_isCoast_498 (by decide) (fun c => ?_) (fun c => ?_)
                              · replace h := h.1 c
                                refine b_sub (lv' := [(0, .ref (ad 0)), (1, .ref (ad 246)), (5, .int v5)]) [0, 1, 3] rfl ?_
                                exact B522 v5 h
                              · replace h := h.2 c
                                refine b_aload_n X dL_isCoast_501 rfl 0 rfl ?_
                                refine b_iload X dL_isCoast_502 3 rfl ?_
                                refine b_iconst (v := (nI 1)) X dL_isCoast_504 (by decide) ?_
                                refine bVi (st := []) (nA := 2) X (c_X6_goat l D C ad v5 (nI 1) μ _ h) kF_0 (by decide) (enc_6 kF_0) rfl gw_L_88 ⟨rfl, hd_X6_goat⟩ ⟨Nat.zero_le _, Nat.zero_le _⟩ rfl rfl ⟨Nat.le_of_ble_eq_true rfl, Nat.le_of_ble_eq_true rfl⟩ rfl rfl (Nat.le_of_ble_eq_true rfl) dL_isCoast_505 (fun r65 μ66 h => ?_)
                                obtain ⟨rfl, h⟩ := h
                                refine b_aload_n X dL_isCoast_508 rfl 1 rfl ?_
                                refine b_bipush (v := (nI 25)) X dL_isCoast_509 (by decide) ?_
                                refine b_iload X dL_isCoast_511 3 rfl ?_
                                refine b_iadd X dL_isCoast_513 ?_
                                have hz := h.1
                                replace h := h.2
                                refine b_iald X kF_246 nF_246 hz dL_isCoast_514 ?_
                                clear hz
                                refine b_icmp_ne (t := 522) X dL_isCoast_515 (by decide) (fun c => ?_) (fun c => ?_)
                                · replace h := h.1 c
                                  refine b_sub (lv' := [(0, .ref (ad 0)), (1, .ref (ad 246)), (5, .int v5)]) [0, 1, 3] rfl ?_
                                  exact B522 v5 h
                                · replace h := h.2 c
                                  refine b_iconst (v := (nI 1)) X dL_isCoast_518 (by decide) ?_
                                  refine b_goto (t := 523) X dL_isCoast_519 (by decide) ?_
                                  refine b_sub (lv' := [(0, .ref (ad 0)), (1, .ref (ad 246)), (5, .int v5)]) [0, 1, 3] rfl ?_
                                  exact B523 v5 (nI 1) h
                        rw [eY] at B471
                        exact B471
                      refine b_iconst (v := (nI 0)) X dL_isCoast_468 (by decide) ?_
                      refine b_istore (lv' := [(5, .int (nI 0)), (0, .ref (ad 0)), (1, .ref (ad 246)), (4, .int v4)]) X dL_isCoast_469 (by decide) rfl ?_
                      refine b_sub (lv' := [(0, .ref (ad 0)), (1, .ref (ad 246)), (4, .int v4), (5, .int (nI 0))]) [1, 2, 3, 0] rfl ?_
                      exact B471 v4 (nI 0) h
                    have B338 : ∀ (v5 : Int32) (v6 : Int32) (v7 : Int32), w_L_isCoast_338 Y321 v5 v6 v7 μ Q → WB sF l D C ad rm_L_isCoast K 8 μ 338 [(0, .ref (ad 0)), (1, .ref (ad 246)), (2, .ref (ad 247)), (5, .int v5), (6, .int v6), (7, .int v7)] [] := by
                      intro v5 v6 v7 h
                      obtain ⟨Y338, eY⟩ : ∃ Y : Int32 → Int32 → Prop, Y = fun (v6 : Int32) (v7 : Int32) => WB sF l D C ad rm_L_isCoast K 8 μ 338 [(0, .ref (ad 0)), (1, .ref (ad 246)), (2, .ref (ad 247)), (5, .int v5), (6, .int v6), (7, .int v7)] [] := ⟨_, rfl⟩
                      have B338 : Y338 v6 v7 := by
                        unfold w_L_isCoast_338 at h
                        refine h Y338 ?_
                        clear h
                        intro v6 v7 h
                        unfold s_L_isCoast_338 at h
                        rw [eY]
                        show WB sF l D C ad rm_L_isCoast K 8 μ 338 [(0, .ref (ad 0)), (1, .ref (ad 246)), (2, .ref (ad 247)), (5, .int v5), (6, .int v6), (7, .int v7)] []
                        have T338 : ∀ (v6 : Int32) (v7 : Int32), Y338 v6 v7 → WB sF l D C ad rm_L_isCoast K 8 μ 338 [(0, .ref (ad 0)), (1, .ref (ad 246)), (2, .ref (ad 247)), (5, .int v5), (6, .int v6), (7, .int v7)] [] := by
                          intro v6 v7 h
                          rw [eY] at h
                          exact h
                        clear eY
                        have B377 : ∀ (v5 : Int32) (v6 : Int32), w_L_isCoast_377 Y321 v5 v6 μ Q → WB sF l D C ad rm_L_isCoast K 8 μ 377 [(0, .ref (ad 0)), (1, .ref (ad 246)), (2, .ref (ad 247)), (5, .int v5), (6, .int v6)] [] := by
                          intro v5 v6 h
                          unfold w_L_isCoast_377 at h
                          have B460 : ∀ (v5 : Int32) (s1 : Int32), w_L_isCoast_460 Y321 v5 s1 μ Q → WB sF l D C ad rm_L_isCoast K 8 μ 460 [(0, .ref (ad 0)), (1, .ref (ad 246)), (2, .ref (ad 247)), (5, .int v5)] [.int s1] := by
                            intro v5 s1 h
                            unfold w_L_isCoast_460 at h
                            refine b_istore (lv' := [(4, .int s1), (0, .ref (ad 0)), (1, .ref (ad 246)), (2, .ref (ad 247)), (5, .int v5)]) X dL_isCoast_460 (by decide) rfl ?_
                            obtain ⟨x62, ex62⟩ : ∃ y : Int32, y = v5 + (nI 1) := ⟨_, rfl⟩
                            replace h := h x62 ex62
                            refine b_iinc (x := x62) (lv' := [(5, .int x62), (4, .int s1), (0, .ref (ad 0)), (1, .ref (ad 246)), (2, .ref (ad 247))]) (q := 4) X dL_isCoast_462 rfl (by rw [ex62]; rfl) (by decide) rfl ?_
                            refine b_goto (t := 321) X dL_isCoast_465 (by decide) ?_
                            refine b_sub (lv' := [(0, .ref (ad 0)), (1, .ref (ad 246)), (2, .ref (ad 247)), (4, .int s1), (5, .int x62)]) [2, 3, 4, 1, 0] rfl ?_
                            exact T321 s1 x62 h
                          have B459 : ∀ (v5 : Int32), w_L_isCoast_459 Y321 v5 μ Q → WB sF l D C ad rm_L_isCoast K 8 μ 459 [(0, .ref (ad 0)), (1, .ref (ad 246)), (2, .ref (ad 247)), (5, .int v5)] [] := by
                            intro v5 h
                            unfold w_L_isCoast_459 at h
                            refine b_iconst (v := (nI 0)) X dL_isCoast_459 (by decide) ?_
                            refine b_sub (lv' := [(0, .ref (ad 0)), (1, .ref (ad 246)), (2, .ref (ad 247)), (5, .int v5)]) [0, 1, 2, 3] rfl ?_
                            exact B460 v5 (nI 0) h
                          refine b_aload_n X dL_isCoast_377 rfl 0 rfl ?_
                          refine b_iload X dL_isCoast_378 3 rfl ?_
                          refine b_iconst (v := (nI 0)) X dL_isCoast_380 (by decide) ?_
                          refine bVi (st := []) (nA := 2) X (c_X6_village l D C ad v5 (nI 0) μ _ h) kF_0 (by decide) (enc_6 kF_0) rfl gw_L_85 ⟨rfl, hd_X6_village⟩ ⟨Nat.zero_le _, Nat.zero_le _⟩ rfl rfl ⟨Nat.le_of_ble_eq_true rfl, Nat.le_of_ble_eq_true rfl⟩ rfl rfl (Nat.le_of_ble_eq_true rfl) dL_isCoast_381 (fun r52 μ53 h => ?_)
                          obtain ⟨rfl, h⟩ := h
                          refine b_aload_n X dL_isCoast_384 rfl 1 rfl ?_
                          refine b_iconst (v := (nI 5)) X dL_isCoast_385 (by decide) ?_
                          refine b_iload X dL_isCoast_386 3 rfl ?_
                          refine b_iadd X dL_isCoast_388 ?_
                          have hz := h.1
                          replace h := h.2
                          refine b_iald X kF_246 nF_246 hz dL_isCoast_389 ?_
                          clear hz
                          refine b_icmp_ne (t := 459) X dL_isCoast_390 (by decide) (fun c => ?_) (fun c => ?_)
                          · replace h := h.1 c
                            refine b_sub (lv' := [(0, .ref (ad 0)), (1, .ref (ad 246)), (2, .ref (ad 247)), (5, .int v5)]) [0, 1, 2, 3] rfl ?_
                            exact B459 v5 h
                          · replace h := h.2 c
                            refine b_aload_n X dL_isCoast_393 rfl 0 rfl ?_
                            refine b_iload X dL_isCoast_394 3 rfl ?_
                            refine b_iconst (v := (nI 1)) X dL_isCoast_396 (by decide) ?_
                            refine bVi (st := []) (nA := 2) X (c_X6_village l D C ad v5 (nI 1) μ _ h) kF_0 (by decide) (enc_6 kF_0) rfl gw_L_85 ⟨rfl, hd_X6_village⟩ ⟨Nat.zero_le _, Nat.zero_le _⟩ rfl rfl ⟨Nat.le_of_ble_eq_true rfl, Nat.le_of_ble_eq_true rfl⟩ rfl rfl (Nat.le_of_ble_eq_true rfl) dL_isCoast_397 (fun r54 μ55 h => ?_)
                            obtain ⟨rfl, h⟩ := h
                            refine b_aload_n X dL_isCoast_400 rfl 1 rfl ?_
                            refine b_bipush (v := (nI 7)) X dL_isCoast_401 (by decide) ?_
                            refine b_iload X dL_isCoast_403 3 rfl ?_
                            refine b_iadd X dL_isCoast_405 ?_
                            have hz := h.1
                            replace h := h.2
                            refine b_iald X kF_246 nF_246 hz dL_isCoast_406 ?_
                            clear hz
                            refine b_icmp_ne (t := 459) X dL_isCoast_407 (by decide) (fun c => ?_) (fun c => ?_)
                            · replace h := h.1 c
                              refine b_sub (lv' := [(0, .ref (ad 0)), (1, .ref (ad 246)), (2, .ref (ad 247)), (5, .int v5)]) [0, 1, 2, 3] rfl ?_
                              exact B459 v5 h
                            · replace h := h.2 c
                              refine b_aload_n X dL_isCoast_410 rfl 0 rfl ?_
                              refine b_iload X dL_isCoast_411 3 rfl ?_
                              refine b_iconst (v := (nI 2)) X dL_isCoast_413 (by decide) ?_
                              refine bVi (st := []) (nA := 2) X (c_X6_village l D C ad v5 (nI 2) μ _ h) kF_0 (by decide) (enc_6 kF_0) rfl gw_L_85 ⟨rfl, hd_X6_village⟩ ⟨Nat.zero_le _, Nat.zero_le _⟩ rfl rfl ⟨Nat.le_of_ble_eq_true rfl, Nat.le_of_ble_eq_true rfl⟩ rfl rfl (Nat.le_of_ble_eq_true rfl) dL_isCoast_414 (fun r56 μ57 h => ?_)
                              obtain ⟨rfl, h⟩ := h
                              refine b_aload_n X dL_isCoast_417 rfl 2 rfl ?_
                              refine b_iconst (v := (nI 5)) X dL_isCoast_418 (by decide) ?_
                              refine b_iload X dL_isCoast_419 3 rfl ?_
                              refine b_iadd X dL_isCoast_421 ?_
                              have hz := h.1
                              replace h := h.2
                              refine b_iald X kF_247 nF_247 hz dL_isCoast_422 ?_
                              clear hz
                              refine b_icmp_ne (t := 459) X dL_isCoast_423 (by decide) (fun c => ?_) (fun c => ?_)
                              · replace h := h.1 c
                                refine b_sub (lv' := [(0, .ref (ad 0)), (1, .ref (ad 246)), (2, .ref (ad 247)), (5, .int v5)]) [0, 1, 2, 3] rfl ?_
                                exact B459 v5 h
                              · replace h := h.2 c
                                refine b_aload_n X dL_isCoast_426 rfl 0 rfl ?_
                                refine b_iload X dL_isCoast_427 3 rfl ?_
                                refine b_iconst (v := (nI 3)) X dL_isCoast_429 (by decide) ?_
                                refine bVi (st := []) (nA := 2) X (c_X6_village l D C ad v5 (nI 3) μ _ h) kF_0 (by decide) (enc_6 kF_0) rfl gw_L_85 ⟨rfl, hd_X6_village⟩ ⟨Nat.zero_le _, Nat.zero_le _⟩ rfl rfl ⟨Nat.le_of_ble_eq_true rfl, Nat.le_of_ble_eq_true rfl⟩ rfl rfl (Nat.le_of_ble_eq_true rfl) dL_isCoast_430 (fun r58 μ59 h => ?_)
                                obtain ⟨rfl, h⟩ := h
                                refine b_aload_n X dL_isCoast_433 rfl 2 rfl ?_
                                refine b_bipush (v := (nI 7)) X dL_isCoast_434 (by decide) ?_
                                refine b_iload X dL_isCoast_436 3 rfl ?_
                                refine b_iadd X dL_isCoast_438 ?_
                                have hz := h.1
                                replace h := h.2
                                refine b_iald X kF_247 nF_247 hz dL_isCoast_439 ?_
                                clear hz
                                refine b_icmp_ne (t := 459) X dL_isCoast_440 (by decide) (fun c => ?_) (fun c => ?_)
                                · replace h := h.1 c
                                  refine b_sub (lv' := [(0, .ref (ad 0)), (1, .ref (ad 246)), (2, .ref (ad 247)), (5, .int v5)]) [0, 1, 2, 3] rfl ?_
                                  exact B459 v5 h
                                · replace h := h.2 c
                                  refine b_aload_n X dL_isCoast_443 rfl 0 rfl ?_
                                  refine b_iload X dL_isCoast_444 3 rfl ?_
                                  refine b_iconst (v := (nI 4)) X dL_isCoast_446 (by decide) ?_
                                  refine bVi (st := []) (nA := 2) X (c_X6_village l D C ad v5 (nI 4) μ _ h) kF_0 (by decide) (enc_6 kF_0) rfl gw_L_85 ⟨rfl, hd_X6_village⟩ ⟨Nat.zero_le _, Nat.zero_le _⟩ rfl rfl ⟨Nat.le_of_ble_eq_true rfl, Nat.le_of_ble_eq_true rfl⟩ rfl rfl (Nat.le_of_ble_eq_true rfl) dL_isCoast_447 (fun r60 μ61 h => ?_)
                                  obtain ⟨rfl, h⟩ := h
                                  refine b_iload X dL_isCoast_450 4 rfl ?_
                                  refine b_icmp_ne (t := 459) X dL_isCoast_452 (by decide) (fun c => ?_) (fun c => ?_)
                                  · replace h := h.1 c
                                    refine b_sub (lv' := [(0, .ref (ad 0)), (1, .ref (ad 246)), (2, .ref (ad 247)), (5, .int v5)]) [0, 1, 2, 3] rfl ?_
                                    exact B459 v5 h
                                  · replace h := h.2 c
                                    refine b_iconst (v := (nI 1)) X dL_isCoast_455 (by decide) ?_
                                    refine b_goto (t := 460) X dL_isCoast_456 (by decide) ?_
                                    refine b_sub (lv' := [(0, .ref (ad 0)), (1, .ref (ad 246)), (2, .ref (ad 247)), (5, .int v5)]) [0, 1, 2, 3] rfl ?_
                                    exact B460 v5 (nI 1) h
                        have B368 : ∀ (v7 : Int32) (s2 : Int32) (s1 : Int32), w_L_isCoast_368 Y321 Y338 v5 v7 s2 s1 μ Q → WB sF l D C ad rm_L_isCoast K 8 μ 368 [(0, .ref (ad 0)), (1, .ref (ad 246)), (2, .ref (ad 247)), (5, .int v5), (7, .int v7)] [.int s2, .int s1] := by
                          intro v7 s2 s1 h
                          unfold w_L_isCoast_368 at h
                          refine b_ior X dL_isCoast_368 ?_
                          refine b_topi (fun x50 ex50 => ?_)
                          replace h := h x50 ex50
                          refine b_istore (lv' := [(6, .int x50), (0, .ref (ad 0)), (1, .ref (ad 246)), (2, .ref (ad 247)), (5, .int v5), (7, .int v7)]) X dL_isCoast_369 (by decide) rfl ?_
                          obtain ⟨x51, ex51⟩ : ∃ y : Int32, y = v7 + (nI 1) := ⟨_, rfl⟩
                          replace h := h x51 ex51
                          refine b_iinc (x := x51) (lv' := [(7, .int x51), (6, .int x50), (0, .ref (ad 0)), (1, .ref (ad 246)), (2, .ref (ad 247)), (5, .int v5)]) (q := 5) X dL_isCoast_371 rfl (by rw [ex51]; rfl) (by decide) rfl ?_
                          refine b_goto (t := 338) X dL_isCoast_374 (by decide) ?_
                          refine b_sub (lv' := [(0, .ref (ad 0)), (1, .ref (ad 246)), (2, .ref (ad 247)), (5, .int v5), (6, .int x50), (7, .int x51)]) [2, 3, 4, 5, 1, 0] rfl ?_
                          exact T338 x50 x51 h
                        refine b_iload X dL_isCoast_338 5 rfl ?_
                        refine b_aload_n X dL_isCoast_340 rfl 1 rfl ?_
                        refine b_iconst (v := (nI 3)) X dL_isCoast_341 (by decide) ?_
                        have hz := h.1
                        replace h := h.2
                        refine b_iald X kF_246 nF_246 hz dL_isCoast_342 ?_
                        clear hz
                        refine b_icmp_ge (t := 377) X dL_isCoast_343 (by decide) (fun c => ?_) (fun c => ?_)
                        · replace h := h.1 c
                          refine b_sub (lv' := [(0, .ref (ad 0)), (1, .ref (ad 246)), (2, .ref (ad 247)), (5, .int v5), (6, .int v6)]) [0, 1, 2, 3, 4] rfl ?_
                          exact B377 v5 v6 h
                        · replace h := h.2 c
                          refine b_iload X dL_isCoast_346 4 rfl ?_
                          refine b_aload_n X dL_isCoast_348 rfl 1 rfl ?_
                          refine b_bipush (v := (nI 15)) X dL_isCoast_349 (by decide) ?_
                          refine b_iload X dL_isCoast_351 5 rfl ?_
                          refine b_iadd X dL_isCoast_353 ?_
                          have hz := h.1
                          replace h := h.2
                          refine b_iald X kF_246 nF_246 hz dL_isCoast_354 ?_
                          clear hz
                          refine b_iload X dL_isCoast_355 3 rfl ?_
                          refine b_icmp_ne (t := 367) X dL_isCoast_357 (by decide) (fun c => ?_) (fun c => ?_)
                          · replace h := h.1 c
                            refine b_iconst (v := (nI 0)) X dL_isCoast_367 (by decide) ?_
                            refine b_sub (lv' := [(0, .ref (ad 0)), (1, .ref (ad 246)), (2, .ref (ad 247)), (5, .int v5), (7, .int v7)]) [0, 1, 2, 3, 5] rfl ?_
                            exact B368 v7 (nI 0) v6 h
                          · replace h := h.2 c
                            refine b_iconst (v := (nI 1)) X dL_isCoast_360 (by decide) ?_
                            refine b_iload X dL_isCoast_361 5 rfl ?_
                            refine b_ishl X dL_isCoast_363 ?_
                            refine b_goto (t := 368) X dL_isCoast_364 (by decide) ?_
                            refine b_sub (lv' := [(0, .ref (ad 0)), (1, .ref (ad 246)), (2, .ref (ad 247)), (5, .int v5), (7, .int v7)]) [0, 1, 2, 3, 5] rfl ?_
                            exact B368 v7 ((nI 1) <<< (v7 &&& 31)) v6 h
                      rw [eY] at B338
                      exact B338
                    refine b_iload X dL_isCoast_321 4 rfl ?_
                    refine b_iconst (v := (nI 2)) X dL_isCoast_323 (by decide) ?_
                    refine b_icmp_ge (t := 468) X dL_isCoast_324 (by decide) (fun c => ?_) (fun c => ?_)
                    · replace h := h.1 c
                      refine b_sub (lv' := [(0, .ref (ad 0)), (1, .ref (ad 246)), (4, .int v4)]) [0, 1, 3] rfl ?_
                      exact B468 v4 h
                    · replace h := h.2 c
                      refine b_iload X dL_isCoast_327 3 rfl ?_
                      refine b_if_eq (t := 468) X dL_isCoast_329 (by decide) (fun c => ?_) (fun c => ?_)
                      · replace h := h.1 c
                        refine b_sub (lv' := [(0, .ref (ad 0)), (1, .ref (ad 246)), (4, .int v4)]) [0, 1, 3] rfl ?_
                        exact B468 v4 h
                      · replace h := h.2 c
                        refine b_iconst (v := (nI 0)) X dL_isCoast_332 (by decide) ?_
                        refine b_istore (lv' := [(6, .int (nI 0)), (0, .ref (ad 0)), (1, .ref (ad 246)), (2, .ref (ad 247)), (4, .int v4), (5, .int v5)]) X dL_isCoast_333 (by decide) rfl ?_
                        refine b_iconst (v := (nI 0)) X dL_isCoast_335 (by decide) ?_
                        refine b_istore (lv' := [(7, .int (nI 0)), (6, .int (nI 0)), (0, .ref (ad 0)), (1, .ref (ad 246)), (2, .ref (ad 247)), (4, .int v4), (5, .int v5)]) X dL_isCoast_336 (by decide) rfl ?_
                        refine b_sub (lv' := [(0, .ref (ad 0)), (1, .ref (ad 246)), (2, .ref (ad 247)), (5, .int v5), (6, .int (nI 0)), (7, .int (nI 0))]) [2, 3, 4, 6, 1, 0] rfl ?_
                        exact B338 v5 (nI 0) (nI 0) h
                  rw [eY] at B321
                  exact B321
                refine b_iconst (v := (nI 0)) X dL_isCoast_318 (by decide) ?_
                refine b_istore (lv' := [(5, .int (nI 0)), (0, .ref (ad 0)), (1, .ref (ad 246)), (2, .ref (ad 247)), (4, .int v4)]) X dL_isCoast_319 (by decide) rfl ?_
                refine b_sub (lv' := [(0, .ref (ad 0)), (1, .ref (ad 246)), (2, .ref (ad 247)), (4, .int v4), (5, .int (nI 0))]) [1, 2, 3, 4, 0] rfl ?_
                exact B321 v4 (nI 0) h
              have B310 : ∀ (v5 : Int32) (s1 : Int32), w_L_isCoast_310 Y207 v5 s1 μ Q → WB sF l D C ad rm_L_isCoast K 8 μ 310 [(0, .ref (ad 0)), (1, .ref (ad 246)), (2, .ref (ad 247)), (5, .int v5)] [.int s1] := by
                intro v5 s1 h
                unfold w_L_isCoast_310 at h
                refine b_istore (lv' := [(4, .int s1), (0, .ref (ad 0)), (1, .ref (ad 246)), (2, .ref (ad 247)), (5, .int v5)]) X dL_isCoast_310 (by decide) rfl ?_
                obtain ⟨x49, ex49⟩ : ∃ y : Int32, y = v5 + (nI 1) := ⟨_, rfl⟩
                replace h := h x49 ex49
                refine b_iinc (x := x49) (lv' := [(5, .int x49), (4, .int s1), (0, .ref (ad 0)), (1, .ref (ad 246)), (2, .ref (ad 247))]) (q := 4) X dL_isCoast_312 rfl (by rw [ex49]; rfl) (by decide) rfl ?_
                refine b_goto (t := 207) X dL_isCoast_315 (by decide) ?_
                refine b_sub (lv' := [(0, .ref (ad 0)), (1, .ref (ad 246)), (2, .ref (ad 247)), (4, .int s1), (5, .int x49)]) [2, 3, 4, 1, 0] rfl ?_
                exact T207 s1 x49 h
              have B309 : ∀ (v5 : Int32), w_L_isCoast_309 Y207 v5 μ Q → WB sF l D C ad rm_L_isCoast K 8 μ 309 [(0, .ref (ad 0)), (1, .ref (ad 246)), (2, .ref (ad 247)), (5, .int v5)] [] := by
                intro v5 h
                unfold w_L_isCoast_309 at h
                refine b_iconst (v := (nI 0)) X dL_isCoast_309 (by decide) ?_
                refine b_sub (lv' := [(0, .ref (ad 0)), (1, .ref (ad 246)), (2, .ref (ad 247)), (5, .int v5)]) [0, 1, 2, 3] rfl ?_
                exact B310 v5 (nI 0) h
              refine b_iload X dL_isCoast_207 4 rfl ?_
              refine b_aload_n X dL_isCoast_209 rfl 1 rfl ?_
              refine b_iconst (v := (nI 3)) X dL_isCoast_210 (by decide) ?_
              have hz := h.1
              replace h := h.2
              refine b_iald X kF_246 nF_246 hz dL_isCoast_211 ?_
              clear hz
              refine b_icmp_ge (t := 318) X dL_isCoast_212 (by decide) (fun c => ?_) (fun c => ?_)
              · replace h := h.1 c
                refine b_sub (lv' := [(0, .ref (ad 0)), (1, .ref (ad 246)), (2, .ref (ad 247)), (4, .int v4)]) [0, 1, 2, 3] rfl ?_
                exact B318 v4 h
              · replace h := h.2 c
                refine b_iload X dL_isCoast_215 3 rfl ?_
                refine b_if_eq (t := 318) X dL_isCoast_217 (by decide) (fun c => ?_) (fun c => ?_)
                · replace h := h.1 c
                  refine b_sub (lv' := [(0, .ref (ad 0)), (1, .ref (ad 246)), (2, .ref (ad 247)), (4, .int v4)]) [0, 1, 2, 3] rfl ?_
                  exact B318 v4 h
                · replace h := h.2 c
                  refine b_aload_n X dL_isCoast_220 rfl 0 rfl ?_
                  refine b_iload X dL_isCoast_221 4 rfl ?_
                  refine b_iconst (v := (nI 0)) X dL_isCoast_223 (by decide) ?_
                  refine bVi (st := []) (nA := 2) X (c_X6_post l D C ad v5 (nI 0) μ _ h) kF_0 (by decide) (enc_6 kF_0) rfl gw_L_82 ⟨rfl, hd_X6_post⟩ ⟨Nat.zero_le _, Nat.zero_le _⟩ rfl rfl ⟨Nat.le_of_ble_eq_true rfl, Nat.le_of_ble_eq_true rfl⟩ rfl rfl (Nat.le_of_ble_eq_true rfl) dL_isCoast_224 (fun r39 μ40 h => ?_)
                  obtain ⟨rfl, h⟩ := h
                  refine b_aload_n X dL_isCoast_227 rfl 2 rfl ?_
                  refine b_bipush (v := (nI 15)) X dL_isCoast_228 (by decide) ?_
                  refine b_iload X dL_isCoast_230 4 rfl ?_
                  refine b_iadd X dL_isCoast_232 ?_
                  have hz := h.1
                  replace h := h.2
                  refine b_iald X kF_247 nF_247 hz dL_isCoast_233 ?_
                  clear hz
                  refine b_icmp_ne (t := 309) X dL_isCoast_234 (by decide) (fun c => ?_) (fun c => ?_)
                  · replace h := h.1 c
                    refine b_sub (lv' := [(0, .ref (ad 0)), (1, .ref (ad 246)), (2, .ref (ad 247)), (5, .int v5)]) [0, 1, 2, 4] rfl ?_
                    exact B309 v5 h
                  · replace h := h.2 c
                    refine b_aload_n X dL_isCoast_237 rfl 0 rfl ?_
                    refine b_iload X dL_isCoast_238 4 rfl ?_
                    refine b_iconst (v := (nI 1)) X dL_isCoast_240 (by decide) ?_
                    refine bVi (st := []) (nA := 2) X (c_X6_post l D C ad v5 (nI 1) μ _ h) kF_0 (by decide) (enc_6 kF_0) rfl gw_L_82 ⟨rfl, hd_X6_post⟩ ⟨Nat.zero_le _, Nat.zero_le _⟩ rfl rfl ⟨Nat.le_of_ble_eq_true rfl, Nat.le_of_ble_eq_true rfl⟩ rfl rfl (Nat.le_of_ble_eq_true rfl) dL_isCoast_241 (fun r41 μ42 h => ?_)
                    obtain ⟨rfl, h⟩ := h
                    refine b_aload_n X dL_isCoast_244 rfl 2 rfl ?_
                    refine b_bipush (v := (nI 21)) X dL_isCoast_245 (by decide) ?_
                    refine b_iload X dL_isCoast_247 4 rfl ?_
                    refine b_iadd X dL_isCoast_249 ?_
                    have hz := h.1
                    replace h := h.2
                    refine b_iald X kF_247 nF_247 hz dL_isCoast_250 ?_
                    clear hz
                    refine b_icmp_ne (t := 309) X dL_isCoast_251 (by decide) (fun c => ?_) (fun c => ?_)
                    · replace h := h.1 c
                      refine b_sub (lv' := [(0, .ref (ad 0)), (1, .ref (ad 246)), (2, .ref (ad 247)), (5, .int v5)]) [0, 1, 2, 4] rfl ?_
                      exact B309 v5 h
                    · replace h := h.2 c
                      refine b_aload_n X dL_isCoast_254 rfl 0 rfl ?_
                      refine b_iload X dL_isCoast_255 4 rfl ?_
                      refine b_iconst (v := (nI 2)) X dL_isCoast_257 (by decide) ?_
                      refine bVi (st := []) (nA := 2) X (c_X6_post l D C ad v5 (nI 2) μ _ h) kF_0 (by decide) (enc_6 kF_0) rfl gw_L_82 ⟨rfl, hd_X6_post⟩ ⟨Nat.zero_le _, Nat.zero_le _⟩ rfl rfl ⟨Nat.le_of_ble_eq_true rfl, Nat.le_of_ble_eq_true rfl⟩ rfl rfl (Nat.le_of_ble_eq_true rfl) dL_isCoast_258 (fun r43 μ44 h => ?_)
                      obtain ⟨rfl, h⟩ := h
                      refine b_aload_n X dL_isCoast_261 rfl 1 rfl ?_
                      refine b_bipush (v := (nI 9)) X dL_isCoast_262 (by decide) ?_
                      refine b_iload X dL_isCoast_264 4 rfl ?_
                      refine b_iadd X dL_isCoast_266 ?_
                      have hz := h.1
                      replace h := h.2
                      refine b_iald X kF_246 nF_246 hz dL_isCoast_267 ?_
                      clear hz
                      refine b_icmp_ne (t := 309) X dL_isCoast_268 (by decide) (fun c => ?_) (fun c => ?_)
                      · replace h := h.1 c
                        refine b_sub (lv' := [(0, .ref (ad 0)), (1, .ref (ad 246)), (2, .ref (ad 247)), (5, .int v5)]) [0, 1, 2, 4] rfl ?_
                        exact B309 v5 h
                      · replace h := h.2 c
                        refine b_aload_n X dL_isCoast_271 rfl 0 rfl ?_
                        refine b_iload X dL_isCoast_272 4 rfl ?_
                        refine b_iconst (v := (nI 3)) X dL_isCoast_274 (by decide) ?_
                        refine bVi (st := []) (nA := 2) X (c_X6_post l D C ad v5 (nI 3) μ _ h) kF_0 (by decide) (enc_6 kF_0) rfl gw_L_82 ⟨rfl, hd_X6_post⟩ ⟨Nat.zero_le _, Nat.zero_le _⟩ rfl rfl ⟨Nat.le_of_ble_eq_true rfl, Nat.le_of_ble_eq_true rfl⟩ rfl rfl (Nat.le_of_ble_eq_true rfl) dL_isCoast_275 (fun r45 μ46 h => ?_)
                        obtain ⟨rfl, h⟩ := h
                        refine b_aload_n X dL_isCoast_278 rfl 1 rfl ?_
                        refine b_bipush (v := (nI 15)) X dL_isCoast_279 (by decide) ?_
                        refine b_iload X dL_isCoast_281 4 rfl ?_
                        refine b_iadd X dL_isCoast_283 ?_
                        have hz := h.1
                        replace h := h.2
                        refine b_iald X kF_246 nF_246 hz dL_isCoast_284 ?_
                        clear hz
                        refine b_icmp_ne (t := 309) X dL_isCoast_285 (by decide) (fun c => ?_) (fun c => ?_)
                        · replace h := h.1 c
                          refine b_sub (lv' := [(0, .ref (ad 0)), (1, .ref (ad 246)), (2, .ref (ad 247)), (5, .int v5)]) [0, 1, 2, 4] rfl ?_
                          exact B309 v5 h
                        · replace h := h.2 c
                          refine b_aload_n X dL_isCoast_288 rfl 0 rfl ?_
                          refine b_iload X dL_isCoast_289 4 rfl ?_
                          refine b_iconst (v := (nI 4)) X dL_isCoast_291 (by decide) ?_
                          refine bVi (st := []) (nA := 2) X (c_X6_post l D C ad v5 (nI 4) μ _ h) kF_0 (by decide) (enc_6 kF_0) rfl gw_L_82 ⟨rfl, hd_X6_post⟩ ⟨Nat.zero_le _, Nat.zero_le _⟩ rfl rfl ⟨Nat.le_of_ble_eq_true rfl, Nat.le_of_ble_eq_true rfl⟩ rfl rfl (Nat.le_of_ble_eq_true rfl) dL_isCoast_292 (fun r47 μ48 h => ?_)
                          obtain ⟨rfl, h⟩ := h
                          refine b_aload_n X dL_isCoast_295 rfl 2 rfl ?_
                          refine b_bipush (v := (nI 9)) X dL_isCoast_296 (by decide) ?_
                          refine b_iload X dL_isCoast_298 4 rfl ?_
                          refine b_iadd X dL_isCoast_300 ?_
                          have hz := h.1
                          replace h := h.2
                          refine b_iald X kF_247 nF_247 hz dL_isCoast_301 ?_
                          clear hz
                          refine b_icmp_ne (t := 309) X dL_isCoast_302 (by decide) (fun c => ?_) (fun c => ?_)
                          · replace h := h.1 c
                            refine b_sub (lv' := [(0, .ref (ad 0)), (1, .ref (ad 246)), (2, .ref (ad 247)), (5, .int v5)]) [0, 1, 2, 4] rfl ?_
                            exact B309 v5 h
                          · replace h := h.2 c
                            refine b_iconst (v := (nI 1)) X dL_isCoast_305 (by decide) ?_
                            refine b_goto (t := 310) X dL_isCoast_306 (by decide) ?_
                            refine b_sub (lv' := [(0, .ref (ad 0)), (1, .ref (ad 246)), (2, .ref (ad 247)), (5, .int v5)]) [0, 1, 2, 4] rfl ?_
                            exact B310 v5 (nI 1) h
            rw [eY] at B207
            exact B207
          refine b_istore (lv' := [(4, .int s1), (0, .ref (ad 0)), (1, .ref (ad 246)), (2, .ref (ad 247))]) X dL_isCoast_202 (by decide) rfl ?_
          refine b_iconst (v := (nI 0)) X dL_isCoast_204 (by decide) ?_
          refine b_istore (lv' := [(5, .int (nI 0)), (4, .int s1), (0, .ref (ad 0)), (1, .ref (ad 246)), (2, .ref (ad 247))]) X dL_isCoast_205 (by decide) rfl ?_
          refine b_sub (lv' := [(0, .ref (ad 0)), (1, .ref (ad 246)), (2, .ref (ad 247)), (4, .int s1), (5, .int (nI 0))]) [2, 3, 4, 1, 0] rfl ?_
          exact B207 s1 (nI 0) h
        have B201 : w_L_isCoast_201 μ Q → WB sF l D C ad rm_L_isCoast K 8 μ 201 [(0, .ref (ad 0)), (1, .ref (ad 246)), (2, .ref (ad 247))] [] := by
          intro  h
          unfold w_L_isCoast_201 at h
          refine b_iconst (v := (nI 0)) X dL_isCoast_201 (by decide) ?_
          refine b_sub (lv' := [(0, .ref (ad 0)), (1, .ref (ad 246)), (2, .ref (ad 247))]) [0, 1, 2] rfl ?_
          exact B202 (nI 0) h
        refine b_aload_n X dL_isCoast_29 rfl 0 rfl ?_
        refine b_iconst (v := (nI 0)) X dL_isCoast_30 (by decide) ?_
        refine bVi (st := []) (nA := 1) X (c_X6_told l D C ad (nI 0) μ _ h) kF_0 (by decide) (enc_6 kF_0) rfl gw_L_28 ⟨rfl, hd_X6_told⟩ ⟨Nat.zero_le _, Nat.zero_le _⟩ rfl rfl ⟨Nat.le_of_ble_eq_true rfl, Nat.le_of_ble_eq_true rfl⟩ rfl rfl (Nat.le_of_ble_eq_true rfl) dL_isCoast_31 (fun r3 μ4 h => ?_)
        obtain ⟨rfl, h⟩ := h
        refine b_aload_n X dL_isCoast_34 rfl 1 rfl ?_
        refine b_iconst (v := (nI 0)) X dL_isCoast_35 (by decide) ?_
        have hz := h.1
        replace h := h.2
        refine b_iald X kF_246 nF_246 hz dL_isCoast_36 ?_
        clear hz
        refine b_icmp_ne (t := 201) X dL_isCoast_37 (by decide) (fun c => ?_) (fun c => ?_)
        · replace h := h.1 c
          refine b_sub (lv' := [(0, .ref (ad 0)), (1, .ref (ad 246)), (2, .ref (ad 247))]) [0, 1, 2] rfl ?_
          exact B201  h
        · replace h := h.2 c
          refine b_aload_n X dL_isCoast_40 rfl 0 rfl ?_
          refine b_iconst (v := (nI 1)) X dL_isCoast_41 (by decide) ?_
          refine bVi (st := []) (nA := 1) X (c_X6_told l D C ad (nI 1) μ _ h) kF_0 (by decide) (enc_6 kF_0) rfl gw_L_28 ⟨rfl, hd_X6_told⟩ ⟨Nat.zero_le _, Nat.zero_le _⟩ rfl rfl ⟨Nat.le_of_ble_eq_true rfl, Nat.le_of_ble_eq_true rfl⟩ rfl rfl (Nat.le_of_ble_eq_true rfl) dL_isCoast_42 (fun r5 μ6 h => ?_)
          obtain ⟨rfl, h⟩ := h
          refine b_aload_n X dL_isCoast_45 rfl 1 rfl ?_
          refine b_iconst (v := (nI 1)) X dL_isCoast_46 (by decide) ?_
          have hz := h.1
          replace h := h.2
          refine b_iald X kF_246 nF_246 hz dL_isCoast_47 ?_
          clear hz
          refine b_icmp_ne (t := 201) X dL_isCoast_48 (by decide) (fun c => ?_) (fun c => ?_)
          · replace h := h.1 c
            refine b_sub (lv' := [(0, .ref (ad 0)), (1, .ref (ad 246)), (2, .ref (ad 247))]) [0, 1, 2] rfl ?_
            exact B201  h
          · replace h := h.2 c
            refine b_aload_n X dL_isCoast_51 rfl 0 rfl ?_
            refine b_iconst (v := (nI 2)) X dL_isCoast_52 (by decide) ?_
            refine bVi (st := []) (nA := 1) X (c_X6_told l D C ad (nI 2) μ _ h) kF_0 (by decide) (enc_6 kF_0) rfl gw_L_28 ⟨rfl, hd_X6_told⟩ ⟨Nat.zero_le _, Nat.zero_le _⟩ rfl rfl ⟨Nat.le_of_ble_eq_true rfl, Nat.le_of_ble_eq_true rfl⟩ rfl rfl (Nat.le_of_ble_eq_true rfl) dL_isCoast_53 (fun r7 μ8 h => ?_)
            obtain ⟨rfl, h⟩ := h
            refine b_aload_n X dL_isCoast_56 rfl 1 rfl ?_
            refine bSi (st := [.int r7]) (nA := 1) X (c_L_dayLong l D C ad  μ _ h) gw_L_59 hd_L_dayLong ⟨Nat.zero_le _, Nat.zero_le _⟩ rfl rfl ⟨Nat.le_of_ble_eq_true rfl, Nat.le_of_ble_eq_true rfl⟩ rfl rfl (Nat.le_of_ble_eq_true rfl) dL_isCoast_57 (fun r9 μ10 h => ?_)
            obtain ⟨rfl, h⟩ := h
            refine b_icmp_ne (t := 201) X dL_isCoast_60 (by decide) (fun c => ?_) (fun c => ?_)
            · replace h := h.1 c
              refine b_sub (lv' := [(0, .ref (ad 0)), (1, .ref (ad 246)), (2, .ref (ad 247))]) [0, 1, 2] rfl ?_
              exact B201  h
            · replace h := h.2 c
              refine b_aload_n X dL_isCoast_63 rfl 0 rfl ?_
              refine b_iconst (v := (nI 3)) X dL_isCoast_64 (by decide) ?_
              refine bVi (st := []) (nA := 1) X (c_X6_told l D C ad (nI 3) μ _ h) kF_0 (by decide) (enc_6 kF_0) rfl gw_L_28 ⟨rfl, hd_X6_told⟩ ⟨Nat.zero_le _, Nat.zero_le _⟩ rfl rfl ⟨Nat.le_of_ble_eq_true rfl, Nat.le_of_ble_eq_true rfl⟩ rfl rfl (Nat.le_of_ble_eq_true rfl) dL_isCoast_65 (fun r11 μ12 h => ?_)
              obtain ⟨rfl, h⟩ := h
              refine b_aload_n X dL_isCoast_68 rfl 1 rfl ?_
              refine b_iconst (v := (nI 3)) X dL_isCoast_69 (by decide) ?_
              have hz := h.1
              replace h := h.2
              refine b_iald X kF_246 nF_246 hz dL_isCoast_70 ?_
              clear hz
              refine b_icmp_ne (t := 201) X dL_isCoast_71 (by decide) (fun c => ?_) (fun c => ?_)
              · replace h := h.1 c
                refine b_sub (lv' := [(0, .ref (ad 0)), (1, .ref (ad 246)), (2, .ref (ad 247))]) [0, 1, 2] rfl ?_
                exact B201  h
              · replace h := h.2 c
                refine b_aload_n X dL_isCoast_74 rfl 0 rfl ?_
                refine b_iconst (v := (nI 4)) X dL_isCoast_75 (by decide) ?_
                refine bVi (st := []) (nA := 1) X (c_X6_told l D C ad (nI 4) μ _ h) kF_0 (by decide) (enc_6 kF_0) rfl gw_L_28 ⟨rfl, hd_X6_told⟩ ⟨Nat.zero_le _, Nat.zero_le _⟩ rfl rfl ⟨Nat.le_of_ble_eq_true rfl, Nat.le_of_ble_eq_true rfl⟩ rfl rfl (Nat.le_of_ble_eq_true rfl) dL_isCoast_76 (fun r13 μ14 h => ?_)
                obtain ⟨rfl, h⟩ := h
                refine b_aload_n X dL_isCoast_79 rfl 1 rfl ?_
                refine b_iconst (v := (nI 4)) X dL_isCoast_80 (by decide) ?_
                have hz := h.1
                replace h := h.2
                refine b_iald X kF_246 nF_246 hz dL_isCoast_81 ?_
                clear hz
                refine b_icmp_ne (t := 201) X dL_isCoast_82 (by decide) (fun c => ?_) (fun c => ?_)
                · replace h := h.1 c
                  refine b_sub (lv' := [(0, .ref (ad 0)), (1, .ref (ad 246)), (2, .ref (ad 247))]) [0, 1, 2] rfl ?_
                  exact B201  h
                · replace h := h.2 c
                  refine b_aload_n X dL_isCoast_85 rfl 0 rfl ?_
                  refine b_bipush (v := (nI 6)) X dL_isCoast_86 (by decide) ?_
                  refine bVi (st := []) (nA := 1) X (c_X6_told l D C ad (nI 6) μ _ h) kF_0 (by decide) (enc_6 kF_0) rfl gw_L_28 ⟨rfl, hd_X6_told⟩ ⟨Nat.zero_le _, Nat.zero_le _⟩ rfl rfl ⟨Nat.le_of_ble_eq_true rfl, Nat.le_of_ble_eq_true rfl⟩ rfl rfl (Nat.le_of_ble_eq_true rfl) dL_isCoast_88 (fun r15 μ16 h => ?_)
                  obtain ⟨rfl, h⟩ := h
                  refine b_aload_n X dL_isCoast_91 rfl 2 rfl ?_
                  refine b_iconst (v := (nI 0)) X dL_isCoast_92 (by decide) ?_
                  have hz := h.1
                  replace h := h.2
                  refine b_iald X kF_247 nF_247 hz dL_isCoast_93 ?_
                  clear hz
                  refine b_icmp_ne (t := 201) X dL_isCoast_94 (by decide) (fun c => ?_) (fun c => ?_)
                  · replace h := h.1 c
                    refine b_sub (lv' := [(0, .ref (ad 0)), (1, .ref (ad 246)), (2, .ref (ad 247))]) [0, 1, 2] rfl ?_
                    exact B201  h
                  · replace h := h.2 c
                    refine b_aload_n X dL_isCoast_97 rfl 0 rfl ?_
                    refine b_bipush (v := (nI 7)) X dL_isCoast_98 (by decide) ?_
                    refine bVi (st := []) (nA := 1) X (c_X6_told l D C ad (nI 7) μ _ h) kF_0 (by decide) (enc_6 kF_0) rfl gw_L_28 ⟨rfl, hd_X6_told⟩ ⟨Nat.zero_le _, Nat.zero_le _⟩ rfl rfl ⟨Nat.le_of_ble_eq_true rfl, Nat.le_of_ble_eq_true rfl⟩ rfl rfl (Nat.le_of_ble_eq_true rfl) dL_isCoast_100 (fun r17 μ18 h => ?_)
                    obtain ⟨rfl, h⟩ := h
                    refine b_aload_n X dL_isCoast_103 rfl 2 rfl ?_
                    refine b_iconst (v := (nI 1)) X dL_isCoast_104 (by decide) ?_
                    have hz := h.1
                    replace h := h.2
                    refine b_iald X kF_247 nF_247 hz dL_isCoast_105 ?_
                    clear hz
                    refine b_icmp_ne (t := 201) X dL_isCoast_106 (by decide) (fun c => ?_) (fun c => ?_)
                    · replace h := h.1 c
                      refine b_sub (lv' := [(0, .ref (ad 0)), (1, .ref (ad 246)), (2, .ref (ad 247))]) [0, 1, 2] rfl ?_
                      exact B201  h
                    · replace h := h.2 c
                      refine b_aload_n X dL_isCoast_109 rfl 0 rfl ?_
                      refine b_bipush (v := (nI 8)) X dL_isCoast_110 (by decide) ?_
                      refine bVi (st := []) (nA := 1) X (c_X6_told l D C ad (nI 8) μ _ h) kF_0 (by decide) (enc_6 kF_0) rfl gw_L_28 ⟨rfl, hd_X6_told⟩ ⟨Nat.zero_le _, Nat.zero_le _⟩ rfl rfl ⟨Nat.le_of_ble_eq_true rfl, Nat.le_of_ble_eq_true rfl⟩ rfl rfl (Nat.le_of_ble_eq_true rfl) dL_isCoast_112 (fun r19 μ20 h => ?_)
                      obtain ⟨rfl, h⟩ := h
                      refine b_aload_n X dL_isCoast_115 rfl 2 rfl ?_
                      refine b_iconst (v := (nI 2)) X dL_isCoast_116 (by decide) ?_
                      have hz := h.1
                      replace h := h.2
                      refine b_iald X kF_247 nF_247 hz dL_isCoast_117 ?_
                      clear hz
                      refine b_icmp_ne (t := 201) X dL_isCoast_118 (by decide) (fun c => ?_) (fun c => ?_)
                      · replace h := h.1 c
                        refine b_sub (lv' := [(0, .ref (ad 0)), (1, .ref (ad 246)), (2, .ref (ad 247))]) [0, 1, 2] rfl ?_
                        exact B201  h
                      · replace h := h.2 c
                        refine b_aload_n X dL_isCoast_121 rfl 0 rfl ?_
                        refine b_bipush (v := (nI 9)) X dL_isCoast_122 (by decide) ?_
                        refine bVi (st := []) (nA := 1) X (c_X6_told l D C ad (nI 9) μ _ h) kF_0 (by decide) (enc_6 kF_0) rfl gw_L_28 ⟨rfl, hd_X6_told⟩ ⟨Nat.zero_le _, Nat.zero_le _⟩ rfl rfl ⟨Nat.le_of_ble_eq_true rfl, Nat.le_of_ble_eq_true rfl⟩ rfl rfl (Nat.le_of_ble_eq_true rfl) dL_isCoast_124 (fun r21 μ22 h => ?_)
                        obtain ⟨rfl, h⟩ := h
                        refine b_aload_n X dL_isCoast_127 rfl 1 rfl ?_
                        refine b_aload_n X dL_isCoast_128 rfl 2 rfl ?_
                        refine bSi (st := [.int r21]) (nA := 2) X (c_L_hang l D C ad  μ _ h) gw_L_48 hd_L_hang ⟨Nat.zero_le _, Nat.zero_le _⟩ rfl rfl ⟨Nat.le_of_ble_eq_true rfl, Nat.le_of_ble_eq_true rfl⟩ rfl rfl (Nat.le_of_ble_eq_true rfl) dL_isCoast_129 (fun r23 μ24 h => ?_)
                        obtain ⟨rfl, h⟩ := h
                        refine b_icmp_ne (t := 201) X dL_isCoast_132 (by decide) (fun c => ?_) (fun c => ?_)
                        · replace h := h.1 c
                          refine b_sub (lv' := [(0, .ref (ad 0)), (1, .ref (ad 246)), (2, .ref (ad 247))]) [0, 1, 2] rfl ?_
                          exact B201  h
                        · replace h := h.2 c
                          refine b_aload_n X dL_isCoast_135 rfl 0 rfl ?_
                          refine b_bipush (v := (nI 10)) X dL_isCoast_136 (by decide) ?_
                          refine bVi (st := []) (nA := 1) X (c_X6_told l D C ad (nI 10) μ _ h) kF_0 (by decide) (enc_6 kF_0) rfl gw_L_28 ⟨rfl, hd_X6_told⟩ ⟨Nat.zero_le _, Nat.zero_le _⟩ rfl rfl ⟨Nat.le_of_ble_eq_true rfl, Nat.le_of_ble_eq_true rfl⟩ rfl rfl (Nat.le_of_ble_eq_true rfl) dL_isCoast_138 (fun r25 μ26 h => ?_)
                          obtain ⟨rfl, h⟩ := h
                          refine b_iload_n X dL_isCoast_141 rfl 3 rfl ?_
                          refine b_icmp_ne (t := 201) X dL_isCoast_142 (by decide) (fun c => ?_) (fun c => ?_)
                          · replace h := h.1 c
                            refine b_sub (lv' := [(0, .ref (ad 0)), (1, .ref (ad 246)), (2, .ref (ad 247))]) [0, 1, 2] rfl ?_
                            exact B201  h
                          · replace h := h.2 c
                            refine b_aload_n X dL_isCoast_145 rfl 0 rfl ?_
                            refine b_bipush (v := (nI 11)) X dL_isCoast_146 (by decide) ?_
                            refine bVi (st := []) (nA := 1) X (c_X6_told l D C ad (nI 11) μ _ h) kF_0 (by decide) (enc_6 kF_0) rfl gw_L_28 ⟨rfl, hd_X6_told⟩ ⟨Nat.zero_le _, Nat.zero_le _⟩ rfl rfl ⟨Nat.le_of_ble_eq_true rfl, Nat.le_of_ble_eq_true rfl⟩ rfl rfl (Nat.le_of_ble_eq_true rfl) dL_isCoast_148 (fun r27 μ28 h => ?_)
                            obtain ⟨rfl, h⟩ := h
                            refine b_aload_n X dL_isCoast_151 rfl 2 rfl ?_
                            refine b_iconst (v := (nI 3)) X dL_isCoast_152 (by decide) ?_
                            have hz := h.1
                            replace h := h.2
                            refine b_iald X kF_247 nF_247 hz dL_isCoast_153 ?_
                            clear hz
                            refine b_icmp_ne (t := 201) X dL_isCoast_154 (by decide) (fun c => ?_) (fun c => ?_)
                            · replace h := h.1 c
                              refine b_sub (lv' := [(0, .ref (ad 0)), (1, .ref (ad 246)), (2, .ref (ad 247))]) [0, 1, 2] rfl ?_
                              exact B201  h
                            · replace h := h.2 c
                              refine b_aload_n X dL_isCoast_157 rfl 0 rfl ?_
                              refine b_bipush (v := (nI 12)) X dL_isCoast_158 (by decide) ?_
                              refine bVi (st := []) (nA := 1) X (c_X6_told l D C ad (nI 12) μ _ h) kF_0 (by decide) (enc_6 kF_0) rfl gw_L_28 ⟨rfl, hd_X6_told⟩ ⟨Nat.zero_le _, Nat.zero_le _⟩ rfl rfl ⟨Nat.le_of_ble_eq_true rfl, Nat.le_of_ble_eq_true rfl⟩ rfl rfl (Nat.le_of_ble_eq_true rfl) dL_isCoast_160 (fun r29 μ30 h => ?_)
                              obtain ⟨rfl, h⟩ := h
                              refine b_aload_n X dL_isCoast_163 rfl 2 rfl ?_
                              refine b_iconst (v := (nI 4)) X dL_isCoast_164 (by decide) ?_
                              have hz := h.1
                              replace h := h.2
                              refine b_iald X kF_247 nF_247 hz dL_isCoast_165 ?_
                              clear hz
                              refine b_icmp_ne (t := 201) X dL_isCoast_166 (by decide) (fun c => ?_) (fun c => ?_)
                              · replace h := h.1 c
                                refine b_sub (lv' := [(0, .ref (ad 0)), (1, .ref (ad 246)), (2, .ref (ad 247))]) [0, 1, 2] rfl ?_
                                exact B201  h
                              · replace h := h.2 c
                                refine b_aload_n X dL_isCoast_169 rfl 0 rfl ?_
                                refine b_iconst (v := ((-1) : Int32)) X dL_isCoast_170 (by decide) ?_
                                refine b_iconst (v := (nI 0)) X dL_isCoast_171 (by decide) ?_
                                refine bVi (st := []) (nA := 2) X (c_X6_fog l D C ad ((-1) : Int32) (nI 0) μ _ h) kF_0 (by decide) (enc_6 kF_0) rfl gw_L_79 ⟨rfl, hd_X6_fog⟩ ⟨Nat.zero_le _, Nat.zero_le _⟩ rfl rfl ⟨Nat.le_of_ble_eq_true rfl, Nat.le_of_ble_eq_true rfl⟩ rfl rfl (Nat.le_of_ble_eq_true rfl) dL_isCoast_172 (fun r31 μ32 h => ?_)
                                obtain ⟨rfl, h⟩ := h
                                refine b_aload_n X dL_isCoast_175 rfl 1 rfl ?_
                                refine b_aload_n X dL_isCoast_176 rfl 2 rfl ?_
                                refine bSi (st := [.int r31]) (nA := 2) X (c_L_side l D C ad  μ _ h) gw_L_72 hd_L_side ⟨Nat.zero_le _, Nat.zero_le _⟩ rfl rfl ⟨Nat.le_of_ble_eq_true rfl, Nat.le_of_ble_eq_true rfl⟩ rfl rfl (Nat.le_of_ble_eq_true rfl) dL_isCoast_177 (fun r33 μ34 h => ?_)
                                obtain ⟨rfl, h⟩ := h
                                refine b_icmp_ne (t := 201) X dL_isCoast_180 (by decide) (fun c => ?_) (fun c => ?_)
                                · replace h := h.1 c
                                  refine b_sub (lv' := [(0, .ref (ad 0)), (1, .ref (ad 246)), (2, .ref (ad 247))]) [0, 1, 2] rfl ?_
                                  exact B201  h
                                · replace h := h.2 c
                                  refine b_aload_n X dL_isCoast_183 rfl 0 rfl ?_
                                  refine b_iconst (v := ((-1) : Int32)) X dL_isCoast_184 (by decide) ?_
                                  refine b_iconst (v := (nI 1)) X dL_isCoast_185 (by decide) ?_
                                  refine bVi (st := []) (nA := 2) X (c_X6_fog l D C ad ((-1) : Int32) (nI 1) μ _ h) kF_0 (by decide) (enc_6 kF_0) rfl gw_L_79 ⟨rfl, hd_X6_fog⟩ ⟨Nat.zero_le _, Nat.zero_le _⟩ rfl rfl ⟨Nat.le_of_ble_eq_true rfl, Nat.le_of_ble_eq_true rfl⟩ rfl rfl (Nat.le_of_ble_eq_true rfl) dL_isCoast_186 (fun r35 μ36 h => ?_)
                                  obtain ⟨rfl, h⟩ := h
                                  refine b_aload_n X dL_isCoast_189 rfl 1 rfl ?_
                                  refine b_aload_n X dL_isCoast_190 rfl 2 rfl ?_
                                  refine bSi (st := [.int r35]) (nA := 2) X (c_L_fog l D C ad  μ _ h) gw_L_69 hd_L_fog ⟨Nat.zero_le _, Nat.zero_le _⟩ rfl rfl ⟨Nat.le_of_ble_eq_true rfl, Nat.le_of_ble_eq_true rfl⟩ rfl rfl (Nat.le_of_ble_eq_true rfl) dL_isCoast_191 (fun r37 μ38 h => ?_)
                                  obtain ⟨rfl, h⟩ := h
                                  refine b_icmp_ne (t := 201) X dL_isCoast_194 (by decide) (fun c => ?_) (fun c => ?_)
                                  · replace h := h.1 c
                                    refine b_sub (lv' := [(0, .ref (ad 0)), (1, .ref (ad 246)), (2, .ref (ad 247))]) [0, 1, 2] rfl ?_
                                    exact B201  h
                                  · replace h := h.2 c
                                    refine b_iconst (v := (nI 1)) X dL_isCoast_197 (by decide) ?_
                                    refine b_goto (t := 202) X dL_isCoast_198 (by decide) ?_
                                    refine b_sub (lv' := [(0, .ref (ad 0)), (1, .ref (ad 246)), (2, .ref (ad 247))]) [0, 1, 2] rfl ?_
                                    exact B202 (nI 1) h
      refine b_iload X dL_isCoast_5 4 rfl ?_
      refine b_aload_n X dL_isCoast_7 rfl 1 rfl ?_
      refine b_iconst (v := (nI 3)) X dL_isCoast_8 (by decide) ?_
      have hz := h.1
      replace h := h.2
      refine b_iald X kF_246 nF_246 hz dL_isCoast_9 ?_
      clear hz
      refine b_icmp_ge (t := 29) X dL_isCoast_10 (by decide) (fun c => ?_) (fun c => ?_)
      · replace h := h.1 c
        refine b_sub (lv' := [(0, .ref (ad 0)), (1, .ref (ad 246)), (2, .ref (ad 247)), (3, .int v3)]) [0, 1, 2, 3] rfl ?_
        exact B29 v3 h
      · replace h := h.2 c
        refine b_iload_n X dL_isCoast_13 rfl 3 rfl ?_
        refine b_aload_n X dL_isCoast_14 rfl 2 rfl ?_
        refine b_bipush (v := (nI 9)) X dL_isCoast_15 (by decide) ?_
        refine b_iload X dL_isCoast_17 4 rfl ?_
        refine b_iadd X dL_isCoast_19 ?_
        have hz := h.1
        replace h := h.2
        refine b_iald X kF_247 nF_247 hz dL_isCoast_20 ?_
        clear hz
        refine b_iadd X dL_isCoast_21 ?_
        refine b_topi (fun x1 ex1 => ?_)
        replace h := h x1 ex1
        refine b_istore_n (lv' := [(3, .int x1), (0, .ref (ad 0)), (1, .ref (ad 246)), (2, .ref (ad 247)), (4, .int v4)]) X dL_isCoast_22 rfl (by decide) rfl ?_
        obtain ⟨x2, ex2⟩ : ∃ y : Int32, y = v4 + (nI 1) := ⟨_, rfl⟩
        replace h := h x2 ex2
        refine b_iinc (x := x2) (lv' := [(4, .int x2), (3, .int x1), (0, .ref (ad 0)), (1, .ref (ad 246)), (2, .ref (ad 247))]) (q := 4) X dL_isCoast_23 rfl (by rw [ex2]; rfl) (by decide) rfl ?_
        refine b_goto (t := 5) X dL_isCoast_26 (by decide) ?_
        refine b_sub (lv' := [(0, .ref (ad 0)), (1, .ref (ad 246)), (2, .ref (ad 247)), (3, .int x1), (4, .int x2)]) [2, 3, 4, 1, 0] rfl ?_
        exact T5 x1 x2 h
    rw [eY] at B5
    exact B5
  refine b_iconst (v := (nI 0)) X dL_isCoast_0 (by decide) ?_
  refine b_istore_n (lv' := [(3, .int (nI 0)), (0, .ref (ad 0)), (1, .ref (ad 246)), (2, .ref (ad 247))]) X dL_isCoast_1 rfl (by decide) rfl ?_
  refine b_iconst (v := (nI 0)) X dL_isCoast_2 (by decide) ?_
  refine b_istore (lv' := [(4, .int (nI 0)), (3, .int (nI 0)), (0, .ref (ad 0)), (1, .ref (ad 246)), (2, .ref (ad 247))]) X dL_isCoast_3 (by decide) rfl ?_
  refine b_sub (lv' := [(0, .ref (ad 0)), (1, .ref (ad 246)), (2, .ref (ad 247)), (3, .int (nI 0)), (4, .int (nI 0))]) [2, 3, 4, 1, 0] rfl ?_
  exact B5 (nI 0) (nI 0) h
set_option maxHeartbeats 4000000 in
set_option maxRecDepth 100000 in
theorem c_L_best (l : Launch) (D : va_G) (C : Nat → ClassId) (ad : Nat → Nat) (a2 : Int32) (a3 : Int32) (μ : Mem) (Q : Int32 → Mem → Prop) (h : w_L_best a2 a3 μ Q) : Mi sF l yL_best cL_best 11 (some .boolean) rm_L_best D C ad [.ref (ad 0), .ref (ad 246), .int a2, .int a3] μ Q := by
  refine fm_z (by decide +kernel) sF_lt (Nat.le_of_ble_eq_true rfl) (fun K X hret => ?_)
  have X : CK sF D C ad K cL_best 11 RL := X
  refine b_lv (lv' := [(0, .ref (ad 0)), (1, .ref (ad 246)), (2, .int a2), (3, .int a3)]) rfl ?_
  unfold w_L_best at h
  have B129 : ∀ (v4 : Int32) (v7 : Int32) (v8 : Int32) (v9 : Int32) (s1 : Int32) (μ : Mem), w_L_best_129 a2 a3 v4 v7 v8 v9 s1 μ Q → WB sF l D C ad rm_L_best K 11 μ 129 [(0, .ref (ad 0)), (2, .int a2), (3, .int a3), (4, .int v4), (7, .int v7), (8, .int v8), (9, .int v9)] [.int s1] := by
    intro v4 v7 v8 v9 s1 μ h
    unfold w_L_best_129 at h
    have B196 : ∀ (v4 : Int32) (v10 : Int32) (μ : Mem), w_L_best_196 a2 a3 v4 v10 μ Q → WB sF l D C ad rm_L_best K 11 μ 196 [(0, .ref (ad 0)), (2, .int a2), (3, .int a3), (4, .int v4), (10, .int v10)] [] := by
      intro v4 v10 μ h
      unfold w_L_best_196 at h
      refine b_iload X dL_best_196 4 rfl ?_
      refine b_if_eq (t := 230) X dL_best_198 (by decide) (fun c => ?_) (fun c => ?_)
      · replace h := h.1 c
        refine b_iconst (v := (nI 0)) X dL_best_230 (by decide) ?_
        exact hret _ _ _ _ ⟨(Or.inl rfl), h⟩ dL_best_231
      · replace h := h.2 c
        refine b_aload_n X dL_best_201 rfl 0 rfl ?_
        refine b_iload_n X dL_best_202 rfl 1 rfl ?_
        refine b_aload_n X dL_best_203 rfl 0 rfl ?_
        refine b_iconst (v := (nI 2)) X dL_best_204 (by decide) ?_
        refine bVi (st := [.int a2, .ref (ad 0)]) (nA := 1) X (c_X6_told l D C ad (nI 2) μ _ h) kF_0 (by decide) (enc_6 kF_0) rfl gw_L_28 ⟨rfl, hd_X6_told⟩ ⟨Nat.zero_le _, Nat.zero_le _⟩ rfl rfl ⟨Nat.le_of_ble_eq_true rfl, Nat.le_of_ble_eq_true rfl⟩ rfl rfl (Nat.le_of_ble_eq_true rfl) dL_best_205 (fun r35 μ36 h => ?_)
        obtain ⟨rfl, h⟩ := h
        refine bVi (st := []) (nA := 2) X (c_X6_gets l D C ad a2 r35 μ _ h) kF_0 (by decide) (enc_6 kF_0) rfl gw_L_105 ⟨rfl, hd_X6_gets⟩ ⟨Nat.zero_le _, Nat.zero_le _⟩ rfl rfl ⟨Nat.le_of_ble_eq_true rfl, Nat.le_of_ble_eq_true rfl⟩ rfl rfl (Nat.le_of_ble_eq_true rfl) dL_best_208 (fun r37 μ38 h => ?_)
        refine b_iload X dL_best_211 3 rfl ?_
        refine b_icmp_ne (t := 230) X dL_best_213 (by decide) (fun c => ?_) (fun c => ?_)
        · replace h := h.1 c
          refine b_iconst (v := (nI 0)) X dL_best_230 (by decide) ?_
          exact hret _ _ _ _ ⟨(Or.inl rfl), h⟩ dL_best_231
        · replace h := h.2 c
          refine b_aload_n X dL_best_216 rfl 0 rfl ?_
          refine b_bipush (v := (nI 15)) X dL_best_217 (by decide) ?_
          refine bVi (st := []) (nA := 1) X (c_X6_told l D C ad (nI 15) μ38 _ h) kF_0 (by decide) (enc_6 kF_0) rfl gw_L_28 ⟨rfl, hd_X6_told⟩ ⟨Nat.zero_le _, Nat.zero_le _⟩ rfl rfl ⟨Nat.le_of_ble_eq_true rfl, Nat.le_of_ble_eq_true rfl⟩ rfl rfl (Nat.le_of_ble_eq_true rfl) dL_best_219 (fun r39 μ40 h => ?_)
          obtain ⟨rfl, h⟩ := h
          refine b_iload_n X dL_best_222 rfl 2 rfl ?_
          refine b_icmp_ne (t := 230) X dL_best_223 (by decide) (fun c => ?_) (fun c => ?_)
          · replace h := h.1 c
            refine b_iconst (v := (nI 0)) X dL_best_230 (by decide) ?_
            exact hret _ _ _ _ ⟨(Or.inl rfl), h⟩ dL_best_231
          · replace h := h.2 c
            refine b_iconst (v := (nI 1)) X dL_best_226 (by decide) ?_
            refine b_goto (t := 231) X dL_best_227 (by decide) ?_
            exact hret _ _ _ _ ⟨(Or.inr rfl), h⟩ dL_best_231
    have B194 : ∀ (v4 : Int32) (s1 : Int32) (μ : Mem), w_L_best_194 a2 a3 v4 s1 μ Q → WB sF l D C ad rm_L_best K 11 μ 194 [(0, .ref (ad 0)), (2, .int a2), (3, .int a3), (4, .int v4)] [.int s1] := by
      intro v4 s1 μ h
      unfold w_L_best_194 at h
      refine b_istore (lv' := [(10, .int s1), (0, .ref (ad 0)), (2, .int a2), (3, .int a3), (4, .int v4)]) X dL_best_194 (by decide) rfl ?_
      refine b_sub (lv' := [(0, .ref (ad 0)), (2, .int a2), (3, .int a3), (4, .int v4), (10, .int s1)]) [1, 2, 3, 4, 0] rfl ?_
      exact B196 v4 s1 μ h
    have B193 : ∀ (v4 : Int32) (μ : Mem), w_L_best_193 a2 a3 v4 μ Q → WB sF l D C ad rm_L_best K 11 μ 193 [(0, .ref (ad 0)), (2, .int a2), (3, .int a3), (4, .int v4)] [] := by
      intro v4 μ h
      unfold w_L_best_193 at h
      refine b_iconst (v := (nI 0)) X dL_best_193 (by decide) ?_
      refine b_sub (lv' := [(0, .ref (ad 0)), (2, .int a2), (3, .int a3), (4, .int v4)]) [0, 1, 2, 3] rfl ?_
      exact B194 v4 (nI 0) μ h
    refine b_istore (lv' := [(10, .int s1), (0, .ref (ad 0)), (2, .int a2), (3, .int a3), (4, .int v4), (7, .int v7), (8, .int v8), (9, .int v9)]) X dL_best_129 (by decide) rfl ?_
    refine b_iload X dL_best_131 5 rfl ?_
    refine b_iload X dL_best_133 7 rfl ?_
    refine b_icmp_eq (t := 196) X dL_best_135 (by decide) (fun c => ?_) (fun c => ?_)
    · replace h := h.1 c
      refine b_sub (lv' := [(0, .ref (ad 0)), (2, .int a2), (3, .int a3), (4, .int v4), (10, .int s1)]) [1, 2, 3, 4, 0] rfl ?_
      exact B196 v4 s1 μ h
    · replace h := h.2 c
      refine b_iload X dL_best_138 0 rfl ?_
      refine b_if_eq (t := 193) X dL_best_140 (by decide) (fun c => ?_) (fun c => ?_)
      · replace h := h.1 c
        refine b_sub (lv' := [(0, .ref (ad 0)), (2, .int a2), (3, .int a3), (4, .int v4)]) [1, 2, 3, 4] rfl ?_
        exact B193 v4 μ h
      · replace h := h.2 c
        refine b_aload_n X dL_best_143 rfl 1 rfl ?_
        refine b_iload_n X dL_best_144 rfl 2 rfl ?_
        refine b_iload X dL_best_145 5 rfl ?_
        refine bVi (st := []) (nA := 2) X (c_X6_move l D C ad a2 v7 μ _ h) kF_0 (by decide) (enc_6 kF_0) rfl gw_L_164 ⟨rfl, hd_X6_move⟩ ⟨Nat.zero_le _, Nat.zero_le _⟩ rfl rfl ⟨Nat.le_of_ble_eq_true rfl, Nat.le_of_ble_eq_true rfl⟩ rfl rfl (Nat.le_of_ble_eq_true rfl) dL_best_147 (fun r25 μ26 h => ?_)
        refine b_iload X dL_best_150 7 rfl ?_
        refine b_icmp_ne (t := 193) X dL_best_152 (by decide) (fun c => ?_) (fun c => ?_)
        · replace h := h.1 c
          refine b_sub (lv' := [(0, .ref (ad 0)), (2, .int a2), (3, .int a3), (4, .int v4)]) [1, 2, 3, 4] rfl ?_
          exact B193 v4 μ26 h
        · replace h := h.2 c
          refine b_aload_n X dL_best_155 rfl 1 rfl ?_
          refine b_iload_n X dL_best_156 rfl 2 rfl ?_
          refine b_aload_n X dL_best_157 rfl 1 rfl ?_
          refine b_iconst (v := (nI 2)) X dL_best_158 (by decide) ?_
          refine bVi (st := [.int a2, .ref (ad 0)]) (nA := 1) X (c_X6_told l D C ad (nI 2) μ26 _ h) kF_0 (by decide) (enc_6 kF_0) rfl gw_L_28 ⟨rfl, hd_X6_told⟩ ⟨Nat.zero_le _, Nat.zero_le _⟩ rfl rfl ⟨Nat.le_of_ble_eq_true rfl, Nat.le_of_ble_eq_true rfl⟩ rfl rfl (Nat.le_of_ble_eq_true rfl) dL_best_159 (fun r27 μ28 h => ?_)
          obtain ⟨rfl, h⟩ := h
          refine bVi (st := []) (nA := 2) X (c_X6_gets l D C ad a2 r27 μ26 _ h) kF_0 (by decide) (enc_6 kF_0) rfl gw_L_105 ⟨rfl, hd_X6_gets⟩ ⟨Nat.zero_le _, Nat.zero_le _⟩ rfl rfl ⟨Nat.le_of_ble_eq_true rfl, Nat.le_of_ble_eq_true rfl⟩ rfl rfl (Nat.le_of_ble_eq_true rfl) dL_best_162 (fun r29 μ30 h => ?_)
          refine b_iload X dL_best_165 6 rfl ?_
          refine b_icmp_ne (t := 193) X dL_best_167 (by decide) (fun c => ?_) (fun c => ?_)
          · replace h := h.1 c
            refine b_sub (lv' := [(0, .ref (ad 0)), (2, .int a2), (3, .int a3), (4, .int v4)]) [1, 2, 3, 4] rfl ?_
            exact B193 v4 μ30 h
          · replace h := h.2 c
            refine b_aload_n X dL_best_170 rfl 1 rfl ?_
            refine b_iload_n X dL_best_171 rfl 2 rfl ?_
            refine b_iconst (v := (nI 0)) X dL_best_172 (by decide) ?_
            refine bVi (st := []) (nA := 2) X (c_X6_bestCell l D C ad a2 (nI 0) μ30 _ h) kF_0 (by decide) (enc_6 kF_0) rfl gw_L_158 ⟨rfl, hd_X6_bestCell⟩ ⟨Nat.zero_le _, Nat.zero_le _⟩ rfl rfl ⟨Nat.le_of_ble_eq_true rfl, Nat.le_of_ble_eq_true rfl⟩ rfl rfl (Nat.le_of_ble_eq_true rfl) dL_best_173 (fun r31 μ32 h => ?_)
            refine b_iload X dL_best_176 5 rfl ?_
            refine b_icmp_ne (t := 193) X dL_best_178 (by decide) (fun c => ?_) (fun c => ?_)
            · replace h := h.1 c
              refine b_sub (lv' := [(0, .ref (ad 0)), (2, .int a2), (3, .int a3), (4, .int v4)]) [1, 2, 3, 4] rfl ?_
              exact B193 v4 μ32 h
            · replace h := h.2 c
              refine b_aload_n X dL_best_181 rfl 1 rfl ?_
              refine b_iconst (v := (nI 1)) X dL_best_182 (by decide) ?_
              refine bVi (st := []) (nA := 1) X (c_X6_undo l D C ad (nI 1) μ32 _ h) kF_0 (by decide) (enc_6 kF_0) rfl gw_L_116 ⟨rfl, hd_X6_undo⟩ ⟨Nat.zero_le _, Nat.zero_le _⟩ rfl rfl ⟨Nat.le_of_ble_eq_true rfl, Nat.le_of_ble_eq_true rfl⟩ rfl rfl (Nat.le_of_ble_eq_true rfl) dL_best_183 (fun r33 μ34 h => ?_)
              refine b_if_lt (t := 193) X dL_best_186 (by decide) (fun c => ?_) (fun c => ?_)
              · replace h := h.1 c
                refine b_sub (lv' := [(0, .ref (ad 0)), (2, .int a2), (3, .int a3), (4, .int v4)]) [1, 2, 3, 4] rfl ?_
                exact B193 v4 μ34 h
              · replace h := h.2 c
                refine b_iconst (v := (nI 1)) X dL_best_189 (by decide) ?_
                refine b_goto (t := 194) X dL_best_190 (by decide) ?_
                refine b_sub (lv' := [(0, .ref (ad 0)), (2, .int a2), (3, .int a3), (4, .int v4)]) [1, 2, 3, 4] rfl ?_
                exact B194 v4 (nI 1) μ34 h
  have B128 : ∀ (v4 : Int32) (v7 : Int32) (v8 : Int32) (v9 : Int32) (μ : Mem), w_L_best_128 a2 a3 v4 v7 v8 v9 μ Q → WB sF l D C ad rm_L_best K 11 μ 128 [(0, .ref (ad 0)), (2, .int a2), (3, .int a3), (4, .int v4), (7, .int v7), (8, .int v8), (9, .int v9)] [] := by
    intro v4 v7 v8 v9 μ h
    unfold w_L_best_128 at h
    refine b_iconst (v := (nI 0)) X dL_best_128 (by decide) ?_
    refine b_sub (lv' := [(0, .ref (ad 0)), (2, .int a2), (3, .int a3), (4, .int v4), (7, .int v7), (8, .int v8), (9, .int v9)]) [0, 1, 2, 3, 4, 5, 6] rfl ?_
    exact B129 v4 v7 v8 v9 (nI 0) μ h
  refine b_aload_n X dL_best_0 rfl 0 rfl ?_
  refine b_iload_n X dL_best_1 rfl 2 rfl ?_
  refine b_aload_n X dL_best_2 rfl 0 rfl ?_
  refine b_iconst (v := (nI 2)) X dL_best_3 (by decide) ?_
  refine bVi (st := [.int a2, .ref (ad 0)]) (nA := 1) X (c_X6_told l D C ad (nI 2) μ _ h) kF_0 (by decide) (enc_6 kF_0) rfl gw_L_28 ⟨rfl, hd_X6_told⟩ ⟨Nat.zero_le _, Nat.zero_le _⟩ rfl rfl ⟨Nat.le_of_ble_eq_true rfl, Nat.le_of_ble_eq_true rfl⟩ rfl rfl (Nat.le_of_ble_eq_true rfl) dL_best_4 (fun r1 μ2 h => ?_)
  obtain ⟨rfl, h⟩ := h
  refine bVi (st := []) (nA := 2) X (c_X6_gets l D C ad a2 r1 μ _ h) kF_0 (by decide) (enc_6 kF_0) rfl gw_L_105 ⟨rfl, hd_X6_gets⟩ ⟨Nat.zero_le _, Nat.zero_le _⟩ rfl rfl ⟨Nat.le_of_ble_eq_true rfl, Nat.le_of_ble_eq_true rfl⟩ rfl rfl (Nat.le_of_ble_eq_true rfl) dL_best_7 (fun r3 μ4 h => ?_)
  refine b_istore (lv' := [(4, .int r3), (0, .ref (ad 0)), (1, .ref (ad 246)), (2, .int a2), (3, .int a3)]) X dL_best_10 (by decide) rfl ?_
  refine b_aload_n X dL_best_12 rfl 1 rfl ?_
  refine b_iload_n X dL_best_13 rfl 3 rfl ?_
  refine b_iconst (v := (nI 0)) X dL_best_14 (by decide) ?_
  refine bVi (st := []) (nA := 2) X (c_X6_bestMesh l D C ad a2 (nI 0) μ4 _ h) kF_0 (by decide) (enc_6 kF_0) rfl gw_L_155 ⟨rfl, hd_X6_bestMesh⟩ ⟨Nat.zero_le _, Nat.zero_le _⟩ rfl rfl ⟨Nat.le_of_ble_eq_true rfl, Nat.le_of_ble_eq_true rfl⟩ rfl rfl (Nat.le_of_ble_eq_true rfl) dL_best_15 (fun r5 μ6 h => ?_)
  refine b_istore (lv' := [(5, .int r5), (4, .int r3), (0, .ref (ad 0)), (1, .ref (ad 246)), (2, .int a2), (3, .int a3)]) X dL_best_18 (by decide) rfl ?_
  refine b_aload_n X dL_best_20 rfl 2 rfl ?_
  refine b_iload_n X dL_best_21 rfl 4 rfl ?_
  refine b_iconst (v := (nI 1)) X dL_best_22 (by decide) ?_
  refine bVi (st := []) (nA := 2) X (c_X6_bestMesh l D C ad a2 (nI 1) μ6 _ h) kF_0 (by decide) (enc_6 kF_0) rfl gw_L_155 ⟨rfl, hd_X6_bestMesh⟩ ⟨Nat.zero_le _, Nat.zero_le _⟩ rfl rfl ⟨Nat.le_of_ble_eq_true rfl, Nat.le_of_ble_eq_true rfl⟩ rfl rfl (Nat.le_of_ble_eq_true rfl) dL_best_23 (fun r7 μ8 h => ?_)
  refine b_istore (lv' := [(6, .int r7), (5, .int r5), (4, .int r3), (0, .ref (ad 0)), (1, .ref (ad 246)), (2, .int a2), (3, .int a3)]) X dL_best_26 (by decide) rfl ?_
  refine b_aload_n X dL_best_28 rfl 3 rfl ?_
  refine b_iload_n X dL_best_29 rfl 5 rfl ?_
  refine b_iconst (v := (nI 0)) X dL_best_30 (by decide) ?_
  refine bVi (st := []) (nA := 2) X (c_X6_bestCell l D C ad a2 (nI 0) μ8 _ h) kF_0 (by decide) (enc_6 kF_0) rfl gw_L_158 ⟨rfl, hd_X6_bestCell⟩ ⟨Nat.zero_le _, Nat.zero_le _⟩ rfl rfl ⟨Nat.le_of_ble_eq_true rfl, Nat.le_of_ble_eq_true rfl⟩ rfl rfl (Nat.le_of_ble_eq_true rfl) dL_best_31 (fun r9 μ10 h => ?_)
  refine b_istore (lv' := [(7, .int r9), (6, .int r7), (5, .int r5), (4, .int r3), (0, .ref (ad 0)), (1, .ref (ad 246)), (2, .int a2), (3, .int a3)]) X dL_best_34 (by decide) rfl ?_
  refine b_aload_n X dL_best_36 rfl 4 rfl ?_
  refine b_iload_n X dL_best_37 rfl 6 rfl ?_
  refine b_iconst (v := (nI 1)) X dL_best_38 (by decide) ?_
  refine bVi (st := []) (nA := 2) X (c_X6_bestCell l D C ad a2 (nI 1) μ10 _ h) kF_0 (by decide) (enc_6 kF_0) rfl gw_L_158 ⟨rfl, hd_X6_bestCell⟩ ⟨Nat.zero_le _, Nat.zero_le _⟩ rfl rfl ⟨Nat.le_of_ble_eq_true rfl, Nat.le_of_ble_eq_true rfl⟩ rfl rfl (Nat.le_of_ble_eq_true rfl) dL_best_39 (fun r11 μ12 h => ?_)
  refine b_istore (lv' := [(8, .int r11), (7, .int r9), (6, .int r7), (5, .int r5), (4, .int r3), (0, .ref (ad 0)), (1, .ref (ad 246)), (2, .int a2), (3, .int a3)]) X dL_best_42 (by decide) rfl ?_
  refine b_aload_n X dL_best_44 rfl 5 rfl ?_
  refine b_iload_n X dL_best_45 rfl 7 rfl ?_
  refine b_iconst (v := (nI 0)) X dL_best_46 (by decide) ?_
  refine bVi (st := []) (nA := 2) X (c_X6_post l D C ad a2 (nI 0) μ12 _ h) kF_0 (by decide) (enc_6 kF_0) rfl gw_L_82 ⟨rfl, hd_X6_post⟩ ⟨Nat.zero_le _, Nat.zero_le _⟩ rfl rfl ⟨Nat.le_of_ble_eq_true rfl, Nat.le_of_ble_eq_true rfl⟩ rfl rfl (Nat.le_of_ble_eq_true rfl) dL_best_47 (fun r13 μ14 h => ?_)
  obtain ⟨rfl, h⟩ := h
  refine b_istore (lv' := [(9, .int r13), (8, .int r11), (7, .int r9), (6, .int r7), (5, .int r5), (4, .int r3), (0, .ref (ad 0)), (1, .ref (ad 246)), (2, .int a2), (3, .int a3)]) X dL_best_50 (by decide) rfl ?_
  refine b_iload X dL_best_52 3 rfl ?_
  refine b_iload X dL_best_54 5 rfl ?_
  refine b_icmp_lt (t := 78) X dL_best_56 (by decide) (fun c => ?_) (fun c => ?_)
  · replace h := h.1 c
    refine b_iconst (v := (nI 0)) X dL_best_78 (by decide) ?_
    exact hret _ _ _ _ ⟨(Or.inl rfl), h⟩ dL_best_79
  · replace h := h.2 c
    refine b_iload X dL_best_59 1 rfl ?_
    refine b_iload X dL_best_61 5 rfl ?_
    refine b_icmp_lt (t := 78) X dL_best_63 (by decide) (fun c => ?_) (fun c => ?_)
    · replace h := h.1 c
      refine b_iconst (v := (nI 0)) X dL_best_78 (by decide) ?_
      exact hret _ _ _ _ ⟨(Or.inl rfl), h⟩ dL_best_79
    · replace h := h.2 c
      refine b_iload X dL_best_66 4 rfl ?_
      refine b_if_lt (t := 78) X dL_best_68 (by decide) (fun c => ?_) (fun c => ?_)
      · replace h := h.1 c
        refine b_iconst (v := (nI 0)) X dL_best_78 (by decide) ?_
        exact hret _ _ _ _ ⟨(Or.inl rfl), h⟩ dL_best_79
      · replace h := h.2 c
        refine b_iload X dL_best_71 4 rfl ?_
        refine b_bipush (v := (nI 9)) X dL_best_73 (by decide) ?_
        refine b_icmp_le (t := 80) X dL_best_75 (by decide) (fun c => ?_) (fun c => ?_)
        · replace h := h.1 c
          refine b_aload_n X dL_best_80 rfl 6 rfl ?_
          refine b_iload_n X dL_best_81 rfl 8 rfl ?_
          refine b_iload X dL_best_82 4 rfl ?_
          refine bVi (st := []) (nA := 2) X (c_X6_mesh l D C ad a2 r5 μ12 _ h) kF_0 (by decide) (enc_6 kF_0) rfl gw_L_161 ⟨rfl, hd_X6_mesh⟩ ⟨Nat.zero_le _, Nat.zero_le _⟩ rfl rfl ⟨Nat.le_of_ble_eq_true rfl, Nat.le_of_ble_eq_true rfl⟩ rfl rfl (Nat.le_of_ble_eq_true rfl) dL_best_84 (fun r15 μ16 h => ?_)
          refine b_if_lt (t := 128) X dL_best_87 (by decide) (fun c => ?_) (fun c => ?_)
          · replace h := h.1 c
            refine b_sub (lv' := [(0, .ref (ad 0)), (2, .int a2), (3, .int a3), (4, .int r3), (7, .int r9), (8, .int r11), (9, .int r13)]) [6, 8, 9, 5, 2, 1, 0] rfl ?_
            exact B128 r3 r9 r11 r13 μ16 h
          · replace h := h.2 c
            refine b_aload_n X dL_best_90 rfl 6 rfl ?_
            refine b_iload_n X dL_best_91 rfl 8 rfl ?_
            refine b_aload_n X dL_best_92 rfl 6 rfl ?_
            refine b_iconst (v := (nI 2)) X dL_best_93 (by decide) ?_
            refine bVi (st := [.int a2, .ref (ad 0)]) (nA := 1) X (c_X6_told l D C ad (nI 2) μ16 _ h) kF_0 (by decide) (enc_6 kF_0) rfl gw_L_28 ⟨rfl, hd_X6_told⟩ ⟨Nat.zero_le _, Nat.zero_le _⟩ rfl rfl ⟨Nat.le_of_ble_eq_true rfl, Nat.le_of_ble_eq_true rfl⟩ rfl rfl (Nat.le_of_ble_eq_true rfl) dL_best_94 (fun r17 μ18 h => ?_)
            obtain ⟨rfl, h⟩ := h
            refine bVi (st := []) (nA := 2) X (c_X6_gets l D C ad a2 r17 μ16 _ h) kF_0 (by decide) (enc_6 kF_0) rfl gw_L_105 ⟨rfl, hd_X6_gets⟩ ⟨Nat.zero_le _, Nat.zero_le _⟩ rfl rfl ⟨Nat.le_of_ble_eq_true rfl, Nat.le_of_ble_eq_true rfl⟩ rfl rfl (Nat.le_of_ble_eq_true rfl) dL_best_97 (fun r19 μ20 h => ?_)
            refine b_iload X dL_best_100 3 rfl ?_
            refine b_icmp_ne (t := 128) X dL_best_102 (by decide) (fun c => ?_) (fun c => ?_)
            · replace h := h.1 c
              refine b_sub (lv' := [(0, .ref (ad 0)), (2, .int a2), (3, .int a3), (4, .int r3), (7, .int r9), (8, .int r11), (9, .int r13)]) [6, 8, 9, 5, 2, 1, 0] rfl ?_
              exact B128 r3 r9 r11 r13 μ20 h
            · replace h := h.2 c
              refine b_aload_n X dL_best_105 rfl 6 rfl ?_
              refine b_iload_n X dL_best_106 rfl 8 rfl ?_
              refine b_iconst (v := (nI 0)) X dL_best_107 (by decide) ?_
              refine bVi (st := []) (nA := 2) X (c_X6_bestMesh l D C ad a2 (nI 0) μ20 _ h) kF_0 (by decide) (enc_6 kF_0) rfl gw_L_155 ⟨rfl, hd_X6_bestMesh⟩ ⟨Nat.zero_le _, Nat.zero_le _⟩ rfl rfl ⟨Nat.le_of_ble_eq_true rfl, Nat.le_of_ble_eq_true rfl⟩ rfl rfl (Nat.le_of_ble_eq_true rfl) dL_best_108 (fun r21 μ22 h => ?_)
              refine b_iload X dL_best_111 4 rfl ?_
              refine b_icmp_ne (t := 128) X dL_best_113 (by decide) (fun c => ?_) (fun c => ?_)
              · replace h := h.1 c
                refine b_sub (lv' := [(0, .ref (ad 0)), (2, .int a2), (3, .int a3), (4, .int r3), (7, .int r9), (8, .int r11), (9, .int r13)]) [6, 8, 9, 5, 2, 1, 0] rfl ?_
                exact B128 r3 r9 r11 r13 μ22 h
              · replace h := h.2 c
                refine b_aload_n X dL_best_116 rfl 6 rfl ?_
                refine b_iconst (v := (nI 1)) X dL_best_117 (by decide) ?_
                refine bVi (st := []) (nA := 1) X (c_X6_undo l D C ad (nI 1) μ22 _ h) kF_0 (by decide) (enc_6 kF_0) rfl gw_L_116 ⟨rfl, hd_X6_undo⟩ ⟨Nat.zero_le _, Nat.zero_le _⟩ rfl rfl ⟨Nat.le_of_ble_eq_true rfl, Nat.le_of_ble_eq_true rfl⟩ rfl rfl (Nat.le_of_ble_eq_true rfl) dL_best_118 (fun r23 μ24 h => ?_)
                refine b_if_lt (t := 128) X dL_best_121 (by decide) (fun c => ?_) (fun c => ?_)
                · replace h := h.1 c
                  refine b_sub (lv' := [(0, .ref (ad 0)), (2, .int a2), (3, .int a3), (4, .int r3), (7, .int r9), (8, .int r11), (9, .int r13)]) [6, 8, 9, 5, 2, 1, 0] rfl ?_
                  exact B128 r3 r9 r11 r13 μ24 h
                · replace h := h.2 c
                  refine b_iconst (v := (nI 1)) X dL_best_124 (by decide) ?_
                  refine b_goto (t := 129) X dL_best_125 (by decide) ?_
                  refine b_sub (lv' := [(0, .ref (ad 0)), (2, .int a2), (3, .int a3), (4, .int r3), (7, .int r9), (8, .int r11), (9, .int r13)]) [6, 8, 9, 5, 2, 1, 0] rfl ?_
                  exact B129 r3 r9 r11 r13 (nI 1) μ24 h
        · replace h := h.2 c
          refine b_iconst (v := (nI 0)) X dL_best_78 (by decide) ?_
          exact hret _ _ _ _ ⟨(Or.inl rfl), h⟩ dL_best_79
