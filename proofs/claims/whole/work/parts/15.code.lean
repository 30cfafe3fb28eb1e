set_option maxHeartbeats 4000000 in
set_option maxRecDepth 100000 in
theorem c_X7_coast (l : Launch) (D : va_G) (C : Nat → ClassId) (ad : Nat → Nat)  (μ : Mem) (Q : Int32 → Mem → Prop) (h : w_X7_coast  μ Q) : Mi sM l yX7_coast cX7_coast 3 (some .int) rm_X7_coast D C ad [.ref (ad 0)] μ Q := by
  refine fm_i (by decide +kernel) sM_lt (Nat.le_of_ble_eq_true rfl) (fun K X hret => ?_)
  have X : CK sM D C ad K cX7_coast 3 RX7 := X
  refine b_lv (lv' := [(0, .ref (ad 0))]) rfl ?_
  unfold w_X7_coast at h
  have B61 : ∀ (s2 : Int32) (μ : Mem), w_X7_coast_61 s2 μ Q → WB sM l D C ad rm_X7_coast K 3 μ 61 [(0, .ref (ad 0))] [.int s2, .ref (ad 0)] := by
    intro s2 μ h
    unfold w_X7_coast_61 at h
    have B82 : ∀ (s2 : Int32) (μ : Mem), w_X7_coast_82 s2 μ Q → WB sM l D C ad rm_X7_coast K 3 μ 82 [(0, .ref (ad 0))] [.int s2, .ref (ad 0)] := by
      intro s2 μ h
      unfold w_X7_coast_82 at h
      have B101 : ∀ (s2 : Int32) (μ : Mem), w_X7_coast_101 s2 μ Q → WB sM l D C ad rm_X7_coast K 3 μ 101 [(0, .ref (ad 0))] [.int s2, .ref (ad 0)] := by
        intro s2 μ h
        unfold w_X7_coast_101 at h
        have B120 : ∀ (s2 : Int32) (μ : Mem), w_X7_coast_120 s2 μ Q → WB sM l D C ad rm_X7_coast K 3 μ 120 [(0, .ref (ad 0))] [.int s2, .ref (ad 0)] := by
          intro s2 μ h
          unfold w_X7_coast_120 at h
          have B139 : ∀ (s2 : Int32) (μ : Mem), w_X7_coast_139 s2 μ Q → WB sM l D C ad rm_X7_coast K 3 μ 139 [(0, .ref (ad 0))] [.int s2, .ref (ad 0)] := by
            intro s2 μ h
            unfold w_X7_coast_139 at h
            have B144 : ∀ (v2 : Int32) (μ : Mem), w_X7_coast_144 v2 μ Q → WB sM l D C ad rm_X7_coast K 3 μ 144 [(0, .ref (ad 0)), (2, .int v2)] [] := by
              intro v2 μ h
              obtain ⟨Y144, eY⟩ : ∃ Y : Int32 → Mem → Prop, Y = fun (v2 : Int32) (μ : Mem) => WB sM l D C ad rm_X7_coast K 3 μ 144 [(0, .ref (ad 0)), (2, .int v2)] [] := ⟨_, rfl⟩
              have B144 : Y144 v2 μ := by
                unfold w_X7_coast_144 at h
                refine h Y144 ?_
                clear h
                intro v2 μ h
                unfold s_X7_coast_144 at h
                rw [eY]
                show WB sM l D C ad rm_X7_coast K 3 μ 144 [(0, .ref (ad 0)), (2, .int v2)] []
                have T144 : ∀ (v2 : Int32) (μ : Mem), Y144 v2 μ → WB sM l D C ad rm_X7_coast K 3 μ 144 [(0, .ref (ad 0)), (2, .int v2)] [] := by
                  intro v2 μ h
                  rw [eY] at h
                  exact h
                clear eY
                have B168 : ∀ (μ : Mem), w_X7_coast_168 μ Q → WB sM l D C ad rm_X7_coast K 3 μ 168 [(0, .ref (ad 0))] [] := by
                  intro μ h
                  unfold w_X7_coast_168 at h
                  have B170 : ∀ (v2 : Int32) (μ : Mem), w_X7_coast_170 v2 μ Q → WB sM l D C ad rm_X7_coast K 3 μ 170 [(0, .ref (ad 0)), (2, .int v2)] [] := by
                    intro v2 μ h
                    obtain ⟨Y170, eY⟩ : ∃ Y : Int32 → Mem → Prop, Y = fun (v2 : Int32) (μ : Mem) => WB sM l D C ad rm_X7_coast K 3 μ 170 [(0, .ref (ad 0)), (2, .int v2)] [] := ⟨_, rfl⟩
                    have B170 : Y170 v2 μ := by
                      unfold w_X7_coast_170 at h
                      refine h Y170 ?_
                      clear h
                      intro v2 μ h
                      unfold s_X7_coast_170 at h
                      rw [eY]
                      show WB sM l D C ad rm_X7_coast K 3 μ 170 [(0, .ref (ad 0)), (2, .int v2)] []
                      have T170 : ∀ (v2 : Int32) (μ : Mem), Y170 v2 μ → WB sM l D C ad rm_X7_coast K 3 μ 170 [(0, .ref (ad 0)), (2, .int v2)] [] := by
                        intro v2 μ h
                        rw [eY] at h
                        exact h
                      clear eY
                      have B194 : ∀ (μ : Mem), w_X7_coast_194 μ Q → WB sM l D C ad rm_X7_coast K 3 μ 194 [(0, .ref (ad 0))] [] := by
                        intro μ h
                        unfold w_X7_coast_194 at h
                        have B196 : ∀ (v2 : Int32) (μ : Mem), w_X7_coast_196 v2 μ Q → WB sM l D C ad rm_X7_coast K 3 μ 196 [(0, .ref (ad 0)), (2, .int v2)] [] := by
                          intro v2 μ h
                          obtain ⟨Y196, eY⟩ : ∃ Y : Int32 → Mem → Prop, Y = fun (v2 : Int32) (μ : Mem) => WB sM l D C ad rm_X7_coast K 3 μ 196 [(0, .ref (ad 0)), (2, .int v2)] [] := ⟨_, rfl⟩
                          have B196 : Y196 v2 μ := by
                            unfold w_X7_coast_196 at h
                            refine h Y196 ?_
                            clear h
                            intro v2 μ h
                            unfold s_X7_coast_196 at h
                            rw [eY]
                            show WB sM l D C ad rm_X7_coast K 3 μ 196 [(0, .ref (ad 0)), (2, .int v2)] []
                            have T196 : ∀ (v2 : Int32) (μ : Mem), Y196 v2 μ → WB sM l D C ad rm_X7_coast K 3 μ 196 [(0, .ref (ad 0)), (2, .int v2)] [] := by
                              intro v2 μ h
                              rw [eY] at h
                              exact h
                            clear eY
                            have B254 : ∀ (μ : Mem), w_X7_coast_254 μ Q → WB sM l D C ad rm_X7_coast K 3 μ 254 [(0, .ref (ad 0))] [] := by
                              intro μ h
                              unfold w_X7_coast_254 at h
                              have B256 : ∀ (v2 : Int32) (μ : Mem), w_X7_coast_256 v2 μ Q → WB sM l D C ad rm_X7_coast K 3 μ 256 [(0, .ref (ad 0)), (2, .int v2)] [] := by
                                intro v2 μ h
                                obtain ⟨Y256, eY⟩ : ∃ Y : Int32 → Mem → Prop, Y = fun (v2 : Int32) (μ : Mem) => WB sM l D C ad rm_X7_coast K 3 μ 256 [(0, .ref (ad 0)), (2, .int v2)] [] := ⟨_, rfl⟩
                                have B256 : Y256 v2 μ := by
                                  unfold w_X7_coast_256 at h
                                  refine h Y256 ?_
                                  clear h
                                  intro v2 μ h
                                  unfold s_X7_coast_256 at h
                                  rw [eY]
                                  show WB sM l D C ad rm_X7_coast K 3 μ 256 [(0, .ref (ad 0)), (2, .int v2)] []
                                  have T256 : ∀ (v2 : Int32) (μ : Mem), Y256 v2 μ → WB sM l D C ad rm_X7_coast K 3 μ 256 [(0, .ref (ad 0)), (2, .int v2)] [] := by
                                    intro v2 μ h
                                    rw [eY] at h
                                    exact h
                                  clear eY
                                  have B275 : ∀ (μ : Mem), w_X7_coast_275 μ Q → WB sM l D C ad rm_X7_coast K 3 μ 275 [(0, .ref (ad 0))] [] := by
                                    intro μ h
                                    unfold w_X7_coast_275 at h
                                    have B277 : ∀ (v2 : Int32) (μ : Mem), w_X7_coast_277 v2 μ Q → WB sM l D C ad rm_X7_coast K 3 μ 277 [(0, .ref (ad 0)), (2, .int v2)] [] := by
                                      intro v2 μ h
                                      obtain ⟨Y277, eY⟩ : ∃ Y : Int32 → Mem → Prop, Y = fun (v2 : Int32) (μ : Mem) => WB sM l D C ad rm_X7_coast K 3 μ 277 [(0, .ref (ad 0)), (2, .int v2)] [] := ⟨_, rfl⟩
                                      have B277 : Y277 v2 μ := by
                                        unfold w_X7_coast_277 at h
                                        refine h Y277 ?_
                                        clear h
                                        intro v2 μ h
                                        unfold s_X7_coast_277 at h
                                        rw [eY]
                                        show WB sM l D C ad rm_X7_coast K 3 μ 277 [(0, .ref (ad 0)), (2, .int v2)] []
                                        have T277 : ∀ (v2 : Int32) (μ : Mem), Y277 v2 μ → WB sM l D C ad rm_X7_coast K 3 μ 277 [(0, .ref (ad 0)), (2, .int v2)] [] := by
                                          intro v2 μ h
                                          rw [eY] at h
                                          exact h
                                        clear eY
                                        have B359 : ∀ (μ : Mem), w_X7_coast_359 μ Q → WB sM l D C ad rm_X7_coast K 3 μ 359 [(0, .ref (ad 0))] [] := by
                                          intro μ h
                                          unfold w_X7_coast_359 at h
                                          refine b_aload_n X dX7_coast_359 rfl 0 rfl ?_
                                          refine b_iconst (v := (nI 0)) X dX7_coast_360 (by decide) ?_
                                          refine p_7_37 X kM_0 m_f_X7_188 dX7_coast_361 (fun μ26 eμ26 => ?_)
                                          replace h := h μ26 eμ26
                                          refine b_aload_n X dX7_coast_364 rfl 0 rfl ?_
                                          refine b_iconst (v := (nI 0)) X dX7_coast_365 (by decide) ?_
                                          refine p_7_39 X kM_0 m_f_X7_191 dX7_coast_366 (fun μ27 eμ27 => ?_)
                                          replace h := h μ27 eμ27
                                          refine b_aload_n X dX7_coast_369 rfl 0 rfl ?_
                                          refine b_iconst (v := (nI 0)) X dX7_coast_370 (by decide) ?_
                                          refine p_7_32 X kM_0 m_f_X7_194 dX7_coast_371 (fun μ28 eμ28 => ?_)
                                          replace h := h μ28 eμ28
                                          refine b_aload_n X dX7_coast_374 rfl 0 rfl ?_
                                          refine g_7_41 X kM_0 m_f_X7_74 dX7_coast_375 ?_
                                          refine b_iconst (v := (nI 0)) X dX7_coast_378 (by decide) ?_
                                          refine b_iconst (v := (nI 0)) X dX7_coast_379 (by decide) ?_
                                          have hz := h.1
                                          replace h := h.2
                                          refine b_zast X kM_21 nM_21 hz (Or.inl rfl) dX7_coast_380 (fun μ29 eμ29 => ?_)
                                          clear hz
                                          replace h := h μ29 eμ29
                                          refine b_aload_n X dX7_coast_381 rfl 0 rfl ?_
                                          refine g_7_41 X kM_0 m_f_X7_74 dX7_coast_382 ?_
                                          refine b_iconst (v := (nI 1)) X dX7_coast_385 (by decide) ?_
                                          refine b_iconst (v := (nI 0)) X dX7_coast_386 (by decide) ?_
                                          have hz := h.1
                                          replace h := h.2
                                          refine b_zast X kM_21 nM_21 hz (Or.inl rfl) dX7_coast_387 (fun μ30 eμ30 => ?_)
                                          clear hz
                                          replace h := h μ30 eμ30
                                          refine b_aload_n X dX7_coast_388 rfl 0 rfl ?_
                                          refine g_7_20 X kM_0 m_f_X7_179 dX7_coast_389 ?_
                                          exact hret _ _ _ _ h dX7_coast_392
                                        refine b_iload_n X dX7_coast_277 rfl 1 rfl ?_
                                        refine b_aload_n X dX7_coast_278 rfl 0 rfl ?_
                                        refine g_7_20 X kM_0 m_f_X7_179 dX7_coast_279 ?_
                                        refine b_icmp_ge (t := 359) X dX7_coast_282 (by decide) (fun c => ?_) (fun c => ?_)
                                        · replace h := h.1 c
                                          refine b_sub (lv' := [(0, .ref (ad 0))]) [0] rfl ?_
                                          exact B359 μ h
                                        · replace h := h.2 c
                                          refine b_aload_n X dX7_coast_285 rfl 0 rfl ?_
                                          refine g_7_29 X kM_0 m_f_X7_53 dX7_coast_286 ?_
                                          refine b_bipush (v := (nI 15)) X dX7_coast_289 (by decide) ?_
                                          refine b_iload_n X dX7_coast_291 rfl 1 rfl ?_
                                          refine b_iadd X dX7_coast_292 ?_
                                          refine b_aload_n X dX7_coast_293 rfl 0 rfl ?_
                                          refine g_7_15 X kM_0 m_f_X7_29 dX7_coast_294 ?_
                                          refine b_iconst (v := (nI 4)) X dX7_coast_297 (by decide) ?_
                                          refine b_iload_n X dX7_coast_298 rfl 1 rfl ?_
                                          refine b_imul X dX7_coast_299 ?_
                                          have hz := h.1
                                          replace h := h.2
                                          refine b_iald X kM_6 nM_6 hz dX7_coast_300 ?_
                                          clear hz
                                          have hz := h.1
                                          replace h := h.2
                                          refine b_iast X kM_14 nM_14 hz dX7_coast_301 (fun μ21 eμ21 => ?_)
                                          clear hz
                                          replace h := h μ21 eμ21
                                          refine b_aload_n X dX7_coast_302 rfl 0 rfl ?_
                                          refine g_7_29 X kM_0 m_f_X7_53 dX7_coast_303 ?_
                                          refine b_bipush (v := (nI 21)) X dX7_coast_306 (by decide) ?_
                                          refine b_iload_n X dX7_coast_308 rfl 1 rfl ?_
                                          refine b_iadd X dX7_coast_309 ?_
                                          refine b_aload_n X dX7_coast_310 rfl 0 rfl ?_
                                          refine g_7_15 X kM_0 m_f_X7_29 dX7_coast_311 ?_
                                          refine b_iconst (v := (nI 4)) X dX7_coast_314 (by decide) ?_
                                          refine b_iload_n X dX7_coast_315 rfl 1 rfl ?_
                                          refine b_imul X dX7_coast_316 ?_
                                          refine b_iconst (v := (nI 1)) X dX7_coast_317 (by decide) ?_
                                          refine b_iadd X dX7_coast_318 ?_
                                          have hz := h.1
                                          replace h := h.2
                                          refine b_iald X kM_6 nM_6 hz dX7_coast_319 ?_
                                          clear hz
                                          have hz := h.1
                                          replace h := h.2
                                          refine b_iast X kM_14 nM_14 hz dX7_coast_320 (fun μ22 eμ22 => ?_)
                                          clear hz
                                          replace h := h μ22 eμ22
                                          refine b_aload_n X dX7_coast_321 rfl 0 rfl ?_
                                          refine g_7_24 X kM_0 m_f_X7_38 dX7_coast_322 ?_
                                          refine b_iload_n X dX7_coast_325 rfl 1 rfl ?_
                                          refine b_aload_n X dX7_coast_326 rfl 0 rfl ?_
                                          refine g_7_15 X kM_0 m_f_X7_29 dX7_coast_327 ?_
                                          refine b_iconst (v := (nI 4)) X dX7_coast_330 (by decide) ?_
                                          refine b_iload_n X dX7_coast_331 rfl 1 rfl ?_
                                          refine b_imul X dX7_coast_332 ?_
                                          refine b_iconst (v := (nI 2)) X dX7_coast_333 (by decide) ?_
                                          refine b_iadd X dX7_coast_334 ?_
                                          have hz := h.1
                                          replace h := h.2
                                          refine b_iald X kM_6 nM_6 hz dX7_coast_335 ?_
                                          clear hz
                                          have hz := h.1
                                          replace h := h.2
                                          refine b_iast X kM_9 nM_9 hz dX7_coast_336 (fun μ23 eμ23 => ?_)
                                          clear hz
                                          replace h := h μ23 eμ23
                                          refine b_aload_n X dX7_coast_337 rfl 0 rfl ?_
                                          refine g_7_25 X kM_0 m_f_X7_41 dX7_coast_338 ?_
                                          refine b_iload_n X dX7_coast_341 rfl 1 rfl ?_
                                          refine b_aload_n X dX7_coast_342 rfl 0 rfl ?_
                                          refine g_7_15 X kM_0 m_f_X7_29 dX7_coast_343 ?_
                                          refine b_iconst (v := (nI 4)) X dX7_coast_346 (by decide) ?_
                                          refine b_iload_n X dX7_coast_347 rfl 1 rfl ?_
                                          refine b_imul X dX7_coast_348 ?_
                                          refine b_iconst (v := (nI 3)) X dX7_coast_349 (by decide) ?_
                                          refine b_iadd X dX7_coast_350 ?_
                                          have hz := h.1
                                          replace h := h.2
                                          refine b_iald X kM_6 nM_6 hz dX7_coast_351 ?_
                                          clear hz
                                          have hz := h.1
                                          replace h := h.2
                                          refine b_iast X kM_10 nM_10 hz dX7_coast_352 (fun μ24 eμ24 => ?_)
                                          clear hz
                                          replace h := h μ24 eμ24
                                          obtain ⟨x25, ex25⟩ : ∃ y : Int32, y = v2 + (nI 1) := ⟨_, rfl⟩
                                          replace h := h x25 ex25
                                          refine b_iinc (x := x25) (lv' := [(2, .int x25), (0, .ref (ad 0))]) (q := 1) X dX7_coast_353 rfl (by rw [ex25]; rfl) (by decide) rfl ?_
                                          refine b_goto (t := 277) X dX7_coast_356 (by decide) ?_
                                          refine b_sub (lv' := [(0, .ref (ad 0)), (2, .int x25)]) [1, 0] rfl ?_
                                          exact T277 x25 μ24 h
                                      rw [eY] at B277
                                      exact B277
                                    refine b_iconst (v := (nI 0)) X dX7_coast_275 (by decide) ?_
                                    refine b_istore_n (lv' := [(2, .int (nI 0)), (0, .ref (ad 0))]) X dX7_coast_276 rfl (by decide) rfl ?_
                                    refine b_sub (lv' := [(0, .ref (ad 0)), (2, .int (nI 0))]) [1, 0] rfl ?_
                                    exact B277 (nI 0) μ h
                                  refine b_iload_n X dX7_coast_256 rfl 1 rfl ?_
                                  refine b_bipush (v := (nI 27)) X dX7_coast_257 (by decide) ?_
                                  refine b_icmp_ge (t := 275) X dX7_coast_259 (by decide) (fun c => ?_) (fun c => ?_)
                                  · replace h := h.1 c
                                    refine b_sub (lv' := [(0, .ref (ad 0))]) [0] rfl ?_
                                    exact B275 μ h
                                  · replace h := h.2 c
                                    refine b_aload_n X dX7_coast_262 rfl 0 rfl ?_
                                    refine g_7_29 X kM_0 m_f_X7_53 dX7_coast_263 ?_
                                    refine b_iload_n X dX7_coast_266 rfl 1 rfl ?_
                                    refine b_iconst (v := (nI 0)) X dX7_coast_267 (by decide) ?_
                                    have hz := h.1
                                    replace h := h.2
                                    refine b_iast X kM_14 nM_14 hz dX7_coast_268 (fun μ19 eμ19 => ?_)
                                    clear hz
                                    replace h := h μ19 eμ19
                                    obtain ⟨x20, ex20⟩ : ∃ y : Int32, y = v2 + (nI 1) := ⟨_, rfl⟩
                                    replace h := h x20 ex20
                                    refine b_iinc (x := x20) (lv' := [(2, .int x20), (0, .ref (ad 0))]) (q := 1) X dX7_coast_269 rfl (by rw [ex20]; rfl) (by decide) rfl ?_
                                    refine b_goto (t := 256) X dX7_coast_272 (by decide) ?_
                                    refine b_sub (lv' := [(0, .ref (ad 0)), (2, .int x20)]) [1, 0] rfl ?_
                                    exact T256 x20 μ19 h
                                rw [eY] at B256
                                exact B256
                              refine b_iconst (v := (nI 0)) X dX7_coast_254 (by decide) ?_
                              refine b_istore_n (lv' := [(2, .int (nI 0)), (0, .ref (ad 0))]) X dX7_coast_255 rfl (by decide) rfl ?_
                              refine b_sub (lv' := [(0, .ref (ad 0)), (2, .int (nI 0))]) [1, 0] rfl ?_
                              exact B256 (nI 0) μ h
                            have B224 : ∀ (v2 : Int32) (s3 : Int32) (s2 : Int32) (μ : Mem), w_X7_coast_224 Y196 v2 s3 s2 μ Q → WB sM l D C ad rm_X7_coast K 3 μ 224 [(0, .ref (ad 0)), (2, .int v2)] [.int s3, .int s2, .ref (ad 12)] := by
                              intro v2 s3 s2 μ h
                              unfold w_X7_coast_224 at h
                              have B247 : ∀ (v2 : Int32) (s3 : Int32) (s2 : Int32) (μ : Mem), w_X7_coast_247 Y196 v2 s3 s2 μ Q → WB sM l D C ad rm_X7_coast K 3 μ 247 [(0, .ref (ad 0)), (2, .int v2)] [.int s3, .int s2, .ref (ad 13)] := by
                                intro v2 s3 s2 μ h
                                unfold w_X7_coast_247 at h
                                have hz := h.1
                                replace h := h.2
                                refine b_iast X kM_13 nM_13 hz dX7_coast_247 (fun μ17 eμ17 => ?_)
                                clear hz
                                replace h := h μ17 eμ17
                                obtain ⟨x18, ex18⟩ : ∃ y : Int32, y = v2 + (nI 1) := ⟨_, rfl⟩
                                replace h := h x18 ex18
                                refine b_iinc (x := x18) (lv' := [(2, .int x18), (0, .ref (ad 0))]) (q := 1) X dX7_coast_248 rfl (by rw [ex18]; rfl) (by decide) rfl ?_
                                refine b_goto (t := 196) X dX7_coast_251 (by decide) ?_
                                refine b_sub (lv' := [(0, .ref (ad 0)), (2, .int x18)]) [1, 0] rfl ?_
                                exact T196 x18 μ17 h
                              have hz := h.1
                              replace h := h.2
                              refine b_iast X kM_12 nM_12 hz dX7_coast_224 (fun μ16 eμ16 => ?_)
                              clear hz
                              replace h := h μ16 eμ16
                              refine b_aload_n X dX7_coast_225 rfl 0 rfl ?_
                              refine g_7_28 X kM_0 m_f_X7_50 dX7_coast_226 ?_
                              refine b_iload_n X dX7_coast_229 rfl 1 rfl ?_
                              refine b_aload_n X dX7_coast_230 rfl 0 rfl ?_
                              refine g_7_8 X kM_0 m_f_X7_164 dX7_coast_231 ?_
                              refine b_if_eq (t := 246) X dX7_coast_234 (by decide) (fun c => ?_) (fun c => ?_)
                              · replace h := h.1 c
                                refine b_iconst (v := (nI 0)) X dX7_coast_246 (by decide) ?_
                                refine b_sub (lv' := [(0, .ref (ad 0)), (2, .int v2)]) [0, 1] rfl ?_
                                exact B247 v2 (nI 0) v2 μ16 h
                              · replace h := h.2 c
                                refine b_aload_n X dX7_coast_237 rfl 0 rfl ?_
                                refine g_7_13 X kM_0 m_f_X7_23 dX7_coast_238 ?_
                                refine b_iload_n X dX7_coast_241 rfl 1 rfl ?_
                                have hz := h.1
                                replace h := h.2
                                refine b_iald X kM_4 nM_4 hz dX7_coast_242 ?_
                                clear hz
                                refine b_goto (t := 247) X dX7_coast_243 (by decide) ?_
                                refine b_sub (lv' := [(0, .ref (ad 0)), (2, .int v2)]) [0, 1] rfl ?_
                                exact B247 v2 (μ16.1 4 (v2).toNatClampNeg) v2 μ16 h
                            refine b_iload_n X dX7_coast_196 rfl 1 rfl ?_
                            refine b_iconst (v := (nI 2)) X dX7_coast_197 (by decide) ?_
                            refine b_icmp_ge (t := 254) X dX7_coast_198 (by decide) (fun c => ?_) (fun c => ?_)
                            · replace h := h.1 c
                              refine b_sub (lv' := [(0, .ref (ad 0))]) [0] rfl ?_
                              exact B254 μ h
                            · replace h := h.2 c
                              refine b_aload_n X dX7_coast_201 rfl 0 rfl ?_
                              refine g_7_27 X kM_0 m_f_X7_47 dX7_coast_202 ?_
                              refine b_iload_n X dX7_coast_205 rfl 1 rfl ?_
                              refine b_aload_n X dX7_coast_206 rfl 0 rfl ?_
                              refine g_7_8 X kM_0 m_f_X7_164 dX7_coast_207 ?_
                              refine b_if_eq (t := 222) X dX7_coast_210 (by decide) (fun c => ?_) (fun c => ?_)
                              · replace h := h.1 c
                                refine b_bipush (v := (nI 127)) X dX7_coast_222 (by decide) ?_
                                refine b_sub (lv' := [(0, .ref (ad 0)), (2, .int v2)]) [0, 1] rfl ?_
                                exact B224 v2 (nI 127) v2 μ h
                              · replace h := h.2 c
                                refine b_aload_n X dX7_coast_213 rfl 0 rfl ?_
                                refine g_7_12 X kM_0 m_f_X7_20 dX7_coast_214 ?_
                                refine b_iload_n X dX7_coast_217 rfl 1 rfl ?_
                                have hz := h.1
                                replace h := h.2
                                refine b_iald X kM_3 nM_3 hz dX7_coast_218 ?_
                                clear hz
                                refine b_goto (t := 224) X dX7_coast_219 (by decide) ?_
                                refine b_sub (lv' := [(0, .ref (ad 0)), (2, .int v2)]) [0, 1] rfl ?_
                                exact B224 v2 (μ.1 3 (v2).toNatClampNeg) v2 μ h
                          rw [eY] at B196
                          exact B196
                        refine b_iconst (v := (nI 0)) X dX7_coast_194 (by decide) ?_
                        refine b_istore_n (lv' := [(2, .int (nI 0)), (0, .ref (ad 0))]) X dX7_coast_195 rfl (by decide) rfl ?_
                        refine b_sub (lv' := [(0, .ref (ad 0)), (2, .int (nI 0))]) [1, 0] rfl ?_
                        exact B196 (nI 0) μ h
                      refine b_iload_n X dX7_coast_170 rfl 1 rfl ?_
                      refine b_bipush (v := (nI 8)) X dX7_coast_171 (by decide) ?_
                      refine b_icmp_ge (t := 194) X dX7_coast_173 (by decide) (fun c => ?_) (fun c => ?_)
                      · replace h := h.1 c
                        refine b_sub (lv' := [(0, .ref (ad 0))]) [0] rfl ?_
                        exact B194 μ h
                      · replace h := h.2 c
                        refine b_aload_n X dX7_coast_176 rfl 0 rfl ?_
                        refine g_7_26 X kM_0 m_f_X7_44 dX7_coast_177 ?_
                        refine b_iload_n X dX7_coast_180 rfl 1 rfl ?_
                        refine b_aload_n X dX7_coast_181 rfl 0 rfl ?_
                        refine g_7_16 X kM_0 m_f_X7_32 dX7_coast_182 ?_
                        refine b_iload_n X dX7_coast_185 rfl 1 rfl ?_
                        have hz := h.1
                        replace h := h.2
                        refine b_iald X kM_7 nM_7 hz dX7_coast_186 ?_
                        clear hz
                        have hz := h.1
                        replace h := h.2
                        refine b_iast X kM_11 nM_11 hz dX7_coast_187 (fun μ14 eμ14 => ?_)
                        clear hz
                        replace h := h μ14 eμ14
                        obtain ⟨x15, ex15⟩ : ∃ y : Int32, y = v2 + (nI 1) := ⟨_, rfl⟩
                        replace h := h x15 ex15
                        refine b_iinc (x := x15) (lv' := [(2, .int x15), (0, .ref (ad 0))]) (q := 1) X dX7_coast_188 rfl (by rw [ex15]; rfl) (by decide) rfl ?_
                        refine b_goto (t := 170) X dX7_coast_191 (by decide) ?_
                        refine b_sub (lv' := [(0, .ref (ad 0)), (2, .int x15)]) [1, 0] rfl ?_
                        exact T170 x15 μ14 h
                    rw [eY] at B170
                    exact B170
                  refine b_iconst (v := (nI 0)) X dX7_coast_168 (by decide) ?_
                  refine b_istore_n (lv' := [(2, .int (nI 0)), (0, .ref (ad 0))]) X dX7_coast_169 rfl (by decide) rfl ?_
                  refine b_sub (lv' := [(0, .ref (ad 0)), (2, .int (nI 0))]) [1, 0] rfl ?_
                  exact B170 (nI 0) μ h
                refine b_iload_n X dX7_coast_144 rfl 1 rfl ?_
                refine b_bipush (v := (nI 24)) X dX7_coast_145 (by decide) ?_
                refine b_icmp_ge (t := 168) X dX7_coast_147 (by decide) (fun c => ?_) (fun c => ?_)
                · replace h := h.1 c
                  refine b_sub (lv' := [(0, .ref (ad 0))]) [0] rfl ?_
                  exact B168 μ h
                · replace h := h.2 c
                  refine b_aload_n X dX7_coast_150 rfl 0 rfl ?_
                  refine g_7_23 X kM_0 m_f_X7_35 dX7_coast_151 ?_
                  refine b_iload_n X dX7_coast_154 rfl 1 rfl ?_
                  refine b_aload_n X dX7_coast_155 rfl 0 rfl ?_
                  refine g_7_14 X kM_0 m_f_X7_26 dX7_coast_156 ?_
                  refine b_iload_n X dX7_coast_159 rfl 1 rfl ?_
                  have hz := h.1
                  replace h := h.2
                  refine b_iald X kM_5 nM_5 hz dX7_coast_160 ?_
                  clear hz
                  have hz := h.1
                  replace h := h.2
                  refine b_iast X kM_8 nM_8 hz dX7_coast_161 (fun μ12 eμ12 => ?_)
                  clear hz
                  replace h := h μ12 eμ12
                  obtain ⟨x13, ex13⟩ : ∃ y : Int32, y = v2 + (nI 1) := ⟨_, rfl⟩
                  replace h := h x13 ex13
                  refine b_iinc (x := x13) (lv' := [(2, .int x13), (0, .ref (ad 0))]) (q := 1) X dX7_coast_162 rfl (by rw [ex13]; rfl) (by decide) rfl ?_
                  refine b_goto (t := 144) X dX7_coast_165 (by decide) ?_
                  refine b_sub (lv' := [(0, .ref (ad 0)), (2, .int x13)]) [1, 0] rfl ?_
                  exact T144 x13 μ12 h
              rw [eY] at B144
              exact B144
            refine p_7_22 X kM_0 m_f_X7_185 dX7_coast_139 (fun μ11 eμ11 => ?_)
            replace h := h μ11 eμ11
            refine b_iconst (v := (nI 0)) X dX7_coast_142 (by decide) ?_
            refine b_istore_n (lv' := [(2, .int (nI 0)), (0, .ref (ad 0))]) X dX7_coast_143 rfl (by decide) rfl ?_
            refine b_sub (lv' := [(0, .ref (ad 0)), (2, .int (nI 0))]) [1, 0] rfl ?_
            exact B144 (nI 0) μ11 h
          refine p_7_21 X kM_0 m_f_X7_182 dX7_coast_120 (fun μ10 eμ10 => ?_)
          replace h := h μ10 eμ10
          refine b_aload_n X dX7_coast_123 rfl 0 rfl ?_
          refine b_aload_n X dX7_coast_124 rfl 0 rfl ?_
          refine g_7_8 X kM_0 m_f_X7_164 dX7_coast_125 ?_
          refine b_if_eq (t := 138) X dX7_coast_128 (by decide) (fun c => ?_) (fun c => ?_)
          · replace h := h.1 c
            refine b_iconst (v := (nI 0)) X dX7_coast_138 (by decide) ?_
            refine b_sub (lv' := [(0, .ref (ad 0))]) [0] rfl ?_
            exact B139 (nI 0) μ10 h
          · replace h := h.2 c
            refine b_aload_n X dX7_coast_131 rfl 0 rfl ?_
            refine g_7_7 X kM_0 m_f_X7_132 dX7_coast_132 ?_
            refine b_goto (t := 139) X dX7_coast_135 (by decide) ?_
            refine b_sub (lv' := [(0, .ref (ad 0))]) [0] rfl ?_
            exact B139 (μ10.1 0 7) μ10 h
        refine p_7_20 X kM_0 m_f_X7_179 dX7_coast_101 (fun μ9 eμ9 => ?_)
        replace h := h μ9 eμ9
        refine b_aload_n X dX7_coast_104 rfl 0 rfl ?_
        refine b_aload_n X dX7_coast_105 rfl 0 rfl ?_
        refine g_7_8 X kM_0 m_f_X7_164 dX7_coast_106 ?_
        refine b_if_eq (t := 119) X dX7_coast_109 (by decide) (fun c => ?_) (fun c => ?_)
        · replace h := h.1 c
          refine b_iconst (v := (nI 0)) X dX7_coast_119 (by decide) ?_
          refine b_sub (lv' := [(0, .ref (ad 0))]) [0] rfl ?_
          exact B120 (nI 0) μ9 h
        · replace h := h.2 c
          refine b_aload_n X dX7_coast_112 rfl 0 rfl ?_
          refine g_7_6 X kM_0 m_f_X7_123 dX7_coast_113 ?_
          refine b_goto (t := 120) X dX7_coast_116 (by decide) ?_
          refine b_sub (lv' := [(0, .ref (ad 0))]) [0] rfl ?_
          exact B120 (μ9.1 0 6) μ9 h
      refine p_7_19 X kM_0 m_f_X7_176 dX7_coast_82 (fun μ8 eμ8 => ?_)
      replace h := h μ8 eμ8
      refine b_aload_n X dX7_coast_85 rfl 0 rfl ?_
      refine b_aload_n X dX7_coast_86 rfl 0 rfl ?_
      refine g_7_8 X kM_0 m_f_X7_164 dX7_coast_87 ?_
      refine b_if_eq (t := 100) X dX7_coast_90 (by decide) (fun c => ?_) (fun c => ?_)
      · replace h := h.1 c
        refine b_iconst (v := (nI 0)) X dX7_coast_100 (by decide) ?_
        refine b_sub (lv' := [(0, .ref (ad 0))]) [0] rfl ?_
        exact B101 (nI 0) μ8 h
      · replace h := h.2 c
        refine b_aload_n X dX7_coast_93 rfl 0 rfl ?_
        refine g_7_5 X kM_0 m_f_X7_126 dX7_coast_94 ?_
        refine b_goto (t := 101) X dX7_coast_97 (by decide) ?_
        refine b_sub (lv' := [(0, .ref (ad 0))]) [0] rfl ?_
        exact B101 (μ8.1 0 5) μ8 h
    refine p_7_18 X kM_0 m_f_X7_173 dX7_coast_61 (fun μ7 eμ7 => ?_)
    replace h := h μ7 eμ7
    refine b_aload_n X dX7_coast_64 rfl 0 rfl ?_
    refine b_aload_n X dX7_coast_65 rfl 0 rfl ?_
    refine g_7_8 X kM_0 m_f_X7_164 dX7_coast_66 ?_
    refine b_if_eq (t := 81) X dX7_coast_69 (by decide) (fun c => ?_) (fun c => ?_)
    · replace h := h.1 c
      refine b_iconst (v := (nI 0)) X dX7_coast_81 (by decide) ?_
      refine b_sub (lv' := [(0, .ref (ad 0))]) [0] rfl ?_
      exact B82 (nI 0) μ7 h
    · replace h := h.2 c
      refine b_aload_n X dX7_coast_72 rfl 0 rfl ?_
      refine g_7_11 X kM_0 m_f_X7_17 dX7_coast_73 ?_
      refine b_iconst (v := (nI 1)) X dX7_coast_76 (by decide) ?_
      have hz := h.1
      replace h := h.2
      refine b_iald X kM_2 nM_2 hz dX7_coast_77 ?_
      clear hz
      refine b_goto (t := 82) X dX7_coast_78 (by decide) ?_
      refine b_sub (lv' := [(0, .ref (ad 0))]) [0] rfl ?_
      exact B82 (μ7.1 2 ((nI 1)).toNatClampNeg) μ7 h
  refine b_aload_n X dX7_coast_0 rfl 0 rfl ?_
  refine bVi (st := []) (nA := 0) X (c_X7_reads l D C ad  μ _ h) kM_0 (by decide) (enc_7 kM_0) rfl gw_X7_167 ⟨rfl, hd_X7_reads⟩ rfl rfl ⟨Nat.le_of_ble_eq_true rfl, Nat.le_of_ble_eq_true rfl⟩ rfl rfl (Nat.le_of_ble_eq_true rfl) dX7_coast_1 (fun r1 μ2 h => ?_)
  refine b_istore_n (lv' := [(1, .int r1), (0, .ref (ad 0))]) X dX7_coast_4 rfl (by decide) rfl ?_
  refine b_aload_n X dX7_coast_5 rfl 1 rfl ?_
  refine b_iconst (v := (nI 0)) X dX7_coast_6 (by decide) ?_
  refine p_7_0 X kM_0 m_f_X7_90 dX7_coast_7 (fun μ3 eμ3 => ?_)
  replace h := h μ3 eμ3
  refine b_iload_n X dX7_coast_10 rfl 0 rfl ?_
  refine b_if_ne (t := 30) X dX7_coast_11 (by decide) (fun c => ?_) (fun c => ?_)
  · replace h := h.1 c
    refine b_aload_n X dX7_coast_30 rfl 1 rfl ?_
    refine b_iconst (v := ((-1) : Int32)) X dX7_coast_31 (by decide) ?_
    refine p_7_2 X kM_0 m_f_X7_13 dX7_coast_32 (fun μ4 eμ4 => ?_)
    replace h := h μ4 eμ4
    refine b_aload_n X dX7_coast_35 rfl 1 rfl ?_
    refine b_aload_n X dX7_coast_36 rfl 1 rfl ?_
    refine g_7_8 X kM_0 m_f_X7_164 dX7_coast_37 ?_
    have hz := h.1
    replace h := h.2
    refine p_7_17 X kM_0 hz m_f_X7_170 dX7_coast_40 (fun μ5 eμ5 => ?_)
    replace h := h μ5 eμ5
    refine b_aload_n X dX7_coast_43 rfl 1 rfl ?_
    refine b_aload_n X dX7_coast_44 rfl 1 rfl ?_
    refine g_7_8 X kM_0 m_f_X7_164 dX7_coast_45 ?_
    refine b_if_eq (t := 60) X dX7_coast_48 (by decide) (fun c => ?_) (fun c => ?_)
    · replace h := h.1 c
      refine b_iconst (v := (nI 0)) X dX7_coast_60 (by decide) ?_
      refine b_sub (lv' := [(0, .ref (ad 0))]) [1] rfl ?_
      exact B61 (nI 0) μ5 h
    · replace h := h.2 c
      refine b_aload_n X dX7_coast_51 rfl 1 rfl ?_
      refine g_7_11 X kM_0 m_f_X7_17 dX7_coast_52 ?_
      refine b_iconst (v := (nI 0)) X dX7_coast_55 (by decide) ?_
      have hz := h.1
      replace h := h.2
      refine b_iald X kM_2 nM_2 hz dX7_coast_56 ?_
      clear hz
      refine b_goto (t := 61) X dX7_coast_57 (by decide) ?_
      refine b_sub (lv' := [(0, .ref (ad 0))]) [1] rfl ?_
      exact B61 (μ5.1 2 ((nI 0)).toNatClampNeg) μ5 h
  · replace h := h.2 c
    refine b_aload_n X dX7_coast_14 rfl 1 rfl ?_
    refine b_aload_n X dX7_coast_15 rfl 1 rfl ?_
    refine g_7_3 X kM_0 m_f_X7_94 dX7_coast_16 ?_
    refine p_7_2 X kM_0 m_f_X7_13 dX7_coast_19 (fun μ6 eμ6 => ?_)
    replace h := h μ6 eμ6
    refine b_bipush (v := ((-10) : Int32)) X dX7_coast_22 (by decide) ?_
    refine b_aload_n X dX7_coast_24 rfl 1 rfl ?_
    refine g_7_4 X kM_0 m_f_X7_101 dX7_coast_25 ?_
    refine b_isub X dX7_coast_28 ?_
    exact hret _ _ _ _ h dX7_coast_29
set_option maxHeartbeats 4000000 in
set_option maxRecDepth 100000 in
theorem c_X7_isPost (l : Launch) (D : va_G) (C : Nat → ClassId) (ad : Nat → Nat) (a1 : Int32) (μ : Mem) (Q : Int32 → Prop) (h : w_X7_isPost a1 μ Q) : Mi sM l yX7_isPost cX7_isPost 2 (some .boolean) rm_X7_isPost D C ad [.ref (ad 0), .int a1] μ (fun r μ' => μ = μ' ∧ Q r) := by
  refine fm_z (by decide +kernel) sM_lt (Nat.le_of_ble_eq_true rfl) (fun K X hret => ?_)
  have X : CK sM D C ad K cX7_isPost 2 RX7 := X
  refine b_lv (lv' := [(0, .ref (ad 0)), (1, .int a1)]) rfl ?_
  unfold w_X7_isPost at h
  refine b_iload_n X dX7_isPost_0 rfl 1 rfl ?_
  refine b_iconst (v := (nI 0)) X dX7_isPost_1 (by decide) ?_
  refine b_aload_n X dX7_isPost_2 rfl 0 rfl ?_
  refine g_7_20 X kM_0 m_f_X7_179 dX7_isPost_3 ?_
  refine b_iconst (v := (nI 1)) X dX7_isPost_6 (by decide) ?_
  refine b_isub X dX7_isPost_7 ?_
  refine bSi (st := []) (nA := 3) X (c_X7_in l D C ad a1 (nI 0) ((μ.1 0 20) - (nI 1)) μ _ h) gw_X7_85 hd_X7_in rfl rfl ⟨Nat.le_of_ble_eq_true rfl, Nat.le_of_ble_eq_true rfl⟩ rfl rfl (Nat.le_of_ble_eq_true rfl) dX7_isPost_8 (fun r1 μ2 h => ?_)
  obtain ⟨rfl, h⟩ := h
  exact hret _ _ _ _ ⟨h.1, rfl, h.2⟩ dX7_isPost_11
set_option maxHeartbeats 4000000 in
set_option maxRecDepth 100000 in
theorem c_X7_isCell (l : Launch) (D : va_G) (C : Nat → ClassId) (ad : Nat → Nat) (a1 : Int32) (μ : Mem) (Q : Int32 → Prop) (h : w_X7_isCell a1 μ Q) : Mi sM l yX7_isCell cX7_isCell 2 (some .boolean) rm_X7_isCell D C ad [.ref (ad 0), .int a1] μ (fun r μ' => μ = μ' ∧ Q r) := by
  refine fm_z (by decide +kernel) sM_lt (Nat.le_of_ble_eq_true rfl) (fun K X hret => ?_)
  have X : CK sM D C ad K cX7_isCell 2 RX7 := X
  refine b_lv (lv' := [(0, .ref (ad 0)), (1, .int a1)]) rfl ?_
  unfold w_X7_isCell at h
  refine b_iload_n X dX7_isCell_0 rfl 1 rfl ?_
  refine b_iconst (v := (nI 0)) X dX7_isCell_1 (by decide) ?_
  refine b_aload_n X dX7_isCell_2 rfl 0 rfl ?_
  refine g_7_18 X kM_0 m_f_X7_173 dX7_isCell_3 ?_
  refine b_iconst (v := (nI 1)) X dX7_isCell_6 (by decide) ?_
  refine b_isub X dX7_isCell_7 ?_
  refine bSi (st := []) (nA := 3) X (c_X7_in l D C ad a1 (nI 0) ((μ.1 0 18) - (nI 1)) μ _ h) gw_X7_85 hd_X7_in rfl rfl ⟨Nat.le_of_ble_eq_true rfl, Nat.le_of_ble_eq_true rfl⟩ rfl rfl (Nat.le_of_ble_eq_true rfl) dX7_isCell_8 (fun r1 μ2 h => ?_)
  obtain ⟨rfl, h⟩ := h
  exact hret _ _ _ _ ⟨h.1, rfl, h.2⟩ dX7_isCell_11
set_option maxHeartbeats 4000000 in
set_option maxRecDepth 100000 in
theorem c_X7_isVillage (l : Launch) (D : va_G) (C : Nat → ClassId) (ad : Nat → Nat) (a0 : Int32) (μ : Mem) (Q : Int32 → Prop) (h : w_X7_isVillage a0 μ Q) : Mi sM l yX7_isVillage cX7_isVillage 1 (some .boolean) rm_X7_isVillage D C ad [.int a0] μ (fun r μ' => μ = μ' ∧ Q r) := by
  refine fm_z (by decide +kernel) sM_lt (Nat.le_of_ble_eq_true rfl) (fun K X hret => ?_)
  have X : CK sM D C ad K cX7_isVillage 1 RX7 := X
  refine b_lv (lv' := [(0, .int a0)]) rfl ?_
  unfold w_X7_isVillage at h
  refine b_iload_n X dX7_isVillage_0 rfl 0 rfl ?_
  refine b_iconst (v := (nI 0)) X dX7_isVillage_1 (by decide) ?_
  refine b_iconst (v := (nI 1)) X dX7_isVillage_2 (by decide) ?_
  refine bSi (st := []) (nA := 3) X (c_X7_in l D C ad a0 (nI 0) (nI 1) μ _ h) gw_X7_85 hd_X7_in rfl rfl ⟨Nat.le_of_ble_eq_true rfl, Nat.le_of_ble_eq_true rfl⟩ rfl rfl (Nat.le_of_ble_eq_true rfl) dX7_isVillage_3 (fun r1 μ2 h => ?_)
  obtain ⟨rfl, h⟩ := h
  exact hret _ _ _ _ ⟨h.1, rfl, h.2⟩ dX7_isVillage_6
set_option maxHeartbeats 4000000 in
set_option maxRecDepth 100000 in
theorem c_X7_dayLong (l : Launch) (D : va_G) (C : Nat → ClassId) (ad : Nat → Nat)  (μ : Mem) (Q : Int32 → Prop) (h : w_X7_dayLong  μ Q) : Mi sM l yX7_dayLong cX7_dayLong 1 (some .int) rm_X7_dayLong D C ad [.ref (ad 0)] μ (fun r μ' => μ = μ' ∧ Q r) := by
  refine fm_i (by decide +kernel) sM_lt (Nat.le_of_ble_eq_true rfl) (fun K X hret => ?_)
  have X : CK sM D C ad K cX7_dayLong 1 RX7 := X
  refine b_lv (lv' := [(0, .ref (ad 0))]) rfl ?_
  unfold w_X7_dayLong at h
  refine b_aload_n X dX7_dayLong_0 rfl 0 rfl ?_
  refine g_7_17 X kM_0 m_f_X7_170 dX7_dayLong_1 ?_
  refine b_if_ne (t := 11) X dX7_dayLong_4 (by decide) (fun c => ?_) (fun c => ?_)
  · replace h := h.1 c
    refine b_aload_n X dX7_dayLong_11 rfl 0 rfl ?_
    refine g_7_21 X kM_0 m_f_X7_182 dX7_dayLong_12 ?_
    refine b_if_le (t := 25) X dX7_dayLong_15 (by decide) (fun c => ?_) (fun c => ?_)
    · replace h := h.1 c
      refine b_iconst (v := (nI 1)) X dX7_dayLong_25 (by decide) ?_
      exact hret _ _ _ _ ⟨rfl, h⟩ dX7_dayLong_26
    · replace h := h.2 c
      refine b_aload_n X dX7_dayLong_18 rfl 0 rfl ?_
      refine g_7_21 X kM_0 m_f_X7_182 dX7_dayLong_19 ?_
      refine b_goto (t := 26) X dX7_dayLong_22 (by decide) ?_
      exact hret _ _ _ _ ⟨rfl, h⟩ dX7_dayLong_26
  · replace h := h.2 c
    refine b_iconst (v := (nI 0)) X dX7_dayLong_7 (by decide) ?_
    refine b_goto (t := 26) X dX7_dayLong_8 (by decide) ?_
    exact hret _ _ _ _ ⟨rfl, h⟩ dX7_dayLong_26
set_option maxHeartbeats 4000000 in
set_option maxRecDepth 100000 in
theorem c_X7_sideOf (l : Launch) (D : va_G) (C : Nat → ClassId) (ad : Nat → Nat) (b1 : Nat) (h1 : sM.2.1 b1 = 8) (n1 : sM.2.2 b1 = 27) (μ : Mem) (Q : Int32 → Prop) (h : w_X7_sideOf b1 μ Q) : Mi sM l yX7_sideOf cX7_sideOf 2 (some .int) rm_X7_sideOf D C ad [.ref (ad 0), .ref (ad b1)] μ (fun r μ' => μ = μ' ∧ Q r) := by
  refine fm_i (by decide +kernel) sM_lt (Nat.le_of_ble_eq_true rfl) (fun K X hret => ?_)
  have X : CK sM D C ad K cX7_sideOf 2 RX7 := X
  refine b_lv (lv' := [(0, .ref (ad 0)), (1, .ref (ad b1))]) rfl ?_
  unfold w_X7_sideOf at h
  refine b_aload_n X dX7_sideOf_0 rfl 0 rfl ?_
  refine g_7_21 X kM_0 m_f_X7_182 dX7_sideOf_1 ?_
  refine b_if_le (t := 20) X dX7_sideOf_4 (by decide) (fun c => ?_) (fun c => ?_)
  · replace h := h.1 c
    refine b_iconst (v := (nI 0)) X dX7_sideOf_20 (by decide) ?_
    exact hret _ _ _ _ ⟨rfl, h⟩ dX7_sideOf_21
  · replace h := h.2 c
    refine b_aload_n X dX7_sideOf_7 rfl 0 rfl ?_
    refine g_7_23 X kM_0 m_f_X7_35 dX7_sideOf_8 ?_
    refine b_iconst (v := (nI 2)) X dX7_sideOf_11 (by decide) ?_
    refine b_aload_n X dX7_sideOf_12 rfl 1 rfl ?_
    refine b_iconst (v := (nI 1)) X dX7_sideOf_13 (by decide) ?_
    have hz := h.1
    replace h := h.2
    refine b_iald X h1 n1 hz dX7_sideOf_14 ?_
    clear hz
    refine b_imul X dX7_sideOf_15 ?_
    have hz := h.1
    replace h := h.2
    refine b_iald X kM_8 nM_8 hz dX7_sideOf_16 ?_
    clear hz
    refine b_topi (fun x1 ex1 => ?_)
    replace h := h x1 ex1
    refine b_goto (t := 21) X dX7_sideOf_17 (by decide) ?_
    exact hret _ _ _ _ ⟨rfl, h⟩ dX7_sideOf_21
set_option maxHeartbeats 4000000 in
set_option maxRecDepth 100000 in
theorem c_X7_fogOf (l : Launch) (D : va_G) (C : Nat → ClassId) (ad : Nat → Nat) (b1 : Nat) (h1 : sM.2.1 b1 = 8) (n1 : sM.2.2 b1 = 27) (μ : Mem) (Q : Int32 → Prop) (h : w_X7_fogOf b1 μ Q) : Mi sM l yX7_fogOf cX7_fogOf 2 (some .int) rm_X7_fogOf D C ad [.ref (ad 0), .ref (ad b1)] μ (fun r μ' => μ = μ' ∧ Q r) := by
  refine fm_i (by decide +kernel) sM_lt (Nat.le_of_ble_eq_true rfl) (fun K X hret => ?_)
  have X : CK sM D C ad K cX7_fogOf 2 RX7 := X
  refine b_lv (lv' := [(0, .ref (ad 0)), (1, .ref (ad b1))]) rfl ?_
  unfold w_X7_fogOf at h
  refine b_aload_n X dX7_fogOf_0 rfl 0 rfl ?_
  refine g_7_21 X kM_0 m_f_X7_182 dX7_fogOf_1 ?_
  refine b_if_le (t := 22) X dX7_fogOf_4 (by decide) (fun c => ?_) (fun c => ?_)
  · replace h := h.1 c
    refine b_iconst (v := (nI 0)) X dX7_fogOf_22 (by decide) ?_
    exact hret _ _ _ _ ⟨rfl, h⟩ dX7_fogOf_23
  · replace h := h.2 c
    refine b_aload_n X dX7_fogOf_7 rfl 0 rfl ?_
    refine g_7_23 X kM_0 m_f_X7_35 dX7_fogOf_8 ?_
    refine b_iconst (v := (nI 2)) X dX7_fogOf_11 (by decide) ?_
    refine b_aload_n X dX7_fogOf_12 rfl 1 rfl ?_
    refine b_iconst (v := (nI 1)) X dX7_fogOf_13 (by decide) ?_
    have hz := h.1
    replace h := h.2
    refine b_iald X h1 n1 hz dX7_fogOf_14 ?_
    clear hz
    refine b_imul X dX7_fogOf_15 ?_
    refine b_iconst (v := (nI 1)) X dX7_fogOf_16 (by decide) ?_
    refine b_iadd X dX7_fogOf_17 ?_
    have hz := h.1
    replace h := h.2
    refine b_iald X kM_8 nM_8 hz dX7_fogOf_18 ?_
    clear hz
    refine b_topi (fun x1 ex1 => ?_)
    replace h := h x1 ex1
    refine b_goto (t := 23) X dX7_fogOf_19 (by decide) ?_
    exact hret _ _ _ _ ⟨rfl, h⟩ dX7_fogOf_23
set_option maxHeartbeats 4000000 in
set_option maxRecDepth 100000 in
theorem c_X7_isHanging (l : Launch) (D : va_G) (C : Nat → ClassId) (ad : Nat → Nat) (b1 : Nat) (h1 : sM.2.1 b1 = 8) (n1 : sM.2.2 b1 = 27) (a2 : Int32) (μ : Mem) (Q : Int32 → Prop) (h : w_X7_isHanging b1 a2 μ Q) : Mi sM l yX7_isHanging cX7_isHanging 3 (some .boolean) rm_X7_isHanging D C ad [.ref (ad 0), .ref (ad b1), .int a2] μ (fun r μ' => μ = μ' ∧ Q r) := by
  refine fm_z (by decide +kernel) sM_lt (Nat.le_of_ble_eq_true rfl) (fun K X hret => ?_)
  have X : CK sM D C ad K cX7_isHanging 3 RX7 := X
  refine b_lv (lv' := [(0, .ref (ad 0)), (1, .ref (ad b1)), (2, .int a2)]) rfl ?_
  unfold w_X7_isHanging at h
  refine b_aload_n X dX7_isHanging_0 rfl 0 rfl ?_
  refine g_7_27 X kM_0 m_f_X7_47 dX7_isHanging_1 ?_
  refine b_aload_n X dX7_isHanging_4 rfl 0 rfl ?_
  refine g_7_25 X kM_0 m_f_X7_41 dX7_isHanging_5 ?_
  refine b_iload_n X dX7_isHanging_8 rfl 2 rfl ?_
  have hz := h.1
  replace h := h.2
  refine b_iald X kM_10 nM_10 hz dX7_isHanging_9 ?_
  clear hz
  have hz := h.1
  replace h := h.2
  refine b_iald X kM_12 nM_12 hz dX7_isHanging_10 ?_
  clear hz
  refine b_aload_n X dX7_isHanging_11 rfl 1 rfl ?_
  refine b_iconst (v := (nI 0)) X dX7_isHanging_12 (by decide) ?_
  have hz := h.1
  replace h := h.2
  refine b_iald X h1 n1 hz dX7_isHanging_13 ?_
  clear hz
  refine b_bipush (v := (nI 7)) X dX7_isHanging_14 (by decide) ?_
  have hz := h.1
  replace h := h.2
  refine b_irem X dX7_isHanging_16 hz ?_
  clear hz
  refine b_topi (fun x1 ex1 => ?_)
  replace h := h x1 ex1
  refine bSi (st := []) (nA := 2) X (c_X7_has l D C ad (μ.1 12 ((μ.1 10 (a2).toNatClampNeg)).toNatClampNeg) x1 μ _ h) gw_X7_197 hd_X7_has rfl rfl ⟨Nat.le_of_ble_eq_true rfl, Nat.le_of_ble_eq_true rfl⟩ rfl rfl (Nat.le_of_ble_eq_true rfl) dX7_isHanging_17 (fun r2 μ3 h => ?_)
  obtain ⟨rfl, h⟩ := h
  exact hret _ _ _ _ ⟨h.1, rfl, h.2⟩ dX7_isHanging_20
set_option maxHeartbeats 4000000 in
set_option maxRecDepth 100000 in
theorem c_X7_hanging (l : Launch) (D : va_G) (C : Nat → ClassId) (ad : Nat → Nat) (b1 : Nat) (h1 : sM.2.1 b1 = 8) (n1 : sM.2.2 b1 = 27) (μ : Mem) (Q : Int32 → Prop) (h : w_X7_hanging b1 μ Q) : Mi sM l yX7_hanging cX7_hanging 4 (some .int) rm_X7_hanging D C ad [.ref (ad 0), .ref (ad b1)] μ (fun r μ' => μ = μ' ∧ Q r) := by
  refine fm_i (by decide +kernel) sM_lt (Nat.le_of_ble_eq_true rfl) (fun K X hret => ?_)
  have X : CK sM D C ad K cX7_hanging 4 RX7 := X
  refine b_lv (lv' := [(0, .ref (ad 0)), (1, .ref (ad b1))]) rfl ?_
  unfold w_X7_hanging at h
  have B4 : ∀ (v2 : Int32) (v3 : Int32), w_X7_hanging_4 b1 v2 v3 μ Q → WB sM l D C ad rm_X7_hanging K 4 μ 4 [(0, .ref (ad 0)), (1, .ref (ad b1)), (2, .int v2), (3, .int v3)] [] := by
    intro v2 v3 h
    obtain ⟨Y4, eY⟩ : ∃ Y : Int32 → Int32 → Prop, Y = fun (v2 : Int32) (v3 : Int32) => WB sM l D C ad rm_X7_hanging K 4 μ 4 [(0, .ref (ad 0)), (1, .ref (ad b1)), (2, .int v2), (3, .int v3)] [] := ⟨_, rfl⟩
    have B4 : Y4 v2 v3 := by
      unfold w_X7_hanging_4 at h
      refine h Y4 ?_
      clear h
      intro v2 v3 h
      unfold s_X7_hanging_4 at h
      rw [eY]
      show WB sM l D C ad rm_X7_hanging K 4 μ 4 [(0, .ref (ad 0)), (1, .ref (ad b1)), (2, .int v2), (3, .int v3)] []
      have T4 : ∀ (v2 : Int32) (v3 : Int32), Y4 v2 v3 → WB sM l D C ad rm_X7_hanging K 4 μ 4 [(0, .ref (ad 0)), (1, .ref (ad b1)), (2, .int v2), (3, .int v3)] [] := by
        intro v2 v3 h
        rw [eY] at h
        exact h
      clear eY
      have B29 : ∀ (v3 : Int32) (s2 : Int32) (s1 : Int32), w_X7_hanging_29 b1 Y4 v3 s2 s1 μ Q → WB sM l D C ad rm_X7_hanging K 4 μ 29 [(0, .ref (ad 0)), (1, .ref (ad b1)), (3, .int v3)] [.int s2, .int s1] := by
        intro v3 s2 s1 h
        unfold w_X7_hanging_29 at h
        refine b_ior X dX7_hanging_29 ?_
        refine b_topi (fun x3 ex3 => ?_)
        replace h := h x3 ex3
        refine b_istore_n (lv' := [(2, .int x3), (0, .ref (ad 0)), (1, .ref (ad b1)), (3, .int v3)]) X dX7_hanging_30 rfl (by decide) rfl ?_
        obtain ⟨x4, ex4⟩ : ∃ y : Int32, y = v3 + (nI 1) := ⟨_, rfl⟩
        replace h := h x4 ex4
        refine b_iinc (x := x4) (lv' := [(3, .int x4), (2, .int x3), (0, .ref (ad 0)), (1, .ref (ad b1))]) (q := 3) X dX7_hanging_31 rfl (by rw [ex4]; rfl) (by decide) rfl ?_
        refine b_goto (t := 4) X dX7_hanging_34 (by decide) ?_
        refine b_sub (lv' := [(0, .ref (ad 0)), (1, .ref (ad b1)), (2, .int x3), (3, .int x4)]) [2, 3, 1, 0] rfl ?_
        exact T4 x3 x4 h
      refine b_iload_n X dX7_hanging_4 rfl 3 rfl ?_
      refine b_aload_n X dX7_hanging_5 rfl 0 rfl ?_
      refine g_7_20 X kM_0 m_f_X7_179 dX7_hanging_6 ?_
      refine b_icmp_ge (t := 37) X dX7_hanging_9 (by decide) (fun c => ?_) (fun c => ?_)
      · replace h := h.1 c
        refine b_iload_n X dX7_hanging_37 rfl 2 rfl ?_
        exact hret _ _ _ _ ⟨rfl, h⟩ dX7_hanging_38
      · replace h := h.2 c
        refine b_iload_n X dX7_hanging_12 rfl 2 rfl ?_
        refine b_aload_n X dX7_hanging_13 rfl 0 rfl ?_
        refine b_aload_n X dX7_hanging_14 rfl 1 rfl ?_
        refine b_iload_n X dX7_hanging_15 rfl 3 rfl ?_
        refine bVi (st := [.int v2]) (nA := 2) X (c_X7_isHanging l D C ad b1 h1 n1 v3 μ _ h) kM_0 (by decide) (enc_7 kM_0) rfl gw_X7_201 ⟨rfl, hd_X7_isHanging⟩ rfl rfl ⟨Nat.le_of_ble_eq_true rfl, Nat.le_of_ble_eq_true rfl⟩ rfl rfl (Nat.le_of_ble_eq_true rfl) dX7_hanging_16 (fun r1 μ2 h => ?_)
        obtain ⟨rfl, h⟩ := h
        refine b_if_eq (t := 28) X dX7_hanging_19 (by decide) (fun c => ?_) (fun c => ?_)
        · replace h := h.1 c
          refine b_iconst (v := (nI 0)) X dX7_hanging_28 (by decide) ?_
          refine b_sub (lv' := [(0, .ref (ad 0)), (1, .ref (ad b1)), (3, .int v3)]) [0, 1, 3] rfl ?_
          exact B29 v3 (nI 0) v2 h
        · replace h := h.2 c
          refine b_iconst (v := (nI 1)) X dX7_hanging_22 (by decide) ?_
          refine b_iload_n X dX7_hanging_23 rfl 3 rfl ?_
          refine b_ishl X dX7_hanging_24 ?_
          refine b_goto (t := 29) X dX7_hanging_25 (by decide) ?_
          refine b_sub (lv' := [(0, .ref (ad 0)), (1, .ref (ad b1)), (3, .int v3)]) [0, 1, 3] rfl ?_
          exact B29 v3 ((nI 1) <<< (v3 &&& 31)) v2 h
    rw [eY] at B4
    exact B4
  refine b_iconst (v := (nI 0)) X dX7_hanging_0 (by decide) ?_
  refine b_istore_n (lv' := [(2, .int (nI 0)), (0, .ref (ad 0)), (1, .ref (ad b1))]) X dX7_hanging_1 rfl (by decide) rfl ?_
  refine b_iconst (v := (nI 0)) X dX7_hanging_2 (by decide) ?_
  refine b_istore_n (lv' := [(3, .int (nI 0)), (2, .int (nI 0)), (0, .ref (ad 0)), (1, .ref (ad b1))]) X dX7_hanging_3 rfl (by decide) rfl ?_
  refine b_sub (lv' := [(0, .ref (ad 0)), (1, .ref (ad b1)), (2, .int (nI 0)), (3, .int (nI 0))]) [2, 3, 1, 0] rfl ?_
  exact B4 (nI 0) (nI 0) h
set_option maxHeartbeats 4000000 in
set_option maxRecDepth 100000 in
theorem c_X7_postIn (l : Launch) (D : va_G) (C : Nat → ClassId) (ad : Nat → Nat) (b1 : Nat) (h1 : sM.2.1 b1 = 8) (n1 : sM.2.2 b1 = 27) (a2 : Int32) (μ : Mem) (Q : Int32 → Prop) (h : w_X7_postIn b1 a2 μ Q) : Mi sM l yX7_postIn cX7_postIn 5 (some .int) rm_X7_postIn D C ad [.ref (ad 0), .ref (ad b1), .int a2] μ (fun r μ' => μ = μ' ∧ Q r) := by
  refine fm_i (by decide +kernel) sM_lt (Nat.le_of_ble_eq_true rfl) (fun K X hret => ?_)
  have X : CK sM D C ad K cX7_postIn 5 RX7 := X
  refine b_lv (lv' := [(0, .ref (ad 0)), (1, .ref (ad b1)), (2, .int a2)]) rfl ?_
  unfold w_X7_postIn at h
  have B5 : ∀ (v3 : Int32) (v4 : Int32), w_X7_postIn_5 b1 a2 v3 v4 μ Q → WB sM l D C ad rm_X7_postIn K 5 μ 5 [(0, .ref (ad 0)), (1, .ref (ad b1)), (2, .int a2), (3, .int v3), (4, .int v4)] [] := by
    intro v3 v4 h
    obtain ⟨Y5, eY⟩ : ∃ Y : Int32 → Int32 → Prop, Y = fun (v3 : Int32) (v4 : Int32) => WB sM l D C ad rm_X7_postIn K 5 μ 5 [(0, .ref (ad 0)), (1, .ref (ad b1)), (2, .int a2), (3, .int v3), (4, .int v4)] [] := ⟨_, rfl⟩
    have B5 : Y5 v3 v4 := by
      unfold w_X7_postIn_5 at h
      refine h Y5 ?_
      clear h
      intro v3 v4 h
      unfold s_X7_postIn_5 at h
      rw [eY]
      show WB sM l D C ad rm_X7_postIn K 5 μ 5 [(0, .ref (ad 0)), (1, .ref (ad b1)), (2, .int a2), (3, .int v3), (4, .int v4)] []
      have T5 : ∀ (v3 : Int32) (v4 : Int32), Y5 v3 v4 → WB sM l D C ad rm_X7_postIn K 5 μ 5 [(0, .ref (ad 0)), (1, .ref (ad b1)), (2, .int a2), (3, .int v3), (4, .int v4)] [] := by
        intro v3 v4 h
        rw [eY] at h
        exact h
      clear eY
      have B31 : ∀ (v4 : Int32) (s1 : Int32), w_X7_postIn_31 b1 a2 Y5 v4 s1 μ Q → WB sM l D C ad rm_X7_postIn K 5 μ 31 [(0, .ref (ad 0)), (1, .ref (ad b1)), (2, .int a2), (4, .int v4)] [.int s1] := by
        intro v4 s1 h
        unfold w_X7_postIn_31 at h
        refine b_istore_n (lv' := [(3, .int s1), (0, .ref (ad 0)), (1, .ref (ad b1)), (2, .int a2), (4, .int v4)]) X dX7_postIn_31 rfl (by decide) rfl ?_
        obtain ⟨x1, ex1⟩ : ∃ y : Int32, y = v4 + (nI 1) := ⟨_, rfl⟩
        replace h := h x1 ex1
        refine b_iinc (x := x1) (lv' := [(4, .int x1), (3, .int s1), (0, .ref (ad 0)), (1, .ref (ad b1)), (2, .int a2)]) (q := 4) X dX7_postIn_32 rfl (by rw [ex1]; rfl) (by decide) rfl ?_
        refine b_goto (t := 5) X dX7_postIn_35 (by decide) ?_
        refine b_sub (lv' := [(0, .ref (ad 0)), (1, .ref (ad b1)), (2, .int a2), (3, .int s1), (4, .int x1)]) [2, 3, 4, 1, 0] rfl ?_
        exact T5 s1 x1 h
      refine b_iload X dX7_postIn_5 4 rfl ?_
      refine b_aload_n X dX7_postIn_7 rfl 0 rfl ?_
      refine g_7_20 X kM_0 m_f_X7_179 dX7_postIn_8 ?_
      refine b_icmp_ge (t := 38) X dX7_postIn_11 (by decide) (fun c => ?_) (fun c => ?_)
      · replace h := h.1 c
        refine b_iload_n X dX7_postIn_38 rfl 3 rfl ?_
        exact hret _ _ _ _ ⟨rfl, h⟩ dX7_postIn_39
      · replace h := h.2 c
        refine b_aload_n X dX7_postIn_14 rfl 1 rfl ?_
        refine b_bipush (v := (nI 15)) X dX7_postIn_15 (by decide) ?_
        refine b_iload X dX7_postIn_17 4 rfl ?_
        refine b_iadd X dX7_postIn_19 ?_
        have hz := h.1
        replace h := h.2
        refine b_iald X h1 n1 hz dX7_postIn_20 ?_
        clear hz
        refine b_iload_n X dX7_postIn_21 rfl 2 rfl ?_
        refine b_icmp_ne (t := 30) X dX7_postIn_22 (by decide) (fun c => ?_) (fun c => ?_)
        · replace h := h.1 c
          refine b_iload_n X dX7_postIn_30 rfl 3 rfl ?_
          refine b_sub (lv' := [(0, .ref (ad 0)), (1, .ref (ad b1)), (2, .int a2), (4, .int v4)]) [0, 1, 2, 4] rfl ?_
          exact B31 v4 v3 h
        · replace h := h.2 c
          refine b_iload X dX7_postIn_25 4 rfl ?_
          refine b_goto (t := 31) X dX7_postIn_27 (by decide) ?_
          refine b_sub (lv' := [(0, .ref (ad 0)), (1, .ref (ad b1)), (2, .int a2), (4, .int v4)]) [0, 1, 2, 4] rfl ?_
          exact B31 v4 v4 h
    rw [eY] at B5
    exact B5
  refine b_iconst (v := ((-1) : Int32)) X dX7_postIn_0 (by decide) ?_
  refine b_istore_n (lv' := [(3, .int ((-1) : Int32)), (0, .ref (ad 0)), (1, .ref (ad b1)), (2, .int a2)]) X dX7_postIn_1 rfl (by decide) rfl ?_
  refine b_iconst (v := (nI 0)) X dX7_postIn_2 (by decide) ?_
  refine b_istore (lv' := [(4, .int (nI 0)), (3, .int ((-1) : Int32)), (0, .ref (ad 0)), (1, .ref (ad b1)), (2, .int a2)]) X dX7_postIn_3 (by decide) rfl ?_
  refine b_sub (lv' := [(0, .ref (ad 0)), (1, .ref (ad b1)), (2, .int a2), (3, .int ((-1) : Int32)), (4, .int (nI 0))]) [2, 3, 4, 1, 0] rfl ?_
  exact B5 ((-1) : Int32) (nI 0) h
set_option maxHeartbeats 4000000 in
set_option maxRecDepth 100000 in
theorem c_X7_jars (l : Launch) (D : va_G) (C : Nat → ClassId) (ad : Nat → Nat) (b1 : Nat) (h1 : sM.2.1 b1 = 8) (n1 : sM.2.2 b1 = 27) (μ : Mem) (Q : Int32 → Prop) (h : w_X7_jars b1 μ Q) : Mi sM l yX7_jars cX7_jars 4 (some .int) rm_X7_jars D C ad [.ref (ad 0), .ref (ad b1)] μ (fun r μ' => μ = μ' ∧ Q r) := by
  refine fm_i (by decide +kernel) sM_lt (Nat.le_of_ble_eq_true rfl) (fun K X hret => ?_)
  have X : CK sM D C ad K cX7_jars 4 RX7 := X
  refine b_lv (lv' := [(0, .ref (ad 0)), (1, .ref (ad b1))]) rfl ?_
  unfold w_X7_jars at h
  have B4 : ∀ (v2 : Int32) (v3 : Int32), w_X7_jars_4 b1 v2 v3 μ Q → WB sM l D C ad rm_X7_jars K 4 μ 4 [(0, .ref (ad 0)), (1, .ref (ad b1)), (2, .int v2), (3, .int v3)] [] := by
    intro v2 v3 h
    obtain ⟨Y4, eY⟩ : ∃ Y : Int32 → Int32 → Prop, Y = fun (v2 : Int32) (v3 : Int32) => WB sM l D C ad rm_X7_jars K 4 μ 4 [(0, .ref (ad 0)), (1, .ref (ad b1)), (2, .int v2), (3, .int v3)] [] := ⟨_, rfl⟩
    have B4 : Y4 v2 v3 := by
      unfold w_X7_jars_4 at h
      refine h Y4 ?_
      clear h
      intro v2 v3 h
      unfold s_X7_jars_4 at h
      rw [eY]
      show WB sM l D C ad rm_X7_jars K 4 μ 4 [(0, .ref (ad 0)), (1, .ref (ad b1)), (2, .int v2), (3, .int v3)] []
      have T4 : ∀ (v2 : Int32) (v3 : Int32), Y4 v2 v3 → WB sM l D C ad rm_X7_jars K 4 μ 4 [(0, .ref (ad 0)), (1, .ref (ad b1)), (2, .int v2), (3, .int v3)] [] := by
        intro v2 v3 h
        rw [eY] at h
        exact h
      clear eY
      refine b_iload_n X dX7_jars_4 rfl 3 rfl ?_
      refine b_aload_n X dX7_jars_5 rfl 0 rfl ?_
      refine g_7_20 X kM_0 m_f_X7_179 dX7_jars_6 ?_
      refine b_icmp_ge (t := 27) X dX7_jars_9 (by decide) (fun c => ?_) (fun c => ?_)
      · replace h := h.1 c
        refine b_iload_n X dX7_jars_27 rfl 2 rfl ?_
        exact hret _ _ _ _ ⟨rfl, h⟩ dX7_jars_28
      · replace h := h.2 c
        refine b_iload_n X dX7_jars_12 rfl 2 rfl ?_
        refine b_aload_n X dX7_jars_13 rfl 1 rfl ?_
        refine b_bipush (v := (nI 9)) X dX7_jars_14 (by decide) ?_
        refine b_iload_n X dX7_jars_16 rfl 3 rfl ?_
        refine b_iadd X dX7_jars_17 ?_
        have hz := h.1
        replace h := h.2
        refine b_iald X h1 n1 hz dX7_jars_18 ?_
        clear hz
        refine b_iadd X dX7_jars_19 ?_
        refine b_topi (fun x1 ex1 => ?_)
        replace h := h x1 ex1
        refine b_istore_n (lv' := [(2, .int x1), (0, .ref (ad 0)), (1, .ref (ad b1)), (3, .int v3)]) X dX7_jars_20 rfl (by decide) rfl ?_
        obtain ⟨x2, ex2⟩ : ∃ y : Int32, y = v3 + (nI 1) := ⟨_, rfl⟩
        replace h := h x2 ex2
        refine b_iinc (x := x2) (lv' := [(3, .int x2), (2, .int x1), (0, .ref (ad 0)), (1, .ref (ad b1))]) (q := 3) X dX7_jars_21 rfl (by rw [ex2]; rfl) (by decide) rfl ?_
        refine b_goto (t := 4) X dX7_jars_24 (by decide) ?_
        refine b_sub (lv' := [(0, .ref (ad 0)), (1, .ref (ad b1)), (2, .int x1), (3, .int x2)]) [2, 3, 1, 0] rfl ?_
        exact T4 x1 x2 h
    rw [eY] at B4
    exact B4
  refine b_iconst (v := (nI 0)) X dX7_jars_0 (by decide) ?_
  refine b_istore_n (lv' := [(2, .int (nI 0)), (0, .ref (ad 0)), (1, .ref (ad b1))]) X dX7_jars_1 rfl (by decide) rfl ?_
  refine b_iconst (v := (nI 0)) X dX7_jars_2 (by decide) ?_
  refine b_istore_n (lv' := [(3, .int (nI 0)), (2, .int (nI 0)), (0, .ref (ad 0)), (1, .ref (ad b1))]) X dX7_jars_3 rfl (by decide) rfl ?_
  refine b_sub (lv' := [(0, .ref (ad 0)), (1, .ref (ad b1)), (2, .int (nI 0)), (3, .int (nI 0))]) [2, 3, 1, 0] rfl ?_
  exact B4 (nI 0) (nI 0) h
set_option maxHeartbeats 4000000 in
set_option maxRecDepth 100000 in
theorem c_X7_told (l : Launch) (D : va_G) (C : Nat → ClassId) (ad : Nat → Nat) (a1 : Int32) (μ : Mem) (Q : Int32 → Prop) (h : w_X7_told a1 μ Q) : Mi sM l yX7_told cX7_told 2 (some .int) rm_X7_told D C ad [.ref (ad 0), .int a1] μ (fun r μ' => μ = μ' ∧ Q r) := by
  refine fm_i (by decide +kernel) sM_lt (Nat.le_of_ble_eq_true rfl) (fun K X hret => ?_)
  have X : CK sM D C ad K cX7_told 2 RX7 := X
  refine b_lv (lv' := [(0, .ref (ad 0)), (1, .int a1)]) rfl ?_
  unfold w_X7_told at h
  refine b_iload_n X dX7_told_0 rfl 1 rfl ?_
  by_cases c0 : a1 = (nI 0)
  · replace h := h.1 c0
    refine b_tsIn (v := (nI 0)) (j := 0) (t := 80) X dX7_told_1 c0 (by decide) (by decide) (by decide) rfl (by decide) ?_
    refine b_aload_n X dX7_told_80 rfl 0 rfl ?_
    refine g_7_18 X kM_0 m_f_X7_173 dX7_told_81 ?_
    exact hret _ _ _ _ ⟨rfl, h⟩ dX7_told_84
  replace h := h.2 c0
  by_cases c1 : a1 = (nI 1)
  · replace h := h.1 c1
    refine b_tsIn (v := (nI 1)) (j := 1) (t := 85) X dX7_told_1 c1 (by decide) (by decide) (by decide) rfl (by decide) ?_
    refine b_aload_n X dX7_told_85 rfl 0 rfl ?_
    refine g_7_19 X kM_0 m_f_X7_176 dX7_told_86 ?_
    exact hret _ _ _ _ ⟨rfl, h⟩ dX7_told_89
  replace h := h.2 c1
  by_cases c2 : a1 = (nI 2)
  · replace h := h.1 c2
    refine b_tsIn (v := (nI 2)) (j := 2) (t := 90) X dX7_told_1 c2 (by decide) (by decide) (by decide) rfl (by decide) ?_
    refine b_aload_n X dX7_told_90 rfl 0 rfl ?_
    refine bVi (st := []) (nA := 0) X (c_X7_dayLong l D C ad  μ _ h) kM_0 (by decide) (enc_7 kM_0) rfl gw_X7_205 ⟨rfl, hd_X7_dayLong⟩ rfl rfl ⟨Nat.le_of_ble_eq_true rfl, Nat.le_of_ble_eq_true rfl⟩ rfl rfl (Nat.le_of_ble_eq_true rfl) dX7_told_91 (fun r1 μ2 h => ?_)
    obtain ⟨rfl, h⟩ := h
    exact hret _ _ _ _ ⟨rfl, h⟩ dX7_told_94
  replace h := h.2 c2
  by_cases c3 : a1 = (nI 3)
  · replace h := h.1 c3
    refine b_tsIn (v := (nI 3)) (j := 3) (t := 95) X dX7_told_1 c3 (by decide) (by decide) (by decide) rfl (by decide) ?_
    refine b_aload_n X dX7_told_95 rfl 0 rfl ?_
    refine g_7_20 X kM_0 m_f_X7_179 dX7_told_96 ?_
    exact hret _ _ _ _ ⟨rfl, h⟩ dX7_told_99
  replace h := h.2 c3
  by_cases c4 : a1 = (nI 4)
  · replace h := h.1 c4
    refine b_tsIn (v := (nI 4)) (j := 4) (t := 100) X dX7_told_1 c4 (by decide) (by decide) (by decide) rfl (by decide) ?_
    refine b_aload_n X dX7_told_100 rfl 0 rfl ?_
    refine g_7_22 X kM_0 m_f_X7_185 dX7_told_101 ?_
    exact hret _ _ _ _ ⟨rfl, h⟩ dX7_told_104
  replace h := h.2 c4
  by_cases c5 : a1 = (nI 5)
  · replace h := h.1 c5
    refine b_tsIn (v := (nI 5)) (j := 5) (t := 105) X dX7_told_1 c5 (by decide) (by decide) (by decide) rfl (by decide) ?_
    refine b_aload_n X dX7_told_105 rfl 0 rfl ?_
    refine g_7_0 X kM_0 m_f_X7_90 dX7_told_106 ?_
    exact hret _ _ _ _ ⟨rfl, h⟩ dX7_told_109
  replace h := h.2 c5
  by_cases c6 : a1 = (nI 6)
  · replace h := h.1 c6
    refine b_tsIn (v := (nI 6)) (j := 6) (t := 110) X dX7_told_1 c6 (by decide) (by decide) (by decide) rfl (by decide) ?_
    refine b_aload_n X dX7_told_110 rfl 0 rfl ?_
    refine g_7_29 X kM_0 m_f_X7_53 dX7_told_111 ?_
    refine b_iconst (v := (nI 0)) X dX7_told_114 (by decide) ?_
    have hz := h.1
    replace h := h.2
    refine b_iald X kM_14 nM_14 hz dX7_told_115 ?_
    clear hz
    exact hret _ _ _ _ ⟨rfl, h⟩ dX7_told_116
  replace h := h.2 c6
  by_cases c7 : a1 = (nI 7)
  · replace h := h.1 c7
    refine b_tsIn (v := (nI 7)) (j := 7) (t := 117) X dX7_told_1 c7 (by decide) (by decide) (by decide) rfl (by decide) ?_
    refine b_aload_n X dX7_told_117 rfl 0 rfl ?_
    refine g_7_29 X kM_0 m_f_X7_53 dX7_told_118 ?_
    refine b_iconst (v := (nI 1)) X dX7_told_121 (by decide) ?_
    have hz := h.1
    replace h := h.2
    refine b_iald X kM_14 nM_14 hz dX7_told_122 ?_
    clear hz
    exact hret _ _ _ _ ⟨rfl, h⟩ dX7_told_123
  replace h := h.2 c7
  by_cases c8 : a1 = (nI 8)
  · replace h := h.1 c8
    refine b_tsIn (v := (nI 8)) (j := 8) (t := 124) X dX7_told_1 c8 (by decide) (by decide) (by decide) rfl (by decide) ?_
    refine b_aload_n X dX7_told_124 rfl 0 rfl ?_
    refine g_7_29 X kM_0 m_f_X7_53 dX7_told_125 ?_
    refine b_iconst (v := (nI 2)) X dX7_told_128 (by decide) ?_
    have hz := h.1
    replace h := h.2
    refine b_iald X kM_14 nM_14 hz dX7_told_129 ?_
    clear hz
    exact hret _ _ _ _ ⟨rfl, h⟩ dX7_told_130
  replace h := h.2 c8
  by_cases c9 : a1 = (nI 9)
  · replace h := h.1 c9
    refine b_tsIn (v := (nI 9)) (j := 9) (t := 131) X dX7_told_1 c9 (by decide) (by decide) (by decide) rfl (by decide) ?_
    refine b_aload_n X dX7_told_131 rfl 0 rfl ?_
    refine b_aload_n X dX7_told_132 rfl 0 rfl ?_
    refine g_7_29 X kM_0 m_f_X7_53 dX7_told_133 ?_
    refine bVi (st := []) (nA := 1) X (c_X7_hanging l D C ad 14 kM_14 nM_14 μ _ h) kM_0 (by decide) (enc_7 kM_0) rfl gw_X7_209 ⟨rfl, hd_X7_hanging⟩ rfl rfl ⟨Nat.le_of_ble_eq_true rfl, Nat.le_of_ble_eq_true rfl⟩ rfl rfl (Nat.le_of_ble_eq_true rfl) dX7_told_136 (fun r3 μ4 h => ?_)
    obtain ⟨rfl, h⟩ := h
    exact hret _ _ _ _ ⟨rfl, h⟩ dX7_told_139
  replace h := h.2 c9
  by_cases c10 : a1 = (nI 10)
  · replace h := h.1 c10
    refine b_tsIn (v := (nI 10)) (j := 10) (t := 140) X dX7_told_1 c10 (by decide) (by decide) (by decide) rfl (by decide) ?_
    refine b_aload_n X dX7_told_140 rfl 0 rfl ?_
    refine b_aload_n X dX7_told_141 rfl 0 rfl ?_
    refine g_7_29 X kM_0 m_f_X7_53 dX7_told_142 ?_
    refine bVi (st := []) (nA := 1) X (c_X7_jars l D C ad 14 kM_14 nM_14 μ _ h) kM_0 (by decide) (enc_7 kM_0) rfl gw_X7_213 ⟨rfl, hd_X7_jars⟩ rfl rfl ⟨Nat.le_of_ble_eq_true rfl, Nat.le_of_ble_eq_true rfl⟩ rfl rfl (Nat.le_of_ble_eq_true rfl) dX7_told_145 (fun r5 μ6 h => ?_)
    obtain ⟨rfl, h⟩ := h
    exact hret _ _ _ _ ⟨rfl, h⟩ dX7_told_148
  replace h := h.2 c10
  by_cases c11 : a1 = (nI 11)
  · replace h := h.1 c11
    refine b_tsIn (v := (nI 11)) (j := 11) (t := 149) X dX7_told_1 c11 (by decide) (by decide) (by decide) rfl (by decide) ?_
    refine b_aload_n X dX7_told_149 rfl 0 rfl ?_
    refine g_7_29 X kM_0 m_f_X7_53 dX7_told_150 ?_
    refine b_iconst (v := (nI 3)) X dX7_told_153 (by decide) ?_
    have hz := h.1
    replace h := h.2
    refine b_iald X kM_14 nM_14 hz dX7_told_154 ?_
    clear hz
    exact hret _ _ _ _ ⟨rfl, h⟩ dX7_told_155
  replace h := h.2 c11
  by_cases c12 : a1 = (nI 12)
  · replace h := h.1 c12
    refine b_tsIn (v := (nI 12)) (j := 12) (t := 156) X dX7_told_1 c12 (by decide) (by decide) (by decide) rfl (by decide) ?_
    refine b_aload_n X dX7_told_156 rfl 0 rfl ?_
    refine g_7_29 X kM_0 m_f_X7_53 dX7_told_157 ?_
    refine b_iconst (v := (nI 4)) X dX7_told_160 (by decide) ?_
    have hz := h.1
    replace h := h.2
    refine b_iald X kM_14 nM_14 hz dX7_told_161 ?_
    clear hz
    exact hret _ _ _ _ ⟨rfl, h⟩ dX7_told_162
  replace h := h.2 c12
  by_cases c13 : a1 = (nI 13)
  · replace h := h.1 c13
    refine b_tsIn (v := (nI 13)) (j := 13) (t := 163) X dX7_told_1 c13 (by decide) (by decide) (by decide) rfl (by decide) ?_
    refine b_aload_n X dX7_told_163 rfl 0 rfl ?_
    refine g_7_37 X kM_0 m_f_X7_188 dX7_told_164 ?_
    exact hret _ _ _ _ ⟨rfl, h⟩ dX7_told_167
  replace h := h.2 c13
  by_cases c14 : a1 = (nI 14)
  · replace h := h.1 c14
    refine b_tsIn (v := (nI 14)) (j := 14) (t := 168) X dX7_told_1 c14 (by decide) (by decide) (by decide) rfl (by decide) ?_
    refine b_aload_n X dX7_told_168 rfl 0 rfl ?_
    refine g_7_39 X kM_0 m_f_X7_191 dX7_told_169 ?_
    exact hret _ _ _ _ ⟨rfl, h⟩ dX7_told_172
  replace h := h.2 c14
  by_cases c15 : a1 = (nI 15)
  · replace h := h.1 c15
    refine b_tsIn (v := (nI 15)) (j := 15) (t := 173) X dX7_told_1 c15 (by decide) (by decide) (by decide) rfl (by decide) ?_
    refine b_aload_n X dX7_told_173 rfl 0 rfl ?_
    refine g_7_32 X kM_0 m_f_X7_194 dX7_told_174 ?_
    exact hret _ _ _ _ ⟨rfl, h⟩ dX7_told_177
  replace h := h.2 c15
  have e0 := i32ne (j := 0) c0 (by decide)
  have e1 := i32ne (j := 1) c1 (by decide)
  have e2 := i32ne (j := 2) c2 (by decide)
  have e3 := i32ne (j := 3) c3 (by decide)
  have e4 := i32ne (j := 4) c4 (by decide)
  have e5 := i32ne (j := 5) c5 (by decide)
  have e6 := i32ne (j := 6) c6 (by decide)
  have e7 := i32ne (j := 7) c7 (by decide)
  have e8 := i32ne (j := 8) c8 (by decide)
  have e9 := i32ne (j := 9) c9 (by decide)
  have e10 := i32ne (j := 10) c10 (by decide)
  have e11 := i32ne (j := 11) c11 (by decide)
  have e12 := i32ne (j := 12) c12 (by decide)
  have e13 := i32ne (j := 13) c13 (by decide)
  have e14 := i32ne (j := 14) c14 (by decide)
  have e15 := i32ne (j := 15) c15 (by decide)
  refine b_tsOut (t := 178) X dX7_told_1 (by omega) (by decide) ?_
  refine b_ldc (v := ((-1000000002) : Int32)) X m_k_X7_89 dX7_told_178 ?_
  exact hret _ _ _ _ ⟨rfl, h⟩ dX7_told_180
set_option maxHeartbeats 4000000 in
set_option maxRecDepth 100000 in
theorem c_X7_post (l : Launch) (D : va_G) (C : Nat → ClassId) (ad : Nat → Nat) (a1 : Int32) (a2 : Int32) (μ : Mem) (Q : Int32 → Prop) (h : w_X7_post a1 a2 μ Q) : Mi sM l yX7_post cX7_post 3 (some .int) rm_X7_post D C ad [.ref (ad 0), .int a1, .int a2] μ (fun r μ' => μ = μ' ∧ Q r) := by
  refine fm_i (by decide +kernel) sM_lt (Nat.le_of_ble_eq_true rfl) (fun K X hret => ?_)
  have X : CK sM D C ad K cX7_post 3 RX7 := X
  refine b_lv (lv' := [(0, .ref (ad 0)), (1, .int a1), (2, .int a2)]) rfl ?_
  unfold w_X7_post at h
  refine b_aload_n X dX7_post_0 rfl 0 rfl ?_
  refine b_iload_n X dX7_post_1 rfl 1 rfl ?_
  refine bVi (st := []) (nA := 1) X (c_X7_isPost l D C ad a1 μ _ h) kM_0 (by decide) (enc_7 kM_0) rfl gw_X7_216 ⟨rfl, hd_X7_isPost⟩ rfl rfl ⟨Nat.le_of_ble_eq_true rfl, Nat.le_of_ble_eq_true rfl⟩ rfl rfl (Nat.le_of_ble_eq_true rfl) dX7_post_2 (fun r1 μ2 h => ?_)
  obtain ⟨rfl, h⟩ := h
  refine b_if_ne (t := 11) X dX7_post_5 (by decide) (fun c => ?_) (fun c => ?_)
  · replace h := h.1 c
    refine b_iload_n X dX7_post_11 rfl 2 rfl ?_
    by_cases c0 : a2 = (nI 0)
    · replace h := h.1 c0
      refine b_tsIn (v := (nI 0)) (j := 0) (t := 48) X dX7_post_12 c0 (by decide) (by decide) (by decide) rfl (by decide) ?_
      refine b_aload_n X dX7_post_48 rfl 0 rfl ?_
      refine g_7_29 X kM_0 m_f_X7_53 dX7_post_49 ?_
      refine b_bipush (v := (nI 15)) X dX7_post_52 (by decide) ?_
      refine b_iload_n X dX7_post_54 rfl 1 rfl ?_
      refine b_iadd X dX7_post_55 ?_
      have hz := h.1
      replace h := h.2
      refine b_iald X kM_14 nM_14 hz dX7_post_56 ?_
      clear hz
      exact hret _ _ _ _ ⟨rfl, h⟩ dX7_post_57
    replace h := h.2 c0
    by_cases c1 : a2 = (nI 1)
    · replace h := h.1 c1
      refine b_tsIn (v := (nI 1)) (j := 1) (t := 58) X dX7_post_12 c1 (by decide) (by decide) (by decide) rfl (by decide) ?_
      refine b_aload_n X dX7_post_58 rfl 0 rfl ?_
      refine g_7_29 X kM_0 m_f_X7_53 dX7_post_59 ?_
      refine b_bipush (v := (nI 21)) X dX7_post_62 (by decide) ?_
      refine b_iload_n X dX7_post_64 rfl 1 rfl ?_
      refine b_iadd X dX7_post_65 ?_
      have hz := h.1
      replace h := h.2
      refine b_iald X kM_14 nM_14 hz dX7_post_66 ?_
      clear hz
      exact hret _ _ _ _ ⟨rfl, h⟩ dX7_post_67
    replace h := h.2 c1
    by_cases c2 : a2 = (nI 2)
    · replace h := h.1 c2
      refine b_tsIn (v := (nI 2)) (j := 2) (t := 68) X dX7_post_12 c2 (by decide) (by decide) (by decide) rfl (by decide) ?_
      refine b_aload_n X dX7_post_68 rfl 0 rfl ?_
      refine g_7_24 X kM_0 m_f_X7_38 dX7_post_69 ?_
      refine b_iload_n X dX7_post_72 rfl 1 rfl ?_
      have hz := h.1
      replace h := h.2
      refine b_iald X kM_9 nM_9 hz dX7_post_73 ?_
      clear hz
      exact hret _ _ _ _ ⟨rfl, h⟩ dX7_post_74
    replace h := h.2 c2
    by_cases c3 : a2 = (nI 3)
    · replace h := h.1 c3
      refine b_tsIn (v := (nI 3)) (j := 3) (t := 75) X dX7_post_12 c3 (by decide) (by decide) (by decide) rfl (by decide) ?_
      refine b_aload_n X dX7_post_75 rfl 0 rfl ?_
      refine g_7_25 X kM_0 m_f_X7_41 dX7_post_76 ?_
      refine b_iload_n X dX7_post_79 rfl 1 rfl ?_
      have hz := h.1
      replace h := h.2
      refine b_iald X kM_10 nM_10 hz dX7_post_80 ?_
      clear hz
      exact hret _ _ _ _ ⟨rfl, h⟩ dX7_post_81
    replace h := h.2 c3
    by_cases c4 : a2 = (nI 4)
    · replace h := h.1 c4
      refine b_tsIn (v := (nI 4)) (j := 4) (t := 82) X dX7_post_12 c4 (by decide) (by decide) (by decide) rfl (by decide) ?_
      refine b_aload_n X dX7_post_82 rfl 0 rfl ?_
      refine g_7_29 X kM_0 m_f_X7_53 dX7_post_83 ?_
      refine b_bipush (v := (nI 9)) X dX7_post_86 (by decide) ?_
      refine b_iload_n X dX7_post_88 rfl 1 rfl ?_
      refine b_iadd X dX7_post_89 ?_
      have hz := h.1
      replace h := h.2
      refine b_iald X kM_14 nM_14 hz dX7_post_90 ?_
      clear hz
      exact hret _ _ _ _ ⟨rfl, h⟩ dX7_post_91
    replace h := h.2 c4
    have e0 := i32ne (j := 0) c0 (by decide)
    have e1 := i32ne (j := 1) c1 (by decide)
    have e2 := i32ne (j := 2) c2 (by decide)
    have e3 := i32ne (j := 3) c3 (by decide)
    have e4 := i32ne (j := 4) c4 (by decide)
    refine b_tsOut (t := 92) X dX7_post_12 (by omega) (by decide) ?_
    refine b_ldc (v := ((-1000000002) : Int32)) X m_k_X7_89 dX7_post_92 ?_
    exact hret _ _ _ _ ⟨rfl, h⟩ dX7_post_94
  · replace h := h.2 c
    refine b_ldc (v := ((-1000000001) : Int32)) X m_k_X7_219 dX7_post_8 ?_
    exact hret _ _ _ _ ⟨rfl, h⟩ dX7_post_10
set_option maxHeartbeats 4000000 in
set_option maxRecDepth 100000 in
theorem c_X7_fog (l : Launch) (D : va_G) (C : Nat → ClassId) (ad : Nat → Nat) (a1 : Int32) (a2 : Int32) (μ : Mem) (Q : Int32 → Prop) (h : w_X7_fog a1 a2 μ Q) : Mi sM l yX7_fog cX7_fog 3 (some .int) rm_X7_fog D C ad [.ref (ad 0), .int a1, .int a2] μ (fun r μ' => μ = μ' ∧ Q r) := by
  refine fm_i (by decide +kernel) sM_lt (Nat.le_of_ble_eq_true rfl) (fun K X hret => ?_)
  have X : CK sM D C ad K cX7_fog 3 RX7 := X
  refine b_lv (lv' := [(0, .ref (ad 0)), (1, .int a1), (2, .int a2)]) rfl ?_
  unfold w_X7_fog at h
  have B31 : w_X7_fog_31 a1 a2 μ Q → WB sM l D C ad rm_X7_fog K 3 μ 31 [(0, .ref (ad 0)), (1, .int a1), (2, .int a2)] [] := by
    intro  h
    unfold w_X7_fog_31 at h
    refine b_iload_n X dX7_fog_31 rfl 1 rfl ?_
    refine b_iconst (v := ((-1) : Int32)) X dX7_fog_32 (by decide) ?_
    refine b_icmp_eq (t := 47) X dX7_fog_33 (by decide) (fun c => ?_) (fun c => ?_)
    · replace h := h.1 c
      refine b_aload_n X dX7_fog_47 rfl 0 rfl ?_
      refine g_7_17 X kM_0 m_f_X7_170 dX7_fog_48 ?_
      refine b_if_ne (t := 59) X dX7_fog_51 (by decide) (fun c => ?_) (fun c => ?_)
      · replace h := h.1 c
        refine b_iload_n X dX7_fog_59 rfl 2 rfl ?_
        refine b_if_ne (t := 74) X dX7_fog_60 (by decide) (fun c => ?_) (fun c => ?_)
        · replace h := h.1 c
          refine b_aload_n X dX7_fog_74 rfl 0 rfl ?_
          refine b_aload_n X dX7_fog_75 rfl 0 rfl ?_
          refine g_7_29 X kM_0 m_f_X7_53 dX7_fog_76 ?_
          refine bVi (st := []) (nA := 1) X (c_X7_fogOf l D C ad 14 kM_14 nM_14 μ _ h) kM_0 (by decide) (enc_7 kM_0) rfl gw_X7_224 ⟨rfl, hd_X7_fogOf⟩ rfl rfl ⟨Nat.le_of_ble_eq_true rfl, Nat.le_of_ble_eq_true rfl⟩ rfl rfl (Nat.le_of_ble_eq_true rfl) dX7_fog_79 (fun r5 μ6 h => ?_)
          obtain ⟨rfl, h⟩ := h
          exact hret _ _ _ _ ⟨rfl, h⟩ dX7_fog_82
        · replace h := h.2 c
          refine b_aload_n X dX7_fog_63 rfl 0 rfl ?_
          refine b_aload_n X dX7_fog_64 rfl 0 rfl ?_
          refine g_7_29 X kM_0 m_f_X7_53 dX7_fog_65 ?_
          refine bVi (st := []) (nA := 1) X (c_X7_sideOf l D C ad 14 kM_14 nM_14 μ _ h) kM_0 (by decide) (enc_7 kM_0) rfl gw_X7_221 ⟨rfl, hd_X7_sideOf⟩ rfl rfl ⟨Nat.le_of_ble_eq_true rfl, Nat.le_of_ble_eq_true rfl⟩ rfl rfl (Nat.le_of_ble_eq_true rfl) dX7_fog_68 (fun r7 μ8 h => ?_)
          obtain ⟨rfl, h⟩ := h
          refine b_goto (t := 82) X dX7_fog_71 (by decide) ?_
          exact hret _ _ _ _ ⟨rfl, h⟩ dX7_fog_82
      · replace h := h.2 c
        refine b_ldc (v := ((-1000000003) : Int32)) X m_k_X7_220 dX7_fog_54 ?_
        refine b_goto (t := 82) X dX7_fog_56 (by decide) ?_
        exact hret _ _ _ _ ⟨rfl, h⟩ dX7_fog_82
    · replace h := h.2 c
      refine b_aload_n X dX7_fog_36 rfl 0 rfl ?_
      refine g_7_23 X kM_0 m_f_X7_35 dX7_fog_37 ?_
      refine b_iconst (v := (nI 2)) X dX7_fog_40 (by decide) ?_
      refine b_iload_n X dX7_fog_41 rfl 1 rfl ?_
      refine b_imul X dX7_fog_42 ?_
      refine b_iload_n X dX7_fog_43 rfl 2 rfl ?_
      refine b_iadd X dX7_fog_44 ?_
      have hz := h.1
      replace h := h.2
      refine b_iald X kM_8 nM_8 hz dX7_fog_45 ?_
      clear hz
      exact hret _ _ _ _ ⟨rfl, h⟩ dX7_fog_46
  refine b_iload_n X dX7_fog_0 rfl 2 rfl ?_
  refine b_iconst (v := (nI 0)) X dX7_fog_1 (by decide) ?_
  refine b_iconst (v := (nI 1)) X dX7_fog_2 (by decide) ?_
  refine bSi (st := []) (nA := 3) X (c_X7_in l D C ad a2 (nI 0) (nI 1) μ _ h) gw_X7_85 hd_X7_in rfl rfl ⟨Nat.le_of_ble_eq_true rfl, Nat.le_of_ble_eq_true rfl⟩ rfl rfl (Nat.le_of_ble_eq_true rfl) dX7_fog_3 (fun r1 μ2 h => ?_)
  obtain ⟨rfl, h⟩ := h
  refine b_if_eq (t := 28) X dX7_fog_6 (by decide) (fun c => ?_) (fun c => ?_)
  · replace h := h.1 c
    refine b_ldc (v := ((-1000000002) : Int32)) X m_k_X7_89 dX7_fog_28 ?_
    exact hret _ _ _ _ ⟨rfl, h⟩ dX7_fog_30
  · replace h := h.2 c
    refine b_iload_n X dX7_fog_9 rfl 1 rfl ?_
    refine b_iconst (v := ((-1) : Int32)) X dX7_fog_10 (by decide) ?_
    refine b_icmp_eq (t := 31) X dX7_fog_11 (by decide) (fun c => ?_) (fun c => ?_)
    · replace h := h.1 c
      refine b_sub (lv' := [(0, .ref (ad 0)), (1, .int a1), (2, .int a2)]) [0, 1, 2] rfl ?_
      exact B31  h
    · replace h := h.2 c
      refine b_iload_n X dX7_fog_14 rfl 1 rfl ?_
      refine b_iconst (v := (nI 0)) X dX7_fog_15 (by decide) ?_
      refine b_aload_n X dX7_fog_16 rfl 0 rfl ?_
      refine g_7_21 X kM_0 m_f_X7_182 dX7_fog_17 ?_
      refine b_iconst (v := (nI 1)) X dX7_fog_20 (by decide) ?_
      refine b_isub X dX7_fog_21 ?_
      refine bSi (st := []) (nA := 3) X (c_X7_in l D C ad a1 (nI 0) ((μ.1 0 21) - (nI 1)) μ _ h) gw_X7_85 hd_X7_in rfl rfl ⟨Nat.le_of_ble_eq_true rfl, Nat.le_of_ble_eq_true rfl⟩ rfl rfl (Nat.le_of_ble_eq_true rfl) dX7_fog_22 (fun r3 μ4 h => ?_)
      obtain ⟨rfl, h⟩ := h
      refine b_if_ne (t := 31) X dX7_fog_25 (by decide) (fun c => ?_) (fun c => ?_)
      · replace h := h.1 c
        refine b_sub (lv' := [(0, .ref (ad 0)), (1, .int a1), (2, .int a2)]) [0, 1, 2] rfl ?_
        exact B31  h
      · replace h := h.2 c
        refine b_ldc (v := ((-1000000002) : Int32)) X m_k_X7_89 dX7_fog_28 ?_
        exact hret _ _ _ _ ⟨rfl, h⟩ dX7_fog_30
set_option maxHeartbeats 4000000 in
set_option maxRecDepth 100000 in
theorem c_X7_postsOf (l : Launch) (D : va_G) (C : Nat → ClassId) (ad : Nat → Nat) (a1 : Int32) (μ : Mem) (Q : Int32 → Prop) (h : w_X7_postsOf a1 μ Q) : Mi sM l yX7_postsOf cX7_postsOf 4 (some .int) rm_X7_postsOf D C ad [.ref (ad 0), .int a1] μ (fun r μ' => μ = μ' ∧ Q r) := by
  refine fm_i (by decide +kernel) sM_lt (Nat.le_of_ble_eq_true rfl) (fun K X hret => ?_)
  have X : CK sM D C ad K cX7_postsOf 4 RX7 := X
  refine b_lv (lv' := [(0, .ref (ad 0)), (1, .int a1)]) rfl ?_
  unfold w_X7_postsOf at h
  have B4 : ∀ (v2 : Int32) (v3 : Int32), w_X7_postsOf_4 a1 v2 v3 μ Q → WB sM l D C ad rm_X7_postsOf K 4 μ 4 [(0, .ref (ad 0)), (1, .int a1), (2, .int v2), (3, .int v3)] [] := by
    intro v2 v3 h
    obtain ⟨Y4, eY⟩ : ∃ Y : Int32 → Int32 → Prop, Y = fun (v2 : Int32) (v3 : Int32) => WB sM l D C ad rm_X7_postsOf K 4 μ 4 [(0, .ref (ad 0)), (1, .int a1), (2, .int v2), (3, .int v3)] [] := ⟨_, rfl⟩
    have B4 : Y4 v2 v3 := by
      unfold w_X7_postsOf_4 at h
      refine h Y4 ?_
      clear h
      intro v2 v3 h
      unfold s_X7_postsOf_4 at h
      rw [eY]
      show WB sM l D C ad rm_X7_postsOf K 4 μ 4 [(0, .ref (ad 0)), (1, .int a1), (2, .int v2), (3, .int v3)] []
      have T4 : ∀ (v2 : Int32) (v3 : Int32), Y4 v2 v3 → WB sM l D C ad rm_X7_postsOf K 4 μ 4 [(0, .ref (ad 0)), (1, .int a1), (2, .int v2), (3, .int v3)] [] := by
        intro v2 v3 h
        rw [eY] at h
        exact h
      clear eY
      have B30 : ∀ (v3 : Int32) (s2 : Int32) (s1 : Int32), w_X7_postsOf_30 a1 Y4 v3 s2 s1 μ Q → WB sM l D C ad rm_X7_postsOf K 4 μ 30 [(0, .ref (ad 0)), (1, .int a1), (3, .int v3)] [.int s2, .int s1] := by
        intro v3 s2 s1 h
        unfold w_X7_postsOf_30 at h
        refine b_ior X dX7_postsOf_30 ?_
        refine b_topi (fun x1 ex1 => ?_)
        replace h := h x1 ex1
        refine b_istore_n (lv' := [(2, .int x1), (0, .ref (ad 0)), (1, .int a1), (3, .int v3)]) X dX7_postsOf_31 rfl (by decide) rfl ?_
        obtain ⟨x2, ex2⟩ : ∃ y : Int32, y = v3 + (nI 1) := ⟨_, rfl⟩
        replace h := h x2 ex2
        refine b_iinc (x := x2) (lv' := [(3, .int x2), (2, .int x1), (0, .ref (ad 0)), (1, .int a1)]) (q := 3) X dX7_postsOf_32 rfl (by rw [ex2]; rfl) (by decide) rfl ?_
        refine b_goto (t := 4) X dX7_postsOf_35 (by decide) ?_
        refine b_sub (lv' := [(0, .ref (ad 0)), (1, .int a1), (2, .int x1), (3, .int x2)]) [2, 3, 1, 0] rfl ?_
        exact T4 x1 x2 h
      refine b_iload_n X dX7_postsOf_4 rfl 3 rfl ?_
      refine b_aload_n X dX7_postsOf_5 rfl 0 rfl ?_
      refine g_7_20 X kM_0 m_f_X7_179 dX7_postsOf_6 ?_
      refine b_icmp_ge (t := 38) X dX7_postsOf_9 (by decide) (fun c => ?_) (fun c => ?_)
      · replace h := h.1 c
        refine b_iload_n X dX7_postsOf_38 rfl 2 rfl ?_
        exact hret _ _ _ _ ⟨rfl, h⟩ dX7_postsOf_39
      · replace h := h.2 c
        refine b_iload_n X dX7_postsOf_12 rfl 2 rfl ?_
        refine b_aload_n X dX7_postsOf_13 rfl 0 rfl ?_
        refine g_7_25 X kM_0 m_f_X7_41 dX7_postsOf_14 ?_
        refine b_iload_n X dX7_postsOf_17 rfl 3 rfl ?_
        have hz := h.1
        replace h := h.2
        refine b_iald X kM_10 nM_10 hz dX7_postsOf_18 ?_
        clear hz
        refine b_iload_n X dX7_postsOf_19 rfl 1 rfl ?_
        refine b_icmp_ne (t := 29) X dX7_postsOf_20 (by decide) (fun c => ?_) (fun c => ?_)
        · replace h := h.1 c
          refine b_iconst (v := (nI 0)) X dX7_postsOf_29 (by decide) ?_
          refine b_sub (lv' := [(0, .ref (ad 0)), (1, .int a1), (3, .int v3)]) [0, 1, 3] rfl ?_
          exact B30 v3 (nI 0) v2 h
        · replace h := h.2 c
          refine b_iconst (v := (nI 1)) X dX7_postsOf_23 (by decide) ?_
          refine b_iload_n X dX7_postsOf_24 rfl 3 rfl ?_
          refine b_ishl X dX7_postsOf_25 ?_
          refine b_goto (t := 30) X dX7_postsOf_26 (by decide) ?_
          refine b_sub (lv' := [(0, .ref (ad 0)), (1, .int a1), (3, .int v3)]) [0, 1, 3] rfl ?_
          exact B30 v3 ((nI 1) <<< (v3 &&& 31)) v2 h
    rw [eY] at B4
    exact B4
  refine b_iconst (v := (nI 0)) X dX7_postsOf_0 (by decide) ?_
  refine b_istore_n (lv' := [(2, .int (nI 0)), (0, .ref (ad 0)), (1, .int a1)]) X dX7_postsOf_1 rfl (by decide) rfl ?_
  refine b_iconst (v := (nI 0)) X dX7_postsOf_2 (by decide) ?_
  refine b_istore_n (lv' := [(3, .int (nI 0)), (2, .int (nI 0)), (0, .ref (ad 0)), (1, .int a1)]) X dX7_postsOf_3 rfl (by decide) rfl ?_
  refine b_sub (lv' := [(0, .ref (ad 0)), (1, .int a1), (2, .int (nI 0)), (3, .int (nI 0))]) [2, 3, 1, 0] rfl ?_
  exact B4 (nI 0) (nI 0) h
set_option maxHeartbeats 4000000 in
set_option maxRecDepth 100000 in
theorem c_X7_village (l : Launch) (D : va_G) (C : Nat → ClassId) (ad : Nat → Nat) (a1 : Int32) (a2 : Int32) (μ : Mem) (Q : Int32 → Prop) (h : w_X7_village a1 a2 μ Q) : Mi sM l yX7_village cX7_village 3 (some .int) rm_X7_village D C ad [.ref (ad 0), .int a1, .int a2] μ (fun r μ' => μ = μ' ∧ Q r) := by
  refine fm_i (by decide +kernel) sM_lt (Nat.le_of_ble_eq_true rfl) (fun K X hret => ?_)
  have X : CK sM D C ad K cX7_village 3 RX7 := X
  refine b_lv (lv' := [(0, .ref (ad 0)), (1, .int a1), (2, .int a2)]) rfl ?_
  unfold w_X7_village at h
  refine b_iload_n X dX7_village_0 rfl 1 rfl ?_
  refine bSi (st := []) (nA := 1) X (c_X7_isVillage l D C ad a1 μ _ h) gw_X7_227 hd_X7_isVillage rfl rfl ⟨Nat.le_of_ble_eq_true rfl, Nat.le_of_ble_eq_true rfl⟩ rfl rfl (Nat.le_of_ble_eq_true rfl) dX7_village_1 (fun r1 μ2 h => ?_)
  obtain ⟨rfl, h⟩ := h
  refine b_if_ne (t := 10) X dX7_village_4 (by decide) (fun c => ?_) (fun c => ?_)
  · replace h := h.1 c
    refine b_iload_n X dX7_village_10 rfl 2 rfl ?_
    by_cases c0 : a2 = (nI 0)
    · replace h := h.1 c0
      refine b_tsIn (v := (nI 0)) (j := 0) (t := 44) X dX7_village_11 c0 (by decide) (by decide) (by decide) rfl (by decide) ?_
      refine b_aload_n X dX7_village_44 rfl 0 rfl ?_
      refine g_7_27 X kM_0 m_f_X7_47 dX7_village_45 ?_
      refine b_iload_n X dX7_village_48 rfl 1 rfl ?_
      have hz := h.1
      replace h := h.2
      refine b_iald X kM_12 nM_12 hz dX7_village_49 ?_
      clear hz
      exact hret _ _ _ _ ⟨rfl, h⟩ dX7_village_50
    replace h := h.2 c0
    by_cases c1 : a2 = (nI 1)
    · replace h := h.1 c1
      refine b_tsIn (v := (nI 1)) (j := 1) (t := 51) X dX7_village_11 c1 (by decide) (by decide) (by decide) rfl (by decide) ?_
      refine b_aload_n X dX7_village_51 rfl 0 rfl ?_
      refine g_7_28 X kM_0 m_f_X7_50 dX7_village_52 ?_
      refine b_iload_n X dX7_village_55 rfl 1 rfl ?_
      have hz := h.1
      replace h := h.2
      refine b_iald X kM_13 nM_13 hz dX7_village_56 ?_
      clear hz
      exact hret _ _ _ _ ⟨rfl, h⟩ dX7_village_57
    replace h := h.2 c1
    by_cases c2 : a2 = (nI 2)
    · replace h := h.1 c2
      refine b_tsIn (v := (nI 2)) (j := 2) (t := 58) X dX7_village_11 c2 (by decide) (by decide) (by decide) rfl (by decide) ?_
      refine b_aload_n X dX7_village_58 rfl 0 rfl ?_
      refine g_7_29 X kM_0 m_f_X7_53 dX7_village_59 ?_
      refine b_iconst (v := (nI 5)) X dX7_village_62 (by decide) ?_
      refine b_iload_n X dX7_village_63 rfl 1 rfl ?_
      refine b_iadd X dX7_village_64 ?_
      have hz := h.1
      replace h := h.2
      refine b_iald X kM_14 nM_14 hz dX7_village_65 ?_
      clear hz
      exact hret _ _ _ _ ⟨rfl, h⟩ dX7_village_66
    replace h := h.2 c2
    by_cases c3 : a2 = (nI 3)
    · replace h := h.1 c3
      refine b_tsIn (v := (nI 3)) (j := 3) (t := 67) X dX7_village_11 c3 (by decide) (by decide) (by decide) rfl (by decide) ?_
      refine b_aload_n X dX7_village_67 rfl 0 rfl ?_
      refine g_7_29 X kM_0 m_f_X7_53 dX7_village_68 ?_
      refine b_bipush (v := (nI 7)) X dX7_village_71 (by decide) ?_
      refine b_iload_n X dX7_village_73 rfl 1 rfl ?_
      refine b_iadd X dX7_village_74 ?_
      have hz := h.1
      replace h := h.2
      refine b_iald X kM_14 nM_14 hz dX7_village_75 ?_
      clear hz
      exact hret _ _ _ _ ⟨rfl, h⟩ dX7_village_76
    replace h := h.2 c3
    by_cases c4 : a2 = (nI 4)
    · replace h := h.1 c4
      refine b_tsIn (v := (nI 4)) (j := 4) (t := 77) X dX7_village_11 c4 (by decide) (by decide) (by decide) rfl (by decide) ?_
      refine b_aload_n X dX7_village_77 rfl 0 rfl ?_
      refine b_iload_n X dX7_village_78 rfl 1 rfl ?_
      refine bVi (st := []) (nA := 1) X (c_X7_postsOf l D C ad a1 μ _ h) kM_0 (by decide) (enc_7 kM_0) rfl gw_X7_230 ⟨rfl, hd_X7_postsOf⟩ rfl rfl ⟨Nat.le_of_ble_eq_true rfl, Nat.le_of_ble_eq_true rfl⟩ rfl rfl (Nat.le_of_ble_eq_true rfl) dX7_village_79 (fun r3 μ4 h => ?_)
      obtain ⟨rfl, h⟩ := h
      exact hret _ _ _ _ ⟨rfl, h⟩ dX7_village_82
    replace h := h.2 c4
    have e0 := i32ne (j := 0) c0 (by decide)
    have e1 := i32ne (j := 1) c1 (by decide)
    have e2 := i32ne (j := 2) c2 (by decide)
    have e3 := i32ne (j := 3) c3 (by decide)
    have e4 := i32ne (j := 4) c4 (by decide)
    refine b_tsOut (t := 83) X dX7_village_11 (by omega) (by decide) ?_
    refine b_ldc (v := ((-1000000002) : Int32)) X m_k_X7_89 dX7_village_83 ?_
    exact hret _ _ _ _ ⟨rfl, h⟩ dX7_village_85
  · replace h := h.2 c
    refine b_ldc (v := ((-1000000001) : Int32)) X m_k_X7_219 dX7_village_7 ?_
    exact hret _ _ _ _ ⟨rfl, h⟩ dX7_village_9
set_option maxHeartbeats 4000000 in
set_option maxRecDepth 100000 in
theorem c_X7_goat (l : Launch) (D : va_G) (C : Nat → ClassId) (ad : Nat → Nat) (a1 : Int32) (a2 : Int32) (μ : Mem) (Q : Int32 → Prop) (h : w_X7_goat a1 a2 μ Q) : Mi sM l yX7_goat cX7_goat 3 (some .int) rm_X7_goat D C ad [.ref (ad 0), .int a1, .int a2] μ (fun r μ' => μ = μ' ∧ Q r) := by
  refine fm_i (by decide +kernel) sM_lt (Nat.le_of_ble_eq_true rfl) (fun K X hret => ?_)
  have X : CK sM D C ad K cX7_goat 3 RX7 := X
  refine b_lv (lv' := [(0, .ref (ad 0)), (1, .int a1), (2, .int a2)]) rfl ?_
  unfold w_X7_goat at h
  refine b_iload_n X dX7_goat_0 rfl 1 rfl ?_
  refine b_iconst (v := (nI 0)) X dX7_goat_1 (by decide) ?_
  refine b_aload_n X dX7_goat_2 rfl 0 rfl ?_
  refine g_7_22 X kM_0 m_f_X7_185 dX7_goat_3 ?_
  refine b_iconst (v := (nI 1)) X dX7_goat_6 (by decide) ?_
  refine b_isub X dX7_goat_7 ?_
  refine bSi (st := []) (nA := 3) X (c_X7_in l D C ad a1 (nI 0) ((μ.1 0 22) - (nI 1)) μ _ h) gw_X7_85 hd_X7_in rfl rfl ⟨Nat.le_of_ble_eq_true rfl, Nat.le_of_ble_eq_true rfl⟩ rfl rfl (Nat.le_of_ble_eq_true rfl) dX7_goat_8 (fun r1 μ2 h => ?_)
  obtain ⟨rfl, h⟩ := h
  refine b_if_ne (t := 19) X dX7_goat_11 (by decide) (fun c => ?_) (fun c => ?_)
  · replace h := h.1 c
    refine b_iload_n X dX7_goat_19 rfl 2 rfl ?_
    refine b_iconst (v := (nI 0)) X dX7_goat_20 (by decide) ?_
    refine b_iconst (v := (nI 1)) X dX7_goat_21 (by decide) ?_
    refine bSi (st := []) (nA := 3) X (c_X7_in l D C ad a2 (nI 0) (nI 1) μ _ h) gw_X7_85 hd_X7_in rfl rfl ⟨Nat.le_of_ble_eq_true rfl, Nat.le_of_ble_eq_true rfl⟩ rfl rfl (Nat.le_of_ble_eq_true rfl) dX7_goat_22 (fun r3 μ4 h => ?_)
    obtain ⟨rfl, h⟩ := h
    refine b_if_eq (t := 41) X dX7_goat_25 (by decide) (fun c => ?_) (fun c => ?_)
    · replace h := h.1 c
      refine b_ldc (v := ((-1000000002) : Int32)) X m_k_X7_89 dX7_goat_41 ?_
      exact hret _ _ _ _ ⟨rfl, h⟩ dX7_goat_43
    · replace h := h.2 c
      refine b_aload_n X dX7_goat_28 rfl 0 rfl ?_
      refine g_7_26 X kM_0 m_f_X7_44 dX7_goat_29 ?_
      refine b_iconst (v := (nI 2)) X dX7_goat_32 (by decide) ?_
      refine b_iload_n X dX7_goat_33 rfl 1 rfl ?_
      refine b_imul X dX7_goat_34 ?_
      refine b_iload_n X dX7_goat_35 rfl 2 rfl ?_
      refine b_iadd X dX7_goat_36 ?_
      have hz := h.1
      replace h := h.2
      refine b_iald X kM_11 nM_11 hz dX7_goat_37 ?_
      clear hz
      refine b_goto (t := 43) X dX7_goat_38 (by decide) ?_
      exact hret _ _ _ _ ⟨rfl, h⟩ dX7_goat_43
  · replace h := h.2 c
    refine b_ldc (v := ((-1000000001) : Int32)) X m_k_X7_219 dX7_goat_14 ?_
    refine b_goto (t := 43) X dX7_goat_16 (by decide) ?_
    exact hret _ _ _ _ ⟨rfl, h⟩ dX7_goat_43
set_option maxHeartbeats 4000000 in
set_option maxRecDepth 100000 in
theorem c_X7_takes (l : Launch) (D : va_G) (C : Nat → ClassId) (ad : Nat → Nat) (a0 : Int32) (a1 : Int32) (μ : Mem) (Q : Int32 → Prop) (h : w_X7_takes a0 a1 μ Q) : Mi sM l yX7_takes cX7_takes 2 (some .int) rm_X7_takes D C ad [.int a0, .int a1] μ (fun r μ' => μ = μ' ∧ Q r) := by
  refine fm_i (by decide +kernel) sM_lt (Nat.le_of_ble_eq_true rfl) (fun K X hret => ?_)
  have X : CK sM D C ad K cX7_takes 2 RX7 := X
  refine b_lv (lv' := [(0, .int a0), (1, .int a1)]) rfl ?_
  unfold w_X7_takes at h
  refine b_iload_n X dX7_takes_0 rfl 1 rfl ?_
  refine b_iload_n X dX7_takes_1 rfl 1 rfl ?_
  refine b_bipush (v := (nI 20)) X dX7_takes_2 (by decide) ?_
  refine b_icmp_lt (t := 11) X dX7_takes_4 (by decide) (fun c => ?_) (fun c => ?_)
  · replace h := h.1 c
    refine b_bipush (v := (nI 9)) X dX7_takes_11 (by decide) ?_
    refine b_iload_n X dX7_takes_13 rfl 0 rfl ?_
    refine b_isub X dX7_takes_14 ?_
    refine b_imul X dX7_takes_15 ?_
    refine b_bipush (v := (nI 10)) X dX7_takes_16 (by decide) ?_
    have hz := h.1
    replace h := h.2
    refine b_idiv X dX7_takes_18 hz ?_
    clear hz
    exact hret _ _ _ _ ⟨rfl, h⟩ dX7_takes_19
  · replace h := h.2 c
    refine b_iload_n X dX7_takes_7 rfl 0 rfl ?_
    refine b_goto (t := 15) X dX7_takes_8 (by decide) ?_
    refine b_imul X dX7_takes_15 ?_
    refine b_bipush (v := (nI 10)) X dX7_takes_16 (by decide) ?_
    have hz := h.1
    replace h := h.2
    refine b_idiv X dX7_takes_18 hz ?_
    clear hz
    exact hret _ _ _ _ ⟨rfl, h⟩ dX7_takes_19
set_option maxHeartbeats 4000000 in
set_option maxRecDepth 100000 in
theorem c_X7_leads (l : Launch) (D : va_G) (C : Nat → ClassId) (ad : Nat → Nat) (b1 : Nat) (h1 : sM.2.1 b1 = 8) (n1 : sM.2.2 b1 = 27) (a2 : Int32) (a3 : Int32) (a4 : Int32) (μ : Mem) (Q : Int32 → Mem → Prop) (h : w_X7_leads b1 a2 a3 a4 μ Q) : Mi sM l yX7_leads cX7_leads 8 (some .int) rm_X7_leads D C ad [.ref (ad 0), .ref (ad b1), .int a2, .int a3, .int a4] μ Q := by
  refine fm_i (by decide +kernel) sM_lt (Nat.le_of_ble_eq_true rfl) (fun K X hret => ?_)
  have X : CK sM D C ad K cX7_leads 8 RX7 := X
  refine b_lv (lv' := [(0, .ref (ad 0)), (1, .ref (ad b1)), (2, .int a2), (3, .int a3), (4, .int a4)]) rfl ?_
  unfold w_X7_leads at h
  have B3 : ∀ (v5 : Int32) (μ : Mem), w_X7_leads_3 b1 a2 a3 a4 v5 μ Q → WB sM l D C ad rm_X7_leads K 8 μ 3 [(0, .ref (ad 0)), (1, .ref (ad b1)), (2, .int a2), (3, .int a3), (4, .int a4), (5, .int v5)] [] := by
    intro v5 μ h
    obtain ⟨Y3, eY⟩ : ∃ Y : Int32 → Mem → Prop, Y = fun (v5 : Int32) (μ : Mem) => WB sM l D C ad rm_X7_leads K 8 μ 3 [(0, .ref (ad 0)), (1, .ref (ad b1)), (2, .int a2), (3, .int a3), (4, .int a4), (5, .int v5)] [] := ⟨_, rfl⟩
    have B3 : Y3 v5 μ := by
      unfold w_X7_leads_3 at h
      refine h Y3 ?_
      clear h
      intro v5 μ h
      unfold s_X7_leads_3 at h
      rw [eY]
      show WB sM l D C ad rm_X7_leads K 8 μ 3 [(0, .ref (ad 0)), (1, .ref (ad b1)), (2, .int a2), (3, .int a3), (4, .int a4), (5, .int v5)] []
      have T3 : ∀ (v5 : Int32) (μ : Mem), Y3 v5 μ → WB sM l D C ad rm_X7_leads K 8 μ 3 [(0, .ref (ad 0)), (1, .ref (ad b1)), (2, .int a2), (3, .int a3), (4, .int a4), (5, .int v5)] [] := by
        intro v5 μ h
        rw [eY] at h
        exact h
      clear eY
      have B26 : ∀ (μ : Mem), w_X7_leads_26 b1 a2 a3 a4 μ Q → WB sM l D C ad rm_X7_leads K 8 μ 26 [(0, .ref (ad 0)), (1, .ref (ad b1)), (2, .int a2), (3, .int a3), (4, .int a4)] [] := by
        intro μ h
        unfold w_X7_leads_26 at h
        have B32 : ∀ (v5 : Int32) (v6 : Int32) (μ : Mem), w_X7_leads_32 b1 a2 a3 a4 v5 v6 μ Q → WB sM l D C ad rm_X7_leads K 8 μ 32 [(0, .ref (ad 0)), (1, .ref (ad b1)), (3, .int a3), (4, .int a4), (5, .int v5), (6, .int v6)] [] := by
          intro v5 v6 μ h
          obtain ⟨Y32, eY⟩ : ∃ Y : Int32 → Int32 → Mem → Prop, Y = fun (v5 : Int32) (v6 : Int32) (μ : Mem) => WB sM l D C ad rm_X7_leads K 8 μ 32 [(0, .ref (ad 0)), (1, .ref (ad b1)), (3, .int a3), (4, .int a4), (5, .int v5), (6, .int v6)] [] := ⟨_, rfl⟩
          have B32 : Y32 v5 v6 μ := by
            unfold w_X7_leads_32 at h
            refine h Y32 ?_
            clear h
            intro v5 v6 μ h
            unfold s_X7_leads_32 at h
            rw [eY]
            show WB sM l D C ad rm_X7_leads K 8 μ 32 [(0, .ref (ad 0)), (1, .ref (ad b1)), (3, .int a3), (4, .int a4), (5, .int v5), (6, .int v6)] []
            have T32 : ∀ (v5 : Int32) (v6 : Int32) (μ : Mem), Y32 v5 v6 μ → WB sM l D C ad rm_X7_leads K 8 μ 32 [(0, .ref (ad 0)), (1, .ref (ad b1)), (3, .int a3), (4, .int a4), (5, .int v5), (6, .int v6)] [] := by
              intro v5 v6 μ h
              rw [eY] at h
              exact h
            clear eY
            have B61 : ∀ (v5 : Int32) (v6 : Int32) (s3 : Int32) (μ : Mem), w_X7_leads_61 b1 a2 a3 a4 Y32 v5 v6 s3 μ Q → WB sM l D C ad rm_X7_leads K 8 μ 61 [(0, .ref (ad 0)), (1, .ref (ad b1)), (3, .int a3), (4, .int a4), (5, .int v5), (6, .int v6)] [.int s3, .ref (ad b1), .ref (ad 0)] := by
              intro v5 v6 s3 μ h
              unfold w_X7_leads_61 at h
              have B113 : ∀ (v5 : Int32) (v6 : Int32) (μ : Mem), w_X7_leads_113 b1 a2 a3 a4 Y32 v5 v6 μ Q → WB sM l D C ad rm_X7_leads K 8 μ 113 [(0, .ref (ad 0)), (1, .ref (ad b1)), (3, .int a3), (4, .int a4), (5, .int v5), (6, .int v6)] [] := by
                intro v5 v6 μ h
                unfold w_X7_leads_113 at h
                obtain ⟨x11, ex11⟩ : ∃ y : Int32, y = v6 + (nI 1) := ⟨_, rfl⟩
                replace h := h x11 ex11
                refine b_iinc (x := x11) (lv' := [(6, .int x11), (0, .ref (ad 0)), (1, .ref (ad b1)), (3, .int a3), (4, .int a4), (5, .int v5)]) (q := 5) X dX7_leads_113 rfl (by rw [ex11]; rfl) (by decide) rfl ?_
                refine b_goto (t := 32) X dX7_leads_116 (by decide) ?_
                refine b_sub (lv' := [(0, .ref (ad 0)), (1, .ref (ad b1)), (3, .int a3), (4, .int a4), (5, .int v5), (6, .int x11)]) [1, 2, 3, 4, 5, 0] rfl ?_
                exact T32 v5 x11 μ h
              refine bVi (st := []) (nA := 2) X (c_X7_postIn l D C ad b1 h1 n1 s3 μ _ h) kM_0 (by decide) (enc_7 kM_0) rfl gw_X7_233 ⟨rfl, hd_X7_postIn⟩ rfl rfl ⟨Nat.le_of_ble_eq_true rfl, Nat.le_of_ble_eq_true rfl⟩ rfl rfl (Nat.le_of_ble_eq_true rfl) dX7_leads_61 (fun r3 μ4 h => ?_)
              obtain ⟨rfl, h⟩ := h
              refine b_istore (lv' := [(7, .int r3), (0, .ref (ad 0)), (1, .ref (ad b1)), (3, .int a3), (4, .int a4), (5, .int v5), (6, .int v6)]) X dX7_leads_64 (by decide) rfl ?_
              refine b_iload X dX7_leads_66 0 rfl ?_
              refine b_iconst (v := ((-1) : Int32)) X dX7_leads_68 (by decide) ?_
              refine b_icmp_eq (t := 113) X dX7_leads_69 (by decide) (fun c => ?_) (fun c => ?_)
              · replace h := h.1 c
                refine b_sub (lv' := [(0, .ref (ad 0)), (1, .ref (ad b1)), (3, .int a3), (4, .int a4), (5, .int v5), (6, .int v6)]) [1, 2, 3, 4, 5, 6] rfl ?_
                exact B113 v5 v6 μ h
              · replace h := h.2 c
                refine b_iload X dX7_leads_72 4 rfl ?_
                refine b_iload X dX7_leads_74 0 rfl ?_
                refine bSi (st := []) (nA := 2) X (c_X7_has l D C ad a4 r3 μ _ h) gw_X7_197 hd_X7_has rfl rfl ⟨Nat.le_of_ble_eq_true rfl, Nat.le_of_ble_eq_true rfl⟩ rfl rfl (Nat.le_of_ble_eq_true rfl) dX7_leads_76 (fun r5 μ6 h => ?_)
                obtain ⟨rfl, h⟩ := h
                refine b_if_eq (t := 113) X dX7_leads_79 (by decide) (fun c => ?_) (fun c => ?_)
                · replace h := h.1 c
                  refine b_sub (lv' := [(0, .ref (ad 0)), (1, .ref (ad b1)), (3, .int a3), (4, .int a4), (5, .int v5), (6, .int v6)]) [1, 2, 3, 4, 5, 6] rfl ?_
                  exact B113 v5 v6 μ h
                · replace h := h.2 c
                  refine b_aload_n X dX7_leads_82 rfl 1 rfl ?_
                  refine g_7_31 X kM_0 m_f_X7_59 dX7_leads_83 ?_
                  refine b_iload X dX7_leads_86 0 rfl ?_
                  refine b_aload_n X dX7_leads_88 rfl 2 rfl ?_
                  refine b_bipush (v := (nI 21)) X dX7_leads_89 (by decide) ?_
                  refine b_iload X dX7_leads_91 0 rfl ?_
                  refine b_iadd X dX7_leads_93 ?_
                  have hz := h.1
                  replace h := h.2
                  refine b_iald X h1 n1 hz dX7_leads_94 ?_
                  clear hz
                  refine b_iload X dX7_leads_95 5 rfl ?_
                  refine bSi (st := [.int r3, .ref (ad 16)]) (nA := 2) X (c_X7_takes l D C ad (μ.1 b1 (((nI 21) + r3)).toNatClampNeg) v5 μ _ h) gw_X7_237 hd_X7_takes rfl rfl ⟨Nat.le_of_ble_eq_true rfl, Nat.le_of_ble_eq_true rfl⟩ rfl rfl (Nat.le_of_ble_eq_true rfl) dX7_leads_97 (fun r7 μ8 h => ?_)
                  obtain ⟨rfl, h⟩ := h
                  have hz := h.1
                  replace h := h.2
                  refine b_iast X kM_16 nM_16 hz dX7_leads_100 (fun μ9 eμ9 => ?_)
                  clear hz
                  replace h := h μ9 eμ9
                  refine b_iload X dX7_leads_101 5 rfl ?_
                  refine b_aload_n X dX7_leads_103 rfl 1 rfl ?_
                  refine g_7_31 X kM_0 m_f_X7_59 dX7_leads_104 ?_
                  refine b_iload X dX7_leads_107 0 rfl ?_
                  have hz := h.1
                  replace h := h.2
                  refine b_iald X kM_16 nM_16 hz dX7_leads_109 ?_
                  clear hz
                  refine b_isub X dX7_leads_110 ?_
                  refine b_topi (fun x10 ex10 => ?_)
                  replace h := h x10 ex10
                  refine b_istore (lv' := [(5, .int x10), (7, .int r3), (0, .ref (ad 0)), (1, .ref (ad b1)), (3, .int a3), (4, .int a4), (6, .int v6)]) X dX7_leads_111 (by decide) rfl ?_
                  refine b_sub (lv' := [(0, .ref (ad 0)), (1, .ref (ad b1)), (3, .int a3), (4, .int a4), (5, .int x10), (6, .int v6)]) [2, 3, 4, 5, 0, 6] rfl ?_
                  exact B113 x10 v6 μ9 h
            refine b_iload X dX7_leads_32 5 rfl ?_
            refine b_aload_n X dX7_leads_34 rfl 0 rfl ?_
            refine g_7_18 X kM_0 m_f_X7_173 dX7_leads_35 ?_
            refine b_icmp_ge (t := 119) X dX7_leads_38 (by decide) (fun c => ?_) (fun c => ?_)
            · replace h := h.1 c
              refine b_iload X dX7_leads_119 4 rfl ?_
              exact hret _ _ _ _ h dX7_leads_121
            · replace h := h.2 c
              refine b_aload_n X dX7_leads_41 rfl 0 rfl ?_
              refine b_aload_n X dX7_leads_42 rfl 1 rfl ?_
              refine b_iload_n X dX7_leads_43 rfl 2 rfl ?_
              refine b_if_ne (t := 52) X dX7_leads_44 (by decide) (fun c => ?_) (fun c => ?_)
              · replace h := h.1 c
                refine b_aload_n X dX7_leads_52 rfl 0 rfl ?_
                refine g_7_18 X kM_0 m_f_X7_173 dX7_leads_53 ?_
                refine b_iconst (v := (nI 1)) X dX7_leads_56 (by decide) ?_
                refine b_isub X dX7_leads_57 ?_
                refine b_iload X dX7_leads_58 5 rfl ?_
                refine b_isub X dX7_leads_60 ?_
                refine b_sub (lv' := [(0, .ref (ad 0)), (1, .ref (ad b1)), (3, .int a3), (4, .int a4), (5, .int v5), (6, .int v6)]) [0, 1, 2, 3, 4, 5] rfl ?_
                exact B61 v5 v6 (((μ.1 0 18) - (nI 1)) - v6) μ h
              · replace h := h.2 c
                refine b_iload X dX7_leads_47 5 rfl ?_
                refine b_goto (t := 61) X dX7_leads_49 (by decide) ?_
                refine b_sub (lv' := [(0, .ref (ad 0)), (1, .ref (ad b1)), (3, .int a3), (4, .int a4), (5, .int v5), (6, .int v6)]) [0, 1, 2, 3, 4, 5] rfl ?_
                exact B61 v5 v6 v6 μ h
          rw [eY] at B32
          exact B32
        refine b_iload_n X dX7_leads_26 rfl 2 rfl ?_
        refine b_istore (lv' := [(5, .int a2), (0, .ref (ad 0)), (1, .ref (ad b1)), (2, .int a2), (3, .int a3), (4, .int a4)]) X dX7_leads_27 (by decide) rfl ?_
        refine b_iconst (v := (nI 0)) X dX7_leads_29 (by decide) ?_
        refine b_istore (lv' := [(6, .int (nI 0)), (5, .int a2), (0, .ref (ad 0)), (1, .ref (ad b1)), (2, .int a2), (3, .int a3), (4, .int a4)]) X dX7_leads_30 (by decide) rfl ?_
        refine b_sub (lv' := [(0, .ref (ad 0)), (1, .ref (ad b1)), (3, .int a3), (4, .int a4), (5, .int a2), (6, .int (nI 0))]) [2, 3, 5, 6, 1, 0] rfl ?_
        exact B32 a2 (nI 0) μ h
      refine b_iload X dX7_leads_3 5 rfl ?_
      refine b_aload_n X dX7_leads_5 rfl 0 rfl ?_
      refine g_7_20 X kM_0 m_f_X7_179 dX7_leads_6 ?_
      refine b_icmp_ge (t := 26) X dX7_leads_9 (by decide) (fun c => ?_) (fun c => ?_)
      · replace h := h.1 c
        refine b_sub (lv' := [(0, .ref (ad 0)), (1, .ref (ad b1)), (2, .int a2), (3, .int a3), (4, .int a4)]) [0, 1, 2, 3, 4] rfl ?_
        exact B26 μ h
      · replace h := h.2 c
        refine b_aload_n X dX7_leads_12 rfl 0 rfl ?_
        refine g_7_31 X kM_0 m_f_X7_59 dX7_leads_13 ?_
        refine b_iload X dX7_leads_16 5 rfl ?_
        refine b_iconst (v := (nI 0)) X dX7_leads_18 (by decide) ?_
        have hz := h.1
        replace h := h.2
        refine b_iast X kM_16 nM_16 hz dX7_leads_19 (fun μ1 eμ1 => ?_)
        clear hz
        replace h := h μ1 eμ1
        obtain ⟨x2, ex2⟩ : ∃ y : Int32, y = v5 + (nI 1) := ⟨_, rfl⟩
        replace h := h x2 ex2
        refine b_iinc (x := x2) (lv' := [(5, .int x2), (0, .ref (ad 0)), (1, .ref (ad b1)), (2, .int a2), (3, .int a3), (4, .int a4)]) (q := 5) X dX7_leads_20 rfl (by rw [ex2]; rfl) (by decide) rfl ?_
        refine b_goto (t := 3) X dX7_leads_23 (by decide) ?_
        refine b_sub (lv' := [(0, .ref (ad 0)), (1, .ref (ad b1)), (2, .int a2), (3, .int a3), (4, .int a4), (5, .int x2)]) [1, 2, 3, 4, 5, 0] rfl ?_
        exact T3 x2 μ1 h
    rw [eY] at B3
    exact B3
  refine b_iconst (v := (nI 0)) X dX7_leads_0 (by decide) ?_
  refine b_istore (lv' := [(5, .int (nI 0)), (0, .ref (ad 0)), (1, .ref (ad b1)), (2, .int a2), (3, .int a3), (4, .int a4)]) X dX7_leads_1 (by decide) rfl ?_
  refine b_sub (lv' := [(0, .ref (ad 0)), (1, .ref (ad b1)), (2, .int a2), (3, .int a3), (4, .int a4), (5, .int (nI 0))]) [1, 2, 3, 4, 5, 0] rfl ?_
  exact B3 (nI 0) μ h
set_option maxHeartbeats 4000000 in
set_option maxRecDepth 100000 in
theorem c_X7_counted (l : Launch) (D : va_G) (C : Nat → ClassId) (ad : Nat → Nat) (a0 : Int32) (μ : Mem) (Q : Int32 → Prop) (h : w_X7_counted a0 μ Q) : Mi sM l yX7_counted cX7_counted 1 (some .int) rm_X7_counted D C ad [.int a0] μ (fun r μ' => μ = μ' ∧ Q r) := by
  refine fm_i (by decide +kernel) sM_lt (Nat.le_of_ble_eq_true rfl) (fun K X hret => ?_)
  have X : CK sM D C ad K cX7_counted 1 RX7 := X
  refine b_lv (lv' := [(0, .int a0)]) rfl ?_
  unfold w_X7_counted at h
  refine b_iload_n X dX7_counted_0 rfl 0 rfl ?_
  refine b_ldc (v := (nI 999999)) X m_k_X7_240 dX7_counted_1 ?_
  refine b_icmp_le (t := 11) X dX7_counted_3 (by decide) (fun c => ?_) (fun c => ?_)
  · replace h := h.1 c
    refine b_iload_n X dX7_counted_11 rfl 0 rfl ?_
    exact hret _ _ _ _ ⟨rfl, h⟩ dX7_counted_12
  · replace h := h.2 c
    refine b_ldc (v := (nI 999999)) X m_k_X7_240 dX7_counted_6 ?_
    refine b_goto (t := 12) X dX7_counted_8 (by decide) ?_
    exact hret _ _ _ _ ⟨rfl, h⟩ dX7_counted_12
set_option maxHeartbeats 4000000 in
set_option maxRecDepth 100000 in
theorem c_X7_lit (l : Launch) (D : va_G) (C : Nat → ClassId) (ad : Nat → Nat) (a0 : Int32) (a1 : Int32) (a2 : Int32) (μ : Mem) (Q : Int32 → Prop) (h : w_X7_lit a0 a1 a2 μ Q) : Mi sM l yX7_lit cX7_lit 4 (some .int) rm_X7_lit D C ad [.int a0, .int a1, .int a2] μ (fun r μ' => μ = μ' ∧ Q r) := by
  refine fm_i (by decide +kernel) sM_lt (Nat.le_of_ble_eq_true rfl) (fun K X hret => ?_)
  have X : CK sM D C ad K cX7_lit 4 RX7 := X
  refine b_lv (lv' := [(0, .int a0), (1, .int a1), (2, .int a2)]) rfl ?_
  unfold w_X7_lit at h
  have B11 : ∀ (s2 : Int32) (s1 : Int32), w_X7_lit_11 a0 a1 a2 s2 s1 μ Q → WB sM l D C ad rm_X7_lit K 4 μ 11 [] [.int s2, .int s1] := by
    intro s2 s1 h
    unfold w_X7_lit_11 at h
    refine b_isub X dX7_lit_11 ?_
    refine b_topi (fun x1 ex1 => ?_)
    replace h := h x1 ex1
    refine b_istore_n (lv' := [(3, .int x1)]) X dX7_lit_12 rfl (by decide) rfl ?_
    refine b_iload_n X dX7_lit_13 rfl 0 rfl ?_
    refine b_if_ge (t := 21) X dX7_lit_14 (by decide) (fun c => ?_) (fun c => ?_)
    · replace h := h.1 c
      refine b_iload_n X dX7_lit_21 rfl 0 rfl ?_
      exact hret _ _ _ _ ⟨rfl, h⟩ dX7_lit_22
    · replace h := h.2 c
      refine b_iconst (v := (nI 0)) X dX7_lit_17 (by decide) ?_
      refine b_goto (t := 22) X dX7_lit_18 (by decide) ?_
      exact hret _ _ _ _ ⟨rfl, h⟩ dX7_lit_22
  refine b_iload_n X dX7_lit_0 rfl 0 rfl ?_
  refine b_iload_n X dX7_lit_1 rfl 1 rfl ?_
  refine b_iconst (v := (nI 1)) X dX7_lit_2 (by decide) ?_
  refine b_icmp_ne (t := 10) X dX7_lit_3 (by decide) (fun c => ?_) (fun c => ?_)
  · replace h := h.1 c
    refine b_iconst (v := (nI 0)) X dX7_lit_10 (by decide) ?_
    refine b_sub (lv' := []) [] rfl ?_
    exact B11 (nI 0) a0 h
  · replace h := h.2 c
    refine b_iload_n X dX7_lit_6 rfl 2 rfl ?_
    refine b_goto (t := 11) X dX7_lit_7 (by decide) ?_
    refine b_sub (lv' := []) [] rfl ?_
    exact B11 a2 a0 h
set_option maxHeartbeats 4000000 in
set_option maxRecDepth 100000 in
theorem c_X7_allTook (l : Launch) (D : va_G) (C : Nat → ClassId) (ad : Nat → Nat)  (μ : Mem) (Q : Int32 → Prop) (h : w_X7_allTook  μ Q) : Mi sM l yX7_allTook cX7_allTook 3 (some .int) rm_X7_allTook D C ad [.ref (ad 0)] μ (fun r μ' => μ = μ' ∧ Q r) := by
  refine fm_i (by decide +kernel) sM_lt (Nat.le_of_ble_eq_true rfl) (fun K X hret => ?_)
  have X : CK sM D C ad K cX7_allTook 3 RX7 := X
  refine b_lv (lv' := [(0, .ref (ad 0))]) rfl ?_
  unfold w_X7_allTook at h
  have B4 : ∀ (v1 : Int32) (v2 : Int32), w_X7_allTook_4 v1 v2 μ Q → WB sM l D C ad rm_X7_allTook K 3 μ 4 [(0, .ref (ad 0)), (1, .int v1), (2, .int v2)] [] := by
    intro v1 v2 h
    obtain ⟨Y4, eY⟩ : ∃ Y : Int32 → Int32 → Prop, Y = fun (v1 : Int32) (v2 : Int32) => WB sM l D C ad rm_X7_allTook K 3 μ 4 [(0, .ref (ad 0)), (1, .int v1), (2, .int v2)] [] := ⟨_, rfl⟩
    have B4 : Y4 v1 v2 := by
      unfold w_X7_allTook_4 at h
      refine h Y4 ?_
      clear h
      intro v1 v2 h
      unfold s_X7_allTook_4 at h
      rw [eY]
      show WB sM l D C ad rm_X7_allTook K 3 μ 4 [(0, .ref (ad 0)), (1, .int v1), (2, .int v2)] []
      have T4 : ∀ (v1 : Int32) (v2 : Int32), Y4 v1 v2 → WB sM l D C ad rm_X7_allTook K 3 μ 4 [(0, .ref (ad 0)), (1, .int v1), (2, .int v2)] [] := by
        intro v1 v2 h
        rw [eY] at h
        exact h
      clear eY
      refine b_iload_n X dX7_allTook_4 rfl 2 rfl ?_
      refine b_aload_n X dX7_allTook_5 rfl 0 rfl ?_
      refine g_7_20 X kM_0 m_f_X7_179 dX7_allTook_6 ?_
      refine b_icmp_ge (t := 27) X dX7_allTook_9 (by decide) (fun c => ?_) (fun c => ?_)
      · replace h := h.1 c
        refine b_iload_n X dX7_allTook_27 rfl 1 rfl ?_
        exact hret _ _ _ _ ⟨rfl, h⟩ dX7_allTook_28
      · replace h := h.2 c
        refine b_iload_n X dX7_allTook_12 rfl 1 rfl ?_
        refine b_aload_n X dX7_allTook_13 rfl 0 rfl ?_
        refine g_7_31 X kM_0 m_f_X7_59 dX7_allTook_14 ?_
        refine b_iload_n X dX7_allTook_17 rfl 2 rfl ?_
        have hz := h.1
        replace h := h.2
        refine b_iald X kM_16 nM_16 hz dX7_allTook_18 ?_
        clear hz
        refine b_iadd X dX7_allTook_19 ?_
        refine b_topi (fun x1 ex1 => ?_)
        replace h := h x1 ex1
        refine b_istore_n (lv' := [(1, .int x1), (0, .ref (ad 0)), (2, .int v2)]) X dX7_allTook_20 rfl (by decide) rfl ?_
        obtain ⟨x2, ex2⟩ : ∃ y : Int32, y = v2 + (nI 1) := ⟨_, rfl⟩
        replace h := h x2 ex2
        refine b_iinc (x := x2) (lv' := [(2, .int x2), (1, .int x1), (0, .ref (ad 0))]) (q := 2) X dX7_allTook_21 rfl (by rw [ex2]; rfl) (by decide) rfl ?_
        refine b_goto (t := 4) X dX7_allTook_24 (by decide) ?_
        refine b_sub (lv' := [(0, .ref (ad 0)), (1, .int x1), (2, .int x2)]) [2, 1, 0] rfl ?_
        exact T4 x1 x2 h
    rw [eY] at B4
    exact B4
  refine b_iconst (v := (nI 0)) X dX7_allTook_0 (by decide) ?_
  refine b_istore_n (lv' := [(1, .int (nI 0)), (0, .ref (ad 0))]) X dX7_allTook_1 rfl (by decide) rfl ?_
  refine b_iconst (v := (nI 0)) X dX7_allTook_2 (by decide) ?_
  refine b_istore_n (lv' := [(2, .int (nI 0)), (1, .int (nI 0)), (0, .ref (ad 0))]) X dX7_allTook_3 rfl (by decide) rfl ?_
  refine b_sub (lv' := [(0, .ref (ad 0)), (1, .int (nI 0)), (2, .int (nI 0))]) [2, 1, 0] rfl ?_
  exact B4 (nI 0) (nI 0) h
