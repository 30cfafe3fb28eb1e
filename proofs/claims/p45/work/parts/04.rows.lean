/-! ===== the kit's rows over this memory ===== -/
theorem goodWS {y : MethodName} {b : ByteArray} {n : Nat} {r : Option FieldType} (h : Cond.code y b n r ∈ kW) : GoodIn kW (WS y b n r) := by
  intro w hw
  rcases List.mem_cons.mp hw with rfl | hw
  · exact ⟨h, allGood _ h⟩
  · exact ⟨hw, allGood _ hw⟩
theorem goodV {own C : String} {idx : Nat} {y : MethodName} {b : ByteArray} {n : Nat} {r : Option FieldType} (h1 : Cond.methodLink own idx y ∈ kW) (h2 : Cond.instanceMethod y ∈ kW) (h3 : Cond.selects C y y ∈ kW) (h4 : Cond.initialized C ∈ kW) (h5 : Cond.code y b n r ∈ kW) : GoodIn kW (wsV own idx C y (WS y b n r)) := by
  intro w hw
  unfold wsV at hw
  rcases List.mem_append.mp hw with hw | hw
  · have : w ∈ kW := by
      simp only [List.mem_cons, List.not_mem_nil, or_false] at hw
      rcases hw with rfl | rfl | rfl | rfl <;> assumption
    exact ⟨this, allGood _ this⟩
  · exact goodWS h5 w hw
theorem goodS {own : String} {idx : Nat} {y : MethodName} {b : ByteArray} {n : Nat} {r : Option FieldType} (h1 : Cond.methodLink own idx y ∈ kW) (h2 : Cond.static y ∈ kW) (h4 : Cond.initialized y.cls ∈ kW) (h5 : Cond.code y b n r ∈ kW) : GoodIn kW (va_wsS own idx y (WS y b n r)) := by
  intro w hw
  unfold va_wsS at hw
  rcases List.mem_append.mp hw with hw | hw
  · have : w ∈ kW := by
      simp only [List.mem_cons, List.not_mem_nil, or_false] at hw
      rcases hw with rfl | rfl | rfl <;> assumption
    exact ⟨this, allGood _ this⟩
  · exact goodWS h5 w hw
section ROWS
variable {S : Sd} {D : va_G} {C : Nat → ClassId} {ad : Nat → Nat} {A : Nat → Prop} {H0 : Heap}
variable {p : Program} {l : Launch} {e : Env} {R : Room} {s : State} {m : MethodId} {args : Array Value} {below : List Frame} {meth : Method} {c : Code} {H : Heap} {locs : List Loc} {cells slots : Nat} {Q : State → Prop}
variable {cc : ByteArray} {nL : Nat} {own : String} {pc : Nat} {ls : Array Slot} {rest : List Value} {μ : Mem}
theorem r_get (X : CX S D C ad A H0 p s m args c cc nL own) (hw : FW S D C ad A H0 μ H locs) {k ci N j index : Nat} {Cn : String} {T : u_T} {fs : List Value} {v : Value} (hk : k < S.1) (he : enc S C ad μ k = .inr (ci, fs)) (hc : vwCl[ci]? = some (Cn, T, N)) (hin : ∀ w ∈ u_ws Cn T N, w ∈ kW) (hj : j < N) (hl : Cond.fieldLink own index (T j).1 (T j).2.1 (T j).2.2.1 ∈ kW) (hv : fs[j]? = some v) (hdg : decode cc pc = .ok (.getfield index, 3))
    (kk : W p l e R s m args below meth c H locs cells slots Q (F0 m (pc + 3) ls (v :: rest))) : W p l e R s m args below meth c H locs cells slots Q (F0 m pc ls (.ref (ad k) :: rest)) := by
  obtain ⟨hx, hb, hml, hown, hts, hn, hK, hD, hN, hA, hSX⟩ := X
  exact va_get (D := D) hx hb hts hin hown hK hw.2.1 k (by rw [wl_get hk, he]) hc j hj (hts _ hl) (fun _ h => h) hv hdg kk
theorem wl_put {k : Nat} {μ' : Mem} {e1 : va_E} (hk : k < S.1) (h1 : e1 = enc S C ad μ' k) (h2 : ∀ k2, k2 ≠ k → enc S C ad μ' k2 = enc S C ad μ k2) : (wl S.1 ad (enc S C ad μ)).set k (ad k, e1) = wl S.1 ad (enc S C ad μ') := by
  rw [wl_set hk]
  refine wl_congr (fun j _ => ?_)
  by_cases h : j = k
  · subst h
    simp [va_up, h1]
  · simp [va_up, h, h2 j h]
theorem r_put (X : CX S D C ad A H0 p s m args c cc nL own) (hw : FW S D C ad A H0 μ H locs) {k ci N j index : Nat} {Cn : String} {T : u_T} {fs : List Value} {v : Value} {ty : FieldType} {μ' : Mem} (hk : k < S.1) (he : enc S C ad μ k = .inr (ci, fs)) (hc : vwCl[ci]? = some (Cn, T, N)) (hin : ∀ w ∈ u_ws Cn T N, w ∈ kW) (ty0 : Nat → FieldType) (hty : ∀ k, k < N → parseFieldDescriptor (T k).2.2.1 = some (ty0 k)) (hnm : ∀ a, a < N → ∀ b, b < N → a ≠ b → (T a).2.1 ≠ (T b).2.1) (hj : j < N) (hl : Cond.fieldLink own index (T j).1 (T j).2.1 (T j).2.2.1 ∈ kW) (hfin : (T j).2.2.2 = false) (hd : parseFieldDescriptor (T j).2.2.1 = some ty) (hn : narrow ty v = v) (hfit : fits ty v = true) (hlen : j < fs.length) (hwf : wfS S μ → wfS S μ') (h1 : Sum.inr (ci, fs.set j v) = enc S C ad μ' k) (h2 : ∀ k2, k2 ≠ k → enc S C ad μ' k2 = enc S C ad μ k2) (hdg : decode cc pc = .ok (.putfield index, 3))
    (kk : ∀ (H1 : Heap) (locs1 : List Loc), FW S D C ad A H0 μ' H1 locs1 → W p l e R s m args below meth c H1 locs1 cells slots Q (F0 m (pc + 3) ls rest)) : W p l e R s m args below meth c H locs cells slots Q (F0 m pc ls (v :: .ref (ad k) :: rest)) := by
  obtain ⟨hx, hb, hml, hown, hts, hnn, hK, hD, hN, hA, hSX⟩ := X
  refine va_put (D := D) hx hb hts hin ty0 hty hnm hown hK hw.2.1 (wl_D hD (fun _ h => h)) hw.2.2 k (by rw [wl_get hk, he]) hc j hj (hts _ hl) (fun _ h => h) hfin hd hn hfit hlen hdg (fun H1 locs1 hP hD1 hS => ?_)
  rw [wl_put hk h1 h2] at hP
  exact kk H1 locs1 ⟨hwf hw.1, hP, hS⟩
theorem sA_other {k k2 : Nat} {f : Nat → Int32} (h : k2 ≠ k) : enc S C ad (sA μ k f) k2 = enc S C ad μ k2 := by
  simp only [enc, sA, if_neg h]
theorem sA_wf {k : Nat} {f : Nat → Int32} (h : wfS S μ) : wfS S (sA μ k f) := h
theorem enc_8 {k : Nat} (h : S.2.1 k = 8) : enc S C ad μ k = .inl (C 0, S.2.2 k, .inl (μ.1 k)) := by simp only [enc, h]
theorem enc_11 {k : Nat} (h : S.2.1 k = 11) : enc S C ad μ k = .inl (C 3, S.2.2 k, .inr (.inr (.inr (.inr (fun j => some (ad (43 + 6 * j))))))) := by simp only [enc, h]
theorem enc_12 {k : Nat} (h : S.2.1 k = 12) : enc S C ad μ k = .inl (C 3, S.2.2 k, .inr (.inr (.inr (.inr (fun j => some (ad (224 + 6 * j))))))) := by simp only [enc, h]
theorem r_iald (X : CX S D C ad A H0 p s m args c cc nL own) (hw : FW S D C ad A H0 μ H locs) {k n : Nat} {i : Int32} (hk : S.2.1 k = 8) (hn : S.2.2 k = n) (hi : vp_in i n) (hdg : decode cc pc = .ok (.iaload, 1))
    (kk : W p l e R s m args below meth c H locs cells slots Q (F0 m (pc + 1) ls (.int (μ.1 k i.toNatClampNeg) :: rest))) : W p l e R s m args below meth c H locs cells slots Q (F0 m pc ls (.int i :: .ref (ad k) :: rest)) := by
  obtain ⟨hx, hb, hml, hown, hts, hnn, hK, hD, hN, hA, hSX⟩ := X
  subst hn
  exact va_iald (D := D) hx hb hK hw.2.1 k 0 (by rw [wl_get (hN k (by omega)), enc_8 hk]) rfl hi hdg kk
theorem r_iast (X : CX S D C ad A H0 p s m args c cc nL own) (hw : FW S D C ad A H0 μ H locs) {k n : Nat} {i x : Int32} (hk : S.2.1 k = 8) (hn : S.2.2 k = n) (hi : vp_in i n) (hdg : decode cc pc = .ok (.iastore, 1))
    (kk : ∀ μ' : Mem, μ' = sI μ k i.toNatClampNeg x → ∀ (H1 : Heap) (locs1 : List Loc), FW S D C ad A H0 μ' H1 locs1 → W p l e R s m args below meth c H1 locs1 cells slots Q (F0 m (pc + 1) ls rest)) : W p l e R s m args below meth c H locs cells slots Q (F0 m pc ls (.int x :: .int i :: .ref (ad k) :: rest)) := by
  obtain ⟨hx, hb, hml, hown, hts, hnn, hK, hD, hN, hA, hSX⟩ := X
  subst hn
  refine va_iast (D := D) hx hb hK hw.2.1 (wl_D hD (fun _ h => h)) hw.2.2 k 0 (by rw [wl_get (hN k (by omega)), enc_8 hk]) rfl hi hdg (fun H1 locs1 hP hD1 hS => ?_)
  rw [wl_put (μ' := sI μ k i.toNatClampNeg x) (hN k (by omega)) (by rw [enc_8 hk]; simp [sI, sA]) (fun k2 h => sA_other h)] at hP
  exact kk _ rfl H1 locs1 ⟨sA_wf hw.1, hP, hS⟩
theorem nar_z {x : Int32} (h : x = 0 ∨ x = 1) : vp_nar .boolean x = x ∧ narrow .boolean (.int x) = .int x ∧ fits .boolean (.int x) = true := by
  rcases h with rfl | rfl <;> decide +kernel
theorem r_alen (X : CX S D C ad A H0 p s m args c cc nL own) (hw : FW S D C ad A H0 μ H locs) {k n : Nat} {v : Int32} (hk : S.2.1 k = 8) (hn : S.2.2 k = n) (hv : nI n = v) (hdg : decode cc pc = .ok (.arraylength, 1))
    (kk : W p l e R s m args below meth c H locs cells slots Q (F0 m (pc + 1) ls (.int v :: rest))) : W p l e R s m args below meth c H locs cells slots Q (F0 m pc ls (.ref (ad k) :: rest)) := by
  obtain ⟨hx, hb, hml, hown, hts, hnn, hK, hD, hN, hA, hSX⟩ := X
  subst hn
  exact va_alen (D := D) (x := (S.2.2 k, .inl (μ.1 k))) (v := v) hx hb hK hw.2.1 k 0 (by rw [wl_get (hN k (by omega)), enc_8 hk]) rfl hv hdg kk
theorem r_alen12 (X : CX S D C ad A H0 p s m args c cc nL own) (hw : FW S D C ad A H0 μ H locs) {k n : Nat} {v : Int32} (hk : S.2.1 k = 12) (hn : S.2.2 k = n) (hv : nI n = v) (hdg : decode cc pc = .ok (.arraylength, 1))
    (kk : W p l e R s m args below meth c H locs cells slots Q (F0 m (pc + 1) ls (.int v :: rest))) : W p l e R s m args below meth c H locs cells slots Q (F0 m pc ls (.ref (ad k) :: rest)) := by
  obtain ⟨hx, hb, hml, hown, hts, hnn, hK, hD, hN, hA, hSX⟩ := X
  subst hn
  exact va_alen (D := D) (x := (S.2.2 k, .inr (.inr (.inr (.inr (fun j => some (ad (224 + 6 * j)))))))) (v := v) hx hb hK hw.2.1 k 3 (by rw [wl_get (hN k (by omega)), enc_12 hk]) rfl hv hdg kk
theorem r_aald11 (X : CX S D C ad A H0 p s m args c cc nL own) (hw : FW S D C ad A H0 μ H locs) {k n : Nat} {i : Int32} (hk : S.2.1 k = 11) (hn : S.2.2 k = n) (hi : vp_in i n) (hdg : decode cc pc = .ok (.aaload, 1))
    (kk : W p l e R s m args below meth c H locs cells slots Q (F0 m (pc + 1) ls (.ref (ad (43 + 6 * i.toNatClampNeg)) :: rest))) : W p l e R s m args below meth c H locs cells slots Q (F0 m pc ls (.int i :: .ref (ad k) :: rest)) := by
  obtain ⟨hx, hb, hml, hown, hts, hnn, hK, hD, hN, hA, hSX⟩ := X
  subst hn
  exact va_aldq (D := D) (C := RX4) (f := fun j => some (ad (43 + 6 * j))) hx hb hK hw.2.1 k 3 (by rw [wl_get (hN k (by omega)), enc_11 hk]) rfl hi hdg kk
theorem r_aald12 (X : CX S D C ad A H0 p s m args c cc nL own) (hw : FW S D C ad A H0 μ H locs) {k n : Nat} {i : Int32} (hk : S.2.1 k = 12) (hn : S.2.2 k = n) (hi : vp_in i n) (hdg : decode cc pc = .ok (.aaload, 1))
    (kk : W p l e R s m args below meth c H locs cells slots Q (F0 m (pc + 1) ls (.ref (ad (224 + 6 * i.toNatClampNeg)) :: rest))) : W p l e R s m args below meth c H locs cells slots Q (F0 m pc ls (.int i :: .ref (ad k) :: rest)) := by
  obtain ⟨hx, hb, hml, hown, hts, hnn, hK, hD, hN, hA, hSX⟩ := X
  subst hn
  exact va_aldq (D := D) (C := RX4) (f := fun j => some (ad (224 + 6 * j))) hx hb hK hw.2.1 k 3 (by rw [wl_get (hN k (by omega)), enc_12 hk]) rfl hi hdg kk
/-- System.arraycopy of a whole row's first n numbers onto another's -/
theorem r_copy (X : CX S D C ad A H0 p s m args c cc nL own) (hw : FW S D C ad A H0 μ H locs) {k k1 n : Nat} {index : Nat} {N : Int32} (hk : S.2.1 k = 8) (hk1 : S.2.1 k1 = 8) (hn : S.2.2 k = n) (hn1 : S.2.2 k1 = n) (h0 : ¬ N < 0) (hN : N.toNatClampNeg = n) (hml : nL = ls.size) (hlink : Cond.methodLink own index arraycopyName ∈ kW) (hnat : Cond.native arraycopyName ∈ kW) (hstat : Cond.static arraycopyName ∈ kW) (hini : Cond.initialized "java/lang/System" ∈ kW)
    (hframes : 1 ≤ R.frames) (hlocals : (rest.map fun v => v.category).sum + (nativeFrameWords "java/lang/System" "arraycopy" 5 + 11) ≤ R.locals) (hdg : decode cc pc = .ok (.invokestatic index, 3))
    (kk : ∀ μ' : Mem, μ' = sA μ k1 (va_cpy (μ.1 k) (μ.1 k1) 0 0 n) → ∀ (H1 : Heap) (locs1 : List Loc), FW S D C ad A H0 μ' H1 locs1 → W p l e R s m args below meth c H1 locs1 cells slots Q (F0 m (pc + 3) ls rest)) : W p l e R s m args below meth c H locs cells slots Q (F0 m pc ls (.int N :: .int 0 :: .ref (ad k1) :: .int 0 :: .ref (ad k) :: rest)) := by
  obtain ⟨hx, hb, hml0, hown, hts, hnn, hK, hD, hN0, hA, hSX⟩ := X
  subst hn
  have e0 : (0 : Int32).toNatClampNeg = 0 := by decide +kernel
  refine va_copyi (D := D) (f := μ.1 k) (g := μ.1 k1) (sp := 0) (dp := 0) (n := N) (ty := .int) hx hb (hml0.trans hml) hown (hts _ hlink) (hts _ hnat) (hts _ hstat) (hts _ hini) hK hw.2.1 (wl_D hD (fun _ h => h)) hw.2.2 k k1 0 0 (by rw [wl_get (hN0 k (by omega)), enc_8 hk]) (by rw [wl_get (hN0 k1 (by omega)), enc_8 hk1]) rfl rfl rfl (by decide +kernel) (by decide +kernel) h0 (by rw [e0, hN]; omega) (by rw [e0, hN, hn1]; omega) (fun i _ => rfl) hframes hlocals hdg (fun H1 locs1 hP hD1 hS => ?_)
  rw [e0, hN] at hP
  rw [wl_put (μ' := sA μ k1 (va_cpy (μ.1 k) (μ.1 k1) 0 0 (S.2.2 k))) (hN0 k1 (by omega)) (by rw [enc_8 hk1]; simp [sA]) (fun k2 h => sA_other h)] at hP
  exact kk _ rfl H1 locs1 ⟨sA_wf hw.1, hP, hS⟩
/-! calls -/
theorem k_U (X : CX S D C ad A H0 p s m args c cc nL own) (hw : FW S D C ad A H0 μ H locs) {U : State} (hU : U.heap = H) (hW : s.WarmedH U.vm) : U.heap.size = H.size ∧ FU S D C ad μ U := by
  obtain ⟨hx, hb, hml, hown, hts, hn, hK, hD, hN, hA, hSX⟩ := X
  exact ⟨by rw [hU], hw.1, by rw [hU]; exact hw.2.1, va_K.moved hW.alike hK, NW.warm hW hn, wl_D hD (fun _ _ => trivial), fun h0 => ⟨by rw [hU]; exact va_X.moved hW.alike (va_X.kept (hSX h0).1 (hw.2.2.2.1 _ (hSX h0).2.1 (hSX h0).2.2)), by rw [hU]; exact Nat.lt_of_lt_of_le (hSX h0).2.1 hw.2.2.1, fun ⟨k, h1, h2⟩ => (hSX h0).2.2 (by rw [h2]; exact hD.2 k _ (wl_get h1))⟩⟩
theorem k_F (X : CX S D C ad A H0 p s m args c cc nL own) (hw : FW S D C ad A H0 μ H locs) : ∀ q, va_A (wl S.1 ad e0) H.size q → A q := by
  obtain ⟨hx, hb, hml, hown, hts, hn, hK, hD, hN, hA, hSX⟩ := X
  intro q h
  rcases wl_A h with ⟨k, h1, rfl⟩ | h
  · exact hD.2 k _ (wl_get h1)
  · exact hA q (Nat.le_trans hw.2.2.1 h)
theorem k_i (X : CX S D C ad A H0 p s m args c cc nL own) (hw : FW S D C ad A H0 μ H locs) {st0 : List Value} {a : Array Value} {Q1 : Int32 → Mem → Prop} (hr : va_Run p l e R s m args below meth c H locs cells slots 0 0 (F0 m pc ls st0) rest (va_Qi Q1 (FU S D C ad) (va_A (wl S.1 ad e0) H.size) a) (va_A (wl S.1 ad e0) H.size))
    (kk : ∀ (r : Int32) (μ' : Mem), Q1 r μ' → ∀ (H1 : Heap) (locs1 : List Loc), FW S D C ad A H0 μ' H1 locs1 → W p l e R s m args below meth c H1 locs1 cells slots Q (F0 m (pc + 3) ls (.int r :: rest))) : W p l e R s m args below meth c H locs cells slots Q (F0 m pc ls st0) := by
  refine va_calli hr hw.2.2 (fun q _ h => k_F X hw q h) (k_F X hw) (fun r u t H1 locs1 ht hvm hq hB hz hk hS => ?_)
  exact kk r u hq H1 locs1 ⟨hB.1, by rw [← ht]; exact hB.2.1, hS⟩
theorem k_l (X : CX S D C ad A H0 p s m args c cc nL own) (hw : FW S D C ad A H0 μ H locs) {st0 : List Value} {a : Array Value} {Q1 : Int64 → Mem → Prop} (hr : va_Run p l e R s m args below meth c H locs cells slots 0 0 (F0 m pc ls st0) rest (va_Ql Q1 (FU S D C ad) (va_A (wl S.1 ad e0) H.size) a) (va_A (wl S.1 ad e0) H.size))
    (kk : ∀ (r : Int64) (μ' : Mem), Q1 r μ' → ∀ (H1 : Heap) (locs1 : List Loc), FW S D C ad A H0 μ' H1 locs1 → W p l e R s m args below meth c H1 locs1 cells slots Q (F0 m (pc + 3) ls (.long r :: rest))) : W p l e R s m args below meth c H locs cells slots Q (F0 m pc ls st0) := by
  refine va_calll hr hw.2.2 (fun q _ h => k_F X hw q h) (k_F X hw) (fun r u t H1 locs1 ht hvm hq hB hz hk hS => ?_)
  exact kk r u hq H1 locs1 ⟨hB.1, by rw [← ht]; exact hB.2.1, hS⟩
theorem k_v (X : CX S D C ad A H0 p s m args c cc nL own) (hw : FW S D C ad A H0 μ H locs) {st0 : List Value} {a : Array Value} {Q1 : Mem → Prop} (hr : va_Run p l e R s m args below meth c H locs cells slots 0 0 (F0 m pc ls st0) rest (va_Qv Q1 (FU S D C ad) (va_A (wl S.1 ad e0) H.size) a) (va_A (wl S.1 ad e0) H.size))
    (kk : ∀ (μ' : Mem), Q1 μ' → ∀ (H1 : Heap) (locs1 : List Loc), FW S D C ad A H0 μ' H1 locs1 → W p l e R s m args below meth c H1 locs1 cells slots Q (F0 m (pc + 3) ls rest)) : W p l e R s m args below meth c H locs cells slots Q (F0 m pc ls st0) := by
  refine va_callv hr hw.2.2 (fun q _ h => k_F X hw q h) (k_F X hw) (fun u t H1 locs1 ht hvm hq hB hz hk hS => ?_)
  exact kk u hq H1 locs1 ⟨hB.1, by rw [← ht]; exact hB.2.1, hS⟩
theorem k_q (X : CX S D C ad A H0 p s m args c cc nL own) (hw : FW S D C ad A H0 μ H locs) {st0 : List Value} {a : Array Value} {Q1 : Option Nat → Mem → Prop} (hr : va_Run p l e R s m args below meth c H locs cells slots 0 0 (F0 m pc ls st0) rest (va_Qq (fun (o : Option Nat) (u : Option Nat × Mem) => o = u.1.map ad ∧ Q1 u.1 u.2) (fun u => FU S D C ad u.2) (va_A (wl S.1 ad e0) H.size) a) (va_A (wl S.1 ad e0) H.size))
    (kk : ∀ (r : Option Nat) (μ' : Mem), Q1 r μ' → ∀ (H1 : Heap) (locs1 : List Loc), FW S D C ad A H0 μ' H1 locs1 → W p l e R s m args below meth c H1 locs1 cells slots Q (F0 m (pc + 3) ls (va_rf (r.map ad) :: rest))) : W p l e R s m args below meth c H locs cells slots Q (F0 m pc ls st0) := by
  refine va_callq hr hw.2.2 (fun q _ h => k_F X hw q h) (k_F X hw) (fun r u t H1 locs1 ht hvm hq hB hz hk hS => ?_)
  rw [hq.1]
  exact kk u.1 u.2 hq.2 H1 locs1 ⟨hB.1, by rw [← ht]; exact hB.2.1, hS⟩
/-- the receiver of a call is an object of its class -/
theorem k_recv (X : CX S D C ad A H0 p s m args c cc nL own) (hw : FW S D C ad A H0 μ H locs) {k ci : Nat} {q : vw_C} {fs : List Value} (hk : k < S.1) (he : enc S C ad μ k = .inr (ci, fs)) (hc : vwCl[ci]? = some q) : ∃ cell : Cell, H[ad k]? = some cell ∧ cell.vm.isStatics = false ∧ s.vm.findClass q.1 = some cell.cls := by
  obtain ⟨hx, hb, hml, hown, hts, hn, hK, hD, hN, hA, hSX⟩ := X
  exact va_recv hK hw.2.1 hc (by rw [wl_get hk, he])
variable {y : MethodName} {b : ByteArray} {n : Nat} {r : Option FieldType} {rm : Room} {As : List Value} {k nA index : Nat} {Cn : String}
abbrev kD (y : MethodName) (nA : Nat) : Prop := y.cls ≠ "java/lang/invoke/MethodHandle" ∧ y.cls ≠ "java/lang/invoke/VarHandle" ∧ (parseMethodDescriptor y.desc).map (fun d => d.parameters.length) = some nA
abbrev kR (rm R : Room) (n : Nat) : Prop := rm.frames + 1 ≤ R.frames ∧ 8 + (n + 11) + rm.locals ≤ R.locals
theorem kVi (X : CX S D C ad A H0 p s m args c cc nL own) (hw : FW S D C ad A H0 μ H locs) {Q1 : Int32 → Mem → Prop} (hM : Mi S l y b n r rm D C ad (.ref (ad k) :: As) μ Q1) (hrc : ∃ cell : Cell, H[ad k]? = some cell ∧ cell.vm.isStatics = false ∧ s.vm.findClass Cn = some cell.cls) (hG : GoodIn kW (wsV own index Cn y (WS y b n r))) (hd : y.cls = Cn ∧ kD y nA) (hc0 : rm.cells = 0) (hs0 : rm.slots = 0) (hR : kR rm R n) (hn : As.length = nA) (hls : ls.size = nL) {st0 : List Value} (hst : st0 = As.reverse ++ .ref (ad k) :: rest) (hr : (rest.map fun v => v.category).sum ≤ 8) (hdg : decode cc pc = .ok (.invokevirtual index, 3)) (hf : cells ≤ R.cells ∧ slots ≤ R.slots)
    (kk : ∀ (r : Int32) (μ' : Mem), Q1 r μ' → ∀ (H1 : Heap) (locs1 : List Loc), FW S D C ad A H0 μ' H1 locs1 → W p l e R s m args below meth c H1 locs1 cells slots Q (F0 m (pc + 3) ls (.int r :: rest))) : W p l e R s m args below meth c H locs cells slots Q (F0 m pc ls st0) := by
  have X' := X
  obtain ⟨hx, hb, hml, hown, hts, hnn, hK, hD, hN, hA, hSX⟩ := X'
  exact k_i X hw (va_runV (rest := rest) ⟨hx, hb, hml, hown, hts⟩ (hM H.size) (cwV nA hts hG rfl hc0 hs0 hd hR) ⟨FU.blind, hrc, fun U hU hW => ⟨rfl, k_U X hw hU hW⟩⟩ rfl hn hls hst (lv_room hr) hdg hf) kk
theorem kVl (X : CX S D C ad A H0 p s m args c cc nL own) (hw : FW S D C ad A H0 μ H locs) {Q1 : Int64 → Mem → Prop} (hM : Ml S l y b n r rm D C ad (.ref (ad k) :: As) μ Q1) (hrc : ∃ cell : Cell, H[ad k]? = some cell ∧ cell.vm.isStatics = false ∧ s.vm.findClass Cn = some cell.cls) (hG : GoodIn kW (wsV own index Cn y (WS y b n r))) (hd : y.cls = Cn ∧ kD y nA) (hc0 : rm.cells = 0) (hs0 : rm.slots = 0) (hR : kR rm R n) (hn : As.length = nA) (hls : ls.size = nL) {st0 : List Value} (hst : st0 = As.reverse ++ .ref (ad k) :: rest) (hr : (rest.map fun v => v.category).sum ≤ 8) (hdg : decode cc pc = .ok (.invokevirtual index, 3)) (hf : cells ≤ R.cells ∧ slots ≤ R.slots)
    (kk : ∀ (r : Int64) (μ' : Mem), Q1 r μ' → ∀ (H1 : Heap) (locs1 : List Loc), FW S D C ad A H0 μ' H1 locs1 → W p l e R s m args below meth c H1 locs1 cells slots Q (F0 m (pc + 3) ls (.long r :: rest))) : W p l e R s m args below meth c H locs cells slots Q (F0 m pc ls st0) := by
  have X' := X
  obtain ⟨hx, hb, hml, hown, hts, hnn, hK, hD, hN, hA, hSX⟩ := X'
  exact k_l X hw (va_runV (rest := rest) ⟨hx, hb, hml, hown, hts⟩ (hM H.size) (cwV nA hts hG rfl hc0 hs0 hd hR) ⟨FU.blind, hrc, fun U hU hW => ⟨rfl, k_U X hw hU hW⟩⟩ rfl hn hls hst (lv_room hr) hdg hf) kk
theorem kVv (X : CX S D C ad A H0 p s m args c cc nL own) (hw : FW S D C ad A H0 μ H locs) {Q1 : Mem → Prop} (hM : Mv S l y b n r rm D C ad (.ref (ad k) :: As) μ Q1) (hrc : ∃ cell : Cell, H[ad k]? = some cell ∧ cell.vm.isStatics = false ∧ s.vm.findClass Cn = some cell.cls) (hG : GoodIn kW (wsV own index Cn y (WS y b n r))) (hd : y.cls = Cn ∧ kD y nA) (hc0 : rm.cells = 0) (hs0 : rm.slots = 0) (hR : kR rm R n) (hn : As.length = nA) (hls : ls.size = nL) {st0 : List Value} (hst : st0 = As.reverse ++ .ref (ad k) :: rest) (hr : (rest.map fun v => v.category).sum ≤ 8) (hdg : decode cc pc = .ok (.invokevirtual index, 3)) (hf : cells ≤ R.cells ∧ slots ≤ R.slots)
    (kk : ∀ (μ' : Mem), Q1 μ' → ∀ (H1 : Heap) (locs1 : List Loc), FW S D C ad A H0 μ' H1 locs1 → W p l e R s m args below meth c H1 locs1 cells slots Q (F0 m (pc + 3) ls rest)) : W p l e R s m args below meth c H locs cells slots Q (F0 m pc ls st0) := by
  have X' := X
  obtain ⟨hx, hb, hml, hown, hts, hnn, hK, hD, hN, hA, hSX⟩ := X'
  exact k_v X hw (va_runV (rest := rest) ⟨hx, hb, hml, hown, hts⟩ (hM H.size) (cwV nA hts hG rfl hc0 hs0 hd hR) ⟨FU.blind, hrc, fun U hU hW => ⟨rfl, k_U X hw hU hW⟩⟩ rfl hn hls hst (lv_room hr) hdg hf) kk
theorem kVq (X : CX S D C ad A H0 p s m args c cc nL own) (hw : FW S D C ad A H0 μ H locs) {Q1 : Option Nat → Mem → Prop} (hM : Mq S l y b n r rm D C ad (.ref (ad k) :: As) μ Q1) (hrc : ∃ cell : Cell, H[ad k]? = some cell ∧ cell.vm.isStatics = false ∧ s.vm.findClass Cn = some cell.cls) (hG : GoodIn kW (wsV own index Cn y (WS y b n r))) (hd : y.cls = Cn ∧ kD y nA) (hc0 : rm.cells = 0) (hs0 : rm.slots = 0) (hR : kR rm R n) (hn : As.length = nA) (hls : ls.size = nL) {st0 : List Value} (hst : st0 = As.reverse ++ .ref (ad k) :: rest) (hr : (rest.map fun v => v.category).sum ≤ 8) (hdg : decode cc pc = .ok (.invokevirtual index, 3)) (hf : cells ≤ R.cells ∧ slots ≤ R.slots)
    (kk : ∀ (r : Option Nat) (μ' : Mem), Q1 r μ' → ∀ (H1 : Heap) (locs1 : List Loc), FW S D C ad A H0 μ' H1 locs1 → W p l e R s m args below meth c H1 locs1 cells slots Q (F0 m (pc + 3) ls (va_rf (r.map ad) :: rest))) : W p l e R s m args below meth c H locs cells slots Q (F0 m pc ls st0) := by
  have X' := X
  obtain ⟨hx, hb, hml, hown, hts, hnn, hK, hD, hN, hA, hSX⟩ := X'
  exact k_q X hw (va_runV (rest := rest) ⟨hx, hb, hml, hown, hts⟩ (hM H.size) (cwV nA hts hG rfl hc0 hs0 hd hR) ⟨FU.blind, hrc, fun U hU hW => ⟨rfl, k_U X hw hU hW⟩⟩ rfl hn hls hst (lv_room hr) hdg hf) kk
theorem kSi (X : CX S D C ad A H0 p s m args c cc nL own) (hw : FW S D C ad A H0 μ H locs) {Q1 : Int32 → Mem → Prop} (hM : Mi S l y b n r rm D C ad As μ Q1) (hG : GoodIn kW (va_wsS own index y (WS y b n r))) (hd : kD y nA) (hc0 : rm.cells = 0) (hs0 : rm.slots = 0) (hR : kR rm R n) (hn : As.length = nA) (hls : ls.size = nL) {st0 : List Value} (hst : st0 = As.reverse ++ rest) (hr : (rest.map fun v => v.category).sum ≤ 8) (hdg : decode cc pc = .ok (.invokestatic index, 3)) (hf : cells ≤ R.cells ∧ slots ≤ R.slots)
    (kk : ∀ (r : Int32) (μ' : Mem), Q1 r μ' → ∀ (H1 : Heap) (locs1 : List Loc), FW S D C ad A H0 μ' H1 locs1 → W p l e R s m args below meth c H1 locs1 cells slots Q (F0 m (pc + 3) ls (.int r :: rest))) : W p l e R s m args below meth c H locs cells slots Q (F0 m pc ls st0) := by
  have X' := X
  obtain ⟨hx, hb, hml, hown, hts, hnn, hK, hD, hN, hA, hSX⟩ := X'
  exact k_i X hw (va_runS (rest := rest) ⟨hx, hb, hml, hown, hts⟩ (hM H.size) (va_cwS nA hts hG rfl hc0 hs0 hd hR) ⟨FU.blind, fun U hU hW => ⟨rfl, k_U X hw hU hW⟩⟩ rfl hn hls hst (lv_room hr) hdg hf) kk
theorem kSv (X : CX S D C ad A H0 p s m args c cc nL own) (hw : FW S D C ad A H0 μ H locs) {Q1 : Mem → Prop} (hM : Mv S l y b n r rm D C ad As μ Q1) (hG : GoodIn kW (va_wsS own index y (WS y b n r))) (hd : kD y nA) (hc0 : rm.cells = 0) (hs0 : rm.slots = 0) (hR : kR rm R n) (hn : As.length = nA) (hls : ls.size = nL) {st0 : List Value} (hst : st0 = As.reverse ++ rest) (hr : (rest.map fun v => v.category).sum ≤ 8) (hdg : decode cc pc = .ok (.invokestatic index, 3)) (hf : cells ≤ R.cells ∧ slots ≤ R.slots)
    (kk : ∀ (μ' : Mem), Q1 μ' → ∀ (H1 : Heap) (locs1 : List Loc), FW S D C ad A H0 μ' H1 locs1 → W p l e R s m args below meth c H1 locs1 cells slots Q (F0 m (pc + 3) ls rest)) : W p l e R s m args below meth c H locs cells slots Q (F0 m pc ls st0) := by
  have X' := X
  obtain ⟨hx, hb, hml, hown, hts, hnn, hK, hD, hN, hA, hSX⟩ := X'
  exact k_v X hw (va_runS (rest := rest) ⟨hx, hb, hml, hown, hts⟩ (hM H.size) (va_cwS nA hts hG rfl hc0 hs0 hd hR) ⟨FU.blind, fun U hU hW => ⟨rfl, k_U X hw hU hW⟩⟩ rfl hn hls hst (lv_room hr) hdg hf) kk
/-- private static methods of a nest mate -/
theorem kNi {host : String} (X : CX S D C ad A H0 p s m args c cc nL own) (hw : FW S D C ad A H0 μ H locs) {Q1 : Int32 → Mem → Prop} (hM : Mi S l y b n r rm D C ad As μ Q1) (hne : (own, index, y, host) ∈ nestL) (hst0 : Cond.static y ∈ kW) (hi0 : Cond.initialized y.cls ∈ kW) (hcd : Cond.code y b n r ∈ kW) (hd : kD y nA) (hc0 : rm.cells = 0) (hs0 : rm.slots = 0) (hR : kR rm R n) (hn : As.length = nA) (hls : ls.size = nL) {st0 : List Value} (hst : st0 = As.reverse ++ rest) (hr : (rest.map fun v => v.category).sum ≤ 8) (hdg : decode cc pc = .ok (.invokestatic index, 3)) (hf : cells ≤ R.cells ∧ slots ≤ R.slots)
    (kk : ∀ (r : Int32) (μ' : Mem), Q1 r μ' → ∀ (H1 : Heap) (locs1 : List Loc), FW S D C ad A H0 μ' H1 locs1 → W p l e R s m args below meth c H1 locs1 cells slots Q (F0 m (pc + 3) ls (.int r :: rest))) : W p l e R s m args below meth c H locs cells slots Q (F0 m pc ls st0) := by
  have X' := X
  obtain ⟨hx, hb, hml, hown, hts, hnn, hK, hD, hN, hA, hSX⟩ := X'
  exact k_i X hw (va_runSN (rest := rest) ⟨hx, hb, hml, hown, hts⟩ (hM H.size) ⟨va_cnB (host := host) nA hts (goodWS hcd) rfl hc0 hs0 (hnn _ hne) (hts _ hi0) hd hR, hts _ hst0, trivial⟩ ⟨FU.blind, fun U hU hW => ⟨rfl, k_U X hw hU hW⟩⟩ rfl hn hls hst (lv_room hr) hdg hf) kk
theorem kNv {host : String} (X : CX S D C ad A H0 p s m args c cc nL own) (hw : FW S D C ad A H0 μ H locs) {Q1 : Mem → Prop} (hM : Mv S l y b n r rm D C ad As μ Q1) (hne : (own, index, y, host) ∈ nestL) (hst0 : Cond.static y ∈ kW) (hi0 : Cond.initialized y.cls ∈ kW) (hcd : Cond.code y b n r ∈ kW) (hd : kD y nA) (hc0 : rm.cells = 0) (hs0 : rm.slots = 0) (hR : kR rm R n) (hn : As.length = nA) (hls : ls.size = nL) {st0 : List Value} (hst : st0 = As.reverse ++ rest) (hr : (rest.map fun v => v.category).sum ≤ 8) (hdg : decode cc pc = .ok (.invokestatic index, 3)) (hf : cells ≤ R.cells ∧ slots ≤ R.slots)
    (kk : ∀ (μ' : Mem), Q1 μ' → ∀ (H1 : Heap) (locs1 : List Loc), FW S D C ad A H0 μ' H1 locs1 → W p l e R s m args below meth c H1 locs1 cells slots Q (F0 m (pc + 3) ls rest)) : W p l e R s m args below meth c H locs cells slots Q (F0 m pc ls st0) := by
  have X' := X
  obtain ⟨hx, hb, hml, hown, hts, hnn, hK, hD, hN, hA, hSX⟩ := X'
  exact k_v X hw (va_runSN (rest := rest) ⟨hx, hb, hml, hown, hts⟩ (hM H.size) ⟨va_cnB (host := host) nA hts (goodWS hcd) rfl hc0 hs0 (hnn _ hne) (hts _ hi0) hd hR, hts _ hst0, trivial⟩ ⟨FU.blind, fun U hU hW => ⟨rfl, k_U X hw hU hW⟩⟩ rfl hn hls hst (lv_room hr) hdg hf) kk
end ROWS
