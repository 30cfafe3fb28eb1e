/-! ===== the law from its entry ===== -/
abbrev CJ (D : va_G) (C : Nat → ClassId) (K : Ctx) (cc : ByteArray) (n : Nat) (own : String) : Prop := CK S0 D C a00 K cc n own ∧ True ∧ va_AO RX4 K.2.2.2.1
section JCT
variable {l : Launch} {D : va_G} {C : Nat → ClassId} {R : Room} {K : Ctx} {n : Nat} {pc : Nat} {lv lv' : List (Nat × Value)} {st : List Value} {cc : ByteArray} {own : String} {c0 s0 : Nat} {ws ws' : va_W} {a : Nat}
theorem j_new (X : CJ D C K cc n own) {ci N index : Nat} {Cn : String} {T : u_T} {fs : List Value} (hin : ∀ w ∈ u_ws Cn T N, w ∈ kW) (ty : Nat → FieldType) (hty : ∀ k, k < N → parseFieldDescriptor (T k).2.2.1 = some (ty k)) (hcl : Cond.classLink own index Cn ∈ kW) (hinst : Cond.instantiable Cn N ∈ kW) (hini : Cond.initialized Cn ∈ kW)
    (hc : vwCl[ci]? = some (Cn, T, N)) (hfs : ∀ j, j < N → defaultValue (ty j) = vp_V fs j) (hcells : c0 + 1 ≤ R.cells) (hslots : s0 + N ≤ R.slots) (hdg : decode cc pc = .ok (.new index, 3)) (kk : ∀ q : Nat, WI l D R K n (c0 + 1) (s0 + N) (ws ++ [(q, .inr (ci, fs))]) (pc + 3) lv (.ref q :: st)) : WI l D R K n c0 s0 ws pc lv st :=
  fun H locs hw ls hl => va_new X.1.1 X.1.2.1 X.1.2.2.2.2.1 hin ty hty X.1.2.2.2.1 (X.1.2.2.2.2.1 _ hcl) (X.1.2.2.2.2.1 _ hinst) (X.1.2.2.2.2.1 _ hini) X.1.2.2.2.2.2.2.1 hw.1 hw.2.1 hw.2.2 X.1.2.2.2.2.2.2.2.2.2 hc hfs hcells hslots hdg (fun q H1 hP hD hS => kk q H1 locs ⟨hP, hD, hS⟩ ls hl)
/-- what a constructor's call asks, and what it leaves -/
theorem j_run {y : MethodName} {n1 : Nat} {ci : Nat} {fs0 As : List Value} {N : Nat} {E : (Nat → Nat) → Nat → va_E} {mc ms q index : Nat} {H : Heap} {locs : List Loc} {ls : Array Slot} {st0 : List Value}
    (X : CJ D C K cc n own) (hw : FI D K.1 K.2.2.2.1.heap (ws ++ [(q, .inr (ci, fs0))]) H locs)
    (hr : va_Run K.2.1 l K.2.2.1 R K.2.2.2.1 K.2.2.2.2.1 K.2.2.2.2.2.1 K.2.2.2.2.2.2.1 K.2.2.2.2.2.2.2.1 K.2.2.2.2.2.2.2.2.1 H locs c0 s0 mc ms (F0 K.2.2.2.2.1 pc ls st0) st (va_Qv (fun ad : Nat → Nat => ad 0 = q) (fun ad t => va_P D vwCl (wl N ad (E ad)) t.heap ∧ va_D (va_A [(q, .inr (ci, fs0))] H.size) (wl N ad (E ad))) (va_A [(q, .inr (ci, fs0))] H.size) (Value.ref q :: As).toArray) (va_A [(q, .inr (ci, fs0))] H.size))
    (kk : ∀ ad : Nat → Nat, ad 0 = q → ∀ (H1 : Heap) (locs1 : List Loc), FI D K.1 K.2.2.2.1.heap (ws ++ wl N ad (E ad)) H1 locs1 → W K.2.1 l K.2.2.1 R K.2.2.2.1 K.2.2.2.2.1 K.2.2.2.2.2.1 K.2.2.2.2.2.2.1 K.2.2.2.2.2.2.2.1 K.2.2.2.2.2.2.2.2.1 H1 locs1 (c0 + mc) (s0 + ms) K.2.2.2.2.2.2.2.2.2 (F0 K.2.2.2.2.1 (pc + 3) ls st)) : W K.2.1 l K.2.2.1 R K.2.2.2.1 K.2.2.2.2.1 K.2.2.2.2.2.1 K.2.2.2.2.2.2.1 K.2.2.2.2.2.2.2.1 K.2.2.2.2.2.2.2.2.1 H locs c0 s0 K.2.2.2.2.2.2.2.2.2 (F0 K.2.2.2.2.1 pc ls st0) := by
  have hF : ∀ x, va_A [(q, .inr (ci, fs0))] H.size x → K.1 x := by
    intro x h
    rcases h with ⟨k, e, h⟩ | h
    · have h4 : (ws ++ [(q, .inr (ci, fs0))])[ws.length + k]? = some (x, e) := by
        rw [List.getElem?_append_right (by omega), Nat.add_sub_cancel_left]; exact h
      exact hw.2.1.2 _ _ h4
    · exact X.1.2.2.2.2.2.2.2.2.2 x (Nat.le_trans hw.2.2.1 h)
  refine va_callv hr hw.2.2 (fun x _ h => hF x h) hF (fun ad t H1 locs1 ht hvm h0 hB hz hk hS => ?_)
  obtain ⟨hP, hD⟩ := join_app hw.1 hw.2.1 hk hF (by rw [← ht]; exact hB.1) hB.2
  exact kk ad h0 H1 locs1 ⟨hP, hD, hS⟩
theorem j_U (X : CJ D C K cc n own) {q ci : Nat} {fs0 : List Value} {H : Heap} {locs : List Loc} (hw : FI D K.1 K.2.2.2.1.heap (ws ++ [(q, .inr (ci, fs0))]) H locs) {U : State} (hU : U.heap = H) (hW : K.2.2.2.1.WarmedH U.vm) : U.heap.size = H.size ∧ va_P D vwCl [(q, .inr (ci, fs0))] U.heap ∧ va_K D vwCl (tyL C) U ∧ NW U ∧ va_AO RX4 U := by
  refine ⟨by rw [hU], fun k x hx => ?_, va_K.moved hW.alike X.1.2.2.2.2.2.2.1, NW.warm hW X.1.2.2.2.2.2.1, va_AO.moved hW.alike X.2.2⟩
  rw [hU]
  refine hw.1 (ws.length + k) x ?_
  rw [List.getElem?_append_right (by omega), Nat.add_sub_cancel_left]; exact hx
/-- a constructor is called: its own name is linked -/
theorem j_call (X : CJ D C K cc n own) {y : MethodName} {b : ByteArray} {n1 : Nat} {rm : Room} {ci : Nat} {fs0 As : List Value} {N nA : Nat} {E : (Nat → Nat) → Nat → va_E} {mc ms q index : Nat} (hM : Mc l y b n1 rm D C ci fs0 As N E mc ms) (hlink : Cond.methodLink own index y ∈ kW) (hinst : Cond.instanceMethod y ∈ kW) (hini : Cond.initialized y.cls ∈ kW) (hcd : Cond.code y b n1 none ∈ kW) (hnm : y.name = "<init>") (hd : kD y nA) (hrc : rm.cells = mc) (hrs : rm.slots = ms) (hR : kR rm R n1) (hn : As.length = nA) {st0 : List Value} (hst : st0 = As.reverse ++ .ref q :: st) (hr : (st.map fun v => v.category).sum ≤ 8) (hdg : decode cc pc = .ok (.invokespecial index, 3)) (hf : c0 + mc ≤ R.cells ∧ s0 + ms ≤ R.slots)
    (kk : ∀ ad : Nat → Nat, ad 0 = q → WI l D R K n (c0 + mc) (s0 + ms) (ws ++ wl N ad (E ad)) (pc + 3) lv st) : WI l D R K n c0 s0 (ws ++ [(q, .inr (ci, fs0))]) pc lv st0 := by
  intro H locs hw ls hl
  have X' := X.1
  obtain ⟨hx, hb, hml, hown, hts, hnn, hK, hD, hN, hA⟩ := X'
  exact j_run (y := y) (n1 := n1) (index := index) X hw (va_runI (As := As) (rest := st) ⟨hx, hb, hml, hown, hts⟩ (hM q H.size) (cwI nA hts (goodWS hcd) rfl hrc hrs (hts _ hini) (hts _ hlink) (hts _ hinst) hnm hd hR) ⟨FC.blind, fun U hU hW => ⟨rfl, j_U X hw hU hW⟩⟩ rfl hn hl.1 hst (lv_room hr) hdg hf) (fun ad h0 H1 locs1 hw1 => kk ad h0 H1 locs1 hw1 ls hl)
end JCT
theorem hfsX6 : ∀ j, j < 14 → defaultValue (tyX6 j) = vp_V [.null, .null, .null, .null, .null, .null, .null, .null, .null, .null, .int 0, .null, .null, .null] j := by
  intro j hj
  rcases (by omega : j = 0 ∨ j = 1 ∨ j = 2 ∨ j = 3 ∨ j = 4 ∨ j = 5 ∨ j = 6 ∨ j = 7 ∨ j = 8 ∨ j = 9 ∨ j = 10 ∨ j = 11 ∨ j = 12 ∨ j = 13) with rfl | rfl | rfl | rfl | rfl | rfl | rfl | rfl | rfl | rfl | rfl | rfl | rfl | rfl <;> rfl
theorem hd_X6_init : kD yX6_init 0 := by decide +kernel
theorem hfsX7 : ∀ j, j < 44 → defaultValue (tyX7 j) = vp_V [.int 0, .null, .int 0, .int 0, .int 0, .int 0, .int 0, .int 0, .int 0, .int 0, .int 0, .null, .null, .null, .null, .null, .null, .int 0, .int 0, .int 0, .int 0, .int 0, .int 0, .null, .null, .null, .null, .null, .null, .null, .null, .null, .int 0, .int 0, .null, .long 0, .null, .int 0, .null, .int 0, .null, .null, .null, .null] j := by
  intro j hj
  rcases (by omega : j = 0 ∨ j = 1 ∨ j = 2 ∨ j = 3 ∨ j = 4 ∨ j = 5 ∨ j = 6 ∨ j = 7 ∨ j = 8 ∨ j = 9 ∨ j = 10 ∨ j = 11 ∨ j = 12 ∨ j = 13 ∨ j = 14 ∨ j = 15 ∨ j = 16 ∨ j = 17 ∨ j = 18 ∨ j = 19 ∨ j = 20 ∨ j = 21 ∨ j = 22 ∨ j = 23 ∨ j = 24 ∨ j = 25 ∨ j = 26 ∨ j = 27 ∨ j = 28 ∨ j = 29 ∨ j = 30 ∨ j = 31 ∨ j = 32 ∨ j = 33 ∨ j = 34 ∨ j = 35 ∨ j = 36 ∨ j = 37 ∨ j = 38 ∨ j = 39 ∨ j = 40 ∨ j = 41 ∨ j = 42 ∨ j = 43) with rfl | rfl | rfl | rfl | rfl | rfl | rfl | rfl | rfl | rfl | rfl | rfl | rfl | rfl | rfl | rfl | rfl | rfl | rfl | rfl | rfl | rfl | rfl | rfl | rfl | rfl | rfl | rfl | rfl | rfl | rfl | rfl | rfl | rfl | rfl | rfl | rfl | rfl | rfl | rfl | rfl | rfl | rfl | rfl <;> rfl
theorem hd_X7_init : kD yX7_init 0 := by decide +kernel
theorem cmp_L {L i : Nat} (hL : L ≤ 2048) (hi : i ≤ 4096) : (nI L - nI 4 < nI i) ↔ L < i + 4 := by
  by_cases q : 4 ≤ L
  · rw [z_sub q, z_lt (by omega) (by omega)]
    omega
  · refine ⟨fun _ => by omega, fun _ => ?_⟩
    have h1 : nI L - nI 4 < -1 ∨ nI L - nI 4 = -1 := by
      rcases (by omega : L = 0 ∨ L = 1 ∨ L = 2 ∨ L = 3) with rfl | rfl | rfl | rfl <;> decide
    have h2 : (-1 : Int32) < nI i := z_m1le (by omega)
    rcases h1 with h1 | h1
    · rw [Int32.lt_iff_toInt_lt] at h1 h2 ⊢
      omega
    · rw [h1]; exact h2
set_option maxHeartbeats 4000000 in
set_option maxRecDepth 100000 in
theorem law_loop {l : Launch} {D : va_G} {C : Nat → ClassId} {aF aM : Nat → Nat} {K : Ctx} {b L : Nat} {xs : Nat → Int32} {c0 s0 : Nat} (X : LC D C aF aM K b L xs c0 s0) (hL : L ≤ 2048) (hQ : K.2.2.2.2.2.2.2.2.2 = lw_Z K.2.2.2.2.2.2.1 #[Value.ref b] K.2.2.2.1) (hargs : K.2.2.2.2.2.1 = #[Value.ref b]) (hr : K.2.2.2.2.2.2.2.1.sig.returnType = ret) (hlk : K.2.2.2.2.2.2.2.1.locks = false) : ∀ (n i : Nat) (μ ν : Mem), i ≤ L + 4 → L ≤ i + n → RelA μ ν → WL l D C aF aM K c0 s0 μ ν 18 [(0, .ref b), (1, .ref (aF 0)), (2, .ref (aM 0)), (3, .int (nI i))] [] := by
  intro n
  have out : ∀ (i : Nat) (μ ν : Mem), WL l D C aF aM K c0 s0 μ ν 1374 [(0, .ref b), (1, .ref (aF 0)), (2, .ref (aM 0)), (3, .int (nI i))] [] := by
    intro i μ ν
    refine b_iconst (v := 1) X.1 dL_law_1374 (by decide) ?_
    exact l_ret (below := []) X hQ hargs hr hlk dL_law_1375
  have head : ∀ (i : Nat) (μ ν : Mem), i ≤ L + 4 → (i + 4 ≤ L → WL l D C aF aM K c0 s0 μ ν 26 [(0, .ref b), (1, .ref (aF 0)), (2, .ref (aM 0)), (3, .int (nI i))] []) → WL l D C aF aM K c0 s0 μ ν 18 [(0, .ref b), (1, .ref (aF 0)), (2, .ref (aM 0)), (3, .int (nI i))] [] := by
    intro i μ ν hi hin
    refine b_iload_n X.1 dL_law_18 rfl 3 rfl ?_
    refine b_aload_n X.1 dL_law_19 rfl 0 rfl ?_
    refine l_len X dL_law_20 ?_
    refine b_iconst (v := nI 4) X.1 dL_law_21 (by decide) ?_
    refine b_isub X.1 dL_law_22 ?_
    refine b_icmp_gt (t := 1374) X.1 dL_law_23 (by decide) (fun _ => out i μ ν) (fun c => hin ?_)
    have := mt (cmp_L hL (by omega)).mpr c
    omega
  induction n with
  | zero =>
    intro i μ ν hi hn h
    exact head i μ ν hi (fun q => by omega)
  | succ n ih =>
    intro i μ ν hi hn h
    refine head i μ ν hi (fun q => ?_)
    have next : ∀ μ' ν', RelA μ' ν' → WL l D C aF aM K c0 s0 μ' ν' 1368 [(0, .ref b), (1, .ref (aF 0)), (2, .ref (aM 0)), (3, .int (nI i))] [] := by
      intro μ' ν' h'
      refine b_iinc (x := nI (i + 4)) (lv' := [(3, .int (nI (i + 4))), (0, .ref b), (1, .ref (aF 0)), (2, .ref (aM 0))]) (q := 3) X.1 dL_law_1368 rfl (z_add i 4) (by decide) rfl ?_
      refine b_goto (t := 18) X.1 dL_law_1371 (by decide) ?_
      refine b_sub (lv' := [(0, .ref b), (1, .ref (aF 0)), (2, .ref (aM 0)), (3, .int (nI (i + 4)))]) [1, 2, 3, 0] rfl ?_
      exact ih (i + 4) μ' ν' (by omega) (by omega) h'
    refine b_aload_n X.1 dL_law_26 rfl 0 rfl ?_
    refine b_iload_n X.1 dL_law_27 rfl 3 rfl ?_
    refine l_ld X (vp_in_nI (by omega) (by omega)) dL_law_28 ?_
    refine b_bipush (v := nI 63) X.1 dL_law_29 (by decide) ?_
    refine b_iand X.1 dL_law_31 ?_
    generalize (xs (nI i).toNatClampNeg &&& nI 63) = x
    rcases z_cases x 0 41 (by decide) (by decide) with ⟨j, _, hj, rfl⟩ | ho
    · rcases (by omega : j = 0 ∨ j = 1 ∨ j = 2 ∨ j = 3 ∨ j = 4 ∨ j = 5 ∨ j = 6 ∨ j = 7 ∨ j = 8 ∨ j = 9 ∨ j = 10 ∨ j = 11 ∨ j = 12 ∨ j = 13 ∨ j = 14 ∨ j = 15 ∨ j = 16 ∨ j = 17 ∨ j = 18 ∨ j = 19 ∨ j = 20 ∨ j = 21 ∨ j = 22 ∨ j = 23 ∨ j = 24 ∨ j = 25 ∨ j = 26 ∨ j = 27 ∨ j = 28 ∨ j = 29 ∨ j = 30 ∨ j = 31 ∨ j = 32 ∨ j = 33 ∨ j = 34 ∨ j = 35 ∨ j = 36 ∨ j = 37 ∨ j = 38 ∨ j = 39 ∨ j = 40 ∨ j = 41) with rfl | rfl | rfl | rfl | rfl | rfl | rfl | rfl | rfl | rfl | rfl | rfl | rfl | rfl | rfl | rfl | rfl | rfl | rfl | rfl | rfl | rfl | rfl | rfl | rfl | rfl | rfl | rfl | rfl | rfl | rfl | rfl | rfl | rfl | rfl | rfl | rfl | rfl | rfl | rfl | rfl | rfl
      · exact b_tsIn (t := 216) (j := 0) X.1 dL_law_32 rfl (by decide) (by decide) (by decide) rfl (by decide) (br_0 X q hL h next)
      · exact b_tsIn (t := 239) (j := 1) X.1 dL_law_32 rfl (by decide) (by decide) (by decide) rfl (by decide) (br_1 X q hL h next)
      · exact b_tsIn (t := 252) (j := 2) X.1 dL_law_32 rfl (by decide) (by decide) (by decide) rfl (by decide) (br_2 X q hL h next)
      · exact b_tsIn (t := 265) (j := 3) X.1 dL_law_32 rfl (by decide) (by decide) (by decide) rfl (by decide) (br_3 X q hL h next)
      · exact b_tsIn (t := 288) (j := 4) X.1 dL_law_32 rfl (by decide) (by decide) (by decide) rfl (by decide) (br_4 X q hL h next)
      · exact b_tsIn (t := 321) (j := 5) X.1 dL_law_32 rfl (by decide) (by decide) (by decide) rfl (by decide) (br_5 X q hL h next)
      · exact b_tsIn (t := 354) (j := 6) X.1 dL_law_32 rfl (by decide) (by decide) (by decide) rfl (by decide) (br_6 X q hL h next)
      · exact b_tsIn (t := 387) (j := 7) X.1 dL_law_32 rfl (by decide) (by decide) (by decide) rfl (by decide) (br_7 X q hL h next)
      · exact b_tsIn (t := 420) (j := 8) X.1 dL_law_32 rfl (by decide) (by decide) (by decide) rfl (by decide) (br_8 X q hL h next)
      · exact b_tsIn (t := 443) (j := 9) X.1 dL_law_32 rfl (by decide) (by decide) (by decide) rfl (by decide) (br_9 X q hL h next)
      · exact b_tsIn (t := 466) (j := 10) X.1 dL_law_32 rfl (by decide) (by decide) (by decide) rfl (by decide) (br_10 X q hL h next)
      · exact b_tsIn (t := 499) (j := 11) X.1 dL_law_32 rfl (by decide) (by decide) (by decide) rfl (by decide) (br_11 X q hL h next)
      · exact b_tsIn (t := 532) (j := 12) X.1 dL_law_32 rfl (by decide) (by decide) (by decide) rfl (by decide) (br_12 X q hL h next)
      · exact b_tsIn (t := 565) (j := 13) X.1 dL_law_32 rfl (by decide) (by decide) (by decide) rfl (by decide) (br_13 X q hL h next)
      · exact b_tsIn (t := 604) (j := 14) X.1 dL_law_32 rfl (by decide) (by decide) (by decide) rfl (by decide) (br_14 X q hL h next)
      · exact b_tsIn (t := 627) (j := 15) X.1 dL_law_32 rfl (by decide) (by decide) (by decide) rfl (by decide) (br_15 X q hL h next)
      · exact b_tsIn (t := 650) (j := 16) X.1 dL_law_32 rfl (by decide) (by decide) (by decide) rfl (by decide) (br_16 X q hL h next)
      · exact b_tsIn (t := 683) (j := 17) X.1 dL_law_32 rfl (by decide) (by decide) (by decide) rfl (by decide) (br_17 X q hL h next)
      · exact b_tsIn (t := 716) (j := 18) X.1 dL_law_32 rfl (by decide) (by decide) (by decide) rfl (by decide) (br_18 X q hL h next)
      · exact b_tsIn (t := 739) (j := 19) X.1 dL_law_32 rfl (by decide) (by decide) (by decide) rfl (by decide) (br_19 X q hL h next)
      · exact b_tsIn (t := 752) (j := 20) X.1 dL_law_32 rfl (by decide) (by decide) (by decide) rfl (by decide) (br_20 X q hL h next)
      · exact b_tsIn (t := 785) (j := 21) X.1 dL_law_32 rfl (by decide) (by decide) (by decide) rfl (by decide) (br_21 X q hL h next)
      · exact b_tsIn (t := 818) (j := 22) X.1 dL_law_32 rfl (by decide) (by decide) (by decide) rfl (by decide) (br_22 X q hL h next)
      · exact b_tsIn (t := 861) (j := 23) X.1 dL_law_32 rfl (by decide) (by decide) (by decide) rfl (by decide) (br_23 X q hL h next)
      · exact b_tsIn (t := 884) (j := 24) X.1 dL_law_32 rfl (by decide) (by decide) (by decide) rfl (by decide) (br_24 X q hL h next)
      · exact b_tsIn (t := 907) (j := 25) X.1 dL_law_32 rfl (by decide) (by decide) (by decide) rfl (by decide) (br_25 X q hL h next)
      · exact b_tsIn (t := 930) (j := 26) X.1 dL_law_32 rfl (by decide) (by decide) (by decide) rfl (by decide) (br_26 X q hL h next)
      · exact b_tsIn (t := 943) (j := 27) X.1 dL_law_32 rfl (by decide) (by decide) (by decide) rfl (by decide) (br_27 X q hL h next)
      · exact b_tsIn (t := 966) (j := 28) X.1 dL_law_32 rfl (by decide) (by decide) (by decide) rfl (by decide) (br_28 X q hL h next)
      · exact b_tsIn (t := 999) (j := 29) X.1 dL_law_32 rfl (by decide) (by decide) (by decide) rfl (by decide) (br_29 X q hL h next)
      · exact b_tsIn (t := 1042) (j := 30) X.1 dL_law_32 rfl (by decide) (by decide) (by decide) rfl (by decide) (br_30 X q hL h next)
      · exact b_tsIn (t := 1075) (j := 31) X.1 dL_law_32 rfl (by decide) (by decide) (by decide) rfl (by decide) (br_31 X q hL h next)
      · exact b_tsIn (t := 1108) (j := 32) X.1 dL_law_32 rfl (by decide) (by decide) (by decide) rfl (by decide) (br_32 X q hL h next)
      · exact b_tsIn (t := 1151) (j := 33) X.1 dL_law_32 rfl (by decide) (by decide) (by decide) rfl (by decide) (br_33 X q hL h next)
      · exact b_tsIn (t := 1174) (j := 34) X.1 dL_law_32 rfl (by decide) (by decide) (by decide) rfl (by decide) (br_34 X q hL h next)
      · exact b_tsIn (t := 1197) (j := 35) X.1 dL_law_32 rfl (by decide) (by decide) (by decide) rfl (by decide) (br_35 X q hL h next)
      · exact b_tsIn (t := 1240) (j := 36) X.1 dL_law_32 rfl (by decide) (by decide) (by decide) rfl (by decide) (br_36 X q hL h next)
      · exact b_tsIn (t := 1273) (j := 37) X.1 dL_law_32 rfl (by decide) (by decide) (by decide) rfl (by decide) (br_37 X q hL h next)
      · exact b_tsIn (t := 1286) (j := 38) X.1 dL_law_32 rfl (by decide) (by decide) (by decide) rfl (by decide) (br_38 X q hL h next)
      · exact b_tsIn (t := 1299) (j := 39) X.1 dL_law_32 rfl (by decide) (by decide) (by decide) rfl (by decide) (br_39 X q hL h next)
      · exact b_tsIn (t := 1322) (j := 40) X.1 dL_law_32 rfl (by decide) (by decide) (by decide) rfl (by decide) (br_40 X q hL h next)
      · exact b_tsIn (t := 1345) (j := 41) X.1 dL_law_32 rfl (by decide) (by decide) (by decide) rfl (by decide) (br_41 X q hL h next)
    · refine b_tsOut (t := 1368) X.1 dL_law_32 ?_ (by decide) (next μ ν h)
      rw [Int32.lt_iff_toInt_lt, Int32.lt_iff_toInt_lt] at ho
      have e1 : (nI 0).toInt = 0 := by decide
      have e2 : (nI 41).toInt = 41 := by decide
      omega
theorem w_ao : Cond.arrayOver (.object RX4) ∈ lw_tbl := List.mem_of_getElem? (i := 293) (by decide +kernel)
theorem w_nw0 : Cond.methodLinkNest "FogNets" 9 yX3_init "FogNets" ∈ lw_tbl := List.mem_of_getElem? (i := 98) (by decide +kernel)
theorem w_nw1 : Cond.methodLinkNest "FogNets" 18 yX0_init "FogNets" ∈ lw_tbl := List.mem_of_getElem? (i := 132) (by decide +kernel)
theorem w_nw2 : Cond.methodLinkNest "FogNets" 28 yX4_init "FogNets" ∈ lw_tbl := List.mem_of_getElem? (i := 220) (by decide +kernel)
theorem w_nw3 : Cond.methodLinkNest "FogNets" 42 yX5_init "FogNets" ∈ lw_tbl := List.mem_of_getElem? (i := 269) (by decide +kernel)
theorem w_nw4 : Cond.methodLinkNest "FogNets$Past" 24 yX4_init "FogNets" ∈ lw_tbl := List.mem_of_getElem? (i := 294) (by decide +kernel)
theorem w_nw5 : Cond.methodLinkNest "FogNets$Reader" 38 yX6_put "FogNets" ∈ lw_tbl := List.mem_of_getElem? (i := 388) (by decide +kernel)
theorem w_nw6 : Cond.methodLinkNest "FogNets$Reader" 140 yX6_within "FogNets" ∈ lw_tbl := List.mem_of_getElem? (i := 431) (by decide +kernel)
theorem w_nw7 : Cond.methodLinkNest "FogNets$Coast" 64 yX6_at "FogNets" ∈ lw_tbl := List.mem_of_getElem? (i := 481) (by decide +kernel)
theorem w_nw8 : Cond.methodLinkNest "FogNets$Wind" 38 yX6_put "FogNets" ∈ lw_tbl := List.mem_of_getElem? (i := 572) (by decide +kernel)
theorem w_nw9 : Cond.methodLinkNest "FogNets$State" 121 yX6_at "FogNets" ∈ lw_tbl := List.mem_of_getElem? (i := 589) (by decide +kernel)
theorem w_nw10 : Cond.methodLinkNest "FogNets$State" 141 yX6_put "FogNets" ∈ lw_tbl := List.mem_of_getElem? (i := 591) (by decide +kernel)
theorem w_nw11 : Cond.methodLinkNest "FogNets$Wind" 31 yX6_at "FogNets" ∈ lw_tbl := List.mem_of_getElem? (i := 739) (by decide +kernel)
theorem w_nw12 : Cond.methodLinkNest "FogNets$Notes" 29 yX6_put "FogNets" ∈ lw_tbl := List.mem_of_getElem? (i := 761) (by decide +kernel)
theorem NW.of {s : State} {args : Array Value} (hts : ∀ w ∈ lw_tbl, w.before args s = true) : NW s := by
  have h : ∀ (a : String) (i : Nat) (y : MethodName) (h : String), Cond.methodLinkNest a i y h ∈ lw_tbl → va_Nw (.methodLinkNest a i y h) s := fun a i y h hm => va_Nw.of rfl (hts _ hm)
  unfold NW nestL
  exact List.forall_mem_cons.mpr ⟨h _ _ _ _ w_nw0, List.forall_mem_cons.mpr ⟨h _ _ _ _ w_nw1, List.forall_mem_cons.mpr ⟨h _ _ _ _ w_nw2, List.forall_mem_cons.mpr ⟨h _ _ _ _ w_nw3, List.forall_mem_cons.mpr ⟨h _ _ _ _ w_nw4, List.forall_mem_cons.mpr ⟨h _ _ _ _ w_nw5, List.forall_mem_cons.mpr ⟨h _ _ _ _ w_nw6, List.forall_mem_cons.mpr ⟨h _ _ _ _ w_nw7, List.forall_mem_cons.mpr ⟨h _ _ _ _ w_nw8, List.forall_mem_cons.mpr ⟨h _ _ _ _ w_nw9, List.forall_mem_cons.mpr ⟨h _ _ _ _ w_nw10, List.forall_mem_cons.mpr ⟨h _ _ _ _ w_nw11, List.forall_mem_cons.mpr ⟨h _ _ _ _ w_nw12, fun _ h => absurd h List.not_mem_nil⟩⟩⟩⟩⟩⟩⟩⟩⟩⟩⟩⟩⟩
theorem arr_of {s : State} {args : Array Value} {ty : FieldType} (h : (Cond.arrayClass ty).before args s = true) : ∃ cA, ArrOfT s cA ty ∧ s.vm.findClass ("[" ++ ty.toString) = some cA := by
  obtain ⟨c, k, comp, h1, h2, h3⟩ := Cond.arrayClass_spec h
  exact ⟨c, fun n z => ⟨fun k h => (by cases h), k, h2, comp, h3⟩, h1⟩
set_option maxHeartbeats 4000000 in
set_option maxRecDepth 100000 in
theorem known_all {s : State} {args : Array Value} (hts : ∀ w ∈ lw_tbl, w.before args s = true) : ∃ (D : va_G) (C : Nat → ClassId), va_K D vwCl (tyL C) s := by
  have hkw : ∀ w ∈ kW, w.before args s = true := fun w hw => hts w (kwTbl w hw)
  obtain ⟨c0, i0, k0⟩ := u_known (C := RX0) (T := TX0) (N := 15) (n := 15) hkw inkX0 (hkw _ m_o_X0)
  obtain ⟨c1, i1, k1⟩ := u_known (C := RX1) (T := TX1) (N := 4) (n := 4) hkw inkX1 (hkw _ m_o_X1)
  obtain ⟨c2, i2, k2⟩ := u_known (C := RX2) (T := TX2) (N := 3) (n := 3) hkw inkX2 (hkw _ m_o_X2)
  obtain ⟨c3, i3, k3⟩ := u_known (C := RX3) (T := TX3) (N := 8) (n := 8) hkw inkX3 (hkw _ m_o_X3)
  obtain ⟨c4, i4, k4⟩ := u_known (C := RX4) (T := TX4) (N := 10) (n := 10) hkw inkX4 (hkw _ m_o_X4)
  obtain ⟨c5, i5, k5⟩ := u_known (C := RX5) (T := TX5) (N := 3) (n := 3) hkw inkX5 (hkw _ m_o_X5)
  obtain ⟨c6, i6, k6⟩ := u_known (C := RX6) (T := TX6) (N := 14) (n := 14) hkw inkX6 (hkw _ m_o_X6)
  obtain ⟨c7, i7, k7⟩ := u_known (C := RX7) (T := TX7) (N := 44) (n := 44) hkw inkX7 (hkw _ m_o_X7)
  obtain ⟨a0, f0, g0⟩ := arr_of (hkw _ m_a_pe_int)
  obtain ⟨a1, f1, g1⟩ := arr_of (hkw _ m_a_e_long)
  obtain ⟨a2, f2, g2⟩ := arr_of (hkw _ m_a_oolean)
  obtain ⟨comp, a3, kA, p1, p2, p3, p4, p5⟩ := Cond.arrayOver_spec (hts _ w_ao)
  refine ⟨(fun k => if k = 0 then c0 else if k = 1 then c1 else if k = 2 then c2 else if k = 3 then c3 else if k = 4 then c4 else if k = 5 then c5 else if k = 6 then c6 else c7, fun k => if k = 0 then i0 else if k = 1 then i1 else if k = 2 then i2 else if k = 3 then i3 else if k = 4 then i4 else if k = 5 then i5 else if k = 6 then i6 else i7), (fun k => if k = 0 then a0 else if k = 1 then a1 else if k = 2 then a2 else a3), fun k q hq => ?_, fun k q hq => ?_⟩
  · match k, hq with
    | 0, hq => cases hq; exact k0
    | 1, hq => cases hq; exact k1
    | 2, hq => cases hq; exact k2
    | 3, hq => cases hq; exact k3
    | 4, hq => cases hq; exact k4
    | 5, hq => cases hq; exact k5
    | 6, hq => cases hq; exact k6
    | 7, hq => cases hq; exact k7
    | k + 8, hq => simp [vwCl] at hq
  · match k, hq with
    | 0, hq => cases hq; exact ⟨f0, g0⟩
    | 1, hq => cases hq; exact ⟨f1, g1⟩
    | 2, hq => cases hq; exact ⟨f2, g2⟩
    | 3, hq => cases hq; exact ⟨fun n z => ⟨fun k h => (by cases h), kA, p3, comp, p4⟩, kA, comp, p3, p4, p1, p5⟩
    | k + 4, hq => simp [tyL] at hq
set_option maxHeartbeats 4000000 in
set_option maxRecDepth 100000 in
/-- THE LAW, from its entry -/
theorem whole_start {p : Program} {e : Env} {s : State} {m : MethodId} {below : List Frame} {meth : Method} {c : Code} (l : Launch) (hflags : l.flags = flags0) {b L : Nat} {xs : Nat → Int32} (hL : L ≤ 2048) (C0 : lw_At p s m meth c b L xs) : W p l e room_1 s m #[Value.ref b] below meth c s.heap [] 0 0 (lw_Z below #[Value.ref b] s) (entryFrame m ([Value.ref b] : List Value).toArray 4) := by
  obtain ⟨hx, hb, hr, hml, hown, hts, hX, hbl, hlocks, hgv⟩ := id C0
  obtain ⟨D, C, hK⟩ := known_all hts
  have hkw : ∀ w ∈ kW, w.before #[Value.ref b] s = true := fun w hw => hts w (kwTbl w hw)
  obtain ⟨K, eK⟩ : ∃ K : Ctx, K = (fun q : Nat => s.heap.size ≤ q, p, e, s, m, #[Value.ref b], below, meth, c, lw_Z below #[Value.ref b] s) := ⟨_, rfl⟩
  have X : CJ D C K cL_law 4 RL := by
    subst eK
    exact ⟨⟨hx, hb, hml, hown, hkw, NW.of hts, hK, ⟨fun i j p q hi => by simp [wl] at hi, fun k q hk => by simp [wl] at hk⟩, fun k hk => absurd (show (99 : Nat) < 99 from hk) (by decide), fun q h => h⟩, trivial, va_AO.of (hts _ w_ao)⟩
  have body : WI l D room_1 K 4 0 0 [] 0 [(0, .ref b)] [] := by
    refine j_new X (ci := 6) inkX6 tyX6 tyX6_ok m_l_L_7 m_o_X6 m_n_X6 rfl hfsX6 (Nat.le_of_ble_eq_true rfl) (Nat.le_of_ble_eq_true rfl) dL_law_0 (fun q => ?_)
    refine b_dup X.1 dL_law_3 rfl ?_
    refine j_call X (c_X6_init l D C) m_m_L_9 m_i_X6_init m_n_X6 m_c_X6_init rfl hd_X6_init rfl rfl ⟨(Nat.le_of_ble_eq_true rfl), (Nat.le_of_ble_eq_true rfl)⟩ rfl rfl (Nat.le_of_ble_eq_true rfl) dL_law_4 ⟨(Nat.le_of_ble_eq_true rfl), (Nat.le_of_ble_eq_true rfl)⟩ (fun aF hF => ?_)
    subst hF
    refine i_ws (ws' := wl 246 aF (EF C aF)) rfl ?_
    refine b_astore_n (lv' := [(1, .ref (aF 0)), (0, .ref b)]) X.1 dL_law_7 rfl (by decide) rfl ?_
    refine j_new X (ci := 7) inkX7 tyX7 tyX7_ok m_l_L_10 m_o_X7 m_n_X7 rfl hfsX7 (Nat.le_of_ble_eq_true rfl) (Nat.le_of_ble_eq_true rfl) dL_law_8 (fun q => ?_)
    refine b_dup X.1 dL_law_11 rfl ?_
    refine j_call X (c_X7_init l D C) m_m_L_12 m_i_X7_init m_n_X7 m_c_X7_init rfl hd_X7_init rfl rfl ⟨(Nat.le_of_ble_eq_true rfl), (Nat.le_of_ble_eq_true rfl)⟩ rfl rfl (Nat.le_of_ble_eq_true rfl) dL_law_12 ⟨(Nat.le_of_ble_eq_true rfl), (Nat.le_of_ble_eq_true rfl)⟩ (fun aM hM => ?_)
    subst hM
    refine b_astore_n (lv' := [(2, .ref (aM 0)), (1, .ref (aF 0)), (0, .ref b)]) X.1 dL_law_15 rfl (by decide) rfl ?_
    refine b_iconst (v := nI 0) X.1 dL_law_16 (by decide) ?_
    refine b_istore_n (lv' := [(3, .int (nI 0)), (2, .ref (aM 0)), (1, .ref (aF 0)), (0, .ref b)]) X.1 dL_law_17 rfl (by decide) rfl ?_
    refine b_sub (lv' := [(0, .ref b), (1, .ref (aF 0)), (2, .ref (aM 0)), (3, .int (nI 0))]) [3, 2, 1, 0] rfl ?_
    refine i_cs (c1 := 270) (s1 := 3077) rfl rfl ?_
    intro H locs hw ls hl
    have hlF : ∀ i, i < 246 → (wl 246 aF (EF C aF) ++ wl 24 aM (EM C aM))[i]? = some (aF i, EF C aF i) := fun i hi => by
      rw [List.getElem?_append_left (by rw [wl_len]; exact hi), wl_get hi]
    have hlM : ∀ j, j < 24 → (wl 246 aF (EF C aF) ++ wl 24 aM (EM C aM))[246 + j]? = some (aM j, EM C aM j) := fun j hj => by
      rw [List.getElem?_append_right (by rw [wl_len]; omega), wl_len, Nat.add_sub_cancel_left, wl_get hj]
    have hDF : va_D K.1 (wl sF.1 aF e0) := by
      refine ⟨fun i j p q hi hj h => ?_, fun k q hk => ?_⟩
      · obtain ⟨i1, rfl⟩ := wl_some hi
        obtain ⟨j1, rfl⟩ := wl_some hj
        exact hw.2.1.1 i j _ _ (hlF i i1) (hlF j j1) h
      · obtain ⟨k1, rfl⟩ := wl_some hk
        exact hw.2.1.2 k (aF k, EF C aF k) (hlF k k1)
    have hDM : va_D K.1 (wl sM.1 aM e0) := by
      refine ⟨fun i j p q hi hj h => ?_, fun k q hk => ?_⟩
      · obtain ⟨i1, rfl⟩ := wl_some hi
        obtain ⟨j1, rfl⟩ := wl_some hj
        have := hw.2.1.1 (246 + i) (246 + j) _ _ (hlM i i1) (hlM j j1) h
        omega
      · obtain ⟨k1, rfl⟩ := wl_some hk
        exact hw.2.1.2 (246 + k) (aM k, EM C aM k) (hlM k k1)
    have hne : ∀ i j, i < sF.1 → j < sM.1 → aF i ≠ aM j := by
      intro i j hi hj h
      have hi' : i < 246 := hi
      have := hw.2.1.1 i (246 + j) _ _ (hlF i hi) (hlM j hj) h
      omega
    have X2 : LC D C aF aM K b L xs 270 3077 := ⟨X.1, by rw [eK], hDF, hDM, hne, by rw [eK]; exact hX, by rw [eK]; exact hbl, (Nat.le_of_ble_eq_true rfl), (Nat.le_of_ble_eq_true rfl)⟩
    refine law_loop X2 hL (by rw [eK]) (by rw [eK]) (by rw [eK]; exact hr) (by rw [eK]; exact hlocks) L 0 μ0 ν0 (Nat.zero_le _) (by omega) (Or.inr start0) H locs ⟨fun _ => ⟨by decide +kernel, by decide +kernel⟩, fun k q hk => ?_, fun k q hk => ?_, hw.2.2⟩ ls hl
    · obtain ⟨k1, rfl⟩ := wl_some hk
      exact hw.1 k _ (hlF k k1)
    · obtain ⟨k1, rfl⟩ := wl_some hk
      exact hw.1 (246 + k) _ (hlM k k1)
  have hl := lv_entry [.ref b] (n := 4) (Nat.le_of_ble_eq_true rfl)
  rw [lg_entry_eq]
  subst eK
  exact body s.heap [] ⟨fun k q h => by simp at h, ⟨fun i j p q h => by simp at h, fun k q h => by simp at h⟩, va_S.rf⟩ _ hl
