/-! ===== the law from its entry ===== -/
abbrev CJ (D : va_G) (C : Nat → ClassId) (K : Ctx) (cc : ByteArray) (n : Nat) (own : String) : Prop := CK S0 D C a00 K cc n own ∧ True ∧ va_AO RX4 K.2.2.2.1
section JCT
variable {l : Launch} {D : va_G} {C : Nat → ClassId} {R : Room} {K : Ctx} {n : Nat} {pc : Nat} {lv lv' : List (Nat × Value)} {st : List Value} {cc : ByteArray} {own : String} {c0 s0 : Nat} {ws ws' : va_W} {a : Nat}
theorem j_new (X : CJ D C K cc n own) {ci N index : Nat} {Cn : String} {T : u_T} {fs : List Value} (hin : ∀ w ∈ u_ws Cn T N, w ∈ kW) (ty : Nat → FieldType) (hty : ∀ k, k < N → parseFieldDescriptor (T k).2.2.1 = some (ty k)) (hcl : Cond.classLink own index Cn ∈ kW) (hinst : Cond.instantiable Cn N ∈ kW) (hini : Cond.initialized Cn ∈ kW)
    (hc : vwCl[ci]? = some (Cn, T, N)) (hfs : ∀ j, j < N → defaultValue (ty j) = vp_V fs j) (hcells : c0 + 1 ≤ R.cells) (hslots : s0 + N ≤ R.slots) (hdg : decode cc pc = .ok (.new index, 3)) (kk : ∀ q : Nat, WI l D R K n (c0 + 1) (s0 + N) (ws ++ [(q, .inr (ci, fs))]) (pc + 3) lv (.ref q :: st)) : WI l D R K n c0 s0 ws pc lv st :=
  fun H locs hw ls hl => va_new X.1.1 X.1.2.1 X.1.2.2.2.2.1 hin ty hty X.1.2.2.2.1 (X.1.2.2.2.2.1 _ hcl) (X.1.2.2.2.2.1 _ hinst) (X.1.2.2.2.2.1 _ hini) X.1.2.2.2.2.2.2.1 hw.1 hw.2.1 hw.2.2 X.1.2.2.2.2.2.2.2.2.2.1 hc hfs hcells hslots hdg (fun q H1 hP hD hS => kk q H1 locs ⟨hP, hD, hS⟩ ls hl)
theorem j_newa (X : CJ D C K cc n own) {atype : ArrayType} {ty : FieldType} {t N' : Nat} {n1 : Int32} {a0 : vp_A} (harr : Cond.arrayClass (newarray.typeOf atype) ∈ kW) (hty : newarray.typeOf atype = ty) (ht : (tyL C)[t]? = some (C t, ty)) (ha : ∀ cA : ClassId, vp_cell cA a0 = arrV cA N' (fun _ => defaultValue ty)) (hn : ¬ n1 < 0) (hN : n1.toNatClampNeg = N') (hbytes : N' * componentBytes ty ≤ 536870912) (hcells : c0 + 1 ≤ R.cells) (hslots : s0 + N' ≤ R.slots) (hdg : decode cc pc = .ok (.newarray atype, 2))
    (kk : ∀ q : Nat, WI l D R K n (c0 + 1) (s0 + N') (ws ++ [(q, .inl (C t, a0))]) (pc + 2) lv (.ref q :: st)) : WI l D R K n c0 s0 ws pc lv (.int n1 :: st) :=
  fun H locs hw ls hl => va_newa X.1.1 X.1.2.1 (X.1.2.2.2.2.1 _ harr) hty X.1.2.2.2.2.2.2.1 hw.1 hw.2.1 hw.2.2 X.1.2.2.2.2.2.2.2.2.2.1 ha hn hN hbytes hcells hslots hdg (fun q cA H1 hK hP hD hS => by
    have e : cA = C t := ra_eq (hK.2 4 (cA, ty) rfl).2 ((X.1.2.2.2.2.2.2.1).2 t _ ht).2
    subst e
    exact kk q H1 locs ⟨hP, hD, hS⟩ ls hl)
/-- what a constructor's call asks, and what it leaves -/
theorem j_run {y : MethodName} {n1 : Nat} {ci : Nat} {fs0 As : List Value} {N : Nat} {E : (Nat → Nat) → Nat → va_E} {mc ms q index : Nat} {H : Heap} {locs : List Loc} {ls : Array Slot} {st0 : List Value}
    (X : CJ D C K cc n own) (hw : FI D K.1 K.2.2.2.1.heap (ws ++ [(q, .inr (ci, fs0))]) H locs)
    (hr : va_Run K.2.1 l K.2.2.1 R K.2.2.2.1 K.2.2.2.2.1 K.2.2.2.2.2.1 K.2.2.2.2.2.2.1 K.2.2.2.2.2.2.2.1 K.2.2.2.2.2.2.2.2.1 H locs c0 s0 mc ms (F0 K.2.2.2.2.1 pc ls st0) st (va_Qv (fun ad : Nat → Nat => ad 0 = q) (fun ad t => va_P D vwCl (wl N ad (E ad)) t.heap ∧ va_D (va_A [(q, .inr (ci, fs0))] H.size) (wl N ad (E ad))) (va_A [(q, .inr (ci, fs0))] H.size) (Value.ref q :: As).toArray) (va_A [(q, .inr (ci, fs0))] H.size))
    (kk : ∀ ad : Nat → Nat, ad 0 = q → ∀ (H1 : Heap) (locs1 : List Loc), FI D K.1 K.2.2.2.1.heap (ws ++ wl N ad (E ad)) H1 locs1 → W K.2.1 l K.2.2.1 R K.2.2.2.1 K.2.2.2.2.1 K.2.2.2.2.2.1 K.2.2.2.2.2.2.1 K.2.2.2.2.2.2.2.1 K.2.2.2.2.2.2.2.2.1 H1 locs1 (c0 + mc) (s0 + ms) K.2.2.2.2.2.2.2.2.2 (F0 K.2.2.2.2.1 (pc + 3) ls st)) : W K.2.1 l K.2.2.1 R K.2.2.2.1 K.2.2.2.2.1 K.2.2.2.2.2.1 K.2.2.2.2.2.2.1 K.2.2.2.2.2.2.2.1 K.2.2.2.2.2.2.2.2.1 H locs c0 s0 K.2.2.2.2.2.2.2.2.2 (F0 K.2.2.2.2.1 pc ls st0) := by
  have hF : ∀ x, va_A [(q, .inr (ci, fs0))] H.size x → K.1 x := by
    intro x h
    rcases h with ⟨k, e, h⟩ | h
    · have h4 : (ws ++ [(q, .inr (ci, fs0))])[ws.length + k]? = some (x, e) := by
        rw [List.getElem?_append_right (by omega), Nat.add_sub_cancel_left]; exact h
      exact hw.2.1.2 _ _ h4
    · exact X.1.2.2.2.2.2.2.2.2.2.1 x (Nat.le_trans hw.2.2.1 h)
  refine va_callv hr hw.2.2 (fun x _ h => hF x h) hF (fun ad t H1 locs1 ht hvm h0 hB hz hk hS => ?_)
  obtain ⟨hP, hD⟩ := join_app hw.1 hw.2.1 hk hF (by rw [← ht]; exact hB.1) hB.2
  exact kk ad h0 H1 locs1 ⟨hP, hD, hS⟩
theorem j_U (X : CJ D C K cc n own) {q ci : Nat} {fs0 : List Value} {H : Heap} {locs : List Loc} (hw : FI D K.1 K.2.2.2.1.heap (ws ++ [(q, .inr (ci, fs0))]) H locs) {U : State} (hU : U.heap = H) (hW : K.2.2.2.1.WarmedH U.vm) : U.heap.size = H.size ∧ va_P D vwCl [(q, .inr (ci, fs0))] U.heap ∧ va_K D vwCl (tyL C) U ∧ NW U ∧ va_AO RX4 U := by
  refine ⟨by rw [hU], fun k x hx => ?_, va_K.moved hW.alike X.1.2.2.2.2.2.2.1, NW.warm hW X.1.2.2.2.2.2.1, va_AO.moved hW.alike X.2.2⟩
  rw [hU]
  refine hw.1 (ws.length + k) x ?_
  rw [List.getElem?_append_right (by omega), Nat.add_sub_cancel_left]; exact hx
/-- a constructor is called: its own name is linked -/
theorem j_call (X : CJ D C K cc n own) {y : MethodName} {b : ByteArray} {n1 : Nat} {rm : Room} {ci : Nat} {fs0 As : List Value} {N nA : Nat} {E : (Nat → Nat) → Nat → va_E} {mc ms q index : Nat} (hM : Mc l y b n1 rm D C ci fs0 As N E mc ms) (hlink : Cond.methodLink own index y ∈ kW) (hinst : Cond.instanceMethod y ∈ kW) (hini : Cond.initialized y.cls ∈ kW) (hcd : Cond.code y b n1 none ∈ kW) (hnm : y.name = "<init>") (hd : kD y nA) (hrc : rm.cells = mc) (hrs : rm.slots = ms) (hR : kR rm R n1) (hn : As.length = nA) {st0 : List Value} (hst : st0 = As.reverse ++ .ref q :: st) (hr : (st.map fun v => v.category).sum ≤ 8) (hdg : decode cc pc = .ok (.invokespecial index, 3)) (hf : c0 + mc ≤ R.cells ∧ s0 + ms ≤ R.slots)
    (kk : ∀ ad : Nat → Nat, ad 0 = q → WI l D R K n (c0 + mc) (s0 + ms) (ws ++ wl N ad (E ad)) (pc + 3) lv st) : WI l D R K n c0 s0 (ws ++ [(q, .inr (ci, fs0))]) pc lv st0 := by
  intro H locs hw ls hl
  have X' := X.1
  obtain ⟨hx, hb, hml, hown, hts, hnn, hK, hD, hN, hA, _⟩ := X'
  exact j_run (y := y) (n1 := n1) (index := index) X hw (va_runI (As := As) (rest := st) ⟨hx, hb, hml, hown, hts⟩ (hM q H.size) (cwI nA hts (goodWS hcd) rfl hrc hrs (hts _ hini) (hts _ hlink) (hts _ hinst) hnm hd hR) ⟨FC.blind, fun U hU hW => ⟨rfl, j_U X hw hU hW⟩⟩ rfl hn hl.1 hst (lv_room hr) hdg hf) (fun ad h0 H1 locs1 hw1 => kk ad h0 H1 locs1 hw1 ls hl)
end JCT
theorem hfsX6 : ∀ j, j < 14 → defaultValue (tyX6 j) = vp_V [.null, .null, .null, .null, .null, .null, .null, .null, .null, .null, .int 0, .null, .null, .null] j := by
  intro j hj
  rcases (by omega : j = 0 ∨ j = 1 ∨ j = 2 ∨ j = 3 ∨ j = 4 ∨ j = 5 ∨ j = 6 ∨ j = 7 ∨ j = 8 ∨ j = 9 ∨ j = 10 ∨ j = 11 ∨ j = 12 ∨ j = 13) with rfl | rfl | rfl | rfl | rfl | rfl | rfl | rfl | rfl | rfl | rfl | rfl | rfl | rfl <;> rfl
theorem hd_X6_init : kD yX6_init 0 := by decide +kernel
theorem w_ao : Cond.arrayOver (.object RX4) ∈ lw_tbl := List.mem_of_getElem? (i := 246) (by decide +kernel)
theorem w_nw0 : Cond.methodLinkNest "FogNets" 9 yX3_init "FogNets" ∈ lw_tbl := List.mem_of_getElem? (i := 51) (by decide +kernel)
theorem w_nw1 : Cond.methodLinkNest "FogNets" 18 yX0_init "FogNets" ∈ lw_tbl := List.mem_of_getElem? (i := 85) (by decide +kernel)
theorem w_nw2 : Cond.methodLinkNest "FogNets" 28 yX4_init "FogNets" ∈ lw_tbl := List.mem_of_getElem? (i := 173) (by decide +kernel)
theorem w_nw3 : Cond.methodLinkNest "FogNets" 42 yX5_init "FogNets" ∈ lw_tbl := List.mem_of_getElem? (i := 222) (by decide +kernel)
theorem w_nw4 : Cond.methodLinkNest "FogNets$Past" 24 yX4_init "FogNets" ∈ lw_tbl := List.mem_of_getElem? (i := 247) (by decide +kernel)
theorem w_nw5 : Cond.methodLinkNest "FogNets$Reader" 38 yX6_put "FogNets" ∈ lw_tbl := List.mem_of_getElem? (i := 545) (by decide +kernel)
theorem w_nw6 : Cond.methodLinkNest "FogNets$Reader" 140 yX6_within "FogNets" ∈ lw_tbl := List.mem_of_getElem? (i := 589) (by decide +kernel)
theorem w_nw7 : Cond.methodLinkNest "FogNets$Coast" 64 yX6_at "FogNets" ∈ lw_tbl := List.mem_of_getElem? (i := 345) (by decide +kernel)
theorem w_nw8 : Cond.methodLinkNest "FogNets$Wind" 38 yX6_put "FogNets" ∈ lw_tbl := List.mem_of_getElem? (i := 425) (by decide +kernel)
theorem w_nw9 : Cond.methodLinkNest "FogNets$State" 121 yX6_at "FogNets" ∈ lw_tbl := List.mem_of_getElem? (i := 444) (by decide +kernel)
theorem w_nw10 : Cond.methodLinkNest "FogNets$State" 141 yX6_put "FogNets" ∈ lw_tbl := List.mem_of_getElem? (i := 446) (by decide +kernel)
theorem w_nw11 : Cond.methodLinkNest "FogNets$Wind" 31 yX6_at "FogNets" ∈ lw_tbl := List.mem_of_getElem? (i := 692) (by decide +kernel)
theorem w_nw12 : Cond.methodLinkNest "FogNets$Notes" 29 yX6_put "FogNets" ∈ lw_tbl := List.mem_of_getElem? (i := 709) (by decide +kernel)
theorem NW.of {s : State} {args : Array Value} (hts : ∀ w ∈ lw_tbl, w.before args s = true) : NW s := by
  have h : ∀ (a : String) (i : Nat) (y : MethodName) (h : String), Cond.methodLinkNest a i y h ∈ lw_tbl → va_Nw (.methodLinkNest a i y h) s := fun a i y h hm => va_Nw.of rfl (hts _ hm)
  unfold NW nestL
  exact List.forall_mem_cons.mpr ⟨h _ _ _ _ w_nw0, List.forall_mem_cons.mpr ⟨h _ _ _ _ w_nw1, List.forall_mem_cons.mpr ⟨h _ _ _ _ w_nw2, List.forall_mem_cons.mpr ⟨h _ _ _ _ w_nw3, List.forall_mem_cons.mpr ⟨h _ _ _ _ w_nw4, List.forall_mem_cons.mpr ⟨h _ _ _ _ w_nw5, List.forall_mem_cons.mpr ⟨h _ _ _ _ w_nw6, List.forall_mem_cons.mpr ⟨h _ _ _ _ w_nw7, List.forall_mem_cons.mpr ⟨h _ _ _ _ w_nw8, List.forall_mem_cons.mpr ⟨h _ _ _ _ w_nw9, List.forall_mem_cons.mpr ⟨h _ _ _ _ w_nw10, List.forall_mem_cons.mpr ⟨h _ _ _ _ w_nw11, List.forall_mem_cons.mpr ⟨h _ _ _ _ w_nw12, fun _ h => absurd h List.not_mem_nil⟩⟩⟩⟩⟩⟩⟩⟩⟩⟩⟩⟩⟩
theorem arr_of {s : State} {args : Array Value} {ty : FieldType} (h : (Cond.arrayClass ty).before args s = true) : ∃ cA, ArrOfT s cA ty ∧ s.vm.findClass ("[" ++ ty.toString) = some cA := by
  obtain ⟨c, k, comp, h1, h2, h3⟩ := Cond.arrayClass_spec h
  exact ⟨c, fun n z => ⟨fun k h => (by cases h), k, h2, comp, h3⟩, h1⟩
set_option maxHeartbeats 4000000 in
set_option maxRecDepth 100000 in
theorem known_all {s : State} {args : Array Value} (hts : ∀ w ∈ lw_tbl, w.before args s = true) : ∃ (D : va_G) (C : Nat → ClassId), va_K D vwCl (tyL C) s := by
  have hkw : ∀ w ∈ kW, w.before args s = true := fun w hw => hts w (kwTbl w hw)
  obtain ⟨c0, i0, k0⟩ := u_known (C := RX0) (T := TX0) (N := 15) (n := 15) hkw inkX0 (hkw _ m_o_X0)
  obtain ⟨c1, i1, k1⟩ := u_known (C := RX1) (T := TX1) (N := 4) (n := 4) hkw inkX1 (hkw _ m_o_X1)
  obtain ⟨c2, i2, k2⟩ := u_known (C := RX2) (T := TX2) (N := 3) (n := 3) hkw inkX2 (hkw _ m_o_X2)
  obtain ⟨c3, i3, k3⟩ := u_known (C := RX3) (T := TX3) (N := 8) (n := 8) hkw inkX3 (hkw _ m_o_X3)
  obtain ⟨c4, i4, k4⟩ := u_known (C := RX4) (T := TX4) (N := 10) (n := 10) hkw inkX4 (hkw _ m_o_X4)
  obtain ⟨c5, i5, k5⟩ := u_known (C := RX5) (T := TX5) (N := 3) (n := 3) hkw inkX5 (hkw _ m_o_X5)
  obtain ⟨c6, i6, k6⟩ := u_known (C := RX6) (T := TX6) (N := 14) (n := 14) hkw inkX6 (hkw _ m_o_X6)
  obtain ⟨a0, f0, g0⟩ := arr_of (hkw _ m_a_pe_int)
  obtain ⟨comp, a3, kA, p1, p2, p3, p4, p5⟩ := Cond.arrayOver_spec (hts _ w_ao)
  refine ⟨(fun k => if k = 0 then c0 else if k = 1 then c1 else if k = 2 then c2 else if k = 3 then c3 else if k = 4 then c4 else if k = 5 then c5 else c6, fun k => if k = 0 then i0 else if k = 1 then i1 else if k = 2 then i2 else if k = 3 then i3 else if k = 4 then i4 else if k = 5 then i5 else i6), (fun k => if k = 3 then a3 else a0), fun k q hq => ?_, fun k q hq => ?_⟩
  · match k, hq with
    | 0, hq => cases hq; exact k0
    | 1, hq => cases hq; exact k1
    | 2, hq => cases hq; exact k2
    | 3, hq => cases hq; exact k3
    | 4, hq => cases hq; exact k4
    | 5, hq => cases hq; exact k5
    | 6, hq => cases hq; exact k6
    | k + 7, hq => simp [vwCl] at hq
  · match k, hq with
    | 0, hq => cases hq; exact ⟨f0, g0⟩
    | 1, hq => cases hq; exact ⟨f0, g0⟩
    | 2, hq => cases hq; exact ⟨f0, g0⟩
    | 3, hq => cases hq; exact ⟨fun n z => ⟨fun k h => (by cases h), kA, p3, comp, p4⟩, kA, comp, p3, p4, p1, p5⟩
    | k + 4, hq => simp [tyL] at hq
def spK (q : Nat) : Nat := [10, 3, 1, 1, 5, 2].getD q 0
theorem sp_ok : ∀ k, k < 246 → k + spK (sF.2.1 k) < 246 := by decide +kernel
theorem sp_le : ∀ k, k < 246 → sF.2.1 k ≤ 12 := by decide +kernel
theorem sp_6 : ∀ k, k < 246 → sF.2.1 k = 6 → k = 0 := by decide +kernel
theorem sp_11 : ∀ k, k < 246 → sF.2.1 k = 11 → sF.2.2 k = 30 := by decide +kernel
theorem sp_12 : ∀ k, k < 246 → sF.2.1 k = 12 → sF.2.2 k = 2 := by decide +kernel
theorem μ0_20 : μ0.2.2 0 = 3 := rfl
theorem μ0_21 : μ0.2.2 1 = 14 := rfl
/-- what a cell holds speaks only of addresses of the same side -/
theorem enc_to {C : Nat → ClassId} {a a' : Nat → Nat} (h : ∀ j, j < 246 → a' j = a j) {k : Nat} (hk : k < 246) : eqE (enc sF C a μ0 k) (enc sF C a' μ0 k) := by
  have h1 := sp_ok k hk
  have h2 := sp_le k hk
  have h3 := sp_6 k hk
  have h4 := sp_11 k hk
  have h5 := sp_12 k hk
  unfold enc
  generalize sF.2.1 k = q at h1 h2 h3 h4 h5 ⊢
  rcases (by omega : q = 0 ∨ q = 1 ∨ q = 2 ∨ q = 3 ∨ q = 4 ∨ q = 5 ∨ q = 6 ∨ q = 7 ∨ q = 8 ∨ q = 9 ∨ q = 10 ∨ q = 11 ∨ q = 12) with rfl | rfl | rfl | rfl | rfl | rfl | rfl | rfl | rfl | rfl | rfl | rfl | rfl
  · have h1 : k + 10 < 246 := h1
    refine Or.inl ?_
    simp (disch := omega) only [h]
  · have h1 : k + 3 < 246 := h1
    refine Or.inl ?_
    simp (disch := omega) only [h]
  · have h1 : k + 1 < 246 := h1
    refine Or.inl ?_
    simp (disch := omega) only [h]
  · have h1 : k + 1 < 246 := h1
    refine Or.inl ?_
    simp (disch := omega) only [h]
  · have h1 : k + 5 < 246 := h1
    refine Or.inl ?_
    simp (disch := omega) only [h]
  · have h1 : k + 2 < 246 := h1
    refine Or.inl ?_
    simp (disch := omega) only [h]
  · refine Or.inl ?_
    simp (disch := omega) only [μ0_20, μ0_21, h]
  · exact Or.inl rfl
  · exact Or.inl rfl
  · exact Or.inl rfl
  · exact Or.inl rfl
  · have h4 := h4 rfl
    refine Or.inr ⟨C 3, sF.2.2 k, _, _, rfl, rfl, fun j hj => ?_⟩
    rw [h (43 + 6 * j) (by omega)]
  · have h5 := h5 rfl
    refine Or.inr ⟨C 3, sF.2.2 k, _, _, rfl, rfl, fun j hj => ?_⟩
    rw [h (224 + 6 * j) (by omega)]
def adL (aF : Nat → Nat) (q1 q2 q3 b L : Nat) (xs : Nat → Int32) : Nat → Nat := fun k => if k < 246 then aF k else if k = 246 then q1 else if k = 247 then q2 else if k = 248 then q3 else if k = 249 then b else if k = 250 then L else (xs (k - 251)).toBitVec.toNat
theorem i32_back (x : Int32) : Int32.ofNat x.toBitVec.toNat = x := by
  apply Int32.toBitVec_inj.mp
  simp
theorem adL_x {aF : Nat → Nat} {q1 q2 q3 b L : Nat} {xs : Nat → Int32} : sxx (adL aF q1 q2 q3 b L xs) = xs := by
  funext j
  unfold sxx adL
  rw [if_neg (by omega), if_neg (by omega), if_neg (by omega), if_neg (by omega), if_neg (by omega), if_neg (by omega), Nat.add_sub_cancel_left]
  exact i32_back _
theorem adL_lo {aF : Nat → Nat} {q1 q2 q3 b L : Nat} {xs : Nat → Int32} : ∀ j, j < 246 → adL aF q1 q2 q3 b L xs j = aF j := fun j hj => if_pos hj
theorem adL_1 {aF : Nat → Nat} {q1 q2 q3 b L : Nat} {xs : Nat → Int32} : adL aF q1 q2 q3 b L xs 246 = q1 := rfl
theorem adL_2 {aF : Nat → Nat} {q1 q2 q3 b L : Nat} {xs : Nat → Int32} : adL aF q1 q2 q3 b L xs 247 = q2 := rfl
theorem adL_3 {aF : Nat → Nat} {q1 q2 q3 b L : Nat} {xs : Nat → Int32} : adL aF q1 q2 q3 b L xs 248 = q3 := rfl
theorem adL_b {aF : Nat → Nat} {q1 q2 q3 b L : Nat} {xs : Nat → Int32} : adL aF q1 q2 q3 b L xs 249 = b := rfl
theorem adL_L {aF : Nat → Nat} {q1 q2 q3 b L : Nat} {xs : Nat → Int32} : adL aF q1 q2 q3 b L xs 250 = L := rfl
abbrev eN (C : Nat → ClassId) (n : Nat) : va_E := .inl (C 0, n, .inl (fun _ => 0))
set_option maxRecDepth 20000 in
theorem eN_1 {C : Nat → ClassId} {a : Nat → Nat} : eN C 53 = enc sF C a μ0 246 := rfl
set_option maxRecDepth 20000 in
theorem eN_2 {C : Nat → ClassId} {a : Nat → Nat} : eN C 27 = enc sF C a μ0 247 := rfl
set_option maxRecDepth 20000 in
theorem eN_3 {C : Nat → ClassId} {a : Nat → Nat} : eN C 6 = enc sF C a μ0 248 := rfl
/-- the cells of the class and the three rows of the law, as one side -/
theorem side_get (C : Nat → ClassId) (aF : Nat → Nat) (q1 q2 q3 b L : Nat) (xs : Nat → Int32) : ∀ k, k < 249 → ∃ e, (wl 246 aF (EF C aF) ++ [(q1, eN C 53)] ++ [(q2, eN C 27)] ++ [(q3, eN C 6)])[k]? = some (adL aF q1 q2 q3 b L xs k, e) ∧ eqE e (enc sF C (adL aF q1 q2 q3 b L xs) μ0 k) := by
  intro k hk
  have hlen : (wl 246 aF (EF C aF)).length = 246 := wl_len
  by_cases h : k < 246
  · refine ⟨EF C aF k, ?_, enc_to adL_lo h⟩
    rw [List.getElem?_append_left (by simp only [List.length_append, hlen]; omega), List.getElem?_append_left (by simp only [List.length_append, hlen]; omega), List.getElem?_append_left (by rw [hlen]; exact h), wl_get h, adL_lo k h]
  · rcases (by omega : k = 246 ∨ k = 247 ∨ k = 248) with rfl | rfl | rfl
    · refine ⟨eN C 53, ?_, Or.inl eN_1⟩
      rw [List.getElem?_append_left (by simp only [List.length_append, hlen, List.length_cons]; omega), List.getElem?_append_left (by simp only [List.length_append, hlen, List.length_cons]; omega), List.getElem?_append_right (by rw [hlen]; omega), hlen]
      rfl
    · refine ⟨eN C 27, ?_, Or.inl eN_2⟩
      rw [List.getElem?_append_left (by simp only [List.length_append, hlen, List.length_cons]; omega), List.getElem?_append_right (by simp only [List.length_append, hlen, List.length_cons, List.length_nil]; omega)]
      simp only [List.length_append, hlen, List.length_cons, List.length_nil]
      rfl
    · refine ⟨eN C 6, ?_, Or.inl eN_3⟩
      rw [List.getElem?_append_right (by simp only [List.length_append, hlen, List.length_cons, List.length_nil]; omega)]
      simp only [List.length_append, hlen, List.length_cons, List.length_nil]
      rfl
theorem start0 : OK0 μ0 [] 0 (fun _ _ => 0) := by
  have e0 : ∀ i j, i ≠ 5 → co0 i j = 0 := fun i j h => by unfold co0; rw [if_neg h]
  have m0 : ∀ k, k ≠ 1 → k ≠ 10 → k ≠ 21 → k ≠ 236 → μ0.1 k = fun _ => 0 := fun k h1 h2 h3 h4 => μ0_0 h1 h2 h3 h4
  have st : StF μ0 25 6 zr := by
    unfold StF
    rw [m0 25 (by decide) (by decide) (by decide) (by decide), m0 (25 + 1) (by decide) (by decide) (by decide) (by decide), m0 (25 + 2) (by decide) (by decide) (by decide) (by decide), m0 (25 + 3) (by decide) (by decide) (by decide) (by decide), m0 (25 + 4) (by decide) (by decide) (by decide) (by decide), m0 (25 + 5) (by decide) (by decide) (by decide) (by decide)]
    exact ⟨⟨rfl, rfl, rfl, rfl, rfl⟩, fun p _ => ⟨rfl, rfl, rfl⟩, fun p h1 h2 => by omega, fun v _ => ⟨rfl, rfl⟩⟩
  refine ⟨-1, fun _ => none, ?_, ?_⟩
  · refine ⟨vP_0.1, ?_, ⟨Nat.zero_le _, fun i hi => absurd hi (Nat.not_lt_zero _)⟩, ⟨Nat.zero_le _, fun i hi => absurd hi (Nat.not_lt_zero _)⟩, by decide, fun i q h => (by cases h), ⟨Nat.zero_le _, fun i hi => absurd hi (Nat.not_lt_zero _)⟩, ⟨Nat.zero_le _, fun i hi => absurd hi (Nat.not_lt_zero _)⟩⟩
    refine ⟨Nat.zero_le _, by decide, Nat.zero_le _, Nat.zero_le _, Nat.zero_le _, Nat.zero_le _, Nat.zero_le _, Nat.zero_le _, Nat.zero_le _, fun p hp => absurd hp (Nat.not_lt_zero _), fun p q hp => absurd hp (Nat.not_lt_zero _)⟩
  · refine ⟨⟨rfl, rfl⟩, ⟨⟨rfl, rfl, rfl, rfl, rfl⟩, fun v hv => ?_⟩, ⟨fun p _ => ⟨0, by decide, rfl⟩, fun p _ => ⟨0, by decide, rfl⟩⟩, st, ⟨0, by decide, rfl, rfl, fun i hi => absurd hi (Nat.not_lt_zero _)⟩, ⟨rfl, fun i hi => absurd hi (Nat.not_lt_zero _)⟩, rfl, rfl, fun i hi => ?_, rfl, rfl, ⟨fun j => ?_, fun j => ?_⟩⟩
    · rcases (by omega : v = 0 ∨ v = 1) with rfl | rfl
      · exact ⟨rfl, rfl⟩
      · exact ⟨rfl, rfl⟩
    · rcases (by omega : i = 0 ∨ i = 1) with rfl | rfl
      · exact (rfl : μ0.1 236 0 = -1)
      · exact (rfl : μ0.1 236 1 = -1)
    · rw [m0 246 (by decide) (by decide) (by decide) (by decide)]; rfl
    · rw [m0 247 (by decide) (by decide) (by decide) (by decide)]; rfl
theorem start_A2 : A2 μ0 (fun _ => 0) (fun _ => 0) := by
  refine ⟨fun j => ?_, fun j => ?_⟩
  · rw [μ0_0 (by decide) (by decide) (by decide) (by decide)]; rfl
  · rw [μ0_0 (by decide) (by decide) (by decide) (by decide)]; rfl
set_option maxHeartbeats 4000000 in
set_option maxRecDepth 100000 in
/-- THE LAW, from its entry -/
theorem law_start {p : Program} {e : Env} {s : State} {m : MethodId} {below : List Frame} {meth : Method} {c : Code} (l : Launch) {b L : Nat} {xs : Nat → Int32} (hL : L ≤ 260) (C0 : lw_At p s m meth c b L xs) : W p l e room_1 s m #[Value.ref b] below meth c s.heap [] 0 0 (lw_Z below #[Value.ref b] s) (entryFrame m ([Value.ref b] : List Value).toArray 11) := by
  obtain ⟨hx, hb, hr, hml, hown, hts, hX, hbl, hlocks, hgv⟩ := id C0
  obtain ⟨D, C, hK⟩ := known_all hts
  have hkw : ∀ w ∈ kW, w.before #[Value.ref b] s = true := fun w hw => hts w (kwTbl w hw)
  obtain ⟨K, eK⟩ : ∃ K : Ctx, K = (fun q : Nat => s.heap.size ≤ q, p, e, s, m, #[Value.ref b], below, meth, c, lw_Z below #[Value.ref b] s) := ⟨_, rfl⟩
  have X : CJ D C K cL_law 11 RL := by
    subst eK
    exact ⟨⟨hx, hb, hml, hown, hkw, NW.of hts, hK, ⟨fun i j p q hi => by simp [wl] at hi, fun k q hk => by simp [wl] at hk⟩, fun k hk => absurd (show (99 : Nat) < 99 from hk) (by decide), fun q h => h, fun h => absurd rfl h⟩, trivial, va_AO.of (hts _ w_ao)⟩
  have body : WI l D room_1 K 11 0 0 [] 0 [(0, .ref b)] [] := by
    refine j_new X (ci := 6) inkX6 tyX6 tyX6_ok m_l_L_9 m_o_X6 m_n_X6 rfl hfsX6 (Nat.le_of_ble_eq_true rfl) (Nat.le_of_ble_eq_true rfl) dL_law_0 (fun q => ?_)
    refine b_dup X.1 dL_law_3 rfl ?_
    refine j_call X (c_X6_init l D C) m_m_L_91 m_i_X6_init m_n_X6 m_c_X6_init rfl hd_X6_init rfl rfl ⟨(Nat.le_of_ble_eq_true rfl), (Nat.le_of_ble_eq_true rfl)⟩ rfl rfl (Nat.le_of_ble_eq_true rfl) dL_law_4 ⟨(Nat.le_of_ble_eq_true rfl), (Nat.le_of_ble_eq_true rfl)⟩ (fun aF hF => ?_)
    subst hF
    refine i_ws (ws' := wl 246 aF (EF C aF)) rfl ?_
    refine b_astore_n (lv' := [(1, .ref (aF 0)), (0, .ref b)]) X.1 dL_law_7 rfl (by decide) rfl ?_
    refine b_bipush (v := (53 : Int32)) X.1 dL_law_8 (by decide) ?_
    refine j_newa X (t := 0) (N' := 53) (a0 := (53, .inl (fun _ => 0))) (atype := .int) m_a_pe_int rfl rfl (fun _ => rfl) (by decide) (by decide) (Nat.le_of_ble_eq_true rfl) (Nat.le_of_ble_eq_true rfl) (Nat.le_of_ble_eq_true rfl) dL_law_10 (fun q1 => ?_)
    refine b_astore_n (lv' := [(2, .ref q1), (1, .ref (aF 0)), (0, .ref b)]) X.1 dL_law_12 rfl (by decide) rfl ?_
    refine b_bipush (v := (27 : Int32)) X.1 dL_law_13 (by decide) ?_
    refine j_newa X (t := 0) (N' := 27) (a0 := (27, .inl (fun _ => 0))) (atype := .int) m_a_pe_int rfl rfl (fun _ => rfl) (by decide) (by decide) (Nat.le_of_ble_eq_true rfl) (Nat.le_of_ble_eq_true rfl) (Nat.le_of_ble_eq_true rfl) dL_law_15 (fun q2 => ?_)
    refine b_astore_n (lv' := [(3, .ref q2), (2, .ref q1), (1, .ref (aF 0)), (0, .ref b)]) X.1 dL_law_17 rfl (by decide) rfl ?_
    refine b_bipush (v := (6 : Int32)) X.1 dL_law_18 (by decide) ?_
    refine j_newa X (t := 0) (N' := 6) (a0 := (6, .inl (fun _ => 0))) (atype := .int) m_a_pe_int rfl rfl (fun _ => rfl) (by decide) (by decide) (Nat.le_of_ble_eq_true rfl) (Nat.le_of_ble_eq_true rfl) (Nat.le_of_ble_eq_true rfl) dL_law_20 (fun q3 => ?_)
    refine b_astore (lv' := [(4, .ref q3), (3, .ref q2), (2, .ref q1), (1, .ref (aF 0)), (0, .ref b)]) X.1 dL_law_22 (by decide) rfl ?_
    refine b_sub (lv' := [(0, .ref b), (1, .ref (aF 0)), (2, .ref q1), (3, .ref q2), (4, .ref q3)]) [4, 3, 2, 1, 0] rfl ?_
    refine i_cs (c1 := 249) (s1 := 1777) rfl rfl ?_
    intro H locs hw ls hl
    have hg := side_get C aF q1 q2 q3 b L xs
    obtain ⟨ad, ead⟩ : ∃ ad : Nat → Nat, ad = adL aF q1 q2 q3 b L xs := ⟨_, rfl⟩
    rw [← ead] at hg
    have hlv : [(0, Value.ref b), (1, .ref (aF 0)), (2, .ref q1), (3, .ref q2), (4, .ref q3)] = [(0, .ref (ad 249)), (1, .ref (ad 0)), (2, .ref (ad 246)), (3, .ref (ad 247)), (4, .ref (ad 248))] := by rw [ead]; rfl
    rw [hlv] at hl
    have hP : va_P D vwCl (wl sF.1 ad (enc sF C ad μ0)) H := by
      intro k q hk
      obtain ⟨k1, rfl⟩ := wl_some hk
      obtain ⟨e1, h1, h2⟩ := hg k k1
      exact at_to h2 (hw.1 k _ h1)
    have hDF : va_D K.1 (wl sF.1 ad e0) := by
      refine ⟨fun i j p q hi hj h => ?_, fun k q hk => ?_⟩
      · obtain ⟨i1, rfl⟩ := wl_some hi
        obtain ⟨j1, rfl⟩ := wl_some hj
        obtain ⟨e1, h1, _⟩ := hg i i1
        obtain ⟨e2, h2, _⟩ := hg j j1
        exact hw.2.1.1 i j _ _ h1 h2 h
      · obtain ⟨k1, rfl⟩ := wl_some hk
        obtain ⟨e1, h1, _⟩ := hg k k1
        exact hw.2.1.2 k (ad k, e1) h1
    have hss : sX ad = (L, xs) := by
      rw [ead]
      show (adL aF q1 q2 q3 b L xs 250, sxx (adL aF q1 q2 q3 b L xs)) = (L, xs)
      rw [adL_x, adL_L]
    have hSX : SXp sF ad K.1 K.2.2.2.1 K.2.2.2.1.heap := by
      intro _
      have e1 : ad 249 = b := by rw [ead]; rfl
      have e2 : ad 250 = L := by rw [ead]; rfl
      have e3 : sxx ad = xs := by rw [ead]; exact adL_x
      rw [e1, e2, e3, eK]
      exact ⟨hX, hbl, fun h => absurd hbl (Nat.not_lt.mpr h)⟩
    have X2 : CK sF D C ad K cL_law 11 RL := by
      obtain ⟨x1, x2, x3, x4, x5, x6, x7, _, _, x10, _⟩ := X.1
      exact ⟨x1, x2, x3, x4, x5, x6, x7, hDF, sF_lt, x10, hSX⟩
    have hlaw : w_L_law (L, xs) μ0 (fun x _ => x = 1) := L_law hL start_A2 start0 (fun _ => rfl)
    refine W.widen (k := 626541) (n := 7222626) (Nat.le_of_ble_eq_true rfl) (Nat.le_of_ble_eq_true rfl) ?_
    refine c_L_law l D C ad (L, xs) hss.symm μ0 (fun x _ => x = 1) hlaw X2 (fun v μ' pc lv hq hdg => ?_) H locs ⟨fun _ => ⟨by decide +kernel, by decide +kernel⟩, hP, hw.2.2⟩ ls hl
    obtain ⟨_, rfl⟩ := hq
    intro H1 locs1 hw1 ls1 hl1
    have hA : ∀ q ∈ locs1, K.2.2.2.1.heap.size ≤ q.base := by
      intro q hq
      have := hw1.2.2.2.2 q hq
      rw [eK] at this ⊢
      exact this
    refine va_forget hA ?_
    rw [eK]
    exact lw_ret hx hb hr hlocks hdg
  have hl := lv_entry [.ref b] (n := 11) (Nat.le_of_ble_eq_true rfl)
  rw [lg_entry_eq]
  subst eK
  exact body s.heap [] ⟨fun k q h => by simp at h, ⟨fun i j p q h => by simp at h, fun k q h => by simp at h⟩, va_S.rf⟩ _ hl
