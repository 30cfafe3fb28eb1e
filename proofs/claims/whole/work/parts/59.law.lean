/-! ===== the law's own world: the script, both sides ===== -/
abbrev LWp (D : va_G) (C : Nat → ClassId) (aF aM : Nat → Nat) (K : Ctx) (μ ν : Mem) (H : Heap) (locs : List Loc) : Prop :=
  wfS sF μ ∧ va_P D vwCl (wl sF.1 aF (enc sF C aF μ)) H ∧ va_P D vwCl (wl sM.1 aM (enc sM C aM ν)) H ∧ va_S K.1 K.2.2.2.1.heap H locs
abbrev WL (l : Launch) (D : va_G) (C : Nat → ClassId) (aF aM : Nat → Nat) (K : Ctx) (c0 s0 : Nat) (μ ν : Mem) (pc : Nat) (lv : List (Nat × Value)) (st : List Value) : Prop :=
  WBG l room_1 K 4 c0 s0 (LWp D C aF aM K μ ν) pc lv st
/-- what stays the same in the law -/
def LC (D : va_G) (C : Nat → ClassId) (aF aM : Nat → Nat) (K : Ctx) (b L : Nat) (xs : Nat → Int32) (c0 s0 : Nat) : Prop :=
  CK S0 D C a00 K cL_law 4 RL ∧ (K.1 = fun q => K.2.2.2.1.heap.size ≤ q) ∧ va_D K.1 (wl sF.1 aF e0) ∧ va_D K.1 (wl sM.1 aM e0) ∧ (∀ i j, i < sF.1 → j < sM.1 → aF i ≠ aM j) ∧ va_X b L xs K.2.2.2.1 K.2.2.2.1.heap ∧ b < K.2.2.2.1.heap.size ∧ c0 ≤ 600000 ∧ s0 ≤ 7302250
section LAWR
variable {l : Launch} {D : va_G} {C : Nat → ClassId} {aF aM : Nat → Nat} {K : Ctx} {b L : Nat} {xs : Nat → Int32} {c0 s0 : Nat} {μ ν : Mem} {pc : Nat} {lv : List (Nat × Value)} {st : List Value}
theorem l_bA (X : LC D C aF aM K b L xs c0 s0) : ¬ K.1 b := by
  obtain ⟨_, hA, _, _, _, _, hb, _⟩ := X
  rw [hA]
  exact Nat.not_le.mpr hb
theorem l_len (X : LC D C aF aM K b L xs c0 s0) (hdg : decode cL_law pc = .ok (.arraylength, 1)) (kk : WL l D C aF aM K c0 s0 μ ν (pc + 1) lv (.int (Int32.ofNat L) :: st)) : WL l D C aF aM K c0 s0 μ ν pc lv (.ref b :: st) :=
  fun H locs hw ls hl => va_slen X.1.1 X.1.2.1 X.2.2.2.2.2.1 X.2.2.2.2.2.2.1 (l_bA X) hw.2.2.2 hdg (kk H locs hw ls hl)
theorem l_ld (X : LC D C aF aM K b L xs c0 s0) {i : Int32} (hin : vp_in i L) (hdg : decode cL_law pc = .ok (.iaload, 1)) (kk : WL l D C aF aM K c0 s0 μ ν (pc + 1) lv (.int (xs i.toNatClampNeg) :: st)) : WL l D C aF aM K c0 s0 μ ν pc lv (.int i :: .ref b :: st) :=
  fun H locs hw ls hl => va_sld X.1.1 X.1.2.1 X.2.2.2.2.2.1 X.2.2.2.2.2.2.1 (l_bA X) hw.2.2.2 hin hdg (kk H locs hw ls hl)
/-- script[i + k] -/
theorem l_arg (X : LC D C aF aM K b L xs c0 s0) {x1 x2 : Nat} {i : Nat} (k : Nat) (hk : k < 4) (hi : i + k < L) (hL : L ≤ 2048) (d1 : decode cL_law pc = .ok (.aload_n 0, 1)) (d2 : decode cL_law (pc + 1) = .ok (.iload_n 3, 1)) (d3 : decode cL_law (pc + 2) = .ok (.iconst (k : Int), 1)) (d4 : decode cL_law (pc + 3) = .ok (.iadd, 1)) (d5 : decode cL_law (pc + 4) = .ok (.iaload, 1))
    (kk : WL l D C aF aM K c0 s0 μ ν (pc + 5) [(0, .ref b), (1, .ref x1), (2, .ref x2), (3, .int (nI i))] (.int (xs (i + k)) :: st)) : WL l D C aF aM K c0 s0 μ ν pc [(0, .ref b), (1, .ref x1), (2, .ref x2), (3, .int (nI i))] st := by
  refine b_aload_n X.1 d1 rfl 0 rfl ?_
  refine b_iload_n X.1 d2 rfl 3 rfl ?_
  refine b_iconst (v := nI k) X.1 d3 ?_ ?_
  · rcases (by omega : k = 0 ∨ k = 1 ∨ k = 2 ∨ k = 3) with rfl | rfl | rfl | rfl <;> decide
  refine b_iadd X.1 d4 ?_
  rw [z_add]
  refine l_ld X (vp_in_nI hi (by omega)) d5 ?_
  rw [z_cl (by omega)]
  exact kk
theorem kept_other {w1 w2 : va_W} {D : va_G} {H H1 : Heap} {ad1 ad2 : Nat → Nat} {N1 N2 : Nat} {E2 : Nat → va_E} (hne : ∀ i j, i < N1 → j < N2 → ad1 i ≠ ad2 j) (hP : va_P D vwCl (wl N2 ad2 E2) H) (hk : ∀ q : Nat, q < H.size → ¬ va_A (wl N1 ad1 e0) H.size q → H1[q]? = H[q]?) : va_P D vwCl (wl N2 ad2 E2) H1 := by
  intro k q hq
  have hat := hP k q hq
  refine hat.kept (hk _ hat.lt (fun h => ?_))
  obtain ⟨k1, rfl⟩ := wl_some hq
  rcases wl_A h with ⟨i, hi, he⟩ | h
  · exact hne i k hi k1 he.symm
  · exact absurd hat.lt (Nat.not_lt.mpr h)
theorem l_locs (X : LC D C aF aM K b L xs c0 s0) {H : Heap} {locs : List Loc} (hS : va_S K.1 K.2.2.2.1.heap H locs) : ∀ q ∈ locs, K.2.2.2.1.heap.size ≤ q.base := by
  intro q hq
  have := hS.2.2 q hq
  rw [X.2.1] at this
  exact this
theorem l_join (X : LC D C aF aM K b L xs c0 s0) {H H1 : Heap} {locs locs1 : List Loc} {N : Nat} {ad : Nat → Nat} (hD : va_D K.1 (wl N ad e0)) (hS : va_S K.1 K.2.2.2.1.heap H locs) (hS1 : va_S (va_A (wl N ad e0) H.size) H H1 locs1) : va_S K.1 K.2.2.2.1.heap H1 locs1 := by
  have hA : ∀ q, va_A (wl N ad e0) H.size q → K.1 q := by
    intro q h
    rcases wl_A h with ⟨i, hi, rfl⟩ | h
    · exact hD.2 i _ (wl_get hi)
    · rw [X.2.1]; exact Nat.le_trans hS.1 h
  refine ⟨Nat.le_trans hS.1 hS1.1, fun q h1 h2 => ?_, fun q hq => hA _ (hS1.2.2 q hq)⟩
  rw [hS1.2.1 q (Nat.lt_of_lt_of_le h1 hS.1) (fun z => h2 (hA q z))]
  exact hS.2.1 q h1 h2
variable {y : MethodName} {bc : ByteArray} {n1 : Nat} {r : Option FieldType} {rm : Room} {As : List Value} {nA index : Nat} {Q1 : Int32 → Mem → Prop} {st0 : List Value}
/-- FogNets is called -/
theorem l_F (X : LC D C aF aM K b L xs c0 s0) (hM : Mi sF l y bc n1 r rm D C aF (.ref (aF 0) :: As) μ Q1) (hG : GoodIn kW (wsV RL index RX6 y (WS y bc n1 r))) (hd : y.cls = RX6 ∧ kD y nA) (hc0 : rm.cells = 0) (hs0 : rm.slots = 0) (hR : kR rm room_1 n1) (hn : As.length = nA) (hst : st0 = As.reverse ++ .ref (aF 0) :: st) (hr : (st.map fun v => v.category).sum ≤ 8) (hdg : decode cL_law pc = .ok (.invokevirtual index, 3))
    (kk : ∀ (r : Int32) (μ' : Mem), Q1 r μ' → WL l D C aF aM K c0 s0 μ' ν (pc + 3) lv (.int r :: st)) : WL l D C aF aM K c0 s0 μ ν pc lv st0 := by
  intro H locs hw ls hl
  obtain ⟨hwf, hPF, hPM, hS⟩ := hw
  have X' := X
  obtain ⟨⟨hx, hb, hml, hown, hts, hnn, hK, _, _, _⟩, hA, hDF, hDM, hne, hX, hbl, hc, hs⟩ := X'
  refine va_forget (l_locs X hS) ?_
  have hDs : va_D (va_A (wl sF.1 aF e0) H.size) (wl sF.1 aF e0) := ⟨hDF.1, fun k q hk => Or.inl ⟨k, q.2, hk⟩⟩
  have hw0 : FW sF D C aF (va_A (wl sF.1 aF e0) H.size) H μ H [] := ⟨hwf, hPF, va_S.rf⟩
  refine kVi (S := sF) (A := va_A (wl sF.1 aF e0) H.size) (H0 := H) (k := 0) (Cn := RX6) ⟨hx, hb, hml, hown, hts, hnn, hK, hDs, sF_lt, fun q h => Or.inr h⟩ hw0 hM ?_ hG hd hc0 hs0 hR hn hl.1 hst hr hdg ⟨hc, hs⟩ (fun r1 μ' hq H1 locs1 hw1 => ?_)
  · exact va_recv hK hPF (ci := 6) rfl (by rw [wl_get (show 0 < sF.1 by decide)]; rfl)
  · exact kk r1 μ' hq H1 locs1 ⟨hw1.1, hw1.2.1, kept_other (w1 := []) (w2 := []) hne hPM hw1.2.2.2.1, l_join X hDF hS hw1.2.2⟩ ls hl
/-- the reference is called -/
theorem l_M (X : LC D C aF aM K b L xs c0 s0) (hM : Mi sM l y bc n1 r rm D C aM (.ref (aM 0) :: As) ν Q1) (hG : GoodIn kW (wsV RL index RX7 y (WS y bc n1 r))) (hd : y.cls = RX7 ∧ kD y nA) (hc0 : rm.cells = 0) (hs0 : rm.slots = 0) (hR : kR rm room_1 n1) (hn : As.length = nA) (hst : st0 = As.reverse ++ .ref (aM 0) :: st) (hr : (st.map fun v => v.category).sum ≤ 8) (hdg : decode cL_law pc = .ok (.invokevirtual index, 3))
    (kk : ∀ (r : Int32) (ν' : Mem), Q1 r ν' → WL l D C aF aM K c0 s0 μ ν' (pc + 3) lv (.int r :: st)) : WL l D C aF aM K c0 s0 μ ν pc lv st0 := by
  intro H locs hw ls hl
  obtain ⟨hwf, hPF, hPM, hS⟩ := hw
  have X' := X
  obtain ⟨⟨hx, hb, hml, hown, hts, hnn, hK, _, _, _⟩, hA, hDF, hDM, hne, hX, hbl, hc, hs⟩ := X'
  refine va_forget (l_locs X hS) ?_
  have hDs : va_D (va_A (wl sM.1 aM e0) H.size) (wl sM.1 aM e0) := ⟨hDM.1, fun k q hk => Or.inl ⟨k, q.2, hk⟩⟩
  have hw0 : FW sM D C aM (va_A (wl sM.1 aM e0) H.size) H ν H [] := ⟨fun z => absurd z (by decide), hPM, va_S.rf⟩
  refine kVi (S := sM) (A := va_A (wl sM.1 aM e0) H.size) (H0 := H) (k := 0) (Cn := RX7) ⟨hx, hb, hml, hown, hts, hnn, hK, hDs, sM_lt, fun q h => Or.inr h⟩ hw0 hM ?_ hG hd hc0 hs0 hR hn hl.1 hst hr hdg ⟨hc, hs⟩ (fun r1 ν' hq H1 locs1 hw1 => ?_)
  · exact va_recv hK hPM (ci := 7) rfl (by rw [wl_get (show 0 < sM.1 by decide)]; rfl)
  · exact kk r1 ν' hq H1 locs1 ⟨hwf, kept_other (w1 := []) (w2 := []) (fun i j hi hj => (hne j i hj hi).symm) hPF hw1.2.2.2.1, hw1.2.1, l_join X hDM hS hw1.2.2⟩ ls hl
theorem l_ret (X : LC D C aF aM K b L xs c0 s0) {below : List Frame} (hQ : K.2.2.2.2.2.2.2.2.2 = lw_Z K.2.2.2.2.2.2.1 #[Value.ref b] K.2.2.2.1) (hargs : K.2.2.2.2.2.1 = #[Value.ref b]) (hr : K.2.2.2.2.2.2.2.1.sig.returnType = ret) (hlk : K.2.2.2.2.2.2.2.1.locks = false) (hdg : decode cL_law pc = .ok (.ireturn, 1)) : WL l D C aF aM K c0 s0 μ ν pc lv [.int 1] := by
  intro H locs hw ls hl
  obtain ⟨hwf, hPF, hPM, hS⟩ := hw
  refine va_forget (l_locs X hS) ?_
  refine W.widen (k := 600000) (n := 7302250) X.2.2.2.2.2.2.2.1 X.2.2.2.2.2.2.2.2 ?_
  rw [hQ, hargs]
  exact lw_ret X.1.1 X.1.2.1 hr hlk hdg
end LAWR
