/-! ===== constructors: the machine over a list of cells that grows ===== -/
abbrev S0 : Sd := (0, fun _ => 99, fun _ => 0)
def a00 : Nat → Nat := fun _ => 0
def FI (D : va_G) (A : Nat → Prop) (H0 : Heap) (ws : va_W) (H : Heap) (locs : List Loc) : Prop := va_P D vwCl ws H ∧ va_D A ws ∧ va_S A H0 H locs
abbrev WI (l : Launch) (D : va_G) (R : Room) (K : Ctx) (n c0 s0 : Nat) (ws : va_W) (pc : Nat) (lv : List (Nat × Value)) (st : List Value) : Prop :=
  WBG l R K n c0 s0 (FI D K.1 K.2.2.2.1.heap ws) pc lv st
abbrev CI (D : va_G) (C : Nat → ClassId) (K : Ctx) (cc : ByteArray) (n : Nat) (own : String) : Prop :=
  CK S0 D C a00 K cc n own ∧ K.2.2.2.2.2.2.2.1.name = "<init>" ∧ va_AO RX4 K.2.2.2.1
theorem ra_eq {U : State} {cA cB : ClassId} {ty : FieldType} (h1 : va_RA U cA ty) (h2 : va_RA U cB ty) : cA = cB := by
  cases ty with
  | object C =>
    obtain ⟨_, _, _, _, _, h⟩ := h1
    obtain ⟨_, _, _, _, _, h'⟩ := h2
    exact Option.some.inj (h.symm.trans h')
  | _ =>
    have a : U.vm.findClass _ = some cA := h1
    have b : U.vm.findClass _ = some cB := h2
    exact Option.some.inj (a.symm.trans b)
theorem join_app {A0 : Nat → Prop} {D : va_G} {cl : List vw_C} {ws0 wc w1 : va_W} {H H1 : Heap} (hP : va_P D cl (ws0 ++ wc) H) (hD : va_D A0 (ws0 ++ wc))
    (hk : ∀ q : Nat, q < H.size → ¬ va_A wc H.size q → H1[q]? = H[q]?) (hF : ∀ q, va_A wc H.size q → A0 q) (hP1 : va_P D cl w1 H1) (hD1 : va_D (va_A wc H.size) w1) : va_P D cl (ws0 ++ w1) H1 ∧ va_D A0 (ws0 ++ w1) := by
  have left : ∀ {k : Nat} {q : Nat × va_E}, ws0[k]? = some q → (ws0 ++ wc)[k]? = some q := fun {k q} h => by
    rw [List.getElem?_append_left (List.getElem?_eq_some_iff.mp h).1]; exact h
  have apart : ∀ (k : Nat) (q : Nat × va_E), ws0[k]? = some q → q.1 < H.size ∧ ¬ va_A wc H.size q.1 := by
    intro k q hq
    have hl := (hP k q (left hq)).lt
    refine ⟨hl, fun h => ?_⟩
    rcases h with ⟨k2, e, h⟩ | h
    · have h4 : (ws0 ++ wc)[ws0.length + k2]? = some (q.1, e) := by
        rw [List.getElem?_append_right (by omega), Nat.add_sub_cancel_left]; exact h
      have hij := hD.1 k (ws0.length + k2) q (q.1, e) (left hq) h4 rfl
      have := (List.getElem?_eq_some_iff.mp hq).1
      omega
    · omega
  refine ⟨va_P.app (fun k q hq => ?_) hP1, va_D.app ⟨fun i j p q hi hj h => hD.1 i j p q (left hi) (left hj) h, fun k q hk => hD.2 k q (left hk)⟩ (hD1.weaken (fun k q _ h => hF q.1 h)) (fun i j x y hx hy hxy => ?_)⟩
  · obtain ⟨g1, g2⟩ := apart k q hq
    exact (hP k q (left hq)).kept (hk q.1 g1 g2)
  · exact (apart i x hx).2 (by rw [hxy]; exact hD1.2 j y hy)
/-- a constructor: from a new object, it alone, come N cells as E tells, at addresses ad; the first is the object's -/
def Mc (l : Launch) (y : MethodName) (b : ByteArray) (n : Nat) (rm : Room) (D : va_G) (C : Nat → ClassId) (ci : Nat) (fs0 As : List Value) (N : Nat) (E : (Nat → Nat) → Nat → va_E) (mc ms : Nat) : Prop :=
  ∀ h0 sz : Nat, Met l y (WS y b n none) rm (va_Pc (.ref h0 :: As) (fun U => U.heap.size = sz ∧ va_P D vwCl [(h0, .inr (ci, fs0))] U.heap ∧ va_K D vwCl (tyL C) U ∧ NW U ∧ va_AO RX4 U))
    (va_Qv (fun ad : Nat → Nat => ad 0 = h0) (fun ad t => va_P D vwCl (wl N ad (E ad)) t.heap ∧ va_D (va_A [(h0, .inr (ci, fs0))] sz) (wl N ad (E ad))) (va_A [(h0, .inr (ci, fs0))] sz)) mc ms (va_A [(h0, .inr (ci, fs0))] sz)
section ICT
variable {l : Launch} {D : va_G} {C : Nat → ClassId} {R : Room} {K : Ctx} {n : Nat} {pc : Nat} {lv lv' : List (Nat × Value)} {st : List Value} {cc : ByteArray} {own : String} {c0 s0 : Nat} {ws ws' : va_W} {a : Nat}
theorem fm_c {y : MethodName} {b : ByteArray} {rm : Room} {ci : Nat} {fs0 As : List Value} {N : Nat} {E : (Nat → Nat) → Nat → va_E} {mc ms : Nat} (hy : plainName y.cls = true) (hnm : y.name = "<init>") (hlen : ∀ h0, (lg_sl (.ref h0 :: As)).length ≤ n)
    (body : ∀ (h0 : Nat) (K : Ctx), CI D C K b n y.cls → (∀ (ad : Nat → Nat) (pc : Nat) (lv : List (Nat × Value)), ad 0 = h0 → decode b pc = .ok (.return_, 1) → WI l D rm K n mc ms (wl N ad (E ad)) pc lv []) → WI l D rm K n 0 0 [(h0, .inr (ci, fs0))] 0 (lv_args 0 (.ref h0 :: As)) []) : Mc l y b n rm D C ci fs0 As N E mc ms := by
  intro h0 sz
  refine Met.ofW (cc := b) (maxL := n) (ret := none) hy rfl ?_
  intro p e s m args below meth c s₁ B hml hv
  obtain ⟨rfl, hsz, hP, hK, hNW, hAO⟩ := hv
  have hts : ∀ w ∈ kW, w.before (Value.ref h0 :: As).toArray s = true := fun w hw => atoms_spec (ws := WS y b n none) B.pre w (List.mem_cons_of_mem _ hw)
  have hown : s.vm.findClass y.cls = some m.cls := findClass_of_methodNamed B.named
  have hlocks := B.notSynchronized
  have hin : meth.name = "<init>" := (name_of_methodNamed B.named B.method).1.trans hnm
  subst hsz
  have hl := lv_entry (.ref h0 :: As) (n := n) (hlen h0)
  rw [lg_entry_eq]
  refine body h0 (va_A [(h0, .inr (ci, fs0))] s.heap.size, p, e, s, m, (Value.ref h0 :: As).toArray, below, meth, c, _) ⟨⟨B.exec, B.bytes, hml, hown, hts, hNW, hK, ⟨fun i j p q hi => by simp [wl] at hi, fun k q hk => by simp [wl] at hk⟩, fun k hk => absurd (show (99 : Nat) < 99 from hk) (by decide), fun q h => Or.inr h, fun h => absurd rfl h⟩, hin, hAO⟩ ?_ s.heap [] ⟨hP, ⟨fun i j p q hi hj _ => ?_, fun k q hk => Or.inl ⟨k, q.2, hk⟩⟩, va_S.rf⟩ _ hl
  · intro ad pc lv e0 hdg H locs hw ls hl
    exact W.vret B.exec B.bytes B.returns (fun t ht hW => ⟨⟨ad, rfl, e0, by rw [ht]; exact hw.1, hw.2.1⟩, hw.2.2.F ht⟩) hw.2.2.2.2 hdg
  · have h1 : i < 1 := (List.getElem?_eq_some_iff.mp hi).1
    have h2 : j < 1 := (List.getElem?_eq_some_iff.mp hj).1
    omega
theorem i_obj (X : CI D C K cc n own) {idx : Nat} (hl0 : Cond.methodLink own idx objectInit ∈ kW) (hf : 1 ≤ R.frames) (hlo : 12 ≤ R.locals) (hdg : decode cc pc = .ok (.invokespecial idx, 3)) (kk : WI l D R K n c0 s0 ws (pc + 3) lv []) : WI l D R K n c0 s0 ws pc lv [.ref a] :=
  fun H locs hw ls hl => W.objInit X.1.1 X.1.2.1 X.1.2.2.2.1 (X.1.2.2.2.2.1 _ hl0) (X.1.2.2.2.2.1 _ m_i_objectInit) (X.1.2.2.2.2.1 _ m_c_objectInit) rfl (by rw [X.1.2.2.1]; exact hl.1) rfl hdg hf (show 2 * 0 + 0 + 12 ≤ R.locals by omega)
    (W.eq (g2 := F0 K.2.2.2.2.1 (pc + 3) ls []) rfl (kk H locs hw ls hl))
theorem i_new (X : CI D C K cc n own) {ci N index : Nat} {Cn : String} {T : u_T} {fs : List Value} (hin : ∀ w ∈ u_ws Cn T N, w ∈ kW) (ty : Nat → FieldType) (hty : ∀ k, k < N → parseFieldDescriptor (T k).2.2.1 = some (ty k)) (hcl : Cond.classLink own index Cn ∈ kW) (hinst : Cond.instantiable Cn N ∈ kW) (hini : Cond.initialized Cn ∈ kW)
    (hc : vwCl[ci]? = some (Cn, T, N)) (hfs : ∀ j, j < N → defaultValue (ty j) = vp_V fs j) (hcells : c0 + 1 ≤ R.cells) (hslots : s0 + N ≤ R.slots) (hdg : decode cc pc = .ok (.new index, 3)) (kk : ∀ q : Nat, WI l D R K n (c0 + 1) (s0 + N) (ws ++ [(q, .inr (ci, fs))]) (pc + 3) lv (.ref q :: st)) : WI l D R K n c0 s0 ws pc lv st :=
  fun H locs hw ls hl => va_new X.1.1 X.1.2.1 X.1.2.2.2.2.1 hin ty hty X.1.2.2.2.1 (X.1.2.2.2.2.1 _ hcl) (X.1.2.2.2.2.1 _ hinst) (X.1.2.2.2.2.1 _ hini) X.1.2.2.2.2.2.2.1 hw.1 hw.2.1 hw.2.2 X.1.2.2.2.2.2.2.2.2.2.1 hc hfs hcells hslots hdg (fun q H1 hP hD hS => kk q H1 locs ⟨hP, hD, hS⟩ ls hl)
theorem i_newa (X : CI D C K cc n own) {atype : ArrayType} {ty : FieldType} {t N' : Nat} {n1 : Int32} {a0 : vp_A} (harr : Cond.arrayClass (newarray.typeOf atype) ∈ kW) (hty : newarray.typeOf atype = ty) (ht : (tyL C)[t]? = some (C t, ty)) (ha : ∀ cA : ClassId, vp_cell cA a0 = arrV cA N' (fun _ => defaultValue ty)) (hn : ¬ n1 < 0) (hN : n1.toNatClampNeg = N') (hbytes : N' * componentBytes ty ≤ 536870912) (hcells : c0 + 1 ≤ R.cells) (hslots : s0 + N' ≤ R.slots) (hdg : decode cc pc = .ok (.newarray atype, 2))
    (kk : ∀ q : Nat, WI l D R K n (c0 + 1) (s0 + N') (ws ++ [(q, .inl (C t, a0))]) (pc + 2) lv (.ref q :: st)) : WI l D R K n c0 s0 ws pc lv (.int n1 :: st) :=
  fun H locs hw ls hl => va_newa X.1.1 X.1.2.1 (X.1.2.2.2.2.1 _ harr) hty X.1.2.2.2.2.2.2.1 hw.1 hw.2.1 hw.2.2 X.1.2.2.2.2.2.2.2.2.2.1 ha hn hN hbytes hcells hslots hdg (fun q cA H1 hK hP hD hS => by
    have e : cA = C t := ra_eq (hK.2 4 (cA, ty) rfl).2 ((X.1.2.2.2.2.2.2.1).2 t _ ht).2
    subst e
    exact kk q H1 locs ⟨hP, hD, hS⟩ ls hl)
theorem i_newq (X : CI D C K cc n own) {index N' : Nat} {n1 : Int32} (hcl : Cond.classLink own index RX4 ∈ kW) (hn : ¬ n1 < 0) (hN : n1.toNatClampNeg = N') (hbytes : N' * 4 ≤ 536870912) (hcells : c0 + 1 ≤ R.cells) (hslots : s0 + N' ≤ R.slots) (hdg : decode cc pc = .ok (.anewarray index, 3))
    (kk : ∀ q : Nat, WI l D R K n (c0 + 1) (s0 + N') (ws ++ [(q, .inl (C 3, N', .inr (.inr (.inr (.inr (fun _ => none))))))]) (pc + 3) lv (.ref q :: st)) : WI l D R K n c0 s0 ws pc lv (.int n1 :: st) :=
  fun H locs hw ls hl => va_newq X.1.1 X.1.2.1 X.1.2.2.2.1 (X.1.2.2.2.2.1 _ hcl) X.2.2 X.1.2.2.2.2.2.2.1 hw.1 hw.2.1 hw.2.2 X.1.2.2.2.2.2.2.2.2.2.1 hn hN hbytes hcells hslots hdg (fun q cA H1 hK hP hD hS => by
    have e : cA = C 3 := ra_eq (hK.2 4 (cA, .object RX4) rfl).2 ((X.1.2.2.2.2.2.2.1).2 3 _ rfl).2
    subst e
    exact kk q H1 locs ⟨hP, hD, hS⟩ ls hl)
theorem i_put (X : CI D C K cc n own) {ci N index : Nat} {Cn : String} {T : u_T} (hin : ∀ w ∈ u_ws Cn T N, w ∈ kW) (ty0 : Nat → FieldType) (hty : ∀ k, k < N → parseFieldDescriptor (T k).2.2.1 = some (ty0 k)) (hnm : ∀ a, a < N → ∀ b, b < N → a ≠ b → (T a).2.1 ≠ (T b).2.1) (q0 : Nat) {fs : List Value} (he : ws[q0]? = some (a, .inr (ci, fs))) (hc : vwCl[ci]? = some (Cn, T, N)) (k : Nat) (hk : k < N) (hlink : Cond.fieldLink own index (T k).1 (T k).2.1 (T k).2.2.1 ∈ kW) (hfin : (T k).2.2.2 = false) {ty : FieldType} {v : Value} (hd : parseFieldDescriptor (T k).2.2.1 = some ty) (hn : narrow ty v = v) (hfit : fits ty v = true) (hlf : k < fs.length) (hws : ws.set q0 (a, .inr (ci, fs.set k v)) = ws') (hdg : decode cc pc = .ok (.putfield index, 3))
    (kk : WI l D R K n c0 s0 ws' (pc + 3) lv st) : WI l D R K n c0 s0 ws pc lv (v :: .ref a :: st) :=
  fun H locs hw ls hl => va_put X.1.1 X.1.2.1 X.1.2.2.2.2.1 hin ty0 hty hnm X.1.2.2.2.1 X.1.2.2.2.2.2.2.1 hw.1 hw.2.1 hw.2.2 q0 he hc k hk (X.1.2.2.2.2.1 _ hlink) (fun _ h => h) hfin hd hn hfit hlf hdg (fun H1 locs1 hP hD hS => by rw [hws] at hP hD; exact kk H1 locs1 ⟨hP, hD, hS⟩ ls hl)
theorem i_putF (X : CI D C K cc n own) {ci N index : Nat} {Cn : String} {T : u_T} (hin : ∀ w ∈ u_ws Cn T N, w ∈ kW) (ty0 : Nat → FieldType) (hty : ∀ k, k < N → parseFieldDescriptor (T k).2.2.1 = some (ty0 k)) (hnm : ∀ a, a < N → ∀ b, b < N → a ≠ b → (T a).2.1 ≠ (T b).2.1) (q0 : Nat) {fs : List Value} (he : ws[q0]? = some (a, .inr (ci, fs))) (hc : vwCl[ci]? = some (Cn, T, N)) (k : Nat) (hk : k < N) (hlink : Cond.fieldLink own index (T k).1 (T k).2.1 (T k).2.2.1 ∈ kW) (hfin : (T k).2.2.2 = true) (hdecl : (T k).1 = own) {ty : FieldType} {v : Value} (hd : parseFieldDescriptor (T k).2.2.1 = some ty) (hn : narrow ty v = v) (hfit : fits ty v = true) (hlf : k < fs.length) (hws : ws.set q0 (a, .inr (ci, fs.set k v)) = ws') (hdg : decode cc pc = .ok (.putfield index, 3))
    (kk : WI l D R K n c0 s0 ws' (pc + 3) lv st) : WI l D R K n c0 s0 ws pc lv (v :: .ref a :: st) :=
  fun H locs hw ls hl => va_putF X.1.1 X.1.2.1 X.1.2.2.2.2.1 hin ty0 hty hnm X.1.2.2.2.1 X.1.2.2.2.2.2.2.1 hw.1 hw.2.1 hw.2.2 q0 he hc k hk (X.1.2.2.2.2.1 _ hlink) (fun _ h => h) hfin X.2.1 hdecl hd hn hfit hlf hdg (fun H1 locs1 hP hD hS => by rw [hws] at hP hD; exact kk H1 locs1 ⟨hP, hD, hS⟩ ls hl)
theorem i_get (X : CI D C K cc n own) {ci N index : Nat} {Cn : String} {T : u_T} (hin : ∀ w ∈ u_ws Cn T N, w ∈ kW) (q0 : Nat) {fs : List Value} (he : ws[q0]? = some (a, .inr (ci, fs))) (hc : vwCl[ci]? = some (Cn, T, N)) (k : Nat) (hk : k < N) (hlink : Cond.fieldLink own index (T k).1 (T k).2.1 (T k).2.2.1 ∈ kW) {v : Value} (hv : fs[k]? = some v) (hdg : decode cc pc = .ok (.getfield index, 3))
    (kk : WI l D R K n c0 s0 ws (pc + 3) lv (v :: st)) : WI l D R K n c0 s0 ws pc lv (.ref a :: st) :=
  fun H locs hw ls hl => va_get X.1.1 X.1.2.1 X.1.2.2.2.2.1 hin X.1.2.2.2.1 X.1.2.2.2.2.2.2.1 hw.1 q0 he hc k hk (X.1.2.2.2.2.1 _ hlink) (fun _ h => h) hv hdg (kk H locs hw ls hl)
theorem i_iast (X : CI D C K cc n own) (q0 : Nat) {N : Nat} {f : Nat → Int32} (ha : ws[q0]? = some (a, .inl (C 0, N, .inl f))) {i x : Int32} (hin : vp_in i N) (hws : ws.set q0 (a, .inl (C 0, N, .inl (upd f i.toNatClampNeg x))) = ws') (hdg : decode cc pc = .ok (.iastore, 1))
    (kk : WI l D R K n c0 s0 ws' (pc + 1) lv st) : WI l D R K n c0 s0 ws pc lv (.int x :: .int i :: .ref a :: st) :=
  fun H locs hw ls hl => va_iast X.1.1 X.1.2.1 X.1.2.2.2.2.2.2.1 hw.1 hw.2.1 hw.2.2 q0 0 ha rfl hin hdg (fun H1 locs1 hP hD hS => by rw [hws] at hP hD; exact kk H1 locs1 ⟨hP, hD, hS⟩ ls hl)
theorem i_astq (X : CI D C K cc n own) (q0 qk : Nat) {N v : Nat} {vs : List Value} {f : Nat → Option Nat} (ha : ws[q0]? = some (a, .inl (C 3, N, .inr (.inr (.inr (.inr f)))))) (hv : ws[qk]? = some (v, .inr (4, vs))) {i : Int32} (hin : vp_in i N) (hws : ws.set q0 (a, .inl (C 3, N, .inr (.inr (.inr (.inr (va_up f i.toNatClampNeg (some v))))))) = ws') (hdg : decode cc pc = .ok (.aastore, 1))
    (kk : WI l D R K n c0 s0 ws' (pc + 1) lv st) : WI l D R K n c0 s0 ws pc lv (.ref v :: .int i :: .ref a :: st) :=
  fun H locs hw ls hl => va_astq X.1.1 X.1.2.1 X.1.2.2.2.2.2.2.1 hw.1 hw.2.1 hw.2.2 q0 3 qk 4 (r := (RX4, TX4, 10)) ha rfl hv rfl hin hdg (fun H1 locs1 hP hD hS => by rw [hws] at hP hD; exact kk H1 locs1 ⟨hP, hD, hS⟩ ls hl)
theorem i_max (X : CI D C K cc n own) {x y : Int32} {index : Nat} (hlink : Cond.methodLink own index Lib.Math.max.name ∈ kW) (hstat : Cond.static Lib.Math.max.name ∈ kW) (hini : Cond.initialized "java/lang/Math" ∈ kW) (hcode : Cond.code Lib.Math.max.name Lib.Math.max.code 2 (some .int) ∈ kW) (hframes : 1 ≤ R.frames) (hlocals : (st.map fun v => v.category).sum + 13 ≤ R.locals) (hcells : c0 ≤ R.cells) (hslots : s0 ≤ R.slots) (hdg : decode cc pc = .ok (.invokestatic index, 3)) (kk : WI l D R K n c0 s0 ws (pc + 3) lv (.int (if x < y then y else x) :: st)) : WI l D R K n c0 s0 ws pc lv (.int y :: .int x :: st) :=
  fun H locs hw ls hl => va_mmax X.1.1 X.1.2.1 (X.1.2.2.1.trans hl.1.symm) X.1.2.2.2.1 (X.1.2.2.2.2.1 _ hlink) (X.1.2.2.2.2.1 _ hstat) (X.1.2.2.2.2.1 _ hini) (X.1.2.2.2.2.1 _ hcode) hframes hlocals hcells hslots hdg (kk H locs hw ls hl)
theorem i_ws (h : ws = ws') (kk : WI l D R K n c0 s0 ws' pc lv st) : WI l D R K n c0 s0 ws pc lv st := by subst h; exact kk
/-- what a constructor's call asks, and what it leaves -/
theorem i_run {y : MethodName} {n1 : Nat} {ci : Nat} {fs0 As : List Value} {N : Nat} {E : (Nat → Nat) → Nat → va_E} {mc ms q index : Nat} {H : Heap} {locs : List Loc} {ls : Array Slot} {st0 : List Value}
    (X : CI D C K cc n own) (hw : FI D K.1 K.2.2.2.1.heap (ws ++ [(q, .inr (ci, fs0))]) H locs)
    (hr : va_Run K.2.1 l K.2.2.1 R K.2.2.2.1 K.2.2.2.2.1 K.2.2.2.2.2.1 K.2.2.2.2.2.2.1 K.2.2.2.2.2.2.2.1 K.2.2.2.2.2.2.2.2.1 H locs c0 s0 mc ms (F0 K.2.2.2.2.1 pc ls st0) st (va_Qv (fun ad : Nat → Nat => ad 0 = q) (fun ad t => va_P D vwCl (wl N ad (E ad)) t.heap ∧ va_D (va_A [(q, .inr (ci, fs0))] H.size) (wl N ad (E ad))) (va_A [(q, .inr (ci, fs0))] H.size) (Value.ref q :: As).toArray) (va_A [(q, .inr (ci, fs0))] H.size))
    (kk : ∀ ad : Nat → Nat, ad 0 = q → ∀ (H1 : Heap) (locs1 : List Loc), FI D K.1 K.2.2.2.1.heap (ws ++ wl N ad (E ad)) H1 locs1 → W K.2.1 l K.2.2.1 R K.2.2.2.1 K.2.2.2.2.1 K.2.2.2.2.2.1 K.2.2.2.2.2.2.1 K.2.2.2.2.2.2.2.1 K.2.2.2.2.2.2.2.2.1 H1 locs1 (c0 + mc) (s0 + ms) K.2.2.2.2.2.2.2.2.2 (F0 K.2.2.2.2.1 (pc + 3) ls st)) : W K.2.1 l K.2.2.1 R K.2.2.2.1 K.2.2.2.2.1 K.2.2.2.2.2.1 K.2.2.2.2.2.2.1 K.2.2.2.2.2.2.2.1 K.2.2.2.2.2.2.2.2.1 H locs c0 s0 K.2.2.2.2.2.2.2.2.2 (F0 K.2.2.2.2.1 pc ls st0) := by
  have hF : ∀ x, va_A [(q, .inr (ci, fs0))] H.size x → K.1 x := by
    intro x h
    rcases h with ⟨k, e, h⟩ | h
    · have h4 : (ws ++ [(q, .inr (ci, fs0))])[ws.length + k]? = some (x, e) := by
        rw [List.getElem?_append_right (by omega), Nat.add_sub_cancel_left]; exact h
      exact hw.2.1.2 _ _ h4
    · exact X.1.2.2.2.2.2.2.2.2.2.1 x (Nat.le_trans hw.2.2.1 h)
  refine va_callv hr hw.2.2 (fun x _ h => hF x h) hF (fun ad t H1 locs1 ht hvm h0 hB hz hk hS => ?_)
  obtain ⟨hP, hD⟩ := join_app hw.1 hw.2.1 hk hF (by rw [← ht]; exact hB.1) hB.2
  exact kk ad h0 H1 locs1 ⟨hP, hD, hS⟩
theorem i_U (X : CI D C K cc n own) {q ci : Nat} {fs0 : List Value} {H : Heap} {locs : List Loc} (hw : FI D K.1 K.2.2.2.1.heap (ws ++ [(q, .inr (ci, fs0))]) H locs) {U : State} (hU : U.heap = H) (hW : K.2.2.2.1.WarmedH U.vm) : U.heap.size = H.size ∧ va_P D vwCl [(q, .inr (ci, fs0))] U.heap ∧ va_K D vwCl (tyL C) U ∧ NW U ∧ va_AO RX4 U := by
  refine ⟨by rw [hU], fun k x hx => ?_, va_K.moved hW.alike X.1.2.2.2.2.2.2.1, NW.warm hW X.1.2.2.2.2.2.1, va_AO.moved hW.alike X.2.2⟩
  rw [hU]
  refine hw.1 (ws.length + k) x ?_
  rw [List.getElem?_append_right (by omega), Nat.add_sub_cancel_left]; exact hx
theorem FC.blind {av : List Value} {sz q ci : Nat} {fs0 : List Value} : FrameBlind (va_Pc av (fun U => U.heap.size = sz ∧ va_P D vwCl [(q, .inr (ci, fs0))] U.heap ∧ va_K D vwCl (tyL C) U ∧ NW U ∧ va_AO RX4 U)) := by
  intro a U g mk q
  obtain ⟨q0, q1, q2, q3, q4, q5⟩ := q
  exact ⟨q0, q1, q2, va_K.moved (u := U) (U := U.calling g mk a) (Vm.Alike.refl U.vm) q3, NW.same (u := U) (U := U.calling g mk a) rfl q4, va_AO.moved (u := U) (U := U.calling g mk a) (Vm.Alike.refl U.vm) q5⟩
/-- a constructor is called: its own name is linked -/
theorem i_call (X : CI D C K cc n own) {y : MethodName} {b : ByteArray} {n1 : Nat} {rm : Room} {ci : Nat} {fs0 As : List Value} {N nA : Nat} {E : (Nat → Nat) → Nat → va_E} {mc ms q index : Nat} (hM : Mc l y b n1 rm D C ci fs0 As N E mc ms) (hlink : Cond.methodLink own index y ∈ kW) (hinst : Cond.instanceMethod y ∈ kW) (hini : Cond.initialized y.cls ∈ kW) (hcd : Cond.code y b n1 none ∈ kW) (hnm : y.name = "<init>") (hd : kD y nA) (hrc : rm.cells = mc) (hrs : rm.slots = ms) (hR : kR rm R n1) (hn : As.length = nA) {st0 : List Value} (hst : st0 = As.reverse ++ .ref q :: st) (hr : (st.map fun v => v.category).sum ≤ 8) (hdg : decode cc pc = .ok (.invokespecial index, 3)) (hf : c0 + mc ≤ R.cells ∧ s0 + ms ≤ R.slots)
    (kk : ∀ ad : Nat → Nat, ad 0 = q → WI l D R K n (c0 + mc) (s0 + ms) (ws ++ wl N ad (E ad)) (pc + 3) lv st) : WI l D R K n c0 s0 (ws ++ [(q, .inr (ci, fs0))]) pc lv st0 := by
  intro H locs hw ls hl
  have X' := X.1
  obtain ⟨hx, hb, hml, hown, hts, hnn, hK, hD, hN, hA, _⟩ := X'
  exact i_run (y := y) (n1 := n1) (index := index) X hw (va_runI (As := As) (rest := st) ⟨hx, hb, hml, hown, hts⟩ (hM q H.size) (cwI nA hts (goodWS hcd) rfl hrc hrs (hts _ hini) (hts _ hlink) (hts _ hinst) hnm hd hR) ⟨FC.blind, fun U hU hW => ⟨rfl, i_U X hw hU hW⟩⟩ rfl hn hl.1 hst (lv_room hr) hdg hf) (fun ad h0 H1 locs1 hw1 => kk ad h0 H1 locs1 hw1 ls hl)
/-- a nest mate's private constructor is called -/
theorem i_callN (X : CI D C K cc n own) {y : MethodName} {b : ByteArray} {n1 : Nat} {rm : Room} {ci : Nat} {fs0 As : List Value} {N nA : Nat} {E : (Nat → Nat) → Nat → va_E} {mc ms q index : Nat} {host : String} (hM : Mc l y b n1 rm D C ci fs0 As N E mc ms) (hne : (own, index, y, host) ∈ nestL) (hinst : Cond.instanceMethod y ∈ kW) (hini : Cond.initialized y.cls ∈ kW) (hcd : Cond.code y b n1 none ∈ kW) (hnm : y.name = "<init>") (hd : kD y nA) (hrc : rm.cells = mc) (hrs : rm.slots = ms) (hR : kR rm R n1) (hn : As.length = nA) {st0 : List Value} (hst : st0 = As.reverse ++ .ref q :: st) (hr : (st.map fun v => v.category).sum ≤ 8) (hdg : decode cc pc = .ok (.invokespecial index, 3)) (hf : c0 + mc ≤ R.cells ∧ s0 + ms ≤ R.slots)
    (kk : ∀ ad : Nat → Nat, ad 0 = q → WI l D R K n (c0 + mc) (s0 + ms) (ws ++ wl N ad (E ad)) (pc + 3) lv st) : WI l D R K n c0 s0 (ws ++ [(q, .inr (ci, fs0))]) pc lv st0 := by
  intro H locs hw ls hl
  have X' := X.1
  obtain ⟨hx, hb, hml, hown, hts, hnn, hK, hD, hN, hA, _⟩ := X'
  exact i_run (y := y) (n1 := n1) (index := index) X hw (va_runIN (As := As) (rest := st) ⟨hx, hb, hml, hown, hts⟩ (hM q H.size) ⟨va_cnB (host := host) nA hts (goodWS hcd) rfl hrc hrs (hnn _ hne) (hts _ hini) hd hR, hnm, hts _ hinst⟩ ⟨FC.blind, fun U hU hW => ⟨rfl, i_U X hw hU hW⟩⟩ rfl hn hl.1 hst (lv_room hr) hdg hf) (fun ad h0 H1 locs1 hw1 => kk ad h0 H1 locs1 hw1 ls hl)
end ICT
