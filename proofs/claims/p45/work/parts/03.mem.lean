/-! ===== the memory of one side: N cells at ad 0 .. ad (N - 1); what they hold is told by numbers ===== -/
def wl (N : Nat) (ad : Nat → Nat) (E : Nat → va_E) : va_W := (List.range N).map (fun k => (ad k, E k))
theorem wl_get {N : Nat} {ad : Nat → Nat} {E : Nat → va_E} {k : Nat} (h : k < N) : (wl N ad E)[k]? = some (ad k, E k) := by
  simp [wl, h]
theorem wl_some {N : Nat} {ad : Nat → Nat} {E : Nat → va_E} {k : Nat} {q : Nat × va_E} (h : (wl N ad E)[k]? = some q) : k < N ∧ q = (ad k, E k) := by
  have hl : k < N := by
    have h1 := (List.getElem?_eq_some_iff.mp h).1
    simpa [wl] using h1
  rw [wl_get hl] at h
  exact ⟨hl, (Option.some.inj h).symm⟩
theorem wl_congr {N : Nat} {ad : Nat → Nat} {E E' : Nat → va_E} (h : ∀ k, k < N → E k = E' k) : wl N ad E = wl N ad E' := by
  unfold wl
  exact List.map_congr_left (fun k hk => by rw [h k (List.mem_range.mp hk)])
theorem wl_set {N : Nat} {ad : Nat → Nat} {E : Nat → va_E} {k : Nat} (h : k < N) (e : va_E) : (wl N ad E).set k (ad k, e) = wl N ad (va_up E k e) := by
  apply List.ext_getElem?
  intro j
  by_cases hj : j < N
  · by_cases hk : j = k
    · subst hk
      rw [List.getElem?_set_self (by simpa [wl] using hj), wl_get hj]
      simp [va_up]
    · rw [List.getElem?_set_ne (Ne.symm hk), wl_get hj, wl_get hj]
      simp [va_up, hk]
  · rw [List.getElem?_eq_none (by simpa [wl] using Nat.le_of_not_lt hj), List.getElem?_eq_none (by simpa [wl] using Nat.le_of_not_lt hj)]
theorem wl_D {N : Nat} {ad : Nat → Nat} {E E' : Nat → va_E} {A B : Nat → Prop} (h : va_D A (wl N ad E)) (hAB : ∀ q, A q → B q) : va_D B (wl N ad E') := by
  refine ⟨fun i j p q hi hj hpq => ?_, fun k q hk => ?_⟩
  · obtain ⟨i1, rfl⟩ := wl_some hi
    obtain ⟨j1, rfl⟩ := wl_some hj
    exact h.1 i j _ _ (wl_get i1) (wl_get j1) hpq
  · obtain ⟨k1, rfl⟩ := wl_some hk
    exact hAB _ (h.2 k (ad k, E k) (wl_get k1))
theorem wl_A {N : Nat} {ad : Nat → Nat} {E : Nat → va_E} {sz q : Nat} (h : va_A (wl N ad E) sz q) : (∃ k, k < N ∧ q = ad k) ∨ sz ≤ q := by
  rcases h with ⟨k, e, h⟩ | h
  · obtain ⟨k1, h2⟩ := wl_some h
    exact Or.inl ⟨k, k1, congrArg Prod.fst h2⟩
  · exact Or.inr h
/-- numbers by cell and place; long numbers; references that change -/
abbrev Mem : Type := (Nat → Nat → Int32) × (Nat → Int64) × (Nat → Nat)
/-- a side: how many cells, the kind of each, the length of each row -/
abbrev Sd : Type := Nat × (Nat → Nat) × (Nat → Nat)
def sA (μ : Mem) (k : Nat) (f : Nat → Int32) : Mem := (fun a => if a = k then f else μ.1 a, μ.2)
def sI (μ : Mem) (k j : Nat) (v : Int32) : Mem := sA μ k (upd (μ.1 k) j v)
def sL (μ : Mem) (j : Nat) (v : Int64) : Mem := (μ.1, vp_updL μ.2.1 j v, μ.2.2)
def sR (μ : Mem) (j v : Nat) : Mem := (μ.1, μ.2.1, fun a => if a = j then v else μ.2.2 a)
def e0 : Nat → va_E := fun _ => .inr (0, [])
/-- what stands in a cell, by its kind: 0 Coast, 1 Notes, 2 Past, 3 Reader, 4 State, 5 Wind, 6 FogNets, 7 the reference, 9 long[], 10 boolean[], 11 the ring, 12 the images, 8 int[] -/
def enc (S : Sd) (C : Nat → ClassId) (ad : Nat → Nat) (μ : Mem) (k : Nat) : va_E := match S.2.1 k with
  | 0 => .inr (0, [.int (μ.1 k 0), .int (μ.1 k 1), .int (μ.1 k 2), .int (μ.1 k 3), .int (μ.1 k 4), .ref (ad (k + 1)), .ref (ad (k + 2)), .ref (ad (k + 3)), .ref (ad (k + 4)), .ref (ad (k + 5)), .ref (ad (k + 6)), .ref (ad (k + 7)), .ref (ad (k + 8)), .ref (ad (k + 9)), .ref (ad (k + 10))])
  | 1 => .inr (1, [.ref (ad (k + 1)), .ref (ad (k + 2)), .ref (ad (k + 3)), .int (μ.1 k 3)])
  | 2 => .inr (2, [.ref (ad (k + 1)), .int (μ.1 k 1), .int (μ.1 k 2)])
  | 3 => .inr (3, [.ref (ad (k + 1)), .int (μ.1 k 1), .int (μ.1 k 2), .int (μ.1 k 3), .int (μ.1 k 4), .int (μ.1 k 5), .int (μ.1 k 6), .int (μ.1 k 7)])
  | 4 => .inr (4, [.int (μ.1 k 0), .int (μ.1 k 1), .int (μ.1 k 2), .int (μ.1 k 3), .int (μ.1 k 4), .ref (ad (k + 1)), .ref (ad (k + 2)), .ref (ad (k + 3)), .ref (ad (k + 4)), .ref (ad (k + 5))])
  | 5 => .inr (5, [.ref (ad (k + 1)), .ref (ad (k + 2)), .int (μ.1 k 2)])
  | 6 => .inr (6, [.ref (ad 1), .ref (ad (μ.2.2 0)), .ref (ad (μ.2.2 1)), .ref (ad 25), .ref (ad 31), .ref (ad 37), .ref (ad 38), .ref (ad 41), .ref (ad 223), .ref (ad 236), .int (μ.1 k 10), .ref (ad 237), .ref (ad 241), .ref (ad 245)])
  | 11 => .inl (C 3, S.2.2 k, .inr (.inr (.inr (.inr (fun j => some (ad (43 + 6 * j)))))))
  | 12 => .inl (C 3, S.2.2 k, .inr (.inr (.inr (.inr (fun j => some (ad (224 + 6 * j)))))))
  | _ => .inl (C 0, S.2.2 k, .inl (μ.1 k))
def tyL (C : Nat → ClassId) : List (ClassId × FieldType) := [(C 0, .int), (C 0, .int), (C 0, .int), (C 3, .object RX4)]
/-- the two references of FogNets that change are coasts -/
def wfS (S : Sd) (μ : Mem) : Prop := S.2.1 0 = 6 → S.2.1 (μ.2.2 0) = 0 ∧ S.2.1 (μ.2.2 1) = 0
def nestL : List (String × Nat × MethodName × String) := [("FogNets", 9, yX3_init, "FogNets"), ("FogNets", 18, yX0_init, "FogNets"), ("FogNets", 28, yX4_init, "FogNets"), ("FogNets", 42, yX5_init, "FogNets"), ("FogNets$Past", 24, yX4_init, "FogNets"), ("FogNets$Reader", 38, yX6_put, "FogNets"), ("FogNets$Reader", 140, yX6_within, "FogNets"), ("FogNets$Coast", 64, yX6_at, "FogNets"), ("FogNets$Wind", 38, yX6_put, "FogNets"), ("FogNets$State", 121, yX6_at, "FogNets"), ("FogNets$State", 141, yX6_put, "FogNets"), ("FogNets$Wind", 31, yX6_at, "FogNets"), ("FogNets$Notes", 29, yX6_put, "FogNets")]
def NW (U : State) : Prop := ∀ q ∈ nestL, va_Nw (.methodLinkNest q.1 q.2.1 q.2.2.1 q.2.2.2) U
theorem NW.warm {s U : State} (hW : s.WarmedH U.vm) (h : NW s) : NW U := fun q hq => va_Nw.warmM hW (h q hq)
theorem NW.same {u U : State} (hv : u.vm = U.vm) (h : NW u) : NW U := fun q hq => va_Nw.same rfl hv (h q hq)
/-- the script: it lies at ad 249, has ad 250 numbers, which are told by the addresses behind; nothing writes there -/
def sxx (ad : Nat → Nat) (j : Nat) : Int32 := Int32.ofNat (ad (251 + j))
def sX (ad : Nat → Nat) : Nat × (Nat → Int32) := (ad 250, sxx ad)
def SXp (S : Sd) (ad : Nat → Nat) (A : Nat → Prop) (U : State) (H : Heap) : Prop := S.1 ≠ 0 → (va_X (ad 249) (ad 250) (sxx ad) U H ∧ ad 249 < H.size ∧ ¬ A (ad 249))
def inS (S : Sd) (ad : Nat → Nat) : Nat → Prop := fun q => ∃ k, k < S.1 ∧ q = ad k
def FU (S : Sd) (D : va_G) (C : Nat → ClassId) (ad : Nat → Nat) (μ : Mem) (U : State) : Prop :=
  wfS S μ ∧ va_P D vwCl (wl S.1 ad (enc S C ad μ)) U.heap ∧ va_K D vwCl (tyL C) U ∧ NW U ∧ va_D (fun _ => True) (wl S.1 ad e0) ∧ SXp S ad (inS S ad) U U.heap
def FW (S : Sd) (D : va_G) (C : Nat → ClassId) (ad : Nat → Nat) (A : Nat → Prop) (H0 : Heap) (μ : Mem) (H : Heap) (locs : List Loc) : Prop :=
  wfS S μ ∧ va_P D vwCl (wl S.1 ad (enc S C ad μ)) H ∧ va_S A H0 H locs
def CX (S : Sd) (D : va_G) (C : Nat → ClassId) (ad : Nat → Nat) (A : Nat → Prop) (H0 : Heap) (p : Program) (s : State) (m : MethodId) (args : Array Value) (c : Code) (cc : ByteArray) (nL : Nat) (own : String) : Prop :=
  p.tables.exec = Jvm.exec ∧ c.code = cc ∧ c.maxLocals = nL ∧ s.vm.findClass own = some m.cls ∧ (∀ w ∈ kW, w.before args s = true) ∧ NW s ∧ va_K D vwCl (tyL C) s ∧ va_D A (wl S.1 ad e0) ∧ (∀ k, S.2.1 k < 99 → k < S.1) ∧ (∀ q, H0.size ≤ q → A q) ∧ SXp S ad A s H0
theorem FU.blind {S : Sd} {D : va_G} {C : Nat → ClassId} {ad : Nat → Nat} {μ : Mem} {av : List Value} {sz : Nat} : FrameBlind (va_Pc av (fun U => U.heap.size = sz ∧ FU S D C ad μ U)) := by
  intro a U g mk q
  obtain ⟨q0, q1, q2, q3, q4, q5, q6, q7⟩ := q
  exact ⟨q0, q1, q2, q3, va_K.moved (u := U) (U := U.calling g mk a) (Vm.Alike.refl U.vm) q4, NW.same (u := U) (U := U.calling g mk a) rfl q5, q6, fun h0 => ⟨va_X.moved (u := U) (U := U.calling g mk a) (Vm.Alike.refl U.vm) (q7 h0).1, (q7 h0).2⟩⟩
abbrev WS (y : MethodName) (b : ByteArray) (n : Nat) (r : Option FieldType) : List Cond := Cond.code y b n r :: kW
/-- the contracts: from every memory, wherever it lies, the method returns, and Q holds of its answer and the new memory -/
def Mi (S : Sd) (l : Launch) (y : MethodName) (b : ByteArray) (n : Nat) (r : Option FieldType) (rm : Room) (D : va_G) (C : Nat → ClassId) (ad : Nat → Nat) (av : List Value) (μ : Mem) (Q : Int32 → Mem → Prop) : Prop :=
  ∀ sz : Nat, Met l y (WS y b n r) rm (va_Pc av (fun U => U.heap.size = sz ∧ FU S D C ad μ U)) (va_Qi Q (FU S D C ad) (va_A (wl S.1 ad e0) sz)) 0 0 (va_A (wl S.1 ad e0) sz)
def Ml (S : Sd) (l : Launch) (y : MethodName) (b : ByteArray) (n : Nat) (r : Option FieldType) (rm : Room) (D : va_G) (C : Nat → ClassId) (ad : Nat → Nat) (av : List Value) (μ : Mem) (Q : Int64 → Mem → Prop) : Prop :=
  ∀ sz : Nat, Met l y (WS y b n r) rm (va_Pc av (fun U => U.heap.size = sz ∧ FU S D C ad μ U)) (va_Ql Q (FU S D C ad) (va_A (wl S.1 ad e0) sz)) 0 0 (va_A (wl S.1 ad e0) sz)
def Mv (S : Sd) (l : Launch) (y : MethodName) (b : ByteArray) (n : Nat) (r : Option FieldType) (rm : Room) (D : va_G) (C : Nat → ClassId) (ad : Nat → Nat) (av : List Value) (μ : Mem) (Q : Mem → Prop) : Prop :=
  ∀ sz : Nat, Met l y (WS y b n r) rm (va_Pc av (fun U => U.heap.size = sz ∧ FU S D C ad μ U)) (va_Qv Q (FU S D C ad) (va_A (wl S.1 ad e0) sz)) 0 0 (va_A (wl S.1 ad e0) sz)
/-- the answer is a cell of the memory, by its number, or null -/
def Mq (S : Sd) (l : Launch) (y : MethodName) (b : ByteArray) (n : Nat) (r : Option FieldType) (rm : Room) (D : va_G) (C : Nat → ClassId) (ad : Nat → Nat) (av : List Value) (μ : Mem) (Q : Option Nat → Mem → Prop) : Prop :=
  ∀ sz : Nat, Met l y (WS y b n r) rm (va_Pc av (fun U => U.heap.size = sz ∧ FU S D C ad μ U)) (va_Qq (fun (o : Option Nat) (u : Option Nat × Mem) => o = u.1.map ad ∧ Q u.1 u.2) (fun u => FU S D C ad u.2) (va_A (wl S.1 ad e0) sz)) 0 0 (va_A (wl S.1 ad e0) sz)
