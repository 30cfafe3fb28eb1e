/-! ===== the walk over this memory: WB, the machine at a place with these locals, this stack, this memory, comes to its end ===== -/
abbrev Ctx : Type := (Nat → Prop) × Program × Env × State × MethodId × Array Value × List Frame × Method × Code × (State → Prop)
def WBG (l : Launch) (R : Room) (K : Ctx) (n c0 s0 : Nat) (P : Heap → List Loc → Prop) (pc : Nat) (lv : List (Nat × Value)) (st : List Value) : Prop :=
  ∀ (H : Heap) (locs : List Loc), P H locs → ∀ ls : Array Slot, lv_has ls n lv → W K.2.1 l K.2.2.1 R K.2.2.2.1 K.2.2.2.2.1 K.2.2.2.2.2.1 K.2.2.2.2.2.2.1 K.2.2.2.2.2.2.2.1 K.2.2.2.2.2.2.2.2.1 H locs c0 s0 K.2.2.2.2.2.2.2.2.2 (F0 K.2.2.2.2.1 pc ls st)
abbrev WB (S : Sd) (l : Launch) (D : va_G) (C : Nat → ClassId) (ad : Nat → Nat) (R : Room) (K : Ctx) (n : Nat) (μ : Mem) (pc : Nat) (lv : List (Nat × Value)) (st : List Value) : Prop :=
  WBG l R K n 0 0 (FW S D C ad K.1 K.2.2.2.1.heap μ) pc lv st
abbrev WC (S : Sd) (l : Launch) (D : va_G) (C : Nat → ClassId) (ad : Nat → Nat) (R : Room) (K : Ctx) (n c0 s0 : Nat) (μ : Mem) (pc : Nat) (lv : List (Nat × Value)) (st : List Value) : Prop :=
  WBG l R K n c0 s0 (FW S D C ad K.1 K.2.2.2.1.heap μ) pc lv st
abbrev CK (S : Sd) (D : va_G) (C : Nat → ClassId) (ad : Nat → Nat) (K : Ctx) (cc : ByteArray) (n : Nat) (own : String) : Prop :=
  CX S D C ad K.1 K.2.2.2.1.heap K.2.1 K.2.2.2.1 K.2.2.2.2.1 K.2.2.2.2.2.1 K.2.2.2.2.2.2.2.2.1 cc n own
section WALK
variable {S : Sd} {l : Launch} {D : va_G} {C : Nat → ClassId} {ad : Nat → Nat} {R : Room} {K : Ctx} {n : Nat} {μ : Mem} {pc : Nat} {lv lv' : List (Nat × Value)} {st : List Value} {cc : ByteArray} {own : String} {c0 s0 : Nat} {P : Heap → List Loc → Prop}
theorem b_sub (ks : List Nat) (h : lv_pick lv ks = lv') (kk : WBG l R K n c0 s0 P pc lv' st) : WBG l R K n c0 s0 P pc lv st :=
  fun H locs hw ls hl => kk H locs hw ls (lv_sub hl ks h)
theorem b_at (h : pc = pc) (kk : WBG l R K n c0 s0 P pc lv st) : WBG l R K n c0 s0 P pc lv st := kk
theorem b_topi {x : Int32} (kk : ∀ y : Int32, y = x → WBG l R K n c0 s0 P pc lv (.int y :: st)) : WBG l R K n c0 s0 P pc lv (.int x :: st) := kk x rfl
theorem b_topl {x : Int64} (kk : ∀ y : Int64, y = x → WBG l R K n c0 s0 P pc lv (.long y :: st)) : WBG l R K n c0 s0 P pc lv (.long x :: st) := kk x rfl

theorem b_iload_n (X : CK S D C ad K cc n own) {k : Fin 4} {i : Nat} {x : Int32} (hdg : decode cc pc = .ok (.iload_n k, 1)) (hi : (k : Nat) = i) (q : Nat) (hq : lv[q]? = some (i, .int x)) (kk : WBG l R K n c0 s0 P (pc + 1) lv (.int x :: st)) : WBG l R K n c0 s0 P pc lv st :=
  fun H locs hw ls hl => lv_iload_n X.1 X.2.1 hdg hi (lv_at hl q hq) (kk H locs hw ls hl)
theorem b_iload (X : CK S D C ad K cc n own) {i : Nat} {x : Int32} (hdg : decode cc pc = .ok (.iload i, 2)) (q : Nat) (hq : lv[q]? = some (i, .int x)) (kk : WBG l R K n c0 s0 P (pc + 2) lv (.int x :: st)) : WBG l R K n c0 s0 P pc lv st :=
  fun H locs hw ls hl => lv_iload X.1 X.2.1 hdg (lv_at hl q hq) (kk H locs hw ls hl)
theorem b_lload_n (X : CK S D C ad K cc n own) {k : Fin 4} {i : Nat} {x : Int64} (hdg : decode cc pc = .ok (.lload_n k, 1)) (hi : (k : Nat) = i) (q : Nat) (hq : lv[q]? = some (i, .long x)) (kk : WBG l R K n c0 s0 P (pc + 1) lv (.long x :: st)) : WBG l R K n c0 s0 P pc lv st :=
  fun H locs hw ls hl => lv_lload_n X.1 X.2.1 hdg hi (lv_at hl q hq) (kk H locs hw ls hl)
theorem b_lload (X : CK S D C ad K cc n own) {i : Nat} {x : Int64} (hdg : decode cc pc = .ok (.lload i, 2)) (q : Nat) (hq : lv[q]? = some (i, .long x)) (kk : WBG l R K n c0 s0 P (pc + 2) lv (.long x :: st)) : WBG l R K n c0 s0 P pc lv st :=
  fun H locs hw ls hl => lv_lload X.1 X.2.1 hdg (lv_at hl q hq) (kk H locs hw ls hl)
theorem b_aload_n (X : CK S D C ad K cc n own) {k : Fin 4} {i : Nat} {x : Nat} (hdg : decode cc pc = .ok (.aload_n k, 1)) (hi : (k : Nat) = i) (q : Nat) (hq : lv[q]? = some (i, .ref x)) (kk : WBG l R K n c0 s0 P (pc + 1) lv (.ref x :: st)) : WBG l R K n c0 s0 P pc lv st :=
  fun H locs hw ls hl => lv_aload_n X.1 X.2.1 hdg hi (lv_at hl q hq) (kk H locs hw ls hl)
theorem b_aload (X : CK S D C ad K cc n own) {i : Nat} {x : Nat} (hdg : decode cc pc = .ok (.aload i, 2)) (q : Nat) (hq : lv[q]? = some (i, .ref x)) (kk : WBG l R K n c0 s0 P (pc + 2) lv (.ref x :: st)) : WBG l R K n c0 s0 P pc lv st :=
  fun H locs hw ls hl => lv_aload X.1 X.2.1 hdg (lv_at hl q hq) (kk H locs hw ls hl)
theorem b_istore_n (X : CK S D C ad K cc n own) {k : Fin 4} {i : Nat} {x : Int32} (hdg : decode cc pc = .ok (.istore_n k, 1)) (hi : (k : Nat) = i) (hn : i < n) (hl0 : (i, Value.int x) :: lv.filter (fun q => !(q.1 == i) && !(q.1 + 1 == i && q.2.category == 2)) = lv') (kk : WBG l R K n c0 s0 P (pc + 1) lv' st) : WBG l R K n c0 s0 P pc lv (.int x :: st) :=
  fun H locs hw ls hl => lv_istore_n X.1 X.2.1 hdg hi hl hn hl0 (fun ls hl => kk H locs hw ls hl)
theorem b_istore (X : CK S D C ad K cc n own) {i : Nat} {x : Int32} (hdg : decode cc pc = .ok (.istore i, 2)) (hn : i < n) (hl0 : (i, Value.int x) :: lv.filter (fun q => !(q.1 == i) && !(q.1 + 1 == i && q.2.category == 2)) = lv') (kk : WBG l R K n c0 s0 P (pc + 2) lv' st) : WBG l R K n c0 s0 P pc lv (.int x :: st) :=
  fun H locs hw ls hl => lv_istore X.1 X.2.1 hdg hl hn hl0 (fun ls hl => kk H locs hw ls hl)
theorem b_lstore_n (X : CK S D C ad K cc n own) {k : Fin 4} {i : Nat} {x : Int64} (hdg : decode cc pc = .ok (.lstore_n k, 1)) (hi : (k : Nat) = i) (hn : i + 1 < n) (hl0 : (i, Value.long x) :: lv.filter (fun q => !(q.1 == i) && (!(q.1 == i + 1) && !(q.1 + 1 == i && q.2.category == 2))) = lv') (kk : WBG l R K n c0 s0 P (pc + 1) lv' st) : WBG l R K n c0 s0 P pc lv (.long x :: st) :=
  fun H locs hw ls hl => lv_lstore_n X.1 X.2.1 hdg hi hl hn hl0 (fun ls hl => kk H locs hw ls hl)
theorem b_lstore (X : CK S D C ad K cc n own) {i : Nat} {x : Int64} (hdg : decode cc pc = .ok (.lstore i, 2)) (hn : i + 1 < n) (hl0 : (i, Value.long x) :: lv.filter (fun q => !(q.1 == i) && (!(q.1 == i + 1) && !(q.1 + 1 == i && q.2.category == 2))) = lv') (kk : WBG l R K n c0 s0 P (pc + 2) lv' st) : WBG l R K n c0 s0 P pc lv (.long x :: st) :=
  fun H locs hw ls hl => lv_lstore X.1 X.2.1 hdg hl hn hl0 (fun ls hl => kk H locs hw ls hl)
theorem b_astore_n (X : CK S D C ad K cc n own) {k : Fin 4} {i : Nat} {x : Nat} (hdg : decode cc pc = .ok (.astore_n k, 1)) (hi : (k : Nat) = i) (hn : i < n) (hl0 : (i, Value.ref x) :: lv.filter (fun q => !(q.1 == i) && !(q.1 + 1 == i && q.2.category == 2)) = lv') (kk : WBG l R K n c0 s0 P (pc + 1) lv' st) : WBG l R K n c0 s0 P pc lv (.ref x :: st) :=
  fun H locs hw ls hl => lv_astore_n X.1 X.2.1 hdg hi hl hn hl0 (fun ls hl => kk H locs hw ls hl)
theorem b_astore (X : CK S D C ad K cc n own) {i : Nat} {x : Nat} (hdg : decode cc pc = .ok (.astore i, 2)) (hn : i < n) (hl0 : (i, Value.ref x) :: lv.filter (fun q => !(q.1 == i) && !(q.1 + 1 == i && q.2.category == 2)) = lv') (kk : WBG l R K n c0 s0 P (pc + 2) lv' st) : WBG l R K n c0 s0 P pc lv (.ref x :: st) :=
  fun H locs hw ls hl => lv_astore X.1 X.2.1 hdg hl hn hl0 (fun ls hl => kk H locs hw ls hl)
theorem b_iinc (X : CK S D C ad K cc n own) {i q : Nat} {z : Int} {x0 x : Int32} (hdg : decode cc pc = .ok (.iinc i z, 3)) (hq : lv[q]? = some (i, .int x0)) (hv : x0 + Int32.ofInt z = x) (hn : i < n) (hl0 : (i, Value.int x) :: lv.filter (fun q => !(q.1 == i) && !(q.1 + 1 == i && q.2.category == 2)) = lv') (kk : WBG l R K n c0 s0 P (pc + 3) lv' st) : WBG l R K n c0 s0 P pc lv st :=
  fun H locs hw ls hl => lv_iinc X.1 X.2.1 hdg hl hq hv hn hl0 (fun ls hl => kk H locs hw ls hl)
theorem b_iconst (X : CK S D C ad K cc n own) {z : Int} {v : Int32} (hdg : decode cc pc = .ok (.iconst z, 1)) (hv : Int32.ofInt z = v) (kk : WBG l R K n c0 s0 P (pc + 1) lv (.int v :: st)) : WBG l R K n c0 s0 P pc lv st :=
  fun H locs hw ls hl => lv_iconst X.1 X.2.1 hdg hv (kk H locs hw ls hl)
theorem b_bipush (X : CK S D C ad K cc n own) {z : Int} {v : Int32} (hdg : decode cc pc = .ok (.bipush z, 2)) (hv : (Int8.ofInt z).toInt32 = v) (kk : WBG l R K n c0 s0 P (pc + 2) lv (.int v :: st)) : WBG l R K n c0 s0 P pc lv st :=
  fun H locs hw ls hl => lv_bipush X.1 X.2.1 hdg hv (kk H locs hw ls hl)
theorem b_sipush (X : CK S D C ad K cc n own) {z : Int} {v : Int32} (hdg : decode cc pc = .ok (.sipush z, 3)) (hv : (Int16.ofInt z).toInt32 = v) (kk : WBG l R K n c0 s0 P (pc + 3) lv (.int v :: st)) : WBG l R K n c0 s0 P pc lv st :=
  fun H locs hw ls hl => lv_sipush X.1 X.2.1 hdg hv (kk H locs hw ls hl)
theorem b_lconst (X : CK S D C ad K cc n own) {z : Fin 2} {v : Int64} (hdg : decode cc pc = .ok (.lconst z, 1)) (hv : Int64.ofNat (z : Nat) = v) (kk : WBG l R K n c0 s0 P (pc + 1) lv (.long v :: st)) : WBG l R K n c0 s0 P pc lv st :=
  fun H locs hw ls hl => lv_lconst X.1 X.2.1 hdg hv (kk H locs hw ls hl)
theorem b_ldc (X : CK S D C ad K cc n own) {i : Nat} {v : Int32} (hc : Cond.constant own i v ∈ kW) (hdg : decode cc pc = .ok (.ldc i, 2)) (kk : WBG l R K n c0 s0 P (pc + 2) lv (.int v :: st)) : WBG l R K n c0 s0 P pc lv st :=
  fun H locs hw ls hl => lv_ldc X.1 X.2.1 X.2.2.2.1 (X.2.2.2.2.1 _ hc) hdg (kk H locs hw ls hl)
theorem b_ldcw (X : CK S D C ad K cc n own) {i : Nat} {v : Int32} (hc : Cond.constant own i v ∈ kW) (hdg : decode cc pc = .ok (.ldc_w i, 3)) (kk : WBG l R K n c0 s0 P (pc + 3) lv (.int v :: st)) : WBG l R K n c0 s0 P pc lv st :=
  fun H locs hw ls hl => lv_ldcw X.1 X.2.1 X.2.2.2.1 (X.2.2.2.2.1 _ hc) hdg (kk H locs hw ls hl)
theorem b_ldc2 (X : CK S D C ad K cc n own) {i : Nat} {v : Int64} (hc : Cond.constantLong own i v ∈ kW) (hdg : decode cc pc = .ok (.ldc2_w i, 3)) (kk : WBG l R K n c0 s0 P (pc + 3) lv (.long v :: st)) : WBG l R K n c0 s0 P pc lv st :=
  fun H locs hw ls hl => lv_ldc2 X.1 X.2.1 X.2.2.2.1 (X.2.2.2.2.1 _ hc) hdg (kk H locs hw ls hl)
theorem b_iadd (X : CK S D C ad K cc n own) {x y : Int32} (hdg : decode cc pc = .ok (.iadd, 1)) (kk : WBG l R K n c0 s0 P (pc + 1) lv (.int (x + y) :: st)) : WBG l R K n c0 s0 P pc lv (.int y :: .int x :: st) :=
  fun H locs hw ls hl => lv_iadd X.1 X.2.1 hdg (kk H locs hw ls hl)
theorem b_isub (X : CK S D C ad K cc n own) {x y : Int32} (hdg : decode cc pc = .ok (.isub, 1)) (kk : WBG l R K n c0 s0 P (pc + 1) lv (.int (x - y) :: st)) : WBG l R K n c0 s0 P pc lv (.int y :: .int x :: st) :=
  fun H locs hw ls hl => lv_isub X.1 X.2.1 hdg (kk H locs hw ls hl)
theorem b_imul (X : CK S D C ad K cc n own) {x y : Int32} (hdg : decode cc pc = .ok (.imul, 1)) (kk : WBG l R K n c0 s0 P (pc + 1) lv (.int (x * y) :: st)) : WBG l R K n c0 s0 P pc lv (.int y :: .int x :: st) :=
  fun H locs hw ls hl => lv_imul X.1 X.2.1 hdg (kk H locs hw ls hl)
theorem b_iand (X : CK S D C ad K cc n own) {x y : Int32} (hdg : decode cc pc = .ok (.iand, 1)) (kk : WBG l R K n c0 s0 P (pc + 1) lv (.int (x &&& y) :: st)) : WBG l R K n c0 s0 P pc lv (.int y :: .int x :: st) :=
  fun H locs hw ls hl => lv_iand X.1 X.2.1 hdg (kk H locs hw ls hl)
theorem b_ior (X : CK S D C ad K cc n own) {x y : Int32} (hdg : decode cc pc = .ok (.ior, 1)) (kk : WBG l R K n c0 s0 P (pc + 1) lv (.int (x ||| y) :: st)) : WBG l R K n c0 s0 P pc lv (.int y :: .int x :: st) :=
  fun H locs hw ls hl => lv_ior X.1 X.2.1 hdg (kk H locs hw ls hl)
theorem b_ixor (X : CK S D C ad K cc n own) {x y : Int32} (hdg : decode cc pc = .ok (.ixor, 1)) (kk : WBG l R K n c0 s0 P (pc + 1) lv (.int (x ^^^ y) :: st)) : WBG l R K n c0 s0 P pc lv (.int y :: .int x :: st) :=
  fun H locs hw ls hl => lv_ixor X.1 X.2.1 hdg (kk H locs hw ls hl)
theorem b_ishl (X : CK S D C ad K cc n own) {x y : Int32} (hdg : decode cc pc = .ok (.ishl, 1)) (kk : WBG l R K n c0 s0 P (pc + 1) lv (.int (x <<< (y &&& 31)) :: st)) : WBG l R K n c0 s0 P pc lv (.int y :: .int x :: st) :=
  fun H locs hw ls hl => lv_ishl X.1 X.2.1 hdg (kk H locs hw ls hl)
theorem b_ishr (X : CK S D C ad K cc n own) {x y : Int32} (hdg : decode cc pc = .ok (.ishr, 1)) (kk : WBG l R K n c0 s0 P (pc + 1) lv (.int (x >>> (y &&& 31)) :: st)) : WBG l R K n c0 s0 P pc lv (.int y :: .int x :: st) :=
  fun H locs hw ls hl => lv_ishr X.1 X.2.1 hdg (kk H locs hw ls hl)
theorem b_idiv (X : CK S D C ad K cc n own) {x y : Int32} (hdg : decode cc pc = .ok (.idiv, 1)) (hne : ¬ y = 0) (kk : WBG l R K n c0 s0 P (pc + 1) lv (.int (x / y) :: st)) : WBG l R K n c0 s0 P pc lv (.int y :: .int x :: st) :=
  fun H locs hw ls hl => lv_idiv X.1 X.2.1 hdg hne (kk H locs hw ls hl)
theorem b_irem (X : CK S D C ad K cc n own) {x y : Int32} (hdg : decode cc pc = .ok (.irem, 1)) (hne : ¬ y = 0) (kk : WBG l R K n c0 s0 P (pc + 1) lv (.int (x - x / y * y) :: st)) : WBG l R K n c0 s0 P pc lv (.int y :: .int x :: st) :=
  fun H locs hw ls hl => lv_irem X.1 X.2.1 hdg hne (kk H locs hw ls hl)
theorem b_ladd (X : CK S D C ad K cc n own) {x y : Int64} (hdg : decode cc pc = .ok (.ladd, 1)) (kk : WBG l R K n c0 s0 P (pc + 1) lv (.long (x + y) :: st)) : WBG l R K n c0 s0 P pc lv (.long y :: .long x :: st) :=
  fun H locs hw ls hl => lv_ladd X.1 X.2.1 hdg (kk H locs hw ls hl)
theorem b_lsub (X : CK S D C ad K cc n own) {x y : Int64} (hdg : decode cc pc = .ok (.lsub, 1)) (kk : WBG l R K n c0 s0 P (pc + 1) lv (.long (x - y) :: st)) : WBG l R K n c0 s0 P pc lv (.long y :: .long x :: st) :=
  fun H locs hw ls hl => lv_lsub X.1 X.2.1 hdg (kk H locs hw ls hl)
theorem b_lmul (X : CK S D C ad K cc n own) {x y : Int64} (hdg : decode cc pc = .ok (.lmul, 1)) (kk : WBG l R K n c0 s0 P (pc + 1) lv (.long (x * y) :: st)) : WBG l R K n c0 s0 P pc lv (.long y :: .long x :: st) :=
  fun H locs hw ls hl => lv_lmul X.1 X.2.1 hdg (kk H locs hw ls hl)
theorem b_land (X : CK S D C ad K cc n own) {x y : Int64} (hdg : decode cc pc = .ok (.land, 1)) (kk : WBG l R K n c0 s0 P (pc + 1) lv (.long (x &&& y) :: st)) : WBG l R K n c0 s0 P pc lv (.long y :: .long x :: st) :=
  fun H locs hw ls hl => lv_land X.1 X.2.1 hdg (kk H locs hw ls hl)
theorem b_lor (X : CK S D C ad K cc n own) {x y : Int64} (hdg : decode cc pc = .ok (.lor, 1)) (kk : WBG l R K n c0 s0 P (pc + 1) lv (.long (x ||| y) :: st)) : WBG l R K n c0 s0 P pc lv (.long y :: .long x :: st) :=
  fun H locs hw ls hl => lv_lor X.1 X.2.1 hdg (kk H locs hw ls hl)
theorem b_ldiv (X : CK S D C ad K cc n own) {x y : Int64} (hdg : decode cc pc = .ok (.ldiv, 1)) (hne : ¬ y = 0) (kk : WBG l R K n c0 s0 P (pc + 1) lv (.long (x / y) :: st)) : WBG l R K n c0 s0 P pc lv (.long y :: .long x :: st) :=
  fun H locs hw ls hl => lv_ldiv X.1 X.2.1 hdg hne (kk H locs hw ls hl)
theorem b_lrem (X : CK S D C ad K cc n own) {x y : Int64} (hdg : decode cc pc = .ok (.lrem, 1)) (hne : ¬ y = 0) (kk : WBG l R K n c0 s0 P (pc + 1) lv (.long (x - x / y * y) :: st)) : WBG l R K n c0 s0 P pc lv (.long y :: .long x :: st) :=
  fun H locs hw ls hl => lv_lrem X.1 X.2.1 hdg hne (kk H locs hw ls hl)
theorem b_iushr (X : CK S D C ad K cc n own) {x y : Int32} (hdg : decode cc pc = .ok (.iushr, 1)) (kk : WBG l R K n c0 s0 P (pc + 1) lv (.int ((x.toUInt32 >>> (y.toUInt32 &&& Int32.toUInt32 31)).toInt32) :: st)) : WBG l R K n c0 s0 P pc lv (.int y :: .int x :: st) :=
  fun H locs hw ls hl => lv_iushr X.1 X.2.1 hdg rfl (kk H locs hw ls hl)
theorem b_lushr (X : CK S D C ad K cc n own) {x : Int64} {y : Int32} (hdg : decode cc pc = .ok (.lushr, 1)) (kk : WBG l R K n c0 s0 P (pc + 1) lv (.long ((x.toUInt64 >>> (y.toInt64.toUInt64 &&& Int64.toUInt64 63)).toInt64) :: st)) : WBG l R K n c0 s0 P pc lv (.int y :: .long x :: st) :=
  fun H locs hw ls hl => lv_lushr X.1 X.2.1 hdg rfl (kk H locs hw ls hl)
theorem b_lshl (X : CK S D C ad K cc n own) {x : Int64} {y : Int32} (hdg : decode cc pc = .ok (.lshl, 1)) (kk : WBG l R K n c0 s0 P (pc + 1) lv (.long (x <<< (y.toInt64 &&& 63)) :: st)) : WBG l R K n c0 s0 P pc lv (.int y :: .long x :: st) :=
  fun H locs hw ls hl => lv_lshl X.1 X.2.1 hdg rfl (kk H locs hw ls hl)
theorem b_lshr (X : CK S D C ad K cc n own) {x : Int64} {y : Int32} (hdg : decode cc pc = .ok (.lshr, 1)) (kk : WBG l R K n c0 s0 P (pc + 1) lv (.long (x >>> (y.toInt64 &&& 63)) :: st)) : WBG l R K n c0 s0 P pc lv (.int y :: .long x :: st) :=
  fun H locs hw ls hl => lv_lshr X.1 X.2.1 hdg rfl (kk H locs hw ls hl)
theorem b_i2l (X : CK S D C ad K cc n own) {x : Int32} (hdg : decode cc pc = .ok (.i2l, 1)) (kk : WBG l R K n c0 s0 P (pc + 1) lv (.long x.toInt64 :: st)) : WBG l R K n c0 s0 P pc lv (.int x :: st) :=
  fun H locs hw ls hl => lv_i2l X.1 X.2.1 hdg rfl (kk H locs hw ls hl)
theorem b_l2i (X : CK S D C ad K cc n own) {x : Int64} (hdg : decode cc pc = .ok (.l2i, 1)) (kk : WBG l R K n c0 s0 P (pc + 1) lv (.int x.toInt32 :: st)) : WBG l R K n c0 s0 P pc lv (.long x :: st) :=
  fun H locs hw ls hl => lv_l2i X.1 X.2.1 hdg rfl (kk H locs hw ls hl)
theorem b_lcmp (X : CK S D C ad K cc n own) {x y : Int64} (hdg : decode cc pc = .ok (.lcmp, 1)) (kk : WBG l R K n c0 s0 P (pc + 1) lv (.int (lg_cmp x y) :: st)) : WBG l R K n c0 s0 P pc lv (.long y :: .long x :: st) :=
  fun H locs hw ls hl => W.lcmp X.1 X.2.1 hdg (kk H locs hw ls hl)
theorem b_dup (X : CK S D C ad K cc n own) {v : Value} (hdg : decode cc pc = .ok (.dup, 1)) (hv : v.category = 1) (kk : WBG l R K n c0 s0 P (pc + 1) lv (v :: v :: st)) : WBG l R K n c0 s0 P pc lv (v :: st) :=
  fun H locs hw ls hl => lv_dup X.1 X.2.1 hdg hv (kk H locs hw ls hl)
theorem b_pop (X : CK S D C ad K cc n own) {v : Value} (hdg : decode cc pc = .ok (.pop, 1)) (hv : v.category = 1) (kk : WBG l R K n c0 s0 P (pc + 1) lv st) : WBG l R K n c0 s0 P pc lv (v :: st) :=
  fun H locs hw ls hl => lv_pop X.1 X.2.1 hdg hv (kk H locs hw ls hl)
theorem b_dup2 (X : CK S D C ad K cc n own) {v w : Value} (hdg : decode cc pc = .ok (.dup2, 1)) (hv : v.category = 1) (hw0 : w.category = 1) (kk : WBG l R K n c0 s0 P (pc + 1) lv (v :: w :: v :: w :: st)) : WBG l R K n c0 s0 P pc lv (v :: w :: st) :=
  fun H locs hw ls hl => lv_dup2_11 X.1 X.2.1 hdg hv hw0 (kk H locs hw ls hl)
theorem b_null (X : CK S D C ad K cc n own)  (hdg : decode cc pc = .ok (.aconst_null, 1)) (kk : WBG l R K n c0 s0 P (pc + 1) lv (.null :: st)) : WBG l R K n c0 s0 P pc lv st :=
  fun H locs hw ls hl => lv_null X.1 X.2.1 hdg (kk H locs hw ls hl)
theorem b_goto (X : CK S D C ad K cc n own) {z : Int} {t : Nat} (hdg : decode cc pc = .ok (.goto z, 3)) (ht : (pc : Int) + z = (t : Int)) (kk : WBG l R K n c0 s0 P t lv st) : WBG l R K n c0 s0 P pc lv st :=
  fun H locs hw ls hl => lv_goto X.1 X.2.1 hdg ht (kk H locs hw ls hl)
theorem b_icmp_eq (X : CK S D C ad K cc n own) {x y : Int32} {z : Int} {t : Nat} (hdg : decode cc pc = .ok (.if_icmp .eq z, 3)) (ht : (pc : Int) + z = (t : Int)) (kt : x = y → WBG l R K n c0 s0 P t lv st) (kf : ¬ x = y → WBG l R K n c0 s0 P (pc + 3) lv st) : WBG l R K n c0 s0 P pc lv (.int y :: .int x :: st) :=
  fun H locs hw ls hl => lv_icmp_eq X.1 X.2.1 hdg ht (fun q => kt q H locs hw ls hl) (fun q => kf q H locs hw ls hl)
theorem b_icmp_ne (X : CK S D C ad K cc n own) {x y : Int32} {z : Int} {t : Nat} (hdg : decode cc pc = .ok (.if_icmp .ne z, 3)) (ht : (pc : Int) + z = (t : Int)) (kt : ¬ x = y → WBG l R K n c0 s0 P t lv st) (kf : x = y → WBG l R K n c0 s0 P (pc + 3) lv st) : WBG l R K n c0 s0 P pc lv (.int y :: .int x :: st) :=
  fun H locs hw ls hl => lv_icmp_ne X.1 X.2.1 hdg ht (fun q => kt q H locs hw ls hl) (fun q => kf q H locs hw ls hl)
theorem b_icmp_lt (X : CK S D C ad K cc n own) {x y : Int32} {z : Int} {t : Nat} (hdg : decode cc pc = .ok (.if_icmp .lt z, 3)) (ht : (pc : Int) + z = (t : Int)) (kt : x < y → WBG l R K n c0 s0 P t lv st) (kf : ¬ x < y → WBG l R K n c0 s0 P (pc + 3) lv st) : WBG l R K n c0 s0 P pc lv (.int y :: .int x :: st) :=
  fun H locs hw ls hl => lv_icmp_lt X.1 X.2.1 hdg ht (fun q => kt q H locs hw ls hl) (fun q => kf q H locs hw ls hl)
theorem b_icmp_ge (X : CK S D C ad K cc n own) {x y : Int32} {z : Int} {t : Nat} (hdg : decode cc pc = .ok (.if_icmp .ge z, 3)) (ht : (pc : Int) + z = (t : Int)) (kt : y ≤ x → WBG l R K n c0 s0 P t lv st) (kf : ¬ y ≤ x → WBG l R K n c0 s0 P (pc + 3) lv st) : WBG l R K n c0 s0 P pc lv (.int y :: .int x :: st) :=
  fun H locs hw ls hl => lv_icmp_ge X.1 X.2.1 hdg ht (fun q => kt q H locs hw ls hl) (fun q => kf q H locs hw ls hl)
theorem b_icmp_gt (X : CK S D C ad K cc n own) {x y : Int32} {z : Int} {t : Nat} (hdg : decode cc pc = .ok (.if_icmp .gt z, 3)) (ht : (pc : Int) + z = (t : Int)) (kt : y < x → WBG l R K n c0 s0 P t lv st) (kf : ¬ y < x → WBG l R K n c0 s0 P (pc + 3) lv st) : WBG l R K n c0 s0 P pc lv (.int y :: .int x :: st) :=
  fun H locs hw ls hl => lv_icmp_gt X.1 X.2.1 hdg ht (fun q => kt q H locs hw ls hl) (fun q => kf q H locs hw ls hl)
theorem b_icmp_le (X : CK S D C ad K cc n own) {x y : Int32} {z : Int} {t : Nat} (hdg : decode cc pc = .ok (.if_icmp .le z, 3)) (ht : (pc : Int) + z = (t : Int)) (kt : x ≤ y → WBG l R K n c0 s0 P t lv st) (kf : ¬ x ≤ y → WBG l R K n c0 s0 P (pc + 3) lv st) : WBG l R K n c0 s0 P pc lv (.int y :: .int x :: st) :=
  fun H locs hw ls hl => lv_icmp_le X.1 X.2.1 hdg ht (fun q => kt q H locs hw ls hl) (fun q => kf q H locs hw ls hl)
theorem b_if_eq (X : CK S D C ad K cc n own) {x : Int32} {z : Int} {t : Nat} (hdg : decode cc pc = .ok (.ifCond .eq z, 3)) (ht : (pc : Int) + z = (t : Int)) (kt : x = 0 → WBG l R K n c0 s0 P t lv st) (kf : ¬ x = 0 → WBG l R K n c0 s0 P (pc + 3) lv st) : WBG l R K n c0 s0 P pc lv (.int x :: st) :=
  fun H locs hw ls hl => lv_if_eq X.1 X.2.1 hdg ht (fun q => kt q H locs hw ls hl) (fun q => kf q H locs hw ls hl)
theorem b_if_ne (X : CK S D C ad K cc n own) {x : Int32} {z : Int} {t : Nat} (hdg : decode cc pc = .ok (.ifCond .ne z, 3)) (ht : (pc : Int) + z = (t : Int)) (kt : ¬ x = 0 → WBG l R K n c0 s0 P t lv st) (kf : x = 0 → WBG l R K n c0 s0 P (pc + 3) lv st) : WBG l R K n c0 s0 P pc lv (.int x :: st) :=
  fun H locs hw ls hl => lv_if_ne X.1 X.2.1 hdg ht (fun q => kt q H locs hw ls hl) (fun q => kf q H locs hw ls hl)
theorem b_if_lt (X : CK S D C ad K cc n own) {x : Int32} {z : Int} {t : Nat} (hdg : decode cc pc = .ok (.ifCond .lt z, 3)) (ht : (pc : Int) + z = (t : Int)) (kt : x < 0 → WBG l R K n c0 s0 P t lv st) (kf : ¬ x < 0 → WBG l R K n c0 s0 P (pc + 3) lv st) : WBG l R K n c0 s0 P pc lv (.int x :: st) :=
  fun H locs hw ls hl => lv_if_lt X.1 X.2.1 hdg ht (fun q => kt q H locs hw ls hl) (fun q => kf q H locs hw ls hl)
theorem b_if_ge (X : CK S D C ad K cc n own) {x : Int32} {z : Int} {t : Nat} (hdg : decode cc pc = .ok (.ifCond .ge z, 3)) (ht : (pc : Int) + z = (t : Int)) (kt : 0 ≤ x → WBG l R K n c0 s0 P t lv st) (kf : ¬ 0 ≤ x → WBG l R K n c0 s0 P (pc + 3) lv st) : WBG l R K n c0 s0 P pc lv (.int x :: st) :=
  fun H locs hw ls hl => lv_if_ge X.1 X.2.1 hdg ht (fun q => kt q H locs hw ls hl) (fun q => kf q H locs hw ls hl)
theorem b_if_gt (X : CK S D C ad K cc n own) {x : Int32} {z : Int} {t : Nat} (hdg : decode cc pc = .ok (.ifCond .gt z, 3)) (ht : (pc : Int) + z = (t : Int)) (kt : 0 < x → WBG l R K n c0 s0 P t lv st) (kf : ¬ 0 < x → WBG l R K n c0 s0 P (pc + 3) lv st) : WBG l R K n c0 s0 P pc lv (.int x :: st) :=
  fun H locs hw ls hl => lv_if_gt X.1 X.2.1 hdg ht (fun q => kt q H locs hw ls hl) (fun q => kf q H locs hw ls hl)
theorem b_if_le (X : CK S D C ad K cc n own) {x : Int32} {z : Int} {t : Nat} (hdg : decode cc pc = .ok (.ifCond .le z, 3)) (ht : (pc : Int) + z = (t : Int)) (kt : x ≤ 0 → WBG l R K n c0 s0 P t lv st) (kf : ¬ x ≤ 0 → WBG l R K n c0 s0 P (pc + 3) lv st) : WBG l R K n c0 s0 P pc lv (.int x :: st) :=
  fun H locs hw ls hl => lv_if_le X.1 X.2.1 hdg ht (fun q => kt q H locs hw ls hl) (fun q => kf q H locs hw ls hl)
theorem b_ifnonnull (X : CK S D C ad K cc n own) {q : Option Nat} {z : Int} {t : Nat} (hdg : decode cc pc = .ok (.ifnonnull z, 3)) (ht : (pc : Int) + z = (t : Int)) (ks : ∀ b : Nat, q = some b → WBG l R K n c0 s0 P t lv st) (kn : q = none → WBG l R K n c0 s0 P (pc + 3) lv st) : WBG l R K n c0 s0 P pc lv (va_rf (q.map ad) :: st) := by
  intro H locs hw ls hl
  cases q with
  | none => exact lv_ifnonnullN X.1 X.2.1 hdg (kn rfl H locs hw ls hl)
  | some b => exact lv_ifnonnull X.1 X.2.1 hdg ht (ks b rfl H locs hw ls hl)
theorem b_ifnull (X : CK S D C ad K cc n own) {q : Option Nat} {z : Int} {t : Nat} (hdg : decode cc pc = .ok (.ifnull z, 3)) (ht : (pc : Int) + z = (t : Int)) (kn : q = none → WBG l R K n c0 s0 P t lv st) (ks : ∀ b : Nat, q = some b → WBG l R K n c0 s0 P (pc + 3) lv st) : WBG l R K n c0 s0 P pc lv (va_rf (q.map ad) :: st) := by
  intro H locs hw ls hl
  cases q with
  | none => exact lv_ifnullN X.1 X.2.1 hdg ht (kn rfl H locs hw ls hl)
  | some b => exact lv_ifnull X.1 X.2.1 hdg (ks b rfl H locs hw ls hl)
theorem i32ne {x v : Int32} {j : Int} (h : ¬ x = v) (hv : v.toInt = j) : x.toInt ≠ j := fun q => h (Int32.toInt_inj.mp (q.trans hv.symm))
theorem b_tsIn (X : CK S D C ad K cc n own) {x v : Int32} {dflt lo hi j : Int} {offs : Array Int} {len : Nat} {off : Int} {t : Nat} (hdg : decode cc pc = .ok (.tableswitch dflt lo hi offs, len)) (c : x = v) (hv : v.toInt = j) (h1 : ¬ j < lo) (h2 : ¬ hi < j) (ho : offs[(j - lo).toNat]? = some off) (ht : (pc : Int) + off = (t : Int)) (kk : WBG l R K n c0 s0 P t lv st) : WBG l R K n c0 s0 P pc lv (.int x :: st) :=
  fun H locs hw ls hl => lv_tableIn X.1 X.2.1 hdg (by rw [c, hv]; exact h1) (by rw [c, hv]; exact h2) (by rw [c, hv]; exact ho) ht (kk H locs hw ls hl)
theorem b_tsOut (X : CK S D C ad K cc n own) {x : Int32} {dflt lo hi : Int} {offs : Array Int} {len : Nat} {t : Nat} (hdg : decode cc pc = .ok (.tableswitch dflt lo hi offs, len)) (h : x.toInt < lo ∨ hi < x.toInt) (ht : (pc : Int) + dflt = (t : Int)) (kk : WBG l R K n c0 s0 P t lv st) : WBG l R K n c0 s0 P pc lv (.int x :: st) :=
  fun H locs hw ls hl => lv_tableOut X.1 X.2.1 hdg h ht (kk H locs hw ls hl)
theorem b_ls (X : CK S D C ad K cc n own) {x : Int32} {dflt : Int} {ps : Array (Int × Int)} {len : Nat} {off : Int} {t : Nat} (hdg : decode cc pc = .ok (.lookupswitch dflt ps, len)) (hp : (ps.toList.zip (ps.toList.drop 1)).all (fun (a, next) => a.1 < next.1) = true) (ho : Op.lookupswitch.offset ps.toList dflt x.toInt = off) (ht : (pc : Int) + off = (t : Int)) (kk : WBG l R K n c0 s0 P t lv st) : WBG l R K n c0 s0 P pc lv (.int x :: st) :=
  fun H locs hw ls hl => lv_lookup X.1 X.2.1 hdg hp ho ht (kk H locs hw ls hl)
theorem b_iald (X : CK S D C ad K cc n own) {k N : Nat} {i : Int32} (hk : S.2.1 k = 8) (hn : S.2.2 k = N) (hi : vp_in i N) (hdg : decode cc pc = .ok (.iaload, 1)) (kk : WC S l D C ad R K n c0 s0 μ (pc + 1) lv (.int (μ.1 k i.toNatClampNeg) :: st)) : WC S l D C ad R K n c0 s0 μ pc lv (.int i :: .ref (ad k) :: st) :=
  fun H locs hw ls hl => r_iald X hw hk hn hi hdg (kk H locs hw ls hl)
theorem b_iast (X : CK S D C ad K cc n own) {k N : Nat} {i x : Int32} (hk : S.2.1 k = 8) (hn : S.2.2 k = N) (hi : vp_in i N) (hdg : decode cc pc = .ok (.iastore, 1)) (kk : ∀ μ' : Mem, μ' = sI μ k i.toNatClampNeg x → WC S l D C ad R K n c0 s0 μ' (pc + 1) lv st) : WC S l D C ad R K n c0 s0 μ pc lv (.int x :: .int i :: .ref (ad k) :: st) :=
  fun H locs hw ls hl => r_iast X hw hk hn hi hdg (fun μ' e H1 locs1 hw1 => kk μ' e H1 locs1 hw1 ls hl)
theorem b_alen (X : CK S D C ad K cc n own) {k N : Nat} {v : Int32} (hk : S.2.1 k = 8) (hn : S.2.2 k = N) (hv : nI N = v) (hdg : decode cc pc = .ok (.arraylength, 1)) (kk : WC S l D C ad R K n c0 s0 μ (pc + 1) lv (.int v :: st)) : WC S l D C ad R K n c0 s0 μ pc lv (.ref (ad k) :: st) :=
  fun H locs hw ls hl => r_alen X hw hk hn hv hdg (kk H locs hw ls hl)
theorem b_alen12 (X : CK S D C ad K cc n own) {k N : Nat} {v : Int32} (hk : S.2.1 k = 12) (hn : S.2.2 k = N) (hv : nI N = v) (hdg : decode cc pc = .ok (.arraylength, 1)) (kk : WC S l D C ad R K n c0 s0 μ (pc + 1) lv (.int v :: st)) : WC S l D C ad R K n c0 s0 μ pc lv (.ref (ad k) :: st) :=
  fun H locs hw ls hl => r_alen12 X hw hk hn hv hdg (kk H locs hw ls hl)
theorem b_aald11 (X : CK S D C ad K cc n own) {k N : Nat} {i : Int32} (hk : S.2.1 k = 11) (hn : S.2.2 k = N) (hi : vp_in i N) (hdg : decode cc pc = .ok (.aaload, 1)) (kk : WC S l D C ad R K n c0 s0 μ (pc + 1) lv (.ref (ad (43 + 6 * i.toNatClampNeg)) :: st)) : WC S l D C ad R K n c0 s0 μ pc lv (.int i :: .ref (ad k) :: st) :=
  fun H locs hw ls hl => r_aald11 X hw hk hn hi hdg (kk H locs hw ls hl)
theorem b_aald12 (X : CK S D C ad K cc n own) {k N : Nat} {i : Int32} (hk : S.2.1 k = 12) (hn : S.2.2 k = N) (hi : vp_in i N) (hdg : decode cc pc = .ok (.aaload, 1)) (kk : WC S l D C ad R K n c0 s0 μ (pc + 1) lv (.ref (ad (224 + 6 * i.toNatClampNeg)) :: st)) : WC S l D C ad R K n c0 s0 μ pc lv (.int i :: .ref (ad k) :: st) :=
  fun H locs hw ls hl => r_aald12 X hw hk hn hi hdg (kk H locs hw ls hl)
theorem b_copy (X : CK S D C ad K cc n own) {k k1 N index : Nat} {z : Int32} (hk : S.2.1 k = 8) (hk1 : S.2.1 k1 = 8) (hn : S.2.2 k = N) (hn1 : S.2.2 k1 = N) (h0 : ¬ z < 0) (hN : z.toNatClampNeg = N) (hlink : Cond.methodLink own index arraycopyName ∈ kW) (hnat : Cond.native arraycopyName ∈ kW) (hstat : Cond.static arraycopyName ∈ kW) (hini : Cond.initialized "java/lang/System" ∈ kW)
    (hframes : 1 ≤ R.frames) (hlocals : (st.map fun v => v.category).sum + (nativeFrameWords "java/lang/System" "arraycopy" 5 + 11) ≤ R.locals) (hdg : decode cc pc = .ok (.invokestatic index, 3)) (kk : ∀ μ' : Mem, μ' = sA μ k1 (va_cpy (μ.1 k) (μ.1 k1) 0 0 N) → WC S l D C ad R K n c0 s0 μ' (pc + 3) lv st) : WC S l D C ad R K n c0 s0 μ pc lv (.int z :: .int 0 :: .ref (ad k1) :: .int 0 :: .ref (ad k) :: st) :=
  fun H locs hw ls hl => r_copy X hw hk hk1 hn hn1 h0 hN hl.1.symm hlink hnat hstat hini hframes hlocals hdg (fun μ' e H1 locs1 hw1 => kk μ' e H1 locs1 hw1 ls hl)
theorem b_mmax (X : CK S D C ad K cc n own) {x y : Int32} {index : Nat} (hcs : c0 ≤ R.cells ∧ s0 ≤ R.slots) (hlink : Cond.methodLink own index Lib.Math.max.name ∈ kW) (hstat : Cond.static Lib.Math.max.name ∈ kW) (hini : Cond.initialized "java/lang/Math" ∈ kW) (hcode : Cond.code Lib.Math.max.name Lib.Math.max.code 2 (some .int) ∈ kW) (hframes : 1 ≤ R.frames) (hlocals : (st.map fun v => v.category).sum + 13 ≤ R.locals) (hdg : decode cc pc = .ok (.invokestatic index, 3)) (kk : WC S l D C ad R K n c0 s0 μ (pc + 3) lv (.int (if x < y then y else x) :: st)) : WC S l D C ad R K n c0 s0 μ pc lv (.int y :: .int x :: st) :=
  fun H locs hw ls hl => va_mmax X.1 X.2.1 (X.2.2.1.trans hl.1.symm) X.2.2.2.1 (X.2.2.2.2.1 _ hlink) (X.2.2.2.2.1 _ hstat) (X.2.2.2.2.1 _ hini) (X.2.2.2.2.1 _ hcode) hframes hlocals hcs.1 hcs.2 hdg (kk H locs hw ls hl)
theorem b_mmin (X : CK S D C ad K cc n own) {x y : Int32} {index : Nat} (hcs : c0 ≤ R.cells ∧ s0 ≤ R.slots) (hlink : Cond.methodLink own index Lib.Math.min.name ∈ kW) (hstat : Cond.static Lib.Math.min.name ∈ kW) (hini : Cond.initialized "java/lang/Math" ∈ kW) (hcode : Cond.code Lib.Math.min.name Lib.Math.min.code 2 (some .int) ∈ kW) (hframes : 1 ≤ R.frames) (hlocals : (st.map fun v => v.category).sum + 13 ≤ R.locals) (hdg : decode cc pc = .ok (.invokestatic index, 3)) (kk : WC S l D C ad R K n c0 s0 μ (pc + 3) lv (.int (if y < x then y else x) :: st)) : WC S l D C ad R K n c0 s0 μ pc lv (.int y :: .int x :: st) :=
  fun H locs hw ls hl => va_mmin X.1 X.2.1 (X.2.2.1.trans hl.1.symm) X.2.2.2.1 (X.2.2.2.2.1 _ hlink) (X.2.2.2.2.1 _ hstat) (X.2.2.2.2.1 _ hini) (X.2.2.2.2.1 _ hcode) hframes hlocals hcs.1 hcs.2 hdg (kk H locs hw ls hl)
theorem b_mabs (X : CK S D C ad K cc n own) {x : Int32} {index : Nat} (hcs : c0 ≤ R.cells ∧ s0 ≤ R.slots) (hlink : Cond.methodLink own index Lib.Math.abs.name ∈ kW) (hstat : Cond.static Lib.Math.abs.name ∈ kW) (hini : Cond.initialized "java/lang/Math" ∈ kW) (hcode : Cond.code Lib.Math.abs.name Lib.Math.abs.code 1 (some .int) ∈ kW) (hframes : 1 ≤ R.frames) (hlocals : (st.map fun v => v.category).sum + 13 ≤ R.locals) (hdg : decode cc pc = .ok (.invokestatic index, 3)) (kk : WC S l D C ad R K n c0 s0 μ (pc + 3) lv (.int (if 0 ≤ x then x else 0 - x) :: st)) : WC S l D C ad R K n c0 s0 μ pc lv (.int x :: st) :=
  fun H locs hw ls hl => va_mabs X.1 X.2.1 (X.2.2.1.trans hl.1.symm) X.2.2.2.1 (X.2.2.2.2.1 _ hlink) (X.2.2.2.2.1 _ hstat) (X.2.2.2.2.1 _ hini) (X.2.2.2.2.1 _ hcode) hframes hlocals hcs.1 hcs.2 hdg (kk H locs hw ls hl)
theorem bVi (X : CK S D C ad K cc n own) {y : MethodName} {b : ByteArray} {n1 : Nat} {r : Option FieldType} {rm : Room} {As : List Value} {nA index : Nat} {k ci : Nat} {vc : vw_C} {fs : List Value} {Q1 : Int32 → Mem → Prop} (hM : Mi S l y b n1 r rm D C ad (.ref (ad k) :: As) μ Q1) (hk : S.2.1 k = ci) (hci : ci < 99) (he : enc S C ad μ k = .inr (ci, fs)) (hcl : vwCl[ci]? = some vc) (hG : GoodIn kW (wsV own index vc.1 y (WS y b n1 r))) (hd : y.cls = vc.1 ∧ kD y nA) (hcs : c0 ≤ R.cells ∧ s0 ≤ R.slots) (hc0 : rm.cells = 0) (hs0 : rm.slots = 0) (hR : kR rm R n1) (hn : As.length = nA) {st0 : List Value} (hst : st0 = As.reverse ++ .ref (ad k) :: st) (hr : (st.map fun v => v.category).sum ≤ 8) (hdg : decode cc pc = .ok (.invokevirtual index, 3)) (kk : ∀ (r : Int32) (μ' : Mem), Q1 r μ' → WC S l D C ad R K n c0 s0 μ' (pc + 3) lv (.int r :: st)) : WC S l D C ad R K n c0 s0 μ pc lv st0 :=
  fun H locs hw ls hl => kVi X hw hM (k_recv X hw (X.2.2.2.2.2.2.2.2.1 k (by omega)) he hcl) hG hd hc0 hs0 hR hn hl.1 hst hr hdg hcs (fun r μ' q H1 locs1 hw1 => kk r μ' q H1 locs1 hw1 ls hl)
theorem bVl (X : CK S D C ad K cc n own) {y : MethodName} {b : ByteArray} {n1 : Nat} {r : Option FieldType} {rm : Room} {As : List Value} {nA index : Nat} {k ci : Nat} {vc : vw_C} {fs : List Value} {Q1 : Int64 → Mem → Prop} (hM : Ml S l y b n1 r rm D C ad (.ref (ad k) :: As) μ Q1) (hk : S.2.1 k = ci) (hci : ci < 99) (he : enc S C ad μ k = .inr (ci, fs)) (hcl : vwCl[ci]? = some vc) (hG : GoodIn kW (wsV own index vc.1 y (WS y b n1 r))) (hd : y.cls = vc.1 ∧ kD y nA) (hcs : c0 ≤ R.cells ∧ s0 ≤ R.slots) (hc0 : rm.cells = 0) (hs0 : rm.slots = 0) (hR : kR rm R n1) (hn : As.length = nA) {st0 : List Value} (hst : st0 = As.reverse ++ .ref (ad k) :: st) (hr : (st.map fun v => v.category).sum ≤ 8) (hdg : decode cc pc = .ok (.invokevirtual index, 3)) (kk : ∀ (r : Int64) (μ' : Mem), Q1 r μ' → WC S l D C ad R K n c0 s0 μ' (pc + 3) lv (.long r :: st)) : WC S l D C ad R K n c0 s0 μ pc lv st0 :=
  fun H locs hw ls hl => kVl X hw hM (k_recv X hw (X.2.2.2.2.2.2.2.2.1 k (by omega)) he hcl) hG hd hc0 hs0 hR hn hl.1 hst hr hdg hcs (fun r μ' q H1 locs1 hw1 => kk r μ' q H1 locs1 hw1 ls hl)
theorem bVv (X : CK S D C ad K cc n own) {y : MethodName} {b : ByteArray} {n1 : Nat} {r : Option FieldType} {rm : Room} {As : List Value} {nA index : Nat} {k ci : Nat} {vc : vw_C} {fs : List Value} {Q1 : Mem → Prop} (hM : Mv S l y b n1 r rm D C ad (.ref (ad k) :: As) μ Q1) (hk : S.2.1 k = ci) (hci : ci < 99) (he : enc S C ad μ k = .inr (ci, fs)) (hcl : vwCl[ci]? = some vc) (hG : GoodIn kW (wsV own index vc.1 y (WS y b n1 r))) (hd : y.cls = vc.1 ∧ kD y nA) (hcs : c0 ≤ R.cells ∧ s0 ≤ R.slots) (hc0 : rm.cells = 0) (hs0 : rm.slots = 0) (hR : kR rm R n1) (hn : As.length = nA) {st0 : List Value} (hst : st0 = As.reverse ++ .ref (ad k) :: st) (hr : (st.map fun v => v.category).sum ≤ 8) (hdg : decode cc pc = .ok (.invokevirtual index, 3)) (kk : ∀ (μ' : Mem), Q1 μ' → WC S l D C ad R K n c0 s0 μ' (pc + 3) lv st) : WC S l D C ad R K n c0 s0 μ pc lv st0 :=
  fun H locs hw ls hl => kVv X hw hM (k_recv X hw (X.2.2.2.2.2.2.2.2.1 k (by omega)) he hcl) hG hd hc0 hs0 hR hn hl.1 hst hr hdg hcs (fun μ' q H1 locs1 hw1 => kk μ' q H1 locs1 hw1 ls hl)
theorem bVq (X : CK S D C ad K cc n own) {y : MethodName} {b : ByteArray} {n1 : Nat} {r : Option FieldType} {rm : Room} {As : List Value} {nA index : Nat} {k ci : Nat} {vc : vw_C} {fs : List Value} {Q1 : Option Nat → Mem → Prop} (hM : Mq S l y b n1 r rm D C ad (.ref (ad k) :: As) μ Q1) (hk : S.2.1 k = ci) (hci : ci < 99) (he : enc S C ad μ k = .inr (ci, fs)) (hcl : vwCl[ci]? = some vc) (hG : GoodIn kW (wsV own index vc.1 y (WS y b n1 r))) (hd : y.cls = vc.1 ∧ kD y nA) (hcs : c0 ≤ R.cells ∧ s0 ≤ R.slots) (hc0 : rm.cells = 0) (hs0 : rm.slots = 0) (hR : kR rm R n1) (hn : As.length = nA) {st0 : List Value} (hst : st0 = As.reverse ++ .ref (ad k) :: st) (hr : (st.map fun v => v.category).sum ≤ 8) (hdg : decode cc pc = .ok (.invokevirtual index, 3)) (kk : ∀ (r : Option Nat) (μ' : Mem), Q1 r μ' → WC S l D C ad R K n c0 s0 μ' (pc + 3) lv (va_rf (r.map ad) :: st)) : WC S l D C ad R K n c0 s0 μ pc lv st0 :=
  fun H locs hw ls hl => kVq X hw hM (k_recv X hw (X.2.2.2.2.2.2.2.2.1 k (by omega)) he hcl) hG hd hc0 hs0 hR hn hl.1 hst hr hdg hcs (fun r μ' q H1 locs1 hw1 => kk r μ' q H1 locs1 hw1 ls hl)
theorem bSi (X : CK S D C ad K cc n own) {y : MethodName} {b : ByteArray} {n1 : Nat} {r : Option FieldType} {rm : Room} {As : List Value} {nA index : Nat} {Q1 : Int32 → Mem → Prop} (hM : Mi S l y b n1 r rm D C ad As μ Q1) (hG : GoodIn kW (va_wsS own index y (WS y b n1 r))) (hd : kD y nA) (hcs : c0 ≤ R.cells ∧ s0 ≤ R.slots) (hc0 : rm.cells = 0) (hs0 : rm.slots = 0) (hR : kR rm R n1) (hn : As.length = nA) {st0 : List Value} (hst : st0 = As.reverse ++ st) (hr : (st.map fun v => v.category).sum ≤ 8) (hdg : decode cc pc = .ok (.invokestatic index, 3)) (kk : ∀ (r : Int32) (μ' : Mem), Q1 r μ' → WC S l D C ad R K n c0 s0 μ' (pc + 3) lv (.int r :: st)) : WC S l D C ad R K n c0 s0 μ pc lv st0 :=
  fun H locs hw ls hl => kSi X hw hM hG hd hc0 hs0 hR hn hl.1 hst hr hdg hcs (fun r μ' q H1 locs1 hw1 => kk r μ' q H1 locs1 hw1 ls hl)
theorem bNi (X : CK S D C ad K cc n own) {y : MethodName} {b : ByteArray} {n1 : Nat} {r : Option FieldType} {rm : Room} {As : List Value} {nA index : Nat} {host : String} {Q1 : Int32 → Mem → Prop} (hM : Mi S l y b n1 r rm D C ad As μ Q1) (hne : (own, index, y, host) ∈ nestL) (hst0 : Cond.static y ∈ kW) (hi0 : Cond.initialized y.cls ∈ kW) (hcd : Cond.code y b n1 r ∈ kW) (hd : kD y nA) (hcs : c0 ≤ R.cells ∧ s0 ≤ R.slots) (hc0 : rm.cells = 0) (hs0 : rm.slots = 0) (hR : kR rm R n1) (hn : As.length = nA) {st0 : List Value} (hst : st0 = As.reverse ++ st) (hr : (st.map fun v => v.category).sum ≤ 8) (hdg : decode cc pc = .ok (.invokestatic index, 3)) (kk : ∀ (r : Int32) (μ' : Mem), Q1 r μ' → WC S l D C ad R K n c0 s0 μ' (pc + 3) lv (.int r :: st)) : WC S l D C ad R K n c0 s0 μ pc lv st0 :=
  fun H locs hw ls hl => kNi X hw hM hne hst0 hi0 hcd hd hc0 hs0 hR hn hl.1 hst hr hdg hcs (fun r μ' q H1 locs1 hw1 => kk r μ' q H1 locs1 hw1 ls hl)
theorem bSv (X : CK S D C ad K cc n own) {y : MethodName} {b : ByteArray} {n1 : Nat} {r : Option FieldType} {rm : Room} {As : List Value} {nA index : Nat} {Q1 : Mem → Prop} (hM : Mv S l y b n1 r rm D C ad As μ Q1) (hG : GoodIn kW (va_wsS own index y (WS y b n1 r))) (hd : kD y nA) (hcs : c0 ≤ R.cells ∧ s0 ≤ R.slots) (hc0 : rm.cells = 0) (hs0 : rm.slots = 0) (hR : kR rm R n1) (hn : As.length = nA) {st0 : List Value} (hst : st0 = As.reverse ++ st) (hr : (st.map fun v => v.category).sum ≤ 8) (hdg : decode cc pc = .ok (.invokestatic index, 3)) (kk : ∀ (μ' : Mem), Q1 μ' → WC S l D C ad R K n c0 s0 μ' (pc + 3) lv st) : WC S l D C ad R K n c0 s0 μ pc lv st0 :=
  fun H locs hw ls hl => kSv X hw hM hG hd hc0 hs0 hR hn hl.1 hst hr hdg hcs (fun μ' q H1 locs1 hw1 => kk μ' q H1 locs1 hw1 ls hl)
theorem bNv (X : CK S D C ad K cc n own) {y : MethodName} {b : ByteArray} {n1 : Nat} {r : Option FieldType} {rm : Room} {As : List Value} {nA index : Nat} {host : String} {Q1 : Mem → Prop} (hM : Mv S l y b n1 r rm D C ad As μ Q1) (hne : (own, index, y, host) ∈ nestL) (hst0 : Cond.static y ∈ kW) (hi0 : Cond.initialized y.cls ∈ kW) (hcd : Cond.code y b n1 r ∈ kW) (hd : kD y nA) (hcs : c0 ≤ R.cells ∧ s0 ≤ R.slots) (hc0 : rm.cells = 0) (hs0 : rm.slots = 0) (hR : kR rm R n1) (hn : As.length = nA) {st0 : List Value} (hst : st0 = As.reverse ++ st) (hr : (st.map fun v => v.category).sum ≤ 8) (hdg : decode cc pc = .ok (.invokestatic index, 3)) (kk : ∀ (μ' : Mem), Q1 μ' → WC S l D C ad R K n c0 s0 μ' (pc + 3) lv st) : WC S l D C ad R K n c0 s0 μ pc lv st0 :=
  fun H locs hw ls hl => kNv X hw hM hne hst0 hi0 hcd hd hc0 hs0 hR hn hl.1 hst hr hdg hcs (fun μ' q H1 locs1 hw1 => kk μ' q H1 locs1 hw1 ls hl)
theorem b_st {st' : List Value} (h : st = st') (kk : WBG l R K n c0 s0 P pc lv st') : WBG l R K n c0 s0 P pc lv st := by
  subst h; exact kk
theorem b_lv (h : lv = lv') (kk : WBG l R K n c0 s0 P pc lv' st) : WBG l R K n c0 s0 P pc lv st := by
  subst h; exact kk
theorem b_wf (kk : wfS S μ → WC S l D C ad R K n c0 s0 μ pc lv st) : WC S l D C ad R K n c0 s0 μ pc lv st := fun H locs hw ls hl => kk hw.1 H locs hw ls hl
theorem b_aloadN_n (X : CK S D C ad K cc n own) {k : Fin 4} {i : Nat} (hdg : decode cc pc = .ok (.aload_n k, 1)) (hi : (k : Nat) = i) (q : Nat) (hq : lv[q]? = some (i, .null)) (kk : WBG l R K n c0 s0 P (pc + 1) lv (.null :: st)) : WBG l R K n c0 s0 P pc lv st :=
  fun H locs hw ls hl => lv_aload_nN X.1 X.2.1 hdg hi (lv_at hl q hq) (kk H locs hw ls hl)
theorem b_astoreN_n (X : CK S D C ad K cc n own) {k : Fin 4} {i : Nat} (hdg : decode cc pc = .ok (.astore_n k, 1)) (hi : (k : Nat) = i) (hn : i < n) (hl0 : (i, Value.null) :: lv.filter (fun q => !(q.1 == i) && !(q.1 + 1 == i && q.2.category == 2)) = lv') (kk : WBG l R K n c0 s0 P (pc + 1) lv' st) : WBG l R K n c0 s0 P pc lv (.null :: st) :=
  fun H locs hw ls hl => lv_astore_nN X.1 X.2.1 hdg hi hl hn hl0 (fun ls hl => kk H locs hw ls hl)
theorem b_ifnonnullN (X : CK S D C ad K cc n own) {z : Int} (hdg : decode cc pc = .ok (.ifnonnull z, 3)) (kk : WBG l R K n c0 s0 P (pc + 3) lv st) : WBG l R K n c0 s0 P pc lv (.null :: st) :=
  fun H locs hw ls hl => lv_ifnonnullN X.1 X.2.1 hdg (kk H locs hw ls hl)
theorem b_ifnullN (X : CK S D C ad K cc n own) {z : Int} {t : Nat} (hdg : decode cc pc = .ok (.ifnull z, 3)) (ht : (pc : Int) + z = (t : Int)) (kk : WBG l R K n c0 s0 P t lv st) : WBG l R K n c0 s0 P pc lv (.null :: st) :=
  fun H locs hw ls hl => lv_ifnullN X.1 X.2.1 hdg ht (kk H locs hw ls hl)
theorem b_ifnonnull1 (X : CK S D C ad K cc n own) {x : Nat} {z : Int} {t : Nat} (hdg : decode cc pc = .ok (.ifnonnull z, 3)) (ht : (pc : Int) + z = (t : Int)) (kk : WBG l R K n c0 s0 P t lv st) : WBG l R K n c0 s0 P pc lv (.ref x :: st) :=
  fun H locs hw ls hl => lv_ifnonnull X.1 X.2.1 hdg ht (kk H locs hw ls hl)
theorem b_ifnull1 (X : CK S D C ad K cc n own) {x : Nat} {z : Int} (hdg : decode cc pc = .ok (.ifnull z, 3)) (kk : WBG l R K n c0 s0 P (pc + 3) lv st) : WBG l R K n c0 s0 P pc lv (.ref x :: st) :=
  fun H locs hw ls hl => lv_ifnull X.1 X.2.1 hdg (kk H locs hw ls hl)
end WALK
section SCRIPT
variable {S : Sd} {l : Launch} {D : va_G} {C : Nat → ClassId} {ad : Nat → Nat} {R : Room} {K : Ctx} {n : Nat} {μ : Mem} {pc : Nat} {lv lv' : List (Nat × Value)} {st : List Value} {cc : ByteArray} {own : String} {c0 s0 : Nat}
theorem b_slen (X : CK S D C ad K cc n own) (h0 : S.1 ≠ 0) {ss : Nat × (Nat → Int32)} (hss : ss = sX ad) (hdg : decode cc pc = .ok (.arraylength, 1)) (kk : WC S l D C ad R K n c0 s0 μ (pc + 1) lv (.int (nI ss.1) :: st)) : WC S l D C ad R K n c0 s0 μ pc lv (.ref (ad 249) :: st) := by
  subst hss
  obtain ⟨h1, h2, h3⟩ := X.2.2.2.2.2.2.2.2.2.2 h0
  exact fun H locs hw ls hl => va_slen X.1 X.2.1 h1 h2 h3 hw.2.2 hdg (kk H locs hw ls hl)
theorem b_sld (X : CK S D C ad K cc n own) (h0 : S.1 ≠ 0) {ss : Nat × (Nat → Int32)} (hss : ss = sX ad) {i : Int32} (hin : vp_in i ss.1) (hdg : decode cc pc = .ok (.iaload, 1)) (kk : WC S l D C ad R K n c0 s0 μ (pc + 1) lv (.int (ss.2 i.toNatClampNeg) :: st)) : WC S l D C ad R K n c0 s0 μ pc lv (.int i :: .ref (ad 249) :: st) := by
  subst hss
  obtain ⟨h1, h2, h3⟩ := X.2.2.2.2.2.2.2.2.2.2 h0
  exact fun H locs hw ls hl => va_sld X.1 X.2.1 h1 h2 h3 hw.2.2 hin hdg (kk H locs hw ls hl)
end SCRIPT
theorem fm_i {S : Sd} {l : Launch} {y : MethodName} {b : ByteArray} {n : Nat}  {rm : Room} {D : va_G} {C : Nat → ClassId} {ad : Nat → Nat} {av : List Value} {μ : Mem} {Q : Int32 → Mem → Prop} (hy : plainName y.cls = true) (hN : ∀ k, S.2.1 k < 99 → k < S.1) (hlen : (lg_sl av).length ≤ n)
    (body : ∀ K : Ctx, CK S D C ad K b n y.cls → (∀ (v : Int32) (μ' : Mem) (pc : Nat) (lv : List (Nat × Value)), Q v μ' → decode b pc = .ok (.ireturn, 1) → WB S l D C ad rm K n μ' pc lv [.int v]) → WB S l D C ad rm K n μ 0 (lv_args 0 av) []) : Mi S l y b n (some .int) rm D C ad av μ Q := by
  intro sz
  refine Met.ofW (cc := b) (maxL := n) (ret := (some .int)) hy rfl ?_
  intro p e s m args below meth c s₁ B hml hv
  obtain ⟨rfl, hsz, hwf, hP, hK, hNW, hD0, hSX⟩ := hv
  have hts : ∀ w ∈ kW, w.before av.toArray s = true := fun w hw => atoms_spec (ws := WS y b n (some .int)) B.pre w (List.mem_cons_of_mem _ hw)
  have hown : s.vm.findClass y.cls = some m.cls := findClass_of_methodNamed B.named
  have hlocks := B.notSynchronized
  subst hsz
  have hD := hD0.self (sz := s.heap.size)
  have hl := lv_entry av (n := n) hlen
  rw [lg_entry_eq]
  have X0 : CX S D C ad (va_A (wl S.1 ad e0) s.heap.size) s.heap p s m av.toArray c b n y.cls := ⟨B.exec, B.bytes, hml, hown, hts, hNW, hK, wl_D hD (fun _ h => h), hN, fun q h => Or.inr h, fun h0 => ⟨(hSX h0).1, (hSX h0).2.1, fun q => (wl_A q).elim (fun q => (hSX h0).2.2 q) (fun q => absurd (hSX h0).2.1 (Nat.not_lt.mpr q))⟩⟩
  refine body (va_A (wl S.1 ad e0) s.heap.size, p, e, s, m, av.toArray, below, meth, c, _) X0 ?_ s.heap [] ⟨hwf, hP, va_S.rf⟩ _ hl
  intro v μ' pc lv hq hdg H locs hw ls hl
  exact W.iret (v := v) B.exec B.bytes B.returns (fun t ht hW => ⟨⟨v, μ', rfl, hq, (k_U X0 hw ht hW).2⟩, hw.2.2.F ht⟩) hw.2.2.2.2 hdg

theorem fm_z {S : Sd} {l : Launch} {y : MethodName} {b : ByteArray} {n : Nat}  {rm : Room} {D : va_G} {C : Nat → ClassId} {ad : Nat → Nat} {av : List Value} {μ : Mem} {Q : Int32 → Mem → Prop} (hy : plainName y.cls = true) (hN : ∀ k, S.2.1 k < 99 → k < S.1) (hlen : (lg_sl av).length ≤ n)
    (body : ∀ K : Ctx, CK S D C ad K b n y.cls → (∀ (v : Int32) (μ' : Mem) (pc : Nat) (lv : List (Nat × Value)), (v = 0 ∨ v = 1) ∧ Q v μ' → decode b pc = .ok (.ireturn, 1) → WB S l D C ad rm K n μ' pc lv [.int v]) → WB S l D C ad rm K n μ 0 (lv_args 0 av) []) : Mi S l y b n (some .boolean) rm D C ad av μ Q := by
  intro sz
  refine Met.ofW (cc := b) (maxL := n) (ret := (some .boolean)) hy rfl ?_
  intro p e s m args below meth c s₁ B hml hv
  obtain ⟨rfl, hsz, hwf, hP, hK, hNW, hD0, hSX⟩ := hv
  have hts : ∀ w ∈ kW, w.before av.toArray s = true := fun w hw => atoms_spec (ws := WS y b n (some .boolean)) B.pre w (List.mem_cons_of_mem _ hw)
  have hown : s.vm.findClass y.cls = some m.cls := findClass_of_methodNamed B.named
  have hlocks := B.notSynchronized
  subst hsz
  have hD := hD0.self (sz := s.heap.size)
  have hl := lv_entry av (n := n) hlen
  rw [lg_entry_eq]
  have X0 : CX S D C ad (va_A (wl S.1 ad e0) s.heap.size) s.heap p s m av.toArray c b n y.cls := ⟨B.exec, B.bytes, hml, hown, hts, hNW, hK, wl_D hD (fun _ h => h), hN, fun q h => Or.inr h, fun h0 => ⟨(hSX h0).1, (hSX h0).2.1, fun q => (wl_A q).elim (fun q => (hSX h0).2.2 q) (fun q => absurd (hSX h0).2.1 (Nat.not_lt.mpr q))⟩⟩
  refine body (va_A (wl S.1 ad e0) s.heap.size, p, e, s, m, av.toArray, below, meth, c, _) X0 ?_ s.heap [] ⟨hwf, hP, va_S.rf⟩ _ hl
  intro v μ' pc lv hq hdg H locs hw ls hl
  exact W.zret (v := v) B.exec B.bytes B.returns (nar_z hq.1).2.1 (fun t ht hW => ⟨⟨v, μ', rfl, hq.2, (k_U X0 hw ht hW).2⟩, hw.2.2.F ht⟩) hw.2.2.2.2 hdg

theorem fm_l {S : Sd} {l : Launch} {y : MethodName} {b : ByteArray} {n : Nat}  {rm : Room} {D : va_G} {C : Nat → ClassId} {ad : Nat → Nat} {av : List Value} {μ : Mem} {Q : Int64 → Mem → Prop} (hy : plainName y.cls = true) (hN : ∀ k, S.2.1 k < 99 → k < S.1) (hlen : (lg_sl av).length ≤ n)
    (body : ∀ K : Ctx, CK S D C ad K b n y.cls → (∀ (v : Int64) (μ' : Mem) (pc : Nat) (lv : List (Nat × Value)), Q v μ' → decode b pc = .ok (.lreturn, 1) → WB S l D C ad rm K n μ' pc lv [.long v]) → WB S l D C ad rm K n μ 0 (lv_args 0 av) []) : Ml S l y b n (some .long) rm D C ad av μ Q := by
  intro sz
  refine Met.ofW (cc := b) (maxL := n) (ret := (some .long)) hy rfl ?_
  intro p e s m args below meth c s₁ B hml hv
  obtain ⟨rfl, hsz, hwf, hP, hK, hNW, hD0, hSX⟩ := hv
  have hts : ∀ w ∈ kW, w.before av.toArray s = true := fun w hw => atoms_spec (ws := WS y b n (some .long)) B.pre w (List.mem_cons_of_mem _ hw)
  have hown : s.vm.findClass y.cls = some m.cls := findClass_of_methodNamed B.named
  have hlocks := B.notSynchronized
  subst hsz
  have hD := hD0.self (sz := s.heap.size)
  have hl := lv_entry av (n := n) hlen
  rw [lg_entry_eq]
  have X0 : CX S D C ad (va_A (wl S.1 ad e0) s.heap.size) s.heap p s m av.toArray c b n y.cls := ⟨B.exec, B.bytes, hml, hown, hts, hNW, hK, wl_D hD (fun _ h => h), hN, fun q h => Or.inr h, fun h0 => ⟨(hSX h0).1, (hSX h0).2.1, fun q => (wl_A q).elim (fun q => (hSX h0).2.2 q) (fun q => absurd (hSX h0).2.1 (Nat.not_lt.mpr q))⟩⟩
  refine body (va_A (wl S.1 ad e0) s.heap.size, p, e, s, m, av.toArray, below, meth, c, _) X0 ?_ s.heap [] ⟨hwf, hP, va_S.rf⟩ _ hl
  intro v μ' pc lv hq hdg H locs hw ls hl
  exact W.lret (v := v) B.exec B.bytes B.returns (fun t ht hW => ⟨⟨v, μ', rfl, hq, (k_U X0 hw ht hW).2⟩, hw.2.2.F ht⟩) hw.2.2.2.2 hdg

theorem fm_v {S : Sd} {l : Launch} {y : MethodName} {b : ByteArray} {n : Nat}  {rm : Room} {D : va_G} {C : Nat → ClassId} {ad : Nat → Nat} {av : List Value} {μ : Mem} {Q : Mem → Prop} (hy : plainName y.cls = true) (hN : ∀ k, S.2.1 k < 99 → k < S.1) (hlen : (lg_sl av).length ≤ n)
    (body : ∀ K : Ctx, CK S D C ad K b n y.cls → (∀ (μ' : Mem) (pc : Nat) (lv : List (Nat × Value)), Q μ' → decode b pc = .ok (.return_, 1) → WB S l D C ad rm K n μ' pc lv []) → WB S l D C ad rm K n μ 0 (lv_args 0 av) []) : Mv S l y b n none rm D C ad av μ Q := by
  intro sz
  refine Met.ofW (cc := b) (maxL := n) (ret := none) hy rfl ?_
  intro p e s m args below meth c s₁ B hml hv
  obtain ⟨rfl, hsz, hwf, hP, hK, hNW, hD0, hSX⟩ := hv
  have hts : ∀ w ∈ kW, w.before av.toArray s = true := fun w hw => atoms_spec (ws := WS y b n none) B.pre w (List.mem_cons_of_mem _ hw)
  have hown : s.vm.findClass y.cls = some m.cls := findClass_of_methodNamed B.named
  have hlocks := B.notSynchronized
  subst hsz
  have hD := hD0.self (sz := s.heap.size)
  have hl := lv_entry av (n := n) hlen
  rw [lg_entry_eq]
  have X0 : CX S D C ad (va_A (wl S.1 ad e0) s.heap.size) s.heap p s m av.toArray c b n y.cls := ⟨B.exec, B.bytes, hml, hown, hts, hNW, hK, wl_D hD (fun _ h => h), hN, fun q h => Or.inr h, fun h0 => ⟨(hSX h0).1, (hSX h0).2.1, fun q => (wl_A q).elim (fun q => (hSX h0).2.2 q) (fun q => absurd (hSX h0).2.1 (Nat.not_lt.mpr q))⟩⟩
  refine body (va_A (wl S.1 ad e0) s.heap.size, p, e, s, m, av.toArray, below, meth, c, _) X0 ?_ s.heap [] ⟨hwf, hP, va_S.rf⟩ _ hl
  intro μ' pc lv hq hdg H locs hw ls hl
  exact W.vret B.exec B.bytes B.returns (fun t ht hW => ⟨⟨μ', rfl, hq, (k_U X0 hw ht hW).2⟩, hw.2.2.F ht⟩) hw.2.2.2.2 hdg

theorem fm_q {S : Sd} {l : Launch} {y : MethodName} {b : ByteArray} {n : Nat} {Cn : String} {rm : Room} {D : va_G} {C : Nat → ClassId} {ad : Nat → Nat} {av : List Value} {μ : Mem} {Q : Option Nat → Mem → Prop} (hy : plainName y.cls = true) (hN : ∀ k, S.2.1 k < 99 → k < S.1) (hlen : (lg_sl av).length ≤ n)
    (body : ∀ K : Ctx, CK S D C ad K b n y.cls → (∀ (v : Option Nat) (μ' : Mem) (pc : Nat) (lv : List (Nat × Value)), Q v μ' → decode b pc = .ok (.areturn, 1) → WB S l D C ad rm K n μ' pc lv [va_rf (v.map ad)]) → WB S l D C ad rm K n μ 0 (lv_args 0 av) []) : Mq S l y b n (some (.object Cn)) rm D C ad av μ Q := by
  intro sz
  refine Met.ofW (cc := b) (maxL := n) (ret := (some (.object Cn))) hy rfl ?_
  intro p e s m args below meth c s₁ B hml hv
  obtain ⟨rfl, hsz, hwf, hP, hK, hNW, hD0, hSX⟩ := hv
  have hts : ∀ w ∈ kW, w.before av.toArray s = true := fun w hw => atoms_spec (ws := WS y b n (some (.object Cn))) B.pre w (List.mem_cons_of_mem _ hw)
  have hown : s.vm.findClass y.cls = some m.cls := findClass_of_methodNamed B.named
  have hlocks := B.notSynchronized
  subst hsz
  have hD := hD0.self (sz := s.heap.size)
  have hl := lv_entry av (n := n) hlen
  rw [lg_entry_eq]
  have X0 : CX S D C ad (va_A (wl S.1 ad e0) s.heap.size) s.heap p s m av.toArray c b n y.cls := ⟨B.exec, B.bytes, hml, hown, hts, hNW, hK, wl_D hD (fun _ h => h), hN, fun q h => Or.inr h, fun h0 => ⟨(hSX h0).1, (hSX h0).2.1, fun q => (wl_A q).elim (fun q => (hSX h0).2.2 q) (fun q => absurd (hSX h0).2.1 (Nat.not_lt.mpr q))⟩⟩
  refine body (va_A (wl S.1 ad e0) s.heap.size, p, e, s, m, av.toArray, below, meth, c, _) X0 ?_ s.heap [] ⟨hwf, hP, va_S.rf⟩ _ hl
  intro v μ' pc lv hq hdg H locs hw ls hl
  exact W.aret (v := va_rf (v.map ad)) B.exec B.bytes B.returns (Or.inl ⟨_, rfl⟩) (by cases v with | none => exact Or.inl rfl | some a => exact Or.inr ⟨_, rfl⟩) (fun t ht hW => ⟨⟨v.map ad, (v, μ'), rfl, ⟨rfl, hq⟩, (k_U X0 hw ht hW).2⟩, hw.2.2.F ht⟩) hw.2.2.2.2 hdg

