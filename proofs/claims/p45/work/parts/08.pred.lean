/-! ===== what each method does, over the memory: by program out of the bytecode ===== -/
/-- X0_wipe -/
def s_X0_wipe_69 (b0 : Nat) (X69 : Int32 → Mem → Prop) (v1 : Int32) (μ : Mem) (Q : Mem → Prop) : Prop :=
  (((nI 2) ≤ v1 → Q μ) ∧ (¬ (nI 2) ≤ v1 → (vp_in v1 2 ∧ ∀ μ11 : Mem, μ11 = sI μ (b0 + 7) (v1).toNatClampNeg (nI 127) → (vp_in v1 2 ∧ ∀ μ12 : Mem, μ12 = sI μ11 (b0 + 8) (v1).toNatClampNeg (nI 0) → ∀ x13 : Int32, x13 = v1 + (nI 1) → (X69 x13 μ12)))))
def w_X0_wipe_69 (b0 : Nat) (v1 : Int32) (μ : Mem) (Q : Mem → Prop) : Prop :=
  ∀ X69 : Int32 → Mem → Prop, (∀ (v1 : Int32) (μ : Mem), s_X0_wipe_69 b0 X69 v1 μ Q → X69 v1 μ) → X69 v1 μ
def w_X0_wipe_67 (b0 : Nat) (μ : Mem) (Q : Mem → Prop) : Prop :=
  (w_X0_wipe_69 b0 (nI 0) μ Q)
def s_X0_wipe_41 (b0 : Nat) (X41 : Int32 → Mem → Prop) (v1 : Int32) (μ : Mem) (Q : Mem → Prop) : Prop :=
  (((nI 6) ≤ v1 → (w_X0_wipe_67 b0 μ Q)) ∧ (¬ (nI 6) ≤ v1 → (vp_in v1 6 ∧ ∀ μ8 : Mem, μ8 = sI μ (b0 + 3) (v1).toNatClampNeg ((-1) : Int32) → (vp_in v1 6 ∧ ∀ μ9 : Mem, μ9 = sI μ8 (b0 + 6) (v1).toNatClampNeg ((-1) : Int32) → ∀ x10 : Int32, x10 = v1 + (nI 1) → (X41 x10 μ9)))))
def w_X0_wipe_41 (b0 : Nat) (v1 : Int32) (μ : Mem) (Q : Mem → Prop) : Prop :=
  ∀ X41 : Int32 → Mem → Prop, (∀ (v1 : Int32) (μ : Mem), s_X0_wipe_41 b0 X41 v1 μ Q → X41 v1 μ) → X41 v1 μ
def w_X0_wipe (b0 : Nat) (μ : Mem) (Q : Mem → Prop) : Prop :=
  ∀ μ1 : Mem, μ1 = sI μ b0 0 (nI 0) → ∀ μ2 : Mem, μ2 = sI μ1 b0 1 (nI 0) → ∀ μ3 : Mem, μ3 = sI μ2 b0 2 (nI 0) → ∀ μ4 : Mem, μ4 = sI μ3 b0 3 (nI 0) → ∀ μ5 : Mem, μ5 = sI μ4 b0 4 (nI 0) → (vp_in (nI 0) 12 ∧ ∀ μ6 : Mem, μ6 = sI μ5 (b0 + 1) ((nI 0)).toNatClampNeg (nI 0) → (vp_in (nI 0) 12 ∧ ∀ μ7 : Mem, μ7 = sI μ6 (b0 + 2) ((nI 0)).toNatClampNeg (nI 0) → (w_X0_wipe_41 b0 (nI 0) μ7 Q)))
abbrev rm_X0_wipe : Room := { frames := 0, cells := 0, slots := 0, locals := 0 }
/-- X0_hoursOfDay -/
def w_X0_hoursOfDay (b0 : Nat) (μ : Mem) (Q : Int32 → Prop) : Prop :=
  ((¬ (μ.1 b0 0) = 0 → ∀ x1 : Int32, x1 = (if (μ.1 b0 2) < (nI 1) then (nI 1) else (μ.1 b0 2)) → Q x1) ∧ ((μ.1 b0 0) = 0 → Q (nI 0)))
abbrev rm_X0_hoursOfDay : Room := { frames := 1, cells := 0, slots := 0, locals := 24 }
/-- X6_at -/
def w_X6_at (b0 : Nat) (a1 : Int32) (μ : Mem) (Q : Int32 → Prop) : Prop :=
  ((a1 < 0 → Q (nI 0)) ∧ (¬ a1 < 0 → (((nI (sF.2.2 b0)) ≤ a1 → Q (nI 0)) ∧ (¬ (nI (sF.2.2 b0)) ≤ a1 → (vp_in a1 (sF.2.2 b0) ∧ Q (μ.1 b0 (a1).toNatClampNeg))))))
abbrev rm_X6_at : Room := { frames := 0, cells := 0, slots := 0, locals := 0 }
/-- X0_sideAt -/
def w_X0_sideAt (b0 : Nat) (a1 : Int32) (μ : Mem) (Q : Int32 → Prop) : Prop :=
  w_X6_at (b0 + 1) a1 μ (fun r1 => Q r1)
abbrev rm_X0_sideAt : Room := { frames := 1, cells := 0, slots := 0, locals := 21 }
/-- X0_fogAt -/
def w_X0_fogAt (b0 : Nat) (a1 : Int32) (μ : Mem) (Q : Int32 → Prop) : Prop :=
  w_X6_at (b0 + 2) a1 μ (fun r1 => Q r1)
abbrev rm_X0_fogAt : Room := { frames := 1, cells := 0, slots := 0, locals := 21 }
/-- X0_hangsOn -/
def w_X0_hangsOn (b0 : Nat) (a1 : Int32) (a2 : Int32) (μ : Mem) (Q : Int32 → Prop) : Prop :=
  w_X6_at (b0 + 7) a1 μ (fun r1 => (¬ (nI 7) = 0 ∧ ∀ x3 : Int32, x3 = (a2 - a2 / (nI 7) * (nI 7)) → ((¬ ((r1 >>> (x3 &&& 31)) &&& (nI 1)) = (nI 1) → Q (nI 0)) ∧ (((r1 >>> (x3 &&& 31)) &&& (nI 1)) = (nI 1) → Q (nI 1)))))
abbrev rm_X0_hangsOn : Room := { frames := 1, cells := 0, slots := 0, locals := 21 }
/-- X0_postsOf -/
def w_X0_postsOf_34 (b0 : Nat) (a1 : Int32) (X4 : Int32 → Int32 → Prop) (v2 : Int32) (v3 : Int32) (μ : Mem) (Q : Int32 → Prop) : Prop :=
  ∀ x2 : Int32, x2 = v3 + (nI 1) → (X4 v2 x2)
def s_X0_postsOf_4 (b0 : Nat) (a1 : Int32) (μ : Mem) (X4 : Int32 → Int32 → Prop) (v2 : Int32) (v3 : Int32) (Q : Int32 → Prop) : Prop :=
  (((μ.1 b0 3) ≤ v3 → Q v2) ∧ (¬ (μ.1 b0 3) ≤ v3 → (((nI 6) ≤ v3 → Q v2) ∧ (¬ (nI 6) ≤ v3 → (vp_in v3 6 ∧ ((¬ (μ.1 (b0 + 6) (v3).toNatClampNeg) = a1 → (w_X0_postsOf_34 b0 a1 X4 v2 v3 μ Q)) ∧ ((μ.1 (b0 + 6) (v3).toNatClampNeg) = a1 → ∀ x1 : Int32, x1 = (v2 ||| ((nI 1) <<< (v3 &&& 31))) → (w_X0_postsOf_34 b0 a1 X4 x1 v3 μ Q))))))))
def w_X0_postsOf_4 (b0 : Nat) (a1 : Int32) (v2 : Int32) (v3 : Int32) (μ : Mem) (Q : Int32 → Prop) : Prop :=
  ∀ X4 : Int32 → Int32 → Prop, (∀ (v2 : Int32) (v3 : Int32), s_X0_postsOf_4 b0 a1 μ X4 v2 v3 Q → X4 v2 v3) → X4 v2 v3
def w_X0_postsOf (b0 : Nat) (a1 : Int32) (μ : Mem) (Q : Int32 → Prop) : Prop :=
  (w_X0_postsOf_4 b0 a1 (nI 0) (nI 0) μ Q)
abbrev rm_X0_postsOf : Room := { frames := 0, cells := 0, slots := 0, locals := 0 }
/-- X0_hasPostIn -/
def s_X0_hasPostIn_2 (b0 : Nat) (a1 : Int32) (μ : Mem) (X2 : Int32 → Prop) (v2 : Int32) (Q : Int32 → Prop) : Prop :=
  (((μ.1 b0 3) ≤ v2 → Q (nI 0)) ∧ (¬ (μ.1 b0 3) ≤ v2 → (((nI 6) ≤ v2 → Q (nI 0)) ∧ (¬ (nI 6) ≤ v2 → (vp_in v2 6 ∧ ((¬ (μ.1 (b0 + 3) (v2).toNatClampNeg) = a1 → ∀ x1 : Int32, x1 = v2 + (nI 1) → (X2 x1)) ∧ ((μ.1 (b0 + 3) (v2).toNatClampNeg) = a1 → Q (nI 1))))))))
def w_X0_hasPostIn_2 (b0 : Nat) (a1 : Int32) (v2 : Int32) (μ : Mem) (Q : Int32 → Prop) : Prop :=
  ∀ X2 : Int32 → Prop, (∀ (v2 : Int32), s_X0_hasPostIn_2 b0 a1 μ X2 v2 Q → X2 v2) → X2 v2
def w_X0_hasPostIn (b0 : Nat) (a1 : Int32) (μ : Mem) (Q : Int32 → Prop) : Prop :=
  (w_X0_hasPostIn_2 b0 a1 (nI 0) μ Q)
abbrev rm_X0_hasPostIn : Room := { frames := 0, cells := 0, slots := 0, locals := 0 }
/-- X6_put -/
def w_X6_put (b0 : Nat) (a1 : Int32) (a2 : Int32) (μ : Mem) (Q : Mem → Prop) : Prop :=
  ((a1 < 0 → Q μ) ∧ (¬ a1 < 0 → (((nI (sF.2.2 b0)) ≤ a1 → Q μ) ∧ (¬ (nI (sF.2.2 b0)) ≤ a1 → (vp_in a1 (sF.2.2 b0) ∧ ∀ μ1 : Mem, μ1 = sI μ b0 (a1).toNatClampNeg a2 → Q μ1)))))
abbrev rm_X6_put : Room := { frames := 0, cells := 0, slots := 0, locals := 0 }
/-- X1_note -/
def w_X1_note (b0 : Nat) (a1 : Int32) (a2 : Int32) (a3 : Int32) (μ : Mem) (Q : Int32 → Mem → Prop) : Prop :=
  w_X6_put (b0 + 1) (μ.1 b0 3) a1 μ (fun μ2 => w_X6_put (b0 + 2) (μ2.1 b0 3) a2 μ2 (fun μ4 => w_X6_put (b0 + 3) (μ4.1 b0 3) a3 μ4 (fun μ6 => ∀ μ7 : Mem, μ7 = sI μ6 b0 3 ((μ6.1 b0 3) + (nI 1)) → Q (μ7.1 b0 3) μ7)))
abbrev rm_X1_note : Room := { frames := 1, cells := 0, slots := 0, locals := 22 }
/-- X2_stateAt -/
def w_X2_stateAt (a1 : Int32) (μ : Mem) (Q : Option Nat → Prop) : Prop :=
  (¬ (nI 30) = 0 ∧ ∀ x1 : Int32, x1 = (((μ.1 41 1) + a1) - ((μ.1 41 1) + a1) / (nI 30) * (nI 30)) → ((a1 < 0 → Q none) ∧ (¬ a1 < 0 → ((x1 < 0 → Q none) ∧ (¬ x1 < 0 → (((nI 30) ≤ x1 → Q none) ∧ (¬ (nI 30) ≤ x1 → (vp_in x1 30 ∧ (sF.2.1 (43 + 6 * (x1).toNatClampNeg) = 4 ∧ Q (some (43 + 6 * (x1).toNatClampNeg)))))))))))
abbrev rm_X2_stateAt : Room := { frames := 0, cells := 0, slots := 0, locals := 0 }
/-- X4_become -/
def w_X4_become (b0 : Nat) (b1 : Nat) (μ : Mem) (Q : Mem → Prop) : Prop :=
  ∀ μ1 : Mem, μ1 = sI μ b0 0 (μ.1 b1 0) → ∀ μ2 : Mem, μ2 = sI μ1 b0 1 (μ1.1 b1 1) → (((μ2.1 b1 2) = 0 ∨ (μ2.1 b1 2) = 1) ∧ ∀ μ3 : Mem, μ3 = sI μ2 b0 2 (μ2.1 b1 2) → ∀ μ4 : Mem, μ4 = sI μ3 b0 3 (μ3.1 b1 3) → ∀ μ5 : Mem, μ5 = sI μ4 b0 4 (μ4.1 b1 4) → ∀ μ6 : Mem, μ6 = sA μ5 (b0 + 1) (va_cpy (μ5.1 (b1 + 1)) (μ5.1 (b0 + 1)) 0 0 6) → ∀ μ7 : Mem, μ7 = sA μ6 (b0 + 2) (va_cpy (μ6.1 (b1 + 2)) (μ6.1 (b0 + 2)) 0 0 6) → ∀ μ8 : Mem, μ8 = sA μ7 (b0 + 3) (va_cpy (μ7.1 (b1 + 3)) (μ7.1 (b0 + 3)) 0 0 6) → ∀ μ9 : Mem, μ9 = sA μ8 (b0 + 4) (va_cpy (μ8.1 (b1 + 4)) (μ8.1 (b0 + 4)) 0 0 2) → ∀ μ10 : Mem, μ10 = sA μ9 (b0 + 5) (va_cpy (μ9.1 (b1 + 5)) (μ9.1 (b0 + 5)) 0 0 2) → Q μ10)
abbrev rm_X4_become : Room := { frames := 1, cells := 0, slots := 0, locals := 60 }
/-- X2_remember -/
def w_X2_remember_35 (b1 : Nat) (μ : Mem) (Q : Mem → Prop) : Prop :=
  w_X2_stateAt ((μ.1 41 2) - (nI 1)) μ (fun r4 => (r4 = none → Q μ) ∧ (∀ b6 : Nat, r4 = some b6 → (sF.2.1 b6 = 4 ∧ w_X4_become b6 b1 μ (fun μ8 => Q μ8))))
def w_X2_remember (b1 : Nat) (μ : Mem) (Q : Mem → Prop) : Prop :=
  (((nI 30) ≤ (μ.1 41 2) → (¬ (nI 30) = 0 ∧ ∀ x1 : Int32, x1 = (((μ.1 41 1) + (nI 1)) - ((μ.1 41 1) + (nI 1)) / (nI 30) * (nI 30)) → ∀ μ2 : Mem, μ2 = sI μ 41 1 x1 → (w_X2_remember_35 b1 μ2 Q))) ∧ (¬ (nI 30) ≤ (μ.1 41 2) → ∀ μ3 : Mem, μ3 = sI μ 41 2 ((μ.1 41 2) + (nI 1)) → (w_X2_remember_35 b1 μ3 Q)))
abbrev rm_X2_remember : Room := { frames := 2, cells := 0, slots := 0, locals := 81 }
/-- X2_takeBack -/
def w_X2_takeBack (b1 : Nat) (a2 : Int32) (μ : Mem) (Q : Mem → Prop) : Prop :=
  w_X2_stateAt ((μ.1 41 2) - a2) μ (fun r1 => (r1 = none → Q μ) ∧ (∀ b3 : Nat, r1 = some b3 → (sF.2.1 b3 = 4 ∧ w_X4_become b1 b3 μ (fun μ5 => ∀ μ6 : Mem, μ6 = sI μ5 41 2 ((μ5.1 41 2) - a2) → Q μ6))))
abbrev rm_X2_takeBack : Room := { frames := 2, cells := 0, slots := 0, locals := 81 }
/-- X3_append -/
def w_X3_append (a1 : Int32) (μ : Mem) (Q : Int32 → Mem → Prop) : Prop :=
  w_X6_put 2 (μ.1 1 1) a1 μ (fun μ2 => ∀ μ3 : Mem, μ3 = sI μ2 1 1 ((μ2.1 1 1) + (nI 1)) → Q (μ3.1 1 1) μ3)
abbrev rm_X3_append : Room := { frames := 1, cells := 0, slots := 0, locals := 22 }
/-- X3_letterAt -/
def w_X3_letterAt (a1 : Int32) (μ : Mem) (Q : Int32 → Prop) : Prop :=
  ((a1 < 0 → Q ((-1) : Int32)) ∧ (¬ a1 < 0 → (((μ.1 1 1) ≤ a1 → Q ((-1) : Int32)) ∧ (¬ (μ.1 1 1) ≤ a1 → (((nI 240) ≤ a1 → Q ((-1) : Int32)) ∧ (¬ (nI 240) ≤ a1 → (vp_in a1 240 ∧ Q (μ.1 2 (a1).toNatClampNeg))))))))
abbrev rm_X3_letterAt : Room := { frames := 0, cells := 0, slots := 0, locals := 0 }
/-- X3_nextLetter -/
def w_X3_nextLetter_37 (μ : Mem) (Q : Int32 → Mem → Prop) : Prop :=
  w_X3_letterAt (μ.1 1 2) μ (fun r4 => Q r4 μ)
def s_X3_nextLetter_0  (X0 : Mem → Prop)  (μ : Mem) (Q : Int32 → Mem → Prop) : Prop :=
  (((μ.1 1 1) ≤ (μ.1 1 2) → (w_X3_nextLetter_37 μ Q)) ∧ (¬ (μ.1 1 1) ≤ (μ.1 1 2) → w_X3_letterAt (μ.1 1 2) μ (fun r1 => ((¬ r1 = (nI 32) → (w_X3_nextLetter_37 μ Q)) ∧ (r1 = (nI 32) → ∀ μ3 : Mem, μ3 = sI μ 1 2 ((μ.1 1 2) + (nI 1)) → (X0 μ3))))))
def w_X3_nextLetter_0 (μ : Mem) (Q : Int32 → Mem → Prop) : Prop :=
  ∀ X0 : Mem → Prop, (∀  (μ : Mem), s_X3_nextLetter_0  X0 μ Q → X0 μ) → X0 μ
def w_X3_nextLetter (μ : Mem) (Q : Int32 → Mem → Prop) : Prop :=
  (w_X3_nextLetter_0 μ Q)
abbrev rm_X3_nextLetter : Room := { frames := 1, cells := 0, slots := 0, locals := 21 }
/-- X3_faultOfWord -/
def w_X3_faultOfWord (b1 : Nat) (a2 : Int32) (μ : Mem) (Q : Int32 → Prop) : Prop :=
  ((¬ (μ.1 b1 0) = 0 → ((a2 = (nI 100) → (((μ.1 1 6) = 0 → Q (nI 0)) ∧ (¬ (μ.1 1 6) = 0 → Q (nI 3)))) ∧ (¬ a2 = (nI 100) → ((a2 = (nI 101) → Q (nI 1)) ∧ (¬ a2 = (nI 101) → ((a2 = (nI 102) → Q (nI 3)) ∧ (¬ a2 = (nI 102) → ((a2 = (nI 103) → (((nI 4) ≤ (μ.1 b1 4) → Q (nI 3)) ∧ (¬ (nI 4) ≤ (μ.1 b1 4) → Q (nI 0)))) ∧ (¬ a2 = (nI 103) → ((a2 = (nI 104) → (((nI 12) ≤ (μ.1 b1 2) → Q (nI 3)) ∧ (¬ (nI 12) ≤ (μ.1 b1 2) → Q (nI 0)))) ∧ (¬ a2 = (nI 104) → ((a2 = (nI 105) → Q (nI 1)) ∧ (¬ a2 = (nI 105) → ((a2 = (nI 106) → Q (nI 1)) ∧ (¬ a2 = (nI 106) → ((a2 = (nI 107) → Q (nI 1)) ∧ (¬ a2 = (nI 107) → ((a2 = (nI 108) → Q (nI 1)) ∧ (¬ a2 = (nI 108) → ((a2 = (nI 109) → Q (nI 1)) ∧ (¬ a2 = (nI 109) → ((a2 = (nI 110) → Q (nI 1)) ∧ (¬ a2 = (nI 110) → ((a2 = (nI 111) → Q (nI 1)) ∧ (¬ a2 = (nI 111) → ((a2 = (nI 112) → (((nI 6) ≤ (μ.1 b1 3) → Q (nI 3)) ∧ (¬ (nI 6) ≤ (μ.1 b1 3) → Q (nI 0)))) ∧ (¬ a2 = (nI 112) → ((a2 = (nI 113) → Q (nI 1)) ∧ (¬ a2 = (nI 113) → ((a2 = (nI 114) → Q (nI 1)) ∧ (¬ a2 = (nI 114) → ((a2 = (nI 115) → Q (nI 1)) ∧ (¬ a2 = (nI 115) → ((a2 = (nI 116) → Q (nI 1)) ∧ (¬ a2 = (nI 116) → ((a2 = (nI 117) → (((μ.1 1 7) = 0 → Q (nI 0)) ∧ (¬ (μ.1 1 7) = 0 → Q (nI 3)))) ∧ (¬ a2 = (nI 117) → Q (nI 1)))))))))))))))))))))))))))))))))))))) ∧ ((μ.1 b1 0) = 0 → ((¬ a2 = (nI 102) → Q (nI 1)) ∧ (a2 = (nI 102) → Q (nI 0)))))
abbrev rm_X3_faultOfWord : Room := { frames := 0, cells := 0, slots := 0, locals := 0 }
/-- X3_fail -/
def w_X3_fail (a1 : Int32) (a2 : Int32) (μ : Mem) (Q : Mem → Prop) : Prop :=
  (((μ.1 1 4) = 0 → ∀ μ1 : Mem, μ1 = sI μ 1 4 a1 → ∀ μ2 : Mem, μ2 = sI μ1 1 5 a2 → Q μ2) ∧ (¬ (μ.1 1 4) = 0 → Q μ))
abbrev rm_X3_fail : Room := { frames := 0, cells := 0, slots := 0, locals := 0 }
/-- X6_within -/
def w_X6_within (a0 : Int32) (a1 : Int32) (a2 : Int32) (μ : Mem) (Q : Int32 → Prop) : Prop :=
  ((a0 < a1 → Q (nI 0)) ∧ (¬ a0 < a1 → ((a2 < a0 → Q (nI 0)) ∧ (¬ a2 < a0 → Q (nI 1)))))
abbrev rm_X6_within : Room := { frames := 0, cells := 0, slots := 0, locals := 0 }
/-- X3_readNumber -/
def w_X3_readNumber_126 (a1 : Int32) (a2 : Int32) (v5 : Int32) (μ : Mem) (Q : Int32 → Mem → Prop) : Prop :=
  w_X3_fail (nI 2) (μ.1 1 3) μ (fun μ16 => Q v5 μ16)
def w_X3_readNumber_93 (a1 : Int32) (a2 : Int32) (v4 : Int32) (v5 : Int32) (μ : Mem) (Q : Int32 → Mem → Prop) : Prop :=
  ((¬ v4 = 0 → (((nI 3) < v4 → (w_X3_readNumber_126 a1 a2 v5 μ Q)) ∧ (¬ (nI 3) < v4 → w_X6_within v5 a1 a2 μ (fun r11 => ((¬ r11 = 0 → Q v5 μ) ∧ (r11 = 0 → (w_X3_readNumber_126 a1 a2 v5 μ Q))))))) ∧ (v4 = 0 → w_X3_fail (nI 1) (μ.1 1 3) μ (fun μ14 => Q v5 μ14)))
def w_X3_readNumber_68 (a1 : Int32) (a2 : Int32) (X28 : Int32 → Int32 → Int32 → Mem → Prop) (v4 : Int32) (v5 : Int32) (μ : Mem) (Q : Int32 → Mem → Prop) : Prop :=
  ∀ x7 : Int32, x7 = v4 + (nI 1) → ∀ μ8 : Mem, μ8 = sI μ 1 2 ((μ.1 1 2) + (nI 1)) → w_X3_letterAt (μ8.1 1 2) μ8 (fun r9 => (X28 r9 x7 v5 μ8))
def s_X3_readNumber_28 (a1 : Int32) (a2 : Int32) (X28 : Int32 → Int32 → Int32 → Mem → Prop) (v3 : Int32) (v4 : Int32) (v5 : Int32) (μ : Mem) (Q : Int32 → Mem → Prop) : Prop :=
  (((μ.1 1 1) ≤ (μ.1 1 2) → (w_X3_readNumber_93 a1 a2 v4 v5 μ Q)) ∧ (¬ (μ.1 1 1) ≤ (μ.1 1 2) → w_X6_within v3 (nI 48) (nI 57) μ (fun r4 => ((r4 = 0 → (w_X3_readNumber_93 a1 a2 v4 v5 μ Q)) ∧ (¬ r4 = 0 → (((nI 3) ≤ v4 → (w_X3_readNumber_68 a1 a2 X28 v4 v5 μ Q)) ∧ (¬ (nI 3) ≤ v4 → ∀ x6 : Int32, x6 = ((((nI 10) * v5) + v3) - (nI 48)) → (w_X3_readNumber_68 a1 a2 X28 v4 x6 μ Q))))))))
def w_X3_readNumber_28 (a1 : Int32) (a2 : Int32) (v3 : Int32) (v4 : Int32) (v5 : Int32) (μ : Mem) (Q : Int32 → Mem → Prop) : Prop :=
  ∀ X28 : Int32 → Int32 → Int32 → Mem → Prop, (∀ (v3 : Int32) (v4 : Int32) (v5 : Int32) (μ : Mem), s_X3_readNumber_28 a1 a2 X28 v3 v4 v5 μ Q → X28 v3 v4 v5 μ) → X28 v3 v4 v5 μ
def w_X3_readNumber (a1 : Int32) (a2 : Int32) (μ : Mem) (Q : Int32 → Mem → Prop) : Prop :=
  (((μ.1 1 4) = 0 → w_X3_nextLetter  μ (fun r1 μ2 => ∀ μ3 : Mem, μ3 = sI μ2 1 3 (μ2.1 1 2) → (w_X3_readNumber_28 a1 a2 r1 (nI 0) (nI 0) μ3 Q))) ∧ (¬ (μ.1 1 4) = 0 → Q a1 μ))
abbrev rm_X3_readNumber : Room := { frames := 2, cells := 0, slots := 0, locals := 41 }
/-- X3_readEnd -/
def w_X3_readEnd (μ : Mem) (Q : Mem → Prop) : Prop :=
  (((μ.1 1 4) = 0 → w_X3_nextLetter  μ (fun r1 μ2 => ((¬ r1 = (nI 59) → w_X3_fail (nI 1) (μ2.1 1 2) μ2 (fun μ4 => Q μ4)) ∧ (r1 = (nI 59) → ∀ μ5 : Mem, μ5 = sI μ2 1 2 ((μ2.1 1 2) + (nI 1)) → Q μ5)))) ∧ (¬ (μ.1 1 4) = 0 → Q μ))
abbrev rm_X3_readEnd : Room := { frames := 2, cells := 0, slots := 0, locals := 41 }
/-- X3_readCells -/
def w_X3_readCells (b1 : Nat) (μ : Mem) (Q : Mem → Prop) : Prop :=
  w_X3_readNumber (nI 1) (nI 12) μ (fun r1 μ2 => w_X3_readNumber (nI 0) (nI 20) μ2 (fun r3 μ4 => w_X3_readEnd  μ4 (fun μ6 => ∀ μ7 : Mem, μ7 = sI μ6 b1 0 r1 → ∀ μ8 : Mem, μ8 = sI μ7 b1 1 r3 → Q μ8)))
abbrev rm_X3_readCells : Room := { frames := 3, cells := 0, slots := 0, locals := 66 }
/-- X3_readHour -/
def w_X3_readHour (b1 : Nat) (μ : Mem) (Q : Mem → Prop) : Prop :=
  w_X3_readNumber (nI 0) (nI 1) μ (fun r1 μ2 => w_X3_readNumber (nI 0) (nI 40) μ2 (fun r3 μ4 => w_X3_readEnd  μ4 (fun μ6 => w_X6_put (b1 + 1) (μ6.1 b1 2) r1 μ6 (fun μ8 => w_X6_put (b1 + 2) (μ8.1 b1 2) r3 μ8 (fun μ10 => ∀ μ11 : Mem, μ11 = sI μ10 b1 2 ((μ10.1 b1 2) + (nI 1)) → Q μ11)))))
abbrev rm_X3_readHour : Room := { frames := 3, cells := 0, slots := 0, locals := 66 }
/-- X3_readPost -/
def w_X3_readPost_29 (b1 : Nat) (v2 : Int32) (μ : Mem) (Q : Mem → Prop) : Prop :=
  w_X3_readNumber (nI 0) (nI 9) μ (fun r7 μ8 => w_X3_readNumber (nI 1) (nI 99) μ8 (fun r9 μ10 => w_X3_readNumber (nI 0) (nI 1) μ10 (fun r11 μ12 => w_X3_readEnd  μ12 (fun μ14 => w_X6_put (b1 + 3) (μ14.1 b1 3) v2 μ14 (fun μ16 => w_X6_put (b1 + 4) (μ16.1 b1 3) r7 μ16 (fun μ18 => w_X6_put (b1 + 5) (μ18.1 b1 3) r9 μ18 (fun μ20 => w_X6_put (b1 + 6) (μ20.1 b1 3) r11 μ20 (fun μ22 => ∀ μ23 : Mem, μ23 = sI μ22 b1 3 ((μ22.1 b1 3) + (nI 1)) → Q μ23))))))))
def w_X3_readPost (b1 : Nat) (μ : Mem) (Q : Mem → Prop) : Prop :=
  w_X3_readNumber (nI 0) ((μ.1 b1 0) - (nI 1)) μ (fun r1 μ2 => w_X0_hasPostIn b1 r1 μ2 (fun r3 => ((r3 = 0 → (w_X3_readPost_29 b1 r1 μ2 Q)) ∧ (¬ r3 = 0 → w_X3_fail (nI 4) (μ2.1 1 3) μ2 (fun μ6 => (w_X3_readPost_29 b1 r1 μ6 Q))))))
abbrev rm_X3_readPost : Room := { frames := 3, cells := 0, slots := 0, locals := 66 }
/-- X3_readPair -/
def w_X3_readPair (b1 : Nat) (a2 : Int32) (μ : Mem) (Q : Mem → Prop) : Prop :=
  w_X3_readNumber (nI 0) a2 μ (fun r1 μ2 => w_X6_put b1 (nI 0) r1 μ2 (fun μ4 => w_X3_readNumber (nI 0) a2 μ4 (fun r5 μ6 => w_X6_put b1 (nI 1) r5 μ6 (fun μ8 => w_X3_readEnd  μ8 (fun μ10 => Q μ10)))))
abbrev rm_X3_readPair : Room := { frames := 3, cells := 0, slots := 0, locals := 66 }
/-- X3_readGoat -/
def w_X3_readGoat (b1 : Nat) (μ : Mem) (Q : Mem → Prop) : Prop :=
  w_X3_readNumber (nI 0) ((μ.1 b1 0) - (nI 1)) μ (fun r1 μ2 => w_X3_readNumber (nI 1) (nI 20) μ2 (fun r3 μ4 => w_X3_readEnd  μ4 (fun μ6 => w_X6_put (b1 + 9) (μ6.1 b1 4) r1 μ6 (fun μ8 => w_X6_put (b1 + 10) (μ8.1 b1 4) r3 μ8 (fun μ10 => ∀ μ11 : Mem, μ11 = sI μ10 b1 4 ((μ10.1 b1 4) + (nI 1)) → Q μ11)))))
abbrev rm_X3_readGoat : Room := { frames := 3, cells := 0, slots := 0, locals := 66 }
/-- X3_readClause -/
def w_X3_readClause (b1 : Nat) (a2 : Int32) (μ : Mem) (Q : Mem → Prop) : Prop :=
  w_X3_faultOfWord b1 a2 μ (fun r1 => ((r1 = 0 → ∀ μ3 : Mem, μ3 = sI μ 1 2 ((μ.1 1 2) + (nI 1)) → ((a2 = (nI 100) → w_X3_readPair (b1 + 7) (nI 127) μ3 (fun μ5 => ∀ μ6 : Mem, μ6 = sI μ5 1 6 (nI 1) → Q μ6)) ∧ (¬ a2 = (nI 100) → ((a2 = (nI 102) → w_X3_readCells b1 μ3 (fun μ8 => Q μ8)) ∧ (¬ a2 = (nI 102) → ((a2 = (nI 104) → w_X3_readHour b1 μ3 (fun μ10 => Q μ10)) ∧ (¬ a2 = (nI 104) → ((a2 = (nI 112) → w_X3_readPost b1 μ3 (fun μ12 => Q μ12)) ∧ (¬ a2 = (nI 112) → ((a2 = (nI 117) → w_X3_readPair (b1 + 8) (nI 99) μ3 (fun μ14 => ∀ μ15 : Mem, μ15 = sI μ14 1 7 (nI 1) → Q μ15)) ∧ (¬ a2 = (nI 117) → w_X3_readGoat b1 μ3 (fun μ17 => Q μ17)))))))))))) ∧ (¬ r1 = 0 → w_X3_fail r1 (μ.1 1 2) μ (fun μ19 => Q μ19))))
abbrev rm_X3_readClause : Room := { frames := 4, cells := 0, slots := 0, locals := 91 }
/-- X3_readAll -/
def w_X3_readAll_70 (b1 : Nat) (μ : Mem) (Q : Int32 → Mem → Prop) : Prop :=
  ∀ μ13 : Mem, μ13 = sI μ 1 1 (nI 0) → Q (μ13.1 1 4) μ13
def w_X3_readAll_55 (b1 : Nat) (μ : Mem) (Q : Int32 → Mem → Prop) : Prop :=
  (w_X3_readAll_70 b1 μ Q)
def s_X3_readAll_31 (b1 : Nat) (X31 : Int32 → Mem → Prop) (v2 : Int32) (μ : Mem) (Q : Int32 → Mem → Prop) : Prop :=
  (((nI 240) ≤ v2 → (w_X3_readAll_70 b1 μ Q)) ∧ (¬ (nI 240) ≤ v2 → ((¬ (μ.1 1 4) = 0 → (w_X3_readAll_70 b1 μ Q)) ∧ ((μ.1 1 4) = 0 → w_X3_nextLetter  μ (fun r8 μ9 => ((¬ r8 = ((-1) : Int32) → w_X3_readClause b1 r8 μ9 (fun μ11 => ∀ x12 : Int32, x12 = v2 + (nI 1) → (X31 x12 μ11))) ∧ (r8 = ((-1) : Int32) → (w_X3_readAll_55 b1 μ9 Q))))))))
def w_X3_readAll_31 (b1 : Nat) (v2 : Int32) (μ : Mem) (Q : Int32 → Mem → Prop) : Prop :=
  ∀ X31 : Int32 → Mem → Prop, (∀ (v2 : Int32) (μ : Mem), s_X3_readAll_31 b1 X31 v2 μ Q → X31 v2 μ) → X31 v2 μ
def w_X3_readAll (b1 : Nat) (μ : Mem) (Q : Int32 → Mem → Prop) : Prop :=
  w_X0_wipe b1 μ (fun μ2 => ∀ μ3 : Mem, μ3 = sI μ2 1 2 (nI 0) → ∀ μ4 : Mem, μ4 = sI μ3 1 4 (nI 0) → ∀ μ5 : Mem, μ5 = sI μ4 1 5 ((-1) : Int32) → ∀ μ6 : Mem, μ6 = sI μ5 1 6 (nI 0) → ∀ μ7 : Mem, μ7 = sI μ6 1 7 (nI 0) → (w_X3_readAll_31 b1 (nI 0) μ7 Q))
abbrev rm_X3_readAll : Room := { frames := 5, cells := 0, slots := 0, locals := 114 }
/-- X4_begin -/
def s_X4_begin_72 (b0 : Nat) (b1 : Nat) (X72 : Int32 → Mem → Prop) (v2 : Int32) (μ : Mem) (Q : Mem → Prop) : Prop :=
  (((nI 2) ≤ v2 → Q μ) ∧ (¬ (nI 2) ≤ v2 → (vp_in v2 2 ∧ ∀ μ10 : Mem, μ10 = sI μ (b0 + 4) (v2).toNatClampNeg (nI 0) → (vp_in v2 2 ∧ ∀ μ11 : Mem, μ11 = sI μ10 (b0 + 5) (v2).toNatClampNeg (nI 0) → ∀ x12 : Int32, x12 = v2 + (nI 1) → (X72 x12 μ11)))))
def w_X4_begin_72 (b0 : Nat) (b1 : Nat) (v2 : Int32) (μ : Mem) (Q : Mem → Prop) : Prop :=
  ∀ X72 : Int32 → Mem → Prop, (∀ (v2 : Int32) (μ : Mem), s_X4_begin_72 b0 b1 X72 v2 μ Q → X72 v2 μ) → X72 v2 μ
def w_X4_begin_70 (b0 : Nat) (b1 : Nat) (μ : Mem) (Q : Mem → Prop) : Prop :=
  (w_X4_begin_72 b0 b1 (nI 0) μ Q)
def s_X4_begin_27 (b0 : Nat) (b1 : Nat) (X27 : Int32 → Mem → Prop) (v2 : Int32) (μ : Mem) (Q : Mem → Prop) : Prop :=
  (((nI 6) ≤ v2 → (w_X4_begin_70 b0 b1 μ Q)) ∧ (¬ (nI 6) ≤ v2 → (vp_in v2 6 ∧ (vp_in v2 6 ∧ ∀ μ6 : Mem, μ6 = sI μ (b0 + 1) (v2).toNatClampNeg (μ.1 (b1 + 3) (v2).toNatClampNeg) → (vp_in v2 6 ∧ (vp_in v2 6 ∧ ∀ μ7 : Mem, μ7 = sI μ6 (b0 + 2) (v2).toNatClampNeg (μ6.1 (b1 + 4) (v2).toNatClampNeg) → (vp_in v2 6 ∧ ∀ μ8 : Mem, μ8 = sI μ7 (b0 + 3) (v2).toNatClampNeg (nI 0) → ∀ x9 : Int32, x9 = v2 + (nI 1) → (X27 x9 μ8))))))))
def w_X4_begin_27 (b0 : Nat) (b1 : Nat) (v2 : Int32) (μ : Mem) (Q : Mem → Prop) : Prop :=
  ∀ X27 : Int32 → Mem → Prop, (∀ (v2 : Int32) (μ : Mem), s_X4_begin_27 b0 b1 X27 v2 μ Q → X27 v2 μ) → X27 v2 μ
def w_X4_begin (b0 : Nat) (b1 : Nat) (μ : Mem) (Q : Mem → Prop) : Prop :=
  ∀ μ1 : Mem, μ1 = sI μ b0 0 (nI 0) → ∀ μ2 : Mem, μ2 = sI μ1 b0 1 (nI 0) → ∀ μ3 : Mem, μ3 = sI μ2 b0 2 (nI 0) → ∀ μ4 : Mem, μ4 = sI μ3 b0 3 (nI 0) → ∀ μ5 : Mem, μ5 = sI μ4 b0 4 (nI 0) → (w_X4_begin_27 b0 b1 (nI 0) μ5 Q)
abbrev rm_X4_begin : Room := { frames := 0, cells := 0, slots := 0, locals := 0 }
/-- X4_hanging -/
def w_X4_hanging_29 (b0 : Nat) (b1 : Nat) (X4 : Int32 → Int32 → Prop) (v2 : Int32) (v3 : Int32) (μ : Mem) (Q : Int32 → Prop) : Prop :=
  ∀ x6 : Int32, x6 = v3 + (nI 1) → (X4 v2 x6)
def s_X4_hanging_4 (b0 : Nat) (b1 : Nat) (μ : Mem) (X4 : Int32 → Int32 → Prop) (v2 : Int32) (v3 : Int32) (Q : Int32 → Prop) : Prop :=
  (((nI 2) ≤ v3 → Q v2) ∧ (¬ (nI 2) ≤ v3 → w_X0_hangsOn b1 v3 (μ.1 b0 0) μ (fun r1 => ((r1 = 0 → (w_X4_hanging_29 b0 b1 X4 v2 v3 μ Q)) ∧ (¬ r1 = 0 → w_X0_postsOf b1 v3 μ (fun r3 => ∀ x5 : Int32, x5 = (v2 ||| r3) → (w_X4_hanging_29 b0 b1 X4 x5 v3 μ Q)))))))
def w_X4_hanging_4 (b0 : Nat) (b1 : Nat) (v2 : Int32) (v3 : Int32) (μ : Mem) (Q : Int32 → Prop) : Prop :=
  ∀ X4 : Int32 → Int32 → Prop, (∀ (v2 : Int32) (v3 : Int32), s_X4_hanging_4 b0 b1 μ X4 v2 v3 Q → X4 v2 v3) → X4 v2 v3
def w_X4_hanging (b0 : Nat) (b1 : Nat) (μ : Mem) (Q : Int32 → Prop) : Prop :=
  (w_X4_hanging_4 b0 b1 (nI 0) (nI 0) μ Q)
abbrev rm_X4_hanging : Room := { frames := 2, cells := 0, slots := 0, locals := 43 }
/-- X4_postIn -/
def s_X4_postIn_2 (b0 : Nat) (a1 : Int32) (μ : Mem) (X2 : Int32 → Prop) (v2 : Int32) (Q : Int32 → Prop) : Prop :=
  (((nI 6) ≤ v2 → Q ((-1) : Int32)) ∧ (¬ (nI 6) ≤ v2 → (vp_in v2 6 ∧ ((¬ (μ.1 (b0 + 1) (v2).toNatClampNeg) = a1 → ∀ x1 : Int32, x1 = v2 + (nI 1) → (X2 x1)) ∧ ((μ.1 (b0 + 1) (v2).toNatClampNeg) = a1 → Q v2)))))
def w_X4_postIn_2 (b0 : Nat) (a1 : Int32) (v2 : Int32) (μ : Mem) (Q : Int32 → Prop) : Prop :=
  ∀ X2 : Int32 → Prop, (∀ (v2 : Int32), s_X4_postIn_2 b0 a1 μ X2 v2 Q → X2 v2) → X2 v2
def w_X4_postIn (b0 : Nat) (a1 : Int32) (μ : Mem) (Q : Int32 → Prop) : Prop :=
  (w_X4_postIn_2 b0 a1 (nI 0) μ Q)
abbrev rm_X4_postIn : Room := { frames := 0, cells := 0, slots := 0, locals := 0 }
/-- X4_inJars -/
def s_X4_inJars_4 (b0 : Nat) (μ : Mem) (X4 : Int32 → Int32 → Prop) (v1 : Int32) (v2 : Int32) (Q : Int32 → Prop) : Prop :=
  (((nI 6) ≤ v2 → Q v1) ∧ (¬ (nI 6) ≤ v2 → (vp_in v2 6 ∧ ∀ x1 : Int32, x1 = (v1 + (μ.1 (b0 + 3) (v2).toNatClampNeg)) → ∀ x2 : Int32, x2 = v2 + (nI 1) → (X4 x1 x2))))
def w_X4_inJars_4 (b0 : Nat) (v1 : Int32) (v2 : Int32) (μ : Mem) (Q : Int32 → Prop) : Prop :=
  ∀ X4 : Int32 → Int32 → Prop, (∀ (v1 : Int32) (v2 : Int32), s_X4_inJars_4 b0 μ X4 v1 v2 Q → X4 v1 v2) → X4 v1 v2
def w_X4_inJars (b0 : Nat) (μ : Mem) (Q : Int32 → Prop) : Prop :=
  (w_X4_inJars_4 b0 (nI 0) (nI 0) μ Q)
abbrev rm_X4_inJars : Room := { frames := 0, cells := 0, slots := 0, locals := 0 }
/-- X4_lampedFog -/
def w_X4_lampedFog (b0 : Nat) (b1 : Nat) (a2 : Int32) (μ : Mem) (Q : Int32 → Prop) : Prop :=
  (((μ.1 b0 2) = 0 → Q a2) ∧ (¬ (μ.1 b0 2) = 0 → ∀ x1 : Int32, x1 = (if (a2 - (μ.1 b1 1)) < (nI 0) then (nI 0) else (a2 - (μ.1 b1 1))) → Q x1))
abbrev rm_X4_lampedFog : Room := { frames := 1, cells := 0, slots := 0, locals := 24 }
/-- X5_lineUp -/
def w_X5_lineUp_87 (b1 : Nat) (a2 : Int32) (a3 : Int32) (a4 : Int32) (X27 : Int32 → Mem → Prop) (v5 : Int32) (μ : Mem) (Q : Mem → Prop) : Prop :=
  ∀ x6 : Int32, x6 = v5 + (nI 1) → (X27 x6 μ)
def w_X5_lineUp_82 (b1 : Nat) (a2 : Int32) (a3 : Int32) (a4 : Int32) (X27 : Int32 → Mem → Prop) (v5 : Int32) (s2 : Int32) (μ : Mem) (Q : Mem → Prop) : Prop :=
  w_X6_put 40 s2 v5 μ (fun μ5 => (w_X5_lineUp_87 b1 a2 a3 a4 X27 v5 μ5 Q))
def s_X5_lineUp_27 (b1 : Nat) (a2 : Int32) (a3 : Int32) (a4 : Int32) (X27 : Int32 → Mem → Prop) (v5 : Int32) (μ : Mem) (Q : Mem → Prop) : Prop :=
  (((nI 6) ≤ v5 → Q μ) ∧ (¬ (nI 6) ≤ v5 → (vp_in v5 6 ∧ ∀ μ3 : Mem, μ3 = sI μ 39 (v5).toNatClampNeg (nI 0) → ((¬ ((a3 >>> (v5 &&& 31)) &&& (nI 1)) = (nI 1) → (w_X5_lineUp_87 b1 a2 a3 a4 X27 v5 μ3 Q)) ∧ (((a3 >>> (v5 &&& 31)) &&& (nI 1)) = (nI 1) → ((¬ a4 = 0 → (vp_in v5 6 ∧ (w_X5_lineUp_82 b1 a2 a3 a4 X27 v5 ((a2 - (nI 1)) - (μ3.1 (b1 + 1) (v5).toNatClampNeg)) μ3 Q))) ∧ (a4 = 0 → (vp_in v5 6 ∧ (w_X5_lineUp_82 b1 a2 a3 a4 X27 v5 (μ3.1 (b1 + 1) (v5).toNatClampNeg) μ3 Q)))))))))
def w_X5_lineUp_27 (b1 : Nat) (a2 : Int32) (a3 : Int32) (a4 : Int32) (v5 : Int32) (μ : Mem) (Q : Mem → Prop) : Prop :=
  ∀ X27 : Int32 → Mem → Prop, (∀ (v5 : Int32) (μ : Mem), s_X5_lineUp_27 b1 a2 a3 a4 X27 v5 μ Q → X27 v5 μ) → X27 v5 μ
def w_X5_lineUp_24 (b1 : Nat) (a2 : Int32) (a3 : Int32) (a4 : Int32) (μ : Mem) (Q : Mem → Prop) : Prop :=
  (w_X5_lineUp_27 b1 a2 a3 a4 (nI 0) μ Q)
def s_X5_lineUp_3 (b1 : Nat) (a2 : Int32) (a3 : Int32) (a4 : Int32) (X3 : Int32 → Mem → Prop) (v5 : Int32) (μ : Mem) (Q : Mem → Prop) : Prop :=
  (((nI 12) ≤ v5 → (w_X5_lineUp_24 b1 a2 a3 a4 μ Q)) ∧ (¬ (nI 12) ≤ v5 → (vp_in v5 12 ∧ ∀ μ1 : Mem, μ1 = sI μ 40 (v5).toNatClampNeg ((-1) : Int32) → ∀ x2 : Int32, x2 = v5 + (nI 1) → (X3 x2 μ1))))
def w_X5_lineUp_3 (b1 : Nat) (a2 : Int32) (a3 : Int32) (a4 : Int32) (v5 : Int32) (μ : Mem) (Q : Mem → Prop) : Prop :=
  ∀ X3 : Int32 → Mem → Prop, (∀ (v5 : Int32) (μ : Mem), s_X5_lineUp_3 b1 a2 a3 a4 X3 v5 μ Q → X3 v5 μ) → X3 v5 μ
def w_X5_lineUp (b1 : Nat) (a2 : Int32) (a3 : Int32) (a4 : Int32) (μ : Mem) (Q : Mem → Prop) : Prop :=
  (w_X5_lineUp_3 b1 a2 a3 a4 (nI 0) μ Q)
abbrev rm_X5_lineUp : Room := { frames := 1, cells := 0, slots := 0, locals := 22 }
/-- X5_blow -/
def w_X5_blow_113 (b1 : Nat) (a2 : Int32) (a3 : Int32) (a4 : Int32) (a5 : Int32) (X18 : Int32 → Mem → Prop) (v6 : Int32) (μ : Mem) (Q : Mem → Prop) : Prop :=
  ∀ x7 : Int32, x7 = v6 + (nI 1) → (X18 x7 μ)
def w_X5_blow_78 (b1 : Nat) (a2 : Int32) (a3 : Int32) (a4 : Int32) (a5 : Int32) (X18 : Int32 → Mem → Prop) (v6 : Int32) (v7 : Int32) (s1 : Int32) (μ : Mem) (Q : Mem → Prop) : Prop :=
  (¬ (nI 10) = 0 ∧ (vp_in v7 6 ∧ ∀ μ5 : Mem, μ5 = sI μ 39 (v7).toNatClampNeg (((μ.1 38 2) * s1) / (nI 10)) → (vp_in v7 6 ∧ ∀ μ6 : Mem, μ6 = sI μ5 38 2 ((μ5.1 38 2) - (μ5.1 39 (v7).toNatClampNeg)) → (w_X5_blow_113 b1 a2 a3 a4 a5 X18 v6 μ6 Q))))
def s_X5_blow_18 (b1 : Nat) (a2 : Int32) (a3 : Int32) (a4 : Int32) (a5 : Int32) (X18 : Int32 → Mem → Prop) (v6 : Int32) (μ : Mem) (Q : Mem → Prop) : Prop :=
  (((nI 12) ≤ v6 → Q μ) ∧ (¬ (nI 12) ≤ v6 → (vp_in v6 12 ∧ ∀ x4 : Int32, x4 = (μ.1 40 (v6).toNatClampNeg) → ((x4 < 0 → (w_X5_blow_113 b1 a2 a3 a4 a5 X18 v6 μ Q)) ∧ (¬ x4 < 0 → ((x4 < (nI 6) → (((μ.1 38 2) < (nI 20) → (vp_in x4 6 ∧ (w_X5_blow_78 b1 a2 a3 a4 a5 X18 v6 x4 ((nI 9) - (μ.1 (b1 + 2) (x4).toNatClampNeg)) μ Q))) ∧ (¬ (μ.1 38 2) < (nI 20) → (vp_in x4 6 ∧ (w_X5_blow_78 b1 a2 a3 a4 a5 X18 v6 x4 (μ.1 (b1 + 2) (x4).toNatClampNeg) μ Q))))) ∧ (¬ x4 < (nI 6) → (w_X5_blow_113 b1 a2 a3 a4 a5 X18 v6 μ Q))))))))
def w_X5_blow_18 (b1 : Nat) (a2 : Int32) (a3 : Int32) (a4 : Int32) (a5 : Int32) (v6 : Int32) (μ : Mem) (Q : Mem → Prop) : Prop :=
  ∀ X18 : Int32 → Mem → Prop, (∀ (v6 : Int32) (μ : Mem), s_X5_blow_18 b1 a2 a3 a4 a5 X18 v6 μ Q → X18 v6 μ) → X18 v6 μ
def w_X5_blow (b1 : Nat) (a2 : Int32) (a3 : Int32) (a4 : Int32) (a5 : Int32) (μ : Mem) (Q : Mem → Prop) : Prop :=
  w_X5_lineUp b1 a2 a3 a4 μ (fun μ2 => ∀ μ3 : Mem, μ3 = sI μ2 38 2 a5 → (w_X5_blow_18 b1 a2 a3 a4 a5 (nI 0) μ3 Q))
abbrev rm_X5_blow : Room := { frames := 2, cells := 0, slots := 0, locals := 47 }
/-- X4_counted -/
def w_X4_counted (a0 : Int32) (μ : Mem) (Q : Int32 → Prop) : Prop :=
  ∀ x1 : Int32, x1 = (if (nI 999999) < a0 then (nI 999999) else a0) → Q x1
abbrev rm_X4_counted : Room := { frames := 1, cells := 0, slots := 0, locals := 24 }
/-- X4_emptyJarsOf -/
def w_X4_emptyJarsOf_50 (b0 : Nat) (b1 : Nat) (a2 : Int32) (v3 : Int32) (μ : Mem) (Q : Int32 → Mem → Prop) : Prop :=
  w_X6_at (b0 + 4) a2 μ (fun r4 => ∀ x6 : Int32, x6 = (if (nI 99999) < (r4 + v3) then (nI 99999) else (r4 + v3)) → w_X6_put (b0 + 4) a2 x6 μ (fun μ8 => Q v3 μ8))
def w_X4_emptyJarsOf_44 (b0 : Nat) (b1 : Nat) (a2 : Int32) (X5 : Int32 → Int32 → Mem → Prop) (v3 : Int32) (v4 : Int32) (μ : Mem) (Q : Int32 → Mem → Prop) : Prop :=
  ∀ x3 : Int32, x3 = v4 + (nI 1) → (X5 v3 x3 μ)
def s_X4_emptyJarsOf_5 (b0 : Nat) (b1 : Nat) (a2 : Int32) (X5 : Int32 → Int32 → Mem → Prop) (v3 : Int32) (v4 : Int32) (μ : Mem) (Q : Int32 → Mem → Prop) : Prop :=
  (((nI 6) ≤ v4 → (w_X4_emptyJarsOf_50 b0 b1 a2 v3 μ Q)) ∧ (¬ (nI 6) ≤ v4 → (vp_in v4 6 ∧ (((μ.1 (b1 + 6) (v4).toNatClampNeg) = a2 → (vp_in v4 6 ∧ ∀ x1 : Int32, x1 = (v3 + (μ.1 (b0 + 3) (v4).toNatClampNeg)) → (vp_in v4 6 ∧ ∀ μ2 : Mem, μ2 = sI μ (b0 + 3) (v4).toNatClampNeg (nI 0) → (w_X4_emptyJarsOf_44 b0 b1 a2 X5 x1 v4 μ2 Q)))) ∧ (¬ (μ.1 (b1 + 6) (v4).toNatClampNeg) = a2 → (w_X4_emptyJarsOf_44 b0 b1 a2 X5 v3 v4 μ Q))))))
def w_X4_emptyJarsOf_5 (b0 : Nat) (b1 : Nat) (a2 : Int32) (v3 : Int32) (v4 : Int32) (μ : Mem) (Q : Int32 → Mem → Prop) : Prop :=
  ∀ X5 : Int32 → Int32 → Mem → Prop, (∀ (v3 : Int32) (v4 : Int32) (μ : Mem), s_X4_emptyJarsOf_5 b0 b1 a2 X5 v3 v4 μ Q → X5 v3 v4 μ) → X5 v3 v4 μ
def w_X4_emptyJarsOf (b0 : Nat) (b1 : Nat) (a2 : Int32) (μ : Mem) (Q : Int32 → Mem → Prop) : Prop :=
  (w_X4_emptyJarsOf_5 b0 b1 a2 (nI 0) (nI 0) μ Q)
abbrev rm_X4_emptyJarsOf : Room := { frames := 1, cells := 0, slots := 0, locals := 24 }
/-- X4_loseFromJar -/
def w_X4_loseFromJar (b0 : Nat) (a1 : Int32) (a2 : Int32) (μ : Mem) (Q : Int32 → Mem → Prop) : Prop :=
  w_X6_at (b0 + 3) a1 μ (fun r1 => ∀ x3 : Int32, x3 = (if (r1 - a2) < (nI 0) then (nI 0) else (r1 - a2)) → w_X6_put (b0 + 3) a1 x3 μ (fun μ5 => w_X6_at (b0 + 3) a1 μ5 (fun r6 => Q r6 μ5)))
abbrev rm_X4_loseFromJar : Room := { frames := 1, cells := 0, slots := 0, locals := 24 }
/-- X4_endDay -/
def w_X4_endDay_159 (b0 : Nat) (b1 : Nat) (a2 : Int32) (μ : Mem) (Q : Mem → Prop) : Prop :=
  ∀ μ21 : Mem, μ21 = sI μ b0 0 ((μ.1 b0 0) + (nI 1)) → ∀ μ22 : Mem, μ22 = sI μ21 b0 1 (nI 0) → Q μ22
def s_X4_endDay_95 (b0 : Nat) (b1 : Nat) (a2 : Int32) (X95 : Int32 → Mem → Prop) (v3 : Int32) (μ : Mem) (Q : Mem → Prop) : Prop :=
  (((nI 2) ≤ v3 → (w_X4_endDay_159 b0 b1 a2 μ Q)) ∧ (¬ (nI 2) ≤ v3 → (vp_in v3 2 ∧ (vp_in v3 2 ∧ ∀ x15 : Int32, x15 = (if (μ.1 (b0 + 4) (v3).toNatClampNeg) < (μ.1 (b1 + 8) (v3).toNatClampNeg) then (μ.1 (b0 + 4) (v3).toNatClampNeg) else (μ.1 (b1 + 8) (v3).toNatClampNeg)) → (vp_in v3 2 ∧ (vp_in v3 2 ∧ ∀ μ16 : Mem, μ16 = sI μ (b0 + 4) (v3).toNatClampNeg ((μ.1 (b0 + 4) (v3).toNatClampNeg) - x15) → (vp_in v3 2 ∧ (vp_in v3 2 ∧ w_X4_counted (((μ16.1 (b0 + 5) (v3).toNatClampNeg) + (μ16.1 (b1 + 8) (v3).toNatClampNeg)) - x15) μ16 (fun r17 => (vp_in v3 2 ∧ ∀ μ19 : Mem, μ19 = sI μ16 (b0 + 5) (v3).toNatClampNeg r17 → ∀ x20 : Int32, x20 = v3 + (nI 1) → (X95 x20 μ19)))))))))))
def w_X4_endDay_95 (b0 : Nat) (b1 : Nat) (a2 : Int32) (v3 : Int32) (μ : Mem) (Q : Mem → Prop) : Prop :=
  ∀ X95 : Int32 → Mem → Prop, (∀ (v3 : Int32) (μ : Mem), s_X4_endDay_95 b0 b1 a2 X95 v3 μ Q → X95 v3 μ) → X95 v3 μ
def w_X4_endDay_93 (b0 : Nat) (b1 : Nat) (a2 : Int32) (μ : Mem) (Q : Mem → Prop) : Prop :=
  (w_X4_endDay_95 b0 b1 a2 (nI 0) μ Q)
def s_X4_endDay_20 (b0 : Nat) (b1 : Nat) (a2 : Int32) (X20 : Int32 → Mem → Prop) (v3 : Int32) (μ : Mem) (Q : Mem → Prop) : Prop :=
  (((μ.1 b1 4) ≤ v3 → (w_X4_endDay_93 b0 b1 a2 μ Q)) ∧ (¬ (μ.1 b1 4) ≤ v3 → (((nI 4) ≤ v3 → (w_X4_endDay_93 b0 b1 a2 μ Q)) ∧ (¬ (nI 4) ≤ v3 → (vp_in v3 4 ∧ w_X4_postIn b0 (μ.1 (b1 + 9) (v3).toNatClampNeg) μ (fun r5 => w_X6_at (b0 + 3) r5 μ (fun r7 => (vp_in v3 4 ∧ w_X4_loseFromJar b0 r5 (μ.1 (b1 + 10) (v3).toNatClampNeg) μ (fun r9 μ10 => w_X4_counted (((μ10.1 b0 4) + r7) - r9) μ10 (fun r11 => ∀ μ13 : Mem, μ13 = sI μ10 b0 4 r11 → ∀ x14 : Int32, x14 = v3 + (nI 1) → (X20 x14 μ13)))))))))))
def w_X4_endDay_20 (b0 : Nat) (b1 : Nat) (a2 : Int32) (v3 : Int32) (μ : Mem) (Q : Mem → Prop) : Prop :=
  ∀ X20 : Int32 → Mem → Prop, (∀ (v3 : Int32) (μ : Mem), s_X4_endDay_20 b0 b1 a2 X20 v3 μ Q → X20 v3 μ) → X20 v3 μ
def w_X4_endDay_18 (b0 : Nat) (b1 : Nat) (a2 : Int32) (μ : Mem) (Q : Mem → Prop) : Prop :=
  (w_X4_endDay_20 b0 b1 a2 (nI 0) μ Q)
def w_X4_endDay (b0 : Nat) (b1 : Nat) (a2 : Int32) (μ : Mem) (Q : Mem → Prop) : Prop :=
  ((a2 = 0 → (w_X4_endDay_18 b0 b1 a2 μ Q)) ∧ (¬ a2 = 0 → w_X4_emptyJarsOf b0 b1 (nI 0) μ (fun r1 μ2 => w_X4_emptyJarsOf b0 b1 (nI 1) μ2 (fun r3 μ4 => (w_X4_endDay_18 b0 b1 a2 μ4 Q)))))
abbrev rm_X4_endDay : Room := { frames := 2, cells := 0, slots := 0, locals := 48 }
/-- X4_passHour -/
def w_X4_passHour_117 (b0 : Nat) (b1 : Nat) (a3 : Int32) (a4 : Int32) (a5 : Int32) (v6 : Int32) (μ : Mem) (Q : Int32 → Mem → Prop) : Prop :=
  ∀ μ15 : Mem, μ15 = sI μ b0 1 ((μ.1 b0 1) + (nI 1)) → w_X0_hoursOfDay b1 μ15 (fun r16 => (((μ15.1 b0 1) < r16 → Q v6 μ15) ∧ (¬ (μ15.1 b0 1) < r16 → w_X4_endDay b0 b1 a5 μ15 (fun μ19 => Q v6 μ19))))
def s_X4_passHour_28 (b0 : Nat) (b1 : Nat) (a3 : Int32) (a4 : Int32) (a5 : Int32) (X28 : Int32 → Int32 → Mem → Prop) (v6 : Int32) (v7 : Int32) (μ : Mem) (Q : Int32 → Mem → Prop) : Prop :=
  (((nI 6) ≤ v7 → (w_X4_passHour_117 b0 b1 a3 a4 a5 v6 μ Q)) ∧ (¬ (nI 6) ≤ v7 → (vp_in v7 6 ∧ (vp_in v7 6 ∧ (vp_in v7 6 ∧ ∀ μ7 : Mem, μ7 = sI μ (b0 + 3) (v7).toNatClampNeg ((μ.1 (b0 + 3) (v7).toNatClampNeg) + (μ.1 39 (v7).toNatClampNeg)) → (vp_in v7 6 ∧ (vp_in v7 6 ∧ ∀ x8 : Int32, x8 = (if ((μ7.1 (b0 + 3) (v7).toNatClampNeg) - (μ7.1 (b1 + 5) (v7).toNatClampNeg)) < (nI 0) then (nI 0) else ((μ7.1 (b0 + 3) (v7).toNatClampNeg) - (μ7.1 (b1 + 5) (v7).toNatClampNeg))) → (vp_in v7 6 ∧ (vp_in v7 6 ∧ ∀ μ9 : Mem, μ9 = sI μ7 (b0 + 3) (v7).toNatClampNeg ((μ7.1 (b0 + 3) (v7).toNatClampNeg) - x8) → w_X4_counted ((μ9.1 b0 3) + x8) μ9 (fun r10 => ∀ μ12 : Mem, μ12 = sI μ9 b0 3 r10 → (vp_in v7 6 ∧ ∀ x13 : Int32, x13 = (v6 + (μ12.1 39 (v7).toNatClampNeg)) → ∀ x14 : Int32, x14 = v7 + (nI 1) → (X28 x13 x14 μ12))))))))))))
def w_X4_passHour_28 (b0 : Nat) (b1 : Nat) (a3 : Int32) (a4 : Int32) (a5 : Int32) (v6 : Int32) (v7 : Int32) (μ : Mem) (Q : Int32 → Mem → Prop) : Prop :=
  ∀ X28 : Int32 → Int32 → Mem → Prop, (∀ (v6 : Int32) (v7 : Int32) (μ : Mem), s_X4_passHour_28 b0 b1 a3 a4 a5 X28 v6 v7 μ Q → X28 v6 v7 μ) → X28 v6 v7 μ
def w_X4_passHour (b0 : Nat) (b1 : Nat) (a3 : Int32) (a4 : Int32) (a5 : Int32) (μ : Mem) (Q : Int32 → Mem → Prop) : Prop :=
  w_X4_hanging b0 b1 μ (fun r1 => w_X4_lampedFog b0 b1 a4 μ (fun r3 => w_X5_blow b0 (μ.1 b1 0) r1 a3 r3 μ (fun μ6 => (w_X4_passHour_28 b0 b1 a3 a4 a5 (nI 0) (nI 0) μ6 Q))))
abbrev rm_X4_passHour : Room := { frames := 3, cells := 0, slots := 0, locals := 75 }
/-- X5_takerOf -/
def w_X5_takerOf_47 (a1 : Int32) (X4 : Int32 → Int32 → Prop) (v2 : Int32) (v3 : Int32) (μ : Mem) (Q : Int32 → Prop) : Prop :=
  ∀ x5 : Int32, x5 = v3 + (nI 1) → (X4 v2 x5)
def s_X5_takerOf_4 (a1 : Int32) (μ : Mem) (X4 : Int32 → Int32 → Prop) (v2 : Int32) (v3 : Int32) (Q : Int32 → Prop) : Prop :=
  (((nI 12) ≤ v3 → Q ((-1) : Int32)) ∧ (¬ (nI 12) ≤ v3 → (vp_in v3 12 ∧ ∀ x1 : Int32, x1 = (μ.1 40 (v3).toNatClampNeg) → ((¬ x1 = ((-1) : Int32) → w_X6_at 39 x1 μ (fun r2 => ∀ x4 : Int32, x4 = (v2 + r2) → ((x4 ≤ a1 → (w_X5_takerOf_47 a1 X4 x4 v3 μ Q)) ∧ (¬ x4 ≤ a1 → Q x1)))) ∧ (x1 = ((-1) : Int32) → (w_X5_takerOf_47 a1 X4 v2 v3 μ Q))))))
def w_X5_takerOf_4 (a1 : Int32) (v2 : Int32) (v3 : Int32) (μ : Mem) (Q : Int32 → Prop) : Prop :=
  ∀ X4 : Int32 → Int32 → Prop, (∀ (v2 : Int32) (v3 : Int32), s_X5_takerOf_4 a1 μ X4 v2 v3 Q → X4 v2 v3) → X4 v2 v3
def w_X5_takerOf (a1 : Int32) (μ : Mem) (Q : Int32 → Prop) : Prop :=
  (w_X5_takerOf_4 a1 (nI 0) (nI 0) μ Q)
abbrev rm_X5_takerOf : Room := { frames := 1, cells := 0, slots := 0, locals := 21 }
/-- X6_feed -/
def w_X6_feed (a1 : Int32) (μ : Mem) (Q : Int32 → Mem → Prop) : Prop :=
  w_X6_within a1 (nI 0) (nI 255) μ (fun r1 => ((¬ r1 = 0 → (((μ.1 1 1) < (nI 240) → w_X3_append a1 μ (fun r3 μ4 => Q r3 μ4)) ∧ (¬ (μ.1 1 1) < (nI 240) → Q ((-1000000004) : Int32) μ))) ∧ (r1 = 0 → Q ((-1000000002) : Int32) μ)))
abbrev rm_X6_feed : Room := { frames := 2, cells := 0, slots := 0, locals := 43 }
/-- X6_coast -/
def w_X6_coast (μ : Mem) (Q : Int32 → Mem → Prop) : Prop :=
  w_X3_readAll (μ.2.2 1) μ (fun r2 μ3 => ((r2 = 0 → ∀ μ6 : Mem, μ6 = sR μ3 0 (μ3.2.2 1) → ∀ μ7 : Mem, μ7 = sR μ6 1 (μ3.2.2 0) → w_X4_begin 25 (μ7.2.2 0) μ7 (fun μ10 => ∀ μ11 : Mem, μ11 = sI μ10 41 2 (nI 0) → (vp_in (nI 0) 2 ∧ ∀ μ12 : Mem, μ12 = sI μ11 236 ((nI 0)).toNatClampNeg ((-1) : Int32) → (vp_in (nI 1) 2 ∧ ∀ μ13 : Mem, μ13 = sI μ12 236 ((nI 1)).toNatClampNeg ((-1) : Int32) → ∀ μ14 : Mem, μ14 = sI μ13 237 3 (nI 0) → ∀ μ15 : Mem, μ15 = sI μ14 241 3 (nI 0) → Q (μ15.1 (μ15.2.2 0) 3) μ15)))) ∧ (¬ r2 = 0 → Q (((-10) : Int32) - r2) μ3)))
abbrev rm_X6_coast : Room := { frames := 6, cells := 0, slots := 0, locals := 137 }
/-- X6_fault -/
def w_X6_fault (μ : Mem) (Q : Int32 → Prop) : Prop :=
  Q (μ.1 1 5)
abbrev rm_X6_fault : Room := { frames := 0, cells := 0, slots := 0, locals := 0 }
/-- X6_told -/
def w_X6_told (a1 : Int32) (μ : Mem) (Q : Int32 → Prop) : Prop :=
  ((a1 = (nI 0) → Q (μ.1 (μ.2.2 0) 0)) ∧ (¬ a1 = (nI 0) → ((a1 = (nI 1) → Q (μ.1 (μ.2.2 0) 1)) ∧ (¬ a1 = (nI 1) → ((a1 = (nI 2) → w_X0_hoursOfDay (μ.2.2 0) μ (fun r4 => Q r4)) ∧ (¬ a1 = (nI 2) → ((a1 = (nI 3) → Q (μ.1 (μ.2.2 0) 3)) ∧ (¬ a1 = (nI 3) → ((a1 = (nI 4) → Q (μ.1 (μ.2.2 0) 4)) ∧ (¬ a1 = (nI 4) → ((a1 = (nI 5) → Q (μ.1 1 1)) ∧ (¬ a1 = (nI 5) → ((a1 = (nI 6) → Q (μ.1 25 0)) ∧ (¬ a1 = (nI 6) → ((a1 = (nI 7) → Q (μ.1 25 1)) ∧ (¬ a1 = (nI 7) → ((a1 = (nI 8) → (((μ.1 25 2) = 0 → Q (nI 0)) ∧ (¬ (μ.1 25 2) = 0 → Q (nI 1)))) ∧ (¬ a1 = (nI 8) → ((a1 = (nI 9) → w_X4_hanging 25 (μ.2.2 0) μ (fun r9 => Q r9)) ∧ (¬ a1 = (nI 9) → ((a1 = (nI 10) → w_X4_inJars 25 μ (fun r11 => Q r11)) ∧ (¬ a1 = (nI 10) → ((a1 = (nI 11) → Q (μ.1 25 3)) ∧ (¬ a1 = (nI 11) → ((a1 = (nI 12) → Q (μ.1 25 4)) ∧ (¬ a1 = (nI 12) → ((a1 = (nI 13) → Q (μ.1 237 3)) ∧ (¬ a1 = (nI 13) → ((a1 = (nI 14) → Q (μ.1 241 3)) ∧ (¬ a1 = (nI 14) → ((a1 = (nI 15) → Q (μ.1 41 2)) ∧ (¬ a1 = (nI 15) → Q ((-1000000002) : Int32)))))))))))))))))))))))))))))))))
abbrev rm_X6_told : Room := { frames := 3, cells := 0, slots := 0, locals := 66 }
/-- X6_isPost -/
def w_X6_isPost (a1 : Int32) (μ : Mem) (Q : Int32 → Prop) : Prop :=
  w_X6_within a1 (nI 0) ((μ.1 (μ.2.2 0) 3) - (nI 1)) μ (fun r2 => ((r2 = 0 ∨ r2 = 1) ∧ Q r2))
abbrev rm_X6_isPost : Room := { frames := 1, cells := 0, slots := 0, locals := 22 }
/-- X6_post -/
def w_X6_post (a1 : Int32) (a2 : Int32) (μ : Mem) (Q : Int32 → Prop) : Prop :=
  w_X6_isPost a1 μ (fun r1 => ((¬ r1 = 0 → ((a2 = (nI 0) → w_X6_at (25 + 1) a1 μ (fun r3 => Q r3)) ∧ (¬ a2 = (nI 0) → ((a2 = (nI 1) → w_X6_at (25 + 2) a1 μ (fun r5 => Q r5)) ∧ (¬ a2 = (nI 1) → ((a2 = (nI 2) → w_X6_at ((μ.2.2 0) + 5) a1 μ (fun r8 => Q r8)) ∧ (¬ a2 = (nI 2) → ((a2 = (nI 3) → w_X6_at ((μ.2.2 0) + 6) a1 μ (fun r11 => Q r11)) ∧ (¬ a2 = (nI 3) → ((a2 = (nI 4) → w_X6_at (25 + 3) a1 μ (fun r13 => Q r13)) ∧ (¬ a2 = (nI 4) → Q ((-1000000002) : Int32)))))))))))) ∧ (r1 = 0 → Q ((-1000000001) : Int32))))
abbrev rm_X6_post : Room := { frames := 2, cells := 0, slots := 0, locals := 43 }
/-- X6_isBare -/
def w_X6_isBare (μ : Mem) (Q : Int32 → Prop) : Prop :=
  ((¬ (μ.1 (μ.2.2 0) 0) = 0 → Q (nI 0)) ∧ ((μ.1 (μ.2.2 0) 0) = 0 → Q (nI 1)))
abbrev rm_X6_isBare : Room := { frames := 0, cells := 0, slots := 0, locals := 0 }
/-- X6_fog -/
def w_X6_fog_68 (a1 : Int32) (a2 : Int32) (s1 : Int32) (μ : Mem) (Q : Int32 → Prop) : Prop :=
  ((¬ a2 = 0 → w_X0_fogAt (μ.2.2 0) s1 μ (fun r9 => Q r9)) ∧ (a2 = 0 → w_X0_sideAt (μ.2.2 0) s1 μ (fun r12 => Q r12)))
def w_X6_fog_52 (a1 : Int32) (a2 : Int32) (μ : Mem) (Q : Int32 → Prop) : Prop :=
  ((¬ a1 = ((-1) : Int32) → (w_X6_fog_68 a1 a2 a1 μ Q)) ∧ (a1 = ((-1) : Int32) → (w_X6_fog_68 a1 a2 (μ.1 25 1) μ Q)))
def w_X6_fog_25 (a1 : Int32) (a2 : Int32) (μ : Mem) (Q : Int32 → Prop) : Prop :=
  w_X6_within a2 (nI 0) (nI 1) μ (fun r4 => ((¬ r4 = 0 → ((¬ a1 = ((-1) : Int32) → (w_X6_fog_52 a1 a2 μ Q)) ∧ (a1 = ((-1) : Int32) → w_X6_isBare  μ (fun r6 => ((r6 = 0 → (w_X6_fog_52 a1 a2 μ Q)) ∧ (¬ r6 = 0 → Q ((-1000000003) : Int32))))))) ∧ (r4 = 0 → Q ((-1000000002) : Int32))))
def w_X6_fog (a1 : Int32) (a2 : Int32) (μ : Mem) (Q : Int32 → Prop) : Prop :=
  ((a1 = ((-1) : Int32) → (w_X6_fog_25 a1 a2 μ Q)) ∧ (¬ a1 = ((-1) : Int32) → w_X6_within a1 (nI 0) ((μ.1 (μ.2.2 0) 2) - (nI 1)) μ (fun r2 => ((¬ r2 = 0 → (w_X6_fog_25 a1 a2 μ Q)) ∧ (r2 = 0 → Q ((-1000000002) : Int32))))))
abbrev rm_X6_fog : Room := { frames := 2, cells := 0, slots := 0, locals := 42 }
/-- X6_isVillage -/
def w_X6_isVillage (a0 : Int32) (μ : Mem) (Q : Int32 → Prop) : Prop :=
  w_X6_within a0 (nI 0) (nI 1) μ (fun r1 => ((r1 = 0 ∨ r1 = 1) ∧ Q r1))
abbrev rm_X6_isVillage : Room := { frames := 1, cells := 0, slots := 0, locals := 22 }
/-- X6_village -/
def w_X6_village (a1 : Int32) (a2 : Int32) (μ : Mem) (Q : Int32 → Prop) : Prop :=
  w_X6_isVillage a1 μ (fun r1 => ((¬ r1 = 0 → ((a2 = (nI 0) → w_X6_at ((μ.2.2 0) + 7) a1 μ (fun r4 => Q r4)) ∧ (¬ a2 = (nI 0) → ((a2 = (nI 1) → w_X6_at ((μ.2.2 0) + 8) a1 μ (fun r7 => Q r7)) ∧ (¬ a2 = (nI 1) → ((a2 = (nI 2) → w_X6_at (25 + 4) a1 μ (fun r9 => Q r9)) ∧ (¬ a2 = (nI 2) → ((a2 = (nI 3) → w_X6_at (25 + 5) a1 μ (fun r11 => Q r11)) ∧ (¬ a2 = (nI 3) → ((a2 = (nI 4) → w_X0_postsOf (μ.2.2 0) a1 μ (fun r14 => Q r14)) ∧ (¬ a2 = (nI 4) → Q ((-1000000002) : Int32)))))))))))) ∧ (r1 = 0 → Q ((-1000000001) : Int32))))
abbrev rm_X6_village : Room := { frames := 2, cells := 0, slots := 0, locals := 42 }
/-- X6_isGoat -/
def w_X6_isGoat (a1 : Int32) (μ : Mem) (Q : Int32 → Prop) : Prop :=
  w_X6_within a1 (nI 0) ((μ.1 (μ.2.2 0) 4) - (nI 1)) μ (fun r2 => ((r2 = 0 ∨ r2 = 1) ∧ Q r2))
abbrev rm_X6_isGoat : Room := { frames := 1, cells := 0, slots := 0, locals := 22 }
/-- X6_goat -/
def w_X6_goat (a1 : Int32) (a2 : Int32) (μ : Mem) (Q : Int32 → Prop) : Prop :=
  w_X6_isGoat a1 μ (fun r1 => ((¬ r1 = 0 → w_X6_within a2 (nI 0) (nI 1) μ (fun r3 => ((¬ r3 = 0 → ((¬ a2 = 0 → w_X6_at ((μ.2.2 0) + 10) a1 μ (fun r6 => Q r6)) ∧ (a2 = 0 → w_X6_at ((μ.2.2 0) + 9) a1 μ (fun r9 => Q r9)))) ∧ (r3 = 0 → Q ((-1000000002) : Int32))))) ∧ (r1 = 0 → Q ((-1000000001) : Int32))))
abbrev rm_X6_goat : Room := { frames := 2, cells := 0, slots := 0, locals := 43 }
/-- X6_hour -/
def s_X6_hour_43 (a1 : Int32) (X43 : Int32 → Int32 → Mem → Prop) (v2 : Int32) (v3 : Int32) (μ : Mem) (Q : Int32 → Mem → Prop) : Prop :=
  ((a1 ≤ v3 → Q v2 μ) ∧ (¬ a1 ≤ v3 → w_X2_remember 25 μ (fun μ6 => w_X0_sideAt (μ6.2.2 0) (μ6.1 25 1) μ6 (fun r9 => w_X0_fogAt (μ6.2.2 0) (μ6.1 25 1) μ6 (fun r12 => w_X4_passHour 25 (μ6.2.2 0) r9 r12 (nI 0) μ6 (fun r14 μ15 => ∀ x16 : Int32, x16 = (v2 + r14) → ∀ x17 : Int32, x17 = v3 + (nI 1) → (X43 x16 x17 μ15)))))))
def w_X6_hour_43 (a1 : Int32) (v2 : Int32) (v3 : Int32) (μ : Mem) (Q : Int32 → Mem → Prop) : Prop :=
  ∀ X43 : Int32 → Int32 → Mem → Prop, (∀ (v2 : Int32) (v3 : Int32) (μ : Mem), s_X6_hour_43 a1 X43 v2 v3 μ Q → X43 v2 v3 μ) → X43 v2 v3 μ
def w_X6_hour (a1 : Int32) (μ : Mem) (Q : Int32 → Mem → Prop) : Prop :=
  w_X6_within a1 (nI 1) (nI 60) μ (fun r1 => ((¬ r1 = 0 → w_X6_isBare  μ (fun r3 => ((r3 = 0 → (((μ.1 25 0) ≤ (nI 9000) → (w_X6_hour_43 a1 (nI 0) (nI 0) μ Q)) ∧ (¬ (μ.1 25 0) ≤ (nI 9000) → Q ((-1000000004) : Int32) μ))) ∧ (¬ r3 = 0 → Q ((-1000000003) : Int32) μ)))) ∧ (r1 = 0 → Q ((-1000000002) : Int32) μ)))
abbrev rm_X6_hour : Room := { frames := 4, cells := 0, slots := 0, locals := 103 }
/-- X6_carry -/
def w_X6_carry (a1 : Int32) (μ : Mem) (Q : Int32 → Mem → Prop) : Prop :=
  w_X6_isVillage a1 μ (fun r1 => ((¬ r1 = 0 → w_X6_isBare  μ (fun r3 => ((r3 = 0 → w_X2_remember 25 μ (fun μ6 => w_X4_emptyJarsOf 25 (μ6.2.2 0) a1 μ6 (fun r8 μ9 => Q r8 μ9))) ∧ (¬ r3 = 0 → Q ((-1000000003) : Int32) μ)))) ∧ (r1 = 0 → Q ((-1000000001) : Int32) μ)))
abbrev rm_X6_carry : Room := { frames := 3, cells := 0, slots := 0, locals := 103 }
/-- X6_lick -/
def w_X6_lick (a1 : Int32) (a2 : Int32) (μ : Mem) (Q : Int32 → Mem → Prop) : Prop :=
  w_X6_isPost a1 μ (fun r1 => ((¬ r1 = 0 → w_X6_within a2 (nI 1) (nI 99) μ (fun r3 => ((¬ r3 = 0 → w_X2_remember 25 μ (fun μ6 => w_X4_loseFromJar 25 a1 a2 μ6 (fun r7 μ8 => Q r7 μ8))) ∧ (r3 = 0 → Q ((-1000000002) : Int32) μ)))) ∧ (r1 = 0 → Q ((-1000000001) : Int32) μ)))
abbrev rm_X6_lick : Room := { frames := 3, cells := 0, slots := 0, locals := 103 }
/-- X6_mesh -/
def w_X6_mesh (a1 : Int32) (a2 : Int32) (μ : Mem) (Q : Int32 → Mem → Prop) : Prop :=
  w_X6_isPost a1 μ (fun r1 => ((¬ r1 = 0 → w_X6_within a2 (nI 0) (nI 9) μ (fun r3 => ((¬ r3 = 0 → w_X2_remember 25 μ (fun μ6 => w_X6_at (25 + 2) a1 μ6 (fun r7 => w_X6_put (25 + 2) a1 a2 μ6 (fun μ10 => Q r7 μ10)))) ∧ (r3 = 0 → Q ((-1000000002) : Int32) μ)))) ∧ (r1 = 0 → Q ((-1000000001) : Int32) μ)))
abbrev rm_X6_mesh : Room := { frames := 3, cells := 0, slots := 0, locals := 103 }
/-- X6_isCell -/
def w_X6_isCell (a1 : Int32) (μ : Mem) (Q : Int32 → Prop) : Prop :=
  w_X6_within a1 (nI 0) ((μ.1 (μ.2.2 0) 0) - (nI 1)) μ (fun r2 => ((r2 = 0 ∨ r2 = 1) ∧ Q r2))
abbrev rm_X6_isCell : Room := { frames := 1, cells := 0, slots := 0, locals := 22 }
/-- X6_move -/
def w_X6_move (a1 : Int32) (a2 : Int32) (μ : Mem) (Q : Int32 → Mem → Prop) : Prop :=
  w_X6_isPost a1 μ (fun r1 => ((r1 = 0 → Q ((-1000000001) : Int32) μ) ∧ (¬ r1 = 0 → w_X6_isCell a2 μ (fun r3 => ((¬ r3 = 0 → w_X4_postIn 25 a2 μ (fun r5 => ((r5 = ((-1) : Int32) → w_X2_remember 25 μ (fun μ8 => w_X6_at (25 + 1) a1 μ8 (fun r9 => w_X6_put (25 + 1) a1 a2 μ8 (fun μ12 => Q r9 μ12)))) ∧ (¬ r5 = ((-1) : Int32) → Q ((-1000000003) : Int32) μ)))) ∧ (r3 = 0 → Q ((-1000000001) : Int32) μ))))))
abbrev rm_X6_move : Room := { frames := 3, cells := 0, slots := 0, locals := 103 }
/-- X6_lamp -/
def w_X6_lamp_36 (a1 : Int32) (s1 : Int32) (μ : Mem) (Q : Int32 → Mem → Prop) : Prop :=
  ((a1 = 0 ∨ a1 = 1) ∧ ∀ μ5 : Mem, μ5 = sI μ 25 2 a1 → Q s1 μ5)
def w_X6_lamp (a1 : Int32) (μ : Mem) (Q : Int32 → Mem → Prop) : Prop :=
  w_X6_isBare  μ (fun r1 => ((r1 = 0 → w_X2_remember 25 μ (fun μ4 => (((μ4.1 25 2) = 0 → (w_X6_lamp_36 a1 (nI 0) μ4 Q)) ∧ (¬ (μ4.1 25 2) = 0 → (w_X6_lamp_36 a1 (nI 1) μ4 Q))))) ∧ (¬ r1 = 0 → Q ((-1000000003) : Int32) μ)))
abbrev rm_X6_lamp : Room := { frames := 3, cells := 0, slots := 0, locals := 103 }
/-- X6_draw -/
def w_X6_draw (a1 : Int32) (μ : Mem) (Q : Int32 → Mem → Prop) : Prop :=
  ∀ μ1 : Mem, μ1 = sI μ 0 10 ((((((μ.1 0 10)).toInt64 * (lN 1103515245)) + (lN 12345)) &&& (lN 2147483647))).toInt32 → ((a1 ≤ 0 → Q (nI 0) μ1) ∧ (¬ a1 ≤ 0 → (¬ (nI 65536) = 0 ∧ (¬ a1 = 0 ∧ ∀ x2 : Int32, x2 = (((μ1.1 0 10) / (nI 65536)) - ((μ1.1 0 10) / (nI 65536)) / a1 * a1) → Q x2 μ1))))
abbrev rm_X6_draw : Room := { frames := 0, cells := 0, slots := 0, locals := 0 }
/-- X6_lickByDraws -/
def w_X6_lickByDraws (μ : Mem) (Q : Mem → Prop) : Prop :=
  (((μ.1 (μ.2.2 0) 3) = 0 → Q μ) ∧ (¬ (μ.1 (μ.2.2 0) 3) = 0 → w_X6_draw (nI 8) μ (fun r2 μ3 => ((r2 = 0 → w_X6_draw (μ3.1 (μ3.2.2 0) 3) μ3 (fun r5 μ6 => w_X6_draw (nI 10) μ6 (fun r7 μ8 => w_X4_loseFromJar 25 r5 r7 μ8 (fun r9 μ10 => Q μ10)))) ∧ (¬ r2 = 0 → Q μ3)))))
abbrev rm_X6_lickByDraws : Room := { frames := 2, cells := 0, slots := 0, locals := 46 }
/-- X6_drift -/
def s_X6_drift_43 (a1 : Int32) (X43 : Int32 → Int32 → Mem → Prop) (v2 : Int32) (v3 : Int32) (μ : Mem) (Q : Int32 → Mem → Prop) : Prop :=
  ((a1 ≤ v3 → Q v2 μ) ∧ (¬ a1 ≤ v3 → w_X2_remember 25 μ (fun μ6 => w_X6_draw (nI 41) μ6 (fun r7 μ8 => w_X6_draw (nI 2) μ8 (fun r9 μ10 => w_X4_passHour 25 (μ10.2.2 0) r9 r7 (nI 0) μ10 (fun r12 μ13 => ∀ x14 : Int32, x14 = (v2 + r12) → w_X6_lickByDraws  μ13 (fun μ16 => ∀ x17 : Int32, x17 = v3 + (nI 1) → (X43 x14 x17 μ16))))))))
def w_X6_drift_43 (a1 : Int32) (v2 : Int32) (v3 : Int32) (μ : Mem) (Q : Int32 → Mem → Prop) : Prop :=
  ∀ X43 : Int32 → Int32 → Mem → Prop, (∀ (v2 : Int32) (v3 : Int32) (μ : Mem), s_X6_drift_43 a1 X43 v2 v3 μ Q → X43 v2 v3 μ) → X43 v2 v3 μ
def w_X6_drift (a1 : Int32) (μ : Mem) (Q : Int32 → Mem → Prop) : Prop :=
  w_X6_within a1 (nI 1) (nI 60) μ (fun r1 => ((¬ r1 = 0 → w_X6_isBare  μ (fun r3 => ((r3 = 0 → (((μ.1 25 0) ≤ (nI 9000) → (w_X6_drift_43 a1 (nI 0) (nI 0) μ Q)) ∧ (¬ (μ.1 25 0) ≤ (nI 9000) → Q ((-1000000004) : Int32) μ))) ∧ (¬ r3 = 0 → Q ((-1000000003) : Int32) μ)))) ∧ (r1 = 0 → Q ((-1000000002) : Int32) μ)))
abbrev rm_X6_drift : Room := { frames := 4, cells := 0, slots := 0, locals := 103 }
/-- X6_undo -/
def w_X6_undo (a1 : Int32) (μ : Mem) (Q : Int32 → Mem → Prop) : Prop :=
  w_X6_within a1 (nI 1) (nI 30) μ (fun r1 => ((¬ r1 = 0 → ((a1 ≤ (μ.1 41 2) → w_X2_takeBack 25 a1 μ (fun μ4 => Q (μ4.1 25 0) μ4)) ∧ (¬ a1 ≤ (μ.1 41 2) → Q ((-1000000003) : Int32) μ))) ∧ (r1 = 0 → Q ((-1000000002) : Int32) μ)))
abbrev rm_X6_undo : Room := { frames := 3, cells := 0, slots := 0, locals := 104 }
/-- X6_tryHours -/
def w_X6_tryHours_113 (a1 : Int32) (X25 : Int32 → Int32 → Mem → Prop) (v2 : Int32) (v3 : Int32) (μ : Mem) (Q : Int32 → Mem → Prop) : Prop :=
  ∀ x15 : Int32, x15 = v3 + (nI 1) → (X25 v2 x15 μ)
def s_X6_tryHours_80 (a1 : Int32) (X25 : Int32 → Int32 → Mem → Prop) (v2 : Int32) (v3 : Int32) (X80 : Int32 → Mem → Prop) (v4 : Int32) (μ : Mem) (Q : Int32 → Mem → Prop) : Prop :=
  (((nI 6) ≤ v4 → (w_X6_tryHours_113 a1 X25 v2 v3 μ Q)) ∧ (¬ (nI 6) ≤ v4 → (vp_in v4 6 ∧ (vp_in v4 6 ∧ (vp_in v4 6 ∧ ∀ μ13 : Mem, μ13 = sI μ 37 (v4).toNatClampNeg ((μ.1 37 (v4).toNatClampNeg) + (μ.1 39 (v4).toNatClampNeg)) → ∀ x14 : Int32, x14 = v4 + (nI 1) → (X80 x14 μ13))))))
def w_X6_tryHours_80 (a1 : Int32) (X25 : Int32 → Int32 → Mem → Prop) (v2 : Int32) (v3 : Int32) (v4 : Int32) (μ : Mem) (Q : Int32 → Mem → Prop) : Prop :=
  ∀ X80 : Int32 → Mem → Prop, (∀ (v4 : Int32) (μ : Mem), s_X6_tryHours_80 a1 X25 v2 v3 X80 v4 μ Q → X80 v4 μ) → X80 v4 μ
def s_X6_tryHours_25 (a1 : Int32) (X25 : Int32 → Int32 → Mem → Prop) (v2 : Int32) (v3 : Int32) (μ : Mem) (Q : Int32 → Mem → Prop) : Prop :=
  ((a1 ≤ v3 → Q v2 μ) ∧ (¬ a1 ≤ v3 → w_X0_sideAt (μ.2.2 0) (μ.1 31 1) μ (fun r5 => w_X0_fogAt (μ.2.2 0) (μ.1 31 1) μ (fun r8 => w_X4_passHour 31 (μ.2.2 0) r5 r8 (nI 0) μ (fun r10 μ11 => ∀ x12 : Int32, x12 = (v2 + r10) → (w_X6_tryHours_80 a1 X25 x12 v3 (nI 0) μ11 Q))))))
def w_X6_tryHours_25 (a1 : Int32) (v2 : Int32) (v3 : Int32) (μ : Mem) (Q : Int32 → Mem → Prop) : Prop :=
  ∀ X25 : Int32 → Int32 → Mem → Prop, (∀ (v2 : Int32) (v3 : Int32) (μ : Mem), s_X6_tryHours_25 a1 X25 v2 v3 μ Q → X25 v2 v3 μ) → X25 v2 v3 μ
def w_X6_tryHours_23 (a1 : Int32) (v2 : Int32) (μ : Mem) (Q : Int32 → Mem → Prop) : Prop :=
  (w_X6_tryHours_25 a1 v2 (nI 0) μ Q)
def s_X6_tryHours_4 (a1 : Int32) (v2 : Int32) (X4 : Int32 → Mem → Prop) (v3 : Int32) (μ : Mem) (Q : Int32 → Mem → Prop) : Prop :=
  (((nI 6) ≤ v3 → (w_X6_tryHours_23 a1 v2 μ Q)) ∧ (¬ (nI 6) ≤ v3 → (vp_in v3 6 ∧ ∀ μ1 : Mem, μ1 = sI μ 37 (v3).toNatClampNeg (nI 0) → ∀ x2 : Int32, x2 = v3 + (nI 1) → (X4 x2 μ1))))
def w_X6_tryHours_4 (a1 : Int32) (v2 : Int32) (v3 : Int32) (μ : Mem) (Q : Int32 → Mem → Prop) : Prop :=
  ∀ X4 : Int32 → Mem → Prop, (∀ (v3 : Int32) (μ : Mem), s_X6_tryHours_4 a1 v2 X4 v3 μ Q → X4 v3 μ) → X4 v3 μ
def w_X6_tryHours (a1 : Int32) (μ : Mem) (Q : Int32 → Mem → Prop) : Prop :=
  (w_X6_tryHours_4 a1 (nI 0) (nI 0) μ Q)
abbrev rm_X6_tryHours : Room := { frames := 4, cells := 0, slots := 0, locals := 103 }
/-- X6_gets -/
def w_X6_gets (a1 : Int32) (a2 : Int32) (μ : Mem) (Q : Int32 → Mem → Prop) : Prop :=
  w_X6_isPost a1 μ (fun r1 => ((¬ r1 = 0 → w_X6_within a2 (nI 0) (nI 99) μ (fun r3 => ((¬ r3 = 0 → w_X4_become 31 25 μ (fun μ6 => w_X6_tryHours a2 μ6 (fun r7 μ8 => w_X6_at 37 a1 μ8 (fun r9 => Q r9 μ8)))) ∧ (r3 = 0 → Q ((-1000000002) : Int32) μ)))) ∧ (r1 = 0 → Q ((-1000000001) : Int32) μ)))
abbrev rm_X6_gets : Room := { frames := 5, cells := 0, slots := 0, locals := 127 }
/-- X6_blowNext -/
def w_X6_blowNext (a1 : Int32) (μ : Mem) (Q : Mem → Prop) : Prop :=
  w_X0_fogAt (μ.2.2 0) (μ.1 25 1) μ (fun r3 => w_X4_lampedFog 25 (μ.2.2 0) r3 μ (fun r5 => w_X0_sideAt (μ.2.2 0) (μ.1 25 1) μ (fun r9 => w_X5_blow 25 (μ.1 (μ.2.2 0) 0) a1 r9 r5 μ (fun μ12 => Q μ12))))
abbrev rm_X6_blowNext : Room := { frames := 3, cells := 0, slots := 0, locals := 75 }
/-- X6_left -/
def w_X6_left (μ : Mem) (Q : Int32 → Mem → Prop) : Prop :=
  w_X6_isBare  μ (fun r1 => ((r1 = 0 → w_X4_hanging 25 (μ.2.2 0) μ (fun r4 => w_X6_blowNext r4 μ (fun μ7 => Q (μ7.1 38 2) μ7))) ∧ (¬ r1 = 0 → Q ((-1000000003) : Int32) μ)))
abbrev rm_X6_left : Room := { frames := 4, cells := 0, slots := 0, locals := 97 }
/-- X6_bestMesh -/
def w_X6_bestMesh_106 (a1 : Int32) (a2 : Int32) (v3 : Int32) (v4 : Int32) (μ : Mem) (Q : Int32 → Mem → Prop) : Prop :=
  ((¬ a2 = 0 → Q v4 μ) ∧ (a2 = 0 → Q v3 μ))
def w_X6_bestMesh_100 (a1 : Int32) (a2 : Int32) (X31 : Int32 → Int32 → Int32 → Mem → Prop) (v3 : Int32) (v4 : Int32) (v5 : Int32) (μ : Mem) (Q : Int32 → Mem → Prop) : Prop :=
  ∀ x18 : Int32, x18 = v5 + (nI 1) → (X31 v3 v4 x18 μ)
def s_X6_bestMesh_31 (a1 : Int32) (a2 : Int32) (X31 : Int32 → Int32 → Int32 → Mem → Prop) (v3 : Int32) (v4 : Int32) (v5 : Int32) (μ : Mem) (Q : Int32 → Mem → Prop) : Prop :=
  (((nI 9) < v5 → (w_X6_bestMesh_106 a1 a2 v3 v4 μ Q)) ∧ (¬ (nI 9) < v5 → w_X4_become 31 25 μ (fun μ6 => w_X6_put (31 + 2) a1 v5 μ6 (fun μ8 => w_X0_hoursOfDay (μ8.2.2 0) μ8 (fun r10 => w_X6_tryHours r10 μ8 (fun r12 μ13 => w_X6_at 37 a1 μ13 (fun r14 => ((r14 ≤ v4 → (w_X6_bestMesh_100 a1 a2 X31 v3 v4 v5 μ13 Q)) ∧ (¬ r14 ≤ v4 → w_X6_at 37 a1 μ13 (fun r16 => (w_X6_bestMesh_100 a1 a2 X31 v5 r16 v5 μ13 Q)))))))))))
def w_X6_bestMesh_31 (a1 : Int32) (a2 : Int32) (v3 : Int32) (v4 : Int32) (v5 : Int32) (μ : Mem) (Q : Int32 → Mem → Prop) : Prop :=
  ∀ X31 : Int32 → Int32 → Int32 → Mem → Prop, (∀ (v3 : Int32) (v4 : Int32) (v5 : Int32) (μ : Mem), s_X6_bestMesh_31 a1 a2 X31 v3 v4 v5 μ Q → X31 v3 v4 v5 μ) → X31 v3 v4 v5 μ
def w_X6_bestMesh (a1 : Int32) (a2 : Int32) (μ : Mem) (Q : Int32 → Mem → Prop) : Prop :=
  w_X6_isPost a1 μ (fun r1 => ((¬ r1 = 0 → w_X6_within a2 (nI 0) (nI 1) μ (fun r3 => ((¬ r3 = 0 → (w_X6_bestMesh_31 a1 a2 ((-1) : Int32) ((-1) : Int32) (nI 0) μ Q)) ∧ (r3 = 0 → Q ((-1000000002) : Int32) μ)))) ∧ (r1 = 0 → Q ((-1000000001) : Int32) μ)))
abbrev rm_X6_bestMesh : Room := { frames := 5, cells := 0, slots := 0, locals := 127 }
/-- X6_isOpenTo -/
def w_X6_isOpenTo (a1 : Int32) (a2 : Int32) (a3 : Int32) (μ : Mem) (Q : Int32 → Prop) : Prop :=
  w_X6_isCell a1 μ (fun r1 => ((¬ r1 = 0 → w_X4_postIn 25 a1 μ (fun r3 => ((r3 = ((-1) : Int32) → Q (nI 1)) ∧ (¬ r3 = ((-1) : Int32) → ((r3 = a2 → Q (nI 1)) ∧ (¬ r3 = a2 → ((¬ r3 = a3 → Q (nI 0)) ∧ (r3 = a3 → Q (nI 1))))))))) ∧ (r1 = 0 → Q (nI 0))))
abbrev rm_X6_isOpenTo : Room := { frames := 2, cells := 0, slots := 0, locals := 43 }
/-- X6_bestCell -/
def w_X6_bestCell_120 (a1 : Int32) (a2 : Int32) (v3 : Int32) (v4 : Int32) (μ : Mem) (Q : Int32 → Mem → Prop) : Prop :=
  ((¬ a2 = 0 → Q v4 μ) ∧ (a2 = 0 → Q v3 μ))
def w_X6_bestCell_114 (a1 : Int32) (a2 : Int32) (X31 : Int32 → Int32 → Int32 → Mem → Prop) (v3 : Int32) (v4 : Int32) (v5 : Int32) (μ : Mem) (Q : Int32 → Mem → Prop) : Prop :=
  ∀ x20 : Int32, x20 = v5 + (nI 1) → (X31 v3 v4 x20 μ)
def s_X6_bestCell_31 (a1 : Int32) (a2 : Int32) (X31 : Int32 → Int32 → Int32 → Mem → Prop) (v3 : Int32) (v4 : Int32) (v5 : Int32) (μ : Mem) (Q : Int32 → Mem → Prop) : Prop :=
  (((nI 12) ≤ v5 → (w_X6_bestCell_120 a1 a2 v3 v4 μ Q)) ∧ (¬ (nI 12) ≤ v5 → w_X6_isOpenTo v5 a1 a1 μ (fun r5 => ((¬ r5 = 0 → w_X4_become 31 25 μ (fun μ8 => w_X6_put (31 + 1) a1 v5 μ8 (fun μ10 => w_X0_hoursOfDay (μ10.2.2 0) μ10 (fun r12 => w_X6_tryHours r12 μ10 (fun r14 μ15 => w_X6_at 37 a1 μ15 (fun r16 => ((r16 ≤ v4 → (w_X6_bestCell_114 a1 a2 X31 v3 v4 v5 μ15 Q)) ∧ (¬ r16 ≤ v4 → w_X6_at 37 a1 μ15 (fun r18 => (w_X6_bestCell_114 a1 a2 X31 v5 r18 v5 μ15 Q)))))))))) ∧ (r5 = 0 → (w_X6_bestCell_114 a1 a2 X31 v3 v4 v5 μ Q))))))
def w_X6_bestCell_31 (a1 : Int32) (a2 : Int32) (v3 : Int32) (v4 : Int32) (v5 : Int32) (μ : Mem) (Q : Int32 → Mem → Prop) : Prop :=
  ∀ X31 : Int32 → Int32 → Int32 → Mem → Prop, (∀ (v3 : Int32) (v4 : Int32) (v5 : Int32) (μ : Mem), s_X6_bestCell_31 a1 a2 X31 v3 v4 v5 μ Q → X31 v3 v4 v5 μ) → X31 v3 v4 v5 μ
def w_X6_bestCell (a1 : Int32) (a2 : Int32) (μ : Mem) (Q : Int32 → Mem → Prop) : Prop :=
  w_X6_isPost a1 μ (fun r1 => ((¬ r1 = 0 → w_X6_within a2 (nI 0) (nI 1) μ (fun r3 => ((¬ r3 = 0 → (w_X6_bestCell_31 a1 a2 ((-1) : Int32) ((-1) : Int32) (nI 0) μ Q)) ∧ (r3 = 0 → Q ((-1000000002) : Int32) μ)))) ∧ (r1 = 0 → Q ((-1000000001) : Int32) μ)))
abbrev rm_X6_bestCell : Room := { frames := 5, cells := 0, slots := 0, locals := 127 }
/-- X6_lampCosts -/
def w_X6_lampCosts (a1 : Int32) (μ : Mem) (Q : Int32 → Mem → Prop) : Prop :=
  w_X6_within a1 (nI 0) (nI 99) μ (fun r1 => ((¬ r1 = 0 → w_X6_isBare  μ (fun r3 => ((r3 = 0 → w_X4_become 31 25 μ (fun μ6 => ∀ μ7 : Mem, μ7 = sI μ6 31 2 (nI 0) → w_X6_tryHours a1 μ7 (fun r8 μ9 => w_X4_become 31 25 μ9 (fun μ11 => ∀ μ12 : Mem, μ12 = sI μ11 31 2 (nI 1) → w_X6_tryHours a1 μ12 (fun r13 μ14 => Q (r8 - r13) μ14))))) ∧ (¬ r3 = 0 → Q ((-1000000003) : Int32) μ)))) ∧ (r1 = 0 → Q ((-1000000002) : Int32) μ)))
abbrev rm_X6_lampCosts : Room := { frames := 5, cells := 0, slots := 0, locals := 127 }
/-- X6_thirsty -/
def w_X6_thirsty_132 (a1 : Int32) (μ : Mem) (Q : Int32 → Mem → Prop) : Prop :=
  Q ((μ.1 31 0) - (μ.1 25 0)) μ
def s_X6_thirsty_45 (a1 : Int32) (v2 : Int32) (X45 : Int32 → Mem → Prop) (v3 : Int32) (μ : Mem) (Q : Int32 → Mem → Prop) : Prop :=
  (((nI 720) ≤ v3 → Q ((-1) : Int32) μ) ∧ (¬ (nI 720) ≤ v3 → (((nI 60) ≤ ((μ.1 31 0) - (μ.1 25 0)) → Q ((-1) : Int32) μ) ∧ (¬ (nI 60) ≤ ((μ.1 31 0) - (μ.1 25 0)) → w_X0_sideAt (μ.2.2 0) (μ.1 31 1) μ (fun r11 => w_X0_fogAt (μ.2.2 0) (μ.1 31 1) μ (fun r14 => w_X4_passHour 31 (μ.2.2 0) r11 r14 (nI 1) μ (fun r16 μ17 => w_X6_at (31 + 5) a1 μ17 (fun r18 => ((r18 ≤ v2 → ∀ x20 : Int32, x20 = v3 + (nI 1) → (X45 x20 μ17)) ∧ (¬ r18 ≤ v2 → (w_X6_thirsty_132 a1 μ17 Q)))))))))))
def w_X6_thirsty_45 (a1 : Int32) (v2 : Int32) (v3 : Int32) (μ : Mem) (Q : Int32 → Mem → Prop) : Prop :=
  ∀ X45 : Int32 → Mem → Prop, (∀ (v3 : Int32) (μ : Mem), s_X6_thirsty_45 a1 v2 X45 v3 μ Q → X45 v3 μ) → X45 v3 μ
def w_X6_thirsty (a1 : Int32) (μ : Mem) (Q : Int32 → Mem → Prop) : Prop :=
  w_X6_isVillage a1 μ (fun r1 => ((¬ r1 = 0 → w_X6_isBare  μ (fun r3 => ((r3 = 0 → w_X4_become 31 25 μ (fun μ6 => w_X6_at (25 + 5) a1 μ6 (fun r7 => (w_X6_thirsty_45 a1 r7 (nI 0) μ6 Q)))) ∧ (¬ r3 = 0 → Q ((-1000000003) : Int32) μ)))) ∧ (r1 = 0 → Q ((-1000000001) : Int32) μ)))
abbrev rm_X6_thirsty : Room := { frames := 4, cells := 0, slots := 0, locals := 103 }
/-- X6_lasts -/
def w_X6_lasts (a1 : Int32) (μ : Mem) (Q : Int32 → Prop) : Prop :=
  w_X6_isVillage a1 μ (fun r1 => ((¬ r1 = 0 → w_X6_at ((μ.2.2 0) + 8) a1 μ (fun r4 => ((0 < r4 → w_X6_at (25 + 4) a1 μ (fun r6 => (¬ r4 = 0 ∧ ∀ x8 : Int32, x8 = (if (nI 999) < (r6 / r4) then (nI 999) else (r6 / r4)) → Q x8))) ∧ (¬ 0 < r4 → Q (nI 999))))) ∧ (r1 = 0 → Q ((-1000000001) : Int32))))
abbrev rm_X6_lasts : Room := { frames := 2, cells := 0, slots := 0, locals := 42 }
/-- J6_bitCount_0f7a4 -/
def w_J6_bitCount_0f7a4 (a0 : Int32) (μ : Mem) (Q : Int32 → Prop) : Prop :=
  ∀ x1 : Int32, x1 = (((a0).toUInt32 >>> (((nI 1)).toUInt32 &&& Int32.toUInt32 31)).toInt32) → ∀ x2 : Int32, x2 = (a0 - (x1 &&& (nI 1431655765))) → ∀ x3 : Int32, x3 = (((x2).toUInt32 >>> (((nI 2)).toUInt32 &&& Int32.toUInt32 31)).toInt32) → ∀ x4 : Int32, x4 = ((x2 &&& (nI 858993459)) + (x3 &&& (nI 858993459))) → ∀ x5 : Int32, x5 = (((x4).toUInt32 >>> (((nI 4)).toUInt32 &&& Int32.toUInt32 31)).toInt32) → ∀ x6 : Int32, x6 = ((x4 + x5) &&& (nI 252645135)) → ∀ x7 : Int32, x7 = (((x6).toUInt32 >>> (((nI 8)).toUInt32 &&& Int32.toUInt32 31)).toInt32) → ∀ x8 : Int32, x8 = (x6 + x7) → ∀ x9 : Int32, x9 = (((x8).toUInt32 >>> (((nI 16)).toUInt32 &&& Int32.toUInt32 31)).toInt32) → ∀ x10 : Int32, x10 = (x8 + x9) → Q (x10 &&& (nI 63))
abbrev rm_J6_bitCount_0f7a4 : Room := { frames := 0, cells := 0, slots := 0, locals := 0 }
/-- X6_share -/
def w_X6_share_110 (a1 : Int32) (a2 : Int32) (v3 : Int32) (v6 : Int32) (v7 : Int32) (s1 : Int32) (μ : Mem) (Q : Int32 → Prop) : Prop :=
  (¬ v3 = 0 ∧ ((¬ a2 = v7 → Q ((s1 / v3) + (nI 0))) ∧ (a2 = v7 → Q ((s1 / v3) + v6))))
def w_X6_share_97 (a1 : Int32) (a2 : Int32) (v3 : Int32) (v4 : Int32) (v5 : Int32) (v6 : Int32) (s1 : Int32) (μ : Mem) (Q : Int32 → Prop) : Prop :=
  ((¬ a2 = 0 → (w_X6_share_110 a1 a2 v3 v6 s1 v5 μ Q)) ∧ (a2 = 0 → (w_X6_share_110 a1 a2 v3 v6 s1 v4 μ Q)))
def w_X6_share (a1 : Int32) (a2 : Int32) (μ : Mem) (Q : Int32 → Prop) : Prop :=
  w_X6_isVillage a2 μ (fun r1 => ((¬ r1 = 0 → w_X6_within a1 (nI 0) (nI 999) μ (fun r3 => ((¬ r3 = 0 → ∀ x6 : Int32, x6 = (μ.1 (μ.2.2 0) 3) → ((0 < x6 → w_X0_postsOf (μ.2.2 0) (nI 0) μ (fun r8 => w_J6_bitCount_0f7a4 r8 μ (fun r10 => ∀ x12 : Int32, x12 = (a1 * r10) → w_X0_postsOf (μ.2.2 0) (nI 1) μ (fun r14 => w_J6_bitCount_0f7a4 r14 μ (fun r16 => ∀ x18 : Int32, x18 = (a1 * r16) → (¬ x6 = 0 ∧ (¬ x6 = 0 ∧ ∀ x19 : Int32, x19 = ((a1 - (x12 / x6)) - (x18 / x6)) → (¬ x6 = 0 ∧ ∀ x20 : Int32, x20 = (x12 - x12 / x6 * x6) → (¬ x6 = 0 ∧ ∀ x21 : Int32, x21 = (x18 - x18 / x6 * x6) → ((x20 < x21 → (w_X6_share_97 a1 a2 x6 x12 x18 x19 (nI 1) μ Q)) ∧ (¬ x20 < x21 → (w_X6_share_97 a1 a2 x6 x12 x18 x19 (nI 0) μ Q)))))))))))) ∧ (¬ 0 < x6 → Q (nI 0)))) ∧ (r3 = 0 → Q ((-1000000002) : Int32))))) ∧ (r1 = 0 → Q ((-1000000001) : Int32))))
abbrev rm_X6_share : Room := { frames := 2, cells := 0, slots := 0, locals := 42 }
/-- X6_led -/
def w_X6_led (a1 : Int32) (a2 : Int32) (a3 : Int32) (μ : Mem) (Q : Int32 → Mem → Prop) : Prop :=
  w_X6_within a1 (nI 0) (nI 99) μ (fun r1 => ((r1 = 0 → Q ((-1000000002) : Int32) μ) ∧ (¬ r1 = 0 → w_X6_within a2 (nI 0) (nI 1) μ (fun r3 => ((r3 = 0 → Q ((-1000000002) : Int32) μ) ∧ (¬ r3 = 0 → w_X6_within a3 (nI 0) (a1 - (nI 1)) μ (fun r5 => ((¬ r5 = 0 → w_X6_isBare  μ (fun r7 => ((r7 = 0 → w_X4_hanging 25 (μ.2.2 0) μ (fun r11 => w_X5_blow 25 (μ.1 (μ.2.2 0) 0) r11 a2 a1 μ (fun μ14 => w_X5_takerOf a3 μ14 (fun r15 => Q r15 μ14)))) ∧ (¬ r7 = 0 → Q ((-1000000003) : Int32) μ)))) ∧ (r5 = 0 → Q ((-1000000002) : Int32) μ)))))))))
abbrev rm_X6_led : Room := { frames := 3, cells := 0, slots := 0, locals := 75 }
/-- X6_yards -/
def w_X6_yards_131 (a1 : Int32) (a2 : Int32) (v4 : Int32) (v5 : Int32) (μ : Mem) (Q : Int32 → Prop) : Prop :=
  ((¬ a2 = 0 → Q v4) ∧ (a2 = 0 → Q v5))
def w_X6_yards_125 (a1 : Int32) (a2 : Int32) (X44 : Int32 → Int32 → Int32 → Prop) (v3 : Int32) (v4 : Int32) (v5 : Int32) (v6 : Int32) (μ : Mem) (Q : Int32 → Prop) : Prop :=
  ∀ x14 : Int32, x14 = v6 + (nI 1) → (X44 v4 v5 x14)
def w_X6_yards_117 (a1 : Int32) (a2 : Int32) (X44 : Int32 → Int32 → Int32 → Prop) (v3 : Int32) (v6 : Int32) (v7 : Int32) (v8 : Int32) (μ : Mem) (Q : Int32 → Prop) : Prop :=
  (w_X6_yards_125 a1 a2 X44 v3 v7 v8 v6 μ Q)
def s_X6_yards_44 (a1 : Int32) (a2 : Int32) (v3 : Int32) (μ : Mem) (X44 : Int32 → Int32 → Int32 → Prop) (v4 : Int32) (v5 : Int32) (v6 : Int32) (Q : Int32 → Prop) : Prop :=
  (((μ.1 (μ.2.2 0) 0) ≤ v6 → (w_X6_yards_131 a1 a2 v4 v5 μ Q)) ∧ (¬ (μ.1 (μ.2.2 0) 0) ≤ v6 → (((nI 12) ≤ v6 → (w_X6_yards_131 a1 a2 v4 v5 μ Q)) ∧ (¬ (nI 12) ≤ v6 → w_X4_postIn 25 v6 μ (fun r9 => ∀ x11 : Int32, x11 = (if 0 ≤ (v6 - v3) then (v6 - v3) else 0 - (v6 - v3)) → ((r9 = ((-1) : Int32) → (w_X6_yards_125 a1 a2 X44 v3 v4 v5 v6 μ Q)) ∧ (¬ r9 = ((-1) : Int32) → w_X6_at (25 + 3) r9 μ (fun r12 => ((r12 ≤ 0 → (w_X6_yards_125 a1 a2 X44 v3 v4 v5 v6 μ Q)) ∧ (¬ r12 ≤ 0 → ((v4 = ((-1) : Int32) → (w_X6_yards_117 a1 a2 X44 v3 v6 r9 x11 μ Q)) ∧ (¬ v4 = ((-1) : Int32) → ((v5 ≤ x11 → (w_X6_yards_125 a1 a2 X44 v3 v4 v5 v6 μ Q)) ∧ (¬ v5 ≤ x11 → (w_X6_yards_117 a1 a2 X44 v3 v6 r9 x11 μ Q)))))))))))))))
def w_X6_yards_44 (a1 : Int32) (a2 : Int32) (v3 : Int32) (v4 : Int32) (v5 : Int32) (v6 : Int32) (μ : Mem) (Q : Int32 → Prop) : Prop :=
  ∀ X44 : Int32 → Int32 → Int32 → Prop, (∀ (v4 : Int32) (v5 : Int32) (v6 : Int32), s_X6_yards_44 a1 a2 v3 μ X44 v4 v5 v6 Q → X44 v4 v5 v6) → X44 v4 v5 v6
def w_X6_yards (a1 : Int32) (a2 : Int32) (μ : Mem) (Q : Int32 → Prop) : Prop :=
  w_X6_isGoat a1 μ (fun r1 => ((¬ r1 = 0 → w_X6_within a2 (nI 0) (nI 1) μ (fun r3 => ((¬ r3 = 0 → w_X6_at ((μ.2.2 0) + 9) a1 μ (fun r6 => (w_X6_yards_44 a1 a2 r6 ((-1) : Int32) ((-1) : Int32) (nI 0) μ Q))) ∧ (r3 = 0 → Q ((-1000000002) : Int32))))) ∧ (r1 = 0 → Q ((-1000000001) : Int32))))
abbrev rm_X6_yards : Room := { frames := 2, cells := 0, slots := 0, locals := 43 }
/-- X6_got -/
def w_X6_got (a1 : Int32) (a2 : Int32) (a3 : Int32) (μ : Mem) (Q : Int32 → Mem → Prop) : Prop :=
  w_X6_isPost a1 μ (fun r1 => ((¬ r1 = 0 → w_X6_within a2 (nI 0) (nI 1) μ (fun r3 => ((r3 = 0 → Q ((-1000000002) : Int32) μ) ∧ (¬ r3 = 0 → w_X6_within a3 (nI 0) (nI 40) μ (fun r5 => ((¬ r5 = 0 → (((μ.1 237 3) < (nI 6) → w_X1_note 237 a1 a2 a3 μ (fun r7 μ8 => Q r7 μ8)) ∧ (¬ (μ.1 237 3) < (nI 6) → Q ((-1000000004) : Int32) μ))) ∧ (r5 = 0 → Q ((-1000000002) : Int32) μ))))))) ∧ (r1 = 0 → Q ((-1000000001) : Int32) μ)))
abbrev rm_X6_got : Room := { frames := 2, cells := 0, slots := 0, locals := 45 }
/-- X6_takenOf -/
def w_X6_takenOf (a1 : Int32) (a2 : Int32) (a3 : Int32) (μ : Mem) (Q : Int32 → Mem → Prop) : Prop :=
  w_X4_hanging 25 (μ.2.2 0) μ (fun r3 => w_X5_blow 25 (μ.1 (μ.2.2 0) 0) r3 a2 a3 μ (fun μ6 => w_X6_at 39 a1 μ6 (fun r7 => Q r7 μ6)))
abbrev rm_X6_takenOf : Room := { frames := 3, cells := 0, slots := 0, locals := 75 }
/-- X6_fitsAll -/
def s_X6_fitsAll_2 (a1 : Int32) (X2 : Int32 → Mem → Prop) (v2 : Int32) (μ : Mem) (Q : Int32 → Mem → Prop) : Prop :=
  (((μ.1 237 3) ≤ v2 → Q (nI 1) μ) ∧ (¬ (μ.1 237 3) ≤ v2 → (((nI 6) ≤ v2 → Q (nI 1) μ) ∧ (¬ (nI 6) ≤ v2 → w_X6_at (237 + 1) v2 μ (fun r1 => w_X6_at (237 + 2) v2 μ (fun r3 => w_X6_takenOf r1 r3 a1 μ (fun r5 μ6 => w_X6_at (237 + 3) v2 μ6 (fun r7 => ((r5 = r7 → ∀ x9 : Int32, x9 = v2 + (nI 1) → (X2 x9 μ6)) ∧ (¬ r5 = r7 → Q (nI 0) μ6))))))))))
def w_X6_fitsAll_2 (a1 : Int32) (v2 : Int32) (μ : Mem) (Q : Int32 → Mem → Prop) : Prop :=
  ∀ X2 : Int32 → Mem → Prop, (∀ (v2 : Int32) (μ : Mem), s_X6_fitsAll_2 a1 X2 v2 μ Q → X2 v2 μ) → X2 v2 μ
def w_X6_fitsAll (a1 : Int32) (μ : Mem) (Q : Int32 → Mem → Prop) : Prop :=
  (w_X6_fitsAll_2 a1 (nI 0) μ Q)
abbrev rm_X6_fitsAll : Room := { frames := 4, cells := 0, slots := 0, locals := 98 }
/-- X6_fitting -/
def w_X6_fitting_24 (X4 : Int64 → Int32 → Mem → Prop) (v1 : Int64) (v3 : Int32) (μ : Mem) (Q : Int64 → Mem → Prop) : Prop :=
  ∀ x4 : Int32, x4 = v3 + (nI 1) → (X4 v1 x4 μ)
def s_X6_fitting_4  (X4 : Int64 → Int32 → Mem → Prop) (v1 : Int64) (v3 : Int32) (μ : Mem) (Q : Int64 → Mem → Prop) : Prop :=
  (((nI 40) < v3 → Q v1 μ) ∧ (¬ (nI 40) < v3 → w_X6_fitsAll v3 μ (fun r1 μ2 => ((r1 = 0 → (w_X6_fitting_24 X4 v1 v3 μ2 Q)) ∧ (¬ r1 = 0 → ∀ x3 : Int64, x3 = (v1 ||| ((lN 1) <<< ((v3).toInt64 &&& 63))) → (w_X6_fitting_24 X4 x3 v3 μ2 Q))))))
def w_X6_fitting_4 (v1 : Int64) (v3 : Int32) (μ : Mem) (Q : Int64 → Mem → Prop) : Prop :=
  ∀ X4 : Int64 → Int32 → Mem → Prop, (∀ (v1 : Int64) (v3 : Int32) (μ : Mem), s_X6_fitting_4  X4 v1 v3 μ Q → X4 v1 v3 μ) → X4 v1 v3 μ
def w_X6_fitting (μ : Mem) (Q : Int64 → Mem → Prop) : Prop :=
  (w_X6_fitting_4 (lN 0) (nI 0) μ Q)
abbrev rm_X6_fitting : Room := { frames := 5, cells := 0, slots := 0, locals := 121 }
/-- J13_bitCount_95d88 -/
def w_J13_bitCount_95d88 (a0 : Int64) (μ : Mem) (Q : Int32 → Prop) : Prop :=
  ∀ x1 : Int64, x1 = (((a0).toUInt64 >>> (((nI 1)).toInt64.toUInt64 &&& Int64.toUInt64 63)).toInt64) → ∀ x2 : Int64, x2 = (a0 - (x1 &&& (lN 6148914691236517205))) → ∀ x3 : Int64, x3 = (((x2).toUInt64 >>> (((nI 2)).toInt64.toUInt64 &&& Int64.toUInt64 63)).toInt64) → ∀ x4 : Int64, x4 = ((x2 &&& (lN 3689348814741910323)) + (x3 &&& (lN 3689348814741910323))) → ∀ x5 : Int64, x5 = (((x4).toUInt64 >>> (((nI 4)).toInt64.toUInt64 &&& Int64.toUInt64 63)).toInt64) → ∀ x6 : Int64, x6 = ((x4 + x5) &&& (lN 1085102592571150095)) → ∀ x7 : Int64, x7 = (((x6).toUInt64 >>> (((nI 8)).toInt64.toUInt64 &&& Int64.toUInt64 63)).toInt64) → ∀ x8 : Int64, x8 = (x6 + x7) → ∀ x9 : Int64, x9 = (((x8).toUInt64 >>> (((nI 16)).toInt64.toUInt64 &&& Int64.toUInt64 63)).toInt64) → ∀ x10 : Int64, x10 = (x8 + x9) → ∀ x11 : Int64, x11 = (((x10).toUInt64 >>> (((nI 32)).toInt64.toUInt64 &&& Int64.toUInt64 63)).toInt64) → ∀ x12 : Int64, x12 = (x10 + x11) → Q ((x12).toInt32 &&& (nI 127))
abbrev rm_J13_bitCount_95d88 : Room := { frames := 0, cells := 0, slots := 0, locals := 0 }
/-- X6_thick -/
def w_X6_thick_87 (a1 : Int32) (X42 : Int32 → Int32 → Prop) (v2 : Int64) (v4 : Int32) (v5 : Int32) (μ : Mem) (Q : Int32 → Mem → Prop) : Prop :=
  ∀ x9 : Int32, x9 = v5 + (nI 1) → (X42 v4 x9)
def w_X6_thick_83 (a1 : Int32) (X42 : Int32 → Int32 → Prop) (v2 : Int64) (v5 : Int32) (μ : Mem) (Q : Int32 → Mem → Prop) : Prop :=
  (w_X6_thick_87 a1 X42 v2 v5 v5 μ Q)
def w_X6_thick_65 (a1 : Int32) (X42 : Int32 → Int32 → Prop) (v2 : Int64) (v4 : Int32) (v5 : Int32) (s1 : Int32) (μ : Mem) (Q : Int32 → Mem → Prop) : Prop :=
  ((s1 = 0 → (w_X6_thick_87 a1 X42 v2 v4 v5 μ Q)) ∧ (¬ s1 = 0 → ((a1 = (nI 2) → (w_X6_thick_83 a1 X42 v2 v5 μ Q)) ∧ (¬ a1 = (nI 2) → ((¬ v4 = ((-1) : Int32) → (w_X6_thick_87 a1 X42 v2 v4 v5 μ Q)) ∧ (v4 = ((-1) : Int32) → (w_X6_thick_83 a1 X42 v2 v5 μ Q)))))))
def s_X6_thick_42 (a1 : Int32) (v2 : Int64) (μ : Mem) (X42 : Int32 → Int32 → Prop) (v4 : Int32) (v5 : Int32) (Q : Int32 → Mem → Prop) : Prop :=
  (((nI 40) < v5 → Q v4 μ) ∧ (¬ (nI 40) < v5 → ((¬ (lg_cmp ((v2 >>> ((v5).toInt64 &&& 63)) &&& (lN 1)) (lN 1)) = 0 → (w_X6_thick_65 a1 X42 v2 v4 v5 (nI 0) μ Q)) ∧ ((lg_cmp ((v2 >>> ((v5).toInt64 &&& 63)) &&& (lN 1)) (lN 1)) = 0 → (w_X6_thick_65 a1 X42 v2 v4 v5 (nI 1) μ Q)))))
def w_X6_thick_42 (a1 : Int32) (v2 : Int64) (v4 : Int32) (v5 : Int32) (μ : Mem) (Q : Int32 → Mem → Prop) : Prop :=
  ∀ X42 : Int32 → Int32 → Prop, (∀ (v4 : Int32) (v5 : Int32), s_X6_thick_42 a1 v2 μ X42 v4 v5 Q → X42 v4 v5) → X42 v4 v5
def w_X6_thick (a1 : Int32) (μ : Mem) (Q : Int32 → Mem → Prop) : Prop :=
  w_X6_within a1 (nI 0) (nI 2) μ (fun r1 => ((¬ r1 = 0 → w_X6_isBare  μ (fun r3 => ((r3 = 0 → w_X6_fitting  μ (fun r5 μ6 => ((¬ a1 = 0 → (w_X6_thick_42 a1 r5 ((-1) : Int32) (nI 0) μ6 Q)) ∧ (a1 = 0 → w_J13_bitCount_95d88 r5 μ6 (fun r7 => Q r7 μ6))))) ∧ (¬ r3 = 0 → Q ((-1000000003) : Int32) μ)))) ∧ (r1 = 0 → Q ((-1000000002) : Int32) μ)))
abbrev rm_X6_thick : Room := { frames := 6, cells := 0, slots := 0, locals := 144 }
/-- X6_greatestPart -/
def w_X6_greatestPart_95 (a1 : Int64) (a3 : Int32) (a4 : Int32) (X30 : Int32 → Int32 → Mem → Prop) (v5 : Int32) (v6 : Int32) (μ : Mem) (Q : Int32 → Mem → Prop) : Prop :=
  ∀ x11 : Int32, x11 = v6 + (nI 1) → (X30 v5 x11 μ)
def s_X6_greatestPart_30 (a1 : Int64) (a3 : Int32) (a4 : Int32) (X30 : Int32 → Int32 → Mem → Prop) (v5 : Int32) (v6 : Int32) (μ : Mem) (Q : Int32 → Mem → Prop) : Prop :=
  (((nI 40) < v6 → Q v5 μ) ∧ (¬ (nI 40) < v6 → ((¬ (lg_cmp ((a1 >>> ((v6).toInt64 &&& 63)) &&& (lN 1)) (lN 0)) = 0 → w_X6_takenOf a3 a4 v6 μ (fun r3 μ4 => w_X6_at 245 r3 μ4 (fun r5 => ∀ x7 : Int32, x7 = (r5 + (nI 1)) → w_X6_put 245 r3 x7 μ4 (fun μ9 => ∀ x10 : Int32, x10 = (if v5 < x7 then x7 else v5) → (w_X6_greatestPart_95 a1 a3 a4 X30 x10 v6 μ9 Q))))) ∧ ((lg_cmp ((a1 >>> ((v6).toInt64 &&& 63)) &&& (lN 1)) (lN 0)) = 0 → (w_X6_greatestPart_95 a1 a3 a4 X30 v5 v6 μ Q)))))
def w_X6_greatestPart_30 (a1 : Int64) (a3 : Int32) (a4 : Int32) (v5 : Int32) (v6 : Int32) (μ : Mem) (Q : Int32 → Mem → Prop) : Prop :=
  ∀ X30 : Int32 → Int32 → Mem → Prop, (∀ (v5 : Int32) (v6 : Int32) (μ : Mem), s_X6_greatestPart_30 a1 a3 a4 X30 v5 v6 μ Q → X30 v5 v6 μ) → X30 v5 v6 μ
def w_X6_greatestPart_24 (a1 : Int64) (a3 : Int32) (a4 : Int32) (μ : Mem) (Q : Int32 → Mem → Prop) : Prop :=
  (w_X6_greatestPart_30 a1 a3 a4 (nI 0) (nI 0) μ Q)
def s_X6_greatestPart_3 (a1 : Int64) (a3 : Int32) (a4 : Int32) (X3 : Int32 → Mem → Prop) (v5 : Int32) (μ : Mem) (Q : Int32 → Mem → Prop) : Prop :=
  (((nI 40) < v5 → (w_X6_greatestPart_24 a1 a3 a4 μ Q)) ∧ (¬ (nI 40) < v5 → (vp_in v5 41 ∧ ∀ μ1 : Mem, μ1 = sI μ 245 (v5).toNatClampNeg (nI 0) → ∀ x2 : Int32, x2 = v5 + (nI 1) → (X3 x2 μ1))))
def w_X6_greatestPart_3 (a1 : Int64) (a3 : Int32) (a4 : Int32) (v5 : Int32) (μ : Mem) (Q : Int32 → Mem → Prop) : Prop :=
  ∀ X3 : Int32 → Mem → Prop, (∀ (v5 : Int32) (μ : Mem), s_X6_greatestPart_3 a1 a3 a4 X3 v5 μ Q → X3 v5 μ) → X3 v5 μ
def w_X6_greatestPart (a1 : Int64) (a3 : Int32) (a4 : Int32) (μ : Mem) (Q : Int32 → Mem → Prop) : Prop :=
  (w_X6_greatestPart_3 a1 a3 a4 (nI 0) μ Q)
abbrev rm_X6_greatestPart : Room := { frames := 4, cells := 0, slots := 0, locals := 98 }
/-- X6_lookAt -/
def w_X6_lookAt_83 (a1 : Int32) (X39 : Int32 → Int32 → Int32 → Mem → Prop) (v2 : Int64) (v4 : Int32) (v5 : Int32) (v6 : Int32) (μ : Mem) (Q : Int32 → Mem → Prop) : Prop :=
  ∀ x13 : Int32, x13 = v6 + (nI 1) → (X39 v4 v5 x13 μ)
def s_X6_lookAt_39 (a1 : Int32) (v2 : Int64) (X39 : Int32 → Int32 → Int32 → Mem → Prop) (v4 : Int32) (v5 : Int32) (v6 : Int32) (μ : Mem) (Q : Int32 → Mem → Prop) : Prop :=
  (((nI 6) ≤ v6 → Q v4 μ) ∧ (¬ (nI 6) ≤ v6 → w_X6_isPost v6 μ (fun r9 => ((¬ r9 = 0 → w_X6_greatestPart v2 v6 a1 μ (fun r11 μ12 => ((v5 ≤ r11 → (w_X6_lookAt_83 a1 X39 v2 v4 v5 v6 μ12 Q)) ∧ (¬ v5 ≤ r11 → (w_X6_lookAt_83 a1 X39 v2 v6 r11 v6 μ12 Q))))) ∧ (r9 = 0 → (w_X6_lookAt_83 a1 X39 v2 v4 v5 v6 μ Q))))))
def w_X6_lookAt_39 (a1 : Int32) (v2 : Int64) (v4 : Int32) (v5 : Int32) (v6 : Int32) (μ : Mem) (Q : Int32 → Mem → Prop) : Prop :=
  ∀ X39 : Int32 → Int32 → Int32 → Mem → Prop, (∀ (v4 : Int32) (v5 : Int32) (v6 : Int32) (μ : Mem), s_X6_lookAt_39 a1 v2 X39 v4 v5 v6 μ Q → X39 v4 v5 v6 μ) → X39 v4 v5 v6 μ
def w_X6_lookAt (a1 : Int32) (μ : Mem) (Q : Int32 → Mem → Prop) : Prop :=
  w_X6_within a1 (nI 0) (nI 1) μ (fun r1 => ((¬ r1 = 0 → w_X6_isBare  μ (fun r3 => ((r3 = 0 → w_X6_fitting  μ (fun r5 μ6 => w_J13_bitCount_95d88 r5 μ6 (fun r7 => (w_X6_lookAt_39 a1 r5 ((-1) : Int32) r7 (nI 0) μ6 Q)))) ∧ (¬ r3 = 0 → Q ((-1000000003) : Int32) μ)))) ∧ (r1 = 0 → Q ((-1000000002) : Int32) μ)))
abbrev rm_X6_lookAt : Room := { frames := 6, cells := 0, slots := 0, locals := 144 }
/-- X6_needs -/
def s_X6_needs_36 (a1 : Int32) (a2 : Int32) (a3 : Int32) (X36 : Int32 → Mem → Prop) (v4 : Int32) (μ : Mem) (Q : Int32 → Mem → Prop) : Prop :=
  (((nI 40) < v4 → Q ((-1) : Int32) μ) ∧ (¬ (nI 40) < v4 → w_X6_takenOf a1 a2 v4 μ (fun r7 μ8 => ((r7 < a3 → ∀ x9 : Int32, x9 = v4 + (nI 1) → (X36 x9 μ8)) ∧ (¬ r7 < a3 → Q v4 μ8)))))
def w_X6_needs_36 (a1 : Int32) (a2 : Int32) (a3 : Int32) (v4 : Int32) (μ : Mem) (Q : Int32 → Mem → Prop) : Prop :=
  ∀ X36 : Int32 → Mem → Prop, (∀ (v4 : Int32) (μ : Mem), s_X6_needs_36 a1 a2 a3 X36 v4 μ Q → X36 v4 μ) → X36 v4 μ
def w_X6_needs (a1 : Int32) (a2 : Int32) (a3 : Int32) (μ : Mem) (Q : Int32 → Mem → Prop) : Prop :=
  w_X6_isPost a1 μ (fun r1 => ((¬ r1 = 0 → w_X6_within a2 (nI 0) (nI 1) μ (fun r3 => ((r3 = 0 → Q ((-1000000002) : Int32) μ) ∧ (¬ r3 = 0 → w_X6_within a3 (nI 0) (nI 40) μ (fun r5 => ((¬ r5 = 0 → (w_X6_needs_36 a1 a2 a3 (nI 0) μ Q)) ∧ (r5 = 0 → Q ((-1000000002) : Int32) μ))))))) ∧ (r1 = 0 → Q ((-1000000001) : Int32) μ)))
abbrev rm_X6_needs : Room := { frames := 4, cells := 0, slots := 0, locals := 98 }
/-- X6_tear -/
def w_X6_tear (μ : Mem) (Q : Int32 → Mem → Prop) : Prop :=
  ∀ x1 : Int32, x1 = ((μ.1 237 3) + (μ.1 241 3)) → ∀ μ2 : Mem, μ2 = sI μ 237 3 (nI 0) → ∀ μ3 : Mem, μ3 = sI μ2 241 3 (nI 0) → Q x1 μ3
abbrev rm_X6_tear : Room := { frames := 0, cells := 0, slots := 0, locals := 0 }
/-- X6_seed -/
def w_X6_seed (a1 : Int32) (μ : Mem) (Q : Int32 → Mem → Prop) : Prop :=
  ((0 ≤ a1 → ∀ x1 : Int32, x1 = (μ.1 0 10) → ∀ μ2 : Mem, μ2 = sI μ 0 10 a1 → Q x1 μ2) ∧ (¬ 0 ≤ a1 → Q ((-1000000002) : Int32) μ))
abbrev rm_X6_seed : Room := { frames := 0, cells := 0, slots := 0, locals := 0 }
/-- X6_imageOf -/
def w_X6_imageOf (a1 : Int32) (μ : Mem) (Q : Option Nat → Prop) : Prop :=
  ((a1 < 0 → Q none) ∧ (¬ a1 < 0 → (((nI 2) ≤ a1 → Q none) ∧ (¬ (nI 2) ≤ a1 → (((nI 2) ≤ a1 → Q none) ∧ (¬ (nI 2) ≤ a1 → (vp_in a1 2 ∧ (sF.2.1 (224 + 6 * (a1).toNatClampNeg) = 4 ∧ Q (some (224 + 6 * (a1).toNatClampNeg))))))))))
abbrev rm_X6_imageOf : Room := { frames := 0, cells := 0, slots := 0, locals := 0 }
/-- X6_keep -/
def w_X6_keep (a1 : Int32) (μ : Mem) (Q : Int32 → Mem → Prop) : Prop :=
  w_X6_imageOf a1 μ (fun r1 => (r1 = none → Q ((-1000000001) : Int32) μ) ∧ (∀ b3 : Nat, r1 = some b3 → (sF.2.1 b3 = 4 ∧ w_X4_become b3 25 μ (fun μ5 => w_X6_put 236 a1 (μ5.1 0 10) μ5 (fun μ7 => ∀ μ8 : Mem, μ8 = sI μ7 41 2 (nI 0) → Q (nI 1) μ8)))))
abbrev rm_X6_keep : Room := { frames := 2, cells := 0, slots := 0, locals := 81 }
/-- X6_goBack -/
def w_X6_goBack (a1 : Int32) (μ : Mem) (Q : Int32 → Mem → Prop) : Prop :=
  w_X6_imageOf a1 μ (fun r1 => (r1 = none → Q ((-1000000001) : Int32) μ) ∧ (∀ b3 : Nat, r1 = some b3 → (sF.2.1 b3 = 4 ∧ w_X6_at 236 a1 μ (fun r4 => ((¬ r4 = ((-1) : Int32) → w_X4_become 25 b3 μ (fun μ7 => ∀ μ8 : Mem, μ8 = sI μ7 0 10 r4 → ∀ μ9 : Mem, μ9 = sI μ8 41 2 (nI 0) → Q (nI 1) μ9)) ∧ (r4 = ((-1) : Int32) → Q ((-1000000003) : Int32) μ))))))
abbrev rm_X6_goBack : Room := { frames := 2, cells := 0, slots := 0, locals := 81 }
/-- L_cell -/
def w_L_cell (ss : Nat × (Nat → Int32)) (a1 : Int32) (μ : Mem) (Q : Int32 → Prop) : Prop :=
  (((nI ss.1) ≤ a1 → Q ((((nI 61) * a1) + (nI 7)) * (a1 + (nI 3)))) ∧ (¬ (nI ss.1) ≤ a1 → (vp_in a1 ss.1 ∧ Q ((ss.2 (a1).toNatClampNeg) &&& (nI 268435455)))))
abbrev rm_L_cell : Room := { frames := 0, cells := 0, slots := 0, locals := 0 }
/-- L_put -/
def w_L_put (a1 : Int32) (a2 : Int32) (μ : Mem) (Q : Int32 → Mem → Prop) : Prop :=
  ((a1 < 0 → Q ((-1000) : Int32) μ) ∧ (¬ a1 < 0 → w_X6_feed a2 μ (fun r1 μ2 => ((¬ r1 = (a1 + (nI 1)) → Q ((-1000) : Int32) μ2) ∧ (r1 = (a1 + (nI 1)) → Q (a1 + (nI 1)) μ2)))))
abbrev rm_L_put : Room := { frames := 3, cells := 0, slots := 0, locals := 64 }
/-- L_number -/
def w_L_number_51 (a1 : Int32) (a2 : Int32) (a3 : Int32) (s1 : Int32) (μ : Mem) (Q : Int32 → Mem → Prop) : Prop :=
  (¬ (nI 10) = 0 ∧ ∀ x6 : Int32, x6 = (a2 - a2 / (nI 10) * (nI 10)) → w_L_put s1 ((nI 48) + x6) μ (fun r7 μ8 => w_L_put r7 a3 μ8 (fun r9 μ10 => Q r9 μ10)))
def w_L_number_22 (a1 : Int32) (a2 : Int32) (a3 : Int32) (s1 : Int32) (μ : Mem) (Q : Int32 → Mem → Prop) : Prop :=
  ((a2 ≤ (nI 9) → (w_L_number_51 a1 a2 a3 s1 μ Q)) ∧ (¬ a2 ≤ (nI 9) → (¬ (nI 10) = 0 ∧ (¬ (nI 10) = 0 ∧ ∀ x3 : Int32, x3 = ((a2 / (nI 10)) - (a2 / (nI 10)) / (nI 10) * (nI 10)) → w_L_put s1 ((nI 48) + x3) μ (fun r4 μ5 => (w_L_number_51 a1 a2 a3 r4 μ5 Q))))))
def w_L_number (a1 : Int32) (a2 : Int32) (a3 : Int32) (μ : Mem) (Q : Int32 → Mem → Prop) : Prop :=
  ((a2 ≤ (nI 99) → (w_L_number_22 a1 a2 a3 a1 μ Q)) ∧ (¬ a2 ≤ (nI 99) → (¬ (nI 100) = 0 ∧ w_L_put a1 ((nI 48) + (a2 / (nI 100))) μ (fun r1 μ2 => (w_L_number_22 a1 a2 a3 r1 μ2 Q)))))
abbrev rm_L_number : Room := { frames := 4, cells := 0, slots := 0, locals := 86 }
/-- L_numbers -/
def s_L_numbers_450 (ss : Nat × (Nat → Int32)) (a1 : Int32) (a2 : Int32) (X450 : Int32 → Mem → Prop) (v8 : Int32) (μ : Mem) (Q : Mem → Prop) : Prop :=
  (vp_in (nI 2) 53 ∧ (((μ.1 246 ((nI 2)).toNatClampNeg) ≤ v8 → Q μ) ∧ (¬ (μ.1 246 ((nI 2)).toNatClampNeg) ≤ v8 → w_L_cell ss ((a1 + (nI 12)) + v8) μ (fun r50 => (¬ (nI 2) = 0 ∧ ∀ x52 : Int32, x52 = (r50 - r50 / (nI 2) * (nI 2)) → (vp_in ((nI 29) + ((nI 2) * v8)) 53 ∧ ∀ μ53 : Mem, μ53 = sI μ 246 (((nI 29) + ((nI 2) * v8))).toNatClampNeg x52 → (¬ (nI 2) = 0 ∧ (¬ (nI 41) = 0 ∧ ∀ x54 : Int32, x54 = ((r50 / (nI 2)) - (r50 / (nI 2)) / (nI 41) * (nI 41)) → (vp_in ((nI 30) + ((nI 2) * v8)) 53 ∧ ∀ μ55 : Mem, μ55 = sI μ53 246 (((nI 30) + ((nI 2) * v8))).toNatClampNeg x54 → ∀ x56 : Int32, x56 = v8 + (nI 1) → (X450 x56 μ55))))))))))
def w_L_numbers_450 (ss : Nat × (Nat → Int32)) (a1 : Int32) (a2 : Int32) (v8 : Int32) (μ : Mem) (Q : Mem → Prop) : Prop :=
  ∀ X450 : Int32 → Mem → Prop, (∀ (v8 : Int32) (μ : Mem), s_L_numbers_450 ss a1 a2 X450 v8 μ Q → X450 v8 μ) → X450 v8 μ
def w_L_numbers_447 (ss : Nat × (Nat → Int32)) (a1 : Int32) (a2 : Int32) (μ : Mem) (Q : Mem → Prop) : Prop :=
  (w_L_numbers_450 ss a1 a2 (nI 0) μ Q)
def s_L_numbers_390 (ss : Nat × (Nat → Int32)) (a1 : Int32) (a2 : Int32) (X390 : Int32 → Mem → Prop) (v8 : Int32) (μ : Mem) (Q : Mem → Prop) : Prop :=
  (vp_in (nI 4) 53 ∧ (((μ.1 246 ((nI 4)).toNatClampNeg) ≤ v8 → (w_L_numbers_447 ss a1 a2 μ Q)) ∧ (¬ (μ.1 246 ((nI 4)).toNatClampNeg) ≤ v8 → w_L_cell ss ((a1 + (nI 8)) + v8) μ (fun r43 => (vp_in (nI 0) 53 ∧ (¬ (μ.1 246 ((nI 0)).toNatClampNeg) = 0 ∧ ∀ x45 : Int32, x45 = (r43 - r43 / (μ.1 246 ((nI 0)).toNatClampNeg) * (μ.1 246 ((nI 0)).toNatClampNeg)) → (vp_in ((nI 21) + v8) 53 ∧ ∀ μ46 : Mem, μ46 = sI μ 246 (((nI 21) + v8)).toNatClampNeg x45 → (¬ (nI 16) = 0 ∧ (¬ (nI 20) = 0 ∧ ∀ x47 : Int32, x47 = ((r43 / (nI 16)) - (r43 / (nI 16)) / (nI 20) * (nI 20)) → (vp_in ((nI 25) + v8) 53 ∧ ∀ μ48 : Mem, μ48 = sI μ46 246 (((nI 25) + v8)).toNatClampNeg ((nI 1) + x47) → ∀ x49 : Int32, x49 = v8 + (nI 1) → (X390 x49 μ48)))))))))))
def w_L_numbers_390 (ss : Nat × (Nat → Int32)) (a1 : Int32) (a2 : Int32) (v8 : Int32) (μ : Mem) (Q : Mem → Prop) : Prop :=
  ∀ X390 : Int32 → Mem → Prop, (∀ (v8 : Int32) (μ : Mem), s_L_numbers_390 ss a1 a2 X390 v8 μ Q → X390 v8 μ) → X390 v8 μ
def w_L_numbers_387 (ss : Nat × (Nat → Int32)) (a1 : Int32) (a2 : Int32) (μ : Mem) (Q : Mem → Prop) : Prop :=
  (w_L_numbers_390 ss a1 a2 (nI 0) μ Q)
def w_L_numbers_364 (ss : Nat × (Nat → Int32)) (a1 : Int32) (a2 : Int32) (X224 : Int32 → Int32 → Mem → Prop) (v5 : Int32) (v7 : Int32) (v8 : Int32) (s5 : Int32) (s4 : Int32) (s3 : Int32) (s2 : Int32) (μ : Mem) (Q : Mem → Prop) : Prop :=
  (¬ s5 = 0 ∧ ∀ x38 : Int32, x38 = (s4 - s4 / s5 * s5) → (vp_in s2 53 ∧ ∀ μ39 : Mem, μ39 = sI μ 246 (s2).toNatClampNeg (s3 + x38) → (¬ (nI 65536) = 0 ∧ (¬ (nI 2) = 0 ∧ ∀ x40 : Int32, x40 = ((v5 / (nI 65536)) - (v5 / (nI 65536)) / (nI 2) * (nI 2)) → (vp_in ((nI 15) + v8) 53 ∧ ∀ μ41 : Mem, μ41 = sI μ39 246 (((nI 15) + v8)).toNatClampNeg x40 → ∀ x42 : Int32, x42 = v8 + (nI 1) → (X224 v7 x42 μ41))))))
def w_L_numbers_299 (ss : Nat × (Nat → Int32)) (a1 : Int32) (a2 : Int32) (X224 : Int32 → Int32 → Mem → Prop) (v5 : Int32) (v7 : Int32) (v8 : Int32) (v9 : Int32) (μ : Mem) (Q : Mem → Prop) : Prop :=
  ∀ x33 : Int32, x33 = (v7 ||| ((nI 1) <<< (v9 &&& 31))) → (vp_in ((nI 15) + v8) 27 ∧ ∀ μ34 : Mem, μ34 = sI μ 247 (((nI 15) + v8)).toNatClampNeg v9 → (¬ (nI 16) = 0 ∧ (¬ (nI 10) = 0 ∧ ∀ x35 : Int32, x35 = ((v5 / (nI 16)) - (v5 / (nI 16)) / (nI 10) * (nI 10)) → (vp_in ((nI 21) + v8) 27 ∧ ∀ μ36 : Mem, μ36 = sI μ34 247 (((nI 21) + v8)).toNatClampNeg x35 → (¬ (nI 256) = 0 ∧ (¬ (nI 32768) = 0 ∧ (¬ (nI 2) = 0 ∧ ∀ x37 : Int32, x37 = ((v5 / (nI 32768)) - (v5 / (nI 32768)) / (nI 2) * (nI 2)) → ((¬ x37 = 0 → (w_L_numbers_364 ss a1 a2 X224 v5 x33 v8 (nI 20) (v5 / (nI 256)) (nI 1) ((nI 9) + v8) μ36 Q)) ∧ (x37 = 0 → (w_L_numbers_364 ss a1 a2 X224 v5 x33 v8 (nI 99) (v5 / (nI 256)) (nI 1) ((nI 9) + v8) μ36 Q))))))))))
def w_L_numbers_291 (ss : Nat × (Nat → Int32)) (a1 : Int32) (a2 : Int32) (X224 : Int32 → Int32 → Mem → Prop) (X255 : Int32 → Int32 → Prop) (v5 : Int32) (v7 : Int32) (v8 : Int32) (v10 : Int32) (s1 : Int32) (μ : Mem) (Q : Mem → Prop) : Prop :=
  ∀ x32 : Int32, x32 = v10 + (nI 1) → (X255 s1 x32)
def s_L_numbers_255 (ss : Nat × (Nat → Int32)) (a1 : Int32) (a2 : Int32) (X224 : Int32 → Int32 → Mem → Prop) (v5 : Int32) (v7 : Int32) (v8 : Int32) (μ : Mem) (X255 : Int32 → Int32 → Prop) (v9 : Int32) (v10 : Int32) (Q : Mem → Prop) : Prop :=
  (((nI 12) ≤ v10 → (w_L_numbers_299 ss a1 a2 X224 v5 v7 v8 v9 μ Q)) ∧ (¬ (nI 12) ≤ v10 → ((¬ ((v7 >>> (v9 &&& 31)) &&& (nI 1)) = (nI 1) → (w_L_numbers_299 ss a1 a2 X224 v5 v7 v8 v9 μ Q)) ∧ (((v7 >>> (v9 &&& 31)) &&& (nI 1)) = (nI 1) → (vp_in (nI 0) 53 ∧ ((¬ v9 = ((μ.1 246 ((nI 0)).toNatClampNeg) - (nI 1)) → (w_L_numbers_291 ss a1 a2 X224 X255 v5 v7 v8 v10 (v9 + (nI 1)) μ Q)) ∧ (v9 = ((μ.1 246 ((nI 0)).toNatClampNeg) - (nI 1)) → (w_L_numbers_291 ss a1 a2 X224 X255 v5 v7 v8 v10 (nI 0) μ Q))))))))
def w_L_numbers_255 (ss : Nat × (Nat → Int32)) (a1 : Int32) (a2 : Int32) (X224 : Int32 → Int32 → Mem → Prop) (v5 : Int32) (v7 : Int32) (v8 : Int32) (v9 : Int32) (v10 : Int32) (μ : Mem) (Q : Mem → Prop) : Prop :=
  ∀ X255 : Int32 → Int32 → Prop, (∀ (v9 : Int32) (v10 : Int32), s_L_numbers_255 ss a1 a2 X224 v5 v7 v8 μ X255 v9 v10 Q → X255 v9 v10) → X255 v9 v10
def s_L_numbers_224 (ss : Nat × (Nat → Int32)) (a1 : Int32) (a2 : Int32) (X224 : Int32 → Int32 → Mem → Prop) (v7 : Int32) (v8 : Int32) (μ : Mem) (Q : Mem → Prop) : Prop :=
  (vp_in (nI 3) 53 ∧ (((μ.1 246 ((nI 3)).toNatClampNeg) ≤ v8 → (w_L_numbers_387 ss a1 a2 μ Q)) ∧ (¬ (μ.1 246 ((nI 3)).toNatClampNeg) ≤ v8 → w_L_cell ss ((a1 + (nI 2)) + v8) μ (fun r29 => (vp_in (nI 0) 53 ∧ (¬ (μ.1 246 ((nI 0)).toNatClampNeg) = 0 ∧ ∀ x31 : Int32, x31 = (r29 - r29 / (μ.1 246 ((nI 0)).toNatClampNeg) * (μ.1 246 ((nI 0)).toNatClampNeg)) → (w_L_numbers_255 ss a1 a2 X224 r29 v7 v8 x31 (nI 0) μ Q)))))))
def w_L_numbers_224 (ss : Nat × (Nat → Int32)) (a1 : Int32) (a2 : Int32) (v7 : Int32) (v8 : Int32) (μ : Mem) (Q : Mem → Prop) : Prop :=
  ∀ X224 : Int32 → Int32 → Mem → Prop, (∀ (v7 : Int32) (v8 : Int32) (μ : Mem), s_L_numbers_224 ss a1 a2 X224 v7 v8 μ Q → X224 v7 v8 μ) → X224 v7 v8 μ
def w_L_numbers_192 (ss : Nat × (Nat → Int32)) (a1 : Int32) (a2 : Int32) (v5 : Int32) (s3 : Int32) (s2 : Int32) (μ : Mem) (Q : Mem → Prop) : Prop :=
  (vp_in s2 53 ∧ ∀ μ24 : Mem, μ24 = sI μ 246 (s2).toNatClampNeg s3 → (¬ (nI 16384) = 0 ∧ (¬ (nI 30) = 0 ∧ ∀ x25 : Int32, x25 = ((v5 / (nI 16384)) - (v5 / (nI 16384)) / (nI 30) * (nI 30)) → (vp_in (nI 7) 53 ∧ ∀ μ26 : Mem, μ26 = sI μ24 246 ((nI 7)).toNatClampNeg x25 → (¬ (nI 1048576) = 0 ∧ (¬ (nI 20) = 0 ∧ ∀ x27 : Int32, x27 = ((v5 / (nI 1048576)) - (v5 / (nI 1048576)) / (nI 20) * (nI 20)) → (vp_in (nI 8) 53 ∧ ∀ μ28 : Mem, μ28 = sI μ26 246 ((nI 8)).toNatClampNeg x27 → (w_L_numbers_224 ss a1 a2 (nI 0) (nI 0) μ28 Q))))))))
def w_L_numbers_168 (ss : Nat × (Nat → Int32)) (a1 : Int32) (a2 : Int32) (v5 : Int32) (v6 : Int32) (s3 : Int32) (s2 : Int32) (μ : Mem) (Q : Mem → Prop) : Prop :=
  (vp_in s2 53 ∧ ∀ μ22 : Mem, μ22 = sI μ 246 (s2).toNatClampNeg s3 → ((v6 = 0 → (¬ (nI 128) = 0 ∧ (¬ (nI 128) = 0 ∧ ∀ x23 : Int32, x23 = ((v5 / (nI 128)) - (v5 / (nI 128)) / (nI 128) * (nI 128)) → (w_L_numbers_192 ss a1 a2 v5 x23 (nI 6) μ22 Q)))) ∧ (¬ v6 = 0 → (w_L_numbers_192 ss a1 a2 v5 (nI 127) (nI 6) μ22 Q))))
def w_L_numbers_139 (ss : Nat × (Nat → Int32)) (a1 : Int32) (a2 : Int32) (s1 : Int32) (μ : Mem) (Q : Mem → Prop) : Prop :=
  w_L_cell ss (a1 + (nI 1)) μ (fun r19 => ((s1 = 0 → (¬ (nI 128) = 0 ∧ ∀ x21 : Int32, x21 = (r19 - r19 / (nI 128) * (nI 128)) → (w_L_numbers_168 ss a1 a2 r19 s1 x21 (nI 5) μ Q))) ∧ (¬ s1 = 0 → (w_L_numbers_168 ss a1 a2 r19 s1 (nI 127) (nI 5) μ Q))))
def w_L_numbers_100 (ss : Nat × (Nat → Int32)) (a1 : Int32) (a2 : Int32) (v5 : Int32) (s3 : Int32) (s2 : Int32) (μ : Mem) (Q : Mem → Prop) : Prop :=
  (vp_in s2 53 ∧ ∀ μ13 : Mem, μ13 = sI μ 246 (s2).toNatClampNeg s3 → (¬ (nI 4096) = 0 ∧ (¬ a2 = 0 ∧ ∀ x14 : Int32, x14 = ((v5 / (nI 4096)) - (v5 / (nI 4096)) / a2 * a2) → (vp_in (nI 3) 53 ∧ ∀ μ15 : Mem, μ15 = sI μ13 246 ((nI 3)).toNatClampNeg ((nI 1) + x14) → (¬ (nI 32768) = 0 ∧ (¬ (nI 5) = 0 ∧ ∀ x16 : Int32, x16 = ((v5 / (nI 32768)) - (v5 / (nI 32768)) / (nI 5) * (nI 5)) → (vp_in (nI 4) 53 ∧ ∀ μ17 : Mem, μ17 = sI μ15 246 ((nI 4)).toNatClampNeg x16 → (¬ (nI 262144) = 0 ∧ (¬ (nI 3) = 0 ∧ ∀ x18 : Int32, x18 = ((v5 / (nI 262144)) - (v5 / (nI 262144)) / (nI 3) * (nI 3)) → ((¬ x18 = 0 → (w_L_numbers_139 ss a1 a2 (nI 0) μ17 Q)) ∧ (x18 = 0 → (w_L_numbers_139 ss a1 a2 (nI 1) μ17 Q))))))))))))
def w_L_numbers_43 (ss : Nat × (Nat → Int32)) (a1 : Int32) (a2 : Int32) (μ : Mem) (Q : Mem → Prop) : Prop :=
  w_L_cell ss a1 μ (fun r5 => (¬ ((nI 13) - a2) = 0 ∧ ∀ x7 : Int32, x7 = (r5 - r5 / ((nI 13) - a2) * ((nI 13) - a2)) → (vp_in (nI 0) 53 ∧ ∀ μ8 : Mem, μ8 = sI μ 246 ((nI 0)).toNatClampNeg (a2 + x7) → (¬ (nI 16) = 0 ∧ (¬ (nI 21) = 0 ∧ ∀ x9 : Int32, x9 = ((r5 / (nI 16)) - (r5 / (nI 16)) / (nI 21) * (nI 21)) → (vp_in (nI 1) 53 ∧ ∀ μ10 : Mem, μ10 = sI μ8 246 ((nI 1)).toNatClampNeg x9 → (¬ (nI 512) = 0 ∧ (¬ (nI 5) = 0 ∧ ∀ x11 : Int32, x11 = ((r5 / (nI 512)) - (r5 / (nI 512)) / (nI 5) * (nI 5)) → ((¬ x11 = 0 → (¬ (nI 512) = 0 ∧ (¬ (nI 4) = 0 ∧ ∀ x12 : Int32, x12 = ((r5 / (nI 512)) - (r5 / (nI 512)) / (nI 4) * (nI 4)) → (w_L_numbers_100 ss a1 a2 r5 ((nI 1) + x12) (nI 2) μ10 Q)))) ∧ (x11 = 0 → (w_L_numbers_100 ss a1 a2 r5 (nI 0) (nI 2) μ10 Q)))))))))))
def s_L_numbers_24 (ss : Nat × (Nat → Int32)) (a1 : Int32) (a2 : Int32) (X24 : Int32 → Mem → Prop) (v5 : Int32) (μ : Mem) (Q : Mem → Prop) : Prop :=
  (((nI 27) ≤ v5 → (w_L_numbers_43 ss a1 a2 μ Q)) ∧ (¬ (nI 27) ≤ v5 → (vp_in v5 27 ∧ ∀ μ3 : Mem, μ3 = sI μ 247 (v5).toNatClampNeg (nI 0) → ∀ x4 : Int32, x4 = v5 + (nI 1) → (X24 x4 μ3))))
def w_L_numbers_24 (ss : Nat × (Nat → Int32)) (a1 : Int32) (a2 : Int32) (v5 : Int32) (μ : Mem) (Q : Mem → Prop) : Prop :=
  ∀ X24 : Int32 → Mem → Prop, (∀ (v5 : Int32) (μ : Mem), s_L_numbers_24 ss a1 a2 X24 v5 μ Q → X24 v5 μ) → X24 v5 μ
def w_L_numbers_21 (ss : Nat × (Nat → Int32)) (a1 : Int32) (a2 : Int32) (μ : Mem) (Q : Mem → Prop) : Prop :=
  (w_L_numbers_24 ss a1 a2 (nI 0) μ Q)
def s_L_numbers_3 (ss : Nat × (Nat → Int32)) (a1 : Int32) (a2 : Int32) (X3 : Int32 → Mem → Prop) (v5 : Int32) (μ : Mem) (Q : Mem → Prop) : Prop :=
  (((nI 53) ≤ v5 → (w_L_numbers_21 ss a1 a2 μ Q)) ∧ (¬ (nI 53) ≤ v5 → (vp_in v5 53 ∧ ∀ μ1 : Mem, μ1 = sI μ 246 (v5).toNatClampNeg (nI 0) → ∀ x2 : Int32, x2 = v5 + (nI 1) → (X3 x2 μ1))))
def w_L_numbers_3 (ss : Nat × (Nat → Int32)) (a1 : Int32) (a2 : Int32) (v5 : Int32) (μ : Mem) (Q : Mem → Prop) : Prop :=
  ∀ X3 : Int32 → Mem → Prop, (∀ (v5 : Int32) (μ : Mem), s_L_numbers_3 ss a1 a2 X3 v5 μ Q → X3 v5 μ) → X3 v5 μ
def w_L_numbers (ss : Nat × (Nat → Int32)) (a1 : Int32) (a2 : Int32) (μ : Mem) (Q : Mem → Prop) : Prop :=
  (w_L_numbers_3 ss a1 a2 (nI 0) μ Q)
abbrev rm_L_numbers : Room := { frames := 1, cells := 0, slots := 0, locals := 21 }
/-- L_coast -/
def w_L_coast_274 (v3 : Int32) (μ : Mem) (Q : Int32 → Mem → Prop) : Prop :=
  ((v3 ≤ 0 → Q (nI 0) μ) ∧ (¬ v3 ≤ 0 → w_X6_told (nI 5) μ (fun r46 => ((¬ r46 = v3 → Q (nI 0) μ) ∧ (r46 = v3 → w_X6_coast  μ (fun r48 μ49 => (vp_in (nI 3) 53 ∧ ((¬ r48 = (μ49.1 246 ((nI 3)).toNatClampNeg) → Q (nI 0) μ49) ∧ (r48 = (μ49.1 246 ((nI 3)).toNatClampNeg) → w_X6_fault  μ49 (fun r50 => ((¬ r50 = ((-1) : Int32) → Q (nI 0) μ49) ∧ (r50 = ((-1) : Int32) → w_X6_told (nI 5) μ49 (fun r52 => ((¬ r52 = 0 → Q (nI 0) μ49) ∧ (r52 = 0 → Q (nI 1) μ49)))))))))))))))
def s_L_coast_226  (X226 : Int32 → Int32 → Mem → Prop) (v3 : Int32) (v4 : Int32) (μ : Mem) (Q : Int32 → Mem → Prop) : Prop :=
  (vp_in (nI 4) 53 ∧ (((μ.1 246 ((nI 4)).toNatClampNeg) ≤ v4 → (w_L_coast_274 v3 μ Q)) ∧ (¬ (μ.1 246 ((nI 4)).toNatClampNeg) ≤ v4 → w_L_put v3 (nI 103) μ (fun r39 μ40 => (vp_in ((nI 21) + v4) 53 ∧ w_L_number r39 (μ40.1 246 (((nI 21) + v4)).toNatClampNeg) (nI 32) μ40 (fun r41 μ42 => (vp_in ((nI 25) + v4) 53 ∧ w_L_number r41 (μ42.1 246 (((nI 25) + v4)).toNatClampNeg) (nI 59) μ42 (fun r43 μ44 => ∀ x45 : Int32, x45 = v4 + (nI 1) → (X226 r43 x45 μ44)))))))))
def w_L_coast_226 (v3 : Int32) (v4 : Int32) (μ : Mem) (Q : Int32 → Mem → Prop) : Prop :=
  ∀ X226 : Int32 → Int32 → Mem → Prop, (∀ (v3 : Int32) (v4 : Int32) (μ : Mem), s_L_coast_226  X226 v3 v4 μ Q → X226 v3 v4 μ) → X226 v3 v4 μ
def w_L_coast_168 (v3 : Int32) (μ : Mem) (Q : Int32 → Mem → Prop) : Prop :=
  w_L_put v3 (nI 100) μ (fun r27 μ28 => (vp_in (nI 5) 53 ∧ w_L_number r27 (μ28.1 246 ((nI 5)).toNatClampNeg) (nI 32) μ28 (fun r29 μ30 => (vp_in (nI 6) 53 ∧ w_L_number r29 (μ30.1 246 ((nI 6)).toNatClampNeg) (nI 59) μ30 (fun r31 μ32 => w_L_put r31 (nI 117) μ32 (fun r33 μ34 => (vp_in (nI 7) 53 ∧ w_L_number r33 (μ34.1 246 ((nI 7)).toNatClampNeg) (nI 32) μ34 (fun r35 μ36 => (vp_in (nI 8) 53 ∧ w_L_number r35 (μ36.1 246 ((nI 8)).toNatClampNeg) (nI 59) μ36 (fun r37 μ38 => (w_L_coast_226 r37 (nI 0) μ38 Q)))))))))))
def s_L_coast_94  (X94 : Int32 → Int32 → Mem → Prop) (v3 : Int32) (v4 : Int32) (μ : Mem) (Q : Int32 → Mem → Prop) : Prop :=
  (vp_in (nI 3) 53 ∧ (((μ.1 246 ((nI 3)).toNatClampNeg) ≤ v4 → (w_L_coast_168 v3 μ Q)) ∧ (¬ (μ.1 246 ((nI 3)).toNatClampNeg) ≤ v4 → w_L_put v3 (nI 112) μ (fun r16 μ17 => (vp_in ((nI 15) + v4) 27 ∧ w_L_number r16 (μ17.1 247 (((nI 15) + v4)).toNatClampNeg) (nI 32) μ17 (fun r18 μ19 => (vp_in ((nI 21) + v4) 27 ∧ w_L_number r18 (μ19.1 247 (((nI 21) + v4)).toNatClampNeg) (nI 32) μ19 (fun r20 μ21 => (vp_in ((nI 9) + v4) 53 ∧ w_L_number r20 (μ21.1 246 (((nI 9) + v4)).toNatClampNeg) (nI 32) μ21 (fun r22 μ23 => (vp_in ((nI 15) + v4) 53 ∧ w_L_number r22 (μ23.1 246 (((nI 15) + v4)).toNatClampNeg) (nI 59) μ23 (fun r24 μ25 => ∀ x26 : Int32, x26 = v4 + (nI 1) → (X94 r24 x26 μ25)))))))))))))
def w_L_coast_94 (v3 : Int32) (v4 : Int32) (μ : Mem) (Q : Int32 → Mem → Prop) : Prop :=
  ∀ X94 : Int32 → Int32 → Mem → Prop, (∀ (v3 : Int32) (v4 : Int32) (μ : Mem), s_L_coast_94  X94 v3 v4 μ Q → X94 v3 v4 μ) → X94 v3 v4 μ
def w_L_coast_91 (v3 : Int32) (μ : Mem) (Q : Int32 → Mem → Prop) : Prop :=
  (w_L_coast_94 v3 (nI 0) μ Q)
def s_L_coast_39  (X39 : Int32 → Int32 → Mem → Prop) (v3 : Int32) (v4 : Int32) (μ : Mem) (Q : Int32 → Mem → Prop) : Prop :=
  (vp_in (nI 2) 53 ∧ (((μ.1 246 ((nI 2)).toNatClampNeg) ≤ v4 → (w_L_coast_91 v3 μ Q)) ∧ (¬ (μ.1 246 ((nI 2)).toNatClampNeg) ≤ v4 → w_L_put v3 (nI 104) μ (fun r9 μ10 => (vp_in ((nI 29) + ((nI 2) * v4)) 53 ∧ w_L_number r9 (μ10.1 246 (((nI 29) + ((nI 2) * v4))).toNatClampNeg) (nI 32) μ10 (fun r11 μ12 => (vp_in ((nI 30) + ((nI 2) * v4)) 53 ∧ w_L_number r11 (μ12.1 246 (((nI 30) + ((nI 2) * v4))).toNatClampNeg) (nI 59) μ12 (fun r13 μ14 => ∀ x15 : Int32, x15 = v4 + (nI 1) → (X39 r13 x15 μ14)))))))))
def w_L_coast_39 (v3 : Int32) (v4 : Int32) (μ : Mem) (Q : Int32 → Mem → Prop) : Prop :=
  ∀ X39 : Int32 → Int32 → Mem → Prop, (∀ (v3 : Int32) (v4 : Int32) (μ : Mem), s_L_coast_39  X39 v3 v4 μ Q → X39 v3 v4 μ) → X39 v3 v4 μ
def w_L_coast (μ : Mem) (Q : Int32 → Mem → Prop) : Prop :=
  w_X6_told (nI 5) μ (fun r1 => ((r1 = 0 → w_L_put (nI 0) (nI 102) μ (fun r3 μ4 => (vp_in (nI 0) 53 ∧ w_L_number r3 (μ4.1 246 ((nI 0)).toNatClampNeg) (nI 32) μ4 (fun r5 μ6 => (vp_in (nI 1) 53 ∧ w_L_number r5 (μ6.1 246 ((nI 1)).toNatClampNeg) (nI 59) μ6 (fun r7 μ8 => (w_L_coast_39 r7 (nI 0) μ8 Q))))))) ∧ (¬ r1 = 0 → Q (nI 0) μ)))
abbrev rm_L_coast : Room := { frames := 7, cells := 0, slots := 0, locals := 159 }
/-- L_hang -/
def s_L_hang_4 (μ : Mem) (X4 : Int32 → Int32 → Prop) (v2 : Int32) (v3 : Int32) (Q : Int32 → Prop) : Prop :=
  (vp_in (nI 3) 53 ∧ (((μ.1 246 ((nI 3)).toNatClampNeg) ≤ v3 → Q v2) ∧ (¬ (μ.1 246 ((nI 3)).toNatClampNeg) ≤ v3 → (vp_in ((nI 15) + v3) 53 ∧ (vp_in ((nI 5) + (μ.1 246 (((nI 15) + v3)).toNatClampNeg)) 53 ∧ ∀ x1 : Int32, x1 = (μ.1 246 (((nI 5) + (μ.1 246 (((nI 15) + v3)).toNatClampNeg))).toNatClampNeg) → (vp_in (nI 0) 27 ∧ (¬ (nI 7) = 0 ∧ ∀ x2 : Int32, x2 = ((μ.1 247 ((nI 0)).toNatClampNeg) - (μ.1 247 ((nI 0)).toNatClampNeg) / (nI 7) * (nI 7)) → ∀ x3 : Int32, x3 = (v2 ||| (((x1 >>> (x2 &&& 31)) &&& (nI 1)) <<< (v3 &&& 31))) → ∀ x4 : Int32, x4 = v3 + (nI 1) → (X4 x3 x4))))))))
def w_L_hang_4 (v2 : Int32) (v3 : Int32) (μ : Mem) (Q : Int32 → Prop) : Prop :=
  ∀ X4 : Int32 → Int32 → Prop, (∀ (v2 : Int32) (v3 : Int32), s_L_hang_4 μ X4 v2 v3 Q → X4 v2 v3) → X4 v2 v3
def w_L_hang (μ : Mem) (Q : Int32 → Prop) : Prop :=
  (w_L_hang_4 (nI 0) (nI 0) μ Q)
abbrev rm_L_hang : Room := { frames := 0, cells := 0, slots := 0, locals := 0 }
/-- L_dayLong -/
def w_L_dayLong (μ : Mem) (Q : Int32 → Prop) : Prop :=
  (vp_in (nI 2) 53 ∧ (((nI 1) ≤ (μ.1 246 ((nI 2)).toNatClampNeg) → (vp_in (nI 2) 53 ∧ Q (μ.1 246 ((nI 2)).toNatClampNeg))) ∧ (¬ (nI 1) ≤ (μ.1 246 ((nI 2)).toNatClampNeg) → Q (nI 1))))
abbrev rm_L_dayLong : Room := { frames := 0, cells := 0, slots := 0, locals := 0 }
/-- L_side -/
def w_L_side (μ : Mem) (Q : Int32 → Prop) : Prop :=
  (vp_in (nI 2) 53 ∧ (((nI 1) ≤ (μ.1 246 ((nI 2)).toNatClampNeg) → (vp_in (nI 1) 27 ∧ (vp_in ((nI 29) + ((nI 2) * (μ.1 247 ((nI 1)).toNatClampNeg))) 53 ∧ ∀ x1 : Int32, x1 = (μ.1 246 (((nI 29) + ((nI 2) * (μ.1 247 ((nI 1)).toNatClampNeg)))).toNatClampNeg) → Q x1))) ∧ (¬ (nI 1) ≤ (μ.1 246 ((nI 2)).toNatClampNeg) → Q (nI 0))))
abbrev rm_L_side : Room := { frames := 0, cells := 0, slots := 0, locals := 0 }
/-- L_fog -/
def w_L_fog (μ : Mem) (Q : Int32 → Prop) : Prop :=
  (vp_in (nI 2) 53 ∧ (((nI 1) ≤ (μ.1 246 ((nI 2)).toNatClampNeg) → (vp_in (nI 1) 27 ∧ (vp_in ((nI 30) + ((nI 2) * (μ.1 247 ((nI 1)).toNatClampNeg))) 53 ∧ ∀ x1 : Int32, x1 = (μ.1 246 (((nI 30) + ((nI 2) * (μ.1 247 ((nI 1)).toNatClampNeg)))).toNatClampNeg) → Q x1))) ∧ (¬ (nI 1) ≤ (μ.1 246 ((nI 2)).toNatClampNeg) → Q (nI 0))))
abbrev rm_L_fog : Room := { frames := 0, cells := 0, slots := 0, locals := 0 }
/-- L_isCoast -/
def w_L_isCoast_590 (X534 : Int32 → Int32 → Prop) (v5 : Int32) (s1 : Int32) (μ : Mem) (Q : Int32 → Prop) : Prop :=
  ∀ x72 : Int32, x72 = v5 + (nI 1) → (X534 s1 x72)
def w_L_isCoast_589 (X534 : Int32 → Int32 → Prop) (v5 : Int32) (μ : Mem) (Q : Int32 → Prop) : Prop :=
  (w_L_isCoast_590 X534 v5 (nI 0) μ Q)
def s_L_isCoast_534 (μ : Mem) (X534 : Int32 → Int32 → Prop) (v4 : Int32) (v5 : Int32) (Q : Int32 → Prop) : Prop :=
  (vp_in (nI 2) 53 ∧ (((μ.1 246 ((nI 2)).toNatClampNeg) ≤ v5 → ((v4 = 0 ∨ v4 = 1) ∧ Q v4)) ∧ (¬ (μ.1 246 ((nI 2)).toNatClampNeg) ≤ v5 → ((v4 = 0 → ((v4 = 0 ∨ v4 = 1) ∧ Q v4)) ∧ (¬ v4 = 0 → w_X6_fog v5 (nI 0) μ (fun r68 => (vp_in ((nI 29) + ((nI 2) * v5)) 53 ∧ ((¬ r68 = (μ.1 246 (((nI 29) + ((nI 2) * v5))).toNatClampNeg) → (w_L_isCoast_589 X534 v5 μ Q)) ∧ (r68 = (μ.1 246 (((nI 29) + ((nI 2) * v5))).toNatClampNeg) → w_X6_fog v5 (nI 1) μ (fun r70 => (vp_in ((nI 30) + ((nI 2) * v5)) 53 ∧ ((¬ r70 = (μ.1 246 (((nI 30) + ((nI 2) * v5))).toNatClampNeg) → (w_L_isCoast_589 X534 v5 μ Q)) ∧ (r70 = (μ.1 246 (((nI 30) + ((nI 2) * v5))).toNatClampNeg) → (w_L_isCoast_590 X534 v5 (nI 1) μ Q))))))))))))))
def w_L_isCoast_534 (v4 : Int32) (v5 : Int32) (μ : Mem) (Q : Int32 → Prop) : Prop :=
  ∀ X534 : Int32 → Int32 → Prop, (∀ (v4 : Int32) (v5 : Int32), s_L_isCoast_534 μ X534 v4 v5 Q → X534 v4 v5) → X534 v4 v5
def w_L_isCoast_531 (v4 : Int32) (μ : Mem) (Q : Int32 → Prop) : Prop :=
  (w_L_isCoast_534 v4 (nI 0) μ Q)
def w_L_isCoast_523 (X471 : Int32 → Int32 → Prop) (v5 : Int32) (s1 : Int32) (μ : Mem) (Q : Int32 → Prop) : Prop :=
  ∀ x67 : Int32, x67 = v5 + (nI 1) → (X471 s1 x67)
def w_L_isCoast_522 (X471 : Int32 → Int32 → Prop) (v5 : Int32) (μ : Mem) (Q : Int32 → Prop) : Prop :=
  (w_L_isCoast_523 X471 v5 (nI 0) μ Q)
def s_L_isCoast_471 (μ : Mem) (X471 : Int32 → Int32 → Prop) (v4 : Int32) (v5 : Int32) (Q : Int32 → Prop) : Prop :=
  (vp_in (nI 4) 53 ∧ (((μ.1 246 ((nI 4)).toNatClampNeg) ≤ v5 → (w_L_isCoast_531 v4 μ Q)) ∧ (¬ (μ.1 246 ((nI 4)).toNatClampNeg) ≤ v5 → ((v4 = 0 → (w_L_isCoast_531 v4 μ Q)) ∧ (¬ v4 = 0 → w_X6_goat v5 (nI 0) μ (fun r63 => (vp_in ((nI 21) + v5) 53 ∧ ((¬ r63 = (μ.1 246 (((nI 21) + v5)).toNatClampNeg) → (w_L_isCoast_522 X471 v5 μ Q)) ∧ (r63 = (μ.1 246 (((nI 21) + v5)).toNatClampNeg) → w_X6_goat v5 (nI 1) μ (fun r65 => (vp_in ((nI 25) + v5) 53 ∧ ((¬ r65 = (μ.1 246 (((nI 25) + v5)).toNatClampNeg) → (w_L_isCoast_522 X471 v5 μ Q)) ∧ (r65 = (μ.1 246 (((nI 25) + v5)).toNatClampNeg) → (w_L_isCoast_523 X471 v5 (nI 1) μ Q))))))))))))))
def w_L_isCoast_471 (v4 : Int32) (v5 : Int32) (μ : Mem) (Q : Int32 → Prop) : Prop :=
  ∀ X471 : Int32 → Int32 → Prop, (∀ (v4 : Int32) (v5 : Int32), s_L_isCoast_471 μ X471 v4 v5 Q → X471 v4 v5) → X471 v4 v5
def w_L_isCoast_468 (v4 : Int32) (μ : Mem) (Q : Int32 → Prop) : Prop :=
  (w_L_isCoast_471 v4 (nI 0) μ Q)
def w_L_isCoast_460 (X321 : Int32 → Int32 → Prop) (v5 : Int32) (s1 : Int32) (μ : Mem) (Q : Int32 → Prop) : Prop :=
  ∀ x62 : Int32, x62 = v5 + (nI 1) → (X321 s1 x62)
def w_L_isCoast_459 (X321 : Int32 → Int32 → Prop) (v5 : Int32) (μ : Mem) (Q : Int32 → Prop) : Prop :=
  (w_L_isCoast_460 X321 v5 (nI 0) μ Q)
def w_L_isCoast_377 (X321 : Int32 → Int32 → Prop) (v5 : Int32) (v6 : Int32) (μ : Mem) (Q : Int32 → Prop) : Prop :=
  w_X6_village v5 (nI 0) μ (fun r52 => (vp_in ((nI 5) + v5) 53 ∧ ((¬ r52 = (μ.1 246 (((nI 5) + v5)).toNatClampNeg) → (w_L_isCoast_459 X321 v5 μ Q)) ∧ (r52 = (μ.1 246 (((nI 5) + v5)).toNatClampNeg) → w_X6_village v5 (nI 1) μ (fun r54 => (vp_in ((nI 7) + v5) 53 ∧ ((¬ r54 = (μ.1 246 (((nI 7) + v5)).toNatClampNeg) → (w_L_isCoast_459 X321 v5 μ Q)) ∧ (r54 = (μ.1 246 (((nI 7) + v5)).toNatClampNeg) → w_X6_village v5 (nI 2) μ (fun r56 => (vp_in ((nI 5) + v5) 27 ∧ ((¬ r56 = (μ.1 247 (((nI 5) + v5)).toNatClampNeg) → (w_L_isCoast_459 X321 v5 μ Q)) ∧ (r56 = (μ.1 247 (((nI 5) + v5)).toNatClampNeg) → w_X6_village v5 (nI 3) μ (fun r58 => (vp_in ((nI 7) + v5) 27 ∧ ((¬ r58 = (μ.1 247 (((nI 7) + v5)).toNatClampNeg) → (w_L_isCoast_459 X321 v5 μ Q)) ∧ (r58 = (μ.1 247 (((nI 7) + v5)).toNatClampNeg) → w_X6_village v5 (nI 4) μ (fun r60 => ((¬ r60 = v6 → (w_L_isCoast_459 X321 v5 μ Q)) ∧ (r60 = v6 → (w_L_isCoast_460 X321 v5 (nI 1) μ Q))))))))))))))))))))
def w_L_isCoast_368 (X321 : Int32 → Int32 → Prop) (X338 : Int32 → Int32 → Prop) (v5 : Int32) (v7 : Int32) (s2 : Int32) (s1 : Int32) (μ : Mem) (Q : Int32 → Prop) : Prop :=
  ∀ x50 : Int32, x50 = (s1 ||| s2) → ∀ x51 : Int32, x51 = v7 + (nI 1) → (X338 x50 x51)
def s_L_isCoast_338 (X321 : Int32 → Int32 → Prop) (v5 : Int32) (μ : Mem) (X338 : Int32 → Int32 → Prop) (v6 : Int32) (v7 : Int32) (Q : Int32 → Prop) : Prop :=
  (vp_in (nI 3) 53 ∧ (((μ.1 246 ((nI 3)).toNatClampNeg) ≤ v7 → (w_L_isCoast_377 X321 v5 v6 μ Q)) ∧ (¬ (μ.1 246 ((nI 3)).toNatClampNeg) ≤ v7 → (vp_in ((nI 15) + v7) 53 ∧ ((¬ (μ.1 246 (((nI 15) + v7)).toNatClampNeg) = v5 → (w_L_isCoast_368 X321 X338 v5 v7 (nI 0) v6 μ Q)) ∧ ((μ.1 246 (((nI 15) + v7)).toNatClampNeg) = v5 → (w_L_isCoast_368 X321 X338 v5 v7 ((nI 1) <<< (v7 &&& 31)) v6 μ Q)))))))
def w_L_isCoast_338 (X321 : Int32 → Int32 → Prop) (v5 : Int32) (v6 : Int32) (v7 : Int32) (μ : Mem) (Q : Int32 → Prop) : Prop :=
  ∀ X338 : Int32 → Int32 → Prop, (∀ (v6 : Int32) (v7 : Int32), s_L_isCoast_338 X321 v5 μ X338 v6 v7 Q → X338 v6 v7) → X338 v6 v7
def s_L_isCoast_321 (μ : Mem) (X321 : Int32 → Int32 → Prop) (v4 : Int32) (v5 : Int32) (Q : Int32 → Prop) : Prop :=
  (((nI 2) ≤ v5 → (w_L_isCoast_468 v4 μ Q)) ∧ (¬ (nI 2) ≤ v5 → ((v4 = 0 → (w_L_isCoast_468 v4 μ Q)) ∧ (¬ v4 = 0 → (w_L_isCoast_338 X321 v5 (nI 0) (nI 0) μ Q)))))
def w_L_isCoast_321 (v4 : Int32) (v5 : Int32) (μ : Mem) (Q : Int32 → Prop) : Prop :=
  ∀ X321 : Int32 → Int32 → Prop, (∀ (v4 : Int32) (v5 : Int32), s_L_isCoast_321 μ X321 v4 v5 Q → X321 v4 v5) → X321 v4 v5
def w_L_isCoast_318 (v4 : Int32) (μ : Mem) (Q : Int32 → Prop) : Prop :=
  (w_L_isCoast_321 v4 (nI 0) μ Q)
def w_L_isCoast_310 (X207 : Int32 → Int32 → Prop) (v5 : Int32) (s1 : Int32) (μ : Mem) (Q : Int32 → Prop) : Prop :=
  ∀ x49 : Int32, x49 = v5 + (nI 1) → (X207 s1 x49)
def w_L_isCoast_309 (X207 : Int32 → Int32 → Prop) (v5 : Int32) (μ : Mem) (Q : Int32 → Prop) : Prop :=
  (w_L_isCoast_310 X207 v5 (nI 0) μ Q)
def s_L_isCoast_207 (μ : Mem) (X207 : Int32 → Int32 → Prop) (v4 : Int32) (v5 : Int32) (Q : Int32 → Prop) : Prop :=
  (vp_in (nI 3) 53 ∧ (((μ.1 246 ((nI 3)).toNatClampNeg) ≤ v5 → (w_L_isCoast_318 v4 μ Q)) ∧ (¬ (μ.1 246 ((nI 3)).toNatClampNeg) ≤ v5 → ((v4 = 0 → (w_L_isCoast_318 v4 μ Q)) ∧ (¬ v4 = 0 → w_X6_post v5 (nI 0) μ (fun r39 => (vp_in ((nI 15) + v5) 27 ∧ ((¬ r39 = (μ.1 247 (((nI 15) + v5)).toNatClampNeg) → (w_L_isCoast_309 X207 v5 μ Q)) ∧ (r39 = (μ.1 247 (((nI 15) + v5)).toNatClampNeg) → w_X6_post v5 (nI 1) μ (fun r41 => (vp_in ((nI 21) + v5) 27 ∧ ((¬ r41 = (μ.1 247 (((nI 21) + v5)).toNatClampNeg) → (w_L_isCoast_309 X207 v5 μ Q)) ∧ (r41 = (μ.1 247 (((nI 21) + v5)).toNatClampNeg) → w_X6_post v5 (nI 2) μ (fun r43 => (vp_in ((nI 9) + v5) 53 ∧ ((¬ r43 = (μ.1 246 (((nI 9) + v5)).toNatClampNeg) → (w_L_isCoast_309 X207 v5 μ Q)) ∧ (r43 = (μ.1 246 (((nI 9) + v5)).toNatClampNeg) → w_X6_post v5 (nI 3) μ (fun r45 => (vp_in ((nI 15) + v5) 53 ∧ ((¬ r45 = (μ.1 246 (((nI 15) + v5)).toNatClampNeg) → (w_L_isCoast_309 X207 v5 μ Q)) ∧ (r45 = (μ.1 246 (((nI 15) + v5)).toNatClampNeg) → w_X6_post v5 (nI 4) μ (fun r47 => (vp_in ((nI 9) + v5) 27 ∧ ((¬ r47 = (μ.1 247 (((nI 9) + v5)).toNatClampNeg) → (w_L_isCoast_309 X207 v5 μ Q)) ∧ (r47 = (μ.1 247 (((nI 9) + v5)).toNatClampNeg) → (w_L_isCoast_310 X207 v5 (nI 1) μ Q))))))))))))))))))))))))))
def w_L_isCoast_207 (v4 : Int32) (v5 : Int32) (μ : Mem) (Q : Int32 → Prop) : Prop :=
  ∀ X207 : Int32 → Int32 → Prop, (∀ (v4 : Int32) (v5 : Int32), s_L_isCoast_207 μ X207 v4 v5 Q → X207 v4 v5) → X207 v4 v5
def w_L_isCoast_202 (s1 : Int32) (μ : Mem) (Q : Int32 → Prop) : Prop :=
  (w_L_isCoast_207 s1 (nI 0) μ Q)
def w_L_isCoast_201 (μ : Mem) (Q : Int32 → Prop) : Prop :=
  (w_L_isCoast_202 (nI 0) μ Q)
def w_L_isCoast_29 (v3 : Int32) (μ : Mem) (Q : Int32 → Prop) : Prop :=
  w_X6_told (nI 0) μ (fun r3 => (vp_in (nI 0) 53 ∧ ((¬ r3 = (μ.1 246 ((nI 0)).toNatClampNeg) → (w_L_isCoast_201 μ Q)) ∧ (r3 = (μ.1 246 ((nI 0)).toNatClampNeg) → w_X6_told (nI 1) μ (fun r5 => (vp_in (nI 1) 53 ∧ ((¬ r5 = (μ.1 246 ((nI 1)).toNatClampNeg) → (w_L_isCoast_201 μ Q)) ∧ (r5 = (μ.1 246 ((nI 1)).toNatClampNeg) → w_X6_told (nI 2) μ (fun r7 => w_L_dayLong  μ (fun r9 => ((¬ r7 = r9 → (w_L_isCoast_201 μ Q)) ∧ (r7 = r9 → w_X6_told (nI 3) μ (fun r11 => (vp_in (nI 3) 53 ∧ ((¬ r11 = (μ.1 246 ((nI 3)).toNatClampNeg) → (w_L_isCoast_201 μ Q)) ∧ (r11 = (μ.1 246 ((nI 3)).toNatClampNeg) → w_X6_told (nI 4) μ (fun r13 => (vp_in (nI 4) 53 ∧ ((¬ r13 = (μ.1 246 ((nI 4)).toNatClampNeg) → (w_L_isCoast_201 μ Q)) ∧ (r13 = (μ.1 246 ((nI 4)).toNatClampNeg) → w_X6_told (nI 6) μ (fun r15 => (vp_in (nI 0) 27 ∧ ((¬ r15 = (μ.1 247 ((nI 0)).toNatClampNeg) → (w_L_isCoast_201 μ Q)) ∧ (r15 = (μ.1 247 ((nI 0)).toNatClampNeg) → w_X6_told (nI 7) μ (fun r17 => (vp_in (nI 1) 27 ∧ ((¬ r17 = (μ.1 247 ((nI 1)).toNatClampNeg) → (w_L_isCoast_201 μ Q)) ∧ (r17 = (μ.1 247 ((nI 1)).toNatClampNeg) → w_X6_told (nI 8) μ (fun r19 => (vp_in (nI 2) 27 ∧ ((¬ r19 = (μ.1 247 ((nI 2)).toNatClampNeg) → (w_L_isCoast_201 μ Q)) ∧ (r19 = (μ.1 247 ((nI 2)).toNatClampNeg) → w_X6_told (nI 9) μ (fun r21 => w_L_hang  μ (fun r23 => ((¬ r21 = r23 → (w_L_isCoast_201 μ Q)) ∧ (r21 = r23 → w_X6_told (nI 10) μ (fun r25 => ((¬ r25 = v3 → (w_L_isCoast_201 μ Q)) ∧ (r25 = v3 → w_X6_told (nI 11) μ (fun r27 => (vp_in (nI 3) 27 ∧ ((¬ r27 = (μ.1 247 ((nI 3)).toNatClampNeg) → (w_L_isCoast_201 μ Q)) ∧ (r27 = (μ.1 247 ((nI 3)).toNatClampNeg) → w_X6_told (nI 12) μ (fun r29 => (vp_in (nI 4) 27 ∧ ((¬ r29 = (μ.1 247 ((nI 4)).toNatClampNeg) → (w_L_isCoast_201 μ Q)) ∧ (r29 = (μ.1 247 ((nI 4)).toNatClampNeg) → w_X6_fog ((-1) : Int32) (nI 0) μ (fun r31 => w_L_side  μ (fun r33 => ((¬ r31 = r33 → (w_L_isCoast_201 μ Q)) ∧ (r31 = r33 → w_X6_fog ((-1) : Int32) (nI 1) μ (fun r35 => w_L_fog  μ (fun r37 => ((¬ r35 = r37 → (w_L_isCoast_201 μ Q)) ∧ (r35 = r37 → (w_L_isCoast_202 (nI 1) μ Q))))))))))))))))))))))))))))))))))))))))))))))))))))))))
def s_L_isCoast_5 (μ : Mem) (X5 : Int32 → Int32 → Prop) (v3 : Int32) (v4 : Int32) (Q : Int32 → Prop) : Prop :=
  (vp_in (nI 3) 53 ∧ (((μ.1 246 ((nI 3)).toNatClampNeg) ≤ v4 → (w_L_isCoast_29 v3 μ Q)) ∧ (¬ (μ.1 246 ((nI 3)).toNatClampNeg) ≤ v4 → (vp_in ((nI 9) + v4) 27 ∧ ∀ x1 : Int32, x1 = (v3 + (μ.1 247 (((nI 9) + v4)).toNatClampNeg)) → ∀ x2 : Int32, x2 = v4 + (nI 1) → (X5 x1 x2)))))
def w_L_isCoast_5 (v3 : Int32) (v4 : Int32) (μ : Mem) (Q : Int32 → Prop) : Prop :=
  ∀ X5 : Int32 → Int32 → Prop, (∀ (v3 : Int32) (v4 : Int32), s_L_isCoast_5 μ X5 v3 v4 Q → X5 v3 v4) → X5 v3 v4
def w_L_isCoast (μ : Mem) (Q : Int32 → Prop) : Prop :=
  (w_L_isCoast_5 (nI 0) (nI 0) μ Q)
abbrev rm_L_isCoast : Room := { frames := 4, cells := 0, slots := 0, locals := 87 }
/-- L_best -/
def w_L_best_196 (a2 : Int32) (a3 : Int32) (v4 : Int32) (v10 : Int32) (μ : Mem) (Q : Int32 → Mem → Prop) : Prop :=
  ((v10 = 0 → Q (nI 0) μ) ∧ (¬ v10 = 0 → w_X6_told (nI 2) μ (fun r35 => w_X6_gets a2 r35 μ (fun r37 μ38 => ((¬ r37 = v4 → Q (nI 0) μ38) ∧ (r37 = v4 → w_X6_told (nI 15) μ38 (fun r39 => ((¬ r39 = a3 → Q (nI 0) μ38) ∧ (r39 = a3 → Q (nI 1) μ38)))))))))
def w_L_best_194 (a2 : Int32) (a3 : Int32) (v4 : Int32) (s1 : Int32) (μ : Mem) (Q : Int32 → Mem → Prop) : Prop :=
  (w_L_best_196 a2 a3 v4 s1 μ Q)
def w_L_best_193 (a2 : Int32) (a3 : Int32) (v4 : Int32) (μ : Mem) (Q : Int32 → Mem → Prop) : Prop :=
  (w_L_best_194 a2 a3 v4 (nI 0) μ Q)
def w_L_best_129 (a2 : Int32) (a3 : Int32) (v4 : Int32) (v7 : Int32) (v8 : Int32) (v9 : Int32) (s1 : Int32) (μ : Mem) (Q : Int32 → Mem → Prop) : Prop :=
  ((v7 = v9 → (w_L_best_196 a2 a3 v4 s1 μ Q)) ∧ (¬ v7 = v9 → ((s1 = 0 → (w_L_best_193 a2 a3 v4 μ Q)) ∧ (¬ s1 = 0 → w_X6_move a2 v7 μ (fun r25 μ26 => ((¬ r25 = v9 → (w_L_best_193 a2 a3 v4 μ26 Q)) ∧ (r25 = v9 → w_X6_told (nI 2) μ26 (fun r27 => w_X6_gets a2 r27 μ26 (fun r29 μ30 => ((¬ r29 = v8 → (w_L_best_193 a2 a3 v4 μ30 Q)) ∧ (r29 = v8 → w_X6_bestCell a2 (nI 0) μ30 (fun r31 μ32 => ((¬ r31 = v7 → (w_L_best_193 a2 a3 v4 μ32 Q)) ∧ (r31 = v7 → w_X6_undo (nI 1) μ32 (fun r33 μ34 => ((r33 < 0 → (w_L_best_193 a2 a3 v4 μ34 Q)) ∧ (¬ r33 < 0 → (w_L_best_194 a2 a3 v4 (nI 1) μ34 Q))))))))))))))))))
def w_L_best_128 (a2 : Int32) (a3 : Int32) (v4 : Int32) (v7 : Int32) (v8 : Int32) (v9 : Int32) (μ : Mem) (Q : Int32 → Mem → Prop) : Prop :=
  (w_L_best_129 a2 a3 v4 v7 v8 v9 (nI 0) μ Q)
def w_L_best (a2 : Int32) (a3 : Int32) (μ : Mem) (Q : Int32 → Mem → Prop) : Prop :=
  w_X6_told (nI 2) μ (fun r1 => w_X6_gets a2 r1 μ (fun r3 μ4 => w_X6_bestMesh a2 (nI 0) μ4 (fun r5 μ6 => w_X6_bestMesh a2 (nI 1) μ6 (fun r7 μ8 => w_X6_bestCell a2 (nI 0) μ8 (fun r9 μ10 => w_X6_bestCell a2 (nI 1) μ10 (fun r11 μ12 => w_X6_post a2 (nI 0) μ12 (fun r13 => ((r7 < r3 → Q (nI 0) μ12) ∧ (¬ r7 < r3 → ((r11 < r3 → Q (nI 0) μ12) ∧ (¬ r11 < r3 → ((r5 < 0 → Q (nI 0) μ12) ∧ (¬ r5 < 0 → ((r5 ≤ (nI 9) → w_X6_mesh a2 r5 μ12 (fun r15 μ16 => ((r15 < 0 → (w_L_best_128 a2 a3 r3 r9 r11 r13 μ16 Q)) ∧ (¬ r15 < 0 → w_X6_told (nI 2) μ16 (fun r17 => w_X6_gets a2 r17 μ16 (fun r19 μ20 => ((¬ r19 = r7 → (w_L_best_128 a2 a3 r3 r9 r11 r13 μ20 Q)) ∧ (r19 = r7 → w_X6_bestMesh a2 (nI 0) μ20 (fun r21 μ22 => ((¬ r21 = r5 → (w_L_best_128 a2 a3 r3 r9 r11 r13 μ22 Q)) ∧ (r21 = r5 → w_X6_undo (nI 1) μ22 (fun r23 μ24 => ((r23 < 0 → (w_L_best_128 a2 a3 r3 r9 r11 r13 μ24 Q)) ∧ (¬ r23 < 0 → (w_L_best_129 a2 a3 r3 r9 r11 r13 (nI 1) μ24 Q))))))))))))))) ∧ (¬ r5 ≤ (nI 9) → Q (nI 0) μ12)))))))))))))))
abbrev rm_L_best : Room := { frames := 6, cells := 0, slots := 0, locals := 152 }
/-- L_thick -/
def w_L_thick_191 (a2 : Int32) (a3 : Int32) (v5 : Int32) (v6 : Int32) (v8 : Int32) (s1 : Int32) (μ : Mem) (Q : Int32 → Mem → Prop) : Prop :=
  ((s1 = 0 → Q (nI 0) μ) ∧ (¬ s1 = 0 → w_X6_got a2 v5 v6 μ (fun r23 μ24 => ((¬ r23 = (nI 2) → Q (nI 0) μ24) ∧ (r23 = (nI 2) → w_X6_thick (nI 0) μ24 (fun r25 μ26 => ((¬ r25 = v8 → Q (nI 0) μ26) ∧ (r25 = v8 → w_X6_tear  μ26 (fun r27 μ28 => ((¬ r27 = (nI 2) → Q (nI 0) μ28) ∧ (r27 = (nI 2) → w_X6_thick (nI 0) μ28 (fun r29 μ30 => ((¬ r29 = (nI 41) → Q (nI 0) μ30) ∧ (r29 = (nI 41) → Q (nI 1) μ30))))))))))))))
def w_L_thick_190 (a2 : Int32) (a3 : Int32) (v5 : Int32) (v6 : Int32) (v8 : Int32) (μ : Mem) (Q : Int32 → Mem → Prop) : Prop :=
  (w_L_thick_191 a2 a3 v5 v6 v8 (nI 0) μ Q)
def w_L_thick_186 (a2 : Int32) (a3 : Int32) (v5 : Int32) (v6 : Int32) (v8 : Int32) (μ : Mem) (Q : Int32 → Mem → Prop) : Prop :=
  (w_L_thick_191 a2 a3 v5 v6 v8 (nI 1) μ Q)
def w_L_thick_57 (a2 : Int32) (a3 : Int32) (v4 : Int32) (v5 : Int32) (v6 : Int32) (μ : Mem) (Q : Int32 → Mem → Prop) : Prop :=
  w_X6_needs a2 v5 v6 μ (fun r7 μ8 => ((r7 < 0 → Q (nI 0) μ8) ∧ (¬ r7 < 0 → ((v4 < r7 → Q (nI 0) μ8) ∧ (¬ v4 < r7 → w_X6_got a2 v5 v6 μ8 (fun r9 μ10 => ((r9 = (nI 1) → w_X6_thick (nI 0) μ10 (fun r11 μ12 => w_X6_lookAt v5 μ12 (fun r13 μ14 => ((r11 ≤ 0 → (w_L_thick_190 a2 a3 v5 v6 r11 μ14 Q)) ∧ (¬ r11 ≤ 0 → (((nI 42) ≤ r11 → (w_L_thick_190 a2 a3 v5 v6 r11 μ14 Q)) ∧ (¬ (nI 42) ≤ r11 → w_X6_thick (nI 1) μ14 (fun r15 μ16 => ((v4 < r15 → (w_L_thick_190 a2 a3 v5 v6 r11 μ16 Q)) ∧ (¬ v4 < r15 → w_X6_thick (nI 2) μ16 (fun r17 μ18 => ((r17 < v4 → (w_L_thick_190 a2 a3 v5 v6 r11 μ18 Q)) ∧ (¬ r17 < v4 → w_X6_thick (nI 2) μ18 (fun r19 μ20 => w_X6_thick (nI 1) μ20 (fun r21 μ22 => (((r19 - r21) < (r11 - (nI 1)) → (w_L_thick_190 a2 a3 v5 v6 r11 μ22 Q)) ∧ (¬ (r19 - r21) < (r11 - (nI 1)) → ((r13 < ((-1) : Int32) → (w_L_thick_190 a2 a3 v5 v6 r11 μ22 Q)) ∧ (¬ r13 < ((-1) : Int32) → (vp_in (nI 3) 53 ∧ (((μ22.1 246 ((nI 3)).toNatClampNeg) ≤ r13 → (w_L_thick_190 a2 a3 v5 v6 r11 μ22 Q)) ∧ (¬ (μ22.1 246 ((nI 3)).toNatClampNeg) ≤ r13 → (((nI 1) < r11 → (w_L_thick_186 a2 a3 v5 v6 r11 μ22 Q)) ∧ (¬ (nI 1) < r11 → ((¬ r13 = ((-1) : Int32) → (w_L_thick_190 a2 a3 v5 v6 r11 μ22 Q)) ∧ (r13 = ((-1) : Int32) → (w_L_thick_186 a2 a3 v5 v6 r11 μ22 Q))))))))))))))))))))))))))) ∧ (¬ r9 = (nI 1) → Q (nI 0) μ10))))))))
def w_L_thick_48 (a2 : Int32) (a3 : Int32) (X20 : Int32 → Int32 → Mem → Prop) (v4 : Int32) (v5 : Int32) (v7 : Int32) (s2 : Int32) (s1 : Int32) (μ : Mem) (Q : Int32 → Mem → Prop) : Prop :=
  ∀ x5 : Int32, x5 = (s1 + s2) → ∀ x6 : Int32, x6 = v7 + (nI 1) → (X20 x5 x6 μ)
def s_L_thick_20 (a2 : Int32) (a3 : Int32) (v4 : Int32) (v5 : Int32) (X20 : Int32 → Int32 → Mem → Prop) (v6 : Int32) (v7 : Int32) (μ : Mem) (Q : Int32 → Mem → Prop) : Prop :=
  ((v4 ≤ v7 → (w_L_thick_57 a2 a3 v4 v5 v6 μ Q)) ∧ (¬ v4 ≤ v7 → w_X6_led v4 v5 v7 μ (fun r3 μ4 => ((¬ r3 = a2 → (w_L_thick_48 a2 a3 X20 v4 v5 v7 (nI 0) v6 μ4 Q)) ∧ (r3 = a2 → (w_L_thick_48 a2 a3 X20 v4 v5 v7 (nI 1) v6 μ4 Q))))))
def w_L_thick_20 (a2 : Int32) (a3 : Int32) (v4 : Int32) (v5 : Int32) (v6 : Int32) (v7 : Int32) (μ : Mem) (Q : Int32 → Mem → Prop) : Prop :=
  ∀ X20 : Int32 → Int32 → Mem → Prop, (∀ (v6 : Int32) (v7 : Int32) (μ : Mem), s_L_thick_20 a2 a3 v4 v5 X20 v6 v7 μ Q → X20 v6 v7 μ) → X20 v6 v7 μ
def w_L_thick (a2 : Int32) (a3 : Int32) (μ : Mem) (Q : Int32 → Mem → Prop) : Prop :=
  (¬ (nI 41) = 0 ∧ ∀ x1 : Int32, x1 = (a3 - a3 / (nI 41) * (nI 41)) → (¬ (nI 64) = 0 ∧ (¬ (nI 2) = 0 ∧ ∀ x2 : Int32, x2 = ((a3 / (nI 64)) - (a3 / (nI 64)) / (nI 2) * (nI 2)) → (w_L_thick_20 a2 a3 x1 x2 (nI 0) (nI 0) μ Q))))
abbrev rm_L_thick : Room := { frames := 7, cells := 0, slots := 0, locals := 171 }
/-- L_took -/
def s_L_took_4 (a1 : Int32) (X4 : Int32 → Int32 → Mem → Prop) (v2 : Int32) (v3 : Int32) (μ : Mem) (Q : Int32 → Mem → Prop) : Prop :=
  w_X6_told (nI 3) μ (fun r1 => ((r1 ≤ v3 → Q v2 μ) ∧ (¬ r1 ≤ v3 → w_X6_gets v3 a1 μ (fun r3 μ4 => ∀ x5 : Int32, x5 = (v2 + r3) → ∀ x6 : Int32, x6 = v3 + (nI 1) → (X4 x5 x6 μ4)))))
def w_L_took_4 (a1 : Int32) (v2 : Int32) (v3 : Int32) (μ : Mem) (Q : Int32 → Mem → Prop) : Prop :=
  ∀ X4 : Int32 → Int32 → Mem → Prop, (∀ (v2 : Int32) (v3 : Int32) (μ : Mem), s_L_took_4 a1 X4 v2 v3 μ Q → X4 v2 v3 μ) → X4 v2 v3 μ
def w_L_took (a1 : Int32) (μ : Mem) (Q : Int32 → Mem → Prop) : Prop :=
  (w_L_took_4 a1 (nI 0) (nI 0) μ Q)
abbrev rm_L_took : Room := { frames := 6, cells := 0, slots := 0, locals := 149 }
/-- L_lamps -/
def w_L_lamps (a1 : Int32) (a2 : Int32) (μ : Mem) (Q : Int32 → Mem → Prop) : Prop :=
  w_X6_lampCosts a1 μ (fun r1 μ2 => w_L_took a1 μ2 (fun r3 μ4 => w_X6_lamp (nI 1) μ4 (fun r5 μ6 => ((¬ r5 = 0 → Q (nI 0) μ6) ∧ (r5 = 0 → w_L_took a1 μ6 (fun r7 μ8 => ((¬ (r3 - r7) = r1 → Q (nI 0) μ8) ∧ ((r3 - r7) = r1 → w_X6_lampCosts a1 μ8 (fun r9 μ10 => ((¬ r9 = r1 → Q (nI 0) μ10) ∧ (r9 = r1 → w_X6_undo (nI 1) μ10 (fun r11 μ12 => ((r11 < 0 → Q (nI 0) μ12) ∧ (¬ r11 < 0 → w_X6_told (nI 8) μ12 (fun r13 => ((¬ r13 = 0 → Q (nI 0) μ12) ∧ (r13 = 0 → w_X6_told (nI 15) μ12 (fun r15 => ((¬ r15 = a2 → Q (nI 0) μ12) ∧ (r15 = a2 → Q (nI 1) μ12))))))))))))))))))))
abbrev rm_L_lamps : Room := { frames := 7, cells := 0, slots := 0, locals := 172 }
/-- L_thirst -/
def w_L_thirst_108 (a2 : Int32) (a3 : Int32) (v5 : Int32) (μ : Mem) (Q : Int32 → Mem → Prop) : Prop :=
  w_X6_village a2 (nI 3) μ (fun r9 => ((¬ r9 = v5 → Q (nI 0) μ) ∧ (r9 = v5 → w_X6_told (nI 15) μ (fun r11 => ((¬ r11 = a3 → Q (nI 0) μ) ∧ (r11 = a3 → Q (nI 1) μ))))))
def w_L_thirst_95 (a2 : Int32) (a3 : Int32) (v4 : Int32) (v5 : Int32) (v6 : Int32) (μ : Mem) (Q : Int32 → Mem → Prop) : Prop :=
  ((v6 < (nI 60) → (w_L_thirst_108 a2 a3 v5 μ Q)) ∧ (¬ v6 < (nI 60) → ((¬ v4 = ((-1) : Int32) → Q (nI 0) μ) ∧ (v4 = ((-1) : Int32) → (w_L_thirst_108 a2 a3 v5 μ Q)))))
def w_L_thirst_68 (a2 : Int32) (a3 : Int32) (v4 : Int32) (v5 : Int32) (μ : Mem) (Q : Int32 → Mem → Prop) : Prop :=
  w_X6_lasts a2 μ (fun r7 => ((v4 = ((-1) : Int32) → (w_L_thirst_95 a2 a3 v4 v5 r7 μ Q)) ∧ (¬ v4 = ((-1) : Int32) → ((r7 < v4 → (w_L_thirst_95 a2 a3 v4 v5 r7 μ Q)) ∧ (¬ r7 < v4 → ((r7 < (nI 60) → Q (nI 0) μ) ∧ (¬ r7 < (nI 60) → (w_L_thirst_95 a2 a3 v4 v5 r7 μ Q))))))))
def w_L_thirst (a2 : Int32) (a3 : Int32) (μ : Mem) (Q : Int32 → Mem → Prop) : Prop :=
  w_X6_thirsty a2 μ (fun r1 μ2 => w_X6_village a2 (nI 3) μ2 (fun r3 => (vp_in ((nI 7) + a2) 53 ∧ ((¬ (μ2.1 246 (((nI 7) + a2)).toNatClampNeg) = 0 → ((r1 = ((-1) : Int32) → (w_L_thirst_68 a2 a3 r1 r3 μ2 Q)) ∧ (¬ r1 = ((-1) : Int32) → ((r1 < (nI 1) → Q (nI 0) μ2) ∧ (¬ r1 < (nI 1) → ((r1 ≤ (nI 60) → (w_L_thirst_68 a2 a3 r1 r3 μ2 Q)) ∧ (¬ r1 ≤ (nI 60) → Q (nI 0) μ2))))))) ∧ ((μ2.1 246 (((nI 7) + a2)).toNatClampNeg) = 0 → ((¬ r1 = ((-1) : Int32) → Q (nI 0) μ2) ∧ (r1 = ((-1) : Int32) → w_X6_lasts a2 μ2 (fun r5 => ((¬ r5 = (nI 999) → Q (nI 0) μ2) ∧ (r5 = (nI 999) → Q (nI 1) μ2))))))))))
abbrev rm_L_thirst : Room := { frames := 5, cells := 0, slots := 0, locals := 126 }
/-- L_led -/
def w_L_led_195 (a2 : Int32) (a3 : Int32) (X13 : Int32 → Int32 → Int32 → Int32 → Mem → Prop) (v5 : Int32) (v6 : Int32) (v7 : Int32) (s1 : Int32) (μ : Mem) (Q : Int32 → Mem → Prop) : Prop :=
  ∀ x11 : Int32, x11 = v7 + (nI 1) → (X13 s1 v5 v6 x11 μ)
def w_L_led_180 (a2 : Int32) (a3 : Int32) (X13 : Int32 → Int32 → Int32 → Int32 → Mem → Prop) (v4 : Int32) (v5 : Int32) (v7 : Int32) (v8 : Int32) (s2 : Int32) (s1 : Int32) (μ : Mem) (Q : Int32 → Mem → Prop) : Prop :=
  ∀ x10 : Int32, x10 = (s1 + s2) → ((0 ≤ v8 → (w_L_led_195 a2 a3 X13 v5 x10 v7 v8 μ Q)) ∧ (¬ 0 ≤ v8 → (w_L_led_195 a2 a3 X13 v5 x10 v7 v4 μ Q)))
def w_L_led_165 (a2 : Int32) (a3 : Int32) (X13 : Int32 → Int32 → Int32 → Int32 → Mem → Prop) (v4 : Int32) (v6 : Int32) (v7 : Int32) (v8 : Int32) (s2 : Int32) (s1 : Int32) (μ : Mem) (Q : Int32 → Mem → Prop) : Prop :=
  ∀ x9 : Int32, x9 = (s1 ||| s2) → ((0 ≤ v8 → (w_L_led_180 a2 a3 X13 v4 x9 v7 v8 (nI 0) v6 μ Q)) ∧ (¬ 0 ≤ v8 → (w_L_led_180 a2 a3 X13 v4 x9 v7 v8 (nI 1) v6 μ Q)))
def w_L_led_150 (a2 : Int32) (a3 : Int32) (X13 : Int32 → Int32 → Int32 → Int32 → Mem → Prop) (v4 : Int32) (v5 : Int32) (v6 : Int32) (v7 : Int32) (v8 : Int32) (μ : Mem) (Q : Int32 → Mem → Prop) : Prop :=
  ((0 ≤ v8 → (w_L_led_165 a2 a3 X13 v4 v6 v7 v8 ((nI 1) <<< (v8 &&& 31)) v5 μ Q)) ∧ (¬ 0 ≤ v8 → (w_L_led_165 a2 a3 X13 v4 v6 v7 v8 (nI 0) v5 μ Q)))
def w_L_led_145 (a2 : Int32) (a3 : Int32) (X13 : Int32 → Int32 → Int32 → Int32 → Mem → Prop) (v4 : Int32) (v5 : Int32) (v6 : Int32) (v7 : Int32) (v8 : Int32) (s2 : Int32) (s1 : Int32) (μ : Mem) (Q : Int32 → Mem → Prop) : Prop :=
  ((s1 = s2 → (w_L_led_150 a2 a3 X13 v4 v5 v6 v7 v8 μ Q)) ∧ (¬ s1 = s2 → Q (nI 0) μ))
def w_L_led_136 (a2 : Int32) (a3 : Int32) (X13 : Int32 → Int32 → Int32 → Int32 → Mem → Prop) (v4 : Int32) (v5 : Int32) (v6 : Int32) (v7 : Int32) (v8 : Int32) (s1 : Int32) (μ : Mem) (Q : Int32 → Mem → Prop) : Prop :=
  ((¬ a3 = 0 → (w_L_led_145 a2 a3 X13 v4 v5 v6 v7 v8 (nI 0) s1 μ Q)) ∧ (a3 = 0 → (w_L_led_145 a2 a3 X13 v4 v5 v6 v7 v8 (nI 1) s1 μ Q)))
def w_L_led_97 (a2 : Int32) (a3 : Int32) (X13 : Int32 → Int32 → Int32 → Int32 → Mem → Prop) (v4 : Int32) (v5 : Int32) (v6 : Int32) (v7 : Int32) (v8 : Int32) (μ : Mem) (Q : Int32 → Mem → Prop) : Prop :=
  ((v8 < 0 → (w_L_led_150 a2 a3 X13 v4 v5 v6 v7 v8 μ Q)) ∧ (¬ v8 < 0 → ((v4 < 0 → (w_L_led_150 a2 a3 X13 v4 v5 v6 v7 v8 μ Q)) ∧ (¬ v4 < 0 → ((v8 = v4 → (w_L_led_150 a2 a3 X13 v4 v5 v6 v7 v8 μ Q)) ∧ (¬ v8 = v4 → w_X6_post v8 (nI 0) μ (fun r5 => w_X6_post v4 (nI 0) μ (fun r7 => ((r5 ≤ r7 → (w_L_led_136 a2 a3 X13 v4 v5 v6 v7 v8 (nI 0) μ Q)) ∧ (¬ r5 ≤ r7 → (w_L_led_136 a2 a3 X13 v4 v5 v6 v7 v8 (nI 1) μ Q)))))))))))
def w_L_led_76 (a2 : Int32) (a3 : Int32) (X13 : Int32 → Int32 → Int32 → Int32 → Mem → Prop) (v4 : Int32) (v5 : Int32) (v6 : Int32) (v7 : Int32) (v8 : Int32) (μ : Mem) (Q : Int32 → Mem → Prop) : Prop :=
  ((v8 < 0 → (w_L_led_97 a2 a3 X13 v4 v5 v6 v7 v8 μ Q)) ∧ (¬ v8 < 0 → w_X6_told (nI 9) μ (fun r3 => ((¬ ((r3 >>> (v8 &&& 31)) &&& (nI 1)) = 0 → (w_L_led_97 a2 a3 X13 v4 v5 v6 v7 v8 μ Q)) ∧ (((r3 >>> (v8 &&& 31)) &&& (nI 1)) = 0 → Q (nI 0) μ)))))
def w_L_led_53 (a2 : Int32) (a3 : Int32) (X13 : Int32 → Int32 → Int32 → Int32 → Mem → Prop) (v4 : Int32) (v5 : Int32) (v6 : Int32) (v7 : Int32) (v8 : Int32) (μ : Mem) (Q : Int32 → Mem → Prop) : Prop :=
  ((v8 < 0 → (w_L_led_76 a2 a3 X13 v4 v5 v6 v7 v8 μ Q)) ∧ (¬ v8 < 0 → ((v8 = v4 → (w_L_led_76 a2 a3 X13 v4 v5 v6 v7 v8 μ Q)) ∧ (¬ v8 = v4 → ((((v5 >>> (v8 &&& 31)) &&& (nI 1)) = (nI 1) → Q (nI 0) μ) ∧ (¬ ((v5 >>> (v8 &&& 31)) &&& (nI 1)) = (nI 1) → (w_L_led_76 a2 a3 X13 v4 v5 v6 v7 v8 μ Q)))))))
def s_L_led_13 (a2 : Int32) (a3 : Int32) (X13 : Int32 → Int32 → Int32 → Int32 → Mem → Prop) (v4 : Int32) (v5 : Int32) (v6 : Int32) (v7 : Int32) (μ : Mem) (Q : Int32 → Mem → Prop) : Prop :=
  ((a2 ≤ v7 → Q (nI 1) μ) ∧ (¬ a2 ≤ v7 → w_X6_led a2 a3 v7 μ (fun r1 μ2 => ((r1 < ((-1) : Int32) → Q (nI 0) μ2) ∧ (¬ r1 < ((-1) : Int32) → (vp_in (nI 3) 53 ∧ (((μ2.1 246 ((nI 3)).toNatClampNeg) ≤ r1 → Q (nI 0) μ2) ∧ (¬ (μ2.1 246 ((nI 3)).toNatClampNeg) ≤ r1 → ((v6 ≤ 0 → (w_L_led_53 a2 a3 X13 v4 v5 v6 v7 r1 μ2 Q)) ∧ (¬ v6 ≤ 0 → ((0 ≤ r1 → Q (nI 0) μ2) ∧ (¬ 0 ≤ r1 → (w_L_led_53 a2 a3 X13 v4 v5 v6 v7 r1 μ2 Q)))))))))))))
def w_L_led_13 (a2 : Int32) (a3 : Int32) (v4 : Int32) (v5 : Int32) (v6 : Int32) (v7 : Int32) (μ : Mem) (Q : Int32 → Mem → Prop) : Prop :=
  ∀ X13 : Int32 → Int32 → Int32 → Int32 → Mem → Prop, (∀ (v4 : Int32) (v5 : Int32) (v6 : Int32) (v7 : Int32) (μ : Mem), s_L_led_13 a2 a3 X13 v4 v5 v6 v7 μ Q → X13 v4 v5 v6 v7 μ) → X13 v4 v5 v6 v7 μ
def w_L_led (a2 : Int32) (a3 : Int32) (μ : Mem) (Q : Int32 → Mem → Prop) : Prop :=
  (w_L_led_13 a2 a3 ((-2) : Int32) (nI 0) (nI 0) (nI 0) μ Q)
abbrev rm_L_led : Room := { frames := 4, cells := 0, slots := 0, locals := 98 }
/-- L_shares -/
def w_L_shares_45 (a2 : Int32) (v4 : Int32) (μ : Mem) (Q : Int32 → Prop) : Prop :=
  w_X6_village (nI 1) (nI 4) μ (fun r7 => ((¬ r7 = 0 → Q (nI 1)) ∧ (r7 = 0 → ((¬ v4 = 0 → Q (nI 0)) ∧ (v4 = 0 → Q (nI 1))))))
def w_L_shares (a2 : Int32) (μ : Mem) (Q : Int32 → Prop) : Prop :=
  w_X6_share a2 (nI 0) μ (fun r1 => w_X6_share a2 (nI 1) μ (fun r3 => ((¬ (r1 + r3) = a2 → Q (nI 0)) ∧ ((r1 + r3) = a2 → ((r1 < 0 → Q (nI 0)) ∧ (¬ r1 < 0 → ((r3 < 0 → Q (nI 0)) ∧ (¬ r3 < 0 → w_X6_village (nI 0) (nI 4) μ (fun r5 => ((¬ r5 = 0 → (w_L_shares_45 a2 r3 μ Q)) ∧ (r5 = 0 → ((¬ r1 = 0 → Q (nI 0)) ∧ (r1 = 0 → (w_L_shares_45 a2 r3 μ Q))))))))))))))
abbrev rm_L_shares : Room := { frames := 3, cells := 0, slots := 0, locals := 69 }
/-- L_yards -/
def w_L_yards_202 (a2 : Int32) (X2 : Int32 → Mem → Prop) (v3 : Int32) (μ : Mem) (Q : Int32 → Mem → Prop) : Prop :=
  ∀ x31 : Int32, x31 = v3 + (nI 1) → (X2 x31 μ)
def w_L_yards_172 (a2 : Int32) (X2 : Int32 → Mem → Prop) (v3 : Int32) (v5 : Int32) (s1 : Int32) (μ : Mem) (Q : Int32 → Mem → Prop) : Prop :=
  ((s1 = 0 → Q (nI 0) μ) ∧ (¬ s1 = 0 → w_X6_yards v3 (nI 1) μ (fun r27 => ((¬ r27 = v5 → Q (nI 0) μ) ∧ (r27 = v5 → w_X6_told (nI 15) μ (fun r29 => ((r29 = a2 → (w_L_yards_202 a2 X2 v3 μ Q)) ∧ (¬ r29 = a2 → Q (nI 0) μ))))))))
def w_L_yards_171 (a2 : Int32) (X2 : Int32 → Mem → Prop) (v3 : Int32) (v5 : Int32) (μ : Mem) (Q : Int32 → Mem → Prop) : Prop :=
  (w_L_yards_172 a2 X2 v3 v5 (nI 0) μ Q)
def w_L_yards_159 (a2 : Int32) (X2 : Int32 → Mem → Prop) (v3 : Int32) (v5 : Int32) (μ : Mem) (Q : Int32 → Mem → Prop) : Prop :=
  w_X6_undo (nI 1) μ (fun r25 μ26 => ((r25 < 0 → (w_L_yards_171 a2 X2 v3 v5 μ26 Q)) ∧ (¬ r25 < 0 → (w_L_yards_172 a2 X2 v3 v5 (nI 1) μ26 Q))))
def w_L_yards_111 (a2 : Int32) (X2 : Int32 → Mem → Prop) (v3 : Int32) (v4 : Int32) (v5 : Int32) (μ : Mem) (Q : Int32 → Mem → Prop) : Prop :=
  ((v4 < 0 → (w_L_yards_202 a2 X2 v3 μ Q)) ∧ (¬ v4 < 0 → w_X6_lick v5 (nI 99) μ (fun r17 μ18 => ((¬ r17 = 0 → (w_L_yards_171 a2 X2 v3 v5 μ18 Q)) ∧ (r17 = 0 → w_X6_yards v3 (nI 0) μ18 (fun r19 => ((r19 = ((-1) : Int32) → (w_L_yards_159 a2 X2 v3 v5 μ18 Q)) ∧ (¬ r19 = ((-1) : Int32) → w_X6_yards v3 (nI 0) μ18 (fun r21 => ((r21 < v4 → (w_L_yards_171 a2 X2 v3 v5 μ18 Q)) ∧ (¬ r21 < v4 → w_X6_yards v3 (nI 1) μ18 (fun r23 => ((r23 = v5 → (w_L_yards_171 a2 X2 v3 v5 μ18 Q)) ∧ (¬ r23 = v5 → (w_L_yards_159 a2 X2 v3 v5 μ18 Q)))))))))))))))
def s_L_yards_2 (a2 : Int32) (X2 : Int32 → Mem → Prop) (v3 : Int32) (μ : Mem) (Q : Int32 → Mem → Prop) : Prop :=
  (vp_in (nI 4) 53 ∧ (((μ.1 246 ((nI 4)).toNatClampNeg) ≤ v3 → Q (nI 1) μ) ∧ (¬ (μ.1 246 ((nI 4)).toNatClampNeg) ≤ v3 → w_X6_yards v3 (nI 0) μ (fun r1 => w_X6_yards v3 (nI 1) μ (fun r3 => ((0 ≤ r1 → ((r3 < 0 → Q (nI 0) μ) ∧ (¬ r3 < 0 → (vp_in (nI 3) 53 ∧ (((μ.1 246 ((nI 3)).toNatClampNeg) ≤ r3 → Q (nI 0) μ) ∧ (¬ (μ.1 246 ((nI 3)).toNatClampNeg) ≤ r3 → w_X6_post r3 (nI 4) μ (fun r5 => ((r5 = 0 → Q (nI 0) μ) ∧ (¬ r5 = 0 → w_X6_post r3 (nI 0) μ (fun r7 => w_X6_goat v3 (nI 0) μ (fun r9 => ((r7 = (r9 - r1) → (w_L_yards_111 a2 X2 v3 r1 r3 μ Q)) ∧ (¬ r7 = (r9 - r1) → w_X6_post r3 (nI 0) μ (fun r11 => w_X6_goat v3 (nI 0) μ (fun r13 => ((r11 = (r13 + r1) → (w_L_yards_111 a2 X2 v3 r1 r3 μ Q)) ∧ (¬ r11 = (r13 + r1) → Q (nI 0) μ))))))))))))))))) ∧ (¬ 0 ≤ r1 → ((¬ r3 = ((-1) : Int32) → Q (nI 0) μ) ∧ (r3 = ((-1) : Int32) → w_X6_told (nI 10) μ (fun r15 => ((r15 = 0 → (w_L_yards_111 a2 X2 v3 r1 r3 μ Q)) ∧ (¬ r15 = 0 → Q (nI 0) μ))))))))))))
def w_L_yards_2 (a2 : Int32) (v3 : Int32) (μ : Mem) (Q : Int32 → Mem → Prop) : Prop :=
  ∀ X2 : Int32 → Mem → Prop, (∀ (v3 : Int32) (μ : Mem), s_L_yards_2 a2 X2 v3 μ Q → X2 v3 μ) → X2 v3 μ
def w_L_yards (a2 : Int32) (μ : Mem) (Q : Int32 → Mem → Prop) : Prop :=
  (w_L_yards_2 a2 (nI 0) μ Q)
abbrev rm_L_yards : Room := { frames := 4, cells := 0, slots := 0, locals := 125 }
/-- L_carried -/
def w_L_carried_88 (a2 : Int32) (v3 : Int32) (v4 : Int32) (s1 : Int32) (μ : Mem) (Q : Int32 → Mem → Prop) : Prop :=
  ((s1 = 0 → Q (nI 0) μ) ∧ (¬ s1 = 0 → w_X6_undo (nI 2) μ (fun r17 μ18 => ((r17 < 0 → Q (nI 0) μ18) ∧ (¬ r17 < 0 → w_X6_told (nI 10) μ18 (fun r19 => ((¬ r19 = v3 → Q (nI 0) μ18) ∧ (r19 = v3 → w_X6_village (nI 0) (nI 2) μ18 (fun r21 => ((¬ r21 = v4 → Q (nI 0) μ18) ∧ (r21 = v4 → w_X6_told (nI 15) μ18 (fun r23 => ((¬ r23 = a2 → Q (nI 0) μ18) ∧ (r23 = a2 → Q (nI 1) μ18))))))))))))))
def w_L_carried_87 (a2 : Int32) (v3 : Int32) (v4 : Int32) (μ : Mem) (Q : Int32 → Mem → Prop) : Prop :=
  (w_L_carried_88 a2 v3 v4 (nI 0) μ Q)
def w_L_carried (a2 : Int32) (μ : Mem) (Q : Int32 → Mem → Prop) : Prop :=
  w_X6_told (nI 10) μ (fun r1 => w_X6_village (nI 0) (nI 2) μ (fun r3 => w_X6_village (nI 1) (nI 2) μ (fun r5 => w_X6_carry (nI 0) μ (fun r7 μ8 => w_X6_carry (nI 1) μ8 (fun r9 μ10 => ((¬ (r7 + r9) = r1 → (w_L_carried_87 a2 r1 r3 μ10 Q)) ∧ ((r7 + r9) = r1 → w_X6_told (nI 10) μ10 (fun r11 => ((¬ r11 = 0 → (w_L_carried_87 a2 r1 r3 μ10 Q)) ∧ (r11 = 0 → w_X6_village (nI 0) (nI 2) μ10 (fun r13 => ((¬ r13 = (r3 + r7) → (w_L_carried_87 a2 r1 r3 μ10 Q)) ∧ (r13 = (r3 + r7) → w_X6_village (nI 1) (nI 2) μ10 (fun r15 => ((¬ r15 = (r5 + r9) → (w_L_carried_87 a2 r1 r3 μ10 Q)) ∧ (r15 = (r5 + r9) → (w_L_carried_88 a2 r1 r3 (nI 1) μ10 Q)))))))))))))))))
abbrev rm_L_carried : Room := { frames := 4, cells := 0, slots := 0, locals := 125 }
/-- L_law -/
def w_L_law_523 (ss : Nat × (Nat → Int32)) (v8 : Int32) (s1 : Int32) (μ : Mem) (Q : Int32 → Mem → Prop) : Prop :=
  w_X6_told (nI 10) μ (fun r101 => ((v8 = 0 → Q (nI 0) μ) ∧ (¬ v8 = 0 → w_X6_goBack (nI 0) μ (fun r103 μ104 => ((¬ r103 = (nI 1) → Q (nI 0) μ104) ∧ (r103 = (nI 1) → w_X6_drift (nI 9) μ104 (fun r105 μ106 => ((¬ r105 = s1 → Q (nI 0) μ106) ∧ (r105 = s1 → w_X6_told (nI 10) μ106 (fun r107 => ((¬ r107 = r101 → Q (nI 0) μ106) ∧ (r107 = r101 → w_X6_goBack (nI 0) μ106 (fun r109 μ110 => ((¬ r109 = (nI 1) → Q (nI 0) μ110) ∧ (r109 = (nI 1) → w_X6_seed (nI 1) μ110 (fun r111 μ112 => w_L_cell ss (nI 35) μ112 (fun r113 => ((¬ r111 = r113 → Q (nI 0) μ112) ∧ (r111 = r113 → Q (nI 1) μ112)))))))))))))))))))
def w_L_law_506 (ss : Nat × (Nat → Int32)) (s1 : Int32) (μ : Mem) (Q : Int32 → Mem → Prop) : Prop :=
  ((s1 = 0 → (w_L_law_523 ss s1 ((-1) : Int32) μ Q)) ∧ (¬ s1 = 0 → w_X6_drift (nI 9) μ (fun r99 μ100 => (w_L_law_523 ss s1 r99 μ100 Q))))
def w_L_law_505 (ss : Nat × (Nat → Int32)) (μ : Mem) (Q : Int32 → Mem → Prop) : Prop :=
  (w_L_law_506 ss (nI 0) μ Q)
def w_L_law_288 (ss : Nat × (Nat → Int32)) (v5 : Int32) (μ : Mem) (Q : Int32 → Mem → Prop) : Prop :=
  w_L_cell ss (nI 50) μ (fun r46 => (¬ (nI 30) = 0 ∧ ∀ x48 : Int32, x48 = (r46 - r46 / (nI 30) * (nI 30)) → w_L_lamps x48 v5 μ (fun r49 μ50 => ((r49 = 0 → Q (nI 0) μ50) ∧ (¬ r49 = 0 → w_L_cell ss (nI 51) μ50 (fun r51 => (¬ (nI 2) = 0 ∧ ∀ x53 : Int32, x53 = (r51 - r51 / (nI 2) * (nI 2)) → w_L_thirst x53 v5 μ50 (fun r54 μ55 => ((r54 = 0 → Q (nI 0) μ55) ∧ (¬ r54 = 0 → w_L_cell ss (nI 52) μ55 (fun r56 => (¬ (nI 60) = 0 ∧ ∀ x58 : Int32, x58 = (r56 - r56 / (nI 60) * (nI 60)) → w_L_cell ss (nI 52) μ55 (fun r59 => (¬ (nI 64) = 0 ∧ (¬ (nI 2) = 0 ∧ ∀ x61 : Int32, x61 = ((r59 / (nI 64)) - (r59 / (nI 64)) / (nI 2) * (nI 2)) → w_L_led x58 x61 μ55 (fun r62 μ63 => ((r62 = 0 → Q (nI 0) μ63) ∧ (¬ r62 = 0 → w_L_cell ss (nI 53) μ63 (fun r64 => (¬ (nI 1000) = 0 ∧ ∀ x66 : Int32, x66 = (r64 - r64 / (nI 1000) * (nI 1000)) → w_L_shares x66 μ63 (fun r67 => ((r67 = 0 → Q (nI 0) μ63) ∧ (¬ r67 = 0 → w_L_yards v5 μ63 (fun r69 μ70 => ((r69 = 0 → Q (nI 0) μ70) ∧ (¬ r69 = 0 → w_L_carried v5 μ70 (fun r71 μ72 => ((¬ r71 = 0 → w_L_cell ss (nI 55) μ72 (fun r73 => (¬ (nI 20) = 0 ∧ ∀ x75 : Int32, x75 = (r73 - r73 / (nI 20) * (nI 20)) → w_X6_drift ((nI 1) + x75) μ72 (fun r76 μ77 => ((r76 < 0 → Q (nI 0) μ77) ∧ (¬ r76 < 0 → w_L_cell ss (nI 55) μ77 (fun r78 => (¬ (nI 20) = 0 ∧ ∀ x80 : Int32, x80 = (r78 - r78 / (nI 20) * (nI 20)) → w_X6_undo ((nI 1) + x80) μ77 (fun r81 μ82 => w_X6_told (nI 6) μ82 (fun r83 => ((¬ r81 = r83 → Q (nI 0) μ82) ∧ (r81 = r83 → w_X6_told (nI 15) μ82 (fun r85 => ((¬ r85 = v5 → Q (nI 0) μ82) ∧ (r85 = v5 → w_X6_undo v5 μ82 (fun r87 μ88 => ((r87 = 0 → w_L_isCoast  μ88 (fun r89 => ((r89 = 0 → (w_L_law_505 ss μ88 Q)) ∧ (¬ r89 = 0 → w_X6_drift (nI 9) μ88 (fun r91 μ92 => ((r91 < 0 → (w_L_law_505 ss μ92 Q)) ∧ (¬ r91 < 0 → w_X6_goBack (nI 0) μ92 (fun r93 μ94 => ((¬ r93 = (nI 1) → (w_L_law_505 ss μ94 Q)) ∧ (r93 = (nI 1) → w_L_isCoast  μ94 (fun r95 => ((r95 = 0 → (w_L_law_505 ss μ94 Q)) ∧ (¬ r95 = 0 → w_X6_told (nI 15) μ94 (fun r97 => ((¬ r97 = 0 → (w_L_law_505 ss μ94 Q)) ∧ (r97 = 0 → (w_L_law_506 ss (nI 1) μ94 Q))))))))))))))))) ∧ (¬ r87 = 0 → Q (nI 0) μ88)))))))))))))))))) ∧ (r71 = 0 → Q (nI 0) μ72)))))))))))))))))))))))))))))
def s_L_law_241 (ss : Nat × (Nat → Int32)) (v5 : Int32) (X241 : Int32 → Mem → Prop) (v8 : Int32) (μ : Mem) (Q : Int32 → Mem → Prop) : Prop :=
  (vp_in (nI 3) 53 ∧ (((μ.1 246 ((nI 3)).toNatClampNeg) ≤ v8 → (w_L_law_288 ss v5 μ Q)) ∧ (¬ (μ.1 246 ((nI 3)).toNatClampNeg) ≤ v8 → w_L_best v8 v5 μ (fun r39 μ40 => ((r39 = 0 → Q (nI 0) μ40) ∧ (¬ r39 = 0 → w_L_cell ss ((nI 40) + v8) μ40 (fun r41 => w_L_thick v8 r41 μ40 (fun r43 μ44 => ((¬ r43 = 0 → ∀ x45 : Int32, x45 = v8 + (nI 1) → (X241 x45 μ44)) ∧ (r43 = 0 → Q (nI 0) μ44))))))))))
def w_L_law_241 (ss : Nat × (Nat → Int32)) (v5 : Int32) (v8 : Int32) (μ : Mem) (Q : Int32 → Mem → Prop) : Prop :=
  ∀ X241 : Int32 → Mem → Prop, (∀ (v8 : Int32) (μ : Mem), s_L_law_241 ss v5 X241 v8 μ Q → X241 v8 μ) → X241 v8 μ
def w_L_law_225 (ss : Nat × (Nat → Int32)) (v5 : Int32) (s2 : Int32) (s1 : Int32) (μ : Mem) (Q : Int32 → Mem → Prop) : Prop :=
  ((¬ s1 = s2 → Q (nI 0) μ) ∧ (s1 = s2 → w_X6_undo (nI 1) μ (fun r37 μ38 => ((0 ≤ r37 → (w_L_law_241 ss v5 (nI 0) μ38 Q)) ∧ (¬ 0 ≤ r37 → Q (nI 0) μ38)))))
def w_L_law_172 (ss : Nat × (Nat → Int32)) (v5 : Int32) (v6 : Int32) (μ : Mem) (Q : Int32 → Mem → Prop) : Prop :=
  w_X6_post (nI 0) (nI 4) μ (fun r27 => w_X6_told (nI 10) μ (fun r29 => w_X6_told (nI 11) μ (fun r31 => w_X6_told (nI 12) μ (fun r33 => ((¬ v6 = ((r29 + r31) + r33) → Q (nI 0) μ) ∧ (v6 = ((r29 + r31) + r33) → w_X6_lick (nI 0) (nI 3) μ (fun r35 μ36 => (((nI 3) ≤ r27 → (w_L_law_225 ss v5 (r27 - (nI 3)) r35 μ36 Q)) ∧ (¬ (nI 3) ≤ r27 → (w_L_law_225 ss v5 (nI 0) r35 μ36 Q))))))))))
def w_L_law_123 (ss : Nat × (Nat → Int32)) (X84 : Int32 → Int32 → Mem → Prop) (v5 : Int32) (v6 : Int32) (v7 : Int32) (v8 : Int32) (μ : Mem) (Q : Int32 → Mem → Prop) : Prop :=
  w_X6_left  μ (fun r19 μ20 => w_X6_fog ((-1) : Int32) (nI 1) μ20 (fun r21 => ((¬ (v8 + r19) = r21 → Q (nI 0) μ20) ∧ ((v8 + r19) = r21 → w_X6_hour (nI 1) μ20 (fun r23 μ24 => ((r23 = v8 → ∀ x25 : Int32, x25 = (v6 + v8) → ∀ x26 : Int32, x26 = v7 + (nI 1) → (X84 x25 x26 μ24)) ∧ (¬ r23 = v8 → Q (nI 0) μ24)))))))
def s_L_law_97 (ss : Nat × (Nat → Int32)) (X84 : Int32 → Int32 → Mem → Prop) (v5 : Int32) (v6 : Int32) (v7 : Int32) (X97 : Int32 → Int32 → Mem → Prop) (v8 : Int32) (v9 : Int32) (μ : Mem) (Q : Int32 → Mem → Prop) : Prop :=
  (vp_in (nI 3) 53 ∧ (((μ.1 246 ((nI 3)).toNatClampNeg) ≤ v9 → (w_L_law_123 ss X84 v5 v6 v7 v8 μ Q)) ∧ (¬ (μ.1 246 ((nI 3)).toNatClampNeg) ≤ v9 → w_X6_gets v9 (nI 1) μ (fun r15 μ16 => ∀ x17 : Int32, x17 = (v8 + r15) → ∀ x18 : Int32, x18 = v9 + (nI 1) → (X97 x17 x18 μ16)))))
def w_L_law_97 (ss : Nat × (Nat → Int32)) (X84 : Int32 → Int32 → Mem → Prop) (v5 : Int32) (v6 : Int32) (v7 : Int32) (v8 : Int32) (v9 : Int32) (μ : Mem) (Q : Int32 → Mem → Prop) : Prop :=
  ∀ X97 : Int32 → Int32 → Mem → Prop, (∀ (v8 : Int32) (v9 : Int32) (μ : Mem), s_L_law_97 ss X84 v5 v6 v7 X97 v8 v9 μ Q → X97 v8 v9 μ) → X97 v8 v9 μ
def s_L_law_84 (ss : Nat × (Nat → Int32)) (v5 : Int32) (X84 : Int32 → Int32 → Mem → Prop) (v6 : Int32) (v7 : Int32) (μ : Mem) (Q : Int32 → Mem → Prop) : Prop :=
  ((v5 ≤ v7 → (w_L_law_172 ss v5 v6 μ Q)) ∧ (¬ v5 ≤ v7 → (w_L_law_97 ss X84 v5 v6 v7 (nI 0) (nI 0) μ Q)))
def w_L_law_84 (ss : Nat × (Nat → Int32)) (v5 : Int32) (v6 : Int32) (v7 : Int32) (μ : Mem) (Q : Int32 → Mem → Prop) : Prop :=
  ∀ X84 : Int32 → Int32 → Mem → Prop, (∀ (v6 : Int32) (v7 : Int32) (μ : Mem), s_L_law_84 ss v5 X84 v6 v7 μ Q → X84 v6 v7 μ) → X84 v6 v7 μ
def w_L_law (ss : Nat × (Nat → Int32)) (μ : Mem) (Q : Int32 → Mem → Prop) : Prop :=
  w_L_numbers ss (nI 10) (nI 4) μ (fun μ2 => w_L_cell ss (nI 35) μ2 (fun r3 => w_X6_seed r3 μ2 (fun r5 μ6 => ((¬ r5 = 0 → Q (nI 0) μ6) ∧ (r5 = 0 → w_L_coast  μ6 (fun r7 μ8 => ((r7 = 0 → Q (nI 0) μ8) ∧ (¬ r7 = 0 → w_X6_keep (nI 0) μ8 (fun r9 μ10 => ((r9 = (nI 1) → w_L_cell ss (nI 36) μ10 (fun r11 => (¬ (nI 5) = 0 ∧ ∀ x13 : Int32, x13 = (r11 - r11 / (nI 5) * (nI 5)) → ∀ x14 : Int32, x14 = ((nI 1) + x13) → (w_L_law_84 ss x14 (nI 0) (nI 0) μ10 Q)))) ∧ (¬ r9 = (nI 1) → Q (nI 0) μ10)))))))))))
