/-! ===== what each method does, over the memory: by program out of the bytecode ===== -/
/-- X0_wipe -/
def s_X0_wipe_69 (b0 : Nat) (X69 : Int32 → Mem → Prop) (v1 : Int32) (μ : Mem) (Q : Mem → Prop) : Prop :=
  (((nI 2) ≤ v1 → Q μ) ∧ (¬ (nI 2) ≤ v1 → (vp_in v1 2 ∧ ∀ μ11 : Mem, μ11 = sI μ (b0 + 7) (v1).toNatClampNeg (nI 127) → (vp_in v1 2 ∧ ∀ μ12 : Mem, μ12 = sI μ11 (b0 + 8) (v1).toNatClampNeg (nI 0) → ∀ x13 : Int32, x13 = v1 + (nI 1) → (X69 x13 μ12)))))
def w_X0_wipe_69 (b0 : Nat) (v1 : Int32) (μ : Mem) (Q : Mem → Prop) : Prop :=
  ∀ X69 : Int32 → Mem → Prop, (∀ (v1 : Int32) (μ : Mem), s_X0_wipe_69 b0 X69 v1 μ Q → X69 v1 μ) → X69 v1 μ
def w_X0_wipe_67 (b0 : Nat) (μ : Mem) (Q : Mem → Prop) : Prop :=
  (w_X0_wipe_69 b0 (nI 0) μ Q)
def s_X0_wipe_41 (b0 : Nat) (X41 : Int32 → Mem → Prop) (v1 : Int32) (μ : Mem) (Q : Mem → Prop) : Prop :=
  (((nI 6) ≤ v1 → (w_X0_wipe_67 b0 μ Q)) ∧ (¬ (nI 6) ≤ v1 → (vp_in v1 6 ∧ ∀ μ8 : Mem, μ8 = sI μ (b0 + 3) (v1).toNatClampNeg ((-1) : Int32) → (vp_in v1 6 ∧ ∀ μ9 : Mem, μ9 = sI μ8 (b0 + 6) (v1).toNatClampNeg ((-1) : Int32) → ∀ x10 : Int32, x10 = v1 + (nI 1) → (X41 x10 μ9)))))
def w_X0_wipe_41 (b0 : Nat) (v1 : Int32) (μ : Mem) (Q : Mem → Prop) : Prop :=
  ∀ X41 : Int32 → Mem → Prop, (∀ (v1 : Int32) (μ : Mem), s_X0_wipe_41 b0 X41 v1 μ Q → X41 v1 μ) → X41 v1 μ
def w_X0_wipe (b0 : Nat) (μ : Mem) (Q : Mem → Prop) : Prop :=
  ∀ μ1 : Mem, μ1 = sI μ b0 0 (nI 0) → ∀ μ2 : Mem, μ2 = sI μ1 b0 1 (nI 0) → ∀ μ3 : Mem, μ3 = sI μ2 b0 2 (nI 0) → ∀ μ4 : Mem, μ4 = sI μ3 b0 3 (nI 0) → ∀ μ5 : Mem, μ5 = sI μ4 b0 4 (nI 0) → (vp_in (nI 0) 12 ∧ ∀ μ6 : Mem, μ6 = sI μ5 (b0 + 1) ((nI 0)).toNatClampNeg (nI 0) → (vp_in (nI 0) 12 ∧ ∀ μ7 : Mem, μ7 = sI μ6 (b0 + 2) ((nI 0)).toNatClampNeg (nI 0) → (w_X0_wipe_41 b0 (nI 0) μ7 Q)))
abbrev rm_X0_wipe : Room := { frames := 0, cells := 0, slots := 0, locals := 0 }
/-- X0_hoursOfDay -/
def w_X0_hoursOfDay (b0 : Nat) (μ : Mem) (Q : Int32 → Prop) : Prop :=
  ((¬ (μ.1 b0 0) = 0 → ∀ x1 : Int32, x1 = (if (μ.1 b0 2) < (nI 1) then (nI 1) else (μ.1 b0 2)) → Q x1) ∧ ((μ.1 b0 0) = 0 → Q (nI 0)))
abbrev rm_X0_hoursOfDay : Room := { frames := 1, cells := 0, slots := 0, locals := 24 }
/-- X6_at -/
def w_X6_at (b0 : Nat) (a1 : Int32) (μ : Mem) (Q : Int32 → Prop) : Prop :=
  ((a1 < 0 → Q (nI 0)) ∧ (¬ a1 < 0 → (((nI (sF.2.2 b0)) ≤ a1 → Q (nI 0)) ∧ (¬ (nI (sF.2.2 b0)) ≤ a1 → (vp_in a1 (sF.2.2 b0) ∧ Q (μ.1 b0 (a1).toNatClampNeg))))))
abbrev rm_X6_at : Room := { frames := 0, cells := 0, slots := 0, locals := 0 }
/-- X0_sideAt -/
def w_X0_sideAt (b0 : Nat) (a1 : Int32) (μ : Mem) (Q : Int32 → Prop) : Prop :=
  w_X6_at (b0 + 1) a1 μ (fun r1 => Q r1)
abbrev rm_X0_sideAt : Room := { frames := 1, cells := 0, slots := 0, locals := 21 }
/-- X0_fogAt -/
def w_X0_fogAt (b0 : Nat) (a1 : Int32) (μ : Mem) (Q : Int32 → Prop) : Prop :=
  w_X6_at (b0 + 2) a1 μ (fun r1 => Q r1)
abbrev rm_X0_fogAt : Room := { frames := 1, cells := 0, slots := 0, locals := 21 }
/-- X0_hangsOn -/
def w_X0_hangsOn (b0 : Nat) (a1 : Int32) (a2 : Int32) (μ : Mem) (Q : Int32 → Prop) : Prop :=
  w_X6_at (b0 + 7) a1 μ (fun r1 => (¬ (nI 7) = 0 ∧ ∀ x3 : Int32, x3 = (a2 - a2 / (nI 7) * (nI 7)) → ((¬ ((r1 >>> (x3 &&& 31)) &&& (nI 1)) = (nI 1) → Q (nI 0)) ∧ (((r1 >>> (x3 &&& 31)) &&& (nI 1)) = (nI 1) → Q (nI 1)))))
abbrev rm_X0_hangsOn : Room := { frames := 1, cells := 0, slots := 0, locals := 21 }
/-- X0_postsOf -/
def w_X0_postsOf_34 (b0 : Nat) (a1 : Int32) (X4 : Int32 → Int32 → Prop) (v2 : Int32) (v3 : Int32) (μ : Mem) (Q : Int32 → Prop) : Prop :=
  ∀ x2 : Int32, x2 = v3 + (nI 1) → (X4 v2 x2)
def s_X0_postsOf_4 (b0 : Nat) (a1 : Int32) (μ : Mem) (X4 : Int32 → Int32 → Prop) (v2 : Int32) (v3 : Int32) (Q : Int32 → Prop) : Prop :=
  (((μ.1 b0 3) ≤ v3 → Q v2) ∧ (¬ (μ.1 b0 3) ≤ v3 → (((nI 6) ≤ v3 → Q v2) ∧ (¬ (nI 6) ≤ v3 → (vp_in v3 6 ∧ ((¬ (μ.1 (b0 + 6) (v3).toNatClampNeg) = a1 → (w_X0_postsOf_34 b0 a1 X4 v2 v3 μ Q)) ∧ ((μ.1 (b0 + 6) (v3).toNatClampNeg) = a1 → ∀ x1 : Int32, x1 = (v2 ||| ((nI 1) <<< (v3 &&& 31))) → (w_X0_postsOf_34 b0 a1 X4 x1 v3 μ Q))))))))
def w_X0_postsOf_4 (b0 : Nat) (a1 : Int32) (v2 : Int32) (v3 : Int32) (μ : Mem) (Q : Int32 → Prop) : Prop :=
  ∀ X4 : Int32 → Int32 → Prop, (∀ (v2 : Int32) (v3 : Int32), s_X0_postsOf_4 b0 a1 μ X4 v2 v3 Q → X4 v2 v3) → X4 v2 v3
def w_X0_postsOf (b0 : Nat) (a1 : Int32) (μ : Mem) (Q : Int32 → Prop) : Prop :=
  (w_X0_postsOf_4 b0 a1 (nI 0) (nI 0) μ Q)
abbrev rm_X0_postsOf : Room := { frames := 0, cells := 0, slots := 0, locals := 0 }
/-- X0_hasPostIn -/
def s_X0_hasPostIn_2 (b0 : Nat) (a1 : Int32) (μ : Mem) (X2 : Int32 → Prop) (v2 : Int32) (Q : Int32 → Prop) : Prop :=
  (((μ.1 b0 3) ≤ v2 → Q (nI 0)) ∧ (¬ (μ.1 b0 3) ≤ v2 → (((nI 6) ≤ v2 → Q (nI 0)) ∧ (¬ (nI 6) ≤ v2 → (vp_in v2 6 ∧ ((¬ (μ.1 (b0 + 3) (v2).toNatClampNeg) = a1 → ∀ x1 : Int32, x1 = v2 + (nI 1) → (X2 x1)) ∧ ((μ.1 (b0 + 3) (v2).toNatClampNeg) = a1 → Q (nI 1))))))))
def w_X0_hasPostIn_2 (b0 : Nat) (a1 : Int32) (v2 : Int32) (μ : Mem) (Q : Int32 → Prop) : Prop :=
  ∀ X2 : Int32 → Prop, (∀ (v2 : Int32), s_X0_hasPostIn_2 b0 a1 μ X2 v2 Q → X2 v2) → X2 v2
def w_X0_hasPostIn (b0 : Nat) (a1 : Int32) (μ : Mem) (Q : Int32 → Prop) : Prop :=
  (w_X0_hasPostIn_2 b0 a1 (nI 0) μ Q)
abbrev rm_X0_hasPostIn : Room := { frames := 0, cells := 0, slots := 0, locals := 0 }
/-- X6_put -/
def w_X6_put (b0 : Nat) (a1 : Int32) (a2 : Int32) (μ : Mem) (Q : Mem → Prop) : Prop :=
  ((a1 < 0 → Q μ) ∧ (¬ a1 < 0 → (((nI (sF.2.2 b0)) ≤ a1 → Q μ) ∧ (¬ (nI (sF.2.2 b0)) ≤ a1 → (vp_in a1 (sF.2.2 b0) ∧ ∀ μ1 : Mem, μ1 = sI μ b0 (a1).toNatClampNeg a2 → Q μ1)))))
abbrev rm_X6_put : Room := { frames := 0, cells := 0, slots := 0, locals := 0 }
/-- X1_note -/
def w_X1_note (b0 : Nat) (a1 : Int32) (a2 : Int32) (a3 : Int32) (μ : Mem) (Q : Int32 → Mem → Prop) : Prop :=
  w_X6_put (b0 + 1) (μ.1 b0 3) a1 μ (fun μ2 => w_X6_put (b0 + 2) (μ2.1 b0 3) a2 μ2 (fun μ4 => w_X6_put (b0 + 3) (μ4.1 b0 3) a3 μ4 (fun μ6 => ∀ μ7 : Mem, μ7 = sI μ6 b0 3 ((μ6.1 b0 3) + (nI 1)) → Q (μ7.1 b0 3) μ7)))
abbrev rm_X1_note : Room := { frames := 1, cells := 0, slots := 0, locals := 22 }
/-- X2_stateAt -/
def w_X2_stateAt (a1 : Int32) (μ : Mem) (Q : Option Nat → Prop) : Prop :=
  (¬ (nI 30) = 0 ∧ ∀ x1 : Int32, x1 = (((μ.1 41 1) + a1) - ((μ.1 41 1) + a1) / (nI 30) * (nI 30)) → ((a1 < 0 → Q none) ∧ (¬ a1 < 0 → ((x1 < 0 → Q none) ∧ (¬ x1 < 0 → (((nI 30) ≤ x1 → Q none) ∧ (¬ (nI 30) ≤ x1 → (vp_in x1 30 ∧ (sF.2.1 (43 + 6 * (x1).toNatClampNeg) = 4 ∧ Q (some (43 + 6 * (x1).toNatClampNeg)))))))))))
abbrev rm_X2_stateAt : Room := { frames := 0, cells := 0, slots := 0, locals := 0 }
/-- X4_become -/
def w_X4_become (b0 : Nat) (b1 : Nat) (μ : Mem) (Q : Mem → Prop) : Prop :=
  ∀ μ1 : Mem, μ1 = sI μ b0 0 (μ.1 b1 0) → ∀ μ2 : Mem, μ2 = sI μ1 b0 1 (μ1.1 b1 1) → (((μ2.1 b1 2) = 0 ∨ (μ2.1 b1 2) = 1) ∧ ∀ μ3 : Mem, μ3 = sI μ2 b0 2 (μ2.1 b1 2) → ∀ μ4 : Mem, μ4 = sI μ3 b0 3 (μ3.1 b1 3) → ∀ μ5 : Mem, μ5 = sI μ4 b0 4 (μ4.1 b1 4) → ∀ μ6 : Mem, μ6 = sA μ5 (b0 + 1) (va_cpy (μ5.1 (b1 + 1)) (μ5.1 (b0 + 1)) 0 0 6) → ∀ μ7 : Mem, μ7 = sA μ6 (b0 + 2) (va_cpy (μ6.1 (b1 + 2)) (μ6.1 (b0 + 2)) 0 0 6) → ∀ μ8 : Mem, μ8 = sA μ7 (b0 + 3) (va_cpy (μ7.1 (b1 + 3)) (μ7.1 (b0 + 3)) 0 0 6) → ∀ μ9 : Mem, μ9 = sA μ8 (b0 + 4) (va_cpy (μ8.1 (b1 + 4)) (μ8.1 (b0 + 4)) 0 0 2) → ∀ μ10 : Mem, μ10 = sA μ9 (b0 + 5) (va_cpy (μ9.1 (b1 + 5)) (μ9.1 (b0 + 5)) 0 0 2) → Q μ10)
abbrev rm_X4_become : Room := { frames := 1, cells := 0, slots := 0, locals := 60 }
/-- X2_remember -/
def w_X2_remember_35 (b1 : Nat) (μ : Mem) (Q : Mem → Prop) : Prop :=
  w_X2_stateAt ((μ.1 41 2) - (nI 1)) μ (fun r4 => (r4 = none → Q μ) ∧ (∀ b6 : Nat, r4 = some b6 → (sF.2.1 b6 = 4 ∧ w_X4_become b6 b1 μ (fun μ8 => Q μ8))))
def w_X2_remember (b1 : Nat) (μ : Mem) (Q : Mem → Prop) : Prop :=
  (((nI 30) ≤ (μ.1 41 2) → (¬ (nI 30) = 0 ∧ ∀ x1 : Int32, x1 = (((μ.1 41 1) + (nI 1)) - ((μ.1 41 1) + (nI 1)) / (nI 30) * (nI 30)) → ∀ μ2 : Mem, μ2 = sI μ 41 1 x1 → (w_X2_remember_35 b1 μ2 Q))) ∧ (¬ (nI 30) ≤ (μ.1 41 2) → ∀ μ3 : Mem, μ3 = sI μ 41 2 ((μ.1 41 2) + (nI 1)) → (w_X2_remember_35 b1 μ3 Q)))
abbrev rm_X2_remember : Room := { frames := 2, cells := 0, slots := 0, locals := 81 }
/-- X2_takeBack -/
def w_X2_takeBack (b1 : Nat) (a2 : Int32) (μ : Mem) (Q : Mem → Prop) : Prop :=
  w_X2_stateAt ((μ.1 41 2) - a2) μ (fun r1 => (r1 = none → Q μ) ∧ (∀ b3 : Nat, r1 = some b3 → (sF.2.1 b3 = 4 ∧ w_X4_become b1 b3 μ (fun μ5 => ∀ μ6 : Mem, μ6 = sI μ5 41 2 ((μ5.1 41 2) - a2) → Q μ6))))
abbrev rm_X2_takeBack : Room := { frames := 2, cells := 0, slots := 0, locals := 81 }
/-- X3_append -/
def w_X3_append (a1 : Int32) (μ : Mem) (Q : Int32 → Mem → Prop) : Prop :=
  w_X6_put 2 (μ.1 1 1) a1 μ (fun μ2 => ∀ μ3 : Mem, μ3 = sI μ2 1 1 ((μ2.1 1 1) + (nI 1)) → Q (μ3.1 1 1) μ3)
abbrev rm_X3_append : Room := { frames := 1, cells := 0, slots := 0, locals := 22 }
/-- X3_letterAt -/
def w_X3_letterAt (a1 : Int32) (μ : Mem) (Q : Int32 → Prop) : Prop :=
  ((a1 < 0 → Q ((-1) : Int32)) ∧ (¬ a1 < 0 → (((μ.1 1 1) ≤ a1 → Q ((-1) : Int32)) ∧ (¬ (μ.1 1 1) ≤ a1 → (((nI 240) ≤ a1 → Q ((-1) : Int32)) ∧ (¬ (nI 240) ≤ a1 → (vp_in a1 240 ∧ Q (μ.1 2 (a1).toNatClampNeg))))))))
abbrev rm_X3_letterAt : Room := { frames := 0, cells := 0, slots := 0, locals := 0 }
/-- X3_nextLetter -/
def w_X3_nextLetter_37 (μ : Mem) (Q : Int32 → Mem → Prop) : Prop :=
  w_X3_letterAt (μ.1 1 2) μ (fun r4 => Q r4 μ)
def s_X3_nextLetter_0  (X0 : Mem → Prop)  (μ : Mem) (Q : Int32 → Mem → Prop) : Prop :=
  (((μ.1 1 1) ≤ (μ.1 1 2) → (w_X3_nextLetter_37 μ Q)) ∧ (¬ (μ.1 1 1) ≤ (μ.1 1 2) → w_X3_letterAt (μ.1 1 2) μ (fun r1 => ((¬ r1 = (nI 32) → (w_X3_nextLetter_37 μ Q)) ∧ (r1 = (nI 32) → ∀ μ3 : Mem, μ3 = sI μ 1 2 ((μ.1 1 2) + (nI 1)) → (X0 μ3))))))
def w_X3_nextLetter_0 (μ : Mem) (Q : Int32 → Mem → Prop) : Prop :=
  ∀ X0 : Mem → Prop, (∀  (μ : Mem), s_X3_nextLetter_0  X0 μ Q → X0 μ) → X0 μ
def w_X3_nextLetter (μ : Mem) (Q : Int32 → Mem → Prop) : Prop :=
  (w_X3_nextLetter_0 μ Q)
abbrev rm_X3_nextLetter : Room := { frames := 1, cells := 0, slots := 0, locals := 21 }
/-- X3_faultOfWord -/
def w_X3_faultOfWord (b1 : Nat) (a2 : Int32) (μ : Mem) (Q : Int32 → Prop) : Prop :=
  ((¬ (μ.1 b1 0) = 0 → ((a2 = (nI 100) → (((μ.1 1 6) = 0 → Q (nI 0)) ∧ (¬ (μ.1 1 6) = 0 → Q (nI 3)))) ∧ (¬ a2 = (nI 100) → ((a2 = (nI 101) → Q (nI 1)) ∧ (¬ a2 = (nI 101) → ((a2 = (nI 102) → Q (nI 3)) ∧ (¬ a2 = (nI 102) → ((a2 = (nI 103) → (((nI 4) ≤ (μ.1 b1 4) → Q (nI 3)) ∧ (¬ (nI 4) ≤ (μ.1 b1 4) → Q (nI 0)))) ∧ (¬ a2 = (nI 103) → ((a2 = (nI 104) → (((nI 12) ≤ (μ.1 b1 2) → Q (nI 3)) ∧ (¬ (nI 12) ≤ (μ.1 b1 2) → Q (nI 0)))) ∧ (¬ a2 = (nI 104) → ((a2 = (nI 105) → Q (nI 1)) ∧ (¬ a2 = (nI 105) → ((a2 = (nI 106) → Q (nI 1)) ∧ (¬ a2 = (nI 106) → ((a2 = (nI 107) → Q (nI 1)) ∧ (¬ a2 = (nI 107) → ((a2 = (nI 108) → Q (nI 1)) ∧ (¬ a2 = (nI 108) → ((a2 = (nI 109) → Q (nI 1)) ∧ (¬ a2 = (nI 109) → ((a2 = (nI 110) → Q (nI 1)) ∧ (¬ a2 = (nI 110) → ((a2 = (nI 111) → Q (nI 1)) ∧ (¬ a2 = (nI 111) → ((a2 = (nI 112) → (((nI 6) ≤ (μ.1 b1 3) → Q (nI 3)) ∧ (¬ (nI 6) ≤ (μ.1 b1 3) → Q (nI 0)))) ∧ (¬ a2 = (nI 112) → ((a2 = (nI 113) → Q (nI 1)) ∧ (¬ a2 = (nI 113) → ((a2 = (nI 114) → Q (nI 1)) ∧ (¬ a2 = (nI 114) → ((a2 = (nI 115) → Q (nI 1)) ∧ (¬ a2 = (nI 115) → ((a2 = (nI 116) → Q (nI 1)) ∧ (¬ a2 = (nI 116) → ((a2 = (nI 117) → (((μ.1 1 7) = 0 → Q (nI 0)) ∧ (¬ (μ.1 1 7) = 0 → Q (nI 3)))) ∧ (¬ a2 = (nI 117) → Q (nI 1)))))))))))))))))))))))))))))))))))))) ∧ ((μ.1 b1 0) = 0 → ((¬ a2 = (nI 102) → Q (nI 1)) ∧ (a2 = (nI 102) → Q (nI 0)))))
abbrev rm_X3_faultOfWord : Room := { frames := 0, cells := 0, slots := 0, locals := 0 }
/-- X3_fail -/
def w_X3_fail (a1 : Int32) (a2 : Int32) (μ : Mem) (Q : Mem → Prop) : Prop :=
  (((μ.1 1 4) = 0 → ∀ μ1 : Mem, μ1 = sI μ 1 4 a1 → ∀ μ2 : Mem, μ2 = sI μ1 1 5 a2 → Q μ2) ∧ (¬ (μ.1 1 4) = 0 → Q μ))
abbrev rm_X3_fail : Room := { frames := 0, cells := 0, slots := 0, locals := 0 }
/-- X6_within -/
def w_X6_within (a0 : Int32) (a1 : Int32) (a2 : Int32) (μ : Mem) (Q : Int32 → Prop) : Prop :=
  ((a0 < a1 → Q (nI 0)) ∧ (¬ a0 < a1 → ((a2 < a0 → Q (nI 0)) ∧ (¬ a2 < a0 → Q (nI 1)))))
abbrev rm_X6_within : Room := { frames := 0, cells := 0, slots := 0, locals := 0 }
/-- X3_readNumber -/
def w_X3_readNumber_126 (a1 : Int32) (a2 : Int32) (v5 : Int32) (μ : Mem) (Q : Int32 → Mem → Prop) : Prop :=
  w_X3_fail (nI 2) (μ.1 1 3) μ (fun μ16 => Q v5 μ16)
def w_X3_readNumber_93 (a1 : Int32) (a2 : Int32) (v4 : Int32) (v5 : Int32) (μ : Mem) (Q : Int32 → Mem → Prop) : Prop :=
  ((¬ v4 = 0 → (((nI 3) < v4 → (w_X3_readNumber_126 a1 a2 v5 μ Q)) ∧ (¬ (nI 3) < v4 → w_X6_within v5 a1 a2 μ (fun r11 => ((¬ r11 = 0 → Q v5 μ) ∧ (r11 = 0 → (w_X3_readNumber_126 a1 a2 v5 μ Q))))))) ∧ (v4 = 0 → w_X3_fail (nI 1) (μ.1 1 3) μ (fun μ14 => Q v5 μ14)))
def w_X3_readNumber_68 (a1 : Int32) (a2 : Int32) (X28 : Int32 → Int32 → Int32 → Mem → Prop) (v4 : Int32) (v5 : Int32) (μ : Mem) (Q : Int32 → Mem → Prop) : Prop :=
  ∀ x7 : Int32, x7 = v4 + (nI 1) → ∀ μ8 : Mem, μ8 = sI μ 1 2 ((μ.1 1 2) + (nI 1)) → w_X3_letterAt (μ8.1 1 2) μ8 (fun r9 => (X28 r9 x7 v5 μ8))
def s_X3_readNumber_28 (a1 : Int32) (a2 : Int32) (X28 : Int32 → Int32 → Int32 → Mem → Prop) (v3 : Int32) (v4 : Int32) (v5 : Int32) (μ : Mem) (Q : Int32 → Mem → Prop) : Prop :=
  (((μ.1 1 1) ≤ (μ.1 1 2) → (w_X3_readNumber_93 a1 a2 v4 v5 μ Q)) ∧ (¬ (μ.1 1 1) ≤ (μ.1 1 2) → w_X6_within v3 (nI 48) (nI 57) μ (fun r4 => ((r4 = 0 → (w_X3_readNumber_93 a1 a2 v4 v5 μ Q)) ∧ (¬ r4 = 0 → (((nI 3) ≤ v4 → (w_X3_readNumber_68 a1 a2 X28 v4 v5 μ Q)) ∧ (¬ (nI 3) ≤ v4 → ∀ x6 : Int32, x6 = ((((nI 10) * v5) + v3) - (nI 48)) → (w_X3_readNumber_68 a1 a2 X28 v4 x6 μ Q))))))))
def w_X3_readNumber_28 (a1 : Int32) (a2 : Int32) (v3 : Int32) (v4 : Int32) (v5 : Int32) (μ : Mem) (Q : Int32 → Mem → Prop) : Prop :=
  ∀ X28 : Int32 → Int32 → Int32 → Mem → Prop, (∀ (v3 : Int32) (v4 : Int32) (v5 : Int32) (μ : Mem), s_X3_readNumber_28 a1 a2 X28 v3 v4 v5 μ Q → X28 v3 v4 v5 μ) → X28 v3 v4 v5 μ
def w_X3_readNumber (a1 : Int32) (a2 : Int32) (μ : Mem) (Q : Int32 → Mem → Prop) : Prop :=
  (((μ.1 1 4) = 0 → w_X3_nextLetter  μ (fun r1 μ2 => ∀ μ3 : Mem, μ3 = sI μ2 1 3 (μ2.1 1 2) → (w_X3_readNumber_28 a1 a2 r1 (nI 0) (nI 0) μ3 Q))) ∧ (¬ (μ.1 1 4) = 0 → Q a1 μ))
abbrev rm_X3_readNumber : Room := { frames := 2, cells := 0, slots := 0, locals := 41 }
/-- X3_readEnd -/
def w_X3_readEnd (μ : Mem) (Q : Mem → Prop) : Prop :=
  (((μ.1 1 4) = 0 → w_X3_nextLetter  μ (fun r1 μ2 => ((¬ r1 = (nI 59) → w_X3_fail (nI 1) (μ2.1 1 2) μ2 (fun μ4 => Q μ4)) ∧ (r1 = (nI 59) → ∀ μ5 : Mem, μ5 = sI μ2 1 2 ((μ2.1 1 2) + (nI 1)) → Q μ5)))) ∧ (¬ (μ.1 1 4) = 0 → Q μ))
abbrev rm_X3_readEnd : Room := { frames := 2, cells := 0, slots := 0, locals := 41 }
/-- X3_readCells -/
def w_X3_readCells (b1 : Nat) (μ : Mem) (Q : Mem → Prop) : Prop :=
  w_X3_readNumber (nI 1) (nI 12) μ (fun r1 μ2 => w_X3_readNumber (nI 0) (nI 20) μ2 (fun r3 μ4 => w_X3_readEnd  μ4 (fun μ6 => ∀ μ7 : Mem, μ7 = sI μ6 b1 0 r1 → ∀ μ8 : Mem, μ8 = sI μ7 b1 1 r3 → Q μ8)))
abbrev rm_X3_readCells : Room := { frames := 3, cells := 0, slots := 0, locals := 66 }
/-- X3_readHour -/
def w_X3_readHour (b1 : Nat) (μ : Mem) (Q : Mem → Prop) : Prop :=
  w_X3_readNumber (nI 0) (nI 1) μ (fun r1 μ2 => w_X3_readNumber (nI 0) (nI 40) μ2 (fun r3 μ4 => w_X3_readEnd  μ4 (fun μ6 => w_X6_put (b1 + 1) (μ6.1 b1 2) r1 μ6 (fun μ8 => w_X6_put (b1 + 2) (μ8.1 b1 2) r3 μ8 (fun μ10 => ∀ μ11 : Mem, μ11 = sI μ10 b1 2 ((μ10.1 b1 2) + (nI 1)) → Q μ11)))))
abbrev rm_X3_readHour : Room := { frames := 3, cells := 0, slots := 0, locals := 66 }
/-- X3_readPost -/
def w_X3_readPost_29 (b1 : Nat) (v2 : Int32) (μ : Mem) (Q : Mem → Prop) : Prop :=
  w_X3_readNumber (nI 0) (nI 9) μ (fun r7 μ8 => w_X3_readNumber (nI 1) (nI 99) μ8 (fun r9 μ10 => w_X3_readNumber (nI 0) (nI 1) μ10 (fun r11 μ12 => w_X3_readEnd  μ12 (fun μ14 => w_X6_put (b1 + 3) (μ14.1 b1 3) v2 μ14 (fun μ16 => w_X6_put (b1 + 4) (μ16.1 b1 3) r7 μ16 (fun μ18 => w_X6_put (b1 + 5) (μ18.1 b1 3) r9 μ18 (fun μ20 => w_X6_put (b1 + 6) (μ20.1 b1 3) r11 μ20 (fun μ22 => ∀ μ23 : Mem, μ23 = sI μ22 b1 3 ((μ22.1 b1 3) + (nI 1)) → Q μ23))))))))
def w_X3_readPost (b1 : Nat) (μ : Mem) (Q : Mem → Prop) : Prop :=
  w_X3_readNumber (nI 0) ((μ.1 b1 0) - (nI 1)) μ (fun r1 μ2 => w_X0_hasPostIn b1 r1 μ2 (fun r3 => ((r3 = 0 → (w_X3_readPost_29 b1 r1 μ2 Q)) ∧ (¬ r3 = 0 → w_X3_fail (nI 4) (μ2.1 1 3) μ2 (fun μ6 => (w_X3_readPost_29 b1 r1 μ6 Q))))))
abbrev rm_X3_readPost : Room := { frames := 3, cells := 0, slots := 0, locals := 66 }
/-- X3_readPair -/
def w_X3_readPair (b1 : Nat) (a2 : Int32) (μ : Mem) (Q : Mem → Prop) : Prop :=
  w_X3_readNumber (nI 0) a2 μ (fun r1 μ2 => w_X6_put b1 (nI 0) r1 μ2 (fun μ4 => w_X3_readNumber (nI 0) a2 μ4 (fun r5 μ6 => w_X6_put b1 (nI 1) r5 μ6 (fun μ8 => w_X3_readEnd  μ8 (fun μ10 => Q μ10)))))
abbrev rm_X3_readPair : Room := { frames := 3, cells := 0, slots := 0, locals := 66 }
/-- X3_readGoat -/
def w_X3_readGoat (b1 : Nat) (μ : Mem) (Q : Mem → Prop) : Prop :=
  w_X3_readNumber (nI 0) ((μ.1 b1 0) - (nI 1)) μ (fun r1 μ2 => w_X3_readNumber (nI 1) (nI 20) μ2 (fun r3 μ4 => w_X3_readEnd  μ4 (fun μ6 => w_X6_put (b1 + 9) (μ6.1 b1 4) r1 μ6 (fun μ8 => w_X6_put (b1 + 10) (μ8.1 b1 4) r3 μ8 (fun μ10 => ∀ μ11 : Mem, μ11 = sI μ10 b1 4 ((μ10.1 b1 4) + (nI 1)) → Q μ11)))))
abbrev rm_X3_readGoat : Room := { frames := 3, cells := 0, slots := 0, locals := 66 }
/-- X3_readClause -/
def w_X3_readClause (b1 : Nat) (a2 : Int32) (μ : Mem) (Q : Mem → Prop) : Prop :=
  w_X3_faultOfWord b1 a2 μ (fun r1 => ((r1 = 0 → ∀ μ3 : Mem, μ3 = sI μ 1 2 ((μ.1 1 2) + (nI 1)) → ((a2 = (nI 100) → w_X3_readPair (b1 + 7) (nI 127) μ3 (fun μ5 => ∀ μ6 : Mem, μ6 = sI μ5 1 6 (nI 1) → Q μ6)) ∧ (¬ a2 = (nI 100) → ((a2 = (nI 102) → w_X3_readCells b1 μ3 (fun μ8 => Q μ8)) ∧ (¬ a2 = (nI 102) → ((a2 = (nI 104) → w_X3_readHour b1 μ3 (fun μ10 => Q μ10)) ∧ (¬ a2 = (nI 104) → ((a2 = (nI 112) → w_X3_readPost b1 μ3 (fun μ12 => Q μ12)) ∧ (¬ a2 = (nI 112) → ((a2 = (nI 117) → w_X3_readPair (b1 + 8) (nI 99) μ3 (fun μ14 => ∀ μ15 : Mem, μ15 = sI μ14 1 7 (nI 1) → Q μ15)) ∧ (¬ a2 = (nI 117) → w_X3_readGoat b1 μ3 (fun μ17 => Q μ17)))))))))))) ∧ (¬ r1 = 0 → w_X3_fail r1 (μ.1 1 2) μ (fun μ19 => Q μ19))))
abbrev rm_X3_readClause : Room := { frames := 4, cells := 0, slots := 0, locals := 91 }
/-- X3_readAll -/
def w_X3_readAll_70 (b1 : Nat) (μ : Mem) (Q : Int32 → Mem → Prop) : Prop :=
  ∀ μ13 : Mem, μ13 = sI μ 1 1 (nI 0) → Q (μ13.1 1 4) μ13
def w_X3_readAll_55 (b1 : Nat) (μ : Mem) (Q : Int32 → Mem → Prop) : Prop :=
  (w_X3_readAll_70 b1 μ Q)
def s_X3_readAll_31 (b1 : Nat) (X31 : Int32 → Mem → Prop) (v2 : Int32) (μ : Mem) (Q : Int32 → Mem → Prop) : Prop :=
  (((nI 240) ≤ v2 → (w_X3_readAll_70 b1 μ Q)) ∧ (¬ (nI 240) ≤ v2 → ((¬ (μ.1 1 4) = 0 → (w_X3_readAll_70 b1 μ Q)) ∧ ((μ.1 1 4) = 0 → w_X3_nextLetter  μ (fun r8 μ9 => ((¬ r8 = ((-1) : Int32) → w_X3_readClause b1 r8 μ9 (fun μ11 => ∀ x12 : Int32, x12 = v2 + (nI 1) → (X31 x12 μ11))) ∧ (r8 = ((-1) : Int32) → (w_X3_readAll_55 b1 μ9 Q))))))))
def w_X3_readAll_31 (b1 : Nat) (v2 : Int32) (μ : Mem) (Q : Int32 → Mem → Prop) : Prop :=
  ∀ X31 : Int32 → Mem → Prop, (∀ (v2 : Int32) (μ : Mem), s_X3_readAll_31 b1 X31 v2 μ Q → X31 v2 μ) → X31 v2 μ
def w_X3_readAll (b1 : Nat) (μ : Mem) (Q : Int32 → Mem → Prop) : Prop :=
  w_X0_wipe b1 μ (fun μ2 => ∀ μ3 : Mem, μ3 = sI μ2 1 2 (nI 0) → ∀ μ4 : Mem, μ4 = sI μ3 1 4 (nI 0) → ∀ μ5 : Mem, μ5 = sI μ4 1 5 ((-1) : Int32) → ∀ μ6 : Mem, μ6 = sI μ5 1 6 (nI 0) → ∀ μ7 : Mem, μ7 = sI μ6 1 7 (nI 0) → (w_X3_readAll_31 b1 (nI 0) μ7 Q))
abbrev rm_X3_readAll : Room := { frames := 5, cells := 0, slots := 0, locals := 114 }
/-- X4_begin -/
def s_X4_begin_72 (b0 : Nat) (b1 : Nat) (X72 : Int32 → Mem → Prop) (v2 : Int32) (μ : Mem) (Q : Mem → Prop) : Prop :=
  (((nI 2) ≤ v2 → Q μ) ∧ (¬ (nI 2) ≤ v2 → (vp_in v2 2 ∧ ∀ μ10 : Mem, μ10 = sI μ (b0 + 4) (v2).toNatClampNeg (nI 0) → (vp_in v2 2 ∧ ∀ μ11 : Mem, μ11 = sI μ10 (b0 + 5) (v2).toNatClampNeg (nI 0) → ∀ x12 : Int32, x12 = v2 + (nI 1) → (X72 x12 μ11)))))
def w_X4_begin_72 (b0 : Nat) (b1 : Nat) (v2 : Int32) (μ : Mem) (Q : Mem → Prop) : Prop :=
  ∀ X72 : Int32 → Mem → Prop, (∀ (v2 : Int32) (μ : Mem), s_X4_begin_72 b0 b1 X72 v2 μ Q → X72 v2 μ) → X72 v2 μ
def w_X4_begin_70 (b0 : Nat) (b1 : Nat) (μ : Mem) (Q : Mem → Prop) : Prop :=
  (w_X4_begin_72 b0 b1 (nI 0) μ Q)
def s_X4_begin_27 (b0 : Nat) (b1 : Nat) (X27 : Int32 → Mem → Prop) (v2 : Int32) (μ : Mem) (Q : Mem → Prop) : Prop :=
  (((nI 6) ≤ v2 → (w_X4_begin_70 b0 b1 μ Q)) ∧ (¬ (nI 6) ≤ v2 → (vp_in v2 6 ∧ (vp_in v2 6 ∧ ∀ μ6 : Mem, μ6 = sI μ (b0 + 1) (v2).toNatClampNeg (μ.1 (b1 + 3) (v2).toNatClampNeg) → (vp_in v2 6 ∧ (vp_in v2 6 ∧ ∀ μ7 : Mem, μ7 = sI μ6 (b0 + 2) (v2).toNatClampNeg (μ6.1 (b1 + 4) (v2).toNatClampNeg) → (vp_in v2 6 ∧ ∀ μ8 : Mem, μ8 = sI μ7 (b0 + 3) (v2).toNatClampNeg (nI 0) → ∀ x9 : Int32, x9 = v2 + (nI 1) → (X27 x9 μ8))))))))
def w_X4_begin_27 (b0 : Nat) (b1 : Nat) (v2 : Int32) (μ : Mem) (Q : Mem → Prop) : Prop :=
  ∀ X27 : Int32 → Mem → Prop, (∀ (v2 : Int32) (μ : Mem), s_X4_begin_27 b0 b1 X27 v2 μ Q → X27 v2 μ) → X27 v2 μ
def w_X4_begin (b0 : Nat) (b1 : Nat) (μ : Mem) (Q : Mem → Prop) : Prop :=
  ∀ μ1 : Mem, μ1 = sI μ b0 0 (nI 0) → ∀ μ2 : Mem, μ2 = sI μ1 b0 1 (nI 0) → ∀ μ3 : Mem, μ3 = sI μ2 b0 2 (nI 0) → ∀ μ4 : Mem, μ4 = sI μ3 b0 3 (nI 0) → ∀ μ5 : Mem, μ5 = sI μ4 b0 4 (nI 0) → (w_X4_begin_27 b0 b1 (nI 0) μ5 Q)
abbrev rm_X4_begin : Room := { frames := 0, cells := 0, slots := 0, locals := 0 }
/-- X4_hanging -/
def w_X4_hanging_29 (b0 : Nat) (b1 : Nat) (X4 : Int32 → Int32 → Prop) (v2 : Int32) (v3 : Int32) (μ : Mem) (Q : Int32 → Prop) : Prop :=
  ∀ x6 : Int32, x6 = v3 + (nI 1) → (X4 v2 x6)
def s_X4_hanging_4 (b0 : Nat) (b1 : Nat) (μ : Mem) (X4 : Int32 → Int32 → Prop) (v2 : Int32) (v3 : Int32) (Q : Int32 → Prop) : Prop :=
  (((nI 2) ≤ v3 → Q v2) ∧ (¬ (nI 2) ≤ v3 → w_X0_hangsOn b1 v3 (μ.1 b0 0) μ (fun r1 => ((r1 = 0 → (w_X4_hanging_29 b0 b1 X4 v2 v3 μ Q)) ∧ (¬ r1 = 0 → w_X0_postsOf b1 v3 μ (fun r3 => ∀ x5 : Int32, x5 = (v2 ||| r3) → (w_X4_hanging_29 b0 b1 X4 x5 v3 μ Q)))))))
def w_X4_hanging_4 (b0 : Nat) (b1 : Nat) (v2 : Int32) (v3 : Int32) (μ : Mem) (Q : Int32 → Prop) : Prop :=
  ∀ X4 : Int32 → Int32 → Prop, (∀ (v2 : Int32) (v3 : Int32), s_X4_hanging_4 b0 b1 μ X4 v2 v3 Q → X4 v2 v3) → X4 v2 v3
def w_X4_hanging (b0 : Nat) (b1 : Nat) (μ : Mem) (Q : Int32 → Prop) : Prop :=
  (w_X4_hanging_4 b0 b1 (nI 0) (nI 0) μ Q)
abbrev rm_X4_hanging : Room := { frames := 2, cells := 0, slots := 0, locals := 43 }
/-- X4_postIn -/
def s_X4_postIn_2 (b0 : Nat) (a1 : Int32) (μ : Mem) (X2 : Int32 → Prop) (v2 : Int32) (Q : Int32 → Prop) : Prop :=
  (((nI 6) ≤ v2 → Q ((-1) : Int32)) ∧ (¬ (nI 6) ≤ v2 → (vp_in v2 6 ∧ ((¬ (μ.1 (b0 + 1) (v2).toNatClampNeg) = a1 → ∀ x1 : Int32, x1 = v2 + (nI 1) → (X2 x1)) ∧ ((μ.1 (b0 + 1) (v2).toNatClampNeg) = a1 → Q v2)))))
def w_X4_postIn_2 (b0 : Nat) (a1 : Int32) (v2 : Int32) (μ : Mem) (Q : Int32 → Prop) : Prop :=
  ∀ X2 : Int32 → Prop, (∀ (v2 : Int32), s_X4_postIn_2 b0 a1 μ X2 v2 Q → X2 v2) → X2 v2
def w_X4_postIn (b0 : Nat) (a1 : Int32) (μ : Mem) (Q : Int32 → Prop) : Prop :=
  (w_X4_postIn_2 b0 a1 (nI 0) μ Q)
abbrev rm_X4_postIn : Room := { frames := 0, cells := 0, slots := 0, locals := 0 }
/-- X4_inJars -/
def s_X4_inJars_4 (b0 : Nat) (μ : Mem) (X4 : Int32 → Int32 → Prop) (v1 : Int32) (v2 : Int32) (Q : Int32 → Prop) : Prop :=
  (((nI 6) ≤ v2 → Q v1) ∧ (¬ (nI 6) ≤ v2 → (vp_in v2 6 ∧ ∀ x1 : Int32, x1 = (v1 + (μ.1 (b0 + 3) (v2).toNatClampNeg)) → ∀ x2 : Int32, x2 = v2 + (nI 1) → (X4 x1 x2))))
def w_X4_inJars_4 (b0 : Nat) (v1 : Int32) (v2 : Int32) (μ : Mem) (Q : Int32 → Prop) : Prop :=
  ∀ X4 : Int32 → Int32 → Prop, (∀ (v1 : Int32) (v2 : Int32), s_X4_inJars_4 b0 μ X4 v1 v2 Q → X4 v1 v2) → X4 v1 v2
def w_X4_inJars (b0 : Nat) (μ : Mem) (Q : Int32 → Prop) : Prop :=
  (w_X4_inJars_4 b0 (nI 0) (nI 0) μ Q)
abbrev rm_X4_inJars : Room := { frames := 0, cells := 0, slots := 0, locals := 0 }
/-- X4_lampedFog -/
def w_X4_lampedFog (b0 : Nat) (b1 : Nat) (a2 : Int32) (μ : Mem) (Q : Int32 → Prop) : Prop :=
  (((μ.1 b0 2) = 0 → Q a2) ∧ (¬ (μ.1 b0 2) = 0 → ∀ x1 : Int32, x1 = (if (a2 - (μ.1 b1 1)) < (nI 0) then (nI 0) else (a2 - (μ.1 b1 1))) → Q x1))
abbrev rm_X4_lampedFog : Room := { frames := 1, cells := 0, slots := 0, locals := 24 }
/-- X5_lineUp -/
def w_X5_lineUp_87 (b1 : Nat) (a2 : Int32) (a3 : Int32) (a4 : Int32) (X27 : Int32 → Mem → Prop) (v5 : Int32) (μ : Mem) (Q : Mem → Prop) : Prop :=
  ∀ x6 : Int32, x6 = v5 + (nI 1) → (X27 x6 μ)
def w_X5_lineUp_82 (b1 : Nat) (a2 : Int32) (a3 : Int32) (a4 : Int32) (X27 : Int32 → Mem → Prop) (v5 : Int32) (s2 : Int32) (μ : Mem) (Q : Mem → Prop) : Prop :=
  w_X6_put 40 s2 v5 μ (fun μ5 => (w_X5_lineUp_87 b1 a2 a3 a4 X27 v5 μ5 Q))
def s_X5_lineUp_27 (b1 : Nat) (a2 : Int32) (a3 : Int32) (a4 : Int32) (X27 : Int32 → Mem → Prop) (v5 : Int32) (μ : Mem) (Q : Mem → Prop) : Prop :=
  (((nI 6) ≤ v5 → Q μ) ∧ (¬ (nI 6) ≤ v5 → (vp_in v5 6 ∧ ∀ μ3 : Mem, μ3 = sI μ 39 (v5).toNatClampNeg (nI 0) → ((¬ ((a3 >>> (v5 &&& 31)) &&& (nI 1)) = (nI 1) → (w_X5_lineUp_87 b1 a2 a3 a4 X27 v5 μ3 Q)) ∧ (((a3 >>> (v5 &&& 31)) &&& (nI 1)) = (nI 1) → ((¬ a4 = 0 → (vp_in v5 6 ∧ (w_X5_lineUp_82 b1 a2 a3 a4 X27 v5 ((a2 - (nI 1)) - (μ3.1 (b1 + 1) (v5).toNatClampNeg)) μ3 Q))) ∧ (a4 = 0 → (vp_in v5 6 ∧ (w_X5_lineUp_82 b1 a2 a3 a4 X27 v5 (μ3.1 (b1 + 1) (v5).toNatClampNeg) μ3 Q)))))))))
def w_X5_lineUp_27 (b1 : Nat) (a2 : Int32) (a3 : Int32) (a4 : Int32) (v5 : Int32) (μ : Mem) (Q : Mem → Prop) : Prop :=
  ∀ X27 : Int32 → Mem → Prop, (∀ (v5 : Int32) (μ : Mem), s_X5_lineUp_27 b1 a2 a3 a4 X27 v5 μ Q → X27 v5 μ) → X27 v5 μ
def w_X5_lineUp_24 (b1 : Nat) (a2 : Int32) (a3 : Int32) (a4 : Int32) (μ : Mem) (Q : Mem → Prop) : Prop :=
  (w_X5_lineUp_27 b1 a2 a3 a4 (nI 0) μ Q)
def s_X5_lineUp_3 (b1 : Nat) (a2 : Int32) (a3 : Int32) (a4 : Int32) (X3 : Int32 → Mem → Prop) (v5 : Int32) (μ : Mem) (Q : Mem → Prop) : Prop :=
  (((nI 12) ≤ v5 → (w_X5_lineUp_24 b1 a2 a3 a4 μ Q)) ∧ (¬ (nI 12) ≤ v5 → (vp_in v5 12 ∧ ∀ μ1 : Mem, μ1 = sI μ 40 (v5).toNatClampNeg ((-1) : Int32) → ∀ x2 : Int32, x2 = v5 + (nI 1) → (X3 x2 μ1))))
def w_X5_lineUp_3 (b1 : Nat) (a2 : Int32) (a3 : Int32) (a4 : Int32) (v5 : Int32) (μ : Mem) (Q : Mem → Prop) : Prop :=
  ∀ X3 : Int32 → Mem → Prop, (∀ (v5 : Int32) (μ : Mem), s_X5_lineUp_3 b1 a2 a3 a4 X3 v5 μ Q → X3 v5 μ) → X3 v5 μ
def w_X5_lineUp (b1 : Nat) (a2 : Int32) (a3 : Int32) (a4 : Int32) (μ : Mem) (Q : Mem → Prop) : Prop :=
  (w_X5_lineUp_3 b1 a2 a3 a4 (nI 0) μ Q)
abbrev rm_X5_lineUp : Room := { frames := 1, cells := 0, slots := 0, locals := 22 }
/-- X5_blow -/
def w_X5_blow_113 (b1 : Nat) (a2 : Int32) (a3 : Int32) (a4 : Int32) (a5 : Int32) (X18 : Int32 → Mem → Prop) (v6 : Int32) (μ : Mem) (Q : Mem → Prop) : Prop :=
  ∀ x7 : Int32, x7 = v6 + (nI 1) → (X18 x7 μ)
def w_X5_blow_78 (b1 : Nat) (a2 : Int32) (a3 : Int32) (a4 : Int32) (a5 : Int32) (X18 : Int32 → Mem → Prop) (v6 : Int32) (v7 : Int32) (s1 : Int32) (μ : Mem) (Q : Mem → Prop) : Prop :=
  (¬ (nI 10) = 0 ∧ (vp_in v7 6 ∧ ∀ μ5 : Mem, μ5 = sI μ 39 (v7).toNatClampNeg (((μ.1 38 2) * s1) / (nI 10)) → (vp_in v7 6 ∧ ∀ μ6 : Mem, μ6 = sI μ5 38 2 ((μ5.1 38 2) - (μ5.1 39 (v7).toNatClampNeg)) → (w_X5_blow_113 b1 a2 a3 a4 a5 X18 v6 μ6 Q))))
def s_X5_blow_18 (b1 : Nat) (a2 : Int32) (a3 : Int32) (a4 : Int32) (a5 : Int32) (X18 : Int32 → Mem → Prop) (v6 : Int32) (μ : Mem) (Q : Mem → Prop) : Prop :=
  (((nI 12) ≤ v6 → Q μ) ∧ (¬ (nI 12) ≤ v6 → (vp_in v6 12 ∧ ∀ x4 : Int32, x4 = (μ.1 40 (v6).toNatClampNeg) → ((x4 < 0 → (w_X5_blow_113 b1 a2 a3 a4 a5 X18 v6 μ Q)) ∧ (¬ x4 < 0 → ((x4 < (nI 6) → (((μ.1 38 2) < (nI 20) → (vp_in x4 6 ∧ (w_X5_blow_78 b1 a2 a3 a4 a5 X18 v6 x4 ((nI 9) - (μ.1 (b1 + 2) (x4).toNatClampNeg)) μ Q))) ∧ (¬ (μ.1 38 2) < (nI 20) → (vp_in x4 6 ∧ (w_X5_blow_78 b1 a2 a3 a4 a5 X18 v6 x4 (μ.1 (b1 + 2) (x4).toNatClampNeg) μ Q))))) ∧ (¬ x4 < (nI 6) → (w_X5_blow_113 b1 a2 a3 a4 a5 X18 v6 μ Q))))))))
def w_X5_blow_18 (b1 : Nat) (a2 : Int32) (a3 : Int32) (a4 : Int32) (a5 : Int32) (v6 : Int32) (μ : Mem) (Q : Mem → Prop) : Prop :=
  ∀ X18 : Int32 → Mem → Prop, (∀ (v6 : Int32) (μ : Mem), s_X5_blow_18 b1 a2 a3 a4 a5 X18 v6 μ Q → X18 v6 μ) → X18 v6 μ
def w_X5_blow (b1 : Nat) (a2 : Int32) (a3 : Int32) (a4 : Int32) (a5 : Int32) (μ : Mem) (Q : Mem → Prop) : Prop :=
  w_X5_lineUp b1 a2 a3 a4 μ (fun μ2 => ∀ μ3 : Mem, μ3 = sI μ2 38 2 a5 → (w_X5_blow_18 b1 a2 a3 a4 a5 (nI 0) μ3 Q))
abbrev rm_X5_blow : Room := { frames := 2, cells := 0, slots := 0, locals := 47 }
/-- X4_counted -/
def w_X4_counted (a0 : Int32) (μ : Mem) (Q : Int32 → Prop) : Prop :=
  ∀ x1 : Int32, x1 = (if (nI 999999) < a0 then (nI 999999) else a0) → Q x1
abbrev rm_X4_counted : Room := { frames := 1, cells := 0, slots := 0, locals := 24 }
/-- X4_emptyJarsOf -/
def w_X4_emptyJarsOf_50 (b0 : Nat) (b1 : Nat) (a2 : Int32) (v3 : Int32) (μ : Mem) (Q : Int32 → Mem → Prop) : Prop :=
  w_X6_at (b0 + 4) a2 μ (fun r4 => ∀ x6 : Int32, x6 = (if (nI 99999) < (r4 + v3) then (nI 99999) else (r4 + v3)) → w_X6_put (b0 + 4) a2 x6 μ (fun μ8 => Q v3 μ8))
def w_X4_emptyJarsOf_44 (b0 : Nat) (b1 : Nat) (a2 : Int32) (X5 : Int32 → Int32 → Mem → Prop) (v3 : Int32) (v4 : Int32) (μ : Mem) (Q : Int32 → Mem → Prop) : Prop :=
  ∀ x3 : Int32, x3 = v4 + (nI 1) → (X5 v3 x3 μ)
def s_X4_emptyJarsOf_5 (b0 : Nat) (b1 : Nat) (a2 : Int32) (X5 : Int32 → Int32 → Mem → Prop) (v3 : Int32) (v4 : Int32) (μ : Mem) (Q : Int32 → Mem → Prop) : Prop :=
  (((nI 6) ≤ v4 → (w_X4_emptyJarsOf_50 b0 b1 a2 v3 μ Q)) ∧ (¬ (nI 6) ≤ v4 → (vp_in v4 6 ∧ (((μ.1 (b1 + 6) (v4).toNatClampNeg) = a2 → (vp_in v4 6 ∧ ∀ x1 : Int32, x1 = (v3 + (μ.1 (b0 + 3) (v4).toNatClampNeg)) → (vp_in v4 6 ∧ ∀ μ2 : Mem, μ2 = sI μ (b0 + 3) (v4).toNatClampNeg (nI 0) → (w_X4_emptyJarsOf_44 b0 b1 a2 X5 x1 v4 μ2 Q)))) ∧ (¬ (μ.1 (b1 + 6) (v4).toNatClampNeg) = a2 → (w_X4_emptyJarsOf_44 b0 b1 a2 X5 v3 v4 μ Q))))))
def w_X4_emptyJarsOf_5 (b0 : Nat) (b1 : Nat) (a2 : Int32) (v3 : Int32) (v4 : Int32) (μ : Mem) (Q : Int32 → Mem → Prop) : Prop :=
  ∀ X5 : Int32 → Int32 → Mem → Prop, (∀ (v3 : Int32) (v4 : Int32) (μ : Mem), s_X4_emptyJarsOf_5 b0 b1 a2 X5 v3 v4 μ Q → X5 v3 v4 μ) → X5 v3 v4 μ
def w_X4_emptyJarsOf (b0 : Nat) (b1 : Nat) (a2 : Int32) (μ : Mem) (Q : Int32 → Mem → Prop) : Prop :=
  (w_X4_emptyJarsOf_5 b0 b1 a2 (nI 0) (nI 0) μ Q)
abbrev rm_X4_emptyJarsOf : Room := { frames := 1, cells := 0, slots := 0, locals := 24 }
/-- X4_loseFromJar -/
def w_X4_loseFromJar (b0 : Nat) (a1 : Int32) (a2 : Int32) (μ : Mem) (Q : Int32 → Mem → Prop) : Prop :=
  w_X6_at (b0 + 3) a1 μ (fun r1 => ∀ x3 : Int32, x3 = (if (r1 - a2) < (nI 0) then (nI 0) else (r1 - a2)) → w_X6_put (b0 + 3) a1 x3 μ (fun μ5 => w_X6_at (b0 + 3) a1 μ5 (fun r6 => Q r6 μ5)))
abbrev rm_X4_loseFromJar : Room := { frames := 1, cells := 0, slots := 0, locals := 24 }
/-- X4_endDay -/
def w_X4_endDay_159 (b0 : Nat) (b1 : Nat) (a2 : Int32) (μ : Mem) (Q : Mem → Prop) : Prop :=
  ∀ μ21 : Mem, μ21 = sI μ b0 0 ((μ.1 b0 0) + (nI 1)) → ∀ μ22 : Mem, μ22 = sI μ21 b0 1 (nI 0) → Q μ22
def s_X4_endDay_95 (b0 : Nat) (b1 : Nat) (a2 : Int32) (X95 : Int32 → Mem → Prop) (v3 : Int32) (μ : Mem) (Q : Mem → Prop) : Prop :=
  (((nI 2) ≤ v3 → (w_X4_endDay_159 b0 b1 a2 μ Q)) ∧ (¬ (nI 2) ≤ v3 → (vp_in v3 2 ∧ (vp_in v3 2 ∧ ∀ x15 : Int32, x15 = (if (μ.1 (b0 + 4) (v3).toNatClampNeg) < (μ.1 (b1 + 8) (v3).toNatClampNeg) then (μ.1 (b0 + 4) (v3).toNatClampNeg) else (μ.1 (b1 + 8) (v3).toNatClampNeg)) → (vp_in v3 2 ∧ (vp_in v3 2 ∧ ∀ μ16 : Mem, μ16 = sI μ (b0 + 4) (v3).toNatClampNeg ((μ.1 (b0 + 4) (v3).toNatClampNeg) - x15) → (vp_in v3 2 ∧ (vp_in v3 2 ∧ w_X4_counted (((μ16.1 (b0 + 5) (v3).toNatClampNeg) + (μ16.1 (b1 + 8) (v3).toNatClampNeg)) - x15) μ16 (fun r17 => (vp_in v3 2 ∧ ∀ μ19 : Mem, μ19 = sI μ16 (b0 + 5) (v3).toNatClampNeg r17 → ∀ x20 : Int32, x20 = v3 + (nI 1) → (X95 x20 μ19)))))))))))
def w_X4_endDay_95 (b0 : Nat) (b1 : Nat) (a2 : Int32) (v3 : Int32) (μ : Mem) (Q : Mem → Prop) : Prop :=
  ∀ X95 : Int32 → Mem → Prop, (∀ (v3 : Int32) (μ : Mem), s_X4_endDay_95 b0 b1 a2 X95 v3 μ Q → X95 v3 μ) → X95 v3 μ
def w_X4_endDay_93 (b0 : Nat) (b1 : Nat) (a2 : Int32) (μ : Mem) (Q : Mem → Prop) : Prop :=
  (w_X4_endDay_95 b0 b1 a2 (nI 0) μ Q)
def s_X4_endDay_20 (b0 : Nat) (b1 : Nat) (a2 : Int32) (X20 : Int32 → Mem → Prop) (v3 : Int32) (μ : Mem) (Q : Mem → Prop) : Prop :=
  (((μ.1 b1 4) ≤ v3 → (w_X4_endDay_93 b0 b1 a2 μ Q)) ∧ (¬ (μ.1 b1 4) ≤ v3 → (((nI 4) ≤ v3 → (w_X4_endDay_93 b0 b1 a2 μ Q)) ∧ (¬ (nI 4) ≤ v3 → (vp_in v3 4 ∧ w_X4_postIn b0 (μ.1 (b1 + 9) (v3).toNatClampNeg) μ (fun r5 => w_X6_at (b0 + 3) r5 μ (fun r7 => (vp_in v3 4 ∧ w_X4_loseFromJar b0 r5 (μ.1 (b1 + 10) (v3).toNatClampNeg) μ (fun r9 μ10 => w_X4_counted (((μ10.1 b0 4) + r7) - r9) μ10 (fun r11 => ∀ μ13 : Mem, μ13 = sI μ10 b0 4 r11 → ∀ x14 : Int32, x14 = v3 + (nI 1) → (X20 x14 μ13)))))))))))
def w_X4_endDay_20 (b0 : Nat) (b1 : Nat) (a2 : Int32) (v3 : Int32) (μ : Mem) (Q : Mem → Prop) : Prop :=
  ∀ X20 : Int32 → Mem → Prop, (∀ (v3 : Int32) (μ : Mem), s_X4_endDay_20 b0 b1 a2 X20 v3 μ Q → X20 v3 μ) → X20 v3 μ
def w_X4_endDay_18 (b0 : Nat) (b1 : Nat) (a2 : Int32) (μ : Mem) (Q : Mem → Prop) : Prop :=
  (w_X4_endDay_20 b0 b1 a2 (nI 0) μ Q)
def w_X4_endDay (b0 : Nat) (b1 : Nat) (a2 : Int32) (μ : Mem) (Q : Mem → Prop) : Prop :=
  ((a2 = 0 → (w_X4_endDay_18 b0 b1 a2 μ Q)) ∧ (¬ a2 = 0 → w_X4_emptyJarsOf b0 b1 (nI 0) μ (fun r1 μ2 => w_X4_emptyJarsOf b0 b1 (nI 1) μ2 (fun r3 μ4 => (w_X4_endDay_18 b0 b1 a2 μ4 Q)))))
abbrev rm_X4_endDay : Room := { frames := 2, cells := 0, slots := 0, locals := 48 }
/-- X4_passHour -/
def w_X4_passHour_117 (b0 : Nat) (b1 : Nat) (a3 : Int32) (a4 : Int32) (a5 : Int32) (v6 : Int32) (μ : Mem) (Q : Int32 → Mem → Prop) : Prop :=
  ∀ μ15 : Mem, μ15 = sI μ b0 1 ((μ.1 b0 1) + (nI 1)) → w_X0_hoursOfDay b1 μ15 (fun r16 => (((μ15.1 b0 1) < r16 → Q v6 μ15) ∧ (¬ (μ15.1 b0 1) < r16 → w_X4_endDay b0 b1 a5 μ15 (fun μ19 => Q v6 μ19))))
def s_X4_passHour_28 (b0 : Nat) (b1 : Nat) (a3 : Int32) (a4 : Int32) (a5 : Int32) (X28 : Int32 → Int32 → Mem → Prop) (v6 : Int32) (v7 : Int32) (μ : Mem) (Q : Int32 → Mem → Prop) : Prop :=
  (((nI 6) ≤ v7 → (w_X4_passHour_117 b0 b1 a3 a4 a5 v6 μ Q)) ∧ (¬ (nI 6) ≤ v7 → (vp_in v7 6 ∧ (vp_in v7 6 ∧ (vp_in v7 6 ∧ ∀ μ7 : Mem, μ7 = sI μ (b0 + 3) (v7).toNatClampNeg ((μ.1 (b0 + 3) (v7).toNatClampNeg) + (μ.1 39 (v7).toNatClampNeg)) → (vp_in v7 6 ∧ (vp_in v7 6 ∧ ∀ x8 : Int32, x8 = (if ((μ7.1 (b0 + 3) (v7).toNatClampNeg) - (μ7.1 (b1 + 5) (v7).toNatClampNeg)) < (nI 0) then (nI 0) else ((μ7.1 (b0 + 3) (v7).toNatClampNeg) - (μ7.1 (b1 + 5) (v7).toNatClampNeg))) → (vp_in v7 6 ∧ (vp_in v7 6 ∧ ∀ μ9 : Mem, μ9 = sI μ7 (b0 + 3) (v7).toNatClampNeg ((μ7.1 (b0 + 3) (v7).toNatClampNeg) - x8) → w_X4_counted ((μ9.1 b0 3) + x8) μ9 (fun r10 => ∀ μ12 : Mem, μ12 = sI μ9 b0 3 r10 → (vp_in v7 6 ∧ ∀ x13 : Int32, x13 = (v6 + (μ12.1 39 (v7).toNatClampNeg)) → ∀ x14 : Int32, x14 = v7 + (nI 1) → (X28 x13 x14 μ12))))))))))))
def w_X4_passHour_28 (b0 : Nat) (b1 : Nat) (a3 : Int32) (a4 : Int32) (a5 : Int32) (v6 : Int32) (v7 : Int32) (μ : Mem) (Q : Int32 → Mem → Prop) : Prop :=
  ∀ X28 : Int32 → Int32 → Mem → Prop, (∀ (v6 : Int32) (v7 : Int32) (μ : Mem), s_X4_passHour_28 b0 b1 a3 a4 a5 X28 v6 v7 μ Q → X28 v6 v7 μ) → X28 v6 v7 μ
def w_X4_passHour (b0 : Nat) (b1 : Nat) (a3 : Int32) (a4 : Int32) (a5 : Int32) (μ : Mem) (Q : Int32 → Mem → Prop) : Prop :=
  w_X4_hanging b0 b1 μ (fun r1 => w_X4_lampedFog b0 b1 a4 μ (fun r3 => w_X5_blow b0 (μ.1 b1 0) r1 a3 r3 μ (fun μ6 => (w_X4_passHour_28 b0 b1 a3 a4 a5 (nI 0) (nI 0) μ6 Q))))
abbrev rm_X4_passHour : Room := { frames := 3, cells := 0, slots := 0, locals := 75 }
/-- X5_takerOf -/
def w_X5_takerOf_47 (a1 : Int32) (X4 : Int32 → Int32 → Prop) (v2 : Int32) (v3 : Int32) (μ : Mem) (Q : Int32 → Prop) : Prop :=
  ∀ x5 : Int32, x5 = v3 + (nI 1) → (X4 v2 x5)
def s_X5_takerOf_4 (a1 : Int32) (μ : Mem) (X4 : Int32 → Int32 → Prop) (v2 : Int32) (v3 : Int32) (Q : Int32 → Prop) : Prop :=
  (((nI 12) ≤ v3 → Q ((-1) : Int32)) ∧ (¬ (nI 12) ≤ v3 → (vp_in v3 12 ∧ ∀ x1 : Int32, x1 = (μ.1 40 (v3).toNatClampNeg) → ((¬ x1 = ((-1) : Int32) → w_X6_at 39 x1 μ (fun r2 => ∀ x4 : Int32, x4 = (v2 + r2) → ((x4 ≤ a1 → (w_X5_takerOf_47 a1 X4 x4 v3 μ Q)) ∧ (¬ x4 ≤ a1 → Q x1)))) ∧ (x1 = ((-1) : Int32) → (w_X5_takerOf_47 a1 X4 v2 v3 μ Q))))))
def w_X5_takerOf_4 (a1 : Int32) (v2 : Int32) (v3 : Int32) (μ : Mem) (Q : Int32 → Prop) : Prop :=
  ∀ X4 : Int32 → Int32 → Prop, (∀ (v2 : Int32) (v3 : Int32), s_X5_takerOf_4 a1 μ X4 v2 v3 Q → X4 v2 v3) → X4 v2 v3
def w_X5_takerOf (a1 : Int32) (μ : Mem) (Q : Int32 → Prop) : Prop :=
  (w_X5_takerOf_4 a1 (nI 0) (nI 0) μ Q)
abbrev rm_X5_takerOf : Room := { frames := 1, cells := 0, slots := 0, locals := 21 }
/-- X6_feed -/
def w_X6_feed (a1 : Int32) (μ : Mem) (Q : Int32 → Mem → Prop) : Prop :=
  w_X6_within a1 (nI 0) (nI 255) μ (fun r1 => ((¬ r1 = 0 → (((μ.1 1 1) < (nI 240) → w_X3_append a1 μ (fun r3 μ4 => Q r3 μ4)) ∧ (¬ (μ.1 1 1) < (nI 240) → Q ((-1000000004) : Int32) μ))) ∧ (r1 = 0 → Q ((-1000000002) : Int32) μ)))
abbrev rm_X6_feed : Room := { frames := 2, cells := 0, slots := 0, locals := 43 }
/-- X6_coast -/
def w_X6_coast (μ : Mem) (Q : Int32 → Mem → Prop) : Prop :=
  w_X3_readAll (μ.2.2 1) μ (fun r2 μ3 => ((r2 = 0 → ∀ μ6 : Mem, μ6 = sR μ3 0 (μ3.2.2 1) → ∀ μ7 : Mem, μ7 = sR μ6 1 (μ3.2.2 0) → w_X4_begin 25 (μ7.2.2 0) μ7 (fun μ10 => ∀ μ11 : Mem, μ11 = sI μ10 41 2 (nI 0) → (vp_in (nI 0) 2 ∧ ∀ μ12 : Mem, μ12 = sI μ11 236 ((nI 0)).toNatClampNeg ((-1) : Int32) → (vp_in (nI 1) 2 ∧ ∀ μ13 : Mem, μ13 = sI μ12 236 ((nI 1)).toNatClampNeg ((-1) : Int32) → ∀ μ14 : Mem, μ14 = sI μ13 237 3 (nI 0) → ∀ μ15 : Mem, μ15 = sI μ14 241 3 (nI 0) → Q (μ15.1 (μ15.2.2 0) 3) μ15)))) ∧ (¬ r2 = 0 → Q (((-10) : Int32) - r2) μ3)))
abbrev rm_X6_coast : Room := { frames := 6, cells := 0, slots := 0, locals := 137 }
/-- X6_fault -/
def w_X6_fault (μ : Mem) (Q : Int32 → Prop) : Prop :=
  Q (μ.1 1 5)
abbrev rm_X6_fault : Room := { frames := 0, cells := 0, slots := 0, locals := 0 }
/-- X6_told -/
def w_X6_told (a1 : Int32) (μ : Mem) (Q : Int32 → Prop) : Prop :=
  ((a1 = (nI 0) → Q (μ.1 (μ.2.2 0) 0)) ∧ (¬ a1 = (nI 0) → ((a1 = (nI 1) → Q (μ.1 (μ.2.2 0) 1)) ∧ (¬ a1 = (nI 1) → ((a1 = (nI 2) → w_X0_hoursOfDay (μ.2.2 0) μ (fun r4 => Q r4)) ∧ (¬ a1 = (nI 2) → ((a1 = (nI 3) → Q (μ.1 (μ.2.2 0) 3)) ∧ (¬ a1 = (nI 3) → ((a1 = (nI 4) → Q (μ.1 (μ.2.2 0) 4)) ∧ (¬ a1 = (nI 4) → ((a1 = (nI 5) → Q (μ.1 1 1)) ∧ (¬ a1 = (nI 5) → ((a1 = (nI 6) → Q (μ.1 25 0)) ∧ (¬ a1 = (nI 6) → ((a1 = (nI 7) → Q (μ.1 25 1)) ∧ (¬ a1 = (nI 7) → ((a1 = (nI 8) → (((μ.1 25 2) = 0 → Q (nI 0)) ∧ (¬ (μ.1 25 2) = 0 → Q (nI 1)))) ∧ (¬ a1 = (nI 8) → ((a1 = (nI 9) → w_X4_hanging 25 (μ.2.2 0) μ (fun r9 => Q r9)) ∧ (¬ a1 = (nI 9) → ((a1 = (nI 10) → w_X4_inJars 25 μ (fun r11 => Q r11)) ∧ (¬ a1 = (nI 10) → ((a1 = (nI 11) → Q (μ.1 25 3)) ∧ (¬ a1 = (nI 11) → ((a1 = (nI 12) → Q (μ.1 25 4)) ∧ (¬ a1 = (nI 12) → ((a1 = (nI 13) → Q (μ.1 237 3)) ∧ (¬ a1 = (nI 13) → ((a1 = (nI 14) → Q (μ.1 241 3)) ∧ (¬ a1 = (nI 14) → ((a1 = (nI 15) → Q (μ.1 41 2)) ∧ (¬ a1 = (nI 15) → Q ((-1000000002) : Int32)))))))))))))))))))))))))))))))))
abbrev rm_X6_told : Room := { frames := 3, cells := 0, slots := 0, locals := 66 }
/-- X6_isPost -/
def w_X6_isPost (a1 : Int32) (μ : Mem) (Q : Int32 → Prop) : Prop :=
  w_X6_within a1 (nI 0) ((μ.1 (μ.2.2 0) 3) - (nI 1)) μ (fun r2 => ((r2 = 0 ∨ r2 = 1) ∧ Q r2))
abbrev rm_X6_isPost : Room := { frames := 1, cells := 0, slots := 0, locals := 22 }
/-- X6_post -/
def w_X6_post (a1 : Int32) (a2 : Int32) (μ : Mem) (Q : Int32 → Prop) : Prop :=
  w_X6_isPost a1 μ (fun r1 => ((¬ r1 = 0 → ((a2 = (nI 0) → w_X6_at (25 + 1) a1 μ (fun r3 => Q r3)) ∧ (¬ a2 = (nI 0) → ((a2 = (nI 1) → w_X6_at (25 + 2) a1 μ (fun r5 => Q r5)) ∧ (¬ a2 = (nI 1) → ((a2 = (nI 2) → w_X6_at ((μ.2.2 0) + 5) a1 μ (fun r8 => Q r8)) ∧ (¬ a2 = (nI 2) → ((a2 = (nI 3) → w_X6_at ((μ.2.2 0) + 6) a1 μ (fun r11 => Q r11)) ∧ (¬ a2 = (nI 3) → ((a2 = (nI 4) → w_X6_at (25 + 3) a1 μ (fun r13 => Q r13)) ∧ (¬ a2 = (nI 4) → Q ((-1000000002) : Int32)))))))))))) ∧ (r1 = 0 → Q ((-1000000001) : Int32))))
abbrev rm_X6_post : Room := { frames := 2, cells := 0, slots := 0, locals := 43 }
/-- X6_isBare -/
def w_X6_isBare (μ : Mem) (Q : Int32 → Prop) : Prop :=
  ((¬ (μ.1 (μ.2.2 0) 0) = 0 → Q (nI 0)) ∧ ((μ.1 (μ.2.2 0) 0) = 0 → Q (nI 1)))
abbrev rm_X6_isBare : Room := { frames := 0, cells := 0, slots := 0, locals := 0 }
/-- X6_fog -/
def w_X6_fog_68 (a1 : Int32) (a2 : Int32) (s1 : Int32) (μ : Mem) (Q : Int32 → Prop) : Prop :=
  ((¬ a2 = 0 → w_X0_fogAt (μ.2.2 0) s1 μ (fun r9 => Q r9)) ∧ (a2 = 0 → w_X0_sideAt (μ.2.2 0) s1 μ (fun r12 => Q r12)))
def w_X6_fog_52 (a1 : Int32) (a2 : Int32) (μ : Mem) (Q : Int32 → Prop) : Prop :=
  ((¬ a1 = ((-1) : Int32) → (w_X6_fog_68 a1 a2 a1 μ Q)) ∧ (a1 = ((-1) : Int32) → (w_X6_fog_68 a1 a2 (μ.1 25 1) μ Q)))
def w_X6_fog_25 (a1 : Int32) (a2 : Int32) (μ : Mem) (Q : Int32 → Prop) : Prop :=
  w_X6_within a2 (nI 0) (nI 1) μ (fun r4 => ((¬ r4 = 0 → ((¬ a1 = ((-1) : Int32) → (w_X6_fog_52 a1 a2 μ Q)) ∧ (a1 = ((-1) : Int32) → w_X6_isBare  μ (fun r6 => ((r6 = 0 → (w_X6_fog_52 a1 a2 μ Q)) ∧ (¬ r6 = 0 → Q ((-1000000003) : Int32))))))) ∧ (r4 = 0 → Q ((-1000000002) : Int32))))
def w_X6_fog (a1 : Int32) (a2 : Int32) (μ : Mem) (Q : Int32 → Prop) : Prop :=
  ((a1 = ((-1) : Int32) → (w_X6_fog_25 a1 a2 μ Q)) ∧ (¬ a1 = ((-1) : Int32) → w_X6_within a1 (nI 0) ((μ.1 (μ.2.2 0) 2) - (nI 1)) μ (fun r2 => ((¬ r2 = 0 → (w_X6_fog_25 a1 a2 μ Q)) ∧ (r2 = 0 → Q ((-1000000002) : Int32))))))
abbrev rm_X6_fog : Room := { frames := 2, cells := 0, slots := 0, locals := 42 }
/-- X6_isVillage -/
def w_X6_isVillage (a0 : Int32) (μ : Mem) (Q : Int32 → Prop) : Prop :=
  w_X6_within a0 (nI 0) (nI 1) μ (fun r1 => ((r1 = 0 ∨ r1 = 1) ∧ Q r1))
abbrev rm_X6_isVillage : Room := { frames := 1, cells := 0, slots := 0, locals := 22 }
/-- X6_village -/
def w_X6_village (a1 : Int32) (a2 : Int32) (μ : Mem) (Q : Int32 → Prop) : Prop :=
  w_X6_isVillage a1 μ (fun r1 => ((¬ r1 = 0 → ((a2 = (nI 0) → w_X6_at ((μ.2.2 0) + 7) a1 μ (fun r4 => Q r4)) ∧ (¬ a2 = (nI 0) → ((a2 = (nI 1) → w_X6_at ((μ.2.2 0) + 8) a1 μ (fun r7 => Q r7)) ∧ (¬ a2 = (nI 1) → ((a2 = (nI 2) → w_X6_at (25 + 4) a1 μ (fun r9 => Q r9)) ∧ (¬ a2 = (nI 2) → ((a2 = (nI 3) → w_X6_at (25 + 5) a1 μ (fun r11 => Q r11)) ∧ (¬ a2 = (nI 3) → ((a2 = (nI 4) → w_X0_postsOf (μ.2.2 0) a1 μ (fun r14 => Q r14)) ∧ (¬ a2 = (nI 4) → Q ((-1000000002) : Int32)))))))))))) ∧ (r1 = 0 → Q ((-1000000001) : Int32))))
abbrev rm_X6_village : Room := { frames := 2, cells := 0, slots := 0, locals := 42 }
/-- X6_isGoat -/
def w_X6_isGoat (a1 : Int32) (μ : Mem) (Q : Int32 → Prop) : Prop :=
  w_X6_within a1 (nI 0) ((μ.1 (μ.2.2 0) 4) - (nI 1)) μ (fun r2 => ((r2 = 0 ∨ r2 = 1) ∧ Q r2))
abbrev rm_X6_isGoat : Room := { frames := 1, cells := 0, slots := 0, locals := 22 }
/-- X6_goat -/
def w_X6_goat (a1 : Int32) (a2 : Int32) (μ : Mem) (Q : Int32 → Prop) : Prop :=
  w_X6_isGoat a1 μ (fun r1 => ((¬ r1 = 0 → w_X6_within a2 (nI 0) (nI 1) μ (fun r3 => ((¬ r3 = 0 → ((¬ a2 = 0 → w_X6_at ((μ.2.2 0) + 10) a1 μ (fun r6 => Q r6)) ∧ (a2 = 0 → w_X6_at ((μ.2.2 0) + 9) a1 μ (fun r9 => Q r9)))) ∧ (r3 = 0 → Q ((-1000000002) : Int32))))) ∧ (r1 = 0 → Q ((-1000000001) : Int32))))
abbrev rm_X6_goat : Room := { frames := 2, cells := 0, slots := 0, locals := 43 }
/-- X6_hour -/
def s_X6_hour_43 (a1 : Int32) (X43 : Int32 → Int32 → Mem → Prop) (v2 : Int32) (v3 : Int32) (μ : Mem) (Q : Int32 → Mem → Prop) : Prop :=
  ((a1 ≤ v3 → Q v2 μ) ∧ (¬ a1 ≤ v3 → w_X2_remember 25 μ (fun μ6 => w_X0_sideAt (μ6.2.2 0) (μ6.1 25 1) μ6 (fun r9 => w_X0_fogAt (μ6.2.2 0) (μ6.1 25 1) μ6 (fun r12 => w_X4_passHour 25 (μ6.2.2 0) r9 r12 (nI 0) μ6 (fun r14 μ15 => ∀ x16 : Int32, x16 = (v2 + r14) → ∀ x17 : Int32, x17 = v3 + (nI 1) → (X43 x16 x17 μ15)))))))
def w_X6_hour_43 (a1 : Int32) (v2 : Int32) (v3 : Int32) (μ : Mem) (Q : Int32 → Mem → Prop) : Prop :=
  ∀ X43 : Int32 → Int32 → Mem → Prop, (∀ (v2 : Int32) (v3 : Int32) (μ : Mem), s_X6_hour_43 a1 X43 v2 v3 μ Q → X43 v2 v3 μ) → X43 v2 v3 μ
def w_X6_hour (a1 : Int32) (μ : Mem) (Q : Int32 → Mem → Prop) : Prop :=
  w_X6_within a1 (nI 1) (nI 60) μ (fun r1 => ((¬ r1 = 0 → w_X6_isBare  μ (fun r3 => ((r3 = 0 → (((μ.1 25 0) ≤ (nI 9000) → (w_X6_hour_43 a1 (nI 0) (nI 0) μ Q)) ∧ (¬ (μ.1 25 0) ≤ (nI 9000) → Q ((-1000000004) : Int32) μ))) ∧ (¬ r3 = 0 → Q ((-1000000003) : Int32) μ)))) ∧ (r1 = 0 → Q ((-1000000002) : Int32) μ)))
abbrev rm_X6_hour : Room := { frames := 4, cells := 0, slots := 0, locals := 103 }
/-- X6_carry -/
def w_X6_carry (a1 : Int32) (μ : Mem) (Q : Int32 → Mem → Prop) : Prop :=
  w_X6_isVillage a1 μ (fun r1 => ((¬ r1 = 0 → w_X6_isBare  μ (fun r3 => ((r3 = 0 → w_X2_remember 25 μ (fun μ6 => w_X4_emptyJarsOf 25 (μ6.2.2 0) a1 μ6 (fun r8 μ9 => Q r8 μ9))) ∧ (¬ r3 = 0 → Q ((-1000000003) : Int32) μ)))) ∧ (r1 = 0 → Q ((-1000000001) : Int32) μ)))
abbrev rm_X6_carry : Room := { frames := 3, cells := 0, slots := 0, locals := 103 }
/-- X6_lick -/
def w_X6_lick (a1 : Int32) (a2 : Int32) (μ : Mem) (Q : Int32 → Mem → Prop) : Prop :=
  w_X6_isPost a1 μ (fun r1 => ((¬ r1 = 0 → w_X6_within a2 (nI 1) (nI 99) μ (fun r3 => ((¬ r3 = 0 → w_X2_remember 25 μ (fun μ6 => w_X4_loseFromJar 25 a1 a2 μ6 (fun r7 μ8 => Q r7 μ8))) ∧ (r3 = 0 → Q ((-1000000002) : Int32) μ)))) ∧ (r1 = 0 → Q ((-1000000001) : Int32) μ)))
abbrev rm_X6_lick : Room := { frames := 3, cells := 0, slots := 0, locals := 103 }
/-- X6_mesh -/
def w_X6_mesh (a1 : Int32) (a2 : Int32) (μ : Mem) (Q : Int32 → Mem → Prop) : Prop :=
  w_X6_isPost a1 μ (fun r1 => ((¬ r1 = 0 → w_X6_within a2 (nI 0) (nI 9) μ (fun r3 => ((¬ r3 = 0 → w_X2_remember 25 μ (fun μ6 => w_X6_at (25 + 2) a1 μ6 (fun r7 => w_X6_put (25 + 2) a1 a2 μ6 (fun μ10 => Q r7 μ10)))) ∧ (r3 = 0 → Q ((-1000000002) : Int32) μ)))) ∧ (r1 = 0 → Q ((-1000000001) : Int32) μ)))
abbrev rm_X6_mesh : Room := { frames := 3, cells := 0, slots := 0, locals := 103 }
/-- X6_isCell -/
def w_X6_isCell (a1 : Int32) (μ : Mem) (Q : Int32 → Prop) : Prop :=
  w_X6_within a1 (nI 0) ((μ.1 (μ.2.2 0) 0) - (nI 1)) μ (fun r2 => ((r2 = 0 ∨ r2 = 1) ∧ Q r2))
abbrev rm_X6_isCell : Room := { frames := 1, cells := 0, slots := 0, locals := 22 }
/-- X6_move -/
def w_X6_move (a1 : Int32) (a2 : Int32) (μ : Mem) (Q : Int32 → Mem → Prop) : Prop :=
  w_X6_isPost a1 μ (fun r1 => ((r1 = 0 → Q ((-1000000001) : Int32) μ) ∧ (¬ r1 = 0 → w_X6_isCell a2 μ (fun r3 => ((¬ r3 = 0 → w_X4_postIn 25 a2 μ (fun r5 => ((r5 = ((-1) : Int32) → w_X2_remember 25 μ (fun μ8 => w_X6_at (25 + 1) a1 μ8 (fun r9 => w_X6_put (25 + 1) a1 a2 μ8 (fun μ12 => Q r9 μ12)))) ∧ (¬ r5 = ((-1) : Int32) → Q ((-1000000003) : Int32) μ)))) ∧ (r3 = 0 → Q ((-1000000001) : Int32) μ))))))
abbrev rm_X6_move : Room := { frames := 3, cells := 0, slots := 0, locals := 103 }
/-- X6_lamp -/
def w_X6_lamp_36 (a1 : Int32) (s1 : Int32) (μ : Mem) (Q : Int32 → Mem → Prop) : Prop :=
  ((a1 = 0 ∨ a1 = 1) ∧ ∀ μ5 : Mem, μ5 = sI μ 25 2 a1 → Q s1 μ5)
def w_X6_lamp (a1 : Int32) (μ : Mem) (Q : Int32 → Mem → Prop) : Prop :=
  w_X6_isBare  μ (fun r1 => ((r1 = 0 → w_X2_remember 25 μ (fun μ4 => (((μ4.1 25 2) = 0 → (w_X6_lamp_36 a1 (nI 0) μ4 Q)) ∧ (¬ (μ4.1 25 2) = 0 → (w_X6_lamp_36 a1 (nI 1) μ4 Q))))) ∧ (¬ r1 = 0 → Q ((-1000000003) : Int32) μ)))
abbrev rm_X6_lamp : Room := { frames := 3, cells := 0, slots := 0, locals := 103 }
/-- X6_draw -/
def w_X6_draw (a1 : Int32) (μ : Mem) (Q : Int32 → Mem → Prop) : Prop :=
  ∀ μ1 : Mem, μ1 = sI μ 0 10 ((((((μ.1 0 10)).toInt64 * (lN 1103515245)) + (lN 12345)) &&& (lN 2147483647))).toInt32 → ((a1 ≤ 0 → Q (nI 0) μ1) ∧ (¬ a1 ≤ 0 → (¬ (nI 65536) = 0 ∧ (¬ a1 = 0 ∧ ∀ x2 : Int32, x2 = (((μ1.1 0 10) / (nI 65536)) - ((μ1.1 0 10) / (nI 65536)) / a1 * a1) → Q x2 μ1))))
abbrev rm_X6_draw : Room := { frames := 0, cells := 0, slots := 0, locals := 0 }
/-- X6_lickByDraws -/
def w_X6_lickByDraws (μ : Mem) (Q : Mem → Prop) : Prop :=
  (((μ.1 (μ.2.2 0) 3) = 0 → Q μ) ∧ (¬ (μ.1 (μ.2.2 0) 3) = 0 → w_X6_draw (nI 8) μ (fun r2 μ3 => ((r2 = 0 → w_X6_draw (μ3.1 (μ3.2.2 0) 3) μ3 (fun r5 μ6 => w_X6_draw (nI 10) μ6 (fun r7 μ8 => w_X4_loseFromJar 25 r5 r7 μ8 (fun r9 μ10 => Q μ10)))) ∧ (¬ r2 = 0 → Q μ3)))))
abbrev rm_X6_lickByDraws : Room := { frames := 2, cells := 0, slots := 0, locals := 46 }
/-- X6_drift -/
def s_X6_drift_43 (a1 : Int32) (X43 : Int32 → Int32 → Mem → Prop) (v2 : Int32) (v3 : Int32) (μ : Mem) (Q : Int32 → Mem → Prop) : Prop :=
  ((a1 ≤ v3 → Q v2 μ) ∧ (¬ a1 ≤ v3 → w_X2_remember 25 μ (fun μ6 => w_X6_draw (nI 41) μ6 (fun r7 μ8 => w_X6_draw (nI 2) μ8 (fun r9 μ10 => w_X4_passHour 25 (μ10.2.2 0) r9 r7 (nI 0) μ10 (fun r12 μ13 => ∀ x14 : Int32, x14 = (v2 + r12) → w_X6_lickByDraws  μ13 (fun μ16 => ∀ x17 : Int32, x17 = v3 + (nI 1) → (X43 x14 x17 μ16))))))))
def w_X6_drift_43 (a1 : Int32) (v2 : Int32) (v3 : Int32) (μ : Mem) (Q : Int32 → Mem → Prop) : Prop :=
  ∀ X43 : Int32 → Int32 → Mem → Prop, (∀ (v2 : Int32) (v3 : Int32) (μ : Mem), s_X6_drift_43 a1 X43 v2 v3 μ Q → X43 v2 v3 μ) → X43 v2 v3 μ
def w_X6_drift (a1 : Int32) (μ : Mem) (Q : Int32 → Mem → Prop) : Prop :=
  w_X6_within a1 (nI 1) (nI 60) μ (fun r1 => ((¬ r1 = 0 → w_X6_isBare  μ (fun r3 => ((r3 = 0 → (((μ.1 25 0) ≤ (nI 9000) → (w_X6_drift_43 a1 (nI 0) (nI 0) μ Q)) ∧ (¬ (μ.1 25 0) ≤ (nI 9000) → Q ((-1000000004) : Int32) μ))) ∧ (¬ r3 = 0 → Q ((-1000000003) : Int32) μ)))) ∧ (r1 = 0 → Q ((-1000000002) : Int32) μ)))
abbrev rm_X6_drift : Room := { frames := 4, cells := 0, slots := 0, locals := 103 }
/-- X6_undo -/
def w_X6_undo (a1 : Int32) (μ : Mem) (Q : Int32 → Mem → Prop) : Prop :=
  w_X6_within a1 (nI 1) (nI 30) μ (fun r1 => ((¬ r1 = 0 → ((a1 ≤ (μ.1 41 2) → w_X2_takeBack 25 a1 μ (fun μ4 => Q (μ4.1 25 0) μ4)) ∧ (¬ a1 ≤ (μ.1 41 2) → Q ((-1000000003) : Int32) μ))) ∧ (r1 = 0 → Q ((-1000000002) : Int32) μ)))
abbrev rm_X6_undo : Room := { frames := 3, cells := 0, slots := 0, locals := 104 }
/-- X6_tryHours -/
def w_X6_tryHours_113 (a1 : Int32) (X25 : Int32 → Int32 → Mem → Prop) (v2 : Int32) (v3 : Int32) (μ : Mem) (Q : Int32 → Mem → Prop) : Prop :=
  ∀ x15 : Int32, x15 = v3 + (nI 1) → (X25 v2 x15 μ)
def s_X6_tryHours_80 (a1 : Int32) (X25 : Int32 → Int32 → Mem → Prop) (v2 : Int32) (v3 : Int32) (X80 : Int32 → Mem → Prop) (v4 : Int32) (μ : Mem) (Q : Int32 → Mem → Prop) : Prop :=
  (((nI 6) ≤ v4 → (w_X6_tryHours_113 a1 X25 v2 v3 μ Q)) ∧ (¬ (nI 6) ≤ v4 → (vp_in v4 6 ∧ (vp_in v4 6 ∧ (vp_in v4 6 ∧ ∀ μ13 : Mem, μ13 = sI μ 37 (v4).toNatClampNeg ((μ.1 37 (v4).toNatClampNeg) + (μ.1 39 (v4).toNatClampNeg)) → ∀ x14 : Int32, x14 = v4 + (nI 1) → (X80 x14 μ13))))))
def w_X6_tryHours_80 (a1 : Int32) (X25 : Int32 → Int32 → Mem → Prop) (v2 : Int32) (v3 : Int32) (v4 : Int32) (μ : Mem) (Q : Int32 → Mem → Prop) : Prop :=
  ∀ X80 : Int32 → Mem → Prop, (∀ (v4 : Int32) (μ : Mem), s_X6_tryHours_80 a1 X25 v2 v3 X80 v4 μ Q → X80 v4 μ) → X80 v4 μ
def s_X6_tryHours_25 (a1 : Int32) (X25 : Int32 → Int32 → Mem → Prop) (v2 : Int32) (v3 : Int32) (μ : Mem) (Q : Int32 → Mem → Prop) : Prop :=
  ((a1 ≤ v3 → Q v2 μ) ∧ (¬ a1 ≤ v3 → w_X0_sideAt (μ.2.2 0) (μ.1 31 1) μ (fun r5 => w_X0_fogAt (μ.2.2 0) (μ.1 31 1) μ (fun r8 => w_X4_passHour 31 (μ.2.2 0) r5 r8 (nI 0) μ (fun r10 μ11 => ∀ x12 : Int32, x12 = (v2 + r10) → (w_X6_tryHours_80 a1 X25 x12 v3 (nI 0) μ11 Q))))))
def w_X6_tryHours_25 (a1 : Int32) (v2 : Int32) (v3 : Int32) (μ : Mem) (Q : Int32 → Mem → Prop) : Prop :=
  ∀ X25 : Int32 → Int32 → Mem → Prop, (∀ (v2 : Int32) (v3 : Int32) (μ : Mem), s_X6_tryHours_25 a1 X25 v2 v3 μ Q → X25 v2 v3 μ) → X25 v2 v3 μ
def w_X6_tryHours_23 (a1 : Int32) (v2 : Int32) (μ : Mem) (Q : Int32 → Mem → Prop) : Prop :=
  (w_X6_tryHours_25 a1 v2 (nI 0) μ Q)
def s_X6_tryHours_4 (a1 : Int32) (v2 : Int32) (X4 : Int32 → Mem → Prop) (v3 : Int32) (μ : Mem) (Q : Int32 → Mem → Prop) : Prop :=
  (((nI 6) ≤ v3 → (w_X6_tryHours_23 a1 v2 μ Q)) ∧ (¬ (nI 6) ≤ v3 → (vp_in v3 6 ∧ ∀ μ1 : Mem, μ1 = sI μ 37 (v3).toNatClampNeg (nI 0) → ∀ x2 : Int32, x2 = v3 + (nI 1) → (X4 x2 μ1))))
def w_X6_tryHours_4 (a1 : Int32) (v2 : Int32) (v3 : Int32) (μ : Mem) (Q : Int32 → Mem → Prop) : Prop :=
  ∀ X4 : Int32 → Mem → Prop, (∀ (v3 : Int32) (μ : Mem), s_X6_tryHours_4 a1 v2 X4 v3 μ Q → X4 v3 μ) → X4 v3 μ
def w_X6_tryHours (a1 : Int32) (μ : Mem) (Q : Int32 → Mem → Prop) : Prop :=
  (w_X6_tryHours_4 a1 (nI 0) (nI 0) μ Q)
abbrev rm_X6_tryHours : Room := { frames := 4, cells := 0, slots := 0, locals := 103 }
/-- X6_gets -/
def w_X6_gets (a1 : Int32) (a2 : Int32) (μ : Mem) (Q : Int32 → Mem → Prop) : Prop :=
  w_X6_isPost a1 μ (fun r1 => ((¬ r1 = 0 → w_X6_within a2 (nI 0) (nI 99) μ (fun r3 => ((¬ r3 = 0 → w_X4_become 31 25 μ (fun μ6 => w_X6_tryHours a2 μ6 (fun r7 μ8 => w_X6_at 37 a1 μ8 (fun r9 => Q r9 μ8)))) ∧ (r3 = 0 → Q ((-1000000002) : Int32) μ)))) ∧ (r1 = 0 → Q ((-1000000001) : Int32) μ)))
abbrev rm_X6_gets : Room := { frames := 5, cells := 0, slots := 0, locals := 127 }
/-- X6_level -/
def w_X6_level (a1 : Int32) (a2 : Int32) (μ : Mem) (Q : Int32 → Mem → Prop) : Prop :=
  w_X6_isPost a1 μ (fun r1 => ((¬ r1 = 0 → w_X6_within a2 (nI 0) (nI 99) μ (fun r3 => ((¬ r3 = 0 → w_X4_become 31 25 μ (fun μ6 => w_X6_tryHours a2 μ6 (fun r7 μ8 => w_X6_at (31 + 3) a1 μ8 (fun r9 => Q r9 μ8)))) ∧ (r3 = 0 → Q ((-1000000002) : Int32) μ)))) ∧ (r1 = 0 → Q ((-1000000001) : Int32) μ)))
abbrev rm_X6_level : Room := { frames := 5, cells := 0, slots := 0, locals := 127 }
/-- X6_blowNext -/
def w_X6_blowNext (a1 : Int32) (μ : Mem) (Q : Mem → Prop) : Prop :=
  w_X0_fogAt (μ.2.2 0) (μ.1 25 1) μ (fun r3 => w_X4_lampedFog 25 (μ.2.2 0) r3 μ (fun r5 => w_X0_sideAt (μ.2.2 0) (μ.1 25 1) μ (fun r9 => w_X5_blow 25 (μ.1 (μ.2.2 0) 0) a1 r9 r5 μ (fun μ12 => Q μ12))))
abbrev rm_X6_blowNext : Room := { frames := 3, cells := 0, slots := 0, locals := 75 }
/-- X6_shadow -/
def w_X6_shadow (a1 : Int32) (μ : Mem) (Q : Int32 → Mem → Prop) : Prop :=
  w_X6_isPost a1 μ (fun r1 => ((¬ r1 = 0 → w_X4_hanging 25 (μ.2.2 0) μ (fun r4 => w_X6_blowNext r4 μ (fun μ7 => w_X6_at 39 a1 μ7 (fun r8 => w_X6_blowNext (r4 &&& ((nI 1) <<< (a1 &&& 31))) μ7 (fun μ11 => w_X6_at 39 a1 μ11 (fun r12 => Q (r12 - r8) μ11)))))) ∧ (r1 = 0 → Q ((-1000000001) : Int32) μ)))
abbrev rm_X6_shadow : Room := { frames := 4, cells := 0, slots := 0, locals := 97 }
/-- X6_left -/
def w_X6_left (μ : Mem) (Q : Int32 → Mem → Prop) : Prop :=
  w_X6_isBare  μ (fun r1 => ((r1 = 0 → w_X4_hanging 25 (μ.2.2 0) μ (fun r4 => w_X6_blowNext r4 μ (fun μ7 => Q (μ7.1 38 2) μ7))) ∧ (¬ r1 = 0 → Q ((-1000000003) : Int32) μ)))
abbrev rm_X6_left : Room := { frames := 4, cells := 0, slots := 0, locals := 97 }
/-- X6_bestMesh -/
def w_X6_bestMesh_106 (a1 : Int32) (a2 : Int32) (v3 : Int32) (v4 : Int32) (μ : Mem) (Q : Int32 → Mem → Prop) : Prop :=
  ((¬ a2 = 0 → Q v4 μ) ∧ (a2 = 0 → Q v3 μ))
def w_X6_bestMesh_100 (a1 : Int32) (a2 : Int32) (X31 : Int32 → Int32 → Int32 → Mem → Prop) (v3 : Int32) (v4 : Int32) (v5 : Int32) (μ : Mem) (Q : Int32 → Mem → Prop) : Prop :=
  ∀ x18 : Int32, x18 = v5 + (nI 1) → (X31 v3 v4 x18 μ)
def s_X6_bestMesh_31 (a1 : Int32) (a2 : Int32) (X31 : Int32 → Int32 → Int32 → Mem → Prop) (v3 : Int32) (v4 : Int32) (v5 : Int32) (μ : Mem) (Q : Int32 → Mem → Prop) : Prop :=
  (((nI 9) < v5 → (w_X6_bestMesh_106 a1 a2 v3 v4 μ Q)) ∧ (¬ (nI 9) < v5 → w_X4_become 31 25 μ (fun μ6 => w_X6_put (31 + 2) a1 v5 μ6 (fun μ8 => w_X0_hoursOfDay (μ8.2.2 0) μ8 (fun r10 => w_X6_tryHours r10 μ8 (fun r12 μ13 => w_X6_at 37 a1 μ13 (fun r14 => ((r14 ≤ v4 → (w_X6_bestMesh_100 a1 a2 X31 v3 v4 v5 μ13 Q)) ∧ (¬ r14 ≤ v4 → w_X6_at 37 a1 μ13 (fun r16 => (w_X6_bestMesh_100 a1 a2 X31 v5 r16 v5 μ13 Q)))))))))))
def w_X6_bestMesh_31 (a1 : Int32) (a2 : Int32) (v3 : Int32) (v4 : Int32) (v5 : Int32) (μ : Mem) (Q : Int32 → Mem → Prop) : Prop :=
  ∀ X31 : Int32 → Int32 → Int32 → Mem → Prop, (∀ (v3 : Int32) (v4 : Int32) (v5 : Int32) (μ : Mem), s_X6_bestMesh_31 a1 a2 X31 v3 v4 v5 μ Q → X31 v3 v4 v5 μ) → X31 v3 v4 v5 μ
def w_X6_bestMesh (a1 : Int32) (a2 : Int32) (μ : Mem) (Q : Int32 → Mem → Prop) : Prop :=
  w_X6_isPost a1 μ (fun r1 => ((¬ r1 = 0 → w_X6_within a2 (nI 0) (nI 1) μ (fun r3 => ((¬ r3 = 0 → (w_X6_bestMesh_31 a1 a2 ((-1) : Int32) ((-1) : Int32) (nI 0) μ Q)) ∧ (r3 = 0 → Q ((-1000000002) : Int32) μ)))) ∧ (r1 = 0 → Q ((-1000000001) : Int32) μ)))
abbrev rm_X6_bestMesh : Room := { frames := 5, cells := 0, slots := 0, locals := 127 }
/-- X6_isOpenTo -/
def w_X6_isOpenTo (a1 : Int32) (a2 : Int32) (a3 : Int32) (μ : Mem) (Q : Int32 → Prop) : Prop :=
  w_X6_isCell a1 μ (fun r1 => ((¬ r1 = 0 → w_X4_postIn 25 a1 μ (fun r3 => ((r3 = ((-1) : Int32) → Q (nI 1)) ∧ (¬ r3 = ((-1) : Int32) → ((r3 = a2 → Q (nI 1)) ∧ (¬ r3 = a2 → ((¬ r3 = a3 → Q (nI 0)) ∧ (r3 = a3 → Q (nI 1))))))))) ∧ (r1 = 0 → Q (nI 0))))
abbrev rm_X6_isOpenTo : Room := { frames := 2, cells := 0, slots := 0, locals := 43 }
/-- X6_bestCell -/
def w_X6_bestCell_120 (a1 : Int32) (a2 : Int32) (v3 : Int32) (v4 : Int32) (μ : Mem) (Q : Int32 → Mem → Prop) : Prop :=
  ((¬ a2 = 0 → Q v4 μ) ∧ (a2 = 0 → Q v3 μ))
def w_X6_bestCell_114 (a1 : Int32) (a2 : Int32) (X31 : Int32 → Int32 → Int32 → Mem → Prop) (v3 : Int32) (v4 : Int32) (v5 : Int32) (μ : Mem) (Q : Int32 → Mem → Prop) : Prop :=
  ∀ x20 : Int32, x20 = v5 + (nI 1) → (X31 v3 v4 x20 μ)
def s_X6_bestCell_31 (a1 : Int32) (a2 : Int32) (X31 : Int32 → Int32 → Int32 → Mem → Prop) (v3 : Int32) (v4 : Int32) (v5 : Int32) (μ : Mem) (Q : Int32 → Mem → Prop) : Prop :=
  (((nI 12) ≤ v5 → (w_X6_bestCell_120 a1 a2 v3 v4 μ Q)) ∧ (¬ (nI 12) ≤ v5 → w_X6_isOpenTo v5 a1 a1 μ (fun r5 => ((¬ r5 = 0 → w_X4_become 31 25 μ (fun μ8 => w_X6_put (31 + 1) a1 v5 μ8 (fun μ10 => w_X0_hoursOfDay (μ10.2.2 0) μ10 (fun r12 => w_X6_tryHours r12 μ10 (fun r14 μ15 => w_X6_at 37 a1 μ15 (fun r16 => ((r16 ≤ v4 → (w_X6_bestCell_114 a1 a2 X31 v3 v4 v5 μ15 Q)) ∧ (¬ r16 ≤ v4 → w_X6_at 37 a1 μ15 (fun r18 => (w_X6_bestCell_114 a1 a2 X31 v5 r18 v5 μ15 Q)))))))))) ∧ (r5 = 0 → (w_X6_bestCell_114 a1 a2 X31 v3 v4 v5 μ Q))))))
def w_X6_bestCell_31 (a1 : Int32) (a2 : Int32) (v3 : Int32) (v4 : Int32) (v5 : Int32) (μ : Mem) (Q : Int32 → Mem → Prop) : Prop :=
  ∀ X31 : Int32 → Int32 → Int32 → Mem → Prop, (∀ (v3 : Int32) (v4 : Int32) (v5 : Int32) (μ : Mem), s_X6_bestCell_31 a1 a2 X31 v3 v4 v5 μ Q → X31 v3 v4 v5 μ) → X31 v3 v4 v5 μ
def w_X6_bestCell (a1 : Int32) (a2 : Int32) (μ : Mem) (Q : Int32 → Mem → Prop) : Prop :=
  w_X6_isPost a1 μ (fun r1 => ((¬ r1 = 0 → w_X6_within a2 (nI 0) (nI 1) μ (fun r3 => ((¬ r3 = 0 → (w_X6_bestCell_31 a1 a2 ((-1) : Int32) ((-1) : Int32) (nI 0) μ Q)) ∧ (r3 = 0 → Q ((-1000000002) : Int32) μ)))) ∧ (r1 = 0 → Q ((-1000000001) : Int32) μ)))
abbrev rm_X6_bestCell : Room := { frames := 5, cells := 0, slots := 0, locals := 127 }
/-- X6_lesserHaul -/
def w_X6_lesserHaul_97 (a1 : Int32) (a2 : Int32) (a3 : Int32) (a4 : Int32) (v5 : Int32) (v6 : Int32) (μ : Mem) (Q : Int32 → Mem → Prop) : Prop :=
  ∀ x15 : Int32, x15 = (if v6 < (v5 - v6) then v6 else (v5 - v6)) → Q x15 μ
def w_X6_lesserHaul_91 (a1 : Int32) (a2 : Int32) (a3 : Int32) (a4 : Int32) (X58 : Int32 → Int32 → Prop) (v5 : Int32) (v6 : Int32) (v7 : Int32) (μ : Mem) (Q : Int32 → Mem → Prop) : Prop :=
  ∀ x14 : Int32, x14 = v7 + (nI 1) → (X58 v6 x14)
def s_X6_lesserHaul_58 (a1 : Int32) (a2 : Int32) (a3 : Int32) (a4 : Int32) (v5 : Int32) (μ : Mem) (X58 : Int32 → Int32 → Prop) (v6 : Int32) (v7 : Int32) (Q : Int32 → Mem → Prop) : Prop :=
  (((nI 6) ≤ v7 → (w_X6_lesserHaul_97 a1 a2 a3 a4 v5 v6 μ Q)) ∧ (¬ (nI 6) ≤ v7 → (vp_in v7 6 ∧ ((¬ (μ.1 ((μ.2.2 0) + 6) (v7).toNatClampNeg) = (nI 1) → (w_X6_lesserHaul_91 a1 a2 a3 a4 X58 v5 v6 v7 μ Q)) ∧ ((μ.1 ((μ.2.2 0) + 6) (v7).toNatClampNeg) = (nI 1) → (vp_in v7 6 ∧ ∀ x13 : Int32, x13 = (v6 + (μ.1 37 (v7).toNatClampNeg)) → (w_X6_lesserHaul_91 a1 a2 a3 a4 X58 v5 x13 v7 μ Q)))))))
def w_X6_lesserHaul_58 (a1 : Int32) (a2 : Int32) (a3 : Int32) (a4 : Int32) (v5 : Int32) (v6 : Int32) (v7 : Int32) (μ : Mem) (Q : Int32 → Mem → Prop) : Prop :=
  ∀ X58 : Int32 → Int32 → Prop, (∀ (v6 : Int32) (v7 : Int32), s_X6_lesserHaul_58 a1 a2 a3 a4 v5 μ X58 v6 v7 Q → X58 v6 v7) → X58 v6 v7
def w_X6_lesserHaul (a1 : Int32) (a2 : Int32) (a3 : Int32) (a4 : Int32) (μ : Mem) (Q : Int32 → Mem → Prop) : Prop :=
  w_X4_become 31 25 μ (fun μ2 => w_X6_put (31 + 1) a1 a2 μ2 (fun μ4 => w_X6_put (31 + 1) a3 a4 μ4 (fun μ6 => w_X0_hoursOfDay (μ6.2.2 0) μ6 (fun r8 => w_X6_tryHours ((nI 7) * r8) μ6 (fun r10 μ11 => (w_X6_lesserHaul_58 a1 a2 a3 a4 r10 (nI 0) (nI 0) μ11 Q))))))
abbrev rm_X6_lesserHaul : Room := { frames := 5, cells := 0, slots := 0, locals := 127 }
/-- X6_bestTwo -/
def w_X6_bestTwo_142 (a1 : Int32) (a2 : Int32) (a3 : Int32) (v4 : Int32) (v5 : Int32) (μ : Mem) (Q : Int32 → Mem → Prop) : Prop :=
  ((¬ a3 = 0 → Q v5 μ) ∧ (a3 = 0 → Q v4 μ))
def w_X6_bestTwo_136 (a1 : Int32) (a2 : Int32) (a3 : Int32) (X45 : Int32 → Int32 → Int32 → Mem → Prop) (v4 : Int32) (v5 : Int32) (v6 : Int32) (μ : Mem) (Q : Int32 → Mem → Prop) : Prop :=
  ∀ x15 : Int32, x15 = v6 + (nI 1) → (X45 v4 v5 x15 μ)
def w_X6_bestTwo_130 (a1 : Int32) (a2 : Int32) (a3 : Int32) (X45 : Int32 → Int32 → Int32 → Mem → Prop) (X69 : Int32 → Int32 → Int32 → Mem → Prop) (v4 : Int32) (v5 : Int32) (v6 : Int32) (v7 : Int32) (μ : Mem) (Q : Int32 → Mem → Prop) : Prop :=
  ∀ x14 : Int32, x14 = v7 + (nI 1) → (X69 v4 v5 x14 μ)
def s_X6_bestTwo_69 (a1 : Int32) (a2 : Int32) (a3 : Int32) (X45 : Int32 → Int32 → Int32 → Mem → Prop) (v6 : Int32) (X69 : Int32 → Int32 → Int32 → Mem → Prop) (v4 : Int32) (v5 : Int32) (v7 : Int32) (μ : Mem) (Q : Int32 → Mem → Prop) : Prop :=
  (((nI 12) ≤ v7 → (w_X6_bestTwo_136 a1 a2 a3 X45 v4 v5 v6 μ Q)) ∧ (¬ (nI 12) ≤ v7 → ((v7 = v6 → (w_X6_bestTwo_130 a1 a2 a3 X45 X69 v4 v5 v6 v7 μ Q)) ∧ (¬ v7 = v6 → w_X6_isOpenTo v7 a1 a2 μ (fun r9 => ((¬ r9 = 0 → w_X6_lesserHaul a1 v6 a2 v7 μ (fun r11 μ12 => ((r11 ≤ v5 → (w_X6_bestTwo_130 a1 a2 a3 X45 X69 v4 v5 v6 v7 μ12 Q)) ∧ (¬ r11 ≤ v5 → ∀ x13 : Int32, x13 = (((nI 100) * v6) + v7) → (w_X6_bestTwo_130 a1 a2 a3 X45 X69 x13 r11 v6 v7 μ12 Q))))) ∧ (r9 = 0 → (w_X6_bestTwo_130 a1 a2 a3 X45 X69 v4 v5 v6 v7 μ Q))))))))
def w_X6_bestTwo_69 (a1 : Int32) (a2 : Int32) (a3 : Int32) (X45 : Int32 → Int32 → Int32 → Mem → Prop) (v4 : Int32) (v5 : Int32) (v6 : Int32) (v7 : Int32) (μ : Mem) (Q : Int32 → Mem → Prop) : Prop :=
  ∀ X69 : Int32 → Int32 → Int32 → Mem → Prop, (∀ (v4 : Int32) (v5 : Int32) (v7 : Int32) (μ : Mem), s_X6_bestTwo_69 a1 a2 a3 X45 v6 X69 v4 v5 v7 μ Q → X69 v4 v5 v7 μ) → X69 v4 v5 v7 μ
def s_X6_bestTwo_45 (a1 : Int32) (a2 : Int32) (a3 : Int32) (X45 : Int32 → Int32 → Int32 → Mem → Prop) (v4 : Int32) (v5 : Int32) (v6 : Int32) (μ : Mem) (Q : Int32 → Mem → Prop) : Prop :=
  (((nI 12) ≤ v6 → (w_X6_bestTwo_142 a1 a2 a3 v4 v5 μ Q)) ∧ (¬ (nI 12) ≤ v6 → w_X6_isOpenTo v6 a1 a2 μ (fun r7 => ((¬ r7 = 0 → (w_X6_bestTwo_69 a1 a2 a3 X45 v4 v5 v6 (nI 0) μ Q)) ∧ (r7 = 0 → (w_X6_bestTwo_136 a1 a2 a3 X45 v4 v5 v6 μ Q))))))
def w_X6_bestTwo_45 (a1 : Int32) (a2 : Int32) (a3 : Int32) (v4 : Int32) (v5 : Int32) (v6 : Int32) (μ : Mem) (Q : Int32 → Mem → Prop) : Prop :=
  ∀ X45 : Int32 → Int32 → Int32 → Mem → Prop, (∀ (v4 : Int32) (v5 : Int32) (v6 : Int32) (μ : Mem), s_X6_bestTwo_45 a1 a2 a3 X45 v4 v5 v6 μ Q → X45 v4 v5 v6 μ) → X45 v4 v5 v6 μ
def w_X6_bestTwo (a1 : Int32) (a2 : Int32) (a3 : Int32) (μ : Mem) (Q : Int32 → Mem → Prop) : Prop :=
  w_X6_isPost a1 μ (fun r1 => ((r1 = 0 → Q ((-1000000001) : Int32) μ) ∧ (¬ r1 = 0 → w_X6_isPost a2 μ (fun r3 => ((r3 = 0 → Q ((-1000000001) : Int32) μ) ∧ (¬ r3 = 0 → ((¬ a1 = a2 → w_X6_within a3 (nI 0) (nI 1) μ (fun r5 => ((¬ r5 = 0 → (w_X6_bestTwo_45 a1 a2 a3 ((-1) : Int32) ((-1) : Int32) (nI 0) μ Q)) ∧ (r5 = 0 → Q ((-1000000002) : Int32) μ)))) ∧ (a1 = a2 → Q ((-1000000001) : Int32) μ))))))))
abbrev rm_X6_bestTwo : Room := { frames := 6, cells := 0, slots := 0, locals := 154 }
/-- X6_lampCosts -/
def w_X6_lampCosts (a1 : Int32) (μ : Mem) (Q : Int32 → Mem → Prop) : Prop :=
  w_X6_within a1 (nI 0) (nI 99) μ (fun r1 => ((¬ r1 = 0 → w_X6_isBare  μ (fun r3 => ((r3 = 0 → w_X4_become 31 25 μ (fun μ6 => ∀ μ7 : Mem, μ7 = sI μ6 31 2 (nI 0) → w_X6_tryHours a1 μ7 (fun r8 μ9 => w_X4_become 31 25 μ9 (fun μ11 => ∀ μ12 : Mem, μ12 = sI μ11 31 2 (nI 1) → w_X6_tryHours a1 μ12 (fun r13 μ14 => Q (r8 - r13) μ14))))) ∧ (¬ r3 = 0 → Q ((-1000000003) : Int32) μ)))) ∧ (r1 = 0 → Q ((-1000000002) : Int32) μ)))
abbrev rm_X6_lampCosts : Room := { frames := 5, cells := 0, slots := 0, locals := 127 }
/-- X6_thirsty -/
def w_X6_thirsty_132 (a1 : Int32) (μ : Mem) (Q : Int32 → Mem → Prop) : Prop :=
  Q ((μ.1 31 0) - (μ.1 25 0)) μ
def s_X6_thirsty_45 (a1 : Int32) (v2 : Int32) (X45 : Int32 → Mem → Prop) (v3 : Int32) (μ : Mem) (Q : Int32 → Mem → Prop) : Prop :=
  (((nI 720) ≤ v3 → Q ((-1) : Int32) μ) ∧ (¬ (nI 720) ≤ v3 → (((nI 60) ≤ ((μ.1 31 0) - (μ.1 25 0)) → Q ((-1) : Int32) μ) ∧ (¬ (nI 60) ≤ ((μ.1 31 0) - (μ.1 25 0)) → w_X0_sideAt (μ.2.2 0) (μ.1 31 1) μ (fun r11 => w_X0_fogAt (μ.2.2 0) (μ.1 31 1) μ (fun r14 => w_X4_passHour 31 (μ.2.2 0) r11 r14 (nI 1) μ (fun r16 μ17 => w_X6_at (31 + 5) a1 μ17 (fun r18 => ((r18 ≤ v2 → ∀ x20 : Int32, x20 = v3 + (nI 1) → (X45 x20 μ17)) ∧ (¬ r18 ≤ v2 → (w_X6_thirsty_132 a1 μ17 Q)))))))))))
def w_X6_thirsty_45 (a1 : Int32) (v2 : Int32) (v3 : Int32) (μ : Mem) (Q : Int32 → Mem → Prop) : Prop :=
  ∀ X45 : Int32 → Mem → Prop, (∀ (v3 : Int32) (μ : Mem), s_X6_thirsty_45 a1 v2 X45 v3 μ Q → X45 v3 μ) → X45 v3 μ
def w_X6_thirsty (a1 : Int32) (μ : Mem) (Q : Int32 → Mem → Prop) : Prop :=
  w_X6_isVillage a1 μ (fun r1 => ((¬ r1 = 0 → w_X6_isBare  μ (fun r3 => ((r3 = 0 → w_X4_become 31 25 μ (fun μ6 => w_X6_at (25 + 5) a1 μ6 (fun r7 => (w_X6_thirsty_45 a1 r7 (nI 0) μ6 Q)))) ∧ (¬ r3 = 0 → Q ((-1000000003) : Int32) μ)))) ∧ (r1 = 0 → Q ((-1000000001) : Int32) μ)))
abbrev rm_X6_thirsty : Room := { frames := 4, cells := 0, slots := 0, locals := 103 }
/-- X6_lasts -/
def w_X6_lasts (a1 : Int32) (μ : Mem) (Q : Int32 → Prop) : Prop :=
  w_X6_isVillage a1 μ (fun r1 => ((¬ r1 = 0 → w_X6_at ((μ.2.2 0) + 8) a1 μ (fun r4 => ((0 < r4 → w_X6_at (25 + 4) a1 μ (fun r6 => (¬ r4 = 0 ∧ ∀ x8 : Int32, x8 = (if (nI 999) < (r6 / r4) then (nI 999) else (r6 / r4)) → Q x8))) ∧ (¬ 0 < r4 → Q (nI 999))))) ∧ (r1 = 0 → Q ((-1000000001) : Int32))))
abbrev rm_X6_lasts : Room := { frames := 2, cells := 0, slots := 0, locals := 42 }
/-- X6_both -/
def w_X6_both_60 (X12 : Int32 → Prop) (v1 : Int32) (μ : Mem) (Q : Int32 → Prop) : Prop :=
  ∀ x9 : Int32, x9 = v1 + (nI 1) → (X12 x9)
def s_X6_both_12 (μ : Mem) (X12 : Int32 → Prop) (v1 : Int32) (Q : Int32 → Prop) : Prop :=
  (((nI 7) ≤ v1 → Q ((-1) : Int32)) ∧ (¬ (nI 7) ≤ v1 → w_X0_hangsOn (μ.2.2 0) (nI 0) ((μ.1 25 0) + v1) μ (fun r4 => ((r4 = 0 → (w_X6_both_60 X12 v1 μ Q)) ∧ (¬ r4 = 0 → w_X0_hangsOn (μ.2.2 0) (nI 1) ((μ.1 25 0) + v1) μ (fun r7 => ((r7 = 0 → (w_X6_both_60 X12 v1 μ Q)) ∧ (¬ r7 = 0 → Q v1))))))))
def w_X6_both_12 (v1 : Int32) (μ : Mem) (Q : Int32 → Prop) : Prop :=
  ∀ X12 : Int32 → Prop, (∀ (v1 : Int32), s_X6_both_12 μ X12 v1 Q → X12 v1) → X12 v1
def w_X6_both (μ : Mem) (Q : Int32 → Prop) : Prop :=
  w_X6_isBare  μ (fun r1 => ((r1 = 0 → (w_X6_both_12 (nI 0) μ Q)) ∧ (¬ r1 = 0 → Q ((-1000000003) : Int32))))
abbrev rm_X6_both : Room := { frames := 2, cells := 0, slots := 0, locals := 43 }
/-- X6_apart -/
def w_X6_apart_72 (a1 : Int32) (X27 : Int32 → Int32 → Prop) (v2 : Int32) (v3 : Int32) (μ : Mem) (Q : Int32 → Prop) : Prop :=
  ∀ x12 : Int32, x12 = v3 + (nI 1) → (X27 v2 x12)
def s_X6_apart_27 (a1 : Int32) (μ : Mem) (X27 : Int32 → Int32 → Prop) (v2 : Int32) (v3 : Int32) (Q : Int32 → Prop) : Prop :=
  ((a1 ≤ v3 → Q v2) ∧ (¬ a1 ≤ v3 → w_X0_hangsOn (μ.2.2 0) (nI 0) ((μ.1 25 0) + v3) μ (fun r6 => w_X0_hangsOn (μ.2.2 0) (nI 1) ((μ.1 25 0) + v3) μ (fun r9 => ((r6 = r9 → (w_X6_apart_72 a1 X27 v2 v3 μ Q)) ∧ (¬ r6 = r9 → ∀ x11 : Int32, x11 = v2 + (nI 1) → (w_X6_apart_72 a1 X27 x11 v3 μ Q)))))))
def w_X6_apart_27 (a1 : Int32) (v2 : Int32) (v3 : Int32) (μ : Mem) (Q : Int32 → Prop) : Prop :=
  ∀ X27 : Int32 → Int32 → Prop, (∀ (v2 : Int32) (v3 : Int32), s_X6_apart_27 a1 μ X27 v2 v3 Q → X27 v2 v3) → X27 v2 v3
def w_X6_apart (a1 : Int32) (μ : Mem) (Q : Int32 → Prop) : Prop :=
  w_X6_within a1 (nI 0) (nI 99) μ (fun r1 => ((¬ r1 = 0 → w_X6_isBare  μ (fun r3 => ((r3 = 0 → (w_X6_apart_27 a1 (nI 0) (nI 0) μ Q)) ∧ (¬ r3 = 0 → Q ((-1000000003) : Int32))))) ∧ (r1 = 0 → Q ((-1000000002) : Int32))))
abbrev rm_X6_apart : Room := { frames := 2, cells := 0, slots := 0, locals := 43 }
/-- J6_bitCount_0f7a4 -/
def w_J6_bitCount_0f7a4 (a0 : Int32) (μ : Mem) (Q : Int32 → Prop) : Prop :=
  ∀ x1 : Int32, x1 = (((a0).toUInt32 >>> (((nI 1)).toUInt32 &&& Int32.toUInt32 31)).toInt32) → ∀ x2 : Int32, x2 = (a0 - (x1 &&& (nI 1431655765))) → ∀ x3 : Int32, x3 = (((x2).toUInt32 >>> (((nI 2)).toUInt32 &&& Int32.toUInt32 31)).toInt32) → ∀ x4 : Int32, x4 = ((x2 &&& (nI 858993459)) + (x3 &&& (nI 858993459))) → ∀ x5 : Int32, x5 = (((x4).toUInt32 >>> (((nI 4)).toUInt32 &&& Int32.toUInt32 31)).toInt32) → ∀ x6 : Int32, x6 = ((x4 + x5) &&& (nI 252645135)) → ∀ x7 : Int32, x7 = (((x6).toUInt32 >>> (((nI 8)).toUInt32 &&& Int32.toUInt32 31)).toInt32) → ∀ x8 : Int32, x8 = (x6 + x7) → ∀ x9 : Int32, x9 = (((x8).toUInt32 >>> (((nI 16)).toUInt32 &&& Int32.toUInt32 31)).toInt32) → ∀ x10 : Int32, x10 = (x8 + x9) → Q (x10 &&& (nI 63))
abbrev rm_J6_bitCount_0f7a4 : Room := { frames := 0, cells := 0, slots := 0, locals := 0 }
/-- X6_share -/
def w_X6_share_110 (a1 : Int32) (a2 : Int32) (v3 : Int32) (v6 : Int32) (v7 : Int32) (s1 : Int32) (μ : Mem) (Q : Int32 → Prop) : Prop :=
  (¬ v3 = 0 ∧ ((¬ a2 = v7 → Q ((s1 / v3) + (nI 0))) ∧ (a2 = v7 → Q ((s1 / v3) + v6))))
def w_X6_share_97 (a1 : Int32) (a2 : Int32) (v3 : Int32) (v4 : Int32) (v5 : Int32) (v6 : Int32) (s1 : Int32) (μ : Mem) (Q : Int32 → Prop) : Prop :=
  ((¬ a2 = 0 → (w_X6_share_110 a1 a2 v3 v6 s1 v5 μ Q)) ∧ (a2 = 0 → (w_X6_share_110 a1 a2 v3 v6 s1 v4 μ Q)))
def w_X6_share (a1 : Int32) (a2 : Int32) (μ : Mem) (Q : Int32 → Prop) : Prop :=
  w_X6_isVillage a2 μ (fun r1 => ((¬ r1 = 0 → w_X6_within a1 (nI 0) (nI 999) μ (fun r3 => ((¬ r3 = 0 → ∀ x6 : Int32, x6 = (μ.1 (μ.2.2 0) 3) → ((0 < x6 → w_X0_postsOf (μ.2.2 0) (nI 0) μ (fun r8 => w_J6_bitCount_0f7a4 r8 μ (fun r10 => ∀ x12 : Int32, x12 = (a1 * r10) → w_X0_postsOf (μ.2.2 0) (nI 1) μ (fun r14 => w_J6_bitCount_0f7a4 r14 μ (fun r16 => ∀ x18 : Int32, x18 = (a1 * r16) → (¬ x6 = 0 ∧ (¬ x6 = 0 ∧ ∀ x19 : Int32, x19 = ((a1 - (x12 / x6)) - (x18 / x6)) → (¬ x6 = 0 ∧ ∀ x20 : Int32, x20 = (x12 - x12 / x6 * x6) → (¬ x6 = 0 ∧ ∀ x21 : Int32, x21 = (x18 - x18 / x6 * x6) → ((x20 < x21 → (w_X6_share_97 a1 a2 x6 x12 x18 x19 (nI 1) μ Q)) ∧ (¬ x20 < x21 → (w_X6_share_97 a1 a2 x6 x12 x18 x19 (nI 0) μ Q)))))))))))) ∧ (¬ 0 < x6 → Q (nI 0)))) ∧ (r3 = 0 → Q ((-1000000002) : Int32))))) ∧ (r1 = 0 → Q ((-1000000001) : Int32))))
abbrev rm_X6_share : Room := { frames := 2, cells := 0, slots := 0, locals := 42 }
/-- X6_led -/
def w_X6_led (a1 : Int32) (a2 : Int32) (a3 : Int32) (μ : Mem) (Q : Int32 → Mem → Prop) : Prop :=
  w_X6_within a1 (nI 0) (nI 99) μ (fun r1 => ((r1 = 0 → Q ((-1000000002) : Int32) μ) ∧ (¬ r1 = 0 → w_X6_within a2 (nI 0) (nI 1) μ (fun r3 => ((r3 = 0 → Q ((-1000000002) : Int32) μ) ∧ (¬ r3 = 0 → w_X6_within a3 (nI 0) (a1 - (nI 1)) μ (fun r5 => ((¬ r5 = 0 → w_X6_isBare  μ (fun r7 => ((r7 = 0 → w_X4_hanging 25 (μ.2.2 0) μ (fun r11 => w_X5_blow 25 (μ.1 (μ.2.2 0) 0) r11 a2 a1 μ (fun μ14 => w_X5_takerOf a3 μ14 (fun r15 => Q r15 μ14)))) ∧ (¬ r7 = 0 → Q ((-1000000003) : Int32) μ)))) ∧ (r5 = 0 → Q ((-1000000002) : Int32) μ)))))))))
abbrev rm_X6_led : Room := { frames := 3, cells := 0, slots := 0, locals := 75 }
/-- X6_yards -/
def w_X6_yards_131 (a1 : Int32) (a2 : Int32) (v4 : Int32) (v5 : Int32) (μ : Mem) (Q : Int32 → Prop) : Prop :=
  ((¬ a2 = 0 → Q v4) ∧ (a2 = 0 → Q v5))
def w_X6_yards_125 (a1 : Int32) (a2 : Int32) (X44 : Int32 → Int32 → Int32 → Prop) (v3 : Int32) (v4 : Int32) (v5 : Int32) (v6 : Int32) (μ : Mem) (Q : Int32 → Prop) : Prop :=
  ∀ x14 : Int32, x14 = v6 + (nI 1) → (X44 v4 v5 x14)
def w_X6_yards_117 (a1 : Int32) (a2 : Int32) (X44 : Int32 → Int32 → Int32 → Prop) (v3 : Int32) (v6 : Int32) (v7 : Int32) (v8 : Int32) (μ : Mem) (Q : Int32 → Prop) : Prop :=
  (w_X6_yards_125 a1 a2 X44 v3 v7 v8 v6 μ Q)
def s_X6_yards_44 (a1 : Int32) (a2 : Int32) (v3 : Int32) (μ : Mem) (X44 : Int32 → Int32 → Int32 → Prop) (v4 : Int32) (v5 : Int32) (v6 : Int32) (Q : Int32 → Prop) : Prop :=
  (((μ.1 (μ.2.2 0) 0) ≤ v6 → (w_X6_yards_131 a1 a2 v4 v5 μ Q)) ∧ (¬ (μ.1 (μ.2.2 0) 0) ≤ v6 → (((nI 12) ≤ v6 → (w_X6_yards_131 a1 a2 v4 v5 μ Q)) ∧ (¬ (nI 12) ≤ v6 → w_X4_postIn 25 v6 μ (fun r9 => ∀ x11 : Int32, x11 = (if 0 ≤ (v6 - v3) then (v6 - v3) else 0 - (v6 - v3)) → ((r9 = ((-1) : Int32) → (w_X6_yards_125 a1 a2 X44 v3 v4 v5 v6 μ Q)) ∧ (¬ r9 = ((-1) : Int32) → w_X6_at (25 + 3) r9 μ (fun r12 => ((r12 ≤ 0 → (w_X6_yards_125 a1 a2 X44 v3 v4 v5 v6 μ Q)) ∧ (¬ r12 ≤ 0 → ((v4 = ((-1) : Int32) → (w_X6_yards_117 a1 a2 X44 v3 v6 r9 x11 μ Q)) ∧ (¬ v4 = ((-1) : Int32) → ((v5 ≤ x11 → (w_X6_yards_125 a1 a2 X44 v3 v4 v5 v6 μ Q)) ∧ (¬ v5 ≤ x11 → (w_X6_yards_117 a1 a2 X44 v3 v6 r9 x11 μ Q)))))))))))))))
def w_X6_yards_44 (a1 : Int32) (a2 : Int32) (v3 : Int32) (v4 : Int32) (v5 : Int32) (v6 : Int32) (μ : Mem) (Q : Int32 → Prop) : Prop :=
  ∀ X44 : Int32 → Int32 → Int32 → Prop, (∀ (v4 : Int32) (v5 : Int32) (v6 : Int32), s_X6_yards_44 a1 a2 v3 μ X44 v4 v5 v6 Q → X44 v4 v5 v6) → X44 v4 v5 v6
def w_X6_yards (a1 : Int32) (a2 : Int32) (μ : Mem) (Q : Int32 → Prop) : Prop :=
  w_X6_isGoat a1 μ (fun r1 => ((¬ r1 = 0 → w_X6_within a2 (nI 0) (nI 1) μ (fun r3 => ((¬ r3 = 0 → w_X6_at ((μ.2.2 0) + 9) a1 μ (fun r6 => (w_X6_yards_44 a1 a2 r6 ((-1) : Int32) ((-1) : Int32) (nI 0) μ Q))) ∧ (r3 = 0 → Q ((-1000000002) : Int32))))) ∧ (r1 = 0 → Q ((-1000000001) : Int32))))
abbrev rm_X6_yards : Room := { frames := 2, cells := 0, slots := 0, locals := 43 }
/-- X6_clear -/
def s_X6_clear_30 (a1 : Int32) (a2 : Int32) (μ : Mem) (X30 : Int64 → Int32 → Prop) (v3 : Int64) (v5 : Int32) (Q : Int32 → Prop) : Prop :=
  ((a1 ≤ v5 → Q (v3).toInt32) ∧ (¬ a1 ≤ v5 → (¬ (lN 100) = 0 ∧ ∀ x5 : Int64, x5 = ((v3 * (a2).toInt64) / (lN 100)) → ∀ x6 : Int32, x6 = v5 + (nI 1) → (X30 x5 x6))))
def w_X6_clear_30 (a1 : Int32) (a2 : Int32) (v3 : Int64) (v5 : Int32) (μ : Mem) (Q : Int32 → Prop) : Prop :=
  ∀ X30 : Int64 → Int32 → Prop, (∀ (v3 : Int64) (v5 : Int32), s_X6_clear_30 a1 a2 μ X30 v3 v5 Q → X30 v3 v5) → X30 v3 v5
def w_X6_clear (a1 : Int32) (a2 : Int32) (μ : Mem) (Q : Int32 → Prop) : Prop :=
  w_X6_within a1 (nI 0) (nI 60) μ (fun r1 => ((r1 = 0 → Q ((-1000000002) : Int32)) ∧ (¬ r1 = 0 → w_X6_within a2 (nI 0) (nI 100) μ (fun r3 => ((¬ r3 = 0 → (w_X6_clear_30 a1 a2 (lN 1000000000) (nI 0) μ Q)) ∧ (r3 = 0 → Q ((-1000000002) : Int32)))))))
abbrev rm_X6_clear : Room := { frames := 1, cells := 0, slots := 0, locals := 22 }
/-- X6_got -/
def w_X6_got (a1 : Int32) (a2 : Int32) (a3 : Int32) (μ : Mem) (Q : Int32 → Mem → Prop) : Prop :=
  w_X6_isPost a1 μ (fun r1 => ((¬ r1 = 0 → w_X6_within a2 (nI 0) (nI 1) μ (fun r3 => ((r3 = 0 → Q ((-1000000002) : Int32) μ) ∧ (¬ r3 = 0 → w_X6_within a3 (nI 0) (nI 40) μ (fun r5 => ((¬ r5 = 0 → (((μ.1 237 3) < (nI 6) → w_X1_note 237 a1 a2 a3 μ (fun r7 μ8 => Q r7 μ8)) ∧ (¬ (μ.1 237 3) < (nI 6) → Q ((-1000000004) : Int32) μ))) ∧ (r5 = 0 → Q ((-1000000002) : Int32) μ))))))) ∧ (r1 = 0 → Q ((-1000000001) : Int32) μ)))
abbrev rm_X6_got : Room := { frames := 2, cells := 0, slots := 0, locals := 45 }
/-- X6_takenOf -/
def w_X6_takenOf (a1 : Int32) (a2 : Int32) (a3 : Int32) (μ : Mem) (Q : Int32 → Mem → Prop) : Prop :=
  w_X4_hanging 25 (μ.2.2 0) μ (fun r3 => w_X5_blow 25 (μ.1 (μ.2.2 0) 0) r3 a2 a3 μ (fun μ6 => w_X6_at 39 a1 μ6 (fun r7 => Q r7 μ6)))
abbrev rm_X6_takenOf : Room := { frames := 3, cells := 0, slots := 0, locals := 75 }
/-- X6_fitsAll -/
def s_X6_fitsAll_2 (a1 : Int32) (X2 : Int32 → Mem → Prop) (v2 : Int32) (μ : Mem) (Q : Int32 → Mem → Prop) : Prop :=
  (((μ.1 237 3) ≤ v2 → Q (nI 1) μ) ∧ (¬ (μ.1 237 3) ≤ v2 → (((nI 6) ≤ v2 → Q (nI 1) μ) ∧ (¬ (nI 6) ≤ v2 → w_X6_at (237 + 1) v2 μ (fun r1 => w_X6_at (237 + 2) v2 μ (fun r3 => w_X6_takenOf r1 r3 a1 μ (fun r5 μ6 => w_X6_at (237 + 3) v2 μ6 (fun r7 => ((r5 = r7 → ∀ x9 : Int32, x9 = v2 + (nI 1) → (X2 x9 μ6)) ∧ (¬ r5 = r7 → Q (nI 0) μ6))))))))))
def w_X6_fitsAll_2 (a1 : Int32) (v2 : Int32) (μ : Mem) (Q : Int32 → Mem → Prop) : Prop :=
  ∀ X2 : Int32 → Mem → Prop, (∀ (v2 : Int32) (μ : Mem), s_X6_fitsAll_2 a1 X2 v2 μ Q → X2 v2 μ) → X2 v2 μ
def w_X6_fitsAll (a1 : Int32) (μ : Mem) (Q : Int32 → Mem → Prop) : Prop :=
  (w_X6_fitsAll_2 a1 (nI 0) μ Q)
abbrev rm_X6_fitsAll : Room := { frames := 4, cells := 0, slots := 0, locals := 98 }
/-- X6_fitting -/
def w_X6_fitting_24 (X4 : Int64 → Int32 → Mem → Prop) (v1 : Int64) (v3 : Int32) (μ : Mem) (Q : Int64 → Mem → Prop) : Prop :=
  ∀ x4 : Int32, x4 = v3 + (nI 1) → (X4 v1 x4 μ)
def s_X6_fitting_4  (X4 : Int64 → Int32 → Mem → Prop) (v1 : Int64) (v3 : Int32) (μ : Mem) (Q : Int64 → Mem → Prop) : Prop :=
  (((nI 40) < v3 → Q v1 μ) ∧ (¬ (nI 40) < v3 → w_X6_fitsAll v3 μ (fun r1 μ2 => ((r1 = 0 → (w_X6_fitting_24 X4 v1 v3 μ2 Q)) ∧ (¬ r1 = 0 → ∀ x3 : Int64, x3 = (v1 ||| ((lN 1) <<< ((v3).toInt64 &&& 63))) → (w_X6_fitting_24 X4 x3 v3 μ2 Q))))))
def w_X6_fitting_4 (v1 : Int64) (v3 : Int32) (μ : Mem) (Q : Int64 → Mem → Prop) : Prop :=
  ∀ X4 : Int64 → Int32 → Mem → Prop, (∀ (v1 : Int64) (v3 : Int32) (μ : Mem), s_X6_fitting_4  X4 v1 v3 μ Q → X4 v1 v3 μ) → X4 v1 v3 μ
def w_X6_fitting (μ : Mem) (Q : Int64 → Mem → Prop) : Prop :=
  (w_X6_fitting_4 (lN 0) (nI 0) μ Q)
abbrev rm_X6_fitting : Room := { frames := 5, cells := 0, slots := 0, locals := 121 }
/-- J13_bitCount_95d88 -/
def w_J13_bitCount_95d88 (a0 : Int64) (μ : Mem) (Q : Int32 → Prop) : Prop :=
  ∀ x1 : Int64, x1 = (((a0).toUInt64 >>> (((nI 1)).toInt64.toUInt64 &&& Int64.toUInt64 63)).toInt64) → ∀ x2 : Int64, x2 = (a0 - (x1 &&& (lN 6148914691236517205))) → ∀ x3 : Int64, x3 = (((x2).toUInt64 >>> (((nI 2)).toInt64.toUInt64 &&& Int64.toUInt64 63)).toInt64) → ∀ x4 : Int64, x4 = ((x2 &&& (lN 3689348814741910323)) + (x3 &&& (lN 3689348814741910323))) → ∀ x5 : Int64, x5 = (((x4).toUInt64 >>> (((nI 4)).toInt64.toUInt64 &&& Int64.toUInt64 63)).toInt64) → ∀ x6 : Int64, x6 = ((x4 + x5) &&& (lN 1085102592571150095)) → ∀ x7 : Int64, x7 = (((x6).toUInt64 >>> (((nI 8)).toInt64.toUInt64 &&& Int64.toUInt64 63)).toInt64) → ∀ x8 : Int64, x8 = (x6 + x7) → ∀ x9 : Int64, x9 = (((x8).toUInt64 >>> (((nI 16)).toInt64.toUInt64 &&& Int64.toUInt64 63)).toInt64) → ∀ x10 : Int64, x10 = (x8 + x9) → ∀ x11 : Int64, x11 = (((x10).toUInt64 >>> (((nI 32)).toInt64.toUInt64 &&& Int64.toUInt64 63)).toInt64) → ∀ x12 : Int64, x12 = (x10 + x11) → Q ((x12).toInt32 &&& (nI 127))
abbrev rm_J13_bitCount_95d88 : Room := { frames := 0, cells := 0, slots := 0, locals := 0 }
/-- X6_thick -/
def w_X6_thick_87 (a1 : Int32) (X42 : Int32 → Int32 → Prop) (v2 : Int64) (v4 : Int32) (v5 : Int32) (μ : Mem) (Q : Int32 → Mem → Prop) : Prop :=
  ∀ x9 : Int32, x9 = v5 + (nI 1) → (X42 v4 x9)
def w_X6_thick_83 (a1 : Int32) (X42 : Int32 → Int32 → Prop) (v2 : Int64) (v5 : Int32) (μ : Mem) (Q : Int32 → Mem → Prop) : Prop :=
  (w_X6_thick_87 a1 X42 v2 v5 v5 μ Q)
def w_X6_thick_65 (a1 : Int32) (X42 : Int32 → Int32 → Prop) (v2 : Int64) (v4 : Int32) (v5 : Int32) (s1 : Int32) (μ : Mem) (Q : Int32 → Mem → Prop) : Prop :=
  ((s1 = 0 → (w_X6_thick_87 a1 X42 v2 v4 v5 μ Q)) ∧ (¬ s1 = 0 → ((a1 = (nI 2) → (w_X6_thick_83 a1 X42 v2 v5 μ Q)) ∧ (¬ a1 = (nI 2) → ((¬ v4 = ((-1) : Int32) → (w_X6_thick_87 a1 X42 v2 v4 v5 μ Q)) ∧ (v4 = ((-1) : Int32) → (w_X6_thick_83 a1 X42 v2 v5 μ Q)))))))
def s_X6_thick_42 (a1 : Int32) (v2 : Int64) (μ : Mem) (X42 : Int32 → Int32 → Prop) (v4 : Int32) (v5 : Int32) (Q : Int32 → Mem → Prop) : Prop :=
  (((nI 40) < v5 → Q v4 μ) ∧ (¬ (nI 40) < v5 → ((¬ (lg_cmp ((v2 >>> ((v5).toInt64 &&& 63)) &&& (lN 1)) (lN 1)) = 0 → (w_X6_thick_65 a1 X42 v2 v4 v5 (nI 0) μ Q)) ∧ ((lg_cmp ((v2 >>> ((v5).toInt64 &&& 63)) &&& (lN 1)) (lN 1)) = 0 → (w_X6_thick_65 a1 X42 v2 v4 v5 (nI 1) μ Q)))))
def w_X6_thick_42 (a1 : Int32) (v2 : Int64) (v4 : Int32) (v5 : Int32) (μ : Mem) (Q : Int32 → Mem → Prop) : Prop :=
  ∀ X42 : Int32 → Int32 → Prop, (∀ (v4 : Int32) (v5 : Int32), s_X6_thick_42 a1 v2 μ X42 v4 v5 Q → X42 v4 v5) → X42 v4 v5
def w_X6_thick (a1 : Int32) (μ : Mem) (Q : Int32 → Mem → Prop) : Prop :=
  w_X6_within a1 (nI 0) (nI 2) μ (fun r1 => ((¬ r1 = 0 → w_X6_isBare  μ (fun r3 => ((r3 = 0 → w_X6_fitting  μ (fun r5 μ6 => ((¬ a1 = 0 → (w_X6_thick_42 a1 r5 ((-1) : Int32) (nI 0) μ6 Q)) ∧ (a1 = 0 → w_J13_bitCount_95d88 r5 μ6 (fun r7 => Q r7 μ6))))) ∧ (¬ r3 = 0 → Q ((-1000000003) : Int32) μ)))) ∧ (r1 = 0 → Q ((-1000000002) : Int32) μ)))
abbrev rm_X6_thick : Room := { frames := 6, cells := 0, slots := 0, locals := 144 }
/-- X6_greatestPart -/
def w_X6_greatestPart_95 (a1 : Int64) (a3 : Int32) (a4 : Int32) (X30 : Int32 → Int32 → Mem → Prop) (v5 : Int32) (v6 : Int32) (μ : Mem) (Q : Int32 → Mem → Prop) : Prop :=
  ∀ x11 : Int32, x11 = v6 + (nI 1) → (X30 v5 x11 μ)
def s_X6_greatestPart_30 (a1 : Int64) (a3 : Int32) (a4 : Int32) (X30 : Int32 → Int32 → Mem → Prop) (v5 : Int32) (v6 : Int32) (μ : Mem) (Q : Int32 → Mem → Prop) : Prop :=
  (((nI 40) < v6 → Q v5 μ) ∧ (¬ (nI 40) < v6 → ((¬ (lg_cmp ((a1 >>> ((v6).toInt64 &&& 63)) &&& (lN 1)) (lN 0)) = 0 → w_X6_takenOf a3 a4 v6 μ (fun r3 μ4 => w_X6_at 245 r3 μ4 (fun r5 => ∀ x7 : Int32, x7 = (r5 + (nI 1)) → w_X6_put 245 r3 x7 μ4 (fun μ9 => ∀ x10 : Int32, x10 = (if v5 < x7 then x7 else v5) → (w_X6_greatestPart_95 a1 a3 a4 X30 x10 v6 μ9 Q))))) ∧ ((lg_cmp ((a1 >>> ((v6).toInt64 &&& 63)) &&& (lN 1)) (lN 0)) = 0 → (w_X6_greatestPart_95 a1 a3 a4 X30 v5 v6 μ Q)))))
def w_X6_greatestPart_30 (a1 : Int64) (a3 : Int32) (a4 : Int32) (v5 : Int32) (v6 : Int32) (μ : Mem) (Q : Int32 → Mem → Prop) : Prop :=
  ∀ X30 : Int32 → Int32 → Mem → Prop, (∀ (v5 : Int32) (v6 : Int32) (μ : Mem), s_X6_greatestPart_30 a1 a3 a4 X30 v5 v6 μ Q → X30 v5 v6 μ) → X30 v5 v6 μ
def w_X6_greatestPart_24 (a1 : Int64) (a3 : Int32) (a4 : Int32) (μ : Mem) (Q : Int32 → Mem → Prop) : Prop :=
  (w_X6_greatestPart_30 a1 a3 a4 (nI 0) (nI 0) μ Q)
def s_X6_greatestPart_3 (a1 : Int64) (a3 : Int32) (a4 : Int32) (X3 : Int32 → Mem → Prop) (v5 : Int32) (μ : Mem) (Q : Int32 → Mem → Prop) : Prop :=
  (((nI 40) < v5 → (w_X6_greatestPart_24 a1 a3 a4 μ Q)) ∧ (¬ (nI 40) < v5 → (vp_in v5 41 ∧ ∀ μ1 : Mem, μ1 = sI μ 245 (v5).toNatClampNeg (nI 0) → ∀ x2 : Int32, x2 = v5 + (nI 1) → (X3 x2 μ1))))
def w_X6_greatestPart_3 (a1 : Int64) (a3 : Int32) (a4 : Int32) (v5 : Int32) (μ : Mem) (Q : Int32 → Mem → Prop) : Prop :=
  ∀ X3 : Int32 → Mem → Prop, (∀ (v5 : Int32) (μ : Mem), s_X6_greatestPart_3 a1 a3 a4 X3 v5 μ Q → X3 v5 μ) → X3 v5 μ
def w_X6_greatestPart (a1 : Int64) (a3 : Int32) (a4 : Int32) (μ : Mem) (Q : Int32 → Mem → Prop) : Prop :=
  (w_X6_greatestPart_3 a1 a3 a4 (nI 0) μ Q)
abbrev rm_X6_greatestPart : Room := { frames := 4, cells := 0, slots := 0, locals := 98 }
/-- X6_lookAt -/
def w_X6_lookAt_83 (a1 : Int32) (X39 : Int32 → Int32 → Int32 → Mem → Prop) (v2 : Int64) (v4 : Int32) (v5 : Int32) (v6 : Int32) (μ : Mem) (Q : Int32 → Mem → Prop) : Prop :=
  ∀ x13 : Int32, x13 = v6 + (nI 1) → (X39 v4 v5 x13 μ)
def s_X6_lookAt_39 (a1 : Int32) (v2 : Int64) (X39 : Int32 → Int32 → Int32 → Mem → Prop) (v4 : Int32) (v5 : Int32) (v6 : Int32) (μ : Mem) (Q : Int32 → Mem → Prop) : Prop :=
  (((nI 6) ≤ v6 → Q v4 μ) ∧ (¬ (nI 6) ≤ v6 → w_X6_isPost v6 μ (fun r9 => ((¬ r9 = 0 → w_X6_greatestPart v2 v6 a1 μ (fun r11 μ12 => ((v5 ≤ r11 → (w_X6_lookAt_83 a1 X39 v2 v4 v5 v6 μ12 Q)) ∧ (¬ v5 ≤ r11 → (w_X6_lookAt_83 a1 X39 v2 v6 r11 v6 μ12 Q))))) ∧ (r9 = 0 → (w_X6_lookAt_83 a1 X39 v2 v4 v5 v6 μ Q))))))
def w_X6_lookAt_39 (a1 : Int32) (v2 : Int64) (v4 : Int32) (v5 : Int32) (v6 : Int32) (μ : Mem) (Q : Int32 → Mem → Prop) : Prop :=
  ∀ X39 : Int32 → Int32 → Int32 → Mem → Prop, (∀ (v4 : Int32) (v5 : Int32) (v6 : Int32) (μ : Mem), s_X6_lookAt_39 a1 v2 X39 v4 v5 v6 μ Q → X39 v4 v5 v6 μ) → X39 v4 v5 v6 μ
def w_X6_lookAt (a1 : Int32) (μ : Mem) (Q : Int32 → Mem → Prop) : Prop :=
  w_X6_within a1 (nI 0) (nI 1) μ (fun r1 => ((¬ r1 = 0 → w_X6_isBare  μ (fun r3 => ((r3 = 0 → w_X6_fitting  μ (fun r5 μ6 => w_J13_bitCount_95d88 r5 μ6 (fun r7 => (w_X6_lookAt_39 a1 r5 ((-1) : Int32) r7 (nI 0) μ6 Q)))) ∧ (¬ r3 = 0 → Q ((-1000000003) : Int32) μ)))) ∧ (r1 = 0 → Q ((-1000000002) : Int32) μ)))
abbrev rm_X6_lookAt : Room := { frames := 6, cells := 0, slots := 0, locals := 144 }
/-- X6_needs -/
def s_X6_needs_36 (a1 : Int32) (a2 : Int32) (a3 : Int32) (X36 : Int32 → Mem → Prop) (v4 : Int32) (μ : Mem) (Q : Int32 → Mem → Prop) : Prop :=
  (((nI 40) < v4 → Q ((-1) : Int32) μ) ∧ (¬ (nI 40) < v4 → w_X6_takenOf a1 a2 v4 μ (fun r7 μ8 => ((r7 < a3 → ∀ x9 : Int32, x9 = v4 + (nI 1) → (X36 x9 μ8)) ∧ (¬ r7 < a3 → Q v4 μ8)))))
def w_X6_needs_36 (a1 : Int32) (a2 : Int32) (a3 : Int32) (v4 : Int32) (μ : Mem) (Q : Int32 → Mem → Prop) : Prop :=
  ∀ X36 : Int32 → Mem → Prop, (∀ (v4 : Int32) (μ : Mem), s_X6_needs_36 a1 a2 a3 X36 v4 μ Q → X36 v4 μ) → X36 v4 μ
def w_X6_needs (a1 : Int32) (a2 : Int32) (a3 : Int32) (μ : Mem) (Q : Int32 → Mem → Prop) : Prop :=
  w_X6_isPost a1 μ (fun r1 => ((¬ r1 = 0 → w_X6_within a2 (nI 0) (nI 1) μ (fun r3 => ((r3 = 0 → Q ((-1000000002) : Int32) μ) ∧ (¬ r3 = 0 → w_X6_within a3 (nI 0) (nI 40) μ (fun r5 => ((¬ r5 = 0 → (w_X6_needs_36 a1 a2 a3 (nI 0) μ Q)) ∧ (r5 = 0 → Q ((-1000000002) : Int32) μ))))))) ∧ (r1 = 0 → Q ((-1000000001) : Int32) μ)))
abbrev rm_X6_needs : Room := { frames := 4, cells := 0, slots := 0, locals := 98 }
/-- X6_write -/
def w_X6_write (a1 : Int32) (a2 : Int32) (μ : Mem) (Q : Int32 → Mem → Prop) : Prop :=
  w_X6_isPost a1 μ (fun r1 => ((¬ r1 = 0 → w_X6_within a2 (nI 0) (nI 99) μ (fun r3 => ((¬ r3 = 0 → (((μ.1 241 3) < (nI 20) → w_X1_note 241 a1 (nI 0) a2 μ (fun r5 μ6 => Q r5 μ6)) ∧ (¬ (μ.1 241 3) < (nI 20) → Q ((-1000000004) : Int32) μ))) ∧ (r3 = 0 → Q ((-1000000002) : Int32) μ)))) ∧ (r1 = 0 → Q ((-1000000001) : Int32) μ)))
abbrev rm_X6_write : Room := { frames := 2, cells := 0, slots := 0, locals := 45 }
/-- X6_judge -/
def s_X6_judge_2 (μ : Mem) (X2 : Int32 → Prop) (v1 : Int32) (Q : Int32 → Prop) : Prop :=
  (((μ.1 241 3) ≤ v1 → Q ((-1) : Int32)) ∧ (¬ (μ.1 241 3) ≤ v1 → (((nI 20) ≤ v1 → Q ((-1) : Int32)) ∧ (¬ (nI 20) ≤ v1 → w_X6_at (241 + 1) v1 μ (fun r1 => w_X6_at (25 + 3) r1 μ (fun r3 => w_X6_at (241 + 3) v1 μ (fun r5 => ((r3 = r5 → ∀ x7 : Int32, x7 = v1 + (nI 1) → (X2 x7)) ∧ (¬ r3 = r5 → Q v1)))))))))
def w_X6_judge_2 (v1 : Int32) (μ : Mem) (Q : Int32 → Prop) : Prop :=
  ∀ X2 : Int32 → Prop, (∀ (v1 : Int32), s_X6_judge_2 μ X2 v1 Q → X2 v1) → X2 v1
def w_X6_judge (μ : Mem) (Q : Int32 → Prop) : Prop :=
  (w_X6_judge_2 (nI 0) μ Q)
abbrev rm_X6_judge : Room := { frames := 1, cells := 0, slots := 0, locals := 21 }
/-- X6_tear -/
def w_X6_tear (μ : Mem) (Q : Int32 → Mem → Prop) : Prop :=
  ∀ x1 : Int32, x1 = ((μ.1 237 3) + (μ.1 241 3)) → ∀ μ2 : Mem, μ2 = sI μ 237 3 (nI 0) → ∀ μ3 : Mem, μ3 = sI μ2 241 3 (nI 0) → Q x1 μ3
abbrev rm_X6_tear : Room := { frames := 0, cells := 0, slots := 0, locals := 0 }
/-- X6_seed -/
def w_X6_seed (a1 : Int32) (μ : Mem) (Q : Int32 → Mem → Prop) : Prop :=
  ((0 ≤ a1 → ∀ x1 : Int32, x1 = (μ.1 0 10) → ∀ μ2 : Mem, μ2 = sI μ 0 10 a1 → Q x1 μ2) ∧ (¬ 0 ≤ a1 → Q ((-1000000002) : Int32) μ))
abbrev rm_X6_seed : Room := { frames := 0, cells := 0, slots := 0, locals := 0 }
/-- X6_imageOf -/
def w_X6_imageOf (a1 : Int32) (μ : Mem) (Q : Option Nat → Prop) : Prop :=
  ((a1 < 0 → Q none) ∧ (¬ a1 < 0 → (((nI 2) ≤ a1 → Q none) ∧ (¬ (nI 2) ≤ a1 → (((nI 2) ≤ a1 → Q none) ∧ (¬ (nI 2) ≤ a1 → (vp_in a1 2 ∧ (sF.2.1 (224 + 6 * (a1).toNatClampNeg) = 4 ∧ Q (some (224 + 6 * (a1).toNatClampNeg))))))))))
abbrev rm_X6_imageOf : Room := { frames := 0, cells := 0, slots := 0, locals := 0 }
/-- X6_keep -/
def w_X6_keep (a1 : Int32) (μ : Mem) (Q : Int32 → Mem → Prop) : Prop :=
  w_X6_imageOf a1 μ (fun r1 => (r1 = none → Q ((-1000000001) : Int32) μ) ∧ (∀ b3 : Nat, r1 = some b3 → (sF.2.1 b3 = 4 ∧ w_X4_become b3 25 μ (fun μ5 => w_X6_put 236 a1 (μ5.1 0 10) μ5 (fun μ7 => ∀ μ8 : Mem, μ8 = sI μ7 41 2 (nI 0) → Q (nI 1) μ8)))))
abbrev rm_X6_keep : Room := { frames := 2, cells := 0, slots := 0, locals := 81 }
/-- X6_goBack -/
def w_X6_goBack (a1 : Int32) (μ : Mem) (Q : Int32 → Mem → Prop) : Prop :=
  w_X6_imageOf a1 μ (fun r1 => (r1 = none → Q ((-1000000001) : Int32) μ) ∧ (∀ b3 : Nat, r1 = some b3 → (sF.2.1 b3 = 4 ∧ w_X6_at 236 a1 μ (fun r4 => ((¬ r4 = ((-1) : Int32) → w_X4_become 25 b3 μ (fun μ7 => ∀ μ8 : Mem, μ8 = sI μ7 0 10 r4 → ∀ μ9 : Mem, μ9 = sI μ8 41 2 (nI 0) → Q (nI 1) μ9)) ∧ (r4 = ((-1) : Int32) → Q ((-1000000003) : Int32) μ))))))
abbrev rm_X6_goBack : Room := { frames := 2, cells := 0, slots := 0, locals := 81 }
/-- X7_in -/
def w_X7_in (a0 : Int32) (a1 : Int32) (a2 : Int32) (μ : Mem) (Q : Int32 → Prop) : Prop :=
  ((a0 < a1 → Q (nI 0)) ∧ (¬ a0 < a1 → ((a2 < a0 → Q (nI 0)) ∧ (¬ a2 < a0 → Q (nI 1)))))
abbrev rm_X7_in : Room := { frames := 0, cells := 0, slots := 0, locals := 0 }
/-- X7_has -/
def w_X7_has (a0 : Int32) (a1 : Int32) (μ : Mem) (Q : Int32 → Prop) : Prop :=
  ((¬ ((a0 >>> (a1 &&& 31)) &&& (nI 1)) = (nI 1) → Q (nI 0)) ∧ (((a0 >>> (a1 &&& 31)) &&& (nI 1)) = (nI 1) → Q (nI 1)))
abbrev rm_X7_has : Room := { frames := 0, cells := 0, slots := 0, locals := 0 }
/-- X7_feed -/
def w_X7_feed (a1 : Int32) (μ : Mem) (Q : Int32 → Mem → Prop) : Prop :=
  w_X7_in a1 (nI 0) (nI 255) μ (fun r1 => ((¬ r1 = 0 → ((¬ (μ.1 0 0) = (nI 240) → (vp_in (μ.1 0 0) 240 ∧ ∀ μ3 : Mem, μ3 = sI μ 1 ((μ.1 0 0)).toNatClampNeg a1 → ∀ μ4 : Mem, μ4 = sI μ3 0 0 ((μ3.1 0 0) + (nI 1)) → Q (μ4.1 0 0) μ4)) ∧ ((μ.1 0 0) = (nI 240) → Q ((-1000000004) : Int32) μ))) ∧ (r1 = 0 → Q ((-1000000002) : Int32) μ)))
abbrev rm_X7_feed : Room := { frames := 1, cells := 0, slots := 0, locals := 22 }
/-- X7_fault -/
def w_X7_fault (μ : Mem) (Q : Int32 → Prop) : Prop :=
  Q (μ.1 0 2)
abbrev rm_X7_fault : Room := { frames := 0, cells := 0, slots := 0, locals := 0 }
/-- X7_letterAt -/
def w_X7_letterAt (a1 : Int32) (μ : Mem) (Q : Int32 → Prop) : Prop :=
  (((μ.1 0 0) ≤ a1 → Q ((-1) : Int32)) ∧ (¬ (μ.1 0 0) ≤ a1 → (vp_in a1 240 ∧ Q (μ.1 1 (a1).toNatClampNeg))))
abbrev rm_X7_letterAt : Room := { frames := 0, cells := 0, slots := 0, locals := 0 }
/-- X7_blanks -/
def s_X7_blanks_0  (X0 : Mem → Prop)  (μ : Mem) (Q : Mem → Prop) : Prop :=
  w_X7_letterAt (μ.1 0 3) μ (fun r1 => ((¬ r1 = (nI 32) → Q μ) ∧ (r1 = (nI 32) → ∀ μ3 : Mem, μ3 = sI μ 0 3 ((μ.1 0 3) + (nI 1)) → (X0 μ3))))
def w_X7_blanks_0 (μ : Mem) (Q : Mem → Prop) : Prop :=
  ∀ X0 : Mem → Prop, (∀  (μ : Mem), s_X7_blanks_0  X0 μ Q → X0 μ) → X0 μ
def w_X7_blanks (μ : Mem) (Q : Mem → Prop) : Prop :=
  (w_X7_blanks_0 μ Q)
abbrev rm_X7_blanks : Room := { frames := 1, cells := 0, slots := 0, locals := 21 }
/-- X7_fails -/
def w_X7_fails (a1 : Int32) (μ : Mem) (Q : Int32 → Mem → Prop) : Prop :=
  ∀ μ1 : Mem, μ1 = sI μ 0 4 a1 → Q (nI 0) μ1
abbrev rm_X7_fails : Room := { frames := 0, cells := 0, slots := 0, locals := 0 }
/-- X7_number -/
def w_X7_number_104 (a1 : Int32) (a2 : Int32) (s2 : Int32) (μ : Mem) (Q : Int32 → Mem → Prop) : Prop :=
  w_X7_fails s2 μ (fun r15 μ16 => Q ((-1) : Int32) μ16)
def w_X7_number_93 (a1 : Int32) (a2 : Int32) (v5 : Int32) (μ : Mem) (Q : Int32 → Mem → Prop) : Prop :=
  ((¬ v5 = 0 → (w_X7_number_104 a1 a2 (nI 2) μ Q)) ∧ (v5 = 0 → (w_X7_number_104 a1 a2 (nI 1) μ Q)))
def w_X7_number_64 (a1 : Int32) (a2 : Int32) (v3 : Int32) (v4 : Int32) (μ : Mem) (Q : Int32 → Mem → Prop) : Prop :=
  ∀ x11 : Int32, x11 = (v3 - (μ.1 0 3)) → ((x11 = 0 → (w_X7_number_93 a1 a2 x11 μ Q)) ∧ (¬ x11 = 0 → (((nI 3) < x11 → (w_X7_number_93 a1 a2 x11 μ Q)) ∧ (¬ (nI 3) < x11 → w_X7_in v4 a1 a2 μ (fun r12 => ((¬ r12 = 0 → ∀ μ14 : Mem, μ14 = sI μ 0 3 v3 → Q v4 μ14) ∧ (r12 = 0 → (w_X7_number_93 a1 a2 x11 μ Q))))))))
def w_X7_number_56 (a1 : Int32) (a2 : Int32) (X12 : Int32 → Int32 → Prop) (v3 : Int32) (s1 : Int32) (μ : Mem) (Q : Int32 → Mem → Prop) : Prop :=
  ∀ x10 : Int32, x10 = v3 + (nI 1) → (X12 x10 s1)
def s_X7_number_12 (a1 : Int32) (a2 : Int32) (μ : Mem) (X12 : Int32 → Int32 → Prop) (v3 : Int32) (v4 : Int32) (Q : Int32 → Mem → Prop) : Prop :=
  w_X7_letterAt v3 μ (fun r4 => w_X7_in r4 (nI 48) (nI 57) μ (fun r6 => ((r6 = 0 → (w_X7_number_64 a1 a2 v3 v4 μ Q)) ∧ (¬ r6 = 0 → (((nI 3) ≤ (v3 - (μ.1 0 3)) → (w_X7_number_56 a1 a2 X12 v3 v4 μ Q)) ∧ (¬ (nI 3) ≤ (v3 - (μ.1 0 3)) → w_X7_letterAt v3 μ (fun r8 => (w_X7_number_56 a1 a2 X12 v3 ((((nI 10) * v4) + r8) - (nI 48)) μ Q))))))))
def w_X7_number_12 (a1 : Int32) (a2 : Int32) (v3 : Int32) (v4 : Int32) (μ : Mem) (Q : Int32 → Mem → Prop) : Prop :=
  ∀ X12 : Int32 → Int32 → Prop, (∀ (v3 : Int32) (v4 : Int32), s_X7_number_12 a1 a2 μ X12 v3 v4 Q → X12 v3 v4) → X12 v3 v4
def w_X7_number (a1 : Int32) (a2 : Int32) (μ : Mem) (Q : Int32 → Mem → Prop) : Prop :=
  w_X7_blanks  μ (fun μ2 => ∀ x3 : Int32, x3 = (μ2.1 0 3) → (w_X7_number_12 a1 a2 x3 (nI 0) μ2 Q))
abbrev rm_X7_number : Room := { frames := 2, cells := 0, slots := 0, locals := 41 }
/-- X7_ends -/
def w_X7_ends (μ : Mem) (Q : Int32 → Mem → Prop) : Prop :=
  w_X7_blanks  μ (fun μ2 => w_X7_letterAt (μ2.1 0 3) μ2 (fun r3 => ((r3 = (nI 59) → ∀ μ5 : Mem, μ5 = sI μ2 0 3 ((μ2.1 0 3) + (nI 1)) → Q (nI 1) μ5) ∧ (¬ r3 = (nI 59) → w_X7_fails (nI 1) μ2 (fun r6 μ7 => ((r6 = 0 ∨ r6 = 1) ∧ Q r6 μ7))))))
abbrev rm_X7_ends : Room := { frames := 2, cells := 0, slots := 0, locals := 41 }
/-- X7_reads2 -/
def w_X7_reads2 (b1 : Nat) (a2 : Int32) (a3 : Int32) (a4 : Int32) (a5 : Int32) (a6 : Int32) (μ : Mem) (Q : Int32 → Mem → Prop) : Prop :=
  w_X7_number a3 a4 μ (fun r1 μ2 => (vp_in a2 (sM.2.2 b1) ∧ ∀ μ3 : Mem, μ3 = sI μ2 b1 (a2).toNatClampNeg r1 → (vp_in a2 (sM.2.2 b1) ∧ ((0 ≤ (μ3.1 b1 (a2).toNatClampNeg) → w_X7_number a5 a6 μ3 (fun r4 μ5 => (vp_in (a2 + (nI 1)) (sM.2.2 b1) ∧ ∀ μ6 : Mem, μ6 = sI μ5 b1 ((a2 + (nI 1))).toNatClampNeg r4 → (vp_in (a2 + (nI 1)) (sM.2.2 b1) ∧ (((μ6.1 b1 ((a2 + (nI 1))).toNatClampNeg) < 0 → Q (nI 0) μ6) ∧ (¬ (μ6.1 b1 ((a2 + (nI 1))).toNatClampNeg) < 0 → Q (nI 1) μ6)))))) ∧ (¬ 0 ≤ (μ3.1 b1 (a2).toNatClampNeg) → Q (nI 0) μ3)))))
abbrev rm_X7_reads2 : Room := { frames := 3, cells := 0, slots := 0, locals := 66 }
/-- X7_readsHead -/
def w_X7_readsHead (μ : Mem) (Q : Int32 → Mem → Prop) : Prop :=
  ∀ μ1 : Mem, μ1 = sI μ 0 3 ((μ.1 0 3) + (nI 1)) → w_X7_reads2 2 (nI 0) (nI 1) (nI 12) (nI 0) (nI 20) μ1 (fun r2 μ3 => ((r2 = 0 → Q (nI 0) μ3) ∧ (¬ r2 = 0 → w_X7_ends  μ3 (fun r4 μ5 => ((r4 = 0 → Q (nI 0) μ5) ∧ (¬ r4 = 0 → Q (nI 1) μ5))))))
abbrev rm_X7_readsHead : Room := { frames := 4, cells := 0, slots := 0, locals := 92 }
/-- X7_readsHour -/
def w_X7_readsHour (μ : Mem) (Q : Int32 → Mem → Prop) : Prop :=
  ((¬ (μ.1 0 6) = (nI 12) → ∀ μ1 : Mem, μ1 = sI μ 0 3 ((μ.1 0 3) + (nI 1)) → w_X7_reads2 5 ((nI 2) * (μ1.1 0 6)) (nI 0) (nI 1) (nI 0) (nI 40) μ1 (fun r2 μ3 => ((¬ r2 = 0 → ∀ μ4 : Mem, μ4 = sI μ3 0 6 ((μ3.1 0 6) + (nI 1)) → w_X7_ends  μ4 (fun r5 μ6 => ((r5 = 0 ∨ r5 = 1) ∧ Q r5 μ6))) ∧ (r2 = 0 → Q (nI 0) μ3)))) ∧ ((μ.1 0 6) = (nI 12) → w_X7_fails (nI 3) μ (fun r7 μ8 => ((r7 = 0 ∨ r7 = 1) ∧ Q r7 μ8))))
abbrev rm_X7_readsHour : Room := { frames := 4, cells := 0, slots := 0, locals := 92 }
/-- X7_isTaken -/
def w_X7_isTaken_33 (a1 : Int32) (X4 : Int32 → Int32 → Prop) (v3 : Int32) (s1 : Int32) (μ : Mem) (Q : Int32 → Prop) : Prop :=
  ∀ x1 : Int32, x1 = v3 + (nI 1) → (X4 s1 x1)
def w_X7_isTaken_28 (a1 : Int32) (X4 : Int32 → Int32 → Prop) (v3 : Int32) (μ : Mem) (Q : Int32 → Prop) : Prop :=
  (w_X7_isTaken_33 a1 X4 v3 (nI 1) μ Q)
def s_X7_isTaken_4 (a1 : Int32) (μ : Mem) (X4 : Int32 → Int32 → Prop) (v2 : Int32) (v3 : Int32) (Q : Int32 → Prop) : Prop :=
  (((μ.1 0 5) ≤ v3 → ((v2 = 0 ∨ v2 = 1) ∧ Q v2)) ∧ (¬ (μ.1 0 5) ≤ v3 → ((¬ v2 = 0 → (w_X7_isTaken_28 a1 X4 v3 μ Q)) ∧ (v2 = 0 → (vp_in ((nI 4) * v3) 24 ∧ ((¬ (μ.1 6 (((nI 4) * v3)).toNatClampNeg) = a1 → (w_X7_isTaken_33 a1 X4 v3 (nI 0) μ Q)) ∧ ((μ.1 6 (((nI 4) * v3)).toNatClampNeg) = a1 → (w_X7_isTaken_28 a1 X4 v3 μ Q))))))))
def w_X7_isTaken_4 (a1 : Int32) (v2 : Int32) (v3 : Int32) (μ : Mem) (Q : Int32 → Prop) : Prop :=
  ∀ X4 : Int32 → Int32 → Prop, (∀ (v2 : Int32) (v3 : Int32), s_X7_isTaken_4 a1 μ X4 v2 v3 Q → X4 v2 v3) → X4 v2 v3
def w_X7_isTaken (a1 : Int32) (μ : Mem) (Q : Int32 → Prop) : Prop :=
  (w_X7_isTaken_4 a1 (nI 0) (nI 0) μ Q)
abbrev rm_X7_isTaken : Room := { frames := 0, cells := 0, slots := 0, locals := 0 }
/-- X7_readsPost -/
def w_X7_readsPost (μ : Mem) (Q : Int32 → Mem → Prop) : Prop :=
  ((¬ (μ.1 0 5) = (nI 6) → ∀ μ1 : Mem, μ1 = sI μ 0 3 ((μ.1 0 3) + (nI 1)) → w_X7_blanks  μ1 (fun μ3 => ∀ x4 : Int32, x4 = (μ3.1 0 3) → ∀ x5 : Int32, x5 = ((nI 4) * (μ3.1 0 5)) → (vp_in (nI 0) 2 ∧ w_X7_number (nI 0) ((μ3.1 2 ((nI 0)).toNatClampNeg) - (nI 1)) μ3 (fun r6 μ7 => ((0 ≤ r6 → w_X7_isTaken r6 μ7 (fun r8 => ((r8 = 0 → (vp_in x5 24 ∧ ∀ μ10 : Mem, μ10 = sI μ7 6 (x5).toNatClampNeg r6 → w_X7_number (nI 0) (nI 9) μ10 (fun r11 μ12 => (vp_in (x5 + (nI 1)) 24 ∧ ∀ μ13 : Mem, μ13 = sI μ12 6 ((x5 + (nI 1))).toNatClampNeg r11 → (vp_in (x5 + (nI 1)) 24 ∧ (((μ13.1 6 ((x5 + (nI 1))).toNatClampNeg) < 0 → Q (nI 0) μ13) ∧ (¬ (μ13.1 6 ((x5 + (nI 1))).toNatClampNeg) < 0 → w_X7_reads2 6 (x5 + (nI 2)) (nI 1) (nI 99) (nI 0) (nI 1) μ13 (fun r14 μ15 => ((¬ r14 = 0 → ∀ μ16 : Mem, μ16 = sI μ15 0 5 ((μ15.1 0 5) + (nI 1)) → w_X7_ends  μ16 (fun r17 μ18 => ((r17 = 0 ∨ r17 = 1) ∧ Q r17 μ18))) ∧ (r14 = 0 → Q (nI 0) μ15)))))))))) ∧ (¬ r8 = 0 → ∀ μ19 : Mem, μ19 = sI μ7 0 3 x4 → w_X7_fails (nI 4) μ19 (fun r20 μ21 => ((r20 = 0 ∨ r20 = 1) ∧ Q r20 μ21)))))) ∧ (¬ 0 ≤ r6 → Q (nI 0) μ7)))))) ∧ ((μ.1 0 5) = (nI 6) → w_X7_fails (nI 3) μ (fun r22 μ23 => ((r22 = 0 ∨ r22 = 1) ∧ Q r22 μ23))))
abbrev rm_X7_readsPost : Room := { frames := 4, cells := 0, slots := 0, locals := 92 }
/-- X7_readsGoat -/
def w_X7_readsGoat (μ : Mem) (Q : Int32 → Mem → Prop) : Prop :=
  ((¬ (μ.1 0 7) = (nI 4) → ∀ μ1 : Mem, μ1 = sI μ 0 3 ((μ.1 0 3) + (nI 1)) → (vp_in (nI 0) 2 ∧ w_X7_reads2 7 ((nI 2) * (μ1.1 0 7)) (nI 0) ((μ1.1 2 ((nI 0)).toNatClampNeg) - (nI 1)) (nI 1) (nI 20) μ1 (fun r2 μ3 => ((¬ r2 = 0 → ∀ μ4 : Mem, μ4 = sI μ3 0 7 ((μ3.1 0 7) + (nI 1)) → w_X7_ends  μ4 (fun r5 μ6 => ((r5 = 0 ∨ r5 = 1) ∧ Q r5 μ6))) ∧ (r2 = 0 → Q (nI 0) μ3))))) ∧ ((μ.1 0 7) = (nI 4) → w_X7_fails (nI 3) μ (fun r7 μ8 => ((r7 = 0 ∨ r7 = 1) ∧ Q r7 μ8))))
abbrev rm_X7_readsGoat : Room := { frames := 4, cells := 0, slots := 0, locals := 92 }
/-- X7_readsDays -/
def w_X7_readsDays (μ : Mem) (Q : Int32 → Mem → Prop) : Prop :=
  (((μ.1 0 9) = 0 → ∀ μ1 : Mem, μ1 = sI μ 0 3 ((μ.1 0 3) + (nI 1)) → ∀ μ2 : Mem, μ2 = sI μ1 0 9 (nI 1) → w_X7_reads2 3 (nI 0) (nI 0) (nI 127) (nI 0) (nI 127) μ2 (fun r3 μ4 => ((r3 = 0 → Q (nI 0) μ4) ∧ (¬ r3 = 0 → w_X7_ends  μ4 (fun r5 μ6 => ((r5 = 0 → Q (nI 0) μ6) ∧ (¬ r5 = 0 → Q (nI 1) μ6))))))) ∧ (¬ (μ.1 0 9) = 0 → w_X7_fails (nI 3) μ (fun r7 μ8 => ((r7 = 0 ∨ r7 = 1) ∧ Q r7 μ8))))
abbrev rm_X7_readsDays : Room := { frames := 4, cells := 0, slots := 0, locals := 92 }
/-- X7_readsUse -/
def w_X7_readsUse (μ : Mem) (Q : Int32 → Mem → Prop) : Prop :=
  (((μ.1 0 10) = 0 → ∀ μ1 : Mem, μ1 = sI μ 0 3 ((μ.1 0 3) + (nI 1)) → ∀ μ2 : Mem, μ2 = sI μ1 0 10 (nI 1) → w_X7_reads2 4 (nI 0) (nI 0) (nI 99) (nI 0) (nI 99) μ2 (fun r3 μ4 => ((r3 = 0 → Q (nI 0) μ4) ∧ (¬ r3 = 0 → w_X7_ends  μ4 (fun r5 μ6 => ((r5 = 0 → Q (nI 0) μ6) ∧ (¬ r5 = 0 → Q (nI 1) μ6))))))) ∧ (¬ (μ.1 0 10) = 0 → w_X7_fails (nI 3) μ (fun r7 μ8 => ((r7 = 0 ∨ r7 = 1) ∧ Q r7 μ8))))
abbrev rm_X7_readsUse : Room := { frames := 4, cells := 0, slots := 0, locals := 92 }
/-- X7_readsClause -/
def w_X7_readsClause (a1 : Int32) (μ : Mem) (Q : Int32 → Mem → Prop) : Prop :=
  w_X7_letterAt (μ.1 0 3) μ (fun r1 => ((a1 = 0 → ((r1 = (nI 100) → w_X7_readsDays  μ (fun r3 μ4 => ((r3 = 0 ∨ r3 = 1) ∧ Q r3 μ4))) ∧ (¬ r1 = (nI 100) → ((r1 = (nI 101) → w_X7_fails (nI 1) μ (fun r5 μ6 => ((r5 = 0 ∨ r5 = 1) ∧ Q r5 μ6))) ∧ (¬ r1 = (nI 101) → ((r1 = (nI 102) → w_X7_fails (nI 3) μ (fun r7 μ8 => ((r7 = 0 ∨ r7 = 1) ∧ Q r7 μ8))) ∧ (¬ r1 = (nI 102) → ((r1 = (nI 103) → w_X7_readsGoat  μ (fun r9 μ10 => ((r9 = 0 ∨ r9 = 1) ∧ Q r9 μ10))) ∧ (¬ r1 = (nI 103) → ((r1 = (nI 104) → w_X7_readsHour  μ (fun r11 μ12 => ((r11 = 0 ∨ r11 = 1) ∧ Q r11 μ12))) ∧ (¬ r1 = (nI 104) → ((r1 = (nI 105) → w_X7_fails (nI 1) μ (fun r13 μ14 => ((r13 = 0 ∨ r13 = 1) ∧ Q r13 μ14))) ∧ (¬ r1 = (nI 105) → ((r1 = (nI 106) → w_X7_fails (nI 1) μ (fun r15 μ16 => ((r15 = 0 ∨ r15 = 1) ∧ Q r15 μ16))) ∧ (¬ r1 = (nI 106) → ((r1 = (nI 107) → w_X7_fails (nI 1) μ (fun r17 μ18 => ((r17 = 0 ∨ r17 = 1) ∧ Q r17 μ18))) ∧ (¬ r1 = (nI 107) → ((r1 = (nI 108) → w_X7_fails (nI 1) μ (fun r19 μ20 => ((r19 = 0 ∨ r19 = 1) ∧ Q r19 μ20))) ∧ (¬ r1 = (nI 108) → ((r1 = (nI 109) → w_X7_fails (nI 1) μ (fun r21 μ22 => ((r21 = 0 ∨ r21 = 1) ∧ Q r21 μ22))) ∧ (¬ r1 = (nI 109) → ((r1 = (nI 110) → w_X7_fails (nI 1) μ (fun r23 μ24 => ((r23 = 0 ∨ r23 = 1) ∧ Q r23 μ24))) ∧ (¬ r1 = (nI 110) → ((r1 = (nI 111) → w_X7_fails (nI 1) μ (fun r25 μ26 => ((r25 = 0 ∨ r25 = 1) ∧ Q r25 μ26))) ∧ (¬ r1 = (nI 111) → ((r1 = (nI 112) → w_X7_readsPost  μ (fun r27 μ28 => ((r27 = 0 ∨ r27 = 1) ∧ Q r27 μ28))) ∧ (¬ r1 = (nI 112) → ((r1 = (nI 113) → w_X7_fails (nI 1) μ (fun r29 μ30 => ((r29 = 0 ∨ r29 = 1) ∧ Q r29 μ30))) ∧ (¬ r1 = (nI 113) → ((r1 = (nI 114) → w_X7_fails (nI 1) μ (fun r31 μ32 => ((r31 = 0 ∨ r31 = 1) ∧ Q r31 μ32))) ∧ (¬ r1 = (nI 114) → ((r1 = (nI 115) → w_X7_fails (nI 1) μ (fun r33 μ34 => ((r33 = 0 ∨ r33 = 1) ∧ Q r33 μ34))) ∧ (¬ r1 = (nI 115) → ((r1 = (nI 116) → w_X7_fails (nI 1) μ (fun r35 μ36 => ((r35 = 0 ∨ r35 = 1) ∧ Q r35 μ36))) ∧ (¬ r1 = (nI 116) → ((r1 = (nI 117) → w_X7_readsUse  μ (fun r37 μ38 => ((r37 = 0 ∨ r37 = 1) ∧ Q r37 μ38))) ∧ (¬ r1 = (nI 117) → w_X7_fails (nI 1) μ (fun r39 μ40 => ((r39 = 0 ∨ r39 = 1) ∧ Q r39 μ40))))))))))))))))))))))))))))))))))))))) ∧ (¬ a1 = 0 → ((¬ r1 = (nI 102) → w_X7_fails (nI 1) μ (fun r41 μ42 => ((r41 = 0 ∨ r41 = 1) ∧ Q r41 μ42))) ∧ (r1 = (nI 102) → w_X7_readsHead  μ (fun r43 μ44 => ((r43 = 0 ∨ r43 = 1) ∧ Q r43 μ44)))))))
abbrev rm_X7_readsClause : Room := { frames := 5, cells := 0, slots := 0, locals := 115 }
/-- X7_reads -/
def w_X7_reads_104 (s2 : Int32) (μ : Mem) (Q : Int32 → Mem → Prop) : Prop :=
  ((s2 = 0 ∨ s2 = 1) ∧ ∀ μ16 : Mem, μ16 = sI μ 0 8 s2 → Q (nI 1) μ16)
def w_X7_reads_94 (v1 : Int32) (μ : Mem) (Q : Int32 → Mem → Prop) : Prop :=
  ((¬ v1 = 0 → (w_X7_reads_104 (nI 0) μ Q)) ∧ (v1 = 0 → (w_X7_reads_104 (nI 1) μ Q)))
def s_X7_reads_64  (X64 : Int32 → Mem → Prop) (v1 : Int32) (μ : Mem) (Q : Int32 → Mem → Prop) : Prop :=
  (((μ.1 0 0) ≤ (μ.1 0 3) → (w_X7_reads_94 v1 μ Q)) ∧ (¬ (μ.1 0 0) ≤ (μ.1 0 3) → w_X7_readsClause v1 μ (fun r12 μ13 => ((¬ r12 = 0 → w_X7_blanks  μ13 (fun μ15 => (X64 (nI 0) μ15))) ∧ (r12 = 0 → Q (nI 0) μ13)))))
def w_X7_reads_64 (v1 : Int32) (μ : Mem) (Q : Int32 → Mem → Prop) : Prop :=
  ∀ X64 : Int32 → Mem → Prop, (∀ (v1 : Int32) (μ : Mem), s_X7_reads_64  X64 v1 μ Q → X64 v1 μ) → X64 v1 μ
def w_X7_reads_60 (v1 : Int32) (μ : Mem) (Q : Int32 → Mem → Prop) : Prop :=
  w_X7_blanks  μ (fun μ11 => (w_X7_reads_64 v1 μ11 Q))
def s_X7_reads_34 (v1 : Int32) (X34 : Int32 → Mem → Prop) (v2 : Int32) (μ : Mem) (Q : Int32 → Mem → Prop) : Prop :=
  (((nI 2) ≤ v2 → (w_X7_reads_60 v1 μ Q)) ∧ (¬ (nI 2) ≤ v2 → (vp_in v2 2 ∧ ∀ μ7 : Mem, μ7 = sI μ 3 (v2).toNatClampNeg (nI 127) → (vp_in v2 2 ∧ ∀ μ8 : Mem, μ8 = sI μ7 4 (v2).toNatClampNeg (nI 0) → ∀ x9 : Int32, x9 = v2 + (nI 1) → (X34 x9 μ8)))))
def w_X7_reads_34 (v1 : Int32) (v2 : Int32) (μ : Mem) (Q : Int32 → Mem → Prop) : Prop :=
  ∀ X34 : Int32 → Mem → Prop, (∀ (v2 : Int32) (μ : Mem), s_X7_reads_34 v1 X34 v2 μ Q → X34 v2 μ) → X34 v2 μ
def w_X7_reads (μ : Mem) (Q : Int32 → Mem → Prop) : Prop :=
  ∀ μ1 : Mem, μ1 = sI μ 0 3 (nI 0) → ∀ μ2 : Mem, μ2 = sI μ1 0 5 (nI 0) → ∀ μ3 : Mem, μ3 = sI μ2 0 6 (nI 0) → ∀ μ4 : Mem, μ4 = sI μ3 0 7 (nI 0) → ∀ μ5 : Mem, μ5 = sI μ4 0 9 (nI 0) → ∀ μ6 : Mem, μ6 = sI μ5 0 10 (nI 0) → (w_X7_reads_34 (nI 1) (nI 0) μ6 Q)
abbrev rm_X7_reads : Room := { frames := 6, cells := 0, slots := 0, locals := 137 }
/-- X7_coast -/
def w_X7_coast_359 (μ : Mem) (Q : Int32 → Mem → Prop) : Prop :=
  ∀ μ26 : Mem, μ26 = sI μ 0 37 (nI 0) → ∀ μ27 : Mem, μ27 = sI μ26 0 39 (nI 0) → ∀ μ28 : Mem, μ28 = sI μ27 0 32 (nI 0) → (vp_in (nI 0) 2 ∧ ∀ μ29 : Mem, μ29 = sI μ28 21 ((nI 0)).toNatClampNeg (nI 0) → (vp_in (nI 1) 2 ∧ ∀ μ30 : Mem, μ30 = sI μ29 21 ((nI 1)).toNatClampNeg (nI 0) → Q (μ30.1 0 20) μ30))
def s_X7_coast_277  (X277 : Int32 → Mem → Prop) (v2 : Int32) (μ : Mem) (Q : Int32 → Mem → Prop) : Prop :=
  (((μ.1 0 20) ≤ v2 → (w_X7_coast_359 μ Q)) ∧ (¬ (μ.1 0 20) ≤ v2 → (vp_in ((nI 4) * v2) 24 ∧ (vp_in ((nI 15) + v2) 27 ∧ ∀ μ21 : Mem, μ21 = sI μ 14 (((nI 15) + v2)).toNatClampNeg (μ.1 6 (((nI 4) * v2)).toNatClampNeg) → (vp_in (((nI 4) * v2) + (nI 1)) 24 ∧ (vp_in ((nI 21) + v2) 27 ∧ ∀ μ22 : Mem, μ22 = sI μ21 14 (((nI 21) + v2)).toNatClampNeg (μ21.1 6 ((((nI 4) * v2) + (nI 1))).toNatClampNeg) → (vp_in (((nI 4) * v2) + (nI 2)) 24 ∧ (vp_in v2 6 ∧ ∀ μ23 : Mem, μ23 = sI μ22 9 (v2).toNatClampNeg (μ22.1 6 ((((nI 4) * v2) + (nI 2))).toNatClampNeg) → (vp_in (((nI 4) * v2) + (nI 3)) 24 ∧ (vp_in v2 6 ∧ ∀ μ24 : Mem, μ24 = sI μ23 10 (v2).toNatClampNeg (μ23.1 6 ((((nI 4) * v2) + (nI 3))).toNatClampNeg) → ∀ x25 : Int32, x25 = v2 + (nI 1) → (X277 x25 μ24)))))))))))
def w_X7_coast_277 (v2 : Int32) (μ : Mem) (Q : Int32 → Mem → Prop) : Prop :=
  ∀ X277 : Int32 → Mem → Prop, (∀ (v2 : Int32) (μ : Mem), s_X7_coast_277  X277 v2 μ Q → X277 v2 μ) → X277 v2 μ
def w_X7_coast_275 (μ : Mem) (Q : Int32 → Mem → Prop) : Prop :=
  (w_X7_coast_277 (nI 0) μ Q)
def s_X7_coast_256  (X256 : Int32 → Mem → Prop) (v2 : Int32) (μ : Mem) (Q : Int32 → Mem → Prop) : Prop :=
  (((nI 27) ≤ v2 → (w_X7_coast_275 μ Q)) ∧ (¬ (nI 27) ≤ v2 → (vp_in v2 27 ∧ ∀ μ19 : Mem, μ19 = sI μ 14 (v2).toNatClampNeg (nI 0) → ∀ x20 : Int32, x20 = v2 + (nI 1) → (X256 x20 μ19))))
def w_X7_coast_256 (v2 : Int32) (μ : Mem) (Q : Int32 → Mem → Prop) : Prop :=
  ∀ X256 : Int32 → Mem → Prop, (∀ (v2 : Int32) (μ : Mem), s_X7_coast_256  X256 v2 μ Q → X256 v2 μ) → X256 v2 μ
def w_X7_coast_254 (μ : Mem) (Q : Int32 → Mem → Prop) : Prop :=
  (w_X7_coast_256 (nI 0) μ Q)
def w_X7_coast_247 (X196 : Int32 → Mem → Prop) (v2 : Int32) (s3 : Int32) (s2 : Int32) (μ : Mem) (Q : Int32 → Mem → Prop) : Prop :=
  (vp_in s2 2 ∧ ∀ μ17 : Mem, μ17 = sI μ 13 (s2).toNatClampNeg s3 → ∀ x18 : Int32, x18 = v2 + (nI 1) → (X196 x18 μ17))
def w_X7_coast_224 (X196 : Int32 → Mem → Prop) (v2 : Int32) (s3 : Int32) (s2 : Int32) (μ : Mem) (Q : Int32 → Mem → Prop) : Prop :=
  (vp_in s2 2 ∧ ∀ μ16 : Mem, μ16 = sI μ 12 (s2).toNatClampNeg s3 → (((μ16.1 0 8) = 0 → (w_X7_coast_247 X196 v2 (nI 0) v2 μ16 Q)) ∧ (¬ (μ16.1 0 8) = 0 → (vp_in v2 2 ∧ (w_X7_coast_247 X196 v2 (μ16.1 4 (v2).toNatClampNeg) v2 μ16 Q)))))
def s_X7_coast_196  (X196 : Int32 → Mem → Prop) (v2 : Int32) (μ : Mem) (Q : Int32 → Mem → Prop) : Prop :=
  (((nI 2) ≤ v2 → (w_X7_coast_254 μ Q)) ∧ (¬ (nI 2) ≤ v2 → (((μ.1 0 8) = 0 → (w_X7_coast_224 X196 v2 (nI 127) v2 μ Q)) ∧ (¬ (μ.1 0 8) = 0 → (vp_in v2 2 ∧ (w_X7_coast_224 X196 v2 (μ.1 3 (v2).toNatClampNeg) v2 μ Q))))))
def w_X7_coast_196 (v2 : Int32) (μ : Mem) (Q : Int32 → Mem → Prop) : Prop :=
  ∀ X196 : Int32 → Mem → Prop, (∀ (v2 : Int32) (μ : Mem), s_X7_coast_196  X196 v2 μ Q → X196 v2 μ) → X196 v2 μ
def w_X7_coast_194 (μ : Mem) (Q : Int32 → Mem → Prop) : Prop :=
  (w_X7_coast_196 (nI 0) μ Q)
def s_X7_coast_170  (X170 : Int32 → Mem → Prop) (v2 : Int32) (μ : Mem) (Q : Int32 → Mem → Prop) : Prop :=
  (((nI 8) ≤ v2 → (w_X7_coast_194 μ Q)) ∧ (¬ (nI 8) ≤ v2 → (vp_in v2 8 ∧ (vp_in v2 8 ∧ ∀ μ14 : Mem, μ14 = sI μ 11 (v2).toNatClampNeg (μ.1 7 (v2).toNatClampNeg) → ∀ x15 : Int32, x15 = v2 + (nI 1) → (X170 x15 μ14)))))
def w_X7_coast_170 (v2 : Int32) (μ : Mem) (Q : Int32 → Mem → Prop) : Prop :=
  ∀ X170 : Int32 → Mem → Prop, (∀ (v2 : Int32) (μ : Mem), s_X7_coast_170  X170 v2 μ Q → X170 v2 μ) → X170 v2 μ
def w_X7_coast_168 (μ : Mem) (Q : Int32 → Mem → Prop) : Prop :=
  (w_X7_coast_170 (nI 0) μ Q)
def s_X7_coast_144  (X144 : Int32 → Mem → Prop) (v2 : Int32) (μ : Mem) (Q : Int32 → Mem → Prop) : Prop :=
  (((nI 24) ≤ v2 → (w_X7_coast_168 μ Q)) ∧ (¬ (nI 24) ≤ v2 → (vp_in v2 24 ∧ (vp_in v2 24 ∧ ∀ μ12 : Mem, μ12 = sI μ 8 (v2).toNatClampNeg (μ.1 5 (v2).toNatClampNeg) → ∀ x13 : Int32, x13 = v2 + (nI 1) → (X144 x13 μ12)))))
def w_X7_coast_144 (v2 : Int32) (μ : Mem) (Q : Int32 → Mem → Prop) : Prop :=
  ∀ X144 : Int32 → Mem → Prop, (∀ (v2 : Int32) (μ : Mem), s_X7_coast_144  X144 v2 μ Q → X144 v2 μ) → X144 v2 μ
def w_X7_coast_139 (s2 : Int32) (μ : Mem) (Q : Int32 → Mem → Prop) : Prop :=
  ∀ μ11 : Mem, μ11 = sI μ 0 22 s2 → (w_X7_coast_144 (nI 0) μ11 Q)
def w_X7_coast_120 (s2 : Int32) (μ : Mem) (Q : Int32 → Mem → Prop) : Prop :=
  ∀ μ10 : Mem, μ10 = sI μ 0 21 s2 → (((μ10.1 0 8) = 0 → (w_X7_coast_139 (nI 0) μ10 Q)) ∧ (¬ (μ10.1 0 8) = 0 → (w_X7_coast_139 (μ10.1 0 7) μ10 Q)))
def w_X7_coast_101 (s2 : Int32) (μ : Mem) (Q : Int32 → Mem → Prop) : Prop :=
  ∀ μ9 : Mem, μ9 = sI μ 0 20 s2 → (((μ9.1 0 8) = 0 → (w_X7_coast_120 (nI 0) μ9 Q)) ∧ (¬ (μ9.1 0 8) = 0 → (w_X7_coast_120 (μ9.1 0 6) μ9 Q)))
def w_X7_coast_82 (s2 : Int32) (μ : Mem) (Q : Int32 → Mem → Prop) : Prop :=
  ∀ μ8 : Mem, μ8 = sI μ 0 19 s2 → (((μ8.1 0 8) = 0 → (w_X7_coast_101 (nI 0) μ8 Q)) ∧ (¬ (μ8.1 0 8) = 0 → (w_X7_coast_101 (μ8.1 0 5) μ8 Q)))
def w_X7_coast_61 (s2 : Int32) (μ : Mem) (Q : Int32 → Mem → Prop) : Prop :=
  ∀ μ7 : Mem, μ7 = sI μ 0 18 s2 → (((μ7.1 0 8) = 0 → (w_X7_coast_82 (nI 0) μ7 Q)) ∧ (¬ (μ7.1 0 8) = 0 → (vp_in (nI 1) 2 ∧ (w_X7_coast_82 (μ7.1 2 ((nI 1)).toNatClampNeg) μ7 Q))))
def w_X7_coast (μ : Mem) (Q : Int32 → Mem → Prop) : Prop :=
  w_X7_reads  μ (fun r1 μ2 => ∀ μ3 : Mem, μ3 = sI μ2 0 0 (nI 0) → ((¬ r1 = 0 → ∀ μ4 : Mem, μ4 = sI μ3 0 2 ((-1) : Int32) → (((μ4.1 0 8) = 0 ∨ (μ4.1 0 8) = 1) ∧ ∀ μ5 : Mem, μ5 = sI μ4 0 17 (μ4.1 0 8) → (((μ5.1 0 8) = 0 → (w_X7_coast_61 (nI 0) μ5 Q)) ∧ (¬ (μ5.1 0 8) = 0 → (vp_in (nI 0) 2 ∧ (w_X7_coast_61 (μ5.1 2 ((nI 0)).toNatClampNeg) μ5 Q)))))) ∧ (r1 = 0 → ∀ μ6 : Mem, μ6 = sI μ3 0 2 (μ3.1 0 3) → Q (((-10) : Int32) - (μ6.1 0 4)) μ6)))
abbrev rm_X7_coast : Room := { frames := 7, cells := 0, slots := 0, locals := 159 }
/-- X7_isPost -/
def w_X7_isPost (a1 : Int32) (μ : Mem) (Q : Int32 → Prop) : Prop :=
  w_X7_in a1 (nI 0) ((μ.1 0 20) - (nI 1)) μ (fun r1 => ((r1 = 0 ∨ r1 = 1) ∧ Q r1))
abbrev rm_X7_isPost : Room := { frames := 1, cells := 0, slots := 0, locals := 22 }
/-- X7_isCell -/
def w_X7_isCell (a1 : Int32) (μ : Mem) (Q : Int32 → Prop) : Prop :=
  w_X7_in a1 (nI 0) ((μ.1 0 18) - (nI 1)) μ (fun r1 => ((r1 = 0 ∨ r1 = 1) ∧ Q r1))
abbrev rm_X7_isCell : Room := { frames := 1, cells := 0, slots := 0, locals := 22 }
/-- X7_isVillage -/
def w_X7_isVillage (a0 : Int32) (μ : Mem) (Q : Int32 → Prop) : Prop :=
  w_X7_in a0 (nI 0) (nI 1) μ (fun r1 => ((r1 = 0 ∨ r1 = 1) ∧ Q r1))
abbrev rm_X7_isVillage : Room := { frames := 1, cells := 0, slots := 0, locals := 22 }
/-- X7_dayLong -/
def w_X7_dayLong (μ : Mem) (Q : Int32 → Prop) : Prop :=
  ((¬ (μ.1 0 17) = 0 → (((μ.1 0 21) ≤ 0 → Q (nI 1)) ∧ (¬ (μ.1 0 21) ≤ 0 → Q (μ.1 0 21)))) ∧ ((μ.1 0 17) = 0 → Q (nI 0)))
abbrev rm_X7_dayLong : Room := { frames := 0, cells := 0, slots := 0, locals := 0 }
/-- X7_sideOf -/
def w_X7_sideOf (b1 : Nat) (μ : Mem) (Q : Int32 → Prop) : Prop :=
  (((μ.1 0 21) ≤ 0 → Q (nI 0)) ∧ (¬ (μ.1 0 21) ≤ 0 → (vp_in (nI 1) 27 ∧ (vp_in ((nI 2) * (μ.1 b1 ((nI 1)).toNatClampNeg)) 24 ∧ ∀ x1 : Int32, x1 = (μ.1 8 (((nI 2) * (μ.1 b1 ((nI 1)).toNatClampNeg))).toNatClampNeg) → Q x1))))
abbrev rm_X7_sideOf : Room := { frames := 0, cells := 0, slots := 0, locals := 0 }
/-- X7_fogOf -/
def w_X7_fogOf (b1 : Nat) (μ : Mem) (Q : Int32 → Prop) : Prop :=
  (((μ.1 0 21) ≤ 0 → Q (nI 0)) ∧ (¬ (μ.1 0 21) ≤ 0 → (vp_in (nI 1) 27 ∧ (vp_in (((nI 2) * (μ.1 b1 ((nI 1)).toNatClampNeg)) + (nI 1)) 24 ∧ ∀ x1 : Int32, x1 = (μ.1 8 ((((nI 2) * (μ.1 b1 ((nI 1)).toNatClampNeg)) + (nI 1))).toNatClampNeg) → Q x1))))
abbrev rm_X7_fogOf : Room := { frames := 0, cells := 0, slots := 0, locals := 0 }
/-- X7_isHanging -/
def w_X7_isHanging (b1 : Nat) (a2 : Int32) (μ : Mem) (Q : Int32 → Prop) : Prop :=
  (vp_in a2 6 ∧ (vp_in (μ.1 10 (a2).toNatClampNeg) 2 ∧ (vp_in (nI 0) 27 ∧ (¬ (nI 7) = 0 ∧ ∀ x1 : Int32, x1 = ((μ.1 b1 ((nI 0)).toNatClampNeg) - (μ.1 b1 ((nI 0)).toNatClampNeg) / (nI 7) * (nI 7)) → w_X7_has (μ.1 12 ((μ.1 10 (a2).toNatClampNeg)).toNatClampNeg) x1 μ (fun r2 => ((r2 = 0 ∨ r2 = 1) ∧ Q r2))))))
abbrev rm_X7_isHanging : Room := { frames := 1, cells := 0, slots := 0, locals := 21 }
/-- X7_hanging -/
def w_X7_hanging_29 (b1 : Nat) (X4 : Int32 → Int32 → Prop) (v3 : Int32) (s2 : Int32) (s1 : Int32) (μ : Mem) (Q : Int32 → Prop) : Prop :=
  ∀ x3 : Int32, x3 = (s1 ||| s2) → ∀ x4 : Int32, x4 = v3 + (nI 1) → (X4 x3 x4)
def s_X7_hanging_4 (b1 : Nat) (μ : Mem) (X4 : Int32 → Int32 → Prop) (v2 : Int32) (v3 : Int32) (Q : Int32 → Prop) : Prop :=
  (((μ.1 0 20) ≤ v3 → Q v2) ∧ (¬ (μ.1 0 20) ≤ v3 → w_X7_isHanging b1 v3 μ (fun r1 => ((r1 = 0 → (w_X7_hanging_29 b1 X4 v3 (nI 0) v2 μ Q)) ∧ (¬ r1 = 0 → (w_X7_hanging_29 b1 X4 v3 ((nI 1) <<< (v3 &&& 31)) v2 μ Q))))))
def w_X7_hanging_4 (b1 : Nat) (v2 : Int32) (v3 : Int32) (μ : Mem) (Q : Int32 → Prop) : Prop :=
  ∀ X4 : Int32 → Int32 → Prop, (∀ (v2 : Int32) (v3 : Int32), s_X7_hanging_4 b1 μ X4 v2 v3 Q → X4 v2 v3) → X4 v2 v3
def w_X7_hanging (b1 : Nat) (μ : Mem) (Q : Int32 → Prop) : Prop :=
  (w_X7_hanging_4 b1 (nI 0) (nI 0) μ Q)
abbrev rm_X7_hanging : Room := { frames := 2, cells := 0, slots := 0, locals := 43 }
/-- X7_postIn -/
def w_X7_postIn_31 (b1 : Nat) (a2 : Int32) (X5 : Int32 → Int32 → Prop) (v4 : Int32) (s1 : Int32) (μ : Mem) (Q : Int32 → Prop) : Prop :=
  ∀ x1 : Int32, x1 = v4 + (nI 1) → (X5 s1 x1)
def s_X7_postIn_5 (b1 : Nat) (a2 : Int32) (μ : Mem) (X5 : Int32 → Int32 → Prop) (v3 : Int32) (v4 : Int32) (Q : Int32 → Prop) : Prop :=
  (((μ.1 0 20) ≤ v4 → Q v3) ∧ (¬ (μ.1 0 20) ≤ v4 → (vp_in ((nI 15) + v4) 27 ∧ ((¬ (μ.1 b1 (((nI 15) + v4)).toNatClampNeg) = a2 → (w_X7_postIn_31 b1 a2 X5 v4 v3 μ Q)) ∧ ((μ.1 b1 (((nI 15) + v4)).toNatClampNeg) = a2 → (w_X7_postIn_31 b1 a2 X5 v4 v4 μ Q))))))
def w_X7_postIn_5 (b1 : Nat) (a2 : Int32) (v3 : Int32) (v4 : Int32) (μ : Mem) (Q : Int32 → Prop) : Prop :=
  ∀ X5 : Int32 → Int32 → Prop, (∀ (v3 : Int32) (v4 : Int32), s_X7_postIn_5 b1 a2 μ X5 v3 v4 Q → X5 v3 v4) → X5 v3 v4
def w_X7_postIn (b1 : Nat) (a2 : Int32) (μ : Mem) (Q : Int32 → Prop) : Prop :=
  (w_X7_postIn_5 b1 a2 ((-1) : Int32) (nI 0) μ Q)
abbrev rm_X7_postIn : Room := { frames := 0, cells := 0, slots := 0, locals := 0 }
/-- X7_jars -/
def s_X7_jars_4 (b1 : Nat) (μ : Mem) (X4 : Int32 → Int32 → Prop) (v2 : Int32) (v3 : Int32) (Q : Int32 → Prop) : Prop :=
  (((μ.1 0 20) ≤ v3 → Q v2) ∧ (¬ (μ.1 0 20) ≤ v3 → (vp_in ((nI 9) + v3) 27 ∧ ∀ x1 : Int32, x1 = (v2 + (μ.1 b1 (((nI 9) + v3)).toNatClampNeg)) → ∀ x2 : Int32, x2 = v3 + (nI 1) → (X4 x1 x2))))
def w_X7_jars_4 (b1 : Nat) (v2 : Int32) (v3 : Int32) (μ : Mem) (Q : Int32 → Prop) : Prop :=
  ∀ X4 : Int32 → Int32 → Prop, (∀ (v2 : Int32) (v3 : Int32), s_X7_jars_4 b1 μ X4 v2 v3 Q → X4 v2 v3) → X4 v2 v3
def w_X7_jars (b1 : Nat) (μ : Mem) (Q : Int32 → Prop) : Prop :=
  (w_X7_jars_4 b1 (nI 0) (nI 0) μ Q)
abbrev rm_X7_jars : Room := { frames := 0, cells := 0, slots := 0, locals := 0 }
/-- X7_told -/
def w_X7_told (a1 : Int32) (μ : Mem) (Q : Int32 → Prop) : Prop :=
  ((a1 = (nI 0) → Q (μ.1 0 18)) ∧ (¬ a1 = (nI 0) → ((a1 = (nI 1) → Q (μ.1 0 19)) ∧ (¬ a1 = (nI 1) → ((a1 = (nI 2) → w_X7_dayLong  μ (fun r1 => Q r1)) ∧ (¬ a1 = (nI 2) → ((a1 = (nI 3) → Q (μ.1 0 20)) ∧ (¬ a1 = (nI 3) → ((a1 = (nI 4) → Q (μ.1 0 22)) ∧ (¬ a1 = (nI 4) → ((a1 = (nI 5) → Q (μ.1 0 0)) ∧ (¬ a1 = (nI 5) → ((a1 = (nI 6) → (vp_in (nI 0) 27 ∧ Q (μ.1 14 ((nI 0)).toNatClampNeg))) ∧ (¬ a1 = (nI 6) → ((a1 = (nI 7) → (vp_in (nI 1) 27 ∧ Q (μ.1 14 ((nI 1)).toNatClampNeg))) ∧ (¬ a1 = (nI 7) → ((a1 = (nI 8) → (vp_in (nI 2) 27 ∧ Q (μ.1 14 ((nI 2)).toNatClampNeg))) ∧ (¬ a1 = (nI 8) → ((a1 = (nI 9) → w_X7_hanging 14 μ (fun r3 => Q r3)) ∧ (¬ a1 = (nI 9) → ((a1 = (nI 10) → w_X7_jars 14 μ (fun r5 => Q r5)) ∧ (¬ a1 = (nI 10) → ((a1 = (nI 11) → (vp_in (nI 3) 27 ∧ Q (μ.1 14 ((nI 3)).toNatClampNeg))) ∧ (¬ a1 = (nI 11) → ((a1 = (nI 12) → (vp_in (nI 4) 27 ∧ Q (μ.1 14 ((nI 4)).toNatClampNeg))) ∧ (¬ a1 = (nI 12) → ((a1 = (nI 13) → Q (μ.1 0 37)) ∧ (¬ a1 = (nI 13) → ((a1 = (nI 14) → Q (μ.1 0 39)) ∧ (¬ a1 = (nI 14) → ((a1 = (nI 15) → Q (μ.1 0 32)) ∧ (¬ a1 = (nI 15) → Q ((-1000000002) : Int32)))))))))))))))))))))))))))))))))
abbrev rm_X7_told : Room := { frames := 3, cells := 0, slots := 0, locals := 66 }
/-- X7_post -/
def w_X7_post (a1 : Int32) (a2 : Int32) (μ : Mem) (Q : Int32 → Prop) : Prop :=
  w_X7_isPost a1 μ (fun r1 => ((¬ r1 = 0 → ((a2 = (nI 0) → (vp_in ((nI 15) + a1) 27 ∧ Q (μ.1 14 (((nI 15) + a1)).toNatClampNeg))) ∧ (¬ a2 = (nI 0) → ((a2 = (nI 1) → (vp_in ((nI 21) + a1) 27 ∧ Q (μ.1 14 (((nI 21) + a1)).toNatClampNeg))) ∧ (¬ a2 = (nI 1) → ((a2 = (nI 2) → (vp_in a1 6 ∧ Q (μ.1 9 (a1).toNatClampNeg))) ∧ (¬ a2 = (nI 2) → ((a2 = (nI 3) → (vp_in a1 6 ∧ Q (μ.1 10 (a1).toNatClampNeg))) ∧ (¬ a2 = (nI 3) → ((a2 = (nI 4) → (vp_in ((nI 9) + a1) 27 ∧ Q (μ.1 14 (((nI 9) + a1)).toNatClampNeg))) ∧ (¬ a2 = (nI 4) → Q ((-1000000002) : Int32)))))))))))) ∧ (r1 = 0 → Q ((-1000000001) : Int32))))
abbrev rm_X7_post : Room := { frames := 2, cells := 0, slots := 0, locals := 43 }
/-- X7_fog -/
def w_X7_fog_31 (a1 : Int32) (a2 : Int32) (μ : Mem) (Q : Int32 → Prop) : Prop :=
  ((a1 = ((-1) : Int32) → ((¬ (μ.1 0 17) = 0 → ((¬ a2 = 0 → w_X7_fogOf 14 μ (fun r5 => Q r5)) ∧ (a2 = 0 → w_X7_sideOf 14 μ (fun r7 => Q r7)))) ∧ ((μ.1 0 17) = 0 → Q ((-1000000003) : Int32)))) ∧ (¬ a1 = ((-1) : Int32) → (vp_in (((nI 2) * a1) + a2) 24 ∧ Q (μ.1 8 ((((nI 2) * a1) + a2)).toNatClampNeg))))
def w_X7_fog (a1 : Int32) (a2 : Int32) (μ : Mem) (Q : Int32 → Prop) : Prop :=
  w_X7_in a2 (nI 0) (nI 1) μ (fun r1 => ((r1 = 0 → Q ((-1000000002) : Int32)) ∧ (¬ r1 = 0 → ((a1 = ((-1) : Int32) → (w_X7_fog_31 a1 a2 μ Q)) ∧ (¬ a1 = ((-1) : Int32) → w_X7_in a1 (nI 0) ((μ.1 0 21) - (nI 1)) μ (fun r3 => ((¬ r3 = 0 → (w_X7_fog_31 a1 a2 μ Q)) ∧ (r3 = 0 → Q ((-1000000002) : Int32)))))))))
abbrev rm_X7_fog : Room := { frames := 1, cells := 0, slots := 0, locals := 22 }
/-- X7_postsOf -/
def w_X7_postsOf_30 (a1 : Int32) (X4 : Int32 → Int32 → Prop) (v3 : Int32) (s2 : Int32) (s1 : Int32) (μ : Mem) (Q : Int32 → Prop) : Prop :=
  ∀ x1 : Int32, x1 = (s1 ||| s2) → ∀ x2 : Int32, x2 = v3 + (nI 1) → (X4 x1 x2)
def s_X7_postsOf_4 (a1 : Int32) (μ : Mem) (X4 : Int32 → Int32 → Prop) (v2 : Int32) (v3 : Int32) (Q : Int32 → Prop) : Prop :=
  (((μ.1 0 20) ≤ v3 → Q v2) ∧ (¬ (μ.1 0 20) ≤ v3 → (vp_in v3 6 ∧ ((¬ (μ.1 10 (v3).toNatClampNeg) = a1 → (w_X7_postsOf_30 a1 X4 v3 (nI 0) v2 μ Q)) ∧ ((μ.1 10 (v3).toNatClampNeg) = a1 → (w_X7_postsOf_30 a1 X4 v3 ((nI 1) <<< (v3 &&& 31)) v2 μ Q))))))
def w_X7_postsOf_4 (a1 : Int32) (v2 : Int32) (v3 : Int32) (μ : Mem) (Q : Int32 → Prop) : Prop :=
  ∀ X4 : Int32 → Int32 → Prop, (∀ (v2 : Int32) (v3 : Int32), s_X7_postsOf_4 a1 μ X4 v2 v3 Q → X4 v2 v3) → X4 v2 v3
def w_X7_postsOf (a1 : Int32) (μ : Mem) (Q : Int32 → Prop) : Prop :=
  (w_X7_postsOf_4 a1 (nI 0) (nI 0) μ Q)
abbrev rm_X7_postsOf : Room := { frames := 0, cells := 0, slots := 0, locals := 0 }
/-- X7_village -/
def w_X7_village (a1 : Int32) (a2 : Int32) (μ : Mem) (Q : Int32 → Prop) : Prop :=
  w_X7_isVillage a1 μ (fun r1 => ((¬ r1 = 0 → ((a2 = (nI 0) → (vp_in a1 2 ∧ Q (μ.1 12 (a1).toNatClampNeg))) ∧ (¬ a2 = (nI 0) → ((a2 = (nI 1) → (vp_in a1 2 ∧ Q (μ.1 13 (a1).toNatClampNeg))) ∧ (¬ a2 = (nI 1) → ((a2 = (nI 2) → (vp_in ((nI 5) + a1) 27 ∧ Q (μ.1 14 (((nI 5) + a1)).toNatClampNeg))) ∧ (¬ a2 = (nI 2) → ((a2 = (nI 3) → (vp_in ((nI 7) + a1) 27 ∧ Q (μ.1 14 (((nI 7) + a1)).toNatClampNeg))) ∧ (¬ a2 = (nI 3) → ((a2 = (nI 4) → w_X7_postsOf a1 μ (fun r3 => Q r3)) ∧ (¬ a2 = (nI 4) → Q ((-1000000002) : Int32)))))))))))) ∧ (r1 = 0 → Q ((-1000000001) : Int32))))
abbrev rm_X7_village : Room := { frames := 2, cells := 0, slots := 0, locals := 42 }
/-- X7_goat -/
def w_X7_goat (a1 : Int32) (a2 : Int32) (μ : Mem) (Q : Int32 → Prop) : Prop :=
  w_X7_in a1 (nI 0) ((μ.1 0 22) - (nI 1)) μ (fun r1 => ((¬ r1 = 0 → w_X7_in a2 (nI 0) (nI 1) μ (fun r3 => ((r3 = 0 → Q ((-1000000002) : Int32)) ∧ (¬ r3 = 0 → (vp_in (((nI 2) * a1) + a2) 8 ∧ Q (μ.1 11 ((((nI 2) * a1) + a2)).toNatClampNeg)))))) ∧ (r1 = 0 → Q ((-1000000001) : Int32))))
abbrev rm_X7_goat : Room := { frames := 1, cells := 0, slots := 0, locals := 22 }
/-- X7_takes -/
def w_X7_takes (a0 : Int32) (a1 : Int32) (μ : Mem) (Q : Int32 → Prop) : Prop :=
  ((a1 < (nI 20) → (¬ (nI 10) = 0 ∧ Q ((a1 * ((nI 9) - a0)) / (nI 10)))) ∧ (¬ a1 < (nI 20) → (¬ (nI 10) = 0 ∧ Q ((a1 * a0) / (nI 10)))))
abbrev rm_X7_takes : Room := { frames := 0, cells := 0, slots := 0, locals := 0 }
/-- X7_leads -/
def w_X7_leads_113 (b1 : Nat) (a2 : Int32) (a3 : Int32) (a4 : Int32) (X32 : Int32 → Int32 → Mem → Prop) (v5 : Int32) (v6 : Int32) (μ : Mem) (Q : Int32 → Mem → Prop) : Prop :=
  ∀ x11 : Int32, x11 = v6 + (nI 1) → (X32 v5 x11 μ)
def w_X7_leads_61 (b1 : Nat) (a2 : Int32) (a3 : Int32) (a4 : Int32) (X32 : Int32 → Int32 → Mem → Prop) (v5 : Int32) (v6 : Int32) (s3 : Int32) (μ : Mem) (Q : Int32 → Mem → Prop) : Prop :=
  w_X7_postIn b1 s3 μ (fun r3 => ((r3 = ((-1) : Int32) → (w_X7_leads_113 b1 a2 a3 a4 X32 v5 v6 μ Q)) ∧ (¬ r3 = ((-1) : Int32) → w_X7_has a4 r3 μ (fun r5 => ((r5 = 0 → (w_X7_leads_113 b1 a2 a3 a4 X32 v5 v6 μ Q)) ∧ (¬ r5 = 0 → (vp_in ((nI 21) + r3) 27 ∧ w_X7_takes (μ.1 b1 (((nI 21) + r3)).toNatClampNeg) v5 μ (fun r7 => (vp_in r3 6 ∧ ∀ μ9 : Mem, μ9 = sI μ 16 (r3).toNatClampNeg r7 → (vp_in r3 6 ∧ ∀ x10 : Int32, x10 = (v5 - (μ9.1 16 (r3).toNatClampNeg)) → (w_X7_leads_113 b1 a2 a3 a4 X32 x10 v6 μ9 Q)))))))))))
def s_X7_leads_32 (b1 : Nat) (a2 : Int32) (a3 : Int32) (a4 : Int32) (X32 : Int32 → Int32 → Mem → Prop) (v5 : Int32) (v6 : Int32) (μ : Mem) (Q : Int32 → Mem → Prop) : Prop :=
  (((μ.1 0 18) ≤ v6 → Q v5 μ) ∧ (¬ (μ.1 0 18) ≤ v6 → ((¬ a3 = 0 → (w_X7_leads_61 b1 a2 a3 a4 X32 v5 v6 (((μ.1 0 18) - (nI 1)) - v6) μ Q)) ∧ (a3 = 0 → (w_X7_leads_61 b1 a2 a3 a4 X32 v5 v6 v6 μ Q)))))
def w_X7_leads_32 (b1 : Nat) (a2 : Int32) (a3 : Int32) (a4 : Int32) (v5 : Int32) (v6 : Int32) (μ : Mem) (Q : Int32 → Mem → Prop) : Prop :=
  ∀ X32 : Int32 → Int32 → Mem → Prop, (∀ (v5 : Int32) (v6 : Int32) (μ : Mem), s_X7_leads_32 b1 a2 a3 a4 X32 v5 v6 μ Q → X32 v5 v6 μ) → X32 v5 v6 μ
def w_X7_leads_26 (b1 : Nat) (a2 : Int32) (a3 : Int32) (a4 : Int32) (μ : Mem) (Q : Int32 → Mem → Prop) : Prop :=
  (w_X7_leads_32 b1 a2 a3 a4 a2 (nI 0) μ Q)
def s_X7_leads_3 (b1 : Nat) (a2 : Int32) (a3 : Int32) (a4 : Int32) (X3 : Int32 → Mem → Prop) (v5 : Int32) (μ : Mem) (Q : Int32 → Mem → Prop) : Prop :=
  (((μ.1 0 20) ≤ v5 → (w_X7_leads_26 b1 a2 a3 a4 μ Q)) ∧ (¬ (μ.1 0 20) ≤ v5 → (vp_in v5 6 ∧ ∀ μ1 : Mem, μ1 = sI μ 16 (v5).toNatClampNeg (nI 0) → ∀ x2 : Int32, x2 = v5 + (nI 1) → (X3 x2 μ1))))
def w_X7_leads_3 (b1 : Nat) (a2 : Int32) (a3 : Int32) (a4 : Int32) (v5 : Int32) (μ : Mem) (Q : Int32 → Mem → Prop) : Prop :=
  ∀ X3 : Int32 → Mem → Prop, (∀ (v5 : Int32) (μ : Mem), s_X7_leads_3 b1 a2 a3 a4 X3 v5 μ Q → X3 v5 μ) → X3 v5 μ
def w_X7_leads (b1 : Nat) (a2 : Int32) (a3 : Int32) (a4 : Int32) (μ : Mem) (Q : Int32 → Mem → Prop) : Prop :=
  (w_X7_leads_3 b1 a2 a3 a4 (nI 0) μ Q)
abbrev rm_X7_leads : Room := { frames := 1, cells := 0, slots := 0, locals := 24 }
/-- X7_counted -/
def w_X7_counted (a0 : Int32) (μ : Mem) (Q : Int32 → Prop) : Prop :=
  ((a0 ≤ (nI 999999) → Q a0) ∧ (¬ a0 ≤ (nI 999999) → Q (nI 999999)))
abbrev rm_X7_counted : Room := { frames := 0, cells := 0, slots := 0, locals := 0 }
/-- X7_lit -/
def w_X7_lit_11 (a0 : Int32) (a1 : Int32) (a2 : Int32) (s2 : Int32) (s1 : Int32) (μ : Mem) (Q : Int32 → Prop) : Prop :=
  ∀ x1 : Int32, x1 = (s1 - s2) → ((0 ≤ x1 → Q x1) ∧ (¬ 0 ≤ x1 → Q (nI 0)))
def w_X7_lit (a0 : Int32) (a1 : Int32) (a2 : Int32) (μ : Mem) (Q : Int32 → Prop) : Prop :=
  ((¬ a1 = (nI 1) → (w_X7_lit_11 a0 a1 a2 (nI 0) a0 μ Q)) ∧ (a1 = (nI 1) → (w_X7_lit_11 a0 a1 a2 a2 a0 μ Q)))
abbrev rm_X7_lit : Room := { frames := 0, cells := 0, slots := 0, locals := 0 }
/-- X7_allTook -/
def s_X7_allTook_4 (μ : Mem) (X4 : Int32 → Int32 → Prop) (v1 : Int32) (v2 : Int32) (Q : Int32 → Prop) : Prop :=
  (((μ.1 0 20) ≤ v2 → Q v1) ∧ (¬ (μ.1 0 20) ≤ v2 → (vp_in v2 6 ∧ ∀ x1 : Int32, x1 = (v1 + (μ.1 16 (v2).toNatClampNeg)) → ∀ x2 : Int32, x2 = v2 + (nI 1) → (X4 x1 x2))))
def w_X7_allTook_4 (v1 : Int32) (v2 : Int32) (μ : Mem) (Q : Int32 → Prop) : Prop :=
  ∀ X4 : Int32 → Int32 → Prop, (∀ (v1 : Int32) (v2 : Int32), s_X7_allTook_4 μ X4 v1 v2 Q → X4 v1 v2) → X4 v1 v2
def w_X7_allTook (μ : Mem) (Q : Int32 → Prop) : Prop :=
  (w_X7_allTook_4 (nI 0) (nI 0) μ Q)
abbrev rm_X7_allTook : Room := { frames := 0, cells := 0, slots := 0, locals := 0 }
/-- X7_drinks -/
def w_X7_drinks_92 (b1 : Nat) (X2 : Int32 → Mem → Prop) (v2 : Int32) (μ : Mem) (Q : Mem → Prop) : Prop :=
  ∀ x7 : Int32, x7 = v2 + (nI 1) → (X2 x7 μ)
def w_X7_drinks_67 (b1 : Nat) (X2 : Int32 → Mem → Prop) (v2 : Int32) (v3 : Int32) (s1 : Int32) (μ : Mem) (Q : Mem → Prop) : Prop :=
  (vp_in ((nI 9) + v3) 27 ∧ (vp_in ((nI 9) + v3) 27 ∧ ∀ μ3 : Mem, μ3 = sI μ b1 (((nI 9) + v3)).toNatClampNeg ((μ.1 b1 (((nI 9) + v3)).toNatClampNeg) - s1) → (vp_in (nI 4) 27 ∧ w_X7_counted ((μ3.1 b1 ((nI 4)).toNatClampNeg) + s1) μ3 (fun r4 => (vp_in (nI 4) 27 ∧ ∀ μ6 : Mem, μ6 = sI μ3 b1 ((nI 4)).toNatClampNeg r4 → (w_X7_drinks_92 b1 X2 v2 μ6 Q))))))
def s_X7_drinks_2 (b1 : Nat) (X2 : Int32 → Mem → Prop) (v2 : Int32) (μ : Mem) (Q : Mem → Prop) : Prop :=
  (((μ.1 0 22) ≤ v2 → Q μ) ∧ (¬ (μ.1 0 22) ≤ v2 → (vp_in ((nI 2) * v2) 8 ∧ w_X7_postIn b1 (μ.1 11 (((nI 2) * v2)).toNatClampNeg) μ (fun r1 => ((r1 = ((-1) : Int32) → (w_X7_drinks_92 b1 X2 v2 μ Q)) ∧ (¬ r1 = ((-1) : Int32) → (vp_in ((nI 9) + r1) 27 ∧ (vp_in (((nI 2) * v2) + (nI 1)) 8 ∧ (((μ.1 11 ((((nI 2) * v2) + (nI 1))).toNatClampNeg) ≤ (μ.1 b1 (((nI 9) + r1)).toNatClampNeg) → (vp_in (((nI 2) * v2) + (nI 1)) 8 ∧ (w_X7_drinks_67 b1 X2 v2 r1 (μ.1 11 ((((nI 2) * v2) + (nI 1))).toNatClampNeg) μ Q))) ∧ (¬ (μ.1 11 ((((nI 2) * v2) + (nI 1))).toNatClampNeg) ≤ (μ.1 b1 (((nI 9) + r1)).toNatClampNeg) → (vp_in ((nI 9) + r1) 27 ∧ (w_X7_drinks_67 b1 X2 v2 r1 (μ.1 b1 (((nI 9) + r1)).toNatClampNeg) μ Q))))))))))))
def w_X7_drinks_2 (b1 : Nat) (v2 : Int32) (μ : Mem) (Q : Mem → Prop) : Prop :=
  ∀ X2 : Int32 → Mem → Prop, (∀ (v2 : Int32) (μ : Mem), s_X7_drinks_2 b1 X2 v2 μ Q → X2 v2 μ) → X2 v2 μ
def w_X7_drinks (b1 : Nat) (μ : Mem) (Q : Mem → Prop) : Prop :=
  (w_X7_drinks_2 b1 (nI 0) μ Q)
abbrev rm_X7_drinks : Room := { frames := 1, cells := 0, slots := 0, locals := 24 }
/-- X7_usesUp -/
def w_X7_usesUp_37 (b1 : Nat) (X2 : Int32 → Mem → Prop) (v2 : Int32) (s1 : Int32) (μ : Mem) (Q : Mem → Prop) : Prop :=
  (vp_in ((nI 5) + v2) 27 ∧ (vp_in v2 2 ∧ (vp_in ((nI 5) + v2) 27 ∧ ∀ μ1 : Mem, μ1 = sI μ b1 (((nI 5) + v2)).toNatClampNeg ((μ.1 b1 (((nI 5) + v2)).toNatClampNeg) - ((μ.1 13 (v2).toNatClampNeg) - s1)) → (vp_in ((nI 7) + v2) 27 ∧ w_X7_counted ((μ1.1 b1 (((nI 7) + v2)).toNatClampNeg) + s1) μ1 (fun r2 => (vp_in ((nI 7) + v2) 27 ∧ ∀ μ4 : Mem, μ4 = sI μ1 b1 (((nI 7) + v2)).toNatClampNeg r2 → ∀ x5 : Int32, x5 = v2 + (nI 1) → (X2 x5 μ4)))))))
def s_X7_usesUp_2 (b1 : Nat) (X2 : Int32 → Mem → Prop) (v2 : Int32) (μ : Mem) (Q : Mem → Prop) : Prop :=
  (((nI 2) ≤ v2 → Q μ) ∧ (¬ (nI 2) ≤ v2 → (vp_in v2 2 ∧ (vp_in ((nI 5) + v2) 27 ∧ (((μ.1 13 (v2).toNatClampNeg) ≤ (μ.1 b1 (((nI 5) + v2)).toNatClampNeg) → (w_X7_usesUp_37 b1 X2 v2 (nI 0) μ Q)) ∧ (¬ (μ.1 13 (v2).toNatClampNeg) ≤ (μ.1 b1 (((nI 5) + v2)).toNatClampNeg) → (vp_in v2 2 ∧ (vp_in ((nI 5) + v2) 27 ∧ (w_X7_usesUp_37 b1 X2 v2 ((μ.1 13 (v2).toNatClampNeg) - (μ.1 b1 (((nI 5) + v2)).toNatClampNeg)) μ Q)))))))))
def w_X7_usesUp_2 (b1 : Nat) (v2 : Int32) (μ : Mem) (Q : Mem → Prop) : Prop :=
  ∀ X2 : Int32 → Mem → Prop, (∀ (v2 : Int32) (μ : Mem), s_X7_usesUp_2 b1 X2 v2 μ Q → X2 v2 μ) → X2 v2 μ
def w_X7_usesUp (b1 : Nat) (μ : Mem) (Q : Mem → Prop) : Prop :=
  (w_X7_usesUp_2 b1 (nI 0) μ Q)
abbrev rm_X7_usesUp : Room := { frames := 1, cells := 0, slots := 0, locals := 20 }
/-- X7_carries -/
def w_X7_carries_102 (b1 : Nat) (a2 : Int32) (v3 : Int32) (s3 : Int32) (s2 : Int32) (μ : Mem) (Q : Int32 → Mem → Prop) : Prop :=
  (vp_in s2 27 ∧ ∀ μ4 : Mem, μ4 = sI μ b1 (s2).toNatClampNeg s3 → Q v3 μ4)
def w_X7_carries_74 (b1 : Nat) (a2 : Int32) (v3 : Int32) (μ : Mem) (Q : Int32 → Mem → Prop) : Prop :=
  (vp_in ((nI 5) + a2) 27 ∧ ((((μ.1 b1 (((nI 5) + a2)).toNatClampNeg) + v3) ≤ (nI 99999) → (vp_in ((nI 5) + a2) 27 ∧ (w_X7_carries_102 b1 a2 v3 ((μ.1 b1 (((nI 5) + a2)).toNatClampNeg) + v3) ((nI 5) + a2) μ Q))) ∧ (¬ ((μ.1 b1 (((nI 5) + a2)).toNatClampNeg) + v3) ≤ (nI 99999) → (w_X7_carries_102 b1 a2 v3 (nI 99999) ((nI 5) + a2) μ Q))))
def w_X7_carries_67 (b1 : Nat) (a2 : Int32) (X5 : Int32 → Int32 → Mem → Prop) (v3 : Int32) (v4 : Int32) (s3 : Int32) (s2 : Int32) (μ : Mem) (Q : Int32 → Mem → Prop) : Prop :=
  (vp_in s2 27 ∧ ∀ μ2 : Mem, μ2 = sI μ b1 (s2).toNatClampNeg s3 → ∀ x3 : Int32, x3 = v4 + (nI 1) → (X5 v3 x3 μ2))
def w_X7_carries_37 (b1 : Nat) (a2 : Int32) (X5 : Int32 → Int32 → Mem → Prop) (v4 : Int32) (s2 : Int32) (s1 : Int32) (μ : Mem) (Q : Int32 → Mem → Prop) : Prop :=
  ∀ x1 : Int32, x1 = (s1 + s2) → (vp_in v4 6 ∧ ((¬ (μ.1 10 (v4).toNatClampNeg) = a2 → (vp_in ((nI 9) + v4) 27 ∧ (w_X7_carries_67 b1 a2 X5 x1 v4 (μ.1 b1 (((nI 9) + v4)).toNatClampNeg) ((nI 9) + v4) μ Q))) ∧ ((μ.1 10 (v4).toNatClampNeg) = a2 → (w_X7_carries_67 b1 a2 X5 x1 v4 (nI 0) ((nI 9) + v4) μ Q))))
def s_X7_carries_5 (b1 : Nat) (a2 : Int32) (X5 : Int32 → Int32 → Mem → Prop) (v3 : Int32) (v4 : Int32) (μ : Mem) (Q : Int32 → Mem → Prop) : Prop :=
  (((μ.1 0 20) ≤ v4 → (w_X7_carries_74 b1 a2 v3 μ Q)) ∧ (¬ (μ.1 0 20) ≤ v4 → (vp_in v4 6 ∧ ((¬ (μ.1 10 (v4).toNatClampNeg) = a2 → (w_X7_carries_37 b1 a2 X5 v4 (nI 0) v3 μ Q)) ∧ ((μ.1 10 (v4).toNatClampNeg) = a2 → (vp_in ((nI 9) + v4) 27 ∧ (w_X7_carries_37 b1 a2 X5 v4 (μ.1 b1 (((nI 9) + v4)).toNatClampNeg) v3 μ Q)))))))
def w_X7_carries_5 (b1 : Nat) (a2 : Int32) (v3 : Int32) (v4 : Int32) (μ : Mem) (Q : Int32 → Mem → Prop) : Prop :=
  ∀ X5 : Int32 → Int32 → Mem → Prop, (∀ (v3 : Int32) (v4 : Int32) (μ : Mem), s_X7_carries_5 b1 a2 X5 v3 v4 μ Q → X5 v3 v4 μ) → X5 v3 v4 μ
def w_X7_carries (b1 : Nat) (a2 : Int32) (μ : Mem) (Q : Int32 → Mem → Prop) : Prop :=
  (w_X7_carries_5 b1 a2 (nI 0) (nI 0) μ Q)
abbrev rm_X7_carries : Room := { frames := 0, cells := 0, slots := 0, locals := 0 }
/-- X7_passes -/
def w_X7_passes_167 (b1 : Nat) (a2 : Int32) (a3 : Int32) (a4 : Int32) (μ : Mem) (Q : Int32 → Mem → Prop) : Prop :=
  w_X7_allTook  μ (fun r26 => Q r26 μ)
def w_X7_passes_146 (b1 : Nat) (a2 : Int32) (a3 : Int32) (a4 : Int32) (μ : Mem) (Q : Int32 → Mem → Prop) : Prop :=
  w_X7_drinks b1 μ (fun μ21 => w_X7_usesUp b1 μ21 (fun μ23 => (vp_in (nI 1) 27 ∧ ∀ μ24 : Mem, μ24 = sI μ23 b1 ((nI 1)).toNatClampNeg (nI 0) → (vp_in (nI 0) 27 ∧ (vp_in (nI 0) 27 ∧ ∀ μ25 : Mem, μ25 = sI μ24 b1 ((nI 0)).toNatClampNeg ((μ24.1 b1 ((nI 0)).toNatClampNeg) + (nI 1)) → (w_X7_passes_167 b1 a2 a3 a4 μ25 Q))))))
def w_X7_passes_110 (b1 : Nat) (a2 : Int32) (a3 : Int32) (a4 : Int32) (μ : Mem) (Q : Int32 → Mem → Prop) : Prop :=
  (vp_in (nI 1) 27 ∧ (vp_in (nI 1) 27 ∧ ∀ μ13 : Mem, μ13 = sI μ b1 ((nI 1)).toNatClampNeg ((μ.1 b1 ((nI 1)).toNatClampNeg) + (nI 1)) → (vp_in (nI 1) 27 ∧ w_X7_dayLong  μ13 (fun r14 => ((¬ (μ13.1 b1 ((nI 1)).toNatClampNeg) = r14 → (w_X7_passes_167 b1 a2 a3 a4 μ13 Q)) ∧ ((μ13.1 b1 ((nI 1)).toNatClampNeg) = r14 → ((a4 = 0 → (w_X7_passes_146 b1 a2 a3 a4 μ13 Q)) ∧ (¬ a4 = 0 → w_X7_carries b1 (nI 0) μ13 (fun r16 μ17 => w_X7_carries b1 (nI 1) μ17 (fun r18 μ19 => (w_X7_passes_146 b1 a2 a3 a4 μ19 Q)))))))))))
def w_X7_passes_78 (b1 : Nat) (a2 : Int32) (a3 : Int32) (a4 : Int32) (X26 : Int32 → Mem → Prop) (v5 : Int32) (v6 : Int32) (s1 : Int32) (μ : Mem) (Q : Int32 → Mem → Prop) : Prop :=
  (vp_in ((nI 9) + v5) 27 ∧ ∀ μ8 : Mem, μ8 = sI μ b1 (((nI 9) + v5)).toNatClampNeg (v6 - s1) → (vp_in (nI 3) 27 ∧ w_X7_counted ((μ8.1 b1 ((nI 3)).toNatClampNeg) + s1) μ8 (fun r9 => (vp_in (nI 3) 27 ∧ ∀ μ11 : Mem, μ11 = sI μ8 b1 ((nI 3)).toNatClampNeg r9 → ∀ x12 : Int32, x12 = v5 + (nI 1) → (X26 x12 μ11)))))
def s_X7_passes_26 (b1 : Nat) (a2 : Int32) (a3 : Int32) (a4 : Int32) (X26 : Int32 → Mem → Prop) (v5 : Int32) (μ : Mem) (Q : Int32 → Mem → Prop) : Prop :=
  (((μ.1 0 20) ≤ v5 → (w_X7_passes_110 b1 a2 a3 a4 μ Q)) ∧ (¬ (μ.1 0 20) ≤ v5 → (vp_in ((nI 9) + v5) 27 ∧ (vp_in v5 6 ∧ ∀ x7 : Int32, x7 = ((μ.1 b1 (((nI 9) + v5)).toNatClampNeg) + (μ.1 16 (v5).toNatClampNeg)) → (vp_in v5 6 ∧ ((x7 ≤ (μ.1 9 (v5).toNatClampNeg) → (w_X7_passes_78 b1 a2 a3 a4 X26 v5 x7 (nI 0) μ Q)) ∧ (¬ x7 ≤ (μ.1 9 (v5).toNatClampNeg) → (vp_in v5 6 ∧ (w_X7_passes_78 b1 a2 a3 a4 X26 v5 x7 (x7 - (μ.1 9 (v5).toNatClampNeg)) μ Q)))))))))
def w_X7_passes_26 (b1 : Nat) (a2 : Int32) (a3 : Int32) (a4 : Int32) (v5 : Int32) (μ : Mem) (Q : Int32 → Mem → Prop) : Prop :=
  ∀ X26 : Int32 → Mem → Prop, (∀ (v5 : Int32) (μ : Mem), s_X7_passes_26 b1 a2 a3 a4 X26 v5 μ Q → X26 v5 μ) → X26 v5 μ
def w_X7_passes (b1 : Nat) (a2 : Int32) (a3 : Int32) (a4 : Int32) (μ : Mem) (Q : Int32 → Mem → Prop) : Prop :=
  (vp_in (nI 2) 27 ∧ w_X7_lit a2 (μ.1 b1 ((nI 2)).toNatClampNeg) (μ.1 0 19) μ (fun r1 => w_X7_hanging b1 μ (fun r3 => w_X7_leads b1 r1 a3 r3 μ (fun r5 μ6 => (w_X7_passes_26 b1 a2 a3 a4 (nI 0) μ6 Q)))))
abbrev rm_X7_passes : Room := { frames := 3, cells := 0, slots := 0, locals := 66 }
/-- X7_passesOn -/
def w_X7_passesOn (b1 : Nat) (μ : Mem) (Q : Int32 → Mem → Prop) : Prop :=
  w_X7_fogOf b1 μ (fun r1 => w_X7_sideOf b1 μ (fun r3 => w_X7_passes b1 r1 r3 (nI 0) μ (fun r5 μ6 => Q r5 μ6)))
abbrev rm_X7_passesOn : Room := { frames := 4, cells := 0, slots := 0, locals := 93 }
/-- X7_remember -/
def w_X7_remember_66 (s3 : Int32) (s2 : Int32) (μ : Mem) (Q : Mem → Prop) : Prop :=
  ∀ μ5 : Mem, μ5 = sI μ 0 32 (s2 + s3) → Q μ5
def w_X7_remember_34 (μ : Mem) (Q : Mem → Prop) : Prop :=
  (¬ (nI 30) = 0 ∧ ∀ x3 : Int32, x3 = (((μ.1 0 33) + (nI 1)) - ((μ.1 0 33) + (nI 1)) / (nI 30) * (nI 30)) → ∀ μ4 : Mem, μ4 = sI μ 0 33 x3 → (((nI 30) ≤ (μ4.1 0 32) → (w_X7_remember_66 (nI 0) (μ4.1 0 32) μ4 Q)) ∧ (¬ (nI 30) ≤ (μ4.1 0 32) → (w_X7_remember_66 (nI 1) (μ4.1 0 32) μ4 Q))))
def s_X7_remember_2  (X2 : Int32 → Mem → Prop) (v1 : Int32) (μ : Mem) (Q : Mem → Prop) : Prop :=
  (((nI 27) ≤ v1 → (w_X7_remember_34 μ Q)) ∧ (¬ (nI 27) ≤ v1 → (vp_in v1 27 ∧ (vp_in (((nI 27) * (μ.1 0 33)) + v1) 810 ∧ ∀ μ1 : Mem, μ1 = sI μ 17 ((((nI 27) * (μ.1 0 33)) + v1)).toNatClampNeg (μ.1 14 (v1).toNatClampNeg) → ∀ x2 : Int32, x2 = v1 + (nI 1) → (X2 x2 μ1)))))
def w_X7_remember_2 (v1 : Int32) (μ : Mem) (Q : Mem → Prop) : Prop :=
  ∀ X2 : Int32 → Mem → Prop, (∀ (v1 : Int32) (μ : Mem), s_X7_remember_2  X2 v1 μ Q → X2 v1 μ) → X2 v1 μ
def w_X7_remember (μ : Mem) (Q : Mem → Prop) : Prop :=
  (w_X7_remember_2 (nI 0) μ Q)
abbrev rm_X7_remember : Room := { frames := 0, cells := 0, slots := 0, locals := 0 }
/-- X7_need -/
def w_X7_need (a1 : Int32) (μ : Mem) (Q : Int32 → Prop) : Prop :=
  ((¬ a1 = 0 → ((¬ (μ.1 0 17) = 0 → Q (nI 0)) ∧ ((μ.1 0 17) = 0 → Q ((-1000000003) : Int32)))) ∧ (a1 = 0 → Q ((-1000000002) : Int32)))
abbrev rm_X7_need : Room := { frames := 0, cells := 0, slots := 0, locals := 0 }
/-- X7_hour -/
def s_X7_hour_38 (a1 : Int32) (X38 : Int32 → Int32 → Mem → Prop) (v3 : Int32) (v4 : Int32) (μ : Mem) (Q : Int32 → Mem → Prop) : Prop :=
  ((a1 ≤ v4 → Q v3 μ) ∧ (¬ a1 ≤ v4 → w_X7_remember  μ (fun μ6 => w_X7_passesOn 14 μ6 (fun r7 μ8 => ∀ x9 : Int32, x9 = (v3 + r7) → ∀ x10 : Int32, x10 = v4 + (nI 1) → (X38 x9 x10 μ8)))))
def w_X7_hour_38 (a1 : Int32) (v3 : Int32) (v4 : Int32) (μ : Mem) (Q : Int32 → Mem → Prop) : Prop :=
  ∀ X38 : Int32 → Int32 → Mem → Prop, (∀ (v3 : Int32) (v4 : Int32) (μ : Mem), s_X7_hour_38 a1 X38 v3 v4 μ Q → X38 v3 v4 μ) → X38 v3 v4 μ
def w_X7_hour (a1 : Int32) (μ : Mem) (Q : Int32 → Mem → Prop) : Prop :=
  w_X7_in a1 (nI 1) (nI 60) μ (fun r1 => w_X7_need r1 μ (fun r3 => ((0 ≤ r3 → (vp_in (nI 0) 27 ∧ (((μ.1 14 ((nI 0)).toNatClampNeg) ≤ (nI 9000) → (w_X7_hour_38 a1 (nI 0) (nI 0) μ Q)) ∧ (¬ (μ.1 14 ((nI 0)).toNatClampNeg) ≤ (nI 9000) → Q ((-1000000004) : Int32) μ)))) ∧ (¬ 0 ≤ r3 → Q r3 μ))))
abbrev rm_X7_hour : Room := { frames := 5, cells := 0, slots := 0, locals := 114 }
/-- X7_carry -/
def w_X7_carry (a1 : Int32) (μ : Mem) (Q : Int32 → Mem → Prop) : Prop :=
  w_X7_isVillage a1 μ (fun r1 => ((¬ r1 = 0 → ((¬ (μ.1 0 17) = 0 → w_X7_remember  μ (fun μ4 => w_X7_carries 14 a1 μ4 (fun r5 μ6 => Q r5 μ6))) ∧ ((μ.1 0 17) = 0 → Q ((-1000000003) : Int32) μ))) ∧ (r1 = 0 → Q ((-1000000001) : Int32) μ)))
abbrev rm_X7_carry : Room := { frames := 2, cells := 0, slots := 0, locals := 42 }
/-- X7_licks -/
def w_X7_licks_36 (a1 : Int32) (a2 : Int32) (s3 : Int32) (s2 : Int32) (μ : Mem) (Q : Mem → Prop) : Prop :=
  (vp_in s2 27 ∧ ∀ μ1 : Mem, μ1 = sI μ 14 (s2).toNatClampNeg s3 → Q μ1)
def w_X7_licks (a1 : Int32) (a2 : Int32) (μ : Mem) (Q : Mem → Prop) : Prop :=
  (vp_in ((nI 9) + a1) 27 ∧ (((μ.1 14 (((nI 9) + a1)).toNatClampNeg) ≤ a2 → (w_X7_licks_36 a1 a2 (nI 0) ((nI 9) + a1) μ Q)) ∧ (¬ (μ.1 14 (((nI 9) + a1)).toNatClampNeg) ≤ a2 → (vp_in ((nI 9) + a1) 27 ∧ (w_X7_licks_36 a1 a2 ((μ.1 14 (((nI 9) + a1)).toNatClampNeg) - a2) ((nI 9) + a1) μ Q)))))
abbrev rm_X7_licks : Room := { frames := 0, cells := 0, slots := 0, locals := 0 }
/-- X7_lick -/
def w_X7_lick (a1 : Int32) (a2 : Int32) (μ : Mem) (Q : Int32 → Mem → Prop) : Prop :=
  w_X7_isPost a1 μ (fun r1 => ((¬ r1 = 0 → w_X7_in a2 (nI 1) (nI 99) μ (fun r3 => ((¬ r3 = 0 → w_X7_remember  μ (fun μ6 => w_X7_licks a1 a2 μ6 (fun μ8 => (vp_in ((nI 9) + a1) 27 ∧ Q (μ8.1 14 (((nI 9) + a1)).toNatClampNeg) μ8)))) ∧ (r3 = 0 → Q ((-1000000002) : Int32) μ)))) ∧ (r1 = 0 → Q ((-1000000001) : Int32) μ)))
abbrev rm_X7_lick : Room := { frames := 2, cells := 0, slots := 0, locals := 43 }
/-- X7_mesh -/
def w_X7_mesh (a1 : Int32) (a2 : Int32) (μ : Mem) (Q : Int32 → Mem → Prop) : Prop :=
  w_X7_isPost a1 μ (fun r1 => ((¬ r1 = 0 → w_X7_in a2 (nI 0) (nI 9) μ (fun r3 => ((¬ r3 = 0 → w_X7_remember  μ (fun μ6 => (vp_in ((nI 21) + a1) 27 ∧ ∀ x7 : Int32, x7 = (μ6.1 14 (((nI 21) + a1)).toNatClampNeg) → (vp_in ((nI 21) + a1) 27 ∧ ∀ μ8 : Mem, μ8 = sI μ6 14 (((nI 21) + a1)).toNatClampNeg a2 → Q x7 μ8)))) ∧ (r3 = 0 → Q ((-1000000002) : Int32) μ)))) ∧ (r1 = 0 → Q ((-1000000001) : Int32) μ)))
abbrev rm_X7_mesh : Room := { frames := 2, cells := 0, slots := 0, locals := 43 }
/-- X7_move -/
def w_X7_move (a1 : Int32) (a2 : Int32) (μ : Mem) (Q : Int32 → Mem → Prop) : Prop :=
  w_X7_isPost a1 μ (fun r1 => ((r1 = 0 → Q ((-1000000001) : Int32) μ) ∧ (¬ r1 = 0 → w_X7_isCell a2 μ (fun r3 => ((¬ r3 = 0 → w_X7_postIn 14 a2 μ (fun r5 => ((r5 = ((-1) : Int32) → w_X7_remember  μ (fun μ8 => (vp_in ((nI 15) + a1) 27 ∧ ∀ x9 : Int32, x9 = (μ8.1 14 (((nI 15) + a1)).toNatClampNeg) → (vp_in ((nI 15) + a1) 27 ∧ ∀ μ10 : Mem, μ10 = sI μ8 14 (((nI 15) + a1)).toNatClampNeg a2 → Q x9 μ10)))) ∧ (¬ r5 = ((-1) : Int32) → Q ((-1000000003) : Int32) μ)))) ∧ (r3 = 0 → Q ((-1000000001) : Int32) μ))))))
abbrev rm_X7_move : Room := { frames := 2, cells := 0, slots := 0, locals := 43 }
/-- X7_lamp -/
def w_X7_lamp_35 (a1 : Int32) (v2 : Int32) (s3 : Int32) (s2 : Int32) (μ : Mem) (Q : Int32 → Mem → Prop) : Prop :=
  (vp_in s2 27 ∧ ∀ μ4 : Mem, μ4 = sI μ 14 (s2).toNatClampNeg s3 → Q v2 μ4)
def w_X7_lamp (a1 : Int32) (μ : Mem) (Q : Int32 → Mem → Prop) : Prop :=
  ((¬ (μ.1 0 17) = 0 → w_X7_remember  μ (fun μ2 => (vp_in (nI 2) 27 ∧ ∀ x3 : Int32, x3 = (μ2.1 14 ((nI 2)).toNatClampNeg) → ((a1 = 0 → (w_X7_lamp_35 a1 x3 (nI 0) (nI 2) μ2 Q)) ∧ (¬ a1 = 0 → (w_X7_lamp_35 a1 x3 (nI 1) (nI 2) μ2 Q)))))) ∧ ((μ.1 0 17) = 0 → Q ((-1000000003) : Int32) μ))
abbrev rm_X7_lamp : Room := { frames := 1, cells := 0, slots := 0, locals := 21 }
/-- X7_draw -/
def w_X7_draw (a1 : Int32) (μ : Mem) (Q : Int32 → Mem → Prop) : Prop :=
  (¬ (lN 2147483648) = 0 ∧ ∀ x1 : Int64, x1 = ((((μ.2.1 0) * (lN 1103515245)) + (lN 12345)) - (((μ.2.1 0) * (lN 1103515245)) + (lN 12345)) / (lN 2147483648) * (lN 2147483648)) → ∀ μ2 : Mem, μ2 = sL μ 0 x1 → (¬ (lN 65536) = 0 ∧ (¬ (a1).toInt64 = 0 ∧ ∀ x3 : Int64, x3 = (((μ2.2.1 0) / (lN 65536)) - ((μ2.2.1 0) / (lN 65536)) / (a1).toInt64 * (a1).toInt64) → Q (x3).toInt32 μ2)))
abbrev rm_X7_draw : Room := { frames := 0, cells := 0, slots := 0, locals := 0 }
/-- X7_drift -/
def w_X7_drift_121 (a1 : Int32) (X38 : Int32 → Int32 → Mem → Prop) (v3 : Int32) (v4 : Int32) (μ : Mem) (Q : Int32 → Mem → Prop) : Prop :=
  ∀ x22 : Int32, x22 = v4 + (nI 1) → (X38 v3 x22 μ)
def w_X7_drift_77 (a1 : Int32) (X38 : Int32 → Int32 → Mem → Prop) (v4 : Int32) (s5 : Int32) (s4 : Int32) (s1 : Int32) (μ : Mem) (Q : Int32 → Mem → Prop) : Prop :=
  w_X7_passes 14 s4 s5 (nI 0) μ (fun r11 μ12 => ∀ x13 : Int32, x13 = (s1 + r11) → (((μ12.1 0 20) ≤ 0 → (w_X7_drift_121 a1 X38 x13 v4 μ12 Q)) ∧ (¬ (μ12.1 0 20) ≤ 0 → w_X7_draw (nI 8) μ12 (fun r14 μ15 => ((¬ r14 = 0 → (w_X7_drift_121 a1 X38 x13 v4 μ15 Q)) ∧ (r14 = 0 → w_X7_draw (μ15.1 0 20) μ15 (fun r16 μ17 => w_X7_draw (nI 10) μ17 (fun r18 μ19 => w_X7_licks r16 r18 μ19 (fun μ21 => (w_X7_drift_121 a1 X38 x13 v4 μ21 Q))))))))))
def s_X7_drift_38 (a1 : Int32) (X38 : Int32 → Int32 → Mem → Prop) (v3 : Int32) (v4 : Int32) (μ : Mem) (Q : Int32 → Mem → Prop) : Prop :=
  ((a1 ≤ v4 → Q v3 μ) ∧ (¬ a1 ≤ v4 → w_X7_remember  μ (fun μ6 => w_X7_draw (nI 41) μ6 (fun r7 μ8 => w_X7_draw (nI 2) μ8 (fun r9 μ10 => ((¬ r9 = 0 → (w_X7_drift_77 a1 X38 v4 (nI 1) r7 v3 μ10 Q)) ∧ (r9 = 0 → (w_X7_drift_77 a1 X38 v4 (nI 0) r7 v3 μ10 Q))))))))
def w_X7_drift_38 (a1 : Int32) (v3 : Int32) (v4 : Int32) (μ : Mem) (Q : Int32 → Mem → Prop) : Prop :=
  ∀ X38 : Int32 → Int32 → Mem → Prop, (∀ (v3 : Int32) (v4 : Int32) (μ : Mem), s_X7_drift_38 a1 X38 v3 v4 μ Q → X38 v3 v4 μ) → X38 v3 v4 μ
def w_X7_drift (a1 : Int32) (μ : Mem) (Q : Int32 → Mem → Prop) : Prop :=
  w_X7_in a1 (nI 1) (nI 60) μ (fun r1 => w_X7_need r1 μ (fun r3 => ((0 ≤ r3 → (vp_in (nI 0) 27 ∧ (((μ.1 14 ((nI 0)).toNatClampNeg) ≤ (nI 9000) → (w_X7_drift_38 a1 (nI 0) (nI 0) μ Q)) ∧ (¬ (μ.1 14 ((nI 0)).toNatClampNeg) ≤ (nI 9000) → Q ((-1000000004) : Int32) μ)))) ∧ (¬ 0 ≤ r3 → Q r3 μ))))
abbrev rm_X7_drift : Room := { frames := 4, cells := 0, slots := 0, locals := 93 }
/-- X7_undo -/
def s_X7_undo_52 (a1 : Int32) (X52 : Int32 → Mem → Prop) (v2 : Int32) (μ : Mem) (Q : Int32 → Mem → Prop) : Prop :=
  (((nI 27) ≤ v2 → (vp_in (nI 0) 27 ∧ Q (μ.1 14 ((nI 0)).toNatClampNeg) μ)) ∧ (¬ (nI 27) ≤ v2 → (vp_in (((nI 27) * (μ.1 0 33)) + v2) 810 ∧ (vp_in v2 27 ∧ ∀ μ6 : Mem, μ6 = sI μ 14 (v2).toNatClampNeg (μ.1 17 ((((nI 27) * (μ.1 0 33)) + v2)).toNatClampNeg) → ∀ x7 : Int32, x7 = v2 + (nI 1) → (X52 x7 μ6)))))
def w_X7_undo_52 (a1 : Int32) (v2 : Int32) (μ : Mem) (Q : Int32 → Mem → Prop) : Prop :=
  ∀ X52 : Int32 → Mem → Prop, (∀ (v2 : Int32) (μ : Mem), s_X7_undo_52 a1 X52 v2 μ Q → X52 v2 μ) → X52 v2 μ
def w_X7_undo (a1 : Int32) (μ : Mem) (Q : Int32 → Mem → Prop) : Prop :=
  w_X7_in a1 (nI 1) (nI 30) μ (fun r1 => ((¬ r1 = 0 → ((a1 ≤ (μ.1 0 32) → (¬ (nI 30) = 0 ∧ ∀ x3 : Int32, x3 = ((((μ.1 0 33) + (nI 30)) - a1) - (((μ.1 0 33) + (nI 30)) - a1) / (nI 30) * (nI 30)) → ∀ μ4 : Mem, μ4 = sI μ 0 33 x3 → ∀ μ5 : Mem, μ5 = sI μ4 0 32 ((μ4.1 0 32) - a1) → (w_X7_undo_52 a1 (nI 0) μ5 Q))) ∧ (¬ a1 ≤ (μ.1 0 32) → Q ((-1000000003) : Int32) μ))) ∧ (r1 = 0 → Q ((-1000000002) : Int32) μ)))
abbrev rm_X7_undo : Room := { frames := 1, cells := 0, slots := 0, locals := 22 }
/-- X7_copyNow -/
def s_X7_copyNow_2  (X2 : Int32 → Mem → Prop) (v1 : Int32) (μ : Mem) (Q : Mem → Prop) : Prop :=
  (((nI 27) ≤ v1 → Q μ) ∧ (¬ (nI 27) ≤ v1 → (vp_in v1 27 ∧ (vp_in v1 27 ∧ ∀ μ1 : Mem, μ1 = sI μ 15 (v1).toNatClampNeg (μ.1 14 (v1).toNatClampNeg) → ∀ x2 : Int32, x2 = v1 + (nI 1) → (X2 x2 μ1)))))
def w_X7_copyNow_2 (v1 : Int32) (μ : Mem) (Q : Mem → Prop) : Prop :=
  ∀ X2 : Int32 → Mem → Prop, (∀ (v1 : Int32) (μ : Mem), s_X7_copyNow_2  X2 v1 μ Q → X2 v1 μ) → X2 v1 μ
def w_X7_copyNow (μ : Mem) (Q : Mem → Prop) : Prop :=
  (w_X7_copyNow_2 (nI 0) μ Q)
abbrev rm_X7_copyNow : Room := { frames := 0, cells := 0, slots := 0, locals := 0 }
/-- X7_goesOn -/
def w_X7_goesOn_70 (a1 : Int32) (X25 : Int32 → Mem → Prop) (v2 : Int32) (μ : Mem) (Q : Mem → Prop) : Prop :=
  ∀ x7 : Int32, x7 = v2 + (nI 1) → (X25 x7 μ)
def s_X7_goesOn_41 (a1 : Int32) (X25 : Int32 → Mem → Prop) (v2 : Int32) (X41 : Int32 → Mem → Prop) (v3 : Int32) (μ : Mem) (Q : Mem → Prop) : Prop :=
  (((μ.1 0 20) ≤ v3 → (w_X7_goesOn_70 a1 X25 v2 μ Q)) ∧ (¬ (μ.1 0 20) ≤ v3 → (vp_in v3 6 ∧ (vp_in v3 6 ∧ (vp_in v3 6 ∧ ∀ μ5 : Mem, μ5 = sI μ 18 (v3).toNatClampNeg ((μ.1 18 (v3).toNatClampNeg) + (μ.1 16 (v3).toNatClampNeg)) → ∀ x6 : Int32, x6 = v3 + (nI 1) → (X41 x6 μ5))))))
def w_X7_goesOn_41 (a1 : Int32) (X25 : Int32 → Mem → Prop) (v2 : Int32) (v3 : Int32) (μ : Mem) (Q : Mem → Prop) : Prop :=
  ∀ X41 : Int32 → Mem → Prop, (∀ (v3 : Int32) (μ : Mem), s_X7_goesOn_41 a1 X25 v2 X41 v3 μ Q → X41 v3 μ) → X41 v3 μ
def s_X7_goesOn_25 (a1 : Int32) (X25 : Int32 → Mem → Prop) (v2 : Int32) (μ : Mem) (Q : Mem → Prop) : Prop :=
  ((a1 ≤ v2 → Q μ) ∧ (¬ a1 ≤ v2 → w_X7_passesOn 15 μ (fun r3 μ4 => (w_X7_goesOn_41 a1 X25 v2 (nI 0) μ4 Q))))
def w_X7_goesOn_25 (a1 : Int32) (v2 : Int32) (μ : Mem) (Q : Mem → Prop) : Prop :=
  ∀ X25 : Int32 → Mem → Prop, (∀ (v2 : Int32) (μ : Mem), s_X7_goesOn_25 a1 X25 v2 μ Q → X25 v2 μ) → X25 v2 μ
def w_X7_goesOn_23 (a1 : Int32) (μ : Mem) (Q : Mem → Prop) : Prop :=
  (w_X7_goesOn_25 a1 (nI 0) μ Q)
def s_X7_goesOn_2 (a1 : Int32) (X2 : Int32 → Mem → Prop) (v2 : Int32) (μ : Mem) (Q : Mem → Prop) : Prop :=
  (((μ.1 0 20) ≤ v2 → (w_X7_goesOn_23 a1 μ Q)) ∧ (¬ (μ.1 0 20) ≤ v2 → (vp_in v2 6 ∧ ∀ μ1 : Mem, μ1 = sI μ 18 (v2).toNatClampNeg (nI 0) → ∀ x2 : Int32, x2 = v2 + (nI 1) → (X2 x2 μ1))))
def w_X7_goesOn_2 (a1 : Int32) (v2 : Int32) (μ : Mem) (Q : Mem → Prop) : Prop :=
  ∀ X2 : Int32 → Mem → Prop, (∀ (v2 : Int32) (μ : Mem), s_X7_goesOn_2 a1 X2 v2 μ Q → X2 v2 μ) → X2 v2 μ
def w_X7_goesOn (a1 : Int32) (μ : Mem) (Q : Mem → Prop) : Prop :=
  (w_X7_goesOn_2 a1 (nI 0) μ Q)
abbrev rm_X7_goesOn : Room := { frames := 5, cells := 0, slots := 0, locals := 114 }
/-- X7_gets -/
def w_X7_gets (a1 : Int32) (a2 : Int32) (μ : Mem) (Q : Int32 → Mem → Prop) : Prop :=
  w_X7_isPost a1 μ (fun r1 => ((¬ r1 = 0 → w_X7_in a2 (nI 0) (nI 99) μ (fun r3 => ((¬ r3 = 0 → w_X7_copyNow  μ (fun μ6 => w_X7_goesOn a2 μ6 (fun μ8 => (vp_in a1 6 ∧ Q (μ8.1 18 (a1).toNatClampNeg) μ8)))) ∧ (r3 = 0 → Q ((-1000000002) : Int32) μ)))) ∧ (r1 = 0 → Q ((-1000000001) : Int32) μ)))
abbrev rm_X7_gets : Room := { frames := 6, cells := 0, slots := 0, locals := 137 }
/-- X7_level -/
def w_X7_level (a1 : Int32) (a2 : Int32) (μ : Mem) (Q : Int32 → Mem → Prop) : Prop :=
  w_X7_isPost a1 μ (fun r1 => ((¬ r1 = 0 → w_X7_in a2 (nI 0) (nI 99) μ (fun r3 => ((¬ r3 = 0 → w_X7_copyNow  μ (fun μ6 => w_X7_goesOn a2 μ6 (fun μ8 => (vp_in ((nI 9) + a1) 27 ∧ Q (μ8.1 15 (((nI 9) + a1)).toNatClampNeg) μ8)))) ∧ (r3 = 0 → Q ((-1000000002) : Int32) μ)))) ∧ (r1 = 0 → Q ((-1000000001) : Int32) μ)))
abbrev rm_X7_level : Room := { frames := 6, cells := 0, slots := 0, locals := 137 }
/-- X7_shadow -/
def w_X7_shadow (a1 : Int32) (μ : Mem) (Q : Int32 → Mem → Prop) : Prop :=
  w_X7_isPost a1 μ (fun r1 => ((¬ r1 = 0 → w_X7_isHanging 14 a1 μ (fun r3 => ((¬ r3 = 0 → w_X7_fogOf 14 μ (fun r5 => (vp_in (nI 2) 27 ∧ w_X7_lit r5 (μ.1 14 ((nI 2)).toNatClampNeg) (μ.1 0 19) μ (fun r7 => w_X7_sideOf 14 μ (fun r9 => w_X7_leads 14 r7 r9 ((nI 1) <<< (a1 &&& 31)) μ (fun r11 μ12 => (vp_in a1 6 ∧ ∀ x13 : Int32, x13 = (μ12.1 16 (a1).toNatClampNeg) → w_X7_sideOf 14 μ12 (fun r14 => w_X7_hanging 14 μ12 (fun r16 => w_X7_leads 14 r7 r14 r16 μ12 (fun r18 μ19 => (vp_in a1 6 ∧ Q (x13 - (μ19.1 16 (a1).toNatClampNeg)) μ19))))))))))) ∧ (r3 = 0 → Q (nI 0) μ)))) ∧ (r1 = 0 → Q ((-1000000001) : Int32) μ)))
abbrev rm_X7_shadow : Room := { frames := 3, cells := 0, slots := 0, locals := 66 }
/-- X7_left -/
def w_X7_left (μ : Mem) (Q : Int32 → Mem → Prop) : Prop :=
  ((¬ (μ.1 0 17) = 0 → w_X7_fogOf 14 μ (fun r1 => (vp_in (nI 2) 27 ∧ w_X7_lit r1 (μ.1 14 ((nI 2)).toNatClampNeg) (μ.1 0 19) μ (fun r3 => w_X7_sideOf 14 μ (fun r5 => w_X7_hanging 14 μ (fun r7 => w_X7_leads 14 r3 r5 r7 μ (fun r9 μ10 => Q r9 μ10))))))) ∧ ((μ.1 0 17) = 0 → Q ((-1000000003) : Int32) μ))
abbrev rm_X7_left : Room := { frames := 3, cells := 0, slots := 0, locals := 66 }
/-- X7_bestMesh -/
def w_X7_bestMesh_109 (a1 : Int32) (a2 : Int32) (v3 : Int32) (v4 : Int32) (μ : Mem) (Q : Int32 → Mem → Prop) : Prop :=
  ((¬ a2 = 0 → Q v4 μ) ∧ (a2 = 0 → Q v3 μ))
def w_X7_bestMesh_101 (a1 : Int32) (a2 : Int32) (X31 : Int32 → Int32 → Int32 → Mem → Prop) (v3 : Int32) (v5 : Int32) (s1 : Int32) (μ : Mem) (Q : Int32 → Mem → Prop) : Prop :=
  ∀ x12 : Int32, x12 = v5 + (nI 1) → (X31 v3 s1 x12 μ)
def w_X7_bestMesh_78 (a1 : Int32) (a2 : Int32) (X31 : Int32 → Int32 → Int32 → Mem → Prop) (v4 : Int32) (v5 : Int32) (s1 : Int32) (μ : Mem) (Q : Int32 → Mem → Prop) : Prop :=
  (vp_in a1 6 ∧ (((μ.1 18 (a1).toNatClampNeg) ≤ v4 → (w_X7_bestMesh_101 a1 a2 X31 s1 v5 v4 μ Q)) ∧ (¬ (μ.1 18 (a1).toNatClampNeg) ≤ v4 → (vp_in a1 6 ∧ (w_X7_bestMesh_101 a1 a2 X31 s1 v5 (μ.1 18 (a1).toNatClampNeg) μ Q)))))
def s_X7_bestMesh_31 (a1 : Int32) (a2 : Int32) (X31 : Int32 → Int32 → Int32 → Mem → Prop) (v3 : Int32) (v4 : Int32) (v5 : Int32) (μ : Mem) (Q : Int32 → Mem → Prop) : Prop :=
  (((nI 10) ≤ v5 → (w_X7_bestMesh_109 a1 a2 v3 v4 μ Q)) ∧ (¬ (nI 10) ≤ v5 → w_X7_copyNow  μ (fun μ6 => (vp_in ((nI 21) + a1) 27 ∧ ∀ μ7 : Mem, μ7 = sI μ6 15 (((nI 21) + a1)).toNatClampNeg v5 → w_X7_dayLong  μ7 (fun r8 => w_X7_goesOn r8 μ7 (fun μ11 => (vp_in a1 6 ∧ (((μ11.1 18 (a1).toNatClampNeg) ≤ v4 → (w_X7_bestMesh_78 a1 a2 X31 v4 v5 v3 μ11 Q)) ∧ (¬ (μ11.1 18 (a1).toNatClampNeg) ≤ v4 → (w_X7_bestMesh_78 a1 a2 X31 v4 v5 v5 μ11 Q))))))))))
def w_X7_bestMesh_31 (a1 : Int32) (a2 : Int32) (v3 : Int32) (v4 : Int32) (v5 : Int32) (μ : Mem) (Q : Int32 → Mem → Prop) : Prop :=
  ∀ X31 : Int32 → Int32 → Int32 → Mem → Prop, (∀ (v3 : Int32) (v4 : Int32) (v5 : Int32) (μ : Mem), s_X7_bestMesh_31 a1 a2 X31 v3 v4 v5 μ Q → X31 v3 v4 v5 μ) → X31 v3 v4 v5 μ
def w_X7_bestMesh (a1 : Int32) (a2 : Int32) (μ : Mem) (Q : Int32 → Mem → Prop) : Prop :=
  w_X7_isPost a1 μ (fun r1 => ((¬ r1 = 0 → w_X7_in a2 (nI 0) (nI 1) μ (fun r3 => ((¬ r3 = 0 → (w_X7_bestMesh_31 a1 a2 (nI 0) ((-1) : Int32) (nI 0) μ Q)) ∧ (r3 = 0 → Q ((-1000000002) : Int32) μ)))) ∧ (r1 = 0 → Q ((-1000000001) : Int32) μ)))
abbrev rm_X7_bestMesh : Room := { frames := 6, cells := 0, slots := 0, locals := 137 }
/-- X7_bestCell -/
def w_X7_bestCell_135 (a1 : Int32) (a2 : Int32) (v3 : Int32) (v4 : Int32) (μ : Mem) (Q : Int32 → Mem → Prop) : Prop :=
  ((¬ a2 = 0 → Q v4 μ) ∧ (a2 = 0 → Q v3 μ))
def w_X7_bestCell_129 (a1 : Int32) (a2 : Int32) (X31 : Int32 → Int32 → Int32 → Mem → Prop) (v3 : Int32) (v4 : Int32) (v5 : Int32) (μ : Mem) (Q : Int32 → Mem → Prop) : Prop :=
  ∀ x14 : Int32, x14 = v5 + (nI 1) → (X31 v3 v4 x14 μ)
def w_X7_bestCell_127 (a1 : Int32) (a2 : Int32) (X31 : Int32 → Int32 → Int32 → Mem → Prop) (v3 : Int32) (v5 : Int32) (s1 : Int32) (μ : Mem) (Q : Int32 → Mem → Prop) : Prop :=
  (w_X7_bestCell_129 a1 a2 X31 v3 s1 v5 μ Q)
def w_X7_bestCell_104 (a1 : Int32) (a2 : Int32) (X31 : Int32 → Int32 → Int32 → Mem → Prop) (v4 : Int32) (v5 : Int32) (s1 : Int32) (μ : Mem) (Q : Int32 → Mem → Prop) : Prop :=
  (vp_in a1 6 ∧ (((μ.1 18 (a1).toNatClampNeg) ≤ v4 → (w_X7_bestCell_127 a1 a2 X31 s1 v5 v4 μ Q)) ∧ (¬ (μ.1 18 (a1).toNatClampNeg) ≤ v4 → (vp_in a1 6 ∧ (w_X7_bestCell_127 a1 a2 X31 s1 v5 (μ.1 18 (a1).toNatClampNeg) μ Q)))))
def w_X7_bestCell_64 (a1 : Int32) (a2 : Int32) (X31 : Int32 → Int32 → Int32 → Mem → Prop) (v3 : Int32) (v4 : Int32) (v5 : Int32) (μ : Mem) (Q : Int32 → Mem → Prop) : Prop :=
  w_X7_copyNow  μ (fun μ8 => (vp_in ((nI 15) + a1) 27 ∧ ∀ μ9 : Mem, μ9 = sI μ8 15 (((nI 15) + a1)).toNatClampNeg v5 → w_X7_dayLong  μ9 (fun r10 => w_X7_goesOn r10 μ9 (fun μ13 => (vp_in a1 6 ∧ (((μ13.1 18 (a1).toNatClampNeg) ≤ v4 → (w_X7_bestCell_104 a1 a2 X31 v4 v5 v3 μ13 Q)) ∧ (¬ (μ13.1 18 (a1).toNatClampNeg) ≤ v4 → (w_X7_bestCell_104 a1 a2 X31 v4 v5 v5 μ13 Q))))))))
def s_X7_bestCell_31 (a1 : Int32) (a2 : Int32) (X31 : Int32 → Int32 → Int32 → Mem → Prop) (v3 : Int32) (v4 : Int32) (v5 : Int32) (μ : Mem) (Q : Int32 → Mem → Prop) : Prop :=
  (((μ.1 0 18) ≤ v5 → (w_X7_bestCell_135 a1 a2 v3 v4 μ Q)) ∧ (¬ (μ.1 0 18) ≤ v5 → w_X7_postIn 14 v5 μ (fun r5 => ((r5 = ((-1) : Int32) → (w_X7_bestCell_64 a1 a2 X31 v3 v4 v5 μ Q)) ∧ (¬ r5 = ((-1) : Int32) → ((¬ r5 = a1 → (w_X7_bestCell_129 a1 a2 X31 v3 v4 v5 μ Q)) ∧ (r5 = a1 → (w_X7_bestCell_64 a1 a2 X31 v3 v4 v5 μ Q))))))))
def w_X7_bestCell_31 (a1 : Int32) (a2 : Int32) (v3 : Int32) (v4 : Int32) (v5 : Int32) (μ : Mem) (Q : Int32 → Mem → Prop) : Prop :=
  ∀ X31 : Int32 → Int32 → Int32 → Mem → Prop, (∀ (v3 : Int32) (v4 : Int32) (v5 : Int32) (μ : Mem), s_X7_bestCell_31 a1 a2 X31 v3 v4 v5 μ Q → X31 v3 v4 v5 μ) → X31 v3 v4 v5 μ
def w_X7_bestCell (a1 : Int32) (a2 : Int32) (μ : Mem) (Q : Int32 → Mem → Prop) : Prop :=
  w_X7_isPost a1 μ (fun r1 => ((¬ r1 = 0 → w_X7_in a2 (nI 0) (nI 1) μ (fun r3 => ((¬ r3 = 0 → (w_X7_bestCell_31 a1 a2 (nI 0) ((-1) : Int32) (nI 0) μ Q)) ∧ (r3 = 0 → Q ((-1000000002) : Int32) μ)))) ∧ (r1 = 0 → Q ((-1000000001) : Int32) μ)))
abbrev rm_X7_bestCell : Room := { frames := 6, cells := 0, slots := 0, locals := 137 }
/-- X7_sumOf -/
def w_X7_sumOf_33 (a1 : Int32) (X4 : Int32 → Int32 → Prop) (v3 : Int32) (s2 : Int32) (s1 : Int32) (μ : Mem) (Q : Int32 → Prop) : Prop :=
  ∀ x1 : Int32, x1 = (s1 + s2) → ∀ x2 : Int32, x2 = v3 + (nI 1) → (X4 x1 x2)
def s_X7_sumOf_4 (a1 : Int32) (μ : Mem) (X4 : Int32 → Int32 → Prop) (v2 : Int32) (v3 : Int32) (Q : Int32 → Prop) : Prop :=
  (((μ.1 0 20) ≤ v3 → Q v2) ∧ (¬ (μ.1 0 20) ≤ v3 → (vp_in v3 6 ∧ ((¬ (μ.1 10 (v3).toNatClampNeg) = a1 → (w_X7_sumOf_33 a1 X4 v3 (nI 0) v2 μ Q)) ∧ ((μ.1 10 (v3).toNatClampNeg) = a1 → (vp_in v3 6 ∧ (w_X7_sumOf_33 a1 X4 v3 (μ.1 18 (v3).toNatClampNeg) v2 μ Q)))))))
def w_X7_sumOf_4 (a1 : Int32) (v2 : Int32) (v3 : Int32) (μ : Mem) (Q : Int32 → Prop) : Prop :=
  ∀ X4 : Int32 → Int32 → Prop, (∀ (v2 : Int32) (v3 : Int32), s_X7_sumOf_4 a1 μ X4 v2 v3 Q → X4 v2 v3) → X4 v2 v3
def w_X7_sumOf (a1 : Int32) (μ : Mem) (Q : Int32 → Prop) : Prop :=
  (w_X7_sumOf_4 a1 (nI 0) (nI 0) μ Q)
abbrev rm_X7_sumOf : Room := { frames := 0, cells := 0, slots := 0, locals := 0 }
/-- X7_isFor -/
def w_X7_isFor (a1 : Int32) (a2 : Int32) (a3 : Int32) (μ : Mem) (Q : Int32 → Prop) : Prop :=
  w_X7_postIn 14 a1 μ (fun r1 => ((r1 = ((-1) : Int32) → Q (nI 1)) ∧ (¬ r1 = ((-1) : Int32) → ((r1 = a2 → Q (nI 1)) ∧ (¬ r1 = a2 → ((¬ r1 = a3 → Q (nI 0)) ∧ (r1 = a3 → Q (nI 1))))))))
abbrev rm_X7_isFor : Room := { frames := 1, cells := 0, slots := 0, locals := 24 }
/-- X7_bestTwo -/
def w_X7_bestTwo_210 (a1 : Int32) (a2 : Int32) (a3 : Int32) (v4 : Int32) (v5 : Int32) (μ : Mem) (Q : Int32 → Mem → Prop) : Prop :=
  ((¬ a3 = 0 → Q v5 μ) ∧ (a3 = 0 → Q v4 μ))
def w_X7_bestTwo_204 (a1 : Int32) (a2 : Int32) (a3 : Int32) (X45 : Int32 → Int32 → Int32 → Mem → Prop) (v4 : Int32) (v5 : Int32) (v6 : Int32) (μ : Mem) (Q : Int32 → Mem → Prop) : Prop :=
  ∀ x28 : Int32, x28 = v6 + (nI 1) → (X45 v4 v5 x28 μ)
def w_X7_bestTwo_198 (a1 : Int32) (a2 : Int32) (a3 : Int32) (X45 : Int32 → Int32 → Int32 → Mem → Prop) (X57 : Int32 → Int32 → Int32 → Mem → Prop) (v4 : Int32) (v5 : Int32) (v6 : Int32) (v7 : Int32) (μ : Mem) (Q : Int32 → Mem → Prop) : Prop :=
  ∀ x27 : Int32, x27 = v7 + (nI 1) → (X57 v4 v5 x27 μ)
def w_X7_bestTwo_196 (a1 : Int32) (a2 : Int32) (a3 : Int32) (X45 : Int32 → Int32 → Int32 → Mem → Prop) (X57 : Int32 → Int32 → Int32 → Mem → Prop) (v4 : Int32) (v6 : Int32) (v7 : Int32) (s1 : Int32) (μ : Mem) (Q : Int32 → Mem → Prop) : Prop :=
  (w_X7_bestTwo_198 a1 a2 a3 X45 X57 v4 s1 v6 v7 μ Q)
def w_X7_bestTwo_180 (a1 : Int32) (a2 : Int32) (a3 : Int32) (X45 : Int32 → Int32 → Int32 → Mem → Prop) (X57 : Int32 → Int32 → Int32 → Mem → Prop) (v5 : Int32) (v6 : Int32) (v7 : Int32) (v8 : Int32) (s1 : Int32) (μ : Mem) (Q : Int32 → Mem → Prop) : Prop :=
  ((v8 ≤ v5 → (w_X7_bestTwo_196 a1 a2 a3 X45 X57 s1 v6 v7 v5 μ Q)) ∧ (¬ v8 ≤ v5 → (w_X7_bestTwo_196 a1 a2 a3 X45 X57 s1 v6 v7 v8 μ Q)))
def w_X7_bestTwo_158 (a1 : Int32) (a2 : Int32) (a3 : Int32) (X45 : Int32 → Int32 → Int32 → Mem → Prop) (X57 : Int32 → Int32 → Int32 → Mem → Prop) (v4 : Int32) (v5 : Int32) (v6 : Int32) (v7 : Int32) (s1 : Int32) (μ : Mem) (Q : Int32 → Mem → Prop) : Prop :=
  ((s1 ≤ v5 → (w_X7_bestTwo_180 a1 a2 a3 X45 X57 v5 v6 v7 s1 v4 μ Q)) ∧ (¬ s1 ≤ v5 → (w_X7_bestTwo_180 a1 a2 a3 X45 X57 v5 v6 v7 s1 (((nI 100) * v6) + v7) μ Q)))
def s_X7_bestTwo_57 (a1 : Int32) (a2 : Int32) (a3 : Int32) (X45 : Int32 → Int32 → Int32 → Mem → Prop) (v6 : Int32) (X57 : Int32 → Int32 → Int32 → Mem → Prop) (v4 : Int32) (v5 : Int32) (v7 : Int32) (μ : Mem) (Q : Int32 → Mem → Prop) : Prop :=
  (((μ.1 0 18) ≤ v7 → (w_X7_bestTwo_204 a1 a2 a3 X45 v4 v5 v6 μ Q)) ∧ (¬ (μ.1 0 18) ≤ v7 → ((v6 = v7 → (w_X7_bestTwo_198 a1 a2 a3 X45 X57 v4 v5 v6 v7 μ Q)) ∧ (¬ v6 = v7 → w_X7_isFor v6 a1 a2 μ (fun r7 => ((r7 = 0 → (w_X7_bestTwo_198 a1 a2 a3 X45 X57 v4 v5 v6 v7 μ Q)) ∧ (¬ r7 = 0 → w_X7_isFor v7 a1 a2 μ (fun r9 => ((r9 = 0 → (w_X7_bestTwo_198 a1 a2 a3 X45 X57 v4 v5 v6 v7 μ Q)) ∧ (¬ r9 = 0 → w_X7_copyNow  μ (fun μ12 => (vp_in ((nI 15) + a1) 27 ∧ ∀ μ13 : Mem, μ13 = sI μ12 15 (((nI 15) + a1)).toNatClampNeg v6 → (vp_in ((nI 15) + a2) 27 ∧ ∀ μ14 : Mem, μ14 = sI μ13 15 (((nI 15) + a2)).toNatClampNeg v7 → w_X7_dayLong  μ14 (fun r15 => w_X7_goesOn ((nI 7) * r15) μ14 (fun μ18 => w_X7_sumOf (nI 0) μ18 (fun r19 => w_X7_sumOf (nI 1) μ18 (fun r21 => ((r21 ≤ r19 → w_X7_sumOf (nI 1) μ18 (fun r23 => (w_X7_bestTwo_158 a1 a2 a3 X45 X57 v4 v5 v6 v7 r23 μ18 Q))) ∧ (¬ r21 ≤ r19 → w_X7_sumOf (nI 0) μ18 (fun r25 => (w_X7_bestTwo_158 a1 a2 a3 X45 X57 v4 v5 v6 v7 r25 μ18 Q)))))))))))))))))))))
def w_X7_bestTwo_57 (a1 : Int32) (a2 : Int32) (a3 : Int32) (X45 : Int32 → Int32 → Int32 → Mem → Prop) (v4 : Int32) (v5 : Int32) (v6 : Int32) (v7 : Int32) (μ : Mem) (Q : Int32 → Mem → Prop) : Prop :=
  ∀ X57 : Int32 → Int32 → Int32 → Mem → Prop, (∀ (v4 : Int32) (v5 : Int32) (v7 : Int32) (μ : Mem), s_X7_bestTwo_57 a1 a2 a3 X45 v6 X57 v4 v5 v7 μ Q → X57 v4 v5 v7 μ) → X57 v4 v5 v7 μ
def s_X7_bestTwo_45 (a1 : Int32) (a2 : Int32) (a3 : Int32) (X45 : Int32 → Int32 → Int32 → Mem → Prop) (v4 : Int32) (v5 : Int32) (v6 : Int32) (μ : Mem) (Q : Int32 → Mem → Prop) : Prop :=
  (((μ.1 0 18) ≤ v6 → (w_X7_bestTwo_210 a1 a2 a3 v4 v5 μ Q)) ∧ (¬ (μ.1 0 18) ≤ v6 → (w_X7_bestTwo_57 a1 a2 a3 X45 v4 v5 v6 (nI 0) μ Q)))
def w_X7_bestTwo_45 (a1 : Int32) (a2 : Int32) (a3 : Int32) (v4 : Int32) (v5 : Int32) (v6 : Int32) (μ : Mem) (Q : Int32 → Mem → Prop) : Prop :=
  ∀ X45 : Int32 → Int32 → Int32 → Mem → Prop, (∀ (v4 : Int32) (v5 : Int32) (v6 : Int32) (μ : Mem), s_X7_bestTwo_45 a1 a2 a3 X45 v4 v5 v6 μ Q → X45 v4 v5 v6 μ) → X45 v4 v5 v6 μ
def w_X7_bestTwo (a1 : Int32) (a2 : Int32) (a3 : Int32) (μ : Mem) (Q : Int32 → Mem → Prop) : Prop :=
  w_X7_isPost a1 μ (fun r1 => ((r1 = 0 → Q ((-1000000001) : Int32) μ) ∧ (¬ r1 = 0 → w_X7_isPost a2 μ (fun r3 => ((r3 = 0 → Q ((-1000000001) : Int32) μ) ∧ (¬ r3 = 0 → ((¬ a1 = a2 → w_X7_in a3 (nI 0) (nI 1) μ (fun r5 => ((¬ r5 = 0 → (w_X7_bestTwo_45 a1 a2 a3 (nI 0) ((-1) : Int32) (nI 0) μ Q)) ∧ (r5 = 0 → Q ((-1000000002) : Int32) μ)))) ∧ (a1 = a2 → Q ((-1000000001) : Int32) μ))))))))
abbrev rm_X7_bestTwo : Room := { frames := 6, cells := 0, slots := 0, locals := 137 }
/-- X7_tookWith -/
def w_X7_tookWith (a1 : Int32) (a2 : Int32) (μ : Mem) (Q : Int32 → Mem → Prop) : Prop :=
  w_X7_copyNow  μ (fun μ2 => (vp_in (nI 2) 27 ∧ ∀ μ3 : Mem, μ3 = sI μ2 15 ((nI 2)).toNatClampNeg a1 → w_X7_goesOn a2 μ3 (fun μ5 => w_X7_sumOf (nI 0) μ5 (fun r6 => w_X7_sumOf (nI 1) μ5 (fun r8 => Q (r6 + r8) μ5)))))
abbrev rm_X7_tookWith : Room := { frames := 6, cells := 0, slots := 0, locals := 137 }
/-- X7_lampCosts -/
def w_X7_lampCosts (a1 : Int32) (μ : Mem) (Q : Int32 → Mem → Prop) : Prop :=
  w_X7_in a1 (nI 0) (nI 99) μ (fun r1 => w_X7_need r1 μ (fun r3 => ((0 ≤ r3 → w_X7_tookWith (nI 0) a1 μ (fun r5 μ6 => w_X7_tookWith (nI 1) a1 μ6 (fun r7 μ8 => Q (r5 - r7) μ8))) ∧ (¬ 0 ≤ r3 → Q r3 μ))))
abbrev rm_X7_lampCosts : Room := { frames := 7, cells := 0, slots := 0, locals := 159 }
/-- X7_thirsty -/
def w_X7_thirsty_78 (a1 : Int32) (X26 : Int32 → Mem → Prop) (v2 : Int32) (μ : Mem) (Q : Int32 → Mem → Prop) : Prop :=
  (vp_in ((nI 7) + a1) 27 ∧ (vp_in ((nI 7) + a1) 27 ∧ (((μ.1 15 (((nI 7) + a1)).toNatClampNeg) ≤ (μ.1 14 (((nI 7) + a1)).toNatClampNeg) → ∀ x12 : Int32, x12 = v2 + (nI 1) → (X26 x12 μ)) ∧ (¬ (μ.1 15 (((nI 7) + a1)).toNatClampNeg) ≤ (μ.1 14 (((nI 7) + a1)).toNatClampNeg) → Q v2 μ))))
def s_X7_thirsty_39 (a1 : Int32) (X26 : Int32 → Mem → Prop) (v2 : Int32) (v3 : Int32) (X39 : Mem → Prop)  (μ : Mem) (Q : Int32 → Mem → Prop) : Prop :=
  (vp_in (nI 0) 27 ∧ ((¬ (μ.1 15 ((nI 0)).toNatClampNeg) = v3 → (w_X7_thirsty_78 a1 X26 v2 μ Q)) ∧ ((μ.1 15 ((nI 0)).toNatClampNeg) = v3 → w_X7_fogOf 15 μ (fun r6 => w_X7_sideOf 15 μ (fun r8 => w_X7_passes 15 r6 r8 (nI 1) μ (fun r10 μ11 => (X39 μ11)))))))
def w_X7_thirsty_39 (a1 : Int32) (X26 : Int32 → Mem → Prop) (v2 : Int32) (v3 : Int32) (μ : Mem) (Q : Int32 → Mem → Prop) : Prop :=
  ∀ X39 : Mem → Prop, (∀  (μ : Mem), s_X7_thirsty_39 a1 X26 v2 v3 X39 μ Q → X39 μ) → X39 μ
def s_X7_thirsty_26 (a1 : Int32) (X26 : Int32 → Mem → Prop) (v2 : Int32) (μ : Mem) (Q : Int32 → Mem → Prop) : Prop :=
  (((nI 60) < v2 → Q ((-1) : Int32) μ) ∧ (¬ (nI 60) < v2 → (vp_in (nI 0) 27 ∧ ∀ x5 : Int32, x5 = (μ.1 15 ((nI 0)).toNatClampNeg) → (w_X7_thirsty_39 a1 X26 v2 x5 μ Q))))
def w_X7_thirsty_26 (a1 : Int32) (v2 : Int32) (μ : Mem) (Q : Int32 → Mem → Prop) : Prop :=
  ∀ X26 : Int32 → Mem → Prop, (∀ (v2 : Int32) (μ : Mem), s_X7_thirsty_26 a1 X26 v2 μ Q → X26 v2 μ) → X26 v2 μ
def w_X7_thirsty (a1 : Int32) (μ : Mem) (Q : Int32 → Mem → Prop) : Prop :=
  w_X7_isVillage a1 μ (fun r1 => ((¬ r1 = 0 → ((¬ (μ.1 0 17) = 0 → w_X7_copyNow  μ (fun μ4 => (w_X7_thirsty_26 a1 (nI 1) μ4 Q))) ∧ ((μ.1 0 17) = 0 → Q ((-1000000003) : Int32) μ))) ∧ (r1 = 0 → Q ((-1000000001) : Int32) μ)))
abbrev rm_X7_thirsty : Room := { frames := 4, cells := 0, slots := 0, locals := 93 }
/-- X7_lasts -/
def w_X7_lasts_40 (a1 : Int32) (s1 : Int32) (μ : Mem) (Q : Int32 → Prop) : Prop :=
  ((s1 ≤ (nI 999) → Q s1) ∧ (¬ s1 ≤ (nI 999) → Q (nI 999)))
def w_X7_lasts (a1 : Int32) (μ : Mem) (Q : Int32 → Prop) : Prop :=
  w_X7_isVillage a1 μ (fun r1 => ((¬ r1 = 0 → (vp_in a1 2 ∧ ((¬ (μ.1 13 (a1).toNatClampNeg) = 0 → (vp_in ((nI 5) + a1) 27 ∧ (vp_in a1 2 ∧ (¬ (μ.1 13 (a1).toNatClampNeg) = 0 ∧ (w_X7_lasts_40 a1 ((μ.1 14 (((nI 5) + a1)).toNatClampNeg) / (μ.1 13 (a1).toNatClampNeg)) μ Q))))) ∧ ((μ.1 13 (a1).toNatClampNeg) = 0 → (w_X7_lasts_40 a1 (nI 999) μ Q))))) ∧ (r1 = 0 → Q ((-1000000001) : Int32))))
abbrev rm_X7_lasts : Room := { frames := 2, cells := 0, slots := 0, locals := 42 }
/-- X7_both -/
def s_X7_both_12 (μ : Mem) (X12 : Int32 → Prop) (v1 : Int32) (Q : Int32 → Prop) : Prop :=
  (((nI 7) ≤ v1 → Q ((-1) : Int32)) ∧ (¬ (nI 7) ≤ v1 → (vp_in (nI 0) 2 ∧ (vp_in (nI 1) 2 ∧ (vp_in (nI 0) 27 ∧ (¬ (nI 7) = 0 ∧ ∀ x1 : Int32, x1 = (((μ.1 14 ((nI 0)).toNatClampNeg) + v1) - ((μ.1 14 ((nI 0)).toNatClampNeg) + v1) / (nI 7) * (nI 7)) → w_X7_has ((μ.1 12 ((nI 0)).toNatClampNeg) &&& (μ.1 12 ((nI 1)).toNatClampNeg)) x1 μ (fun r2 => ((r2 = 0 → ∀ x4 : Int32, x4 = v1 + (nI 1) → (X12 x4)) ∧ (¬ r2 = 0 → Q v1)))))))))
def w_X7_both_12 (v1 : Int32) (μ : Mem) (Q : Int32 → Prop) : Prop :=
  ∀ X12 : Int32 → Prop, (∀ (v1 : Int32), s_X7_both_12 μ X12 v1 Q → X12 v1) → X12 v1
def w_X7_both (μ : Mem) (Q : Int32 → Prop) : Prop :=
  ((¬ (μ.1 0 17) = 0 → (w_X7_both_12 (nI 0) μ Q)) ∧ ((μ.1 0 17) = 0 → Q ((-1000000003) : Int32)))
abbrev rm_X7_both : Room := { frames := 1, cells := 0, slots := 0, locals := 21 }
/-- X7_apart -/
def w_X7_apart_66 (a1 : Int32) (X23 : Int32 → Int32 → Prop) (v4 : Int32) (s2 : Int32) (s1 : Int32) (μ : Mem) (Q : Int32 → Prop) : Prop :=
  ∀ x8 : Int32, x8 = (s1 + s2) → ∀ x9 : Int32, x9 = v4 + (nI 1) → (X23 x8 x9)
def s_X7_apart_23 (a1 : Int32) (μ : Mem) (X23 : Int32 → Int32 → Prop) (v3 : Int32) (v4 : Int32) (Q : Int32 → Prop) : Prop :=
  ((a1 ≤ v4 → Q v3) ∧ (¬ a1 ≤ v4 → (vp_in (nI 0) 2 ∧ (vp_in (nI 1) 2 ∧ (vp_in (nI 0) 27 ∧ (¬ (nI 7) = 0 ∧ ∀ x5 : Int32, x5 = (((μ.1 14 ((nI 0)).toNatClampNeg) + v4) - ((μ.1 14 ((nI 0)).toNatClampNeg) + v4) / (nI 7) * (nI 7)) → w_X7_has ((μ.1 12 ((nI 0)).toNatClampNeg) ^^^ (μ.1 12 ((nI 1)).toNatClampNeg)) x5 μ (fun r6 => ((r6 = 0 → (w_X7_apart_66 a1 X23 v4 (nI 0) v3 μ Q)) ∧ (¬ r6 = 0 → (w_X7_apart_66 a1 X23 v4 (nI 1) v3 μ Q))))))))))
def w_X7_apart_23 (a1 : Int32) (v3 : Int32) (v4 : Int32) (μ : Mem) (Q : Int32 → Prop) : Prop :=
  ∀ X23 : Int32 → Int32 → Prop, (∀ (v3 : Int32) (v4 : Int32), s_X7_apart_23 a1 μ X23 v3 v4 Q → X23 v3 v4) → X23 v3 v4
def w_X7_apart (a1 : Int32) (μ : Mem) (Q : Int32 → Prop) : Prop :=
  w_X7_in a1 (nI 0) (nI 99) μ (fun r1 => w_X7_need r1 μ (fun r3 => ((0 ≤ r3 → (w_X7_apart_23 a1 (nI 0) (nI 0) μ Q)) ∧ (¬ 0 ≤ r3 → Q r3))))
abbrev rm_X7_apart : Room := { frames := 1, cells := 0, slots := 0, locals := 22 }
/-- X7_ownedBy -/
def w_X7_ownedBy_28 (a1 : Int32) (X4 : Int32 → Int32 → Prop) (v3 : Int32) (s2 : Int32) (s1 : Int32) (μ : Mem) (Q : Int32 → Prop) : Prop :=
  ∀ x1 : Int32, x1 = (s1 + s2) → ∀ x2 : Int32, x2 = v3 + (nI 1) → (X4 x1 x2)
def s_X7_ownedBy_4 (a1 : Int32) (μ : Mem) (X4 : Int32 → Int32 → Prop) (v2 : Int32) (v3 : Int32) (Q : Int32 → Prop) : Prop :=
  (((μ.1 0 20) ≤ v3 → Q v2) ∧ (¬ (μ.1 0 20) ≤ v3 → (vp_in v3 6 ∧ ((¬ (μ.1 10 (v3).toNatClampNeg) = a1 → (w_X7_ownedBy_28 a1 X4 v3 (nI 0) v2 μ Q)) ∧ ((μ.1 10 (v3).toNatClampNeg) = a1 → (w_X7_ownedBy_28 a1 X4 v3 (nI 1) v2 μ Q))))))
def w_X7_ownedBy_4 (a1 : Int32) (v2 : Int32) (v3 : Int32) (μ : Mem) (Q : Int32 → Prop) : Prop :=
  ∀ X4 : Int32 → Int32 → Prop, (∀ (v2 : Int32) (v3 : Int32), s_X7_ownedBy_4 a1 μ X4 v2 v3 Q → X4 v2 v3) → X4 v2 v3
def w_X7_ownedBy (a1 : Int32) (μ : Mem) (Q : Int32 → Prop) : Prop :=
  (w_X7_ownedBy_4 a1 (nI 0) (nI 0) μ Q)
abbrev rm_X7_ownedBy : Room := { frames := 0, cells := 0, slots := 0, locals := 0 }
/-- X7_share -/
def w_X7_share_93 (a1 : Int32) (a2 : Int32) (v3 : Int32) (s1 : Int32) (μ : Mem) (Q : Int32 → Prop) : Prop :=
  w_X7_ownedBy a2 μ (fun r16 => (¬ (μ.1 0 20) = 0 ∧ ((¬ a2 = s1 → Q (((a1 * r16) / (μ.1 0 20)) + (nI 0))) ∧ (a2 = s1 → Q (((a1 * r16) / (μ.1 0 20)) + v3)))))
def w_X7_share (a1 : Int32) (a2 : Int32) (μ : Mem) (Q : Int32 → Prop) : Prop :=
  w_X7_isVillage a2 μ (fun r1 => ((¬ r1 = 0 → w_X7_in a1 (nI 0) (nI 999) μ (fun r3 => ((¬ r3 = 0 → ((¬ (μ.1 0 20) = 0 → w_X7_ownedBy (nI 0) μ (fun r5 => (¬ (μ.1 0 20) = 0 ∧ w_X7_ownedBy (nI 1) μ (fun r7 => (¬ (μ.1 0 20) = 0 ∧ ∀ x9 : Int32, x9 = ((a1 - ((a1 * r5) / (μ.1 0 20))) - ((a1 * r7) / (μ.1 0 20))) → w_X7_ownedBy (nI 1) μ (fun r10 => (¬ (μ.1 0 20) = 0 ∧ ∀ x12 : Int32, x12 = ((a1 * r10) - (a1 * r10) / (μ.1 0 20) * (μ.1 0 20)) → w_X7_ownedBy (nI 0) μ (fun r13 => (¬ (μ.1 0 20) = 0 ∧ ∀ x15 : Int32, x15 = ((a1 * r13) - (a1 * r13) / (μ.1 0 20) * (μ.1 0 20)) → ((x12 ≤ x15 → (w_X7_share_93 a1 a2 x9 (nI 0) μ Q)) ∧ (¬ x12 ≤ x15 → (w_X7_share_93 a1 a2 x9 (nI 1) μ Q)))))))))))) ∧ ((μ.1 0 20) = 0 → Q (nI 0)))) ∧ (r3 = 0 → Q ((-1000000002) : Int32))))) ∧ (r1 = 0 → Q ((-1000000001) : Int32))))
abbrev rm_X7_share : Room := { frames := 2, cells := 0, slots := 0, locals := 42 }
/-- X7_led -/
def w_X7_led_153 (a1 : Int32) (a2 : Int32) (a3 : Int32) (X74 : Int32 → Int32 → Prop) (v6 : Int32) (s2 : Int32) (s1 : Int32) (μ : Mem) (Q : Int32 → Mem → Prop) : Prop :=
  ∀ x15 : Int32, x15 = (s1 + s2) → ∀ x16 : Int32, x16 = v6 + (nI 1) → (X74 x15 x16)
def w_X7_led_134 (a1 : Int32) (a2 : Int32) (a3 : Int32) (X74 : Int32 → Int32 → Prop) (v5 : Int32) (v6 : Int32) (v7 : Int32) (μ : Mem) (Q : Int32 → Mem → Prop) : Prop :=
  ((¬ v7 = ((-1) : Int32) → (vp_in v7 6 ∧ (w_X7_led_153 a1 a2 a3 X74 v6 (μ.1 16 (v7).toNatClampNeg) v5 μ Q))) ∧ (v7 = ((-1) : Int32) → (w_X7_led_153 a1 a2 a3 X74 v6 (nI 0) v5 μ Q)))
def w_X7_led_106 (a1 : Int32) (a2 : Int32) (a3 : Int32) (X74 : Int32 → Int32 → Prop) (v5 : Int32) (v6 : Int32) (s3 : Int32) (μ : Mem) (Q : Int32 → Mem → Prop) : Prop :=
  w_X7_postIn 14 s3 μ (fun r13 => ((r13 = ((-1) : Int32) → (w_X7_led_134 a1 a2 a3 X74 v5 v6 r13 μ Q)) ∧ (¬ r13 = ((-1) : Int32) → (vp_in r13 6 ∧ (((v5 + (μ.1 16 (r13).toNatClampNeg)) ≤ a3 → (w_X7_led_134 a1 a2 a3 X74 v5 v6 r13 μ Q)) ∧ (¬ (v5 + (μ.1 16 (r13).toNatClampNeg)) ≤ a3 → Q r13 μ))))))
def s_X7_led_74 (a1 : Int32) (a2 : Int32) (a3 : Int32) (μ : Mem) (X74 : Int32 → Int32 → Prop) (v5 : Int32) (v6 : Int32) (Q : Int32 → Mem → Prop) : Prop :=
  (((μ.1 0 18) ≤ v6 → Q ((-1) : Int32) μ) ∧ (¬ (μ.1 0 18) ≤ v6 → ((¬ a2 = 0 → (w_X7_led_106 a1 a2 a3 X74 v5 v6 (((μ.1 0 18) - (nI 1)) - v6) μ Q)) ∧ (a2 = 0 → (w_X7_led_106 a1 a2 a3 X74 v5 v6 v6 μ Q)))))
def w_X7_led_74 (a1 : Int32) (a2 : Int32) (a3 : Int32) (v5 : Int32) (v6 : Int32) (μ : Mem) (Q : Int32 → Mem → Prop) : Prop :=
  ∀ X74 : Int32 → Int32 → Prop, (∀ (v5 : Int32) (v6 : Int32), s_X7_led_74 a1 a2 a3 μ X74 v5 v6 Q → X74 v5 v6) → X74 v5 v6
def w_X7_led_36 (a1 : Int32) (a2 : Int32) (a3 : Int32) (s2 : Int32) (μ : Mem) (Q : Int32 → Mem → Prop) : Prop :=
  w_X7_need s2 μ (fun r7 => ((0 ≤ r7 → w_X7_hanging 14 μ (fun r9 => w_X7_leads 14 a1 a2 r9 μ (fun r11 μ12 => (w_X7_led_74 a1 a2 a3 (nI 0) (nI 0) μ12 Q)))) ∧ (¬ 0 ≤ r7 → Q r7 μ)))
def w_X7_led_35 (a1 : Int32) (a2 : Int32) (a3 : Int32) (μ : Mem) (Q : Int32 → Mem → Prop) : Prop :=
  (w_X7_led_36 a1 a2 a3 (nI 0) μ Q)
def w_X7_led (a1 : Int32) (a2 : Int32) (a3 : Int32) (μ : Mem) (Q : Int32 → Mem → Prop) : Prop :=
  w_X7_in a1 (nI 0) (nI 99) μ (fun r1 => ((r1 = 0 → (w_X7_led_35 a1 a2 a3 μ Q)) ∧ (¬ r1 = 0 → w_X7_in a2 (nI 0) (nI 1) μ (fun r3 => ((r3 = 0 → (w_X7_led_35 a1 a2 a3 μ Q)) ∧ (¬ r3 = 0 → w_X7_in a3 (nI 0) (a1 - (nI 1)) μ (fun r5 => ((r5 = 0 → (w_X7_led_35 a1 a2 a3 μ Q)) ∧ (¬ r5 = 0 → (w_X7_led_36 a1 a2 a3 (nI 1) μ Q))))))))))
abbrev rm_X7_led : Room := { frames := 3, cells := 0, slots := 0, locals := 66 }
/-- X7_yards -/
def w_X7_yards_165 (a1 : Int32) (a2 : Int32) (v3 : Int32) (v4 : Int32) (μ : Mem) (Q : Int32 → Prop) : Prop :=
  ((¬ v3 = ((-1) : Int32) → ((¬ a2 = 0 → Q v3) ∧ (a2 = 0 → Q v4))) ∧ (v3 = ((-1) : Int32) → Q ((-1) : Int32)))
def w_X7_yards_157 (a1 : Int32) (a2 : Int32) (X39 : Int32 → Int32 → Int32 → Prop) (v3 : Int32) (v5 : Int32) (s1 : Int32) (μ : Mem) (Q : Int32 → Prop) : Prop :=
  ∀ x7 : Int32, x7 = v5 + (nI 1) → (X39 v3 s1 x7)
def w_X7_yards_144 (a1 : Int32) (a2 : Int32) (X39 : Int32 → Int32 → Int32 → Prop) (v4 : Int32) (v5 : Int32) (v7 : Int32) (v8 : Int32) (s1 : Int32) (μ : Mem) (Q : Int32 → Prop) : Prop :=
  ((v8 = 0 → (w_X7_yards_157 a1 a2 X39 s1 v5 v4 μ Q)) ∧ (¬ v8 = 0 → (w_X7_yards_157 a1 a2 X39 s1 v5 v7 μ Q)))
def w_X7_yards_131 (a1 : Int32) (a2 : Int32) (X39 : Int32 → Int32 → Int32 → Prop) (v3 : Int32) (v4 : Int32) (v5 : Int32) (v6 : Int32) (v7 : Int32) (s1 : Int32) (μ : Mem) (Q : Int32 → Prop) : Prop :=
  ((s1 = 0 → (w_X7_yards_144 a1 a2 X39 v4 v5 v7 s1 v3 μ Q)) ∧ (¬ s1 = 0 → (w_X7_yards_144 a1 a2 X39 v4 v5 v7 s1 v6 μ Q)))
def w_X7_yards_130 (a1 : Int32) (a2 : Int32) (X39 : Int32 → Int32 → Int32 → Prop) (v3 : Int32) (v4 : Int32) (v5 : Int32) (v6 : Int32) (v7 : Int32) (μ : Mem) (Q : Int32 → Prop) : Prop :=
  (w_X7_yards_131 a1 a2 X39 v3 v4 v5 v6 v7 (nI 0) μ Q)
def w_X7_yards_98 (a1 : Int32) (a2 : Int32) (X39 : Int32 → Int32 → Int32 → Prop) (v3 : Int32) (v4 : Int32) (v5 : Int32) (v6 : Int32) (s1 : Int32) (μ : Mem) (Q : Int32 → Prop) : Prop :=
  ((v6 = ((-1) : Int32) → (w_X7_yards_130 a1 a2 X39 v3 v4 v5 v6 s1 μ Q)) ∧ (¬ v6 = ((-1) : Int32) → (vp_in ((nI 9) + v6) 27 ∧ (((μ.1 14 (((nI 9) + v6)).toNatClampNeg) ≤ 0 → (w_X7_yards_130 a1 a2 X39 v3 v4 v5 v6 s1 μ Q)) ∧ (¬ (μ.1 14 (((nI 9) + v6)).toNatClampNeg) ≤ 0 → ((v4 ≤ s1 → (w_X7_yards_130 a1 a2 X39 v3 v4 v5 v6 s1 μ Q)) ∧ (¬ v4 ≤ s1 → (w_X7_yards_131 a1 a2 X39 v3 v4 v5 v6 s1 (nI 1) μ Q))))))))
def s_X7_yards_39 (a1 : Int32) (a2 : Int32) (μ : Mem) (X39 : Int32 → Int32 → Int32 → Prop) (v3 : Int32) (v4 : Int32) (v5 : Int32) (Q : Int32 → Prop) : Prop :=
  (((μ.1 0 18) ≤ v5 → (w_X7_yards_165 a1 a2 v3 v4 μ Q)) ∧ (¬ (μ.1 0 18) ≤ v5 → w_X7_postIn 14 v5 μ (fun r5 => (vp_in ((nI 2) * a1) 8 ∧ (((μ.1 11 (((nI 2) * a1)).toNatClampNeg) ≤ v5 → (vp_in ((nI 2) * a1) 8 ∧ (w_X7_yards_98 a1 a2 X39 v3 v4 v5 r5 (v5 - (μ.1 11 (((nI 2) * a1)).toNatClampNeg)) μ Q))) ∧ (¬ (μ.1 11 (((nI 2) * a1)).toNatClampNeg) ≤ v5 → (vp_in ((nI 2) * a1) 8 ∧ (w_X7_yards_98 a1 a2 X39 v3 v4 v5 r5 ((μ.1 11 (((nI 2) * a1)).toNatClampNeg) - v5) μ Q))))))))
def w_X7_yards_39 (a1 : Int32) (a2 : Int32) (v3 : Int32) (v4 : Int32) (v5 : Int32) (μ : Mem) (Q : Int32 → Prop) : Prop :=
  ∀ X39 : Int32 → Int32 → Int32 → Prop, (∀ (v3 : Int32) (v4 : Int32) (v5 : Int32), s_X7_yards_39 a1 a2 μ X39 v3 v4 v5 Q → X39 v3 v4 v5) → X39 v3 v4 v5
def w_X7_yards (a1 : Int32) (a2 : Int32) (μ : Mem) (Q : Int32 → Prop) : Prop :=
  w_X7_in a1 (nI 0) ((μ.1 0 22) - (nI 1)) μ (fun r1 => ((¬ r1 = 0 → w_X7_in a2 (nI 0) (nI 1) μ (fun r3 => ((¬ r3 = 0 → (w_X7_yards_39 a1 a2 ((-1) : Int32) (nI 100000000) (nI 0) μ Q)) ∧ (r3 = 0 → Q ((-1000000002) : Int32))))) ∧ (r1 = 0 → Q ((-1000000001) : Int32))))
abbrev rm_X7_yards : Room := { frames := 1, cells := 0, slots := 0, locals := 24 }
/-- X7_clear -/
def s_X7_clear_30 (a1 : Int32) (a2 : Int32) (μ : Mem) (X30 : Int64 → Int32 → Prop) (v3 : Int64) (v5 : Int32) (Q : Int32 → Prop) : Prop :=
  ((a1 ≤ v5 → Q (v3).toInt32) ∧ (¬ a1 ≤ v5 → (¬ (lN 100) = 0 ∧ ∀ x5 : Int64, x5 = ((v3 * (a2).toInt64) / (lN 100)) → ∀ x6 : Int32, x6 = v5 + (nI 1) → (X30 x5 x6))))
def w_X7_clear_30 (a1 : Int32) (a2 : Int32) (v3 : Int64) (v5 : Int32) (μ : Mem) (Q : Int32 → Prop) : Prop :=
  ∀ X30 : Int64 → Int32 → Prop, (∀ (v3 : Int64) (v5 : Int32), s_X7_clear_30 a1 a2 μ X30 v3 v5 Q → X30 v3 v5) → X30 v3 v5
def w_X7_clear (a1 : Int32) (a2 : Int32) (μ : Mem) (Q : Int32 → Prop) : Prop :=
  w_X7_in a1 (nI 0) (nI 60) μ (fun r1 => ((r1 = 0 → Q ((-1000000002) : Int32)) ∧ (¬ r1 = 0 → w_X7_in a2 (nI 0) (nI 100) μ (fun r3 => ((¬ r3 = 0 → (w_X7_clear_30 a1 a2 (lN 1000000000) (nI 0) μ Q)) ∧ (r3 = 0 → Q ((-1000000002) : Int32)))))))
abbrev rm_X7_clear : Room := { frames := 1, cells := 0, slots := 0, locals := 22 }
/-- X7_isSide -/
def w_X7_isSide (a0 : Int32) (μ : Mem) (Q : Int32 → Prop) : Prop :=
  w_X7_in a0 (nI 0) (nI 1) μ (fun r1 => ((r1 = 0 ∨ r1 = 1) ∧ Q r1))
abbrev rm_X7_isSide : Room := { frames := 1, cells := 0, slots := 0, locals := 22 }
/-- X7_got -/
def w_X7_got (a1 : Int32) (a2 : Int32) (a3 : Int32) (μ : Mem) (Q : Int32 → Mem → Prop) : Prop :=
  w_X7_isPost a1 μ (fun r1 => ((¬ r1 = 0 → w_X7_isSide a2 μ (fun r3 => ((r3 = 0 → Q ((-1000000002) : Int32) μ) ∧ (¬ r3 = 0 → w_X7_in a3 (nI 0) (nI 40) μ (fun r5 => ((¬ r5 = 0 → ((¬ (μ.1 0 37) = (nI 6) → (vp_in ((nI 3) * (μ.1 0 37)) 18 ∧ ∀ μ7 : Mem, μ7 = sI μ 19 (((nI 3) * (μ.1 0 37))).toNatClampNeg a1 → (vp_in (((nI 3) * (μ7.1 0 37)) + (nI 1)) 18 ∧ ∀ μ8 : Mem, μ8 = sI μ7 19 ((((nI 3) * (μ7.1 0 37)) + (nI 1))).toNatClampNeg a2 → (vp_in (((nI 3) * (μ8.1 0 37)) + (nI 2)) 18 ∧ ∀ μ9 : Mem, μ9 = sI μ8 19 ((((nI 3) * (μ8.1 0 37)) + (nI 2))).toNatClampNeg a3 → ∀ μ10 : Mem, μ10 = sI μ9 0 37 ((μ9.1 0 37) + (nI 1)) → Q (μ10.1 0 37) μ10)))) ∧ ((μ.1 0 37) = (nI 6) → Q ((-1000000004) : Int32) μ))) ∧ (r5 = 0 → Q ((-1000000002) : Int32) μ))))))) ∧ (r1 = 0 → Q ((-1000000001) : Int32) μ)))
abbrev rm_X7_got : Room := { frames := 2, cells := 0, slots := 0, locals := 43 }
/-- X7_tookOf -/
def w_X7_tookOf (a1 : Int32) (a2 : Int32) (a3 : Int32) (μ : Mem) (Q : Int32 → Mem → Prop) : Prop :=
  w_X7_hanging 14 μ (fun r1 => w_X7_leads 14 a2 a3 r1 μ (fun r3 μ4 => (vp_in a1 6 ∧ Q (μ4.1 16 (a1).toNatClampNeg) μ4)))
abbrev rm_X7_tookOf : Room := { frames := 3, cells := 0, slots := 0, locals := 66 }
/-- X7_isSo -/
def w_X7_isSo_57 (a1 : Int32) (X4 : Int32 → Int32 → Mem → Prop) (v3 : Int32) (s1 : Int32) (μ : Mem) (Q : Int32 → Mem → Prop) : Prop :=
  ∀ x3 : Int32, x3 = v3 + (nI 1) → (X4 s1 x3 μ)
def w_X7_isSo_56 (a1 : Int32) (X4 : Int32 → Int32 → Mem → Prop) (v3 : Int32) (μ : Mem) (Q : Int32 → Mem → Prop) : Prop :=
  (w_X7_isSo_57 a1 X4 v3 (nI 0) μ Q)
def s_X7_isSo_4 (a1 : Int32) (X4 : Int32 → Int32 → Mem → Prop) (v2 : Int32) (v3 : Int32) (μ : Mem) (Q : Int32 → Mem → Prop) : Prop :=
  (((μ.1 0 37) ≤ v3 → ((v2 = 0 ∨ v2 = 1) ∧ Q v2 μ)) ∧ (¬ (μ.1 0 37) ≤ v3 → ((v2 = 0 → (w_X7_isSo_56 a1 X4 v3 μ Q)) ∧ (¬ v2 = 0 → (vp_in ((nI 3) * v3) 18 ∧ (vp_in (((nI 3) * v3) + (nI 1)) 18 ∧ w_X7_tookOf (μ.1 19 (((nI 3) * v3)).toNatClampNeg) a1 (μ.1 19 ((((nI 3) * v3) + (nI 1))).toNatClampNeg) μ (fun r1 μ2 => (vp_in (((nI 3) * v3) + (nI 2)) 18 ∧ ((¬ r1 = (μ2.1 19 ((((nI 3) * v3) + (nI 2))).toNatClampNeg) → (w_X7_isSo_56 a1 X4 v3 μ2 Q)) ∧ (r1 = (μ2.1 19 ((((nI 3) * v3) + (nI 2))).toNatClampNeg) → (w_X7_isSo_57 a1 X4 v3 (nI 1) μ2 Q)))))))))))
def w_X7_isSo_4 (a1 : Int32) (v2 : Int32) (v3 : Int32) (μ : Mem) (Q : Int32 → Mem → Prop) : Prop :=
  ∀ X4 : Int32 → Int32 → Mem → Prop, (∀ (v2 : Int32) (v3 : Int32) (μ : Mem), s_X7_isSo_4 a1 X4 v2 v3 μ Q → X4 v2 v3 μ) → X4 v2 v3 μ
def w_X7_isSo (a1 : Int32) (μ : Mem) (Q : Int32 → Mem → Prop) : Prop :=
  (w_X7_isSo_4 a1 (nI 1) (nI 0) μ Q)
abbrev rm_X7_isSo : Room := { frames := 4, cells := 0, slots := 0, locals := 89 }
/-- X7_thick -/
def w_X7_thick_72 (a1 : Int32) (v3 : Int32) (v4 : Int32) (v5 : Int32) (μ : Mem) (Q : Int32 → Mem → Prop) : Prop :=
  ((¬ a1 = 0 → ((¬ a1 = (nI 1) → Q v5 μ) ∧ (a1 = (nI 1) → Q v4 μ))) ∧ (a1 = 0 → Q v3 μ))
def w_X7_thick_66 (a1 : Int32) (X28 : Int32 → Int32 → Int32 → Int32 → Mem → Prop) (v3 : Int32) (v4 : Int32) (v5 : Int32) (v6 : Int32) (μ : Mem) (Q : Int32 → Mem → Prop) : Prop :=
  ∀ x8 : Int32, x8 = v6 + (nI 1) → (X28 v3 v4 v5 x8 μ)
def w_X7_thick_60 (a1 : Int32) (X28 : Int32 → Int32 → Int32 → Int32 → Mem → Prop) (v3 : Int32) (v6 : Int32) (s1 : Int32) (μ : Mem) (Q : Int32 → Mem → Prop) : Prop :=
  (w_X7_thick_66 a1 X28 v3 s1 v6 v6 μ Q)
def s_X7_thick_28 (a1 : Int32) (X28 : Int32 → Int32 → Int32 → Int32 → Mem → Prop) (v3 : Int32) (v4 : Int32) (v5 : Int32) (v6 : Int32) (μ : Mem) (Q : Int32 → Mem → Prop) : Prop :=
  (((nI 40) < v6 → (w_X7_thick_72 a1 v3 v4 v5 μ Q)) ∧ (¬ (nI 40) < v6 → w_X7_isSo v6 μ (fun r5 μ6 => ((r5 = 0 → (w_X7_thick_66 a1 X28 v3 v4 v5 v6 μ6 Q)) ∧ (¬ r5 = 0 → ∀ x7 : Int32, x7 = v3 + (nI 1) → ((¬ v4 = ((-1) : Int32) → (w_X7_thick_60 a1 X28 x7 v6 v4 μ6 Q)) ∧ (v4 = ((-1) : Int32) → (w_X7_thick_60 a1 X28 x7 v6 v6 μ6 Q))))))))
def w_X7_thick_28 (a1 : Int32) (v3 : Int32) (v4 : Int32) (v5 : Int32) (v6 : Int32) (μ : Mem) (Q : Int32 → Mem → Prop) : Prop :=
  ∀ X28 : Int32 → Int32 → Int32 → Int32 → Mem → Prop, (∀ (v3 : Int32) (v4 : Int32) (v5 : Int32) (v6 : Int32) (μ : Mem), s_X7_thick_28 a1 X28 v3 v4 v5 v6 μ Q → X28 v3 v4 v5 v6 μ) → X28 v3 v4 v5 v6 μ
def w_X7_thick (a1 : Int32) (μ : Mem) (Q : Int32 → Mem → Prop) : Prop :=
  w_X7_in a1 (nI 0) (nI 2) μ (fun r1 => w_X7_need r1 μ (fun r3 => ((0 ≤ r3 → (w_X7_thick_28 a1 (nI 0) ((-1) : Int32) ((-1) : Int32) (nI 0) μ Q)) ∧ (¬ 0 ≤ r3 → Q r3 μ))))
abbrev rm_X7_thick : Room := { frames := 5, cells := 0, slots := 0, locals := 112 }
/-- X7_greatest -/
def w_X7_greatest_75 (a1 : Int32) (a2 : Int32) (X5 : Int32 → Int32 → Mem → Prop) (v4 : Int32) (s1 : Int32) (μ : Mem) (Q : Int32 → Mem → Prop) : Prop :=
  ∀ x7 : Int32, x7 = v4 + (nI 1) → (X5 s1 x7 μ)
def w_X7_greatest_63 (a1 : Int32) (a2 : Int32) (X5 : Int32 → Int32 → Mem → Prop) (v3 : Int32) (v4 : Int32) (v5 : Int32) (μ : Mem) (Q : Int32 → Mem → Prop) : Prop :=
  ((v5 ≤ v3 → (w_X7_greatest_75 a1 a2 X5 v4 v3 μ Q)) ∧ (¬ v5 ≤ v3 → (w_X7_greatest_75 a1 a2 X5 v4 v5 μ Q)))
def w_X7_greatest_54 (a1 : Int32) (a2 : Int32) (X5 : Int32 → Int32 → Mem → Prop) (X18 : Int32 → Int32 → Mem → Prop) (v3 : Int32) (v4 : Int32) (v6 : Int32) (s2 : Int32) (s1 : Int32) (μ : Mem) (Q : Int32 → Mem → Prop) : Prop :=
  ∀ x5 : Int32, x5 = (s1 + s2) → ∀ x6 : Int32, x6 = v6 + (nI 1) → (X18 x5 x6 μ)
def w_X7_greatest_53 (a1 : Int32) (a2 : Int32) (X5 : Int32 → Int32 → Mem → Prop) (X18 : Int32 → Int32 → Mem → Prop) (v3 : Int32) (v4 : Int32) (v6 : Int32) (s1 : Int32) (μ : Mem) (Q : Int32 → Mem → Prop) : Prop :=
  (w_X7_greatest_54 a1 a2 X5 X18 v3 v4 v6 (nI 0) s1 μ Q)
def s_X7_greatest_18 (a1 : Int32) (a2 : Int32) (X5 : Int32 → Int32 → Mem → Prop) (v3 : Int32) (v4 : Int32) (X18 : Int32 → Int32 → Mem → Prop) (v5 : Int32) (v6 : Int32) (μ : Mem) (Q : Int32 → Mem → Prop) : Prop :=
  (((nI 40) < v6 → (w_X7_greatest_63 a1 a2 X5 v3 v4 v5 μ Q)) ∧ (¬ (nI 40) < v6 → w_X7_tookOf a1 v6 a2 μ (fun r1 μ2 => ((¬ r1 = v4 → (w_X7_greatest_53 a1 a2 X5 X18 v3 v4 v6 v5 μ2 Q)) ∧ (r1 = v4 → w_X7_isSo v6 μ2 (fun r3 μ4 => ((r3 = 0 → (w_X7_greatest_53 a1 a2 X5 X18 v3 v4 v6 v5 μ4 Q)) ∧ (¬ r3 = 0 → (w_X7_greatest_54 a1 a2 X5 X18 v3 v4 v6 (nI 1) v5 μ4 Q)))))))))
def w_X7_greatest_18 (a1 : Int32) (a2 : Int32) (X5 : Int32 → Int32 → Mem → Prop) (v3 : Int32) (v4 : Int32) (v5 : Int32) (v6 : Int32) (μ : Mem) (Q : Int32 → Mem → Prop) : Prop :=
  ∀ X18 : Int32 → Int32 → Mem → Prop, (∀ (v5 : Int32) (v6 : Int32) (μ : Mem), s_X7_greatest_18 a1 a2 X5 v3 v4 X18 v5 v6 μ Q → X18 v5 v6 μ) → X18 v5 v6 μ
def s_X7_greatest_5 (a1 : Int32) (a2 : Int32) (X5 : Int32 → Int32 → Mem → Prop) (v3 : Int32) (v4 : Int32) (μ : Mem) (Q : Int32 → Mem → Prop) : Prop :=
  (((nI 40) < v4 → Q v3 μ) ∧ (¬ (nI 40) < v4 → (w_X7_greatest_18 a1 a2 X5 v3 v4 (nI 0) (nI 0) μ Q)))
def w_X7_greatest_5 (a1 : Int32) (a2 : Int32) (v3 : Int32) (v4 : Int32) (μ : Mem) (Q : Int32 → Mem → Prop) : Prop :=
  ∀ X5 : Int32 → Int32 → Mem → Prop, (∀ (v3 : Int32) (v4 : Int32) (μ : Mem), s_X7_greatest_5 a1 a2 X5 v3 v4 μ Q → X5 v3 v4 μ) → X5 v3 v4 μ
def w_X7_greatest (a1 : Int32) (a2 : Int32) (μ : Mem) (Q : Int32 → Mem → Prop) : Prop :=
  (w_X7_greatest_5 a1 a2 (nI 0) (nI 0) μ Q)
abbrev rm_X7_greatest : Room := { frames := 5, cells := 0, slots := 0, locals := 112 }
/-- X7_lookAt -/
def w_X7_lookAt_73 (a1 : Int32) (X27 : Int32 → Int32 → Int32 → Mem → Prop) (v3 : Int32) (v5 : Int32) (s1 : Int32) (μ : Mem) (Q : Int32 → Mem → Prop) : Prop :=
  ∀ x9 : Int32, x9 = v5 + (nI 1) → (X27 v3 s1 x9 μ)
def w_X7_lookAt_58 (a1 : Int32) (X27 : Int32 → Int32 → Int32 → Mem → Prop) (v4 : Int32) (v5 : Int32) (v6 : Int32) (s1 : Int32) (μ : Mem) (Q : Int32 → Mem → Prop) : Prop :=
  ((v4 ≤ v6 → (w_X7_lookAt_73 a1 X27 s1 v5 v4 μ Q)) ∧ (¬ v4 ≤ v6 → (w_X7_lookAt_73 a1 X27 s1 v5 v6 μ Q)))
def s_X7_lookAt_27 (a1 : Int32) (X27 : Int32 → Int32 → Int32 → Mem → Prop) (v3 : Int32) (v4 : Int32) (v5 : Int32) (μ : Mem) (Q : Int32 → Mem → Prop) : Prop :=
  (((μ.1 0 20) ≤ v5 → Q v3 μ) ∧ (¬ (μ.1 0 20) ≤ v5 → w_X7_greatest v5 a1 μ (fun r7 μ8 => ((v4 ≤ r7 → (w_X7_lookAt_58 a1 X27 v4 v5 r7 v3 μ8 Q)) ∧ (¬ v4 ≤ r7 → (w_X7_lookAt_58 a1 X27 v4 v5 r7 v5 μ8 Q))))))
def w_X7_lookAt_27 (a1 : Int32) (v3 : Int32) (v4 : Int32) (v5 : Int32) (μ : Mem) (Q : Int32 → Mem → Prop) : Prop :=
  ∀ X27 : Int32 → Int32 → Int32 → Mem → Prop, (∀ (v3 : Int32) (v4 : Int32) (v5 : Int32) (μ : Mem), s_X7_lookAt_27 a1 X27 v3 v4 v5 μ Q → X27 v3 v4 v5 μ) → X27 v3 v4 v5 μ
def w_X7_lookAt (a1 : Int32) (μ : Mem) (Q : Int32 → Mem → Prop) : Prop :=
  w_X7_isSide a1 μ (fun r1 => w_X7_need r1 μ (fun r3 => ((0 ≤ r3 → w_X7_thick (nI 0) μ (fun r5 μ6 => (w_X7_lookAt_27 a1 ((-1) : Int32) r5 (nI 0) μ6 Q))) ∧ (¬ 0 ≤ r3 → Q r3 μ))))
abbrev rm_X7_lookAt : Room := { frames := 6, cells := 0, slots := 0, locals := 138 }
/-- X7_needs -/
def s_X7_needs_34 (a1 : Int32) (a2 : Int32) (a3 : Int32) (X34 : Int32 → Mem → Prop) (v4 : Int32) (μ : Mem) (Q : Int32 → Mem → Prop) : Prop :=
  (((nI 40) < v4 → Q ((-1) : Int32) μ) ∧ (¬ (nI 40) < v4 → w_X7_tookOf a1 v4 a2 μ (fun r7 μ8 => ((r7 < a3 → ∀ x9 : Int32, x9 = v4 + (nI 1) → (X34 x9 μ8)) ∧ (¬ r7 < a3 → Q v4 μ8)))))
def w_X7_needs_34 (a1 : Int32) (a2 : Int32) (a3 : Int32) (v4 : Int32) (μ : Mem) (Q : Int32 → Mem → Prop) : Prop :=
  ∀ X34 : Int32 → Mem → Prop, (∀ (v4 : Int32) (μ : Mem), s_X7_needs_34 a1 a2 a3 X34 v4 μ Q → X34 v4 μ) → X34 v4 μ
def w_X7_needs (a1 : Int32) (a2 : Int32) (a3 : Int32) (μ : Mem) (Q : Int32 → Mem → Prop) : Prop :=
  w_X7_isPost a1 μ (fun r1 => ((¬ r1 = 0 → w_X7_isSide a2 μ (fun r3 => ((r3 = 0 → Q ((-1000000002) : Int32) μ) ∧ (¬ r3 = 0 → w_X7_in a3 (nI 0) (nI 40) μ (fun r5 => ((¬ r5 = 0 → (w_X7_needs_34 a1 a2 a3 (nI 0) μ Q)) ∧ (r5 = 0 → Q ((-1000000002) : Int32) μ))))))) ∧ (r1 = 0 → Q ((-1000000001) : Int32) μ)))
abbrev rm_X7_needs : Room := { frames := 4, cells := 0, slots := 0, locals := 89 }
/-- X7_write -/
def w_X7_write (a1 : Int32) (a2 : Int32) (μ : Mem) (Q : Int32 → Mem → Prop) : Prop :=
  w_X7_isPost a1 μ (fun r1 => ((¬ r1 = 0 → w_X7_in a2 (nI 0) (nI 99) μ (fun r3 => ((¬ r3 = 0 → ((¬ (μ.1 0 39) = (nI 20) → (vp_in ((nI 2) * (μ.1 0 39)) 40 ∧ ∀ μ5 : Mem, μ5 = sI μ 20 (((nI 2) * (μ.1 0 39))).toNatClampNeg a1 → (vp_in (((nI 2) * (μ5.1 0 39)) + (nI 1)) 40 ∧ ∀ μ6 : Mem, μ6 = sI μ5 20 ((((nI 2) * (μ5.1 0 39)) + (nI 1))).toNatClampNeg a2 → ∀ μ7 : Mem, μ7 = sI μ6 0 39 ((μ6.1 0 39) + (nI 1)) → Q (μ7.1 0 39) μ7))) ∧ ((μ.1 0 39) = (nI 20) → Q ((-1000000004) : Int32) μ))) ∧ (r3 = 0 → Q ((-1000000002) : Int32) μ)))) ∧ (r1 = 0 → Q ((-1000000001) : Int32) μ)))
abbrev rm_X7_write : Room := { frames := 2, cells := 0, slots := 0, locals := 43 }
/-- X7_judge -/
def w_X7_judge_47 (X9 : Int32 → Int32 → Prop) (v2 : Int32) (s1 : Int32) (μ : Mem) (Q : Int32 → Prop) : Prop :=
  ∀ x3 : Int32, x3 = v2 + ((-1) : Int32) → (X9 s1 x3)
def s_X7_judge_9 (μ : Mem) (X9 : Int32 → Int32 → Prop) (v1 : Int32) (v2 : Int32) (Q : Int32 → Prop) : Prop :=
  ((v2 < 0 → Q v1) ∧ (¬ v2 < 0 → (vp_in ((nI 2) * v2) 40 ∧ (vp_in ((nI 9) + (μ.1 20 (((nI 2) * v2)).toNatClampNeg)) 27 ∧ ∀ x2 : Int32, x2 = (μ.1 14 (((nI 9) + (μ.1 20 (((nI 2) * v2)).toNatClampNeg))).toNatClampNeg) → (vp_in (((nI 2) * v2) + (nI 1)) 40 ∧ ((x2 = (μ.1 20 ((((nI 2) * v2) + (nI 1))).toNatClampNeg) → (w_X7_judge_47 X9 v2 v1 μ Q)) ∧ (¬ x2 = (μ.1 20 ((((nI 2) * v2) + (nI 1))).toNatClampNeg) → (w_X7_judge_47 X9 v2 v2 μ Q))))))))
def w_X7_judge_9 (v1 : Int32) (v2 : Int32) (μ : Mem) (Q : Int32 → Prop) : Prop :=
  ∀ X9 : Int32 → Int32 → Prop, (∀ (v1 : Int32) (v2 : Int32), s_X7_judge_9 μ X9 v1 v2 Q → X9 v1 v2) → X9 v1 v2
def w_X7_judge (μ : Mem) (Q : Int32 → Prop) : Prop :=
  ∀ x1 : Int32, x1 = ((μ.1 0 39) - (nI 1)) → (w_X7_judge_9 ((-1) : Int32) x1 μ Q)
abbrev rm_X7_judge : Room := { frames := 0, cells := 0, slots := 0, locals := 0 }
/-- X7_tear -/
def w_X7_tear (μ : Mem) (Q : Int32 → Mem → Prop) : Prop :=
  ∀ x1 : Int32, x1 = ((μ.1 0 37) + (μ.1 0 39)) → ∀ μ2 : Mem, μ2 = sI μ 0 37 (nI 0) → ∀ μ3 : Mem, μ3 = sI μ2 0 39 (nI 0) → Q x1 μ3
abbrev rm_X7_tear : Room := { frames := 0, cells := 0, slots := 0, locals := 0 }
/-- X7_seed -/
def w_X7_seed (a1 : Int32) (μ : Mem) (Q : Int32 → Mem → Prop) : Prop :=
  ((0 ≤ a1 → ∀ x1 : Int32, x1 = ((μ.2.1 0)).toInt32 → ∀ μ2 : Mem, μ2 = sL μ 0 (a1).toInt64 → Q x1 μ2) ∧ (¬ 0 ≤ a1 → Q ((-1000000002) : Int32) μ))
abbrev rm_X7_seed : Room := { frames := 0, cells := 0, slots := 0, locals := 0 }
/-- X7_keep -/
def s_X7_keep_36 (a1 : Int32) (X36 : Int32 → Mem → Prop) (v2 : Int32) (μ : Mem) (Q : Int32 → Mem → Prop) : Prop :=
  (((nI 27) ≤ v2 → Q (nI 1) μ) ∧ (¬ (nI 27) ≤ v2 → (vp_in v2 27 ∧ (vp_in (((nI 27) * a1) + v2) 54 ∧ ∀ μ6 : Mem, μ6 = sI μ 22 ((((nI 27) * a1) + v2)).toNatClampNeg (μ.1 14 (v2).toNatClampNeg) → ∀ x7 : Int32, x7 = v2 + (nI 1) → (X36 x7 μ6)))))
def w_X7_keep_36 (a1 : Int32) (v2 : Int32) (μ : Mem) (Q : Int32 → Mem → Prop) : Prop :=
  ∀ X36 : Int32 → Mem → Prop, (∀ (v2 : Int32) (μ : Mem), s_X7_keep_36 a1 X36 v2 μ Q → X36 v2 μ) → X36 v2 μ
def w_X7_keep (a1 : Int32) (μ : Mem) (Q : Int32 → Mem → Prop) : Prop :=
  w_X7_in a1 (nI 0) (nI 1) μ (fun r1 => ((¬ r1 = 0 → (vp_in a1 2 ∧ ∀ μ3 : Mem, μ3 = sI μ 21 (a1).toNatClampNeg (nI 1) → (vp_in a1 2 ∧ ∀ μ4 : Mem, μ4 = sL μ3 (1 + (a1).toNatClampNeg) (μ3.2.1 0) → ∀ μ5 : Mem, μ5 = sI μ4 0 32 (nI 0) → (w_X7_keep_36 a1 (nI 0) μ5 Q)))) ∧ (r1 = 0 → Q ((-1000000001) : Int32) μ)))
abbrev rm_X7_keep : Room := { frames := 1, cells := 0, slots := 0, locals := 22 }
/-- X7_goBack -/
def s_X7_goBack_41 (a1 : Int32) (X41 : Int32 → Mem → Prop) (v2 : Int32) (μ : Mem) (Q : Int32 → Mem → Prop) : Prop :=
  (((nI 27) ≤ v2 → Q (nI 1) μ) ∧ (¬ (nI 27) ≤ v2 → (vp_in (((nI 27) * a1) + v2) 54 ∧ (vp_in v2 27 ∧ ∀ μ5 : Mem, μ5 = sI μ 14 (v2).toNatClampNeg (μ.1 22 ((((nI 27) * a1) + v2)).toNatClampNeg) → ∀ x6 : Int32, x6 = v2 + (nI 1) → (X41 x6 μ5)))))
def w_X7_goBack_41 (a1 : Int32) (v2 : Int32) (μ : Mem) (Q : Int32 → Mem → Prop) : Prop :=
  ∀ X41 : Int32 → Mem → Prop, (∀ (v2 : Int32) (μ : Mem), s_X7_goBack_41 a1 X41 v2 μ Q → X41 v2 μ) → X41 v2 μ
def w_X7_goBack (a1 : Int32) (μ : Mem) (Q : Int32 → Mem → Prop) : Prop :=
  w_X7_in a1 (nI 0) (nI 1) μ (fun r1 => ((¬ r1 = 0 → (vp_in a1 2 ∧ ((¬ (μ.1 21 (a1).toNatClampNeg) = 0 → (vp_in a1 2 ∧ ∀ μ3 : Mem, μ3 = sL μ 0 (μ.2.1 (1 + (a1).toNatClampNeg)) → ∀ μ4 : Mem, μ4 = sI μ3 0 32 (nI 0) → (w_X7_goBack_41 a1 (nI 0) μ4 Q))) ∧ ((μ.1 21 (a1).toNatClampNeg) = 0 → Q ((-1000000003) : Int32) μ)))) ∧ (r1 = 0 → Q ((-1000000001) : Int32) μ)))
abbrev rm_X7_goBack : Room := { frames := 1, cells := 0, slots := 0, locals := 22 }
