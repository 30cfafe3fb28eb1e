/-! ===== the two sides: FogNets with all that it makes, and the reference ===== -/
def kFl : List Nat := [6, 3, 8, 0, 8, 8, 8, 8, 8, 8, 8, 8, 8, 8, 0, 8, 8, 8, 8, 8, 8, 8, 8, 8, 8, 4, 8, 8, 8, 8, 8, 4, 8, 8, 8, 8, 8, 8, 5, 8, 8, 2, 11, 4, 8, 8, 8, 8, 8, 4, 8, 8, 8, 8, 8, 4, 8, 8, 8, 8, 8, 4, 8, 8, 8, 8, 8, 4, 8, 8, 8, 8, 8, 4, 8, 8, 8, 8, 8, 4, 8, 8, 8, 8, 8, 4, 8, 8, 8, 8, 8, 4, 8, 8, 8, 8, 8, 4, 8, 8, 8, 8, 8, 4, 8, 8, 8, 8, 8, 4, 8, 8, 8, 8, 8, 4, 8, 8, 8, 8, 8, 4, 8, 8, 8, 8, 8, 4, 8, 8, 8, 8, 8, 4, 8, 8, 8, 8, 8, 4, 8, 8, 8, 8, 8, 4, 8, 8, 8, 8, 8, 4, 8, 8, 8, 8, 8, 4, 8, 8, 8, 8, 8, 4, 8, 8, 8, 8, 8, 4, 8, 8, 8, 8, 8, 4, 8, 8, 8, 8, 8, 4, 8, 8, 8, 8, 8, 4, 8, 8, 8, 8, 8, 4, 8, 8, 8, 8, 8, 4, 8, 8, 8, 8, 8, 4, 8, 8, 8, 8, 8, 4, 8, 8, 8, 8, 8, 4, 8, 8, 8, 8, 8, 12, 4, 8, 8, 8, 8, 8, 4, 8, 8, 8, 8, 8, 8, 1, 8, 8, 8, 1, 8, 8, 8, 8, 8, 8, 8]
def lFl : List Nat := [0, 0, 240, 0, 12, 12, 6, 6, 6, 6, 2, 2, 4, 4, 0, 12, 12, 6, 6, 6, 6, 2, 2, 4, 4, 0, 6, 6, 6, 2, 2, 0, 6, 6, 6, 2, 2, 6, 0, 6, 12, 0, 30, 0, 6, 6, 6, 2, 2, 0, 6, 6, 6, 2, 2, 0, 6, 6, 6, 2, 2, 0, 6, 6, 6, 2, 2, 0, 6, 6, 6, 2, 2, 0, 6, 6, 6, 2, 2, 0, 6, 6, 6, 2, 2, 0, 6, 6, 6, 2, 2, 0, 6, 6, 6, 2, 2, 0, 6, 6, 6, 2, 2, 0, 6, 6, 6, 2, 2, 0, 6, 6, 6, 2, 2, 0, 6, 6, 6, 2, 2, 0, 6, 6, 6, 2, 2, 0, 6, 6, 6, 2, 2, 0, 6, 6, 6, 2, 2, 0, 6, 6, 6, 2, 2, 0, 6, 6, 6, 2, 2, 0, 6, 6, 6, 2, 2, 0, 6, 6, 6, 2, 2, 0, 6, 6, 6, 2, 2, 0, 6, 6, 6, 2, 2, 0, 6, 6, 6, 2, 2, 0, 6, 6, 6, 2, 2, 0, 6, 6, 6, 2, 2, 0, 6, 6, 6, 2, 2, 0, 6, 6, 6, 2, 2, 0, 6, 6, 6, 2, 2, 0, 6, 6, 6, 2, 2, 0, 6, 6, 6, 2, 2, 2, 0, 6, 6, 6, 2, 2, 0, 6, 6, 6, 2, 2, 2, 0, 6, 6, 6, 0, 20, 20, 20, 41, 53, 27, 6]
def sF : Sd := (249, fun k => kFl.getD k 99, fun k => lFl.getD k 0)
theorem sF_lt : ∀ k, sF.2.1 k < 99 → k < sF.1 := by
  intro k h
  refine Nat.lt_of_not_le (fun q => ?_)
  have : sF.2.1 k = 99 := by
    show (kFl[k]?).getD 99 = 99
    rw [List.getElem?_eq_none (Nat.le_trans (by decide +kernel) q)]
    rfl
  omega
theorem st_k_all : ∀ b, b < 249 → sF.2.1 b = 4 → sF.2.1 (b + 1) = 8 ∧ sF.2.2 (b + 1) = 6 ∧ sF.2.1 (b + 2) = 8 ∧ sF.2.2 (b + 2) = 6 ∧ sF.2.1 (b + 3) = 8 ∧ sF.2.2 (b + 3) = 6 ∧ sF.2.1 (b + 4) = 8 ∧ sF.2.2 (b + 4) = 2 ∧ sF.2.1 (b + 5) = 8 ∧ sF.2.2 (b + 5) = 2 := by decide +kernel
theorem st_k {b : Nat} (h : sF.2.1 b = 4) : sF.2.1 (b + 1) = 8 ∧ sF.2.2 (b + 1) = 6 ∧ sF.2.1 (b + 2) = 8 ∧ sF.2.2 (b + 2) = 6 ∧ sF.2.1 (b + 3) = 8 ∧ sF.2.2 (b + 3) = 6 ∧ sF.2.1 (b + 4) = 8 ∧ sF.2.2 (b + 4) = 2 ∧ sF.2.1 (b + 5) = 8 ∧ sF.2.2 (b + 5) = 2 := st_k_all b (sF_lt b (by omega)) h
theorem co_f1_all : ∀ b, b < 249 → sF.2.1 b = 0 → sF.2.1 (b + 1) = 8 ∧ sF.2.2 (b + 1) = 12 := by decide +kernel
theorem co_f1 {b : Nat} (h : sF.2.1 b = 0) : sF.2.1 (b + 1) = 8 ∧ sF.2.2 (b + 1) = 12 := co_f1_all b (sF_lt b (by omega)) h
theorem co_f2_all : ∀ b, b < 249 → sF.2.1 b = 0 → sF.2.1 (b + 2) = 8 ∧ sF.2.2 (b + 2) = 12 := by decide +kernel
theorem co_f2 {b : Nat} (h : sF.2.1 b = 0) : sF.2.1 (b + 2) = 8 ∧ sF.2.2 (b + 2) = 12 := co_f2_all b (sF_lt b (by omega)) h
theorem co_f3_all : ∀ b, b < 249 → sF.2.1 b = 0 → sF.2.1 (b + 3) = 8 ∧ sF.2.2 (b + 3) = 6 := by decide +kernel
theorem co_f3 {b : Nat} (h : sF.2.1 b = 0) : sF.2.1 (b + 3) = 8 ∧ sF.2.2 (b + 3) = 6 := co_f3_all b (sF_lt b (by omega)) h
theorem co_f4_all : ∀ b, b < 249 → sF.2.1 b = 0 → sF.2.1 (b + 4) = 8 ∧ sF.2.2 (b + 4) = 6 := by decide +kernel
theorem co_f4 {b : Nat} (h : sF.2.1 b = 0) : sF.2.1 (b + 4) = 8 ∧ sF.2.2 (b + 4) = 6 := co_f4_all b (sF_lt b (by omega)) h
theorem co_f5_all : ∀ b, b < 249 → sF.2.1 b = 0 → sF.2.1 (b + 5) = 8 ∧ sF.2.2 (b + 5) = 6 := by decide +kernel
theorem co_f5 {b : Nat} (h : sF.2.1 b = 0) : sF.2.1 (b + 5) = 8 ∧ sF.2.2 (b + 5) = 6 := co_f5_all b (sF_lt b (by omega)) h
theorem co_f6_all : ∀ b, b < 249 → sF.2.1 b = 0 → sF.2.1 (b + 6) = 8 ∧ sF.2.2 (b + 6) = 6 := by decide +kernel
theorem co_f6 {b : Nat} (h : sF.2.1 b = 0) : sF.2.1 (b + 6) = 8 ∧ sF.2.2 (b + 6) = 6 := co_f6_all b (sF_lt b (by omega)) h
theorem co_f7_all : ∀ b, b < 249 → sF.2.1 b = 0 → sF.2.1 (b + 7) = 8 ∧ sF.2.2 (b + 7) = 2 := by decide +kernel
theorem co_f7 {b : Nat} (h : sF.2.1 b = 0) : sF.2.1 (b + 7) = 8 ∧ sF.2.2 (b + 7) = 2 := co_f7_all b (sF_lt b (by omega)) h
theorem co_f8_all : ∀ b, b < 249 → sF.2.1 b = 0 → sF.2.1 (b + 8) = 8 ∧ sF.2.2 (b + 8) = 2 := by decide +kernel
theorem co_f8 {b : Nat} (h : sF.2.1 b = 0) : sF.2.1 (b + 8) = 8 ∧ sF.2.2 (b + 8) = 2 := co_f8_all b (sF_lt b (by omega)) h
theorem co_f9_all : ∀ b, b < 249 → sF.2.1 b = 0 → sF.2.1 (b + 9) = 8 ∧ sF.2.2 (b + 9) = 4 := by decide +kernel
theorem co_f9 {b : Nat} (h : sF.2.1 b = 0) : sF.2.1 (b + 9) = 8 ∧ sF.2.2 (b + 9) = 4 := co_f9_all b (sF_lt b (by omega)) h
theorem co_f10_all : ∀ b, b < 249 → sF.2.1 b = 0 → sF.2.1 (b + 10) = 8 ∧ sF.2.2 (b + 10) = 4 := by decide +kernel
theorem co_f10 {b : Nat} (h : sF.2.1 b = 0) : sF.2.1 (b + 10) = 8 ∧ sF.2.2 (b + 10) = 4 := co_f10_all b (sF_lt b (by omega)) h
theorem nt_k_all : ∀ b, b < 249 → sF.2.1 b = 1 → sF.2.1 (b + 1) = 8 ∧ sF.2.1 (b + 2) = 8 ∧ sF.2.1 (b + 3) = 8 := by decide +kernel
theorem nt_k {b : Nat} (h : sF.2.1 b = 1) : sF.2.1 (b + 1) = 8 ∧ sF.2.1 (b + 2) = 8 ∧ sF.2.1 (b + 3) = 8 := nt_k_all b (sF_lt b (by omega)) h
theorem st_k1 {b : Nat} (h : sF.2.1 b = 4) : sF.2.1 (b + 1) = 8 := (st_k h).1
theorem st_n1 {b : Nat} (h : sF.2.1 b = 4) : sF.2.2 (b + 1) = 6 := (st_k h).2.1
theorem st_k2 {b : Nat} (h : sF.2.1 b = 4) : sF.2.1 (b + 2) = 8 := (st_k h).2.2.1
theorem st_n2 {b : Nat} (h : sF.2.1 b = 4) : sF.2.2 (b + 2) = 6 := (st_k h).2.2.2.1
theorem st_k3 {b : Nat} (h : sF.2.1 b = 4) : sF.2.1 (b + 3) = 8 := (st_k h).2.2.2.2.1
theorem st_n3 {b : Nat} (h : sF.2.1 b = 4) : sF.2.2 (b + 3) = 6 := (st_k h).2.2.2.2.2.1
theorem st_k4 {b : Nat} (h : sF.2.1 b = 4) : sF.2.1 (b + 4) = 8 := (st_k h).2.2.2.2.2.2.1
theorem st_n4 {b : Nat} (h : sF.2.1 b = 4) : sF.2.2 (b + 4) = 2 := (st_k h).2.2.2.2.2.2.2.1
theorem st_k5 {b : Nat} (h : sF.2.1 b = 4) : sF.2.1 (b + 5) = 8 := (st_k h).2.2.2.2.2.2.2.2.1
theorem st_n5 {b : Nat} (h : sF.2.1 b = 4) : sF.2.2 (b + 5) = 2 := (st_k h).2.2.2.2.2.2.2.2.2
theorem co_k1 {b : Nat} (h : sF.2.1 b = 0) : sF.2.1 (b + 1) = 8 := (co_f1 h).1
theorem co_n1 {b : Nat} (h : sF.2.1 b = 0) : sF.2.2 (b + 1) = 12 := (co_f1 h).2
theorem co_k2 {b : Nat} (h : sF.2.1 b = 0) : sF.2.1 (b + 2) = 8 := (co_f2 h).1
theorem co_n2 {b : Nat} (h : sF.2.1 b = 0) : sF.2.2 (b + 2) = 12 := (co_f2 h).2
theorem co_k3 {b : Nat} (h : sF.2.1 b = 0) : sF.2.1 (b + 3) = 8 := (co_f3 h).1
theorem co_n3 {b : Nat} (h : sF.2.1 b = 0) : sF.2.2 (b + 3) = 6 := (co_f3 h).2
theorem co_k4 {b : Nat} (h : sF.2.1 b = 0) : sF.2.1 (b + 4) = 8 := (co_f4 h).1
theorem co_n4 {b : Nat} (h : sF.2.1 b = 0) : sF.2.2 (b + 4) = 6 := (co_f4 h).2
theorem co_k5 {b : Nat} (h : sF.2.1 b = 0) : sF.2.1 (b + 5) = 8 := (co_f5 h).1
theorem co_n5 {b : Nat} (h : sF.2.1 b = 0) : sF.2.2 (b + 5) = 6 := (co_f5 h).2
theorem co_k6 {b : Nat} (h : sF.2.1 b = 0) : sF.2.1 (b + 6) = 8 := (co_f6 h).1
theorem co_n6 {b : Nat} (h : sF.2.1 b = 0) : sF.2.2 (b + 6) = 6 := (co_f6 h).2
theorem co_k7 {b : Nat} (h : sF.2.1 b = 0) : sF.2.1 (b + 7) = 8 := (co_f7 h).1
theorem co_n7 {b : Nat} (h : sF.2.1 b = 0) : sF.2.2 (b + 7) = 2 := (co_f7 h).2
theorem co_k8 {b : Nat} (h : sF.2.1 b = 0) : sF.2.1 (b + 8) = 8 := (co_f8 h).1
theorem co_n8 {b : Nat} (h : sF.2.1 b = 0) : sF.2.2 (b + 8) = 2 := (co_f8 h).2
theorem co_k9 {b : Nat} (h : sF.2.1 b = 0) : sF.2.1 (b + 9) = 8 := (co_f9 h).1
theorem co_n9 {b : Nat} (h : sF.2.1 b = 0) : sF.2.2 (b + 9) = 4 := (co_f9 h).2
theorem co_k10 {b : Nat} (h : sF.2.1 b = 0) : sF.2.1 (b + 10) = 8 := (co_f10 h).1
theorem co_n10 {b : Nat} (h : sF.2.1 b = 0) : sF.2.2 (b + 10) = 4 := (co_f10 h).2
theorem nt_k1 {b : Nat} (h : sF.2.1 b = 1) : sF.2.1 (b + 1) = 8 := (nt_k h).1
theorem nt_k2 {b : Nat} (h : sF.2.1 b = 1) : sF.2.1 (b + 2) = 8 := (nt_k h).2.1
theorem nt_k3 {b : Nat} (h : sF.2.1 b = 1) : sF.2.1 (b + 3) = 8 := (nt_k h).2.2
theorem kF_0 : sF.2.1 0 = 6 := by decide +kernel
theorem nF_0 : sF.2.2 0 = 0 := by decide +kernel
theorem kF_1 : sF.2.1 1 = 3 := by decide +kernel
theorem nF_1 : sF.2.2 1 = 0 := by decide +kernel
theorem kF_2 : sF.2.1 2 = 8 := by decide +kernel
theorem nF_2 : sF.2.2 2 = 240 := by decide +kernel
theorem kF_25 : sF.2.1 25 = 4 := by decide +kernel
theorem nF_25 : sF.2.2 25 = 0 := by decide +kernel
theorem kF_31 : sF.2.1 31 = 4 := by decide +kernel
theorem nF_31 : sF.2.2 31 = 0 := by decide +kernel
theorem kF_37 : sF.2.1 37 = 8 := by decide +kernel
theorem nF_37 : sF.2.2 37 = 6 := by decide +kernel
theorem kF_38 : sF.2.1 38 = 5 := by decide +kernel
theorem nF_38 : sF.2.2 38 = 0 := by decide +kernel
theorem kF_39 : sF.2.1 39 = 8 := by decide +kernel
theorem nF_39 : sF.2.2 39 = 6 := by decide +kernel
theorem kF_40 : sF.2.1 40 = 8 := by decide +kernel
theorem nF_40 : sF.2.2 40 = 12 := by decide +kernel
theorem kF_41 : sF.2.1 41 = 2 := by decide +kernel
theorem nF_41 : sF.2.2 41 = 0 := by decide +kernel
theorem kF_42 : sF.2.1 42 = 11 := by decide +kernel
theorem nF_42 : sF.2.2 42 = 30 := by decide +kernel
theorem kF_223 : sF.2.1 223 = 12 := by decide +kernel
theorem nF_223 : sF.2.2 223 = 2 := by decide +kernel
theorem kF_224 : sF.2.1 224 = 4 := by decide +kernel
theorem nF_224 : sF.2.2 224 = 0 := by decide +kernel
theorem kF_230 : sF.2.1 230 = 4 := by decide +kernel
theorem nF_230 : sF.2.2 230 = 0 := by decide +kernel
theorem kF_236 : sF.2.1 236 = 8 := by decide +kernel
theorem nF_236 : sF.2.2 236 = 2 := by decide +kernel
theorem kF_237 : sF.2.1 237 = 1 := by decide +kernel
theorem nF_237 : sF.2.2 237 = 0 := by decide +kernel
theorem kF_238 : sF.2.1 238 = 8 := by decide +kernel
theorem nF_238 : sF.2.2 238 = 6 := by decide +kernel
theorem kF_239 : sF.2.1 239 = 8 := by decide +kernel
theorem nF_239 : sF.2.2 239 = 6 := by decide +kernel
theorem kF_240 : sF.2.1 240 = 8 := by decide +kernel
theorem nF_240 : sF.2.2 240 = 6 := by decide +kernel
theorem kF_241 : sF.2.1 241 = 1 := by decide +kernel
theorem nF_241 : sF.2.2 241 = 0 := by decide +kernel
theorem kF_242 : sF.2.1 242 = 8 := by decide +kernel
theorem nF_242 : sF.2.2 242 = 20 := by decide +kernel
theorem kF_243 : sF.2.1 243 = 8 := by decide +kernel
theorem nF_243 : sF.2.2 243 = 20 := by decide +kernel
theorem kF_244 : sF.2.1 244 = 8 := by decide +kernel
theorem nF_244 : sF.2.2 244 = 20 := by decide +kernel
theorem kF_245 : sF.2.1 245 = 8 := by decide +kernel
theorem nF_245 : sF.2.2 245 = 41 := by decide +kernel
theorem kF_246 : sF.2.1 246 = 8 := by decide +kernel
theorem nF_246 : sF.2.2 246 = 53 := by decide +kernel
theorem kF_247 : sF.2.1 247 = 8 := by decide +kernel
theorem nF_247 : sF.2.2 247 = 27 := by decide +kernel
theorem kF_248 : sF.2.1 248 = 8 := by decide +kernel
theorem nF_248 : sF.2.2 248 = 6 := by decide +kernel
section FIELDS
variable {S : Sd} {l : Launch} {D : va_G} {C : Nat → ClassId} {ad : Nat → Nat} {R : Room} {K : Ctx} {n : Nat} {μ : Mem} {pc : Nat} {lv : List (Nat × Value)} {st : List Value} {cc : ByteArray} {own : String} {c0 s0 : Nat}
theorem enc_0 {k : Nat} (h : S.2.1 k = 0) : enc S C ad μ k = .inr (0, [.int (μ.1 k 0), .int (μ.1 k 1), .int (μ.1 k 2), .int (μ.1 k 3), .int (μ.1 k 4), .ref (ad (k + 1)), .ref (ad (k + 2)), .ref (ad (k + 3)), .ref (ad (k + 4)), .ref (ad (k + 5)), .ref (ad (k + 6)), .ref (ad (k + 7)), .ref (ad (k + 8)), .ref (ad (k + 9)), .ref (ad (k + 10))]) := by simp only [enc, h]
theorem sR_other {j x : Nat} : ∀ k2, k2 ≠ 0 → enc sF C ad (sR μ j x) k2 = enc sF C ad μ k2 := by
  intro k2 h
  have h6 : sF.2.1 k2 ≠ 6 := by
    intro q
    have : ∀ k, k < 249 → k ≠ 0 → sF.2.1 k ≠ 6 := by decide +kernel
    exact this k2 (sF_lt k2 (by omega)) h q
  simp only [enc, sR]
  split <;> first | rfl | (exfalso; apply h6; assumption)
theorem g_0_0 (X : CK S D C ad K cc n own) {k index : Nat} (hk : S.2.1 k = 0) (hl : Cond.fieldLink own index "FogNets$Coast" "cells" "I" ∈ kW) (hdg : decode cc pc = .ok (.getfield index, 3)) (kk : WC S l D C ad R K n c0 s0 μ (pc + 3) lv (.int (μ.1 k 0) :: st)) : WC S l D C ad R K n c0 s0 μ pc lv (.ref (ad k) :: st) :=
  fun H locs hw ls h => r_get X hw (X.2.2.2.2.2.2.2.2.1 k (by omega)) (enc_0 hk) rfl inkX0 (j := 0) (by decide) hl rfl hdg (kk H locs hw ls h)
theorem p_0_0 (X : CK S D C ad K cc n own) {k index : Nat} {x : Int32} (hk : S.2.1 k = 0) (hl : Cond.fieldLink own index "FogNets$Coast" "cells" "I" ∈ kW) (hdg : decode cc pc = .ok (.putfield index, 3)) (kk : ∀ μ' : Mem, μ' = sI μ k 0 x → WC S l D C ad R K n c0 s0 μ' (pc + 3) lv st) : WC S l D C ad R K n c0 s0 μ pc lv (.int x :: .ref (ad k) :: st) :=
  fun H locs hw ls h => r_put X hw (μ' := sI μ k 0 x) (X.2.2.2.2.2.2.2.2.1 k (by omega)) (enc_0 hk) rfl inkX0 tyX0 tyX0_ok nmX0 (j := 0) (ty := .int) (by decide) hl rfl (by decide +kernel) rfl rfl (Nat.le_of_ble_eq_true rfl) (fun q => q) (by rw [enc_0 hk]; simp [sI, sA, upd]) (fun k2 q => sA_other q) hdg (fun H1 locs1 hw1 => kk _ rfl H1 locs1 hw1 ls h)
theorem g_0_1 (X : CK S D C ad K cc n own) {k index : Nat} (hk : S.2.1 k = 0) (hl : Cond.fieldLink own index "FogNets$Coast" "burns" "I" ∈ kW) (hdg : decode cc pc = .ok (.getfield index, 3)) (kk : WC S l D C ad R K n c0 s0 μ (pc + 3) lv (.int (μ.1 k 1) :: st)) : WC S l D C ad R K n c0 s0 μ pc lv (.ref (ad k) :: st) :=
  fun H locs hw ls h => r_get X hw (X.2.2.2.2.2.2.2.2.1 k (by omega)) (enc_0 hk) rfl inkX0 (j := 1) (by decide) hl rfl hdg (kk H locs hw ls h)
theorem p_0_1 (X : CK S D C ad K cc n own) {k index : Nat} {x : Int32} (hk : S.2.1 k = 0) (hl : Cond.fieldLink own index "FogNets$Coast" "burns" "I" ∈ kW) (hdg : decode cc pc = .ok (.putfield index, 3)) (kk : ∀ μ' : Mem, μ' = sI μ k 1 x → WC S l D C ad R K n c0 s0 μ' (pc + 3) lv st) : WC S l D C ad R K n c0 s0 μ pc lv (.int x :: .ref (ad k) :: st) :=
  fun H locs hw ls h => r_put X hw (μ' := sI μ k 1 x) (X.2.2.2.2.2.2.2.2.1 k (by omega)) (enc_0 hk) rfl inkX0 tyX0 tyX0_ok nmX0 (j := 1) (ty := .int) (by decide) hl rfl (by decide +kernel) rfl rfl (Nat.le_of_ble_eq_true rfl) (fun q => q) (by rw [enc_0 hk]; simp [sI, sA, upd]) (fun k2 q => sA_other q) hdg (fun H1 locs1 hw1 => kk _ rfl H1 locs1 hw1 ls h)
theorem g_0_2 (X : CK S D C ad K cc n own) {k index : Nat} (hk : S.2.1 k = 0) (hl : Cond.fieldLink own index "FogNets$Coast" "hours" "I" ∈ kW) (hdg : decode cc pc = .ok (.getfield index, 3)) (kk : WC S l D C ad R K n c0 s0 μ (pc + 3) lv (.int (μ.1 k 2) :: st)) : WC S l D C ad R K n c0 s0 μ pc lv (.ref (ad k) :: st) :=
  fun H locs hw ls h => r_get X hw (X.2.2.2.2.2.2.2.2.1 k (by omega)) (enc_0 hk) rfl inkX0 (j := 2) (by decide) hl rfl hdg (kk H locs hw ls h)
theorem p_0_2 (X : CK S D C ad K cc n own) {k index : Nat} {x : Int32} (hk : S.2.1 k = 0) (hl : Cond.fieldLink own index "FogNets$Coast" "hours" "I" ∈ kW) (hdg : decode cc pc = .ok (.putfield index, 3)) (kk : ∀ μ' : Mem, μ' = sI μ k 2 x → WC S l D C ad R K n c0 s0 μ' (pc + 3) lv st) : WC S l D C ad R K n c0 s0 μ pc lv (.int x :: .ref (ad k) :: st) :=
  fun H locs hw ls h => r_put X hw (μ' := sI μ k 2 x) (X.2.2.2.2.2.2.2.2.1 k (by omega)) (enc_0 hk) rfl inkX0 tyX0 tyX0_ok nmX0 (j := 2) (ty := .int) (by decide) hl rfl (by decide +kernel) rfl rfl (Nat.le_of_ble_eq_true rfl) (fun q => q) (by rw [enc_0 hk]; simp [sI, sA, upd]) (fun k2 q => sA_other q) hdg (fun H1 locs1 hw1 => kk _ rfl H1 locs1 hw1 ls h)
theorem g_0_3 (X : CK S D C ad K cc n own) {k index : Nat} (hk : S.2.1 k = 0) (hl : Cond.fieldLink own index "FogNets$Coast" "posts" "I" ∈ kW) (hdg : decode cc pc = .ok (.getfield index, 3)) (kk : WC S l D C ad R K n c0 s0 μ (pc + 3) lv (.int (μ.1 k 3) :: st)) : WC S l D C ad R K n c0 s0 μ pc lv (.ref (ad k) :: st) :=
  fun H locs hw ls h => r_get X hw (X.2.2.2.2.2.2.2.2.1 k (by omega)) (enc_0 hk) rfl inkX0 (j := 3) (by decide) hl rfl hdg (kk H locs hw ls h)
theorem p_0_3 (X : CK S D C ad K cc n own) {k index : Nat} {x : Int32} (hk : S.2.1 k = 0) (hl : Cond.fieldLink own index "FogNets$Coast" "posts" "I" ∈ kW) (hdg : decode cc pc = .ok (.putfield index, 3)) (kk : ∀ μ' : Mem, μ' = sI μ k 3 x → WC S l D C ad R K n c0 s0 μ' (pc + 3) lv st) : WC S l D C ad R K n c0 s0 μ pc lv (.int x :: .ref (ad k) :: st) :=
  fun H locs hw ls h => r_put X hw (μ' := sI μ k 3 x) (X.2.2.2.2.2.2.2.2.1 k (by omega)) (enc_0 hk) rfl inkX0 tyX0 tyX0_ok nmX0 (j := 3) (ty := .int) (by decide) hl rfl (by decide +kernel) rfl rfl (Nat.le_of_ble_eq_true rfl) (fun q => q) (by rw [enc_0 hk]; simp [sI, sA, upd]) (fun k2 q => sA_other q) hdg (fun H1 locs1 hw1 => kk _ rfl H1 locs1 hw1 ls h)
theorem g_0_4 (X : CK S D C ad K cc n own) {k index : Nat} (hk : S.2.1 k = 0) (hl : Cond.fieldLink own index "FogNets$Coast" "goats" "I" ∈ kW) (hdg : decode cc pc = .ok (.getfield index, 3)) (kk : WC S l D C ad R K n c0 s0 μ (pc + 3) lv (.int (μ.1 k 4) :: st)) : WC S l D C ad R K n c0 s0 μ pc lv (.ref (ad k) :: st) :=
  fun H locs hw ls h => r_get X hw (X.2.2.2.2.2.2.2.2.1 k (by omega)) (enc_0 hk) rfl inkX0 (j := 4) (by decide) hl rfl hdg (kk H locs hw ls h)
theorem p_0_4 (X : CK S D C ad K cc n own) {k index : Nat} {x : Int32} (hk : S.2.1 k = 0) (hl : Cond.fieldLink own index "FogNets$Coast" "goats" "I" ∈ kW) (hdg : decode cc pc = .ok (.putfield index, 3)) (kk : ∀ μ' : Mem, μ' = sI μ k 4 x → WC S l D C ad R K n c0 s0 μ' (pc + 3) lv st) : WC S l D C ad R K n c0 s0 μ pc lv (.int x :: .ref (ad k) :: st) :=
  fun H locs hw ls h => r_put X hw (μ' := sI μ k 4 x) (X.2.2.2.2.2.2.2.2.1 k (by omega)) (enc_0 hk) rfl inkX0 tyX0 tyX0_ok nmX0 (j := 4) (ty := .int) (by decide) hl rfl (by decide +kernel) rfl rfl (Nat.le_of_ble_eq_true rfl) (fun q => q) (by rw [enc_0 hk]; simp [sI, sA, upd]) (fun k2 q => sA_other q) hdg (fun H1 locs1 hw1 => kk _ rfl H1 locs1 hw1 ls h)
theorem g_0_5 (X : CK S D C ad K cc n own) {k index : Nat} (hk : S.2.1 k = 0) (hl : Cond.fieldLink own index "FogNets$Coast" "side" "[I" ∈ kW) (hdg : decode cc pc = .ok (.getfield index, 3)) (kk : WC S l D C ad R K n c0 s0 μ (pc + 3) lv (.ref (ad (k + 1)) :: st)) : WC S l D C ad R K n c0 s0 μ pc lv (.ref (ad k) :: st) :=
  fun H locs hw ls h => r_get X hw (X.2.2.2.2.2.2.2.2.1 k (by omega)) (enc_0 hk) rfl inkX0 (j := 5) (by decide) hl rfl hdg (kk H locs hw ls h)
theorem g_0_6 (X : CK S D C ad K cc n own) {k index : Nat} (hk : S.2.1 k = 0) (hl : Cond.fieldLink own index "FogNets$Coast" "thickness" "[I" ∈ kW) (hdg : decode cc pc = .ok (.getfield index, 3)) (kk : WC S l D C ad R K n c0 s0 μ (pc + 3) lv (.ref (ad (k + 2)) :: st)) : WC S l D C ad R K n c0 s0 μ pc lv (.ref (ad k) :: st) :=
  fun H locs hw ls h => r_get X hw (X.2.2.2.2.2.2.2.2.1 k (by omega)) (enc_0 hk) rfl inkX0 (j := 6) (by decide) hl rfl hdg (kk H locs hw ls h)
theorem g_0_7 (X : CK S D C ad K cc n own) {k index : Nat} (hk : S.2.1 k = 0) (hl : Cond.fieldLink own index "FogNets$Coast" "firstCell" "[I" ∈ kW) (hdg : decode cc pc = .ok (.getfield index, 3)) (kk : WC S l D C ad R K n c0 s0 μ (pc + 3) lv (.ref (ad (k + 3)) :: st)) : WC S l D C ad R K n c0 s0 μ pc lv (.ref (ad k) :: st) :=
  fun H locs hw ls h => r_get X hw (X.2.2.2.2.2.2.2.2.1 k (by omega)) (enc_0 hk) rfl inkX0 (j := 7) (by decide) hl rfl hdg (kk H locs hw ls h)
theorem g_0_8 (X : CK S D C ad K cc n own) {k index : Nat} (hk : S.2.1 k = 0) (hl : Cond.fieldLink own index "FogNets$Coast" "firstMesh" "[I" ∈ kW) (hdg : decode cc pc = .ok (.getfield index, 3)) (kk : WC S l D C ad R K n c0 s0 μ (pc + 3) lv (.ref (ad (k + 4)) :: st)) : WC S l D C ad R K n c0 s0 μ pc lv (.ref (ad k) :: st) :=
  fun H locs hw ls h => r_get X hw (X.2.2.2.2.2.2.2.2.1 k (by omega)) (enc_0 hk) rfl inkX0 (j := 8) (by decide) hl rfl hdg (kk H locs hw ls h)
theorem g_0_9 (X : CK S D C ad K cc n own) {k index : Nat} (hk : S.2.1 k = 0) (hl : Cond.fieldLink own index "FogNets$Coast" "jarSize" "[I" ∈ kW) (hdg : decode cc pc = .ok (.getfield index, 3)) (kk : WC S l D C ad R K n c0 s0 μ (pc + 3) lv (.ref (ad (k + 5)) :: st)) : WC S l D C ad R K n c0 s0 μ pc lv (.ref (ad k) :: st) :=
  fun H locs hw ls h => r_get X hw (X.2.2.2.2.2.2.2.2.1 k (by omega)) (enc_0 hk) rfl inkX0 (j := 9) (by decide) hl rfl hdg (kk H locs hw ls h)
theorem g_0_10 (X : CK S D C ad K cc n own) {k index : Nat} (hk : S.2.1 k = 0) (hl : Cond.fieldLink own index "FogNets$Coast" "owner" "[I" ∈ kW) (hdg : decode cc pc = .ok (.getfield index, 3)) (kk : WC S l D C ad R K n c0 s0 μ (pc + 3) lv (.ref (ad (k + 6)) :: st)) : WC S l D C ad R K n c0 s0 μ pc lv (.ref (ad k) :: st) :=
  fun H locs hw ls h => r_get X hw (X.2.2.2.2.2.2.2.2.1 k (by omega)) (enc_0 hk) rfl inkX0 (j := 10) (by decide) hl rfl hdg (kk H locs hw ls h)
theorem g_0_11 (X : CK S D C ad K cc n own) {k index : Nat} (hk : S.2.1 k = 0) (hl : Cond.fieldLink own index "FogNets$Coast" "hangDays" "[I" ∈ kW) (hdg : decode cc pc = .ok (.getfield index, 3)) (kk : WC S l D C ad R K n c0 s0 μ (pc + 3) lv (.ref (ad (k + 7)) :: st)) : WC S l D C ad R K n c0 s0 μ pc lv (.ref (ad k) :: st) :=
  fun H locs hw ls h => r_get X hw (X.2.2.2.2.2.2.2.2.1 k (by omega)) (enc_0 hk) rfl inkX0 (j := 11) (by decide) hl rfl hdg (kk H locs hw ls h)
theorem g_0_12 (X : CK S D C ad K cc n own) {k index : Nat} (hk : S.2.1 k = 0) (hl : Cond.fieldLink own index "FogNets$Coast" "uses" "[I" ∈ kW) (hdg : decode cc pc = .ok (.getfield index, 3)) (kk : WC S l D C ad R K n c0 s0 μ (pc + 3) lv (.ref (ad (k + 8)) :: st)) : WC S l D C ad R K n c0 s0 μ pc lv (.ref (ad k) :: st) :=
  fun H locs hw ls h => r_get X hw (X.2.2.2.2.2.2.2.2.1 k (by omega)) (enc_0 hk) rfl inkX0 (j := 12) (by decide) hl rfl hdg (kk H locs hw ls h)
theorem g_0_13 (X : CK S D C ad K cc n own) {k index : Nat} (hk : S.2.1 k = 0) (hl : Cond.fieldLink own index "FogNets$Coast" "goatCell" "[I" ∈ kW) (hdg : decode cc pc = .ok (.getfield index, 3)) (kk : WC S l D C ad R K n c0 s0 μ (pc + 3) lv (.ref (ad (k + 9)) :: st)) : WC S l D C ad R K n c0 s0 μ pc lv (.ref (ad k) :: st) :=
  fun H locs hw ls h => r_get X hw (X.2.2.2.2.2.2.2.2.1 k (by omega)) (enc_0 hk) rfl inkX0 (j := 13) (by decide) hl rfl hdg (kk H locs hw ls h)
theorem g_0_14 (X : CK S D C ad K cc n own) {k index : Nat} (hk : S.2.1 k = 0) (hl : Cond.fieldLink own index "FogNets$Coast" "goatDrinks" "[I" ∈ kW) (hdg : decode cc pc = .ok (.getfield index, 3)) (kk : WC S l D C ad R K n c0 s0 μ (pc + 3) lv (.ref (ad (k + 10)) :: st)) : WC S l D C ad R K n c0 s0 μ pc lv (.ref (ad k) :: st) :=
  fun H locs hw ls h => r_get X hw (X.2.2.2.2.2.2.2.2.1 k (by omega)) (enc_0 hk) rfl inkX0 (j := 14) (by decide) hl rfl hdg (kk H locs hw ls h)
theorem enc_1 {k : Nat} (h : S.2.1 k = 1) : enc S C ad μ k = .inr (1, [.ref (ad (k + 1)), .ref (ad (k + 2)), .ref (ad (k + 3)), .int (μ.1 k 3)]) := by simp only [enc, h]
theorem g_1_0 (X : CK S D C ad K cc n own) {k index : Nat} (hk : S.2.1 k = 1) (hl : Cond.fieldLink own index "FogNets$Notes" "posts" "[I" ∈ kW) (hdg : decode cc pc = .ok (.getfield index, 3)) (kk : WC S l D C ad R K n c0 s0 μ (pc + 3) lv (.ref (ad (k + 1)) :: st)) : WC S l D C ad R K n c0 s0 μ pc lv (.ref (ad k) :: st) :=
  fun H locs hw ls h => r_get X hw (X.2.2.2.2.2.2.2.2.1 k (by omega)) (enc_1 hk) rfl inkX1 (j := 0) (by decide) hl rfl hdg (kk H locs hw ls h)
theorem g_1_1 (X : CK S D C ad K cc n own) {k index : Nat} (hk : S.2.1 k = 1) (hl : Cond.fieldLink own index "FogNets$Notes" "sides" "[I" ∈ kW) (hdg : decode cc pc = .ok (.getfield index, 3)) (kk : WC S l D C ad R K n c0 s0 μ (pc + 3) lv (.ref (ad (k + 2)) :: st)) : WC S l D C ad R K n c0 s0 μ pc lv (.ref (ad k) :: st) :=
  fun H locs hw ls h => r_get X hw (X.2.2.2.2.2.2.2.2.1 k (by omega)) (enc_1 hk) rfl inkX1 (j := 1) (by decide) hl rfl hdg (kk H locs hw ls h)
theorem g_1_2 (X : CK S D C ad K cc n own) {k index : Nat} (hk : S.2.1 k = 1) (hl : Cond.fieldLink own index "FogNets$Notes" "amounts" "[I" ∈ kW) (hdg : decode cc pc = .ok (.getfield index, 3)) (kk : WC S l D C ad R K n c0 s0 μ (pc + 3) lv (.ref (ad (k + 3)) :: st)) : WC S l D C ad R K n c0 s0 μ pc lv (.ref (ad k) :: st) :=
  fun H locs hw ls h => r_get X hw (X.2.2.2.2.2.2.2.2.1 k (by omega)) (enc_1 hk) rfl inkX1 (j := 2) (by decide) hl rfl hdg (kk H locs hw ls h)
theorem g_1_3 (X : CK S D C ad K cc n own) {k index : Nat} (hk : S.2.1 k = 1) (hl : Cond.fieldLink own index "FogNets$Notes" "many" "I" ∈ kW) (hdg : decode cc pc = .ok (.getfield index, 3)) (kk : WC S l D C ad R K n c0 s0 μ (pc + 3) lv (.int (μ.1 k 3) :: st)) : WC S l D C ad R K n c0 s0 μ pc lv (.ref (ad k) :: st) :=
  fun H locs hw ls h => r_get X hw (X.2.2.2.2.2.2.2.2.1 k (by omega)) (enc_1 hk) rfl inkX1 (j := 3) (by decide) hl rfl hdg (kk H locs hw ls h)
theorem p_1_3 (X : CK S D C ad K cc n own) {k index : Nat} {x : Int32} (hk : S.2.1 k = 1) (hl : Cond.fieldLink own index "FogNets$Notes" "many" "I" ∈ kW) (hdg : decode cc pc = .ok (.putfield index, 3)) (kk : ∀ μ' : Mem, μ' = sI μ k 3 x → WC S l D C ad R K n c0 s0 μ' (pc + 3) lv st) : WC S l D C ad R K n c0 s0 μ pc lv (.int x :: .ref (ad k) :: st) :=
  fun H locs hw ls h => r_put X hw (μ' := sI μ k 3 x) (X.2.2.2.2.2.2.2.2.1 k (by omega)) (enc_1 hk) rfl inkX1 tyX1 tyX1_ok nmX1 (j := 3) (ty := .int) (by decide) hl rfl (by decide +kernel) rfl rfl (Nat.le_of_ble_eq_true rfl) (fun q => q) (by rw [enc_1 hk]; simp [sI, sA, upd]) (fun k2 q => sA_other q) hdg (fun H1 locs1 hw1 => kk _ rfl H1 locs1 hw1 ls h)
theorem enc_2 {k : Nat} (h : S.2.1 k = 2) : enc S C ad μ k = .inr (2, [.ref (ad (k + 1)), .int (μ.1 k 1), .int (μ.1 k 2)]) := by simp only [enc, h]
theorem g_2_0 (X : CK S D C ad K cc n own) {k index : Nat} (hk : S.2.1 k = 2) (hl : Cond.fieldLink own index "FogNets$Past" "ring" "[LFogNets$State;" ∈ kW) (hdg : decode cc pc = .ok (.getfield index, 3)) (kk : WC S l D C ad R K n c0 s0 μ (pc + 3) lv (.ref (ad (k + 1)) :: st)) : WC S l D C ad R K n c0 s0 μ pc lv (.ref (ad k) :: st) :=
  fun H locs hw ls h => r_get X hw (X.2.2.2.2.2.2.2.2.1 k (by omega)) (enc_2 hk) rfl inkX2 (j := 0) (by decide) hl rfl hdg (kk H locs hw ls h)
theorem g_2_1 (X : CK S D C ad K cc n own) {k index : Nat} (hk : S.2.1 k = 2) (hl : Cond.fieldLink own index "FogNets$Past" "oldest" "I" ∈ kW) (hdg : decode cc pc = .ok (.getfield index, 3)) (kk : WC S l D C ad R K n c0 s0 μ (pc + 3) lv (.int (μ.1 k 1) :: st)) : WC S l D C ad R K n c0 s0 μ pc lv (.ref (ad k) :: st) :=
  fun H locs hw ls h => r_get X hw (X.2.2.2.2.2.2.2.2.1 k (by omega)) (enc_2 hk) rfl inkX2 (j := 1) (by decide) hl rfl hdg (kk H locs hw ls h)
theorem p_2_1 (X : CK S D C ad K cc n own) {k index : Nat} {x : Int32} (hk : S.2.1 k = 2) (hl : Cond.fieldLink own index "FogNets$Past" "oldest" "I" ∈ kW) (hdg : decode cc pc = .ok (.putfield index, 3)) (kk : ∀ μ' : Mem, μ' = sI μ k 1 x → WC S l D C ad R K n c0 s0 μ' (pc + 3) lv st) : WC S l D C ad R K n c0 s0 μ pc lv (.int x :: .ref (ad k) :: st) :=
  fun H locs hw ls h => r_put X hw (μ' := sI μ k 1 x) (X.2.2.2.2.2.2.2.2.1 k (by omega)) (enc_2 hk) rfl inkX2 tyX2 tyX2_ok nmX2 (j := 1) (ty := .int) (by decide) hl rfl (by decide +kernel) rfl rfl (Nat.le_of_ble_eq_true rfl) (fun q => q) (by rw [enc_2 hk]; simp [sI, sA, upd]) (fun k2 q => sA_other q) hdg (fun H1 locs1 hw1 => kk _ rfl H1 locs1 hw1 ls h)
theorem g_2_2 (X : CK S D C ad K cc n own) {k index : Nat} (hk : S.2.1 k = 2) (hl : Cond.fieldLink own index "FogNets$Past" "many" "I" ∈ kW) (hdg : decode cc pc = .ok (.getfield index, 3)) (kk : WC S l D C ad R K n c0 s0 μ (pc + 3) lv (.int (μ.1 k 2) :: st)) : WC S l D C ad R K n c0 s0 μ pc lv (.ref (ad k) :: st) :=
  fun H locs hw ls h => r_get X hw (X.2.2.2.2.2.2.2.2.1 k (by omega)) (enc_2 hk) rfl inkX2 (j := 2) (by decide) hl rfl hdg (kk H locs hw ls h)
theorem p_2_2 (X : CK S D C ad K cc n own) {k index : Nat} {x : Int32} (hk : S.2.1 k = 2) (hl : Cond.fieldLink own index "FogNets$Past" "many" "I" ∈ kW) (hdg : decode cc pc = .ok (.putfield index, 3)) (kk : ∀ μ' : Mem, μ' = sI μ k 2 x → WC S l D C ad R K n c0 s0 μ' (pc + 3) lv st) : WC S l D C ad R K n c0 s0 μ pc lv (.int x :: .ref (ad k) :: st) :=
  fun H locs hw ls h => r_put X hw (μ' := sI μ k 2 x) (X.2.2.2.2.2.2.2.2.1 k (by omega)) (enc_2 hk) rfl inkX2 tyX2 tyX2_ok nmX2 (j := 2) (ty := .int) (by decide) hl rfl (by decide +kernel) rfl rfl (Nat.le_of_ble_eq_true rfl) (fun q => q) (by rw [enc_2 hk]; simp [sI, sA, upd]) (fun k2 q => sA_other q) hdg (fun H1 locs1 hw1 => kk _ rfl H1 locs1 hw1 ls h)
theorem enc_3 {k : Nat} (h : S.2.1 k = 3) : enc S C ad μ k = .inr (3, [.ref (ad (k + 1)), .int (μ.1 k 1), .int (μ.1 k 2), .int (μ.1 k 3), .int (μ.1 k 4), .int (μ.1 k 5), .int (μ.1 k 6), .int (μ.1 k 7)]) := by simp only [enc, h]
theorem g_3_0 (X : CK S D C ad K cc n own) {k index : Nat} (hk : S.2.1 k = 3) (hl : Cond.fieldLink own index "FogNets$Reader" "letters" "[I" ∈ kW) (hdg : decode cc pc = .ok (.getfield index, 3)) (kk : WC S l D C ad R K n c0 s0 μ (pc + 3) lv (.ref (ad (k + 1)) :: st)) : WC S l D C ad R K n c0 s0 μ pc lv (.ref (ad k) :: st) :=
  fun H locs hw ls h => r_get X hw (X.2.2.2.2.2.2.2.2.1 k (by omega)) (enc_3 hk) rfl inkX3 (j := 0) (by decide) hl rfl hdg (kk H locs hw ls h)
theorem g_3_1 (X : CK S D C ad K cc n own) {k index : Nat} (hk : S.2.1 k = 3) (hl : Cond.fieldLink own index "FogNets$Reader" "length" "I" ∈ kW) (hdg : decode cc pc = .ok (.getfield index, 3)) (kk : WC S l D C ad R K n c0 s0 μ (pc + 3) lv (.int (μ.1 k 1) :: st)) : WC S l D C ad R K n c0 s0 μ pc lv (.ref (ad k) :: st) :=
  fun H locs hw ls h => r_get X hw (X.2.2.2.2.2.2.2.2.1 k (by omega)) (enc_3 hk) rfl inkX3 (j := 1) (by decide) hl rfl hdg (kk H locs hw ls h)
theorem p_3_1 (X : CK S D C ad K cc n own) {k index : Nat} {x : Int32} (hk : S.2.1 k = 3) (hl : Cond.fieldLink own index "FogNets$Reader" "length" "I" ∈ kW) (hdg : decode cc pc = .ok (.putfield index, 3)) (kk : ∀ μ' : Mem, μ' = sI μ k 1 x → WC S l D C ad R K n c0 s0 μ' (pc + 3) lv st) : WC S l D C ad R K n c0 s0 μ pc lv (.int x :: .ref (ad k) :: st) :=
  fun H locs hw ls h => r_put X hw (μ' := sI μ k 1 x) (X.2.2.2.2.2.2.2.2.1 k (by omega)) (enc_3 hk) rfl inkX3 tyX3 tyX3_ok nmX3 (j := 1) (ty := .int) (by decide) hl rfl (by decide +kernel) rfl rfl (Nat.le_of_ble_eq_true rfl) (fun q => q) (by rw [enc_3 hk]; simp [sI, sA, upd]) (fun k2 q => sA_other q) hdg (fun H1 locs1 hw1 => kk _ rfl H1 locs1 hw1 ls h)
theorem g_3_2 (X : CK S D C ad K cc n own) {k index : Nat} (hk : S.2.1 k = 3) (hl : Cond.fieldLink own index "FogNets$Reader" "place" "I" ∈ kW) (hdg : decode cc pc = .ok (.getfield index, 3)) (kk : WC S l D C ad R K n c0 s0 μ (pc + 3) lv (.int (μ.1 k 2) :: st)) : WC S l D C ad R K n c0 s0 μ pc lv (.ref (ad k) :: st) :=
  fun H locs hw ls h => r_get X hw (X.2.2.2.2.2.2.2.2.1 k (by omega)) (enc_3 hk) rfl inkX3 (j := 2) (by decide) hl rfl hdg (kk H locs hw ls h)
theorem p_3_2 (X : CK S D C ad K cc n own) {k index : Nat} {x : Int32} (hk : S.2.1 k = 3) (hl : Cond.fieldLink own index "FogNets$Reader" "place" "I" ∈ kW) (hdg : decode cc pc = .ok (.putfield index, 3)) (kk : ∀ μ' : Mem, μ' = sI μ k 2 x → WC S l D C ad R K n c0 s0 μ' (pc + 3) lv st) : WC S l D C ad R K n c0 s0 μ pc lv (.int x :: .ref (ad k) :: st) :=
  fun H locs hw ls h => r_put X hw (μ' := sI μ k 2 x) (X.2.2.2.2.2.2.2.2.1 k (by omega)) (enc_3 hk) rfl inkX3 tyX3 tyX3_ok nmX3 (j := 2) (ty := .int) (by decide) hl rfl (by decide +kernel) rfl rfl (Nat.le_of_ble_eq_true rfl) (fun q => q) (by rw [enc_3 hk]; simp [sI, sA, upd]) (fun k2 q => sA_other q) hdg (fun H1 locs1 hw1 => kk _ rfl H1 locs1 hw1 ls h)
theorem g_3_3 (X : CK S D C ad K cc n own) {k index : Nat} (hk : S.2.1 k = 3) (hl : Cond.fieldLink own index "FogNets$Reader" "numberPlace" "I" ∈ kW) (hdg : decode cc pc = .ok (.getfield index, 3)) (kk : WC S l D C ad R K n c0 s0 μ (pc + 3) lv (.int (μ.1 k 3) :: st)) : WC S l D C ad R K n c0 s0 μ pc lv (.ref (ad k) :: st) :=
  fun H locs hw ls h => r_get X hw (X.2.2.2.2.2.2.2.2.1 k (by omega)) (enc_3 hk) rfl inkX3 (j := 3) (by decide) hl rfl hdg (kk H locs hw ls h)
theorem p_3_3 (X : CK S D C ad K cc n own) {k index : Nat} {x : Int32} (hk : S.2.1 k = 3) (hl : Cond.fieldLink own index "FogNets$Reader" "numberPlace" "I" ∈ kW) (hdg : decode cc pc = .ok (.putfield index, 3)) (kk : ∀ μ' : Mem, μ' = sI μ k 3 x → WC S l D C ad R K n c0 s0 μ' (pc + 3) lv st) : WC S l D C ad R K n c0 s0 μ pc lv (.int x :: .ref (ad k) :: st) :=
  fun H locs hw ls h => r_put X hw (μ' := sI μ k 3 x) (X.2.2.2.2.2.2.2.2.1 k (by omega)) (enc_3 hk) rfl inkX3 tyX3 tyX3_ok nmX3 (j := 3) (ty := .int) (by decide) hl rfl (by decide +kernel) rfl rfl (Nat.le_of_ble_eq_true rfl) (fun q => q) (by rw [enc_3 hk]; simp [sI, sA, upd]) (fun k2 q => sA_other q) hdg (fun H1 locs1 hw1 => kk _ rfl H1 locs1 hw1 ls h)
theorem g_3_4 (X : CK S D C ad K cc n own) {k index : Nat} (hk : S.2.1 k = 3) (hl : Cond.fieldLink own index "FogNets$Reader" "fault" "I" ∈ kW) (hdg : decode cc pc = .ok (.getfield index, 3)) (kk : WC S l D C ad R K n c0 s0 μ (pc + 3) lv (.int (μ.1 k 4) :: st)) : WC S l D C ad R K n c0 s0 μ pc lv (.ref (ad k) :: st) :=
  fun H locs hw ls h => r_get X hw (X.2.2.2.2.2.2.2.2.1 k (by omega)) (enc_3 hk) rfl inkX3 (j := 4) (by decide) hl rfl hdg (kk H locs hw ls h)
theorem p_3_4 (X : CK S D C ad K cc n own) {k index : Nat} {x : Int32} (hk : S.2.1 k = 3) (hl : Cond.fieldLink own index "FogNets$Reader" "fault" "I" ∈ kW) (hdg : decode cc pc = .ok (.putfield index, 3)) (kk : ∀ μ' : Mem, μ' = sI μ k 4 x → WC S l D C ad R K n c0 s0 μ' (pc + 3) lv st) : WC S l D C ad R K n c0 s0 μ pc lv (.int x :: .ref (ad k) :: st) :=
  fun H locs hw ls h => r_put X hw (μ' := sI μ k 4 x) (X.2.2.2.2.2.2.2.2.1 k (by omega)) (enc_3 hk) rfl inkX3 tyX3 tyX3_ok nmX3 (j := 4) (ty := .int) (by decide) hl rfl (by decide +kernel) rfl rfl (Nat.le_of_ble_eq_true rfl) (fun q => q) (by rw [enc_3 hk]; simp [sI, sA, upd]) (fun k2 q => sA_other q) hdg (fun H1 locs1 hw1 => kk _ rfl H1 locs1 hw1 ls h)
theorem g_3_5 (X : CK S D C ad K cc n own) {k index : Nat} (hk : S.2.1 k = 3) (hl : Cond.fieldLink own index "FogNets$Reader" "faultPlace" "I" ∈ kW) (hdg : decode cc pc = .ok (.getfield index, 3)) (kk : WC S l D C ad R K n c0 s0 μ (pc + 3) lv (.int (μ.1 k 5) :: st)) : WC S l D C ad R K n c0 s0 μ pc lv (.ref (ad k) :: st) :=
  fun H locs hw ls h => r_get X hw (X.2.2.2.2.2.2.2.2.1 k (by omega)) (enc_3 hk) rfl inkX3 (j := 5) (by decide) hl rfl hdg (kk H locs hw ls h)
theorem p_3_5 (X : CK S D C ad K cc n own) {k index : Nat} {x : Int32} (hk : S.2.1 k = 3) (hl : Cond.fieldLink own index "FogNets$Reader" "faultPlace" "I" ∈ kW) (hdg : decode cc pc = .ok (.putfield index, 3)) (kk : ∀ μ' : Mem, μ' = sI μ k 5 x → WC S l D C ad R K n c0 s0 μ' (pc + 3) lv st) : WC S l D C ad R K n c0 s0 μ pc lv (.int x :: .ref (ad k) :: st) :=
  fun H locs hw ls h => r_put X hw (μ' := sI μ k 5 x) (X.2.2.2.2.2.2.2.2.1 k (by omega)) (enc_3 hk) rfl inkX3 tyX3 tyX3_ok nmX3 (j := 5) (ty := .int) (by decide) hl rfl (by decide +kernel) rfl rfl (Nat.le_of_ble_eq_true rfl) (fun q => q) (by rw [enc_3 hk]; simp [sI, sA, upd]) (fun k2 q => sA_other q) hdg (fun H1 locs1 hw1 => kk _ rfl H1 locs1 hw1 ls h)
theorem g_3_6 (X : CK S D C ad K cc n own) {k index : Nat} (hk : S.2.1 k = 3) (hl : Cond.fieldLink own index "FogNets$Reader" "daysTold" "Z" ∈ kW) (hdg : decode cc pc = .ok (.getfield index, 3)) (kk : WC S l D C ad R K n c0 s0 μ (pc + 3) lv (.int (μ.1 k 6) :: st)) : WC S l D C ad R K n c0 s0 μ pc lv (.ref (ad k) :: st) :=
  fun H locs hw ls h => r_get X hw (X.2.2.2.2.2.2.2.2.1 k (by omega)) (enc_3 hk) rfl inkX3 (j := 6) (by decide) hl rfl hdg (kk H locs hw ls h)
theorem p_3_6 (X : CK S D C ad K cc n own) {k index : Nat} {x : Int32} (hk : S.2.1 k = 3) (h01 : x = 0 ∨ x = 1) (hl : Cond.fieldLink own index "FogNets$Reader" "daysTold" "Z" ∈ kW) (hdg : decode cc pc = .ok (.putfield index, 3)) (kk : ∀ μ' : Mem, μ' = sI μ k 6 x → WC S l D C ad R K n c0 s0 μ' (pc + 3) lv st) : WC S l D C ad R K n c0 s0 μ pc lv (.int x :: .ref (ad k) :: st) :=
  fun H locs hw ls h => r_put X hw (μ' := sI μ k 6 x) (X.2.2.2.2.2.2.2.2.1 k (by omega)) (enc_3 hk) rfl inkX3 tyX3 tyX3_ok nmX3 (j := 6) (ty := .boolean) (by decide) hl rfl (by decide +kernel) (nar_z h01).2.1 (nar_z h01).2.2 (Nat.le_of_ble_eq_true rfl) (fun q => q) (by rw [enc_3 hk]; simp [sI, sA, upd]) (fun k2 q => sA_other q) hdg (fun H1 locs1 hw1 => kk _ rfl H1 locs1 hw1 ls h)
theorem g_3_7 (X : CK S D C ad K cc n own) {k index : Nat} (hk : S.2.1 k = 3) (hl : Cond.fieldLink own index "FogNets$Reader" "usesTold" "Z" ∈ kW) (hdg : decode cc pc = .ok (.getfield index, 3)) (kk : WC S l D C ad R K n c0 s0 μ (pc + 3) lv (.int (μ.1 k 7) :: st)) : WC S l D C ad R K n c0 s0 μ pc lv (.ref (ad k) :: st) :=
  fun H locs hw ls h => r_get X hw (X.2.2.2.2.2.2.2.2.1 k (by omega)) (enc_3 hk) rfl inkX3 (j := 7) (by decide) hl rfl hdg (kk H locs hw ls h)
theorem p_3_7 (X : CK S D C ad K cc n own) {k index : Nat} {x : Int32} (hk : S.2.1 k = 3) (h01 : x = 0 ∨ x = 1) (hl : Cond.fieldLink own index "FogNets$Reader" "usesTold" "Z" ∈ kW) (hdg : decode cc pc = .ok (.putfield index, 3)) (kk : ∀ μ' : Mem, μ' = sI μ k 7 x → WC S l D C ad R K n c0 s0 μ' (pc + 3) lv st) : WC S l D C ad R K n c0 s0 μ pc lv (.int x :: .ref (ad k) :: st) :=
  fun H locs hw ls h => r_put X hw (μ' := sI μ k 7 x) (X.2.2.2.2.2.2.2.2.1 k (by omega)) (enc_3 hk) rfl inkX3 tyX3 tyX3_ok nmX3 (j := 7) (ty := .boolean) (by decide) hl rfl (by decide +kernel) (nar_z h01).2.1 (nar_z h01).2.2 (Nat.le_of_ble_eq_true rfl) (fun q => q) (by rw [enc_3 hk]; simp [sI, sA, upd]) (fun k2 q => sA_other q) hdg (fun H1 locs1 hw1 => kk _ rfl H1 locs1 hw1 ls h)
theorem enc_4 {k : Nat} (h : S.2.1 k = 4) : enc S C ad μ k = .inr (4, [.int (μ.1 k 0), .int (μ.1 k 1), .int (μ.1 k 2), .int (μ.1 k 3), .int (μ.1 k 4), .ref (ad (k + 1)), .ref (ad (k + 2)), .ref (ad (k + 3)), .ref (ad (k + 4)), .ref (ad (k + 5))]) := by simp only [enc, h]
theorem g_4_0 (X : CK S D C ad K cc n own) {k index : Nat} (hk : S.2.1 k = 4) (hl : Cond.fieldLink own index "FogNets$State" "days" "I" ∈ kW) (hdg : decode cc pc = .ok (.getfield index, 3)) (kk : WC S l D C ad R K n c0 s0 μ (pc + 3) lv (.int (μ.1 k 0) :: st)) : WC S l D C ad R K n c0 s0 μ pc lv (.ref (ad k) :: st) :=
  fun H locs hw ls h => r_get X hw (X.2.2.2.2.2.2.2.2.1 k (by omega)) (enc_4 hk) rfl inkX4 (j := 0) (by decide) hl rfl hdg (kk H locs hw ls h)
theorem p_4_0 (X : CK S D C ad K cc n own) {k index : Nat} {x : Int32} (hk : S.2.1 k = 4) (hl : Cond.fieldLink own index "FogNets$State" "days" "I" ∈ kW) (hdg : decode cc pc = .ok (.putfield index, 3)) (kk : ∀ μ' : Mem, μ' = sI μ k 0 x → WC S l D C ad R K n c0 s0 μ' (pc + 3) lv st) : WC S l D C ad R K n c0 s0 μ pc lv (.int x :: .ref (ad k) :: st) :=
  fun H locs hw ls h => r_put X hw (μ' := sI μ k 0 x) (X.2.2.2.2.2.2.2.2.1 k (by omega)) (enc_4 hk) rfl inkX4 tyX4 tyX4_ok nmX4 (j := 0) (ty := .int) (by decide) hl rfl (by decide +kernel) rfl rfl (Nat.le_of_ble_eq_true rfl) (fun q => q) (by rw [enc_4 hk]; simp [sI, sA, upd]) (fun k2 q => sA_other q) hdg (fun H1 locs1 hw1 => kk _ rfl H1 locs1 hw1 ls h)
theorem g_4_1 (X : CK S D C ad K cc n own) {k index : Nat} (hk : S.2.1 k = 4) (hl : Cond.fieldLink own index "FogNets$State" "hour" "I" ∈ kW) (hdg : decode cc pc = .ok (.getfield index, 3)) (kk : WC S l D C ad R K n c0 s0 μ (pc + 3) lv (.int (μ.1 k 1) :: st)) : WC S l D C ad R K n c0 s0 μ pc lv (.ref (ad k) :: st) :=
  fun H locs hw ls h => r_get X hw (X.2.2.2.2.2.2.2.2.1 k (by omega)) (enc_4 hk) rfl inkX4 (j := 1) (by decide) hl rfl hdg (kk H locs hw ls h)
theorem p_4_1 (X : CK S D C ad K cc n own) {k index : Nat} {x : Int32} (hk : S.2.1 k = 4) (hl : Cond.fieldLink own index "FogNets$State" "hour" "I" ∈ kW) (hdg : decode cc pc = .ok (.putfield index, 3)) (kk : ∀ μ' : Mem, μ' = sI μ k 1 x → WC S l D C ad R K n c0 s0 μ' (pc + 3) lv st) : WC S l D C ad R K n c0 s0 μ pc lv (.int x :: .ref (ad k) :: st) :=
  fun H locs hw ls h => r_put X hw (μ' := sI μ k 1 x) (X.2.2.2.2.2.2.2.2.1 k (by omega)) (enc_4 hk) rfl inkX4 tyX4 tyX4_ok nmX4 (j := 1) (ty := .int) (by decide) hl rfl (by decide +kernel) rfl rfl (Nat.le_of_ble_eq_true rfl) (fun q => q) (by rw [enc_4 hk]; simp [sI, sA, upd]) (fun k2 q => sA_other q) hdg (fun H1 locs1 hw1 => kk _ rfl H1 locs1 hw1 ls h)
theorem g_4_2 (X : CK S D C ad K cc n own) {k index : Nat} (hk : S.2.1 k = 4) (hl : Cond.fieldLink own index "FogNets$State" "lit" "Z" ∈ kW) (hdg : decode cc pc = .ok (.getfield index, 3)) (kk : WC S l D C ad R K n c0 s0 μ (pc + 3) lv (.int (μ.1 k 2) :: st)) : WC S l D C ad R K n c0 s0 μ pc lv (.ref (ad k) :: st) :=
  fun H locs hw ls h => r_get X hw (X.2.2.2.2.2.2.2.2.1 k (by omega)) (enc_4 hk) rfl inkX4 (j := 2) (by decide) hl rfl hdg (kk H locs hw ls h)
theorem p_4_2 (X : CK S D C ad K cc n own) {k index : Nat} {x : Int32} (hk : S.2.1 k = 4) (h01 : x = 0 ∨ x = 1) (hl : Cond.fieldLink own index "FogNets$State" "lit" "Z" ∈ kW) (hdg : decode cc pc = .ok (.putfield index, 3)) (kk : ∀ μ' : Mem, μ' = sI μ k 2 x → WC S l D C ad R K n c0 s0 μ' (pc + 3) lv st) : WC S l D C ad R K n c0 s0 μ pc lv (.int x :: .ref (ad k) :: st) :=
  fun H locs hw ls h => r_put X hw (μ' := sI μ k 2 x) (X.2.2.2.2.2.2.2.2.1 k (by omega)) (enc_4 hk) rfl inkX4 tyX4 tyX4_ok nmX4 (j := 2) (ty := .boolean) (by decide) hl rfl (by decide +kernel) (nar_z h01).2.1 (nar_z h01).2.2 (Nat.le_of_ble_eq_true rfl) (fun q => q) (by rw [enc_4 hk]; simp [sI, sA, upd]) (fun k2 q => sA_other q) hdg (fun H1 locs1 hw1 => kk _ rfl H1 locs1 hw1 ls h)
theorem g_4_3 (X : CK S D C ad K cc n own) {k index : Nat} (hk : S.2.1 k = 4) (hl : Cond.fieldLink own index "FogNets$State" "spilled" "I" ∈ kW) (hdg : decode cc pc = .ok (.getfield index, 3)) (kk : WC S l D C ad R K n c0 s0 μ (pc + 3) lv (.int (μ.1 k 3) :: st)) : WC S l D C ad R K n c0 s0 μ pc lv (.ref (ad k) :: st) :=
  fun H locs hw ls h => r_get X hw (X.2.2.2.2.2.2.2.2.1 k (by omega)) (enc_4 hk) rfl inkX4 (j := 3) (by decide) hl rfl hdg (kk H locs hw ls h)
theorem p_4_3 (X : CK S D C ad K cc n own) {k index : Nat} {x : Int32} (hk : S.2.1 k = 4) (hl : Cond.fieldLink own index "FogNets$State" "spilled" "I" ∈ kW) (hdg : decode cc pc = .ok (.putfield index, 3)) (kk : ∀ μ' : Mem, μ' = sI μ k 3 x → WC S l D C ad R K n c0 s0 μ' (pc + 3) lv st) : WC S l D C ad R K n c0 s0 μ pc lv (.int x :: .ref (ad k) :: st) :=
  fun H locs hw ls h => r_put X hw (μ' := sI μ k 3 x) (X.2.2.2.2.2.2.2.2.1 k (by omega)) (enc_4 hk) rfl inkX4 tyX4 tyX4_ok nmX4 (j := 3) (ty := .int) (by decide) hl rfl (by decide +kernel) rfl rfl (Nat.le_of_ble_eq_true rfl) (fun q => q) (by rw [enc_4 hk]; simp [sI, sA, upd]) (fun k2 q => sA_other q) hdg (fun H1 locs1 hw1 => kk _ rfl H1 locs1 hw1 ls h)
theorem g_4_4 (X : CK S D C ad K cc n own) {k index : Nat} (hk : S.2.1 k = 4) (hl : Cond.fieldLink own index "FogNets$State" "drunk" "I" ∈ kW) (hdg : decode cc pc = .ok (.getfield index, 3)) (kk : WC S l D C ad R K n c0 s0 μ (pc + 3) lv (.int (μ.1 k 4) :: st)) : WC S l D C ad R K n c0 s0 μ pc lv (.ref (ad k) :: st) :=
  fun H locs hw ls h => r_get X hw (X.2.2.2.2.2.2.2.2.1 k (by omega)) (enc_4 hk) rfl inkX4 (j := 4) (by decide) hl rfl hdg (kk H locs hw ls h)
theorem p_4_4 (X : CK S D C ad K cc n own) {k index : Nat} {x : Int32} (hk : S.2.1 k = 4) (hl : Cond.fieldLink own index "FogNets$State" "drunk" "I" ∈ kW) (hdg : decode cc pc = .ok (.putfield index, 3)) (kk : ∀ μ' : Mem, μ' = sI μ k 4 x → WC S l D C ad R K n c0 s0 μ' (pc + 3) lv st) : WC S l D C ad R K n c0 s0 μ pc lv (.int x :: .ref (ad k) :: st) :=
  fun H locs hw ls h => r_put X hw (μ' := sI μ k 4 x) (X.2.2.2.2.2.2.2.2.1 k (by omega)) (enc_4 hk) rfl inkX4 tyX4 tyX4_ok nmX4 (j := 4) (ty := .int) (by decide) hl rfl (by decide +kernel) rfl rfl (Nat.le_of_ble_eq_true rfl) (fun q => q) (by rw [enc_4 hk]; simp [sI, sA, upd]) (fun k2 q => sA_other q) hdg (fun H1 locs1 hw1 => kk _ rfl H1 locs1 hw1 ls h)
theorem g_4_5 (X : CK S D C ad K cc n own) {k index : Nat} (hk : S.2.1 k = 4) (hl : Cond.fieldLink own index "FogNets$State" "cell" "[I" ∈ kW) (hdg : decode cc pc = .ok (.getfield index, 3)) (kk : WC S l D C ad R K n c0 s0 μ (pc + 3) lv (.ref (ad (k + 1)) :: st)) : WC S l D C ad R K n c0 s0 μ pc lv (.ref (ad k) :: st) :=
  fun H locs hw ls h => r_get X hw (X.2.2.2.2.2.2.2.2.1 k (by omega)) (enc_4 hk) rfl inkX4 (j := 5) (by decide) hl rfl hdg (kk H locs hw ls h)
theorem g_4_6 (X : CK S D C ad K cc n own) {k index : Nat} (hk : S.2.1 k = 4) (hl : Cond.fieldLink own index "FogNets$State" "mesh" "[I" ∈ kW) (hdg : decode cc pc = .ok (.getfield index, 3)) (kk : WC S l D C ad R K n c0 s0 μ (pc + 3) lv (.ref (ad (k + 2)) :: st)) : WC S l D C ad R K n c0 s0 μ pc lv (.ref (ad k) :: st) :=
  fun H locs hw ls h => r_get X hw (X.2.2.2.2.2.2.2.2.1 k (by omega)) (enc_4 hk) rfl inkX4 (j := 6) (by decide) hl rfl hdg (kk H locs hw ls h)
theorem g_4_7 (X : CK S D C ad K cc n own) {k index : Nat} (hk : S.2.1 k = 4) (hl : Cond.fieldLink own index "FogNets$State" "jar" "[I" ∈ kW) (hdg : decode cc pc = .ok (.getfield index, 3)) (kk : WC S l D C ad R K n c0 s0 μ (pc + 3) lv (.ref (ad (k + 3)) :: st)) : WC S l D C ad R K n c0 s0 μ pc lv (.ref (ad k) :: st) :=
  fun H locs hw ls h => r_get X hw (X.2.2.2.2.2.2.2.2.1 k (by omega)) (enc_4 hk) rfl inkX4 (j := 7) (by decide) hl rfl hdg (kk H locs hw ls h)
theorem g_4_8 (X : CK S D C ad K cc n own) {k index : Nat} (hk : S.2.1 k = 4) (hl : Cond.fieldLink own index "FogNets$State" "cistern" "[I" ∈ kW) (hdg : decode cc pc = .ok (.getfield index, 3)) (kk : WC S l D C ad R K n c0 s0 μ (pc + 3) lv (.ref (ad (k + 4)) :: st)) : WC S l D C ad R K n c0 s0 μ pc lv (.ref (ad k) :: st) :=
  fun H locs hw ls h => r_get X hw (X.2.2.2.2.2.2.2.2.1 k (by omega)) (enc_4 hk) rfl inkX4 (j := 8) (by decide) hl rfl hdg (kk H locs hw ls h)
theorem g_4_9 (X : CK S D C ad K cc n own) {k index : Nat} (hk : S.2.1 k = 4) (hl : Cond.fieldLink own index "FogNets$State" "thirst" "[I" ∈ kW) (hdg : decode cc pc = .ok (.getfield index, 3)) (kk : WC S l D C ad R K n c0 s0 μ (pc + 3) lv (.ref (ad (k + 5)) :: st)) : WC S l D C ad R K n c0 s0 μ pc lv (.ref (ad k) :: st) :=
  fun H locs hw ls h => r_get X hw (X.2.2.2.2.2.2.2.2.1 k (by omega)) (enc_4 hk) rfl inkX4 (j := 9) (by decide) hl rfl hdg (kk H locs hw ls h)
theorem enc_5 {k : Nat} (h : S.2.1 k = 5) : enc S C ad μ k = .inr (5, [.ref (ad (k + 1)), .ref (ad (k + 2)), .int (μ.1 k 2)]) := by simp only [enc, h]
theorem g_5_0 (X : CK S D C ad K cc n own) {k index : Nat} (hk : S.2.1 k = 5) (hl : Cond.fieldLink own index "FogNets$Wind" "took" "[I" ∈ kW) (hdg : decode cc pc = .ok (.getfield index, 3)) (kk : WC S l D C ad R K n c0 s0 μ (pc + 3) lv (.ref (ad (k + 1)) :: st)) : WC S l D C ad R K n c0 s0 μ pc lv (.ref (ad k) :: st) :=
  fun H locs hw ls h => r_get X hw (X.2.2.2.2.2.2.2.2.1 k (by omega)) (enc_5 hk) rfl inkX5 (j := 0) (by decide) hl rfl hdg (kk H locs hw ls h)
theorem g_5_1 (X : CK S D C ad K cc n own) {k index : Nat} (hk : S.2.1 k = 5) (hl : Cond.fieldLink own index "FogNets$Wind" "order" "[I" ∈ kW) (hdg : decode cc pc = .ok (.getfield index, 3)) (kk : WC S l D C ad R K n c0 s0 μ (pc + 3) lv (.ref (ad (k + 2)) :: st)) : WC S l D C ad R K n c0 s0 μ pc lv (.ref (ad k) :: st) :=
  fun H locs hw ls h => r_get X hw (X.2.2.2.2.2.2.2.2.1 k (by omega)) (enc_5 hk) rfl inkX5 (j := 1) (by decide) hl rfl hdg (kk H locs hw ls h)
theorem g_5_2 (X : CK S D C ad K cc n own) {k index : Nat} (hk : S.2.1 k = 5) (hl : Cond.fieldLink own index "FogNets$Wind" "beyond" "I" ∈ kW) (hdg : decode cc pc = .ok (.getfield index, 3)) (kk : WC S l D C ad R K n c0 s0 μ (pc + 3) lv (.int (μ.1 k 2) :: st)) : WC S l D C ad R K n c0 s0 μ pc lv (.ref (ad k) :: st) :=
  fun H locs hw ls h => r_get X hw (X.2.2.2.2.2.2.2.2.1 k (by omega)) (enc_5 hk) rfl inkX5 (j := 2) (by decide) hl rfl hdg (kk H locs hw ls h)
theorem p_5_2 (X : CK S D C ad K cc n own) {k index : Nat} {x : Int32} (hk : S.2.1 k = 5) (hl : Cond.fieldLink own index "FogNets$Wind" "beyond" "I" ∈ kW) (hdg : decode cc pc = .ok (.putfield index, 3)) (kk : ∀ μ' : Mem, μ' = sI μ k 2 x → WC S l D C ad R K n c0 s0 μ' (pc + 3) lv st) : WC S l D C ad R K n c0 s0 μ pc lv (.int x :: .ref (ad k) :: st) :=
  fun H locs hw ls h => r_put X hw (μ' := sI μ k 2 x) (X.2.2.2.2.2.2.2.2.1 k (by omega)) (enc_5 hk) rfl inkX5 tyX5 tyX5_ok nmX5 (j := 2) (ty := .int) (by decide) hl rfl (by decide +kernel) rfl rfl (Nat.le_of_ble_eq_true rfl) (fun q => q) (by rw [enc_5 hk]; simp [sI, sA, upd]) (fun k2 q => sA_other q) hdg (fun H1 locs1 hw1 => kk _ rfl H1 locs1 hw1 ls h)
theorem enc_6 {k : Nat} (h : S.2.1 k = 6) : enc S C ad μ k = .inr (6, [.ref (ad 1), .ref (ad (μ.2.2 0)), .ref (ad (μ.2.2 1)), .ref (ad 25), .ref (ad 31), .ref (ad 37), .ref (ad 38), .ref (ad 41), .ref (ad 223), .ref (ad 236), .int (μ.1 k 10), .ref (ad 237), .ref (ad 241), .ref (ad 245)]) := by simp only [enc, h]
theorem g_6_0 (X : CK S D C ad K cc n own) {k index : Nat} (hk : S.2.1 k = 6) (hl : Cond.fieldLink own index "FogNets" "reader" "LFogNets$Reader;" ∈ kW) (hdg : decode cc pc = .ok (.getfield index, 3)) (kk : WC S l D C ad R K n c0 s0 μ (pc + 3) lv (.ref (ad 1) :: st)) : WC S l D C ad R K n c0 s0 μ pc lv (.ref (ad k) :: st) :=
  fun H locs hw ls h => r_get X hw (X.2.2.2.2.2.2.2.2.1 k (by omega)) (enc_6 hk) rfl inkX6 (j := 0) (by decide) hl rfl hdg (kk H locs hw ls h)
theorem g_6_1 (X : CK S D C ad K cc n own) {k index : Nat} (hk : S.2.1 k = 6) (hl : Cond.fieldLink own index "FogNets" "ridge" "LFogNets$Coast;" ∈ kW) (hdg : decode cc pc = .ok (.getfield index, 3)) (kk : WC S l D C ad R K n c0 s0 μ (pc + 3) lv (.ref (ad (μ.2.2 0)) :: st)) : WC S l D C ad R K n c0 s0 μ pc lv (.ref (ad k) :: st) :=
  fun H locs hw ls h => r_get X hw (X.2.2.2.2.2.2.2.2.1 k (by omega)) (enc_6 hk) rfl inkX6 (j := 1) (by decide) hl rfl hdg (kk H locs hw ls h)
theorem p_6_1 (X : CK sF D C ad K cc n own) {index : Nat} {x : Nat} (hx : sF.2.1 x = 0) (hl : Cond.fieldLink own index "FogNets" "ridge" "LFogNets$Coast;" ∈ kW) (hdg : decode cc pc = .ok (.putfield index, 3)) (kk : ∀ μ' : Mem, μ' = sR μ 0 x → WC sF l D C ad R K n c0 s0 μ' (pc + 3) lv st) : WC sF l D C ad R K n c0 s0 μ pc lv (.ref (ad x) :: .ref (ad 0) :: st) :=
  fun H locs hw ls h => r_put X hw (μ' := sR μ 0 x) (X.2.2.2.2.2.2.2.2.1 0 (by rw [kF_0]; omega)) (enc_6 kF_0) rfl inkX6 tyX6 tyX6_ok nmX6 (j := 1) (ty := .object "FogNets$Coast") (by decide) hl rfl (by decide +kernel) rfl rfl (Nat.le_of_ble_eq_true rfl) (fun q => by have q := q kF_0; intro _; simp [sR, hx, q.1, q.2]) (by rw [enc_6 kF_0]; simp [sR]) (sR_other) hdg (fun H1 locs1 hw1 => kk _ rfl H1 locs1 hw1 ls h)
theorem g_6_2 (X : CK S D C ad K cc n own) {k index : Nat} (hk : S.2.1 k = 6) (hl : Cond.fieldLink own index "FogNets" "draft" "LFogNets$Coast;" ∈ kW) (hdg : decode cc pc = .ok (.getfield index, 3)) (kk : WC S l D C ad R K n c0 s0 μ (pc + 3) lv (.ref (ad (μ.2.2 1)) :: st)) : WC S l D C ad R K n c0 s0 μ pc lv (.ref (ad k) :: st) :=
  fun H locs hw ls h => r_get X hw (X.2.2.2.2.2.2.2.2.1 k (by omega)) (enc_6 hk) rfl inkX6 (j := 2) (by decide) hl rfl hdg (kk H locs hw ls h)
theorem p_6_2 (X : CK sF D C ad K cc n own) {index : Nat} {x : Nat} (hx : sF.2.1 x = 0) (hl : Cond.fieldLink own index "FogNets" "draft" "LFogNets$Coast;" ∈ kW) (hdg : decode cc pc = .ok (.putfield index, 3)) (kk : ∀ μ' : Mem, μ' = sR μ 1 x → WC sF l D C ad R K n c0 s0 μ' (pc + 3) lv st) : WC sF l D C ad R K n c0 s0 μ pc lv (.ref (ad x) :: .ref (ad 0) :: st) :=
  fun H locs hw ls h => r_put X hw (μ' := sR μ 1 x) (X.2.2.2.2.2.2.2.2.1 0 (by rw [kF_0]; omega)) (enc_6 kF_0) rfl inkX6 tyX6 tyX6_ok nmX6 (j := 2) (ty := .object "FogNets$Coast") (by decide) hl rfl (by decide +kernel) rfl rfl (Nat.le_of_ble_eq_true rfl) (fun q => by have q := q kF_0; intro _; simp [sR, hx, q.1, q.2]) (by rw [enc_6 kF_0]; simp [sR]) (sR_other) hdg (fun H1 locs1 hw1 => kk _ rfl H1 locs1 hw1 ls h)
theorem g_6_3 (X : CK S D C ad K cc n own) {k index : Nat} (hk : S.2.1 k = 6) (hl : Cond.fieldLink own index "FogNets" "now" "LFogNets$State;" ∈ kW) (hdg : decode cc pc = .ok (.getfield index, 3)) (kk : WC S l D C ad R K n c0 s0 μ (pc + 3) lv (.ref (ad 25) :: st)) : WC S l D C ad R K n c0 s0 μ pc lv (.ref (ad k) :: st) :=
  fun H locs hw ls h => r_get X hw (X.2.2.2.2.2.2.2.2.1 k (by omega)) (enc_6 hk) rfl inkX6 (j := 3) (by decide) hl rfl hdg (kk H locs hw ls h)
theorem g_6_4 (X : CK S D C ad K cc n own) {k index : Nat} (hk : S.2.1 k = 6) (hl : Cond.fieldLink own index "FogNets" "trial" "LFogNets$State;" ∈ kW) (hdg : decode cc pc = .ok (.getfield index, 3)) (kk : WC S l D C ad R K n c0 s0 μ (pc + 3) lv (.ref (ad 31) :: st)) : WC S l D C ad R K n c0 s0 μ pc lv (.ref (ad k) :: st) :=
  fun H locs hw ls h => r_get X hw (X.2.2.2.2.2.2.2.2.1 k (by omega)) (enc_6 hk) rfl inkX6 (j := 4) (by decide) hl rfl hdg (kk H locs hw ls h)
theorem g_6_5 (X : CK S D C ad K cc n own) {k index : Nat} (hk : S.2.1 k = 6) (hl : Cond.fieldLink own index "FogNets" "hauls" "[I" ∈ kW) (hdg : decode cc pc = .ok (.getfield index, 3)) (kk : WC S l D C ad R K n c0 s0 μ (pc + 3) lv (.ref (ad 37) :: st)) : WC S l D C ad R K n c0 s0 μ pc lv (.ref (ad k) :: st) :=
  fun H locs hw ls h => r_get X hw (X.2.2.2.2.2.2.2.2.1 k (by omega)) (enc_6 hk) rfl inkX6 (j := 5) (by decide) hl rfl hdg (kk H locs hw ls h)
theorem g_6_6 (X : CK S D C ad K cc n own) {k index : Nat} (hk : S.2.1 k = 6) (hl : Cond.fieldLink own index "FogNets" "wind" "LFogNets$Wind;" ∈ kW) (hdg : decode cc pc = .ok (.getfield index, 3)) (kk : WC S l D C ad R K n c0 s0 μ (pc + 3) lv (.ref (ad 38) :: st)) : WC S l D C ad R K n c0 s0 μ pc lv (.ref (ad k) :: st) :=
  fun H locs hw ls h => r_get X hw (X.2.2.2.2.2.2.2.2.1 k (by omega)) (enc_6 hk) rfl inkX6 (j := 6) (by decide) hl rfl hdg (kk H locs hw ls h)
theorem g_6_7 (X : CK S D C ad K cc n own) {k index : Nat} (hk : S.2.1 k = 6) (hl : Cond.fieldLink own index "FogNets" "past" "LFogNets$Past;" ∈ kW) (hdg : decode cc pc = .ok (.getfield index, 3)) (kk : WC S l D C ad R K n c0 s0 μ (pc + 3) lv (.ref (ad 41) :: st)) : WC S l D C ad R K n c0 s0 μ pc lv (.ref (ad k) :: st) :=
  fun H locs hw ls h => r_get X hw (X.2.2.2.2.2.2.2.2.1 k (by omega)) (enc_6 hk) rfl inkX6 (j := 7) (by decide) hl rfl hdg (kk H locs hw ls h)
theorem g_6_8 (X : CK S D C ad K cc n own) {k index : Nat} (hk : S.2.1 k = 6) (hl : Cond.fieldLink own index "FogNets" "images" "[LFogNets$State;" ∈ kW) (hdg : decode cc pc = .ok (.getfield index, 3)) (kk : WC S l D C ad R K n c0 s0 μ (pc + 3) lv (.ref (ad 223) :: st)) : WC S l D C ad R K n c0 s0 μ pc lv (.ref (ad k) :: st) :=
  fun H locs hw ls h => r_get X hw (X.2.2.2.2.2.2.2.2.1 k (by omega)) (enc_6 hk) rfl inkX6 (j := 8) (by decide) hl rfl hdg (kk H locs hw ls h)
theorem g_6_9 (X : CK S D C ad K cc n own) {k index : Nat} (hk : S.2.1 k = 6) (hl : Cond.fieldLink own index "FogNets" "imageSeeds" "[I" ∈ kW) (hdg : decode cc pc = .ok (.getfield index, 3)) (kk : WC S l D C ad R K n c0 s0 μ (pc + 3) lv (.ref (ad 236) :: st)) : WC S l D C ad R K n c0 s0 μ pc lv (.ref (ad k) :: st) :=
  fun H locs hw ls h => r_get X hw (X.2.2.2.2.2.2.2.2.1 k (by omega)) (enc_6 hk) rfl inkX6 (j := 9) (by decide) hl rfl hdg (kk H locs hw ls h)
theorem g_6_10 (X : CK S D C ad K cc n own) {k index : Nat} (hk : S.2.1 k = 6) (hl : Cond.fieldLink own index "FogNets" "seed" "I" ∈ kW) (hdg : decode cc pc = .ok (.getfield index, 3)) (kk : WC S l D C ad R K n c0 s0 μ (pc + 3) lv (.int (μ.1 k 10) :: st)) : WC S l D C ad R K n c0 s0 μ pc lv (.ref (ad k) :: st) :=
  fun H locs hw ls h => r_get X hw (X.2.2.2.2.2.2.2.2.1 k (by omega)) (enc_6 hk) rfl inkX6 (j := 10) (by decide) hl rfl hdg (kk H locs hw ls h)
theorem p_6_10 (X : CK S D C ad K cc n own) {k index : Nat} {x : Int32} (hk : S.2.1 k = 6) (hl : Cond.fieldLink own index "FogNets" "seed" "I" ∈ kW) (hdg : decode cc pc = .ok (.putfield index, 3)) (kk : ∀ μ' : Mem, μ' = sI μ k 10 x → WC S l D C ad R K n c0 s0 μ' (pc + 3) lv st) : WC S l D C ad R K n c0 s0 μ pc lv (.int x :: .ref (ad k) :: st) :=
  fun H locs hw ls h => r_put X hw (μ' := sI μ k 10 x) (X.2.2.2.2.2.2.2.2.1 k (by omega)) (enc_6 hk) rfl inkX6 tyX6 tyX6_ok nmX6 (j := 10) (ty := .int) (by decide) hl rfl (by decide +kernel) rfl rfl (Nat.le_of_ble_eq_true rfl) (fun q => q) (by rw [enc_6 hk]; simp [sI, sA, upd]) (fun k2 q => sA_other q) hdg (fun H1 locs1 hw1 => kk _ rfl H1 locs1 hw1 ls h)
theorem g_6_11 (X : CK S D C ad K cc n own) {k index : Nat} (hk : S.2.1 k = 6) (hl : Cond.fieldLink own index "FogNets" "gotten" "LFogNets$Notes;" ∈ kW) (hdg : decode cc pc = .ok (.getfield index, 3)) (kk : WC S l D C ad R K n c0 s0 μ (pc + 3) lv (.ref (ad 237) :: st)) : WC S l D C ad R K n c0 s0 μ pc lv (.ref (ad k) :: st) :=
  fun H locs hw ls h => r_get X hw (X.2.2.2.2.2.2.2.2.1 k (by omega)) (enc_6 hk) rfl inkX6 (j := 11) (by decide) hl rfl hdg (kk H locs hw ls h)
theorem g_6_12 (X : CK S D C ad K cc n own) {k index : Nat} (hk : S.2.1 k = 6) (hl : Cond.fieldLink own index "FogNets" "book" "LFogNets$Notes;" ∈ kW) (hdg : decode cc pc = .ok (.getfield index, 3)) (kk : WC S l D C ad R K n c0 s0 μ (pc + 3) lv (.ref (ad 241) :: st)) : WC S l D C ad R K n c0 s0 μ pc lv (.ref (ad k) :: st) :=
  fun H locs hw ls h => r_get X hw (X.2.2.2.2.2.2.2.2.1 k (by omega)) (enc_6 hk) rfl inkX6 (j := 12) (by decide) hl rfl hdg (kk H locs hw ls h)
theorem g_6_13 (X : CK S D C ad K cc n own) {k index : Nat} (hk : S.2.1 k = 6) (hl : Cond.fieldLink own index "FogNets" "parts" "[I" ∈ kW) (hdg : decode cc pc = .ok (.getfield index, 3)) (kk : WC S l D C ad R K n c0 s0 μ (pc + 3) lv (.ref (ad 245) :: st)) : WC S l D C ad R K n c0 s0 μ pc lv (.ref (ad k) :: st) :=
  fun H locs hw ls h => r_get X hw (X.2.2.2.2.2.2.2.2.1 k (by omega)) (enc_6 hk) rfl inkX6 (j := 13) (by decide) hl rfl hdg (kk H locs hw ls h)
end FIELDS
