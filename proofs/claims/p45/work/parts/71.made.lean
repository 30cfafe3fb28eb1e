/-! ===== what the small constructors make ===== -/
def ER (C : Nat → ClassId) (ad : Nat → Nat) : Nat → va_E := fun k => match k with
  | 0 => .inr (3, [.ref (ad 1), .int 0, .int 0, .int 0, .int 0, .int (-1), .int 0, .int 0])
  | _ => .inl (C 0, 240, .inl (fun _ => 0))
def EC (C : Nat → ClassId) (ad : Nat → Nat) : Nat → va_E := fun k => match k with
  | 0 => .inr (0, [.int 0, .int 0, .int 0, .int 0, .int 0, .ref (ad 1), .ref (ad 2), .ref (ad 3), .ref (ad 4), .ref (ad 5), .ref (ad 6), .ref (ad 7), .ref (ad 8), .ref (ad 9), .ref (ad 10)])
  | 1 => .inl (C 0, 12, .inl (fun _ => 0))
  | 2 => .inl (C 0, 12, .inl (fun _ => 0))
  | 3 => .inl (C 0, 6, .inl (fun _ => 0))
  | 4 => .inl (C 0, 6, .inl (fun _ => 0))
  | 5 => .inl (C 0, 6, .inl (fun _ => 0))
  | 6 => .inl (C 0, 6, .inl (fun _ => 0))
  | 7 => .inl (C 0, 2, .inl (upd (upd (fun _ => 0) 0 127) 1 127))
  | 8 => .inl (C 0, 2, .inl (fun _ => 0))
  | 9 => .inl (C 0, 4, .inl (fun _ => 0))
  | _ => .inl (C 0, 4, .inl (fun _ => 0))
def ES (C : Nat → ClassId) (ad : Nat → Nat) : Nat → va_E := fun k => match k with
  | 0 => .inr (4, [.int 0, .int 0, .int 0, .int 0, .int 0, .ref (ad 1), .ref (ad 2), .ref (ad 3), .ref (ad 4), .ref (ad 5)])
  | 1 => .inl (C 0, 6, .inl (fun _ => 0))
  | 2 => .inl (C 0, 6, .inl (fun _ => 0))
  | 3 => .inl (C 0, 6, .inl (fun _ => 0))
  | 4 => .inl (C 0, 2, .inl (fun _ => 0))
  | _ => .inl (C 0, 2, .inl (fun _ => 0))
def EW (C : Nat → ClassId) (ad : Nat → Nat) : Nat → va_E := fun k => match k with
  | 0 => .inr (5, [.ref (ad 1), .ref (ad 2), .int 0])
  | 1 => .inl (C 0, 6, .inl (fun _ => 0))
  | _ => .inl (C 0, 12, .inl (fun _ => 0))
def EN (C : Nat → ClassId) (n : Nat) (ad : Nat → Nat) : Nat → va_E := fun k => match k with
  | 0 => .inr (1, [.ref (ad 1), .ref (ad 2), .ref (ad 3), .int 0])
  | 1 => .inl (C 0, n, .inl (fun _ => 0))
  | 2 => .inl (C 0, n, .inl (fun _ => 0))
  | _ => .inl (C 0, n, .inl (fun _ => 0))
abbrev rm_X3_init : Room := { frames := 1, cells := 1, slots := 240, locals := 12 }
set_option maxHeartbeats 4000000 in
set_option maxRecDepth 100000 in
theorem c_X3_init (l : Launch) (D : va_G) (C : Nat → ClassId) : Mc l yX3_init cX3_init 1 rm_X3_init D C 3 [.null, .int 0, .int 0, .int 0, .int 0, .int 0, .int 0, .int 0] [] 2 (ER C) 1 240 := by
  refine fm_c (by decide +kernel) rfl (fun _ => (Nat.le_of_ble_eq_true rfl)) (fun h0 K X hret => ?_)
  have X : CI D C K cX3_init 1 RX3 := X
  refine b_lv (lv' := [(0, .ref h0)]) rfl ?_
  refine b_aload_n X.1 dX3_init_0 rfl 0 rfl ?_
  refine i_obj X m_m_X3_3 (Nat.le_of_ble_eq_true rfl) (Nat.le_of_ble_eq_true rfl) dX3_init_1 ?_
  refine b_aload_n X.1 dX3_init_4 rfl 0 rfl ?_
  refine b_sipush (v := (240 : Int32)) X.1 dX3_init_5 (by decide) ?_
  refine i_newa X (t := 0) (N' := 240) (a0 := (240, .inl (fun _ => 0))) (atype := .int) m_a_pe_int rfl rfl (fun _ => rfl) (by decide) (by decide) (Nat.le_of_ble_eq_true rfl) (Nat.le_of_ble_eq_true rfl) (Nat.le_of_ble_eq_true rfl) dX3_init_8 (fun q1 => ?_)
  refine i_ws (ws' := [(h0, .inr (3, [.null, .int 0, .int 0, .int 0, .int 0, .int 0, .int 0, .int 0])), (q1, .inl (C 0, 240, .inl (fun _ => 0)))]) rfl ?_
  refine i_putF X inkX3 tyX3 tyX3_ok nmX3 0 rfl rfl 0 (by decide) m_f_X3_9 rfl rfl (ty := .array .int) (by decide +kernel) rfl rfl (Nat.le_of_ble_eq_true rfl) (ws' := [(h0, .inr (3, [.ref q1, .int 0, .int 0, .int 0, .int 0, .int 0, .int 0, .int 0])), (q1, .inl (C 0, 240, .inl (fun _ => 0)))]) rfl dX3_init_10 ?_
  refine b_aload_n X.1 dX3_init_13 rfl 0 rfl ?_
  refine b_iconst (v := (0 : Int32)) X.1 dX3_init_14 (by decide) ?_
  refine i_put X inkX3 tyX3 tyX3_ok nmX3 0 rfl rfl 1 (by decide) m_f_X3_15 rfl (ty := .int) (by decide +kernel) rfl rfl (Nat.le_of_ble_eq_true rfl) (ws' := [(h0, .inr (3, [.ref q1, .int 0, .int 0, .int 0, .int 0, .int 0, .int 0, .int 0])), (q1, .inl (C 0, 240, .inl (fun _ => 0)))]) rfl dX3_init_15 ?_
  refine b_aload_n X.1 dX3_init_18 rfl 0 rfl ?_
  refine b_iconst (v := (0 : Int32)) X.1 dX3_init_19 (by decide) ?_
  refine i_put X inkX3 tyX3 tyX3_ok nmX3 0 rfl rfl 2 (by decide) m_f_X3_19 rfl (ty := .int) (by decide +kernel) rfl rfl (Nat.le_of_ble_eq_true rfl) (ws' := [(h0, .inr (3, [.ref q1, .int 0, .int 0, .int 0, .int 0, .int 0, .int 0, .int 0])), (q1, .inl (C 0, 240, .inl (fun _ => 0)))]) rfl dX3_init_20 ?_
  refine b_aload_n X.1 dX3_init_23 rfl 0 rfl ?_
  refine b_iconst (v := (0 : Int32)) X.1 dX3_init_24 (by decide) ?_
  refine i_put X inkX3 tyX3 tyX3_ok nmX3 0 rfl rfl 3 (by decide) m_f_X3_22 rfl (ty := .int) (by decide +kernel) rfl rfl (Nat.le_of_ble_eq_true rfl) (ws' := [(h0, .inr (3, [.ref q1, .int 0, .int 0, .int 0, .int 0, .int 0, .int 0, .int 0])), (q1, .inl (C 0, 240, .inl (fun _ => 0)))]) rfl dX3_init_25 ?_
  refine b_aload_n X.1 dX3_init_28 rfl 0 rfl ?_
  refine b_iconst (v := (0 : Int32)) X.1 dX3_init_29 (by decide) ?_
  refine i_put X inkX3 tyX3 tyX3_ok nmX3 0 rfl rfl 4 (by decide) m_f_X3_25 rfl (ty := .int) (by decide +kernel) rfl rfl (Nat.le_of_ble_eq_true rfl) (ws' := [(h0, .inr (3, [.ref q1, .int 0, .int 0, .int 0, .int 0, .int 0, .int 0, .int 0])), (q1, .inl (C 0, 240, .inl (fun _ => 0)))]) rfl dX3_init_30 ?_
  refine b_aload_n X.1 dX3_init_33 rfl 0 rfl ?_
  refine b_iconst (v := (-1 : Int32)) X.1 dX3_init_34 (by decide) ?_
  refine i_put X inkX3 tyX3 tyX3_ok nmX3 0 rfl rfl 5 (by decide) m_f_X3_28 rfl (ty := .int) (by decide +kernel) rfl rfl (Nat.le_of_ble_eq_true rfl) (ws' := [(h0, .inr (3, [.ref q1, .int 0, .int 0, .int 0, .int 0, .int (-1), .int 0, .int 0])), (q1, .inl (C 0, 240, .inl (fun _ => 0)))]) rfl dX3_init_35 ?_
  refine b_aload_n X.1 dX3_init_38 rfl 0 rfl ?_
  refine b_iconst (v := (0 : Int32)) X.1 dX3_init_39 (by decide) ?_
  refine i_put X inkX3 tyX3 tyX3_ok nmX3 0 rfl rfl 6 (by decide) m_f_X3_31 rfl (ty := .boolean) (by decide +kernel) rfl rfl (Nat.le_of_ble_eq_true rfl) (ws' := [(h0, .inr (3, [.ref q1, .int 0, .int 0, .int 0, .int 0, .int (-1), .int 0, .int 0])), (q1, .inl (C 0, 240, .inl (fun _ => 0)))]) rfl dX3_init_40 ?_
  refine b_aload_n X.1 dX3_init_43 rfl 0 rfl ?_
  refine b_iconst (v := (0 : Int32)) X.1 dX3_init_44 (by decide) ?_
  refine i_put X inkX3 tyX3 tyX3_ok nmX3 0 rfl rfl 7 (by decide) m_f_X3_35 rfl (ty := .boolean) (by decide +kernel) rfl rfl (Nat.le_of_ble_eq_true rfl) (ws' := [(h0, .inr (3, [.ref q1, .int 0, .int 0, .int 0, .int 0, .int (-1), .int 0, .int 0])), (q1, .inl (C 0, 240, .inl (fun _ => 0)))]) rfl dX3_init_45 ?_
  refine i_ws (ws' := wl 2 (fun k => [h0, q1].getD k 0) (ER C (fun k => [h0, q1].getD k 0))) rfl ?_
  exact hret (fun k => [h0, q1].getD k 0) _ _ rfl dX3_init_48
abbrev rm_X0_init : Room := { frames := 1, cells := 10, slots := 60, locals := 12 }
set_option maxHeartbeats 4000000 in
set_option maxRecDepth 100000 in
theorem c_X0_init (l : Launch) (D : va_G) (C : Nat → ClassId) : Mc l yX0_init cX0_init 1 rm_X0_init D C 0 [.int 0, .int 0, .int 0, .int 0, .int 0, .null, .null, .null, .null, .null, .null, .null, .null, .null, .null] [] 11 (EC C) 10 60 := by
  refine fm_c (by decide +kernel) rfl (fun _ => (Nat.le_of_ble_eq_true rfl)) (fun h0 K X hret => ?_)
  have X : CI D C K cX0_init 1 RX0 := X
  refine b_lv (lv' := [(0, .ref h0)]) rfl ?_
  refine b_aload_n X.1 dX0_init_0 rfl 0 rfl ?_
  refine i_obj X m_m_X0_3 (Nat.le_of_ble_eq_true rfl) (Nat.le_of_ble_eq_true rfl) dX0_init_1 ?_
  refine b_aload_n X.1 dX0_init_4 rfl 0 rfl ?_
  refine b_bipush (v := (12 : Int32)) X.1 dX0_init_5 (by decide) ?_
  refine i_newa X (t := 0) (N' := 12) (a0 := (12, .inl (fun _ => 0))) (atype := .int) m_a_pe_int rfl rfl (fun _ => rfl) (by decide) (by decide) (Nat.le_of_ble_eq_true rfl) (Nat.le_of_ble_eq_true rfl) (Nat.le_of_ble_eq_true rfl) dX0_init_7 (fun q1 => ?_)
  refine i_ws (ws' := [(h0, .inr (0, [.int 0, .int 0, .int 0, .int 0, .int 0, .null, .null, .null, .null, .null, .null, .null, .null, .null, .null])), (q1, .inl (C 0, 12, .inl (fun _ => 0)))]) rfl ?_
  refine i_putF X inkX0 tyX0 tyX0_ok nmX0 0 rfl rfl 5 (by decide) m_f_X0_9 rfl rfl (ty := .array .int) (by decide +kernel) rfl rfl (Nat.le_of_ble_eq_true rfl) (ws' := [(h0, .inr (0, [.int 0, .int 0, .int 0, .int 0, .int 0, .ref q1, .null, .null, .null, .null, .null, .null, .null, .null, .null])), (q1, .inl (C 0, 12, .inl (fun _ => 0)))]) rfl dX0_init_9 ?_
  refine b_aload_n X.1 dX0_init_12 rfl 0 rfl ?_
  refine b_bipush (v := (12 : Int32)) X.1 dX0_init_13 (by decide) ?_
  refine i_newa X (t := 0) (N' := 12) (a0 := (12, .inl (fun _ => 0))) (atype := .int) m_a_pe_int rfl rfl (fun _ => rfl) (by decide) (by decide) (Nat.le_of_ble_eq_true rfl) (Nat.le_of_ble_eq_true rfl) (Nat.le_of_ble_eq_true rfl) dX0_init_15 (fun q2 => ?_)
  refine i_ws (ws' := [(h0, .inr (0, [.int 0, .int 0, .int 0, .int 0, .int 0, .ref q1, .null, .null, .null, .null, .null, .null, .null, .null, .null])), (q1, .inl (C 0, 12, .inl (fun _ => 0))), (q2, .inl (C 0, 12, .inl (fun _ => 0)))]) rfl ?_
  refine i_putF X inkX0 tyX0 tyX0_ok nmX0 0 rfl rfl 6 (by decide) m_f_X0_15 rfl rfl (ty := .array .int) (by decide +kernel) rfl rfl (Nat.le_of_ble_eq_true rfl) (ws' := [(h0, .inr (0, [.int 0, .int 0, .int 0, .int 0, .int 0, .ref q1, .ref q2, .null, .null, .null, .null, .null, .null, .null, .null])), (q1, .inl (C 0, 12, .inl (fun _ => 0))), (q2, .inl (C 0, 12, .inl (fun _ => 0)))]) rfl dX0_init_17 ?_
  refine b_aload_n X.1 dX0_init_20 rfl 0 rfl ?_
  refine b_bipush (v := (6 : Int32)) X.1 dX0_init_21 (by decide) ?_
  refine i_newa X (t := 0) (N' := 6) (a0 := (6, .inl (fun _ => 0))) (atype := .int) m_a_pe_int rfl rfl (fun _ => rfl) (by decide) (by decide) (Nat.le_of_ble_eq_true rfl) (Nat.le_of_ble_eq_true rfl) (Nat.le_of_ble_eq_true rfl) dX0_init_23 (fun q3 => ?_)
  refine i_ws (ws' := [(h0, .inr (0, [.int 0, .int 0, .int 0, .int 0, .int 0, .ref q1, .ref q2, .null, .null, .null, .null, .null, .null, .null, .null])), (q1, .inl (C 0, 12, .inl (fun _ => 0))), (q2, .inl (C 0, 12, .inl (fun _ => 0))), (q3, .inl (C 0, 6, .inl (fun _ => 0)))]) rfl ?_
  refine i_putF X inkX0 tyX0 tyX0_ok nmX0 0 rfl rfl 7 (by decide) m_f_X0_18 rfl rfl (ty := .array .int) (by decide +kernel) rfl rfl (Nat.le_of_ble_eq_true rfl) (ws' := [(h0, .inr (0, [.int 0, .int 0, .int 0, .int 0, .int 0, .ref q1, .ref q2, .ref q3, .null, .null, .null, .null, .null, .null, .null])), (q1, .inl (C 0, 12, .inl (fun _ => 0))), (q2, .inl (C 0, 12, .inl (fun _ => 0))), (q3, .inl (C 0, 6, .inl (fun _ => 0)))]) rfl dX0_init_25 ?_
  refine b_aload_n X.1 dX0_init_28 rfl 0 rfl ?_
  refine b_bipush (v := (6 : Int32)) X.1 dX0_init_29 (by decide) ?_
  refine i_newa X (t := 0) (N' := 6) (a0 := (6, .inl (fun _ => 0))) (atype := .int) m_a_pe_int rfl rfl (fun _ => rfl) (by decide) (by decide) (Nat.le_of_ble_eq_true rfl) (Nat.le_of_ble_eq_true rfl) (Nat.le_of_ble_eq_true rfl) dX0_init_31 (fun q4 => ?_)
  refine i_ws (ws' := [(h0, .inr (0, [.int 0, .int 0, .int 0, .int 0, .int 0, .ref q1, .ref q2, .ref q3, .null, .null, .null, .null, .null, .null, .null])), (q1, .inl (C 0, 12, .inl (fun _ => 0))), (q2, .inl (C 0, 12, .inl (fun _ => 0))), (q3, .inl (C 0, 6, .inl (fun _ => 0))), (q4, .inl (C 0, 6, .inl (fun _ => 0)))]) rfl ?_
  refine i_putF X inkX0 tyX0 tyX0_ok nmX0 0 rfl rfl 8 (by decide) m_f_X0_21 rfl rfl (ty := .array .int) (by decide +kernel) rfl rfl (Nat.le_of_ble_eq_true rfl) (ws' := [(h0, .inr (0, [.int 0, .int 0, .int 0, .int 0, .int 0, .ref q1, .ref q2, .ref q3, .ref q4, .null, .null, .null, .null, .null, .null])), (q1, .inl (C 0, 12, .inl (fun _ => 0))), (q2, .inl (C 0, 12, .inl (fun _ => 0))), (q3, .inl (C 0, 6, .inl (fun _ => 0))), (q4, .inl (C 0, 6, .inl (fun _ => 0)))]) rfl dX0_init_33 ?_
  refine b_aload_n X.1 dX0_init_36 rfl 0 rfl ?_
  refine b_bipush (v := (6 : Int32)) X.1 dX0_init_37 (by decide) ?_
  refine i_newa X (t := 0) (N' := 6) (a0 := (6, .inl (fun _ => 0))) (atype := .int) m_a_pe_int rfl rfl (fun _ => rfl) (by decide) (by decide) (Nat.le_of_ble_eq_true rfl) (Nat.le_of_ble_eq_true rfl) (Nat.le_of_ble_eq_true rfl) dX0_init_39 (fun q5 => ?_)
  refine i_ws (ws' := [(h0, .inr (0, [.int 0, .int 0, .int 0, .int 0, .int 0, .ref q1, .ref q2, .ref q3, .ref q4, .null, .null, .null, .null, .null, .null])), (q1, .inl (C 0, 12, .inl (fun _ => 0))), (q2, .inl (C 0, 12, .inl (fun _ => 0))), (q3, .inl (C 0, 6, .inl (fun _ => 0))), (q4, .inl (C 0, 6, .inl (fun _ => 0))), (q5, .inl (C 0, 6, .inl (fun _ => 0)))]) rfl ?_
  refine i_putF X inkX0 tyX0 tyX0_ok nmX0 0 rfl rfl 9 (by decide) m_f_X0_24 rfl rfl (ty := .array .int) (by decide +kernel) rfl rfl (Nat.le_of_ble_eq_true rfl) (ws' := [(h0, .inr (0, [.int 0, .int 0, .int 0, .int 0, .int 0, .ref q1, .ref q2, .ref q3, .ref q4, .ref q5, .null, .null, .null, .null, .null])), (q1, .inl (C 0, 12, .inl (fun _ => 0))), (q2, .inl (C 0, 12, .inl (fun _ => 0))), (q3, .inl (C 0, 6, .inl (fun _ => 0))), (q4, .inl (C 0, 6, .inl (fun _ => 0))), (q5, .inl (C 0, 6, .inl (fun _ => 0)))]) rfl dX0_init_41 ?_
  refine b_aload_n X.1 dX0_init_44 rfl 0 rfl ?_
  refine b_bipush (v := (6 : Int32)) X.1 dX0_init_45 (by decide) ?_
  refine i_newa X (t := 0) (N' := 6) (a0 := (6, .inl (fun _ => 0))) (atype := .int) m_a_pe_int rfl rfl (fun _ => rfl) (by decide) (by decide) (Nat.le_of_ble_eq_true rfl) (Nat.le_of_ble_eq_true rfl) (Nat.le_of_ble_eq_true rfl) dX0_init_47 (fun q6 => ?_)
  refine i_ws (ws' := [(h0, .inr (0, [.int 0, .int 0, .int 0, .int 0, .int 0, .ref q1, .ref q2, .ref q3, .ref q4, .ref q5, .null, .null, .null, .null, .null])), (q1, .inl (C 0, 12, .inl (fun _ => 0))), (q2, .inl (C 0, 12, .inl (fun _ => 0))), (q3, .inl (C 0, 6, .inl (fun _ => 0))), (q4, .inl (C 0, 6, .inl (fun _ => 0))), (q5, .inl (C 0, 6, .inl (fun _ => 0))), (q6, .inl (C 0, 6, .inl (fun _ => 0)))]) rfl ?_
  refine i_putF X inkX0 tyX0 tyX0_ok nmX0 0 rfl rfl 10 (by decide) m_f_X0_27 rfl rfl (ty := .array .int) (by decide +kernel) rfl rfl (Nat.le_of_ble_eq_true rfl) (ws' := [(h0, .inr (0, [.int 0, .int 0, .int 0, .int 0, .int 0, .ref q1, .ref q2, .ref q3, .ref q4, .ref q5, .ref q6, .null, .null, .null, .null])), (q1, .inl (C 0, 12, .inl (fun _ => 0))), (q2, .inl (C 0, 12, .inl (fun _ => 0))), (q3, .inl (C 0, 6, .inl (fun _ => 0))), (q4, .inl (C 0, 6, .inl (fun _ => 0))), (q5, .inl (C 0, 6, .inl (fun _ => 0))), (q6, .inl (C 0, 6, .inl (fun _ => 0)))]) rfl dX0_init_49 ?_
  refine b_aload_n X.1 dX0_init_52 rfl 0 rfl ?_
  refine b_iconst (v := (2 : Int32)) X.1 dX0_init_53 (by decide) ?_
  refine i_newa X (t := 0) (N' := 2) (a0 := (2, .inl (fun _ => 0))) (atype := .int) m_a_pe_int rfl rfl (fun _ => rfl) (by decide) (by decide) (Nat.le_of_ble_eq_true rfl) (Nat.le_of_ble_eq_true rfl) (Nat.le_of_ble_eq_true rfl) dX0_init_54 (fun q7 => ?_)
  refine i_ws (ws' := [(h0, .inr (0, [.int 0, .int 0, .int 0, .int 0, .int 0, .ref q1, .ref q2, .ref q3, .ref q4, .ref q5, .ref q6, .null, .null, .null, .null])), (q1, .inl (C 0, 12, .inl (fun _ => 0))), (q2, .inl (C 0, 12, .inl (fun _ => 0))), (q3, .inl (C 0, 6, .inl (fun _ => 0))), (q4, .inl (C 0, 6, .inl (fun _ => 0))), (q5, .inl (C 0, 6, .inl (fun _ => 0))), (q6, .inl (C 0, 6, .inl (fun _ => 0))), (q7, .inl (C 0, 2, .inl (fun _ => 0)))]) rfl ?_
  refine b_dup X.1 dX0_init_56 rfl ?_
  refine b_iconst (v := (0 : Int32)) X.1 dX0_init_57 (by decide) ?_
  refine b_bipush (v := (127 : Int32)) X.1 dX0_init_58 (by decide) ?_
  refine i_iast X 7 rfl (by unfold vp_in; decide) (ws' := [(h0, .inr (0, [.int 0, .int 0, .int 0, .int 0, .int 0, .ref q1, .ref q2, .ref q3, .ref q4, .ref q5, .ref q6, .null, .null, .null, .null])), (q1, .inl (C 0, 12, .inl (fun _ => 0))), (q2, .inl (C 0, 12, .inl (fun _ => 0))), (q3, .inl (C 0, 6, .inl (fun _ => 0))), (q4, .inl (C 0, 6, .inl (fun _ => 0))), (q5, .inl (C 0, 6, .inl (fun _ => 0))), (q6, .inl (C 0, 6, .inl (fun _ => 0))), (q7, .inl (C 0, 2, .inl (upd (fun _ => 0) 0 127)))]) rfl dX0_init_60 ?_
  refine b_dup X.1 dX0_init_61 rfl ?_
  refine b_iconst (v := (1 : Int32)) X.1 dX0_init_62 (by decide) ?_
  refine b_bipush (v := (127 : Int32)) X.1 dX0_init_63 (by decide) ?_
  refine i_iast X 7 rfl (by unfold vp_in; decide) (ws' := [(h0, .inr (0, [.int 0, .int 0, .int 0, .int 0, .int 0, .ref q1, .ref q2, .ref q3, .ref q4, .ref q5, .ref q6, .null, .null, .null, .null])), (q1, .inl (C 0, 12, .inl (fun _ => 0))), (q2, .inl (C 0, 12, .inl (fun _ => 0))), (q3, .inl (C 0, 6, .inl (fun _ => 0))), (q4, .inl (C 0, 6, .inl (fun _ => 0))), (q5, .inl (C 0, 6, .inl (fun _ => 0))), (q6, .inl (C 0, 6, .inl (fun _ => 0))), (q7, .inl (C 0, 2, .inl (upd (upd (fun _ => 0) 0 127) 1 127)))]) rfl dX0_init_65 ?_
  refine i_putF X inkX0 tyX0 tyX0_ok nmX0 0 rfl rfl 11 (by decide) m_f_X0_30 rfl rfl (ty := .array .int) (by decide +kernel) rfl rfl (Nat.le_of_ble_eq_true rfl) (ws' := [(h0, .inr (0, [.int 0, .int 0, .int 0, .int 0, .int 0, .ref q1, .ref q2, .ref q3, .ref q4, .ref q5, .ref q6, .ref q7, .null, .null, .null])), (q1, .inl (C 0, 12, .inl (fun _ => 0))), (q2, .inl (C 0, 12, .inl (fun _ => 0))), (q3, .inl (C 0, 6, .inl (fun _ => 0))), (q4, .inl (C 0, 6, .inl (fun _ => 0))), (q5, .inl (C 0, 6, .inl (fun _ => 0))), (q6, .inl (C 0, 6, .inl (fun _ => 0))), (q7, .inl (C 0, 2, .inl (upd (upd (fun _ => 0) 0 127) 1 127)))]) rfl dX0_init_66 ?_
  refine b_aload_n X.1 dX0_init_69 rfl 0 rfl ?_
  refine b_iconst (v := (2 : Int32)) X.1 dX0_init_70 (by decide) ?_
  refine i_newa X (t := 0) (N' := 2) (a0 := (2, .inl (fun _ => 0))) (atype := .int) m_a_pe_int rfl rfl (fun _ => rfl) (by decide) (by decide) (Nat.le_of_ble_eq_true rfl) (Nat.le_of_ble_eq_true rfl) (Nat.le_of_ble_eq_true rfl) dX0_init_71 (fun q8 => ?_)
  refine i_ws (ws' := [(h0, .inr (0, [.int 0, .int 0, .int 0, .int 0, .int 0, .ref q1, .ref q2, .ref q3, .ref q4, .ref q5, .ref q6, .ref q7, .null, .null, .null])), (q1, .inl (C 0, 12, .inl (fun _ => 0))), (q2, .inl (C 0, 12, .inl (fun _ => 0))), (q3, .inl (C 0, 6, .inl (fun _ => 0))), (q4, .inl (C 0, 6, .inl (fun _ => 0))), (q5, .inl (C 0, 6, .inl (fun _ => 0))), (q6, .inl (C 0, 6, .inl (fun _ => 0))), (q7, .inl (C 0, 2, .inl (upd (upd (fun _ => 0) 0 127) 1 127))), (q8, .inl (C 0, 2, .inl (fun _ => 0)))]) rfl ?_
  refine i_putF X inkX0 tyX0 tyX0_ok nmX0 0 rfl rfl 12 (by decide) m_f_X0_33 rfl rfl (ty := .array .int) (by decide +kernel) rfl rfl (Nat.le_of_ble_eq_true rfl) (ws' := [(h0, .inr (0, [.int 0, .int 0, .int 0, .int 0, .int 0, .ref q1, .ref q2, .ref q3, .ref q4, .ref q5, .ref q6, .ref q7, .ref q8, .null, .null])), (q1, .inl (C 0, 12, .inl (fun _ => 0))), (q2, .inl (C 0, 12, .inl (fun _ => 0))), (q3, .inl (C 0, 6, .inl (fun _ => 0))), (q4, .inl (C 0, 6, .inl (fun _ => 0))), (q5, .inl (C 0, 6, .inl (fun _ => 0))), (q6, .inl (C 0, 6, .inl (fun _ => 0))), (q7, .inl (C 0, 2, .inl (upd (upd (fun _ => 0) 0 127) 1 127))), (q8, .inl (C 0, 2, .inl (fun _ => 0)))]) rfl dX0_init_73 ?_
  refine b_aload_n X.1 dX0_init_76 rfl 0 rfl ?_
  refine b_iconst (v := (4 : Int32)) X.1 dX0_init_77 (by decide) ?_
  refine i_newa X (t := 0) (N' := 4) (a0 := (4, .inl (fun _ => 0))) (atype := .int) m_a_pe_int rfl rfl (fun _ => rfl) (by decide) (by decide) (Nat.le_of_ble_eq_true rfl) (Nat.le_of_ble_eq_true rfl) (Nat.le_of_ble_eq_true rfl) dX0_init_78 (fun q9 => ?_)
  refine i_ws (ws' := [(h0, .inr (0, [.int 0, .int 0, .int 0, .int 0, .int 0, .ref q1, .ref q2, .ref q3, .ref q4, .ref q5, .ref q6, .ref q7, .ref q8, .null, .null])), (q1, .inl (C 0, 12, .inl (fun _ => 0))), (q2, .inl (C 0, 12, .inl (fun _ => 0))), (q3, .inl (C 0, 6, .inl (fun _ => 0))), (q4, .inl (C 0, 6, .inl (fun _ => 0))), (q5, .inl (C 0, 6, .inl (fun _ => 0))), (q6, .inl (C 0, 6, .inl (fun _ => 0))), (q7, .inl (C 0, 2, .inl (upd (upd (fun _ => 0) 0 127) 1 127))), (q8, .inl (C 0, 2, .inl (fun _ => 0))), (q9, .inl (C 0, 4, .inl (fun _ => 0)))]) rfl ?_
  refine i_putF X inkX0 tyX0 tyX0_ok nmX0 0 rfl rfl 13 (by decide) m_f_X0_36 rfl rfl (ty := .array .int) (by decide +kernel) rfl rfl (Nat.le_of_ble_eq_true rfl) (ws' := [(h0, .inr (0, [.int 0, .int 0, .int 0, .int 0, .int 0, .ref q1, .ref q2, .ref q3, .ref q4, .ref q5, .ref q6, .ref q7, .ref q8, .ref q9, .null])), (q1, .inl (C 0, 12, .inl (fun _ => 0))), (q2, .inl (C 0, 12, .inl (fun _ => 0))), (q3, .inl (C 0, 6, .inl (fun _ => 0))), (q4, .inl (C 0, 6, .inl (fun _ => 0))), (q5, .inl (C 0, 6, .inl (fun _ => 0))), (q6, .inl (C 0, 6, .inl (fun _ => 0))), (q7, .inl (C 0, 2, .inl (upd (upd (fun _ => 0) 0 127) 1 127))), (q8, .inl (C 0, 2, .inl (fun _ => 0))), (q9, .inl (C 0, 4, .inl (fun _ => 0)))]) rfl dX0_init_80 ?_
  refine b_aload_n X.1 dX0_init_83 rfl 0 rfl ?_
  refine b_iconst (v := (4 : Int32)) X.1 dX0_init_84 (by decide) ?_
  refine i_newa X (t := 0) (N' := 4) (a0 := (4, .inl (fun _ => 0))) (atype := .int) m_a_pe_int rfl rfl (fun _ => rfl) (by decide) (by decide) (Nat.le_of_ble_eq_true rfl) (Nat.le_of_ble_eq_true rfl) (Nat.le_of_ble_eq_true rfl) dX0_init_85 (fun q10 => ?_)
  refine i_ws (ws' := [(h0, .inr (0, [.int 0, .int 0, .int 0, .int 0, .int 0, .ref q1, .ref q2, .ref q3, .ref q4, .ref q5, .ref q6, .ref q7, .ref q8, .ref q9, .null])), (q1, .inl (C 0, 12, .inl (fun _ => 0))), (q2, .inl (C 0, 12, .inl (fun _ => 0))), (q3, .inl (C 0, 6, .inl (fun _ => 0))), (q4, .inl (C 0, 6, .inl (fun _ => 0))), (q5, .inl (C 0, 6, .inl (fun _ => 0))), (q6, .inl (C 0, 6, .inl (fun _ => 0))), (q7, .inl (C 0, 2, .inl (upd (upd (fun _ => 0) 0 127) 1 127))), (q8, .inl (C 0, 2, .inl (fun _ => 0))), (q9, .inl (C 0, 4, .inl (fun _ => 0))), (q10, .inl (C 0, 4, .inl (fun _ => 0)))]) rfl ?_
  refine i_putF X inkX0 tyX0 tyX0_ok nmX0 0 rfl rfl 14 (by decide) m_f_X0_39 rfl rfl (ty := .array .int) (by decide +kernel) rfl rfl (Nat.le_of_ble_eq_true rfl) (ws' := [(h0, .inr (0, [.int 0, .int 0, .int 0, .int 0, .int 0, .ref q1, .ref q2, .ref q3, .ref q4, .ref q5, .ref q6, .ref q7, .ref q8, .ref q9, .ref q10])), (q1, .inl (C 0, 12, .inl (fun _ => 0))), (q2, .inl (C 0, 12, .inl (fun _ => 0))), (q3, .inl (C 0, 6, .inl (fun _ => 0))), (q4, .inl (C 0, 6, .inl (fun _ => 0))), (q5, .inl (C 0, 6, .inl (fun _ => 0))), (q6, .inl (C 0, 6, .inl (fun _ => 0))), (q7, .inl (C 0, 2, .inl (upd (upd (fun _ => 0) 0 127) 1 127))), (q8, .inl (C 0, 2, .inl (fun _ => 0))), (q9, .inl (C 0, 4, .inl (fun _ => 0))), (q10, .inl (C 0, 4, .inl (fun _ => 0)))]) rfl dX0_init_87 ?_
  refine i_ws (ws' := wl 11 (fun k => [h0, q1, q2, q3, q4, q5, q6, q7, q8, q9, q10].getD k 0) (EC C (fun k => [h0, q1, q2, q3, q4, q5, q6, q7, q8, q9, q10].getD k 0))) rfl ?_
  exact hret (fun k => [h0, q1, q2, q3, q4, q5, q6, q7, q8, q9, q10].getD k 0) _ _ rfl dX0_init_90
abbrev rm_X4_init : Room := { frames := 1, cells := 5, slots := 22, locals := 12 }
set_option maxHeartbeats 4000000 in
set_option maxRecDepth 100000 in
theorem c_X4_init (l : Launch) (D : va_G) (C : Nat → ClassId) : Mc l yX4_init cX4_init 1 rm_X4_init D C 4 [.int 0, .int 0, .int 0, .int 0, .int 0, .null, .null, .null, .null, .null] [] 6 (ES C) 5 22 := by
  refine fm_c (by decide +kernel) rfl (fun _ => (Nat.le_of_ble_eq_true rfl)) (fun h0 K X hret => ?_)
  have X : CI D C K cX4_init 1 RX4 := X
  refine b_lv (lv' := [(0, .ref h0)]) rfl ?_
  refine b_aload_n X.1 dX4_init_0 rfl 0 rfl ?_
  refine i_obj X m_m_X4_3 (Nat.le_of_ble_eq_true rfl) (Nat.le_of_ble_eq_true rfl) dX4_init_1 ?_
  refine b_aload_n X.1 dX4_init_4 rfl 0 rfl ?_
  refine b_iconst (v := (0 : Int32)) X.1 dX4_init_5 (by decide) ?_
  refine i_put X inkX4 tyX4 tyX4_ok nmX4 0 rfl rfl 0 (by decide) m_f_X4_9 rfl (ty := .int) (by decide +kernel) rfl rfl (Nat.le_of_ble_eq_true rfl) (ws' := [(h0, .inr (4, [.int 0, .int 0, .int 0, .int 0, .int 0, .null, .null, .null, .null, .null]))]) rfl dX4_init_6 ?_
  refine b_aload_n X.1 dX4_init_9 rfl 0 rfl ?_
  refine b_iconst (v := (0 : Int32)) X.1 dX4_init_10 (by decide) ?_
  refine i_put X inkX4 tyX4 tyX4_ok nmX4 0 rfl rfl 1 (by decide) m_f_X4_15 rfl (ty := .int) (by decide +kernel) rfl rfl (Nat.le_of_ble_eq_true rfl) (ws' := [(h0, .inr (4, [.int 0, .int 0, .int 0, .int 0, .int 0, .null, .null, .null, .null, .null]))]) rfl dX4_init_11 ?_
  refine b_aload_n X.1 dX4_init_14 rfl 0 rfl ?_
  refine b_iconst (v := (0 : Int32)) X.1 dX4_init_15 (by decide) ?_
  refine i_put X inkX4 tyX4 tyX4_ok nmX4 0 rfl rfl 2 (by decide) m_f_X4_18 rfl (ty := .boolean) (by decide +kernel) rfl rfl (Nat.le_of_ble_eq_true rfl) (ws' := [(h0, .inr (4, [.int 0, .int 0, .int 0, .int 0, .int 0, .null, .null, .null, .null, .null]))]) rfl dX4_init_16 ?_
  refine b_aload_n X.1 dX4_init_19 rfl 0 rfl ?_
  refine b_iconst (v := (0 : Int32)) X.1 dX4_init_20 (by decide) ?_
  refine i_put X inkX4 tyX4 tyX4_ok nmX4 0 rfl rfl 3 (by decide) m_f_X4_22 rfl (ty := .int) (by decide +kernel) rfl rfl (Nat.le_of_ble_eq_true rfl) (ws' := [(h0, .inr (4, [.int 0, .int 0, .int 0, .int 0, .int 0, .null, .null, .null, .null, .null]))]) rfl dX4_init_21 ?_
  refine b_aload_n X.1 dX4_init_24 rfl 0 rfl ?_
  refine b_iconst (v := (0 : Int32)) X.1 dX4_init_25 (by decide) ?_
  refine i_put X inkX4 tyX4 tyX4_ok nmX4 0 rfl rfl 4 (by decide) m_f_X4_25 rfl (ty := .int) (by decide +kernel) rfl rfl (Nat.le_of_ble_eq_true rfl) (ws' := [(h0, .inr (4, [.int 0, .int 0, .int 0, .int 0, .int 0, .null, .null, .null, .null, .null]))]) rfl dX4_init_26 ?_
  refine b_aload_n X.1 dX4_init_29 rfl 0 rfl ?_
  refine b_bipush (v := (6 : Int32)) X.1 dX4_init_30 (by decide) ?_
  refine i_newa X (t := 0) (N' := 6) (a0 := (6, .inl (fun _ => 0))) (atype := .int) m_a_pe_int rfl rfl (fun _ => rfl) (by decide) (by decide) (Nat.le_of_ble_eq_true rfl) (Nat.le_of_ble_eq_true rfl) (Nat.le_of_ble_eq_true rfl) dX4_init_32 (fun q1 => ?_)
  refine i_ws (ws' := [(h0, .inr (4, [.int 0, .int 0, .int 0, .int 0, .int 0, .null, .null, .null, .null, .null])), (q1, .inl (C 0, 6, .inl (fun _ => 0)))]) rfl ?_
  refine i_putF X inkX4 tyX4 tyX4_ok nmX4 0 rfl rfl 5 (by decide) m_f_X4_28 rfl rfl (ty := .array .int) (by decide +kernel) rfl rfl (Nat.le_of_ble_eq_true rfl) (ws' := [(h0, .inr (4, [.int 0, .int 0, .int 0, .int 0, .int 0, .ref q1, .null, .null, .null, .null])), (q1, .inl (C 0, 6, .inl (fun _ => 0)))]) rfl dX4_init_34 ?_
  refine b_aload_n X.1 dX4_init_37 rfl 0 rfl ?_
  refine b_bipush (v := (6 : Int32)) X.1 dX4_init_38 (by decide) ?_
  refine i_newa X (t := 0) (N' := 6) (a0 := (6, .inl (fun _ => 0))) (atype := .int) m_a_pe_int rfl rfl (fun _ => rfl) (by decide) (by decide) (Nat.le_of_ble_eq_true rfl) (Nat.le_of_ble_eq_true rfl) (Nat.le_of_ble_eq_true rfl) dX4_init_40 (fun q2 => ?_)
  refine i_ws (ws' := [(h0, .inr (4, [.int 0, .int 0, .int 0, .int 0, .int 0, .ref q1, .null, .null, .null, .null])), (q1, .inl (C 0, 6, .inl (fun _ => 0))), (q2, .inl (C 0, 6, .inl (fun _ => 0)))]) rfl ?_
  refine i_putF X inkX4 tyX4 tyX4_ok nmX4 0 rfl rfl 6 (by decide) m_f_X4_32 rfl rfl (ty := .array .int) (by decide +kernel) rfl rfl (Nat.le_of_ble_eq_true rfl) (ws' := [(h0, .inr (4, [.int 0, .int 0, .int 0, .int 0, .int 0, .ref q1, .ref q2, .null, .null, .null])), (q1, .inl (C 0, 6, .inl (fun _ => 0))), (q2, .inl (C 0, 6, .inl (fun _ => 0)))]) rfl dX4_init_42 ?_
  refine b_aload_n X.1 dX4_init_45 rfl 0 rfl ?_
  refine b_bipush (v := (6 : Int32)) X.1 dX4_init_46 (by decide) ?_
  refine i_newa X (t := 0) (N' := 6) (a0 := (6, .inl (fun _ => 0))) (atype := .int) m_a_pe_int rfl rfl (fun _ => rfl) (by decide) (by decide) (Nat.le_of_ble_eq_true rfl) (Nat.le_of_ble_eq_true rfl) (Nat.le_of_ble_eq_true rfl) dX4_init_48 (fun q3 => ?_)
  refine i_ws (ws' := [(h0, .inr (4, [.int 0, .int 0, .int 0, .int 0, .int 0, .ref q1, .ref q2, .null, .null, .null])), (q1, .inl (C 0, 6, .inl (fun _ => 0))), (q2, .inl (C 0, 6, .inl (fun _ => 0))), (q3, .inl (C 0, 6, .inl (fun _ => 0)))]) rfl ?_
  refine i_putF X inkX4 tyX4 tyX4_ok nmX4 0 rfl rfl 7 (by decide) m_f_X4_35 rfl rfl (ty := .array .int) (by decide +kernel) rfl rfl (Nat.le_of_ble_eq_true rfl) (ws' := [(h0, .inr (4, [.int 0, .int 0, .int 0, .int 0, .int 0, .ref q1, .ref q2, .ref q3, .null, .null])), (q1, .inl (C 0, 6, .inl (fun _ => 0))), (q2, .inl (C 0, 6, .inl (fun _ => 0))), (q3, .inl (C 0, 6, .inl (fun _ => 0)))]) rfl dX4_init_50 ?_
  refine b_aload_n X.1 dX4_init_53 rfl 0 rfl ?_
  refine b_iconst (v := (2 : Int32)) X.1 dX4_init_54 (by decide) ?_
  refine i_newa X (t := 0) (N' := 2) (a0 := (2, .inl (fun _ => 0))) (atype := .int) m_a_pe_int rfl rfl (fun _ => rfl) (by decide) (by decide) (Nat.le_of_ble_eq_true rfl) (Nat.le_of_ble_eq_true rfl) (Nat.le_of_ble_eq_true rfl) dX4_init_55 (fun q4 => ?_)
  refine i_ws (ws' := [(h0, .inr (4, [.int 0, .int 0, .int 0, .int 0, .int 0, .ref q1, .ref q2, .ref q3, .null, .null])), (q1, .inl (C 0, 6, .inl (fun _ => 0))), (q2, .inl (C 0, 6, .inl (fun _ => 0))), (q3, .inl (C 0, 6, .inl (fun _ => 0))), (q4, .inl (C 0, 2, .inl (fun _ => 0)))]) rfl ?_
  refine i_putF X inkX4 tyX4 tyX4_ok nmX4 0 rfl rfl 8 (by decide) m_f_X4_38 rfl rfl (ty := .array .int) (by decide +kernel) rfl rfl (Nat.le_of_ble_eq_true rfl) (ws' := [(h0, .inr (4, [.int 0, .int 0, .int 0, .int 0, .int 0, .ref q1, .ref q2, .ref q3, .ref q4, .null])), (q1, .inl (C 0, 6, .inl (fun _ => 0))), (q2, .inl (C 0, 6, .inl (fun _ => 0))), (q3, .inl (C 0, 6, .inl (fun _ => 0))), (q4, .inl (C 0, 2, .inl (fun _ => 0)))]) rfl dX4_init_57 ?_
  refine b_aload_n X.1 dX4_init_60 rfl 0 rfl ?_
  refine b_iconst (v := (2 : Int32)) X.1 dX4_init_61 (by decide) ?_
  refine i_newa X (t := 0) (N' := 2) (a0 := (2, .inl (fun _ => 0))) (atype := .int) m_a_pe_int rfl rfl (fun _ => rfl) (by decide) (by decide) (Nat.le_of_ble_eq_true rfl) (Nat.le_of_ble_eq_true rfl) (Nat.le_of_ble_eq_true rfl) dX4_init_62 (fun q5 => ?_)
  refine i_ws (ws' := [(h0, .inr (4, [.int 0, .int 0, .int 0, .int 0, .int 0, .ref q1, .ref q2, .ref q3, .ref q4, .null])), (q1, .inl (C 0, 6, .inl (fun _ => 0))), (q2, .inl (C 0, 6, .inl (fun _ => 0))), (q3, .inl (C 0, 6, .inl (fun _ => 0))), (q4, .inl (C 0, 2, .inl (fun _ => 0))), (q5, .inl (C 0, 2, .inl (fun _ => 0)))]) rfl ?_
  refine i_putF X inkX4 tyX4 tyX4_ok nmX4 0 rfl rfl 9 (by decide) m_f_X4_41 rfl rfl (ty := .array .int) (by decide +kernel) rfl rfl (Nat.le_of_ble_eq_true rfl) (ws' := [(h0, .inr (4, [.int 0, .int 0, .int 0, .int 0, .int 0, .ref q1, .ref q2, .ref q3, .ref q4, .ref q5])), (q1, .inl (C 0, 6, .inl (fun _ => 0))), (q2, .inl (C 0, 6, .inl (fun _ => 0))), (q3, .inl (C 0, 6, .inl (fun _ => 0))), (q4, .inl (C 0, 2, .inl (fun _ => 0))), (q5, .inl (C 0, 2, .inl (fun _ => 0)))]) rfl dX4_init_64 ?_
  refine i_ws (ws' := wl 6 (fun k => [h0, q1, q2, q3, q4, q5].getD k 0) (ES C (fun k => [h0, q1, q2, q3, q4, q5].getD k 0))) rfl ?_
  exact hret (fun k => [h0, q1, q2, q3, q4, q5].getD k 0) _ _ rfl dX4_init_67
abbrev rm_X5_init : Room := { frames := 1, cells := 2, slots := 18, locals := 12 }
set_option maxHeartbeats 4000000 in
set_option maxRecDepth 100000 in
theorem c_X5_init (l : Launch) (D : va_G) (C : Nat → ClassId) : Mc l yX5_init cX5_init 1 rm_X5_init D C 5 [.null, .null, .int 0] [] 3 (EW C) 2 18 := by
  refine fm_c (by decide +kernel) rfl (fun _ => (Nat.le_of_ble_eq_true rfl)) (fun h0 K X hret => ?_)
  have X : CI D C K cX5_init 1 RX5 := X
  refine b_lv (lv' := [(0, .ref h0)]) rfl ?_
  refine b_aload_n X.1 dX5_init_0 rfl 0 rfl ?_
  refine i_obj X m_m_X5_3 (Nat.le_of_ble_eq_true rfl) (Nat.le_of_ble_eq_true rfl) dX5_init_1 ?_
  refine b_aload_n X.1 dX5_init_4 rfl 0 rfl ?_
  refine b_bipush (v := (6 : Int32)) X.1 dX5_init_5 (by decide) ?_
  refine i_newa X (t := 0) (N' := 6) (a0 := (6, .inl (fun _ => 0))) (atype := .int) m_a_pe_int rfl rfl (fun _ => rfl) (by decide) (by decide) (Nat.le_of_ble_eq_true rfl) (Nat.le_of_ble_eq_true rfl) (Nat.le_of_ble_eq_true rfl) dX5_init_7 (fun q1 => ?_)
  refine i_ws (ws' := [(h0, .inr (5, [.null, .null, .int 0])), (q1, .inl (C 0, 6, .inl (fun _ => 0)))]) rfl ?_
  refine i_putF X inkX5 tyX5 tyX5_ok nmX5 0 rfl rfl 0 (by decide) m_f_X5_9 rfl rfl (ty := .array .int) (by decide +kernel) rfl rfl (Nat.le_of_ble_eq_true rfl) (ws' := [(h0, .inr (5, [.ref q1, .null, .int 0])), (q1, .inl (C 0, 6, .inl (fun _ => 0)))]) rfl dX5_init_9 ?_
  refine b_aload_n X.1 dX5_init_12 rfl 0 rfl ?_
  refine b_bipush (v := (12 : Int32)) X.1 dX5_init_13 (by decide) ?_
  refine i_newa X (t := 0) (N' := 12) (a0 := (12, .inl (fun _ => 0))) (atype := .int) m_a_pe_int rfl rfl (fun _ => rfl) (by decide) (by decide) (Nat.le_of_ble_eq_true rfl) (Nat.le_of_ble_eq_true rfl) (Nat.le_of_ble_eq_true rfl) dX5_init_15 (fun q2 => ?_)
  refine i_ws (ws' := [(h0, .inr (5, [.ref q1, .null, .int 0])), (q1, .inl (C 0, 6, .inl (fun _ => 0))), (q2, .inl (C 0, 12, .inl (fun _ => 0)))]) rfl ?_
  refine i_putF X inkX5 tyX5 tyX5_ok nmX5 0 rfl rfl 1 (by decide) m_f_X5_15 rfl rfl (ty := .array .int) (by decide +kernel) rfl rfl (Nat.le_of_ble_eq_true rfl) (ws' := [(h0, .inr (5, [.ref q1, .ref q2, .int 0])), (q1, .inl (C 0, 6, .inl (fun _ => 0))), (q2, .inl (C 0, 12, .inl (fun _ => 0)))]) rfl dX5_init_17 ?_
  refine b_aload_n X.1 dX5_init_20 rfl 0 rfl ?_
  refine b_iconst (v := (0 : Int32)) X.1 dX5_init_21 (by decide) ?_
  refine i_put X inkX5 tyX5 tyX5_ok nmX5 0 rfl rfl 2 (by decide) m_f_X5_18 rfl (ty := .int) (by decide +kernel) rfl rfl (Nat.le_of_ble_eq_true rfl) (ws' := [(h0, .inr (5, [.ref q1, .ref q2, .int 0])), (q1, .inl (C 0, 6, .inl (fun _ => 0))), (q2, .inl (C 0, 12, .inl (fun _ => 0)))]) rfl dX5_init_22 ?_
  refine i_ws (ws' := wl 3 (fun k => [h0, q1, q2].getD k 0) (EW C (fun k => [h0, q1, q2].getD k 0))) rfl ?_
  exact hret (fun k => [h0, q1, q2].getD k 0) _ _ rfl dX5_init_25
abbrev rm_X1_init6 : Room := { frames := 1, cells := 3, slots := 18, locals := 13 }
set_option maxHeartbeats 4000000 in
set_option maxRecDepth 100000 in
theorem c_X1_init6 (l : Launch) (D : va_G) (C : Nat → ClassId) : Mc l yX1_init cX1_init 3 rm_X1_init6 D C 1 [.null, .null, .null, .int 0] [.int 6] 4 (EN C 6) 3 18 := by
  refine fm_c (by decide +kernel) rfl (fun _ => (Nat.le_of_ble_eq_true rfl)) (fun h0 K X hret => ?_)
  have X : CI D C K cX1_init 3 RX1 := X
  refine b_lv (lv' := [(0, .ref h0), (1, .int 6)]) rfl ?_
  refine b_aload_n X.1 dX1_init_0 rfl 0 rfl ?_
  refine i_obj X m_m_X1_1 (Nat.le_of_ble_eq_true rfl) (Nat.le_of_ble_eq_true rfl) dX1_init_1 ?_
  refine b_aload_n X.1 dX1_init_4 rfl 0 rfl ?_
  refine b_iconst (v := (0 : Int32)) X.1 dX1_init_5 (by decide) ?_
  refine i_put X inkX1 tyX1 tyX1_ok nmX1 0 rfl rfl 3 (by decide) m_f_X1_7 rfl (ty := .int) (by decide +kernel) rfl rfl (Nat.le_of_ble_eq_true rfl) (ws' := [(h0, .inr (1, [.null, .null, .null, .int 0]))]) rfl dX1_init_6 ?_
  refine b_iload_n X.1 dX1_init_9 rfl 1 rfl ?_
  refine b_iconst (v := (0 : Int32)) X.1 dX1_init_10 (by decide) ?_
  refine i_max X m_m_X1_13 m_s_mmax m_n_J9 m_c_mmax (Nat.le_of_ble_eq_true rfl) (Nat.le_of_ble_eq_true rfl) (Nat.le_of_ble_eq_true rfl) (Nat.le_of_ble_eq_true rfl) dX1_init_11 ?_
  refine b_st (st' := [.int 6]) rfl ?_
  refine b_istore_n (lv' := [(2, .int 6), (0, .ref h0), (1, .int 6)]) X.1 dX1_init_14 rfl (by decide) rfl ?_
  refine b_aload_n X.1 dX1_init_15 rfl 1 rfl ?_
  refine b_iload_n X.1 dX1_init_16 rfl 0 rfl ?_
  refine i_newa X (t := 0) (N' := 6) (a0 := (6, .inl (fun _ => 0))) (atype := .int) m_a_pe_int rfl rfl (fun _ => rfl) (by decide) (by decide) (Nat.le_of_ble_eq_true rfl) (Nat.le_of_ble_eq_true rfl) (Nat.le_of_ble_eq_true rfl) dX1_init_17 (fun q1 => ?_)
  refine i_ws (ws' := [(h0, .inr (1, [.null, .null, .null, .int 0])), (q1, .inl (C 0, 6, .inl (fun _ => 0)))]) rfl ?_
  refine i_putF X inkX1 tyX1 tyX1_ok nmX1 0 rfl rfl 0 (by decide) m_f_X1_19 rfl rfl (ty := .array .int) (by decide +kernel) rfl rfl (Nat.le_of_ble_eq_true rfl) (ws' := [(h0, .inr (1, [.ref q1, .null, .null, .int 0])), (q1, .inl (C 0, 6, .inl (fun _ => 0)))]) rfl dX1_init_19 ?_
  refine b_aload_n X.1 dX1_init_22 rfl 1 rfl ?_
  refine b_iload_n X.1 dX1_init_23 rfl 0 rfl ?_
  refine i_newa X (t := 0) (N' := 6) (a0 := (6, .inl (fun _ => 0))) (atype := .int) m_a_pe_int rfl rfl (fun _ => rfl) (by decide) (by decide) (Nat.le_of_ble_eq_true rfl) (Nat.le_of_ble_eq_true rfl) (Nat.le_of_ble_eq_true rfl) dX1_init_24 (fun q2 => ?_)
  refine i_ws (ws' := [(h0, .inr (1, [.ref q1, .null, .null, .int 0])), (q1, .inl (C 0, 6, .inl (fun _ => 0))), (q2, .inl (C 0, 6, .inl (fun _ => 0)))]) rfl ?_
  refine i_putF X inkX1 tyX1 tyX1_ok nmX1 0 rfl rfl 1 (by decide) m_f_X1_23 rfl rfl (ty := .array .int) (by decide +kernel) rfl rfl (Nat.le_of_ble_eq_true rfl) (ws' := [(h0, .inr (1, [.ref q1, .ref q2, .null, .int 0])), (q1, .inl (C 0, 6, .inl (fun _ => 0))), (q2, .inl (C 0, 6, .inl (fun _ => 0)))]) rfl dX1_init_26 ?_
  refine b_aload_n X.1 dX1_init_29 rfl 1 rfl ?_
  refine b_iload_n X.1 dX1_init_30 rfl 0 rfl ?_
  refine i_newa X (t := 0) (N' := 6) (a0 := (6, .inl (fun _ => 0))) (atype := .int) m_a_pe_int rfl rfl (fun _ => rfl) (by decide) (by decide) (Nat.le_of_ble_eq_true rfl) (Nat.le_of_ble_eq_true rfl) (Nat.le_of_ble_eq_true rfl) dX1_init_31 (fun q3 => ?_)
  refine i_ws (ws' := [(h0, .inr (1, [.ref q1, .ref q2, .null, .int 0])), (q1, .inl (C 0, 6, .inl (fun _ => 0))), (q2, .inl (C 0, 6, .inl (fun _ => 0))), (q3, .inl (C 0, 6, .inl (fun _ => 0)))]) rfl ?_
  refine i_putF X inkX1 tyX1 tyX1_ok nmX1 0 rfl rfl 2 (by decide) m_f_X1_26 rfl rfl (ty := .array .int) (by decide +kernel) rfl rfl (Nat.le_of_ble_eq_true rfl) (ws' := [(h0, .inr (1, [.ref q1, .ref q2, .ref q3, .int 0])), (q1, .inl (C 0, 6, .inl (fun _ => 0))), (q2, .inl (C 0, 6, .inl (fun _ => 0))), (q3, .inl (C 0, 6, .inl (fun _ => 0)))]) rfl dX1_init_33 ?_
  refine i_ws (ws' := wl 4 (fun k => [h0, q1, q2, q3].getD k 0) (EN C 6 (fun k => [h0, q1, q2, q3].getD k 0))) rfl ?_
  exact hret (fun k => [h0, q1, q2, q3].getD k 0) _ _ rfl dX1_init_36
abbrev rm_X1_init20 : Room := { frames := 1, cells := 3, slots := 60, locals := 13 }
set_option maxHeartbeats 4000000 in
set_option maxRecDepth 100000 in
theorem c_X1_init20 (l : Launch) (D : va_G) (C : Nat → ClassId) : Mc l yX1_init cX1_init 3 rm_X1_init20 D C 1 [.null, .null, .null, .int 0] [.int 20] 4 (EN C 20) 3 60 := by
  refine fm_c (by decide +kernel) rfl (fun _ => (Nat.le_of_ble_eq_true rfl)) (fun h0 K X hret => ?_)
  have X : CI D C K cX1_init 3 RX1 := X
  refine b_lv (lv' := [(0, .ref h0), (1, .int 20)]) rfl ?_
  refine b_aload_n X.1 dX1_init_0 rfl 0 rfl ?_
  refine i_obj X m_m_X1_1 (Nat.le_of_ble_eq_true rfl) (Nat.le_of_ble_eq_true rfl) dX1_init_1 ?_
  refine b_aload_n X.1 dX1_init_4 rfl 0 rfl ?_
  refine b_iconst (v := (0 : Int32)) X.1 dX1_init_5 (by decide) ?_
  refine i_put X inkX1 tyX1 tyX1_ok nmX1 0 rfl rfl 3 (by decide) m_f_X1_7 rfl (ty := .int) (by decide +kernel) rfl rfl (Nat.le_of_ble_eq_true rfl) (ws' := [(h0, .inr (1, [.null, .null, .null, .int 0]))]) rfl dX1_init_6 ?_
  refine b_iload_n X.1 dX1_init_9 rfl 1 rfl ?_
  refine b_iconst (v := (0 : Int32)) X.1 dX1_init_10 (by decide) ?_
  refine i_max X m_m_X1_13 m_s_mmax m_n_J9 m_c_mmax (Nat.le_of_ble_eq_true rfl) (Nat.le_of_ble_eq_true rfl) (Nat.le_of_ble_eq_true rfl) (Nat.le_of_ble_eq_true rfl) dX1_init_11 ?_
  refine b_st (st' := [.int 20]) rfl ?_
  refine b_istore_n (lv' := [(2, .int 20), (0, .ref h0), (1, .int 20)]) X.1 dX1_init_14 rfl (by decide) rfl ?_
  refine b_aload_n X.1 dX1_init_15 rfl 1 rfl ?_
  refine b_iload_n X.1 dX1_init_16 rfl 0 rfl ?_
  refine i_newa X (t := 0) (N' := 20) (a0 := (20, .inl (fun _ => 0))) (atype := .int) m_a_pe_int rfl rfl (fun _ => rfl) (by decide) (by decide) (Nat.le_of_ble_eq_true rfl) (Nat.le_of_ble_eq_true rfl) (Nat.le_of_ble_eq_true rfl) dX1_init_17 (fun q1 => ?_)
  refine i_ws (ws' := [(h0, .inr (1, [.null, .null, .null, .int 0])), (q1, .inl (C 0, 20, .inl (fun _ => 0)))]) rfl ?_
  refine i_putF X inkX1 tyX1 tyX1_ok nmX1 0 rfl rfl 0 (by decide) m_f_X1_19 rfl rfl (ty := .array .int) (by decide +kernel) rfl rfl (Nat.le_of_ble_eq_true rfl) (ws' := [(h0, .inr (1, [.ref q1, .null, .null, .int 0])), (q1, .inl (C 0, 20, .inl (fun _ => 0)))]) rfl dX1_init_19 ?_
  refine b_aload_n X.1 dX1_init_22 rfl 1 rfl ?_
  refine b_iload_n X.1 dX1_init_23 rfl 0 rfl ?_
  refine i_newa X (t := 0) (N' := 20) (a0 := (20, .inl (fun _ => 0))) (atype := .int) m_a_pe_int rfl rfl (fun _ => rfl) (by decide) (by decide) (Nat.le_of_ble_eq_true rfl) (Nat.le_of_ble_eq_true rfl) (Nat.le_of_ble_eq_true rfl) dX1_init_24 (fun q2 => ?_)
  refine i_ws (ws' := [(h0, .inr (1, [.ref q1, .null, .null, .int 0])), (q1, .inl (C 0, 20, .inl (fun _ => 0))), (q2, .inl (C 0, 20, .inl (fun _ => 0)))]) rfl ?_
  refine i_putF X inkX1 tyX1 tyX1_ok nmX1 0 rfl rfl 1 (by decide) m_f_X1_23 rfl rfl (ty := .array .int) (by decide +kernel) rfl rfl (Nat.le_of_ble_eq_true rfl) (ws' := [(h0, .inr (1, [.ref q1, .ref q2, .null, .int 0])), (q1, .inl (C 0, 20, .inl (fun _ => 0))), (q2, .inl (C 0, 20, .inl (fun _ => 0)))]) rfl dX1_init_26 ?_
  refine b_aload_n X.1 dX1_init_29 rfl 1 rfl ?_
  refine b_iload_n X.1 dX1_init_30 rfl 0 rfl ?_
  refine i_newa X (t := 0) (N' := 20) (a0 := (20, .inl (fun _ => 0))) (atype := .int) m_a_pe_int rfl rfl (fun _ => rfl) (by decide) (by decide) (Nat.le_of_ble_eq_true rfl) (Nat.le_of_ble_eq_true rfl) (Nat.le_of_ble_eq_true rfl) dX1_init_31 (fun q3 => ?_)
  refine i_ws (ws' := [(h0, .inr (1, [.ref q1, .ref q2, .null, .int 0])), (q1, .inl (C 0, 20, .inl (fun _ => 0))), (q2, .inl (C 0, 20, .inl (fun _ => 0))), (q3, .inl (C 0, 20, .inl (fun _ => 0)))]) rfl ?_
  refine i_putF X inkX1 tyX1 tyX1_ok nmX1 0 rfl rfl 2 (by decide) m_f_X1_26 rfl rfl (ty := .array .int) (by decide +kernel) rfl rfl (Nat.le_of_ble_eq_true rfl) (ws' := [(h0, .inr (1, [.ref q1, .ref q2, .ref q3, .int 0])), (q1, .inl (C 0, 20, .inl (fun _ => 0))), (q2, .inl (C 0, 20, .inl (fun _ => 0))), (q3, .inl (C 0, 20, .inl (fun _ => 0)))]) rfl dX1_init_33 ?_
  refine i_ws (ws' := wl 4 (fun k => [h0, q1, q2, q3].getD k 0) (EN C 20 (fun k => [h0, q1, q2, q3].getD k 0))) rfl ?_
  exact hret (fun k => [h0, q1, q2, q3].getD k 0) _ _ rfl dX1_init_36
