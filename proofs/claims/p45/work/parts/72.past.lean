/-! ===== worlds put together; what Past makes ===== -/
def gl {α : Type} (n : Nat) (a b : Nat → α) : Nat → α := fun k => if k < n then a k else b (k - n)
theorem gl_lo {α : Type} {n k : Nat} {a b : Nat → α} (h : k < n) : gl n a b k = a k := by unfold gl; rw [if_pos h]
theorem gl_hi {α : Type} {n k : Nat} {a b : Nat → α} (h : n ≤ k) : gl n a b k = b (k - n) := by unfold gl; rw [if_neg (by omega)]
theorem wl_len {n : Nat} {a : Nat → Nat} {E : Nat → va_E} : (wl n a E).length = n := by simp [wl]
theorem wl_app {n m : Nat} {a b : Nat → Nat} {E F : Nat → va_E} : wl n a E ++ wl m b F = wl (n + m) (gl n a b) (gl n E F) := by
  apply List.ext_getElem?
  intro j
  by_cases h : j < n
  · rw [List.getElem?_append_left (by rw [wl_len]; exact h), wl_get h, wl_get (by omega), gl_lo h, gl_lo h]
  · rw [List.getElem?_append_right (by rw [wl_len]; omega), wl_len]
    by_cases h2 : j < n + m
    · rw [wl_get (by omega), wl_get h2, gl_hi (by omega), gl_hi (by omega)]
    · rw [List.getElem?_eq_none (by rw [wl_len]; omega), List.getElem?_eq_none (by rw [wl_len]; omega)]
theorem wl_one {q : Nat} {e : va_E} : [(q, e)] = wl 1 (fun _ => q) (fun _ => e) := rfl
theorem wl_push {n q : Nat} {a : Nat → Nat} {E : Nat → va_E} {e : va_E} : wl n a E ++ [(q, e)] = wl (n + 1) (gl n a (fun _ => q)) (gl n E (fun _ => e)) := by rw [wl_one, wl_app]
theorem wl_cons {n q : Nat} {a : Nat → Nat} {E : Nat → va_E} {e : va_E} : (q, e) :: wl n a E = wl (1 + n) (gl 1 (fun _ => q) a) (gl 1 (fun _ => e) E) := by
  show [(q, e)] ++ wl n a E = _
  rw [wl_one, wl_app]
/-- the same cell: an array of references is told by its places alone -/
def eqE (e e' : va_E) : Prop := e = e' ∨ ∃ (cA : ClassId) (n : Nat) (f f' : Nat → Option Nat), e = .inl (cA, n, .inr (.inr (.inr (.inr f)))) ∧ e' = .inl (cA, n, .inr (.inr (.inr (.inr f')))) ∧ ∀ j, j < n → f j = f' j
theorem arrV_ext {cA : ClassId} {N : Nat} {f f' : Nat → Value} (h : ∀ j, j < N → f j = f' j) : arrV cA N f = arrV cA N f' := by
  have : (fun j : Fin N => f j.val) = (fun j : Fin N => f' j.val) := funext fun j => h j.1 j.2
  unfold arrV
  rw [this]
theorem at_to {D : va_G} {cl : List vw_C} {a : Nat} {e e' : va_E} {H : Heap} (h : eqE e e') (ha : va_at D cl (a, e) H) : va_at D cl (a, e') H := by
  rcases h with rfl | ⟨cA, n, f, f', rfl, rfl, hf⟩
  · exact ha
  · have h1 : H[a]? = some (arrV cA n (fun j => va_rf (f j))) := ha
    show H[a]? = some (arrV cA n (fun j => va_rf (f' j)))
    rw [h1, arrV_ext (fun j hj => by rw [hf j hj])]
theorem P_to {D : va_G} {cl : List vw_C} {N : Nat} {ad : Nat → Nat} {E E' : Nat → va_E} {H : Heap} (h : ∀ k, k < N → eqE (E k) (E' k)) (hP : va_P D cl (wl N ad E) H) : va_P D cl (wl N ad E') H := by
  intro k q hk
  obtain ⟨k1, rfl⟩ := wl_some hk
  exact at_to (h k k1) (hP k (ad k, E k) (wl_get k1))
section ICT
variable {l : Launch} {D : va_G} {C : Nat → ClassId} {R : Room} {K : Ctx} {n : Nat} {pc : Nat} {lv lv' : List (Nat × Value)} {st : List Value} {cc : ByteArray} {own : String} {c0 s0 : Nat} {ws ws' : va_W} {a : Nat}
theorem i_to {N : Nat} {ad : Nat → Nat} {E E' : Nat → va_E} (h : ∀ k, k < N → eqE (E k) (E' k)) (kk : WI l D R K n c0 s0 (wl N ad E') pc lv st) : WI l D R K n c0 s0 (wl N ad E) pc lv st :=
  fun H locs hw ls hl => kk H locs ⟨P_to h hw.1, wl_D hw.2.1 (fun _ h => h), hw.2.2⟩ ls hl
theorem i_cs {c1 s1 : Nat} (hc : c0 = c1) (hs : s0 = s1) (kk : WI l D R K n c1 s1 ws pc lv st) : WI l D R K n c0 s0 ws pc lv st := by subst hc hs; exact kk
end ICT
def EP (C : Nat → ClassId) (ad : Nat → Nat) : Nat → va_E := fun k => if k = 0 then .inr (2, [.ref (ad 1), .int 0, .int 0]) else if k = 1 then .inl (C 3, 30, .inr (.inr (.inr (.inr (fun j => some (ad (2 + 6 * j))))))) else ES C (fun t => ad (k - (k - 2) % 6 + t)) ((k - 2) % 6)
theorem ES_ext {C : Nat → ClassId} {a a' : Nat → Nat} {k : Nat} (h : ∀ t, t < 6 → a t = a' t) : ES C a k = ES C a' k := by
  unfold ES
  rw [h 1 (by decide), h 2 (by decide), h 3 (by decide), h 4 (by decide), h 5 (by decide)]
theorem hfsX4 : ∀ j, j < 10 → defaultValue (tyX4 j) = vp_V [.int 0, .int 0, .int 0, .int 0, .int 0, .null, .null, .null, .null, .null] j := by
  intro j hj
  rcases (by omega : j = 0 ∨ j = 1 ∨ j = 2 ∨ j = 3 ∨ j = 4 ∨ j = 5 ∨ j = 6 ∨ j = 7 ∨ j = 8 ∨ j = 9) with rfl | rfl | rfl | rfl | rfl | rfl | rfl | rfl | rfl | rfl <;> rfl
theorem hd_X4_init : kD yX4_init 0 := by decide +kernel
theorem nx_X2_24 : (RX2, 24, yX4_init, "FogNets") ∈ nestL := by decide +kernel
abbrev rm_X2_init : Room := { frames := 2, cells := 181, slots := 990, locals := 32 }
set_option maxHeartbeats 4000000 in
set_option maxRecDepth 100000 in
theorem c_X2_init (l : Launch) (D : va_G) (C : Nat → ClassId) : Mc l yX2_init cX2_init 2 rm_X2_init D C 2 [.null, .int 0, .int 0] [] 182 (EP C) 181 990 := by
  refine fm_c (by decide +kernel) rfl (fun _ => (Nat.le_of_ble_eq_true rfl)) (fun h0 K X hret => ?_)
  have X : CI D C K cX2_init 2 RX2 := X
  refine b_lv (lv' := [(0, .ref h0)]) rfl ?_
  refine b_aload_n X.1 dX2_init_0 rfl 0 rfl ?_
  refine i_obj X m_m_X2_3 (Nat.le_of_ble_eq_true rfl) (Nat.le_of_ble_eq_true rfl) dX2_init_1 ?_
  refine b_aload_n X.1 dX2_init_4 rfl 0 rfl ?_
  refine b_bipush (v := (30 : Int32)) X.1 dX2_init_5 (by decide) ?_
  refine i_newq X (N' := 30) m_l_X2_9 (by decide) (by decide) (Nat.le_of_ble_eq_true rfl) (Nat.le_of_ble_eq_true rfl) (Nat.le_of_ble_eq_true rfl) dX2_init_7 (fun q1 => ?_)
  refine i_ws (ws' := [(h0, .inr (2, [.null, .int 0, .int 0])), (q1, .inl (C 3, 30, .inr (.inr (.inr (.inr (fun _ => none))))))]) rfl ?_
  refine i_putF X inkX2 tyX2 tyX2_ok nmX2 0 rfl rfl 0 (by decide) m_f_X2_11 rfl rfl (ty := .array (.object "FogNets$State")) (by decide +kernel) rfl rfl (Nat.le_of_ble_eq_true rfl) (ws' := [(h0, .inr (2, [.ref q1, .int 0, .int 0])), (q1, .inl (C 3, 30, .inr (.inr (.inr (.inr (fun _ => none))))))]) rfl dX2_init_10 ?_
  refine b_aload_n X.1 dX2_init_13 rfl 0 rfl ?_
  refine b_iconst (v := (0 : Int32)) X.1 dX2_init_14 (by decide) ?_
  refine i_put X inkX2 tyX2 tyX2_ok nmX2 0 rfl rfl 1 (by decide) m_f_X2_17 rfl (ty := .int) (by decide +kernel) rfl rfl (Nat.le_of_ble_eq_true rfl) (ws' := [(h0, .inr (2, [.ref q1, .int 0, .int 0])), (q1, .inl (C 3, 30, .inr (.inr (.inr (.inr (fun _ => none))))))]) rfl dX2_init_15 ?_
  refine b_aload_n X.1 dX2_init_18 rfl 0 rfl ?_
  refine b_iconst (v := (0 : Int32)) X.1 dX2_init_19 (by decide) ?_
  refine i_put X inkX2 tyX2 tyX2_ok nmX2 0 rfl rfl 2 (by decide) m_f_X2_21 rfl (ty := .int) (by decide +kernel) rfl rfl (Nat.le_of_ble_eq_true rfl) (ws' := [(h0, .inr (2, [.ref q1, .int 0, .int 0])), (q1, .inl (C 3, 30, .inr (.inr (.inr (.inr (fun _ => none))))))]) rfl dX2_init_20 ?_
  refine b_iconst (v := nI 0) X.1 dX2_init_23 (by decide) ?_
  refine b_istore_n (lv' := [(1, .int (nI 0)), (0, .ref h0)]) X.1 dX2_init_24 rfl (by decide) rfl ?_
  refine b_sub (lv' := [(0, .ref h0), (1, .int (nI 0))]) [1, 0] rfl ?_
  refine i_cs (c1 := 1 + 6 * 0) (s1 := 30 + 32 * 0) rfl rfl ?_
  refine i_ws (ws' := wl (2 + 6 * 0) (fun k => if k = 0 then h0 else q1) (fun k => if k = 0 then .inr (2, [.ref q1, .int 0, .int 0]) else .inl (C 3, 30, .inr (.inr (.inr (.inr (fun _ => none))))))) rfl ?_
  refine cnt_dn (P := fun i => i ≤ 30 → ∀ (a : Nat → Nat) (E : Nat → va_E) (f : Nat → Option Nat), a 0 = h0 → E 0 = .inr (2, [.ref (a 1), .int 0, .int 0]) → E 1 = .inl (C 3, 30, .inr (.inr (.inr (.inr f)))) → (∀ j, j < i → f j = some (a (2 + 6 * j))) → (∀ k, 2 ≤ k → k < 2 + 6 * i → E k = ES C (fun t => a (k - (k - 2) % 6 + t)) ((k - 2) % 6)) →
    WI l D rm_X2_init K 2 (1 + 6 * i) (30 + 32 * i) (wl (2 + 6 * i) a E) 25 [(0, .ref h0), (1, .int (nI i))] []) 30 ?_ ?_ (by decide) _ _ (fun _ => none) rfl rfl rfl (fun j hj => by omega) (fun k h1 h2 => by omega)
  · intro _ a E f ha e0 e1 hf hE
    refine b_iload_n X.1 dX2_init_25 rfl 1 rfl ?_
    refine b_bipush (v := nI 30) X.1 dX2_init_26 (by decide) ?_
    refine b_icmp_ge (t := 50) X.1 dX2_init_28 (by decide) (fun _ => ?_) (fun c => absurd (by decide) c)
    refine i_to (E' := EP C a) (fun k hk => ?_) (hret a 50 _ ha dX2_init_50)
    unfold EP
    by_cases k0 : k = 0
    · subst k0; exact Or.inl (by rw [if_pos rfl, e0])
    · by_cases k1 : k = 1
      · subst k1; exact Or.inr ⟨C 3, 30, f, _, e1, rfl, hf⟩
      · rw [if_neg k0, if_neg k1]; exact Or.inl (hE k (by omega) hk)
  · intro i hi ih _ a E f ha e0 e1 hf hE
    refine b_iload_n X.1 dX2_init_25 rfl 1 rfl ?_
    refine b_bipush (v := nI 30) X.1 dX2_init_26 (by decide) ?_
    refine b_icmp_ge (t := 50) X.1 dX2_init_28 (by decide) (fun c => absurd ((z_le (by decide) (by omega)).mp c) (by omega)) (fun _ => ?_)
    refine b_aload_n X.1 dX2_init_31 rfl 0 rfl ?_
    refine i_get X inkX2 0 (fs := [.ref (a 1), .int 0, .int 0]) (by rw [wl_get (by omega), ha, e0]) rfl 0 (by decide) m_f_X2_11 (v := .ref (a 1)) rfl dX2_init_32 ?_
    refine b_iload_n X.1 dX2_init_35 rfl 1 rfl ?_
    refine i_new X (ci := 4) inkX4 tyX4 tyX4_ok m_l_X2_9 m_o_X4 m_n_X4 rfl hfsX4 (show 1 + 6 * i + 1 ≤ 181 by omega) (show 30 + 32 * i + 10 ≤ 990 by omega) dX2_init_36 (fun q => ?_)
    refine b_dup X.1 dX2_init_39 rfl ?_
    refine i_callN X (c_X4_init l D C) nx_X2_24 m_i_X4_init m_n_X4 m_c_X4_init rfl hd_X4_init rfl rfl ⟨Nat.le_of_ble_eq_true rfl, Nat.le_of_ble_eq_true rfl⟩ rfl rfl (Nat.le_of_ble_eq_true rfl) dX2_init_40 ⟨show 1 + 6 * i + 1 + 5 ≤ 181 by omega, show 30 + 32 * i + 10 + 22 ≤ 990 by omega⟩ (fun b hb => ?_)
    subst hb
    refine i_ws wl_app ?_
    have g1 : gl (2 + 6 * i) a b 1 = a 1 := gl_lo (by omega)
    have g2 : gl (2 + 6 * i) a b (2 + 6 * i) = b 0 := by rw [gl_hi (Nat.le_refl _), Nat.sub_self]
    have he : (wl (2 + 6 * i + 6) (gl (2 + 6 * i) a b) (gl (2 + 6 * i) E (ES C b))).set 1 (a 1, .inl (C 3, 30, .inr (.inr (.inr (.inr (va_up f (nI i).toNatClampNeg (some (b 0)))))))) = wl (2 + 6 * i + 6) (gl (2 + 6 * i) a b) (va_up (gl (2 + 6 * i) E (ES C b)) 1 (.inl (C 3, 30, .inr (.inr (.inr (.inr (va_up f (nI i).toNatClampNeg (some (b 0))))))))) := by
      rw [← g1]
      exact wl_set (by omega) _
    refine i_astq X 1 (2 + 6 * i) (f := f) (by rw [wl_get (by omega), g1, gl_lo (by omega), e1]) (by rw [wl_get (by omega), g2, gl_hi (Nat.le_refl _), Nat.sub_self]; rfl) (vp_in_nI hi (by decide)) he dX2_init_43 ?_
    rw [z_cl (by omega)]
    refine b_iinc (x := nI (i + 1)) (lv' := [(1, .int (nI (i + 1))), (0, .ref h0)]) (q := 1) X.1 dX2_init_44 rfl (z_add i 1) (by decide) rfl ?_
    refine b_goto (t := 25) X.1 dX2_init_47 (by decide) ?_
    refine b_sub (lv' := [(0, .ref h0), (1, .int (nI (i + 1)))]) [1, 0] rfl ?_
    refine i_cs (c1 := 1 + 6 * (i + 1)) (s1 := 30 + 32 * (i + 1)) (by omega) (by omega) ?_
    rw [show 2 + 6 * i + 6 = 2 + 6 * (i + 1) by omega]
    refine ih (by omega) _ _ (va_up f i (some (b 0))) (by rw [gl_lo (by omega)]; exact ha) ?_ (va_up_self _ _ _) (fun j hj => ?_) (fun k k1 k2 => ?_)
    · rw [va_up_ne _ _ (by decide), gl_lo (by omega), g1]; exact e0
    · by_cases q : j = i
      · subst q; rw [va_up_self, g2]
      · rw [va_up_ne _ _ q, gl_lo (by omega)]; exact hf j (by omega)
    · rw [va_up_ne _ _ (by omega)]
      by_cases q : k < 2 + 6 * i
      · rw [gl_lo q, hE k k1 q]
        exact ES_ext (fun t ht => (gl_lo (by omega)).symm)
      · rw [gl_hi (by omega)]
        have e : (k - 2) % 6 = k - (2 + 6 * i) := by omega
        rw [e]
        refine ES_ext (fun t ht => ?_)
        rw [gl_hi (by omega)]
        congr 1
        omega
