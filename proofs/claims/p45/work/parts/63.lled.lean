/-! ===== the law's checks: drops led, a thickness, the best told ===== -/
theorem m1_ge {n : Nat} (h : n < 2147483648) : ¬ (nI n ≤ (-1 : Int32)) := Int32.not_le.mpr (z_m1le h)
theorem shr_bit {u p : Nat} (hu : u < 64) (hp : p < 6) : ((nI u >>> (nI p &&& 31)) &&& (nI 1)) = nI (u / 2 ^ p % 2) := by
  rw [z_shr (by omega) (by omega), z_and1 (Nat.lt_of_le_of_lt (Nat.div_le_self _ _) (by omega))]
theorem or_bit {u p q : Nat} (h : (u ||| 2 ^ p) / 2 ^ q % 2 = 1) : u / 2 ^ q % 2 = 1 ∨ p = q := by
  have h1 : bitN (u ||| 2 ^ p) q = true := decide_eq_true h
  rw [bitN_eq, Nat.testBit_or, Nat.testBit_two_pow] at h1
  rcases (Bool.or_eq_true _ _).mp h1 with z | z
  · left
    rw [← bitN_eq] at z
    exact of_decide_eq_true z
  · right; exact of_decide_eq_true z
theorem cnt_between {f : Nat → Bool} {k1 k2 n : Nat} (h1 : ∀ j, j < k1 → f j = false) (h2 : ∀ j, k2 < j → j < n → f j = false) : sumN (fun t => if f t = true then 1 else 0) n ≤ k2 + 1 - k1 := by
  rw [sumN_congr (g := fun t => if (f t && decide (t ≤ k2)) = true then 1 else 0) n (fun t ht => ?_)]
  · refine cnt_span (f := fun t => f t && decide (t ≤ k2)) (lo := k1) (hi := k2) (fun j hj => ?_) (fun j hj => ?_) n
    · show (f j && decide (j ≤ k2)) = false
      rw [h1 j hj, Bool.false_and]
    · show (f j && decide (j ≤ k2)) = false
      rw [decide_eq_false (show ¬ j ≤ k2 by omega), Bool.and_false]
  · by_cases c : t ≤ k2
    · rw [decide_eq_true c, Bool.and_true]
    · rw [h2 t (by omega) ht, Bool.false_and]
section LLED
variable {μ : Mem} {co : Co} {r : Ro} {U : Un} {sd : Nat} {I : Im} {G : Gt} {L : Nat → Nat → Nat} {Q : Int32 → Mem → Prop} {Q0 : Int32 → Prop}
/-- before drop i: the last post led to, the posts used, whether any went beyond -/
def LI (co : Co) (r : Ro) (x s i : Nat) (v4 : Int32) (u b : Nat) : Prop :=
  u < 64 ∧ (b ≤ i ∧ (0 < b → pfL co r x s 12 ≤ i)) ∧ (∀ p, p < co 0 3 → u / 2 ^ p % 2 = 1 → ∃ j, j < i ∧ ldN co r x s j = some p) ∧
  ((v4 = -2 ∧ ∀ j, j < i → ldN co r x s j = none) ∨ ∃ p k, v4 = nI p ∧ gO co r (hs co (r 0)) s k = some p ∧ (∃ j, j < i ∧ pfL co r x s k ≤ j ∧ j < pfL co r x s (k + 1)) ∧
    ∀ j q, j < i → ldN co r x s j = some q → ∃ k', gO co r (hs co (r 0)) s k' = some q ∧ k' ≤ k)
theorem L_led {x s : Nat} (h : OK μ co r U sd I G L) (k : LK co L) (hx : x ≤ 99) (hs1 : s ≤ 1) (q : ∀ μ' : Mem, OK μ' co r U sd I G L → Q (nI 1) μ') : w_L_led (nI x) (nI s) μ Q := by
  have hv := h.v.1
  have hn := hv.2.2.2.1
  have hcc := hv.1
  have hr := h.v.2.1
  have h64 := hs_64 (d := r 0) hv
  have hrp := hr.2.2.2.2.2.2.2.2.2.1
  unfold w_L_led w_L_led_13
  intro X hX
  refine cnt_dn (P := fun i => i ≤ x → ∀ (v4 : Int32) (u b : Nat) (μ1 : Mem), LI co r x s i v4 u b → OK μ1 co r U sd I G L → X v4 (nI u) (nI b) (nI i) μ1) x ?_ ?_ (by omega) (-2) 0 0 μ ?_ h
  · intro _ v4 u b μ1 li h1
    apply hX
    unfold s_L_led_13
    exact br_yes ((z_le (by omega) (by omega)).mpr (Nat.le_refl _)) (q μ1 h1)
  · intro i hi ih _ v4 u b μ1 li h1
    have ih := ih (by omega)
    obtain ⟨hu, ⟨hbi, hb⟩, hused, hlast⟩ := li
    apply hX
    unfold s_L_led_13
    refine br_no (fun z => ?_) (U_led h1 hx hs1 hi (fun μ2 h2 => ?_))
    · have z := (z_le (by omega) (by omega)).mp z
      omega
    rw [h2.g3 k]
    cases e : ldN co r x s i with
    | none =>
      have e' : tk (gO co r (hs co (r 0)) s) (lead co r (hs co (r 0)) s x).2 i 12 0 0 = none := e
      rw [e']
      have h12 := ld_none e
      have body : w_L_led_53 (nI x) (nI s) X v4 (nI u) (nI b) (nI i) (-1) μ2 Q := by
        unfold w_L_led_53
        refine br_yes (by decide) ?_
        unfold w_L_led_76
        refine br_yes (by decide) ?_
        unfold w_L_led_97
        refine br_yes (by decide) ?_
        unfold w_L_led_150
        refine br_no (by decide) ?_
        unfold w_L_led_165
        intro x9 e9
        refine br_no (by decide) ?_
        unfold w_L_led_180
        intro x10 e10
        refine br_no (by decide) ?_
        unfold w_L_led_195
        intro x11 e11
        rw [z_add] at e10 e11
        rw [z_or (by omega) (by omega), Nat.or_zero] at e9
        subst e9 e10 e11
        refine ih v4 u (b + 1) μ2 ⟨hu, ⟨by omega, fun _ => by omega⟩, fun p hp hb1 => ?_, ?_⟩ h2
        · obtain ⟨j, j1, j2⟩ := hused p hp hb1
          exact ⟨j, by omega, j2⟩
        · rcases hlast with ⟨l1, l2⟩ | ⟨p, kk, l1, l2, ⟨j, j1, j2⟩, l4⟩
          · left
            refine ⟨l1, fun j hj => ?_⟩
            by_cases c : j = i
            · rw [c]; exact e
            · exact l2 j (by omega)
          · right
            refine ⟨p, kk, l1, l2, ⟨j, by omega, j2⟩, fun j' q' hj hq => ?_⟩
            by_cases c : j' = i
            · rw [c, e] at hq; cases hq
            · exact l4 j' q' (by omega) hq
      refine br_no (by decide) ⟨vp3, br_no (m1_ge (by omega)) ?_⟩
      by_cases c : b = 0
      · exact br_yes ((z_le0 (by omega)).mpr c) body
      · exact br_no (fun z => c ((z_le0 (by omega)).mp z)) (br_no (by decide) body)
    | some p =>
      have e' : tk (gO co r (hs co (r 0)) s) (lead co r (hs co (r 0)) s x).2 i 12 0 0 = some p := e
      rw [e']
      obtain ⟨ki, g1, g2, g3, -⟩ := ld_some e
      obtain ⟨c0, hp, cp, cb⟩ := gO_some g1
      have hlt := ld_lt hv e
      have hb0 : b = 0 := Nat.eq_zero_of_not_pos (fun z => by have := hb z; omega)
      show (nI p < (-1) → _) ∧ (¬ nI p < (-1) → _)
      refine br_no (fun z => (z_ltm1 (by omega)).mp z) ⟨vp3, br_no (fun z => ?_) (br_yes ((z_le0 (by omega)).mpr hb0) ?_)⟩
      · have z := (z_le (by omega) (by omega)).mp z
        omega
      -- what is behind the last one
      have key : ∀ p' k', v4 = nI p' → gO co r (hs co (r 0)) s k' = some p' → (∃ j, j < i ∧ pfL co r x s k' ≤ j ∧ j < pfL co r x s (k' + 1)) → k' ≤ ki := by
        intro p' k' _ _ ⟨j, j1, j2, j3⟩
        exact ld_place (p := p) (q := p) (Nat.le_of_lt j1) j2 j3 g2 g3
      have end150 : w_L_led_150 (nI x) (nI s) X v4 (nI u) (nI b) (nI i) (nI p) μ2 Q := by
        unfold w_L_led_150
        refine br_yes ((z_0le (by omega)).mpr trivial) ?_
        rw [z_shl1 (by omega)]
        unfold w_L_led_165
        intro x9 e9
        refine br_yes ((z_0le (by omega)).mpr trivial) ?_
        unfold w_L_led_180
        intro x10 e10
        refine br_yes ((z_0le (by omega)).mpr trivial) ?_
        unfold w_L_led_195
        intro x11 e11
        have hp2 := pow6 p (by omega)
        rw [z_add] at e10 e11
        rw [z_or (by omega) (by omega)] at e9
        subst e9 e10 e11
        refine ih (nI p) (u ||| 2 ^ p) (b + 0) μ2 ⟨Nat.or_lt_two_pow (n := 6) hu hp2, ⟨by omega, fun z => by omega⟩, fun p1 hp1 hb1 => ?_, Or.inr ⟨p, ki, rfl, g1, ⟨i, by omega, g2, g3⟩, fun j q' hj hq => ?_⟩⟩ h2
        · rcases or_bit hb1 with z | z
          · obtain ⟨j, j1, j2⟩ := hused p1 hp1 z
            exact ⟨j, by omega, j2⟩
          · exact ⟨i, by omega, by rw [← z]; exact e⟩
        · obtain ⟨kj, m1, m2, m3, -⟩ := ld_some hq
          exact ⟨kj, m1, ld_place (p := p) (q := p) (by omega) m2 m3 g2 g3⟩
      have end97 : w_L_led_97 (nI x) (nI s) X v4 (nI u) (nI b) (nI i) (nI p) μ2 Q := by
        unfold w_L_led_97
        refine br_no (nn0 (by omega)) ?_
        rcases hlast with ⟨l1, l2⟩ | ⟨p', k', l1, l2, l3, l4⟩
        · rw [l1] at end150 ⊢
          exact br_yes (by decide) end150
        · obtain ⟨d0, dp, dc, -⟩ := gO_some l2
          have hk := key p' k' l1 l2 l3
          rw [l1] at end150 ⊢
          refine br_no (nn0 (by omega)) ?_
          by_cases c : p = p'
          · exact br_yes (by rw [c]) end150
          · refine br_no (fun z => c ((z_eq (by omega) (by omega)).mp z)) (PO0 h2 hp (PO0 h2 dp ?_))
            have hne : k' ≠ ki := fun z => by
              rw [z, g1] at l2
              cases l2
              exact c rfl
            have r1 := (hrp p hp).2.1
            have r2 := (hrp p' dp).2.1
            unfold posn at cp dc
            rcases (by omega : s = 0 ∨ s = 1) with rfl | rfl
            · rw [if_pos rfl] at cp dc
              refine br_no (fun z => ?_) ?_
              · have z := (z_le (by omega) (by omega)).mp z
                omega
              · unfold w_L_led_136
                refine bn_yes rfl ?_
                unfold w_L_led_145
                exact br_yes rfl end150
            · rw [if_neg (by decide)] at cp dc
              refine br_yes ((z_le (by omega) (by omega)).mpr (by omega)) ?_
              unfold w_L_led_136
              refine bn_no (by decide) ?_
              unfold w_L_led_145
              exact br_yes rfl end150
      have end76 : w_L_led_76 (nI x) (nI s) X v4 (nI u) (nI b) (nI i) (nI p) μ2 Q := by
        unfold w_L_led_76
        refine br_no (nn0 (by omega)) (T9 h2 ?_)
        rw [shr_bit h64 (by omega)]
        have hbit : hs co (r 0) / 2 ^ p % 2 = 1 := of_decide_eq_true cb
        rw [hbit]
        exact bn_no (by decide) end97
      unfold w_L_led_53
      refine br_no (nn0 (by omega)) ?_
      by_cases c : nI p = v4
      · exact br_yes c end76
      · refine br_no c ?_
        have e9 : ((nI u >>> (optI (some p) &&& 31)) &&& (nI 1)) = nI (u / 2 ^ p % 2) := shr_bit hu (by omega)
        rw [e9]
        refine br_no (fun z => ?_) end76
        have z : u / 2 ^ p % 2 = 1 := (z_eq (by have := Nat.mod_lt (u / 2 ^ p) (show 0 < 2 by decide); omega) (by decide)).mp z
        obtain ⟨j, j1, j2⟩ := hused p hp z
        rcases hlast with ⟨l1, l2⟩ | ⟨p', k', l1, l2, l3, l4⟩
        · have := l2 j j1
          rw [j2] at this
          cases this
        · obtain ⟨kj, m1, m2⟩ := l4 j p j1 j2
          have hk := key p' k' l1 l2 l3
          have e1 : kj = ki := gO_inj m1 g1
          have e2 : k' = ki := by omega
          rw [e2, g1] at l2
          cases l2
          exact c l1.symm
  · exact ⟨by decide, ⟨by decide, fun z => absurd z (by decide)⟩, fun p hp z => (by rw [Nat.zero_div] at z; cases z), Or.inl ⟨rfl, fun j hj => by omega⟩⟩
theorem L_thick {p x : Nat} {G2 : Nat → Nat → Nat} (h : OK μ co r U sd I (0, G2) L) (k : LK co L) (hp : p < co 0 3) (hx : x < 2147483648) (q : ∀ (μ' : Mem) (G3 : Nat → Nat → Nat), OK μ' co r U sd I (0, G3) L → Q (nI 1) μ') : w_L_thick (nI p) (nI x) μ Q := by
  have hv := h.v.1
  have hn := hv.2.2.2.1
  have hr := h.v.2.1
  have hxd := Nat.div_le_self x 64
  unfold w_L_thick
  refine ⟨by decide, fun x1 e1 => ⟨by decide, by decide, fun x2 e2 => ?_⟩⟩
  rw [z_rem hx (by decide) (by decide)] at e1
  rw [z_div hx (by decide) (by decide), z_rem (by omega) (by decide) (by decide)] at e2
  obtain ⟨m, em⟩ : ∃ m, m = x % 41 := ⟨_, rfl⟩
  obtain ⟨s, es⟩ : ∃ s, s = x / 64 % 2 := ⟨_, rfl⟩
  have hm : m ≤ 40 := by have := Nat.mod_lt x (show 0 < 41 by decide); omega
  have hs1 : s ≤ 1 := by have := Nat.mod_lt (x / 64) (show 0 < 2 by decide); omega
  rw [← em] at e1
  rw [← es] at e2
  subst e1 e2
  have hcnt := ld_count (p := p) (x := m) (s := s) hv hr
  obtain ⟨d, ed⟩ : ∃ d, d = tkn co r p s m := ⟨_, rfl⟩
  have hd : d ≤ m := by rw [ed]; exact tkn_le hr
  unfold w_L_thick_20
  intro X hX
  refine cnt_dn (P := fun i => i ≤ m → ∀ μ1 : Mem, OK μ1 co r U sd I (0, G2) L → X (nI (sumN (fun j => if ldN co r m s j = some p then 1 else 0) i)) (nI i) μ1) m ?_ ?_ (by omega) μ h
  · intro _ μ1 h1
    apply hX
    unfold s_L_thick_20
    refine br_yes ((z_le (by omega) (by omega)).mpr (Nat.le_refl _)) ?_
    rw [hcnt, ← ed]
    unfold w_L_thick_57
    obtain ⟨kn, n1, -, n3⟩ := fnd_spec (f := fun t => decide (d ≤ tkn co r p s t)) (m := m) 41 0 (Nat.zero_le _) (by omega) (decide_eq_true (by rw [ed]; exact Nat.le_refl _))
    refine U_needs h1 hp hs1 (by omega) (fun μ2 h2 => ?_)
    rw [n1]
    show (nI kn < 0 → _) ∧ (¬ nI kn < 0 → _)
    refine br_no (nn0 (by omega)) (br_no (fun z => ?_) (U_got h2 hp hs1 (by omega) (by show 0 < 6; decide) (fun μ3 h3 => ?_)))
    · have z := (z_lt (by omega) (by omega)).mp z
      omega
    have hf : fitA co r (noteN (0, G2) p s d) = fun t => decide (tkn co r p s t = d) := funext (fun t => fit_one)
    have hf2 : fitA co r (noteN (noteN (0, G2) p s d) p s d) = fun t => decide (tkn co r p s t = d) := funext (fun t => fit_two)
    have hfm : (fun t => decide (tkn co r p s t = d)) m = true := decide_eq_true ed.symm
    have hmany : c41 co r (noteN (0, G2) p s d) = sumN (fun t => if (fun t => decide (tkn co r p s t = d)) t = true then 1 else 0) 41 := by unfold c41; rw [hf]
    have hpos := cnt_pos (f := fun t => decide (tkn co r p s t = d)) hfm (show m < 41 by omega)
    have hle : sumN (fun t => if (fun t => decide (tkn co r p s t = d)) t = true then 1 else 0) 41 ≤ 41 := sumN_1 _ 41
    obtain ⟨k1, a1, a2, a3⟩ := fsO_spec (f := fun t => decide (tkn co r p s t = d)) hfm 41 (by omega)
    obtain ⟨k2, b1, b2, b3, b4⟩ := lsO_spec (f := fun t => decide (tkn co r p s t = d)) hfm 41 (by omega)
    obtain ⟨many, emany⟩ : ∃ many, many = sumN (fun t => if (fun t => decide (tkn co r p s t = d)) t = true then 1 else 0) 41 := ⟨_, rfl⟩
    have hspan : many ≤ k2 + 1 - k1 := by
      rw [emany]
      exact cnt_between (f := fun t => decide (tkn co r p s t = d)) a3 b4
    rw [← emany] at hpos hle hmany
    have w0 : ∀ {μ4 : Mem} {Q1 : Int32 → Mem → Prop}, OK μ4 co r U sd I (noteN (0, G2) p s d) L → (∀ μ5, OK μ5 co r U sd I (noteN (0, G2) p s d) L → Q1 (nI many) μ5) → w_X6_thick (nI 0) μ4 Q1 := fun h4 q4 => U_thick h4 (by decide) (fun μ5 h5 => by rw [if_pos rfl, hmany]; exact q4 μ5 h5)
    have w1 : ∀ {μ4 : Mem} {Q1 : Int32 → Mem → Prop}, OK μ4 co r U sd I (noteN (0, G2) p s d) L → (∀ μ5, OK μ5 co r U sd I (noteN (0, G2) p s d) L → Q1 (nI k1) μ5) → w_X6_thick (nI 1) μ4 Q1 := fun h4 q4 => U_thick h4 (by decide) (fun μ5 h5 => by rw [if_neg (by decide), if_neg (by decide), hf, a1]; exact q4 μ5 h5)
    have w2 : ∀ {μ4 : Mem} {Q1 : Int32 → Mem → Prop}, OK μ4 co r U sd I (noteN (0, G2) p s d) L → (∀ μ5, OK μ5 co r U sd I (noteN (0, G2) p s d) L → Q1 (nI k2) μ5) → w_X6_thick (nI 2) μ4 Q1 := fun h4 q4 => U_thick h4 (by decide) (fun μ5 h5 => by rw [if_neg (by decide), if_pos rfl, hf, b1]; exact q4 μ5 h5)
    have fin : ∀ μ4, OK μ4 co r U sd I (noteN (0, G2) p s d) L → w_L_thick_186 (nI p) (nI x) (nI s) (nI d) (nI many) μ4 Q := by
      intro μ4 h4
      unfold w_L_thick_186 w_L_thick_191
      refine br_no (by decide) (U_got h4 hp hs1 (by omega) (by show 0 + 1 < 6; decide) (fun μ5 h5 => ?_))
      refine bn_yes rfl (U_thick h5 (by decide) (fun μ6 h6 => ?_))
      have hm2 : c41 co r (noteN (noteN (0, G2) p s d) p s d) = many := by unfold c41; rw [hf2, emany]
      rw [if_pos rfl, hm2]
      refine bn_yes rfl (U_tear h6 (fun μ7 h7 => bn_yes rfl (U_thick h7 (by decide) (fun μ8 h8 => ?_))))
      have hm3 : c41 co r (0, (noteN (noteN (0, G2) p s d) p s d).2) = 41 := by
        unfold c41
        rw [sumN_congr (g := fun _ => 1) 41 (fun t _ => by rw [fit_nil]; rfl)]
        rfl
      rw [if_pos rfl, hm3]
      exact bn_yes rfl (q μ8 _ h8)
    refine br_yes rfl (w0 h3 (fun μ4 h4 => U_lookAt h4 hs1 (fun μ5 h5 => ?_)))
    rw [hmany]
    refine br_no (fun z => ?_) (br_no (fun z => ?_) (w1 h5 (fun μ6 h6 => br_no (fun z => ?_) (w2 h6 (fun μ7 h7 => br_no (fun z => ?_) (w2 h7 (fun μ8 h8 => w1 h8 (fun μ9 h9 => ?_))))))))
    · have := (z_le0 (by omega)).mp z
      omega
    · have := (z_le (by decide) (by omega)).mp z
      omega
    · have := (z_lt (by omega) (by omega)).mp z
      omega
    · have := (z_lt (by omega) (by omega)).mp z
      omega
    · rw [z_sub (by omega), z_sub (by omega), h9.g3 k]
      refine br_no (fun z => ?_) ?_
      · have := (z_lt (by omega) (by omega)).mp z
        omega
      have look : ∀ o : Option Nat, (∀ w, o = some w → w < co 0 3) → (¬ 1 < many → o = none) → ((optI o < (-1) → w_L_thick_190 (nI p) (nI x) (nI s) (nI d) (nI many) μ9 Q) ∧ (¬ optI o < (-1) → (vp_in (nI 3) 53 ∧ ((nI (co 0 3) ≤ optI o → w_L_thick_190 (nI p) (nI x) (nI s) (nI d) (nI many) μ9 Q) ∧ (¬ nI (co 0 3) ≤ optI o → ((nI 1 < nI many → w_L_thick_186 (nI p) (nI x) (nI s) (nI d) (nI many) μ9 Q) ∧ (¬ nI 1 < nI many → ((¬ optI o = (-1) → w_L_thick_190 (nI p) (nI x) (nI s) (nI d) (nI many) μ9 Q) ∧ (optI o = (-1) → w_L_thick_186 (nI p) (nI x) (nI s) (nI d) (nI many) μ9 Q))))))))) := by
        intro o ho1 ho2
        have last : ((nI 1 < nI many → w_L_thick_186 (nI p) (nI x) (nI s) (nI d) (nI many) μ9 Q) ∧ (¬ nI 1 < nI many → ((¬ optI o = (-1) → w_L_thick_190 (nI p) (nI x) (nI s) (nI d) (nI many) μ9 Q) ∧ (optI o = (-1) → w_L_thick_186 (nI p) (nI x) (nI s) (nI d) (nI many) μ9 Q)))) := by
          refine ⟨fun _ => fin μ9 h9, fun z => ?_⟩
          rw [z_lt (by decide) (by omega)] at z
          rw [ho2 z]
          exact bn_yes rfl (fin μ9 h9)
        cases o with
        | none => exact br_no (by decide) ⟨vp3, br_no (m1_ge (by omega)) last⟩
        | some w =>
          have := ho1 w rfl
          refine br_no (fun z => (z_ltm1 (by omega)).mp z) ⟨vp3, br_no (fun z => ?_) last⟩
          have z := (z_le (by omega) (by omega)).mp z
          omega
      refine look _ (fun w hw => lkN_lt _ w hw) (fun z => ?_)
      have e1 : many = 1 := by omega
      rw [e1, lkN_one (fun p1 => ?_)]
      exact prt_pos (m := m) (by rw [hf]; exact hfm) (by omega) (by have := tkn_le (p := p1) (side := s) (t := m) hr; omega)
  · intro i hi ih _ μ1 h1
    have ih := ih (by omega)
    apply hX
    unfold s_L_thick_20
    refine br_no (fun z => ?_) (U_led h1 (by omega) hs1 hi (fun μ2 h2 => ?_))
    · have z := (z_le (by omega) (by omega)).mp z
      omega
    have step : ∀ c : Nat, c = (if ldN co r m s i = some p then 1 else 0) → w_L_thick_48 (nI p) (nI x) X (nI m) (nI s) (nI i) (nI c) (nI (sumN (fun j => if ldN co r m s j = some p then 1 else 0) i)) μ2 Q := by
      intro c ec
      unfold w_L_thick_48
      intro x5 e5 x6 e6
      rw [z_add] at e5 e6
      subst e5 e6 ec
      exact ih μ2 h2
    show (¬ optI (ldN co r m s i) = nI p → _) ∧ (optI (ldN co r m s i) = nI p → _)
    cases e : ldN co r m s i with
    | none =>
      refine bn_no (fun z => (z_m1ne' (by omega)).mp z) (step 0 ?_)
      rw [e, if_neg (fun z => by cases z)]
    | some t =>
      obtain ⟨kt, g1, -⟩ := ld_some e
      have ht := (gO_some g1).2.1
      by_cases c : t = p
      · refine bn_yes (by rw [c]; rfl) (step 1 ?_)
        rw [e, c, if_pos rfl]
      · refine bn_no (fun z => c ((z_eq (by omega) (by omega)).mp z)) (step 0 ?_)
        rw [e, if_neg (fun z => by cases z; exact c rfl)]
theorem bst_some {f : Nat → Option Nat} {k v n : Nat} (h : f k = some v) (hk : k < n) : ∃ t, bst f n = some t := by
  cases e : bst f n with
  | none => exact absurd e (bst_ne h n hk)
  | some t => exact ⟨t, rfl⟩
theorem L_best {p : Nat} (h : OK μ co r U sd I G L) (hp : p < co 0 3) (hU : U.1 < 30) (q : ∀ (μ' : Mem) (V : Un), US U V → OK μ' co r V sd I G L → Q (nI 1) μ') : w_L_best (nI p) (nI U.1) μ Q := by
  have hv := h.v.1
  have hn := hv.2.2.2.1
  have hcc := hv.1
  have hr := h.v.2.1
  have hd := h.day
  have hdl := dl_le hv
  have hrp := hr.2.2.2.2.2.2.2.2.2.1
  have inj := hr.2.2.2.2.2.2.2.2.2.2
  have hcl := (hrp p hp).2.1
  have hmp := (hrp p hp).2.2
  obtain ⟨now, enow⟩ : ∃ now, now = (tryN co r (dl co)).2.2 p := ⟨_, rfl⟩
  have hnow : now ≤ 40 * dl co := by rw [enow]; exact (tryN_le hv hr (dl co)).2 p
  -- the best mesh
  have own1 : bmF co r p (r (21 + p)) = some now := by unfold bmF; rw [upN_id, enow]
  obtain ⟨tm, em⟩ := bst_some own1 (show r (21 + p) < 10 by omega)
  obtain ⟨m1, m2, m3⟩ := bst_spec 10 tm em
  have m4 := m3 _ _ (show r (21 + p) < 10 by omega) own1
  have m2' : (tryN co (upN r (21 + p) tm.1) (dl co)).2.2 p = tm.2 := by
    unfold bmF at m2
    exact Option.some.inj m2
  have vm := vRo_mesh (x := tm.1) hr hp hn (by omega)
  have m5 : tm.2 ≤ 40 * dl co := by rw [← m2']; exact (tryN_le hv vm (dl co)).2 p
  -- the best cell
  have own2 : bcF co r p (r (15 + p)) = some now := by unfold bcF; rw [if_pos (opn_own hp hcl inj (Or.inl rfl)), upN_id, enow]
  obtain ⟨tc, ec⟩ := bst_some own2 (show r (15 + p) < 12 by omega)
  obtain ⟨c1, c2, c3⟩ := bst_spec 12 tc ec
  have c4 := c3 _ _ (show r (15 + p) < 12 by omega) own2
  have c5 : opn co r p p tc.1 = true ∧ (tryN co (upN r (15 + p) tc.1) (dl co)).2.2 p = tc.2 := by
    unfold bcF at c2
    by_cases z : opn co r p p tc.1 = true
    · rw [if_pos z] at c2
      exact ⟨z, Option.some.inj c2⟩
    · rw [if_neg z] at c2; cases c2
  obtain ⟨c6, c7⟩ := (opn_iff inj).mp c5.1
  have vc := vRo_move (x := tc.1) hr hp hn c6 (fun t ht hne => c7 t ht hne)
  have c8 : tc.2 ≤ 40 * dl co := by rw [← c5.2]; exact (tryN_le hv vc (dl co)).2 p
  have end196 : ∀ (μ1 : Mem) (V : Un), US U V → OK μ1 co r V sd I G L → w_L_best_196 (nI p) (nI U.1) (nI now) (nI 1) μ1 Q := by
    intro μ1 V u1 h1
    unfold w_L_best_196
    refine br_no (by decide) (T2 h1 (U_gets h1 hp (by omega) (fun μ2 h2 => ?_)))
    rw [← enow]
    exact bn_yes rfl (T15 h2 (bn_yes (by rw [u1.1]) (q μ2 V u1 h2)))
  have end129 : ∀ (μ1 : Mem) (V : Un), US U V → OK μ1 co r V sd I G L → w_L_best_129 (nI p) (nI U.1) (nI now) (nI tc.1) (nI tc.2) (nI (r (15 + p))) (nI 1) μ1 Q := by
    intro μ1 V u1 h1
    have hV : V.1 < 30 := by rw [u1.1]; exact hU
    unfold w_L_best_129
    by_cases c : tc.1 = r (15 + p)
    · exact br_yes (by rw [c]) (end196 μ1 V u1 h1)
    · refine br_no (fun z => c ((z_eq (by omega) (by omega)).mp z)) (br_no (by decide) (U_move h1 hp c6 (fun t ht => ?_) (fun μ2 h2 => bn_yes rfl (T2 h2 (U_gets h2 hp (by omega) (fun μ3 h3 => ?_))))))
      · by_cases z : t = p
        · rw [z]; exact fun y => c y.symm
        · exact c7 t ht z
      · rw [c5.2]
        refine bn_yes rfl (U_bestCell h3 hp (by decide) (fun μ4 h4 => ?_))
        have inj2 := vc.2.2.2.2.2.2.2.2.2.2
        have ebc : bst (bcF co (upN r (15 + p) tc.1) p) 12 = bst (bcF co r p) 12 := bst_congr 12 (fun a _ => by
          unfold bcF
          rw [upN_upN]
          have : opn co (upN r (15 + p) tc.1) p p a = opn co r p p a := by
            rw [Bool.eq_iff_iff, opn_iff inj2, opn_iff inj]
            refine and_congr_right (fun _ => ⟨fun z t ht hne => ?_, fun z t ht hne => ?_⟩)
            · have := z t ht hne
              rw [upN_ne (by omega)] at this
              exact this
            · rw [upN_ne (by omega)]
              exact z t ht hne
          rw [this])
        rw [if_pos rfl, ebc, ec]
        refine bn_yes rfl (UB h4 hV (fun μ5 W u5 h5 => br_no (nn0 (by omega)) ?_))
        unfold w_L_best_194
        exact end196 μ5 W (u1.tr u5) h5
  unfold w_L_best
  refine T2 h (U_gets h hp (by omega) (fun μ1 h1 => U_bestMesh h1 hp (by decide) (fun μ2 h2 => U_bestMesh h2 hp (by decide) (fun μ3 h3 => U_bestCell h3 hp (by decide) (fun μ4 h4 => U_bestCell h4 hp (by decide) (fun μ5 h5 => PO0 h5 hp ?_))))))
  rw [if_pos rfl, if_pos rfl, if_neg (by decide), if_neg (by decide), em, ec, ← enow]
  show (nI tm.2 < nI now → _) ∧ (¬ nI tm.2 < nI now → ((nI tc.2 < nI now → _) ∧ (¬ nI tc.2 < nI now → ((nI tm.1 < 0 → _) ∧ (¬ nI tm.1 < 0 → ((nI tm.1 ≤ nI 9 → _) ∧ (¬ nI tm.1 ≤ nI 9 → _)))))))
  refine br_no (fun z => ?_) (br_no (fun z => ?_) (br_no (nn0 (by omega)) (br_yes ((z_le (by omega) (by decide)).mpr (by omega)) ?_)))
  · have := (z_lt (by omega) (by omega)).mp z
    omega
  · have := (z_lt (by omega) (by omega)).mp z
    omega
  · refine U_mesh h5 hp (by omega) (fun μ6 h6 => br_no (nn0 (by omega)) (T2 h6 (U_gets h6 hp (by omega) (fun μ7 h7 => ?_))))
    rw [m2']
    refine bn_yes rfl (U_bestMesh h7 hp (by decide) (fun μ8 h8 => ?_))
    have ebm : bst (bmF co (upN r (21 + p) tm.1) p) 10 = bst (bmF co r p) 10 := bst_congr 10 (fun a _ => by
      unfold bmF
      rw [upN_upN])
    rw [if_pos rfl, ebm, em]
    exact bn_yes rfl (UB h8 hU (fun μ9 V u9 h9 => br_no (nn0 (by omega)) (end129 μ9 V u9 h9)))
end LLED
