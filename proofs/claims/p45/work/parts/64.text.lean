/-! ===== the law tells a coast: letters fed to a new object ===== -/
def txt (l : List Nat) : Tx := (l.length, fun i => l.getD i 0)
theorem fed_txt {l : List Nat} {x : Nat} : fedT (txt l) x = txt (l ++ [x]) := by
  unfold fedT txt
  dsimp only
  refine Prod.ext (by simp) (funext fun i => ?_)
  dsimp only
  by_cases c : i = l.length
  · rw [if_pos c, c]; simp
  · rw [if_neg c]
    rcases Nat.lt_or_ge i l.length with h | h
    · simp [List.getElem?_append_left h]
    · have h2 : l.length + 1 ≤ i := by omega
      simp only [List.getD_eq_getElem?_getD]
      rw [List.getElem?_eq_none h, List.getElem?_eq_none (by simp; omega)]
/-- a new object, so far as the law has told it a text -/
def OK0 (μ : Mem) (l : List Nat) (sd : Nat) (L : Nat → Nat → Nat) : Prop := ∃ (fp : Int32) (I : Im), VA0 (txt l) sd I ∧ RF0 μ (txt l) fp sd I L
section FED
variable {μ : Mem} {l : List Nat} {sd : Nat} {L : Nat → Nat → Nat} {Q : Int32 → Mem → Prop} {Q0 : Int32 → Prop}
theorem OK0.g (h : OK0 μ l sd L) (j : Nat) : μ.1 246 j = nI (L 100 j) := by
  obtain ⟨fp, I, hA, hF⟩ := h
  exact hF.2.2.2.2.2.2.2.2.2.2.2.1 j
theorem OK0.w (h : OK0 μ l sd L) (j : Nat) : μ.1 247 j = nI (L 101 j) := by
  obtain ⟨fp, I, hA, hF⟩ := h
  exact hF.2.2.2.2.2.2.2.2.2.2.2.2 j
theorem N_told (h : OK0 μ l sd L) (q : Q0 (nI l.length)) : w_X6_told (nI 5) μ Q0 := by
  obtain ⟨fp, I, hA, hF⟩ := h
  unfold w_X6_told
  repeat (first | refine ⟨fun _ => ?_, fun z => absurd rfl z⟩ | refine ⟨fun z => absurd z (by decide), fun _ => ?_⟩)
  rw [hF.2.2.2.2.2.1.1]
  exact q
theorem N_seed (h : OK0 μ l sd L) {j : Nat} (hj : j < 2147483648) (q : ∀ μ' : Mem, OK0 μ' l j L → Q (nI sd) μ') : w_X6_seed (nI j) μ Q := by
  obtain ⟨fp, I, hA, hF⟩ := h
  have e10 := hF.2.2.2.2.2.2.2.1
  unfold w_X6_seed
  refine ⟨fun _ => ?_, fun z => absurd ((z_0le (by omega)).mpr trivial) z⟩
  intro x1 hx1 μ2 hμ2
  rw [e10] at hx1
  subst hμ2 hx1
  refine q _ ⟨fp, I, ⟨hA.1, hA.2.1, hA.2.2.1, hA.2.2.2.1, hj, hA.2.2.2.2.2⟩, ?_⟩
  have g : ∀ k, k ≠ 0 → (sI μ 0 10 (nI j)).1 k = μ.1 k := fun k k1 => sI_r k1
  obtain ⟨a1, a2, a3, a4, a5, a6, a7, a8, a9, a10, a11, a12⟩ := hF
  refine RF0.to ⟨a1, a2, a3, a4, a5, a6, a7, a8, a9, a10, a11, a12⟩ rfl (fun k k1 k2 => g k (by omega)) (a3.2.fr (g 19 (by decide))) (a4.fr (fun k _ _ => g k (by omega))) (a5.fr (fun k _ _ => g k (by omega))) (a6.fr (fun k _ _ => g k (by omega))) ?_ sI_same (a9.fr (fun k _ _ => g k (by omega))) ?_ ?_ (a12.fr (g 246 (by decide)) (g 247 (by decide)))
  · rw [g 1 (by decide)]; exact a7
  · rw [g 237 (by decide)]; exact a10
  · rw [g 241 (by decide)]; exact a11
theorem N_feed (h : OK0 μ l sd L) {x : Nat} (hx : x ≤ 255) (hl : l.length < 240) (q : ∀ μ' : Mem, OK0 μ' (l ++ [x]) sd L → Q (nI (l.length + 1)) μ') : w_X6_feed (nI x) μ Q := by
  obtain ⟨fp, I, hA, hF⟩ := h
  have e11 : μ.1 1 1 = nI l.length := hF.2.2.2.2.2.1.1
  have hT := hA.2.2.2.1
  unfold w_X6_feed
  refine W_in (Nat.zero_le _) hx (by decide) ⟨fun _ => ?_, fun z => absurd z (by decide)⟩
  rw [e11, z_lt (by omega) (by decide)]
  refine ⟨fun _ => ?_, fun z => absurd hl z⟩
  unfold w_X3_append
  rw [e11]
  refine F_put (n := 240) (by decide) (by decide) hl ?_
  intro μ3 h3
  rw [sI_ne1 (by decide), e11, z_add] at h3
  subst h3
  rw [sI_same]
  have f1 : RF0 (sI (sI μ 2 l.length (nI x)) 1 1 (nI (l.length + 1))) (txt (l ++ [x])) fp sd I L := by
    have g : ∀ k, k ≠ 1 → k ≠ 2 → (sI (sI μ 2 l.length (nI x)) 1 1 (nI (l.length + 1))).1 k = μ.1 k := fun k k1 k2 => by rw [sI_r k1, sI_r k2]
    rw [← fed_txt]
    refine RF0.to hF rfl (fun k k1 k2 => g k (by omega) (by omega)) (hF.2.2.1.2.fr (g 19 (by decide) (by decide))) (hF.2.2.2.1.fr (fun k _ _ => g k (by omega) (by omega))) (hF.2.2.2.2.1.fr (fun k _ _ => g k (by omega) (by omega))) ⟨sI_same, fun i hi => ?_⟩ ?_ (by rw [g 0 (by decide) (by decide)]; exact hF.2.2.2.2.2.2.2.1) (hF.2.2.2.2.2.2.2.2.1.fr (fun k _ _ => g k (by omega) (by omega))) (by rw [g 237 (by decide) (by decide)]; exact hF.2.2.2.2.2.2.2.2.2.1) (by rw [g 241 (by decide) (by decide)]; exact hF.2.2.2.2.2.2.2.2.2.2.1) (hF.2.2.2.2.2.2.2.2.2.2.2.fr (g 246 (by decide) (by decide)) (g 247 (by decide) (by decide)))
    · rw [sI_ne1 (by decide)]
      have hii : i < l.length + 1 := hi
      show (sI μ 2 l.length (nI x)).1 2 i = nI (if i = l.length then x else l.getD i 0)
      by_cases q2 : i = l.length
      · rw [if_pos q2, q2, sI_same]
      · rw [if_neg q2, sI_ne2 q2]; exact hF.2.2.2.2.2.1.2 i (by show i < l.length; omega)
    · rw [sI_ne2 (by decide), sI_ne1 (by decide)]; exact hF.2.2.2.2.2.2.1
  refine q _ ⟨fp, I, ?_, f1⟩
  rw [← fed_txt]
  refine ⟨hA.1, hA.2.1, hA.2.2.1, ⟨by show l.length + 1 ≤ 240; omega, fun i hi => ?_⟩, hA.2.2.2.2⟩
  have hii : i < l.length + 1 := hi
  unfold fedT
  dsimp only
  split
  · exact hx
  · next q2 => exact hT.2 i (by have q2 : ¬ i = l.length := q2; show i < l.length; omega)
theorem N_put (h : OK0 μ l sd L) {n x : Nat} (hn : n = l.length) (hx : x ≤ 255) (hl : l.length < 240) (q : ∀ μ' : Mem, OK0 μ' (l ++ [x]) sd L → Q (nI (n + 1)) μ') : w_L_put (nI n) (nI x) μ Q := by
  subst hn
  unfold w_L_put
  refine br_no (nn0 (by omega)) (N_feed h hx hl (fun μ1 h1 => ?_))
  rw [z_add]
  exact bn_yes rfl (q μ1 h1)
/-- the figures of a number -/
def figs (v : Nat) : List Nat := (if 99 < v then [48 + v / 100] else []) ++ ((if 9 < v then [48 + v / 10 % 10] else []) ++ [48 + v % 10])
theorem figs_len (v : Nat) : 1 ≤ (figs v).length ∧ (figs v).length ≤ 3 := by
  unfold figs
  split <;> split <;> simp
theorem figs_small {v : Nat} (h : v ≤ 99) : (figs v).length ≤ 2 := by
  unfold figs
  rw [if_neg (by omega)]
  split <;> simp
def numT (v b : Nat) : List Nat := figs v ++ [b]
theorem N_number (h : OK0 μ l sd L) {n v b : Nat} (hn : n = l.length) (hv : v < 1000) (hb : b ≤ 255) (hl : l.length + 4 ≤ 240) (q : ∀ μ' : Mem, OK0 μ' (l ++ numT v b) sd L → Q (nI (n + (numT v b).length)) μ') : w_L_number (nI n) (nI v) (nI b) μ Q := by
  have d10 := Nat.mod_lt v (show 0 < 10 by decide)
  have dd10 := Nat.mod_lt (v / 10) (show 0 < 10 by decide)
  have last : ∀ (l1 : List Nat) (m : Nat) (μ1 : Mem), m = l1.length → l1.length + 2 ≤ 240 → OK0 μ1 l1 sd L → (∀ μ' : Mem, OK0 μ' (l1 ++ [48 + v % 10] ++ [b]) sd L → Q (nI (m + 1 + 1)) μ') → w_L_number_51 (nI n) (nI v) (nI b) (nI m) μ1 Q := by
    intro l1 m μ1 hm hl1 h1 q1
    unfold w_L_number_51
    refine ⟨by decide, fun x6 e6 => ?_⟩
    rw [z_rem (by omega) (by decide) (by decide)] at e6
    subst e6
    rw [z_add]
    refine N_put h1 hm (by omega) (by omega) (fun μ2 h2 => N_put h2 (by simp; omega) hb (by simp; omega) (fun μ3 h3 => q1 μ3 h3))
  have mid : ∀ (l1 : List Nat) (m : Nat) (μ1 : Mem), m = l1.length → l1.length + 3 ≤ 240 → OK0 μ1 l1 sd L → (∀ μ' : Mem, OK0 μ' (l1 ++ ((if 9 < v then [48 + v / 10 % 10] else []) ++ [48 + v % 10]) ++ [b]) sd L → Q (nI (m + ((if 9 < v then [48 + v / 10 % 10] else []) ++ [48 + v % 10]).length + 1)) μ') → w_L_number_22 (nI n) (nI v) (nI b) (nI m) μ1 Q := by
    intro l1 m μ1 hm hl1 h1 q1
    unfold w_L_number_22
    rw [z_le (by omega) (by decide)]
    by_cases c : v ≤ 9
    · refine br_yes c (last l1 m μ1 hm (by omega) h1 (fun μ2 h2 => ?_))
      rw [if_neg (by omega)] at q1
      exact q1 μ2 h2
    · refine br_no c ⟨by decide, by decide, fun x3 e3 => ?_⟩
      rw [z_div (by omega) (by decide) (by decide), z_rem (by have := Nat.div_le_self v 10; omega) (by decide) (by decide)] at e3
      subst e3
      rw [z_add]
      refine N_put h1 hm (by omega) (by omega) (fun μ2 h2 => last (l1 ++ [48 + v / 10 % 10]) (m + 1) μ2 (by simp; omega) (by simp; omega) h2 (fun μ3 h3 => ?_))
      rw [if_pos (by omega)] at q1
      refine q1 μ3 ?_
      simpa using h3
  have e : l ++ numT v b = l ++ figs v ++ [b] := by unfold numT; simp
  have elen : n + (numT v b).length = n + (figs v).length + 1 := by unfold numT; simp; omega
  rw [e, elen] at q
  unfold w_L_number
  rw [z_le (by omega) (by decide)]
  unfold figs at q
  by_cases c : v ≤ 99
  · rw [if_neg (show ¬ 99 < v by omega)] at q
    exact br_yes c (mid l n μ hn (by omega) h q)
  · refine br_no c ⟨by decide, ?_⟩
    have hd : v / 100 ≤ 9 := by omega
    rw [z_div (by omega) (by decide) (by decide), z_add]
    refine N_put h hn (by omega) (by omega) (fun μ2 h2 => mid (l ++ [48 + v / 100]) (n + 1) μ2 (by simp; omega) (by simp; omega) h2 (fun μ3 h3 => ?_))
    rw [if_pos (show 99 < v by omega)] at q
    have h4 := q μ3 (by simpa using h3)
    have e2 : n + ([48 + v / 100] ++ ((if 9 < v then [48 + v / 10 % 10] else []) ++ [48 + v % 10])).length + 1 = n + 1 + ((if 9 < v then [48 + v / 10 % 10] else []) ++ [48 + v % 10]).length + 1 := by simp; omega
    rw [e2] at h4
    exact h4
end FED
/-! ===== such a text is read as it was told ===== -/
def atT (T : Tx) (i : Nat) (l : List Nat) : Prop := i + l.length ≤ T.1 ∧ ∀ k, k < l.length → T.2 (i + k) = l.getD k 0
theorem at_txt (l : List Nat) : atT (txt l) 0 l := ⟨by show 0 + l.length ≤ l.length; omega, fun k _ => by show l.getD (0 + k) 0 = _; rw [Nat.zero_add]⟩
theorem at_app {T : Tx} {i : Nat} {l1 l2 : List Nat} (h : atT T i (l1 ++ l2)) : atT T i l1 ∧ atT T (i + l1.length) l2 := by
  obtain ⟨h1, h2⟩ := h
  rw [List.length_append] at h1
  refine ⟨⟨by omega, fun k hk => ?_⟩, ⟨by omega, fun k hk => ?_⟩⟩
  · rw [h2 k (by rw [List.length_append]; omega)]
    simp [List.getElem?_append_left hk]
  · have := h2 (l1.length + k) (by rw [List.length_append]; omega)
    rw [Nat.add_assoc, this]
    simp [List.getElem?_append_right]
theorem at_one {T : Tx} {i x : Nat} (h : atT T i [x]) : i < T.1 ∧ T.2 i = x := by
  obtain ⟨h1, h2⟩ := h
  have h1 : i + 1 ≤ T.1 := h1
  exact ⟨by omega, h2 0 (by show 0 < 1; decide)⟩
theorem bnd_r {f : Nat → Rs} {i : Nat} : bnd f (.inr i) = f i := rfl
theorem at_cons {T : Tx} {i x : Nat} {l : List Nat} (h : atT T i (x :: l)) : (i < T.1 ∧ T.2 i = x) ∧ atT T (i + 1) l := by
  have h : atT T i ([x] ++ l) := h
  obtain ⟨h1, h2⟩ := at_app h
  exact ⟨at_one h1, h2⟩
/-- a number's figures are read -/
theorem fg_figs {T : Tx} {i v b : Nat} (hv : v < 1000) (hb : ¬ (48 ≤ b ∧ b ≤ 57)) (h : atT T i (numT v b)) : fgs T i 0 0 = ((figs v).length, v) ∧ ¬ T.2 i = 32 := by
  have d10 := Nat.mod_lt v (show 0 < 10 by decide)
  have dd10 := Nat.mod_lt (v / 10) (show 0 < 10 by decide)
  unfold numT figs at h
  by_cases c1 : 99 < v
  · rw [if_pos c1, if_pos (show 9 < v by omega)] at h
    obtain ⟨⟨a1, a2⟩, h⟩ := at_cons h
    obtain ⟨⟨b1, b2⟩, h⟩ := at_cons h
    obtain ⟨⟨c1', c2⟩, h⟩ := at_cons h
    obtain ⟨⟨e1, e2⟩, -⟩ := at_cons h
    refine ⟨?_, by omega⟩
    rw [fg_dig a1 (by omega), fg_dig b1 (by omega), fg_dig c1' (by omega), fg_non (by rw [e2]; exact hb), if_pos (by decide), if_pos (by decide), if_pos (by decide), a2, b2, c2]
    unfold figs
    rw [if_pos c1, if_pos (show 9 < v by omega)]
    refine Prod.ext rfl ?_
    show 10 * (10 * (10 * 0 + (48 + v / 100) - 48) + (48 + v / 10 % 10) - 48) + (48 + v % 10) - 48 = v
    omega
  · by_cases c2 : 9 < v
    · rw [if_neg c1, if_pos c2] at h
      obtain ⟨⟨b1, b2⟩, h⟩ := at_cons h
      obtain ⟨⟨c1', c2'⟩, h⟩ := at_cons h
      obtain ⟨⟨e1, e2⟩, -⟩ := at_cons h
      refine ⟨?_, by omega⟩
      rw [fg_dig b1 (by omega), fg_dig c1' (by omega), fg_non (by rw [e2]; exact hb), if_pos (by decide), if_pos (by decide), b2, c2']
      unfold figs
      rw [if_neg c1, if_pos c2]
      refine Prod.ext rfl ?_
      show 10 * (10 * 0 + (48 + v / 10 % 10) - 48) + (48 + v % 10) - 48 = v
      omega
    · rw [if_neg c1, if_neg c2] at h
      obtain ⟨⟨c1', c2'⟩, h⟩ := at_cons h
      obtain ⟨⟨e1, e2⟩, -⟩ := at_cons h
      refine ⟨?_, by omega⟩
      rw [fg_dig c1' (by omega), fg_non (by rw [e2]; exact hb), if_pos (by decide), c2']
      unfold figs
      rw [if_neg c1, if_neg c2]
      refine Prod.ext rfl ?_
      show 10 * 0 + (48 + v % 10) - 48 = v
      omega
/-- a number that begins at the next place that is no blank -/
theorem num_at {T : Tx} {i j v b lo hi : Nat} (hj : sk T i = sk T j) (hv : v < 1000) (hb : ¬ (48 ≤ b ∧ b ≤ 57)) (h : atT T j (numT v b)) (h1 : lo ≤ v) (h2 : v ≤ hi) : val T i = v ∧ nx T i = j + (figs v).length ∧ numA T lo hi i = .inr (j + (figs v).length) := by
  obtain ⟨e1, e2⟩ := fg_figs hv hb h
  have hl := figs_len v
  have es : sk T i = j := by rw [hj, sk_nb e2]
  have ef : fg T i = ((figs v).length, v) := by unfold fg; rw [es]; exact e1
  have ev : val T i = v := by unfold val; rw [ef]
  have en : nx T i = j + (figs v).length := by unfold nx; rw [ef, es]
  refine ⟨ev, en, ?_⟩
  unfold numA
  rw [ef, ev, en, if_neg (by show ¬ (figs v).length = 0; omega), if_neg (by show ¬ (3 < (figs v).length ∨ v < lo ∨ hi < v); omega)]
/-- behind a blank -/
theorem sk_one {T : Tx} {i : Nat} (h : i < T.1 ∧ T.2 i = 32) : sk T i = sk T (i + 1) := sk_bl h.1 h.2
theorem end_at {T : Tx} {i : Nat} (h : i < T.1 ∧ T.2 i = 59) : endA T i = .inr (i + 1) := by
  have e : sk T i = i := sk_nb (by omega)
  unfold endA
  rw [e, if_pos h]
theorem num_split {T : Tx} {j v b : Nat} {l : List Nat} (h : atT T j (numT v b ++ l)) : atT T j (numT v b) ∧ (j + (figs v).length < T.1 ∧ T.2 (j + (figs v).length) = b) ∧ atT T (j + (figs v).length + 1) l := by
  obtain ⟨h1, h2⟩ := at_app h
  have h3 := h1
  unfold numT at h3
  obtain ⟨-, h4⟩ := at_app h3
  refine ⟨h1, at_one h4, ?_⟩
  have : (numT v b).length = (figs v).length + 1 := by unfold numT; simp
  rw [this] at h2
  exact h2
theorem two_at {T : Tx} {p a b c d x y : Nat} (hx : x < 1000) (hy : y < 1000) (h : atT T p (numT x 32 ++ numT y 59)) (h1 : a ≤ x ∧ x ≤ b) (h2 : c ≤ y ∧ y ≤ d) : twoP T a b c d p = .inr (p + (numT x 32 ++ numT y 59).length) ∧ val T p = x ∧ val T (nx T p) = y := by
  obtain ⟨k1, k2, k3⟩ := num_split h
  obtain ⟨v1, n1, a1⟩ := num_at (lo := a) (hi := b) rfl hx (by decide) k1 h1.1 h1.2
  have k3' : atT T (p + (figs x).length + 1) (numT y 59 ++ []) := by simpa using k3
  obtain ⟨m1, m2, -⟩ := num_split k3'
  obtain ⟨v2, n2, a2⟩ := num_at (lo := c) (hi := d) (i := p + (figs x).length) (sk_one k2) hy (by decide) m1 h2.1 h2.2
  refine ⟨?_, v1, by rw [n1]; exact v2⟩
  unfold twoP
  rw [bnd_r, a1, bnd_r, a2, bnd_r, end_at m2]
  congr 1
  unfold numT
  simp
  omega
theorem pos_at {T : Tx} {co : Co} {p a m j v : Nat} (ha : a < 1000) (hm : m ≤ 9) (hj : 1 ≤ j ∧ j ≤ 99) (hv : v ≤ 1) (h : atT T p (numT a 32 ++ (numT m 32 ++ (numT j 32 ++ numT v 59)))) (h1 : a ≤ co 0 0 - 1) (hno : ∀ q, q < co 0 3 → co 9 q ≠ a) : posP T co p = .inr (p + (numT a 32 ++ (numT m 32 ++ (numT j 32 ++ numT v 59))).length) ∧ val T p = a ∧ val T (nx T p) = m ∧ val T (nx T (nx T p)) = j ∧ val T (nx T (nx T (nx T p))) = v := by
  obtain ⟨k1, k2, k3⟩ := num_split h
  obtain ⟨v1, n1, a1⟩ := num_at (lo := 0) (hi := co 0 0 - 1) rfl ha (by decide) k1 (Nat.zero_le _) h1
  obtain ⟨l1, l2, l3⟩ := num_split k3
  obtain ⟨v2, n2, a2⟩ := num_at (lo := 0) (hi := 9) (i := p + (figs a).length) (sk_one k2) (by omega) (by decide) l1 (Nat.zero_le _) hm
  obtain ⟨m1, m2, m3⟩ := num_split l3
  obtain ⟨v3, n3, a3⟩ := num_at (lo := 1) (hi := 99) (sk_one l2) (by omega) (by decide) m1 hj.1 hj.2
  have m3' : atT T (p + (figs a).length + 1 + (figs m).length + 1 + (figs j).length + 1) (numT v 59 ++ []) := by simpa using m3
  obtain ⟨o1, o2, -⟩ := num_split m3'
  obtain ⟨v4, n4, a4⟩ := num_at (lo := 0) (hi := 1) (sk_one m2) (by omega) (by decide) o1 (Nat.zero_le _) hv
  refine ⟨?_, v1, by rw [n1]; exact v2, by rw [n1, n2]; exact v3, by rw [n1, n2, n3]; exact v4⟩
  have et : tkA T co p (p + (figs a).length) = .inr (p + (figs a).length) := by
    unfold tkA
    rw [v1, if_pos (pin_all hno)]
  unfold posP
  rw [bnd_r, a1, bnd_r, et, bnd_r, a2, bnd_r, a3, bnd_r, a4, bnd_r, end_at o2]
  congr 1
  unfold numT
  simp
  omega
/-- lists one behind another -/
def cat (f : Nat → List Nat) : Nat → List Nat
  | 0 => []
  | n + 1 => cat f n ++ f n
theorem at_cat {T : Tx} {f : Nat → List Nat} {i : Nat} : ∀ n, atT T i (cat f n) → ∀ h, h < n → atT T (i + (cat f h).length) (f h) := by
  intro n
  induction n with
  | zero => intro _ h hh; omega
  | succ n ih =>
    intro ha h hh
    obtain ⟨h1, h2⟩ := at_app (show atT T i (cat f n ++ f n) from ha)
    by_cases c : h = n
    · rw [c]; exact h2
    · exact ih h1 h (by omega)
theorem cat_len {f : Nat → List Nat} {c : Nat} : ∀ n, (∀ h, h < n → (f h).length ≤ c) → (cat f n).length ≤ c * n := by
  intro n
  induction n with
  | zero => intro _; exact Nat.zero_le _
  | succ n ih =>
    intro h
    have h1 := ih (fun k hk => h k (by omega))
    have h2 := h n (by omega)
    show (cat f n ++ f n).length ≤ _
    rw [List.length_append, Nat.mul_succ]
    omega
