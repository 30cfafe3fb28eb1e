/-! ===== two posts; what the lamp costs ===== -/
def inn (g : Nat → Nat → Option Nat) (a : Nat) (s : Bs) : Nat → Bs
  | 0 => s
  | j + 1 => up (inn g a s j) (100 * a + j) (g a j)
def out (g : Nat → Nat → Option Nat) (m : Nat) : Nat → Bs
  | 0 => none
  | i + 1 => inn g i (out g m i) m
theorem inn_ok {g : Nat → Nat → Option Nat} {a : Nat} {s : Bs} (ha : a ≤ 12) (h : okB s) (hg : ∀ b v, g a b = some v → v < 100000) : ∀ j, j ≤ 12 → okB (inn g a s j) := by
  intro j
  induction j with
  | zero => intro _; exact h
  | succ j ih => intro hj; exact up_ok (ih (by omega)) (by omega) (fun v hv => hg j v hv)
theorem out_ok {g : Nat → Nat → Option Nat} {m : Nat} (hm : m ≤ 12) (hg : ∀ a b v, g a b = some v → v < 100000) : ∀ i, i ≤ 12 → okB (out g m i) := by
  intro i
  induction i with
  | zero => intro _ q hq; cases hq
  | succ i ih => intro hi; exact inn_ok (by omega) (ih (by omega)) (hg i) m hm
theorem inn_end {g : Nat → Nat → Option Nat} {a n : Nat} {s : Bs} (h : ∀ b, n ≤ b → g a b = none) : ∀ d, inn g a s (n + d) = inn g a s n := by
  intro d
  induction d with
  | zero => rfl
  | succ d ih =>
    show up (inn g a s (n + d)) _ (g a (n + d)) = _
    rw [h _ (by omega), ih]; rfl
theorem inn_none {g : Nat → Nat → Option Nat} {a : Nat} {s : Bs} (h : ∀ b, g a b = none) (m : Nat) : inn g a s m = s := by
  have := inn_end (g := g) (a := a) (n := 0) (s := s) (fun b _ => h b) m
  rw [Nat.zero_add] at this; exact this
theorem out_eq {g : Nat → Nat → Option Nat} {n d : Nat} (h : ∀ a b, n ≤ b → g a b = none) : ∀ i, out g (n + d) i = out g n i := by
  intro i
  induction i with
  | zero => rfl
  | succ i ih =>
    show inn g i (out g (n + d) i) (n + d) = inn g i (out g n i) n
    rw [ih, inn_end (h i)]
theorem out_end {g : Nat → Nat → Option Nat} {m n : Nat} (h : ∀ a b, n ≤ a → g a b = none) : ∀ d, out g m (n + d) = out g m n := by
  intro d
  induction d with
  | zero => rfl
  | succ d ih =>
    show inn g (n + d) (out g m (n + d)) m = _
    rw [inn_none (fun b => h _ b (by omega)), ih]
theorem inn_ne {g : Nat → Nat → Option Nat} {a : Nat} {s : Bs} (h : s ≠ none) : ∀ j, inn g a s j ≠ none := by
  intro j
  induction j with
  | zero => exact h
  | succ j ih => exact up_ne (Or.inl ih)
theorem inn_ne2 {g : Nat → Nat → Option Nat} {a b v : Nat} {s : Bs} (h : g a b = some v) : ∀ j, b < j → inn g a s j ≠ none := by
  intro j
  induction j with
  | zero => intro q; omega
  | succ j ih =>
    intro q
    refine up_ne ?_
    by_cases e : b = j
    · right; rw [← e, h]; exact fun z => by cases z
    · exact Or.inl (ih (by omega))
theorem out_ne {g : Nat → Nat → Option Nat} {a b v m : Nat} (h : g a b = some v) (hb : b < m) : ∀ i, a < i → out g m i ≠ none := by
  intro i
  induction i with
  | zero => intro q; omega
  | succ i ih =>
    intro q
    by_cases e : a = i
    · subst e; exact inn_ne2 h m hb
    · exact inn_ne (ih (by omega)) m
def ownS (co : Co) (t : Nat → Nat) (v : Nat) : Nat := sumN (fun k => if co 4 k = v then t k else 0) (co 0 3)
theorem ownS_2 {co : Co} {t : Nat → Nat} (hv : vCo co) : ownS co t 0 + ownS co t 1 = sumN t (co 0 3) := by
  have key : ∀ n, n ≤ co 0 3 → sumN (fun k => if co 4 k = 0 then t k else 0) n + sumN (fun k => if co 4 k = 1 then t k else 0) n = sumN t n := by
    intro n
    induction n with
    | zero => intro _; rfl
    | succ n ih =>
      intro hn
      have := ih (by omega)
      have h4 := (hv.2.2.2.2.2.2.2.2.1 n (by omega)).2.2
      unfold sumN
      rcases (by omega : co 4 n = 0 ∨ co 4 n = 1) with q | q
      · rw [if_pos q, if_neg (by omega)]; omega
      · rw [if_neg (by omega), if_pos q]; omega
  exact key _ (Nat.le_refl _)
theorem sumN_mono {f g : Nat → Nat} : ∀ n, (∀ k, k < n → f k ≤ g k) → sumN f n ≤ sumN g n := by
  intro n
  induction n with
  | zero => intro _; exact Nat.le_refl _
  | succ n ih =>
    intro h
    have := ih (fun k hk => h k (by omega))
    have := h n (by omega)
    unfold sumN; omega
theorem sumN_part {f : Nat → Nat} {i : Nat} : ∀ n, i ≤ n → sumN f i ≤ sumN f n := by
  intro n
  induction n with
  | zero => intro h; rw [show i = 0 by omega]; exact Nat.le_refl _
  | succ n ih =>
    intro h
    rcases Nat.lt_or_ge i (n + 1) with q | q
    · have := ih (by omega)
      show _ ≤ sumN f n + f n
      omega
    · rw [show i = n + 1 by omega]; exact Nat.le_refl _
/-- both posts moved -/
def mv2 (r : Ro) (p a q b : Nat) : Ro := upN (upN r (15 + p) a) (15 + q) b
theorem vRo_move2 {co : Co} {r : Ro} {B H p q a b : Nat} (hr : vRH co r B H) (hp : p < co 0 3) (hq : q < co 0 3) (hne : p ≠ q) (hn : co 0 3 ≤ 6) (ha : a < co 0 0) (hb : b < co 0 0) (hab : a ≠ b) (hno : ∀ t, t < co 0 3 → t ≠ p → t ≠ q → r (15 + t) ≠ a ∧ r (15 + t) ≠ b) : vRH co (mv2 r p a q b) B H := by
  obtain ⟨r0, r1, r2, r3, r4, r5, r6, r7, r8, hrp, inj⟩ := hr
  have cell : ∀ t, mv2 r p a q b (15 + t) = if t = q then b else if t = p then a else r (15 + t) := by
    intro t
    unfold mv2 upN
    by_cases e : t = q
    · rw [if_pos (by omega), if_pos e]
    · rw [if_neg (by omega), if_neg e]
      by_cases e2 : t = p
      · rw [if_pos (by omega), if_pos e2]
      · rw [if_neg (by omega), if_neg e2]
  have oth : ∀ j, j < 15 ∨ 21 ≤ j → mv2 r p a q b j = r j := by
    intro j hj
    unfold mv2
    rw [upN_ne (by omega), upN_ne (by omega)]
  refine ⟨?_, ?_, ?_, ?_, ?_, ?_, ?_, ?_, ?_, fun t ht => ⟨?_, ?_, ?_⟩, fun x y hx hy h => ?_⟩
  · rw [oth _ (by omega)]; exact r0
  · rw [oth _ (by omega)]; exact r1
  · rw [oth _ (by omega)]; exact r2
  · rw [oth _ (by omega)]; exact r3
  · rw [oth _ (by omega)]; exact r4
  · rw [oth _ (by omega)]; exact r5
  · rw [oth _ (by omega)]; exact r6
  · rw [oth _ (by omega)]; exact r7
  · rw [oth _ (by omega)]; exact r8
  · rw [oth _ (by omega)]; exact (hrp t ht).1
  · rw [cell]
    split
    · exact hb
    · split
      · exact ha
      · exact (hrp t ht).2.1
  · rw [oth _ (by omega)]; exact (hrp t ht).2.2
  · rw [cell, cell] at h
    by_cases x1 : x = q
    · rw [if_pos x1] at h
      by_cases y1 : y = q
      · rw [x1, y1]
      · rw [if_neg y1] at h
        by_cases y2 : y = p
        · rw [if_pos y2] at h; exact absurd h.symm hab
        · rw [if_neg y2] at h; exact absurd h.symm (hno y hy y2 y1).2
    · rw [if_neg x1] at h
      by_cases x2 : x = p
      · rw [if_pos x2] at h
        by_cases y1 : y = q
        · rw [if_pos y1] at h; exact absurd h hab
        · rw [if_neg y1] at h
          by_cases y2 : y = p
          · rw [x2, y2]
          · rw [if_neg y2] at h; exact absurd h.symm (hno y hy y2 y1).1
      · rw [if_neg x2] at h
        by_cases y1 : y = q
        · rw [if_pos y1] at h; exact absurd h (hno x hx x2 x1).2
        · rw [if_neg y1] at h
          by_cases y2 : y = p
          · rw [if_pos y2] at h; exact absurd h (hno x hx x2 x1).1
          · rw [if_neg y2] at h; exact inj x y hx hy h
def lesN (co : Co) (r : Ro) (p a q b : Nat) : Nat :=
  if ownS co (tryN co (mv2 r p a q b) (7 * dl co)).2.2 1 < ownS co (tryN co (mv2 r p a q b) (7 * dl co)).2.2 0 then ownS co (tryN co (mv2 r p a q b) (7 * dl co)).2.2 1 else ownS co (tryN co (mv2 r p a q b) (7 * dl co)).2.2 0
def btG (co : Co) (r : Ro) (p q : Nat) : Nat → Nat → Option Nat := fun a b => if a ≠ b ∧ opn co r p q a = true ∧ opn co r p q b = true then some (lesN co r p a q b) else none
section TWO
variable {μ ν : Mem} {co : Co} {r : Ro} {U : Un} {T : Tx} {fp : Int32} {sd : Nat} {I : Im} {G K : Gt}
theorem bt_v (hA : VA co r U T sd I G K) {p q a b : Nat} (hp : p < co 0 3) (hq : q < co 0 3) (hne : p ≠ q) (hab : a ≠ b) (ha : opn co r p q a = true) (hb : opn co r p q b = true) : vRo co (mv2 r p a q b) 9060 :=
  vRo_move2 hA.2.1 hp hq hne hA.1.2.2.2.1 (opn_lt ha) (opn_lt hb) hab (fun _ ht h1 h2 => ⟨opn_off ha hA.2.1.2.2.2.2.2.2.2.2.2.2 ht h1 h2, opn_off hb hA.2.1.2.2.2.2.2.2.2.2.2.2 ht h1 h2⟩)
theorem bt_b (hv : vCo co) {s : Ro} {B : Nat} (hs : vRo co s B) : sumN (tryN co s (7 * dl co)).2.2 (co 0 3) < 100000 ∧ ownS co (tryN co s (7 * dl co)).2.2 0 + ownS co (tryN co s (7 * dl co)).2.2 1 = (tryN co s (7 * dl co)).1 := by
  have hdl := dl_le hv
  have := (tryN_le hv hs (7 * dl co)).1
  rw [tryN_sum] at this ⊢
  exact ⟨by omega, ownS_2 hv⟩
theorem bt_g (hA : VA co r U T sd I G K) {p q : Nat} (hp : p < co 0 3) (hq : q < co 0 3) (hne : p ≠ q) : ∀ a b v, btG co r p q a b = some v → v < 100000 := by
  intro a b v e
  unfold btG at e
  split at e
  · next z =>
    cases e
    have := bt_b hA.1 (bt_v hA hp hq hne z.1 z.2.1 z.2.2)
    rw [tryN_sum] at this
    unfold lesN
    split <;> omega
  · cases e
theorem bt_end {p q : Nat} (hA : VA co r U T sd I G K) (hp : p < co 0 3) (hq : q < co 0 3) (hne : p ≠ q) : out (btG co r p q) 12 12 = out (btG co r p q) (co 0 0) (co 0 0) ∧ out (btG co r p q) (co 0 0) (co 0 0) ≠ none := by
  have hcc := hA.1.1
  have inj := hA.2.1.2.2.2.2.2.2.2.2.2.2
  have hrp := hA.2.1.2.2.2.2.2.2.2.2.2.1
  have e1 := out_eq (g := btG co r p q) (n := co 0 0) (d := 12 - co 0 0) (fun a b hb => by unfold btG; rw [opn_out hb]; simp) 12
  have e2 := out_end (g := btG co r p q) (m := co 0 0) (n := co 0 0) (fun a b ha => by unfold btG; rw [opn_out ha]; simp) (12 - co 0 0)
  rw [show co 0 0 + (12 - co 0 0) = 12 by omega] at e1 e2
  have h1 := opn_own (q := q) hp (hrp p hp).2.1 inj (Or.inl rfl)
  have h2 := opn_own (p := p) hq (hrp q hq).2.1 inj (Or.inr rfl)
  have hg : btG co r p q (r (15 + p)) (r (15 + q)) = some (lesN co r p (r (15 + p)) q (r (15 + q))) := by
    unfold btG
    rw [if_pos ⟨fun e => hne (inj p q hp hq e), h1, h2⟩]
  exact ⟨e1.trans e2, out_ne hg (hrp q hq).2.1 (co 0 0) (hrp p hp).2.1⟩
end TWO
