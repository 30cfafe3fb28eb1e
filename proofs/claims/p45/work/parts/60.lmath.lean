/-! ===== what the law holds against the class, in whole numbers: drops along the way ===== -/
def pf (g : Nat → Option Nat) (t : Nat → Nat) : Nat → Nat
  | 0 => 0
  | k + 1 => pf g t k + (match g k with
    | none => 0
    | some p => t p)
theorem pf_none {g : Nat → Option Nat} {t : Nat → Nat} {k : Nat} (h : g k = none) : pf g t (k + 1) = pf g t k := by
  show pf g t k + _ = _
  rw [h]; rfl
theorem pf_some {g : Nat → Option Nat} {t : Nat → Nat} {k p : Nat} (h : g k = some p) : pf g t (k + 1) = pf g t k + t p := by
  show pf g t k + _ = _
  rw [h]
theorem pf_mono {g : Nat → Option Nat} {t : Nat → Nat} {a : Nat} : ∀ {b : Nat}, a ≤ b → pf g t a ≤ pf g t b := by
  intro b
  induction b with
  | zero => intro h; rw [show a = 0 by omega]; exact Nat.le_refl _
  | succ b ih =>
    intro h
    by_cases e : a = b + 1
    · rw [e]; exact Nat.le_refl _
    · exact Nat.le_trans (ih (by omega)) (Nat.le_add_right _ _)
theorem tk_some {g : Nat → Option Nat} {t : Nat → Nat} {x p : Nat} : ∀ d k, pf g t k ≤ x → tk g t x d k (pf g t k) = some p → ∃ k', k ≤ k' ∧ k' < k + d ∧ g k' = some p ∧ pf g t k' ≤ x ∧ x < pf g t k' + t p := by
  intro d
  induction d with
  | zero => intro k h e; cases e
  | succ d ih =>
    intro k h e
    unfold tk at e
    cases eg : g k with
    | none =>
      rw [eg] at e
      dsimp only at e
      rw [← pf_none (t := t) eg] at e
      obtain ⟨k', h1, h2, h3⟩ := ih (k + 1) (by rw [pf_none eg]; exact h) e
      exact ⟨k', by omega, by omega, h3⟩
    | some q =>
      rw [eg] at e
      dsimp only at e
      by_cases c : x < pf g t k + t q
      · rw [if_pos c] at e
        cases e
        exact ⟨k, Nat.le_refl _, by omega, eg, h, c⟩
      · rw [if_neg c, ← pf_some (t := t) eg] at e
        obtain ⟨k', h1, h2, h3⟩ := ih (k + 1) (by rw [pf_some eg]; omega) e
        exact ⟨k', by omega, by omega, h3⟩
theorem tk_no {g : Nat → Option Nat} {t : Nat → Nat} {x : Nat} : ∀ d k, pf g t k ≤ x → tk g t x d k (pf g t k) = none → pf g t (k + d) ≤ x := by
  intro d
  induction d with
  | zero => intro k h _; exact h
  | succ d ih =>
    intro k h e
    unfold tk at e
    rw [show k + (d + 1) = (k + 1) + d by omega]
    cases eg : g k with
    | none =>
      rw [eg] at e
      dsimp only at e
      rw [← pf_none (t := t) eg] at e
      exact ih (k + 1) (by rw [pf_none eg]; exact h) e
    | some q =>
      rw [eg] at e
      dsimp only at e
      by_cases c : x < pf g t k + t q
      · rw [if_pos c] at e; cases e
      · rw [if_neg c, ← pf_some (t := t) eg] at e
        exact ih (k + 1) (by rw [pf_some eg]; omega) e
theorem cnt_iv {a b : Nat} (hab : a ≤ b) : ∀ n, sumN (fun i => if a ≤ i ∧ i < b then 1 else 0) n = (if n ≤ a then 0 else if n ≤ b then n - a else b - a) := by
  intro n
  induction n with
  | zero => show 0 = _; rw [if_pos (Nat.zero_le _)]
  | succ n ih =>
    show sumN _ n + (if a ≤ n ∧ n < b then 1 else 0) = _
    rw [ih]
    repeat' split
    all_goals omega
theorem sumN_zero {f : Nat → Nat} : ∀ n, (∀ p, p < n → f p = 0) → sumN f n = 0 := by
  intro n
  induction n with
  | zero => intro _; rfl
  | succ n ih =>
    intro h
    show sumN f n + f n = 0
    rw [ih (fun p hp => h p (by omega)), h n (by omega)]
theorem sumN_get {f : Nat → Nat} {q : Nat} : ∀ n, q < n → f q ≤ sumN f n := by
  intro n
  induction n with
  | zero => intro h; omega
  | succ n ih =>
    intro h
    show _ ≤ sumN f n + f n
    by_cases e : q = n
    · rw [e]; omega
    · have := ih (by omega); omega
theorem sumN_eq0 {f : Nat → Nat} {n q : Nat} (h : sumN f n = 0) (hq : q < n) : f q = 0 := by
  have := sumN_get (f := f) n hq
  omega
theorem sumN_upN_out {f : Nat → Nat} {p v : Nat} : ∀ n, n ≤ p → sumN (upN f p v) n = sumN f n := fun n hn => sumN_congr n (fun q hq => upN_ne (by omega))
theorem sumN_upN {f : Nat → Nat} {p v : Nat} : ∀ n, p < n → sumN (upN f p v) n + f p = sumN f n + v := by
  intro n
  induction n with
  | zero => intro h; omega
  | succ n ih =>
    intro h
    show sumN (upN f p v) n + upN f p v n + f p = sumN f n + f n + v
    by_cases e : p = n
    · rw [sumN_upN_out n (by omega), e, upN_same]; omega
    · rw [upN_ne (by omega)]
      have := ih (by omega)
      omega
/-! a fog past the nets: what is taken and what goes on is all of it -/
section SWEEP
variable {g : Nat → Option Nat} {mesh : Nat → Nat} {fog N n : Nat}
theorem swp_not2 {p : Nat} : ∀ k, (∀ j, j < k → g j ≠ some p) → (swp g mesh fog k).2 p = 0 := by
  intro k
  induction k with
  | zero => intro _; rfl
  | succ k ih =>
    intro h
    have ih := ih (fun j hj => h j (by omega))
    have hk := h k (by omega)
    rw [swp_succ]
    cases e : g k with
    | none => exact ih
    | some q =>
      dsimp only
      rw [upN_ne (fun z => hk (by rw [e, z]))]
      exact ih
theorem swp_keep {p k : Nat} (inj : ∀ a b q, a < N → b < N → g a = some q → g b = some q → a = b) (hk : k < N) (hg : g k = some p) : ∀ m, k < m → m ≤ N → (swp g mesh fog m).2 p = (swp g mesh fog (k + 1)).2 p := by
  intro m
  induction m with
  | zero => intro h; omega
  | succ m ih =>
    intro h1 h2
    by_cases e : m = k
    · rw [e]
    · rw [← ih (by omega) (by omega), swp_succ]
      cases e2 : g m with
      | none => rfl
      | some q =>
        dsimp only
        exact upN_ne (fun z => by
          have := inj m k p (by omega) hk (by rw [e2, z]) hg
          omega)
theorem swp_take {k p : Nat} (h : g k = some p) : (swp g mesh fog (k + 1)).2 p = (swp g mesh fog k).1 * (if 20 ≤ (swp g mesh fog k).1 then mesh p else 9 - mesh p) / 10 ∧ (swp g mesh fog (k + 1)).1 = (swp g mesh fog k).1 - (swp g mesh fog k).1 * (if 20 ≤ (swp g mesh fog k).1 then mesh p else 9 - mesh p) / 10 := by
  rw [swp_succ, h]
  dsimp only
  exact ⟨upN_same, rfl⟩
theorem swp_pf (inj : ∀ a b q, a < N → b < N → g a = some q → g b = some q → a = b) (hm : ∀ k p, k < N → g k = some p → mesh p ≤ 9) : ∀ k, k ≤ N → pf g (swp g mesh fog N).2 k + (swp g mesh fog k).1 = fog := by
  intro k
  induction k with
  | zero => intro _; show 0 + fog = fog; omega
  | succ k ih =>
    intro h
    have ih := ih (by omega)
    cases e : g k with
    | none =>
      rw [pf_none e, swp_succ, e]
      exact ih
    | some q =>
      obtain ⟨h1, h2⟩ := swp_take (mesh := mesh) (fog := fog) e
      have h3 := swp_keep (mesh := mesh) (fog := fog) inj (by omega) e N (by omega) (Nat.le_refl _)
      have h4 := take_le (b := (swp g mesh fog k).1) (t := if 20 ≤ (swp g mesh fog k).1 then mesh q else 9 - mesh q) (by have := hm k q (by omega) e; split <;> omega)
      rw [pf_some e, h3, h1, h2]
      omega
theorem swp_sum (inj : ∀ a b q, a < N → b < N → g a = some q → g b = some q → a = b) (hm : ∀ k p, k < N → g k = some p → mesh p ≤ 9) (hlt : ∀ k p, k < N → g k = some p → p < n) : ∀ k, k ≤ N → sumN (swp g mesh fog k).2 n + (swp g mesh fog k).1 = fog := by
  intro k
  induction k with
  | zero =>
    intro _
    show sumN (fun _ => 0) n + fog = fog
    rw [sumN_zero n (fun _ _ => rfl)]; omega
  | succ k ih =>
    intro h
    have ih := ih (by omega)
    cases e : g k with
    | none =>
      rw [swp_succ, e]
      exact ih
    | some q =>
      have h0 := swp_not2 (g := g) (mesh := mesh) (fog := fog) (p := q) k (fun j hj z => by
        have := inj j k q (by omega) (by omega) z e
        omega)
      have h4 := take_le (b := (swp g mesh fog k).1) (t := if 20 ≤ (swp g mesh fog k).1 then mesh q else 9 - mesh q) (by have := hm k q (by omega) e; split <;> omega)
      have h5 := sumN_upN (f := (swp g mesh fog k).2) (p := q) (v := (swp g mesh fog k).1 * (if 20 ≤ (swp g mesh fog k).1 then mesh q else 9 - mesh q) / 10) n (hlt k q (by omega) e)
      rw [swp_succ, e]
      dsimp only
      omega
end SWEEP
section LEAD
variable {co : Co} {r : Ro} {B H set side fog : Nat}
theorem gAt_inj {a b q : Nat} (ha : a < co 0 0) (hb : b < co 0 0) (h1 : gAt co r set side a = some q) (h2 : gAt co r set side b = some q) : a = b := by
  have e1 := (gAt_some h1).2.1
  have e2 := (gAt_some h2).2.1
  unfold posn at e1 e2
  by_cases c : side = 0
  · rw [if_pos c] at e1 e2; omega
  · rw [if_neg c] at e1 e2; omega
theorem lead_sum (hr : vRH co r B H) : sumN (lead co r set side fog).2 (co 0 3) + (lead co r set side fog).1 = fog :=
  swp_sum (N := co 0 0) (fun a b q ha hb h1 h2 => gAt_inj ha hb h1 h2) (fun k p _ h => (hr.2.2.2.2.2.2.2.2.2.1 p (gAt_some h).1).2.2) (fun k p _ h => (gAt_some h).1) (co 0 0) (Nat.le_refl _)
theorem pf_congr {g g' : Nat → Option Nat} {t : Nat → Nat} : ∀ k, (∀ j, j < k → g j = g' j) → pf g t k = pf g' t k := by
  intro k
  induction k with
  | zero => intro _; rfl
  | succ k ih =>
    intro h
    show pf g t k + _ = pf g' t k + _
    rw [ih (fun j hj => h j (by omega)), h k (by omega)]
theorem lead_pf (hr : vRH co r B H) : ∀ k, pf (gO co r set side) (lead co r set side fog).2 k ≤ fog := by
  have h0 : ∀ k, k ≤ co 0 0 → pf (gO co r set side) (lead co r set side fog).2 k ≤ fog := by
    intro k hk
    have := swp_pf (g := gAt co r set side) (mesh := fun p => r (21 + p)) (fog := fog) (N := co 0 0) (fun a b q ha hb h1 h2 => gAt_inj ha hb h1 h2) (fun k p _ h => (hr.2.2.2.2.2.2.2.2.2.1 p (gAt_some h).1).2.2) k hk
    rw [pf_congr (g' := gAt co r set side) k (fun j hj => by unfold gO; rw [if_pos (by omega)])]
    unfold lead
    omega
  intro k
  induction k with
  | zero => exact Nat.zero_le _
  | succ k ih =>
    by_cases c : k + 1 ≤ co 0 0
    · exact h0 _ c
    · rw [pf_none (by unfold gO; rw [if_neg (by omega)])]
      exact ih
/-- whose net drop i of so much is led to -/
def ldN (co : Co) (r : Ro) (x s i : Nat) : Option Nat := tk (gO co r (hs co (r 0)) s) (lead co r (hs co (r 0)) s x).2 i 12 0 0
abbrev pfL (co : Co) (r : Ro) (x s k : Nat) : Nat := pf (gO co r (hs co (r 0)) s) (lead co r (hs co (r 0)) s x).2 k
theorem gO_some {k p : Nat} (h : gO co r set side k = some p) : k < co 0 0 ∧ p < co 0 3 ∧ r (15 + p) = posn co side k ∧ bitN set p = true := by
  unfold gO at h
  by_cases c : k < co 0 0
  · rw [if_pos c] at h
    exact ⟨c, gAt_some h⟩
  · rw [if_neg c] at h; cases h
theorem gO_inj {a b q : Nat} (h1 : gO co r set side a = some q) (h2 : gO co r set side b = some q) : a = b := by
  obtain ⟨c1, -, e1, -⟩ := gO_some h1
  obtain ⟨c2, -, e2, -⟩ := gO_some h2
  unfold posn at e1 e2
  by_cases c : side = 0
  · rw [if_pos c] at e1 e2; omega
  · rw [if_neg c] at e1 e2; omega
theorem ld_some {x s i p : Nat} (h : ldN co r x s i = some p) : ∃ k, gO co r (hs co (r 0)) s k = some p ∧ pfL co r x s k ≤ i ∧ i < pfL co r x s (k + 1) ∧ pfL co r x s (k + 1) = pfL co r x s k + tkn co r p s x := by
  obtain ⟨k, h1, h2, h3, h4, h5⟩ := tk_some 12 0 (Nat.zero_le _) h
  have h6 := pf_some (t := (lead co r (hs co (r 0)) s x).2) h3
  exact ⟨k, h3, h4, by show i < pf _ _ _; rw [h6]; exact h5, h6⟩
theorem ld_none {x s i : Nat} (h : ldN co r x s i = none) : pfL co r x s 12 ≤ i := tk_no 12 0 (Nat.zero_le _) h
theorem ld_lt (hv : vCo co) {x s i p : Nat} (h : ldN co r x s i = some p) : i < pfL co r x s 12 := by
  obtain ⟨k, h1, h2, h3, -⟩ := ld_some h
  have := (gO_some h1).1
  have := hv.1
  exact Nat.lt_of_lt_of_le h3 (pf_mono (by omega))
theorem ld_of (hv : vCo co) {x s i p k : Nat} (hg : gO co r (hs co (r 0)) s k = some p) (h1 : pfL co r x s k ≤ i) (h2 : i < pfL co r x s (k + 1)) : ldN co r x s i = some p := by
  have hk := (gO_some hg).1
  have hc := hv.1
  cases e : ldN co r x s i with
  | none =>
    have := ld_none e
    have := pf_mono (g := gO co r (hs co (r 0)) s) (t := (lead co r (hs co (r 0)) s x).2) (show k + 1 ≤ 12 by omega)
    exfalso
    have h3 : i < pfL co r x s 12 := Nat.lt_of_lt_of_le h2 this
    omega
  | some q =>
    obtain ⟨k', g1, g2, g3, -⟩ := ld_some e
    rcases Nat.lt_trichotomy k k' with c | c | c
    · have := pf_mono (g := gO co r (hs co (r 0)) s) (t := (lead co r (hs co (r 0)) s x).2) (show k + 1 ≤ k' by omega)
      exfalso
      have h3 : pfL co r x s (k + 1) ≤ pfL co r x s k' := this
      omega
    · rw [← c, hg] at g1; exact g1.symm
    · have := pf_mono (g := gO co r (hs co (r 0)) s) (t := (lead co r (hs co (r 0)) s x).2) (show k' + 1 ≤ k by omega)
      exfalso
      have h3 : pfL co r x s (k' + 1) ≤ pfL co r x s k := this
      omega
theorem ld_count (hv : vCo co) (hr : vRH co r B H) {x s p : Nat} : sumN (fun i => if ldN co r x s i = some p then 1 else 0) x = tkn co r p s x := by
  by_cases c : ∃ k, gO co r (hs co (r 0)) s k = some p
  · obtain ⟨k, hk⟩ := c
    have h6 : pfL co r x s (k + 1) = pfL co r x s k + tkn co r p s x := pf_some hk
    have hle : pfL co r x s (k + 1) ≤ x := lead_pf hr (k + 1)
    rw [sumN_congr (g := fun i => if pfL co r x s k ≤ i ∧ i < pfL co r x s (k + 1) then 1 else 0) x (fun i _ => ?_), cnt_iv (by omega)]
    · repeat' split
      all_goals omega
    · by_cases c2 : pfL co r x s k ≤ i ∧ i < pfL co r x s (k + 1)
      · rw [if_pos c2, if_pos (ld_of hv hk c2.1 c2.2)]
      · rw [if_neg c2, if_neg (fun z => ?_)]
        obtain ⟨k', g1, g2, g3, -⟩ := ld_some z
        have : k = k' := gO_inj hk g1
        subst this
        exact c2 ⟨g2, g3⟩
  · rw [sumN_zero x (fun i _ => if_neg (fun z => ?_))]
    · symm
      unfold tkn lead
      exact swp_not2 _ (fun j hj z => c ⟨j, by unfold gO; rw [if_pos hj]; exact z⟩)
    · obtain ⟨k', g1, -⟩ := ld_some z
      exact c ⟨k', g1⟩
theorem ld_place {x s i j p q k k' : Nat} (hij : i ≤ j) (h1 : pfL co r x s k ≤ i) (h2 : i < pfL co r x s (k + 1)) (h3 : pfL co r x s k' ≤ j) (h4 : j < pfL co r x s (k' + 1)) : k ≤ k' := by
  refine Nat.le_of_not_lt (fun c => ?_)
  have := pf_mono (g := gO co r (hs co (r 0)) s) (t := (lead co r (hs co (r 0)) s x).2) (show k' + 1 ≤ k by omega)
  have h3 : pfL co r x s (k' + 1) ≤ pfL co r x s k := this
  omega
end LEAD
/-! the best told is the best -/
theorem upN_upN {r : Ro} {j a b : Nat} : upN (upN r j a) j b = upN r j b := by
  funext i
  unfold upN
  split <;> rfl
theorem bst_spec {f : Nat → Option Nat} : ∀ n q, bst f n = some q → q.1 < n ∧ f q.1 = some q.2 ∧ ∀ j v, j < n → f j = some v → v ≤ q.2 := by
  intro n
  induction n with
  | zero => intro q h; cases h
  | succ n ih =>
    intro q h
    have h' : up (bst f n) n (f n) = some q := h
    cases e : f n with
    | none =>
      rw [e] at h'
      have h2 : bst f n = some q := h'
      obtain ⟨a, b, c⟩ := ih q h2
      refine ⟨by omega, b, fun j v hj hv => ?_⟩
      by_cases z : j = n
      · rw [z, e] at hv; cases hv
      · exact c j v (by omega) hv
    | some u =>
      rw [e] at h'
      cases e2 : bst f n with
      | none =>
        rw [e2] at h'
        have h3 : some (n, u) = some q := h'
        cases h3
        refine ⟨by omega, e, fun j v hj hv => ?_⟩
        by_cases z : j = n
        · rw [z, e] at hv; cases hv; exact Nat.le_refl _
        · exact absurd e2 (bst_ne hv n (by omega))
      | some t =>
        rw [e2] at h'
        have h3 : (if t.2 < u then some (n, u) else some t) = some q := h'
        obtain ⟨a, b, c⟩ := ih t e2
        by_cases z : t.2 < u
        · rw [if_pos z] at h3
          cases h3
          refine ⟨by omega, e, fun j v hj hv => ?_⟩
          by_cases y : j = n
          · rw [y, e] at hv; cases hv; exact Nat.le_refl _
          · have := c j v (by omega) hv
            show v ≤ u
            omega
        · rw [if_neg z] at h3
          cases h3
          refine ⟨by omega, b, fun j v hj hv => ?_⟩
          by_cases y : j = n
          · rw [y, e] at hv; cases hv; omega
          · exact c j v (by omega) hv
theorem bst_congr {f f' : Nat → Option Nat} : ∀ n, (∀ j, j < n → f j = f' j) → bst f n = bst f' n := by
  intro n
  induction n with
  | zero => intro _; rfl
  | succ n ih =>
    intro h
    show up (bst f n) n (f n) = up (bst f' n) n (f' n)
    rw [ih (fun j hj => h j (by omega)), h n (by omega)]
theorem opn_iff {co : Co} {r : Ro} {p a : Nat} (inj : ∀ a b, a < co 0 3 → b < co 0 3 → r (15 + a) = r (15 + b) → a = b) : opn co r p p a = true ↔ a < co 0 0 ∧ ∀ t, t < co 0 3 → t ≠ p → r (15 + t) ≠ a := by
  refine ⟨fun h => ⟨opn_lt h, fun t ht h1 => opn_off h inj ht h1 h1⟩, fun h => ?_⟩
  unfold opn okO
  rw [decide_eq_true h.1, Bool.true_and]
  cases e : pin (fun t => r (15 + t)) a (co 0 3) with
  | none => rfl
  | some t =>
    dsimp only
    obtain ⟨h1, h2⟩ := pin_some e
    by_cases c : t = p
    · simp [c]
    · exact absurd h2 (h.2 t h1 c)
/-! jars, spilled, drunk -/
def tot (co : Co) (r : Ro) : Nat := sumN (fun p => r (9 + p)) (co 0 3) + r 3 + r 4
theorem shift_up {r : Ro} {p v : Nat} (hp : p < 6) {n : Nat} (hn : n ≤ 6) : (fun q => upN r (9 + p) v (9 + q)) = upN (fun q => r (9 + q)) p v := by
  funext q
  unfold upN
  by_cases c : q = p
  · rw [if_pos (by omega), if_pos c]
  · rw [if_neg (by omega), if_neg c]
theorem sumJ_up {r : Ro} {p v n : Nat} (hp : p < n) (hn : n ≤ 6) : sumN (fun q => upN r (9 + p) v (9 + q)) n + r (9 + p) = sumN (fun q => r (9 + q)) n + v := by
  rw [shift_up (by omega) hn]
  exact sumN_upN (f := fun q => r (9 + q)) n hp
theorem sumJ_ne {r : Ro} {j v n : Nat} (hj : j < 9 ∨ 9 + n ≤ j) : sumN (fun q => upN r j v (9 + q)) n = sumN (fun q => r (9 + q)) n := sumN_congr n (fun q hq => upN_ne (by omega))
theorem tot_pj {co : Co} {t : Nat → Nat} {r : Ro} (hn : co 0 3 ≤ 6) : ∀ p, p ≤ co 0 3 → tot co r + sumN t p ≤ 999999 → tot co (pj co t r p) = tot co r + sumN t p := by
  intro p
  induction p with
  | zero => intro _ _; show tot co r = tot co r + 0; omega
  | succ p ih =>
    intro hp hs
    have hs' : tot co r + (sumN t p + t p) ≤ 999999 := hs
    have ih := ih (by omega) (by omega)
    have e4 : pj co t r p 4 = r 4 := pj_oth (by decide) (by decide) p (by omega)
    show tot co (upN (upN (pj co t r p) (9 + p) (pj co t r p (9 + p) + t p - (pj co t r p (9 + p) + t p - co 3 p))) 3 (cnt (pj co t r p 3 + (pj co t r p (9 + p) + t p - co 3 p)))) = tot co r + (sumN t p + t p)
    have h1 := sumJ_up (r := pj co t r p) (p := p) (v := pj co t r p (9 + p) + t p - (pj co t r p (9 + p) + t p - co 3 p)) (n := co 0 3) (by omega) hn
    have hj := sumN_get (f := fun q => pj co t r p (9 + q)) (q := p) (co 0 3) (by omega)
    unfold tot at ih hs' ⊢
    rw [sumJ_ne (by omega), upN_same, upN_ne (by decide), upN_ne (by omega)]
    rw [cnt_id (by omega)]
    omega
theorem tot_gj {co : Co} {r : Ro} (hn : co 0 3 ≤ 6) (hs : tot co r ≤ 999999) : ∀ g, tot co (gj co r g) = tot co r := by
  intro g
  induction g with
  | zero => rfl
  | succ g ih =>
    show tot co (match pin (fun p => gj co r g (15 + p)) (co 7 g) (co 0 3) with
      | none => gj co r g
      | some p => upN (upN (gj co r g) (9 + p) (gj co r g (9 + p) - (if gj co r g (9 + p) < co 8 g then gj co r g (9 + p) else co 8 g))) 4 (cnt (gj co r g 4 + (if gj co r g (9 + p) < co 8 g then gj co r g (9 + p) else co 8 g)))) = tot co r
    cases e : pin (fun p => gj co r g (15 + p)) (co 7 g) (co 0 3) with
    | none => exact ih
    | some p =>
      dsimp only
      have hp := (pin_some e).1
      have h1 := sumJ_up (r := gj co r g) (p := p) (v := gj co r g (9 + p) - (if gj co r g (9 + p) < co 8 g then gj co r g (9 + p) else co 8 g)) (n := co 0 3) hp hn
      have hj := sumN_get (f := fun q => gj co r g (9 + q)) (q := p) (co 0 3) hp
      have hle : (if gj co r g (9 + p) < co 8 g then gj co r g (9 + p) else co 8 g) ≤ gj co r g (9 + p) := by split <;> omega
      unfold tot at ih ⊢
      rw [sumJ_ne (by omega), upN_same, upN_ne (by decide), upN_ne (by omega)]
      unfold tot at hs
      rw [cnt_id (by omega)]
      omega
theorem tot_congr {co : Co} {r r' : Ro} (hj : ∀ p, p < co 0 3 → r (9 + p) = r' (9 + p)) (h3 : r 3 = r' 3) (h4 : r 4 = r' 4) : tot co r = tot co r' := by
  unfold tot
  rw [sumN_congr (co 0 3) hj, h3, h4]
theorem tot_pas {co : Co} {r : Ro} {fog side : Nat} (hn : co 0 3 ≤ 6) (hs : tot co r + sumN (pasT co r fog side) (co 0 3) ≤ 999999) : tot co (pasR co r fog side false) = tot co r + sumN (pasT co r fog side) (co 0 3) := by
  have h1 := tot_pj (co := co) (t := pasT co r fog side) (r := r) hn (co 0 3) (Nat.le_refl _) hs
  have h2 : ∀ x, tot co (upN (pj co (pasT co r fog side) r (co 0 3)) 1 x) = tot co (pj co (pasT co r fog side) r (co 0 3)) := fun x => tot_congr (fun p _ => upN_ne (by omega)) (upN_ne (by decide)) (upN_ne (by decide))
  unfold pasR
  split
  · unfold endR
    rw [if_neg (by decide)]
    have h3 := tot_gj (co := co) (r := upN (pj co (pasT co r fog side) r (co 0 3)) 1 (r 1 + 1)) hn (by rw [h2, h1]; exact hs) (co 0 4)
    rw [tot_congr (r' := gj co (upN (pj co (pasT co r fog side) r (co 0 3)) 1 (r 1 + 1)) (co 0 4)) (fun p hp => ?_) ?_ ?_, h3, h2, h1]
    all_goals rw [upN_ne (by omega), upN_ne (by omega), uj_oth (by omega) 2 (by decide)]
  · rw [h2, h1]
/-! nothing is in cisterns, where nothing is carried -/
theorem pas_cis {co : Co} {r : Ro} {fog side v : Nat} (hn : co 0 3 ≤ 6) (hv : v < 2) (h : r (5 + v) = 0) : pasR co r fog side false (5 + v) = 0 := by
  unfold pasR
  split
  · unfold endR
    rw [if_neg (by decide), upN_ne (by omega), upN_ne (by omega)]
    have e0 : ∀ w, w < 2 → gj co (upN (pj co (pasT co r fog side) r (co 0 3)) 1 (r 1 + 1)) (co 0 4) (5 + w) = r (5 + w) := fun w hw => by
      rw [gj_oth hn (by omega) (by omega), upN_ne (by omega), pj_oth (by omega) (by omega) _ hn]
    obtain ⟨y, hy⟩ : ∃ y, y = gj co (upN (pj co (pasT co r fog side) r (co 0 3)) 1 (r 1 + 1)) (co 0 4) := ⟨_, rfl⟩
    rw [← hy] at e0 ⊢
    unfold uj uj uj
    rcases (by omega : v = 0 ∨ v = 1) with rfl | rfl
    · rw [upN_ne (by decide), upN_ne (by decide), upN_ne (by decide), upN_same]
      have h5 : y 5 = r 5 := e0 0 (by decide)
      have h0 : r 5 = 0 := h
      show y 5 - co 6 0 = 0
      omega
    · rw [upN_ne (by decide), upN_same, upN_ne (by decide), upN_ne (by decide)]
      have h5 : y 6 = r 6 := e0 1 (by decide)
      have h0 : r 6 = 0 := h
      show y 6 - co 6 1 = 0
      omega
  · rw [upN_ne (by omega), pj_oth (by omega) (by omega) _ hn]; exact h
/-! who uses nothing is never thirsty -/
theorem pas_thr {co : Co} {r : Ro} {fog side v : Nat} {c : Bool} (hn : co 0 3 ≤ 6) (hv : v < 2) (h6 : co 6 v = 0) (h : r (7 + v) ≤ 999999) : pasR co r fog side c (7 + v) = r (7 + v) := by
  by_cases e : r 1 + 1 = dl co
  · unfold pasR
    rw [if_pos e]
    unfold endR
    rw [upN_ne (by omega), upN_ne (by omega)]
    have e0 : ∀ w, w < 2 → gj co (if c = true then carR co 1 (carR co 0 (upN (pj co (pasT co r fog side) r (co 0 3)) 1 (r 1 + 1))) else upN (pj co (pasT co r fog side) r (co 0 3)) 1 (r 1 + 1)) (co 0 4) (7 + w) = r (7 + w) := fun w hw => by
      rw [gj_oth hn (by omega) (by omega)]
      split
      · rw [carR_low (by omega) (by omega) hn (by decide), carR_low (by omega) (by omega) hn (by decide), upN_ne (by omega), pj_oth (by omega) (by omega) _ hn]
      · rw [upN_ne (by omega), pj_oth (by omega) (by omega) _ hn]
    obtain ⟨y, hy⟩ : ∃ y, y = gj co (if c = true then carR co 1 (carR co 0 (upN (pj co (pasT co r fog side) r (co 0 3)) 1 (r 1 + 1))) else upN (pj co (pasT co r fog side) r (co 0 3)) 1 (r 1 + 1)) (co 0 4) := ⟨_, rfl⟩
    rw [← hy] at e0 ⊢
    unfold uj uj uj
    rcases (by omega : v = 0 ∨ v = 1) with rfl | rfl
    · rw [upN_ne (by decide), upN_ne (by decide), upN_same, h6, e0 0 (by decide)]
      rw [cnt_id (by omega)]; omega
    · rw [upN_same, h6, upN_ne (by decide), upN_ne (by decide), e0 1 (by decide)]
      rw [cnt_id (by omega)]; omega
  · exact (pas_in hn e).2.2 v hv
theorem itN_thr0 {co : Co} {r : Ro} {v : Nat} (hn : co 0 3 ≤ 6) (hv : v < 2) (h6 : co 6 v = 0) (h : r (7 + v) ≤ 999999) : ∀ i, itN co r i (7 + v) = r (7 + v) := by
  intro i
  induction i with
  | zero => rfl
  | succ i ih =>
    show pasR co (itN co r i) _ _ true (7 + v) = _
    rw [pas_thr hn hv h6 (by rw [ih]; exact h), ih]
theorem thr_0 {co : Co} {r : Ro} {v : Nat} (h : ∀ i, itN co r i (7 + v) = r (7 + v)) : ∀ d i, thr co r v d i = none := by
  intro d
  induction d with
  | zero => intro i; rfl
  | succ d ih =>
    intro i
    show (if 60 ≤ itN co r i 0 - r 0 then none else if r (7 + v) < itN co r (i + 1) (7 + v) then some (itN co r (i + 1) 0 - r 0) else thr co r v d (i + 1)) = none
    split
    · rfl
    · rw [h (i + 1), if_neg (by omega)]
      exact ih (i + 1)
theorem itN_day {co : Co} {r : Ro} {v : Nat} (hn : co 0 3 ≤ 6) (hv : v < 2) : ∀ i, r 0 ≤ itN co r i 0 ∧ itN co r (i + 1) 0 ≤ itN co r i 0 + 1 ∧ (itN co r i 0 = r 0 → itN co r i (7 + v) = r (7 + v)) := by
  have step : ∀ i, (itN co r (i + 1) 0 = itN co r i 0 + 1) ∨ (itN co r (i + 1) 0 = itN co r i 0 ∧ itN co r (i + 1) (7 + v) = itN co r i (7 + v)) := by
    intro i
    by_cases e : itN co r i 1 + 1 = dl co
    · left; exact (pas_end hn e).1
    · right; exact ⟨(pas_in hn e).1, (pas_in hn e).2.2 v hv⟩
  intro i
  induction i with
  | zero =>
    refine ⟨Nat.le_refl _, ?_, fun _ => rfl⟩
    rcases step 0 with h | h <;> omega
  | succ i ih =>
    obtain ⟨a, b, c⟩ := ih
    refine ⟨?_, ?_, fun e => ?_⟩
    · rcases step i with h | h <;> omega
    · rcases step (i + 1) with h | h <;> omega
    · rcases step i with h | h
      · omega
      · rw [h.2]; exact c (by omega)
theorem thr_in {co : Co} {r : Ro} {v : Nat} (hn : co 0 3 ≤ 6) (hv : v < 2) : ∀ d i w, thr co r v d i = some w → 1 ≤ w ∧ w ≤ 60 := by
  intro d
  induction d with
  | zero => intro i w h; cases h
  | succ d ih =>
    intro i w h
    have h' : (if 60 ≤ itN co r i 0 - r 0 then none else if r (7 + v) < itN co r (i + 1) (7 + v) then some (itN co r (i + 1) 0 - r 0) else thr co r v d (i + 1)) = some w := h
    by_cases c : 60 ≤ itN co r i 0 - r 0
    · rw [if_pos c] at h'; cases h'
    · rw [if_neg c] at h'
      by_cases c2 : r (7 + v) < itN co r (i + 1) (7 + v)
      · rw [if_pos c2] at h'
        cases h'
        obtain ⟨a1, a2, a3⟩ := itN_day (co := co) (r := r) hn hv i
        obtain ⟨b1, b2, b3⟩ := itN_day (co := co) (r := r) hn hv (i + 1)
        refine ⟨?_, by omega⟩
        refine Nat.pos_of_ne_zero (fun z => ?_)
        have := b3 (by omega)
        omega
      · rw [if_neg c2] at h'
        exact ih (i + 1) w h'
/-! shares are all jars -/
theorem sh_sum {co : Co} {x : Nat} (hv : vCo co) (h3 : 0 < co 0 3) : shN co x 0 + shN co x 1 = x := by
  have hs := own_sum hv
  have hms : x * own co 0 + x * own co 1 = x * co 0 3 := by rw [← Nat.mul_add, hs]
  have hdd : x * own co 0 / co 0 3 + x * own co 1 / co 0 3 ≤ x := by
    have a0 := Nat.div_mul_le_self (x * own co 0) (co 0 3)
    have a1 := Nat.div_mul_le_self (x * own co 1) (co 0 3)
    have : (x * own co 0 / co 0 3 + x * own co 1 / co 0 3) * co 0 3 ≤ x * co 0 3 := by rw [Nat.add_mul]; omega
    exact Nat.le_of_mul_le_mul_right this h3
  unfold shN
  by_cases c : x * own co 1 % co 0 3 ≤ x * own co 0 % co 0 3
  · rw [if_pos c, if_pos rfl, if_neg (by decide)]; omega
  · rw [if_neg c, if_neg (by decide), if_pos rfl]; omega
theorem sh_none {co : Co} {x v : Nat} (hv : vCo co) (h3 : 0 < co 0 3) (hv2 : v < 2) (h0 : own co v = 0) : shN co x v = 0 := by
  have hs := own_sum hv
  have hd : x * co 0 3 / co 0 3 = x := Nat.mul_div_cancel x h3
  have hm : x * co 0 3 % co 0 3 = 0 := Nat.mul_mod_left x (co 0 3)
  unfold shN
  rcases (by omega : v = 0 ∨ v = 1) with rfl | rfl
  · have e1 : own co 1 = co 0 3 := by omega
    rw [h0, e1, Nat.mul_zero, Nat.zero_div, hd, hm, Nat.zero_mod]
    simp
  · have e1 : own co 0 = co 0 3 := by omega
    rw [h0, e1, Nat.mul_zero, Nat.zero_div, hd, hm, Nat.zero_mod]
    simp
theorem own_hsN {co : Co} {v : Nat} (hn : co 0 3 ≤ 6) (h : hsN (fun p => decide (co 4 p = v)) (co 0 3) = 0) : own co v = 0 := by
  have := pc_hsN (fun p => decide (co 4 p = v)) hn
  rw [h] at this
  have e : pc 0 = 0 := by decide
  rw [e] at this
  exact this.symm
/-! by yards a goat comes to a jar -/
theorem yd_spec {co : Co} {r : Ro} {c : Nat} (inj : ∀ a b, a < co 0 3 → b < co 0 3 → r (15 + a) = r (15 + b) → a = b) : ∀ a, (yd co r c a = none → ∀ p, p < co 0 3 → r (15 + p) < a → r (9 + p) = 0) ∧ (∀ q, yd co r c a = some q → (q.1 < co 0 3 ∧ 0 < r (9 + q.1) ∧ r (15 + q.1) < a ∧ q.2 = way c (r (15 + q.1))) ∧ ∀ p, p < co 0 3 → r (15 + p) < a → 0 < r (9 + p) → q.2 ≤ way c (r (15 + p))) := by
  intro a
  induction a with
  | zero => exact ⟨fun _ p _ h => by omega, fun q h => by cases h⟩
  | succ a ih =>
    obtain ⟨i1, i2⟩ := ih
    have ey : yd co r c (a + 1) = match pin (fun p => r (15 + p)) a (co 0 3) with
      | none => yd co r c a
      | some p => if 0 < r (9 + p) then ydn (yd co r c a) p (way c a) else yd co r c a := rfl
    have low : ∀ p, p < co 0 3 → r (15 + p) < a + 1 → r (15 + p) < a ∨ pin (fun p => r (15 + p)) a (co 0 3) = some p := fun p hp h => by
      by_cases z : r (15 + p) = a
      · right; exact pin_of (f := fun p => r (15 + p)) hp z inj
      · left; omega
    cases e : pin (fun p => r (15 + p)) a (co 0 3) with
    | none =>
      rw [e] at ey low
      dsimp only at ey
      rw [ey]
      refine ⟨fun h p hp hl => ?_, fun q h => ?_⟩
      · rcases low p hp hl with z | z
        · exact i1 h p hp z
        · cases z
      · obtain ⟨⟨b1, b2, b3, b4⟩, b5⟩ := i2 q h
        refine ⟨⟨b1, b2, by omega, b4⟩, fun p hp hl hj => ?_⟩
        rcases low p hp hl with z | z
        · exact b5 p hp z hj
        · cases z
    | some t =>
      rw [e] at ey low
      dsimp only at ey
      obtain ⟨ht, hta⟩ := pin_some e
      have hta : r (15 + t) = a := hta
      by_cases c0 : 0 < r (9 + t)
      · rw [if_pos c0] at ey
        cases e2 : yd co r c a with
        | none =>
          rw [e2] at ey
          have ey : yd co r c (a + 1) = some (t, way c a) := ey
          rw [ey]
          refine ⟨fun h => (by cases h), fun q h => ?_⟩
          cases h
          refine ⟨⟨ht, c0, by show r (15 + t) < a + 1; omega, by show way c a = way c (r (15 + t)); rw [hta]⟩, fun p hp hl hj => ?_⟩
          rcases low p hp hl with z | z
          · have := i1 e2 p hp z; omega
          · cases z; show way c a ≤ _; rw [hta]; exact Nat.le_refl _
        | some u =>
          rw [e2] at ey
          have ey : yd co r c (a + 1) = if way c a < u.2 then some (t, way c a) else some u := ey
          obtain ⟨⟨b1, b2, b3, b4⟩, b5⟩ := i2 u e2
          rw [ey]
          by_cases c1 : way c a < u.2
          · rw [if_pos c1]
            refine ⟨fun h => (by cases h), fun q h => ?_⟩
            cases h
            refine ⟨⟨ht, c0, by show r (15 + t) < a + 1; omega, by show way c a = way c (r (15 + t)); rw [hta]⟩, fun p hp hl hj => ?_⟩
            rcases low p hp hl with z | z
            · have := b5 p hp z hj; show way c a ≤ _; omega
            · cases z; show way c a ≤ _; rw [hta]; exact Nat.le_refl _
          · rw [if_neg c1]
            refine ⟨fun h => (by cases h), fun q h => ?_⟩
            cases h
            refine ⟨⟨b1, b2, by omega, b4⟩, fun p hp hl hj => ?_⟩
            rcases low p hp hl with z | z
            · exact b5 p hp z hj
            · cases z; rw [hta]; omega
      · rw [if_neg c0] at ey
        rw [ey]
        refine ⟨fun h p hp hl => ?_, fun q h => ?_⟩
        · rcases low p hp hl with z | z
          · exact i1 h p hp z
          · cases z; omega
        · obtain ⟨⟨b1, b2, b3, b4⟩, b5⟩ := i2 q h
          refine ⟨⟨b1, b2, by omega, b4⟩, fun p hp hl hj => ?_⟩
          rcases low p hp hl with z | z
          · exact b5 p hp z hj
          · cases z; omega
/-! carried: all jars -/
theorem cjS_sum {co : Co} {r : Ro} (hv : vCo co) : cjS co 0 r (co 0 3) + cjS co 1 r (co 0 3) = sumN (fun p => r (9 + p)) (co 0 3) := by
  have hown : ∀ p, p < co 0 3 → co 4 p ≤ 1 := fun p hp => (hv.2.2.2.2.2.2.2.2.1 p hp).2.2
  have key : ∀ n, n ≤ co 0 3 → cjS co 0 r n + cjS co 1 r n = sumN (fun p => r (9 + p)) n := by
    intro n
    induction n with
    | zero => intro _; rfl
    | succ n ih =>
      intro h
      have ih := ih (by omega)
      have h1 := hown n (by omega)
      show cjS co 0 r n + (if co 4 n = 0 then r (9 + n) else 0) + (cjS co 1 r n + (if co 4 n = 1 then r (9 + n) else 0)) = sumN _ n + r (9 + n)
      rcases (by omega : co 4 n = 0 ∨ co 4 n = 1) with z | z
      · rw [if_pos z, if_neg (by omega)]; omega
      · rw [if_neg (by omega), if_pos z]; omega
  exact key _ (Nat.le_refl _)
theorem car_jar {co : Co} {v : Nat} {r : Ro} {p : Nat} (hp : p < co 0 3) (hn : co 0 3 ≤ 6) (hv2 : v < 2) : carR co v r (9 + p) = if co 4 p = v then 0 else r (9 + p) := by
  unfold carR
  rw [upN_ne (by omega)]
  unfold cj
  rw [show 9 + p - 9 = p by omega]
  by_cases c : co 4 p = v
  · rw [if_pos ⟨by omega, by omega, c⟩, if_pos c]
  · rw [if_neg (fun z => c z.2.2), if_neg c]
theorem car_cis {co : Co} {v w : Nat} {r : Ro} (hv2 : v < 2) (hw : w < 2) : carR co v r (5 + w) = if w = v then (if 99999 < r (5 + v) + cjS co v r (co 0 3) then 99999 else r (5 + v) + cjS co v r (co 0 3)) else r (5 + w) := by
  unfold carR
  by_cases c : w = v
  · rw [if_pos c, c, upN_same]
  · rw [if_neg c, upN_ne (by omega)]
    unfold cj
    rw [if_neg (by omega)]
theorem cjS_1 {co : Co} {r : Ro} (hn : co 0 3 ≤ 6) : cjS co 1 (carR co 0 r) (co 0 3) = cjS co 1 r (co 0 3) :=
  sumN_congr _ (fun p hp => by
    by_cases c : co 4 p = 1
    · rw [if_pos c, if_pos c, car_jar hp hn (by decide), if_neg (by omega)]
    · rw [if_neg c, if_neg c])
/-! what a net would take of a thickness -/
theorem fnd_spec {f : Nat → Bool} {m : Nat} : ∀ d i, i ≤ m → m < i + d → f m = true → ∃ k, fnd f d i = some k ∧ i ≤ k ∧ k ≤ m := by
  intro d
  induction d with
  | zero => intro i h1 h2; omega
  | succ d ih =>
    intro i h1 h2 hm
    show ∃ k, (if f i = true then some i else fnd f d (i + 1)) = some k ∧ i ≤ k ∧ k ≤ m
    by_cases c : f i = true
    · exact ⟨i, by rw [if_pos c], Nat.le_refl _, h1⟩
    · have : i ≠ m := fun z => c (by rw [z]; exact hm)
      obtain ⟨k, h3, h4, h5⟩ := ih (i + 1) (by omega) (by omega) hm
      exact ⟨k, by rw [if_neg c]; exact h3, by omega, h5⟩
theorem fsO_spec {f : Nat → Bool} {m : Nat} (hm : f m = true) : ∀ n, m < n → ∃ k, fsO f n = some k ∧ k ≤ m ∧ ∀ j, j < k → f j = false := by
  intro n
  induction n with
  | zero => intro h; omega
  | succ n ih =>
    intro h
    by_cases c : m < n
    · obtain ⟨k, h1, h2⟩ := ih c
      refine ⟨k, ?_, h2⟩
      show (match fsO f n with
        | some x => some x
        | none => if f n = true then some n else none) = some k
      rw [h1]
    · have e : m = n := by omega
      subst e
      cases q : fsO f m with
      | none =>
        refine ⟨m, ?_, Nat.le_refl _, fun j hj => ?_⟩
        · show (match fsO f m with
            | some x => some x
            | none => if f m = true then some m else none) = some m
          rw [q]; dsimp only; rw [if_pos hm]
        · cases z : f j with
          | false => rfl
          | true =>
            have key : ∀ n, j < n → fsO f n ≠ none := by
              intro n
              induction n with
              | zero => intro h; omega
              | succ n ihn =>
                intro h
                show (match fsO f n with
                  | some x => some x
                  | none => if f n = true then some n else none) ≠ none
                cases y : fsO f n with
                | some x => intro z; cases z
                | none =>
                  dsimp only
                  by_cases w : j = n
                  · rw [← w, if_pos z]; intro z; cases z
                  · exact absurd y (ihn (by omega))
            exact absurd q (key m hj)
      | some x =>
        have hx := fsO_lt m x q
        refine ⟨x, ?_, by omega, ?_⟩
        · show (match fsO f m with
            | some x => some x
            | none => if f m = true then some m else none) = some x
          rw [q]
        · have key : ∀ n x, fsO f n = some x → ∀ j, j < x → f j = false := by
            intro n
            induction n with
            | zero => intro x h; cases h
            | succ n ihn =>
              intro x h j hj
              have h' : (match fsO f n with
                | some x => some x
                | none => if f n = true then some n else none) = some x := h
              cases y : fsO f n with
              | some u => rw [y] at h'; cases h'; exact ihn _ y j hj
              | none =>
                rw [y] at h'
                dsimp only at h'
                by_cases w : f n = true
                · rw [if_pos w] at h'
                  cases h'
                  cases z : f j with
                  | false => rfl
                  | true =>
                    have key2 : ∀ n, j < n → fsO f n ≠ none := by
                      intro n
                      induction n with
                      | zero => intro h; omega
                      | succ n ihn2 =>
                        intro h
                        show (match fsO f n with
                          | some x => some x
                          | none => if f n = true then some n else none) ≠ none
                        cases y2 : fsO f n with
                        | some x => intro z; cases z
                        | none =>
                          dsimp only
                          by_cases w2 : j = n
                          · rw [← w2, if_pos z]; intro z; cases z
                          · exact absurd y2 (ihn2 (by omega))
                    exact absurd y (key2 _ hj)
                · rw [if_neg w] at h'; cases h'
          exact key m x q
theorem lsO_spec {f : Nat → Bool} {m : Nat} (hm : f m = true) : ∀ n, m < n → ∃ k, lsO f n = some k ∧ m ≤ k ∧ k < n ∧ ∀ j, k < j → j < n → f j = false := by
  intro n
  induction n with
  | zero => intro h; omega
  | succ n ih =>
    intro h
    show ∃ k, (if f n = true then some n else lsO f n) = some k ∧ _
    by_cases c : f n = true
    · exact ⟨n, by rw [if_pos c], by omega, by omega, fun j h1 h2 => by omega⟩
    · have : m ≠ n := fun z => c (by rw [← z]; exact hm)
      obtain ⟨k, h1, h2, h3, h4⟩ := ih (by omega)
      refine ⟨k, by rw [if_neg c]; exact h1, h2, by omega, fun j j1 j2 => ?_⟩
      by_cases e : j = n
      · rw [e]; cases q : f n with
        | false => rfl
        | true => exact absurd q c
      · exact h4 j j1 (by omega)
/-- so many between the first and the last -/
theorem cnt_span {f : Nat → Bool} {lo hi : Nat} (h1 : ∀ j, j < lo → f j = false) (h2 : ∀ j, hi < j → f j = false) : ∀ n, sumN (fun t => if f t = true then 1 else 0) n ≤ hi + 1 - lo := by
  have key : ∀ n, sumN (fun t => if f t = true then 1 else 0) n ≤ (if n ≤ lo then 0 else if n ≤ hi + 1 then n - lo else hi + 1 - lo) := by
    intro n
    induction n with
    | zero => exact Nat.zero_le _
    | succ n ih =>
      show sumN _ n + (if f n = true then 1 else 0) ≤ _
      by_cases c1 : n < lo
      · rw [h1 n c1, if_neg (by decide)]
        repeat' split at ih
        all_goals (repeat' split)
        all_goals omega
      · by_cases c2 : hi < n
        · rw [h2 n c2, if_neg (by decide)]
          repeat' split at ih
          all_goals (repeat' split)
          all_goals omega
        · have : (if f n = true then 1 else 0) ≤ 1 := by split <;> omega
          repeat' split at ih
          all_goals (repeat' split)
          all_goals omega
  intro n
  have := key n
  repeat' split at this
  all_goals omega
theorem cnt_pos {f : Nat → Bool} {m n : Nat} (hm : f m = true) (h : m < n) : 0 < sumN (fun t => if f t = true then 1 else 0) n := by
  have := sumN_get (f := fun t => if f t = true then 1 else 0) n h
  rw [if_pos hm] at this
  omega
theorem lkN_one {part : Nat → Nat} (h : ∀ p, 0 < part p) : ∀ i, lkN part 1 i = (none, 1) := by
  intro i
  induction i with
  | zero => rfl
  | succ i ih =>
    show (if (lkN part 1 i).2 ≤ part i then lkN part 1 i else (some i, part i)) = _
    rw [ih, if_pos (show (none, 1).2 ≤ part i from h i)]
theorem lkN_lt {part : Nat → Nat} {c0 : Nat} : ∀ i x, (lkN part c0 i).1 = some x → x < i := by
  intro i
  induction i with
  | zero => intro x h; cases h
  | succ i ih =>
    intro x h
    have h' : (if (lkN part c0 i).2 ≤ part i then lkN part c0 i else (some i, part i)).1 = some x := h
    by_cases c : (lkN part c0 i).2 ≤ part i
    · rw [if_pos c] at h'
      have := ih x h'; omega
    · rw [if_neg c] at h'
      cases h'; omega
theorem prt_pos {co : Co} {r : Ro} {G : Gt} {s p m : Nat} (hm : fitA co r G m = true) (h : m < 41) (ht : tkn co r p s m < 41) : 0 < prt co r G s p := by
  unfold prt
  refine Nat.lt_of_lt_of_le ?_ (mxN_ge 41 (tkn co r p s m) ht)
  unfold cX
  exact cnt_pos (f := fun t => fitA co r G t && decide (tkn co r p s t = tkn co r p s m)) (m := m) (by simp [hm]) h
theorem fit_one {co : Co} {r : Ro} {G2 : Nat → Nat → Nat} {p s x t : Nat} : fitA co r (noteN (0, G2) p s x) t = decide (tkn co r p s t = x) := by
  show fitE co r (noteN (0, G2) p s x) t 1 = _
  show (true && decide (tkn co r ((noteN (0, G2) p s x).2 0 0) ((noteN (0, G2) p s x).2 0 1) t = (noteN (0, G2) p s x).2 0 2)) = _
  obtain ⟨n0, n1, n2⟩ := noteN_own (G := (0, G2)) (p := p) (s := s) (x := x)
  have n0 : (noteN (0, G2) p s x).2 0 0 = p := n0
  have n1 : (noteN (0, G2) p s x).2 0 1 = s := n1
  have n2 : (noteN (0, G2) p s x).2 0 2 = x := n2
  rw [n0, n1, n2, Bool.true_and]
theorem fit_two {co : Co} {r : Ro} {G2 : Nat → Nat → Nat} {p s x t : Nat} : fitA co r (noteN (noteN (0, G2) p s x) p s x) t = decide (tkn co r p s t = x) := by
  have h1 : fitE co r (noteN (noteN (0, G2) p s x) p s x) t 1 = decide (tkn co r p s t = x) := by
    show (true && decide (tkn co r ((noteN (noteN (0, G2) p s x) p s x).2 0 0) ((noteN (noteN (0, G2) p s x) p s x).2 0 1) t = (noteN (noteN (0, G2) p s x) p s x).2 0 2)) = _
    have e : (noteN (noteN (0, G2) p s x) p s x).2 0 = (noteN (0, G2) p s x).2 0 := noteN_ne (show 0 ≠ 1 by decide)
    rw [e]
    obtain ⟨n0, n1, n2⟩ := noteN_own (G := (0, G2)) (p := p) (s := s) (x := x)
    have n0 : (noteN (0, G2) p s x).2 0 0 = p := n0
    have n1 : (noteN (0, G2) p s x).2 0 1 = s := n1
    have n2 : (noteN (0, G2) p s x).2 0 2 = x := n2
    rw [n0, n1, n2, Bool.true_and]
  show (fitE co r (noteN (noteN (0, G2) p s x) p s x) t 1 && decide (tkn co r ((noteN (noteN (0, G2) p s x) p s x).2 1 0) ((noteN (noteN (0, G2) p s x) p s x).2 1 1) t = (noteN (noteN (0, G2) p s x) p s x).2 1 2)) = _
  obtain ⟨n0, n1, n2⟩ := noteN_own (G := noteN (0, G2) p s x) (p := p) (s := s) (x := x)
  have n0 : (noteN (noteN (0, G2) p s x) p s x).2 1 0 = p := n0
  have n1 : (noteN (noteN (0, G2) p s x) p s x).2 1 1 = s := n1
  have n2 : (noteN (noteN (0, G2) p s x) p s x).2 1 2 = x := n2
  rw [h1, n0, n1, n2, Bool.and_self]
theorem fit_nil {co : Co} {r : Ro} {G2 : Nat → Nat → Nat} {t : Nat} : fitA co r (0, G2) t = true := rfl
