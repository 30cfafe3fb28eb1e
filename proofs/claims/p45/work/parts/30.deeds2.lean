/-! ===== deeds: meshes, moves, the lamp, draws, undone ===== -/
theorem StF.updM {μ : Mem} {b n p x : Nat} {r : Ro} (hs : StF μ b n r) (hp6 : p < n) (hn : n ≤ 6) : StF (sI μ (b + 2) p (nI x)) b n (upN r (21 + p) x) := by
  obtain ⟨⟨a0, a1, a2, a3, a4⟩, hp, hp2, hv⟩ := hs
  refine ⟨?_, fun q h => ?_, fun q h1 h2 => ?_, fun v h => ?_⟩
  · rw [sI_r (by omega), upN_ne (by omega), upN_ne (by omega), upN_ne (by omega), upN_ne (by omega), upN_ne (by omega)]
    exact ⟨a0, a1, a2, a3, a4⟩
  · rw [sI_r (a := b + 1) (by omega), sI_r (a := b + 3) (by omega), upN_ne (i := 15 + q) (by omega), upN_ne (i := 9 + q) (by omega)]
    refine ⟨(hp q h).1, ?_, (hp q h).2.2⟩
    rw [sI_get]; unfold upN
    by_cases e : q = p
    · rw [if_pos ⟨rfl, e⟩, if_pos (by omega)]
    · rw [if_neg (fun z => e z.2), if_neg (by omega)]; exact (hp q h).2.1
  · rw [sI_r (by omega), sI_r (by omega)]
    exact hp2 q h1 h2
  · rw [sI_r (by omega), sI_r (by omega), upN_ne (by omega), upN_ne (by omega)]
    exact hv v h
theorem StF.updK {μ : Mem} {b n p x : Nat} {r : Ro} (hs : StF μ b n r) (hp6 : p < n) (hn : n ≤ 6) : StF (sI μ (b + 1) p (nI x)) b n (upN r (15 + p) x) := by
  obtain ⟨⟨a0, a1, a2, a3, a4⟩, hp, hp2, hv⟩ := hs
  refine ⟨?_, fun q h => ?_, fun q h1 h2 => ?_, fun v h => ?_⟩
  · rw [sI_r (by omega), upN_ne (by omega), upN_ne (by omega), upN_ne (by omega), upN_ne (by omega), upN_ne (by omega)]
    exact ⟨a0, a1, a2, a3, a4⟩
  · rw [sI_r (a := b + 2) (by omega), sI_r (a := b + 3) (by omega), upN_ne (i := 21 + q) (by omega), upN_ne (i := 9 + q) (by omega)]
    refine ⟨?_, (hp q h).2⟩
    rw [sI_get]; unfold upN
    by_cases e : q = p
    · rw [if_pos ⟨rfl, e⟩, if_pos (by omega)]
    · rw [if_neg (fun z => e z.2), if_neg (by omega)]; exact (hp q h).1
  · rw [sI_ne2 (by omega), sI_r (by omega)]
    exact hp2 q h1 h2
  · rw [sI_r (by omega), sI_r (by omega), upN_ne (by omega), upN_ne (by omega)]
    exact hv v h
theorem vRo_mesh {co : Co} {r : Ro} {B H p x : Nat} (hr : vRH co r B H) (hp : p < co 0 3) (hn : co 0 3 ≤ 6) (hx : x ≤ 9) : vRH co (upN r (21 + p) x) B H := by
  obtain ⟨r0, r1, r2, r3, r4, r5, r6, r7, r8, hrp, inj⟩ := hr
  refine ⟨?_, ?_, ?_, ?_, ?_, ?_, ?_, ?_, ?_, fun q hq => ⟨?_, ?_, ?_⟩, fun a b ha hb h => ?_⟩
  · rw [upN_ne (by omega)]; exact r0
  · rw [upN_ne (by omega)]; exact r1
  · rw [upN_ne (by omega)]; exact r2
  · rw [upN_ne (by omega)]; exact r3
  · rw [upN_ne (by omega)]; exact r4
  · rw [upN_ne (by omega)]; exact r5
  · rw [upN_ne (by omega)]; exact r6
  · rw [upN_ne (by omega)]; exact r7
  · rw [upN_ne (by omega)]; exact r8
  · rw [upN_ne (by omega)]; exact (hrp q hq).1
  · rw [upN_ne (by omega)]; exact (hrp q hq).2.1
  · by_cases e : q = p
    · rw [e, upN_same]; exact hx
    · rw [upN_ne (by omega)]; exact (hrp q hq).2.2
  · rw [upN_ne (by omega), upN_ne (by omega)] at h; exact inj a b ha hb h
theorem vRo_move {co : Co} {r : Ro} {B H p x : Nat} (hr : vRH co r B H) (hp : p < co 0 3) (hn : co 0 3 ≤ 6) (hx : x < co 0 0) (hno : ∀ q, q < co 0 3 → q ≠ p → r (15 + q) ≠ x) : vRH co (upN r (15 + p) x) B H := by
  obtain ⟨r0, r1, r2, r3, r4, r5, r6, r7, r8, hrp, inj⟩ := hr
  refine ⟨?_, ?_, ?_, ?_, ?_, ?_, ?_, ?_, ?_, fun q hq => ⟨?_, ?_, ?_⟩, fun a b ha hb h => ?_⟩
  · rw [upN_ne (by omega)]; exact r0
  · rw [upN_ne (by omega)]; exact r1
  · rw [upN_ne (by omega)]; exact r2
  · rw [upN_ne (by omega)]; exact r3
  · rw [upN_ne (by omega)]; exact r4
  · rw [upN_ne (by omega)]; exact r5
  · rw [upN_ne (by omega)]; exact r6
  · rw [upN_ne (by omega)]; exact r7
  · rw [upN_ne (by omega)]; exact r8
  · rw [upN_ne (by omega)]; exact (hrp q hq).1
  · by_cases e : q = p
    · rw [e, upN_same]; exact hx
    · rw [upN_ne (by omega)]; exact (hrp q hq).2.1
  · rw [upN_ne (by omega)]; exact (hrp q hq).2.2
  · by_cases ea : a = p
    · by_cases eb : b = p
      · omega
      · rw [ea, upN_same, upN_ne (by omega)] at h; exact absurd h.symm (hno b hb eb)
    · by_cases eb : b = p
      · rw [eb, upN_same, upN_ne (by omega)] at h; exact absurd h (hno a ha ea)
      · rw [upN_ne (by omega), upN_ne (by omega)] at h; exact inj a b ha hb h
theorem optI_m1 (o : Option Nat) (h : ∀ p, o = some p → p < 2147483648) : (optI o = -1) ↔ o = none := by
  cases o with
  | none => exact ⟨fun _ => rfl, fun _ => rfl⟩
  | some p =>
    refine ⟨fun q => ?_, fun q => by cases q⟩
    have := (z_m1ne (h p rfl)).mp q
    exact this.elim
theorem vRo_lamp {co : Co} {r : Ro} {B H x : Nat} (hr : vRH co r B H) (hx : x ≤ 1) : vRH co (upN r 2 x) B H := by
  obtain ⟨r0, r1, r2, r3, r4, r5, r6, r7, r8, hrp, inj⟩ := hr
  refine ⟨?_, ?_, ?_, ?_, ?_, ?_, ?_, ?_, ?_, fun q hq => ⟨?_, ?_, ?_⟩, fun a b ha hb h => ?_⟩
  · rw [upN_ne (by omega)]; exact r0
  · rw [upN_ne (by omega)]; exact r1
  · rw [upN_same]; exact hx
  · rw [upN_ne (by omega)]; exact r3
  · rw [upN_ne (by omega)]; exact r4
  · rw [upN_ne (by omega)]; exact r5
  · rw [upN_ne (by omega)]; exact r6
  · rw [upN_ne (by omega)]; exact r7
  · rw [upN_ne (by omega)]; exact r8
  · rw [upN_ne (by omega)]; exact (hrp q hq).1
  · rw [upN_ne (by omega)]; exact (hrp q hq).2.1
  · rw [upN_ne (by omega)]; exact (hrp q hq).2.2
  · rw [upN_ne (by omega), upN_ne (by omega)] at h; exact inj a b ha hb h
