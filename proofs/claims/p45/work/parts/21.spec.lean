/-! ===== what the document's words say, in whole numbers from 0 on ===== -/
/-- a coast: 0: cells, burns, hours, posts, goats; 1 sides, 2 fogs, 3 sizes of jars, 4 villages of posts, 5 sets of days, 6 uses, 7 goats' cells, 8 what they drink -/
abbrev Co : Type := Nat → Nat → Nat
/-- what deeds change, a row: 0 day, 1 hour, 2 lamp, 3 spilled, 4 drunk, 5 6 cisterns, 7 8 thirst, 9.. jars, 15.. cells, 21.. meshes -/
abbrev Ro : Type := Nat → Nat
def upN (r : Ro) (j x : Nat) : Ro := fun i => if i = j then x else r i
theorem upN_same {r : Ro} {j x : Nat} : upN r j x j = x := by simp [upN]
theorem upN_ne {r : Ro} {j x i : Nat} (h : i ≠ j) : upN r j x i = r i := by simp [upN, h]
def dl (co : Co) : Nat := if co 0 2 = 0 then 1 else co 0 2
def vCo (co : Co) : Prop :=
  co 0 0 ≤ 12 ∧ co 0 1 ≤ 20 ∧ co 0 2 ≤ 12 ∧ co 0 3 ≤ 6 ∧ co 0 4 ≤ 4 ∧ (co 0 0 = 0 → co 0 1 = 0 ∧ co 0 2 = 0 ∧ co 0 3 = 0 ∧ co 0 4 = 0) ∧
  (∀ h, h < co 0 2 → co 1 h ≤ 1 ∧ co 2 h ≤ 40) ∧ (co 0 2 = 0 → co 1 0 = 0 ∧ co 2 0 = 0) ∧ (∀ p, p < co 0 3 → 1 ≤ co 3 p ∧ co 3 p ≤ 99 ∧ co 4 p ≤ 1) ∧
  (∀ v, v < 2 → co 5 v ≤ 127 ∧ co 6 v ≤ 99) ∧ (∀ g, g < co 0 4 → co 7 g < co 0 0 ∧ 1 ≤ co 8 g ∧ co 8 g ≤ 20)
def vRH (co : Co) (r : Ro) (B H : Nat) : Prop :=
  r 0 ≤ B ∧ r 1 < H ∧ r 2 ≤ 1 ∧ r 3 ≤ 999999 ∧ r 4 ≤ 999999 ∧ r 5 ≤ 99999 ∧ r 6 ≤ 99999 ∧ r 7 ≤ 999999 ∧ r 8 ≤ 999999 ∧
  (∀ p, p < co 0 3 → r (9 + p) ≤ co 3 p ∧ r (15 + p) < co 0 0 ∧ r (21 + p) ≤ 9) ∧
  (∀ p q, p < co 0 3 → q < co 0 3 → r (15 + p) = r (15 + q) → p = q)
abbrev vRo (co : Co) (r : Ro) (B : Nat) : Prop := vRH co r B (dl co)
/-- the set of the posts p < n with f p -/
def hsN (f : Nat → Bool) : Nat → Nat
  | 0 => 0
  | p + 1 => if f p = true then hsN f p ||| 2 ^ p else hsN f p
def hg (co : Co) (d v : Nat) : Bool := decide (co 5 v / 2 ^ (d % 7) % 2 = 1)
def hs (co : Co) (d : Nat) : Nat := hsN (fun p => hg co d (co 4 p)) (co 0 3)
/-- the post p < n with f p = c -/
def pin (f : Nat → Nat) (c : Nat) : Nat → Option Nat
  | 0 => none
  | n + 1 => if f n = c then some n else pin f c n
/-- a fog led past nets: what there is behind k places, what each took; g: the net that stands at a place -/
def swp (g : Nat → Option Nat) (mesh : Nat → Nat) (fog : Nat) : Nat → Nat × (Nat → Nat)
  | 0 => (fog, fun _ => 0)
  | k + 1 => match g k with
    | none => swp g mesh fog k
    | some p => ((swp g mesh fog k).1 - (swp g mesh fog k).1 * (if 20 ≤ (swp g mesh fog k).1 then mesh p else 9 - mesh p) / 10,
        upN (swp g mesh fog k).2 p ((swp g mesh fog k).1 * (if 20 ≤ (swp g mesh fog k).1 then mesh p else 9 - mesh p) / 10))
def posn (co : Co) (side k : Nat) : Nat := if side = 0 then k else co 0 0 - 1 - k
def bitN (s p : Nat) : Bool := decide (s / 2 ^ p % 2 = 1)
/-- the net of a set that stands at place k downwind -/
def gAt (co : Co) (r : Ro) (set side k : Nat) : Option Nat := match pin (fun p => r (15 + p)) (posn co side k) (co 0 3) with
  | none => none
  | some p => if bitN set p = true then some p else none
def lead (co : Co) (r : Ro) (set side fog : Nat) : Nat × (Nat → Nat) := swp (gAt co r set side) (fun p => r (21 + p)) fog (co 0 0)
def litF (co : Co) (r : Ro) (fog : Nat) : Nat := if r 2 = 1 then fog - co 0 1 else fog
def cnt (x : Nat) : Nat := if 999999 < x then 999999 else x
def sumN (f : Nat → Nat) : Nat → Nat
  | 0 => 0
  | n + 1 => sumN f n + f n
/-- jars fill, what is above spills -/
def pj (co : Co) (took : Nat → Nat) (r : Ro) : Nat → Ro
  | 0 => r
  | p + 1 => upN (upN (pj co took r p) (9 + p) (pj co took r p (9 + p) + took p - (pj co took r p (9 + p) + took p - co 3 p))) 3 (cnt (pj co took r p 3 + (pj co took r p (9 + p) + took p - co 3 p)))
def cjS (co : Co) (v : Nat) (r : Ro) (n : Nat) : Nat := sumN (fun p => if co 4 p = v then r (9 + p) else 0) n
def cj (co : Co) (v : Nat) (r : Ro) (n : Nat) : Ro := fun i => if 9 ≤ i ∧ i < 9 + n ∧ co 4 (i - 9) = v then 0 else r i
def carR (co : Co) (v : Nat) (r : Ro) : Ro := upN (cj co v r (co 0 3)) (5 + v) (if 99999 < r (5 + v) + cjS co v r (co 0 3) then 99999 else r (5 + v) + cjS co v r (co 0 3))
def gj (co : Co) (r : Ro) : Nat → Ro
  | 0 => r
  | g + 1 => match pin (fun p => gj co r g (15 + p)) (co 7 g) (co 0 3) with
    | none => gj co r g
    | some p => upN (upN (gj co r g) (9 + p) (gj co r g (9 + p) - (if gj co r g (9 + p) < co 8 g then gj co r g (9 + p) else co 8 g))) 4 (cnt (gj co r g 4 + (if gj co r g (9 + p) < co 8 g then gj co r g (9 + p) else co 8 g)))
def uj (co : Co) (r : Ro) : Nat → Ro
  | 0 => r
  | v + 1 => upN (upN (uj co r v) (5 + v) (uj co r v (5 + v) - co 6 v)) (7 + v) (cnt (uj co r v (7 + v) + (co 6 v - uj co r v (5 + v))))
def endR (co : Co) (r : Ro) (carried : Bool) : Ro :=
  upN (upN (uj co (gj co (if carried = true then carR co 1 (carR co 0 r) else r) (co 0 4)) 2) 1 0) 0 (r 0 + 1)
def pasT (co : Co) (r : Ro) (fog side : Nat) : Nat → Nat := (lead co r (hs co (r 0)) side (litF co r fog)).2
def pasR (co : Co) (r : Ro) (fog side : Nat) (carried : Bool) : Ro :=
  if r 1 + 1 = dl co then endR co (upN (pj co (pasT co r fog side) r (co 0 3)) 1 (r 1 + 1)) carried
  else upN (pj co (pasT co r fog side) r (co 0 3)) 1 (r 1 + 1)
/-! where the two memories hold it -/
def CoF (μ : Mem) (R : Nat) (co : Co) : Prop :=
  (μ.1 R 0 = nI (co 0 0) ∧ μ.1 R 1 = nI (co 0 1) ∧ μ.1 R 2 = nI (co 0 2) ∧ μ.1 R 3 = nI (co 0 3) ∧ μ.1 R 4 = nI (co 0 4)) ∧
  (∀ h, h < dl co → μ.1 (R + 1) h = nI (co 1 h) ∧ μ.1 (R + 2) h = nI (co 2 h)) ∧
  (∀ p, p < co 0 3 → μ.1 (R + 5) p = nI (co 3 p) ∧ μ.1 (R + 6) p = nI (co 4 p)) ∧
  (∀ p, co 0 3 ≤ p → p < 6 → μ.1 (R + 6) p = -1) ∧ (∀ p, p < 6 → ∃ z, z < 1000 ∧ μ.1 (R + 5) p = nI z) ∧
  (∀ v, v < 2 → μ.1 (R + 7) v = nI (co 5 v) ∧ μ.1 (R + 8) v = nI (co 6 v)) ∧
  (∀ g, g < co 0 4 → μ.1 (R + 9) g = nI (co 7 g) ∧ μ.1 (R + 10) g = nI (co 8 g))
def CoM (ν : Mem) (co : Co) : Prop :=
  (ν.1 0 17 = nI (if co 0 0 = 0 then 0 else 1) ∧ ν.1 0 18 = nI (co 0 0) ∧ ν.1 0 19 = nI (co 0 1) ∧ ν.1 0 20 = nI (co 0 3) ∧ ν.1 0 21 = nI (co 0 2) ∧ ν.1 0 22 = nI (co 0 4)) ∧
  (∀ h, h < co 0 2 → ν.1 8 (2 * h) = nI (co 1 h) ∧ ν.1 8 (2 * h + 1) = nI (co 2 h)) ∧
  (∀ p, p < co 0 3 → ν.1 9 p = nI (co 3 p) ∧ ν.1 10 p = nI (co 4 p)) ∧
  (∀ v, v < 2 → ν.1 12 v = nI (co 5 v) ∧ ν.1 13 v = nI (co 6 v)) ∧
  (∀ g, g < co 0 4 → ν.1 11 (2 * g) = nI (co 7 g) ∧ ν.1 11 (2 * g + 1) = nI (co 8 g))
def StF (μ : Mem) (b n : Nat) (r : Ro) : Prop :=
  (μ.1 b 0 = nI (r 0) ∧ μ.1 b 1 = nI (r 1) ∧ μ.1 b 2 = nI (r 2) ∧ μ.1 b 3 = nI (r 3) ∧ μ.1 b 4 = nI (r 4)) ∧
  (∀ p, p < n → μ.1 (b + 1) p = nI (r (15 + p)) ∧ μ.1 (b + 2) p = nI (r (21 + p)) ∧ μ.1 (b + 3) p = nI (r (9 + p))) ∧
  (∀ p, n ≤ p → p < 6 → μ.1 (b + 1) p = -1 ∧ μ.1 (b + 3) p = nI 0) ∧
  (∀ v, v < 2 → μ.1 (b + 4) v = nI (r (5 + v)) ∧ μ.1 (b + 5) v = nI (r (7 + v)))
def StM (ν : Mem) (k o : Nat) (r : Ro) : Prop := ∀ j, j < 27 → ν.1 k (o + j) = nI (r j)
