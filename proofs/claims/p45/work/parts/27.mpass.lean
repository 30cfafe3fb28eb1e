theorem co_hour {co : Co} {x : Nat} (hv : vCo co) (h1 : x < dl co) : co 1 x ≤ 1 ∧ co 2 x ≤ 40 := by
  unfold dl at h1
  by_cases q : co 0 2 = 0
  · rw [if_pos q] at h1
    have := hv.2.2.2.2.2.2.2.1 q
    rw [show x = 0 by omega]; omega
  · rw [if_neg q] at h1
    exact hv.2.2.2.2.2.2.1 _ h1
