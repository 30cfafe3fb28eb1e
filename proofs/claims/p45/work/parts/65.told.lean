/-! ===== the law's coast: its text, read ===== -/
def tF (L : Nat → Nat → Nat) : List Nat := [102] ++ (numT (L 100 0) 32 ++ numT (L 100 1) 59)
def tH (L : Nat → Nat → Nat) (h : Nat) : List Nat := [104] ++ (numT (L 100 (29 + 2 * h)) 32 ++ numT (L 100 (30 + 2 * h)) 59)
def tP (L : Nat → Nat → Nat) (p : Nat) : List Nat := [112] ++ (numT (L 101 (15 + p)) 32 ++ (numT (L 101 (21 + p)) 32 ++ (numT (L 100 (9 + p)) 32 ++ numT (L 100 (15 + p)) 59)))
def tD (L : Nat → Nat → Nat) : List Nat := [100] ++ (numT (L 100 5) 32 ++ numT (L 100 6) 59)
def tU (L : Nat → Nat → Nat) : List Nat := [117] ++ (numT (L 100 7) 32 ++ numT (L 100 8) 59)
def tG (L : Nat → Nat → Nat) (i : Nat) : List Nat := [103] ++ (numT (L 100 (21 + i)) 32 ++ numT (L 100 (25 + i)) 59)
def tAll (L : Nat → Nat → Nat) : List Nat := tF L ++ (cat (tH L) (L 100 2) ++ (cat (tP L) (L 100 3) ++ (tD L ++ (tU L ++ cat (tG L) (L 100 4)))))
/-- the numbers that the law draws -/
def NG (L : Nat → Nat → Nat) : Prop :=
  (4 ≤ L 100 0 ∧ L 100 0 ≤ 12) ∧ L 100 1 ≤ 20 ∧ L 100 2 ≤ 4 ∧ (1 ≤ L 100 3 ∧ L 100 3 ≤ 4) ∧ L 100 4 ≤ 4 ∧ (L 100 5 ≤ 127 ∧ L 100 6 ≤ 127 ∧ L 100 7 ≤ 29 ∧ L 100 8 ≤ 19) ∧
  (∀ p, p < L 100 3 → L 101 (15 + p) < L 100 0 ∧ L 101 (21 + p) ≤ 9 ∧ (1 ≤ L 100 (9 + p) ∧ L 100 (9 + p) ≤ 99) ∧ L 100 (15 + p) ≤ 1) ∧
  (∀ p q, p < L 100 3 → q < L 100 3 → L 101 (15 + p) = L 101 (15 + q) → p = q) ∧
  (∀ i, i < L 100 4 → L 100 (21 + i) < L 100 0 ∧ 1 ≤ L 100 (25 + i) ∧ L 100 (25 + i) ≤ 20) ∧
  (∀ h, h < L 100 2 → L 100 (29 + 2 * h) ≤ 1 ∧ L 100 (30 + 2 * h) ≤ 40) ∧ ∀ j, j < 15 → L 101 j = 0
theorem num_len (v b : Nat) : (numT v b).length = (figs v).length + 1 := by unfold numT; simp
theorem num_small {v b : Nat} (h : v ≤ 99) : (numT v b).length ≤ 3 := by rw [num_len]; have := figs_small h; omega
theorem num_any (v b : Nat) : (numT v b).length ≤ 4 := by rw [num_len]; have := figs_len v; omega
section LENS
variable {L : Nat → Nat → Nat}
theorem tF_len (n : NG L) : (tF L).length ≤ 7 := by
  have h1 := num_small (v := L 100 0) (b := 32) (by have := n.1; omega)
  have h2 := num_small (v := L 100 1) (b := 59) (by have := n.2.1; omega)
  unfold tF
  simp only [List.length_append, List.length_singleton]
  omega
theorem tH_len (n : NG L) {h : Nat} (hh : h < L 100 2) : (tH L h).length ≤ 7 := by
  have q := n.2.2.2.2.2.2.2.2.2.1 h hh
  have h1 := num_small (v := L 100 (29 + 2 * h)) (b := 32) (by omega)
  have h2 := num_small (v := L 100 (30 + 2 * h)) (b := 59) (by omega)
  unfold tH
  simp only [List.length_append, List.length_singleton]
  omega
theorem tP_len (n : NG L) {p : Nat} (hp : p < L 100 3) : (tP L p).length ≤ 13 := by
  have q := n.2.2.2.2.2.2.1 p hp
  have q0 := n.1
  have h1 := num_small (v := L 101 (15 + p)) (b := 32) (by omega)
  have h2 := num_small (v := L 101 (21 + p)) (b := 32) (by omega)
  have h3 := num_small (v := L 100 (9 + p)) (b := 32) (by omega)
  have h4 := num_small (v := L 100 (15 + p)) (b := 59) (by omega)
  unfold tP
  simp only [List.length_append, List.length_singleton]
  omega
theorem tD_len : (tD L).length ≤ 9 := by
  have h1 := num_any (L 100 5) 32
  have h2 := num_any (L 100 6) 59
  unfold tD
  simp only [List.length_append, List.length_singleton]
  omega
theorem tU_len : (tU L).length ≤ 9 := by
  have h1 := num_any (L 100 7) 32
  have h2 := num_any (L 100 8) 59
  unfold tU
  simp only [List.length_append, List.length_singleton]
  omega
theorem tG_len {i : Nat} : (tG L i).length ≤ 9 := by
  have h1 := num_any (L 100 (21 + i)) 32
  have h2 := num_any (L 100 (25 + i)) 59
  unfold tG
  simp only [List.length_append, List.length_singleton]
  omega
theorem cH_len (n : NG L) {h : Nat} (hh : h ≤ L 100 2) : (cat (tH L) h).length ≤ 28 := by
  have h1 := cat_len (f := tH L) (c := 7) h (fun k hk => tH_len n (by omega))
  have := n.2.2.1
  omega
theorem cP_len (n : NG L) {p : Nat} (hp : p ≤ L 100 3) : (cat (tP L) p).length ≤ 52 := by
  have h1 := cat_len (f := tP L) (c := 13) p (fun k hk => tP_len n (by omega))
  have := n.2.2.2.1
  omega
theorem cG_len (n : NG L) {i : Nat} (hi : i ≤ L 100 4) : (cat (tG L) i).length ≤ 36 := by
  have h1 := cat_len (f := tG L) (c := 9) i (fun k hk => tG_len)
  have := n.2.2.2.2.1
  omega
end LENS
/-! what is read so far -/
def FC (L : Nat → Nat → Nat) (co : Co) (nh np d u ng : Nat) : Prop :=
  (co 0 0 = L 100 0 ∧ co 0 1 = L 100 1 ∧ co 0 2 = nh ∧ co 0 3 = np ∧ co 0 4 = ng ∧ co 11 0 = d ∧ co 11 1 = u) ∧ (∀ h, h < nh → co 1 h = L 100 (29 + 2 * h) ∧ co 2 h = L 100 (30 + 2 * h)) ∧
  (∀ p, p < np → co 9 p = L 101 (15 + p) ∧ co 10 p = L 101 (21 + p) ∧ co 3 p = L 100 (9 + p) ∧ co 4 p = L 100 (15 + p)) ∧ (d = 1 → co 5 0 = L 100 5 ∧ co 5 1 = L 100 6) ∧ (u = 1 → co 6 0 = L 100 7 ∧ co 6 1 = L 100 8) ∧
  ∀ i, i < ng → co 7 i = L 100 (21 + i) ∧ co 8 i = L 100 (25 + i)
theorem prs_step {T : Tx} {d i i' : Nat} {co : Co} (hi : i < T.1) (hb : ¬ T.2 i = 32) (q : clP T co i = .inr i') : prs T (d + 1) i co = prs T d i' (clC T co i) := by
  have e := sk_nb hb
  have := prs_inr (d := d) (co := co) (i' := i') (by rw [e]; exact hi) (by rw [e]; exact q)
  rw [e] at this
  exact this
section READ
variable {L : Nat → Nat → Nat} {T : Tx} {co : Co} {nh np d u ng i k : Nat}
theorem rd_F (n : NG L) (h : atT T i (tF L)) : ∃ co, prs T (k + 1) i co0 = prs T k (i + (tF L).length) co ∧ FC L co 0 0 0 0 0 := by
  obtain ⟨⟨h1, h2⟩, h3⟩ := at_cons (show atT T i (102 :: (numT (L 100 0) 32 ++ numT (L 100 1) 59)) from h)
  obtain ⟨n0, n1, -⟩ := n
  obtain ⟨e1, e2, e3⟩ := two_at (a := 1) (b := 12) (c := 0) (d := 20) (by omega) (by omega) h3 (by omega) (by omega)
  have el : i + (tF L).length = i + 1 + (numT (L 100 0) 32 ++ numT (L 100 1) 59).length := by
    unfold tF
    rw [List.length_append, List.length_singleton]
    omega
  have q : clP T co0 i = .inr (i + (tF L).length) := by
    unfold clP
    rw [if_pos (show co0 0 0 = 0 from rfl), if_pos h2, e1, el]
  refine ⟨_, prs_step h1 (by omega) q, ?_⟩
  unfold clC
  rw [if_pos (show co0 0 0 = 0 from rfl)]
  unfold cF FC
  rw [e2, e3]
  refine ⟨⟨rfl, rfl, rfl, rfl, rfl, rfl, rfl⟩, fun h hh => by omega, fun p hp => by omega, fun z => (by cases z), fun z => (by cases z), fun j hj => by omega⟩
theorem rd_H (n : NG L) (hh : nh < L 100 2) (h : atT T i (tH L nh)) (f : FC L co nh 0 0 0 0) : ∃ co', prs T (k + 1) i co = prs T k (i + (tH L nh).length) co' ∧ FC L co' (nh + 1) 0 0 0 0 := by
  obtain ⟨⟨h1, h2⟩, h3⟩ := at_cons (show atT T i (104 :: (numT (L 100 (29 + 2 * nh)) 32 ++ numT (L 100 (30 + 2 * nh)) 59)) from h)
  have hr := n.2.2.2.2.2.2.2.2.2.1 nh hh
  have n0 := n.1
  have n2 := n.2.2.1
  obtain ⟨⟨f0, f1, f2, f3, f4, f5, f6⟩, g1, -⟩ := f
  obtain ⟨e1, e2, e3⟩ := two_at (a := 0) (b := 1) (c := 0) (d := 40) (by omega) (by omega) h3 (by omega) (by omega)
  have el : i + (tH L nh).length = i + 1 + (numT (L 100 (29 + 2 * nh)) 32 ++ numT (L 100 (30 + 2 * nh)) 59).length := by
    unfold tH
    rw [List.length_append, List.length_singleton]
    omega
  have q : clP T co i = .inr (i + (tH L nh).length) := by
    unfold clP
    rw [if_neg (by omega), if_neg (by omega), if_pos h2, if_pos (by omega), e1, el]
  refine ⟨_, prs_step h1 (by omega) q, ?_⟩
  unfold clC
  rw [if_neg (by omega), if_pos h2]
  unfold cH FC
  rw [e2, e3, f2]
  refine ⟨⟨f0, f1, rfl, f3, f4, f5, f6⟩, fun j hj => ?_, fun p hp => by omega, fun z => (by cases z), fun z => (by cases z), fun j hj => by omega⟩
  by_cases c : j = nh
  · subst c
    rw [up2_r (by decide), up2_r (by decide), up2_s, up2_r (by decide), up2_s]
    exact ⟨rfl, rfl⟩
  · rw [up2_r (by decide), up2_r (by decide), up2_c c, up2_r (by decide), up2_c c, up2_r (by decide)]
    exact g1 j (by omega)
theorem rd_P (n : NG L) (hp : np < L 100 3) (h : atT T i (tP L np)) (f : FC L co nh np 0 0 0) : ∃ co', prs T (k + 1) i co = prs T k (i + (tP L np).length) co' ∧ FC L co' nh (np + 1) 0 0 0 := by
  obtain ⟨⟨h1, h2⟩, h3⟩ := at_cons (show atT T i (112 :: (numT (L 101 (15 + np)) 32 ++ (numT (L 101 (21 + np)) 32 ++ (numT (L 100 (9 + np)) 32 ++ numT (L 100 (15 + np)) 59)))) from h)
  have hr := n.2.2.2.2.2.2.1 np hp
  have n0 := n.1
  have n3 := n.2.2.2.1
  have inj := n.2.2.2.2.2.2.2.1
  obtain ⟨⟨f0, f1, f2, f3, f4, f5, f6⟩, g1, g2, -⟩ := f
  obtain ⟨e1, e2, e3, e4, e5⟩ := pos_at (co := co) (by omega) hr.2.1 hr.2.2.1 hr.2.2.2 h3 (by omega) (fun q hq z => by
    have := (g2 q (by omega)).1
    have := inj q np (by omega) hp (by omega)
    omega)
  have el : i + (tP L np).length = i + 1 + (numT (L 101 (15 + np)) 32 ++ (numT (L 101 (21 + np)) 32 ++ (numT (L 100 (9 + np)) 32 ++ numT (L 100 (15 + np)) 59))).length := by
    unfold tP
    rw [List.length_append, List.length_singleton]
    omega
  have q : clP T co i = .inr (i + (tP L np).length) := by
    unfold clP
    rw [if_neg (by omega), if_neg (by omega), if_neg (by omega), if_pos h2, if_pos (by omega), e1, el]
  refine ⟨_, prs_step h1 (by omega) q, ?_⟩
  unfold clC
  rw [if_neg (by omega), if_neg (by omega), if_pos h2]
  unfold cP FC
  rw [e2, e3, e4, e5, f3]
  refine ⟨⟨f0, f1, f2, rfl, f4, f5, f6⟩, fun j hj => ?_, fun j hj => ?_, fun z => (by cases z), fun z => (by cases z), fun j hj => by omega⟩
  · rw [up2_r (by decide), up2_r (by decide), up2_r (by decide), up2_r (by decide), up2_r (by decide), up2_r (by decide), up2_r (by decide), up2_r (by decide), up2_r (by decide), up2_r (by decide)]
    exact g1 j hj
  · by_cases c : j = np
    · subst c
      simp only [up2]
      simp
    · have := g2 j (by omega)
      simp only [up2]
      simp [c]
      exact this
theorem rd_D (n : NG L) (h : atT T i (tD L)) (f : FC L co nh np 0 0 0) : ∃ co', prs T (k + 1) i co = prs T k (i + (tD L).length) co' ∧ FC L co' nh np 1 0 0 := by
  obtain ⟨⟨h1, h2⟩, h3⟩ := at_cons (show atT T i (100 :: (numT (L 100 5) 32 ++ numT (L 100 6) 59)) from h)
  have hr := n.2.2.2.2.2.1
  have n0 := n.1
  obtain ⟨⟨f0, f1, f2, f3, f4, f5, f6⟩, g1, g2, -⟩ := f
  obtain ⟨e1, e2, e3⟩ := two_at (a := 0) (b := 127) (c := 0) (d := 127) (by omega) (by omega) h3 (by omega) (by omega)
  have el : i + (tD L).length = i + 1 + (numT (L 100 5) 32 ++ numT (L 100 6) 59).length := by
    unfold tD
    rw [List.length_append, List.length_singleton]
    omega
  have q : clP T co i = .inr (i + (tD L).length) := by
    unfold clP
    rw [if_neg (by omega), if_neg (by omega), if_neg (by omega), if_neg (by omega), if_pos h2, if_pos f5, e1, el]
  refine ⟨_, prs_step h1 (by omega) q, ?_⟩
  unfold clC
  rw [if_neg (by omega), if_neg (by omega), if_neg (by omega), if_pos h2]
  unfold cD FC
  rw [e2, e3]
  refine ⟨⟨f0, f1, f2, f3, f4, rfl, f6⟩, fun j hj => ?_, fun j hj => ?_, fun _ => ⟨rfl, rfl⟩, fun z => (by cases z), fun j hj => by omega⟩
  · exact g1 j hj
  · exact g2 j hj
theorem rd_U (n : NG L) (h : atT T i (tU L)) (f : FC L co nh np 1 0 0) : ∃ co', prs T (k + 1) i co = prs T k (i + (tU L).length) co' ∧ FC L co' nh np 1 1 0 := by
  obtain ⟨⟨h1, h2⟩, h3⟩ := at_cons (show atT T i (117 :: (numT (L 100 7) 32 ++ numT (L 100 8) 59)) from h)
  have hr := n.2.2.2.2.2.1
  have n0 := n.1
  obtain ⟨⟨f0, f1, f2, f3, f4, f5, f6⟩, g1, g2, g3, -⟩ := f
  obtain ⟨e1, e2, e3⟩ := two_at (a := 0) (b := 99) (c := 0) (d := 99) (by omega) (by omega) h3 (by omega) (by omega)
  have el : i + (tU L).length = i + 1 + (numT (L 100 7) 32 ++ numT (L 100 8) 59).length := by
    unfold tU
    rw [List.length_append, List.length_singleton]
    omega
  have q : clP T co i = .inr (i + (tU L).length) := by
    unfold clP
    rw [if_neg (by omega), if_neg (by omega), if_neg (by omega), if_neg (by omega), if_neg (by omega), if_pos h2, if_pos f6, e1, el]
  refine ⟨_, prs_step h1 (by omega) q, ?_⟩
  unfold clC
  rw [if_neg (by omega), if_neg (by omega), if_neg (by omega), if_neg (by omega), if_pos h2]
  unfold cU FC
  rw [e2, e3]
  exact ⟨⟨f0, f1, f2, f3, f4, f5, rfl⟩, fun j hj => g1 j hj, fun j hj => g2 j hj, fun z => g3 z, fun _ => ⟨rfl, rfl⟩, fun j hj => by omega⟩
theorem rd_G (n : NG L) (hg : ng < L 100 4) (h : atT T i (tG L ng)) (f : FC L co nh np 1 1 ng) : ∃ co', prs T (k + 1) i co = prs T k (i + (tG L ng).length) co' ∧ FC L co' nh np 1 1 (ng + 1) := by
  obtain ⟨⟨h1, h2⟩, h3⟩ := at_cons (show atT T i (103 :: (numT (L 100 (21 + ng)) 32 ++ numT (L 100 (25 + ng)) 59)) from h)
  have hr := n.2.2.2.2.2.2.2.2.1 ng hg
  have n0 := n.1
  have n4 := n.2.2.2.2.1
  obtain ⟨⟨f0, f1, f2, f3, f4, f5, f6⟩, g1, g2, g3, g4, g5⟩ := f
  obtain ⟨e1, e2, e3⟩ := two_at (a := 0) (b := co 0 0 - 1) (c := 1) (d := 20) (by omega) (by omega) h3 (by omega) (by omega)
  have el : i + (tG L ng).length = i + 1 + (numT (L 100 (21 + ng)) 32 ++ numT (L 100 (25 + ng)) 59).length := by
    unfold tG
    rw [List.length_append, List.length_singleton]
    omega
  have q : clP T co i = .inr (i + (tG L ng).length) := by
    unfold clP
    rw [if_neg (by omega), if_neg (by omega), if_neg (by omega), if_neg (by omega), if_neg (by omega), if_neg (by omega), if_pos h2, if_pos (by omega), e1, el]
  refine ⟨_, prs_step h1 (by omega) q, ?_⟩
  unfold clC
  rw [if_neg (by omega), if_neg (by omega), if_neg (by omega), if_neg (by omega), if_neg (by omega)]
  unfold cG FC
  rw [e2, e3, f4]
  refine ⟨⟨f0, f1, f2, f3, rfl, f5, f6⟩, fun j hj => g1 j hj, fun j hj => g2 j hj, fun z => g3 z, fun z => g4 z, fun j hj => ?_⟩
  by_cases c : j = ng
  · subst c
    simp only [up2]
    simp
  · have := g5 j (by omega)
    simp only [up2]
    simp [c]
    exact this
end READ
theorem read_all {L : Nat → Nat → Nat} (n : NG L) : (∃ i', (prs (txt (tAll L)) 240 0 co0).1 = .inr i') ∧ FC L (pco (txt (tAll L))) (L 100 2) (L 100 3) 1 1 (L 100 4) := by
  obtain ⟨T, eT⟩ : ∃ T, T = txt (tAll L) := ⟨_, rfl⟩
  have h0 : atT T 0 (tAll L) := by rw [eT]; exact at_txt _
  have hlen : T.1 = (tAll L).length := by rw [eT]; rfl
  rw [← eT]
  have n2 := n.2.2.1
  have n3 := n.2.2.2.1
  have n4 := n.2.2.2.2.1
  obtain ⟨a1, h1⟩ := at_app (show atT T 0 (tF L ++ _) from h0)
  obtain ⟨a2, h2⟩ := at_app h1
  obtain ⟨a3, h3⟩ := at_app h2
  obtain ⟨a4, h4⟩ := at_app h3
  obtain ⟨a5, a6⟩ := at_app h4
  rw [Nat.zero_add] at *
  obtain ⟨co1, p1, f1⟩ := rd_F (k := 239) n a1
  have hours : ∀ h, h ≤ L 100 2 → ∃ co, prs T 240 0 co0 = prs T (239 - h) ((tF L).length + (cat (tH L) h).length) co ∧ FC L co h 0 0 0 0 := by
    intro h
    induction h with
    | zero => intro _; exact ⟨co1, by rw [p1, Nat.zero_add]; rfl, f1⟩
    | succ h ih =>
      intro hh
      obtain ⟨co, q1, q2⟩ := ih (by omega)
      obtain ⟨co', r1, r2⟩ := rd_H (k := 239 - (h + 1)) n (by omega) (at_cat _ a2 h (by omega)) q2
      refine ⟨co', ?_, r2⟩
      rw [q1, show 239 - h = 239 - (h + 1) + 1 by omega, r1]
      congr 1
      show _ = (tF L).length + (cat (tH L) h ++ tH L h).length
      rw [List.length_append]; omega
  obtain ⟨co2, p2, f2⟩ := hours (L 100 2) (Nat.le_refl _)
  have posts : ∀ p, p ≤ L 100 3 → ∃ co, prs T 240 0 co0 = prs T (239 - L 100 2 - p) ((tF L).length + (cat (tH L) (L 100 2)).length + (cat (tP L) p).length) co ∧ FC L co (L 100 2) p 0 0 0 := by
    intro p
    induction p with
    | zero => intro _; exact ⟨co2, p2, f2⟩
    | succ p ih =>
      intro hp
      obtain ⟨co, q1, q2⟩ := ih (by omega)
      obtain ⟨co', r1, r2⟩ := rd_P (k := 239 - L 100 2 - (p + 1)) n (by omega) (at_cat _ a3 p (by omega)) q2
      refine ⟨co', ?_, r2⟩
      rw [q1, show 239 - L 100 2 - p = 239 - L 100 2 - (p + 1) + 1 by omega, r1]
      congr 1
      show _ = (tF L).length + (cat (tH L) (L 100 2)).length + (cat (tP L) p ++ tP L p).length
      rw [List.length_append]; omega
  obtain ⟨co3, p3, f3⟩ := posts (L 100 3) (Nat.le_refl _)
  obtain ⟨co4, p4, f4⟩ := rd_D (k := 239 - L 100 2 - L 100 3 - 1) n a4 f3
  obtain ⟨co5, p5, f5⟩ := rd_U (k := 239 - L 100 2 - L 100 3 - 2) n a5 f4
  have goats : ∀ g, g ≤ L 100 4 → ∃ co, prs T 240 0 co0 = prs T (239 - L 100 2 - L 100 3 - 2 - g) ((tF L).length + (cat (tH L) (L 100 2)).length + (cat (tP L) (L 100 3)).length + (tD L).length + (tU L).length + (cat (tG L) g).length) co ∧ FC L co (L 100 2) (L 100 3) 1 1 g := by
    intro g
    induction g with
    | zero =>
      intro _
      refine ⟨co5, ?_, f5⟩
      rw [p3, show 239 - L 100 2 - L 100 3 = 239 - L 100 2 - L 100 3 - 1 + 1 by omega, p4, show 239 - L 100 2 - L 100 3 - 1 = 239 - L 100 2 - L 100 3 - 2 + 1 by omega, p5]
      rfl
    | succ g ih =>
      intro hg
      obtain ⟨co, q1, q2⟩ := ih (by omega)
      obtain ⟨co', r1, r2⟩ := rd_G (k := 239 - L 100 2 - L 100 3 - 2 - (g + 1)) n (by omega) (at_cat _ a6 g (by omega)) q2
      refine ⟨co', ?_, r2⟩
      rw [q1, show 239 - L 100 2 - L 100 3 - 2 - g = 239 - L 100 2 - L 100 3 - 2 - (g + 1) + 1 by omega, r1]
      congr 1
      show _ = (tF L).length + (cat (tH L) (L 100 2)).length + (cat (tP L) (L 100 3)).length + (tD L).length + (tU L).length + (cat (tG L) g ++ tG L g).length
      rw [List.length_append]; omega
  obtain ⟨co6, p6, f6⟩ := goats (L 100 4) (Nat.le_refl _)
  have eend : (tF L).length + (cat (tH L) (L 100 2)).length + (cat (tP L) (L 100 3)).length + (tD L).length + (tU L).length + (cat (tG L) (L 100 4)).length = T.1 := by
    rw [hlen]
    unfold tAll
    simp only [List.length_append]
    omega
  rw [eend, prs_end (by rw [sk_end (Nat.le_refl _)]; omega) _ (Nat.le_refl _) (by omega)] at p6
  refine ⟨⟨_, by rw [p6]⟩, ?_⟩
  show FC L (prs T 240 0 co0).2 _ _ _ _ _
  rw [p6]
  exact f6
section LCOAST
variable {μ : Mem} {sd : Nat} {L : Nat → Nat → Nat} {Q : Int32 → Mem → Prop} {Q0 : Int32 → Prop}
/-- the state with which a coast begins -/
def r00 (L : Nat → Nat → Nat) : Ro := prB (txt (tAll L))
def c00 (L : Nat → Nat → Nat) : Co := pco (txt (tAll L))
theorem c00_LK (n : NG L) : LK (c00 L) L := by
  obtain ⟨-, ⟨f0, f1, f2, f3, f4, -, -⟩, g1, g2, g3, g4, g5⟩ := read_all n
  refine ⟨⟨f0.symm, f1.symm, f2.symm, f3.symm, f4.symm⟩, fun v hv => ?_, fun p hp => ?_, fun i hi => ?_, fun h hh => ?_⟩
  · rcases (by omega : v = 0 ∨ v = 1) with rfl | rfl
    · exact ⟨(g3 rfl).1.symm, (g4 rfl).1.symm⟩
    · exact ⟨(g3 rfl).2.symm, (g4 rfl).2.symm⟩
  · have := g2 p (by show p < L 100 3; rw [← f3]; exact hp)
    exact ⟨this.2.2.1.symm, this.2.2.2.symm⟩
  · have := g5 i (by show i < L 100 4; rw [← f4]; exact hi)
    exact ⟨this.1.symm, this.2.symm⟩
  · have := g1 h (by show h < L 100 2; rw [← f2]; exact hh)
    exact ⟨this.1.symm, this.2.symm⟩
theorem r00_lo {j : Nat} (h : j < 15) : r00 L j = 0 := rB_lo h
theorem r00_c (n : NG L) {p : Nat} (hp : p < L 100 3) : r00 L (15 + p) = L 101 (15 + p) ∧ r00 L (21 + p) = L 101 (21 + p) := by
  obtain ⟨-, ⟨f0, f1, f2, f3, f4, -, -⟩, g1, g2, -⟩ := read_all n
  have := g2 p hp
  have n3 := n.2.2.2.1
  have hp2 : p < pco (txt (tAll L)) 0 3 := by rw [f3]; exact hp
  refine ⟨?_, ?_⟩
  · exact (rB_c hp2).trans this.1
  · exact (rB_m (by rw [f3]; omega) hp2).trans this.2.1
theorem N_coast (h : OK0 μ (tAll L) sd L) (n : NG L) (q : ∀ μ' : Mem, OK μ' (c00 L) (r00 L) (0, zu) sd (fun _ => none) (0, zg) L → Q (nI (L 100 3)) μ') : w_X6_coast μ Q := by
  obtain ⟨fp, I, hA, hF⟩ := h
  obtain ⟨⟨i', hi⟩, ⟨f0, f1, f2, f3, f4, -, -⟩, -⟩ := read_all n
  refine F0_coast hA hF (fun e μ1 he => by rw [hi] at he; cases he) (fun i2 μ1 _ f => ?_)
  rw [f3]
  have n0 := n.1
  refine q μ1 ⟨(txt (tAll L)).2, coast_VA hA.2.2.2.2.1, f, ?_⟩
  show pco (txt (tAll L)) 0 0 ≠ 0
  omega
theorem L_coast (h : OK0 μ [] sd L) (n : NG L) (q : ∀ μ' : Mem, OK μ' (c00 L) (r00 L) (0, zu) sd (fun _ => none) (0, zg) L → Q (nI 1) μ') : w_L_coast μ Q := by
  have nn := n
  obtain ⟨n0, n1, n2, n3, n4, n5, n6, n7, n8, n9, n10⟩ := n
  have lF := tF_len nn
  have lD := tD_len (L := L)
  have lU := tU_len (L := L)
  have lH := cH_len nn (Nat.le_refl (L 100 2))
  have lP := cP_len nn (Nat.le_refl (L 100 3))
  have e27 : ∀ {μ1 : Mem} {l : List Nat} {j : Nat}, OK0 μ1 l sd L → j < 1000 → μ1.1 247 ((nI j)).toNatClampNeg = nI (L 101 j) := fun h1 hj => by rw [z_cl (by omega), h1.w]
  have e53 : ∀ {μ1 : Mem} {l : List Nat} {j : Nat}, OK0 μ1 l sd L → j < 1000 → μ1.1 246 ((nI j)).toNatClampNeg = nI (L 100 j) := fun h1 hj => by rw [z_cl (by omega), h1.g]
  -- the end: the text is read
  have fin : ∀ μ1 : Mem, OK0 μ1 (tAll L) sd L → (tAll L).length < 240 → 0 < (tAll L).length → w_L_coast_274 (nI (tAll L).length) μ1 Q := by
    intro μ1 h1 hl hl0
    unfold w_L_coast_274
    refine br_no (fun z => ?_) (N_told h1 (bn_yes rfl (N_coast h1 nn (fun μ2 h2 => ⟨vp3, ?_⟩))))
    · have := (z_le0 (by omega)).mp z
      omega
    · rw [z_cl (by decide), h2.g]
      exact bn_yes rfl (U_fault h2 (bn_yes rfl (T5 h2 (bn_yes rfl (q μ2 h2)))))
  -- goats
  have goats : ∀ (l : List Nat) (μ1 : Mem), l.length ≤ 105 → (l ++ cat (tG L) (L 100 4) = tAll L) → OK0 μ1 l sd L → w_L_coast_226 (nI l.length) (nI 0) μ1 Q := by
    intro l μ1 hl he h1
    unfold w_L_coast_226
    intro X hX
    refine cnt_dn (P := fun i => i ≤ L 100 4 → ∀ μ2 : Mem, OK0 μ2 (l ++ cat (tG L) i) sd L → X (nI (l ++ cat (tG L) i).length) (nI i) μ2) (L 100 4) ?_ ?_ (by omega) μ1 (by show OK0 μ1 (l ++ []) sd L; rw [List.append_nil]; exact h1) |> (fun z => by
      have z : X (nI (l ++ []).length) (nI 0) μ1 := z
      rw [List.append_nil] at z
      exact z)
    · intro _ μ2 h2
      have lG := cG_len nn (Nat.le_refl (L 100 4))
      apply hX
      unfold s_L_coast_226
      rw [e53 h2 (by decide), z_le (by omega) (by omega)]
      refine ⟨vp4, br_yes (Nat.le_refl _) ?_⟩
      rw [he] at h2 ⊢
      have hll : (tAll L).length = l.length + (cat (tG L) (L 100 4)).length := by rw [← he, List.length_append]
      have l0 : 0 < (tAll L).length := by
        unfold tAll tF
        simp
      exact fin μ2 h2 (by omega) l0
    · intro i hi ih _ μ2 h2
      have ih := ih (by omega)
      have lG := cG_len nn (show i ≤ L 100 4 by omega)
      have hg := n8 i hi
      have hlen : (l ++ cat (tG L) i).length ≤ 150 := by rw [List.length_append]; omega
      apply hX
      unfold s_L_coast_226
      rw [e53 h2 (by decide), z_le (by omega) (by omega)]
      refine ⟨vp4, br_no (by omega) (N_put h2 rfl (by decide) (by omega) (fun μ3 h3 => ⟨by rw [z_add]; exact vp_in_nI (by omega) (by decide), ?_⟩))⟩
      rw [z_add, z_add, e53 h3 (by omega)]
      refine N_number h3 (by simp; omega) (by omega) (by decide) (by simp; simp at hlen; omega) (fun μ4 h4 => ⟨vp_in_nI (by omega) (by decide), ?_⟩)
      rw [e53 h4 (by omega)]
      have l1 := num_any (L 100 (21 + i)) 32
      refine N_number h4 (by simp; omega) (by omega) (by decide) (by simp; simp at hlen; omega) (fun μ5 h5 => ?_)
      intro x45 e45
      rw [z_add] at e45
      subst e45
      have e1 : ((l ++ cat (tG L) i) ++ [103] ++ numT (L 100 (21 + i)) 32 ++ numT (L 100 (25 + i)) 59) = l ++ cat (tG L) (i + 1) := by
        show _ = l ++ (cat (tG L) i ++ tG L i)
        unfold tG
        simp [List.append_assoc]
      rw [e1] at h5
      have e2 : (l ++ cat (tG L) (i + 1)).length = (l ++ cat (tG L) i).length + 1 + (numT (L 100 (21 + i)) 32).length + (numT (L 100 (25 + i)) 59).length := by
        rw [← e1]; simp; omega
      have := ih μ5 h5
      rw [e2] at this
      exact this
  -- days and uses
  have days : ∀ (l : List Nat) (μ1 : Mem), l.length ≤ 87 → ((l ++ tD L ++ tU L) ++ cat (tG L) (L 100 4) = tAll L) → OK0 μ1 l sd L → w_L_coast_168 (nI l.length) μ1 Q := by
    intro l μ1 hl he h1
    unfold w_L_coast_168
    have l1 := num_any (L 100 5) 32
    have l2 := num_any (L 100 6) 59
    have l3 := num_any (L 100 7) 32
    have l4 := num_any (L 100 8) 59
    refine N_put h1 rfl (by decide) (by omega) (fun μ3 h3 => ⟨vp_in_nI (by decide) (by decide), ?_⟩)
    rw [e53 h3 (by decide)]
    refine N_number h3 (by simp) (by omega) (by decide) (by simp; omega) (fun μ4 h4 => ⟨vp_in_nI (by decide) (by decide), ?_⟩)
    rw [e53 h4 (by decide)]
    refine N_number h4 (by simp; omega) (by omega) (by decide) (by simp; omega) (fun μ5 h5 => N_put h5 (by simp; omega) (by decide) (by simp; omega) (fun μ6 h6 => ⟨vp_in_nI (by decide) (by decide), ?_⟩))
    rw [e53 h6 (by decide)]
    refine N_number h6 (by simp; omega) (by omega) (by decide) (by simp; omega) (fun μ7 h7 => ⟨vp_in_nI (by decide) (by decide), ?_⟩)
    rw [e53 h7 (by decide)]
    refine N_number h7 (by simp; omega) (by omega) (by decide) (by simp; omega) (fun μ8 h8 => ?_)
    have e1 : (l ++ [100] ++ numT (L 100 5) 32 ++ numT (L 100 6) 59 ++ [117] ++ numT (L 100 7) 32 ++ numT (L 100 8) 59) = l ++ tD L ++ tU L := by
      unfold tD tU
      simp [List.append_assoc]
    rw [e1] at h8
    have e2 : (l ++ tD L ++ tU L).length = l.length + 1 + (numT (L 100 5) 32).length + (numT (L 100 6) 59).length + 1 + (numT (L 100 7) 32).length + (numT (L 100 8) 59).length := by
      rw [← e1]
      simp
      omega
    have := goats (l ++ tD L ++ tU L) μ8 (by omega) he h8
    rw [e2] at this
    exact this
  -- posts
  have posts : ∀ (l : List Nat) (μ1 : Mem), l.length ≤ 35 → (((l ++ cat (tP L) (L 100 3)) ++ tD L ++ tU L) ++ cat (tG L) (L 100 4) = tAll L) → OK0 μ1 l sd L → w_L_coast_94 (nI l.length) (nI 0) μ1 Q := by
    intro l μ1 hl he h1
    unfold w_L_coast_94
    intro X hX
    refine cnt_dn (P := fun i => i ≤ L 100 3 → ∀ μ2 : Mem, OK0 μ2 (l ++ cat (tP L) i) sd L → X (nI (l ++ cat (tP L) i).length) (nI i) μ2) (L 100 3) ?_ ?_ (by omega) μ1 (by show OK0 μ1 (l ++ []) sd L; rw [List.append_nil]; exact h1) |> (fun z => by
      have z : X (nI (l ++ []).length) (nI 0) μ1 := z
      rw [List.append_nil] at z
      exact z)
    · intro _ μ2 h2
      apply hX
      unfold s_L_coast_94
      rw [e53 h2 (by decide), z_le (by omega) (by omega)]
      exact ⟨vp3, br_yes (Nat.le_refl _) (days _ μ2 (by rw [List.length_append]; omega) he h2)⟩
    · intro i hi ih _ μ2 h2
      have ih := ih (by omega)
      have lP2 := cP_len nn (show i ≤ L 100 3 by omega)
      have hg := n6 i hi
      have hlen : (l ++ cat (tP L) i).length ≤ 90 := by rw [List.length_append]; omega
      have l1 := num_any (L 101 (15 + i)) 32
      have l2 := num_any (L 101 (21 + i)) 32
      have l3 := num_any (L 100 (9 + i)) 32
      have l4 := num_any (L 100 (15 + i)) 59
      apply hX
      unfold s_L_coast_94
      rw [e53 h2 (by decide), z_le (by omega) (by omega)]
      refine ⟨vp3, br_no (by omega) (N_put h2 rfl (by decide) (by omega) (fun μ3 h3 => ⟨by rw [z_add]; exact vp_in_nI (by omega) (by decide), ?_⟩))⟩
      simp only [z_add]
      rw [e27 h3 (by omega)]
      refine N_number h3 (by simp; omega) (by omega) (by decide) (by simp; simp at hlen; omega) (fun μ4 h4 => ⟨vp_in_nI (by omega) (by decide), ?_⟩)
      rw [e27 h4 (by omega)]
      refine N_number h4 (by simp; omega) (by omega) (by decide) (by simp; simp at hlen; omega) (fun μ5 h5 => ⟨vp_in_nI (by omega) (by decide), ?_⟩)
      rw [e53 h5 (by omega)]
      refine N_number h5 (by simp; omega) (by omega) (by decide) (by simp; simp at hlen; omega) (fun μ6 h6 => ⟨vp_in_nI (by omega) (by decide), ?_⟩)
      rw [e53 h6 (by omega)]
      refine N_number h6 (by simp; omega) (by omega) (by decide) (by simp; simp at hlen; omega) (fun μ7 h7 => ?_)
      intro x26 e26
      subst e26
      have e1 : ((l ++ cat (tP L) i) ++ [112] ++ numT (L 101 (15 + i)) 32 ++ numT (L 101 (21 + i)) 32 ++ numT (L 100 (9 + i)) 32 ++ numT (L 100 (15 + i)) 59) = l ++ cat (tP L) (i + 1) := by
        show _ = l ++ (cat (tP L) i ++ tP L i)
        unfold tP
        simp [List.append_assoc]
      rw [e1] at h7
      have e2 : (l ++ cat (tP L) (i + 1)).length = (l ++ cat (tP L) i).length + 1 + (numT (L 101 (15 + i)) 32).length + (numT (L 101 (21 + i)) 32).length + (numT (L 100 (9 + i)) 32).length + (numT (L 100 (15 + i)) 59).length := by
        rw [← e1]; simp; omega
      have := ih μ7 h7
      rw [e2] at this
      exact this
  -- hours
  have hours : ∀ (l : List Nat) (μ1 : Mem), l = tF L → OK0 μ1 l sd L → w_L_coast_39 (nI l.length) (nI 0) μ1 Q := by
    intro l μ1 hl h1
    unfold w_L_coast_39
    intro X hX
    have lFl : l.length ≤ 7 := by rw [hl]; exact lF
    refine cnt_dn (P := fun i => i ≤ L 100 2 → ∀ μ2 : Mem, OK0 μ2 (l ++ cat (tH L) i) sd L → X (nI (l ++ cat (tH L) i).length) (nI i) μ2) (L 100 2) ?_ ?_ (by omega) μ1 (by show OK0 μ1 (l ++ []) sd L; rw [List.append_nil]; exact h1) |> (fun z => by
      have z : X (nI (l ++ []).length) (nI 0) μ1 := z
      rw [List.append_nil] at z
      exact z)
    · intro _ μ2 h2
      apply hX
      unfold s_L_coast_39
      rw [e53 h2 (by decide), z_le (by omega) (by omega)]
      refine ⟨vp_in_nI (by decide) (by decide), br_yes (Nat.le_refl _) ?_⟩
      unfold w_L_coast_91
      refine posts _ μ2 (by rw [List.length_append]; omega) ?_ h2
      unfold tAll
      rw [hl]
      simp [List.append_assoc]
    · intro i hi ih _ μ2 h2
      have ih := ih (by omega)
      have lH2 := cH_len nn (show i ≤ L 100 2 by omega)
      have hg := n9 i hi
      have hlen : (l ++ cat (tH L) i).length ≤ 60 := by rw [List.length_append]; omega
      have l1 := num_any (L 100 (29 + 2 * i)) 32
      have l2 := num_any (L 100 (30 + 2 * i)) 59
      apply hX
      unfold s_L_coast_39
      rw [e53 h2 (by decide), z_le (by omega) (by omega)]
      refine ⟨vp_in_nI (by decide) (by decide), br_no (by omega) (N_put h2 rfl (by decide) (by omega) (fun μ3 h3 => ⟨by rw [z_mul, z_add]; exact vp_in_nI (by omega) (by decide), ?_⟩))⟩
      simp only [z_add, z_mul]
      rw [e53 h3 (by omega)]
      refine N_number h3 (by simp; omega) (by omega) (by decide) (by simp; simp at hlen; omega) (fun μ4 h4 => ⟨vp_in_nI (by omega) (by decide), ?_⟩)
      rw [e53 h4 (by omega)]
      refine N_number h4 (by simp; omega) (by omega) (by decide) (by simp; simp at hlen; omega) (fun μ5 h5 => ?_)
      intro x15 e15
      subst e15
      have e1 : ((l ++ cat (tH L) i) ++ [104] ++ numT (L 100 (29 + 2 * i)) 32 ++ numT (L 100 (30 + 2 * i)) 59) = l ++ cat (tH L) (i + 1) := by
        show _ = l ++ (cat (tH L) i ++ tH L i)
        unfold tH
        simp [List.append_assoc]
      rw [e1] at h5
      have e2 : (l ++ cat (tH L) (i + 1)).length = (l ++ cat (tH L) i).length + 1 + (numT (L 100 (29 + 2 * i)) 32).length + (numT (L 100 (30 + 2 * i)) 59).length := by
        rw [← e1]; simp; omega
      have := ih μ5 h5
      rw [e2] at this
      exact this
  unfold w_L_coast
  have l1 := num_any (L 100 0) 32
  have l2 := num_any (L 100 1) 59
  refine N_told h (br_yes rfl (N_put h rfl (by decide) (by decide) (fun μ3 h3 => ⟨vp_in_nI (by decide) (by decide), ?_⟩)))
  rw [e53 h3 (by decide)]
  refine N_number h3 rfl (by omega) (by decide) (by decide) (fun μ4 h4 => ⟨vp_in_nI (by decide) (by decide), ?_⟩)
  rw [e53 h4 (by decide)]
  refine N_number h4 (by simp; omega) (by omega) (by decide) (by simp; omega) (fun μ5 h5 => ?_)
  have e1 : ([] ++ [102] ++ numT (L 100 0) 32 ++ numT (L 100 1) 59) = tF L := by
    unfold tF
    simp [List.append_assoc]
  rw [e1] at h5
  have := hours (tF L) μ5 rfl h5
  have e2 : (tF L).length = 0 + 1 + (numT (L 100 0) 32).length + (numT (L 100 1) 59).length := by
    rw [← e1]; simp; omega
  rw [e2] at this
  exact this
end LCOAST
