/-! ===== both relations as one; the law's calls ===== -/
theorem PA_feed {μ ν : Mem} {a : Int32} (h : RelA μ ν) : ∃ R : Mem → Mem → Prop, (∀ μ' ν', R μ' ν' → RelA μ' ν') ∧ w_X6_feed a μ (fun x μ' => w_X7_feed a ν (fun y ν' => x = y ∧ R μ' ν')) := by
  rcases h with h | h
  · exact ⟨Rel, fun _ _ => Or.inl, P_feed h⟩
  · exact ⟨RelA, fun _ _ => id, P0_feed h⟩
theorem PA_coast {μ ν : Mem} (h : RelA μ ν) : ∃ R : Mem → Mem → Prop, (∀ μ' ν', R μ' ν' → RelA μ' ν') ∧ w_X6_coast  μ (fun x μ' => w_X7_coast  ν (fun y ν' => x = y ∧ R μ' ν')) := by
  rcases h with h | h
  · exact ⟨Rel, fun _ _ => Or.inl, P_coast h⟩
  · exact ⟨RelA, fun _ _ => id, P0_coast h⟩
theorem PA_fault {μ ν : Mem} (h : RelA μ ν) : w_X6_fault  μ (fun x => w_X7_fault  ν (fun y => x = y)) := by
  rcases h with h | h
  · exact P_fault h
  · exact P0_fault h
theorem PA_told {μ ν : Mem} {a : Int32} (h : RelA μ ν) : w_X6_told a μ (fun x => w_X7_told a ν (fun y => x = y)) := by
  rcases h with h | h
  · exact P_told h
  · exact P0_told h
theorem PA_post {μ ν : Mem} {a b : Int32} (h : RelA μ ν) : w_X6_post a b μ (fun x => w_X7_post a b ν (fun y => x = y)) := by
  rcases h with h | h
  · exact P_post h
  · exact P0_post h
theorem PA_fog {μ ν : Mem} {a b : Int32} (h : RelA μ ν) : w_X6_fog a b μ (fun x => w_X7_fog a b ν (fun y => x = y)) := by
  rcases h with h | h
  · exact P_fog h
  · exact P0_fog h
theorem PA_village {μ ν : Mem} {a b : Int32} (h : RelA μ ν) : w_X6_village a b μ (fun x => w_X7_village a b ν (fun y => x = y)) := by
  rcases h with h | h
  · exact P_village h
  · exact P0_village h
theorem PA_goat {μ ν : Mem} {a b : Int32} (h : RelA μ ν) : w_X6_goat a b μ (fun x => w_X7_goat a b ν (fun y => x = y)) := by
  rcases h with h | h
  · exact P_goat h
  · exact P0_goat h
theorem PA_hour {μ ν : Mem} {a : Int32} (h : RelA μ ν) : ∃ R : Mem → Mem → Prop, (∀ μ' ν', R μ' ν' → RelA μ' ν') ∧ w_X6_hour a μ (fun x μ' => w_X7_hour a ν (fun y ν' => x = y ∧ R μ' ν')) := by
  rcases h with h | h
  · exact ⟨Rel, fun _ _ => Or.inl, P_hour h⟩
  · exact ⟨RelA, fun _ _ => id, P0_hour h⟩
theorem PA_carry {μ ν : Mem} {a : Int32} (h : RelA μ ν) : ∃ R : Mem → Mem → Prop, (∀ μ' ν', R μ' ν' → RelA μ' ν') ∧ w_X6_carry a μ (fun x μ' => w_X7_carry a ν (fun y ν' => x = y ∧ R μ' ν')) := by
  rcases h with h | h
  · exact ⟨Rel, fun _ _ => Or.inl, P_carry h⟩
  · exact ⟨RelA, fun _ _ => id, P0_carry h⟩
theorem PA_lick {μ ν : Mem} {a b : Int32} (h : RelA μ ν) : ∃ R : Mem → Mem → Prop, (∀ μ' ν', R μ' ν' → RelA μ' ν') ∧ w_X6_lick a b μ (fun x μ' => w_X7_lick a b ν (fun y ν' => x = y ∧ R μ' ν')) := by
  rcases h with h | h
  · exact ⟨Rel, fun _ _ => Or.inl, P_lick h⟩
  · exact ⟨RelA, fun _ _ => id, P0_lick h⟩
theorem PA_mesh {μ ν : Mem} {a b : Int32} (h : RelA μ ν) : ∃ R : Mem → Mem → Prop, (∀ μ' ν', R μ' ν' → RelA μ' ν') ∧ w_X6_mesh a b μ (fun x μ' => w_X7_mesh a b ν (fun y ν' => x = y ∧ R μ' ν')) := by
  rcases h with h | h
  · exact ⟨Rel, fun _ _ => Or.inl, P_mesh h⟩
  · exact ⟨RelA, fun _ _ => id, P0_mesh h⟩
theorem PA_move {μ ν : Mem} {a b : Int32} (h : RelA μ ν) : ∃ R : Mem → Mem → Prop, (∀ μ' ν', R μ' ν' → RelA μ' ν') ∧ w_X6_move a b μ (fun x μ' => w_X7_move a b ν (fun y ν' => x = y ∧ R μ' ν')) := by
  rcases h with h | h
  · exact ⟨Rel, fun _ _ => Or.inl, P_move h⟩
  · exact ⟨RelA, fun _ _ => id, P0_move h⟩
theorem PA_lamp {μ ν : Mem} {n : Nat} (hn : n ≤ 1) (h : RelA μ ν) : ∃ R : Mem → Mem → Prop, (∀ μ' ν', R μ' ν' → RelA μ' ν') ∧ w_X6_lamp (nI n) μ (fun x μ' => w_X7_lamp (nI n) ν (fun y ν' => x = y ∧ R μ' ν')) := by
  rcases h with h | h
  · exact ⟨Rel, fun _ _ => Or.inl, P_lamp hn h⟩
  · exact ⟨RelA, fun _ _ => id, P0_lamp h⟩
theorem PA_drift {μ ν : Mem} {a : Int32} (h : RelA μ ν) : ∃ R : Mem → Mem → Prop, (∀ μ' ν', R μ' ν' → RelA μ' ν') ∧ w_X6_drift a μ (fun x μ' => w_X7_drift a ν (fun y ν' => x = y ∧ R μ' ν')) := by
  rcases h with h | h
  · exact ⟨Rel, fun _ _ => Or.inl, P_drift h⟩
  · exact ⟨RelA, fun _ _ => id, P0_drift h⟩
theorem PA_undo {μ ν : Mem} {a : Int32} (h : RelA μ ν) : ∃ R : Mem → Mem → Prop, (∀ μ' ν', R μ' ν' → RelA μ' ν') ∧ w_X6_undo a μ (fun x μ' => w_X7_undo a ν (fun y ν' => x = y ∧ R μ' ν')) := by
  rcases h with h | h
  · exact ⟨Rel, fun _ _ => Or.inl, P_undo h⟩
  · exact ⟨RelA, fun _ _ => id, P0_undo h⟩
theorem PA_gets {μ ν : Mem} {a b : Int32} (h : RelA μ ν) : ∃ R : Mem → Mem → Prop, (∀ μ' ν', R μ' ν' → RelA μ' ν') ∧ w_X6_gets a b μ (fun x μ' => w_X7_gets a b ν (fun y ν' => x = y ∧ R μ' ν')) := by
  rcases h with h | h
  · exact ⟨Rel, fun _ _ => Or.inl, P_gets h⟩
  · exact ⟨RelA, fun _ _ => id, P0_gets h⟩
theorem PA_level {μ ν : Mem} {a b : Int32} (h : RelA μ ν) : ∃ R : Mem → Mem → Prop, (∀ μ' ν', R μ' ν' → RelA μ' ν') ∧ w_X6_level a b μ (fun x μ' => w_X7_level a b ν (fun y ν' => x = y ∧ R μ' ν')) := by
  rcases h with h | h
  · exact ⟨Rel, fun _ _ => Or.inl, P_level h⟩
  · exact ⟨RelA, fun _ _ => id, P0_level h⟩
theorem PA_shadow {μ ν : Mem} {a : Int32} (h : RelA μ ν) : ∃ R : Mem → Mem → Prop, (∀ μ' ν', R μ' ν' → RelA μ' ν') ∧ w_X6_shadow a μ (fun x μ' => w_X7_shadow a ν (fun y ν' => x = y ∧ R μ' ν')) := by
  rcases h with h | h
  · exact ⟨Rel, fun _ _ => Or.inl, P_shadow h⟩
  · exact ⟨RelA, fun _ _ => id, P0_shadow h⟩
theorem PA_left {μ ν : Mem} (h : RelA μ ν) : ∃ R : Mem → Mem → Prop, (∀ μ' ν', R μ' ν' → RelA μ' ν') ∧ w_X6_left  μ (fun x μ' => w_X7_left  ν (fun y ν' => x = y ∧ R μ' ν')) := by
  rcases h with h | h
  · exact ⟨Rel, fun _ _ => Or.inl, P_left h⟩
  · exact ⟨RelA, fun _ _ => id, P0_left h⟩
theorem PA_bestMesh {μ ν : Mem} {a b : Int32} (h : RelA μ ν) : ∃ R : Mem → Mem → Prop, (∀ μ' ν', R μ' ν' → RelA μ' ν') ∧ w_X6_bestMesh a b μ (fun x μ' => w_X7_bestMesh a b ν (fun y ν' => x = y ∧ R μ' ν')) := by
  rcases h with h | h
  · exact ⟨Rel, fun _ _ => Or.inl, P_bestMesh h⟩
  · exact ⟨RelA, fun _ _ => id, P0_bestMesh h⟩
theorem PA_bestCell {μ ν : Mem} {a b : Int32} (h : RelA μ ν) : ∃ R : Mem → Mem → Prop, (∀ μ' ν', R μ' ν' → RelA μ' ν') ∧ w_X6_bestCell a b μ (fun x μ' => w_X7_bestCell a b ν (fun y ν' => x = y ∧ R μ' ν')) := by
  rcases h with h | h
  · exact ⟨Rel, fun _ _ => Or.inl, P_bestCell h⟩
  · exact ⟨RelA, fun _ _ => id, P0_bestCell h⟩
theorem PA_bestTwo {μ ν : Mem} {a b c : Int32} (h : RelA μ ν) : ∃ R : Mem → Mem → Prop, (∀ μ' ν', R μ' ν' → RelA μ' ν') ∧ w_X6_bestTwo a b c μ (fun x μ' => w_X7_bestTwo a b c ν (fun y ν' => x = y ∧ R μ' ν')) := by
  rcases h with h | h
  · exact ⟨Rel, fun _ _ => Or.inl, P_bestTwo h⟩
  · exact ⟨RelA, fun _ _ => id, P0_bestTwo h⟩
theorem PA_lampCosts {μ ν : Mem} {a : Int32} (h : RelA μ ν) : ∃ R : Mem → Mem → Prop, (∀ μ' ν', R μ' ν' → RelA μ' ν') ∧ w_X6_lampCosts a μ (fun x μ' => w_X7_lampCosts a ν (fun y ν' => x = y ∧ R μ' ν')) := by
  rcases h with h | h
  · exact ⟨Rel, fun _ _ => Or.inl, P_lampCosts h⟩
  · exact ⟨RelA, fun _ _ => id, P0_lampCosts h⟩
theorem PA_thirsty {μ ν : Mem} {a : Int32} (h : RelA μ ν) : ∃ R : Mem → Mem → Prop, (∀ μ' ν', R μ' ν' → RelA μ' ν') ∧ w_X6_thirsty a μ (fun x μ' => w_X7_thirsty a ν (fun y ν' => x = y ∧ R μ' ν')) := by
  rcases h with h | h
  · exact ⟨Rel, fun _ _ => Or.inl, P_thirsty h⟩
  · exact ⟨RelA, fun _ _ => id, P0_thirsty h⟩
theorem PA_lasts {μ ν : Mem} {a : Int32} (h : RelA μ ν) : w_X6_lasts a μ (fun x => w_X7_lasts a ν (fun y => x = y)) := by
  rcases h with h | h
  · exact P_lasts h
  · exact P0_lasts h
theorem PA_both {μ ν : Mem} (h : RelA μ ν) : w_X6_both  μ (fun x => w_X7_both  ν (fun y => x = y)) := by
  rcases h with h | h
  · exact P_both h
  · exact P0_both h
theorem PA_apart {μ ν : Mem} {a : Int32} (h : RelA μ ν) : w_X6_apart a μ (fun x => w_X7_apart a ν (fun y => x = y)) := by
  rcases h with h | h
  · exact P_apart h
  · exact P0_apart h
theorem PA_share {μ ν : Mem} {a b : Int32} (h : RelA μ ν) : w_X6_share a b μ (fun x => w_X7_share a b ν (fun y => x = y)) := by
  rcases h with h | h
  · exact P_share h
  · exact P0_share h
theorem PA_led {μ ν : Mem} {a b c : Int32} (h : RelA μ ν) : ∃ R : Mem → Mem → Prop, (∀ μ' ν', R μ' ν' → RelA μ' ν') ∧ w_X6_led a b c μ (fun x μ' => w_X7_led a b c ν (fun y ν' => x = y ∧ R μ' ν')) := by
  rcases h with h | h
  · exact ⟨Rel, fun _ _ => Or.inl, P_led h⟩
  · exact ⟨RelA, fun _ _ => id, P0_led h⟩
theorem PA_yards {μ ν : Mem} {a b : Int32} (h : RelA μ ν) : w_X6_yards a b μ (fun x => w_X7_yards a b ν (fun y => x = y)) := by
  rcases h with h | h
  · exact P_yards h
  · exact P0_yards h
theorem PA_clear {μ ν : Mem} {a b : Int32} (h : RelA μ ν) : w_X6_clear a b μ (fun x => w_X7_clear a b ν (fun y => x = y)) := by
  exact P_clear
theorem PA_got {μ ν : Mem} {a b c : Int32} (h : RelA μ ν) : ∃ R : Mem → Mem → Prop, (∀ μ' ν', R μ' ν' → RelA μ' ν') ∧ w_X6_got a b c μ (fun x μ' => w_X7_got a b c ν (fun y ν' => x = y ∧ R μ' ν')) := by
  rcases h with h | h
  · exact ⟨Rel, fun _ _ => Or.inl, P_got h⟩
  · exact ⟨RelA, fun _ _ => id, P0_got h⟩
theorem PA_thick {μ ν : Mem} {a : Int32} (h : RelA μ ν) : ∃ R : Mem → Mem → Prop, (∀ μ' ν', R μ' ν' → RelA μ' ν') ∧ w_X6_thick a μ (fun x μ' => w_X7_thick a ν (fun y ν' => x = y ∧ R μ' ν')) := by
  rcases h with h | h
  · exact ⟨Rel, fun _ _ => Or.inl, P_thick h⟩
  · exact ⟨RelA, fun _ _ => id, P0_thick h⟩
theorem PA_lookAt {μ ν : Mem} {a : Int32} (h : RelA μ ν) : ∃ R : Mem → Mem → Prop, (∀ μ' ν', R μ' ν' → RelA μ' ν') ∧ w_X6_lookAt a μ (fun x μ' => w_X7_lookAt a ν (fun y ν' => x = y ∧ R μ' ν')) := by
  rcases h with h | h
  · exact ⟨Rel, fun _ _ => Or.inl, P_lookAt h⟩
  · exact ⟨RelA, fun _ _ => id, P0_lookAt h⟩
theorem PA_needs {μ ν : Mem} {a b c : Int32} (h : RelA μ ν) : ∃ R : Mem → Mem → Prop, (∀ μ' ν', R μ' ν' → RelA μ' ν') ∧ w_X6_needs a b c μ (fun x μ' => w_X7_needs a b c ν (fun y ν' => x = y ∧ R μ' ν')) := by
  rcases h with h | h
  · exact ⟨Rel, fun _ _ => Or.inl, P_needs h⟩
  · exact ⟨RelA, fun _ _ => id, P0_needs h⟩
theorem PA_write {μ ν : Mem} {a b : Int32} (h : RelA μ ν) : ∃ R : Mem → Mem → Prop, (∀ μ' ν', R μ' ν' → RelA μ' ν') ∧ w_X6_write a b μ (fun x μ' => w_X7_write a b ν (fun y ν' => x = y ∧ R μ' ν')) := by
  rcases h with h | h
  · exact ⟨Rel, fun _ _ => Or.inl, P_write h⟩
  · exact ⟨RelA, fun _ _ => id, P0_write h⟩
theorem PA_judge {μ ν : Mem} (h : RelA μ ν) : w_X6_judge  μ (fun x => w_X7_judge  ν (fun y => x = y)) := by
  rcases h with h | h
  · exact P_judge h
  · exact P0_judge h
theorem PA_tear {μ ν : Mem} (h : RelA μ ν) : ∃ R : Mem → Mem → Prop, (∀ μ' ν', R μ' ν' → RelA μ' ν') ∧ w_X6_tear  μ (fun x μ' => w_X7_tear  ν (fun y ν' => x = y ∧ R μ' ν')) := by
  rcases h with h | h
  · exact ⟨Rel, fun _ _ => Or.inl, P_tear h⟩
  · exact ⟨RelA, fun _ _ => id, P0_tear h⟩
theorem PA_seed {μ ν : Mem} {a : Int32} (h : RelA μ ν) : ∃ R : Mem → Mem → Prop, (∀ μ' ν', R μ' ν' → RelA μ' ν') ∧ w_X6_seed a μ (fun x μ' => w_X7_seed a ν (fun y ν' => x = y ∧ R μ' ν')) := by
  rcases h with h | h
  · exact ⟨Rel, fun _ _ => Or.inl, P_seed h⟩
  · exact ⟨RelA, fun _ _ => id, P0_seed h⟩
theorem PA_keep {μ ν : Mem} {a : Int32} (h : RelA μ ν) : ∃ R : Mem → Mem → Prop, (∀ μ' ν', R μ' ν' → RelA μ' ν') ∧ w_X6_keep a μ (fun x μ' => w_X7_keep a ν (fun y ν' => x = y ∧ R μ' ν')) := by
  rcases h with h | h
  · exact ⟨Rel, fun _ _ => Or.inl, P_keep h⟩
  · exact ⟨RelA, fun _ _ => id, P0_keep h⟩
theorem PA_goBack {μ ν : Mem} {a : Int32} (h : RelA μ ν) : ∃ R : Mem → Mem → Prop, (∀ μ' ν', R μ' ν' → RelA μ' ν') ∧ w_X6_goBack a μ (fun x μ' => w_X7_goBack a ν (fun y ν' => x = y ∧ R μ' ν')) := by
  rcases h with h | h
  · exact ⟨Rel, fun _ _ => Or.inl, P_goBack h⟩
  · exact ⟨RelA, fun _ _ => id, P0_goBack h⟩
section LAWB
variable {l : Launch} {D : va_G} {C : Nat → ClassId} {aF aM : Nat → Nat} {K : Ctx} {b L : Nat} {xs : Nat → Int32} {c0 s0 : Nat} {μ ν : Mem}
theorem hd_X6_feed : kD yX6_feed 1 := by decide +kernel
theorem gw_L_13 : GoodIn kW (wsV RL 13 RX6 yX6_feed (WS yX6_feed cX6_feed 2 (some .int))) := goodV m_m_L_13 m_i_X6_feed m_x_X6_feed m_n_X6 m_c_X6_feed
theorem hd_X7_feed : kD yX7_feed 1 := by decide +kernel
theorem gw_L_17 : GoodIn kW (wsV RL 17 RX7 yX7_feed (WS yX7_feed cX7_feed 2 (some .int))) := goodV m_m_L_17 m_i_X7_feed m_x_X7_feed m_n_X7 m_c_X7_feed
set_option maxHeartbeats 4000000 in
set_option maxRecDepth 100000 in
theorem br_0 (X : LC D C aF aM K b L xs c0 s0) {i : Nat} (hi : i + 4 ≤ L) (hL : L ≤ 2048) (h : RelA μ ν) (kk : ∀ μ' ν', RelA μ' ν' → WL l D C aF aM K c0 s0 μ' ν' 1368 [(0, .ref b), (1, .ref (aF 0)), (2, .ref (aM 0)), (3, .int (nI i))] []) : WL l D C aF aM K c0 s0 μ ν 216 [(0, .ref b), (1, .ref (aF 0)), (2, .ref (aM 0)), (3, .int (nI i))] [] := by
  obtain ⟨R, hR, hw⟩ := PA_feed (a := xs (i + 1)) (h := h)
  refine b_aload_n X.1 dL_law_216 rfl 1 rfl ?_
  refine l_arg X 1 (by decide) (by omega) hL dL_law_217 dL_law_218 dL_law_219 dL_law_220 dL_law_221 ?_
  refine l_F (st := []) X (c_X6_feed l D C aF _ μ _ hw) gw_L_13 ⟨rfl, hd_X6_feed⟩ rfl rfl ⟨(Nat.le_of_ble_eq_true rfl), (Nat.le_of_ble_eq_true rfl)⟩ rfl rfl (Nat.le_of_ble_eq_true rfl) dL_law_222 (fun x μ' hq => ?_)
  refine b_aload_n X.1 dL_law_225 rfl 2 rfl ?_
  refine l_arg X 1 (by decide) (by omega) hL dL_law_226 dL_law_227 dL_law_228 dL_law_229 dL_law_230 ?_
  refine l_M (st := [.int x]) X (c_X7_feed l D C aM _ ν _ hq) gw_L_17 ⟨rfl, hd_X7_feed⟩ rfl rfl ⟨(Nat.le_of_ble_eq_true rfl), (Nat.le_of_ble_eq_true rfl)⟩ rfl rfl (Nat.le_of_ble_eq_true rfl) dL_law_231 (fun y ν' hq2 => ?_)
  exact b_icmp_eq (t := 1368) X.1 dL_law_234 (by decide) (fun _ => kk μ' ν' (hR _ _ hq2.2)) (fun c => absurd hq2.1 c)
theorem hd_X6_coast : kD yX6_coast 0 := by decide +kernel
theorem gw_L_18 : GoodIn kW (wsV RL 18 RX6 yX6_coast (WS yX6_coast cX6_coast 3 (some .int))) := goodV m_m_L_18 m_i_X6_coast m_x_X6_coast m_n_X6 m_c_X6_coast
theorem hd_X7_coast : kD yX7_coast 0 := by decide +kernel
theorem gw_L_22 : GoodIn kW (wsV RL 22 RX7 yX7_coast (WS yX7_coast cX7_coast 3 (some .int))) := goodV m_m_L_22 m_i_X7_coast m_x_X7_coast m_n_X7 m_c_X7_coast
set_option maxHeartbeats 4000000 in
set_option maxRecDepth 100000 in
theorem br_1 (X : LC D C aF aM K b L xs c0 s0) {i : Nat} (hi : i + 4 ≤ L) (hL : L ≤ 2048) (h : RelA μ ν) (kk : ∀ μ' ν', RelA μ' ν' → WL l D C aF aM K c0 s0 μ' ν' 1368 [(0, .ref b), (1, .ref (aF 0)), (2, .ref (aM 0)), (3, .int (nI i))] []) : WL l D C aF aM K c0 s0 μ ν 239 [(0, .ref b), (1, .ref (aF 0)), (2, .ref (aM 0)), (3, .int (nI i))] [] := by
  obtain ⟨R, hR, hw⟩ := PA_coast (h := h)
  refine b_aload_n X.1 dL_law_239 rfl 1 rfl ?_
  refine l_F (st := []) X (c_X6_coast l D C aF  μ _ hw) gw_L_18 ⟨rfl, hd_X6_coast⟩ rfl rfl ⟨(Nat.le_of_ble_eq_true rfl), (Nat.le_of_ble_eq_true rfl)⟩ rfl rfl (Nat.le_of_ble_eq_true rfl) dL_law_240 (fun x μ' hq => ?_)
  refine b_aload_n X.1 dL_law_243 rfl 2 rfl ?_
  refine l_M (st := [.int x]) X (c_X7_coast l D C aM  ν _ hq) gw_L_22 ⟨rfl, hd_X7_coast⟩ rfl rfl ⟨(Nat.le_of_ble_eq_true rfl), (Nat.le_of_ble_eq_true rfl)⟩ rfl rfl (Nat.le_of_ble_eq_true rfl) dL_law_244 (fun y ν' hq2 => ?_)
  exact b_icmp_eq (t := 1368) X.1 dL_law_247 (by decide) (fun _ => kk μ' ν' (hR _ _ hq2.2)) (fun c => absurd hq2.1 c)
theorem hd_X6_fault : kD yX6_fault 0 := by decide +kernel
theorem gw_L_23 : GoodIn kW (wsV RL 23 RX6 yX6_fault (WS yX6_fault cX6_fault 1 (some .int))) := goodV m_m_L_23 m_i_X6_fault m_x_X6_fault m_n_X6 m_c_X6_fault
theorem hd_X7_fault : kD yX7_fault 0 := by decide +kernel
theorem gw_L_26 : GoodIn kW (wsV RL 26 RX7 yX7_fault (WS yX7_fault cX7_fault 1 (some .int))) := goodV m_m_L_26 m_i_X7_fault m_x_X7_fault m_n_X7 m_c_X7_fault
set_option maxHeartbeats 4000000 in
set_option maxRecDepth 100000 in
theorem br_2 (X : LC D C aF aM K b L xs c0 s0) {i : Nat} (hi : i + 4 ≤ L) (hL : L ≤ 2048) (h : RelA μ ν) (kk : ∀ μ' ν', RelA μ' ν' → WL l D C aF aM K c0 s0 μ' ν' 1368 [(0, .ref b), (1, .ref (aF 0)), (2, .ref (aM 0)), (3, .int (nI i))] []) : WL l D C aF aM K c0 s0 μ ν 252 [(0, .ref b), (1, .ref (aF 0)), (2, .ref (aM 0)), (3, .int (nI i))] [] := by
  have hw := PA_fault (h := h)
  refine b_aload_n X.1 dL_law_252 rfl 1 rfl ?_
  refine l_F (st := []) X (c_X6_fault l D C aF  μ _ hw) gw_L_23 ⟨rfl, hd_X6_fault⟩ rfl rfl ⟨(Nat.le_of_ble_eq_true rfl), (Nat.le_of_ble_eq_true rfl)⟩ rfl rfl (Nat.le_of_ble_eq_true rfl) dL_law_253 (fun x μ' hq => ?_)
  obtain ⟨rfl, hq⟩ := hq
  refine b_aload_n X.1 dL_law_256 rfl 2 rfl ?_
  refine l_M (st := [.int x]) X (c_X7_fault l D C aM  ν _ hq) gw_L_26 ⟨rfl, hd_X7_fault⟩ rfl rfl ⟨(Nat.le_of_ble_eq_true rfl), (Nat.le_of_ble_eq_true rfl)⟩ rfl rfl (Nat.le_of_ble_eq_true rfl) dL_law_257 (fun y ν' hq2 => ?_)
  obtain ⟨rfl, hq2⟩ := hq2
  exact b_icmp_eq (t := 1368) X.1 dL_law_260 (by decide) (fun _ => kk _ _ h) (fun c => absurd hq2 c)
theorem hd_X6_told : kD yX6_told 1 := by decide +kernel
theorem gw_L_27 : GoodIn kW (wsV RL 27 RX6 yX6_told (WS yX6_told cX6_told 2 (some .int))) := goodV m_m_L_27 m_i_X6_told m_x_X6_told m_n_X6 m_c_X6_told
theorem hd_X7_told : kD yX7_told 1 := by decide +kernel
theorem gw_L_30 : GoodIn kW (wsV RL 30 RX7 yX7_told (WS yX7_told cX7_told 2 (some .int))) := goodV m_m_L_30 m_i_X7_told m_x_X7_told m_n_X7 m_c_X7_told
set_option maxHeartbeats 4000000 in
set_option maxRecDepth 100000 in
theorem br_3 (X : LC D C aF aM K b L xs c0 s0) {i : Nat} (hi : i + 4 ≤ L) (hL : L ≤ 2048) (h : RelA μ ν) (kk : ∀ μ' ν', RelA μ' ν' → WL l D C aF aM K c0 s0 μ' ν' 1368 [(0, .ref b), (1, .ref (aF 0)), (2, .ref (aM 0)), (3, .int (nI i))] []) : WL l D C aF aM K c0 s0 μ ν 265 [(0, .ref b), (1, .ref (aF 0)), (2, .ref (aM 0)), (3, .int (nI i))] [] := by
  have hw := PA_told (a := xs (i + 1)) (h := h)
  refine b_aload_n X.1 dL_law_265 rfl 1 rfl ?_
  refine l_arg X 1 (by decide) (by omega) hL dL_law_266 dL_law_267 dL_law_268 dL_law_269 dL_law_270 ?_
  refine l_F (st := []) X (c_X6_told l D C aF _ μ _ hw) gw_L_27 ⟨rfl, hd_X6_told⟩ rfl rfl ⟨(Nat.le_of_ble_eq_true rfl), (Nat.le_of_ble_eq_true rfl)⟩ rfl rfl (Nat.le_of_ble_eq_true rfl) dL_law_271 (fun x μ' hq => ?_)
  obtain ⟨rfl, hq⟩ := hq
  refine b_aload_n X.1 dL_law_274 rfl 2 rfl ?_
  refine l_arg X 1 (by decide) (by omega) hL dL_law_275 dL_law_276 dL_law_277 dL_law_278 dL_law_279 ?_
  refine l_M (st := [.int x]) X (c_X7_told l D C aM _ ν _ hq) gw_L_30 ⟨rfl, hd_X7_told⟩ rfl rfl ⟨(Nat.le_of_ble_eq_true rfl), (Nat.le_of_ble_eq_true rfl)⟩ rfl rfl (Nat.le_of_ble_eq_true rfl) dL_law_280 (fun y ν' hq2 => ?_)
  obtain ⟨rfl, hq2⟩ := hq2
  exact b_icmp_eq (t := 1368) X.1 dL_law_283 (by decide) (fun _ => kk _ _ h) (fun c => absurd hq2 c)
theorem hd_X6_post : kD yX6_post 2 := by decide +kernel
theorem gw_L_31 : GoodIn kW (wsV RL 31 RX6 yX6_post (WS yX6_post cX6_post 3 (some .int))) := goodV m_m_L_31 m_i_X6_post m_x_X6_post m_n_X6 m_c_X6_post
theorem hd_X7_post : kD yX7_post 2 := by decide +kernel
theorem gw_L_35 : GoodIn kW (wsV RL 35 RX7 yX7_post (WS yX7_post cX7_post 3 (some .int))) := goodV m_m_L_35 m_i_X7_post m_x_X7_post m_n_X7 m_c_X7_post
set_option maxHeartbeats 4000000 in
set_option maxRecDepth 100000 in
theorem br_4 (X : LC D C aF aM K b L xs c0 s0) {i : Nat} (hi : i + 4 ≤ L) (hL : L ≤ 2048) (h : RelA μ ν) (kk : ∀ μ' ν', RelA μ' ν' → WL l D C aF aM K c0 s0 μ' ν' 1368 [(0, .ref b), (1, .ref (aF 0)), (2, .ref (aM 0)), (3, .int (nI i))] []) : WL l D C aF aM K c0 s0 μ ν 288 [(0, .ref b), (1, .ref (aF 0)), (2, .ref (aM 0)), (3, .int (nI i))] [] := by
  have hw := PA_post (a := xs (i + 1)) (b := xs (i + 2)) (h := h)
  refine b_aload_n X.1 dL_law_288 rfl 1 rfl ?_
  refine l_arg X 1 (by decide) (by omega) hL dL_law_289 dL_law_290 dL_law_291 dL_law_292 dL_law_293 ?_
  refine l_arg X 2 (by decide) (by omega) hL dL_law_294 dL_law_295 dL_law_296 dL_law_297 dL_law_298 ?_
  refine l_F (st := []) X (c_X6_post l D C aF _ _ μ _ hw) gw_L_31 ⟨rfl, hd_X6_post⟩ rfl rfl ⟨(Nat.le_of_ble_eq_true rfl), (Nat.le_of_ble_eq_true rfl)⟩ rfl rfl (Nat.le_of_ble_eq_true rfl) dL_law_299 (fun x μ' hq => ?_)
  obtain ⟨rfl, hq⟩ := hq
  refine b_aload_n X.1 dL_law_302 rfl 2 rfl ?_
  refine l_arg X 1 (by decide) (by omega) hL dL_law_303 dL_law_304 dL_law_305 dL_law_306 dL_law_307 ?_
  refine l_arg X 2 (by decide) (by omega) hL dL_law_308 dL_law_309 dL_law_310 dL_law_311 dL_law_312 ?_
  refine l_M (st := [.int x]) X (c_X7_post l D C aM _ _ ν _ hq) gw_L_35 ⟨rfl, hd_X7_post⟩ rfl rfl ⟨(Nat.le_of_ble_eq_true rfl), (Nat.le_of_ble_eq_true rfl)⟩ rfl rfl (Nat.le_of_ble_eq_true rfl) dL_law_313 (fun y ν' hq2 => ?_)
  obtain ⟨rfl, hq2⟩ := hq2
  exact b_icmp_eq (t := 1368) X.1 dL_law_316 (by decide) (fun _ => kk _ _ h) (fun c => absurd hq2 c)
theorem hd_X6_fog : kD yX6_fog 2 := by decide +kernel
theorem gw_L_36 : GoodIn kW (wsV RL 36 RX6 yX6_fog (WS yX6_fog cX6_fog 4 (some .int))) := goodV m_m_L_36 m_i_X6_fog m_x_X6_fog m_n_X6 m_c_X6_fog
theorem hd_X7_fog : kD yX7_fog 2 := by decide +kernel
theorem gw_L_39 : GoodIn kW (wsV RL 39 RX7 yX7_fog (WS yX7_fog cX7_fog 3 (some .int))) := goodV m_m_L_39 m_i_X7_fog m_x_X7_fog m_n_X7 m_c_X7_fog
set_option maxHeartbeats 4000000 in
set_option maxRecDepth 100000 in
theorem br_5 (X : LC D C aF aM K b L xs c0 s0) {i : Nat} (hi : i + 4 ≤ L) (hL : L ≤ 2048) (h : RelA μ ν) (kk : ∀ μ' ν', RelA μ' ν' → WL l D C aF aM K c0 s0 μ' ν' 1368 [(0, .ref b), (1, .ref (aF 0)), (2, .ref (aM 0)), (3, .int (nI i))] []) : WL l D C aF aM K c0 s0 μ ν 321 [(0, .ref b), (1, .ref (aF 0)), (2, .ref (aM 0)), (3, .int (nI i))] [] := by
  have hw := PA_fog (a := xs (i + 1)) (b := xs (i + 2)) (h := h)
  refine b_aload_n X.1 dL_law_321 rfl 1 rfl ?_
  refine l_arg X 1 (by decide) (by omega) hL dL_law_322 dL_law_323 dL_law_324 dL_law_325 dL_law_326 ?_
  refine l_arg X 2 (by decide) (by omega) hL dL_law_327 dL_law_328 dL_law_329 dL_law_330 dL_law_331 ?_
  refine l_F (st := []) X (c_X6_fog l D C aF _ _ μ _ hw) gw_L_36 ⟨rfl, hd_X6_fog⟩ rfl rfl ⟨(Nat.le_of_ble_eq_true rfl), (Nat.le_of_ble_eq_true rfl)⟩ rfl rfl (Nat.le_of_ble_eq_true rfl) dL_law_332 (fun x μ' hq => ?_)
  obtain ⟨rfl, hq⟩ := hq
  refine b_aload_n X.1 dL_law_335 rfl 2 rfl ?_
  refine l_arg X 1 (by decide) (by omega) hL dL_law_336 dL_law_337 dL_law_338 dL_law_339 dL_law_340 ?_
  refine l_arg X 2 (by decide) (by omega) hL dL_law_341 dL_law_342 dL_law_343 dL_law_344 dL_law_345 ?_
  refine l_M (st := [.int x]) X (c_X7_fog l D C aM _ _ ν _ hq) gw_L_39 ⟨rfl, hd_X7_fog⟩ rfl rfl ⟨(Nat.le_of_ble_eq_true rfl), (Nat.le_of_ble_eq_true rfl)⟩ rfl rfl (Nat.le_of_ble_eq_true rfl) dL_law_346 (fun y ν' hq2 => ?_)
  obtain ⟨rfl, hq2⟩ := hq2
  exact b_icmp_eq (t := 1368) X.1 dL_law_349 (by decide) (fun _ => kk _ _ h) (fun c => absurd hq2 c)
theorem hd_X6_village : kD yX6_village 2 := by decide +kernel
theorem gw_L_40 : GoodIn kW (wsV RL 40 RX6 yX6_village (WS yX6_village cX6_village 3 (some .int))) := goodV m_m_L_40 m_i_X6_village m_x_X6_village m_n_X6 m_c_X6_village
theorem hd_X7_village : kD yX7_village 2 := by decide +kernel
theorem gw_L_43 : GoodIn kW (wsV RL 43 RX7 yX7_village (WS yX7_village cX7_village 3 (some .int))) := goodV m_m_L_43 m_i_X7_village m_x_X7_village m_n_X7 m_c_X7_village
set_option maxHeartbeats 4000000 in
set_option maxRecDepth 100000 in
theorem br_6 (X : LC D C aF aM K b L xs c0 s0) {i : Nat} (hi : i + 4 ≤ L) (hL : L ≤ 2048) (h : RelA μ ν) (kk : ∀ μ' ν', RelA μ' ν' → WL l D C aF aM K c0 s0 μ' ν' 1368 [(0, .ref b), (1, .ref (aF 0)), (2, .ref (aM 0)), (3, .int (nI i))] []) : WL l D C aF aM K c0 s0 μ ν 354 [(0, .ref b), (1, .ref (aF 0)), (2, .ref (aM 0)), (3, .int (nI i))] [] := by
  have hw := PA_village (a := xs (i + 1)) (b := xs (i + 2)) (h := h)
  refine b_aload_n X.1 dL_law_354 rfl 1 rfl ?_
  refine l_arg X 1 (by decide) (by omega) hL dL_law_355 dL_law_356 dL_law_357 dL_law_358 dL_law_359 ?_
  refine l_arg X 2 (by decide) (by omega) hL dL_law_360 dL_law_361 dL_law_362 dL_law_363 dL_law_364 ?_
  refine l_F (st := []) X (c_X6_village l D C aF _ _ μ _ hw) gw_L_40 ⟨rfl, hd_X6_village⟩ rfl rfl ⟨(Nat.le_of_ble_eq_true rfl), (Nat.le_of_ble_eq_true rfl)⟩ rfl rfl (Nat.le_of_ble_eq_true rfl) dL_law_365 (fun x μ' hq => ?_)
  obtain ⟨rfl, hq⟩ := hq
  refine b_aload_n X.1 dL_law_368 rfl 2 rfl ?_
  refine l_arg X 1 (by decide) (by omega) hL dL_law_369 dL_law_370 dL_law_371 dL_law_372 dL_law_373 ?_
  refine l_arg X 2 (by decide) (by omega) hL dL_law_374 dL_law_375 dL_law_376 dL_law_377 dL_law_378 ?_
  refine l_M (st := [.int x]) X (c_X7_village l D C aM _ _ ν _ hq) gw_L_43 ⟨rfl, hd_X7_village⟩ rfl rfl ⟨(Nat.le_of_ble_eq_true rfl), (Nat.le_of_ble_eq_true rfl)⟩ rfl rfl (Nat.le_of_ble_eq_true rfl) dL_law_379 (fun y ν' hq2 => ?_)
  obtain ⟨rfl, hq2⟩ := hq2
  exact b_icmp_eq (t := 1368) X.1 dL_law_382 (by decide) (fun _ => kk _ _ h) (fun c => absurd hq2 c)
theorem hd_X6_goat : kD yX6_goat 2 := by decide +kernel
theorem gw_L_44 : GoodIn kW (wsV RL 44 RX6 yX6_goat (WS yX6_goat cX6_goat 3 (some .int))) := goodV m_m_L_44 m_i_X6_goat m_x_X6_goat m_n_X6 m_c_X6_goat
theorem hd_X7_goat : kD yX7_goat 2 := by decide +kernel
theorem gw_L_47 : GoodIn kW (wsV RL 47 RX7 yX7_goat (WS yX7_goat cX7_goat 3 (some .int))) := goodV m_m_L_47 m_i_X7_goat m_x_X7_goat m_n_X7 m_c_X7_goat
set_option maxHeartbeats 4000000 in
set_option maxRecDepth 100000 in
theorem br_7 (X : LC D C aF aM K b L xs c0 s0) {i : Nat} (hi : i + 4 ≤ L) (hL : L ≤ 2048) (h : RelA μ ν) (kk : ∀ μ' ν', RelA μ' ν' → WL l D C aF aM K c0 s0 μ' ν' 1368 [(0, .ref b), (1, .ref (aF 0)), (2, .ref (aM 0)), (3, .int (nI i))] []) : WL l D C aF aM K c0 s0 μ ν 387 [(0, .ref b), (1, .ref (aF 0)), (2, .ref (aM 0)), (3, .int (nI i))] [] := by
  have hw := PA_goat (a := xs (i + 1)) (b := xs (i + 2)) (h := h)
  refine b_aload_n X.1 dL_law_387 rfl 1 rfl ?_
  refine l_arg X 1 (by decide) (by omega) hL dL_law_388 dL_law_389 dL_law_390 dL_law_391 dL_law_392 ?_
  refine l_arg X 2 (by decide) (by omega) hL dL_law_393 dL_law_394 dL_law_395 dL_law_396 dL_law_397 ?_
  refine l_F (st := []) X (c_X6_goat l D C aF _ _ μ _ hw) gw_L_44 ⟨rfl, hd_X6_goat⟩ rfl rfl ⟨(Nat.le_of_ble_eq_true rfl), (Nat.le_of_ble_eq_true rfl)⟩ rfl rfl (Nat.le_of_ble_eq_true rfl) dL_law_398 (fun x μ' hq => ?_)
  obtain ⟨rfl, hq⟩ := hq
  refine b_aload_n X.1 dL_law_401 rfl 2 rfl ?_
  refine l_arg X 1 (by decide) (by omega) hL dL_law_402 dL_law_403 dL_law_404 dL_law_405 dL_law_406 ?_
  refine l_arg X 2 (by decide) (by omega) hL dL_law_407 dL_law_408 dL_law_409 dL_law_410 dL_law_411 ?_
  refine l_M (st := [.int x]) X (c_X7_goat l D C aM _ _ ν _ hq) gw_L_47 ⟨rfl, hd_X7_goat⟩ rfl rfl ⟨(Nat.le_of_ble_eq_true rfl), (Nat.le_of_ble_eq_true rfl)⟩ rfl rfl (Nat.le_of_ble_eq_true rfl) dL_law_412 (fun y ν' hq2 => ?_)
  obtain ⟨rfl, hq2⟩ := hq2
  exact b_icmp_eq (t := 1368) X.1 dL_law_415 (by decide) (fun _ => kk _ _ h) (fun c => absurd hq2 c)
theorem hd_X6_hour : kD yX6_hour 1 := by decide +kernel
theorem gw_L_48 : GoodIn kW (wsV RL 48 RX6 yX6_hour (WS yX6_hour cX6_hour 4 (some .int))) := goodV m_m_L_48 m_i_X6_hour m_x_X6_hour m_n_X6 m_c_X6_hour
theorem hd_X7_hour : kD yX7_hour 1 := by decide +kernel
theorem gw_L_51 : GoodIn kW (wsV RL 51 RX7 yX7_hour (WS yX7_hour cX7_hour 5 (some .int))) := goodV m_m_L_51 m_i_X7_hour m_x_X7_hour m_n_X7 m_c_X7_hour
set_option maxHeartbeats 4000000 in
set_option maxRecDepth 100000 in
theorem br_8 (X : LC D C aF aM K b L xs c0 s0) {i : Nat} (hi : i + 4 ≤ L) (hL : L ≤ 2048) (h : RelA μ ν) (kk : ∀ μ' ν', RelA μ' ν' → WL l D C aF aM K c0 s0 μ' ν' 1368 [(0, .ref b), (1, .ref (aF 0)), (2, .ref (aM 0)), (3, .int (nI i))] []) : WL l D C aF aM K c0 s0 μ ν 420 [(0, .ref b), (1, .ref (aF 0)), (2, .ref (aM 0)), (3, .int (nI i))] [] := by
  obtain ⟨R, hR, hw⟩ := PA_hour (a := xs (i + 1)) (h := h)
  refine b_aload_n X.1 dL_law_420 rfl 1 rfl ?_
  refine l_arg X 1 (by decide) (by omega) hL dL_law_421 dL_law_422 dL_law_423 dL_law_424 dL_law_425 ?_
  refine l_F (st := []) X (c_X6_hour l D C aF _ μ _ hw) gw_L_48 ⟨rfl, hd_X6_hour⟩ rfl rfl ⟨(Nat.le_of_ble_eq_true rfl), (Nat.le_of_ble_eq_true rfl)⟩ rfl rfl (Nat.le_of_ble_eq_true rfl) dL_law_426 (fun x μ' hq => ?_)
  refine b_aload_n X.1 dL_law_429 rfl 2 rfl ?_
  refine l_arg X 1 (by decide) (by omega) hL dL_law_430 dL_law_431 dL_law_432 dL_law_433 dL_law_434 ?_
  refine l_M (st := [.int x]) X (c_X7_hour l D C aM _ ν _ hq) gw_L_51 ⟨rfl, hd_X7_hour⟩ rfl rfl ⟨(Nat.le_of_ble_eq_true rfl), (Nat.le_of_ble_eq_true rfl)⟩ rfl rfl (Nat.le_of_ble_eq_true rfl) dL_law_435 (fun y ν' hq2 => ?_)
  exact b_icmp_eq (t := 1368) X.1 dL_law_438 (by decide) (fun _ => kk μ' ν' (hR _ _ hq2.2)) (fun c => absurd hq2.1 c)
theorem hd_X6_carry : kD yX6_carry 1 := by decide +kernel
theorem gw_L_52 : GoodIn kW (wsV RL 52 RX6 yX6_carry (WS yX6_carry cX6_carry 2 (some .int))) := goodV m_m_L_52 m_i_X6_carry m_x_X6_carry m_n_X6 m_c_X6_carry
theorem hd_X7_carry : kD yX7_carry 1 := by decide +kernel
theorem gw_L_55 : GoodIn kW (wsV RL 55 RX7 yX7_carry (WS yX7_carry cX7_carry 2 (some .int))) := goodV m_m_L_55 m_i_X7_carry m_x_X7_carry m_n_X7 m_c_X7_carry
set_option maxHeartbeats 4000000 in
set_option maxRecDepth 100000 in
theorem br_9 (X : LC D C aF aM K b L xs c0 s0) {i : Nat} (hi : i + 4 ≤ L) (hL : L ≤ 2048) (h : RelA μ ν) (kk : ∀ μ' ν', RelA μ' ν' → WL l D C aF aM K c0 s0 μ' ν' 1368 [(0, .ref b), (1, .ref (aF 0)), (2, .ref (aM 0)), (3, .int (nI i))] []) : WL l D C aF aM K c0 s0 μ ν 443 [(0, .ref b), (1, .ref (aF 0)), (2, .ref (aM 0)), (3, .int (nI i))] [] := by
  obtain ⟨R, hR, hw⟩ := PA_carry (a := xs (i + 1)) (h := h)
  refine b_aload_n X.1 dL_law_443 rfl 1 rfl ?_
  refine l_arg X 1 (by decide) (by omega) hL dL_law_444 dL_law_445 dL_law_446 dL_law_447 dL_law_448 ?_
  refine l_F (st := []) X (c_X6_carry l D C aF _ μ _ hw) gw_L_52 ⟨rfl, hd_X6_carry⟩ rfl rfl ⟨(Nat.le_of_ble_eq_true rfl), (Nat.le_of_ble_eq_true rfl)⟩ rfl rfl (Nat.le_of_ble_eq_true rfl) dL_law_449 (fun x μ' hq => ?_)
  refine b_aload_n X.1 dL_law_452 rfl 2 rfl ?_
  refine l_arg X 1 (by decide) (by omega) hL dL_law_453 dL_law_454 dL_law_455 dL_law_456 dL_law_457 ?_
  refine l_M (st := [.int x]) X (c_X7_carry l D C aM _ ν _ hq) gw_L_55 ⟨rfl, hd_X7_carry⟩ rfl rfl ⟨(Nat.le_of_ble_eq_true rfl), (Nat.le_of_ble_eq_true rfl)⟩ rfl rfl (Nat.le_of_ble_eq_true rfl) dL_law_458 (fun y ν' hq2 => ?_)
  exact b_icmp_eq (t := 1368) X.1 dL_law_461 (by decide) (fun _ => kk μ' ν' (hR _ _ hq2.2)) (fun c => absurd hq2.1 c)
theorem hd_X6_lick : kD yX6_lick 2 := by decide +kernel
theorem gw_L_56 : GoodIn kW (wsV RL 56 RX6 yX6_lick (WS yX6_lick cX6_lick 3 (some .int))) := goodV m_m_L_56 m_i_X6_lick m_x_X6_lick m_n_X6 m_c_X6_lick
theorem hd_X7_lick : kD yX7_lick 2 := by decide +kernel
theorem gw_L_59 : GoodIn kW (wsV RL 59 RX7 yX7_lick (WS yX7_lick cX7_lick 3 (some .int))) := goodV m_m_L_59 m_i_X7_lick m_x_X7_lick m_n_X7 m_c_X7_lick
set_option maxHeartbeats 4000000 in
set_option maxRecDepth 100000 in
theorem br_10 (X : LC D C aF aM K b L xs c0 s0) {i : Nat} (hi : i + 4 ≤ L) (hL : L ≤ 2048) (h : RelA μ ν) (kk : ∀ μ' ν', RelA μ' ν' → WL l D C aF aM K c0 s0 μ' ν' 1368 [(0, .ref b), (1, .ref (aF 0)), (2, .ref (aM 0)), (3, .int (nI i))] []) : WL l D C aF aM K c0 s0 μ ν 466 [(0, .ref b), (1, .ref (aF 0)), (2, .ref (aM 0)), (3, .int (nI i))] [] := by
  obtain ⟨R, hR, hw⟩ := PA_lick (a := xs (i + 1)) (b := xs (i + 2)) (h := h)
  refine b_aload_n X.1 dL_law_466 rfl 1 rfl ?_
  refine l_arg X 1 (by decide) (by omega) hL dL_law_467 dL_law_468 dL_law_469 dL_law_470 dL_law_471 ?_
  refine l_arg X 2 (by decide) (by omega) hL dL_law_472 dL_law_473 dL_law_474 dL_law_475 dL_law_476 ?_
  refine l_F (st := []) X (c_X6_lick l D C aF _ _ μ _ hw) gw_L_56 ⟨rfl, hd_X6_lick⟩ rfl rfl ⟨(Nat.le_of_ble_eq_true rfl), (Nat.le_of_ble_eq_true rfl)⟩ rfl rfl (Nat.le_of_ble_eq_true rfl) dL_law_477 (fun x μ' hq => ?_)
  refine b_aload_n X.1 dL_law_480 rfl 2 rfl ?_
  refine l_arg X 1 (by decide) (by omega) hL dL_law_481 dL_law_482 dL_law_483 dL_law_484 dL_law_485 ?_
  refine l_arg X 2 (by decide) (by omega) hL dL_law_486 dL_law_487 dL_law_488 dL_law_489 dL_law_490 ?_
  refine l_M (st := [.int x]) X (c_X7_lick l D C aM _ _ ν _ hq) gw_L_59 ⟨rfl, hd_X7_lick⟩ rfl rfl ⟨(Nat.le_of_ble_eq_true rfl), (Nat.le_of_ble_eq_true rfl)⟩ rfl rfl (Nat.le_of_ble_eq_true rfl) dL_law_491 (fun y ν' hq2 => ?_)
  exact b_icmp_eq (t := 1368) X.1 dL_law_494 (by decide) (fun _ => kk μ' ν' (hR _ _ hq2.2)) (fun c => absurd hq2.1 c)
theorem hd_X6_mesh : kD yX6_mesh 2 := by decide +kernel
theorem gw_L_60 : GoodIn kW (wsV RL 60 RX6 yX6_mesh (WS yX6_mesh cX6_mesh 4 (some .int))) := goodV m_m_L_60 m_i_X6_mesh m_x_X6_mesh m_n_X6 m_c_X6_mesh
theorem hd_X7_mesh : kD yX7_mesh 2 := by decide +kernel
theorem gw_L_63 : GoodIn kW (wsV RL 63 RX7 yX7_mesh (WS yX7_mesh cX7_mesh 4 (some .int))) := goodV m_m_L_63 m_i_X7_mesh m_x_X7_mesh m_n_X7 m_c_X7_mesh
set_option maxHeartbeats 4000000 in
set_option maxRecDepth 100000 in
theorem br_11 (X : LC D C aF aM K b L xs c0 s0) {i : Nat} (hi : i + 4 ≤ L) (hL : L ≤ 2048) (h : RelA μ ν) (kk : ∀ μ' ν', RelA μ' ν' → WL l D C aF aM K c0 s0 μ' ν' 1368 [(0, .ref b), (1, .ref (aF 0)), (2, .ref (aM 0)), (3, .int (nI i))] []) : WL l D C aF aM K c0 s0 μ ν 499 [(0, .ref b), (1, .ref (aF 0)), (2, .ref (aM 0)), (3, .int (nI i))] [] := by
  obtain ⟨R, hR, hw⟩ := PA_mesh (a := xs (i + 1)) (b := xs (i + 2)) (h := h)
  refine b_aload_n X.1 dL_law_499 rfl 1 rfl ?_
  refine l_arg X 1 (by decide) (by omega) hL dL_law_500 dL_law_501 dL_law_502 dL_law_503 dL_law_504 ?_
  refine l_arg X 2 (by decide) (by omega) hL dL_law_505 dL_law_506 dL_law_507 dL_law_508 dL_law_509 ?_
  refine l_F (st := []) X (c_X6_mesh l D C aF _ _ μ _ hw) gw_L_60 ⟨rfl, hd_X6_mesh⟩ rfl rfl ⟨(Nat.le_of_ble_eq_true rfl), (Nat.le_of_ble_eq_true rfl)⟩ rfl rfl (Nat.le_of_ble_eq_true rfl) dL_law_510 (fun x μ' hq => ?_)
  refine b_aload_n X.1 dL_law_513 rfl 2 rfl ?_
  refine l_arg X 1 (by decide) (by omega) hL dL_law_514 dL_law_515 dL_law_516 dL_law_517 dL_law_518 ?_
  refine l_arg X 2 (by decide) (by omega) hL dL_law_519 dL_law_520 dL_law_521 dL_law_522 dL_law_523 ?_
  refine l_M (st := [.int x]) X (c_X7_mesh l D C aM _ _ ν _ hq) gw_L_63 ⟨rfl, hd_X7_mesh⟩ rfl rfl ⟨(Nat.le_of_ble_eq_true rfl), (Nat.le_of_ble_eq_true rfl)⟩ rfl rfl (Nat.le_of_ble_eq_true rfl) dL_law_524 (fun y ν' hq2 => ?_)
  exact b_icmp_eq (t := 1368) X.1 dL_law_527 (by decide) (fun _ => kk μ' ν' (hR _ _ hq2.2)) (fun c => absurd hq2.1 c)
theorem hd_X6_move : kD yX6_move 2 := by decide +kernel
theorem gw_L_64 : GoodIn kW (wsV RL 64 RX6 yX6_move (WS yX6_move cX6_move 4 (some .int))) := goodV m_m_L_64 m_i_X6_move m_x_X6_move m_n_X6 m_c_X6_move
theorem hd_X7_move : kD yX7_move 2 := by decide +kernel
theorem gw_L_67 : GoodIn kW (wsV RL 67 RX7 yX7_move (WS yX7_move cX7_move 4 (some .int))) := goodV m_m_L_67 m_i_X7_move m_x_X7_move m_n_X7 m_c_X7_move
set_option maxHeartbeats 4000000 in
set_option maxRecDepth 100000 in
theorem br_12 (X : LC D C aF aM K b L xs c0 s0) {i : Nat} (hi : i + 4 ≤ L) (hL : L ≤ 2048) (h : RelA μ ν) (kk : ∀ μ' ν', RelA μ' ν' → WL l D C aF aM K c0 s0 μ' ν' 1368 [(0, .ref b), (1, .ref (aF 0)), (2, .ref (aM 0)), (3, .int (nI i))] []) : WL l D C aF aM K c0 s0 μ ν 532 [(0, .ref b), (1, .ref (aF 0)), (2, .ref (aM 0)), (3, .int (nI i))] [] := by
  obtain ⟨R, hR, hw⟩ := PA_move (a := xs (i + 1)) (b := xs (i + 2)) (h := h)
  refine b_aload_n X.1 dL_law_532 rfl 1 rfl ?_
  refine l_arg X 1 (by decide) (by omega) hL dL_law_533 dL_law_534 dL_law_535 dL_law_536 dL_law_537 ?_
  refine l_arg X 2 (by decide) (by omega) hL dL_law_538 dL_law_539 dL_law_540 dL_law_541 dL_law_542 ?_
  refine l_F (st := []) X (c_X6_move l D C aF _ _ μ _ hw) gw_L_64 ⟨rfl, hd_X6_move⟩ rfl rfl ⟨(Nat.le_of_ble_eq_true rfl), (Nat.le_of_ble_eq_true rfl)⟩ rfl rfl (Nat.le_of_ble_eq_true rfl) dL_law_543 (fun x μ' hq => ?_)
  refine b_aload_n X.1 dL_law_546 rfl 2 rfl ?_
  refine l_arg X 1 (by decide) (by omega) hL dL_law_547 dL_law_548 dL_law_549 dL_law_550 dL_law_551 ?_
  refine l_arg X 2 (by decide) (by omega) hL dL_law_552 dL_law_553 dL_law_554 dL_law_555 dL_law_556 ?_
  refine l_M (st := [.int x]) X (c_X7_move l D C aM _ _ ν _ hq) gw_L_67 ⟨rfl, hd_X7_move⟩ rfl rfl ⟨(Nat.le_of_ble_eq_true rfl), (Nat.le_of_ble_eq_true rfl)⟩ rfl rfl (Nat.le_of_ble_eq_true rfl) dL_law_557 (fun y ν' hq2 => ?_)
  exact b_icmp_eq (t := 1368) X.1 dL_law_560 (by decide) (fun _ => kk μ' ν' (hR _ _ hq2.2)) (fun c => absurd hq2.1 c)
theorem hd_X6_lamp : kD yX6_lamp 1 := by decide +kernel
theorem gw_L_68 : GoodIn kW (wsV RL 68 RX6 yX6_lamp (WS yX6_lamp cX6_lamp 3 (some .int))) := goodV m_m_L_68 m_i_X6_lamp m_x_X6_lamp m_n_X6 m_c_X6_lamp
theorem hd_X7_lamp : kD yX7_lamp 1 := by decide +kernel
theorem gw_L_72 : GoodIn kW (wsV RL 72 RX7 yX7_lamp (WS yX7_lamp cX7_lamp 3 (some .int))) := goodV m_m_L_72 m_i_X7_lamp m_x_X7_lamp m_n_X7 m_c_X7_lamp
set_option maxHeartbeats 4000000 in
set_option maxRecDepth 100000 in
theorem br_13 (X : LC D C aF aM K b L xs c0 s0) {i : Nat} (hi : i + 4 ≤ L) (hL : L ≤ 2048) (h : RelA μ ν) (kk : ∀ μ' ν', RelA μ' ν' → WL l D C aF aM K c0 s0 μ' ν' 1368 [(0, .ref b), (1, .ref (aF 0)), (2, .ref (aM 0)), (3, .int (nI i))] []) : WL l D C aF aM K c0 s0 μ ν 565 [(0, .ref b), (1, .ref (aF 0)), (2, .ref (aM 0)), (3, .int (nI i))] [] := by
  obtain ⟨n, hn, hx⟩ : ∃ n : Nat, n ≤ 1 ∧ nI n = (if xs (i + 1) = 0 then nI 0 else nI 1) := by
    by_cases q : xs (i + 1) = 0
    · exact ⟨0, by decide, by rw [if_pos q]⟩
    · exact ⟨1, by decide, by rw [if_neg q]⟩
  obtain ⟨R, hR, hw⟩ := PA_lamp hn h
  have fin : ∀ (x : Int32) (μ' : Mem), w_X7_lamp (nI n) ν (fun y ν' => x = y ∧ R μ' ν') → WL l D C aF aM K c0 s0 μ' ν 596 [(0, .ref b), (1, .ref (aF 0)), (2, .ref (aM 0)), (3, .int (nI i))] [.int (nI n), .ref (aM 0), .int x] := by
    intro x μ' hq
    refine l_M (st := [.int x]) X (c_X7_lamp l D C aM _ ν _ hq) gw_L_72 ⟨rfl, hd_X7_lamp⟩ rfl rfl ⟨(Nat.le_of_ble_eq_true rfl), (Nat.le_of_ble_eq_true rfl)⟩ rfl rfl (Nat.le_of_ble_eq_true rfl) dL_law_596 (fun y ν' hq2 => ?_)
    exact b_icmp_eq (t := 1368) X.1 dL_law_599 (by decide) (fun _ => kk μ' ν' (hR _ _ hq2.2)) (fun c => absurd hq2.1 c)
  have mid : WL l D C aF aM K c0 s0 μ ν 579 [(0, .ref b), (1, .ref (aF 0)), (2, .ref (aM 0)), (3, .int (nI i))] [.int (nI n), .ref (aF 0)] := by
    refine l_F (st := []) X (c_X6_lamp l D C aF _ μ _ hw) gw_L_68 ⟨rfl, hd_X6_lamp⟩ rfl rfl ⟨(Nat.le_of_ble_eq_true rfl), (Nat.le_of_ble_eq_true rfl)⟩ rfl rfl (Nat.le_of_ble_eq_true rfl) dL_law_579 (fun x μ' hq => ?_)
    refine b_aload_n X.1 dL_law_582 rfl 2 rfl ?_
    refine l_arg X 1 (by decide) (by omega) hL dL_law_583 dL_law_584 dL_law_585 dL_law_586 dL_law_587 ?_
    refine b_if_eq (t := 595) X.1 dL_law_588 (by decide) (fun q => ?_) (fun q => ?_)
    · rw [if_pos q] at hx
      refine b_iconst (v := nI n) X.1 dL_law_595 (by rw [hx]; decide) ?_
      exact fin x μ' hq
    · rw [if_neg q] at hx
      refine b_iconst (v := nI n) X.1 dL_law_591 (by rw [hx]; decide) ?_
      refine b_goto (t := 596) X.1 dL_law_592 (by decide) ?_
      exact fin x μ' hq
  refine b_aload_n X.1 dL_law_565 rfl 1 rfl ?_
  refine l_arg X 1 (by decide) (by omega) hL dL_law_566 dL_law_567 dL_law_568 dL_law_569 dL_law_570 ?_
  refine b_if_eq (t := 578) X.1 dL_law_571 (by decide) (fun q => ?_) (fun q => ?_)
  · rw [if_pos q] at hx
    refine b_iconst (v := nI n) X.1 dL_law_578 (by rw [hx]; decide) ?_
    exact mid
  · rw [if_neg q] at hx
    refine b_iconst (v := nI n) X.1 dL_law_574 (by rw [hx]; decide) ?_
    refine b_goto (t := 579) X.1 dL_law_575 (by decide) ?_
    exact mid
theorem hd_X6_drift : kD yX6_drift 1 := by decide +kernel
theorem gw_L_73 : GoodIn kW (wsV RL 73 RX6 yX6_drift (WS yX6_drift cX6_drift 6 (some .int))) := goodV m_m_L_73 m_i_X6_drift m_x_X6_drift m_n_X6 m_c_X6_drift
theorem hd_X7_drift : kD yX7_drift 1 := by decide +kernel
theorem gw_L_76 : GoodIn kW (wsV RL 76 RX7 yX7_drift (WS yX7_drift cX7_drift 7 (some .int))) := goodV m_m_L_76 m_i_X7_drift m_x_X7_drift m_n_X7 m_c_X7_drift
set_option maxHeartbeats 4000000 in
set_option maxRecDepth 100000 in
theorem br_14 (X : LC D C aF aM K b L xs c0 s0) {i : Nat} (hi : i + 4 ≤ L) (hL : L ≤ 2048) (h : RelA μ ν) (kk : ∀ μ' ν', RelA μ' ν' → WL l D C aF aM K c0 s0 μ' ν' 1368 [(0, .ref b), (1, .ref (aF 0)), (2, .ref (aM 0)), (3, .int (nI i))] []) : WL l D C aF aM K c0 s0 μ ν 604 [(0, .ref b), (1, .ref (aF 0)), (2, .ref (aM 0)), (3, .int (nI i))] [] := by
  obtain ⟨R, hR, hw⟩ := PA_drift (a := xs (i + 1)) (h := h)
  refine b_aload_n X.1 dL_law_604 rfl 1 rfl ?_
  refine l_arg X 1 (by decide) (by omega) hL dL_law_605 dL_law_606 dL_law_607 dL_law_608 dL_law_609 ?_
  refine l_F (st := []) X (c_X6_drift l D C aF _ μ _ hw) gw_L_73 ⟨rfl, hd_X6_drift⟩ rfl rfl ⟨(Nat.le_of_ble_eq_true rfl), (Nat.le_of_ble_eq_true rfl)⟩ rfl rfl (Nat.le_of_ble_eq_true rfl) dL_law_610 (fun x μ' hq => ?_)
  refine b_aload_n X.1 dL_law_613 rfl 2 rfl ?_
  refine l_arg X 1 (by decide) (by omega) hL dL_law_614 dL_law_615 dL_law_616 dL_law_617 dL_law_618 ?_
  refine l_M (st := [.int x]) X (c_X7_drift l D C aM _ ν _ hq) gw_L_76 ⟨rfl, hd_X7_drift⟩ rfl rfl ⟨(Nat.le_of_ble_eq_true rfl), (Nat.le_of_ble_eq_true rfl)⟩ rfl rfl (Nat.le_of_ble_eq_true rfl) dL_law_619 (fun y ν' hq2 => ?_)
  exact b_icmp_eq (t := 1368) X.1 dL_law_622 (by decide) (fun _ => kk μ' ν' (hR _ _ hq2.2)) (fun c => absurd hq2.1 c)
theorem hd_X6_undo : kD yX6_undo 1 := by decide +kernel
theorem gw_L_77 : GoodIn kW (wsV RL 77 RX6 yX6_undo (WS yX6_undo cX6_undo 2 (some .int))) := goodV m_m_L_77 m_i_X6_undo m_x_X6_undo m_n_X6 m_c_X6_undo
theorem hd_X7_undo : kD yX7_undo 1 := by decide +kernel
theorem gw_L_80 : GoodIn kW (wsV RL 80 RX7 yX7_undo (WS yX7_undo cX7_undo 3 (some .int))) := goodV m_m_L_80 m_i_X7_undo m_x_X7_undo m_n_X7 m_c_X7_undo
set_option maxHeartbeats 4000000 in
set_option maxRecDepth 100000 in
theorem br_15 (X : LC D C aF aM K b L xs c0 s0) {i : Nat} (hi : i + 4 ≤ L) (hL : L ≤ 2048) (h : RelA μ ν) (kk : ∀ μ' ν', RelA μ' ν' → WL l D C aF aM K c0 s0 μ' ν' 1368 [(0, .ref b), (1, .ref (aF 0)), (2, .ref (aM 0)), (3, .int (nI i))] []) : WL l D C aF aM K c0 s0 μ ν 627 [(0, .ref b), (1, .ref (aF 0)), (2, .ref (aM 0)), (3, .int (nI i))] [] := by
  obtain ⟨R, hR, hw⟩ := PA_undo (a := xs (i + 1)) (h := h)
  refine b_aload_n X.1 dL_law_627 rfl 1 rfl ?_
  refine l_arg X 1 (by decide) (by omega) hL dL_law_628 dL_law_629 dL_law_630 dL_law_631 dL_law_632 ?_
  refine l_F (st := []) X (c_X6_undo l D C aF _ μ _ hw) gw_L_77 ⟨rfl, hd_X6_undo⟩ rfl rfl ⟨(Nat.le_of_ble_eq_true rfl), (Nat.le_of_ble_eq_true rfl)⟩ rfl rfl (Nat.le_of_ble_eq_true rfl) dL_law_633 (fun x μ' hq => ?_)
  refine b_aload_n X.1 dL_law_636 rfl 2 rfl ?_
  refine l_arg X 1 (by decide) (by omega) hL dL_law_637 dL_law_638 dL_law_639 dL_law_640 dL_law_641 ?_
  refine l_M (st := [.int x]) X (c_X7_undo l D C aM _ ν _ hq) gw_L_80 ⟨rfl, hd_X7_undo⟩ rfl rfl ⟨(Nat.le_of_ble_eq_true rfl), (Nat.le_of_ble_eq_true rfl)⟩ rfl rfl (Nat.le_of_ble_eq_true rfl) dL_law_642 (fun y ν' hq2 => ?_)
  exact b_icmp_eq (t := 1368) X.1 dL_law_645 (by decide) (fun _ => kk μ' ν' (hR _ _ hq2.2)) (fun c => absurd hq2.1 c)
theorem hd_X6_gets : kD yX6_gets 2 := by decide +kernel
theorem gw_L_81 : GoodIn kW (wsV RL 81 RX6 yX6_gets (WS yX6_gets cX6_gets 3 (some .int))) := goodV m_m_L_81 m_i_X6_gets m_x_X6_gets m_n_X6 m_c_X6_gets
theorem hd_X7_gets : kD yX7_gets 2 := by decide +kernel
theorem gw_L_84 : GoodIn kW (wsV RL 84 RX7 yX7_gets (WS yX7_gets cX7_gets 3 (some .int))) := goodV m_m_L_84 m_i_X7_gets m_x_X7_gets m_n_X7 m_c_X7_gets
set_option maxHeartbeats 4000000 in
set_option maxRecDepth 100000 in
theorem br_16 (X : LC D C aF aM K b L xs c0 s0) {i : Nat} (hi : i + 4 ≤ L) (hL : L ≤ 2048) (h : RelA μ ν) (kk : ∀ μ' ν', RelA μ' ν' → WL l D C aF aM K c0 s0 μ' ν' 1368 [(0, .ref b), (1, .ref (aF 0)), (2, .ref (aM 0)), (3, .int (nI i))] []) : WL l D C aF aM K c0 s0 μ ν 650 [(0, .ref b), (1, .ref (aF 0)), (2, .ref (aM 0)), (3, .int (nI i))] [] := by
  obtain ⟨R, hR, hw⟩ := PA_gets (a := xs (i + 1)) (b := xs (i + 2)) (h := h)
  refine b_aload_n X.1 dL_law_650 rfl 1 rfl ?_
  refine l_arg X 1 (by decide) (by omega) hL dL_law_651 dL_law_652 dL_law_653 dL_law_654 dL_law_655 ?_
  refine l_arg X 2 (by decide) (by omega) hL dL_law_656 dL_law_657 dL_law_658 dL_law_659 dL_law_660 ?_
  refine l_F (st := []) X (c_X6_gets l D C aF _ _ μ _ hw) gw_L_81 ⟨rfl, hd_X6_gets⟩ rfl rfl ⟨(Nat.le_of_ble_eq_true rfl), (Nat.le_of_ble_eq_true rfl)⟩ rfl rfl (Nat.le_of_ble_eq_true rfl) dL_law_661 (fun x μ' hq => ?_)
  refine b_aload_n X.1 dL_law_664 rfl 2 rfl ?_
  refine l_arg X 1 (by decide) (by omega) hL dL_law_665 dL_law_666 dL_law_667 dL_law_668 dL_law_669 ?_
  refine l_arg X 2 (by decide) (by omega) hL dL_law_670 dL_law_671 dL_law_672 dL_law_673 dL_law_674 ?_
  refine l_M (st := [.int x]) X (c_X7_gets l D C aM _ _ ν _ hq) gw_L_84 ⟨rfl, hd_X7_gets⟩ rfl rfl ⟨(Nat.le_of_ble_eq_true rfl), (Nat.le_of_ble_eq_true rfl)⟩ rfl rfl (Nat.le_of_ble_eq_true rfl) dL_law_675 (fun y ν' hq2 => ?_)
  exact b_icmp_eq (t := 1368) X.1 dL_law_678 (by decide) (fun _ => kk μ' ν' (hR _ _ hq2.2)) (fun c => absurd hq2.1 c)
theorem hd_X6_level : kD yX6_level 2 := by decide +kernel
theorem gw_L_85 : GoodIn kW (wsV RL 85 RX6 yX6_level (WS yX6_level cX6_level 3 (some .int))) := goodV m_m_L_85 m_i_X6_level m_x_X6_level m_n_X6 m_c_X6_level
theorem hd_X7_level : kD yX7_level 2 := by decide +kernel
theorem gw_L_88 : GoodIn kW (wsV RL 88 RX7 yX7_level (WS yX7_level cX7_level 3 (some .int))) := goodV m_m_L_88 m_i_X7_level m_x_X7_level m_n_X7 m_c_X7_level
set_option maxHeartbeats 4000000 in
set_option maxRecDepth 100000 in
theorem br_17 (X : LC D C aF aM K b L xs c0 s0) {i : Nat} (hi : i + 4 ≤ L) (hL : L ≤ 2048) (h : RelA μ ν) (kk : ∀ μ' ν', RelA μ' ν' → WL l D C aF aM K c0 s0 μ' ν' 1368 [(0, .ref b), (1, .ref (aF 0)), (2, .ref (aM 0)), (3, .int (nI i))] []) : WL l D C aF aM K c0 s0 μ ν 683 [(0, .ref b), (1, .ref (aF 0)), (2, .ref (aM 0)), (3, .int (nI i))] [] := by
  obtain ⟨R, hR, hw⟩ := PA_level (a := xs (i + 1)) (b := xs (i + 2)) (h := h)
  refine b_aload_n X.1 dL_law_683 rfl 1 rfl ?_
  refine l_arg X 1 (by decide) (by omega) hL dL_law_684 dL_law_685 dL_law_686 dL_law_687 dL_law_688 ?_
  refine l_arg X 2 (by decide) (by omega) hL dL_law_689 dL_law_690 dL_law_691 dL_law_692 dL_law_693 ?_
  refine l_F (st := []) X (c_X6_level l D C aF _ _ μ _ hw) gw_L_85 ⟨rfl, hd_X6_level⟩ rfl rfl ⟨(Nat.le_of_ble_eq_true rfl), (Nat.le_of_ble_eq_true rfl)⟩ rfl rfl (Nat.le_of_ble_eq_true rfl) dL_law_694 (fun x μ' hq => ?_)
  refine b_aload_n X.1 dL_law_697 rfl 2 rfl ?_
  refine l_arg X 1 (by decide) (by omega) hL dL_law_698 dL_law_699 dL_law_700 dL_law_701 dL_law_702 ?_
  refine l_arg X 2 (by decide) (by omega) hL dL_law_703 dL_law_704 dL_law_705 dL_law_706 dL_law_707 ?_
  refine l_M (st := [.int x]) X (c_X7_level l D C aM _ _ ν _ hq) gw_L_88 ⟨rfl, hd_X7_level⟩ rfl rfl ⟨(Nat.le_of_ble_eq_true rfl), (Nat.le_of_ble_eq_true rfl)⟩ rfl rfl (Nat.le_of_ble_eq_true rfl) dL_law_708 (fun y ν' hq2 => ?_)
  exact b_icmp_eq (t := 1368) X.1 dL_law_711 (by decide) (fun _ => kk μ' ν' (hR _ _ hq2.2)) (fun c => absurd hq2.1 c)
theorem hd_X6_shadow : kD yX6_shadow 1 := by decide +kernel
theorem gw_L_89 : GoodIn kW (wsV RL 89 RX6 yX6_shadow (WS yX6_shadow cX6_shadow 4 (some .int))) := goodV m_m_L_89 m_i_X6_shadow m_x_X6_shadow m_n_X6 m_c_X6_shadow
theorem hd_X7_shadow : kD yX7_shadow 1 := by decide +kernel
theorem gw_L_92 : GoodIn kW (wsV RL 92 RX7 yX7_shadow (WS yX7_shadow cX7_shadow 4 (some .int))) := goodV m_m_L_92 m_i_X7_shadow m_x_X7_shadow m_n_X7 m_c_X7_shadow
set_option maxHeartbeats 4000000 in
set_option maxRecDepth 100000 in
theorem br_18 (X : LC D C aF aM K b L xs c0 s0) {i : Nat} (hi : i + 4 ≤ L) (hL : L ≤ 2048) (h : RelA μ ν) (kk : ∀ μ' ν', RelA μ' ν' → WL l D C aF aM K c0 s0 μ' ν' 1368 [(0, .ref b), (1, .ref (aF 0)), (2, .ref (aM 0)), (3, .int (nI i))] []) : WL l D C aF aM K c0 s0 μ ν 716 [(0, .ref b), (1, .ref (aF 0)), (2, .ref (aM 0)), (3, .int (nI i))] [] := by
  obtain ⟨R, hR, hw⟩ := PA_shadow (a := xs (i + 1)) (h := h)
  refine b_aload_n X.1 dL_law_716 rfl 1 rfl ?_
  refine l_arg X 1 (by decide) (by omega) hL dL_law_717 dL_law_718 dL_law_719 dL_law_720 dL_law_721 ?_
  refine l_F (st := []) X (c_X6_shadow l D C aF _ μ _ hw) gw_L_89 ⟨rfl, hd_X6_shadow⟩ rfl rfl ⟨(Nat.le_of_ble_eq_true rfl), (Nat.le_of_ble_eq_true rfl)⟩ rfl rfl (Nat.le_of_ble_eq_true rfl) dL_law_722 (fun x μ' hq => ?_)
  refine b_aload_n X.1 dL_law_725 rfl 2 rfl ?_
  refine l_arg X 1 (by decide) (by omega) hL dL_law_726 dL_law_727 dL_law_728 dL_law_729 dL_law_730 ?_
  refine l_M (st := [.int x]) X (c_X7_shadow l D C aM _ ν _ hq) gw_L_92 ⟨rfl, hd_X7_shadow⟩ rfl rfl ⟨(Nat.le_of_ble_eq_true rfl), (Nat.le_of_ble_eq_true rfl)⟩ rfl rfl (Nat.le_of_ble_eq_true rfl) dL_law_731 (fun y ν' hq2 => ?_)
  exact b_icmp_eq (t := 1368) X.1 dL_law_734 (by decide) (fun _ => kk μ' ν' (hR _ _ hq2.2)) (fun c => absurd hq2.1 c)
theorem hd_X6_left : kD yX6_left 0 := by decide +kernel
theorem gw_L_93 : GoodIn kW (wsV RL 93 RX6 yX6_left (WS yX6_left cX6_left 1 (some .int))) := goodV m_m_L_93 m_i_X6_left m_x_X6_left m_n_X6 m_c_X6_left
theorem hd_X7_left : kD yX7_left 0 := by decide +kernel
theorem gw_L_96 : GoodIn kW (wsV RL 96 RX7 yX7_left (WS yX7_left cX7_left 1 (some .int))) := goodV m_m_L_96 m_i_X7_left m_x_X7_left m_n_X7 m_c_X7_left
set_option maxHeartbeats 4000000 in
set_option maxRecDepth 100000 in
theorem br_19 (X : LC D C aF aM K b L xs c0 s0) {i : Nat} (hi : i + 4 ≤ L) (hL : L ≤ 2048) (h : RelA μ ν) (kk : ∀ μ' ν', RelA μ' ν' → WL l D C aF aM K c0 s0 μ' ν' 1368 [(0, .ref b), (1, .ref (aF 0)), (2, .ref (aM 0)), (3, .int (nI i))] []) : WL l D C aF aM K c0 s0 μ ν 739 [(0, .ref b), (1, .ref (aF 0)), (2, .ref (aM 0)), (3, .int (nI i))] [] := by
  obtain ⟨R, hR, hw⟩ := PA_left (h := h)
  refine b_aload_n X.1 dL_law_739 rfl 1 rfl ?_
  refine l_F (st := []) X (c_X6_left l D C aF  μ _ hw) gw_L_93 ⟨rfl, hd_X6_left⟩ rfl rfl ⟨(Nat.le_of_ble_eq_true rfl), (Nat.le_of_ble_eq_true rfl)⟩ rfl rfl (Nat.le_of_ble_eq_true rfl) dL_law_740 (fun x μ' hq => ?_)
  refine b_aload_n X.1 dL_law_743 rfl 2 rfl ?_
  refine l_M (st := [.int x]) X (c_X7_left l D C aM  ν _ hq) gw_L_96 ⟨rfl, hd_X7_left⟩ rfl rfl ⟨(Nat.le_of_ble_eq_true rfl), (Nat.le_of_ble_eq_true rfl)⟩ rfl rfl (Nat.le_of_ble_eq_true rfl) dL_law_744 (fun y ν' hq2 => ?_)
  exact b_icmp_eq (t := 1368) X.1 dL_law_747 (by decide) (fun _ => kk μ' ν' (hR _ _ hq2.2)) (fun c => absurd hq2.1 c)
theorem hd_X6_bestMesh : kD yX6_bestMesh 2 := by decide +kernel
theorem gw_L_97 : GoodIn kW (wsV RL 97 RX6 yX6_bestMesh (WS yX6_bestMesh cX6_bestMesh 6 (some .int))) := goodV m_m_L_97 m_i_X6_bestMesh m_x_X6_bestMesh m_n_X6 m_c_X6_bestMesh
theorem hd_X7_bestMesh : kD yX7_bestMesh 2 := by decide +kernel
theorem gw_L_100 : GoodIn kW (wsV RL 100 RX7 yX7_bestMesh (WS yX7_bestMesh cX7_bestMesh 6 (some .int))) := goodV m_m_L_100 m_i_X7_bestMesh m_x_X7_bestMesh m_n_X7 m_c_X7_bestMesh
set_option maxHeartbeats 4000000 in
set_option maxRecDepth 100000 in
theorem br_20 (X : LC D C aF aM K b L xs c0 s0) {i : Nat} (hi : i + 4 ≤ L) (hL : L ≤ 2048) (h : RelA μ ν) (kk : ∀ μ' ν', RelA μ' ν' → WL l D C aF aM K c0 s0 μ' ν' 1368 [(0, .ref b), (1, .ref (aF 0)), (2, .ref (aM 0)), (3, .int (nI i))] []) : WL l D C aF aM K c0 s0 μ ν 752 [(0, .ref b), (1, .ref (aF 0)), (2, .ref (aM 0)), (3, .int (nI i))] [] := by
  obtain ⟨R, hR, hw⟩ := PA_bestMesh (a := xs (i + 1)) (b := xs (i + 2)) (h := h)
  refine b_aload_n X.1 dL_law_752 rfl 1 rfl ?_
  refine l_arg X 1 (by decide) (by omega) hL dL_law_753 dL_law_754 dL_law_755 dL_law_756 dL_law_757 ?_
  refine l_arg X 2 (by decide) (by omega) hL dL_law_758 dL_law_759 dL_law_760 dL_law_761 dL_law_762 ?_
  refine l_F (st := []) X (c_X6_bestMesh l D C aF _ _ μ _ hw) gw_L_97 ⟨rfl, hd_X6_bestMesh⟩ rfl rfl ⟨(Nat.le_of_ble_eq_true rfl), (Nat.le_of_ble_eq_true rfl)⟩ rfl rfl (Nat.le_of_ble_eq_true rfl) dL_law_763 (fun x μ' hq => ?_)
  refine b_aload_n X.1 dL_law_766 rfl 2 rfl ?_
  refine l_arg X 1 (by decide) (by omega) hL dL_law_767 dL_law_768 dL_law_769 dL_law_770 dL_law_771 ?_
  refine l_arg X 2 (by decide) (by omega) hL dL_law_772 dL_law_773 dL_law_774 dL_law_775 dL_law_776 ?_
  refine l_M (st := [.int x]) X (c_X7_bestMesh l D C aM _ _ ν _ hq) gw_L_100 ⟨rfl, hd_X7_bestMesh⟩ rfl rfl ⟨(Nat.le_of_ble_eq_true rfl), (Nat.le_of_ble_eq_true rfl)⟩ rfl rfl (Nat.le_of_ble_eq_true rfl) dL_law_777 (fun y ν' hq2 => ?_)
  exact b_icmp_eq (t := 1368) X.1 dL_law_780 (by decide) (fun _ => kk μ' ν' (hR _ _ hq2.2)) (fun c => absurd hq2.1 c)
theorem hd_X6_bestCell : kD yX6_bestCell 2 := by decide +kernel
theorem gw_L_101 : GoodIn kW (wsV RL 101 RX6 yX6_bestCell (WS yX6_bestCell cX6_bestCell 6 (some .int))) := goodV m_m_L_101 m_i_X6_bestCell m_x_X6_bestCell m_n_X6 m_c_X6_bestCell
theorem hd_X7_bestCell : kD yX7_bestCell 2 := by decide +kernel
theorem gw_L_104 : GoodIn kW (wsV RL 104 RX7 yX7_bestCell (WS yX7_bestCell cX7_bestCell 7 (some .int))) := goodV m_m_L_104 m_i_X7_bestCell m_x_X7_bestCell m_n_X7 m_c_X7_bestCell
set_option maxHeartbeats 4000000 in
set_option maxRecDepth 100000 in
theorem br_21 (X : LC D C aF aM K b L xs c0 s0) {i : Nat} (hi : i + 4 ≤ L) (hL : L ≤ 2048) (h : RelA μ ν) (kk : ∀ μ' ν', RelA μ' ν' → WL l D C aF aM K c0 s0 μ' ν' 1368 [(0, .ref b), (1, .ref (aF 0)), (2, .ref (aM 0)), (3, .int (nI i))] []) : WL l D C aF aM K c0 s0 μ ν 785 [(0, .ref b), (1, .ref (aF 0)), (2, .ref (aM 0)), (3, .int (nI i))] [] := by
  obtain ⟨R, hR, hw⟩ := PA_bestCell (a := xs (i + 1)) (b := xs (i + 2)) (h := h)
  refine b_aload_n X.1 dL_law_785 rfl 1 rfl ?_
  refine l_arg X 1 (by decide) (by omega) hL dL_law_786 dL_law_787 dL_law_788 dL_law_789 dL_law_790 ?_
  refine l_arg X 2 (by decide) (by omega) hL dL_law_791 dL_law_792 dL_law_793 dL_law_794 dL_law_795 ?_
  refine l_F (st := []) X (c_X6_bestCell l D C aF _ _ μ _ hw) gw_L_101 ⟨rfl, hd_X6_bestCell⟩ rfl rfl ⟨(Nat.le_of_ble_eq_true rfl), (Nat.le_of_ble_eq_true rfl)⟩ rfl rfl (Nat.le_of_ble_eq_true rfl) dL_law_796 (fun x μ' hq => ?_)
  refine b_aload_n X.1 dL_law_799 rfl 2 rfl ?_
  refine l_arg X 1 (by decide) (by omega) hL dL_law_800 dL_law_801 dL_law_802 dL_law_803 dL_law_804 ?_
  refine l_arg X 2 (by decide) (by omega) hL dL_law_805 dL_law_806 dL_law_807 dL_law_808 dL_law_809 ?_
  refine l_M (st := [.int x]) X (c_X7_bestCell l D C aM _ _ ν _ hq) gw_L_104 ⟨rfl, hd_X7_bestCell⟩ rfl rfl ⟨(Nat.le_of_ble_eq_true rfl), (Nat.le_of_ble_eq_true rfl)⟩ rfl rfl (Nat.le_of_ble_eq_true rfl) dL_law_810 (fun y ν' hq2 => ?_)
  exact b_icmp_eq (t := 1368) X.1 dL_law_813 (by decide) (fun _ => kk μ' ν' (hR _ _ hq2.2)) (fun c => absurd hq2.1 c)
theorem hd_X6_bestTwo : kD yX6_bestTwo 3 := by decide +kernel
theorem gw_L_105 : GoodIn kW (wsV RL 105 RX6 yX6_bestTwo (WS yX6_bestTwo cX6_bestTwo 9 (some .int))) := goodV m_m_L_105 m_i_X6_bestTwo m_x_X6_bestTwo m_n_X6 m_c_X6_bestTwo
theorem hd_X7_bestTwo : kD yX7_bestTwo 3 := by decide +kernel
theorem gw_L_109 : GoodIn kW (wsV RL 109 RX7 yX7_bestTwo (WS yX7_bestTwo cX7_bestTwo 9 (some .int))) := goodV m_m_L_109 m_i_X7_bestTwo m_x_X7_bestTwo m_n_X7 m_c_X7_bestTwo
set_option maxHeartbeats 4000000 in
set_option maxRecDepth 100000 in
theorem br_22 (X : LC D C aF aM K b L xs c0 s0) {i : Nat} (hi : i + 4 ≤ L) (hL : L ≤ 2048) (h : RelA μ ν) (kk : ∀ μ' ν', RelA μ' ν' → WL l D C aF aM K c0 s0 μ' ν' 1368 [(0, .ref b), (1, .ref (aF 0)), (2, .ref (aM 0)), (3, .int (nI i))] []) : WL l D C aF aM K c0 s0 μ ν 818 [(0, .ref b), (1, .ref (aF 0)), (2, .ref (aM 0)), (3, .int (nI i))] [] := by
  obtain ⟨R, hR, hw⟩ := PA_bestTwo (a := xs (i + 1)) (b := xs (i + 2)) (c := xs (i + 3)) (h := h)
  refine b_aload_n X.1 dL_law_818 rfl 1 rfl ?_
  refine l_arg X 1 (by decide) (by omega) hL dL_law_819 dL_law_820 dL_law_821 dL_law_822 dL_law_823 ?_
  refine l_arg X 2 (by decide) (by omega) hL dL_law_824 dL_law_825 dL_law_826 dL_law_827 dL_law_828 ?_
  refine l_arg X 3 (by decide) (by omega) hL dL_law_829 dL_law_830 dL_law_831 dL_law_832 dL_law_833 ?_
  refine l_F (st := []) X (c_X6_bestTwo l D C aF _ _ _ μ _ hw) gw_L_105 ⟨rfl, hd_X6_bestTwo⟩ rfl rfl ⟨(Nat.le_of_ble_eq_true rfl), (Nat.le_of_ble_eq_true rfl)⟩ rfl rfl (Nat.le_of_ble_eq_true rfl) dL_law_834 (fun x μ' hq => ?_)
  refine b_aload_n X.1 dL_law_837 rfl 2 rfl ?_
  refine l_arg X 1 (by decide) (by omega) hL dL_law_838 dL_law_839 dL_law_840 dL_law_841 dL_law_842 ?_
  refine l_arg X 2 (by decide) (by omega) hL dL_law_843 dL_law_844 dL_law_845 dL_law_846 dL_law_847 ?_
  refine l_arg X 3 (by decide) (by omega) hL dL_law_848 dL_law_849 dL_law_850 dL_law_851 dL_law_852 ?_
  refine l_M (st := [.int x]) X (c_X7_bestTwo l D C aM _ _ _ ν _ hq) gw_L_109 ⟨rfl, hd_X7_bestTwo⟩ rfl rfl ⟨(Nat.le_of_ble_eq_true rfl), (Nat.le_of_ble_eq_true rfl)⟩ rfl rfl (Nat.le_of_ble_eq_true rfl) dL_law_853 (fun y ν' hq2 => ?_)
  exact b_icmp_eq (t := 1368) X.1 dL_law_856 (by decide) (fun _ => kk μ' ν' (hR _ _ hq2.2)) (fun c => absurd hq2.1 c)
theorem hd_X6_lampCosts : kD yX6_lampCosts 1 := by decide +kernel
theorem gw_L_110 : GoodIn kW (wsV RL 110 RX6 yX6_lampCosts (WS yX6_lampCosts cX6_lampCosts 3 (some .int))) := goodV m_m_L_110 m_i_X6_lampCosts m_x_X6_lampCosts m_n_X6 m_c_X6_lampCosts
theorem hd_X7_lampCosts : kD yX7_lampCosts 1 := by decide +kernel
theorem gw_L_113 : GoodIn kW (wsV RL 113 RX7 yX7_lampCosts (WS yX7_lampCosts cX7_lampCosts 3 (some .int))) := goodV m_m_L_113 m_i_X7_lampCosts m_x_X7_lampCosts m_n_X7 m_c_X7_lampCosts
set_option maxHeartbeats 4000000 in
set_option maxRecDepth 100000 in
theorem br_23 (X : LC D C aF aM K b L xs c0 s0) {i : Nat} (hi : i + 4 ≤ L) (hL : L ≤ 2048) (h : RelA μ ν) (kk : ∀ μ' ν', RelA μ' ν' → WL l D C aF aM K c0 s0 μ' ν' 1368 [(0, .ref b), (1, .ref (aF 0)), (2, .ref (aM 0)), (3, .int (nI i))] []) : WL l D C aF aM K c0 s0 μ ν 861 [(0, .ref b), (1, .ref (aF 0)), (2, .ref (aM 0)), (3, .int (nI i))] [] := by
  obtain ⟨R, hR, hw⟩ := PA_lampCosts (a := xs (i + 1)) (h := h)
  refine b_aload_n X.1 dL_law_861 rfl 1 rfl ?_
  refine l_arg X 1 (by decide) (by omega) hL dL_law_862 dL_law_863 dL_law_864 dL_law_865 dL_law_866 ?_
  refine l_F (st := []) X (c_X6_lampCosts l D C aF _ μ _ hw) gw_L_110 ⟨rfl, hd_X6_lampCosts⟩ rfl rfl ⟨(Nat.le_of_ble_eq_true rfl), (Nat.le_of_ble_eq_true rfl)⟩ rfl rfl (Nat.le_of_ble_eq_true rfl) dL_law_867 (fun x μ' hq => ?_)
  refine b_aload_n X.1 dL_law_870 rfl 2 rfl ?_
  refine l_arg X 1 (by decide) (by omega) hL dL_law_871 dL_law_872 dL_law_873 dL_law_874 dL_law_875 ?_
  refine l_M (st := [.int x]) X (c_X7_lampCosts l D C aM _ ν _ hq) gw_L_113 ⟨rfl, hd_X7_lampCosts⟩ rfl rfl ⟨(Nat.le_of_ble_eq_true rfl), (Nat.le_of_ble_eq_true rfl)⟩ rfl rfl (Nat.le_of_ble_eq_true rfl) dL_law_876 (fun y ν' hq2 => ?_)
  exact b_icmp_eq (t := 1368) X.1 dL_law_879 (by decide) (fun _ => kk μ' ν' (hR _ _ hq2.2)) (fun c => absurd hq2.1 c)
theorem hd_X6_thirsty : kD yX6_thirsty 1 := by decide +kernel
theorem gw_L_114 : GoodIn kW (wsV RL 114 RX6 yX6_thirsty (WS yX6_thirsty cX6_thirsty 4 (some .int))) := goodV m_m_L_114 m_i_X6_thirsty m_x_X6_thirsty m_n_X6 m_c_X6_thirsty
theorem hd_X7_thirsty : kD yX7_thirsty 1 := by decide +kernel
theorem gw_L_117 : GoodIn kW (wsV RL 117 RX7 yX7_thirsty (WS yX7_thirsty cX7_thirsty 4 (some .int))) := goodV m_m_L_117 m_i_X7_thirsty m_x_X7_thirsty m_n_X7 m_c_X7_thirsty
set_option maxHeartbeats 4000000 in
set_option maxRecDepth 100000 in
theorem br_24 (X : LC D C aF aM K b L xs c0 s0) {i : Nat} (hi : i + 4 ≤ L) (hL : L ≤ 2048) (h : RelA μ ν) (kk : ∀ μ' ν', RelA μ' ν' → WL l D C aF aM K c0 s0 μ' ν' 1368 [(0, .ref b), (1, .ref (aF 0)), (2, .ref (aM 0)), (3, .int (nI i))] []) : WL l D C aF aM K c0 s0 μ ν 884 [(0, .ref b), (1, .ref (aF 0)), (2, .ref (aM 0)), (3, .int (nI i))] [] := by
  obtain ⟨R, hR, hw⟩ := PA_thirsty (a := xs (i + 1)) (h := h)
  refine b_aload_n X.1 dL_law_884 rfl 1 rfl ?_
  refine l_arg X 1 (by decide) (by omega) hL dL_law_885 dL_law_886 dL_law_887 dL_law_888 dL_law_889 ?_
  refine l_F (st := []) X (c_X6_thirsty l D C aF _ μ _ hw) gw_L_114 ⟨rfl, hd_X6_thirsty⟩ rfl rfl ⟨(Nat.le_of_ble_eq_true rfl), (Nat.le_of_ble_eq_true rfl)⟩ rfl rfl (Nat.le_of_ble_eq_true rfl) dL_law_890 (fun x μ' hq => ?_)
  refine b_aload_n X.1 dL_law_893 rfl 2 rfl ?_
  refine l_arg X 1 (by decide) (by omega) hL dL_law_894 dL_law_895 dL_law_896 dL_law_897 dL_law_898 ?_
  refine l_M (st := [.int x]) X (c_X7_thirsty l D C aM _ ν _ hq) gw_L_117 ⟨rfl, hd_X7_thirsty⟩ rfl rfl ⟨(Nat.le_of_ble_eq_true rfl), (Nat.le_of_ble_eq_true rfl)⟩ rfl rfl (Nat.le_of_ble_eq_true rfl) dL_law_899 (fun y ν' hq2 => ?_)
  exact b_icmp_eq (t := 1368) X.1 dL_law_902 (by decide) (fun _ => kk μ' ν' (hR _ _ hq2.2)) (fun c => absurd hq2.1 c)
theorem hd_X6_lasts : kD yX6_lasts 1 := by decide +kernel
theorem gw_L_118 : GoodIn kW (wsV RL 118 RX6 yX6_lasts (WS yX6_lasts cX6_lasts 3 (some .int))) := goodV m_m_L_118 m_i_X6_lasts m_x_X6_lasts m_n_X6 m_c_X6_lasts
theorem hd_X7_lasts : kD yX7_lasts 1 := by decide +kernel
theorem gw_L_121 : GoodIn kW (wsV RL 121 RX7 yX7_lasts (WS yX7_lasts cX7_lasts 3 (some .int))) := goodV m_m_L_121 m_i_X7_lasts m_x_X7_lasts m_n_X7 m_c_X7_lasts
set_option maxHeartbeats 4000000 in
set_option maxRecDepth 100000 in
theorem br_25 (X : LC D C aF aM K b L xs c0 s0) {i : Nat} (hi : i + 4 ≤ L) (hL : L ≤ 2048) (h : RelA μ ν) (kk : ∀ μ' ν', RelA μ' ν' → WL l D C aF aM K c0 s0 μ' ν' 1368 [(0, .ref b), (1, .ref (aF 0)), (2, .ref (aM 0)), (3, .int (nI i))] []) : WL l D C aF aM K c0 s0 μ ν 907 [(0, .ref b), (1, .ref (aF 0)), (2, .ref (aM 0)), (3, .int (nI i))] [] := by
  have hw := PA_lasts (a := xs (i + 1)) (h := h)
  refine b_aload_n X.1 dL_law_907 rfl 1 rfl ?_
  refine l_arg X 1 (by decide) (by omega) hL dL_law_908 dL_law_909 dL_law_910 dL_law_911 dL_law_912 ?_
  refine l_F (st := []) X (c_X6_lasts l D C aF _ μ _ hw) gw_L_118 ⟨rfl, hd_X6_lasts⟩ rfl rfl ⟨(Nat.le_of_ble_eq_true rfl), (Nat.le_of_ble_eq_true rfl)⟩ rfl rfl (Nat.le_of_ble_eq_true rfl) dL_law_913 (fun x μ' hq => ?_)
  obtain ⟨rfl, hq⟩ := hq
  refine b_aload_n X.1 dL_law_916 rfl 2 rfl ?_
  refine l_arg X 1 (by decide) (by omega) hL dL_law_917 dL_law_918 dL_law_919 dL_law_920 dL_law_921 ?_
  refine l_M (st := [.int x]) X (c_X7_lasts l D C aM _ ν _ hq) gw_L_121 ⟨rfl, hd_X7_lasts⟩ rfl rfl ⟨(Nat.le_of_ble_eq_true rfl), (Nat.le_of_ble_eq_true rfl)⟩ rfl rfl (Nat.le_of_ble_eq_true rfl) dL_law_922 (fun y ν' hq2 => ?_)
  obtain ⟨rfl, hq2⟩ := hq2
  exact b_icmp_eq (t := 1368) X.1 dL_law_925 (by decide) (fun _ => kk _ _ h) (fun c => absurd hq2 c)
theorem hd_X6_both : kD yX6_both 0 := by decide +kernel
theorem gw_L_122 : GoodIn kW (wsV RL 122 RX6 yX6_both (WS yX6_both cX6_both 2 (some .int))) := goodV m_m_L_122 m_i_X6_both m_x_X6_both m_n_X6 m_c_X6_both
theorem hd_X7_both : kD yX7_both 0 := by decide +kernel
theorem gw_L_125 : GoodIn kW (wsV RL 125 RX7 yX7_both (WS yX7_both cX7_both 2 (some .int))) := goodV m_m_L_125 m_i_X7_both m_x_X7_both m_n_X7 m_c_X7_both
set_option maxHeartbeats 4000000 in
set_option maxRecDepth 100000 in
theorem br_26 (X : LC D C aF aM K b L xs c0 s0) {i : Nat} (hi : i + 4 ≤ L) (hL : L ≤ 2048) (h : RelA μ ν) (kk : ∀ μ' ν', RelA μ' ν' → WL l D C aF aM K c0 s0 μ' ν' 1368 [(0, .ref b), (1, .ref (aF 0)), (2, .ref (aM 0)), (3, .int (nI i))] []) : WL l D C aF aM K c0 s0 μ ν 930 [(0, .ref b), (1, .ref (aF 0)), (2, .ref (aM 0)), (3, .int (nI i))] [] := by
  have hw := PA_both (h := h)
  refine b_aload_n X.1 dL_law_930 rfl 1 rfl ?_
  refine l_F (st := []) X (c_X6_both l D C aF  μ _ hw) gw_L_122 ⟨rfl, hd_X6_both⟩ rfl rfl ⟨(Nat.le_of_ble_eq_true rfl), (Nat.le_of_ble_eq_true rfl)⟩ rfl rfl (Nat.le_of_ble_eq_true rfl) dL_law_931 (fun x μ' hq => ?_)
  obtain ⟨rfl, hq⟩ := hq
  refine b_aload_n X.1 dL_law_934 rfl 2 rfl ?_
  refine l_M (st := [.int x]) X (c_X7_both l D C aM  ν _ hq) gw_L_125 ⟨rfl, hd_X7_both⟩ rfl rfl ⟨(Nat.le_of_ble_eq_true rfl), (Nat.le_of_ble_eq_true rfl)⟩ rfl rfl (Nat.le_of_ble_eq_true rfl) dL_law_935 (fun y ν' hq2 => ?_)
  obtain ⟨rfl, hq2⟩ := hq2
  exact b_icmp_eq (t := 1368) X.1 dL_law_938 (by decide) (fun _ => kk _ _ h) (fun c => absurd hq2 c)
theorem hd_X6_apart : kD yX6_apart 1 := by decide +kernel
theorem gw_L_126 : GoodIn kW (wsV RL 126 RX6 yX6_apart (WS yX6_apart cX6_apart 4 (some .int))) := goodV m_m_L_126 m_i_X6_apart m_x_X6_apart m_n_X6 m_c_X6_apart
theorem hd_X7_apart : kD yX7_apart 1 := by decide +kernel
theorem gw_L_129 : GoodIn kW (wsV RL 129 RX7 yX7_apart (WS yX7_apart cX7_apart 5 (some .int))) := goodV m_m_L_129 m_i_X7_apart m_x_X7_apart m_n_X7 m_c_X7_apart
set_option maxHeartbeats 4000000 in
set_option maxRecDepth 100000 in
theorem br_27 (X : LC D C aF aM K b L xs c0 s0) {i : Nat} (hi : i + 4 ≤ L) (hL : L ≤ 2048) (h : RelA μ ν) (kk : ∀ μ' ν', RelA μ' ν' → WL l D C aF aM K c0 s0 μ' ν' 1368 [(0, .ref b), (1, .ref (aF 0)), (2, .ref (aM 0)), (3, .int (nI i))] []) : WL l D C aF aM K c0 s0 μ ν 943 [(0, .ref b), (1, .ref (aF 0)), (2, .ref (aM 0)), (3, .int (nI i))] [] := by
  have hw := PA_apart (a := xs (i + 1)) (h := h)
  refine b_aload_n X.1 dL_law_943 rfl 1 rfl ?_
  refine l_arg X 1 (by decide) (by omega) hL dL_law_944 dL_law_945 dL_law_946 dL_law_947 dL_law_948 ?_
  refine l_F (st := []) X (c_X6_apart l D C aF _ μ _ hw) gw_L_126 ⟨rfl, hd_X6_apart⟩ rfl rfl ⟨(Nat.le_of_ble_eq_true rfl), (Nat.le_of_ble_eq_true rfl)⟩ rfl rfl (Nat.le_of_ble_eq_true rfl) dL_law_949 (fun x μ' hq => ?_)
  obtain ⟨rfl, hq⟩ := hq
  refine b_aload_n X.1 dL_law_952 rfl 2 rfl ?_
  refine l_arg X 1 (by decide) (by omega) hL dL_law_953 dL_law_954 dL_law_955 dL_law_956 dL_law_957 ?_
  refine l_M (st := [.int x]) X (c_X7_apart l D C aM _ ν _ hq) gw_L_129 ⟨rfl, hd_X7_apart⟩ rfl rfl ⟨(Nat.le_of_ble_eq_true rfl), (Nat.le_of_ble_eq_true rfl)⟩ rfl rfl (Nat.le_of_ble_eq_true rfl) dL_law_958 (fun y ν' hq2 => ?_)
  obtain ⟨rfl, hq2⟩ := hq2
  exact b_icmp_eq (t := 1368) X.1 dL_law_961 (by decide) (fun _ => kk _ _ h) (fun c => absurd hq2 c)
theorem hd_X6_share : kD yX6_share 2 := by decide +kernel
theorem gw_L_130 : GoodIn kW (wsV RL 130 RX6 yX6_share (WS yX6_share cX6_share 8 (some .int))) := goodV m_m_L_130 m_i_X6_share m_x_X6_share m_n_X6 m_c_X6_share
theorem hd_X7_share : kD yX7_share 2 := by decide +kernel
theorem gw_L_133 : GoodIn kW (wsV RL 133 RX7 yX7_share (WS yX7_share cX7_share 5 (some .int))) := goodV m_m_L_133 m_i_X7_share m_x_X7_share m_n_X7 m_c_X7_share
set_option maxHeartbeats 4000000 in
set_option maxRecDepth 100000 in
theorem br_28 (X : LC D C aF aM K b L xs c0 s0) {i : Nat} (hi : i + 4 ≤ L) (hL : L ≤ 2048) (h : RelA μ ν) (kk : ∀ μ' ν', RelA μ' ν' → WL l D C aF aM K c0 s0 μ' ν' 1368 [(0, .ref b), (1, .ref (aF 0)), (2, .ref (aM 0)), (3, .int (nI i))] []) : WL l D C aF aM K c0 s0 μ ν 966 [(0, .ref b), (1, .ref (aF 0)), (2, .ref (aM 0)), (3, .int (nI i))] [] := by
  have hw := PA_share (a := xs (i + 1)) (b := xs (i + 2)) (h := h)
  refine b_aload_n X.1 dL_law_966 rfl 1 rfl ?_
  refine l_arg X 1 (by decide) (by omega) hL dL_law_967 dL_law_968 dL_law_969 dL_law_970 dL_law_971 ?_
  refine l_arg X 2 (by decide) (by omega) hL dL_law_972 dL_law_973 dL_law_974 dL_law_975 dL_law_976 ?_
  refine l_F (st := []) X (c_X6_share l D C aF _ _ μ _ hw) gw_L_130 ⟨rfl, hd_X6_share⟩ rfl rfl ⟨(Nat.le_of_ble_eq_true rfl), (Nat.le_of_ble_eq_true rfl)⟩ rfl rfl (Nat.le_of_ble_eq_true rfl) dL_law_977 (fun x μ' hq => ?_)
  obtain ⟨rfl, hq⟩ := hq
  refine b_aload_n X.1 dL_law_980 rfl 2 rfl ?_
  refine l_arg X 1 (by decide) (by omega) hL dL_law_981 dL_law_982 dL_law_983 dL_law_984 dL_law_985 ?_
  refine l_arg X 2 (by decide) (by omega) hL dL_law_986 dL_law_987 dL_law_988 dL_law_989 dL_law_990 ?_
  refine l_M (st := [.int x]) X (c_X7_share l D C aM _ _ ν _ hq) gw_L_133 ⟨rfl, hd_X7_share⟩ rfl rfl ⟨(Nat.le_of_ble_eq_true rfl), (Nat.le_of_ble_eq_true rfl)⟩ rfl rfl (Nat.le_of_ble_eq_true rfl) dL_law_991 (fun y ν' hq2 => ?_)
  obtain ⟨rfl, hq2⟩ := hq2
  exact b_icmp_eq (t := 1368) X.1 dL_law_994 (by decide) (fun _ => kk _ _ h) (fun c => absurd hq2 c)
theorem hd_X6_led : kD yX6_led 3 := by decide +kernel
theorem gw_L_134 : GoodIn kW (wsV RL 134 RX6 yX6_led (WS yX6_led cX6_led 4 (some .int))) := goodV m_m_L_134 m_i_X6_led m_x_X6_led m_n_X6 m_c_X6_led
theorem hd_X7_led : kD yX7_led 3 := by decide +kernel
theorem gw_L_137 : GoodIn kW (wsV RL 137 RX7 yX7_led (WS yX7_led cX7_led 8 (some .int))) := goodV m_m_L_137 m_i_X7_led m_x_X7_led m_n_X7 m_c_X7_led
set_option maxHeartbeats 4000000 in
set_option maxRecDepth 100000 in
theorem br_29 (X : LC D C aF aM K b L xs c0 s0) {i : Nat} (hi : i + 4 ≤ L) (hL : L ≤ 2048) (h : RelA μ ν) (kk : ∀ μ' ν', RelA μ' ν' → WL l D C aF aM K c0 s0 μ' ν' 1368 [(0, .ref b), (1, .ref (aF 0)), (2, .ref (aM 0)), (3, .int (nI i))] []) : WL l D C aF aM K c0 s0 μ ν 999 [(0, .ref b), (1, .ref (aF 0)), (2, .ref (aM 0)), (3, .int (nI i))] [] := by
  obtain ⟨R, hR, hw⟩ := PA_led (a := xs (i + 1)) (b := xs (i + 2)) (c := xs (i + 3)) (h := h)
  refine b_aload_n X.1 dL_law_999 rfl 1 rfl ?_
  refine l_arg X 1 (by decide) (by omega) hL dL_law_1000 dL_law_1001 dL_law_1002 dL_law_1003 dL_law_1004 ?_
  refine l_arg X 2 (by decide) (by omega) hL dL_law_1005 dL_law_1006 dL_law_1007 dL_law_1008 dL_law_1009 ?_
  refine l_arg X 3 (by decide) (by omega) hL dL_law_1010 dL_law_1011 dL_law_1012 dL_law_1013 dL_law_1014 ?_
  refine l_F (st := []) X (c_X6_led l D C aF _ _ _ μ _ hw) gw_L_134 ⟨rfl, hd_X6_led⟩ rfl rfl ⟨(Nat.le_of_ble_eq_true rfl), (Nat.le_of_ble_eq_true rfl)⟩ rfl rfl (Nat.le_of_ble_eq_true rfl) dL_law_1015 (fun x μ' hq => ?_)
  refine b_aload_n X.1 dL_law_1018 rfl 2 rfl ?_
  refine l_arg X 1 (by decide) (by omega) hL dL_law_1019 dL_law_1020 dL_law_1021 dL_law_1022 dL_law_1023 ?_
  refine l_arg X 2 (by decide) (by omega) hL dL_law_1024 dL_law_1025 dL_law_1026 dL_law_1027 dL_law_1028 ?_
  refine l_arg X 3 (by decide) (by omega) hL dL_law_1029 dL_law_1030 dL_law_1031 dL_law_1032 dL_law_1033 ?_
  refine l_M (st := [.int x]) X (c_X7_led l D C aM _ _ _ ν _ hq) gw_L_137 ⟨rfl, hd_X7_led⟩ rfl rfl ⟨(Nat.le_of_ble_eq_true rfl), (Nat.le_of_ble_eq_true rfl)⟩ rfl rfl (Nat.le_of_ble_eq_true rfl) dL_law_1034 (fun y ν' hq2 => ?_)
  exact b_icmp_eq (t := 1368) X.1 dL_law_1037 (by decide) (fun _ => kk μ' ν' (hR _ _ hq2.2)) (fun c => absurd hq2.1 c)
theorem hd_X6_yards : kD yX6_yards 2 := by decide +kernel
theorem gw_L_138 : GoodIn kW (wsV RL 138 RX6 yX6_yards (WS yX6_yards cX6_yards 9 (some .int))) := goodV m_m_L_138 m_i_X6_yards m_x_X6_yards m_n_X6 m_c_X6_yards
theorem hd_X7_yards : kD yX7_yards 2 := by decide +kernel
theorem gw_L_141 : GoodIn kW (wsV RL 141 RX7 yX7_yards (WS yX7_yards cX7_yards 9 (some .int))) := goodV m_m_L_141 m_i_X7_yards m_x_X7_yards m_n_X7 m_c_X7_yards
set_option maxHeartbeats 4000000 in
set_option maxRecDepth 100000 in
theorem br_30 (X : LC D C aF aM K b L xs c0 s0) {i : Nat} (hi : i + 4 ≤ L) (hL : L ≤ 2048) (h : RelA μ ν) (kk : ∀ μ' ν', RelA μ' ν' → WL l D C aF aM K c0 s0 μ' ν' 1368 [(0, .ref b), (1, .ref (aF 0)), (2, .ref (aM 0)), (3, .int (nI i))] []) : WL l D C aF aM K c0 s0 μ ν 1042 [(0, .ref b), (1, .ref (aF 0)), (2, .ref (aM 0)), (3, .int (nI i))] [] := by
  have hw := PA_yards (a := xs (i + 1)) (b := xs (i + 2)) (h := h)
  refine b_aload_n X.1 dL_law_1042 rfl 1 rfl ?_
  refine l_arg X 1 (by decide) (by omega) hL dL_law_1043 dL_law_1044 dL_law_1045 dL_law_1046 dL_law_1047 ?_
  refine l_arg X 2 (by decide) (by omega) hL dL_law_1048 dL_law_1049 dL_law_1050 dL_law_1051 dL_law_1052 ?_
  refine l_F (st := []) X (c_X6_yards l D C aF _ _ μ _ hw) gw_L_138 ⟨rfl, hd_X6_yards⟩ rfl rfl ⟨(Nat.le_of_ble_eq_true rfl), (Nat.le_of_ble_eq_true rfl)⟩ rfl rfl (Nat.le_of_ble_eq_true rfl) dL_law_1053 (fun x μ' hq => ?_)
  obtain ⟨rfl, hq⟩ := hq
  refine b_aload_n X.1 dL_law_1056 rfl 2 rfl ?_
  refine l_arg X 1 (by decide) (by omega) hL dL_law_1057 dL_law_1058 dL_law_1059 dL_law_1060 dL_law_1061 ?_
  refine l_arg X 2 (by decide) (by omega) hL dL_law_1062 dL_law_1063 dL_law_1064 dL_law_1065 dL_law_1066 ?_
  refine l_M (st := [.int x]) X (c_X7_yards l D C aM _ _ ν _ hq) gw_L_141 ⟨rfl, hd_X7_yards⟩ rfl rfl ⟨(Nat.le_of_ble_eq_true rfl), (Nat.le_of_ble_eq_true rfl)⟩ rfl rfl (Nat.le_of_ble_eq_true rfl) dL_law_1067 (fun y ν' hq2 => ?_)
  obtain ⟨rfl, hq2⟩ := hq2
  exact b_icmp_eq (t := 1368) X.1 dL_law_1070 (by decide) (fun _ => kk _ _ h) (fun c => absurd hq2 c)
theorem hd_X6_clear : kD yX6_clear 2 := by decide +kernel
theorem gw_L_142 : GoodIn kW (wsV RL 142 RX6 yX6_clear (WS yX6_clear cX6_clear 6 (some .int))) := goodV m_m_L_142 m_i_X6_clear m_x_X6_clear m_n_X6 m_c_X6_clear
theorem hd_X7_clear : kD yX7_clear 2 := by decide +kernel
theorem gw_L_145 : GoodIn kW (wsV RL 145 RX7 yX7_clear (WS yX7_clear cX7_clear 6 (some .int))) := goodV m_m_L_145 m_i_X7_clear m_x_X7_clear m_n_X7 m_c_X7_clear
set_option maxHeartbeats 4000000 in
set_option maxRecDepth 100000 in
theorem br_31 (X : LC D C aF aM K b L xs c0 s0) {i : Nat} (hi : i + 4 ≤ L) (hL : L ≤ 2048) (h : RelA μ ν) (kk : ∀ μ' ν', RelA μ' ν' → WL l D C aF aM K c0 s0 μ' ν' 1368 [(0, .ref b), (1, .ref (aF 0)), (2, .ref (aM 0)), (3, .int (nI i))] []) : WL l D C aF aM K c0 s0 μ ν 1075 [(0, .ref b), (1, .ref (aF 0)), (2, .ref (aM 0)), (3, .int (nI i))] [] := by
  have hw := PA_clear (a := xs (i + 1)) (b := xs (i + 2)) (h := h)
  refine b_aload_n X.1 dL_law_1075 rfl 1 rfl ?_
  refine l_arg X 1 (by decide) (by omega) hL dL_law_1076 dL_law_1077 dL_law_1078 dL_law_1079 dL_law_1080 ?_
  refine l_arg X 2 (by decide) (by omega) hL dL_law_1081 dL_law_1082 dL_law_1083 dL_law_1084 dL_law_1085 ?_
  refine l_F (st := []) X (c_X6_clear l D C aF _ _ μ _ hw) gw_L_142 ⟨rfl, hd_X6_clear⟩ rfl rfl ⟨(Nat.le_of_ble_eq_true rfl), (Nat.le_of_ble_eq_true rfl)⟩ rfl rfl (Nat.le_of_ble_eq_true rfl) dL_law_1086 (fun x μ' hq => ?_)
  obtain ⟨rfl, hq⟩ := hq
  refine b_aload_n X.1 dL_law_1089 rfl 2 rfl ?_
  refine l_arg X 1 (by decide) (by omega) hL dL_law_1090 dL_law_1091 dL_law_1092 dL_law_1093 dL_law_1094 ?_
  refine l_arg X 2 (by decide) (by omega) hL dL_law_1095 dL_law_1096 dL_law_1097 dL_law_1098 dL_law_1099 ?_
  refine l_M (st := [.int x]) X (c_X7_clear l D C aM _ _ ν _ hq) gw_L_145 ⟨rfl, hd_X7_clear⟩ rfl rfl ⟨(Nat.le_of_ble_eq_true rfl), (Nat.le_of_ble_eq_true rfl)⟩ rfl rfl (Nat.le_of_ble_eq_true rfl) dL_law_1100 (fun y ν' hq2 => ?_)
  obtain ⟨rfl, hq2⟩ := hq2
  exact b_icmp_eq (t := 1368) X.1 dL_law_1103 (by decide) (fun _ => kk _ _ h) (fun c => absurd hq2 c)
theorem hd_X6_got : kD yX6_got 3 := by decide +kernel
theorem gw_L_146 : GoodIn kW (wsV RL 146 RX6 yX6_got (WS yX6_got cX6_got 4 (some .int))) := goodV m_m_L_146 m_i_X6_got m_x_X6_got m_n_X6 m_c_X6_got
theorem hd_X7_got : kD yX7_got 3 := by decide +kernel
theorem gw_L_149 : GoodIn kW (wsV RL 149 RX7 yX7_got (WS yX7_got cX7_got 4 (some .int))) := goodV m_m_L_149 m_i_X7_got m_x_X7_got m_n_X7 m_c_X7_got
set_option maxHeartbeats 4000000 in
set_option maxRecDepth 100000 in
theorem br_32 (X : LC D C aF aM K b L xs c0 s0) {i : Nat} (hi : i + 4 ≤ L) (hL : L ≤ 2048) (h : RelA μ ν) (kk : ∀ μ' ν', RelA μ' ν' → WL l D C aF aM K c0 s0 μ' ν' 1368 [(0, .ref b), (1, .ref (aF 0)), (2, .ref (aM 0)), (3, .int (nI i))] []) : WL l D C aF aM K c0 s0 μ ν 1108 [(0, .ref b), (1, .ref (aF 0)), (2, .ref (aM 0)), (3, .int (nI i))] [] := by
  obtain ⟨R, hR, hw⟩ := PA_got (a := xs (i + 1)) (b := xs (i + 2)) (c := xs (i + 3)) (h := h)
  refine b_aload_n X.1 dL_law_1108 rfl 1 rfl ?_
  refine l_arg X 1 (by decide) (by omega) hL dL_law_1109 dL_law_1110 dL_law_1111 dL_law_1112 dL_law_1113 ?_
  refine l_arg X 2 (by decide) (by omega) hL dL_law_1114 dL_law_1115 dL_law_1116 dL_law_1117 dL_law_1118 ?_
  refine l_arg X 3 (by decide) (by omega) hL dL_law_1119 dL_law_1120 dL_law_1121 dL_law_1122 dL_law_1123 ?_
  refine l_F (st := []) X (c_X6_got l D C aF _ _ _ μ _ hw) gw_L_146 ⟨rfl, hd_X6_got⟩ rfl rfl ⟨(Nat.le_of_ble_eq_true rfl), (Nat.le_of_ble_eq_true rfl)⟩ rfl rfl (Nat.le_of_ble_eq_true rfl) dL_law_1124 (fun x μ' hq => ?_)
  refine b_aload_n X.1 dL_law_1127 rfl 2 rfl ?_
  refine l_arg X 1 (by decide) (by omega) hL dL_law_1128 dL_law_1129 dL_law_1130 dL_law_1131 dL_law_1132 ?_
  refine l_arg X 2 (by decide) (by omega) hL dL_law_1133 dL_law_1134 dL_law_1135 dL_law_1136 dL_law_1137 ?_
  refine l_arg X 3 (by decide) (by omega) hL dL_law_1138 dL_law_1139 dL_law_1140 dL_law_1141 dL_law_1142 ?_
  refine l_M (st := [.int x]) X (c_X7_got l D C aM _ _ _ ν _ hq) gw_L_149 ⟨rfl, hd_X7_got⟩ rfl rfl ⟨(Nat.le_of_ble_eq_true rfl), (Nat.le_of_ble_eq_true rfl)⟩ rfl rfl (Nat.le_of_ble_eq_true rfl) dL_law_1143 (fun y ν' hq2 => ?_)
  exact b_icmp_eq (t := 1368) X.1 dL_law_1146 (by decide) (fun _ => kk μ' ν' (hR _ _ hq2.2)) (fun c => absurd hq2.1 c)
theorem hd_X6_thick : kD yX6_thick 1 := by decide +kernel
theorem gw_L_150 : GoodIn kW (wsV RL 150 RX6 yX6_thick (WS yX6_thick cX6_thick 7 (some .int))) := goodV m_m_L_150 m_i_X6_thick m_x_X6_thick m_n_X6 m_c_X6_thick
theorem gw_L_153 : GoodIn kW (wsV RL 153 RX7 yX7_thick (WS yX7_thick cX7_thick 7 (some .int))) := goodV m_m_L_153 m_i_X7_thick m_x_X7_thick m_n_X7 m_c_X7_thick
set_option maxHeartbeats 4000000 in
set_option maxRecDepth 100000 in
theorem br_33 (X : LC D C aF aM K b L xs c0 s0) {i : Nat} (hi : i + 4 ≤ L) (hL : L ≤ 2048) (h : RelA μ ν) (kk : ∀ μ' ν', RelA μ' ν' → WL l D C aF aM K c0 s0 μ' ν' 1368 [(0, .ref b), (1, .ref (aF 0)), (2, .ref (aM 0)), (3, .int (nI i))] []) : WL l D C aF aM K c0 s0 μ ν 1151 [(0, .ref b), (1, .ref (aF 0)), (2, .ref (aM 0)), (3, .int (nI i))] [] := by
  obtain ⟨R, hR, hw⟩ := PA_thick (a := xs (i + 1)) (h := h)
  refine b_aload_n X.1 dL_law_1151 rfl 1 rfl ?_
  refine l_arg X 1 (by decide) (by omega) hL dL_law_1152 dL_law_1153 dL_law_1154 dL_law_1155 dL_law_1156 ?_
  refine l_F (st := []) X (c_X6_thick l D C aF _ μ _ hw) gw_L_150 ⟨rfl, hd_X6_thick⟩ rfl rfl ⟨(Nat.le_of_ble_eq_true rfl), (Nat.le_of_ble_eq_true rfl)⟩ rfl rfl (Nat.le_of_ble_eq_true rfl) dL_law_1157 (fun x μ' hq => ?_)
  refine b_aload_n X.1 dL_law_1160 rfl 2 rfl ?_
  refine l_arg X 1 (by decide) (by omega) hL dL_law_1161 dL_law_1162 dL_law_1163 dL_law_1164 dL_law_1165 ?_
  refine l_M (st := [.int x]) X (c_X7_thick l D C aM _ ν _ hq) gw_L_153 ⟨rfl, hd_X7_thick⟩ rfl rfl ⟨(Nat.le_of_ble_eq_true rfl), (Nat.le_of_ble_eq_true rfl)⟩ rfl rfl (Nat.le_of_ble_eq_true rfl) dL_law_1166 (fun y ν' hq2 => ?_)
  exact b_icmp_eq (t := 1368) X.1 dL_law_1169 (by decide) (fun _ => kk μ' ν' (hR _ _ hq2.2)) (fun c => absurd hq2.1 c)
theorem hd_X6_lookAt : kD yX6_lookAt 1 := by decide +kernel
theorem gw_L_154 : GoodIn kW (wsV RL 154 RX6 yX6_lookAt (WS yX6_lookAt cX6_lookAt 8 (some .int))) := goodV m_m_L_154 m_i_X6_lookAt m_x_X6_lookAt m_n_X6 m_c_X6_lookAt
theorem hd_X7_lookAt : kD yX7_lookAt 1 := by decide +kernel
theorem gw_L_157 : GoodIn kW (wsV RL 157 RX7 yX7_lookAt (WS yX7_lookAt cX7_lookAt 7 (some .int))) := goodV m_m_L_157 m_i_X7_lookAt m_x_X7_lookAt m_n_X7 m_c_X7_lookAt
set_option maxHeartbeats 4000000 in
set_option maxRecDepth 100000 in
theorem br_34 (X : LC D C aF aM K b L xs c0 s0) {i : Nat} (hi : i + 4 ≤ L) (hL : L ≤ 2048) (h : RelA μ ν) (kk : ∀ μ' ν', RelA μ' ν' → WL l D C aF aM K c0 s0 μ' ν' 1368 [(0, .ref b), (1, .ref (aF 0)), (2, .ref (aM 0)), (3, .int (nI i))] []) : WL l D C aF aM K c0 s0 μ ν 1174 [(0, .ref b), (1, .ref (aF 0)), (2, .ref (aM 0)), (3, .int (nI i))] [] := by
  obtain ⟨R, hR, hw⟩ := PA_lookAt (a := xs (i + 1)) (h := h)
  refine b_aload_n X.1 dL_law_1174 rfl 1 rfl ?_
  refine l_arg X 1 (by decide) (by omega) hL dL_law_1175 dL_law_1176 dL_law_1177 dL_law_1178 dL_law_1179 ?_
  refine l_F (st := []) X (c_X6_lookAt l D C aF _ μ _ hw) gw_L_154 ⟨rfl, hd_X6_lookAt⟩ rfl rfl ⟨(Nat.le_of_ble_eq_true rfl), (Nat.le_of_ble_eq_true rfl)⟩ rfl rfl (Nat.le_of_ble_eq_true rfl) dL_law_1180 (fun x μ' hq => ?_)
  refine b_aload_n X.1 dL_law_1183 rfl 2 rfl ?_
  refine l_arg X 1 (by decide) (by omega) hL dL_law_1184 dL_law_1185 dL_law_1186 dL_law_1187 dL_law_1188 ?_
  refine l_M (st := [.int x]) X (c_X7_lookAt l D C aM _ ν _ hq) gw_L_157 ⟨rfl, hd_X7_lookAt⟩ rfl rfl ⟨(Nat.le_of_ble_eq_true rfl), (Nat.le_of_ble_eq_true rfl)⟩ rfl rfl (Nat.le_of_ble_eq_true rfl) dL_law_1189 (fun y ν' hq2 => ?_)
  exact b_icmp_eq (t := 1368) X.1 dL_law_1192 (by decide) (fun _ => kk μ' ν' (hR _ _ hq2.2)) (fun c => absurd hq2.1 c)
theorem hd_X6_needs : kD yX6_needs 3 := by decide +kernel
theorem gw_L_158 : GoodIn kW (wsV RL 158 RX6 yX6_needs (WS yX6_needs cX6_needs 5 (some .int))) := goodV m_m_L_158 m_i_X6_needs m_x_X6_needs m_n_X6 m_c_X6_needs
theorem hd_X7_needs : kD yX7_needs 3 := by decide +kernel
theorem gw_L_161 : GoodIn kW (wsV RL 161 RX7 yX7_needs (WS yX7_needs cX7_needs 5 (some .int))) := goodV m_m_L_161 m_i_X7_needs m_x_X7_needs m_n_X7 m_c_X7_needs
set_option maxHeartbeats 4000000 in
set_option maxRecDepth 100000 in
theorem br_35 (X : LC D C aF aM K b L xs c0 s0) {i : Nat} (hi : i + 4 ≤ L) (hL : L ≤ 2048) (h : RelA μ ν) (kk : ∀ μ' ν', RelA μ' ν' → WL l D C aF aM K c0 s0 μ' ν' 1368 [(0, .ref b), (1, .ref (aF 0)), (2, .ref (aM 0)), (3, .int (nI i))] []) : WL l D C aF aM K c0 s0 μ ν 1197 [(0, .ref b), (1, .ref (aF 0)), (2, .ref (aM 0)), (3, .int (nI i))] [] := by
  obtain ⟨R, hR, hw⟩ := PA_needs (a := xs (i + 1)) (b := xs (i + 2)) (c := xs (i + 3)) (h := h)
  refine b_aload_n X.1 dL_law_1197 rfl 1 rfl ?_
  refine l_arg X 1 (by decide) (by omega) hL dL_law_1198 dL_law_1199 dL_law_1200 dL_law_1201 dL_law_1202 ?_
  refine l_arg X 2 (by decide) (by omega) hL dL_law_1203 dL_law_1204 dL_law_1205 dL_law_1206 dL_law_1207 ?_
  refine l_arg X 3 (by decide) (by omega) hL dL_law_1208 dL_law_1209 dL_law_1210 dL_law_1211 dL_law_1212 ?_
  refine l_F (st := []) X (c_X6_needs l D C aF _ _ _ μ _ hw) gw_L_158 ⟨rfl, hd_X6_needs⟩ rfl rfl ⟨(Nat.le_of_ble_eq_true rfl), (Nat.le_of_ble_eq_true rfl)⟩ rfl rfl (Nat.le_of_ble_eq_true rfl) dL_law_1213 (fun x μ' hq => ?_)
  refine b_aload_n X.1 dL_law_1216 rfl 2 rfl ?_
  refine l_arg X 1 (by decide) (by omega) hL dL_law_1217 dL_law_1218 dL_law_1219 dL_law_1220 dL_law_1221 ?_
  refine l_arg X 2 (by decide) (by omega) hL dL_law_1222 dL_law_1223 dL_law_1224 dL_law_1225 dL_law_1226 ?_
  refine l_arg X 3 (by decide) (by omega) hL dL_law_1227 dL_law_1228 dL_law_1229 dL_law_1230 dL_law_1231 ?_
  refine l_M (st := [.int x]) X (c_X7_needs l D C aM _ _ _ ν _ hq) gw_L_161 ⟨rfl, hd_X7_needs⟩ rfl rfl ⟨(Nat.le_of_ble_eq_true rfl), (Nat.le_of_ble_eq_true rfl)⟩ rfl rfl (Nat.le_of_ble_eq_true rfl) dL_law_1232 (fun y ν' hq2 => ?_)
  exact b_icmp_eq (t := 1368) X.1 dL_law_1235 (by decide) (fun _ => kk μ' ν' (hR _ _ hq2.2)) (fun c => absurd hq2.1 c)
theorem hd_X6_write : kD yX6_write 2 := by decide +kernel
theorem gw_L_162 : GoodIn kW (wsV RL 162 RX6 yX6_write (WS yX6_write cX6_write 3 (some .int))) := goodV m_m_L_162 m_i_X6_write m_x_X6_write m_n_X6 m_c_X6_write
theorem hd_X7_write : kD yX7_write 2 := by decide +kernel
theorem gw_L_165 : GoodIn kW (wsV RL 165 RX7 yX7_write (WS yX7_write cX7_write 3 (some .int))) := goodV m_m_L_165 m_i_X7_write m_x_X7_write m_n_X7 m_c_X7_write
set_option maxHeartbeats 4000000 in
set_option maxRecDepth 100000 in
theorem br_36 (X : LC D C aF aM K b L xs c0 s0) {i : Nat} (hi : i + 4 ≤ L) (hL : L ≤ 2048) (h : RelA μ ν) (kk : ∀ μ' ν', RelA μ' ν' → WL l D C aF aM K c0 s0 μ' ν' 1368 [(0, .ref b), (1, .ref (aF 0)), (2, .ref (aM 0)), (3, .int (nI i))] []) : WL l D C aF aM K c0 s0 μ ν 1240 [(0, .ref b), (1, .ref (aF 0)), (2, .ref (aM 0)), (3, .int (nI i))] [] := by
  obtain ⟨R, hR, hw⟩ := PA_write (a := xs (i + 1)) (b := xs (i + 2)) (h := h)
  refine b_aload_n X.1 dL_law_1240 rfl 1 rfl ?_
  refine l_arg X 1 (by decide) (by omega) hL dL_law_1241 dL_law_1242 dL_law_1243 dL_law_1244 dL_law_1245 ?_
  refine l_arg X 2 (by decide) (by omega) hL dL_law_1246 dL_law_1247 dL_law_1248 dL_law_1249 dL_law_1250 ?_
  refine l_F (st := []) X (c_X6_write l D C aF _ _ μ _ hw) gw_L_162 ⟨rfl, hd_X6_write⟩ rfl rfl ⟨(Nat.le_of_ble_eq_true rfl), (Nat.le_of_ble_eq_true rfl)⟩ rfl rfl (Nat.le_of_ble_eq_true rfl) dL_law_1251 (fun x μ' hq => ?_)
  refine b_aload_n X.1 dL_law_1254 rfl 2 rfl ?_
  refine l_arg X 1 (by decide) (by omega) hL dL_law_1255 dL_law_1256 dL_law_1257 dL_law_1258 dL_law_1259 ?_
  refine l_arg X 2 (by decide) (by omega) hL dL_law_1260 dL_law_1261 dL_law_1262 dL_law_1263 dL_law_1264 ?_
  refine l_M (st := [.int x]) X (c_X7_write l D C aM _ _ ν _ hq) gw_L_165 ⟨rfl, hd_X7_write⟩ rfl rfl ⟨(Nat.le_of_ble_eq_true rfl), (Nat.le_of_ble_eq_true rfl)⟩ rfl rfl (Nat.le_of_ble_eq_true rfl) dL_law_1265 (fun y ν' hq2 => ?_)
  exact b_icmp_eq (t := 1368) X.1 dL_law_1268 (by decide) (fun _ => kk μ' ν' (hR _ _ hq2.2)) (fun c => absurd hq2.1 c)
theorem hd_X6_judge : kD yX6_judge 0 := by decide +kernel
theorem gw_L_166 : GoodIn kW (wsV RL 166 RX6 yX6_judge (WS yX6_judge cX6_judge 2 (some .int))) := goodV m_m_L_166 m_i_X6_judge m_x_X6_judge m_n_X6 m_c_X6_judge
theorem hd_X7_judge : kD yX7_judge 0 := by decide +kernel
theorem gw_L_169 : GoodIn kW (wsV RL 169 RX7 yX7_judge (WS yX7_judge cX7_judge 3 (some .int))) := goodV m_m_L_169 m_i_X7_judge m_x_X7_judge m_n_X7 m_c_X7_judge
set_option maxHeartbeats 4000000 in
set_option maxRecDepth 100000 in
theorem br_37 (X : LC D C aF aM K b L xs c0 s0) {i : Nat} (hi : i + 4 ≤ L) (hL : L ≤ 2048) (h : RelA μ ν) (kk : ∀ μ' ν', RelA μ' ν' → WL l D C aF aM K c0 s0 μ' ν' 1368 [(0, .ref b), (1, .ref (aF 0)), (2, .ref (aM 0)), (3, .int (nI i))] []) : WL l D C aF aM K c0 s0 μ ν 1273 [(0, .ref b), (1, .ref (aF 0)), (2, .ref (aM 0)), (3, .int (nI i))] [] := by
  have hw := PA_judge (h := h)
  refine b_aload_n X.1 dL_law_1273 rfl 1 rfl ?_
  refine l_F (st := []) X (c_X6_judge l D C aF  μ _ hw) gw_L_166 ⟨rfl, hd_X6_judge⟩ rfl rfl ⟨(Nat.le_of_ble_eq_true rfl), (Nat.le_of_ble_eq_true rfl)⟩ rfl rfl (Nat.le_of_ble_eq_true rfl) dL_law_1274 (fun x μ' hq => ?_)
  obtain ⟨rfl, hq⟩ := hq
  refine b_aload_n X.1 dL_law_1277 rfl 2 rfl ?_
  refine l_M (st := [.int x]) X (c_X7_judge l D C aM  ν _ hq) gw_L_169 ⟨rfl, hd_X7_judge⟩ rfl rfl ⟨(Nat.le_of_ble_eq_true rfl), (Nat.le_of_ble_eq_true rfl)⟩ rfl rfl (Nat.le_of_ble_eq_true rfl) dL_law_1278 (fun y ν' hq2 => ?_)
  obtain ⟨rfl, hq2⟩ := hq2
  exact b_icmp_eq (t := 1368) X.1 dL_law_1281 (by decide) (fun _ => kk _ _ h) (fun c => absurd hq2 c)
theorem hd_X6_tear : kD yX6_tear 0 := by decide +kernel
theorem gw_L_170 : GoodIn kW (wsV RL 170 RX6 yX6_tear (WS yX6_tear cX6_tear 2 (some .int))) := goodV m_m_L_170 m_i_X6_tear m_x_X6_tear m_n_X6 m_c_X6_tear
theorem hd_X7_tear : kD yX7_tear 0 := by decide +kernel
theorem gw_L_173 : GoodIn kW (wsV RL 173 RX7 yX7_tear (WS yX7_tear cX7_tear 2 (some .int))) := goodV m_m_L_173 m_i_X7_tear m_x_X7_tear m_n_X7 m_c_X7_tear
set_option maxHeartbeats 4000000 in
set_option maxRecDepth 100000 in
theorem br_38 (X : LC D C aF aM K b L xs c0 s0) {i : Nat} (hi : i + 4 ≤ L) (hL : L ≤ 2048) (h : RelA μ ν) (kk : ∀ μ' ν', RelA μ' ν' → WL l D C aF aM K c0 s0 μ' ν' 1368 [(0, .ref b), (1, .ref (aF 0)), (2, .ref (aM 0)), (3, .int (nI i))] []) : WL l D C aF aM K c0 s0 μ ν 1286 [(0, .ref b), (1, .ref (aF 0)), (2, .ref (aM 0)), (3, .int (nI i))] [] := by
  obtain ⟨R, hR, hw⟩ := PA_tear (h := h)
  refine b_aload_n X.1 dL_law_1286 rfl 1 rfl ?_
  refine l_F (st := []) X (c_X6_tear l D C aF  μ _ hw) gw_L_170 ⟨rfl, hd_X6_tear⟩ rfl rfl ⟨(Nat.le_of_ble_eq_true rfl), (Nat.le_of_ble_eq_true rfl)⟩ rfl rfl (Nat.le_of_ble_eq_true rfl) dL_law_1287 (fun x μ' hq => ?_)
  refine b_aload_n X.1 dL_law_1290 rfl 2 rfl ?_
  refine l_M (st := [.int x]) X (c_X7_tear l D C aM  ν _ hq) gw_L_173 ⟨rfl, hd_X7_tear⟩ rfl rfl ⟨(Nat.le_of_ble_eq_true rfl), (Nat.le_of_ble_eq_true rfl)⟩ rfl rfl (Nat.le_of_ble_eq_true rfl) dL_law_1291 (fun y ν' hq2 => ?_)
  exact b_icmp_eq (t := 1368) X.1 dL_law_1294 (by decide) (fun _ => kk μ' ν' (hR _ _ hq2.2)) (fun c => absurd hq2.1 c)
theorem hd_X6_seed : kD yX6_seed 1 := by decide +kernel
theorem gw_L_174 : GoodIn kW (wsV RL 174 RX6 yX6_seed (WS yX6_seed cX6_seed 3 (some .int))) := goodV m_m_L_174 m_i_X6_seed m_x_X6_seed m_n_X6 m_c_X6_seed
theorem hd_X7_seed : kD yX7_seed 1 := by decide +kernel
theorem gw_L_177 : GoodIn kW (wsV RL 177 RX7 yX7_seed (WS yX7_seed cX7_seed 3 (some .int))) := goodV m_m_L_177 m_i_X7_seed m_x_X7_seed m_n_X7 m_c_X7_seed
set_option maxHeartbeats 4000000 in
set_option maxRecDepth 100000 in
theorem br_39 (X : LC D C aF aM K b L xs c0 s0) {i : Nat} (hi : i + 4 ≤ L) (hL : L ≤ 2048) (h : RelA μ ν) (kk : ∀ μ' ν', RelA μ' ν' → WL l D C aF aM K c0 s0 μ' ν' 1368 [(0, .ref b), (1, .ref (aF 0)), (2, .ref (aM 0)), (3, .int (nI i))] []) : WL l D C aF aM K c0 s0 μ ν 1299 [(0, .ref b), (1, .ref (aF 0)), (2, .ref (aM 0)), (3, .int (nI i))] [] := by
  obtain ⟨R, hR, hw⟩ := PA_seed (a := xs (i + 1)) (h := h)
  refine b_aload_n X.1 dL_law_1299 rfl 1 rfl ?_
  refine l_arg X 1 (by decide) (by omega) hL dL_law_1300 dL_law_1301 dL_law_1302 dL_law_1303 dL_law_1304 ?_
  refine l_F (st := []) X (c_X6_seed l D C aF _ μ _ hw) gw_L_174 ⟨rfl, hd_X6_seed⟩ rfl rfl ⟨(Nat.le_of_ble_eq_true rfl), (Nat.le_of_ble_eq_true rfl)⟩ rfl rfl (Nat.le_of_ble_eq_true rfl) dL_law_1305 (fun x μ' hq => ?_)
  refine b_aload_n X.1 dL_law_1308 rfl 2 rfl ?_
  refine l_arg X 1 (by decide) (by omega) hL dL_law_1309 dL_law_1310 dL_law_1311 dL_law_1312 dL_law_1313 ?_
  refine l_M (st := [.int x]) X (c_X7_seed l D C aM _ ν _ hq) gw_L_177 ⟨rfl, hd_X7_seed⟩ rfl rfl ⟨(Nat.le_of_ble_eq_true rfl), (Nat.le_of_ble_eq_true rfl)⟩ rfl rfl (Nat.le_of_ble_eq_true rfl) dL_law_1314 (fun y ν' hq2 => ?_)
  exact b_icmp_eq (t := 1368) X.1 dL_law_1317 (by decide) (fun _ => kk μ' ν' (hR _ _ hq2.2)) (fun c => absurd hq2.1 c)
theorem hd_X6_keep : kD yX6_keep 1 := by decide +kernel
theorem gw_L_178 : GoodIn kW (wsV RL 178 RX6 yX6_keep (WS yX6_keep cX6_keep 3 (some .int))) := goodV m_m_L_178 m_i_X6_keep m_x_X6_keep m_n_X6 m_c_X6_keep
theorem hd_X7_keep : kD yX7_keep 1 := by decide +kernel
theorem gw_L_181 : GoodIn kW (wsV RL 181 RX7 yX7_keep (WS yX7_keep cX7_keep 3 (some .int))) := goodV m_m_L_181 m_i_X7_keep m_x_X7_keep m_n_X7 m_c_X7_keep
set_option maxHeartbeats 4000000 in
set_option maxRecDepth 100000 in
theorem br_40 (X : LC D C aF aM K b L xs c0 s0) {i : Nat} (hi : i + 4 ≤ L) (hL : L ≤ 2048) (h : RelA μ ν) (kk : ∀ μ' ν', RelA μ' ν' → WL l D C aF aM K c0 s0 μ' ν' 1368 [(0, .ref b), (1, .ref (aF 0)), (2, .ref (aM 0)), (3, .int (nI i))] []) : WL l D C aF aM K c0 s0 μ ν 1322 [(0, .ref b), (1, .ref (aF 0)), (2, .ref (aM 0)), (3, .int (nI i))] [] := by
  obtain ⟨R, hR, hw⟩ := PA_keep (a := xs (i + 1)) (h := h)
  refine b_aload_n X.1 dL_law_1322 rfl 1 rfl ?_
  refine l_arg X 1 (by decide) (by omega) hL dL_law_1323 dL_law_1324 dL_law_1325 dL_law_1326 dL_law_1327 ?_
  refine l_F (st := []) X (c_X6_keep l D C aF _ μ _ hw) gw_L_178 ⟨rfl, hd_X6_keep⟩ rfl rfl ⟨(Nat.le_of_ble_eq_true rfl), (Nat.le_of_ble_eq_true rfl)⟩ rfl rfl (Nat.le_of_ble_eq_true rfl) dL_law_1328 (fun x μ' hq => ?_)
  refine b_aload_n X.1 dL_law_1331 rfl 2 rfl ?_
  refine l_arg X 1 (by decide) (by omega) hL dL_law_1332 dL_law_1333 dL_law_1334 dL_law_1335 dL_law_1336 ?_
  refine l_M (st := [.int x]) X (c_X7_keep l D C aM _ ν _ hq) gw_L_181 ⟨rfl, hd_X7_keep⟩ rfl rfl ⟨(Nat.le_of_ble_eq_true rfl), (Nat.le_of_ble_eq_true rfl)⟩ rfl rfl (Nat.le_of_ble_eq_true rfl) dL_law_1337 (fun y ν' hq2 => ?_)
  exact b_icmp_eq (t := 1368) X.1 dL_law_1340 (by decide) (fun _ => kk μ' ν' (hR _ _ hq2.2)) (fun c => absurd hq2.1 c)
theorem hd_X6_goBack : kD yX6_goBack 1 := by decide +kernel
theorem gw_L_182 : GoodIn kW (wsV RL 182 RX6 yX6_goBack (WS yX6_goBack cX6_goBack 4 (some .int))) := goodV m_m_L_182 m_i_X6_goBack m_x_X6_goBack m_n_X6 m_c_X6_goBack
theorem hd_X7_goBack : kD yX7_goBack 1 := by decide +kernel
theorem gw_L_185 : GoodIn kW (wsV RL 185 RX7 yX7_goBack (WS yX7_goBack cX7_goBack 3 (some .int))) := goodV m_m_L_185 m_i_X7_goBack m_x_X7_goBack m_n_X7 m_c_X7_goBack
set_option maxHeartbeats 4000000 in
set_option maxRecDepth 100000 in
theorem br_41 (X : LC D C aF aM K b L xs c0 s0) {i : Nat} (hi : i + 4 ≤ L) (hL : L ≤ 2048) (h : RelA μ ν) (kk : ∀ μ' ν', RelA μ' ν' → WL l D C aF aM K c0 s0 μ' ν' 1368 [(0, .ref b), (1, .ref (aF 0)), (2, .ref (aM 0)), (3, .int (nI i))] []) : WL l D C aF aM K c0 s0 μ ν 1345 [(0, .ref b), (1, .ref (aF 0)), (2, .ref (aM 0)), (3, .int (nI i))] [] := by
  obtain ⟨R, hR, hw⟩ := PA_goBack (a := xs (i + 1)) (h := h)
  refine b_aload_n X.1 dL_law_1345 rfl 1 rfl ?_
  refine l_arg X 1 (by decide) (by omega) hL dL_law_1346 dL_law_1347 dL_law_1348 dL_law_1349 dL_law_1350 ?_
  refine l_F (st := []) X (c_X6_goBack l D C aF _ μ _ hw) gw_L_182 ⟨rfl, hd_X6_goBack⟩ rfl rfl ⟨(Nat.le_of_ble_eq_true rfl), (Nat.le_of_ble_eq_true rfl)⟩ rfl rfl (Nat.le_of_ble_eq_true rfl) dL_law_1351 (fun x μ' hq => ?_)
  refine b_aload_n X.1 dL_law_1354 rfl 2 rfl ?_
  refine l_arg X 1 (by decide) (by omega) hL dL_law_1355 dL_law_1356 dL_law_1357 dL_law_1358 dL_law_1359 ?_
  refine l_M (st := [.int x]) X (c_X7_goBack l D C aM _ ν _ hq) gw_L_185 ⟨rfl, hd_X7_goBack⟩ rfl rfl ⟨(Nat.le_of_ble_eq_true rfl), (Nat.le_of_ble_eq_true rfl)⟩ rfl rfl (Nat.le_of_ble_eq_true rfl) dL_law_1360 (fun y ν' hq2 => ?_)
  exact b_icmp_eq (t := 1368) X.1 dL_law_1363 (by decide) (fun _ => kk μ' ν' (hR _ _ hq2.2)) (fun c => absurd hq2.1 c)
end LAWB
