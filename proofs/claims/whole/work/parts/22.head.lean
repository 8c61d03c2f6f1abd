/-! the law from its first instruction: both objects made, then its loop -/
set_option maxRecDepth 100000 in
set_option maxHeartbeats 4000000 in
theorem ctL_start (n m : Nat) (s : Nat → Int32) (y : Int32 × aw_H) (hF : FL_law n m s aw_h0 = some y) {X : aw_X} (C : aw_C X RL cL_law 4 10 600000 7302250) (SC : aw_SC X m s) (KR : ∀ (pc : Nat) (ls : List Value), decode cL_law pc = .ok (.ireturn, 1) → AW X 4 pc ls [.int y.1] wL wR y.2 82 1378) : AW X 4 0 [.ref 1400, .retAddr 0, .retAddr 0, .retAddr 0] [] (wL.take 0) (fun _ _ => none) (fun _ _ => 0, fun _ _ => 0) 0 0 := by
  refine ax_newo (m := 0) (T := TX5) (ty := tyX5) C dL_law_0 oL_7 kiX5 knX5 rfl bgX5 tyX5_ok tkX5 rfl rfl rfl rfl ?_
  refine aw_dup C dL_law_3 rfl ?_
  refine ax_I0 C dL_law_4 kyX5_init lL_9 kiX5_init rfl rfl rfl rfl rfl (ctX5_init _ _) ?_
  refine aw_astore_1 C dL_law_7 rfl rfl ?_
  refine ax_newo (m := 71) (T := TX6) (ty := tyX6) C dL_law_8 oL_10 kiX6 knX6 rfl bgX6 tyX6_ok tkX6 rfl rfl rfl rfl ?_
  refine aw_dup C dL_law_11 rfl ?_
  refine ax_I0 C dL_law_12 kyX6_init lL_12 kiX6_init rfl rfl rfl rfl rfl (ctX6_init _ _) ?_
  refine aw_astore_2 C dL_law_15 rfl rfl ?_
  show AW X 4 16 [.ref 1400, .ref 0, .ref 71, .retAddr 0] [] (wL.take 82) aw_r0 aw_h0 82 1378
  rw [show wL.take 82 = wL from rfl, aw_r0_eq]
  exact ctL_law n m s aw_h0 y hF C SC KR
