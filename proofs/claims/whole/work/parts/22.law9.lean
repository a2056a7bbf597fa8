/-! ===== the law, all ===== -/
set_option maxRecDepth 1000000 in
theorem zlaw_len : zm_L_law.1.length = 1410 := by decide +kernel
theorem zg_L_law : zMg zY zm_L_law (yL_law, code, some .boolean, none, 0) := by
  refine ⟨fun i a hi => ?_, zch_ok (Y := zY) (y := (yL_law, code, some .boolean, none, 0)) (M := zm_L_law) (by decide +kernel)⟩
  have hl := (List.getElem?_eq_some_iff.mp hi).1
  rw [zlaw_len] at hl
  have hn : (false : Bool) = decide (yL_law.name = "<init>") := by decide +kernel
  show _ ∨ ∃ hn, zck _ _ (decide (yL_law.name = "<init>")) _ _ hn i a = true ∧ _
  rw [← hn]
  by_cases q0 : i < 90
  · exact zmg_at zgs_0 i a (by omega) (by omega) hi
  by_cases q1 : i < 180
  · exact zmg_at zgs_1 i a (by omega) (by omega) hi
  by_cases q2 : i < 270
  · exact zmg_at zgs_2 i a (by omega) (by omega) hi
  by_cases q3 : i < 360
  · exact zmg_at zgs_3 i a (by omega) (by omega) hi
  by_cases q4 : i < 450
  · exact zmg_at zgs_4 i a (by omega) (by omega) hi
  by_cases q5 : i < 540
  · exact zmg_at zgs_5 i a (by omega) (by omega) hi
  by_cases q6 : i < 630
  · exact zmg_at zgs_6 i a (by omega) (by omega) hi
  by_cases q7 : i < 720
  · exact zmg_at zgs_7 i a (by omega) (by omega) hi
  by_cases q8 : i < 810
  · exact zmg_at zgs_8 i a (by omega) (by omega) hi
  by_cases q9 : i < 900
  · exact zmg_at zgs_9 i a (by omega) (by omega) hi
  by_cases q10 : i < 990
  · exact zmg_at zgs_10 i a (by omega) (by omega) hi
  by_cases q11 : i < 1080
  · exact zmg_at zgs_11 i a (by omega) (by omega) hi
  by_cases q12 : i < 1170
  · exact zmg_at zgs_12 i a (by omega) (by omega) hi
  by_cases q13a : i < 1215
  · exact zmg_at zgs_13a i a (by omega) (by omega) hi
  by_cases q13b : i < 1260
  · exact zmg_at zgs_13b i a (by omega) (by omega) hi
  by_cases q14a : i < 1305
  · exact zmg_at zgs_14a i a (by omega) (by omega) hi
  by_cases q14b : i < 1350
  · exact zmg_at zgs_14b i a (by omega) (by omega) hi
  by_cases q15 : i < 1410
  · exact zmg_at zgs_15 i a (by omega) (by omega) hi
  omega
