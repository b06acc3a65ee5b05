-- THE LAW'S START: THE TWO SIDES AGREE
theorem k_n0 : s_n k_S0 = 0 := by decide +kernel
theorem k_q0 : s_q k_S0 = 0 := by decide +kernel
theorem k_swf0 : s_wf k_S0 := by
  have n0 := k_n0
  have q0 := k_q0
  refine ⟨⟨by decide +kernel, by rw [n0]; decide⟩, ⟨by decide +kernel, by rw [q0]; decide⟩, ⟨by decide +kernel, by decide +kernel⟩, ⟨by decide +kernel, by decide +kernel⟩, ?_, fun p hp => ?_, fun k hk => ?_, fun p p' hp => ?_, fun k k' hk => ?_, fun p k hp => ?_⟩
  · exact Or.inr (by decide +kernel)
  · omega
  · omega
  · omega
  · omega
  · omega
theorem k_se0 : ((List.range 7).all fun i => decide (k_M0.1 16 0 0 i = k_S0 (207 + i))) = true := by decide +kernel
theorem k_ac0 : ((List.range 5).all fun i => decide (k_M0.1 18 0 0 i = k_S0 (215 + i))) = true := by decide +kernel
theorem k_ac1 : ((List.range 6).all fun i => decide (k_M0.1 17 0 0 (2 + i) = k_S0 (220 + i))) = true := by decide +kernel
theorem k_RC0 : RC 0 k_M0 k_S0 := by
  refine ⟨k_swf0, ⟨by decide +kernel, by decide +kernel, by decide +kernel⟩, ⟨k_rpl0 0 (by decide), fun p hp => ?_⟩, ⟨by decide +kernel, fun k hk => ?_⟩, fun i hi => ?_, by decide +kernel, fun i hi => ?_, fun i hi => ?_⟩
  · rw [k_n0] at hp
    omega
  · rw [k_q0] at hk
    omega
  · exact of_decide_eq_true (List.all_eq_true.mp k_se0 i (List.mem_range.mpr hi))
  · exact of_decide_eq_true (List.all_eq_true.mp k_ac0 i (List.mem_range.mpr hi))
  · exact of_decide_eq_true (List.all_eq_true.mp k_ac1 i (List.mem_range.mpr hi))
