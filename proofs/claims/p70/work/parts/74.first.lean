-- THE LAW'S START: ALL OF IT
theorem k_hi4 : ((List.range 6).all fun i => Nat.beq (k_M0.2.1 4 0 0 i) (4 + i)) = true := by decide +kernel
theorem k_hi4e {i : Nat} (h : i < 6) : k_M0.2.1 4 0 0 i = 4 + i := Nat.eq_of_beq_eq_true (List.all_eq_true.mp k_hi4 i (List.mem_range.mpr h))
theorem k_k1 : ((List.range 2).all fun i => Nat.beq (k_M0.2.1 1 0 0 i) (2 + i) && (decide (k_M0.1 2 0 0 i = nI 0) && true)) = true := by decide +kernel
theorem k_CV0 (G T : Nat → Nat → Int32) (tx : Nat → Nat) : CV k_M0 k_S0 0 G (fun _ => nI 0) T 0 tx := by
  refine ⟨k_RC0, k_rpl0, ⟨by decide, by decide +kernel, fun i hi => ?_, fun i i' hi hi' h => ?_, fun i hi => absurd hi (Nat.not_lt_zero _)⟩, fun k hk => ?_, ⟨by decide, by decide +kernel, fun k hk => absurd hk (Nat.not_lt_zero _)⟩⟩
  · rw [k_hi4e hi]
    omega
  · rw [k_hi4e hi, k_hi4e hi'] at h
    omega
  · have g := List.all_eq_true.mp k_k1 k (List.mem_range.mpr hk)
    simp only [Bool.and_eq_true, decide_eq_true_eq] at g
    exact ⟨Nat.eq_of_beq_eq_true g.1, g.2.1, Or.inl rfl, fun e => absurd (show nI 0 = nI 1 from e) (by decide)⟩
theorem k_XV0 : XV k_S0 0 := by
  refine ⟨⟨20, by decide, by decide +kernel⟩, fun k hk => ?_, ⟨0, 0, by decide +kernel, by decide +kernel, by rw [k_n0], Nat.le_refl _⟩, 0, 0, by decide +kernel, by decide +kernel, Nat.le_refl _, Nat.le_refl _⟩
  rw [k_q0] at hk
  omega
theorem k_ZV0 : ZV k_S0 0 0 := by
  refine ⟨⟨0, Nat.le_refl _, by decide +kernel⟩, fun p hp => ?_, 0, 0, by decide +kernel, by decide +kernel, Nat.le_refl _⟩
  rw [k_n0] at hp
  omega
