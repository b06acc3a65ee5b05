-- A SHARE IS ONE AT THE MOST
theorem f_round2 {a b : Nat} (ha : 0 < a) (hab : a ≤ b) (hb2 : b ≤ 1024) : ∃ c s : Nat, 52 ≤ s ∧ s ≤ 100 ∧ 2 ^ 52 ≤ c ∧ c < 2 ^ 53 ∧ FP.Core.roundRatio FP.Core.b64 false a b 0 = .fin false c (-(s : Int)) ∧ (s = 52 → c = 2 ^ 52) := by
  have hb : 0 < b := by omega
  obtain ⟨h1, h2, h3⟩ := f_s_spec ha hb hb2 100 0 (by omega) (Or.inl rfl)
  have e0 : f_s a b 100 0 = f_sh a b := rfl
  rw [e0] at h1 h2 h3
  have en : f_n a b = FP.Core.nearest (a * 2 ^ f_sh a b) b := rfl
  generalize f_n a b = N at en
  generalize f_sh a b = s at h1 h2 h3 en
  have g1 : 2 ^ 52 * b ≤ a * 2 ^ s := (Nat.le_div_iff_mul_le hb).mp h1
  have hs1 : 52 ≤ s := by
    have : 2 ^ 52 * b ≤ 2 ^ s * b := Nat.le_trans g1 (by rw [Nat.mul_comm (2 ^ s) b]; exact Nat.mul_le_mul_right _ hab)
    have := Nat.le_of_mul_le_mul_right this hb
    exact (Nat.pow_le_pow_iff_right (by decide)).mp this
  have g2 : a * 2 ^ s < 2 ^ 53 * b := by
    rcases h2 with h2 | h2
    · omega
    · have := (Nat.div_lt_iff_lt_mul hb).mp h2
      obtain ⟨t, rfl⟩ : ∃ t, s = t + 1 := ⟨s - 1, by omega⟩
      rw [Nat.add_sub_cancel] at this
      rw [Nat.pow_succ, ← Nat.mul_assoc]
      omega
  have hL := FP.Core.leading_spec ha hb
  have b1 : ¬ FP.Core.Below a b (((52 : Nat) : Int) - (s : Int)) := by
    rw [FP.Core.below_iff]
    rw [Nat.mul_comm b]
    omega
  have b2 : FP.Core.Below a b (((53 : Nat) : Int) - (s : Int)) := by
    rw [FP.Core.below_iff]
    rw [Nat.mul_comm b]
    omega
  have l1 := FP.Core.lt_of_below b1 hL.2
  have l2 := FP.Core.lt_of_below hL.1 b2
  have hq : FP.Core.quantum FP.Core.b64 a b 0 = -(s : Int) := by
    unfold FP.Core.quantum
    rw [f_qmin, f_p]
    omega
  have hN1 : 2 ^ 52 ≤ N := by rw [en]; exact FP.Core.nearest_ge hb g1
  have hN2 : N ≤ 2 ^ 53 := by rw [en]; exact FP.Core.nearest_le hb (Nat.le_of_lt g2)
  have er : FP.Core.roundRatio FP.Core.b64 false a b 0 = FP.Core.settle FP.Core.b64 false N (-(s : Int)) := by
    unfold FP.Core.roundRatio FP.Core.roundAt
    rw [if_neg (by omega), hq]
    unfold FP.Core.unitsNum FP.Core.unitsDen
    rw [show (0 - -(s : Int)).toNat = s by omega, show (-(s : Int) - 0).toNat = 0 by omega, Nat.pow_zero, Nat.mul_one, ← en]
  rw [er]
  unfold FP.Core.settle FP.Core.bound
  rw [f_p, f_qmax, f_tails]
  by_cases c : N = 2 ^ 53
  · have hs53 : 53 ≤ s := by
      by_cases c2 : s = 52
      · have : N ≤ 2 ^ 52 := by
          rw [en, c2]
          exact FP.Core.nearest_le hb (by rw [Nat.mul_comm]; exact Nat.mul_le_mul_left _ hab)
        omega
      · omega
    rw [if_neg (by omega), if_pos (by omega)]
    refine ⟨2 ^ 52, s - 1, by omega, by omega, Nat.le_refl _, by decide, ?_, fun _ => rfl⟩
    congr 1
    omega
  · rw [if_pos (by omega), if_pos (by omega)]
    refine ⟨N, s, hs1, h3, hN1, by omega, rfl, fun h => ?_⟩
    have : N ≤ 2 ^ 52 := by
      rw [en, h]
      exact FP.Core.nearest_le hb (by rw [Nat.mul_comm]; exact Nat.mul_le_mul_left _ hab)
    omega
theorem f_shareV2 {a b : Nat} (ha : 0 < a) (hab : a ≤ b) (hb : b ≤ 1024) : ∃ c s : Nat, 52 ≤ s ∧ s ≤ 100 ∧ 2 ^ 52 ≤ c ∧ c < 2 ^ 53 ∧ FP.Core.val64 (f_share a b) = .fin false c (-(s : Int)) ∧ (s = 52 → c = 2 ^ 52) := by
  obtain ⟨c, s, h1, h2, h3, h4, h5, h6⟩ := f_round2 ha hab hb
  refine ⟨c, s, h1, h2, h3, h4, ?_, h6⟩
  unfold f_share
  rw [if_neg (by omega)]
  obtain ⟨k1, -, e1⟩ := f_int (a := a) ha (by omega)
  obtain ⟨k2, -, e2⟩ := f_int (a := b) (by omega) (by omega)
  rw [FP.Core.val64_ddiv, e1, e2, ← h5]
  unfold FP.Core.quotient
  have pb := Nat.mul_pos (show 0 < b by omega) (Nat.two_pow_pos k2)
  dsimp only
  rw [if_neg (by omega)]
  show FP.Core.roundRatio FP.Core.b64 false (a * 2 ^ k1) (b * 2 ^ k2) (-(k1 : Int) - -(k2 : Int)) = _
  refine FP.Core.roundRatio_congr pb (by omega) ?_
  by_cases c : k1 ≤ k2
  · obtain ⟨d, rfl⟩ : ∃ d, k2 = k1 + d := ⟨k2 - k1, by omega⟩
    rw [show (-(k1 : Int) - -((k1 + d : Nat) : Int) - 0).toNat = d by omega, show (0 - (-(k1 : Int) - -((k1 + d : Nat) : Int))).toNat = 0 by omega, Nat.pow_zero, Nat.mul_one, Nat.pow_add]
    simp only [Nat.mul_assoc, Nat.mul_comm, Nat.mul_left_comm]
  · obtain ⟨d, rfl⟩ : ∃ d, k1 = k2 + d := ⟨k1 - k2, by omega⟩
    rw [show (-((k2 + d : Nat) : Int) - -(k2 : Int) - 0).toNat = 0 by omega, show (0 - (-((k2 + d : Nat) : Int) - -(k2 : Int))).toNat = d by omega, Nat.pow_zero, Nat.mul_one, Nat.pow_add]
    simp only [Nat.mul_assoc, Nat.mul_comm, Nat.mul_left_comm]
theorem f_cmp1' {y : UInt64} {c r : Nat} (h : FP.Core.val64 y = .fin false c (-52 - (r : Int))) (h2 : c < 2 ^ 53) (h3 : r = 0 → c = 2 ^ 52) : ¬ (0 : Int32) < Op.cmpValue (FP.dcmp y 0x3ff0000000000000) .g := by
  have e : FP.dcmp y 0x3ff0000000000000 = some (compare ((c : Nat) : Int) ((2 ^ 52 * 2 ^ r : Nat) : Int)) := by
    show FP.Core.order (FP.Core.val64 y) (FP.Core.val64 FP.Core.dconst1) = _
    rw [h, FP.Core.val64_dconst1]
    show some (compare (FP.Core.signed false (FP.Core.inUnits c (-52 - (r : Int)) (min (-52 - (r : Int)) (-52)))) (FP.Core.signed false (FP.Core.inUnits (2 ^ 52) (-52) (min (-52 - (r : Int)) (-52))))) = _
    unfold FP.Core.inUnits
    rw [show (-52 - (r : Int) - min (-52 - (r : Int)) (-52)).toNat = 0 by omega, show (-52 - min (-52 - (r : Int)) (-52)).toNat = r by omega, Nat.pow_zero, Nat.mul_one]
    rfl
  have ec : ∀ a b : Int, compare a b = if a < b then .lt else if a = b then .eq else .gt := fun _ _ => rfl
  rw [e, ec]
  by_cases hr : r = 0
  · rw [hr, Nat.pow_zero, Nat.mul_one, if_neg (by have := h3 hr; omega), if_pos (by have := h3 hr; omega)]
    decide
  · have : 2 ^ 1 ≤ 2 ^ r := Nat.pow_le_pow_right (by decide) (by omega)
    have : 2 ^ 52 * 2 ^ 1 ≤ 2 ^ 52 * 2 ^ r := Nat.mul_le_mul_left _ this
    rw [if_pos (by omega)]
    decide
theorem f_share1 {a b : Nat} (hab : a ≤ b) (hb : b ≤ 1024) : ¬ (0 : Int32) < Op.cmpValue (FP.dcmp (f_share a b) 0x3ff0000000000000) .g := by
  by_cases ha : a = 0
  · have h := f_share0 hb
    rw [ha]
    rw [f_qmin] at h
    refine f_cmp1' (c := 0) (r := 1022) (by rw [h]; rfl) (by decide) (fun g => absurd g (by decide))
  · obtain ⟨c, s, h1, h2, h3, h4, h5, h6⟩ := f_shareV2 (a := a) (by omega) hab hb
    refine f_cmp1' (c := c) (r := s - 52) (by rw [h5]; congr 1; omega) h4 (fun g => h6 (by omega))
