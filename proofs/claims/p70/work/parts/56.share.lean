-- SHARES: THE QUOTIENT AS A DOUBLE, AND ITS BITS
def f_s (a b : Nat) : Nat → Nat → Nat
  | 0, i => i
  | f + 1, i => if a * 2 ^ i / b < 2 ^ 52 then f_s a b f (i + 1) else i
def f_sh (a b : Nat) : Nat := f_s a b 100 0
def f_n (a b : Nat) : Nat := FP.Core.nearest (a * 2 ^ f_sh a b) b
def f_bits (a b : Nat) : Nat := if a = 0 then 0 else if f_n a b = 2 ^ 53 then (1075 - (f_sh a b - 1)) * 2 ^ 52 else (1075 - f_sh a b) * 2 ^ 52 + (f_n a b - 2 ^ 52)
theorem f_s_spec {a b : Nat} (ha : 0 < a) (hb : 0 < b) (hb2 : b ≤ 1024) : ∀ f i : Nat, i + f = 100 → (i = 0 ∨ a * 2 ^ (i - 1) / b < 2 ^ 52) → 2 ^ 52 ≤ a * 2 ^ f_s a b f i / b ∧ (f_s a b f i = 0 ∨ a * 2 ^ (f_s a b f i - 1) / b < 2 ^ 52) ∧ f_s a b f i ≤ 100
  | 0, i, hi, h => by
    have e : i = 100 := by omega
    subst e
    rcases h with h | h
    · omega
    · exact absurd h (Nat.not_lt.mpr ((Nat.le_div_iff_mul_le hb).mpr (by
        have h1 : 2 ^ 52 * b ≤ 2 ^ 52 * 1024 := Nat.mul_le_mul_left _ hb2
        have h2 : 1 * 2 ^ (100 - 1) ≤ a * 2 ^ (100 - 1) := Nat.mul_le_mul_right _ ha
        exact Nat.le_trans h1 (Nat.le_trans (by decide) h2))))
  | f + 1, i, hi, h => by
    unfold f_s
    by_cases c : a * 2 ^ i / b < 2 ^ 52
    · rw [if_pos c]
      exact f_s_spec ha hb hb2 f (i + 1) (by omega) (Or.inr (by rw [Nat.add_sub_cancel]; exact c))
    · rw [if_neg c]
      exact ⟨Nat.le_of_not_lt c, h, by omega⟩
theorem f_qmin : FP.Core.b64.qmin = -1074 := by decide
theorem f_qmax : FP.Core.b64.qmax = 971 := by decide
theorem f_tails : FP.Core.b64.tails = 2 ^ 52 := by decide
theorem f_p : FP.Core.b64.p = 53 := rfl
theorem f_round {a b : Nat} (ha : 0 < a) (hab : a ≤ b) (hb2 : b ≤ 1024) : ∃ c s : Nat, 52 ≤ s ∧ s ≤ 100 ∧ 2 ^ 52 ≤ c ∧ c < 2 ^ 53 ∧ FP.Core.roundRatio FP.Core.b64 false a b 0 = .fin false c (-(s : Int)) ∧ f_bits a b = (1075 - s) * 2 ^ 52 + (c - 2 ^ 52) := by
  have hb : 0 < b := by omega
  obtain ⟨h1, h2, h3⟩ := f_s_spec ha hb hb2 100 0 (by omega) (Or.inl rfl)
  have e0 : f_s a b 100 0 = f_sh a b := rfl
  rw [e0] at h1 h2 h3
  have hbits : f_bits a b = if f_n a b = 2 ^ 53 then (1075 - (f_sh a b - 1)) * 2 ^ 52 else (1075 - f_sh a b) * 2 ^ 52 + (f_n a b - 2 ^ 52) := if_neg (by omega)
  have en : f_n a b = FP.Core.nearest (a * 2 ^ f_sh a b) b := rfl
  generalize f_n a b = N at hbits en
  generalize f_sh a b = s at h1 h2 h3 hbits en
  have g1 : 2 ^ 52 * b ≤ a * 2 ^ s := (Nat.le_div_iff_mul_le hb).mp h1
  have hs1 : 52 ≤ s := by
    have : 2 ^ 52 * b ≤ 2 ^ s * b := Nat.le_trans g1 (by rw [Nat.mul_comm (2 ^ s) b]; exact Nat.mul_le_mul_right _ hab)
    have := Nat.le_of_mul_le_mul_right this hb
    exact (Nat.pow_le_pow_iff_right (by decide)).mp this
  have g2 : a * 2 ^ s < 2 ^ 53 * b := by
    rcases h2 with h2 | h2
    · omega
    · have := (Nat.div_lt_iff_lt_mul hb).mp h2
      obtain ⟨t, rfl⟩ : ∃ t, s = t + 1 := ⟨s - 1, by omega⟩
      rw [Nat.add_sub_cancel] at this
      rw [Nat.pow_succ, ← Nat.mul_assoc]
      omega
  have hL := FP.Core.leading_spec ha hb
  have b1 : ¬ FP.Core.Below a b (((52 : Nat) : Int) - (s : Int)) := by
    rw [FP.Core.below_iff]
    rw [Nat.mul_comm b]
    omega
  have b2 : FP.Core.Below a b (((53 : Nat) : Int) - (s : Int)) := by
    rw [FP.Core.below_iff]
    rw [Nat.mul_comm b]
    omega
  have l1 := FP.Core.lt_of_below b1 hL.2
  have l2 := FP.Core.lt_of_below hL.1 b2
  have hq : FP.Core.quantum FP.Core.b64 a b 0 = -(s : Int) := by
    unfold FP.Core.quantum
    rw [f_qmin, f_p]
    omega
  have hN1 : 2 ^ 52 ≤ N := by rw [en]; exact FP.Core.nearest_ge hb g1
  have hN2 : N ≤ 2 ^ 53 := by rw [en]; exact FP.Core.nearest_le hb (Nat.le_of_lt g2)
  have er : FP.Core.roundRatio FP.Core.b64 false a b 0 = FP.Core.settle FP.Core.b64 false N (-(s : Int)) := by
    unfold FP.Core.roundRatio FP.Core.roundAt
    rw [if_neg (by omega), hq]
    unfold FP.Core.unitsNum FP.Core.unitsDen
    rw [show (0 - -(s : Int)).toNat = s by omega, show (-(s : Int) - 0).toNat = 0 by omega, Nat.pow_zero, Nat.mul_one, ← en]
  rw [er]
  unfold FP.Core.settle FP.Core.bound
  rw [f_p, f_qmax, f_tails]
  by_cases c : N = 2 ^ 53
  · have hs53 : 53 ≤ s := by
      by_cases c2 : s = 52
      · have : N ≤ 2 ^ 52 := by
          rw [en, c2]
          exact FP.Core.nearest_le hb (by rw [Nat.mul_comm]; exact Nat.mul_le_mul_left _ hab)
        omega
      · omega
    rw [if_pos c] at hbits
    rw [if_neg (by omega), if_pos (by omega)]
    refine ⟨2 ^ 52, s - 1, by omega, by omega, Nat.le_refl _, by decide, ?_, by rw [hbits]; simp⟩
    congr 1
    omega
  · rw [if_neg c] at hbits
    rw [if_pos (by omega), if_pos (by omega)]
    exact ⟨N, s, hs1, h3, hN1, by omega, rfl, hbits⟩
theorem f_int {a : Nat} (ha : 0 < a) (h : a < 2 ^ 31) : ∃ k : Nat, k ≤ 52 ∧ FP.Core.val64 (FP.Core.i2d (nI a)) = .fin false (a * 2 ^ k) (-(k : Int)) := by
  have l1 : 2 ^ a.log2 ≤ a := Nat.log2_self_le (by omega)
  have l2 : a < 2 ^ (a.log2 + 1) := Nat.lt_log2_self
  have l3 : a.log2 < 31 := by
    have : 2 ^ a.log2 < 2 ^ 31 := by omega
    exact (Nat.pow_lt_pow_iff_right (by decide)).mp this
  generalize a.log2 = t at l1 l2 l3
  refine ⟨52 - t, by omega, ?_⟩
  rw [FP.Core.val64_i2d, nI_toInt h]
  have e : FP.Core.ofInt (a : Int) = .fin false a 0 := by
    unfold FP.Core.ofInt
    rw [decide_eq_false (by omega)]
    rfl
  rw [e]
  show FP.Core.roundRatio FP.Core.b64 false a 1 0 = _
  have p1 : 2 ^ t * 2 ^ (52 - t) = 2 ^ 52 := by rw [← Nat.pow_add]; congr 1; omega
  have p2 : 2 ^ (t + 1) * 2 ^ (52 - t) = 2 ^ 53 := by rw [← Nat.pow_add]; congr 1; omega
  have q1 := Nat.mul_le_mul_right (2 ^ (52 - t)) l1
  have q2 := Nat.mul_lt_mul_of_pos_right l2 (Nat.two_pow_pos (52 - t))
  rw [p1] at q1
  rw [p2] at q2
  refine FP.Core.roundRatio_exact FP.Core.good_b64 (by decide) ⟨by rw [f_p]; exact q2, by rw [f_qmin]; omega, by rw [f_qmax]; omega, Or.inr (by rw [f_tails]; exact q1)⟩ ?_
  rw [show (0 - -((52 - t : Nat) : Int)).toNat = 52 - t by omega, show (-((52 - t : Nat) : Int) - 0).toNat = 0 by omega]
  simp
theorem f_int0 : FP.Core.val64 (FP.Core.i2d (nI 0)) = .fin false 0 FP.Core.b64.qmin := by decide +kernel
def f_share (a b : Nat) : UInt64 := if b = 0 then 0 else FP.Core.ddiv (FP.Core.i2d (nI a)) (FP.Core.i2d (nI b))
theorem f_share0 {b : Nat} (hb : b ≤ 1024) : FP.Core.val64 (f_share 0 b) = .fin false 0 FP.Core.b64.qmin := by
  unfold f_share
  split
  · decide +kernel
  · rename_i c
    obtain ⟨k, -, e⟩ := f_int (a := b) (by omega) (by omega)
    rw [FP.Core.val64_ddiv, f_int0, e]
    unfold FP.Core.quotient
    dsimp only
    rw [if_neg (by have := Nat.mul_pos (show 0 < b by omega) (Nat.two_pow_pos k); omega)]
    rfl
theorem f_shareV {a b : Nat} (ha : 0 < a) (hab : a ≤ b) (hb : b ≤ 1024) : ∃ c s : Nat, 52 ≤ s ∧ s ≤ 100 ∧ 2 ^ 52 ≤ c ∧ c < 2 ^ 53 ∧ FP.Core.val64 (f_share a b) = .fin false c (-(s : Int)) ∧ f_bits a b = (1075 - s) * 2 ^ 52 + (c - 2 ^ 52) := by
  obtain ⟨c, s, h1, h2, h3, h4, h5, h6⟩ := f_round ha hab hb
  refine ⟨c, s, h1, h2, h3, h4, ?_, h6⟩
  unfold f_share
  rw [if_neg (by omega)]
  obtain ⟨k1, -, e1⟩ := f_int (a := a) ha (by omega)
  obtain ⟨k2, -, e2⟩ := f_int (a := b) (by omega) (by omega)
  rw [FP.Core.val64_ddiv, e1, e2, ← h5]
  unfold FP.Core.quotient
  have pb := Nat.mul_pos (show 0 < b by omega) (Nat.two_pow_pos k2)
  dsimp only
  rw [if_neg (by omega)]
  show FP.Core.roundRatio FP.Core.b64 false (a * 2 ^ k1) (b * 2 ^ k2) (-(k1 : Int) - -(k2 : Int)) = _
  refine FP.Core.roundRatio_congr pb (by omega) ?_
  by_cases c : k1 ≤ k2
  · obtain ⟨d, rfl⟩ : ∃ d, k2 = k1 + d := ⟨k2 - k1, by omega⟩
    rw [show (-(k1 : Int) - -((k1 + d : Nat) : Int) - 0).toNat = d by omega, show (0 - (-(k1 : Int) - -((k1 + d : Nat) : Int))).toNat = 0 by omega, Nat.pow_zero, Nat.mul_one, Nat.pow_add]
    simp only [Nat.mul_assoc, Nat.mul_comm, Nat.mul_left_comm]
  · obtain ⟨d, rfl⟩ : ∃ d, k1 = k2 + d := ⟨k1 - k2, by omega⟩
    rw [show (-((k2 + d : Nat) : Int) - -(k2 : Int) - 0).toNat = 0 by omega, show (0 - (-((k2 + d : Nat) : Int) - -(k2 : Int))).toNat = d by omega, Nat.pow_zero, Nat.mul_one, Nat.pow_add]
    simp only [Nat.mul_assoc, Nat.mul_comm, Nat.mul_left_comm]
/-- what is a number is no NaN -/
theorem f_n64 {x : UInt64} {s : Bool} {c : Nat} {q : Int} (h : FP.Core.val64 x = .fin s c q) : vf_n64 x := by
  unfold FP.Core.val64 FP.Core.decode at h
  have hE : FP.Core.fieldE FP.Core.b64 x.toNat ≠ 2047 := by
    intro g
    rw [if_pos (by rw [g]; decide)] at h
    split at h <;> cases h
  unfold FP.Core.fieldE at hE
  rw [f_tails, show FP.Core.b64.exps = 2 ^ 11 by decide] at hE
  unfold vf_n64
  rw [UInt64.le_iff_toNat_le, UInt64.toNat_and]
  have e1 : (0x7fffffffffffffff : UInt64).toNat = 2 ^ 63 - 1 := by decide
  have e2 : (0x7ff0000000000000 : UInt64).toNat = 2047 * 2 ^ 52 := by decide
  rw [e1, e2, Nat.and_two_pow_sub_one_eq_mod]
  omega
