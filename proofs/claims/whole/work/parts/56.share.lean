-- SHARES: THE QUOTIENT AS A DOUBLE, AND ITS BITS
def f_s (a b : Nat) : Nat → Nat → Nat
  | 0, i => i
  | f + 1, i => if a * 2 ^ i / b < 2 ^ 52 then f_s a b f (i + 1) else i
def f_sh (a b : Nat) : Nat := f_s a b 100 0
def f_n (a b : Nat) : Nat := FP.Core.nearest (a * 2 ^ f_sh a b) b
def f_bits (a b : Nat) : Nat := if a = 0 then 0 else if f_n a b = 2 ^ 53 then (1075 - (f_sh a b - 1)) * 2 ^ 52 else (1075 - f_sh a b) * 2 ^ 52 + (f_n a b - 2 ^ 52)
theorem f_s_spec {a b : Nat} (ha : 0 < a) (hb : 0 < b) (hb2 : b ≤ 1024) : ∀ f i : Nat, i + f = 100 → (i = 0 ∨ a * 2 ^ (i - 1) / b < 2 ^ 52) → 2 ^ 52 ≤ a * 2 ^ f_s a b f i / b ∧ (f_s a b f i = 0 ∨ a * 2 ^ (f_s a b f i - 1) / b < 2 ^ 52) ∧ f_s a b f i ≤ 100
  | 0, i, hi, h => by
    have e : i = 100 := by omega
    subst e
    rcases h with h | h
    · omega
    · exact absurd h (Nat.not_lt.mpr ((Nat.le_div_iff_mul_le hb).mpr (by
        have h1 : 2 ^ 52 * b ≤ 2 ^ 52 * 1024 := Nat.mul_le_mul_left _ hb2
        have h2 : 1 * 2 ^ (100 - 1) ≤ a * 2 ^ (100 - 1) := Nat.mul_le_mul_right _ ha
        exact Nat.le_trans h1 (Nat.le_trans (by decide) h2))))
  | f + 1, i, hi, h => by
    unfold f_s
    by_cases c : a * 2 ^ i / b < 2 ^ 52
    · rw [if_pos c]
      exact f_s_spec ha hb hb2 f (i + 1) (by omega) (Or.inr (by rw [Nat.add_sub_cancel]; exact c))
    · rw [if_neg c]
      exact ⟨Nat.le_of_not_lt c, h, by omega⟩
theorem f_qmin : FP.Core.b64.qmin = -1074 := by decide
theorem f_qmax : FP.Core.b64.qmax = 971 := by decide
theorem f_tails : FP.Core.b64.tails = 2 ^ 52 := by decide
theorem f_p : FP.Core.b64.p = 53 := rfl
theorem f_round {a b : Nat} (ha : 0 < a) (hab : a ≤ b) (hb2 : b ≤ 1024) : ∃ c s : Nat, 52 ≤ s ∧ s ≤ 100 ∧ 2 ^ 52 ≤ c ∧ c < 2 ^ 53 ∧ FP.Core.roundRatio FP.Core.b64 false a b 0 = .fin false c (-(s : Int)) ∧ f_bits a b = (1075 - s) * 2 ^ 52 + (c - 2 ^ 52) := by
  have hb : 0 < b := by omega
  obtain ⟨h1, h2, h3⟩ := f_s_spec ha hb hb2 100 0 (by omega) (Or.inl rfl)
  have e0 : f_s a b 100 0 = f_sh a b := rfl
  rw [e0] at h1 h2 h3
  have hbits : f_bits a b = if f_n a b = 2 ^ 53 then (1075 - (f_sh a b - 1)) * 2 ^ 52 else (1075 - f_sh a b) * 2 ^ 52 + (f_n a b - 2 ^ 52) := if_neg (by omega)
  have en : f_n a b = FP.Core.nearest (a * 2 ^ f_sh a b) b := rfl
  generalize f_n a b = N at hbits en
  generalize f_sh a b = s at h1 h2 h3 hbits en
  have g1 : 2 ^ 52 * b ≤ a * 2 ^ s := (Nat.le_div_iff_mul_le hb).mp h1
  have hs1 : 52 ≤ s := by
    have : 2 ^ 52 * b ≤ 2 ^ s * b := Nat.le_trans g1 (by rw [Nat.mul_comm (2 ^ s) b]; exact Nat.mul_le_mul_right _ hab)
    have := Nat.le_of_mul_le_mul_right this hb
    exact (Nat.pow_le_pow_iff_right (by decide)).mp this
  have g2 : a * 2 ^ s < 2 ^ 53 * b := by
    rcases h2 with h2 | h2
    · omega
    · have := (Nat.div_lt_iff_lt_mul hb).mp h2
      obtain ⟨t, rfl⟩ : ∃ t, s = t + 1 := ⟨s - 1, by omega⟩
      rw [Nat.add_sub_cancel] at this
      rw [Nat.pow_succ, ← Nat.mul_assoc]
      omega
  have hL := FP.Core.leading_spec ha hb
  have b1 : ¬ FP.Core.Below a b (((52 : Nat) : Int) - (s : Int)) := by
    rw [FP.Core.below_iff]
    rw [Nat.mul_comm b]
    omega
  have b2 : FP.Core.Below a b (((53 : Nat) : Int) - (s : Int)) := by
    rw [FP.Core.below_iff]
    rw [Nat.mul_comm b]
    omega
  have l1 := FP.Core.lt_of_below b1 hL.2
  have l2 := FP.Core.lt_of_below hL.1 b2
  have hq : FP.Core.quantum FP.Core.b64 a b 0 = -(s : Int) := by
    unfold FP.Core.quantum
    rw [f_qmin, f_p]
    omega
  have hN1 : 2 ^ 52 ≤ N := by rw [en]; exact FP.Core.nearest_ge hb g1
  have hN2 : N ≤ 2 ^ 53 := by rw [en]; exact FP.Core.nearest_le hb (Nat.le_of_lt g2)
  have er : FP.Core.roundRatio FP.Core.b64 false a b 0 = FP.Core.settle FP.Core.b64 false N (-(s : Int)) := by
    unfold FP.Core.roundRatio FP.Core.roundAt
    rw [if_neg (by omega), hq]
    unfold FP.Core.unitsNum FP.Core.unitsDen
    rw [show (0 - -(s : Int)).toNat = s by omega, show (-(s : Int) - 0).toNat = 0 by omega, Nat.pow_zero, Nat.mul_one, ← en]
  rw [er]
  unfold FP.Core.settle FP.Core.bound
  rw [f_p, f_qmax, f_tails]
  by_cases c : N = 2 ^ 53
  · have hs53 : 53 ≤ s := by
      by_cases c2 : s = 52
      · have : N ≤ 2 ^ 52 := by
          rw [en, c2]
          exact FP.Core.nearest_le hb (by rw [Nat.mul_comm]; exact Nat.mul_le_mul_left _ hab)
        omega
      · omega
    rw [if_pos c] at hbits
    rw [if_neg (by omega), if_pos (by omega)]
    refine ⟨2 ^ 52, s - 1, by omega, by omega, Nat.le_refl _, by decide, ?_, by rw [hbits]; simp⟩
    congr 1
    omega
  · rw [if_neg c] at hbits
    rw [if_pos (by omega), if_pos (by omega)]
    exact ⟨N, s, hs1, h3, hN1, by omega, rfl, hbits⟩
theorem f_int {a : Nat} (ha : 0 < a) (h : a < 2 ^ 31) : ∃ k : Nat, k ≤ 52 ∧ FP.Core.val64 (FP.Core.i2d (nI a)) = .fin false (a * 2 ^ k) (-(k : Int)) := by
  have l1 : 2 ^ a.log2 ≤ a := Nat.log2_self_le (by omega)
  have l2 : a < 2 ^ (a.log2 + 1) := Nat.lt_log2_self
  have l3 : a.log2 < 31 := by
    have : 2 ^ a.log2 < 2 ^ 31 := by omega
    exact (Nat.pow_lt_pow_iff_right (by decide)).mp this
  generalize a.log2 = t at l1 l2 l3
  refine ⟨52 - t, by omega, ?_⟩
  rw [FP.Core.val64_i2d, nI_toInt h]
  have e : FP.Core.ofInt (a : Int) = .fin false a 0 := by
    unfold FP.Core.ofInt
    rw [decide_eq_false (by omega)]
    rfl
  rw [e]
  show FP.Core.roundRatio FP.Core.b64 false a 1 0 = _
  have p1 : 2 ^ t * 2 ^ (52 - t) = 2 ^ 52 := by rw [← Nat.pow_add]; congr 1; omega
  have p2 : 2 ^ (t + 1) * 2 ^ (52 - t) = 2 ^ 53 := by rw [← Nat.pow_add]; congr 1; omega
  have q1 := Nat.mul_le_mul_right (2 ^ (52 - t)) l1
  have q2 := Nat.mul_lt_mul_of_pos_right l2 (Nat.two_pow_pos (52 - t))
  rw [p1] at q1
  rw [p2] at q2
  refine FP.Core.roundRatio_exact FP.Core.good_b64 (by decide) ⟨by rw [f_p]; exact q2, by rw [f_qmin]; omega, by rw [f_qmax]; omega, Or.inr (by rw [f_tails]; exact q1)⟩ ?_
  rw [show (0 - -((52 - t : Nat) : Int)).toNat = 52 - t by omega, show (-((52 - t : Nat) : Int) - 0).toNat = 0 by omega]
  simp
theorem f_int0 : FP.Core.val64 (FP.Core.i2d (nI 0)) = .fin false 0 FP.Core.b64.qmin := by decide +kernel
def f_share (a b : Nat) : UInt64 := if b = 0 then 0 else FP.Core.ddiv (FP.Core.i2d (nI a)) (FP.Core.i2d (nI b))
theorem f_share0 {b : Nat} (hb : b ≤ 1024) : FP.Core.val64 (f_share 0 b) = .fin false 0 FP.Core.b64.qmin := by
  unfold f_share
  split
  · decide +kernel
  · rename_i c
    obtain ⟨k, -, e⟩ := f_int (a := b) (by omega) (by omega)
    rw [FP.Core.val64_ddiv, f_int0, e]
    unfold FP.Core.quotient
    dsimp only
    rw [if_neg (by have := Nat.mul_pos (show 0 < b by omega) (Nat.two_pow_pos k); omega)]
    rfl
theorem f_shareV {a b : Nat} (ha : 0 < a) (hab : a ≤ b) (hb : b ≤ 1024) : ∃ c s : Nat, 52 ≤ s ∧ s ≤ 100 ∧ 2 ^ 52 ≤ c ∧ c < 2 ^ 53 ∧ FP.Core.val64 (f_share a b) = .fin false c (-(s : Int)) ∧ f_bits a b = (1075 - s) * 2 ^ 52 + (c - 2 ^ 52) := by
  obtain ⟨c, s, h1, h2, h3, h4, h5, h6⟩ := f_round ha hab hb
  refine ⟨c, s, h1, h2, h3, h4, ?_, h6⟩
  unfold f_share
  rw [if_neg (by omega)]
  obtain ⟨k1, -, e1⟩ := f_int (a := a) ha (by omega)
  obtain ⟨k2, -, e2⟩ := f_int (a := b) (by omega) (by omega)
  rw [FP.Core.val64_ddiv, e1, e2, ← h5]
  unfold FP.Core.quotient
  have pb := Nat.mul_pos (show 0 < b by omega) (Nat.two_pow_pos k2)
  dsimp only
  rw [if_neg (by omega)]
  show FP.Core.roundRatio FP.Core.b64 false (a * 2 ^ k1) (b * 2 ^ k2) (-(k1 : Int) - -(k2 : Int)) = _
  refine FP.Core.roundRatio_congr pb (by omega) ?_
  by_cases c : k1 ≤ k2
  · obtain ⟨d, rfl⟩ : ∃ d, k2 = k1 + d := ⟨k2 - k1, by omega⟩
    rw [show (-(k1 : Int) - -((k1 + d : Nat) : Int) - 0).toNat = d by omega, show (0 - (-(k1 : Int) - -((k1 + d : Nat) : Int))).toNat = 0 by omega, Nat.pow_zero, Nat.mul_one, Nat.pow_add]
    simp only [Nat.mul_assoc, Nat.mul_comm, Nat.mul_left_comm]
  · obtain ⟨d, rfl⟩ : ∃ d, k1 = k2 + d := ⟨k1 - k2, by omega⟩
    rw [show (-((k2 + d : Nat) : Int) - -(k2 : Int) - 0).toNat = 0 by omega, show (0 - (-((k2 + d : Nat) : Int) - -(k2 : Int))).toNat = d by omega, Nat.pow_zero, Nat.mul_one, Nat.pow_add]
    simp only [Nat.mul_assoc, Nat.mul_comm, Nat.mul_left_comm]
/-- what is a number is no NaN -/
theorem f_n64 {x : UInt64} {s : Bool} {c : Nat} {q : Int} (h : FP.Core.val64 x = .fin s c q) : vf_n64 x := by
  unfold FP.Core.val64 FP.Core.decode at h
  have hE : FP.Core.fieldE FP.Core.b64 x.toNat ≠ 2047 := by
    intro g
    rw [if_pos (by rw [g]; decide)] at h
    split at h <;> cases h
  unfold FP.Core.fieldE at hE
  rw [f_tails, show FP.Core.b64.exps = 2 ^ 11 by decide] at hE
  unfold vf_n64
  rw [UInt64.le_iff_toNat_le, UInt64.toNat_and]
  have e1 : (0x7fffffffffffffff : UInt64).toNat = 2 ^ 63 - 1 := by decide
  have e2 : (0x7ff0000000000000 : UInt64).toNat = 2047 * 2 ^ 52 := by decide
  rw [e1, e2, Nat.and_two_pow_sub_one_eq_mod]
  omega
/-- twice -/
theorem f_dbl {y : UInt64} {c : Nat} {q : Int} (h : FP.Core.val64 y = .fin false c q) (h1 : 2 ^ 52 ≤ c) (h2 : c < 2 ^ 53) (h3 : -1074 ≤ q) (h4 : q < 971) : FP.Core.val64 (FP.Core.dmul y 4611686018427387904) = .fin false c (q + 1) := by
  have e2 : FP.Core.val64 4611686018427387904 = .fin false (2 ^ 52) (-51) := by decide +kernel
  rw [FP.Core.val64_dmul, h, e2]
  show FP.Core.roundRatio FP.Core.b64 false (c * 2 ^ 52) 1 (q + -51) = _
  refine FP.Core.roundRatio_exact FP.Core.good_b64 (by decide) ⟨by rw [f_p]; exact h2, by rw [f_qmin]; omega, by rw [f_qmax]; omega, Or.inr (by rw [f_tails]; exact h1)⟩ ?_
  rw [show (q + -51 - (q + 1)).toNat = 0 by omega, show (q + 1 - (q + -51)).toNat = 52 by omega]
  simp
/-- the fraction: what is above one, in units of the last figure -/
theorem f_dif {d : Nat} : FP.Core.exactSum (.fin false (2 ^ 52 + d) (-52)) (FP.Core.negate (.fin false (2 ^ 52) (-52))) = .fin false d (-52) := by
  have e3 : FP.Core.sumUnits false (2 ^ 52 + d) (-52) true (2 ^ 52) (-52) (min (-52) (-52)) = (d : Int) := by
    unfold FP.Core.sumUnits FP.Core.signed FP.Core.inUnits
    rw [show ((-52 : Int) - min (-52) (-52)).toNat = 0 from by decide]
    simp only [Nat.pow_zero, Nat.mul_one, Bool.false_eq_true, if_false, if_true]
    omega
  have e5 : FP.Core.exactSum (.fin false (2 ^ 52 + d) (-52)) (FP.Core.negate (.fin false (2 ^ 52) (-52))) = FP.Core.Datum.fin (FP.Core.sumSign false true (FP.Core.sumUnits false (2 ^ 52 + d) (-52) true (2 ^ 52) (-52) (min (-52) (-52)))) (FP.Core.sumUnits false (2 ^ 52 + d) (-52) true (2 ^ 52) (-52) (min (-52) (-52))).natAbs (min (-52) (-52)) := by
    unfold FP.Core.negate FP.Core.exactSum
    rfl
  rw [e5, e3]
  have e4 : FP.Core.sumSign false true (d : Int) = false := by
    unfold FP.Core.sumSign
    split
    · rfl
    · exact decide_eq_false (by omega)
  rw [e4, Int.natAbs_natCast]
  rfl
theorem f_dif2 {d : Nat} (hd : d < 2 ^ 52) : ∃ (m : Nat) (q : Int), FP.Core.roundRatio FP.Core.b64 false d 1 (-52) = .fin false m q ∧ (m = 0 ∧ d = 0 ∨ ∃ t : Nat, t ≤ 51 ∧ q = (t : Int) - 104 ∧ m = d * 2 ^ (52 - t) ∧ 2 ^ 52 ≤ m ∧ m < 2 ^ 53) := by
  by_cases c0 : d = 0
  · refine ⟨0, FP.Core.b64.qmin, ?_, Or.inl ⟨rfl, c0⟩⟩
    rw [c0]
    rfl
  · have l1 : 2 ^ d.log2 ≤ d := Nat.log2_self_le c0
    have l2 : d < 2 ^ (d.log2 + 1) := Nat.lt_log2_self
    have l3 : d.log2 < 52 := (Nat.pow_lt_pow_iff_right (by decide)).mp (Nat.lt_of_le_of_lt l1 hd)
    generalize d.log2 = t at l1 l2 l3
    have p1 : 2 ^ t * 2 ^ (52 - t) = 2 ^ 52 := by rw [← Nat.pow_add]; congr 1; omega
    have p2 : 2 ^ (t + 1) * 2 ^ (52 - t) = 2 ^ 53 := by rw [← Nat.pow_add]; congr 1; omega
    have q1 := Nat.mul_le_mul_right (2 ^ (52 - t)) l1
    have q2 := Nat.mul_lt_mul_of_pos_right l2 (Nat.two_pow_pos (52 - t))
    rw [p1] at q1
    rw [p2] at q2
    refine ⟨d * 2 ^ (52 - t), (t : Int) - 104, ?_, Or.inr ⟨t, by omega, rfl, rfl, q1, q2⟩⟩
    refine FP.Core.roundRatio_exact FP.Core.good_b64 (by decide) ⟨by rw [f_p]; exact q2, by rw [f_qmin]; omega, by rw [f_qmax]; omega, Or.inr (by rw [f_tails]; exact q1)⟩ ?_
    rw [show (-52 - ((t : Int) - 104)).toNat = 52 - t by omega, show ((t : Int) - 104 - -52).toNat = 0 by omega]
    simp
theorem f_dif3 {m d : Nat} {q : Int} (hm : m = 0 ∧ d = 0 ∨ ∃ t : Nat, t ≤ 51 ∧ q = (t : Int) - 104 ∧ m = d * 2 ^ (52 - t) ∧ 2 ^ 52 ≤ m ∧ m < 2 ^ 53) : ∃ (m' : Nat) (q' : Int), FP.Core.roundRatio FP.Core.b64 false (m * 2 ^ 52) 1 (q + 0) = .fin false m' q' ∧ FP.Core.truncate false m' q' = (d : Int) := by
  rcases hm with ⟨hm, hc⟩ | ⟨t, ht, hq, hm, g1, g2⟩
  · refine ⟨0, FP.Core.b64.qmin, ?_, ?_⟩
    · rw [hm, Nat.zero_mul]
      rfl
    · rw [hc]
      decide +kernel
  · refine ⟨m, q + 52, ?_, ?_⟩
    · refine FP.Core.roundRatio_exact FP.Core.good_b64 (by decide) ⟨by rw [f_p]; exact g2, by rw [f_qmin]; omega, by rw [f_qmax]; omega, Or.inr (by rw [f_tails]; exact g1)⟩ ?_
      rw [show (q + 0 - (q + 52)).toNat = 0 by omega, show (q + 52 - (q + 0)).toNat = 52 by omega, Nat.pow_zero, Nat.mul_one, Nat.mul_one]
    · unfold FP.Core.truncate FP.Core.signed
      rw [hq, show ((t : Int) - 104 + 52).toNat = 0 by omega, show (-((t : Int) - 104 + 52)).toNat = 52 - t by omega, hm, Nat.pow_zero, Nat.mul_one, Nat.mul_div_cancel _ (Nat.two_pow_pos _)]
      rfl
theorem f_frac {y : UInt64} {d : Nat} (h : FP.Core.val64 y = .fin false (2 ^ 52 + d) (-52)) (hd : d < 2 ^ 52) : vf_n64 (FP.Core.dsub y 0x3ff0000000000000) ∧ vf_n64 (FP.Core.dmul (FP.Core.dsub y 0x3ff0000000000000) 4841369599423283200) ∧ FP.Core.d2l (FP.Core.dmul (FP.Core.dsub y 0x3ff0000000000000) 4841369599423283200) = lN d := by
  have e1 : FP.Core.val64 0x3ff0000000000000 = .fin false (2 ^ 52) (-52) := by decide +kernel
  have e2 : FP.Core.val64 4841369599423283200 = .fin false (2 ^ 52) 0 := by decide +kernel
  obtain ⟨m, q, e3, hm⟩ := f_dif2 hd
  have e3' : FP.Core.val64 (FP.Core.dsub y 0x3ff0000000000000) = .fin false m q := by
    rw [FP.Core.val64_dsub, h, e1, f_dif]
    exact e3
  generalize FP.Core.dsub y 0x3ff0000000000000 = z at e3' ⊢
  refine ⟨f_n64 e3', ?_⟩
  obtain ⟨m', q', e4, e5⟩ := f_dif3 hm
  have e4' : FP.Core.val64 (FP.Core.dmul z 4841369599423283200) = .fin false m' q' := by
    rw [FP.Core.val64_dmul, e3', e2]
    exact e4
  generalize FP.Core.dmul z 4841369599423283200 = v at e4' ⊢
  refine ⟨f_n64 e4', ?_⟩
  unfold FP.Core.d2l FP.Core.toL
  have e6 : FP.Core.decode FP.Core.b64 v.toNat = .fin false m' q' := e4'
  rw [e6]
  unfold FP.Core.toInt
  dsimp only
  rw [e5]
  have e7 : max (-2 ^ 63) (min (2 ^ 63 - 1) (d : Int)) = (d : Int) := by omega
  rw [e7]
  rfl
