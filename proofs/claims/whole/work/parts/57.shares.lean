-- SHARES: THE WALKS
theorem f_share_n {a b : Nat} (hab : a ≤ b) (hb : b ≤ 1024) : vf_n64 (f_share a b) := by
  by_cases ha : a = 0
  · rw [ha]
    exact f_n64 (f_share0 hb)
  · obtain ⟨c, s, -, -, -, -, h, -⟩ := f_shareV (a := a) (by omega) hab hb
    exact f_n64 h
theorem f_cmp0 {x : UInt64} (h : FP.Core.val64 x = .fin false 0 FP.Core.b64.qmin) : FP.Core.dcmp x 0 = some .eq := by
  show FP.Core.order (FP.Core.val64 x) (FP.Core.val64 0) = _
  rw [h]
  decide +kernel
theorem f_cmpI {a b : Int} : compare a b = if a < b then .lt else if a = b then .eq else .gt := rfl
theorem f_cmp0p {x : UInt64} {c : Nat} {q : Int} (h : FP.Core.val64 x = .fin false c q) (hc : 0 < c) : FP.Core.dcmp x 0 = some .gt := by
  show FP.Core.order (FP.Core.val64 x) (FP.Core.val64 0) = _
  rw [h, show FP.Core.val64 0 = .fin false 0 FP.Core.b64.qmin from FP.Core.val64_dconst0]
  show some (compare (FP.Core.signed false (FP.Core.inUnits c q (min q FP.Core.b64.qmin))) (FP.Core.signed false (FP.Core.inUnits 0 FP.Core.b64.qmin (min q FP.Core.b64.qmin)))) = _
  have e1 : FP.Core.signed false (FP.Core.inUnits 0 FP.Core.b64.qmin (min q FP.Core.b64.qmin)) = 0 := by
    unfold FP.Core.inUnits
    rw [Nat.zero_mul]
    rfl
  have e2 : 0 < FP.Core.signed false (FP.Core.inUnits c q (min q FP.Core.b64.qmin)) := by
    show (0 : Int) < ((FP.Core.inUnits c q (min q FP.Core.b64.qmin) : Nat) : Int)
    have : 0 < FP.Core.inUnits c q (min q FP.Core.b64.qmin) := Nat.mul_pos hc (Nat.two_pow_pos _)
    omega
  rw [e1, f_cmpI, if_neg (by omega), if_neg (by omega)]
theorem f_cmp1 {y : UInt64} {c r : Nat} (h : FP.Core.val64 y = .fin false c (-52 - (r : Int))) (h1 : 2 ^ 52 ≤ c) (h2 : c < 2 ^ 53) : (r = 0 → (0 : Int32) ≤ Op.cmpValue (FP.dcmp y 0x3ff0000000000000) .g) ∧ (0 < r → ¬ (0 : Int32) ≤ Op.cmpValue (FP.dcmp y 0x3ff0000000000000) .g) := by
  have e : FP.dcmp y 0x3ff0000000000000 = some (compare ((c : Nat) : Int) ((2 ^ 52 * 2 ^ r : Nat) : Int)) := by
    show FP.Core.order (FP.Core.val64 y) (FP.Core.val64 FP.Core.dconst1) = _
    rw [h, FP.Core.val64_dconst1]
    show some (compare (FP.Core.signed false (FP.Core.inUnits c (-52 - (r : Int)) (min (-52 - (r : Int)) (-52)))) (FP.Core.signed false (FP.Core.inUnits (2 ^ 52) (-52) (min (-52 - (r : Int)) (-52))))) = _
    unfold FP.Core.inUnits
    rw [show (-52 - (r : Int) - min (-52 - (r : Int)) (-52)).toNat = 0 by omega, show (-52 - min (-52 - (r : Int)) (-52)).toNat = r by omega, Nat.pow_zero, Nat.mul_one]
    rfl
  rw [e, f_cmpI]
  refine ⟨fun hr => ?_, fun hr => ?_⟩
  · rw [hr, Nat.pow_zero, Nat.mul_one, if_neg (by omega)]
    split <;> decide
  · have : 2 ^ 1 ≤ 2 ^ r := Nat.pow_le_pow_right (by decide) hr
    have : 2 ^ 52 * 2 ^ 1 ≤ 2 ^ 52 * 2 ^ r := Nat.mul_le_mul_left _ this
    rw [if_pos (by omega)]
    decide
theorem lN_t {n : Nat} (h : n < 2 ^ 63) : (lN n).toInt = (n : Int) := lg_ofNat_toInt h
theorem lN_eq' {a b : Nat} (ha : a < 2 ^ 63) (hb : b < 2 ^ 63) : lN a = lN b ↔ a = b := by
  rw [← Int64.toInt_inj, lN_t ha, lN_t hb]
  omega
theorem lN_le' {a b : Nat} (ha : a < 2 ^ 63) (hb : b < 2 ^ 63) : lN a ≤ lN b ↔ a ≤ b := by
  rw [Int64.le_iff_toInt_le, lN_t ha, lN_t hb]
  omega
theorem lN_lt' {a b : Nat} (ha : a < 2 ^ 63) (hb : b < 2 ^ 63) : lN a < lN b ↔ a < b := by
  rw [Int64.lt_iff_toInt_lt, lN_t ha, lN_t hb]
  omega
theorem lN_div {a b : Nat} (ha : a < 2 ^ 63) (hb : b < 2 ^ 63) : lN a / lN b = lN (a / b) := by
  have hd : a / b ≤ a := Nat.div_le_self _ _
  apply Int64.toInt_inj.mp
  rw [Int64.toInt_div, lN_t ha, lN_t hb, lN_t (by omega), Int.tdiv_eq_ediv_of_nonneg (by omega), ← Int.natCast_ediv]
  generalize a / b = q at hd ⊢
  exact Int.bmod_eq_of_le (by omega) (by omega)
theorem lN_rem {a b : Nat} (ha : a < 2 ^ 63) (hb : b < 2 ^ 63) : lN a - lN a / lN b * lN b = lN (a % b) := by
  have hd : a / b * b ≤ a := Nat.div_mul_le_self _ _
  rw [lN_div ha hb, lN_mul, lN_sub hd]
  have := Nat.div_add_mod a b
  rw [Nat.mul_comm] at this
  congr 1
  omega
theorem lN_shl : ∀ E : Nat, E < 1100 → lN E <<< ((nI 52).toInt64 &&& 63) = lN (E * 2 ^ 52) := by decide +kernel
theorem lN_c52 : (4503599627370496 : Int64) = lN (2 ^ 52) := by decide
theorem lN_c53 : (9007199254740992 : Int64) = lN (2 ^ 53) := by decide
theorem lN_c2 : (2 : Int64) = lN 2 := by decide
theorem lN_c1023 : (1023 : Int64) = lN 1023 := by decide
abbrev pX0_shareOfHits : Q_P := fun av M K KX => ∃ (j : Nat) (S : Nat → Int32) (a b : Nat), RC j M S ∧ S 224 = nI a ∧ S 225 = nI b ∧ a + b ≤ 1024 ∧ av = [.inr (.inl (17, j, 0))] ∧ K (some (.inr (.inr (.inr (f_share a (a + b)))))) M
theorem cX0_shareOfHits_ct {l : Launch} {b : Bool} (hl0 : l.stackTraces = false) : q_Ct l b 3 pX0_shareOfHits := by
  refine q_meth (by decide +kernel) hl0 TX0_shareOfHits kX0_shareOfHits ?_
  intro av M K KX hwf
  rintro ⟨j, S, a, b, hR, ha, hb, hab, rfl, hK⟩
  refine ⟨Nat.le_of_ble_eq_true rfl, fun Z hz hw => ?_⟩
  have e6 : M.1 17 j 0 6 = nI a := (hR.2.2.2.2.2.2.2 4 (by decide)).trans ha
  have e7 : M.1 17 j 0 7 = nI b := (hR.2.2.2.2.2.2.2 5 (by decide)).trans hb
  have hn := f_share_n (a := a) (b := a + b) (by omega) hab
  apply hz [] 60
  refine And.intro (fun (g : M.1 17 j 0 6 + M.1 17 j 0 7 = nI 0) => ?_) (fun (g : ¬ M.1 17 j 0 6 + M.1 17 j 0 7 = nI 0) => ?_)
  · rw [e6, e7, nI_add, nI_eq (by omega) (by omega)] at g
    rw [show f_share a (a + b) = 0 by unfold f_share; rw [if_pos g]] at hK
    exact hK
  · rw [e6, e7, nI_add, nI_eq (by omega) (by omega)] at g
    have e : FP.ddiv (FP.i2d (M.1 17 j 0 6)) (FP.i2d (M.1 17 j 0 6 + M.1 17 j 0 7)) = f_share a (a + b) := by
      rw [e6, e7, nI_add]
      unfold f_share
      rw [if_neg g]
    rw [← e] at hK hn
    exact And.intro hn hK
abbrev pX8_hitShare : Q_P := fun av M K KX => ∃ (S : Nat → Int32) (a b : Nat), RC 0 M S ∧ S 224 = nI a ∧ S 225 = nI b ∧ a + b ≤ 1024 ∧ av = [.inr (.inl (0, 0, 0))] ∧ K (some (.inr (.inr (.inr (f_share a (a + b)))))) M
theorem cX8_hitShare_ct {l : Launch} {b : Bool} (hl0 : l.stackTraces = false) : q_Ct l b 132 pX8_hitShare := by
  refine q_meth (by decide +kernel) hl0 TX8_hitShare kX8_hitShare ?_
  intro av M K KX hwf
  rintro ⟨S, a, b, hR, ha, hb, hab, rfl, hK⟩
  refine ⟨Nat.le_of_ble_eq_true rfl, fun Z hz hw => ?_⟩
  apply hz [] 60
  exact Exists.intro _ ⟨cX0_shareOfHits_ct hl0, 0, S, a, b, hR, ha, hb, hab, rfl, hK⟩
abbrev pX9_hitShare : Q_P := fun av M K KX => ∃ (a b : Nat), M.1 22 0 0 224 = nI a ∧ M.1 22 0 0 225 = nI b ∧ a + b ≤ 1024 ∧ av = [.inr (.inl (21, 0, 0))] ∧ K (some (.inr (.inr (.inr (f_share a (a + b)))))) (q_si M (21, 0, 0) 3 (nI 0))
theorem cX9_hitShare_ct {l : Launch} {b : Bool} (hl0 : l.stackTraces = false) : q_Ct l b 260 pX9_hitShare := by
  refine q_meth (by decide +kernel) hl0 TX9_hitShare kX9_hitShare ?_
  intro av M K KX hwf
  rintro ⟨a, b, e6, e7, hab, rfl, hK⟩
  refine ⟨Nat.le_of_ble_eq_true rfl, fun Z hz hw => ?_⟩
  have hn := f_share_n (a := a) (b := a + b) (by omega) hab
  apply hz [] 60
  refine Exists.intro 224 ⟨rfl, by omega, ?_⟩
  refine Exists.intro 225 ⟨rfl, by omega, ?_⟩
  refine And.intro (fun (g : M.1 22 0 0 224 + M.1 22 0 0 225 = nI 0) => ?_) (fun (g : ¬ M.1 22 0 0 224 + M.1 22 0 0 225 = nI 0) => ?_)
  · rw [e6, e7, nI_add, nI_eq (by omega) (by omega)] at g
    rw [show f_share a (a + b) = 0 by unfold f_share; rw [if_pos g]] at hK
    exact hK
  · rw [e6, e7, nI_add, nI_eq (by omega) (by omega)] at g
    refine Exists.intro 224 ⟨rfl, by omega, ?_⟩
    have e : FP.ddiv (FP.i2d (M.1 22 0 0 224)) (FP.i2d (M.1 22 0 0 224 + M.1 22 0 0 225)) = f_share a (a + b) := by
      rw [e6, e7, nI_add]
      unfold f_share
      rw [if_neg g]
    rw [← e] at hK hn
    exact And.intro hn hK
abbrev pX8_bitsOfShare : Q_P := fun av M K KX => ∃ (a b : Nat), a ≤ b ∧ b ≤ 1024 ∧ av = [.inr (.inr (.inr (f_share a b)))] ∧ K (some (.inr (.inr (.inl (lN (f_bits a b)))))) M
theorem cX8_bitsOfShare_ct {l : Launch} {b : Bool} (hl0 : l.stackTraces = false) : q_Ct l b 138 pX8_bitsOfShare := by
  refine q_meth (by decide +kernel) hl0 TX8_bitsOfShare kX8_bitsOfShare ?_
  intro av M K KX hwf
  rintro ⟨a, b, hab, hb, rfl, hK⟩
  refine ⟨Nat.le_of_ble_eq_true rfl, fun Z hz hw => ?_⟩
  by_cases ha : a = 0
  · rw [show f_bits a b = 0 by unfold f_bits; rw [if_pos ha]] at hK
    have hv : FP.Core.val64 (f_share a b) = .fin false 0 FP.Core.b64.qmin := by
      rw [ha]
      exact f_share0 hb
    have hc : Op.cmpValue (FP.dcmp (f_share a b) 0) .g = 0 := by
      rw [show FP.dcmp (f_share a b) 0 = some .eq from f_cmp0 hv]
      rfl
    apply hz [] 60
    refine And.intro (fun (g : (0 : Int32) < Op.cmpValue (FP.dcmp (f_share a b) 0) .g) => absurd g (by rw [hc]; decide)) (fun _ => ?_)
    exact hK
  · obtain ⟨c, s, s1, s2, c1, c2, hv, hbits⟩ := f_shareV (a := a) (by omega) hab hb
    rw [hbits] at hK
    have hc : Op.cmpValue (FP.dcmp (f_share a b) 0) .g = 1 := by
      rw [show FP.dcmp (f_share a b) 0 = some .gt from f_cmp0p hv (by omega)]
      rfl
    generalize f_share a b = x0 at hv hc
    obtain ⟨d, rfl⟩ : ∃ d, c = 2 ^ 52 + d := ⟨c - 2 ^ 52, by omega⟩
    have hd : d < 2 ^ 52 := by omega
    rw [Nat.add_sub_cancel_left] at hK
    have loop : ∀ (r i E : Nat) (y : UInt64), FP.Core.val64 y = .fin false (2 ^ 52 + d) (-52 - (r : Int)) → i + r ≤ 200 → E = 1075 - s + r → Z 0 18 [(6, .inl (nI i)), (4, .inr (.inr (.inl (lN E)))), (2, .inr (.inr (.inr y))), (0, .inr (.inr (.inr x0)))] [] M := by
      intro r
      induction r with
      | zero =>
        intro i E y hy hi hE
        have hcmp := (f_cmp1 hy c1 c2).1 rfl
        obtain ⟨n1, n2, n3⟩ := f_frac (y := y) (d := d) (by simpa using hy) hd
        apply hz [18] 60
        refine And.intro (fun (g : nI 1023 ≤ nI i) => absurd ((nI_leI (by omega) (by omega)).mp g) (by omega)) (fun _ => ?_)
        refine And.intro (fun _ => ?_) (fun g => absurd hcmp g)
        refine And.intro n1 (And.intro n2 ?_)
        have hh := hK
        rw [← lN_add, ← lN_shl (1075 - s) (by omega), ← n3] at hh
        rw [hE]
        exact hh
      | succ r ih =>
        intro i E y hy hi hE
        have hcmp := (f_cmp1 hy c1 c2).2 (by omega)
        have hdb := f_dbl hy c1 c2 (by omega) (by omega)
        apply hz [18] 60
        refine And.intro (fun (g : nI 1023 ≤ nI i) => absurd ((nI_leI (by omega) (by omega)).mp g) (by omega)) (fun _ => ?_)
        refine And.intro (fun g => absurd g hcmp) (fun _ => ?_)
        refine And.intro (f_n64 hdb) ?_
        have hh := ih (i + 1) (E - 1) _ (by rw [hdb]; congr 1; omega) (by omega) (by omega)
        rw [← nI_add, ← lN_sub (show 1 ≤ E by omega)] at hh
        exact hh
    have h18 := loop (s - 52) 1 1023 x0 (by rw [hv]; congr 1; omega) (by omega) (by omega)
    rw [← lN_c1023] at h18
    apply hz [18] 60
    refine And.intro (fun _ => ?_) (fun (g : ¬ (0 : Int32) < Op.cmpValue (FP.dcmp x0 0) .g) => absurd (by rw [hc]; decide) g)
    exact h18
abbrev pX9_bits : Q_P := fun av M K KX => ∃ (a b : Nat), a ≤ b ∧ b ≤ 512 ∧ av = [.inl (nI a), .inl (nI b)] ∧ K (some (.inr (.inr (.inl (lN (f_bits a b)))))) M
theorem cX9_bits_ct {l : Launch} {b : Bool} (hl0 : l.stackTraces = false) : q_Ct l b 261 pX9_bits := by
  refine q_meth (by decide +kernel) hl0 TX9_bits kX9_bits ?_
  intro av M K KX hwf
  rintro ⟨a, b, hab, hb, rfl, hK⟩
  refine ⟨Nat.le_of_ble_eq_true rfl, fun Z hz hw => ?_⟩
  by_cases ha : a = 0
  · rw [show f_bits a b = 0 by unfold f_bits; rw [if_pos ha]] at hK
    apply hz [] 60
    refine And.intro (fun _ => hK) (fun (g : ¬ nI a = nI 0) => absurd (by rw [ha]) g)
  · have eb : (nI b).toInt64 = lN b := nI_l (by omega)
    have eA : (nI a).toInt64 = lN a := nI_l (by omega)
    have hb0 : 0 < b := by omega
    have hbz : ¬ (nI b).toInt64 = 0 := by
      rw [eb]
      intro g
      have := (lN_eq' (a := b) (b := 0) (by omega) (by omega)).mp g
      omega
    have hbits : f_bits a b = if f_n a b = 2 ^ 53 then (1075 - (f_sh a b - 1)) * 2 ^ 52 else (1075 - f_sh a b) * 2 ^ 52 + (f_n a b - 2 ^ 52) := if_neg (by omega)
    rw [hbits] at hK
    obtain ⟨h1, h2, h3⟩ := f_s_spec (a := a) (b := b) (by omega) hb0 (by omega) 100 0 (by omega) (Or.inl rfl)
    have e0 : f_s a b 100 0 = f_sh a b := rfl
    rw [e0] at h1 h2 h3
    have en : f_n a b = FP.Core.nearest (a * 2 ^ f_sh a b) b := rfl
    have loop : ∀ (f i : Nat), i + f = 100 → a * 2 ^ i < 2 ^ 62 → f_s a b f i = f_sh a b → (a * 2 ^ f_sh a b < 2 ^ 62 → Z 0 35 [(4, .inl (nI (f_sh a b))), (2, .inr (.inr (.inl (lN (a * 2 ^ f_sh a b))))), (0, .inl (nI a)), (1, .inl (nI b))] [] M) → Z 0 12 [(4, .inl (nI i)), (2, .inr (.inr (.inl (lN (a * 2 ^ i))))), (0, .inl (nI a)), (1, .inl (nI b))] [] M := by
      intro f
      induction f with
      | zero =>
        intro i hi hA
        have e : i = 100 := by omega
        subst e
        have : 1 * 2 ^ 100 ≤ a * 2 ^ 100 := Nat.mul_le_mul_right _ (by omega)
        exact absurd hA (by omega)
      | succ f ih =>
        intro i hi hA hs hk
        have hs : (if a * 2 ^ i / b < 2 ^ 52 then f_s a b f (i + 1) else i) = f_sh a b := hs
        have hdv : a * 2 ^ i / b ≤ a * 2 ^ i := Nat.div_le_self _ _
        have hiff : (0 : Int32) ≤ lg_cmp (lN (a * 2 ^ i) / (nI b).toInt64) 4503599627370496 ↔ 2 ^ 52 ≤ a * 2 ^ i / b := by
          rw [lg_cmp_ge, eb, lN_div (by omega) (by omega), lN_c52, lN_le' (by omega) (by omega)]
        apply hz [12, 35] 60
        refine And.intro hbz ?_
        refine And.intro (fun g => ?_) (fun g => ?_)
        · have g := hiff.mp g
          rw [if_neg (by omega)] at hs
          rw [← hs] at hk
          exact hk hA
        · have g : ¬ 2 ^ 52 ≤ a * 2 ^ i / b := fun h => g (hiff.mpr h)
          rw [if_pos (by omega)] at hs
          have hlt := (Nat.div_lt_iff_lt_mul hb0).mp (show a * 2 ^ i / b < 2 ^ 52 by omega)
          have hlt2 : 2 ^ 52 * b ≤ 2 ^ 52 * 512 := Nat.mul_le_mul_left _ hb
          have e2 : a * 2 ^ (i + 1) = 2 * (a * 2 ^ i) := by rw [Nat.pow_succ, ← Nat.mul_assoc, Nat.mul_comm]
          have hh := ih (i + 1) (by omega) (by omega) hs hk
          rw [← nI_add, e2, ← lN_mul, ← lN_c2] at hh
          exact hh
    have start := loop 100 0 (by omega) (by omega) rfl
    rw [Nat.pow_zero, Nat.mul_one, ← eA] at start
    have tail : a * 2 ^ f_sh a b < 2 ^ 62 → Z 0 35 [(4, .inl (nI (f_sh a b))), (2, .inr (.inr (.inl (lN (a * 2 ^ f_sh a b))))), (0, .inl (nI a)), (1, .inl (nI b))] [] M := by
      intro hA
      generalize f_n a b = N at hK en
      generalize f_sh a b = s at hK en hA h1 h2 h3
      generalize hAA : a * 2 ^ s = A at hA h1 en
      have hF : A / b < 2 ^ 53 := by
        rcases h2 with h2 | h2
        · have := Nat.div_le_self A b
          rw [h2] at hAA
          omega
        · have := (Nat.div_lt_iff_lt_mul hb0).mp h2
          obtain ⟨t, ht⟩ : ∃ t, s = t + 1 ∨ s = 0 := ⟨s - 1, by omega⟩
          refine (Nat.div_lt_iff_lt_mul hb0).mpr ?_
          rcases ht with ht | ht
          · rw [ht, Nat.add_sub_cancel] at this
            rw [ht, Nat.pow_succ, ← Nat.mul_assoc] at hAA
            omega
          · rw [ht] at this hAA
            have : a * 2 ^ (0 - 1) = a * 2 ^ 0 := rfl
            omega
      have hm : A % b < b := Nat.mod_lt _ hb0
      have edv : lN A / (nI b).toInt64 = lN (A / b) := by rw [eb, lN_div (by omega) (by omega)]
      have erm : (lN A - lN A / (nI b).toInt64 * (nI b).toInt64) * 2 = lN (A % b * 2) := by rw [eb, lN_rem (by omega) (by omega), lN_c2, lN_mul]
      have e2m : lN (A / b) - lN (A / b) / 2 * 2 = lN (A / b % 2) := by rw [lN_c2, lN_rem (by omega) (by omega)]
      have fin : ∀ dl : Nat, N = A / b + dl → dl ≤ 1 → Z 0 85 [(7, .inr (.inr (.inl (lN (A % b * 2))))), (5, .inr (.inr (.inl (lN (A / b))))), (4, .inl (nI s)), (2, .inr (.inr (.inl (lN A)))), (0, .inl (nI a)), (1, .inl (nI b))] [.inr (.inr (.inl (lN dl))), .inr (.inr (.inl (lN (A / b))))] M := by
        intro dl hN hdl
        have hs1 : 0 < s := by
          rcases Nat.eq_zero_or_pos s with g | g
          · rw [g, Nat.pow_zero, Nat.mul_one] at hAA
            have := Nat.div_le_self A b
            omega
          · exact g
        have i0 : lg_cmp (lN (A / b) + lN dl) 9007199254740992 = 0 ↔ N = 2 ^ 53 := by
          rw [lg_cmp_eq, lN_add, lN_c53, lN_eq' (by omega) (by omega), hN]
        apply hz [] 60
        refine And.intro (fun g => ?_) (fun g => ?_)
        · have g := i0.mp g
          rw [if_pos g] at hK
          have e1 : (nI 1075 - (nI s + q_i (-1))).toInt64 * 4503599627370496 + (4503599627370496 - 4503599627370496) = lN ((1075 - (s - 1)) * 2 ^ 52) := by
            rw [q_dm1, pk_sub hs1, pk_sub (by omega), nI_l (by omega), lN_c52, lN_mul, lN_sub (Nat.le_refl _), lN_add, Nat.sub_self, Nat.add_zero]
          rw [← e1] at hK
          exact hK
        · have g : ¬ N = 2 ^ 53 := fun h => g (i0.mpr h)
          rw [if_neg g] at hK
          have e1 : (nI 1075 - nI s).toInt64 * 4503599627370496 + (lN (A / b) + lN dl - 4503599627370496) = lN ((1075 - s) * 2 ^ 52 + (N - 2 ^ 52)) := by
            rw [pk_sub (by omega), nI_l (by omega), lN_c52, lN_mul, lN_add, lN_sub (by omega), lN_add, hN]
          rw [← e1] at hK
          exact hK
      have eN : N = if 2 * (A % b) < b then A / b else if b < 2 * (A % b) then A / b + 1 else A / b + A / b % 2 := en
      have j1 : (0 : Int32) < lg_cmp (lN (A % b * 2)) (nI b).toInt64 ↔ b < 2 * (A % b) := by
        rw [lg_cmp_gt, eb, lN_lt' (by omega) (by omega), Nat.mul_comm]
      have j2 : lg_cmp (lN (A % b * 2)) (nI b).toInt64 = 0 ↔ 2 * (A % b) = b := by
        rw [lg_cmp_eq, eb, lN_eq' (by omega) (by omega), Nat.mul_comm]
      have j3 : lg_cmp (lN (A / b) - lN (A / b) / 2 * 2) (lN 1) = 0 ↔ A / b % 2 = 1 := by
        rw [lg_cmp_eq, e2m, lN_eq' (by omega) (by omega)]
      have s51 : Z 0 51 [(7, .inr (.inr (.inl (lN (A % b * 2))))), (5, .inr (.inr (.inl (lN (A / b))))), (4, .inl (nI s)), (2, .inr (.inr (.inl (lN A)))), (0, .inl (nI a)), (1, .inl (nI b))] [] M := by
        apply hz [85] 60
        refine And.intro (fun g => ?_) (fun g => ?_)
        · have g := j1.mp g
          rw [if_neg (by omega), if_pos g] at eN
          exact fin 1 eN (by omega)
        · have g : ¬ b < 2 * (A % b) := fun h => g (j1.mpr h)
          refine And.intro (fun g2 => ?_) (fun g2 => ?_)
          · have g2 := j2.mp g2
            rw [if_neg (by omega), if_neg (by omega)] at eN
            refine And.intro (by decide) ?_
            refine And.intro (fun g3 => ?_) (fun g3 => ?_)
            · have g3 := j3.mp g3
              exact fin 1 (by omega) (by omega)
            · have g3 : ¬ A / b % 2 = 1 := fun h => g3 (j3.mpr h)
              exact fin 0 (by omega) (by omega)
          · have g2 : ¬ 2 * (A % b) = b := fun h => g2 (j2.mpr h)
            rw [if_pos (by omega)] at eN
            exact fin 0 eN (by omega)
      rw [← edv, ← erm] at s51
      apply hz [51] 60
      exact And.intro hbz (And.intro hbz s51)
    have h12 := start tail
    apply hz [12] 60
    refine And.intro (fun (g : nI a = nI 0) => absurd ((nI_eq (by omega) (by omega)).mp g) ha) (fun _ => ?_)
    exact h12
