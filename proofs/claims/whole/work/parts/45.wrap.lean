-- THE LAW'S WRAPPERS
theorem q_t0 : (nI 0).toInt64 = lN 0 := by decide
theorem q_t1 : (nI 1).toInt64 = lN 1 := by decide
theorem kL_ask : q_chk (q_own 264) (q_ml 264) (q_fr 264) (q_lo 264) (q_b 264) TL_ask = true := by decide +kernel
abbrev pL_ask : Q_P := fun av M K KX => ∃ (S : Nat → Int32) (h : Nat) (G : Nat → Nat → Int32) (kb : Nat → Int32) (T : Nat → Nat → Int32) (n : Nat) (tx : Nat → Nat) (a u : Int32), CV M S h G kb T n tx ∧ av = [.inr (.inl (0, 0, 0)), .inl a, .inl u, .inr (.inl (25, 0, 0))] ∧ (∀ x, x < 20 → a = nI x → s_rg 0 2 u → s_lk S (nI x) (s_n S) = none → s_qd S (nI x) (s_q S) = none → ∀ M', CV M' ((s_as S (nI x) u).2) (s_h1 h) (s_hG h G S) kb T n tx → q_fx M M' → K (some (.inl (nI 0))) (q_sl M' (25, 0, 0) 0 (q_bi ((s_as S (nI x) u).1 = true)).toInt64)) ∧ (¬ s_rg 0 19 a → K (some (.inl (nI 1))) M) ∧ (s_rg 0 19 a → ¬ s_rg 0 2 u → K (some (.inl (nI 2))) M) ∧ (s_rg 0 19 a → s_rg 0 2 u → ¬ (s_lk S a (s_n S) = none ∧ s_qd S a (s_q S) = none) → K (some (.inl (nI 3))) M)
theorem cL_ask_ct {l : Launch} {b : Bool} (hl0 : l.stackTraces = false) : q_CtL l b 264 pL_ask := by
  refine q_methL (by decide) (by decide) TL_ask kL_ask ?_
  intro av M K hwf
  rintro ⟨S, h, G, kb, T, n, tx, a, u, hc, rfl, hK, hX, hX2, hX3⟩
  refine ⟨Nat.le_of_ble_eq_true rfl, fun Z hz => ?_⟩
  apply hz [] 60
  refine Exists.intro _ ⟨⟨rfl, cX8_ask_ct hl0⟩, S, h, G, kb, T, n, tx, a, u, hc, rfl, ?_, ?_, ?_, ?_⟩
  · intro x y1 y2 y3 y4 y5 M' y7 y8
    have hh := hK x y1 y2 y3 y4 y5 M' y7 y8
    by_cases cc : (s_as S (nI x) u).1 = true
    · rw [q_bi_t cc] at hh ⊢
      refine And.intro (fun g => absurd g q_n1) (fun _ => ?_)
      refine Exists.intro 0 ⟨rfl, by decide, ?_⟩
      rw [q_t1] at hh
      exact hh
    · rw [q_bi_f cc] at hh ⊢
      refine And.intro (fun _ => ?_) (fun g => absurd nI_0 g)
      refine Exists.intro 0 ⟨rfl, by decide, ?_⟩
      rw [q_t0] at hh
      exact hh
  · exact fun y0 => fun q => hX y0
  · exact fun y0 y1 => fun q => hX2 y0 y1
  · exact fun y0 y1 y2 => fun q => hX3 y0 y1 y2
theorem kL_giveBack : q_chk (q_own 265) (q_ml 265) (q_fr 265) (q_lo 265) (q_b 265) TL_giveBack = true := by decide +kernel
abbrev pL_giveBack : Q_P := fun av M K KX => ∃ (S : Nat → Int32) (h : Nat) (G : Nat → Nat → Int32) (kb : Nat → Int32) (T : Nat → Nat → Int32) (n : Nat) (tx : Nat → Nat) (a : Int32), CV M S h G kb T n tx ∧ av = [.inr (.inl (0, 0, 0)), .inl a, .inr (.inl (25, 0, 0))] ∧ (∀ x p, x < 20 → a = nI x → s_lk S (nI x) (s_n S) = some p → ∀ M', CV M' ((s_gv S p).2) (s_h1 h) (s_hG h G S) kb T n tx → q_fx M M' → K (some (.inl (nI 0))) (q_sl M' (25, 0, 0) 0 (q_bi (0 < (s_gv S p).1)).toInt64)) ∧ (¬ s_rg 0 19 a → K (some (.inl (nI 1))) M) ∧ (s_rg 0 19 a → s_lk S a (s_n S) = none → K (some (.inl (nI 2))) M)
theorem cL_giveBack_ct {l : Launch} {b : Bool} (hl0 : l.stackTraces = false) : q_CtL l b 265 pL_giveBack := by
  refine q_methL (by decide) (by decide) TL_giveBack kL_giveBack ?_
  intro av M K hwf
  rintro ⟨S, h, G, kb, T, n, tx, a, hc, rfl, hK, hX, hX3⟩
  refine ⟨Nat.le_of_ble_eq_true rfl, fun Z hz => ?_⟩
  apply hz [] 60
  refine Exists.intro _ ⟨⟨rfl, cX8_giveBack_ct hl0⟩, S, h, G, kb, T, n, tx, a, hc, rfl, ?_, ?_, ?_⟩
  · intro x p y2 y3 y4 M' y6 y7
    have hh := hK x p y2 y3 y4 M' y6 y7
    by_cases cc : 0 < (s_gv S p).1
    · rw [q_bi_t cc] at hh ⊢
      refine And.intro (fun g => absurd g q_n1) (fun _ => ?_)
      refine Exists.intro 0 ⟨rfl, by decide, ?_⟩
      rw [q_t1] at hh
      exact hh
    · rw [q_bi_f cc] at hh ⊢
      refine And.intro (fun _ => ?_) (fun g => absurd nI_0 g)
      refine Exists.intro 0 ⟨rfl, by decide, ?_⟩
      rw [q_t0] at hh
      exact hh
  · exact fun y0 => fun q => hX y0
  · exact fun y0 y1 => fun q => hX3 y0 y1
theorem kL_leave : q_chk (q_own 266) (q_ml 266) (q_fr 266) (q_lo 266) (q_b 266) TL_leave = true := by decide +kernel
abbrev pL_leave : Q_P := fun av M K KX => ∃ (S : Nat → Int32) (h : Nat) (G : Nat → Nat → Int32) (kb : Nat → Int32) (T : Nat → Nat → Int32) (n : Nat) (tx : Nat → Nat) (a : Int32), CV M S h G kb T n tx ∧ av = [.inr (.inl (0, 0, 0)), .inl a, .inr (.inl (25, 0, 0))] ∧ (∀ x p, x < 20 → a = nI x → s_qd S (nI x) (s_q S) = some p → ∀ M', CV M' (s_uq S p) (s_h1 h) (s_hG h G S) kb T n tx → q_fx M M' → K (some (.inl (nI 0))) (q_sl M' (25, 0, 0) 0 (S 206 - S (148 + 3 * p)).toInt64)) ∧ (¬ s_rg 0 19 a → K (some (.inl (nI 1))) M) ∧ (s_rg 0 19 a → s_qd S a (s_q S) = none → K (some (.inl (nI 2))) M)
theorem cL_leave_ct {l : Launch} {b : Bool} (hl0 : l.stackTraces = false) : q_CtL l b 266 pL_leave := by
  refine q_methL (by decide) (by decide) TL_leave kL_leave ?_
  intro av M K hwf
  rintro ⟨S, h, G, kb, T, n, tx, a, hc, rfl, hK, hX, hX3⟩
  refine ⟨Nat.le_of_ble_eq_true rfl, fun Z hz => ?_⟩
  apply hz [] 60
  refine Exists.intro _ ⟨⟨rfl, cX8_leave_ct hl0⟩, S, h, G, kb, T, n, tx, a, hc, rfl, ?_, ?_, ?_⟩
  · refine fun y0 y1 y2 y3 y4 y5 y6 y7 => ?_
    refine Exists.intro 0 ⟨rfl, by decide, ?_⟩
    exact hK y0 y1 y2 y3 y4 y5 y6 y7
  · exact fun y0 => fun q => hX y0
  · exact fun y0 y1 => fun q => hX3 y0 y1
theorem kL_use : q_chk (q_own 267) (q_ml 267) (q_fr 267) (q_lo 267) (q_b 267) TL_use = true := by decide +kernel
abbrev pL_use : Q_P := fun av M K KX => ∃ (S : Nat → Int32) (h : Nat) (G : Nat → Nat → Int32) (kb : Nat → Int32) (T : Nat → Nat → Int32) (n : Nat) (tx : Nat → Nat) (a y : Int32), CV M S h G kb T n tx ∧ av = [.inr (.inl (0, 0, 0)), .inl a, .inl y, .inr (.inl (25, 0, 0))] ∧ (∀ x p, x < 20 → a = nI x → s_rg 0 29 y → s_lk S (nI x) (s_n S) = some p → ∀ M', CV M' ((s_us S p y).2) (s_h1 h) (s_hG h G S) kb T n tx → q_fx M M' → K (some (.inl (nI 0))) (q_sl M' (25, 0, 0) 0 (q_bi ((s_us S p y).1 = true)).toInt64)) ∧ (¬ s_rg 0 19 a → K (some (.inl (nI 1))) M) ∧ (s_rg 0 19 a → ¬ s_rg 0 29 y → K (some (.inl (nI 2))) M) ∧ (s_rg 0 19 a → s_rg 0 29 y → s_lk S a (s_n S) = none → K (some (.inl (nI 3))) M)
theorem cL_use_ct {l : Launch} {b : Bool} (hl0 : l.stackTraces = false) : q_CtL l b 267 pL_use := by
  refine q_methL (by decide) (by decide) TL_use kL_use ?_
  intro av M K hwf
  rintro ⟨S, h, G, kb, T, n, tx, a, y, hc, rfl, hK, hX, hX2, hX3⟩
  refine ⟨Nat.le_of_ble_eq_true rfl, fun Z hz => ?_⟩
  apply hz [] 60
  refine Exists.intro _ ⟨⟨rfl, cX8_use_ct hl0⟩, S, h, G, kb, T, n, tx, a, y, hc, rfl, ?_, ?_, ?_, ?_⟩
  · intro x p y2 y3 y4 y5 M' y7 y8
    have hh := hK x p y2 y3 y4 y5 M' y7 y8
    by_cases cc : (s_us S p y).1 = true
    · rw [q_bi_t cc] at hh ⊢
      refine And.intro (fun g => absurd g q_n1) (fun _ => ?_)
      refine Exists.intro 0 ⟨rfl, by decide, ?_⟩
      rw [q_t1] at hh
      exact hh
    · rw [q_bi_f cc] at hh ⊢
      refine And.intro (fun _ => ?_) (fun g => absurd nI_0 g)
      refine Exists.intro 0 ⟨rfl, by decide, ?_⟩
      rw [q_t0] at hh
      exact hh
  · exact fun y0 => fun q => hX y0
  · exact fun y0 y1 => fun q => hX2 y0 y1
  · exact fun y0 y1 y2 => fun q => hX3 y0 y1 y2
theorem kL_breakOff : q_chk (q_own 268) (q_ml 268) (q_fr 268) (q_lo 268) (q_b 268) TL_breakOff = true := by decide +kernel
abbrev pL_breakOff : Q_P := fun av M K KX => ∃ (S : Nat → Int32) (h : Nat) (G : Nat → Nat → Int32) (kb : Nat → Int32) (T : Nat → Nat → Int32) (n : Nat) (tx : Nat → Nat) (a : Int32), CV M S h G kb T n tx ∧ av = [.inr (.inl (0, 0, 0)), .inl a, .inr (.inl (25, 0, 0))] ∧ (∀ p, p < s_n S → a = nI p → ∀ M', CV M' (upd S (4 + 12 * p) (nI 1)) (s_h1 h) (s_hG h G S) kb T n tx → q_fx M M' → K (some (.inl (nI 0))) (q_sl M' (25, 0, 0) 0 (q_bi (S (4 + 12 * p) = nI 0)).toInt64)) ∧ (¬ s_lp1 S a → K (some (.inl (nI 1))) M)
theorem cL_breakOff_ct {l : Launch} {b : Bool} (hl0 : l.stackTraces = false) : q_CtL l b 268 pL_breakOff := by
  refine q_methL (by decide) (by decide) TL_breakOff kL_breakOff ?_
  intro av M K hwf
  rintro ⟨S, h, G, kb, T, n, tx, a, hc, rfl, hK, hX⟩
  refine ⟨Nat.le_of_ble_eq_true rfl, fun Z hz => ?_⟩
  apply hz [] 60
  refine Exists.intro _ ⟨⟨rfl, cX8_breakOff_ct hl0⟩, S, h, G, kb, T, n, tx, a, hc, rfl, ?_, ?_⟩
  · intro p y1 y2 M' y4 y5
    have hh := hK p y1 y2 M' y4 y5
    by_cases cc : S (4 + 12 * p) = nI 0
    · rw [q_bi_t cc] at hh ⊢
      refine And.intro (fun g => absurd g q_n1) (fun _ => ?_)
      refine Exists.intro 0 ⟨rfl, by decide, ?_⟩
      rw [q_t1] at hh
      exact hh
    · rw [q_bi_f cc] at hh ⊢
      refine And.intro (fun _ => ?_) (fun g => absurd nI_0 g)
      refine Exists.intro 0 ⟨rfl, by decide, ?_⟩
      rw [q_t0] at hh
      exact hh
  · exact fun y0 => fun q => hX y0
theorem kL_tick : q_chk (q_own 269) (q_ml 269) (q_fr 269) (q_lo 269) (q_b 269) TL_tick = true := by decide +kernel
abbrev pL_tick : Q_P := fun av M K KX => ∃ (S : Nat → Int32) (h : Nat) (G : Nat → Nat → Int32) (kb : Nat → Int32) (T : Nat → Nat → Int32) (n : Nat) (tx : Nat → Nat) (a : Int32), CV M S h G kb T n tx ∧ av = [.inr (.inl (0, 0, 0)), .inl a, .inr (.inl (25, 0, 0))] ∧ (∀ t, t ≤ 100 → a = nI t → s_rg 1 100 a → ∀ M', CV M' ((s_ps t S).2) (s_h1 h) (s_hG h G S) kb T n tx → q_fx M M' → K (some (.inl (nI 0))) (q_sl M' (25, 0, 0) 0 (nI (s_ps t S).1).toInt64)) ∧ (¬ s_rg 1 100 a → K (some (.inl (nI 1))) M)
theorem cL_tick_ct {l : Launch} {b : Bool} (hl0 : l.stackTraces = false) : q_CtL l b 269 pL_tick := by
  refine q_methL (by decide) (by decide) TL_tick kL_tick ?_
  intro av M K hwf
  rintro ⟨S, h, G, kb, T, n, tx, a, hc, rfl, hK, hX⟩
  refine ⟨Nat.le_of_ble_eq_true rfl, fun Z hz => ?_⟩
  apply hz [] 60
  refine Exists.intro _ ⟨⟨rfl, cX8_tick_ct hl0⟩, S, h, G, kb, T, n, tx, a, hc, rfl, ?_, ?_⟩
  · refine fun y0 y1 y2 y3 y4 y5 y6 => ?_
    refine Exists.intro 0 ⟨rfl, by decide, ?_⟩
    exact hK y0 y1 y2 y3 y4 y5 y6
  · exact fun y0 => fun q => hX y0
theorem kL_changeMost : q_chk (q_own 270) (q_ml 270) (q_fr 270) (q_lo 270) (q_b 270) TL_changeMost = true := by decide +kernel
abbrev pL_changeMost : Q_P := fun av M K KX => ∃ (S : Nat → Int32) (h : Nat) (G : Nat → Nat → Int32) (kb : Nat → Int32) (T : Nat → Nat → Int32) (n : Nat) (tx : Nat → Nat) (a : Int32), CV M S h G kb T n tx ∧ av = [.inr (.inl (0, 0, 0)), .inl a, .inr (.inl (25, 0, 0))] ∧ (s_rg 1 12 a → ∀ M', CV M' (s_tm (s_n S) (upd S 207 a)) (s_h1 h) (s_hG h G S) kb T n tx → q_fx M M' → K (some (.inl (nI 0))) (q_sl M' (25, 0, 0) 0 (S 207).toInt64)) ∧ (¬ s_rg 1 12 a → K (some (.inl (nI 1))) M)
theorem cL_changeMost_ct {l : Launch} {b : Bool} (hl0 : l.stackTraces = false) : q_CtL l b 270 pL_changeMost := by
  refine q_methL (by decide) (by decide) TL_changeMost kL_changeMost ?_
  intro av M K hwf
  rintro ⟨S, h, G, kb, T, n, tx, a, hc, rfl, hK, hX⟩
  refine ⟨Nat.le_of_ble_eq_true rfl, fun Z hz => ?_⟩
  apply hz [] 60
  refine Exists.intro _ ⟨⟨rfl, cX8_changeMost_ct hl0⟩, S, h, G, kb, T, n, tx, a, hc, rfl, ?_, ?_⟩
  · refine fun y0 y1 y2 y3 => ?_
    refine Exists.intro 0 ⟨rfl, by decide, ?_⟩
    exact hK y0 y1 y2 y3
  · exact fun y0 => fun q => hX y0
theorem kL_changeIdle : q_chk (q_own 271) (q_ml 271) (q_fr 271) (q_lo 271) (q_b 271) TL_changeIdle = true := by decide +kernel
abbrev pL_changeIdle : Q_P := fun av M K KX => ∃ (S : Nat → Int32) (h : Nat) (G : Nat → Nat → Int32) (kb : Nat → Int32) (T : Nat → Nat → Int32) (n : Nat) (tx : Nat → Nat) (a : Int32), CV M S h G kb T n tx ∧ av = [.inr (.inl (0, 0, 0)), .inl a, .inr (.inl (25, 0, 0))] ∧ (s_rg 0 6 a → ∀ M', CV M' (upd S 208 a) (s_h1 h) (s_hG h G S) kb T n tx → q_fx M M' → K (some (.inl (nI 0))) (q_sl M' (25, 0, 0) 0 (S 208).toInt64)) ∧ (¬ s_rg 0 6 a → K (some (.inl (nI 1))) M)
theorem cL_changeIdle_ct {l : Launch} {b : Bool} (hl0 : l.stackTraces = false) : q_CtL l b 271 pL_changeIdle := by
  refine q_methL (by decide) (by decide) TL_changeIdle kL_changeIdle ?_
  intro av M K hwf
  rintro ⟨S, h, G, kb, T, n, tx, a, hc, rfl, hK, hX⟩
  refine ⟨Nat.le_of_ble_eq_true rfl, fun Z hz => ?_⟩
  apply hz [] 60
  refine Exists.intro _ ⟨⟨rfl, cX8_changeIdle_ct hl0⟩, S, h, G, kb, T, n, tx, a, hc, rfl, ?_, ?_⟩
  · refine fun y0 y1 y2 y3 => ?_
    refine Exists.intro 0 ⟨rfl, by decide, ?_⟩
    exact hK y0 y1 y2 y3
  · exact fun y0 => fun q => hX y0
theorem kL_changeAge : q_chk (q_own 272) (q_ml 272) (q_fr 272) (q_lo 272) (q_b 272) TL_changeAge = true := by decide +kernel
abbrev pL_changeAge : Q_P := fun av M K KX => ∃ (S : Nat → Int32) (h : Nat) (G : Nat → Nat → Int32) (kb : Nat → Int32) (T : Nat → Nat → Int32) (n : Nat) (tx : Nat → Nat) (a : Int32), CV M S h G kb T n tx ∧ av = [.inr (.inl (0, 0, 0)), .inl a, .inr (.inl (25, 0, 0))] ∧ (s_rg 5 999 a → ∀ M', CV M' (upd S 209 a) (s_h1 h) (s_hG h G S) kb T n tx → q_fx M M' → K (some (.inl (nI 0))) (q_sl M' (25, 0, 0) 0 (S 209).toInt64)) ∧ (¬ s_rg 5 999 a → K (some (.inl (nI 1))) M)
theorem cL_changeAge_ct {l : Launch} {b : Bool} (hl0 : l.stackTraces = false) : q_CtL l b 272 pL_changeAge := by
  refine q_methL (by decide) (by decide) TL_changeAge kL_changeAge ?_
  intro av M K hwf
  rintro ⟨S, h, G, kb, T, n, tx, a, hc, rfl, hK, hX⟩
  refine ⟨Nat.le_of_ble_eq_true rfl, fun Z hz => ?_⟩
  apply hz [] 60
  refine Exists.intro _ ⟨⟨rfl, cX8_changeAge_ct hl0⟩, S, h, G, kb, T, n, tx, a, hc, rfl, ?_, ?_⟩
  · refine fun y0 y1 y2 y3 => ?_
    refine Exists.intro 0 ⟨rfl, by decide, ?_⟩
    exact hK y0 y1 y2 y3
  · exact fun y0 => fun q => hX y0
theorem kL_changeRest : q_chk (q_own 273) (q_ml 273) (q_fr 273) (q_lo 273) (q_b 273) TL_changeRest = true := by decide +kernel
abbrev pL_changeRest : Q_P := fun av M K KX => ∃ (S : Nat → Int32) (h : Nat) (G : Nat → Nat → Int32) (kb : Nat → Int32) (T : Nat → Nat → Int32) (n : Nat) (tx : Nat → Nat) (a : Int32), CV M S h G kb T n tx ∧ av = [.inr (.inl (0, 0, 0)), .inl a, .inr (.inl (25, 0, 0))] ∧ (s_rg 1 999 a → ∀ M', CV M' (upd S 210 a) (s_h1 h) (s_hG h G S) kb T n tx → q_fx M M' → K (some (.inl (nI 0))) (q_sl M' (25, 0, 0) 0 (S 210).toInt64)) ∧ (¬ s_rg 1 999 a → K (some (.inl (nI 1))) M)
theorem cL_changeRest_ct {l : Launch} {b : Bool} (hl0 : l.stackTraces = false) : q_CtL l b 273 pL_changeRest := by
  refine q_methL (by decide) (by decide) TL_changeRest kL_changeRest ?_
  intro av M K hwf
  rintro ⟨S, h, G, kb, T, n, tx, a, hc, rfl, hK, hX⟩
  refine ⟨Nat.le_of_ble_eq_true rfl, fun Z hz => ?_⟩
  apply hz [] 60
  refine Exists.intro _ ⟨⟨rfl, cX8_changeRest_ct hl0⟩, S, h, G, kb, T, n, tx, a, hc, rfl, ?_, ?_⟩
  · refine fun y0 y1 y2 y3 => ?_
    refine Exists.intro 0 ⟨rfl, by decide, ?_⟩
    exact hK y0 y1 y2 y3
  · exact fun y0 => fun q => hX y0
theorem kL_changeLease : q_chk (q_own 274) (q_ml 274) (q_fr 274) (q_lo 274) (q_b 274) TL_changeLease = true := by decide +kernel
abbrev pL_changeLease : Q_P := fun av M K KX => ∃ (S : Nat → Int32) (h : Nat) (G : Nat → Nat → Int32) (kb : Nat → Int32) (T : Nat → Nat → Int32) (n : Nat) (tx : Nat → Nat) (a : Int32), CV M S h G kb T n tx ∧ av = [.inr (.inl (0, 0, 0)), .inl a, .inr (.inl (25, 0, 0))] ∧ (s_rg 1 999 a → ∀ M', CV M' (upd S 211 a) (s_h1 h) (s_hG h G S) kb T n tx → q_fx M M' → K (some (.inl (nI 0))) (q_sl M' (25, 0, 0) 0 (S 211).toInt64)) ∧ (¬ s_rg 1 999 a → K (some (.inl (nI 1))) M)
theorem cL_changeLease_ct {l : Launch} {b : Bool} (hl0 : l.stackTraces = false) : q_CtL l b 274 pL_changeLease := by
  refine q_methL (by decide) (by decide) TL_changeLease kL_changeLease ?_
  intro av M K hwf
  rintro ⟨S, h, G, kb, T, n, tx, a, hc, rfl, hK, hX⟩
  refine ⟨Nat.le_of_ble_eq_true rfl, fun Z hz => ?_⟩
  apply hz [] 60
  refine Exists.intro _ ⟨⟨rfl, cX8_changeLease_ct hl0⟩, S, h, G, kb, T, n, tx, a, hc, rfl, ?_, ?_⟩
  · refine fun y0 y1 y2 y3 => ?_
    refine Exists.intro 0 ⟨rfl, by decide, ?_⟩
    exact hK y0 y1 y2 y3
  · exact fun y0 => fun q => hX y0
theorem kL_changePatience : q_chk (q_own 275) (q_ml 275) (q_fr 275) (q_lo 275) (q_b 275) TL_changePatience = true := by decide +kernel
abbrev pL_changePatience : Q_P := fun av M K KX => ∃ (S : Nat → Int32) (h : Nat) (G : Nat → Nat → Int32) (kb : Nat → Int32) (T : Nat → Nat → Int32) (n : Nat) (tx : Nat → Nat) (a : Int32), CV M S h G kb T n tx ∧ av = [.inr (.inl (0, 0, 0)), .inl a, .inr (.inl (25, 0, 0))] ∧ (s_rg 1 99 a → ∀ M', CV M' (upd S 212 a) (s_h1 h) (s_hG h G S) kb T n tx → q_fx M M' → K (some (.inl (nI 0))) (q_sl M' (25, 0, 0) 0 (S 212).toInt64)) ∧ (¬ s_rg 1 99 a → K (some (.inl (nI 1))) M)
theorem cL_changePatience_ct {l : Launch} {b : Bool} (hl0 : l.stackTraces = false) : q_CtL l b 275 pL_changePatience := by
  refine q_methL (by decide) (by decide) TL_changePatience kL_changePatience ?_
  intro av M K hwf
  rintro ⟨S, h, G, kb, T, n, tx, a, hc, rfl, hK, hX⟩
  refine ⟨Nat.le_of_ble_eq_true rfl, fun Z hz => ?_⟩
  apply hz [] 60
  refine Exists.intro _ ⟨⟨rfl, cX8_changePatience_ct hl0⟩, S, h, G, kb, T, n, tx, a, hc, rfl, ?_, ?_⟩
  · refine fun y0 y1 y2 y3 => ?_
    refine Exists.intro 0 ⟨rfl, by decide, ?_⟩
    exact hK y0 y1 y2 y3
  · exact fun y0 => fun q => hX y0
theorem kL_append : q_chk (q_own 276) (q_ml 276) (q_fr 276) (q_lo 276) (q_b 276) TL_append = true := by decide +kernel
abbrev pL_append : Q_P := fun av M K KX => ∃ (S : Nat → Int32) (h : Nat) (G : Nat → Nat → Int32) (kb : Nat → Int32) (T : Nat → Nat → Int32) (n : Nat) (tx : Nat → Nat) (a : Int32), CV M S h G kb T n tx ∧ av = [.inr (.inl (0, 0, 0)), .inl a, .inr (.inl (25, 0, 0))] ∧ (∀ c, 33 ≤ c → c ≤ 126 → a = nI c → n < 60 → ∀ M', CV M' S h G kb T (n + 1) (updN tx n c) → q_fx M M' → K (some (.inl (nI 0))) (q_sl M' (25, 0, 0) 0 (nI (n + 1)).toInt64)) ∧ (¬ s_rg 33 126 a → K (some (.inl (nI 1))) M) ∧ (s_rg 33 126 a → n = 60 → K (some (.inl (nI 2))) M)
theorem cL_append_ct {l : Launch} {b : Bool} (hl0 : l.stackTraces = false) : q_CtL l b 276 pL_append := by
  refine q_methL (by decide) (by decide) TL_append kL_append ?_
  intro av M K hwf
  rintro ⟨S, h, G, kb, T, n, tx, a, hc, rfl, hK, hX, hX3⟩
  refine ⟨Nat.le_of_ble_eq_true rfl, fun Z hz => ?_⟩
  apply hz [] 60
  refine Exists.intro _ ⟨⟨rfl, cX8_append_ct hl0⟩, S, h, G, kb, T, n, tx, a, hc, rfl, ?_, ?_, ?_⟩
  · refine fun y0 y1 y2 y3 y4 y5 y6 y7 => ?_
    refine Exists.intro 0 ⟨rfl, by decide, ?_⟩
    exact hK y0 y1 y2 y3 y4 y5 y6 y7
  · exact fun y0 => fun q => hX y0
  · exact fun y0 y1 => fun q => hX3 y0 y1
theorem kL_keep : q_chk (q_own 278) (q_ml 278) (q_fr 278) (q_lo 278) (q_b 278) TL_keep = true := by decide +kernel
abbrev pL_keep : Q_P := fun av M K KX => ∃ (S : Nat → Int32) (h : Nat) (G : Nat → Nat → Int32) (kb : Nat → Int32) (T : Nat → Nat → Int32) (n : Nat) (tx : Nat → Nat) (a : Int32), CV M S h G kb T n tx ∧ av = [.inr (.inl (0, 0, 0)), .inl a] ∧ (∀ k, k < 2 → a = nI k → ∀ M', CV M' S h G (upd kb k (nI 1)) (fun i => if i = k then S else T i) n tx → q_fx M M' → K (some (.inl (nI 0))) M') ∧ (¬ s_rg 0 1 a → K (some (.inl (nI 1))) M)
theorem cL_keep_ct {l : Launch} {b : Bool} (hl0 : l.stackTraces = false) : q_CtL l b 278 pL_keep := by
  refine q_methL (by decide) (by decide) TL_keep kL_keep ?_
  intro av M K hwf
  rintro ⟨S, h, G, kb, T, n, tx, a, hc, rfl, hK, hX⟩
  refine ⟨Nat.le_of_ble_eq_true rfl, fun Z hz => ?_⟩
  apply hz [] 60
  refine Exists.intro _ ⟨⟨rfl, cX8_keep_ct hl0⟩, S, h, G, kb, T, n, tx, a, hc, rfl, ?_, ?_⟩
  · exact fun y0 y1 y2 y3 y4 y5 => hK y0 y1 y2 y3 y4 y5
  · exact fun y0 => fun q => hX y0
theorem kL_goBack : q_chk (q_own 279) (q_ml 279) (q_fr 279) (q_lo 279) (q_b 279) TL_goBack = true := by decide +kernel
abbrev pL_goBack : Q_P := fun av M K KX => ∃ (S : Nat → Int32) (h : Nat) (G : Nat → Nat → Int32) (kb : Nat → Int32) (T : Nat → Nat → Int32) (n : Nat) (tx : Nat → Nat) (a : Int32), CV M S h G kb T n tx ∧ av = [.inr (.inl (0, 0, 0)), .inl a] ∧ (∀ k, k < 2 → a = nI k → kb k = nI 1 → ∀ M', CV M' (T k) (s_h1 h) (s_hG h G S) kb T n tx → q_fx M M' → K (some (.inl (nI 0))) M') ∧ (¬ s_rg 0 1 a → K (some (.inl (nI 1))) M) ∧ (∀ k, k < 2 → a = nI k → ¬ kb k = nI 1 → K (some (.inl (nI 2))) M)
theorem cL_goBack_ct {l : Launch} {b : Bool} (hl0 : l.stackTraces = false) : q_CtL l b 279 pL_goBack := by
  refine q_methL (by decide) (by decide) TL_goBack kL_goBack ?_
  intro av M K hwf
  rintro ⟨S, h, G, kb, T, n, tx, a, hc, rfl, hK, hX, hX3⟩
  refine ⟨Nat.le_of_ble_eq_true rfl, fun Z hz => ?_⟩
  apply hz [] 60
  refine Exists.intro _ ⟨⟨rfl, cX8_goBack_ct hl0⟩, S, h, G, kb, T, n, tx, a, hc, rfl, ?_, ?_, ?_⟩
  · exact fun y0 y1 y2 y3 y4 y5 y6 => hK y0 y1 y2 y3 y4 y5 y6
  · exact fun y0 => fun q => hX y0
  · exact fun y0 y1 y2 y3 => fun q => hX3 y0 y1 y2 y3
theorem kL_undo : q_chk (q_own 280) (q_ml 280) (q_fr 280) (q_lo 280) (q_b 280) TL_undo = true := by decide +kernel
abbrev pL_undo : Q_P := fun av M K KX => ∃ (S : Nat → Int32) (h : Nat) (G : Nat → Nat → Int32) (kb : Nat → Int32) (T : Nat → Nat → Int32) (n : Nat) (tx : Nat → Nat), CV M S h G kb T n tx ∧ av = [.inr (.inl (0, 0, 0))] ∧ (0 < h → ∀ M', CV M' (G (h - 1)) (h - 1) G kb T n tx → q_fx M M' → K (some (.inl (nI 0))) M') ∧ (h = 0 → K (some (.inl (nI 1))) M)
theorem cL_undo_ct {l : Launch} {b : Bool} (hl0 : l.stackTraces = false) : q_CtL l b 280 pL_undo := by
  refine q_methL (by decide) (by decide) TL_undo kL_undo ?_
  intro av M K hwf
  rintro ⟨S, h, G, kb, T, n, tx, hc, rfl, hK, hX⟩
  refine ⟨Nat.le_of_ble_eq_true rfl, fun Z hz => ?_⟩
  apply hz [] 60
  refine Exists.intro _ ⟨⟨rfl, cX8_undo_ct hl0⟩, S, h, G, kb, T, n, tx, hc, rfl, ?_, ?_⟩
  · exact fun y0 y1 y2 y3 => hK y0 y1 y2 y3
  · exact fun y0 => fun q => hX y0
theorem kL_numberAt : q_chk (q_own 281) (q_ml 281) (q_fr 281) (q_lo 281) (q_b 281) TL_numberAt = true := by decide +kernel
abbrev pL_numberAt : Q_P := fun av M K KX => ∃ (S : Nat → Int32) (a : Int32), RC 0 M S ∧ av = [.inr (.inl (0, 0, 0)), .inl a, .inr (.inl (25, 0, 0))] ∧ (∀ p, p < s_n S → a = nI p → K (some (.inl (nI 0))) (q_sl M (25, 0, 0) 0 (S (1 + 12 * p)).toInt64)) ∧ (¬ s_lp1 S a → K (some (.inl (nI 1))) M)
theorem cL_numberAt_ct {l : Launch} {b : Bool} (hl0 : l.stackTraces = false) : q_CtL l b 281 pL_numberAt := by
  refine q_methL (by decide) (by decide) TL_numberAt kL_numberAt ?_
  intro av M K hwf
  rintro ⟨S, a, hR, rfl, hK, hX⟩
  refine ⟨Nat.le_of_ble_eq_true rfl, fun Z hz => ?_⟩
  apply hz [] 60
  refine Exists.intro _ ⟨⟨rfl, cX8_numberAt_ct hl0⟩, S, a, hR, rfl, ?_, ?_⟩
  · refine fun y0 y1 y2 => ?_
    refine Exists.intro 0 ⟨rfl, by decide, ?_⟩
    exact hK y0 y1 y2
  · exact fun y0 => fun q => hX y0
theorem kL_ageAt : q_chk (q_own 282) (q_ml 282) (q_fr 282) (q_lo 282) (q_b 282) TL_ageAt = true := by decide +kernel
abbrev pL_ageAt : Q_P := fun av M K KX => ∃ (S : Nat → Int32) (a : Int32), RC 0 M S ∧ av = [.inr (.inl (0, 0, 0)), .inl a, .inr (.inl (25, 0, 0))] ∧ (∀ p, p < s_n S → a = nI p → K (some (.inl (nI 0))) (q_sl M (25, 0, 0) 0 (S 206 - S (2 + 12 * p)).toInt64)) ∧ (¬ s_lp1 S a → K (some (.inl (nI 1))) M)
theorem cL_ageAt_ct {l : Launch} {b : Bool} (hl0 : l.stackTraces = false) : q_CtL l b 282 pL_ageAt := by
  refine q_methL (by decide) (by decide) TL_ageAt kL_ageAt ?_
  intro av M K hwf
  rintro ⟨S, a, hR, rfl, hK, hX⟩
  refine ⟨Nat.le_of_ble_eq_true rfl, fun Z hz => ?_⟩
  apply hz [] 60
  refine Exists.intro _ ⟨⟨rfl, cX8_ageAt_ct hl0⟩, S, a, hR, rfl, ?_, ?_⟩
  · refine fun y0 y1 y2 => ?_
    refine Exists.intro 0 ⟨rfl, by decide, ?_⟩
    exact hK y0 y1 y2
  · exact fun y0 => fun q => hX y0
theorem kL_isIdle : q_chk (q_own 283) (q_ml 283) (q_fr 283) (q_lo 283) (q_b 283) TL_isIdle = true := by decide +kernel
abbrev pL_isIdle : Q_P := fun av M K KX => ∃ (S : Nat → Int32) (a : Int32), RC 0 M S ∧ av = [.inr (.inl (0, 0, 0)), .inl a, .inr (.inl (25, 0, 0))] ∧ (∀ p, p < s_n S → a = nI p → K (some (.inl (nI 0))) (q_sl M (25, 0, 0) 0 (q_bi (S (3 + 12 * p) < 0)).toInt64)) ∧ (¬ s_lp1 S a → K (some (.inl (nI 1))) M)
theorem cL_isIdle_ct {l : Launch} {b : Bool} (hl0 : l.stackTraces = false) : q_CtL l b 283 pL_isIdle := by
  refine q_methL (by decide) (by decide) TL_isIdle kL_isIdle ?_
  intro av M K hwf
  rintro ⟨S, a, hR, rfl, hK, hX⟩
  refine ⟨Nat.le_of_ble_eq_true rfl, fun Z hz => ?_⟩
  apply hz [] 60
  refine Exists.intro _ ⟨⟨rfl, cX8_isIdle_ct hl0⟩, S, a, hR, rfl, ?_, ?_⟩
  · intro p y1 y2
    have hh := hK p y1 y2
    by_cases cc : S (3 + 12 * p) < 0
    · rw [q_bi_t cc] at hh ⊢
      refine And.intro (fun g => absurd g q_n1) (fun _ => ?_)
      refine Exists.intro 0 ⟨rfl, by decide, ?_⟩
      rw [q_t1] at hh
      exact hh
    · rw [q_bi_f cc] at hh ⊢
      refine And.intro (fun _ => ?_) (fun g => absurd nI_0 g)
      refine Exists.intro 0 ⟨rfl, by decide, ?_⟩
      rw [q_t0] at hh
      exact hh
  · exact fun y0 => fun q => hX y0
theorem kL_isBroken : q_chk (q_own 284) (q_ml 284) (q_fr 284) (q_lo 284) (q_b 284) TL_isBroken = true := by decide +kernel
abbrev pL_isBroken : Q_P := fun av M K KX => ∃ (S : Nat → Int32) (a : Int32), RC 0 M S ∧ av = [.inr (.inl (0, 0, 0)), .inl a, .inr (.inl (25, 0, 0))] ∧ (∀ p, p < s_n S → a = nI p → K (some (.inl (nI 0))) (q_sl M (25, 0, 0) 0 (S (4 + 12 * p)).toInt64)) ∧ (¬ s_lp1 S a → K (some (.inl (nI 1))) M)
theorem cL_isBroken_ct {l : Launch} {b : Bool} (hl0 : l.stackTraces = false) : q_CtL l b 284 pL_isBroken := by
  refine q_methL (by decide) (by decide) TL_isBroken kL_isBroken ?_
  intro av M K hwf
  rintro ⟨S, a, hR, rfl, hK, hX⟩
  refine ⟨Nat.le_of_ble_eq_true rfl, fun Z hz => ?_⟩
  apply hz [] 60
  refine Exists.intro _ ⟨⟨rfl, cX8_isBroken_ct hl0⟩, S, a, hR, rfl, ?_, ?_⟩
  · intro p y1 y2
    have hh := hK p y1 y2
    have hb := (hR.1.2.2.2.2.2.1 p y1).2.1
    rcases hb with e | e
    · rw [e] at hh ⊢
      refine And.intro (fun _ => ?_) (fun g => absurd nI_0 g)
      refine Exists.intro 0 ⟨rfl, by decide, ?_⟩
      rw [q_t0] at hh
      exact hh
    · rw [e] at hh ⊢
      refine And.intro (fun g => absurd g q_n1) (fun _ => ?_)
      refine Exists.intro 0 ⟨rfl, by decide, ?_⟩
      rw [q_t1] at hh
      exact hh
  · exact fun y0 => fun q => hX y0
theorem kL_squirrelAt : q_chk (q_own 285) (q_ml 285) (q_fr 285) (q_lo 285) (q_b 285) TL_squirrelAt = true := by decide +kernel
abbrev pL_squirrelAt : Q_P := fun av M K KX => ∃ (S : Nat → Int32) (a : Int32), RC 0 M S ∧ av = [.inr (.inl (0, 0, 0)), .inl a, .inr (.inl (25, 0, 0))] ∧ (∀ p, p < s_n S → a = nI p → ¬ S (3 + 12 * p) < 0 → K (some (.inl (nI 0))) (q_sl M (25, 0, 0) 0 (S (3 + 12 * p)).toInt64)) ∧ (¬ s_lp1 S a → K (some (.inl (nI 1))) M) ∧ (∀ p, p < s_n S → a = nI p → S (3 + 12 * p) < 0 → K (some (.inl (nI 2))) M)
theorem cL_squirrelAt_ct {l : Launch} {b : Bool} (hl0 : l.stackTraces = false) : q_CtL l b 285 pL_squirrelAt := by
  refine q_methL (by decide) (by decide) TL_squirrelAt kL_squirrelAt ?_
  intro av M K hwf
  rintro ⟨S, a, hR, rfl, hK, hX, hX2⟩
  refine ⟨Nat.le_of_ble_eq_true rfl, fun Z hz => ?_⟩
  apply hz [] 60
  refine Exists.intro _ ⟨⟨rfl, cX8_squirrelAt_ct hl0⟩, S, a, hR, rfl, ?_, ?_, ?_⟩
  · refine fun y0 y1 y2 y3 => ?_
    refine Exists.intro 0 ⟨rfl, by decide, ?_⟩
    exact hK y0 y1 y2 y3
  · exact fun y0 => fun q => hX y0
  · exact fun y0 y1 y2 y3 => fun q => hX2 y0 y1 y2 y3
theorem kL_sinceAt : q_chk (q_own 286) (q_ml 286) (q_fr 286) (q_lo 286) (q_b 286) TL_sinceAt = true := by decide +kernel
abbrev pL_sinceAt : Q_P := fun av M K KX => ∃ (S : Nat → Int32) (a : Int32), RC 0 M S ∧ av = [.inr (.inl (0, 0, 0)), .inl a, .inr (.inl (25, 0, 0))] ∧ (∀ p, p < s_n S → a = nI p → K (some (.inl (nI 0))) (q_sl M (25, 0, 0) 0 (S 206 - S (5 + 12 * p)).toInt64)) ∧ (¬ s_lp1 S a → K (some (.inl (nI 1))) M)
theorem cL_sinceAt_ct {l : Launch} {b : Bool} (hl0 : l.stackTraces = false) : q_CtL l b 286 pL_sinceAt := by
  refine q_methL (by decide) (by decide) TL_sinceAt kL_sinceAt ?_
  intro av M K hwf
  rintro ⟨S, a, hR, rfl, hK, hX⟩
  refine ⟨Nat.le_of_ble_eq_true rfl, fun Z hz => ?_⟩
  apply hz [] 60
  refine Exists.intro _ ⟨⟨rfl, cX8_sinceAt_ct hl0⟩, S, a, hR, rfl, ?_, ?_⟩
  · refine fun y0 y1 y2 => ?_
    refine Exists.intro 0 ⟨rfl, by decide, ?_⟩
    exact hK y0 y1 y2
  · exact fun y0 => fun q => hX y0
theorem kL_turnOf : q_chk (q_own 287) (q_ml 287) (q_fr 287) (q_lo 287) (q_b 287) TL_turnOf = true := by decide +kernel
abbrev pL_turnOf : Q_P := fun av M K KX => ∃ (S : Nat → Int32) (a : Int32), RC 0 M S ∧ av = [.inr (.inl (0, 0, 0)), .inl a, .inr (.inl (25, 0, 0))] ∧ (∀ p, p < s_n S → a = nI p → S (3 + 12 * p) < 0 → K (some (.inl (nI 0))) (q_sl M (25, 0, 0) 0 (nI (s_tn S p (s_n S))).toInt64)) ∧ (¬ s_lp1 S a → K (some (.inl (nI 1))) M) ∧ (∀ p, p < s_n S → a = nI p → ¬ S (3 + 12 * p) < 0 → K (some (.inl (nI 2))) M)
theorem cL_turnOf_ct {l : Launch} {b : Bool} (hl0 : l.stackTraces = false) : q_CtL l b 287 pL_turnOf := by
  refine q_methL (by decide) (by decide) TL_turnOf kL_turnOf ?_
  intro av M K hwf
  rintro ⟨S, a, hR, rfl, hK, hX, hX2⟩
  refine ⟨Nat.le_of_ble_eq_true rfl, fun Z hz => ?_⟩
  apply hz [] 60
  refine Exists.intro _ ⟨⟨rfl, cX8_turnOf_ct hl0⟩, S, a, hR, rfl, ?_, ?_, ?_⟩
  · refine fun y0 y1 y2 y3 => ?_
    refine Exists.intro 0 ⟨rfl, by decide, ?_⟩
    exact hK y0 y1 y2 y3
  · exact fun y0 => fun q => hX y0
  · exact fun y0 y1 y2 y3 => fun q => hX2 y0 y1 y2 y3
theorem kL_lendingsOf : q_chk (q_own 288) (q_ml 288) (q_fr 288) (q_lo 288) (q_b 288) TL_lendingsOf = true := by decide +kernel
abbrev pL_lendingsOf : Q_P := fun av M K KX => ∃ (S : Nat → Int32) (a : Int32), RC 0 M S ∧ av = [.inr (.inl (0, 0, 0)), .inl a, .inr (.inl (25, 0, 0))] ∧ (∀ p, p < s_n S → a = nI p → K (some (.inl (nI 0))) (q_sl M (25, 0, 0) 0 (S (7 + 12 * p)).toInt64)) ∧ (¬ s_lp1 S a → K (some (.inl (nI 1))) M)
theorem cL_lendingsOf_ct {l : Launch} {b : Bool} (hl0 : l.stackTraces = false) : q_CtL l b 288 pL_lendingsOf := by
  refine q_methL (by decide) (by decide) TL_lendingsOf kL_lendingsOf ?_
  intro av M K hwf
  rintro ⟨S, a, hR, rfl, hK, hX⟩
  refine ⟨Nat.le_of_ble_eq_true rfl, fun Z hz => ?_⟩
  apply hz [] 60
  refine Exists.intro _ ⟨⟨rfl, cX8_lendingsOf_ct hl0⟩, S, a, hR, rfl, ?_, ?_⟩
  · refine fun y0 y1 y2 => ?_
    refine Exists.intro 0 ⟨rfl, by decide, ?_⟩
    exact hK y0 y1 y2
  · exact fun y0 => fun q => hX y0
theorem kL_nutsIn : q_chk (q_own 289) (q_ml 289) (q_fr 289) (q_lo 289) (q_b 289) TL_nutsIn = true := by decide +kernel
abbrev pL_nutsIn : Q_P := fun av M K KX => ∃ (S : Nat → Int32) (a : Int32), RC 0 M S ∧ av = [.inr (.inl (0, 0, 0)), .inl a, .inr (.inl (25, 0, 0))] ∧ (∀ p, p < s_n S → a = nI p → K (some (.inl (nI 0))) (q_sl M (25, 0, 0) 0 (S (8 + 12 * p)).toInt64)) ∧ (¬ s_lp1 S a → K (some (.inl (nI 1))) M)
theorem cL_nutsIn_ct {l : Launch} {b : Bool} (hl0 : l.stackTraces = false) : q_CtL l b 289 pL_nutsIn := by
  refine q_methL (by decide) (by decide) TL_nutsIn kL_nutsIn ?_
  intro av M K hwf
  rintro ⟨S, a, hR, rfl, hK, hX⟩
  refine ⟨Nat.le_of_ble_eq_true rfl, fun Z hz => ?_⟩
  apply hz [] 60
  refine Exists.intro _ ⟨⟨rfl, cX8_nutsIn_ct hl0⟩, S, a, hR, rfl, ?_, ?_⟩
  · refine fun y0 y1 y2 => ?_
    refine Exists.intro 0 ⟨rfl, by decide, ?_⟩
    exact hK y0 y1 y2
  · exact fun y0 => fun q => hX y0
theorem kL_nutAt : q_chk (q_own 290) (q_ml 290) (q_fr 290) (q_lo 290) (q_b 290) TL_nutAt = true := by decide +kernel
abbrev pL_nutAt : Q_P := fun av M K KX => ∃ (S : Nat → Int32) (a y : Int32), RC 0 M S ∧ av = [.inr (.inl (0, 0, 0)), .inl a, .inl y, .inr (.inl (25, 0, 0))] ∧ (∀ p k, p < s_n S → a = nI p → k < s_c S p → y = nI k → K (some (.inl (nI 0))) (q_sl M (25, 0, 0) 0 (S (9 + 12 * p + k)).toInt64)) ∧ (¬ s_lp1 S a → K (some (.inl (nI 1))) M) ∧ (∀ p, p < s_n S → a = nI p → ¬ (nI 0 ≤ y ∧ y ≤ S (8 + 12 * p) - nI 1) → K (some (.inl (nI 1))) M)
theorem cL_nutAt_ct {l : Launch} {b : Bool} (hl0 : l.stackTraces = false) : q_CtL l b 290 pL_nutAt := by
  refine q_methL (by decide) (by decide) TL_nutAt kL_nutAt ?_
  intro av M K hwf
  rintro ⟨S, a, y, hR, rfl, hK, hX, hX2⟩
  refine ⟨Nat.le_of_ble_eq_true rfl, fun Z hz => ?_⟩
  apply hz [] 60
  refine Exists.intro _ ⟨⟨rfl, cX8_nutAt_ct hl0⟩, S, a, y, hR, rfl, ?_, ?_, ?_⟩
  · refine fun y0 y1 y2 y3 y4 y5 => ?_
    refine Exists.intro 0 ⟨rfl, by decide, ?_⟩
    exact hK y0 y1 y2 y3 y4 y5
  · exact fun y0 => fun q => hX y0
  · exact fun y0 y1 y2 y3 => fun q => hX2 y0 y1 y2 y3
theorem kL_nextLent : q_chk (q_own 291) (q_ml 291) (q_fr 291) (q_lo 291) (q_b 291) TL_nextLent = true := by decide +kernel
abbrev pL_nextLent : Q_P := fun av M K KX => ∃ S : Nat → Int32, RC 0 M S ∧ av = [.inr (.inl (0, 0, 0)), .inr (.inl (25, 0, 0))] ∧ (∀ p, s_nx S = some p → K (some (.inl (nI 0))) (q_sl M (25, 0, 0) 0 (nI p).toInt64)) ∧ (s_nx S = none → K (some (.inl (nI 1))) M)
theorem cL_nextLent_ct {l : Launch} {b : Bool} (hl0 : l.stackTraces = false) : q_CtL l b 291 pL_nextLent := by
  refine q_methL (by decide) (by decide) TL_nextLent kL_nextLent ?_
  intro av M K hwf
  rintro ⟨S, hR, rfl, hK, hX⟩
  refine ⟨Nat.le_of_ble_eq_true rfl, fun Z hz => ?_⟩
  apply hz [] 60
  refine Exists.intro _ ⟨⟨rfl, cX8_nextLent_ct hl0⟩, S, hR, rfl, ?_, ?_⟩
  · refine fun y0 y1 => ?_
    refine Exists.intro 0 ⟨rfl, by decide, ?_⟩
    exact hK y0 y1
  · exact fun y0 => fun q => hX y0
theorem kL_has : q_chk (q_own 292) (q_ml 292) (q_fr 292) (q_lo 292) (q_b 292) TL_has = true := by decide +kernel
abbrev pL_has : Q_P := fun av M K KX => ∃ (S : Nat → Int32) (a : Int32), RC 0 M S ∧ av = [.inr (.inl (0, 0, 0)), .inl a, .inr (.inl (25, 0, 0))] ∧ (s_rg 0 19 a → K (some (.inl (nI 0))) (q_sl M (25, 0, 0) 0 (q_bi (¬ s_lk S a (s_n S) = none)).toInt64)) ∧ (¬ s_rg 0 19 a → K (some (.inl (nI 1))) M)
theorem cL_has_ct {l : Launch} {b : Bool} (hl0 : l.stackTraces = false) : q_CtL l b 292 pL_has := by
  refine q_methL (by decide) (by decide) TL_has kL_has ?_
  intro av M K hwf
  rintro ⟨S, a, hR, rfl, hK, hX⟩
  refine ⟨Nat.le_of_ble_eq_true rfl, fun Z hz => ?_⟩
  apply hz [] 60
  refine Exists.intro _ ⟨⟨rfl, cX8_has_ct hl0⟩, S, a, hR, rfl, ?_, ?_⟩
  · intro y0
    have hh := hK y0
    by_cases cc : ¬ s_lk S a (s_n S) = none
    · rw [q_bi_t cc] at hh ⊢
      refine And.intro (fun g => absurd g q_n1) (fun _ => ?_)
      refine Exists.intro 0 ⟨rfl, by decide, ?_⟩
      rw [q_t1] at hh
      exact hh
    · rw [q_bi_f cc] at hh ⊢
      refine And.intro (fun _ => ?_) (fun g => absurd nI_0 g)
      refine Exists.intro 0 ⟨rfl, by decide, ?_⟩
      rw [q_t0] at hh
      exact hh
  · exact fun y0 => fun q => hX y0
theorem kL_placeOf : q_chk (q_own 293) (q_ml 293) (q_fr 293) (q_lo 293) (q_b 293) TL_placeOf = true := by decide +kernel
abbrev pL_placeOf : Q_P := fun av M K KX => ∃ (S : Nat → Int32) (a : Int32), RC 0 M S ∧ av = [.inr (.inl (0, 0, 0)), .inl a, .inr (.inl (25, 0, 0))] ∧ (∀ x p : Nat, x < 20 → a = nI x → s_lk S (nI x) (s_n S) = some p → K (some (.inl (nI 0))) (q_sl M (25, 0, 0) 0 (nI p).toInt64)) ∧ (¬ s_rg 0 19 a → K (some (.inl (nI 1))) M) ∧ (s_rg 0 19 a → s_lk S a (s_n S) = none → K (some (.inl (nI 2))) M)
theorem cL_placeOf_ct {l : Launch} {b : Bool} (hl0 : l.stackTraces = false) : q_CtL l b 293 pL_placeOf := by
  refine q_methL (by decide) (by decide) TL_placeOf kL_placeOf ?_
  intro av M K hwf
  rintro ⟨S, a, hR, rfl, hK, hX, hX2⟩
  refine ⟨Nat.le_of_ble_eq_true rfl, fun Z hz => ?_⟩
  apply hz [] 60
  refine Exists.intro _ ⟨⟨rfl, cX8_placeOf_ct hl0⟩, S, a, hR, rfl, ?_, ?_, ?_⟩
  · refine fun y0 y1 y2 y3 y4 => ?_
    refine Exists.intro 0 ⟨rfl, by decide, ?_⟩
    exact hK y0 y1 y2 y3 y4
  · exact fun y0 => fun q => hX y0
  · exact fun y0 y1 => fun q => hX2 y0 y1
theorem kL_leaseLeft : q_chk (q_own 294) (q_ml 294) (q_fr 294) (q_lo 294) (q_b 294) TL_leaseLeft = true := by decide +kernel
abbrev pL_leaseLeft : Q_P := fun av M K KX => ∃ (S : Nat → Int32) (a : Int32), RC 0 M S ∧ av = [.inr (.inl (0, 0, 0)), .inl a, .inr (.inl (25, 0, 0))] ∧ (∀ x p : Nat, x < 20 → a = nI x → s_lk S (nI x) (s_n S) = some p → K (some (.inl (nI 0))) (q_sl M (25, 0, 0) 0 (s_ll S p).toInt64)) ∧ (¬ s_rg 0 19 a → K (some (.inl (nI 1))) M) ∧ (s_rg 0 19 a → s_lk S a (s_n S) = none → K (some (.inl (nI 2))) M)
theorem cL_leaseLeft_ct {l : Launch} {b : Bool} (hl0 : l.stackTraces = false) : q_CtL l b 294 pL_leaseLeft := by
  refine q_methL (by decide) (by decide) TL_leaseLeft kL_leaseLeft ?_
  intro av M K hwf
  rintro ⟨S, a, hR, rfl, hK, hX, hX2⟩
  refine ⟨Nat.le_of_ble_eq_true rfl, fun Z hz => ?_⟩
  apply hz [] 60
  refine Exists.intro _ ⟨⟨rfl, cX8_leaseLeft_ct hl0⟩, S, a, hR, rfl, ?_, ?_, ?_⟩
  · refine fun y0 y1 y2 y3 y4 => ?_
    refine Exists.intro 0 ⟨rfl, by decide, ?_⟩
    exact hK y0 y1 y2 y3 y4
  · exact fun y0 => fun q => hX y0
  · exact fun y0 y1 => fun q => hX2 y0 y1
theorem kL_isWaiting : q_chk (q_own 295) (q_ml 295) (q_fr 295) (q_lo 295) (q_b 295) TL_isWaiting = true := by decide +kernel
abbrev pL_isWaiting : Q_P := fun av M K KX => ∃ (S : Nat → Int32) (a : Int32), RC 0 M S ∧ av = [.inr (.inl (0, 0, 0)), .inl a, .inr (.inl (25, 0, 0))] ∧ (s_rg 0 19 a → K (some (.inl (nI 0))) (q_sl M (25, 0, 0) 0 (q_bi (¬ s_qd S a (s_q S) = none)).toInt64)) ∧ (¬ s_rg 0 19 a → K (some (.inl (nI 1))) M)
theorem cL_isWaiting_ct {l : Launch} {b : Bool} (hl0 : l.stackTraces = false) : q_CtL l b 295 pL_isWaiting := by
  refine q_methL (by decide) (by decide) TL_isWaiting kL_isWaiting ?_
  intro av M K hwf
  rintro ⟨S, a, hR, rfl, hK, hX⟩
  refine ⟨Nat.le_of_ble_eq_true rfl, fun Z hz => ?_⟩
  apply hz [] 60
  refine Exists.intro _ ⟨⟨rfl, cX8_isWaiting_ct hl0⟩, S, a, hR, rfl, ?_, ?_⟩
  · intro y0
    have hh := hK y0
    by_cases cc : ¬ s_qd S a (s_q S) = none
    · rw [q_bi_t cc] at hh ⊢
      refine And.intro (fun g => absurd g q_n1) (fun _ => ?_)
      refine Exists.intro 0 ⟨rfl, by decide, ?_⟩
      rw [q_t1] at hh
      exact hh
    · rw [q_bi_f cc] at hh ⊢
      refine And.intro (fun _ => ?_) (fun g => absurd nI_0 g)
      refine Exists.intro 0 ⟨rfl, by decide, ?_⟩
      rw [q_t0] at hh
      exact hh
  · exact fun y0 => fun q => hX y0
theorem kL_waitOf : q_chk (q_own 296) (q_ml 296) (q_fr 296) (q_lo 296) (q_b 296) TL_waitOf = true := by decide +kernel
abbrev pL_waitOf : Q_P := fun av M K KX => ∃ (S : Nat → Int32) (a : Int32), RC 0 M S ∧ av = [.inr (.inl (0, 0, 0)), .inl a, .inr (.inl (25, 0, 0))] ∧ (∀ x p : Nat, x < 20 → a = nI x → s_qd S (nI x) (s_q S) = some p → K (some (.inl (nI 0))) (q_sl M (25, 0, 0) 0 (S 206 - S (148 + 3 * p)).toInt64)) ∧ (¬ s_rg 0 19 a → K (some (.inl (nI 1))) M) ∧ (s_rg 0 19 a → s_qd S a (s_q S) = none → K (some (.inl (nI 2))) M)
theorem cL_waitOf_ct {l : Launch} {b : Bool} (hl0 : l.stackTraces = false) : q_CtL l b 296 pL_waitOf := by
  refine q_methL (by decide) (by decide) TL_waitOf kL_waitOf ?_
  intro av M K hwf
  rintro ⟨S, a, hR, rfl, hK, hX, hX2⟩
  refine ⟨Nat.le_of_ble_eq_true rfl, fun Z hz => ?_⟩
  apply hz [] 60
  refine Exists.intro _ ⟨⟨rfl, cX8_waitOf_ct hl0⟩, S, a, hR, rfl, ?_, ?_, ?_⟩
  · refine fun y0 y1 y2 y3 y4 => ?_
    refine Exists.intro 0 ⟨rfl, by decide, ?_⟩
    exact hK y0 y1 y2 y3 y4
  · exact fun y0 => fun q => hX y0
  · exact fun y0 y1 => fun q => hX2 y0 y1
theorem kL_queueOf : q_chk (q_own 297) (q_ml 297) (q_fr 297) (q_lo 297) (q_b 297) TL_queueOf = true := by decide +kernel
abbrev pL_queueOf : Q_P := fun av M K KX => ∃ (S : Nat → Int32) (a : Int32), RC 0 M S ∧ av = [.inr (.inl (0, 0, 0)), .inl a, .inr (.inl (25, 0, 0))] ∧ (∀ x p : Nat, x < 20 → a = nI x → s_qd S (nI x) (s_q S) = some p → K (some (.inl (nI 0))) (q_sl M (25, 0, 0) 0 (nI p).toInt64)) ∧ (¬ s_rg 0 19 a → K (some (.inl (nI 1))) M) ∧ (s_rg 0 19 a → s_qd S a (s_q S) = none → K (some (.inl (nI 2))) M)
theorem cL_queueOf_ct {l : Launch} {b : Bool} (hl0 : l.stackTraces = false) : q_CtL l b 297 pL_queueOf := by
  refine q_methL (by decide) (by decide) TL_queueOf kL_queueOf ?_
  intro av M K hwf
  rintro ⟨S, a, hR, rfl, hK, hX, hX2⟩
  refine ⟨Nat.le_of_ble_eq_true rfl, fun Z hz => ?_⟩
  apply hz [] 60
  refine Exists.intro _ ⟨⟨rfl, cX8_queueOf_ct hl0⟩, S, a, hR, rfl, ?_, ?_, ?_⟩
  · refine fun y0 y1 y2 y3 y4 => ?_
    refine Exists.intro 0 ⟨rfl, by decide, ?_⟩
    exact hK y0 y1 y2 y3 y4
  · exact fun y0 => fun q => hX y0
  · exact fun y0 y1 => fun q => hX2 y0 y1
theorem kL_waiterAt : q_chk (q_own 298) (q_ml 298) (q_fr 298) (q_lo 298) (q_b 298) TL_waiterAt = true := by decide +kernel
abbrev pL_waiterAt : Q_P := fun av M K KX => ∃ (S : Nat → Int32) (a : Int32), RC 0 M S ∧ av = [.inr (.inl (0, 0, 0)), .inl a, .inr (.inl (25, 0, 0))] ∧ (∀ k, k < s_q S → a = nI k → K (some (.inl (nI 0))) (q_sl M (25, 0, 0) 0 (S (146 + 3 * k)).toInt64)) ∧ (¬ (nI 0 ≤ a ∧ a ≤ S 145 - nI 1) → K (some (.inl (nI 1))) M)
theorem cL_waiterAt_ct {l : Launch} {b : Bool} (hl0 : l.stackTraces = false) : q_CtL l b 298 pL_waiterAt := by
  refine q_methL (by decide) (by decide) TL_waiterAt kL_waiterAt ?_
  intro av M K hwf
  rintro ⟨S, y, hR, rfl, hK, hX⟩
  refine ⟨Nat.le_of_ble_eq_true rfl, fun Z hz => ?_⟩
  apply hz [] 60
  refine Exists.intro _ ⟨⟨rfl, cX8_waiterAt_ct hl0⟩, S, y, hR, rfl, ?_, ?_⟩
  · refine fun y0 y1 y2 => ?_
    refine Exists.intro 0 ⟨rfl, by decide, ?_⟩
    exact hK y0 y1 y2
  · exact fun y0 => fun q => hX y0
theorem kL_wouldHit : q_chk (q_own 300) (q_ml 300) (q_fr 300) (q_lo 300) (q_b 300) TL_wouldHit = true := by decide +kernel
abbrev pL_wouldHit : Q_P := fun av M K KX => ∃ (S : Nat → Int32) (a : Int32), RC 0 M S ∧ av = [.inr (.inl (0, 0, 0)), .inl a, .inr (.inl (25, 0, 0))] ∧ (∀ p, s_rg 0 29 a → s_nx S = some p → K (some (.inl (nI 0))) (q_sl M (25, 0, 0) 0 (q_bi (s_hs S p a = true ∧ S (4 + 12 * p) = nI 0)).toInt64)) ∧ (¬ s_rg 0 29 a → K (some (.inl (nI 1))) M) ∧ (s_rg 0 29 a → s_nx S = none → K (some (.inl (nI 2))) M)
theorem cL_wouldHit_ct {l : Launch} {b : Bool} (hl0 : l.stackTraces = false) : q_CtL l b 300 pL_wouldHit := by
  refine q_methL (by decide) (by decide) TL_wouldHit kL_wouldHit ?_
  intro av M K hwf
  rintro ⟨S, a, hR, rfl, hK, hX, hX2⟩
  refine ⟨Nat.le_of_ble_eq_true rfl, fun Z hz => ?_⟩
  apply hz [] 60
  refine Exists.intro _ ⟨⟨rfl, cX8_wouldHit_ct hl0⟩, S, a, hR, rfl, ?_, ?_, ?_⟩
  · intro p y1 y2
    have hh := hK p y1 y2
    by_cases cc : s_hs S p a = true ∧ S (4 + 12 * p) = nI 0
    · rw [q_bi_t cc] at hh ⊢
      refine And.intro (fun g => absurd g q_n1) (fun _ => ?_)
      refine Exists.intro 0 ⟨rfl, by decide, ?_⟩
      rw [q_t1] at hh
      exact hh
    · rw [q_bi_f cc] at hh ⊢
      refine And.intro (fun _ => ?_) (fun g => absurd nI_0 g)
      refine Exists.intro 0 ⟨rfl, by decide, ?_⟩
      rw [q_t0] at hh
      exact hh
  · exact fun y0 => fun q => hX y0
  · exact fun y0 y1 => fun q => hX2 y0 y1
theorem kL_idleWith : q_chk (q_own 301) (q_ml 301) (q_fr 301) (q_lo 301) (q_b 301) TL_idleWith = true := by decide +kernel
abbrev pL_idleWith : Q_P := fun av M K KX => ∃ (S : Nat → Int32) (a : Int32), RC 0 M S ∧ av = [.inr (.inl (0, 0, 0)), .inl a, .inr (.inl (25, 0, 0))] ∧ (s_rg 0 29 a → K (some (.inl (nI 0))) (q_sl M (25, 0, 0) 0 (nI (s_iw S a (s_n S))).toInt64)) ∧ (¬ s_rg 0 29 a → K (some (.inl (nI 1))) M)
theorem cL_idleWith_ct {l : Launch} {b : Bool} (hl0 : l.stackTraces = false) : q_CtL l b 301 pL_idleWith := by
  refine q_methL (by decide) (by decide) TL_idleWith kL_idleWith ?_
  intro av M K hwf
  rintro ⟨S, a, hR, rfl, hK, hX⟩
  refine ⟨Nat.le_of_ble_eq_true rfl, fun Z hz => ?_⟩
  apply hz [] 60
  refine Exists.intro _ ⟨⟨rfl, cX8_idleWith_ct hl0⟩, S, a, hR, rfl, ?_, ?_⟩
  · refine fun y0 => ?_
    refine Exists.intro 0 ⟨rfl, by decide, ?_⟩
    exact hK y0
  · exact fun y0 => fun q => hX y0
theorem kL_closedFor : q_chk (q_own 302) (q_ml 302) (q_fr 302) (q_lo 302) (q_b 302) TL_closedFor = true := by decide +kernel
abbrev pL_closedFor : Q_P := fun av M K KX => ∃ (S : Nat → Int32) (a : Int32), RC 0 M S ∧ av = [.inr (.inl (0, 0, 0)), .inl a, .inr (.inl (25, 0, 0))] ∧ (∀ k, k < 5 → a = nI k → K (some (.inl (nI 0))) (q_sl M (25, 0, 0) 0 (S (215 + k)).toInt64)) ∧ (¬ s_rg 0 4 a → K (some (.inl (nI 1))) M)
theorem cL_closedFor_ct {l : Launch} {b : Bool} (hl0 : l.stackTraces = false) : q_CtL l b 302 pL_closedFor := by
  refine q_methL (by decide) (by decide) TL_closedFor kL_closedFor ?_
  intro av M K hwf
  rintro ⟨S, a, hR, rfl, hK, hX⟩
  refine ⟨Nat.le_of_ble_eq_true rfl, fun Z hz => ?_⟩
  apply hz [] 60
  refine Exists.intro _ ⟨⟨rfl, cX8_closedFor_ct hl0⟩, S, a, hR, rfl, ?_, ?_⟩
  · refine fun y0 y1 y2 => ?_
    refine Exists.intro 0 ⟨rfl, by decide, ?_⟩
    exact hK y0 y1 y2
  · exact fun y0 => fun q => hX y0
