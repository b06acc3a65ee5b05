-- THE LAW'S WRAPPERS
abbrev pL_ask : Q_P := fun av M K KX => ∃ (S : Nat → Int32) (h : Nat) (G : Nat → Nat → Int32) (kb : Nat → Int32) (T : Nat → Nat → Int32) (n : Nat) (tx : Nat → Nat) (a u : Int32), CV M S h G kb T n tx ∧ av = [.inr (.inl (0, 0, 0)), .inl a, .inl u] ∧ (∀ x, x < 20 → a = nI x → s_rg 0 2 u → s_lk S (nI x) (s_n S) = none → s_qd S (nI x) (s_q S) = none → ∀ M', CV M' ((s_as S (nI x) u).2) (s_h1 h) (s_hG h G S) kb T n tx → q_fx M M' → K (some (.inl (q_bi ((s_as S (nI x) u).1 = true)))) M') ∧ (¬ s_rg 0 19 a → K (some (.inl (-2000001))) M) ∧ (s_rg 0 19 a → ¬ s_rg 0 2 u → K (some (.inl (-2000002))) M) ∧ (s_rg 0 19 a → s_rg 0 2 u → ¬ (s_lk S a (s_n S) = none ∧ s_qd S a (s_q S) = none) → K (some (.inl (-2000003))) M)
theorem cL_ask_ct {l : Launch} {b : Bool} (hl0 : l.stackTraces = false) : q_CtL l b 149 pL_ask := by
  refine q_methL (by decide) (by decide) TL_ask kL_ask ?_
  intro av M K hwf
  rintro ⟨S, h, G, kb, T, n, tx, a, u, h0, rfl, k0, k1, k2, k3⟩
  refine ⟨Nat.le_of_ble_eq_true rfl, fun Z hz => ?_⟩
  apply hz [] 60
  refine Exists.intro _ ⟨⟨rfl, cX8_ask_ct hl0⟩, S, h, G, kb, T, n, tx, a, u, h0, rfl, ?_, ?_, ?_, ?_⟩
  · intro x y1 y2 y3 y4 y5 M' y7 y8
    have hh := k0 x y1 y2 y3 y4 y5 M' y7 y8
    by_cases cc : (s_as S (nI x) u).1 = true
    · rw [q_bi_t cc] at hh ⊢
      exact And.intro (fun g => absurd g q_n1) (fun _ => hh)
    · rw [q_bi_f cc] at hh ⊢
      exact And.intro (fun _ => hh) (fun g => absurd nI_0 g)
  · exact fun y0 => fun q => k1 y0
  · exact fun y0 y1 => fun q => k2 y0 y1
  · exact fun y0 y1 y2 => fun q => k3 y0 y1 y2
abbrev pL_give : Q_P := fun av M K KX => ∃ (S : Nat → Int32) (h : Nat) (G : Nat → Nat → Int32) (kb : Nat → Int32) (T : Nat → Nat → Int32) (n : Nat) (tx : Nat → Nat) (a : Int32), CV M S h G kb T n tx ∧ av = [.inr (.inl (0, 0, 0)), .inl a] ∧ (∀ x p, x < 20 → a = nI x → s_lk S (nI x) (s_n S) = some p → ∀ M', CV M' ((s_gv S p).2) (s_h1 h) (s_hG h G S) kb T n tx → q_fx M M' → K (some (.inl (q_bi (0 < (s_gv S p).1)))) M') ∧ (¬ s_rg 0 19 a → K (some (.inl (-2000001))) M) ∧ (s_rg 0 19 a → s_lk S a (s_n S) = none → K (some (.inl (-2000002))) M)
theorem cL_give_ct {l : Launch} {b : Bool} (hl0 : l.stackTraces = false) : q_CtL l b 150 pL_give := by
  refine q_methL (by decide) (by decide) TL_give kL_give ?_
  intro av M K hwf
  rintro ⟨S, h, G, kb, T, n, tx, a, h0, rfl, k0, k1, k2⟩
  refine ⟨Nat.le_of_ble_eq_true rfl, fun Z hz => ?_⟩
  apply hz [] 60
  refine Exists.intro _ ⟨⟨rfl, cX8_giveBack_ct hl0⟩, S, h, G, kb, T, n, tx, a, h0, rfl, ?_, ?_, ?_⟩
  · intro x p y2 y3 y4 M' y6 y7
    have hh := k0 x p y2 y3 y4 M' y6 y7
    by_cases cc : 0 < (s_gv S p).1
    · rw [q_bi_t cc] at hh ⊢
      exact And.intro (fun g => absurd g q_n1) (fun _ => hh)
    · rw [q_bi_f cc] at hh ⊢
      exact And.intro (fun _ => hh) (fun g => absurd nI_0 g)
  · exact fun y0 => fun q => k1 y0
  · exact fun y0 y1 => fun q => k2 y0 y1
abbrev pL_leave : Q_P := fun av M K KX => ∃ (S : Nat → Int32) (h : Nat) (G : Nat → Nat → Int32) (kb : Nat → Int32) (T : Nat → Nat → Int32) (n : Nat) (tx : Nat → Nat) (a : Int32), CV M S h G kb T n tx ∧ av = [.inr (.inl (0, 0, 0)), .inl a] ∧ (∀ x p, x < 20 → a = nI x → s_qd S (nI x) (s_q S) = some p → ∀ M', CV M' (s_uq S p) (s_h1 h) (s_hG h G S) kb T n tx → q_fx M M' → K (some (.inl (S 206 - S (148 + 3 * p)))) M') ∧ (¬ s_rg 0 19 a → K (some (.inl (-2000001))) M) ∧ (s_rg 0 19 a → s_qd S a (s_q S) = none → K (some (.inl (-2000002))) M)
theorem cL_leave_ct {l : Launch} {b : Bool} (hl0 : l.stackTraces = false) : q_CtL l b 151 pL_leave := by
  refine q_methL (by decide) (by decide) TL_leave kL_leave ?_
  intro av M K hwf
  rintro ⟨S, h, G, kb, T, n, tx, a, h0, rfl, k0, k1, k2⟩
  refine ⟨Nat.le_of_ble_eq_true rfl, fun Z hz => ?_⟩
  apply hz [] 60
  refine Exists.intro _ ⟨⟨rfl, cX8_leave_ct hl0⟩, S, h, G, kb, T, n, tx, a, h0, rfl, ?_, ?_, ?_⟩
  · exact fun x p y2 y3 y4 M' y6 y7 => k0 x p y2 y3 y4 M' y6 y7
  · exact fun y0 => fun q => k1 y0
  · exact fun y0 y1 => fun q => k2 y0 y1
abbrev pL_use : Q_P := fun av M K KX => ∃ (S : Nat → Int32) (h : Nat) (G : Nat → Nat → Int32) (kb : Nat → Int32) (T : Nat → Nat → Int32) (n : Nat) (tx : Nat → Nat) (a y : Int32), CV M S h G kb T n tx ∧ av = [.inr (.inl (0, 0, 0)), .inl a, .inl y] ∧ (∀ x p, x < 20 → a = nI x → s_rg 0 29 y → s_lk S (nI x) (s_n S) = some p → ∀ M', CV M' ((s_us S p y).2) (s_h1 h) (s_hG h G S) kb T n tx → q_fx M M' → K (some (.inl (q_bi ((s_us S p y).1 = true)))) M') ∧ (¬ s_rg 0 19 a → K (some (.inl (-2000001))) M) ∧ (s_rg 0 19 a → ¬ s_rg 0 29 y → K (some (.inl (-2000002))) M) ∧ (s_rg 0 19 a → s_rg 0 29 y → s_lk S a (s_n S) = none → K (some (.inl (-2000003))) M)
theorem cL_use_ct {l : Launch} {b : Bool} (hl0 : l.stackTraces = false) : q_CtL l b 152 pL_use := by
  refine q_methL (by decide) (by decide) TL_use kL_use ?_
  intro av M K hwf
  rintro ⟨S, h, G, kb, T, n, tx, a, y, h0, rfl, k0, k1, k2, k3⟩
  refine ⟨Nat.le_of_ble_eq_true rfl, fun Z hz => ?_⟩
  apply hz [] 60
  refine Exists.intro _ ⟨⟨rfl, cX8_use_ct hl0⟩, S, h, G, kb, T, n, tx, a, y, h0, rfl, ?_, ?_, ?_, ?_⟩
  · intro x p y2 y3 y4 y5 M' y7 y8
    have hh := k0 x p y2 y3 y4 y5 M' y7 y8
    by_cases cc : (s_us S p y).1 = true
    · rw [q_bi_t cc] at hh ⊢
      exact And.intro (fun g => absurd g q_n1) (fun _ => hh)
    · rw [q_bi_f cc] at hh ⊢
      exact And.intro (fun _ => hh) (fun g => absurd nI_0 g)
  · exact fun y0 => fun q => k1 y0
  · exact fun y0 y1 => fun q => k2 y0 y1
  · exact fun y0 y1 y2 => fun q => k3 y0 y1 y2
abbrev pL_breaks : Q_P := fun av M K KX => ∃ (S : Nat → Int32) (h : Nat) (G : Nat → Nat → Int32) (kb : Nat → Int32) (T : Nat → Nat → Int32) (n : Nat) (tx : Nat → Nat) (a : Int32), CV M S h G kb T n tx ∧ av = [.inr (.inl (0, 0, 0)), .inl a] ∧ (∀ p, p < s_n S → a = nI p → ∀ M', CV M' (upd S (4 + 12 * p) (nI 1)) (s_h1 h) (s_hG h G S) kb T n tx → q_fx M M' → K (some (.inl (q_bi (S (4 + 12 * p) = nI 0)))) M') ∧ (¬ s_lp1 S a → K (some (.inl (-2000001))) M)
theorem cL_breaks_ct {l : Launch} {b : Bool} (hl0 : l.stackTraces = false) : q_CtL l b 153 pL_breaks := by
  refine q_methL (by decide) (by decide) TL_breaks kL_breaks ?_
  intro av M K hwf
  rintro ⟨S, h, G, kb, T, n, tx, a, h0, rfl, k0, k1⟩
  refine ⟨Nat.le_of_ble_eq_true rfl, fun Z hz => ?_⟩
  apply hz [] 60
  refine Exists.intro _ ⟨⟨rfl, cX8_breakOff_ct hl0⟩, S, h, G, kb, T, n, tx, a, h0, rfl, ?_, ?_⟩
  · intro p y1 y2 M' y4 y5
    have hh := k0 p y1 y2 M' y4 y5
    by_cases cc : S (4 + 12 * p) = nI 0
    · rw [q_bi_t cc] at hh ⊢
      exact And.intro (fun g => absurd g q_n1) (fun _ => hh)
    · rw [q_bi_f cc] at hh ⊢
      exact And.intro (fun _ => hh) (fun g => absurd nI_0 g)
  · exact fun y0 => fun q => k1 y0
abbrev pL_tick : Q_P := fun av M K KX => ∃ (S : Nat → Int32) (h : Nat) (G : Nat → Nat → Int32) (kb : Nat → Int32) (T : Nat → Nat → Int32) (n : Nat) (tx : Nat → Nat) (a : Int32), CV M S h G kb T n tx ∧ av = [.inr (.inl (0, 0, 0)), .inl a] ∧ (∀ t, t ≤ 100 → a = nI t → s_rg 1 100 a → ∀ M', CV M' ((s_ps t S).2) (s_h1 h) (s_hG h G S) kb T n tx → q_fx M M' → K (some (.inl (nI (s_ps t S).1))) M') ∧ (¬ s_rg 1 100 a → K (some (.inl (-2000001))) M)
theorem cL_tick_ct {l : Launch} {b : Bool} (hl0 : l.stackTraces = false) : q_CtL l b 154 pL_tick := by
  refine q_methL (by decide) (by decide) TL_tick kL_tick ?_
  intro av M K hwf
  rintro ⟨S, h, G, kb, T, n, tx, a, h0, rfl, k0, k1⟩
  refine ⟨Nat.le_of_ble_eq_true rfl, fun Z hz => ?_⟩
  apply hz [] 60
  refine Exists.intro _ ⟨⟨rfl, cX8_tick_ct hl0⟩, S, h, G, kb, T, n, tx, a, h0, rfl, ?_, ?_⟩
  · exact fun t y1 y2 y3 M' y5 y6 => k0 t y1 y2 y3 M' y5 y6
  · exact fun y0 => fun q => k1 y0
abbrev pL_most : Q_P := fun av M K KX => ∃ (S : Nat → Int32) (h : Nat) (G : Nat → Nat → Int32) (kb : Nat → Int32) (T : Nat → Nat → Int32) (n : Nat) (tx : Nat → Nat) (a : Int32), CV M S h G kb T n tx ∧ av = [.inr (.inl (0, 0, 0)), .inl a] ∧ (s_rg 1 12 a → ∀ M', CV M' (s_tm (s_n S) (upd S 207 a)) (s_h1 h) (s_hG h G S) kb T n tx → q_fx M M' → K (some (.inl (S 207))) M') ∧ (¬ s_rg 1 12 a → K (some (.inl (-2000001))) M)
theorem cL_most_ct {l : Launch} {b : Bool} (hl0 : l.stackTraces = false) : q_CtL l b 155 pL_most := by
  refine q_methL (by decide) (by decide) TL_most kL_most ?_
  intro av M K hwf
  rintro ⟨S, h, G, kb, T, n, tx, a, h0, rfl, k0, k1⟩
  refine ⟨Nat.le_of_ble_eq_true rfl, fun Z hz => ?_⟩
  apply hz [] 60
  refine Exists.intro _ ⟨⟨rfl, cX8_changeMost_ct hl0⟩, S, h, G, kb, T, n, tx, a, h0, rfl, ?_, ?_⟩
  · exact fun y0 M' y2 y3 => k0 y0 M' y2 y3
  · exact fun y0 => fun q => k1 y0
abbrev pL_idles : Q_P := fun av M K KX => ∃ (S : Nat → Int32) (h : Nat) (G : Nat → Nat → Int32) (kb : Nat → Int32) (T : Nat → Nat → Int32) (n : Nat) (tx : Nat → Nat) (a : Int32), CV M S h G kb T n tx ∧ av = [.inr (.inl (0, 0, 0)), .inl a] ∧ (s_rg 0 6 a → ∀ M', CV M' (upd S 208 a) (s_h1 h) (s_hG h G S) kb T n tx → q_fx M M' → K (some (.inl (S 208))) M') ∧ (¬ s_rg 0 6 a → K (some (.inl (-2000001))) M)
theorem cL_idles_ct {l : Launch} {b : Bool} (hl0 : l.stackTraces = false) : q_CtL l b 156 pL_idles := by
  refine q_methL (by decide) (by decide) TL_idles kL_idles ?_
  intro av M K hwf
  rintro ⟨S, h, G, kb, T, n, tx, a, h0, rfl, k0, k1⟩
  refine ⟨Nat.le_of_ble_eq_true rfl, fun Z hz => ?_⟩
  apply hz [] 60
  refine Exists.intro _ ⟨⟨rfl, cX8_changeIdle_ct hl0⟩, S, h, G, kb, T, n, tx, a, h0, rfl, ?_, ?_⟩
  · exact fun y0 M' y2 y3 => k0 y0 M' y2 y3
  · exact fun y0 => fun q => k1 y0
abbrev pL_ages : Q_P := fun av M K KX => ∃ (S : Nat → Int32) (h : Nat) (G : Nat → Nat → Int32) (kb : Nat → Int32) (T : Nat → Nat → Int32) (n : Nat) (tx : Nat → Nat) (a : Int32), CV M S h G kb T n tx ∧ av = [.inr (.inl (0, 0, 0)), .inl a] ∧ (s_rg 5 999 a → ∀ M', CV M' (upd S 209 a) (s_h1 h) (s_hG h G S) kb T n tx → q_fx M M' → K (some (.inl (S 209))) M') ∧ (¬ s_rg 5 999 a → K (some (.inl (-2000001))) M)
theorem cL_ages_ct {l : Launch} {b : Bool} (hl0 : l.stackTraces = false) : q_CtL l b 157 pL_ages := by
  refine q_methL (by decide) (by decide) TL_ages kL_ages ?_
  intro av M K hwf
  rintro ⟨S, h, G, kb, T, n, tx, a, h0, rfl, k0, k1⟩
  refine ⟨Nat.le_of_ble_eq_true rfl, fun Z hz => ?_⟩
  apply hz [] 60
  refine Exists.intro _ ⟨⟨rfl, cX8_changeAge_ct hl0⟩, S, h, G, kb, T, n, tx, a, h0, rfl, ?_, ?_⟩
  · exact fun y0 M' y2 y3 => k0 y0 M' y2 y3
  · exact fun y0 => fun q => k1 y0
abbrev pL_rests : Q_P := fun av M K KX => ∃ (S : Nat → Int32) (h : Nat) (G : Nat → Nat → Int32) (kb : Nat → Int32) (T : Nat → Nat → Int32) (n : Nat) (tx : Nat → Nat) (a : Int32), CV M S h G kb T n tx ∧ av = [.inr (.inl (0, 0, 0)), .inl a] ∧ (s_rg 1 999 a → ∀ M', CV M' (upd S 210 a) (s_h1 h) (s_hG h G S) kb T n tx → q_fx M M' → K (some (.inl (S 210))) M') ∧ (¬ s_rg 1 999 a → K (some (.inl (-2000001))) M)
theorem cL_rests_ct {l : Launch} {b : Bool} (hl0 : l.stackTraces = false) : q_CtL l b 158 pL_rests := by
  refine q_methL (by decide) (by decide) TL_rests kL_rests ?_
  intro av M K hwf
  rintro ⟨S, h, G, kb, T, n, tx, a, h0, rfl, k0, k1⟩
  refine ⟨Nat.le_of_ble_eq_true rfl, fun Z hz => ?_⟩
  apply hz [] 60
  refine Exists.intro _ ⟨⟨rfl, cX8_changeRest_ct hl0⟩, S, h, G, kb, T, n, tx, a, h0, rfl, ?_, ?_⟩
  · exact fun y0 M' y2 y3 => k0 y0 M' y2 y3
  · exact fun y0 => fun q => k1 y0
abbrev pL_leases : Q_P := fun av M K KX => ∃ (S : Nat → Int32) (h : Nat) (G : Nat → Nat → Int32) (kb : Nat → Int32) (T : Nat → Nat → Int32) (n : Nat) (tx : Nat → Nat) (a : Int32), CV M S h G kb T n tx ∧ av = [.inr (.inl (0, 0, 0)), .inl a] ∧ (s_rg 1 999 a → ∀ M', CV M' (upd S 211 a) (s_h1 h) (s_hG h G S) kb T n tx → q_fx M M' → K (some (.inl (S 211))) M') ∧ (¬ s_rg 1 999 a → K (some (.inl (-2000001))) M)
theorem cL_leases_ct {l : Launch} {b : Bool} (hl0 : l.stackTraces = false) : q_CtL l b 159 pL_leases := by
  refine q_methL (by decide) (by decide) TL_leases kL_leases ?_
  intro av M K hwf
  rintro ⟨S, h, G, kb, T, n, tx, a, h0, rfl, k0, k1⟩
  refine ⟨Nat.le_of_ble_eq_true rfl, fun Z hz => ?_⟩
  apply hz [] 60
  refine Exists.intro _ ⟨⟨rfl, cX8_changeLease_ct hl0⟩, S, h, G, kb, T, n, tx, a, h0, rfl, ?_, ?_⟩
  · exact fun y0 M' y2 y3 => k0 y0 M' y2 y3
  · exact fun y0 => fun q => k1 y0
abbrev pL_waits : Q_P := fun av M K KX => ∃ (S : Nat → Int32) (h : Nat) (G : Nat → Nat → Int32) (kb : Nat → Int32) (T : Nat → Nat → Int32) (n : Nat) (tx : Nat → Nat) (a : Int32), CV M S h G kb T n tx ∧ av = [.inr (.inl (0, 0, 0)), .inl a] ∧ (s_rg 1 99 a → ∀ M', CV M' (upd S 212 a) (s_h1 h) (s_hG h G S) kb T n tx → q_fx M M' → K (some (.inl (S 212))) M') ∧ (¬ s_rg 1 99 a → K (some (.inl (-2000001))) M)
theorem cL_waits_ct {l : Launch} {b : Bool} (hl0 : l.stackTraces = false) : q_CtL l b 160 pL_waits := by
  refine q_methL (by decide) (by decide) TL_waits kL_waits ?_
  intro av M K hwf
  rintro ⟨S, h, G, kb, T, n, tx, a, h0, rfl, k0, k1⟩
  refine ⟨Nat.le_of_ble_eq_true rfl, fun Z hz => ?_⟩
  apply hz [] 60
  refine Exists.intro _ ⟨⟨rfl, cX8_changePatience_ct hl0⟩, S, h, G, kb, T, n, tx, a, h0, rfl, ?_, ?_⟩
  · exact fun y0 M' y2 y3 => k0 y0 M' y2 y3
  · exact fun y0 => fun q => k1 y0
abbrev pL_keep : Q_P := fun av M K KX => ∃ (S : Nat → Int32) (h : Nat) (G : Nat → Nat → Int32) (kb : Nat → Int32) (T : Nat → Nat → Int32) (n : Nat) (tx : Nat → Nat) (a : Int32), CV M S h G kb T n tx ∧ av = [.inr (.inl (0, 0, 0)), .inl a] ∧ (∀ k, k < 2 → a = nI k → ∀ M', CV M' S h G (upd kb k (nI 1)) (fun i => if i = k then S else T i) n tx → q_fx M M' → K (some (.inl (nI 0))) M') ∧ (¬ s_rg 0 1 a → K (some (.inl (-2000001))) M)
theorem cL_keep_ct {l : Launch} {b : Bool} (hl0 : l.stackTraces = false) : q_CtL l b 161 pL_keep := by
  refine q_methL (by decide) (by decide) TL_keep kL_keep ?_
  intro av M K hwf
  rintro ⟨S, h, G, kb, T, n, tx, a, h0, rfl, k0, k1⟩
  refine ⟨Nat.le_of_ble_eq_true rfl, fun Z hz => ?_⟩
  apply hz [] 60
  refine Exists.intro _ ⟨⟨rfl, cX8_keep_ct hl0⟩, S, h, G, kb, T, n, tx, a, h0, rfl, ?_, ?_⟩
  · exact fun k y1 y2 M' y4 y5 => k0 k y1 y2 M' y4 y5
  · exact fun y0 => fun q => k1 y0
abbrev pL_back : Q_P := fun av M K KX => ∃ (S : Nat → Int32) (h : Nat) (G : Nat → Nat → Int32) (kb : Nat → Int32) (T : Nat → Nat → Int32) (n : Nat) (tx : Nat → Nat) (a : Int32), CV M S h G kb T n tx ∧ av = [.inr (.inl (0, 0, 0)), .inl a] ∧ (∀ k, k < 2 → a = nI k → kb k = nI 1 → ∀ M', CV M' (T k) (s_h1 h) (s_hG h G S) kb T n tx → q_fx M M' → K (some (.inl (nI 0))) M') ∧ (¬ s_rg 0 1 a → K (some (.inl (-2000001))) M) ∧ (∀ k, k < 2 → a = nI k → ¬ kb k = nI 1 → K (some (.inl (-2000002))) M)
theorem cL_back_ct {l : Launch} {b : Bool} (hl0 : l.stackTraces = false) : q_CtL l b 162 pL_back := by
  refine q_methL (by decide) (by decide) TL_back kL_back ?_
  intro av M K hwf
  rintro ⟨S, h, G, kb, T, n, tx, a, h0, rfl, k0, k1, k2⟩
  refine ⟨Nat.le_of_ble_eq_true rfl, fun Z hz => ?_⟩
  apply hz [] 60
  refine Exists.intro _ ⟨⟨rfl, cX8_goBack_ct hl0⟩, S, h, G, kb, T, n, tx, a, h0, rfl, ?_, ?_, ?_⟩
  · exact fun k y1 y2 y3 M' y5 y6 => k0 k y1 y2 y3 M' y5 y6
  · exact fun y0 => fun q => k1 y0
  · exact fun k y1 y2 y3 => fun q => k2 k y1 y2 y3
abbrev pL_undo : Q_P := fun av M K KX => ∃ (S : Nat → Int32) (h : Nat) (G : Nat → Nat → Int32) (kb : Nat → Int32) (T : Nat → Nat → Int32) (n : Nat) (tx : Nat → Nat), CV M S h G kb T n tx ∧ av = [.inr (.inl (0, 0, 0))] ∧ (0 < h → ∀ M', CV M' (G (h - 1)) (h - 1) G kb T n tx → q_fx M M' → K (some (.inl (nI 0))) M') ∧ (h = 0 → K (some (.inl (-2000001))) M)
theorem cL_undo_ct {l : Launch} {b : Bool} (hl0 : l.stackTraces = false) : q_CtL l b 163 pL_undo := by
  refine q_methL (by decide) (by decide) TL_undo kL_undo ?_
  intro av M K hwf
  rintro ⟨S, h, G, kb, T, n, tx, h0, rfl, k0, k1⟩
  refine ⟨Nat.le_of_ble_eq_true rfl, fun Z hz => ?_⟩
  apply hz [] 60
  refine Exists.intro _ ⟨⟨rfl, cX8_undo_ct hl0⟩, S, h, G, kb, T, n, tx, h0, rfl, ?_, ?_⟩
  · exact fun y0 M' y2 y3 => k0 y0 M' y2 y3
  · exact fun y0 => fun q => k1 y0
abbrev pL_numberAt : Q_P := fun av M K KX => ∃ (S : Nat → Int32) (a : Int32), RC 0 M S ∧ av = [.inr (.inl (0, 0, 0)), .inl a] ∧ (∀ p, p < s_n S → a = nI p → K (some (.inl (S (1 + 12 * p)))) M) ∧ (¬ s_lp1 S a → K (some (.inl (-2000001))) M)
theorem cL_numberAt_ct {l : Launch} {b : Bool} (hl0 : l.stackTraces = false) : q_CtL l b 164 pL_numberAt := by
  refine q_methL (by decide) (by decide) TL_numberAt kL_numberAt ?_
  intro av M K hwf
  rintro ⟨S, a, h0, rfl, k0, k1⟩
  refine ⟨Nat.le_of_ble_eq_true rfl, fun Z hz => ?_⟩
  apply hz [] 60
  refine Exists.intro _ ⟨⟨rfl, cX8_numberAt_ct hl0⟩, S, a, h0, rfl, ?_, ?_⟩
  · exact fun p y1 y2 => k0 p y1 y2
  · exact fun y0 => fun q => k1 y0
abbrev pL_ageAt : Q_P := fun av M K KX => ∃ (S : Nat → Int32) (a : Int32), RC 0 M S ∧ av = [.inr (.inl (0, 0, 0)), .inl a] ∧ (∀ p, p < s_n S → a = nI p → K (some (.inl (S 206 - S (2 + 12 * p)))) M) ∧ (¬ s_lp1 S a → K (some (.inl (-2000001))) M)
theorem cL_ageAt_ct {l : Launch} {b : Bool} (hl0 : l.stackTraces = false) : q_CtL l b 165 pL_ageAt := by
  refine q_methL (by decide) (by decide) TL_ageAt kL_ageAt ?_
  intro av M K hwf
  rintro ⟨S, a, h0, rfl, k0, k1⟩
  refine ⟨Nat.le_of_ble_eq_true rfl, fun Z hz => ?_⟩
  apply hz [] 60
  refine Exists.intro _ ⟨⟨rfl, cX8_ageAt_ct hl0⟩, S, a, h0, rfl, ?_, ?_⟩
  · exact fun p y1 y2 => k0 p y1 y2
  · exact fun y0 => fun q => k1 y0
abbrev pL_isIdle : Q_P := fun av M K KX => ∃ (S : Nat → Int32) (a : Int32), RC 0 M S ∧ av = [.inr (.inl (0, 0, 0)), .inl a] ∧ (∀ p, p < s_n S → a = nI p → K (some (.inl (q_bi (S (3 + 12 * p) < 0)))) M) ∧ (¬ s_lp1 S a → K (some (.inl (-2000001))) M)
theorem cL_isIdle_ct {l : Launch} {b : Bool} (hl0 : l.stackTraces = false) : q_CtL l b 166 pL_isIdle := by
  refine q_methL (by decide) (by decide) TL_isIdle kL_isIdle ?_
  intro av M K hwf
  rintro ⟨S, a, h0, rfl, k0, k1⟩
  refine ⟨Nat.le_of_ble_eq_true rfl, fun Z hz => ?_⟩
  apply hz [] 60
  refine Exists.intro _ ⟨⟨rfl, cX8_isIdle_ct hl0⟩, S, a, h0, rfl, ?_, ?_⟩
  · intro p y1 y2
    have hh := k0 p y1 y2
    by_cases cc : S (3 + 12 * p) < 0
    · rw [q_bi_t cc] at hh ⊢
      exact And.intro (fun g => absurd g q_n1) (fun _ => hh)
    · rw [q_bi_f cc] at hh ⊢
      exact And.intro (fun _ => hh) (fun g => absurd nI_0 g)
  · exact fun y0 => fun q => k1 y0
abbrev pL_isBroken : Q_P := fun av M K KX => ∃ (S : Nat → Int32) (a : Int32), RC 0 M S ∧ av = [.inr (.inl (0, 0, 0)), .inl a] ∧ (∀ p, p < s_n S → a = nI p → K (some (.inl (S (4 + 12 * p)))) M) ∧ (¬ s_lp1 S a → K (some (.inl (-2000001))) M)
theorem cL_isBroken_ct {l : Launch} {b : Bool} (hl0 : l.stackTraces = false) : q_CtL l b 167 pL_isBroken := by
  refine q_methL (by decide) (by decide) TL_isBroken kL_isBroken ?_
  intro av M K hwf
  rintro ⟨S, a, h0, rfl, k0, k1⟩
  refine ⟨Nat.le_of_ble_eq_true rfl, fun Z hz => ?_⟩
  apply hz [] 60
  refine Exists.intro _ ⟨⟨rfl, cX8_isBroken_ct hl0⟩, S, a, h0, rfl, ?_, ?_⟩
  · intro p y1 y2
    have hh := k0 p y1 y2
    have hb := (h0.1.2.2.2.2.2.1 p y1).2.1
    rcases hb with e | e
    · rw [e] at hh ⊢
      exact And.intro (fun _ => hh) (fun g => absurd nI_0 g)
    · rw [e] at hh ⊢
      exact And.intro (fun g => absurd g q_n1) (fun _ => hh)
  · exact fun y0 => fun q => k1 y0
abbrev pL_who : Q_P := fun av M K KX => ∃ (S : Nat → Int32) (a : Int32), RC 0 M S ∧ av = [.inr (.inl (0, 0, 0)), .inl a] ∧ (∀ p, p < s_n S → a = nI p → ¬ S (3 + 12 * p) < 0 → K (some (.inl (S (3 + 12 * p)))) M) ∧ (¬ s_lp1 S a → K (some (.inl (-2000001))) M) ∧ (∀ p, p < s_n S → a = nI p → S (3 + 12 * p) < 0 → K (some (.inl (-2000002))) M)
theorem cL_who_ct {l : Launch} {b : Bool} (hl0 : l.stackTraces = false) : q_CtL l b 168 pL_who := by
  refine q_methL (by decide) (by decide) TL_who kL_who ?_
  intro av M K hwf
  rintro ⟨S, a, h0, rfl, k0, k1, k2⟩
  refine ⟨Nat.le_of_ble_eq_true rfl, fun Z hz => ?_⟩
  apply hz [] 60
  refine Exists.intro _ ⟨⟨rfl, cX8_squirrelAt_ct hl0⟩, S, a, h0, rfl, ?_, ?_, ?_⟩
  · exact fun p y1 y2 y3 => k0 p y1 y2 y3
  · exact fun y0 => fun q => k1 y0
  · exact fun p y1 y2 y3 => fun q => k2 p y1 y2 y3
abbrev pL_since : Q_P := fun av M K KX => ∃ (S : Nat → Int32) (a : Int32), RC 0 M S ∧ av = [.inr (.inl (0, 0, 0)), .inl a] ∧ (∀ p, p < s_n S → a = nI p → K (some (.inl (S 206 - S (5 + 12 * p)))) M) ∧ (¬ s_lp1 S a → K (some (.inl (-2000001))) M)
theorem cL_since_ct {l : Launch} {b : Bool} (hl0 : l.stackTraces = false) : q_CtL l b 169 pL_since := by
  refine q_methL (by decide) (by decide) TL_since kL_since ?_
  intro av M K hwf
  rintro ⟨S, a, h0, rfl, k0, k1⟩
  refine ⟨Nat.le_of_ble_eq_true rfl, fun Z hz => ?_⟩
  apply hz [] 60
  refine Exists.intro _ ⟨⟨rfl, cX8_sinceAt_ct hl0⟩, S, a, h0, rfl, ?_, ?_⟩
  · exact fun p y1 y2 => k0 p y1 y2
  · exact fun y0 => fun q => k1 y0
abbrev pL_turn : Q_P := fun av M K KX => ∃ (S : Nat → Int32) (a : Int32), RC 0 M S ∧ av = [.inr (.inl (0, 0, 0)), .inl a] ∧ (∀ p, p < s_n S → a = nI p → S (3 + 12 * p) < 0 → K (some (.inl (nI (s_tn S p (s_n S))))) M) ∧ (¬ s_lp1 S a → K (some (.inl (-2000001))) M) ∧ (∀ p, p < s_n S → a = nI p → ¬ S (3 + 12 * p) < 0 → K (some (.inl (-2000002))) M)
theorem cL_turn_ct {l : Launch} {b : Bool} (hl0 : l.stackTraces = false) : q_CtL l b 170 pL_turn := by
  refine q_methL (by decide) (by decide) TL_turn kL_turn ?_
  intro av M K hwf
  rintro ⟨S, a, h0, rfl, k0, k1, k2⟩
  refine ⟨Nat.le_of_ble_eq_true rfl, fun Z hz => ?_⟩
  apply hz [] 60
  refine Exists.intro _ ⟨⟨rfl, cX8_turnOf_ct hl0⟩, S, a, h0, rfl, ?_, ?_, ?_⟩
  · exact fun p y1 y2 y3 => k0 p y1 y2 y3
  · exact fun y0 => fun q => k1 y0
  · exact fun p y1 y2 y3 => fun q => k2 p y1 y2 y3
abbrev pL_lent : Q_P := fun av M K KX => ∃ (S : Nat → Int32) (a : Int32), RC 0 M S ∧ av = [.inr (.inl (0, 0, 0)), .inl a] ∧ (∀ p, p < s_n S → a = nI p → K (some (.inl (S (7 + 12 * p)))) M) ∧ (¬ s_lp1 S a → K (some (.inl (-2000001))) M)
theorem cL_lent_ct {l : Launch} {b : Bool} (hl0 : l.stackTraces = false) : q_CtL l b 171 pL_lent := by
  refine q_methL (by decide) (by decide) TL_lent kL_lent ?_
  intro av M K hwf
  rintro ⟨S, a, h0, rfl, k0, k1⟩
  refine ⟨Nat.le_of_ble_eq_true rfl, fun Z hz => ?_⟩
  apply hz [] 60
  refine Exists.intro _ ⟨⟨rfl, cX8_lendingsOf_ct hl0⟩, S, a, h0, rfl, ?_, ?_⟩
  · exact fun p y1 y2 => k0 p y1 y2
  · exact fun y0 => fun q => k1 y0
abbrev pL_nuts : Q_P := fun av M K KX => ∃ (S : Nat → Int32) (a : Int32), RC 0 M S ∧ av = [.inr (.inl (0, 0, 0)), .inl a] ∧ (∀ p, p < s_n S → a = nI p → K (some (.inl (S (8 + 12 * p)))) M) ∧ (¬ s_lp1 S a → K (some (.inl (-2000001))) M)
theorem cL_nuts_ct {l : Launch} {b : Bool} (hl0 : l.stackTraces = false) : q_CtL l b 172 pL_nuts := by
  refine q_methL (by decide) (by decide) TL_nuts kL_nuts ?_
  intro av M K hwf
  rintro ⟨S, a, h0, rfl, k0, k1⟩
  refine ⟨Nat.le_of_ble_eq_true rfl, fun Z hz => ?_⟩
  apply hz [] 60
  refine Exists.intro _ ⟨⟨rfl, cX8_nutsIn_ct hl0⟩, S, a, h0, rfl, ?_, ?_⟩
  · exact fun p y1 y2 => k0 p y1 y2
  · exact fun y0 => fun q => k1 y0
abbrev pL_nut : Q_P := fun av M K KX => ∃ (S : Nat → Int32) (a y : Int32), RC 0 M S ∧ av = [.inr (.inl (0, 0, 0)), .inl a, .inl y] ∧ (∀ p k, p < s_n S → a = nI p → k < s_c S p → y = nI k → K (some (.inl (S (9 + 12 * p + k)))) M) ∧ (¬ s_lp1 S a → K (some (.inl (-2000001))) M) ∧ (∀ p, p < s_n S → a = nI p → ¬ (nI 0 ≤ y ∧ y ≤ S (8 + 12 * p) - nI 1) → K (some (.inl (-2000001))) M)
theorem cL_nut_ct {l : Launch} {b : Bool} (hl0 : l.stackTraces = false) : q_CtL l b 173 pL_nut := by
  refine q_methL (by decide) (by decide) TL_nut kL_nut ?_
  intro av M K hwf
  rintro ⟨S, a, y, h0, rfl, k0, k1, k2⟩
  refine ⟨Nat.le_of_ble_eq_true rfl, fun Z hz => ?_⟩
  apply hz [] 60
  refine Exists.intro _ ⟨⟨rfl, cX8_nutAt_ct hl0⟩, S, a, y, h0, rfl, ?_, ?_, ?_⟩
  · exact fun p k y2 y3 y4 y5 => k0 p k y2 y3 y4 y5
  · exact fun y0 => fun q => k1 y0
  · exact fun p y1 y2 y3 => fun q => k2 p y1 y2 y3
abbrev pL_nextLent : Q_P := fun av M K KX => ∃ S : Nat → Int32, RC 0 M S ∧ av = [.inr (.inl (0, 0, 0))] ∧ (∀ p, s_nx S = some p → K (some (.inl (nI p))) M) ∧ (s_nx S = none → K (some (.inl (-2000001))) M)
theorem cL_nextLent_ct {l : Launch} {b : Bool} (hl0 : l.stackTraces = false) : q_CtL l b 174 pL_nextLent := by
  refine q_methL (by decide) (by decide) TL_nextLent kL_nextLent ?_
  intro av M K hwf
  rintro ⟨S, h0, rfl, k0, k1⟩
  refine ⟨Nat.le_of_ble_eq_true rfl, fun Z hz => ?_⟩
  apply hz [] 60
  refine Exists.intro _ ⟨⟨rfl, cX8_nextLent_ct hl0⟩, S, h0, rfl, ?_, ?_⟩
  · exact fun p y1 => k0 p y1
  · exact fun y0 => fun q => k1 y0
abbrev pL_has : Q_P := fun av M K KX => ∃ (S : Nat → Int32) (a : Int32), RC 0 M S ∧ av = [.inr (.inl (0, 0, 0)), .inl a] ∧ (s_rg 0 19 a → K (some (.inl (q_bi (¬ s_lk S a (s_n S) = none)))) M) ∧ (¬ s_rg 0 19 a → K (some (.inl (-2000001))) M)
theorem cL_has_ct {l : Launch} {b : Bool} (hl0 : l.stackTraces = false) : q_CtL l b 175 pL_has := by
  refine q_methL (by decide) (by decide) TL_has kL_has ?_
  intro av M K hwf
  rintro ⟨S, a, h0, rfl, k0, k1⟩
  refine ⟨Nat.le_of_ble_eq_true rfl, fun Z hz => ?_⟩
  apply hz [] 60
  refine Exists.intro _ ⟨⟨rfl, cX8_has_ct hl0⟩, S, a, h0, rfl, ?_, ?_⟩
  · intro y0
    have hh := k0 y0
    by_cases cc : ¬ s_lk S a (s_n S) = none
    · rw [q_bi_t cc] at hh ⊢
      exact And.intro (fun g => absurd g q_n1) (fun _ => hh)
    · rw [q_bi_f cc] at hh ⊢
      exact And.intro (fun _ => hh) (fun g => absurd nI_0 g)
  · exact fun y0 => fun q => k1 y0
abbrev pL_place : Q_P := fun av M K KX => ∃ (S : Nat → Int32) (a : Int32), RC 0 M S ∧ av = [.inr (.inl (0, 0, 0)), .inl a] ∧ (∀ x p : Nat, x < 20 → a = nI x → s_lk S (nI x) (s_n S) = some p → K (some (.inl (nI p))) M) ∧ (¬ s_rg 0 19 a → K (some (.inl (-2000001))) M) ∧ (s_rg 0 19 a → s_lk S a (s_n S) = none → K (some (.inl (-2000002))) M)
theorem cL_place_ct {l : Launch} {b : Bool} (hl0 : l.stackTraces = false) : q_CtL l b 176 pL_place := by
  refine q_methL (by decide) (by decide) TL_place kL_place ?_
  intro av M K hwf
  rintro ⟨S, a, h0, rfl, k0, k1, k2⟩
  refine ⟨Nat.le_of_ble_eq_true rfl, fun Z hz => ?_⟩
  apply hz [] 60
  refine Exists.intro _ ⟨⟨rfl, cX8_placeOf_ct hl0⟩, S, a, h0, rfl, ?_, ?_, ?_⟩
  · exact fun x p y2 y3 y4 => k0 x p y2 y3 y4
  · exact fun y0 => fun q => k1 y0
  · exact fun y0 y1 => fun q => k2 y0 y1
abbrev pL_leaseLeft : Q_P := fun av M K KX => ∃ (S : Nat → Int32) (a : Int32), RC 0 M S ∧ av = [.inr (.inl (0, 0, 0)), .inl a] ∧ (∀ x p : Nat, x < 20 → a = nI x → s_lk S (nI x) (s_n S) = some p → K (some (.inl (s_ll S p))) M) ∧ (¬ s_rg 0 19 a → K (some (.inl (-2000001))) M) ∧ (s_rg 0 19 a → s_lk S a (s_n S) = none → K (some (.inl (-2000002))) M)
theorem cL_leaseLeft_ct {l : Launch} {b : Bool} (hl0 : l.stackTraces = false) : q_CtL l b 177 pL_leaseLeft := by
  refine q_methL (by decide) (by decide) TL_leaseLeft kL_leaseLeft ?_
  intro av M K hwf
  rintro ⟨S, a, h0, rfl, k0, k1, k2⟩
  refine ⟨Nat.le_of_ble_eq_true rfl, fun Z hz => ?_⟩
  apply hz [] 60
  refine Exists.intro _ ⟨⟨rfl, cX8_leaseLeft_ct hl0⟩, S, a, h0, rfl, ?_, ?_, ?_⟩
  · exact fun x p y2 y3 y4 => k0 x p y2 y3 y4
  · exact fun y0 => fun q => k1 y0
  · exact fun y0 y1 => fun q => k2 y0 y1
abbrev pL_waiting : Q_P := fun av M K KX => ∃ (S : Nat → Int32) (a : Int32), RC 0 M S ∧ av = [.inr (.inl (0, 0, 0)), .inl a] ∧ (s_rg 0 19 a → K (some (.inl (q_bi (¬ s_qd S a (s_q S) = none)))) M) ∧ (¬ s_rg 0 19 a → K (some (.inl (-2000001))) M)
theorem cL_waiting_ct {l : Launch} {b : Bool} (hl0 : l.stackTraces = false) : q_CtL l b 178 pL_waiting := by
  refine q_methL (by decide) (by decide) TL_waiting kL_waiting ?_
  intro av M K hwf
  rintro ⟨S, a, h0, rfl, k0, k1⟩
  refine ⟨Nat.le_of_ble_eq_true rfl, fun Z hz => ?_⟩
  apply hz [] 60
  refine Exists.intro _ ⟨⟨rfl, cX8_isWaiting_ct hl0⟩, S, a, h0, rfl, ?_, ?_⟩
  · intro y0
    have hh := k0 y0
    by_cases cc : ¬ s_qd S a (s_q S) = none
    · rw [q_bi_t cc] at hh ⊢
      exact And.intro (fun g => absurd g q_n1) (fun _ => hh)
    · rw [q_bi_f cc] at hh ⊢
      exact And.intro (fun _ => hh) (fun g => absurd nI_0 g)
  · exact fun y0 => fun q => k1 y0
abbrev pL_waitOf : Q_P := fun av M K KX => ∃ (S : Nat → Int32) (a : Int32), RC 0 M S ∧ av = [.inr (.inl (0, 0, 0)), .inl a] ∧ (∀ x p : Nat, x < 20 → a = nI x → s_qd S (nI x) (s_q S) = some p → K (some (.inl (S 206 - S (148 + 3 * p)))) M) ∧ (¬ s_rg 0 19 a → K (some (.inl (-2000001))) M) ∧ (s_rg 0 19 a → s_qd S a (s_q S) = none → K (some (.inl (-2000002))) M)
theorem cL_waitOf_ct {l : Launch} {b : Bool} (hl0 : l.stackTraces = false) : q_CtL l b 179 pL_waitOf := by
  refine q_methL (by decide) (by decide) TL_waitOf kL_waitOf ?_
  intro av M K hwf
  rintro ⟨S, a, h0, rfl, k0, k1, k2⟩
  refine ⟨Nat.le_of_ble_eq_true rfl, fun Z hz => ?_⟩
  apply hz [] 60
  refine Exists.intro _ ⟨⟨rfl, cX8_waitOf_ct hl0⟩, S, a, h0, rfl, ?_, ?_, ?_⟩
  · exact fun x p y2 y3 y4 => k0 x p y2 y3 y4
  · exact fun y0 => fun q => k1 y0
  · exact fun y0 y1 => fun q => k2 y0 y1
abbrev pL_queueOf : Q_P := fun av M K KX => ∃ (S : Nat → Int32) (a : Int32), RC 0 M S ∧ av = [.inr (.inl (0, 0, 0)), .inl a] ∧ (∀ x p : Nat, x < 20 → a = nI x → s_qd S (nI x) (s_q S) = some p → K (some (.inl (nI p))) M) ∧ (¬ s_rg 0 19 a → K (some (.inl (-2000001))) M) ∧ (s_rg 0 19 a → s_qd S a (s_q S) = none → K (some (.inl (-2000002))) M)
theorem cL_queueOf_ct {l : Launch} {b : Bool} (hl0 : l.stackTraces = false) : q_CtL l b 180 pL_queueOf := by
  refine q_methL (by decide) (by decide) TL_queueOf kL_queueOf ?_
  intro av M K hwf
  rintro ⟨S, a, h0, rfl, k0, k1, k2⟩
  refine ⟨Nat.le_of_ble_eq_true rfl, fun Z hz => ?_⟩
  apply hz [] 60
  refine Exists.intro _ ⟨⟨rfl, cX8_queueOf_ct hl0⟩, S, a, h0, rfl, ?_, ?_, ?_⟩
  · exact fun x p y2 y3 y4 => k0 x p y2 y3 y4
  · exact fun y0 => fun q => k1 y0
  · exact fun y0 y1 => fun q => k2 y0 y1
abbrev pL_waiter : Q_P := fun av M K KX => ∃ (S : Nat → Int32) (a : Int32), RC 0 M S ∧ av = [.inr (.inl (0, 0, 0)), .inl a] ∧ (∀ k, k < s_q S → a = nI k → K (some (.inl (S (146 + 3 * k)))) M) ∧ (¬ (nI 0 ≤ a ∧ a ≤ S 145 - nI 1) → K (some (.inl (-2000001))) M)
theorem cL_waiter_ct {l : Launch} {b : Bool} (hl0 : l.stackTraces = false) : q_CtL l b 181 pL_waiter := by
  refine q_methL (by decide) (by decide) TL_waiter kL_waiter ?_
  intro av M K hwf
  rintro ⟨S, a, h0, rfl, k0, k1⟩
  refine ⟨Nat.le_of_ble_eq_true rfl, fun Z hz => ?_⟩
  apply hz [] 60
  refine Exists.intro _ ⟨⟨rfl, cX8_waiterAt_ct hl0⟩, S, a, h0, rfl, ?_, ?_⟩
  · exact fun k y1 y2 => k0 k y1 y2
  · exact fun y0 => fun q => k1 y0
abbrev pL_closedFor : Q_P := fun av M K KX => ∃ (S : Nat → Int32) (a : Int32), RC 0 M S ∧ av = [.inr (.inl (0, 0, 0)), .inl a] ∧ (∀ k, k < 5 → a = nI k → K (some (.inl (S (215 + k)))) M) ∧ (¬ s_rg 0 4 a → K (some (.inl (-2000001))) M)
theorem cL_closedFor_ct {l : Launch} {b : Bool} (hl0 : l.stackTraces = false) : q_CtL l b 182 pL_closedFor := by
  refine q_methL (by decide) (by decide) TL_closedFor kL_closedFor ?_
  intro av M K hwf
  rintro ⟨S, a, h0, rfl, k0, k1⟩
  refine ⟨Nat.le_of_ble_eq_true rfl, fun Z hz => ?_⟩
  apply hz [] 60
  refine Exists.intro _ ⟨⟨rfl, cX8_closedFor_ct hl0⟩, S, a, h0, rfl, ?_, ?_⟩
  · exact fun k y1 y2 => k0 k y1 y2
  · exact fun y0 => fun q => k1 y0
abbrev pL_toServe : Q_P := fun av M K KX => ∃ (S : Nat → Int32) (h : Nat) (G : Nat → Nat → Int32) (kb : Nat → Int32) (T : Nat → Nat → Int32) (n : Nat) (tx : Nat → Nat) (a : Int32), CV M S h G kb T n tx ∧ av = [.inr (.inl (0, 0, 0)), .inl a] ∧ (∀ x p, x < 20 → a = nI x → s_qd S (nI x) (s_q S) = some p → ∀ M', CV M' S h G kb T n tx → q_fx M M' → K (some (.inl (nI (s_ts x 99 0 S)))) M') ∧ (¬ s_rg 0 19 a → K (some (.inl (-2000001))) M) ∧ (s_rg 0 19 a → s_qd S a (s_q S) = none → K (some (.inl (-2000002))) M)
theorem cL_toServe_ct {l : Launch} {b : Bool} (hl0 : l.stackTraces = false) : q_CtL l b 183 pL_toServe := by
  refine q_methL (by decide) (by decide) TL_toServe kL_toServe ?_
  intro av M K hwf
  rintro ⟨S, h, G, kb, T, n, tx, a, h0, rfl, k0, k1, k2⟩
  refine ⟨Nat.le_of_ble_eq_true rfl, fun Z hz => ?_⟩
  apply hz [] 60
  refine Exists.intro _ ⟨⟨rfl, cX8_ticksToServe_ct hl0⟩, S, h, G, kb, T, n, tx, a, h0, rfl, ?_, ?_, ?_⟩
  · exact fun x p y2 y3 y4 M' y6 y7 => k0 x p y2 y3 y4 M' y6 y7
  · exact fun y0 => fun q => k1 y0
  · exact fun y0 y1 => fun q => k2 y0 y1
abbrev pL_idleWith : Q_P := fun av M K KX => ∃ (S : Nat → Int32) (a : Int32), RC 0 M S ∧ av = [.inr (.inl (0, 0, 0)), .inl a] ∧ (s_rg 0 29 a → K (some (.inl (nI (s_iw S a (s_n S))))) M) ∧ (¬ s_rg 0 29 a → K (some (.inl (-2000001))) M)
theorem cL_idleWith_ct {l : Launch} {b : Bool} (hl0 : l.stackTraces = false) : q_CtL l b 184 pL_idleWith := by
  refine q_methL (by decide) (by decide) TL_idleWith kL_idleWith ?_
  intro av M K hwf
  rintro ⟨S, a, h0, rfl, k0, k1⟩
  refine ⟨Nat.le_of_ble_eq_true rfl, fun Z hz => ?_⟩
  apply hz [] 60
  refine Exists.intro _ ⟨⟨rfl, cX8_idleWith_ct hl0⟩, S, a, h0, rfl, ?_, ?_⟩
  · exact fun y0 => k0 y0
  · exact fun y0 => fun q => k1 y0
