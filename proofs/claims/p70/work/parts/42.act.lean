-- WHAT THE POOL DOES
theorem s_wf_207 {S S' : Nat → Int32} (w : s_wf S) (h : ∀ i, (i < 207 ∨ 214 ≤ i) → S' i = S i) (hm : S' 207 = nI (s_m S') ∧ s_m S' ≤ 12) (hl : S' 208 = nI (s_l S') ∧ s_l S' ≤ 6) (hb : q_bit (S' 213)) : s_wf S' := by
  obtain ⟨⟨w0, wn⟩, ⟨wq, wq2⟩, -, -, -, w1, -⟩ := id w
  refine s_wf_map w (n := s_n S) (q := s_q S) ((h 0 (by omega)).trans w0) wn ((h 145 (by omega)).trans wq) wq2 hm hl hb id id (fun _ _ h => h) (fun _ _ h => h) (fun k hk => ?_) (fun k hk => ⟨hk, h _ (by omega)⟩)
  rw [h (4 + 12 * k) (by omega), h (8 + 12 * k) (by omega)]
  exact ⟨Or.inr ⟨hk, h _ (by omega)⟩, (w1 _ hk).2⟩
theorem s_wf_set {S : Nat → Int32} {i : Nat} {x : Int32} (w : s_wf S) (hi : i < 7) (h0 : i = 0 → ∃ m : Nat, m ≤ 12 ∧ x = nI m) (h1 : i = 1 → ∃ m : Nat, m ≤ 6 ∧ x = nI m) (h6 : i = 6 → q_bit x) : s_wf (upd S (207 + i) x) := by
  obtain ⟨-, -, wm, wl, wb, -⟩ := id w
  refine s_wf_207 w (fun k hk => q_upd_ne (by omega)) ?_ ?_ ?_
  · by_cases c : i = 0
    · obtain ⟨m, hm, e⟩ := h0 c
      have e2 : upd S (207 + i) x 207 = nI m := by rw [c, q_upd_eq, e]
      have e3 : s_m (upd S (207 + i) x) = m := s_of e2 (by omega)
      rw [e3]
      exact ⟨e2, hm⟩
    · have e2 : upd S (207 + i) x 207 = S 207 := q_upd_ne (by omega)
      have e3 : s_m (upd S (207 + i) x) = s_m S := congrArg Int32.toNatClampNeg e2
      rw [e3, e2]
      exact wm
  · by_cases c : i = 1
    · obtain ⟨m, hm, e⟩ := h1 c
      have e2 : upd S (207 + i) x 208 = nI m := by rw [c, q_upd_eq, e]
      have e3 : s_l (upd S (207 + i) x) = m := s_of e2 (by omega)
      rw [e3]
      exact ⟨e2, hm⟩
    · have e2 : upd S (207 + i) x 208 = S 208 := q_upd_ne (by omega)
      have e3 : s_l (upd S (207 + i) x) = s_l S := congrArg Int32.toNatClampNeg e2
      rw [e3, e2]
      exact wl
  · by_cases c : i = 6
    · rw [c, q_upd_eq]
      exact h6 c
    · rw [q_upd_ne (by omega)]
      exact wb
theorem RC_set {M : Q_M} {j i : Nat} {x : Int32} {S : Nat → Int32} (hR : RC j M S) (hi : i < 7) (hw : s_wf (upd S (207 + i) x)) : RC j (q_si M (16, j, 0) i x) (upd S (207 + i) x) := by
  refine ⟨hw, ?_⟩
  have wn := hR.1.1.2
  have wq := hR.1.2.1.2
  obtain ⟨hst, hcs, hqu, hse, hac⟩ := hR.2
  have ne : ∀ k, k < 207 ∨ 214 ≤ k → upd S (207 + i) x k = S k := fun k hk => q_upd_ne (by omega)
  unfold RC0
  rw [q_i_e, q_i_2, q_i_r (show 10 ≠ 16 by decide), q_i_r (show 19 ≠ 16 by decide), q_i_r (show 20 ≠ 16 by decide), q_i_r (show 12 ≠ 16 by decide), q_i_r (show 13 ≠ 16 by decide), q_i_r (show 14 ≠ 16 by decide), q_i_r (show 15 ≠ 16 by decide), q_i_r (show 17 ≠ 16 by decide), q_i_r (show 18 ≠ 16 by decide)]
  refine ⟨r_st_c hst (ne _ (by omega)) (ne _ (by omega)) (ne _ (by omega)), r_cs_c hcs wn (ne _ (by omega)) (fun q hq i h1 h2 => ne _ (by omega)), r_qu_c hqu wq (fun i h1 h2 => ne _ (by omega)), fun k hk => ?_, r_ac_c hac (fun i h1 h2 => ne _ (by omega))⟩
  by_cases c : k = i
  · rw [c, q_upd_eq, q_upd_eq]
  · rw [q_upd_ne c, q_upd_ne (by omega)]
    exact hse k hk
theorem s_wf_br {S : Nat → Int32} {p : Nat} (w : s_wf S) (hp : p < s_n S) : s_wf (upd S (4 + 12 * p) (nI 1)) := by
  obtain ⟨⟨w0, wn⟩, ⟨wq, wq2⟩, -, -, -, w1, -⟩ := id w
  have ne : ∀ i, i ≠ 4 + 12 * p → upd S (4 + 12 * p) (nI 1) i = S i := fun i h => q_upd_ne h
  obtain ⟨hm, hl, hb⟩ := s_set_of w (S' := upd S (4 + 12 * p) (nI 1)) (ne _ (by omega)) (ne _ (by omega)) (ne _ (by omega))
  refine s_wf_map w (n := s_n S) (q := s_q S) ((ne 0 (by omega)).trans w0) wn ((ne 145 (by omega)).trans wq) wq2 hm hl hb id id (fun _ _ h => h) (fun _ _ h => h) (fun k hk => ?_) (fun k hk => ⟨hk, ne _ (by omega)⟩)
  refine ⟨Or.inr ⟨hk, ne _ (by omega)⟩, ?_, ?_⟩
  · by_cases c : k = p
    · rw [c, q_upd_eq]
      exact Or.inr rfl
    · rw [ne _ (by omega)]
      exact (w1 k hk).2.1
  · rw [ne _ (by omega)]
    exact (w1 k hk).2.2
theorem RC_br {M : Q_M} {j p : Nat} {S : Nat → Int32} (hR : RC j M S) (hp : p < s_n S) : RC j (q_si M (19, j, M.2.1 11 j 0 p) 2 (nI 1)) (upd S (4 + 12 * p) (nI 1)) := by
  refine ⟨s_wf_br hR.1 hp, ?_⟩
  have wn := hR.1.1.2
  have wq := hR.1.2.1.2
  obtain ⟨hst, hcs, hqu, hse, hac⟩ := hR.2
  have ne : ∀ i, i ≠ 4 + 12 * p → upd S (4 + 12 * p) (nI 1) i = S i := fun i h => q_upd_ne h
  unfold RC0
  rw [q_i_j, q_i_2, q_i_r (show 10 ≠ 19 by decide), q_i_r (show 16 ≠ 19 by decide), q_i_r (show 20 ≠ 19 by decide), q_i_r (show 12 ≠ 19 by decide), q_i_r (show 13 ≠ 19 by decide), q_i_r (show 14 ≠ 19 by decide), q_i_r (show 15 ≠ 19 by decide), q_i_r (show 17 ≠ 19 by decide), q_i_r (show 18 ≠ 19 by decide)]
  refine ⟨r_st_c hst (ne _ (by omega)) (ne _ (by omega)) (ne _ (by omega)), ?_, r_qu_c hqu wq (fun i h1 h2 => ne _ (by omega)), r_se_c hse (fun i h1 h2 => ne _ (by omega)), r_ac_c hac (fun i h1 h2 => ne _ (by omega))⟩
  rw [show M.1 20 j = updc (M.1 20 j) (M.2.1 11 j 0 p) (M.1 20 j (M.2.1 11 j 0 p)) from updc_id.symm]
  refine r_cs_set hcs hp wn (ne _ (by omega)) (fun q h1 h2 i h3 h4 => ne _ (by omega)) ?_
  obtain ⟨⟨a1, a2, a3, a4⟩, ⟨a5, a6, a7, a8⟩, hnu⟩ := hcs.2 p hp
  refine r_cn_mk ?_ ?_ ?_ ?_ ?_ ?_ ?_ ?_ ?_
  · rw [q_upd_ne (by decide), ne _ (by omega)]
    exact a1
  · rw [q_upd_ne (by decide), ne _ (by omega)]
    exact a2
  · rw [q_upd_eq, q_upd_eq]
  · rw [q_upd_ne (by decide), ne _ (by omega)]
    exact a4
  · rw [q_upd_ne (by decide), ne _ (by omega)]
    exact a5
  · rw [q_upd_ne (by decide), ne _ (by omega)]
    exact a6
  · rw [q_upd_ne (by decide), ne _ (by omega)]
    exact a7
  · rw [q_upd_ne (by decide), ne _ (by omega)]
    exact a8
  · intro k h1 h2
    unfold s_c at h2 hnu
    rw [ne _ (by omega)] at h2
    rw [ne _ (by omega)]
    exact hnu k h1 h2
abbrev pX8_ask : Q_P := fun av M K KX => ∃ (S : Nat → Int32) (h : Nat) (G : Nat → Nat → Int32) (kb : Nat → Int32) (T : Nat → Nat → Int32) (n : Nat) (tx : Nat → Nat) (a u : Int32), CV M S h G kb T n tx ∧ av = [.inr (.inl (0, 0, 0)), .inl a, .inl u] ∧ (∀ x, x < 20 → a = nI x → s_rg 0 2 u → s_lk S (nI x) (s_n S) = none → s_qd S (nI x) (s_q S) = none → ∀ M', CV M' ((s_as S (nI x) u).2) (s_h1 h) (s_hG h G S) kb T n tx → q_fx M M' → K (some (.inl (q_bi ((s_as S (nI x) u).1 = true)))) M') ∧ (¬ s_rg 0 19 a → KX 1 M) ∧ (s_rg 0 19 a → ¬ s_rg 0 2 u → KX 2 M) ∧ (s_rg 0 19 a → s_rg 0 2 u → ¬ (s_lk S a (s_n S) = none ∧ s_qd S a (s_q S) = none) → KX 3 M)
theorem cX8_ask_ct {l : Launch} {b : Bool} (hl0 : l.stackTraces = false) : q_Ct l b 67 pX8_ask := by
  refine q_meth (by decide +kernel) hl0 TX8_ask kX8_ask ?_
  intro av M K KX hwf
  rintro ⟨S, h, G, kb, T, n, tx, a, u, hc, rfl, hK, hX, hX2, hX3⟩
  refine ⟨Nat.le_of_ble_eq_true rfl, fun Z hz hw => ?_⟩
  apply hz [] 60
  refine Exists.intro _ ⟨cX8_checkSquirrel_ct hl0, a, rfl, fun c => ?_, hX⟩
  refine Exists.intro _ ⟨cX8_checkRange_ct hl0, u, nI 0, nI 2, rfl, fun c2 => ?_, hX2 c⟩
  obtain ⟨x, -, hx, e⟩ := s_rg_n (by omega) (by omega) c
  subst e
  have hX3 := hX3 c c2
  refine Exists.intro _ ⟨cX7_isBusy_ct hl0, 0, S, nI x, hc.1, fun g => q_m1n (by omega) g.symm, rfl, ?_⟩
  by_cases cc : s_lk S (nI x) (s_n S) = none ∧ s_qd S (nI x) (s_q S) = none
  · have cn : ¬ ¬ (s_lk S (nI x) (s_n S) = none ∧ s_qd S (nI x) (s_q S) = none) := fun h => h cc
    rw [q_bi_f cn]
    refine And.intro (fun _ => ?_) (fun g => absurd nI_0 g)
    refine Exists.intro _ ⟨cX4_save_ct hl0, S, h, G, kb, T, n, tx, hc, rfl, fun M1 h1 h2 => ?_⟩
    refine Exists.intro _ ⟨cX7_letAsk_ct hl0, 0, x, u, S, h1.1, by omega, cc.1, cc.2, rfl, fun M2 h3 h4 => ?_⟩
    exact And.intro (q_bi_bit _) (hK x (by omega) rfl c2 cc.1 cc.2 M2 (CV_now h1 h3 h4) (q_fx_tr h2 (q_fx_sm h4)))
  · rw [q_bi_t cc]
    exact And.intro (fun g => absurd g q_n1) (fun _ => hX3 cc)
abbrev pX8_giveBack : Q_P := fun av M K KX => ∃ (S : Nat → Int32) (h : Nat) (G : Nat → Nat → Int32) (kb : Nat → Int32) (T : Nat → Nat → Int32) (n : Nat) (tx : Nat → Nat) (a : Int32), CV M S h G kb T n tx ∧ av = [.inr (.inl (0, 0, 0)), .inl a] ∧ (∀ x p, x < 20 → a = nI x → s_lk S (nI x) (s_n S) = some p → ∀ M', CV M' ((s_gv S p).2) (s_h1 h) (s_hG h G S) kb T n tx → q_fx M M' → K (some (.inl (q_bi (0 < (s_gv S p).1)))) M') ∧ (¬ s_rg 0 19 a → KX 1 M) ∧ (s_rg 0 19 a → s_lk S a (s_n S) = none → KX 3 M)
theorem cX8_giveBack_ct {l : Launch} {b : Bool} (hl0 : l.stackTraces = false) : q_Ct l b 68 pX8_giveBack := by
  refine q_meth (by decide +kernel) hl0 TX8_giveBack kX8_giveBack ?_
  intro av M K KX hwf
  rintro ⟨S, h, G, kb, T, n, tx, a, hc, rfl, hK, hX, hX3⟩
  refine ⟨Nat.le_of_ble_eq_true rfl, fun Z hz hw => ?_⟩
  apply hz [] 60
  refine Exists.intro _ ⟨cX8_placeWanted_ct hl0, S, a, hc.1, rfl, fun x p hx e hl => ?_, hX, hX3⟩
  refine Exists.intro _ ⟨cX4_save_ct hl0, S, h, G, kb, T, n, tx, hc, rfl, fun M1 h1 h2 => ?_⟩
  refine Exists.intro _ ⟨cX7_takeBack_ct hl0, 0, p, S, h1.1, (s_lk_lt hl).1, rfl, fun M2 h3 h4 => ?_⟩
  exact And.intro (q_bi_bit _) (hK x p hx e hl M2 (CV_now h1 h3 h4) (q_fx_tr h2 (q_fx_sm h4)))
abbrev pX8_leave : Q_P := fun av M K KX => ∃ (S : Nat → Int32) (h : Nat) (G : Nat → Nat → Int32) (kb : Nat → Int32) (T : Nat → Nat → Int32) (n : Nat) (tx : Nat → Nat) (a : Int32), CV M S h G kb T n tx ∧ av = [.inr (.inl (0, 0, 0)), .inl a] ∧ (∀ x p, x < 20 → a = nI x → s_qd S (nI x) (s_q S) = some p → ∀ M', CV M' (s_uq S p) (s_h1 h) (s_hG h G S) kb T n tx → q_fx M M' → K (some (.inl (S 206 - S (148 + 3 * p)))) M') ∧ (¬ s_rg 0 19 a → KX 1 M) ∧ (s_rg 0 19 a → s_qd S a (s_q S) = none → KX 3 M)
theorem cX8_leave_ct {l : Launch} {b : Bool} (hl0 : l.stackTraces = false) : q_Ct l b 69 pX8_leave := by
  refine q_meth (by decide +kernel) hl0 TX8_leave kX8_leave ?_
  intro av M K KX hwf
  rintro ⟨S, h, G, kb, T, n, tx, a, hc, rfl, hK, hX, hX3⟩
  refine ⟨Nat.le_of_ble_eq_true rfl, fun Z hz hw => ?_⟩
  apply hz [] 60
  refine Exists.intro _ ⟨cX8_queuePlaceWanted_ct hl0, S, a, hc.1, rfl, fun x p hx e hl => ?_, hX, hX3⟩
  refine Exists.intro _ ⟨cX4_save_ct hl0, S, h, G, kb, T, n, tx, hc, rfl, fun M1 h1 h2 => ?_⟩
  refine Exists.intro _ ⟨cX7_letLeave_ct hl0, 0, p, S, h1.1, (s_qd_lt hl).1, rfl, fun M2 h3 h4 => ?_⟩
  exact hK x p hx e hl M2 (CV_now h1 h3 h4) (q_fx_tr h2 (q_fx_sm h4))
abbrev pX8_use : Q_P := fun av M K KX => ∃ (S : Nat → Int32) (h : Nat) (G : Nat → Nat → Int32) (kb : Nat → Int32) (T : Nat → Nat → Int32) (n : Nat) (tx : Nat → Nat) (a y : Int32), CV M S h G kb T n tx ∧ av = [.inr (.inl (0, 0, 0)), .inl a, .inl y] ∧ (∀ x p, x < 20 → a = nI x → s_rg 0 29 y → s_lk S (nI x) (s_n S) = some p → ∀ M', CV M' ((s_us S p y).2) (s_h1 h) (s_hG h G S) kb T n tx → q_fx M M' → K (some (.inl (q_bi ((s_us S p y).1 = true)))) M') ∧ (¬ s_rg 0 19 a → KX 1 M) ∧ (s_rg 0 19 a → ¬ s_rg 0 29 y → KX 2 M) ∧ (s_rg 0 19 a → s_rg 0 29 y → s_lk S a (s_n S) = none → KX 3 M)
theorem cX8_use_ct {l : Launch} {b : Bool} (hl0 : l.stackTraces = false) : q_Ct l b 70 pX8_use := by
  refine q_meth (by decide +kernel) hl0 TX8_use kX8_use ?_
  intro av M K KX hwf
  rintro ⟨S, h, G, kb, T, n, tx, a, y, hc, rfl, hK, hX, hX2, hX3⟩
  refine ⟨Nat.le_of_ble_eq_true rfl, fun Z hz hw => ?_⟩
  apply hz [] 60
  refine Exists.intro _ ⟨cX8_checkSquirrel_ct hl0, a, rfl, fun c => ?_, hX⟩
  refine Exists.intro _ ⟨cX8_checkRange_ct hl0, y, nI 0, nI 29, rfl, fun c2 => ?_, hX2 c⟩
  refine Exists.intro _ ⟨cX8_placeWanted_ct hl0, S, a, hc.1, rfl, fun x p hx e hl => ?_, hX, fun _ g => hX3 c c2 g⟩
  refine Exists.intro _ ⟨cX4_save_ct hl0, S, h, G, kb, T, n, tx, hc, rfl, fun M1 h1 h2 => ?_⟩
  refine Exists.intro _ ⟨cX7_letUse_ct hl0, 0, p, y, S, h1.1, (s_lk_lt hl).1, rfl, fun M2 h3 h4 => ?_⟩
  exact And.intro (q_bi_bit _) (hK x p hx e c2 hl M2 (CV_now h1 h3 h4) (q_fx_tr h2 (q_fx_sm h4)))
abbrev pX8_breakOff : Q_P := fun av M K KX => ∃ (S : Nat → Int32) (h : Nat) (G : Nat → Nat → Int32) (kb : Nat → Int32) (T : Nat → Nat → Int32) (n : Nat) (tx : Nat → Nat) (a : Int32), CV M S h G kb T n tx ∧ av = [.inr (.inl (0, 0, 0)), .inl a] ∧ (∀ p, p < s_n S → a = nI p → ∀ M', CV M' (upd S (4 + 12 * p) (nI 1)) (s_h1 h) (s_hG h G S) kb T n tx → q_fx M M' → K (some (.inl (q_bi (S (4 + 12 * p) = nI 0)))) M') ∧ (¬ s_lp1 S a → KX 1 M)
theorem cX8_breakOff_ct {l : Launch} {b : Bool} (hl0 : l.stackTraces = false) : q_Ct l b 71 pX8_breakOff := by
  refine q_meth (by decide +kernel) hl0 TX8_breakOff kX8_breakOff ?_
  intro av M K KX hwf
  rintro ⟨S, h, G, kb, T, n, tx, a, hc, rfl, hK, hX⟩
  refine ⟨Nat.le_of_ble_eq_true rfl, fun Z hz hw => ?_⟩
  apply hz [] 60
  refine Exists.intro _ ⟨cX8_checkPlace_ct hl0, S, a, hc.1, rfl, fun c => ?_, hX⟩
  obtain ⟨p, hp, e⟩ := s_lp1_e hc.1.1 c
  subst e
  have wn := hc.1.1.1.2
  refine Exists.intro _ ⟨cX4_save_ct hl0, S, h, G, kb, T, n, tx, hc, rfl, fun M1 h1 h2 => ?_⟩
  refine Exists.intro p ⟨rfl, by omega, ?_⟩
  have r := RC_br h1.1 hp
  have s := q_sm_si (j := 0) (c := M1.2.1 11 0 0 p) (k := 2) (x := nI 1) (q_sm_rfl (M := M1)) (show 10 ≤ 19 by decide) (by decide)
  have hK := hK p hp rfl _ (CV_now h1 r s) (q_fx_tr h2 (q_fx_sm s))
  have eb : M1.1 19 0 (M1.2.1 11 0 0 p) 2 = S (4 + 12 * p) := (h1.1.2.2.1.2 p hp).1.2.2.1
  refine And.intro (fun (g : M1.1 19 0 (M1.2.1 11 0 0 p) 2 = 0) => ?_) (fun (g : ¬ M1.1 19 0 (M1.2.1 11 0 0 p) 2 = 0) => ?_)
  · rw [eb] at g
    rw [q_bi_t (g.trans nI_0.symm)] at hK
    exact And.intro (Or.inr rfl) (And.intro (Or.inr rfl) hK)
  · rw [eb] at g
    rw [q_bi_f (fun g2 => g (g2.trans nI_0))] at hK
    exact And.intro (Or.inr rfl) (And.intro (Or.inl rfl) hK)
abbrev pX8_tick : Q_P := fun av M K KX => ∃ (S : Nat → Int32) (h : Nat) (G : Nat → Nat → Int32) (kb : Nat → Int32) (T : Nat → Nat → Int32) (n : Nat) (tx : Nat → Nat) (a : Int32), CV M S h G kb T n tx ∧ av = [.inr (.inl (0, 0, 0)), .inl a] ∧ (∀ t, t ≤ 100 → a = nI t → s_rg 1 100 a → ∀ M', CV M' ((s_ps t S).2) (s_h1 h) (s_hG h G S) kb T n tx → q_fx M M' → K (some (.inl (nI (s_ps t S).1))) M') ∧ (¬ s_rg 1 100 a → KX 2 M)
theorem cX8_tick_ct {l : Launch} {b : Bool} (hl0 : l.stackTraces = false) : q_Ct l b 72 pX8_tick := by
  refine q_meth (by decide +kernel) hl0 TX8_tick kX8_tick ?_
  intro av M K KX hwf
  rintro ⟨S, h, G, kb, T, n, tx, a, hc, rfl, hK, hX⟩
  refine ⟨Nat.le_of_ble_eq_true rfl, fun Z hz hw => ?_⟩
  apply hz [] 60
  refine Exists.intro _ ⟨cX8_checkRange_ct hl0, a, nI 1, nI 100, rfl, fun c => ?_, hX⟩
  obtain ⟨t, -, ht, e⟩ := s_rg_n (lo := 1) (hi := 100) (by omega) (by omega) c
  subst e
  refine Exists.intro _ ⟨cX4_save_ct hl0, S, h, G, kb, T, n, tx, hc, rfl, fun M1 h1 h2 => ?_⟩
  refine Exists.intro _ ⟨cX7_passTicks_ct hl0, 0, t, S, h1.1, by omega, rfl, fun M2 h3 h4 => ?_⟩
  exact hK t ht rfl c M2 (CV_now h1 h3 h4) (q_fx_tr h2 (q_fx_sm h4))
abbrev pX8_changeIdle : Q_P := fun av M K KX => ∃ (S : Nat → Int32) (h : Nat) (G : Nat → Nat → Int32) (kb : Nat → Int32) (T : Nat → Nat → Int32) (n : Nat) (tx : Nat → Nat) (a : Int32), CV M S h G kb T n tx ∧ av = [.inr (.inl (0, 0, 0)), .inl a] ∧ (s_rg 0 6 a → ∀ M', CV M' (upd S 208 a) (s_h1 h) (s_hG h G S) kb T n tx → q_fx M M' → K (some (.inl (S 208))) M') ∧ (¬ s_rg 0 6 a → KX 2 M)
theorem cX8_changeIdle_ct {l : Launch} {b : Bool} (hl0 : l.stackTraces = false) : q_Ct l b 74 pX8_changeIdle := by
  refine q_meth (by decide +kernel) hl0 TX8_changeIdle kX8_changeIdle ?_
  intro av M K KX hwf
  rintro ⟨S, h, G, kb, T, n, tx, a, hc, rfl, hK, hX⟩
  refine ⟨Nat.le_of_ble_eq_true rfl, fun Z hz hw => ?_⟩
  apply hz [] 60
  refine Exists.intro _ ⟨cX8_checkRange_ct hl0, a, nI 0, nI 6, rfl, fun c => ?_, hX⟩
  have hK := hK c
  obtain ⟨m, -, hm, e⟩ := s_rg_n (lo := 0) (hi := 6) (by omega) (by omega) c
  refine Exists.intro _ ⟨cX4_save_ct hl0, S, h, G, kb, T, n, tx, hc, rfl, fun M1 h1 h2 => ?_⟩
  have r := RC_set (i := 1) (x := a) h1.1 (by omega) (s_wf_set h1.1.1 (by omega) (fun g => absurd g (by decide)) (fun g => ⟨m, hm, e⟩) (fun g => absurd g (by decide)))
  have s := q_sm_si (j := 0) (c := 0) (k := 1) (x := a) (q_sm_rfl (M := M1)) (show 10 ≤ 16 by decide) (by decide)
  have hK := hK _ (CV_now h1 r s) (q_fx_tr h2 (q_fx_sm s))
  rw [← (show M1.1 16 0 0 1 = S 208 from h1.1.2.2.2.2.1 1 (by omega))] at hK
  exact hK
abbrev pX8_changeAge : Q_P := fun av M K KX => ∃ (S : Nat → Int32) (h : Nat) (G : Nat → Nat → Int32) (kb : Nat → Int32) (T : Nat → Nat → Int32) (n : Nat) (tx : Nat → Nat) (a : Int32), CV M S h G kb T n tx ∧ av = [.inr (.inl (0, 0, 0)), .inl a] ∧ (s_rg 5 999 a → ∀ M', CV M' (upd S 209 a) (s_h1 h) (s_hG h G S) kb T n tx → q_fx M M' → K (some (.inl (S 209))) M') ∧ (¬ s_rg 5 999 a → KX 2 M)
theorem cX8_changeAge_ct {l : Launch} {b : Bool} (hl0 : l.stackTraces = false) : q_Ct l b 75 pX8_changeAge := by
  refine q_meth (by decide +kernel) hl0 TX8_changeAge kX8_changeAge ?_
  intro av M K KX hwf
  rintro ⟨S, h, G, kb, T, n, tx, a, hc, rfl, hK, hX⟩
  refine ⟨Nat.le_of_ble_eq_true rfl, fun Z hz hw => ?_⟩
  apply hz [] 60
  refine Exists.intro _ ⟨cX8_checkRange_ct hl0, a, nI 5, nI 999, rfl, fun c => ?_, hX⟩
  have hK := hK c
  obtain ⟨m, -, hm, e⟩ := s_rg_n (lo := 5) (hi := 999) (by omega) (by omega) c
  refine Exists.intro _ ⟨cX4_save_ct hl0, S, h, G, kb, T, n, tx, hc, rfl, fun M1 h1 h2 => ?_⟩
  have r := RC_set (i := 2) (x := a) h1.1 (by omega) (s_wf_set h1.1.1 (by omega) (fun g => absurd g (by decide)) (fun g => absurd g (by decide)) (fun g => absurd g (by decide)))
  have s := q_sm_si (j := 0) (c := 0) (k := 2) (x := a) (q_sm_rfl (M := M1)) (show 10 ≤ 16 by decide) (by decide)
  have hK := hK _ (CV_now h1 r s) (q_fx_tr h2 (q_fx_sm s))
  rw [← (show M1.1 16 0 0 2 = S 209 from h1.1.2.2.2.2.1 2 (by omega))] at hK
  exact hK
abbrev pX8_changeRest : Q_P := fun av M K KX => ∃ (S : Nat → Int32) (h : Nat) (G : Nat → Nat → Int32) (kb : Nat → Int32) (T : Nat → Nat → Int32) (n : Nat) (tx : Nat → Nat) (a : Int32), CV M S h G kb T n tx ∧ av = [.inr (.inl (0, 0, 0)), .inl a] ∧ (s_rg 1 999 a → ∀ M', CV M' (upd S 210 a) (s_h1 h) (s_hG h G S) kb T n tx → q_fx M M' → K (some (.inl (S 210))) M') ∧ (¬ s_rg 1 999 a → KX 2 M)
theorem cX8_changeRest_ct {l : Launch} {b : Bool} (hl0 : l.stackTraces = false) : q_Ct l b 76 pX8_changeRest := by
  refine q_meth (by decide +kernel) hl0 TX8_changeRest kX8_changeRest ?_
  intro av M K KX hwf
  rintro ⟨S, h, G, kb, T, n, tx, a, hc, rfl, hK, hX⟩
  refine ⟨Nat.le_of_ble_eq_true rfl, fun Z hz hw => ?_⟩
  apply hz [] 60
  refine Exists.intro _ ⟨cX8_checkRange_ct hl0, a, nI 1, nI 999, rfl, fun c => ?_, hX⟩
  have hK := hK c
  obtain ⟨m, -, hm, e⟩ := s_rg_n (lo := 1) (hi := 999) (by omega) (by omega) c
  refine Exists.intro _ ⟨cX4_save_ct hl0, S, h, G, kb, T, n, tx, hc, rfl, fun M1 h1 h2 => ?_⟩
  have r := RC_set (i := 3) (x := a) h1.1 (by omega) (s_wf_set h1.1.1 (by omega) (fun g => absurd g (by decide)) (fun g => absurd g (by decide)) (fun g => absurd g (by decide)))
  have s := q_sm_si (j := 0) (c := 0) (k := 3) (x := a) (q_sm_rfl (M := M1)) (show 10 ≤ 16 by decide) (by decide)
  have hK := hK _ (CV_now h1 r s) (q_fx_tr h2 (q_fx_sm s))
  rw [← (show M1.1 16 0 0 3 = S 210 from h1.1.2.2.2.2.1 3 (by omega))] at hK
  exact hK
abbrev pX8_changeLease : Q_P := fun av M K KX => ∃ (S : Nat → Int32) (h : Nat) (G : Nat → Nat → Int32) (kb : Nat → Int32) (T : Nat → Nat → Int32) (n : Nat) (tx : Nat → Nat) (a : Int32), CV M S h G kb T n tx ∧ av = [.inr (.inl (0, 0, 0)), .inl a] ∧ (s_rg 1 999 a → ∀ M', CV M' (upd S 211 a) (s_h1 h) (s_hG h G S) kb T n tx → q_fx M M' → K (some (.inl (S 211))) M') ∧ (¬ s_rg 1 999 a → KX 2 M)
theorem cX8_changeLease_ct {l : Launch} {b : Bool} (hl0 : l.stackTraces = false) : q_Ct l b 77 pX8_changeLease := by
  refine q_meth (by decide +kernel) hl0 TX8_changeLease kX8_changeLease ?_
  intro av M K KX hwf
  rintro ⟨S, h, G, kb, T, n, tx, a, hc, rfl, hK, hX⟩
  refine ⟨Nat.le_of_ble_eq_true rfl, fun Z hz hw => ?_⟩
  apply hz [] 60
  refine Exists.intro _ ⟨cX8_checkRange_ct hl0, a, nI 1, nI 999, rfl, fun c => ?_, hX⟩
  have hK := hK c
  obtain ⟨m, -, hm, e⟩ := s_rg_n (lo := 1) (hi := 999) (by omega) (by omega) c
  refine Exists.intro _ ⟨cX4_save_ct hl0, S, h, G, kb, T, n, tx, hc, rfl, fun M1 h1 h2 => ?_⟩
  have r := RC_set (i := 4) (x := a) h1.1 (by omega) (s_wf_set h1.1.1 (by omega) (fun g => absurd g (by decide)) (fun g => absurd g (by decide)) (fun g => absurd g (by decide)))
  have s := q_sm_si (j := 0) (c := 0) (k := 4) (x := a) (q_sm_rfl (M := M1)) (show 10 ≤ 16 by decide) (by decide)
  have hK := hK _ (CV_now h1 r s) (q_fx_tr h2 (q_fx_sm s))
  rw [← (show M1.1 16 0 0 4 = S 211 from h1.1.2.2.2.2.1 4 (by omega))] at hK
  exact hK
abbrev pX8_changePatience : Q_P := fun av M K KX => ∃ (S : Nat → Int32) (h : Nat) (G : Nat → Nat → Int32) (kb : Nat → Int32) (T : Nat → Nat → Int32) (n : Nat) (tx : Nat → Nat) (a : Int32), CV M S h G kb T n tx ∧ av = [.inr (.inl (0, 0, 0)), .inl a] ∧ (s_rg 1 99 a → ∀ M', CV M' (upd S 212 a) (s_h1 h) (s_hG h G S) kb T n tx → q_fx M M' → K (some (.inl (S 212))) M') ∧ (¬ s_rg 1 99 a → KX 2 M)
theorem cX8_changePatience_ct {l : Launch} {b : Bool} (hl0 : l.stackTraces = false) : q_Ct l b 78 pX8_changePatience := by
  refine q_meth (by decide +kernel) hl0 TX8_changePatience kX8_changePatience ?_
  intro av M K KX hwf
  rintro ⟨S, h, G, kb, T, n, tx, a, hc, rfl, hK, hX⟩
  refine ⟨Nat.le_of_ble_eq_true rfl, fun Z hz hw => ?_⟩
  apply hz [] 60
  refine Exists.intro _ ⟨cX8_checkRange_ct hl0, a, nI 1, nI 99, rfl, fun c => ?_, hX⟩
  have hK := hK c
  obtain ⟨m, -, hm, e⟩ := s_rg_n (lo := 1) (hi := 99) (by omega) (by omega) c
  refine Exists.intro _ ⟨cX4_save_ct hl0, S, h, G, kb, T, n, tx, hc, rfl, fun M1 h1 h2 => ?_⟩
  have r := RC_set (i := 5) (x := a) h1.1 (by omega) (s_wf_set h1.1.1 (by omega) (fun g => absurd g (by decide)) (fun g => absurd g (by decide)) (fun g => absurd g (by decide)))
  have s := q_sm_si (j := 0) (c := 0) (k := 5) (x := a) (q_sm_rfl (M := M1)) (show 10 ≤ 16 by decide) (by decide)
  have hK := hK _ (CV_now h1 r s) (q_fx_tr h2 (q_fx_sm s))
  rw [← (show M1.1 16 0 0 5 = S 212 from h1.1.2.2.2.2.1 5 (by omega))] at hK
  exact hK
abbrev pX8_changeMost : Q_P := fun av M K KX => ∃ (S : Nat → Int32) (h : Nat) (G : Nat → Nat → Int32) (kb : Nat → Int32) (T : Nat → Nat → Int32) (n : Nat) (tx : Nat → Nat) (a : Int32), CV M S h G kb T n tx ∧ av = [.inr (.inl (0, 0, 0)), .inl a] ∧ (s_rg 1 12 a → ∀ M', CV M' (s_tm (s_n S) (upd S 207 a)) (s_h1 h) (s_hG h G S) kb T n tx → q_fx M M' → K (some (.inl (S 207))) M') ∧ (¬ s_rg 1 12 a → KX 2 M)
theorem cX8_changeMost_ct {l : Launch} {b : Bool} (hl0 : l.stackTraces = false) : q_Ct l b 73 pX8_changeMost := by
  refine q_meth (by decide +kernel) hl0 TX8_changeMost kX8_changeMost ?_
  intro av M K KX hwf
  rintro ⟨S, h, G, kb, T, n, tx, a, hc, rfl, hK, hX⟩
  refine ⟨Nat.le_of_ble_eq_true rfl, fun Z hz hw => ?_⟩
  apply hz [] 60
  refine Exists.intro _ ⟨cX8_checkRange_ct hl0, a, nI 1, nI 12, rfl, fun c => ?_, hX⟩
  have hK := hK c
  obtain ⟨m, -, hm, e⟩ := s_rg_n (lo := 1) (hi := 12) (by omega) (by omega) c
  refine Exists.intro _ ⟨cX4_save_ct hl0, S, h, G, kb, T, n, tx, hc, rfl, fun M1 h1 h2 => ?_⟩
  have r := RC_set (i := 0) (x := a) h1.1 (by omega) (s_wf_set h1.1.1 (by omega) (fun _ => ⟨m, hm, e⟩) (fun g => absurd g (by decide)) (fun g => absurd g (by decide)))
  have s := q_sm_si (j := 0) (c := 0) (k := 0) (x := a) (q_sm_rfl (M := M1)) (show 10 ≤ 16 by decide) (by decide)
  refine Exists.intro _ ⟨cX7_closeTooMany_ct hl0, 0, _, r, rfl, fun M2 h3 h4 => ?_⟩
  have hK := hK M2 (CV_now h1 (by rw [show s_n (upd S (207 + 0) a) = s_n S from s_n_e (q_upd_ne (by omega))] at h3; exact h3) (q_sm_tr s h4)) (q_fx_tr h2 (q_fx_sm (q_sm_tr s h4)))
  rw [← (show M1.1 16 0 0 0 = S 207 from h1.1.2.2.2.2.1 0 (by omega))] at hK
  exact hK
abbrev pX8_turnOrder : Q_P := fun av M K KX => ∃ (S : Nat → Int32) (h : Nat) (G : Nat → Nat → Int32) (kb : Nat → Int32) (T : Nat → Nat → Int32) (n : Nat) (tx : Nat → Nat), CV M S h G kb T n tx ∧ av = [.inr (.inl (0, 0, 0))] ∧ ∀ M', CV M' (upd S 213 (nI 1 - S 213)) (s_h1 h) (s_hG h G S) kb T n tx → q_fx M M' → K (some (.inl (nI 1 - S 213))) M'
theorem cX8_turnOrder_ct {l : Launch} {b : Bool} (hl0 : l.stackTraces = false) : q_Ct l b 79 pX8_turnOrder := by
  refine q_meth (by decide +kernel) hl0 TX8_turnOrder kX8_turnOrder ?_
  intro av M K KX hwf
  rintro ⟨S, h, G, kb, T, n, tx, hc, rfl, hK⟩
  refine ⟨Nat.le_of_ble_eq_true rfl, fun Z hz hw => ?_⟩
  apply hz [] 60
  refine Exists.intro _ ⟨cX4_save_ct hl0, S, h, G, kb, T, n, tx, hc, rfl, fun M1 h1 h2 => ?_⟩
  have e6 : M1.1 16 0 0 6 = S 213 := h1.1.2.2.2.2.1 6 (by omega)
  have wb := hc.1.1.2.2.2.2.1
  have key : ∀ x : Int32, q_bit x → x = nI 1 - S 213 → q_bit x ∧ q_bit ((q_si M1 (16, 0, 0) 6 x).1 16 0 0 6) ∧ K (some (.inl ((q_si M1 (16, 0, 0) 6 x).1 16 0 0 6))) (q_si M1 (16, 0, 0) 6 x) := by
    intro x hb e
    have ex : (q_si M1 (16, 0, 0) 6 x).1 16 0 0 6 = x := by rw [q_i_e, q_upd_eq]
    rw [ex]
    have r := RC_set (i := 6) (x := x) h1.1 (by omega) (s_wf_set h1.1.1 (by omega) (fun g => absurd g (by decide)) (fun g => absurd g (by decide)) (fun _ => hb))
    have s := q_sm_si (j := 0) (c := 0) (k := 6) (x := x) (q_sm_rfl (M := M1)) (show 10 ≤ 16 by decide) (by decide)
    have hK := hK _ (CV_now h1 (S' := upd S 213 (nI 1 - S 213)) (by rw [← e]; exact r) s) (q_fx_tr h2 (q_fx_sm s))
    rw [← e] at hK
    exact ⟨hb, hb, hK⟩
  refine And.intro (fun (g : M1.1 16 0 0 6 = 0) => ?_) (fun (g : ¬ M1.1 16 0 0 6 = 0) => ?_)
  · rw [e6] at g
    exact key (nI 1) (Or.inr rfl) (by rw [g]; decide)
  · rw [e6] at g
    have g1 : S 213 = nI 1 := by
      rcases wb with h | h
      · exact absurd (h.trans nI_0) g
      · exact h
    exact key (nI 0) (Or.inl rfl) (by rw [g1]; decide)
abbrev pX8_keep : Q_P := fun av M K KX => ∃ (S : Nat → Int32) (h : Nat) (G : Nat → Nat → Int32) (kb : Nat → Int32) (T : Nat → Nat → Int32) (n : Nat) (tx : Nat → Nat) (a : Int32), CV M S h G kb T n tx ∧ av = [.inr (.inl (0, 0, 0)), .inl a] ∧ (∀ k, k < 2 → a = nI k → ∀ M', CV M' S h G (upd kb k (nI 1)) (fun i => if i = k then S else T i) n tx → q_fx M M' → K none M') ∧ (¬ s_rg 0 1 a → KX 2 M)
theorem cX8_keep_ct {l : Launch} {b : Bool} (hl0 : l.stackTraces = false) : q_Ct l b 84 pX8_keep := by
  refine q_meth (by decide +kernel) hl0 TX8_keep kX8_keep ?_
  intro av M K KX hwf
  rintro ⟨S, h, G, kb, T, n, tx, a, hc, rfl, hK, hX⟩
  refine ⟨Nat.le_of_ble_eq_true rfl, fun Z hz hw => ?_⟩
  apply hz [] 60
  refine Exists.intro _ ⟨cX8_checkRange_ct hl0, a, nI 0, nI 1, rfl, fun c => ?_, hX⟩
  obtain ⟨k, -, hk, e⟩ := s_rg_n (lo := 0) (hi := 1) (by omega) (by omega) c
  subst e
  have hK := hK k (by omega) rfl
  have hkv := hc.2.2.2.1
  have ek := (hkv k (by omega)).1
  refine Exists.intro k ⟨rfl, by omega, ?_⟩
  refine Exists.intro _ ⟨cX7_copyFrom_ct hl0, M.2.1 1 0 0 k, 0, S, by omega, hc.1, hc.2.1 _ (by omega), rfl, fun M1 h1 h2 => ?_⟩
  refine Exists.intro k ⟨rfl, by omega, Or.inr rfl, ?_⟩
  have rr : ∀ r, 10 ≤ r → r ≤ 20 → (q_si M1 (2, 0, 0) k (nI 1)).1 r = M1.1 r := fun r g1 g2 => q_i_r (by omega)
  have up : ∀ {j : Nat} {U : Nat → Int32}, RC j M1 U → RC j (q_si M1 (2, 0, 0) k (nI 1)) U := fun g => RC_rows rr rfl g
  refine hK _ ⟨up (RC_fr' h2 (by omega) hc.1), fun j hj => CV_pl hc.2.1 h2 h1.2.2.1.1 j hj, ?_, ?_, ?_⟩ (q_fx_si (q_fx_sm h2) (by decide))
  · obtain ⟨b1, b2, b3, b4, b5⟩ := HV_sm hc.2.2.1 h2 (by omega)
    exact ⟨b1, by rw [q_i_r (show 3 ≠ 2 by decide)]; exact b2, b3, b4, fun i hi => up (b5 i hi)⟩
  · intro k' hk'
    rw [q_i_2, q_i_e, q_sm_f h2 (by decide), q_sm_r h2 (by decide)]
    obtain ⟨c1, c2, c3, c4⟩ := hkv k' hk'
    show _ ∧ _ ∧ _ ∧ (upd kb k (nI 1) k' = nI 1 → RC (2 + k') _ (if k' = k then S else T k'))
    by_cases g : k' = k
    · rw [if_pos g, g, q_upd_eq, q_upd_eq]
      refine ⟨ek, rfl, Or.inr rfl, fun _ => ?_⟩
      rw [← ek]
      exact up h1
    · rw [q_upd_ne g, q_upd_ne g, if_neg g]
      exact ⟨c1, c2, c3, fun g2 => up (RC_fr' h2 (by omega) (c4 g2))⟩
  · have hb := BV_sm hc.2.2.2.2 h2
    unfold BV at hb ⊢
    rw [q_i_r (show 5 ≠ 2 by decide), q_i_r (show 6 ≠ 2 by decide)]
    exact hb
abbrev pX8_goBack : Q_P := fun av M K KX => ∃ (S : Nat → Int32) (h : Nat) (G : Nat → Nat → Int32) (kb : Nat → Int32) (T : Nat → Nat → Int32) (n : Nat) (tx : Nat → Nat) (a : Int32), CV M S h G kb T n tx ∧ av = [.inr (.inl (0, 0, 0)), .inl a] ∧ (∀ k, k < 2 → a = nI k → kb k = nI 1 → ∀ M', CV M' (T k) (s_h1 h) (s_hG h G S) kb T n tx → q_fx M M' → K (none) M') ∧ (¬ s_rg 0 1 a → KX 2 M) ∧ (∀ k, k < 2 → a = nI k → ¬ kb k = nI 1 → KX 3 M)
theorem cX8_goBack_ct {l : Launch} {b : Bool} (hl0 : l.stackTraces = false) : q_Ct l b 85 pX8_goBack := by
  refine q_meth (by decide +kernel) hl0 TX8_goBack kX8_goBack ?_
  intro av M K KX hwf
  rintro ⟨S, h, G, kb, T, n, tx, a, hc, rfl, hK, hX, hX3⟩
  refine ⟨Nat.le_of_ble_eq_true rfl, fun Z hz hw => ?_⟩
  apply hz [] 60
  refine Exists.intro _ ⟨cX8_checkRange_ct hl0, a, nI 0, nI 1, rfl, fun c => ?_, hX⟩
  obtain ⟨k, -, hk, e⟩ := s_rg_n (lo := 0) (hi := 1) (by omega) (by omega) c
  subst e
  have hK := hK k (by omega) rfl
  have hX3 := hX3 k (by omega) rfl
  obtain ⟨c1, c2, c3, c4⟩ := hc.2.2.2.1 k (by omega)
  refine Exists.intro k ⟨rfl, by omega, ?_⟩
  refine And.intro (fun (g : M.1 2 0 0 k = 0) => ?_) (fun (g : ¬ M.1 2 0 0 k = 0) => ?_)
  · rw [c2] at g
    exact hX3 (fun h => by rw [h] at g; exact q_n1 g)
  · rw [c2] at g
    have g1 : kb k = nI 1 := by
      rcases c3 with h | h
      · exact absurd (h.trans nI_0) g
      · exact h
    refine Exists.intro _ ⟨cX4_save_ct hl0, S, h, G, kb, T, n, tx, hc, rfl, fun M1 h1 h2 => ?_⟩
    refine Exists.intro k ⟨rfl, by omega, ?_⟩
    obtain ⟨d1, d2, d3, d4⟩ := h1.2.2.2.1 k (by omega)
    refine Exists.intro _ ⟨cX7_copyFrom_ct hl0, 0, M1.2.1 1 0 0 k, T k, by omega, by rw [d1]; exact d4 g1, h1.2.1 0 (by omega), rfl, fun M2 h3 h4 => ?_⟩
    exact hK g1 M2 (CV_now h1 h3 h4) (q_fx_tr h2 (q_fx_sm h4))
abbrev pX8_undo : Q_P := fun av M K KX => ∃ (S : Nat → Int32) (h : Nat) (G : Nat → Nat → Int32) (kb : Nat → Int32) (T : Nat → Nat → Int32) (n : Nat) (tx : Nat → Nat), CV M S h G kb T n tx ∧ av = [.inr (.inl (0, 0, 0))] ∧ (0 < h → ∀ M', CV M' (G (h - 1)) (h - 1) G kb T n tx → q_fx M M' → K none M') ∧ (h = 0 → KX 3 M)
theorem cX8_undo_ct {l : Launch} {b : Bool} (hl0 : l.stackTraces = false) : q_Ct l b 86 pX8_undo := by
  refine q_meth (by decide +kernel) hl0 TX8_undo kX8_undo ?_
  intro av M K KX hwf
  rintro ⟨S, h, G, kb, T, n, tx, hc, rfl, hK, hX⟩
  refine ⟨Nat.le_of_ble_eq_true rfl, fun Z hz hw => ?_⟩
  have e := hc.2.2.1.2.1
  have h6 := hc.2.2.1.1
  apply hz [] 60
  refine And.intro (fun (g : M.1 3 0 0 0 = 0) => ?_) (fun (g : ¬ M.1 3 0 0 0 = 0) => ?_)
  · rw [e, ← nI_0, nI_eq (by omega) (by omega)] at g
    exact hX g
  · have g : 0 < h := Nat.pos_of_ne_zero (fun c => g (by rw [e, c]; decide))
    exact Exists.intro _ ⟨cX4_restore_ct hl0, S, h, G, kb, T, n, tx, hc, g, rfl, hK g⟩
