-- THE REFERENCE'S CALLS
def d_rf (M : Q_M) (h : Nat) (S : Nat → Int32) : Q_M := q_sa (q_sa M (21, 0, 0) (upd (upd (M.1 21 0 0) 3 (nI 0)) 1 (nI (s_h1 h)))) (22, 0, 0) S
theorem d_rf_sa {M : Q_M} {h : Nat} {S S' : Nat → Int32} : q_sa (d_rf M h S) (22, 0, 0) S' = d_rf M h S' := q_sa_sa _ _ _ _
theorem d_rf_22 {M : Q_M} {h : Nat} {S : Nat → Int32} : (d_rf M h S).1 22 0 0 = S := rfl
abbrev pX9_saves2 : Q_P := fun av M K KX => ∃ (M0 : Q_M) (h : Nat), M = q_si M0 (21, 0, 0) 3 (nI 0) ∧ h ≤ 6 ∧ M0.1 21 0 0 1 = nI h ∧ av = [.inr (.inl (21, 0, 0))] ∧ K none (d_rf M0 h (s_sav (M0.1 22 0 0) h))
theorem cX9_saves2_ct {l : Launch} {b : Bool} (hl0 : l.stackTraces = false) : q_Ct l b 150 pX9_saves2 := by
  refine q_Ct_mono (cX9_saves_ct hl0) ?_
  rintro av M K KX ⟨M0, h, rfl, hh, h1, rfl, hK⟩
  refine ⟨h, hh, ?_, rfl, ?_⟩
  · rw [q_i_e, q_upd_ne (by decide)]
    exact h1
  · rw [q_si21, q_sa_sa, q_r21, q_r2221]
    exact hK
abbrev pX9_giveBack : Q_P := fun av M K KX => ∃ (a : Int32) (h : Nat), s_wf (M.1 22 0 0) ∧ h ≤ 6 ∧ M.1 21 0 0 1 = nI h ∧ av = [.inr (.inl (21, 0, 0)), .inl a] ∧ (∀ x p, x < 20 → a = nI x → s_lk (M.1 22 0 0) (nI x) (s_n (M.1 22 0 0)) = some p → K (some (.inl (q_bi (0 < (s_gv (s_sav (M.1 22 0 0) h) p).1)))) (d_rf M h (s_gv (s_sav (M.1 22 0 0) h) p).2)) ∧ (¬ s_rg 0 19 a → K (some (.inl (nI 0))) (q_si M (21, 0, 0) 3 (nI 1))) ∧ (s_rg 0 19 a → s_lk (M.1 22 0 0) a (s_n (M.1 22 0 0)) = none → K (some (.inl (nI 0))) (q_si M (21, 0, 0) 3 (nI 2)))
theorem cX9_giveBack_ct {l : Launch} {b : Bool} (hl0 : l.stackTraces = false) : q_Ct l b 181 pX9_giveBack := by
  refine q_meth (by decide +kernel) hl0 TX9_giveBack kX9_giveBack ?_
  intro av M K KX hwf
  rintro ⟨a, h, w, hh, h1, rfl, hK, hX, hX2⟩
  refine ⟨Nat.le_of_ble_eq_true rfl, fun Z hz hw => ?_⟩
  obtain ⟨⟨w0, wn⟩, ⟨wq, wq2⟩, -⟩ := id w
  apply hz [] 100
  refine Exists.intro _ ⟨cX9_isSquirrel_ct hl0, a, rfl, ?_⟩
  by_cases c : s_rg 0 19 a
  · rw [q_bi_t c]
    refine And.intro (fun g => absurd g q_n1) (fun _ => ?_)
    have hX2 := hX2 c
    obtain ⟨x, -, hx, e⟩ := s_rg_n (by omega) (by omega) c
    subst e
    refine Exists.intro _ ⟨cX9_linkOf_ct hl0, s_n (M.1 22 0 0), nI x, wn, w0, rfl, ?_⟩
    cases hl : s_lk (M.1 22 0 0) (nI x) (s_n (M.1 22 0 0)) with
    | none =>
      refine And.intro (fun _ => ?_) (fun g => absurd (show s_oi none < 0 by decide) g)
      refine Exists.intro _ ⟨cX9_gos_ct hl0, 2, nI 1, nI 0, nI 1, by decide, rfl, fun g => absurd g (by decide), fun _ => ?_⟩
      refine And.intro (fun _ => ?_) (fun g => absurd nI_0 g)
      exact And.intro (Or.inl rfl) (hX2 hl)
    | some p =>
      have hp := (s_lk_lt hl).1
      have hK := hK x p (by omega) rfl hl
      refine And.intro (fun g => absurd g (nI_pos (by omega))) (fun _ => ?_)
      refine Exists.intro _ ⟨cX9_gos_ct hl0, 0, nI 1, nI 1, nI 1, by decide, rfl, fun _ => ?_, fun g => absurd rfl g⟩
      refine And.intro (fun g => absurd g q_n1) (fun _ => ?_)
      refine Exists.intro _ ⟨cX9_saves2_ct hl0, M, h, rfl, hh, h1, rfl, ?_⟩
      refine Exists.intro _ ⟨cX9_givesBack_ct hl0, nI x, p, s_wf_sav w, ?_, rfl, ?_⟩
      · show s_lk (s_sav (M.1 22 0 0) h) (nI x) (s_n (s_sav (M.1 22 0 0) h)) = some p
        rw [s_n_lo (fun i hi => s_sav_lo hi), s_lk_lo (fun i hi => s_sav_lo hi) wn]
        exact hl
      · rw [d_rf_sa, d_rf_22]
        exact And.intro (q_bi_bit _) hK
  · rw [q_bi_f c]
    refine And.intro (fun _ => ?_) (fun g => absurd nI_0 g)
    refine Exists.intro _ ⟨cX9_gos_ct hl0, 1, nI 0, nI 0, nI 1, by decide, rfl, fun g => absurd g (by decide), fun _ => ?_⟩
    refine And.intro (fun _ => ?_) (fun g => absurd nI_0 g)
    exact And.intro (Or.inl rfl) (hX c)
abbrev pX9_leave : Q_P := fun av M K KX => ∃ (a : Int32) (h : Nat), s_wf (M.1 22 0 0) ∧ h ≤ 6 ∧ M.1 21 0 0 1 = nI h ∧ av = [.inr (.inl (21, 0, 0)), .inl a] ∧ (∀ x p, x < 20 → a = nI x → s_qd (M.1 22 0 0) (nI x) (s_q (M.1 22 0 0)) = some p → K (some (.inl (s_sav (M.1 22 0 0) h 206 - s_sav (M.1 22 0 0) h (148 + 3 * p)))) (d_rf M h (s_uq (s_sav (M.1 22 0 0) h) p))) ∧ (¬ s_rg 0 19 a → K (some (.inl (nI 0))) (q_si M (21, 0, 0) 3 (nI 1))) ∧ (s_rg 0 19 a → s_qd (M.1 22 0 0) a (s_q (M.1 22 0 0)) = none → K (some (.inl (nI 0))) (q_si M (21, 0, 0) 3 (nI 2)))
theorem cX9_leave_ct {l : Launch} {b : Bool} (hl0 : l.stackTraces = false) : q_Ct l b 182 pX9_leave := by
  refine q_meth (by decide +kernel) hl0 TX9_leave kX9_leave ?_
  intro av M K KX hwf
  rintro ⟨a, h, w, hh, h1, rfl, hK, hX, hX2⟩
  refine ⟨Nat.le_of_ble_eq_true rfl, fun Z hz hw => ?_⟩
  obtain ⟨⟨w0, wn⟩, ⟨wq, wq2⟩, -⟩ := id w
  apply hz [] 100
  refine Exists.intro _ ⟨cX9_isSquirrel_ct hl0, a, rfl, ?_⟩
  by_cases c : s_rg 0 19 a
  · rw [q_bi_t c]
    refine And.intro (fun g => absurd g q_n1) (fun _ => ?_)
    have hX2 := hX2 c
    obtain ⟨x, -, hx, e⟩ := s_rg_n (by omega) (by omega) c
    subst e
    refine Exists.intro _ ⟨cX9_queued_ct hl0, s_q (M.1 22 0 0), nI x, wq2, wq, rfl, ?_⟩
    cases hl : s_qd (M.1 22 0 0) (nI x) (s_q (M.1 22 0 0)) with
    | none =>
      refine And.intro (fun _ => ?_) (fun g => absurd (show s_oi none < 0 by decide) g)
      refine Exists.intro _ ⟨cX9_gos_ct hl0, 2, nI 1, nI 0, nI 1, by decide, rfl, fun g => absurd g (by decide), fun _ => ?_⟩
      refine And.intro (fun _ => ?_) (fun g => absurd nI_0 g)
      exact hX2 hl
    | some p =>
      have hp := (s_qd_lt hl).1
      have hK := hK x p (by omega) rfl hl
      refine And.intro (fun g => absurd g (nI_pos (by omega))) (fun _ => ?_)
      refine Exists.intro _ ⟨cX9_gos_ct hl0, 0, nI 1, nI 1, nI 1, by decide, rfl, fun _ => ?_, fun g => absurd rfl g⟩
      refine And.intro (fun g => absurd g q_n1) (fun _ => ?_)
      refine Exists.intro _ ⟨cX9_saves2_ct hl0, M, h, rfl, hh, h1, rfl, ?_⟩
      refine Exists.intro _ ⟨cX9_queued_ct hl0, s_q (M.1 22 0 0), nI x, wq2, ?_, rfl, ?_⟩
      · show s_sav (M.1 22 0 0) h 145 = _
        rw [s_sav_lo (by omega)]
        exact wq
      · rw [d_rf_22, s_qd_lo (fun i hi => s_sav_lo hi) wq2, hl]
        refine Exists.intro _ ⟨cX9_unqueues_ct hl0, s_q (M.1 22 0 0), p, wq2, hp, ?_, rfl, ?_⟩
        · show s_sav (M.1 22 0 0) h 145 = _
          rw [s_sav_lo (by omega)]
          exact wq
        · rw [d_rf_sa, d_rf_22]
          exact hK
  · rw [q_bi_f c]
    refine And.intro (fun _ => ?_) (fun g => absurd nI_0 g)
    refine Exists.intro _ ⟨cX9_gos_ct hl0, 1, nI 0, nI 0, nI 1, by decide, rfl, fun g => absurd g (by decide), fun _ => ?_⟩
    refine And.intro (fun _ => ?_) (fun g => absurd nI_0 g)
    exact hX c
abbrev pX9_placeOf : Q_P := fun av M K KX => ∃ (a : Int32), s_wf (M.1 22 0 0) ∧ av = [.inr (.inl (21, 0, 0)), .inl a] ∧ (∀ x p, x < 20 → a = nI x → s_lk (M.1 22 0 0) (nI x) (s_n (M.1 22 0 0)) = some p → K (some (.inl (nI p))) (q_si M (21, 0, 0) 3 (nI 0))) ∧ (¬ s_rg 0 19 a → K (some (.inl (nI 0))) (q_si M (21, 0, 0) 3 (nI 1))) ∧ (s_rg 0 19 a → s_lk (M.1 22 0 0) a (s_n (M.1 22 0 0)) = none → K (some (.inl (nI 0))) (q_si M (21, 0, 0) 3 (nI 2)))
theorem cX9_placeOf_ct {l : Launch} {b : Bool} (hl0 : l.stackTraces = false) : q_Ct l b 231 pX9_placeOf := by
  refine q_meth (by decide +kernel) hl0 TX9_placeOf kX9_placeOf ?_
  intro av M K KX hwf
  rintro ⟨a, w, rfl, hK, hX, hX2⟩
  refine ⟨Nat.le_of_ble_eq_true rfl, fun Z hz hw => ?_⟩
  obtain ⟨⟨w0, wn⟩, ⟨wq, wq2⟩, -⟩ := id w
  apply hz [] 100
  refine Exists.intro _ ⟨cX9_isSquirrel_ct hl0, a, rfl, ?_⟩
  by_cases c : s_rg 0 19 a
  · rw [q_bi_t c]
    refine And.intro (fun g => absurd g q_n1) (fun _ => ?_)
    have hX2 := hX2 c
    obtain ⟨x, -, hx, e⟩ := s_rg_n (by omega) (by omega) c
    subst e
    refine Exists.intro _ ⟨cX9_linkOf_ct hl0, s_n (M.1 22 0 0), nI x, wn, w0, rfl, ?_⟩
    cases hl : s_lk (M.1 22 0 0) (nI x) (s_n (M.1 22 0 0)) with
    | none =>
      refine And.intro (fun _ => ?_) (fun g => absurd (show s_oi none < 0 by decide) g)
      refine Exists.intro _ ⟨cX9_gos_ct hl0, 2, nI 1, nI 0, nI 1, by decide, rfl, fun g => absurd g (by decide), fun _ => ?_⟩
      refine And.intro (fun _ => ?_) (fun g => absurd nI_0 g)
      exact hX2 hl
    | some p =>
      have hp := (s_lk_lt hl).1
      have hK := hK x p (by omega) rfl hl
      refine And.intro (fun g => absurd g (nI_pos (by omega))) (fun _ => ?_)
      refine Exists.intro _ ⟨cX9_gos_ct hl0, 0, nI 1, nI 1, nI 1, by decide, rfl, fun _ => ?_, fun g => absurd rfl g⟩
      refine And.intro (fun g => absurd g q_n1) (fun _ => ?_)
      refine Exists.intro _ ⟨cX9_linkOf_ct hl0, s_n (M.1 22 0 0), nI x, wn, w0, rfl, ?_⟩
      rw [show s_lk ((q_si M (21, 0, 0) 3 (nI 0)).1 22 0 0) (nI x) (s_n (M.1 22 0 0)) = some p from hl]
      exact hK
  · rw [q_bi_f c]
    refine And.intro (fun _ => ?_) (fun g => absurd nI_0 g)
    refine Exists.intro _ ⟨cX9_gos_ct hl0, 1, nI 0, nI 0, nI 1, by decide, rfl, fun g => absurd g (by decide), fun _ => ?_⟩
    refine And.intro (fun _ => ?_) (fun g => absurd nI_0 g)
    exact hX c
abbrev pX9_queueOf : Q_P := fun av M K KX => ∃ (a : Int32), s_wf (M.1 22 0 0) ∧ av = [.inr (.inl (21, 0, 0)), .inl a] ∧ (∀ x p, x < 20 → a = nI x → s_qd (M.1 22 0 0) (nI x) (s_q (M.1 22 0 0)) = some p → K (some (.inl (nI p))) (q_si M (21, 0, 0) 3 (nI 0))) ∧ (¬ s_rg 0 19 a → K (some (.inl (nI 0))) (q_si M (21, 0, 0) 3 (nI 1))) ∧ (s_rg 0 19 a → s_qd (M.1 22 0 0) a (s_q (M.1 22 0 0)) = none → K (some (.inl (nI 0))) (q_si M (21, 0, 0) 3 (nI 2)))
theorem cX9_queueOf_ct {l : Launch} {b : Bool} (hl0 : l.stackTraces = false) : q_Ct l b 236 pX9_queueOf := by
  refine q_meth (by decide +kernel) hl0 TX9_queueOf kX9_queueOf ?_
  intro av M K KX hwf
  rintro ⟨a, w, rfl, hK, hX, hX2⟩
  refine ⟨Nat.le_of_ble_eq_true rfl, fun Z hz hw => ?_⟩
  obtain ⟨⟨w0, wn⟩, ⟨wq, wq2⟩, -⟩ := id w
  apply hz [] 100
  refine Exists.intro _ ⟨cX9_isSquirrel_ct hl0, a, rfl, ?_⟩
  by_cases c : s_rg 0 19 a
  · rw [q_bi_t c]
    refine And.intro (fun g => absurd g q_n1) (fun _ => ?_)
    have hX2 := hX2 c
    obtain ⟨x, -, hx, e⟩ := s_rg_n (by omega) (by omega) c
    subst e
    refine Exists.intro _ ⟨cX9_queued_ct hl0, s_q (M.1 22 0 0), nI x, wq2, wq, rfl, ?_⟩
    cases hl : s_qd (M.1 22 0 0) (nI x) (s_q (M.1 22 0 0)) with
    | none =>
      refine And.intro (fun _ => ?_) (fun g => absurd (show s_oi none < 0 by decide) g)
      refine Exists.intro _ ⟨cX9_gos_ct hl0, 2, nI 1, nI 0, nI 1, by decide, rfl, fun g => absurd g (by decide), fun _ => ?_⟩
      refine And.intro (fun _ => ?_) (fun g => absurd nI_0 g)
      exact hX2 hl
    | some p =>
      have hp := (s_qd_lt hl).1
      have hK := hK x p (by omega) rfl hl
      refine And.intro (fun g => absurd g (nI_pos (by omega))) (fun _ => ?_)
      refine Exists.intro _ ⟨cX9_gos_ct hl0, 0, nI 1, nI 1, nI 1, by decide, rfl, fun _ => ?_, fun g => absurd rfl g⟩
      refine And.intro (fun g => absurd g q_n1) (fun _ => ?_)
      refine Exists.intro _ ⟨cX9_queued_ct hl0, s_q (M.1 22 0 0), nI x, wq2, wq, rfl, ?_⟩
      rw [show s_qd ((q_si M (21, 0, 0) 3 (nI 0)).1 22 0 0) (nI x) (s_q (M.1 22 0 0)) = some p from hl]
      exact hK
  · rw [q_bi_f c]
    refine And.intro (fun _ => ?_) (fun g => absurd nI_0 g)
    refine Exists.intro _ ⟨cX9_gos_ct hl0, 1, nI 0, nI 0, nI 1, by decide, rfl, fun g => absurd g (by decide), fun _ => ?_⟩
    refine And.intro (fun _ => ?_) (fun g => absurd nI_0 g)
    exact hX c
abbrev pX9_waitOf : Q_P := fun av M K KX => ∃ (a : Int32), s_wf (M.1 22 0 0) ∧ av = [.inr (.inl (21, 0, 0)), .inl a] ∧ (∀ x p, x < 20 → a = nI x → s_qd (M.1 22 0 0) (nI x) (s_q (M.1 22 0 0)) = some p → K (some (.inl ((M.1 22 0 0) 206 - (M.1 22 0 0) (148 + 3 * p)))) (q_si M (21, 0, 0) 3 (nI 0))) ∧ (¬ s_rg 0 19 a → K (some (.inl (nI 0))) (q_si M (21, 0, 0) 3 (nI 1))) ∧ (s_rg 0 19 a → s_qd (M.1 22 0 0) a (s_q (M.1 22 0 0)) = none → K (some (.inl (nI 0))) (q_si M (21, 0, 0) 3 (nI 2)))
theorem cX9_waitOf_ct {l : Launch} {b : Bool} (hl0 : l.stackTraces = false) : q_Ct l b 235 pX9_waitOf := by
  refine q_meth (by decide +kernel) hl0 TX9_waitOf kX9_waitOf ?_
  intro av M K KX hwf
  rintro ⟨a, w, rfl, hK, hX, hX2⟩
  refine ⟨Nat.le_of_ble_eq_true rfl, fun Z hz hw => ?_⟩
  obtain ⟨⟨w0, wn⟩, ⟨wq, wq2⟩, -⟩ := id w
  apply hz [] 100
  refine Exists.intro _ ⟨cX9_isSquirrel_ct hl0, a, rfl, ?_⟩
  by_cases c : s_rg 0 19 a
  · rw [q_bi_t c]
    refine And.intro (fun g => absurd g q_n1) (fun _ => ?_)
    have hX2 := hX2 c
    obtain ⟨x, -, hx, e⟩ := s_rg_n (by omega) (by omega) c
    subst e
    refine Exists.intro _ ⟨cX9_queued_ct hl0, s_q (M.1 22 0 0), nI x, wq2, wq, rfl, ?_⟩
    cases hl : s_qd (M.1 22 0 0) (nI x) (s_q (M.1 22 0 0)) with
    | none =>
      refine And.intro (fun _ => ?_) (fun g => absurd (show s_oi none < 0 by decide) g)
      refine Exists.intro _ ⟨cX9_gos_ct hl0, 2, nI 1, nI 0, nI 1, by decide, rfl, fun g => absurd g (by decide), fun _ => ?_⟩
      refine And.intro (fun _ => ?_) (fun g => absurd nI_0 g)
      exact hX2 hl
    | some p =>
      have hp := (s_qd_lt hl).1
      have hK := hK x p (by omega) rfl hl
      refine And.intro (fun g => absurd g (nI_pos (by omega))) (fun _ => ?_)
      refine Exists.intro _ ⟨cX9_gos_ct hl0, 0, nI 1, nI 1, nI 1, by decide, rfl, fun _ => ?_, fun g => absurd rfl g⟩
      refine And.intro (fun g => absurd g q_n1) (fun _ => ?_)
      refine Exists.intro _ ⟨cX9_queued_ct hl0, s_q (M.1 22 0 0), nI x, wq2, wq, rfl, ?_⟩
      rw [show s_qd ((q_si M (21, 0, 0) 3 (nI 0)).1 22 0 0) (nI x) (s_q (M.1 22 0 0)) = some p from hl]
      exact Exists.intro _ ⟨cX9_waitsAt_ct hl0, p, by omega, rfl, hK⟩
  · rw [q_bi_f c]
    refine And.intro (fun _ => ?_) (fun g => absurd nI_0 g)
    refine Exists.intro _ ⟨cX9_gos_ct hl0, 1, nI 0, nI 0, nI 1, by decide, rfl, fun g => absurd g (by decide), fun _ => ?_⟩
    refine And.intro (fun _ => ?_) (fun g => absurd nI_0 g)
    exact hX c
abbrev pX9_leaseOf : Q_P := fun av M K KX => ∃ (x : Int32) (p : Nat), s_wf (M.1 22 0 0) ∧ s_lk (M.1 22 0 0) x (s_n (M.1 22 0 0)) = some p ∧ av = [.inr (.inl (21, 0, 0)), .inl x] ∧ K (some (.inl (s_ll (M.1 22 0 0) p))) M
theorem cX9_leaseOf_ct {l : Launch} {b : Bool} (hl0 : l.stackTraces = false) : q_Ct l b 232 pX9_leaseOf := by
  refine q_meth (by decide +kernel) hl0 TX9_leaseOf kX9_leaseOf ?_
  intro av M K KX hwf
  rintro ⟨x, p, w, hl, rfl, hK⟩
  refine ⟨Nat.le_of_ble_eq_true rfl, fun Z hz hw => ?_⟩
  obtain ⟨w0, wn⟩ := w.1
  have hp := (s_lk_lt hl).1
  unfold s_ll at hK
  apply hz [] 100
  refine Exists.intro 211 ⟨rfl, by decide, ?_⟩
  refine Exists.intro 206 ⟨rfl, by decide, ?_⟩
  refine Exists.intro _ ⟨cX9_linkOf_ct hl0, s_n (M.1 22 0 0), x, wn, w0, rfl, ?_⟩
  rw [hl]
  refine Exists.intro _ ⟨cX9_link_ct hl0, p, rfl, ?_⟩
  refine Exists.intro (5 + 12 * p) ⟨(nI_add _ 4).trans (congrArg nI (by omega)), by omega, ?_⟩
  refine And.intro (fun (g : nI 1 ≤ (M.1 22 0 0) 211 - ((M.1 22 0 0) 206 - (M.1 22 0 0) (5 + 12 * p))) => ?_) (fun (g : ¬ nI 1 ≤ (M.1 22 0 0) 211 - ((M.1 22 0 0) 206 - (M.1 22 0 0) (5 + 12 * p))) => ?_)
  · rw [if_neg (Int32.not_lt.mpr g)] at hK
    exact hK
  · rw [if_pos (Int32.not_le.mp g)] at hK
    exact hK
abbrev pX9_leaseLeft : Q_P := fun av M K KX => ∃ (a : Int32), s_wf (M.1 22 0 0) ∧ av = [.inr (.inl (21, 0, 0)), .inl a] ∧ (∀ x p, x < 20 → a = nI x → s_lk (M.1 22 0 0) (nI x) (s_n (M.1 22 0 0)) = some p → K (some (.inl (s_ll (M.1 22 0 0) p))) (q_si M (21, 0, 0) 3 (nI 0))) ∧ (¬ s_rg 0 19 a → K (some (.inl (nI 0))) (q_si M (21, 0, 0) 3 (nI 1))) ∧ (s_rg 0 19 a → s_lk (M.1 22 0 0) a (s_n (M.1 22 0 0)) = none → K (some (.inl (nI 0))) (q_si M (21, 0, 0) 3 (nI 2)))
theorem cX9_leaseLeft_ct {l : Launch} {b : Bool} (hl0 : l.stackTraces = false) : q_Ct l b 233 pX9_leaseLeft := by
  refine q_meth (by decide +kernel) hl0 TX9_leaseLeft kX9_leaseLeft ?_
  intro av M K KX hwf
  rintro ⟨a, w, rfl, hK, hX, hX2⟩
  refine ⟨Nat.le_of_ble_eq_true rfl, fun Z hz hw => ?_⟩
  obtain ⟨⟨w0, wn⟩, ⟨wq, wq2⟩, -⟩ := id w
  apply hz [] 100
  refine Exists.intro _ ⟨cX9_isSquirrel_ct hl0, a, rfl, ?_⟩
  by_cases c : s_rg 0 19 a
  · rw [q_bi_t c]
    refine And.intro (fun g => absurd g q_n1) (fun _ => ?_)
    have hX2 := hX2 c
    obtain ⟨x, -, hx, e⟩ := s_rg_n (by omega) (by omega) c
    subst e
    refine Exists.intro _ ⟨cX9_linkOf_ct hl0, s_n (M.1 22 0 0), nI x, wn, w0, rfl, ?_⟩
    cases hl : s_lk (M.1 22 0 0) (nI x) (s_n (M.1 22 0 0)) with
    | none =>
      refine And.intro (fun _ => ?_) (fun g => absurd (show s_oi none < 0 by decide) g)
      refine Exists.intro _ ⟨cX9_gos_ct hl0, 2, nI 1, nI 0, nI 1, by decide, rfl, fun g => absurd g (by decide), fun _ => ?_⟩
      refine And.intro (fun _ => ?_) (fun g => absurd nI_0 g)
      exact hX2 hl
    | some p =>
      have hp := (s_lk_lt hl).1
      have hK := hK x p (by omega) rfl hl
      refine And.intro (fun g => absurd g (nI_pos (by omega))) (fun _ => ?_)
      refine Exists.intro _ ⟨cX9_gos_ct hl0, 0, nI 1, nI 1, nI 1, by decide, rfl, fun _ => ?_, fun g => absurd rfl g⟩
      refine And.intro (fun g => absurd g q_n1) (fun _ => ?_)
      exact Exists.intro _ ⟨cX9_leaseOf_ct hl0, nI x, p, w, hl, rfl, hK⟩
  · rw [q_bi_f c]
    refine And.intro (fun _ => ?_) (fun g => absurd nI_0 g)
    refine Exists.intro _ ⟨cX9_gos_ct hl0, 1, nI 0, nI 0, nI 1, by decide, rfl, fun g => absurd g (by decide), fun _ => ?_⟩
    refine And.intro (fun _ => ?_) (fun g => absurd nI_0 g)
    exact hX c
abbrev pX9_has : Q_P := fun av M K KX => ∃ (a : Int32), s_wf (M.1 22 0 0) ∧ av = [.inr (.inl (21, 0, 0)), .inl a] ∧ (s_rg 0 19 a → K (some (.inl (q_bi (¬ s_lk (M.1 22 0 0) a (s_n (M.1 22 0 0)) = none)))) (q_si M (21, 0, 0) 3 (nI 0))) ∧ (¬ s_rg 0 19 a → K (some (.inl (nI 0))) (q_si M (21, 0, 0) 3 (nI 1)))
theorem cX9_has_ct {l : Launch} {b : Bool} (hl0 : l.stackTraces = false) : q_Ct l b 230 pX9_has := by
  refine q_meth (by decide +kernel) hl0 TX9_has kX9_has ?_
  intro av M K KX hwf
  rintro ⟨a, w, rfl, hK, hX⟩
  refine ⟨Nat.le_of_ble_eq_true rfl, fun Z hz hw => ?_⟩
  obtain ⟨⟨w0, wn⟩, ⟨wq, wq2⟩, -⟩ := id w
  apply hz [] 100
  refine Exists.intro _ ⟨cX9_isSquirrel_ct hl0, a, rfl, ?_⟩
  by_cases c : s_rg 0 19 a
  · rw [q_bi_t c]
    have hK := hK c
    refine Exists.intro _ ⟨cX9_gos_ct hl0, 0, nI 1, nI 1, nI 1, by decide, rfl, fun _ => ?_, fun g => absurd rfl g⟩
    refine And.intro (fun g => absurd g q_n1) (fun _ => ?_)
    refine Exists.intro _ ⟨cX9_linkOf_ct hl0, s_n (M.1 22 0 0), a, wn, w0, rfl, ?_⟩
    rw [show s_lk ((q_si M (21, 0, 0) 3 (nI 0)).1 22 0 0) a (s_n (M.1 22 0 0)) = s_lk (M.1 22 0 0) a (s_n (M.1 22 0 0)) from rfl]
    cases hl : s_lk (M.1 22 0 0) a (s_n (M.1 22 0 0)) with
    | none =>
      rw [q_bi_f (fun g => g hl)] at hK
      refine And.intro (fun _ => ?_) (fun g => absurd (show s_oi none < 0 by decide) g)
      exact And.intro (Or.inl rfl) hK
    | some p =>
      have hn : ¬ s_lk (M.1 22 0 0) a (s_n (M.1 22 0 0)) = none := fun g => by rw [hl] at g; cases g
      rw [q_bi_t hn] at hK
      have hp := (s_lk_lt hl).1
      refine And.intro (fun g => absurd g (nI_pos (by omega))) (fun _ => ?_)
      exact And.intro (Or.inr rfl) hK
  · rw [q_bi_f c]
    refine Exists.intro _ ⟨cX9_gos_ct hl0, 1, nI 0, nI 1, nI 1, by decide, rfl, fun g => absurd g (by decide), fun _ => ?_⟩
    refine And.intro (fun _ => ?_) (fun g => absurd nI_0 g)
    exact And.intro (Or.inl rfl) (hX c)
abbrev pX9_isWaiting : Q_P := fun av M K KX => ∃ (a : Int32), s_wf (M.1 22 0 0) ∧ av = [.inr (.inl (21, 0, 0)), .inl a] ∧ (s_rg 0 19 a → K (some (.inl (q_bi (¬ s_qd (M.1 22 0 0) a (s_q (M.1 22 0 0)) = none)))) (q_si M (21, 0, 0) 3 (nI 0))) ∧ (¬ s_rg 0 19 a → K (some (.inl (nI 0))) (q_si M (21, 0, 0) 3 (nI 1)))
theorem cX9_isWaiting_ct {l : Launch} {b : Bool} (hl0 : l.stackTraces = false) : q_Ct l b 234 pX9_isWaiting := by
  refine q_meth (by decide +kernel) hl0 TX9_isWaiting kX9_isWaiting ?_
  intro av M K KX hwf
  rintro ⟨a, w, rfl, hK, hX⟩
  refine ⟨Nat.le_of_ble_eq_true rfl, fun Z hz hw => ?_⟩
  obtain ⟨⟨w0, wn⟩, ⟨wq, wq2⟩, -⟩ := id w
  apply hz [] 100
  refine Exists.intro _ ⟨cX9_isSquirrel_ct hl0, a, rfl, ?_⟩
  by_cases c : s_rg 0 19 a
  · rw [q_bi_t c]
    have hK := hK c
    refine Exists.intro _ ⟨cX9_gos_ct hl0, 0, nI 1, nI 1, nI 1, by decide, rfl, fun _ => ?_, fun g => absurd rfl g⟩
    refine And.intro (fun g => absurd g q_n1) (fun _ => ?_)
    refine Exists.intro _ ⟨cX9_queued_ct hl0, s_q (M.1 22 0 0), a, wq2, wq, rfl, ?_⟩
    rw [show s_qd ((q_si M (21, 0, 0) 3 (nI 0)).1 22 0 0) a (s_q (M.1 22 0 0)) = s_qd (M.1 22 0 0) a (s_q (M.1 22 0 0)) from rfl]
    cases hl : s_qd (M.1 22 0 0) a (s_q (M.1 22 0 0)) with
    | none =>
      rw [q_bi_f (fun g => g hl)] at hK
      refine And.intro (fun _ => ?_) (fun g => absurd (show s_oi none < 0 by decide) g)
      exact And.intro (Or.inl rfl) hK
    | some p =>
      have hn : ¬ s_qd (M.1 22 0 0) a (s_q (M.1 22 0 0)) = none := fun g => by rw [hl] at g; cases g
      rw [q_bi_t hn] at hK
      have hp := (s_qd_lt hl).1
      refine And.intro (fun g => absurd g (nI_pos (by omega))) (fun _ => ?_)
      exact And.intro (Or.inr rfl) hK
  · rw [q_bi_f c]
    refine Exists.intro _ ⟨cX9_gos_ct hl0, 1, nI 0, nI 1, nI 1, by decide, rfl, fun g => absurd g (by decide), fun _ => ?_⟩
    refine And.intro (fun _ => ?_) (fun g => absurd nI_0 g)
    exact And.intro (Or.inl rfl) (hX c)
abbrev pX9_ask : Q_P := fun av M K KX => ∃ (a u : Int32) (h : Nat), s_wf (M.1 22 0 0) ∧ h ≤ 6 ∧ M.1 21 0 0 1 = nI h ∧ av = [.inr (.inl (21, 0, 0)), .inl a, .inl u] ∧ (∀ x, x < 20 → a = nI x → s_rg 0 2 u → s_lk (M.1 22 0 0) (nI x) (s_n (M.1 22 0 0)) = none → s_qd (M.1 22 0 0) (nI x) (s_q (M.1 22 0 0)) = none → K (some (.inl (q_bi ((s_as (s_sav (M.1 22 0 0) h) (nI x) u).1 = true)))) (d_rf M h (s_as (s_sav (M.1 22 0 0) h) (nI x) u).2)) ∧ (¬ s_rg 0 19 a → K (some (.inl (nI 0))) (q_si M (21, 0, 0) 3 (nI 1))) ∧ (s_rg 0 19 a → ¬ s_rg 0 2 u → K (some (.inl (nI 0))) (q_si M (21, 0, 0) 3 (nI 2))) ∧ (s_rg 0 19 a → s_rg 0 2 u → ¬ (s_lk (M.1 22 0 0) a (s_n (M.1 22 0 0)) = none ∧ s_qd (M.1 22 0 0) a (s_q (M.1 22 0 0)) = none) → K (some (.inl (nI 0))) (q_si M (21, 0, 0) 3 (nI 3)))
theorem cX9_ask_ct {l : Launch} {b : Bool} (hl0 : l.stackTraces = false) : q_Ct l b 180 pX9_ask := by
  refine q_meth (by decide +kernel) hl0 TX9_ask kX9_ask ?_
  intro av M K KX hwf
  rintro ⟨a, u, h, w, hh, h1, rfl, hK, hX, hX2, hX3⟩
  refine ⟨Nat.le_of_ble_eq_true rfl, fun Z hz hw => ?_⟩
  obtain ⟨⟨w0, wn⟩, ⟨wq, wq2⟩, -⟩ := id w
  apply hz [] 100
  refine Exists.intro _ ⟨cX9_isSquirrel_ct hl0, a, rfl, ?_⟩
  refine Exists.intro _ ⟨cX9_in_ct hl0, u, nI 0, nI 2, rfl, ?_⟩
  by_cases c : s_rg 0 19 a
  · rw [q_bi_t c]
    refine And.intro (fun g => absurd g q_n1) (fun _ => ?_)
    have hY2 := hX2 c
    have hY3 := hX3 c
    obtain ⟨x, -, hx, e⟩ := s_rg_n (by omega) (by omega) c
    subst e
    refine Exists.intro _ ⟨cX9_canAsk_ct hl0, nI x, w, rfl, ?_⟩
    by_cases c2 : s_rg 0 2 u
    · rw [q_bi_t c2]
      by_cases c3 : s_lk (M.1 22 0 0) (nI x) (s_n (M.1 22 0 0)) = none ∧ s_qd (M.1 22 0 0) (nI x) (s_q (M.1 22 0 0)) = none
      · rw [q_bi_t c3]
        have hK := hK x (by omega) rfl c2 c3.1 c3.2
        refine And.intro (fun g => absurd g q_n1) (fun _ => ?_)
        refine Exists.intro _ ⟨cX9_gos_ct hl0, 0, nI 1, nI 1, nI 1, by decide, rfl, fun _ => ?_, fun g => absurd rfl g⟩
        refine And.intro (fun g => absurd g q_n1) (fun _ => ?_)
        refine Exists.intro _ ⟨cX9_saves2_ct hl0, M, h, rfl, hh, h1, rfl, ?_⟩
        refine Exists.intro _ ⟨cX9_asks_ct hl0, nI x, u, s_wf_sav w, ?_, rfl, ?_⟩
        · show s_q (s_sav (M.1 22 0 0) h) < 20
          rw [s_q_lo (fun i hi => s_sav_lo hi)]
          exact s_q20 w (by omega) c3.2
        · rw [d_rf_sa, d_rf_22]
          exact And.intro (q_bi_bit _) hK
      · rw [q_bi_f c3]
        refine And.intro (fun _ => ?_) (fun g => absurd nI_0 g)
        refine Exists.intro _ ⟨cX9_gos_ct hl0, 3, nI 1, nI 1, nI 0, by decide, rfl, fun g => absurd g (by decide), fun _ => ?_⟩
        refine And.intro (fun _ => ?_) (fun g => absurd nI_0 g)
        exact And.intro (Or.inl rfl) (hY3 c2 c3)
    · rw [q_bi_f c2]
      by_cases c3 : s_lk (M.1 22 0 0) (nI x) (s_n (M.1 22 0 0)) = none ∧ s_qd (M.1 22 0 0) (nI x) (s_q (M.1 22 0 0)) = none
      · rw [q_bi_t c3]
        refine And.intro (fun g => absurd g q_n1) (fun _ => ?_)
        refine Exists.intro _ ⟨cX9_gos_ct hl0, 2, nI 1, nI 0, nI 1, by decide, rfl, fun g => absurd g (by decide), fun _ => ?_⟩
        refine And.intro (fun _ => ?_) (fun g => absurd nI_0 g)
        exact And.intro (Or.inl rfl) (hY2 c2)
      · rw [q_bi_f c3]
        refine And.intro (fun _ => ?_) (fun g => absurd nI_0 g)
        refine Exists.intro _ ⟨cX9_gos_ct hl0, 2, nI 1, nI 0, nI 0, by decide, rfl, fun g => absurd g (by decide), fun _ => ?_⟩
        refine And.intro (fun _ => ?_) (fun g => absurd nI_0 g)
        exact And.intro (Or.inl rfl) (hY2 c2)
  · rw [q_bi_f c]
    refine And.intro (fun _ => ?_) (fun g => absurd nI_0 g)
    by_cases c2 : s_rg 0 2 u
    · rw [q_bi_t c2]
      refine Exists.intro _ ⟨cX9_gos_ct hl0, 1, nI 0, nI 1, nI 0, by decide, rfl, fun g => absurd g (by decide), fun _ => ?_⟩
      refine And.intro (fun _ => ?_) (fun g => absurd nI_0 g)
      exact And.intro (Or.inl rfl) (hX c)
    · rw [q_bi_f c2]
      refine Exists.intro _ ⟨cX9_gos_ct hl0, 1, nI 0, nI 0, nI 0, by decide, rfl, fun g => absurd g (by decide), fun _ => ?_⟩
      refine And.intro (fun _ => ?_) (fun g => absurd nI_0 g)
      exact And.intro (Or.inl rfl) (hX c)
abbrev pX9_use : Q_P := fun av M K KX => ∃ (a y : Int32) (h : Nat), s_wf (M.1 22 0 0) ∧ h ≤ 6 ∧ M.1 21 0 0 1 = nI h ∧ av = [.inr (.inl (21, 0, 0)), .inl a, .inl y] ∧ (∀ x p, x < 20 → a = nI x → s_rg 0 29 y → s_lk (M.1 22 0 0) (nI x) (s_n (M.1 22 0 0)) = some p → K (some (.inl (q_bi ((s_us (s_sav (M.1 22 0 0) h) p y).1 = true)))) (d_rf M h (s_us (s_sav (M.1 22 0 0) h) p y).2)) ∧ (¬ s_rg 0 19 a → K (some (.inl (nI 0))) (q_si M (21, 0, 0) 3 (nI 1))) ∧ (s_rg 0 19 a → ¬ s_rg 0 29 y → K (some (.inl (nI 0))) (q_si M (21, 0, 0) 3 (nI 2))) ∧ (s_rg 0 19 a → s_rg 0 29 y → s_lk (M.1 22 0 0) a (s_n (M.1 22 0 0)) = none → K (some (.inl (nI 0))) (q_si M (21, 0, 0) 3 (nI 3)))
theorem cX9_use_ct {l : Launch} {b : Bool} (hl0 : l.stackTraces = false) : q_Ct l b 183 pX9_use := by
  refine q_meth (by decide +kernel) hl0 TX9_use kX9_use ?_
  intro av M K KX hwf
  rintro ⟨a, y, h, w, hh, h1, rfl, hK, hX, hX2, hX3⟩
  refine ⟨Nat.le_of_ble_eq_true rfl, fun Z hz hw => ?_⟩
  obtain ⟨⟨w0, wn⟩, ⟨wq, wq2⟩, -⟩ := id w
  apply hz [] 100
  refine Exists.intro _ ⟨cX9_isSquirrel_ct hl0, a, rfl, ?_⟩
  refine Exists.intro _ ⟨cX9_in_ct hl0, y, nI 0, nI 29, rfl, ?_⟩
  by_cases c : s_rg 0 19 a
  · rw [q_bi_t c]
    refine And.intro (fun g => absurd g q_n1) (fun _ => ?_)
    have hY2 := hX2 c
    have hY3 := hX3 c
    obtain ⟨x, -, hx, e⟩ := s_rg_n (by omega) (by omega) c
    subst e
    refine Exists.intro _ ⟨cX9_linkOf_ct hl0, s_n (M.1 22 0 0), nI x, wn, w0, rfl, ?_⟩
    by_cases c2 : s_rg 0 29 y
    · rw [q_bi_t c2]
      cases hl : s_lk (M.1 22 0 0) (nI x) (s_n (M.1 22 0 0)) with
      | some p =>
        have hp := (s_lk_lt hl).1
        have hK := hK x p (by omega) rfl c2 hl
        refine And.intro (fun g => absurd g (nI_pos (by omega))) (fun _ => ?_)
        refine Exists.intro _ ⟨cX9_gos_ct hl0, 0, nI 1, nI 1, nI 1, by decide, rfl, fun _ => ?_, fun g => absurd rfl g⟩
        refine And.intro (fun g => absurd g q_n1) (fun _ => ?_)
        refine Exists.intro _ ⟨cX9_saves2_ct hl0, M, h, rfl, hh, h1, rfl, ?_⟩
        refine Exists.intro _ ⟨cX9_uses_ct hl0, nI x, y, p, s_wf_sav w, ?_, rfl, ?_⟩
        · show s_lk (s_sav (M.1 22 0 0) h) (nI x) (s_n (s_sav (M.1 22 0 0) h)) = some p
          rw [s_n_lo (fun i hi => s_sav_lo hi), s_lk_lo (fun i hi => s_sav_lo hi) wn]
          exact hl
        · rw [d_rf_sa, d_rf_22]
          exact And.intro (q_bi_bit _) hK
      | none =>
        refine And.intro (fun _ => ?_) (fun g => absurd (show s_oi none < 0 by decide) g)
        refine Exists.intro _ ⟨cX9_gos_ct hl0, 3, nI 1, nI 1, nI 0, by decide, rfl, fun g => absurd g (by decide), fun _ => ?_⟩
        refine And.intro (fun _ => ?_) (fun g => absurd nI_0 g)
        exact And.intro (Or.inl rfl) (hY3 c2 hl)
    · rw [q_bi_f c2]
      cases hl : s_lk (M.1 22 0 0) (nI x) (s_n (M.1 22 0 0)) with
      | some p =>
        have hp := (s_lk_lt hl).1
        refine And.intro (fun g => absurd g (nI_pos (by omega))) (fun _ => ?_)
        refine Exists.intro _ ⟨cX9_gos_ct hl0, 2, nI 1, nI 0, nI 1, by decide, rfl, fun g => absurd g (by decide), fun _ => ?_⟩
        refine And.intro (fun _ => ?_) (fun g => absurd nI_0 g)
        exact And.intro (Or.inl rfl) (hY2 c2)
      | none =>
        refine And.intro (fun _ => ?_) (fun g => absurd (show s_oi none < 0 by decide) g)
        refine Exists.intro _ ⟨cX9_gos_ct hl0, 2, nI 1, nI 0, nI 0, by decide, rfl, fun g => absurd g (by decide), fun _ => ?_⟩
        refine And.intro (fun _ => ?_) (fun g => absurd nI_0 g)
        exact And.intro (Or.inl rfl) (hY2 c2)
  · rw [q_bi_f c]
    refine And.intro (fun _ => ?_) (fun g => absurd nI_0 g)
    by_cases c2 : s_rg 0 29 y
    · rw [q_bi_t c2]
      refine Exists.intro _ ⟨cX9_gos_ct hl0, 1, nI 0, nI 1, nI 0, by decide, rfl, fun g => absurd g (by decide), fun _ => ?_⟩
      refine And.intro (fun _ => ?_) (fun g => absurd nI_0 g)
      exact And.intro (Or.inl rfl) (hX c)
    · rw [q_bi_f c2]
      refine Exists.intro _ ⟨cX9_gos_ct hl0, 1, nI 0, nI 0, nI 0, by decide, rfl, fun g => absurd g (by decide), fun _ => ?_⟩
      refine And.intro (fun _ => ?_) (fun g => absurd nI_0 g)
      exact And.intro (Or.inl rfl) (hX c)
abbrev pX9_breakOff : Q_P := fun av M K KX => ∃ (a : Int32) (h : Nat), s_wf (M.1 22 0 0) ∧ h ≤ 6 ∧ M.1 21 0 0 1 = nI h ∧ av = [.inr (.inl (21, 0, 0)), .inl a] ∧ (∀ p, p < s_n (M.1 22 0 0) → a = nI p → K (some (.inl (q_bi (s_sav (M.1 22 0 0) h (4 + 12 * p) = nI 0)))) (d_rf M h (upd (s_sav (M.1 22 0 0) h) (4 + 12 * p) (nI 1)))) ∧ (¬ s_lp1 (M.1 22 0 0) a → K (some (.inl (nI 0))) (q_si M (21, 0, 0) 3 (nI 1)))
theorem cX9_breakOff_ct {l : Launch} {b : Bool} (hl0 : l.stackTraces = false) : q_Ct l b 184 pX9_breakOff := by
  refine q_meth (by decide +kernel) hl0 TX9_breakOff kX9_breakOff ?_
  intro av M K KX hwf
  rintro ⟨a, h, w, hh, h1, rfl, hK, hX⟩
  refine ⟨Nat.le_of_ble_eq_true rfl, fun Z hz hw => ?_⟩
  obtain ⟨w0, wn⟩ := w.1
  apply hz [] 100
  refine Exists.intro _ ⟨cX9_isLink_ct hl0, a, rfl, ?_⟩
  by_cases c : s_lp1 (M.1 22 0 0) a
  · rw [q_bi_t c]
    obtain ⟨p, hp, e⟩ := s_lp1_e w c
    subst e
    have hK := hK p hp rfl
    refine Exists.intro _ ⟨cX9_gos_ct hl0, 0, nI 1, nI 1, nI 1, by decide, rfl, fun _ => ?_, fun g => absurd rfl g⟩
    refine And.intro (fun g => absurd g q_n1) (fun _ => ?_)
    refine Exists.intro _ ⟨cX9_saves2_ct hl0, M, h, rfl, hh, h1, rfl, ?_⟩
    have last : ∀ v : Int32, v = q_bi (s_sav (M.1 22 0 0) h (4 + 12 * p) = nI 0) → Z 0 39 [(0, .inr (.inl (21, 0, 0))), (1, .inl (nI p))] [.inl v] (d_rf M h (s_sav (M.1 22 0 0) h)) := by
      intro v hv
      apply hz [] 60
      refine Exists.intro _ ⟨cX9_link_ct hl0, p, rfl, ?_⟩
      refine Exists.intro (4 + 12 * p) ⟨(nI_add _ 3).trans (congrArg nI (by omega)), by omega, ?_⟩
      refine And.intro (by rw [hv]; exact q_bi_bit _) ?_
      rw [hv, q_si22, d_rf_sa, d_rf_22]
      exact hK
    refine Exists.intro _ ⟨cX9_link_ct hl0, p, rfl, ?_⟩
    refine Exists.intro (4 + 12 * p) ⟨(nI_add _ 3).trans (congrArg nI (by omega)), by omega, ?_⟩
    have wb : q_bit (s_sav (M.1 22 0 0) h (4 + 12 * p)) := by
      rw [s_sav_lo (by omega)]
      exact (w.2.2.2.2.2.1 p hp).2.1
    have go : ∀ v : Int32, v = q_bi (s_sav (M.1 22 0 0) h (4 + 12 * p) = nI 0) → q_bit v ∧ K (some (.inl v)) (q_si (d_rf M h (s_sav (M.1 22 0 0) h)) (22, 0, 0) (4 + 12 * p) (nI 1)) := by
      intro v hv
      refine ⟨by rw [hv]; exact q_bi_bit _, ?_⟩
      rw [hv, q_si22, d_rf_sa, d_rf_22]
      exact hK
    refine And.intro (fun (g : s_sav (M.1 22 0 0) h (4 + 12 * p) = 0) => ?_) (fun (g : ¬ s_sav (M.1 22 0 0) h (4 + 12 * p) = 0) => ?_)
    · refine Exists.intro _ ⟨cX9_link_ct hl0, p, rfl, ?_⟩
      refine Exists.intro (4 + 12 * p) ⟨(nI_add _ 3).trans (congrArg nI (by omega)), by omega, ?_⟩
      exact go (nI 1) (q_bi_t (g.trans nI_0.symm)).symm
    · refine Exists.intro _ ⟨cX9_link_ct hl0, p, rfl, ?_⟩
      refine Exists.intro (4 + 12 * p) ⟨(nI_add _ 3).trans (congrArg nI (by omega)), by omega, ?_⟩
      exact go (nI 0) (q_bi_f (fun g2 => g (g2.trans nI_0))).symm
  · rw [q_bi_f c]
    refine Exists.intro _ ⟨cX9_gos_ct hl0, 1, nI 0, nI 1, nI 1, by decide, rfl, fun g => absurd g (by decide), fun _ => ?_⟩
    refine And.intro (fun _ => ?_) (fun g => absurd nI_0 g)
    exact And.intro (Or.inl rfl) (hX c)
abbrev pX9_tick : Q_P := fun av M K KX => ∃ (a : Int32) (h : Nat), s_wf (M.1 22 0 0) ∧ h ≤ 6 ∧ M.1 21 0 0 1 = nI h ∧ av = [.inr (.inl (21, 0, 0)), .inl a] ∧ (∀ t, t ≤ 100 → a = nI t → s_rg 1 100 a → K (some (.inl (nI (s_ps t (s_sav (M.1 22 0 0) h)).1))) (d_rf M h (s_ps t (s_sav (M.1 22 0 0) h)).2)) ∧ (¬ s_rg 1 100 a → K (some (.inl (nI 0))) (q_si M (21, 0, 0) 3 (nI 1)))
theorem cX9_tick_ct {l : Launch} {b : Bool} (hl0 : l.stackTraces = false) : q_Ct l b 185 pX9_tick := by
  refine q_meth (by decide +kernel) hl0 TX9_tick kX9_tick ?_
  intro av M K KX hwf
  rintro ⟨a, h, w, hh, h1, rfl, hK, hX⟩
  refine ⟨Nat.le_of_ble_eq_true rfl, fun Z hz hw => ?_⟩
  apply hz [] 100
  refine Exists.intro _ ⟨cX9_in_ct hl0, a, nI 1, nI 100, rfl, ?_⟩
  by_cases c : s_rg 1 100 a
  · have cc : nI 1 ≤ a ∧ a ≤ nI 100 := c
    rw [q_bi_t cc]
    refine Exists.intro _ ⟨cX9_gos_ct hl0, 0, nI 1, nI 1, nI 1, by decide, rfl, fun _ => ?_, fun g => absurd rfl g⟩
    refine And.intro (fun g => absurd g q_n1) (fun _ => ?_)
    obtain ⟨t, -, ht, e⟩ := s_rg_n (lo := 1) (hi := 100) (by omega) (by omega) c
    subst e
    refine Exists.intro _ ⟨cX9_saves2_ct hl0, M, h, rfl, hh, h1, rfl, ?_⟩
    refine Exists.intro _ ⟨cX9_passes_ct hl0, t, by omega, s_wf_sav w, rfl, ?_⟩
    rw [d_rf_sa, d_rf_22]
    exact hK t ht rfl c
  · have cc : ¬ (nI 1 ≤ a ∧ a ≤ nI 100) := c
    rw [q_bi_f cc]
    refine Exists.intro _ ⟨cX9_gos_ct hl0, 1, nI 0, nI 1, nI 1, by decide, rfl, fun g => absurd g (by decide), fun _ => ?_⟩
    refine And.intro (fun _ => ?_) (fun g => absurd nI_0 g)
    exact hX c
abbrev pX9_sets : Q_P := fun av M K KX => ∃ (k lo hi : Nat) (a : Int32) (h : Nat), k < 2270 ∧ lo < 2 ^ 31 ∧ hi < 2 ^ 31 ∧ s_wf (M.1 22 0 0) ∧ h ≤ 6 ∧ M.1 21 0 0 1 = nI h ∧ av = [.inr (.inl (21, 0, 0)), .inl (nI k), .inl a, .inl (nI lo), .inl (nI hi)] ∧ (s_rg lo hi a → K (some (.inl (s_sav (M.1 22 0 0) h k))) (d_rf M h (upd (s_sav (M.1 22 0 0) h) k a))) ∧ (¬ s_rg lo hi a → K (some (.inl (nI 0))) (q_si M (21, 0, 0) 3 (nI 1)))
theorem cX9_sets_ct {l : Launch} {b : Bool} (hl0 : l.stackTraces = false) : q_Ct l b 186 pX9_sets := by
  refine q_meth (by decide +kernel) hl0 TX9_sets kX9_sets ?_
  intro av M K KX hwf
  rintro ⟨k, lo, hi, a, h, hk, hlo, hhi, w, hh, h1, rfl, hK, hX⟩
  refine ⟨Nat.le_of_ble_eq_true rfl, fun Z hz hw => ?_⟩
  apply hz [] 100
  refine Exists.intro _ ⟨cX9_in_ct hl0, a, nI lo, nI hi, rfl, ?_⟩
  by_cases c : s_rg lo hi a
  · have cc : nI lo ≤ a ∧ a ≤ nI hi := c
    rw [q_bi_t cc]
    refine Exists.intro _ ⟨cX9_gos_ct hl0, 0, nI 1, nI 1, nI 1, by decide, rfl, fun _ => ?_, fun g => absurd rfl g⟩
    refine And.intro (fun g => absurd g q_n1) (fun _ => ?_)
    refine Exists.intro _ ⟨cX9_saves2_ct hl0, M, h, rfl, hh, h1, rfl, ?_⟩
    refine Exists.intro k ⟨rfl, by omega, ?_⟩
    refine Exists.intro k ⟨rfl, by omega, ?_⟩
    rw [q_si22, d_rf_sa, d_rf_22]
    exact hK c
  · have cc : ¬ (nI lo ≤ a ∧ a ≤ nI hi) := c
    rw [q_bi_f cc]
    refine Exists.intro _ ⟨cX9_gos_ct hl0, 1, nI 0, nI 1, nI 1, by decide, rfl, fun g => absurd g (by decide), fun _ => ?_⟩
    refine And.intro (fun _ => ?_) (fun g => absurd nI_0 g)
    exact hX c
abbrev pX9_changeIdle : Q_P := fun av M K KX => ∃ (a : Int32) (h : Nat), s_wf (M.1 22 0 0) ∧ h ≤ 6 ∧ M.1 21 0 0 1 = nI h ∧ av = [.inr (.inl (21, 0, 0)), .inl a] ∧ (s_rg 0 6 a → K (some (.inl (s_sav (M.1 22 0 0) h 208))) (d_rf M h (upd (s_sav (M.1 22 0 0) h) 208 a))) ∧ (¬ s_rg 0 6 a → K (some (.inl (nI 0))) (q_si M (21, 0, 0) 3 (nI 1)))
theorem cX9_changeIdle_ct {l : Launch} {b : Bool} (hl0 : l.stackTraces = false) : q_Ct l b 188 pX9_changeIdle := by
  refine q_meth (by decide +kernel) hl0 TX9_changeIdle kX9_changeIdle ?_
  intro av M K KX hwf
  rintro ⟨a, h, w, hh, h1, rfl, hK, hX⟩
  refine ⟨Nat.le_of_ble_eq_true rfl, fun Z hz hw => ?_⟩
  apply hz [] 60
  exact Exists.intro _ ⟨cX9_sets_ct hl0, 208, 0, 6, a, h, by omega, by omega, by omega, w, hh, h1, rfl, hK, hX⟩
abbrev pX9_changeAge : Q_P := fun av M K KX => ∃ (a : Int32) (h : Nat), s_wf (M.1 22 0 0) ∧ h ≤ 6 ∧ M.1 21 0 0 1 = nI h ∧ av = [.inr (.inl (21, 0, 0)), .inl a] ∧ (s_rg 5 999 a → K (some (.inl (s_sav (M.1 22 0 0) h 209))) (d_rf M h (upd (s_sav (M.1 22 0 0) h) 209 a))) ∧ (¬ s_rg 5 999 a → K (some (.inl (nI 0))) (q_si M (21, 0, 0) 3 (nI 1)))
theorem cX9_changeAge_ct {l : Launch} {b : Bool} (hl0 : l.stackTraces = false) : q_Ct l b 189 pX9_changeAge := by
  refine q_meth (by decide +kernel) hl0 TX9_changeAge kX9_changeAge ?_
  intro av M K KX hwf
  rintro ⟨a, h, w, hh, h1, rfl, hK, hX⟩
  refine ⟨Nat.le_of_ble_eq_true rfl, fun Z hz hw => ?_⟩
  apply hz [] 60
  exact Exists.intro _ ⟨cX9_sets_ct hl0, 209, 5, 999, a, h, by omega, by omega, by omega, w, hh, h1, rfl, hK, hX⟩
abbrev pX9_changeRest : Q_P := fun av M K KX => ∃ (a : Int32) (h : Nat), s_wf (M.1 22 0 0) ∧ h ≤ 6 ∧ M.1 21 0 0 1 = nI h ∧ av = [.inr (.inl (21, 0, 0)), .inl a] ∧ (s_rg 1 999 a → K (some (.inl (s_sav (M.1 22 0 0) h 210))) (d_rf M h (upd (s_sav (M.1 22 0 0) h) 210 a))) ∧ (¬ s_rg 1 999 a → K (some (.inl (nI 0))) (q_si M (21, 0, 0) 3 (nI 1)))
theorem cX9_changeRest_ct {l : Launch} {b : Bool} (hl0 : l.stackTraces = false) : q_Ct l b 190 pX9_changeRest := by
  refine q_meth (by decide +kernel) hl0 TX9_changeRest kX9_changeRest ?_
  intro av M K KX hwf
  rintro ⟨a, h, w, hh, h1, rfl, hK, hX⟩
  refine ⟨Nat.le_of_ble_eq_true rfl, fun Z hz hw => ?_⟩
  apply hz [] 60
  exact Exists.intro _ ⟨cX9_sets_ct hl0, 210, 1, 999, a, h, by omega, by omega, by omega, w, hh, h1, rfl, hK, hX⟩
abbrev pX9_changeLease : Q_P := fun av M K KX => ∃ (a : Int32) (h : Nat), s_wf (M.1 22 0 0) ∧ h ≤ 6 ∧ M.1 21 0 0 1 = nI h ∧ av = [.inr (.inl (21, 0, 0)), .inl a] ∧ (s_rg 1 999 a → K (some (.inl (s_sav (M.1 22 0 0) h 211))) (d_rf M h (upd (s_sav (M.1 22 0 0) h) 211 a))) ∧ (¬ s_rg 1 999 a → K (some (.inl (nI 0))) (q_si M (21, 0, 0) 3 (nI 1)))
theorem cX9_changeLease_ct {l : Launch} {b : Bool} (hl0 : l.stackTraces = false) : q_Ct l b 191 pX9_changeLease := by
  refine q_meth (by decide +kernel) hl0 TX9_changeLease kX9_changeLease ?_
  intro av M K KX hwf
  rintro ⟨a, h, w, hh, h1, rfl, hK, hX⟩
  refine ⟨Nat.le_of_ble_eq_true rfl, fun Z hz hw => ?_⟩
  apply hz [] 60
  exact Exists.intro _ ⟨cX9_sets_ct hl0, 211, 1, 999, a, h, by omega, by omega, by omega, w, hh, h1, rfl, hK, hX⟩
abbrev pX9_changePatience : Q_P := fun av M K KX => ∃ (a : Int32) (h : Nat), s_wf (M.1 22 0 0) ∧ h ≤ 6 ∧ M.1 21 0 0 1 = nI h ∧ av = [.inr (.inl (21, 0, 0)), .inl a] ∧ (s_rg 1 99 a → K (some (.inl (s_sav (M.1 22 0 0) h 212))) (d_rf M h (upd (s_sav (M.1 22 0 0) h) 212 a))) ∧ (¬ s_rg 1 99 a → K (some (.inl (nI 0))) (q_si M (21, 0, 0) 3 (nI 1)))
theorem cX9_changePatience_ct {l : Launch} {b : Bool} (hl0 : l.stackTraces = false) : q_Ct l b 192 pX9_changePatience := by
  refine q_meth (by decide +kernel) hl0 TX9_changePatience kX9_changePatience ?_
  intro av M K KX hwf
  rintro ⟨a, h, w, hh, h1, rfl, hK, hX⟩
  refine ⟨Nat.le_of_ble_eq_true rfl, fun Z hz hw => ?_⟩
  apply hz [] 60
  exact Exists.intro _ ⟨cX9_sets_ct hl0, 212, 1, 99, a, h, by omega, by omega, by omega, w, hh, h1, rfl, hK, hX⟩
theorem s_cf_0 {S : Nat → Int32} : ∀ {k : Nat}, s_cf S k = 0 → s_fo S false k = none
  | 0, _ => rfl
  | k + 1, h => by
    unfold s_cf at h
    unfold s_fo
    by_cases c : S (3 + 12 * k) < 0
    · rw [if_pos c] at h
      omega
    · rw [if_neg c] at h
      rw [if_neg (fun g => c g.1)]
      exact s_cf_0 (by omega)
theorem s_m_cl {S : Nat → Int32} {p c : Nat} (hn : s_n S ≤ 12) (hc : c < 5) : s_m (s_cl S p c) = s_m S := congrArg Int32.toNatClampNeg (s_cl_hi (i := 207) hn (by omega) (by omega) hc)
abbrev pX9_changeMost : Q_P := fun av M K KX => ∃ (a : Int32) (h : Nat), s_wf (M.1 22 0 0) ∧ h ≤ 6 ∧ M.1 21 0 0 1 = nI h ∧ av = [.inr (.inl (21, 0, 0)), .inl a] ∧ (s_rg 1 12 a → K (some (.inl (s_sav (M.1 22 0 0) h 207))) (d_rf M h (s_tm (s_n (M.1 22 0 0)) (upd (s_sav (M.1 22 0 0) h) 207 a)))) ∧ (¬ s_rg 1 12 a → K (some (.inl (nI 0))) (q_si M (21, 0, 0) 3 (nI 1)))
theorem cX9_changeMost_ct {l : Launch} {b : Bool} (hl0 : l.stackTraces = false) : q_Ct l b 187 pX9_changeMost := by
  refine q_meth (by decide +kernel) hl0 TX9_changeMost kX9_changeMost ?_
  intro av M K KX hwf
  rintro ⟨a, h, w, hh, h1, rfl, hK, hX⟩
  refine ⟨Nat.le_of_ble_eq_true rfl, fun Z hz hw => ?_⟩
  have loop : ∀ (f m : Nat) (v : Int32) (S1 : Nat → Int32), a = nI m → s_m S1 = m → s_wf S1 → s_n S1 = f → K (some (.inl v)) (d_rf M h (s_tm f S1)) → Z 0 12 [(2, .inl v), (0, .inr (.inl (21, 0, 0))), (1, .inl a)] [] (d_rf M h S1) := by
    intro f
    induction f with
    | zero =>
      intro m v S1 ea em w hf hK
      have wn := w.1
      have wm := w.2.2.1
      have t0 : (d_rf M h S1).1 21 0 0 3 = 0 := by
        show upd (upd (M.1 21 0 0) 3 (nI 0)) 1 (nI (s_h1 h)) 3 = 0
        rw [q_upd_ne (by decide), q_upd_eq, nI_0]
      apply hz [12] 60
      refine And.intro (fun _ => ?_) (fun g => absurd t0 g)
      refine Exists.intro 0 ⟨rfl, by decide, ?_⟩
      refine And.intro (fun _ => hK) (fun g => absurd (show S1 0 ≤ a by rw [wn.1, hf, ea]; exact nI_le (by omega) (by omega)) g)
    | succ f ih =>
      intro m v S1 ea em w hf hK
      have wn := w.1
      have wm := w.2.2.1
      have hcf := s_cf_le (S := S1) (s_n S1)
      unfold s_tm at hK
      have t0 : (d_rf M h S1).1 21 0 0 3 = 0 := by
        show upd (upd (M.1 21 0 0) 3 (nI 0)) 1 (nI (s_h1 h)) 3 = 0
        rw [q_upd_ne (by decide), q_upd_eq, nI_0]
      apply hz [12] 60
      refine And.intro (fun _ => ?_) (fun g => absurd t0 g)
      refine Exists.intro 0 ⟨rfl, by decide, ?_⟩
      refine And.intro (fun (g : S1 0 ≤ a) => ?_) (fun (g : ¬ S1 0 ≤ a) => ?_)
      · rw [wn.1, ea, nI_leI (by omega) (by omega)] at g
        rw [if_neg (by omega)] at hK
        exact hK
      · rw [wn.1, ea, nI_leI (by omega) (by omega)] at g
        rw [if_pos (by omega)] at hK
        refine Exists.intro _ ⟨cX9_countFree_ct hl0, s_n S1, wn.2, wn.1, rfl, ?_⟩
        rw [d_rf_22]
        refine And.intro (fun (g2 : nI (s_cf S1 (s_n S1)) ≤ nI 0) => ?_) (fun (g2 : ¬ nI (s_cf S1 (s_n S1)) ≤ nI 0) => ?_)
        · rw [nI_leI (by omega) (by omega)] at g2
          rw [s_cf_0 (show s_cf S1 (s_n S1) = 0 by omega)] at hK
          exact hK
        · rw [nI_leI (by omega) (by omega)] at g2
          refine Exists.intro _ ⟨cX9_freeOne_ct hl0, s_n S1, false, wn.2, wn.1, rfl, ?_⟩
          rw [d_rf_22]
          cases hfo : s_fo S1 false (s_n S1) with
          | none =>
            have := s_fo_none hfo
            omega
          | some p =>
            have hp := s_fo_lt hfo
            rw [hfo] at hK
            refine Exists.intro _ ⟨cX9_closes_ct hl0, s_n S1, p, 4, wn.2, hp, by decide, wn.1, rfl, ?_⟩
            rw [d_rf_sa, d_rf_22]
            exact ih m v (s_cl S1 p 4) ea ((s_m_cl wn.2 (by decide)).trans em) (s_wf_cl w hp (by decide)) (by rw [s_n_cl w hp, hf]; rfl) hK
  apply hz [12] 60
  refine Exists.intro _ ⟨cX9_sets_ct hl0, 207, 1, 12, a, h, by omega, by omega, by omega, w, hh, h1, rfl, fun c => ?_, fun c => ?_⟩
  · obtain ⟨m, -, hm, e⟩ := s_rg_n (lo := 1) (hi := 12) (by omega) (by omega) c
    have e7 : upd (s_sav (M.1 22 0 0) h) 207 a 207 = nI m := by rw [q_upd_eq, e]
    exact loop (s_n (M.1 22 0 0)) m _ _ e (s_of e7 (by omega)) (s_wf_set (i := 0) (s_wf_sav w) (by omega) (fun _ => ⟨m, hm, e⟩) (fun g => absurd g (by decide)) (fun g => absurd g (by decide))) ((s_n_e (q_upd_ne (by omega))).trans (s_n_lo (fun i hi => s_sav_lo hi))) (hK c)
  · have hX := hX c
    apply hz [] 60
    refine And.intro (fun g => absurd (show (q_si M (21, 0, 0) 3 (nI 1)).1 21 0 0 3 = 0 from g) (by rw [q_i_e, q_upd_eq]; exact q_n1)) (fun _ => ?_)
    exact hX
abbrev pX9_turnOrder : Q_P := fun av M K KX => ∃ (h : Nat), s_wf (M.1 22 0 0) ∧ h ≤ 6 ∧ M.1 21 0 0 1 = nI h ∧ av = [.inr (.inl (21, 0, 0))] ∧ K (some (.inl (nI 1 - s_sav (M.1 22 0 0) h 213))) (d_rf M h (upd (s_sav (M.1 22 0 0) h) 213 (nI 1 - s_sav (M.1 22 0 0) h 213)))
theorem cX9_turnOrder_ct {l : Launch} {b : Bool} (hl0 : l.stackTraces = false) : q_Ct l b 193 pX9_turnOrder := by
  refine q_meth (by decide +kernel) hl0 TX9_turnOrder kX9_turnOrder ?_
  intro av M K KX hwf
  rintro ⟨h, w, hh, h1, rfl, hK⟩
  refine ⟨Nat.le_of_ble_eq_true rfl, fun Z hz hw => ?_⟩
  have wb : q_bit (s_sav (M.1 22 0 0) h 213) := by
    rw [s_sav_lo (by omega)]
    exact w.2.2.2.2.1
  apply hz [] 100
  refine Exists.intro _ ⟨cX9_saves2_ct hl0, M, h, rfl, hh, h1, rfl, ?_⟩
  refine Exists.intro 213 ⟨rfl, by decide, ?_⟩
  refine Exists.intro 213 ⟨rfl, by decide, ?_⟩
  refine Exists.intro 213 ⟨rfl, by decide, ?_⟩
  have ev : (q_si (d_rf M h (s_sav (M.1 22 0 0) h)) (22, 0, 0) 213 (nI 1 - s_sav (M.1 22 0 0) h 213)).1 22 0 0 213 = nI 1 - s_sav (M.1 22 0 0) h 213 := by
    rw [q_i_e, q_upd_eq]
  have em : q_si (d_rf M h (s_sav (M.1 22 0 0) h)) (22, 0, 0) 213 (nI 1 - s_sav (M.1 22 0 0) h 213) = d_rf M h (upd (s_sav (M.1 22 0 0) h) 213 (nI 1 - s_sav (M.1 22 0 0) h 213)) := by
    rw [q_si22, d_rf_sa, d_rf_22]
  rw [← em] at hK
  refine And.intro (fun g => ?_) (fun g => ?_)
  · have g : nI 1 - s_sav (M.1 22 0 0) h 213 = nI 1 := ev.symm.trans g
    refine And.intro (Or.inr rfl) ?_
    exact q_K hK (congrArg (fun z => some (Sum.inl z)) g.symm) rfl
  · have g : ¬ nI 1 - s_sav (M.1 22 0 0) h 213 = nI 1 := fun g2 => g (ev.trans g2)
    have g0 : nI 1 - s_sav (M.1 22 0 0) h 213 = nI 0 := by
      rcases wb with e | e
      · rw [e] at g
        exact absurd (by decide) g
      · rw [e]
        decide
    refine And.intro (Or.inl rfl) ?_
    exact q_K hK (congrArg (fun z => some (Sum.inl z)) g0.symm) rfl
abbrev pX9_plain : Q_P := fun av M K KX => ∃ k : Nat, k < 2270 ∧ av = [.inr (.inl (21, 0, 0)), .inl (nI k)] ∧ K (some (.inl ((M.1 22 0 0) k))) (q_si M (21, 0, 0) 3 (nI 0))
theorem cX9_plain_ct {l : Launch} {b : Bool} (hl0 : l.stackTraces = false) : q_Ct l b 209 pX9_plain := by
  refine q_meth (by decide +kernel) hl0 TX9_plain kX9_plain ?_
  intro av M K KX hwf
  rintro ⟨k, hk, rfl, hK⟩
  refine ⟨Nat.le_of_ble_eq_true rfl, fun Z hz hw => ?_⟩
  apply hz [] 60
  refine Exists.intro k ⟨rfl, hk, ?_⟩
  exact hK
abbrev pX9_livingByGoing : Q_P := fun av M K KX => av = [.inr (.inl (21, 0, 0))] ∧ K (some (.inl ((M.1 22 0 0) 0))) (q_si M (21, 0, 0) 3 (nI 0))
theorem cX9_livingByGoing_ct {l : Launch} {b : Bool} (hl0 : l.stackTraces = false) : q_Ct l b 210 pX9_livingByGoing := by
  refine q_meth (by decide +kernel) hl0 TX9_livingByGoing kX9_livingByGoing ?_
  intro av M K KX hwf
  rintro ⟨rfl, hK⟩
  refine ⟨Nat.le_of_ble_eq_true rfl, fun Z hz hw => ?_⟩
  apply hz [] 60
  exact Exists.intro _ ⟨cX9_plain_ct hl0, 0, by decide, rfl, hK⟩
abbrev pX9_waiting : Q_P := fun av M K KX => av = [.inr (.inl (21, 0, 0))] ∧ K (some (.inl ((M.1 22 0 0) 145))) (q_si M (21, 0, 0) 3 (nI 0))
theorem cX9_waiting_ct {l : Launch} {b : Bool} (hl0 : l.stackTraces = false) : q_Ct l b 237 pX9_waiting := by
  refine q_meth (by decide +kernel) hl0 TX9_waiting kX9_waiting ?_
  intro av M K KX hwf
  rintro ⟨rfl, hK⟩
  refine ⟨Nat.le_of_ble_eq_true rfl, fun Z hz hw => ?_⟩
  apply hz [] 60
  exact Exists.intro _ ⟨cX9_plain_ct hl0, 145, by decide, rfl, hK⟩
abbrev pX9_most : Q_P := fun av M K KX => av = [.inr (.inl (21, 0, 0))] ∧ K (some (.inl ((M.1 22 0 0) 207))) (q_si M (21, 0, 0) 3 (nI 0))
theorem cX9_most_ct {l : Launch} {b : Bool} (hl0 : l.stackTraces = false) : q_Ct l b 239 pX9_most := by
  refine q_meth (by decide +kernel) hl0 TX9_most kX9_most ?_
  intro av M K KX hwf
  rintro ⟨rfl, hK⟩
  refine ⟨Nat.le_of_ble_eq_true rfl, fun Z hz hw => ?_⟩
  apply hz [] 60
  exact Exists.intro _ ⟨cX9_plain_ct hl0, 207, by decide, rfl, hK⟩
abbrev pX9_leastIdle : Q_P := fun av M K KX => av = [.inr (.inl (21, 0, 0))] ∧ K (some (.inl ((M.1 22 0 0) 208))) (q_si M (21, 0, 0) 3 (nI 0))
theorem cX9_leastIdle_ct {l : Launch} {b : Bool} (hl0 : l.stackTraces = false) : q_Ct l b 240 pX9_leastIdle := by
  refine q_meth (by decide +kernel) hl0 TX9_leastIdle kX9_leastIdle ?_
  intro av M K KX hwf
  rintro ⟨rfl, hK⟩
  refine ⟨Nat.le_of_ble_eq_true rfl, fun Z hz hw => ?_⟩
  apply hz [] 60
  exact Exists.intro _ ⟨cX9_plain_ct hl0, 208, by decide, rfl, hK⟩
abbrev pX9_ageLimit : Q_P := fun av M K KX => av = [.inr (.inl (21, 0, 0))] ∧ K (some (.inl ((M.1 22 0 0) 209))) (q_si M (21, 0, 0) 3 (nI 0))
theorem cX9_ageLimit_ct {l : Launch} {b : Bool} (hl0 : l.stackTraces = false) : q_Ct l b 241 pX9_ageLimit := by
  refine q_meth (by decide +kernel) hl0 TX9_ageLimit kX9_ageLimit ?_
  intro av M K KX hwf
  rintro ⟨rfl, hK⟩
  refine ⟨Nat.le_of_ble_eq_true rfl, fun Z hz hw => ?_⟩
  apply hz [] 60
  exact Exists.intro _ ⟨cX9_plain_ct hl0, 209, by decide, rfl, hK⟩
abbrev pX9_restLimit : Q_P := fun av M K KX => av = [.inr (.inl (21, 0, 0))] ∧ K (some (.inl ((M.1 22 0 0) 210))) (q_si M (21, 0, 0) 3 (nI 0))
theorem cX9_restLimit_ct {l : Launch} {b : Bool} (hl0 : l.stackTraces = false) : q_Ct l b 242 pX9_restLimit := by
  refine q_meth (by decide +kernel) hl0 TX9_restLimit kX9_restLimit ?_
  intro av M K KX hwf
  rintro ⟨rfl, hK⟩
  refine ⟨Nat.le_of_ble_eq_true rfl, fun Z hz hw => ?_⟩
  apply hz [] 60
  exact Exists.intro _ ⟨cX9_plain_ct hl0, 210, by decide, rfl, hK⟩
abbrev pX9_leaseLimit : Q_P := fun av M K KX => av = [.inr (.inl (21, 0, 0))] ∧ K (some (.inl ((M.1 22 0 0) 211))) (q_si M (21, 0, 0) 3 (nI 0))
theorem cX9_leaseLimit_ct {l : Launch} {b : Bool} (hl0 : l.stackTraces = false) : q_Ct l b 243 pX9_leaseLimit := by
  refine q_meth (by decide +kernel) hl0 TX9_leaseLimit kX9_leaseLimit ?_
  intro av M K KX hwf
  rintro ⟨rfl, hK⟩
  refine ⟨Nat.le_of_ble_eq_true rfl, fun Z hz hw => ?_⟩
  apply hz [] 60
  exact Exists.intro _ ⟨cX9_plain_ct hl0, 211, by decide, rfl, hK⟩
abbrev pX9_patience : Q_P := fun av M K KX => av = [.inr (.inl (21, 0, 0))] ∧ K (some (.inl ((M.1 22 0 0) 212))) (q_si M (21, 0, 0) 3 (nI 0))
theorem cX9_patience_ct {l : Launch} {b : Bool} (hl0 : l.stackTraces = false) : q_Ct l b 244 pX9_patience := by
  refine q_meth (by decide +kernel) hl0 TX9_patience kX9_patience ?_
  intro av M K KX hwf
  rintro ⟨rfl, hK⟩
  refine ⟨Nat.le_of_ble_eq_true rfl, fun Z hz hw => ?_⟩
  apply hz [] 60
  exact Exists.intro _ ⟨cX9_plain_ct hl0, 212, by decide, rfl, hK⟩
abbrev pX9_time : Q_P := fun av M K KX => av = [.inr (.inl (21, 0, 0))] ∧ K (some (.inl ((M.1 22 0 0) 206))) (q_si M (21, 0, 0) 3 (nI 0))
theorem cX9_time_ct {l : Launch} {b : Bool} (hl0 : l.stackTraces = false) : q_Ct l b 251 pX9_time := by
  refine q_meth (by decide +kernel) hl0 TX9_time kX9_time ?_
  intro av M K KX hwf
  rintro ⟨rfl, hK⟩
  refine ⟨Nat.le_of_ble_eq_true rfl, fun Z hz hw => ?_⟩
  apply hz [] 60
  exact Exists.intro _ ⟨cX9_plain_ct hl0, 206, by decide, rfl, hK⟩
abbrev pX9_opened : Q_P := fun av M K KX => av = [.inr (.inl (21, 0, 0))] ∧ K (some (.inl ((M.1 22 0 0) 214))) (q_si M (21, 0, 0) 3 (nI 0))
theorem cX9_opened_ct {l : Launch} {b : Bool} (hl0 : l.stackTraces = false) : q_Ct l b 252 pX9_opened := by
  refine q_meth (by decide +kernel) hl0 TX9_opened kX9_opened ?_
  intro av M K KX hwf
  rintro ⟨rfl, hK⟩
  refine ⟨Nat.le_of_ble_eq_true rfl, fun Z hz hw => ?_⟩
  apply hz [] 60
  exact Exists.intro _ ⟨cX9_plain_ct hl0, 214, by decide, rfl, hK⟩
abbrev pX9_lendings : Q_P := fun av M K KX => av = [.inr (.inl (21, 0, 0))] ∧ K (some (.inl ((M.1 22 0 0) 220))) (q_si M (21, 0, 0) 3 (nI 0))
theorem cX9_lendings_ct {l : Launch} {b : Bool} (hl0 : l.stackTraces = false) : q_Ct l b 254 pX9_lendings := by
  refine q_meth (by decide +kernel) hl0 TX9_lendings kX9_lendings ?_
  intro av M K KX hwf
  rintro ⟨rfl, hK⟩
  refine ⟨Nat.le_of_ble_eq_true rfl, fun Z hz hw => ?_⟩
  apply hz [] 60
  exact Exists.intro _ ⟨cX9_plain_ct hl0, 220, by decide, rfl, hK⟩
abbrev pX9_impatient : Q_P := fun av M K KX => av = [.inr (.inl (21, 0, 0))] ∧ K (some (.inl ((M.1 22 0 0) 221))) (q_si M (21, 0, 0) 3 (nI 0))
theorem cX9_impatient_ct {l : Launch} {b : Bool} (hl0 : l.stackTraces = false) : q_Ct l b 255 pX9_impatient := by
  refine q_meth (by decide +kernel) hl0 TX9_impatient kX9_impatient ?_
  intro av M K KX hwf
  rintro ⟨rfl, hK⟩
  refine ⟨Nat.le_of_ble_eq_true rfl, fun Z hz hw => ?_⟩
  apply hz [] 60
  exact Exists.intro _ ⟨cX9_plain_ct hl0, 221, by decide, rfl, hK⟩
abbrev pX9_served : Q_P := fun av M K KX => av = [.inr (.inl (21, 0, 0))] ∧ K (some (.inl ((M.1 22 0 0) 222))) (q_si M (21, 0, 0) 3 (nI 0))
theorem cX9_served_ct {l : Launch} {b : Bool} (hl0 : l.stackTraces = false) : q_Ct l b 256 pX9_served := by
  refine q_meth (by decide +kernel) hl0 TX9_served kX9_served ?_
  intro av M K KX hwf
  rintro ⟨rfl, hK⟩
  refine ⟨Nat.le_of_ble_eq_true rfl, fun Z hz hw => ?_⟩
  apply hz [] 60
  exact Exists.intro _ ⟨cX9_plain_ct hl0, 222, by decide, rfl, hK⟩
abbrev pX9_waited : Q_P := fun av M K KX => av = [.inr (.inl (21, 0, 0))] ∧ K (some (.inl ((M.1 22 0 0) 223))) (q_si M (21, 0, 0) 3 (nI 0))
theorem cX9_waited_ct {l : Launch} {b : Bool} (hl0 : l.stackTraces = false) : q_Ct l b 257 pX9_waited := by
  refine q_meth (by decide +kernel) hl0 TX9_waited kX9_waited ?_
  intro av M K KX hwf
  rintro ⟨rfl, hK⟩
  refine ⟨Nat.le_of_ble_eq_true rfl, fun Z hz hw => ?_⟩
  apply hz [] 60
  exact Exists.intro _ ⟨cX9_plain_ct hl0, 223, by decide, rfl, hK⟩
abbrev pX9_hits : Q_P := fun av M K KX => av = [.inr (.inl (21, 0, 0))] ∧ K (some (.inl ((M.1 22 0 0) 224))) (q_si M (21, 0, 0) 3 (nI 0))
theorem cX9_hits_ct {l : Launch} {b : Bool} (hl0 : l.stackTraces = false) : q_Ct l b 258 pX9_hits := by
  refine q_meth (by decide +kernel) hl0 TX9_hits kX9_hits ?_
  intro av M K KX hwf
  rintro ⟨rfl, hK⟩
  refine ⟨Nat.le_of_ble_eq_true rfl, fun Z hz hw => ?_⟩
  apply hz [] 60
  exact Exists.intro _ ⟨cX9_plain_ct hl0, 224, by decide, rfl, hK⟩
abbrev pX9_misses : Q_P := fun av M K KX => av = [.inr (.inl (21, 0, 0))] ∧ K (some (.inl ((M.1 22 0 0) 225))) (q_si M (21, 0, 0) 3 (nI 0))
theorem cX9_misses_ct {l : Launch} {b : Bool} (hl0 : l.stackTraces = false) : q_Ct l b 259 pX9_misses := by
  refine q_meth (by decide +kernel) hl0 TX9_misses kX9_misses ?_
  intro av M K KX hwf
  rintro ⟨rfl, hK⟩
  refine ⟨Nat.le_of_ble_eq_true rfl, fun Z hz hw => ?_⟩
  apply hz [] 60
  exact Exists.intro _ ⟨cX9_plain_ct hl0, 225, by decide, rfl, hK⟩
abbrev pX9_isLastFirst : Q_P := fun av M K KX => q_bit ((M.1 22 0 0) 213) ∧ av = [.inr (.inl (21, 0, 0))] ∧ K (some (.inl ((M.1 22 0 0) 213))) (q_si M (21, 0, 0) 3 (nI 0))
theorem cX9_isLastFirst_ct {l : Launch} {b : Bool} (hl0 : l.stackTraces = false) : q_Ct l b 245 pX9_isLastFirst := by
  refine q_meth (by decide +kernel) hl0 TX9_isLastFirst kX9_isLastFirst ?_
  intro av M K KX hwf
  rintro ⟨hb, rfl, hK⟩
  refine ⟨Nat.le_of_ble_eq_true rfl, fun Z hz hw => ?_⟩
  apply hz [] 60
  refine Exists.intro _ ⟨cX9_plain_ct hl0, 213, by decide, rfl, ?_⟩
  refine And.intro (fun (g : (M.1 22 0 0) 213 = nI 1) => ?_) (fun (g : ¬ (M.1 22 0 0) 213 = nI 1) => ?_)
  · rw [g] at hK
    exact And.intro (Or.inr rfl) hK
  · rcases hb with e | e
    · rw [e] at hK
      exact And.intro (Or.inl rfl) hK
    · exact absurd e g
abbrev pX9_savedStates : Q_P := fun av M K KX => av = [.inr (.inl (21, 0, 0))] ∧ K (some (.inl (M.1 21 0 0 1))) (q_si M (21, 0, 0) 3 (nI 0))
theorem cX9_savedStates_ct {l : Launch} {b : Bool} (hl0 : l.stackTraces = false) : q_Ct l b 208 pX9_savedStates := by
  refine q_meth (by decide +kernel) hl0 TX9_savedStates kX9_savedStates ?_
  intro av M K KX hwf
  rintro ⟨rfl, hK⟩
  refine ⟨Nat.le_of_ble_eq_true rfl, fun Z hz hw => ?_⟩
  apply hz [] 60
  refine q_K hK ?_ rfl
  show some (Sum.inl ((q_si M (21, 0, 0) 3 (nI 0)).1 21 0 0 1)) = _
  rw [q_i_e, q_upd_ne (by decide)]
def s_a5 (S : Nat → Int32) : Nat → Int32
  | 0 => S 214
  | k + 1 => s_a5 S k - S (215 + k)
theorem s_a5_5 (S : Nat → Int32) : s_a5 S 5 = s_ct S := rfl
abbrev pX9_account : Q_P := fun av M K KX => av = [.inr (.inl (21, 0, 0))] ∧ K (some (.inl (s_ct (M.1 22 0 0)))) M
theorem cX9_account_ct {l : Launch} {b : Bool} (hl0 : l.stackTraces = false) : q_Ct l b 211 pX9_account := by
  refine q_meth (by decide +kernel) hl0 TX9_account kX9_account ?_
  intro av M K KX hwf
  rintro ⟨rfl, hK⟩
  refine ⟨Nat.le_of_ble_eq_true rfl, fun Z hz hw => ?_⟩
  have loop : ∀ (d k : Nat), k + d = 5 → Z 0 11 [(2, .inl (nI k)), (1, .inl (s_a5 (M.1 22 0 0) k)), (0, .inr (.inl (21, 0, 0)))] [] M := by
    intro d
    induction d with
    | zero =>
      intro k hk
      obtain rfl : k = 5 := by omega
      apply hz [11] 60
      exact And.intro (fun _ => hK) (fun g => absurd (show nI 5 ≤ nI 5 from nI_le (by omega) (by omega)) g)
    | succ d ih =>
      intro k hk
      apply hz [11] 60
      refine And.intro (fun (g : nI 5 ≤ nI k) => absurd ((nI_leI (by omega) (by omega)).mp g) (by omega)) (fun _ => ?_)
      refine Exists.intro (215 + k) ⟨nI_add 215 k, by omega, ?_⟩
      have h := ih (k + 1) (by omega)
      have e : s_a5 (M.1 22 0 0) (k + 1) = s_a5 (M.1 22 0 0) k - (M.1 22 0 0) (215 + k) := rfl
      rw [e, ← nI_add k 1] at h
      exact h
  apply hz [11] 60
  refine Exists.intro 214 ⟨rfl, by decide, ?_⟩
  exact loop 5 0 (by omega)
abbrev pX9_livingByAccount : Q_P := fun av M K KX => av = [.inr (.inl (21, 0, 0))] ∧ K (some (.inl (s_ct (M.1 22 0 0)))) (q_si M (21, 0, 0) 3 (nI 0))
theorem cX9_livingByAccount_ct {l : Launch} {b : Bool} (hl0 : l.stackTraces = false) : q_Ct l b 212 pX9_livingByAccount := by
  refine q_meth (by decide +kernel) hl0 TX9_livingByAccount kX9_livingByAccount ?_
  intro av M K KX hwf
  rintro ⟨rfl, hK⟩
  refine ⟨Nat.le_of_ble_eq_true rfl, fun Z hz hw => ?_⟩
  apply hz [] 60
  exact Exists.intro _ ⟨cX9_account_ct hl0, rfl, hK⟩
abbrev pX9_of : Q_P := fun av M K KX => ∃ (a : Int32) (f : Nat), s_wf (M.1 22 0 0) ∧ f < 12 ∧ av = [.inr (.inl (21, 0, 0)), .inl a, .inl (nI f)] ∧ (∀ p, p < s_n (M.1 22 0 0) → a = nI p → K (some (.inl ((M.1 22 0 0) (1 + 12 * p + f)))) (q_si M (21, 0, 0) 3 (nI 0))) ∧ (¬ s_lp1 (M.1 22 0 0) a → K (some (.inl (nI 0))) (q_si M (21, 0, 0) 3 (nI 1)))
theorem cX9_of_ct {l : Launch} {b : Bool} (hl0 : l.stackTraces = false) : q_Ct l b 213 pX9_of := by
  refine q_meth (by decide +kernel) hl0 TX9_of kX9_of ?_
  intro av M K KX hwf
  rintro ⟨a, f, w, hf, rfl, hK, hX⟩
  refine ⟨Nat.le_of_ble_eq_true rfl, fun Z hz hw => ?_⟩
  obtain ⟨w0, wn⟩ := w.1
  apply hz [] 100
  refine Exists.intro _ ⟨cX9_isLink_ct hl0, a, rfl, ?_⟩
  by_cases c : s_lp1 (M.1 22 0 0) a
  · rw [q_bi_t c]
    obtain ⟨p, hp, e⟩ := s_lp1_e w c
    subst e
    have hK := hK p hp rfl
    refine Exists.intro _ ⟨cX9_gos_ct hl0, 0, nI 1, nI 1, nI 1, by decide, rfl, fun _ => ?_, fun g => absurd rfl g⟩
    refine And.intro (fun g => absurd g q_n1) (fun _ => ?_)
    refine Exists.intro _ ⟨cX9_link_ct hl0, p, rfl, ?_⟩
    refine Exists.intro (1 + 12 * p + f) ⟨nI_add _ f, by omega, ?_⟩
    exact hK
  · rw [q_bi_f c]
    refine Exists.intro _ ⟨cX9_gos_ct hl0, 1, nI 0, nI 1, nI 1, by decide, rfl, fun g => absurd g (by decide), fun _ => ?_⟩
    refine And.intro (fun _ => ?_) (fun g => absurd nI_0 g)
    exact hX c
abbrev pX9_numberAt : Q_P := fun av M K KX => ∃ (a : Int32), s_wf (M.1 22 0 0) ∧ av = [.inr (.inl (21, 0, 0)), .inl a] ∧ (∀ p, p < s_n (M.1 22 0 0) → a = nI p → K (some (.inl ((M.1 22 0 0) (1 + 12 * p)))) (q_si M (21, 0, 0) 3 (nI 0))) ∧ (¬ s_lp1 (M.1 22 0 0) a → K (some (.inl (nI 0))) (q_si M (21, 0, 0) 3 (nI 1)))
theorem cX9_numberAt_ct {l : Launch} {b : Bool} (hl0 : l.stackTraces = false) : q_Ct l b 214 pX9_numberAt := by
  refine q_meth (by decide +kernel) hl0 TX9_numberAt kX9_numberAt ?_
  intro av M K KX hwf
  rintro ⟨a, w, rfl, hK, hX⟩
  refine ⟨Nat.le_of_ble_eq_true rfl, fun Z hz hw => ?_⟩
  apply hz [] 60
  refine Exists.intro _ ⟨cX9_of_ct hl0, a, 0, w, by decide, rfl, fun p hp e => ?_, hX⟩
  have hK := hK p hp e
  rw [show 1 + 12 * p = 1 + 12 * p + 0 by omega] at hK
  exact hK
abbrev pX9_lendingsOf : Q_P := fun av M K KX => ∃ (a : Int32), s_wf (M.1 22 0 0) ∧ av = [.inr (.inl (21, 0, 0)), .inl a] ∧ (∀ p, p < s_n (M.1 22 0 0) → a = nI p → K (some (.inl ((M.1 22 0 0) (7 + 12 * p)))) (q_si M (21, 0, 0) 3 (nI 0))) ∧ (¬ s_lp1 (M.1 22 0 0) a → K (some (.inl (nI 0))) (q_si M (21, 0, 0) 3 (nI 1)))
theorem cX9_lendingsOf_ct {l : Launch} {b : Bool} (hl0 : l.stackTraces = false) : q_Ct l b 222 pX9_lendingsOf := by
  refine q_meth (by decide +kernel) hl0 TX9_lendingsOf kX9_lendingsOf ?_
  intro av M K KX hwf
  rintro ⟨a, w, rfl, hK, hX⟩
  refine ⟨Nat.le_of_ble_eq_true rfl, fun Z hz hw => ?_⟩
  apply hz [] 60
  refine Exists.intro _ ⟨cX9_of_ct hl0, a, 6, w, by decide, rfl, fun p hp e => ?_, hX⟩
  have hK := hK p hp e
  rw [show 7 + 12 * p = 1 + 12 * p + 6 by omega] at hK
  exact hK
abbrev pX9_nutsIn : Q_P := fun av M K KX => ∃ (a : Int32), s_wf (M.1 22 0 0) ∧ av = [.inr (.inl (21, 0, 0)), .inl a] ∧ (∀ p, p < s_n (M.1 22 0 0) → a = nI p → K (some (.inl ((M.1 22 0 0) (8 + 12 * p)))) (q_si M (21, 0, 0) 3 (nI 0))) ∧ (¬ s_lp1 (M.1 22 0 0) a → K (some (.inl (nI 0))) (q_si M (21, 0, 0) 3 (nI 1)))
theorem cX9_nutsIn_ct {l : Launch} {b : Bool} (hl0 : l.stackTraces = false) : q_Ct l b 223 pX9_nutsIn := by
  refine q_meth (by decide +kernel) hl0 TX9_nutsIn kX9_nutsIn ?_
  intro av M K KX hwf
  rintro ⟨a, w, rfl, hK, hX⟩
  refine ⟨Nat.le_of_ble_eq_true rfl, fun Z hz hw => ?_⟩
  apply hz [] 60
  refine Exists.intro _ ⟨cX9_of_ct hl0, a, 7, w, by decide, rfl, fun p hp e => ?_, hX⟩
  have hK := hK p hp e
  rw [show 8 + 12 * p = 1 + 12 * p + 7 by omega] at hK
  exact hK
abbrev pX9_isBroken : Q_P := fun av M K KX => ∃ (a : Int32), s_wf (M.1 22 0 0) ∧ av = [.inr (.inl (21, 0, 0)), .inl a] ∧ (∀ p, p < s_n (M.1 22 0 0) → a = nI p → K (some (.inl ((M.1 22 0 0) (4 + 12 * p)))) (q_si M (21, 0, 0) 3 (nI 0))) ∧ (¬ s_lp1 (M.1 22 0 0) a → K (some (.inl (nI 0))) (q_si M (21, 0, 0) 3 (nI 1)))
theorem cX9_isBroken_ct {l : Launch} {b : Bool} (hl0 : l.stackTraces = false) : q_Ct l b 217 pX9_isBroken := by
  refine q_meth (by decide +kernel) hl0 TX9_isBroken kX9_isBroken ?_
  intro av M K KX hwf
  rintro ⟨a, w, rfl, hK, hX⟩
  refine ⟨Nat.le_of_ble_eq_true rfl, fun Z hz hw => ?_⟩
  apply hz [] 60
  refine Exists.intro _ ⟨cX9_of_ct hl0, a, 3, w, by decide, rfl, fun p hp e => ?_, fun c => ?_⟩
  · have hK := hK p hp e
    have wb := (w.2.2.2.2.2.1 p hp).2.1
    rw [show 1 + 12 * p + 3 = 4 + 12 * p by omega]
    refine And.intro (fun (g : (M.1 22 0 0) (4 + 12 * p) = nI 1) => ?_) (fun (g : ¬ (M.1 22 0 0) (4 + 12 * p) = nI 1) => ?_)
    · rw [g] at hK
      exact And.intro (Or.inr rfl) hK
    · rcases wb with e | e
      · rw [e] at hK
        exact And.intro (Or.inl rfl) hK
      · exact absurd e g
  · exact And.intro (fun g => absurd g (show ¬ nI 0 = nI 1 by decide)) (fun _ => And.intro (Or.inl rfl) (hX c))
abbrev pX9_ageAt : Q_P := fun av M K KX => ∃ (a : Int32), s_wf (M.1 22 0 0) ∧ av = [.inr (.inl (21, 0, 0)), .inl a] ∧ (∀ p, p < s_n (M.1 22 0 0) → a = nI p → K (some (.inl ((M.1 22 0 0) 206 - (M.1 22 0 0) (2 + 12 * p)))) (q_si M (21, 0, 0) 3 (nI 0))) ∧ (¬ s_lp1 (M.1 22 0 0) a → K (some (.inl (nI 0))) (q_si M (21, 0, 0) 3 (nI 1)))
theorem cX9_ageAt_ct {l : Launch} {b : Bool} (hl0 : l.stackTraces = false) : q_Ct l b 215 pX9_ageAt := by
  refine q_meth (by decide +kernel) hl0 TX9_ageAt kX9_ageAt ?_
  intro av M K KX hwf
  rintro ⟨a, w, rfl, hK, hX⟩
  refine ⟨Nat.le_of_ble_eq_true rfl, fun Z hz hw => ?_⟩
  obtain ⟨w0, wn⟩ := w.1
  apply hz [] 100
  refine Exists.intro _ ⟨cX9_isLink_ct hl0, a, rfl, ?_⟩
  by_cases c : s_lp1 (M.1 22 0 0) a
  · rw [q_bi_t c]
    obtain ⟨p, hp, e⟩ := s_lp1_e w c
    subst e
    have hK := hK p hp rfl
    refine Exists.intro _ ⟨cX9_gos_ct hl0, 0, nI 1, nI 1, nI 1, by decide, rfl, fun _ => ?_, fun g => absurd rfl g⟩
    refine And.intro (fun g => absurd g q_n1) (fun _ => ?_)
    exact Exists.intro _ ⟨cX9_agesAt_ct hl0, p, by omega, rfl, hK⟩
  · rw [q_bi_f c]
    refine Exists.intro _ ⟨cX9_gos_ct hl0, 1, nI 0, nI 1, nI 1, by decide, rfl, fun g => absurd g (by decide), fun _ => ?_⟩
    refine And.intro (fun _ => ?_) (fun g => absurd nI_0 g)
    exact hX c
abbrev pX9_sinceAt : Q_P := fun av M K KX => ∃ (a : Int32), s_wf (M.1 22 0 0) ∧ av = [.inr (.inl (21, 0, 0)), .inl a] ∧ (∀ p, p < s_n (M.1 22 0 0) → a = nI p → K (some (.inl ((M.1 22 0 0) 206 - (M.1 22 0 0) (5 + 12 * p)))) (q_si M (21, 0, 0) 3 (nI 0))) ∧ (¬ s_lp1 (M.1 22 0 0) a → K (some (.inl (nI 0))) (q_si M (21, 0, 0) 3 (nI 1)))
theorem cX9_sinceAt_ct {l : Launch} {b : Bool} (hl0 : l.stackTraces = false) : q_Ct l b 219 pX9_sinceAt := by
  refine q_meth (by decide +kernel) hl0 TX9_sinceAt kX9_sinceAt ?_
  intro av M K KX hwf
  rintro ⟨a, w, rfl, hK, hX⟩
  refine ⟨Nat.le_of_ble_eq_true rfl, fun Z hz hw => ?_⟩
  obtain ⟨w0, wn⟩ := w.1
  apply hz [] 100
  refine Exists.intro _ ⟨cX9_isLink_ct hl0, a, rfl, ?_⟩
  by_cases c : s_lp1 (M.1 22 0 0) a
  · rw [q_bi_t c]
    obtain ⟨p, hp, e⟩ := s_lp1_e w c
    subst e
    have hK := hK p hp rfl
    refine Exists.intro _ ⟨cX9_gos_ct hl0, 0, nI 1, nI 1, nI 1, by decide, rfl, fun _ => ?_, fun g => absurd rfl g⟩
    refine And.intro (fun g => absurd g q_n1) (fun _ => ?_)
    refine Exists.intro 206 ⟨rfl, by decide, ?_⟩
    refine Exists.intro _ ⟨cX9_link_ct hl0, p, rfl, ?_⟩
    refine Exists.intro (5 + 12 * p) ⟨(nI_add _ 4).trans (congrArg nI (by omega)), by omega, ?_⟩
    exact hK
  · rw [q_bi_f c]
    refine Exists.intro _ ⟨cX9_gos_ct hl0, 1, nI 0, nI 1, nI 1, by decide, rfl, fun g => absurd g (by decide), fun _ => ?_⟩
    refine And.intro (fun _ => ?_) (fun g => absurd nI_0 g)
    exact hX c
abbrev pX9_isIdle : Q_P := fun av M K KX => ∃ (a : Int32), s_wf (M.1 22 0 0) ∧ av = [.inr (.inl (21, 0, 0)), .inl a] ∧ (∀ p, p < s_n (M.1 22 0 0) → a = nI p → K (some (.inl (q_bi ((M.1 22 0 0) (3 + 12 * p) < 0)))) (q_si M (21, 0, 0) 3 (nI 0))) ∧ (¬ s_lp1 (M.1 22 0 0) a → K (some (.inl (nI 0))) (q_si M (21, 0, 0) 3 (nI 1)))
theorem cX9_isIdle_ct {l : Launch} {b : Bool} (hl0 : l.stackTraces = false) : q_Ct l b 216 pX9_isIdle := by
  refine q_meth (by decide +kernel) hl0 TX9_isIdle kX9_isIdle ?_
  intro av M K KX hwf
  rintro ⟨a, w, rfl, hK, hX⟩
  refine ⟨Nat.le_of_ble_eq_true rfl, fun Z hz hw => ?_⟩
  obtain ⟨w0, wn⟩ := w.1
  apply hz [] 100
  refine Exists.intro _ ⟨cX9_isLink_ct hl0, a, rfl, ?_⟩
  by_cases c : s_lp1 (M.1 22 0 0) a
  · rw [q_bi_t c]
    obtain ⟨p, hp, e⟩ := s_lp1_e w c
    subst e
    have hK := hK p hp rfl
    refine Exists.intro _ ⟨cX9_gos_ct hl0, 0, nI 1, nI 1, nI 1, by decide, rfl, fun _ => ?_, fun g => absurd rfl g⟩
    refine And.intro (fun g => absurd g q_n1) (fun _ => ?_)
    refine Exists.intro _ ⟨cX9_isFree_ct hl0, p, by omega, rfl, ?_⟩
    by_cases g : (M.1 22 0 0) (3 + 12 * p) < 0
    · rw [q_bi_t g] at hK
      rw [show q_bi ((q_si M (21, 0, 0) 3 (nI 0)).1 22 0 0 (3 + 12 * p) < 0) = nI 1 from q_bi_t g]
      refine And.intro (fun g => absurd g q_n1) (fun _ => ?_)
      exact And.intro (Or.inr rfl) hK
    · rw [q_bi_f g] at hK
      rw [show q_bi ((q_si M (21, 0, 0) 3 (nI 0)).1 22 0 0 (3 + 12 * p) < 0) = nI 0 from q_bi_f g]
      refine And.intro (fun _ => ?_) (fun g => absurd nI_0 g)
      exact And.intro (Or.inl rfl) hK
  · rw [q_bi_f c]
    refine Exists.intro _ ⟨cX9_gos_ct hl0, 1, nI 0, nI 1, nI 1, by decide, rfl, fun g => absurd g (by decide), fun _ => ?_⟩
    refine And.intro (fun _ => ?_) (fun g => absurd nI_0 g)
    exact And.intro (Or.inl rfl) (hX c)
abbrev pX9_squirrelAt : Q_P := fun av M K KX => ∃ (a : Int32), s_wf (M.1 22 0 0) ∧ av = [.inr (.inl (21, 0, 0)), .inl a] ∧ (∀ p, p < s_n (M.1 22 0 0) → a = nI p → ¬ (M.1 22 0 0) (3 + 12 * p) < 0 → K (some (.inl ((M.1 22 0 0) (3 + 12 * p)))) (q_si M (21, 0, 0) 3 (nI 0))) ∧ (¬ s_lp1 (M.1 22 0 0) a → K (some (.inl (nI 0))) (q_si M (21, 0, 0) 3 (nI 1))) ∧ (∀ p, p < s_n (M.1 22 0 0) → a = nI p → (M.1 22 0 0) (3 + 12 * p) < 0 → K (some (.inl (nI 0))) (q_si M (21, 0, 0) 3 (nI 2)))
theorem cX9_squirrelAt_ct {l : Launch} {b : Bool} (hl0 : l.stackTraces = false) : q_Ct l b 218 pX9_squirrelAt := by
  refine q_meth (by decide +kernel) hl0 TX9_squirrelAt kX9_squirrelAt ?_
  intro av M K KX hwf
  rintro ⟨a, w, rfl, hK, hX, hX2⟩
  refine ⟨Nat.le_of_ble_eq_true rfl, fun Z hz hw => ?_⟩
  obtain ⟨w0, wn⟩ := w.1
  apply hz [] 100
  refine Exists.intro _ ⟨cX9_isLink_ct hl0, a, rfl, ?_⟩
  by_cases c : s_lp1 (M.1 22 0 0) a
  · rw [q_bi_t c]
    obtain ⟨p, hp, e⟩ := s_lp1_e w c
    subst e
    have hK := hK p hp rfl
    have hX2 := hX2 p hp rfl
    refine And.intro (fun g => absurd g q_n1) (fun _ => ?_)
    refine Exists.intro _ ⟨cX9_isFree_ct hl0, p, by omega, rfl, ?_⟩
    by_cases g : (M.1 22 0 0) (3 + 12 * p) < 0
    · rw [q_bi_t g]
      refine And.intro (fun g => absurd g q_n1) (fun _ => ?_)
      refine Exists.intro _ ⟨cX9_gos_ct hl0, 2, nI 1, nI 0, nI 1, by decide, rfl, fun g => absurd g (by decide), fun _ => ?_⟩
      refine And.intro (fun _ => ?_) (fun g => absurd nI_0 g)
      exact hX2 g
    · rw [q_bi_f g]
      refine And.intro (fun _ => ?_) (fun g => absurd nI_0 g)
      have hK := hK g
      refine Exists.intro _ ⟨cX9_gos_ct hl0, 0, nI 1, nI 1, nI 1, by decide, rfl, fun _ => ?_, fun g => absurd rfl g⟩
      refine And.intro (fun g => absurd g q_n1) (fun _ => ?_)
      refine Exists.intro _ ⟨cX9_link_ct hl0, p, rfl, ?_⟩
      refine Exists.intro (3 + 12 * p) ⟨(nI_add _ 2).trans (congrArg nI (by omega)), by omega, ?_⟩
      exact hK
  · rw [q_bi_f c]
    refine And.intro (fun _ => ?_) (fun g => absurd nI_0 g)
    refine Exists.intro _ ⟨cX9_gos_ct hl0, 1, nI 0, nI 0, nI 1, by decide, rfl, fun g => absurd g (by decide), fun _ => ?_⟩
    refine And.intro (fun _ => ?_) (fun g => absurd nI_0 g)
    exact hX c
abbrev pX9_turn : Q_P := fun av M K KX => ∃ p : Nat, s_wf (M.1 22 0 0) ∧ p < s_n (M.1 22 0 0) ∧ av = [.inr (.inl (21, 0, 0)), .inl (nI p)] ∧ K (some (.inl (nI (s_tn (M.1 22 0 0) p (s_n (M.1 22 0 0)))))) M
theorem cX9_turn_ct {l : Launch} {b : Bool} (hl0 : l.stackTraces = false) : q_Ct l b 220 pX9_turn := by
  refine q_meth (by decide +kernel) hl0 TX9_turn kX9_turn ?_
  intro av M K KX hwf
  rintro ⟨p, w, hp, rfl, hK⟩
  refine ⟨Nat.le_of_ble_eq_true rfl, fun Z hz hw => ?_⟩
  obtain ⟨w0, wn⟩ := w.1
  have add : ∀ (k : Nat) (v : Int32) (i : Nat) (u : Int32), i ≤ 1 → v = nI i → s_tn (M.1 22 0 0) p (k + 1) = s_tn (M.1 22 0 0) p k + i → Z 0 4 [(3, .inl (nI (k + 1))), (2, .inl (nI (s_tn (M.1 22 0 0) p (k + 1)))), (0, .inr (.inl (21, 0, 0))), (1, .inl (nI p))] [] M → Z 0 87 [(4, .inl u), (3, .inl (nI k)), (2, .inl (nI (s_tn (M.1 22 0 0) p k))), (0, .inr (.inl (21, 0, 0))), (1, .inl (nI p))] [.inl v, .inl (nI (s_tn (M.1 22 0 0) p k))] M := by
    intro k v i u hi hv e h
    rw [e, ← nI_add k 1, ← nI_add (s_tn (M.1 22 0 0) p k) i] at h
    apply hz [4] 60
    rw [hv]
    refine hw _ _ _ _ _ _ h (fun q hq => ?_)
    simp only [List.mem_cons] at hq
    rcases hq with rfl | rfl | rfl | rfl | hq
    · exact List.mem_cons_self
    · exact List.mem_cons_of_mem _ List.mem_cons_self
    · exact List.mem_cons_of_mem _ (List.mem_cons_of_mem _ (List.mem_cons_of_mem _ List.mem_cons_self))
    · exact List.mem_cons_of_mem _ (List.mem_cons_of_mem _ (List.mem_cons_of_mem _ (List.mem_cons_of_mem _ List.mem_cons_self)))
    · exact absurd hq (List.not_mem_nil)
  have loop : ∀ (d k : Nat), k + d = s_n (M.1 22 0 0) → ∀ ls, Z 0 4 ((3, .inl (nI k)) :: (2, .inl (nI (s_tn (M.1 22 0 0) p k))) :: (0, .inr (.inl (21, 0, 0))) :: (1, .inl (nI p)) :: ls) [] M := by
    intro d
    induction d with
    | zero =>
      intro k hk ls
      obtain rfl : k = s_n (M.1 22 0 0) := by omega
      refine hw [(3, .inl (nI (s_n (M.1 22 0 0)))), (2, .inl (nI (s_tn (M.1 22 0 0) p (s_n (M.1 22 0 0))))), (0, .inr (.inl (21, 0, 0)))] _ _ _ _ _ ?_ (fun q hq => ?_)
      · apply hz [4] 60
        refine Exists.intro 0 ⟨rfl, by decide, ?_⟩
        refine And.intro (fun _ => hK) (fun g => absurd (show (M.1 22 0 0) 0 ≤ nI (s_n (M.1 22 0 0)) by rw [w0]; exact nI_le (by omega) (by omega)) g)
      · simp only [List.mem_cons] at hq
        rcases hq with rfl | rfl | rfl | hq
        · exact List.mem_cons_self
        · exact List.mem_cons_of_mem _ List.mem_cons_self
        · exact List.mem_cons_of_mem _ (List.mem_cons_of_mem _ List.mem_cons_self)
        · exact absurd hq (List.not_mem_nil)
    | succ d ih =>
      intro k hk ls
      have h := ih (k + 1) (by omega) []
      have es : s_tn (M.1 22 0 0) p (k + 1) = s_tn (M.1 22 0 0) p k + (if (M.1 22 0 0) (3 + 12 * k) < 0 ∧ k ≠ p ∧ ((M.1 22 0 0) 213 = nI 1 ↔ (M.1 22 0 0) (6 + 12 * p) < (M.1 22 0 0) (6 + 12 * k)) then 1 else 0) := rfl
      refine hw [(3, .inl (nI k)), (2, .inl (nI (s_tn (M.1 22 0 0) p k))), (0, .inr (.inl (21, 0, 0))), (1, .inl (nI p))] _ _ _ _ _ ?_ (fun q hq => ?_)
      · have mid : ∀ (u : Int32), u = q_bi ((M.1 22 0 0) (6 + 12 * p) < (M.1 22 0 0) (6 + 12 * k)) → Z 0 46 [(4, .inl u), (3, .inl (nI k)), (2, .inl (nI (s_tn (M.1 22 0 0) p k))), (0, .inr (.inl (21, 0, 0))), (1, .inl (nI p))] [] M := by
          intro u hu
          have no : ¬ ((M.1 22 0 0) (3 + 12 * k) < 0 ∧ k ≠ p ∧ ((M.1 22 0 0) 213 = nI 1 ↔ (M.1 22 0 0) (6 + 12 * p) < (M.1 22 0 0) (6 + 12 * k))) → Z 0 87 [(4, .inl u), (3, .inl (nI k)), (2, .inl (nI (s_tn (M.1 22 0 0) p k))), (0, .inr (.inl (21, 0, 0))), (1, .inl (nI p))] [.inl (nI 0), .inl (nI (s_tn (M.1 22 0 0) p k))] M := by
            intro g
            rw [if_neg g] at es
            exact add k (nI 0) 0 u (by decide) rfl es h
          apply hz [87] 60
          refine Exists.intro _ ⟨cX9_isFree_ct hl0, k, by omega, rfl, ?_⟩
          by_cases g : (M.1 22 0 0) (3 + 12 * k) < 0
          · rw [q_bi_t g]
            refine And.intro (fun g => absurd g q_n1) (fun _ => ?_)
            refine And.intro (fun (g2 : nI k = nI p) => no (fun g3 => g3.2.1 ((nI_eq (by omega) (by omega)).mp g2))) (fun (g2 : ¬ nI k = nI p) => ?_)
            have g2 : k ≠ p := fun e => g2 (congrArg nI e)
            refine Exists.intro 213 ⟨rfl, by decide, ?_⟩
            have cmp : ∀ v : Int32, v = q_bi ((M.1 22 0 0) 213 = nI 1) → (u = v ↔ ((M.1 22 0 0) 213 = nI 1 ↔ (M.1 22 0 0) (6 + 12 * p) < (M.1 22 0 0) (6 + 12 * k))) := by
              intro v hv
              rw [hu, hv, q_bi_eq]
              exact ⟨fun e => e.symm, fun e => e.symm⟩
            have yes : ((M.1 22 0 0) 213 = nI 1 ↔ (M.1 22 0 0) (6 + 12 * p) < (M.1 22 0 0) (6 + 12 * k)) → Z 0 87 [(4, .inl u), (3, .inl (nI k)), (2, .inl (nI (s_tn (M.1 22 0 0) p k))), (0, .inr (.inl (21, 0, 0))), (1, .inl (nI p))] [.inl (nI 1), .inl (nI (s_tn (M.1 22 0 0) p k))] M := by
              intro e
              rw [if_pos ⟨g, g2, e⟩] at es
              exact add k (nI 1) 1 u (by decide) rfl es h
            refine And.intro (fun (g3 : (M.1 22 0 0) 213 = nI 1) => ?_) (fun (g3 : ¬ (M.1 22 0 0) 213 = nI 1) => ?_)
            · have cm := cmp (nI 1) (q_bi_t g3).symm
              exact And.intro (fun (g4 : u = nI 1) => yes (cm.mp g4)) (fun (g4 : ¬ u = nI 1) => no (fun g5 => g4 (cm.mpr g5.2.2)))
            · have cm := cmp (nI 0) (q_bi_f g3).symm
              exact And.intro (fun (g4 : u = nI 0) => yes (cm.mp g4)) (fun (g4 : ¬ u = nI 0) => no (fun g5 => g4 (cm.mpr g5.2.2)))
          · rw [q_bi_f g]
            refine And.intro (fun _ => ?_) (fun g => absurd nI_0 g)
            exact no (fun g2 => g g2.1)
        apply hz [4, 46] 60
        refine Exists.intro 0 ⟨rfl, by decide, ?_⟩
        refine And.intro (fun (g : (M.1 22 0 0) 0 ≤ nI k) => ?_) (fun _ => ?_)
        · rw [w0, nI_leI (by omega) (by omega)] at g
          omega
        · refine Exists.intro _ ⟨cX9_link_ct hl0, k, rfl, ?_⟩
          refine Exists.intro (6 + 12 * k) ⟨(nI_add _ 5).trans (congrArg nI (by omega)), by omega, ?_⟩
          refine Exists.intro _ ⟨cX9_link_ct hl0, p, rfl, ?_⟩
          refine Exists.intro (6 + 12 * p) ⟨(nI_add _ 5).trans (congrArg nI (by omega)), by omega, ?_⟩
          refine And.intro (fun (g : (M.1 22 0 0) (6 + 12 * k) ≤ (M.1 22 0 0) (6 + 12 * p)) => ?_) (fun (g : ¬ (M.1 22 0 0) (6 + 12 * k) ≤ (M.1 22 0 0) (6 + 12 * p)) => ?_)
          · exact mid (nI 0) (q_bi_f (Int32.not_lt.mpr g)).symm
          · exact mid (nI 1) (q_bi_t (Int32.not_le.mp g)).symm
      · simp only [List.mem_cons] at hq
        rcases hq with rfl | rfl | rfl | rfl | hq
        · exact List.mem_cons_self
        · exact List.mem_cons_of_mem _ List.mem_cons_self
        · exact List.mem_cons_of_mem _ (List.mem_cons_of_mem _ List.mem_cons_self)
        · exact List.mem_cons_of_mem _ (List.mem_cons_of_mem _ (List.mem_cons_of_mem _ List.mem_cons_self))
        · exact absurd hq (List.not_mem_nil)
  apply hz [4] 60
  exact loop (s_n (M.1 22 0 0)) 0 (by omega) []
abbrev pX9_turnOf : Q_P := fun av M K KX => ∃ (a : Int32), s_wf (M.1 22 0 0) ∧ av = [.inr (.inl (21, 0, 0)), .inl a] ∧ (∀ p, p < s_n (M.1 22 0 0) → a = nI p → (M.1 22 0 0) (3 + 12 * p) < 0 → K (some (.inl (nI (s_tn (M.1 22 0 0) p (s_n (M.1 22 0 0)))))) (q_si M (21, 0, 0) 3 (nI 0))) ∧ (¬ s_lp1 (M.1 22 0 0) a → K (some (.inl (nI 0))) (q_si M (21, 0, 0) 3 (nI 1))) ∧ (∀ p, p < s_n (M.1 22 0 0) → a = nI p → ¬ (M.1 22 0 0) (3 + 12 * p) < 0 → K (some (.inl (nI 0))) (q_si M (21, 0, 0) 3 (nI 2)))
theorem cX9_turnOf_ct {l : Launch} {b : Bool} (hl0 : l.stackTraces = false) : q_Ct l b 221 pX9_turnOf := by
  refine q_meth (by decide +kernel) hl0 TX9_turnOf kX9_turnOf ?_
  intro av M K KX hwf
  rintro ⟨a, w, rfl, hK, hX, hX2⟩
  refine ⟨Nat.le_of_ble_eq_true rfl, fun Z hz hw => ?_⟩
  obtain ⟨w0, wn⟩ := w.1
  apply hz [] 100
  refine Exists.intro _ ⟨cX9_isLink_ct hl0, a, rfl, ?_⟩
  by_cases c : s_lp1 (M.1 22 0 0) a
  · rw [q_bi_t c]
    obtain ⟨p, hp, e⟩ := s_lp1_e w c
    subst e
    have hK := hK p hp rfl
    have hX2 := hX2 p hp rfl
    refine And.intro (fun g => absurd g q_n1) (fun _ => ?_)
    refine Exists.intro _ ⟨cX9_isFree_ct hl0, p, by omega, rfl, ?_⟩
    by_cases g : (M.1 22 0 0) (3 + 12 * p) < 0
    · rw [q_bi_t g]
      refine And.intro (fun g => absurd g q_n1) (fun _ => ?_)
      have hK := hK g
      refine Exists.intro _ ⟨cX9_gos_ct hl0, 0, nI 1, nI 1, nI 1, by decide, rfl, fun _ => ?_, fun g => absurd rfl g⟩
      refine And.intro (fun g => absurd g q_n1) (fun _ => ?_)
      exact Exists.intro _ ⟨cX9_turn_ct hl0, p, w, hp, rfl, hK⟩
    · rw [q_bi_f g]
      refine And.intro (fun _ => ?_) (fun g => absurd nI_0 g)
      refine Exists.intro _ ⟨cX9_gos_ct hl0, 2, nI 1, nI 0, nI 1, by decide, rfl, fun g => absurd g (by decide), fun _ => ?_⟩
      refine And.intro (fun _ => ?_) (fun g => absurd nI_0 g)
      exact hX2 g
  · rw [q_bi_f c]
    refine And.intro (fun _ => ?_) (fun g => absurd nI_0 g)
    refine Exists.intro _ ⟨cX9_gos_ct hl0, 1, nI 0, nI 0, nI 1, by decide, rfl, fun g => absurd g (by decide), fun _ => ?_⟩
    refine And.intro (fun _ => ?_) (fun g => absurd nI_0 g)
    exact hX c
abbrev pX9_idle : Q_P := fun av M K KX => s_wf (M.1 22 0 0) ∧ av = [.inr (.inl (21, 0, 0))] ∧ K (some (.inl (nI (s_cf (M.1 22 0 0) (s_n (M.1 22 0 0)))))) (q_si M (21, 0, 0) 3 (nI 0))
theorem cX9_idle_ct {l : Launch} {b : Bool} (hl0 : l.stackTraces = false) : q_Ct l b 225 pX9_idle := by
  refine q_meth (by decide +kernel) hl0 TX9_idle kX9_idle ?_
  intro av M K KX hwf
  rintro ⟨w, rfl, hK⟩
  refine ⟨Nat.le_of_ble_eq_true rfl, fun Z hz hw => ?_⟩
  apply hz [] 60
  exact Exists.intro _ ⟨cX9_countFree_ct hl0, s_n (M.1 22 0 0), w.1.2, w.1.1, rfl, hK⟩
abbrev pX9_leasedByConnections : Q_P := fun av M K KX => s_wf (M.1 22 0 0) ∧ av = [.inr (.inl (21, 0, 0))] ∧ K (some (.inl ((M.1 22 0 0) 0 - nI (s_cf (M.1 22 0 0) (s_n (M.1 22 0 0)))))) (q_si M (21, 0, 0) 3 (nI 0))
theorem cX9_leasedByConnections_ct {l : Launch} {b : Bool} (hl0 : l.stackTraces = false) : q_Ct l b 226 pX9_leasedByConnections := by
  refine q_meth (by decide +kernel) hl0 TX9_leasedByConnections kX9_leasedByConnections ?_
  intro av M K KX hwf
  rintro ⟨w, rfl, hK⟩
  refine ⟨Nat.le_of_ble_eq_true rfl, fun Z hz hw => ?_⟩
  apply hz [] 60
  refine Exists.intro 0 ⟨rfl, by decide, ?_⟩
  exact Exists.intro _ ⟨cX9_countFree_ct hl0, s_n (M.1 22 0 0), w.1.2, w.1.1, rfl, hK⟩
abbrev pX9_countHaving : Q_P := fun av M K KX => s_wf (M.1 22 0 0) ∧ av = [.inr (.inl (21, 0, 0))] ∧ K (some (.inl (nI (s_hv (M.1 22 0 0) 20)))) M
theorem cX9_countHaving_ct {l : Launch} {b : Bool} (hl0 : l.stackTraces = false) : q_Ct l b 227 pX9_countHaving := by
  refine q_meth (by decide +kernel) hl0 TX9_countHaving kX9_countHaving ?_
  intro av M K KX hwf
  rintro ⟨w, rfl, hK⟩
  refine ⟨Nat.le_of_ble_eq_true rfl, fun Z hz hw => ?_⟩
  obtain ⟨w0, wn⟩ := w.1
  have loop : ∀ (d k : Nat), k + d = 20 → Z 0 4 [(2, .inl (nI k)), (1, .inl (nI (s_hv (M.1 22 0 0) k))), (0, .inr (.inl (21, 0, 0)))] [] M := by
    intro d
    induction d with
    | zero =>
      intro k hk
      obtain rfl : k = 20 := by omega
      apply hz [4] 60
      exact And.intro (fun _ => hK) (fun g => absurd (show nI 20 ≤ nI 20 from nI_le (by omega) (by omega)) g)
    | succ d ih =>
      intro k hk
      have h := ih (k + 1) (by omega)
      unfold s_hv at h
      apply hz [4] 60
      refine And.intro (fun (g : nI 20 ≤ nI k) => absurd ((nI_leI (by omega) (by omega)).mp g) (by omega)) (fun _ => ?_)
      refine Exists.intro _ ⟨cX9_linkOf_ct hl0, s_n (M.1 22 0 0), nI k, wn, w0, rfl, ?_⟩
      cases hl : s_lk (M.1 22 0 0) (nI k) (s_n (M.1 22 0 0)) with
      | none =>
        rw [if_pos hl, ← nI_add k 1, ← nI_add (s_hv (M.1 22 0 0) k) 0] at h
        refine And.intro (fun _ => ?_) (fun g => absurd (show s_oi none < 0 by decide) g)
        exact h
      | some p =>
        have hp := (s_lk_lt hl).1
        rw [if_neg (by rw [hl]; exact fun g => (by cases g)), ← nI_add k 1, ← nI_add (s_hv (M.1 22 0 0) k) 1] at h
        refine And.intro (fun g => absurd g (nI_pos (by omega))) (fun _ => ?_)
        exact h
  apply hz [4] 60
  exact loop 20 0 (by omega)
abbrev pX9_leasedBySquirrels : Q_P := fun av M K KX => s_wf (M.1 22 0 0) ∧ av = [.inr (.inl (21, 0, 0))] ∧ K (some (.inl (nI (s_hv (M.1 22 0 0) 20)))) (q_si M (21, 0, 0) 3 (nI 0))
theorem cX9_leasedBySquirrels_ct {l : Launch} {b : Bool} (hl0 : l.stackTraces = false) : q_Ct l b 228 pX9_leasedBySquirrels := by
  refine q_meth (by decide +kernel) hl0 TX9_leasedBySquirrels kX9_leasedBySquirrels ?_
  intro av M K KX hwf
  rintro ⟨w, rfl, hK⟩
  refine ⟨Nat.le_of_ble_eq_true rfl, fun Z hz hw => ?_⟩
  apply hz [] 60
  exact Exists.intro _ ⟨cX9_countHaving_ct hl0, w, rfl, hK⟩
abbrev pX9_nextLent : Q_P := fun av M K KX => s_wf (M.1 22 0 0) ∧ av = [.inr (.inl (21, 0, 0))] ∧ (∀ p, s_nx (M.1 22 0 0) = some p → K (some (.inl (nI p))) (q_si M (21, 0, 0) 3 (nI 0))) ∧ (s_nx (M.1 22 0 0) = none → K (some (.inl (nI 0))) (q_si M (21, 0, 0) 3 (nI 1)))
theorem cX9_nextLent_ct {l : Launch} {b : Bool} (hl0 : l.stackTraces = false) : q_Ct l b 229 pX9_nextLent := by
  refine q_meth (by decide +kernel) hl0 TX9_nextLent kX9_nextLent ?_
  intro av M K KX hwf
  rintro ⟨w, rfl, hK, hX⟩
  refine ⟨Nat.le_of_ble_eq_true rfl, fun Z hz hw => ?_⟩
  obtain ⟨w0, wn⟩ := w.1
  apply hz [] 60
  refine Exists.intro _ ⟨cX9_lentNext_ct hl0, s_n (M.1 22 0 0), wn, w0, rfl, ?_⟩
  cases hl : s_nx (M.1 22 0 0) with
  | none =>
    refine And.intro (fun _ => ?_) (fun g => absurd (show s_oi none < 0 by decide) g)
    refine Exists.intro _ ⟨cX9_gos_ct hl0, 1, nI 0, nI 1, nI 1, by decide, rfl, fun g => absurd g (by decide), fun _ => ?_⟩
    refine And.intro (fun _ => ?_) (fun g => absurd nI_0 g)
    exact hX hl
  | some p =>
    have hp := s_nx_lt hl
    refine And.intro (fun g => absurd g (nI_pos (by omega))) (fun _ => ?_)
    refine Exists.intro _ ⟨cX9_gos_ct hl0, 0, nI 1, nI 1, nI 1, by decide, rfl, fun _ => ?_, fun g => absurd rfl g⟩
    refine And.intro (fun g => absurd g q_n1) (fun _ => ?_)
    refine Exists.intro _ ⟨cX9_lentNext_ct hl0, s_n (M.1 22 0 0), wn, w0, rfl, ?_⟩
    rw [show s_nx ((q_si M (21, 0, 0) 3 (nI 0)).1 22 0 0) = some p from hl]
    exact hK p hl
abbrev pX9_closedFor : Q_P := fun av M K KX => ∃ (a : Int32), av = [.inr (.inl (21, 0, 0)), .inl a] ∧ (∀ k, k < 5 → a = nI k → K (some (.inl ((M.1 22 0 0) (215 + k)))) (q_si M (21, 0, 0) 3 (nI 0))) ∧ (¬ s_rg 0 4 a → K (some (.inl (nI 0))) (q_si M (21, 0, 0) 3 (nI 1)))
theorem cX9_closedFor_ct {l : Launch} {b : Bool} (hl0 : l.stackTraces = false) : q_Ct l b 253 pX9_closedFor := by
  refine q_meth (by decide +kernel) hl0 TX9_closedFor kX9_closedFor ?_
  intro av M K KX hwf
  rintro ⟨a, rfl, hK, hX⟩
  refine ⟨Nat.le_of_ble_eq_true rfl, fun Z hz hw => ?_⟩
  apply hz [] 100
  refine Exists.intro _ ⟨cX9_in_ct hl0, a, nI 0, nI 4, rfl, ?_⟩
  by_cases c : s_rg 0 4 a
  · have cc : nI 0 ≤ a ∧ a ≤ nI 4 := c
    rw [q_bi_t cc]
    refine Exists.intro _ ⟨cX9_gos_ct hl0, 0, nI 1, nI 1, nI 1, by decide, rfl, fun _ => ?_, fun g => absurd rfl g⟩
    refine And.intro (fun g => absurd g q_n1) (fun _ => ?_)
    obtain ⟨k, -, hk, e⟩ := s_rg_n (lo := 0) (hi := 4) (by omega) (by omega) c
    subst e
    refine Exists.intro (215 + k) ⟨nI_add 215 k, by omega, ?_⟩
    exact hK k (by omega) rfl
  · have cc : ¬ (nI 0 ≤ a ∧ a ≤ nI 4) := c
    rw [q_bi_f cc]
    refine Exists.intro _ ⟨cX9_gos_ct hl0, 1, nI 0, nI 1, nI 1, by decide, rfl, fun g => absurd g (by decide), fun _ => ?_⟩
    refine And.intro (fun _ => ?_) (fun g => absurd nI_0 g)
    exact hX c
