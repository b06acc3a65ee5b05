-- TICKS TO SERVE, TICKS TO CLOSE
def s_ts (x : Nat) : Nat → Nat → (Nat → Int32) → Nat
  | 0, _, _ => 0
  | f + 1, m, S => if s_lk (s_tk S).2 (nI x) (s_n (s_tk S).2) = none then (if s_qd (s_tk S).2 (nI x) (s_q (s_tk S).2) = none then 0 else s_ts x f (m + 1) (s_tk S).2) else m + 1
def s_tcl (c0 : Int32) : Nat → Nat → (Nat → Int32) → Nat
  | 0, _, _ => 0
  | f + 1, m, S => if s_cs (s_tk S).2 = c0 then s_tcl c0 f (m + 1) (s_tk S).2 else m + 1
theorem s_ps_0 (X : Nat → Int32) : (s_ps 0 X).2 = X := rfl
theorem s_ps_s (t : Nat) (S : Nat → Int32) : (s_ps (t + 1) S).2 = (s_ps t (s_tk S).2).2 := rfl
theorem s_ps_1 (S : Nat → Int32) : (s_ps 1 S).2 = (s_tk S).2 := (s_ps_s 0 S).trans (s_ps_0 _)
/-- who waits behind a tick has waited one tick more -/
theorem tk_wait {S : Nat → Int32} {x k k' : Nat} (w : s_wf S) (hk : s_qd S (nI x) (s_q S) = some k) (hk' : s_qd (s_tk S).2 (nI x) (s_q (s_tk S).2) = some k') : (s_tk S).2 206 - (s_tk S).2 (148 + 3 * k') = S 206 - S (148 + 3 * k) + nI 1 := by
  have w0 := s_wf_t0 w
  have wq := w.2.1.2
  have ne : ∀ i, i ≠ 206 → s_t0 S i = S i := fun i h => q_upd_ne h
  have e206 : s_t0 S 206 = S 206 + nI 1 := q_upd_eq
  have q0 : s_q (s_t0 S) = s_q S := s_q_e (ne _ (by omega))
  have h := X1_tr (X1_lp (s_q (s_t0 S)) 0 (s_t0 S) w0 (by omega)) (X1_tk w) (Nat.le_refl _)
  obtain ⟨h1, h2⟩ := s_qd_lt hk
  obtain ⟨g1, g2⟩ := s_qd_lt hk'
  obtain ⟨k0, f1, f2, f3⟩ := h.2.2.1 k' g1
  rw [q0] at f1
  rw [ne _ (by omega)] at f2 f3
  have ek : k0 = k := by
    refine Classical.not_not.mp (fun hn => ?_)
    exact w.2.2.2.2.2.2.2.2.1 k0 k f1 h1 hn (by rw [h2, ← f2, g2])
  rw [h.1.2.1, f3, e206, ek, q_sub_1]
/-- both: linked and waiting isn't -/
theorem s_lq_no {S : Nat → Int32} {x p : Nat} (w : s_wf S) (h : s_lk S (nI x) (s_n S) = some p) : s_qd S (nI x) (s_q S) = none := by
  obtain ⟨h1, h2⟩ := s_lk_lt h
  refine s_qd_no (fun k hk g => ?_)
  exact w.2.2.2.2.2.2.2.2.2 p k h1 hk (by rw [h2, g])
abbrev pX8_ticksToServe : Q_P := fun av M K KX => ∃ (S : Nat → Int32) (h : Nat) (G : Nat → Nat → Int32) (kb : Nat → Int32) (T : Nat → Nat → Int32) (n : Nat) (tx : Nat → Nat) (a : Int32), CV M S h G kb T n tx ∧ av = [.inr (.inl (0, 0, 0)), .inl a] ∧ (∀ x p, x < 20 → a = nI x → s_qd S (nI x) (s_q S) = some p → ∀ M', CV M' S h G kb T n tx → q_fx M M' → K (some (.inl (nI (s_ts x 99 0 S)))) M') ∧ (¬ s_rg 0 19 a → KX 1 M) ∧ (s_rg 0 19 a → s_qd S a (s_q S) = none → KX 3 M)
theorem cX8_ticksToServe_ct {l : Launch} {b : Bool} (hl0 : l.stackTraces = false) : q_Ct l b 119 pX8_ticksToServe := by
  refine q_meth (by decide +kernel) hl0 TX8_ticksToServe kX8_ticksToServe ?_
  intro av M K KX hwf
  rintro ⟨S, h, G, kb, T, n, tx, a, hc, rfl, hK, hX, hX3⟩
  refine ⟨Nat.le_of_ble_eq_true rfl, fun Z hz hw => ?_⟩
  apply hz [19] 60
  refine Exists.intro _ ⟨cX8_queuePlaceWanted_ct hl0, S, a, hc.1, rfl, fun x p hx e hl => ?_, hX, hX3⟩
  subst e
  have hK := hK x p hx rfl hl
  have hm1 : nI x ≠ -1 := fun g => q_m1n (by omega) g.symm
  have loop : ∀ (f m : Nat) (S1 : Nat → Int32) (M1 : Q_M), m + f = 99 → RC 1 M1 S1 → q_sm 1 M M1 → s_ts x f m S1 = s_ts x 99 0 S → Z 2 19 [(2, .inl (nI (m + 1))), (0, .inr (.inl (0, 0, 0))), (1, .inl (nI x))] [] M1 := by
    intro f
    induction f with
    | zero =>
      intro m S1 M1 hm hR hsm he
      obtain rfl : m = 99 := by omega
      have he : 0 = s_ts x 99 0 S := he
      have hh := hK M1 (CV_trial hc hR hsm) (q_fx_sm hsm)
      rw [← he] at hh
      apply hz [19] 60
      exact And.intro (fun _ => hh) (fun g => absurd (show nI 99 < nI 100 from nI_lt (by omega) (by omega)) g)
    | succ f ih =>
      intro m S1 M1 hm hR hsm he
      have wn := hR.1.1.2
      apply hz [19] 100
      refine And.intro (fun (g : nI 99 < nI (m + 1)) => absurd ((nI_ltI (by omega) (by omega)).mp g) (by omega)) (fun _ => ?_)
      refine Exists.intro _ ⟨cX7_passTicks_ct hl0, 1, 1, S1, hR, by omega, rfl, fun M2 h1 h2 => ?_⟩
      rw [s_ps_1] at h1
      have hs2 := q_sm_tr hsm h2
      have he : (if s_lk (s_tk S1).2 (nI x) (s_n (s_tk S1).2) = none then (if s_qd (s_tk S1).2 (nI x) (s_q (s_tk S1).2) = none then 0 else s_ts x f (m + 1) (s_tk S1).2) else m + 1) = s_ts x 99 0 S := he
      refine Exists.intro _ ⟨cX7_placeWith_ct hl0, 1, (s_tk S1).2, nI x, h1, hm1, rfl, ?_⟩
      cases hl2 : s_lk (s_tk S1).2 (nI x) (s_n (s_tk S1).2) with
      | some p2 =>
        rw [if_neg (by rw [hl2]; exact fun g => (by cases g))] at he
        have hh := hK M2 (CV_trial hc h1 hs2) (q_fx_sm hs2)
        rw [← he] at hh
        exact And.intro (fun g => absurd (Eq.symm g) (q_m1n (by have := (s_lk_lt hl2).1; have := h1.1.1.2; omega))) (fun _ => hh)
      | none =>
        rw [if_pos hl2] at he
        refine And.intro (fun _ => ?_) (fun g => absurd rfl g)
        refine Exists.intro _ ⟨cX5_placeIn_ct hl0, 1, (s_tk S1).2, nI x, h1, rfl, ?_⟩
        cases hq2 : s_qd (s_tk S1).2 (nI x) (s_q (s_tk S1).2) with
        | none =>
          rw [if_pos hq2] at he
          have hh := hK M2 (CV_trial hc h1 hs2) (q_fx_sm hs2)
          rw [← he] at hh
          exact And.intro (fun _ => hh) (fun g => absurd rfl g)
        | some p2 =>
          rw [if_neg (by rw [hq2]; exact fun g => (by cases g))] at he
          have hh := ih (m + 1) (s_tk S1).2 M2 (by omega) h1 hs2 he
          rw [← nI_add (m + 1) 1] at hh
          exact And.intro (fun g => absurd (Eq.symm g) (q_m1n (by have := (s_qd_lt hq2).1; have := h1.1.2.1.2; omega))) (fun _ => hh)
  refine Exists.intro _ ⟨cX7_copyFrom_ct hl0, 1, 0, S, by omega, hc.1, hc.2.1 1 (by omega), rfl, fun M1 h1 h2 => ?_⟩
  exact loop 99 0 S M1 (by omega) h1 h2 rfl
abbrev pX8_ticksToClose : Q_P := fun av M K KX => ∃ (S : Nat → Int32) (h : Nat) (G : Nat → Nat → Int32) (kb : Nat → Int32) (T : Nat → Nat → Int32) (n : Nat) (tx : Nat → Nat), CV M S h G kb T n tx ∧ av = [.inr (.inl (0, 0, 0))] ∧ (∀ M', CV M' S h G kb T n tx → q_fx M M' → K (some (.inl (nI (s_tcl (s_cs S) 999 0 S)))) M')
theorem cX8_ticksToClose_ct {l : Launch} {b : Bool} (hl0 : l.stackTraces = false) : q_Ct l b 120 pX8_ticksToClose := by
  refine q_meth (by decide +kernel) hl0 TX8_ticksToClose kX8_ticksToClose ?_
  intro av M K KX hwf
  rintro ⟨S, h, G, kb, T, n, tx, hc, rfl, hK⟩
  refine ⟨Nat.le_of_ble_eq_true rfl, fun Z hz hw => ?_⟩
  apply hz [24] 60
  have loop : ∀ (f m : Nat) (S1 : Nat → Int32) (M1 : Q_M), m + f = 999 → RC 1 M1 S1 → q_sm 1 M M1 → s_tcl (s_cs S) f m S1 = s_tcl (s_cs S) 999 0 S → Z 0 24 [(2, .inl (nI (m + 1))), (1, .inl (s_cs S)), (0, .inr (.inl (0, 0, 0)))] [] M1 := by
    intro f
    induction f with
    | zero =>
      intro m S1 M1 hm hR hsm he
      obtain rfl : m = 999 := by omega
      have he : 0 = s_tcl (s_cs S) 999 0 S := he
      have hh := hK M1 (CV_trial hc hR hsm) (q_fx_sm hsm)
      rw [← he] at hh
      apply hz [24] 60
      exact And.intro (fun _ => hh) (fun g => absurd (show nI 999 < nI 1000 from nI_lt (by omega) (by omega)) g)
    | succ f ih =>
      intro m S1 M1 hm hR hsm he
      apply hz [24] 100
      refine And.intro (fun (g : nI 999 < nI (m + 1)) => absurd ((nI_ltI (by omega) (by omega)).mp g) (by omega)) (fun _ => ?_)
      refine Exists.intro _ ⟨cX7_passTicks_ct hl0, 1, 1, S1, hR, by omega, rfl, fun M2 h1 h2 => ?_⟩
      rw [s_ps_1] at h1
      have hs2 := q_sm_tr hsm h2
      have he : (if s_cs (s_tk S1).2 = s_cs S then s_tcl (s_cs S) f (m + 1) (s_tk S1).2 else m + 1) = s_tcl (s_cs S) 999 0 S := he
      refine Exists.intro _ ⟨cX0_closedInAll_ct hl0, 1, (s_tk S1).2, h1, rfl, ?_⟩
      refine And.intro (fun (g : s_cs (s_tk S1).2 = s_cs S) => ?_) (fun (g : ¬ s_cs (s_tk S1).2 = s_cs S) => ?_)
      · rw [if_pos g] at he
        have hh := ih (m + 1) (s_tk S1).2 M2 (by omega) h1 hs2 he
        rw [← nI_add (m + 1) 1] at hh
        exact hh
      · rw [if_neg g] at he
        have hh := hK M2 (CV_trial hc h1 hs2) (q_fx_sm hs2)
        rw [← he] at hh
        exact hh
  refine Exists.intro _ ⟨cX7_copyFrom_ct hl0, 1, 0, S, by omega, hc.1, hc.2.1 1 (by omega), rfl, fun M1 h1 h2 => ?_⟩
  refine Exists.intro _ ⟨cX0_closedInAll_ct hl0, 1, S, h1, rfl, ?_⟩
  exact loop 999 0 S M1 (by omega) h1 h2 rfl
/-- back from the slot for trying -/
theorem s_bk {S T : Nat → Int32} (h : ∀ i, 227 ≤ i → T i = s_cp S 0 9 i) : ∀ i, i < 2043 → s_cp T 9 0 i = S i := by
  intro i hi
  unfold s_cp
  by_cases c : 227 * 0 ≤ i ∧ i < 227 * 0 + 227
  · rw [if_pos c, h _ (by omega)]
    unfold s_cp
    rw [if_pos (by omega)]
    exact congrArg S (by omega)
  · rw [if_neg c, h _ (by omega)]
    unfold s_cp
    rw [if_neg (by omega)]
abbrev pX9_toServe : Q_P := fun av M K KX => ∃ (x k B : Nat), s_wf (M.1 22 0 0) ∧ XV (M.1 22 0 0) B ∧ x < 20 ∧ s_qd (M.1 22 0 0) (nI x) (s_q (M.1 22 0 0)) = some k ∧ av = [.inr (.inl (21, 0, 0)), .inl (nI x)] ∧ (∀ S', (∀ i, i < 2043 → S' i = (M.1 22 0 0) i) → K (some (.inl (nI (s_ts x 99 0 (s_cp (M.1 22 0 0) 0 9))))) (q_sa M (22, 0, 0) S'))
theorem cX9_toServe_ct {l : Launch} {b : Bool} (hl0 : l.stackTraces = false) : q_Ct l b 246 pX9_toServe := by
  refine q_meth (by decide +kernel) hl0 TX9_toServe kX9_toServe ?_
  intro av M K KX hwf
  rintro ⟨x, k, B, w, v, hx, hk, rfl, hK⟩
  refine ⟨Nat.le_of_ble_eq_true rfl, fun Z hz hw => ?_⟩
  have lo : ∀ i, i < 227 → s_cp (M.1 22 0 0) 0 9 i = (M.1 22 0 0) i := fun i hi => s_cp_lo (by omega) hi
  have wq := w.2.1.2
  have wn := w.1.2
  have w1 := s_wf_lo w lo
  have v1 := XV_lo lo wq v
  have out : ∀ (m : Nat) (T : Nat → Int32), s_wf T → (∀ i, 227 ≤ i → T i = s_cp (M.1 22 0 0) 0 9 i) → s_qd T (nI x) (s_q T) = none → (if s_lk T (nI x) (s_n T) = none then 0 else m) = s_ts x 99 0 (s_cp (M.1 22 0 0) 0 9) → Z 0 9 [(2, .inl (nI m)), (0, .inr (.inl (21, 0, 0))), (1, .inl (nI x))] [] (q_sa M (22, 0, 0) T) := by
    intro m T wT hT hq he
    have hK := hK _ (s_bk hT)
    rw [← he] at hK
    have wn := wT.1
    have wq := wT.2.1
    apply hz [9] 100
    refine Exists.intro _ ⟨cX9_queued_ct hl0, s_q T, nI x, wq.2, wq.1, rfl, ?_⟩
    rw [q_r22, hq]
    refine And.intro (fun _ => ?_) (fun g => absurd (show s_oi none < 0 by decide) g)
    refine Exists.intro _ ⟨cX9_linkOf_ct hl0, s_n T, nI x, wn.2, wn.1, rfl, ?_⟩
    rw [q_r22]
    cases hl : s_lk T (nI x) (s_n T) with
    | none =>
      rw [if_pos hl] at hK
      refine And.intro (fun _ => ?_) (fun g => absurd (show s_oi none < 0 by decide) g)
      refine Exists.intro _ ⟨cX9_copies_ct hl0, 9, 0, by omega, by omega, rfl, ?_⟩
      rw [q_r22, q_sa_sa]
      exact And.intro (fun _ => hK) (fun g => absurd nI_0 g)
    | some p =>
      have hp := (s_lk_lt hl).1
      rw [if_neg (by rw [hl]; exact fun g => (by cases g))] at hK
      refine And.intro (fun g => absurd g (nI_pos (by omega))) (fun _ => ?_)
      refine Exists.intro _ ⟨cX9_copies_ct hl0, 9, 0, by omega, by omega, rfl, ?_⟩
      rw [q_r22, q_sa_sa]
      exact And.intro (fun g => absurd g q_n1) (fun _ => hK)
  have loop : ∀ (f m k u B : Nat) (T : Nat → Int32), m + f = 99 → s_wf T → XV T B → (∀ i, 227 ≤ i → T i = s_cp (M.1 22 0 0) 0 9 i) → s_qd T (nI x) (s_q T) = some k → T 206 - T (148 + 3 * k) = nI u → m ≤ u → u ≤ 98 → s_ts x f m T = s_ts x 99 0 (s_cp (M.1 22 0 0) 0 9) → Z 0 9 [(2, .inl (nI m)), (0, .inr (.inl (21, 0, 0))), (1, .inl (nI x))] [] (q_sa M (22, 0, 0) T) := by
    intro f
    induction f with
    | zero =>
      intro m k u B T hm wT vT hT hq hu hmu hu98 he
      omega
    | succ f ih =>
      intro m k u B T hm wT vT hT hq hu hmu hu98 he
      obtain ⟨hk1, -⟩ := s_qd_lt hq
      have wq := wT.2.1
      have he : (if s_lk (s_tk T).2 (nI x) (s_n (s_tk T).2) = none then (if s_qd (s_tk T).2 (nI x) (s_q (s_tk T).2) = none then 0 else s_ts x f (m + 1) (s_tk T).2) else m + 1) = s_ts x 99 0 (s_cp (M.1 22 0 0) 0 9) := he
      have w2 := s_wf_tk wT
      have v2 := XV_tk wT vT
      have l2 := loc_tk wT
      apply hz [9] 100
      refine Exists.intro _ ⟨cX9_queued_ct hl0, s_q T, nI x, wq.2, wq.1, rfl, ?_⟩
      rw [q_r22, hq]
      refine And.intro (fun g => absurd g (nI_pos (by omega))) (fun _ => ?_)
      refine Exists.intro _ ⟨cX9_ticks_ct hl0, wT, rfl, ?_⟩
      rw [q_r22, q_sa_sa]
      have fin : Z 0 9 [(2, .inl (nI (m + 1))), (0, .inr (.inl (21, 0, 0))), (1, .inl (nI x))] [] (q_sa M (22, 0, 0) (s_tk T).2) := by
        cases hq2 : s_qd (s_tk T).2 (nI x) (s_q (s_tk T).2) with
        | none =>
          refine out (m + 1) (s_tk T).2 w2.1 (fun i hi => (l2 i hi).trans (hT i hi)) hq2 ?_
          rw [if_pos hq2] at he
          exact he
        | some k2 =>
          have hl2 : s_lk (s_tk T).2 (nI x) (s_n (s_tk T).2) = none := by
            cases hl : s_lk (s_tk T).2 (nI x) (s_n (s_tk T).2) with
            | none => rfl
            | some p =>
              have := s_lq_no w2.1 hl
              rw [hq2] at this
              cases this
          rw [if_pos hl2, if_neg (by rw [hq2]; exact fun g => (by cases g))] at he
          have ew := tk_wait wT hq hq2
          rw [hu, nI_add] at ew
          obtain ⟨u2, hu2, eu2⟩ := v2.2.1 k2 (s_qd_lt hq2).1
          have eu : u + 1 = u2 := (nI_eq (by omega) (by omega)).mp (ew.symm.trans eu2)
          exact ih (m + 1) k2 (u + 1) (B + 32) (s_tk T).2 (by omega) w2.1 v2 (fun i hi => (l2 i hi).trans (hT i hi)) hq2 ew (by omega) (by omega) he
      rw [← nI_add m 1] at fin
      exact fin
  apply hz [9] 60
  refine Exists.intro _ ⟨cX9_copies_ct hl0, 0, 9, by omega, by omega, rfl, ?_⟩
  have hq1 : s_qd (s_cp (M.1 22 0 0) 0 9) (nI x) (s_q (s_cp (M.1 22 0 0) 0 9)) = some k := by
    rw [s_q_lo lo, s_qd_lo lo wq]
    exact hk
  obtain ⟨u, hu, eu⟩ := v1.2.1 k (s_qd_lt hq1).1
  exact loop 99 0 k u B (s_cp (M.1 22 0 0) 0 9) (by omega) w1 v1 (fun _ _ => rfl) hq1 eu (Nat.zero_le _) hu rfl
abbrev pX9_ticksToServe : Q_P := fun av M K KX => ∃ (a : Int32) (B : Nat), s_wf (M.1 22 0 0) ∧ XV (M.1 22 0 0) B ∧ av = [.inr (.inl (21, 0, 0)), .inl a] ∧ (∀ x p, x < 20 → a = nI x → s_qd (M.1 22 0 0) (nI x) (s_q (M.1 22 0 0)) = some p → ∀ S', (∀ i, i < 2043 → S' i = (M.1 22 0 0) i) → K (some (.inl (nI (s_ts x 99 0 (s_cp (M.1 22 0 0) 0 9))))) (q_sa (q_si M (21, 0, 0) 3 (nI 0)) (22, 0, 0) S')) ∧ (¬ s_rg 0 19 a → K (some (.inl (nI 0))) (q_si M (21, 0, 0) 3 (nI 1))) ∧ (s_rg 0 19 a → s_qd (M.1 22 0 0) a (s_q (M.1 22 0 0)) = none → K (some (.inl (nI 0))) (q_si M (21, 0, 0) 3 (nI 2)))
theorem cX9_ticksToServe_ct {l : Launch} {b : Bool} (hl0 : l.stackTraces = false) : q_Ct l b 247 pX9_ticksToServe := by
  refine q_meth (by decide +kernel) hl0 TX9_ticksToServe kX9_ticksToServe ?_
  intro av M K KX hwf
  rintro ⟨a, B, w, v, rfl, hK, hX, hX2⟩
  refine ⟨Nat.le_of_ble_eq_true rfl, fun Z hz hw => ?_⟩
  obtain ⟨⟨w0, wn⟩, ⟨wq, wq2⟩, -⟩ := id w
  apply hz [] 100
  refine Exists.intro _ ⟨cX9_isSquirrel_ct hl0, a, rfl, ?_⟩
  by_cases c : s_rg 0 19 a
  · rw [q_bi_t c]
    refine And.intro (fun g => absurd g q_n1) (fun _ => ?_)
    have hX2 := hX2 c
    obtain ⟨x, -, hx, e⟩ := s_rg_n (by omega) (by omega) c
    subst e
    refine Exists.intro _ ⟨cX9_queued_ct hl0, s_q (M.1 22 0 0), nI x, wq2, wq, rfl, ?_⟩
    cases hl : s_qd (M.1 22 0 0) (nI x) (s_q (M.1 22 0 0)) with
    | none =>
      refine And.intro (fun _ => ?_) (fun g => absurd (show s_oi none < 0 by decide) g)
      refine Exists.intro _ ⟨cX9_gos_ct hl0, 2, nI 1, nI 0, nI 1, by decide, rfl, fun g => absurd g (by decide), fun _ => ?_⟩
      refine And.intro (fun _ => ?_) (fun g => absurd nI_0 g)
      exact hX2 hl
    | some p =>
      have hp := (s_qd_lt hl).1
      have hK := hK x p (by omega) rfl hl
      refine And.intro (fun g => absurd g (nI_pos (by omega))) (fun _ => ?_)
      refine Exists.intro _ ⟨cX9_gos_ct hl0, 0, nI 1, nI 1, nI 1, by decide, rfl, fun _ => ?_, fun g => absurd rfl g⟩
      refine And.intro (fun g => absurd g q_n1) (fun _ => ?_)
      exact Exists.intro _ ⟨cX9_toServe_ct hl0, x, p, B, w, v, by omega, hl, rfl, hK⟩
  · rw [q_bi_f c]
    refine And.intro (fun _ => ?_) (fun g => absurd nI_0 g)
    refine Exists.intro _ ⟨cX9_gos_ct hl0, 1, nI 0, nI 0, nI 1, by decide, rfl, fun g => absurd g (by decide), fun _ => ?_⟩
    refine And.intro (fun _ => ?_) (fun g => absurd nI_0 g)
    exact hX c
theorem s_occ {S : Nat → Int32} {B : Nat} (w : s_wf S) (v : XV S B) : S 214 - S 0 = s_cs S := by
  obtain ⟨-, -, ⟨o, c, h1, h2, h3, h4⟩, -⟩ := v
  rw [h1, h2, w.1.1, pk_sub (by omega)]
  exact congrArg nI (by omega)
abbrev pX9_ticksToClose : Q_P := fun av M K KX => ∃ (B : Nat), s_wf (M.1 22 0 0) ∧ XV (M.1 22 0 0) B ∧ B ≤ 2 ^ 30 ∧ av = [.inr (.inl (21, 0, 0))] ∧ (∀ S', (∀ i, i < 2043 → S' i = (M.1 22 0 0) i) → K (some (.inl (nI (s_tcl (s_cs (s_cp (M.1 22 0 0) 0 9)) 999 0 (s_cp (M.1 22 0 0) 0 9))))) (q_sa (q_si M (21, 0, 0) 3 (nI 0)) (22, 0, 0) S'))
theorem cX9_ticksToClose_ct {l : Launch} {b : Bool} (hl0 : l.stackTraces = false) : q_Ct l b 248 pX9_ticksToClose := by
  refine q_meth (by decide +kernel) hl0 TX9_ticksToClose kX9_ticksToClose ?_
  intro av M K KX hwf
  rintro ⟨B, w, v, hB, rfl, hK⟩
  refine ⟨Nat.le_of_ble_eq_true rfl, fun Z hz hw => ?_⟩
  have lo : ∀ i, i < 227 → s_cp (M.1 22 0 0) 0 9 i = (M.1 22 0 0) i := fun i hi => s_cp_lo (by omega) hi
  have wq := w.2.1.2
  have w1 := s_wf_lo w lo
  have v1 := XV_lo lo wq v
  generalize hc0 : s_cs (s_cp (M.1 22 0 0) 0 9) = c0 at hK
  obtain ⟨-, -, ⟨o1, k1, f1, f2, f3, f4⟩, -⟩ := id v1
  have ec0 : c0 = nI k1 := by rw [← hc0, f2]
  have out : ∀ (m : Nat) (T : Nat → Int32) (B' : Nat), s_wf T → XV T B' → B' < 2 ^ 31 → (∀ i, 227 ≤ i → T i = s_cp (M.1 22 0 0) 0 9 i) → (∀ o c, T 214 = nI o → s_cs T = nI c → o = c + s_n T → k1 ≤ c) → (¬ s_cs T = c0 ∨ m = 999) → (if s_cs T = c0 then 0 else m) = s_tcl c0 999 0 (s_cp (M.1 22 0 0) 0 9) → Z 0 67 [(2, .inl (nI m)), (1, .inl c0), (0, .inr (.inl (21, 0, 0)))] [] (q_sa (q_si M (21, 0, 0) 3 (nI 0)) (22, 0, 0) T) := by
    intro m T B' wT vT hB' hT hmono hm he
    have hK := hK _ (s_bk hT)
    rw [← he] at hK
    have eo := s_occ wT vT
    obtain ⟨-, -, ⟨o, c, g1, g2, g3, g4⟩, -⟩ := id vT
    have hc := hmono o c g1 g2 g3
    apply hz [67] 100
    refine Exists.intro 214 ⟨rfl, by decide, ?_⟩
    refine Exists.intro 0 ⟨rfl, by decide, ?_⟩
    refine And.intro (fun (g : T 214 - T 0 ≤ c0) => ?_) (fun (g : ¬ T 214 - T 0 ≤ c0) => ?_)
    · rw [eo, g2, ec0, nI_leI (by omega) (by omega)] at g
      rw [if_pos (by rw [g2, ec0, show c = k1 by omega])] at hK
      refine Exists.intro _ ⟨cX9_copies_ct hl0, 9, 0, by omega, by omega, rfl, ?_⟩
      rw [q_r22, q_sa_sa]
      exact And.intro (fun _ => hK) (fun g => absurd nI_0 g)
    · rw [eo] at g
      rw [if_neg (fun e => g (by rw [e]; exact Int32.le_refl _))] at hK
      refine Exists.intro _ ⟨cX9_copies_ct hl0, 9, 0, by omega, by omega, rfl, ?_⟩
      rw [q_r22, q_sa_sa]
      exact And.intro (fun g => absurd g q_n1) (fun _ => hK)
  have stop : ∀ (m : Nat) (T2 : Nat → Int32), ¬ s_cs T2 = c0 → T2 214 - T2 0 = s_cs T2 → Z 0 67 [(2, .inl (nI m)), (1, .inl c0), (0, .inr (.inl (21, 0, 0)))] [] (q_sa (q_si M (21, 0, 0) 3 (nI 0)) (22, 0, 0) T2) → Z 0 30 [(2, .inl (nI m)), (1, .inl c0), (0, .inr (.inl (21, 0, 0)))] [] (q_sa (q_si M (21, 0, 0) 3 (nI 0)) (22, 0, 0) T2) := by
    intro m T2 g eo2 oo
    apply hz [67] 100
    refine Exists.intro 214 ⟨rfl, by decide, ?_⟩
    refine Exists.intro 0 ⟨rfl, by decide, ?_⟩
    exact And.intro (fun (g2 : T2 214 - T2 0 = c0) => absurd (eo2.symm.trans g2) g) (fun _ => oo)
  have loop : ∀ (f m B' : Nat) (T : Nat → Int32), m + f = 999 → s_wf T → XV T B' → B' = B + 32 * m → (∀ i, 227 ≤ i → T i = s_cp (M.1 22 0 0) 0 9 i) → s_cs T = c0 → s_tcl c0 f m T = s_tcl c0 999 0 (s_cp (M.1 22 0 0) 0 9) → Z 0 30 [(2, .inl (nI m)), (1, .inl c0), (0, .inr (.inl (21, 0, 0)))] [] (q_sa (q_si M (21, 0, 0) 3 (nI 0)) (22, 0, 0) T) := by
    intro f
    induction f with
    | zero =>
      intro m B' T hm wT vT hB' hT hcs he
      obtain rfl : m = 999 := by omega
      have eo := s_occ wT vT
      have o999 := out 999 T B' wT vT (by omega) hT (fun o c g1 g2 g3 => by
        rw [hcs, ec0] at g2
        obtain ⟨-, -, ⟨o', c', q1, q2, q3, q4⟩, -⟩ := id vT
        have : nI o = nI o' := by rw [← g1, q1]
        have h2 : nI k1 = nI c' := by rw [← ec0, ← hcs, q2]
        have h3 := (nI_eq (by omega) (by omega)).mp h2
        by_cases cc : c < 2 ^ 31
        · exact Nat.le_of_eq ((nI_eq (by omega) cc).mp g2)
        · omega) (Or.inr rfl) (by rw [if_pos hcs, ← he]; rfl)
      apply hz [30, 67] 100
      refine Exists.intro 214 ⟨rfl, by decide, ?_⟩
      refine Exists.intro 0 ⟨rfl, by decide, ?_⟩
      refine And.intro (fun _ => ?_) (fun g => absurd (show T 214 - T 0 = c0 by rw [eo, hcs]) g)
      exact And.intro (fun _ => o999) (fun g => absurd (show nI 999 ≤ nI 999 from nI_le (by omega) (by omega)) g)
    | succ f ih =>
      intro m B' T hm wT vT hB' hT hcs he
      have eo := s_occ wT vT
      have he : (if s_cs (s_tk T).2 = c0 then s_tcl c0 f (m + 1) (s_tk T).2 else m + 1) = s_tcl c0 999 0 (s_cp (M.1 22 0 0) 0 9) := he
      have w2 := s_wf_tk wT
      have v2 := XV_tk wT vT
      have l2 := loc_tk wT
      have fin : Z 0 30 [(2, .inl (nI (m + 1))), (1, .inl c0), (0, .inr (.inl (21, 0, 0)))] [] (q_sa (q_si M (21, 0, 0) 3 (nI 0)) (22, 0, 0) (s_tk T).2) := by
        by_cases g : s_cs (s_tk T).2 = c0
        · rw [if_pos g] at he
          exact ih (m + 1) (B' + 32) (s_tk T).2 (by omega) w2.1 v2 (by omega) (fun i hi => (l2 i hi).trans (hT i hi)) g he
        · rw [if_neg g] at he
          have w0 := s_wf_t0 wT
          have hx := X1_tr (X1_lp (s_q (s_t0 T)) 0 (s_t0 T) w0 (by omega)) (X1_tk wT) (Nat.le_refl _)
          have ne : ∀ i, i ≠ 206 → s_t0 T i = T i := fun i h => q_upd_ne h
          obtain ⟨-, -, ⟨o', c', q1, q2, q3, q4⟩, -⟩ := id vT
          obtain ⟨o2, c2, p1, p2, p3, p4, p5⟩ := hx.2.2.2 o' c' (by rw [ne _ (by omega), q1]) (by rw [s_cs_e (fun i h1 h2 => ne i (by omega)), q2]) (by rw [s_n_e (ne _ (by omega))]; exact q3)
          have hck : c' = k1 := by
            refine (nI_eq (by omega) (by omega)).mp ?_
            rw [← q2, hcs, ec0]
          have oo := out (m + 1) (s_tk T).2 (B' + 32) w2.1 v2 (by omega) (fun i hi => (l2 i hi).trans (hT i hi)) (fun o c g1 g2 g3 => by
            rw [p2] at g2
            by_cases cc : c < 2 ^ 31
            · have := (nI_eq (by omega) cc).mp g2
              omega
            · omega) (Or.inl g) (by rw [if_neg g, ← he])
          have eo2 := s_occ w2.1 v2
          exact stop (m + 1) _ g eo2 oo
      apply hz [30] 100
      refine Exists.intro 214 ⟨rfl, by decide, ?_⟩
      refine Exists.intro 0 ⟨rfl, by decide, ?_⟩
      refine And.intro (fun _ => ?_) (fun g => absurd (show T 214 - T 0 = c0 by rw [eo, hcs]) g)
      refine And.intro (fun (g : nI 999 ≤ nI m) => absurd ((nI_leI (by omega) (by omega)).mp g) (by omega)) (fun _ => ?_)
      refine Exists.intro _ ⟨cX9_ticks_ct hl0, wT, rfl, ?_⟩
      rw [q_r22, q_sa_sa]
      rw [← nI_add m 1] at fin
      exact fin
  apply hz [30] 100
  refine Exists.intro _ ⟨cX9_copies_ct hl0, 0, 9, by omega, by omega, rfl, ?_⟩
  refine Exists.intro 214 ⟨rfl, by decide, ?_⟩
  refine Exists.intro 0 ⟨rfl, by decide, ?_⟩
  have eo := s_occ w1 v1
  have h := loop 999 0 B (s_cp (M.1 22 0 0) 0 9) (by omega) w1 v1 (by omega) (fun _ _ => rfl) hc0 rfl
  rw [← hc0, ← eo] at h
  exact h
