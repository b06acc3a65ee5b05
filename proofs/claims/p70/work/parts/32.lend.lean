-- LENDING, OPENING, CLOSING: THE CLASS
theorem s_ld_at {S : Nat → Int32} {p : Nat} {x : Int32} (hp : p < 12) : s_ld S p x (3 + 12 * p) = x ∧ s_ld S p x (5 + 12 * p) = S 206 ∧ s_ld S p x (7 + 12 * p) = S (7 + 12 * p) + nI 1 ∧ s_ld S p x 220 = S 220 + nI 1 := by
  unfold s_ld
  refine ⟨?_, ?_, ?_, ?_⟩
  · rw [q_upd_ne (by omega), q_upd_ne (by omega), q_upd_ne (by omega), q_upd_eq]
  · rw [q_upd_ne (by omega), q_upd_ne (by omega), q_upd_eq, q_upd_ne (by omega)]
  · rw [q_upd_ne (by omega), q_upd_eq, q_upd_ne (by omega), q_upd_ne (by omega)]
  · rw [q_upd_eq, q_upd_ne (by omega), q_upd_ne (by omega), q_upd_ne (by omega)]
def d_ld (M : Q_M) (j c : Nat) (x : Int32) : Q_M := q_si (q_si (q_si (q_si M (19, j, c) 3 x) (19, j, c) 4 (M.1 10 j 0 0)) (19, j, c) 6 (M.1 19 j c 6 + nI 1)) (17, j, 0) 2 (M.1 17 j 0 2 + nI 1)
theorem RC0_ld {M : Q_M} {j p : Nat} {x : Int32} {S : Nat → Int32} (h : RC0 j M S) (hp : p < s_n S) (hn : s_n S ≤ 12) (hq : s_q S ≤ 20) : RC0 j (d_ld M j (M.2.1 11 j 0 p) x) (s_ld S p x) := by
  obtain ⟨hst, hcs, hqu, hse, hac⟩ := h
  obtain ⟨f1, f2, f3, f4⟩ := s_ld_at (S := S) (p := p) (x := x) (by omega)
  have ne := fun i h1 h2 h3 h4 => s_ld_ne (S := S) (p := p) (x := x) (i := i) h1 h2 h3 h4
  have r10 : (d_ld M j (M.2.1 11 j 0 p) x).1 10 = M.1 10 := by
    unfold d_ld
    rw [q_i_r (by decide), q_i_r (by decide), q_i_r (by decide), q_i_r (by decide)]
  have r19 : (d_ld M j (M.2.1 11 j 0 p) x).1 19 j = updc (M.1 19 j) (M.2.1 11 j 0 p) (upd (upd (upd (M.1 19 j (M.2.1 11 j 0 p)) 3 x) 4 (M.1 10 j 0 0)) 6 (M.1 19 j (M.2.1 11 j 0 p) 6 + nI 1)) := by
    unfold d_ld
    rw [q_i_r (show 19 ≠ 17 by decide), q_i_j, q_i_e, q_i_j, q_i_e, q_i_j, updc_u, updc_u]
  have r17 : (d_ld M j (M.2.1 11 j 0 p) x).1 17 j 0 = upd (M.1 17 j 0) 2 (M.1 17 j 0 2 + nI 1) := by
    unfold d_ld
    rw [q_i_e, q_i_r (by decide), q_i_r (by decide), q_i_r (by decide)]
  have r2 : (d_ld M j (M.2.1 11 j 0 p) x).2 = M.2 := rfl
  have rr : ∀ r, r ≠ 17 → r ≠ 19 → (d_ld M j (M.2.1 11 j 0 p) x).1 r = M.1 r := by
    intro r h1 h2
    unfold d_ld
    rw [q_i_r h1, q_i_r h2, q_i_r h2, q_i_r h2]
  unfold RC0
  rw [r10, r19, r17, r2, rr 20 (by decide) (by decide), rr 12 (by decide) (by decide), rr 13 (by decide) (by decide), rr 14 (by decide) (by decide), rr 15 (by decide) (by decide), rr 16 (by decide) (by decide), rr 18 (by decide) (by decide)]
  refine ⟨r_st_c hst (ne _ (by omega) (by omega) (by omega) (by omega)) (ne _ (by omega) (by omega) (by omega) (by omega)) (ne _ (by omega) (by omega) (by omega) (by omega)), ?_, r_qu_c hqu hq (fun i h1 h2 => ne i (by omega) (by omega) (by omega) (by omega)), r_se_c hse (fun i h1 h2 => ne i (by omega) (by omega) (by omega) (by omega)), ?_, ?_, ?_⟩
  · have hcn := hcs.2 p hp
    rw [show M.1 20 j = updc (M.1 20 j) (M.2.1 11 j 0 p) (M.1 20 j (M.2.1 11 j 0 p)) from updc_id.symm]
    refine r_cs_set hcs hp hn (ne 0 (by omega) (by omega) (by omega) (by omega)) (fun q h1 h2 i h3 h4 => ne _ (by omega) (by omega) (by omega) (by omega)) ?_
    obtain ⟨⟨a1, a2, a3, a4⟩, ⟨a5, a6, a7, a8⟩, hnu⟩ := hcn
    refine r_cn_mk ?_ ?_ ?_ ?_ ?_ ?_ ?_ ?_ ?_
    · rw [q_upd_ne (by decide), q_upd_ne (by decide), q_upd_ne (by decide), ne _ (by omega) (by omega) (by omega) (by omega)]
      exact a1
    · rw [q_upd_ne (by decide), q_upd_ne (by decide), q_upd_ne (by decide), ne _ (by omega) (by omega) (by omega) (by omega)]
      exact a2
    · rw [q_upd_ne (by decide), q_upd_ne (by decide), q_upd_ne (by decide), ne _ (by omega) (by omega) (by omega) (by omega)]
      exact a3
    · rw [q_upd_ne (by decide), q_upd_ne (by decide), q_upd_eq, f1]
    · rw [q_upd_ne (by decide), q_upd_eq, f2]
      exact hst.1
    · rw [q_upd_ne (by decide), q_upd_ne (by decide), q_upd_ne (by decide), ne _ (by omega) (by omega) (by omega) (by omega)]
      exact a6
    · rw [q_upd_eq, f3, a7]
    · rw [q_upd_ne (by decide), q_upd_ne (by decide), q_upd_ne (by decide), ne _ (by omega) (by omega) (by omega) (by omega)]
      exact a8
    · intro k h1 h2
      unfold s_c at h2 hnu
      rw [ne _ (by omega) (by omega) (by omega) (by omega)] at h2
      rw [ne _ (by omega) (by omega) (by omega) (by omega)]
      exact hnu k h1 h2
  · rw [q_upd_ne (by decide), ne _ (by omega) (by omega) (by omega) (by omega)]
    exact hac.1
  · intro i hi
    rw [ne _ (by omega) (by omega) (by omega) (by omega)]
    exact hac.2.1 i hi
  · intro i hi
    by_cases c : i = 0
    · have e := hac.2.2 0 (by omega)
      rw [c, q_upd_eq, f4, show M.1 17 j 0 2 = S 220 from e]
    · rw [q_upd_ne (by omega), ne _ (by omega) (by omega) (by omega) (by omega)]
      exact hac.2.2 i hi
abbrev pX7_lendTo : Q_P := fun av M K KX => ∃ (j p : Nat) (x : Int32) (S : Nat → Int32), RC0 j M S ∧ p < s_n S ∧ s_n S ≤ 12 ∧ s_q S ≤ 20 ∧ av = [.inr (.inl (10, j, 0)), .inl (nI p), .inl x] ∧ ∀ M', RC0 j M' (s_ld S p x) → q_sm j M M' → K none M'
theorem cX7_lendTo_ct {l : Launch} {b : Bool} (hl0 : l.stackTraces = false) : q_Ct l b 53 pX7_lendTo := by
  refine q_meth (by decide +kernel) hl0 TX7_lendTo kX7_lendTo ?_
  intro av M K KX hwf
  rintro ⟨j, p, x, S, hR, hp, hn, hq, rfl, hK⟩
  refine ⟨Nat.le_of_ble_eq_true rfl, fun Z hz hw => ?_⟩
  apply hz [] 60
  refine Exists.intro p ⟨rfl, by omega, ?_⟩
  have hK := hK (d_ld M j (M.2.1 11 j 0 p) x) (RC0_ld hR hp hn hq) (q_sm_si (q_sm_si (q_sm_si (q_sm_si q_sm_rfl (by decide) (by decide)) (by decide) (by decide)) (by decide) (by decide)) (by decide) (by decide))
  refine q_K hK rfl ?_
  show q_si (q_si (q_si (q_si M (19, j, M.2.1 11 j 0 p) 3 x) (19, j, M.2.1 11 j 0 p) 4 ((q_si M (19, j, M.2.1 11 j 0 p) 3 x).1 10 j 0 0)) (19, j, M.2.1 11 j 0 p) 6 ((q_si (q_si M (19, j, M.2.1 11 j 0 p) 3 x) (19, j, M.2.1 11 j 0 p) 4 ((q_si M (19, j, M.2.1 11 j 0 p) 3 x).1 10 j 0 0)).1 19 j (M.2.1 11 j 0 p) 6 + nI 1)) (17, j, 0) 2 ((q_si (q_si (q_si M (19, j, M.2.1 11 j 0 p) 3 x) (19, j, M.2.1 11 j 0 p) 4 ((q_si M (19, j, M.2.1 11 j 0 p) 3 x).1 10 j 0 0)) (19, j, M.2.1 11 j 0 p) 6 ((q_si (q_si M (19, j, M.2.1 11 j 0 p) 3 x) (19, j, M.2.1 11 j 0 p) 4 ((q_si M (19, j, M.2.1 11 j 0 p) 3 x).1 10 j 0 0)).1 19 j (M.2.1 11 j 0 p) 6 + nI 1)).1 17 j 0 2 + nI 1) = _
  unfold d_ld
  rw [q_i_r (show 10 ≠ 19 by decide), q_i_e, q_i_e, q_upd_ne (by decide), q_upd_ne (by decide), q_i_r (show 17 ≠ 19 by decide), q_i_r (show 17 ≠ 19 by decide), q_i_r (show 17 ≠ 19 by decide)]
def d_op (M : Q_M) (j c : Nat) : Q_M := q_si (q_si (q_si (q_si (q_si (q_si (q_si M (10, j, 0) 1 (M.1 10 j 0 1 + nI 1)) (17, j, 0) 0 (M.1 17 j 0 0 + nI 1)) (19, j, c) 0 (M.1 17 j 0 0 + nI 1)) (19, j, c) 1 (M.1 10 j 0 0)) (19, j, c) 2 (nI 0)) (19, j, c) 6 (nI 0)) (19, j, c) 7 (nI 0)
theorem s_op_at {S : Nat → Int32} (hn : s_n S < 12) : s_op S 0 = S 0 + nI 1 ∧ s_op S 214 = S 214 + nI 1 ∧ s_op S 226 = S 226 + nI 1 ∧ s_op S (1 + 12 * s_n S) = S 214 + nI 1 ∧ s_op S (2 + 12 * s_n S) = S 206 ∧ s_op S (5 + 12 * s_n S) = S 206 ∧ s_op S (6 + 12 * s_n S) = S 226 + nI 1 := by
  unfold s_op
  dsimp only
  generalize s_n S = n at hn ⊢
  refine ⟨?_, ?_, ?_, ?_, ?_, ?_, ?_⟩
  · rw [s_fr_ne (by omega) (by omega) (by omega) (by omega), q_upd_ne (by omega), q_upd_ne (by omega), if_neg (by omega), q_upd_ne (by omega), q_upd_eq]
  · rw [s_fr_ne (by omega) (by omega) (by omega) (by omega), q_upd_ne (by omega), q_upd_ne (by omega), if_neg (by omega), q_upd_eq, q_upd_ne (by omega)]
  · rw [(s_fr_at hn).1, q_upd_ne (by omega), q_upd_ne (by omega), if_neg (by omega), q_upd_ne (by omega), q_upd_ne (by omega)]
  · rw [s_fr_ne (by omega) (by omega) (by omega) (by omega), q_upd_ne (by omega), q_upd_eq, if_neg (by omega), q_upd_eq, q_upd_ne (by omega)]
  · rw [s_fr_ne (by omega) (by omega) (by omega) (by omega), q_upd_eq, q_upd_ne (by omega), if_neg (by omega), q_upd_ne (by omega), q_upd_ne (by omega)]
  · rw [(s_fr_at hn).2.2.1, q_upd_ne (by omega), q_upd_ne (by omega), if_neg (by omega), q_upd_ne (by omega), q_upd_ne (by omega)]
  · rw [(s_fr_at hn).2.2.2, q_upd_ne (by omega), q_upd_ne (by omega), if_neg (by omega), q_upd_ne (by omega), q_upd_ne (by omega)]
theorem RC0_op {M : Q_M} {j : Nat} {S : Nat → Int32} (h : RC0 j M S) (h0 : S 0 = nI (s_n S)) (hn : s_n S < 12) (hq : s_q S ≤ 20) : RC0 j (d_fr (d_op M j (M.2.1 11 j 0 (s_n S))) j (M.2.1 11 j 0 (s_n S))) (s_op S) := by
  obtain ⟨hst, hcs, hqu, hse, hac⟩ := h
  obtain ⟨f0, f1, f2, f3, f4, f5, f6⟩ := s_op_at (S := S) hn
  have ne := fun i h1 h2 h3 h4 => s_op_ne (S := S) (i := i) h1 h2 h3 h4
  have en := s_n_op h0 hn
  generalize hc : M.2.1 11 j 0 (s_n S) = c
  have r10 : (d_op M j c).1 10 j 0 = upd (M.1 10 j 0) 1 (M.1 10 j 0 1 + nI 1) := by
    unfold d_op
    rw [q_i_r (by decide), q_i_r (by decide), q_i_r (by decide), q_i_r (by decide), q_i_r (by decide), q_i_r (by decide), q_i_e]
  have r19 : (d_op M j c).1 19 j = updc (M.1 19 j) c (upd (upd (upd (upd (upd (M.1 19 j c) 0 (M.1 17 j 0 0 + nI 1)) 1 (M.1 10 j 0 0)) 2 (nI 0)) 6 (nI 0)) 7 (nI 0)) := by
    unfold d_op
    rw [q_i_j, q_i_e, q_i_j, q_i_e, q_i_j, q_i_e, q_i_j, q_i_e, q_i_j, updc_u, updc_u, updc_u, updc_u, q_i_r (by decide), q_i_r (by decide)]
  have r17 : (d_op M j c).1 17 j 0 = upd (M.1 17 j 0) 0 (M.1 17 j 0 0 + nI 1) := by
    unfold d_op
    rw [q_i_r (by decide), q_i_r (by decide), q_i_r (by decide), q_i_r (by decide), q_i_r (by decide), q_i_e, q_i_r (by decide)]
  have rr : ∀ r, r ≠ 10 → r ≠ 17 → r ≠ 19 → (d_op M j c).1 r = M.1 r := by
    intro r h1 h2 h3
    unfold d_op
    rw [q_i_r h3, q_i_r h3, q_i_r h3, q_i_r h3, q_i_r h3, q_i_r h2, q_i_r h1]
  unfold RC0
  rw [d_fr_10, d_fr_19, d_fr_2, d_fr_r (show 20 ≠ 10 by decide) (by decide), d_fr_r (show 12 ≠ 10 by decide) (by decide), d_fr_r (show 13 ≠ 10 by decide) (by decide), d_fr_r (show 14 ≠ 10 by decide) (by decide), d_fr_r (show 15 ≠ 10 by decide) (by decide), d_fr_r (show 16 ≠ 10 by decide) (by decide), d_fr_r (show 17 ≠ 10 by decide) (by decide), d_fr_r (show 18 ≠ 10 by decide) (by decide), r10, r19, r17, show (d_op M j c).2 = M.2 from rfl, rr 20 (by decide) (by decide) (by decide), rr 12 (by decide) (by decide) (by decide), rr 13 (by decide) (by decide) (by decide), rr 14 (by decide) (by decide) (by decide), rr 15 (by decide) (by decide) (by decide), rr 16 (by decide) (by decide) (by decide), rr 18 (by decide) (by decide) (by decide)]
  refine ⟨⟨?_, ?_, ?_⟩, ⟨hcs.1, fun q hq' => ?_⟩, r_qu_c hqu hq (fun i h1 h2 => ne i (by omega) (by omega) (by omega) (by omega)), r_se_c hse (fun i h1 h2 => ne i (by omega) (by omega) (by omega) (by omega)), ?_, ?_, ?_⟩
  · rw [q_upd_ne (by decide), q_upd_ne (by decide), ne 206 (by omega) (by omega) (by omega) (by omega)]
    exact hst.1
  · rw [q_upd_ne (by decide), q_upd_eq, f0, hst.2.1]
  · rw [q_upd_eq, f2, q_upd_ne (by decide), hst.2.2]
  · rw [en] at hq'
    rw [updc_u, updc_e]
    by_cases g : q = s_n S
    · rw [g, hc, updc_e]
      refine r_cn_mk ?_ ?_ ?_ ?_ ?_ ?_ ?_ ?_ ?_
      · rw [q_upd_ne (by decide), q_upd_ne (by decide), q_upd_ne (by decide), q_upd_ne (by decide), q_upd_ne (by decide), q_upd_ne (by decide), q_upd_ne (by decide), q_upd_eq, f3, hac.1]
      · rw [q_upd_ne (by decide), q_upd_ne (by decide), q_upd_ne (by decide), q_upd_ne (by decide), q_upd_ne (by decide), q_upd_ne (by decide), q_upd_eq, f4, hst.1]
      · rw [q_upd_ne (by decide), q_upd_ne (by decide), q_upd_ne (by decide), q_upd_ne (by decide), q_upd_ne (by decide), q_upd_eq, s_op_z (f := 4) hn (by decide) (by decide) (by decide) (by decide) (by decide)]
      · rw [q_upd_ne (by decide), q_upd_ne (by decide), q_upd_eq, s_op_who hn]
      · rw [q_upd_ne (by decide), q_upd_eq, q_upd_ne (by decide), f5, hst.1]
      · rw [q_upd_eq, q_upd_ne (by decide), f6, hst.2.2]
      · rw [q_upd_ne (by decide), q_upd_ne (by decide), q_upd_ne (by decide), q_upd_ne (by decide), q_upd_eq, s_op_z (f := 7) hn (by decide) (by decide) (by decide) (by decide) (by decide)]
      · rw [q_upd_ne (by decide), q_upd_ne (by decide), q_upd_ne (by decide), q_upd_eq, s_op_z (f := 8) hn (by decide) (by decide) (by decide) (by decide) (by decide)]
      · intro k h1 h2
        unfold s_c at h2
        rw [s_op_z (f := 8) hn (by decide) (by decide) (by decide) (by decide) (by decide)] at h2
        exact absurd h2 (by show ¬ k < (nI 0).toNatClampNeg; rw [nI_clamp (by decide)]; omega)
    · have cn : M.2.1 11 j 0 q ≠ c := fun e => g (hcs.1.2 q (s_n S) (by omega) (by omega) (e.trans hc.symm))
      rw [updc_n cn]
      exact r_cn_c (fun i h1 h2 => ne _ (by omega) (by omega) (by omega) (by omega)) (hcs.2 q (by omega))
  · rw [q_upd_eq, f1, hac.1]
  · intro i hi
    rw [ne _ (by omega) (by omega) (by omega) (by omega)]
    exact hac.2.1 i hi
  · intro i hi
    rw [q_upd_ne (by omega), ne _ (by omega) (by omega) (by omega) (by omega)]
    exact hac.2.2 i hi
theorem d_op_sm {M : Q_M} {j c : Nat} : q_sm j M (d_op M j c) := q_sm_si (q_sm_si (q_sm_si (q_sm_si (q_sm_si (q_sm_si (q_sm_si q_sm_rfl (by decide) (by decide)) (by decide) (by decide)) (by decide) (by decide)) (by decide) (by decide)) (by decide) (by decide)) (by decide) (by decide)) (by decide) (by decide)
abbrev pX7_openOne : Q_P := fun av M K KX => ∃ (j : Nat) (S : Nat → Int32), RC j M S ∧ s_n S < 12 ∧ av = [.inr (.inl (10, j, 0))] ∧ ∀ M', RC j M' (s_op S) → q_sm j M M' → K (some (.inl (nI (s_n S)))) M'
theorem cX7_openOne_ct {l : Launch} {b : Bool} (hl0 : l.stackTraces = false) : q_Ct l b 47 pX7_openOne := by
  refine q_meth (by decide +kernel) hl0 TX7_openOne kX7_openOne ?_
  intro av M K KX hwf
  rintro ⟨j, S, hR, hn, rfl, hK⟩
  refine ⟨Nat.le_of_ble_eq_true rfl, fun Z hz hw => ?_⟩
  have hK := hK (d_fr (d_op M j (M.2.1 11 j 0 (s_n S))) j (M.2.1 11 j 0 (s_n S))) ⟨s_wf_op hR.1 hn, RC0_op hR.2 hR.1.1.1 hn hR.1.2.1.2⟩ (q_sm_tr d_op_sm d_fr_sm)
  have e1 : M.1 10 j 0 1 = nI (s_n S) := hR.2.1.2.1.trans hR.1.1.1
  apply hz [] 60
  refine Exists.intro (s_n S) ⟨e1, by omega, ?_⟩
  refine And.intro (Or.inl rfl) ?_
  refine Exists.intro _ ⟨cX7_becomeIdle_ct hl0, j, M.2.1 11 j 0 (s_n S), rfl, ?_⟩
  refine q_K hK (by rw [← e1]) ?_
  refine congrArg (fun m => d_fr m j (M.2.1 11 j 0 (s_n S))) ?_
  show q_si (q_si (q_si (q_si (q_si (q_si (q_si M (10, j, 0) 1 (M.1 10 j 0 1 + nI 1)) (17, j, 0) 0 ((q_si M (10, j, 0) 1 (M.1 10 j 0 1 + nI 1)).1 17 j 0 0 + nI 1)) (19, j, M.2.1 11 j 0 (s_n S)) 0 ((q_si (q_si M (10, j, 0) 1 (M.1 10 j 0 1 + nI 1)) (17, j, 0) 0 ((q_si M (10, j, 0) 1 (M.1 10 j 0 1 + nI 1)).1 17 j 0 0 + nI 1)).1 17 j 0 0)) (19, j, M.2.1 11 j 0 (s_n S)) 1 ((q_si (q_si (q_si M (10, j, 0) 1 (M.1 10 j 0 1 + nI 1)) (17, j, 0) 0 ((q_si M (10, j, 0) 1 (M.1 10 j 0 1 + nI 1)).1 17 j 0 0 + nI 1)) (19, j, M.2.1 11 j 0 (s_n S)) 0 ((q_si (q_si M (10, j, 0) 1 (M.1 10 j 0 1 + nI 1)) (17, j, 0) 0 ((q_si M (10, j, 0) 1 (M.1 10 j 0 1 + nI 1)).1 17 j 0 0 + nI 1)).1 17 j 0 0)).1 10 j 0 0)) (19, j, M.2.1 11 j 0 (s_n S)) 2 (nI 0)) (19, j, M.2.1 11 j 0 (s_n S)) 6 (nI 0)) (19, j, M.2.1 11 j 0 (s_n S)) 7 (nI 0) = _
  unfold d_op
  rw [q_i_r (show 17 ≠ 10 by decide), q_i_e, q_upd_eq, q_i_r (show 10 ≠ 19 by decide), q_i_r (show 10 ≠ 17 by decide), q_i_e, q_upd_ne (show 0 ≠ 1 by decide)]
/-- the places while the one at p goes to the end: those up to i have moved -/
def d_sh (F : Nat → Nat) (p i : Nat) : Nat → Nat := fun q => if p ≤ q ∧ q + 1 < i then F (q + 1) else F q
theorem d_sh_0 {F : Nat → Nat} {p : Nat} : d_sh F p (p + 1) = F := by
  funext q
  unfold d_sh
  rw [if_neg (by omega)]
theorem d_sh_1 {F : Nat → Nat} {p i : Nat} (h : p < i) : updN (d_sh F p i) (i - 1) (d_sh F p i i) = d_sh F p (i + 1) := by
  funext q
  unfold updN d_sh
  by_cases c : q = i - 1
  · rw [if_pos c, if_neg (by omega), if_pos (by omega)]
    exact congrArg F (by omega)
  · rw [if_neg c]
    by_cases g : p ≤ q ∧ q + 1 < i
    · rw [if_pos g, if_pos (by omega)]
    · rw [if_neg g, if_neg (by omega)]
def d_cf (F : Nat → Nat) (p n : Nat) : Nat → Nat := updN (d_sh F p n) (n - 1) (F p)
theorem d_cf_pl {F : Nat → Nat} {p n : Nat} (h : r_pl F) (hp : p < n) (hn : n ≤ 12) : r_pl (d_cf F p n) := by
  have key : ∀ q, q < 12 → d_cf F p n q = F (if q = n - 1 then p else if p ≤ q ∧ q + 1 < n then q + 1 else q) := by
    intro q _
    unfold d_cf updN d_sh
    by_cases c : q = n - 1
    · rw [if_pos c, if_pos c]
    · rw [if_neg c, if_neg c]
      split <;> rfl
  refine ⟨fun q hq => ?_, fun q q' hq hq' e => ?_⟩
  · rw [key q hq]
    exact h.1 _ (by split; omega; split <;> omega)
  · rw [key q hq, key q' hq'] at e
    have e := h.2 _ _ (by split; omega; split <;> omega) (by split; omega; split <;> omega) e
    revert e
    split <;> split <;> (try split) <;> (try split) <;> omega
def d_cl (M : Q_M) (j p n k : Nat) : Q_M := q_si (q_ra (q_si M (10, j, 0) 1 (M.1 10 j 0 1 - nI 1)) j (d_cf (M.2.1 11 j 0) p n)) (18, j, 0) k (M.1 18 j 0 k + nI 1)
theorem RC0_cl {M : Q_M} {j p k : Nat} {S : Nat → Int32} (h : RC0 j M S) (h0 : S 0 = nI (s_n S)) (hp : p < s_n S) (hn : s_n S ≤ 12) (hq : s_q S ≤ 20) (hk : k < 5) : RC0 j (d_cl M j p (s_n S) k) (s_cl S p k) := by
  obtain ⟨hst, hcs, hqu, hse, hac⟩ := h
  have en : s_n (s_cl S p k) = s_n S - 1 := s_of (s_cl_n h0 hn hp) (by omega)
  have hi := fun i h1 h2 => s_cl_hi (S := S) (p := p) (c := k) hn (i := i) h1 h2 hk
  have r10 : (d_cl M j p (s_n S) k).1 10 j 0 = upd (M.1 10 j 0) 1 (M.1 10 j 0 1 - nI 1) := by
    unfold d_cl
    rw [q_i_r (by decide), q_ra_1, q_i_e]
  have r18 : (d_cl M j p (s_n S) k).1 18 j 0 = upd (M.1 18 j 0) k (M.1 18 j 0 k + nI 1) := by
    unfold d_cl
    rw [q_i_e, q_ra_1, q_i_r (by decide)]
  have r11 : (d_cl M j p (s_n S) k).2.1 11 j 0 = d_cf (M.2.1 11 j 0) p (s_n S) := by
    unfold d_cl
    rw [q_i_2, q_ra_e]
  have rr : ∀ r, r ≠ 10 → r ≠ 18 → (d_cl M j p (s_n S) k).1 r = M.1 r := by
    intro r h1 h2
    unfold d_cl
    rw [q_i_r h2, q_ra_1, q_i_r h1]
  unfold RC0
  rw [r10, r18, r11, rr 19 (by decide) (by decide), rr 20 (by decide) (by decide), rr 12 (by decide) (by decide), rr 13 (by decide) (by decide), rr 14 (by decide) (by decide), rr 15 (by decide) (by decide), rr 16 (by decide) (by decide), rr 17 (by decide) (by decide)]
  refine ⟨⟨?_, ?_, ?_⟩, ⟨d_cf_pl hcs.1 hp hn, fun q hq' => ?_⟩, r_qu_c hqu hq (fun i h1 h2 => hi i (by omega) (by omega)), r_se_c hse (fun i h1 h2 => hi i (by omega) (by omega)), ?_, ?_, ?_⟩
  · rw [q_upd_ne (by decide), hi 206 (by omega) (by omega)]
    exact hst.1
  · rw [q_upd_eq, hst.2.1]
    rfl
  · rw [q_upd_ne (by decide), hi 226 (by omega) (by omega)]
    exact hst.2.2
  · rw [en] at hq'
    have ef : d_cf (M.2.1 11 j 0) p (s_n S) q = M.2.1 11 j 0 (s_ix p q) := by
      unfold d_cf updN d_sh s_ix
      rw [if_neg (by omega)]
      by_cases g : p ≤ q
      · rw [if_pos (by omega), if_pos g]
      · rw [if_neg (by omega), if_neg g]
    rw [ef]
    have hcn := hcs.2 (s_ix p q) (s_ix_lt hq')
    have lk := fun f h1 h2 => s_cl_lk (S := S) (p := p) (c := k) hp hn hq' (f := f) h1 h2
    obtain ⟨⟨a1, a2, a3, a4⟩, ⟨a5, a6, a7, a8⟩, hnu⟩ := hcn
    refine r_cn_mk (a1.trans (lk 1 (by omega) (by omega)).symm) (a2.trans (lk 2 (by omega) (by omega)).symm) (a3.trans (lk 4 (by omega) (by omega)).symm) (a4.trans (lk 3 (by omega) (by omega)).symm) (a5.trans (lk 5 (by omega) (by omega)).symm) (a6.trans (lk 6 (by omega) (by omega)).symm) (a7.trans (lk 7 (by omega) (by omega)).symm) (a8.trans (lk 8 (by omega) (by omega)).symm) (fun i h1 h2 => ?_)
    unfold s_c at h2 hnu
    rw [lk 8 (by omega) (by omega)] at h2
    rw [show 9 + 12 * q + i = (9 + i) + 12 * q by omega, lk (9 + i) (by omega) (by omega), hnu i h1 h2]
    exact congrArg S (by omega)
  · rw [hi 214 (by omega) (by omega)]
    exact hac.1
  · intro i hi'
    by_cases c : i = k
    · rw [c, q_upd_eq, hac.2.1 k hk]
      unfold s_cl
      rw [if_neg (by omega), if_neg (by omega), if_pos rfl]
    · rw [q_upd_ne c, hac.2.1 i hi']
      unfold s_cl
      rw [if_neg (by omega), if_neg (by omega), if_neg (by omega)]
  · intro i hi'
    rw [hi _ (by omega) (by omega)]
    exact hac.2.2 i hi'
theorem RC_cl {M : Q_M} {j p k : Nat} {S : Nat → Int32} (h : RC j M S) (hp : p < s_n S) (hk : k < 5) : RC j (d_cl M j p (s_n S) k) (s_cl S p k) := ⟨s_wf_cl h.1 hp hk, RC0_cl h.2 h.1.1.1 hp h.1.1.2 h.1.2.1.2 hk⟩
theorem q_ra_si {M : Q_M} {j : Nat} {i : Q_Id} {k : Nat} {x : Int32} {f : Nat → Nat} : q_si (q_ra M j f) i k x = q_ra (q_si M i k x) j f := rfl
abbrev pX7_closeAt : Q_P := fun av M K KX => ∃ (j p k : Nat) (S : Nat → Int32), RC j M S ∧ p < s_n S ∧ k < 5 ∧ av = [.inr (.inl (10, j, 0)), .inl (nI p), .inl (nI k)] ∧ ∀ M', RC j M' (s_cl S p k) → q_sm j M M' → K none M'
theorem cX7_closeAt_ct {l : Launch} {b : Bool} (hl0 : l.stackTraces = false) : q_Ct l b 49 pX7_closeAt := by
  refine q_meth (by decide +kernel) hl0 TX7_closeAt kX7_closeAt ?_
  intro av M K KX hwf
  rintro ⟨j, p, k, S, hR, hp, hk, rfl, hK⟩
  refine ⟨Nat.le_of_ble_eq_true rfl, fun Z hz hw => ?_⟩
  have hK := hK (d_cl M j p (s_n S) k) (RC_cl hR hp hk) (q_sm_si (q_sm_ra (q_sm_si q_sm_rfl (by decide) (by decide))) (by decide) (by decide))
  have e1 : M.1 10 j 0 1 = nI (s_n S) := hR.2.1.2.1.trans hR.1.1.1
  have wn := hR.1.1.2
  have loop : ∀ (d i : Nat), i + d = s_n S → p < i → Z 0 12 [(4, .inl (nI i)), (3, .inr (.inl (19, j, M.2.1 11 j 0 p))), (0, .inr (.inl (10, j, 0))), (1, .inl (nI p)), (2, .inl (nI k))] [] (q_ra M j (d_sh (M.2.1 11 j 0) p i)) := by
    intro d
    induction d with
    | zero =>
      intro i hi hpi
      obtain rfl : i = s_n S := by omega
      apply hz [12] 60
      refine And.intro (fun _ => ?_) (fun g => absurd (show M.1 10 j 0 1 ≤ nI (s_n S) by rw [e1]; exact nI_le (by omega) (by omega)) g)
      refine Exists.intro (s_n S - 1) (Exists.intro (M.2.1 11 j 0 p) ⟨?_, by omega, rfl, ?_⟩)
      · show (q_si (q_ra M j (d_sh (M.2.1 11 j 0) p (s_n S))) (10, j, 0) 1 (M.1 10 j 0 1 - nI 1)).1 10 j 0 1 = _
        rw [q_i_e, q_upd_eq, e1]
        exact pk_sub (by omega)
      · rw [q_ra_si, q_ra_s]
        refine Exists.intro k ⟨rfl, hk, ?_⟩
        refine Exists.intro k ⟨rfl, hk, ?_⟩
        refine q_K hK rfl ?_
        show q_si (q_ra (q_si M (10, j, 0) 1 (M.1 10 j 0 1 - nI 1)) j _) (18, j, 0) k ((q_si M (10, j, 0) 1 (M.1 10 j 0 1 - nI 1)).1 18 j 0 k + nI 1) = _
        rw [q_i_r (show 18 ≠ 10 by decide)]
        rfl
    | succ d ih =>
      intro i hi hpi
      apply hz [12] 60
      refine And.intro (fun (g : M.1 10 j 0 1 ≤ nI i) => ?_) (fun _ => ?_)
      · rw [e1, nI_leI (by omega) (by omega)] at g
        omega
      · refine Exists.intro i ⟨rfl, by omega, ?_⟩
        refine Exists.intro (i - 1) (Exists.intro (d_sh (M.2.1 11 j 0) p i i) ⟨show nI i - nI 1 = nI (i - 1) from pk_sub (by omega), by omega, ?_, ?_⟩)
        · show ((19, j, (q_ra M j (d_sh (M.2.1 11 j 0) p i)).2.1 11 j 0 i) : Q_Id) = (19, j, _)
          rw [q_ra_e]
        · rw [q_ra_s, d_sh_1 hpi]
          have h := ih (i + 1) (by omega) (by omega)
          rw [← nI_add i 1] at h
          exact h
  apply hz [12] 60
  refine Exists.intro p ⟨rfl, by omega, ?_⟩
  have h := loop (s_n S - (p + 1)) (p + 1) (by omega) (by omega)
  rw [d_sh_0, q_ra_id, ← nI_add p 1] at h
  exact h
