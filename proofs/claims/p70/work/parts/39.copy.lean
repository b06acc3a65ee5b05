-- COPYING A STATE: THE CLASS
def q_cp (r j c j0 c0 : Nat) : List Nat → Q_M → Q_M
  | [], M => M
  | f :: L, M => q_cp r j c j0 c0 L (q_si M (r, j, c) f (M.1 r j0 c0 f))
theorem q_cp_r {r j c j0 c0 r' : Nat} (h : r' ≠ r) : ∀ (L : List Nat) (M : Q_M), (q_cp r j c j0 c0 L M).1 r' = M.1 r'
  | [], _ => rfl
  | f :: L, M => (q_cp_r h L _).trans (q_i_r h)
theorem q_cp_j {r j c j0 c0 r' j' : Nat} (h : j' ≠ j) : ∀ (L : List Nat) (M : Q_M), (q_cp r j c j0 c0 L M).1 r' j' = M.1 r' j'
  | [], _ => rfl
  | f :: L, M => (q_cp_j h L _).trans (q_i_jj h)
theorem q_cp_c {r j c j0 c0 c' : Nat} (h : c' ≠ c) : ∀ (L : List Nat) (M : Q_M), (q_cp r j c j0 c0 L M).1 r j c' = M.1 r j c'
  | [], _ => rfl
  | f :: L, M => (q_cp_c h L _).trans (by rw [q_i_j, updc_n h])
theorem q_cp_2 {r j c j0 c0 : Nat} : ∀ (L : List Nat) (M : Q_M), (q_cp r j c j0 c0 L M).2 = M.2
  | [], _ => rfl
  | f :: L, M => q_cp_2 L _
theorem q_cp_sm {r j c j0 c0 : Nat} (h1 : 10 ≤ r) (h2 : r ≤ 20) : ∀ (L : List Nat) (M0 M : Q_M), q_sm j M0 M → q_sm j M0 (q_cp r j c j0 c0 L M)
  | [], _, _, h => h
  | f :: L, M0, M, h => q_cp_sm h1 h2 L M0 _ (q_sm_si h h1 h2)
theorem q_cp_o {r j c j0 c0 i : Nat} : ∀ (L : List Nat) (M : Q_M), i ∉ L → (q_cp r j c j0 c0 L M).1 r j c i = M.1 r j c i
  | [], _, _ => rfl
  | f :: L, M, h => (q_cp_o L _ (fun g => h (List.mem_cons_of_mem _ g))).trans (by rw [q_i_e, q_upd_ne (fun g => h (by rw [g]; exact List.mem_cons_self))])
theorem q_cp_i {r j c j0 c0 i : Nat} (hj : j0 ≠ j) : ∀ (L : List Nat) (M : Q_M), i ∈ L → (q_cp r j c j0 c0 L M).1 r j c i = M.1 r j0 c0 i
  | [], _, h => absurd h (List.not_mem_nil)
  | f :: L, M, h => by
    by_cases g : i ∈ L
    · refine (q_cp_i hj L _ g).trans ?_
      rw [q_i_jj hj]
    · refine (q_cp_o L _ g).trans ?_
      rcases List.mem_cons.mp h with e | e
      · rw [q_i_e, e, q_upd_eq]
      · exact absurd e g
def d_cc (M : Q_M) (j c j0 c0 : Nat) : Q_M := q_sa (q_cp 19 j c j0 c0 [0, 1, 2, 3, 4, 5, 6, 7] M) (20, j, c) (fun q => if q < 4 then (q_cp 19 j c j0 c0 [0, 1, 2, 3, 4, 5, 6, 7] M).1 20 j0 c0 q else (q_cp 19 j c j0 c0 [0, 1, 2, 3, 4, 5, 6, 7] M).1 20 j c q)
abbrev pX1_copyFrom : Q_P := fun av M K KX => ∃ j c j0 c0 : Nat, j0 ≠ j ∧ q_bit (M.1 19 j0 c0 2) ∧ av = [.inr (.inl (19, j, c)), .inr (.inl (19, j0, c0))] ∧ K none (d_cc M j c j0 c0)
theorem cX1_copyFrom_ct {l : Launch} {b : Bool} (hl0 : l.stackTraces = false) : q_Ct l b 5 pX1_copyFrom := by
  refine q_meth (by decide +kernel) hl0 TX1_copyFrom kX1_copyFrom ?_
  intro av M K KX hwf
  rintro ⟨j, c, j0, c0, hj, hb, rfl, hK⟩
  refine ⟨Nat.le_of_ble_eq_true rfl, fun Z hz hw => ?_⟩
  apply hz [] 100
  refine And.intro ?_ ?_
  · show q_bit ((q_cp 19 j c j0 c0 [0, 1] M).1 19 j0 c0 2)
    rw [q_cp_j hj]
    exact hb
  · refine Exists.intro 4 ⟨rfl, rfl, rfl, by decide, by decide, rfl, ?_⟩
    exact hK
theorem d_cc_r {M : Q_M} {j c j0 c0 r : Nat} (h1 : r ≠ 19) (h2 : r ≠ 20) : (d_cc M j c j0 c0).1 r = M.1 r := by
  unfold d_cc
  rw [q_a_r h2, q_cp_r h1]
theorem d_cc_2 {M : Q_M} {j c j0 c0 : Nat} : (d_cc M j c j0 c0).2 = M.2 := by
  unfold d_cc
  rw [q_a_2, q_cp_2]
theorem d_cc_sm {M : Q_M} {j c j0 c0 : Nat} : q_sm j M (d_cc M j c j0 c0) := q_sm_sa (q_cp_sm (by decide) (by decide) _ _ _ q_sm_rfl) (by decide) (by decide)
theorem d_cc_n {M : Q_M} {j c j0 c0 c' : Nat} (h : c' ≠ c) : (d_cc M j c j0 c0).1 19 j c' = M.1 19 j c' ∧ (d_cc M j c j0 c0).1 20 j c' = M.1 20 j c' := by
  unfold d_cc
  constructor
  · rw [q_a_r (by decide), q_cp_c h]
  · rw [q_a_j, updc_n h, q_cp_r (by decide)]
theorem d_cc_cn {M : Q_M} {j c j0 c0 p : Nat} {S : Nat → Int32} (hj : j0 ≠ j) (h : r_cn S p (M.1 19 j0 c0) (M.1 20 j0 c0)) : r_cn S p ((d_cc M j c j0 c0).1 19 j c) ((d_cc M j c j0 c0).1 20 j c) := by
  have e : ∀ i, i < 8 → (d_cc M j c j0 c0).1 19 j c i = M.1 19 j0 c0 i := by
    intro i hi
    unfold d_cc
    rw [q_a_r (by decide)]
    exact q_cp_i hj _ _ (by simp only [List.mem_cons, List.not_mem_nil]; omega)
  have e2 : ∀ k, k < 4 → (d_cc M j c j0 c0).1 20 j c k = M.1 20 j0 c0 k := by
    intro k hk
    unfold d_cc
    rw [q_a_e, if_pos hk, q_cp_r (by decide)]
  obtain ⟨⟨a1, a2, a3, a4⟩, ⟨a5, a6, a7, a8⟩, hn⟩ := h
  exact ⟨⟨(e 0 (by omega)).trans a1, (e 1 (by omega)).trans a2, (e 2 (by omega)).trans a3, (e 3 (by omega)).trans a4⟩, ⟨(e 4 (by omega)).trans a5, (e 5 (by omega)).trans a6, (e 6 (by omega)).trans a7, (e 7 (by omega)).trans a8⟩, fun k h1 h2 => (e2 k h1).trans (hn k h1 h2)⟩
def d_cq (M : Q_M) (j j0 r : Nat) : Q_M := q_sa M (r, j, 0) (fun q => if q < 20 then M.1 r j0 0 q else M.1 r j 0 q)
def d_c5 (M : Q_M) (j j0 : Nat) : Q_M := d_cq (d_cq (d_cq (q_cp 12 j 0 j0 0 [0] M) j j0 13) j j0 14) j j0 15
abbrev pX5_copyFrom : Q_P := fun av M K KX => ∃ j j0 : Nat, av = [.inr (.inl (12, j, 0)), .inr (.inl (12, j0, 0))] ∧ K none (d_c5 M j j0)
theorem cX5_copyFrom_ct {l : Launch} {b : Bool} (hl0 : l.stackTraces = false) : q_Ct l b 30 pX5_copyFrom := by
  refine q_meth (by decide +kernel) hl0 TX5_copyFrom kX5_copyFrom ?_
  intro av M K KX hwf
  rintro ⟨j, j0, rfl, hK⟩
  refine ⟨Nat.le_of_ble_eq_true rfl, fun Z hz hw => ?_⟩
  apply hz [] 100
  refine Exists.intro 20 ⟨rfl, rfl, rfl, by decide, by decide, rfl, ?_⟩
  refine Exists.intro 20 ⟨rfl, rfl, rfl, by decide, by decide, rfl, ?_⟩
  refine Exists.intro 20 ⟨rfl, rfl, rfl, by decide, by decide, rfl, ?_⟩
  exact hK
abbrev pX6_copyFrom : Q_P := fun av M K KX => ∃ j j0 : Nat, j0 ≠ j ∧ q_bit (M.1 16 j0 0 6) ∧ av = [.inr (.inl (16, j, 0)), .inr (.inl (16, j0, 0))] ∧ K none (q_cp 16 j 0 j0 0 [0, 1, 2, 3, 4, 5, 6] M)
theorem cX6_copyFrom_ct {l : Launch} {b : Bool} (hl0 : l.stackTraces = false) : q_Ct l b 35 pX6_copyFrom := by
  refine q_meth (by decide +kernel) hl0 TX6_copyFrom kX6_copyFrom ?_
  intro av M K KX hwf
  rintro ⟨j, j0, hj, hb, rfl, hK⟩
  refine ⟨Nat.le_of_ble_eq_true rfl, fun Z hz hw => ?_⟩
  apply hz [] 100
  refine And.intro ?_ hK
  show q_bit ((q_cp 16 j 0 j0 0 [0, 1, 2, 3, 4, 5] M).1 16 j0 0 6)
  rw [q_cp_j hj]
  exact hb
def d_cb (M : Q_M) (j j0 : Nat) : Q_M := q_sa M (18, j, 0) (fun q => if q < 5 then M.1 18 j0 0 q else M.1 18 j 0 q)
abbrev pX0_copyFrom : Q_P := fun av M K KX => ∃ j j0 : Nat, av = [.inr (.inl (17, j, 0)), .inr (.inl (17, j0, 0))] ∧ K none (q_cp 17 j 0 j0 0 [2, 3, 4, 5, 6, 7] (d_cb (q_cp 17 j 0 j0 0 [0] M) j j0))
theorem cX0_copyFrom_ct {l : Launch} {b : Bool} (hl0 : l.stackTraces = false) : q_Ct l b 1 pX0_copyFrom := by
  refine q_meth (by decide +kernel) hl0 TX0_copyFrom kX0_copyFrom ?_
  intro av M K KX hwf
  rintro ⟨j, j0, rfl, hK⟩
  refine ⟨Nat.le_of_ble_eq_true rfl, fun Z hz hw => ?_⟩
  apply hz [] 100
  refine Exists.intro 5 ⟨rfl, rfl, rfl, by decide, by decide, rfl, ?_⟩
  exact hK
theorem q_i01 (M : Q_M) (j j0 : Nat) : q_cp 10 j 0 j0 0 [0, 1, 2] M = q_si (q_si (q_si M (10, j, 0) 0 (M.1 10 j0 0 0)) (10, j, 0) 1 ((q_si M (10, j, 0) 0 (M.1 10 j0 0 0)).1 10 j0 0 1)) (10, j, 0) 2 ((q_si (q_si M (10, j, 0) 0 (M.1 10 j0 0 0)) (10, j, 0) 1 ((q_si M (10, j, 0) 0 (M.1 10 j0 0 0)).1 10 j0 0 1)).1 10 j0 0 2) := rfl
abbrev pX7_copyFrom : Q_P := fun av M K KX => ∃ (j j0 : Nat) (S : Nat → Int32), j0 ≠ j ∧ RC j0 M S ∧ r_pl (M.2.1 11 j 0) ∧ av = [.inr (.inl (10, j, 0)), .inr (.inl (10, j0, 0))] ∧ ∀ M', RC j M' S → q_sm j M M' → K none M'
theorem cX7_copyFrom_ct {l : Launch} {b : Bool} (hl0 : l.stackTraces = false) : q_Ct l b 37 pX7_copyFrom := by
  refine q_meth (by decide +kernel) hl0 TX7_copyFrom kX7_copyFrom ?_
  intro av M K KX hwf
  rintro ⟨j, j0, S, hj, hR, hpl, rfl, hK⟩
  refine ⟨Nat.le_of_ble_eq_true rfl, fun Z hz hw => ?_⟩
  have wn := hR.1.1.2
  have wq := hR.1.2.1.2
  have fin : ∀ (M1 : Q_M), q_sm j M M1 → M1.2 = M.2 → r_st (M1.1 10 j 0) S → (∀ q, q < s_n S → r_cn S q (M1.1 19 j (M.2.1 11 j 0 q)) (M1.1 20 j (M.2.1 11 j 0 q))) → ∀ ls, Z 0 55 ((0, .inr (.inl (10, j, 0))) :: (1, .inr (.inl (10, j0, 0))) :: ls) [] M1 := by
    intro M1 hsm h2 hst hcn ls
    have R1 := (r_fr hsm hj hR.2)
    have eb : M1.1 16 j0 0 6 = S 213 := R1.2.2.2.1 6 (by omega)
    refine hw [(0, .inr (.inl (10, j, 0))), (1, .inr (.inl (10, j0, 0)))] _ _ _ _ _ ?_ (fun q hq => ?_)
    · apply hz [] 100
      refine Exists.intro _ ⟨cX5_copyFrom_ct hl0, j, j0, rfl, ?_⟩
      have f1 : ∀ r, r ≠ 12 → r ≠ 13 → r ≠ 14 → r ≠ 15 → (d_c5 M1 j j0).1 r = M1.1 r := by
        intro r g1 g2 g3 g4
        unfold d_c5 d_cq
        rw [q_a_r g4, q_a_r g3, q_a_r g2, q_cp_r g1]
      refine Exists.intro _ ⟨cX6_copyFrom_ct hl0, j, j0, hj, ?_, rfl, ?_⟩
      · show q_bit ((d_c5 M1 j j0).1 16 j0 0 6)
        rw [f1 16 (by decide) (by decide) (by decide) (by decide), eb]
        exact hR.1.2.2.2.2.1
      · refine Exists.intro _ ⟨cX0_copyFrom_ct hl0, j, j0, rfl, ?_⟩
        generalize hM2 : d_c5 M1 j j0 = M2 at f1
        have s2 : q_sm j M M2 := by
          rw [← hM2]
          exact q_sm_sa (q_sm_sa (q_sm_sa (q_cp_sm (by decide) (by decide) _ _ _ hsm) (by decide) (by decide)) (by decide) (by decide)) (by decide) (by decide)
        have r2 : M2.2 = M.2 := by
          rw [← hM2, ← h2]
          unfold d_c5 d_cq
          rw [q_a_2, q_a_2, q_a_2, q_cp_2]
        have qu : r_qu (M2.1 12 j 0) (M2.1 13 j 0) (M2.1 14 j 0) (M2.1 15 j 0) S := by
          obtain ⟨a, b⟩ := R1.2.2.1
          have e12 : M2.1 12 j 0 0 = M1.1 12 j0 0 0 := by
            rw [← hM2]
            unfold d_c5 d_cq
            rw [q_a_r (by decide), q_a_r (by decide), q_a_r (by decide)]
            exact q_cp_i hj _ _ List.mem_cons_self
          have e13 : ∀ k, k < 20 → M2.1 13 j 0 k = M1.1 13 j0 0 k := by
            intro k hk
            rw [← hM2]
            unfold d_c5 d_cq
            rw [q_a_r (by decide), q_a_r (by decide), q_a_e, if_pos hk, q_cp_r (by decide)]
          have e14 : ∀ k, k < 20 → M2.1 14 j 0 k = M1.1 14 j0 0 k := by
            intro k hk
            rw [← hM2]
            unfold d_c5 d_cq
            rw [q_a_r (by decide), q_a_e, if_pos hk, q_a_r (by decide), q_cp_r (by decide)]
          have e15 : ∀ k, k < 20 → M2.1 15 j 0 k = M1.1 15 j0 0 k := by
            intro k hk
            rw [← hM2]
            unfold d_c5 d_cq
            rw [q_a_e, if_pos hk, q_a_r (by decide), q_a_r (by decide), q_cp_r (by decide)]
          refine ⟨e12.trans a, fun k hk => ?_⟩
          rw [e13 k (by omega), e14 k (by omega), e15 k (by omega)]
          exact b k hk
        generalize hM3 : q_cp 16 j 0 j0 0 [0, 1, 2, 3, 4, 5, 6] M2 = M3
        have s3 : q_sm j M M3 := by
          rw [← hM3]
          exact q_cp_sm (by decide) (by decide) _ _ _ s2
        have f3 : ∀ r, r ≠ 16 → M3.1 r = M2.1 r := fun r g => by rw [← hM3, q_cp_r g]
        have R3 := r_fr s3 hj hR.2
        have r3 : M3.2 = M.2 := by rw [← hM3, q_cp_2, r2]
        have se : r_se (M3.1 16 j 0) S := by
          intro i hi
          have R2 := r_fr s2 hj hR.2
          rw [← hM3, q_cp_i hj _ _ (by simp only [List.mem_cons, List.not_mem_nil]; omega)]
          exact R2.2.2.2.1 i hi
        have hK := hK (q_cp 17 j 0 j0 0 [2, 3, 4, 5, 6, 7] (d_cb (q_cp 17 j 0 j0 0 [0] M3) j j0)) ⟨hR.1, ?_⟩ (q_cp_sm (by decide) (by decide) _ _ _ (q_sm_sa (q_cp_sm (by decide) (by decide) _ _ _ s3) (by decide) (by decide)))
        · exact hK
        · unfold RC0
          have g : ∀ r, r ≠ 17 → r ≠ 18 → (q_cp 17 j 0 j0 0 [2, 3, 4, 5, 6, 7] (d_cb (q_cp 17 j 0 j0 0 [0] M3) j j0)).1 r = M3.1 r := by
            intro r g1 g2
            unfold d_cb
            rw [q_cp_r g1, q_a_r g2, q_cp_r g1]
          rw [g 10 (by decide) (by decide), g 12 (by decide) (by decide), g 13 (by decide) (by decide), g 14 (by decide) (by decide), g 15 (by decide) (by decide), g 16 (by decide) (by decide), g 19 (by decide) (by decide), g 20 (by decide) (by decide), f3 10 (by decide), f3 12 (by decide), f3 13 (by decide), f3 14 (by decide), f3 15 (by decide), f3 19 (by decide), f3 20 (by decide), f1 10 (by decide) (by decide) (by decide) (by decide), f1 19 (by decide) (by decide) (by decide) (by decide), f1 20 (by decide) (by decide) (by decide) (by decide)]
          have e2 : (q_cp 17 j 0 j0 0 [2, 3, 4, 5, 6, 7] (d_cb (q_cp 17 j 0 j0 0 [0] M3) j j0)).2 = M.2 := by
            unfold d_cb
            rw [q_cp_2, q_a_2, q_cp_2, r3]
          rw [e2]
          obtain ⟨a1, a2, a3⟩ := R3.2.2.2.2
          refine ⟨hst, ⟨hpl, hcn⟩, qu, se, ?_, fun i hi => ?_, fun i hi => ?_⟩
          · rw [q_cp_o _ _ (by decide)]
            unfold d_cb
            rw [q_a_r (by decide), q_cp_i hj _ _ List.mem_cons_self]
            exact a1
          · rw [q_cp_r (by decide)]
            unfold d_cb
            rw [q_a_e, if_pos hi, q_cp_r (by decide)]
            exact a2 i hi
          · rw [q_cp_i hj _ _ (by simp only [List.mem_cons, List.not_mem_nil]; omega)]
            unfold d_cb
            rw [q_a_r (by decide), q_cp_j hj]
            exact a3 i hi
    · simp only [List.mem_cons] at hq
      rcases hq with rfl | rfl | hq
      · exact List.mem_cons_self
      · exact List.mem_cons_of_mem _ List.mem_cons_self
      · exact absurd hq (List.not_mem_nil)
  have loop : ∀ (d p : Nat) (M1 : Q_M), p + d = s_n S → q_sm j M M1 → M1.2 = M.2 → r_st (M1.1 10 j 0) S → (∀ q, q < p → r_cn S q (M1.1 19 j (M.2.1 11 j 0 q)) (M1.1 20 j (M.2.1 11 j 0 q))) → Z 0 26 [(2, .inl (nI p)), (0, .inr (.inl (10, j, 0))), (1, .inr (.inl (10, j0, 0)))] [] M1 := by
    intro d
    induction d with
    | zero =>
      intro p M1 hp hsm h2 hst hcn
      have e1 : M1.1 10 j 0 1 = nI (s_n S) := hst.2.1.trans hR.1.1.1
      apply hz [26, 55] 60
      refine And.intro (fun _ => ?_) (fun g => absurd (show M1.1 10 j 0 1 ≤ nI p by rw [e1]; exact nI_le (by omega) (by omega)) g)
      refine hw _ _ _ _ _ _ (fin M1 hsm h2 hst (fun q hq => hcn q (by omega)) []) (fun q hq => List.mem_cons_of_mem _ hq)
    | succ d ih =>
      intro p M1 hp hsm h2 hst hcn
      have e1 : M1.1 10 j 0 1 = nI (s_n S) := hst.2.1.trans hR.1.1.1
      have R1 := r_fr hsm hj hR.2
      have hc0 := R1.2.1.2 p (by omega)
      apply hz [26, 55] 60
      refine And.intro (fun (g : M1.1 10 j 0 1 ≤ nI p) => ?_) (fun _ => ?_)
      · rw [e1, nI_leI (by omega) (by omega)] at g
        omega
      · refine Exists.intro p ⟨rfl, by omega, ?_⟩
        refine Exists.intro p ⟨rfl, by omega, ?_⟩
        refine Exists.intro _ ⟨cX1_copyFrom_ct hl0, j, M1.2.1 11 j 0 p, j0, M1.2.1 11 j0 0 p, hj, ?_, rfl, ?_⟩
        · rw [hc0.1.2.2.1]
          exact (hR.1.2.2.2.2.2.1 p (by omega)).2.1
        · have hnew := d_cc_cn (c := M1.2.1 11 j 0 p) hj hc0
          have e11 : M1.2.1 11 j 0 = M.2.1 11 j 0 := by rw [h2]
          have h := ih (p + 1) (d_cc M1 j (M1.2.1 11 j 0 p) j0 (M1.2.1 11 j0 0 p)) (by omega) (q_sm_tr hsm d_cc_sm) (by rw [d_cc_2]; exact h2) (by rw [d_cc_r (by decide) (by decide)]; exact hst) (fun q hq => ?_)
          · rw [← nI_add p 1] at h
            exact h
          · by_cases c : q = p
            · rw [c, ← e11]
              exact hnew
            · have cn : M.2.1 11 j 0 q ≠ M1.2.1 11 j 0 p := by
                rw [e11]
                exact fun g => c (hpl.2 q p (by omega) (by omega) g)
              rw [(d_cc_n cn).1, (d_cc_n cn).2]
              exact hcn q (by omega)
  apply hz [26] 60
  have h := loop (s_n S) 0 (q_cp 10 j 0 j0 0 [0, 1, 2] M) (by omega) (q_cp_sm (by decide) (by decide) _ _ _ q_sm_rfl) (q_cp_2 _ _) ?_ (fun q hq => absurd hq (by omega))
  · rw [q_i01] at h
    exact h
  · refine ⟨?_, ?_, ?_⟩
    · rw [q_cp_i hj _ _ (by decide)]
      exact hR.2.1.1
    · rw [q_cp_i hj _ _ (by decide)]
      exact hR.2.1.2.1
    · rw [q_cp_i hj _ _ (by decide)]
      exact hR.2.1.2.2
