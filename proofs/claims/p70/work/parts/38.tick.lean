-- TICKS: THE CLASS
theorem s_cf_cl {S : Nat → Int32} {p c : Nat} (hp : p < s_n S) (hn : s_n S ≤ 12) (hi : S (3 + 12 * p) < 0) : ∀ k, k < s_n S → (k ≤ p → s_cf (s_cl S p c) k = s_cf S k) ∧ (p ≤ k → s_cf (s_cl S p c) k + 1 = s_cf S (k + 1))
  | 0, h => ⟨fun _ => rfl, fun g => by
    obtain rfl : p = 0 := by omega
    show 0 + 1 = 0 + _
    rw [if_pos hi]⟩
  | k + 1, h => by
    have ih := s_cf_cl (c := c) hp hn hi k (by omega)
    have e := s_cl_lk (S := S) (p := p) (c := c) hp hn (k := k) (f := 3) (by omega) (by omega) (by omega)
    refine ⟨fun g => ?_, fun g => ?_⟩
    · show s_cf (s_cl S p c) k + (if s_cl S p c (3 + 12 * k) < 0 then 1 else 0) = s_cf S k + (if S (3 + 12 * k) < 0 then 1 else 0)
      rw [ih.1 (by omega), e, show s_ix p k = k from if_neg (by omega)]
    · show s_cf (s_cl S p c) k + (if s_cl S p c (3 + 12 * k) < 0 then 1 else 0) + 1 = s_cf S (k + 1) + (if S (3 + 12 * (k + 1)) < 0 then 1 else 0)
      rw [e]
      by_cases g2 : p ≤ k
      · rw [show s_ix p k = k + 1 from if_pos g2, ← ih.2 g2]
        omega
      · have ep : p = k + 1 := by omega
        rw [show s_ix p k = k from if_neg g2, ih.1 (by omega), ← ep, if_pos hi]
        rw [show s_cf S p = s_cf S k + (if S (3 + 12 * k) < 0 then 1 else 0) by rw [ep]; rfl]
theorem s_fo_idle {S : Nat → Int32} {last : Bool} : ∀ {k p : Nat}, s_fo S last k = some p → S (3 + 12 * p) < 0
  | 0, p, h => by cases h
  | k + 1, p, h => by
    unfold s_fo at h
    split at h
    · rename_i hc
      cases h
      exact hc.1
    · exact s_fo_idle h
theorem s_cf_cl2 {S : Nat → Int32} {p c : Nat} (w : s_wf S) (hp : p < s_n S) (hi : S (3 + 12 * p) < 0) : s_cf (s_cl S p c) (s_n S - 1) + 1 = s_cf S (s_n S) := by
  have := (s_cf_cl (c := c) hp w.1.2 hi (s_n S - 1) (by omega)).2 (by omega)
  rw [show s_n S - 1 + 1 = s_n S by omega] at this
  exact this
theorem s_cf_e {S S' : Nat → Int32} : ∀ k, (∀ q, q < k → S' (3 + 12 * q) = S (3 + 12 * q)) → s_cf S' k = s_cf S k
  | 0, _ => rfl
  | k + 1, h => by
    unfold s_cf
    rw [s_cf_e k (fun q hq => h q (by omega)), h k (by omega)]
theorem s_cf_op {S : Nat → Int32} (hn : s_n S < 12) : s_cf (s_op S) (s_n S + 1) = s_cf S (s_n S) + 1 := by
  show s_cf (s_op S) (s_n S) + (if s_op S (3 + 12 * s_n S) < 0 then 1 else 0) = _
  rw [s_op_who hn, if_pos (by decide), s_cf_e (s_n S) (fun q hq => s_op_ne (by omega) (by omega) (by omega) (by omega))]
theorem q_sur {a b : Nat} (h : b < a) : nI a - nI b = nI (a - b) := pk_sub (by omega)
theorem q_sur0 {a b : Nat} (ha : a < 100) (hb : b < 100) (h : a ≤ b) : nI a - nI b ≤ nI 0 := by
  rw [Int32.le_iff_toInt_le, pk_sub_toInt (by omega) (by omega), nI_toInt (by omega)]
  omega
abbrev pX7_closeRestedOnes : Q_P := fun av M K KX => ∃ (j : Nat) (S : Nat → Int32), RC j M S ∧ av = [.inr (.inl (10, j, 0))] ∧ ∀ M', RC j M' (s_cr (s_n S) S) → q_sm j M M' → K none M'
theorem cX7_closeRestedOnes_ct {l : Launch} {b : Bool} (hl0 : l.stackTraces = false) : q_Ct l b 63 pX7_closeRestedOnes := by
  refine q_meth (by decide +kernel) hl0 TX7_closeRestedOnes kX7_closeRestedOnes ?_
  intro av M K KX hwf
  rintro ⟨j, S, hR, rfl, hK⟩
  refine ⟨Nat.le_of_ble_eq_true rfl, fun Z hz hw => ?_⟩
  have loop : ∀ (f : Nat) (S1 : Nat → Int32) (M1 : Q_M) (ls : List (Nat × Q_V)), s_n S1 = f → RC j M1 S1 → q_sm j M M1 → (∀ M', RC j M' (s_cr f S1) → q_sm j M M' → K none M') → Z 0 13 ((1, .inl (nI (s_cf S1 (s_n S1)) - nI (s_l S1))) :: (0, .inr (.inl (10, j, 0))) :: ls) [] M1 := by
    intro f
    induction f with
    | zero =>
      intro S1 M1 ls hf hR hsm hK
      have wl := hR.1.2.2.2.1
      refine hw [(1, .inl (nI (s_cf S1 (s_n S1)) - nI (s_l S1))), (0, .inr (.inl (10, j, 0)))] _ _ _ _ _ ?_ (fun q hq => ?_)
      · apply hz [13] 60
        rw [hf]
        refine And.intro (fun _ => hK M1 hR hsm) (fun g => absurd (q_sur0 (show 0 < 100 by omega) (by omega) (Nat.zero_le _)) g)
      · rcases List.mem_cons.mp hq with rfl | hq
        · exact List.mem_cons_self
        · rcases List.mem_cons.mp hq with rfl | hq
          · exact List.mem_cons_of_mem _ List.mem_cons_self
          · exact absurd hq (List.not_mem_nil)
    | succ f ih =>
      intro S1 M1 ls hf hR hsm hK
      have wl := hR.1.2.2.2.1
      have wn := hR.1.1
      have hcf := s_cf_le (S := S1) (s_n S1)
      refine hw [(1, .inl (nI (s_cf S1 (s_n S1)) - nI (s_l S1))), (0, .inr (.inl (10, j, 0)))] _ _ _ _ _ ?_ (fun q hq => ?_)
      · unfold s_cr at hK
        apply hz [13] 60
        refine And.intro (fun (g : nI (s_cf S1 (s_n S1)) - nI (s_l S1) ≤ nI 0) => ?_) (fun (g : ¬ nI (s_cf S1 (s_n S1)) - nI (s_l S1) ≤ nI 0) => ?_)
        · rw [if_neg (fun c => ?_)] at hK
          · exact hK M1 hR hsm
          · rw [q_sur c, nI_leI (by omega) (by omega)] at g
            omega
        · have c : s_l S1 < s_cf S1 (s_n S1) := Nat.lt_of_not_le (fun c => g (q_sur0 (by omega) (by omega) c))
          rw [if_pos c] at hK
          refine Exists.intro _ ⟨cX7_placeOfIdle_ct hl0, j, S1, false, hR, rfl, ?_⟩
          cases hfo : s_fo S1 false (s_n S1) with
          | none =>
            have := s_fo_none hfo
            omega
          | some p =>
            have hp := s_fo_lt hfo
            rw [hfo] at hK
            dsimp only at hK
            have hcn := hR.2.2.1.2 p hp
            have et : M1.1 10 j 0 0 = S1 206 := hR.2.1.1
            have es : M1.1 19 j (M1.2.1 11 j 0 p) 4 = S1 (5 + 12 * p) := hcn.2.1.1
            have er : M1.1 16 j 0 3 = S1 210 := hR.2.2.2.2.1 3 (by omega)
            refine And.intro (fun g => absurd (Eq.symm g) (q_m1n (by omega))) (fun _ => ?_)
            refine Exists.intro p ⟨rfl, by omega, ?_⟩
            refine And.intro (fun (g2 : M1.1 16 j 0 3 ≤ M1.1 10 j 0 0 - M1.1 19 j (M1.2.1 11 j 0 p) 4) => ?_) (fun (g2 : ¬ M1.1 16 j 0 3 ≤ M1.1 10 j 0 0 - M1.1 19 j (M1.2.1 11 j 0 p) 4) => ?_)
            · rw [et, es, er] at g2
              rw [if_pos g2] at hK
              refine Exists.intro _ ⟨cX7_closeAt_ct hl0, j, p, 1, S1, hR, hp, by decide, rfl, fun M2 h1 h2 => ?_⟩
              have en := s_n_cl hR.1 (c := 1) hp
              have h := ih (s_cl S1 p 1) M2 [(2, .inl (nI p))] (by rw [en, hf]; rfl) h1 (q_sm_tr hsm h2) hK
              have ec := s_cf_cl2 (c := 1) hR.1 hp (s_fo_idle hfo)
              have el : s_l (s_cl S1 p 1) = s_l S1 := congrArg Int32.toNatClampNeg (s_cl_hi (i := 208) wn.2 (by omega) (by omega) (by decide))
              have ev : nI (s_cf S1 (s_n S1)) - nI (s_l S1) + q_i (-1) = nI (s_cf (s_cl S1 p 1) (s_n (s_cl S1 p 1))) - nI (s_l (s_cl S1 p 1)) := by
                rw [q_im1, q_sur c, en, el, pk_sub (show s_l S1 ≤ s_cf (s_cl S1 p 1) (s_n S1 - 1) by omega), show s_cf S1 (s_n S1) - s_l S1 = (s_cf (s_cl S1 p 1) (s_n S1 - 1) - s_l S1) + 1 by omega]
                exact pk_m1 _
              rw [← ev] at h
              refine hw _ _ _ _ _ _ h (fun q hq => ?_)
              simp only [List.mem_cons] at hq
              rcases hq with rfl | rfl | rfl | hq
              · exact List.mem_cons_self
              · exact List.mem_cons_of_mem _ (List.mem_cons_of_mem _ List.mem_cons_self)
              · exact List.mem_cons_of_mem _ List.mem_cons_self
              · exact absurd hq (List.not_mem_nil)
            · rw [et, es, er] at g2
              rw [if_neg g2] at hK
              exact hK M1 hR hsm
      · rcases List.mem_cons.mp hq with rfl | hq
        · exact List.mem_cons_self
        · rcases List.mem_cons.mp hq with rfl | hq
          · exact List.mem_cons_of_mem _ List.mem_cons_self
          · exact absurd hq (List.not_mem_nil)
  have el : M.1 16 j 0 1 = nI (s_l S) := (hR.2.2.2.2.1 1 (by omega)).trans hR.1.2.2.2.1.1
  apply hz [13] 60
  refine Exists.intro _ ⟨cX7_countIdle_ct hl0, j, S, hR, rfl, ?_⟩
  have h := loop (s_n S) S M [] rfl hR q_sm_rfl hK
  rw [← el] at h
  exact h
abbrev pX7_openToLeastIdle : Q_P := fun av M K KX => ∃ (j : Nat) (S : Nat → Int32), RC j M S ∧ av = [.inr (.inl (10, j, 0))] ∧ ∀ M', RC j M' (s_ol (12 - s_n S) S) → q_sm j M M' → K none M'
theorem cX7_openToLeastIdle_ct {l : Launch} {b : Bool} (hl0 : l.stackTraces = false) : q_Ct l b 64 pX7_openToLeastIdle := by
  refine q_meth (by decide +kernel) hl0 TX7_openToLeastIdle kX7_openToLeastIdle ?_
  intro av M K KX hwf
  rintro ⟨j, S, hR, rfl, hK⟩
  refine ⟨Nat.le_of_ble_eq_true rfl, fun Z hz hw => ?_⟩
  have loop : ∀ (f : Nat) (S1 : Nat → Int32) (M1 : Q_M), 12 - s_n S1 = f → RC j M1 S1 → q_sm j M M1 → (∀ M', RC j M' (s_ol f S1) → q_sm j M M' → K none M') → Z 0 13 [(1, .inl (nI (s_l S1) - nI (s_cf S1 (s_n S1)))), (0, .inr (.inl (10, j, 0)))] [] M1 := by
    intro f
    induction f with
    | zero =>
      intro S1 M1 hf hR hsm hK
      have wl := hR.1.2.2.2.1
      have wn := hR.1.1
      have wm := hR.1.2.2.1
      apply hz [13] 60
      refine And.intro (fun _ => hK M1 hR hsm) (fun _ => ?_)
      refine Exists.intro _ ⟨cX7_hasRoom_ct hl0, j, S1, hR, rfl, ?_⟩
      rw [q_bi_f (show ¬ S1 0 < S1 207 by rw [wn.1, wm.1, nI_ltI (by omega) (by omega)]; omega)]
      exact And.intro (fun _ => hK M1 hR hsm) (fun g => absurd nI_0 g)
    | succ f ih =>
      intro S1 M1 hf hR hsm hK
      have wl := hR.1.2.2.2.1
      have wn := hR.1.1
      have wm := hR.1.2.2.1
      have hcf := s_cf_le (S := S1) (s_n S1)
      unfold s_ol at hK
      apply hz [13] 60
      refine And.intro (fun (g : nI (s_l S1) - nI (s_cf S1 (s_n S1)) ≤ nI 0) => ?_) (fun (g : ¬ nI (s_l S1) - nI (s_cf S1 (s_n S1)) ≤ nI 0) => ?_)
      · rw [if_neg (fun c => ?_)] at hK
        · exact hK M1 hR hsm
        · rw [q_sur c.1, nI_leI (by omega) (by omega)] at g
          omega
      · have c : s_cf S1 (s_n S1) < s_l S1 := Nat.lt_of_not_le (fun c => g (q_sur0 (by omega) (by omega) c))
        refine Exists.intro _ ⟨cX7_hasRoom_ct hl0, j, S1, hR, rfl, ?_⟩
        by_cases c2 : s_n S1 < s_m S1
        · rw [if_pos ⟨c, c2⟩] at hK
          rw [q_bi_t (show S1 0 < S1 207 by rw [wn.1, wm.1, nI_ltI (by omega) (by omega)]; exact c2)]
          refine And.intro (fun g => absurd g q_n1) (fun _ => ?_)
          refine Exists.intro _ ⟨cX7_openOne_ct hl0, j, S1, hR, by omega, rfl, fun M2 h1 h2 => ?_⟩
          have en := s_n_op wn.1 (show s_n S1 < 12 by omega)
          have h := ih (s_op S1) M2 (by rw [en]; omega) h1 (q_sm_tr hsm h2) hK
          have ec := s_cf_op (S := S1) (by omega)
          have el : s_l (s_op S1) = s_l S1 := congrArg Int32.toNatClampNeg (s_op_ne (by omega) (by omega) (by omega) (by omega))
          have ev : nI (s_l S1) - nI (s_cf S1 (s_n S1)) + q_i (-1) = nI (s_l (s_op S1)) - nI (s_cf (s_op S1) (s_n (s_op S1))) := by
            rw [q_im1, q_sur c, en, el, ec, pk_sub (show s_cf S1 (s_n S1) + 1 ≤ s_l S1 by omega), show s_l S1 - s_cf S1 (s_n S1) = (s_l S1 - (s_cf S1 (s_n S1) + 1)) + 1 by omega]
            exact pk_m1 _
          rw [← ev] at h
          exact h
        · rw [if_neg (fun g => c2 g.2)] at hK
          rw [q_bi_f (show ¬ S1 0 < S1 207 by rw [wn.1, wm.1, nI_ltI (by omega) (by omega)]; exact c2)]
          exact And.intro (fun _ => hK M1 hR hsm) (fun g => absurd nI_0 g)
  have el : M.1 16 j 0 1 = nI (s_l S) := (hR.2.2.2.2.1 1 (by omega)).trans hR.1.2.2.2.1.1
  apply hz [13] 60
  refine Exists.intro _ ⟨cX7_countIdle_ct hl0, j, S, hR, rfl, ?_⟩
  have h := loop (12 - s_n S) S M rfl hR q_sm_rfl hK
  rw [← el] at h
  exact h
theorem s_tk_1 (S : Nat → Int32) : (s_tk S).1 = (s_sv (s_q (s_t3 S)) (s_t3 S)).1 := by
  unfold s_tk
  dsimp only
theorem s_tk_2 (S : Nat → Int32) : (s_tk S).2 = s_ol (12 - s_n (s_sv (s_q (s_t3 S)) (s_t3 S)).2) (s_sv (s_q (s_t3 S)) (s_t3 S)).2 := by
  unfold s_tk
  dsimp only
theorem s_t3_1 (S : Nat → Int32) : s_t3 S = s_cr (s_n (s_tw (s_lp (s_q (s_t0 S)) 0 (s_t0 S)))) (s_tw (s_lp (s_q (s_t0 S)) 0 (s_t0 S))) := by
  unfold s_t3
  exact Eq.refl _
theorem s_tw_1 (S : Nat → Int32) : s_tw S = s_tb (s_n (s_ta (s_n S) 0 S)) 0 (s_ta (s_n S) 0 S) := by
  unfold s_tw
  exact Eq.refl _
theorem RC_t0 {M : Q_M} {j : Nat} {S : Nat → Int32} (hR : RC j M S) : RC j (q_si M (10, j, 0) 0 (M.1 10 j 0 0 + nI 1)) (s_t0 S) := by
  refine ⟨s_wf_t0 hR.1, ?_⟩
  have wn := hR.1.1.2
  have wq := hR.1.2.1.2
  obtain ⟨hst, hcs, hqu, hse, hac⟩ := hR.2
  have ne : ∀ i, i ≠ 206 → s_t0 S i = S i := fun i h => q_upd_ne h
  unfold RC0
  rw [q_i_e, q_i_2, q_i_r (show 19 ≠ 10 by decide), q_i_r (show 20 ≠ 10 by decide), q_i_r (show 12 ≠ 10 by decide), q_i_r (show 13 ≠ 10 by decide), q_i_r (show 14 ≠ 10 by decide), q_i_r (show 15 ≠ 10 by decide), q_i_r (show 16 ≠ 10 by decide), q_i_r (show 17 ≠ 10 by decide), q_i_r (show 18 ≠ 10 by decide)]
  refine ⟨⟨?_, ?_, ?_⟩, r_cs_c hcs wn (ne _ (by omega)) (fun q hq i h1 h2 => ne _ (by omega)), r_qu_c hqu wq (fun i h1 h2 => ne _ (by omega)), r_se_c hse (fun i h1 h2 => ne _ (by omega)), r_ac_c hac (fun i h1 h2 => ne _ (by omega))⟩
  · rw [q_upd_eq, hst.1]
    exact q_upd_eq.symm
  · rw [q_upd_ne (by decide), ne _ (by omega)]
    exact hst.2.1
  · rw [q_upd_ne (by decide), ne _ (by omega)]
    exact hst.2.2
abbrev pX7_passTicks : Q_P := fun av M K KX => ∃ (j t : Nat) (S : Nat → Int32), RC j M S ∧ t ≤ 1000 ∧ av = [.inr (.inl (10, j, 0)), .inl (nI t)] ∧ ∀ M', RC j M' (s_ps t S).2 → q_sm j M M' → K (some (.inl (nI (s_ps t S).1))) M'
theorem cX7_passTicks_ct {l : Launch} {b : Bool} (hl0 : l.stackTraces = false) : q_Ct l b 59 pX7_passTicks := by
  refine q_meth (by decide +kernel) hl0 TX7_passTicks kX7_passTicks ?_
  intro av M K KX hwf
  rintro ⟨j, t, S, hR, ht, rfl, hK⟩
  refine ⟨Nat.le_of_ble_eq_true rfl, fun Z hz hw => ?_⟩
  have loop : ∀ (d k c : Nat) (S1 : Nat → Int32) (M1 : Q_M), k + d = t → RC j M1 S1 → q_sm j M M1 → (∀ M', RC j M' (s_ps d S1).2 → q_sm j M M' → K (some (.inl (nI (c + (s_ps d S1).1)))) M') → Z 0 4 [(3, .inl (nI k)), (2, .inl (nI c)), (0, .inr (.inl (10, j, 0))), (1, .inl (nI t))] [] M1 := by
    intro d
    induction d with
    | zero =>
      intro k c S1 M1 hk hR hsm hK
      apply hz [4] 60
      refine And.intro (fun _ => hK M1 hR hsm) (fun g => absurd (show nI t ≤ nI k from nI_le (by omega) (by omega)) g)
    | succ d ih =>
      intro k c S1 M1 hk hR hsm hK
      have ek : s_ps (d + 1) S1 = ((s_tk S1).1 + (s_ps d (s_tk S1).2).1, (s_ps d (s_tk S1).2).2) := rfl
      rw [ek] at hK
      dsimp only at hK
      have e1 := s_tk_1 S1
      have e2 := s_tk_2 S1
      generalize hr : s_sv (s_q (s_t3 S1)) (s_t3 S1) = r at e1 e2
      have e3 := s_t3_1 S1
      have R0 := RC_t0 hR
      generalize hS0 : s_t0 S1 = S0 at e3 R0
      generalize hS1 : s_lp (s_q S0) 0 S0 = Sa at e3
      have e4 := s_tw_1 Sa
      generalize hS2 : s_tw Sa = Sb at e3 e4
      generalize hS3 : s_ta (s_n Sa) 0 Sa = Sc at e4
      apply hz [4] 60
      refine And.intro (fun (g : nI t ≤ nI k) => absurd ((nI_leI (by omega) (by omega)).mp g) (by omega)) (fun _ => ?_)
      refine Exists.intro _ ⟨cX7_losePatience_ct hl0, j, S0, R0, rfl, fun M2 h1 h2 => ?_⟩
      rw [hS1] at h1
      refine Exists.intro _ ⟨cX7_takeLeasesAway_ct hl0, j, Sa, h1, rfl, fun M3 h3 h4 => ?_⟩
      rw [hS3] at h3
      refine Exists.intro _ ⟨cX7_closeOldOnes_ct hl0, j, Sc, h3, rfl, fun M4 h5 h6 => ?_⟩
      rw [← e4] at h5
      refine Exists.intro _ ⟨cX7_closeRestedOnes_ct hl0, j, Sb, h5, rfl, fun M5 h7 h8 => ?_⟩
      rw [← e3] at h7
      refine Exists.intro _ ⟨cX7_serve_ct hl0, j, s_t3 S1, h7, rfl, fun M6 h9 h10 => ?_⟩
      rw [hr] at h9 ⊢
      refine Exists.intro _ ⟨cX7_openToLeastIdle_ct hl0, j, r.2, h9, rfl, fun M7 h11 h12 => ?_⟩
      rw [← e2] at h11
      have h := ih (k + 1) (c + r.1) (s_tk S1).2 M7 (by omega) h11 (q_sm_tr hsm (q_sm_tr (q_sm_tr (q_sm_tr (q_sm_tr (q_sm_tr (q_sm_tr (q_sm_si q_sm_rfl (by decide) (by decide)) h2) h4) h6) h8) h10) h12)) (fun M' g1 g2 => by
        have := hK M' g1 g2
        rw [e1] at this
        rw [Nat.add_assoc]
        exact this)
      rw [← nI_add k 1, ← nI_add c r.1] at h
      exact h
  apply hz [4] 60
  exact loop t 0 0 S M (by omega) hR q_sm_rfl (fun M' h1 h2 => by rw [Nat.zero_add]; exact hK M' h1 h2)
/-- closing idle ones while there are too many: at most f -/
def s_tm : Nat → (Nat → Int32) → (Nat → Int32)
  | 0, S => S
  | f + 1, S => if s_m S < s_n S then (match s_fo S false (s_n S) with
    | some p => s_tm f (s_cl S p 4)
    | none => S) else S
abbrev pX7_closeTooMany : Q_P := fun av M K KX => ∃ (j : Nat) (S : Nat → Int32), RC j M S ∧ av = [.inr (.inl (10, j, 0))] ∧ ∀ M', RC j M' (s_tm (s_n S) S) → q_sm j M M' → K none M'
theorem cX7_closeTooMany_ct {l : Launch} {b : Bool} (hl0 : l.stackTraces = false) : q_Ct l b 51 pX7_closeTooMany := by
  refine q_meth (by decide +kernel) hl0 TX7_closeTooMany kX7_closeTooMany ?_
  intro av M K KX hwf
  rintro ⟨j, S, hR, rfl, hK⟩
  refine ⟨Nat.le_of_ble_eq_true rfl, fun Z hz hw => ?_⟩
  have loop : ∀ (f i : Nat) (S1 : Nat → Int32) (M1 : Q_M) (ls : List (Nat × Q_V)), s_n S1 = f → i + f ≤ 12 → RC j M1 S1 → q_sm j M M1 → (∀ M', RC j M' (s_tm f S1) → q_sm j M M' → K none M') → Z 0 2 ((1, .inl (nI i)) :: (0, .inr (.inl (10, j, 0))) :: ls) [] M1 := by
    intro f
    induction f with
    | zero =>
      intro i S1 M1 ls hf hi hR hsm hK
      have e1 : M1.1 10 j 0 1 = nI 0 := by rw [hR.2.1.2.1, hR.1.1.1, hf]
      have e2 : M1.1 16 j 0 0 = nI (s_m S1) := (hR.2.2.2.2.1 0 (by omega)).trans hR.1.2.2.1.1
      have wm := hR.1.2.2.1.2
      refine hw [(1, .inl (nI i)), (0, .inr (.inl (10, j, 0)))] _ _ _ _ _ ?_ (fun q hq => ?_)
      · apply hz [2] 60
        refine And.intro (fun _ => hK M1 hR hsm) (fun _ => And.intro (fun _ => hK M1 hR hsm) (fun g => absurd (show M1.1 10 j 0 1 ≤ M1.1 16 j 0 0 by rw [e1, e2]; exact nI_le (by omega) (by omega)) g))
      · rcases List.mem_cons.mp hq with rfl | hq
        · exact List.mem_cons_self
        · rcases List.mem_cons.mp hq with rfl | hq
          · exact List.mem_cons_of_mem _ List.mem_cons_self
          · exact absurd hq (List.not_mem_nil)
    | succ f ih =>
      intro i S1 M1 ls hf hi hR hsm hK
      have e1 : M1.1 10 j 0 1 = nI (s_n S1) := by rw [hR.2.1.2.1, hR.1.1.1]
      have e2 : M1.1 16 j 0 0 = nI (s_m S1) := (hR.2.2.2.2.1 0 (by omega)).trans hR.1.2.2.1.1
      have wm := hR.1.2.2.1.2
      have wn := hR.1.1.2
      refine hw [(1, .inl (nI i)), (0, .inr (.inl (10, j, 0)))] _ _ _ _ _ ?_ (fun q hq => ?_)
      · unfold s_tm at hK
        apply hz [2] 60
        refine And.intro (fun (g : nI 12 ≤ nI i) => absurd ((nI_leI (by omega) (by omega)).mp g) (by omega)) (fun _ => ?_)
        refine And.intro (fun (g : M1.1 10 j 0 1 ≤ M1.1 16 j 0 0) => ?_) (fun (g : ¬ M1.1 10 j 0 1 ≤ M1.1 16 j 0 0) => ?_)
        · rw [e1, e2, nI_leI (by omega) (by omega)] at g
          rw [if_neg (by omega)] at hK
          exact hK M1 hR hsm
        · rw [e1, e2, nI_leI (by omega) (by omega)] at g
          rw [if_pos (by omega)] at hK
          refine Exists.intro _ ⟨cX7_placeOfIdle_ct hl0, j, S1, false, hR, rfl, ?_⟩
          cases hfo : s_fo S1 false (s_n S1) with
          | none =>
            rw [hfo] at hK
            exact And.intro (fun _ => hK M1 hR hsm) (fun g => absurd rfl g)
          | some p =>
            have hp := s_fo_lt hfo
            rw [hfo] at hK
            refine And.intro (fun g => absurd (Eq.symm g) (q_m1n (by omega))) (fun _ => ?_)
            refine Exists.intro _ ⟨cX7_closeAt_ct hl0, j, p, 4, S1, hR, hp, by decide, rfl, fun M2 h1 h2 => ?_⟩
            have en := s_n_cl hR.1 (c := 4) hp
            have h := ih (i + 1) (s_cl S1 p 4) M2 [(2, .inl (nI p))] (by rw [en, hf]; rfl) (by omega) h1 (q_sm_tr hsm h2) hK
            rw [← nI_add i 1] at h
            refine hw _ _ _ _ _ _ h (fun q hq => ?_)
            simp only [List.mem_cons] at hq
            rcases hq with rfl | rfl | rfl | hq
            · exact List.mem_cons_self
            · exact List.mem_cons_of_mem _ (List.mem_cons_of_mem _ List.mem_cons_self)
            · exact List.mem_cons_of_mem _ List.mem_cons_self
            · exact absurd hq (List.not_mem_nil)
      · rcases List.mem_cons.mp hq with rfl | hq
        · exact List.mem_cons_self
        · rcases List.mem_cons.mp hq with rfl | hq
          · exact List.mem_cons_of_mem _ List.mem_cons_self
          · exact absurd hq (List.not_mem_nil)
  apply hz [2] 60
  exact loop (s_n S) 0 S M [] rfl (by have := hR.1.1.2; omega) hR q_sm_rfl hK
