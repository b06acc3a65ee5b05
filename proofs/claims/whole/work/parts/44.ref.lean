-- THE REFERENCE'S CALLS: BUFFER, SLOTS, NUTS
theorem q_char {c : Nat} (h : c < 256) : vp_nar .char ((nI c).toUInt32 % 65536).toInt32 = nI c := (pk_vc _).trans (sb_byte c h).2.1
def d_bf (M : Q_M) (n : Nat) : Q_M := q_sa M (21, 0, 0) (upd (upd (M.1 21 0 0) 3 (nI 0)) 5 (nI n))
abbrev pX9_append : Q_P := fun av M K KX => ∃ (a : Int32) (n : Nat), n ≤ 60 ∧ M.1 21 0 0 5 = nI n ∧ av = [.inr (.inl (21, 0, 0)), .inl a] ∧ (∀ c, 33 ≤ c → c ≤ 126 → a = nI c → n < 60 → K (some (.inl (nI (n + 1)))) (q_si (d_bf M (n + 1)) (24, 0, 0) n (nI c))) ∧ (¬ s_rg 33 126 a → K (some (.inl (nI 0))) (q_si M (21, 0, 0) 3 (nI 1))) ∧ (s_rg 33 126 a → n = 60 → K (some (.inl (nI 0))) (q_si M (21, 0, 0) 3 (nI 2)))
theorem cX9_append_ct {l : Launch} {b : Bool} (hl0 : l.stackTraces = false) : q_Ct l b 194 pX9_append := by
  refine q_meth (by decide +kernel) hl0 TX9_append kX9_append ?_
  intro av M K KX hwf
  rintro ⟨a, n, hn, h5, rfl, hK, hX, hX2⟩
  refine ⟨Nat.le_of_ble_eq_true rfl, fun Z hz hw => ?_⟩
  apply hz [] 100
  refine Exists.intro _ ⟨cX9_in_ct hl0, a, nI 33, nI 126, rfl, ?_⟩
  by_cases c : s_rg 33 126 a
  · have cc : nI 33 ≤ a ∧ a ≤ nI 126 := c
    rw [q_bi_t cc]
    have hX2 := hX2 c
    obtain ⟨m, hm0, hm, e⟩ := s_rg_n (lo := 33) (hi := 126) (by omega) (by omega) c
    refine And.intro (fun (g : nI 60 ≤ M.1 21 0 0 5) => ?_) (fun (g : ¬ nI 60 ≤ M.1 21 0 0 5) => ?_)
    · rw [h5, nI_leI (by omega) (by omega)] at g
      refine Exists.intro _ ⟨cX9_gos_ct hl0, 2, nI 1, nI 0, nI 1, by decide, rfl, fun g => absurd g (by decide), fun _ => ?_⟩
      refine And.intro (fun _ => ?_) (fun g => absurd nI_0 g)
      exact hX2 (by omega)
    · rw [h5, nI_leI (by omega) (by omega)] at g
      refine Exists.intro _ ⟨cX9_gos_ct hl0, 0, nI 1, nI 1, nI 1, by decide, rfl, fun _ => ?_, fun g => absurd rfl g⟩
      refine And.intro (fun g => absurd g q_n1) (fun _ => ?_)
      have e5 : (q_si M (21, 0, 0) 3 (nI 0)).1 21 0 0 5 = nI n := by
        rw [q_i_e, q_upd_ne (by decide)]
        exact h5
      refine Exists.intro n ⟨e5, by omega, ?_⟩
      have hK := hK m hm0 hm e (by omega)
      have em : q_si (q_si (q_si M (21, 0, 0) 3 (nI 0)) (24, 0, 0) n (vp_nar .char (a.toUInt32 % 65536).toInt32)) (21, 0, 0) 5 ((q_si (q_si M (21, 0, 0) 3 (nI 0)) (24, 0, 0) n (vp_nar .char (a.toUInt32 % 65536).toInt32)).1 21 0 0 5 + nI 1) = q_si (d_bf M (n + 1)) (24, 0, 0) n (nI m) := by
        rw [e, q_char (by omega), q_i_r (show 21 ≠ 24 by decide), e5, nI_add]
        unfold d_bf
        rw [q_si21, q_si21, q_i_r (show 21 ≠ 24 by decide), q_r21, q_si_sa _ (24, 0, 0), q_si_sa _ (24, 0, 0), q_sa_comm _ (24, 0, 0) (21, 0, 0) _ _ (by decide), q_sa_sa]
        rfl
      refine q_K hK ?_ em
      show some (Sum.inl ((q_si (q_si (q_si M (21, 0, 0) 3 (nI 0)) (24, 0, 0) n (vp_nar .char (a.toUInt32 % 65536).toInt32)) (21, 0, 0) 5 ((q_si (q_si M (21, 0, 0) 3 (nI 0)) (24, 0, 0) n (vp_nar .char (a.toUInt32 % 65536).toInt32)).1 21 0 0 5 + nI 1)).1 21 0 0 5)) = _
      rw [q_i_e, q_upd_eq, q_i_r (show 21 ≠ 24 by decide), e5, nI_add]
  · have cc : ¬ (nI 33 ≤ a ∧ a ≤ nI 126) := c
    rw [q_bi_f cc]
    refine And.intro (fun (g : nI 60 ≤ M.1 21 0 0 5) => ?_) (fun (g : ¬ nI 60 ≤ M.1 21 0 0 5) => ?_)
    · refine Exists.intro _ ⟨cX9_gos_ct hl0, 1, nI 0, nI 0, nI 1, by decide, rfl, fun g => absurd g (by decide), fun _ => ?_⟩
      refine And.intro (fun _ => ?_) (fun g => absurd nI_0 g)
      exact hX c
    · refine Exists.intro _ ⟨cX9_gos_ct hl0, 1, nI 0, nI 1, nI 1, by decide, rfl, fun g => absurd g (by decide), fun _ => ?_⟩
      refine And.intro (fun _ => ?_) (fun g => absurd nI_0 g)
      exact hX c
abbrev pX9_clearBuffer : Q_P := fun av M K KX => ∃ n : Nat, M.1 21 0 0 5 = nI n ∧ av = [.inr (.inl (21, 0, 0))] ∧ K (some (.inl (nI n))) (d_bf M 0)
theorem cX9_clearBuffer_ct {l : Launch} {b : Bool} (hl0 : l.stackTraces = false) : q_Ct l b 195 pX9_clearBuffer := by
  refine q_meth (by decide +kernel) hl0 TX9_clearBuffer kX9_clearBuffer ?_
  intro av M K KX hwf
  rintro ⟨n, h5, rfl, hK⟩
  refine ⟨Nat.le_of_ble_eq_true rfl, fun Z hz hw => ?_⟩
  apply hz [] 60
  refine q_K hK ?_ ?_
  · show some (Sum.inl ((q_si M (21, 0, 0) 3 (nI 0)).1 21 0 0 5)) = _
    rw [q_i_e, q_upd_ne (by decide), h5]
  · show q_si (q_si M (21, 0, 0) 3 (nI 0)) (21, 0, 0) 5 (nI 0) = _
    unfold d_bf
    rw [q_si21, q_si21, q_sa_sa, q_r21]
abbrev pX9_keep : Q_P := fun av M K KX => ∃ (a : Int32), av = [.inr (.inl (21, 0, 0)), .inl a] ∧ (∀ k, k < 2 → a = nI k → K none (q_si (q_sa (q_si M (21, 0, 0) 3 (nI 0)) (22, 0, 0) (s_cp (M.1 22 0 0) 0 (7 + k))) (23, 0, 0) k (nI 1))) ∧ (¬ s_rg 0 1 a → K none (q_si M (21, 0, 0) 3 (nI 1)))
theorem cX9_keep_ct {l : Launch} {b : Bool} (hl0 : l.stackTraces = false) : q_Ct l b 205 pX9_keep := by
  refine q_meth (by decide +kernel) hl0 TX9_keep kX9_keep ?_
  intro av M K KX hwf
  rintro ⟨a, rfl, hK, hX⟩
  refine ⟨Nat.le_of_ble_eq_true rfl, fun Z hz hw => ?_⟩
  apply hz [] 100
  refine Exists.intro _ ⟨cX9_in_ct hl0, a, nI 0, nI 1, rfl, ?_⟩
  by_cases c : s_rg 0 1 a
  · have cc : nI 0 ≤ a ∧ a ≤ nI 1 := c
    rw [q_bi_t cc]
    refine Exists.intro _ ⟨cX9_gos_ct hl0, 0, nI 1, nI 1, nI 1, by decide, rfl, fun _ => ?_, fun g => absurd rfl g⟩
    refine And.intro (fun g => absurd g q_n1) (fun _ => ?_)
    obtain ⟨k, -, hk, e⟩ := s_rg_n (lo := 0) (hi := 1) (by omega) (by omega) c
    subst e
    refine Exists.intro _ ⟨cX9_copies_ct hl0, 0, 7 + k, by omega, by omega, congrArg (fun x => ([.inr (.inl (21, 0, 0)), .inl (nI 0), .inl x] : List Q_V)) (nI_add 7 k), ?_⟩
    refine Exists.intro k ⟨rfl, by omega, Or.inr rfl, ?_⟩
    exact hK k (by omega) rfl
  · have cc : ¬ (nI 0 ≤ a ∧ a ≤ nI 1) := c
    rw [q_bi_f cc]
    refine Exists.intro _ ⟨cX9_gos_ct hl0, 1, nI 0, nI 1, nI 1, by decide, rfl, fun g => absurd g (by decide), fun _ => ?_⟩
    refine And.intro (fun _ => ?_) (fun g => absurd nI_0 g)
    exact hX c
abbrev pX9_goBack : Q_P := fun av M K KX => ∃ (a : Int32) (h : Nat), h ≤ 6 ∧ M.1 21 0 0 1 = nI h ∧ (∀ k, k < 2 → q_bit (M.1 23 0 0 k)) ∧ av = [.inr (.inl (21, 0, 0)), .inl a] ∧ (∀ k, k < 2 → a = nI k → M.1 23 0 0 k = nI 1 → K none (d_rf M h (s_cp (s_sav (M.1 22 0 0) h) (7 + k) 0))) ∧ (¬ s_rg 0 1 a → K none (q_si M (21, 0, 0) 3 (nI 1))) ∧ (∀ k, k < 2 → a = nI k → ¬ M.1 23 0 0 k = nI 1 → K none (q_si M (21, 0, 0) 3 (nI 2)))
theorem cX9_goBack_ct {l : Launch} {b : Bool} (hl0 : l.stackTraces = false) : q_Ct l b 206 pX9_goBack := by
  refine q_meth (by decide +kernel) hl0 TX9_goBack kX9_goBack ?_
  intro av M K KX hwf
  rintro ⟨a, h, hh, h1, hb, rfl, hK, hX, hX2⟩
  refine ⟨Nat.le_of_ble_eq_true rfl, fun Z hz hw => ?_⟩
  apply hz [] 100
  refine Exists.intro _ ⟨cX9_in_ct hl0, a, nI 0, nI 1, rfl, ?_⟩
  by_cases c : s_rg 0 1 a
  · have cc : nI 0 ≤ a ∧ a ≤ nI 1 := c
    rw [q_bi_t cc]
    refine And.intro (fun g => absurd g q_n1) (fun _ => ?_)
    obtain ⟨k, -, hk, e⟩ := s_rg_n (lo := 0) (hi := 1) (by omega) (by omega) c
    subst e
    refine Exists.intro k ⟨rfl, by omega, ?_⟩
    refine And.intro (fun (g : M.1 23 0 0 k = 0) => ?_) (fun (g : ¬ M.1 23 0 0 k = 0) => ?_)
    · refine Exists.intro _ ⟨cX9_gos_ct hl0, 2, nI 1, nI 0, nI 1, by decide, rfl, fun g => absurd g (by decide), fun _ => ?_⟩
      refine And.intro (fun _ => ?_) (fun g => absurd nI_0 g)
      exact hX2 k (by omega) rfl (fun g2 => by rw [g2] at g; exact q_n1 g)
    · have g1 : M.1 23 0 0 k = nI 1 := by
        rcases hb k (by omega) with g2 | g2
        · exact absurd (g2.trans nI_0) g
        · exact g2
      refine Exists.intro _ ⟨cX9_gos_ct hl0, 0, nI 1, nI 1, nI 1, by decide, rfl, fun _ => ?_, fun g => absurd rfl g⟩
      refine And.intro (fun g => absurd g q_n1) (fun _ => ?_)
      refine Exists.intro _ ⟨cX9_saves2_ct hl0, M, h, rfl, hh, h1, rfl, ?_⟩
      refine Exists.intro _ ⟨cX9_copies_ct hl0, 7 + k, 0, by omega, by omega, congrArg (fun x => ([.inr (.inl (21, 0, 0)), .inl x, .inl (nI 0)] : List Q_V)) (nI_add 7 k), ?_⟩
      rw [d_rf_sa, d_rf_22]
      exact hK k (by omega) rfl g1
  · have cc : ¬ (nI 0 ≤ a ∧ a ≤ nI 1) := c
    rw [q_bi_f cc]
    refine And.intro (fun _ => ?_) (fun g => absurd nI_0 g)
    refine Exists.intro _ ⟨cX9_gos_ct hl0, 1, nI 0, nI 0, nI 1, by decide, rfl, fun g => absurd g (by decide), fun _ => ?_⟩
    refine And.intro (fun _ => ?_) (fun g => absurd nI_0 g)
    exact hX c
abbrev pX9_undo : Q_P := fun av M K KX => ∃ (h : Nat), h ≤ 6 ∧ M.1 21 0 0 1 = nI h ∧ av = [.inr (.inl (21, 0, 0))] ∧ (0 < h → K none (q_sa (q_sa M (21, 0, 0) (upd (upd (M.1 21 0 0) 3 (nI 0)) 1 (nI (h - 1)))) (22, 0, 0) (s_cp (M.1 22 0 0) h 0))) ∧ (h = 0 → K none (q_si M (21, 0, 0) 3 (nI 1)))
theorem cX9_undo_ct {l : Launch} {b : Bool} (hl0 : l.stackTraces = false) : q_Ct l b 207 pX9_undo := by
  refine q_meth (by decide +kernel) hl0 TX9_undo kX9_undo ?_
  intro av M K KX hwf
  rintro ⟨h, hh, h1, rfl, hK, hX⟩
  refine ⟨Nat.le_of_ble_eq_true rfl, fun Z hz hw => ?_⟩
  apply hz [] 100
  refine And.intro (fun (g : M.1 21 0 0 1 ≤ 0) => ?_) (fun (g : ¬ M.1 21 0 0 1 ≤ 0) => ?_)
  · rw [h1, ← nI_0, nI_leI (by omega) (by omega)] at g
    refine Exists.intro _ ⟨cX9_gos_ct hl0, 1, nI 0, nI 1, nI 1, by decide, rfl, fun g => absurd g (by decide), fun _ => ?_⟩
    refine And.intro (fun _ => ?_) (fun g => absurd nI_0 g)
    exact hX (by omega)
  · have g0 : 0 < h := Nat.pos_of_ne_zero (fun c => g (by rw [h1, c]; decide))
    refine Exists.intro _ ⟨cX9_gos_ct hl0, 0, nI 1, nI 1, nI 1, by decide, rfl, fun _ => ?_, fun g => absurd rfl g⟩
    refine And.intro (fun g => absurd g q_n1) (fun _ => ?_)
    have e1 : (q_si M (21, 0, 0) 3 (nI 0)).1 21 0 0 1 = nI h := by
      rw [q_i_e, q_upd_ne (by decide)]
      exact h1
    refine Exists.intro _ ⟨cX9_copies_ct hl0, h, 0, by omega, by omega, congrArg (fun x => ([.inr (.inl (21, 0, 0)), .inl x, .inl (nI 0)] : List Q_V)) e1, ?_⟩
    refine q_K (hK g0) rfl ?_
    show q_si (q_sa (q_si M (21, 0, 0) 3 (nI 0)) (22, 0, 0) (s_cp (M.1 22 0 0) h 0)) (21, 0, 0) 1 ((q_si M (21, 0, 0) 3 (nI 0)).1 21 0 0 1 - nI 1) = _
    rw [e1, pk_sub (by omega), q_si21, q_r2122, q_c2221, q_si21, q_r21, q_sa_sa]
abbrev pX9_waiterAt : Q_P := fun av M K KX => ∃ (a : Int32), s_wf (M.1 22 0 0) ∧ av = [.inr (.inl (21, 0, 0)), .inl a] ∧ (∀ k, k < s_q (M.1 22 0 0) → a = nI k → K (some (.inl ((M.1 22 0 0) (146 + 3 * k)))) (q_si M (21, 0, 0) 3 (nI 0))) ∧ (¬ (nI 0 ≤ a ∧ a ≤ (M.1 22 0 0) 145 - nI 1) → K (some (.inl (nI 0))) (q_si M (21, 0, 0) 3 (nI 1)))
theorem cX9_waiterAt_ct {l : Launch} {b : Bool} (hl0 : l.stackTraces = false) : q_Ct l b 238 pX9_waiterAt := by
  refine q_meth (by decide +kernel) hl0 TX9_waiterAt kX9_waiterAt ?_
  intro av M K KX hwf
  rintro ⟨a, w, rfl, hK, hX⟩
  refine ⟨Nat.le_of_ble_eq_true rfl, fun Z hz hw => ?_⟩
  obtain ⟨wq, wq2⟩ := w.2.1
  have e1 : ((M.1 22 0 0) 145 - nI 1).toInt = (s_q (M.1 22 0 0) : Int) - 1 := by
    rw [show (M.1 22 0 0) 145 - nI 1 = nI (s_q (M.1 22 0 0)) - nI 1 by rw [← wq]]
    exact pk_sub_toInt (by omega) (by omega)
  apply hz [] 100
  refine Exists.intro 145 ⟨rfl, by decide, ?_⟩
  refine Exists.intro _ ⟨cX9_in_ct hl0, a, nI 0, (M.1 22 0 0) 145 - nI 1, rfl, ?_⟩
  by_cases c : nI 0 ≤ a ∧ a ≤ (M.1 22 0 0) 145 - nI 1
  · rw [q_bi_t c]
    refine Exists.intro _ ⟨cX9_gos_ct hl0, 0, nI 1, nI 1, nI 1, by decide, rfl, fun _ => ?_, fun g => absurd rfl g⟩
    refine And.intro (fun g => absurd g q_n1) (fun _ => ?_)
    have l1 := Int32.le_iff_toInt_le.mp c.1
    have l2 := Int32.le_iff_toInt_le.mp c.2
    rw [nI_toInt (by omega)] at l1
    rw [e1] at l2
    have ea : a = nI a.toInt.toNat := by
      apply Int32.toInt_inj.mp
      rw [nI_toInt (by omega)]
      omega
    have hK := hK a.toInt.toNat (by omega) ea
    refine Exists.intro _ ⟨cX9_waiter_ct hl0, a.toInt.toNat, congrArg (fun x => ([.inl x] : List Q_V)) ea, ?_⟩
    exact Exists.intro (146 + 3 * a.toInt.toNat) ⟨rfl, by omega, hK⟩
  · rw [q_bi_f c]
    refine Exists.intro _ ⟨cX9_gos_ct hl0, 1, nI 0, nI 1, nI 1, by decide, rfl, fun g => absurd g (by decide), fun _ => ?_⟩
    refine And.intro (fun _ => ?_) (fun g => absurd nI_0 g)
    exact hX c
abbrev pX9_nutAt : Q_P := fun av M K KX => ∃ (a y : Int32), s_wf (M.1 22 0 0) ∧ av = [.inr (.inl (21, 0, 0)), .inl a, .inl y] ∧ (∀ p k, p < s_n (M.1 22 0 0) → a = nI p → k < s_c (M.1 22 0 0) p → y = nI k → K (some (.inl ((M.1 22 0 0) (9 + 12 * p + k)))) (q_si M (21, 0, 0) 3 (nI 0))) ∧ (¬ s_lp1 (M.1 22 0 0) a → K (some (.inl (nI 0))) (q_si M (21, 0, 0) 3 (nI 1))) ∧ (∀ p, p < s_n (M.1 22 0 0) → a = nI p → ¬ (nI 0 ≤ y ∧ y ≤ (M.1 22 0 0) (8 + 12 * p) - nI 1) → K (some (.inl (nI 0))) (q_si M (21, 0, 0) 3 (nI 1)))
theorem cX9_nutAt_ct {l : Launch} {b : Bool} (hl0 : l.stackTraces = false) : q_Ct l b 224 pX9_nutAt := by
  refine q_meth (by decide +kernel) hl0 TX9_nutAt kX9_nutAt ?_
  intro av M K KX hwf
  rintro ⟨a, y, w, rfl, hK, hX, hX2⟩
  refine ⟨Nat.le_of_ble_eq_true rfl, fun Z hz hw => ?_⟩
  obtain ⟨w0, wn⟩ := w.1
  apply hz [] 100
  refine Exists.intro _ ⟨cX9_isLink_ct hl0, a, rfl, ?_⟩
  by_cases c : s_lp1 (M.1 22 0 0) a
  · rw [q_bi_t c]
    obtain ⟨p, hp, e⟩ := s_lp1_e w c
    subst e
    have hK := fun k => hK p k hp rfl
    have hX2 := hX2 p hp rfl
    obtain ⟨m, hm, h8⟩ := (w.2.2.2.2.2.1 p hp).2.2
    have ec : s_c (M.1 22 0 0) p = m := s_of h8 (by omega)
    have e1 : ((M.1 22 0 0) (8 + 12 * p) - nI 1).toInt = (m : Int) - 1 := by
      rw [h8]
      exact pk_sub_toInt (by omega) (by omega)
    refine And.intro (fun g => absurd g q_n1) (fun _ => ?_)
    refine And.intro (fun g => absurd g q_n1) (fun _ => ?_)
    refine Exists.intro _ ⟨cX9_link_ct hl0, p, rfl, ?_⟩
    refine Exists.intro (8 + 12 * p) ⟨(nI_add _ 7).trans (congrArg nI (by omega)), by omega, ?_⟩
    refine Exists.intro _ ⟨cX9_in_ct hl0, y, nI 0, (M.1 22 0 0) (8 + 12 * p) - nI 1, rfl, ?_⟩
    by_cases g : nI 0 ≤ y ∧ y ≤ (M.1 22 0 0) (8 + 12 * p) - nI 1
    · rw [q_bi_t g]
      refine And.intro (fun g => absurd g q_n1) (fun _ => ?_)
      refine Exists.intro _ ⟨cX9_gos_ct hl0, 0, nI 1, nI 1, nI 1, by decide, rfl, fun _ => ?_, fun g => absurd rfl g⟩
      refine And.intro (fun g => absurd g q_n1) (fun _ => ?_)
      have l1 := Int32.le_iff_toInt_le.mp g.1
      have l2 := Int32.le_iff_toInt_le.mp g.2
      rw [nI_toInt (by omega)] at l1
      rw [e1] at l2
      have ey : y = nI y.toInt.toNat := by
        apply Int32.toInt_inj.mp
        rw [nI_toInt (by omega)]
        omega
      have hK := hK y.toInt.toNat (by omega) ey
      refine Exists.intro _ ⟨cX9_link_ct hl0, p, rfl, ?_⟩
      refine Exists.intro (9 + 12 * p + y.toInt.toNat) ⟨?_, by omega, hK⟩
      show nI (1 + 12 * p) + nI 8 + y = _
      have e9 : nI (1 + 12 * p) + nI 8 + y = nI (1 + 12 * p) + nI 8 + nI y.toInt.toNat := congrArg (fun z => nI (1 + 12 * p) + nI 8 + z) ey
      rw [e9, nI_add, nI_add]
      exact congrArg nI (by omega)
    · rw [q_bi_f g]
      refine And.intro (fun _ => ?_) (fun g => absurd nI_0 g)
      refine Exists.intro _ ⟨cX9_gos_ct hl0, 1, nI 0, nI 1, nI 1, by decide, rfl, fun g => absurd g (by decide), fun _ => ?_⟩
      refine And.intro (fun _ => ?_) (fun g => absurd nI_0 g)
      exact hX2 g
  · rw [q_bi_f c]
    refine And.intro (fun _ => ?_) (fun g => absurd nI_0 g)
    refine Exists.intro _ ⟨cX9_gos_ct hl0, 1, nI 0, nI 1, nI 1, by decide, rfl, fun g => absurd g (by decide), fun _ => ?_⟩
    refine And.intro (fun _ => ?_) (fun g => absurd nI_0 g)
    exact hX c
abbrev pX9_wouldHit : Q_P := fun av M K KX => ∃ (a : Int32), s_wf (M.1 22 0 0) ∧ av = [.inr (.inl (21, 0, 0)), .inl a] ∧ (∀ p, s_rg 0 29 a → s_nx (M.1 22 0 0) = some p → K (some (.inl (q_bi (s_hs (M.1 22 0 0) p a = true ∧ (M.1 22 0 0) (4 + 12 * p) = nI 0)))) (q_si M (21, 0, 0) 3 (nI 0))) ∧ (¬ s_rg 0 29 a → K (some (.inl (nI 0))) (q_si M (21, 0, 0) 3 (nI 1))) ∧ (s_rg 0 29 a → s_nx (M.1 22 0 0) = none → K (some (.inl (nI 0))) (q_si M (21, 0, 0) 3 (nI 2)))
theorem cX9_wouldHit_ct {l : Launch} {b : Bool} (hl0 : l.stackTraces = false) : q_Ct l b 249 pX9_wouldHit := by
  refine q_meth (by decide +kernel) hl0 TX9_wouldHit kX9_wouldHit ?_
  intro av M K KX hwf
  rintro ⟨a, w, rfl, hK, hX, hX2⟩
  refine ⟨Nat.le_of_ble_eq_true rfl, fun Z hz hw => ?_⟩
  obtain ⟨w0, wn⟩ := w.1
  apply hz [] 100
  refine Exists.intro _ ⟨cX9_lentNext_ct hl0, s_n (M.1 22 0 0), wn, w0, rfl, ?_⟩
  refine Exists.intro _ ⟨cX9_in_ct hl0, a, nI 0, nI 29, rfl, ?_⟩
  by_cases c : s_rg 0 29 a
  · have cc : nI 0 ≤ a ∧ a ≤ nI 29 := c
    rw [q_bi_t cc]
    have hX2 := hX2 c
    cases hl : s_nx (M.1 22 0 0) with
    | none =>
      refine And.intro (fun _ => ?_) (fun g => absurd (show s_oi none < 0 by decide) g)
      refine Exists.intro _ ⟨cX9_gos_ct hl0, 2, nI 1, nI 0, nI 1, by decide, rfl, fun g => absurd g (by decide), fun _ => ?_⟩
      refine And.intro (fun _ => ?_) (fun g => absurd nI_0 g)
      exact And.intro (Or.inl rfl) (hX2 hl)
    | some p =>
      have hp := s_nx_lt hl
      have hK := hK p c hl
      obtain ⟨m, hm, h8⟩ := (w.2.2.2.2.2.1 p hp).2.2
      have ec : s_c (M.1 22 0 0) p = m := s_of h8 (by omega)
      refine And.intro (fun g => absurd g (nI_pos (by omega))) (fun _ => ?_)
      refine Exists.intro _ ⟨cX9_gos_ct hl0, 0, nI 1, nI 1, nI 1, by decide, rfl, fun _ => ?_, fun g => absurd rfl g⟩
      refine And.intro (fun g => absurd g q_n1) (fun _ => ?_)
      refine Exists.intro _ ⟨cX9_isNutIn_ct hl0, p, m, a, by omega, hm, h8, rfl, ?_⟩
      have es : s_nu ((q_si M (21, 0, 0) 3 (nI 0)).1 22 0 0) p a m = s_hs (M.1 22 0 0) p a := by
        unfold s_hs
        rw [ec]
        rfl
      rw [es]
      by_cases g : s_hs (M.1 22 0 0) p a = true
      · rw [q_bi_t g]
        refine And.intro (fun g => absurd g q_n1) (fun _ => ?_)
        refine Exists.intro _ ⟨cX9_link_ct hl0, p, rfl, ?_⟩
        refine Exists.intro (4 + 12 * p) ⟨(nI_add _ 3).trans (congrArg nI (by omega)), by omega, ?_⟩
        refine And.intro (fun (g2 : (M.1 22 0 0) (4 + 12 * p) = 0) => ?_) (fun (g2 : ¬ (M.1 22 0 0) (4 + 12 * p) = 0) => ?_)
        · rw [q_bi_t ⟨g, g2.trans nI_0.symm⟩] at hK
          exact And.intro (Or.inr rfl) hK
        · rw [q_bi_f (fun g3 => g2 (g3.2.trans nI_0))] at hK
          exact And.intro (Or.inl rfl) hK
      · rw [q_bi_f g]
        rw [q_bi_f (fun g3 => g g3.1)] at hK
        refine And.intro (fun _ => ?_) (fun g => absurd nI_0 g)
        exact And.intro (Or.inl rfl) hK
  · have cc : ¬ (nI 0 ≤ a ∧ a ≤ nI 29) := c
    rw [q_bi_f cc]
    cases hl : s_nx (M.1 22 0 0) with
    | none =>
      refine And.intro (fun _ => ?_) (fun g => absurd (show s_oi none < 0 by decide) g)
      refine Exists.intro _ ⟨cX9_gos_ct hl0, 1, nI 0, nI 0, nI 1, by decide, rfl, fun g => absurd g (by decide), fun _ => ?_⟩
      refine And.intro (fun _ => ?_) (fun g => absurd nI_0 g)
      exact And.intro (Or.inl rfl) (hX c)
    | some p =>
      have hp := s_nx_lt hl
      refine And.intro (fun g => absurd g (nI_pos (by omega))) (fun _ => ?_)
      refine Exists.intro _ ⟨cX9_gos_ct hl0, 1, nI 0, nI 1, nI 1, by decide, rfl, fun g => absurd g (by decide), fun _ => ?_⟩
      refine And.intro (fun _ => ?_) (fun g => absurd nI_0 g)
      exact And.intro (Or.inl rfl) (hX c)
abbrev pX9_idleWith : Q_P := fun av M K KX => ∃ (a : Int32), s_wf (M.1 22 0 0) ∧ av = [.inr (.inl (21, 0, 0)), .inl a] ∧ (s_rg 0 29 a → K (some (.inl (nI (s_iw (M.1 22 0 0) a (s_n (M.1 22 0 0)))))) (q_si M (21, 0, 0) 3 (nI 0))) ∧ (¬ s_rg 0 29 a → K (some (.inl (nI 0))) (q_si M (21, 0, 0) 3 (nI 1)))
theorem cX9_idleWith_ct {l : Launch} {b : Bool} (hl0 : l.stackTraces = false) : q_Ct l b 250 pX9_idleWith := by
  refine q_meth (by decide +kernel) hl0 TX9_idleWith kX9_idleWith ?_
  intro av M K KX hwf
  rintro ⟨a, w, rfl, hK, hX⟩
  refine ⟨Nat.le_of_ble_eq_true rfl, fun Z hz hw => ?_⟩
  obtain ⟨w0, wn⟩ := w.1
  obtain ⟨M1, hM1⟩ : ∃ M1, M1 = q_si M (21, 0, 0) 3 (nI 0) := ⟨_, rfl⟩
  have e22 : M1.1 22 0 0 = (M.1 22 0 0) := by rw [hM1]; rfl
  have loop : s_rg 0 29 a → ∀ (d k : Nat), k + d = s_n (M.1 22 0 0) → Z 0 22 [(3, .inl (nI k)), (2, .inl (nI (s_iw (M.1 22 0 0) a k))), (0, .inr (.inl (21, 0, 0))), (1, .inl a)] [] M1 := by
    intro c d
    induction d with
    | zero =>
      intro k hk
      obtain rfl : k = s_n (M.1 22 0 0) := by omega
      have hK := hK c
      rw [← hM1] at hK
      apply hz [22] 60
      refine Exists.intro 0 ⟨rfl, by decide, ?_⟩
      refine And.intro (fun _ => hK) (fun g => absurd (show M1.1 22 0 0 0 ≤ nI (s_n (M.1 22 0 0)) by rw [e22, w0]; exact nI_le (by omega) (by omega)) g)
    | succ d ih =>
      intro k hk
      have h := ih (k + 1) (by omega)
      have es : s_iw (M.1 22 0 0) a (k + 1) = s_iw (M.1 22 0 0) a k + (if (M.1 22 0 0) (3 + 12 * k) < 0 ∧ s_hs (M.1 22 0 0) k a = true then 1 else 0) := rfl
      obtain ⟨m, hm, h8⟩ := (w.2.2.2.2.2.1 k (by omega)).2.2
      have ec : s_c (M.1 22 0 0) k = m := s_of h8 (by omega)
      have add : ∀ i : Nat, s_iw (M.1 22 0 0) a (k + 1) = s_iw (M.1 22 0 0) a k + i → Z 0 55 [(3, .inl (nI k)), (2, .inl (nI (s_iw (M.1 22 0 0) a k))), (0, .inr (.inl (21, 0, 0))), (1, .inl a)] [.inl (nI i), .inl (nI (s_iw (M.1 22 0 0) a k))] M1 := by
        intro i e
        rw [e, ← nI_add k 1, ← nI_add (s_iw (M.1 22 0 0) a k) i] at h
        apply hz [22] 60
        exact h
      apply hz [22, 55] 60
      refine Exists.intro 0 ⟨rfl, by decide, ?_⟩
      refine And.intro (fun g => ?_) (fun _ => ?_)
      · have g : M1.1 22 0 0 0 ≤ nI k := g
        rw [e22, w0, nI_leI (by omega) (by omega)] at g
        omega
      · refine Exists.intro _ ⟨cX9_isFree_ct hl0, k, by omega, rfl, ?_⟩
        rw [e22]
        by_cases g : (M.1 22 0 0) (3 + 12 * k) < 0
        · rw [q_bi_t g]
          refine And.intro (fun g => absurd g q_n1) (fun _ => ?_)
          refine Exists.intro _ ⟨cX9_isNutIn_ct hl0, k, m, a, by omega, hm, by rw [e22]; exact h8, rfl, ?_⟩
          rw [e22, show s_nu (M.1 22 0 0) k a m = s_hs (M.1 22 0 0) k a by unfold s_hs; rw [ec]]
          by_cases g2 : s_hs (M.1 22 0 0) k a = true
          · rw [q_bi_t g2]
            refine And.intro (fun g => absurd g q_n1) (fun _ => ?_)
            rw [if_pos ⟨g, g2⟩] at es
            exact add 1 es
          · rw [q_bi_f g2]
            refine And.intro (fun _ => ?_) (fun g => absurd nI_0 g)
            rw [if_neg (fun g3 => g2 g3.2)] at es
            exact add 0 es
        · rw [q_bi_f g]
          refine And.intro (fun _ => ?_) (fun g => absurd nI_0 g)
          rw [if_neg (fun g3 => g g3.1)] at es
          exact add 0 es
  apply hz [22] 100
  refine Exists.intro _ ⟨cX9_in_ct hl0, a, nI 0, nI 29, rfl, ?_⟩
  by_cases c : s_rg 0 29 a
  · have cc : nI 0 ≤ a ∧ a ≤ nI 29 := c
    rw [q_bi_t cc]
    refine Exists.intro _ ⟨cX9_gos_ct hl0, 0, nI 1, nI 1, nI 1, by decide, rfl, fun _ => ?_, fun g => absurd rfl g⟩
    refine And.intro (fun g => absurd g q_n1) (fun _ => ?_)
    have h := loop c (s_n (M.1 22 0 0)) 0 (by omega)
    rw [hM1] at h
    exact h
  · have cc : ¬ (nI 0 ≤ a ∧ a ≤ nI 29) := c
    rw [q_bi_f cc]
    refine Exists.intro _ ⟨cX9_gos_ct hl0, 1, nI 0, nI 1, nI 1, by decide, rfl, fun g => absurd g (by decide), fun _ => ?_⟩
    refine And.intro (fun _ => ?_) (fun g => absurd nI_0 g)
    exact hX c
