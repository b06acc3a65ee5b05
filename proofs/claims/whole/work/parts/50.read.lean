-- THE CLASS'S COURSE, READ
theorem nI_mul (a b : Nat) : nI a * nI b = nI (a * b) := (Int32.ofNat_mul a b).symm
theorem PV_cf {M M' : Q_M} {L : List Q_P3} (h : PV M L) (e : ∀ r, r = 5 ∨ r = 7 ∨ r = 8 ∨ r = 9 → M'.1 r = M.1 r) : PV M' L := by
  unfold PV
  rw [e 5 (by omega), e 7 (by omega), e 8 (by omega), e 9 (by omega)]
  exact h
theorem g_ac_st {q q' : Q_D5} {c : Nat} {o : List Q_P3} (h : g_ac q c = some (q', o)) : (q.1 = 0 ∧ q'.1 ≠ 0 ∧ o = []) ∨ (q.1 ≠ 0 ∧ q'.1 ≠ 0 ∧ o = []) ∨ (q.1 ≠ 0 ∧ q'.1 = 0 ∧ o.length = 1) := by
  unfold g_ac at h
  by_cases c0 : q.1 = 0
  · rw [if_pos c0] at h
    split at h
    · cases h
      exact Or.inl ⟨c0, by show 1 ≠ 0; decide, rfl⟩
    · cases h
  · rw [if_neg c0] at h
    by_cases c1 : 48 ≤ c ∧ c ≤ 57
    · rw [if_pos c1] at h
      by_cases c2 : 0 < q.2.2.2.2 ∧ g_bf q = 0
      · rw [if_pos c2] at h
        cases h
      · rw [if_neg c2] at h
        by_cases c3 : 10 * g_bf q + (c - 48) < (if q.2.1 = 116 then 1 else 0) ∨ g_gr q < 10 * g_bf q + (c - 48)
        · rw [if_pos c3] at h
          cases h
        · rw [if_neg c3] at h
          cases h
          exact Or.inr (Or.inl ⟨c0, c0, rfl⟩)
    · rw [if_neg c1] at h
      by_cases c2 : c = 59 ∧ g_pm q = true
      · rw [if_pos c2] at h
        cases h
        exact Or.inr (Or.inr ⟨c0, rfl, rfl⟩)
      · rw [if_neg c2] at h
        by_cases c3 : q.1 = 1 ∧ q.2.2.2.2 ≠ 0 ∧ g_hs q.2.1 = true ∧ c = (if q.2.1 = 97 then 33 else 58)
        · rw [if_pos c3] at h
          cases h
          exact Or.inr (Or.inl ⟨c0, by show 2 ≠ 0; decide, rfl⟩)
        · rw [if_neg c3] at h
          cases h
theorem g_rn_le {tx : Nat → Nat} : ∀ (f at0 : Nat) (q : Q_D5) (L : List Q_P3), (g_rn tx f at0 q L).1 ≤ at0 + f
  | 0, at0, q, L => Nat.le_refl _
  | f + 1, at0, q, L => by
    show (match g_ac q (tx at0) with
      | none => (at0, q, L)
      | some (q', o) => g_rn tx f (at0 + 1) q' (L ++ o)).1 ≤ _
    cases h : g_ac q (tx at0) with
    | none => exact Nat.le_add_right _ _
    | some x =>
      have := g_rn_le (tx := tx) f (at0 + 1) x.1 (L ++ x.2)
      exact Nat.le_trans this (by omega)
def g_iv (at0 : Nat) (q : Q_D5) (L : List Q_P3) : Prop := (q.1 = 0 ∧ 2 * L.length ≤ at0) ∨ (q.1 ≠ 0 ∧ 2 * L.length + 1 ≤ at0)
theorem g_iv_ac {at0 : Nat} {q q' : Q_D5} {L o : List Q_P3} {c : Nat} (h : g_ac q c = some (q', o)) (hi : g_iv at0 q L) : g_iv (at0 + 1) q' (L ++ o) := by
  unfold g_iv at hi ⊢
  rw [List.length_append]
  rcases g_ac_st h with ⟨a, b, d⟩ | ⟨a, b, d⟩ | ⟨a, b, d⟩
  · rw [d]
    refine Or.inr ⟨b, ?_⟩
    have : ([] : List Q_P3).length = 0 := rfl
    rcases hi with hi | hi
    · omega
    · exact absurd a hi.1
  · rw [d]
    refine Or.inr ⟨b, ?_⟩
    have : ([] : List Q_P3).length = 0 := rfl
    rcases hi with hi | hi
    · exact absurd hi.1 a
    · omega
  · refine Or.inl ⟨b, ?_⟩
    rcases hi with hi | hi
    · exact absurd hi.1 a
    · omega
theorem g_rn_iv {tx : Nat → Nat} : ∀ (f at0 : Nat) (q : Q_D5) (L : List Q_P3), g_iv at0 q L → g_iv (g_rn tx f at0 q L).1 (g_rn tx f at0 q L).2.1 (g_rn tx f at0 q L).2.2
  | 0, at0, q, L, h => h
  | f + 1, at0, q, L, h => by
    have e : g_rn tx (f + 1) at0 q L = (match g_ac q (tx at0) with
      | none => (at0, q, L)
      | some (q', o) => g_rn tx f (at0 + 1) q' (L ++ o)) := rfl
    rw [e]
    cases ha : g_ac q (tx at0) with
    | none => exact h
    | some x => exact g_rn_iv f (at0 + 1) x.1 (L ++ x.2) (g_iv_ac ha h)
theorem DQ_mono {q : Q_D5} {b b' : Nat} (h : DQ q b) (hb : b ≤ b') : DQ q b' := ⟨h.1, h.2.1, h.2.2.1, h.2.2.2.1, Nat.le_trans h.2.2.2.2 hb⟩
theorem CV_cf {M M' : Q_M} {S : Nat → Int32} {h : Nat} {G : Nat → Nat → Int32} {kb : Nat → Int32} {T : Nat → Nat → Int32} {n : Nat} {tx : Nat → Nat} (hc : CV M S h G kb T n tx) (hf : q_cf M M') : CV M' S h G kb T n tx := by
  refine CV_low hc (fun r h1 _ h3 h4 h5 => hf.1 r h1 h3 h4 h5) hf.2.1 ?_
  obtain ⟨a, b, d⟩ := hc.2.2.2.2
  unfold BV
  rw [hf.2.2, hf.1 6 (by decide) (by decide) (by decide) (by decide)]
  exact ⟨a, b, d⟩
theorem q_fx_cf {M M' : Q_M} (hf : q_cf M M') : q_fx M M' := ⟨fun r g => hf.1 r (by omega) (by omega) (by omega) (by omega), by rw [hf.2.1]⟩
abbrev pX2_acceptsDigit : Q_P := fun av M K KX => ∃ (q : Q_D5) (L : List Q_P3) (c b : Nat), DV M q L ∧ DQ q b ∧ b ≤ 1000 ∧ q.1 ≠ 0 ∧ 48 ≤ c ∧ c ≤ 57 ∧ av = [.inr (.inl (5, 0, 0)), .inl (nI (c - 48))] ∧ (g_ac q c = none → K (some (.inl (nI 0))) M) ∧ (∀ q' o, g_ac q c = some (q', o) → ∀ M', DV M' q' (L ++ o) → q_cf M M' → K (some (.inl (nI 1))) M')
theorem cX2_acceptsDigit_ct {l : Launch} {b : Bool} (hl0 : l.stackTraces = false) : q_Ct l b 16 pX2_acceptsDigit := by
  refine q_meth (by decide +kernel) hl0 TX2_acceptsDigit kX2_acceptsDigit ?_
  intro av M K KX hwf
  rintro ⟨q, L, c, b, hd, hq, hb, h0, hc1, hc2, rfl, hN, hK⟩
  refine ⟨Nat.le_of_ble_eq_true rfl, fun Z hz hw => ?_⟩
  obtain ⟨hf, hp⟩ := id hd
  obtain ⟨h6, hr⟩ := hf
  obtain ⟨h7, h8, h9, h10⟩ := hr h0
  obtain ⟨q1, q2, q3, q4, q5⟩ := id hq
  have e : g_ac q c = (if 0 < q.2.2.2.2 ∧ g_bf q = 0 then none else if 10 * g_bf q + (c - 48) < (if q.2.1 = 116 then 1 else 0) ∨ g_gr q < 10 * g_bf q + (c - 48) then none else some ((q.1, q.2.1, (if q.1 = 1 then 10 * g_bf q + (c - 48) else q.2.2.1), (if q.1 = 1 then q.2.2.2.1 else 10 * g_bf q + (c - 48)), q.2.2.2.2 + 1), [])) := by
    unfold g_ac
    rw [if_neg h0, if_pos ⟨hc1, hc2⟩]
  rw [e] at hN hK
  have hbf : g_bf q ≤ 100 := by
    unfold g_bf
    split <;> omega
  have hgr : g_gr q ≤ 100 := by
    unfold g_gr
    split <;> split <;> omega
  have hlo : (if q.2.1 = 116 then 1 else 0) ≤ 1 := by split <;> omega
  generalize hv : 10 * g_bf q + (c - 48) = v at hN hK
  have hv2 : v < 2000 := by omega
  have s58 : ¬ (0 < q.2.2.2.2 ∧ g_bf q = 0) → ¬ (v < (if q.2.1 = 116 then 1 else 0) ∨ g_gr q < v) → Z 0 58 [(3, .inl (nI v)), (2, .inl (nI (g_bf q))), (0, .inr (.inl (5, 0, 0))), (1, .inl (nI (c - 48)))] [] M := by
    intro n1 n2
    have hh := hK (q.1, q.2.1, (if q.1 = 1 then v else q.2.2.1), (if q.1 = 1 then q.2.2.2.1 else v), q.2.2.2.2 + 1) [] (by rw [if_neg n1, if_neg n2])
    rw [List.append_nil] at hh
    apply hz [] 60
    refine And.intro (fun (g : M.1 5 0 0 6 = nI 1) => ?_) (fun (g : ¬ M.1 5 0 0 6 = nI 1) => ?_)
    · rw [h6, nI_eq (by omega) (by omega)] at g
      rw [if_pos g, if_pos g] at hh
      refine And.intro (Or.inr rfl) (hh _ ⟨⟨?_, fun _ => ⟨?_, ?_, ?_, ?_⟩⟩, PV_5 (PV_5 hp (by decide)) (by decide)⟩ (q_cf_5 (q_cf_5 q_cf_rfl (by decide)) (by decide)))
      · rw [q_i_e, q_upd_ne (by decide), q_i_e, q_upd_ne (by decide)]
        exact h6
      · rw [q_i_e, q_upd_ne (by decide), q_i_e, q_upd_ne (by decide)]
        exact h7
      · rw [q_i_e, q_upd_ne (by decide), q_i_e, q_upd_eq]
      · rw [q_i_e, q_upd_ne (by decide), q_i_e, q_upd_ne (by decide)]
        exact h9
      · rw [q_i_e, q_upd_eq]
        show (q_si M (5, 0, 0) 8 (nI v)).1 5 0 0 10 + nI 1 = _
        rw [q_i_e, q_upd_ne (by decide), h10, nI_add]
    · rw [h6, nI_eq (by omega) (by omega)] at g
      rw [if_neg g, if_neg g] at hh
      refine And.intro (Or.inr rfl) (hh _ ⟨⟨?_, fun _ => ⟨?_, ?_, ?_, ?_⟩⟩, PV_5 (PV_5 hp (by decide)) (by decide)⟩ (q_cf_5 (q_cf_5 q_cf_rfl (by decide)) (by decide)))
      · rw [q_i_e, q_upd_ne (by decide), q_i_e, q_upd_ne (by decide)]
        exact h6
      · rw [q_i_e, q_upd_ne (by decide), q_i_e, q_upd_ne (by decide)]
        exact h7
      · rw [q_i_e, q_upd_ne (by decide), q_i_e, q_upd_ne (by decide)]
        exact h8
      · rw [q_i_e, q_upd_ne (by decide), q_i_e, q_upd_eq]
      · rw [q_i_e, q_upd_eq]
        show (q_si M (5, 0, 0) 9 (nI v)).1 5 0 0 10 + nI 1 = _
        rw [q_i_e, q_upd_ne (by decide), h10, nI_add]
  have s40 : ¬ (0 < q.2.2.2.2 ∧ g_bf q = 0) → Z 0 40 [(3, .inl (nI v)), (2, .inl (nI (g_bf q))), (0, .inr (.inl (5, 0, 0))), (1, .inl (nI (c - 48)))] [] M := by
    intro n1
    rw [if_neg n1] at hN
    apply hz [58] 60
    refine Exists.intro _ ⟨cX2_leastNumber_ct hl0, q.2.1, q2, h7, rfl, ?_⟩
    refine And.intro (fun g => ?_) (fun g => ?_)
    · rw [nI_ltI (by omega) (by omega)] at g
      rw [if_pos (Or.inl g)] at hN
      exact And.intro (Or.inl rfl) (hN rfl)
    · rw [nI_ltI (by omega) (by omega)] at g
      refine Exists.intro _ ⟨cX2_greatestNumber_ct hl0, q, b, hd.1, hq, h0, rfl, ?_⟩
      refine And.intro (fun g2 => ?_) (fun g2 => ?_)
      · rw [nI_leI (by omega) (by omega)] at g2
        exact s58 n1 (by omega)
      · rw [nI_leI (by omega) (by omega)] at g2
        rw [if_pos (Or.inr (by omega))] at hN
        exact And.intro (Or.inl rfl) (hN rfl)
  have s33 : ¬ (0 < q.2.2.2.2 ∧ g_bf q = 0) → Z 0 33 [(2, .inl (nI (g_bf q))), (0, .inr (.inl (5, 0, 0))), (1, .inl (nI (c - 48)))] [] M := by
    intro n1
    have h := s40 n1
    rw [← hv, ← nI_add, ← nI_mul] at h
    apply hz [40] 60
    exact h
  have s19 : Z 0 19 [(0, .inr (.inl (5, 0, 0))), (1, .inl (nI (c - 48)))] [.inl (nI (g_bf q))] M := by
    apply hz [33] 60
    refine And.intro (fun (g : M.1 5 0 0 10 ≤ nI 0) => ?_) (fun (g : ¬ M.1 5 0 0 10 ≤ nI 0) => ?_)
    · rw [h10, nI_leI (by omega) (by omega)] at g
      exact s33 (by omega)
    · rw [h10, nI_leI (by omega) (by omega)] at g
      refine And.intro (fun (g2 : nI (g_bf q) = nI 0) => ?_) (fun (g2 : ¬ nI (g_bf q) = nI 0) => ?_)
      · rw [nI_eq (by omega) (by omega)] at g2
        rw [if_pos ⟨by omega, g2⟩] at hN
        exact And.intro (Or.inl rfl) (hN rfl)
      · rw [nI_eq (by omega) (by omega)] at g2
        exact s33 (by omega)
  apply hz [19] 60
  refine And.intro (fun (g : M.1 5 0 0 6 = nI 1) => ?_) (fun (g : ¬ M.1 5 0 0 6 = nI 1) => ?_)
  · rw [h6, nI_eq (by omega) (by omega)] at g
    have eb : g_bf q = q.2.2.1 := if_pos g
    rw [eb, ← h8] at s19
    exact s19
  · rw [h6, nI_eq (by omega) (by omega)] at g
    have eb : g_bf q = q.2.2.2.1 := if_neg g
    rw [eb, ← h9] at s19
    exact s19
abbrev pX2_acceptsMark : Q_P := fun av M K KX => ∃ (q : Q_D5) (L : List Q_P3) (c b : Nat), DV M q L ∧ DQ q b ∧ b ≤ 1000 ∧ q.1 ≠ 0 ∧ c ≤ 200 ∧ ¬ (48 ≤ c ∧ c ≤ 57) ∧ ¬ (c = 59 ∧ g_pm q = true) ∧ av = [.inr (.inl (5, 0, 0)), .inl (nI c)] ∧ (g_ac q c = none → K (some (.inl (nI 0))) M) ∧ (∀ q' o, g_ac q c = some (q', o) → ∀ M', DV M' q' (L ++ o) → q_cf M M' → K (some (.inl (nI 1))) M')
theorem cX2_acceptsMark_ct {l : Launch} {b : Bool} (hl0 : l.stackTraces = false) : q_Ct l b 19 pX2_acceptsMark := by
  refine q_meth (by decide +kernel) hl0 TX2_acceptsMark kX2_acceptsMark ?_
  intro av M K KX hwf
  rintro ⟨q, L, c, b, hd, hq, hb, h0, hc1, hc2, hc3, rfl, hN, hK⟩
  refine ⟨Nat.le_of_ble_eq_true rfl, fun Z hz hw => ?_⟩
  obtain ⟨hf, hp⟩ := id hd
  obtain ⟨h6, hr⟩ := hf
  obtain ⟨h7, h8, h9, h10⟩ := hr h0
  obtain ⟨q1, q2, q3, q4, q5⟩ := id hq
  have e : g_ac q c = (if q.1 = 1 ∧ q.2.2.2.2 ≠ 0 ∧ g_hs q.2.1 = true ∧ c = (if q.2.1 = 97 then 33 else 58) then some ((2, q.2.1, q.2.2.1, q.2.2.2.1, 0), []) else none) := by
    unfold g_ac
    rw [if_neg h0, if_neg hc2, if_neg hc3]
  rw [e] at hN hK
  have no : ¬ (q.1 = 1 ∧ q.2.2.2.2 ≠ 0 ∧ g_hs q.2.1 = true ∧ c = (if q.2.1 = 97 then 33 else 58)) → K (some (.inl (nI 0))) M := by
    intro g
    rw [if_neg g] at hN
    exact hN rfl
  have s44 : (q.1 = 1 ∧ q.2.2.2.2 ≠ 0 ∧ g_hs q.2.1 = true ∧ c = (if q.2.1 = 97 then 33 else 58)) → Z 0 44 [(0, .inr (.inl (5, 0, 0))), (1, .inl (nI c))] [] M := by
    intro g
    have hh := hK (2, q.2.1, q.2.2.1, q.2.2.2.1, 0) [] (by rw [if_pos g])
    rw [List.append_nil] at hh
    apply hz [] 60
    refine And.intro (Or.inr rfl) (hh _ ⟨⟨?_, fun _ => ⟨?_, ?_, ?_, ?_⟩⟩, PV_5 (PV_5 hp (by decide)) (by decide)⟩ (q_cf_5 (q_cf_5 q_cf_rfl (by decide)) (by decide)))
    · rw [q_i_e, q_upd_eq]
      rfl
    · rw [q_i_e, q_upd_ne (by decide), q_i_e, q_upd_ne (by decide)]
      exact h7
    · rw [q_i_e, q_upd_ne (by decide), q_i_e, q_upd_ne (by decide)]
      exact h8
    · rw [q_i_e, q_upd_ne (by decide), q_i_e, q_upd_ne (by decide)]
      exact h9
    · rw [q_i_e, q_upd_ne (by decide), q_i_e, q_upd_eq]
      rfl
  apply hz [44] 60
  refine And.intro (fun (g : M.1 5 0 0 6 = nI 1) => ?_) (fun (g : ¬ M.1 5 0 0 6 = nI 1) => ?_)
  · rw [h6, nI_eq (by omega) (by omega)] at g
    refine And.intro (fun (g2 : M.1 5 0 0 10 = nI 0) => ?_) (fun (g2 : ¬ M.1 5 0 0 10 = nI 0) => ?_)
    · rw [h10, nI_eq (by omega) (by omega)] at g2
      exact And.intro (Or.inl rfl) (no (fun h => h.2.1 g2))
    · rw [h10, nI_eq (by omega) (by omega)] at g2
      refine Exists.intro _ ⟨cX2_hasSecond_ct hl0, q.2.1, q2, h7, rfl, ?_⟩
      refine And.intro (fun (g3 : q_bi (g_hs q.2.1 = true) = 0) => ?_) (fun (g3 : ¬ q_bi (g_hs q.2.1 = true) = 0) => ?_)
      · rw [q_bi_0] at g3
        exact And.intro (Or.inl rfl) (no (fun h => g3 h.2.2.1))
      · rw [q_bi_0] at g3
        have g3 := Classical.not_not.mp g3
        refine And.intro (fun (g4 : M.1 5 0 0 7 = nI 97) => ?_) (fun (g4 : ¬ M.1 5 0 0 7 = nI 97) => ?_)
        · rw [h7, nI_eq (by omega) (by omega)] at g4
          refine And.intro (fun (g5 : nI c = nI 33) => ?_) (fun (g5 : ¬ nI c = nI 33) => ?_)
          · rw [nI_eq (by omega) (by omega)] at g5
            exact s44 ⟨g, g2, g3, by rw [if_pos g4]; exact g5⟩
          · rw [nI_eq (by omega) (by omega)] at g5
            exact And.intro (Or.inl rfl) (no (fun h => g5 (by have := h.2.2.2; rw [if_pos g4] at this; exact this)))
        · rw [h7, nI_eq (by omega) (by omega)] at g4
          refine And.intro (fun (g5 : nI c = nI 58) => ?_) (fun (g5 : ¬ nI c = nI 58) => ?_)
          · rw [nI_eq (by omega) (by omega)] at g5
            exact s44 ⟨g, g2, g3, by rw [if_neg g4]; exact g5⟩
          · rw [nI_eq (by omega) (by omega)] at g5
            exact And.intro (Or.inl rfl) (no (fun h => g5 (by have := h.2.2.2; rw [if_neg g4] at this; exact this)))
  · rw [h6, nI_eq (by omega) (by omega)] at g
    exact And.intro (Or.inl rfl) (no (fun h => g h.1))
abbrev pX2_accepts : Q_P := fun av M K KX => ∃ (q : Q_D5) (L : List Q_P3) (c b : Nat), DV M q L ∧ DQ q b ∧ b ≤ 1000 ∧ c ≤ 126 ∧ L.length < 60 ∧ av = [.inr (.inl (5, 0, 0)), .inl (nI c)] ∧ (g_ac q c = none → K (some (.inl (nI 0))) M) ∧ (∀ q' o, g_ac q c = some (q', o) → ∀ M', DV M' q' (L ++ o) → q_cf M M' → K (some (.inl (nI 1))) M')
theorem cX2_accepts_ct {l : Launch} {b : Bool} (hl0 : l.stackTraces = false) : q_Ct l b 14 pX2_accepts := by
  refine q_meth (by decide +kernel) hl0 TX2_accepts kX2_accepts ?_
  intro av M K KX hwf
  rintro ⟨q, L, c, b, hd, hq, hb, hc, hL, rfl, hN, hK⟩
  refine ⟨Nat.le_of_ble_eq_true rfl, fun Z hz hw => ?_⟩
  obtain ⟨hf, hp⟩ := id hd
  obtain ⟨h6, hr⟩ := hf
  obtain ⟨q1, q2, q3, q4, q5⟩ := id hq
  have s53 : q.1 ≠ 0 → ¬ (48 ≤ c ∧ c ≤ 57) → ¬ (c = 59 ∧ g_pm q = true) → Z 0 53 [(0, .inr (.inl (5, 0, 0))), (1, .inl (nI c))] [] M := by
    intro a1 a2 a3
    apply hz [] 60
    exact Exists.intro _ ⟨cX2_acceptsMark_ct hl0, q, L, c, b, hd, hq, hb, a1, by omega, a2, a3, rfl, fun g => And.intro (Or.inl rfl) (hN g), fun q' o g M' g1 g2 => And.intro (Or.inr rfl) (hK q' o g M' g1 g2)⟩
  have s34 : q.1 ≠ 0 → ¬ (48 ≤ c ∧ c ≤ 57) → Z 0 34 [(0, .inr (.inl (5, 0, 0))), (1, .inl (nI c))] [] M := by
    intro a1 a2
    apply hz [53] 60
    refine And.intro (fun (g : nI c = nI 59) => ?_) (fun (g : ¬ nI c = nI 59) => ?_)
    · rw [nI_eq (by omega) (by omega)] at g
      refine Exists.intro _ ⟨cX2_partMayEnd_ct hl0, q, b, hd.1, hq, hb, rfl, ?_⟩
      refine And.intro (fun (g2 : q_bi (g_pm q = true) = 0) => ?_) (fun (g2 : ¬ q_bi (g_pm q = true) = 0) => ?_)
      · rw [q_bi_0] at g2
        exact s53 a1 a2 (fun h => g2 h.2)
      · rw [q_bi_0] at g2
        have g2 := Classical.not_not.mp g2
        refine Exists.intro _ ⟨cX2_endPart_ct hl0, q, L, hd, a1, hL, rfl, fun M' g3 g4 => ?_⟩
        refine And.intro (Or.inr rfl) (hK (0, q.2) [(q.2.1, q.2.2.1, q.2.2.2.1)] ?_ M' g3 g4)
        unfold g_ac
        rw [if_neg a1, if_neg a2, if_pos ⟨g, g2⟩]
    · rw [nI_eq (by omega) (by omega)] at g
      exact s53 a1 a2 (fun h => g h.1)
  apply hz [34] 60
  refine And.intro (fun (g : M.1 5 0 0 6 = nI 0) => ?_) (fun (g : ¬ M.1 5 0 0 6 = nI 0) => ?_)
  · rw [h6, nI_eq (by omega) (by omega)] at g
    have e : g_ac q c = (if c = 97 ∨ c = 103 ∨ c = 108 ∨ c = 117 ∨ c = 116 then some ((1, c, 0, 0, 0), []) else none) := by
      unfold g_ac
      rw [if_pos g]
    rw [e] at hN hK
    refine Exists.intro _ ⟨cX2_acceptsKind_ct hl0, L, c, hp, hc, rfl, fun g2 => ?_, fun g2 M' g3 g4 => ?_⟩
    · rw [if_neg g2] at hN
      exact And.intro (Or.inl rfl) (hN rfl)
    · rw [if_pos g2] at hK
      refine And.intro (Or.inr rfl) (hK _ _ rfl M' ?_ g4)
      rw [List.append_nil]
      exact g3
  · rw [h6, nI_eq (by omega) (by omega)] at g
    refine And.intro (fun (g2 : nI c < nI 48) => ?_) (fun (g2 : ¬ nI c < nI 48) => ?_)
    · rw [nI_ltI (by omega) (by omega)] at g2
      exact s34 g (by omega)
    · rw [nI_ltI (by omega) (by omega)] at g2
      refine And.intro (fun (g3 : nI 57 < nI c) => ?_) (fun (g3 : ¬ nI 57 < nI c) => ?_)
      · rw [nI_ltI (by omega) (by omega)] at g3
        exact s34 g (by omega)
      · rw [nI_ltI (by omega) (by omega)] at g3
        refine Exists.intro _ ⟨cX2_acceptsDigit_ct hl0, q, L, c, b, hd, hq, hb, g, by omega, by omega, ?_, fun g4 => And.intro (Or.inl rfl) (hN g4), fun q' o g4 M' g5 g6 => And.intro (Or.inr rfl) (hK q' o g4 M' g5 g6)⟩
        show ([.inr (.inl (5, 0, 0)), .inl (nI c - nI 48)] : List Q_V) = _
        rw [pk_sub (by omega)]
abbrev pX2_read : Q_P := fun av M K KX => ∃ (n : Nat) (tx : Nat → Nat), BV M n tx ∧ av = [.inr (.inl (5, 0, 0))] ∧ ∀ at0 q L M', g_rn tx n 0 (0, 0, 0, 0, 0) [] = (at0, q, L) → DV M' q L → DQ q 60 → q_cf M M' → K (some (.inl (nI at0))) M'
theorem cX2_read_ct {l : Launch} {b : Bool} (hl0 : l.stackTraces = false) : q_Ct l b 12 pX2_read := by
  refine q_meth (by decide +kernel) hl0 TX2_read kX2_read ?_
  intro av M K KX hwf
  rintro ⟨n, tx, ⟨hn, h0, htx⟩, rfl, hK⟩
  refine ⟨Nat.le_of_ble_eq_true rfl, fun Z hz hw => ?_⟩
  have loop : ∀ (f at0 : Nat) (q : Q_D5) (L : List Q_P3) (M1 : Q_M), at0 + f = n → g_rn tx f at0 q L = g_rn tx n 0 (0, 0, 0, 0, 0) [] → DV M1 q L → DQ q at0 → g_iv at0 q L → q_cf M M1 → Z 0 12 [(1, .inl (nI at0)), (0, .inr (.inl (5, 0, 0)))] [] M1 := by
    intro f
    induction f with
    | zero =>
      intro at0 q L M1 hf he hd hq hi hc
      have e0 : M1.1 5 0 0 0 = nI n := hc.2.2.trans h0
      have hh := hK at0 q L M1 he.symm hd (DQ_mono hq (by omega)) hc
      have ea : at0 = n := by omega
      apply hz [12] 60
      refine And.intro (fun _ => ?_) (fun (g : ¬ M1.1 5 0 0 0 ≤ nI at0) => absurd (by rw [e0, ea]; exact nI_le (Nat.le_refl _) (by omega)) g)
      show K (some (.inl (M1.1 5 0 0 0))) M1
      rw [e0, ← ea]
      exact hh
    | succ f ih =>
      intro at0 q L M1 hf he hd hq hi hc
      have e0 : M1.1 5 0 0 0 = nI n := hc.2.2.trans h0
      have e6 : M1.1 6 0 0 at0 = nI (tx at0) := by
        rw [hc.1 6 (by decide) (by decide) (by decide) (by decide)]
        exact (htx at0 (by omega)).1
      have ht := (htx at0 (by omega)).2.2
      have er : g_rn tx (f + 1) at0 q L = (match g_ac q (tx at0) with
        | none => (at0, q, L)
        | some (q', o) => g_rn tx f (at0 + 1) q' (L ++ o)) := rfl
      rw [er] at he
      apply hz [12] 60
      refine And.intro (fun (g : M1.1 5 0 0 0 ≤ nI at0) => absurd g (by rw [e0, nI_leI (by omega) (by omega)]; omega)) (fun _ => ?_)
      refine Exists.intro at0 ⟨rfl, by omega, ?_⟩
      refine Exists.intro _ ⟨cX2_accepts_ct hl0, q, L, tx at0, at0, hd, hq, by omega, ht, ?_, ?_, fun g => ?_, fun q' o g M' g1 g2 => ?_⟩
      · rcases hi with hi | hi <;> omega
      · show ([.inr (.inl (5, 0, 0)), .inl (M1.1 6 0 0 at0)] : List Q_V) = _
        rw [e6]
      · rw [g] at he
        have hh := hK at0 q L M1 he.symm hd (DQ_mono hq (by omega)) hc
        exact And.intro (fun _ => hh) (fun g => absurd nI_0 g)
      · rw [g] at he
        refine And.intro (fun g => absurd g q_n1) (fun _ => ?_)
        have hh := ih (at0 + 1) q' (L ++ o) M' (by omega) he g1 (g_ac_dq g (by omega) hq).1 (g_iv_ac g hi) (q_cf_tr hc g2)
        rw [← nI_add at0 1] at hh
        exact hh
  apply hz [12] 60
  refine loop n 0 (0, 0, 0, 0, 0) [] _ (by omega) rfl ⟨⟨?_, fun g => absurd rfl g⟩, ⟨Nat.zero_le _, ?_, fun i p g => (by cases g)⟩⟩ ⟨by show 0 ≤ 2; omega, by show 0 ≤ 200; omega, by show 0 ≤ 100; omega, by show 0 ≤ 100; omega, Nat.le_refl _⟩ (Or.inl ⟨rfl, Nat.le_refl _⟩) (q_cf_5 (q_cf_5 q_cf_rfl (by decide)) (by decide))
  · rw [q_i_e, q_upd_eq]
    rfl
  · rw [q_i_e, q_upd_ne (by decide), q_i_e, q_upd_eq]
    rfl
abbrev pX2_isWhole : Q_P := fun av M K KX => ∃ (n : Nat) (tx : Nat → Nat), BV M n tx ∧ av = [.inr (.inl (5, 0, 0))] ∧ (∀ q L M', g_rn tx n 0 (0, 0, 0, 0, 0) [] = (n, q, L) → g_pm q = true → DV M' (0, q.2) (L ++ [(q.2.1, q.2.2.1, q.2.2.2.1)]) → q_cf M M' → K (some (.inl (nI 1))) M') ∧ (∀ at0 q L M', g_rn tx n 0 (0, 0, 0, 0, 0) [] = (at0, q, L) → ¬ (at0 = n ∧ g_pm q = true) → q_cf M M' → K (some (.inl (nI 0))) M')
theorem cX2_isWhole_ct {l : Launch} {b : Bool} (hl0 : l.stackTraces = false) : q_Ct l b 13 pX2_isWhole := by
  refine q_meth (by decide +kernel) hl0 TX2_isWhole kX2_isWhole ?_
  intro av M K KX hwf
  rintro ⟨n, tx, hB, rfl, hY, hN⟩
  refine ⟨Nat.le_of_ble_eq_true rfl, fun Z hz hw => ?_⟩
  obtain ⟨hn, h0, htx⟩ := id hB
  apply hz [] 60
  refine Exists.intro _ ⟨cX2_read_ct hl0, n, tx, hB, rfl, fun at0 q L M1 he hd hq hc => ?_⟩
  have e0 : M1.1 5 0 0 0 = nI n := hc.2.2.trans h0
  have hle := g_rn_le (tx := tx) n 0 (0, 0, 0, 0, 0) []
  have hiv := g_rn_iv (tx := tx) n 0 (0, 0, 0, 0, 0) [] (Or.inl ⟨rfl, Nat.le_refl _⟩)
  rw [he] at hle hiv
  have hle : at0 ≤ 0 + n := hle
  have hiv : g_iv at0 q L := hiv
  refine And.intro (fun (g : nI at0 < M1.1 5 0 0 0) => ?_) (fun (g : ¬ nI at0 < M1.1 5 0 0 0) => ?_)
  · rw [e0, nI_ltI (by omega) (by omega)] at g
    exact And.intro (Or.inl rfl) (hN at0 q L M1 he (by omega) hc)
  · rw [e0, nI_ltI (by omega) (by omega)] at g
    obtain rfl : at0 = n := by omega
    refine Exists.intro _ ⟨cX2_partMayEnd_ct hl0, q, 60, hd.1, hq, by omega, rfl, ?_⟩
    refine And.intro (fun (g2 : q_bi (g_pm q = true) = 0) => ?_) (fun (g2 : ¬ q_bi (g_pm q = true) = 0) => ?_)
    · rw [q_bi_0] at g2
      exact And.intro (Or.inl rfl) (hN at0 q L M1 he (fun h => g2 h.2) hc)
    · rw [q_bi_0] at g2
      have g2 := Classical.not_not.mp g2
      have gq : q.1 ≠ 0 := by
        intro g
        unfold g_pm at g2
        simp [g] at g2
      have hL : L.length < 60 := by
        rcases hiv with hi | hi
        · exact absurd hi.1 gq
        · omega
      refine Exists.intro _ ⟨cX2_endPart_ct hl0, q, L, hd, gq, hL, rfl, fun M' g3 g4 => ?_⟩
      exact And.intro (Or.inr rfl) (hY q L M' he g2 g3 (q_cf_tr hc g4))
abbrev pX8_firstError : Q_P := fun av M K KX => ∃ (S : Nat → Int32) (h : Nat) (G : Nat → Nat → Int32) (kb : Nat → Int32) (T : Nat → Nat → Int32) (n : Nat) (tx : Nat → Nat), CV M S h G kb T n tx ∧ av = [.inr (.inl (0, 0, 0))] ∧ (∀ M', CV M' S h G kb T n tx → q_fx M M' → K (some (.inl (nI (g_rn tx n 0 (0, 0, 0, 0, 0) []).1))) M')
theorem cX8_firstError_ct {l : Launch} {b : Bool} (hl0 : l.stackTraces = false) : q_Ct l b 82 pX8_firstError := by
  refine q_meth (by decide +kernel) hl0 TX8_firstError kX8_firstError ?_
  intro av M K KX hwf
  rintro ⟨S, h, G, kb, T, n, tx, hc, rfl, hK⟩
  refine ⟨Nat.le_of_ble_eq_true rfl, fun Z hz hw => ?_⟩
  apply hz [] 60
  refine Exists.intro _ ⟨cX2_read_ct hl0, n, tx, hc.2.2.2.2, rfl, fun at0 q L M1 he hd hq hf => ?_⟩
  have hh := hK M1 (CV_cf hc hf) (q_fx_cf hf)
  rw [he] at hh
  exact hh
