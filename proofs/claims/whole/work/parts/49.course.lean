-- THE CLASS'S COURSE
def PV (M : Q_M) (L : List Q_P3) : Prop := L.length ≤ 60 ∧ M.1 5 0 0 2 = nI L.length ∧ ∀ i p, L[i]? = some p → M.1 7 0 0 i = nI p.1 ∧ M.1 8 0 0 i = nI p.2.1 ∧ M.1 9 0 0 i = nI p.2.2
def DF (M : Q_M) (q : Q_D5) : Prop := M.1 5 0 0 6 = nI q.1 ∧ (q.1 ≠ 0 → M.1 5 0 0 7 = nI q.2.1 ∧ M.1 5 0 0 8 = nI q.2.2.1 ∧ M.1 5 0 0 9 = nI q.2.2.2.1 ∧ M.1 5 0 0 10 = nI q.2.2.2.2)
def DQ (q : Q_D5) (b : Nat) : Prop := q.1 ≤ 2 ∧ q.2.1 ≤ 200 ∧ q.2.2.1 ≤ 100 ∧ q.2.2.2.1 ≤ 100 ∧ q.2.2.2.2 ≤ b
def DV (M : Q_M) (q : Q_D5) (L : List Q_P3) : Prop := DF M q ∧ PV M L
def q_cf (M M' : Q_M) : Prop := (∀ r, r ≠ 5 → r ≠ 7 → r ≠ 8 → r ≠ 9 → M'.1 r = M.1 r) ∧ M'.2 = M.2 ∧ M'.1 5 0 0 0 = M.1 5 0 0 0
theorem q_cf_rfl {M : Q_M} : q_cf M M := ⟨fun _ _ _ _ _ => rfl, rfl, rfl⟩
theorem q_cf_tr {M M1 M2 : Q_M} (h : q_cf M M1) (h2 : q_cf M1 M2) : q_cf M M2 := ⟨fun r a b c d => (h2.1 r a b c d).trans (h.1 r a b c d), h2.2.1.trans h.2.1, h2.2.2.trans h.2.2⟩
theorem q_cf_5 {M M1 : Q_M} {k : Nat} {x : Int32} (h : q_cf M M1) (hk : k ≠ 0) : q_cf M (q_si M1 (5, 0, 0) k x) := q_cf_tr h ⟨fun r a b c d => q_i_r a, rfl, by rw [q_i_e, q_upd_ne (Ne.symm hk)]⟩
theorem q_cf_7 {M M1 : Q_M} {k r : Nat} {x : Int32} (h : q_cf M M1) (hr : r = 7 ∨ r = 8 ∨ r = 9) : q_cf M (q_si M1 (r, 0, 0) k x) := q_cf_tr h ⟨fun r' a b c d => q_i_r (by omega), rfl, by rw [q_i_r (by omega)]⟩
theorem PV_5 {M : Q_M} {L : List Q_P3} {k : Nat} {x : Int32} (h : PV M L) (hk : k ≠ 2) : PV (q_si M (5, 0, 0) k x) L := by
  refine ⟨h.1, ?_, fun i p hp => ?_⟩
  · rw [q_i_e, q_upd_ne (Ne.symm hk)]
    exact h.2.1
  · rw [q_i_r (show 7 ≠ 5 by decide), q_i_r (show 8 ≠ 5 by decide), q_i_r (show 9 ≠ 5 by decide)]
    exact h.2.2 i p hp
theorem g_ac_dq {q q' : Q_D5} {c b : Nat} {o : List Q_P3} (h : g_ac q c = some (q', o)) (hc : c ≤ 200) (hq : DQ q b) : DQ q' (b + 1) ∧ ((q.1 = 0 ∧ q'.1 ≠ 0 ∧ o = []) ∨ (q.1 ≠ 0 ∧ q'.1 ≠ 0 ∧ o = []) ∨ (q.1 ≠ 0 ∧ q'.1 = 0 ∧ o = [(q.2.1, q.2.2.1, q.2.2.2.1)])) := by
  obtain ⟨h1, h2, h3, h4, h5⟩ := hq
  have hgr : g_gr q ≤ 100 := by
    unfold g_gr
    split <;> split <;> omega
  unfold g_ac at h
  by_cases c0 : q.1 = 0
  · rw [if_pos c0] at h
    by_cases c1 : c = 97 ∨ c = 103 ∨ c = 108 ∨ c = 117 ∨ c = 116
    · rw [if_pos c1] at h
      cases h
      exact ⟨⟨by show 1 ≤ 2; decide, hc, by show 0 ≤ 100; decide, by show 0 ≤ 100; decide, by show 0 ≤ b + 1; omega⟩, Or.inl ⟨c0, by show 1 ≠ 0; decide, rfl⟩⟩
    · rw [if_neg c1] at h
      cases h
  · rw [if_neg c0] at h
    by_cases c1 : 48 ≤ c ∧ c ≤ 57
    · rw [if_pos c1] at h
      by_cases c2 : 0 < q.2.2.2.2 ∧ g_bf q = 0
      · rw [if_pos c2] at h
        cases h
      · rw [if_neg c2] at h
        by_cases c3 : 10 * g_bf q + (c - 48) < (if q.2.1 = 116 then 1 else 0) ∨ g_gr q < 10 * g_bf q + (c - 48)
        · rw [if_pos c3] at h
          cases h
        · rw [if_neg c3] at h
          cases h
          have hv : 10 * g_bf q + (c - 48) ≤ 100 := by omega
          refine ⟨⟨h1, h2, ?_, ?_, Nat.succ_le_succ h5⟩, Or.inr (Or.inl ⟨c0, c0, rfl⟩)⟩
          · show (if q.1 = 1 then 10 * g_bf q + (c - 48) else q.2.2.1) ≤ 100
            split <;> omega
          · show (if q.1 = 1 then q.2.2.2.1 else 10 * g_bf q + (c - 48)) ≤ 100
            split <;> omega
    · rw [if_neg c1] at h
      by_cases c2 : c = 59 ∧ g_pm q = true
      · rw [if_pos c2] at h
        cases h
        exact ⟨⟨by show 0 ≤ 2; decide, h2, h3, h4, by show q.2.2.2.2 ≤ b + 1; omega⟩, Or.inr (Or.inr ⟨c0, rfl, rfl⟩)⟩
      · rw [if_neg c2] at h
        by_cases c3 : q.1 = 1 ∧ q.2.2.2.2 ≠ 0 ∧ g_hs q.2.1 = true ∧ c = (if q.2.1 = 97 then 33 else 58)
        · rw [if_pos c3] at h
          cases h
          exact ⟨⟨by show 2 ≤ 2; decide, h2, h3, h4, by show 0 ≤ b + 1; omega⟩, Or.inr (Or.inl ⟨c0, by show 2 ≠ 0; decide, rfl⟩)⟩
        · rw [if_neg c3] at h
          cases h
theorem q_nn {a : Nat} (h : a < 2 ^ 31) (k : Nat) (hk : k < 2 ^ 31) : nI a = nI k ↔ a = k := nI_eq h hk
abbrev pX2_hasSecond : Q_P := fun av M K KX => ∃ k : Nat, k ≤ 200 ∧ M.1 5 0 0 7 = nI k ∧ av = [.inr (.inl (5, 0, 0))] ∧ K (some (.inl (q_bi (g_hs k = true)))) M
theorem cX2_hasSecond_ct {l : Launch} {b : Bool} (hl0 : l.stackTraces = false) : q_Ct l b 20 pX2_hasSecond := by
  refine q_meth (by decide +kernel) hl0 TX2_hasSecond kX2_hasSecond ?_
  intro av M K KX hwf
  rintro ⟨k, hk, h7, rfl, hK⟩
  refine ⟨Nat.le_of_ble_eq_true rfl, fun Z hz hw => ?_⟩
  have e : g_hs k = true ↔ k = 97 ∨ k = 117 := by
    unfold g_hs
    simp
  rw [q_bi_c e] at hK
  apply hz [] 60
  refine And.intro (fun (g : M.1 5 0 0 7 = nI 97) => ?_) (fun (g : ¬ M.1 5 0 0 7 = nI 97) => ?_)
  · rw [h7, nI_eq (by omega) (by omega)] at g
    rw [q_bi_t (Or.inl g)] at hK
    exact And.intro (Or.inr rfl) hK
  · rw [h7, nI_eq (by omega) (by omega)] at g
    refine And.intro (fun (g2 : M.1 5 0 0 7 = nI 117) => ?_) (fun (g2 : ¬ M.1 5 0 0 7 = nI 117) => ?_)
    · rw [h7, nI_eq (by omega) (by omega)] at g2
      rw [q_bi_t (Or.inr g2)] at hK
      exact And.intro (Or.inr rfl) hK
    · rw [h7, nI_eq (by omega) (by omega)] at g2
      rw [q_bi_f (by omega)] at hK
      exact And.intro (Or.inl rfl) hK
abbrev pX2_leastNumber : Q_P := fun av M K KX => ∃ k : Nat, k ≤ 200 ∧ M.1 5 0 0 7 = nI k ∧ av = [.inr (.inl (5, 0, 0))] ∧ K (some (.inl (nI (if k = 116 then 1 else 0)))) M
theorem cX2_leastNumber_ct {l : Launch} {b : Bool} (hl0 : l.stackTraces = false) : q_Ct l b 17 pX2_leastNumber := by
  refine q_meth (by decide +kernel) hl0 TX2_leastNumber kX2_leastNumber ?_
  intro av M K KX hwf
  rintro ⟨k, hk, h7, rfl, hK⟩
  refine ⟨Nat.le_of_ble_eq_true rfl, fun Z hz hw => ?_⟩
  apply hz [] 60
  refine And.intro (fun (g : M.1 5 0 0 7 = nI 116) => ?_) (fun (g : ¬ M.1 5 0 0 7 = nI 116) => ?_)
  · rw [h7, nI_eq (by omega) (by omega)] at g
    rw [if_pos g] at hK
    exact hK
  · rw [h7, nI_eq (by omega) (by omega)] at g
    rw [if_neg g] at hK
    exact hK
abbrev pX2_greatestNumber : Q_P := fun av M K KX => ∃ (q : Q_D5) (b : Nat), DF M q ∧ DQ q b ∧ q.1 ≠ 0 ∧ av = [.inr (.inl (5, 0, 0))] ∧ K (some (.inl (nI (g_gr q)))) M
theorem cX2_greatestNumber_ct {l : Launch} {b : Bool} (hl0 : l.stackTraces = false) : q_Ct l b 18 pX2_greatestNumber := by
  refine q_meth (by decide +kernel) hl0 TX2_greatestNumber kX2_greatestNumber ?_
  intro av M K KX hwf
  rintro ⟨q, b, hf, hq, h0, rfl, hK⟩
  refine ⟨Nat.le_of_ble_eq_true rfl, fun Z hz hw => ?_⟩
  obtain ⟨h6, hr⟩ := hf
  obtain ⟨h7, -⟩ := hr h0
  obtain ⟨q1, q2, -⟩ := hq
  unfold g_gr at hK
  apply hz [] 60
  refine And.intro (fun (g : M.1 5 0 0 6 = nI 1) => ?_) (fun (g : ¬ M.1 5 0 0 6 = nI 1) => ?_)
  · rw [h6, nI_eq (by omega) (by omega)] at g
    rw [if_pos g] at hK
    refine And.intro (fun (g2 : M.1 5 0 0 7 = nI 116) => ?_) (fun (g2 : ¬ M.1 5 0 0 7 = nI 116) => ?_)
    · rw [h7, nI_eq (by omega) (by omega)] at g2
      rw [if_pos g2] at hK
      exact hK
    · rw [h7, nI_eq (by omega) (by omega)] at g2
      rw [if_neg g2] at hK
      exact hK
  · rw [h6, nI_eq (by omega) (by omega)] at g
    rw [if_neg g] at hK
    refine And.intro (fun (g2 : M.1 5 0 0 7 = nI 97) => ?_) (fun (g2 : ¬ M.1 5 0 0 7 = nI 97) => ?_)
    · rw [h7, nI_eq (by omega) (by omega)] at g2
      rw [if_pos g2] at hK
      exact hK
    · rw [h7, nI_eq (by omega) (by omega)] at g2
      rw [if_neg g2] at hK
      exact hK
abbrev pX2_partMayEnd : Q_P := fun av M K KX => ∃ (q : Q_D5) (b : Nat), DF M q ∧ DQ q b ∧ b ≤ 1000 ∧ av = [.inr (.inl (5, 0, 0))] ∧ K (some (.inl (q_bi (g_pm q = true)))) M
theorem cX2_partMayEnd_ct {l : Launch} {b : Bool} (hl0 : l.stackTraces = false) : q_Ct l b 21 pX2_partMayEnd := by
  refine q_meth (by decide +kernel) hl0 TX2_partMayEnd kX2_partMayEnd ?_
  intro av M K KX hwf
  rintro ⟨q, b, hf, hq, hb, rfl, hK⟩
  refine ⟨Nat.le_of_ble_eq_true rfl, fun Z hz hw => ?_⟩
  obtain ⟨h6, hr⟩ := hf
  obtain ⟨q1, q2, q3, q4, q5⟩ := hq
  have e : g_pm q = true ↔ q.1 ≠ 0 ∧ 0 < q.2.2.2.2 ∧ (g_hs q.2.1 = true ↔ q.1 = 2) := by
    unfold g_pm
    cases g_hs q.2.1 <;> simp
  rw [q_bi_c e] at hK
  apply hz [] 60
  refine And.intro (fun (g : M.1 5 0 0 6 = 0) => ?_) (fun (g : ¬ M.1 5 0 0 6 = 0) => ?_)
  · rw [h6, ← nI_0, nI_eq (by omega) (by omega)] at g
    rw [q_bi_f (fun h => h.1 g)] at hK
    exact And.intro (Or.inl rfl) hK
  · have g0 : q.1 ≠ 0 := fun h => g (by rw [h6, h]; decide)
    obtain ⟨h7, h8, h9, h10⟩ := hr g0
    refine And.intro (fun (g : M.1 5 0 0 10 ≤ nI 0) => ?_) (fun (g : ¬ M.1 5 0 0 10 ≤ nI 0) => ?_)
    · rw [h10, nI_leI (by omega) (by omega)] at g
      rw [q_bi_f (fun h => by have := h.2.1; omega)] at hK
      exact And.intro (Or.inl rfl) hK
    · rw [h10, nI_leI (by omega) (by omega)] at g
      refine Exists.intro _ ⟨cX2_hasSecond_ct hl0, q.2.1, q2, h7, rfl, ?_⟩
      refine And.intro (fun (g2 : M.1 5 0 0 6 = nI 2) => ?_) (fun (g2 : ¬ M.1 5 0 0 6 = nI 2) => ?_)
      · rw [h6, nI_eq (by omega) (by omega)] at g2
        refine And.intro (fun (g3 : q_bi (g_hs q.2.1 = true) = nI 1) => ?_) (fun (g3 : ¬ q_bi (g_hs q.2.1 = true) = nI 1) => ?_)
        · have g4 : g_hs q.2.1 = true := Classical.not_not.mp (fun h => by rw [q_bi_f h] at g3; exact absurd g3 (by decide))
          rw [q_bi_t ⟨g0, by omega, ⟨fun _ => g2, fun _ => g4⟩⟩] at hK
          exact And.intro (Or.inr rfl) hK
        · have g4 : ¬ g_hs q.2.1 = true := fun h => g3 (q_bi_t h)
          rw [q_bi_f (fun h => g4 (h.2.2.mpr g2))] at hK
          exact And.intro (Or.inl rfl) hK
      · rw [h6, nI_eq (by omega) (by omega)] at g2
        refine And.intro (fun (g3 : q_bi (g_hs q.2.1 = true) = nI 0) => ?_) (fun (g3 : ¬ q_bi (g_hs q.2.1 = true) = nI 0) => ?_)
        · have g4 : ¬ g_hs q.2.1 = true := fun h => by rw [q_bi_t h] at g3; exact absurd g3 (by decide)
          rw [q_bi_t ⟨g0, by omega, ⟨fun h => absurd h g4, fun h => absurd h g2⟩⟩] at hK
          exact And.intro (Or.inr rfl) hK
        · have g4 : g_hs q.2.1 = true := Classical.not_not.mp (fun h => g3 (q_bi_f h))
          rw [q_bi_f (fun h => g2 (h.2.2.mp g4))] at hK
          exact And.intro (Or.inl rfl) hK
abbrev pX2_endPart : Q_P := fun av M K KX => ∃ (q : Q_D5) (L : List Q_P3), DV M q L ∧ q.1 ≠ 0 ∧ L.length < 60 ∧ av = [.inr (.inl (5, 0, 0))] ∧ ∀ M', DV M' (0, q.2) (L ++ [(q.2.1, q.2.2.1, q.2.2.2.1)]) → q_cf M M' → K none M'
theorem cX2_endPart_ct {l : Launch} {b : Bool} (hl0 : l.stackTraces = false) : q_Ct l b 22 pX2_endPart := by
  refine q_meth (by decide +kernel) hl0 TX2_endPart kX2_endPart ?_
  intro av M K KX hwf
  rintro ⟨q, L, ⟨hf, hp⟩, h0, hL, rfl, hK⟩
  refine ⟨Nat.le_of_ble_eq_true rfl, fun Z hz hw => ?_⟩
  obtain ⟨h6, hr⟩ := hf
  obtain ⟨h7, h8, h9, h10⟩ := hr h0
  obtain ⟨p1, p2, p3⟩ := hp
  apply hz [] 100
  refine And.intro (fun (g : nI 60 ≤ M.1 5 0 0 2) => absurd (by rw [p2] at g; exact (nI_leI (by omega) (by omega)).mp g) (show ¬ 60 ≤ L.length by omega)) (fun _ => ?_)
  refine Exists.intro L.length ⟨p2, hL, ?_⟩
  refine Exists.intro L.length ⟨show (q_si M (7, 0, 0) L.length (M.1 5 0 0 7)).1 5 0 0 2 = _ by rw [q_i_r (show 5 ≠ 7 by decide)]; exact p2, hL, ?_⟩
  refine Exists.intro L.length ⟨show (q_si (q_si M (7, 0, 0) L.length (M.1 5 0 0 7)) (8, 0, 0) L.length _).1 5 0 0 2 = _ by rw [q_i_r (show 5 ≠ 8 by decide), q_i_r (show 5 ≠ 7 by decide)]; exact p2, hL, ?_⟩
  have em : ∀ (x8 x9 x2 : Int32), x8 = M.1 5 0 0 8 → x9 = M.1 5 0 0 9 → x2 = nI (L.length + 1) → K none (q_si (q_si (q_si (q_si (q_si M (7, 0, 0) L.length (M.1 5 0 0 7)) (8, 0, 0) L.length x8) (9, 0, 0) L.length x9) (5, 0, 0) 2 x2) (5, 0, 0) 6 (nI 0)) := by
    intro x8 x9 x2 e8 e9 e2
    have e5 : (q_si (q_si (q_si (q_si (q_si M (7, 0, 0) L.length (M.1 5 0 0 7)) (8, 0, 0) L.length x8) (9, 0, 0) L.length x9) (5, 0, 0) 2 x2) (5, 0, 0) 6 (nI 0)).1 5 0 0 = upd (upd (M.1 5 0 0) 2 x2) 6 (nI 0) := by
      rw [q_i_e, q_i_e, q_i_r (show 5 ≠ 9 by decide), q_i_r (show 5 ≠ 8 by decide), q_i_r (show 5 ≠ 7 by decide)]
    have e7 : (q_si (q_si (q_si (q_si (q_si M (7, 0, 0) L.length (M.1 5 0 0 7)) (8, 0, 0) L.length x8) (9, 0, 0) L.length x9) (5, 0, 0) 2 x2) (5, 0, 0) 6 (nI 0)).1 7 0 0 = upd (M.1 7 0 0) L.length (M.1 5 0 0 7) := by
      rw [q_i_r (show 7 ≠ 5 by decide), q_i_r (show 7 ≠ 5 by decide), q_i_r (show 7 ≠ 9 by decide), q_i_r (show 7 ≠ 8 by decide), q_i_e]
    have e8' : (q_si (q_si (q_si (q_si (q_si M (7, 0, 0) L.length (M.1 5 0 0 7)) (8, 0, 0) L.length x8) (9, 0, 0) L.length x9) (5, 0, 0) 2 x2) (5, 0, 0) 6 (nI 0)).1 8 0 0 = upd (M.1 8 0 0) L.length x8 := by
      rw [q_i_r (show 8 ≠ 5 by decide), q_i_r (show 8 ≠ 5 by decide), q_i_r (show 8 ≠ 9 by decide), q_i_e, q_i_r (show 8 ≠ 7 by decide)]
    have e9' : (q_si (q_si (q_si (q_si (q_si M (7, 0, 0) L.length (M.1 5 0 0 7)) (8, 0, 0) L.length x8) (9, 0, 0) L.length x9) (5, 0, 0) 2 x2) (5, 0, 0) 6 (nI 0)).1 9 0 0 = upd (M.1 9 0 0) L.length x9 := by
      rw [q_i_r (show 9 ≠ 5 by decide), q_i_r (show 9 ≠ 5 by decide), q_i_e, q_i_r (show 9 ≠ 8 by decide), q_i_r (show 9 ≠ 7 by decide)]
    refine hK _ ⟨⟨?_, fun h => absurd rfl h⟩, ?_, ?_, fun i p hi => ?_⟩ (q_cf_5 (q_cf_5 (q_cf_7 (q_cf_7 (q_cf_7 q_cf_rfl (Or.inl rfl)) (Or.inr (Or.inl rfl))) (Or.inr (Or.inr rfl))) (by decide)) (by decide))
    · rw [e5, q_upd_eq]
    · rw [List.length_append]
      exact hL
    · rw [e5, q_upd_ne (by decide), q_upd_eq, List.length_append]
      exact e2
    · rw [e7, e8', e9']
      by_cases c : i = L.length
      · rw [c, List.getElem?_concat_length] at hi
        cases hi
        rw [c, q_upd_eq, q_upd_eq, q_upd_eq, e8, e9]
        exact ⟨h7, h8, h9⟩
      · rw [q_upd_ne c, q_upd_ne c, q_upd_ne c]
        refine p3 i p ?_
        have hlt : i < L.length := by
          have := (List.getElem?_eq_some_iff.mp hi).1
          rw [List.length_append] at this
          have : i < L.length + 1 := this
          omega
        rw [List.getElem?_append_left hlt] at hi
        exact hi
  refine em _ _ _ ?_ ?_ ?_
  · show (q_si M (7, 0, 0) L.length (M.1 5 0 0 7)).1 5 0 0 8 = _
    rw [q_i_r (show 5 ≠ 7 by decide)]
  · show (q_si (q_si M (7, 0, 0) L.length (M.1 5 0 0 7)) (8, 0, 0) L.length _).1 5 0 0 9 = _
    rw [q_i_r (show 5 ≠ 8 by decide), q_i_r (show 5 ≠ 7 by decide)]
  · show (q_si (q_si (q_si M (7, 0, 0) L.length (M.1 5 0 0 7)) (8, 0, 0) L.length _) (9, 0, 0) L.length _).1 5 0 0 2 + nI 1 = _
    rw [q_i_r (show 5 ≠ 9 by decide), q_i_r (show 5 ≠ 8 by decide), q_i_r (show 5 ≠ 7 by decide), p2, nI_add]
abbrev pX2_acceptsKind : Q_P := fun av M K KX => ∃ (L : List Q_P3) (c : Nat), PV M L ∧ c ≤ 126 ∧ av = [.inr (.inl (5, 0, 0)), .inl (nI c)] ∧ (¬ (c = 97 ∨ c = 103 ∨ c = 108 ∨ c = 117 ∨ c = 116) → K (some (.inl (nI 0))) M) ∧ ((c = 97 ∨ c = 103 ∨ c = 108 ∨ c = 117 ∨ c = 116) → ∀ M', DV M' (1, c, 0, 0, 0) L → q_cf M M' → K (some (.inl (nI 1))) M')
theorem cX2_acceptsKind_ct {l : Launch} {b : Bool} (hl0 : l.stackTraces = false) : q_Ct l b 15 pX2_acceptsKind := by
  refine q_meth (by decide +kernel) hl0 TX2_acceptsKind kX2_acceptsKind ?_
  intro av M K KX hwf
  rintro ⟨L, c, hp, hc, rfl, hN, hK⟩
  refine ⟨Nat.le_of_ble_eq_true rfl, fun Z hz hw => ?_⟩
  have yes : (c = 97 ∨ c = 103 ∨ c = 108 ∨ c = 117 ∨ c = 116) → Z 0 32 [(0, .inr (.inl (5, 0, 0))), (1, .inl (nI c))] [] M := by
    intro h
    apply hz [] 60
    refine And.intro (Or.inr rfl) ?_
    refine hK h _ ⟨⟨?_, fun _ => ⟨?_, ?_, ?_, ?_⟩⟩, PV_5 (PV_5 (PV_5 (PV_5 (PV_5 hp (by decide)) (by decide)) (by decide)) (by decide)) (by decide)⟩ (q_cf_5 (q_cf_5 (q_cf_5 (q_cf_5 (q_cf_5 q_cf_rfl (by decide)) (by decide)) (by decide)) (by decide)) (by decide))
    · rw [q_i_e, q_upd_eq]
      rfl
    · rw [q_i_e, q_upd_ne (by decide), q_i_e, q_upd_ne (by decide), q_i_e, q_upd_ne (by decide), q_i_e, q_upd_ne (by decide), q_i_e, q_upd_eq]
    · rw [q_i_e, q_upd_ne (by decide), q_i_e, q_upd_ne (by decide), q_i_e, q_upd_ne (by decide), q_i_e, q_upd_eq]
      rfl
    · rw [q_i_e, q_upd_ne (by decide), q_i_e, q_upd_ne (by decide), q_i_e, q_upd_eq]
      rfl
    · rw [q_i_e, q_upd_ne (by decide), q_i_e, q_upd_eq]
      rfl
  have ne : ∀ k : Nat, k < 2 ^ 31 → ¬ nI c = nI k → c ≠ k := fun k _ h e => h (congrArg nI e)
  have eq : ∀ k : Nat, k < 2 ^ 31 → nI c = nI k → c = k := fun k hk h => (nI_eq (by omega) hk).mp h
  apply hz [32] 60
  refine And.intro (fun g => yes (Or.inl (eq 97 (by omega) g))) (fun g1 => ?_)
  refine And.intro (fun g => yes (Or.inr (Or.inl (eq 103 (by omega) g)))) (fun g2 => ?_)
  refine And.intro (fun g => yes (Or.inr (Or.inr (Or.inl (eq 108 (by omega) g))))) (fun g3 => ?_)
  refine And.intro (fun g => yes (Or.inr (Or.inr (Or.inr (Or.inl (eq 117 (by omega) g)))))) (fun g4 => ?_)
  refine And.intro (fun g => yes (Or.inr (Or.inr (Or.inr (Or.inr (eq 116 (by omega) g)))))) (fun g5 => ?_)
  refine And.intro (Or.inl rfl) (hN (fun h => ?_))
  have a1 := ne 97 (by omega) g1
  have a2 := ne 103 (by omega) g2
  have a3 := ne 108 (by omega) g3
  have a4 := ne 117 (by omega) g4
  have a5 := ne 116 (by omega) g5
  omega
