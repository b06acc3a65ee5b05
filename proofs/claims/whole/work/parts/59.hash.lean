-- DIGESTS: THE CLASS
def h_a (h v : Int64) : Int64 := 31 * h + v
def h_b (p : Prop) [Decidable p] : Int64 := if p then lN 1 else lN 0
theorem h_b_t {p : Prop} [Decidable p] (h : p) : h_b p = lN 1 := if_pos h
theorem h_b_f {p : Prop} [Decidable p] (h : ¬ p) : h_b p = lN 0 := if_neg h
def h_c1 (S : Nat → Int32) (p : Nat) (h : Int64) : Int64 := h_a (h_a h (S (1 + 12 * p)).toInt64) (S 206 - S (2 + 12 * p)).toInt64
def h_c3 (S : Nat → Int32) (p : Nat) (h : Int64) : Int64 := h_a (h_a (h_a h (S (4 + 12 * p)).toInt64) (S (3 + 12 * p) + nI 1).toInt64) (S 206 - S (5 + 12 * p)).toInt64
def h_c4 (S : Nat → Int32) (p : Nat) (h : Int64) : Int64 := h_a h (if S (3 + 12 * p) < 0 then (nI (s_tn S p (s_n S)) + nI 1).toInt64 else lN 0)
def h_c5 (S : Nat → Int32) (p : Nat) (h : Int64) : Int64 := h_a (h_a h (S (7 + 12 * p)).toInt64) (S (8 + 12 * p)).toInt64
/-- what stands in a row of the slot, from k on, d of them -/
def h_r (S : Nat → Int32) (i : Nat) : Nat → Nat → Int64 → Int64
  | 0, _, h => h
  | d + 1, k, h => h_r S i d (k + 1) (h_a h (S (i + k)).toInt64)
theorem h_r_s {S : Nat → Int32} {i d k : Nat} {h : Int64} : h_r S i (d + 1) k h = h_r S i d (k + 1) (h_a h (S (i + k)).toInt64) := rfl
def h_cn (S : Nat → Int32) (p : Nat) (h : Int64) : Int64 := h_r S (9 + 12 * p) (s_c S p) 0 (h_c5 S p (h_c4 S p (h_c3 S p (h_a (h_c1 S p h) (h_b (S (3 + 12 * p) < 0))))))
def h_lo (S : Nat → Int32) : Option Nat → Int64
  | none => lN 0
  | some p => (s_ll S p).toInt64
def h_wo (S : Nat → Int32) : Option Nat → Int64
  | none => lN 0
  | some k => (S 206 - S (148 + 3 * k)).toInt64
def h_sq (S : Nat → Int32) (x : Nat) (h : Int64) : Int64 := h_a (h_a (h_a (h_a h (s_oi (s_lk S (nI x) (s_n S)) + nI 1).toInt64) (h_lo S (s_lk S (nI x) (s_n S)))) (s_oi (s_qd S (nI x) (s_q S)) + nI 1).toInt64) (h_wo S (s_qd S (nI x) (s_q S)))
def h_st (S : Nat → Int32) (h : Int64) : Int64 := h_r S 207 7 0 h
def h_ac (S : Nat → Int32) (n a b : Nat) (h : Int64) : Int64 := h_a (h_a (h_r S 214 12 0 (h_a h (S 206).toInt64)) (nI n).toInt64) (lN (f_bits a (a + b)))
theorem q_bit_l {x : Int32} (h : q_bit x) : (¬ x = 0 → x.toInt64 = lN 1) ∧ (x = 0 → x.toInt64 = lN 0) := by
  rcases h with rfl | rfl
  · exact ⟨fun g => absurd nI_0 g, fun _ => by decide⟩
  · exact ⟨fun _ => by decide, fun g => absurd g q_n1⟩
abbrev pX3_add : Q_P := fun av M K KX => ∃ v : Int64, av = [.inr (.inl (27, 0, 0)), .inr (.inr (.inl v))] ∧ ∀ C : Nat → Nat → Nat → Nat → Int64, C 27 0 0 0 = h_a (M.2.2 27 0 0 0) v → K none (M.1, M.2.1, C)
theorem cX3_add_ct {l : Launch} {b : Bool} (hl0 : l.stackTraces = false) : q_Ct l b 24 pX3_add := by
  refine q_meth (by decide +kernel) hl0 TX3_add kX3_add ?_
  intro av M K KX hwf
  rintro ⟨v, rfl, hK⟩
  refine ⟨Nat.le_of_ble_eq_true rfl, fun Z hz hw => ?_⟩
  apply hz [] 60
  exact hK _ (if_pos ⟨rfl, rfl, rfl, rfl⟩)
abbrev pX8_hashConnection : Q_P := fun av M K KX => ∃ (S : Nat → Int32) (p : Nat) (h : Int64), RC 0 M S ∧ p < s_n S ∧ M.2.2 27 0 0 0 = h ∧ av = [.inr (.inl (0, 0, 0)), .inr (.inl (27, 0, 0)), .inl (nI p)] ∧ ∀ C : Nat → Nat → Nat → Nat → Int64, C 27 0 0 0 = h_cn S p h → K none (M.1, M.2.1, C)
theorem cX8_hashConnection_ct {l : Launch} {b : Bool} (hl0 : l.stackTraces = false) : q_Ct l b 134 pX8_hashConnection := by
  refine q_meth (by decide +kernel) hl0 TX8_hashConnection kX8_hashConnection ?_
  intro av M K KX hwf
  rintro ⟨S, p, h, hR, hp, hh, rfl, hK⟩
  refine ⟨Nat.le_of_ble_eq_true rfl, fun Z hz hw => ?_⟩
  obtain ⟨A, B, C0⟩ := M
  have wn := hR.1.1.2
  obtain ⟨hst, hcs, hqu, hse, hac⟩ := hR.2
  obtain ⟨⟨f0, f1, f2, f3⟩, ⟨f4, f5, f6, f7⟩, fn⟩ := hcs.2 p hp
  have ft : A 10 0 0 0 = S 206 := hst.1
  have hlok := hR.1.2.2.2.2.2.1 p hp
  obtain ⟨c, hc, h8⟩ := hlok.2.2
  have ec : s_c S p = c := s_of h8 (by omega)
  have f0 : A 19 0 (B 11 0 0 p) 0 = S (1 + 12 * p) := f0
  have f1 : A 19 0 (B 11 0 0 p) 1 = S (2 + 12 * p) := f1
  have f2 : A 19 0 (B 11 0 0 p) 2 = S (4 + 12 * p) := f2
  have f3 : A 19 0 (B 11 0 0 p) 3 = S (3 + 12 * p) := f3
  have f4 : A 19 0 (B 11 0 0 p) 4 = S (5 + 12 * p) := f4
  have f6 : A 19 0 (B 11 0 0 p) 6 = S (7 + 12 * p) := f6
  have f7 : A 19 0 (B 11 0 0 p) 7 = S (8 + 12 * p) := f7
  have hR' : ∀ C, RC 0 (A, B, C) S := fun C => hR
  have hneg : A 19 0 (B 11 0 0 p) 3 = -1 ↔ S (3 + 12 * p) < 0 := by
    rw [f3]
    rcases hlok.1 with g | ⟨x, hx, g⟩
    · rw [g]
      exact ⟨fun _ => by decide, fun _ => rfl⟩
    · rw [g]
      exact ⟨fun e => absurd e.symm (q_m1n (by omega)), fun e => absurd e (nI_pos (by omega))⟩
  have loop : ∀ (d k : Nat) (C : Nat → Nat → Nat → Nat → Int64), k + d = c → h_r S (9 + 12 * p) d k (C 27 0 0 0) = h_cn S p h → Z 0 143 [(4, .inl (nI k)), (3, .inr (.inl (19, 0, B 11 0 0 p))), (0, .inr (.inl (0, 0, 0))), (1, .inr (.inl (27, 0, 0))), (2, .inl (nI p))] [] (A, B, C) := by
    intro d
    induction d with
    | zero =>
      intro k C hk he
      apply hz [143] 60
      refine And.intro (fun _ => hK C he) (fun (g : ¬ A 19 0 (B 11 0 0 p) 7 ≤ nI k) => absurd (by rw [f7, h8]; exact nI_le (by omega) (by omega)) g)
    | succ d ih =>
      intro k C hk he
      apply hz [143] 60
      refine And.intro (fun (g : A 19 0 (B 11 0 0 p) 7 ≤ nI k) => absurd g (by rw [f7, h8, nI_leI (by omega) (by omega)]; omega)) (fun _ => ?_)
      refine Exists.intro k ⟨rfl, by omega, ?_⟩
      refine Exists.intro _ ⟨cX3_add_ct hl0, _, rfl, fun C1 e1 => ?_⟩
      have e1 : C1 27 0 0 0 = h_a (C 27 0 0 0) (A 20 0 (B 11 0 0 p) k).toInt64 := e1
      have fk : A 20 0 (B 11 0 0 p) k = S (9 + 12 * p + k) := fn k (by omega) (by omega)
      have hh := ih (k + 1) C1 (by omega) (by rw [e1, fk]; exact he)
      rw [← nI_add] at hh
      exact hh
  have s119 : ∀ (x : Int64) (C : Nat → Nat → Nat → Nat → Int64) (h3 : Int64), C 27 0 0 0 = h3 → h_a h3 x = h_c4 S p h3 → h_r S (9 + 12 * p) (s_c S p) 0 (h_c5 S p (h_c4 S p h3)) = h_cn S p h → Z 0 119 [(3, .inr (.inl (19, 0, B 11 0 0 p))), (0, .inr (.inl (0, 0, 0))), (1, .inr (.inl (27, 0, 0))), (2, .inl (nI p))] [.inr (.inr (.inl x)), .inr (.inl (27, 0, 0))] (A, B, C) := by
    intro x C h3 g1 g2 g3
    apply hz [143] 60
    refine Exists.intro _ ⟨cX3_add_ct hl0, _, rfl, fun C1 e1 => ?_⟩
    refine Exists.intro _ ⟨cX3_add_ct hl0, _, rfl, fun C2 e2 => ?_⟩
    refine Exists.intro _ ⟨cX3_add_ct hl0, _, rfl, fun C3 e3 => ?_⟩
    have e1 : C1 27 0 0 0 = h_a (C 27 0 0 0) x := e1
    have e2 : C2 27 0 0 0 = h_a (C1 27 0 0 0) (A 19 0 (B 11 0 0 p) 6).toInt64 := e2
    have e3 : C3 27 0 0 0 = h_a (C2 27 0 0 0) (A 19 0 (B 11 0 0 p) 7).toInt64 := e3
    refine loop c 0 C3 (by omega) ?_
    rw [e3, e2, e1, g1, g2, f6, f7, ← ec]
    exact g3
  have s65 : ∀ (x : Int64) (C : Nat → Nat → Nat → Nat → Int64) (h2 : Int64), C 27 0 0 0 = h2 → x = (S (4 + 12 * p)).toInt64 → h_r S (9 + 12 * p) (s_c S p) 0 (h_c5 S p (h_c4 S p (h_c3 S p h2))) = h_cn S p h → Z 0 65 [(3, .inr (.inl (19, 0, B 11 0 0 p))), (0, .inr (.inl (0, 0, 0))), (1, .inr (.inl (27, 0, 0))), (2, .inl (nI p))] [.inr (.inr (.inl x)), .inr (.inl (27, 0, 0))] (A, B, C) := by
    intro x C h2 g1 g2 g3
    apply hz [119] 60
    refine Exists.intro _ ⟨cX3_add_ct hl0, _, rfl, fun C1 e1 => ?_⟩
    refine Exists.intro _ ⟨cX3_add_ct hl0, _, rfl, fun C2 e2 => ?_⟩
    refine Exists.intro _ ⟨cX3_add_ct hl0, _, rfl, fun C3 e3 => ?_⟩
    have e1 : C1 27 0 0 0 = h_a (C 27 0 0 0) x := e1
    have e2 : C2 27 0 0 0 = h_a (C1 27 0 0 0) (A 19 0 (B 11 0 0 p) 3 + nI 1).toInt64 := e2
    have e3 : C3 27 0 0 0 = h_a (C2 27 0 0 0) (A 10 0 0 0 - A 19 0 (B 11 0 0 p) 4).toInt64 := e3
    have hC3 : C3 27 0 0 0 = h_c3 S p h2 := by
      rw [e3, e2, e1, g1, g2, f3, f4, ft]
      rfl
    refine Exists.intro _ ⟨cX1_rests_ct hl0, 0, B 11 0 0 p, rfl, ?_⟩
    show _ ∧ _
    by_cases cf : S (3 + 12 * p) < 0
    · rw [show q_bi ((A, B, C3).1 19 0 (B 11 0 0 p) 3 = -1) = nI 1 from q_bi_t (hneg.mpr cf)]
      refine And.intro (fun g => absurd g q_n1) (fun _ => ?_)
      refine Exists.intro _ ⟨cX7_turnInIdle_ct hl0, 0, S, p, hR' C3, hp, rfl, ?_⟩
      refine s119 _ C3 _ hC3 ?_ g3
      unfold h_c4
      rw [if_pos cf]
      rfl
    · rw [show q_bi ((A, B, C3).1 19 0 (B 11 0 0 p) 3 = -1) = nI 0 from q_bi_f (fun g => cf (hneg.mp g))]
      refine And.intro (fun _ => ?_) (fun g => absurd nI_0 g)
      refine s119 _ C3 _ hC3 ?_ g3
      unfold h_c4
      rw [if_neg cf]
      rfl
  have s49 : ∀ (x : Int64) (C : Nat → Nat → Nat → Nat → Int64), C 27 0 0 0 = h_c1 S p h → x = h_b (S (3 + 12 * p) < 0) → Z 0 49 [(3, .inr (.inl (19, 0, B 11 0 0 p))), (0, .inr (.inl (0, 0, 0))), (1, .inr (.inl (27, 0, 0))), (2, .inl (nI p))] [.inr (.inr (.inl x)), .inr (.inl (27, 0, 0))] (A, B, C) := by
    intro x C g1 g2
    apply hz [65] 60
    refine Exists.intro _ ⟨cX3_add_ct hl0, _, rfl, fun C1 e1 => ?_⟩
    have e1 : C1 27 0 0 0 = h_a (C 27 0 0 0) x := e1
    have hC1 : C1 27 0 0 0 = h_a (h_c1 S p h) (h_b (S (3 + 12 * p) < 0)) := by rw [e1, g1, g2]
    have hb := q_bit_l hlok.2.1
    refine And.intro (fun (g : A 19 0 (B 11 0 0 p) 2 = 0) => ?_) (fun (g : ¬ A 19 0 (B 11 0 0 p) 2 = 0) => ?_)
    · rw [f2] at g
      exact s65 _ C1 _ hC1 (hb.2 g).symm rfl
    · rw [f2] at g
      exact s65 _ C1 _ hC1 (hb.1 g).symm rfl
  apply hz [49] 100
  refine Exists.intro p ⟨rfl, by omega, ?_⟩
  refine Exists.intro _ ⟨cX3_add_ct hl0, _, rfl, fun C1 e1 => ?_⟩
  refine Exists.intro _ ⟨cX3_add_ct hl0, _, rfl, fun C2 e2 => ?_⟩
  have e1 : C1 27 0 0 0 = h_a (C0 27 0 0 0) (A 19 0 (B 11 0 0 p) 0).toInt64 := e1
  have e2 : C2 27 0 0 0 = h_a (C1 27 0 0 0) (A 10 0 0 0 - A 19 0 (B 11 0 0 p) 1).toInt64 := e2
  have hh : C0 27 0 0 0 = h := hh
  have hC2 : C2 27 0 0 0 = h_c1 S p h := by
    rw [e2, e1, hh, f0, f1, ft]
    rfl
  refine Exists.intro _ ⟨cX1_rests_ct hl0, 0, B 11 0 0 p, rfl, ?_⟩
  show _ ∧ _
  by_cases cf : S (3 + 12 * p) < 0
  · rw [show q_bi ((A, B, C2).1 19 0 (B 11 0 0 p) 3 = -1) = nI 1 from q_bi_t (hneg.mpr cf)]
    refine And.intro (fun g => absurd g q_n1) (fun _ => ?_)
    exact s49 _ C2 hC2 (h_b_t cf).symm
  · rw [show q_bi ((A, B, C2).1 19 0 (B 11 0 0 p) 3 = -1) = nI 0 from q_bi_f (fun g => cf (hneg.mp g))]
    refine And.intro (fun _ => ?_) (fun g => absurd nI_0 g)
    exact s49 _ C2 hC2 (h_b_f cf).symm
abbrev pX8_hashSquirrel : Q_P := fun av M K KX => ∃ (S : Nat → Int32) (x : Nat) (h : Int64), RC 0 M S ∧ x < 20 ∧ M.2.2 27 0 0 0 = h ∧ av = [.inr (.inl (0, 0, 0)), .inr (.inl (27, 0, 0)), .inl (nI x)] ∧ ∀ C : Nat → Nat → Nat → Nat → Int64, C 27 0 0 0 = h_sq S x h → K none (M.1, M.2.1, C)
theorem cX8_hashSquirrel_ct {l : Launch} {b : Bool} (hl0 : l.stackTraces = false) : q_Ct l b 135 pX8_hashSquirrel := by
  refine q_meth (by decide +kernel) hl0 TX8_hashSquirrel kX8_hashSquirrel ?_
  intro av M K KX hwf
  rintro ⟨S, x, h, hR, hx, hh, rfl, hK⟩
  refine ⟨Nat.le_of_ble_eq_true rfl, fun Z hz hw => ?_⟩
  obtain ⟨A, B, C0⟩ := M
  have hh : C0 27 0 0 0 = h := hh
  have hR' : ∀ C, RC 0 (A, B, C) S := fun C => hR
  have wn := hR.1.1.2
  have wq := hR.1.2.1.2
  have hm1 : nI x ≠ -1 := fun g => q_m1n (x := x) (by omega) g.symm
  have tail : ∀ (v : Int64) (C : Nat → Nat → Nat → Nat → Int64), C 27 0 0 0 = h_a h (s_oi (s_lk S (nI x) (s_n S)) + nI 1).toInt64 → v = h_lo S (s_lk S (nI x) (s_n S)) → Z 0 36 [(3, .inl (s_oi (s_lk S (nI x) (s_n S)))), (0, .inr (.inl (0, 0, 0))), (1, .inr (.inl (27, 0, 0))), (2, .inl (nI x))] [.inr (.inr (.inl v)), .inr (.inl (27, 0, 0))] (A, B, C) := by
    intro v C g1 g2
    apply hz [] 60
    refine Exists.intro _ ⟨cX3_add_ct hl0, _, rfl, fun C1 e1 => ?_⟩
    refine Exists.intro _ ⟨cX5_placeIn_ct hl0, 0, S, nI x, hR' C1, rfl, ?_⟩
    refine Exists.intro _ ⟨cX3_add_ct hl0, _, rfl, fun C2 e2 => ?_⟩
    have e1 : C1 27 0 0 0 = h_a (C 27 0 0 0) v := e1
    have e2 : C2 27 0 0 0 = h_a (C1 27 0 0 0) (s_oi (s_qd S (nI x) (s_q S)) + nI 1).toInt64 := e2
    have fin : ∀ (w : Int64) (C3 : Nat → Nat → Nat → Nat → Int64), C3 27 0 0 0 = h_a (C2 27 0 0 0) w → w = h_wo S (s_qd S (nI x) (s_q S)) → K none (A, B, C3) := by
      intro w C3 e3 e4
      refine hK C3 ?_
      rw [e3, e4, e2, e1, g1, g2]
      rfl
    cases hq : s_qd S (nI x) (s_q S) with
    | none =>
      rw [hq] at fin
      refine And.intro (fun _ => ?_) (fun g => absurd (show s_oi none = q_i (-1) by decide) g)
      exact Exists.intro _ ⟨cX3_add_ct hl0, _, rfl, fun C3 e3 => fin _ C3 e3 rfl⟩
    | some k =>
      have hk := (s_qd_lt hq).1
      rw [hq] at fin
      refine And.intro (fun g => absurd (show nI k = -1 by rw [← q_im1]; exact g) (fun g => q_m1n (x := k) (by omega) g.symm)) (fun _ => ?_)
      refine Exists.intro _ ⟨cX7_waitAt_ct hl0, 0, S, k, (hR' C2).2, wq, hk, rfl, ?_⟩
      exact Exists.intro _ ⟨cX3_add_ct hl0, _, rfl, fun C3 e3 => fin _ C3 e3 rfl⟩
  apply hz [36] 60
  refine Exists.intro _ ⟨cX7_placeWith_ct hl0, 0, S, nI x, hR, hm1, rfl, ?_⟩
  refine Exists.intro _ ⟨cX3_add_ct hl0, _, rfl, fun C1 e1 => ?_⟩
  have e1 : C1 27 0 0 0 = h_a (C0 27 0 0 0) (s_oi (s_lk S (nI x) (s_n S)) + nI 1).toInt64 := e1
  rw [hh] at e1
  cases hl : s_lk S (nI x) (s_n S) with
  | none =>
    rw [hl] at tail e1
    refine And.intro (fun _ => ?_) (fun g => absurd (show s_oi none = q_i (-1) by decide) g)
    exact tail _ C1 e1 rfl
  | some p =>
    have hp := (s_lk_lt hl).1
    rw [hl] at tail e1
    refine And.intro (fun g => absurd (show nI p = -1 by rw [← q_im1]; exact g) (fun g => q_m1n (x := p) (by omega) g.symm)) (fun _ => ?_)
    refine Exists.intro _ ⟨cX7_leaseRest_ct hl0, 0, S, p, hR' C1, hp, rfl, ?_⟩
    exact tail _ C1 e1 rfl
abbrev pX8_hashSettings : Q_P := fun av M K KX => ∃ (S : Nat → Int32) (h : Int64), RC 0 M S ∧ M.2.2 27 0 0 0 = h ∧ av = [.inr (.inl (0, 0, 0)), .inr (.inl (27, 0, 0))] ∧ ∀ C : Nat → Nat → Nat → Nat → Int64, C 27 0 0 0 = h_st S h → K none (M.1, M.2.1, C)
theorem cX8_hashSettings_ct {l : Launch} {b : Bool} (hl0 : l.stackTraces = false) : q_Ct l b 136 pX8_hashSettings := by
  refine q_meth (by decide +kernel) hl0 TX8_hashSettings kX8_hashSettings ?_
  intro av M K KX hwf
  rintro ⟨S, h, hR, hh, rfl, hK⟩
  refine ⟨Nat.le_of_ble_eq_true rfl, fun Z hz hw => ?_⟩
  obtain ⟨A, B, C0⟩ := M
  have hh : C0 27 0 0 0 = h := hh
  have hse := hR.2.2.2.2.1
  have g0 : A 16 0 0 0 = S 207 := hse 0 (by decide)
  have g1 : A 16 0 0 1 = S 208 := hse 1 (by decide)
  have g2 : A 16 0 0 2 = S 209 := hse 2 (by decide)
  have g3 : A 16 0 0 3 = S 210 := hse 3 (by decide)
  have g4 : A 16 0 0 4 = S 211 := hse 4 (by decide)
  have g5 : A 16 0 0 5 = S 212 := hse 5 (by decide)
  have g6 : A 16 0 0 6 = S 213 := hse 6 (by decide)
  have hb := q_bit_l hR.1.2.2.2.2.1
  apply hz [] 100
  refine Exists.intro _ ⟨cX3_add_ct hl0, _, rfl, fun C1 e1 => ?_⟩
  refine Exists.intro _ ⟨cX3_add_ct hl0, _, rfl, fun C2 e2 => ?_⟩
  refine Exists.intro _ ⟨cX3_add_ct hl0, _, rfl, fun C3 e3 => ?_⟩
  refine Exists.intro _ ⟨cX3_add_ct hl0, _, rfl, fun C4 e4 => ?_⟩
  refine Exists.intro _ ⟨cX3_add_ct hl0, _, rfl, fun C5 e5 => ?_⟩
  refine Exists.intro _ ⟨cX3_add_ct hl0, _, rfl, fun C6 e6 => ?_⟩
  have e1 : C1 27 0 0 0 = h_a (C0 27 0 0 0) (A 16 0 0 0).toInt64 := e1
  have e2 : C2 27 0 0 0 = h_a (C1 27 0 0 0) (A 16 0 0 1).toInt64 := e2
  have e3 : C3 27 0 0 0 = h_a (C2 27 0 0 0) (A 16 0 0 2).toInt64 := e3
  have e4 : C4 27 0 0 0 = h_a (C3 27 0 0 0) (A 16 0 0 3).toInt64 := e4
  have e5 : C5 27 0 0 0 = h_a (C4 27 0 0 0) (A 16 0 0 4).toInt64 := e5
  have e6 : C6 27 0 0 0 = h_a (C5 27 0 0 0) (A 16 0 0 5).toInt64 := e6
  have fin : ∀ (w : Int64) (C7 : Nat → Nat → Nat → Nat → Int64), C7 27 0 0 0 = h_a (C6 27 0 0 0) w → w = (S 213).toInt64 → K none (A, B, C7) := by
    intro w C7 e7 e8
    refine hK C7 ?_
    rw [e7, e8, e6, e5, e4, e3, e2, e1, hh, g0, g1, g2, g3, g4, g5]
    rfl
  refine And.intro (fun (g : A 16 0 0 6 = 0) => ?_) (fun (g : ¬ A 16 0 0 6 = 0) => ?_)
  · rw [g6] at g
    exact Exists.intro _ ⟨cX3_add_ct hl0, _, rfl, fun C7 e7 => fin _ C7 e7 (hb.2 g).symm⟩
  · rw [g6] at g
    exact Exists.intro _ ⟨cX3_add_ct hl0, _, rfl, fun C7 e7 => fin _ C7 e7 (hb.1 g).symm⟩
abbrev pX8_hashAccounts : Q_P := fun av M K KX => ∃ (S : Nat → Int32) (n a b : Nat) (h : Int64), RC 0 M S ∧ M.1 3 0 0 0 = nI n ∧ S 224 = nI a ∧ S 225 = nI b ∧ a + b ≤ 1024 ∧ M.2.2 27 0 0 0 = h ∧ av = [.inr (.inl (0, 0, 0)), .inr (.inl (27, 0, 0))] ∧ ∀ C : Nat → Nat → Nat → Nat → Int64, C 27 0 0 0 = h_ac S n a b h → K none (M.1, M.2.1, C)
theorem cX8_hashAccounts_ct {l : Launch} {b : Bool} (hl0 : l.stackTraces = false) : q_Ct l b 137 pX8_hashAccounts := by
  refine q_meth (by decide +kernel) hl0 TX8_hashAccounts kX8_hashAccounts ?_
  intro av M K KX hwf
  rintro ⟨S, n, a, b, h, hR, hn, ha, hb, hab, hh, rfl, hK⟩
  refine ⟨Nat.le_of_ble_eq_true rfl, fun Z hz hw => ?_⟩
  obtain ⟨A, B, C0⟩ := M
  have hh : C0 27 0 0 0 = h := hh
  have hR' : ∀ C, RC 0 (A, B, C) S := fun C => hR
  have hac := hR.2.2.2.2.2
  have ft : A 10 0 0 0 = S 206 := hR.2.1.1
  have hn : A 3 0 0 0 = nI n := hn
  have g0 : A 17 0 0 0 = S 214 := hac.1
  have gc : ∀ i, i < 5 → A 18 0 0 i = S (215 + i) := hac.2.1
  have g2 : A 17 0 0 2 = S 220 := hac.2.2 0 (by decide)
  have g3 : A 17 0 0 3 = S 221 := hac.2.2 1 (by decide)
  have g4 : A 17 0 0 4 = S 222 := hac.2.2 2 (by decide)
  have g5 : A 17 0 0 5 = S 223 := hac.2.2 3 (by decide)
  have g6 : A 17 0 0 6 = S 224 := hac.2.2 4 (by decide)
  have g7 : A 17 0 0 7 = S 225 := hac.2.2 5 (by decide)
  have loop : ∀ (d k : Nat) (C : Nat → Nat → Nat → Nat → Int64), k + d = 5 → h_r S 214 (d + 6) (k + 1) (C 27 0 0 0) = h_r S 214 12 0 (h_a h (S 206).toInt64) → Z 0 31 [(3, .inl (nI k)), (2, .inr (.inl (17, 0, 0))), (0, .inr (.inl (0, 0, 0))), (1, .inr (.inl (27, 0, 0)))] [] (A, B, C) := by
    intro d
    induction d with
    | zero =>
      intro k C hk he
      have hk5 : k = 5 := by omega
      subst hk5
      apply hz [31] 100
      refine And.intro (fun _ => ?_) (fun g => absurd (show nI 5 ≤ nI 5 from nI_le (by omega) (by omega)) g)
      refine Exists.intro _ ⟨cX3_add_ct hl0, _, rfl, fun C1 e1 => ?_⟩
      refine Exists.intro _ ⟨cX3_add_ct hl0, _, rfl, fun C2 e2 => ?_⟩
      refine Exists.intro _ ⟨cX3_add_ct hl0, _, rfl, fun C3 e3 => ?_⟩
      refine Exists.intro _ ⟨cX3_add_ct hl0, _, rfl, fun C4 e4 => ?_⟩
      refine Exists.intro _ ⟨cX3_add_ct hl0, _, rfl, fun C5 e5 => ?_⟩
      refine Exists.intro _ ⟨cX3_add_ct hl0, _, rfl, fun C6 e6 => ?_⟩
      refine Exists.intro _ ⟨cX3_add_ct hl0, _, rfl, fun C7 e7 => ?_⟩
      refine Exists.intro _ ⟨cX0_shareOfHits_ct hl0, 0, S, a, b, hR' C7, ha, hb, hab, rfl, ?_⟩
      refine Exists.intro _ ⟨cX8_bitsOfShare_ct hl0, a, a + b, by omega, hab, rfl, ?_⟩
      refine Exists.intro _ ⟨cX3_add_ct hl0, _, rfl, fun C8 e8 => ?_⟩
      have e1 : C1 27 0 0 0 = h_a (C 27 0 0 0) (A 17 0 0 2).toInt64 := e1
      have e2 : C2 27 0 0 0 = h_a (C1 27 0 0 0) (A 17 0 0 3).toInt64 := e2
      have e3 : C3 27 0 0 0 = h_a (C2 27 0 0 0) (A 17 0 0 4).toInt64 := e3
      have e4 : C4 27 0 0 0 = h_a (C3 27 0 0 0) (A 17 0 0 5).toInt64 := e4
      have e5 : C5 27 0 0 0 = h_a (C4 27 0 0 0) (A 17 0 0 6).toInt64 := e5
      have e6 : C6 27 0 0 0 = h_a (C5 27 0 0 0) (A 17 0 0 7).toInt64 := e6
      have e7 : C7 27 0 0 0 = h_a (C6 27 0 0 0) (A 3 0 0 0).toInt64 := e7
      have e8 : C8 27 0 0 0 = h_a (C7 27 0 0 0) (lN (f_bits a (a + b))) := e8
      refine hK C8 ?_
      unfold h_ac
      rw [← he]
      generalize lN (f_bits a (a + b)) = F at e8 ⊢
      rw [e8, e7, e6, e5, e4, e3, e2, e1, g2, g3, g4, g5, g6, g7, hn]
      rfl
    | succ d ih =>
      intro k C hk he
      apply hz [31] 60
      refine And.intro (fun (g : nI 5 ≤ nI k) => absurd ((nI_leI (by omega) (by omega)).mp g) (by omega)) (fun _ => ?_)
      refine Exists.intro k ⟨rfl, by omega, ?_⟩
      refine Exists.intro _ ⟨cX3_add_ct hl0, _, rfl, fun C1 e1 => ?_⟩
      have e1 : C1 27 0 0 0 = h_a (C 27 0 0 0) (A 18 0 0 k).toInt64 := e1
      have hh := ih (k + 1) C1 (by omega) (by
        rw [e1, gc k (by omega), ← he, show d + 1 + 6 = (d + 6) + 1 by omega]
        show _ = h_r S 214 (d + 6) (k + 1 + 1) (h_a (C 27 0 0 0) (S (214 + (k + 1))).toInt64)
        rw [show 214 + (k + 1) = 215 + k by omega])
      rw [← nI_add] at hh
      exact hh
  apply hz [31] 60
  refine Exists.intro _ ⟨cX3_add_ct hl0, _, rfl, fun C1 e1 => ?_⟩
  refine Exists.intro _ ⟨cX3_add_ct hl0, _, rfl, fun C2 e2 => ?_⟩
  have e1 : C1 27 0 0 0 = h_a (C0 27 0 0 0) (A 10 0 0 0).toInt64 := e1
  have e2 : C2 27 0 0 0 = h_a (C1 27 0 0 0) (A 17 0 0 0).toInt64 := e2
  refine loop 5 0 C2 (by omega) ?_
  rw [e2, e1, hh, ft, g0, h_r_s (d := 11)]
