-- THE CLASS'S STATE AGAINST THE REFERENCE'S SLOT
def r_st (f S : Nat → Int32) : Prop := f 0 = S 206 ∧ f 1 = S 0 ∧ f 2 = S 226
def r_cn (S : Nat → Int32) (p : Nat) (f g : Nat → Int32) : Prop := (f 0 = S (1 + 12 * p) ∧ f 1 = S (2 + 12 * p) ∧ f 2 = S (4 + 12 * p) ∧ f 3 = S (3 + 12 * p)) ∧ (f 4 = S (5 + 12 * p) ∧ f 5 = S (6 + 12 * p) ∧ f 6 = S (7 + 12 * p) ∧ f 7 = S (8 + 12 * p)) ∧ ∀ k, k < 4 → k < s_c S p → g k = S (9 + 12 * p + k)
def r_pl (F : Nat → Nat) : Prop := (∀ p, p < 12 → F p < 12) ∧ ∀ p p', p < 12 → p' < 12 → F p = F p' → p = p'
def r_cs (F : Nat → Nat) (C N : Nat → Nat → Int32) (S : Nat → Int32) : Prop := r_pl F ∧ ∀ p, p < s_n S → r_cn S p (C (F p)) (N (F p))
def r_qu (f s u t S : Nat → Int32) : Prop := f 0 = S 145 ∧ ∀ k, k < s_q S → s k = S (146 + 3 * k) ∧ u k = S (147 + 3 * k) ∧ t k = S (148 + 3 * k)
def r_se (f S : Nat → Int32) : Prop := ∀ i, i < 7 → f i = S (207 + i)
def r_ac (f c S : Nat → Int32) : Prop := f 0 = S 214 ∧ (∀ i, i < 5 → c i = S (215 + i)) ∧ ∀ i, i < 6 → f (2 + i) = S (220 + i)
def RC0 (j : Nat) (M : Q_M) (S : Nat → Int32) : Prop := r_st (M.1 10 j 0) S ∧ r_cs (M.2.1 11 j 0) (M.1 19 j) (M.1 20 j) S ∧ r_qu (M.1 12 j 0) (M.1 13 j 0) (M.1 14 j 0) (M.1 15 j 0) S ∧ r_se (M.1 16 j 0) S ∧ r_ac (M.1 17 j 0) (M.1 18 j 0) S
def RC (j : Nat) (M : Q_M) (S : Nat → Int32) : Prop := s_wf S ∧ RC0 j M S
theorem s_lk_at {S : Nat → Int32} {x : Int32} {k : Nat} : ∀ {n : Nat}, k < n → S (3 + 12 * k) = x → (∀ k', k' < n → k' ≠ k → S (3 + 12 * k') ≠ x) → s_lk S x n = some k
  | 0, h, _, _ => absurd h (by omega)
  | n + 1, h, e, hu => by
    unfold s_lk
    by_cases c : S (3 + 12 * n) = x
    · rw [if_pos c]
      by_cases g : n = k
      · rw [g]
      · exact absurd c (hu n (by omega) g)
    · rw [if_neg c]
      have : k ≠ n := fun g => c (by rw [← g]; exact e)
      exact s_lk_at (by omega) e (fun k' h1 h2 => hu k' (by omega) h2)
theorem s_lk_no {S : Nat → Int32} {x : Int32} : ∀ {n : Nat}, (∀ k', k' < n → S (3 + 12 * k') ≠ x) → s_lk S x n = none
  | 0, _ => rfl
  | n + 1, hu => by
    unfold s_lk
    rw [if_neg (hu n (by omega)), s_lk_no (fun k' h => hu k' (by omega))]
theorem s_lk_none {S : Nat → Int32} {x : Int32} : ∀ {n : Nat}, s_lk S x n = none → ∀ k', k' < n → S (3 + 12 * k') ≠ x
  | 0, _, k', h => absurd h (by omega)
  | n + 1, hn, k', h => by
    unfold s_lk at hn
    by_cases c : S (3 + 12 * n) = x
    · rw [if_pos c] at hn
      cases hn
    · rw [if_neg c] at hn
      by_cases g : k' = n
      · rw [g]
        exact c
      · exact s_lk_none hn k' (by omega)
theorem s_qd_at {S : Nat → Int32} {x : Int32} {k : Nat} : ∀ {n : Nat}, k < n → S (146 + 3 * k) = x → (∀ k', k' < n → k' ≠ k → S (146 + 3 * k') ≠ x) → s_qd S x n = some k
  | 0, h, _, _ => absurd h (by omega)
  | n + 1, h, e, hu => by
    unfold s_qd
    by_cases c : S (146 + 3 * n) = x
    · rw [if_pos c]
      by_cases g : n = k
      · rw [g]
      · exact absurd c (hu n (by omega) g)
    · rw [if_neg c]
      have : k ≠ n := fun g => c (by rw [← g]; exact e)
      exact s_qd_at (by omega) e (fun k' h1 h2 => hu k' (by omega) h2)
theorem s_qd_no {S : Nat → Int32} {x : Int32} : ∀ {n : Nat}, (∀ k', k' < n → S (146 + 3 * k') ≠ x) → s_qd S x n = none
  | 0, _ => rfl
  | n + 1, hu => by
    unfold s_qd
    rw [if_neg (hu n (by omega)), s_qd_no (fun k' h => hu k' (by omega))]
theorem s_qd_none {S : Nat → Int32} {x : Int32} : ∀ {n : Nat}, s_qd S x n = none → ∀ k', k' < n → S (146 + 3 * k') ≠ x
  | 0, _, k', h => absurd h (by omega)
  | n + 1, hn, k', h => by
    unfold s_qd at hn
    by_cases c : S (146 + 3 * n) = x
    · rw [if_pos c] at hn
      cases hn
    · rw [if_neg c] at hn
      by_cases g : k' = n
      · rw [g]
        exact c
      · exact s_qd_none hn k' (by omega)
theorem s_neg {S : Nat → Int32} {p : Nat} (h : s_lok S p) : S (3 + 12 * p) < 0 ↔ S (3 + 12 * p) = -1 := by
  rcases h.1 with e | ⟨x, hx, e⟩
  · rw [e]
    exact ⟨fun _ => rfl, fun _ => by decide⟩
  · rw [e]
    exact ⟨fun g => absurd g (nI_pos (by omega)), fun g => absurd g.symm (q_m1n (by omega))⟩
theorem s_oi_m1 {f : Option Nat} (h : ∀ p, f = some p → p < 2 ^ 31) : s_oi f = -1 ↔ f = none := by
  cases f with
  | none => exact ⟨fun _ => rfl, fun _ => rfl⟩
  | some p => exact ⟨fun g => absurd (Eq.symm g) (q_m1n (h p rfl)), fun g => (by cases g)⟩
theorem q_bi_eq {p q : Prop} [Decidable p] [Decidable q] : q_bi p = q_bi q ↔ (p ↔ q) := by
  unfold q_bi
  by_cases hp : p
  · by_cases hq : q
    · rw [if_pos hp, if_pos hq]
      exact ⟨fun _ => ⟨fun _ => hq, fun _ => hp⟩, fun _ => rfl⟩
    · rw [if_pos hp, if_neg hq]
      exact ⟨fun g => absurd g (by decide), fun g => absurd (g.mp hp) hq⟩
  · by_cases hq : q
    · rw [if_neg hp, if_pos hq]
      exact ⟨fun g => absurd g (by decide), fun g => absurd (g.mpr hq) hp⟩
    · rw [if_neg hp, if_neg hq]
      exact ⟨fun _ => ⟨fun g => absurd g hp, fun g => absurd g hq⟩, fun _ => rfl⟩
theorem q_bit_bi {x : Int32} (h : q_bit x) : q_bi (x = nI 1) = x := by
  rcases h with e | e
  · rw [e]
    decide
  · rw [e]
    decide
theorem q_bi_dec {p : Prop} [Decidable p] : q_bi (decide p = true) = q_bi p := q_bi_c (by simp)
/-- how many idle ones are lent ahead of the one at p -/
def s_tn (S : Nat → Int32) (p : Nat) : Nat → Nat
  | 0 => 0
  | k + 1 => s_tn S p k + (if S (3 + 12 * k) < 0 ∧ k ≠ p ∧ (S 213 = nI 1 ↔ S (6 + 12 * p) < S (6 + 12 * k)) then 1 else 0)
/-- what is left of the lease at p -/
def s_ll (S : Nat → Int32) (p : Nat) : Int32 := if S 211 - (S 206 - S (5 + 12 * p)) < nI 1 then nI 1 else S 211 - (S 206 - S (5 + 12 * p))
abbrev pX1_rests : Q_P := fun av M K KX => ∃ j c : Nat, av = [.inr (.inl (19, j, c))] ∧ K (some (.inl (q_bi (M.1 19 j c 3 = -1)))) M
theorem cX1_rests_ct {l : Launch} {b : Bool} (hl0 : l.stackTraces = false) : q_Ct l b 6 pX1_rests := by
  refine q_meth (by decide +kernel) hl0 TX1_rests kX1_rests ?_
  intro av M K KX hwf
  rintro ⟨j, c, rfl, hK⟩
  refine ⟨Nat.le_of_ble_eq_true rfl, fun Z hz hw => ?_⟩
  apply hz [] 60
  refine And.intro (fun (g : M.1 19 j c 3 = -1) => ?_) (fun (g : ¬ M.1 19 j c 3 = -1) => ?_)
  · rw [q_bi_t g] at hK
    exact And.intro (Or.inr rfl) hK
  · rw [q_bi_f g] at hK
    exact And.intro (Or.inl rfl) hK
abbrev pX7_placeWith : Q_P := fun av M K KX => ∃ (j : Nat) (S : Nat → Int32) (x : Int32), RC j M S ∧ x ≠ -1 ∧ av = [.inr (.inl (10, j, 0)), .inl x] ∧ K (some (.inl (s_oi (s_lk S x (s_n S))))) M
theorem cX7_placeWith_ct {l : Launch} {b : Bool} (hl0 : l.stackTraces = false) : q_Ct l b 38 pX7_placeWith := by
  refine q_meth (by decide +kernel) hl0 TX7_placeWith kX7_placeWith ?_
  intro av M K KX hwf
  rintro ⟨j, S, x, ⟨w, hst, ⟨hpl, hcn⟩, -⟩, hx, rfl, hK⟩
  refine ⟨Nat.le_of_ble_eq_true rfl, fun Z hz hw => ?_⟩
  have wn := w.1.2
  have h1 : M.1 10 j 0 1 = nI (s_n S) := hst.2.1.trans w.1.1
  have loop : ∀ (d k : Nat), k + d = s_n S → (∀ k', k' < k → S (3 + 12 * k') ≠ x) → Z 0 2 [(2, .inl (nI k)), (0, .inr (.inl (10, j, 0))), (1, .inl x)] [] M := by
    intro d
    induction d with
    | zero =>
      intro k hk hno
      apply hz [2] 60
      refine And.intro (fun _ => ?_) (fun g => absurd (show M.1 10 j 0 1 ≤ nI k by rw [h1]; exact nI_le (by omega) (by omega)) g)
      obtain rfl : k = s_n S := by omega
      rw [s_lk_no hno] at hK
      exact hK
    | succ d ih =>
      intro k hk hno
      apply hz [2] 60
      refine And.intro (fun (g : M.1 10 j 0 1 ≤ nI k) => ?_) (fun _ => ?_)
      · rw [h1, nI_leI (by omega) (by omega)] at g
        omega
      · refine Exists.intro k ⟨rfl, by omega, ?_⟩
        have e : M.1 19 j (M.2.1 11 j 0 k) 3 = S (3 + 12 * k) := (hcn k (by omega)).1.2.2.2
        refine And.intro (fun (c : M.1 19 j (M.2.1 11 j 0 k) 3 = x) => ?_) (fun (c : ¬ M.1 19 j (M.2.1 11 j 0 k) 3 = x) => ?_)
        · rw [e] at c
          rw [s_lk_at (show k < s_n S by omega) c (fun k' g1 g2 g3 => ?_)] at hK
          · exact hK
          · exact hx (by rw [← c]; exact w.2.2.2.2.2.2.2.1 k k' (by omega) g1 (Ne.symm g2) (c.trans g3.symm))
        · rw [e] at c
          have h := ih (k + 1) (by omega) (fun k' g => by
            by_cases g2 : k' = k
            · rw [g2]; exact c
            · exact hno k' (by omega))
          rw [← nI_add k 1] at h
          exact h
  apply hz [2] 60
  exact loop (s_n S) 0 (by omega) (fun k' g => absurd g (by omega))
abbrev pX5_placeIn : Q_P := fun av M K KX => ∃ (j : Nat) (S : Nat → Int32) (x : Int32), RC j M S ∧ av = [.inr (.inl (12, j, 0)), .inl x] ∧ K (some (.inl (s_oi (s_qd S x (s_q S))))) M
theorem cX5_placeIn_ct {l : Launch} {b : Bool} (hl0 : l.stackTraces = false) : q_Ct l b 31 pX5_placeIn := by
  refine q_meth (by decide +kernel) hl0 TX5_placeIn kX5_placeIn ?_
  intro av M K KX hwf
  rintro ⟨j, S, x, ⟨w, -, -, ⟨hq0, hq⟩, -⟩, rfl, hK⟩
  refine ⟨Nat.le_of_ble_eq_true rfl, fun Z hz hw => ?_⟩
  have wq := w.2.1.2
  have h1 : M.1 12 j 0 0 = nI (s_q S) := hq0.trans w.2.1.1
  have loop : ∀ (d k : Nat), k + d = s_q S → (∀ k', k' < k → S (146 + 3 * k') ≠ x) → Z 0 2 [(2, .inl (nI k)), (0, .inr (.inl (12, j, 0))), (1, .inl x)] [] M := by
    intro d
    induction d with
    | zero =>
      intro k hk hno
      apply hz [2] 60
      refine And.intro (fun _ => ?_) (fun g => absurd (show M.1 12 j 0 0 ≤ nI k by rw [h1]; exact nI_le (by omega) (by omega)) g)
      obtain rfl : k = s_q S := by omega
      rw [s_qd_no hno] at hK
      exact hK
    | succ d ih =>
      intro k hk hno
      apply hz [2] 60
      refine And.intro (fun (g : M.1 12 j 0 0 ≤ nI k) => ?_) (fun _ => ?_)
      · rw [h1, nI_leI (by omega) (by omega)] at g
        omega
      · refine Exists.intro k ⟨rfl, by omega, ?_⟩
        have e : M.1 13 j 0 k = S (146 + 3 * k) := (hq k (by omega)).1
        refine And.intro (fun (c : M.1 13 j 0 k = x) => ?_) (fun (c : ¬ M.1 13 j 0 k = x) => ?_)
        · rw [e] at c
          rw [s_qd_at (show k < s_q S by omega) c (fun k' g1 g2 g3 => w.2.2.2.2.2.2.2.2.1 k k' (by omega) g1 (Ne.symm g2) (c.trans g3.symm))] at hK
          exact hK
        · rw [e] at c
          have h := ih (k + 1) (by omega) (fun k' g => by
            by_cases g2 : k' = k
            · rw [g2]; exact c
            · exact hno k' (by omega))
          rw [← nI_add k 1] at h
          exact h
  apply hz [2] 60
  exact loop (s_q S) 0 (by omega) (fun k' g => absurd g (by omega))
abbrev pX7_isBusy : Q_P := fun av M K KX => ∃ (j : Nat) (S : Nat → Int32) (x : Int32), RC j M S ∧ x ≠ -1 ∧ av = [.inr (.inl (10, j, 0)), .inl x] ∧ K (some (.inl (q_bi (¬ (s_lk S x (s_n S) = none ∧ s_qd S x (s_q S) = none))))) M
theorem cX7_isBusy_ct {l : Launch} {b : Bool} (hl0 : l.stackTraces = false) : q_Ct l b 39 pX7_isBusy := by
  refine q_meth (by decide +kernel) hl0 TX7_isBusy kX7_isBusy ?_
  intro av M K KX hwf
  rintro ⟨j, S, x, hR, hx, rfl, hK⟩
  refine ⟨Nat.le_of_ble_eq_true rfl, fun Z hz hw => ?_⟩
  have wn := hR.1.1.2
  have wq := hR.1.2.1.2
  have g1 : ∀ p, s_lk S x (s_n S) = some p → p < 2 ^ 31 := fun p g => by have := (s_lk_lt g).1; omega
  have g2 : ∀ p, s_qd S x (s_q S) = some p → p < 2 ^ 31 := fun p g => by have := (s_qd_lt g).1; omega
  apply hz [] 60
  refine Exists.intro _ ⟨cX7_placeWith_ct hl0, j, S, x, hR, hx, rfl, ?_⟩
  refine And.intro (fun c => ?_) (fun c => ?_)
  · have c := (s_oi_m1 g1).mp c
    refine Exists.intro _ ⟨cX5_placeIn_ct hl0, j, S, x, hR, rfl, ?_⟩
    refine And.intro (fun c2 => ?_) (fun c2 => ?_)
    · have c2 := (s_oi_m1 g2).mp c2
      rw [q_bi_f (fun g => g ⟨c, c2⟩)] at hK
      exact And.intro (Or.inl rfl) hK
    · have hn : ¬ (s_lk S x (s_n S) = none ∧ s_qd S x (s_q S) = none) := fun g => c2 ((s_oi_m1 g2).mpr g.2)
      rw [q_bi_t hn] at hK
      exact And.intro (Or.inr rfl) hK
  · have hn : ¬ (s_lk S x (s_n S) = none ∧ s_qd S x (s_q S) = none) := fun g => c ((s_oi_m1 g1).mpr g.1)
    rw [q_bi_t hn] at hK
    exact And.intro (Or.inr rfl) hK
abbrev pX7_countIdle : Q_P := fun av M K KX => ∃ (j : Nat) (S : Nat → Int32), RC j M S ∧ av = [.inr (.inl (10, j, 0))] ∧ K (some (.inl (nI (s_cf S (s_n S))))) M
theorem cX7_countIdle_ct {l : Launch} {b : Bool} (hl0 : l.stackTraces = false) : q_Ct l b 40 pX7_countIdle := by
  refine q_meth (by decide +kernel) hl0 TX7_countIdle kX7_countIdle ?_
  intro av M K KX hwf
  rintro ⟨j, S, ⟨w, hst, ⟨hpl, hcn⟩, -⟩, rfl, hK⟩
  refine ⟨Nat.le_of_ble_eq_true rfl, fun Z hz hw => ?_⟩
  have wn := w.1.2
  have h1 : M.1 10 j 0 1 = nI (s_n S) := hst.2.1.trans w.1.1
  have loop : ∀ (d k : Nat), k + d = s_n S → Z 0 4 [(2, .inl (nI k)), (1, .inl (nI (s_cf S k))), (0, .inr (.inl (10, j, 0)))] [] M := by
    intro d
    induction d with
    | zero =>
      intro k hk
      apply hz [4] 60
      refine And.intro (fun _ => ?_) (fun g => absurd (show M.1 10 j 0 1 ≤ nI k by rw [h1]; exact nI_le (by omega) (by omega)) g)
      obtain rfl : k = s_n S := by omega
      exact hK
    | succ d ih =>
      intro k hk
      apply hz [4] 60
      refine And.intro (fun (g : M.1 10 j 0 1 ≤ nI k) => ?_) (fun _ => ?_)
      · rw [h1, nI_leI (by omega) (by omega)] at g
        omega
      · refine Exists.intro k ⟨rfl, by omega, ?_⟩
        have e : M.1 19 j (M.2.1 11 j 0 k) 3 = S (3 + 12 * k) := (hcn k (by omega)).1.2.2.2
        have hl := s_neg (w.2.2.2.2.2.1 k (by omega))
        refine Exists.intro _ ⟨cX1_rests_ct hl0, j, M.2.1 11 j 0 k, rfl, ?_⟩
        rw [e]
        have h := ih (k + 1) (by omega)
        unfold s_cf at h
        refine And.intro (fun c => ?_) (fun c => ?_)
        · have c := q_bi_0.mp c
          rw [if_neg (fun g => c (hl.mp g)), Nat.add_zero, ← nI_add k 1] at h
          exact h
        · have c : S (3 + 12 * k) = -1 := Classical.not_not.mp (fun g => c (q_bi_0.mpr g))
          rw [if_pos (hl.mpr c), ← nI_add k 1, ← nI_add (s_cf S k) 1] at h
          exact h
  apply hz [4] 60
  exact loop (s_n S) 0 (by omega)
abbrev pX7_becameIdleBehind : Q_P := fun av M K KX => ∃ (j : Nat) (S : Nat → Int32) (a c : Nat), RC j M S ∧ a < s_n S ∧ c < s_n S ∧ av = [.inr (.inl (10, j, 0)), .inl (nI a), .inl (nI c)] ∧ K (some (.inl (q_bi (S (6 + 12 * c) < S (6 + 12 * a))))) M
theorem cX7_becameIdleBehind_ct {l : Launch} {b : Bool} (hl0 : l.stackTraces = false) : q_Ct l b 42 pX7_becameIdleBehind := by
  refine q_meth (by decide +kernel) hl0 TX7_becameIdleBehind kX7_becameIdleBehind ?_
  intro av M K KX hwf
  rintro ⟨j, S, a, c, ⟨w, hst, ⟨hpl, hcn⟩, -⟩, ha, hc, rfl, hK⟩
  refine ⟨Nat.le_of_ble_eq_true rfl, fun Z hz hw => ?_⟩
  have wn := w.1.2
  have e1 : M.1 19 j (M.2.1 11 j 0 a) 5 = S (6 + 12 * a) := (hcn a ha).2.1.2.1
  have e2 : M.1 19 j (M.2.1 11 j 0 c) 5 = S (6 + 12 * c) := (hcn c hc).2.1.2.1
  apply hz [] 60
  refine Exists.intro a ⟨rfl, by omega, ?_⟩
  refine Exists.intro c ⟨rfl, by omega, ?_⟩
  refine And.intro (fun (g : M.1 19 j (M.2.1 11 j 0 a) 5 ≤ M.1 19 j (M.2.1 11 j 0 c) 5) => ?_) (fun (g : ¬ M.1 19 j (M.2.1 11 j 0 a) 5 ≤ M.1 19 j (M.2.1 11 j 0 c) 5) => ?_)
  · rw [e1, e2] at g
    rw [q_bi_f (Int32.not_lt.mpr g)] at hK
    exact And.intro (Or.inl rfl) hK
  · rw [e1, e2] at g
    rw [q_bi_t (Int32.not_le.mp g)] at hK
    exact And.intro (Or.inr rfl) hK
abbrev pX7_placeOfIdle : Q_P := fun av M K KX => ∃ (j : Nat) (S : Nat → Int32) (last : Bool), RC j M S ∧ av = [.inr (.inl (10, j, 0)), .inl (q_bi (last = true))] ∧ K (some (.inl (s_oi (s_fo S last (s_n S))))) M
theorem cX7_placeOfIdle_ct {l : Launch} {b : Bool} (hl0 : l.stackTraces = false) : q_Ct l b 41 pX7_placeOfIdle := by
  refine q_meth (by decide +kernel) hl0 TX7_placeOfIdle kX7_placeOfIdle ?_
  intro av M K KX hwf
  rintro ⟨j, S, last, hR, rfl, hK⟩
  refine ⟨Nat.le_of_ble_eq_true rfl, fun Z hz hw => ?_⟩
  obtain ⟨w, hst, ⟨hpl, hcn⟩, -⟩ := id hR
  have wn := w.1.2
  have h1 : M.1 10 j 0 1 = nI (s_n S) := hst.2.1.trans w.1.1
  have loop : ∀ (d k : Nat), k + d = s_n S → Z 0 4 [(3, .inl (nI k)), (2, .inl (s_oi (s_fo S last k))), (0, .inr (.inl (10, j, 0))), (1, .inl (q_bi (last = true)))] [] M := by
    intro d
    induction d with
    | zero =>
      intro k hk
      apply hz [4] 60
      refine And.intro (fun _ => ?_) (fun g => absurd (show M.1 10 j 0 1 ≤ nI k by rw [h1]; exact nI_le (by omega) (by omega)) g)
      obtain rfl : k = s_n S := by omega
      exact hK
    | succ d ih =>
      intro k hk
      have h := ih (k + 1) (by omega)
      unfold s_fo at h
      have up : Z 0 4 [(3, .inl (nI (k + 1))), (2, .inl (nI k)), (0, .inr (.inl (10, j, 0))), (1, .inl (q_bi (last = true)))] [] M → Z 0 41 [(2, .inl (nI k)), (3, .inl (nI k)), (0, .inr (.inl (10, j, 0))), (1, .inl (q_bi (last = true)))] [] M := by
        intro g
        apply hz [4] 60
        rw [← nI_add k 1] at g
        exact g
      apply hz [4, 41] 60
      refine And.intro (fun (g : M.1 10 j 0 1 ≤ nI k) => ?_) (fun _ => ?_)
      · rw [h1, nI_leI (by omega) (by omega)] at g
        omega
      · refine Exists.intro k ⟨rfl, by omega, ?_⟩
        have e : M.1 19 j (M.2.1 11 j 0 k) 3 = S (3 + 12 * k) := (hcn k (by omega)).1.2.2.2
        have hl := s_neg (w.2.2.2.2.2.1 k (by omega))
        refine Exists.intro _ ⟨cX1_rests_ct hl0, j, M.2.1 11 j 0 k, rfl, ?_⟩
        rw [e]
        have down : ¬ (S (3 + 12 * k) < 0 ∧ (s_fo S last k = none ∨ s_lt S (s_fo S last k) k = last)) → Z 0 41 [(3, .inl (nI k)), (2, .inl (s_oi (s_fo S last k))), (0, .inr (.inl (10, j, 0))), (1, .inl (q_bi (last = true)))] [] M := by
          intro c
          rw [if_neg c] at h
          apply hz [4] 60
          rw [← nI_add k 1] at h
          exact h
        refine And.intro (fun c => ?_) (fun c => ?_)
        · have c := q_bi_0.mp c
          exact down (fun g => c (hl.mp g.1))
        · have c : S (3 + 12 * k) = -1 := Classical.not_not.mp (fun g => c (q_bi_0.mpr g))
          cases hf : s_fo S last k with
          | none =>
            rw [if_pos ⟨hl.mpr c, Or.inl hf⟩] at h
            refine And.intro (fun _ => up h) (fun g => absurd rfl g)
          | some y =>
            have hy := s_fo_lt hf
            refine And.intro (fun g => absurd (Eq.symm g) (q_m1n (by omega))) (fun _ => ?_)
            refine Exists.intro _ ⟨cX7_becameIdleBehind_ct hl0, j, S, k, y, hR, by omega, by omega, rfl, ?_⟩
            have hlt : s_lt S (some y) k = decide (S (6 + 12 * y) < S (6 + 12 * k)) := rfl
            refine And.intro (fun g => ?_) (fun g => ?_)
            · have g := q_bi_eq.mp g
              rw [hf] at h
              rw [if_pos ⟨hl.mpr c, Or.inr (by rw [hlt]; rw [Bool.eq_iff_iff, decide_eq_true_iff]; exact g.symm)⟩] at h
              exact up h
            · rw [hf] at down
              refine down (fun g2 => ?_)
              rcases g2.2 with g3 | g3
              · cases g3
              · rw [hlt] at g3
                rw [Bool.eq_iff_iff, decide_eq_true_iff] at g3
                exact g (q_bi_eq.mpr g3.symm)
  apply hz [4] 60
  exact loop (s_n S) 0 (by omega)
abbrev pX7_placeOfNext : Q_P := fun av M K KX => ∃ (j : Nat) (S : Nat → Int32), RC j M S ∧ av = [.inr (.inl (10, j, 0))] ∧ K (some (.inl (s_oi (s_nx S)))) M
theorem cX7_placeOfNext_ct {l : Launch} {b : Bool} (hl0 : l.stackTraces = false) : q_Ct l b 43 pX7_placeOfNext := by
  refine q_meth (by decide +kernel) hl0 TX7_placeOfNext kX7_placeOfNext ?_
  intro av M K KX hwf
  rintro ⟨j, S, hR, rfl, hK⟩
  refine ⟨Nat.le_of_ble_eq_true rfl, fun Z hz hw => ?_⟩
  have e : M.1 16 j 0 6 = q_bi (decide (S 213 = nI 1) = true) := by
    rw [q_bi_dec, q_bit_bi hR.1.2.2.2.2.1]
    exact hR.2.2.2.2.1 6 (by omega)
  apply hz [] 60
  refine Exists.intro _ ⟨cX7_placeOfIdle_ct hl0, j, S, decide (S 213 = nI 1), hR, ?_, hK⟩
  exact congrArg (fun x => ([.inr (.inl (10, j, 0)), .inl x] : List Q_V)) e
abbrev pX7_turnInIdle : Q_P := fun av M K KX => ∃ (j : Nat) (S : Nat → Int32) (p : Nat), RC j M S ∧ p < s_n S ∧ av = [.inr (.inl (10, j, 0)), .inl (nI p)] ∧ K (some (.inl (nI (s_tn S p (s_n S))))) M
theorem cX7_turnInIdle_ct {l : Launch} {b : Bool} (hl0 : l.stackTraces = false) : q_Ct l b 44 pX7_turnInIdle := by
  refine q_meth (by decide +kernel) hl0 TX7_turnInIdle kX7_turnInIdle ?_
  intro av M K KX hwf
  rintro ⟨j, S, p, hR, hp, rfl, hK⟩
  refine ⟨Nat.le_of_ble_eq_true rfl, fun Z hz hw => ?_⟩
  obtain ⟨w, hst, ⟨hpl, hcn⟩, -⟩ := id hR
  have wn := w.1.2
  have h1 : M.1 10 j 0 1 = nI (s_n S) := hst.2.1.trans w.1.1
  have eL : M.1 16 j 0 6 = q_bi (S 213 = nI 1) := by
    rw [q_bit_bi hR.1.2.2.2.2.1]
    exact hR.2.2.2.2.1 6 (by omega)
  have loop : ∀ (d k : Nat), k + d = s_n S → Z 0 4 [(3, .inl (nI k)), (2, .inl (nI (s_tn S p k))), (0, .inr (.inl (10, j, 0))), (1, .inl (nI p))] [] M := by
    intro d
    induction d with
    | zero =>
      intro k hk
      apply hz [4] 60
      refine And.intro (fun _ => ?_) (fun g => absurd (show M.1 10 j 0 1 ≤ nI k by rw [h1]; exact nI_le (by omega) (by omega)) g)
      obtain rfl : k = s_n S := by omega
      exact hK
    | succ d ih =>
      intro k hk
      have h := ih (k + 1) (by omega)
      unfold s_tn at h
      have down : ¬ (S (3 + 12 * k) < 0 ∧ k ≠ p ∧ (S 213 = nI 1 ↔ S (6 + 12 * p) < S (6 + 12 * k))) → Z 0 48 [(3, .inl (nI k)), (2, .inl (nI (s_tn S p k))), (0, .inr (.inl (10, j, 0))), (1, .inl (nI p))] [] M := by
        intro c
        rw [if_neg c, Nat.add_zero] at h
        apply hz [4] 60
        rw [← nI_add k 1] at h
        exact h
      apply hz [4, 48] 60
      refine And.intro (fun (g : M.1 10 j 0 1 ≤ nI k) => ?_) (fun _ => ?_)
      · rw [h1, nI_leI (by omega) (by omega)] at g
        omega
      · refine And.intro (fun (c : nI k = nI p) => down (fun g => g.2.1 ((nI_eq (by omega) (by omega)).mp c))) (fun (c : ¬ nI k = nI p) => ?_)
        have c : k ≠ p := fun g => c (congrArg nI g)
        refine Exists.intro k ⟨rfl, by omega, ?_⟩
        have e : M.1 19 j (M.2.1 11 j 0 k) 3 = S (3 + 12 * k) := (hcn k (by omega)).1.2.2.2
        have hl := s_neg (w.2.2.2.2.2.1 k (by omega))
        refine Exists.intro _ ⟨cX1_rests_ct hl0, j, M.2.1 11 j 0 k, rfl, ?_⟩
        rw [e]
        refine And.intro (fun c2 => ?_) (fun c2 => ?_)
        · have c2 := q_bi_0.mp c2
          exact down (fun g => c2 (hl.mp g.1))
        · have c2 : S (3 + 12 * k) = -1 := Classical.not_not.mp (fun g => c2 (q_bi_0.mpr g))
          refine Exists.intro _ ⟨cX7_becameIdleBehind_ct hl0, j, S, k, p, hR, by omega, by omega, rfl, ?_⟩
          refine And.intro (fun (g : M.1 16 j 0 6 = _) => ?_) (fun (g : ¬ M.1 16 j 0 6 = _) => ?_)
          · rw [eL] at g
            have g := q_bi_eq.mp g
            rw [if_pos ⟨hl.mpr c2, c, g⟩] at h
            rw [← nI_add k 1, ← nI_add (s_tn S p k) 1] at h
            apply hz [4] 60
            exact h
          · rw [eL] at g
            exact down (fun g2 => g (q_bi_eq.mpr g2.2.2))
  apply hz [4] 60
  exact loop (s_n S) 0 (by omega)
abbrev pX7_leaseRest : Q_P := fun av M K KX => ∃ (j : Nat) (S : Nat → Int32) (p : Nat), RC j M S ∧ p < s_n S ∧ av = [.inr (.inl (10, j, 0)), .inl (nI p)] ∧ K (some (.inl (s_ll S p))) M
theorem cX7_leaseRest_ct {l : Launch} {b : Bool} (hl0 : l.stackTraces = false) : q_Ct l b 45 pX7_leaseRest := by
  refine q_meth (by decide +kernel) hl0 TX7_leaseRest kX7_leaseRest ?_
  intro av M K KX hwf
  rintro ⟨j, S, p, hR, hp, rfl, hK⟩
  refine ⟨Nat.le_of_ble_eq_true rfl, fun Z hz hw => ?_⟩
  obtain ⟨w, hst, ⟨hpl, hcn⟩, -, hse, -⟩ := id hR
  have wn := w.1.2
  apply hz [] 60
  refine Exists.intro p ⟨rfl, by omega, ?_⟩
  refine q_K hK ?_ rfl
  have e : M.1 19 j (M.2.1 11 j 0 p) 4 = S (5 + 12 * p) := (hcn p hp).2.1.1
  have e2 : M.1 16 j 0 4 = S 211 := hse 4 (by omega)
  have e3 : M.1 10 j 0 0 = S 206 := hst.1
  show some (Sum.inl (if nI 1 < M.1 16 j 0 4 - (M.1 10 j 0 0 - M.1 19 j (M.2.1 11 j 0 p) 4) then M.1 16 j 0 4 - (M.1 10 j 0 0 - M.1 19 j (M.2.1 11 j 0 p) 4) else nI 1)) = _
  rw [e, e2, e3]
  refine congrArg (fun x => some (Sum.inl x)) ?_
  unfold s_ll
  generalize S 211 - (S 206 - S (5 + 12 * p)) = y
  by_cases c : y < nI 1
  · rw [if_neg (fun g => absurd (Int32.lt_trans c g) (Int32.lt_irrefl)), if_pos c]
  · rw [if_neg c]
    by_cases c2 : nI 1 < y
    · rw [if_pos c2]
    · rw [if_neg c2]
      exact Int32.le_antisymm (Int32.not_lt.mp c) (Int32.not_lt.mp c2)
abbrev pX7_waitAt : Q_P := fun av M K KX => ∃ (j : Nat) (S : Nat → Int32) (k : Nat), RC0 j M S ∧ s_q S ≤ 20 ∧ k < s_q S ∧ av = [.inr (.inl (10, j, 0)), .inl (nI k)] ∧ K (some (.inl (S 206 - S (148 + 3 * k)))) M
theorem cX7_waitAt_ct {l : Launch} {b : Bool} (hl0 : l.stackTraces = false) : q_Ct l b 46 pX7_waitAt := by
  refine q_meth (by decide +kernel) hl0 TX7_waitAt kX7_waitAt ?_
  intro av M K KX hwf
  rintro ⟨j, S, k, hR, wq, hp, rfl, hK⟩
  refine ⟨Nat.le_of_ble_eq_true rfl, fun Z hz hw => ?_⟩
  obtain ⟨hst, -, ⟨-, hq⟩, -⟩ := id hR
  apply hz [] 60
  refine Exists.intro k ⟨rfl, by omega, ?_⟩
  refine q_K hK ?_ rfl
  have e : M.1 15 j 0 k = S (148 + 3 * k) := (hq k hp).2.2
  show some (Sum.inl (M.1 10 j 0 0 - M.1 15 j 0 k)) = _
  rw [e, hst.1]
abbrev pX7_hasRoom : Q_P := fun av M K KX => ∃ (j : Nat) (S : Nat → Int32), RC j M S ∧ av = [.inr (.inl (10, j, 0))] ∧ K (some (.inl (q_bi (S 0 < S 207)))) M
theorem cX7_hasRoom_ct {l : Launch} {b : Bool} (hl0 : l.stackTraces = false) : q_Ct l b 50 pX7_hasRoom := by
  refine q_meth (by decide +kernel) hl0 TX7_hasRoom kX7_hasRoom ?_
  intro av M K KX hwf
  rintro ⟨j, S, hR, rfl, hK⟩
  refine ⟨Nat.le_of_ble_eq_true rfl, fun Z hz hw => ?_⟩
  obtain ⟨w, hst, -, -, hse, -⟩ := id hR
  have e1 : M.1 10 j 0 1 = S 0 := hst.2.1
  have e2 : M.1 16 j 0 0 = S 207 := hse 0 (by omega)
  have wn := w.1
  have wm := w.2.2.1
  apply hz [] 60
  refine And.intro (fun (g : M.1 16 j 0 0 ≤ M.1 10 j 0 1) => ?_) (fun (g : ¬ M.1 16 j 0 0 ≤ M.1 10 j 0 1) => ?_)
  · rw [e1, e2] at g
    rw [q_bi_f (Int32.not_lt.mpr g)] at hK
    exact And.intro (Or.inl rfl) hK
  · rw [e1, e2] at g
    refine And.intro (fun (g2 : nI 12 ≤ M.1 10 j 0 1) => ?_) (fun _ => ?_)
    · rw [e1, wn.1, nI_leI (by omega) (by omega)] at g2
      rw [wn.1, wm.1, nI_leI (by omega) (by omega)] at g
      omega
    · rw [q_bi_t (Int32.not_le.mp g)] at hK
      exact And.intro (Or.inr rfl) hK
