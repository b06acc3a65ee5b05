-- THE REFERENCE'S CONNECTIONS: COUNTING, SEARCHING, CLOSING, OPENING
def s_lt (S : Nat → Int32) (f : Option Nat) (k : Nat) : Bool := match f with
  | none => false
  | some q => decide (S (6 + 12 * q) < S (6 + 12 * k))
/-- the idle one of the first k that became so first, or last -/
def s_fo (S : Nat → Int32) (last : Bool) : Nat → Option Nat
  | 0 => none
  | k + 1 => if S (3 + 12 * k) < 0 ∧ (s_fo S last k = none ∨ s_lt S (s_fo S last k) k = last) then some k else s_fo S last k
theorem s_fo_lt {S : Nat → Int32} {last : Bool} : ∀ {k p : Nat}, s_fo S last k = some p → p < k
  | 0, p, h => by cases h
  | k + 1, p, h => by
    unfold s_fo at h
    split at h
    · cases h; omega
    · have := s_fo_lt h; omega
def s_nx (S : Nat → Int32) : Option Nat := s_fo S (decide (S 213 = nI 1)) (s_n S)
def s_cl (S : Nat → Int32) (p c : Nat) : Nat → Int32 := fun i => if i = 0 then S 0 - nI 1 else if 1 + 12 * p ≤ i ∧ i < 1 + 12 * (s_n S - 1) then S (i + 12) else if i = 215 + c then S i + nI 1 else S i
def s_op (S : Nat → Int32) : Nat → Int32 :=
  let n := s_n S
  let S1 := upd S 0 (S 0 + nI 1)
  let S2 := upd S1 214 (S1 214 + nI 1)
  let S3 : Nat → Int32 := fun i => if 1 + 12 * n ≤ i ∧ i < 1 + 12 * n + 12 then nI 0 else S2 i
  let S4 := upd S3 (1 + 12 * n) (S3 214)
  let S5 := upd S4 (2 + 12 * n) (S4 206)
  s_fr S5 n
theorem s_n_of {S : Nat → Int32} {n : Nat} (h : S 0 = nI n) (hn : n ≤ 12) : s_n S = n := by
  unfold s_n
  rw [h, nI_clamp (by omega)]
theorem q_ge_n {n k : Nat} (hn : n < 2 ^ 30) (hk : k < 2 ^ 30) : nI n ≤ nI k ↔ n ≤ k := nI_leI (by omega) (by omega)
theorem s_oi_0 (f : Option Nat) (h : ∀ p, f = some p → p < 2 ^ 31) : s_oi f < 0 ↔ f = none := by
  cases f with
  | none => exact ⟨fun _ => rfl, fun _ => by decide⟩
  | some p => exact ⟨fun g => absurd g (nI_pos (h p rfl)), fun g => by cases g⟩
abbrev pX9_countFree : Q_P := fun av M K KX => ∃ n : Nat, n ≤ 12 ∧ M.1 22 0 0 0 = nI n ∧ av = [.inr (.inl (21, 0, 0))] ∧ K (some (.inl (nI (s_cf (M.1 22 0 0) n)))) M
theorem cX9_countFree_ct {l : Launch} {b : Bool} (hl0 : l.stackTraces = false) : q_Ct l b 156 pX9_countFree := by
  refine q_meth (by decide +kernel) hl0 TX9_countFree kX9_countFree ?_
  intro av M K KX hwf
  rintro ⟨n, hn, h0, rfl, hK⟩
  refine ⟨Nat.le_of_ble_eq_true rfl, fun Z hz hw => ?_⟩
  have loop : ∀ d k : Nat, k + d = n → Z 0 4 [(2, .inl (nI k)), (1, .inl (nI (s_cf (M.1 22 0 0) k))), (0, .inr (.inl (21, 0, 0)))] [] M := by
    intro d
    induction d with
    | zero =>
      intro k hk
      apply hz [4] 40
      refine Exists.intro 0 ⟨rfl, by decide, ?_⟩
      refine And.intro (fun (c : M.1 22 0 0 0 ≤ nI k) => ?_) (fun (c : ¬ M.1 22 0 0 0 ≤ nI k) => ?_)
      · rw [← show k = n by omega] at hK
        exact hK
      · exact absurd (by rw [h0]; exact nI_le (by omega) (by omega)) c
    | succ d ih =>
      intro k hk
      apply hz [4] 40
      refine Exists.intro 0 ⟨rfl, by decide, ?_⟩
      refine And.intro (fun (c : M.1 22 0 0 0 ≤ nI k) => ?_) (fun (c : ¬ M.1 22 0 0 0 ≤ nI k) => ?_)
      · rw [h0, q_ge_n (by omega) (by omega)] at c
        omega
      · refine Exists.intro _ ⟨cX9_isFree_ct hl0, k, by omega, rfl, ?_⟩
        have h := ih (k + 1) (by omega)
        rw [← nI_add k 1] at h
        unfold s_cf at h
        refine And.intro (fun (c2 : q_bi (M.1 22 0 0 (3 + 12 * k) < 0) = 0) => ?_) (fun (c2 : ¬ q_bi (M.1 22 0 0 (3 + 12 * k) < 0) = 0) => ?_)
        · rw [q_bi_0] at c2
          rw [if_neg c2, ← nI_add] at h
          exact h
        · rw [q_bi_0, Classical.not_not] at c2
          rw [if_pos c2, ← nI_add] at h
          exact h
  apply hz [4] 40
  exact loop n 0 (by omega)
abbrev pX9_linkOf : Q_P := fun av M K KX => ∃ (n : Nat) (x : Int32), n ≤ 12 ∧ M.1 22 0 0 0 = nI n ∧ av = [.inr (.inl (21, 0, 0)), .inl x] ∧ K (some (.inl (s_oi (s_lk (M.1 22 0 0) x n)))) M
theorem cX9_linkOf_ct {l : Launch} {b : Bool} (hl0 : l.stackTraces = false) : q_Ct l b 157 pX9_linkOf := by
  refine q_meth (by decide +kernel) hl0 TX9_linkOf kX9_linkOf ?_
  intro av M K KX hwf
  rintro ⟨n, x, hn, h0, rfl, hK⟩
  refine ⟨Nat.le_of_ble_eq_true rfl, fun Z hz hw => ?_⟩
  have loop : ∀ d k : Nat, k + d = n → Z 0 4 [(3, .inl (nI k)), (2, .inl (s_oi (s_lk (M.1 22 0 0) x k))), (0, .inr (.inl (21, 0, 0))), (1, .inl x)] [] M := by
    intro d
    induction d with
    | zero =>
      intro k hk
      apply hz [4] 40
      refine Exists.intro 0 ⟨rfl, by decide, ?_⟩
      refine And.intro (fun (c : M.1 22 0 0 0 ≤ nI k) => ?_) (fun (c : ¬ M.1 22 0 0 0 ≤ nI k) => ?_)
      · rw [← show k = n by omega] at hK
        exact hK
      · exact absurd (by rw [h0]; exact nI_le (by omega) (by omega)) c
    | succ d ih =>
      intro k hk
      apply hz [4] 40
      refine Exists.intro 0 ⟨rfl, by decide, ?_⟩
      refine And.intro (fun (c : M.1 22 0 0 0 ≤ nI k) => ?_) (fun (c : ¬ M.1 22 0 0 0 ≤ nI k) => ?_)
      · rw [h0, q_ge_n (by omega) (by omega)] at c
        omega
      · refine Exists.intro _ ⟨cX9_link_ct hl0, k, rfl, ?_⟩
        refine Exists.intro (3 + 12 * k) ⟨(nI_add _ 2).trans (congrArg nI (by omega)), by omega, ?_⟩
        have h := ih (k + 1) (by omega)
        rw [← nI_add k 1] at h
        unfold s_lk at h
        refine And.intro (fun (c2 : M.1 22 0 0 (3 + 12 * k) = x) => ?_) (fun (c2 : ¬ M.1 22 0 0 (3 + 12 * k) = x) => ?_)
        · rw [if_pos c2] at h
          exact h
        · rw [if_neg c2] at h
          exact h
  apply hz [4] 40
  exact loop n 0 (by omega)
abbrev pX9_freeOne : Q_P := fun av M K KX => ∃ (n : Nat) (last : Bool), n ≤ 12 ∧ M.1 22 0 0 0 = nI n ∧ av = [.inr (.inl (21, 0, 0)), .inl (q_bi (last = true))] ∧ K (some (.inl (s_oi (s_fo (M.1 22 0 0) last n)))) M
theorem cX9_freeOne_ct {l : Launch} {b : Bool} (hl0 : l.stackTraces = false) : q_Ct l b 158 pX9_freeOne := by
  refine q_meth (by decide +kernel) hl0 TX9_freeOne kX9_freeOne ?_
  intro av M K KX hwf
  rintro ⟨n, last, hn, h0, rfl, hK⟩
  refine ⟨Nat.le_of_ble_eq_true rfl, fun Z hz hw => ?_⟩
  have fin : ∀ (k : Nat) (y : Int32), k < n → Z 0 4 [(3, .inl (nI (k + 1))), (2, .inl (s_oi (s_fo (M.1 22 0 0) last (k + 1)))), (4, .inl y), (0, .inr (.inl (21, 0, 0))), (1, .inl (q_bi (last = true)))] [] M → y = q_bi (s_lt (M.1 22 0 0) (s_fo (M.1 22 0 0) last k) k = true) → Z 0 50 [(4, .inl y), (3, .inl (nI k)), (2, .inl (s_oi (s_fo (M.1 22 0 0) last k))), (0, .inr (.inl (21, 0, 0))), (1, .inl (q_bi (last = true)))] [] M := by
    intro k y hk h hy
    have hlt : ∀ p, s_fo (M.1 22 0 0) last k = some p → p < 2 ^ 31 := fun p g => by have := s_fo_lt g; omega
    rw [← nI_add k 1] at h
    unfold s_fo at h
    apply hz [4] 60
    refine Exists.intro _ ⟨cX9_isFree_ct hl0, k, by omega, rfl, ?_⟩
    refine And.intro (fun (c : q_bi (M.1 22 0 0 (3 + 12 * k) < 0) = 0) => ?_) (fun (c : ¬ q_bi (M.1 22 0 0 (3 + 12 * k) < 0) = 0) => ?_)
    · rw [q_bi_0] at c
      rw [if_neg (fun g => c g.1)] at h
      exact h
    · rw [q_bi_0, Classical.not_not] at c
      refine And.intro (fun (c2 : s_oi (s_fo (M.1 22 0 0) last k) < 0) => ?_) (fun (c2 : ¬ s_oi (s_fo (M.1 22 0 0) last k) < 0) => ?_)
      · rw [s_oi_0 _ hlt] at c2
        rw [if_pos ⟨c, Or.inl c2⟩] at h
        exact h
      · rw [s_oi_0 _ hlt] at c2
        refine And.intro (fun (c3 : y = q_bi (last = true)) => ?_) (fun (c3 : ¬ y = q_bi (last = true)) => ?_)
        · have e : s_lt (M.1 22 0 0) (s_fo (M.1 22 0 0) last k) k = last := by
            rw [hy] at c3
            cases hb : s_lt (M.1 22 0 0) (s_fo (M.1 22 0 0) last k) k <;> cases last <;> rw [hb] at c3 <;> first | rfl | exact absurd c3 (by decide)
          rw [if_pos ⟨c, Or.inr e⟩] at h
          exact h
        · have e : ¬ s_lt (M.1 22 0 0) (s_fo (M.1 22 0 0) last k) k = last := by
            intro g
            exact c3 (by rw [hy, g])
          rw [if_neg (fun g => g.2.elim c2 e)] at h
          exact h
  have loop : ∀ d k : Nat, k + d = n → ∀ ls : List (Nat × Q_V), (ls = [(0, .inr (.inl (21, 0, 0))), (1, .inl (q_bi (last = true)))] ∨ ∃ y, ls = [(4, .inl y), (0, .inr (.inl (21, 0, 0))), (1, .inl (q_bi (last = true)))]) → Z 0 4 ((3, .inl (nI k)) :: (2, .inl (s_oi (s_fo (M.1 22 0 0) last k))) :: ls) [] M := by
    intro d
    induction d with
    | zero =>
      intro k hk ls hls
      have h0 := h0
      rcases hls with rfl | ⟨y, rfl⟩ <;> apply hz [4] 40 <;> refine Exists.intro 0 ⟨rfl, by decide, ?_⟩ <;> refine And.intro (fun (c : M.1 22 0 0 0 ≤ nI k) => ?_) (fun (c : ¬ M.1 22 0 0 0 ≤ nI k) => ?_)
      · rw [← show k = n by omega] at hK
        exact hK
      · exact absurd (by rw [h0]; exact nI_le (by omega) (by omega)) c
      · rw [← show k = n by omega] at hK
        exact hK
      · exact absurd (by rw [h0]; exact nI_le (by omega) (by omega)) c
    | succ d ih =>
      intro k hk ls hls
      have hlt : ∀ p, s_fo (M.1 22 0 0) last k = some p → p < k := fun p g => s_fo_lt g
      have nxt := fun y => fin k y (by omega) (ih (k + 1) (by omega) _ (Or.inr ⟨y, rfl⟩))
      have go : ∀ ls : List (Nat × Q_V), (∀ y, Z 0 48 ((3, .inl (nI k)) :: (2, .inl (s_oi (s_fo (M.1 22 0 0) last k))) :: ls) [.inl y] M → Z 0 48 ((3, .inl (nI k)) :: (2, .inl (s_oi (s_fo (M.1 22 0 0) last k))) :: ls) [.inl y] M) → True := fun _ _ => trivial
      rcases hls with rfl | ⟨y0, rfl⟩
      · apply hz [4, 50] 40
        refine Exists.intro 0 ⟨rfl, by decide, ?_⟩
        refine And.intro (fun (c : M.1 22 0 0 0 ≤ nI k) => ?_) (fun (c : ¬ M.1 22 0 0 0 ≤ nI k) => ?_)
        · rw [h0, q_ge_n (by omega) (by omega)] at c
          omega
        · cases hf : s_fo (M.1 22 0 0) last k with
          | none =>
            rw [hf] at nxt
            refine And.intro (fun _ => ?_) (fun c2 => absurd (show s_oi none < 0 by decide) c2)
            exact nxt (nI 0) (q_bi_f (fun g => by cases g)).symm
          | some q =>
            have hq := hlt q hf
            rw [hf] at nxt
            refine And.intro (fun c2 => absurd c2 (nI_pos (by omega))) (fun _ => ?_)
            refine Exists.intro _ ⟨cX9_link_ct hl0, k, rfl, ?_⟩
            refine Exists.intro (6 + 12 * k) ⟨(nI_add _ 5).trans (congrArg nI (by omega)), by omega, ?_⟩
            refine Exists.intro _ ⟨cX9_link_ct hl0, q, rfl, ?_⟩
            refine Exists.intro (6 + 12 * q) ⟨(nI_add _ 5).trans (congrArg nI (by omega)), by omega, ?_⟩
            refine And.intro (fun (c3 : M.1 22 0 0 (6 + 12 * k) ≤ M.1 22 0 0 (6 + 12 * q)) => ?_) (fun (c3 : ¬ M.1 22 0 0 (6 + 12 * k) ≤ M.1 22 0 0 (6 + 12 * q)) => ?_)
            · exact nxt (nI 0) (q_bi_f (fun g => absurd (of_decide_eq_true g) (Int32.not_lt.mpr c3))).symm
            · exact nxt (nI 1) (q_bi_t (decide_eq_true (Int32.not_le.mp c3))).symm
      · apply hz [4, 50] 40
        refine Exists.intro 0 ⟨rfl, by decide, ?_⟩
        refine And.intro (fun (c : M.1 22 0 0 0 ≤ nI k) => ?_) (fun (c : ¬ M.1 22 0 0 0 ≤ nI k) => ?_)
        · rw [h0, q_ge_n (by omega) (by omega)] at c
          omega
        · cases hf : s_fo (M.1 22 0 0) last k with
          | none =>
            rw [hf] at nxt
            refine And.intro (fun _ => ?_) (fun c2 => absurd (show s_oi none < 0 by decide) c2)
            exact nxt (nI 0) (q_bi_f (fun g => by cases g)).symm
          | some q =>
            have hq := hlt q hf
            rw [hf] at nxt
            refine And.intro (fun c2 => absurd c2 (nI_pos (by omega))) (fun _ => ?_)
            refine Exists.intro _ ⟨cX9_link_ct hl0, k, rfl, ?_⟩
            refine Exists.intro (6 + 12 * k) ⟨(nI_add _ 5).trans (congrArg nI (by omega)), by omega, ?_⟩
            refine Exists.intro _ ⟨cX9_link_ct hl0, q, rfl, ?_⟩
            refine Exists.intro (6 + 12 * q) ⟨(nI_add _ 5).trans (congrArg nI (by omega)), by omega, ?_⟩
            refine And.intro (fun (c3 : M.1 22 0 0 (6 + 12 * k) ≤ M.1 22 0 0 (6 + 12 * q)) => ?_) (fun (c3 : ¬ M.1 22 0 0 (6 + 12 * k) ≤ M.1 22 0 0 (6 + 12 * q)) => ?_)
            · exact nxt (nI 0) (q_bi_f (fun g => absurd (of_decide_eq_true g) (Int32.not_lt.mpr c3))).symm
            · exact nxt (nI 1) (q_bi_t (decide_eq_true (Int32.not_le.mp c3))).symm
  apply hz [4] 40
  exact loop n 0 (by omega) _ (Or.inl rfl)
abbrev pX9_lentNext : Q_P := fun av M K KX => ∃ n : Nat, n ≤ 12 ∧ M.1 22 0 0 0 = nI n ∧ av = [.inr (.inl (21, 0, 0))] ∧ K (some (.inl (s_oi (s_nx (M.1 22 0 0))))) M
theorem cX9_lentNext_ct {l : Launch} {b : Bool} (hl0 : l.stackTraces = false) : q_Ct l b 159 pX9_lentNext := by
  refine q_meth (by decide +kernel) hl0 TX9_lentNext kX9_lentNext ?_
  intro av M K KX hwf
  rintro ⟨n, hn, h0, rfl, hK⟩
  refine ⟨Nat.le_of_ble_eq_true rfl, fun Z hz hw => ?_⟩
  unfold s_nx at hK
  rw [s_n_of h0 hn] at hK
  apply hz [] 40
  refine Exists.intro 213 ⟨rfl, by decide, ?_⟩
  refine And.intro (fun (c : M.1 22 0 0 213 = nI 1) => ?_) (fun (c : ¬ M.1 22 0 0 213 = nI 1) => ?_)
  · rw [decide_eq_true c] at hK
    exact Exists.intro _ ⟨cX9_freeOne_ct hl0, n, true, hn, h0, rfl, hK⟩
  · rw [decide_eq_false c] at hK
    exact Exists.intro _ ⟨cX9_freeOne_ct hl0, n, false, hn, h0, rfl, hK⟩
