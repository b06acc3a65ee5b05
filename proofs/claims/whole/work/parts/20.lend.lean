-- LENDING, AND THE QUEUE
def s_lb : Nat → (Nat → Int32) → Option Nat × (Nat → Int32)
  | 0, S => (s_nx S, S)
  | f + 1, S => match s_nx S with
    | none => (none, S)
    | some p => if S (4 + 12 * p) = nI 1 then s_lb f (s_cl S p 2) else (some p, S)
def s_fl (S : Nat → Int32) : Option Nat × (Nat → Int32) := match s_lb (s_n S) S with
  | (some p, S') => (some p, S')
  | (none, S') => if S' 0 < S' 207 then (some (s_n S'), s_op S') else (none, S')
def s_le (S : Nat → Int32) (x : Int32) : Bool × (Nat → Int32) := match s_fl S with
  | (some p, S') => (true, s_ld S' p x)
  | (none, S') => (false, S')
theorem s_nx_lt {S : Nat → Int32} {p : Nat} (h : s_nx S = some p) : p < s_n S := s_fo_lt h
theorem s_n_op {S : Nat → Int32} (h0 : S 0 = nI (s_n S)) (h : s_n S < 12) : s_n (s_op S) = s_n S + 1 := s_of (s_op_n h0) (by omega)
theorem s_n_cl {S : Nat → Int32} (w : s_wf S) {p c : Nat} (hp : p < s_n S) : s_n (s_cl S p c) = s_n S - 1 := s_of (s_cl_n w.1.1 w.1.2 hp) (by have := w.1.2; omega)
theorem s_wf_lb : ∀ (f : Nat) (S : Nat → Int32), s_wf S → s_wf (s_lb f S).2 ∧ (s_n S ≤ f → (∀ p, (s_lb f S).1 = some p → p < s_n (s_lb f S).2 ∧ ¬ (s_lb f S).2 (4 + 12 * p) = nI 1)) ∧ s_n (s_lb f S).2 ≤ s_n S
  | 0, S, w => ⟨w, fun h p hp => by
      have h1 := s_nx_lt hp
      omega, Nat.le_refl _⟩
  | f + 1, S, w => by
    unfold s_lb
    cases h : s_nx S with
    | none => exact ⟨w, fun _ p hp => (by cases hp), Nat.le_refl _⟩
    | some p =>
      have hp := s_nx_lt h
      dsimp only
      by_cases hb : S (4 + 12 * p) = nI 1
      · rw [if_pos hb]
        obtain ⟨h1, h2, h3⟩ := s_wf_lb f (s_cl S p 2) (s_wf_cl w hp (by decide))
        rw [s_n_cl w hp] at h2 h3
        exact ⟨h1, fun h => h2 (by omega), by omega⟩
      · rw [if_neg hb]
        exact ⟨w, fun _ p' hp' => by cases hp'; exact ⟨hp, hb⟩, Nat.le_refl _⟩
/-- the last of the first k that waits as squirrel x -/
def s_qd (S : Nat → Int32) (x : Int32) : Nat → Option Nat
  | 0 => none
  | k + 1 => if S (146 + 3 * k) = x then some k else s_qd S x k
def s_uq (S : Nat → Int32) (k : Nat) : Nat → Int32 := fun i => if i = 145 then S 145 - nI 1 else if 146 + 3 * k ≤ i ∧ i < 146 + 3 * (s_q S - 1) then S (i + 3) else S i
/-- where one of urgency u goes among the first k -/
def s_qp (S : Nat → Int32) (u : Int32) : Nat → Nat
  | 0 => 0
  | k + 1 => if S (147 + 3 * k) < u then s_qp S u k else k + 1
theorem s_qp_le {S : Nat → Int32} {u : Int32} : ∀ k, s_qp S u k ≤ k
  | 0 => Nat.le_refl _
  | k + 1 => by
    unfold s_qp
    have := s_qp_le (S := S) (u := u) k
    split <;> omega
def s_qs (S : Nat → Int32) (x u : Int32) : Nat → Int32 :=
  let p := s_qp S u (s_q S)
  let S1 : Nat → Int32 := fun i => if 149 + 3 * p ≤ i ∧ i < 149 + 3 * s_q S then S (i - 3) else S i
  let S2 := upd S1 145 (S1 145 + nI 1)
  let S3 := upd S2 (146 + 3 * p) x
  let S4 := upd S3 (147 + 3 * p) u
  upd S4 (148 + 3 * p) (S4 206)
abbrev pX9_lends : Q_P := fun av M K KX => ∃ x : Int32, s_wf (M.1 22 0 0) ∧ av = [.inr (.inl (21, 0, 0)), .inl x] ∧ K (some (.inl (q_bi ((s_le (M.1 22 0 0) x).1 = true)))) (q_sa M (22, 0, 0) (s_le (M.1 22 0 0) x).2)
theorem cX9_lends_ct {l : Launch} {b : Bool} (hl0 : l.stackTraces = false) : q_Ct l b 163 pX9_lends := by
  refine q_meth (by decide +kernel) hl0 TX9_lends kX9_lends ?_
  intro av M K KX hwf
  rintro ⟨x, w, rfl, hK⟩
  refine ⟨Nat.le_of_ble_eq_true rfl, fun Z hz hw => ?_⟩
  obtain ⟨S, hS⟩ : ∃ S, S = M.1 22 0 0 := ⟨_, rfl⟩
  rw [← hS] at w hK
  have last : ∀ (pl : Option Nat) (S' : Nat → Int32), s_wf S' → (∀ p, pl = some p → p < s_n S') → K (some (.inl (q_bi (pl.isSome = true)))) (q_sa M (22, 0, 0) (match pl with | some p => s_ld S' p x | none => S')) → Z 0 64 [(2, .inl (s_oi pl)), (0, .inr (.inl (21, 0, 0))), (1, .inl x)] [] (q_sa M (22, 0, 0) S') := by
    intro pl S' w' hp hK
    apply hz [] 100
    cases pl with
    | none =>
      refine And.intro (fun _ => ?_) (fun g => absurd (show s_oi none < 0 by decide) g)
      refine And.intro (fun _ => ?_) (fun g => absurd (show s_oi none < 0 by decide) g)
      exact And.intro (Or.inl rfl) hK
    | some p =>
      have hp := hp p rfl
      have hn := w'.1.2
      refine And.intro (fun g => absurd g (nI_pos (by omega))) (fun _ => ?_)
      refine Exists.intro _ ⟨cX9_link_ct hl0, p, rfl, ?_⟩
      refine Exists.intro (3 + 12 * p) ⟨(nI_add _ 2).trans (congrArg nI (by omega)), by omega, ?_⟩
      refine Exists.intro _ ⟨cX9_link_ct hl0, p, rfl, ?_⟩
      refine Exists.intro 206 ⟨rfl, by decide, ?_⟩
      refine Exists.intro (5 + 12 * p) ⟨(nI_add _ 4).trans (congrArg nI (by omega)), by omega, ?_⟩
      refine Exists.intro _ ⟨cX9_link_ct hl0, p, rfl, ?_⟩
      refine Exists.intro (7 + 12 * p) ⟨(nI_add _ 6).trans (congrArg nI (by omega)), by omega, ?_⟩
      refine Exists.intro (7 + 12 * p) ⟨(nI_add _ 6).trans (congrArg nI (by omega)), by omega, ?_⟩
      refine Exists.intro 220 ⟨rfl, by decide, ?_⟩
      refine Exists.intro 220 ⟨rfl, by decide, ?_⟩
      refine And.intro (fun g => absurd g (nI_pos (by omega))) (fun _ => ?_)
      refine And.intro (Or.inr rfl) (q_K hK rfl ?_)
      simp only [q_si22, q_r22, q_sa_sa]
      rfl
  have mid : ∀ (pl : Option Nat) (S' : Nat → Int32), s_wf S' → (∀ p, pl = some p → p < s_n S') → (match pl with | some p => K (some (.inl (q_bi (True)))) (q_sa M (22, 0, 0) (s_ld S' p x)) | none => if S' 0 < S' 207 then K (some (.inl (q_bi True))) (q_sa M (22, 0, 0) (s_ld (s_op S') (s_n S') x)) else K (some (.inl (q_bi False))) (q_sa M (22, 0, 0) S')) → Z 0 38 [(2, .inl (s_oi pl)), (0, .inr (.inl (21, 0, 0))), (1, .inl x)] [] (q_sa M (22, 0, 0) S') := by
    intro pl S' w' hp hK
    apply hz [64] 100
    cases pl with
    | some p =>
      have hp := hp p rfl
      have hn := w'.1.2
      refine And.intro (fun _ => ?_) (fun g => absurd (nI_pos' (by omega)) g)
      exact last (some p) S' w' (fun p' g => by cases g; exact hp) hK
    | none =>
      refine And.intro (fun g => absurd (show 0 ≤ s_oi none from g) (by decide)) (fun _ => ?_)
      refine Exists.intro 0 ⟨rfl, by decide, ?_⟩
      refine Exists.intro 207 ⟨rfl, by decide, ?_⟩
      have l0 := w'.1
      have l7 := w'.2.2.1
      refine And.intro (fun (c : S' 207 ≤ S' 0) => ?_) (fun (c : ¬ S' 207 ≤ S' 0) => ?_)
      · rw [if_neg (Int32.not_lt.mpr c)] at hK
        exact last none S' w' (fun p g => nomatch g) hK
      · have c' := Int32.not_le.mp c
        rw [if_pos c'] at hK
        have hlt : s_n S' < 12 := by
          rw [l0.1, l7.1, nI_ltI (by have := l0.2; omega) (by have := l7.2; omega)] at c'
          have := l7.2
          omega
        refine Exists.intro _ ⟨cX9_opens_ct hl0, s_n S', hlt, l0.1, rfl, ?_⟩
        have h := last (some (s_n S')) (s_op S') (s_wf_op w' hlt) (fun p g => by cases g; rw [s_n_op l0.1 hlt]; omega) hK
        rw [q_sa_sa]
        exact h
  have loop : ∀ (f : Nat) (S : Nat → Int32), s_wf S → s_n S ≤ f → (Z 0 38 [(2, .inl (s_oi (s_lb f S).1)), (0, .inr (.inl (21, 0, 0))), (1, .inl x)] [] (q_sa M (22, 0, 0) (s_lb f S).2)) → Z 0 5 [(2, .inl (s_oi (s_nx S))), (0, .inr (.inl (21, 0, 0))), (1, .inl x)] [] (q_sa M (22, 0, 0) S) := by
    intro f
    induction f with
    | zero =>
      intro S w hf h
      cases hx : s_nx S with
      | some p => have := s_nx_lt hx; omega
      | none =>
        unfold s_lb at h
        rw [hx] at h
        apply hz [5, 38] 100
        refine And.intro (fun _ => h) (fun g => absurd (show s_oi none < 0 by decide) g)
    | succ f ih =>
      intro S w hf h
      unfold s_lb at h
      cases hx : s_nx S with
      | none =>
        rw [hx] at h
        apply hz [5, 38] 100
        refine And.intro (fun _ => h) (fun g => absurd (show s_oi none < 0 by decide) g)
      | some p =>
        rw [hx] at h
        have hp := s_nx_lt hx
        have hn := w.1.2
        apply hz [5, 38] 100
        refine And.intro (fun g => absurd g (nI_pos (by omega))) (fun _ => ?_)
        refine Exists.intro _ ⟨cX9_link_ct hl0, p, rfl, ?_⟩
        refine Exists.intro (4 + 12 * p) ⟨(nI_add _ 3).trans (congrArg nI (by omega)), by omega, ?_⟩
        dsimp only at h
        refine And.intro (fun (c : S (4 + 12 * p) = nI 1) => ?_) (fun (c : ¬ S (4 + 12 * p) = nI 1) => ?_)
        · rw [if_pos c] at h
          refine Exists.intro _ ⟨cX9_closes_ct hl0, s_n S, p, 2, hn, hp, by decide, w.1.1, rfl, ?_⟩
          have w2 := s_wf_cl (c := 2) w hp (by decide)
          refine Exists.intro _ ⟨cX9_lentNext_ct hl0, _, w2.1.2, w2.1.1, rfl, ?_⟩
          have h2 := ih (s_cl S p 2) w2 (by rw [s_n_cl w hp]; omega) h
          rw [q_sa_sa]
          exact h2
        · rw [if_neg c] at h
          exact h
  apply hz [5] 100
  refine Exists.intro _ ⟨cX9_lentNext_ct hl0, s_n S, w.1.2, by rw [← hS]; exact w.1.1, rfl, ?_⟩
  rw [← hS]
  have lb := s_wf_lb (s_n S) S w
  have h := loop (s_n S) S w (Nat.le_refl _) (mid _ _ lb.1 (fun p g => (lb.2.1 (Nat.le_refl _) p g).1) ?_)
  · rw [hS, q_e22, ← hS] at h
    exact h
  · rcases hlb : s_lb (s_n S) S with ⟨_ | p, S'⟩
    · dsimp only
      by_cases c : S' 0 < S' 207
      · have e : s_fl S = (some (s_n S'), s_op S') := by
          unfold s_fl
          rw [hlb]
          exact if_pos c
        unfold s_le at hK
        rw [e] at hK
        rw [if_pos c]
        exact hK
      · have e : s_fl S = (none, S') := by
          unfold s_fl
          rw [hlb]
          exact if_neg c
        unfold s_le at hK
        rw [e] at hK
        rw [if_neg c]
        exact hK
    · have e : s_fl S = (some p, S') := by
        unfold s_fl
        rw [hlb]
      unfold s_le at hK
      rw [e] at hK
      exact hK
abbrev pX9_queued : Q_P := fun av M K KX => ∃ (n : Nat) (x : Int32), n ≤ 20 ∧ M.1 22 0 0 145 = nI n ∧ av = [.inr (.inl (21, 0, 0)), .inl x] ∧ K (some (.inl (s_oi (s_qd (M.1 22 0 0) x n)))) M
theorem cX9_queued_ct {l : Launch} {b : Bool} (hl0 : l.stackTraces = false) : q_Ct l b 165 pX9_queued := by
  refine q_meth (by decide +kernel) hl0 TX9_queued kX9_queued ?_
  intro av M K KX hwf
  rintro ⟨n, x, hn, h0, rfl, hK⟩
  refine ⟨Nat.le_of_ble_eq_true rfl, fun Z hz hw => ?_⟩
  have loop : ∀ d k : Nat, k + d = n → Z 0 4 [(3, .inl (nI k)), (2, .inl (s_oi (s_qd (M.1 22 0 0) x k))), (0, .inr (.inl (21, 0, 0))), (1, .inl x)] [] M := by
    intro d
    induction d with
    | zero =>
      intro k hk
      apply hz [4] 40
      refine Exists.intro 145 ⟨rfl, by decide, ?_⟩
      refine And.intro (fun (c : M.1 22 0 0 145 ≤ nI k) => ?_) (fun (c : ¬ M.1 22 0 0 145 ≤ nI k) => ?_)
      · rw [← show k = n by omega] at hK
        exact hK
      · exact absurd (by rw [h0]; exact nI_le (by omega) (by omega)) c
    | succ d ih =>
      intro k hk
      apply hz [4] 40
      refine Exists.intro 145 ⟨rfl, by decide, ?_⟩
      refine And.intro (fun (c : M.1 22 0 0 145 ≤ nI k) => ?_) (fun (c : ¬ M.1 22 0 0 145 ≤ nI k) => ?_)
      · rw [h0, q_ge_n (by omega) (by omega)] at c
        omega
      · refine Exists.intro _ ⟨cX9_waiter_ct hl0, k, rfl, ?_⟩
        refine Exists.intro (146 + 3 * k) ⟨rfl, by omega, ?_⟩
        have h := ih (k + 1) (by omega)
        rw [← nI_add k 1] at h
        unfold s_qd at h
        refine And.intro (fun (c2 : M.1 22 0 0 (146 + 3 * k) = x) => ?_) (fun (c2 : ¬ M.1 22 0 0 (146 + 3 * k) = x) => ?_)
        · rw [if_pos c2] at h
          exact h
        · rw [if_neg c2] at h
          exact h
  apply hz [4] 40
  exact loop n 0 (by omega)
abbrev pX9_waitsAt : Q_P := fun av M K KX => ∃ k : Nat, k < 20 ∧ av = [.inr (.inl (21, 0, 0)), .inl (nI k)] ∧ K (some (.inl (M.1 22 0 0 206 - M.1 22 0 0 (148 + 3 * k)))) M
theorem cX9_waitsAt_ct {l : Launch} {b : Bool} (hl0 : l.stackTraces = false) : q_Ct l b 166 pX9_waitsAt := by
  refine q_meth (by decide +kernel) hl0 TX9_waitsAt kX9_waitsAt ?_
  intro av M K KX hwf
  rintro ⟨k, hk, rfl, hK⟩
  refine ⟨Nat.le_of_ble_eq_true rfl, fun Z hz hw => ?_⟩
  apply hz [] 40
  refine Exists.intro 206 ⟨rfl, by decide, ?_⟩
  refine Exists.intro _ ⟨cX9_waiter_ct hl0, k, rfl, ?_⟩
  refine Exists.intro (148 + 3 * k) ⟨(nI_add _ 2).trans (congrArg nI (by omega)), by omega, ?_⟩
  exact hK
abbrev pX9_unqueues : Q_P := fun av M K KX => ∃ n k : Nat, n ≤ 20 ∧ k < n ∧ M.1 22 0 0 145 = nI n ∧ av = [.inr (.inl (21, 0, 0)), .inl (nI k)] ∧ K (some (.inl (M.1 22 0 0 206 - M.1 22 0 0 (148 + 3 * k)))) (q_sa M (22, 0, 0) (s_uq (M.1 22 0 0) k))
theorem cX9_unqueues_ct {l : Launch} {b : Bool} (hl0 : l.stackTraces = false) : q_Ct l b 168 pX9_unqueues := by
  refine q_meth (by decide +kernel) hl0 TX9_unqueues kX9_unqueues ?_
  intro av M K KX hwf
  rintro ⟨n, k, hn, hk, h0, rfl, hK⟩
  refine ⟨Nat.le_of_ble_eq_true rfl, fun Z hz hw => ?_⟩
  obtain ⟨S, hS⟩ : ∃ S, S = M.1 22 0 0 := ⟨_, rfl⟩
  rw [← hS] at h0 hK
  have hsn : s_q S = n := s_of h0 (by omega)
  have h0' : S 145 - nI 1 = nI (n - 1) := by rw [h0]; exact pk_sub (by omega)
  obtain ⟨S1, hS1⟩ : ∃ S1, S1 = upd S 145 (S 145 - nI 1) := ⟨_, rfl⟩
  have hend : 146 + 3 * k ≤ 146 + 3 * (n - 1) := by omega
  obtain ⟨y, hy⟩ : ∃ y, y = S 206 - S (148 + 3 * k) := ⟨_, rfl⟩
  rw [← hy] at hK
  have loop : ∀ d i : Nat, 146 + 3 * k ≤ i → i + d = 146 + 3 * (n - 1) → Z 0 23 [(3, .inl (nI i)), (2, .inl y), (0, .inr (.inl (21, 0, 0))), (1, .inl (nI k))] [] (q_sa M (22, 0, 0) (s_dn S1 3 (146 + 3 * k) i)) := by
    intro d
    induction d with
    | zero =>
      intro i hi1 hi
      have e0 : s_dn S1 3 (146 + 3 * k) i 145 = nI (n - 1) := by
        unfold s_dn
        rw [if_neg (by omega), hS1, q_upd_eq, h0']
      apply hz [23] 60
      refine Exists.intro 145 ⟨rfl, by decide, ?_⟩
      refine Exists.intro _ ⟨cX9_waiter_ct hl0, n - 1, congrArg (fun x => [Sum.inl x]) e0, ?_⟩
      refine And.intro (fun _ => ?_) (fun g => absurd (show nI (146 + 3 * (n - 1)) ≤ nI i from nI_le (by omega) (by omega)) g)
      refine q_K hK rfl ?_
      congr 1
      funext j
      unfold s_uq s_dn
      rw [hsn, hS1]
      unfold upd
      by_cases j0 : j = 145
      · subst j0
        rw [if_neg (by omega), if_pos rfl, if_pos rfl]
      · by_cases j1 : 146 + 3 * k ≤ j ∧ j < i
        · rw [if_pos j1, if_neg (by omega), if_neg j0, if_pos (by omega)]
        · rw [if_neg j1, if_neg j0, if_neg j0, if_neg (by omega)]
    | succ d ih =>
      intro i hi1 hi
      have e0 : s_dn S1 3 (146 + 3 * k) i 145 = nI (n - 1) := by
        unfold s_dn
        rw [if_neg (by omega), hS1, q_upd_eq, h0']
      apply hz [23] 60
      refine Exists.intro 145 ⟨rfl, by decide, ?_⟩
      refine Exists.intro _ ⟨cX9_waiter_ct hl0, n - 1, congrArg (fun x => [Sum.inl x]) e0, ?_⟩
      refine And.intro (fun g => absurd ((nI_leI (by omega) (by omega)).mp (show nI (146 + 3 * (n - 1)) ≤ nI i from g)) (by omega)) (fun _ => ?_)
      refine Exists.intro (i + 3) ⟨nI_add i 3, by omega, ?_⟩
      refine Exists.intro i ⟨rfl, by omega, ?_⟩
      have h := ih (i + 1) (by omega) (by omega)
      rw [← s_dn_1 hi1 (by decide), ← nI_add i 1] at h
      rw [q_si22, q_sa_sa]
      exact h
  apply hz [23] 60
  refine Exists.intro _ ⟨cX9_waitsAt_ct hl0, k, by omega, rfl, ?_⟩
  refine Exists.intro 145 ⟨rfl, by decide, ?_⟩
  refine Exists.intro 145 ⟨rfl, by decide, ?_⟩
  refine Exists.intro _ ⟨cX9_waiter_ct hl0, k, rfl, ?_⟩
  have h := loop _ (146 + 3 * k) (Nat.le_refl _) (Nat.add_sub_of_le hend)
  rw [s_dn_0, hS1, hy, hS] at h
  rw [q_si22]
  exact h
