-- USING: THE CLASS
def r_fi (g : Nat → Int32) (y : Int32) : Nat → Nat → Nat
  | 0, k => k
  | d + 1, k => if g k = y then k else r_fi g y d (k + 1)
theorem r_fi_le {g : Nat → Int32} {y : Int32} : ∀ d k, k ≤ r_fi g y d k ∧ r_fi g y d k ≤ k + d
  | 0, k => ⟨Nat.le_refl _, Nat.le_refl _⟩
  | d + 1, k => by
    unfold r_fi
    have := r_fi_le (g := g) (y := y) d (k + 1)
    split <;> omega
theorem r_fi_s {S : Nat → Int32} {p : Nat} {g : Nat → Int32} {y : Int32} : ∀ d k, (∀ m, k ≤ m → m < k + d → g m = S (9 + 12 * p + m)) → s_fi S p y d k = r_fi g y d k
  | 0, k, _ => rfl
  | d + 1, k, h => by
    unfold s_fi r_fi
    rw [h k (by omega) (by omega), r_fi_s d (k + 1) (fun m h1 h2 => h m (by omega) (by omega))]
theorem r_fi_no {g : Nat → Int32} {y : Int32} : ∀ d k, r_fi g y d k = k + d ↔ ∀ m, k ≤ m → m < k + d → g m ≠ y
  | 0, k => ⟨fun _ m h1 h2 => absurd h2 (by omega), fun _ => rfl⟩
  | d + 1, k => by
    unfold r_fi
    have ih := r_fi_no (g := g) (y := y) d (k + 1)
    by_cases c : g k = y
    · rw [if_pos c]
      exact ⟨fun h => absurd h (by omega), fun h => absurd c (h k (by omega) (by omega))⟩
    · rw [if_neg c]
      constructor
      · intro h m h1 h2
        by_cases e : m = k
        · rw [e]; exact c
        · exact ih.mp (by omega) m (by omega) (by omega)
      · intro h
        have := ih.mpr (fun m h1 h2 => h m (by omega) (by omega))
        omega
theorem s_nu_no {S : Nat → Int32} {p : Nat} {y : Int32} : ∀ n, s_nu S p y n = false ↔ ∀ m, m < n → S (9 + 12 * p + m) ≠ y
  | 0 => ⟨fun _ m h => absurd h (by omega), fun _ => rfl⟩
  | n + 1 => by
    unfold s_nu
    have ih := s_nu_no (S := S) (p := p) (y := y) n
    rw [Bool.or_eq_false_iff, ih, decide_eq_false_iff_not]
    constructor
    · intro h m hm
      by_cases e : m = n
      · rw [e]; exact h.2
      · exact h.1 m (by omega)
    · intro h
      exact ⟨fun m hm => h m (by omega), h n (by omega)⟩
theorem s_nu_fi {S : Nat → Int32} {p n : Nat} {y : Int32} {g : Nat → Int32} (h : ∀ m, m < n → g m = S (9 + 12 * p + m)) : s_nu S p y n = decide (r_fi g y n 0 < n) := by
  have h1 := s_nu_no (S := S) (p := p) (y := y) n
  have h2 := r_fi_no (g := g) (y := y) n 0
  have h3 := r_fi_le (g := g) (y := y) n 0
  cases hb : s_nu S p y n with
  | false =>
    have := h2.mpr (fun m _ hm => by rw [h m (by omega)]; exact h1.mp hb m (by omega))
    exact (decide_eq_false (by omega)).symm
  | true =>
    refine (decide_eq_true ?_).symm
    refine Classical.not_not.mp (fun c => ?_)
    have g1 := h2.mp (show r_fi g y n 0 = 0 + n by omega)
    have := h1.mpr (fun m hm => by rw [← h m hm]; exact g1 m (by omega) (by omega))
    rw [hb] at this
    cases this
abbrev pX1_agoOf : Q_P := fun av M K KX => ∃ (j c n : Nat) (y : Int32), n ≤ 4 ∧ M.1 19 j c 7 = nI n ∧ av = [.inr (.inl (19, j, c)), .inl y] ∧ K (some (.inl (if r_fi (M.1 20 j c) y n 0 < n then nI (r_fi (M.1 20 j c) y n 0) else -1))) M
theorem cX1_agoOf_ct {l : Launch} {b : Bool} (hl0 : l.stackTraces = false) : q_Ct l b 7 pX1_agoOf := by
  refine q_meth (by decide +kernel) hl0 TX1_agoOf kX1_agoOf ?_
  intro av M K KX hwf
  rintro ⟨j, c, n, y, hn, h7, rfl, hK⟩
  refine ⟨Nat.le_of_ble_eq_true rfl, fun Z hz hw => ?_⟩
  have loop : ∀ (d k : Nat), k + d = n → r_fi (M.1 20 j c) y d k = r_fi (M.1 20 j c) y n 0 → Z 0 2 [(2, .inl (nI k)), (0, .inr (.inl (19, j, c))), (1, .inl y)] [] M := by
    intro d
    induction d with
    | zero =>
      intro k hk hf
      obtain rfl : k = n := by omega
      have hf : k = r_fi (M.1 20 j c) y k 0 := hf
      rw [if_neg (by omega)] at hK
      apply hz [2] 60
      refine And.intro (fun _ => hK) (fun g => absurd (show M.1 19 j c 7 ≤ nI k by rw [h7]; exact nI_le (by omega) (by omega)) g)
    | succ d ih =>
      intro k hk hf
      have hf : (if M.1 20 j c k = y then k else r_fi (M.1 20 j c) y d (k + 1)) = r_fi (M.1 20 j c) y n 0 := hf
      apply hz [2] 60
      refine And.intro (fun (g : M.1 19 j c 7 ≤ nI k) => ?_) (fun _ => ?_)
      · rw [h7, nI_leI (by omega) (by omega)] at g
        omega
      · refine Exists.intro k ⟨rfl, by omega, ?_⟩
        refine And.intro (fun (g : M.1 20 j c k = y) => ?_) (fun (g : ¬ M.1 20 j c k = y) => ?_)
        · rw [if_pos g] at hf
          rw [← hf, if_pos (by omega)] at hK
          exact hK
        · rw [if_neg g] at hf
          have h := ih (k + 1) (by omega) hf
          rw [← nI_add k 1] at h
          exact h
  apply hz [2] 60
  exact loop n 0 (by omega) rfl
abbrev pX1_holds : Q_P := fun av M K KX => ∃ (j c n : Nat) (y : Int32), n ≤ 4 ∧ M.1 19 j c 7 = nI n ∧ av = [.inr (.inl (19, j, c)), .inl y] ∧ K (some (.inl (q_bi (r_fi (M.1 20 j c) y n 0 < n)))) M
theorem cX1_holds_ct {l : Launch} {b : Bool} (hl0 : l.stackTraces = false) : q_Ct l b 8 pX1_holds := by
  refine q_meth (by decide +kernel) hl0 TX1_holds kX1_holds ?_
  intro av M K KX hwf
  rintro ⟨j, c, n, y, hn, h7, rfl, hK⟩
  refine ⟨Nat.le_of_ble_eq_true rfl, fun Z hz hw => ?_⟩
  apply hz [] 60
  refine Exists.intro _ ⟨cX1_agoOf_ct hl0, j, c, n, y, hn, h7, rfl, ?_⟩
  by_cases h : r_fi (M.1 20 j c) y n 0 < n
  · rw [if_pos h]
    rw [q_bi_t h] at hK
    refine And.intro (fun g => absurd (Eq.symm g) (q_m1n (by omega))) (fun _ => And.intro (Or.inr rfl) hK)
  · rw [if_neg h]
    rw [q_bi_f h] at hK
    refine And.intro (fun _ => And.intro (Or.inl rfl) hK) (fun g => absurd rfl g)
/-- the nuts behind using one: a is the place it stood at, or the last */ -/
def d_nt (g : Nat → Int32) (y : Int32) (a : Nat) : Nat → Int32 := fun m => if m = 0 then y else if m ≤ a then g (m - 1) else g m
def d_ns (g : Nat → Int32) (i a : Nat) : Nat → Int32 := fun m => if i < m ∧ m ≤ a then g (m - 1) else g m
theorem d_ns_0 {g : Nat → Int32} {a : Nat} : d_ns g a a = g := by
  funext m
  unfold d_ns
  rw [if_neg (by omega)]
theorem d_ns_1 {g : Nat → Int32} {i a : Nat} (h : i + 1 ≤ a) : upd (d_ns g (i + 1) a) (i + 1) (d_ns g (i + 1) a i) = d_ns g i a := by
  funext m
  by_cases c : m = i + 1
  · rw [c, q_upd_eq]
    unfold d_ns
    rw [if_neg (by omega), if_pos (by omega)]
    rfl
  · rw [q_upd_ne c]
    unfold d_ns
    by_cases e : i + 1 < m ∧ m ≤ a
    · rw [if_pos e, if_pos (by omega)]
    · rw [if_neg e, if_neg (by omega)]
theorem d_ns_y {g : Nat → Int32} {y : Int32} {a : Nat} : upd (d_ns g 0 a) 0 y = d_nt g y a := by
  funext m
  unfold d_nt
  by_cases c : m = 0
  · rw [c, q_upd_eq, if_pos rfl]
  · rw [q_upd_ne c, if_neg c]
    unfold d_ns
    by_cases e : m ≤ a
    · rw [if_pos (by omega), if_pos e]
    · rw [if_neg (by omega), if_neg e]
/-- the place from which nuts move -/
def d_na (n f : Nat) : Nat := if f < n then f else if n < 4 then n else 3
def d_tk (M : Q_M) (j c n : Nat) (y : Int32) (f : Nat) : Q_M := q_sa (if f < n ∨ n = 4 then M else q_si M (19, j, c) 7 (nI (n + 1))) (20, j, c) (d_nt (M.1 20 j c) y (d_na n f))
abbrev pX1_take : Q_P := fun av M K KX => ∃ (j c n : Nat) (y : Int32), n ≤ 4 ∧ M.1 19 j c 7 = nI n ∧ av = [.inr (.inl (19, j, c)), .inl y] ∧ K (some (.inl (q_bi (r_fi (M.1 20 j c) y n 0 < n)))) (d_tk M j c n y (r_fi (M.1 20 j c) y n 0))
theorem cX1_take_ct {l : Launch} {b : Bool} (hl0 : l.stackTraces = false) : q_Ct l b 9 pX1_take := by
  refine q_meth (by decide +kernel) hl0 TX1_take kX1_take ?_
  intro av M K KX hwf
  rintro ⟨j, c, n, y, hn, h7, rfl, hK⟩
  refine ⟨Nat.le_of_ble_eq_true rfl, fun Z hz hw => ?_⟩
  have hle := r_fi_le (g := M.1 20 j c) (y := y) n 0
  generalize hf : r_fi (M.1 20 j c) y n 0 = f at hK hle
  have loop : ∀ (i a : Nat) (ls : List (Nat × Q_V)) (h : Int32) (M0 : Q_M), q_bit h → i ≤ a → a < 4 → K (some (.inl h)) (q_sa M0 (20, j, c) (d_nt (M.1 20 j c) y a)) → Z 0 49 [(4, .inl (nI i)), (0, .inr (.inl (19, j, c))), (1, .inl y), (3, .inl h)] [] (q_sa M0 (20, j, c) (d_ns (M.1 20 j c) i a)) := by
    intro i
    induction i with
    | zero =>
      intro a ls h M0 hb hi ha hK
      apply hz [49] 60
      refine And.intro (fun _ => ?_) (fun g => absurd (show nI 0 ≤ 0 by decide) g)
      refine Exists.intro 0 ⟨rfl, by decide, ?_⟩
      refine And.intro hb ?_
      refine q_K hK rfl ?_
      show q_si (q_sa M0 (20, j, c) (d_ns (M.1 20 j c) 0 a)) (20, j, c) 0 y = _
      rw [q_si_sa]
      show q_sa (q_sa M0 (20, j, c) (d_ns (M.1 20 j c) 0 a)) (20, j, c) (upd ((q_sa M0 (20, j, c) (d_ns (M.1 20 j c) 0 a)).1 20 j c) 0 y) = _
      rw [q_a_e, q_sa_sa, d_ns_y]
    | succ i ih =>
      intro a ls h M0 hb hi ha hK
      have es : nI (i + 1) - q_i 1 = nI i := pk_sub (b := 1) (by omega)
      apply hz [49] 60
      refine And.intro (fun g => absurd (show nI (i + 1) ≤ nI 0 from g) (fun g => absurd ((nI_leI (by omega) (by omega)).mp g) (by omega))) (fun _ => ?_)
      refine Exists.intro i ⟨es, by omega, ?_⟩
      refine Exists.intro (i + 1) ⟨rfl, by omega, ?_⟩
      have w1 : q_si (q_sa M0 (20, j, c) (d_ns (M.1 20 j c) (i + 1) a)) (20, j, c) (i + 1) ((q_sa M0 (20, j, c) (d_ns (M.1 20 j c) (i + 1) a)).1 20 j c i) = q_sa M0 (20, j, c) (d_ns (M.1 20 j c) i a) := by
        rw [q_si_sa]
        show q_sa (q_sa M0 (20, j, c) (d_ns (M.1 20 j c) (i + 1) a)) (20, j, c) (upd ((q_sa M0 (20, j, c) (d_ns (M.1 20 j c) (i + 1) a)).1 20 j c) (i + 1) ((q_sa M0 (20, j, c) (d_ns (M.1 20 j c) (i + 1) a)).1 20 j c i)) = _
        rw [q_a_e, q_sa_sa, d_ns_1 hi]
      rw [w1]
      have hh := ih a ls h M0 hb (by omega) ha hK
      have em : nI (i + 1) + q_i (-1) = nI i := by
        rw [q_im1]
        exact pk_m1 i
      rw [← em] at hh
      exact hh
  have eta : ∀ M0 : Q_M, M0.1 20 j c = M.1 20 j c → q_sa M0 (20, j, c) (M.1 20 j c) = M0 := fun M0 h => by
    rw [← h]
    exact q_sa_eta M0 (20, j, c)
  apply hz [49] 60
  refine Exists.intro _ ⟨cX1_agoOf_ct hl0, j, c, n, y, hn, h7, rfl, ?_⟩
  rw [hf]
  unfold d_tk at hK
  by_cases h : f < n
  · rw [if_pos h]
    rw [if_pos (Or.inl h), show d_na n f = f from if_pos h, q_bi_t h] at hK
    refine And.intro (fun g => absurd (Eq.symm g) (q_m1n (by omega))) (fun _ => ?_)
    refine And.intro (fun g => absurd g q_n1) (fun _ => ?_)
    have hh := loop f f [] (nI 1) M (Or.inr rfl) (Nat.le_refl _) (by omega) hK
    rw [d_ns_0, eta M rfl] at hh
    refine hw _ _ _ _ _ _ hh ?_
    intro q hq
    simp only [List.mem_cons] at hq
    rcases hq with rfl | rfl | rfl | rfl | hq
    · exact List.mem_cons_self
    · exact List.mem_cons_of_mem _ (List.mem_cons_of_mem _ (List.mem_cons_of_mem _ (List.mem_cons_self)))
    · exact List.mem_cons_of_mem _ (List.mem_cons_of_mem _ (List.mem_cons_of_mem _ (List.mem_cons_of_mem _ (List.mem_cons_self))))
    · exact List.mem_cons_of_mem _ (List.mem_cons_self)
    · exact absurd hq (List.not_mem_nil)
  · rw [if_neg h]
    rw [q_bi_f h] at hK
    refine And.intro (fun _ => ?_) (fun g => absurd rfl g)
    refine And.intro (fun _ => ?_) (fun g => absurd rfl g)
    refine And.intro (fun (g : nI 4 ≤ M.1 19 j c 7) => ?_) (fun (g : ¬ nI 4 ≤ M.1 19 j c 7) => ?_)
    · rw [h7, nI_leI (by omega) (by omega)] at g
      obtain rfl : n = 4 := by omega
      rw [if_pos (Or.inr rfl), show d_na 4 f = 3 by unfold d_na; rw [if_neg h, if_neg (by omega)]] at hK
      have hh := loop 3 3 [] (nI 0) M (Or.inl rfl) (by omega) (by omega) hK
      rw [d_ns_0, eta M rfl] at hh
      refine hw [(4, .inl (M.1 19 j c 7 - nI 1)), (0, .inr (.inl (19, j, c))), (1, .inl y), (3, .inl (nI 0))] _ _ _ _ _ (by rw [h7, show nI 4 - nI 1 = nI 3 by decide]; exact hh) ?_
      intro q hq
      simp only [List.mem_cons] at hq
      rcases hq with rfl | rfl | rfl | rfl | hq
      · exact List.mem_cons_self
      · exact List.mem_cons_of_mem _ (List.mem_cons_of_mem _ (List.mem_cons_of_mem _ List.mem_cons_self))
      · exact List.mem_cons_of_mem _ (List.mem_cons_of_mem _ (List.mem_cons_of_mem _ (List.mem_cons_of_mem _ List.mem_cons_self)))
      · exact List.mem_cons_of_mem _ (List.mem_cons_of_mem _ List.mem_cons_self)
      · exact absurd hq (List.not_mem_nil)
    · rw [h7, nI_leI (by omega) (by omega)] at g
      rw [if_neg (by omega), show d_na n f = n by unfold d_na; rw [if_neg h, if_pos (by omega)]] at hK
      have hh := loop n n [] (nI 0) (q_si M (19, j, c) 7 (nI (n + 1))) (Or.inl rfl) (by omega) (by omega) hK
      rw [d_ns_0, eta _ (by rw [q_i_r (show 20 ≠ 19 by decide)])] at hh
      have e1 : M.1 19 j c 7 + q_i 1 = nI (n + 1) := by
        rw [h7]
        exact nI_add n 1
      have e2 : (q_si M (19, j, c) 7 (nI (n + 1))).1 19 j c 7 - q_i 1 = nI n := by
        rw [q_i_e, q_upd_eq]
        exact pk_sub (b := 1) (by omega)
      refine hw [(4, .inl ((q_si M (19, j, c) 7 (M.1 19 j c 7 + q_i 1)).1 19 j c 7 - q_i 1)), (0, .inr (.inl (19, j, c))), (1, .inl y), (3, .inl (nI 0))] _ _ _ _ (q_si M (19, j, c) 7 (M.1 19 j c 7 + q_i 1)) (by rw [e1, e2]; exact hh) ?_
      intro q hq
      simp only [List.mem_cons] at hq
      rcases hq with rfl | rfl | rfl | rfl | hq
      · exact List.mem_cons_self
      · exact List.mem_cons_of_mem _ (List.mem_cons_of_mem _ (List.mem_cons_of_mem _ List.mem_cons_self))
      · exact List.mem_cons_of_mem _ (List.mem_cons_of_mem _ (List.mem_cons_of_mem _ (List.mem_cons_of_mem _ List.mem_cons_self)))
      · exact List.mem_cons_of_mem _ (List.mem_cons_of_mem _ List.mem_cons_self)
      · exact absurd hq (List.not_mem_nil)
