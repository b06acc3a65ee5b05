-- THE QUEUE, AND USING: THE CLASS
def q_s3 (M : Q_M) (j : Nat) (f g h : Nat → Int32) : Q_M := q_sa (q_sa (q_sa M (13, j, 0) f) (14, j, 0) g) (15, j, 0) h
theorem q_s3_13 {M : Q_M} {j : Nat} {f g h : Nat → Int32} : (q_s3 M j f g h).1 13 j 0 = f := by
  unfold q_s3
  rw [q_a_r (by decide), q_a_r (by decide), q_a_e]
theorem q_s3_14 {M : Q_M} {j : Nat} {f g h : Nat → Int32} : (q_s3 M j f g h).1 14 j 0 = g := by
  unfold q_s3
  rw [q_a_r (by decide), q_a_e]
theorem q_s3_15 {M : Q_M} {j : Nat} {f g h : Nat → Int32} : (q_s3 M j f g h).1 15 j 0 = h := by
  unfold q_s3
  rw [q_a_e]
theorem q_s3_r {M : Q_M} {j r : Nat} {f g h : Nat → Int32} (h1 : r ≠ 13) (h2 : r ≠ 14) (h3 : r ≠ 15) : (q_s3 M j f g h).1 r = M.1 r := by
  unfold q_s3
  rw [q_a_r h3, q_a_r h2, q_a_r h1]
theorem q_jne {r r' j j' c c' : Nat} (h : r ≠ r') : ((r, j, c) : Q_Id) ≠ (r', j', c') := fun g => h (congrArg Prod.fst g)
theorem q_s3_i {M : Q_M} {j : Nat} : q_s3 M j (M.1 13 j 0) (M.1 14 j 0) (M.1 15 j 0) = M := by
  unfold q_s3
  have e1 : q_sa M (13, j, 0) (M.1 13 j 0) = M := q_sa_eta M (13, j, 0)
  have e2 : q_sa M (14, j, 0) (M.1 14 j 0) = M := q_sa_eta M (14, j, 0)
  have e3 : q_sa M (15, j, 0) (M.1 15 j 0) = M := q_sa_eta M (15, j, 0)
  rw [e1, e2, e3]
theorem q_s3_w13 {M : Q_M} {j k : Nat} {x : Int32} {f g h : Nat → Int32} : q_si (q_s3 M j f g h) (13, j, 0) k x = q_s3 M j (upd f k x) g h := by
  rw [q_si_sa]
  show q_sa (q_s3 M j f g h) (13, j, 0) (upd ((q_s3 M j f g h).1 13 j 0) k x) = _
  rw [q_s3_13]
  unfold q_s3
  rw [q_sa_comm _ (15, j, 0) (13, j, 0) _ _ (q_jne (by decide)), q_sa_comm _ (14, j, 0) (13, j, 0) _ _ (q_jne (by decide)), q_sa_sa]
theorem q_s3_w14 {M : Q_M} {j k : Nat} {x : Int32} {f g h : Nat → Int32} : q_si (q_s3 M j f g h) (14, j, 0) k x = q_s3 M j f (upd g k x) h := by
  rw [q_si_sa]
  show q_sa (q_s3 M j f g h) (14, j, 0) (upd ((q_s3 M j f g h).1 14 j 0) k x) = _
  rw [q_s3_14]
  unfold q_s3
  rw [q_sa_comm _ (15, j, 0) (14, j, 0) _ _ (q_jne (by decide)), q_sa_sa]
theorem q_s3_w15 {M : Q_M} {j k : Nat} {x : Int32} {f g h : Nat → Int32} : q_si (q_s3 M j f g h) (15, j, 0) k x = q_s3 M j f g (upd h k x) := by
  rw [q_si_sa]
  show q_sa (q_s3 M j f g h) (15, j, 0) (upd ((q_s3 M j f g h).1 15 j 0) k x) = _
  rw [q_s3_15]
  unfold q_s3
  rw [q_sa_sa]
theorem q_s3_12 {M : Q_M} {j k : Nat} {x : Int32} {f g h : Nat → Int32} : (q_si (q_s3 M j f g h) (12, j, 0) k x).1 12 j 0 = upd (M.1 12 j 0) k x := by
  rw [q_i_e, q_s3_r (by decide) (by decide) (by decide)]
theorem q_sm_s3 {j : Nat} {M M1 : Q_M} {f g h : Nat → Int32} (hh : q_sm j M M1) : q_sm j M (q_s3 M1 j f g h) := q_sm_sa (q_sm_sa (q_sm_sa hh (by decide) (by decide)) (by decide) (by decide)) (by decide) (by decide)
/-- the queue's rows in RC0 of a memory where only they changed -/
theorem RC0_q3 {M : Q_M} {j : Nat} {S S' : Nat → Int32} {L : Int32} {f g h : Nat → Int32} (hR : RC0 j M S) (hn : s_n S ≤ 12) (e : ∀ i, i < 145 → S' i = S i) (e2 : ∀ i, 206 ≤ i → i < 227 → S' i = S i) (hq : r_qu (upd (M.1 12 j 0) 0 L) f g h S') : RC0 j (q_si (q_s3 M j f g h) (12, j, 0) 0 L) S' := by
  obtain ⟨hst, hcs, -, hse, hac⟩ := hR
  unfold RC0
  rw [q_s3_12, q_i_r (show 10 ≠ 12 by decide), q_i_r (show 19 ≠ 12 by decide), q_i_r (show 20 ≠ 12 by decide), q_i_r (show 13 ≠ 12 by decide), q_i_r (show 14 ≠ 12 by decide), q_i_r (show 15 ≠ 12 by decide), q_i_r (show 16 ≠ 12 by decide), q_i_r (show 17 ≠ 12 by decide), q_i_r (show 18 ≠ 12 by decide), q_s3_13, q_s3_14, q_s3_15, q_s3_r (show 10 ≠ 13 by decide) (by decide) (by decide), q_s3_r (show 19 ≠ 13 by decide) (by decide) (by decide), q_s3_r (show 20 ≠ 13 by decide) (by decide) (by decide), q_s3_r (show 16 ≠ 13 by decide) (by decide) (by decide), q_s3_r (show 17 ≠ 13 by decide) (by decide) (by decide), q_s3_r (show 18 ≠ 13 by decide) (by decide) (by decide)]
  exact ⟨r_st_c hst (e _ (by omega)) (e2 _ (by omega) (by omega)) (e2 _ (by omega) (by omega)), r_cs_c hcs hn (e _ (by omega)) (fun q hq i h1 h2 => e _ (by omega)), hq, r_se_c hse (fun i h1 h2 => e2 _ (by omega) (by omega)), r_ac_c hac (fun i h1 h2 => e2 _ (by omega) (by omega))⟩
def d_up (f : Nat → Int32) (i q : Nat) : Nat → Int32 := fun k => if i < k ∧ k ≤ q then f (k - 1) else f k
theorem d_up_0 {f : Nat → Int32} {q : Nat} : d_up f q q = f := by
  funext k
  unfold d_up
  rw [if_neg (by omega)]
theorem d_up_1 {f : Nat → Int32} {i q : Nat} (h : i + 1 ≤ q) : upd (d_up f (i + 1) q) (i + 1) (d_up f (i + 1) q i) = d_up f i q := by
  funext k
  by_cases c : k = i + 1
  · rw [c, q_upd_eq]
    unfold d_up
    rw [if_neg (by omega), if_pos (by omega)]
    rfl
  · rw [q_upd_ne c]
    unfold d_up
    by_cases g : i + 1 < k ∧ k ≤ q
    · rw [if_pos g, if_pos (by omega)]
    · rw [if_neg g, if_neg (by omega)]
theorem s_qs_at {S : Nat → Int32} {x u : Int32} (hq : s_q S < 20) (h0 : S 145 = nI (s_q S)) : s_qs S x u 145 = nI (s_q S + 1) ∧ (∀ k, k < s_q S + 1 → s_qs S x u (146 + 3 * k) = upd (d_up (fun k => S (146 + 3 * k)) (s_qp S u (s_q S)) (s_q S)) (s_qp S u (s_q S)) x k ∧ s_qs S x u (147 + 3 * k) = upd (d_up (fun k => S (147 + 3 * k)) (s_qp S u (s_q S)) (s_q S)) (s_qp S u (s_q S)) u k ∧ s_qs S x u (148 + 3 * k) = upd (d_up (fun k => S (148 + 3 * k)) (s_qp S u (s_q S)) (s_q S)) (s_qp S u (s_q S)) (S 206) k) ∧ ∀ i, i < 145 ∨ 206 ≤ i → s_qs S x u i = S i := by
  have hp := s_qp_le (S := S) (u := u) (s_q S)
  unfold s_qs
  dsimp only
  generalize s_qp S u (s_q S) = p at hp ⊢
  generalize s_q S = n at hq hp h0 ⊢
  refine ⟨?_, fun k hk => ⟨?_, ?_, ?_⟩, fun i hi => ?_⟩
  · rw [q_upd_ne (by omega), q_upd_ne (by omega), q_upd_ne (by omega), q_upd_eq, if_neg (by omega), h0, nI_add]
  · rw [q_upd_ne (by omega), q_upd_ne (by omega)]
    by_cases c : k = p
    · rw [c, q_upd_eq, q_upd_eq]
    · rw [q_upd_ne (by omega), q_upd_ne (by omega), q_upd_ne c]
      unfold d_up
      by_cases g : p < k ∧ k ≤ n
      · rw [if_pos (by omega), if_pos g]
        exact congrArg S (by omega)
      · rw [if_neg (by omega), if_neg g]
  · rw [q_upd_ne (by omega)]
    by_cases c : k = p
    · rw [c, q_upd_eq, q_upd_eq]
    · rw [q_upd_ne (by omega), q_upd_ne (by omega), q_upd_ne (by omega), q_upd_ne c]
      unfold d_up
      by_cases g : p < k ∧ k ≤ n
      · rw [if_pos (by omega), if_pos g]
        exact congrArg S (by omega)
      · rw [if_neg (by omega), if_neg g]
  · by_cases c : k = p
    · rw [c, q_upd_eq, q_upd_eq, q_upd_ne (by omega), q_upd_ne (by omega), q_upd_ne (by omega), if_neg (by omega)]
    · rw [q_upd_ne (by omega), q_upd_ne (by omega), q_upd_ne (by omega), q_upd_ne (by omega), q_upd_ne c]
      unfold d_up
      by_cases g : p < k ∧ k ≤ n
      · rw [if_pos (by omega), if_pos g]
        exact congrArg S (by omega)
      · rw [if_neg (by omega), if_neg g]
  · rw [q_upd_ne (by omega), q_upd_ne (by omega), q_upd_ne (by omega), q_upd_ne (by omega), if_neg (by omega)]
abbrev pX5_enter : Q_P := fun av M K KX => ∃ (j : Nat) (x u t : Int32) (S : Nat → Int32), RC0 j M S ∧ s_n S ≤ 12 ∧ s_q S < 20 ∧ S 145 = nI (s_q S) ∧ t = S 206 ∧ av = [.inr (.inl (12, j, 0)), .inl x, .inl u, .inl t] ∧ ∀ M', RC0 j M' (s_qs S x u) → q_sm j M M' → K none M'
theorem cX5_enter_ct {l : Launch} {b : Bool} (hl0 : l.stackTraces = false) : q_Ct l b 32 pX5_enter := by
  refine q_meth (by decide +kernel) hl0 TX5_enter kX5_enter ?_
  intro av M K KX hwf
  rintro ⟨j, x, u, t, S, hR, hn, hq, h0, rfl, rfl, hK⟩
  refine ⟨Nat.le_of_ble_eq_true rfl, fun Z hz hw => ?_⟩
  obtain ⟨e1, e2, e3⟩ := s_qs_at (x := x) (u := u) hq h0
  have hp := s_qp_le (S := S) (u := u) (s_q S)
  obtain ⟨hq0, hqk⟩ := hR.2.2.1
  have h1 : M.1 12 j 0 0 = nI (s_q S) := hq0.trans h0
  have loop : ∀ (i : Nat), i ≤ s_q S → s_qp S u i = s_qp S u (s_q S) → Z 0 16 [(4, .inl (nI i)), (0, .inr (.inl (12, j, 0))), (1, .inl x), (2, .inl u), (3, .inl (S 206))] [] (q_s3 M j (d_up (M.1 13 j 0) i (s_q S)) (d_up (M.1 14 j 0) i (s_q S)) (d_up (M.1 15 j 0) i (s_q S))) := by
    intro i
    induction i with
    | zero =>
      intro hi hpi
      have fin : ∀ n, n = s_qp S u (s_q S) → Z 0 88 [(4, .inl (nI n)), (0, .inr (.inl (12, j, 0))), (1, .inl x), (2, .inl u), (3, .inl (S 206))] [] (q_s3 M j (d_up (M.1 13 j 0) n (s_q S)) (d_up (M.1 14 j 0) n (s_q S)) (d_up (M.1 15 j 0) n (s_q S))) := by
        intro n hn2
        apply hz [16] 60
        refine Exists.intro n ⟨rfl, by omega, ?_⟩
        rw [q_s3_w13]
        refine Exists.intro n ⟨rfl, by omega, ?_⟩
        rw [q_s3_w14]
        refine Exists.intro n ⟨rfl, by omega, ?_⟩
        rw [q_s3_w15]
        have hr := RC0_q3 (L := nI (s_q S + 1)) (f := upd (d_up (M.1 13 j 0) n (s_q S)) n x) (g := upd (d_up (M.1 14 j 0) n (s_q S)) n u) (h := upd (d_up (M.1 15 j 0) n (s_q S)) n (S 206)) (S' := s_qs S x u) hR hn (fun i h => e3 i (by omega)) (fun i h h2 => e3 i (by omega)) ?_
        · refine q_K (hK _ hr (q_sm_si (q_sm_s3 q_sm_rfl) (by decide) (by decide))) rfl ?_
          have e : (q_s3 M j (upd (d_up (M.1 13 j 0) n (s_q S)) n x) (upd (d_up (M.1 14 j 0) n (s_q S)) n u) (upd (d_up (M.1 15 j 0) n (s_q S)) n (S 206))).1 12 j 0 0 = nI (s_q S) := by
            rw [q_s3_r (by decide) (by decide) (by decide)]
            exact h1
          show q_si _ (12, j, 0) 0 ((q_s3 M j (upd (d_up (M.1 13 j 0) n (s_q S)) n x) (upd (d_up (M.1 14 j 0) n (s_q S)) n u) (upd (d_up (M.1 15 j 0) n (s_q S)) n (S 206))).1 12 j 0 0 + nI 1) = _
          rw [e, nI_add]
        · have en : s_q (s_qs S x u) = s_q S + 1 := s_of e1 (by omega)
          refine ⟨by rw [q_upd_eq, e1], fun k hk => ?_⟩
          rw [en] at hk
          obtain ⟨g1, g2, g3⟩ := e2 k hk
          rw [g1, g2, g3, ← hn2]
          have sub : ∀ (f : Nat → Int32) (c : Nat), (∀ m, m < s_q S → f m = S (c + 3 * m)) → ∀ y, upd (d_up f n (s_q S)) n y k = upd (d_up (fun k => S (c + 3 * k)) n (s_q S)) n y k := by
            intro f c hf y
            by_cases cc : k = n
            · rw [cc, q_upd_eq, q_upd_eq]
            · rw [q_upd_ne cc, q_upd_ne cc]
              unfold d_up
              by_cases g : n < k ∧ k ≤ s_q S
              · rw [if_pos g, if_pos g]
                exact hf _ (by omega)
              · rw [if_neg g, if_neg g]
                exact hf _ (by omega)
          exact ⟨sub _ 146 (fun m hm => (hqk m hm).1) x, sub _ 147 (fun m hm => (hqk m hm).2.1) u, sub _ 148 (fun m hm => (hqk m hm).2.2) _⟩
      apply hz [16, 88] 60
      exact And.intro (fun _ => fin 0 hpi) (fun g => absurd (show nI 0 ≤ 0 by decide) g)
    | succ i ih =>
      intro hi hpi
      have fin : ∀ n, n = s_qp S u (s_q S) → n ≤ s_q S → Z 0 88 [(4, .inl (nI n)), (0, .inr (.inl (12, j, 0))), (1, .inl x), (2, .inl u), (3, .inl (S 206))] [] (q_s3 M j (d_up (M.1 13 j 0) n (s_q S)) (d_up (M.1 14 j 0) n (s_q S)) (d_up (M.1 15 j 0) n (s_q S))) := by
        intro n hn2 _
        apply hz [16] 60
        refine Exists.intro n ⟨rfl, by omega, ?_⟩
        rw [q_s3_w13]
        refine Exists.intro n ⟨rfl, by omega, ?_⟩
        rw [q_s3_w14]
        refine Exists.intro n ⟨rfl, by omega, ?_⟩
        rw [q_s3_w15]
        have hr := RC0_q3 (L := nI (s_q S + 1)) (f := upd (d_up (M.1 13 j 0) n (s_q S)) n x) (g := upd (d_up (M.1 14 j 0) n (s_q S)) n u) (h := upd (d_up (M.1 15 j 0) n (s_q S)) n (S 206)) (S' := s_qs S x u) hR hn (fun i h => e3 i (by omega)) (fun i h h2 => e3 i (by omega)) ?_
        · refine q_K (hK _ hr (q_sm_si (q_sm_s3 q_sm_rfl) (by decide) (by decide))) rfl ?_
          have e : (q_s3 M j (upd (d_up (M.1 13 j 0) n (s_q S)) n x) (upd (d_up (M.1 14 j 0) n (s_q S)) n u) (upd (d_up (M.1 15 j 0) n (s_q S)) n (S 206))).1 12 j 0 0 = nI (s_q S) := by
            rw [q_s3_r (by decide) (by decide) (by decide)]
            exact h1
          show q_si _ (12, j, 0) 0 ((q_s3 M j (upd (d_up (M.1 13 j 0) n (s_q S)) n x) (upd (d_up (M.1 14 j 0) n (s_q S)) n u) (upd (d_up (M.1 15 j 0) n (s_q S)) n (S 206))).1 12 j 0 0 + nI 1) = _
          rw [e, nI_add]
        · have en : s_q (s_qs S x u) = s_q S + 1 := s_of e1 (by omega)
          refine ⟨by rw [q_upd_eq, e1], fun k hk => ?_⟩
          rw [en] at hk
          obtain ⟨g1, g2, g3⟩ := e2 k hk
          rw [g1, g2, g3, ← hn2]
          have sub : ∀ (f : Nat → Int32) (c : Nat), (∀ m, m < s_q S → f m = S (c + 3 * m)) → ∀ y, upd (d_up f n (s_q S)) n y k = upd (d_up (fun k => S (c + 3 * k)) n (s_q S)) n y k := by
            intro f c hf y
            by_cases cc : k = n
            · rw [cc, q_upd_eq, q_upd_eq]
            · rw [q_upd_ne cc, q_upd_ne cc]
              unfold d_up
              by_cases g : n < k ∧ k ≤ s_q S
              · rw [if_pos g, if_pos g]
                exact hf _ (by omega)
              · rw [if_neg g, if_neg g]
                exact hf _ (by omega)
          exact ⟨sub _ 146 (fun m hm => (hqk m hm).1) x, sub _ 147 (fun m hm => (hqk m hm).2.1) u, sub _ 148 (fun m hm => (hqk m hm).2.2) _⟩
      have eu : d_up (M.1 14 j 0) (i + 1) (s_q S) i = S (147 + 3 * i) := by
        unfold d_up
        rw [if_neg (by omega)]
        exact (hqk i (by omega)).2.1
      have hpi : (if S (147 + 3 * i) < u then s_qp S u i else i + 1) = s_qp S u (s_q S) := hpi
      apply hz [16, 88] 60
      refine And.intro (fun g => absurd (show nI (i + 1) ≤ nI 0 from g) (fun g => absurd ((nI_leI (by omega) (by omega)).mp g) (by omega))) (fun _ => ?_)
      have es : nI (i + 1) - q_i 1 = nI i := pk_sub (b := 1) (by omega)
      refine Exists.intro i ⟨es, by omega, ?_⟩
      refine And.intro (fun g => ?_) (fun g => ?_)
      · have g : u ≤ S (147 + 3 * i) := by
          rw [← eu]
          have g2 : u ≤ (q_s3 M j (d_up (M.1 13 j 0) (i + 1) (s_q S)) (d_up (M.1 14 j 0) (i + 1) (s_q S)) (d_up (M.1 15 j 0) (i + 1) (s_q S))).1 14 j 0 i := g
          rw [q_s3_14] at g2
          exact g2
        rw [if_neg (Int32.not_lt.mpr g)] at hpi
        exact fin (i + 1) hpi hi
      · have g : ¬ u ≤ S (147 + 3 * i) := by
          rw [← eu]
          intro g2
          refine g ?_
          show u ≤ (q_s3 M j (d_up (M.1 13 j 0) (i + 1) (s_q S)) (d_up (M.1 14 j 0) (i + 1) (s_q S)) (d_up (M.1 15 j 0) (i + 1) (s_q S))).1 14 j 0 i
          rw [q_s3_14]
          exact g2
        rw [if_pos (Int32.not_le.mp g)] at hpi
        refine Exists.intro i ⟨es, by omega, ?_⟩
        refine Exists.intro (i + 1) ⟨rfl, by omega, ?_⟩
        have w1 : q_si (q_s3 M j (d_up (M.1 13 j 0) (i + 1) (s_q S)) (d_up (M.1 14 j 0) (i + 1) (s_q S)) (d_up (M.1 15 j 0) (i + 1) (s_q S))) (13, j, 0) (i + 1) ((q_s3 M j (d_up (M.1 13 j 0) (i + 1) (s_q S)) (d_up (M.1 14 j 0) (i + 1) (s_q S)) (d_up (M.1 15 j 0) (i + 1) (s_q S))).1 13 j 0 i) = q_s3 M j (d_up (M.1 13 j 0) i (s_q S)) (d_up (M.1 14 j 0) (i + 1) (s_q S)) (d_up (M.1 15 j 0) (i + 1) (s_q S)) := by
          rw [q_s3_13, q_s3_w13, d_up_1 hi]
        rw [w1]
        refine Exists.intro i ⟨es, by omega, ?_⟩
        refine Exists.intro (i + 1) ⟨rfl, by omega, ?_⟩
        have w2 : q_si (q_s3 M j (d_up (M.1 13 j 0) i (s_q S)) (d_up (M.1 14 j 0) (i + 1) (s_q S)) (d_up (M.1 15 j 0) (i + 1) (s_q S))) (14, j, 0) (i + 1) ((q_s3 M j (d_up (M.1 13 j 0) i (s_q S)) (d_up (M.1 14 j 0) (i + 1) (s_q S)) (d_up (M.1 15 j 0) (i + 1) (s_q S))).1 14 j 0 i) = q_s3 M j (d_up (M.1 13 j 0) i (s_q S)) (d_up (M.1 14 j 0) i (s_q S)) (d_up (M.1 15 j 0) (i + 1) (s_q S)) := by
          rw [q_s3_14, q_s3_w14, d_up_1 hi]
        rw [w2]
        refine Exists.intro i ⟨es, by omega, ?_⟩
        refine Exists.intro (i + 1) ⟨rfl, by omega, ?_⟩
        have w3 : q_si (q_s3 M j (d_up (M.1 13 j 0) i (s_q S)) (d_up (M.1 14 j 0) i (s_q S)) (d_up (M.1 15 j 0) (i + 1) (s_q S))) (15, j, 0) (i + 1) ((q_s3 M j (d_up (M.1 13 j 0) i (s_q S)) (d_up (M.1 14 j 0) i (s_q S)) (d_up (M.1 15 j 0) (i + 1) (s_q S))).1 15 j 0 i) = q_s3 M j (d_up (M.1 13 j 0) i (s_q S)) (d_up (M.1 14 j 0) i (s_q S)) (d_up (M.1 15 j 0) i (s_q S)) := by
          rw [q_s3_15, q_s3_w15, d_up_1 hi]
        rw [w3]
        have h := ih (by omega) hpi
        have em : nI (i + 1) + q_i (-1) = nI i := by
          rw [q_im1]
          exact pk_m1 i
        rw [← em] at h
        exact h
  apply hz [16] 60
  refine And.intro (fun _ => ?_) (fun g => absurd (show M.1 12 j 0 0 < nI 20 by rw [h1]; exact nI_lt (by omega) (by omega)) g)
  have h := loop (s_q S) (Nat.le_refl _) rfl
  rw [d_up_0, d_up_0, d_up_0, q_s3_i, ← h1] at h
  exact h
def d_dn (f : Nat → Int32) (p i : Nat) : Nat → Int32 := fun q => if p ≤ q ∧ q + 1 < i then f (q + 1) else f q
theorem d_dn_0 {f : Nat → Int32} {p : Nat} : d_dn f p (p + 1) = f := by
  funext q
  unfold d_dn
  rw [if_neg (by omega)]
theorem d_dn_1 {f : Nat → Int32} {p i : Nat} (h : p < i) : upd (d_dn f p i) (i - 1) (d_dn f p i i) = d_dn f p (i + 1) := by
  funext q
  by_cases c : q = i - 1
  · rw [c, q_upd_eq]
    unfold d_dn
    rw [if_neg (by omega), if_pos (by omega)]
    exact congrArg f (by omega)
  · rw [q_upd_ne c]
    unfold d_dn
    by_cases g : p ≤ q ∧ q + 1 < i
    · rw [if_pos g, if_pos (by omega)]
    · rw [if_neg g, if_neg (by omega)]
abbrev pX5_removeAt : Q_P := fun av M K KX => ∃ (j k : Nat) (S : Nat → Int32), RC0 j M S ∧ s_n S ≤ 12 ∧ s_q S ≤ 20 ∧ S 145 = nI (s_q S) ∧ k < s_q S ∧ av = [.inr (.inl (12, j, 0)), .inl (nI k)] ∧ ∀ M', RC0 j M' (s_uq S k) → q_sm j M M' → K none M'
theorem cX5_removeAt_ct {l : Launch} {b : Bool} (hl0 : l.stackTraces = false) : q_Ct l b 33 pX5_removeAt := by
  refine q_meth (by decide +kernel) hl0 TX5_removeAt kX5_removeAt ?_
  intro av M K KX hwf
  rintro ⟨j, k, S, hR, hn, hq, h0, hk, rfl, hK⟩
  refine ⟨Nat.le_of_ble_eq_true rfl, fun Z hz hw => ?_⟩
  obtain ⟨hq0, hqk⟩ := hR.2.2.1
  have h1 : M.1 12 j 0 0 = nI (s_q S) := hq0.trans h0
  have loop : ∀ (d i : Nat), i + d = s_q S → k < i → Z 0 4 [(2, .inl (nI i)), (0, .inr (.inl (12, j, 0))), (1, .inl (nI k))] [] (q_s3 M j (d_dn (M.1 13 j 0) k i) (d_dn (M.1 14 j 0) k i) (d_dn (M.1 15 j 0) k i)) := by
    intro d
    induction d with
    | zero =>
      intro i hi hki
      obtain rfl : i = s_q S := by omega
      have e : (q_s3 M j (d_dn (M.1 13 j 0) k (s_q S)) (d_dn (M.1 14 j 0) k (s_q S)) (d_dn (M.1 15 j 0) k (s_q S))).1 12 j 0 0 = nI (s_q S) := by
        rw [q_s3_r (by decide) (by decide) (by decide)]
        exact h1
      apply hz [4] 60
      refine And.intro (fun _ => ?_) (fun g => absurd (show (q_s3 M j (d_dn (M.1 13 j 0) k (s_q S)) (d_dn (M.1 14 j 0) k (s_q S)) (d_dn (M.1 15 j 0) k (s_q S))).1 12 j 0 0 ≤ nI (s_q S) by rw [e]; exact nI_le (by omega) (by omega)) g)
      have hr := RC0_q3 (L := nI (s_q S - 1)) (f := d_dn (M.1 13 j 0) k (s_q S)) (g := d_dn (M.1 14 j 0) k (s_q S)) (h := d_dn (M.1 15 j 0) k (s_q S)) (S' := s_uq S k) hR hn (fun i h => s_uq_ne (by omega)) (fun i h h2 => s_uq_ne (by omega)) ?_
      · refine q_K (hK _ hr (q_sm_si (q_sm_s3 q_sm_rfl) (by decide) (by decide))) rfl ?_
        show q_si _ (12, j, 0) 0 ((q_s3 M j (d_dn (M.1 13 j 0) k (s_q S)) (d_dn (M.1 14 j 0) k (s_q S)) (d_dn (M.1 15 j 0) k (s_q S))).1 12 j 0 0 - nI 1) = _
        rw [e, pk_sub (by omega)]
      · refine ⟨by rw [q_upd_eq, s_uq_q h0 hk], fun m hm => ?_⟩
        rw [s_q_uq ⟨h0, hq⟩ hk] at hm
        rw [s_uq_at hm (f := 146) (by omega) (by omega), s_uq_at hm (f := 147) (by omega) (by omega), s_uq_at hm (f := 148) (by omega) (by omega)]
        have ef : ∀ f : Nat → Int32, d_dn f k (s_q S) m = f (s_ix k m) := by
          intro f
          unfold d_dn s_ix
          by_cases g : k ≤ m
          · rw [if_pos (by omega), if_pos g]
          · rw [if_neg (by omega), if_neg g]
        rw [ef, ef, ef]
        exact hqk _ (s_ix_lt hm)
    | succ d ih =>
      intro i hi hki
      have e : (q_s3 M j (d_dn (M.1 13 j 0) k i) (d_dn (M.1 14 j 0) k i) (d_dn (M.1 15 j 0) k i)).1 12 j 0 0 = nI (s_q S) := by
        rw [q_s3_r (by decide) (by decide) (by decide)]
        exact h1
      apply hz [4] 60
      refine And.intro (fun g => ?_) (fun _ => ?_)
      · have g : (q_s3 M j (d_dn (M.1 13 j 0) k i) (d_dn (M.1 14 j 0) k i) (d_dn (M.1 15 j 0) k i)).1 12 j 0 0 ≤ nI i := g
        rw [e, nI_leI (by omega) (by omega)] at g
        omega
      · have es : nI i - q_i 1 = nI (i - 1) := pk_sub (b := 1) (by omega)
        refine Exists.intro i ⟨rfl, by omega, ?_⟩
        refine Exists.intro (i - 1) ⟨es, by omega, ?_⟩
        have w1 : q_si (q_s3 M j (d_dn (M.1 13 j 0) k i) (d_dn (M.1 14 j 0) k i) (d_dn (M.1 15 j 0) k i)) (13, j, 0) (i - 1) ((q_s3 M j (d_dn (M.1 13 j 0) k i) (d_dn (M.1 14 j 0) k i) (d_dn (M.1 15 j 0) k i)).1 13 j 0 i) = q_s3 M j (d_dn (M.1 13 j 0) k (i + 1)) (d_dn (M.1 14 j 0) k i) (d_dn (M.1 15 j 0) k i) := by
          rw [q_s3_13, q_s3_w13, d_dn_1 hki]
        rw [w1]
        refine Exists.intro i ⟨rfl, by omega, ?_⟩
        refine Exists.intro (i - 1) ⟨es, by omega, ?_⟩
        have w2 : q_si (q_s3 M j (d_dn (M.1 13 j 0) k (i + 1)) (d_dn (M.1 14 j 0) k i) (d_dn (M.1 15 j 0) k i)) (14, j, 0) (i - 1) ((q_s3 M j (d_dn (M.1 13 j 0) k (i + 1)) (d_dn (M.1 14 j 0) k i) (d_dn (M.1 15 j 0) k i)).1 14 j 0 i) = q_s3 M j (d_dn (M.1 13 j 0) k (i + 1)) (d_dn (M.1 14 j 0) k (i + 1)) (d_dn (M.1 15 j 0) k i) := by
          rw [q_s3_14, q_s3_w14, d_dn_1 hki]
        rw [w2]
        refine Exists.intro i ⟨rfl, by omega, ?_⟩
        refine Exists.intro (i - 1) ⟨es, by omega, ?_⟩
        have w3 : q_si (q_s3 M j (d_dn (M.1 13 j 0) k (i + 1)) (d_dn (M.1 14 j 0) k (i + 1)) (d_dn (M.1 15 j 0) k i)) (15, j, 0) (i - 1) ((q_s3 M j (d_dn (M.1 13 j 0) k (i + 1)) (d_dn (M.1 14 j 0) k (i + 1)) (d_dn (M.1 15 j 0) k i)).1 15 j 0 i) = q_s3 M j (d_dn (M.1 13 j 0) k (i + 1)) (d_dn (M.1 14 j 0) k (i + 1)) (d_dn (M.1 15 j 0) k (i + 1)) := by
          rw [q_s3_15, q_s3_w15, d_dn_1 hki]
        rw [w3]
        have h := ih (i + 1) (by omega) (by omega)
        rw [← nI_add i 1] at h
        exact h
  apply hz [4] 60
  have h := loop (s_q S - (k + 1)) (k + 1) (by omega) (by omega)
  rw [d_dn_0, d_dn_0, d_dn_0, q_s3_i, ← nI_add k 1] at h
  exact h
abbrev pX7_letLeave : Q_P := fun av M K KX => ∃ (j k : Nat) (S : Nat → Int32), RC j M S ∧ k < s_q S ∧ av = [.inr (.inl (10, j, 0)), .inl (nI k)] ∧ ∀ M', RC j M' (s_uq S k) → q_sm j M M' → K (some (.inl (S 206 - S (148 + 3 * k)))) M'
theorem cX7_letLeave_ct {l : Launch} {b : Bool} (hl0 : l.stackTraces = false) : q_Ct l b 57 pX7_letLeave := by
  refine q_meth (by decide +kernel) hl0 TX7_letLeave kX7_letLeave ?_
  intro av M K KX hwf
  rintro ⟨j, k, S, hR, hk, rfl, hK⟩
  refine ⟨Nat.le_of_ble_eq_true rfl, fun Z hz hw => ?_⟩
  obtain ⟨wq0, wq⟩ := hR.1.2.1
  apply hz [] 60
  refine Exists.intro _ ⟨cX7_waitAt_ct hl0, j, S, k, hR.2, wq, hk, rfl, ?_⟩
  refine Exists.intro _ ⟨cX5_removeAt_ct hl0, j, k, S, hR.2, hR.1.1.2, wq, wq0, hk, rfl, fun M' h1 h2 => ?_⟩
  exact hK M' ⟨s_wf_uq hR.1 hk, h1⟩ h2
