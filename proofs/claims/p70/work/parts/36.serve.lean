-- FINDING, ASKING, SERVING: THE CLASS
theorem s_n_e {S S' : Nat → Int32} (h : S' 0 = S 0) : s_n S' = s_n S := congrArg Int32.toNatClampNeg h
theorem s_q_e {S S' : Nat → Int32} (h : S' 145 = S 145) : s_q S' = s_q S := congrArg Int32.toNatClampNeg h
theorem s_pig : ∀ (n m : Nat) (f : Nat → Nat), (∀ k, k < m → f k < n) → (∀ k k', k < m → k' < m → k ≠ k' → f k ≠ f k') → m ≤ n
  | 0, m, f, h, _ => by
    cases m with
    | zero => exact Nat.le_refl _
    | succ m => exact absurd (h 0 (by omega)) (by omega)
  | n + 1, m, f, h, hi => by
    by_cases c : ∃ k, k < m ∧ f k = n
    · obtain ⟨k0, hk0, e0⟩ := c
      have ih := s_pig n (m - 1) (fun k => f (if k < k0 then k else k + 1)) (fun k hk => ?_) (fun k k' hk hk' hn => ?_)
      · omega
      · have a := h (if k < k0 then k else k + 1) (by split <;> omega)
        have b : f (if k < k0 then k else k + 1) ≠ n := fun g => hi (if k < k0 then k else k + 1) k0 (by split <;> omega) hk0 (by split <;> omega) (g.trans e0.symm)
        omega
      · exact hi _ _ (by split <;> omega) (by split <;> omega) (by split <;> split <;> omega)
    · have ih := s_pig n m f (fun k hk => ?_) hi
      · omega
      · have a := h k hk
        have b : f k ≠ n := fun g => c ⟨k, hk, g⟩
        omega
theorem s_pig2 {n m : Nat} {f : Nat → Nat} {x : Nat} (h : ∀ k, k < m → f k < n) (hi : ∀ k k', k < m → k' < m → k ≠ k' → f k ≠ f k') (hx : x < n) (hn : ∀ k, k < m → f k ≠ x) : m < n := by
  have := s_pig n (m + 1) (fun k => if k < m then f k else x) (fun k _ => by split; exact h _ (by assumption); exact hx) (fun k k' hk hk' hne => ?_)
  · omega
  · by_cases c : k < m
    · by_cases c' : k' < m
      · rw [if_pos c, if_pos c']
        exact hi k k' c c' hne
      · rw [if_pos c, if_neg c']
        exact hn k c
    · by_cases c' : k' < m
      · rw [if_neg c, if_pos c']
        exact fun g => hn k' c' g.symm
      · omega
/-- who does not wait leaves room in the queue -/
theorem s_q20 {S : Nat → Int32} {x : Nat} (w : s_wf S) (hx : x < 20) (hq : s_qd S (nI x) (s_q S) = none) : s_q S < 20 := by
  obtain ⟨-, ⟨wq, wq2⟩, -, -, -, -, w2, -, w4, -⟩ := w
  have hno := s_qd_none hq
  refine s_pig2 (f := fun k => (S (146 + 3 * k)).toNatClampNeg) (x := x) (fun k hk => ?_) (fun k k' hk hk' hn g => ?_) hx (fun k hk g => ?_)
  · obtain ⟨y, hy, e⟩ := w2 k hk
    rw [e, nI_clamp (by omega)]
    exact hy
  · obtain ⟨y, hy, e⟩ := w2 k hk
    obtain ⟨y', hy', e'⟩ := w2 k' hk'
    rw [e, e', nI_clamp (by omega), nI_clamp (by omega)] at g
    exact w4 k k' hk hk' hn (by rw [e, e', g])
  · obtain ⟨y, hy, e⟩ := w2 k hk
    rw [e, nI_clamp (by omega)] at g
    exact hno k hk (by rw [e, g])
theorem s_wf_qs {S : Nat → Int32} {x : Nat} {u : Int32} (w : s_wf S) (hx : x < 20) (hq : s_q S < 20) (h1 : ∀ k, k < s_n S → S (3 + 12 * k) ≠ nI x) (h2 : ∀ k, k < s_q S → S (146 + 3 * k) ≠ nI x) : s_wf (s_qs S (nI x) u) := by
  obtain ⟨e1, e2, e3⟩ := s_qs_at (x := nI x) (u := u) hq w.2.1.1
  have hp := s_qp_le (S := S) (u := u) (s_q S)
  generalize s_qp S u (s_q S) = p at e2 hp
  have eq : s_q (s_qs S (nI x) u) = s_q S + 1 := s_of e1 (by omega)
  have en : s_n (s_qs S (nI x) u) = s_n S := by
    unfold s_n
    rw [e3 0 (by omega)]
  have em : s_m (s_qs S (nI x) u) = s_m S := by
    unfold s_m
    rw [e3 207 (by omega)]
  have el : s_l (s_qs S (nI x) u) = s_l S := by
    unfold s_l
    rw [e3 208 (by omega)]
  obtain ⟨⟨w0, wn⟩, -, wm, wl, wb, w1, w2, w3, w4, w5⟩ := w
  have who : ∀ k, k < s_n S → s_qs S (nI x) u (3 + 12 * k) = S (3 + 12 * k) := fun k hk => e3 _ (by omega)
  have ent : ∀ k, k < s_q S + 1 → s_qs S (nI x) u (146 + 3 * k) = if k = p then nI x else S (146 + 3 * (if k < p then k else k - 1)) := by
    intro k hk
    rw [(e2 k hk).1]
    by_cases c : k = p
    · rw [if_pos c, c, q_upd_eq]
    · rw [if_neg c, q_upd_ne c]
      unfold d_up
      by_cases g : k < p
      · rw [if_neg (by omega), if_pos g]
      · rw [if_pos (by omega), if_neg g]
  unfold s_wf
  rw [en, eq, em, el]
  refine ⟨⟨(e3 0 (by omega)).trans w0, wn⟩, ⟨e1, by omega⟩, ⟨(e3 207 (by omega)).trans wm.1, wm.2⟩, ⟨(e3 208 (by omega)).trans wl.1, wl.2⟩, by rw [e3 213 (by omega)]; exact wb, fun k hk => ?_, fun k hk => ?_, fun k k' hk hk' hn g => ?_, fun k k' hk hk' hn g => ?_, fun k k' hk hk' g => ?_⟩
  · unfold s_lok
    rw [e3 _ (by omega), e3 _ (by omega), e3 _ (by omega)]
    exact w1 k hk
  · rw [ent k hk]
    by_cases c : k = p
    · rw [if_pos c]
      exact ⟨x, hx, rfl⟩
    · rw [if_neg c]
      exact w2 _ (by split <;> omega)
  · rw [who k hk, who k' hk'] at g
    rw [who k hk]
    exact w3 k k' hk hk' hn g
  · rw [ent k hk, ent k' hk'] at g
    by_cases c : k = p
    · by_cases c' : k' = p
      · omega
      · rw [if_pos c, if_neg c'] at g
        exact h2 _ (by split <;> omega) g.symm
    · by_cases c' : k' = p
      · rw [if_neg c, if_pos c'] at g
        exact h2 _ (by split <;> omega) g
      · rw [if_neg c, if_neg c'] at g
        exact w4 _ _ (by split <;> omega) (by split <;> omega) (by split <;> split <;> omega) g
  · rw [who k hk, ent k' hk'] at g
    by_cases c : k' = p
    · rw [if_pos c] at g
      exact h1 k hk g
    · rw [if_neg c] at g
      exact w5 k _ hk (by split <;> omega) g
theorem s_le_of {S : Nat → Int32} {x : Int32} : s_le S x = match (s_fl S).1 with
    | some p => (true, s_ld (s_fl S).2 p x)
    | none => (false, (s_fl S).2) := by
  unfold s_le
  rcases s_fl S with ⟨_ | p, S'⟩ <;> rfl
theorem s_wf_as {S : Nat → Int32} {x : Nat} {u : Int32} (w : s_wf S) (hx : x < 20) (hl : s_lk S (nI x) (s_n S) = none) (hq : s_qd S (nI x) (s_q S) = none) : s_wf (s_as S (nI x) u).2 := by
  have h1 := s_lk_none hl
  have h2 := s_qd_none hq
  unfold s_as
  by_cases c : s_q S = 0
  · rw [if_pos c, s_le_of]
    obtain ⟨a1, a2, a3, a4⟩ := s_fl_eq S w
    have eq : s_q (s_fl S).2 = 0 := by
      unfold s_q at c ⊢
      rw [a3 145 (by omega) (by omega)]
      exact c
    cases hf : (s_fl S).1 with
    | none => exact s_wf_qs a1 hx (by omega) (a4 x hx h1) (fun k hk => absurd hk (by omega))
    | some p => exact s_wf_ld a1 (a2 p hf) hx (a4 x hx h1) (fun k hk => absurd hk (by omega))
  · rw [if_neg c]
    exact s_wf_qs w hx (s_q20 w hx hq) h1 h2
abbrev pX7_findToLend : Q_P := fun av M K KX => ∃ (j : Nat) (S : Nat → Int32), RC j M S ∧ av = [.inr (.inl (10, j, 0))] ∧ ∀ M', RC j M' (s_fl S).2 → q_sm j M M' → K (some (.inl (s_oi (s_fl S).1))) M'
theorem cX7_findToLend_ct {l : Launch} {b : Bool} (hl0 : l.stackTraces = false) : q_Ct l b 52 pX7_findToLend := by
  refine q_meth (by decide +kernel) hl0 TX7_findToLend kX7_findToLend ?_
  intro av M K KX hwf
  rintro ⟨j, S, hR, rfl, hK⟩
  refine ⟨Nat.le_of_ble_eq_true rfl, fun Z hz hw => ?_⟩
  have fin : ∀ (S1 : Nat → Int32) (M1 : Q_M) (ls : List (Nat × Q_V)), RC j M1 S1 → q_sm j M M1 → s_nx S1 = none → (∀ M', RC j M' (s_fl S1).2 → q_sm j M M' → K (some (.inl (s_oi (s_fl S1).1))) M') → Z 0 54 ((0, .inr (.inl (10, j, 0))) :: ls) [] M1 := by
    intro S1 M1 ls hR hsm hno hK
    have wn := hR.1.1
    have wm := hR.1.2.2.1
    have e : s_fl S1 = if S1 0 < S1 207 then (some (s_n S1), s_op S1) else (none, S1) := by
      have : s_lb (s_n S1) S1 = (none, S1) := by
        cases h : s_n S1 with
        | zero =>
          unfold s_lb
          rw [hno]
        | succ f =>
          unfold s_lb
          rw [hno]
      unfold s_fl
      rw [this]
    rw [e] at hK
    apply hz [] 60
    refine Exists.intro _ ⟨cX7_hasRoom_ct hl0, j, S1, hR, rfl, ?_⟩
    by_cases c : S1 0 < S1 207
    · rw [q_bi_t c]
      rw [if_pos c] at hK
      refine And.intro (fun g => absurd g q_n1) (fun _ => ?_)
      refine Exists.intro _ ⟨cX7_openOne_ct hl0, j, S1, hR, ?_, rfl, fun M' h1 h2 => hK M' h1 (q_sm_tr hsm h2)⟩
      rw [wn.1, wm.1, nI_ltI (by omega) (by omega)] at c
      omega
    · rw [q_bi_f c]
      rw [if_neg c] at hK
      exact And.intro (fun _ => hK M1 hR hsm) (fun g => absurd nI_0 g)
  have loop : ∀ (f i : Nat) (S1 : Nat → Int32) (M1 : Q_M), s_n S1 = f → i + f ≤ 12 → RC j M1 S1 → q_sm j M M1 → (∀ M', RC j M' (s_fl S1).2 → q_sm j M M' → K (some (.inl (s_oi (s_fl S1).1))) M') → ∀ ls, Z 0 2 ((1, .inl (nI i)) :: (0, .inr (.inl (10, j, 0))) :: ls) [] M1 := by
    intro f
    induction f with
    | zero =>
      intro i S1 M1 hf hi hR hsm hK ls
      have hno : s_nx S1 = none := by
        unfold s_nx
        rw [hf]
        rfl
      refine hw [(1, .inl (nI i)), (0, .inr (.inl (10, j, 0)))] _ _ _ _ _ ?_ (fun q hq => ?_)
      · apply hz [2, 54] 60
        refine And.intro (fun _ => ?_) (fun _ => ?_)
        · exact hw [(0, .inr (.inl (10, j, 0)))] _ _ _ _ _ (fin S1 M1 [] hR hsm hno hK) (fun q hq => List.mem_cons_of_mem _ hq)
        · have e : M1.1 16 j 0 6 = q_bi (decide (S1 213 = nI 1) = true) := by
            rw [q_bi_dec, q_bit_bi hR.1.2.2.2.2.1]
            exact hR.2.2.2.2.1 6 (by omega)
          refine Exists.intro _ ⟨cX7_placeOfIdle_ct hl0, j, S1, decide (S1 213 = nI 1), hR, congrArg (fun x => ([.inr (.inl (10, j, 0)), .inl x] : List Q_V)) e, ?_⟩
          rw [show s_fo S1 (decide (S1 213 = nI 1)) (s_n S1) = none from hno]
          refine And.intro (fun _ => ?_) (fun g => absurd rfl g)
          refine hw [(0, .inr (.inl (10, j, 0)))] _ _ _ _ _ (fin S1 M1 [] hR hsm hno hK) (fun q hq => ?_)
          exact List.mem_cons_of_mem _ (List.mem_cons_of_mem _ hq)
      · rcases List.mem_cons.mp hq with rfl | hq
        · exact List.mem_cons_self
        · rcases List.mem_cons.mp hq with rfl | hq
          · exact List.mem_cons_of_mem _ List.mem_cons_self
          · exact absurd hq (List.not_mem_nil)
    | succ f ih =>
      intro i S1 M1 hf hi hR hsm hK ls
      refine hw [(1, .inl (nI i)), (0, .inr (.inl (10, j, 0)))] _ _ _ _ _ ?_ (fun q hq => ?_)
      · apply hz [2, 54] 60
        refine And.intro (fun (g : nI 12 ≤ nI i) => absurd ((nI_leI (by omega) (by omega)).mp g) (by omega)) (fun _ => ?_)
        have e : M1.1 16 j 0 6 = q_bi (decide (S1 213 = nI 1) = true) := by
          rw [q_bi_dec, q_bit_bi hR.1.2.2.2.2.1]
          exact hR.2.2.2.2.1 6 (by omega)
        refine Exists.intro _ ⟨cX7_placeOfIdle_ct hl0, j, S1, decide (S1 213 = nI 1), hR, congrArg (fun x => ([.inr (.inl (10, j, 0)), .inl x] : List Q_V)) e, ?_⟩
        rw [show s_fo S1 (decide (S1 213 = nI 1)) (s_n S1) = s_nx S1 from rfl]
        cases hno : s_nx S1 with
        | none =>
          refine And.intro (fun _ => ?_) (fun g => absurd rfl g)
          refine hw [(0, .inr (.inl (10, j, 0)))] _ _ _ _ _ (fin S1 M1 [] hR hsm hno hK) (fun q hq => ?_)
          exact List.mem_cons_of_mem _ (List.mem_cons_of_mem _ hq)
        | some p =>
          have hp := s_nx_lt hno
          have hlb : s_lb (s_n S1) S1 = if S1 (4 + 12 * p) = nI 1 then s_lb f (s_cl S1 p 2) else (some p, S1) := by
            rw [hf]
            show (match s_nx S1 with
              | none => (none, S1)
              | some p => if S1 (4 + 12 * p) = nI 1 then s_lb f (s_cl S1 p 2) else (some p, S1)) = _
            rw [hno]
          refine And.intro (fun g => absurd (Eq.symm g) (q_m1n (by omega))) (fun _ => ?_)
          refine Exists.intro p ⟨rfl, by omega, ?_⟩
          have eb : M1.1 19 j (M1.2.1 11 j 0 p) 2 = S1 (4 + 12 * p) := (hR.2.2.1.2 p hp).1.2.2.1
          have wb := (hR.1.2.2.2.2.2.1 p hp).2.1
          refine And.intro (fun (g : M1.1 19 j (M1.2.1 11 j 0 p) 2 = 0) => ?_) (fun (g : ¬ M1.1 19 j (M1.2.1 11 j 0 p) 2 = 0) => ?_)
          · rw [eb] at g
            rw [if_neg (fun h => by rw [h] at g; exact q_n1 g)] at hlb
            have e : s_fl S1 = (some p, S1) := by
              unfold s_fl
              rw [hlb]
            rw [e] at hK
            exact hK M1 hR hsm
          · rw [eb] at g
            have g1 : S1 (4 + 12 * p) = nI 1 := by
              rcases wb with h | h
              · exact absurd (h.trans nI_0) g
              · exact h
            rw [if_pos g1] at hlb
            have en := s_n_cl hR.1 (c := 2) hp
            have e : s_fl S1 = s_fl (s_cl S1 p 2) := by
              unfold s_fl
              rw [hlb, en, hf, Nat.add_sub_cancel]
            rw [e] at hK
            refine Exists.intro _ ⟨cX7_closeAt_ct hl0, j, p, 2, S1, hR, hp, by decide, rfl, fun M' h1 h2 => ?_⟩
            have h := ih (i + 1) (s_cl S1 p 2) M' (by rw [en, hf]; rfl) (by omega) h1 (q_sm_tr hsm h2) hK [(2, .inl (nI p))]
            rw [← nI_add i 1] at h
            refine hw _ _ _ _ _ _ h (fun q hq => ?_)
            simp only [List.mem_cons] at hq
            rcases hq with rfl | rfl | rfl | hq
            · exact List.mem_cons_self
            · exact List.mem_cons_of_mem _ (List.mem_cons_of_mem _ List.mem_cons_self)
            · exact List.mem_cons_of_mem _ List.mem_cons_self
            · exact absurd hq (List.not_mem_nil)
      · rcases List.mem_cons.mp hq with rfl | hq
        · exact List.mem_cons_self
        · rcases List.mem_cons.mp hq with rfl | hq
          · exact List.mem_cons_of_mem _ List.mem_cons_self
          · exact absurd hq (List.not_mem_nil)
  apply hz [2] 60
  exact loop (s_n S) 0 S M rfl (by have := hR.1.1.2; omega) hR q_sm_rfl hK []
abbrev pX7_letAsk : Q_P := fun av M K KX => ∃ (j x : Nat) (u : Int32) (S : Nat → Int32), RC j M S ∧ x < 20 ∧ s_lk S (nI x) (s_n S) = none ∧ s_qd S (nI x) (s_q S) = none ∧ av = [.inr (.inl (10, j, 0)), .inl (nI x), .inl u] ∧ ∀ M', RC j M' (s_as S (nI x) u).2 → q_sm j M M' → K (some (.inl (q_bi ((s_as S (nI x) u).1 = true)))) M'
theorem cX7_letAsk_ct {l : Launch} {b : Bool} (hl0 : l.stackTraces = false) : q_Ct l b 54 pX7_letAsk := by
  refine q_meth (by decide +kernel) hl0 TX7_letAsk kX7_letAsk ?_
  intro av M K KX hwf
  rintro ⟨j, x, u, S, hR, hx, hl, hq, rfl, hK⟩
  refine ⟨Nat.le_of_ble_eq_true rfl, fun Z hz hw => ?_⟩
  have hwf := s_wf_as (u := u) hR.1 hx hl hq
  have hq20 := s_q20 hR.1 hx hq
  have wq := hR.1.2.1
  have e0 : M.1 12 j 0 0 = S 145 := hR.2.2.2.1.1
  have e6 : M.1 10 j 0 0 = S 206 := hR.2.1.1
  unfold s_as at hK hwf
  apply hz [] 100
  refine And.intro (fun (g : M.1 12 j 0 0 ≤ 0) => ?_) (fun (g : ¬ M.1 12 j 0 0 ≤ 0) => ?_)
  · have g : s_q S = 0 := by
      rw [e0, wq.1, ← nI_0, nI_leI (by omega) (by omega)] at g
      omega
    rw [if_pos g, s_le_of] at hK hwf
    obtain ⟨a1, a2, a3, a4⟩ := s_fl_eq S hR.1
    refine Exists.intro _ ⟨cX7_findToLend_ct hl0, j, S, hR, rfl, fun M1 h1 h2 => ?_⟩
    have q0 : s_q (s_fl S).2 = 0 := by
      unfold s_q at g ⊢
      rw [a3 145 (by omega) (by omega)]
      exact g
    cases hf : (s_fl S).1 with
    | none =>
      rw [hf] at hK hwf
      refine And.intro (fun _ => ?_) (fun g => absurd rfl g)
      refine Exists.intro _ ⟨cX5_enter_ct hl0, j, nI x, u, M1.1 10 j 0 0, (s_fl S).2, h1.2, a1.1.2, by omega, a1.2.1.1, h1.2.1.1, rfl, fun M2 h3 h4 => ?_⟩
      exact And.intro (Or.inl rfl) (hK M2 ⟨hwf, h3⟩ (q_sm_tr h2 h4))
    | some p =>
      rw [hf] at hK hwf
      have hp := a2 p hf
      refine And.intro (fun g => absurd (Eq.symm g) (q_m1n (by have := a1.1.2; omega))) (fun _ => ?_)
      refine Exists.intro _ ⟨cX7_lendTo_ct hl0, j, p, nI x, (s_fl S).2, h1.2, hp, a1.1.2, a1.2.1.2, rfl, fun M2 h3 h4 => ?_⟩
      exact And.intro (Or.inr rfl) (hK M2 ⟨hwf, h3⟩ (q_sm_tr h2 h4))
  · have g : ¬ s_q S = 0 := by
      intro h
      refine g ?_
      rw [e0, wq.1, h]
      decide
    rw [if_neg g] at hK hwf
    refine And.intro (fun _ => ?_) (fun g => absurd rfl g)
    refine Exists.intro _ ⟨cX5_enter_ct hl0, j, nI x, u, M.1 10 j 0 0, S, hR.2, hR.1.1.2, hq20, wq.1, e6, rfl, fun M2 h3 h4 => ?_⟩
    exact And.intro (Or.inl rfl) (hK M2 ⟨hwf, h3⟩ h4)
theorem s_uq_ac {T : Nat → Int32} {a b : Int32} (hq : s_q T ≤ 20) : s_uq (upd (upd T 222 a) 223 b) 0 = upd (upd (s_uq T 0) 223 b) 222 a := by
  have eq : s_q (upd (upd T 222 a) 223 b) = s_q T := by
    unfold s_q
    rw [q_upd_ne (by omega), q_upd_ne (by omega)]
  have ne : ∀ i, i ≠ 222 → i ≠ 223 → upd (upd T 222 a) 223 b i = T i := fun i h1 h2 => by rw [q_upd_ne h2, q_upd_ne h1]
  funext i
  by_cases c2 : i = 222
  · rw [c2, q_upd_eq, s_uq_ne (by omega), q_upd_ne (by omega), q_upd_eq]
  · by_cases c3 : i = 223
    · rw [c3, q_upd_ne (by omega), q_upd_eq, s_uq_ne (by omega), q_upd_eq]
    · rw [q_upd_ne c2, q_upd_ne c3]
      unfold s_uq
      rw [eq, ne 145 (by omega) (by omega)]
      by_cases h : i = 145
      · rw [if_pos h, if_pos h]
      · rw [if_neg h, if_neg h]
        by_cases g : 146 + 3 * 0 ≤ i ∧ i < 146 + 3 * (s_q T - 1)
        · rw [if_pos g, if_pos g, ne _ (by omega) (by omega)]
        · rw [if_neg g, if_neg g, ne _ c2 c3]
abbrev pX7_serve : Q_P := fun av M K KX => ∃ (j : Nat) (S : Nat → Int32), RC j M S ∧ av = [.inr (.inl (10, j, 0))] ∧ ∀ M', RC j M' (s_sv (s_q S) S).2 → q_sm j M M' → K (some (.inl (nI (s_sv (s_q S) S).1))) M'
theorem cX7_serve_ct {l : Launch} {b : Bool} (hl0 : l.stackTraces = false) : q_Ct l b 55 pX7_serve := by
  refine q_meth (by decide +kernel) hl0 TX7_serve kX7_serve ?_
  intro av M K KX hwf
  rintro ⟨j, S, hR, rfl, hK⟩
  refine ⟨Nat.le_of_ble_eq_true rfl, fun Z hz hw => ?_⟩
  have out : ∀ (c : Nat) (M1 : Q_M) (ls : List (Nat × Q_V)), K (some (.inl (nI c))) M1 → (1, .inl (nI c)) ∈ ls → Z 0 94 ls [] M1 := by
    intro c M1 ls hK hm
    refine hw [(1, .inl (nI c))] _ _ _ _ _ ?_ (fun q hq => ?_)
    · apply hz [] 60
      exact hK
    · rcases List.mem_cons.mp hq with rfl | hq
      · exact hm
      · exact absurd hq (List.not_mem_nil)
  have loop : ∀ (f i c : Nat) (S1 : Nat → Int32) (M1 : Q_M), s_q S1 = f → i + f ≤ 20 → RC j M1 S1 → q_sm j M M1 → (∀ M', RC j M' (s_sv f S1).2 → q_sm j M M' → K (some (.inl (nI (c + (s_sv f S1).1)))) M') → Z 0 4 [(2, .inl (nI i)), (1, .inl (nI c)), (0, .inr (.inl (10, j, 0)))] [] M1 := by
    intro f
    induction f with
    | zero =>
      intro i c S1 M1 hf hi hR hsm hK
      have hK := hK M1 hR hsm
      have e0 : M1.1 12 j 0 0 = S1 145 := hR.2.2.2.1.1
      apply hz [4, 94] 60
      refine And.intro (fun _ => ?_) (fun _ => And.intro (fun _ => ?_) (fun g => absurd (show M1.1 12 j 0 0 ≤ 0 by rw [e0, hR.1.2.1.1, hf]; decide) g))
      · exact out c M1 _ hK (List.mem_cons_of_mem _ List.mem_cons_self)
      · exact out c M1 _ hK (List.mem_cons_of_mem _ List.mem_cons_self)
    | succ f ih =>
      intro i c S1 M1 hf hi hR hsm hK
      have wq := hR.1.2.1
      have e0 : M1.1 12 j 0 0 = nI (f + 1) := by rw [hR.2.2.2.1.1, wq.1, hf]
      unfold s_sv at hK
      rw [if_neg (by omega), s_le_of] at hK
      obtain ⟨a1, a2, a3, a4⟩ := s_fl_eq S1 hR.1
      apply hz [4, 94] 60
      refine And.intro (fun (g : nI 20 ≤ nI i) => absurd ((nI_leI (by omega) (by omega)).mp g) (by omega)) (fun _ => ?_)
      refine And.intro (fun (g : M1.1 12 j 0 0 ≤ nI 0) => absurd (by rw [e0] at g; exact (nI_leI (by omega) (by omega)).mp g) (show ¬ f + 1 ≤ 0 by omega)) (fun _ => ?_)
      refine Exists.intro _ ⟨cX7_findToLend_ct hl0, j, S1, hR, rfl, fun M2 h1 h2 => ?_⟩
      cases hfl : (s_fl S1).1 with
      | none =>
        rw [hfl] at hK
        refine And.intro (fun _ => ?_) (fun g => absurd rfl g)
        exact out c M2 _ (hK M2 h1 (q_sm_tr hsm h2)) (List.mem_cons_of_mem _ (List.mem_cons_of_mem _ List.mem_cons_self))
      | some p =>
        rw [hfl] at hK
        dsimp only at hK
        have hp := a2 p hfl
        have q2 : s_q (s_fl S1).2 = f + 1 := by
          unfold s_q at hf ⊢
          rw [a3 145 (by omega) (by omega)]
          exact hf
        obtain ⟨b1, b2, b3⟩ := s_le_wf (S' := s_ld (s_fl S1).2 p (S1 146)) hR.1 (by omega) (by rw [s_le_of, hfl])
        refine And.intro (fun g => absurd (Eq.symm g) (q_m1n (by have := a1.1.2; omega))) (fun _ => ?_)
        refine Exists.intro 0 ⟨rfl, by decide, ?_⟩
        have ex : M2.1 13 j 0 0 = S1 146 := by
          rw [(h1.2.2.2.1.2 0 (by omega)).1]
          exact a3 146 (by omega) (by omega)
        refine Exists.intro _ ⟨cX7_lendTo_ct hl0, j, p, S1 146, (s_fl S1).2, h1.2, hp, a1.1.2, a1.2.1.2, congrArg (fun x => ([.inr (.inl (10, j, 0)), .inl (nI p), .inl x] : List Q_V)) ex, fun M3 h3 h4 => ?_⟩
        have hT : s_n (s_ld (s_fl S1).2 p (S1 146)) ≤ 12 ∧ s_q (s_ld (s_fl S1).2 p (S1 146)) = f + 1 := by
          have wn := a1.1.2
          rw [s_n_e (s_ld_ne (by omega) (by omega) (by omega) (by omega)), s_q_e (s_ld_ne (by omega) (by omega) (by omega) (by omega))]
          exact ⟨wn, q2⟩
        generalize s_ld (s_fl S1).2 p (S1 146) = T at b1 b2 b3 h3 hT hK
        have r4 : RC0 j (q_si M3 (17, j, 0) 4 (M3.1 17 j 0 4 + nI 1)) (upd T 222 (M3.1 17 j 0 4 + nI 1)) := RC0_ac (i := 2) (x := M3.1 17 j 0 4 + nI 1) h3 hT.1 (by omega) (by omega)
        have s4 : s_q (upd T 222 (M3.1 17 j 0 4 + nI 1)) = f + 1 ∧ s_n (upd T 222 (M3.1 17 j 0 4 + nI 1)) ≤ 12 := by
          rw [s_q_e (q_upd_ne (by omega)), s_n_e (q_upd_ne (by omega))]
          exact ⟨hT.2, hT.1⟩
        refine Exists.intro _ ⟨cX7_waitAt_ct hl0, j, upd T 222 (M3.1 17 j 0 4 + nI 1), 0, r4, by omega, by omega, rfl, ?_⟩
        have r5 := RC0_ac (i := 3) (x := (q_si M3 (17, j, 0) 4 (M3.1 17 j 0 4 + nI 1)).1 17 j 0 5 + (upd T 222 (M3.1 17 j 0 4 + nI 1) 206 - upd T 222 (M3.1 17 j 0 4 + nI 1) 148)) r4 s4.2 (by omega) (by omega)
        have s5 : ∀ z : Int32, s_q (upd (upd T 222 (M3.1 17 j 0 4 + nI 1)) 223 z) = f + 1 ∧ s_n (upd (upd T 222 (M3.1 17 j 0 4 + nI 1)) 223 z) ≤ 12 := by
          intro z
          rw [s_q_e (q_upd_ne (by omega)), s_n_e (q_upd_ne (by omega))]
          exact s4
        refine Exists.intro _ ⟨cX5_removeAt_ct hl0, j, 0, _, r5, (s5 _).2, by rw [(s5 _).1]; omega, ?_, by rw [(s5 _).1]; omega, rfl, fun M4 h5 h6 => ?_⟩
        · rw [(s5 _).1]
          show upd (upd T 222 (M3.1 17 j 0 4 + nI 1)) 223 _ 145 = _
          rw [q_upd_ne (by omega), q_upd_ne (by omega), b3, hf]
        · have e4 : M3.1 17 j 0 4 = T 222 := h3.2.2.2.2.2.2 2 (by omega)
          have e5 : M3.1 17 j 0 5 = T 223 := h3.2.2.2.2.2.2 3 (by omega)
          have es : s_uq (upd (upd T 222 (M3.1 17 j 0 4 + nI 1)) 223 ((q_si M3 (17, j, 0) 4 (M3.1 17 j 0 4 + nI 1)).1 17 j 0 5 + (upd T 222 (M3.1 17 j 0 4 + nI 1) 206 - upd T 222 (M3.1 17 j 0 4 + nI 1) 148))) 0 = s_s1 T := by
            rw [s_uq_ac (by omega), q_i_e, q_upd_ne (show 5 ≠ 4 by decide), q_upd_ne (show 206 ≠ 222 by omega), q_upd_ne (show 148 ≠ 222 by omega), e4, e5]
            unfold s_s1
            dsimp only
            rw [q_upd_ne (show 222 ≠ 223 by omega), s_uq_ne (show 222 < 145 ∨ _ by omega)]
          have h5 : RC0 j M4 (s_s1 T) := by
            rw [← es]
            exact h5
          have hsm2 : q_sm j M M4 := q_sm_tr (q_sm_tr (q_sm_tr (q_sm_tr hsm h2) h4) (q_sm_si (q_sm_si q_sm_rfl (by decide) (by decide)) (by decide) (by decide))) h6
          have hh := ih (i + 1) (c + 1) (s_s1 T) M4 (by rw [b2, hf]; rfl) (by omega) ⟨b1, h5⟩ hsm2 (fun M' g1 g2 => by
            have := hK M' g1 g2
            rw [show c + 1 + (s_sv f (s_s1 T)).1 = c + ((s_sv f (s_s1 T)).1 + 1) by omega]
            exact this)
          rw [← nI_add i 1, ← nI_add c 1] at hh
          refine hw _ _ _ _ _ _ hh (fun q hq => ?_)
          simp only [List.mem_cons] at hq
          rcases hq with rfl | rfl | rfl | hq
          · exact List.mem_cons_self
          · exact List.mem_cons_of_mem _ List.mem_cons_self
          · exact List.mem_cons_of_mem _ (List.mem_cons_of_mem _ (List.mem_cons_of_mem _ List.mem_cons_self))
          · exact absurd hq (List.not_mem_nil)
  apply hz [4] 60
  exact loop (s_q S) 0 0 S M rfl (by have := hR.1.2.1.2; omega) hR q_sm_rfl (fun M' h1 h2 => by rw [Nat.zero_add]; exact hK M' h1 h2)
abbrev pX7_takeBack : Q_P := fun av M K KX => ∃ (j p : Nat) (S : Nat → Int32), RC j M S ∧ p < s_n S ∧ av = [.inr (.inl (10, j, 0)), .inl (nI p)] ∧ ∀ M', RC j M' (s_gv S p).2 → q_sm j M M' → K (some (.inl (q_bi (0 < (s_gv S p).1)))) M'
theorem cX7_takeBack_ct {l : Launch} {b : Bool} (hl0 : l.stackTraces = false) : q_Ct l b 56 pX7_takeBack := by
  refine q_meth (by decide +kernel) hl0 TX7_takeBack kX7_takeBack ?_
  intro av M K KX hwf
  rintro ⟨j, p, S, hR, hp, rfl, hK⟩
  refine ⟨Nat.le_of_ble_eq_true rfl, fun Z hz hw => ?_⟩
  have wn := hR.1.1.2
  have hcn := hR.2.2.1.2 p hp
  have wb := (hR.1.2.2.2.2.2.1 p hp).2.1
  have eb : M.1 19 j (M.2.1 11 j 0 p) 2 = S (4 + 12 * p) := hcn.1.2.2.1
  have ea : M.1 19 j (M.2.1 11 j 0 p) 1 = S (2 + 12 * p) := hcn.1.2.1
  have eg : M.1 16 j 0 2 = S 209 := hR.2.2.2.2.1 2 (by omega)
  have et : M.1 10 j 0 0 = S 206 := hR.2.1.1
  have tail : ∀ (M1 : Q_M) (ls : List (Nat × Q_V)), RC j M1 (s_gb S p) → q_sm j M M1 → (0, .inr (.inl (10, j, 0))) ∈ ls → Z 0 56 ls [] M1 := by
    intro M1 ls h1 h2 hm
    refine hw [(0, .inr (.inl (10, j, 0)))] _ _ _ _ _ ?_ (fun q hq => ?_)
    · apply hz [] 60
      refine Exists.intro _ ⟨cX7_serve_ct hl0, j, s_gb S p, h1, rfl, fun M2 h3 h4 => ?_⟩
      have hK := hK M2 h3 (q_sm_tr h2 h4)
      have h20 := (s_wf_sv _ _ h1.1 rfl).2
      have hq := h1.1.2.1.2
      unfold s_gv at hK
      generalize (s_sv (s_q (s_gb S p)) (s_gb S p)).1 = n at hK h20 ⊢
      by_cases c : 0 < n
      · rw [q_bi_t c] at hK
        refine And.intro (fun (g : nI n ≤ nI 0) => absurd ((nI_leI (by omega) (by omega)).mp g) (by omega)) (fun _ => And.intro (Or.inr rfl) hK)
      · rw [q_bi_f c] at hK
        refine And.intro (fun _ => And.intro (Or.inl rfl) hK) (fun g => absurd (show nI n ≤ nI 0 from nI_le (by omega) (by omega)) g)
    · rcases List.mem_cons.mp hq with rfl | hq
      · exact hm
      · exact absurd hq (List.not_mem_nil)
  unfold s_gb at tail
  apply hz [56] 60
  refine Exists.intro p ⟨rfl, by omega, ?_⟩
  refine And.intro (fun (g : M.1 19 j (M.2.1 11 j 0 p) 2 = 0) => ?_) (fun (g : ¬ M.1 19 j (M.2.1 11 j 0 p) 2 = 0) => ?_)
  · rw [eb] at g
    rw [if_neg (show ¬ S (4 + 12 * p) = nI 1 from fun h => by rw [h] at g; exact q_n1 g)] at tail
    refine And.intro (fun (c : M.1 10 j 0 0 - M.1 19 j (M.2.1 11 j 0 p) 1 < M.1 16 j 0 2) => ?_) (fun (c : ¬ M.1 10 j 0 0 - M.1 19 j (M.2.1 11 j 0 p) 1 < M.1 16 j 0 2) => ?_)
    · rw [ea, eg, et] at c
      rw [if_neg (Int32.not_le.mpr c)] at tail
      refine Exists.intro _ ⟨cX7_becomeIdle_ct hl0, j, M.2.1 11 j 0 p, rfl, ?_⟩
      exact tail _ _ (RC_fr hR hp) d_fr_sm (List.mem_cons_of_mem _ List.mem_cons_self)
    · rw [ea, eg, et] at c
      rw [if_pos (Int32.not_lt.mp c)] at tail
      refine Exists.intro _ ⟨cX7_closeAt_ct hl0, j, p, 0, S, hR, hp, by decide, rfl, fun M1 h1 h2 => ?_⟩
      exact tail _ _ h1 h2 (List.mem_cons_of_mem _ List.mem_cons_self)
  · rw [eb] at g
    have g1 : S (4 + 12 * p) = nI 1 := by
      rcases wb with h | h
      · exact absurd (h.trans nI_0) g
      · exact h
    rw [if_pos g1] at tail
    refine Exists.intro _ ⟨cX7_closeAt_ct hl0, j, p, 2, S, hR, hp, by decide, rfl, fun M1 h1 h2 => ?_⟩
    exact tail _ _ h1 h2 (List.mem_cons_of_mem _ List.mem_cons_self)
