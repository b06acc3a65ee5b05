-- WAITING AND SERVING
theorem s_wf_hi {S S' : Nat → Int32} (w : s_wf S) (h : ∀ i, i ≤ 213 → S' i = S i) : s_wf S' := by
  have w' := w
  obtain ⟨⟨w0, wn⟩, ⟨wq, wq2⟩, -, -, -, w1, -⟩ := w'
  obtain ⟨hm, hl, hb⟩ := s_set_of w (h 207 (by omega)) (h 208 (by omega)) (h 213 (by omega))
  refine s_wf_map w (n := s_n S) (q := s_q S) ((h 0 (by omega)).trans w0) wn ((h 145 (by omega)).trans wq) wq2 hm hl hb id id (fun _ _ h => h) (fun _ _ h => h) (fun k hk => ?_) (fun k hk => ⟨hk, h _ (by omega)⟩)
  rw [h (4 + 12 * k) (by omega), h (8 + 12 * k) (by omega)]
  exact ⟨Or.inr ⟨hk, h _ (by omega)⟩, (w1 _ hk).2⟩
theorem s_lb_hi : ∀ (f : Nat) (S : Nat → Int32), s_wf S → ∀ i, 145 ≤ i → i < 215 → (s_lb f S).2 i = S i
  | 0, S, _, i, _, _ => rfl
  | f + 1, S, w, i, h1, h2 => by
    unfold s_lb
    cases h : s_nx S with
    | none => rfl
    | some p =>
      dsimp only
      have hp := s_nx_lt h
      by_cases hb : S (4 + 12 * p) = nI 1
      · rw [if_pos hb, s_lb_hi f _ (s_wf_cl w hp (by decide)) i h1 h2, s_cl_hi w.1.2 h1 (Or.inl h2) (by decide)]
      · rw [if_neg hb]
theorem s_lb_who : ∀ (f : Nat) (S : Nat → Int32), s_wf S → ∀ x, (∀ k, k < s_n S → S (3 + 12 * k) ≠ x) → ∀ k, k < s_n (s_lb f S).2 → (s_lb f S).2 (3 + 12 * k) ≠ x
  | 0, S, _, x, h, k, hk => h k hk
  | f + 1, S, w, x, h, k, hk => by
    unfold s_lb at hk ⊢
    cases hh : s_nx S with
    | none => rw [hh] at hk; exact h k hk
    | some p =>
      rw [hh] at hk
      dsimp only at hk ⊢
      have hp := s_nx_lt hh
      by_cases hb : S (4 + 12 * p) = nI 1
      · rw [if_pos hb] at hk ⊢
        refine s_lb_who f _ (s_wf_cl w hp (by decide)) x (fun k' hk' => ?_) k hk
        rw [s_n_cl w hp] at hk'
        rw [s_cl_lk hp w.1.2 hk' (by decide) (by decide)]
        exact h _ (s_ix_lt hk')
      · rw [if_neg hb] at hk ⊢
        exact h k hk
theorem s_fl_eq (S : Nat → Int32) (w : s_wf S) : s_wf (s_fl S).2 ∧ (∀ p, (s_fl S).1 = some p → p < s_n (s_fl S).2) ∧ (∀ i, 145 ≤ i → i ≤ 213 → (s_fl S).2 i = S i) ∧ (∀ x : Nat, x < 20 → (∀ k, k < s_n S → S (3 + 12 * k) ≠ nI x) → ∀ k, k < s_n (s_fl S).2 → (s_fl S).2 (3 + 12 * k) ≠ nI x) := by
  have h1 := s_wf_lb (s_n S) S w
  have h2 := s_lb_hi (s_n S) S w
  have h3 := s_lb_who (s_n S) S w
  unfold s_fl
  rcases hlb : s_lb (s_n S) S with ⟨_ | p, S'⟩
  · rw [hlb] at h1 h2 h3
    dsimp only at h1 h2 h3 ⊢
    by_cases c : S' 0 < S' 207
    · rw [if_pos c]
      have w' := h1.1
      have hlt : s_n S' < 12 := by
        rw [w'.1.1, w'.2.2.1.1, nI_ltI (by have := w'.1.2; omega) (by have := w'.2.2.1.2; omega)] at c
        have := w'.2.2.1.2
        omega
      refine ⟨s_wf_op w' hlt, fun p hp => ?_, fun i g1 g2 => ?_, fun x hx g k hk => ?_⟩
      · cases hp
        show s_n S' < s_n (s_op S')
        rw [s_n_op w'.1.1 hlt]
        omega
      · show s_op S' i = S i
        rw [s_op_ne (by omega) (by omega) (by omega) (by omega)]
        exact h2 i g1 (by omega)
      · have hk : k < s_n (s_op S') := hk
        rw [s_n_op w'.1.1 hlt] at hk
        show s_op S' (3 + 12 * k) ≠ nI x
        by_cases hkn : k = s_n S'
        · subst hkn
          rw [s_op_who hlt]
          exact q_m1n (by omega)
        · rw [s_op_ne (by omega) (by omega) (by omega) (by omega)]
          exact h3 _ g k (by omega)
    · rw [if_neg c]
      exact ⟨h1.1, fun p hp => (by cases hp), fun i g1 g2 => h2 i g1 (by omega), fun x _ g => h3 _ g⟩
  · rw [hlb] at h1 h2 h3
    exact ⟨h1.1, fun p' hp => (h1.2.1 (Nat.le_refl _) p' hp).1, fun i g1 g2 => h2 i g1 (by omega), fun x _ g => h3 _ g⟩
theorem s_uq_ne {S : Nat → Int32} {k i : Nat} (h : i < 145 ∨ 146 + 3 * (s_q S - 1) ≤ i ∧ i ≠ 145) : s_uq S k i = S i := by
  unfold s_uq
  rw [if_neg (by omega), if_neg (by omega)]
theorem s_uq_q {S : Nat → Int32} {k : Nat} (h : S 145 = nI (s_q S)) (hk : k < s_q S) : s_uq S k 145 = nI (s_q S - 1) := by
  unfold s_uq
  rw [if_pos rfl]
  exact (congrArg (fun z => z - nI 1) h).trans (pk_sub (by omega))
theorem s_uq_at {S : Nat → Int32} {k j f : Nat} (hj : j < s_q S - 1) (h1 : 146 ≤ f) (h2 : f < 149) : s_uq S k (f + 3 * j) = S (f + 3 * s_ix k j) := by
  unfold s_uq s_ix
  rw [if_neg (by omega)]
  by_cases h : k ≤ j
  · rw [if_pos (by omega), if_pos h]
    exact congrArg S (by omega)
  · rw [if_neg (by omega), if_neg h]
theorem s_q_uq {S : Nat → Int32} {k : Nat} (w : S 145 = nI (s_q S) ∧ s_q S ≤ 20) (hk : k < s_q S) : s_q (s_uq S k) = s_q S - 1 := s_of (s_uq_q w.1 hk) (by omega)
theorem s_n_uq {S : Nat → Int32} {k : Nat} : s_n (s_uq S k) = s_n S := by
  unfold s_n
  rw [s_uq_ne (by omega)]
theorem s_wf_uq {S : Nat → Int32} (w : s_wf S) {k : Nat} (hk : k < s_q S) : s_wf (s_uq S k) := by
  have w' := w
  obtain ⟨⟨w0, wn⟩, ⟨wq, wq2⟩, -, -, -, w1, -⟩ := w'
  obtain ⟨hm, hl, hb⟩ := s_set_of w (S' := s_uq S k) (s_uq_ne (by omega)) (s_uq_ne (by omega)) (s_uq_ne (by omega))
  refine s_wf_map w (n := s_n S) (q := s_q S - 1) ((s_uq_ne (by omega)).trans w0) wn (s_uq_q wq hk) (by omega) hm hl hb id (s_ix k) (fun _ _ h => h) (fun _ _ h => s_ix_ne h) (fun p hp => ?_) (fun j hj => ⟨s_ix_lt hj, s_uq_at hj (by omega) (by omega)⟩)
  rw [s_uq_ne (i := 4 + 12 * p) (by omega), s_uq_ne (i := 8 + 12 * p) (by omega)]
  exact ⟨Or.inr ⟨hp, s_uq_ne (by show 3 + 12 * p < 145 ∨ _; omega)⟩, (w1 _ hp).2⟩
/-- the first of the queue was lent to: it goes, and is counted -/
def s_s1 (S : Nat → Int32) : Nat → Int32 :=
  let S1 := upd (s_uq S 0) 223 (S 223 + (S 206 - S 148))
  upd S1 222 (S1 222 + nI 1)
def s_sv : Nat → (Nat → Int32) → Nat × (Nat → Int32)
  | 0, S => (0, S)
  | f + 1, S => if s_q S = 0 then (0, S) else match s_le S (S 146) with
    | (false, S') => (0, S')
    | (true, S') => ((s_sv f (s_s1 S')).1 + 1, (s_sv f (s_s1 S')).2)
theorem s_ld_uq {S : Nat → Int32} {p : Nat} {x : Int32} (hp : p < 12) (hq : s_q S ≤ 20) : s_uq (s_ld S p x) 0 = s_ld (s_uq S 0) p x := by
  have e : ∀ i, 145 ≤ i → i ≤ 210 → s_ld S p x i = S i := fun i h1 h2 => s_ld_ne (by omega) (by omega) (by omega) (by omega)
  have eq : s_q (s_ld S p x) = s_q S := by unfold s_q; rw [e 145 (by omega) (by omega)]
  have u : ∀ i, i < 145 ∨ 206 ≤ i → s_uq S 0 i = S i := fun i h => s_uq_ne (by omega)
  funext i
  by_cases h : 145 ≤ i ∧ i < 206
  · rw [s_ld_ne (S := s_uq S 0) (by omega) (by omega) (by omega) (by omega)]
    unfold s_uq
    rw [eq]
    by_cases i0 : i = 145
    · rw [if_pos i0, if_pos i0, e 145 (by omega) (by omega)]
    · rw [if_neg i0, if_neg i0]
      by_cases i1 : 146 + 3 * 0 ≤ i ∧ i < 146 + 3 * (s_q S - 1)
      · rw [if_pos i1, if_pos i1, e (i + 3) (by omega) (by omega)]
      · rw [if_neg i1, if_neg i1, e i (by omega) (by omega)]
  · rw [s_uq_ne (S := s_ld S p x) (by rw [eq]; omega)]
    unfold s_ld upd
    simp only [u 206 (by omega), u 220 (by omega), u (7 + 12 * p) (by omega), u i (by omega)]
theorem s_le_wf {S S' : Nat → Int32} (w : s_wf S) (hq : 0 < s_q S) (h : s_le S (S 146) = (true, S')) : s_wf (s_s1 S') ∧ s_q (s_s1 S') = s_q S - 1 ∧ S' 145 = nI (s_q S) := by
  obtain ⟨a1, a2, a3, a4⟩ := s_fl_eq S w
  unfold s_le at h
  rcases hf : s_fl S with ⟨_ | p, S2⟩
  · rw [hf] at h
    cases h
  · rw [hf] at h a1 a2 a3 a4
    have h : s_ld S2 p (S 146) = S' := by cases h; rfl
    subst h
    dsimp only at a1 a2 a3 a4
    have hp := a2 p rfl
    have w' := w
    obtain ⟨-, ⟨wq, wq2⟩, -, -, -, w1, w2, w3, w4, w5⟩ := w'
    obtain ⟨x, hx, ex⟩ := w2 0 hq
    have eq2 : s_q S2 = s_q S := by unfold s_q; rw [a3 145 (by omega) (by omega)]
    have hn2 := a1.1.2
    have wu := s_wf_uq a1 (k := 0) (by rw [eq2]; exact hq)
    have e0 : (146 + 3 * 0) = 146 := rfl
    rw [e0] at ex
    have nol : ∀ k, k < s_n S2 → S2 (3 + 12 * k) ≠ nI x := a4 x hx (fun k hk => by rw [← ex]; exact w5 k 0 hk hq)
    have wl : s_wf (s_ld (s_uq S2 0) p (nI x)) := by
      refine s_wf_ld wu (by rw [s_n_uq]; exact hp) hx (fun k hk => ?_) (fun k hk => ?_)
      · rw [s_n_uq] at hk
        rw [s_uq_ne (by omega)]
        exact nol k hk
      · rw [s_q_uq a1.2.1 (by rw [eq2]; exact hq), eq2] at hk
        rw [s_uq_at (by rw [eq2]; exact hk) (by omega) (by omega), show s_ix 0 k = k + 1 from if_pos (Nat.zero_le k), a3 _ (by omega) (by omega), ← ex]
        exact fun g => w4 (k + 1) 0 (by omega) hq (by omega) g
    rw [ex]
    have qe : s_ld S2 p (nI x) 145 = nI (s_q S) := by
      rw [s_ld_ne (by omega) (by omega) (by omega) (by omega), a3 145 (by omega) (by omega)]
      exact wq
    have es : ∀ i, i ≤ 213 → s_s1 (s_ld S2 p (nI x)) i = s_ld (s_uq S2 0) p (nI x) i := by
      intro i hi
      unfold s_s1
      rw [q_upd_ne (by omega), q_upd_ne (by omega), s_ld_uq (by omega) (by rw [eq2]; exact wq2)]
    refine ⟨s_wf_hi wl es, ?_, qe⟩
    unfold s_q
    rw [es 145 (by omega), s_ld_ne (by omega) (by omega) (by omega) (by omega)]
    have := s_uq_q (k := 0) a1.2.1.1 (by rw [eq2]; exact hq)
    rw [this, nI_clamp (by omega), eq2]
    rfl
