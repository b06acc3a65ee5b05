-- TICKS
theorem s_wf_206 {S S' : Nat → Int32} (w : s_wf S) (h : ∀ i, i ≤ 213 → i ≠ 206 → S' i = S i) : s_wf S' := by
  have w' := w
  obtain ⟨⟨w0, wn⟩, ⟨wq, wq2⟩, -, -, -, w1, -⟩ := w'
  obtain ⟨hm, hl, hb⟩ := s_set_of w (h 207 (by omega) (by omega)) (h 208 (by omega) (by omega)) (h 213 (by omega) (by omega))
  refine s_wf_map w (n := s_n S) (q := s_q S) ((h 0 (by omega) (by omega)).trans w0) wn ((h 145 (by omega) (by omega)).trans wq) wq2 hm hl hb id id (fun _ _ h => h) (fun _ _ h => h) (fun k hk => ?_) (fun k hk => ⟨hk, h _ (by omega) (by omega)⟩)
  rw [h (4 + 12 * k) (by omega) (by omega), h (8 + 12 * k) (by omega) (by omega)]
  exact ⟨Or.inr ⟨hk, h _ (by omega) (by omega)⟩, (w1 _ hk).2⟩
def s_lq (S : Nat → Int32) (k : Nat) : Nat → Int32 := upd (s_uq S k) 221 (s_uq S k 221 + nI 1)
theorem s_wf_lq {S : Nat → Int32} (w : s_wf S) {k : Nat} (hk : k < s_q S) : s_wf (s_lq S k) ∧ s_q (s_lq S k) = s_q S - 1 := by
  refine ⟨s_wf_hi (s_wf_uq w hk) (fun i hi => q_upd_ne (by omega)), ?_⟩
  have h := s_q_uq w.2.1 hk
  unfold s_q at h ⊢
  unfold s_lq
  rw [q_upd_ne (by omega)]
  exact h
def s_lp : Nat → Nat → (Nat → Int32) → (Nat → Int32)
  | 0, _, S => S
  | d + 1, k, S => if S 212 ≤ S 206 - S (148 + 3 * k) then s_lp d k (s_lq S k) else s_lp d (k + 1) S
theorem s_wf_lp : ∀ (d k : Nat) (S : Nat → Int32), s_wf S → k + d = s_q S → s_wf (s_lp d k S)
  | 0, k, S, w, _ => w
  | d + 1, k, S, w, h => by
    unfold s_lp
    split
    · obtain ⟨h1, h2⟩ := s_wf_lq w (k := k) (by omega)
      exact s_wf_lp d k _ h1 (by omega)
    · exact s_wf_lp d (k + 1) S w (by omega)
def s_ta : Nat → Nat → (Nat → Int32) → (Nat → Int32)
  | 0, _, S => S
  | d + 1, k, S => if ¬ S (3 + 12 * k) < 0 ∧ S 211 ≤ S 206 - S (5 + 12 * k) then s_ta d k (s_cl S k 3) else s_ta d (k + 1) S
theorem s_wf_ta : ∀ (d k : Nat) (S : Nat → Int32), s_wf S → k + d = s_n S → s_wf (s_ta d k S)
  | 0, k, S, w, _ => w
  | d + 1, k, S, w, h => by
    unfold s_ta
    split
    · exact s_wf_ta d k _ (s_wf_cl w (by omega) (by decide)) (by rw [s_n_cl w (by omega)]; omega)
    · exact s_wf_ta d (k + 1) S w (by omega)
def s_tb : Nat → Nat → (Nat → Int32) → (Nat → Int32)
  | 0, _, S => S
  | d + 1, k, S => if S (3 + 12 * k) < 0 ∧ S 209 ≤ S 206 - S (2 + 12 * k) then s_tb d k (s_cl S k 0) else s_tb d (k + 1) S
theorem s_wf_tb : ∀ (d k : Nat) (S : Nat → Int32), s_wf S → k + d = s_n S → s_wf (s_tb d k S)
  | 0, k, S, w, _ => w
  | d + 1, k, S, w, h => by
    unfold s_tb
    split
    · exact s_wf_tb d k _ (s_wf_cl w (by omega) (by decide)) (by rw [s_n_cl w (by omega)]; omega)
    · exact s_wf_tb d (k + 1) S w (by omega)
def s_tw (S : Nat → Int32) : Nat → Int32 := s_tb (s_n (s_ta (s_n S) 0 S)) 0 (s_ta (s_n S) 0 S)
theorem s_wf_tw {S : Nat → Int32} (w : s_wf S) : s_wf (s_tw S) := s_wf_tb _ 0 _ (s_wf_ta _ 0 _ w (by omega)) (by omega)
theorem s_cf_le {S : Nat → Int32} : ∀ k, s_cf S k ≤ k
  | 0 => Nat.le_refl _
  | k + 1 => by
    unfold s_cf
    have := s_cf_le (S := S) k
    split <;> omega
theorem s_fo_none {S : Nat → Int32} {last : Bool} : ∀ {k : Nat}, s_fo S last k = none → s_cf S k = 0
  | 0, _ => rfl
  | k + 1, h => by
    unfold s_fo at h
    split at h
    · cases h
    · rename_i hc
      unfold s_cf
      rw [s_fo_none h, if_neg (fun g => hc ⟨g, Or.inl h⟩)]
def s_cr : Nat → (Nat → Int32) → (Nat → Int32)
  | 0, S => S
  | f + 1, S => if s_l S < s_cf S (s_n S) then (match s_fo S false (s_n S) with
    | some p => if S 210 ≤ S 206 - S (5 + 12 * p) then s_cr f (s_cl S p 1) else S
    | none => S) else S
theorem s_wf_cr : ∀ (f : Nat) (S : Nat → Int32), s_wf S → s_wf (s_cr f S)
  | 0, S, w => w
  | f + 1, S, w => by
    unfold s_cr
    split
    · cases h : s_fo S false (s_n S) with
      | none => exact w
      | some p =>
        dsimp only
        split
        · exact s_wf_cr f _ (s_wf_cl w (s_fo_lt h) (by decide))
        · exact w
    · exact w
theorem s_wf_sv : ∀ (f : Nat) (S : Nat → Int32), s_wf S → s_q S = f → s_wf (s_sv f S).2 ∧ (s_sv f S).1 ≤ f
  | 0, S, w, _ => ⟨w, Nat.le_refl _⟩
  | f + 1, S, w, h => by
    unfold s_sv
    rw [if_neg (by omega)]
    rcases hle : s_le S (S 146) with ⟨_ | _, S'⟩
    · refine ⟨?_, Nat.zero_le _⟩
      have a := s_fl_eq S w
      unfold s_le at hle
      rcases hf : s_fl S with ⟨_ | p, S2⟩
      · rw [hf] at hle a
        cases hle
        exact a.1
      · rw [hf] at hle
        cases hle
    · obtain ⟨g1, g2, -⟩ := s_le_wf w (by omega) hle
      have ih := s_wf_sv f _ g1 (by omega)
      exact ⟨ih.1, Nat.succ_le_succ ih.2⟩
def s_ol : Nat → (Nat → Int32) → (Nat → Int32)
  | 0, S => S
  | f + 1, S => if s_cf S (s_n S) < s_l S ∧ s_n S < s_m S then s_ol f (s_op S) else S
theorem s_wf_ol : ∀ (f : Nat) (S : Nat → Int32), s_wf S → s_wf (s_ol f S)
  | 0, S, w => w
  | f + 1, S, w => by
    unfold s_ol
    split
    · rename_i h
      exact s_wf_ol f _ (s_wf_op w (by have := w.2.2.1.2; omega))
    · exact w
def s_t0 (S : Nat → Int32) : Nat → Int32 := upd S 206 (S 206 + nI 1)
def s_t3 (S : Nat → Int32) : Nat → Int32 :=
  s_cr (s_n (s_tw (s_lp (s_q (s_t0 S)) 0 (s_t0 S)))) (s_tw (s_lp (s_q (s_t0 S)) 0 (s_t0 S)))
def s_tk (S : Nat → Int32) : Nat × (Nat → Int32) := ((s_sv (s_q (s_t3 S)) (s_t3 S)).1, s_ol (12 - s_n (s_sv (s_q (s_t3 S)) (s_t3 S)).2) (s_sv (s_q (s_t3 S)) (s_t3 S)).2)
theorem s_wf_t0 {S : Nat → Int32} (w : s_wf S) : s_wf (s_t0 S) := s_wf_206 w (fun i _ h => q_upd_ne h)
theorem s_wf_t3 {S : Nat → Int32} (w : s_wf S) : s_wf (s_t3 S) := s_wf_cr _ _ (s_wf_tw (s_wf_lp _ 0 _ (s_wf_t0 w) (by omega)))
theorem s_wf_tk {S : Nat → Int32} (w : s_wf S) : s_wf (s_tk S).2 ∧ (s_tk S).1 ≤ 20 := by
  have h := s_wf_sv _ _ (s_wf_t3 w) rfl
  have h2 := (s_wf_t3 w).2.1.2
  unfold s_tk
  generalize s_sv (s_q (s_t3 S)) (s_t3 S) = r at h ⊢
  exact ⟨s_wf_ol _ _ h.1, Nat.le_trans h.2 h2⟩
def s_ps : Nat → (Nat → Int32) → Nat × (Nat → Int32)
  | 0, S => (0, S)
  | t + 1, S => ((s_tk S).1 + (s_ps t (s_tk S).2).1, (s_ps t (s_tk S).2).2)
