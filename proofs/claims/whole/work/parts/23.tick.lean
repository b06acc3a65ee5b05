-- TICKS
theorem s_wf_206 {S S' : Nat → Int32} (w : s_wf S) (h : ∀ i, i ≤ 213 → i ≠ 206 → S' i = S i) : s_wf S' := by
  have w' := w
  obtain ⟨⟨w0, wn⟩, ⟨wq, wq2⟩, -, -, -, w1, -⟩ := w'
  obtain ⟨hm, hl, hb⟩ := s_set_of w (h 207 (by omega) (by omega)) (h 208 (by omega) (by omega)) (h 213 (by omega) (by omega))
  refine s_wf_map w (n := s_n S) (q := s_q S) ((h 0 (by omega) (by omega)).trans w0) wn ((h 145 (by omega) (by omega)).trans wq) wq2 hm hl hb id id (fun _ _ h => h) (fun _ _ h => h) (fun k hk => ?_) (fun k hk => ⟨hk, h _ (by omega) (by omega)⟩)
  rw [h (4 + 12 * k) (by omega) (by omega), h (8 + 12 * k) (by omega) (by omega)]
  exact ⟨Or.inr ⟨hk, h _ (by omega) (by omega)⟩, (w1 _ hk).2⟩
def s_lq (S : Nat → Int32) (k : Nat) : Nat → Int32 := upd (s_uq S k) 221 (s_uq S k 221 + nI 1)
theorem s_wf_lq {S : Nat → Int32} (w : s_wf S) {k : Nat} (hk : k < s_q S) : s_wf (s_lq S k) ∧ s_q (s_lq S k) = s_q S - 1 := by
  refine ⟨s_wf_hi (s_wf_uq w hk) (fun i hi => q_upd_ne (by omega)), ?_⟩
  have h := s_q_uq w.2.1 hk
  unfold s_q at h ⊢
  unfold s_lq
  rw [q_upd_ne (by omega)]
  exact h
def s_lp : Nat → Nat → (Nat → Int32) → (Nat → Int32)
  | 0, _, S => S
  | d + 1, k, S => if S 212 ≤ S 206 - S (148 + 3 * k) then s_lp d k (s_lq S k) else s_lp d (k + 1) S
theorem s_wf_lp : ∀ (d k : Nat) (S : Nat → Int32), s_wf S → k + d = s_q S → s_wf (s_lp d k S)
  | 0, k, S, w, _ => w
  | d + 1, k, S, w, h => by
    unfold s_lp
    split
    · obtain ⟨h1, h2⟩ := s_wf_lq w (k := k) (by omega)
      exact s_wf_lp d k _ h1 (by omega)
    · exact s_wf_lp d (k + 1) S w (by omega)
def s_ta : Nat → Nat → (Nat → Int32) → (Nat → Int32)
  | 0, _, S => S
  | d + 1, k, S => if ¬ S (3 + 12 * k) < 0 ∧ S 211 ≤ S 206 - S (5 + 12 * k) then s_ta d k (s_cl S k 3) else s_ta d (k + 1) S
theorem s_wf_ta : ∀ (d k : Nat) (S : Nat → Int32), s_wf S → k + d = s_n S → s_wf (s_ta d k S)
  | 0, k, S, w, _ => w
  | d + 1, k, S, w, h => by
    unfold s_ta
    split
    · exact s_wf_ta d k _ (s_wf_cl w (by omega) (by decide)) (by rw [s_n_cl w (by omega)]; omega)
    · exact s_wf_ta d (k + 1) S w (by omega)
def s_tb : Nat → Nat → (Nat → Int32) → (Nat → Int32)
  | 0, _, S => S
  | d + 1, k, S => if S (3 + 12 * k) < 0 ∧ S 209 ≤ S 206 - S (2 + 12 * k) then s_tb d k (s_cl S k 0) else s_tb d (k + 1) S
theorem s_wf_tb : ∀ (d k : Nat) (S : Nat → Int32), s_wf S → k + d = s_n S → s_wf (s_tb d k S)
  | 0, k, S, w, _ => w
  | d + 1, k, S, w, h => by
    unfold s_tb
    split
    · exact s_wf_tb d k _ (s_wf_cl w (by omega) (by decide)) (by rw [s_n_cl w (by omega)]; omega)
    · exact s_wf_tb d (k + 1) S w (by omega)
def s_tw (S : Nat → Int32) : Nat → Int32 := s_tb (s_n (s_ta (s_n S) 0 S)) 0 (s_ta (s_n S) 0 S)
theorem s_wf_tw {S : Nat → Int32} (w : s_wf S) : s_wf (s_tw S) := s_wf_tb _ 0 _ (s_wf_ta _ 0 _ w (by omega)) (by omega)
theorem s_cf_le {S : Nat → Int32} : ∀ k, s_cf S k ≤ k
  | 0 => Nat.le_refl _
  | k + 1 => by
    unfold s_cf
    have := s_cf_le (S := S) k
    split <;> omega
theorem s_fo_none {S : Nat → Int32} {last : Bool} : ∀ {k : Nat}, s_fo S last k = none → s_cf S k = 0
  | 0, _ => rfl
  | k + 1, h => by
    unfold s_fo at h
    split at h
    · cases h
    · rename_i hc
      unfold s_cf
      rw [s_fo_none h, if_neg (fun g => hc ⟨g, Or.inl h⟩)]
def s_cr : Nat → (Nat → Int32) → (Nat → Int32)
  | 0, S => S
  | f + 1, S => if s_l S < s_cf S (s_n S) then (match s_fo S false (s_n S) with
    | some p => if S 210 ≤ S 206 - S (5 + 12 * p) then s_cr f (s_cl S p 1) else S
    | none => S) else S
theorem s_wf_cr : ∀ (f : Nat) (S : Nat → Int32), s_wf S → s_wf (s_cr f S)
  | 0, S, w => w
  | f + 1, S, w => by
    unfold s_cr
    split
    · cases h : s_fo S false (s_n S) with
      | none => exact w
      | some p =>
        dsimp only
        split
        · exact s_wf_cr f _ (s_wf_cl w (s_fo_lt h) (by decide))
        · exact w
    · exact w
theorem s_wf_sv : ∀ (f : Nat) (S : Nat → Int32), s_wf S → s_q S = f → s_wf (s_sv f S).2 ∧ (s_sv f S).1 ≤ f
  | 0, S, w, _ => ⟨w, Nat.le_refl _⟩
  | f + 1, S, w, h => by
    unfold s_sv
    rw [if_neg (by omega)]
    rcases hle : s_le S (S 146) with ⟨_ | _, S'⟩
    · refine ⟨?_, Nat.zero_le _⟩
      have a := s_fl_eq S w
      unfold s_le at hle
      rcases hf : s_fl S with ⟨_ | p, S2⟩
      · rw [hf] at hle a
        cases hle
        exact a.1
      · rw [hf] at hle
        cases hle
    · obtain ⟨g1, g2, -⟩ := s_le_wf w (by omega) hle
      have ih := s_wf_sv f _ g1 (by omega)
      exact ⟨ih.1, Nat.succ_le_succ ih.2⟩
def s_ol : Nat → (Nat → Int32) → (Nat → Int32)
  | 0, S => S
  | f + 1, S => if s_cf S (s_n S) < s_l S ∧ s_n S < s_m S then s_ol f (s_op S) else S
theorem s_wf_ol : ∀ (f : Nat) (S : Nat → Int32), s_wf S → s_wf (s_ol f S)
  | 0, S, w => w
  | f + 1, S, w => by
    unfold s_ol
    split
    · rename_i h
      exact s_wf_ol f _ (s_wf_op w (by have := w.2.2.1.2; omega))
    · exact w
def s_t0 (S : Nat → Int32) : Nat → Int32 := upd S 206 (S 206 + nI 1)
def s_t3 (S : Nat → Int32) : Nat → Int32 :=
  s_cr (s_n (s_tw (s_lp (s_q (s_t0 S)) 0 (s_t0 S)))) (s_tw (s_lp (s_q (s_t0 S)) 0 (s_t0 S)))
def s_tk (S : Nat → Int32) : Nat × (Nat → Int32) := ((s_sv (s_q (s_t3 S)) (s_t3 S)).1, s_ol (12 - s_n (s_sv (s_q (s_t3 S)) (s_t3 S)).2) (s_sv (s_q (s_t3 S)) (s_t3 S)).2)
theorem s_wf_t0 {S : Nat → Int32} (w : s_wf S) : s_wf (s_t0 S) := s_wf_206 w (fun i _ h => q_upd_ne h)
theorem s_wf_t3 {S : Nat → Int32} (w : s_wf S) : s_wf (s_t3 S) := s_wf_cr _ _ (s_wf_tw (s_wf_lp _ 0 _ (s_wf_t0 w) (by omega)))
theorem s_wf_tk {S : Nat → Int32} (w : s_wf S) : s_wf (s_tk S).2 ∧ (s_tk S).1 ≤ 20 := by
  have h := s_wf_sv _ _ (s_wf_t3 w) rfl
  have h2 := (s_wf_t3 w).2.1.2
  unfold s_tk
  generalize s_sv (s_q (s_t3 S)) (s_t3 S) = r at h ⊢
  exact ⟨s_wf_ol _ _ h.1, Nat.le_trans h.2 h2⟩
def s_ps : Nat → (Nat → Int32) → Nat × (Nat → Int32)
  | 0, S => (0, S)
  | t + 1, S => ((s_tk S).1 + (s_ps t (s_tk S).2).1, (s_ps t (s_tk S).2).2)
theorem s_wf_ps : ∀ (t : Nat) (S : Nat → Int32), s_wf S → s_wf (s_ps t S).2 ∧ (s_ps t S).1 ≤ 20 * t
  | 0, S, w => ⟨w, Nat.le_refl _⟩
  | t + 1, S, w => by
    have h := s_wf_tk w
    have ih := s_wf_ps t _ h.1
    exact ⟨ih.1, by show (s_tk S).1 + (s_ps t (s_tk S).2).1 ≤ _; omega⟩
abbrev pX9_losesPatience : Q_P := fun av M K KX => s_wf (M.1 22 0 0) ∧ av = [.inr (.inl (21, 0, 0))] ∧ K none (q_sa M (22, 0, 0) (s_lp (s_q (M.1 22 0 0)) 0 (M.1 22 0 0)))
theorem cX9_losesPatience_ct {l : Launch} {b : Bool} (hl0 : l.stackTraces = false) : q_Ct l b 175 pX9_losesPatience := by
  refine q_meth (by decide +kernel) hl0 TX9_losesPatience kX9_losesPatience ?_
  intro av M K KX hwf
  rintro ⟨w, rfl, hK⟩
  refine ⟨Nat.le_of_ble_eq_true rfl, fun Z hz hw => ?_⟩
  have loop : ∀ (d k : Nat) (S : Nat → Int32), s_wf S → k + d = s_q S → K none (q_sa M (22, 0, 0) (s_lp d k S)) → Z 0 2 [(1, .inl (nI k)), (0, .inr (.inl (21, 0, 0)))] [] (q_sa M (22, 0, 0) S) := by
    intro d
    induction d with
    | zero =>
      intro k S w hk hK
      apply hz [2] 60
      refine Exists.intro 145 ⟨rfl, by decide, ?_⟩
      refine And.intro (fun _ => hK) (fun g => absurd (show S 145 ≤ nI k by rw [w.2.1.1]; exact nI_le (by omega) (by have := w.2.1.2; omega)) g)
    | succ d ih =>
      intro k S w hk hK
      have wq := w.2.1.2
      unfold s_lp at hK
      apply hz [2] 60
      refine Exists.intro 145 ⟨rfl, by decide, ?_⟩
      refine And.intro (fun (g : S 145 ≤ nI k) => ?_) (fun (g : ¬ S 145 ≤ nI k) => ?_)
      · rw [w.2.1.1, q_ge_n (by omega) (by omega)] at g
        omega
      · refine Exists.intro _ ⟨cX9_waitsAt_ct hl0, k, by omega, rfl, ?_⟩
        refine Exists.intro 212 ⟨rfl, by decide, ?_⟩
        refine And.intro (fun (c : S 206 - S (148 + 3 * k) < S 212) => ?_) (fun (c : ¬ S 206 - S (148 + 3 * k) < S 212) => ?_)
        · rw [if_neg (Int32.not_le.mpr c)] at hK
          have h := ih (k + 1) S w (by omega) hK
          rw [← nI_add k 1] at h
          exact h
        · rw [if_pos (Int32.not_lt.mp c)] at hK
          obtain ⟨g1, g2⟩ := s_wf_lq w (k := k) (by omega)
          refine Exists.intro _ ⟨cX9_unqueues_ct hl0, s_q S, k, wq, by omega, w.2.1.1, rfl, ?_⟩
          refine Exists.intro 221 ⟨rfl, by decide, ?_⟩
          refine Exists.intro 221 ⟨rfl, by decide, ?_⟩
          have h := ih k (s_lq S k) g1 (by omega) hK
          rw [q_si22, q_sa_sa, q_sa_sa]
          exact h
  apply hz [2] 60
  have h := loop (s_q (M.1 22 0 0)) 0 (M.1 22 0 0) w (by omega) hK
  rw [q_e22] at h
  exact h
abbrev pX9_takesAway : Q_P := fun av M K KX => s_wf (M.1 22 0 0) ∧ av = [.inr (.inl (21, 0, 0))] ∧ K none (q_sa M (22, 0, 0) (s_tw (M.1 22 0 0)))
theorem cX9_takesAway_ct {l : Launch} {b : Bool} (hl0 : l.stackTraces = false) : q_Ct l b 176 pX9_takesAway := by
  refine q_meth (by decide +kernel) hl0 TX9_takesAway kX9_takesAway ?_
  intro av M K KX hwf
  rintro ⟨w, rfl, hK⟩
  refine ⟨Nat.le_of_ble_eq_true rfl, fun Z hz hw => ?_⟩
  have loop2 : ∀ (d k : Nat) (S : Nat → Int32), s_wf S → k + d = s_n S → K none (q_sa M (22, 0, 0) (s_tb d k S)) → Z 0 68 [(1, .inl (nI k)), (0, .inr (.inl (21, 0, 0)))] [] (q_sa M (22, 0, 0) S) := by
    intro d
    induction d with
    | zero =>
      intro k S w hk hK
      apply hz [68] 60
      refine Exists.intro 0 ⟨rfl, by decide, ?_⟩
      refine And.intro (fun _ => hK) (fun g => absurd (show S 0 ≤ nI k by rw [w.1.1]; exact nI_le (by omega) (by have := w.1.2; omega)) g)
    | succ d ih =>
      intro k S w hk hK
      have wn := w.1.2
      unfold s_tb at hK
      apply hz [68] 60
      refine Exists.intro 0 ⟨rfl, by decide, ?_⟩
      refine And.intro (fun (g : S 0 ≤ nI k) => ?_) (fun (g : ¬ S 0 ≤ nI k) => ?_)
      · rw [w.1.1, q_ge_n (by omega) (by omega)] at g
        omega
      · refine Exists.intro _ ⟨cX9_isFree_ct hl0, k, by omega, rfl, ?_⟩
        refine And.intro (fun c => ?_) (fun c => ?_)
        · have c := q_bi_0.mp c
          rw [if_neg (fun g => c g.1)] at hK
          have h := ih (k + 1) S w (by omega) hK
          rw [← nI_add k 1] at h
          exact h
        · have c : S (3 + 12 * k) < 0 := Classical.not_not.mp (fun g => c (q_bi_0.mpr g))
          refine Exists.intro _ ⟨cX9_agesAt_ct hl0, k, by omega, rfl, ?_⟩
          refine Exists.intro 209 ⟨rfl, by decide, ?_⟩
          refine And.intro (fun (c2 : S 206 - S (2 + 12 * k) < S 209) => ?_) (fun (c2 : ¬ S 206 - S (2 + 12 * k) < S 209) => ?_)
          · rw [if_neg (fun g => absurd g.2 (Int32.not_le.mpr c2))] at hK
            have h := ih (k + 1) S w (by omega) hK
            rw [← nI_add k 1] at h
            exact h
          · rw [if_pos ⟨c, Int32.not_lt.mp c2⟩] at hK
            refine Exists.intro _ ⟨cX9_closes_ct hl0, s_n S, k, 0, wn, by omega, by decide, w.1.1, rfl, ?_⟩
            have h := ih k (s_cl S k 0) (s_wf_cl w (by omega) (by decide)) (by rw [s_n_cl w (by omega)]; omega) hK
            rw [q_sa_sa]
            exact h
  have loop1 : ∀ (d k : Nat) (S : Nat → Int32), s_wf S → k + d = s_n S → K none (q_sa M (22, 0, 0) (s_tb (s_n (s_ta d k S)) 0 (s_ta d k S))) → Z 0 2 [(1, .inl (nI k)), (0, .inr (.inl (21, 0, 0)))] [] (q_sa M (22, 0, 0) S) := by
    intro d
    induction d with
    | zero =>
      intro k S w hk hK
      apply hz [2, 68] 60
      refine Exists.intro 0 ⟨rfl, by decide, ?_⟩
      refine And.intro (fun _ => loop2 (s_n S) 0 S w (by omega) hK) (fun g => absurd (show S 0 ≤ nI k by rw [w.1.1]; exact nI_le (by omega) (by have := w.1.2; omega)) g)
    | succ d ih =>
      intro k S w hk hK
      have wn := w.1.2
      unfold s_ta at hK
      apply hz [2, 68] 60
      refine Exists.intro 0 ⟨rfl, by decide, ?_⟩
      refine And.intro (fun (g : S 0 ≤ nI k) => ?_) (fun (g : ¬ S 0 ≤ nI k) => ?_)
      · rw [w.1.1, q_ge_n (by omega) (by omega)] at g
        omega
      · refine Exists.intro _ ⟨cX9_isFree_ct hl0, k, by omega, rfl, ?_⟩
        refine And.intro (fun c => ?_) (fun c => ?_)
        · have c := q_bi_0.mp c
          refine Exists.intro 206 ⟨rfl, by decide, ?_⟩
          refine Exists.intro _ ⟨cX9_link_ct hl0, k, rfl, ?_⟩
          refine Exists.intro (5 + 12 * k) ⟨(nI_add _ 4).trans (congrArg nI (by omega)), by omega, ?_⟩
          refine Exists.intro 211 ⟨rfl, by decide, ?_⟩
          refine And.intro (fun (c2 : S 206 - S (5 + 12 * k) < S 211) => ?_) (fun (c2 : ¬ S 206 - S (5 + 12 * k) < S 211) => ?_)
          · rw [if_neg (fun g => absurd g.2 (Int32.not_le.mpr c2))] at hK
            have h := ih (k + 1) S w (by omega) hK
            rw [← nI_add k 1] at h
            exact h
          · rw [if_pos ⟨c, Int32.not_lt.mp c2⟩] at hK
            refine Exists.intro _ ⟨cX9_closes_ct hl0, s_n S, k, 3, wn, by omega, by decide, w.1.1, rfl, ?_⟩
            have h := ih k (s_cl S k 3) (s_wf_cl w (by omega) (by decide)) (by rw [s_n_cl w (by omega)]; omega) hK
            rw [q_sa_sa]
            exact h
        · have c : S (3 + 12 * k) < 0 := Classical.not_not.mp (fun g => c (q_bi_0.mpr g))
          rw [if_neg (fun g => g.1 c)] at hK
          have h := ih (k + 1) S w (by omega) hK
          rw [← nI_add k 1] at h
          exact h
  apply hz [2] 60
  have h := loop1 (s_n (M.1 22 0 0)) 0 (M.1 22 0 0) w (by omega) hK
  rw [q_e22] at h
  exact h
abbrev pX9_closesRested : Q_P := fun av M K KX => s_wf (M.1 22 0 0) ∧ av = [.inr (.inl (21, 0, 0))] ∧ K none (q_sa M (22, 0, 0) (s_cr (s_n (M.1 22 0 0)) (M.1 22 0 0)))
theorem cX9_closesRested_ct {l : Launch} {b : Bool} (hl0 : l.stackTraces = false) : q_Ct l b 177 pX9_closesRested := by
  refine q_meth (by decide +kernel) hl0 TX9_closesRested kX9_closesRested ?_
  intro av M K KX hwf
  rintro ⟨w, rfl, hK⟩
  refine ⟨Nat.le_of_ble_eq_true rfl, fun Z hz hw => ?_⟩
  have loop : ∀ (f : Nat) (S : Nat → Int32), s_wf S → s_n S = f → K none (q_sa M (22, 0, 0) (s_cr f S)) → Z 0 2 [(1, .inl (nI 1)), (0, .inr (.inl (21, 0, 0)))] [] (q_sa M (22, 0, 0) S) := by
    intro f
    induction f with
    | zero =>
      intro S w hf hK
      apply hz [2] 100
      refine And.intro (fun g => absurd g (show ¬ nI 1 = 0 by decide)) (fun _ => ?_)
      refine Exists.intro _ ⟨cX9_countFree_ct hl0, s_n S, w.1.2, w.1.1, rfl, ?_⟩
      refine Exists.intro 208 ⟨rfl, by decide, ?_⟩
      refine And.intro (fun _ => hK) (fun g => absurd (show nI (s_cf S (s_n S)) ≤ S 208 by rw [w.2.2.2.1.1, hf]; exact nI_le (Nat.zero_le _) (by have := w.2.2.2.1.2; omega)) g)
    | succ f ih =>
      intro S w hf hK
      have wn := w.1.2
      have wl := w.2.2.2.1
      have hcf := s_cf_le (S := S) (s_n S)
      unfold s_cr at hK
      apply hz [2] 100
      refine And.intro (fun g => absurd g (show ¬ nI 1 = 0 by decide)) (fun _ => ?_)
      refine Exists.intro _ ⟨cX9_countFree_ct hl0, s_n S, w.1.2, w.1.1, rfl, ?_⟩
      refine Exists.intro 208 ⟨rfl, by decide, ?_⟩
      refine And.intro (fun (g : nI (s_cf S (s_n S)) ≤ S 208) => ?_) (fun (g : ¬ nI (s_cf S (s_n S)) ≤ S 208) => ?_)
      · rw [wl.1, nI_leI (by omega) (by omega)] at g
        rw [if_neg (by omega)] at hK
        exact hK
      · rw [wl.1, nI_leI (by omega) (by omega)] at g
        rw [if_pos (by omega)] at hK
        refine Exists.intro _ ⟨cX9_freeOne_ct hl0, s_n S, false, wn, w.1.1, rfl, ?_⟩
        cases hfo : s_fo S false (s_n S) with
        | none =>
          have := s_fo_none hfo
          omega
        | some p =>
          have hp := s_fo_lt hfo
          rw [hfo] at hK
          rw [show s_fo ((q_sa M (22, 0, 0) S).1 22 0 0) false (s_n S) = some p from hfo]
          refine Exists.intro 206 ⟨rfl, by decide, ?_⟩
          refine Exists.intro _ ⟨cX9_link_ct hl0, p, rfl, ?_⟩
          refine Exists.intro (5 + 12 * p) ⟨(nI_add _ 4).trans (congrArg nI (by omega)), by omega, ?_⟩
          refine Exists.intro 210 ⟨rfl, by decide, ?_⟩
          dsimp only at hK
          refine And.intro (fun (c : S 206 - S (5 + 12 * p) < S 210) => ?_) (fun (c : ¬ S 206 - S (5 + 12 * p) < S 210) => ?_)
          · rw [if_neg (Int32.not_le.mpr c)] at hK
            refine And.intro (fun _ => ?_) (fun g => absurd (show nI 0 = 0 by decide) g)
            refine hw [(1, .inl (nI 0)), (0, .inr (.inl (21, 0, 0)))] _ _ _ _ _ ?_ ?_
            · apply hz [] 60
              exact And.intro (fun _ => hK) (fun g => absurd (show nI 0 = 0 by decide) g)
            · intro q hq
              rcases List.mem_cons.mp hq with rfl | hq
              · exact List.mem_cons_self
              · exact List.mem_cons_of_mem _ (List.mem_cons_of_mem _ hq)
          · rw [if_pos (Int32.not_lt.mp c)] at hK
            refine And.intro (fun g => absurd g (show ¬ nI 1 = 0 by decide)) (fun _ => ?_)
            refine Exists.intro _ ⟨cX9_closes_ct hl0, s_n S, p, 1, wn, hp, by decide, w.1.1, rfl, ?_⟩
            have h := ih (s_cl S p 1) (s_wf_cl w hp (by decide)) (by rw [s_n_cl w hp]; omega) hK
            rw [q_sa_sa]
            refine hw _ _ _ _ _ _ h ?_
            intro q hq
            rcases List.mem_cons.mp hq with rfl | hq
            · exact List.mem_cons_self
            · exact List.mem_cons_of_mem _ (List.mem_cons_of_mem _ hq)
  apply hz [2] 60
  have h := loop (s_n (M.1 22 0 0)) (M.1 22 0 0) w rfl hK
  rw [q_e22] at h
  exact h
abbrev pX9_ticks : Q_P := fun av M K KX => s_wf (M.1 22 0 0) ∧ av = [.inr (.inl (21, 0, 0))] ∧ K (some (.inl (nI (s_tk (M.1 22 0 0)).1))) (q_sa M (22, 0, 0) (s_tk (M.1 22 0 0)).2)
theorem cX9_ticks_ct {l : Launch} {b : Bool} (hl0 : l.stackTraces = false) : q_Ct l b 178 pX9_ticks := by
  refine q_meth (by decide +kernel) hl0 TX9_ticks kX9_ticks ?_
  intro av M K KX hwf
  rintro ⟨w, rfl, hK⟩
  refine ⟨Nat.le_of_ble_eq_true rfl, fun Z hz hw => ?_⟩
  obtain ⟨S, hS⟩ : ∃ S, S = M.1 22 0 0 := ⟨_, rfl⟩
  rw [← hS] at w hK
  unfold s_tk s_t3 at hK
  generalize h0 : s_t0 S = S0 at hK
  generalize h1 : s_lp (s_q S0) 0 S0 = S1 at hK
  generalize h2 : s_tw S1 = S2 at hK
  generalize h3 : s_cr (s_n S2) S2 = S3 at hK
  generalize h4 : s_sv (s_q S3) S3 = r at hK
  have w0 : s_wf S0 := by rw [← h0]; exact s_wf_t0 w
  have w1 : s_wf S1 := by rw [← h1]; exact s_wf_lp (s_q S0) 0 S0 w0 (Nat.zero_add _)
  have w2 : s_wf S2 := by rw [← h2]; exact s_wf_tw w1
  have w3 : s_wf S3 := by rw [← h3]; exact s_wf_cr _ _ w2
  have w4 : s_wf r.2 := by rw [← h4]; exact (s_wf_sv _ _ w3 rfl).1
  obtain ⟨c, S4⟩ := r
  have loop : ∀ (f : Nat) (S : Nat → Int32), s_wf S → 12 - s_n S = f → K (some (.inl (nI c))) (q_sa M (22, 0, 0) (s_ol f S)) → Z 0 29 [(1, .inl (nI c)), (0, .inr (.inl (21, 0, 0)))] [] (q_sa M (22, 0, 0) S) := by
    intro f
    induction f with
    | zero =>
      intro S w hf hK
      have wn := w.1.2
      have wm := w.2.2.1
      apply hz [29] 100
      refine Exists.intro _ ⟨cX9_countFree_ct hl0, s_n S, w.1.2, w.1.1, rfl, ?_⟩
      refine Exists.intro 208 ⟨rfl, by decide, ?_⟩
      refine And.intro (fun _ => hK) (fun _ => ?_)
      refine Exists.intro 0 ⟨rfl, by decide, ?_⟩
      refine Exists.intro 207 ⟨rfl, by decide, ?_⟩
      refine And.intro (fun _ => hK) (fun g => absurd (show S 207 ≤ S 0 by rw [wm.1, w.1.1]; exact nI_le (by omega) (by omega)) g)
    | succ f ih =>
      intro S w hf hK
      have wn := w.1.2
      have wm := w.2.2.1
      have wl := w.2.2.2.1
      have hcf := s_cf_le (S := S) (s_n S)
      unfold s_ol at hK
      apply hz [29] 100
      refine Exists.intro _ ⟨cX9_countFree_ct hl0, s_n S, w.1.2, w.1.1, rfl, ?_⟩
      refine Exists.intro 208 ⟨rfl, by decide, ?_⟩
      refine And.intro (fun (g : S 208 ≤ nI (s_cf S (s_n S))) => ?_) (fun (g : ¬ S 208 ≤ nI (s_cf S (s_n S))) => ?_)
      · rw [wl.1, nI_leI (by omega) (by omega)] at g
        rw [if_neg (by omega)] at hK
        exact hK
      · rw [wl.1, nI_leI (by omega) (by omega)] at g
        refine Exists.intro 0 ⟨rfl, by decide, ?_⟩
        refine Exists.intro 207 ⟨rfl, by decide, ?_⟩
        refine And.intro (fun (g2 : S 207 ≤ S 0) => ?_) (fun (g2 : ¬ S 207 ≤ S 0) => ?_)
        · rw [wm.1, w.1.1, nI_leI (by omega) (by omega)] at g2
          rw [if_neg (by omega)] at hK
          exact hK
        · rw [wm.1, w.1.1, nI_leI (by omega) (by omega)] at g2
          rw [if_pos (by omega)] at hK
          refine Exists.intro _ ⟨cX9_opens_ct hl0, s_n S, by omega, w.1.1, rfl, ?_⟩
          have h := ih (s_op S) (s_wf_op w (by omega)) (by rw [s_n_op w.1.1 (by omega)]; omega) hK
          rw [q_sa_sa]
          exact h
  apply hz [29] 100
  refine Exists.intro 206 ⟨rfl, by decide, ?_⟩
  refine Exists.intro 206 ⟨rfl, by decide, ?_⟩
  have e0 : q_si M (22, 0, 0) 206 (M.1 22 0 0 206 + q_i 1) = q_sa M (22, 0, 0) S0 := by
    rw [q_si22, ← h0, hS]
    rfl
  refine Exists.intro _ ⟨cX9_losesPatience_ct hl0, ?_⟩
  show pX9_losesPatience _ (q_si M (22, 0, 0) 206 (M.1 22 0 0 206 + q_i 1)) _ _
  rw [e0]
  refine ⟨w0, rfl, ?_⟩
  rw [q_r22, h1, q_sa_sa]
  refine Exists.intro _ ⟨cX9_takesAway_ct hl0, w1, rfl, ?_⟩
  rw [q_r22, h2, q_sa_sa]
  refine Exists.intro _ ⟨cX9_closesRested_ct hl0, w2, rfl, ?_⟩
  rw [q_r22, h3, q_sa_sa]
  refine Exists.intro _ ⟨cX9_serves_ct hl0, w3, rfl, ?_⟩
  rw [q_r22, h4, q_sa_sa]
  exact loop _ S4 w4 rfl hK
abbrev pX9_passes : Q_P := fun av M K KX => ∃ t : Nat, t ≤ 1000 ∧ s_wf (M.1 22 0 0) ∧ av = [.inr (.inl (21, 0, 0)), .inl (nI t)] ∧ K (some (.inl (nI (s_ps t (M.1 22 0 0)).1))) (q_sa M (22, 0, 0) (s_ps t (M.1 22 0 0)).2)
theorem cX9_passes_ct {l : Launch} {b : Bool} (hl0 : l.stackTraces = false) : q_Ct l b 179 pX9_passes := by
  refine q_meth (by decide +kernel) hl0 TX9_passes kX9_passes ?_
  intro av M K KX hwf
  rintro ⟨t, ht, w, rfl, hK⟩
  refine ⟨Nat.le_of_ble_eq_true rfl, fun Z hz hw => ?_⟩
  have loop : ∀ (d k c : Nat) (S : Nat → Int32), k + d = t → s_wf S → K (some (.inl (nI (c + (s_ps d S).1)))) (q_sa M (22, 0, 0) (s_ps d S).2) → Z 0 4 [(3, .inl (nI k)), (2, .inl (nI c)), (0, .inr (.inl (21, 0, 0))), (1, .inl (nI t))] [] (q_sa M (22, 0, 0) S) := by
    intro d
    induction d with
    | zero =>
      intro k c S hk w hK
      apply hz [4] 60
      refine And.intro (fun _ => hK) (fun g => absurd (nI_le (by omega) (by omega)) g)
    | succ d ih =>
      intro k c S hk w hK
      apply hz [4] 60
      refine And.intro (fun g => absurd ((nI_leI (by omega) (by omega)).mp g) (by omega)) (fun _ => ?_)
      refine Exists.intro _ ⟨cX9_ticks_ct hl0, w, rfl, ?_⟩
      have h := ih (k + 1) (c + (s_tk S).1) (s_tk S).2 (by omega) (s_wf_tk w).1 (by rw [Nat.add_assoc]; exact hK)
      rw [← nI_add k 1, ← nI_add c] at h
      rw [q_sa_sa]
      exact h
  apply hz [4] 60
  have h := loop t 0 0 (M.1 22 0 0) (by omega) w (by rw [Nat.zero_add]; exact hK)
  rw [q_e22] at h
  exact h
