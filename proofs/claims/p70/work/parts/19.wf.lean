-- WHAT HOLDS OF A SLOT
def s_q (S : Nat → Int32) : Nat := (S 145).toNatClampNeg
def s_m (S : Nat → Int32) : Nat := (S 207).toNatClampNeg
def s_l (S : Nat → Int32) : Nat := (S 208).toNatClampNeg
def s_lok (S : Nat → Int32) (p : Nat) : Prop := (S (3 + 12 * p) = -1 ∨ ∃ x : Nat, x < 20 ∧ S (3 + 12 * p) = nI x) ∧ q_bit (S (4 + 12 * p)) ∧ ∃ c : Nat, c ≤ 4 ∧ S (8 + 12 * p) = nI c
def s_wf (S : Nat → Int32) : Prop := (S 0 = nI (s_n S) ∧ s_n S ≤ 12) ∧ (S 145 = nI (s_q S) ∧ s_q S ≤ 20) ∧ (S 207 = nI (s_m S) ∧ s_m S ≤ 12) ∧ (S 208 = nI (s_l S) ∧ s_l S ≤ 6) ∧ q_bit (S 213) ∧ (∀ p, p < s_n S → s_lok S p) ∧ (∀ k, k < s_q S → ∃ x : Nat, x < 20 ∧ S (146 + 3 * k) = nI x) ∧ (∀ p p', p < s_n S → p' < s_n S → p ≠ p' → S (3 + 12 * p) = S (3 + 12 * p') → S (3 + 12 * p) = -1) ∧ (∀ k k', k < s_q S → k' < s_q S → k ≠ k' → S (146 + 3 * k) ≠ S (146 + 3 * k')) ∧ (∀ p k, p < s_n S → k < s_q S → S (3 + 12 * p) ≠ S (146 + 3 * k))
theorem s_of {S : Nat → Int32} {i n : Nat} (h : S i = nI n) (hn : n ≤ 999) : (S i).toNatClampNeg = n := by
  rw [h, nI_clamp (by omega)]
def s_ix (p k : Nat) : Nat := if p ≤ k then k + 1 else k
theorem s_ix_lt {p k n : Nat} (h : k < n - 1) : s_ix p k < n := by
  unfold s_ix
  split <;> omega
theorem s_ix_ne {p k k' : Nat} (h : k ≠ k') : s_ix p k ≠ s_ix p k' := by
  unfold s_ix
  split <;> split <;> omega
theorem q_m1n {x : Nat} (h : x < 2 ^ 31) : (-1 : Int32) ≠ nI x := fun g => nI_pos h (by rw [← g]; decide)
section CL
variable {S : Nat → Int32} {p c : Nat}
theorem s_cl_lk (hp : p < s_n S) (hn : s_n S ≤ 12) {k f : Nat} (hk : k < s_n S - 1) (hf : 1 ≤ f) (hf2 : f < 13) : s_cl S p c (f + 12 * k) = S (f + 12 * s_ix p k) := by
  unfold s_cl s_ix
  rw [if_neg (by omega)]
  by_cases h : p ≤ k
  · rw [if_pos (by omega), if_pos h]
    exact congrArg S (by omega)
  · rw [if_neg (by omega), if_neg h, if_neg (by omega)]
theorem s_cl_hi (hn : s_n S ≤ 12) {i : Nat} (h1 : 145 ≤ i) (h2 : i < 215 ∨ 220 ≤ i) (hc : c < 5) : s_cl S p c i = S i := by
  unfold s_cl
  rw [if_neg (by omega), if_neg (by omega), if_neg (by omega)]
theorem s_cl_n (h0 : S 0 = nI (s_n S)) (hn : s_n S ≤ 12) (hp : p < s_n S) : s_cl S p c 0 = nI (s_n S - 1) := by
  unfold s_cl
  rw [if_pos rfl]
  exact (congrArg (fun z => z - nI 1) h0).trans (pk_sub (by omega))
end CL
theorem s_wf_map {S S' : Nat → Int32} (w : s_wf S) {n q : Nat} (e0 : S' 0 = nI n) (hn : n ≤ 12) (e1 : S' 145 = nI q) (hq : q ≤ 20) (hm : S' 207 = nI (s_m S') ∧ s_m S' ≤ 12) (hl : S' 208 = nI (s_l S') ∧ s_l S' ≤ 6) (hb : q_bit (S' 213)) (g h : Nat → Nat)
    (gi : ∀ p p', p ≠ p' → g p ≠ g p') (hi : ∀ k k', k ≠ k' → h k ≠ h k')
    (gl : ∀ p, p < n → (S' (3 + 12 * p) = -1 ∨ (g p < s_n S ∧ S' (3 + 12 * p) = S (3 + 12 * g p))) ∧ q_bit (S' (4 + 12 * p)) ∧ ∃ c : Nat, c ≤ 4 ∧ S' (8 + 12 * p) = nI c)
    (hk : ∀ k, k < q → h k < s_q S ∧ S' (146 + 3 * k) = S (146 + 3 * h k)) : s_wf S' := by
  obtain ⟨-, -, -, -, -, w1, w2, w3, w4, w5⟩ := w
  have en : s_n S' = n := s_of e0 (by omega)
  have eq : s_q S' = q := s_of e1 (by omega)
  have mm : ∀ k, k < q → S' (146 + 3 * k) ≠ -1 := by
    intro k h1 h2
    obtain ⟨h3, h4⟩ := hk k h1
    obtain ⟨x, hx, h5⟩ := w2 _ h3
    exact q_m1n (x := x) (by omega) (by rw [← h2, h4, h5])
  unfold s_wf
  rw [en, eq]
  refine ⟨⟨e0, hn⟩, ⟨e1, hq⟩, hm, hl, hb, fun p hp => ⟨?_, (gl p hp).2⟩, fun k h1 => ?_, fun p p' h1 h2 h3 h4 => ?_, fun k k' h1 h2 h3 h4 => ?_, fun p k h1 h2 h3 => ?_⟩
  · rcases (gl p hp).1 with h | ⟨h1, h2⟩
    · exact Or.inl h
    · rw [h2]
      exact (w1 _ h1).1
  · rw [(hk k h1).2]
    exact w2 _ (hk k h1).1
  · rcases (gl p h1).1 with h | ⟨a1, a2⟩
    · exact h
    · rcases (gl p' h2).1 with h | ⟨b1, b2⟩
      · rw [h4]; exact h
      · rw [a2]
        refine w3 _ _ a1 b1 (gi p p' h3) ?_
        rw [← a2, ← b2]
        exact h4
  · refine w4 _ _ (hk k h1).1 (hk k' h2).1 (hi k k' h3) ?_
    rw [← (hk k h1).2, ← (hk k' h2).2]
    exact h4
  · rcases (gl p h1).1 with h | ⟨a1, a2⟩
    · exact mm k h2 (by rw [← h3]; exact h)
    · refine w5 _ _ a1 (hk k h2).1 ?_
      rw [← a2, ← (hk k h2).2]
      exact h3
theorem s_set_of {S S' : Nat → Int32} (w : s_wf S) (h7 : S' 207 = S 207) (h8 : S' 208 = S 208) (h13 : S' 213 = S 213) : (S' 207 = nI (s_m S') ∧ s_m S' ≤ 12) ∧ (S' 208 = nI (s_l S') ∧ s_l S' ≤ 6) ∧ q_bit (S' 213) := by
  obtain ⟨-, -, wm, wl, wb, -⟩ := w
  unfold s_m s_l at *
  rw [h7, h8, h13]
  exact ⟨wm, wl, wb⟩
theorem s_wf_cl {S : Nat → Int32} (w : s_wf S) {p c : Nat} (hp : p < s_n S) (hc : c < 5) : s_wf (s_cl S p c) := by
  have w' := w
  obtain ⟨⟨w0, wn⟩, ⟨wq, wq2⟩, -, -, -, w1, -⟩ := w'
  obtain ⟨hm, hl, hb⟩ := s_set_of w (S' := s_cl S p c) (s_cl_hi wn (by omega) (by omega) hc) (s_cl_hi wn (by omega) (by omega) hc) (s_cl_hi wn (by omega) (by omega) hc)
  refine s_wf_map w (n := s_n S - 1) (q := s_q S) (s_cl_n w0 wn hp) (by omega) ((s_cl_hi wn (by omega) (by omega) hc).trans wq) wq2 hm hl hb (s_ix p) id (fun _ _ h => s_ix_ne h) (fun _ _ h => h) (fun k hk => ?_) (fun k hk => ⟨hk, s_cl_hi wn (by omega) (by omega) hc⟩)
  have hx := s_ix_lt (p := p) hk
  rw [s_cl_lk hp wn hk (by decide) (by decide), s_cl_lk hp wn hk (by decide) (by decide), s_cl_lk hp wn hk (by decide) (by decide)]
  exact ⟨Or.inr ⟨hx, rfl⟩, (w1 _ hx).2⟩
-- freeing
theorem s_fr_who {S : Nat → Int32} {p : Nat} (hp : p < 12) : s_fr S p (3 + 12 * p) = -1 := by
  unfold s_fr
  rw [q_upd_ne (by omega), q_upd_ne (by omega), q_upd_eq]
theorem s_fr_ne {S : Nat → Int32} {p i : Nat} (h1 : i ≠ 226) (h2 : i ≠ 3 + 12 * p) (h3 : i ≠ 5 + 12 * p) (h4 : i ≠ 6 + 12 * p) : s_fr S p i = S i := by
  unfold s_fr
  rw [q_upd_ne h4, q_upd_ne h3, q_upd_ne h2, q_upd_ne h1]
theorem s_wf_fr {S : Nat → Int32} (w : s_wf S) {p : Nat} (hp : p < s_n S) : s_wf (s_fr S p) := by
  have w' := w
  obtain ⟨⟨w0, wn⟩, ⟨wq, wq2⟩, -, -, -, w1, -⟩ := w'
  obtain ⟨hm, hl, hb⟩ := s_set_of w (S' := s_fr S p) (s_fr_ne (by omega) (by omega) (by omega) (by omega)) (s_fr_ne (by omega) (by omega) (by omega) (by omega)) (s_fr_ne (by omega) (by omega) (by omega) (by omega))
  refine s_wf_map w (n := s_n S) (q := s_q S) ((s_fr_ne (by omega) (by omega) (by omega) (by omega)).trans w0) wn ((s_fr_ne (by omega) (by omega) (by omega) (by omega)).trans wq) wq2 hm hl hb id id (fun _ _ h => h) (fun _ _ h => h) (fun k hk => ?_) (fun k hk => ⟨hk, s_fr_ne (by omega) (by omega) (by omega) (by omega)⟩)
  rw [s_fr_ne (i := 4 + 12 * k) (by omega) (by omega) (by omega) (by omega), s_fr_ne (i := 8 + 12 * k) (by omega) (by omega) (by omega) (by omega)]
  refine ⟨?_, (w1 _ hk).2⟩
  by_cases h : k = p
  · subst h
    exact Or.inl (s_fr_who (by omega))
  · exact Or.inr ⟨hk, s_fr_ne (by omega) (by omega) (by omega) (by omega)⟩
-- opening
theorem s_op_ne {S : Nat → Int32} {i : Nat} (h0 : i ≠ 0) (h1 : i ≠ 214) (h2 : i ≠ 226) (h3 : ¬ (1 + 12 * s_n S ≤ i ∧ i < 1 + 12 * s_n S + 12)) : s_op S i = S i := by
  unfold s_op
  simp only
  rw [s_fr_ne h2 (by omega) (by omega) (by omega), q_upd_ne (by omega), q_upd_ne (by omega), if_neg h3, q_upd_ne h1, q_upd_ne h0]
theorem s_op_n {S : Nat → Int32} (h0 : S 0 = nI (s_n S)) : s_op S 0 = nI (s_n S + 1) := by
  unfold s_op
  simp only
  rw [s_fr_ne (by omega) (by omega) (by omega) (by omega), q_upd_ne (by omega), q_upd_ne (by omega), if_neg (by omega), q_upd_ne (by omega), q_upd_eq]
  exact (congrArg (fun z => z + nI 1) h0).trans (nI_add _ 1)
theorem s_op_z {S : Nat → Int32} {f : Nat} (hn : s_n S < 12) (h1 : 3 ≤ f) (h2 : f < 13) (h3 : f ≠ 3) (h5 : f ≠ 5) (h6 : f ≠ 6) : s_op S (f + 12 * s_n S) = nI 0 := by
  unfold s_op
  simp only
  rw [s_fr_ne (by omega) (by omega) (by omega) (by omega), q_upd_ne (by omega), q_upd_ne (by omega), if_pos (by omega)]
theorem s_op_who {S : Nat → Int32} (hn : s_n S < 12) : s_op S (3 + 12 * s_n S) = -1 := by
  unfold s_op
  simp only
  exact s_fr_who hn
theorem s_wf_op {S : Nat → Int32} (w : s_wf S) (hn : s_n S < 12) : s_wf (s_op S) := by
  have w' := w
  obtain ⟨⟨w0, wn⟩, ⟨wq, wq2⟩, -, -, -, w1, -⟩ := w'
  obtain ⟨hm, hl, hb⟩ := s_set_of w (S' := s_op S) (s_op_ne (by omega) (by omega) (by omega) (by omega)) (s_op_ne (by omega) (by omega) (by omega) (by omega)) (s_op_ne (by omega) (by omega) (by omega) (by omega))
  refine s_wf_map w (n := s_n S + 1) (q := s_q S) (s_op_n w0) (by omega) ((s_op_ne (by omega) (by omega) (by omega) (by omega)).trans wq) wq2 hm hl hb id id (fun _ _ h => h) (fun _ _ h => h) (fun k hk => ?_) (fun k hk => ⟨hk, s_op_ne (by omega) (by omega) (by omega) (by omega)⟩)
  by_cases h : k = s_n S
  · subst h
    refine ⟨Or.inl (s_op_who hn), Or.inl (s_op_z hn (by decide) (by decide) (by decide) (by decide) (by decide)), 0, by decide, s_op_z hn (by decide) (by decide) (by decide) (by decide) (by decide)⟩
  · have hk2 : k < s_n S := by omega
    rw [s_op_ne (i := 4 + 12 * k) (by omega) (by omega) (by omega) (by omega), s_op_ne (i := 8 + 12 * k) (by omega) (by omega) (by omega) (by omega)]
    exact ⟨Or.inr ⟨hk2, s_op_ne (by omega) (by omega) (by omega) (by omega)⟩, (w1 _ hk2).2⟩
-- lending
def s_ld (S : Nat → Int32) (p : Nat) (x : Int32) : Nat → Int32 :=
  let S1 := upd S (3 + 12 * p) x
  let S2 := upd S1 (5 + 12 * p) (S1 206)
  let S3 := upd S2 (7 + 12 * p) (S2 (7 + 12 * p) + nI 1)
  upd S3 220 (S3 220 + nI 1)
theorem s_ld_ne {S : Nat → Int32} {p i : Nat} {x : Int32} (h1 : i ≠ 220) (h2 : i ≠ 3 + 12 * p) (h3 : i ≠ 5 + 12 * p) (h4 : i ≠ 7 + 12 * p) : s_ld S p x i = S i := by
  unfold s_ld
  rw [q_upd_ne h1, q_upd_ne h4, q_upd_ne h3, q_upd_ne h2]
theorem s_ld_who {S : Nat → Int32} {p : Nat} {x : Int32} (hp : p < 12) : s_ld S p x (3 + 12 * p) = x := by
  unfold s_ld
  rw [q_upd_ne (by omega), q_upd_ne (by omega), q_upd_ne (by omega), q_upd_eq]
theorem s_wf_ld {S : Nat → Int32} (w : s_wf S) {p x : Nat} (hp : p < s_n S) (hx : x < 20) (hl : ∀ k, k < s_n S → S (3 + 12 * k) ≠ nI x) (hq : ∀ k, k < s_q S → S (146 + 3 * k) ≠ nI x) : s_wf (s_ld S p (nI x)) := by
  have w' := w
  obtain ⟨⟨w0, wn⟩, ⟨wq, wq2⟩, -, -, -, w1, w2, w3, w4, w5⟩ := w'
  obtain ⟨hm, hls, hb⟩ := s_set_of w (S' := s_ld S p (nI x)) (s_ld_ne (by omega) (by omega) (by omega) (by omega)) (s_ld_ne (by omega) (by omega) (by omega) (by omega)) (s_ld_ne (by omega) (by omega) (by omega) (by omega))
  have e0 : s_ld S p (nI x) 0 = nI (s_n S) := (s_ld_ne (by omega) (by omega) (by omega) (by omega)).trans w0
  have e1 : s_ld S p (nI x) 145 = nI (s_q S) := (s_ld_ne (by omega) (by omega) (by omega) (by omega)).trans wq
  have en : s_n (s_ld S p (nI x)) = s_n S := s_of e0 (by omega)
  have eq : s_q (s_ld S p (nI x)) = s_q S := s_of e1 (by omega)
  have who : ∀ k, k < s_n S → k ≠ p → s_ld S p (nI x) (3 + 12 * k) = S (3 + 12 * k) := fun k h1 h2 => s_ld_ne (by omega) (by omega) (by omega) (by omega)
  have que : ∀ k, k < s_q S → s_ld S p (nI x) (146 + 3 * k) = S (146 + 3 * k) := by
    intro k h1
    by_cases h : 146 + 3 * k = 220
    · omega
    · exact s_ld_ne h (by omega) (by omega) (by omega)
  unfold s_wf
  rw [en, eq]
  refine ⟨⟨e0, wn⟩, ⟨e1, wq2⟩, hm, hls, hb, fun k hk => ⟨?_, ?_⟩, fun k hk => ?_, fun k k' h1 h2 h3 h4 => ?_, fun k k' h1 h2 h3 h4 => ?_, fun k k' h1 h2 h3 => ?_⟩
  · by_cases h : k = p
    · subst h
      exact Or.inr ⟨x, hx, s_ld_who (by omega)⟩
    · rw [who k hk h]
      exact (w1 k hk).1
  · rw [s_ld_ne (i := 4 + 12 * k) (by omega) (by omega) (by omega) (by omega), s_ld_ne (i := 8 + 12 * k) (by omega) (by omega) (by omega) (by omega)]
    exact (w1 k hk).2
  · rw [que k hk]
    exact w2 k hk
  · by_cases a : k = p
    · subst a
      rw [s_ld_who (by omega), who k' h2 (fun g => h3 g.symm)] at h4
      exact absurd h4.symm (hl k' h2)
    · by_cases a' : k' = p
      · subst a'
        rw [s_ld_who (by omega), who k h1 a] at h4
        exact absurd h4 (hl k h1)
      · rw [who k h1 a, who k' h2 a'] at h4
        rw [who k h1 a]
        exact w3 k k' h1 h2 h3 h4
  · rw [que k h1, que k' h2] at h4
    exact w4 k k' h1 h2 h3 h4
  · rw [que k' h2] at h3
    by_cases a : k = p
    · subst a
      rw [s_ld_who (by omega)] at h3
      exact hq k' h2 h3.symm
    · rw [who k h1 a] at h3
      exact w5 k k' h1 h2 h3
