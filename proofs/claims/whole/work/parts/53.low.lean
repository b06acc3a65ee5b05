-- WHAT A SLOT DOES RESTS ON THE SLOT ALONE
def e_lo (S S' : Nat → Int32) : Prop := ∀ i, i < 227 → S' i = S i
theorem lo_upd {S S' : Nat → Int32} {k : Nat} {x x' : Int32} (h : e_lo S S') (hx : x' = x) : e_lo (upd S k x) (upd S' k x') := by
  intro i hi
  by_cases c : i = k
  · rw [c, q_upd_eq, q_upd_eq, hx]
  · rw [q_upd_ne c, q_upd_ne c, h i hi]
section LO
variable {S S' : Nat → Int32}
theorem lo_m (h : e_lo S S') : s_m S' = s_m S := by
  unfold s_m
  rw [h 207 (by omega)]
theorem lo_l (h : e_lo S S') : s_l S' = s_l S := by
  unfold s_l
  rw [h 208 (by omega)]
theorem lo_cf (h : e_lo S S') : ∀ {k : Nat}, k ≤ 12 → s_cf S' k = s_cf S k
  | 0, _ => rfl
  | k + 1, hk => by
    unfold s_cf
    rw [h (3 + 12 * k) (by omega), lo_cf h (by omega)]
theorem lo_fo (h : e_lo S S') {last : Bool} : ∀ {k : Nat}, k ≤ 12 → s_fo S' last k = s_fo S last k
  | 0, _ => rfl
  | k + 1, hk => by
    have ih := lo_fo h (last := last) (k := k) (by omega)
    have e : s_lt S' (s_fo S last k) k = s_lt S (s_fo S last k) k := by
      cases hf : s_fo S last k with
      | none => rfl
      | some q =>
        have := s_fo_lt hf
        show decide (S' (6 + 12 * q) < S' (6 + 12 * k)) = decide (S (6 + 12 * q) < S (6 + 12 * k))
        rw [h (6 + 12 * q) (by omega), h (6 + 12 * k) (by omega)]
    unfold s_fo
    rw [ih, e, h (3 + 12 * k) (by omega)]
theorem lo_nx (h : e_lo S S') (hn : s_n S ≤ 12) : s_nx S' = s_nx S := by
  unfold s_nx
  rw [h 213 (by omega), s_n_lo h, lo_fo h hn]
theorem lo_fr (h : e_lo S S') {p : Nat} : e_lo (s_fr S p) (s_fr S' p) := by
  have h1 : e_lo _ _ := lo_upd (k := 226) h (show S' 226 + nI 1 = S 226 + nI 1 by rw [h 226 (by omega)])
  have h2 : e_lo _ _ := lo_upd (k := 3 + 12 * p) h1 (show (-1 : Int32) = -1 from rfl)
  have h3 : e_lo _ _ := lo_upd (k := 5 + 12 * p) h2 (h2 206 (by omega))
  exact lo_upd (k := 6 + 12 * p) h3 (h3 226 (by omega))
theorem lo_cl (h : e_lo S S') (hn : s_n S ≤ 12) {p c : Nat} : e_lo (s_cl S p c) (s_cl S' p c) := by
  intro i hi
  unfold s_cl
  rw [s_n_lo h, h 0 (by omega), h i hi]
  split
  · rfl
  · split
    · rename_i g
      exact h (i + 12) (by omega)
    · rfl
theorem lo_op (h : e_lo S S') : e_lo (s_op S) (s_op S') := by
  have h1 : e_lo _ _ := lo_upd (k := 0) h (show S' 0 + nI 1 = S 0 + nI 1 by rw [h 0 (by omega)])
  have h2 : e_lo _ _ := lo_upd (k := 214) h1 (show upd S' 0 (S' 0 + nI 1) 214 + nI 1 = upd S 0 (S 0 + nI 1) 214 + nI 1 by rw [h1 214 (by omega)])
  have h3 : e_lo (fun i => if 1 + 12 * s_n S ≤ i ∧ i < 1 + 12 * s_n S + 12 then nI 0 else upd (upd S 0 (S 0 + nI 1)) 214 (upd S 0 (S 0 + nI 1) 214 + nI 1) i) (fun i => if 1 + 12 * s_n S ≤ i ∧ i < 1 + 12 * s_n S + 12 then nI 0 else upd (upd S' 0 (S' 0 + nI 1)) 214 (upd S' 0 (S' 0 + nI 1) 214 + nI 1) i) := by
    intro i hi
    dsimp only
    rw [h2 i hi]
  have h4 : e_lo _ _ := lo_upd (k := 1 + 12 * s_n S) h3 (h3 214 (by omega))
  have h5 : e_lo _ _ := lo_upd (k := 2 + 12 * s_n S) h4 (h4 206 (by omega))
  have h6 := lo_fr h5 (p := s_n S)
  unfold s_op
  rw [s_n_lo h]
  exact h6
theorem lo_ld (h : e_lo S S') {p : Nat} {x : Int32} (hp : p < 12) : e_lo (s_ld S p x) (s_ld S' p x) := by
  have h1 : e_lo (upd S (3 + 12 * p) x) (upd S' (3 + 12 * p) x) := lo_upd (k := 3 + 12 * p) h rfl
  generalize hA : upd S (3 + 12 * p) x = A at h1
  generalize hA' : upd S' (3 + 12 * p) x = A' at h1
  have h2 : e_lo (upd A (5 + 12 * p) (A 206)) (upd A' (5 + 12 * p) (A' 206)) := lo_upd h1 (h1 206 (by omega))
  generalize hB : upd A (5 + 12 * p) (A 206) = B at h2
  generalize hB' : upd A' (5 + 12 * p) (A' 206) = B' at h2
  have h3 : e_lo (upd B (7 + 12 * p) (B (7 + 12 * p) + nI 1)) (upd B' (7 + 12 * p) (B' (7 + 12 * p) + nI 1)) := lo_upd h2 (by rw [h2 _ (by omega)])
  generalize hC : upd B (7 + 12 * p) (B (7 + 12 * p) + nI 1) = C at h3
  generalize hC' : upd B' (7 + 12 * p) (B' (7 + 12 * p) + nI 1) = C' at h3
  have h4 : e_lo (upd C 220 (C 220 + nI 1)) (upd C' 220 (C' 220 + nI 1)) := lo_upd h3 (by rw [h3 _ (by omega)])
  rw [← hC, ← hC', ← hB, ← hB', ← hA, ← hA'] at h4
  exact h4
theorem lo_uq (h : e_lo S S') (hq : s_q S ≤ 20) {k : Nat} : e_lo (s_uq S k) (s_uq S' k) := by
  intro i hi
  unfold s_uq
  rw [s_q_lo h, h 145 (by omega), h i hi]
  split
  · rfl
  · split
    · rename_i g
      exact h (i + 3) (by omega)
    · rfl
theorem lo_qp (h : e_lo S S') {u : Int32} : ∀ {k : Nat}, k ≤ 20 → s_qp S' u k = s_qp S u k
  | 0, _ => rfl
  | k + 1, hk => by
    unfold s_qp
    rw [h (147 + 3 * k) (by omega), lo_qp h (by omega)]
theorem lo_qs (h : e_lo S S') (hq : s_q S ≤ 20) {x u : Int32} : e_lo (s_qs S x u) (s_qs S' x u) := by
  unfold s_qs
  rw [s_q_lo h, lo_qp h hq]
  generalize s_qp S u (s_q S) = p
  have h1 : e_lo (fun i => if 149 + 3 * p ≤ i ∧ i < 149 + 3 * s_q S then S (i - 3) else S i) (fun i => if 149 + 3 * p ≤ i ∧ i < 149 + 3 * s_q S then S' (i - 3) else S' i) := by
    intro i hi
    dsimp only
    rw [h i hi, h (i - 3) (by omega)]
  generalize hA : (fun i => if 149 + 3 * p ≤ i ∧ i < 149 + 3 * s_q S then S (i - 3) else S i) = A at h1
  generalize hA' : (fun i => if 149 + 3 * p ≤ i ∧ i < 149 + 3 * s_q S then S' (i - 3) else S' i) = A' at h1
  have h2 : e_lo (upd A 145 (A 145 + nI 1)) (upd A' 145 (A' 145 + nI 1)) := lo_upd h1 (by rw [h1 _ (by omega)])
  generalize hB : upd A 145 (A 145 + nI 1) = B at h2
  generalize hB' : upd A' 145 (A' 145 + nI 1) = B' at h2
  have h3 : e_lo (upd (upd B (146 + 3 * p) x) (147 + 3 * p) u) (upd (upd B' (146 + 3 * p) x) (147 + 3 * p) u) := lo_upd (lo_upd h2 rfl) rfl
  generalize hC : upd (upd B (146 + 3 * p) x) (147 + 3 * p) u = C at h3
  generalize hC' : upd (upd B' (146 + 3 * p) x) (147 + 3 * p) u = C' at h3
  have h4 : e_lo (upd C (148 + 3 * p) (C 206)) (upd C' (148 + 3 * p) (C' 206)) := lo_upd h3 (h3 206 (by omega))
  rw [← hC, ← hC', ← hB, ← hB', ← hA, ← hA'] at h4
  exact h4
end LO
theorem lo_lb : ∀ (f : Nat) (S S' : Nat → Int32), e_lo S S' → s_wf S → (s_lb f S').1 = (s_lb f S).1 ∧ e_lo (s_lb f S).2 (s_lb f S').2
  | 0, S, S', h, w => ⟨lo_nx h w.1.2, h⟩
  | f + 1, S, S', h, w => by
    have e := lo_nx h w.1.2
    have e1 : ∀ T : Nat → Int32, s_lb (f + 1) T = (match s_nx T with
      | none => (none, T)
      | some p => if T (4 + 12 * p) = nI 1 then s_lb f (s_cl T p 2) else (some p, T)) := fun _ => rfl
    rw [e1, e1, e]
    cases hx : s_nx S with
    | none => exact ⟨rfl, h⟩
    | some p =>
      have hp := s_nx_lt hx
      have := w.1.2
      dsimp only
      rw [h (4 + 12 * p) (by omega)]
      split
      · exact lo_lb f _ _ (lo_cl h w.1.2) (s_wf_cl w hp (by decide))
      · exact ⟨rfl, h⟩
theorem lo_fl {S S' : Nat → Int32} (h : e_lo S S') (w : s_wf S) : (s_fl S').1 = (s_fl S).1 ∧ e_lo (s_fl S).2 (s_fl S').2 := by
  have hb := lo_lb (s_n S) S S' h w
  unfold s_fl
  rw [s_n_lo h]
  rcases hx : s_lb (s_n S) S with ⟨_ | p, A⟩
  · rcases hx' : s_lb (s_n S) S' with ⟨_ | p', A'⟩
    · rw [hx, hx'] at hb
      have hb2 : e_lo A A' := hb.2
      dsimp only
      rw [hb2 0 (by omega), hb2 207 (by omega), s_n_lo hb2]
      split
      · exact ⟨rfl, lo_op hb2⟩
      · exact ⟨rfl, hb2⟩
    · rw [hx, hx'] at hb
      exact absurd hb.1 (by simp)
  · rcases hx' : s_lb (s_n S) S' with ⟨_ | p', A'⟩
    · rw [hx, hx'] at hb
      exact absurd hb.1 (by simp)
    · rw [hx, hx'] at hb
      exact hb
theorem lo_le {S S' : Nat → Int32} {x : Int32} (h : e_lo S S') (w : s_wf S) : (s_le S' x).1 = (s_le S x).1 ∧ e_lo (s_le S x).2 (s_le S' x).2 := by
  have hb := lo_fl h w
  obtain ⟨a1, a2, -⟩ := s_fl_eq S w
  unfold s_le
  rcases hx : s_fl S with ⟨_ | p, A⟩
  · rcases hx' : s_fl S' with ⟨_ | p', A'⟩
    · rw [hx, hx'] at hb
      exact ⟨rfl, hb.2⟩
    · rw [hx, hx'] at hb
      exact absurd hb.1 (by simp)
  · rcases hx' : s_fl S' with ⟨_ | p', A'⟩
    · rw [hx, hx'] at hb
      exact absurd hb.1 (by simp)
    · rw [hx, hx'] at hb
      have e : p' = p := by simpa using hb.1
      rw [hx] at a1 a2
      have := a2 p rfl
      have := a1.1.2
      rw [e]
      exact ⟨rfl, lo_ld hb.2 (by omega)⟩
theorem lo_s1 {S S' : Nat → Int32} (h : e_lo S S') (hq : s_q S ≤ 20) : e_lo (s_s1 S) (s_s1 S') := by
  have h1 := lo_uq h hq (k := 0)
  have h2 : e_lo (upd (s_uq S 0) 223 (S 223 + (S 206 - S 148))) (upd (s_uq S' 0) 223 (S' 223 + (S' 206 - S' 148))) := lo_upd h1 (by rw [h 223 (by omega), h 206 (by omega), h 148 (by omega)])
  exact lo_upd (k := 222) h2 (by rw [h2 222 (by omega)])
theorem lo_sv : ∀ (f : Nat) (S S' : Nat → Int32), e_lo S S' → s_wf S → s_q S = f → (s_sv f S').1 = (s_sv f S).1 ∧ e_lo (s_sv f S).2 (s_sv f S').2
  | 0, S, S', h, _, _ => ⟨rfl, h⟩
  | f + 1, S, S', h, w, hf => by
    have e1 : ∀ T : Nat → Int32, s_sv (f + 1) T = (if s_q T = 0 then (0, T) else match s_le T (T 146) with
      | (false, S') => (0, S')
      | (true, S') => ((s_sv f (s_s1 S')).1 + 1, (s_sv f (s_s1 S')).2)) := fun _ => rfl
    have hl := lo_le (x := S 146) h w
    obtain ⟨x, hx, ex⟩ := w.2.2.2.2.2.2.1 0 (by omega)
    have ex : S 146 = nI x := ex
    rw [e1, e1, s_q_lo h, if_neg (by omega), if_neg (by omega), h 146 (by omega)]
    rcases h1 : s_le S (S 146) with ⟨_ | _, A⟩
    · rcases h2 : s_le S' (S 146) with ⟨_ | _, A'⟩
      · rw [h1, h2] at hl
        exact ⟨rfl, hl.2⟩
      · rw [h1, h2] at hl
        exact absurd hl.1 (by simp)
    · rcases h2 : s_le S' (S 146) with ⟨_ | _, A'⟩
      · rw [h1, h2] at hl
        exact absurd hl.1 (by simp)
      · rw [h1, h2] at hl
        have hl2 : e_lo A A' := hl.2
        obtain ⟨b1, b2, b3⟩ := s_le_wf (S' := A) w (by omega) h1
        have hqA : s_q A = s_q S := by
          unfold s_q
          rw [b3, nI_clamp (by have := w.2.1.2; omega)]
          rfl
        have hq20 := w.2.1.2
        have ih := lo_sv f (s_s1 A) (s_s1 A') (lo_s1 hl2 (by omega)) b1 (by omega)
        dsimp only
        rw [ih.1]
        exact ⟨rfl, ih.2⟩
theorem lo_as {S S' : Nat → Int32} {x : Nat} {u : Int32} (h : e_lo S S') (w : s_wf S) : (s_as S' (nI x) u).1 = (s_as S (nI x) u).1 ∧ e_lo (s_as S (nI x) u).2 (s_as S' (nI x) u).2 := by
  have hl := lo_le (x := nI x) h w
  have hq20 := w.2.1.2
  obtain ⟨a1, a2, a3, -⟩ := s_fl_eq S w
  unfold s_as
  rw [s_q_lo h]
  by_cases c : s_q S = 0
  · rw [if_pos c, if_pos c]
    rcases h1 : s_le S (nI x) with ⟨_ | _, A⟩
    · rcases h2 : s_le S' (nI x) with ⟨_ | _, A'⟩
      · rw [h1, h2] at hl
        have hl2 : e_lo A A' := hl.2
        refine ⟨rfl, lo_qs hl2 ?_⟩
        have eA : A = (s_fl S).2 := by
          unfold s_le at h1
          rcases hf : s_fl S with ⟨_ | p, S2⟩
          · rw [hf] at h1
            cases h1
            rfl
          · rw [hf] at h1
            cases h1
        rw [eA]
        exact a1.2.1.2
      · rw [h1, h2] at hl
        exact absurd hl.1 (by simp)
    · rcases h2 : s_le S' (nI x) with ⟨_ | _, A'⟩
      · rw [h1, h2] at hl
        exact absurd hl.1 (by simp)
      · rw [h1, h2] at hl
        exact ⟨rfl, hl.2⟩
  · rw [if_neg c, if_neg c]
    exact ⟨rfl, lo_qs h hq20⟩
theorem lo_gb {S S' : Nat → Int32} {p : Nat} (h : e_lo S S') (w : s_wf S) (hp : p < s_n S) : e_lo (s_gb S p) (s_gb S' p) := by
  have := w.1.2
  unfold s_gb
  rw [h (4 + 12 * p) (by omega), h 209 (by omega), h 206 (by omega), h (2 + 12 * p) (by omega)]
  split
  · exact lo_cl h w.1.2
  · split
    · exact lo_cl h w.1.2
    · exact lo_fr h
theorem lo_gv {S S' : Nat → Int32} {p : Nat} (h : e_lo S S') (w : s_wf S) (hp : p < s_n S) : e_lo (s_gv S p).2 (s_gv S' p).2 := by
  have hb := lo_gb h w hp
  unfold s_gv
  rw [s_q_lo hb]
  exact (lo_sv _ _ _ hb (s_wf_gb w hp) rfl).2
theorem lo_nu {S S' : Nat → Int32} {p : Nat} {y : Int32} (h : e_lo S S') (hp : p < 12) : ∀ {k : Nat}, k ≤ 4 → s_nu S' p y k = s_nu S p y k
  | 0, _ => rfl
  | k + 1, hk => by
    unfold s_nu
    rw [lo_nu h hp (by omega), h (9 + 12 * p + k) (by omega)]
theorem lo_fi {S S' : Nat → Int32} {p : Nat} {y : Int32} (h : e_lo S S') (hp : p < 12) : ∀ (d k : Nat), k + d ≤ 4 → s_fi S' p y d k = s_fi S p y d k
  | 0, _, _ => rfl
  | d + 1, k, hk => by
    unfold s_fi
    rw [lo_fi h hp d (k + 1) (by omega), h (9 + 12 * p + k) (by omega)]
theorem lo_us {S S' : Nat → Int32} {p : Nat} {y : Int32} (h : e_lo S S') (w : s_wf S) (hp : p < s_n S) : e_lo (s_us S p y).2 (s_us S' p y).2 := by
  have hn := w.1.2
  obtain ⟨c, hc, h8⟩ := (w.2.2.2.2.2.1 p hp).2.2
  have ec : s_c S p = c := by
    unfold s_c
    rw [h8, nI_clamp (by omega)]
  have ec' : s_c S' p = c := by
    unfold s_c
    rw [h _ (by omega), h8, nI_clamp (by omega)]
  unfold s_us
  rw [ec, ec', lo_nu h (by omega) hc, lo_fi h (by omega) c 0 (by omega)]
  dsimp only
  generalize s_nu S p y c = b
  generalize s_f1 b (s_fi S p y c 0) = f
  have h1 : e_lo (s_ua S p b) (s_ua S' p b) := by
    unfold s_ua
    split
    · exact h
    · exact lo_upd h (by rw [h (8 + 12 * p) (by omega)])
  generalize s_ua S p b = A at h1 ⊢
  generalize s_ua S' p b = A' at h1 ⊢
  have h2 : e_lo (fun j => if 9 + 12 * p < j ∧ j < 10 + 12 * p + f then A (j - 1) else A j) (fun j => if 9 + 12 * p < j ∧ j < 10 + 12 * p + f then A' (j - 1) else A' j) := by
    intro i hi
    dsimp only
    rw [h1 i hi, h1 (i - 1) (by omega)]
  have h3 := lo_upd (k := 9 + 12 * p) (x := y) h2 rfl
  unfold s_ub
  refine lo_upd h3 ?_
  rw [h3 _ (by split <;> omega)]
theorem lo_lq {S S' : Nat → Int32} {k : Nat} (h : e_lo S S') (hq : s_q S ≤ 20) : e_lo (s_lq S k) (s_lq S' k) := by
  have h1 := lo_uq h hq (k := k)
  exact lo_upd (k := 221) h1 (by rw [h1 221 (by omega)])
theorem lo_lp : ∀ (d k : Nat) (S S' : Nat → Int32), e_lo S S' → s_wf S → k + d = s_q S → e_lo (s_lp d k S) (s_lp d k S')
  | 0, k, S, S', h, _, _ => h
  | d + 1, k, S, S', h, w, hk => by
    have hq := w.2.1.2
    unfold s_lp
    rw [h 212 (by omega), h 206 (by omega), h (148 + 3 * k) (by omega)]
    split
    · obtain ⟨a, b⟩ := s_wf_lq w (k := k) (by omega)
      exact lo_lp d k _ _ (lo_lq h hq) a (by omega)
    · exact lo_lp d (k + 1) _ _ h w (by omega)
theorem lo_ta : ∀ (d k : Nat) (S S' : Nat → Int32), e_lo S S' → s_wf S → k + d = s_n S → e_lo (s_ta d k S) (s_ta d k S')
  | 0, k, S, S', h, _, _ => h
  | d + 1, k, S, S', h, w, hk => by
    have hn := w.1.2
    unfold s_ta
    rw [h (3 + 12 * k) (by omega), h 211 (by omega), h 206 (by omega), h (5 + 12 * k) (by omega)]
    split
    · exact lo_ta d k _ _ (lo_cl h hn) (s_wf_cl w (by omega) (by decide)) (by rw [s_n_cl w (by omega)]; omega)
    · exact lo_ta d (k + 1) _ _ h w (by omega)
theorem lo_tb : ∀ (d k : Nat) (S S' : Nat → Int32), e_lo S S' → s_wf S → k + d = s_n S → e_lo (s_tb d k S) (s_tb d k S')
  | 0, k, S, S', h, _, _ => h
  | d + 1, k, S, S', h, w, hk => by
    have hn := w.1.2
    unfold s_tb
    rw [h (3 + 12 * k) (by omega), h 209 (by omega), h 206 (by omega), h (2 + 12 * k) (by omega)]
    split
    · exact lo_tb d k _ _ (lo_cl h hn) (s_wf_cl w (by omega) (by decide)) (by rw [s_n_cl w (by omega)]; omega)
    · exact lo_tb d (k + 1) _ _ h w (by omega)
theorem lo_tw {S S' : Nat → Int32} (h : e_lo S S') (w : s_wf S) : e_lo (s_tw S) (s_tw S') := by
  have h1 := lo_ta (s_n S) 0 S S' h w (by omega)
  have w1 := s_wf_ta (s_n S) 0 S w (by omega)
  unfold s_tw
  rw [s_n_lo h, s_n_lo h1]
  exact lo_tb _ 0 _ _ h1 w1 (by omega)
theorem lo_cr : ∀ (f : Nat) (S S' : Nat → Int32), e_lo S S' → s_wf S → e_lo (s_cr f S) (s_cr f S')
  | 0, S, S', h, _ => h
  | f + 1, S, S', h, w => by
    have hn := w.1.2
    unfold s_cr
    rw [lo_l h, s_n_lo h, lo_cf h hn, lo_fo h hn]
    split
    · cases hf : s_fo S false (s_n S) with
      | none => exact h
      | some p =>
        have hp := s_fo_lt hf
        dsimp only
        rw [h 210 (by omega), h 206 (by omega), h (5 + 12 * p) (by omega)]
        split
        · exact lo_cr f _ _ (lo_cl h hn) (s_wf_cl w hp (by decide))
        · exact h
    · exact h
theorem lo_ol : ∀ (f : Nat) (S S' : Nat → Int32), e_lo S S' → s_wf S → e_lo (s_ol f S) (s_ol f S')
  | 0, S, S', h, _ => h
  | f + 1, S, S', h, w => by
    have hn := w.1.2
    unfold s_ol
    rw [lo_l h, s_n_lo h, lo_cf h hn, lo_m h]
    split
    · rename_i g
      exact lo_ol f _ _ (lo_op h) (s_wf_op w (by have := w.2.2.1.2; omega))
    · exact h
theorem lo_tk {S S' : Nat → Int32} (h : e_lo S S') (w : s_wf S) : e_lo (s_tk S).2 (s_tk S').2 := by
  have h0 : e_lo (s_t0 S) (s_t0 S') := lo_upd h (by rw [h 206 (by omega)])
  have w0 := s_wf_t0 w
  have h1 := lo_lp (s_q (s_t0 S)) 0 _ _ h0 w0 (by omega)
  have w1 := s_wf_lp (s_q (s_t0 S)) 0 _ w0 (by omega)
  have h2 := lo_tw h1 w1
  have w2 := s_wf_tw w1
  have h3 : e_lo (s_t3 S) (s_t3 S') := by
    unfold s_t3
    rw [s_q_lo h0, s_n_lo h2]
    exact lo_cr _ _ _ h2 w2
  have w3 := s_wf_t3 w
  have h4 := lo_sv (s_q (s_t3 S)) _ _ h3 w3 rfl
  have w4 := (s_wf_sv _ _ w3 rfl).1
  unfold s_tk
  rw [s_q_lo h3]
  dsimp only
  rw [s_n_lo h4.2]
  exact lo_ol _ _ _ h4.2 w4
theorem lo_ps : ∀ (t : Nat) (S S' : Nat → Int32), e_lo S S' → s_wf S → e_lo (s_ps t S).2 (s_ps t S').2
  | 0, S, S', h, _ => h
  | t + 1, S, S', h, w => lo_ps t _ _ (lo_tk h w) (s_wf_tk w).1
theorem lo_do {S S' : Nat → Int32} {k x y : Nat} (h : e_lo S S') (w : s_wf S) : (s_do S' k x y).1 = (s_do S k x y).1 ∧ e_lo (s_do S k x y).2 (s_do S' k x y).2 := by
  unfold s_do
  rw [s_n_lo h, s_q_lo h, s_lk_lo h w.1.2, s_qd_lo h w.2.1.2]
  by_cases c1 : k = 116
  · rw [if_pos c1, if_pos c1]
    exact ⟨rfl, lo_ps x _ _ h w⟩
  · rw [if_neg c1, if_neg c1]
    by_cases c2 : k = 97
    · rw [if_pos c2, if_pos c2]
      by_cases c3 : s_lk S (nI x) (s_n S) = none ∧ s_qd S (nI x) (s_q S) = none
      · rw [if_pos c3, if_pos c3]
        exact ⟨rfl, (lo_as h w).2⟩
      · rw [if_neg c3, if_neg c3]
        exact ⟨rfl, h⟩
    · rw [if_neg c2, if_neg c2]
      by_cases c3 : k = 108
      · rw [if_pos c3, if_pos c3]
        cases hq : s_qd S (nI x) (s_q S) with
        | none => exact ⟨rfl, h⟩
        | some m => exact ⟨rfl, lo_uq h w.2.1.2⟩
      · rw [if_neg c3, if_neg c3]
        by_cases c4 : k = 103
        · rw [if_pos c4, if_pos c4]
          cases hq : s_lk S (nI x) (s_n S) with
          | none => exact ⟨rfl, h⟩
          | some p => exact ⟨rfl, lo_gv h w (s_lk_lt hq).1⟩
        · rw [if_neg c4, if_neg c4]
          cases hq : s_lk S (nI x) (s_n S) with
          | none => exact ⟨rfl, h⟩
          | some p => exact ⟨rfl, lo_us h w (s_lk_lt hq).1⟩
/-- a course: its parts, one behind the other, up to the first that can't be done -/
def s_pl : List Q_P3 → (Nat → Int32) → Bool × (Nat → Int32)
  | [], S => (true, S)
  | p :: L, S => if (s_do S p.1 p.2.1 p.2.2).1 = true then s_pl L (s_do S p.1 p.2.1 p.2.2).2 else (false, (s_do S p.1 p.2.1 p.2.2).2)
def s_vL (L : List Q_P3) : Prop := ∀ p ∈ L, s_vp p.1 p.2.1 p.2.2
theorem lo_pl : ∀ (L : List Q_P3) (S S' : Nat → Int32), e_lo S S' → s_wf S → s_vL L → (∃ B, XV S B) → (s_pl L S').1 = (s_pl L S).1 ∧ e_lo (s_pl L S).2 (s_pl L S').2
  | [], S, S', h, _, _, _ => ⟨rfl, h⟩
  | p :: L, S, S', h, w, hv, ⟨B, v⟩ => by
    have hd := lo_do (k := p.1) (x := p.2.1) (y := p.2.2) h w
    have hx := XV_do w (hv p List.mem_cons_self) v
    unfold s_pl
    rw [hd.1]
    by_cases c : (s_do S p.1 p.2.1 p.2.2).1 = true
    · rw [if_pos c, if_pos c]
      exact lo_pl L _ _ hd.2 hx.2.2 (fun q hq => hv q (List.mem_cons_of_mem _ hq)) ⟨_, hx.1⟩
    · rw [if_neg c, if_neg c]
      exact ⟨rfl, hd.2⟩
theorem XV_pl : ∀ (L : List Q_P3) (S : Nat → Int32) (B : Nat), s_wf S → s_vL L → XV S B → XV (s_pl L S).2 (B + 3200 * L.length) ∧ (∀ i, 227 ≤ i → (s_pl L S).2 i = S i) ∧ s_wf (s_pl L S).2
  | [], S, B, w, _, v => ⟨v, fun _ _ => rfl, w⟩
  | p :: L, S, B, w, hv, v => by
    have hx := XV_do w (hv p List.mem_cons_self) v
    unfold s_pl
    by_cases c : (s_do S p.1 p.2.1 p.2.2).1 = true
    · rw [if_pos c]
      have ih := XV_pl L _ _ hx.2.2 (fun q hq => hv q (List.mem_cons_of_mem _ hq)) hx.1
      exact ⟨XV_up ih.1 (by rw [List.length_cons]; omega), fun i hi => (ih.2.1 i hi).trans (hx.2.1 i hi), ih.2.2⟩
    · rw [if_neg c]
      exact ⟨XV_up hx.1 (by rw [List.length_cons]; omega), hx.2.1, hx.2.2⟩
