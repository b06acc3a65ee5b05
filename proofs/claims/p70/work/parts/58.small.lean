def Y1 (S S' : Nat → Int32) : Prop := S' 206 = S 206 ∧ ∀ p, p < s_n S' → S' (5 + 12 * p) = S 206 ∨ ∃ p0, p0 < s_n S ∧ S' (5 + 12 * p) = S (5 + 12 * p0)
theorem Y1_rfl (S : Nat → Int32) : Y1 S S := ⟨rfl, fun p hp => Or.inr ⟨p, hp, rfl⟩⟩
theorem Y1_tr {S S1 S2 : Nat → Int32} (h : Y1 S S1) (h2 : Y1 S1 S2) : Y1 S S2 := by
  refine ⟨h2.1.trans h.1, fun p hp => ?_⟩
  rcases h2.2 p hp with g | ⟨p1, g1, g2⟩
  · exact Or.inl (g.trans h.1)
  · rcases h.2 p1 g1 with f | ⟨p0, f1, f2⟩
    · exact Or.inl (g2.trans f)
    · exact Or.inr ⟨p0, f1, g2.trans f2⟩
theorem Y1_lk {S S' : Nat → Int32} (hn : s_n S ≤ 12) (h : ∀ i, i < 145 ∨ i = 206 → S' i = S i) : Y1 S S' := by
  refine ⟨h 206 (by omega), fun p hp => ?_⟩
  rw [s_n_e (h 0 (by omega))] at hp
  exact Or.inr ⟨p, hp, h _ (by omega)⟩
theorem Y1_cl {S : Nat → Int32} {p c : Nat} (w : s_wf S) (hp : p < s_n S) (hc : c < 5) : Y1 S (s_cl S p c) := by
  refine ⟨s_cl_hi w.1.2 (by omega) (by omega) hc, fun k hk => ?_⟩
  rw [s_n_cl w hp] at hk
  exact Or.inr ⟨s_ix p k, s_ix_lt hk, s_cl_lk hp w.1.2 hk (by omega) (by omega)⟩
theorem Y1_fr {S : Nat → Int32} {p : Nat} (w : s_wf S) (hp : p < s_n S) : Y1 S (s_fr S p) := by
  have wn := w.1.2
  refine ⟨s_fr_ne (by omega) (by omega) (by omega) (by omega), fun k hk => ?_⟩
  rw [s_n_e (s_fr_ne (by omega) (by omega) (by omega) (by omega))] at hk
  by_cases c : k = p
  · rw [c]
    exact Or.inl (s_fr_at (by omega)).2.2.1
  · exact Or.inr ⟨k, hk, s_fr_ne (by omega) (by omega) (by omega) (by omega)⟩
theorem Y1_op {S : Nat → Int32} (w : s_wf S) (hn : s_n S < 12) : Y1 S (s_op S) := by
  refine ⟨s_op_ne (by omega) (by omega) (by omega) (by omega), fun k hk => ?_⟩
  rw [s_n_op w.1.1 hn] at hk
  by_cases c : k = s_n S
  · rw [c]
    exact Or.inl (s_op_at hn).2.2.2.2.2.1
  · exact Or.inr ⟨k, by omega, s_op_ne (by omega) (by omega) (by omega) (by omega)⟩
theorem Y1_ld {S : Nat → Int32} {p : Nat} {x : Int32} (w : s_wf S) (hp : p < s_n S) : Y1 S (s_ld S p x) := by
  have wn := w.1.2
  refine ⟨s_ld_ne (by omega) (by omega) (by omega) (by omega), fun k hk => ?_⟩
  rw [s_n_e (s_ld_ne (by omega) (by omega) (by omega) (by omega))] at hk
  by_cases c : k = p
  · rw [c]
    exact Or.inl (s_ld_at (by omega)).2.1
  · exact Or.inr ⟨k, hk, s_ld_ne (by omega) (by omega) (by omega) (by omega)⟩
theorem Y1_uq {S : Nat → Int32} {k : Nat} (w : s_wf S) (hk : k < s_q S) : Y1 S (s_uq S k) := by
  have wq := w.2.1.2
  refine Y1_lk w.1.2 (fun i hi => s_uq_ne (by omega))
theorem Y1_ac {S : Nat → Int32} {i : Nat} {x : Int32} (w : s_wf S) (h : 145 ≤ i) (h2 : i ≠ 206) : Y1 S (upd S i x) := Y1_lk w.1.2 (fun j hj => q_upd_ne (by omega))
theorem Y1_s1 {T : Nat → Int32} (hn : s_n T ≤ 12) (hq : s_q T ≤ 20) (hk : 0 < s_q T) : Y1 T (s_s1 T) := by
  refine Y1_lk hn (fun i hi => ?_)
  unfold s_s1
  rw [q_upd_ne (by omega), q_upd_ne (by omega), s_uq_ne (by omega)]
theorem Y1_lb : ∀ (f : Nat) (S : Nat → Int32), s_wf S → Y1 S (s_lb f S).2
  | 0, S, _ => Y1_rfl S
  | f + 1, S, w => by
    unfold s_lb
    cases h : s_nx S with
    | none => exact Y1_rfl S
    | some p =>
      have hp := s_nx_lt h
      dsimp only
      split
      · exact Y1_tr (Y1_cl w hp (by decide)) (Y1_lb f _ (s_wf_cl w hp (by decide)))
      · exact Y1_rfl S
theorem Y1_fl {S : Nat → Int32} (w : s_wf S) : Y1 S (s_fl S).2 := by
  have h1 := Y1_lb (s_n S) S w
  have h2 := (s_wf_lb (s_n S) S w).1
  unfold s_fl
  rcases hr : s_lb (s_n S) S with ⟨_ | p, S'⟩ <;> rw [hr] at h1 h2
  · dsimp only at h1 h2 ⊢
    by_cases c : S' 0 < S' 207
    · rw [if_pos c]
      have wn := h2.1
      have wm := h2.2.2.1
      rw [wn.1, wm.1, nI_ltI (by omega) (by omega)] at c
      exact Y1_tr h1 (Y1_op h2 (by omega))
    · rw [if_neg c]
      exact h1
  · exact h1
theorem Y1_le {S : Nat → Int32} {x : Int32} (w : s_wf S) : Y1 S (s_le S x).2 := by
  obtain ⟨a1, a2, -, -⟩ := s_fl_eq S w
  have h := Y1_fl w
  rw [s_le_of]
  cases hf : (s_fl S).1 with
  | none => exact h
  | some p => exact Y1_tr h (Y1_ld a1 (a2 p hf))
theorem n12_le {S : Nat → Int32} {x : Int32} (w : s_wf S) : s_n (s_le S x).2 ≤ 12 := by
  obtain ⟨a1, a2, -, -⟩ := s_fl_eq S w
  have wn := a1.1.2
  rw [s_le_of]
  cases hf : (s_fl S).1 with
  | none => exact wn
  | some p =>
    have := a2 p hf
    rw [show s_n (s_ld (s_fl S).2 p x) = s_n (s_fl S).2 from s_n_e (s_ld_ne (by omega) (by omega) (by omega) (by omega))]
    exact wn
theorem Y1_sv : ∀ (f : Nat) (S : Nat → Int32), s_wf S → s_q S = f → Y1 S (s_sv f S).2
  | 0, S, _, _ => Y1_rfl S
  | f + 1, S, w, hf => by
    have h := Y1_le (x := S 146) w
    have h12 := n12_le (x := S 146) w
    unfold s_sv
    rw [if_neg (by omega)]
    rcases hle : s_le S (S 146) with ⟨_ | _, S'⟩
    · rw [hle] at h
      exact h
    · rw [hle] at h h12
      obtain ⟨b1, b2, b3⟩ := s_le_wf w (by omega) hle
      have wq := w.2.1.2
      have eq : s_q S' = s_q S := by
        unfold s_q
        rw [b3, nI_clamp (by omega)]
        rfl
      have h1 := Y1_s1 (T := S') h12 (by omega) (by omega)
      exact Y1_tr (Y1_tr h h1) (Y1_sv f _ b1 (by omega))
theorem Y1_gb {S : Nat → Int32} {p : Nat} (w : s_wf S) (hp : p < s_n S) : Y1 S (s_gb S p) := by
  unfold s_gb
  split
  · exact Y1_cl w hp (by decide)
  · split
    · exact Y1_cl w hp (by decide)
    · exact Y1_fr w hp
theorem Y1_gv {S : Nat → Int32} {p : Nat} (w : s_wf S) (hp : p < s_n S) : Y1 S (s_gv S p).2 := by
  have h := s_wf_gb w hp
  unfold s_gv
  exact Y1_tr (Y1_gb w hp) (Y1_sv _ _ h rfl)
theorem Y1_lq {S : Nat → Int32} {k : Nat} (w : s_wf S) (hk : k < s_q S) : Y1 S (s_lq S k) := by
  unfold s_lq
  exact Y1_tr (Y1_uq w hk) (Y1_ac (s_wf_uq w hk) (by omega) (by omega))
theorem Y1_lp : ∀ (d k : Nat) (S : Nat → Int32), s_wf S → k + d = s_q S → Y1 S (s_lp d k S)
  | 0, _, S, _, _ => Y1_rfl S
  | d + 1, k, S, w, h => by
    unfold s_lp
    split
    · obtain ⟨h1, h2⟩ := s_wf_lq w (k := k) (by omega)
      exact Y1_tr (Y1_lq w (by omega)) (Y1_lp d k _ h1 (by omega))
    · exact Y1_lp d (k + 1) S w (by omega)
theorem Y1_ta : ∀ (d k : Nat) (S : Nat → Int32), s_wf S → k + d = s_n S → Y1 S (s_ta d k S)
  | 0, _, S, _, _ => Y1_rfl S
  | d + 1, k, S, w, h => by
    unfold s_ta
    split
    · exact Y1_tr (Y1_cl w (by omega) (by decide)) (Y1_ta d k _ (s_wf_cl w (by omega) (by decide)) (by rw [s_n_cl w (by omega)]; omega))
    · exact Y1_ta d (k + 1) S w (by omega)
theorem Y1_tb : ∀ (d k : Nat) (S : Nat → Int32), s_wf S → k + d = s_n S → Y1 S (s_tb d k S)
  | 0, _, S, _, _ => Y1_rfl S
  | d + 1, k, S, w, h => by
    unfold s_tb
    split
    · exact Y1_tr (Y1_cl w (by omega) (by decide)) (Y1_tb d k _ (s_wf_cl w (by omega) (by decide)) (by rw [s_n_cl w (by omega)]; omega))
    · exact Y1_tb d (k + 1) S w (by omega)
theorem Y1_cr : ∀ (f : Nat) (S : Nat → Int32), s_wf S → Y1 S (s_cr f S)
  | 0, S, _ => Y1_rfl S
  | f + 1, S, w => by
    unfold s_cr
    split
    · cases h : s_fo S false (s_n S) with
      | none => exact Y1_rfl S
      | some p =>
        dsimp only
        split
        · exact Y1_tr (Y1_cl w (s_fo_lt h) (by decide)) (Y1_cr f _ (s_wf_cl w (s_fo_lt h) (by decide)))
        · exact Y1_rfl S
    · exact Y1_rfl S
theorem Y1_tm : ∀ (f : Nat) (S : Nat → Int32), s_wf S → Y1 S (s_tm f S)
  | 0, S, _ => Y1_rfl S
  | f + 1, S, w => by
    unfold s_tm
    split
    · cases h : s_fo S false (s_n S) with
      | none => exact Y1_rfl S
      | some p => exact Y1_tr (Y1_cl w (s_fo_lt h) (by decide)) (Y1_tm f _ (s_wf_cl w (s_fo_lt h) (by decide)))
    · exact Y1_rfl S
theorem Y1_ol : ∀ (f : Nat) (S : Nat → Int32), s_wf S → Y1 S (s_ol f S)
  | 0, S, _ => Y1_rfl S
  | f + 1, S, w => by
    unfold s_ol
    split
    · rename_i h
      have hn : s_n S < 12 := by have := w.2.2.1.2; omega
      exact Y1_tr (Y1_op w hn) (Y1_ol f _ (s_wf_op w hn))
    · exact Y1_rfl S
theorem Y1_tw {S : Nat → Int32} (w : s_wf S) : Y1 S (s_tw S) := by
  rw [s_tw_1]
  exact Y1_tr (Y1_ta _ 0 _ w (by omega)) (Y1_tb _ 0 _ (s_wf_ta _ 0 _ w (by omega)) (by omega))
theorem Y1_tk {S : Nat → Int32} (w : s_wf S) : Y1 (s_t0 S) (s_tk S).2 := by
  have w0 := s_wf_t0 w
  have w1 := s_wf_lp (s_q (s_t0 S)) 0 (s_t0 S) w0 (by omega)
  have w3 := s_wf_t3 w
  have h3 : Y1 (s_t0 S) (s_t3 S) := by
    rw [s_t3_1]
    exact Y1_tr (Y1_lp _ 0 _ w0 (by omega)) (Y1_tr (Y1_tw w1) (Y1_cr _ _ (s_wf_tw w1)))
  have w4 := (s_wf_sv _ _ w3 rfl).1
  have h4 := Y1_sv _ _ w3 rfl
  rw [s_tk_2]
  generalize s_sv (s_q (s_t3 S)) (s_t3 S) = r at w4 h4 ⊢
  exact Y1_tr (Y1_tr h3 h4) (Y1_ol _ _ w4)
theorem Y1_qs {S : Nat → Int32} {x u : Int32} (w : s_wf S) (hq : s_q S < 20) : Y1 S (s_qs S x u) := by
  obtain ⟨e1, e2, e3⟩ := s_qs_at (x := x) (u := u) hq w.2.1.1
  exact Y1_lk w.1.2 (fun i hi => e3 i (by omega))
theorem Y1_as {S : Nat → Int32} {x : Nat} {u : Int32} (w : s_wf S) (hx : x < 20) (hl : s_lk S (nI x) (s_n S) = none) (hq : s_qd S (nI x) (s_q S) = none) : Y1 S (s_as S (nI x) u).2 := by
  unfold s_as
  by_cases c : s_q S = 0
  · rw [if_pos c, s_le_of]
    obtain ⟨a1, a2, a3, a4⟩ := s_fl_eq S w
    have h := Y1_fl w
    have eq : s_q (s_fl S).2 = 0 := by
      rw [s_q_e (a3 145 (by omega) (by omega))]
      exact c
    cases hf : (s_fl S).1 with
    | none => exact Y1_tr h (Y1_qs a1 (by omega))
    | some p => exact Y1_tr h (Y1_ld a1 (a2 p hf))
  · rw [if_neg c]
    exact Y1_qs w (s_q20 w hx hq)
theorem Y1_us {S : Nat → Int32} {p : Nat} {y : Int32} (w : s_wf S) (hp : p < s_n S) : Y1 S (s_us S p y).2 := by
  obtain ⟨⟨w0, wn⟩, ⟨wq, wq2⟩, -, -, -, w1, -⟩ := id w
  obtain ⟨c, hc, h8⟩ := (w1 p hp).2.2
  have hh := s_nu_fi (S := S) (p := p) (n := c) (y := y) (g := fun m => S (9 + 12 * p + m)) (fun m _ => rfl)
  rw [← r_fi_s (S := S) (p := p) c 0 (fun m _ _ => rfl)] at hh
  obtain ⟨-, a8, -, a4, a5, an⟩ := s_us_at (y := y) (by omega) hc h8 rfl hh
  refine ⟨an 206 (by omega) (by omega) (by omega) (by omega), fun k hk => ?_⟩
  rw [s_n_e (an 0 (by omega) (by omega) (by omega) (by omega))] at hk
  exact Or.inr ⟨k, hk, an _ (by omega) (by omega) (by omega) (by omega)⟩
def ZV (S : Nat → Int32) (C U : Nat) : Prop := (∃ t : Nat, t ≤ C ∧ S 206 = nI t) ∧ (∀ p, p < s_n S → ∃ u : Nat, u ≤ C ∧ S (5 + 12 * p) = nI u) ∧ ∃ a b : Nat, S 224 = nI a ∧ S 225 = nI b ∧ a + b ≤ U
theorem ZV_up {S : Nat → Int32} {C C' U U' : Nat} (z : ZV S C U) (h : C ≤ C') (h2 : U ≤ U') : ZV S C' U' := by
  obtain ⟨⟨t, h1, e1⟩, h3, a, b, ha, hb, hab⟩ := z
  refine ⟨⟨t, by omega, e1⟩, fun p hp => ?_, a, b, ha, hb, by omega⟩
  obtain ⟨u, h4, e4⟩ := h3 p hp
  exact ⟨u, by omega, e4⟩
theorem ZV_Y1 {S S' : Nat → Int32} {C U : Nat} (h : Y1 S S') (e4 : S' 224 = S 224) (e5 : S' 225 = S 225) (z : ZV S C U) : ZV S' C U := by
  obtain ⟨⟨t, h1, e1⟩, h3, a, b, ha, hb, hab⟩ := z
  refine ⟨⟨t, h1, h.1.trans e1⟩, fun p hp => ?_, a, b, e4.trans ha, e5.trans hb, hab⟩
  rcases h.2 p hp with g | ⟨p0, g1, g2⟩
  · exact ⟨t, h1, g.trans e1⟩
  · obtain ⟨u, h4, e4⟩ := h3 p0 g1
    exact ⟨u, h4, g2.trans e4⟩
theorem ZV_X1 {S S' : Nat → Int32} {C U d : Nat} (h : Y1 S S') (x : X1 S S' d) (z : ZV S C U) : ZV S' C U := ZV_Y1 h x.1.2.2.1 x.1.2.2.2 z
theorem ZV_lo {S S' : Nat → Int32} {C U : Nat} (h : ∀ i, i < 227 → S' i = S i) (hn : s_n S ≤ 12) (z : ZV S C U) : ZV S' C U := ZV_Y1 (Y1_lk hn (fun i hi => h i (by omega))) (h _ (by omega)) (h _ (by omega)) z
theorem ZV_tk {S : Nat → Int32} {C U : Nat} (w : s_wf S) (z : ZV S C U) : ZV (s_tk S).2 (C + 1) U := by
  have w0 := s_wf_t0 w
  obtain ⟨⟨t, h1, e1⟩, h3, a, b, ha, hb, hab⟩ := z
  have wn := w.1.2
  have z0 : ZV (s_t0 S) (C + 1) U := by
    refine ⟨⟨t + 1, by omega, ?_⟩, fun p hp => ?_, a, b, ?_, ?_, hab⟩
    · show upd S 206 (S 206 + nI 1) 206 = _
      rw [q_upd_eq, e1, nI_add]
    · rw [s_n_e (show s_t0 S 0 = S 0 from q_upd_ne (by omega))] at hp
      obtain ⟨u, h4, e4⟩ := h3 p hp
      exact ⟨u, by omega, (show s_t0 S (5 + 12 * p) = S (5 + 12 * p) from q_upd_ne (by omega)).trans e4⟩
    · exact (show s_t0 S 224 = S 224 from q_upd_ne (by omega)).trans ha
    · exact (show s_t0 S 225 = S 225 from q_upd_ne (by omega)).trans hb
  have x1 := X1_lp (s_q (s_t0 S)) 0 (s_t0 S) w0 (by omega)
  have x2 := X1_tk w
  exact ZV_X1 (Y1_tk w) (X1_tr x1 x2 (Nat.le_refl _)) z0
theorem ZV_ps : ∀ (t : Nat) (S : Nat → Int32) (C U : Nat), s_wf S → ZV S C U → ZV (s_ps t S).2 (C + t) U
  | 0, S, C, U, _, z => z
  | t + 1, S, C, U, w, z => ZV_up (ZV_ps t (s_tk S).2 (C + 1) U (s_wf_tk w).1 (ZV_tk w z)) (by omega) (Nat.le_refl _)
theorem ZV_as {S : Nat → Int32} {x : Nat} {u : Int32} {C U : Nat} (w : s_wf S) (hx : x < 20) (hl : s_lk S (nI x) (s_n S) = none) (hq : s_qd S (nI x) (s_q S) = none) (z : ZV S C U) : ZV (s_as S (nI x) u).2 C U := by
  have e : ∀ i, i = 224 ∨ i = 225 → (s_as S (nI x) u).2 i = S i := by
    intro i hi
    unfold s_as
    by_cases c : s_q S = 0
    · rw [if_pos c, s_le_of]
      obtain ⟨a1, a2, a3, a4⟩ := s_fl_eq S w
      have h := X1_fl w
      have eq : s_q (s_fl S).2 = 0 := by
        rw [s_q_e (a3 145 (by omega) (by omega))]
        exact c
      have hf0 : (s_fl S).2 i = S i := by
        rcases hi with rfl | rfl
        · exact h.1.2.2.1
        · exact h.1.2.2.2
      cases hf : (s_fl S).1 with
      | none => exact ((s_qs_at (x := nI x) (u := u) (by omega) a1.2.1.1).2.2 i (by omega)).trans hf0
      | some p =>
        have := a2 p hf
        have := a1.1.2
        exact (s_ld_ne (by omega) (by omega) (by omega) (by omega)).trans hf0
    · rw [if_neg c]
      exact (s_qs_at (x := nI x) (u := u) (s_q20 w hx hq) w.2.1.1).2.2 i (by omega)
  exact ZV_Y1 (Y1_as w hx hl hq) (e 224 (Or.inl rfl)) (e 225 (Or.inr rfl)) z
theorem ZV_us {S : Nat → Int32} {p : Nat} {y : Int32} {C U : Nat} (w : s_wf S) (hp : p < s_n S) (z : ZV S C U) : ZV (s_us S p y).2 C (U + 1) := by
  have hy := Y1_us (y := y) w hp
  obtain ⟨⟨w0, wn⟩, ⟨wq, wq2⟩, -, -, -, w1, -⟩ := id w
  obtain ⟨c, hc, h8⟩ := (w1 p hp).2.2
  have hh := s_nu_fi (S := S) (p := p) (n := c) (y := y) (g := fun m => S (9 + 12 * p + m)) (fun m _ => rfl)
  rw [← r_fi_s (S := S) (p := p) c 0 (fun m _ _ => rfl)] at hh
  obtain ⟨-, a8, -, a4, a5, an⟩ := s_us_at (y := y) (by omega) hc h8 rfl hh
  obtain ⟨⟨t, h1, e1⟩, h3, a, b, ha, hb, hab⟩ := z
  refine ⟨⟨t, h1, hy.1.trans e1⟩, fun k hk => ?_, ?_⟩
  · rcases hy.2 k hk with g | ⟨p0, g1, g2⟩
    · exact ⟨t, h1, g.trans e1⟩
    · obtain ⟨u, h4, e4⟩ := h3 p0 g1
      exact ⟨u, h4, g2.trans e4⟩
  · by_cases g : s_fi S p y c 0 < c
    · refine ⟨a + 1, b, ?_, ?_, by omega⟩
      · rw [a4, if_pos g, ha, nI_add]
      · rw [a5, if_pos g, hb]
    · refine ⟨a, b + 1, ?_, ?_, by omega⟩
      · rw [a4, if_neg g, ha]
      · rw [a5, if_neg g, hb, nI_add]
theorem ZV_upd {S : Nat → Int32} {i : Nat} {x : Int32} {C U : Nat} (w : s_wf S) (h1 : i ≠ 0) (h2 : (i < 145 ∧ ∀ p, i ≠ 5 + 12 * p) ∨ (207 ≤ i ∧ i < 214)) (z : ZV S C U) : ZV (upd S i x) C U := by
  refine ZV_Y1 ⟨q_upd_ne (by omega), fun p hp => ?_⟩ (q_upd_ne (by omega)) (q_upd_ne (by omega)) z
  rw [s_n_e (q_upd_ne (by omega))] at hp
  have := w.1.2
  refine Or.inr ⟨p, hp, q_upd_ne (fun g => ?_)⟩
  rcases h2 with h2 | h2
  · exact h2.2 p g.symm
  · omega
