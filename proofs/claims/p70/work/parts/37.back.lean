-- TICKS: THE CLASS GOES FROM THE BACK, THE REFERENCE FROM THE FRONT
theorem q_dm1 (d : Nat) : nI d + q_i (-1) = nI d - nI 1 := by
  rw [q_im1, Int32.sub_eq_add_neg, show (-(nI 1) : Int32) = -1 by decide]
abbrev Q_T1 : Type := Nat → Int32
def g_fw (R : Q_T1 → Nat → Q_T1) (P : Q_T1 → Nat → Bool) : Nat → Nat → Q_T1 → Q_T1
  | 0, _, S => S
  | d + 1, k, S => if P S k = true then g_fw R P d k (R S k) else g_fw R P d (k + 1) S
def g_bw (R : Q_T1 → Nat → Q_T1) (P : Q_T1 → Nat → Bool) (lo : Nat) : Nat → Q_T1 → Q_T1
  | 0, S => S
  | d + 1, S => g_bw R P lo d (if P S (lo + d) = true then R S (lo + d) else S)
section GB
variable {R : Q_T1 → Nat → Q_T1} {P : Q_T1 → Nat → Bool} {N : Q_T1 → Nat} {W : Q_T1 → Prop}
theorem g_st (hN : ∀ S k, W S → k < N S → N (R S k) = N S - 1 ∧ W (R S k)) {S : Q_T1} {k : Nat} (w : W S) (hk : k < N S) : W (if P S k = true then R S k else S) ∧ k ≤ N (if P S k = true then R S k else S) := by
  have := hN S k w hk
  split
  · exact ⟨this.2, by omega⟩
  · exact ⟨w, by omega⟩
theorem g_A (hN : ∀ S k, W S → k < N S → N (R S k) = N S - 1 ∧ W (R S k)) (hlo : ∀ S k m, W S → k < m → m < N S → P (R S m) k = P S k) : ∀ (d lo : Nat) (S : Q_T1), W S → lo + d + 1 ≤ N S → g_bw R P lo (d + 1) S = if P S lo = true then R (g_bw R P (lo + 1) d S) lo else g_bw R P (lo + 1) d S
  | 0, lo, S, _, _ => rfl
  | d + 1, lo, S, w, h => by
    have hs := g_st (P := P) hN w (k := lo + (d + 1)) (by omega)
    have ih := g_A hN hlo d lo (if P S (lo + (d + 1)) = true then R S (lo + (d + 1)) else S) hs.1 (by omega)
    have e1 : g_bw R P (lo + 1) (d + 1) S = g_bw R P (lo + 1) d (if P S (lo + (d + 1)) = true then R S (lo + (d + 1)) else S) := by
      show g_bw R P (lo + 1) d (if P S (lo + 1 + d) = true then R S (lo + 1 + d) else S) = _
      rw [show lo + 1 + d = lo + (d + 1) by omega]
    have e2 : P (if P S (lo + (d + 1)) = true then R S (lo + (d + 1)) else S) lo = P S lo := by
      split
      · exact hlo S lo _ w (by omega) (by omega)
      · rfl
    show g_bw R P lo (d + 1) (if P S (lo + (d + 1)) = true then R S (lo + (d + 1)) else S) = _
    rw [ih, e1, e2]
theorem g_cg {E : Q_T1 → Q_T1 → Prop} (hN : ∀ S k, W S → k < N S → N (R S k) = N S - 1 ∧ W (R S k)) (hE : ∀ S S' k, E S S' → W S → k < N S → E (R S k) (R S' k) ∧ P S' k = P S k) : ∀ (d lo : Nat) (S S' : Q_T1), E S S' → W S → lo + d ≤ N S → E (g_bw R P lo d S) (g_bw R P lo d S')
  | 0, lo, S, S', e, _, _ => e
  | d + 1, lo, S, S', e, w, h => by
    have hs := g_st (P := P) hN w (k := lo + d) (by omega)
    have he := hE S S' (lo + d) e w (by omega)
    refine g_cg hN hE d lo _ _ ?_ hs.1 hs.2
    rw [he.2]
    by_cases c : P S (lo + d) = true
    · rw [if_pos c, if_pos c]
      exact he.1
    · rw [if_neg c, if_neg c]
      exact e
theorem g_C {E : Q_T1 → Q_T1 → Prop} (er : ∀ S, E S S) (et : ∀ S S' S'', E S S' → E S' S'' → E S S'') (hN : ∀ S k, W S → k < N S → N (R S k) = N S - 1 ∧ W (R S k)) (hE : ∀ S S' k, E S S' → W S → k < N S → E (R S k) (R S' k) ∧ P S' k = P S k) (hhi : ∀ S k m, W S → k ≤ m → m + 1 < N S → P (R S k) m = P S (m + 1)) (hcm : ∀ S k m, W S → k < m → m < N S → E (R (R S m) k) (R (R S k) (m - 1))) : ∀ (d lo : Nat) (S : Q_T1), W S → lo + 1 + d ≤ N S → E (R (g_bw R P (lo + 1) d S) lo) (g_bw R P lo d (R S lo))
  | 0, lo, S, _, _ => er _
  | d + 1, lo, S, w, h => by
    have hs := g_st (P := P) hN w (k := lo + 1 + d) (by omega)
    have ih := g_C er et hN hE hhi hcm d lo (if P S (lo + 1 + d) = true then R S (lo + 1 + d) else S) hs.1 (by omega)
    refine et _ _ _ ih ?_
    show E _ (g_bw R P lo d (if P (R S lo) (lo + d) = true then R (R S lo) (lo + d) else R S lo))
    have h2 := hN _ lo hs.1 (by omega)
    refine g_cg hN hE d lo _ _ ?_ h2.2 (by omega)
    rw [hhi S lo (lo + d) w (by omega) (by omega), show lo + d + 1 = lo + 1 + d by omega]
    by_cases c : P S (lo + 1 + d) = true
    · rw [if_pos c, if_pos c]
      have := hcm S lo (lo + 1 + d) w (by omega) (by omega)
      rw [show lo + 1 + d - 1 = lo + d by omega] at this
      exact this
    · rw [if_neg c, if_neg c]
      exact er _
theorem g_eq {E : Q_T1 → Q_T1 → Prop} (er : ∀ S, E S S) (et : ∀ S S' S'', E S S' → E S' S'' → E S S'') (hN : ∀ S k, W S → k < N S → N (R S k) = N S - 1 ∧ W (R S k)) (hE : ∀ S S' k, E S S' → W S → k < N S → E (R S k) (R S' k) ∧ P S' k = P S k) (hlo : ∀ S k m, W S → k < m → m < N S → P (R S m) k = P S k) (hhi : ∀ S k m, W S → k ≤ m → m + 1 < N S → P (R S k) m = P S (m + 1)) (hcm : ∀ S k m, W S → k < m → m < N S → E (R (R S m) k) (R (R S k) (m - 1))) : ∀ (d lo : Nat) (S : Q_T1), W S → lo + d ≤ N S → E (g_bw R P lo d S) (g_fw R P d lo S)
  | 0, lo, S, _, _ => er _
  | d + 1, lo, S, w, h => by
    have hs := hN S lo w (by omega)
    rw [g_A hN hlo d lo S w (by omega)]
    show E _ (if P S lo = true then g_fw R P d lo (R S lo) else g_fw R P d (lo + 1) S)
    by_cases c : P S lo = true
    · rw [if_pos c, if_pos c]
      exact et _ _ _ (g_C er et hN hE hhi hcm d lo S w (by omega)) (g_eq er et hN hE hlo hhi hcm d lo (R S lo) hs.2 (by omega))
    · rw [if_neg c, if_neg c]
      exact g_eq er et hN hE hlo hhi hcm d (lo + 1) S w (by omega)
end GB
/-- alike in all that is alive -/
def s_ev (S S' : Nat → Int32) : Prop := ∀ i, i < 1 + 12 * s_n S ∨ (145 ≤ i ∧ i < 146 + 3 * s_q S) ∨ 206 ≤ i → S' i = S i
theorem s_ev_n {S S' : Nat → Int32} (h : s_ev S S') : s_n S' = s_n S := s_n_e (h 0 (by omega))
theorem s_ev_q {S S' : Nat → Int32} (h : s_ev S S') : s_q S' = s_q S := s_q_e (h 145 (by omega))
theorem s_ev_rfl (S : Nat → Int32) : s_ev S S := fun _ _ => rfl
theorem s_ev_tr (S S' S'' : Nat → Int32) (h : s_ev S S') (h2 : s_ev S' S'') : s_ev S S'' := fun i hi => (h2 i (by rw [s_ev_n h, s_ev_q h]; exact hi)).trans (h i hi)
theorem s_ev_wf {S S' : Nat → Int32} (h : s_ev S S') (w : s_wf S) : s_wf S' := by
  obtain ⟨⟨w0, wn⟩, ⟨wq, wq2⟩, -, -, -, w1, -⟩ := id w
  obtain ⟨hm, hl, hb⟩ := s_set_of w (S' := S') (h _ (by omega)) (h _ (by omega)) (h _ (by omega))
  refine s_wf_map w (n := s_n S) (q := s_q S) ((h 0 (by omega)).trans w0) wn ((h 145 (by omega)).trans wq) wq2 hm hl hb id id (fun _ _ h => h) (fun _ _ h => h) (fun k hk => ?_) (fun k hk => ⟨hk, h _ (by omega)⟩)
  rw [h (4 + 12 * k) (by omega), h (8 + 12 * k) (by omega)]
  exact ⟨Or.inr ⟨hk, h _ (by omega)⟩, (w1 _ hk).2⟩
theorem RC0_ev {j : Nat} {M : Q_M} {S S' : Nat → Int32} (h : s_ev S S') (hR : RC0 j M S) (hn : s_n S ≤ 12) (hq : s_q S ≤ 20) : RC0 j M S' := by
  obtain ⟨hst, hcs, hqu, hse, hac⟩ := hR
  refine ⟨r_st_c hst (h _ (by omega)) (h _ (by omega)) (h _ (by omega)), ⟨hcs.1, fun q hq => ?_⟩, ⟨by rw [h 145 (by omega)]; exact hqu.1, fun k hk => ?_⟩, r_se_c hse (fun i h1 h2 => h _ (by omega)), r_ac_c hac (fun i h1 h2 => h _ (by omega))⟩
  · rw [s_ev_n h] at hq
    exact r_cn_c (fun i h1 h2 => h _ (by omega)) (hcs.2 q hq)
  · rw [s_ev_q h] at hk
    rw [h _ (by omega), h _ (by omega), h _ (by omega)]
    exact hqu.2 k hk
theorem RC_ev {j : Nat} {M : Q_M} {S S' : Nat → Int32} (h : s_ev S S') (hR : RC j M S) : RC j M S' := ⟨s_ev_wf h hR.1, RC0_ev h hR.2 hR.1.1.2 hR.1.2.1.2⟩
theorem s_ev_cl {S S' : Nat → Int32} {k c : Nat} (h : s_ev S S') (w : s_wf S) (hk : k < s_n S) (hc : c < 5) : s_ev (s_cl S k c) (s_cl S' k c) := by
  have en := s_n_cl w (p := k) (c := c) hk
  have wn := w.1.2
  have wq := w.2.1.2
  have eq : s_q (s_cl S k c) = s_q S := s_q_e (s_cl_hi wn (by omega) (by omega) hc)
  intro i hi
  rw [en, eq] at hi
  unfold s_cl
  rw [s_ev_n h]
  by_cases c0 : i = 0
  · rw [if_pos c0, if_pos c0, h 0 (by omega)]
  · rw [if_neg c0, if_neg c0]
    by_cases c1 : 1 + 12 * k ≤ i ∧ i < 1 + 12 * (s_n S - 1)
    · rw [if_pos c1, if_pos c1, h _ (by omega)]
    · rw [if_neg c1, if_neg c1, h i (by omega)]
theorem s_ev_lq {S S' : Nat → Int32} {k : Nat} (h : s_ev S S') (w : s_wf S) (hk : k < s_q S) : s_ev (s_lq S k) (s_lq S' k) := by
  have eq := (s_wf_lq w hk).2
  have wn := w.1.2
  have wq := w.2.1.2
  have en : s_n (s_lq S k) = s_n S := s_n_e (by unfold s_lq; rw [q_upd_ne (by omega), s_uq_ne (by omega)])
  intro i hi
  rw [en, eq] at hi
  unfold s_lq
  by_cases c : i = 221
  · rw [c, q_upd_eq, q_upd_eq, s_uq_ne (by rw [s_ev_q h]; omega), s_uq_ne (by omega), h _ (by omega)]
  · rw [q_upd_ne c, q_upd_ne c]
    unfold s_uq
    rw [s_ev_q h]
    by_cases c0 : i = 145
    · rw [if_pos c0, if_pos c0, h _ (by omega)]
    · rw [if_neg c0, if_neg c0]
      by_cases c1 : 146 + 3 * k ≤ i ∧ i < 146 + 3 * (s_q S - 1)
      · rw [if_pos c1, if_pos c1, h _ (by omega)]
      · rw [if_neg c1, if_neg c1, h i (by omega)]
theorem s_cl_at {S : Nat → Int32} {p c : Nat} (hn : s_n S ≤ 12) (hp : p < s_n S) {m f : Nat} (hm : m + 1 < s_n S) (hf : 1 ≤ f) (hf2 : f < 13) : s_cl S p c (f + 12 * m) = S (f + 12 * s_ix p m) := s_cl_lk hp hn (by omega) hf hf2
theorem s_cl_cm {S : Nat → Int32} {c k m : Nat} (w : s_wf S) (hc : c < 5) (hk : k < m) (hm : m < s_n S) : s_ev (s_cl (s_cl S m c) k c) (s_cl (s_cl S k c) (m - 1) c) := by
  have wn := w.1.2
  have n1 := s_n_cl w (p := m) (c := c) hm
  have n2 := s_n_cl w (p := k) (c := c) (by omega)
  have n3 := s_n_cl (s_wf_cl w hm hc) (p := k) (c := c) (by omega)
  have q3 : s_q (s_cl (s_cl S m c) k c) = s_q S := (s_q_e (s_cl_hi (by omega) (by omega) (by omega) hc)).trans (s_q_e (s_cl_hi wn (by omega) (by omega) hc))
  have wq := w.2.1.2
  intro i hi
  refine Eq.symm ?_
  rw [n3, q3, n1] at hi
  unfold s_cl at n1 n2 ⊢
  rw [n1, n2]
  by_cases h0 : i = 0
  · rw [if_pos h0, if_pos h0, if_pos rfl, if_pos rfl]
  · rw [if_neg h0, if_neg h0, if_neg h0, if_neg h0]
    by_cases hx : i = 215 + c
    · rw [hx]
      rw [if_neg (by omega), if_pos rfl, if_neg (by omega), if_pos rfl, if_neg (by omega), if_pos rfl, if_neg (by omega)]
    · simp only [if_neg hx]
      by_cases a : 1 + 12 * k ≤ i ∧ i < 1 + 12 * (s_n S - 1 - 1)
      · rw [if_pos a, if_neg (show ¬ i + 12 = 0 by omega), if_neg (show ¬ i + 12 = 215 + c by omega)]
        by_cases b : 1 + 12 * (m - 1) ≤ i
        · rw [if_pos (show 1 + 12 * (m - 1) ≤ i ∧ i < 1 + 12 * (s_n S - 1 - 1) by omega), if_neg (show ¬ i + 12 = 0 by omega), if_pos (show 1 + 12 * m ≤ i + 12 ∧ i + 12 < 1 + 12 * (s_n S - 1) by omega), if_pos (show 1 + 12 * k ≤ i + 12 ∧ i + 12 < 1 + 12 * (s_n S - 1) by omega)]
        · rw [if_neg (show ¬ (1 + 12 * (m - 1) ≤ i ∧ i < 1 + 12 * (s_n S - 1 - 1)) by omega), if_neg (show ¬ (1 + 12 * m ≤ i + 12 ∧ i + 12 < 1 + 12 * (s_n S - 1)) by omega), if_pos (show 1 + 12 * k ≤ i ∧ i < 1 + 12 * (s_n S - 1) by omega)]
      · rw [if_neg a, if_neg (show ¬ (1 + 12 * (m - 1) ≤ i ∧ i < 1 + 12 * (s_n S - 1 - 1)) by omega)]
        by_cases b : 1 + 12 * m ≤ i ∧ i < 1 + 12 * (s_n S - 1)
        · rw [if_pos b, if_pos (show 1 + 12 * k ≤ i ∧ i < 1 + 12 * (s_n S - 1) by omega)]
        · rw [if_neg b]
          by_cases g : 1 + 12 * k ≤ i ∧ i < 1 + 12 * (s_n S - 1)
          · omega
          · rw [if_neg g]
theorem s_lq_cm {S : Nat → Int32} {k m : Nat} (w : s_wf S) (hk : k < m) (hm : m < s_q S) : s_ev (s_lq (s_lq S m) k) (s_lq (s_lq S k) (m - 1)) := by
  have wq := w.2.1.2
  have n1 := (s_wf_lq w (k := m) hm).2
  have n2 := (s_wf_lq w (k := k) (by omega)).2
  have v : ∀ (T : Nat → Int32) (a i : Nat), s_q T ≤ 20 → s_lq T a i = if i = 145 then T 145 - nI 1 else if i = 221 then T 221 + nI 1 else if 146 + 3 * a ≤ i ∧ i < 146 + 3 * (s_q T - 1) then T (i + 3) else T i := by
    intro T a i hT
    unfold s_lq
    by_cases h : i = 221
    · rw [h, q_upd_eq, if_neg (by omega), if_pos rfl, s_uq_ne (by omega)]
    · rw [q_upd_ne h]
      unfold s_uq
      by_cases g : i = 145
      · rw [if_pos g, if_pos g]
      · rw [if_neg g, if_neg g, if_neg h]
  have n3 := (s_wf_lq (s_wf_lq w (k := m) hm).1 (k := k) (by omega)).2
  have wn := w.1.2
  have en : ∀ (T : Nat → Int32) a, s_q T ≤ 20 → s_n (s_lq T a) = s_n T := fun T a hT => s_n_e (by unfold s_lq; rw [q_upd_ne (by omega), s_uq_ne (by omega)])
  have e3 := en (s_lq S m) k (by omega)
  rw [en S m wq] at e3
  intro i hi
  refine Eq.symm ?_
  rw [n3, n1, e3] at hi
  rw [v (s_lq S m) k i (by omega), v (s_lq S k) (m - 1) i (by omega), n1, n2]
  by_cases h0 : i = 145
  · rw [if_pos h0, if_pos h0, v _ _ _ wq, v _ _ _ wq, if_pos rfl, if_pos rfl]
  · rw [if_neg h0, if_neg h0]
    by_cases hx : i = 221
    · rw [if_pos hx, if_pos hx, v _ _ _ wq, v _ _ _ wq, if_neg (by omega), if_pos rfl, if_neg (by omega), if_pos rfl]
    · rw [if_neg hx, if_neg hx]
      by_cases a : 146 + 3 * k ≤ i ∧ i < 146 + 3 * (s_q S - 1 - 1)
      · rw [if_pos a, v _ _ _ wq, if_neg (show ¬ i + 3 = 145 by omega), if_neg (show ¬ i + 3 = 221 by omega)]
        by_cases b : 146 + 3 * (m - 1) ≤ i
        · rw [if_pos (show 146 + 3 * (m - 1) ≤ i ∧ i < 146 + 3 * (s_q S - 1 - 1) by omega), if_pos (show 146 + 3 * m ≤ i + 3 ∧ i + 3 < 146 + 3 * (s_q S - 1) by omega), v _ _ _ wq, if_neg (show ¬ i + 3 = 145 by omega), if_neg (show ¬ i + 3 = 221 by omega), if_pos (show 146 + 3 * k ≤ i + 3 ∧ i + 3 < 146 + 3 * (s_q S - 1) by omega)]
        · rw [if_neg (show ¬ (146 + 3 * (m - 1) ≤ i ∧ i < 146 + 3 * (s_q S - 1 - 1)) by omega), if_neg (show ¬ (146 + 3 * m ≤ i + 3 ∧ i + 3 < 146 + 3 * (s_q S - 1)) by omega), v _ _ _ wq, if_neg h0, if_neg hx, if_pos (show 146 + 3 * k ≤ i ∧ i < 146 + 3 * (s_q S - 1) by omega)]
      · rw [if_neg a, if_neg (show ¬ (146 + 3 * (m - 1) ≤ i ∧ i < 146 + 3 * (s_q S - 1 - 1)) by omega), v _ _ _ wq, v _ _ _ wq, if_neg h0, if_neg hx, if_neg h0, if_neg hx]
        by_cases b : 146 + 3 * m ≤ i ∧ i < 146 + 3 * (s_q S - 1)
        · rw [if_pos b, if_pos (show 146 + 3 * k ≤ i ∧ i < 146 + 3 * (s_q S - 1) by omega)]
        · rw [if_neg b]
          by_cases g : 146 + 3 * k ≤ i ∧ i < 146 + 3 * (s_q S - 1)
          · omega
          · rw [if_neg g]
def p_lq (S : Nat → Int32) (k : Nat) : Bool := decide (S 212 ≤ S 206 - S (148 + 3 * k))
def p_ta (S : Nat → Int32) (k : Nat) : Bool := decide (¬ S (3 + 12 * k) < 0 ∧ S 211 ≤ S 206 - S (5 + 12 * k))
def p_tb (S : Nat → Int32) (k : Nat) : Bool := decide (S (3 + 12 * k) < 0 ∧ S 209 ≤ S 206 - S (2 + 12 * k))
theorem s_lp_fw : ∀ (d k : Nat) (S : Nat → Int32), s_lp d k S = g_fw s_lq p_lq d k S
  | 0, _, _ => rfl
  | d + 1, k, S => by
    unfold s_lp g_fw p_lq
    rw [s_lp_fw d k, s_lp_fw d (k + 1)]
    by_cases c : S 212 ≤ S 206 - S (148 + 3 * k)
    · rw [if_pos c, if_pos (decide_eq_true c)]
      rfl
    · rw [if_neg c, if_neg (by simp [c])]
      rfl
theorem s_ta_fw : ∀ (d k : Nat) (S : Nat → Int32), s_ta d k S = g_fw (fun S k => s_cl S k 3) p_ta d k S
  | 0, _, _ => rfl
  | d + 1, k, S => by
    unfold s_ta g_fw p_ta
    rw [s_ta_fw d k, s_ta_fw d (k + 1)]
    by_cases c : ¬ S (3 + 12 * k) < 0 ∧ S 211 ≤ S 206 - S (5 + 12 * k)
    · rw [if_pos c, if_pos (decide_eq_true c)]
      rfl
    · rw [if_neg c, if_neg (fun g => c (of_decide_eq_true g))]
      rfl
theorem s_tb_fw : ∀ (d k : Nat) (S : Nat → Int32), s_tb d k S = g_fw (fun S k => s_cl S k 0) p_tb d k S
  | 0, _, _ => rfl
  | d + 1, k, S => by
    unfold s_tb g_fw p_tb
    rw [s_tb_fw d k, s_tb_fw d (k + 1)]
    by_cases c : S (3 + 12 * k) < 0 ∧ S 209 ≤ S 206 - S (2 + 12 * k)
    · rw [if_pos c, if_pos (decide_eq_true c)]
      rfl
    · rw [if_neg c, if_neg (fun g => c (of_decide_eq_true g))]
      rfl
theorem s_lq_e {S : Nat → Int32} {k m f : Nat} (w : s_wf S) (hm : m < s_q S - 1) (h1 : 146 ≤ f) (h2 : f < 149) : s_lq S k (f + 3 * m) = S (f + 3 * s_ix k m) := by
  have wq := w.2.1.2
  unfold s_lq
  rw [q_upd_ne (by omega)]
  exact s_uq_at hm h1 h2
theorem s_lq_h {S : Nat → Int32} {k i : Nat} (h : 206 ≤ i) (hq : s_q S ≤ 20) (h2 : i ≠ 221) : s_lq S k i = S i := by
  unfold s_lq
  rw [q_upd_ne h2, s_uq_ne (by omega)]
theorem s_lp_bw {S : Nat → Int32} (w : s_wf S) : s_ev (g_bw s_lq p_lq 0 (s_q S) S) (s_lp (s_q S) 0 S) := by
  rw [s_lp_fw]
  refine g_eq (N := s_q) (W := s_wf) (E := s_ev) s_ev_rfl s_ev_tr (fun S k w hk => ⟨(s_wf_lq w hk).2, (s_wf_lq w hk).1⟩) (fun S S' k e w hk => ⟨s_ev_lq e w hk, by unfold p_lq; rw [e 212 (by omega), e 206 (by omega), e (148 + 3 * k) (by omega)]⟩) (fun S k m w hk hm => ?_) (fun S k m w hk hm => ?_) (fun S k m w hk hm => s_lq_cm w hk hm) _ 0 S w (by omega)
  · have wq := w.2.1.2
    unfold p_lq
    rw [s_lq_h (by omega) wq (by omega), s_lq_h (by omega) wq (by omega), s_lq_e w (by omega) (by omega) (by omega)]
    unfold s_ix
    rw [if_neg (by omega)]
  · have wq := w.2.1.2
    unfold p_lq
    rw [s_lq_h (by omega) wq (by omega), s_lq_h (by omega) wq (by omega), s_lq_e w (by omega) (by omega) (by omega)]
    unfold s_ix
    rw [if_pos hk]
theorem s_ta_bw {S : Nat → Int32} (w : s_wf S) : s_ev (g_bw (fun S k => s_cl S k 3) p_ta 0 (s_n S) S) (s_ta (s_n S) 0 S) := by
  rw [s_ta_fw]
  refine g_eq (N := s_n) (W := s_wf) (E := s_ev) s_ev_rfl s_ev_tr (fun S k w hk => ⟨s_n_cl w hk, s_wf_cl w hk (by decide)⟩) (fun S S' k e w hk => ⟨s_ev_cl e w hk (by decide), by unfold p_ta; rw [e 211 (by omega), e 206 (by omega), e (3 + 12 * k) (by omega), e (5 + 12 * k) (by omega)]⟩) (fun S k m w hk hm => ?_) (fun S k m w hk hm => ?_) (fun S k m w hk hm => s_cl_cm w (by decide) hk hm) _ 0 S w (by omega)
  · have wn := w.1.2
    unfold p_ta
    rw [s_cl_hi (i := 206) wn (by omega) (by omega) (by decide), s_cl_hi (i := 211) wn (by omega) (by omega) (by decide), s_cl_at (m := k) (f := 3) wn hm (by omega) (by omega) (by omega), s_cl_at (m := k) (f := 5) wn hm (by omega) (by omega) (by omega)]
    unfold s_ix
    rw [if_neg (by omega)]
  · have wn := w.1.2
    unfold p_ta
    rw [s_cl_hi (i := 206) wn (by omega) (by omega) (by decide), s_cl_hi (i := 211) wn (by omega) (by omega) (by decide), s_cl_at (m := m) (f := 3) wn (by omega) (by omega) (by omega) (by omega), s_cl_at (m := m) (f := 5) wn (by omega) (by omega) (by omega) (by omega)]
    unfold s_ix
    rw [if_pos hk]
theorem s_tb_bw {S : Nat → Int32} (w : s_wf S) : s_ev (g_bw (fun S k => s_cl S k 0) p_tb 0 (s_n S) S) (s_tb (s_n S) 0 S) := by
  rw [s_tb_fw]
  refine g_eq (N := s_n) (W := s_wf) (E := s_ev) s_ev_rfl s_ev_tr (fun S k w hk => ⟨s_n_cl w hk, s_wf_cl w hk (by decide)⟩) (fun S S' k e w hk => ⟨s_ev_cl e w hk (by decide), by unfold p_tb; rw [e 209 (by omega), e 206 (by omega), e (3 + 12 * k) (by omega), e (2 + 12 * k) (by omega)]⟩) (fun S k m w hk hm => ?_) (fun S k m w hk hm => ?_) (fun S k m w hk hm => s_cl_cm w (by decide) hk hm) _ 0 S w (by omega)
  · have wn := w.1.2
    unfold p_tb
    rw [s_cl_hi (i := 206) wn (by omega) (by omega) (by decide), s_cl_hi (i := 209) wn (by omega) (by omega) (by decide), s_cl_at (m := k) (f := 3) wn hm (by omega) (by omega) (by omega), s_cl_at (m := k) (f := 2) wn hm (by omega) (by omega) (by omega)]
    unfold s_ix
    rw [if_neg (by omega)]
  · have wn := w.1.2
    unfold p_tb
    rw [s_cl_hi (i := 206) wn (by omega) (by omega) (by decide), s_cl_hi (i := 209) wn (by omega) (by omega) (by decide), s_cl_at (m := m) (f := 3) wn (by omega) (by omega) (by omega) (by omega), s_cl_at (m := m) (f := 2) wn (by omega) (by omega) (by omega) (by omega)]
    unfold s_ix
    rw [if_pos hk]
theorem g_bw_1 {R : Q_T1 → Nat → Q_T1} {P : Q_T1 → Nat → Bool} {d : Nat} {S : Q_T1} : g_bw R P 0 (d + 1) S = g_bw R P 0 d (if P S d = true then R S d else S) := by
  show g_bw R P 0 d (if P S (0 + d) = true then R S (0 + d) else S) = _
  rw [Nat.zero_add]
abbrev pX7_losePatience : Q_P := fun av M K KX => ∃ (j : Nat) (S : Nat → Int32), RC j M S ∧ av = [.inr (.inl (10, j, 0))] ∧ ∀ M', RC j M' (s_lp (s_q S) 0 S) → q_sm j M M' → K none M'
theorem cX7_losePatience_ct {l : Launch} {b : Bool} (hl0 : l.stackTraces = false) : q_Ct l b 60 pX7_losePatience := by
  refine q_meth (by decide +kernel) hl0 TX7_losePatience kX7_losePatience ?_
  intro av M K KX hwf
  rintro ⟨j, S, hR, rfl, hK⟩
  refine ⟨Nat.le_of_ble_eq_true rfl, fun Z hz hw => ?_⟩
  have hK : ∀ M', RC j M' (g_bw s_lq p_lq 0 (s_q S) S) → q_sm j M M' → K none M' := fun M' h1 h2 => hK M' (RC_ev (s_lp_bw hR.1) h1) h2
  have loop : ∀ (d : Nat) (S1 : Nat → Int32) (M1 : Q_M), RC j M1 S1 → q_sm j M M1 → d ≤ s_q S1 → (∀ M', RC j M' (g_bw s_lq p_lq 0 d S1) → q_sm j M M' → K none M') → Z 0 10 [(1, .inl (nI d - nI 1)), (0, .inr (.inl (10, j, 0)))] [] M1 := by
    intro d
    induction d with
    | zero =>
      intro S1 M1 hR hsm _ hK
      apply hz [10] 60
      exact And.intro (fun _ => hK M1 hR hsm) (fun g => absurd (show nI 0 - nI 1 < nI 0 by decide) g)
    | succ d ih =>
      intro S1 M1 hR hsm hd hK
      rw [g_bw_1] at hK
      have wq := hR.1.2.1
      have e1 : nI (d + 1) - nI 1 = nI d := pk_sub (b := 1) (by omega)
      have ep : M1.1 16 j 0 5 = S1 212 := hR.2.2.2.2.1 5 (by omega)
      rw [e1]
      apply hz [10] 60
      refine And.intro (fun (g : nI d < nI 0) => absurd g (nI_pos (by omega))) (fun _ => ?_)
      refine Exists.intro _ ⟨cX7_waitAt_ct hl0, j, S1, d, hR.2, wq.2, by omega, rfl, ?_⟩
      refine And.intro (fun (g : S1 206 - S1 (148 + 3 * d) < M1.1 16 j 0 5) => ?_) (fun (g : ¬ S1 206 - S1 (148 + 3 * d) < M1.1 16 j 0 5) => ?_)
      · rw [ep] at g
        rw [if_neg (show ¬ p_lq S1 d = true from fun h => absurd (of_decide_eq_true h) (Int32.not_le.mpr g))] at hK
        have h := ih S1 M1 hR hsm (by omega) hK
        rw [← q_dm1 d] at h
        exact h
      · rw [ep] at g
        rw [if_pos (show p_lq S1 d = true from decide_eq_true (Int32.not_lt.mp g))] at hK
        refine Exists.intro _ ⟨cX5_removeAt_ct hl0, j, d, S1, hR.2, hR.1.1.2, wq.2, wq.1, by omega, rfl, fun M2 h1 h2 => ?_⟩
        have hw2 := s_wf_lq hR.1 (k := d) (by omega)
        have hw3 := s_wf_uq hR.1 (k := d) (by omega)
        have r := RC0_ac (i := 1) (x := M2.1 17 j 0 3 + nI 1) h1 hw3.1.2 hw3.2.1.2 (by omega)
        have e3 : M2.1 17 j 0 3 = s_uq S1 d 221 := h1.2.2.2.2.2.2 1 (by omega)
        have er : upd (s_uq S1 d) (220 + 1) (M2.1 17 j 0 3 + nI 1) = s_lq S1 d := by
          rw [e3]
          rfl
        rw [er] at r
        have h := ih (s_lq S1 d) _ ⟨hw2.1, r⟩ (q_sm_tr hsm (q_sm_tr h2 (q_sm_si q_sm_rfl (by decide) (by decide)))) (by omega) hK
        rw [← q_dm1 d] at h
        exact h
  have e0 : M.1 12 j 0 0 = nI (s_q S) := hR.2.2.2.1.1.trans hR.1.2.1.1
  apply hz [10] 60
  have h := loop (s_q S) S M hR q_sm_rfl (Nat.le_refl _) hK
  rw [← e0] at h
  exact h
abbrev pX7_takeLeasesAway : Q_P := fun av M K KX => ∃ (j : Nat) (S : Nat → Int32), RC j M S ∧ av = [.inr (.inl (10, j, 0))] ∧ ∀ M', RC j M' (s_ta (s_n S) 0 S) → q_sm j M M' → K none M'
theorem cX7_takeLeasesAway_ct {l : Launch} {b : Bool} (hl0 : l.stackTraces = false) : q_Ct l b 61 pX7_takeLeasesAway := by
  refine q_meth (by decide +kernel) hl0 TX7_takeLeasesAway kX7_takeLeasesAway ?_
  intro av M K KX hwf
  rintro ⟨j, S, hR, rfl, hK⟩
  refine ⟨Nat.le_of_ble_eq_true rfl, fun Z hz hw => ?_⟩
  have hK : ∀ M', RC j M' (g_bw (fun S k => s_cl S k 3) p_ta 0 (s_n S) S) → q_sm j M M' → K none M' := fun M' h1 h2 => hK M' (RC_ev (s_ta_bw hR.1) h1) h2
  have loop : ∀ (d : Nat) (S1 : Nat → Int32) (M1 : Q_M) (ls : List (Nat × Q_V)), RC j M1 S1 → q_sm j M M1 → d ≤ s_n S1 → (∀ M', RC j M' (g_bw (fun S k => s_cl S k 3) p_ta 0 d S1) → q_sm j M M' → K none M') → Z 0 7 ((1, .inl (nI d - nI 1)) :: (0, .inr (.inl (10, j, 0))) :: ls) [] M1 := by
    intro d
    induction d with
    | zero =>
      intro S1 M1 ls hR hsm _ hK
      refine hw [(1, .inl (nI 0 - nI 1)), (0, .inr (.inl (10, j, 0)))] _ _ _ _ _ ?_ (fun q hq => ?_)
      · apply hz [7] 60
        exact And.intro (fun _ => hK M1 hR hsm) (fun g => absurd (show nI 0 - nI 1 < nI 0 by decide) g)
      · rcases List.mem_cons.mp hq with rfl | hq
        · exact List.mem_cons_self
        · rcases List.mem_cons.mp hq with rfl | hq
          · exact List.mem_cons_of_mem _ List.mem_cons_self
          · exact absurd hq (List.not_mem_nil)
    | succ d ih =>
      intro S1 M1 ls hR hsm hd hK
      rw [g_bw_1] at hK
      have wn := hR.1.1
      have e1 : nI (d + 1) - nI 1 = nI d := pk_sub (b := 1) (by omega)
      have ep : M1.1 16 j 0 4 = S1 211 := hR.2.2.2.2.1 4 (by omega)
      have et : M1.1 10 j 0 0 = S1 206 := hR.2.1.1
      have hcn := hR.2.2.1.2 d (by omega)
      have ew : M1.1 19 j (M1.2.1 11 j 0 d) 3 = S1 (3 + 12 * d) := hcn.1.2.2.2
      have ef : M1.1 19 j (M1.2.1 11 j 0 d) 4 = S1 (5 + 12 * d) := hcn.2.1.1
      have hl := s_neg (hR.1.2.2.2.2.2.1 d (by omega))
      have skip : ∀ (M2 : Q_M) (S2 : Nat → Int32), RC j M2 S2 → q_sm j M M2 → d ≤ s_n S2 → (∀ M', RC j M' (g_bw (fun S k => s_cl S k 3) p_ta 0 d S2) → q_sm j M M' → K none M') → Z 0 50 [(2, .inr (.inl (19, j, M1.2.1 11 j 0 d))), (1, .inl (nI d)), (0, .inr (.inl (10, j, 0)))] [] M2 := by
        intro M2 S2 hR2 hsm2 hd2 hK2
        apply hz [7] 60
        have h := ih S2 M2 [(2, .inr (.inl (19, j, M1.2.1 11 j 0 d)))] hR2 hsm2 hd2 hK2
        rw [← q_dm1 d] at h
        refine hw _ _ _ _ _ _ h (fun q hq => ?_)
        simp only [List.mem_cons] at hq
        rcases hq with rfl | rfl | rfl | hq
        · exact List.mem_cons_self
        · exact List.mem_cons_of_mem _ (List.mem_cons_of_mem _ List.mem_cons_self)
        · exact List.mem_cons_of_mem _ List.mem_cons_self
        · exact absurd hq (List.not_mem_nil)
      have skip2 : (∀ M', RC j M' (g_bw (fun S k => s_cl S k 3) p_ta 0 d S1) → q_sm j M M' → K none M') → Z 0 50 [(2, .inr (.inl (19, j, M1.2.1 11 j 0 d))), (1, .inl (nI d)), (0, .inr (.inl (10, j, 0)))] [] M1 := fun h => skip M1 S1 hR hsm (by omega) h
      rw [e1]
      refine hw [(1, .inl (nI d)), (0, .inr (.inl (10, j, 0)))] _ _ _ _ _ ?_ (fun q hq => ?_)
      · apply hz [7, 50] 60
        refine And.intro (fun (g : nI d < nI 0) => absurd g (nI_pos (by omega))) (fun _ => ?_)
        refine Exists.intro d ⟨rfl, by omega, ?_⟩
        refine Exists.intro _ ⟨cX1_rests_ct hl0, j, M1.2.1 11 j 0 d, rfl, ?_⟩
        rw [ew]
        have no : ¬ p_ta S1 d = true → Z 0 50 [(2, .inr (.inl (19, j, M1.2.1 11 j 0 d))), (1, .inl (nI d)), (0, .inr (.inl (10, j, 0)))] [] M1 := by
          intro h
          rw [if_neg h] at hK
          exact skip2 hK
        refine And.intro (fun c => ?_) (fun c => ?_)
        · have c := q_bi_0.mp c
          refine And.intro (fun (g : M1.1 10 j 0 0 - M1.1 19 j (M1.2.1 11 j 0 d) 4 < M1.1 16 j 0 4) => ?_) (fun (g : ¬ M1.1 10 j 0 0 - M1.1 19 j (M1.2.1 11 j 0 d) 4 < M1.1 16 j 0 4) => ?_)
          · rw [ep, et, ef] at g
            exact no (fun h => absurd (of_decide_eq_true h).2 (Int32.not_le.mpr g))
          · rw [ep, et, ef] at g
            have hp : p_ta S1 d = true := (decide_eq_true ⟨fun h => c (hl.mp h), Int32.not_lt.mp g⟩)
            rw [if_pos (show p_ta S1 d = true from hp)] at hK
            refine Exists.intro _ ⟨cX7_closeAt_ct hl0, j, d, 3, S1, hR, by omega, by decide, rfl, fun M2 h1 h2 => ?_⟩
            exact skip M2 _ h1 (q_sm_tr hsm h2) (by rw [s_n_cl hR.1 (by omega)]; omega) hK
        · have c : S1 (3 + 12 * d) = -1 := Classical.not_not.mp (fun g => c (q_bi_0.mpr g))
          exact no (fun h => (of_decide_eq_true h).1 (hl.mpr c))
      · rcases List.mem_cons.mp hq with rfl | hq
        · exact List.mem_cons_self
        · rcases List.mem_cons.mp hq with rfl | hq
          · exact List.mem_cons_of_mem _ List.mem_cons_self
          · exact absurd hq (List.not_mem_nil)
  have e0 : M.1 10 j 0 1 = nI (s_n S) := hR.2.1.2.1.trans hR.1.1.1
  apply hz [7] 60
  have h := loop (s_n S) S M [] hR q_sm_rfl (Nat.le_refl _) hK
  rw [← e0] at h
  exact h
abbrev pX7_closeOldOnes : Q_P := fun av M K KX => ∃ (j : Nat) (S : Nat → Int32), RC j M S ∧ av = [.inr (.inl (10, j, 0))] ∧ ∀ M', RC j M' (s_tb (s_n S) 0 S) → q_sm j M M' → K none M'
theorem cX7_closeOldOnes_ct {l : Launch} {b : Bool} (hl0 : l.stackTraces = false) : q_Ct l b 62 pX7_closeOldOnes := by
  refine q_meth (by decide +kernel) hl0 TX7_closeOldOnes kX7_closeOldOnes ?_
  intro av M K KX hwf
  rintro ⟨j, S, hR, rfl, hK⟩
  refine ⟨Nat.le_of_ble_eq_true rfl, fun Z hz hw => ?_⟩
  have hK : ∀ M', RC j M' (g_bw (fun S k => s_cl S k 0) p_tb 0 (s_n S) S) → q_sm j M M' → K none M' := fun M' h1 h2 => hK M' (RC_ev (s_tb_bw hR.1) h1) h2
  have loop : ∀ (d : Nat) (S1 : Nat → Int32) (M1 : Q_M) (ls : List (Nat × Q_V)), RC j M1 S1 → q_sm j M M1 → d ≤ s_n S1 → (∀ M', RC j M' (g_bw (fun S k => s_cl S k 0) p_tb 0 d S1) → q_sm j M M' → K none M') → Z 0 7 ((1, .inl (nI d - nI 1)) :: (0, .inr (.inl (10, j, 0))) :: ls) [] M1 := by
    intro d
    induction d with
    | zero =>
      intro S1 M1 ls hR hsm _ hK
      refine hw [(1, .inl (nI 0 - nI 1)), (0, .inr (.inl (10, j, 0)))] _ _ _ _ _ ?_ (fun q hq => ?_)
      · apply hz [7] 60
        exact And.intro (fun _ => hK M1 hR hsm) (fun g => absurd (show nI 0 - nI 1 < nI 0 by decide) g)
      · rcases List.mem_cons.mp hq with rfl | hq
        · exact List.mem_cons_self
        · rcases List.mem_cons.mp hq with rfl | hq
          · exact List.mem_cons_of_mem _ List.mem_cons_self
          · exact absurd hq (List.not_mem_nil)
    | succ d ih =>
      intro S1 M1 ls hR hsm hd hK
      rw [g_bw_1] at hK
      have wn := hR.1.1
      have e1 : nI (d + 1) - nI 1 = nI d := pk_sub (b := 1) (by omega)
      have ep : M1.1 16 j 0 2 = S1 209 := hR.2.2.2.2.1 2 (by omega)
      have et : M1.1 10 j 0 0 = S1 206 := hR.2.1.1
      have hcn := hR.2.2.1.2 d (by omega)
      have ew : M1.1 19 j (M1.2.1 11 j 0 d) 3 = S1 (3 + 12 * d) := hcn.1.2.2.2
      have ef : M1.1 19 j (M1.2.1 11 j 0 d) 1 = S1 (2 + 12 * d) := hcn.1.2.1
      have hl := s_neg (hR.1.2.2.2.2.2.1 d (by omega))
      have skip : ∀ (M2 : Q_M) (S2 : Nat → Int32), RC j M2 S2 → q_sm j M M2 → d ≤ s_n S2 → (∀ M', RC j M' (g_bw (fun S k => s_cl S k 0) p_tb 0 d S2) → q_sm j M M' → K none M') → Z 0 50 [(2, .inr (.inl (19, j, M1.2.1 11 j 0 d))), (1, .inl (nI d)), (0, .inr (.inl (10, j, 0)))] [] M2 := by
        intro M2 S2 hR2 hsm2 hd2 hK2
        apply hz [7] 60
        have h := ih S2 M2 [(2, .inr (.inl (19, j, M1.2.1 11 j 0 d)))] hR2 hsm2 hd2 hK2
        rw [← q_dm1 d] at h
        refine hw _ _ _ _ _ _ h (fun q hq => ?_)
        simp only [List.mem_cons] at hq
        rcases hq with rfl | rfl | rfl | hq
        · exact List.mem_cons_self
        · exact List.mem_cons_of_mem _ (List.mem_cons_of_mem _ List.mem_cons_self)
        · exact List.mem_cons_of_mem _ List.mem_cons_self
        · exact absurd hq (List.not_mem_nil)
      have skip2 : (∀ M', RC j M' (g_bw (fun S k => s_cl S k 0) p_tb 0 d S1) → q_sm j M M' → K none M') → Z 0 50 [(2, .inr (.inl (19, j, M1.2.1 11 j 0 d))), (1, .inl (nI d)), (0, .inr (.inl (10, j, 0)))] [] M1 := fun h => skip M1 S1 hR hsm (by omega) h
      rw [e1]
      refine hw [(1, .inl (nI d)), (0, .inr (.inl (10, j, 0)))] _ _ _ _ _ ?_ (fun q hq => ?_)
      · apply hz [7, 50] 60
        refine And.intro (fun (g : nI d < nI 0) => absurd g (nI_pos (by omega))) (fun _ => ?_)
        refine Exists.intro d ⟨rfl, by omega, ?_⟩
        refine Exists.intro _ ⟨cX1_rests_ct hl0, j, M1.2.1 11 j 0 d, rfl, ?_⟩
        rw [ew]
        have no : ¬ p_tb S1 d = true → Z 0 50 [(2, .inr (.inl (19, j, M1.2.1 11 j 0 d))), (1, .inl (nI d)), (0, .inr (.inl (10, j, 0)))] [] M1 := by
          intro h
          rw [if_neg h] at hK
          exact skip2 hK
        refine And.intro (fun c => ?_) (fun c => ?_)
        · have c := q_bi_0.mp c
          exact no (fun h => c (hl.mp (of_decide_eq_true h).1))
        · have c : S1 (3 + 12 * d) = -1 := Classical.not_not.mp (fun g => c (q_bi_0.mpr g))
          refine And.intro (fun (g : M1.1 10 j 0 0 - M1.1 19 j (M1.2.1 11 j 0 d) 1 < M1.1 16 j 0 2) => ?_) (fun (g : ¬ M1.1 10 j 0 0 - M1.1 19 j (M1.2.1 11 j 0 d) 1 < M1.1 16 j 0 2) => ?_)
          · rw [ep, et, ef] at g
            exact no (fun h => absurd (of_decide_eq_true h).2 (Int32.not_le.mpr g))
          · rw [ep, et, ef] at g
            have hp : p_tb S1 d = true := (decide_eq_true ⟨hl.mpr c, Int32.not_lt.mp g⟩)
            rw [if_pos (show p_tb S1 d = true from hp)] at hK
            refine Exists.intro _ ⟨cX7_closeAt_ct hl0, j, d, 0, S1, hR, by omega, by decide, rfl, fun M2 h1 h2 => ?_⟩
            exact skip M2 _ h1 (q_sm_tr hsm h2) (by rw [s_n_cl hR.1 (by omega)]; omega) hK
      · rcases List.mem_cons.mp hq with rfl | hq
        · exact List.mem_cons_self
        · rcases List.mem_cons.mp hq with rfl | hq
          · exact List.mem_cons_of_mem _ List.mem_cons_self
          · exact absurd hq (List.not_mem_nil)
  have e0 : M.1 10 j 0 1 = nI (s_n S) := hR.2.1.2.1.trans hR.1.1.1
  apply hz [7] 60
  have h := loop (s_n S) S M [] hR q_sm_rfl (Nat.le_refl _) hK
  rw [← e0] at h
  exact h
