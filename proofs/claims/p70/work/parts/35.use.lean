-- USING, FINDING, SERVING: THE CLASS
theorem s_us_at {S : Nat → Int32} {p c : Nat} {y : Int32} (hp : p < 12) (hc : c ≤ 4) (h8 : S (8 + 12 * p) = nI c) {f : Nat} (hf : f = s_fi S p y c 0) (hh : s_nu S p y c = decide (f < c)) : (s_us S p y).1 = decide (f < c) ∧ (s_us S p y).2 (8 + 12 * p) = nI (if f < c ∨ c = 4 then c else c + 1) ∧ (∀ m, m < 4 → (s_us S p y).2 (9 + 12 * p + m) = d_nt (fun m => S (9 + 12 * p + m)) y (d_na c f) m) ∧ (s_us S p y).2 224 = (if f < c then S 224 + nI 1 else S 224) ∧ (s_us S p y).2 225 = (if f < c then S 225 else S 225 + nI 1) ∧ ∀ i, i ≠ 8 + 12 * p → ¬ (9 + 12 * p ≤ i ∧ i < 13 + 12 * p) → i ≠ 224 → i ≠ 225 → (s_us S p y).2 i = S i := by
  have ec : s_c S p = c := s_of h8 (by omega)
  have hfc : f ≤ c := by rw [hf]; have := (s_fi_le (S := S) (p := p) (y := y) c 0).2; omega
  have e1 : s_f1 (decide (f < c)) f = d_na c f := by
    unfold s_f1 d_na
    by_cases g : f < c
    · rw [if_pos (decide_eq_true g), if_pos g]
    · rw [if_neg (by simp [g]), if_neg g]
      obtain rfl : f = c := by omega
      rfl
  have ha : d_na c f < 4 := by
    unfold d_na
    split <;> (try split) <;> omega
  have e2 : s_us S p y = (decide (f < c), s_ub (s_ua S p (decide (f < c))) p y (decide (f < c)) (d_na c f)) := by
    unfold s_us
    rw [ec, hh, ← hf, e1]
  rw [e2]
  dsimp only
  have a8 : s_ua S p (decide (f < c)) (8 + 12 * p) = nI (if f < c ∨ c = 4 then c else c + 1) := by
    unfold s_ua
    by_cases g : f < c
    · rw [if_pos (decide_eq_true g), if_pos (Or.inl g), h8]
    · rw [if_neg (by simp [g]), q_upd_eq, h8]
      by_cases g4 : c = 4
      · rw [if_pos (Or.inr g4), g4]
        decide
      · rw [if_pos (show nI c < nI 4 from nI_lt (by omega) (by omega)), if_neg (show ¬ (f < c ∨ c = 4) by omega), nI_add]
  have an : ∀ i, i ≠ 8 + 12 * p → s_ua S p (decide (f < c)) i = S i := by
    intro i hi
    unfold s_ua
    split
    · rfl
    · rw [q_upd_ne hi]
  generalize d_na c f = a at ha ⊢
  generalize hS1 : s_ua S p (decide (f < c)) = S1 at a8 an ⊢
  refine ⟨rfl, ?_, ?_, ?_, ?_, ?_⟩
  · unfold s_ub
    rw [q_upd_ne (by split <;> omega), q_upd_ne (by omega), if_neg (by omega), a8]
  · intro m hm
    unfold s_ub d_nt
    rw [q_upd_ne (by split <;> omega)]
    by_cases m0 : m = 0
    · rw [if_pos m0, m0, Nat.add_zero, q_upd_eq]
    · rw [if_neg m0, q_upd_ne (by omega)]
      by_cases ma : m ≤ a
      · rw [if_pos (by omega), if_pos ma, an _ (by omega)]
        exact congrArg S (by omega)
      · rw [if_neg (by omega), if_neg ma, an _ (by omega)]
  · unfold s_ub
    by_cases g : f < c
    · rw [if_pos g, if_pos (decide_eq_true g), q_upd_eq, q_upd_ne (by omega), if_neg (by omega), an _ (by omega)]
    · rw [if_neg g, if_neg (by simp [g]), q_upd_ne (by omega), q_upd_ne (by omega), if_neg (by omega), an _ (by omega)]
  · unfold s_ub
    by_cases g : f < c
    · rw [if_pos g, if_pos (decide_eq_true g), q_upd_ne (by omega), q_upd_ne (by omega), if_neg (by omega), an _ (by omega)]
    · rw [if_neg g, if_neg (by simp [g]), q_upd_eq, q_upd_ne (by omega), if_neg (by omega), an _ (by omega)]
  · intro i h1 h2 h3 h4
    unfold s_ub
    rw [q_upd_ne (by split <;> omega), q_upd_ne (by omega), if_neg (by omega), an _ h1]
theorem s_wf_us {S : Nat → Int32} {p : Nat} {y : Int32} (w : s_wf S) (hp : p < s_n S) : s_wf (s_us S p y).2 := by
  obtain ⟨⟨w0, wn⟩, ⟨wq, wq2⟩, -, -, -, w1, -⟩ := id w
  obtain ⟨c, hc, h8⟩ := (w1 p hp).2.2
  have hh := s_nu_fi (S := S) (p := p) (n := c) (y := y) (g := fun m => S (9 + 12 * p + m)) (fun m _ => rfl)
  rw [← r_fi_s (S := S) (p := p) c 0 (fun m _ _ => rfl)] at hh
  obtain ⟨-, a8, -, -, -, an⟩ := s_us_at (y := y) (by omega) hc h8 rfl hh
  have an' : ∀ i, i < 145 → i ≠ 8 + 12 * p → ¬ (9 + 12 * p ≤ i ∧ i < 13 + 12 * p) → (s_us S p y).2 i = S i := fun i h1 h2 h3 => an i h2 h3 (by omega) (by omega)
  have ah : ∀ i, 145 ≤ i → i ≤ 213 → (s_us S p y).2 i = S i := fun i h1 h2 => an i (by omega) (by omega) (by omega) (by omega)
  obtain ⟨hm, hl, hb⟩ := s_set_of w (S' := (s_us S p y).2) (ah _ (by omega) (by omega)) (ah _ (by omega) (by omega)) (ah _ (by omega) (by omega))
  refine s_wf_map w (n := s_n S) (q := s_q S) ((an' 0 (by omega) (by omega) (by omega)).trans w0) wn ((ah 145 (by omega) (by omega)).trans wq) wq2 hm hl hb id id (fun _ _ h => h) (fun _ _ h => h) (fun k hk => ?_) (fun k hk => ⟨hk, ah _ (by omega) (by omega)⟩)
  refine ⟨Or.inr ⟨hk, an' _ (by omega) (by omega) (by omega)⟩, ?_, ?_⟩
  · rw [an' _ (by omega) (by omega) (by omega)]
    exact (w1 k hk).2.1
  · by_cases e : k = p
    · rw [e, a8]
      exact ⟨_, (by split <;> omega), rfl⟩
    · rw [an' _ (by omega) (by omega) (by omega)]
      exact (w1 k hk).2.2
theorem RC0_ac {M : Q_M} {j i : Nat} {x : Int32} {S : Nat → Int32} (hR : RC0 j M S) (hn : s_n S ≤ 12) (hq : s_q S ≤ 20) (hi : i < 6) : RC0 j (q_si M (17, j, 0) (2 + i) x) (upd S (220 + i) x) := by
  obtain ⟨hst, hcs, hqu, hse, hac⟩ := hR
  unfold RC0
  rw [q_i_e, q_i_2, q_i_r (show 10 ≠ 17 by decide), q_i_r (show 19 ≠ 17 by decide), q_i_r (show 20 ≠ 17 by decide), q_i_r (show 12 ≠ 17 by decide), q_i_r (show 13 ≠ 17 by decide), q_i_r (show 14 ≠ 17 by decide), q_i_r (show 15 ≠ 17 by decide), q_i_r (show 16 ≠ 17 by decide), q_i_r (show 18 ≠ 17 by decide)]
  refine ⟨r_st_c hst (q_upd_ne (by omega)) (q_upd_ne (by omega)) (q_upd_ne (by omega)), r_cs_c hcs hn (q_upd_ne (by omega)) (fun q hq i h1 h2 => q_upd_ne (by omega)), r_qu_c hqu hq (fun i h1 h2 => q_upd_ne (by omega)), r_se_c hse (fun i h1 h2 => q_upd_ne (by omega)), ?_, fun m hm => ?_, fun m hm => ?_⟩
  · rw [q_upd_ne (by omega), q_upd_ne (by omega)]
    exact hac.1
  · rw [q_upd_ne (by omega)]
    exact hac.2.1 m hm
  · by_cases e : m = i
    · rw [e, q_upd_eq, q_upd_eq]
    · rw [q_upd_ne (by omega), q_upd_ne (by omega)]
      exact hac.2.2 m hm
def d_us (M : Q_M) (j c n : Nat) (y : Int32) (f : Nat) : Q_M := q_si (d_tk M j c n y f) (17, j, 0) (if f < n then 6 else 7) (M.1 17 j 0 (if f < n then 6 else 7) + nI 1)
theorem d_tk_r {M : Q_M} {j c n f r : Nat} {y : Int32} (h1 : r ≠ 19) (h2 : r ≠ 20) : (d_tk M j c n y f).1 r = M.1 r := by
  unfold d_tk
  rw [q_a_r h2]
  split
  · rfl
  · rw [q_i_r h1]
theorem d_tk_2 {M : Q_M} {j c n f : Nat} {y : Int32} : (d_tk M j c n y f).2 = M.2 := by
  unfold d_tk
  rw [q_a_2]
  split <;> rfl
theorem d_tk_19 {M : Q_M} {j c n f : Nat} {y : Int32} : (d_tk M j c n y f).1 19 j = updc (M.1 19 j) c (if f < n ∨ n = 4 then M.1 19 j c else upd (M.1 19 j c) 7 (nI (n + 1))) := by
  unfold d_tk
  rw [q_a_r (by decide)]
  split
  · rw [updc_id]
  · rw [q_i_j]
theorem d_tk_20 {M : Q_M} {j c n f : Nat} {y : Int32} : (d_tk M j c n y f).1 20 j = updc (M.1 20 j) c (d_nt (M.1 20 j c) y (d_na n f)) := by
  unfold d_tk
  rw [q_a_j]
  split
  · rfl
  · rw [q_i_r (by decide)]
theorem q_sm_tk {M : Q_M} {j c n f : Nat} {y : Int32} : q_sm j M (d_tk M j c n y f) := by
  unfold d_tk
  split
  · exact q_sm_sa q_sm_rfl (by decide) (by decide)
  · exact q_sm_sa (q_sm_si q_sm_rfl (by decide) (by decide)) (by decide) (by decide)
theorem RC0_us {M : Q_M} {j p c : Nat} {y : Int32} {S : Nat → Int32} (hR : RC0 j M S) (hp : p < s_n S) (hn : s_n S ≤ 12) (hq : s_q S ≤ 20) (hc : c ≤ 4) (h8 : S (8 + 12 * p) = nI c) : (s_us S p y).1 = decide (r_fi (M.1 20 j (M.2.1 11 j 0 p)) y c 0 < c) ∧ RC0 j (d_us M j (M.2.1 11 j 0 p) c y (r_fi (M.1 20 j (M.2.1 11 j 0 p)) y c 0)) (s_us S p y).2 := by
  obtain ⟨hst, hcs, hqu, hse, hac⟩ := hR
  have hcn := hcs.2 p hp
  have ec : s_c S p = c := s_of h8 (by omega)
  have hg : ∀ m, m < c → M.1 20 j (M.2.1 11 j 0 p) m = S (9 + 12 * p + m) := fun m hm => hcn.2.2 m (by omega) (by omega)
  have hf := r_fi_s (S := S) (p := p) (g := M.1 20 j (M.2.1 11 j 0 p)) (y := y) c 0 (fun m _ h => hg m (by omega))
  have hh := s_nu_fi (S := S) (p := p) (n := c) (y := y) (g := M.1 20 j (M.2.1 11 j 0 p)) hg
  have hle := (r_fi_le (g := M.1 20 j (M.2.1 11 j 0 p)) (y := y) c 0).2
  generalize r_fi (M.1 20 j (M.2.1 11 j 0 p)) y c 0 = f at hf hh hle ⊢
  obtain ⟨b1, a8, am, a4, a5, an⟩ := s_us_at (y := y) (by omega) hc h8 hf.symm hh
  refine ⟨b1, ?_⟩
  have lo : ∀ i, i < 224 → i ≠ 8 + 12 * p → ¬ (9 + 12 * p ≤ i ∧ i < 13 + 12 * p) → (s_us S p y).2 i = S i := fun i h1 h2 h3 => an i h2 h3 (by omega) (by omega)
  unfold RC0 d_us
  rw [q_i_e, q_i_2, q_i_r (show 10 ≠ 17 by decide), q_i_r (show 19 ≠ 17 by decide), q_i_r (show 20 ≠ 17 by decide), q_i_r (show 12 ≠ 17 by decide), q_i_r (show 13 ≠ 17 by decide), q_i_r (show 14 ≠ 17 by decide), q_i_r (show 15 ≠ 17 by decide), q_i_r (show 16 ≠ 17 by decide), q_i_r (show 18 ≠ 17 by decide), d_tk_19, d_tk_20, d_tk_2, d_tk_r (show 10 ≠ 19 by decide) (by decide), d_tk_r (show 12 ≠ 19 by decide) (by decide), d_tk_r (show 13 ≠ 19 by decide) (by decide), d_tk_r (show 14 ≠ 19 by decide) (by decide), d_tk_r (show 15 ≠ 19 by decide) (by decide), d_tk_r (show 16 ≠ 19 by decide) (by decide), d_tk_r (show 17 ≠ 19 by decide) (by decide), d_tk_r (show 18 ≠ 19 by decide) (by decide)]
  refine ⟨r_st_c hst (lo _ (by omega) (by omega) (by omega)) (lo _ (by omega) (by omega) (by omega)) (an _ (by omega) (by omega) (by omega) (by omega)), ?_, r_qu_c hqu hq (fun i h1 h2 => lo _ (by omega) (by omega) (by omega)), r_se_c hse (fun i h1 h2 => lo _ (by omega) (by omega) (by omega)), ?_, fun m hm => ?_, fun m hm => ?_⟩
  · refine r_cs_set hcs hp hn (lo _ (by omega) (by omega) (by omega)) (fun q h1 h2 i h3 h4 => lo _ (by omega) (by omega) (by omega)) ?_
    obtain ⟨⟨a1, a2, a3, a4⟩, ⟨a5, a6, a7, a8'⟩, hnu⟩ := hcn
    have ev : ∀ i, i < 7 → (if f < c ∨ c = 4 then M.1 19 j (M.2.1 11 j 0 p) else upd (M.1 19 j (M.2.1 11 j 0 p)) 7 (nI (c + 1))) i = M.1 19 j (M.2.1 11 j 0 p) i := by
      intro i hi
      split
      · rfl
      · rw [q_upd_ne (by omega)]
    refine r_cn_mk ?_ ?_ ?_ ?_ ?_ ?_ ?_ ?_ ?_
    · rw [ev _ (by omega), lo _ (by omega) (by omega) (by omega)]
      exact a1
    · rw [ev _ (by omega), lo _ (by omega) (by omega) (by omega)]
      exact a2
    · rw [ev _ (by omega), lo _ (by omega) (by omega) (by omega)]
      exact a3
    · rw [ev _ (by omega), lo _ (by omega) (by omega) (by omega)]
      exact a4
    · rw [ev _ (by omega), lo _ (by omega) (by omega) (by omega)]
      exact a5
    · rw [ev _ (by omega), lo _ (by omega) (by omega) (by omega)]
      exact a6
    · rw [ev _ (by omega), lo _ (by omega) (by omega) (by omega)]
      exact a7
    · rw [a8]
      by_cases g : f < c ∨ c = 4
      · rw [if_pos g, if_pos g, a8', h8]
      · rw [if_neg g, if_neg g, q_upd_eq]
    · intro k h1 h2
      unfold s_c at h2
      rw [a8, nI_clamp (by split <;> omega)] at h2
      rw [am k h1]
      unfold d_nt
      by_cases k0 : k = 0
      · rw [if_pos k0, if_pos k0]
      · rw [if_neg k0, if_neg k0]
        have hna : d_na c f ≤ c := by
          unfold d_na
          split <;> (try split) <;> omega
        by_cases ka : k ≤ d_na c f
        · rw [if_pos ka, if_pos ka]
          exact hg _ (by omega)
        · rw [if_neg ka, if_neg ka]
          refine hg _ ?_
          unfold d_na at ka
          split at ka
          · rw [if_pos (Or.inl (by assumption))] at h2
            exact h2
          · split at ka
            · rw [if_neg (by omega)] at h2
              omega
            · rw [if_pos (by omega)] at h2
              omega
  · rw [q_upd_ne (by split <;> omega), lo _ (by omega) (by omega) (by omega)]
    exact hac.1
  · rw [lo _ (by omega) (by omega) (by omega)]
    exact hac.2.1 m hm
  · have h4 := hac.2.2 4 (by omega)
    have h5 := hac.2.2 5 (by omega)
    by_cases m4 : m = 4
    · rw [m4, a4]
      by_cases g : f < c
      · rw [if_pos g, if_pos g, q_upd_eq, show M.1 17 j 0 6 = S 224 from h4]
      · rw [if_neg g, if_neg g, q_upd_ne (by omega)]
        exact h4
    · by_cases m5 : m = 5
      · rw [m5, a5]
        by_cases g : f < c
        · rw [if_pos g, if_pos g, q_upd_ne (by omega)]
          exact h5
        · rw [if_neg g, if_neg g, q_upd_eq, show M.1 17 j 0 7 = S 225 from h5]
      · rw [q_upd_ne (by split <;> omega), lo _ (by omega) (by omega) (by omega)]
        exact hac.2.2 m hm
abbrev pX7_letUse : Q_P := fun av M K KX => ∃ (j p : Nat) (y : Int32) (S : Nat → Int32), RC j M S ∧ p < s_n S ∧ av = [.inr (.inl (10, j, 0)), .inl (nI p), .inl y] ∧ ∀ M', RC j M' (s_us S p y).2 → q_sm j M M' → K (some (.inl (q_bi ((s_us S p y).1 = true)))) M'
theorem cX7_letUse_ct {l : Launch} {b : Bool} (hl0 : l.stackTraces = false) : q_Ct l b 58 pX7_letUse := by
  refine q_meth (by decide +kernel) hl0 TX7_letUse kX7_letUse ?_
  intro av M K KX hwf
  rintro ⟨j, p, y, S, hR, hp, rfl, hK⟩
  refine ⟨Nat.le_of_ble_eq_true rfl, fun Z hz hw => ?_⟩
  have wn := hR.1.1.2
  obtain ⟨c, hc, h8⟩ := (hR.1.2.2.2.2.2.1 p hp).2.2
  have h7 : M.1 19 j (M.2.1 11 j 0 p) 7 = nI c := ((hR.2.2.1.2 p hp).2.1.2.2.2).trans h8
  obtain ⟨b1, hr⟩ := RC0_us (y := y) hR.2 hp wn hR.1.2.1.2 hc h8
  have hK := hK _ ⟨s_wf_us hR.1 hp, hr⟩ (q_sm_si q_sm_tk (by decide) (by decide))
  rw [b1, q_bi_dec] at hK
  unfold d_us at hK
  apply hz [] 60
  refine Exists.intro p ⟨rfl, by omega, ?_⟩
  refine Exists.intro _ ⟨cX1_take_ct hl0, j, M.2.1 11 j 0 p, c, y, hc, h7, rfl, ?_⟩
  generalize r_fi (M.1 20 j (M.2.1 11 j 0 p)) y c 0 = f at hK ⊢
  have e6 : ∀ i, (d_tk M j (M.2.1 11 j 0 p) c y f).1 17 j 0 i = M.1 17 j 0 i := fun i => by rw [d_tk_r (by decide) (by decide)]
  by_cases g : f < c
  · rw [q_bi_t g]
    rw [q_bi_t g, if_pos g, ← e6 6] at hK
    refine And.intro (fun h => absurd h q_n1) (fun _ => And.intro (Or.inr rfl) hK)
  · rw [q_bi_f g]
    rw [q_bi_f g, if_neg g, ← e6 7] at hK
    refine And.intro (fun _ => And.intro (Or.inl rfl) hK) (fun h => absurd nI_0 h)
