-- THE SAME BEHIND EACH CALL
theorem IV_lb {B e : Int} : ∀ (f : Nat) (S : Nat → Int32), s_wf S → IV S B e → IV (s_lb f S).2 B e
  | 0, S, _, h => h
  | f + 1, S, w, h => by
    unfold s_lb
    cases hx : s_nx S with
    | none => exact h
    | some p =>
      have hp := s_nx_lt hx
      dsimp only
      split
      · exact IV_lb f _ (s_wf_cl w hp (by decide)) (IV_cl w hp (by decide) h)
      · exact h
theorem IV_fl {S : Nat → Int32} {B e : Int} (w : s_wf S) (hB : B < 1000000000) (h : IV S B e) : IV (s_fl S).2 (B + 1) e := by
  have h1 := IV_lb (s_n S) S w h
  have h2 := (s_wf_lb (s_n S) S w).1
  unfold s_fl
  rcases hr : s_lb (s_n S) S with ⟨_ | p, S'⟩ <;> rw [hr] at h1 h2
  · dsimp only at h1 h2 ⊢
    by_cases c : S' 0 < S' 207
    · rw [if_pos c]
      have wn := h2.1
      have wm := h2.2.2.1
      rw [wn.1, wm.1, nI_ltI (by omega) (by omega)] at c
      exact IV_op h2 (by omega) hB h1
    · rw [if_neg c]
      exact IV_up h1 (by omega) (by omega)
  · exact IV_up h1 (by omega) (by omega)
/-- lent, if it could be -/
theorem IV_le {S : Nat → Int32} {x : Int32} {B e : Int} (w : s_wf S) (hx : x ≠ -1) (he : 0 ≤ e) (hB : B < 900000000) (h : IV S B e) : IV (s_le S x).2 (B + 2) (if (s_le S x).1 = true then e + 1 else e) := by
  obtain ⟨a1, a2, -, -⟩ := s_fl_eq S w
  have h1 := IV_fl w (by omega) h
  rw [s_le_of]
  cases hf : (s_fl S).1 with
  | none =>
    dsimp only
    rw [if_neg (by decide)]
    exact IV_up h1 (by omega) (by omega)
  | some p =>
    dsimp only
    rw [if_pos rfl]
    exact IV_up (IV_ld a1 (a2 p hf) hx (by omega) he h1) (by omega) (by omega)
theorem n12c_le {S : Nat → Int32} {x : Int32} (w : s_wf S) : s_n (s_le S x).2 ≤ 12 ∧ ∀ p, p < s_n (s_le S x).2 → s_c (s_le S x).2 p ≤ 4 := by
  obtain ⟨a1, a2, -, -⟩ := s_fl_eq S w
  have wn := a1.1.2
  rw [s_le_of]
  cases hf : (s_fl S).1 with
  | none => exact ⟨wn, s_c4 a1⟩
  | some p =>
    have := a2 p hf
    have en : s_n (s_ld (s_fl S).2 p x) = s_n (s_fl S).2 := s_n_e (s_ld_ne (by omega) (by omega) (by omega) (by omega))
    refine ⟨by rw [en]; exact wn, fun q hq => ?_⟩
    rw [en] at hq
    rw [s_c_e (s_ld_ne (i := 8 + 12 * q) (by omega) (by omega) (by omega) (by omega))]
    exact s_c4 a1 q hq
theorem IV_sv : ∀ (f : Nat) (S : Nat → Int32) (B : Int), s_wf S → s_q S = f → B + 2 * f < 900000000 → IV S B 0 → IV (s_sv f S).2 (B + 2 * f) 0
  | 0, S, B, _, _, _, h => IV_up h (by omega) (by omega)
  | f + 1, S, B, w, hf, hB, h => by
    obtain ⟨x, hx, ex⟩ := w.2.2.2.2.2.2.1 0 (by omega)
    have hx1 : S 146 ≠ -1 := by
      have ex : S 146 = nI x := ex
      rw [ex]
      exact i_n1 hx
    have h1 := IV_le (x := S 146) w hx1 (by omega) (by omega) h
    obtain ⟨h12, hc4⟩ := n12c_le (x := S 146) w
    unfold s_sv
    rw [if_neg (by omega)]
    rcases hle : s_le S (S 146) with ⟨_ | _, S'⟩
    · rw [hle] at h1
      dsimp only at h1
      rw [if_neg (by decide)] at h1
      exact IV_up h1 (by omega) (by omega)
    · rw [hle] at h1 h12 hc4
      dsimp only at h1
      rw [if_pos rfl] at h1
      obtain ⟨b1, b2, b3⟩ := s_le_wf w (by omega) hle
      have wq := w.2.1.2
      have eq : s_q S' = s_q S := by
        unfold s_q
        rw [b3, nI_clamp (by omega)]
        rfl
      have h3 := IV_s1 (T := S') h12 hc4 (by omega) (by omega) (by omega) (by omega) h1
      exact IV_up (IV_sv f _ (B + 2) b1 (by omega) (by omega) h3) (by omega) (by omega)
theorem IV_gb {S : Nat → Int32} {p : Nat} {B : Int} (w : s_wf S) (hp : p < s_n S) (hB : B < 900000000) (h : IV S B 0) : IV (s_gb S p) (B + 1) 0 := by
  unfold s_gb
  split
  · exact IV_up (IV_cl w hp (by decide) h) (by omega) (by omega)
  · split
    · exact IV_up (IV_cl w hp (by decide) h) (by omega) (by omega)
    · exact IV_fr w hp (by omega) h
theorem IV_gv {S : Nat → Int32} {p : Nat} {B : Int} (w : s_wf S) (hp : p < s_n S) (hB : B < 800000000) (h : IV S B 0) : IV (s_gv S p).2 (B + 41) 0 := by
  have hw := s_wf_gb w hp
  have hq := hw.2.1.2
  unfold s_gv
  exact IV_up (IV_sv _ _ _ hw rfl (by omega) (IV_gb w hp (by omega) h)) (by omega) (by omega)
theorem IV_lq {S : Nat → Int32} {k : Nat} {B e : Int} (w : s_wf S) (hk : k < s_q S) (h : IV S B e) : IV (s_lq S k) B e := by
  unfold s_lq
  exact IV_ac (s_wf_uq w hk) (by omega) (IV_uq w hk h)
theorem IV_lp {B e : Int} : ∀ (d k : Nat) (S : Nat → Int32), s_wf S → k + d = s_q S → IV S B e → IV (s_lp d k S) B e
  | 0, _, S, _, _, h => h
  | d + 1, k, S, w, hk, h => by
    unfold s_lp
    split
    · obtain ⟨h1, h2⟩ := s_wf_lq w (k := k) (by omega)
      exact IV_lp d k _ h1 (by omega) (IV_lq w (by omega) h)
    · exact IV_lp d (k + 1) S w (by omega) h
theorem IV_ta {B e : Int} : ∀ (d k : Nat) (S : Nat → Int32), s_wf S → k + d = s_n S → IV S B e → IV (s_ta d k S) B e
  | 0, _, S, _, _, h => h
  | d + 1, k, S, w, hk, h => by
    unfold s_ta
    split
    · exact IV_ta d k _ (s_wf_cl w (by omega) (by decide)) (by rw [s_n_cl w (by omega)]; omega) (IV_cl w (by omega) (by decide) h)
    · exact IV_ta d (k + 1) S w (by omega) h
theorem IV_tb {B e : Int} : ∀ (d k : Nat) (S : Nat → Int32), s_wf S → k + d = s_n S → IV S B e → IV (s_tb d k S) B e
  | 0, _, S, _, _, h => h
  | d + 1, k, S, w, hk, h => by
    unfold s_tb
    split
    · exact IV_tb d k _ (s_wf_cl w (by omega) (by decide)) (by rw [s_n_cl w (by omega)]; omega) (IV_cl w (by omega) (by decide) h)
    · exact IV_tb d (k + 1) S w (by omega) h
theorem IV_cr {B e : Int} : ∀ (f : Nat) (S : Nat → Int32), s_wf S → IV S B e → IV (s_cr f S) B e
  | 0, S, _, h => h
  | f + 1, S, w, h => by
    unfold s_cr
    split
    · cases hx : s_fo S false (s_n S) with
      | none => exact h
      | some p =>
        dsimp only
        split
        · exact IV_cr f _ (s_wf_cl w (s_fo_lt hx) (by decide)) (IV_cl w (s_fo_lt hx) (by decide) h)
        · exact h
    · exact h
theorem IV_tm {B e : Int} : ∀ (f : Nat) (S : Nat → Int32), s_wf S → IV S B e → IV (s_tm f S) B e
  | 0, S, _, h => h
  | f + 1, S, w, h => by
    unfold s_tm
    split
    · cases hx : s_fo S false (s_n S) with
      | none => exact h
      | some p => exact IV_tm f _ (s_wf_cl w (s_fo_lt hx) (by decide)) (IV_cl w (s_fo_lt hx) (by decide) h)
    · exact h
theorem IV_ol {e : Int} : ∀ (f : Nat) (S : Nat → Int32) (B : Int), s_wf S → B + f < 900000000 → IV S B e → IV (s_ol f S) (B + f) e
  | 0, S, B, _, _, h => IV_up h (by omega) (by omega)
  | f + 1, S, B, w, hB, h => by
    unfold s_ol
    split
    · rename_i hx
      have hn : s_n S < 12 := by have := w.2.2.1.2; omega
      exact IV_up (IV_ol f _ (B + 1) (s_wf_op w hn) (by omega) (IV_op w hn (by omega) h)) (by omega) (by omega)
    · exact IV_up h (by omega) (by omega)
theorem IV_tw {S : Nat → Int32} {B e : Int} (w : s_wf S) (h : IV S B e) : IV (s_tw S) B e := by
  rw [s_tw_1]
  exact IV_tb _ 0 _ (s_wf_ta _ 0 _ w (by omega)) (by omega) (IV_ta _ 0 _ w (by omega) h)
theorem IV_tk {S : Nat → Int32} {B : Int} (w : s_wf S) (hB : B < 800000000) (h : IV S B 0) : IV (s_tk S).2 (B + 53) 0 := by
  have w0 := s_wf_t0 w
  have w1 := s_wf_lp (s_q (s_t0 S)) 0 (s_t0 S) w0 (by omega)
  have w3 := s_wf_t3 w
  have h3 : IV (s_t3 S) (B + 1) 0 := by
    rw [s_t3_1]
    exact IV_cr _ _ (s_wf_tw w1) (IV_tw w1 (IV_lp _ 0 _ w0 (by omega) (IV_t0 w (by omega) h)))
  have w4 := (s_wf_sv _ _ w3 rfl).1
  have hq := w3.2.1.2
  have h4 := IV_sv _ _ _ w3 rfl (by omega) h3
  rw [s_tk_2]
  generalize s_sv (s_q (s_t3 S)) (s_t3 S) = r at w4 h4 ⊢
  exact IV_up (IV_ol _ _ _ w4 (by omega) h4) (by omega) (by omega)
theorem IV_ps : ∀ (t : Nat) (S : Nat → Int32) (B : Int), s_wf S → B + 53 * t < 800000000 → IV S B 0 → IV (s_ps t S).2 (B + 53 * t) 0
  | 0, S, B, _, _, h => IV_up h (by omega) (by omega)
  | t + 1, S, B, w, hB, h => by
    show IV (s_ps t (s_tk S).2).2 (B + 53 * ((t + 1 : Nat) : Int)) 0
    exact IV_up (IV_ps t _ (B + 53) (s_wf_tk w).1 (by omega) (IV_tk w (by omega) h)) (by omega) (by omega)
theorem IV_qs {S : Nat → Int32} {x u : Int32} {B e : Int} (w : s_wf S) (hq : s_q S < 20) (h : IV S B e) : IV (s_qs S x u) B e := by
  obtain ⟨e1, e2, e3⟩ := s_qs_at (x := x) (u := u) hq w.2.1.1
  exact IV_fr0 w h (e3 _ (by omega)) (fun i h _ => e3 _ (by omega)) ⟨e3 _ (by omega), e3 _ (by omega), e3 _ (by omega), e3 _ (by omega), e3 _ (by omega), e3 _ (by omega), e3 _ (by omega), e3 _ (by omega), e3 _ (by omega)⟩
theorem IV_as {S : Nat → Int32} {x : Nat} {u : Int32} {B : Int} (w : s_wf S) (hx : x < 20) (hl : s_lk S (nI x) (s_n S) = none) (hq : s_qd S (nI x) (s_q S) = none) (hB : B < 800000000) (h : IV S B 0) : IV (s_as S (nI x) u).2 (B + 2) 0 := by
  unfold s_as
  by_cases c : s_q S = 0
  · rw [if_pos c, s_le_of]
    obtain ⟨a1, a2, a3, a4⟩ := s_fl_eq S w
    have h1 := IV_fl w (by omega) h
    have eq : s_q (s_fl S).2 = 0 := by
      rw [s_q_e (a3 145 (by omega) (by omega))]
      exact c
    cases hf : (s_fl S).1 with
    | none => exact IV_up (IV_qs a1 (by omega) h1) (by omega) (by omega)
    | some p => exact IV_up (IV_ld a1 (a2 p hf) (i_n1 hx) (by omega) (by omega) h1) (by omega) (by omega)
  · rw [if_neg c]
    exact IV_up (IV_qs w (s_q20 w hx hq) h) (by omega) (by omega)
theorem IV_us {S : Nat → Int32} {p : Nat} {y : Int32} {B e : Int} (w : s_wf S) (hp : p < s_n S) (h : IV S B e) : IV (s_us S p y).2 B e := by
  obtain ⟨⟨w0, wn⟩, ⟨wq, wq2⟩, -, -, -, w1, -⟩ := id w
  obtain ⟨c, hc, h8⟩ := (w1 p hp).2.2
  have ec : s_c S p = c := by unfold s_c; rw [h8, nI_clamp (by omega)]
  have hh := s_nu_fi (S := S) (p := p) (n := c) (y := y) (g := fun m => S (9 + 12 * p + m)) (fun m _ => rfl)
  rw [← r_fi_s (S := S) (p := p) c 0 (fun m _ _ => rfl)] at hh
  obtain ⟨-, a8, a9, a4, a5, an⟩ := s_us_at (y := y) (by omega) hc h8 rfl hh
  generalize hfe : s_fi S p y c 0 = f at hh a8 a9
  have nn := fun i (h1 : i < 145 ∨ 206 ≤ i) (h2 : i ≠ 8 + 12 * p) (h3 : ¬ (9 + 12 * p ≤ i ∧ i < 13 + 12 * p)) (h4 : i ≠ 224) (h5 : i ≠ 225) => an i h2 h3 h4 h5
  have en : s_n (s_us S p y).2 = s_n S := s_n_e (nn 0 (by omega) (by omega) (by omega) (by omega) (by omega))
  have hi : ∀ i, 206 ≤ i → i ≠ 224 → i ≠ 225 → (s_us S p y).2 i = S i := fun i h1 h2 h3 => nn i (by omega) (by omega) (by omega) h2 h3
  have lo : ∀ q k, q < s_n S → 1 ≤ k → k < 8 → (s_us S p y).2 (k + 12 * q) = S (k + 12 * q) := fun q k h1 h2 h3 => nn _ (by omega) (by omega) (by omega) (by omega) (by omega)
  obtain ⟨a, b, d, g, fn, g9⟩ := h
  unfold IV
  rw [en, iv_e (hi 206 (by omega) (by omega) (by omega)), iv_e (hi 214 (by omega) (by omega) (by omega)), iv_e (hi 226 (by omega) (by omega) (by omega)), iv_e (hi 222 (by omega) (by omega) (by omega)), iv_e (hi 220 (by omega) (by omega) (by omega)), iv_e (hi 209 (by omega) (by omega) (by omega)), iv_e (hi 210 (by omega) (by omega) (by omega)), iv_e (hi 211 (by omega) (by omega) (by omega)), iv_e (hi 212 (by omega) (by omega) (by omega))]
  refine ⟨a, fun q hq => ?_, fun q q' h hq' => ?_, fun q q' h hq' e1 e2 => ?_, fun q hq i j hij hj => ?_, g9⟩
  · have g0 := b q hq
    unfold IV1 at g0 ⊢
    rw [iv_e (hi 206 (by omega) (by omega) (by omega)), iv_e (hi 214 (by omega) (by omega) (by omega)), iv_e (hi 226 (by omega) (by omega) (by omega)), iv_e (lo q 1 hq (by omega) (by omega)), iv_e (lo q 2 hq (by omega) (by omega)), iv_e (lo q 5 hq (by omega) (by omega)), iv_e (lo q 6 hq (by omega) (by omega)), iv_e (lo q 7 hq (by omega) (by omega)), lo q 3 hq (by omega) (by omega)]
    exact g0
  · rw [iv_e (lo q 1 (by omega) (by omega) (by omega)), iv_e (lo q' 1 (by omega) (by omega) (by omega))]
    exact d q q' h hq'
  · rw [lo q 3 (by omega) (by omega) (by omega)] at e1
    rw [lo q' 3 (by omega) (by omega) (by omega)] at e2
    rw [iv_e (lo q 6 (by omega) (by omega) (by omega)), iv_e (lo q' 6 (by omega) (by omega) (by omega))]
    exact g q q' h hq' e1 e2
  · by_cases cq : q = p
    · subst cq
      have f0 := fn q hq
      unfold IVn at f0
      rw [ec] at f0
      have hcn : s_c (s_us S q y).2 q = if f < c ∨ c = 4 then c else c + 1 := by
        unfold s_c
        rw [a8, nI_clamp (by split <;> omega)]
      rw [hcn] at hj
      have hj4 : j < 4 := by
        revert hj
        split <;> omega
      rw [a9 i (by omega), a9 j hj4]
      -- y is no other: where it was, if it was there
      have hfle : f ≤ c := by rw [← hfe]; have := (s_fi_le (S := S) (p := q) (y := y) c 0).2; omega
      have hno : ∀ m, m < c → m ≠ f → S (9 + 12 * q + m) ≠ y := by
        intro m hm hmf e
        by_cases cf : f < c
        · have hat : S (9 + 12 * q + f) = y := by
            rw [← hfe] at cf ⊢
            exact s_fi_at c 0 (by rw [Nat.zero_add]; exact cf)
          rcases Nat.lt_or_gt_of_ne hmf with g | g
          · exact f0 m f g cf (e.trans hat.symm)
          · exact f0 f m g hm (hat.trans e.symm)
        · have := (s_nu_no (S := S) (p := q) (y := y) c).mp (by rw [hh]; exact decide_eq_false cf)
          exact this m hm e
      unfold d_nt
      dsimp only
      have hna : d_na c f ≤ 3 ∧ (f < c → d_na c f = f) ∧ (¬ f < c → d_na c f = if c < 4 then c else 3) := by
        unfold d_na
        refine ⟨by split <;> (try split) <;> omega, fun g => if_pos g, fun g => if_neg g⟩
      generalize d_na c f = u at hna ⊢
      obtain ⟨hu3, hu1, hu2⟩ := hna
      have hju : j < c ∨ (¬ f < c ∧ c < 4 ∧ j ≤ c) := by
        by_cases cf : f < c
        · rw [if_pos (Or.inl cf)] at hj
          exact Or.inl hj
        · by_cases c4 : c = 4
          · rw [if_pos (Or.inr c4)] at hj
            exact Or.inl hj
          · rw [if_neg (by omega)] at hj
            exact Or.inr ⟨cf, by omega, by omega⟩
      rw [if_neg (show ¬ j = 0 by omega)]
      by_cases ci : i = 0
      · rw [if_pos ci]
        by_cases cj : j ≤ u
        · rw [if_pos cj]
          refine fun e => hno (j - 1) ?_ ?_ e.symm
          · by_cases cf : f < c
            · omega
            · have := hu2 cf
              revert this
              split <;> omega
          · by_cases cf : f < c
            · have := hu1 cf
              omega
            · have := hu2 cf
              revert this
              split <;> omega
        · rw [if_neg cj]
          refine fun e => hno j ?_ ?_ e.symm
          · by_cases cf : f < c
            · rcases hju with h | h <;> omega
            · have := hu2 cf
              revert this
              split <;> rcases hju with h | h <;> omega
          · by_cases cf : f < c
            · have := hu1 cf
              omega
            · rcases hju with h | h
              · omega
              · have := hu2 cf
                revert this
                split <;> omega
      · rw [if_neg ci]
        by_cases cj : j ≤ u
        · rw [if_pos cj, if_pos (by omega)]
          refine f0 (i - 1) (j - 1) (by omega) ?_
          by_cases cf : f < c
          · have := hu1 cf
            omega
          · have := hu2 cf
            revert this
            split <;> omega
        · rw [if_neg cj]
          have hjc : j < c := by
            rcases hju with h | h
            · exact h
            · have := hu2 h.1
              revert this
              split <;> omega
          by_cases ciu : i ≤ u
          · rw [if_pos ciu]
            exact f0 (i - 1) j (by omega) hjc
          · rw [if_neg ciu]
            exact f0 i j hij hjc
    · have c4 := s_c4 w q hq
      have hc8 : (s_us S p y).2 (8 + 12 * q) = S (8 + 12 * q) := nn _ (by omega) (by omega) (by omega) (by omega) (by omega)
      rw [s_c_e hc8] at hj
      rw [nn (9 + 12 * q + i) (by omega) (by omega) (by omega) (by omega) (by omega), nn (9 + 12 * q + j) (by omega) (by omega) (by omega) (by omega) (by omega)]
      exact fn q hq i j hij hj
