-- HOW MUCH A CALL CHANGES
def X1 (S S' : Nat → Int32) (d : Nat) : Prop := (S' 212 = S 212 ∧ S' 206 = S 206 ∧ S' 224 = S 224 ∧ S' 225 = S 225) ∧ (∀ i, 227 ≤ i → S' i = S i) ∧ (∀ k, k < s_q S' → ∃ k0, k0 < s_q S ∧ S' (146 + 3 * k) = S (146 + 3 * k0) ∧ S' (148 + 3 * k) = S (148 + 3 * k0)) ∧ ∀ o c, S 214 = nI o → s_cs S = nI c → o = c + s_n S → ∃ o' c', S' 214 = nI o' ∧ s_cs S' = nI c' ∧ o' = c' + s_n S' ∧ o' ≤ o + d ∧ c ≤ c'
theorem X1_rfl (S : Nat → Int32) : X1 S S 0 := ⟨⟨rfl, rfl, rfl, rfl⟩, fun _ _ => rfl, fun k hk => ⟨k, hk, rfl, rfl⟩, fun o c h1 h2 h3 => ⟨o, c, h1, h2, h3, Nat.le_refl _, Nat.le_refl _⟩⟩
theorem X1_tr {S S1 S2 : Nat → Int32} {d d' e : Nat} (h : X1 S S1 d) (h2 : X1 S1 S2 d') (he : d + d' ≤ e) : X1 S S2 e := by
  obtain ⟨⟨a1, a2, a3, a4⟩, a5, a6, a7⟩ := h
  obtain ⟨⟨b1, b2, b3, b4⟩, b5, b6, b7⟩ := h2
  refine ⟨⟨b1.trans a1, b2.trans a2, b3.trans a3, b4.trans a4⟩, fun i hi => (b5 i hi).trans (a5 i hi), fun k hk => ?_, fun o c g1 g2 g3 => ?_⟩
  · obtain ⟨k1, h1, h2, h3⟩ := b6 k hk
    obtain ⟨k0, g1, g2, g3⟩ := a6 k1 h1
    exact ⟨k0, g1, h2.trans g2, h3.trans g3⟩
  · obtain ⟨o1, c1, h1, h2, h3, h4, h5⟩ := a7 o c g1 g2 g3
    obtain ⟨o2, c2, f1, f2, f3, f4, f5⟩ := b7 o1 c1 h1 h2 h3
    exact ⟨o2, c2, f1, f2, f3, by omega, by omega⟩
theorem X1_up {S S' : Nat → Int32} {d e : Nat} (h : X1 S S' d) (he : d ≤ e) : X1 S S' e := X1_tr (X1_rfl S) h (by omega)
theorem X1_q {S S' : Nat → Int32} (h1 : ∀ i, 145 ≤ i → i ≤ 206 → S' i = S i) (hq : s_q S ≤ 20) : ∀ k, k < s_q S' → ∃ k0, k0 < s_q S ∧ S' (146 + 3 * k) = S (146 + 3 * k0) ∧ S' (148 + 3 * k) = S (148 + 3 * k0) := by
  intro k hk
  rw [s_q_e (h1 145 (by omega) (by omega))] at hk
  exact ⟨k, hk, h1 _ (by omega) (by omega), h1 _ (by omega) (by omega)⟩
theorem s_cs_e {S S' : Nat → Int32} (h : ∀ i, 215 ≤ i → i < 220 → S' i = S i) : s_cs S' = s_cs S := by
  unfold s_cs
  rw [h 215 (by omega) (by omega), h 216 (by omega) (by omega), h 217 (by omega) (by omega), h 218 (by omega) (by omega), h 219 (by omega) (by omega)]
theorem s_cs_cl {S : Nat → Int32} {p c : Nat} (hn : s_n S ≤ 12) (hc : c < 5) : s_cs (s_cl S p c) = s_cs S + nI 1 := by
  have e : ∀ j, j < 5 → s_cl S p c (215 + j) = if j = c then S (215 + j) + nI 1 else S (215 + j) := by
    intro j hj
    unfold s_cl
    rw [if_neg (by omega), if_neg (by omega)]
    by_cases g : j = c
    · rw [if_pos (by omega), if_pos g]
    · rw [if_neg (by omega), if_neg g]
  unfold s_cs
  rw [show (215 : Nat) = 215 + 0 from rfl, show (216 : Nat) = 215 + 1 from rfl, show (217 : Nat) = 215 + 2 from rfl, show (218 : Nat) = 215 + 3 from rfl, show (219 : Nat) = 215 + 4 from rfl, e 0 (by omega), e 1 (by omega), e 2 (by omega), e 3 (by omega), e 4 (by omega)]
  have : c = 0 ∨ c = 1 ∨ c = 2 ∨ c = 3 ∨ c = 4 := by omega
  rcases this with rfl | rfl | rfl | rfl | rfl
  · rw [if_pos rfl, if_neg (by decide), if_neg (by decide), if_neg (by decide), if_neg (by decide)]
    ac_rfl
  · rw [if_neg (by decide), if_pos rfl, if_neg (by decide), if_neg (by decide), if_neg (by decide)]
    ac_rfl
  · rw [if_neg (by decide), if_neg (by decide), if_pos rfl, if_neg (by decide), if_neg (by decide)]
    ac_rfl
  · rw [if_neg (by decide), if_neg (by decide), if_neg (by decide), if_pos rfl, if_neg (by decide)]
    ac_rfl
  · rw [if_neg (by decide), if_neg (by decide), if_neg (by decide), if_neg (by decide), if_pos rfl]
    ac_rfl
theorem X1_cl {S : Nat → Int32} {p c : Nat} (w : s_wf S) (hp : p < s_n S) (hc : c < 5) : X1 S (s_cl S p c) 0 := by
  have wn := w.1.2
  have hi := fun i h1 h2 => s_cl_hi (S := S) (p := p) (c := c) wn (i := i) h1 h2 hc
  refine ⟨⟨hi _ (by omega) (by omega), hi _ (by omega) (by omega), hi _ (by omega) (by omega), hi _ (by omega) (by omega)⟩, fun i h => hi _ (by omega) (by omega), X1_q (fun i h1 h2 => hi _ (by omega) (by omega)) w.2.1.2, fun o k g1 g2 g3 => ⟨o, k + 1, (hi 214 (by omega) (by omega)).trans g1, ?_, ?_, by omega, by omega⟩⟩
  · rw [s_cs_cl wn hc, g2, nI_add]
  · rw [s_n_cl w hp]
    omega
theorem X1_op {S : Nat → Int32} (w : s_wf S) (hn : s_n S < 12) : X1 S (s_op S) 1 := by
  have ne := fun i h0 h1 h2 h3 => s_op_ne (S := S) (i := i) h0 h1 h2 h3
  refine ⟨⟨ne _ (by omega) (by omega) (by omega) (by omega), ne _ (by omega) (by omega) (by omega) (by omega), ne _ (by omega) (by omega) (by omega) (by omega), ne _ (by omega) (by omega) (by omega) (by omega)⟩, fun i h => ne _ (by omega) (by omega) (by omega) (by omega), X1_q (fun i h1 h2 => ne _ (by omega) (by omega) (by omega) (by omega)) w.2.1.2, fun o k g1 g2 g3 => ⟨o + 1, k, ?_, ?_, ?_, by omega, by omega⟩⟩
  · rw [(s_op_at hn).2.1, g1, nI_add]
  · rw [s_cs_e (fun i h1 h2 => ne _ (by omega) (by omega) (by omega) (by omega)), g2]
  · rw [s_n_op w.1.1 hn]
    omega
theorem X1_oc {S S' : Nat → Int32} (h0 : S' 0 = S 0) (h : ∀ i, 214 ≤ i → i < 220 → S' i = S i) : ∀ o c, S 214 = nI o → s_cs S = nI c → o = c + s_n S → ∃ o' c', S' 214 = nI o' ∧ s_cs S' = nI c' ∧ o' = c' + s_n S' ∧ o' ≤ o + 0 ∧ c ≤ c' := fun o c g1 g2 g3 => ⟨o, c, (h 214 (by omega) (by omega)).trans g1, (s_cs_e (fun i h1 h2 => h i (by omega) h2)).trans g2, by rw [s_n_e h0]; exact g3, by omega, by omega⟩
theorem X1_fr {S : Nat → Int32} {p : Nat} (w : s_wf S) (hp : p < s_n S) : X1 S (s_fr S p) 0 := by
  have wn := w.1.2
  have ne := fun i h1 h2 h3 h4 => s_fr_ne (S := S) (p := p) (i := i) h1 h2 h3 h4
  exact ⟨⟨ne _ (by omega) (by omega) (by omega) (by omega), ne _ (by omega) (by omega) (by omega) (by omega), ne _ (by omega) (by omega) (by omega) (by omega), ne _ (by omega) (by omega) (by omega) (by omega)⟩, fun i h => ne _ (by omega) (by omega) (by omega) (by omega), X1_q (fun i h1 h2 => ne _ (by omega) (by omega) (by omega) (by omega)) w.2.1.2, X1_oc (ne _ (by omega) (by omega) (by omega) (by omega)) (fun i h1 h2 => ne _ (by omega) (by omega) (by omega) (by omega))⟩
theorem X1_ld {S : Nat → Int32} {p : Nat} {x : Int32} (w : s_wf S) (hp : p < s_n S) : X1 S (s_ld S p x) 0 := by
  have wn := w.1.2
  have ne := fun i h1 h2 h3 h4 => s_ld_ne (S := S) (p := p) (x := x) (i := i) h1 h2 h3 h4
  exact ⟨⟨ne _ (by omega) (by omega) (by omega) (by omega), ne _ (by omega) (by omega) (by omega) (by omega), ne _ (by omega) (by omega) (by omega) (by omega), ne _ (by omega) (by omega) (by omega) (by omega)⟩, fun i h => ne _ (by omega) (by omega) (by omega) (by omega), X1_q (fun i h1 h2 => ne _ (by omega) (by omega) (by omega) (by omega)) w.2.1.2, X1_oc (ne _ (by omega) (by omega) (by omega) (by omega)) (fun i h1 h2 => ne _ (by omega) (by omega) (by omega) (by omega))⟩
theorem X1_uq {S : Nat → Int32} {k : Nat} (h0 : S 145 = nI (s_q S)) (hq : s_q S ≤ 20) (hk : k < s_q S) : X1 S (s_uq S k) 0 := by
  have ne := fun i h => s_uq_ne (S := S) (k := k) (i := i) h
  refine ⟨⟨ne _ (by omega), ne _ (by omega), ne _ (by omega), ne _ (by omega)⟩, fun i h => ne _ (by omega), fun m hm => ?_, X1_oc (ne _ (by omega)) (fun i h1 h2 => ne _ (by omega))⟩
  rw [s_q_uq ⟨h0, hq⟩ hk] at hm
  exact ⟨s_ix k m, s_ix_lt hm, s_uq_at hm (by omega) (by omega), s_uq_at hm (by omega) (by omega)⟩
theorem X1_ac {S : Nat → Int32} {i : Nat} {x : Int32} (hq : s_q S ≤ 20) (h1 : 220 ≤ i) (h2 : i < 224) : X1 S (upd S i x) 0 := ⟨⟨q_upd_ne (by omega), q_upd_ne (by omega), q_upd_ne (by omega), q_upd_ne (by omega)⟩, fun j h => q_upd_ne (by omega), X1_q (fun j h1 h2 => q_upd_ne (by omega)) hq, X1_oc (q_upd_ne (by omega)) (fun j h1 h2 => q_upd_ne (by omega))⟩
theorem X1_lb : ∀ (f : Nat) (S : Nat → Int32), s_wf S → X1 S (s_lb f S).2 0
  | 0, S, _ => X1_rfl S
  | f + 1, S, w => by
    unfold s_lb
    cases h : s_nx S with
    | none => exact X1_rfl S
    | some p =>
      have hp := s_nx_lt h
      dsimp only
      split
      · exact X1_tr (X1_cl w hp (by decide)) (X1_lb f _ (s_wf_cl w hp (by decide))) (by omega)
      · exact X1_rfl S
theorem X1_fl {S : Nat → Int32} (w : s_wf S) : X1 S (s_fl S).2 1 := by
  have h1 := X1_lb (s_n S) S w
  have h2 := (s_wf_lb (s_n S) S w).1
  unfold s_fl
  rcases hr : s_lb (s_n S) S with ⟨_ | p, S'⟩ <;> rw [hr] at h1 h2
  · dsimp only at h1 h2 ⊢
    by_cases c : S' 0 < S' 207
    · rw [if_pos c]
      have wn := h2.1
      have wm := h2.2.2.1
      rw [wn.1, wm.1, nI_ltI (by omega) (by omega)] at c
      exact X1_tr h1 (X1_op h2 (by omega)) (by omega)
    · rw [if_neg c]
      exact X1_up h1 (by omega)
  · exact X1_up h1 (by omega)
theorem X1_le {S : Nat → Int32} {x : Int32} (w : s_wf S) : X1 S (s_le S x).2 1 := by
  obtain ⟨a1, a2, -, -⟩ := s_fl_eq S w
  have h := X1_fl w
  rw [s_le_of]
  cases hf : (s_fl S).1 with
  | none => exact h
  | some p => exact X1_tr h (X1_ld a1 (a2 p hf)) (by omega)
theorem X1_s1 {T : Nat → Int32} (h0 : T 145 = nI (s_q T)) (hq : s_q T ≤ 20) (hk : 0 < s_q T) : X1 T (s_s1 T) 0 := by
  have h1 := X1_uq h0 hq hk
  have e := s_q_uq ⟨h0, hq⟩ hk
  unfold s_s1
  have e2 : s_q (upd (s_uq T 0) 223 (T 223 + (T 206 - T 148))) = s_q T - 1 := (s_q_e (q_upd_ne (by omega))).trans e
  exact X1_tr h1 (X1_tr (X1_ac (by omega) (by omega) (by omega)) (X1_ac (by omega) (by omega) (by omega)) (Nat.le_refl 0)) (by omega)
theorem X1_sv : ∀ (f : Nat) (S : Nat → Int32), s_wf S → s_q S = f → X1 S (s_sv f S).2 f
  | 0, S, _, _ => X1_rfl S
  | f + 1, S, w, hf => by
    have h := X1_le (x := S 146) w
    unfold s_sv
    rw [if_neg (by omega)]
    rcases hle : s_le S (S 146) with ⟨_ | _, S'⟩
    · rw [hle] at h
      exact X1_up h (by omega)
    · rw [hle] at h
      obtain ⟨b1, b2, b3⟩ := s_le_wf w (by omega) hle
      have wq := w.2.1.2
      have eq : s_q S' = s_q S := by
        unfold s_q
        rw [b3, nI_clamp (by omega)]
        rfl
      have h1 := X1_s1 (T := S') (by rw [b3, eq]) (by omega) (by omega)
      exact X1_tr (X1_tr h h1 (Nat.le_refl _)) (X1_sv f _ b1 (by omega)) (by omega)
theorem X1_gb {S : Nat → Int32} {p : Nat} (w : s_wf S) (hp : p < s_n S) : X1 S (s_gb S p) 0 := by
  unfold s_gb
  split
  · exact X1_cl w hp (by decide)
  · split
    · exact X1_cl w hp (by decide)
    · exact X1_fr w hp
theorem X1_gv {S : Nat → Int32} {p : Nat} (w : s_wf S) (hp : p < s_n S) : X1 S (s_gv S p).2 20 := by
  have h := s_wf_gb w hp
  unfold s_gv
  exact X1_tr (X1_gb w hp) (X1_sv _ _ h rfl) (by have := h.2.1.2; omega)
theorem X1_lq {S : Nat → Int32} {k : Nat} (w : s_wf S) (hk : k < s_q S) : X1 S (s_lq S k) 0 := by
  have e := s_q_uq w.2.1 hk
  have wq := w.2.1.2
  unfold s_lq
  exact X1_tr (X1_uq w.2.1.1 wq hk) (X1_ac (by omega) (by omega) (by omega)) (Nat.le_refl 0)
theorem X1_lp : ∀ (d k : Nat) (S : Nat → Int32), s_wf S → k + d = s_q S → X1 S (s_lp d k S) 0
  | 0, _, S, _, _ => X1_rfl S
  | d + 1, k, S, w, h => by
    unfold s_lp
    split
    · obtain ⟨h1, h2⟩ := s_wf_lq w (k := k) (by omega)
      exact X1_tr (X1_lq w (by omega)) (X1_lp d k _ h1 (by omega)) (by omega)
    · exact X1_lp d (k + 1) S w (by omega)
theorem X1_ta : ∀ (d k : Nat) (S : Nat → Int32), s_wf S → k + d = s_n S → X1 S (s_ta d k S) 0
  | 0, _, S, _, _ => X1_rfl S
  | d + 1, k, S, w, h => by
    unfold s_ta
    split
    · exact X1_tr (X1_cl w (by omega) (by decide)) (X1_ta d k _ (s_wf_cl w (by omega) (by decide)) (by rw [s_n_cl w (by omega)]; omega)) (by omega)
    · exact X1_ta d (k + 1) S w (by omega)
theorem X1_tb : ∀ (d k : Nat) (S : Nat → Int32), s_wf S → k + d = s_n S → X1 S (s_tb d k S) 0
  | 0, _, S, _, _ => X1_rfl S
  | d + 1, k, S, w, h => by
    unfold s_tb
    split
    · exact X1_tr (X1_cl w (by omega) (by decide)) (X1_tb d k _ (s_wf_cl w (by omega) (by decide)) (by rw [s_n_cl w (by omega)]; omega)) (by omega)
    · exact X1_tb d (k + 1) S w (by omega)
theorem X1_cr : ∀ (f : Nat) (S : Nat → Int32), s_wf S → X1 S (s_cr f S) 0
  | 0, S, _ => X1_rfl S
  | f + 1, S, w => by
    unfold s_cr
    split
    · cases h : s_fo S false (s_n S) with
      | none => exact X1_rfl S
      | some p =>
        dsimp only
        split
        · exact X1_tr (X1_cl w (s_fo_lt h) (by decide)) (X1_cr f _ (s_wf_cl w (s_fo_lt h) (by decide))) (by omega)
        · exact X1_rfl S
    · exact X1_rfl S
theorem X1_tm : ∀ (f : Nat) (S : Nat → Int32), s_wf S → X1 S (s_tm f S) 0
  | 0, S, _ => X1_rfl S
  | f + 1, S, w => by
    unfold s_tm
    split
    · cases h : s_fo S false (s_n S) with
      | none => exact X1_rfl S
      | some p => exact X1_tr (X1_cl w (s_fo_lt h) (by decide)) (X1_tm f _ (s_wf_cl w (s_fo_lt h) (by decide))) (by omega)
    · exact X1_rfl S
theorem X1_ol : ∀ (f : Nat) (S : Nat → Int32), s_wf S → X1 S (s_ol f S) f
  | 0, S, _ => X1_rfl S
  | f + 1, S, w => by
    unfold s_ol
    split
    · rename_i h
      have hn : s_n S < 12 := by have := w.2.2.1.2; omega
      exact X1_tr (X1_op w hn) (X1_ol f _ (s_wf_op w hn)) (by omega)
    · exact X1_up (X1_rfl S) (by omega)
theorem X1_tw {S : Nat → Int32} (w : s_wf S) : X1 S (s_tw S) 0 := by
  rw [s_tw_1]
  exact X1_tr (X1_ta _ 0 _ w (by omega)) (X1_tb _ 0 _ (s_wf_ta _ 0 _ w (by omega)) (by omega)) (Nat.le_refl 0)
/-- what comes behind losing patience in a tick -/
theorem X1_tk {S : Nat → Int32} (w : s_wf S) : X1 (s_lp (s_q (s_t0 S)) 0 (s_t0 S)) (s_tk S).2 32 := by
  have w0 := s_wf_t0 w
  have w1 := s_wf_lp (s_q (s_t0 S)) 0 (s_t0 S) w0 (by omega)
  have w3 := s_wf_t3 w
  have h3 : X1 (s_lp (s_q (s_t0 S)) 0 (s_t0 S)) (s_t3 S) 0 := by
    rw [s_t3_1]
    exact X1_tr (X1_tw w1) (X1_cr _ _ (s_wf_tw w1)) (Nat.le_refl 0)
  have w4 := (s_wf_sv _ _ w3 rfl).1
  have h4 := X1_sv _ _ w3 rfl
  rw [s_tk_2]
  generalize s_sv (s_q (s_t3 S)) (s_t3 S) = r at w4 h4 ⊢
  exact X1_tr (X1_tr h3 h4 (Nat.le_refl _)) (X1_ol _ _ w4) (by have := w3.2.1.2; omega)
/-- what holds of a state in a run: nobody waits too long, and the counts are small -/
def XV (S : Nat → Int32) (B : Nat) : Prop := (∃ p : Nat, p ≤ 99 ∧ S 212 = nI p) ∧ (∀ k, k < s_q S → ∃ v : Nat, v ≤ 98 ∧ S 206 - S (148 + 3 * k) = nI v) ∧ (∃ o c : Nat, S 214 = nI o ∧ s_cs S = nI c ∧ o = c + s_n S ∧ o ≤ B) ∧ ∃ a b : Nat, S 224 = nI a ∧ S 225 = nI b ∧ a ≤ B ∧ b ≤ B
theorem XV_up {S : Nat → Int32} {B B' : Nat} (h : XV S B) (hb : B ≤ B') : XV S B' := by
  obtain ⟨a, b, ⟨o, c, h1, h2, h3, h4⟩, x, y, h5, h6, h7, h8⟩ := h
  exact ⟨a, b, ⟨o, c, h1, h2, h3, by omega⟩, x, y, h5, h6, by omega, by omega⟩
theorem XV_X1 {S S' : Nat → Int32} {d B : Nat} (h : X1 S S' d) (v : XV S B) : XV S' (B + d) := by
  obtain ⟨⟨a1, a2, a3, a4⟩, -, a6, a7⟩ := h
  obtain ⟨⟨p, hp, e⟩, b, ⟨o, c, h1, h2, h3, h4⟩, x, y, h5, h6, h7, h8⟩ := v
  refine ⟨⟨p, hp, a1.trans e⟩, fun k hk => ?_, ?_, x, y, a3.trans h5, a4.trans h6, by omega, by omega⟩
  · obtain ⟨k0, g1, -, g3⟩ := a6 k hk
    rw [a2, g3]
    exact b k0 g1
  · obtain ⟨o', c', g1, g2, g3, g4, -⟩ := a7 o c h1 h2 h3
    exact ⟨o', c', g1, g2, g3, by omega⟩
theorem XV_lo {S S' : Nat → Int32} {B : Nat} (h : ∀ i, i < 227 → S' i = S i) (hq : s_q S ≤ 20) (v : XV S B) : XV S' B := by
  obtain ⟨⟨p, hp, e⟩, b, ⟨o, c, h1, h2, h3, h4⟩, x, y, h5, h6, h7, h8⟩ := v
  refine ⟨⟨p, hp, (h _ (by omega)).trans e⟩, fun k hk => ?_, ⟨o, c, (h _ (by omega)).trans h1, (s_cs_e (fun i _ _ => h i (by omega))).trans h2, by rw [s_n_lo h]; exact h3, h4⟩, x, y, (h _ (by omega)).trans h5, (h _ (by omega)).trans h6, h7, h8⟩
  rw [s_q_lo h] at hk
  rw [h _ (by omega), h _ (by omega)]
  exact b k hk
theorem s_lp_out : ∀ (d k : Nat) (S : Nat → Int32), s_wf S → k + d = s_q S → (∀ m, m < k → ¬ S 212 ≤ S 206 - S (148 + 3 * m)) → ∀ m, m < s_q (s_lp d k S) → ¬ (s_lp d k S) 212 ≤ (s_lp d k S) 206 - (s_lp d k S) (148 + 3 * m)
  | 0, k, S, _, h, ho, m, hm => ho m (by have : m < s_q S := hm; omega)
  | d + 1, k, S, w, h, ho, m, hm => by
    unfold s_lp at hm ⊢
    by_cases c : S 212 ≤ S 206 - S (148 + 3 * k)
    · rw [if_pos c] at hm ⊢
      obtain ⟨h1, h2⟩ := s_wf_lq w (k := k) (by omega)
      have wq := w.2.1.2
      refine s_lp_out d k _ h1 (by omega) (fun m hm => ?_) m hm
      rw [s_lq_h (by omega) wq (by omega), s_lq_h (by omega) wq (by omega), s_lq_e w (by omega) (by omega) (by omega), show s_ix k m = m from if_neg (by omega)]
      exact ho m hm
    · rw [if_neg c] at hm ⊢
      refine s_lp_out d (k + 1) S w (by omega) (fun m hm => ?_) m hm
      by_cases g : m = k
      · rw [g]
        exact c
      · exact ho m (by omega)
theorem q_sub_1 (a b : Int32) : a + nI 1 - b = a - b + nI 1 := by
  rw [Int32.sub_eq_add_neg, Int32.sub_eq_add_neg, Int32.add_assoc, Int32.add_assoc, Int32.add_comm (nI 1)]
theorem XV_tk {S : Nat → Int32} {B : Nat} (w : s_wf S) (v : XV S B) : XV (s_tk S).2 (B + 32) := by
  have w0 := s_wf_t0 w
  have wq := w.2.1.2
  have e206 : s_t0 S 206 = S 206 + nI 1 := q_upd_eq
  have ne : ∀ i, i ≠ 206 → s_t0 S i = S i := fun i h => q_upd_ne h
  have q0 : s_q (s_t0 S) = s_q S := s_q_e (ne _ (by omega))
  have h1 := X1_lp (s_q (s_t0 S)) 0 (s_t0 S) w0 (by omega)
  have ho := s_lp_out (s_q (s_t0 S)) 0 (s_t0 S) w0 (by omega) (fun m hm => absurd hm (by omega))
  refine XV_X1 (X1_tk w) ?_
  obtain ⟨⟨p, hp, e⟩, b, ⟨o, c, g1, g2, g3, g4⟩, x, y, g5, g6, g7, g8⟩ := v
  obtain ⟨⟨a1, a2, a3, a4⟩, -, a6, a7⟩ := h1
  generalize s_lp (s_q (s_t0 S)) 0 (s_t0 S) = T at a1 a2 a3 a4 a6 a7 ho ⊢
  have ep : T 212 = nI p := by rw [a1, ne _ (by omega), e]
  refine ⟨⟨p, hp, ep⟩, fun k hk => ?_, ?_, x, y, by rw [a3, ne _ (by omega), g5], by rw [a4, ne _ (by omega), g6], g7, g8⟩
  · obtain ⟨k0, f1, -, f3⟩ := a6 k hk
    rw [q0] at f1
    obtain ⟨u, hu, eu⟩ := b k0 f1
    have hv : T 206 - T (148 + 3 * k) = nI (u + 1) := by
      rw [a2, f3, e206, ne _ (by omega), q_sub_1, eu, nI_add]
    have := ho k hk
    rw [hv, ep, nI_leI (by omega) (by omega)] at this
    exact ⟨u + 1, by omega, hv⟩
  · obtain ⟨o', c', f1, f2, f3, f4, -⟩ := a7 o c (by rw [ne _ (by omega), g1]) (by rw [s_cs_e (fun i h1 h2 => ne i (by omega)), g2]) (by rw [s_n_e (ne _ (by omega))]; exact g3)
    exact ⟨o', c', f1, f2, f3, by omega⟩
theorem loc_tk {S : Nat → Int32} (w : s_wf S) : ∀ i, 227 ≤ i → (s_tk S).2 i = S i := by
  intro i hi
  have w0 := s_wf_t0 w
  rw [(X1_tk w).2.1 i hi, (X1_lp (s_q (s_t0 S)) 0 (s_t0 S) w0 (by omega)).2.1 i hi]
  exact q_upd_ne (by omega)
theorem XV_ps : ∀ (t : Nat) (S : Nat → Int32) (B : Nat), s_wf S → XV S B → XV (s_ps t S).2 (B + 32 * t) ∧ ∀ i, 227 ≤ i → (s_ps t S).2 i = S i
  | 0, S, B, _, v => ⟨v, fun _ _ => rfl⟩
  | t + 1, S, B, w, v => by
    have h := XV_ps t (s_tk S).2 (B + 32) (s_wf_tk w).1 (XV_tk w v)
    have e : (s_ps (t + 1) S).2 = (s_ps t (s_tk S).2).2 := rfl
    rw [e]
    exact ⟨XV_up h.1 (by omega), fun i hi => (h.2 i hi).trans (loc_tk w i hi)⟩
theorem XV_qs {S : Nat → Int32} {x u : Int32} {B : Nat} (w : s_wf S) (hq : s_q S < 20) (v : XV S B) : XV (s_qs S x u) B ∧ ∀ i, 227 ≤ i → s_qs S x u i = S i := by
  obtain ⟨e1, e2, e3⟩ := s_qs_at (x := x) (u := u) hq w.2.1.1
  have hp := s_qp_le (S := S) (u := u) (s_q S)
  generalize s_qp S u (s_q S) = p0 at e2 hp
  have eq : s_q (s_qs S x u) = s_q S + 1 := s_of e1 (by omega)
  obtain ⟨⟨p, hp, e⟩, b, ⟨o, c, h1, h2, h3, h4⟩, a, y, h5, h6, h7, h8⟩ := v
  refine ⟨⟨⟨p, hp, (e3 _ (by omega)).trans e⟩, fun k hk => ?_, ⟨o, c, (e3 _ (by omega)).trans h1, (s_cs_e (fun i g1 g2 => e3 _ (by omega))).trans h2, by rw [s_n_e (e3 _ (by omega))]; exact h3, h4⟩, a, y, (e3 _ (by omega)).trans h5, (e3 _ (by omega)).trans h6, h7, h8⟩, fun i hi => e3 i (by omega)⟩
  rw [eq] at hk
  rw [(e2 k hk).2.2, e3 206 (by omega)]
  by_cases c : k = p0
  · rw [c, q_upd_eq]
    exact ⟨0, by omega, by rw [Int32.sub_self, nI_0]⟩
  · rw [q_upd_ne c]
    unfold d_up
    by_cases g : p0 < k ∧ k ≤ s_q S
    · rw [if_pos g]
      exact b (k - 1) (by omega)
    · rw [if_neg g]
      exact b k (by omega)
theorem XV_as {S : Nat → Int32} {x : Nat} {u : Int32} {B : Nat} (w : s_wf S) (hx : x < 20) (hl : s_lk S (nI x) (s_n S) = none) (hq : s_qd S (nI x) (s_q S) = none) (v : XV S B) : XV (s_as S (nI x) u).2 (B + 1) ∧ ∀ i, 227 ≤ i → (s_as S (nI x) u).2 i = S i := by
  unfold s_as
  by_cases c : s_q S = 0
  · rw [if_pos c, s_le_of]
    obtain ⟨a1, a2, a3, a4⟩ := s_fl_eq S w
    have h := X1_fl w
    have hv := XV_X1 h v
    have eq : s_q (s_fl S).2 = 0 := by
      rw [s_q_e (a3 145 (by omega) (by omega))]
      exact c
    cases hf : (s_fl S).1 with
    | none =>
      have := XV_qs (x := nI x) (u := u) a1 (by omega) hv
      exact ⟨this.1, fun i hi => (this.2 i hi).trans (h.2.1 i hi)⟩
    | some p =>
      have h2 := X1_ld (x := nI x) a1 (a2 p hf)
      exact ⟨XV_up (XV_X1 h2 hv) (by omega), fun i hi => (h2.2.1 i hi).trans (h.2.1 i hi)⟩
  · rw [if_neg c]
    have := XV_qs (x := nI x) (u := u) w (s_q20 w hx hq) v
    exact ⟨XV_up this.1 (by omega), this.2⟩
theorem XV_us {S : Nat → Int32} {p : Nat} {y : Int32} {B : Nat} (w : s_wf S) (hp : p < s_n S) (v : XV S B) : XV (s_us S p y).2 (B + 1) ∧ ∀ i, 227 ≤ i → (s_us S p y).2 i = S i := by
  obtain ⟨⟨w0, wn⟩, ⟨wq, wq2⟩, -, -, -, w1, -⟩ := id w
  obtain ⟨c, hc, h8⟩ := (w1 p hp).2.2
  have hh := s_nu_fi (S := S) (p := p) (n := c) (y := y) (g := fun m => S (9 + 12 * p + m)) (fun m _ => rfl)
  rw [← r_fi_s (S := S) (p := p) c 0 (fun m _ _ => rfl)] at hh
  obtain ⟨-, a8, -, a4, a5, an⟩ := s_us_at (y := y) (by omega) hc h8 rfl hh
  have lo : ∀ i, i = 0 ∨ (145 ≤ i ∧ i ≠ 224 ∧ i ≠ 225) → (s_us S p y).2 i = S i := fun i h => an i (by omega) (by omega) (by omega) (by omega)
  obtain ⟨⟨q, hq, e⟩, b, ⟨o, k, h1, h2, h3, h4⟩, x, z, h5, h6, h7, h8'⟩ := v
  refine ⟨⟨⟨q, hq, (lo _ (by omega)).trans e⟩, fun m hm => ?_, ⟨o, k, (lo _ (by omega)).trans h1, (s_cs_e (fun i g1 g2 => lo _ (by omega))).trans h2, by rw [s_n_e (lo _ (by omega))]; exact h3, by omega⟩, ?_⟩, fun i hi => lo i (by omega)⟩
  · rw [s_q_e (lo _ (by omega))] at hm
    rw [lo _ (by omega), lo _ (by omega)]
    exact b m hm
  · by_cases g : s_fi S p y c 0 < c
    · refine ⟨x + 1, z, ?_, ?_, by omega, by omega⟩
      · rw [a4, if_pos g, h5, nI_add]
      · rw [a5, if_pos g, h6]
    · refine ⟨x, z + 1, ?_, ?_, by omega, by omega⟩
      · rw [a4, if_neg g, h5]
      · rw [a5, if_neg g, h6, nI_add]
theorem XV_upd {S : Nat → Int32} {i : Nat} {x : Int32} {B : Nat} (w : s_wf S) (h1 : i ≠ 0) (h2 : i < 145 ∨ (207 ≤ i ∧ i < 214)) (hp : i = 212 → ∃ p : Nat, p ≤ 99 ∧ x = nI p) (v : XV S B) : XV (upd S i x) B ∧ ∀ j, 227 ≤ j → upd S i x j = S j := by
  obtain ⟨⟨q, hq, e⟩, b, ⟨o, k, g1, g2, g3, g4⟩, a, z, g5, g6, g7, g8⟩ := v
  have wq := w.2.1.2
  have ne : ∀ j, j ≠ i → upd S i x j = S j := fun j h => q_upd_ne h
  refine ⟨⟨?_, fun m hm => ?_, ⟨o, k, (ne _ (by omega)).trans g1, (s_cs_e (fun j f1 f2 => ne _ (by omega))).trans g2, by rw [s_n_e (ne _ (by omega))]; exact g3, g4⟩, a, z, (ne _ (by omega)).trans g5, (ne _ (by omega)).trans g6, g7, g8⟩, fun j hj => ne j (by omega)⟩
  · by_cases c : i = 212
    · obtain ⟨p, h1, h2⟩ := hp c
      exact ⟨p, h1, by rw [c, q_upd_eq, h2]⟩
    · exact ⟨q, hq, (ne _ (by omega)).trans e⟩
  · rw [s_q_e (ne _ (by omega))] at hm
    rw [ne _ (by omega), ne _ (by omega)]
    exact b m hm
