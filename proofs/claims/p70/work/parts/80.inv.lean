-- WHAT HOLDS OF A SLOT BESIDE s_wf: NUMBERS IN ORDER, TIMES, TURNS, NUTS, ACCOUNTS
def iv (S : Nat → Int32) (i : Nat) : Int := (S i).toInt
theorem iv_e {S S' : Nat → Int32} {i j : Nat} (h : S' i = S j) : iv S' i = iv S j := congrArg Int32.toInt h
theorem i_p1 {x : Int32} (h0 : 0 ≤ x.toInt) (h : x.toInt < 2000000000) : (x + nI 1).toInt = x.toInt + 1 := by
  rw [Int32.toInt_add, nI_toInt (by omega)]
  exact Int.bmod_eq_of_le (by omega) (by omega)
theorem i_sb {x y : Int32} (h0 : 0 ≤ x.toInt) (h : x.toInt < 2000000000) (h1 : 0 ≤ y.toInt) (h2 : y.toInt < 2000000000) : (x - y).toInt = x.toInt - y.toInt := by
  rw [Int32.toInt_sub]
  exact Int.bmod_eq_of_le (by omega) (by omega)
theorem i_m1 : (-1 : Int32).toInt = -1 := by decide
theorem i_n1 {x : Nat} (h : x < 20) : nI x ≠ -1 := fun g => q_m1n (by omega) g.symm
/-- of one connection -/
def IV1 (S : Nat → Int32) (B : Int) (p : Nat) : Prop := (1 ≤ iv S (1 + 12 * p) ∧ iv S (1 + 12 * p) ≤ iv S 214) ∧ (0 ≤ iv S (2 + 12 * p) ∧ iv S (2 + 12 * p) ≤ iv S (5 + 12 * p) ∧ iv S (5 + 12 * p) ≤ iv S 206) ∧ iv S (6 + 12 * p) ≤ iv S 226 ∧ (0 ≤ iv S (7 + 12 * p) ∧ iv S (7 + 12 * p) ≤ B) ∧ (S (3 + 12 * p) ≠ -1 → 1 ≤ iv S (7 + 12 * p))
def IVn (S : Nat → Int32) (p : Nat) : Prop := ∀ i j, i < j → j < s_c S p → S (9 + 12 * p + i) ≠ S (9 + 12 * p + j)
/-- of the whole: B no count is greater, e how many were lent and not yet served -/
def IV (S : Nat → Int32) (B e : Int) : Prop := ((0 ≤ iv S 206 ∧ iv S 206 ≤ B) ∧ (0 ≤ iv S 214 ∧ iv S 214 ≤ B) ∧ (0 ≤ iv S 226 ∧ iv S 226 ≤ B) ∧ (0 ≤ iv S 222 ∧ iv S 222 + e ≤ iv S 220 ∧ iv S 220 ≤ B)) ∧ (∀ p, p < s_n S → IV1 S B p) ∧ (∀ p p', p < p' → p' < s_n S → iv S (1 + 12 * p) < iv S (1 + 12 * p')) ∧ (∀ p p', p < p' → p' < s_n S → S (3 + 12 * p) = -1 → S (3 + 12 * p') = -1 → iv S (6 + 12 * p) ≠ iv S (6 + 12 * p')) ∧ (∀ p, p < s_n S → IVn S p) ∧ (0 ≤ iv S 209 ∧ 0 ≤ iv S 210 ∧ 1 ≤ iv S 211 ∧ iv S 211 ≤ 999 ∧ 0 ≤ iv S 212)
theorem IV_up {S : Nat → Int32} {B B' e e' : Int} (h : IV S B e) (hB : B ≤ B') (he : e' ≤ e) : IV S B' e' := by
  obtain ⟨⟨a1, a2, a3, a4⟩, b, c, d, f, g⟩ := h
  refine ⟨⟨⟨a1.1, by omega⟩, ⟨a2.1, by omega⟩, ⟨a3.1, by omega⟩, a4.1, by omega, by omega⟩, fun p hp => ?_, c, d, f, g⟩
  obtain ⟨b1, b2, b3, b4, b5⟩ := b p hp
  exact ⟨b1, b2, b3, ⟨b4.1, by omega⟩, b5⟩
theorem s_c_e {S S' : Nat → Int32} {p q : Nat} (h : S' (8 + 12 * p) = S (8 + 12 * q)) : s_c S' p = s_c S q := congrArg Int32.toNatClampNeg h
/-- connections moved, nothing else told -/
theorem IV_map {S S' : Nat → Int32} {B e : Int} (h : IV S B e) {n : Nat} (en : s_n S' = n) (g : Nat → Nat) (gm : ∀ p p', p < p' → p' < n → g p < g p') (gl : ∀ p, p < n → g p < s_n S) (gc : ∀ p, p < n → ∀ f, 1 ≤ f → f < 13 → f ≠ 4 → S' (f + 12 * p) = S (f + 12 * g p)) (hs : S' 206 = S 206 ∧ S' 214 = S 214 ∧ S' 226 = S 226 ∧ S' 222 = S 222 ∧ S' 220 = S 220 ∧ S' 209 = S 209 ∧ S' 210 = S 210 ∧ S' 211 = S 211 ∧ S' 212 = S 212) (w12 : s_n S ≤ 12) (wc : ∀ p, p < s_n S → s_c S p ≤ 4) : IV S' B e := by
  obtain ⟨a, b, c, d, f, g9⟩ := h
  obtain ⟨h1, h2, h3, h4, h5, h6, h7, h8, h9⟩ := hs
  unfold IV
  rw [en, iv_e h1, iv_e h2, iv_e h3, iv_e h4, iv_e h5, iv_e h6, iv_e h7, iv_e h8, iv_e h9]
  refine ⟨a, fun p hp => ?_, fun p p' h hp' => ?_, fun p p' h hp' e1 e2 => ?_, fun p hp i j hij hj => ?_, g9⟩
  · have g0 := b (g p) (gl p hp)
    unfold IV1 at g0 ⊢
    rw [iv_e h1, iv_e h2, iv_e h3, iv_e (gc p hp 1 (by omega) (by omega) (by omega)), iv_e (gc p hp 2 (by omega) (by omega) (by omega)), iv_e (gc p hp 5 (by omega) (by omega) (by omega)), iv_e (gc p hp 6 (by omega) (by omega) (by omega)), iv_e (gc p hp 7 (by omega) (by omega) (by omega)), gc p hp 3 (by omega) (by omega) (by omega)]
    exact g0
  · rw [iv_e (gc p (by omega) 1 (by omega) (by omega) (by omega)), iv_e (gc p' hp' 1 (by omega) (by omega) (by omega))]
    exact c _ _ (gm p p' h hp') (gl p' hp')
  · rw [gc p (by omega) 3 (by omega) (by omega) (by omega)] at e1
    rw [gc p' hp' 3 (by omega) (by omega) (by omega)] at e2
    rw [iv_e (gc p (by omega) 6 (by omega) (by omega) (by omega)), iv_e (gc p' hp' 6 (by omega) (by omega) (by omega))]
    exact d _ _ (gm p p' h hp') (gl p' hp') e1 e2
  · rw [s_c_e (gc p hp 8 (by omega) (by omega) (by omega))] at hj
    have c4 := wc _ (gl p hp)
    have e1 := gc p hp (9 + i) (by omega) (by omega) (by omega)
    have e2 := gc p hp (9 + j) (by omega) (by omega) (by omega)
    rw [show 9 + 12 * p + i = 9 + i + 12 * p by omega, show 9 + 12 * p + j = 9 + j + 12 * p by omega, e1, e2]
    have := f (g p) (gl p hp) i j hij hj
    rw [show 9 + 12 * g p + i = 9 + i + 12 * g p by omega, show 9 + 12 * g p + j = 9 + j + 12 * g p by omega] at this
    exact this
theorem s_c4 {S : Nat → Int32} (w : s_wf S) : ∀ p, p < s_n S → s_c S p ≤ 4 := by
  intro p hp
  obtain ⟨-, -, c, hc, e⟩ := w.2.2.2.2.2.1 p hp
  unfold s_c
  rw [e, nI_clamp (by omega)]
  exact hc
/-- nothing told but the queue, other accounts, what is broken -/
theorem IV_fr0 {S S' : Nat → Int32} {B e : Int} (w : s_wf S) (h : IV S B e) (h0 : S' 0 = S 0) (hc : ∀ i, i < 145 → (∀ p, i ≠ 4 + 12 * p) → S' i = S i) (hs : S' 206 = S 206 ∧ S' 214 = S 214 ∧ S' 226 = S 226 ∧ S' 222 = S 222 ∧ S' 220 = S 220 ∧ S' 209 = S 209 ∧ S' 210 = S 210 ∧ S' 211 = S 211 ∧ S' 212 = S 212) : IV S' B e := by
  have wn := w.1.2
  exact IV_map h (s_n_e h0) id (fun _ _ h _ => h) (fun _ h => h) (fun p hp f h1 h2 h3 => hc _ (by omega) (fun q => by omega)) hs wn (s_c4 w)
theorem s_ix_mono {p k k' : Nat} (h : k < k') : s_ix p k < s_ix p k' := by
  unfold s_ix
  split <;> split <;> omega
theorem IV_cl {S : Nat → Int32} {p c : Nat} {B e : Int} (w : s_wf S) (hp : p < s_n S) (hc : c < 5) (h : IV S B e) : IV (s_cl S p c) B e := by
  have wn := w.1.2
  have hi := fun i h1 h2 => s_cl_hi (S := S) (p := p) (c := c) wn (i := i) h1 h2 hc
  exact IV_map h (s_n_cl w hp) (s_ix p) (fun _ _ h _ => s_ix_mono h) (fun k hk => s_ix_lt hk) (fun k hk f h1 h2 _ => s_cl_lk hp wn hk h1 h2) ⟨hi _ (by omega) (by omega), hi _ (by omega) (by omega), hi _ (by omega) (by omega), hi _ (by omega) (by omega), hi _ (by omega) (by omega), hi _ (by omega) (by omega), hi _ (by omega) (by omega), hi _ (by omega) (by omega), hi _ (by omega) (by omega)⟩ wn (s_c4 w)
theorem IV_uq {S : Nat → Int32} {k : Nat} {B e : Int} (w : s_wf S) (hk : k < s_q S) (h : IV S B e) : IV (s_uq S k) B e := by
  have wq := w.2.1.2
  have ne := fun i h => s_uq_ne (S := S) (k := k) (i := i) h
  exact IV_fr0 w h (ne _ (by omega)) (fun i h _ => ne _ (by omega)) ⟨ne _ (by omega), ne _ (by omega), ne _ (by omega), ne _ (by omega), ne _ (by omega), ne _ (by omega), ne _ (by omega), ne _ (by omega), ne _ (by omega)⟩
theorem IV_ac {S : Nat → Int32} {i : Nat} {x : Int32} {B e : Int} (w : s_wf S) (hi : i = 207 ∨ i = 208 ∨ i = 213 ∨ (215 ≤ i ∧ i < 220) ∨ i = 221 ∨ (223 ≤ i ∧ i < 226)) (h : IV S B e) : IV (upd S i x) B e := by
  have ne := fun j (h : j ≠ i) => q_upd_ne (f := S) (x := x) h
  exact IV_fr0 w h (ne _ (by omega)) (fun j h _ => ne _ (by omega)) ⟨ne _ (by omega), ne _ (by omega), ne _ (by omega), ne _ (by omega), ne _ (by omega), ne _ (by omega), ne _ (by omega), ne _ (by omega), ne _ (by omega)⟩
theorem IV_br {S : Nat → Int32} {p : Nat} {x : Int32} {B e : Int} (w : s_wf S) (hp : p < s_n S) (h : IV S B e) : IV (upd S (4 + 12 * p) x) B e := by
  have wn := w.1.2
  have ne := fun j (h : j ≠ 4 + 12 * p) => q_upd_ne (f := S) (x := x) h
  exact IV_fr0 w h (ne _ (by omega)) (fun j _ h => ne _ (h p)) ⟨ne _ (by omega), ne _ (by omega), ne _ (by omega), ne _ (by omega), ne _ (by omega), ne _ (by omega), ne _ (by omega), ne _ (by omega), ne _ (by omega)⟩
/-- a limit is set -/
theorem IV_set {S : Nat → Int32} {i : Nat} {x : Int32} {B e : Int} (hi : 209 ≤ i ∧ i < 213) (hx : 1 ≤ x.toInt) (hx2 : x.toInt ≤ 999) (w : s_wf S) (h : IV S B e) : IV (upd S i x) B e := by
  have wn := w.1.2
  have ne := fun j (h : j ≠ i) => q_upd_ne (f := S) (x := x) h
  have en : s_n (upd S i x) = s_n S := s_n_e (ne 0 (by omega))
  obtain ⟨a, b, c, d, f, g⟩ := h
  have key : ∀ j, 209 ≤ j → j < 213 → iv (upd S i x) j = if j = i then x.toInt else iv S j := by
    intro j _ _
    by_cases cc : j = i
    · rw [if_pos cc, cc]
      exact congrArg Int32.toInt q_upd_eq
    · rw [if_neg cc]
      exact iv_e (ne j cc)
  unfold IV
  rw [en, iv_e (ne 206 (by omega)), iv_e (ne 214 (by omega)), iv_e (ne 226 (by omega)), iv_e (ne 222 (by omega)), iv_e (ne 220 (by omega)), key 209 (by omega) (by omega), key 210 (by omega) (by omega), key 211 (by omega) (by omega), key 212 (by omega) (by omega)]
  refine ⟨a, fun p hp => ?_, fun p p' h hp' => ?_, fun p p' h hp' e1 e2 => ?_, fun p hp k j hij hj => ?_, ?_⟩
  · have g0 := b p hp
    unfold IV1 at g0 ⊢
    rw [iv_e (ne 206 (by omega)), iv_e (ne 214 (by omega)), iv_e (ne 226 (by omega)), iv_e (ne (1 + 12 * p) (by omega)), iv_e (ne (2 + 12 * p) (by omega)), iv_e (ne (5 + 12 * p) (by omega)), iv_e (ne (6 + 12 * p) (by omega)), iv_e (ne (7 + 12 * p) (by omega)), ne (3 + 12 * p) (by omega)]
    exact g0
  · rw [iv_e (ne (1 + 12 * p) (by omega)), iv_e (ne (1 + 12 * p') (by omega))]
    exact c p p' h hp'
  · rw [ne (3 + 12 * p) (by omega)] at e1
    rw [ne (3 + 12 * p') (by omega)] at e2
    rw [iv_e (ne (6 + 12 * p) (by omega)), iv_e (ne (6 + 12 * p') (by omega))]
    exact d p p' h hp' e1 e2
  · rw [s_c_e (ne (8 + 12 * p) (by omega))] at hj
    have c4 := s_c4 w p hp
    rw [ne (9 + 12 * p + k) (by omega), ne (9 + 12 * p + j) (by omega)]
    exact f p hp k j hij hj
  · refine ⟨?_, ?_, ?_, ?_, ?_⟩ <;> split <;> omega
/-- time goes by -/
theorem IV_t0 {S : Nat → Int32} {B e : Int} (w : s_wf S) (hB : B < 1000000000) (h : IV S B e) : IV (s_t0 S) (B + 1) e := by
  have wn := w.1.2
  obtain ⟨⟨⟨a1, a2⟩, a3, a4, a5⟩, b, c, d, f, g⟩ := h
  have ne := fun j (h : j ≠ 206) => q_upd_ne (f := S) (x := S 206 + nI 1) h
  have e6 : iv (s_t0 S) 206 = iv S 206 + 1 := (congrArg Int32.toInt (q_upd_eq (f := S))).trans (i_p1 a1 (by unfold iv at a2; omega))
  have en : s_n (s_t0 S) = s_n S := s_n_e (ne 0 (by omega))
  have ne : ∀ j, j ≠ 206 → s_t0 S j = S j := ne
  unfold IV
  rw [en, e6, iv_e (ne 214 (by omega)), iv_e (ne 226 (by omega)), iv_e (ne 222 (by omega)), iv_e (ne 220 (by omega)), iv_e (ne 209 (by omega)), iv_e (ne 210 (by omega)), iv_e (ne 211 (by omega)), iv_e (ne 212 (by omega))]
  refine ⟨⟨⟨by omega, by omega⟩, ⟨a3.1, by omega⟩, ⟨a4.1, by omega⟩, a5.1, by omega, by omega⟩, fun p hp => ?_, fun p p' h hp' => ?_, fun p p' h hp' e1 e2 => ?_, fun p hp k j hij hj => ?_, g⟩
  · obtain ⟨b1, b2, b3, b4, b5⟩ := b p hp
    unfold IV1
    rw [e6, iv_e (ne 214 (by omega)), iv_e (ne 226 (by omega)), iv_e (ne (1 + 12 * p) (by omega)), iv_e (ne (2 + 12 * p) (by omega)), iv_e (ne (5 + 12 * p) (by omega)), iv_e (ne (6 + 12 * p) (by omega)), iv_e (ne (7 + 12 * p) (by omega)), ne (3 + 12 * p) (by omega)]
    exact ⟨b1, ⟨b2.1, b2.2.1, by omega⟩, b3, ⟨b4.1, by omega⟩, b5⟩
  · rw [iv_e (ne (1 + 12 * p) (by omega)), iv_e (ne (1 + 12 * p') (by omega))]
    exact c p p' h hp'
  · rw [ne (3 + 12 * p) (by omega)] at e1
    rw [ne (3 + 12 * p') (by omega)] at e2
    rw [iv_e (ne (6 + 12 * p) (by omega)), iv_e (ne (6 + 12 * p') (by omega))]
    exact d p p' h hp' e1 e2
  · rw [s_c_e (ne (8 + 12 * p) (by omega))] at hj
    have c4 := s_c4 w p hp
    rw [ne (9 + 12 * p + k) (by omega), ne (9 + 12 * p + j) (by omega)]
    exact f p hp k j hij hj
/-- one becomes idle -/
theorem IV_fr {S : Nat → Int32} {p : Nat} {B e : Int} (w : s_wf S) (hp : p < s_n S) (hB : B < 1000000000) (h : IV S B e) : IV (s_fr S p) (B + 1) e := by
  have wn := w.1.2
  obtain ⟨⟨a1, a3, ⟨a4, a5⟩, a6⟩, b, c, d, f, g⟩ := h
  obtain ⟨r1, r2, r3, r4⟩ := s_fr_at (S := S) (p := p) (by omega)
  have ne : ∀ i, i ≠ 226 → i ≠ 3 + 12 * p → i ≠ 5 + 12 * p → i ≠ 6 + 12 * p → s_fr S p i = S i := fun i h1 h2 h3 h4 => s_fr_ne h1 h2 h3 h4
  have hi : ∀ i, 145 ≤ i → i ≠ 226 → s_fr S p i = S i := fun i h1 h2 => ne i h2 (by omega) (by omega) (by omega)
  have e26 : iv (s_fr S p) 226 = iv S 226 + 1 := (congrArg Int32.toInt r1).trans (i_p1 a4 (by unfold iv at a5; omega))
  have e6 : iv (s_fr S p) (6 + 12 * p) = iv S 226 + 1 := (congrArg Int32.toInt r4).trans (i_p1 a4 (by unfold iv at a5; omega))
  have en : s_n (s_fr S p) = s_n S := s_n_e (ne 0 (by omega) (by omega) (by omega) (by omega))
  unfold IV
  rw [en, e26, iv_e (hi 206 (by omega) (by omega)), iv_e (hi 214 (by omega) (by omega)), iv_e (hi 222 (by omega) (by omega)), iv_e (hi 220 (by omega) (by omega)), iv_e (hi 209 (by omega) (by omega)), iv_e (hi 210 (by omega) (by omega)), iv_e (hi 211 (by omega) (by omega)), iv_e (hi 212 (by omega) (by omega))]
  refine ⟨⟨⟨a1.1, by omega⟩, ⟨a3.1, by omega⟩, ⟨by omega, by omega⟩, a6.1, by omega, by omega⟩, fun q hq => ?_, fun q q' h hq' => ?_, fun q q' h hq' e1 e2 => ?_, fun q hq k j hij hj => ?_, g⟩
  · obtain ⟨b1, b2, b3, b4, b5⟩ := b q hq
    unfold IV1
    rw [e26, iv_e (hi 206 (by omega) (by omega)), iv_e (hi 214 (by omega) (by omega)), iv_e (ne (1 + 12 * q) (by omega) (by omega) (by omega) (by omega)), iv_e (ne (2 + 12 * q) (by omega) (by omega) (by omega) (by omega)), iv_e (ne (7 + 12 * q) (by omega) (by omega) (by omega) (by omega))]
    by_cases cq : q = p
    · subst cq
      rw [iv_e r3, e6, r2]
      exact ⟨b1, ⟨b2.1, by omega, by omega⟩, by omega, ⟨b4.1, by omega⟩, fun g => absurd rfl g⟩
    · rw [iv_e (ne (5 + 12 * q) (by omega) (by omega) (by omega) (by omega)), iv_e (ne (6 + 12 * q) (by omega) (by omega) (by omega) (by omega)), ne (3 + 12 * q) (by omega) (by omega) (by omega) (by omega)]
      exact ⟨b1, b2, by omega, ⟨b4.1, by omega⟩, b5⟩
  · rw [iv_e (ne (1 + 12 * q) (by omega) (by omega) (by omega) (by omega)), iv_e (ne (1 + 12 * q') (by omega) (by omega) (by omega) (by omega))]
    exact c q q' h hq'
  · have k1 := (b q (by omega)).2.2.1
    have k2 := (b q' hq').2.2.1
    by_cases c1 : q = p
    · subst c1
      rw [e6, iv_e (ne (6 + 12 * q') (by omega) (by omega) (by omega) (by omega))]
      omega
    · by_cases c2 : q' = p
      · subst c2
        rw [e6, iv_e (ne (6 + 12 * q) (by omega) (by omega) (by omega) (by omega))]
        omega
      · rw [ne (3 + 12 * q) (by omega) (by omega) (by omega) (by omega)] at e1
        rw [ne (3 + 12 * q') (by omega) (by omega) (by omega) (by omega)] at e2
        rw [iv_e (ne (6 + 12 * q) (by omega) (by omega) (by omega) (by omega)), iv_e (ne (6 + 12 * q') (by omega) (by omega) (by omega) (by omega))]
        exact d q q' h hq' e1 e2
  · rw [s_c_e (ne (8 + 12 * q) (by omega) (by omega) (by omega) (by omega))] at hj
    have c4 := s_c4 w q hq
    rw [ne (9 + 12 * q + k) (by omega) (by omega) (by omega) (by omega), ne (9 + 12 * q + j) (by omega) (by omega) (by omega) (by omega)]
    exact f q hq k j hij hj
/-- one is lent -/
theorem IV_ld {S : Nat → Int32} {p : Nat} {x : Int32} {B e : Int} (w : s_wf S) (hp : p < s_n S) (hx : x ≠ -1) (hB : B < 1000000000) (he : 0 ≤ e) (h : IV S B e) : IV (s_ld S p x) (B + 1) (e + 1) := by
  have wn := w.1.2
  obtain ⟨⟨a1, a3, a4, ⟨a5, a6, a7⟩⟩, b, c, d, f, g⟩ := h
  obtain ⟨r1, r2, r3, r4⟩ := s_ld_at (S := S) (p := p) (x := x) (by omega)
  have ne : ∀ i, i ≠ 220 → i ≠ 3 + 12 * p → i ≠ 5 + 12 * p → i ≠ 7 + 12 * p → s_ld S p x i = S i := fun i h1 h2 h3 h4 => s_ld_ne h1 h2 h3 h4
  have hi : ∀ i, 145 ≤ i → i ≠ 220 → s_ld S p x i = S i := fun i h1 h2 => ne i h2 (by omega) (by omega) (by omega)
  have e20 : iv (s_ld S p x) 220 = iv S 220 + 1 := (congrArg Int32.toInt r4).trans (i_p1 (by unfold iv at a5 a6; omega) (by unfold iv at a7; omega))
  have en : s_n (s_ld S p x) = s_n S := s_n_e (ne 0 (by omega) (by omega) (by omega) (by omega))
  unfold IV
  rw [en, e20, iv_e (hi 206 (by omega) (by omega)), iv_e (hi 214 (by omega) (by omega)), iv_e (hi 226 (by omega) (by omega)), iv_e (hi 222 (by omega) (by omega)), iv_e (hi 209 (by omega) (by omega)), iv_e (hi 210 (by omega) (by omega)), iv_e (hi 211 (by omega) (by omega)), iv_e (hi 212 (by omega) (by omega))]
  refine ⟨⟨⟨a1.1, by omega⟩, ⟨a3.1, by omega⟩, ⟨a4.1, by omega⟩, a5, by omega, by omega⟩, fun q hq => ?_, fun q q' h hq' => ?_, fun q q' h hq' e1 e2 => ?_, fun q hq k j hij hj => ?_, g⟩
  · obtain ⟨b1, b2, b3, b4, b5⟩ := b q hq
    unfold IV1
    rw [iv_e (hi 206 (by omega) (by omega)), iv_e (hi 214 (by omega) (by omega)), iv_e (hi 226 (by omega) (by omega)), iv_e (ne (1 + 12 * q) (by omega) (by omega) (by omega) (by omega)), iv_e (ne (2 + 12 * q) (by omega) (by omega) (by omega) (by omega)), iv_e (ne (6 + 12 * q) (by omega) (by omega) (by omega) (by omega))]
    by_cases cq : q = p
    · subst cq
      have e7 : iv (s_ld S q x) (7 + 12 * q) = iv S (7 + 12 * q) + 1 := (congrArg Int32.toInt r3).trans (i_p1 (by unfold iv at b4; omega) (by unfold iv at b4; omega))
      rw [iv_e r2, e7]
      exact ⟨b1, ⟨b2.1, by omega, by omega⟩, b3, ⟨by omega, by omega⟩, fun _ => by omega⟩
    · rw [iv_e (ne (5 + 12 * q) (by omega) (by omega) (by omega) (by omega)), iv_e (ne (7 + 12 * q) (by omega) (by omega) (by omega) (by omega)), ne (3 + 12 * q) (by omega) (by omega) (by omega) (by omega)]
      exact ⟨b1, b2, b3, ⟨b4.1, by omega⟩, b5⟩
  · rw [iv_e (ne (1 + 12 * q) (by omega) (by omega) (by omega) (by omega)), iv_e (ne (1 + 12 * q') (by omega) (by omega) (by omega) (by omega))]
    exact c q q' h hq'
  · by_cases c1 : q = p
    · subst c1
      rw [r1] at e1
      exact absurd e1 hx
    · by_cases c2 : q' = p
      · subst c2
        rw [r1] at e2
        exact absurd e2 hx
      · rw [ne (3 + 12 * q) (by omega) (by omega) (by omega) (by omega)] at e1
        rw [ne (3 + 12 * q') (by omega) (by omega) (by omega) (by omega)] at e2
        rw [iv_e (ne (6 + 12 * q) (by omega) (by omega) (by omega) (by omega)), iv_e (ne (6 + 12 * q') (by omega) (by omega) (by omega) (by omega))]
        exact d q q' h hq' e1 e2
  · rw [s_c_e (ne (8 + 12 * q) (by omega) (by omega) (by omega) (by omega))] at hj
    have c4 := s_c4 w q hq
    rw [ne (9 + 12 * q + k) (by omega) (by omega) (by omega) (by omega), ne (9 + 12 * q + j) (by omega) (by omega) (by omega) (by omega)]
    exact f q hq k j hij hj
/-- one is opened -/
theorem IV_op {S : Nat → Int32} {B e : Int} (w : s_wf S) (hn : s_n S < 12) (hB : B < 1000000000) (h : IV S B e) : IV (s_op S) (B + 1) e := by
  obtain ⟨⟨a1, ⟨a3, a2⟩, ⟨a4, a5⟩, a6⟩, b, c, d, f, g⟩ := h
  obtain ⟨r0, r1, r2, r3, r4, r5, r6⟩ := s_op_at hn
  have hi : ∀ i, 145 ≤ i → i ≠ 214 → i ≠ 226 → s_op S i = S i := fun i h1 h2 h3 => s_op_ne (by omega) h2 h3 (by omega)
  have ne : ∀ q k, q < s_n S → 1 ≤ k → k < 13 → s_op S (k + 12 * q) = S (k + 12 * q) := fun q k h1 h2 h3 => s_op_ne (by omega) (by omega) (by omega) (by omega)
  have e26 : iv (s_op S) 226 = iv S 226 + 1 := (congrArg Int32.toInt r2).trans (i_p1 a4 (by unfold iv at a5; omega))
  have e14 : iv (s_op S) 214 = iv S 214 + 1 := (congrArg Int32.toInt r1).trans (i_p1 a3 (by unfold iv at a2; omega))
  have e6 : iv (s_op S) (6 + 12 * s_n S) = iv S 226 + 1 := (congrArg Int32.toInt r6).trans (i_p1 a4 (by unfold iv at a5; omega))
  have e1n : iv (s_op S) (1 + 12 * s_n S) = iv S 214 + 1 := (congrArg Int32.toInt r3).trans (i_p1 a3 (by unfold iv at a2; omega))
  have e7 : iv (s_op S) (7 + 12 * s_n S) = 0 := (congrArg Int32.toInt (s_op_z hn (f := 7) (by omega) (by omega) (by omega) (by omega) (by omega))).trans (nI_toInt (by omega))
  have e8 : s_c (s_op S) (s_n S) = 0 := by
    unfold s_c
    rw [s_op_z hn (f := 8) (by omega) (by omega) (by omega) (by omega) (by omega), nI_clamp (by omega)]
  have en := s_n_op w.1.1 hn
  unfold IV
  rw [en, e26, e14, iv_e (hi 206 (by omega) (by omega) (by omega)), iv_e (hi 220 (by omega) (by omega) (by omega)), iv_e (hi 222 (by omega) (by omega) (by omega)), iv_e (hi 209 (by omega) (by omega) (by omega)), iv_e (hi 210 (by omega) (by omega) (by omega)), iv_e (hi 211 (by omega) (by omega) (by omega)), iv_e (hi 212 (by omega) (by omega) (by omega))]
  refine ⟨⟨⟨a1.1, by omega⟩, ⟨by omega, by omega⟩, ⟨by omega, by omega⟩, a6.1, by omega, by omega⟩, fun q hq => ?_, fun q q' h hq' => ?_, fun q q' h hq' e1 e2 => ?_, fun q hq k j hij hj => ?_, g⟩
  · unfold IV1
    rw [e26, e14, iv_e (hi 206 (by omega) (by omega) (by omega))]
    by_cases cq : q = s_n S
    · subst cq
      rw [e1n, iv_e r4, iv_e r5, e6, e7, s_op_who hn]
      exact ⟨⟨by omega, by omega⟩, ⟨a1.1, by omega, by omega⟩, by omega, ⟨by omega, by omega⟩, fun g => absurd rfl g⟩
    · have hq2 : q < s_n S := by omega
      obtain ⟨b1, b2, b3, b4, b5⟩ := b q hq2
      rw [iv_e (ne q 1 hq2 (by omega) (by omega)), iv_e (ne q 2 hq2 (by omega) (by omega)), iv_e (ne q 5 hq2 (by omega) (by omega)), iv_e (ne q 6 hq2 (by omega) (by omega)), iv_e (ne q 7 hq2 (by omega) (by omega)), ne q 3 hq2 (by omega) (by omega)]
      exact ⟨⟨b1.1, by omega⟩, b2, by omega, ⟨b4.1, by omega⟩, b5⟩
  · have hq2 : q < s_n S := by omega
    have b1 := (b q hq2).1
    rw [iv_e (ne q 1 hq2 (by omega) (by omega))]
    by_cases cq : q' = s_n S
    · subst cq
      rw [e1n]
      omega
    · rw [iv_e (ne q' 1 (by omega) (by omega) (by omega))]
      exact c q q' h (by omega)
  · have hq2 : q < s_n S := by omega
    have b3 := (b q hq2).2.2.1
    rw [iv_e (ne q 6 hq2 (by omega) (by omega))]
    rw [ne q 3 hq2 (by omega) (by omega)] at e1
    by_cases cq : q' = s_n S
    · subst cq
      rw [e6]
      omega
    · rw [iv_e (ne q' 6 (by omega) (by omega) (by omega))]
      rw [ne q' 3 (by omega) (by omega) (by omega)] at e2
      exact d q q' h (by omega) e1 e2
  · by_cases cq : q = s_n S
    · subst cq
      rw [e8] at hj
      omega
    · have hq2 : q < s_n S := by omega
      rw [s_c_e (ne q 8 hq2 (by omega) (by omega))] at hj
      have c4 := s_c4 w q hq2
      have e1 := ne q (9 + k) hq2 (by omega) (by omega)
      have e2 := ne q (9 + j) hq2 (by omega) (by omega)
      rw [show 9 + 12 * q + k = 9 + k + 12 * q by omega, show 9 + 12 * q + j = 9 + j + 12 * q by omega, e1, e2]
      have := f q hq2 k j hij hj
      rw [show 9 + 12 * q + k = 9 + k + 12 * q by omega, show 9 + 12 * q + j = 9 + j + 12 * q by omega] at this
      exact this
/-- one is served -/
theorem IV_s1 {T : Nat → Int32} {B e : Int} (hn : s_n T ≤ 12) (wc : ∀ p, p < s_n T → s_c T p ≤ 4) (hq : s_q T ≤ 20) (hk : 0 < s_q T) (hB : B < 1000000000) (he : 0 ≤ e) (h : IV T B (e + 1)) : IV (s_s1 T) B e := by
  have ne : ∀ i, i < 145 ∨ (206 ≤ i ∧ i ≠ 222 ∧ i ≠ 223) → s_s1 T i = T i := by
    intro i hi
    unfold s_s1
    rw [q_upd_ne (by omega), q_upd_ne (by omega), s_uq_ne (by omega)]
  have e22 : s_s1 T 222 = T 222 + nI 1 := by
    unfold s_s1
    rw [q_upd_eq, q_upd_ne (by omega), s_uq_ne (by omega)]
  have en : s_n (s_s1 T) = s_n T := s_n_e (ne 0 (by omega))
  obtain ⟨⟨a1, a3, a4, ⟨a5, a6, a7⟩⟩, b, c, d, f, g⟩ := h
  have e22 : iv (s_s1 T) 222 = iv T 222 + 1 := (congrArg Int32.toInt e22).trans (i_p1 a5 (by unfold iv at a6 a7; omega))
  unfold IV
  rw [en, e22, iv_e (ne 206 (by omega)), iv_e (ne 214 (by omega)), iv_e (ne 226 (by omega)), iv_e (ne 220 (by omega)), iv_e (ne 209 (by omega)), iv_e (ne 210 (by omega)), iv_e (ne 211 (by omega)), iv_e (ne 212 (by omega))]
  refine ⟨⟨a1, a3, a4, by omega, by omega, a7⟩, fun q hq => ?_, fun q q' h hq' => ?_, fun q q' h hq' e1 e2 => ?_, fun q hq k j hij hj => ?_, g⟩
  · have g0 := b q hq
    unfold IV1 at g0 ⊢
    rw [iv_e (ne 206 (by omega)), iv_e (ne 214 (by omega)), iv_e (ne 226 (by omega)), iv_e (ne (1 + 12 * q) (by omega)), iv_e (ne (2 + 12 * q) (by omega)), iv_e (ne (5 + 12 * q) (by omega)), iv_e (ne (6 + 12 * q) (by omega)), iv_e (ne (7 + 12 * q) (by omega)), ne (3 + 12 * q) (by omega)]
    exact g0
  · rw [iv_e (ne (1 + 12 * q) (by omega)), iv_e (ne (1 + 12 * q') (by omega))]
    exact c q q' h hq'
  · rw [ne (3 + 12 * q) (by omega)] at e1
    rw [ne (3 + 12 * q') (by omega)] at e2
    rw [iv_e (ne (6 + 12 * q) (by omega)), iv_e (ne (6 + 12 * q') (by omega))]
    exact d q q' h hq' e1 e2
  · rw [s_c_e (ne (8 + 12 * q) (by omega))] at hj
    have c4 := wc q hq
    rw [ne (9 + 12 * q + k) (by omega), ne (9 + 12 * q + j) (by omega)]
    exact f q hq k j hij hj
theorem s_fi_at {S : Nat → Int32} {p : Nat} {y : Int32} : ∀ d k, s_fi S p y d k < k + d → S (9 + 12 * p + s_fi S p y d k) = y
  | 0, k, h => absurd h (by unfold s_fi; omega)
  | d + 1, k, h => by
    unfold s_fi at h ⊢
    by_cases c : S (9 + 12 * p + k) = y
    · rw [if_pos c]
      exact c
    · rw [if_neg c] at h ⊢
      exact s_fi_at d (k + 1) (by omega)
