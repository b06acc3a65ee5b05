-- THE LAW'S INVARIANT
def w_sl (R : Nat → Int32) (i : Nat) : Nat → Int32 := fun k => R (227 * i + k)
def w_SG (S : Nat → Int32) (B C U : Nat) : Prop := s_wf S ∧ XV S B ∧ ZV S C U
theorem SG_lo {S S' : Nat → Int32} {B C U : Nat} (h : e_lo S S') (g : w_SG S B C U) : w_SG S' B C U := ⟨s_wf_lo g.1 h, XV_lo h g.1.2.1.2 g.2.1, ZV_lo h g.1.1.2 g.2.2⟩
theorem SG_up {S : Nat → Int32} {B C U B' C' U' : Nat} (g : w_SG S B C U) (hB : B ≤ B') (hC : C ≤ C') (hU : U ≤ U') : w_SG S B' C' U' := ⟨g.1, XV_up g.2.1 hB, ZV_up g.2.2 hC hU⟩
def w_SL (R : Nat → Int32) (h : Nat) (kb : Nat → Int32) (B C U : Nat) : Prop := w_SG R B C U ∧ (∀ i, i < h → w_SG (w_sl R (i + 1)) B C U) ∧ ∀ k, k < 2 → kb k = nI 1 → w_SG (w_sl R (7 + k)) B C U
theorem sav_lo {R : Nat → Int32} {h : Nat} : e_lo R (s_sav R h) := fun _ hi => s_sav_lo hi
theorem lo_rfl {R : Nat → Int32} : e_lo R R := fun _ _ => rfl
theorem sav_G {R : Nat → Int32} {h i : Nat} (hh : h ≤ 6) (hi : i < s_h1 h) : e_lo (s_hG h (fun i => w_sl R (i + 1)) (s_sav R h) i) (w_sl (s_sav R h) (i + 1)) := by
  intro q hq
  unfold s_h1 at hi
  show s_sav R h (227 * (i + 1) + q) = s_hG h (fun i => w_sl R (i + 1)) (s_sav R h) i q
  unfold s_hG
  by_cases c : h = 6
  · rw [if_pos c] at hi
    rw [if_pos c]
    by_cases c5 : i < 5
    · rw [if_pos c5]
      show s_sav R h (227 * (i + 1) + q) = R (227 * (i + 1 + 1) + q)
      unfold s_sav
      rw [if_pos c]
      unfold s_cp
      rw [if_neg (by omega)]
      unfold s_sf
      rw [if_pos (by omega)]
      exact congrArg R (by omega)
    · rw [if_neg c5, s_sav_lo hq]
      unfold s_sav
      rw [if_pos c]
      unfold s_cp
      rw [if_pos (by omega)]
      unfold s_sf
      rw [if_neg (by omega)]
      exact congrArg R (by omega)
  · rw [if_neg c] at hi
    rw [if_neg c]
    by_cases c2 : i = h
    · rw [if_pos c2, s_sav_lo hq]
      unfold s_sav
      rw [if_neg c]
      unfold s_cp
      rw [if_pos (by omega)]
      exact congrArg R (by omega)
    · rw [if_neg c2]
      show s_sav R h (227 * (i + 1) + q) = R (227 * (i + 1) + q)
      unfold s_sav
      rw [if_neg c]
      unfold s_cp
      rw [if_neg (by omega)]
theorem sav_K {R : Nat → Int32} {h k : Nat} (hh : h ≤ 6) : w_sl (s_sav R h) (7 + k) = w_sl R (7 + k) := by
  funext q
  show s_sav R h (227 * (7 + k) + q) = R (227 * (7 + k) + q)
  unfold s_sav
  by_cases c : h = 6
  · rw [if_pos c]
    unfold s_cp
    rw [if_neg (by omega)]
    unfold s_sf
    rw [if_neg (by omega)]
  · rw [if_neg c]
    unfold s_cp
    rw [if_neg (by omega)]
theorem sav_SL {R : Nat → Int32} {h B C U : Nat} {kb : Nat → Int32} (hh : h ≤ 6) (g : w_SL R h kb B C U) : w_SL (s_sav R h) (s_h1 h) kb B C U := by
  refine ⟨SG_lo sav_lo g.1, fun i hi => SG_lo (sav_G hh hi) ?_, fun k hk e => by rw [sav_K hh]; exact g.2.2 k hk e⟩
  unfold s_h1 at hi
  unfold s_hG
  by_cases c : h = 6
  · rw [if_pos c] at hi
    rw [if_pos c]
    by_cases c5 : i < 5
    · rw [if_pos c5]
      exact g.2.1 (i + 1) (by omega)
    · rw [if_neg c5]
      exact SG_lo sav_lo g.1
  · rw [if_neg c] at hi
    rw [if_neg c]
    by_cases c2 : i = h
    · rw [if_pos c2]
      exact SG_lo sav_lo g.1
    · rw [if_neg c2]
      exact g.2.1 i (by omega)
theorem hi_sl {R R' : Nat → Int32} {i : Nat} (e : ∀ i, 227 ≤ i → R' i = R i) (hi : 1 ≤ i) : w_sl R' i = w_sl R i := funext fun q => e (227 * i + q) (by omega)
theorem hi_SL {R R' : Nat → Int32} {h B C U B' C' U' : Nat} {kb : Nat → Int32} (e : ∀ i, 227 ≤ i → R' i = R i) (g : w_SL R h kb B C U) (g' : w_SG R' B' C' U') (hB : B ≤ B') (hC : C ≤ C') (hU : U ≤ U') : w_SL R' h kb B' C' U' := ⟨g', fun i hi => by rw [hi_sl e (by omega)]; exact SG_up (g.2.1 i hi) hB hC hU, fun k hk q => by rw [hi_sl e (by omega)]; exact SG_up (g.2.2 k hk q) hB hC hU⟩
theorem lo_SL {R R' : Nat → Int32} {h B C U : Nat} {kb : Nat → Int32} (hh : h ≤ 6) (e : ∀ i, i < 2043 → R' i = R i) (g : w_SL R h kb B C U) : w_SL R' h kb B C U := ⟨SG_lo (fun i hi => e i (by omega)) g.1, fun i hi => SG_lo (fun q hq => e (227 * (i + 1) + q) (by omega)) (g.2.1 i hi), fun k hk c => SG_lo (fun q hq => e (227 * (7 + k) + q) (by omega)) (g.2.2 k hk c)⟩
theorem CV_fr {M1 M2 : Q_M} {S S' : Nat → Int32} {h : Nat} {G G' : Nat → Nat → Int32} {kb : Nat → Int32} {T T' : Nat → Nat → Int32} {n : Nat} {tx : Nat → Nat} (hc : CV M1 S h G kb T n tx) (f1 : ∀ r, r < 21 → M2.1 r = M1.1 r) (f2 : M2.2.1 = M1.2.1) (hS : e_lo S S') (hG : ∀ i, i < h → e_lo (G i) (G' i)) (hT : ∀ k, k < 2 → kb k = nI 1 → e_lo (T k) (T' k)) : CV M2 S' h G' kb T' n tx := by
  have rr : ∀ r, 10 ≤ r → r ≤ 20 → M2.1 r = M1.1 r := fun r _ h => f1 r (by omega)
  have r11 : M2.2.1 11 = M1.2.1 11 := by rw [f2]
  have up : ∀ {j : Nat} {X X' : Nat → Int32}, RC j M1 X → e_lo X X' → RC j M2 X' := fun g e => RC_lo (RC_rows rr r11 g) e
  obtain ⟨c1, c2, ⟨h1, h2, h3, h4, h5⟩, c4, ⟨b1, b2, b3⟩⟩ := hc
  refine ⟨up c1 hS, fun j hj => by rw [f2]; exact c2 j hj, ⟨h1, by rw [f1 3 (by decide)]; exact h2, by rw [f2]; exact h3, by rw [f2]; exact h4, fun i hi => by rw [f2]; exact up (h5 i hi) (hG i hi)⟩, fun k hk => ?_, ⟨b1, by rw [f1 5 (by decide)]; exact b2, fun k hk => by rw [f1 6 (by decide)]; exact b3 k hk⟩⟩
  obtain ⟨k1, k2, k3, k4⟩ := c4 k hk
  exact ⟨by rw [f2]; exact k1, by rw [f1 2 (by decide)]; exact k2, k3, fun e => up (k4 e) (hT k hk e)⟩
def LD (M : Q_M) (h n : Nat) (tx : Nat → Nat) (B C U : Nat) : Prop := CV M (M.1 22 0 0) h (fun i => w_sl (M.1 22 0 0) (i + 1)) (M.1 23 0 0) (fun k => w_sl (M.1 22 0 0) (7 + k)) n tx ∧ M.1 21 0 0 1 = nI h ∧ TV M n tx ∧ w_SL (M.1 22 0 0) h (M.1 23 0 0) B C U
/-- behind c calls -/
def LI (c : Nat) (M : Q_M) : Prop := ∃ (h n : Nat) (tx : Nat → Nat) (B C U : Nat), LD M h n tx B C U ∧ U + n ≤ c ∧ B ≤ 200000 * c ∧ C ≤ 10000 * c
theorem LI_mk {c : Nat} {M1 M2 : Q_M} {R2 : Nat → Int32} {h2 : Nat} {G2 : Nat → Nat → Int32} {kb2 : Nat → Int32} {T2 : Nat → Nat → Int32} {n2 : Nat} {tx2 : Nat → Nat} {B C U : Nat} (hc : CV M1 R2 h2 G2 kb2 T2 n2 tx2) (f1 : ∀ r, r < 21 → M2.1 r = M1.1 r) (f2 : M2.2.1 = M1.2.1) (eR : e_lo R2 (M2.1 22 0 0)) (hG : ∀ i, i < h2 → e_lo (G2 i) (w_sl (M2.1 22 0 0) (i + 1))) (ek : M2.1 23 0 0 = kb2) (hT : ∀ k, k < 2 → kb2 k = nI 1 → e_lo (T2 k) (w_sl (M2.1 22 0 0) (7 + k))) (h21 : M2.1 21 0 0 1 = nI h2) (ht : TV M2 n2 tx2) (hs : w_SL (M2.1 22 0 0) h2 kb2 B C U) (hu : U + n2 ≤ c) (hB : B ≤ 200000 * c) (hC : C ≤ 10000 * c) : LI c M2 := ⟨h2, n2, tx2, B, C, U, ⟨by rw [ek]; exact CV_fr hc f1 f2 eR hG hT, h21, ht, by rw [ek]; exact hs⟩, hu, hB, hC⟩
theorem LI_up {c : Nat} {M : Q_M} (h : LI c M) : LI (c + 1) M := by
  obtain ⟨h, n, tx, B, C, U, hd, a1, a2, a3⟩ := h
  exact ⟨h, n, tx, B, C, U, hd, by omega, by omega, by omega⟩
/-- nothing but the reference's own number of the exception -/
theorem LI_o {c : Nat} {M M2 : Q_M} {x : Int32} (hi : LI c M) (e1 : M2.1 = (q_si M (21, 0, 0) 3 x).1) (e2 : M2.2.1 = M.2.1) : LI (c + 1) M2 := by
  obtain ⟨h, n, tx, B, C, U, ⟨hc, h21, ht, hs⟩, hu, hB, hC⟩ := hi
  have e22 : M2.1 22 0 0 = M.1 22 0 0 := by rw [e1, q_i_r (by decide)]
  have e23 : M2.1 23 0 0 = M.1 23 0 0 := by rw [e1, q_i_r (by decide)]
  have e24 : M2.1 24 = M.1 24 := by rw [e1, q_i_r (by decide)]
  have e21 : ∀ k, k ≠ 3 → M2.1 21 0 0 k = M.1 21 0 0 k := fun k hk => by rw [e1, q_i_e, q_upd_ne hk]
  exact LI_mk hc (fun r hr => by rw [e1, q_i_r (by omega)]) e2 (by rw [e22]; exact lo_rfl) (fun i hi => by rw [e22]; exact lo_rfl) e23 (fun k hk e => by rw [e22]; exact lo_rfl) (by rw [e21 1 (by decide)]; exact h21) ⟨ht.1, by rw [e21 5 (by decide)]; exact ht.2.1, fun k hk => by rw [e24]; exact ht.2.2 k hk⟩ (by rw [e22]; exact hs) (by omega) (by omega) (by omega)
/-- behind a change that was saved -/
theorem LI_sv {c : Nat} {M M1 M2 : Q_M} {h n n2 : Nat} {tx : Nat → Nat} {B C U B' C' U' : Nat} {R1 R2 S2 X1 : Nat → Int32} (hd : LD M h n tx B C U) (hc1 : CV M1 R1 (s_h1 h) (s_hG h (fun i => w_sl (M.1 22 0 0) (i + 1)) X1) (M.1 23 0 0) (fun k => w_sl (M.1 22 0 0) (7 + k)) n2 tx) (hX : e_lo (M.1 22 0 0) X1) (hS2 : ∀ i, i < 2043 → S2 i = M.1 22 0 0 i) (f1 : ∀ r, r < 21 → M2.1 r = M1.1 r) (f2 : M2.2.1 = M1.2.1) (e22 : M2.1 22 0 0 = R2) (hR : e_lo R1 R2) (hhi : ∀ i, 227 ≤ i → R2 i = s_sav S2 h i) (e23 : M2.1 23 0 0 = M.1 23 0 0) (e21 : M2.1 21 0 0 1 = nI (s_h1 h)) (ht : TV M2 n2 tx) (g : w_SG R2 B' C' U') (hB : B ≤ B') (hC : C ≤ C') (hU : U ≤ U') (hu : U' + n2 ≤ c) (hB2 : B' ≤ 200000 * c) (hC2 : C' ≤ 10000 * c) : LI c M2 := by
  obtain ⟨hc, h21, -, hs⟩ := hd
  have h6 : h ≤ 6 := hc.2.2.1.1
  have gS := sav_SL h6 (lo_SL h6 hS2 hs)
  refine LI_mk hc1 f1 f2 (by rw [e22]; exact hR) (fun i hi => ?_) e23 (fun k hk e => ?_) e21 ht (by rw [e22]; exact hi_SL hhi gS g hB hC hU) hu hB2 hC2
  · rw [e22, hi_sl hhi (by omega)]
    intro q hq
    rw [sav_G h6 hi q hq]
    unfold s_h1 at hi
    unfold s_hG
    by_cases c : h = 6
    · rw [if_pos c, if_pos c]
      by_cases c5 : i < 5
      · rw [if_pos c5, if_pos c5]
        exact hS2 (227 * (i + 1 + 1) + q) (by omega)
      · rw [if_neg c5, if_neg c5, s_sav_lo hq, hS2 q (by omega), hX q hq]
    · rw [if_neg c] at hi
      rw [if_neg c, if_neg c]
      by_cases c2 : i = h
      · rw [if_pos c2, if_pos c2, s_sav_lo hq, hS2 q (by omega), hX q hq]
      · rw [if_neg c2, if_neg c2]
        exact hS2 (227 * (i + 1) + q) (by omega)
  · rw [e22, hi_sl hhi (by omega), sav_K h6]
    exact fun q hq => hS2 (227 * (7 + k) + q) (by omega)
/-- behind a call that changes nothing but scratch, and perhaps the buffer -/
theorem LI_tr {c : Nat} {M M1 M2 : Q_M} {h n n2 : Nat} {tx tx2 : Nat → Nat} {B C U : Nat} {S1 : Nat → Int32} (hd : LD M h n tx B C U) (hc1 : CV M1 S1 h (fun i => w_sl (M.1 22 0 0) (i + 1)) (M.1 23 0 0) (fun k => w_sl (M.1 22 0 0) (7 + k)) n2 tx2) (hS : e_lo (M.1 22 0 0) S1) (f1 : ∀ r, r < 21 → M2.1 r = M1.1 r) (f2 : M2.2.1 = M1.2.1) (e22 : ∀ i, i < 2043 → M2.1 22 0 0 i = M.1 22 0 0 i) (e23 : M2.1 23 0 0 = M.1 23 0 0) (e21 : M2.1 21 0 0 1 = nI h) (ht : TV M2 n2 tx2) (hu : U + n2 ≤ c) (hB2 : B ≤ 200000 * c) (hC2 : C ≤ 10000 * c) : LI c M2 := by
  obtain ⟨hc, h21, -, hs⟩ := hd
  have h6 : h ≤ 6 := hc.2.2.1.1
  refine LI_mk hc1 f1 f2 (fun i hi => by rw [e22 i (by omega), hS i hi]) (fun i hi q hq => e22 (227 * (i + 1) + q) (by omega)) e23 (fun k hk e q hq => e22 (227 * (7 + k) + q) (by omega)) e21 ht (lo_SL h6 e22 hs) hu hB2 hC2
-- WHAT ONE CALL OF THE LAW ASKS OF BOTH SIDES
/-- the reference's call behind the class's: k what the class threw, z whether the answer is a boolean -/
def j_R (z : Bool) (P9 : Q_P) (av9 : List Q_V) (c k : Nat) (M1 : Q_M) : Prop := ∀ (K2 : Option Q_V → Q_M → Prop) (KX2 : Nat → Q_M → Prop), (∀ (b : Int32) (M2 : Q_M), M2.1 21 0 0 3 = nI k → (z = true → q_bit b) → (k = 0 → M2.2.2 25 0 0 0 = b.toInt64) → LI c M2 → K2 (some (.inl b)) M2) → P9 av9 M1 K2 KX2
def j_P (z : Bool) (P P9 : Q_P) (av av9 : List Q_V) (c : Nat) (M : Q_M) : Prop := ∀ (K : Option Q_V → Q_M → Prop) (KX : Nat → Q_M → Prop), (∀ (k : Nat) (M1 : Q_M), k ≤ 3 → j_R z P9 av9 c k M1 → K (some (.inl (nI k))) M1) → P av M K KX
/-- of calls that answer nothing -/
def j_V (P P9 : Q_P) (av av9 : List Q_V) (c : Nat) (M : Q_M) : Prop := ∀ (K : Option Q_V → Q_M → Prop) (KX : Nat → Q_M → Prop), (∀ (k : Nat) (M1 : Q_M), (∀ (K2 : Option Q_V → Q_M → Prop) (KX2 : Nat → Q_M → Prop), (∀ M2 : Q_M, M2.1 21 0 0 3 = nI k → LI c M2 → K2 none M2) → P9 av9 M1 K2 KX2) → K (some (.inl (nI k))) M1) → P av M K KX
/-- of calls that throw nothing: the same answer -/
def j_D (P P9 : Q_P) (c : Nat) (M : Q_M) : Prop := ∀ (K : Option Q_V → Q_M → Prop) (KX : Nat → Q_M → Prop), (∀ (v : Int32) (M1 : Q_M), (∀ (K2 : Option Q_V → Q_M → Prop) (KX2 : Nat → Q_M → Prop), (∀ M2 : Q_M, LI c M2 → K2 (some (.inl v)) M2) → P9 [.inr (.inl (21, 0, 0))] M1 K2 KX2) → K (some (.inl v)) M1) → P [.inr (.inl (0, 0, 0))] M K KX
def j_H (P P9 : Q_P) (c : Nat) (M : Q_M) : Prop := ∀ (K : Option Q_V → Q_M → Prop) (KX : Nat → Q_M → Prop), (∀ (v : UInt64) (M1 : Q_M), (∀ (K2 : Option Q_V → Q_M → Prop) (KX2 : Nat → Q_M → Prop), (∀ M2 : Q_M, LI c M2 → K2 (some (.inr (.inr (.inr v)))) M2) → P9 [.inr (.inl (21, 0, 0))] M1 K2 KX2) → K (some (.inr (.inr (.inr v)))) M1) → P [.inr (.inl (0, 0, 0))] M K KX
abbrev w_x : Q_V := .inr (.inl (0, 0, 0))
abbrev w_m : Q_V := .inr (.inl (21, 0, 0))
abbrev w_o : Q_V := .inr (.inl (25, 0, 0))
theorem q_sl_o {M : Q_M} {v : Int64} : (q_sl M (25, 0, 0) 0 v).2.2 25 0 0 0 = v := by
  show (if (25 : Nat) = 25 ∧ (0 : Nat) = 0 ∧ (0 : Nat) = 0 ∧ (0 : Nat) = 0 then v else M.2.2 25 0 0 0) = v
  exact if_pos ⟨rfl, rfl, rfl, rfl⟩
theorem q_si_3 {M : Q_M} {x : Int32} : (q_si M (21, 0, 0) 3 x).1 21 0 0 3 = x := by rw [q_i_e, q_upd_eq]
theorem lp1_of {R : Nat → Int32} {p : Nat} (w : s_wf R) (hp : p < s_n R) : s_lp1 R (nI p) := by
  have h12 := w.1.2
  refine ⟨nI_le (by omega) (by omega), ?_⟩
  rw [w.1.1, show nI (s_n R) - nI 1 = nI (s_n R - 1) from pk_sub (by omega)]
  exact nI_le (by omega) (by omega)
