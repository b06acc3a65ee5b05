-- A SLOT BEHIND c CHANGES, AND WHAT EACH CHANGE LEAVES
def GS (S : Nat → Int32) (c : Nat) : Prop := s_wf S ∧ XV S (10000 * c) ∧ ZV S (10000 * c) c ∧ IV S ((10000 * c : Nat) : Int) 0
theorem GS_up {S : Nat → Int32} {c c' : Nat} (h : GS S c) (hc : c ≤ c') : GS S c' := ⟨h.1, XV_up h.2.1 (by omega), ZV_up h.2.2.1 (by omega) hc, IV_up h.2.2.2 (by omega) (by omega)⟩
theorem GS_of {S : Nat → Int32} {c B C U : Nat} {B' : Int} (w : s_wf S) (x : XV S B) (z : ZV S C U) (i : IV S B' 0) (hB : B ≤ 10000 * c) (hC : C ≤ 10000 * c) (hU : U ≤ c) (hB' : B' ≤ ((10000 * c : Nat) : Int)) : GS S c := ⟨w, XV_up x hB, ZV_up z hC hU, IV_up i hB' (by omega)⟩
theorem i_ge {x : Int32} (h : 0 ≤ x.toInt) : ¬ x < 0 := by
  rw [Int32.lt_iff_toInt_lt]
  show ¬ x.toInt < 0
  omega
theorem i_bi {p : Prop} [Decidable p] : ¬ q_bi p < 0 := by
  unfold q_bi
  split <;> decide
theorem i_nI {n : Nat} (h : n < 2 ^ 31) : ¬ nI n < 0 := nI_pos h
theorem i_rg {lo hi : Nat} {a : Int32} (hl : lo < 2 ^ 31) (hh : hi < 2 ^ 31) (h : s_rg lo hi a) : (lo : Int) ≤ a.toInt ∧ a.toInt ≤ hi := by
  obtain ⟨k, h1, h2, e⟩ := s_rg_n hl hh h
  rw [e, nI_toInt (by omega)]
  omega
/-- what a change may answer: less than 0, and nothing is changed, or else the new slot -/
def A_K (K : Option Q_V → Q_M → Prop) (c : Nat) (M : Q_M) (S : Nat → Int32) (h : Nat) (G : Nat → Nat → Int32) (kb : Nat → Int32) (T : Nat → Nat → Int32) (n : Nat) (tx : Nat → Nat) : Prop := (∀ v : Int32, v < 0 → K (some (.inl v)) M) ∧ ∀ (v : Int32) (M' : Q_M) (S' : Nat → Int32), ¬ v < 0 → CV M' S' (s_h1 h) (s_hG h G S) kb T n tx → GS S' (c + 1) → K (some (.inl v)) M'
abbrev w_x : Q_V := .inr (.inl (0, 0, 0))
section AC
variable {c : Nat} {M : Q_M} {S : Nat → Int32} {h : Nat} {G : Nat → Nat → Int32} {kb : Nat → Int32} {T : Nat → Nat → Int32} {n : Nat} {tx : Nat → Nat} {K : Option Q_V → Q_M → Prop}
theorem a_ask (hc : CV M S h G kb T n tx) (g : GS S c) (h60 : c < 60) (hK : A_K K c M S h G kb T n tx) (a u : Int32) : pL_ask [w_x, .inl a, .inl u] M K (fun _ _ => False) := by
  obtain ⟨w, x, z, i⟩ := g
  refine ⟨S, h, G, kb, T, n, tx, a, u, hc, rfl, fun y hy ha hr hl hq M' hc' _ => hK.2 _ _ _ i_bi hc' ?_, fun _ => hK.1 _ (by decide), fun _ _ => hK.1 _ (by decide), fun _ _ _ => hK.1 _ (by decide)⟩
  exact GS_of hc'.1.1 (XV_as w hy hl hq x).1 (ZV_as w hy hl hq z) (IV_as w hy hl hq (by omega) i) (by omega) (by omega) (by omega) (by omega)
theorem a_give (hc : CV M S h G kb T n tx) (g : GS S c) (h60 : c < 60) (hK : A_K K c M S h G kb T n tx) (a : Int32) : pL_give [w_x, .inl a] M K (fun _ _ => False) := by
  obtain ⟨w, x, z, i⟩ := g
  refine ⟨S, h, G, kb, T, n, tx, a, hc, rfl, fun y p hy ha hl M' hc' _ => hK.2 _ _ _ i_bi hc' ?_, fun _ => hK.1 _ (by decide), fun _ _ => hK.1 _ (by decide)⟩
  have hp := (s_lk_lt hl).1
  exact GS_of hc'.1.1 (XV_X1 (X1_gv w hp) x) (ZV_X1 (Y1_gv w hp) (X1_gv w hp) z) (IV_gv w hp (by omega) i) (by omega) (by omega) (by omega) (by omega)
theorem a_leave (hc : CV M S h G kb T n tx) (g : GS S c) (h60 : c < 60) (hK : A_K K c M S h G kb T n tx) (a : Int32) : pL_leave [w_x, .inl a] M K (fun _ _ => False) := by
  obtain ⟨w, x, z, i⟩ := g
  refine ⟨S, h, G, kb, T, n, tx, a, hc, rfl, fun y p hy ha hl M' hc' _ => hK.2 _ _ _ ?_ hc' ?_, fun _ => hK.1 _ (by decide), fun _ _ => hK.1 _ (by decide)⟩
  · obtain ⟨v, hv, e⟩ := x.2.1 p (s_qd_lt hl).1
    rw [e]
    exact i_nI (by omega)
  · have hp := (s_qd_lt hl).1
    exact GS_of hc'.1.1 (XV_X1 (X1_uq w.2.1.1 w.2.1.2 hp) x) (ZV_X1 (Y1_uq w hp) (X1_uq w.2.1.1 w.2.1.2 hp) z) (IV_uq w hp i) (by omega) (by omega) (by omega) (by omega)
theorem a_use (hc : CV M S h G kb T n tx) (g : GS S c) (h60 : c < 60) (hK : A_K K c M S h G kb T n tx) (a y : Int32) : pL_use [w_x, .inl a, .inl y] M K (fun _ _ => False) := by
  obtain ⟨w, x, z, i⟩ := g
  refine ⟨S, h, G, kb, T, n, tx, a, y, hc, rfl, fun y' p hy ha hr hl M' hc' _ => hK.2 _ _ _ i_bi hc' ?_, fun _ => hK.1 _ (by decide), fun _ _ => hK.1 _ (by decide), fun _ _ _ => hK.1 _ (by decide)⟩
  have hp := (s_lk_lt hl).1
  exact GS_of hc'.1.1 (XV_us w hp x).1 (ZV_us w hp z) (IV_us w hp i) (by omega) (by omega) (by omega) (by omega)
theorem a_breaks (hc : CV M S h G kb T n tx) (g : GS S c) (h60 : c < 60) (hK : A_K K c M S h G kb T n tx) (a : Int32) : pL_breaks [w_x, .inl a] M K (fun _ _ => False) := by
  obtain ⟨w, x, z, i⟩ := g
  refine ⟨S, h, G, kb, T, n, tx, a, hc, rfl, fun p hp ha M' hc' _ => hK.2 _ _ _ i_bi hc' ?_, fun _ => hK.1 _ (by decide)⟩
  have wn := w.1.2
  exact GS_of hc'.1.1 (XV_upd w (by omega) (by omega) (by omega) x).1 (ZV_upd w (by omega) (Or.inl ⟨by omega, by omega⟩) z) (IV_br w hp i) (by omega) (by omega) (by omega) (by omega)
theorem a_tick (hc : CV M S h G kb T n tx) (g : GS S c) (h60 : c < 60) (hK : A_K K c M S h G kb T n tx) (a : Int32) : pL_tick [w_x, .inl a] M K (fun _ _ => False) := by
  obtain ⟨w, x, z, i⟩ := g
  refine ⟨S, h, G, kb, T, n, tx, a, hc, rfl, fun t ht ha hr M' hc' _ => hK.2 _ _ _ ?_ hc' ?_, fun _ => hK.1 _ (by decide)⟩
  · have := l_ps t S w
    exact i_nI (by omega)
  · exact GS_of hc'.1.1 (XV_ps t S _ w x).1 (ZV_ps t S _ _ w z) (IV_ps t S _ w (by omega) i) (by omega) (by omega) (by omega) (by omega)
theorem a_most (hc : CV M S h G kb T n tx) (g : GS S c) (h60 : c < 60) (hK : A_K K c M S h G kb T n tx) (a : Int32) : pL_most [w_x, .inl a] M K (fun _ _ => False) := by
  obtain ⟨w, x, z, i⟩ := g
  refine ⟨S, h, G, kb, T, n, tx, a, hc, rfl, fun hr M' hc' _ => hK.2 _ _ _ ?_ hc' ?_, fun _ => hK.1 _ (by decide)⟩
  · rw [w.2.2.1.1]
    exact i_nI (by have := w.2.2.1.2; omega)
  · obtain ⟨k, h1, h2, e⟩ := s_rg_n (by omega) (by omega) hr
    have w' : s_wf (upd S 207 a) := s_wf_set (i := 0) w (by omega) (fun _ => ⟨k, h2, e⟩) (fun q => absurd q (by omega)) (fun q => absurd q (by omega))
    have x' := (XV_upd (i := 207) (x := a) w (by omega) (by omega) (by omega) x).1
    have z' := ZV_upd (i := 207) (x := a) w (by omega) (Or.inr (by omega)) z
    have i' := IV_ac (i := 207) (x := a) w (by omega) i
    exact GS_of hc'.1.1 (XV_X1 (X1_tm _ _ w') x') (ZV_X1 (Y1_tm _ _ w') (X1_tm _ _ w') z') (IV_tm _ _ w' i') (by omega) (by omega) (by omega) (by omega)
theorem a_idles (hc : CV M S h G kb T n tx) (g : GS S c) (h60 : c < 60) (hK : A_K K c M S h G kb T n tx) (a : Int32) : pL_idles [w_x, .inl a] M K (fun _ _ => False) := by
  obtain ⟨w, x, z, i⟩ := g
  refine ⟨S, h, G, kb, T, n, tx, a, hc, rfl, fun hr M' hc' _ => hK.2 _ _ _ ?_ hc' ?_, fun _ => hK.1 _ (by decide)⟩
  · rw [w.2.2.2.1.1]
    exact i_nI (by have := w.2.2.2.1.2; omega)
  · exact GS_of hc'.1.1 (XV_upd w (by omega) (by omega) (by omega) x).1 (ZV_upd w (by omega) (Or.inr (by omega)) z) (IV_ac w (by omega) i) (by omega) (by omega) (by omega) (by omega)
theorem a_ages (hc : CV M S h G kb T n tx) (g : GS S c) (h60 : c < 60) (hK : A_K K c M S h G kb T n tx) (a : Int32) : pL_ages [w_x, .inl a] M K (fun _ _ => False) := by
  obtain ⟨w, x, z, i⟩ := g
  refine ⟨S, h, G, kb, T, n, tx, a, hc, rfl, fun hr M' hc' _ => hK.2 _ _ _ (i_ge i.2.2.2.2.2.1) hc' ?_, fun _ => hK.1 _ (by decide)⟩
  have r := i_rg (by omega) (by omega) hr
  exact GS_of hc'.1.1 (XV_upd w (by omega) (by omega) (by omega) x).1 (ZV_upd w (by omega) (Or.inr (by omega)) z) (IV_set (by omega) (by omega) (by omega) w i) (by omega) (by omega) (by omega) (by omega)
theorem a_rests (hc : CV M S h G kb T n tx) (g : GS S c) (h60 : c < 60) (hK : A_K K c M S h G kb T n tx) (a : Int32) : pL_rests [w_x, .inl a] M K (fun _ _ => False) := by
  obtain ⟨w, x, z, i⟩ := g
  refine ⟨S, h, G, kb, T, n, tx, a, hc, rfl, fun hr M' hc' _ => hK.2 _ _ _ (i_ge i.2.2.2.2.2.2.1) hc' ?_, fun _ => hK.1 _ (by decide)⟩
  have r := i_rg (by omega) (by omega) hr
  exact GS_of hc'.1.1 (XV_upd w (by omega) (by omega) (by omega) x).1 (ZV_upd w (by omega) (Or.inr (by omega)) z) (IV_set (by omega) (by omega) (by omega) w i) (by omega) (by omega) (by omega) (by omega)
theorem a_leases (hc : CV M S h G kb T n tx) (g : GS S c) (h60 : c < 60) (hK : A_K K c M S h G kb T n tx) (a : Int32) : pL_leases [w_x, .inl a] M K (fun _ _ => False) := by
  obtain ⟨w, x, z, i⟩ := g
  refine ⟨S, h, G, kb, T, n, tx, a, hc, rfl, fun hr M' hc' _ => hK.2 _ _ _ (i_ge (by have : 1 ≤ (S 211).toInt := i.2.2.2.2.2.2.2.1; omega)) hc' ?_, fun _ => hK.1 _ (by decide)⟩
  have r := i_rg (by omega) (by omega) hr
  exact GS_of hc'.1.1 (XV_upd w (by omega) (by omega) (by omega) x).1 (ZV_upd w (by omega) (Or.inr (by omega)) z) (IV_set (by omega) (by omega) (by omega) w i) (by omega) (by omega) (by omega) (by omega)
theorem a_waits (hc : CV M S h G kb T n tx) (g : GS S c) (h60 : c < 60) (hK : A_K K c M S h G kb T n tx) (a : Int32) : pL_waits [w_x, .inl a] M K (fun _ _ => False) := by
  obtain ⟨w, x, z, i⟩ := g
  refine ⟨S, h, G, kb, T, n, tx, a, hc, rfl, fun hr M' hc' _ => hK.2 _ _ _ (i_ge i.2.2.2.2.2.2.2.2.2) hc' ?_, fun _ => hK.1 _ (by decide)⟩
  have r := i_rg (by omega) (by omega) hr
  obtain ⟨k, h1, h2, e⟩ := s_rg_n (by omega) (by omega) hr
  exact GS_of hc'.1.1 (XV_upd w (by omega) (by omega) (fun _ => ⟨k, h2, e⟩) x).1 (ZV_upd w (by omega) (Or.inr (by omega)) z) (IV_set (by omega) (by omega) (by omega) w i) (by omega) (by omega) (by omega) (by omega)
/-- turned around: the slot behind it -/
theorem a_turn (hc : CV M S h G kb T n tx) (g : GS S c) {M' : Q_M} (hc' : CV M' (upd S 213 (nI 1 - S 213)) (s_h1 h) (s_hG h G S) kb T n tx) : GS (upd S 213 (nI 1 - S 213)) (c + 1) := by
  obtain ⟨w, x, z, i⟩ := g
  exact GS_of hc'.1.1 (XV_upd w (by omega) (by omega) (by omega) x).1 (ZV_upd w (by omega) (Or.inr (by omega)) z) (IV_ac w (by omega) i) (by omega) (by omega) (by omega) (by omega)
end AC
