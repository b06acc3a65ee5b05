-- ONE CALL, BOTH SIDES: CALLS THAT CHANGE
/-- what a call of the class leaves: the reference's cells are as they were -/
def w_mx (M : Q_M) (A : Nat → Nat → Nat → Nat → Int32) (F : Nat → Nat → Nat → Nat → Nat) : Q_M := (fun r => match Nat.ble r 20 with | true => A r | false => M.1 r, F, M.2.2)
theorem w_norm {M M1 : Q_M} (h : q_fx M M1) : ∃ A F, M1 = w_mx M A F := by
  refine ⟨M1.1, M1.2.1, Prod.ext (funext fun r => ?_) (Prod.ext rfl h.2)⟩
  show M1.1 r = match Nat.ble r 20 with | true => M1.1 r | false => M.1 r
  cases hb : Nat.ble r 20 with
  | true => rfl
  | false =>
    refine h.1 r ?_
    by_cases c : r ≤ 20
    · rw [Nat.ble_eq_true_of_le c] at hb
      cases hb
    · omega
theorem d_rf_3 {M : Q_M} {h : Nat} {S : Nat → Int32} : (d_rf M h S).1 21 0 0 3 = nI 0 := by
  show upd (upd (M.1 21 0 0) 3 (nI 0)) 1 (nI (s_h1 h)) 3 = nI 0
  rw [q_upd_ne (by decide), q_upd_eq]
theorem LI_rf {c : Nat} {M M' : Q_M} {A : Nat → Nat → Nat → Nat → Int32} {F : Nat → Nat → Nat → Nat → Nat} {h n : Nat} {tx : Nat → Nat} {B C U B' C' U' : Nat} {R1 R2 : Nat → Int32} (hd : LD M h n tx B C U) (hc1 : CV (w_mx M A F) R1 (s_h1 h) (s_hG h (fun i => w_sl (M.1 22 0 0) (i + 1)) (s_sav (M.1 22 0 0) h)) (M.1 23 0 0) (fun k => w_sl (M.1 22 0 0) (7 + k)) n tx) (e1 : M'.1 = (w_mx M A F).1) (e2 : M'.2.1 = F) (hR : e_lo R1 R2) (hhi : ∀ i, 227 ≤ i → R2 i = s_sav (M.1 22 0 0) h i) (g : w_SG R2 B' C' U') (hB : B ≤ B') (hC : C ≤ C') (hU : U ≤ U') (hu : U' + n ≤ c) (hB2 : B' ≤ 200000 * c) (hC2 : C' ≤ 10000 * c) : LI c (d_rf M' h R2) := by
  have e21 : (d_rf M' h R2).1 21 0 0 = upd (upd (M'.1 21 0 0) 3 (nI 0)) 1 (nI (s_h1 h)) := by
    show (q_sa (q_sa M' (21, 0, 0) (upd (upd (M'.1 21 0 0) 3 (nI 0)) 1 (nI (s_h1 h)))) (22, 0, 0) R2).1 21 0 0 = _
    rw [q_a_r (by decide), q_a_e]
  have er : ∀ r, r ≠ 21 → r ≠ 22 → (d_rf M' h R2).1 r = M'.1 r := by
    intro r h1 h2
    show (q_sa (q_sa M' (21, 0, 0) (upd (upd (M'.1 21 0 0) 3 (nI 0)) 1 (nI (s_h1 h)))) (22, 0, 0) R2).1 r = _
    rw [q_a_r h2, q_a_r h1]
  have m21 : M'.1 21 = M.1 21 := by rw [e1]; rfl
  have m23 : M'.1 23 = M.1 23 := by rw [e1]; rfl
  have m24 : M'.1 24 = M.1 24 := by rw [e1]; rfl
  have ht := hd.2.2.1
  refine LI_sv (R1 := R1) (R2 := R2) (S2 := M.1 22 0 0) hd hc1 sav_lo (fun _ _ => rfl) (fun r hr => by rw [er r (by omega) (by omega), e1]) (show M'.2.1 = F from e2) q_a_e hR hhi (by rw [er 23 (by decide) (by decide), m23]) (by rw [e21, q_upd_eq]) ⟨ht.1, ?_, fun k hk => ?_⟩ g hB hC hU hu hB2 hC2
  · rw [e21, q_upd_ne (by decide), q_upd_ne (by decide), m21]
    exact ht.2.1
  · rw [er 24 (by decide) (by decide), m24]
    exact ht.2.2 k hk
theorem w_hcs {M : Q_M} {h n : Nat} {tx : Nat → Nat} {B C U : Nat} (hd : LD M h n tx B C U) : CV M (s_sav (M.1 22 0 0) h) h (fun i => w_sl (M.1 22 0 0) (i + 1)) (M.1 23 0 0) (fun k => w_sl (M.1 22 0 0) (7 + k)) n tx := CV_fr hd.1 (fun _ _ => rfl) rfl sav_lo (fun _ _ => lo_rfl) (fun _ _ _ => lo_rfl)
theorem jw_ask {c : Nat} {M : Q_M} (hi : LI c M) (a u : Int32) : j_P true pL_ask pX9_ask [w_x, .inl a, .inl u, w_o] [w_m, .inl a, .inl u] (c + 1) M := by
  obtain ⟨h, n, tx, B, C, U, hd, hu, hB, hC⟩ := id hi
  have w : s_wf (M.1 22 0 0) := hd.1.1.1
  have h6 : h ≤ 6 := hd.1.2.2.1.1
  have h21 := hd.2.1
  have hcs := w_hcs hd
  have ws := hcs.1.1
  obtain ⟨-, xs, zs⟩ := SG_lo (sav_lo (h := h)) hd.2.2.2.1
  have en : s_n (s_sav (M.1 22 0 0) h) = s_n (M.1 22 0 0) := s_n_lo sav_lo
  have el : ∀ x, s_lk (s_sav (M.1 22 0 0) h) x (s_n (s_sav (M.1 22 0 0) h)) = s_lk (M.1 22 0 0) x (s_n (M.1 22 0 0)) := fun x => by
    rw [en]
    exact s_lk_lo sav_lo w.1.2
  have eq : ∀ x, s_qd (s_sav (M.1 22 0 0) h) x (s_q (s_sav (M.1 22 0 0) h)) = s_qd (M.1 22 0 0) x (s_q (M.1 22 0 0)) := fun x => by
    rw [s_q_lo sav_lo]
    exact s_qd_lo sav_lo w.2.1.2
  intro K KX hK
  refine ⟨s_sav (M.1 22 0 0) h, h, _, _, _, n, tx, a, u, hcs, rfl, fun x hx ha hr hl hq M1 hc1 hfx => hK 0 _ (by decide) (fun K2 KX2 hK2 => ?_), fun hn => hK 1 M (by decide) (fun K2 KX2 hK2 => ?_), fun h1 hn => hK 2 M (by decide) (fun K2 KX2 hK2 => ?_), fun h1 h2 hn => hK 3 M (by decide) (fun K2 KX2 hK2 => ?_)⟩
  · obtain ⟨A, F, rfl⟩ := w_norm hfx
    have xa := XV_as (u := u) ws hx hl hq xs
    have za := ZV_as (u := u) ws hx hl hq zs
    rw [el] at hl
    rw [eq] at hq
    refine ⟨a, u, h, w, h6, h21, rfl, fun x' hx' ha' _ _ _ => ?_, fun hn => absurd (by rw [ha]; exact rg_of (by omega) (by omega) (by omega)) hn, fun _ hn => absurd hr hn, fun _ _ hn => absurd ⟨by rw [ha]; exact hl, by rw [ha]; exact hq⟩ hn⟩
    have e : x' = x := ((nI_eq (by omega) (by omega)).mp (ha.symm.trans ha')).symm
    subst e
    exact hK2 _ _ d_rf_3 (fun _ => q_bi_bit _) (fun _ => w_out (M := w_mx M A F) rfl) (LI_rf hd hc1 rfl rfl lo_rfl xa.2 ⟨hc1.1.1, xa.1, za⟩ (by omega) (by omega) (by omega) (by omega) (by omega) (by omega))
  · refine ⟨a, u, h, w, h6, h21, rfl, fun x' hx' ha' => absurd (by rw [ha']; exact rg_of (by omega) (by omega) (by omega)) hn, fun _ => ?_, fun hr => absurd hr hn, fun hr => absurd hr hn⟩
    exact hK2 _ _ q_si_3 (fun _ => Or.inl rfl) (fun g => absurd g (by decide)) (LI_o hi rfl rfl)
  · refine ⟨a, u, h, w, h6, h21, rfl, fun x' hx' ha' hr => absurd hr hn, fun hn => absurd h1 hn, fun _ _ => ?_, fun _ hr => absurd hr hn⟩
    exact hK2 _ _ q_si_3 (fun _ => Or.inl rfl) (fun g => absurd g (by decide)) (LI_o hi rfl rfl)
  · rw [el, eq] at hn
    refine ⟨a, u, h, w, h6, h21, rfl, fun x' hx' ha' _ hl hq => absurd ⟨by rw [ha']; exact hl, by rw [ha']; exact hq⟩ hn, fun hn => absurd h1 hn, fun _ hn => absurd h2 hn, fun _ _ _ => ?_⟩
    exact hK2 _ _ q_si_3 (fun _ => Or.inl rfl) (fun g => absurd g (by decide)) (LI_o hi rfl rfl)
theorem jw_giveBack {c : Nat} {M : Q_M} (hi : LI c M) (a : Int32) : j_P true pL_giveBack pX9_giveBack [w_x, .inl a, w_o] [w_m, .inl a] (c + 1) M := by
  obtain ⟨h, n, tx, B, C, U, hd, hu, hB, hC⟩ := id hi
  have w : s_wf (M.1 22 0 0) := hd.1.1.1
  have h6 : h ≤ 6 := hd.1.2.2.1.1
  have h21 := hd.2.1
  have hcs := w_hcs hd
  have ws := hcs.1.1
  obtain ⟨-, xs, zs⟩ := SG_lo (sav_lo (h := h)) hd.2.2.2.1
  have en : s_n (s_sav (M.1 22 0 0) h) = s_n (M.1 22 0 0) := s_n_lo sav_lo
  have el : ∀ x, s_lk (s_sav (M.1 22 0 0) h) x (s_n (s_sav (M.1 22 0 0) h)) = s_lk (M.1 22 0 0) x (s_n (M.1 22 0 0)) := fun x => by
    rw [en]
    exact s_lk_lo sav_lo w.1.2
  have eq : ∀ x, s_qd (s_sav (M.1 22 0 0) h) x (s_q (s_sav (M.1 22 0 0) h)) = s_qd (M.1 22 0 0) x (s_q (M.1 22 0 0)) := fun x => by
    rw [s_q_lo sav_lo]
    exact s_qd_lo sav_lo w.2.1.2
  intro K KX hK
  refine ⟨s_sav (M.1 22 0 0) h, h, _, _, _, n, tx, a, hcs, rfl, fun x p hx ha hl M1 hc1 hfx => hK 0 _ (by decide) (fun K2 KX2 hK2 => ?_), fun hn => hK 1 M (by decide) (fun K2 KX2 hK2 => ?_), fun h1 hn => hK 2 M (by decide) (fun K2 KX2 hK2 => ?_)⟩
  · obtain ⟨A, F, rfl⟩ := w_norm hfx
    have hp := (s_lk_lt hl).1
    have xg := X1_gv ws hp
    have yg := Y1_gv ws hp
    rw [el, ← ha] at hl
    refine ⟨a, h, w, h6, h21, rfl, fun x' p' hx' ha' hl' => ?_, fun hn => absurd (by rw [ha]; exact rg_of (by omega) (by omega) (by omega)) hn, fun _ hn => ?_⟩
    · rw [← ha'] at hl'
      have e : some p = some p' := hl.symm.trans hl'
      cases e
      exact hK2 _ _ d_rf_3 (fun _ => q_bi_bit _) (fun _ => w_out (M := w_mx M A F) rfl) (LI_rf hd hc1 rfl rfl lo_rfl xg.2.1 ⟨hc1.1.1, XV_X1 xg xs, ZV_X1 yg xg zs⟩ (by omega) (by omega) (by omega) (by omega) (by omega) (by omega))
    · have e : some p = none := hl.symm.trans hn
      cases e
  · refine ⟨a, h, w, h6, h21, rfl, fun x' p' hx' ha' hl' => absurd (by rw [ha']; exact rg_of (by omega) (by omega) (by omega)) hn, fun _ => ?_, fun hr => absurd hr hn⟩
    exact hK2 _ _ q_si_3 (fun _ => Or.inl rfl) (fun g => absurd g (by decide)) (LI_o hi rfl rfl)
  · rw [el] at hn
    refine ⟨a, h, w, h6, h21, rfl, fun x' p' hx' ha' hl' => ?_, fun hn2 => absurd h1 hn2, fun _ _ => ?_⟩
    · rw [← ha'] at hl'
      have e : some p' = none := hl'.symm.trans hn
      cases e
    · exact hK2 _ _ q_si_3 (fun _ => Or.inl rfl) (fun g => absurd g (by decide)) (LI_o hi rfl rfl)
theorem jw_leave {c : Nat} {M : Q_M} (hi : LI c M) (a : Int32) : j_P false pL_leave pX9_leave [w_x, .inl a, w_o] [w_m, .inl a] (c + 1) M := by
  obtain ⟨h, n, tx, B, C, U, hd, hu, hB, hC⟩ := id hi
  have w : s_wf (M.1 22 0 0) := hd.1.1.1
  have h6 : h ≤ 6 := hd.1.2.2.1.1
  have h21 := hd.2.1
  have hcs := w_hcs hd
  have ws := hcs.1.1
  obtain ⟨-, xs, zs⟩ := SG_lo (sav_lo (h := h)) hd.2.2.2.1
  have en : s_n (s_sav (M.1 22 0 0) h) = s_n (M.1 22 0 0) := s_n_lo sav_lo
  have el : ∀ x, s_lk (s_sav (M.1 22 0 0) h) x (s_n (s_sav (M.1 22 0 0) h)) = s_lk (M.1 22 0 0) x (s_n (M.1 22 0 0)) := fun x => by
    rw [en]
    exact s_lk_lo sav_lo w.1.2
  have eq : ∀ x, s_qd (s_sav (M.1 22 0 0) h) x (s_q (s_sav (M.1 22 0 0) h)) = s_qd (M.1 22 0 0) x (s_q (M.1 22 0 0)) := fun x => by
    rw [s_q_lo sav_lo]
    exact s_qd_lo sav_lo w.2.1.2
  intro K KX hK
  refine ⟨s_sav (M.1 22 0 0) h, h, _, _, _, n, tx, a, hcs, rfl, fun x p hx ha hl M1 hc1 hfx => hK 0 _ (by decide) (fun K2 KX2 hK2 => ?_), fun hn => hK 1 M (by decide) (fun K2 KX2 hK2 => ?_), fun h1 hn => hK 2 M (by decide) (fun K2 KX2 hK2 => ?_)⟩
  · obtain ⟨A, F, rfl⟩ := w_norm hfx
    have hp := (s_qd_lt hl).1
    have xg := X1_uq ws.2.1.1 ws.2.1.2 hp
    have yg := Y1_uq ws hp
    rw [eq, ← ha] at hl
    refine ⟨a, h, w, h6, h21, rfl, fun x' p' hx' ha' hl' => ?_, fun hn => absurd (by rw [ha]; exact rg_of (by omega) (by omega) (by omega)) hn, fun _ hn => ?_⟩
    · rw [← ha'] at hl'
      have e : some p = some p' := hl.symm.trans hl'
      cases e
      exact hK2 _ _ d_rf_3 (fun g => nomatch g) (fun _ => w_out (M := w_mx M A F) rfl) (LI_rf hd hc1 rfl rfl lo_rfl xg.2.1 ⟨hc1.1.1, XV_X1 xg xs, ZV_X1 yg xg zs⟩ (by omega) (by omega) (by omega) (by omega) (by omega) (by omega))
    · have e : some p = none := hl.symm.trans hn
      cases e
  · refine ⟨a, h, w, h6, h21, rfl, fun x' p' hx' ha' hl' => absurd (by rw [ha']; exact rg_of (by omega) (by omega) (by omega)) hn, fun _ => ?_, fun hr => absurd hr hn⟩
    exact hK2 _ _ q_si_3 (fun g => nomatch g) (fun g => absurd g (by decide)) (LI_o hi rfl rfl)
  · rw [eq] at hn
    refine ⟨a, h, w, h6, h21, rfl, fun x' p' hx' ha' hl' => ?_, fun hn2 => absurd h1 hn2, fun _ _ => ?_⟩
    · rw [← ha'] at hl'
      have e : some p' = none := hl'.symm.trans hn
      cases e
    · exact hK2 _ _ q_si_3 (fun g => nomatch g) (fun g => absurd g (by decide)) (LI_o hi rfl rfl)
theorem jw_use {c : Nat} {M : Q_M} (hi : LI c M) (a y : Int32) : j_P true pL_use pX9_use [w_x, .inl a, .inl y, w_o] [w_m, .inl a, .inl y] (c + 1) M := by
  obtain ⟨h, n, tx, B, C, U, hd, hu, hB, hC⟩ := id hi
  have w : s_wf (M.1 22 0 0) := hd.1.1.1
  have h6 : h ≤ 6 := hd.1.2.2.1.1
  have h21 := hd.2.1
  have hcs := w_hcs hd
  have ws := hcs.1.1
  obtain ⟨-, xs, zs⟩ := SG_lo (sav_lo (h := h)) hd.2.2.2.1
  have en : s_n (s_sav (M.1 22 0 0) h) = s_n (M.1 22 0 0) := s_n_lo sav_lo
  have el : ∀ x, s_lk (s_sav (M.1 22 0 0) h) x (s_n (s_sav (M.1 22 0 0) h)) = s_lk (M.1 22 0 0) x (s_n (M.1 22 0 0)) := fun x => by
    rw [en]
    exact s_lk_lo sav_lo w.1.2
  have eq : ∀ x, s_qd (s_sav (M.1 22 0 0) h) x (s_q (s_sav (M.1 22 0 0) h)) = s_qd (M.1 22 0 0) x (s_q (M.1 22 0 0)) := fun x => by
    rw [s_q_lo sav_lo]
    exact s_qd_lo sav_lo w.2.1.2
  intro K KX hK
  refine ⟨s_sav (M.1 22 0 0) h, h, _, _, _, n, tx, a, y, hcs, rfl, fun x p hx ha hr hl M1 hc1 hfx => hK 0 _ (by decide) (fun K2 KX2 hK2 => ?_), fun hn => hK 1 M (by decide) (fun K2 KX2 hK2 => ?_), fun h1 hn => hK 2 M (by decide) (fun K2 KX2 hK2 => ?_), fun h1 h2 hn => hK 3 M (by decide) (fun K2 KX2 hK2 => ?_)⟩
  · obtain ⟨A, F, rfl⟩ := w_norm hfx
    have hp := (s_lk_lt hl).1
    have xg := XV_us (y := y) ws hp xs
    have zg := ZV_us (y := y) ws hp zs
    rw [el, ← ha] at hl
    refine ⟨a, y, h, w, h6, h21, rfl, fun x' p' hx' ha' _ hl' => ?_, fun hn => absurd (by rw [ha]; exact rg_of (by omega) (by omega) (by omega)) hn, fun _ hn => absurd hr hn, fun _ _ hn => ?_⟩
    · rw [← ha'] at hl'
      have e : some p = some p' := hl.symm.trans hl'
      cases e
      exact hK2 _ _ d_rf_3 (fun _ => q_bi_bit _) (fun _ => w_out (M := w_mx M A F) rfl) (LI_rf hd hc1 rfl rfl lo_rfl xg.2 ⟨hc1.1.1, xg.1, zg⟩ (by omega) (by omega) (by omega) (by omega) (by omega) (by omega))
    · have e : some p = none := hl.symm.trans hn
      cases e
  · refine ⟨a, y, h, w, h6, h21, rfl, fun x' p' hx' ha' _ hl' => absurd (by rw [ha']; exact rg_of (by omega) (by omega) (by omega)) hn, fun _ => ?_, fun hr => absurd hr hn, fun hr => absurd hr hn⟩
    exact hK2 _ _ q_si_3 (fun _ => Or.inl rfl) (fun g => absurd g (by decide)) (LI_o hi rfl rfl)
  · refine ⟨a, y, h, w, h6, h21, rfl, fun x' p' hx' ha' hr hl' => absurd hr hn, fun hn2 => absurd h1 hn2, fun _ _ => ?_, fun _ hr => absurd hr hn⟩
    exact hK2 _ _ q_si_3 (fun _ => Or.inl rfl) (fun g => absurd g (by decide)) (LI_o hi rfl rfl)
  · rw [el] at hn
    refine ⟨a, y, h, w, h6, h21, rfl, fun x' p' hx' ha' _ hl' => ?_, fun hn2 => absurd h1 hn2, fun _ hn2 => absurd h2 hn2, fun _ _ _ => ?_⟩
    · rw [← ha'] at hl'
      have e : some p' = none := hl'.symm.trans hn
      cases e
    · exact hK2 _ _ q_si_3 (fun _ => Or.inl rfl) (fun g => absurd g (by decide)) (LI_o hi rfl rfl)
theorem jw_breakOff {c : Nat} {M : Q_M} (hi : LI c M) (a : Int32) : j_P true pL_breakOff pX9_breakOff [w_x, .inl a, w_o] [w_m, .inl a] (c + 1) M := by
  obtain ⟨h, n, tx, B, C, U, hd, hu, hB, hC⟩ := id hi
  have w : s_wf (M.1 22 0 0) := hd.1.1.1
  have h6 : h ≤ 6 := hd.1.2.2.1.1
  have h21 := hd.2.1
  have hcs := w_hcs hd
  have ws := hcs.1.1
  obtain ⟨-, xs, zs⟩ := SG_lo (sav_lo (h := h)) hd.2.2.2.1
  have en : s_n (s_sav (M.1 22 0 0) h) = s_n (M.1 22 0 0) := s_n_lo sav_lo
  have el : ∀ x, s_lk (s_sav (M.1 22 0 0) h) x (s_n (s_sav (M.1 22 0 0) h)) = s_lk (M.1 22 0 0) x (s_n (M.1 22 0 0)) := fun x => by
    rw [en]
    exact s_lk_lo sav_lo w.1.2
  have eq : ∀ x, s_qd (s_sav (M.1 22 0 0) h) x (s_q (s_sav (M.1 22 0 0) h)) = s_qd (M.1 22 0 0) x (s_q (M.1 22 0 0)) := fun x => by
    rw [s_q_lo sav_lo]
    exact s_qd_lo sav_lo w.2.1.2
  intro K KX hK
  have e0 : s_sav (M.1 22 0 0) h 0 = M.1 22 0 0 0 := s_sav_lo (by decide)
  refine ⟨s_sav (M.1 22 0 0) h, h, _, _, _, n, tx, a, hcs, rfl, fun p hp ha M1 hc1 hfx => hK 0 _ (by decide) (fun K2 KX2 hK2 => ?_), fun hn => hK 1 M (by decide) (fun K2 KX2 hK2 => ?_)⟩
  · obtain ⟨A, F, rfl⟩ := w_norm hfx
    have h12 := ws.1.2
    have xg := XV_upd (i := 4 + 12 * p) (x := nI 1) ws (by omega) (by omega) (by omega) xs
    have zg := ZV_upd (i := 4 + 12 * p) (x := nI 1) ws (by omega) (Or.inl ⟨by omega, fun q => by omega⟩) zs
    rw [en] at hp
    refine ⟨a, h, w, h6, h21, rfl, fun p' hp' ha' => ?_, fun hn => absurd (by rw [ha]; exact lp1_of w hp) hn⟩
    have e : p' = p := w_pin w hp hp' (ha.symm.trans ha')
    subst e
    exact hK2 _ _ d_rf_3 (fun _ => q_bi_bit _) (fun _ => w_out (M := w_mx M A F) rfl) (LI_rf hd hc1 rfl rfl lo_rfl xg.2 ⟨hc1.1.1, xg.1, zg⟩ (by omega) (by omega) (by omega) (by omega) (by omega) (by omega))
  · have hn : ¬ s_lp1 (M.1 22 0 0) a := by
      unfold s_lp1 at hn ⊢
      rw [e0] at hn
      exact hn
    refine ⟨a, h, w, h6, h21, rfl, fun p' hp' ha' => absurd (by rw [ha']; exact lp1_of w hp') hn, fun _ => ?_⟩
    exact hK2 _ _ q_si_3 (fun _ => Or.inl rfl) (fun g => absurd g (by decide)) (LI_o hi rfl rfl)
theorem jw_tick {c : Nat} {M : Q_M} (hi : LI c M) (a : Int32) : j_P false pL_tick pX9_tick [w_x, .inl a, w_o] [w_m, .inl a] (c + 1) M := by
  obtain ⟨h, n, tx, B, C, U, hd, hu, hB, hC⟩ := id hi
  have w : s_wf (M.1 22 0 0) := hd.1.1.1
  have h6 : h ≤ 6 := hd.1.2.2.1.1
  have h21 := hd.2.1
  have hcs := w_hcs hd
  have ws := hcs.1.1
  obtain ⟨-, xs, zs⟩ := SG_lo (sav_lo (h := h)) hd.2.2.2.1
  have en : s_n (s_sav (M.1 22 0 0) h) = s_n (M.1 22 0 0) := s_n_lo sav_lo
  have el : ∀ x, s_lk (s_sav (M.1 22 0 0) h) x (s_n (s_sav (M.1 22 0 0) h)) = s_lk (M.1 22 0 0) x (s_n (M.1 22 0 0)) := fun x => by
    rw [en]
    exact s_lk_lo sav_lo w.1.2
  have eq : ∀ x, s_qd (s_sav (M.1 22 0 0) h) x (s_q (s_sav (M.1 22 0 0) h)) = s_qd (M.1 22 0 0) x (s_q (M.1 22 0 0)) := fun x => by
    rw [s_q_lo sav_lo]
    exact s_qd_lo sav_lo w.2.1.2
  intro K KX hK
  refine ⟨s_sav (M.1 22 0 0) h, h, _, _, _, n, tx, a, hcs, rfl, fun t ht ha hr M1 hc1 hfx => hK 0 _ (by decide) (fun K2 KX2 hK2 => ?_), fun hn => hK 1 M (by decide) (fun K2 KX2 hK2 => ?_)⟩
  · obtain ⟨A, F, rfl⟩ := w_norm hfx
    have xg := XV_ps t _ B ws xs
    have zg := ZV_ps t _ C U ws zs
    refine ⟨a, h, w, h6, h21, rfl, fun t' ht' ha' _ => ?_, fun hn => absurd hr hn⟩
    have e : t' = t := ((nI_eq (by omega) (by omega)).mp (ha.symm.trans ha')).symm
    subst e
    exact hK2 _ _ d_rf_3 (fun g => nomatch g) (fun _ => w_out (M := w_mx M A F) rfl) (LI_rf hd hc1 rfl rfl lo_rfl xg.2 ⟨hc1.1.1, xg.1, zg⟩ (by omega) (by omega) (by omega) (by omega) (by omega) (by omega))
  · refine ⟨a, h, w, h6, h21, rfl, fun t' ht' ha' hr => absurd hr hn, fun _ => ?_⟩
    exact hK2 _ _ q_si_3 (fun g => nomatch g) (fun g => absurd g (by decide)) (LI_o hi rfl rfl)
theorem jw_changeIdle {c : Nat} {M : Q_M} (hi : LI c M) (a : Int32) : j_P false pL_changeIdle pX9_changeIdle [w_x, .inl a, w_o] [w_m, .inl a] (c + 1) M := by
  obtain ⟨h, n, tx, B, C, U, hd, hu, hB, hC⟩ := id hi
  have w : s_wf (M.1 22 0 0) := hd.1.1.1
  have h6 : h ≤ 6 := hd.1.2.2.1.1
  have h21 := hd.2.1
  have hcs := w_hcs hd
  have ws := hcs.1.1
  obtain ⟨-, xs, zs⟩ := SG_lo (sav_lo (h := h)) hd.2.2.2.1
  have en : s_n (s_sav (M.1 22 0 0) h) = s_n (M.1 22 0 0) := s_n_lo sav_lo
  have el : ∀ x, s_lk (s_sav (M.1 22 0 0) h) x (s_n (s_sav (M.1 22 0 0) h)) = s_lk (M.1 22 0 0) x (s_n (M.1 22 0 0)) := fun x => by
    rw [en]
    exact s_lk_lo sav_lo w.1.2
  have eq : ∀ x, s_qd (s_sav (M.1 22 0 0) h) x (s_q (s_sav (M.1 22 0 0) h)) = s_qd (M.1 22 0 0) x (s_q (M.1 22 0 0)) := fun x => by
    rw [s_q_lo sav_lo]
    exact s_qd_lo sav_lo w.2.1.2
  intro K KX hK
  refine ⟨s_sav (M.1 22 0 0) h, h, _, _, _, n, tx, a, hcs, rfl, fun hr M1 hc1 hfx => hK 0 _ (by decide) (fun K2 KX2 hK2 => ?_), fun hn => hK 1 M (by decide) (fun K2 KX2 hK2 => ?_)⟩
  · obtain ⟨A, F, rfl⟩ := w_norm hfx
    have xg := XV_upd (i := 208) (x := a) ws (by decide) (by decide) (fun g => absurd g (by decide)) xs
    have zg := ZV_upd (i := 208) (x := a) ws (by decide) (Or.inr (by decide)) zs
    refine ⟨a, h, w, h6, h21, rfl, fun _ => ?_, fun hn => absurd hr hn⟩
    exact hK2 _ _ d_rf_3 (fun g => nomatch g) (fun _ => w_out (M := w_mx M A F) rfl) (LI_rf hd hc1 rfl rfl lo_rfl xg.2 ⟨hc1.1.1, xg.1, zg⟩ (by omega) (by omega) (by omega) (by omega) (by omega) (by omega))
  · refine ⟨a, h, w, h6, h21, rfl, fun hr => absurd hr hn, fun _ => ?_⟩
    exact hK2 _ _ q_si_3 (fun g => nomatch g) (fun g => absurd g (by decide)) (LI_o hi rfl rfl)
theorem jw_changeAge {c : Nat} {M : Q_M} (hi : LI c M) (a : Int32) : j_P false pL_changeAge pX9_changeAge [w_x, .inl a, w_o] [w_m, .inl a] (c + 1) M := by
  obtain ⟨h, n, tx, B, C, U, hd, hu, hB, hC⟩ := id hi
  have w : s_wf (M.1 22 0 0) := hd.1.1.1
  have h6 : h ≤ 6 := hd.1.2.2.1.1
  have h21 := hd.2.1
  have hcs := w_hcs hd
  have ws := hcs.1.1
  obtain ⟨-, xs, zs⟩ := SG_lo (sav_lo (h := h)) hd.2.2.2.1
  have en : s_n (s_sav (M.1 22 0 0) h) = s_n (M.1 22 0 0) := s_n_lo sav_lo
  have el : ∀ x, s_lk (s_sav (M.1 22 0 0) h) x (s_n (s_sav (M.1 22 0 0) h)) = s_lk (M.1 22 0 0) x (s_n (M.1 22 0 0)) := fun x => by
    rw [en]
    exact s_lk_lo sav_lo w.1.2
  have eq : ∀ x, s_qd (s_sav (M.1 22 0 0) h) x (s_q (s_sav (M.1 22 0 0) h)) = s_qd (M.1 22 0 0) x (s_q (M.1 22 0 0)) := fun x => by
    rw [s_q_lo sav_lo]
    exact s_qd_lo sav_lo w.2.1.2
  intro K KX hK
  refine ⟨s_sav (M.1 22 0 0) h, h, _, _, _, n, tx, a, hcs, rfl, fun hr M1 hc1 hfx => hK 0 _ (by decide) (fun K2 KX2 hK2 => ?_), fun hn => hK 1 M (by decide) (fun K2 KX2 hK2 => ?_)⟩
  · obtain ⟨A, F, rfl⟩ := w_norm hfx
    have xg := XV_upd (i := 209) (x := a) ws (by decide) (by decide) (fun g => absurd g (by decide)) xs
    have zg := ZV_upd (i := 209) (x := a) ws (by decide) (Or.inr (by decide)) zs
    refine ⟨a, h, w, h6, h21, rfl, fun _ => ?_, fun hn => absurd hr hn⟩
    exact hK2 _ _ d_rf_3 (fun g => nomatch g) (fun _ => w_out (M := w_mx M A F) rfl) (LI_rf hd hc1 rfl rfl lo_rfl xg.2 ⟨hc1.1.1, xg.1, zg⟩ (by omega) (by omega) (by omega) (by omega) (by omega) (by omega))
  · refine ⟨a, h, w, h6, h21, rfl, fun hr => absurd hr hn, fun _ => ?_⟩
    exact hK2 _ _ q_si_3 (fun g => nomatch g) (fun g => absurd g (by decide)) (LI_o hi rfl rfl)
theorem jw_changeRest {c : Nat} {M : Q_M} (hi : LI c M) (a : Int32) : j_P false pL_changeRest pX9_changeRest [w_x, .inl a, w_o] [w_m, .inl a] (c + 1) M := by
  obtain ⟨h, n, tx, B, C, U, hd, hu, hB, hC⟩ := id hi
  have w : s_wf (M.1 22 0 0) := hd.1.1.1
  have h6 : h ≤ 6 := hd.1.2.2.1.1
  have h21 := hd.2.1
  have hcs := w_hcs hd
  have ws := hcs.1.1
  obtain ⟨-, xs, zs⟩ := SG_lo (sav_lo (h := h)) hd.2.2.2.1
  have en : s_n (s_sav (M.1 22 0 0) h) = s_n (M.1 22 0 0) := s_n_lo sav_lo
  have el : ∀ x, s_lk (s_sav (M.1 22 0 0) h) x (s_n (s_sav (M.1 22 0 0) h)) = s_lk (M.1 22 0 0) x (s_n (M.1 22 0 0)) := fun x => by
    rw [en]
    exact s_lk_lo sav_lo w.1.2
  have eq : ∀ x, s_qd (s_sav (M.1 22 0 0) h) x (s_q (s_sav (M.1 22 0 0) h)) = s_qd (M.1 22 0 0) x (s_q (M.1 22 0 0)) := fun x => by
    rw [s_q_lo sav_lo]
    exact s_qd_lo sav_lo w.2.1.2
  intro K KX hK
  refine ⟨s_sav (M.1 22 0 0) h, h, _, _, _, n, tx, a, hcs, rfl, fun hr M1 hc1 hfx => hK 0 _ (by decide) (fun K2 KX2 hK2 => ?_), fun hn => hK 1 M (by decide) (fun K2 KX2 hK2 => ?_)⟩
  · obtain ⟨A, F, rfl⟩ := w_norm hfx
    have xg := XV_upd (i := 210) (x := a) ws (by decide) (by decide) (fun g => absurd g (by decide)) xs
    have zg := ZV_upd (i := 210) (x := a) ws (by decide) (Or.inr (by decide)) zs
    refine ⟨a, h, w, h6, h21, rfl, fun _ => ?_, fun hn => absurd hr hn⟩
    exact hK2 _ _ d_rf_3 (fun g => nomatch g) (fun _ => w_out (M := w_mx M A F) rfl) (LI_rf hd hc1 rfl rfl lo_rfl xg.2 ⟨hc1.1.1, xg.1, zg⟩ (by omega) (by omega) (by omega) (by omega) (by omega) (by omega))
  · refine ⟨a, h, w, h6, h21, rfl, fun hr => absurd hr hn, fun _ => ?_⟩
    exact hK2 _ _ q_si_3 (fun g => nomatch g) (fun g => absurd g (by decide)) (LI_o hi rfl rfl)
theorem jw_changeLease {c : Nat} {M : Q_M} (hi : LI c M) (a : Int32) : j_P false pL_changeLease pX9_changeLease [w_x, .inl a, w_o] [w_m, .inl a] (c + 1) M := by
  obtain ⟨h, n, tx, B, C, U, hd, hu, hB, hC⟩ := id hi
  have w : s_wf (M.1 22 0 0) := hd.1.1.1
  have h6 : h ≤ 6 := hd.1.2.2.1.1
  have h21 := hd.2.1
  have hcs := w_hcs hd
  have ws := hcs.1.1
  obtain ⟨-, xs, zs⟩ := SG_lo (sav_lo (h := h)) hd.2.2.2.1
  have en : s_n (s_sav (M.1 22 0 0) h) = s_n (M.1 22 0 0) := s_n_lo sav_lo
  have el : ∀ x, s_lk (s_sav (M.1 22 0 0) h) x (s_n (s_sav (M.1 22 0 0) h)) = s_lk (M.1 22 0 0) x (s_n (M.1 22 0 0)) := fun x => by
    rw [en]
    exact s_lk_lo sav_lo w.1.2
  have eq : ∀ x, s_qd (s_sav (M.1 22 0 0) h) x (s_q (s_sav (M.1 22 0 0) h)) = s_qd (M.1 22 0 0) x (s_q (M.1 22 0 0)) := fun x => by
    rw [s_q_lo sav_lo]
    exact s_qd_lo sav_lo w.2.1.2
  intro K KX hK
  refine ⟨s_sav (M.1 22 0 0) h, h, _, _, _, n, tx, a, hcs, rfl, fun hr M1 hc1 hfx => hK 0 _ (by decide) (fun K2 KX2 hK2 => ?_), fun hn => hK 1 M (by decide) (fun K2 KX2 hK2 => ?_)⟩
  · obtain ⟨A, F, rfl⟩ := w_norm hfx
    have xg := XV_upd (i := 211) (x := a) ws (by decide) (by decide) (fun g => absurd g (by decide)) xs
    have zg := ZV_upd (i := 211) (x := a) ws (by decide) (Or.inr (by decide)) zs
    refine ⟨a, h, w, h6, h21, rfl, fun _ => ?_, fun hn => absurd hr hn⟩
    exact hK2 _ _ d_rf_3 (fun g => nomatch g) (fun _ => w_out (M := w_mx M A F) rfl) (LI_rf hd hc1 rfl rfl lo_rfl xg.2 ⟨hc1.1.1, xg.1, zg⟩ (by omega) (by omega) (by omega) (by omega) (by omega) (by omega))
  · refine ⟨a, h, w, h6, h21, rfl, fun hr => absurd hr hn, fun _ => ?_⟩
    exact hK2 _ _ q_si_3 (fun g => nomatch g) (fun g => absurd g (by decide)) (LI_o hi rfl rfl)
theorem jw_changePatience {c : Nat} {M : Q_M} (hi : LI c M) (a : Int32) : j_P false pL_changePatience pX9_changePatience [w_x, .inl a, w_o] [w_m, .inl a] (c + 1) M := by
  obtain ⟨h, n, tx, B, C, U, hd, hu, hB, hC⟩ := id hi
  have w : s_wf (M.1 22 0 0) := hd.1.1.1
  have h6 : h ≤ 6 := hd.1.2.2.1.1
  have h21 := hd.2.1
  have hcs := w_hcs hd
  have ws := hcs.1.1
  obtain ⟨-, xs, zs⟩ := SG_lo (sav_lo (h := h)) hd.2.2.2.1
  have en : s_n (s_sav (M.1 22 0 0) h) = s_n (M.1 22 0 0) := s_n_lo sav_lo
  have el : ∀ x, s_lk (s_sav (M.1 22 0 0) h) x (s_n (s_sav (M.1 22 0 0) h)) = s_lk (M.1 22 0 0) x (s_n (M.1 22 0 0)) := fun x => by
    rw [en]
    exact s_lk_lo sav_lo w.1.2
  have eq : ∀ x, s_qd (s_sav (M.1 22 0 0) h) x (s_q (s_sav (M.1 22 0 0) h)) = s_qd (M.1 22 0 0) x (s_q (M.1 22 0 0)) := fun x => by
    rw [s_q_lo sav_lo]
    exact s_qd_lo sav_lo w.2.1.2
  intro K KX hK
  refine ⟨s_sav (M.1 22 0 0) h, h, _, _, _, n, tx, a, hcs, rfl, fun hr M1 hc1 hfx => hK 0 _ (by decide) (fun K2 KX2 hK2 => ?_), fun hn => hK 1 M (by decide) (fun K2 KX2 hK2 => ?_)⟩
  · obtain ⟨A, F, rfl⟩ := w_norm hfx
    have xg := XV_upd (i := 212) (x := a) ws (by decide) (by decide) (fun _ => by
      obtain ⟨k, -, hk, e⟩ := s_rg_n (lo := 1) (hi := 99) (by omega) (by omega) hr
      exact ⟨k, hk, e⟩) xs
    have zg := ZV_upd (i := 212) (x := a) ws (by decide) (Or.inr (by decide)) zs
    refine ⟨a, h, w, h6, h21, rfl, fun _ => ?_, fun hn => absurd hr hn⟩
    exact hK2 _ _ d_rf_3 (fun g => nomatch g) (fun _ => w_out (M := w_mx M A F) rfl) (LI_rf hd hc1 rfl rfl lo_rfl xg.2 ⟨hc1.1.1, xg.1, zg⟩ (by omega) (by omega) (by omega) (by omega) (by omega) (by omega))
  · refine ⟨a, h, w, h6, h21, rfl, fun hr => absurd hr hn, fun _ => ?_⟩
    exact hK2 _ _ q_si_3 (fun g => nomatch g) (fun g => absurd g (by decide)) (LI_o hi rfl rfl)
theorem jw_changeMost {c : Nat} {M : Q_M} (hi : LI c M) (a : Int32) : j_P false pL_changeMost pX9_changeMost [w_x, .inl a, w_o] [w_m, .inl a] (c + 1) M := by
  obtain ⟨h, n, tx, B, C, U, hd, hu, hB, hC⟩ := id hi
  have w : s_wf (M.1 22 0 0) := hd.1.1.1
  have h6 : h ≤ 6 := hd.1.2.2.1.1
  have h21 := hd.2.1
  have hcs := w_hcs hd
  have ws := hcs.1.1
  obtain ⟨-, xs, zs⟩ := SG_lo (sav_lo (h := h)) hd.2.2.2.1
  have en : s_n (s_sav (M.1 22 0 0) h) = s_n (M.1 22 0 0) := s_n_lo sav_lo
  have el : ∀ x, s_lk (s_sav (M.1 22 0 0) h) x (s_n (s_sav (M.1 22 0 0) h)) = s_lk (M.1 22 0 0) x (s_n (M.1 22 0 0)) := fun x => by
    rw [en]
    exact s_lk_lo sav_lo w.1.2
  have eq : ∀ x, s_qd (s_sav (M.1 22 0 0) h) x (s_q (s_sav (M.1 22 0 0) h)) = s_qd (M.1 22 0 0) x (s_q (M.1 22 0 0)) := fun x => by
    rw [s_q_lo sav_lo]
    exact s_qd_lo sav_lo w.2.1.2
  intro K KX hK
  refine ⟨s_sav (M.1 22 0 0) h, h, _, _, _, n, tx, a, hcs, rfl, fun hr M1 hc1 hfx => hK 0 _ (by decide) (fun K2 KX2 hK2 => ?_), fun hn => hK 1 M (by decide) (fun K2 KX2 hK2 => ?_)⟩
  · obtain ⟨A, F, rfl⟩ := w_norm hfx
    have wu : s_wf (upd (s_sav (M.1 22 0 0) h) 207 a) := by
      obtain ⟨k, -, hk, e⟩ := s_rg_n (lo := 1) (hi := 12) (by omega) (by omega) hr
      exact s_wf_set (i := 0) ws (by omega) (fun _ => ⟨k, hk, e⟩) (fun g => absurd g (by decide)) (fun g => absurd g (by decide))
    have xu := XV_upd (i := 207) (x := a) ws (by decide) (by decide) (fun g => absurd g (by decide)) xs
    have zu := ZV_upd (i := 207) (x := a) ws (by decide) (Or.inr (by decide)) zs
    rw [en] at hc1
    have xg := X1_tm (s_n (M.1 22 0 0)) _ wu
    have yg := Y1_tm (s_n (M.1 22 0 0)) _ wu
    refine ⟨a, h, w, h6, h21, rfl, fun _ => ?_, fun hn => absurd hr hn⟩
    exact hK2 _ _ d_rf_3 (fun g => nomatch g) (fun _ => w_out (M := w_mx M A F) rfl) (LI_rf hd hc1 rfl rfl lo_rfl (fun i hi => (xg.2.1 i hi).trans (xu.2 i hi)) ⟨hc1.1.1, XV_X1 xg xu.1, ZV_X1 yg xg zu⟩ (by omega) (by omega) (by omega) (by omega) (by omega) (by omega))
  · refine ⟨a, h, w, h6, h21, rfl, fun hr => absurd hr hn, fun _ => ?_⟩
    exact hK2 _ _ q_si_3 (fun g => nomatch g) (fun g => absurd g (by decide)) (LI_o hi rfl rfl)
theorem jd_turnOrder {c : Nat} {M : Q_M} (hi : LI c M) : j_D pX8_turnOrder pX9_turnOrder (c + 1) M := by
  obtain ⟨h, n, tx, B, C, U, hd, hu, hB, hC⟩ := id hi
  have w : s_wf (M.1 22 0 0) := hd.1.1.1
  have h6 : h ≤ 6 := hd.1.2.2.1.1
  have h21 := hd.2.1
  have hcs := w_hcs hd
  have ws := hcs.1.1
  obtain ⟨-, xs, zs⟩ := SG_lo (sav_lo (h := h)) hd.2.2.2.1
  have en : s_n (s_sav (M.1 22 0 0) h) = s_n (M.1 22 0 0) := s_n_lo sav_lo
  have el : ∀ x, s_lk (s_sav (M.1 22 0 0) h) x (s_n (s_sav (M.1 22 0 0) h)) = s_lk (M.1 22 0 0) x (s_n (M.1 22 0 0)) := fun x => by
    rw [en]
    exact s_lk_lo sav_lo w.1.2
  have eq : ∀ x, s_qd (s_sav (M.1 22 0 0) h) x (s_q (s_sav (M.1 22 0 0) h)) = s_qd (M.1 22 0 0) x (s_q (M.1 22 0 0)) := fun x => by
    rw [s_q_lo sav_lo]
    exact s_qd_lo sav_lo w.2.1.2
  intro K KX hK
  refine ⟨s_sav (M.1 22 0 0) h, h, _, _, _, n, tx, hcs, rfl, fun M1 hc1 hfx => hK _ _ (fun K2 KX2 hK2 => ?_)⟩
  obtain ⟨A, F, rfl⟩ := w_norm hfx
  have xg := XV_upd (i := 213) (x := nI 1 - s_sav (M.1 22 0 0) h 213) ws (by decide) (by decide) (fun g => absurd g (by decide)) xs
  have zg := ZV_upd (i := 213) (x := nI 1 - s_sav (M.1 22 0 0) h 213) ws (by decide) (Or.inr (by decide)) zs
  refine ⟨h, w, h6, h21, rfl, ?_⟩
  exact hK2 _ (LI_rf hd hc1 rfl rfl lo_rfl xg.2 ⟨hc1.1.1, xg.1, zg⟩ (by omega) (by omega) (by omega) (by omega) (by omega) (by omega))
