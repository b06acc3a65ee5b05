-- ONE CALL, BOTH SIDES: COURSES, SNAPSHOTS, TRIALS, SHARES
theorem d_bf_21 {M : Q_M} {n : Nat} : (d_bf M n).1 21 0 0 = upd (upd (M.1 21 0 0) 3 (nI 0)) 5 (nI n) := q_a_e
theorem d_bf_r {M : Q_M} {n r : Nat} (h : r ≠ 21) : (d_bf M n).1 r = M.1 r := q_a_r h
theorem TV_0 {M : Q_M} {tx : Nat → Nat} (h : M.1 21 0 0 5 = nI 0) : TV M 0 tx := ⟨by decide, h, fun k hk => absurd hk (Nat.not_lt_zero _)⟩
theorem jw_append {c : Nat} {M : Q_M} (hi : LI c M) (a : Int32) : j_P false pL_append pX9_append [w_x, .inl a, w_o] [w_m, .inl a] (c + 1) M := by
  obtain ⟨h, n, tx, B, C, U, hd, hu, hB, hC⟩ := id hi
  have w : s_wf (M.1 22 0 0) := hd.1.1.1
  have h6 : h ≤ 6 := hd.1.2.2.1.1
  have h21 := hd.2.1
  have ht := hd.2.2.1
  have hs := hd.2.2.2
  intro K KX hK
  refine ⟨M.1 22 0 0, h, _, _, _, n, tx, a, hd.1, rfl, fun d hd1 hd2 ha hn M1 hc1 hfx => hK 0 _ (by decide) (fun K2 KX2 hK2 => ?_), fun hn => hK 1 M (by decide) (fun K2 KX2 hK2 => ?_), fun hr hn => hK 2 M (by decide) (fun K2 KX2 hK2 => ?_)⟩
  · obtain ⟨A, F, rfl⟩ := w_norm hfx
    refine ⟨a, n, ht.1, ht.2.1, rfl, fun d' hd1' hd2' ha' hn' => ?_, fun hn => absurd (by rw [ha]; exact rg_of (by omega) (by omega) (by omega)) hn, fun _ hn' => by omega⟩
    have e : d' = d := ((nI_eq (by omega) (by omega)).mp (ha.symm.trans ha')).symm
    subst e
    refine hK2 _ _ ?_ (fun g => nomatch g) (fun _ => w_out (M := w_mx M A F) rfl) (LI_tr hd hc1 lo_rfl (fun r hr => ?_) rfl (fun i _ => ?_) ?_ ?_ ⟨by omega, ?_, fun k hk => ?_⟩ (by omega) (by omega) (by omega))
    · rw [q_i_r (by decide), d_bf_21, q_upd_ne (by decide), q_upd_eq]
    · rw [q_i_r (by omega), d_bf_r (by omega)]
      rfl
    · rw [q_i_r (by decide), d_bf_r (by decide)]
      rfl
    · rw [q_i_r (by decide), d_bf_r (by decide)]
      rfl
    · rw [q_i_r (by decide), d_bf_21, q_upd_ne (by decide), q_upd_ne (by decide)]
      exact h21
    · rw [q_i_r (by decide), d_bf_21, q_upd_eq]
    · rw [q_i_e]
      unfold updN
      by_cases ck : k = n
      · rw [if_pos ck, ck, q_upd_eq]
        exact ⟨rfl, hd1', hd2'⟩
      · rw [if_neg ck, q_upd_ne ck, d_bf_r (by decide)]
        exact ht.2.2 k (by omega)
  · refine ⟨a, n, ht.1, ht.2.1, rfl, fun d' hd1' hd2' ha' hn' => absurd (by rw [ha']; exact rg_of (by omega) (by omega) (by omega)) hn, fun _ => ?_, fun hr => absurd hr hn⟩
    exact hK2 _ _ q_si_3 (fun g => nomatch g) (fun g => absurd g (by decide)) (LI_o hi rfl rfl)
  · refine ⟨a, n, ht.1, ht.2.1, rfl, fun d' hd1' hd2' ha' hn' => by omega, fun hn2 => absurd hr hn2, fun _ _ => ?_⟩
    exact hK2 _ _ q_si_3 (fun g => nomatch g) (fun g => absurd g (by decide)) (LI_o hi rfl rfl)
theorem jd_clearBuffer {c : Nat} {M : Q_M} (hi : LI c M) : j_D pX8_clearBuffer pX9_clearBuffer (c + 1) M := by
  obtain ⟨h, n, tx, B, C, U, hd, hu, hB, hC⟩ := id hi
  have w : s_wf (M.1 22 0 0) := hd.1.1.1
  have h6 : h ≤ 6 := hd.1.2.2.1.1
  have h21 := hd.2.1
  have ht := hd.2.2.1
  have hs := hd.2.2.2
  intro K KX hK
  refine ⟨M.1 22 0 0, h, _, _, _, n, tx, hd.1, rfl, fun M1 hc1 hfx => hK _ _ (fun K2 KX2 hK2 => ?_)⟩
  obtain ⟨A, F, rfl⟩ := w_norm hfx
  refine ⟨n, ht.2.1, rfl, hK2 _ (LI_tr hd hc1 lo_rfl (fun r hr => ?_) rfl (fun i _ => ?_) ?_ ?_ (TV_0 ?_) (by omega) (by omega) (by omega))⟩
  · rw [d_bf_r (by omega)]
  · rw [d_bf_r (by decide)]
    rfl
  · rw [d_bf_r (by decide)]
    rfl
  · rw [d_bf_21, q_upd_ne (by decide), q_upd_ne (by decide)]
    exact h21
  · rw [d_bf_21, q_upd_eq]
theorem jd_firstError {c : Nat} {M : Q_M} (hi : LI c M) : j_D pX8_firstError pX9_firstError (c + 1) M := by
  obtain ⟨h, n, tx, B, C, U, hd, hu, hB, hC⟩ := id hi
  have w : s_wf (M.1 22 0 0) := hd.1.1.1
  have h6 : h ≤ 6 := hd.1.2.2.1.1
  have h21 := hd.2.1
  have ht := hd.2.2.1
  have hs := hd.2.2.2
  intro K KX hK
  refine ⟨M.1 22 0 0, h, _, _, _, n, tx, hd.1, rfl, fun M1 hc1 hfx => hK _ _ (fun K2 KX2 hK2 => ?_)⟩
  obtain ⟨A, F, rfl⟩ := w_norm hfx
  refine ⟨n, tx, ⟨ht.1, ht.2.1, ht.2.2⟩, rfl, fun M2 hpf => ?_⟩
  obtain ⟨-, qq, LL, hrn, -⟩ := g_wh_rn (tx := tx) (n := n) (n + 1) 0 0 0 0 0 [] (Nat.zero_le _) (by omega)
  rw [Nat.sub_zero] at hrn
  rw [show (g_wh tx n (n + 1) 0 []).2.1 = (g_rn tx n 0 (0, 0, 0, 0, 0) []).1 by rw [hrn]]
  refine hK2 _ (LI_tr hd hc1 lo_rfl (fun r hr => ?_) ?_ (fun i _ => ?_) ?_ ?_ ⟨ht.1, ?_, fun k hk => ?_⟩ (by omega) (by omega) (by omega))
  · rw [hpf.1 r (by omega), q_i_r (by omega)]
  · rw [hpf.2.1]
    rfl
  · rw [hpf.1 22 (by decide), q_i_r (by decide)]
    rfl
  · rw [hpf.1 23 (by decide), q_i_r (by decide)]
    rfl
  · rw [hpf.2.2 1 (by decide), q_i_e, q_upd_ne (by decide)]
    exact h21
  · rw [hpf.2.2 5 (by decide), q_i_e, q_upd_ne (by decide)]
    exact ht.2.1
  · rw [hpf.1 24 (by decide), q_i_r (by decide)]
    exact ht.2.2 k hk
theorem jw_play {c : Nat} {M : Q_M} (hi : LI c M) : j_P false pL_play pX9_play [w_x, w_o] [w_m] (c + 1) M := by
  obtain ⟨h, n, tx, B, C, U, hd, hu, hB, hC⟩ := id hi
  have w : s_wf (M.1 22 0 0) := hd.1.1.1
  have h6 : h ≤ 6 := hd.1.2.2.1.1
  have h21 := hd.2.1
  have ht := hd.2.2.1
  have hs := hd.2.2.2
  intro K KX hK
  have hv := g_W_vp (n := n) (tx := tx)
  have e9 := (lo_pl (g_W n tx).2.2 (M.1 22 0 0) (s_cp (M.1 22 0 0) 0 9) (fun i hi => s_cp_lo (by decide) hi) w hv ⟨B, hs.1.2.1⟩).1
  refine ⟨M.1 22 0 0, h, _, _, _, n, tx, B, hd.1, hs.1.2.1, rfl, fun g1 M1 hc1 hfx => hK 1 _ (by decide) (fun K2 KX2 hK2 => ?_), fun g1 g2 g3 M1 hc1 hfx => hK 2 _ (by decide) (fun K2 KX2 hK2 => ?_), fun g1 g2 g3 M1 hc1 hfx => hK 0 _ (by decide) (fun K2 KX2 hK2 => ?_)⟩
  · obtain ⟨A, F, rfl⟩ := w_norm hfx
    refine ⟨n, tx, h, B, ⟨ht.1, ht.2.1, ht.2.2⟩, w, hs.1.2.1, h6, h21, rfl, fun _ M2 hp e3 e1 e5 e22 => ?_, fun f1 f2 => absurd ⟨f1, f2⟩ g1, fun f1 f2 => absurd ⟨f1, f2⟩ g1⟩
    have e4 : M2.2.1 = F := by rw [hp.2]; rfl
    refine hK2 _ _ e3 (fun g => nomatch g) (fun g => absurd g (by decide)) (LI_tr hd hc1 lo_rfl (fun r hr => ?_) e4 e22 ?_ e1 ⟨ht.1, e5, fun k hk => ?_⟩ (by omega) (by omega) (by omega))
    · rw [hp.1 r (by omega) (by omega)]
    · rw [hp.1 23 (by decide) (by decide)]
      rfl
    · rw [hp.1 24 (by decide) (by decide)]
      exact ht.2.2 k hk
  · obtain ⟨A, F, rfl⟩ := w_norm hfx
    refine ⟨n, tx, h, B, ⟨ht.1, ht.2.1, ht.2.2⟩, w, hs.1.2.1, h6, h21, rfl, fun f => absurd ⟨g1, g2⟩ f, fun _ _ _ M2 hp e3 e1 e5 e22 => ?_, fun _ _ f => absurd (e9.symm.trans f) g3⟩
    have e4 : M2.2.1 = F := by rw [hp.2]; rfl
    refine hK2 _ _ e3 (fun g => nomatch g) (fun g => absurd g (by decide)) (LI_tr hd hc1 lo_rfl (fun r hr => ?_) e4 e22 ?_ e1 ⟨ht.1, e5, fun k hk => ?_⟩ (by omega) (by omega) (by omega))
    · rw [hp.1 r (by omega) (by omega)]
    · rw [hp.1 23 (by decide) (by decide)]
      rfl
    · rw [hp.1 24 (by decide) (by decide)]
      exact ht.2.2 k hk
  · obtain ⟨A, F, rfl⟩ := w_norm hfx
    refine ⟨n, tx, h, B, ⟨ht.1, ht.2.1, ht.2.2⟩, w, hs.1.2.1, h6, h21, rfl, fun f => absurd ⟨g1, g2⟩ f, fun _ _ f => absurd (e9.trans g3) f, fun _ _ _ M2 S2 hS2 hp e3 e1 e5 e22 => ?_⟩
    have hlen := g_W_len g1 g2
    have h60 := ht.1
    have hS2 : ∀ i, i < 2043 → S2 i = M.1 22 0 0 i := hS2
    have lo2 : e_lo (M.1 22 0 0) (s_sav S2 h) := fun i hi => by rw [s_sav_lo hi, hS2 i (by omega)]
    have gS : w_SG (s_sav S2 h) B C U := SG_lo lo2 hs.1
    have lp := lo_pl (g_W n tx).2.2 (M.1 22 0 0) (s_sav S2 h) lo2 w hv ⟨B, hs.1.2.1⟩
    have xp := XV_pl (g_W n tx).2.2 (s_sav S2 h) B gS.1 hv gS.2.1
    have zp := ZV_pl (g_W n tx).2.2 (s_sav S2 h) B C U gS.1 hv gS.2.1 gS.2.2
    have e4 : M2.2.1 = F := by rw [hp.2]; rfl
    refine hK2 _ _ e3 (fun g => nomatch g) (fun _ => ?_) (LI_sv hd hc1 lo_rfl hS2 (fun r hr => ?_) e4 e22 lp.2 xp.2.1 ?_ e1 (TV_0 e5) ⟨xp.2.2, xp.1, zp⟩ (by omega) (by omega) (by omega) (by omega) (by omega) (by omega))
    · rw [e22, lp.2 0 (by decide), show M2.2.2 = (q_sl (w_mx M A F) (25, 0, 0) 0 ((s_pl (g_W n tx).2.2 (M.1 22 0 0)).2 0).toInt64).2.2 by rw [hp.2], q_sl_o]
    · rw [hp.1 r (by omega) (by omega)]
      rfl
    · rw [hp.1 23 (by decide) (by decide)]
      rfl
theorem cp_K {R : Nat → Int32} {k : Nat} : e_lo R (w_sl (s_cp R 0 (7 + k)) (7 + k)) := by
  intro q hq
  show s_cp R 0 (7 + k) (227 * (7 + k) + q) = R q
  unfold s_cp
  rw [if_pos (by omega)]
  exact congrArg R (by omega)
theorem cp_n {R : Nat → Int32} {f t i : Nat} (h : i ≠ t) : e_lo (w_sl R i) (w_sl (s_cp R f t) i) := by
  intro q hq
  show s_cp R f t (227 * i + q) = R (227 * i + q)
  unfold s_cp
  rw [if_neg (by omega)]
theorem cp_0 {R : Nat → Int32} {f : Nat} : e_lo (w_sl R f) (s_cp R f 0) := by
  intro q hq
  show s_cp R f 0 q = R (227 * f + q)
  unfold s_cp
  rw [if_pos (by omega)]
  exact congrArg R (by omega)
theorem cp_hi {R : Nat → Int32} {f i : Nat} (h : 227 ≤ i) : s_cp R f 0 i = R i := by
  unfold s_cp
  rw [if_neg (by omega)]
theorem jv_keep {c : Nat} {M : Q_M} (hi : LI c M) (a : Int32) : j_V pL_keep pX9_keep [w_x, .inl a] [w_m, .inl a] (c + 1) M := by
  obtain ⟨h, n, tx, B, C, U, hd, hu, hB, hC⟩ := id hi
  have w : s_wf (M.1 22 0 0) := hd.1.1.1
  have h6 : h ≤ 6 := hd.1.2.2.1.1
  have h21 := hd.2.1
  have ht := hd.2.2.1
  have hs := hd.2.2.2
  intro K KX hK
  refine ⟨M.1 22 0 0, h, _, _, _, n, tx, a, hd.1, rfl, fun k hk ha M1 hc1 hfx => hK 0 _ (fun K2 KX2 hK2 => ?_), fun hn => hK 1 M (fun K2 KX2 hK2 => ?_)⟩
  · obtain ⟨A, F, rfl⟩ := w_norm hfx
    refine ⟨a, rfl, fun k' hk' ha' => ?_, fun hn => absurd (by rw [ha]; exact rg_of (by omega) (by omega) (by omega)) hn⟩
    have e : k' = k := ((nI_eq (by omega) (by omega)).mp (ha.symm.trans ha')).symm
    subst e
    have e22 : (q_si (q_sa (q_si (w_mx M A F) (21, 0, 0) 3 (nI 0)) (22, 0, 0) (s_cp ((w_mx M A F).1 22 0 0) 0 (7 + k'))) (23, 0, 0) k' (nI 1)).1 22 0 0 = s_cp (M.1 22 0 0) 0 (7 + k') := by
      rw [q_i_r (by decide), q_a_e]
      rfl
    have e21 : (q_si (q_sa (q_si (w_mx M A F) (21, 0, 0) 3 (nI 0)) (22, 0, 0) (s_cp ((w_mx M A F).1 22 0 0) 0 (7 + k'))) (23, 0, 0) k' (nI 1)).1 21 0 0 = upd (M.1 21 0 0) 3 (nI 0) := by
      rw [q_i_r (by decide), q_a_r (by decide), q_i_e]
      rfl
    refine hK2 _ (by rw [e21, q_upd_eq]) (LI_mk (B := B) (C := C) (U := U) hc1 (fun r hr => ?_) rfl ?_ (fun i hi => ?_) ?_ (fun j hj hkj => ?_) ?_ ⟨ht.1, ?_, fun j hj => ?_⟩ ?_ (by omega) (by omega) (by omega))
    · rw [q_i_r (by omega), q_a_r (by omega), q_i_r (by omega)]
    · rw [e22]
      exact fun q hq => s_cp_lo (by omega) hq
    · rw [e22]
      exact cp_n (by omega)
    · rw [q_i_e, q_a_r (by decide), q_i_r (by decide)]
      rfl
    · rw [e22]
      by_cases cj : j = k'
      · rw [if_pos cj, cj]
        exact cp_K
      · rw [if_neg cj]
        exact cp_n (by omega)
    · rw [e21, q_upd_ne (by decide)]
      exact h21
    · rw [e21, q_upd_ne (by decide)]
      exact ht.2.1
    · rw [q_i_r (by decide), q_a_r (by decide), q_i_r (by decide)]
      exact ht.2.2 j hj
    · rw [e22]
      refine ⟨SG_lo (fun q hq => s_cp_lo (by omega) hq) hs.1, fun i hi => SG_lo (cp_n (by omega)) (hs.2.1 i hi), fun j hj hkj => ?_⟩
      by_cases cj : j = k'
      · rw [cj]
        exact SG_lo cp_K hs.1
      · rw [q_upd_ne cj] at hkj
        exact SG_lo (cp_n (by omega)) (hs.2.2 j hj hkj)
  · refine ⟨a, rfl, fun k' hk' ha' => absurd (by rw [ha']; exact rg_of (by omega) (by omega) (by omega)) hn, fun _ => ?_⟩
    exact hK2 _ q_si_3 (LI_o hi rfl rfl)
theorem jv_goBack {c : Nat} {M : Q_M} (hi : LI c M) (a : Int32) : j_V pL_goBack pX9_goBack [w_x, .inl a] [w_m, .inl a] (c + 1) M := by
  obtain ⟨h, n, tx, B, C, U, hd, hu, hB, hC⟩ := id hi
  have w : s_wf (M.1 22 0 0) := hd.1.1.1
  have h6 : h ≤ 6 := hd.1.2.2.1.1
  have h21 := hd.2.1
  have ht := hd.2.2.1
  have hs := hd.2.2.2
  intro K KX hK
  have hkb : ∀ k, k < 2 → q_bit (M.1 23 0 0 k) := fun k hk => (hd.1.2.2.2.1 k hk).2.2.1
  refine ⟨s_sav (M.1 22 0 0) h, h, _, _, _, n, tx, a, w_hcs hd, rfl, fun k hk ha hb M1 hc1 hfx => hK 0 _ (fun K2 KX2 hK2 => ?_), fun hn => hK 1 M (fun K2 KX2 hK2 => ?_), fun k hk ha hb => hK 2 M (fun K2 KX2 hK2 => ?_)⟩
  · obtain ⟨A, F, rfl⟩ := w_norm hfx
    refine ⟨a, h, h6, h21, hkb, rfl, fun k' hk' ha' _ => ?_, fun hn => absurd (by rw [ha]; exact rg_of (by omega) (by omega) (by omega)) hn, fun k' hk' ha' hb' => ?_⟩
    · have e : k' = k := ((nI_eq (by omega) (by omega)).mp (ha.symm.trans ha')).symm
      subst e
      have hR : e_lo (w_sl (M.1 22 0 0) (7 + k')) (s_cp (s_sav (M.1 22 0 0) h) (7 + k') 0) := by
        rw [← sav_K h6]
        exact cp_0
      exact hK2 _ d_rf_3 (LI_rf hd hc1 rfl rfl hR (fun i hi => cp_hi hi) (SG_lo hR (hs.2.2 k' hk hb)) (Nat.le_refl _) (Nat.le_refl _) (Nat.le_refl _) (by omega) (by omega) (by omega))
    · have e : k' = k := ((nI_eq (by omega) (by omega)).mp (ha.symm.trans ha')).symm
      subst e
      exact absurd hb hb'
  · refine ⟨a, h, h6, h21, hkb, rfl, fun k' hk' ha' => absurd (by rw [ha']; exact rg_of (by omega) (by omega) (by omega)) hn, fun _ => ?_, fun k' hk' ha' => absurd (by rw [ha']; exact rg_of (by omega) (by omega) (by omega)) hn⟩
    exact hK2 _ q_si_3 (LI_o hi rfl rfl)
  · refine ⟨a, h, h6, h21, hkb, rfl, fun k' hk' ha' hb' => ?_, fun hn => absurd (by rw [ha]; exact rg_of (by omega) (by omega) (by omega)) hn, fun k' hk' ha' _ => ?_⟩
    · have e : k' = k := ((nI_eq (by omega) (by omega)).mp (ha.symm.trans ha')).symm
      subst e
      exact absurd hb' hb
    · exact hK2 _ q_si_3 (LI_o hi rfl rfl)
theorem jv_undo {c : Nat} {M : Q_M} (hi : LI c M) : j_V pL_undo pX9_undo [w_x] [w_m] (c + 1) M := by
  obtain ⟨h, n, tx, B, C, U, hd, hu, hB, hC⟩ := id hi
  have w : s_wf (M.1 22 0 0) := hd.1.1.1
  have h6 : h ≤ 6 := hd.1.2.2.1.1
  have h21 := hd.2.1
  have ht := hd.2.2.1
  have hs := hd.2.2.2
  intro K KX hK
  refine ⟨M.1 22 0 0, h, _, _, _, n, tx, hd.1, rfl, fun hh M1 hc1 hfx => hK 0 _ (fun K2 KX2 hK2 => ?_), fun hh => hK 1 M (fun K2 KX2 hK2 => ?_)⟩
  · obtain ⟨A, F, rfl⟩ := w_norm hfx
    refine ⟨h, h6, h21, rfl, fun _ => ?_, fun hn => by omega⟩
    obtain ⟨M2, hM2⟩ : ∃ M2, M2 = q_sa (q_sa (w_mx M A F) (21, 0, 0) (upd (upd ((w_mx M A F).1 21 0 0) 3 (nI 0)) 1 (nI (h - 1)))) (22, 0, 0) (s_cp ((w_mx M A F).1 22 0 0) h 0) := ⟨_, rfl⟩
    have er : ∀ r, r ≠ 21 → r ≠ 22 → M2.1 r = (w_mx M A F).1 r := fun r h1 h2 => by rw [hM2, q_a_r h2, q_a_r h1]
    have e22 : M2.1 22 0 0 = s_cp (M.1 22 0 0) h 0 := by
      rw [hM2, q_a_e]
      rfl
    have e21 : M2.1 21 0 0 = upd (upd (M.1 21 0 0) 3 (nI 0)) 1 (nI (h - 1)) := by
      rw [hM2, q_a_r (by decide), q_a_e]
      rfl
    have e2 : M2.2.1 = F := by
      rw [hM2]
      rfl
    have hR : e_lo (w_sl (M.1 22 0 0) (h - 1 + 1)) (s_cp (M.1 22 0 0) h 0) := by
      rw [show h - 1 + 1 = h by omega]
      exact cp_0
    have hM3 := hK2 M2 (by rw [e21, q_upd_ne (by decide), q_upd_eq]) (LI_mk (B := B) (C := C) (U := U) hc1 (fun r hr => er r (by omega) (by omega)) e2 (by rw [e22]; exact hR) (fun i hi => by rw [e22]; exact fun q hq => cp_hi (by omega)) (by rw [er 23 (by decide) (by decide)]; rfl) (fun j hj hkj => by rw [e22]; exact fun q hq => cp_hi (by omega)) (by rw [e21, q_upd_eq]) ⟨ht.1, by rw [e21, q_upd_ne (by decide), q_upd_ne (by decide)]; exact ht.2.1, fun k hk => by rw [er 24 (by decide) (by decide)]; exact ht.2.2 k hk⟩ (by
      rw [e22]
      refine ⟨SG_lo hR (hs.2.1 (h - 1) (by omega)), fun i hi => ?_, fun k hk e => ?_⟩
      · rw [hi_sl (fun i hi => cp_hi hi) (by omega)]
        exact hs.2.1 i (by omega)
      · rw [hi_sl (fun i hi => cp_hi hi) (by omega)]
        exact hs.2.2 k hk e) (by omega) (by omega) (by omega))
    rw [hM2] at hM3
    exact hM3
  · refine ⟨h, h6, h21, rfl, fun hn => by omega, fun _ => ?_⟩
    exact hK2 _ q_si_3 (LI_o hi rfl rfl)
theorem jw_ticksToServe {c : Nat} {M : Q_M} (hi : LI c M) (a : Int32) : j_P false pL_ticksToServe pX9_ticksToServe [w_x, .inl a, w_o] [w_m, .inl a] (c + 1) M := by
  obtain ⟨h, n, tx, B, C, U, hd, hu, hB, hC⟩ := id hi
  have w : s_wf (M.1 22 0 0) := hd.1.1.1
  have h6 : h ≤ 6 := hd.1.2.2.1.1
  have h21 := hd.2.1
  have ht := hd.2.2.1
  have hs := hd.2.2.2
  intro K KX hK
  have lo9 : e_lo (M.1 22 0 0) (s_cp (M.1 22 0 0) 0 9) := fun i hi => s_cp_lo (by decide) hi
  have hc9 : CV M (s_cp (M.1 22 0 0) 0 9) h (fun i => w_sl (M.1 22 0 0) (i + 1)) (M.1 23 0 0) (fun k => w_sl (M.1 22 0 0) (7 + k)) n tx := CV_fr hd.1 (fun _ _ => rfl) rfl lo9 (fun _ _ => lo_rfl) (fun _ _ _ => lo_rfl)
  have eq : ∀ x, s_qd (s_cp (M.1 22 0 0) 0 9) x (s_q (s_cp (M.1 22 0 0) 0 9)) = s_qd (M.1 22 0 0) x (s_q (M.1 22 0 0)) := fun x => by
    rw [s_q_lo lo9]
    exact s_qd_lo lo9 w.2.1.2
  refine ⟨s_cp (M.1 22 0 0) 0 9, h, _, _, _, n, tx, a, hc9, rfl, fun x p hx ha hl M1 hc1 hfx => hK 0 _ (by decide) (fun K2 KX2 hK2 => ?_), fun hn => hK 1 M (by decide) (fun K2 KX2 hK2 => ?_), fun hr hn => hK 2 M (by decide) (fun K2 KX2 hK2 => ?_)⟩
  · obtain ⟨A, F, rfl⟩ := w_norm hfx
    rw [eq, ← ha] at hl
    refine ⟨a, B, w, hs.1.2.1, rfl, fun x' p' hx' ha' hl' S' hS' => ?_, fun hn => absurd (by rw [ha]; exact rg_of (by omega) (by omega) (by omega)) hn, fun _ hn => ?_⟩
    · have e : x' = x := ((nI_eq (by omega) (by omega)).mp (ha.symm.trans ha')).symm
      subst e
      have hS' : ∀ i, i < 2043 → S' i = M.1 22 0 0 i := hS'
      refine hK2 _ _ ?_ (fun g => nomatch g) (fun _ => w_out (M := w_mx M A F) rfl) (LI_tr hd hc1 lo9 (fun r hr => ?_) rfl (fun i hi => ?_) ?_ ?_ ⟨ht.1, ?_, fun k hk => ?_⟩ (by omega) (by omega) (by omega))
      · rw [q_a_r (by decide), q_si_3]
      · rw [q_a_r (by omega), q_i_r (by omega)]
        rfl
      · rw [q_a_e]
        exact hS' i hi
      · rw [q_a_r (by decide), q_i_r (by decide)]
        rfl
      · rw [q_a_r (by decide), q_i_e, q_upd_ne (by decide)]
        exact h21
      · rw [q_a_r (by decide), q_i_e, q_upd_ne (by decide)]
        exact ht.2.1
      · rw [q_a_r (by decide), q_i_r (by decide)]
        exact ht.2.2 k hk
    · have e : some p = none := hl.symm.trans hn
      cases e
  · refine ⟨a, B, w, hs.1.2.1, rfl, fun x' p' hx' ha' hl' => absurd (by rw [ha']; exact rg_of (by omega) (by omega) (by omega)) hn, fun _ => ?_, fun hr => absurd hr hn⟩
    exact hK2 _ _ q_si_3 (fun g => nomatch g) (fun g => absurd g (by decide)) (LI_o hi rfl rfl)
  · rw [eq] at hn
    refine ⟨a, B, w, hs.1.2.1, rfl, fun x' p' hx' ha' hl' => ?_, fun hn2 => absurd hr hn2, fun _ _ => ?_⟩
    · rw [← ha'] at hl'
      have e : some p' = none := hl'.symm.trans hn
      cases e
    · exact hK2 _ _ q_si_3 (fun g => nomatch g) (fun g => absurd g (by decide)) (LI_o hi rfl rfl)
theorem jd_ticksToClose {c : Nat} {M : Q_M} (hi : LI c M) (h512 : c ≤ 512) : j_D pX8_ticksToClose pX9_ticksToClose (c + 1) M := by
  obtain ⟨h, n, tx, B, C, U, hd, hu, hB, hC⟩ := id hi
  have w : s_wf (M.1 22 0 0) := hd.1.1.1
  have h6 : h ≤ 6 := hd.1.2.2.1.1
  have h21 := hd.2.1
  have ht := hd.2.2.1
  have hs := hd.2.2.2
  intro K KX hK
  have lo9 : e_lo (M.1 22 0 0) (s_cp (M.1 22 0 0) 0 9) := fun i hi => s_cp_lo (by decide) hi
  have hc9 : CV M (s_cp (M.1 22 0 0) 0 9) h (fun i => w_sl (M.1 22 0 0) (i + 1)) (M.1 23 0 0) (fun k => w_sl (M.1 22 0 0) (7 + k)) n tx := CV_fr hd.1 (fun _ _ => rfl) rfl lo9 (fun _ _ => lo_rfl) (fun _ _ _ => lo_rfl)
  refine ⟨s_cp (M.1 22 0 0) 0 9, h, _, _, _, n, tx, hc9, rfl, fun M1 hc1 hfx => hK _ _ (fun K2 KX2 hK2 => ?_)⟩
  obtain ⟨A, F, rfl⟩ := w_norm hfx
  refine ⟨B, w, hs.1.2.1, by omega, rfl, fun S' hS' => ?_⟩
  have hS' : ∀ i, i < 2043 → S' i = M.1 22 0 0 i := hS'
  refine hK2 _ (LI_tr hd hc1 lo9 (fun r hr => ?_) rfl (fun i hi => ?_) ?_ ?_ ⟨ht.1, ?_, fun k hk => ?_⟩ (by omega) (by omega) (by omega))
  · rw [q_a_r (by omega), q_i_r (by omega)]
  · rw [q_a_e]
    exact hS' i hi
  · rw [q_a_r (by decide), q_i_r (by decide)]
    rfl
  · rw [q_a_r (by decide), q_i_e, q_upd_ne (by decide)]
    exact h21
  · rw [q_a_r (by decide), q_i_e, q_upd_ne (by decide)]
    exact ht.2.1
  · rw [q_a_r (by decide), q_i_r (by decide)]
    exact ht.2.2 k hk
theorem jd_hitShare {c : Nat} {M : Q_M} (hi : LI c M) (h512 : c ≤ 512) : j_H pX8_hitShare pX9_hitShare (c + 1) M := by
  obtain ⟨h, n, tx, B, C, U, hd, hu, hB, hC⟩ := id hi
  have w : s_wf (M.1 22 0 0) := hd.1.1.1
  have h6 : h ≤ 6 := hd.1.2.2.1.1
  have h21 := hd.2.1
  have ht := hd.2.2.1
  have hs := hd.2.2.2
  intro K KX hK
  obtain ⟨-, -, a, b, ea, eb, hab⟩ := hs.1.2.2
  exact ⟨M.1 22 0 0, a, b, hd.1.1, ea, eb, by omega, rfl, hK _ M (fun K2 KX2 hK2 => ⟨a, b, ea, eb, by omega, rfl, hK2 _ (LI_o hi rfl rfl)⟩)⟩
