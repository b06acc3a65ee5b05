-- COURSES PLAYED
def q_p3 (M M' : Q_M) : Prop := (∀ r, r ≠ 21 → r ≠ 22 → M'.1 r = M.1 r) ∧ M'.2 = M.2
def g_W (n : Nat) (tx : Nat → Nat) : Bool × (Nat × List Q_P3) := g_wh tx n (n + 1) 0 []
theorem g_W_vp {n : Nat} {tx : Nat → Nat} : s_vL (g_W n tx).2.2 := g_wh_vp _ _ _ (Nat.zero_le _) (fun _ h => nomatch h)
theorem s_cp_hi {S : Nat → Int32} {i : Nat} (hi : i < 2043) : s_cp S 0 9 i = S i := by
  unfold s_cp
  rw [if_neg (by omega)]
abbrev pX9_play : Q_P := fun av M K KX => ∃ (n : Nat) (tx : Nat → Nat) (h B : Nat), TV M n tx ∧ s_wf (M.1 22 0 0) ∧ XV (M.1 22 0 0) B ∧ h ≤ 6 ∧ M.1 21 0 0 1 = nI h ∧ av = [.inr (.inl (21, 0, 0))] ∧ (¬ ((g_W n tx).1 = true ∧ (g_W n tx).2.1 = n) → ∀ M', q_p3 M M' → M'.1 21 0 0 3 = nI 1 → M'.1 21 0 0 1 = nI h → M'.1 21 0 0 5 = nI n → (∀ i, i < 2043 → M'.1 22 0 0 i = M.1 22 0 0 i) → K (some (.inl (nI 0))) M') ∧ ((g_W n tx).1 = true → (g_W n tx).2.1 = n → ¬ (s_pl (g_W n tx).2.2 (s_cp (M.1 22 0 0) 0 9)).1 = true → ∀ M', q_p3 M M' → M'.1 21 0 0 3 = nI 2 → M'.1 21 0 0 1 = nI h → M'.1 21 0 0 5 = nI n → (∀ i, i < 2043 → M'.1 22 0 0 i = M.1 22 0 0 i) → K (some (.inl (nI 0))) M') ∧ ((g_W n tx).1 = true → (g_W n tx).2.1 = n → (s_pl (g_W n tx).2.2 (s_cp (M.1 22 0 0) 0 9)).1 = true → ∀ M' S2, (∀ i, i < 2043 → S2 i = M.1 22 0 0 i) → q_p3 M M' → M'.1 21 0 0 3 = nI 0 → M'.1 21 0 0 1 = nI (s_h1 h) → M'.1 21 0 0 5 = nI 0 → M'.1 22 0 0 = (s_pl (g_W n tx).2.2 (s_sav S2 h)).2 → K (some (.inl (M'.1 22 0 0 0))) M')
theorem cX9_play_ct {l : Launch} {b : Bool} (hl0 : l.stackTraces = false) : q_Ct l b 204 pX9_play := by
  refine q_meth (by decide +kernel) hl0 TX9_play kX9_play ?_
  intro av M K KX hwf
  rintro ⟨n, tx, h, B, hT, w, v, hh, h1, rfl, hA, hB, hC⟩
  refine ⟨Nat.le_of_ble_eq_true rfl, fun Z hz hw => ?_⟩
  obtain ⟨hn, h5, ht⟩ := id hT
  have lo : ∀ i, i < 227 → s_cp (M.1 22 0 0) 0 9 i = (M.1 22 0 0) i := fun i hi => s_cp_lo (by omega) hi
  have w1 := s_wf_lo w lo
  have v1 := XV_lo lo w.2.1.2 v
  have hvp := g_W_vp (n := n) (tx := tx)
  have hpl := XV_pl (g_W n tx).2.2 (s_cp (M.1 22 0 0) 0 9) B w1 hvp v1
  have cnt : ∀ X : Q_M, q_p2 M X → TV X n tx := fun X hX => TV_p2 hT hX
  -- behind the trial
  have back : ∀ (is can : Int32) (t : Nat) (M1 : Q_M), q_p2 M M1 → (∀ i, 227 ≤ i → M1.1 22 0 0 i = s_cp (M.1 22 0 0) 0 9 i) → t = s_go is can (nI 1) → (¬ t = 0 → ∀ M', q_p3 M M' → M'.1 21 0 0 3 = nI t → M'.1 21 0 0 1 = nI h → M'.1 21 0 0 5 = nI n → (∀ i, i < 2043 → M'.1 22 0 0 i = M.1 22 0 0 i) → K (some (.inl (nI 0))) M') → (t = 0 → Z 0 48 [(2, .inl can), (1, .inl is), (0, .inr (.inl (21, 0, 0)))] [] (q_si (q_sa M1 (22, 0, 0) (s_cp (M1.1 22 0 0) 9 0)) (21, 0, 0) 3 (nI 0))) → Z 0 28 [(1, .inl is), (0, .inr (.inl (21, 0, 0)))] [.inl can] M1 := by
    intro is can t M1 hp he ht hno hyes
    apply hz [48] 60
    refine Exists.intro _ ⟨cX9_copies_ct hl0, 9, 0, by omega, by omega, rfl, ?_⟩
    refine Exists.intro _ ⟨cX9_gos_ct hl0, t, is, can, nI 1, ht, rfl, fun g => ?_, fun g => ?_⟩
    · exact And.intro (fun g => absurd g q_n1) (fun _ => hyes g)
    · refine And.intro (fun _ => ?_) (fun g => absurd nI_0 g)
      refine hno g _ ⟨fun r a b => ?_, ?_⟩ ?_ ?_ ?_ (fun i hi => ?_)
      · rw [q_i_r a, q_p2_sa.1 r a b]
        exact hp.1 r a b
      · exact hp.2.1
      · rw [q_i_e, q_upd_eq]
      · rw [q_i_e, q_upd_ne (by decide)]
        exact (hp.2.2 1 (by decide)).trans h1
      · rw [q_i_e, q_upd_ne (by decide)]
        exact (hp.2.2 5 (by decide)).trans h5
      · rw [q_i_r (show 22 ≠ 21 by decide)]
        exact s_bk he i hi
  apply hz [28] 60
  refine Exists.intro _ ⟨cX9_isWhole_ct hl0, n, tx, hT, rfl, fun M1 hp1 h61 => ?_⟩
  have e1 : M1.1 22 0 0 = M.1 22 0 0 := by rw [hp1.1 22 (by decide)]
  refine Exists.intro _ ⟨cX9_copies_ct hl0, 0, 9, by omega, by omega, rfl, ?_⟩
  rw [e1]
  have hp2 : q_p2 M (q_sa M1 (22, 0, 0) (s_cp (M.1 22 0 0) 0 9)) := q_p2_tr (q_p2_pf hp1) q_p2_sa
  by_cases cw : (g_W n tx).1 = true ∧ (g_W n tx).2.1 = n
  · rw [q_bi_t (show (g_wh tx n (n + 1) 0 []).1 = true ∧ (g_wh tx n (n + 1) 0 []).2.1 = n from cw)]
    refine And.intro (fun g => absurd g q_n1) (fun _ => ?_)
    have eW : g_wh tx n (n + 1) 0 [] = (true, n, (g_W n tx).2.2) := Prod.ext cw.1 (Prod.ext cw.2 rfl)
    refine Exists.intro _ ⟨cX9_plays_ct hl0, n, tx, (g_W n tx).2.2, B, cnt _ hp2, w1, v1, eW, rfl, fun M3 hp3 e3 => ?_⟩
    have e3 : M3.1 22 0 0 = (s_pl (g_W n tx).2.2 (s_cp (M.1 22 0 0) 0 9)).2 := e3
    have hp3 := q_p2_tr hp2 hp3
    have hb : ∀ i, 227 ≤ i → M3.1 22 0 0 i = s_cp (M.1 22 0 0) 0 9 i := fun i hi => by rw [e3]; exact hpl.2.1 i hi
    by_cases cp : (s_pl (g_W n tx).2.2 (s_cp (M.1 22 0 0) 0 9)).1 = true
    · have e4 : q_bi ((s_pl (g_W n tx).2.2 ((q_sa M1 (22, 0, 0) (s_cp (M.1 22 0 0) 0 9)).1 22 0 0)).1 = true) = nI 1 := q_bi_t cp
      rw [e4]
      refine And.intro (fun g => absurd g q_n1) (fun _ => ?_)
      refine back (nI 1) (nI 1) 0 M3 hp3 hb (by decide) (fun g => absurd rfl g) (fun _ => ?_)
      -- it is done
      have hlow : ∀ i, i < 2043 → s_cp (M3.1 22 0 0) 9 0 i = M.1 22 0 0 i := s_bk hb
      generalize hS2 : s_cp (M3.1 22 0 0) 9 0 = S2 at hlow ⊢
      have w2 : s_wf S2 := s_wf_lo w (fun i hi => hlow i (by omega))
      have v2 : XV S2 B := XV_lo (fun i hi => hlow i (by omega)) w.2.1.2 v
      have hp4 : q_p3 M (q_sa M3 (22, 0, 0) S2) := ⟨fun r a b => by rw [q_p2_sa.1 r a b]; exact hp3.1 r a b, hp3.2.1⟩
      have h14 : (q_sa M3 (22, 0, 0) S2).1 21 0 0 1 = nI h := (hp3.2.2 1 (by decide)).trans h1
      have h54 : (q_sa M3 (22, 0, 0) S2).1 21 0 0 5 = nI n := (hp3.2.2 5 (by decide)).trans h5
      have h24 : (q_sa M3 (22, 0, 0) S2).1 24 = M.1 24 := hp4.1 24 (by decide) (by decide)
      have h22 : (q_sa M3 (22, 0, 0) S2).1 22 0 0 = S2 := rfl
      generalize q_sa M3 (22, 0, 0) S2 = M4 at hp4 h14 h54 h24 h22 ⊢
      apply hz [] 60
      refine Exists.intro _ ⟨cX9_saves2_ct hl0, M4, h, rfl, hh, h14, rfl, ?_⟩
      rw [h22]
      have w5 := s_wf_sav w2 (h := h)
      have v5 := XV_lo (fun i hi => s_sav_lo (h := h) hi) w2.2.1.2 v2
      have hT5 : TV (d_rf M4 h (s_sav S2 h)) n tx := by
        refine ⟨hn, ?_, fun k hk => ?_⟩
        · show upd (upd (M4.1 21 0 0) 3 (nI 0)) 1 (nI (s_h1 h)) 5 = nI n
          rw [q_upd_ne (by decide), q_upd_ne (by decide), h54]
        · show M4.1 24 0 0 k = nI (tx k) ∧ _
          rw [h24]
          exact ht k hk
      refine Exists.intro _ ⟨cX9_plays_ct hl0, n, tx, (g_W n tx).2.2, B, hT5, w5, v5, eW, rfl, fun M6 hp6 e6 => ?_⟩
      have e6 : M6.1 22 0 0 = (s_pl (g_W n tx).2.2 (s_sav S2 h)).2 := e6
      have hfin := hC cw.1 cw.2 cp (q_si M6 (21, 0, 0) 5 (nI 0)) S2 hlow ⟨fun r a b => ?_, ?_⟩ ?_ ?_ ?_ ?_
      · refine Exists.intro 0 ⟨rfl, by decide, ?_⟩
        exact hfin
      · rw [q_i_r a, hp6.1 r a b]
        show (d_rf M4 h (s_sav S2 h)).1 r = M.1 r
        rw [← hp4.1 r a b]
        exact funext fun j => funext fun c => (if_neg (fun g => b g.1)).trans (if_neg (fun g => a g.1))
      · exact hp6.2.1.trans hp4.2
      · rw [q_i_e, q_upd_ne (by decide), hp6.2.2 3 (by decide)]
        show upd (upd (M4.1 21 0 0) 3 (nI 0)) 1 (nI (s_h1 h)) 3 = nI 0
        rw [q_upd_ne (by decide), q_upd_eq]
      · rw [q_i_e, q_upd_ne (by decide), hp6.2.2 1 (by decide)]
        show upd (upd (M4.1 21 0 0) 3 (nI 0)) 1 (nI (s_h1 h)) 1 = _
        rw [q_upd_eq]
      · rw [q_i_e, q_upd_eq]
      · rw [q_i_r (show 22 ≠ 21 by decide)]
        exact e6
    · have e4 : q_bi ((s_pl (g_W n tx).2.2 ((q_sa M1 (22, 0, 0) (s_cp (M.1 22 0 0) 0 9)).1 22 0 0)).1 = true) = nI 0 := q_bi_f cp
      rw [e4]
      refine And.intro (fun _ => ?_) (fun g => absurd nI_0 g)
      exact back (nI 1) (nI 0) 2 M3 hp3 hb (by decide) (fun _ => hB cw.1 cw.2 cp) (fun g => absurd g (by decide))
  · rw [q_bi_f (show ¬ ((g_wh tx n (n + 1) 0 []).1 = true ∧ (g_wh tx n (n + 1) 0 []).2.1 = n) from cw)]
    refine And.intro (fun _ => ?_) (fun g => absurd nI_0 g)
    exact back (nI 0) (nI 0) 1 _ hp2 (fun i hi => rfl) (by decide) (fun _ => hA cw) (fun g => absurd g (by decide))
abbrev pX4_save2 : Q_P := fun av M K KX => ∃ (S : Nat → Int32) (h : Nat) (G : Nat → Nat → Int32) (kb : Nat → Int32) (T : Nat → Nat → Int32) (n : Nat) (tx : Nat → Nat), CV M S h G kb T n tx ∧ av = [.inr (.inl (3, 0, 0)), .inr (.inl (10, 0, 0))] ∧ ∀ M', CV M' S (s_h1 h) (s_hG h G S) kb T n tx → q_fx M M' → (∀ U, RC 1 M U → RC 1 M' U) → K none M'
theorem cX4_save2_ct {l : Launch} {b : Bool} (hl0 : l.stackTraces = false) : q_Ct l b 26 pX4_save2 := by
  refine q_meth (by decide +kernel) hl0 TX4_save kX4_save ?_
  intro av M K KX hwf
  rintro ⟨S, h, G, kb, T, n, tx, hc, rfl, hK⟩
  refine ⟨Nat.le_of_ble_eq_true rfl, fun Z hz hw => ?_⟩
  have main : ∀ (m : Nat) (G1 : Nat → Nat → Int32) (M1 : Q_M), m < 6 → CV M1 S m G1 kb T n tx → q_fx M M1 → (∀ U, RC 1 M U → RC 1 M1 U) → (∀ M', CV M' S (m + 1) (fun i => if i = m then S else G1 i) kb T n tx → q_fx M M' → (∀ U, RC 1 M U → RC 1 M' U) → K none M') → Z 0 13 [(0, .inr (.inl (3, 0, 0))), (1, .inr (.inl (10, 0, 0)))] [] M1 := by
    intro m G1 M1 hm hc hfx hr hK
    obtain ⟨hR, hpl, ⟨h6, hh, hF, hi, hG⟩, hkv, hbv⟩ := hc
    have f4 := hF m hm
    apply hz [] 60
    refine Exists.intro m ⟨hh, hm, ?_⟩
    refine Exists.intro _ ⟨cX7_copyFrom_ct hl0, M1.2.1 4 0 0 m, 0, S, by omega, hR, hpl _ (by omega), rfl, fun M2 h1 h2 => ?_⟩
    have e3 : M2.1 3 0 0 0 = nI m := by rw [q_sm_r h2 (by decide)]; exact hh
    have rr : ∀ r, 10 ≤ r → r ≤ 20 → (q_si M2 (3, 0, 0) 0 (M2.1 3 0 0 0 + q_i 1)).1 r = M2.1 r := fun r g1 g2 => q_i_r (by omega)
    have up : ∀ {j : Nat} {U : Nat → Int32}, RC j M2 U → RC j (q_si M2 (3, 0, 0) 0 (M2.1 3 0 0 0 + q_i 1)) U := fun g => RC_rows rr rfl g
    refine hK _ ⟨up (RC_fr' h2 (by omega) hR), fun j hj => CV_pl hpl h2 h1.2.2.1.1 j hj, ⟨by omega, ?_, ?_, ?_, ?_⟩, ?_, ?_⟩ (q_fx_tr hfx (q_fx_si (q_fx_sm h2) (by decide))) (fun U g => up (RC_fr' h2 (by omega) (hr U g)))
    · rw [q_i_e, q_upd_eq, e3]
      exact nI_add m 1
    · rw [q_i_2, q_sm_f h2 (by decide)]
      exact hF
    · rw [q_i_2, q_sm_f h2 (by decide)]
      exact hi
    · intro i hi2
      rw [q_i_2, q_sm_f h2 (by decide)]
      show RC (M1.2.1 4 0 0 i) _ (if i = m then S else G1 i)
      by_cases c : i = m
      · rw [if_pos c, c]
        exact up h1
      · rw [if_neg c]
        exact up (RC_fr' h2 (fun g => c (hi i m (by omega) hm g)) (hG i (by omega)))
    · intro k hk
      rw [q_i_2, q_i_r (show 2 ≠ 3 by decide), q_sm_r h2 (by decide), q_sm_f h2 (by decide)]
      obtain ⟨a, b, c, d⟩ := hkv k hk
      exact ⟨a, b, c, fun e => up (RC_fr' h2 (by omega) (d e))⟩
    · unfold BV
      rw [q_i_r (show 5 ≠ 3 by decide), q_i_r (show 6 ≠ 3 by decide), q_sm_r h2 (by decide), q_sm_r h2 (by decide)]
      exact hbv
  have h6 := hc.2.2.1.1
  have e3 := hc.2.2.1.2.1
  unfold s_h1 s_hG at hK
  apply hz [13] 60
  refine And.intro (fun (g : M.1 3 0 0 0 < nI 6) => ?_) (fun (g : ¬ M.1 3 0 0 0 < nI 6) => ?_)
  · rw [e3, nI_ltI (by omega) (by omega)] at g
    simp only [if_neg (show ¬ h = 6 by omega)] at hK
    exact main h G M (by omega) hc q_fx_rfl (fun _ g => g) hK
  · rw [e3, nI_ltI (by omega) (by omega)] at g
    have g6 : h = 6 := by omega
    simp only [if_pos g6] at hK
    refine Exists.intro _ ⟨cX4_dropOldest_ct hl0, rfl, ?_⟩
    obtain ⟨hR, hpl, ⟨-, hh, hF, hi, hG⟩, hkv, hbv⟩ := hc
    have rr : ∀ r, 10 ≤ r → r ≤ 20 → (q_si (q_rh M (d_cf (M.2.1 4 0 0) 0 6)) (3, 0, 0) 0 (nI 5)).1 r = M.1 r := fun r g1 g2 => q_i_r (by omega)
    have r11 : (q_si (q_rh M (d_cf (M.2.1 4 0 0) 0 6)) (3, 0, 0) 0 (nI 5)).2.1 11 = M.2.1 11 := q_rh_n (by decide)
    have up : ∀ {j : Nat} {U : Nat → Int32}, RC j M U → RC j (q_si (q_rh M (d_cf (M.2.1 4 0 0) 0 6)) (3, 0, 0) 0 (nI 5)) U := fun g => RC_rows rr r11 g
    have key : ∀ q, q < 6 → d_cf (M.2.1 4 0 0) 0 6 q = M.2.1 4 0 0 (if q = 5 then 0 else q + 1) := by
      intro q hq
      unfold d_cf updN d_sh
      by_cases c : q = 5
      · rw [if_pos c, if_pos c]
      · rw [if_neg (by omega), if_neg c, if_pos (by omega)]
    refine main 5 (fun i => G (i + 1)) _ (by decide) ⟨up hR, fun j hj => by rw [r11]; exact hpl j hj, ⟨by decide, ?_, ?_, ?_, ?_⟩, ?_, ?_⟩ ⟨fun r g => q_i_r (by omega), rfl⟩ (fun _ g => up g) ?_
    · rw [q_i_e, q_upd_eq]
    · intro i hi6
      rw [q_i_2, q_rh_e, key i hi6]
      exact hF _ (by split <;> omega)
    · intro i i' h1 h2 e
      rw [q_i_2, q_rh_e, key i h1, key i' h2] at e
      have := hi _ _ (by split <;> omega) (by split <;> omega) e
      revert this
      split <;> split <;> omega
    · intro i hi5
      rw [q_i_2, q_rh_e, key i (by omega), if_neg (by omega)]
      exact up (hG (i + 1) (by omega))
    · intro k hk
      rw [q_i_2, q_rh_n (by decide), q_i_r (show 2 ≠ 3 by decide)]
      obtain ⟨a, b, c, d⟩ := hkv k hk
      exact ⟨a, b, c, fun e => up (d e)⟩
    · unfold BV
      rw [q_i_r (show 5 ≠ 3 by decide), q_i_r (show 6 ≠ 3 by decide)]
      exact hbv
    · intro M' h1 h2 h3
      refine hK M' ?_ h2 h3
      have eG : ∀ i, i < 6 → (if i < 5 then G (i + 1) else S) = (if i = 5 then S else G (i + 1)) := by
        intro i hi
        by_cases c : i < 5
        · rw [if_pos c, if_neg (by omega)]
        · rw [if_neg c, if_pos (by omega)]
      obtain ⟨a1, a2, ⟨b1, b2, b3, b4, b5⟩, a4, a5⟩ := h1
      exact ⟨a1, a2, ⟨b1, b2, b3, b4, fun i hi => by
        show RC (M'.2.1 4 0 0 i) M' (if i < 5 then G (i + 1) else S)
        rw [eG i hi]
        exact b5 i hi⟩, a4, a5⟩
abbrev pX8_play : Q_P := fun av M K KX => ∃ (S : Nat → Int32) (h : Nat) (G : Nat → Nat → Int32) (kb : Nat → Int32) (T : Nat → Nat → Int32) (n : Nat) (tx : Nat → Nat) (B : Nat), CV M S h G kb T n tx ∧ XV S B ∧ av = [.inr (.inl (0, 0, 0))] ∧ (¬ ((g_W n tx).1 = true ∧ (g_W n tx).2.1 = n) → ∀ M', CV M' S h G kb T n tx → q_fx M M' → KX 2 M') ∧ ((g_W n tx).1 = true → (g_W n tx).2.1 = n → ¬ (s_pl (g_W n tx).2.2 S).1 = true → ∀ M', CV M' S h G kb T n tx → q_fx M M' → KX 3 M') ∧ ((g_W n tx).1 = true → (g_W n tx).2.1 = n → (s_pl (g_W n tx).2.2 S).1 = true → ∀ M', CV M' (s_pl (g_W n tx).2.2 S).2 (s_h1 h) (s_hG h G S) kb T 0 tx → q_fx M M' → K (some (.inl ((s_pl (g_W n tx).2.2 S).2 0))) M')
theorem cX8_play_ct {l : Launch} {b : Bool} (hl0 : l.stackTraces = false) : q_Ct l b 83 pX8_play := by
  refine q_meth (by decide +kernel) hl0 TX8_play kX8_play ?_
  intro av M K KX hwf
  rintro ⟨S, h, G, kb, T, n, tx, B, hc, v, rfl, hA, hB, hC⟩
  refine ⟨Nat.le_of_ble_eq_true rfl, fun Z hz hw => ?_⟩
  have hn := hc.2.2.2.2.1
  have hvp := g_W_vp (n := n) (tx := tx)
  obtain ⟨hle, qq, LL, hrn, hwt, hwf'⟩ := g_wh_rn (tx := tx) (n := n) (n + 1) 0 0 0 0 0 [] (Nat.zero_le _) (by omega)
  rw [Nat.sub_zero] at hrn
  apply hz [33] 60
  refine Exists.intro _ ⟨cX2_isWhole_ct hl0, n, tx, hc.2.2.2.2, rfl, fun q L M1 he hq hd hf => ?_, fun at0 q L M1 he hq hf => ?_⟩
  · rw [hrn] at he
    have e1 : (g_W n tx).2.1 = n := congrArg (fun z => z.1) he
    have e2 : qq = q := congrArg (fun z => z.2.1) he
    have e3 : LL = L := congrArg (fun z => z.2.2) he
    subst e2
    subst e3
    have ew : (g_W n tx).1 = true := by
      cases hw1 : (g_W n tx).1 with
      | true => rfl
      | false => exact absurd (hwf' hw1) (by rw [hq]; decide)
    have eL : (g_W n tx).2.2 = LL ++ [(qq.2.1, qq.2.2.1, qq.2.2.2.1)] := (hwt ew).2
    have hp : PV M1 (g_W n tx).2.2 := by rw [eL]; exact hd.2
    have hB := hB ew e1
    have hC := hC ew e1
    clear hA eL hd hrn hwt hwf' he
    generalize (g_W n tx).2.2 = L at hp hvp hB hC
    have hc1 := CV_cf hc hf
    have hfx1 := q_fx_cf hf
    refine And.intro (fun g => absurd g q_n1) (fun _ => ?_)
    refine Exists.intro _ ⟨cX7_copyFrom_ct hl0, 1, 0, S, by omega, hc1.1, hc1.2.1 1 (by omega), rfl, fun M2 h1 h2 => ?_⟩
    have loop : ∀ (R A : List Q_P3) (S1 : Nat → Int32) (M3 : Q_M) (B1 : Nat), L = A ++ R → RC 1 M3 S1 → q_sm 1 M1 M3 → s_pl R S1 = s_pl L S → XV S1 B1 → Z 0 33 [(1, .inl (nI A.length)), (0, .inr (.inl (0, 0, 0)))] [] M3 := by
      intro R
      induction R with
      | nil =>
        intro A S1 M3 B1 hA hR hs he hv
        rw [List.append_nil] at hA
        subst hA
        have he : (true, S1) = s_pl L S := he
        rw [← he] at hB hC
        have hC := hC rfl
        have e2 : M3.1 5 0 0 2 = nI L.length := by rw [q_sm_r hs (by decide)]; exact hp.2.1
        apply hz [33] 100
        refine And.intro (fun _ => ?_) (fun (g : ¬ M3.1 5 0 0 2 ≤ nI L.length) => absurd (by rw [e2]; exact nI_le (Nat.le_refl _) (by have := hp.1; omega)) g)
        have hc3 := CV_trial hc1 hR hs
        refine Exists.intro _ ⟨cX4_save2_ct hl0, S, h, G, kb, T, n, tx, hc3, rfl, fun M4 hc4 hf4 hr4 => ?_⟩
        have hR4 := hr4 S1 hR
        refine Exists.intro _ ⟨cX7_copyFrom_ct hl0, 0, 1, S1, by omega, hR4, hc4.2.1 0 (by omega), rfl, fun M5 h5 h6 => ?_⟩
        have hc5 := CV_now hc4 h5 h6
        have hc6 : CV (q_si M5 (5, 0, 0) 0 (nI 0)) S1 (s_h1 h) (s_hG h G S) kb T 0 tx := CV_low hc5 (fun r g1 _ _ _ _ => q_i_r g1) rfl ⟨by omega, by rw [q_i_e, q_upd_eq], fun k hk => absurd hk (by omega)⟩
        have hh := hC _ hc6 (q_fx_tr hfx1 (q_fx_tr (q_fx_sm hs) (q_fx_tr hf4 (q_fx_si (q_fx_sm h6) (by decide)))))
        have eS : (q_si M5 (5, 0, 0) 0 (nI 0)).1 10 0 0 1 = S1 0 := hc6.1.2.1.2.1
        have hh : K (some (.inl (S1 0))) (q_si M5 (5, 0, 0) 0 (nI 0)) := hh
        rw [← eS] at hh
        exact hh
      | cons p R ih =>
        intro A S1 M3 B1 hA hR hs he hv
        have he : (if (s_do S1 p.1 p.2.1 p.2.2).1 = true then s_pl R (s_do S1 p.1 p.2.1 p.2.2).2 else (false, (s_do S1 p.1 p.2.1 p.2.2).2)) = s_pl L S := he
        have hvp1 := hvp p (by rw [hA]; exact List.mem_append_right _ List.mem_cons_self)
        have hlen : A.length < L.length := by rw [hA, List.length_append, List.length_cons]; omega
        have hi : L[A.length]? = some p := by rw [hA, List.getElem?_append_right (Nat.le_refl _), Nat.sub_self]; rfl
        have hp3 : PV M3 L := PV_cf hp (fun r hr => q_sm_r hs (by omega))
        obtain ⟨p60, p2, p3⟩ := id hp3
        obtain ⟨a1, a2, a3⟩ := p3 _ _ hi
        have hd := XV_do (k := p.1) (x := p.2.1) (y := p.2.2) hR.1 hvp1 hv
        apply hz [33] 100
        refine And.intro (fun (g : M3.1 5 0 0 2 ≤ nI A.length) => absurd g (by rw [p2, nI_leI (by omega) (by omega)]; omega)) (fun _ => ?_)
        refine Exists.intro A.length ⟨rfl, by omega, ?_⟩
        refine Exists.intro A.length ⟨rfl, by omega, ?_⟩
        refine Exists.intro A.length ⟨rfl, by omega, ?_⟩
        refine Exists.intro _ ⟨cX7_follow_ct hl0, 1, p.1, p.2.1, p.2.2, S1, hR, hvp1, ?_, fun M4 h3 h4 => ?_⟩
        · show ([.inr (.inl (10, 1, 0)), .inl (M3.1 7 0 0 A.length), .inl (M3.1 8 0 0 A.length), .inl (M3.1 9 0 0 A.length)] : List Q_V) = _
          rw [a1, a2, a3]
        by_cases cd : (s_do S1 p.1 p.2.1 p.2.2).1 = true
        · rw [if_pos cd] at he
          rw [q_bi_t cd]
          refine And.intro (fun g => absurd g q_n1) (fun _ => ?_)
          have hh := ih (A ++ [p]) _ M4 _ (by rw [hA, List.append_assoc]; rfl) h3 (q_sm_tr hs h4) he hd.1
          rw [List.length_append] at hh
          have hh : Z 0 33 [(1, .inl (nI (A.length + 1))), (0, .inr (.inl (0, 0, 0)))] [] M4 := hh
          rw [← nI_add] at hh
          exact hh
        · rw [if_neg cd] at he
          rw [q_bi_f cd]
          refine And.intro (fun _ => ?_) (fun g => absurd nI_0 g)
          rw [← he] at hB
          exact hB (by show ¬ false = true; decide) M4 (CV_trial hc1 h3 (q_sm_tr hs h4)) (q_fx_tr hfx1 (q_fx_sm (q_sm_tr hs h4)))
    exact loop L [] S M2 B rfl h1 h2 rfl v
  · rw [hrn] at he
    have e1 : (g_W n tx).2.1 = at0 := congrArg (fun z => z.1) he
    have e2 : qq = q := congrArg (fun z => z.2.1) he
    subst e2
    refine And.intro (fun _ => ?_) (fun g => absurd nI_0 g)
    exact hA (fun g => hq ⟨e1.symm.trans g.2, (hwt g.1).1⟩) M1 (CV_cf hc hf) (q_fx_cf hf)
