-- THE POOL: STATES SAVED, KEPT, AND THE BUFFER
def HV (M : Q_M) (h : Nat) (G : Nat → Nat → Int32) : Prop := h ≤ 6 ∧ M.1 3 0 0 0 = nI h ∧ (∀ i, i < 6 → 4 ≤ M.2.1 4 0 0 i ∧ M.2.1 4 0 0 i < 10) ∧ (∀ i i', i < 6 → i' < 6 → M.2.1 4 0 0 i = M.2.1 4 0 0 i' → i = i') ∧ ∀ i, i < h → RC (M.2.1 4 0 0 i) M (G i)
def KV (M : Q_M) (kb : Nat → Int32) (T : Nat → Nat → Int32) : Prop := ∀ k, k < 2 → M.2.1 1 0 0 k = 2 + k ∧ M.1 2 0 0 k = kb k ∧ q_bit (kb k) ∧ (kb k = nI 1 → RC (2 + k) M (T k))
def BV (M : Q_M) (n : Nat) (tx : Nat → Nat) : Prop := n ≤ 60 ∧ M.1 5 0 0 0 = nI n ∧ ∀ k, k < n → M.1 6 0 0 k = nI (tx k) ∧ 33 ≤ tx k ∧ tx k ≤ 126
def CV (M : Q_M) (S : Nat → Int32) (h : Nat) (G : Nat → Nat → Int32) (kb : Nat → Int32) (T : Nat → Nat → Int32) (n : Nat) (tx : Nat → Nat) : Prop := RC 0 M S ∧ (∀ j, j < 10 → r_pl (M.2.1 11 j 0)) ∧ HV M h G ∧ KV M kb T ∧ BV M n tx
/-- the reference's cells are the same -/
def q_fx (M M' : Q_M) : Prop := (∀ r, 21 ≤ r → M'.1 r = M.1 r) ∧ M'.2.2 = M.2.2
theorem q_fx_rfl {M : Q_M} : q_fx M M := ⟨fun _ _ => rfl, rfl⟩
theorem q_fx_tr {M M1 M2 : Q_M} (h : q_fx M M1) (h2 : q_fx M1 M2) : q_fx M M2 := ⟨fun r g => (h2.1 r g).trans (h.1 r g), h2.2.trans h.2⟩
theorem q_fx_sm {j : Nat} {M M' : Q_M} (h : q_sm j M M') : q_fx M M' := ⟨fun r g => funext fun j' => funext fun c => h.1 r j' c (fun e => by omega), h.2.2⟩
theorem q_fx_si {r j c k : Nat} {x : Int32} {M M1 : Q_M} (h : q_fx M M1) (hr : r < 21) : q_fx M (q_si M1 (r, j, c) k x) := q_fx_tr h ⟨fun r' g => q_i_r (by omega), rfl⟩
theorem q_sm_r {j r : Nat} {M M' : Q_M} (h : q_sm j M M') (hr : r < 10) : M'.1 r = M.1 r := funext fun j' => funext fun c => h.1 r j' c (fun e => by omega)
theorem q_sm_f {j r : Nat} {M M' : Q_M} (h : q_sm j M M') (hr : r ≠ 11) : M'.2.1 r = M.2.1 r := funext fun j' => funext fun c => h.2.1 r j' c (fun e => hr e.1)
theorem q_sm_p {j j' : Nat} {M M' : Q_M} (h : q_sm j M M') (hj : j' ≠ j) : M'.2.1 11 j' 0 = M.2.1 11 j' 0 := h.2.1 11 j' 0 (fun e => hj e.2)
theorem RC_fr' {j j' : Nat} {M M' : Q_M} {S : Nat → Int32} (h : q_sm j M M') (hj : j' ≠ j) (hR : RC j' M S) : RC j' M' S := ⟨hR.1, r_fr h hj hR.2⟩
theorem RC_rows {j : Nat} {M M' : Q_M} {S : Nat → Int32} (e1 : ∀ r, 10 ≤ r → r ≤ 20 → M'.1 r = M.1 r) (e2 : M'.2.1 11 = M.2.1 11) (hR : RC j M S) : RC j M' S := by
  refine ⟨hR.1, ?_⟩
  have h := hR.2
  unfold RC0 at h ⊢
  rw [e1 10 (by omega) (by omega), e1 12 (by omega) (by omega), e1 13 (by omega) (by omega), e1 14 (by omega) (by omega), e1 15 (by omega) (by omega), e1 16 (by omega) (by omega), e1 17 (by omega) (by omega), e1 18 (by omega) (by omega), e1 19 (by omega) (by omega), e1 20 (by omega) (by omega), e2]
  exact h
section CV
variable {M M' : Q_M} {S S' : Nat → Int32} {h : Nat} {G : Nat → Nat → Int32} {kb : Nat → Int32} {T : Nat → Nat → Int32} {n : Nat} {tx : Nat → Nat}
theorem CV_pl {j : Nat} (h2 : ∀ j, j < 10 → r_pl (M.2.1 11 j 0)) (hs : q_sm j M M') (hj : r_pl (M'.2.1 11 j 0)) : ∀ j, j < 10 → r_pl (M'.2.1 11 j 0) := by
  intro j' hj'
  by_cases c : j' = j
  · rw [c]
    exact hj
  · rw [q_sm_p hs c]
    exact h2 j' hj'
theorem BV_sm {j : Nat} (hb : BV M n tx) (hs : q_sm j M M') : BV M' n tx := by
  unfold BV
  rw [q_sm_r hs (by decide), q_sm_r hs (by decide)]
  exact hb
theorem KV_sm {j : Nat} (hb : KV M kb T) (hs : q_sm j M M') (hj : j = 0 ∨ j = 1 ∨ 4 ≤ j) : KV M' kb T := by
  intro k hk
  rw [q_sm_r hs (by decide), q_sm_f hs (by decide)]
  obtain ⟨a, b, c, d⟩ := hb k hk
  exact ⟨a, b, c, fun e => RC_fr' hs (by omega) (d e)⟩
theorem HV_sm {j : Nat} (hb : HV M h G) (hs : q_sm j M M') (hj : j < 4) : HV M' h G := by
  unfold HV
  rw [q_sm_r hs (by decide), q_sm_f hs (by decide)]
  obtain ⟨a, b, c, d, e⟩ := hb
  refine ⟨a, b, c, d, fun i hi => RC_fr' hs (by have := c i (by omega); omega) (e i hi)⟩
theorem CV_now (hc : CV M S h G kb T n tx) (hr : RC 0 M' S') (hs : q_sm 0 M M') : CV M' S' h G kb T n tx := ⟨hr, CV_pl hc.2.1 hs hr.2.2.1.1, HV_sm hc.2.2.1 hs (by decide), KV_sm hc.2.2.2.1 hs (Or.inl rfl), BV_sm hc.2.2.2.2 hs⟩
theorem CV_trial {S1 : Nat → Int32} (hc : CV M S h G kb T n tx) (hr : RC 1 M' S1) (hs : q_sm 1 M M') : CV M' S h G kb T n tx := ⟨RC_fr' hs (by decide) hc.1, CV_pl hc.2.1 hs hr.2.2.1.1, HV_sm hc.2.2.1 hs (by decide), KV_sm hc.2.2.2.1 hs (Or.inr (Or.inl rfl)), BV_sm hc.2.2.2.2 hs⟩
end CV
def q_rh (M : Q_M) (f : Nat → Nat) : Q_M := (M.1, fun r j c => if r = 4 ∧ j = 0 ∧ c = 0 then f else M.2.1 r j c, M.2.2)
theorem q_rh_e {M : Q_M} {f : Nat → Nat} : (q_rh M f).2.1 4 0 0 = f := by
  show (if 4 = 4 ∧ 0 = 0 ∧ 0 = 0 then f else M.2.1 4 0 0) = f
  rw [if_pos ⟨rfl, rfl, rfl⟩]
theorem q_rh_n {M : Q_M} {f : Nat → Nat} {r : Nat} (h : r ≠ 4) : (q_rh M f).2.1 r = M.2.1 r := funext fun j => funext fun c => if_neg (fun e => h e.1)
theorem q_rh_id {M : Q_M} : q_rh M (M.2.1 4 0 0) = M := by
  refine Prod.ext rfl (Prod.ext (funext fun r => funext fun j' => funext fun c => ?_) rfl)
  show (if r = 4 ∧ j' = 0 ∧ c = 0 then M.2.1 4 0 0 else M.2.1 r j' c) = M.2.1 r j' c
  by_cases h : r = 4 ∧ j' = 0 ∧ c = 0
  · rw [if_pos h, h.1, h.2.1, h.2.2]
  · rw [if_neg h]
theorem q_rh_s {M : Q_M} {k x : Nat} {f : Nat → Nat} : q_sr (q_rh M f) (4, 0, 0) k x = q_rh M (updN f k x) := by
  refine Prod.ext rfl (Prod.ext (funext fun r => funext fun j' => funext fun c => funext fun k' => ?_) rfl)
  show (if r = 4 ∧ j' = 0 ∧ c = 0 ∧ k' = k then x else (if r = 4 ∧ j' = 0 ∧ c = 0 then f else M.2.1 r j' c) k') = (if r = 4 ∧ j' = 0 ∧ c = 0 then updN f k x else M.2.1 r j' c) k'
  by_cases h : r = 4 ∧ j' = 0 ∧ c = 0
  · rw [if_pos h, if_pos h]
    show _ = if k' = k then x else f k'
    by_cases g : k' = k
    · rw [if_pos ⟨h.1, h.2.1, h.2.2, g⟩, if_pos g]
    · rw [if_neg (fun e => g e.2.2.2), if_neg g]
  · rw [if_neg h, if_neg h, if_neg (fun e => h ⟨e.1, e.2.1, e.2.2.1⟩)]
/-- the saved states behind saving S, where h are saved -/
def s_hG (h : Nat) (G : Nat → Nat → Int32) (S : Nat → Int32) : Nat → Nat → Int32 := fun i => if h = 6 then (if i < 5 then G (i + 1) else S) else if i = h then S else G i
abbrev pX4_dropOldest : Q_P := fun av M K KX => av = [.inr (.inl (3, 0, 0))] ∧ K none (q_si (q_rh M (d_cf (M.2.1 4 0 0) 0 6)) (3, 0, 0) 0 (nI 5))
theorem cX4_dropOldest_ct {l : Launch} {b : Bool} (hl0 : l.stackTraces = false) : q_Ct l b 27 pX4_dropOldest := by
  refine q_meth (by decide +kernel) hl0 TX4_dropOldest kX4_dropOldest ?_
  intro av M K KX hwf
  rintro ⟨rfl, hK⟩
  refine ⟨Nat.le_of_ble_eq_true rfl, fun Z hz hw => ?_⟩
  have loop : ∀ (d i : Nat), i + d = 6 → 0 < i → Z 0 9 [(2, .inl (nI i)), (1, .inr (.inl (10, M.2.1 4 0 0 0, 0))), (0, .inr (.inl (3, 0, 0)))] [] (q_rh M (d_sh (M.2.1 4 0 0) 0 i)) := by
    intro d
    induction d with
    | zero =>
      intro i hi hpi
      obtain rfl : i = 6 := by omega
      apply hz [9] 60
      refine And.intro (fun _ => ?_) (fun g => absurd (show nI 6 ≤ nI 6 from nI_le (by omega) (by omega)) g)
      refine Exists.intro 5 (Exists.intro (M.2.1 4 0 0 0) ⟨rfl, by decide, rfl, ?_⟩)
      rw [q_rh_s]
      exact hK
    | succ d ih =>
      intro i hi hpi
      apply hz [9] 60
      refine And.intro (fun (g : nI 6 ≤ nI i) => absurd ((nI_leI (by omega) (by omega)).mp g) (by omega)) (fun _ => ?_)
      refine Exists.intro i ⟨rfl, by omega, ?_⟩
      refine Exists.intro (i - 1) (Exists.intro (d_sh (M.2.1 4 0 0) 0 i i) ⟨show nI i - nI 1 = nI (i - 1) from pk_sub (by omega), by omega, ?_, ?_⟩)
      · show ((10, (q_rh M (d_sh (M.2.1 4 0 0) 0 i)).2.1 4 0 0 i, 0) : Q_Id) = (10, _, 0)
        rw [q_rh_e]
      · rw [q_rh_s, d_sh_1 hpi]
        have h := ih (i + 1) (by omega) (by omega)
        rw [← nI_add i 1] at h
        exact h
  apply hz [9] 60
  refine Exists.intro 0 ⟨rfl, by decide, ?_⟩
  have h := loop 5 1 (by omega) (by omega)
  rw [d_sh_0, q_rh_id] at h
  exact h
abbrev pX4_save : Q_P := fun av M K KX => ∃ (S : Nat → Int32) (h : Nat) (G : Nat → Nat → Int32) (kb : Nat → Int32) (T : Nat → Nat → Int32) (n : Nat) (tx : Nat → Nat), CV M S h G kb T n tx ∧ av = [.inr (.inl (3, 0, 0)), .inr (.inl (10, 0, 0))] ∧ ∀ M', CV M' S (s_h1 h) (s_hG h G S) kb T n tx → q_fx M M' → K none M'
theorem cX4_save_ct {l : Launch} {b : Bool} (hl0 : l.stackTraces = false) : q_Ct l b 26 pX4_save := by
  refine q_meth (by decide +kernel) hl0 TX4_save kX4_save ?_
  intro av M K KX hwf
  rintro ⟨S, h, G, kb, T, n, tx, hc, rfl, hK⟩
  refine ⟨Nat.le_of_ble_eq_true rfl, fun Z hz hw => ?_⟩
  have main : ∀ (m : Nat) (G1 : Nat → Nat → Int32) (M1 : Q_M), m < 6 → CV M1 S m G1 kb T n tx → q_fx M M1 → (∀ M', CV M' S (m + 1) (fun i => if i = m then S else G1 i) kb T n tx → q_fx M M' → K none M') → Z 0 13 [(0, .inr (.inl (3, 0, 0))), (1, .inr (.inl (10, 0, 0)))] [] M1 := by
    intro m G1 M1 hm hc hfx hK
    obtain ⟨hR, hpl, ⟨h6, hh, hF, hi, hG⟩, hkv, hbv⟩ := hc
    have f4 := hF m hm
    apply hz [] 60
    refine Exists.intro m ⟨hh, hm, ?_⟩
    refine Exists.intro _ ⟨cX7_copyFrom_ct hl0, M1.2.1 4 0 0 m, 0, S, by omega, hR, hpl _ (by omega), rfl, fun M2 h1 h2 => ?_⟩
    have e3 : M2.1 3 0 0 0 = nI m := by rw [q_sm_r h2 (by decide)]; exact hh
    have rr : ∀ r, 10 ≤ r → r ≤ 20 → (q_si M2 (3, 0, 0) 0 (M2.1 3 0 0 0 + q_i 1)).1 r = M2.1 r := fun r g1 g2 => q_i_r (by omega)
    have up : ∀ {j : Nat} {U : Nat → Int32}, RC j M2 U → RC j (q_si M2 (3, 0, 0) 0 (M2.1 3 0 0 0 + q_i 1)) U := fun g => RC_rows rr rfl g
    refine hK _ ⟨up (RC_fr' h2 (by omega) hR), fun j hj => CV_pl hpl h2 h1.2.2.1.1 j hj, ⟨by omega, ?_, ?_, ?_, ?_⟩, ?_, ?_⟩ (q_fx_tr hfx (q_fx_si (q_fx_sm h2) (by decide)))
    · rw [q_i_e, q_upd_eq, e3]
      exact nI_add m 1
    · rw [q_i_2, q_sm_f h2 (by decide)]
      exact hF
    · rw [q_i_2, q_sm_f h2 (by decide)]
      exact hi
    · intro i hi2
      rw [q_i_2, q_sm_f h2 (by decide)]
      show RC (M1.2.1 4 0 0 i) _ (if i = m then S else G1 i)
      by_cases c : i = m
      · rw [if_pos c, c]
        exact up h1
      · rw [if_neg c]
        exact up (RC_fr' h2 (fun g => c (hi i m (by omega) hm g)) (hG i (by omega)))
    · intro k hk
      rw [q_i_2, q_i_r (show 2 ≠ 3 by decide), q_sm_r h2 (by decide), q_sm_f h2 (by decide)]
      obtain ⟨a, b, c, d⟩ := hkv k hk
      exact ⟨a, b, c, fun e => up (RC_fr' h2 (by omega) (d e))⟩
    · unfold BV
      rw [q_i_r (show 5 ≠ 3 by decide), q_i_r (show 6 ≠ 3 by decide), q_sm_r h2 (by decide), q_sm_r h2 (by decide)]
      exact hbv
  have h6 := hc.2.2.1.1
  have e3 := hc.2.2.1.2.1
  unfold s_h1 s_hG at hK
  apply hz [13] 60
  refine And.intro (fun (g : M.1 3 0 0 0 < nI 6) => ?_) (fun (g : ¬ M.1 3 0 0 0 < nI 6) => ?_)
  · rw [e3, nI_ltI (by omega) (by omega)] at g
    simp only [if_neg (show ¬ h = 6 by omega)] at hK
    exact main h G M (by omega) hc q_fx_rfl hK
  · rw [e3, nI_ltI (by omega) (by omega)] at g
    have g6 : h = 6 := by omega
    simp only [if_pos g6] at hK
    refine Exists.intro _ ⟨cX4_dropOldest_ct hl0, rfl, ?_⟩
    obtain ⟨hR, hpl, ⟨-, hh, hF, hi, hG⟩, hkv, hbv⟩ := hc
    have rr : ∀ r, 10 ≤ r → r ≤ 20 → (q_si (q_rh M (d_cf (M.2.1 4 0 0) 0 6)) (3, 0, 0) 0 (nI 5)).1 r = M.1 r := fun r g1 g2 => q_i_r (by omega)
    have r11 : (q_si (q_rh M (d_cf (M.2.1 4 0 0) 0 6)) (3, 0, 0) 0 (nI 5)).2.1 11 = M.2.1 11 := q_rh_n (by decide)
    have up : ∀ {j : Nat} {U : Nat → Int32}, RC j M U → RC j (q_si (q_rh M (d_cf (M.2.1 4 0 0) 0 6)) (3, 0, 0) 0 (nI 5)) U := fun g => RC_rows rr r11 g
    have key : ∀ q, q < 6 → d_cf (M.2.1 4 0 0) 0 6 q = M.2.1 4 0 0 (if q = 5 then 0 else q + 1) := by
      intro q hq
      unfold d_cf updN d_sh
      by_cases c : q = 5
      · rw [if_pos c, if_pos c]
      · rw [if_neg (by omega), if_neg c, if_pos (by omega)]
    refine main 5 (fun i => G (i + 1)) _ (by decide) ⟨up hR, fun j hj => by rw [r11]; exact hpl j hj, ⟨by decide, ?_, ?_, ?_, ?_⟩, ?_, ?_⟩ ⟨fun r g => q_i_r (by omega), rfl⟩ ?_
    · rw [q_i_e, q_upd_eq]
    · intro i hi6
      rw [q_i_2, q_rh_e, key i hi6]
      exact hF _ (by split <;> omega)
    · intro i i' h1 h2 e
      rw [q_i_2, q_rh_e, key i h1, key i' h2] at e
      have := hi _ _ (by split <;> omega) (by split <;> omega) e
      revert this
      split <;> split <;> omega
    · intro i hi5
      rw [q_i_2, q_rh_e, key i (by omega), if_neg (by omega)]
      exact up (hG (i + 1) (by omega))
    · intro k hk
      rw [q_i_2, q_rh_n (by decide), q_i_r (show 2 ≠ 3 by decide)]
      obtain ⟨a, b, c, d⟩ := hkv k hk
      exact ⟨a, b, c, fun e => up (d e)⟩
    · unfold BV
      rw [q_i_r (show 5 ≠ 3 by decide), q_i_r (show 6 ≠ 3 by decide)]
      exact hbv
    · intro M' h1 h2
      refine hK M' ?_ h2
      have eG : ∀ i, i < 6 → (if i < 5 then G (i + 1) else S) = (if i = 5 then S else G (i + 1)) := by
        intro i hi
        by_cases c : i < 5
        · rw [if_pos c, if_neg (by omega)]
        · rw [if_neg c, if_pos (by omega)]
      obtain ⟨a1, a2, ⟨b1, b2, b3, b4, b5⟩, a4, a5⟩ := h1
      exact ⟨a1, a2, ⟨b1, b2, b3, b4, fun i hi => by
        show RC (M'.2.1 4 0 0 i) M' (if i < 5 then G (i + 1) else S)
        rw [eG i hi]
        exact b5 i hi⟩, a4, a5⟩
abbrev pX4_restore : Q_P := fun av M K KX => ∃ (S : Nat → Int32) (h : Nat) (G : Nat → Nat → Int32) (kb : Nat → Int32) (T : Nat → Nat → Int32) (n : Nat) (tx : Nat → Nat), CV M S h G kb T n tx ∧ 0 < h ∧ av = [.inr (.inl (3, 0, 0)), .inr (.inl (10, 0, 0))] ∧ ∀ M', CV M' (G (h - 1)) (h - 1) G kb T n tx → q_fx M M' → K none M'
theorem cX4_restore_ct {l : Launch} {b : Bool} (hl0 : l.stackTraces = false) : q_Ct l b 28 pX4_restore := by
  refine q_meth (by decide +kernel) hl0 TX4_restore kX4_restore ?_
  intro av M K KX hwf
  rintro ⟨S, h, G, kb, T, n, tx, hc, hh0, rfl, hK⟩
  refine ⟨Nat.le_of_ble_eq_true rfl, fun Z hz hw => ?_⟩
  obtain ⟨hR, hpl, ⟨h6, hh, hF, hi, hG⟩, hkv, hbv⟩ := hc
  have f4 := hF (h - 1) (by omega)
  have e1 : M.1 3 0 0 0 - q_i 1 = nI (h - 1) := by
    rw [hh]
    exact pk_sub (b := 1) (by omega)
  have e0 : (q_si M (3, 0, 0) 0 (M.1 3 0 0 0 - q_i 1)).1 3 0 0 0 = nI (h - 1) := by
    rw [q_i_e, q_upd_eq, e1]
  have rr : ∀ r, 10 ≤ r → r ≤ 20 → (q_si M (3, 0, 0) 0 (M.1 3 0 0 0 - q_i 1)).1 r = M.1 r := fun r g1 g2 => q_i_r (by omega)
  have up : ∀ {j : Nat} {U : Nat → Int32}, RC j M U → RC j (q_si M (3, 0, 0) 0 (M.1 3 0 0 0 - q_i 1)) U := fun g => RC_rows rr rfl g
  have hc1 : CV (q_si M (3, 0, 0) 0 (M.1 3 0 0 0 - q_i 1)) S (h - 1) G kb T n tx := by
    refine ⟨up hR, hpl, ⟨by omega, e0, hF, hi, fun i hi2 => up (hG i (by omega))⟩, fun k hk => ?_, ?_⟩
    · rw [q_i_r (show 2 ≠ 3 by decide)]
      obtain ⟨a, b, c, d⟩ := hkv k hk
      exact ⟨a, b, c, fun e => up (d e)⟩
    · unfold BV
      rw [q_i_r (show 5 ≠ 3 by decide), q_i_r (show 6 ≠ 3 by decide)]
      exact hbv
  apply hz [] 60
  refine And.intro (fun (g : M.1 3 0 0 0 ≤ nI 0) => absurd (by rw [hh] at g; exact (nI_leI (by omega) (by omega)).mp g) (show ¬ h ≤ 0 by omega)) (fun _ => ?_)
  refine Exists.intro (h - 1) ⟨e0, by omega, ?_⟩
  refine Exists.intro _ ⟨cX7_copyFrom_ct hl0, 0, M.2.1 4 0 0 (h - 1), G (h - 1), by omega, up (hG (h - 1) (by omega)), hpl 0 (by decide), rfl, fun M2 h1 h2 => ?_⟩
  exact hK M2 (CV_now hc1 h1 h2) (q_fx_tr (q_fx_si q_fx_rfl (by decide)) (q_fx_sm h2))
theorem s_rg_20 {a : Int32} : s_rg 0 19 a ↔ ¬ a < nI 0 ∧ a < nI 20 := by
  constructor
  · intro h
    obtain ⟨k, h1, h2, e⟩ := s_rg_n (by omega) (by omega) h
    rw [e]
    exact ⟨nI_pos (by omega), nI_lt (by omega) (by omega)⟩
  · intro h
    refine ⟨Int32.not_lt.mp h.1, ?_⟩
    have h2 := Int32.lt_iff_toInt_lt.mp h.2
    rw [nI_toInt (by omega)] at h2
    rw [Int32.le_iff_toInt_le, nI_toInt (by omega)]
    omega
theorem s_lp1_n {S : Nat → Int32} {a : Int32} (w : s_wf S) : s_lp1 S a ↔ ¬ a < nI 0 ∧ a < S 0 := by
  have wn := w.1
  have e : S 0 - nI 1 = nI (s_n S) - nI 1 := by rw [← wn.1]
  constructor
  · intro h
    refine ⟨Int32.not_lt.mpr h.1, ?_⟩
    have h2 := Int32.le_iff_toInt_le.mp h.2
    rw [e, pk_sub_toInt (by omega) (by omega)] at h2
    rw [wn.1, Int32.lt_iff_toInt_lt, nI_toInt (by omega)]
    omega
  · intro h
    refine ⟨Int32.not_lt.mp h.1, ?_⟩
    have h2 := h.2
    rw [wn.1, Int32.lt_iff_toInt_lt, nI_toInt (by omega)] at h2
    rw [e, Int32.le_iff_toInt_le, pk_sub_toInt (by omega) (by omega)]
    omega
theorem s_lp1_e {S : Nat → Int32} {a : Int32} (w : s_wf S) (h : s_lp1 S a) : ∃ p : Nat, p < s_n S ∧ a = nI p := by
  have wn := w.1
  obtain ⟨h1, h2⟩ := (s_lp1_n w).mp h
  have l1 := Int32.le_iff_toInt_le.mp (Int32.not_lt.mp h1)
  rw [wn.1, Int32.lt_iff_toInt_lt, nI_toInt (by omega)] at h2
  rw [nI_toInt (by omega)] at l1
  refine ⟨a.toInt.toNat, by omega, ?_⟩
  apply Int32.toInt_inj.mp
  rw [nI_toInt (by omega)]
  omega
abbrev pX8_checkSquirrel : Q_P := fun av M K KX => ∃ a : Int32, av = [.inl a] ∧ (s_rg 0 19 a → K none M) ∧ (¬ s_rg 0 19 a → KX 1 M)
theorem cX8_checkSquirrel_ct {l : Launch} {b : Bool} (hl0 : l.stackTraces = false) : q_Ct l b 139 pX8_checkSquirrel := by
  refine q_meth (by decide +kernel) hl0 TX8_checkSquirrel kX8_checkSquirrel ?_
  intro av M K KX hwf
  rintro ⟨a, rfl, hK, hX⟩
  refine ⟨Nat.le_of_ble_eq_true rfl, fun Z hz hw => ?_⟩
  apply hz [] 60
  refine And.intro (fun (g : a < nI 0) => hX (fun c => (s_rg_20.mp c).1 g)) (fun (g : ¬ a < nI 0) => ?_)
  exact And.intro (fun (g2 : a < nI 20) => hK (s_rg_20.mpr ⟨g, g2⟩)) (fun (g2 : ¬ a < nI 20) => hX (fun c => g2 (s_rg_20.mp c).2))
abbrev pX8_checkRange : Q_P := fun av M K KX => ∃ v lo hi : Int32, av = [.inl v, .inl lo, .inl hi] ∧ (lo ≤ v ∧ v ≤ hi → K none M) ∧ (¬ (lo ≤ v ∧ v ≤ hi) → KX 2 M)
theorem cX8_checkRange_ct {l : Launch} {b : Bool} (hl0 : l.stackTraces = false) : q_Ct l b 140 pX8_checkRange := by
  refine q_meth (by decide +kernel) hl0 TX8_checkRange kX8_checkRange ?_
  intro av M K KX hwf
  rintro ⟨v, lo, hi, rfl, hK, hX⟩
  refine ⟨Nat.le_of_ble_eq_true rfl, fun Z hz hw => ?_⟩
  apply hz [] 60
  refine And.intro (fun (g : v < lo) => hX (fun c => absurd g (Int32.not_lt.mpr c.1))) (fun (g : ¬ v < lo) => ?_)
  exact And.intro (fun (g2 : v ≤ hi) => hK ⟨Int32.not_lt.mp g, g2⟩) (fun (g2 : ¬ v ≤ hi) => hX (fun c => g2 c.2))
abbrev pX8_checkPlace : Q_P := fun av M K KX => ∃ (S : Nat → Int32) (a : Int32), RC 0 M S ∧ av = [.inr (.inl (0, 0, 0)), .inl a] ∧ (s_lp1 S a → K none M) ∧ (¬ s_lp1 S a → KX 1 M)
theorem cX8_checkPlace_ct {l : Launch} {b : Bool} (hl0 : l.stackTraces = false) : q_Ct l b 141 pX8_checkPlace := by
  refine q_meth (by decide +kernel) hl0 TX8_checkPlace kX8_checkPlace ?_
  intro av M K KX hwf
  rintro ⟨S, a, hR, rfl, hK, hX⟩
  refine ⟨Nat.le_of_ble_eq_true rfl, fun Z hz hw => ?_⟩
  have e1 : M.1 10 0 0 1 = S 0 := hR.2.1.2.1
  apply hz [] 60
  refine And.intro (fun (g : a < nI 0) => hX (fun c => ((s_lp1_n hR.1).mp c).1 g)) (fun (g : ¬ a < nI 0) => ?_)
  refine And.intro (fun (g2 : a < M.1 10 0 0 1) => hK ((s_lp1_n hR.1).mpr ⟨g, by rw [← e1]; exact g2⟩)) (fun (g2 : ¬ a < M.1 10 0 0 1) => hX (fun c => g2 ?_))
  rw [e1]
  exact ((s_lp1_n hR.1).mp c).2
abbrev pX8_placeWanted : Q_P := fun av M K KX => ∃ (S : Nat → Int32) (a : Int32), RC 0 M S ∧ av = [.inr (.inl (0, 0, 0)), .inl a] ∧ (∀ x p : Nat, x < 20 → a = nI x → s_lk S (nI x) (s_n S) = some p → K (some (.inl (nI p))) M) ∧ (¬ s_rg 0 19 a → KX 1 M) ∧ (s_rg 0 19 a → s_lk S a (s_n S) = none → KX 3 M)
theorem cX8_placeWanted_ct {l : Launch} {b : Bool} (hl0 : l.stackTraces = false) : q_Ct l b 142 pX8_placeWanted := by
  refine q_meth (by decide +kernel) hl0 TX8_placeWanted kX8_placeWanted ?_
  intro av M K KX hwf
  rintro ⟨S, a, hR, rfl, hK, hX, hX2⟩
  refine ⟨Nat.le_of_ble_eq_true rfl, fun Z hz hw => ?_⟩
  apply hz [] 60
  refine Exists.intro _ ⟨cX8_checkSquirrel_ct hl0, a, rfl, fun c => ?_, hX⟩
  obtain ⟨x, -, hx, e⟩ := s_rg_n (by omega) (by omega) c
  subst e
  have wn := hR.1.1.2
  refine Exists.intro _ ⟨cX7_placeWith_ct hl0, 0, S, nI x, hR, fun g => q_m1n (by omega) g.symm, rfl, ?_⟩
  cases hl : s_lk S (nI x) (s_n S) with
  | none => exact And.intro (fun _ => hX2 c hl) (fun g => absurd rfl g)
  | some p => exact And.intro (fun g => absurd (Eq.symm g) (q_m1n (by have := (s_lk_lt hl).1; omega))) (fun _ => hK x p (by omega) rfl hl)
abbrev pX8_queuePlaceWanted : Q_P := fun av M K KX => ∃ (S : Nat → Int32) (a : Int32), RC 0 M S ∧ av = [.inr (.inl (0, 0, 0)), .inl a] ∧ (∀ x p : Nat, x < 20 → a = nI x → s_qd S (nI x) (s_q S) = some p → K (some (.inl (nI p))) M) ∧ (¬ s_rg 0 19 a → KX 1 M) ∧ (s_rg 0 19 a → s_qd S a (s_q S) = none → KX 3 M)
theorem cX8_queuePlaceWanted_ct {l : Launch} {b : Bool} (hl0 : l.stackTraces = false) : q_Ct l b 143 pX8_queuePlaceWanted := by
  refine q_meth (by decide +kernel) hl0 TX8_queuePlaceWanted kX8_queuePlaceWanted ?_
  intro av M K KX hwf
  rintro ⟨S, a, hR, rfl, hK, hX, hX2⟩
  refine ⟨Nat.le_of_ble_eq_true rfl, fun Z hz hw => ?_⟩
  apply hz [] 60
  refine Exists.intro _ ⟨cX8_checkSquirrel_ct hl0, a, rfl, fun c => ?_, hX⟩
  obtain ⟨x, -, hx, e⟩ := s_rg_n (by omega) (by omega) c
  subst e
  have wq := hR.1.2.1.2
  refine Exists.intro _ ⟨cX5_placeIn_ct hl0, 0, S, nI x, hR, rfl, ?_⟩
  cases hl : s_qd S (nI x) (s_q S) with
  | none => exact And.intro (fun _ => hX2 c hl) (fun g => absurd rfl g)
  | some p => exact And.intro (fun g => absurd (Eq.symm g) (q_m1n (by have := (s_qd_lt hl).1; omega))) (fun _ => hK x p (by omega) rfl hl)
abbrev pX8_nextWanted : Q_P := fun av M K KX => ∃ (S : Nat → Int32), RC 0 M S ∧ av = [.inr (.inl (0, 0, 0))] ∧ (∀ p, s_nx S = some p → K (some (.inl (nI p))) M) ∧ (s_nx S = none → KX 3 M)
theorem cX8_nextWanted_ct {l : Launch} {b : Bool} (hl0 : l.stackTraces = false) : q_Ct l b 144 pX8_nextWanted := by
  refine q_meth (by decide +kernel) hl0 TX8_nextWanted kX8_nextWanted ?_
  intro av M K KX hwf
  rintro ⟨S, hR, rfl, hK, hX⟩
  refine ⟨Nat.le_of_ble_eq_true rfl, fun Z hz hw => ?_⟩
  have wn := hR.1.1.2
  apply hz [] 60
  refine Exists.intro _ ⟨cX7_placeOfNext_ct hl0, 0, S, hR, rfl, ?_⟩
  cases hl : s_nx S with
  | none => exact And.intro (fun _ => hX hl) (fun g => absurd rfl g)
  | some p => exact And.intro (fun g => absurd (Eq.symm g) (q_m1n (by have := s_nx_lt hl; omega))) (fun _ => hK p hl)
