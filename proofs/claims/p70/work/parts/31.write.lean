-- WRITING THE CLASS'S STATE
def updN (f : Nat → Nat) (k x : Nat) : Nat → Nat := fun i => if i = k then x else f i
def updc (C : Nat → Nat → Int32) (c : Nat) (g : Nat → Int32) : Nat → Nat → Int32 := fun i => if i = c then g else C i
theorem updc_e {C : Nat → Nat → Int32} {c : Nat} {g : Nat → Int32} : updc C c g c = g := if_pos rfl
theorem updc_n {C : Nat → Nat → Int32} {c c' : Nat} {g : Nat → Int32} (h : c' ≠ c) : updc C c g c' = C c' := if_neg h
theorem updc_u {C : Nat → Nat → Int32} {c : Nat} {g g' : Nat → Int32} : updc (updc C c g) c g' = updc C c g' := by
  funext i
  by_cases h : i = c
  · rw [h, updc_e, updc_e]
  · rw [updc_n h, updc_n h, updc_n h]
theorem updc_id {C : Nat → Nat → Int32} {c : Nat} : updc C c (C c) = C := by
  funext i
  by_cases h : i = c
  · rw [h, updc_e]
  · rw [updc_n h]
theorem q_i_r {M : Q_M} {r' j' c' k r : Nat} {x : Int32} (h : r ≠ r') : (q_si M (r', j', c') k x).1 r = M.1 r := funext fun j => funext fun c => funext fun k' => if_neg (fun g => h g.1)
theorem q_i_jj {M : Q_M} {r' j' c' k r j : Nat} {x : Int32} (h : j ≠ j') : (q_si M (r', j', c') k x).1 r j = M.1 r j := funext fun c => funext fun k' => if_neg (fun g => h g.2.1)
theorem q_i_e {M : Q_M} {r j c k : Nat} {x : Int32} : (q_si M (r, j, c) k x).1 r j c = upd (M.1 r j c) k x := q_si_at
theorem q_i_j {M : Q_M} {r j c k : Nat} {x : Int32} : (q_si M (r, j, c) k x).1 r j = updc (M.1 r j) c (upd (M.1 r j c) k x) := by
  funext c'
  by_cases h : c' = c
  · rw [h, updc_e]
    exact q_si_at
  · rw [updc_n h]
    exact funext fun k' => if_neg (fun g => h g.2.2.1)
theorem q_i_2 {M : Q_M} {i : Q_Id} {k : Nat} {x : Int32} : (q_si M i k x).2 = M.2 := rfl
theorem q_a_r {M : Q_M} {r' j' c' r : Nat} {f : Nat → Int32} (h : r ≠ r') : (q_sa M (r', j', c') f).1 r = M.1 r := funext fun j => funext fun c => if_neg (fun g => h g.1)
theorem q_a_e {M : Q_M} {r j c : Nat} {f : Nat → Int32} : (q_sa M (r, j, c) f).1 r j c = f := if_pos ⟨rfl, rfl, rfl⟩
theorem q_a_j {M : Q_M} {r j c : Nat} {f : Nat → Int32} : (q_sa M (r, j, c) f).1 r j = updc (M.1 r j) c f := by
  funext c'
  by_cases h : c' = c
  · rw [h, updc_e, q_a_e]
  · rw [updc_n h]
    exact if_neg (fun g => h g.2.2)
theorem q_a_2 {M : Q_M} {i : Q_Id} {f : Nat → Int32} : (q_sa M i f).2 = M.2 := rfl
def q_ra (M : Q_M) (j : Nat) (f : Nat → Nat) : Q_M := (M.1, fun r j' c => if r = 11 ∧ j' = j ∧ c = 0 then f else M.2.1 r j' c, M.2.2)
theorem q_ra_e {M : Q_M} {j : Nat} {f : Nat → Nat} : (q_ra M j f).2.1 11 j 0 = f := if_pos ⟨rfl, rfl, rfl⟩
theorem q_ra_1 {M : Q_M} {j : Nat} {f : Nat → Nat} : (q_ra M j f).1 = M.1 := rfl
theorem q_ra_id {M : Q_M} {j : Nat} : q_ra M j (M.2.1 11 j 0) = M := by
  refine Prod.ext rfl (Prod.ext (funext fun r => funext fun j' => funext fun c => ?_) rfl)
  show (if r = 11 ∧ j' = j ∧ c = 0 then M.2.1 11 j 0 else M.2.1 r j' c) = M.2.1 r j' c
  by_cases h : r = 11 ∧ j' = j ∧ c = 0
  · rw [if_pos h, h.1, h.2.1, h.2.2]
  · rw [if_neg h]
theorem q_ra_s {M : Q_M} {j k x : Nat} {f : Nat → Nat} : q_sr (q_ra M j f) (11, j, 0) k x = q_ra M j (updN f k x) := by
  refine Prod.ext rfl (Prod.ext (funext fun r => funext fun j' => funext fun c => funext fun k' => ?_) rfl)
  show (if r = 11 ∧ j' = j ∧ c = 0 ∧ k' = k then x else (if r = 11 ∧ j' = j ∧ c = 0 then f else M.2.1 r j' c) k') = (if r = 11 ∧ j' = j ∧ c = 0 then updN f k x else M.2.1 r j' c) k'
  by_cases h : r = 11 ∧ j' = j ∧ c = 0
  · rw [if_pos h, if_pos h]
    show _ = if k' = k then x else f k'
    by_cases g : k' = k
    · rw [if_pos ⟨h.1, h.2.1, h.2.2, g⟩, if_pos g]
    · rw [if_neg (fun e => g e.2.2.2), if_neg g]
  · rw [if_neg h, if_neg h, if_neg (fun e => h ⟨e.1, e.2.1, e.2.2.1⟩)]
/-- nothing but state j's cells changed -/
def q_sm (j : Nat) (M M' : Q_M) : Prop := (∀ r j' c, ¬ (10 ≤ r ∧ r ≤ 20 ∧ j' = j) → M'.1 r j' c = M.1 r j' c) ∧ (∀ r j' c, ¬ (r = 11 ∧ j' = j) → M'.2.1 r j' c = M.2.1 r j' c) ∧ M'.2.2 = M.2.2
theorem q_sm_rfl {j : Nat} {M : Q_M} : q_sm j M M := ⟨fun _ _ _ _ => rfl, fun _ _ _ _ => rfl, rfl⟩
theorem q_sm_tr {j : Nat} {M M1 M2 : Q_M} (h : q_sm j M M1) (h2 : q_sm j M1 M2) : q_sm j M M2 := ⟨fun r j' c g => (h2.1 r j' c g).trans (h.1 r j' c g), fun r j' c g => (h2.2.1 r j' c g).trans (h.2.1 r j' c g), h2.2.2.trans h.2.2⟩
theorem q_sm_si {j r c k : Nat} {x : Int32} {M M1 : Q_M} (h : q_sm j M M1) (h1 : 10 ≤ r) (h2 : r ≤ 20) : q_sm j M (q_si M1 (r, j, c) k x) := q_sm_tr h ⟨fun r' j' c' g => funext fun k' => if_neg (fun e => g ⟨by rw [e.1]; exact h1, by rw [e.1]; exact h2, e.2.1⟩), fun _ _ _ _ => rfl, rfl⟩
theorem q_sm_sa {j r c : Nat} {f : Nat → Int32} {M M1 : Q_M} (h : q_sm j M M1) (h1 : 10 ≤ r) (h2 : r ≤ 20) : q_sm j M (q_sa M1 (r, j, c) f) := q_sm_tr h ⟨fun r' j' c' g => if_neg (fun e => g ⟨by rw [e.1]; exact h1, by rw [e.1]; exact h2, e.2.1⟩), fun _ _ _ _ => rfl, rfl⟩
theorem q_sm_ra {j : Nat} {f : Nat → Nat} {M M1 : Q_M} (h : q_sm j M M1) : q_sm j M (q_ra M1 j f) := q_sm_tr h ⟨fun _ _ _ _ => rfl, fun r j' c g => if_neg (fun e => g ⟨e.1, e.2.1⟩), rfl⟩
/-- the other states keep their slots -/
theorem r_fr {j j' : Nat} {M M' : Q_M} {S : Nat → Int32} (h : q_sm j M M') (hj : j' ≠ j) (hR : RC0 j' M S) : RC0 j' M' S := by
  have e1 : ∀ r c, M'.1 r j' c = M.1 r j' c := fun r c => h.1 r j' c (fun g => hj g.2.2)
  have e2 : M'.2.1 11 j' 0 = M.2.1 11 j' 0 := h.2.1 11 j' 0 (fun g => hj g.2)
  have e3 : ∀ r, M'.1 r j' = M.1 r j' := fun r => funext (e1 r)
  unfold RC0 at hR ⊢
  rw [e1, e2, e3, e3, e1, e1, e1, e1, e1, e1, e1]
  exact hR
theorem r_cn_c {S S' : Nat → Int32} {p : Nat} {f g : Nat → Int32} (e : ∀ i, 1 ≤ i → i < 13 → S' (i + 12 * p) = S (i + 12 * p)) (h : r_cn S p f g) : r_cn S' p f g := by
  obtain ⟨⟨a1, a2, a3, a4⟩, ⟨a5, a6, a7, a8⟩, hn⟩ := h
  refine ⟨⟨by rw [e 1 (by omega) (by omega)]; exact a1, by rw [e 2 (by omega) (by omega)]; exact a2, by rw [e 4 (by omega) (by omega)]; exact a3, by rw [e 3 (by omega) (by omega)]; exact a4⟩, ⟨by rw [e 5 (by omega) (by omega)]; exact a5, by rw [e 6 (by omega) (by omega)]; exact a6, by rw [e 7 (by omega) (by omega)]; exact a7, by rw [e 8 (by omega) (by omega)]; exact a8⟩, fun k h1 h2 => ?_⟩
  unfold s_c at hn h2
  rw [e 8 (by omega) (by omega)] at h2
  rw [hn k h1 h2, show 9 + 12 * p + k = (9 + k) + 12 * p by omega, e (9 + k) (by omega) (by omega)]
theorem r_cs_set {F : Nat → Nat} {C N : Nat → Nat → Int32} {S S' : Nat → Int32} {p : Nat} {g h : Nat → Int32} (hcs : r_cs F C N S) (hp : p < s_n S) (hn : s_n S ≤ 12) (h0 : S' 0 = S 0) (e : ∀ q, q < 12 → q ≠ p → ∀ i, 1 ≤ i → i < 13 → S' (i + 12 * q) = S (i + 12 * q)) (hg : r_cn S' p g h) : r_cs F (updc C (F p) g) (updc N (F p) h) S' := by
  have hn' : s_n S' = s_n S := by
    unfold s_n
    rw [h0]
  refine ⟨hcs.1, fun q hq => ?_⟩
  rw [hn'] at hq
  by_cases c : q = p
  · rw [c, updc_e, updc_e]
    exact hg
  · have cn : F q ≠ F p := fun g => c (hcs.1.2 q p (by omega) (by omega) g)
    rw [updc_n cn, updc_n cn]
    exact r_cn_c (e q (by omega) c) (hcs.2 q hq)
theorem r_cs_c {F : Nat → Nat} {C N : Nat → Nat → Int32} {S S' : Nat → Int32} (hcs : r_cs F C N S) (hn : s_n S ≤ 12) (h0 : S' 0 = S 0) (e : ∀ q, q < 12 → ∀ i, 1 ≤ i → i < 13 → S' (i + 12 * q) = S (i + 12 * q)) : r_cs F C N S' := by
  have hn' : s_n S' = s_n S := by
    unfold s_n
    rw [h0]
  exact ⟨hcs.1, fun q hq => r_cn_c (e q (by omega)) (hcs.2 q (by omega))⟩
theorem r_st_c {f S S' : Nat → Int32} (h : r_st f S) (e0 : S' 0 = S 0) (e1 : S' 206 = S 206) (e2 : S' 226 = S 226) : r_st f S' := ⟨h.1.trans e1.symm, h.2.1.trans e0.symm, h.2.2.trans e2.symm⟩
theorem r_qu_c {f s u t S S' : Nat → Int32} (h : r_qu f s u t S) (hq : s_q S ≤ 20) (e : ∀ i, 145 ≤ i → i < 206 → S' i = S i) : r_qu f s u t S' := by
  have hq' : s_q S' = s_q S := by
    unfold s_q
    rw [e 145 (by omega) (by omega)]
  refine ⟨by rw [e 145 (by omega) (by omega)]; exact h.1, fun k hk => ?_⟩
  rw [hq'] at hk
  rw [e _ (by omega) (by omega), e _ (by omega) (by omega), e _ (by omega) (by omega)]
  exact h.2 k hk
theorem r_se_c {f S S' : Nat → Int32} (h : r_se f S) (e : ∀ i, 207 ≤ i → i < 214 → S' i = S i) : r_se f S' := fun i hi => by
  rw [e _ (by omega) (by omega)]
  exact h i hi
theorem r_ac_c {f c S S' : Nat → Int32} (h : r_ac f c S) (e : ∀ i, 214 ≤ i → i < 226 → S' i = S i) : r_ac f c S' := ⟨by rw [e _ (by omega) (by omega)]; exact h.1, fun i hi => by rw [e _ (by omega) (by omega)]; exact h.2.1 i hi, fun i hi => by rw [e _ (by omega) (by omega)]; exact h.2.2 i hi⟩
/-- a connection becomes idle -/
def d_fr (M : Q_M) (j c : Nat) : Q_M := q_si (q_si (q_si (q_si M (10, j, 0) 2 (M.1 10 j 0 2 + nI 1)) (19, j, c) 3 (-1)) (19, j, c) 4 (M.1 10 j 0 0)) (19, j, c) 5 (M.1 10 j 0 2 + nI 1)
abbrev pX7_becomeIdle : Q_P := fun av M K KX => ∃ j c : Nat, av = [.inr (.inl (10, j, 0)), .inr (.inl (19, j, c))] ∧ K none (d_fr M j c)
theorem cX7_becomeIdle_ct {l : Launch} {b : Bool} (hl0 : l.stackTraces = false) : q_Ct l b 48 pX7_becomeIdle := by
  refine q_meth (by decide +kernel) hl0 TX7_becomeIdle kX7_becomeIdle ?_
  intro av M K KX hwf
  rintro ⟨j, c, rfl, hK⟩
  refine ⟨Nat.le_of_ble_eq_true rfl, fun Z hz hw => ?_⟩
  apply hz [] 60
  refine q_K hK rfl ?_
  show q_si (q_si (q_si (q_si M (10, j, 0) 2 (M.1 10 j 0 2 + nI 1)) (19, j, c) 3 (-1)) (19, j, c) 4 ((q_si (q_si M (10, j, 0) 2 (M.1 10 j 0 2 + nI 1)) (19, j, c) 3 (-1)).1 10 j 0 0)) (19, j, c) 5 ((q_si (q_si (q_si M (10, j, 0) 2 (M.1 10 j 0 2 + nI 1)) (19, j, c) 3 (-1)) (19, j, c) 4 ((q_si (q_si M (10, j, 0) 2 (M.1 10 j 0 2 + nI 1)) (19, j, c) 3 (-1)).1 10 j 0 0)).1 10 j 0 2) = _
  unfold d_fr
  rw [q_i_r (show 10 ≠ 19 by decide), q_i_r (show 10 ≠ 19 by decide), q_i_r (show 10 ≠ 19 by decide), q_i_e, q_upd_ne (by decide), q_upd_eq]
theorem d_fr_sm {M : Q_M} {j c : Nat} : q_sm j M (d_fr M j c) := q_sm_si (q_sm_si (q_sm_si (q_sm_si q_sm_rfl (by decide) (by decide)) (by decide) (by decide)) (by decide) (by decide)) (by decide) (by decide)
theorem d_fr_10 {M : Q_M} {j c : Nat} : (d_fr M j c).1 10 j 0 = upd (M.1 10 j 0) 2 (M.1 10 j 0 2 + nI 1) := by
  unfold d_fr
  rw [q_i_r (by decide), q_i_r (by decide), q_i_r (by decide), q_i_e]
theorem d_fr_19 {M : Q_M} {j c : Nat} : (d_fr M j c).1 19 j = updc (M.1 19 j) c (upd (upd (upd (M.1 19 j c) 3 (-1)) 4 (M.1 10 j 0 0)) 5 (M.1 10 j 0 2 + nI 1)) := by
  unfold d_fr
  rw [q_i_j, q_i_e, q_i_j, q_i_e, q_i_j, updc_u, updc_u, q_i_r (by decide)]
theorem d_fr_r {M : Q_M} {j c r : Nat} (h : r ≠ 10) (h2 : r ≠ 19) : (d_fr M j c).1 r = M.1 r := by
  unfold d_fr
  rw [q_i_r h2, q_i_r h2, q_i_r h2, q_i_r h]
theorem d_fr_2 {M : Q_M} {j c : Nat} : (d_fr M j c).2 = M.2 := rfl
theorem s_fr_at {S : Nat → Int32} {p : Nat} (hp : p < 12) : s_fr S p 226 = S 226 + nI 1 ∧ s_fr S p (3 + 12 * p) = -1 ∧ s_fr S p (5 + 12 * p) = S 206 ∧ s_fr S p (6 + 12 * p) = S 226 + nI 1 := by
  unfold s_fr
  refine ⟨?_, ?_, ?_, ?_⟩
  · rw [q_upd_ne (by omega), q_upd_ne (by omega), q_upd_ne (by omega), q_upd_eq]
  · rw [q_upd_ne (by omega), q_upd_ne (by omega), q_upd_eq]
  · rw [q_upd_ne (by omega), q_upd_eq, q_upd_ne (by omega), q_upd_ne (by omega)]
  · rw [q_upd_eq, q_upd_ne (by omega), q_upd_ne (by omega), q_upd_eq]
/-- r_cn of a written connection -/
theorem r_cn_mk {S : Nat → Int32} {p : Nat} {f g : Nat → Int32} (a0 : f 0 = S (1 + 12 * p)) (a1 : f 1 = S (2 + 12 * p)) (a2 : f 2 = S (4 + 12 * p)) (a3 : f 3 = S (3 + 12 * p)) (a4 : f 4 = S (5 + 12 * p)) (a5 : f 5 = S (6 + 12 * p)) (a6 : f 6 = S (7 + 12 * p)) (a7 : f 7 = S (8 + 12 * p)) (hn : ∀ k, k < 4 → k < s_c S p → g k = S (9 + 12 * p + k)) : r_cn S p f g := ⟨⟨a0, a1, a2, a3⟩, ⟨a4, a5, a6, a7⟩, hn⟩
theorem RC0_fr {M : Q_M} {j p : Nat} {S : Nat → Int32} (h : RC0 j M S) (hp : p < s_n S) (hn : s_n S ≤ 12) (hq : s_q S ≤ 20) : RC0 j (d_fr M j (M.2.1 11 j 0 p)) (s_fr S p) := by
  obtain ⟨hst, hcs, hqu, hse, hac⟩ := h
  obtain ⟨f1, f2, f3, f4⟩ := s_fr_at (S := S) (p := p) (by omega)
  have ne := fun i h1 h2 h3 h4 => s_fr_ne (S := S) (p := p) (i := i) h1 h2 h3 h4
  unfold RC0
  rw [d_fr_10, d_fr_19, d_fr_2, d_fr_r (by decide) (by decide), d_fr_r (by decide) (by decide), d_fr_r (by decide) (by decide), d_fr_r (by decide) (by decide), d_fr_r (by decide) (by decide), d_fr_r (by decide) (by decide), d_fr_r (by decide) (by decide), d_fr_r (by decide) (by decide)]
  refine ⟨⟨?_, ?_, ?_⟩, ?_, r_qu_c hqu hq (fun i h1 h2 => ne i (by omega) (by omega) (by omega) (by omega)), r_se_c hse (fun i h1 h2 => ne i (by omega) (by omega) (by omega) (by omega)), r_ac_c hac (fun i h1 h2 => ne i (by omega) (by omega) (by omega) (by omega))⟩
  · rw [q_upd_ne (by decide), ne 206 (by omega) (by omega) (by omega) (by omega)]
    exact hst.1
  · rw [q_upd_ne (by decide), ne 0 (by omega) (by omega) (by omega) (by omega)]
    exact hst.2.1
  · rw [q_upd_eq, f1, hst.2.2]
  · have hcn := hcs.2 p hp
    rw [show M.1 20 j = updc (M.1 20 j) (M.2.1 11 j 0 p) (M.1 20 j (M.2.1 11 j 0 p)) from updc_id.symm]
    refine r_cs_set hcs hp hn (ne 0 (by omega) (by omega) (by omega) (by omega)) (fun q h1 h2 i h3 h4 => ne _ (by omega) (by omega) (by omega) (by omega)) ?_
    obtain ⟨⟨a1, a2, a3, a4⟩, ⟨a5, a6, a7, a8⟩, hnu⟩ := hcn
    refine r_cn_mk ?_ ?_ ?_ ?_ ?_ ?_ ?_ ?_ ?_
    · rw [q_upd_ne (by decide), q_upd_ne (by decide), q_upd_ne (by decide), ne _ (by omega) (by omega) (by omega) (by omega)]
      exact a1
    · rw [q_upd_ne (by decide), q_upd_ne (by decide), q_upd_ne (by decide), ne _ (by omega) (by omega) (by omega) (by omega)]
      exact a2
    · rw [q_upd_ne (by decide), q_upd_ne (by decide), q_upd_ne (by decide), ne _ (by omega) (by omega) (by omega) (by omega)]
      exact a3
    · rw [q_upd_ne (by decide), q_upd_ne (by decide), q_upd_eq, f2]
    · rw [q_upd_ne (by decide), q_upd_eq, f3]
      exact hst.1
    · rw [q_upd_eq, f4, hst.2.2]
    · rw [q_upd_ne (by decide), q_upd_ne (by decide), q_upd_ne (by decide), ne _ (by omega) (by omega) (by omega) (by omega)]
      exact a7
    · rw [q_upd_ne (by decide), q_upd_ne (by decide), q_upd_ne (by decide), ne _ (by omega) (by omega) (by omega) (by omega)]
      exact a8
    · intro k h1 h2
      unfold s_c at h2 hnu
      rw [ne _ (by omega) (by omega) (by omega) (by omega)] at h2
      rw [ne _ (by omega) (by omega) (by omega) (by omega)]
      exact hnu k h1 h2
theorem RC_fr {M : Q_M} {j p : Nat} {S : Nat → Int32} (h : RC j M S) (hp : p < s_n S) : RC j (d_fr M j (M.2.1 11 j 0 p)) (s_fr S p) := ⟨s_wf_fr h.1 hp, RC0_fr h.2 hp h.1.1.2 h.1.2.1.2⟩
