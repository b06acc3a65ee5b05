-- ONE CALL, BOTH SIDES: CALLS THAT ONLY TELL
theorem w_out {M M2 : Q_M} {v : Int64} (e : M2.2.2 = (q_sl M (25, 0, 0) 0 v).2.2) : M2.2.2 25 0 0 0 = v := by
  rw [e]
  exact q_sl_o
theorem w_pin {R : Nat → Int32} {p p' : Nat} (w : s_wf R) (hp : p < s_n R) (hp' : p' < s_n R) (e : nI p = nI p') : p' = p := by
  have := w.1.2
  exact ((nI_eq (by omega) (by omega)).mp e).symm
theorem rg_of {lo hi x : Nat} (h1 : lo ≤ x) (h2 : x ≤ hi) (h3 : hi < 2 ^ 31) : s_rg lo hi (nI x) := ⟨nI_le h1 (by omega), nI_le h2 h3⟩
theorem lp2_of {R : Nat → Int32} {k : Nat} (w : s_wf R) (hk : k < s_q R) : nI 0 ≤ nI k ∧ nI k ≤ R 145 - nI 1 := by
  have h20 := w.2.1.2
  refine ⟨nI_le (by omega) (by omega), ?_⟩
  rw [w.2.1.1, show nI (s_q R) - nI 1 = nI (s_q R - 1) from pk_sub (by omega)]
  exact nI_le (by omega) (by omega)
theorem s_c_of {R : Nat → Int32} {p : Nat} (w : s_wf R) (hp : p < s_n R) : R (8 + 12 * p) = nI (s_c R p) ∧ s_c R p ≤ 4 := by
  obtain ⟨-, -, c, hc, e⟩ := w.2.2.2.2.2.1 p hp
  have : s_c R p = c := by
    unfold s_c
    rw [e]
    exact nI_clamp (by omega)
  rw [this]
  exact ⟨e, hc⟩
theorem jd_livingByGoing {c : Nat} {M : Q_M} (hi : LI c M) : j_D pX8_livingByGoing pX9_livingByGoing (c + 1) M := by
  obtain ⟨h, n, tx, B, C, U, hd, -⟩ := id hi
  have w : s_wf (M.1 22 0 0) := hd.1.1.1
  intro K KX hK
  exact ⟨M.1 22 0 0, hd.1.1, rfl, hK _ M (fun K2 KX2 hK2 => ⟨rfl, hK2 _ (LI_o hi rfl rfl)⟩)⟩
theorem jd_time {c : Nat} {M : Q_M} (hi : LI c M) : j_D pX8_time pX9_time (c + 1) M := by
  obtain ⟨h, n, tx, B, C, U, hd, -⟩ := id hi
  have w : s_wf (M.1 22 0 0) := hd.1.1.1
  intro K KX hK
  exact ⟨M.1 22 0 0, hd.1.1, rfl, hK _ M (fun K2 KX2 hK2 => ⟨rfl, hK2 _ (LI_o hi rfl rfl)⟩)⟩
theorem jd_waiting {c : Nat} {M : Q_M} (hi : LI c M) : j_D pX8_waiting pX9_waiting (c + 1) M := by
  obtain ⟨h, n, tx, B, C, U, hd, -⟩ := id hi
  have w : s_wf (M.1 22 0 0) := hd.1.1.1
  intro K KX hK
  exact ⟨M.1 22 0 0, hd.1.1, rfl, hK _ M (fun K2 KX2 hK2 => ⟨rfl, hK2 _ (LI_o hi rfl rfl)⟩)⟩
theorem jd_most {c : Nat} {M : Q_M} (hi : LI c M) : j_D pX8_most pX9_most (c + 1) M := by
  obtain ⟨h, n, tx, B, C, U, hd, -⟩ := id hi
  have w : s_wf (M.1 22 0 0) := hd.1.1.1
  intro K KX hK
  exact ⟨M.1 22 0 0, hd.1.1, rfl, hK _ M (fun K2 KX2 hK2 => ⟨rfl, hK2 _ (LI_o hi rfl rfl)⟩)⟩
theorem jd_leastIdle {c : Nat} {M : Q_M} (hi : LI c M) : j_D pX8_leastIdle pX9_leastIdle (c + 1) M := by
  obtain ⟨h, n, tx, B, C, U, hd, -⟩ := id hi
  have w : s_wf (M.1 22 0 0) := hd.1.1.1
  intro K KX hK
  exact ⟨M.1 22 0 0, hd.1.1, rfl, hK _ M (fun K2 KX2 hK2 => ⟨rfl, hK2 _ (LI_o hi rfl rfl)⟩)⟩
theorem jd_ageLimit {c : Nat} {M : Q_M} (hi : LI c M) : j_D pX8_ageLimit pX9_ageLimit (c + 1) M := by
  obtain ⟨h, n, tx, B, C, U, hd, -⟩ := id hi
  have w : s_wf (M.1 22 0 0) := hd.1.1.1
  intro K KX hK
  exact ⟨M.1 22 0 0, hd.1.1, rfl, hK _ M (fun K2 KX2 hK2 => ⟨rfl, hK2 _ (LI_o hi rfl rfl)⟩)⟩
theorem jd_restLimit {c : Nat} {M : Q_M} (hi : LI c M) : j_D pX8_restLimit pX9_restLimit (c + 1) M := by
  obtain ⟨h, n, tx, B, C, U, hd, -⟩ := id hi
  have w : s_wf (M.1 22 0 0) := hd.1.1.1
  intro K KX hK
  exact ⟨M.1 22 0 0, hd.1.1, rfl, hK _ M (fun K2 KX2 hK2 => ⟨rfl, hK2 _ (LI_o hi rfl rfl)⟩)⟩
theorem jd_leaseLimit {c : Nat} {M : Q_M} (hi : LI c M) : j_D pX8_leaseLimit pX9_leaseLimit (c + 1) M := by
  obtain ⟨h, n, tx, B, C, U, hd, -⟩ := id hi
  have w : s_wf (M.1 22 0 0) := hd.1.1.1
  intro K KX hK
  exact ⟨M.1 22 0 0, hd.1.1, rfl, hK _ M (fun K2 KX2 hK2 => ⟨rfl, hK2 _ (LI_o hi rfl rfl)⟩)⟩
theorem jd_patience {c : Nat} {M : Q_M} (hi : LI c M) : j_D pX8_patience pX9_patience (c + 1) M := by
  obtain ⟨h, n, tx, B, C, U, hd, -⟩ := id hi
  have w : s_wf (M.1 22 0 0) := hd.1.1.1
  intro K KX hK
  exact ⟨M.1 22 0 0, hd.1.1, rfl, hK _ M (fun K2 KX2 hK2 => ⟨rfl, hK2 _ (LI_o hi rfl rfl)⟩)⟩
theorem jd_opened {c : Nat} {M : Q_M} (hi : LI c M) : j_D pX8_opened pX9_opened (c + 1) M := by
  obtain ⟨h, n, tx, B, C, U, hd, -⟩ := id hi
  have w : s_wf (M.1 22 0 0) := hd.1.1.1
  intro K KX hK
  exact ⟨M.1 22 0 0, hd.1.1, rfl, hK _ M (fun K2 KX2 hK2 => ⟨rfl, hK2 _ (LI_o hi rfl rfl)⟩)⟩
theorem jd_lendings {c : Nat} {M : Q_M} (hi : LI c M) : j_D pX8_lendings pX9_lendings (c + 1) M := by
  obtain ⟨h, n, tx, B, C, U, hd, -⟩ := id hi
  have w : s_wf (M.1 22 0 0) := hd.1.1.1
  intro K KX hK
  exact ⟨M.1 22 0 0, hd.1.1, rfl, hK _ M (fun K2 KX2 hK2 => ⟨rfl, hK2 _ (LI_o hi rfl rfl)⟩)⟩
theorem jd_impatient {c : Nat} {M : Q_M} (hi : LI c M) : j_D pX8_impatient pX9_impatient (c + 1) M := by
  obtain ⟨h, n, tx, B, C, U, hd, -⟩ := id hi
  have w : s_wf (M.1 22 0 0) := hd.1.1.1
  intro K KX hK
  exact ⟨M.1 22 0 0, hd.1.1, rfl, hK _ M (fun K2 KX2 hK2 => ⟨rfl, hK2 _ (LI_o hi rfl rfl)⟩)⟩
theorem jd_served {c : Nat} {M : Q_M} (hi : LI c M) : j_D pX8_served pX9_served (c + 1) M := by
  obtain ⟨h, n, tx, B, C, U, hd, -⟩ := id hi
  have w : s_wf (M.1 22 0 0) := hd.1.1.1
  intro K KX hK
  exact ⟨M.1 22 0 0, hd.1.1, rfl, hK _ M (fun K2 KX2 hK2 => ⟨rfl, hK2 _ (LI_o hi rfl rfl)⟩)⟩
theorem jd_waited {c : Nat} {M : Q_M} (hi : LI c M) : j_D pX8_waited pX9_waited (c + 1) M := by
  obtain ⟨h, n, tx, B, C, U, hd, -⟩ := id hi
  have w : s_wf (M.1 22 0 0) := hd.1.1.1
  intro K KX hK
  exact ⟨M.1 22 0 0, hd.1.1, rfl, hK _ M (fun K2 KX2 hK2 => ⟨rfl, hK2 _ (LI_o hi rfl rfl)⟩)⟩
theorem jd_hits {c : Nat} {M : Q_M} (hi : LI c M) : j_D pX8_hits pX9_hits (c + 1) M := by
  obtain ⟨h, n, tx, B, C, U, hd, -⟩ := id hi
  have w : s_wf (M.1 22 0 0) := hd.1.1.1
  intro K KX hK
  exact ⟨M.1 22 0 0, hd.1.1, rfl, hK _ M (fun K2 KX2 hK2 => ⟨rfl, hK2 _ (LI_o hi rfl rfl)⟩)⟩
theorem jd_misses {c : Nat} {M : Q_M} (hi : LI c M) : j_D pX8_misses pX9_misses (c + 1) M := by
  obtain ⟨h, n, tx, B, C, U, hd, -⟩ := id hi
  have w : s_wf (M.1 22 0 0) := hd.1.1.1
  intro K KX hK
  exact ⟨M.1 22 0 0, hd.1.1, rfl, hK _ M (fun K2 KX2 hK2 => ⟨rfl, hK2 _ (LI_o hi rfl rfl)⟩)⟩
theorem jd_livingByAccount {c : Nat} {M : Q_M} (hi : LI c M) : j_D pX8_livingByAccount pX9_livingByAccount (c + 1) M := by
  obtain ⟨h, n, tx, B, C, U, hd, -⟩ := id hi
  have w : s_wf (M.1 22 0 0) := hd.1.1.1
  intro K KX hK
  exact ⟨M.1 22 0 0, hd.1.1, rfl, hK _ M (fun K2 KX2 hK2 => ⟨rfl, hK2 _ (LI_o hi rfl rfl)⟩)⟩
theorem jd_idle {c : Nat} {M : Q_M} (hi : LI c M) : j_D pX8_idle pX9_idle (c + 1) M := by
  obtain ⟨h, n, tx, B, C, U, hd, -⟩ := id hi
  have w : s_wf (M.1 22 0 0) := hd.1.1.1
  intro K KX hK
  exact ⟨M.1 22 0 0, hd.1.1, rfl, hK _ M (fun K2 KX2 hK2 => ⟨w, rfl, hK2 _ (LI_o hi rfl rfl)⟩)⟩
theorem jd_leasedByConnections {c : Nat} {M : Q_M} (hi : LI c M) : j_D pX8_leasedByConnections pX9_leasedByConnections (c + 1) M := by
  obtain ⟨h, n, tx, B, C, U, hd, -⟩ := id hi
  have w : s_wf (M.1 22 0 0) := hd.1.1.1
  intro K KX hK
  exact ⟨M.1 22 0 0, hd.1.1, rfl, hK _ M (fun K2 KX2 hK2 => ⟨w, rfl, hK2 _ (LI_o hi rfl rfl)⟩)⟩
theorem jd_leasedBySquirrels {c : Nat} {M : Q_M} (hi : LI c M) : j_D pX8_leasedBySquirrels pX9_leasedBySquirrels (c + 1) M := by
  obtain ⟨h, n, tx, B, C, U, hd, -⟩ := id hi
  have w : s_wf (M.1 22 0 0) := hd.1.1.1
  intro K KX hK
  exact ⟨M.1 22 0 0, hd.1.1, rfl, hK _ M (fun K2 KX2 hK2 => ⟨w, rfl, hK2 _ (LI_o hi rfl rfl)⟩)⟩
theorem jd_isLastFirst {c : Nat} {M : Q_M} (hi : LI c M) : j_D pX8_isLastFirst pX9_isLastFirst (c + 1) M := by
  obtain ⟨h, n, tx, B, C, U, hd, -⟩ := id hi
  have w : s_wf (M.1 22 0 0) := hd.1.1.1
  intro K KX hK
  exact ⟨M.1 22 0 0, hd.1.1, rfl, hK _ M (fun K2 KX2 hK2 => ⟨w.2.2.2.2.1, rfl, hK2 _ (LI_o hi rfl rfl)⟩)⟩
theorem jd_savedStates {c : Nat} {M : Q_M} (hi : LI c M) : j_D pX8_savedStates pX9_savedStates (c + 1) M := by
  obtain ⟨h, n, tx, B, C, U, hd, -⟩ := id hi
  have w : s_wf (M.1 22 0 0) := hd.1.1.1
  intro K KX hK
  refine ⟨h, hd.1.2.2.1.2.1, rfl, hK _ M (fun K2 KX2 hK2 => ⟨rfl, ?_⟩)⟩
  rw [hd.2.1]
  exact hK2 _ (LI_o hi rfl rfl)
theorem jw_numberAt {c : Nat} {M : Q_M} (hi : LI c M) (a : Int32) : j_P false pL_numberAt pX9_numberAt [w_x, .inl a, w_o] [w_m, .inl a] (c + 1) M := by
  obtain ⟨h, n, tx, B, C, U, hd, -⟩ := id hi
  have w : s_wf (M.1 22 0 0) := hd.1.1.1
  intro K KX hK
  refine ⟨M.1 22 0 0, a, hd.1.1, rfl, fun p hp ha => hK 0 _ (by decide) (fun K2 KX2 hK2 => ?_), fun hn => hK 1 M (by decide) (fun K2 KX2 hK2 => ?_)⟩
  · refine ⟨a, w, rfl, fun p' hp' ha' => ?_, fun hn => absurd (by rw [ha]; exact lp1_of w hp) hn⟩
    have e : p' = p := w_pin w hp hp' (ha.symm.trans ha')
    subst e
    exact hK2 _ _ q_si_3 (fun g => nomatch g) (fun _ => w_out (M := M) rfl) (LI_o hi rfl rfl)
  · refine ⟨a, w, rfl, fun p' hp' ha' => absurd (by rw [ha']; exact lp1_of w hp') hn, fun _ => ?_⟩
    exact hK2 _ _ q_si_3 (fun g => nomatch g) (fun g => absurd g (by decide)) (LI_o hi rfl rfl)
theorem jw_ageAt {c : Nat} {M : Q_M} (hi : LI c M) (a : Int32) : j_P false pL_ageAt pX9_ageAt [w_x, .inl a, w_o] [w_m, .inl a] (c + 1) M := by
  obtain ⟨h, n, tx, B, C, U, hd, -⟩ := id hi
  have w : s_wf (M.1 22 0 0) := hd.1.1.1
  intro K KX hK
  refine ⟨M.1 22 0 0, a, hd.1.1, rfl, fun p hp ha => hK 0 _ (by decide) (fun K2 KX2 hK2 => ?_), fun hn => hK 1 M (by decide) (fun K2 KX2 hK2 => ?_)⟩
  · refine ⟨a, w, rfl, fun p' hp' ha' => ?_, fun hn => absurd (by rw [ha]; exact lp1_of w hp) hn⟩
    have e : p' = p := w_pin w hp hp' (ha.symm.trans ha')
    subst e
    exact hK2 _ _ q_si_3 (fun g => nomatch g) (fun _ => w_out (M := M) rfl) (LI_o hi rfl rfl)
  · refine ⟨a, w, rfl, fun p' hp' ha' => absurd (by rw [ha']; exact lp1_of w hp') hn, fun _ => ?_⟩
    exact hK2 _ _ q_si_3 (fun g => nomatch g) (fun g => absurd g (by decide)) (LI_o hi rfl rfl)
theorem jw_isIdle {c : Nat} {M : Q_M} (hi : LI c M) (a : Int32) : j_P true pL_isIdle pX9_isIdle [w_x, .inl a, w_o] [w_m, .inl a] (c + 1) M := by
  obtain ⟨h, n, tx, B, C, U, hd, -⟩ := id hi
  have w : s_wf (M.1 22 0 0) := hd.1.1.1
  intro K KX hK
  refine ⟨M.1 22 0 0, a, hd.1.1, rfl, fun p hp ha => hK 0 _ (by decide) (fun K2 KX2 hK2 => ?_), fun hn => hK 1 M (by decide) (fun K2 KX2 hK2 => ?_)⟩
  · refine ⟨a, w, rfl, fun p' hp' ha' => ?_, fun hn => absurd (by rw [ha]; exact lp1_of w hp) hn⟩
    have e : p' = p := w_pin w hp hp' (ha.symm.trans ha')
    subst e
    exact hK2 _ _ q_si_3 (fun _ => q_bi_bit _) (fun _ => w_out (M := M) rfl) (LI_o hi rfl rfl)
  · refine ⟨a, w, rfl, fun p' hp' ha' => absurd (by rw [ha']; exact lp1_of w hp') hn, fun _ => ?_⟩
    exact hK2 _ _ q_si_3 (fun _ => Or.inl rfl) (fun g => absurd g (by decide)) (LI_o hi rfl rfl)
theorem jw_isBroken {c : Nat} {M : Q_M} (hi : LI c M) (a : Int32) : j_P true pL_isBroken pX9_isBroken [w_x, .inl a, w_o] [w_m, .inl a] (c + 1) M := by
  obtain ⟨h, n, tx, B, C, U, hd, -⟩ := id hi
  have w : s_wf (M.1 22 0 0) := hd.1.1.1
  intro K KX hK
  refine ⟨M.1 22 0 0, a, hd.1.1, rfl, fun p hp ha => hK 0 _ (by decide) (fun K2 KX2 hK2 => ?_), fun hn => hK 1 M (by decide) (fun K2 KX2 hK2 => ?_)⟩
  · refine ⟨a, w, rfl, fun p' hp' ha' => ?_, fun hn => absurd (by rw [ha]; exact lp1_of w hp) hn⟩
    have e : p' = p := w_pin w hp hp' (ha.symm.trans ha')
    subst e
    exact hK2 _ _ q_si_3 (fun _ => (w.2.2.2.2.2.1 _ hp).2.1) (fun _ => w_out (M := M) rfl) (LI_o hi rfl rfl)
  · refine ⟨a, w, rfl, fun p' hp' ha' => absurd (by rw [ha']; exact lp1_of w hp') hn, fun _ => ?_⟩
    exact hK2 _ _ q_si_3 (fun _ => Or.inl rfl) (fun g => absurd g (by decide)) (LI_o hi rfl rfl)
theorem jw_sinceAt {c : Nat} {M : Q_M} (hi : LI c M) (a : Int32) : j_P false pL_sinceAt pX9_sinceAt [w_x, .inl a, w_o] [w_m, .inl a] (c + 1) M := by
  obtain ⟨h, n, tx, B, C, U, hd, -⟩ := id hi
  have w : s_wf (M.1 22 0 0) := hd.1.1.1
  intro K KX hK
  refine ⟨M.1 22 0 0, a, hd.1.1, rfl, fun p hp ha => hK 0 _ (by decide) (fun K2 KX2 hK2 => ?_), fun hn => hK 1 M (by decide) (fun K2 KX2 hK2 => ?_)⟩
  · refine ⟨a, w, rfl, fun p' hp' ha' => ?_, fun hn => absurd (by rw [ha]; exact lp1_of w hp) hn⟩
    have e : p' = p := w_pin w hp hp' (ha.symm.trans ha')
    subst e
    exact hK2 _ _ q_si_3 (fun g => nomatch g) (fun _ => w_out (M := M) rfl) (LI_o hi rfl rfl)
  · refine ⟨a, w, rfl, fun p' hp' ha' => absurd (by rw [ha']; exact lp1_of w hp') hn, fun _ => ?_⟩
    exact hK2 _ _ q_si_3 (fun g => nomatch g) (fun g => absurd g (by decide)) (LI_o hi rfl rfl)
theorem jw_lendingsOf {c : Nat} {M : Q_M} (hi : LI c M) (a : Int32) : j_P false pL_lendingsOf pX9_lendingsOf [w_x, .inl a, w_o] [w_m, .inl a] (c + 1) M := by
  obtain ⟨h, n, tx, B, C, U, hd, -⟩ := id hi
  have w : s_wf (M.1 22 0 0) := hd.1.1.1
  intro K KX hK
  refine ⟨M.1 22 0 0, a, hd.1.1, rfl, fun p hp ha => hK 0 _ (by decide) (fun K2 KX2 hK2 => ?_), fun hn => hK 1 M (by decide) (fun K2 KX2 hK2 => ?_)⟩
  · refine ⟨a, w, rfl, fun p' hp' ha' => ?_, fun hn => absurd (by rw [ha]; exact lp1_of w hp) hn⟩
    have e : p' = p := w_pin w hp hp' (ha.symm.trans ha')
    subst e
    exact hK2 _ _ q_si_3 (fun g => nomatch g) (fun _ => w_out (M := M) rfl) (LI_o hi rfl rfl)
  · refine ⟨a, w, rfl, fun p' hp' ha' => absurd (by rw [ha']; exact lp1_of w hp') hn, fun _ => ?_⟩
    exact hK2 _ _ q_si_3 (fun g => nomatch g) (fun g => absurd g (by decide)) (LI_o hi rfl rfl)
theorem jw_nutsIn {c : Nat} {M : Q_M} (hi : LI c M) (a : Int32) : j_P false pL_nutsIn pX9_nutsIn [w_x, .inl a, w_o] [w_m, .inl a] (c + 1) M := by
  obtain ⟨h, n, tx, B, C, U, hd, -⟩ := id hi
  have w : s_wf (M.1 22 0 0) := hd.1.1.1
  intro K KX hK
  refine ⟨M.1 22 0 0, a, hd.1.1, rfl, fun p hp ha => hK 0 _ (by decide) (fun K2 KX2 hK2 => ?_), fun hn => hK 1 M (by decide) (fun K2 KX2 hK2 => ?_)⟩
  · refine ⟨a, w, rfl, fun p' hp' ha' => ?_, fun hn => absurd (by rw [ha]; exact lp1_of w hp) hn⟩
    have e : p' = p := w_pin w hp hp' (ha.symm.trans ha')
    subst e
    exact hK2 _ _ q_si_3 (fun g => nomatch g) (fun _ => w_out (M := M) rfl) (LI_o hi rfl rfl)
  · refine ⟨a, w, rfl, fun p' hp' ha' => absurd (by rw [ha']; exact lp1_of w hp') hn, fun _ => ?_⟩
    exact hK2 _ _ q_si_3 (fun g => nomatch g) (fun g => absurd g (by decide)) (LI_o hi rfl rfl)
theorem jw_squirrelAt {c : Nat} {M : Q_M} (hi : LI c M) (a : Int32) : j_P false pL_squirrelAt pX9_squirrelAt [w_x, .inl a, w_o] [w_m, .inl a] (c + 1) M := by
  obtain ⟨h, n, tx, B, C, U, hd, -⟩ := id hi
  have w : s_wf (M.1 22 0 0) := hd.1.1.1
  intro K KX hK
  refine ⟨M.1 22 0 0, a, hd.1.1, rfl, fun p hp ha g => hK 0 _ (by decide) (fun K2 KX2 hK2 => ?_), fun hn => hK 1 M (by decide) (fun K2 KX2 hK2 => ?_), fun p hp ha g => hK 2 M (by decide) (fun K2 KX2 hK2 => ?_)⟩
  · refine ⟨a, w, rfl, fun p' hp' ha' g' => ?_, fun hn => absurd (by rw [ha]; exact lp1_of w hp) hn, fun p' hp' ha' g' => ?_⟩
    · have e : p' = p := w_pin w hp hp' (ha.symm.trans ha')
      subst e
      exact hK2 _ _ q_si_3 (fun g => nomatch g) (fun _ => w_out (M := M) rfl) (LI_o hi rfl rfl)
    · have e : p' = p := w_pin w hp hp' (ha.symm.trans ha')
      subst e
      exact absurd g' g
  · refine ⟨a, w, rfl, fun p' hp' ha' => absurd (by rw [ha']; exact lp1_of w hp') hn, fun _ => ?_, fun p' hp' ha' => absurd (by rw [ha']; exact lp1_of w hp') hn⟩
    exact hK2 _ _ q_si_3 (fun g => nomatch g) (fun g => absurd g (by decide)) (LI_o hi rfl rfl)
  · refine ⟨a, w, rfl, fun p' hp' ha' g' => ?_, fun hn => absurd (by rw [ha]; exact lp1_of w hp) hn, fun p' hp' ha' g' => ?_⟩
    · have e : p' = p := w_pin w hp hp' (ha.symm.trans ha')
      subst e
      exact absurd g g'
    · exact hK2 _ _ q_si_3 (fun g => nomatch g) (fun g => absurd g (by decide)) (LI_o hi rfl rfl)
theorem jw_turnOf {c : Nat} {M : Q_M} (hi : LI c M) (a : Int32) : j_P false pL_turnOf pX9_turnOf [w_x, .inl a, w_o] [w_m, .inl a] (c + 1) M := by
  obtain ⟨h, n, tx, B, C, U, hd, -⟩ := id hi
  have w : s_wf (M.1 22 0 0) := hd.1.1.1
  intro K KX hK
  refine ⟨M.1 22 0 0, a, hd.1.1, rfl, fun p hp ha g => hK 0 _ (by decide) (fun K2 KX2 hK2 => ?_), fun hn => hK 1 M (by decide) (fun K2 KX2 hK2 => ?_), fun p hp ha g => hK 2 M (by decide) (fun K2 KX2 hK2 => ?_)⟩
  · refine ⟨a, w, rfl, fun p' hp' ha' g' => ?_, fun hn => absurd (by rw [ha]; exact lp1_of w hp) hn, fun p' hp' ha' g' => ?_⟩
    · have e : p' = p := w_pin w hp hp' (ha.symm.trans ha')
      subst e
      exact hK2 _ _ q_si_3 (fun g => nomatch g) (fun _ => w_out (M := M) rfl) (LI_o hi rfl rfl)
    · have e : p' = p := w_pin w hp hp' (ha.symm.trans ha')
      subst e
      exact absurd g g'
  · refine ⟨a, w, rfl, fun p' hp' ha' => absurd (by rw [ha']; exact lp1_of w hp') hn, fun _ => ?_, fun p' hp' ha' => absurd (by rw [ha']; exact lp1_of w hp') hn⟩
    exact hK2 _ _ q_si_3 (fun g => nomatch g) (fun g => absurd g (by decide)) (LI_o hi rfl rfl)
  · refine ⟨a, w, rfl, fun p' hp' ha' g' => ?_, fun hn => absurd (by rw [ha]; exact lp1_of w hp) hn, fun p' hp' ha' g' => ?_⟩
    · have e : p' = p := w_pin w hp hp' (ha.symm.trans ha')
      subst e
      exact absurd g' g
    · exact hK2 _ _ q_si_3 (fun g => nomatch g) (fun g => absurd g (by decide)) (LI_o hi rfl rfl)
theorem jw_nutAt {c : Nat} {M : Q_M} (hi : LI c M) (a y : Int32) : j_P false pL_nutAt pX9_nutAt [w_x, .inl a, .inl y, w_o] [w_m, .inl a, .inl y] (c + 1) M := by
  obtain ⟨h, n, tx, B, C, U, hd, -⟩ := id hi
  have w : s_wf (M.1 22 0 0) := hd.1.1.1
  intro K KX hK
  have inr : ∀ p k : Nat, p < s_n (M.1 22 0 0) → k < s_c (M.1 22 0 0) p → nI 0 ≤ nI k ∧ nI k ≤ (M.1 22 0 0) (8 + 12 * p) - nI 1 := by
    intro p k hp hk
    obtain ⟨e, h4⟩ := s_c_of w hp
    rw [e, show nI (s_c (M.1 22 0 0) p) - nI 1 = nI (s_c (M.1 22 0 0) p - 1) from pk_sub (by omega)]
    exact ⟨nI_le (by omega) (by omega), nI_le (by omega) (by omega)⟩
  refine ⟨M.1 22 0 0, a, y, hd.1.1, rfl, fun p k hp ha hk hy => hK 0 _ (by decide) (fun K2 KX2 hK2 => ?_), fun hn => hK 1 M (by decide) (fun K2 KX2 hK2 => ?_), fun p hp ha g => hK 1 M (by decide) (fun K2 KX2 hK2 => ?_)⟩
  · refine ⟨a, y, w, rfl, fun p' k' hp' ha' hk' hy' => ?_, fun hn => absurd (by rw [ha]; exact lp1_of w hp) hn, fun p' hp' ha' g' => ?_⟩
    · have e : p' = p := w_pin w hp hp' (ha.symm.trans ha')
      subst e
      have h4 := (s_c_of w hp').2
      have hk2 : k' < s_c (M.1 22 0 0) p' := hk'
      have e : k' = k := ((nI_eq (by omega) (by omega)).mp (hy.symm.trans hy')).symm
      subst e
      exact hK2 _ _ q_si_3 (fun g => nomatch g) (fun _ => w_out (M := M) rfl) (LI_o hi rfl rfl)
    · have e : p' = p := w_pin w hp hp' (ha.symm.trans ha')
      subst e
      exact absurd (by rw [hy]; exact inr p' k hp' hk) g'
  · refine ⟨a, y, w, rfl, fun p' k' hp' ha' => absurd (by rw [ha']; exact lp1_of w hp') hn, fun _ => ?_, fun p' hp' ha' => absurd (by rw [ha']; exact lp1_of w hp') hn⟩
    exact hK2 _ _ q_si_3 (fun g => nomatch g) (fun g => absurd g (by decide)) (LI_o hi rfl rfl)
  · refine ⟨a, y, w, rfl, fun p' k' hp' ha' hk' hy' => ?_, fun hn => absurd (by rw [ha]; exact lp1_of w hp) hn, fun p' hp' ha' g' => ?_⟩
    · have e : p' = p := w_pin w hp hp' (ha.symm.trans ha')
      subst e
      exact absurd (by rw [hy']; exact inr p' k' hp' hk') g
    · exact hK2 _ _ q_si_3 (fun g => nomatch g) (fun g => absurd g (by decide)) (LI_o hi rfl rfl)
theorem jw_has {c : Nat} {M : Q_M} (hi : LI c M) (a : Int32) : j_P true pL_has pX9_has [w_x, .inl a, w_o] [w_m, .inl a] (c + 1) M := by
  obtain ⟨h, n, tx, B, C, U, hd, -⟩ := id hi
  have w : s_wf (M.1 22 0 0) := hd.1.1.1
  intro K KX hK
  refine ⟨M.1 22 0 0, a, hd.1.1, rfl, fun hr => hK 0 _ (by decide) (fun K2 KX2 hK2 => ?_), fun hr => hK 1 M (by decide) (fun K2 KX2 hK2 => ?_)⟩
  · refine ⟨a, w, rfl, fun _ => ?_, fun hn => absurd hr hn⟩
    exact hK2 _ _ q_si_3 (fun _ => q_bi_bit _) (fun _ => w_out (M := M) rfl) (LI_o hi rfl rfl)
  · refine ⟨a, w, rfl, fun hn => absurd hn hr, fun _ => ?_⟩
    exact hK2 _ _ q_si_3 (fun _ => Or.inl rfl) (fun g => absurd g (by decide)) (LI_o hi rfl rfl)
theorem jw_isWaiting {c : Nat} {M : Q_M} (hi : LI c M) (a : Int32) : j_P true pL_isWaiting pX9_isWaiting [w_x, .inl a, w_o] [w_m, .inl a] (c + 1) M := by
  obtain ⟨h, n, tx, B, C, U, hd, -⟩ := id hi
  have w : s_wf (M.1 22 0 0) := hd.1.1.1
  intro K KX hK
  refine ⟨M.1 22 0 0, a, hd.1.1, rfl, fun hr => hK 0 _ (by decide) (fun K2 KX2 hK2 => ?_), fun hr => hK 1 M (by decide) (fun K2 KX2 hK2 => ?_)⟩
  · refine ⟨a, w, rfl, fun _ => ?_, fun hn => absurd hr hn⟩
    exact hK2 _ _ q_si_3 (fun _ => q_bi_bit _) (fun _ => w_out (M := M) rfl) (LI_o hi rfl rfl)
  · refine ⟨a, w, rfl, fun hn => absurd hn hr, fun _ => ?_⟩
    exact hK2 _ _ q_si_3 (fun _ => Or.inl rfl) (fun g => absurd g (by decide)) (LI_o hi rfl rfl)
theorem jw_idleWith {c : Nat} {M : Q_M} (hi : LI c M) (a : Int32) : j_P false pL_idleWith pX9_idleWith [w_x, .inl a, w_o] [w_m, .inl a] (c + 1) M := by
  obtain ⟨h, n, tx, B, C, U, hd, -⟩ := id hi
  have w : s_wf (M.1 22 0 0) := hd.1.1.1
  intro K KX hK
  refine ⟨M.1 22 0 0, a, hd.1.1, rfl, fun hr => hK 0 _ (by decide) (fun K2 KX2 hK2 => ?_), fun hr => hK 1 M (by decide) (fun K2 KX2 hK2 => ?_)⟩
  · refine ⟨a, w, rfl, fun _ => ?_, fun hn => absurd hr hn⟩
    exact hK2 _ _ q_si_3 (fun g => nomatch g) (fun _ => w_out (M := M) rfl) (LI_o hi rfl rfl)
  · refine ⟨a, w, rfl, fun hn => absurd hn hr, fun _ => ?_⟩
    exact hK2 _ _ q_si_3 (fun g => nomatch g) (fun g => absurd g (by decide)) (LI_o hi rfl rfl)
theorem jw_closedFor {c : Nat} {M : Q_M} (hi : LI c M) (a : Int32) : j_P false pL_closedFor pX9_closedFor [w_x, .inl a, w_o] [w_m, .inl a] (c + 1) M := by
  obtain ⟨h, n, tx, B, C, U, hd, -⟩ := id hi
  have w : s_wf (M.1 22 0 0) := hd.1.1.1
  intro K KX hK
  refine ⟨M.1 22 0 0, a, hd.1.1, rfl, fun k hk ha => hK 0 _ (by decide) (fun K2 KX2 hK2 => ?_), fun hn => hK 1 M (by decide) (fun K2 KX2 hK2 => ?_)⟩
  · refine ⟨a, rfl, fun k' hk' ha' => ?_, fun hn => absurd (by rw [ha]; exact rg_of (by omega) (by omega) (by omega)) hn⟩
    have e : k' = k := ((nI_eq (by omega) (by omega)).mp (ha.symm.trans ha')).symm
    subst e
    exact hK2 _ _ q_si_3 (fun g => nomatch g) (fun _ => w_out (M := M) rfl) (LI_o hi rfl rfl)
  · refine ⟨a, rfl, fun k' hk' ha' => absurd (by rw [ha']; exact rg_of (by omega) (by omega) (by omega)) hn, fun _ => ?_⟩
    exact hK2 _ _ q_si_3 (fun g => nomatch g) (fun g => absurd g (by decide)) (LI_o hi rfl rfl)
theorem jw_waiterAt {c : Nat} {M : Q_M} (hi : LI c M) (a : Int32) : j_P false pL_waiterAt pX9_waiterAt [w_x, .inl a, w_o] [w_m, .inl a] (c + 1) M := by
  obtain ⟨h, n, tx, B, C, U, hd, -⟩ := id hi
  have w : s_wf (M.1 22 0 0) := hd.1.1.1
  intro K KX hK
  have h20 := w.2.1.2
  refine ⟨M.1 22 0 0, a, hd.1.1, rfl, fun k hk ha => hK 0 _ (by decide) (fun K2 KX2 hK2 => ?_), fun hn => hK 1 M (by decide) (fun K2 KX2 hK2 => ?_)⟩
  · refine ⟨a, w, rfl, fun k' hk' ha' => ?_, fun hn => absurd (by rw [ha]; exact lp2_of w hk) hn⟩
    have hk2 : k' < s_q (M.1 22 0 0) := hk'
    have e : k' = k := ((nI_eq (by omega) (by omega)).mp (ha.symm.trans ha')).symm
    subst e
    exact hK2 _ _ q_si_3 (fun g => nomatch g) (fun _ => w_out (M := M) rfl) (LI_o hi rfl rfl)
  · refine ⟨a, w, rfl, fun k' hk' ha' => absurd (by rw [ha']; exact lp2_of w hk') hn, fun _ => ?_⟩
    exact hK2 _ _ q_si_3 (fun g => nomatch g) (fun g => absurd g (by decide)) (LI_o hi rfl rfl)
theorem jw_nextLent {c : Nat} {M : Q_M} (hi : LI c M) : j_P false pL_nextLent pX9_nextLent [w_x, w_o] [w_m] (c + 1) M := by
  obtain ⟨h, n, tx, B, C, U, hd, -⟩ := id hi
  have w : s_wf (M.1 22 0 0) := hd.1.1.1
  intro K KX hK
  refine ⟨M.1 22 0 0, hd.1.1, rfl, fun p hp => hK 0 _ (by decide) (fun K2 KX2 hK2 => ?_), fun hn => hK 1 M (by decide) (fun K2 KX2 hK2 => ?_)⟩
  · refine ⟨w, rfl, fun p' hp' => ?_, fun hn => ?_⟩
    · have e : some p = some p' := hp.symm.trans hp'
      cases e
      exact hK2 _ _ q_si_3 (fun g => nomatch g) (fun _ => w_out (M := M) rfl) (LI_o hi rfl rfl)
    · have e : some p = none := hp.symm.trans hn
      cases e
  · refine ⟨w, rfl, fun p' hp' => ?_, fun _ => ?_⟩
    · have e : some p' = none := hp'.symm.trans hn
      cases e
    · exact hK2 _ _ q_si_3 (fun g => nomatch g) (fun g => absurd g (by decide)) (LI_o hi rfl rfl)
theorem jw_wouldHit {c : Nat} {M : Q_M} (hi : LI c M) (a : Int32) : j_P true pL_wouldHit pX9_wouldHit [w_x, .inl a, w_o] [w_m, .inl a] (c + 1) M := by
  obtain ⟨h, n, tx, B, C, U, hd, -⟩ := id hi
  have w : s_wf (M.1 22 0 0) := hd.1.1.1
  intro K KX hK
  refine ⟨M.1 22 0 0, a, hd.1.1, rfl, fun p hr hp => hK 0 _ (by decide) (fun K2 KX2 hK2 => ?_), fun hr => hK 1 M (by decide) (fun K2 KX2 hK2 => ?_), fun hr hn => hK 2 M (by decide) (fun K2 KX2 hK2 => ?_)⟩
  · refine ⟨a, w, rfl, fun p' _ hp' => ?_, fun hn => absurd hr hn, fun _ hn => ?_⟩
    · have e : some p = some p' := hp.symm.trans hp'
      cases e
      exact hK2 _ _ q_si_3 (fun _ => q_bi_bit _) (fun _ => w_out (M := M) rfl) (LI_o hi rfl rfl)
    · have e : some p = none := hp.symm.trans hn
      cases e
  · refine ⟨a, w, rfl, fun p' hn => absurd hn hr, fun _ => ?_, fun hn => absurd hn hr⟩
    exact hK2 _ _ q_si_3 (fun _ => Or.inl rfl) (fun g => absurd g (by decide)) (LI_o hi rfl rfl)
  · refine ⟨a, w, rfl, fun p' _ hp' => ?_, fun hn => absurd hr hn, fun _ _ => ?_⟩
    · have e : some p' = none := hp'.symm.trans hn
      cases e
    · exact hK2 _ _ q_si_3 (fun _ => Or.inl rfl) (fun g => absurd g (by decide)) (LI_o hi rfl rfl)
theorem jw_placeOf {c : Nat} {M : Q_M} (hi : LI c M) (a : Int32) : j_P false pL_placeOf pX9_placeOf [w_x, .inl a, w_o] [w_m, .inl a] (c + 1) M := by
  obtain ⟨h, n, tx, B, C, U, hd, -⟩ := id hi
  have w : s_wf (M.1 22 0 0) := hd.1.1.1
  intro K KX hK
  refine ⟨M.1 22 0 0, a, hd.1.1, rfl, fun x p hx ha hl => hK 0 _ (by decide) (fun K2 KX2 hK2 => ?_), fun hn => hK 1 M (by decide) (fun K2 KX2 hK2 => ?_), fun hr hn => hK 2 M (by decide) (fun K2 KX2 hK2 => ?_)⟩
  · rw [← ha] at hl
    refine ⟨a, w, rfl, fun x' p' hx' ha' hl' => ?_, fun hn => absurd (by rw [ha]; exact rg_of (by omega) (by omega) (by omega)) hn, fun _ hn => ?_⟩
    · rw [← ha'] at hl'
      have e : some p = some p' := hl.symm.trans hl'
      cases e
      exact hK2 _ _ q_si_3 (fun g => nomatch g) (fun _ => w_out (M := M) rfl) (LI_o hi rfl rfl)
    · have e : some p = none := hl.symm.trans hn
      cases e
  · refine ⟨a, w, rfl, fun x' p' hx' ha' hl' => absurd (by rw [ha']; exact rg_of (by omega) (by omega) (by omega)) hn, fun _ => ?_, fun hr => absurd hr hn⟩
    exact hK2 _ _ q_si_3 (fun g => nomatch g) (fun g => absurd g (by decide)) (LI_o hi rfl rfl)
  · refine ⟨a, w, rfl, fun x' p' hx' ha' hl' => ?_, fun hn2 => absurd hr hn2, fun _ _ => ?_⟩
    · rw [← ha'] at hl'
      have e : some p' = none := hl'.symm.trans hn
      cases e
    · exact hK2 _ _ q_si_3 (fun g => nomatch g) (fun g => absurd g (by decide)) (LI_o hi rfl rfl)
theorem jw_leaseLeft {c : Nat} {M : Q_M} (hi : LI c M) (a : Int32) : j_P false pL_leaseLeft pX9_leaseLeft [w_x, .inl a, w_o] [w_m, .inl a] (c + 1) M := by
  obtain ⟨h, n, tx, B, C, U, hd, -⟩ := id hi
  have w : s_wf (M.1 22 0 0) := hd.1.1.1
  intro K KX hK
  refine ⟨M.1 22 0 0, a, hd.1.1, rfl, fun x p hx ha hl => hK 0 _ (by decide) (fun K2 KX2 hK2 => ?_), fun hn => hK 1 M (by decide) (fun K2 KX2 hK2 => ?_), fun hr hn => hK 2 M (by decide) (fun K2 KX2 hK2 => ?_)⟩
  · rw [← ha] at hl
    refine ⟨a, w, rfl, fun x' p' hx' ha' hl' => ?_, fun hn => absurd (by rw [ha]; exact rg_of (by omega) (by omega) (by omega)) hn, fun _ hn => ?_⟩
    · rw [← ha'] at hl'
      have e : some p = some p' := hl.symm.trans hl'
      cases e
      exact hK2 _ _ q_si_3 (fun g => nomatch g) (fun _ => w_out (M := M) rfl) (LI_o hi rfl rfl)
    · have e : some p = none := hl.symm.trans hn
      cases e
  · refine ⟨a, w, rfl, fun x' p' hx' ha' hl' => absurd (by rw [ha']; exact rg_of (by omega) (by omega) (by omega)) hn, fun _ => ?_, fun hr => absurd hr hn⟩
    exact hK2 _ _ q_si_3 (fun g => nomatch g) (fun g => absurd g (by decide)) (LI_o hi rfl rfl)
  · refine ⟨a, w, rfl, fun x' p' hx' ha' hl' => ?_, fun hn2 => absurd hr hn2, fun _ _ => ?_⟩
    · rw [← ha'] at hl'
      have e : some p' = none := hl'.symm.trans hn
      cases e
    · exact hK2 _ _ q_si_3 (fun g => nomatch g) (fun g => absurd g (by decide)) (LI_o hi rfl rfl)
theorem jw_waitOf {c : Nat} {M : Q_M} (hi : LI c M) (a : Int32) : j_P false pL_waitOf pX9_waitOf [w_x, .inl a, w_o] [w_m, .inl a] (c + 1) M := by
  obtain ⟨h, n, tx, B, C, U, hd, -⟩ := id hi
  have w : s_wf (M.1 22 0 0) := hd.1.1.1
  intro K KX hK
  refine ⟨M.1 22 0 0, a, hd.1.1, rfl, fun x p hx ha hl => hK 0 _ (by decide) (fun K2 KX2 hK2 => ?_), fun hn => hK 1 M (by decide) (fun K2 KX2 hK2 => ?_), fun hr hn => hK 2 M (by decide) (fun K2 KX2 hK2 => ?_)⟩
  · rw [← ha] at hl
    refine ⟨a, w, rfl, fun x' p' hx' ha' hl' => ?_, fun hn => absurd (by rw [ha]; exact rg_of (by omega) (by omega) (by omega)) hn, fun _ hn => ?_⟩
    · rw [← ha'] at hl'
      have e : some p = some p' := hl.symm.trans hl'
      cases e
      exact hK2 _ _ q_si_3 (fun g => nomatch g) (fun _ => w_out (M := M) rfl) (LI_o hi rfl rfl)
    · have e : some p = none := hl.symm.trans hn
      cases e
  · refine ⟨a, w, rfl, fun x' p' hx' ha' hl' => absurd (by rw [ha']; exact rg_of (by omega) (by omega) (by omega)) hn, fun _ => ?_, fun hr => absurd hr hn⟩
    exact hK2 _ _ q_si_3 (fun g => nomatch g) (fun g => absurd g (by decide)) (LI_o hi rfl rfl)
  · refine ⟨a, w, rfl, fun x' p' hx' ha' hl' => ?_, fun hn2 => absurd hr hn2, fun _ _ => ?_⟩
    · rw [← ha'] at hl'
      have e : some p' = none := hl'.symm.trans hn
      cases e
    · exact hK2 _ _ q_si_3 (fun g => nomatch g) (fun g => absurd g (by decide)) (LI_o hi rfl rfl)
theorem jw_queueOf {c : Nat} {M : Q_M} (hi : LI c M) (a : Int32) : j_P false pL_queueOf pX9_queueOf [w_x, .inl a, w_o] [w_m, .inl a] (c + 1) M := by
  obtain ⟨h, n, tx, B, C, U, hd, -⟩ := id hi
  have w : s_wf (M.1 22 0 0) := hd.1.1.1
  intro K KX hK
  refine ⟨M.1 22 0 0, a, hd.1.1, rfl, fun x p hx ha hl => hK 0 _ (by decide) (fun K2 KX2 hK2 => ?_), fun hn => hK 1 M (by decide) (fun K2 KX2 hK2 => ?_), fun hr hn => hK 2 M (by decide) (fun K2 KX2 hK2 => ?_)⟩
  · rw [← ha] at hl
    refine ⟨a, w, rfl, fun x' p' hx' ha' hl' => ?_, fun hn => absurd (by rw [ha]; exact rg_of (by omega) (by omega) (by omega)) hn, fun _ hn => ?_⟩
    · rw [← ha'] at hl'
      have e : some p = some p' := hl.symm.trans hl'
      cases e
      exact hK2 _ _ q_si_3 (fun g => nomatch g) (fun _ => w_out (M := M) rfl) (LI_o hi rfl rfl)
    · have e : some p = none := hl.symm.trans hn
      cases e
  · refine ⟨a, w, rfl, fun x' p' hx' ha' hl' => absurd (by rw [ha']; exact rg_of (by omega) (by omega) (by omega)) hn, fun _ => ?_, fun hr => absurd hr hn⟩
    exact hK2 _ _ q_si_3 (fun g => nomatch g) (fun g => absurd g (by decide)) (LI_o hi rfl rfl)
  · refine ⟨a, w, rfl, fun x' p' hx' ha' hl' => ?_, fun hn2 => absurd hr hn2, fun _ _ => ?_⟩
    · rw [← ha'] at hl'
      have e : some p' = none := hl'.symm.trans hn
      cases e
    · exact hK2 _ _ q_si_3 (fun g => nomatch g) (fun g => absurd g (by decide)) (LI_o hi rfl rfl)
