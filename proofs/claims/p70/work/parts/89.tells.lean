-- WHAT THE WRAPPERS TELL, FOR THE LAW'S LOOK AT THE WHOLE
section TD
variable {M : Q_M} {S : Nat → Int32} {k : Nat} {K : Option Q_V → Q_M → Prop}
theorem t_closedFor (hR : RC 0 M S) (hk : k < 5) (hK : K (some (.inl (S (215 + k)))) M) : pL_closedFor [w_x, .inl (nI k)] M K (fun _ _ => False) := ⟨S, nI k, hR, rfl, fun p hp e => by rw [show p = k from ((nI_eq (by omega) (by omega)).mp e).symm]; exact hK, fun g => absurd ⟨nI_le (by omega) (by omega), nI_le (by omega) (by omega)⟩ g⟩
theorem t_numberAt' (hR : RC 0 M S) (hk : k < s_n S) {a : Int32} (ha : a = nI k) (hK : K (some (.inl (S (1 + 12 * k)))) M) : pL_numberAt [w_x, .inl a] M K (fun _ _ => False) := by
  subst ha
  exact t_numberAt hR hk hK
theorem t_waiter (hR : RC 0 M S) (hk : k < s_q S) (hK : K (some (.inl (S (146 + 3 * k)))) M) : pL_waiter [w_x, .inl (nI k)] M K (fun _ _ => False) := by
  have h20 := hR.1.2.1.2
  refine ⟨S, nI k, hR, rfl, fun p hp e => by rw [show p = k from ((nI_eq (by omega) (by omega)).mp e).symm]; exact hK, fun g => absurd ⟨nI_le (by omega) (by omega), ?_⟩ g⟩
  rw [hR.1.2.1.1, show nI (s_q S) - nI 1 = nI (s_q S - 1) from pk_sub (by omega)]
  exact nI_le (by omega) (by omega)
theorem t_place (hR : RC 0 M S) (hk : k < 20) {p : Nat} (hp : s_lk S (nI k) (s_n S) = some p) (hK : K (some (.inl (nI p))) M) : pL_place [w_x, .inl (nI k)] M K (fun _ _ => False) := ⟨S, nI k, hR, rfl, fun x q hx e h => by
    rw [← e, hp] at h
    cases h
    exact hK, fun g => absurd (t_rg hk) g, fun _ g => by rw [hp] at g; cases g⟩
theorem t_leaseLeft (hR : RC 0 M S) (hk : k < 20) {p : Nat} (hp : s_lk S (nI k) (s_n S) = some p) (hK : K (some (.inl (s_ll S p))) M) : pL_leaseLeft [w_x, .inl (nI k)] M K (fun _ _ => False) := ⟨S, nI k, hR, rfl, fun x q hx e h => by
    rw [← e, hp] at h
    cases h
    exact hK, fun g => absurd (t_rg hk) g, fun _ g => by rw [hp] at g; cases g⟩
theorem t_waitOf (hR : RC 0 M S) (hk : k < 20) {p : Nat} (hp : s_qd S (nI k) (s_q S) = some p) (hK : K (some (.inl (S 206 - S (148 + 3 * p)))) M) : pL_waitOf [w_x, .inl (nI k)] M K (fun _ _ => False) := ⟨S, nI k, hR, rfl, fun x q hx e h => by
    rw [← e, hp] at h
    cases h
    exact hK, fun g => absurd (t_rg hk) g, fun _ g => by rw [hp] at g; cases g⟩
theorem t_nextLent (hR : RC 0 M S) {p : Nat} (hp : s_nx S = some p) (hK : K (some (.inl (nI p))) M) : pL_nextLent [w_x] M K (fun _ _ => False) := ⟨S, hR, rfl, fun q h => by
    rw [hp] at h
    cases h
    exact hK, fun g => by rw [hp] at g; cases g⟩
theorem t_nextLentX (hR : RC 0 M S) (hp : s_nx S = none) (hK : K (some (.inl (-2000001))) M) : pL_nextLent [w_x] M K (fun _ _ => False) := ⟨S, hR, rfl, fun q h => (by rw [hp] at h; cases h), fun _ => hK⟩
theorem t_idleWith (hR : RC 0 M S) (hk : k < 30) (hK : K (some (.inl (nI (s_iw S (nI k) (s_n S))))) M) : pL_idleWith [w_x, .inl (nI k)] M K (fun _ _ => False) := ⟨S, nI k, hR, rfl, fun _ => hK, fun g => absurd ⟨nI_le (by omega) (by omega), nI_le (by omega) (by omega)⟩ g⟩
theorem t_c {w : s_wf S} (hk : k < s_n S) : S (8 + 12 * k) = nI (s_c S k) ∧ s_c S k ≤ 4 := by
  obtain ⟨-, -, c, hc, e⟩ := w.2.2.2.2.2.1 k hk
  have : s_c S k = c := by
    unfold s_c
    rw [e]
    exact nI_clamp (by omega)
  rw [this]
  exact ⟨e, hc⟩
theorem t_nut (hR : RC 0 M S) (hk : k < s_n S) {i : Nat} (hi : i < s_c S k) (hK : K (some (.inl (S (9 + 12 * k + i)))) M) : pL_nut [w_x, .inl (nI k), .inl (nI i)] M K (fun _ _ => False) := by
  obtain ⟨e8, c4⟩ := t_c (w := hR.1) hk
  refine ⟨S, nI k, nI i, hR, rfl, fun p q hp e hq eq => ?_, fun g => absurd (t_lp hR.1 hk) g, fun p hp e g => absurd ⟨nI_le (by omega) (by omega), ?_⟩ g⟩
  · have ep := t_inj hR.1 hk hp e
    subst ep
    rw [show q = i from ((nI_eq (by omega) (by omega)).mp eq).symm]
    exact hK
  · have ep := t_inj hR.1 hk hp e
    subst ep
    rw [e8, show nI (s_c S p) - nI 1 = nI (s_c S p - 1) from pk_sub (by omega)]
    exact nI_le (by omega) (by omega)
theorem t_toServe {h : Nat} {G : Nat → Nat → Int32} {kb : Nat → Int32} {T : Nat → Nat → Int32} {n : Nat} {tx : Nat → Nat} (hc : CV M S h G kb T n tx) (hk : k < 20) {p : Nat} (hp : s_qd S (nI k) (s_q S) = some p) (hK : ∀ M', CV M' S h G kb T n tx → K (some (.inl (nI (s_ts k 99 0 S)))) M') : pL_toServe [w_x, .inl (nI k)] M K (fun _ _ => False) := ⟨S, h, G, kb, T, n, tx, nI k, hc, rfl, fun x q hx e _ M' hc' _ => by rw [show x = k from ((nI_eq (by omega) (by omega)).mp e).symm]; exact hK M' hc', fun g => absurd (t_rg hk) g, fun _ g => by rw [hp] at g; cases g⟩
end TD
-- facts of one connection, as the comparisons ask
section TE
variable {S : Nat → Int32} {k B : Nat} {e : Int}
theorem u_num (h : IV S B e) (hk : k < s_n S) (h0 : 0 < k) : ¬ S (1 + 12 * k) ≤ S (1 + 12 * (k - 1)) := by
  have := h.2.2.1 (k - 1) k (by omega) hk
  rw [Int32.le_iff_toInt_le]
  unfold iv at this
  omega
theorem u_opened (h : IV S B e) (hk : k < s_n S) : ¬ S 214 < S (1 + 12 * k) := by
  have := (h.2.1 k hk).1.2
  rw [Int32.lt_iff_toInt_lt]
  unfold iv at this
  omega
theorem u_age (h : IV S B e) (hB : B < 1000000000) (hk : k < s_n S) : ¬ S 206 - S (2 + 12 * k) < S 206 - S (5 + 12 * k) := by
  obtain ⟨t1, t2⟩ := l_times h hB hk
  have := (h.2.1 k hk).2.1
  rw [Int32.lt_iff_toInt_lt, t1, t2]
  omega
theorem u_since (h : IV S B e) (hB : B < 1000000000) (hk : k < s_n S) : ¬ S 206 - S (5 + 12 * k) < 0 := by
  obtain ⟨t1, t2⟩ := l_times h hB hk
  have := (h.2.1 k hk).2.1
  exact i_ge (by rw [t2]; omega)
theorem u_lent (h : IV S B e) (hk : k < s_n S) (hi : ¬ S (3 + 12 * k) = -1) : ¬ S (7 + 12 * k) ≤ 0 := by
  have : 1 ≤ (S (7 + 12 * k)).toInt := (h.2.1 k hk).2.2.2.2 hi
  rw [Int32.le_iff_toInt_le]
  show ¬ (S (7 + 12 * k)).toInt ≤ 0
  omega
theorem u_served (h : IV S B 0) : ¬ S 220 < S 222 := by
  have : (S 222).toInt + 0 ≤ (S 220).toInt := h.1.2.2.2.2.1
  rw [Int32.lt_iff_toInt_lt]
  omega
theorem u_cf_s (hi : S (3 + 12 * k) < 0) : s_cf S (k + 1) = s_cf S k + 1 := by
  show s_cf S k + (if S (3 + 12 * k) < 0 then 1 else 0) = _
  rw [if_pos hi]
theorem u_cf_n (hi : ¬ S (3 + 12 * k) < 0) : s_cf S (k + 1) = s_cf S k := by
  show s_cf S k + (if S (3 + 12 * k) < 0 then 1 else 0) = _
  rw [if_neg hi, Nat.add_zero]
theorem u_hv_s (hi : ¬ s_lk S (nI k) (s_n S) = none) : s_hv S (k + 1) = s_hv S k + 1 := by
  show s_hv S k + (if s_lk S (nI k) (s_n S) = none then 0 else 1) = _
  rw [if_neg hi]
theorem u_hv_n (hi : s_lk S (nI k) (s_n S) = none) : s_hv S (k + 1) = s_hv S k := by
  show s_hv S k + (if s_lk S (nI k) (s_n S) = none then 0 else 1) = _
  rw [if_pos hi, Nat.add_zero]
theorem u_both (w : s_wf S) {p j : Nat} (hp : s_lk S (nI k) (s_n S) = some p) (hj : s_qd S (nI k) (s_q S) = some j) : False := by
  obtain ⟨h1, h2⟩ := s_lk_lt hp
  obtain ⟨g1, g2⟩ := s_qd_lt hj
  exact w.2.2.2.2.2.2.2.2.2 p j h1 g1 (h2.trans g2.symm)
end TE
def l_gk (S : Nat → Int32) : Nat → Int32
  | 0 => nI 0
  | k + 1 => l_gk S k + S (215 + k)
theorem l_gk5 {S : Nat → Int32} : l_gk S 5 = s_cs S := rfl
