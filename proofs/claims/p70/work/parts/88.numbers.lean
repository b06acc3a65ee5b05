-- THE LAW'S NUMBER OF A SLOT
def nb0 (S : Nat → Int32) : Int32 :=
  let h1 := nI 31 * nI 127 + S 206 + nI 7 * S 214 + nI 101 * S 220
  let h2 := nI 31 * h1 + S 222 + nI 11 * S 223 + nI 5 * S 224 + nI 3 * S 225 + S 221
  nI 31 * h2 + S 207 + nI 13 * S 208 + nI 97 * S 209 + nI 7 * S 210 + nI 19 * S 211 + S 212 + (if S 213 = 0 then nI 0 else nI 1000)
def nb1 (S : Nat → Int32) : Nat → Int32
  | 0 => nb0 S
  | k + 1 => nI 31 * nb1 S k + S (1 + 12 * k) + nI 13 * (S 206 - S (5 + 12 * k)) + nI 2 * q_bi (S (3 + 12 * k) < 0) + S (4 + 12 * k) + nI 5 * S (8 + 12 * k) + (if S (3 + 12 * k) < 0 then nI 17 * nI (s_tn S k (s_n S)) else nI 0)
def nb2 (S : Nat → Int32) : Nat → Int32
  | 0 => nb1 S (s_n S)
  | k + 1 => nI 31 * nb2 S k + q_bi (¬ s_lk S (nI k) (s_n S) = none) + nI 2 * q_bi (¬ s_qd S (nI k) (s_q S) = none) + (match s_qd S (nI k) (s_q S) with | some j => nI 4 * nI j | none => nI 0)
def nbv (S : Nat → Int32) : Int32 := nb2 S 20
abbrev pL_numbers : Q_P := fun av M K KX => ∃ S : Nat → Int32, RC 0 M S ∧ av = [w_x] ∧ K (some (.inl (nbv S))) M
abbrev n_l (h : Int32) (k : Nat) : List (Nat × Q_V) := [(2, .inl (nI k)), (1, .inl h), (0, w_x)]
/-- the wrappers that tell of one connection -/
theorem t_lp {S : Nat → Int32} (w : s_wf S) {k : Nat} (hk : k < s_n S) : s_lp1 S (nI k) := (s_lp1_n w).mpr ⟨nI_pos (by have := w.1.2; omega), by rw [w.1.1]; exact nI_lt hk (by have := w.1.2; omega)⟩
theorem t_inj {S : Nat → Int32} (w : s_wf S) {k p : Nat} (hk : k < s_n S) (hp : p < s_n S) (h : nI k = nI p) : p = k := ((nI_eq (by have := w.1.2; omega) (by have := w.1.2; omega)).mp h).symm
section TC
variable {M : Q_M} {S : Nat → Int32} {k : Nat} {K : Option Q_V → Q_M → Prop}
theorem t_numberAt (hR : RC 0 M S) (hk : k < s_n S) (hK : K (some (.inl (S (1 + 12 * k)))) M) : pL_numberAt [w_x, .inl (nI k)] M K (fun _ _ => False) := ⟨S, nI k, hR, rfl, fun p hp e => by rw [t_inj hR.1 hk hp e]; exact hK, fun g => absurd (t_lp hR.1 hk) g⟩
theorem t_since (hR : RC 0 M S) (hk : k < s_n S) (hK : K (some (.inl (S 206 - S (5 + 12 * k)))) M) : pL_since [w_x, .inl (nI k)] M K (fun _ _ => False) := ⟨S, nI k, hR, rfl, fun p hp e => by rw [t_inj hR.1 hk hp e]; exact hK, fun g => absurd (t_lp hR.1 hk) g⟩
theorem t_ageAt (hR : RC 0 M S) (hk : k < s_n S) (hK : K (some (.inl (S 206 - S (2 + 12 * k)))) M) : pL_ageAt [w_x, .inl (nI k)] M K (fun _ _ => False) := ⟨S, nI k, hR, rfl, fun p hp e => by rw [t_inj hR.1 hk hp e]; exact hK, fun g => absurd (t_lp hR.1 hk) g⟩
theorem t_isIdle (hR : RC 0 M S) (hk : k < s_n S) (hK : K (some (.inl (q_bi (S (3 + 12 * k) < 0)))) M) : pL_isIdle [w_x, .inl (nI k)] M K (fun _ _ => False) := ⟨S, nI k, hR, rfl, fun p hp e => by rw [t_inj hR.1 hk hp e]; exact hK, fun g => absurd (t_lp hR.1 hk) g⟩
theorem t_isBroken (hR : RC 0 M S) (hk : k < s_n S) (hK : K (some (.inl (S (4 + 12 * k)))) M) : pL_isBroken [w_x, .inl (nI k)] M K (fun _ _ => False) := ⟨S, nI k, hR, rfl, fun p hp e => by rw [t_inj hR.1 hk hp e]; exact hK, fun g => absurd (t_lp hR.1 hk) g⟩
theorem t_nuts (hR : RC 0 M S) (hk : k < s_n S) (hK : K (some (.inl (S (8 + 12 * k)))) M) : pL_nuts [w_x, .inl (nI k)] M K (fun _ _ => False) := ⟨S, nI k, hR, rfl, fun p hp e => by rw [t_inj hR.1 hk hp e]; exact hK, fun g => absurd (t_lp hR.1 hk) g⟩
theorem t_lent (hR : RC 0 M S) (hk : k < s_n S) (hK : K (some (.inl (S (7 + 12 * k)))) M) : pL_lent [w_x, .inl (nI k)] M K (fun _ _ => False) := ⟨S, nI k, hR, rfl, fun p hp e => by rw [t_inj hR.1 hk hp e]; exact hK, fun g => absurd (t_lp hR.1 hk) g⟩
theorem t_turn (hR : RC 0 M S) (hk : k < s_n S) (hi : S (3 + 12 * k) < 0) (hK : K (some (.inl (nI (s_tn S k (s_n S))))) M) : pL_turn [w_x, .inl (nI k)] M K (fun _ _ => False) := ⟨S, nI k, hR, rfl, fun p hp e _ => by rw [t_inj hR.1 hk hp e]; exact hK, fun g => absurd (t_lp hR.1 hk) g, fun p hp e g => absurd (by rw [t_inj hR.1 hk hp e]; exact hi) g⟩
theorem t_turnX (hR : RC 0 M S) (hk : k < s_n S) (hi : ¬ S (3 + 12 * k) < 0) (hK : K (some (.inl (-2000002))) M) : pL_turn [w_x, .inl (nI k)] M K (fun _ _ => False) := ⟨S, nI k, hR, rfl, fun p hp e g => absurd g (by rw [t_inj hR.1 hk hp e]; exact hi), fun g => absurd (t_lp hR.1 hk) g, fun _ _ _ _ => hK⟩
theorem t_who (hR : RC 0 M S) (hk : k < s_n S) (hi : ¬ S (3 + 12 * k) < 0) (hK : K (some (.inl (S (3 + 12 * k)))) M) : pL_who [w_x, .inl (nI k)] M K (fun _ _ => False) := ⟨S, nI k, hR, rfl, fun p hp e _ => by rw [t_inj hR.1 hk hp e]; exact hK, fun g => absurd (t_lp hR.1 hk) g, fun p hp e g => absurd (by rw [← t_inj hR.1 hk hp e]; exact g) hi⟩
theorem t_whoX (hR : RC 0 M S) (hk : k < s_n S) (hi : S (3 + 12 * k) < 0) (hK : K (some (.inl (-2000002))) M) : pL_who [w_x, .inl (nI k)] M K (fun _ _ => False) := ⟨S, nI k, hR, rfl, fun p hp e g => absurd (by rw [t_inj hR.1 hk hp e]; exact hi) g, fun g => absurd (t_lp hR.1 hk) g, fun _ _ _ _ => hK⟩
theorem t_rg (hk : k < 20) : s_rg 0 19 (nI k) := ⟨nI_le (by omega) (by omega), nI_le (by omega) (by omega)⟩
theorem t_has (hR : RC 0 M S) (hk : k < 20) (hK : K (some (.inl (q_bi (¬ s_lk S (nI k) (s_n S) = none)))) M) : pL_has [w_x, .inl (nI k)] M K (fun _ _ => False) := ⟨S, nI k, hR, rfl, fun _ => hK, fun g => absurd (t_rg hk) g⟩
theorem t_waiting (hR : RC 0 M S) (hk : k < 20) (hK : K (some (.inl (q_bi (¬ s_qd S (nI k) (s_q S) = none)))) M) : pL_waiting [w_x, .inl (nI k)] M K (fun _ _ => False) := ⟨S, nI k, hR, rfl, fun _ => hK, fun g => absurd (t_rg hk) g⟩
theorem t_queueOf (hR : RC 0 M S) (hk : k < 20) {j : Nat} (hj : s_qd S (nI k) (s_q S) = some j) (hK : K (some (.inl (nI j))) M) : pL_queueOf [w_x, .inl (nI k)] M K (fun _ _ => False) := ⟨S, nI k, hR, rfl, fun x p hx e h => by
    rw [← e, hj] at h
    cases h
    exact hK, fun g => absurd (t_rg hk) g, fun _ g => by rw [hj] at g; cases g⟩
end TC
theorem q_bi_1 {p : Prop} [Decidable p] : q_bi p = nI 1 ↔ p := by
  unfold q_bi
  by_cases hp : p
  · rw [if_pos hp]; exact ⟨fun _ => hp, fun _ => rfl⟩
  · rw [if_neg hp]; exact ⟨fun g => absurd g (by decide), fun g => absurd g hp⟩
set_option maxRecDepth 100000 in
theorem cL_numbers_ct {l : Launch} {b : Bool} (hl0 : l.stackTraces = false) : q_Ct l b 147 pL_numbers := by
  refine q_methS (Or.inr (Or.inl rfl)) TL_numbers kL_numbers ?_
  intro av M K KX hwf
  rintro ⟨S, hR, rfl, hK⟩
  refine ⟨Nat.le_of_ble_eq_true rfl, fun Z hz hw => ?_⟩
  have hz : ∀ stops n z pc ls st M, q_vc2 9 147 250 (some .int) none (q_C2 l b) K TL_numbers Z stops n z pc ls st M → Z z pc ls st M := hz
  have w := hR.1
  have wn := w.1.2
  have loop2 : ∀ (d k z : Nat), k + d = 20 → z ≤ 100 + 6 * k → Z z 216 (n_l (nb2 S k) k) [] M := by
    intro d
    induction d with
    | zero =>
      intro k z hk hzz
      obtain rfl : k = 20 := by omega
      apply hz [216] 20
      exact And.intro (fun _ => hK) (fun g => absurd (show nI 20 ≤ nI 20 from nI_le (by omega) (by omega)) g)
    | succ d ih =>
      intro k z hk hzz
      apply hz [216, 260] 40
      refine And.intro (fun (g : nI 20 ≤ nI k) => absurd ((nI_leI (by omega) (by omega)).mp g) (by omega)) (fun _ => ?_)
      refine ⟨by omega, _, C2L (by decide) (by decide) (cL_has_ct hl0), t_has hR (by omega) ?_⟩
      refine ⟨by omega, _, C2L (by decide) (by decide) (cL_waiting_ct hl0), t_waiting hR (by omega) ?_⟩
      refine ⟨by omega, _, C2L (by decide) (by decide) (cL_waiting_ct hl0), t_waiting hR (by omega) ?_⟩
      have fin : ∀ (z : Nat) (v : Int32), z ≤ 100 + 6 * (k + 1) → (v = match s_qd S (nI k) (s_q S) with | some j => nI 4 * nI j | none => nI 0) → Z z 260 (n_l (nb2 S k) k) [.inl v, .inl (nI 31 * nb2 S k + q_bi (¬ s_lk S (nI k) (s_n S) = none) + nI 2 * q_bi (¬ s_qd S (nI k) (s_q S) = none))] M := by
        intro z v hzz hv
        apply hz [216] 20
        subst hv
        have h := ih (k + 1) z (by omega) hzz
        unfold n_l at h
        rw [← nI_add k 1] at h
        refine hw _ _ _ _ _ _ h (fun q hq => ?_)
        simp only [List.mem_cons, List.not_mem_nil, or_false] at hq
        rcases hq with rfl | rfl | rfl
        · exact List.Mem.head _
        · exact List.Mem.tail _ (List.Mem.head _)
        · exact List.Mem.tail _ (List.Mem.tail _ (List.Mem.head _))
      cases hj : s_qd S (nI k) (s_q S) with
      | none =>
        rw [hj] at fin
        refine And.intro (fun g => ?_) (fun g => ?_)
        · exact absurd (q_bi_1.mp g) (fun g => g rfl)
        · exact fin _ _ (by omega) rfl
      | some j =>
        rw [hj] at fin
        refine And.intro (fun g => ?_) (fun g => ?_)
        · refine ⟨by omega, _, C2L (by decide) (by decide) (cL_queueOf_ct hl0), t_queueOf hR (by omega) hj ?_⟩
          exact fin _ _ (by omega) rfl
        · exact absurd (q_bi_1.mpr (fun g => by cases g)) g
  have loop1 : ∀ (d k z : Nat), k + d = s_n S → z ≤ 8 * k → Z z 130 (n_l (nb1 S k) k) [] M := by
    intro d
    induction d with
    | zero =>
      intro k z hk hzz
      obtain rfl : k = s_n S := by omega
      apply hz [216] 20
      refine ⟨by omega, _, q_C2i rfl (cX8_livingByGoing_ct hl0), S, hR, rfl, ?_⟩
      refine And.intro (fun _ => ?_) (fun g => absurd (by rw [w.1.1]; exact nI_le (by omega) (by omega)) g)
      have h := loop2 20 0 _ (by omega) (show z ≤ 100 + 6 * 0 by omega)
      refine hw _ _ _ _ _ _ h (fun q hq => ?_)
      simp only [List.mem_cons, List.not_mem_nil, or_false] at hq
      rcases hq with rfl | rfl | rfl
      · exact List.Mem.head _
      · exact List.Mem.tail _ (List.Mem.head _)
      · exact List.Mem.tail _ (List.Mem.tail _ (List.Mem.head _))
    | succ d ih =>
      intro k z hk hzz
      have hkn : k < s_n S := by omega
      apply hz [130, 206] 80
      refine ⟨by omega, _, q_C2i rfl (cX8_livingByGoing_ct hl0), S, hR, rfl, ?_⟩
      refine And.intro (fun g => absurd (by rw [w.1.1] at g; exact (nI_leI (by omega) (by omega)).mp g) (show ¬ s_n S ≤ k by omega)) (fun _ => ?_)
      refine And.intro (fun (g : nI 12 ≤ nI k) => absurd ((nI_leI (by omega) (by omega)).mp g) (by omega)) (fun _ => ?_)
      refine ⟨by omega, _, C2L (by decide) (by decide) (cL_numberAt_ct hl0), t_numberAt hR hkn ?_⟩
      refine ⟨by omega, _, C2L (by decide) (by decide) (cL_since_ct hl0), t_since hR hkn ?_⟩
      refine ⟨by omega, _, C2L (by decide) (by decide) (cL_isIdle_ct hl0), t_isIdle hR hkn ?_⟩
      refine ⟨by omega, _, C2L (by decide) (by decide) (cL_isBroken_ct hl0), t_isBroken hR hkn ?_⟩
      refine ⟨by omega, _, C2L (by decide) (by decide) (cL_nuts_ct hl0), t_nuts hR hkn ?_⟩
      refine ⟨by omega, _, C2L (by decide) (by decide) (cL_isIdle_ct hl0), t_isIdle hR hkn ?_⟩
      have fin : ∀ (z : Nat) (v : Int32), z ≤ 8 * (k + 1) → (v = if S (3 + 12 * k) < 0 then nI 17 * nI (s_tn S k (s_n S)) else nI 0) → Z z 206 (n_l (nb1 S k) k) [.inl v, .inl (nI 31 * nb1 S k + S (1 + 12 * k) + nI 13 * (S 206 - S (5 + 12 * k)) + nI 2 * q_bi (S (3 + 12 * k) < 0) + S (4 + 12 * k) + nI 5 * S (8 + 12 * k))] M := by
        intro z v hzz hv
        apply hz [130] 20
        subst hv
        have h := ih (k + 1) z (by omega) hzz
        unfold n_l at h
        rw [← nI_add k 1] at h
        refine hw _ _ _ _ _ _ h (fun q hq => ?_)
        simp only [List.mem_cons, List.not_mem_nil, or_false] at hq
        rcases hq with rfl | rfl | rfl
        · exact List.Mem.head _
        · exact List.Mem.tail _ (List.Mem.head _)
        · exact List.Mem.tail _ (List.Mem.tail _ (List.Mem.head _))
      by_cases hi : S (3 + 12 * k) < 0
      · rw [if_pos hi] at fin
        refine And.intro (fun _ => ?_) (fun g => absurd (q_bi_1.mpr hi) g)
        refine ⟨by omega, _, C2L (by decide) (by decide) (cL_turn_ct hl0), t_turn hR hkn hi ?_⟩
        exact fin _ _ (by omega) rfl
      · rw [if_neg hi] at fin
        refine And.intro (fun g => absurd (q_bi_1.mp g) hi) (fun _ => ?_)
        exact fin _ _ (by omega) rfl
  have start : ∀ v h : Int32, v = nb0 S → Z 0 127 [(1, .inl h), (0, w_x)] [.inl v] M := by
    intro v h0 hv
    subst hv
    apply hz [130] 20
    have h := loop1 (s_n S) 0 0 (by omega) (by omega)
    refine hw _ _ _ _ _ _ h (fun q hq => ?_)
    simp only [List.mem_cons, List.not_mem_nil, or_false] at hq
    rcases hq with rfl | rfl | rfl
    · exact List.Mem.head _
    · exact List.Mem.tail _ (List.Mem.head _)
    · exact List.Mem.tail _ (List.Mem.tail _ (List.Mem.head _))
  apply hz [127] 120
  refine ⟨by omega, _, q_C2i rfl (cX8_time_ct hl0), S, hR, rfl, ?_⟩
  refine ⟨by omega, _, q_C2i rfl (cX8_opened_ct hl0), S, hR, rfl, ?_⟩
  refine ⟨by omega, _, q_C2i rfl (cX8_lendings_ct hl0), S, hR, rfl, ?_⟩
  refine ⟨by omega, _, q_C2i rfl (cX8_served_ct hl0), S, hR, rfl, ?_⟩
  refine ⟨by omega, _, q_C2i rfl (cX8_waited_ct hl0), S, hR, rfl, ?_⟩
  refine ⟨by omega, _, q_C2i rfl (cX8_hits_ct hl0), S, hR, rfl, ?_⟩
  refine ⟨by omega, _, q_C2i rfl (cX8_misses_ct hl0), S, hR, rfl, ?_⟩
  refine ⟨by omega, _, q_C2i rfl (cX8_impatient_ct hl0), S, hR, rfl, ?_⟩
  refine ⟨by omega, _, q_C2i rfl (cX8_most_ct hl0), S, hR, rfl, ?_⟩
  refine ⟨by omega, _, q_C2i rfl (cX8_leastIdle_ct hl0), S, hR, rfl, ?_⟩
  refine ⟨by omega, _, q_C2i rfl (cX8_ageLimit_ct hl0), S, hR, rfl, ?_⟩
  refine ⟨by omega, _, q_C2i rfl (cX8_restLimit_ct hl0), S, hR, rfl, ?_⟩
  refine ⟨by omega, _, q_C2i rfl (cX8_leaseLimit_ct hl0), S, hR, rfl, ?_⟩
  refine ⟨by omega, _, q_C2i rfl (cX8_patience_ct hl0), S, hR, rfl, ?_⟩
  refine ⟨by omega, _, q_C2i rfl (cX8_isLastFirst_ct hl0), S, hR, rfl, ?_⟩
  refine And.intro (fun g => ?_) (fun g => ?_)
  · refine start _ _ ?_
    unfold nb0
    rw [if_pos g]
    rfl
  · refine start _ _ ?_
    unfold nb0
    rw [if_neg g]
    rfl
