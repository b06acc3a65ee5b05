-- CLOSING AND OPENING
theorem q_upd_eq {f : Nat → Int32} {k : Nat} {x : Int32} : upd f k x k = x := if_pos rfl
theorem q_upd_ne {f : Nat → Int32} {k j : Nat} {x : Int32} (h : j ≠ k) : upd f k x j = f j := if_neg h
/-- a row whose entries from a on came down by 12, as far as k -/
def s_dn (S : Nat → Int32) (w a k : Nat) : Nat → Int32 := fun i => if a ≤ i ∧ i < k then S (i + w) else S i
theorem s_dn_0 {S : Nat → Int32} {w a : Nat} : s_dn S w a a = S := by
  funext i
  exact if_neg (by omega)
theorem s_dn_1 {S : Nat → Int32} {w a k : Nat} (h : a ≤ k) (hw : 0 < w) : upd (s_dn S w a k) k (s_dn S w a k (k + w)) = s_dn S w a (k + 1) := by
  funext i
  unfold upd s_dn
  by_cases hi : i = k
  · subst hi
    rw [if_pos rfl, if_neg (by omega), if_pos (by omega)]
  · rw [if_neg hi]
    by_cases h2 : a ≤ i ∧ i < k
    · rw [if_pos h2, if_pos (by omega)]
    · rw [if_neg h2, if_neg (by omega)]
theorem s_dn_e {S : Nat → Int32} {w a k : Nat} {T : Nat → Int32} (h : ∀ i, T i = if a ≤ i ∧ i < k then S (i + w) else S i) : s_dn S w a k = T := funext fun i => (h i).symm
abbrev pX9_closes : Q_P := fun av M K KX => ∃ n p c : Nat, n ≤ 12 ∧ p < n ∧ c < 5 ∧ M.1 22 0 0 0 = nI n ∧ av = [.inr (.inl (21, 0, 0)), .inl (nI p), .inl (nI c)] ∧ K none (q_sa M (22, 0, 0) (s_cl (M.1 22 0 0) p c))
theorem cX9_closes_ct {l : Launch} {b : Bool} (hl0 : l.stackTraces = false) : q_Ct l b 160 pX9_closes := by
  refine q_meth (by decide +kernel) hl0 TX9_closes kX9_closes ?_
  intro av M K KX hwf
  rintro ⟨n, p, c, hn, hp, hc, h0, rfl, hK⟩
  refine ⟨Nat.le_of_ble_eq_true rfl, fun Z hz hw => ?_⟩
  obtain ⟨S, hS⟩ : ∃ S, S = M.1 22 0 0 := ⟨_, rfl⟩
  rw [← hS] at h0 hK
  have hsn := s_n_of h0 hn
  have h0' : S 0 - nI 1 = nI (n - 1) := by rw [h0]; exact pk_sub (by omega)
  obtain ⟨S1, hS1⟩ : ∃ S1, S1 = upd S 0 (S 0 - nI 1) := ⟨_, rfl⟩
  have hend : 1 + 12 * p ≤ 1 + 12 * (n - 1) := by omega
  have loop : ∀ d k : Nat, 1 + 12 * p ≤ k → k + d = 1 + 12 * (n - 1) → Z 0 15 [(3, .inl (nI k)), (0, .inr (.inl (21, 0, 0))), (1, .inl (nI p)), (2, .inl (nI c))] [] (q_sa M (22, 0, 0) (s_dn S1 12 (1 + 12 * p) k)) := by
    intro d
    induction d with
    | zero =>
      intro k hk1 hk
      have e0 : s_dn S1 12 (1 + 12 * p) k 0 = nI (n - 1) := by
        unfold s_dn
        rw [if_neg (by omega), hS1, q_upd_eq, h0']
      apply hz [15] 60
      refine Exists.intro 0 ⟨rfl, by decide, ?_⟩
      refine Exists.intro _ ⟨cX9_link_ct hl0, n - 1, congrArg (fun x => [Sum.inl x]) e0, ?_⟩
      refine And.intro (fun _ => ?_) (fun g => absurd (show nI (1 + 12 * (n - 1)) ≤ nI k from nI_le (by omega) (by omega)) g)
      refine Exists.intro (215 + c) ⟨nI_add 215 c, by omega, ?_⟩
      refine Exists.intro (215 + c) ⟨nI_add 215 c, by omega, ?_⟩
      refine q_K hK rfl ?_
      rw [q_si22, q_sa_sa]
      congr 1
      funext i
      show upd (s_dn S1 12 (1 + 12 * p) k) (215 + c) (s_dn S1 12 (1 + 12 * p) k (215 + c) + nI 1) i = s_cl S p c i
      unfold s_cl upd s_dn
      rw [hsn, hS1]
      unfold upd
      by_cases i0 : i = 215 + c
      · subst i0
        rw [if_pos rfl, if_neg (by omega), if_neg (by omega), if_neg (by omega), if_neg (by omega), if_pos rfl]
      · rw [if_neg i0]
        by_cases i1 : i = 0
        · subst i1
          rw [if_neg (by omega), if_pos rfl, if_pos rfl]
        · by_cases i2 : 1 + 12 * p ≤ i ∧ i < k
          · rw [if_pos i2, if_neg (by omega), if_neg i1, if_pos (by omega)]
          · rw [if_neg i2, if_neg i1, if_neg i1, if_neg (by omega), if_neg i0]
    | succ d ih =>
      intro k hk1 hk
      have e0 : s_dn S1 12 (1 + 12 * p) k 0 = nI (n - 1) := by
        unfold s_dn
        rw [if_neg (by omega), hS1, q_upd_eq, h0']
      apply hz [15] 60
      refine Exists.intro 0 ⟨rfl, by decide, ?_⟩
      refine Exists.intro _ ⟨cX9_link_ct hl0, n - 1, congrArg (fun x => [Sum.inl x]) e0, ?_⟩
      refine And.intro (fun g => absurd ((nI_leI (by omega) (by omega)).mp (show nI (1 + 12 * (n - 1)) ≤ nI k from g)) (by omega)) (fun _ => ?_)
      refine Exists.intro (k + 12) ⟨nI_add k 12, by omega, ?_⟩
      refine Exists.intro k ⟨rfl, by omega, ?_⟩
      have h := ih (k + 1) (by omega) (by omega)
      rw [← s_dn_1 hk1 (by decide), ← nI_add k 1] at h
      rw [q_si22, q_sa_sa]
      exact h
  apply hz [15] 60
  refine Exists.intro 0 ⟨rfl, by decide, ?_⟩
  refine Exists.intro 0 ⟨rfl, by decide, ?_⟩
  refine Exists.intro _ ⟨cX9_link_ct hl0, p, rfl, ?_⟩
  have h := loop _ (1 + 12 * p) (Nat.le_refl _) (Nat.add_sub_of_le hend)
  rw [s_dn_0, hS1, hS] at h
  rw [q_si22]
  exact h
abbrev pX9_opens : Q_P := fun av M K KX => ∃ n : Nat, n < 12 ∧ M.1 22 0 0 0 = nI n ∧ av = [.inr (.inl (21, 0, 0))] ∧ K (some (.inl (nI n))) (q_sa M (22, 0, 0) (s_op (M.1 22 0 0)))
theorem cX9_opens_ct {l : Launch} {b : Bool} (hl0 : l.stackTraces = false) : q_Ct l b 162 pX9_opens := by
  refine q_meth (by decide +kernel) hl0 TX9_opens kX9_opens ?_
  intro av M K KX hwf
  rintro ⟨n, hn, h0, rfl, hK⟩
  refine ⟨Nat.le_of_ble_eq_true rfl, fun Z hz hw => ?_⟩
  obtain ⟨S, hS⟩ : ∃ S, S = M.1 22 0 0 := ⟨_, rfl⟩
  rw [← hS] at h0 hK
  have hsn := s_n_of h0 (by omega)
  obtain ⟨S2, hS2⟩ : ∃ S2, S2 = upd (upd S 0 (S 0 + nI 1)) 214 ((upd S 0 (S 0 + nI 1)) 214 + nI 1) := ⟨_, rfl⟩
  have loop : ∀ d k : Nat, k + d = 12 → Z 0 31 [(2, .inl (nI k)), (1, .inl (nI n)), (0, .inr (.inl (21, 0, 0)))] [] (q_sa M (22, 0, 0) (fun i => if 1 + 12 * n ≤ i ∧ i < 1 + 12 * n + k then nI 0 else S2 i)) := by
    intro d
    induction d with
    | zero =>
      intro k hk
      have hk : k = 12 := by omega
      subst hk
      apply hz [31] 60
      refine And.intro (fun _ => ?_) (fun g => absurd (show nI 12 ≤ nI 12 from nI_le (Nat.le_refl _) (by decide)) g)
      refine Exists.intro _ ⟨cX9_link_ct hl0, n, rfl, ?_⟩
      refine Exists.intro 214 ⟨rfl, by decide, ?_⟩
      refine Exists.intro (1 + 12 * n) ⟨rfl, by omega, ?_⟩
      refine Exists.intro _ ⟨cX9_link_ct hl0, n, rfl, ?_⟩
      refine Exists.intro 206 ⟨rfl, by decide, ?_⟩
      refine Exists.intro (2 + 12 * n) ⟨(nI_add _ 1).trans (congrArg nI (by omega)), by omega, ?_⟩
      refine Exists.intro _ ⟨cX9_frees_ct hl0, n, hn, rfl, ?_⟩
      refine q_K hK rfl ?_
      rw [q_si22, q_si22, q_sa_sa, q_sa_sa, q_sa_sa]
      unfold s_op
      rw [hsn]
      subst hS2
      rfl
    | succ d ih =>
      intro k hk
      apply hz [31] 60
      refine And.intro (fun g => absurd ((nI_leI (by omega) (by omega)).mp (show nI 12 ≤ nI k from g)) (by omega)) (fun _ => ?_)
      refine Exists.intro _ ⟨cX9_link_ct hl0, n, rfl, ?_⟩
      refine Exists.intro (1 + 12 * n + k) ⟨nI_add _ k, by omega, ?_⟩
      have h := ih (k + 1) (by omega)
      rw [← nI_add k 1] at h
      have e : (fun i => if 1 + 12 * n ≤ i ∧ i < 1 + 12 * n + (k + 1) then nI 0 else S2 i) = upd (fun i => if 1 + 12 * n ≤ i ∧ i < 1 + 12 * n + k then nI 0 else S2 i) (1 + 12 * n + k) (nI 0) := by
        funext i
        unfold upd
        by_cases hi : i = 1 + 12 * n + k
        · rw [if_pos hi, if_pos (by omega)]
        · rw [if_neg hi]
          by_cases h2 : 1 + 12 * n ≤ i ∧ i < 1 + 12 * n + k
          · exact (if_pos (by omega)).trans (if_pos h2).symm
          · exact (if_neg (by omega)).trans (if_neg h2).symm
      rw [e] at h
      rw [q_si22, q_sa_sa]
      exact h
  apply hz [31] 60
  refine Exists.intro 0 ⟨rfl, by decide, ?_⟩
  refine Exists.intro 0 ⟨rfl, by decide, ?_⟩
  refine Exists.intro 0 ⟨rfl, by decide, ?_⟩
  refine Exists.intro 214 ⟨rfl, by decide, ?_⟩
  refine Exists.intro 214 ⟨rfl, by decide, ?_⟩
  have h := loop 12 0 (by decide)
  have e : (fun i => if 1 + 12 * n ≤ i ∧ i < 1 + 12 * n + 0 then nI 0 else S2 i) = S2 := funext fun i => if_neg (by omega)
  rw [e, hS2, hS, ← h0, hS] at h
  rw [q_si22, q_si22, q_sa_sa]
  exact h
