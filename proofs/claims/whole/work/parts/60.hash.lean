-- DIGESTS: THE REFERENCE
def h_cs (S : Nat → Int32) : Nat → Nat → Int64 → Int64
  | 0, _, h => h
  | d + 1, k, h => h_cs S d (k + 1) (h_cn S k h)
def h_qs (S : Nat → Int32) : Nat → Nat → Int64 → Int64
  | 0, _, h => h
  | d + 1, k, h => h_qs S d (k + 1) (h_sq S k h)
def h_tx (tx : Nat → Nat) : Nat → Nat → Int64 → Int64
  | 0, _, h => h
  | d + 1, k, h => h_tx tx d (k + 1) (h_a h (nI (tx k)).toInt64)
def h_m (S : Nat → Int32) (h : Int64) : Int64 := h_a (h_a (h_a (h_a h (nI (s_cf S (s_n S))).toInt64) (S 0 - nI (s_cf S (s_n S))).toInt64) (nI (s_hv S 20)).toInt64) (s_oi (s_nx S) + nI 1).toInt64
def h_kp (kb : Nat → Int32) (h : Int64) : Int64 := h_a (h_a h (kb 0).toInt64) (kb 1).toInt64
def h_h (S : Nat → Int32) (h : Int64) : Int64 := h_a (h_a h (S 0).toInt64) (s_ct S).toInt64
def h_dg (S : Nat → Int32) (n a b : Nat) (kb : Nat → Int32) (t : Nat) (tx : Nat → Nat) : Int64 := h_tx tx t 0 (h_a (h_kp kb (h_ac S n a b (h_st S (h_a (h_qs S 20 0 (h_m S (h_cs S (s_n S) 0 (h_h S (lN 4363))))) (S 145).toInt64)))) (nI t).toInt64)
theorem h_cs_s {S : Nat → Int32} {d k : Nat} {h : Int64} : h_cs S (d + 1) k h = h_cs S d (k + 1) (h_cn S k h) := rfl
theorem h_qs_s {S : Nat → Int32} {d k : Nat} {h : Int64} : h_qs S (d + 1) k h = h_qs S d (k + 1) (h_sq S k h) := rfl
theorem h_tx_s {tx : Nat → Nat} {d k : Nat} {h : Int64} : h_tx tx (d + 1) k h = h_tx tx d (k + 1) (h_a h (nI (tx k)).toInt64) := rfl
theorem h_p1 {x : Int32} (h : x = -1 ∨ ∃ k : Nat, k < 1000 ∧ x = nI k) (g : Int64) : 31 * g + x.toInt64 + lN 1 = h_a g (x + nI 1).toInt64 := by
  have e : (x + nI 1).toInt64 = x.toInt64 + lN 1 := by
    rcases h with rfl | ⟨k, hk, rfl⟩
    · decide
    · rw [nI_add, nI_l (by omega), nI_l (by omega), lN_add]
  unfold h_a
  rw [e, Int64.add_assoc]
theorem h_s1 {x y : Int32} (h : ∃ t u : Nat, t < 2 ^ 30 ∧ u < 2 ^ 30 ∧ x = nI t ∧ y = nI u) (g : Int64) : 31 * g + x.toInt64 - y.toInt64 = h_a g (x - y).toInt64 := by
  obtain ⟨t, u, ht, hu, rfl, rfl⟩ := h
  have e : (nI t - nI u).toInt64 = (nI t).toInt64 - (nI u).toInt64 := by
    apply Int64.toInt_inj.mp
    rw [Int32.toInt_toInt64, pk_sub_toInt ht hu, Int64.toInt_sub, Int32.toInt_toInt64, Int32.toInt_toInt64, nI_toInt (by omega), nI_toInt (by omega)]
    exact (Int.bmod_eq_of_le (by omega) (by omega)).symm
  unfold h_a
  rw [e, Int64.sub_eq_add_neg, Int64.sub_eq_add_neg, Int64.add_assoc]
abbrev pX9_hashOfLink : Q_P := fun av M K KX => ∃ (h : Int64) (p C U : Nat), s_wf (M.1 22 0 0) ∧ ZV (M.1 22 0 0) C U ∧ C < 2 ^ 30 ∧ p < s_n (M.1 22 0 0) ∧ av = [.inr (.inl (21, 0, 0)), .inr (.inr (.inl h)), .inl (nI p)] ∧ K (some (.inr (.inr (.inl (h_cn (M.1 22 0 0) p h))))) M
theorem cX9_hashOfLink_ct {l : Launch} {b : Bool} (hl0 : l.stackTraces = false) : q_Ct l b 262 pX9_hashOfLink := by
  refine q_meth (by decide +kernel) hl0 TX9_hashOfLink kX9_hashOfLink ?_
  intro av M K KX hwf
  rintro ⟨h, p, C, U, w, z, hC, hp, rfl, hK⟩
  refine ⟨Nat.le_of_ble_eq_true rfl, fun Z hz hw => ?_⟩
  have wn := w.1.2
  have hlok := w.2.2.2.2.2.1 p hp
  obtain ⟨c, hc, h8⟩ := hlok.2.2
  have ec : s_c (M.1 22 0 0) p = c := s_of h8 (by omega)
  obtain ⟨⟨t, ht, et⟩, hz2, -⟩ := z
  obtain ⟨u, hu, eu⟩ := hz2 p hp
  have ix : ∀ a b : Nat, a = b → M.1 22 0 0 a = M.1 22 0 0 b := fun a b e => congrArg _ e
  have loop : ∀ (d k : Nat) (g : Int64), k + d = c → h_r (M.1 22 0 0) (9 + 12 * p) d k g = h_cn (M.1 22 0 0) p h → Z 0 205 [(7, .inl (nI k)), (5, .inr (.inr (.inl g))), (4, .inl (nI (1 + 12 * p))), (0, .inr (.inl (21, 0, 0))), (1, .inr (.inr (.inl h))), (3, .inl (nI p))] [] M := by
    intro d
    induction d with
    | zero =>
      intro k g hk he
      rw [← he] at hK
      apply hz [205] 60
      refine Exists.intro (1 + 12 * p + 7) ⟨nI_add _ _, by omega, ?_⟩
      refine And.intro (fun _ => hK) (fun (f : ¬ M.1 22 0 0 (1 + 12 * p + 7) ≤ nI k) => absurd (by rw [ix _ (8 + 12 * p) (by omega), h8]; exact nI_le (by omega) (by omega)) f)
    | succ d ih =>
      intro k g hk he
      apply hz [205] 60
      refine Exists.intro (1 + 12 * p + 7) ⟨nI_add _ _, by omega, ?_⟩
      refine And.intro (fun (f : M.1 22 0 0 (1 + 12 * p + 7) ≤ nI k) => absurd f (by rw [ix _ (8 + 12 * p) (by omega), h8, nI_leI (by omega) (by omega)]; omega)) (fun _ => ?_)
      refine Exists.intro (1 + 12 * p + 8 + k) ⟨by show nI (1 + 12 * p) + nI 8 + nI k = _; rw [nI_add, nI_add], by omega, ?_⟩
      have hh := ih (k + 1) (h_a g (M.1 22 0 0 (1 + 12 * p + 8 + k)).toInt64) (by omega) (by
        rw [ix (1 + 12 * p + 8 + k) (9 + 12 * p + k) (by omega), ← h_r_s]
        exact he)
      rw [← nI_add] at hh
      exact hh
  have s158 : ∀ (x : Int32) (g : Int64), x.toInt64 = (if M.1 22 0 0 (3 + 12 * p) < 0 then (nI (s_tn (M.1 22 0 0) p (s_n (M.1 22 0 0))) + nI 1).toInt64 else lN 0) → h_r (M.1 22 0 0) (9 + 12 * p) c 0 (h_c5 (M.1 22 0 0) p (h_c4 (M.1 22 0 0) p g)) = h_cn (M.1 22 0 0) p h → Z 0 158 [(5, .inr (.inr (.inl g))), (4, .inl (nI (1 + 12 * p))), (0, .inr (.inl (21, 0, 0))), (1, .inr (.inr (.inl h))), (3, .inl (nI p))] [.inl x, .inr (.inr (.inl (31 * g)))] M := by
    intro x g hx he
    apply hz [205] 60
    refine Exists.intro (1 + 12 * p + 6) ⟨nI_add _ _, by omega, ?_⟩
    refine Exists.intro (1 + 12 * p + 7) ⟨nI_add _ _, by omega, ?_⟩
    refine loop c 0 _ (by omega) ?_
    rw [← he]
    unfold h_c5 h_c4
    rw [← hx, ix (1 + 12 * p + 6) (7 + 12 * p) (by omega), ix (1 + 12 * p + 7) (8 + 12 * p) (by omega)]
    rfl
  have s60 : ∀ (x : Int32) (g : Int64), x.toInt64 = h_b (M.1 22 0 0 (3 + 12 * p) < 0) → h_r (M.1 22 0 0) (9 + 12 * p) c 0 (h_c5 (M.1 22 0 0) p (h_c4 (M.1 22 0 0) p (h_c3 (M.1 22 0 0) p (h_a g (h_b (M.1 22 0 0 (3 + 12 * p) < 0)))))) = h_cn (M.1 22 0 0) p h → Z 0 60 [(5, .inr (.inr (.inl g))), (4, .inl (nI (1 + 12 * p))), (0, .inr (.inl (21, 0, 0))), (1, .inr (.inr (.inl h))), (3, .inl (nI p))] [.inl x, .inr (.inr (.inl (31 * g)))] M := by
    intro x g hx he
    have e3 : 31 * (31 * (31 * (31 * g + x.toInt64) + (M.1 22 0 0 (1 + 12 * p + 3)).toInt64) + (M.1 22 0 0 (1 + 12 * p + 2)).toInt64 + lN 1) + (M.1 22 0 0 206).toInt64 - (M.1 22 0 0 (1 + 12 * p + 4)).toInt64 = h_c3 (M.1 22 0 0) p (h_a g (h_b (M.1 22 0 0 (3 + 12 * p) < 0))) := by
      rw [ix (1 + 12 * p + 3) (4 + 12 * p) (by omega), ix (1 + 12 * p + 2) (3 + 12 * p) (by omega), ix (1 + 12 * p + 4) (5 + 12 * p) (by omega), h_p1, h_s1, hx]
      · rfl
      · exact ⟨t, u, by omega, by omega, et, eu⟩
      · rcases hlok.1 with f | ⟨y, hy, f⟩
        · exact Or.inl f
        · exact Or.inr ⟨y, by omega, f⟩
    apply hz [158] 100
    refine Exists.intro (1 + 12 * p + 3) ⟨nI_add _ _, by omega, ?_⟩
    refine Exists.intro (1 + 12 * p + 2) ⟨nI_add _ _, by omega, ?_⟩
    refine Exists.intro 206 ⟨rfl, by omega, ?_⟩
    refine Exists.intro (1 + 12 * p + 4) ⟨nI_add _ _, by omega, ?_⟩
    refine Exists.intro _ ⟨cX9_isFree_ct hl0, p, by omega, rfl, ?_⟩
    rw [← e3] at he
    by_cases cf : M.1 22 0 0 (3 + 12 * p) < 0
    · rw [q_bi_t cf]
      refine And.intro (fun f => absurd f q_n1) (fun _ => ?_)
      refine Exists.intro _ ⟨cX9_turn_ct hl0, p, w, hp, rfl, ?_⟩
      exact s158 _ _ (by rw [if_pos cf]; rfl) he
    · rw [q_bi_f cf]
      refine And.intro (fun _ => ?_) (fun f => absurd nI_0 f)
      exact s158 _ _ (by rw [if_neg cf]; exact q_t0) he
  apply hz [60] 100
  refine Exists.intro _ ⟨cX9_link_ct hl0, p, rfl, ?_⟩
  refine Exists.intro (1 + 12 * p) ⟨rfl, by omega, ?_⟩
  refine Exists.intro _ ⟨cX9_agesAt_ct hl0, p, by omega, rfl, ?_⟩
  refine Exists.intro _ ⟨cX9_isFree_ct hl0, p, by omega, rfl, ?_⟩
  have hend : h_r (M.1 22 0 0) (9 + 12 * p) c 0 (h_c5 (M.1 22 0 0) p (h_c4 (M.1 22 0 0) p (h_c3 (M.1 22 0 0) p (h_a (31 * (31 * h + (M.1 22 0 0 (1 + 12 * p)).toInt64) + (M.1 22 0 0 206 - M.1 22 0 0 (2 + 12 * p)).toInt64) (h_b (M.1 22 0 0 (3 + 12 * p) < 0)))))) = h_cn (M.1 22 0 0) p h := by
    rw [← ec]
    rfl
  by_cases cf : M.1 22 0 0 (3 + 12 * p) < 0
  · rw [q_bi_t cf]
    refine And.intro (fun f => absurd f q_n1) (fun _ => ?_)
    exact s60 _ _ (by rw [h_b_t cf]; exact q_t1) hend
  · rw [q_bi_f cf]
    refine And.intro (fun _ => ?_) (fun f => absurd nI_0 f)
    exact s60 _ _ (by rw [h_b_f cf]; exact q_t0) hend
