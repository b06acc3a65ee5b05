-- THE REFERENCE'S DIGEST
theorem h_s2 {S : Nat → Int32} (w : s_wf S) (g : Int64) : 31 * g + (S 0).toInt64 - (nI (s_cf S (s_n S))).toInt64 = h_a g (S 0 - nI (s_cf S (s_n S))).toInt64 := by
  have h := s_cf_le (S := S) (s_n S)
  have wn := w.1.2
  exact h_s1 ⟨s_n S, s_cf S (s_n S), by omega, by omega, w.1.1, rfl⟩ g
theorem s_oi_w {f : Option Nat} (h : ∀ p, f = some p → p < 1000) : s_oi f = -1 ∨ ∃ k : Nat, k < 1000 ∧ s_oi f = nI k := by
  cases f with
  | none => exact Or.inl rfl
  | some p => exact Or.inr ⟨p, h p rfl, rfl⟩
abbrev pX9_digest : Q_P := fun av M K KX => ∃ (n a b C U t : Nat) (tx : Nat → Nat), s_wf (M.1 22 0 0) ∧ ZV (M.1 22 0 0) C U ∧ C < 2 ^ 30 ∧ M.1 21 0 0 1 = nI n ∧ M.1 22 0 0 224 = nI a ∧ M.1 22 0 0 225 = nI b ∧ a + b ≤ 512 ∧ TV M t tx ∧ (∀ k, k < 2 → q_bit (M.1 23 0 0 k)) ∧ av = [.inr (.inl (21, 0, 0))] ∧ K (some (.inr (.inr (.inl (h_dg (M.1 22 0 0) n a b (M.1 23 0 0) t tx))))) (q_si M (21, 0, 0) 3 (nI 0))
theorem cX9_digest_ct {l : Launch} {b : Bool} (hl0 : l.stackTraces = false) : q_Ct l b 263 pX9_digest := by
  refine q_meth (by decide +kernel) hl0 TX9_digest kX9_digest ?_
  intro av M K KX hwf
  rintro ⟨n, a, b, C, U, t, tx, w, z, hC, hn, ha, hb, hab, hT, hkb, rfl, hK⟩
  refine ⟨Nat.le_of_ble_eq_true rfl, fun Z hz hw => ?_⟩
  obtain ⟨ht, h5, htx⟩ := hT
  obtain ⟨⟨w0, wn⟩, ⟨wq, wq2⟩, -⟩ := id w
  generalize hG : h_dg (M.1 22 0 0) n a b (M.1 23 0 0) t tx = G at hK
  unfold h_dg at hG
  have s401 : ∀ (d k : Nat) (g : Int64), k + d = t → h_tx tx d k g = G → Z 0 401 [(3, .inl (nI k)), (1, .inr (.inr (.inl g))), (0, .inr (.inl (21, 0, 0)))] [] M := by
    intro d
    induction d with
    | zero =>
      intro k g hk he
      rw [← he] at hK
      apply hz [401] 60
      exact And.intro (fun _ => hK) (fun (f : ¬ M.1 21 0 0 5 ≤ nI k) => absurd (by rw [h5]; exact nI_le (by omega) (by omega)) f)
    | succ d ih =>
      intro k g hk he
      rw [h_tx_s, ← (htx k (by omega)).1] at he
      apply hz [401] 60
      refine And.intro (fun (f : M.1 21 0 0 5 ≤ nI k) => absurd f (by rw [h5, nI_leI (by omega) (by omega)]; omega)) (fun _ => ?_)
      refine Exists.intro k ⟨rfl, by omega, ?_⟩
      have hh := ih (k + 1) _ (by omega) he
      rw [← nI_add] at hh
      exact hh
  have s387 : ∀ (x : Int32) (g : Int64), h_tx tx t 0 (h_a g (nI t).toInt64) = G → Z 0 387 [(3, .inl x), (1, .inr (.inr (.inl g))), (0, .inr (.inl (21, 0, 0)))] [] M := by
    intro x g he
    rw [← h5] at he
    apply hz [401] 60
    exact s401 t 0 _ (by omega) he
  have s354 : ∀ (k : Nat) (g : Int64), k < 2 → Z 0 354 [(3, .inl (nI (k + 1))), (1, .inr (.inr (.inl (h_a g (M.1 23 0 0 k).toInt64)))), (0, .inr (.inl (21, 0, 0)))] [] M → Z 0 354 [(3, .inl (nI k)), (1, .inr (.inr (.inl g))), (0, .inr (.inl (21, 0, 0)))] [] M := by
    intro k g hk hh
    have hb1 := q_bit_l (hkb k hk)
    rw [← nI_add] at hh
    apply hz [354] 60
    refine And.intro (fun (f : nI 2 ≤ nI k) => absurd ((nI_leI (by omega) (by omega)).mp f) (by omega)) (fun _ => ?_)
    refine Exists.intro k ⟨rfl, hk, ?_⟩
    refine And.intro (fun (f : M.1 23 0 0 k = 0) => ?_) (fun (f : ¬ M.1 23 0 0 k = 0) => ?_)
    · rw [hb1.2 f, ← q_t0] at hh
      exact hh
    · rw [hb1.1 f, ← q_t1] at hh
      exact hh
  have s354e : ∀ g : Int64, h_tx tx t 0 (h_a g (nI t).toInt64) = G → Z 0 354 [(3, .inl (nI 2)), (1, .inr (.inr (.inl g))), (0, .inr (.inl (21, 0, 0)))] [] M := by
    intro g he
    apply hz [387] 60
    exact And.intro (fun _ => s387 _ g he) (fun f => absurd (show nI 2 ≤ nI 2 from nI_le (by omega) (by omega)) f)
  have s305 : ∀ (x : Int32) (g : Int64), h_tx tx t 0 (h_a (h_kp (M.1 23 0 0) (h_a (h_a g (nI n).toInt64) (lN (f_bits a (a + b))))) (nI t).toInt64) = G → Z 0 305 [(3, .inl x), (1, .inr (.inr (.inl g))), (0, .inr (.inl (21, 0, 0)))] [] M := by
    intro x g he
    rw [← hn] at he
    apply hz [354] 100
    refine Exists.intro 224 ⟨rfl, by omega, ?_⟩
    refine Exists.intro 224 ⟨rfl, by omega, ?_⟩
    refine Exists.intro 225 ⟨rfl, by omega, ?_⟩
    refine Exists.intro _ ⟨cX9_bits_ct hl0, a, a + b, by omega, hab, ?_, ?_⟩
    · show ([.inl (M.1 22 0 0 224), .inl (M.1 22 0 0 224 + M.1 22 0 0 225)] : List Q_V) = _
      rw [ha, hb, nI_add]
    generalize lN (f_bits a (a + b)) = F at he ⊢
    exact s354 0 _ (by omega) (s354 1 _ (by omega) (s354e _ he))
  have s278 : ∀ (d k : Nat) (g : Int64), k + d = 12 → h_tx tx t 0 (h_a (h_kp (M.1 23 0 0) (h_a (h_a (h_r (M.1 22 0 0) 214 d k g) (nI n).toInt64) (lN (f_bits a (a + b))))) (nI t).toInt64) = G → Z 0 278 [(3, .inl (nI (214 + k))), (1, .inr (.inr (.inl g))), (0, .inr (.inl (21, 0, 0)))] [] M := by
    intro d
    induction d with
    | zero =>
      intro k g hk he
      apply hz [278, 305] 60
      refine And.intro (fun _ => s305 _ g he) (fun f => absurd (show nI 225 < nI (214 + k) from nI_lt (by omega) (by omega)) f)
    | succ d ih =>
      intro k g hk he
      rw [h_r_s] at he
      apply hz [278] 60
      refine And.intro (fun (f : nI 225 < nI (214 + k)) => absurd ((nI_ltI (by omega) (by omega)).mp f) (by omega)) (fun _ => ?_)
      refine Exists.intro (214 + k) ⟨rfl, by omega, ?_⟩
      have hh := ih (k + 1) _ (by omega) he
      rw [← Nat.add_assoc, ← nI_add (214 + k) 1] at hh
      exact hh
  have s258 : ∀ (x : Int32) (g : Int64), h_tx tx t 0 (h_a (h_kp (M.1 23 0 0) (h_ac (M.1 22 0 0) n a b g)) (nI t).toInt64) = G → Z 0 258 [(3, .inl x), (1, .inr (.inr (.inl g))), (0, .inr (.inl (21, 0, 0)))] [] M := by
    intro x g he
    unfold h_ac at he
    apply hz [278] 60
    refine Exists.intro 206 ⟨rfl, by omega, ?_⟩
    exact s278 12 0 _ rfl he
  have s231 : ∀ (d k : Nat) (g : Int64), k + d = 7 → h_tx tx t 0 (h_a (h_kp (M.1 23 0 0) (h_ac (M.1 22 0 0) n a b (h_r (M.1 22 0 0) 207 d k g))) (nI t).toInt64) = G → Z 0 231 [(3, .inl (nI (207 + k))), (1, .inr (.inr (.inl g))), (0, .inr (.inl (21, 0, 0)))] [] M := by
    intro d
    induction d with
    | zero =>
      intro k g hk he
      apply hz [231, 258] 60
      refine And.intro (fun _ => s258 _ g he) (fun f => absurd (show nI 213 < nI (207 + k) from nI_lt (by omega) (by omega)) f)
    | succ d ih =>
      intro k g hk he
      rw [h_r_s] at he
      apply hz [231] 60
      refine And.intro (fun (f : nI 213 < nI (207 + k)) => absurd ((nI_ltI (by omega) (by omega)).mp f) (by omega)) (fun _ => ?_)
      refine Exists.intro (207 + k) ⟨rfl, by omega, ?_⟩
      have hh := ih (k + 1) _ (by omega) he
      rw [← Nat.add_assoc, ← nI_add (207 + k) 1] at hh
      exact hh
  have s211 : ∀ (x : Int32) (g : Int64), h_tx tx t 0 (h_a (h_kp (M.1 23 0 0) (h_ac (M.1 22 0 0) n a b (h_st (M.1 22 0 0) (h_a g (M.1 22 0 0 145).toInt64)))) (nI t).toInt64) = G → Z 0 211 [(3, .inl x), (1, .inr (.inr (.inl g))), (0, .inr (.inl (21, 0, 0)))] [] M := by
    intro x g he
    unfold h_st at he
    apply hz [231] 60
    refine Exists.intro 145 ⟨rfl, by omega, ?_⟩
    exact s231 7 0 _ rfl he
  have lkw : ∀ k : Nat, s_oi (s_lk (M.1 22 0 0) (nI k) (s_n (M.1 22 0 0))) = -1 ∨ ∃ j : Nat, j < 1000 ∧ s_oi (s_lk (M.1 22 0 0) (nI k) (s_n (M.1 22 0 0))) = nI j := fun k => s_oi_w (fun p g => by have := (s_lk_lt g).1; omega)
  have qdw : ∀ k : Nat, s_oi (s_qd (M.1 22 0 0) (nI k) (s_q (M.1 22 0 0))) = -1 ∨ ∃ j : Nat, j < 1000 ∧ s_oi (s_qd (M.1 22 0 0) (nI k) (s_q (M.1 22 0 0))) = nI j := fun k => s_oi_w (fun p g => by have := (s_qd_lt g).1; omega)
  have s115 : ∀ (d k : Nat) (g : Int64), k + d = 20 → h_tx tx t 0 (h_a (h_kp (M.1 23 0 0) (h_ac (M.1 22 0 0) n a b (h_st (M.1 22 0 0) (h_a (h_qs (M.1 22 0 0) d k g) (M.1 22 0 0 145).toInt64)))) (nI t).toInt64) = G → Z 0 115 [(3, .inl (nI k)), (1, .inr (.inr (.inl g))), (0, .inr (.inl (21, 0, 0)))] [] M := by
    intro d
    induction d with
    | zero =>
      intro k g hk he
      apply hz [115, 211] 60
      exact And.intro (fun _ => s211 _ g he) (fun f => absurd (show nI 20 ≤ nI k from nI_le (by omega) (by omega)) f)
    | succ d ih =>
      intro k g hk he
      rw [h_qs_s] at he
      have hh := ih (k + 1) _ (by omega) he
      rw [← nI_add] at hh
      unfold h_sq at hh
      have s161 : ∀ g1 : Int64, g1 = h_a (h_a g (s_oi (s_lk (M.1 22 0 0) (nI k) (s_n (M.1 22 0 0))) + nI 1).toInt64) (h_lo (M.1 22 0 0) (s_lk (M.1 22 0 0) (nI k) (s_n (M.1 22 0 0)))) → Z 0 161 [(1, .inr (.inr (.inl g1))), (3, .inl (nI k)), (0, .inr (.inl (21, 0, 0)))] [] M := by
        intro g1 hg
        rw [← hg, ← h_p1 (qdw k)] at hh
        apply hz [115] 100
        refine Exists.intro _ ⟨cX9_queued_ct hl0, s_q (M.1 22 0 0), nI k, wq2, wq, rfl, ?_⟩
        refine Exists.intro _ ⟨cX9_queued_ct hl0, s_q (M.1 22 0 0), nI k, wq2, wq, rfl, ?_⟩
        cases hl : s_qd (M.1 22 0 0) (nI k) (s_q (M.1 22 0 0)) with
        | none =>
          rw [hl] at hh
          refine And.intro (fun f => absurd f (show ¬ (0 : Int32) ≤ s_oi none by decide)) (fun _ => ?_)
          have e0 : h_wo (M.1 22 0 0) none = (nI 0).toInt64 := q_t0.symm
          rw [e0] at hh
          exact hh
        | some m =>
          have hm := (s_qd_lt hl).1
          rw [hl] at hh
          refine And.intro (fun _ => ?_) (fun f => absurd (show (0 : Int32) ≤ nI m from nI_pos' (by omega)) f)
          refine Exists.intro _ ⟨cX9_queued_ct hl0, s_q (M.1 22 0 0), nI k, wq2, wq, rfl, ?_⟩
          rw [hl]
          refine Exists.intro _ ⟨cX9_waitsAt_ct hl0, m, by omega, rfl, ?_⟩
          exact hh
      rw [← h_p1 (lkw k)] at s161
      apply hz [161] 100
      refine And.intro (fun (f : nI 20 ≤ nI k) => absurd ((nI_leI (by omega) (by omega)).mp f) (by omega)) (fun _ => ?_)
      refine Exists.intro _ ⟨cX9_linkOf_ct hl0, s_n (M.1 22 0 0), nI k, wn, w0, rfl, ?_⟩
      refine Exists.intro _ ⟨cX9_linkOf_ct hl0, s_n (M.1 22 0 0), nI k, wn, w0, rfl, ?_⟩
      cases hl : s_lk (M.1 22 0 0) (nI k) (s_n (M.1 22 0 0)) with
      | none =>
        rw [hl] at s161
        refine And.intro (fun f => absurd f (show ¬ (0 : Int32) ≤ s_oi none by decide)) (fun _ => ?_)
        have e0 : h_lo (M.1 22 0 0) none = (nI 0).toInt64 := q_t0.symm
        rw [e0] at s161
        exact s161 _ rfl
      | some p =>
        have hp := (s_lk_lt hl).1
        rw [hl] at s161
        refine And.intro (fun _ => ?_) (fun f => absurd (show (0 : Int32) ≤ nI p from nI_pos' (by omega)) f)
        refine Exists.intro _ ⟨cX9_leaseOf_ct hl0, nI k, p, w, hl, rfl, ?_⟩
        exact s161 _ rfl
  have s55 : ∀ (x : Int32) (g : Int64), h_tx tx t 0 (h_a (h_kp (M.1 23 0 0) (h_ac (M.1 22 0 0) n a b (h_st (M.1 22 0 0) (h_a (h_qs (M.1 22 0 0) 20 0 (h_m (M.1 22 0 0) g)) (M.1 22 0 0 145).toInt64)))) (nI t).toInt64) = G → Z 0 55 [(3, .inl x), (1, .inr (.inr (.inl g))), (0, .inr (.inl (21, 0, 0)))] [] M := by
    intro x g he
    have hh := s115 20 0 _ rfl he
    unfold h_m at hh
    rw [← h_p1 (s_oi_w (fun p g => by have := s_nx_lt g; omega)), ← h_s2 w] at hh
    apply hz [115] 100
    refine Exists.intro _ ⟨cX9_countFree_ct hl0, s_n (M.1 22 0 0), wn, w0, rfl, ?_⟩
    refine Exists.intro 0 ⟨rfl, by omega, ?_⟩
    refine Exists.intro _ ⟨cX9_countFree_ct hl0, s_n (M.1 22 0 0), wn, w0, rfl, ?_⟩
    refine Exists.intro _ ⟨cX9_countHaving_ct hl0, w, rfl, ?_⟩
    refine Exists.intro _ ⟨cX9_lentNext_ct hl0, s_n (M.1 22 0 0), wn, w0, rfl, ?_⟩
    exact hh
  have s32 : ∀ (d k : Nat) (g : Int64), k + d = s_n (M.1 22 0 0) → h_tx tx t 0 (h_a (h_kp (M.1 23 0 0) (h_ac (M.1 22 0 0) n a b (h_st (M.1 22 0 0) (h_a (h_qs (M.1 22 0 0) 20 0 (h_m (M.1 22 0 0) (h_cs (M.1 22 0 0) d k g))) (M.1 22 0 0 145).toInt64)))) (nI t).toInt64) = G → Z 0 32 [(3, .inl (nI k)), (1, .inr (.inr (.inl g))), (0, .inr (.inl (21, 0, 0)))] [] M := by
    intro d
    induction d with
    | zero =>
      intro k g hk he
      apply hz [32, 55] 60
      refine Exists.intro 0 ⟨rfl, by omega, ?_⟩
      exact And.intro (fun _ => s55 _ g he) (fun (f : ¬ M.1 22 0 0 0 ≤ nI k) => absurd (by rw [w0]; exact nI_le (by omega) (by omega)) f)
    | succ d ih =>
      intro k g hk he
      rw [h_cs_s] at he
      apply hz [32] 60
      refine Exists.intro 0 ⟨rfl, by omega, ?_⟩
      refine And.intro (fun (f : M.1 22 0 0 0 ≤ nI k) => absurd f (by rw [w0, nI_leI (by omega) (by omega)]; omega)) (fun _ => ?_)
      refine Exists.intro _ ⟨cX9_hashOfLink_ct hl0, g, k, C, U, w, z, hC, by omega, rfl, ?_⟩
      have hh := ih (k + 1) _ (by omega) he
      rw [← nI_add] at hh
      exact hh
  have h32 := s32 (s_n (M.1 22 0 0)) 0 _ (by omega) hG
  rw [show lN 4363 = (4363 : Int64) by decide] at h32
  apply hz [32] 60
  refine Exists.intro 0 ⟨rfl, by omega, ?_⟩
  refine Exists.intro _ ⟨cX9_account_ct hl0, rfl, ?_⟩
  exact h32
