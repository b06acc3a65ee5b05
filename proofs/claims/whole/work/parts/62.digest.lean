-- THE CLASS'S DIGEST, BEHIND THE MAKING OF ITS HASH
theorem dg_walk {l : Launch} {b : Bool} (hl0 : l.stackTraces = false) {K : Option Q_V → Q_M → Prop} {KX : Nat → Q_M → Prop} {Z : Q_Z} {M : Q_M} {S : Nat → Int32} {h : Nat} {G : Nat → Nat → Int32} {kb : Nat → Int32} {T : Nat → Nat → Int32} {n : Nat} {tx : Nat → Nat} {a b' : Nat} (hz : ∀ (stops : List Nat) n z pc ls st M, q_vc (q_own 133) 133 (q_bud 133) (q_rt 133) none (fun _ _ => none) (q_Ct l b) K KX TX8_digest Z stops n z pc ls st M → Z z pc ls st M)
    (hc : CV M S h G kb T n tx) (ha : S 224 = nI a) (hb : S 225 = nI b') (hab : a + b' ≤ 1024) (hh : M.2.2 27 0 0 0 = lN 4363) (hK : ∀ C : Nat → Nat → Nat → Nat → Int64, K (some (.inr (.inr (.inl (h_dg S h a b' kb n tx))))) (M.1, M.2.1, C)) : Z 1 8 [(1, .inr (.inl (27, 0, 0))), (0, .inr (.inl (0, 0, 0)))] [] M := by
  obtain ⟨A, B, C0⟩ := M
  have hh : C0 27 0 0 0 = lN 4363 := hh
  have hR : ∀ C, RC 0 (A, B, C) S := fun C => hc.1
  have wn := hc.1.1.1
  have eS0 : A 10 0 0 1 = S 0 := hc.1.2.1.2.1
  have eq0 : A 12 0 0 0 = S 145 := hc.1.2.2.2.1.1
  have hh3 : A 3 0 0 0 = nI h := hc.2.2.1.2.1
  obtain ⟨hn, n0, ntx⟩ := hc.2.2.2.2
  have n0 : A 5 0 0 0 = nI n := n0
  have ntx : ∀ k, k < n → A 6 0 0 k = nI (tx k) ∧ 33 ≤ tx k ∧ tx k ≤ 126 := ntx
  have hkv : ∀ k, k < 2 → A 2 0 0 k = kb k ∧ q_bit (kb k) := fun k hk => ⟨(hc.2.2.2.1 k hk).2.1, (hc.2.2.2.1 k hk).2.2.1⟩
  have hK : ∀ C : Nat → Nat → Nat → Nat → Int64, K (some (.inr (.inr (.inl (h_dg S h a b' kb n tx))))) (A, B, C) := hK
  generalize hF : h_dg S h a b' kb n tx = F at hK
  unfold h_dg at hF
  have s182 : ∀ (d k : Nat) (C : Nat → Nat → Nat → Nat → Int64), k + d = n → h_tx tx d k (C 27 0 0 0) = F → Z 1 182 [(2, .inl (nI k)), (1, .inr (.inl (27, 0, 0))), (0, .inr (.inl (0, 0, 0)))] [] (A, B, C) := by
    intro d
    induction d with
    | zero =>
      intro k C hk he
      have hK := hK C
      rw [← he] at hK
      apply hz [182] 60
      exact And.intro (fun _ => hK) (fun (f : ¬ A 5 0 0 0 ≤ nI k) => absurd (by rw [n0]; exact nI_le (by omega) (by omega)) f)
    | succ d ih =>
      intro k C hk he
      rw [h_tx_s, ← (ntx k (by omega)).1] at he
      apply hz [182] 60
      refine And.intro (fun (f : A 5 0 0 0 ≤ nI k) => absurd f (by rw [n0, nI_leI (by omega) (by omega)]; omega)) (fun _ => ?_)
      refine Exists.intro k ⟨rfl, by omega, ?_⟩
      refine Exists.intro _ ⟨cX3_add_ct hl0, _, rfl, fun C1 e1 => ?_⟩
      have e1 : C1 27 0 0 0 = h_a (C 27 0 0 0) (A 6 0 0 k).toInt64 := e1
      have hh := ih (k + 1) C1 (by omega) (by rw [e1]; exact he)
      rw [← nI_add] at hh
      exact hh
  have s168 : ∀ (x : Int32) (C : Nat → Nat → Nat → Nat → Int64), h_tx tx n 0 (h_a (C 27 0 0 0) (nI n).toInt64) = F → Z 1 168 [(2, .inl x), (1, .inr (.inl (27, 0, 0))), (0, .inr (.inl (0, 0, 0)))] [] (A, B, C) := by
    intro x C he
    apply hz [182] 60
    refine Exists.intro _ ⟨cX3_add_ct hl0, _, rfl, fun C1 e1 => ?_⟩
    have e1 : C1 27 0 0 0 = h_a (C 27 0 0 0) (A 5 0 0 0).toInt64 := e1
    exact s182 n 0 C1 (by omega) (by rw [e1, n0]; exact he)
  have s139 : ∀ (k : Nat) (C : Nat → Nat → Nat → Nat → Int64), k < 2 → (∀ C1 : Nat → Nat → Nat → Nat → Int64, C1 27 0 0 0 = h_a (C 27 0 0 0) (kb k).toInt64 → Z 1 139 [(2, .inl (nI (k + 1))), (1, .inr (.inl (27, 0, 0))), (0, .inr (.inl (0, 0, 0)))] [] (A, B, C1)) → Z 1 139 [(2, .inl (nI k)), (1, .inr (.inl (27, 0, 0))), (0, .inr (.inl (0, 0, 0)))] [] (A, B, C) := by
    intro k C hk hh
    obtain ⟨ek, hb⟩ := hkv k hk
    have hb1 := q_bit_l hb
    rw [← nI_add] at hh
    apply hz [139] 60
    refine And.intro (fun (f : nI 2 ≤ nI k) => absurd ((nI_leI (by omega) (by omega)).mp f) (by omega)) (fun _ => ?_)
    refine Exists.intro k ⟨rfl, hk, ?_⟩
    refine And.intro (fun (f : A 2 0 0 k = 0) => ?_) (fun (f : ¬ A 2 0 0 k = 0) => ?_)
    · rw [ek] at f
      refine Exists.intro _ ⟨cX3_add_ct hl0, _, rfl, fun C1 e1 => hh C1 ?_⟩
      rw [hb1.2 f]
      exact e1
    · rw [ek] at f
      refine Exists.intro _ ⟨cX3_add_ct hl0, _, rfl, fun C1 e1 => hh C1 ?_⟩
      rw [hb1.1 f]
      exact e1
  have s139e : ∀ C : Nat → Nat → Nat → Nat → Int64, h_tx tx n 0 (h_a (h_kp kb (C 27 0 0 0)) (nI n).toInt64) = F → Z 1 139 [(2, .inl (nI 0)), (1, .inr (.inl (27, 0, 0))), (0, .inr (.inl (0, 0, 0)))] [] (A, B, C) := by
    intro C he
    refine s139 0 C (by omega) (fun C1 e1 => ?_)
    refine s139 1 C1 (by omega) (fun C2 e2 => ?_)
    have h168 := s168 (nI 2) C2 (by rw [e2, e1]; exact he)
    apply hz [168] 60
    exact And.intro (fun _ => h168) (fun f => absurd (show nI 2 ≤ nI 2 from nI_le (by omega) (by omega)) f)
  have s112 : ∀ (x : Int32) (C : Nat → Nat → Nat → Nat → Int64), h_tx tx n 0 (h_a (h_kp kb (h_ac S h a b' (h_st S (h_a (C 27 0 0 0) (S 145).toInt64)))) (nI n).toInt64) = F → Z 1 112 [(2, .inl x), (1, .inr (.inl (27, 0, 0))), (0, .inr (.inl (0, 0, 0)))] [] (A, B, C) := by
    intro x C he
    rw [← eq0] at he
    apply hz [139] 60
    refine Exists.intro _ ⟨cX3_add_ct hl0, _, rfl, fun C1 e1 => ?_⟩
    have e1 : C1 27 0 0 0 = h_a (C 27 0 0 0) (A 12 0 0 0).toInt64 := e1
    refine Exists.intro _ ⟨cX8_hashSettings_ct hl0, S, _, hR C1, rfl, rfl, fun C2 e2 => ?_⟩
    refine Exists.intro _ ⟨cX8_hashAccounts_ct hl0, S, h, a, b', _, hR C2, hh3, ha, hb, hab, rfl, rfl, fun C3 e3 => ?_⟩
    refine s139e C3 ?_
    rw [← e1] at he
    have e2 : C2 27 0 0 0 = h_st S (C1 27 0 0 0) := e2
    rw [← e2] at he
    have e3 : C3 27 0 0 0 = h_ac S h a b' (C2 27 0 0 0) := e3
    rw [← e3] at he
    exact he
  have s94 : ∀ (d k : Nat) (C : Nat → Nat → Nat → Nat → Int64), k + d = 20 → h_tx tx n 0 (h_a (h_kp kb (h_ac S h a b' (h_st S (h_a (h_qs S d k (C 27 0 0 0)) (S 145).toInt64)))) (nI n).toInt64) = F → Z 1 94 [(2, .inl (nI k)), (1, .inr (.inl (27, 0, 0))), (0, .inr (.inl (0, 0, 0)))] [] (A, B, C) := by
    intro d
    induction d with
    | zero =>
      intro k C hk he
      apply hz [94, 112] 60
      exact And.intro (fun _ => s112 _ C he) (fun f => absurd (show nI 20 ≤ nI k from nI_le (by omega) (by omega)) f)
    | succ d ih =>
      intro k C hk he
      rw [h_qs_s] at he
      apply hz [94] 60
      refine And.intro (fun (f : nI 20 ≤ nI k) => absurd ((nI_leI (by omega) (by omega)).mp f) (by omega)) (fun _ => ?_)
      refine Exists.intro _ ⟨cX8_hashSquirrel_ct hl0, S, k, _, hR C, by omega, rfl, rfl, fun C1 e1 => ?_⟩
      have e1 : C1 27 0 0 0 = h_sq S k (C 27 0 0 0) := e1
      have hh := ih (k + 1) C1 (by omega) (by rw [e1]; exact he)
      rw [← nI_add] at hh
      exact hh
  have s51 : ∀ (x : Int32) (C : Nat → Nat → Nat → Nat → Int64), h_tx tx n 0 (h_a (h_kp kb (h_ac S h a b' (h_st S (h_a (h_qs S 20 0 (h_m S (C 27 0 0 0))) (S 145).toInt64)))) (nI n).toInt64) = F → Z 1 51 [(2, .inl x), (1, .inr (.inl (27, 0, 0))), (0, .inr (.inl (0, 0, 0)))] [] (A, B, C) := by
    intro x C he
    apply hz [94] 60
    refine Exists.intro _ ⟨cX8_idle_ct hl0, S, hR C, rfl, ?_⟩
    refine Exists.intro _ ⟨cX3_add_ct hl0, _, rfl, fun C1 e1 => ?_⟩
    refine Exists.intro _ ⟨cX8_leasedByConnections_ct hl0, S, hR C1, rfl, ?_⟩
    refine Exists.intro _ ⟨cX3_add_ct hl0, _, rfl, fun C2 e2 => ?_⟩
    refine Exists.intro _ ⟨cX8_leasedBySquirrels_ct hl0, S, hR C2, rfl, ?_⟩
    refine Exists.intro _ ⟨cX3_add_ct hl0, _, rfl, fun C3 e3 => ?_⟩
    refine Exists.intro _ ⟨cX7_placeOfNext_ct hl0, 0, S, hR C3, rfl, ?_⟩
    refine Exists.intro _ ⟨cX3_add_ct hl0, _, rfl, fun C4 e4 => ?_⟩
    have e1 : C1 27 0 0 0 = h_a (C 27 0 0 0) (nI (s_cf S (s_n S))).toInt64 := e1
    have e2 : C2 27 0 0 0 = h_a (C1 27 0 0 0) (S 0 - nI (s_cf S (s_n S))).toInt64 := e2
    have e3 : C3 27 0 0 0 = h_a (C2 27 0 0 0) (nI (s_hv S 20)).toInt64 := e3
    have e4 : C4 27 0 0 0 = h_a (C3 27 0 0 0) (s_oi (s_nx S) + nI 1).toInt64 := e4
    refine s94 20 0 C4 rfl ?_
    unfold h_m at he
    rw [e4, e3, e2, e1]
    exact he
  have s28 : ∀ (d k : Nat) (C : Nat → Nat → Nat → Nat → Int64), k + d = s_n S → h_tx tx n 0 (h_a (h_kp kb (h_ac S h a b' (h_st S (h_a (h_qs S 20 0 (h_m S (h_cs S d k (C 27 0 0 0)))) (S 145).toInt64)))) (nI n).toInt64) = F → Z 1 28 [(2, .inl (nI k)), (1, .inr (.inl (27, 0, 0))), (0, .inr (.inl (0, 0, 0)))] [] (A, B, C) := by
    intro d
    induction d with
    | zero =>
      intro k C hk he
      apply hz [28, 51] 60
      exact And.intro (fun _ => s51 _ C he) (fun (f : ¬ A 10 0 0 1 ≤ nI k) => absurd (by rw [eS0, wn.1]; exact nI_le (by omega) (by omega)) f)
    | succ d ih =>
      intro k C hk he
      rw [h_cs_s] at he
      apply hz [28] 60
      refine And.intro (fun (f : A 10 0 0 1 ≤ nI k) => absurd f (by rw [eS0, wn.1, nI_leI (by omega) (by omega)]; omega)) (fun _ => ?_)
      refine Exists.intro _ ⟨cX8_hashConnection_ct hl0, S, k, _, hR C, by omega, rfl, rfl, fun C1 e1 => ?_⟩
      have e1 : C1 27 0 0 0 = h_cn S k (C 27 0 0 0) := e1
      have hh := ih (k + 1) C1 (by omega) (by rw [e1]; exact he)
      rw [← nI_add] at hh
      exact hh
  apply hz [28] 60
  refine Exists.intro _ ⟨cX8_livingByGoing_ct hl0, S, hR C0, rfl, ?_⟩
  refine Exists.intro _ ⟨cX3_add_ct hl0, _, rfl, fun C1 e1 => ?_⟩
  refine Exists.intro _ ⟨cX8_livingByAccount_ct hl0, S, hR C1, rfl, ?_⟩
  refine Exists.intro _ ⟨cX3_add_ct hl0, _, rfl, fun C2 e2 => ?_⟩
  have e1 : C1 27 0 0 0 = h_a (C0 27 0 0 0) (S 0).toInt64 := e1
  have e2 : C2 27 0 0 0 = h_a (C1 27 0 0 0) (s_ct S).toInt64 := e2
  refine s28 (s_n S) 0 C2 (by omega) ?_
  unfold h_h at hF
  rw [e2, e1, hh]
  exact hF
theorem kL_ticksToServe : q_chk (q_own 299) (q_ml 299) (q_fr 299) (q_lo 299) (q_b 299) TL_ticksToServe = true := by decide +kernel
abbrev pL_ticksToServe : Q_P := fun av M K KX => ∃ (S : Nat → Int32) (h : Nat) (G : Nat → Nat → Int32) (kb : Nat → Int32) (T : Nat → Nat → Int32) (n : Nat) (tx : Nat → Nat) (a : Int32), CV M S h G kb T n tx ∧ av = [.inr (.inl (0, 0, 0)), .inl a, .inr (.inl (25, 0, 0))] ∧ (∀ x p, x < 20 → a = nI x → s_qd S (nI x) (s_q S) = some p → ∀ M', CV M' S h G kb T n tx → q_fx M M' → K (some (.inl (nI 0))) (q_sl M' (25, 0, 0) 0 (nI (s_ts x 99 0 S)).toInt64)) ∧ (¬ s_rg 0 19 a → K (some (.inl (nI 1))) M) ∧ (s_rg 0 19 a → s_qd S a (s_q S) = none → K (some (.inl (nI 2))) M)
theorem cL_ticksToServe_ct {l : Launch} {b : Bool} (hl0 : l.stackTraces = false) : q_CtL l b 299 pL_ticksToServe := by
  refine q_methL (by decide) (by decide) TL_ticksToServe kL_ticksToServe ?_
  intro av M K hwf
  rintro ⟨S, h, G, kb, T, n, tx, a, hc, rfl, hK, hX, hX3⟩
  refine ⟨Nat.le_of_ble_eq_true rfl, fun Z hz => ?_⟩
  apply hz [] 60
  refine Exists.intro _ ⟨⟨rfl, cX8_ticksToServe_ct hl0⟩, S, h, G, kb, T, n, tx, a, hc, rfl, ?_, ?_, ?_⟩
  · refine fun y0 y1 y2 y3 y4 y5 y6 y7 => ?_
    refine Exists.intro 0 ⟨rfl, by decide, ?_⟩
    exact hK y0 y1 y2 y3 y4 y5 y6 y7
  · exact fun y0 => fun q => hX y0
  · exact fun y0 y1 => fun q => hX3 y0 y1
theorem kL_play : q_chk (q_own 277) (q_ml 277) (q_fr 277) (q_lo 277) (q_b 277) TL_play = true := by decide +kernel
abbrev pL_play : Q_P := fun av M K KX => ∃ (S : Nat → Int32) (h : Nat) (G : Nat → Nat → Int32) (kb : Nat → Int32) (T : Nat → Nat → Int32) (n : Nat) (tx : Nat → Nat) (B : Nat), CV M S h G kb T n tx ∧ XV S B ∧ av = [.inr (.inl (0, 0, 0)), .inr (.inl (25, 0, 0))] ∧ (¬ ((g_W n tx).1 = true ∧ (g_W n tx).2.1 = n) → ∀ M', CV M' S h G kb T n tx → q_fx M M' → K (some (.inl (nI 1))) M') ∧ ((g_W n tx).1 = true → (g_W n tx).2.1 = n → ¬ (s_pl (g_W n tx).2.2 S).1 = true → ∀ M', CV M' S h G kb T n tx → q_fx M M' → K (some (.inl (nI 2))) M') ∧ ((g_W n tx).1 = true → (g_W n tx).2.1 = n → (s_pl (g_W n tx).2.2 S).1 = true → ∀ M', CV M' (s_pl (g_W n tx).2.2 S).2 (s_h1 h) (s_hG h G S) kb T 0 tx → q_fx M M' → K (some (.inl (nI 0))) (q_sl M' (25, 0, 0) 0 ((s_pl (g_W n tx).2.2 S).2 0).toInt64))
theorem cL_play_ct {l : Launch} {b : Bool} (hl0 : l.stackTraces = false) : q_CtL l b 277 pL_play := by
  refine q_methL (by decide) (by decide) TL_play kL_play ?_
  intro av M K hwf
  rintro ⟨S, h, G, kb, T, n, tx, B, hc, v, rfl, hA, hB, hC⟩
  refine ⟨Nat.le_of_ble_eq_true rfl, fun Z hz => ?_⟩
  apply hz [] 60
  refine Exists.intro _ ⟨⟨rfl, cX8_play_ct hl0⟩, S, h, G, kb, T, n, tx, B, hc, v, rfl, ?_, ?_, ?_⟩
  · exact fun y0 M' y1 y2 => fun q => hA y0 M' y1 y2
  · exact fun y0 y1 y2 M' y3 y4 => fun q => hB y0 y1 y2 M' y3 y4
  · refine fun y0 y1 y2 M' y3 y4 => ?_
    refine Exists.intro 0 ⟨rfl, by decide, ?_⟩
    exact hC y0 y1 y2 M' y3 y4
