-- COPIES AND SAVED STATES, GUARDS
theorem q_Ct_mono {l : Launch} {b : Bool} {j : Nat} {P P' : Q_P} (h : q_Ct l b j P) (hi : ∀ av M K KX, P' av M K KX → P av M K KX) : q_Ct l b j P' := fun D cs ad dm base h1 h2 av M K KX h3 h4 h5 => h D cs ad dm base h1 h2 av M K KX h3 h4 (hi av M K KX h5)
theorem q_upd_upd {f : Nat → Int32} {k : Nat} {x y : Int32} : upd (upd f k x) k y = upd f k y := by
  funext i
  by_cases h : i = k
  · rw [h, q_upd_eq, q_upd_eq]
  · rw [q_upd_ne h, q_upd_ne h, q_upd_ne h]
theorem q_upd_cm {f : Nat → Int32} {k j : Nat} {x y : Int32} (hn : j ≠ k) : upd (upd f k x) j y = upd (upd f j y) k x := by
  funext i
  by_cases h : i = k
  · rw [h, q_upd_ne (Ne.symm hn), q_upd_eq, q_upd_eq]
  · rw [q_upd_ne (k := k) h]
    by_cases h2 : i = j
    · rw [h2, q_upd_eq, q_upd_eq]
    · rw [q_upd_ne h2, q_upd_ne h2, q_upd_ne h]
theorem q_upd_id {f : Nat → Int32} {k : Nat} : upd f k (f k) = f := by
  funext i
  by_cases h : i = k
  · rw [h, q_upd_eq]
  · rw [q_upd_ne h]
def t_go (P Q R : Prop) [Decidable P] [Decidable Q] [Decidable R] : Nat := if ¬ P then 1 else if ¬ Q then 2 else if ¬ R then 3 else 0
theorem t_go_eq {P Q R : Prop} [Decidable P] [Decidable Q] [Decidable R] {x y w : Int32} (h1 : x = 0 ↔ ¬ P) (h2 : y = 0 ↔ ¬ Q) (h3 : w = 0 ↔ ¬ R) : t_go P Q R = s_go x y w := by
  unfold t_go s_go
  by_cases p : P
  · rw [if_neg (fun g => g p), if_neg (fun g => h1.mp g p)]
    by_cases q : Q
    · rw [if_neg (fun g => g q), if_neg (fun g => h2.mp g q)]
      by_cases r : R
      · rw [if_neg (fun g => g r), if_neg (fun g => h3.mp g r)]
      · rw [if_pos r, if_pos (h3.mpr r)]
    · rw [if_pos q, if_pos (h2.mpr q)]
  · rw [if_pos p, if_pos (h1.mpr p)]
theorem t_go_0 {P Q R : Prop} [Decidable P] [Decidable Q] [Decidable R] : t_go P Q R = 0 ↔ P ∧ Q ∧ R := by
  unfold t_go
  by_cases p : P
  · rw [if_neg (fun g => g p)]
    by_cases q : Q
    · rw [if_neg (fun g => g q)]
      by_cases r : R
      · rw [if_neg (fun g => g r)]
        exact ⟨fun _ => ⟨p, q, r⟩, fun _ => rfl⟩
      · rw [if_pos r]
        exact ⟨fun g => (by cases g), fun g => absurd g.2.2 r⟩
    · rw [if_pos q]
      exact ⟨fun g => (by cases g), fun g => absurd g.2.1 q⟩
  · rw [if_pos p]
    exact ⟨fun g => (by cases g), fun g => absurd g.1 p⟩
theorem q_one_0 : nI 1 = 0 ↔ ¬ True := ⟨fun g => absurd g q_n1, fun g => absurd trivial g⟩
/-- goes, with its two ways out -/
abbrev pX9_gos : Q_P := fun av M K KX => ∃ (t : Nat) (x y w : Int32), t = s_go x y w ∧ av = [.inr (.inl (21, 0, 0)), .inl x, .inl y, .inl w] ∧ (t = 0 → K (some (.inl (nI 1))) (q_si M (21, 0, 0) 3 (nI 0))) ∧ (¬ t = 0 → K (some (.inl (nI 0))) (q_si M (21, 0, 0) 3 (nI t)))
theorem cX9_gos_ct {l : Launch} {b : Bool} (hl0 : l.stackTraces = false) : q_Ct l b 148 pX9_gos := by
  refine q_Ct_mono (cX9_goes_ct hl0) ?_
  rintro av M K KX ⟨t, x, y, w, ht, rfl, h1, h2⟩
  refine ⟨x, y, w, rfl, ?_⟩
  rw [← ht]
  by_cases c : t = 0
  · rw [q_bi_t c, c]
    exact h1 c
  · rw [q_bi_f c]
    exact h2 c
def s_cp (S : Nat → Int32) (f t : Nat) : Nat → Int32 := fun i => if 227 * t ≤ i ∧ i < 227 * t + 227 then S (i - 227 * t + 227 * f) else S i
def s_ck (S : Nat → Int32) (f t k : Nat) : Nat → Int32 := fun i => if 227 * t ≤ i ∧ i < 227 * t + k then S (i - 227 * t + 227 * f) else S i
theorem s_ck_0 {S : Nat → Int32} {f t : Nat} : s_ck S f t 0 = S := by
  funext i
  unfold s_ck
  rw [if_neg (by omega)]
theorem s_ck_1 {S : Nat → Int32} {f t k : Nat} (hk : k < 227) : upd (s_ck S f t k) (227 * t + k) (s_ck S f t k (227 * f + k)) = s_ck S f t (k + 1) := by
  funext i
  by_cases h : i = 227 * t + k
  · rw [h, q_upd_eq]
    unfold s_ck
    rw [if_neg (by omega), if_pos (by omega)]
    exact congrArg S (by omega)
  · rw [q_upd_ne h]
    unfold s_ck
    by_cases h2 : 227 * t ≤ i ∧ i < 227 * t + k
    · rw [if_pos h2, if_pos (by omega)]
    · rw [if_neg h2, if_neg (by omega)]
def s_sf (S : Nat → Int32) (k : Nat) : Nat → Int32 := fun i => if 227 ≤ i ∧ i < 227 * (k + 1) then S (i + 227) else S i
theorem s_sf_0 {S : Nat → Int32} : s_sf S 0 = S := by
  funext i
  unfold s_sf
  rw [if_neg (by omega)]
theorem s_sf_1 {S : Nat → Int32} {k : Nat} : s_cp (s_sf S k) (k + 2) (k + 1) = s_sf S (k + 1) := by
  funext i
  unfold s_cp s_sf
  by_cases h : 227 * (k + 1) ≤ i ∧ i < 227 * (k + 1) + 227
  · rw [if_pos h, if_neg (by omega), if_pos (by omega)]
    exact congrArg S (by omega)
  · rw [if_neg h]
    by_cases h2 : 227 ≤ i ∧ i < 227 * (k + 1)
    · rw [if_pos h2, if_pos (by omega)]
    · rw [if_neg h2, if_neg (by omega)]
/-- the row behind saving the working state, where h are saved already -/
def s_sav (S : Nat → Int32) (h : Nat) : Nat → Int32 := if h = 6 then s_cp (s_sf S 5) 0 6 else s_cp S 0 (h + 1)
def s_h1 (h : Nat) : Nat := if h = 6 then 6 else h + 1
theorem s_h1_le {h : Nat} (hh : h ≤ 6) : s_h1 h ≤ 6 ∧ 1 ≤ s_h1 h := by
  unfold s_h1
  split <;> omega
theorem s_sav_lo {S : Nat → Int32} {h i : Nat} (hi : i < 227) : s_sav S h i = S i := by
  unfold s_sav
  split
  · unfold s_cp s_sf
    rw [if_neg (by omega), if_neg (by omega)]
  · unfold s_cp
    rw [if_neg (by omega)]
theorem s_cp_lo {S : Nat → Int32} {f t i : Nat} (ht : 0 < t) (hi : i < 227) : s_cp S f t i = S i := by
  unfold s_cp
  rw [if_neg (by omega)]
theorem s_wf_lo {S S' : Nat → Int32} (w : s_wf S) (h : ∀ i, i < 227 → S' i = S i) : s_wf S' := s_wf_hi w (fun i hi => h i (by omega))
theorem s_wf_sav {S : Nat → Int32} (w : s_wf S) {h : Nat} : s_wf (s_sav S h) := s_wf_lo w (fun i hi => s_sav_lo hi)
theorem s_n_lo {S S' : Nat → Int32} (h : ∀ i, i < 227 → S' i = S i) : s_n S' = s_n S := by
  unfold s_n
  rw [h 0 (by omega)]
theorem s_q_lo {S S' : Nat → Int32} (h : ∀ i, i < 227 → S' i = S i) : s_q S' = s_q S := by
  unfold s_q
  rw [h 145 (by omega)]
theorem s_lk_lo {S S' : Nat → Int32} (h : ∀ i, i < 227 → S' i = S i) {x : Int32} : ∀ {k : Nat}, k ≤ 12 → s_lk S' x k = s_lk S x k
  | 0, _ => rfl
  | k + 1, hk => by
    unfold s_lk
    rw [h (3 + 12 * k) (by omega), s_lk_lo h (by omega)]
theorem s_qd_lo {S S' : Nat → Int32} (h : ∀ i, i < 227 → S' i = S i) {x : Int32} : ∀ {k : Nat}, k ≤ 20 → s_qd S' x k = s_qd S x k
  | 0, _ => rfl
  | k + 1, hk => by
    unfold s_qd
    rw [h (146 + 3 * k) (by omega), s_qd_lo h (by omega)]
theorem q_mi (a b c : Nat) : nI a * nI b + nI c = nI (a * b + c) := by rw [pk_mul, nI_add]
abbrev pX9_thrown : Q_P := fun av M K KX => av = [.inr (.inl (21, 0, 0))] ∧ K (some (.inl (M.1 21 0 0 3))) M
theorem cX9_thrown_ct {l : Launch} {b : Bool} (hl0 : l.stackTraces = false) : q_Ct l b 146 pX9_thrown := by
  refine q_meth (by decide +kernel) hl0 TX9_thrown kX9_thrown ?_
  intro av M K KX hwf
  rintro ⟨rfl, hK⟩
  refine ⟨Nat.le_of_ble_eq_true rfl, fun Z hz hw => ?_⟩
  apply hz [] 60
  exact hK
abbrev pX9_copies : Q_P := fun av M K KX => ∃ f t : Nat, f < 10 ∧ t < 10 ∧ av = [.inr (.inl (21, 0, 0)), .inl (nI f), .inl (nI t)] ∧ K none (q_sa M (22, 0, 0) (s_cp (M.1 22 0 0) f t))
theorem cX9_copies_ct {l : Launch} {b : Bool} (hl0 : l.stackTraces = false) : q_Ct l b 149 pX9_copies := by
  refine q_meth (by decide +kernel) hl0 TX9_copies kX9_copies ?_
  intro av M K KX hwf
  rintro ⟨f, t, hf, ht, rfl, hK⟩
  refine ⟨Nat.le_of_ble_eq_true rfl, fun Z hz hw => ?_⟩
  obtain ⟨S, hS⟩ : ∃ S, S = M.1 22 0 0 := ⟨_, rfl⟩
  rw [← hS] at hK
  have loop : ∀ (d k : Nat), k + d = 227 → Z 0 2 [(3, .inl (nI k)), (0, .inr (.inl (21, 0, 0))), (1, .inl (nI f)), (2, .inl (nI t))] [] (q_sa M (22, 0, 0) (s_ck S f t k)) := by
    intro d
    induction d with
    | zero =>
      intro k hk
      obtain rfl : k = 227 := by omega
      apply hz [2] 60
      refine And.intro (fun _ => hK) (fun g => absurd (show nI 227 ≤ nI 227 from nI_le (by omega) (by omega)) g)
    | succ d ih =>
      intro k hk
      apply hz [2] 60
      refine And.intro (fun (g : nI 227 ≤ nI k) => absurd ((nI_leI (by omega) (by omega)).mp g) (by omega)) (fun _ => ?_)
      refine Exists.intro (227 * f + k) ⟨q_mi 227 f k, by omega, ?_⟩
      refine Exists.intro (227 * t + k) ⟨q_mi 227 t k, by omega, ?_⟩
      rw [q_si22, q_sa_sa, q_r22, s_ck_1 (by omega)]
      have h := ih (k + 1) (by omega)
      rw [← nI_add k 1] at h
      exact h
  apply hz [2] 60
  have h := loop 227 0 (by omega)
  rw [s_ck_0, hS, q_e22] at h
  exact h
abbrev pX9_saves : Q_P := fun av M K KX => ∃ h : Nat, h ≤ 6 ∧ M.1 21 0 0 1 = nI h ∧ av = [.inr (.inl (21, 0, 0))] ∧ K none (q_sa (q_sa M (21, 0, 0) (upd (M.1 21 0 0) 1 (nI (s_h1 h)))) (22, 0, 0) (s_sav (M.1 22 0 0) h))
theorem cX9_saves_ct {l : Launch} {b : Bool} (hl0 : l.stackTraces = false) : q_Ct l b 150 pX9_saves := by
  refine q_meth (by decide +kernel) hl0 TX9_saves kX9_saves ?_
  intro av M K KX hwf
  rintro ⟨h, hh, h1, rfl, hK⟩
  refine ⟨Nat.le_of_ble_eq_true rfl, fun Z hz hw => ?_⟩
  obtain ⟨S, hS⟩ : ∃ S, S = M.1 22 0 0 := ⟨_, rfl⟩
  rw [← hS] at hK
  unfold s_sav s_h1 at hK
  have loop : ∀ (d k : Nat), k + d = 5 → h = 6 → Z 0 11 [(1, .inl (nI (k + 1))), (0, .inr (.inl (21, 0, 0)))] [] (q_sa M (22, 0, 0) (s_sf S k)) := by
    intro d
    induction d with
    | zero =>
      intro k hk h6
      obtain rfl : k = 5 := by omega
      rw [if_pos h6, if_pos h6] at hK
      apply hz [11] 60
      refine And.intro (fun _ => ?_) (fun g => absurd (show nI 6 ≤ nI (5 + 1) from nI_le (by omega) (by omega)) g)
      refine Exists.intro _ ⟨cX9_copies_ct hl0, 0, 6, by omega, by omega, ?_, ?_⟩
      · show ([.inr (.inl (21, 0, 0)), .inl (nI 0), .inl (M.1 21 0 0 1 - nI 1 + nI 1)] : List Q_V) = _
        rw [h1, h6]
        rfl
      · refine q_K hK rfl ?_
        show q_sa (q_si (q_si (q_sa M (22, 0, 0) (s_sf S 5)) (21, 0, 0) 1 (M.1 21 0 0 1 - nI 1)) (21, 0, 0) 1 (M.1 21 0 0 1 - nI 1 + nI 1)) (22, 0, 0) (s_cp (s_sf S 5) 0 6) = _
        rw [h1, h6, q_si21, q_si21, q_sa_sa, q_r21, q_upd_upd, q_r2122, q_c2221, q_sa_sa]
        rfl
    | succ d ih =>
      intro k hk h6
      apply hz [11] 60
      refine And.intro (fun (g : nI 6 ≤ nI (k + 1)) => absurd ((nI_leI (by omega) (by omega)).mp g) (by omega)) (fun _ => ?_)
      refine Exists.intro _ ⟨cX9_copies_ct hl0, k + 2, k + 1, by omega, by omega, ?_, ?_⟩
      · exact congrArg (fun x => ([.inr (.inl (21, 0, 0)), .inl x, .inl (nI (k + 1))] : List Q_V)) (nI_add (k + 1) 1)
      · have g := ih (k + 1) (by omega) h6
        rw [← nI_add (k + 1) 1] at g
        rw [q_sa_sa, q_r22, s_sf_1]
        exact g
  apply hz [11] 60
  refine And.intro (fun (c : M.1 21 0 0 1 = nI 6) => ?_) (fun (c : ¬ M.1 21 0 0 1 = nI 6) => ?_)
  · have h6 : h = 6 := by
      rw [h1] at c
      exact (nI_eq (by omega) (by omega)).mp c
    have g := loop 5 0 (by omega) h6
    rw [s_sf_0, hS, q_e22] at g
    exact g
  · have h6 : ¬ h = 6 := fun g => c (by rw [h1, g])
    rw [if_neg h6, if_neg h6] at hK
    refine Exists.intro _ ⟨cX9_copies_ct hl0, 0, h + 1, by omega, by omega, ?_, ?_⟩
    · show ([.inr (.inl (21, 0, 0)), .inl (nI 0), .inl (M.1 21 0 0 1 + nI 1)] : List Q_V) = _
      rw [h1, nI_add]
    · refine q_K hK rfl ?_
      show q_sa (q_si M (21, 0, 0) 1 (M.1 21 0 0 1 + nI 1)) (22, 0, 0) (s_cp (M.1 22 0 0) 0 (h + 1)) = _
      rw [h1, q_si21, nI_add, hS]
abbrev s_rg (lo hi : Nat) (a : Int32) : Prop := nI lo ≤ a ∧ a ≤ nI hi
theorem s_rg_n {lo hi : Nat} {a : Int32} (hl : lo < 2 ^ 31) (hh : hi < 2 ^ 31) (h : s_rg lo hi a) : ∃ k : Nat, lo ≤ k ∧ k ≤ hi ∧ a = nI k := by
  obtain ⟨h1, h2⟩ := h
  have l1 := Int32.le_iff_toInt_le.mp h1
  have l2 := Int32.le_iff_toInt_le.mp h2
  rw [nI_toInt hh] at l2
  rw [nI_toInt hl] at l1
  refine ⟨a.toInt.toNat, by omega, by omega, ?_⟩
  apply Int32.toInt_inj.mp
  rw [nI_toInt (by omega)]
  omega
abbrev s_lp1 (S : Nat → Int32) (a : Int32) : Prop := nI 0 ≤ a ∧ a ≤ S 0 - nI 1
abbrev pX9_isSquirrel : Q_P := fun av M K KX => ∃ a : Int32, av = [.inl a] ∧ K (some (.inl (q_bi (s_rg 0 19 a)))) M
theorem cX9_isSquirrel_ct {l : Launch} {b : Bool} (hl0 : l.stackTraces = false) : q_Ct l b 151 pX9_isSquirrel := by
  refine q_meth (by decide +kernel) hl0 TX9_isSquirrel kX9_isSquirrel ?_
  intro av M K KX hwf
  rintro ⟨a, rfl, hK⟩
  refine ⟨Nat.le_of_ble_eq_true rfl, fun Z hz hw => ?_⟩
  apply hz [] 60
  refine Exists.intro _ ⟨cX9_in_ct hl0, _, _, _, rfl, ?_⟩
  exact And.intro (q_bi_bit _) hK
abbrev pX9_isLink : Q_P := fun av M K KX => ∃ a : Int32, av = [.inr (.inl (21, 0, 0)), .inl a] ∧ K (some (.inl (q_bi (s_lp1 (M.1 22 0 0) a)))) M
theorem cX9_isLink_ct {l : Launch} {b : Bool} (hl0 : l.stackTraces = false) : q_Ct l b 153 pX9_isLink := by
  refine q_meth (by decide +kernel) hl0 TX9_isLink kX9_isLink ?_
  intro av M K KX hwf
  rintro ⟨a, rfl, hK⟩
  refine ⟨Nat.le_of_ble_eq_true rfl, fun Z hz hw => ?_⟩
  apply hz [] 60
  refine Exists.intro 0 ⟨rfl, by decide, ?_⟩
  refine Exists.intro _ ⟨cX9_in_ct hl0, _, _, _, rfl, ?_⟩
  exact And.intro (q_bi_bit _) hK
