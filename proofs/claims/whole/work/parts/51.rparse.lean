-- THE REFERENCE'S COURSE, READ
def TV (M : Q_M) (n : Nat) (tx : Nat → Nat) : Prop := n ≤ 60 ∧ M.1 21 0 0 5 = nI n ∧ ∀ k, k < n → M.1 24 0 0 k = nI (tx k) ∧ 33 ≤ tx k ∧ tx k ≤ 126
def q_pf (M M' : Q_M) : Prop := (∀ r, r ≠ 21 → M'.1 r = M.1 r) ∧ M'.2 = M.2 ∧ ∀ k, k < 6 → M'.1 21 0 0 k = M.1 21 0 0 k
theorem q_pf_rfl {M : Q_M} : q_pf M M := ⟨fun _ _ => rfl, rfl, fun _ _ => rfl⟩
theorem q_pf_tr {M M1 M2 : Q_M} (h : q_pf M M1) (h2 : q_pf M1 M2) : q_pf M M2 := ⟨fun r a => (h2.1 r a).trans (h.1 r a), h2.2.1.trans h.2.1, fun k a => (h2.2.2 k a).trans (h.2.2 k a)⟩
theorem q_pf_si {M : Q_M} {k : Nat} {x : Int32} (hk : 6 ≤ k) : q_pf M (q_si M (21, 0, 0) k x) := ⟨fun r a => q_i_r a, rfl, fun k' a => by rw [q_i_e, q_upd_ne (by omega)]⟩
theorem TV_pf {M M' : Q_M} {n : Nat} {tx : Nat → Nat} (h : TV M n tx) (hf : q_pf M M') : TV M' n tx := by
  unfold TV
  rw [hf.2.2 5 (by decide), hf.1 24 (by decide)]
  exact h
/-- the reader goes to a place -/
def q_pa (M M' : Q_M) (a : Nat) : Prop := q_pf M M' ∧ M'.1 21 0 0 6 = nI a ∧ M'.1 21 0 0 7 = M.1 21 0 0 7 ∧ M'.1 21 0 0 8 = M.1 21 0 0 8
theorem q_pa_tr {M M1 M2 : Q_M} {a b : Nat} (h : q_pa M M1 a) (h2 : q_pa M1 M2 b) : q_pa M M2 b := ⟨q_pf_tr h.1 h2.1, h2.2.1, h2.2.2.1.trans h.2.2.1, h2.2.2.2.trans h.2.2.2⟩
theorem q_pa_si {M : Q_M} {a d : Nat} (h : M.1 21 0 0 6 = nI a) : q_pa M (q_si M (21, 0, 0) 6 (M.1 21 0 0 6 + nI d)) (a + d) := ⟨q_pf_si (by decide), by rw [q_i_e, q_upd_eq, h, nI_add], by rw [q_i_e, q_upd_ne (by decide)], by rw [q_i_e, q_upd_ne (by decide)]⟩
abbrev pX9_isAt : Q_P := fun av M K KX => ∃ (n : Nat) (tx : Nat → Nat) (a lo hi : Nat), TV M n tx ∧ M.1 21 0 0 6 = nI a ∧ a ≤ 1000 ∧ lo ≤ 1000 ∧ hi ≤ 1000 ∧ av = [.inr (.inl (21, 0, 0)), .inl (nI lo), .inl (nI hi)] ∧ K (some (.inl (q_bi (a < n ∧ lo ≤ tx a ∧ tx a ≤ hi)))) M
theorem cX9_isAt_ct {l : Launch} {b : Bool} (hl0 : l.stackTraces = false) : q_Ct l b 196 pX9_isAt := by
  refine q_meth (by decide +kernel) hl0 TX9_isAt kX9_isAt ?_
  intro av M K KX hwf
  rintro ⟨n, tx, a, lo, hi, ⟨hn, h5, ht⟩, h6, ha, hlo, hhi, rfl, hK⟩
  refine ⟨Nat.le_of_ble_eq_true rfl, fun Z hz hw => ?_⟩
  apply hz [] 60
  refine And.intro (fun (g : M.1 21 0 0 5 ≤ M.1 21 0 0 6) => ?_) (fun (g : ¬ M.1 21 0 0 5 ≤ M.1 21 0 0 6) => ?_)
  · rw [h5, h6, nI_leI (by omega) (by omega)] at g
    rw [q_bi_f (fun h => by omega)] at hK
    exact And.intro (Or.inl rfl) hK
  · rw [h5, h6, nI_leI (by omega) (by omega)] at g
    refine Exists.intro a ⟨h6, by omega, ?_⟩
    obtain ⟨e, t1, t2⟩ := ht a (by omega)
    refine Exists.intro _ ⟨cX9_in_ct hl0, M.1 24 0 0 a, nI lo, nI hi, rfl, ?_⟩
    rw [e, q_bi_c (show nI lo ≤ nI (tx a) ∧ nI (tx a) ≤ nI hi ↔ a < n ∧ lo ≤ tx a ∧ tx a ≤ hi by rw [nI_leI (by omega) (by omega), nI_leI (by omega) (by omega)]; omega)]
    by_cases c : a < n ∧ lo ≤ tx a ∧ tx a ≤ hi
    · rw [q_bi_t c] at hK ⊢
      exact And.intro (fun g => absurd g q_n1) (fun _ => And.intro (Or.inr rfl) hK)
    · rw [q_bi_f c] at hK ⊢
      exact And.intro (fun _ => And.intro (Or.inl rfl) hK) (fun g => absurd nI_0 g)
abbrev pX9_sign : Q_P := fun av M K KX => ∃ (n : Nat) (tx : Nat → Nat) (a c : Nat), TV M n tx ∧ M.1 21 0 0 6 = nI a ∧ a ≤ 1000 ∧ c ≤ 1000 ∧ av = [.inr (.inl (21, 0, 0)), .inl (nI c)] ∧ (a < n → tx a = c → ∀ M', q_pa M M' (a + 1) → K (some (.inl (nI 1))) M') ∧ (¬ (a < n ∧ tx a = c) → ∀ M', q_pa M M' a → K (some (.inl (nI 0))) M')
theorem cX9_sign_ct {l : Launch} {b : Bool} (hl0 : l.stackTraces = false) : q_Ct l b 197 pX9_sign := by
  refine q_meth (by decide +kernel) hl0 TX9_sign kX9_sign ?_
  intro av M K KX hwf
  rintro ⟨n, tx, a, c, hT, h6, ha, hc, rfl, hY, hN⟩
  refine ⟨Nat.le_of_ble_eq_true rfl, fun Z hz hw => ?_⟩
  apply hz [] 60
  refine Exists.intro _ ⟨cX9_isAt_ct hl0, n, tx, a, c, c, hT, h6, ha, hc, hc, rfl, ?_⟩
  by_cases cc : a < n ∧ tx a = c
  · rw [q_bi_t (show a < n ∧ c ≤ tx a ∧ tx a ≤ c by omega)]
    refine And.intro (fun g => absurd g q_n1) (fun _ => ?_)
    exact And.intro (Or.inr rfl) (hY cc.1 cc.2 _ (q_pa_si h6))
  · rw [q_bi_f (show ¬ (a < n ∧ c ≤ tx a ∧ tx a ≤ c) by omega)]
    refine And.intro (fun _ => ?_) (fun g => absurd nI_0 g)
    exact And.intro (Or.inl rfl) (hN cc _ (q_pa_si h6))
abbrev pX9_number : Q_P := fun av M K KX => ∃ (n : Nat) (tx : Nat → Nat) (a lo gr : Nat), TV M n tx ∧ M.1 21 0 0 6 = nI a ∧ a ≤ 1000 ∧ lo ≤ 1 ∧ 9 ≤ gr ∧ gr ≤ 100 ∧ av = [.inr (.inl (21, 0, 0)), .inl (nI lo), .inl (nI gr)] ∧ ∀ M', q_pa M M' (g_nm tx n lo gr a).2 → K (some (.inl (s_oi (g_nm tx n lo gr a).1))) M'
theorem cX9_number_ct {l : Launch} {b : Bool} (hl0 : l.stackTraces = false) : q_Ct l b 198 pX9_number := by
  refine q_meth (by decide +kernel) hl0 TX9_number kX9_number ?_
  intro av M K KX hwf
  rintro ⟨n, tx, a, lo, gr, hT, h6, ha, hlo, hg9, hgr, rfl, hK⟩
  refine ⟨Nat.le_of_ble_eq_true rfl, fun Z hz hw => ?_⟩
  obtain ⟨hn, h5, ht⟩ := id hT
  have loop : ∀ (f v b : Nat) (M1 : Q_M), b + f = n → v ≤ gr → q_pa M M1 b → (∀ M', q_pa M M' (g_nd tx gr f v b).2 → K (some (.inl (nI (g_nd tx gr f v b).1))) M') → Z 0 51 [(4, .inl (nI v)), (3, .inl (nI 1)), (0, .inr (.inl (21, 0, 0))), (1, .inl (nI lo)), (2, .inl (nI gr))] [] M1 := by
    intro f
    induction f with
    | zero =>
      intro v b M1 hf hv hp hk
      have hT1 := TV_pf hT hp.1
      have hh := hk M1 hp
      apply hz [51] 60
      refine And.intro (fun _ => hh) (fun _ => ?_)
      refine Exists.intro _ ⟨cX9_isAt_ct hl0, n, tx, b, 48, 57, hT1, hp.2.1, by omega, by omega, by omega, rfl, ?_⟩
      rw [q_bi_f (by omega)]
      exact And.intro (fun _ => hh) (fun g => absurd nI_0 g)
    | succ f ih =>
      intro v b M1 hf hv hp hk
      have hT1 := TV_pf hT hp.1
      have e24 : M1.1 24 0 0 b = nI (tx b) := (hT1.2.2 b (by omega)).1
      have ed : g_nd tx gr (f + 1) v b = if 0 < v ∧ (48 ≤ tx b ∧ tx b ≤ 57) ∧ 10 * v + tx b - 48 ≤ gr then g_nd tx gr f (10 * v + tx b - 48) (b + 1) else (v, b) := rfl
      rw [ed] at hk
      have out : ¬ (0 < v ∧ (48 ≤ tx b ∧ tx b ≤ 57) ∧ 10 * v + tx b - 48 ≤ gr) → K (some (.inl (nI v))) M1 := by
        intro g
        rw [if_neg g] at hk
        exact hk M1 hp
      apply hz [51] 100
      refine And.intro (fun (g : nI v ≤ nI 0) => ?_) (fun (g : ¬ nI v ≤ nI 0) => ?_)
      · rw [nI_leI (by omega) (by omega)] at g
        exact out (by omega)
      · rw [nI_leI (by omega) (by omega)] at g
        refine Exists.intro _ ⟨cX9_isAt_ct hl0, n, tx, b, 48, 57, hT1, hp.2.1, by omega, by omega, by omega, rfl, ?_⟩
        by_cases c : b < n ∧ 48 ≤ tx b ∧ tx b ≤ 57
        · rw [q_bi_t c]
          refine And.intro (fun g => absurd g q_n1) (fun _ => ?_)
          refine Exists.intro b ⟨hp.2.1, by omega, ?_⟩
          have ev : nI 10 * nI v + M1.1 24 0 0 b - nI 48 = nI (10 * v + tx b - 48) := by rw [e24, nI_mul, nI_add, pk_sub (by omega)]
          refine And.intro (fun (g2 : nI gr < nI 10 * nI v + M1.1 24 0 0 b - nI 48) => ?_) (fun (g2 : ¬ nI gr < nI 10 * nI v + M1.1 24 0 0 b - nI 48) => ?_)
          · rw [ev, nI_ltI (by omega) (by omega)] at g2
            exact out (by omega)
          · rw [ev, nI_ltI (by omega) (by omega)] at g2
            rw [if_pos ⟨by omega, ⟨c.2.1, c.2.2⟩, by omega⟩] at hk
            refine Exists.intro b ⟨hp.2.1, by omega, ?_⟩
            have hh := ih (10 * v + tx b - 48) (b + 1) _ (by omega) (by omega) (q_pa_tr hp (q_pa_si (d := 1) hp.2.1)) hk
            rw [← ev] at hh
            exact hh
        · rw [q_bi_f c]
          exact And.intro (fun _ => out (by omega)) (fun g => absurd nI_0 g)
  unfold g_nm at hK
  apply hz [51] 100
  refine Exists.intro _ ⟨cX9_isAt_ct hl0, n, tx, a, 48 + lo, 57, hT, h6, ha, by omega, by omega, ?_, ?_⟩
  · show ([.inr (.inl (21, 0, 0)), .inl (nI 48 + nI lo), .inl (nI 57)] : List Q_V) = _
    rw [nI_add]
  by_cases c : a < n ∧ 48 + lo ≤ tx a ∧ tx a ≤ 57
  · rw [if_pos c] at hK
    rw [q_bi_t c]
    refine And.intro (fun g => absurd g q_n1) (fun _ => ?_)
    refine Exists.intro a ⟨h6, by omega, ?_⟩
    refine And.intro (fun g => absurd g q_n1) (fun _ => ?_)
    have e24 : M.1 24 0 0 a - nI 48 = nI (tx a - 48) := by rw [(ht a c.1).1, pk_sub (by omega)]
    have hh := loop (n - (a + 1)) (tx a - 48) (a + 1) _ (by omega) (by omega) (q_pa_si (d := 1) h6) hK
    rw [← e24] at hh
    exact hh
  · rw [if_neg c] at hK
    rw [q_bi_f c]
    refine And.intro (fun _ => ?_) (fun g => absurd nI_0 g)
    refine And.intro (fun _ => ?_) (fun g => absurd nI_0 g)
    have hh := hK _ (q_pa_si (d := 0) h6)
    have hh : K (some (.inl (-1))) (q_si M (21, 0, 0) 6 (M.1 21 0 0 6 + nI 0)) := hh
    rw [← q_im1] at hh
    have h51 : Z 0 51 [(4, .inl (q_i (-1))), (3, .inl (nI 0)), (0, .inr (.inl (21, 0, 0))), (1, .inl (nI lo)), (2, .inl (nI gr))] [] (q_si M (21, 0, 0) 6 (M.1 21 0 0 6 + nI 0)) := by
      apply hz [] 60
      exact And.intro (fun _ => hh) (fun g => absurd (show q_i (-1) ≤ 0 by decide) g)
    exact h51
theorem g_nm_le {tx : Nat → Nat} {n lo gr a : Nat} (ha : a ≤ n) : a ≤ (g_nm tx n lo gr a).2 ∧ (g_nm tx n lo gr a).2 ≤ n := by
  unfold g_nm
  split
  · have := g_nd_le (tx := tx) (gr := gr) (n - (a + 1)) (tx a - 48) (a + 1)
    have : (g_nd tx gr (n - (a + 1)) (tx a - 48) (a + 1)).2 ≤ a + 1 + (n - (a + 1)) := this.2
    constructor
    · show a ≤ (g_nd tx gr (n - (a + 1)) (tx a - 48) (a + 1)).2
      omega
    · show (g_nd tx gr (n - (a + 1)) (tx a - 48) (a + 1)).2 ≤ n
      omega
  · exact ⟨Nat.le_refl _, ha⟩
theorem g_nm_gr {tx : Nat → Nat} {n lo gr a v : Nat} (hg : 9 ≤ gr) (h : (g_nm tx n lo gr a).1 = some v) : v ≤ gr := by
  unfold g_nm at h
  split at h
  · rename_i c
    have := g_nd_gr (tx := tx) (gr := gr) (n - (a + 1)) (tx a - 48) (a + 1) (by omega)
    cases h
    exact this
  · cases h
theorem s_oi_n {f : Option Nat} (h : f = none) : s_oi f = -1 := by rw [h]; rfl
