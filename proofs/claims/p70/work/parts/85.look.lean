-- WHAT THE LAW LOOKS AT, SAID OF A SLOT
theorem i_sub5 (x a b c d e : Int32) : x - a - b - c - d - e = x - (nI 0 + a + b + c + d + e) := by
  rw [nI_0, Int32.zero_add]
  simp only [Int32.sub_eq_add_neg, Int32.neg_add, Int32.add_assoc]
theorem l_ct {S : Nat → Int32} {B : Nat} (w : s_wf S) (x : XV S B) (hB : B < 1000000000) : s_ct S = S 0 := by
  obtain ⟨-, -, ⟨o, c, h1, h2, h3, h4⟩, -⟩ := x
  have e : s_ct S = S 214 - s_cs S := by
    unfold s_ct s_cs
    exact i_sub5 _ _ _ _ _ _
  rw [e, h1, h2, pk_sub (by omega), w.1.1]
  congr 1
  omega
theorem l_gone {S : Nat → Int32} {B : Nat} (w : s_wf S) (x : XV S B) : s_cs S = S 214 - S 0 := by
  obtain ⟨-, -, ⟨o, c, h1, h2, h3, h4⟩, -⟩ := x
  rw [h1, h2, w.1.1, pk_sub (by omega)]
  congr 1
  omega
theorem l_idle {S : Nat → Int32} {p : Nat} (w : s_wf S) (hp : p < s_n S) : S (3 + 12 * p) < 0 ↔ S (3 + 12 * p) = -1 := s_neg (w.2.2.2.2.2.1 p hp)
/-- of the first m connections: how many squirrels below k have one of them -/
def l_hv (S : Nat → Int32) (m : Nat) : Nat → Nat
  | 0 => 0
  | k + 1 => l_hv S m k + (if s_lk S (nI k) m = none then 0 else 1)
theorem l_hv_e {S : Nat → Int32} : ∀ k, s_hv S k = l_hv S (s_n S) k
  | 0 => rfl
  | k + 1 => by
    unfold s_hv l_hv
    rw [l_hv_e k]
theorem l_hv0 {S : Nat → Int32} : ∀ k, l_hv S 0 k = 0
  | 0 => rfl
  | k + 1 => by
    unfold l_hv
    rw [l_hv0 k]
    rfl
theorem l_hv_i {S : Nat → Int32} {m : Nat} (h : S (3 + 12 * m) = -1) : ∀ k, k ≤ 20 → l_hv S (m + 1) k = l_hv S m k
  | 0, _ => rfl
  | k + 1, hk => by
    unfold l_hv
    rw [l_hv_i h k (by omega)]
    congr 2
    show ((if S (3 + 12 * m) = nI k then some m else s_lk S (nI k) m) = none) = _
    rw [if_neg (by rw [h]; exact q_m1n (by omega))]
theorem l_hv_l {S : Nat → Int32} {m x : Nat} (hx : x < 20) (h : S (3 + 12 * m) = nI x) (hn : s_lk S (nI x) m = none) : ∀ k, k ≤ 20 → l_hv S (m + 1) k = l_hv S m k + (if x < k then 1 else 0)
  | 0, _ => rfl
  | k + 1, hk => by
    unfold l_hv
    rw [l_hv_l hx h hn k (by omega)]
    by_cases c : x = k
    · subst c
      have e : s_lk S (nI x) (m + 1) = some m := if_pos h
      rw [e, hn, if_neg (show ¬ x < x by omega), if_pos (show x < x + 1 by omega), if_pos rfl, if_neg (show ¬ (some m : Option Nat) = none from fun g => nomatch g)]
    · have e : s_lk S (nI k) (m + 1) = s_lk S (nI k) m := if_neg (by rw [h]; exact fun g => c ((nI_eq (by omega) (by omega)).mp g))
      rw [e]
      by_cases c2 : x < k
      · rw [if_pos c2, if_pos (show x < k + 1 by omega)]
        omega
      · rw [if_neg c2, if_neg (show ¬ x < k + 1 by omega)]
        omega
theorem l_count {S : Nat → Int32} (w : s_wf S) : ∀ m, m ≤ s_n S → l_hv S m 20 + s_cf S m = m
  | 0, _ => by rw [l_hv0]; rfl
  | m + 1, hm => by
    have ih := l_count w m (by omega)
    have w3 := w.2.2.2.2.2.2.2.1
    unfold s_cf
    rcases (w.2.2.2.2.2.1 m (by omega)).1 with h | ⟨x, hx, h⟩
    · rw [l_hv_i h 20 (by omega), if_pos (by rw [h]; decide)]
      omega
    · have hno : s_lk S (nI x) m = none := by
        refine s_lk_no (fun k hk e => ?_)
        have := w3 k m (by omega) (by omega) (by omega) (e.trans h.symm)
        exact i_n1 hx (e.symm.trans this)
      rw [l_hv_l hx h hno 20 (by omega), if_pos hx, if_neg (by rw [h]; exact nI_pos (by omega))]
      omega
theorem l_leased {S : Nat → Int32} (w : s_wf S) : S 0 - nI (s_cf S (s_n S)) = nI (s_hv S 20) := by
  have h := l_count w (s_n S) (Nat.le_refl _)
  have h2 := s_cf_le (S := S) (s_n S)
  rw [l_hv_e, w.1.1, pk_sub h2]
  congr 1
  omega
theorem l_all {S : Nat → Int32} : nI (s_cf S (s_n S)) + (S 0 - nI (s_cf S (s_n S))) = S 0 := by
  rw [Int32.sub_eq_add_neg, Int32.add_comm, Int32.add_assoc, Int32.add_left_neg, Int32.add_zero]
theorem l_tn_lt {S : Nat → Int32} {p : Nat} (hi : S (3 + 12 * p) < 0) : ∀ k, s_tn S p k + (if p < k then 1 else 0) ≤ s_cf S k
  | 0 => by rw [if_neg (by omega)]; exact Nat.le_refl _
  | k + 1 => by
    have ih := l_tn_lt hi k
    unfold s_tn s_cf
    by_cases c : k = p
    · subst c
      rw [if_neg (by omega)] at ih
      rw [if_neg (fun g => g.2.1 rfl), if_pos (by omega), if_pos hi]
      omega
    · by_cases c2 : S (3 + 12 * k) < 0
      · rw [if_pos c2]
        split <;> split <;> (try split at ih) <;> omega
      · rw [if_neg (fun g => c2 g.1), if_neg c2]
        split <;> (try split at ih) <;> omega
theorem l_fo_none {S : Nat → Int32} {last : Bool} : ∀ {k : Nat}, s_fo S last k = none → ∀ q, q < k → ¬ S (3 + 12 * q) < 0
  | 0, _, q, h => absurd h (by omega)
  | k + 1, h, q, hq => by
    unfold s_fo at h
    split at h
    · cases h
    · rename_i g
      by_cases c : q = k
      · rw [c]
        exact fun g2 => g ⟨g2, Or.inl h⟩
      · exact l_fo_none h q (by omega)
/-- the one that is lent next: ahead of all other idle ones -/
theorem l_fo {S : Nat → Int32} {last : Bool} {n : Nat} (hd : ∀ p p', p < p' → p' < n → S (3 + 12 * p) < 0 → S (3 + 12 * p') < 0 → iv S (6 + 12 * p) ≠ iv S (6 + 12 * p')) : ∀ {k q : Nat}, k ≤ n → s_fo S last k = some q → ∀ q', q' < k → q' ≠ q → S (3 + 12 * q') < 0 → (last = true → iv S (6 + 12 * q') < iv S (6 + 12 * q)) ∧ (last = false → iv S (6 + 12 * q) < iv S (6 + 12 * q'))
  | 0, q, _, _, q', h, _, _ => absurd h (by omega)
  | k + 1, q, hk, h, q', hq', hne, hi => by
    unfold s_fo at h
    split at h
    · rename_i g
      cases h
      rcases g.2 with g2 | g2
      · exact absurd hi (l_fo_none g2 q' (by omega))
      · cases hf : s_fo S last k with
        | none => exact absurd hi (l_fo_none hf q' (by omega))
        | some q0 =>
          rw [hf] at g2
          have g2 : decide (S (6 + 12 * q0) < S (6 + 12 * k)) = last := g2
          have h0 := s_fo_lt hf
          have h0i := s_fo_idle hf
          have hk0 := hd q0 k h0 (by omega) h0i g.1
          by_cases c : q' = q0
          · subst c
            refine ⟨fun e => ?_, fun e => ?_⟩
            · rw [e] at g2
              exact Int32.lt_iff_toInt_lt.mp (of_decide_eq_true g2)
            · rw [e] at g2
              have g3 := of_decide_eq_false g2
              rw [Int32.lt_iff_toInt_lt] at g3
              unfold iv at hk0 ⊢
              omega
          · have ih := l_fo hd (show k ≤ n by omega) hf q' (by omega) c hi
            refine ⟨fun e => ?_, fun e => ?_⟩
            · rw [e] at g2
              have g3 := Int32.lt_iff_toInt_lt.mp (of_decide_eq_true g2)
              have := ih.1 e
              unfold iv at this ⊢
              omega
            · rw [e] at g2
              have g3 := of_decide_eq_false g2
              rw [Int32.lt_iff_toInt_lt] at g3
              have := ih.2 e
              unfold iv at this hk0 ⊢
              omega
    · rename_i g
      by_cases c : q' = k
      · subst c
        have h0 := s_fo_lt h
        have h0i := s_fo_idle h
        have hk0 := hd q q' h0 (by omega) h0i hi
        have g2 : ¬ s_lt S (s_fo S last q') q' = last := fun e => g ⟨hi, Or.inr e⟩
        rw [h] at g2
        have g2 : ¬ decide (S (6 + 12 * q) < S (6 + 12 * q')) = last := g2
        refine ⟨fun e => ?_, fun e => ?_⟩
        · rw [e] at g2
          have g3 : ¬ S (6 + 12 * q) < S (6 + 12 * q') := fun g4 => g2 (decide_eq_true g4)
          rw [Int32.lt_iff_toInt_lt] at g3
          unfold iv at hk0 ⊢
          omega
        · rw [e] at g2
          have g3 : S (6 + 12 * q) < S (6 + 12 * q') := Classical.not_not.mp (fun g4 => g2 (decide_eq_false g4))
          exact Int32.lt_iff_toInt_lt.mp g3
      · exact l_fo hd (by omega) h q' (by omega) hne hi
theorem l_tn0 {S : Nat → Int32} {p : Nat} : ∀ k, s_tn S p k = 0 ↔ ∀ q, q < k → ¬ (S (3 + 12 * q) < 0 ∧ q ≠ p ∧ (S 213 = nI 1 ↔ S (6 + 12 * p) < S (6 + 12 * q)))
  | 0 => ⟨fun _ q h => absurd h (by omega), fun _ => rfl⟩
  | k + 1 => by
    have ih := l_tn0 (S := S) (p := p) k
    unfold s_tn
    by_cases c : S (3 + 12 * k) < 0 ∧ k ≠ p ∧ (S 213 = nI 1 ↔ S (6 + 12 * p) < S (6 + 12 * k))
    · rw [if_pos c]
      exact ⟨fun h => absurd h (by omega), fun h => absurd c (h k (by omega))⟩
    · rw [if_neg c, Nat.add_zero, ih]
      constructor
      · intro h q hq
        by_cases e : q = k
        · rw [e]; exact c
        · exact h q (by omega)
      · intro h q hq
        exact h q (by omega)
theorem l_dist {S : Nat → Int32} {B e : Int} (w : s_wf S) (h : IV S B e) : ∀ p p', p < p' → p' < s_n S → S (3 + 12 * p) < 0 → S (3 + 12 * p') < 0 → iv S (6 + 12 * p) ≠ iv S (6 + 12 * p') := fun p p' h1 h2 h3 h4 => h.2.2.2.1 p p' h1 h2 ((l_idle w (by omega)).mp h3) ((l_idle w h2).mp h4)
theorem l_next {S : Nat → Int32} {B e : Int} {p : Nat} (w : s_wf S) (h : IV S B e) (hp : p < s_n S) (hi : S (3 + 12 * p) < 0) : s_tn S p (s_n S) = 0 ↔ s_nx S = some p := by
  have hd := l_dist w h
  cases hx : s_nx S with
  | none =>
    unfold s_nx at hx
    exact absurd hi (l_fo_none hx p hp)
  | some q =>
    have hq := s_nx_lt hx
    unfold s_nx at hx
    have hqi := s_fo_idle hx
    have key := l_fo hd (Nat.le_refl _) hx
    have eS : (decide (S 213 = nI 1) = true ↔ S 213 = nI 1) := decide_eq_true_iff
    rw [l_tn0]
    constructor
    · intro h0
      by_cases c : q = p
      · rw [c]
      · refine absurd ⟨hqi, c, ?_⟩ (h0 q hq)
        obtain ⟨k1, k2⟩ := key p hp (fun g => c g.symm) hi
        rw [Int32.lt_iff_toInt_lt]
        unfold iv at k1 k2
        by_cases c1 : S 213 = nI 1
        · exact ⟨fun _ => k1 (decide_eq_true c1), fun _ => c1⟩
        · have := k2 (decide_eq_false c1)
          exact ⟨fun g => absurd g c1, fun g => by omega⟩
    · intro e
      cases e
      rintro k hk ⟨g1, g2, g3⟩
      obtain ⟨k1, k2⟩ := key k hk g2 g1
      rw [Int32.lt_iff_toInt_lt] at g3
      unfold iv at k1 k2
      by_cases c1 : S 213 = nI 1
      · have := k1 (decide_eq_true c1)
        have := g3.mp c1
        omega
      · exact c1 (g3.mpr (k2 (decide_eq_false c1)))
theorem l_cf_pos {S : Nat → Int32} {p : Nat} (hi : S (3 + 12 * p) < 0) : ∀ k, p < k → 0 < s_cf S k
  | 0, h => absurd h (by omega)
  | k + 1, h => by
    unfold s_cf
    by_cases c : p = k
    · subst c
      rw [if_pos hi]
      omega
    · have := l_cf_pos hi k (by omega)
      omega
theorem l_none {S : Nat → Int32} (h : s_cf S (s_n S) = 0) : s_nx S = none := by
  cases hx : s_nx S with
  | none => rfl
  | some q =>
    have hq := s_nx_lt hx
    unfold s_nx at hx
    have := l_cf_pos (s_fo_idle hx) (s_n S) hq
    omega
theorem l_place {S : Nat → Int32} {p : Nat} (w : s_wf S) (hp : p < s_n S) (hi : ¬ S (3 + 12 * p) < 0) : ∃ x : Nat, x < 20 ∧ S (3 + 12 * p) = nI x ∧ s_lk S (nI x) (s_n S) = some p := by
  have w3 := w.2.2.2.2.2.2.2.1
  rcases (w.2.2.2.2.2.1 p hp).1 with h | ⟨x, hx, h⟩
  · exact absurd ((l_idle w hp).mpr h) hi
  · refine ⟨x, hx, h, s_lk_at hp h (fun k hk hne e => ?_)⟩
    have := w3 k p hk hp hne (e.trans h.symm)
    exact i_n1 hx (e.symm.trans this)
theorem l_iw {S : Nat → Int32} {y : Int32} : ∀ k, s_iw S y k ≤ s_cf S k
  | 0 => Nat.le_refl _
  | k + 1 => by
    have ih := l_iw (S := S) (y := y) k
    unfold s_iw s_cf
    by_cases c : S (3 + 12 * k) < 0
    · rw [if_pos c]
      split <;> omega
    · rw [if_neg c, if_neg (fun g => c g.1)]
      omega
theorem l_ts {x : Nat} : ∀ (f m : Nat) (S : Nat → Int32), s_ts x f m S ≤ m + f
  | 0, m, S => by unfold s_ts; omega
  | f + 1, m, S => by
    unfold s_ts
    split
    · split
      · omega
      · have := l_ts (x := x) f (m + 1) (s_tk S).2
        omega
    · omega
theorem l_ps : ∀ (t : Nat) (S : Nat → Int32), s_wf S → (s_ps t S).1 ≤ 20 * t
  | 0, S, _ => Nat.le_refl _
  | t + 1, S, w => by
    have h := s_wf_tk w
    have ih := l_ps t (s_tk S).2 h.1
    show (s_tk S).1 + (s_ps t (s_tk S).2).1 ≤ 20 * (t + 1)
    omega
/-- times of a connection -/
theorem l_times {S : Nat → Int32} {B : Nat} {e : Int} {p : Nat} (h : IV S B e) (hB : B < 1000000000) (hp : p < s_n S) : (S 206 - S (2 + 12 * p)).toInt = iv S 206 - iv S (2 + 12 * p) ∧ (S 206 - S (5 + 12 * p)).toInt = iv S 206 - iv S (5 + 12 * p) := by
  obtain ⟨⟨⟨a1, a2⟩, -⟩, b, -⟩ := h
  obtain ⟨-, ⟨b1, b2, b3⟩, -⟩ := b p hp
  exact ⟨i_sb a1 (by unfold iv at a2; omega) b1 (by unfold iv at *; omega), i_sb a1 (by unfold iv at a2; omega) (by unfold iv at *; omega) (by unfold iv at *; omega)⟩
theorem l_left {S : Nat → Int32} {B : Nat} {e : Int} {p : Nat} (h : IV S B e) (hB : B < 1000000000) (hp : p < s_n S) : 1 ≤ (s_ll S p).toInt ∧ (s_ll S p).toInt ≤ 999 := by
  obtain ⟨t1, t2⟩ := l_times h hB hp
  obtain ⟨⟨⟨a1, a2⟩, -⟩, b, -, -, -, -, -, g1, g2, -⟩ := h
  obtain ⟨-, ⟨b1, b2, b3⟩, -⟩ := b p hp
  have h1 : (nI 1).toInt = 1 := nI_toInt (by omega)
  have e : (S 211 - (S 206 - S (5 + 12 * p))).toInt = iv S 211 - (iv S 206 - iv S (5 + 12 * p)) := by
    rw [← t2]
    exact i_sb (by unfold iv at g1; omega) (by unfold iv at g2; omega) (by rw [t2]; omega) (by rw [t2]; omega)
  unfold s_ll
  by_cases c : S 211 - (S 206 - S (5 + 12 * p)) < nI 1
  · rw [if_pos c, h1]
    omega
  · rw [if_neg c]
    rw [Int32.lt_iff_toInt_lt, h1] at c
    rw [e] at c ⊢
    omega
