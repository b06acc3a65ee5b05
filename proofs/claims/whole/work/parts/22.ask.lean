-- ASKING, GIVING BACK, USING
theorem s_lk_lt {S : Nat → Int32} {x : Int32} : ∀ {k p : Nat}, s_lk S x k = some p → p < k ∧ S (3 + 12 * p) = x
  | 0, p, h => by cases h
  | k + 1, p, h => by
    unfold s_lk at h
    split at h
    · rename_i hx
      cases h
      exact ⟨by omega, hx⟩
    · have := s_lk_lt h
      exact ⟨by omega, this.2⟩
theorem s_qd_lt {S : Nat → Int32} {x : Int32} : ∀ {k p : Nat}, s_qd S x k = some p → p < k ∧ S (146 + 3 * p) = x
  | 0, p, h => by cases h
  | k + 1, p, h => by
    unfold s_qd at h
    split at h
    · rename_i hx
      cases h
      exact ⟨by omega, hx⟩
    · have := s_qd_lt h
      exact ⟨by omega, this.2⟩
theorem s_oi_ge {f : Option Nat} (h : ∀ p, f = some p → p < 2 ^ 31) : 0 ≤ s_oi f ↔ ¬ f = none := by
  rw [← Int32.not_lt, s_oi_0 f h]
def s_as (S : Nat → Int32) (x u : Int32) : Bool × (Nat → Int32) := if s_q S = 0 then (match s_le S x with
    | (true, S') => (true, S')
    | (false, S') => (false, s_qs S' x u)) else (false, s_qs S x u)
def s_gb (S : Nat → Int32) (p : Nat) : Nat → Int32 := if S (4 + 12 * p) = nI 1 then s_cl S p 2 else if S 209 ≤ S 206 - S (2 + 12 * p) then s_cl S p 0 else s_fr S p
theorem s_wf_gb {S : Nat → Int32} (w : s_wf S) {p : Nat} (hp : p < s_n S) : s_wf (s_gb S p) := by
  unfold s_gb
  split
  · exact s_wf_cl w hp (by decide)
  · split
    · exact s_wf_cl w hp (by decide)
    · exact s_wf_fr w hp
def s_gv (S : Nat → Int32) (p : Nat) : Nat × (Nat → Int32) := s_sv (s_q (s_gb S p)) (s_gb S p)
def s_nu (S : Nat → Int32) (p : Nat) (y : Int32) : Nat → Bool
  | 0 => false
  | k + 1 => s_nu S p y k || decide (S (9 + 12 * p + k) = y)
def s_fi (S : Nat → Int32) (p : Nat) (y : Int32) : Nat → Nat → Nat
  | 0, k => k
  | d + 1, k => if S (9 + 12 * p + k) = y then k else s_fi S p y d (k + 1)
theorem s_fi_le {S : Nat → Int32} {p : Nat} {y : Int32} : ∀ d k, k ≤ s_fi S p y d k ∧ s_fi S p y d k ≤ k + d
  | 0, k => ⟨Nat.le_refl _, Nat.le_refl _⟩
  | d + 1, k => by
    unfold s_fi
    have := s_fi_le (S := S) (p := p) (y := y) d (k + 1)
    split <;> omega
def s_f1 (h : Bool) (f : Nat) : Nat := if h = true then f else if f < 4 then f else 3
def s_ua (S : Nat → Int32) (p : Nat) (h : Bool) : Nat → Int32 := if h = true then S else upd S (8 + 12 * p) (if S (8 + 12 * p) < nI 4 then S (8 + 12 * p) + nI 1 else nI 4)
def s_ub (S1 : Nat → Int32) (p : Nat) (y : Int32) (h : Bool) (f1 : Nat) : Nat → Int32 := upd (upd (fun j => if 9 + 12 * p < j ∧ j < 10 + 12 * p + f1 then S1 (j - 1) else S1 j) (9 + 12 * p) y) (if h = true then 224 else 225) ((upd (fun j => if 9 + 12 * p < j ∧ j < 10 + 12 * p + f1 then S1 (j - 1) else S1 j) (9 + 12 * p) y) (if h = true then 224 else 225) + nI 1)
def s_c (S : Nat → Int32) (p : Nat) : Nat := (S (8 + 12 * p)).toNatClampNeg
def s_us (S : Nat → Int32) (p : Nat) (y : Int32) : Bool × (Nat → Int32) := (s_nu S p y (s_c S p), s_ub (s_ua S p (s_nu S p y (s_c S p))) p y (s_nu S p y (s_c S p)) (s_f1 (s_nu S p y (s_c S p)) (s_fi S p y (s_c S p) 0)))
theorem q_a3 (a b c : Nat) : nI a + nI b + nI c = nI (a + b + c) := by rw [nI_add, nI_add]
abbrev pX9_canAsk : Q_P := fun av M K KX => ∃ x : Int32, s_wf (M.1 22 0 0) ∧ av = [.inr (.inl (21, 0, 0)), .inl x] ∧ K (some (.inl (q_bi (s_lk (M.1 22 0 0) x (s_n (M.1 22 0 0)) = none ∧ s_qd (M.1 22 0 0) x (s_q (M.1 22 0 0)) = none)))) M
theorem cX9_canAsk_ct {l : Launch} {b : Bool} (hl0 : l.stackTraces = false) : q_Ct l b 170 pX9_canAsk := by
  refine q_meth (by decide +kernel) hl0 TX9_canAsk kX9_canAsk ?_
  intro av M K KX hwf
  rintro ⟨x, w, rfl, hK⟩
  refine ⟨Nat.le_of_ble_eq_true rfl, fun Z hz hw => ?_⟩
  obtain ⟨⟨w0, wn⟩, ⟨wq, wq2⟩, -⟩ := w
  have h1 : ∀ p, s_lk (M.1 22 0 0) x (s_n (M.1 22 0 0)) = some p → p < 2 ^ 31 := fun p g => by have := (s_lk_lt g).1; omega
  have h2 : ∀ p, s_qd (M.1 22 0 0) x (s_q (M.1 22 0 0)) = some p → p < 2 ^ 31 := fun p g => by have := (s_qd_lt g).1; omega
  apply hz [] 60
  refine Exists.intro _ ⟨cX9_linkOf_ct hl0, _, x, wn, w0, rfl, ?_⟩
  refine And.intro (fun c => ?_) (fun c => ?_)
  · have c := (s_oi_ge h1).mp c
    rw [q_bi_f (fun g => c g.1)] at hK
    exact And.intro (Or.inl rfl) hK
  · have c : s_lk (M.1 22 0 0) x (s_n (M.1 22 0 0)) = none := Classical.not_not.mp (fun g => c ((s_oi_ge h1).mpr g))
    refine Exists.intro _ ⟨cX9_queued_ct hl0, _, x, wq2, wq, rfl, ?_⟩
    refine And.intro (fun c2 => ?_) (fun c2 => ?_)
    · have c2 := (s_oi_ge h2).mp c2
      rw [q_bi_f (fun g => c2 g.2)] at hK
      exact And.intro (Or.inl rfl) hK
    · have c2 : s_qd (M.1 22 0 0) x (s_q (M.1 22 0 0)) = none := Classical.not_not.mp (fun g => c2 ((s_oi_ge h2).mpr g))
      rw [q_bi_t ⟨c, c2⟩] at hK
      exact And.intro (Or.inr rfl) hK
abbrev pX9_asks : Q_P := fun av M K KX => ∃ x u : Int32, s_wf (M.1 22 0 0) ∧ s_q (M.1 22 0 0) < 20 ∧ av = [.inr (.inl (21, 0, 0)), .inl x, .inl u] ∧ K (some (.inl (q_bi ((s_as (M.1 22 0 0) x u).1 = true)))) (q_sa M (22, 0, 0) (s_as (M.1 22 0 0) x u).2)
theorem cX9_asks_ct {l : Launch} {b : Bool} (hl0 : l.stackTraces = false) : q_Ct l b 171 pX9_asks := by
  refine q_meth (by decide +kernel) hl0 TX9_asks kX9_asks ?_
  intro av M K KX hwf
  rintro ⟨x, u, w, hq, rfl, hK⟩
  refine ⟨Nat.le_of_ble_eq_true rfl, fun Z hz hw => ?_⟩
  obtain ⟨S, hS⟩ : ∃ S, S = M.1 22 0 0 := ⟨_, rfl⟩
  rw [← hS] at w hq hK
  have wq := w.2.1.1
  unfold s_as at hK
  apply hz [] 100
  refine Exists.intro 145 ⟨rfl, by decide, ?_⟩
  refine And.intro (fun c => ?_) (fun c => ?_)
  · have c : S 145 = 0 := by rw [hS]; exact c
    have c0 : s_q S = 0 := by unfold s_q; rw [c]; decide
    rw [if_pos c0] at hK
    refine Exists.intro _ ⟨cX9_lends_ct hl0, x, by rw [← hS]; exact w, rfl, ?_⟩
    rw [← hS]
    rcases hle : s_le S x with ⟨_ | _, S'⟩
    · rw [hle] at hK
      refine And.intro (fun _ => ?_) (fun g => absurd (q_bi_0.mpr (fun g => by cases g)) g)
      refine And.intro (fun _ => ?_) (fun g => absurd (show nI 0 = 0 by decide) g)
      have e145 : S' 145 = nI (s_q S) := by
        have a := (s_fl_eq S w).2.2.1
        unfold s_le at hle
        rcases hf : s_fl S with ⟨_ | p, S2⟩
        · rw [hf] at hle a
          cases hle
          exact (a 145 (by omega) (by omega)).trans wq
        · rw [hf] at hle
          cases hle
      refine Exists.intro _ ⟨cX9_queues_ct hl0, s_q S, x, u, hq, e145, rfl, ?_⟩
      refine And.intro (Or.inl rfl) (q_K hK rfl ?_)
      rw [q_sa_sa]
      rfl
    · rw [hle] at hK
      refine And.intro (fun g => absurd rfl (q_bi_0.mp g)) (fun _ => ?_)
      refine And.intro (fun g => absurd g (show ¬ nI 1 = 0 by decide)) (fun _ => ?_)
      exact And.intro (Or.inr rfl) hK
  · have c : ¬ S 145 = 0 := by rw [hS]; exact c
    have c0 : ¬ s_q S = 0 := fun g => c (by rw [wq, g]; decide)
    rw [if_neg c0] at hK
    refine And.intro (fun _ => ?_) (fun g => absurd (show nI 0 = 0 by decide) g)
    refine Exists.intro _ ⟨cX9_queues_ct hl0, s_q S, x, u, hq, by rw [← hS]; exact wq, rfl, ?_⟩
    rw [← hS]
    exact And.intro (Or.inl rfl) hK
abbrev pX9_givesBack : Q_P := fun av M K KX => ∃ (x : Int32) (p : Nat), s_wf (M.1 22 0 0) ∧ s_lk (M.1 22 0 0) x (s_n (M.1 22 0 0)) = some p ∧ av = [.inr (.inl (21, 0, 0)), .inl x] ∧ K (some (.inl (q_bi (0 < (s_gv (M.1 22 0 0) p).1)))) (q_sa M (22, 0, 0) (s_gv (M.1 22 0 0) p).2)
theorem cX9_givesBack_ct {l : Launch} {b : Bool} (hl0 : l.stackTraces = false) : q_Ct l b 172 pX9_givesBack := by
  refine q_meth (by decide +kernel) hl0 TX9_givesBack kX9_givesBack ?_
  intro av M K KX hwf
  rintro ⟨x, p, w, hp, rfl, hK⟩
  refine ⟨Nat.le_of_ble_eq_true rfl, fun Z hz hw => ?_⟩
  obtain ⟨S, hS⟩ : ∃ S, S = M.1 22 0 0 := ⟨_, rfl⟩
  rw [← hS] at w hp hK
  have hpn := (s_lk_lt hp).1
  have hn := w.1.2
  have wg := s_wf_gb w hpn
  have fin : Z 0 60 [(2, .inl (nI p)), (0, .inr (.inl (21, 0, 0))), (1, .inl x)] [] (q_sa M (22, 0, 0) (s_gb S p)) := by
    apply hz [] 60
    refine Exists.intro _ ⟨cX9_serves_ct hl0, wg, rfl, ?_⟩
    have hle : ∀ (f : Nat) (S : Nat → Int32), (s_sv f S).1 ≤ f := by
      intro f
      induction f with
      | zero => exact fun _ => Nat.le_refl _
      | succ f ih =>
        intro S
        unfold s_sv
        split
        · exact Nat.zero_le _
        · split
          · exact Nat.zero_le _
          · exact Nat.succ_le_succ (ih _)
    have hb := hle (s_q (s_gb S p)) (s_gb S p)
    have hb2 := wg.2.1.2
    unfold s_gv at hK
    refine And.intro (fun (c : nI (s_sv (s_q (s_gb S p)) (s_gb S p)).1 ≤ 0) => ?_) (fun (c : ¬ nI (s_sv (s_q (s_gb S p)) (s_gb S p)).1 ≤ 0) => ?_)
    · have e : ¬ 0 < (s_sv (s_q (s_gb S p)) (s_gb S p)).1 := fun g => nI_nle g (by omega) c
      rw [q_bi_f e] at hK
      refine And.intro (Or.inl rfl) (q_K hK rfl ?_)
      rw [q_sa_sa]
      rfl
    · have e : 0 < (s_sv (s_q (s_gb S p)) (s_gb S p)).1 := Nat.pos_of_ne_zero (fun g => c (by rw [g]; decide))
      rw [q_bi_t e] at hK
      refine And.intro (Or.inr rfl) (q_K hK rfl ?_)
      rw [q_sa_sa]
      rfl
  apply hz [60] 100
  refine Exists.intro _ ⟨cX9_linkOf_ct hl0, s_n S, x, hn, by rw [← hS]; exact w.1.1, rfl, ?_⟩
  rw [← hS, hp]
  refine Exists.intro _ ⟨cX9_link_ct hl0, p, rfl, ?_⟩
  refine Exists.intro (4 + 12 * p) ⟨(nI_add _ 3).trans (congrArg nI (by omega)), by omega, ?_⟩
  unfold s_gb at fin
  refine And.intro (fun c => ?_) (fun c => ?_)
  · have c : S (4 + 12 * p) = nI 1 := by rw [hS]; exact c
    rw [if_pos c] at fin
    refine Exists.intro _ ⟨cX9_closes_ct hl0, s_n S, p, 2, hn, hpn, by decide, by rw [← hS]; exact w.1.1, rfl, ?_⟩
    rw [← hS]
    exact fin
  · have c : ¬ S (4 + 12 * p) = nI 1 := by rw [hS]; exact c
    rw [if_neg c] at fin
    refine Exists.intro _ ⟨cX9_agesAt_ct hl0, p, by omega, rfl, ?_⟩
    refine Exists.intro 209 ⟨rfl, by decide, ?_⟩
    refine And.intro (fun c2 => ?_) (fun c2 => ?_)
    · have c2 : S 206 - S (2 + 12 * p) < S 209 := by rw [hS]; exact c2
      rw [if_neg (Int32.not_le.mpr c2)] at fin
      refine Exists.intro _ ⟨cX9_frees_ct hl0, p, by omega, rfl, ?_⟩
      rw [← hS]
      exact fin
    · have c2 : ¬ S 206 - S (2 + 12 * p) < S 209 := by rw [hS]; exact c2
      rw [if_pos (Int32.not_lt.mp c2)] at fin
      refine Exists.intro _ ⟨cX9_closes_ct hl0, s_n S, p, 0, hn, hpn, by decide, by rw [← hS]; exact w.1.1, rfl, ?_⟩
      rw [← hS]
      exact fin
abbrev pX9_isNutIn : Q_P := fun av M K KX => ∃ (p c : Nat) (y : Int32), p < 12 ∧ c ≤ 4 ∧ M.1 22 0 0 (8 + 12 * p) = nI c ∧ av = [.inr (.inl (21, 0, 0)), .inl (nI p), .inl y] ∧ K (some (.inl (q_bi (s_nu (M.1 22 0 0) p y c = true)))) M
theorem cX9_isNutIn_ct {l : Launch} {b : Bool} (hl0 : l.stackTraces = false) : q_Ct l b 173 pX9_isNutIn := by
  refine q_meth (by decide +kernel) hl0 TX9_isNutIn kX9_isNutIn ?_
  intro av M K KX hwf
  rintro ⟨p, c, y, hp, hc, hm, rfl, hK⟩
  refine ⟨Nat.le_of_ble_eq_true rfl, fun Z hz hw => ?_⟩
  have loop : ∀ d k : Nat, k + d = c → Z 0 5 [(4, .inl (nI k)), (3, .inl (q_bi (s_nu (M.1 22 0 0) p y k = true))), (0, .inr (.inl (21, 0, 0))), (1, .inl (nI p)), (2, .inl y)] [] M := by
    intro d
    induction d with
    | zero =>
      intro k hk
      apply hz [5] 60
      refine Exists.intro _ ⟨cX9_link_ct hl0, p, rfl, ?_⟩
      refine Exists.intro (8 + 12 * p) ⟨(nI_add _ 7).trans (congrArg nI (by omega)), by omega, ?_⟩
      refine And.intro (fun (g : M.1 22 0 0 (8 + 12 * p) ≤ nI k) => ?_) (fun (g : ¬ M.1 22 0 0 (8 + 12 * p) ≤ nI k) => ?_)
      · rw [← show k = c by omega] at hK
        exact And.intro (q_bi_bit _) hK
      · exact absurd (by rw [hm]; exact nI_le (by omega) (by omega)) g
    | succ d ih =>
      intro k hk
      apply hz [5] 60
      refine Exists.intro _ ⟨cX9_link_ct hl0, p, rfl, ?_⟩
      refine Exists.intro (8 + 12 * p) ⟨(nI_add _ 7).trans (congrArg nI (by omega)), by omega, ?_⟩
      have h := ih (k + 1) (by omega)
      rw [← nI_add k 1] at h
      unfold s_nu at h
      refine And.intro (fun (g : M.1 22 0 0 (8 + 12 * p) ≤ nI k) => ?_) (fun (g : ¬ M.1 22 0 0 (8 + 12 * p) ≤ nI k) => ?_)
      · rw [hm, q_ge_n (by omega) (by omega)] at g
        omega
      · refine And.intro (fun g2 => ?_) (fun g2 => ?_)
        · have g2 := q_bi_0.mp g2
          have g2 : s_nu (M.1 22 0 0) p y k = false := by
            cases hb : s_nu (M.1 22 0 0) p y k with
            | false => rfl
            | true => exact absurd hb g2
          refine Exists.intro _ ⟨cX9_link_ct hl0, p, rfl, ?_⟩
          refine Exists.intro (9 + 12 * p + k) ⟨(q_a3 _ 8 k).trans (congrArg nI (by omega)), by omega, ?_⟩
          rw [g2, Bool.false_or] at h
          refine And.intro (fun (g3 : M.1 22 0 0 (9 + 12 * p + k) = y) => ?_) (fun (g3 : ¬ M.1 22 0 0 (9 + 12 * p + k) = y) => ?_)
          · rw [q_bi_t (decide_eq_true g3)] at h
            exact h
          · rw [q_bi_f (fun g => g3 (of_decide_eq_true g))] at h
            exact h
        · have g2 : s_nu (M.1 22 0 0) p y k = true := Classical.not_not.mp (fun g => g2 (q_bi_0.mpr g))
          rw [g2, Bool.true_or, q_bi_t rfl] at h
          exact h
  apply hz [5] 60
  exact loop c 0 (by omega)
abbrev pX9_uses : Q_P := fun av M K KX => ∃ (x y : Int32) (p : Nat), s_wf (M.1 22 0 0) ∧ s_lk (M.1 22 0 0) x (s_n (M.1 22 0 0)) = some p ∧ av = [.inr (.inl (21, 0, 0)), .inl x, .inl y] ∧ K (some (.inl (q_bi ((s_us (M.1 22 0 0) p y).1 = true)))) (q_sa M (22, 0, 0) (s_us (M.1 22 0 0) p y).2)
theorem cX9_uses_ct {l : Launch} {b : Bool} (hl0 : l.stackTraces = false) : q_Ct l b 174 pX9_uses := by
  refine q_meth (by decide +kernel) hl0 TX9_uses kX9_uses ?_
  intro av M K KX hwf
  rintro ⟨x, y, p, w, hp, rfl, hK⟩
  refine ⟨Nat.le_of_ble_eq_true rfl, fun Z hz hw => ?_⟩
  obtain ⟨S, hS⟩ : ∃ S, S = M.1 22 0 0 := ⟨_, rfl⟩
  rw [← hS] at w hp hK
  have hpn := (s_lk_lt hp).1
  have hn := w.1.2
  obtain ⟨c, hc, hm⟩ := (w.2.2.2.2.2.1 p hpn).2.2
  have ec : s_c S p = c := s_of hm (by omega)
  unfold s_us at hK
  rw [ec] at hK
  obtain ⟨h, hh⟩ : ∃ h, h = s_nu S p y c := ⟨_, rfl⟩
  obtain ⟨f, hf⟩ : ∃ f, f = s_fi S p y c 0 := ⟨_, rfl⟩
  rw [← hh, ← hf] at hK
  have hfc : f ≤ c := by rw [hf]; have := (s_fi_le (S := S) (p := p) (y := y) c 0).2; omega
  have tail : ∀ (S1 : Nat → Int32) (f1 : Nat), f1 ≤ 4 → K (some (.inl (q_bi (h = true)))) (q_sa M (22, 0, 0) (s_ub S1 p y h f1)) → Z 0 116 [(5, .inl (nI f1)), (4, .inl (q_bi (h = true))), (3, .inl (nI (1 + 12 * p))), (0, .inr (.inl (21, 0, 0))), (1, .inl x), (2, .inl y)] [] (q_sa M (22, 0, 0) S1) := by
    intro S1 f1 hf1 hK
    have last : Z 0 157 [(4, .inl (q_bi (h = true))), (3, .inl (nI (1 + 12 * p))), (0, .inr (.inl (21, 0, 0))), (1, .inl x), (2, .inl y)] [] (q_sa M (22, 0, 0) (fun j => if 9 + 12 * p < j ∧ j < 10 + 12 * p + f1 then S1 (j - 1) else S1 j)) := by
      apply hz [] 60
      refine Exists.intro (9 + 12 * p) ⟨(nI_add _ 8).trans (congrArg nI (by omega)), by omega, ?_⟩
      cases h with
      | false =>
        refine And.intro (fun _ => ?_) (fun g => absurd (q_bi_0.mpr (fun g => by cases g)) g)
        refine Exists.intro 225 ⟨rfl, by decide, ?_⟩
        refine Exists.intro 225 ⟨rfl, by decide, ?_⟩
        refine And.intro (q_bi_bit _) (q_K hK rfl ?_)
        simp only [q_si22, q_r22, q_sa_sa]
        rfl
      | true =>
        refine And.intro (fun g => absurd rfl (q_bi_0.mp g)) (fun _ => ?_)
        refine Exists.intro 224 ⟨rfl, by decide, ?_⟩
        refine Exists.intro 224 ⟨rfl, by decide, ?_⟩
        refine And.intro (q_bi_bit _) (q_K hK rfl ?_)
        simp only [q_si22, q_r22, q_sa_sa]
        rfl
    have shift : ∀ k : Nat, k ≤ f1 → Z 0 120 [(6, .inl (nI k)), (5, .inl (nI f1)), (4, .inl (q_bi (h = true))), (3, .inl (nI (1 + 12 * p))), (0, .inr (.inl (21, 0, 0))), (1, .inl x), (2, .inl y)] [] (q_sa M (22, 0, 0) (fun j => if 9 + 12 * p + k < j ∧ j < 10 + 12 * p + f1 then S1 (j - 1) else S1 j)) := by
      intro k
      induction k with
      | zero =>
        intro _
        apply hz [120, 157] 60
        refine And.intro (fun _ => ?_) (fun g => absurd (show nI 0 ≤ 0 by decide) g)
        exact hw _ _ _ _ _ _ last (fun q hq => List.mem_cons_of_mem _ (List.mem_cons_of_mem _ hq))
      | succ k ih =>
        intro hk
        apply hz [120, 157] 60
        refine And.intro (fun g => absurd g (nI_nle (by omega) (by omega))) (fun _ => ?_)
        refine Exists.intro (9 + 12 * p + k) ⟨((congrArg (fun z => z - nI 1) (q_a3 _ 8 (k + 1))).trans (pk_sub (by omega))).trans (congrArg nI (by omega)), by omega, ?_⟩
        refine Exists.intro (10 + 12 * p + k) ⟨(q_a3 _ 8 (k + 1)).trans (congrArg nI (by omega)), by omega, ?_⟩
        have h := ih (by omega)
        have e : (fun j => if 9 + 12 * p + k < j ∧ j < 10 + 12 * p + f1 then S1 (j - 1) else S1 j) = upd (fun j => if 9 + 12 * p + (k + 1) < j ∧ j < 10 + 12 * p + f1 then S1 (j - 1) else S1 j) (10 + 12 * p + k) (if 9 + 12 * p + (k + 1) < 9 + 12 * p + k ∧ 9 + 12 * p + k < 10 + 12 * p + f1 then S1 (9 + 12 * p + k - 1) else S1 (9 + 12 * p + k)) := by
          funext j
          unfold upd
          by_cases hj : j = 10 + 12 * p + k
          · rw [if_pos hj, if_pos (by omega), if_neg (by omega)]
            exact congrArg S1 (by omega)
          · rw [if_neg hj]
            by_cases hj2 : 9 + 12 * p + k < j ∧ j < 10 + 12 * p + f1
            · exact (if_pos hj2).trans (if_pos (by omega)).symm
            · exact (if_neg hj2).trans (if_neg (by omega)).symm
        rw [e, ← pk_m1 k] at h
        rw [q_si22, q_sa_sa]
        exact h
    apply hz [120] 60
    have h := shift f1 (Nat.le_refl _)
    have e : (fun j => if 9 + 12 * p + f1 < j ∧ j < 10 + 12 * p + f1 then S1 (j - 1) else S1 j) = S1 := funext fun j => if_neg (by omega)
    rw [e] at h
    exact h
  have mid : Z 0 60 [(5, .inl (nI f)), (4, .inl (q_bi (h = true))), (3, .inl (nI (1 + 12 * p))), (0, .inr (.inl (21, 0, 0))), (1, .inl x), (2, .inl y)] [] (q_sa M (22, 0, 0) S) := by
    apply hz [77, 116] 60
    cases h with
    | true =>
      refine And.intro (fun g => absurd rfl (q_bi_0.mp g)) (fun _ => ?_)
      exact tail S f (by omega) hK
    | false =>
      refine And.intro (fun _ => ?_) (fun g => absurd (q_bi_0.mpr (fun g => by cases g)) g)
      have t1 : ∀ f1, f1 = s_f1 false f → Z 0 77 [(4, .inl (q_bi (false = true))), (3, .inl (nI (1 + 12 * p))), (0, .inr (.inl (21, 0, 0))), (1, .inl x), (2, .inl y)] [.inl (nI f1)] (q_sa M (22, 0, 0) S) := by
        intro f1 hf1
        have hf14 : f1 ≤ 4 := by
          rw [hf1]
          show (if f < 4 then f else 3) ≤ 4
          split <;> omega
        have hT := tail (upd S (8 + 12 * p) (if S (8 + 12 * p) < nI 4 then S (8 + 12 * p) + nI 1 else nI 4)) f1 hf14 (by rw [hf1]; exact hK)
        apply hz [116] 60
        refine Exists.intro (8 + 12 * p) ⟨(nI_add _ 7).trans (congrArg nI (by omega)), by omega, ?_⟩
        refine And.intro (fun (g : nI 4 ≤ S (8 + 12 * p)) => ?_) (fun (g : ¬ nI 4 ≤ S (8 + 12 * p)) => ?_)
        · refine Exists.intro (8 + 12 * p) ⟨(nI_add _ 7).trans (congrArg nI (by omega)), by omega, ?_⟩
          rw [if_neg (Int32.not_lt.mpr g)] at hT
          rw [q_si22, q_sa_sa]
          exact hT
        · refine Exists.intro (8 + 12 * p) ⟨(nI_add _ 7).trans (congrArg nI (by omega)), by omega, ?_⟩
          refine Exists.intro (8 + 12 * p) ⟨(nI_add _ 7).trans (congrArg nI (by omega)), by omega, ?_⟩
          rw [if_pos (Int32.not_le.mp g)] at hT
          rw [q_si22, q_sa_sa]
          exact hT
      refine And.intro (fun (g : nI 4 ≤ nI f) => ?_) (fun (g : ¬ nI 4 ≤ nI f) => ?_)
      · rw [nI_leI (by omega) (by omega)] at g
        exact hw _ _ _ _ _ _ (t1 3 (by unfold s_f1; rw [if_neg (by decide), if_neg (by omega)])) (fun q hq => List.mem_cons_of_mem _ hq)
      · rw [nI_leI (by omega) (by omega)] at g
        exact hw _ _ _ _ _ _ (t1 f (by unfold s_f1; rw [if_neg (by decide), if_pos (by omega)])) (fun q hq => List.mem_cons_of_mem _ hq)
  have find : ∀ d k : Nat, k + d = c → s_fi S p y d k = f → Z 0 24 [(5, .inl (nI k)), (4, .inl (q_bi (h = true))), (3, .inl (nI (1 + 12 * p))), (0, .inr (.inl (21, 0, 0))), (1, .inl x), (2, .inl y)] [] (q_sa M (22, 0, 0) S) := by
    intro d
    induction d with
    | zero =>
      intro k hk hfi
      have hfi : k = f := hfi
      apply hz [24, 60] 60
      refine Exists.intro (8 + 12 * p) ⟨(nI_add _ 7).trans (congrArg nI (by omega)), by omega, ?_⟩
      refine And.intro (fun (g : S (8 + 12 * p) ≤ nI k) => ?_) (fun (g : ¬ S (8 + 12 * p) ≤ nI k) => ?_)
      · rw [hfi]
        exact mid
      · exact absurd (by rw [hm]; exact nI_le (by omega) (by omega)) g
    | succ d ih =>
      intro k hk hfi
      unfold s_fi at hfi
      apply hz [24, 60] 60
      refine Exists.intro (8 + 12 * p) ⟨(nI_add _ 7).trans (congrArg nI (by omega)), by omega, ?_⟩
      refine And.intro (fun (g : S (8 + 12 * p) ≤ nI k) => ?_) (fun (g : ¬ S (8 + 12 * p) ≤ nI k) => ?_)
      · rw [hm, q_ge_n (by omega) (by omega)] at g
        omega
      · refine Exists.intro (9 + 12 * p + k) ⟨(q_a3 _ 8 k).trans (congrArg nI (by omega)), by omega, ?_⟩
        refine And.intro (fun (g2 : S (9 + 12 * p + k) = y) => ?_) (fun (g2 : ¬ S (9 + 12 * p + k) = y) => ?_)
        · rw [if_pos g2] at hfi
          rw [hfi]
          exact mid
        · rw [if_neg g2] at hfi
          have h := ih (k + 1) (by omega) hfi
          rw [← nI_add k 1] at h
          exact h
  apply hz [24] 60
  refine Exists.intro _ ⟨cX9_linkOf_ct hl0, s_n S, x, hn, by rw [← hS]; exact w.1.1, rfl, ?_⟩
  rw [← hS, hp]
  refine Exists.intro _ ⟨cX9_link_ct hl0, p, rfl, ?_⟩
  refine Exists.intro _ ⟨cX9_linkOf_ct hl0, s_n S, x, hn, by rw [← hS]; exact w.1.1, rfl, ?_⟩
  rw [← hS, hp]
  refine Exists.intro _ ⟨cX9_isNutIn_ct hl0, p, c, y, by omega, hc, by rw [← hS]; exact hm, rfl, ?_⟩
  rw [← hS, ← hh]
  have h := find c 0 (by omega) hf.symm
  rw [hS, q_e22] at h
  exact h
