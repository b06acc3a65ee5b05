-- THE REFERENCE'S LEAVES
def s_n (S : Nat → Int32) : Nat := (S 0).toNatClampNeg
def s_oi : Option Nat → Int32
  | none => -1
  | some p => nI p
/-- how many of the first k are idle -/
def s_cf (S : Nat → Int32) : Nat → Nat
  | 0 => 0
  | k + 1 => s_cf S k + (if S (3 + 12 * k) < 0 then 1 else 0)
/-- the last of the first k that squirrel x has -/
def s_lk (S : Nat → Int32) (x : Int32) : Nat → Option Nat
  | 0 => none
  | k + 1 => if S (3 + 12 * k) = x then some k else s_lk S x k
def s_go (a b c : Int32) : Nat := if a = 0 then 1 else if b = 0 then 2 else if c = 0 then 3 else 0
def s_fr (S : Nat → Int32) (p : Nat) : Nat → Int32 :=
  let S1 := upd S 226 (S 226 + nI 1)
  let S2 := upd S1 (3 + 12 * p) (-1)
  let S3 := upd S2 (5 + 12 * p) (S2 206)
  upd S3 (6 + 12 * p) (S3 226)
abbrev pX9_in : Q_P := fun av M K KX => ∃ v lo hi : Int32, av = [.inl v, .inl lo, .inl hi] ∧ K (some (.inl (q_bi (lo ≤ v ∧ v ≤ hi)))) M
theorem cX9_in_ct {l : Launch} {b : Bool} (hl0 : l.stackTraces = false) : q_Ct l b 147 pX9_in := by
  refine q_meth (by decide +kernel) hl0 TX9_in kX9_in ?_
  intro av M K KX hwf
  rintro ⟨v, lo, hi, rfl, hK⟩
  refine ⟨Nat.le_of_ble_eq_true rfl, fun Z hz hw => ?_⟩
  apply hz [] 40
  refine And.intro (fun (c : v < lo) => ?_) (fun (c : ¬ v < lo) => ?_)
  · rw [q_bi_f (fun g => absurd g.1 (Int32.not_le.mpr c))] at hK
    exact And.intro (Or.inl rfl) hK
  · refine And.intro (fun (c2 : hi < v) => ?_) (fun (c2 : ¬ hi < v) => ?_)
    · rw [q_bi_f (fun g => absurd g.2 (Int32.not_le.mpr c2))] at hK
      exact And.intro (Or.inl rfl) hK
    · rw [q_bi_t ⟨Int32.not_lt.mp c, Int32.not_lt.mp c2⟩] at hK
      exact And.intro (Or.inr rfl) hK
abbrev pX9_goes : Q_P := fun av M K KX => ∃ x y w : Int32, av = [.inr (.inl (21, 0, 0)), .inl x, .inl y, .inl w] ∧ K (some (.inl (q_bi (s_go x y w = 0)))) (q_si M (21, 0, 0) 3 (nI (s_go x y w)))
theorem cX9_goes_ct {l : Launch} {b : Bool} (hl0 : l.stackTraces = false) : q_Ct l b 148 pX9_goes := by
  refine q_meth (by decide +kernel) hl0 TX9_goes kX9_goes ?_
  intro av M K KX hwf
  rintro ⟨x, y, w, rfl, hK⟩
  refine ⟨Nat.le_of_ble_eq_true rfl, fun Z hz hw => ?_⟩
  apply hz [] 60
  refine And.intro (fun (c : x = 0) => ?_) (fun (c : ¬ x = 0) => ?_)
  · have e : s_go x y w = 1 := if_pos c
    rw [e, q_bi_f (by decide)] at hK
    exact And.intro (fun g => absurd g q_n1) (fun _ => And.intro (Or.inl rfl) hK)
  · refine And.intro (fun (c2 : y = 0) => ?_) (fun (c2 : ¬ y = 0) => ?_)
    · have e : s_go x y w = 2 := by unfold s_go; rw [if_neg c, if_pos c2]
      rw [e, q_bi_f (by decide)] at hK
      exact And.intro (fun g => absurd g (show ¬ nI 2 = 0 by decide)) (fun _ => And.intro (Or.inl rfl) hK)
    · refine And.intro (fun (c3 : w = 0) => ?_) (fun (c3 : ¬ w = 0) => ?_)
      · have e : s_go x y w = 3 := by unfold s_go; rw [if_neg c, if_neg c2, if_pos c3]
        rw [e, q_bi_f (by decide)] at hK
        exact And.intro (fun g => absurd g (show ¬ nI 3 = 0 by decide)) (fun _ => And.intro (Or.inl rfl) hK)
      · have e : s_go x y w = 0 := by unfold s_go; rw [if_neg c, if_neg c2, if_neg c3]
        rw [e, q_bi_t rfl] at hK
        exact And.intro (fun _ => And.intro (Or.inr rfl) hK) (fun g => absurd nI_0 g)
abbrev pX9_link : Q_P := fun av M K KX => ∃ p : Nat, av = [.inl (nI p)] ∧ K (some (.inl (nI (1 + 12 * p)))) M
theorem cX9_link_ct {l : Launch} {b : Bool} (hl0 : l.stackTraces = false) : q_Ct l b 152 pX9_link := by
  refine q_meth (by decide +kernel) hl0 TX9_link kX9_link ?_
  intro av M K KX hwf
  rintro ⟨p, rfl, hK⟩
  refine ⟨Nat.le_of_ble_eq_true rfl, fun Z hz hw => ?_⟩
  apply hz [] 40
  refine q_K hK ?_ rfl
  rw [← nI_add, ← pk_mul]
  rfl
abbrev pX9_waiter : Q_P := fun av M K KX => ∃ p : Nat, av = [.inl (nI p)] ∧ K (some (.inl (nI (146 + 3 * p)))) M
theorem cX9_waiter_ct {l : Launch} {b : Bool} (hl0 : l.stackTraces = false) : q_Ct l b 164 pX9_waiter := by
  refine q_meth (by decide +kernel) hl0 TX9_waiter kX9_waiter ?_
  intro av M K KX hwf
  rintro ⟨p, rfl, hK⟩
  refine ⟨Nat.le_of_ble_eq_true rfl, fun Z hz hw => ?_⟩
  apply hz [] 40
  refine q_K hK ?_ rfl
  rw [← nI_add, ← pk_mul]
  rfl
abbrev pX9_isFree : Q_P := fun av M K KX => ∃ p : Nat, p < 12 ∧ av = [.inr (.inl (21, 0, 0)), .inl (nI p)] ∧ K (some (.inl (q_bi (M.1 22 0 0 (3 + 12 * p) < 0)))) M
theorem cX9_isFree_ct {l : Launch} {b : Bool} (hl0 : l.stackTraces = false) : q_Ct l b 154 pX9_isFree := by
  refine q_meth (by decide +kernel) hl0 TX9_isFree kX9_isFree ?_
  intro av M K KX hwf
  rintro ⟨p, hp, rfl, hK⟩
  refine ⟨Nat.le_of_ble_eq_true rfl, fun Z hz hw => ?_⟩
  apply hz [] 40
  refine Exists.intro _ ⟨cX9_link_ct hl0, p, rfl, ?_⟩
  refine Exists.intro (3 + 12 * p) ⟨(nI_add _ 2).trans (congrArg nI (by omega)), by omega, ?_⟩
  refine And.intro (fun (c : 0 ≤ M.1 22 0 0 (3 + 12 * p)) => ?_) (fun (c : ¬ 0 ≤ M.1 22 0 0 (3 + 12 * p)) => ?_)
  · rw [q_bi_f (Int32.not_lt.mpr c)] at hK
    exact And.intro (Or.inl rfl) hK
  · rw [q_bi_t (Int32.not_le.mp c)] at hK
    exact And.intro (Or.inr rfl) hK
abbrev pX9_agesAt : Q_P := fun av M K KX => ∃ p : Nat, p < 12 ∧ av = [.inr (.inl (21, 0, 0)), .inl (nI p)] ∧ K (some (.inl (M.1 22 0 0 206 - M.1 22 0 0 (2 + 12 * p)))) M
theorem cX9_agesAt_ct {l : Launch} {b : Bool} (hl0 : l.stackTraces = false) : q_Ct l b 155 pX9_agesAt := by
  refine q_meth (by decide +kernel) hl0 TX9_agesAt kX9_agesAt ?_
  intro av M K KX hwf
  rintro ⟨p, hp, rfl, hK⟩
  refine ⟨Nat.le_of_ble_eq_true rfl, fun Z hz hw => ?_⟩
  apply hz [] 40
  refine Exists.intro 206 ⟨rfl, by decide, ?_⟩
  refine Exists.intro _ ⟨cX9_link_ct hl0, p, rfl, ?_⟩
  refine Exists.intro (2 + 12 * p) ⟨(nI_add _ 1).trans (congrArg nI (by omega)), by omega, ?_⟩
  exact hK
abbrev pX9_frees : Q_P := fun av M K KX => ∃ p : Nat, p < 12 ∧ av = [.inr (.inl (21, 0, 0)), .inl (nI p)] ∧ K none (q_sa M (22, 0, 0) (s_fr (M.1 22 0 0) p))
theorem cX9_frees_ct {l : Launch} {b : Bool} (hl0 : l.stackTraces = false) : q_Ct l b 161 pX9_frees := by
  refine q_meth (by decide +kernel) hl0 TX9_frees kX9_frees ?_
  intro av M K KX hwf
  rintro ⟨p, hp, rfl, hK⟩
  refine ⟨Nat.le_of_ble_eq_true rfl, fun Z hz hw => ?_⟩
  apply hz [] 80
  refine Exists.intro 226 ⟨rfl, by decide, ?_⟩
  refine Exists.intro 226 ⟨rfl, by decide, ?_⟩
  refine Exists.intro _ ⟨cX9_link_ct hl0, p, rfl, ?_⟩
  refine Exists.intro (3 + 12 * p) ⟨(nI_add _ 2).trans (congrArg nI (by omega)), by omega, ?_⟩
  refine Exists.intro _ ⟨cX9_link_ct hl0, p, rfl, ?_⟩
  refine Exists.intro 206 ⟨rfl, by decide, ?_⟩
  refine Exists.intro (5 + 12 * p) ⟨(nI_add _ 4).trans (congrArg nI (by omega)), by omega, ?_⟩
  refine Exists.intro _ ⟨cX9_link_ct hl0, p, rfl, ?_⟩
  refine Exists.intro 226 ⟨rfl, by decide, ?_⟩
  refine Exists.intro (6 + 12 * p) ⟨(nI_add _ 5).trans (congrArg nI (by omega)), by omega, ?_⟩
  refine q_K hK rfl ?_
  simp only [q_si22, q_r22, q_sa_sa]
  rfl
