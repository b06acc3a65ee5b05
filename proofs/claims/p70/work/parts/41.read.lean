-- WHAT THE POOL TELLS: READERS
abbrev pX8_livingByGoing : Q_P := fun av M K KX => ∃ S : Nat → Int32, RC 0 M S ∧ av = [.inr (.inl (0, 0, 0))] ∧ K (some (.inl (S 0))) M
theorem cX8_livingByGoing_ct {l : Launch} {b : Bool} (hl0 : l.stackTraces = false) : q_Ct l b 88 pX8_livingByGoing := by
  refine q_meth (by decide +kernel) hl0 TX8_livingByGoing kX8_livingByGoing ?_
  intro av M K KX hwf
  rintro ⟨S, hR, rfl, hK⟩
  refine ⟨Nat.le_of_ble_eq_true rfl, fun Z hz hw => ?_⟩
  have e : M.1 10 0 0 1 = S 0 := hR.2.1.2.1
  apply hz [] 60
  rw [← e] at hK
  exact hK
abbrev pX8_time : Q_P := fun av M K KX => ∃ S : Nat → Int32, RC 0 M S ∧ av = [.inr (.inl (0, 0, 0))] ∧ K (some (.inl (S 206))) M
theorem cX8_time_ct {l : Launch} {b : Bool} (hl0 : l.stackTraces = false) : q_Ct l b 123 pX8_time := by
  refine q_meth (by decide +kernel) hl0 TX8_time kX8_time ?_
  intro av M K KX hwf
  rintro ⟨S, hR, rfl, hK⟩
  refine ⟨Nat.le_of_ble_eq_true rfl, fun Z hz hw => ?_⟩
  have e : M.1 10 0 0 0 = S 206 := hR.2.1.1
  apply hz [] 60
  rw [← e] at hK
  exact hK
abbrev pX8_waiting : Q_P := fun av M K KX => ∃ S : Nat → Int32, RC 0 M S ∧ av = [.inr (.inl (0, 0, 0))] ∧ K (some (.inl (S 145))) M
theorem cX8_waiting_ct {l : Launch} {b : Bool} (hl0 : l.stackTraces = false) : q_Ct l b 110 pX8_waiting := by
  refine q_meth (by decide +kernel) hl0 TX8_waiting kX8_waiting ?_
  intro av M K KX hwf
  rintro ⟨S, hR, rfl, hK⟩
  refine ⟨Nat.le_of_ble_eq_true rfl, fun Z hz hw => ?_⟩
  have e : M.1 12 0 0 0 = S 145 := hR.2.2.2.1.1
  apply hz [] 60
  rw [← e] at hK
  exact hK
abbrev pX8_most : Q_P := fun av M K KX => ∃ S : Nat → Int32, RC 0 M S ∧ av = [.inr (.inl (0, 0, 0))] ∧ K (some (.inl (S 207))) M
theorem cX8_most_ct {l : Launch} {b : Bool} (hl0 : l.stackTraces = false) : q_Ct l b 112 pX8_most := by
  refine q_meth (by decide +kernel) hl0 TX8_most kX8_most ?_
  intro av M K KX hwf
  rintro ⟨S, hR, rfl, hK⟩
  refine ⟨Nat.le_of_ble_eq_true rfl, fun Z hz hw => ?_⟩
  have e : M.1 16 0 0 0 = S 207 := hR.2.2.2.2.1 0 (by omega)
  apply hz [] 60
  rw [← e] at hK
  exact hK
abbrev pX8_leastIdle : Q_P := fun av M K KX => ∃ S : Nat → Int32, RC 0 M S ∧ av = [.inr (.inl (0, 0, 0))] ∧ K (some (.inl (S 208))) M
theorem cX8_leastIdle_ct {l : Launch} {b : Bool} (hl0 : l.stackTraces = false) : q_Ct l b 113 pX8_leastIdle := by
  refine q_meth (by decide +kernel) hl0 TX8_leastIdle kX8_leastIdle ?_
  intro av M K KX hwf
  rintro ⟨S, hR, rfl, hK⟩
  refine ⟨Nat.le_of_ble_eq_true rfl, fun Z hz hw => ?_⟩
  have e : M.1 16 0 0 1 = S 208 := hR.2.2.2.2.1 1 (by omega)
  apply hz [] 60
  rw [← e] at hK
  exact hK
abbrev pX8_ageLimit : Q_P := fun av M K KX => ∃ S : Nat → Int32, RC 0 M S ∧ av = [.inr (.inl (0, 0, 0))] ∧ K (some (.inl (S 209))) M
theorem cX8_ageLimit_ct {l : Launch} {b : Bool} (hl0 : l.stackTraces = false) : q_Ct l b 114 pX8_ageLimit := by
  refine q_meth (by decide +kernel) hl0 TX8_ageLimit kX8_ageLimit ?_
  intro av M K KX hwf
  rintro ⟨S, hR, rfl, hK⟩
  refine ⟨Nat.le_of_ble_eq_true rfl, fun Z hz hw => ?_⟩
  have e : M.1 16 0 0 2 = S 209 := hR.2.2.2.2.1 2 (by omega)
  apply hz [] 60
  rw [← e] at hK
  exact hK
abbrev pX8_restLimit : Q_P := fun av M K KX => ∃ S : Nat → Int32, RC 0 M S ∧ av = [.inr (.inl (0, 0, 0))] ∧ K (some (.inl (S 210))) M
theorem cX8_restLimit_ct {l : Launch} {b : Bool} (hl0 : l.stackTraces = false) : q_Ct l b 115 pX8_restLimit := by
  refine q_meth (by decide +kernel) hl0 TX8_restLimit kX8_restLimit ?_
  intro av M K KX hwf
  rintro ⟨S, hR, rfl, hK⟩
  refine ⟨Nat.le_of_ble_eq_true rfl, fun Z hz hw => ?_⟩
  have e : M.1 16 0 0 3 = S 210 := hR.2.2.2.2.1 3 (by omega)
  apply hz [] 60
  rw [← e] at hK
  exact hK
abbrev pX8_leaseLimit : Q_P := fun av M K KX => ∃ S : Nat → Int32, RC 0 M S ∧ av = [.inr (.inl (0, 0, 0))] ∧ K (some (.inl (S 211))) M
theorem cX8_leaseLimit_ct {l : Launch} {b : Bool} (hl0 : l.stackTraces = false) : q_Ct l b 116 pX8_leaseLimit := by
  refine q_meth (by decide +kernel) hl0 TX8_leaseLimit kX8_leaseLimit ?_
  intro av M K KX hwf
  rintro ⟨S, hR, rfl, hK⟩
  refine ⟨Nat.le_of_ble_eq_true rfl, fun Z hz hw => ?_⟩
  have e : M.1 16 0 0 4 = S 211 := hR.2.2.2.2.1 4 (by omega)
  apply hz [] 60
  rw [← e] at hK
  exact hK
abbrev pX8_patience : Q_P := fun av M K KX => ∃ S : Nat → Int32, RC 0 M S ∧ av = [.inr (.inl (0, 0, 0))] ∧ K (some (.inl (S 212))) M
theorem cX8_patience_ct {l : Launch} {b : Bool} (hl0 : l.stackTraces = false) : q_Ct l b 117 pX8_patience := by
  refine q_meth (by decide +kernel) hl0 TX8_patience kX8_patience ?_
  intro av M K KX hwf
  rintro ⟨S, hR, rfl, hK⟩
  refine ⟨Nat.le_of_ble_eq_true rfl, fun Z hz hw => ?_⟩
  have e : M.1 16 0 0 5 = S 212 := hR.2.2.2.2.1 5 (by omega)
  apply hz [] 60
  rw [← e] at hK
  exact hK
abbrev pX8_isLastFirst : Q_P := fun av M K KX => ∃ S : Nat → Int32, RC 0 M S ∧ av = [.inr (.inl (0, 0, 0))] ∧ K (some (.inl (S 213))) M
theorem cX8_isLastFirst_ct {l : Launch} {b : Bool} (hl0 : l.stackTraces = false) : q_Ct l b 118 pX8_isLastFirst := by
  refine q_meth (by decide +kernel) hl0 TX8_isLastFirst kX8_isLastFirst ?_
  intro av M K KX hwf
  rintro ⟨S, hR, rfl, hK⟩
  refine ⟨Nat.le_of_ble_eq_true rfl, fun Z hz hw => ?_⟩
  have e : M.1 16 0 0 6 = S 213 := hR.2.2.2.2.1 6 (by omega)
  apply hz [] 60
  rw [← e] at hK
  exact And.intro (by rw [e]; exact hR.1.2.2.2.2.1) hK
abbrev pX8_opened : Q_P := fun av M K KX => ∃ S : Nat → Int32, RC 0 M S ∧ av = [.inr (.inl (0, 0, 0))] ∧ K (some (.inl (S 214))) M
theorem cX8_opened_ct {l : Launch} {b : Bool} (hl0 : l.stackTraces = false) : q_Ct l b 124 pX8_opened := by
  refine q_meth (by decide +kernel) hl0 TX8_opened kX8_opened ?_
  intro av M K KX hwf
  rintro ⟨S, hR, rfl, hK⟩
  refine ⟨Nat.le_of_ble_eq_true rfl, fun Z hz hw => ?_⟩
  have e : M.1 17 0 0 0 = S 214 := hR.2.2.2.2.2.1
  apply hz [] 60
  rw [← e] at hK
  exact hK
abbrev pX8_lendings : Q_P := fun av M K KX => ∃ S : Nat → Int32, RC 0 M S ∧ av = [.inr (.inl (0, 0, 0))] ∧ K (some (.inl (S 220))) M
theorem cX8_lendings_ct {l : Launch} {b : Bool} (hl0 : l.stackTraces = false) : q_Ct l b 126 pX8_lendings := by
  refine q_meth (by decide +kernel) hl0 TX8_lendings kX8_lendings ?_
  intro av M K KX hwf
  rintro ⟨S, hR, rfl, hK⟩
  refine ⟨Nat.le_of_ble_eq_true rfl, fun Z hz hw => ?_⟩
  have e : M.1 17 0 0 2 = S 220 := hR.2.2.2.2.2.2.2 0 (by omega)
  apply hz [] 60
  rw [← e] at hK
  exact hK
abbrev pX8_impatient : Q_P := fun av M K KX => ∃ S : Nat → Int32, RC 0 M S ∧ av = [.inr (.inl (0, 0, 0))] ∧ K (some (.inl (S 221))) M
theorem cX8_impatient_ct {l : Launch} {b : Bool} (hl0 : l.stackTraces = false) : q_Ct l b 127 pX8_impatient := by
  refine q_meth (by decide +kernel) hl0 TX8_impatient kX8_impatient ?_
  intro av M K KX hwf
  rintro ⟨S, hR, rfl, hK⟩
  refine ⟨Nat.le_of_ble_eq_true rfl, fun Z hz hw => ?_⟩
  have e : M.1 17 0 0 3 = S 221 := hR.2.2.2.2.2.2.2 1 (by omega)
  apply hz [] 60
  rw [← e] at hK
  exact hK
abbrev pX8_served : Q_P := fun av M K KX => ∃ S : Nat → Int32, RC 0 M S ∧ av = [.inr (.inl (0, 0, 0))] ∧ K (some (.inl (S 222))) M
theorem cX8_served_ct {l : Launch} {b : Bool} (hl0 : l.stackTraces = false) : q_Ct l b 128 pX8_served := by
  refine q_meth (by decide +kernel) hl0 TX8_served kX8_served ?_
  intro av M K KX hwf
  rintro ⟨S, hR, rfl, hK⟩
  refine ⟨Nat.le_of_ble_eq_true rfl, fun Z hz hw => ?_⟩
  have e : M.1 17 0 0 4 = S 222 := hR.2.2.2.2.2.2.2 2 (by omega)
  apply hz [] 60
  rw [← e] at hK
  exact hK
abbrev pX8_waited : Q_P := fun av M K KX => ∃ S : Nat → Int32, RC 0 M S ∧ av = [.inr (.inl (0, 0, 0))] ∧ K (some (.inl (S 223))) M
theorem cX8_waited_ct {l : Launch} {b : Bool} (hl0 : l.stackTraces = false) : q_Ct l b 129 pX8_waited := by
  refine q_meth (by decide +kernel) hl0 TX8_waited kX8_waited ?_
  intro av M K KX hwf
  rintro ⟨S, hR, rfl, hK⟩
  refine ⟨Nat.le_of_ble_eq_true rfl, fun Z hz hw => ?_⟩
  have e : M.1 17 0 0 5 = S 223 := hR.2.2.2.2.2.2.2 3 (by omega)
  apply hz [] 60
  rw [← e] at hK
  exact hK
abbrev pX8_hits : Q_P := fun av M K KX => ∃ S : Nat → Int32, RC 0 M S ∧ av = [.inr (.inl (0, 0, 0))] ∧ K (some (.inl (S 224))) M
theorem cX8_hits_ct {l : Launch} {b : Bool} (hl0 : l.stackTraces = false) : q_Ct l b 130 pX8_hits := by
  refine q_meth (by decide +kernel) hl0 TX8_hits kX8_hits ?_
  intro av M K KX hwf
  rintro ⟨S, hR, rfl, hK⟩
  refine ⟨Nat.le_of_ble_eq_true rfl, fun Z hz hw => ?_⟩
  have e : M.1 17 0 0 6 = S 224 := hR.2.2.2.2.2.2.2 4 (by omega)
  apply hz [] 60
  rw [← e] at hK
  exact hK
abbrev pX8_misses : Q_P := fun av M K KX => ∃ S : Nat → Int32, RC 0 M S ∧ av = [.inr (.inl (0, 0, 0))] ∧ K (some (.inl (S 225))) M
theorem cX8_misses_ct {l : Launch} {b : Bool} (hl0 : l.stackTraces = false) : q_Ct l b 131 pX8_misses := by
  refine q_meth (by decide +kernel) hl0 TX8_misses kX8_misses ?_
  intro av M K KX hwf
  rintro ⟨S, hR, rfl, hK⟩
  refine ⟨Nat.le_of_ble_eq_true rfl, fun Z hz hw => ?_⟩
  have e : M.1 17 0 0 7 = S 225 := hR.2.2.2.2.2.2.2 5 (by omega)
  apply hz [] 60
  rw [← e] at hK
  exact hK
abbrev pX8_savedStates : Q_P := fun av M K KX => ∃ h : Nat, M.1 3 0 0 0 = nI h ∧ av = [.inr (.inl (0, 0, 0))] ∧ K (some (.inl (nI h))) M
theorem cX8_savedStates_ct {l : Launch} {b : Bool} (hl0 : l.stackTraces = false) : q_Ct l b 87 pX8_savedStates := by
  refine q_meth (by decide +kernel) hl0 TX8_savedStates kX8_savedStates ?_
  intro av M K KX hwf
  rintro ⟨h, e, rfl, hK⟩
  refine ⟨Nat.le_of_ble_eq_true rfl, fun Z hz hw => ?_⟩
  apply hz [] 60
  rw [← e] at hK
  exact hK
/-- the number of connections by the accounts -/
def s_cs (S : Nat → Int32) : Int32 := nI 0 + S 215 + S 216 + S 217 + S 218 + S 219
def s_ct (S : Nat → Int32) : Int32 := S 214 - S 215 - S 216 - S 217 - S 218 - S 219
theorem s_cs_ct (S : Nat → Int32) : S 214 - s_cs S = s_ct S := by
  unfold s_cs s_ct
  have z : ∀ x : Int32, nI 0 + x = x := fun x => by rw [nI_0, Int32.zero_add]
  rw [z]
  have h : ∀ a b c : Int32, a - (b + c) = a - b - c := fun a b c => by rw [Int32.sub_eq_add_neg, Int32.neg_add, Int32.sub_eq_add_neg, ← Int32.add_assoc, ← Int32.sub_eq_add_neg, ← Int32.sub_eq_add_neg]
  rw [h, h, h, h]
def s_c5 (S : Nat → Int32) : Nat → Int32
  | 0 => nI 0
  | k + 1 => s_c5 S k + S (215 + k)
abbrev pX0_closedInAll : Q_P := fun av M K KX => ∃ (j : Nat) (S : Nat → Int32), RC j M S ∧ av = [.inr (.inl (17, j, 0))] ∧ K (some (.inl (s_cs S))) M
theorem cX0_closedInAll_ct {l : Launch} {b : Bool} (hl0 : l.stackTraces = false) : q_Ct l b 2 pX0_closedInAll := by
  refine q_meth (by decide +kernel) hl0 TX0_closedInAll kX0_closedInAll ?_
  intro av M K KX hwf
  rintro ⟨j, S, hR, rfl, hK⟩
  refine ⟨Nat.le_of_ble_eq_true rfl, fun Z hz hw => ?_⟩
  have hc := hR.2.2.2.2.2.2.1
  have loop : ∀ (d k : Nat), k + d = 5 → Z 0 4 [(2, .inl (nI k)), (1, .inl (s_c5 S k)), (0, .inr (.inl (17, j, 0)))] [] M := by
    intro d
    induction d with
    | zero =>
      intro k hk
      obtain rfl : k = 5 := by omega
      apply hz [4] 60
      exact And.intro (fun _ => hK) (fun g => absurd (show nI 5 ≤ nI 5 from nI_le (by omega) (by omega)) g)
    | succ d ih =>
      intro k hk
      apply hz [4] 60
      refine And.intro (fun (g : nI 5 ≤ nI k) => absurd ((nI_leI (by omega) (by omega)).mp g) (by omega)) (fun _ => ?_)
      refine Exists.intro k ⟨rfl, by omega, ?_⟩
      have h := ih (k + 1) (by omega)
      have e : s_c5 S (k + 1) = s_c5 S k + M.1 18 j 0 k := by
        rw [hc k (by omega)]
        rfl
      rw [e, ← nI_add k 1] at h
      exact h
  apply hz [4] 60
  exact loop 5 0 (by omega)
abbrev pX8_livingByAccount : Q_P := fun av M K KX => ∃ S : Nat → Int32, RC 0 M S ∧ av = [.inr (.inl (0, 0, 0))] ∧ K (some (.inl (s_ct S))) M
theorem cX8_livingByAccount_ct {l : Launch} {b : Bool} (hl0 : l.stackTraces = false) : q_Ct l b 89 pX8_livingByAccount := by
  refine q_meth (by decide +kernel) hl0 TX8_livingByAccount kX8_livingByAccount ?_
  intro av M K KX hwf
  rintro ⟨S, hR, rfl, hK⟩
  refine ⟨Nat.le_of_ble_eq_true rfl, fun Z hz hw => ?_⟩
  have e : M.1 17 0 0 0 = S 214 := hR.2.2.2.2.2.1
  apply hz [] 60
  refine Exists.intro _ ⟨cX0_closedInAll_ct hl0, 0, S, hR, rfl, ?_⟩
  rw [← s_cs_ct, ← e] at hK
  exact hK
abbrev pX8_numberAt : Q_P := fun av M K KX => ∃ (S : Nat → Int32) (a : Int32), RC 0 M S ∧ av = [.inr (.inl (0, 0, 0)), .inl a] ∧ (∀ p, p < s_n S → a = nI p → K (some (.inl (S (1 + 12 * p)))) M) ∧ (¬ s_lp1 S a → KX 1 M)
theorem cX8_numberAt_ct {l : Launch} {b : Bool} (hl0 : l.stackTraces = false) : q_Ct l b 90 pX8_numberAt := by
  refine q_meth (by decide +kernel) hl0 TX8_numberAt kX8_numberAt ?_
  intro av M K KX hwf
  rintro ⟨S, a, hR, rfl, hK, hX⟩
  refine ⟨Nat.le_of_ble_eq_true rfl, fun Z hz hw => ?_⟩
  have wn := hR.1.1.2
  have et : M.1 10 0 0 0 = S 206 := hR.2.1.1
  apply hz [] 60
  refine Exists.intro _ ⟨cX8_checkPlace_ct hl0, S, a, hR, rfl, fun c => ?_, hX⟩
  obtain ⟨p, hp, e⟩ := s_lp1_e hR.1 c
  subst e
  have hK := hK p hp rfl
  have hcn := hR.2.2.1.2 p hp
  refine Exists.intro p ⟨rfl, by omega, ?_⟩
  
  rw [← (show M.1 19 0 (M.2.1 11 0 0 p) 0 = S (1 + 12 * p) from hcn.1.1)] at hK
  exact hK
abbrev pX8_lendingsOf : Q_P := fun av M K KX => ∃ (S : Nat → Int32) (a : Int32), RC 0 M S ∧ av = [.inr (.inl (0, 0, 0)), .inl a] ∧ (∀ p, p < s_n S → a = nI p → K (some (.inl (S (7 + 12 * p)))) M) ∧ (¬ s_lp1 S a → KX 1 M)
theorem cX8_lendingsOf_ct {l : Launch} {b : Bool} (hl0 : l.stackTraces = false) : q_Ct l b 97 pX8_lendingsOf := by
  refine q_meth (by decide +kernel) hl0 TX8_lendingsOf kX8_lendingsOf ?_
  intro av M K KX hwf
  rintro ⟨S, a, hR, rfl, hK, hX⟩
  refine ⟨Nat.le_of_ble_eq_true rfl, fun Z hz hw => ?_⟩
  have wn := hR.1.1.2
  have et : M.1 10 0 0 0 = S 206 := hR.2.1.1
  apply hz [] 60
  refine Exists.intro _ ⟨cX8_checkPlace_ct hl0, S, a, hR, rfl, fun c => ?_, hX⟩
  obtain ⟨p, hp, e⟩ := s_lp1_e hR.1 c
  subst e
  have hK := hK p hp rfl
  have hcn := hR.2.2.1.2 p hp
  refine Exists.intro p ⟨rfl, by omega, ?_⟩
  
  rw [← (show M.1 19 0 (M.2.1 11 0 0 p) 6 = S (7 + 12 * p) from hcn.2.1.2.2.1)] at hK
  exact hK
abbrev pX8_nutsIn : Q_P := fun av M K KX => ∃ (S : Nat → Int32) (a : Int32), RC 0 M S ∧ av = [.inr (.inl (0, 0, 0)), .inl a] ∧ (∀ p, p < s_n S → a = nI p → K (some (.inl (S (8 + 12 * p)))) M) ∧ (¬ s_lp1 S a → KX 1 M)
theorem cX8_nutsIn_ct {l : Launch} {b : Bool} (hl0 : l.stackTraces = false) : q_Ct l b 98 pX8_nutsIn := by
  refine q_meth (by decide +kernel) hl0 TX8_nutsIn kX8_nutsIn ?_
  intro av M K KX hwf
  rintro ⟨S, a, hR, rfl, hK, hX⟩
  refine ⟨Nat.le_of_ble_eq_true rfl, fun Z hz hw => ?_⟩
  have wn := hR.1.1.2
  have et : M.1 10 0 0 0 = S 206 := hR.2.1.1
  apply hz [] 60
  refine Exists.intro _ ⟨cX8_checkPlace_ct hl0, S, a, hR, rfl, fun c => ?_, hX⟩
  obtain ⟨p, hp, e⟩ := s_lp1_e hR.1 c
  subst e
  have hK := hK p hp rfl
  have hcn := hR.2.2.1.2 p hp
  refine Exists.intro p ⟨rfl, by omega, ?_⟩
  
  rw [← (show M.1 19 0 (M.2.1 11 0 0 p) 7 = S (8 + 12 * p) from hcn.2.1.2.2.2)] at hK
  exact hK
abbrev pX8_isBroken : Q_P := fun av M K KX => ∃ (S : Nat → Int32) (a : Int32), RC 0 M S ∧ av = [.inr (.inl (0, 0, 0)), .inl a] ∧ (∀ p, p < s_n S → a = nI p → K (some (.inl (S (4 + 12 * p)))) M) ∧ (¬ s_lp1 S a → KX 1 M)
theorem cX8_isBroken_ct {l : Launch} {b : Bool} (hl0 : l.stackTraces = false) : q_Ct l b 93 pX8_isBroken := by
  refine q_meth (by decide +kernel) hl0 TX8_isBroken kX8_isBroken ?_
  intro av M K KX hwf
  rintro ⟨S, a, hR, rfl, hK, hX⟩
  refine ⟨Nat.le_of_ble_eq_true rfl, fun Z hz hw => ?_⟩
  have wn := hR.1.1.2
  have et : M.1 10 0 0 0 = S 206 := hR.2.1.1
  apply hz [] 60
  refine Exists.intro _ ⟨cX8_checkPlace_ct hl0, S, a, hR, rfl, fun c => ?_, hX⟩
  obtain ⟨p, hp, e⟩ := s_lp1_e hR.1 c
  subst e
  have hK := hK p hp rfl
  have hcn := hR.2.2.1.2 p hp
  refine Exists.intro p ⟨rfl, by omega, ?_⟩
  
  have e := (show M.1 19 0 (M.2.1 11 0 0 p) 2 = S (4 + 12 * p) from hcn.1.2.2.1)
  rw [← e] at hK
  exact And.intro (show q_bit (M.1 19 0 (M.2.1 11 0 0 p) 2) by rw [e]; exact (hR.1.2.2.2.2.2.1 p hp).2.1) hK
abbrev pX8_ageAt : Q_P := fun av M K KX => ∃ (S : Nat → Int32) (a : Int32), RC 0 M S ∧ av = [.inr (.inl (0, 0, 0)), .inl a] ∧ (∀ p, p < s_n S → a = nI p → K (some (.inl (S 206 - S (2 + 12 * p)))) M) ∧ (¬ s_lp1 S a → KX 1 M)
theorem cX8_ageAt_ct {l : Launch} {b : Bool} (hl0 : l.stackTraces = false) : q_Ct l b 91 pX8_ageAt := by
  refine q_meth (by decide +kernel) hl0 TX8_ageAt kX8_ageAt ?_
  intro av M K KX hwf
  rintro ⟨S, a, hR, rfl, hK, hX⟩
  refine ⟨Nat.le_of_ble_eq_true rfl, fun Z hz hw => ?_⟩
  have wn := hR.1.1.2
  have et : M.1 10 0 0 0 = S 206 := hR.2.1.1
  apply hz [] 60
  refine Exists.intro _ ⟨cX8_checkPlace_ct hl0, S, a, hR, rfl, fun c => ?_, hX⟩
  obtain ⟨p, hp, e⟩ := s_lp1_e hR.1 c
  subst e
  have hK := hK p hp rfl
  have hcn := hR.2.2.1.2 p hp
  refine Exists.intro p ⟨rfl, by omega, ?_⟩
  
  rw [← (show M.1 19 0 (M.2.1 11 0 0 p) 1 = S (2 + 12 * p) from hcn.1.2.1), ← et] at hK
  exact hK
abbrev pX8_sinceAt : Q_P := fun av M K KX => ∃ (S : Nat → Int32) (a : Int32), RC 0 M S ∧ av = [.inr (.inl (0, 0, 0)), .inl a] ∧ (∀ p, p < s_n S → a = nI p → K (some (.inl (S 206 - S (5 + 12 * p)))) M) ∧ (¬ s_lp1 S a → KX 1 M)
theorem cX8_sinceAt_ct {l : Launch} {b : Bool} (hl0 : l.stackTraces = false) : q_Ct l b 95 pX8_sinceAt := by
  refine q_meth (by decide +kernel) hl0 TX8_sinceAt kX8_sinceAt ?_
  intro av M K KX hwf
  rintro ⟨S, a, hR, rfl, hK, hX⟩
  refine ⟨Nat.le_of_ble_eq_true rfl, fun Z hz hw => ?_⟩
  have wn := hR.1.1.2
  have et : M.1 10 0 0 0 = S 206 := hR.2.1.1
  apply hz [] 60
  refine Exists.intro _ ⟨cX8_checkPlace_ct hl0, S, a, hR, rfl, fun c => ?_, hX⟩
  obtain ⟨p, hp, e⟩ := s_lp1_e hR.1 c
  subst e
  have hK := hK p hp rfl
  have hcn := hR.2.2.1.2 p hp
  refine Exists.intro p ⟨rfl, by omega, ?_⟩
  
  rw [← (show M.1 19 0 (M.2.1 11 0 0 p) 4 = S (5 + 12 * p) from hcn.2.1.1), ← et] at hK
  exact hK
abbrev pX8_isIdle : Q_P := fun av M K KX => ∃ (S : Nat → Int32) (a : Int32), RC 0 M S ∧ av = [.inr (.inl (0, 0, 0)), .inl a] ∧ (∀ p, p < s_n S → a = nI p → K (some (.inl (q_bi (S (3 + 12 * p) < 0)))) M) ∧ (¬ s_lp1 S a → KX 1 M)
theorem cX8_isIdle_ct {l : Launch} {b : Bool} (hl0 : l.stackTraces = false) : q_Ct l b 92 pX8_isIdle := by
  refine q_meth (by decide +kernel) hl0 TX8_isIdle kX8_isIdle ?_
  intro av M K KX hwf
  rintro ⟨S, a, hR, rfl, hK, hX⟩
  refine ⟨Nat.le_of_ble_eq_true rfl, fun Z hz hw => ?_⟩
  have wn := hR.1.1.2
  have et : M.1 10 0 0 0 = S 206 := hR.2.1.1
  apply hz [] 60
  refine Exists.intro _ ⟨cX8_checkPlace_ct hl0, S, a, hR, rfl, fun c => ?_, hX⟩
  obtain ⟨p, hp, e⟩ := s_lp1_e hR.1 c
  subst e
  have hK := hK p hp rfl
  have hcn := hR.2.2.1.2 p hp
  refine Exists.intro p ⟨rfl, by omega, ?_⟩
  
  have e := (show M.1 19 0 (M.2.1 11 0 0 p) 3 = S (3 + 12 * p) from hcn.1.2.2.2)
  refine Exists.intro _ ⟨cX1_rests_ct hl0, 0, M.2.1 11 0 0 p, rfl, ?_⟩
  rw [q_bi_c (s_neg (hR.1.2.2.2.2.2.1 p hp)), ← e] at hK
  exact And.intro (q_bi_bit _) hK
abbrev pX8_squirrelAt : Q_P := fun av M K KX => ∃ (S : Nat → Int32) (a : Int32), RC 0 M S ∧ av = [.inr (.inl (0, 0, 0)), .inl a] ∧ (∀ p, p < s_n S → a = nI p → ¬ S (3 + 12 * p) < 0 → K (some (.inl (S (3 + 12 * p)))) M) ∧ (¬ s_lp1 S a → KX 1 M) ∧ (∀ p, p < s_n S → a = nI p → S (3 + 12 * p) < 0 → KX 3 M)
theorem cX8_squirrelAt_ct {l : Launch} {b : Bool} (hl0 : l.stackTraces = false) : q_Ct l b 94 pX8_squirrelAt := by
  refine q_meth (by decide +kernel) hl0 TX8_squirrelAt kX8_squirrelAt ?_
  intro av M K KX hwf
  rintro ⟨S, a, hR, rfl, hK, hX, hX2⟩
  refine ⟨Nat.le_of_ble_eq_true rfl, fun Z hz hw => ?_⟩
  have wn := hR.1.1.2
  apply hz [] 60
  refine Exists.intro _ ⟨cX8_checkPlace_ct hl0, S, a, hR, rfl, fun c => ?_, hX⟩
  obtain ⟨p, hp, e⟩ := s_lp1_e hR.1 c
  subst e
  have hK := hK p hp rfl
  have hX2 := hX2 p hp rfl
  have hcn := hR.2.2.1.2 p hp
  have e := (show M.1 19 0 (M.2.1 11 0 0 p) 3 = S (3 + 12 * p) from hcn.1.2.2.2)
  have hl := s_neg (hR.1.2.2.2.2.2.1 p hp)
  refine Exists.intro p ⟨rfl, by omega, ?_⟩
  refine Exists.intro _ ⟨cX1_rests_ct hl0, 0, M.2.1 11 0 0 p, rfl, ?_⟩
  rw [e]
  refine And.intro (fun g => ?_) (fun g => ?_)
  · have g := q_bi_0.mp g
    refine Exists.intro p ⟨rfl, by omega, ?_⟩
    have hK := hK (fun h => g (hl.mp h))
    rw [← e] at hK
    exact hK
  · have g : S (3 + 12 * p) = -1 := Classical.not_not.mp (fun h => g (q_bi_0.mpr h))
    exact hX2 (hl.mpr g)
abbrev pX8_turnOf : Q_P := fun av M K KX => ∃ (S : Nat → Int32) (a : Int32), RC 0 M S ∧ av = [.inr (.inl (0, 0, 0)), .inl a] ∧ (∀ p, p < s_n S → a = nI p → S (3 + 12 * p) < 0 → K (some (.inl (nI (s_tn S p (s_n S))))) M) ∧ (¬ s_lp1 S a → KX 1 M) ∧ (∀ p, p < s_n S → a = nI p → ¬ S (3 + 12 * p) < 0 → KX 3 M)
theorem cX8_turnOf_ct {l : Launch} {b : Bool} (hl0 : l.stackTraces = false) : q_Ct l b 96 pX8_turnOf := by
  refine q_meth (by decide +kernel) hl0 TX8_turnOf kX8_turnOf ?_
  intro av M K KX hwf
  rintro ⟨S, a, hR, rfl, hK, hX, hX2⟩
  refine ⟨Nat.le_of_ble_eq_true rfl, fun Z hz hw => ?_⟩
  have wn := hR.1.1.2
  apply hz [] 60
  refine Exists.intro _ ⟨cX8_checkPlace_ct hl0, S, a, hR, rfl, fun c => ?_, hX⟩
  obtain ⟨p, hp, e⟩ := s_lp1_e hR.1 c
  subst e
  have hK := hK p hp rfl
  have hX2 := hX2 p hp rfl
  have hcn := hR.2.2.1.2 p hp
  have e := (show M.1 19 0 (M.2.1 11 0 0 p) 3 = S (3 + 12 * p) from hcn.1.2.2.2)
  have hl := s_neg (hR.1.2.2.2.2.2.1 p hp)
  refine Exists.intro p ⟨rfl, by omega, ?_⟩
  refine Exists.intro _ ⟨cX1_rests_ct hl0, 0, M.2.1 11 0 0 p, rfl, ?_⟩
  rw [e]
  refine And.intro (fun g => ?_) (fun g => ?_)
  · have g := q_bi_0.mp g
    exact hX2 (fun h => g (hl.mp h))
  · have g : S (3 + 12 * p) = -1 := Classical.not_not.mp (fun h => g (q_bi_0.mpr h))
    exact Exists.intro _ ⟨cX7_turnInIdle_ct hl0, 0, S, p, hR, hp, rfl, hK (hl.mpr g)⟩
abbrev pX8_nutAt : Q_P := fun av M K KX => ∃ (S : Nat → Int32) (a y : Int32), RC 0 M S ∧ av = [.inr (.inl (0, 0, 0)), .inl a, .inl y] ∧ (∀ p k, p < s_n S → a = nI p → k < s_c S p → y = nI k → K (some (.inl (S (9 + 12 * p + k)))) M) ∧ (¬ s_lp1 S a → KX 1 M) ∧ (∀ p, p < s_n S → a = nI p → ¬ (nI 0 ≤ y ∧ y ≤ S (8 + 12 * p) - nI 1) → KX 1 M)
theorem cX8_nutAt_ct {l : Launch} {b : Bool} (hl0 : l.stackTraces = false) : q_Ct l b 99 pX8_nutAt := by
  refine q_meth (by decide +kernel) hl0 TX8_nutAt kX8_nutAt ?_
  intro av M K KX hwf
  rintro ⟨S, a, y, hR, rfl, hK, hX, hX2⟩
  refine ⟨Nat.le_of_ble_eq_true rfl, fun Z hz hw => ?_⟩
  have wn := hR.1.1.2
  apply hz [] 60
  refine Exists.intro _ ⟨cX8_checkPlace_ct hl0, S, a, hR, rfl, fun c => ?_, hX⟩
  obtain ⟨p, hp, e⟩ := s_lp1_e hR.1 c
  subst e
  have hK := fun k => hK p k hp rfl
  have hX2 := hX2 p hp rfl
  have hcn := hR.2.2.1.2 p hp
  obtain ⟨m, hm, h8⟩ := (hR.1.2.2.2.2.2.1 p hp).2.2
  have e := (show M.1 19 0 (M.2.1 11 0 0 p) 7 = nI m from hcn.2.1.2.2.2.trans h8)
  have ec : s_c S p = m := s_of h8 (by omega)
  have e1 : (S (8 + 12 * p) - nI 1).toInt = (m : Int) - 1 := by
    rw [h8]
    exact pk_sub_toInt (by omega) (by omega)
  refine And.intro (fun (g : y < nI 0) => hX2 (fun h => absurd g (Int32.not_lt.mpr h.1))) (fun (g : ¬ y < nI 0) => ?_)
  refine Exists.intro p ⟨rfl, by omega, ?_⟩
  have g0 := Int32.le_iff_toInt_le.mp (Int32.not_lt.mp g)
  rw [nI_toInt (by omega)] at g0
  refine And.intro (fun (g2 : y < M.1 19 0 (M.2.1 11 0 0 p) 7) => ?_) (fun (g2 : ¬ y < M.1 19 0 (M.2.1 11 0 0 p) 7) => hX2 (fun h => g2 ?_))
  · rw [e, Int32.lt_iff_toInt_lt, nI_toInt (by omega)] at g2
    have ey : y = nI y.toInt.toNat := by
      apply Int32.toInt_inj.mp
      rw [nI_toInt (by omega)]
      omega
    refine Exists.intro p ⟨rfl, by omega, ?_⟩
    refine Exists.intro y.toInt.toNat ⟨ey, by omega, ?_⟩
    have hK := hK y.toInt.toNat (by omega) ey
    rw [← hcn.2.2 _ (by omega) (by omega)] at hK
    exact hK
  · have h2 := Int32.le_iff_toInt_le.mp h.2
    rw [e1] at h2
    rw [e, Int32.lt_iff_toInt_lt, nI_toInt (by omega)]
    omega
abbrev pX8_idle : Q_P := fun av M K KX => ∃ S : Nat → Int32, RC 0 M S ∧ av = [.inr (.inl (0, 0, 0))] ∧ K (some (.inl (nI (s_cf S (s_n S))))) M
theorem cX8_idle_ct {l : Launch} {b : Bool} (hl0 : l.stackTraces = false) : q_Ct l b 100 pX8_idle := by
  refine q_meth (by decide +kernel) hl0 TX8_idle kX8_idle ?_
  intro av M K KX hwf
  rintro ⟨S, hR, rfl, hK⟩
  refine ⟨Nat.le_of_ble_eq_true rfl, fun Z hz hw => ?_⟩
  apply hz [] 60
  exact Exists.intro _ ⟨cX7_countIdle_ct hl0, 0, S, hR, rfl, hK⟩
abbrev pX8_leasedByConnections : Q_P := fun av M K KX => ∃ S : Nat → Int32, RC 0 M S ∧ av = [.inr (.inl (0, 0, 0))] ∧ K (some (.inl (S 0 - nI (s_cf S (s_n S))))) M
theorem cX8_leasedByConnections_ct {l : Launch} {b : Bool} (hl0 : l.stackTraces = false) : q_Ct l b 101 pX8_leasedByConnections := by
  refine q_meth (by decide +kernel) hl0 TX8_leasedByConnections kX8_leasedByConnections ?_
  intro av M K KX hwf
  rintro ⟨S, hR, rfl, hK⟩
  refine ⟨Nat.le_of_ble_eq_true rfl, fun Z hz hw => ?_⟩
  have e : M.1 10 0 0 1 = S 0 := hR.2.1.2.1
  apply hz [] 60
  refine Exists.intro _ ⟨cX7_countIdle_ct hl0, 0, S, hR, rfl, ?_⟩
  rw [← e] at hK
  exact hK
def s_hv (S : Nat → Int32) : Nat → Nat
  | 0 => 0
  | k + 1 => s_hv S k + (if s_lk S (nI k) (s_n S) = none then 0 else 1)
abbrev pX8_leasedBySquirrels : Q_P := fun av M K KX => ∃ S : Nat → Int32, RC 0 M S ∧ av = [.inr (.inl (0, 0, 0))] ∧ K (some (.inl (nI (s_hv S 20)))) M
theorem cX8_leasedBySquirrels_ct {l : Launch} {b : Bool} (hl0 : l.stackTraces = false) : q_Ct l b 102 pX8_leasedBySquirrels := by
  refine q_meth (by decide +kernel) hl0 TX8_leasedBySquirrels kX8_leasedBySquirrels ?_
  intro av M K KX hwf
  rintro ⟨S, hR, rfl, hK⟩
  refine ⟨Nat.le_of_ble_eq_true rfl, fun Z hz hw => ?_⟩
  have wn := hR.1.1.2
  have loop : ∀ (d k : Nat), k + d = 20 → Z 0 4 [(2, .inl (nI k)), (1, .inl (nI (s_hv S k))), (0, .inr (.inl (0, 0, 0)))] [] M := by
    intro d
    induction d with
    | zero =>
      intro k hk
      obtain rfl : k = 20 := by omega
      apply hz [4] 60
      exact And.intro (fun _ => hK) (fun g => absurd (show nI 20 ≤ nI 20 from nI_le (by omega) (by omega)) g)
    | succ d ih =>
      intro k hk
      have h := ih (k + 1) (by omega)
      unfold s_hv at h
      apply hz [4] 60
      refine And.intro (fun (g : nI 20 ≤ nI k) => absurd ((nI_leI (by omega) (by omega)).mp g) (by omega)) (fun _ => ?_)
      refine Exists.intro _ ⟨cX7_placeWith_ct hl0, 0, S, nI k, hR, fun g => q_m1n (by omega) g.symm, rfl, ?_⟩
      cases hl : s_lk S (nI k) (s_n S) with
      | none =>
        rw [if_pos hl, Nat.add_zero, ← nI_add k 1] at h
        exact And.intro (fun _ => h) (fun g => absurd rfl g)
      | some p =>
        rw [if_neg (by rw [hl]; exact fun g => (by cases g)), ← nI_add k 1, ← nI_add (s_hv S k) 1] at h
        exact And.intro (fun g => absurd (Eq.symm g) (q_m1n (by have := (s_lk_lt hl).1; omega))) (fun _ => h)
  apply hz [4] 60
  exact loop 20 0 (by omega)
abbrev pX8_nextLent : Q_P := fun av M K KX => ∃ S : Nat → Int32, RC 0 M S ∧ av = [.inr (.inl (0, 0, 0))] ∧ (∀ p, s_nx S = some p → K (some (.inl (nI p))) M) ∧ (s_nx S = none → KX 3 M)
theorem cX8_nextLent_ct {l : Launch} {b : Bool} (hl0 : l.stackTraces = false) : q_Ct l b 103 pX8_nextLent := by
  refine q_meth (by decide +kernel) hl0 TX8_nextLent kX8_nextLent ?_
  intro av M K KX hwf
  rintro ⟨S, hR, rfl, hK, hX⟩
  refine ⟨Nat.le_of_ble_eq_true rfl, fun Z hz hw => ?_⟩
  apply hz [] 60
  exact Exists.intro _ ⟨cX8_nextWanted_ct hl0, S, hR, rfl, hK, hX⟩
abbrev pX8_has : Q_P := fun av M K KX => ∃ (S : Nat → Int32) (a : Int32), RC 0 M S ∧ av = [.inr (.inl (0, 0, 0)), .inl a] ∧ (s_rg 0 19 a → K (some (.inl (q_bi (¬ s_lk S a (s_n S) = none)))) M) ∧ (¬ s_rg 0 19 a → KX 1 M)
theorem cX8_has_ct {l : Launch} {b : Bool} (hl0 : l.stackTraces = false) : q_Ct l b 104 pX8_has := by
  refine q_meth (by decide +kernel) hl0 TX8_has kX8_has ?_
  intro av M K KX hwf
  rintro ⟨S, a, hR, rfl, hK, hX⟩
  refine ⟨Nat.le_of_ble_eq_true rfl, fun Z hz hw => ?_⟩
  apply hz [] 60
  refine Exists.intro _ ⟨cX8_checkSquirrel_ct hl0, a, rfl, fun c => ?_, hX⟩
  have hK := hK c
  obtain ⟨x, -, hx, e⟩ := s_rg_n (by omega) (by omega) c
  subst e
  have wn := hR.1.1.2
  refine Exists.intro _ ⟨cX7_placeWith_ct hl0, 0, S, nI x, hR, fun g => q_m1n (by omega) g.symm, rfl, ?_⟩
  cases hl : s_lk S (nI x) (s_n S) with
  | none =>
    rw [q_bi_f (fun g => g hl)] at hK
    exact And.intro (fun _ => And.intro (Or.inl rfl) hK) (fun g => absurd rfl g)
  | some p =>
    have hn : ¬ s_lk S (nI x) (s_n S) = none := fun g => by rw [hl] at g; cases g
    rw [q_bi_t hn] at hK
    exact And.intro (fun g => absurd (Eq.symm g) (q_m1n (by have := (s_lk_lt hl).1; omega))) (fun _ => And.intro (Or.inr rfl) hK)
abbrev pX8_isWaiting : Q_P := fun av M K KX => ∃ (S : Nat → Int32) (a : Int32), RC 0 M S ∧ av = [.inr (.inl (0, 0, 0)), .inl a] ∧ (s_rg 0 19 a → K (some (.inl (q_bi (¬ s_qd S a (s_q S) = none)))) M) ∧ (¬ s_rg 0 19 a → KX 1 M)
theorem cX8_isWaiting_ct {l : Launch} {b : Bool} (hl0 : l.stackTraces = false) : q_Ct l b 107 pX8_isWaiting := by
  refine q_meth (by decide +kernel) hl0 TX8_isWaiting kX8_isWaiting ?_
  intro av M K KX hwf
  rintro ⟨S, a, hR, rfl, hK, hX⟩
  refine ⟨Nat.le_of_ble_eq_true rfl, fun Z hz hw => ?_⟩
  apply hz [] 60
  refine Exists.intro _ ⟨cX8_checkSquirrel_ct hl0, a, rfl, fun c => ?_, hX⟩
  have hK := hK c
  have wq := hR.1.2.1.2
  refine Exists.intro _ ⟨cX5_placeIn_ct hl0, 0, S, a, hR, rfl, ?_⟩
  cases hl : s_qd S a (s_q S) with
  | none =>
    rw [q_bi_f (fun g => g hl)] at hK
    exact And.intro (fun _ => And.intro (Or.inl rfl) hK) (fun g => absurd rfl g)
  | some p =>
    have hn : ¬ s_qd S a (s_q S) = none := fun g => by rw [hl] at g; cases g
    rw [q_bi_t hn] at hK
    exact And.intro (fun g => absurd (Eq.symm g) (q_m1n (by have := (s_qd_lt hl).1; omega))) (fun _ => And.intro (Or.inr rfl) hK)
abbrev pX8_placeOf : Q_P := fun av M K KX => ∃ (S : Nat → Int32) (a : Int32), RC 0 M S ∧ av = [.inr (.inl (0, 0, 0)), .inl a] ∧ (∀ x p : Nat, x < 20 → a = nI x → s_lk S (nI x) (s_n S) = some p → K (some (.inl (nI p))) M) ∧ (¬ s_rg 0 19 a → KX 1 M) ∧ (s_rg 0 19 a → s_lk S a (s_n S) = none → KX 3 M)
theorem cX8_placeOf_ct {l : Launch} {b : Bool} (hl0 : l.stackTraces = false) : q_Ct l b 105 pX8_placeOf := by
  refine q_meth (by decide +kernel) hl0 TX8_placeOf kX8_placeOf ?_
  intro av M K KX hwf
  rintro ⟨S, a, hR, rfl, hK, hX, hX2⟩
  refine ⟨Nat.le_of_ble_eq_true rfl, fun Z hz hw => ?_⟩
  apply hz [] 60
  exact Exists.intro _ ⟨cX8_placeWanted_ct hl0, S, a, hR, rfl, fun x p hx e hl => hK x p hx e hl, hX, hX2⟩
abbrev pX8_leaseLeft : Q_P := fun av M K KX => ∃ (S : Nat → Int32) (a : Int32), RC 0 M S ∧ av = [.inr (.inl (0, 0, 0)), .inl a] ∧ (∀ x p : Nat, x < 20 → a = nI x → s_lk S (nI x) (s_n S) = some p → K (some (.inl (s_ll S p))) M) ∧ (¬ s_rg 0 19 a → KX 1 M) ∧ (s_rg 0 19 a → s_lk S a (s_n S) = none → KX 3 M)
theorem cX8_leaseLeft_ct {l : Launch} {b : Bool} (hl0 : l.stackTraces = false) : q_Ct l b 106 pX8_leaseLeft := by
  refine q_meth (by decide +kernel) hl0 TX8_leaseLeft kX8_leaseLeft ?_
  intro av M K KX hwf
  rintro ⟨S, a, hR, rfl, hK, hX, hX2⟩
  refine ⟨Nat.le_of_ble_eq_true rfl, fun Z hz hw => ?_⟩
  apply hz [] 60
  exact Exists.intro _ ⟨cX8_placeWanted_ct hl0, S, a, hR, rfl, fun x p hx e hl => Exists.intro _ ⟨cX7_leaseRest_ct hl0, 0, S, p, hR, (s_lk_lt hl).1, rfl, hK x p hx e hl⟩, hX, hX2⟩
abbrev pX8_queueOf : Q_P := fun av M K KX => ∃ (S : Nat → Int32) (a : Int32), RC 0 M S ∧ av = [.inr (.inl (0, 0, 0)), .inl a] ∧ (∀ x p : Nat, x < 20 → a = nI x → s_qd S (nI x) (s_q S) = some p → K (some (.inl (nI p))) M) ∧ (¬ s_rg 0 19 a → KX 1 M) ∧ (s_rg 0 19 a → s_qd S a (s_q S) = none → KX 3 M)
theorem cX8_queueOf_ct {l : Launch} {b : Bool} (hl0 : l.stackTraces = false) : q_Ct l b 109 pX8_queueOf := by
  refine q_meth (by decide +kernel) hl0 TX8_queueOf kX8_queueOf ?_
  intro av M K KX hwf
  rintro ⟨S, a, hR, rfl, hK, hX, hX2⟩
  refine ⟨Nat.le_of_ble_eq_true rfl, fun Z hz hw => ?_⟩
  apply hz [] 60
  exact Exists.intro _ ⟨cX8_queuePlaceWanted_ct hl0, S, a, hR, rfl, fun x p hx e hl => hK x p hx e hl, hX, hX2⟩
abbrev pX8_waitOf : Q_P := fun av M K KX => ∃ (S : Nat → Int32) (a : Int32), RC 0 M S ∧ av = [.inr (.inl (0, 0, 0)), .inl a] ∧ (∀ x p : Nat, x < 20 → a = nI x → s_qd S (nI x) (s_q S) = some p → K (some (.inl (S 206 - S (148 + 3 * p)))) M) ∧ (¬ s_rg 0 19 a → KX 1 M) ∧ (s_rg 0 19 a → s_qd S a (s_q S) = none → KX 3 M)
theorem cX8_waitOf_ct {l : Launch} {b : Bool} (hl0 : l.stackTraces = false) : q_Ct l b 108 pX8_waitOf := by
  refine q_meth (by decide +kernel) hl0 TX8_waitOf kX8_waitOf ?_
  intro av M K KX hwf
  rintro ⟨S, a, hR, rfl, hK, hX, hX2⟩
  refine ⟨Nat.le_of_ble_eq_true rfl, fun Z hz hw => ?_⟩
  apply hz [] 60
  exact Exists.intro _ ⟨cX8_queuePlaceWanted_ct hl0, S, a, hR, rfl, fun x p hx e hl => Exists.intro _ ⟨cX7_waitAt_ct hl0, 0, S, p, hR.2, hR.1.2.1.2, (s_qd_lt hl).1, rfl, hK x p hx e hl⟩, hX, hX2⟩
abbrev pX8_waiterAt : Q_P := fun av M K KX => ∃ (S : Nat → Int32) (a : Int32), RC 0 M S ∧ av = [.inr (.inl (0, 0, 0)), .inl a] ∧ (∀ k, k < s_q S → a = nI k → K (some (.inl (S (146 + 3 * k)))) M) ∧ (¬ (nI 0 ≤ a ∧ a ≤ S 145 - nI 1) → KX 1 M)
theorem cX8_waiterAt_ct {l : Launch} {b : Bool} (hl0 : l.stackTraces = false) : q_Ct l b 111 pX8_waiterAt := by
  refine q_meth (by decide +kernel) hl0 TX8_waiterAt kX8_waiterAt ?_
  intro av M K KX hwf
  rintro ⟨S, y, hR, rfl, hK, hX⟩
  refine ⟨Nat.le_of_ble_eq_true rfl, fun Z hz hw => ?_⟩
  have wq := hR.1.2.1
  have e : M.1 12 0 0 0 = nI (s_q S) := hR.2.2.2.1.1.trans wq.1
  have e1 : (S 145 - nI 1).toInt = (s_q S : Int) - 1 := by
    rw [← e.symm.trans (hR.2.2.2.1.1)]
    exact pk_sub_toInt (by omega) (by omega)
  apply hz [] 60
  refine And.intro (fun (g : y < nI 0) => hX (fun h => absurd g (Int32.not_lt.mpr h.1))) (fun (g : ¬ y < nI 0) => ?_)
  have g0 := Int32.le_iff_toInt_le.mp (Int32.not_lt.mp g)
  rw [nI_toInt (by omega)] at g0
  refine And.intro (fun (g2 : y < M.1 12 0 0 0) => ?_) (fun (g2 : ¬ y < M.1 12 0 0 0) => hX (fun h => g2 ?_))
  · rw [e, Int32.lt_iff_toInt_lt, nI_toInt (by omega)] at g2
    have ey : y = nI y.toInt.toNat := by
      apply Int32.toInt_inj.mp
      rw [nI_toInt (by omega)]
      omega
    refine Exists.intro y.toInt.toNat ⟨ey, by omega, ?_⟩
    have hK := hK y.toInt.toNat (by omega) ey
    rw [← (hR.2.2.2.1.2 _ (show y.toInt.toNat < s_q S by omega)).1] at hK
    exact hK
  · have h2 := Int32.le_iff_toInt_le.mp h.2
    rw [e1] at h2
    rw [e, Int32.lt_iff_toInt_lt, nI_toInt (by omega)]
    omega
abbrev pX8_closedFor : Q_P := fun av M K KX => ∃ (S : Nat → Int32) (a : Int32), RC 0 M S ∧ av = [.inr (.inl (0, 0, 0)), .inl a] ∧ (∀ k, k < 5 → a = nI k → K (some (.inl (S (215 + k)))) M) ∧ (¬ s_rg 0 4 a → KX 2 M)
theorem cX8_closedFor_ct {l : Launch} {b : Bool} (hl0 : l.stackTraces = false) : q_Ct l b 125 pX8_closedFor := by
  refine q_meth (by decide +kernel) hl0 TX8_closedFor kX8_closedFor ?_
  intro av M K KX hwf
  rintro ⟨S, a, hR, rfl, hK, hX⟩
  refine ⟨Nat.le_of_ble_eq_true rfl, fun Z hz hw => ?_⟩
  apply hz [] 60
  refine Exists.intro _ ⟨cX8_checkRange_ct hl0, a, nI 0, nI 4, rfl, fun c => ?_, hX⟩
  obtain ⟨x, -, hx, e⟩ := s_rg_n (lo := 0) (hi := 4) (by omega) (by omega) c
  subst e
  refine Exists.intro x ⟨rfl, by omega, ?_⟩
  have hK := hK x (by omega) rfl
  rw [← hR.2.2.2.2.2.2.1 x (by omega)] at hK
  exact hK
/-- whether nut y is in the connection at p -/
def s_hs (S : Nat → Int32) (p : Nat) (y : Int32) : Bool := s_nu S p y (s_c S p)
theorem s_hs_r {M : Q_M} {j p c : Nat} {S : Nat → Int32} {y : Int32} (hR : RC j M S) (hp : p < s_n S) (hc : c ≤ 4) (h8 : S (8 + 12 * p) = nI c) : (r_fi (M.1 20 j (M.2.1 11 j 0 p)) y c 0 < c) ↔ s_hs S p y = true := by
  have hcn := hR.2.2.1.2 p hp
  have ec : s_c S p = c := s_of h8 (by omega)
  unfold s_hs
  rw [ec, s_nu_fi (g := M.1 20 j (M.2.1 11 j 0 p)) (fun m hm => hcn.2.2 m (by omega) (by omega))]
  simp
def s_iw (S : Nat → Int32) (y : Int32) : Nat → Nat
  | 0 => 0
  | k + 1 => s_iw S y k + (if S (3 + 12 * k) < 0 ∧ s_hs S k y = true then 1 else 0)
abbrev pX8_idleWith : Q_P := fun av M K KX => ∃ (S : Nat → Int32) (a : Int32), RC 0 M S ∧ av = [.inr (.inl (0, 0, 0)), .inl a] ∧ (s_rg 0 29 a → K (some (.inl (nI (s_iw S a (s_n S))))) M) ∧ (¬ s_rg 0 29 a → KX 2 M)
theorem cX8_idleWith_ct {l : Launch} {b : Bool} (hl0 : l.stackTraces = false) : q_Ct l b 122 pX8_idleWith := by
  refine q_meth (by decide +kernel) hl0 TX8_idleWith kX8_idleWith ?_
  intro av M K KX hwf
  rintro ⟨S, a, hR, rfl, hK, hX⟩
  refine ⟨Nat.le_of_ble_eq_true rfl, fun Z hz hw => ?_⟩
  have wn := hR.1.1.2
  have h1 : M.1 10 0 0 1 = nI (s_n S) := hR.2.1.2.1.trans hR.1.1.1
  apply hz [11] 60
  refine Exists.intro _ ⟨cX8_checkRange_ct hl0, a, nI 0, nI 29, rfl, fun c => ?_, hX⟩
  have hK := hK c
  have loop : ∀ (d k : Nat), k + d = s_n S → Z 1 11 [(3, .inl (nI k)), (2, .inl (nI (s_iw S a k))), (0, .inr (.inl (0, 0, 0))), (1, .inl a)] [] M := by
    intro d
    induction d with
    | zero =>
      intro k hk
      apply hz [11] 60
      obtain rfl : k = s_n S := by omega
      refine And.intro (fun _ => hK) (fun g => absurd (show M.1 10 0 0 1 ≤ nI (s_n S) by rw [h1]; exact nI_le (by omega) (by omega)) g)
    | succ d ih =>
      intro k hk
      have h := ih (k + 1) (by omega)
      unfold s_iw at h
      have hcn := hR.2.2.1.2 k (by omega)
      obtain ⟨m, hm, h8⟩ := (hR.1.2.2.2.2.2.1 k (by omega)).2.2
      have e7 := (show M.1 19 0 (M.2.1 11 0 0 k) 7 = nI m from hcn.2.1.2.2.2.trans h8)
      have e3 := (show M.1 19 0 (M.2.1 11 0 0 k) 3 = S (3 + 12 * k) from hcn.1.2.2.2)
      have hl := s_neg (hR.1.2.2.2.2.2.1 k (by omega))
      have no : ¬ (S (3 + 12 * k) < 0 ∧ s_hs S k a = true) → Z 1 56 [(3, .inl (nI k)), (2, .inl (nI (s_iw S a k))), (0, .inr (.inl (0, 0, 0))), (1, .inl a)] [] M := by
        intro g
        rw [if_neg g, Nat.add_zero, ← nI_add k 1] at h
        apply hz [11] 60
        exact h
      apply hz [11, 56] 60
      refine And.intro (fun (g : M.1 10 0 0 1 ≤ nI k) => ?_) (fun _ => ?_)
      · rw [h1, nI_leI (by omega) (by omega)] at g
        omega
      · refine Exists.intro k ⟨rfl, by omega, ?_⟩
        refine Exists.intro _ ⟨cX1_rests_ct hl0, 0, M.2.1 11 0 0 k, rfl, ?_⟩
        rw [e3]
        refine And.intro (fun g => no (fun g2 => q_bi_0.mp g (hl.mp g2.1))) (fun g => ?_)
        have g : S (3 + 12 * k) = -1 := Classical.not_not.mp (fun g2 => g (q_bi_0.mpr g2))
        refine Exists.intro k ⟨rfl, by omega, ?_⟩
        refine Exists.intro _ ⟨cX1_holds_ct hl0, 0, M.2.1 11 0 0 k, m, a, hm, e7, rfl, ?_⟩
        by_cases hh : r_fi (M.1 20 0 (M.2.1 11 0 0 k)) a m 0 < m
        · rw [q_bi_t hh]
          rw [if_pos ⟨hl.mpr g, (s_hs_r hR (by omega) hm h8).mp hh⟩, ← nI_add k 1, ← nI_add (s_iw S a k) 1] at h
          refine And.intro (fun g => absurd g q_n1) (fun _ => ?_)
          apply hz [11] 60
          exact h
        · rw [q_bi_f hh]
          exact And.intro (fun _ => no (fun g2 => hh ((s_hs_r hR (by omega) hm h8).mpr g2.2))) (fun g => absurd nI_0 g)
  exact loop (s_n S) 0 (by omega)
