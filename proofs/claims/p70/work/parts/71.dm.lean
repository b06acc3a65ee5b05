-- THE LAW'S START: THE IDS ARE ALL THERE
theorem k_mem {i : Q_Id} {k : Nat} (h : k_dm[k]? = some i) : i ∈ k_dm := List.mem_of_getElem? h
def k_all (b : Bool) : Bool := (List.range 28).all fun r => (List.range (q_lim b r).1).all fun j => (List.range (q_lim b r).2).all fun c => k_dm.any (k_ieq (r, j, c))
theorem k_allok : k_all false = true := by decide +kernel
theorem k_ieq_ok {a b : Q_Id} (h : k_ieq a b = true) : a = b := by
  unfold k_ieq at h
  simp only [Bool.and_eq_true] at h
  exact Prod.ext (Nat.eq_of_beq_eq_true h.1) (Prod.ext (Nat.eq_of_beq_eq_true h.2.1) (Nat.eq_of_beq_eq_true h.2.2))
theorem k_lim28 {b : Bool} {r : Nat} (h : 28 ≤ r) : (q_lim b r).1 = 0 := by
  unfold q_lim
  split <;> first
    | omega
    | (rw [if_neg (by omega)])
theorem k_hdm : ∀ i, q_ok false i → i ∈ k_dm := by
  intro i hi
  obtain ⟨h1, h2⟩ := hi
  have hr : i.1 < 28 := by
    by_cases c : i.1 < 28
    · exact c
    · rw [k_lim28 (by omega)] at h1
      omega
  have g := List.all_eq_true.mp (List.all_eq_true.mp (List.all_eq_true.mp k_allok i.1 (List.mem_range.mpr hr)) i.2.1 (List.mem_range.mpr h1)) i.2.2 (List.mem_range.mpr h2)
  obtain ⟨a, ha, he⟩ := List.any_eq_true.mp g
  rw [show i = a from k_ieq_ok he]
  exact ha
