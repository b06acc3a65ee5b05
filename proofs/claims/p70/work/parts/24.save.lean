-- COPIES AND SAVED STATES, GUARDS
def s_h1 (h : Nat) : Nat := if h = 6 then 6 else h + 1
theorem s_n_lo {S S' : Nat → Int32} (h : ∀ i, i < 227 → S' i = S i) : s_n S' = s_n S := by
  unfold s_n
  rw [h 0 (by omega)]
theorem s_q_lo {S S' : Nat → Int32} (h : ∀ i, i < 227 → S' i = S i) : s_q S' = s_q S := by
  unfold s_q
  rw [h 145 (by omega)]
abbrev s_rg (lo hi : Nat) (a : Int32) : Prop := nI lo ≤ a ∧ a ≤ nI hi
theorem s_rg_n {lo hi : Nat} {a : Int32} (hl : lo < 2 ^ 31) (hh : hi < 2 ^ 31) (h : s_rg lo hi a) : ∃ k : Nat, lo ≤ k ∧ k ≤ hi ∧ a = nI k := by
  obtain ⟨h1, h2⟩ := h
  have l1 := Int32.le_iff_toInt_le.mp h1
  have l2 := Int32.le_iff_toInt_le.mp h2
  rw [nI_toInt hh] at l2
  rw [nI_toInt hl] at l1
  refine ⟨a.toInt.toNat, by omega, by omega, ?_⟩
  apply Int32.toInt_inj.mp
  rw [nI_toInt (by omega)]
  omega
abbrev s_lp1 (S : Nat → Int32) (a : Int32) : Prop := nI 0 ≤ a ∧ a ≤ S 0 - nI 1
