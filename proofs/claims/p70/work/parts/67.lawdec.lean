-- THE LAW'S OWN CODE, DECODED
theorem k_cut {T : Q_T} {n : Nat} (h1 : q_chk 9 9 13 478 code (T.take n) = true) (h2 : q_chk 9 9 13 478 code (T.drop n) = true) : q_chk 9 9 13 478 code T = true := by
  rw [← List.take_append_drop n T]
  unfold q_chk at h1 h2 ⊢
  rw [List.all_append, h1, h2]
  rfl
theorem k_h0 : q_chk 9 9 13 478 code (TL_law.take 60) = true := by decide +kernel
def k_T1 : Q_T := TL_law.drop 60
theorem k_h1 : q_chk 9 9 13 478 code (k_T1.take 60) = true := by decide +kernel
def k_T2 : Q_T := k_T1.drop 60
theorem k_h2 : q_chk 9 9 13 478 code (k_T2.take 60) = true := by decide +kernel
def k_T3 : Q_T := k_T2.drop 60
theorem k_hz : q_chk 9 9 13 478 code k_T3 = true := by decide +kernel
theorem k_chL : q_chk 9 9 13 478 code TL_law = true := k_cut k_h0 (k_cut k_h1 (k_cut k_h2 (k_hz)))
