-- SHARES: THE WALKS
theorem f_share_n {a b : Nat} (hab : a ≤ b) (hb : b ≤ 1024) : vf_n64 (f_share a b) := by
  by_cases ha : a = 0
  · rw [ha]
    exact f_n64 (f_share0 hb)
  · obtain ⟨c, s, -, -, -, -, h, -⟩ := f_shareV (a := a) (by omega) hab hb
    exact f_n64 h
abbrev pX0_shareOfHits : Q_P := fun av M K KX => ∃ (j : Nat) (S : Nat → Int32) (a b : Nat), RC j M S ∧ S 224 = nI a ∧ S 225 = nI b ∧ a + b ≤ 1024 ∧ av = [.inr (.inl (17, j, 0))] ∧ K (some (.inr (.inr (.inr (f_share a (a + b)))))) M
theorem cX0_shareOfHits_ct {l : Launch} {b : Bool} (hl0 : l.stackTraces = false) : q_Ct l b 3 pX0_shareOfHits := by
  refine q_meth (by decide +kernel) hl0 TX0_shareOfHits kX0_shareOfHits ?_
  intro av M K KX hwf
  rintro ⟨j, S, a, b, hR, ha, hb, hab, rfl, hK⟩
  refine ⟨Nat.le_of_ble_eq_true rfl, fun Z hz hw => ?_⟩
  have e6 : M.1 17 j 0 6 = nI a := (hR.2.2.2.2.2.2.2 4 (by decide)).trans ha
  have e7 : M.1 17 j 0 7 = nI b := (hR.2.2.2.2.2.2.2 5 (by decide)).trans hb
  have hn := f_share_n (a := a) (b := a + b) (by omega) hab
  apply hz [] 60
  refine And.intro (fun (g : M.1 17 j 0 6 + M.1 17 j 0 7 = nI 0) => ?_) (fun (g : ¬ M.1 17 j 0 6 + M.1 17 j 0 7 = nI 0) => ?_)
  · rw [e6, e7, nI_add, nI_eq (by omega) (by omega)] at g
    rw [show f_share a (a + b) = 0 by unfold f_share; rw [if_pos g]] at hK
    exact hK
  · rw [e6, e7, nI_add, nI_eq (by omega) (by omega)] at g
    have e : FP.ddiv (FP.i2d (M.1 17 j 0 6)) (FP.i2d (M.1 17 j 0 6 + M.1 17 j 0 7)) = f_share a (a + b) := by
      rw [e6, e7, nI_add]
      unfold f_share
      rw [if_neg g]
    rw [← e] at hK hn
    exact And.intro hn hK
abbrev pX8_hitShare : Q_P := fun av M K KX => ∃ (S : Nat → Int32) (a b : Nat), RC 0 M S ∧ S 224 = nI a ∧ S 225 = nI b ∧ a + b ≤ 1024 ∧ av = [.inr (.inl (0, 0, 0))] ∧ K (some (.inr (.inr (.inr (f_share a (a + b)))))) M
theorem cX8_hitShare_ct {l : Launch} {b : Bool} (hl0 : l.stackTraces = false) : q_Ct l b 132 pX8_hitShare := by
  refine q_meth (by decide +kernel) hl0 TX8_hitShare kX8_hitShare ?_
  intro av M K KX hwf
  rintro ⟨S, a, b, hR, ha, hb, hab, rfl, hK⟩
  refine ⟨Nat.le_of_ble_eq_true rfl, fun Z hz hw => ?_⟩
  apply hz [] 60
  exact Exists.intro _ ⟨cX0_shareOfHits_ct hl0, 0, S, a, b, hR, ha, hb, hab, rfl, hK⟩
