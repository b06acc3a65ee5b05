-- THE LAW'S START: ITS MEMORY IS WELL FORMED
theorem k_dmb : k_dm.all (fun i => Nat.blt i.2.1 10 && Nat.blt i.2.2 12) = true := by decide +kernel
theorem k_dmD (p : Nat) : (k_dm.getD p (0, 0, 0)).2.1 < 10 ∧ (k_dm.getD p (0, 0, 0)).2.2 < 12 := by
  rw [List.getD_eq_getElem?_getD]
  cases h : k_dm[p]? with
  | none => exact ⟨by show 0 < 10; decide, by show 0 < 12; decide⟩
  | some i =>
    have g := List.all_eq_true.mp k_dmb i (List.mem_of_getElem? h)
    rw [Bool.and_eq_true] at g
    exact ⟨k_blt g.1, k_blt g.2⟩
theorem k_mr_lt {r N : Nat} (hN : 0 < N) (h : ∀ p, k_mt r p < N) : ∀ (e : Option K_E) (k : Nat), k_mr r e k < N := by
  intro e k
  unfold k_mr
  split
  · split
    · exact h _
    · exact hN
  · exact hN
theorem k_wf0 : q_wf k_M0 := by
  intro j c k
  refine ⟨k_mr_lt (by decide) (fun p => (k_dmD p).2) _ _, k_mr_lt (by decide) (fun p => (k_dmD p).1) _ _, k_mr_lt (by decide) (fun p => (k_dmD p).1) _ _⟩
def k_S0 : Nat → Int32 := fun i => if i = 207 then nI 8 else if i = 209 then nI 200 else if i = 210 then nI 60 else if i = 211 then nI 40 else if i = 212 then nI 20 else if i = 213 then nI 1 else nI 0
theorem k_pl0 : ∀ j, j < 10 → ∀ p, p < 12 → k_M0.2.1 11 j 0 p = p := by
  have h : ((List.range 10).all fun j => (List.range 12).all fun p => Nat.beq (k_M0.2.1 11 j 0 p) p) = true := by decide +kernel
  intro j hj p hp
  exact Nat.eq_of_beq_eq_true (List.all_eq_true.mp (List.all_eq_true.mp h j (List.mem_range.mpr hj)) p (List.mem_range.mpr hp))
theorem k_rpl0 : ∀ j, j < 10 → r_pl (k_M0.2.1 11 j 0) := by
  intro j hj
  refine ⟨fun p hp => by rw [k_pl0 j hj p hp]; exact hp, fun p p' hp hp' h => ?_⟩
  rw [k_pl0 j hj p hp, k_pl0 j hj p' hp'] at h
  exact h
