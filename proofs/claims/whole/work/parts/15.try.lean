theorem q_t1 {l : Launch} {b : Bool} (hl0 : l.stackTraces = false) : q_Ct l b 152 (fun av M K KX => ∃ p : Nat, av = [.inl (nI p)] ∧ K (some (.inl (nI (1 + 12 * p)))) M) := by
  refine q_meth (by decide) hl0 TX9_link kX9_link ?_
  rintro av M K KX hwf ⟨p, rfl, hK⟩
  refine ⟨by decide, fun Z hz => ?_⟩
  apply hz [] 50
  conv => whnf
  trace_state
  sorry
theorem q_t2 {l : Launch} {b : Bool} (hl0 : l.stackTraces = false) : q_Ct l b 154 (fun av M K KX => ∃ p : Nat, p < 12 ∧ av = [.inr (.inl (21, 0, 0)), .inl (nI p)] ∧ K (some (.inl (if M.1 22 0 0 (3 + 12 * p) < 0 then nI 1 else nI 0))) M) := by
  refine q_meth (by decide) hl0 TX9_isFree kX9_isFree ?_
  rintro av M K KX hwf ⟨p, hp, rfl, hK⟩
  refine ⟨by decide, fun Z hz => ?_⟩
  apply hz [] 50
  refine Exists.intro _ (And.intro (q_t1 hl0) (Exists.intro p (And.intro rfl ?_)))
  refine Exists.intro (3 + 12 * p) (And.intro ?_ (And.intro (by omega) ?_))
  · trace_state
    sorry
  · refine And.intro (fun c => ?_) (fun c => ?_)
    · trace_state
      sorry
    · sorry
