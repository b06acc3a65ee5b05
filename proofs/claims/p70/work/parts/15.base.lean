-- ROWS AND NUMBERS
theorem q_im1 : q_i (-1) = -1 := by decide
def q_bi (p : Prop) [Decidable p] : Int32 := if p then nI 1 else nI 0
theorem q_bi_t {p : Prop} [Decidable p] (h : p) : q_bi p = nI 1 := if_pos h
theorem q_bi_f {p : Prop} [Decidable p] (h : ¬ p) : q_bi p = nI 0 := if_neg h
theorem q_bi_c {p q : Prop} [Decidable p] [Decidable q] (h : p ↔ q) : q_bi p = q_bi q := by
  unfold q_bi
  by_cases hp : p
  · rw [if_pos hp, if_pos (h.mp hp)]
  · rw [if_neg hp, if_neg (fun g => hp (h.mpr g))]
theorem q_n1 : ¬ nI 1 = 0 := by decide
theorem q_bi_0 {p : Prop} [Decidable p] : q_bi p = 0 ↔ ¬ p := by
  unfold q_bi
  by_cases hp : p
  · rw [if_pos hp]; exact ⟨fun g => absurd g q_n1, fun g => absurd hp g⟩
  · rw [if_neg hp]; exact ⟨fun _ => hp, fun _ => nI_0⟩
theorem q_bi_bit (p : Prop) [Decidable p] : q_bit (q_bi p) := by
  unfold q_bi q_bit
  by_cases hp : p
  · rw [if_pos hp]; exact Or.inr rfl
  · rw [if_neg hp]; exact Or.inl rfl
theorem q_K {K : Option Q_V → Q_M → Prop} {v v' : Option Q_V} {M M' : Q_M} (h : K v M) (ev : v' = v) (e : M' = M) : K v' M' := by
  rw [ev, e]
  exact h
theorem q_sa_eta (M : Q_M) (i : Q_Id) : q_sa M i (M.1 i.1 i.2.1 i.2.2) = M := by
  refine Prod.ext (funext fun r => funext fun j => funext fun c => ?_) rfl
  show (if r = i.1 ∧ j = i.2.1 ∧ c = i.2.2 then M.1 i.1 i.2.1 i.2.2 else M.1 r j c) = M.1 r j c
  by_cases h : r = i.1 ∧ j = i.2.1 ∧ c = i.2.2
  · rw [if_pos h, h.1, h.2.1, h.2.2]
  · rw [if_neg h]
theorem q_sa_sa (M : Q_M) (i : Q_Id) (f g : Nat → Int32) : q_sa (q_sa M i f) i g = q_sa M i g := by
  refine Prod.ext (funext fun r => funext fun j => funext fun c => ?_) rfl
  show (if r = i.1 ∧ j = i.2.1 ∧ c = i.2.2 then g else if r = i.1 ∧ j = i.2.1 ∧ c = i.2.2 then f else M.1 r j c) = (if r = i.1 ∧ j = i.2.1 ∧ c = i.2.2 then g else M.1 r j c)
  by_cases h : r = i.1 ∧ j = i.2.1 ∧ c = i.2.2
  · rw [if_pos h, if_pos h]
  · rw [if_neg h, if_neg h, if_neg h]
theorem q_sa_comm (M : Q_M) (i i' : Q_Id) (f g : Nat → Int32) (hn : i' ≠ i) : q_sa (q_sa M i f) i' g = q_sa (q_sa M i' g) i f := by
  refine Prod.ext (funext fun r => funext fun j => funext fun c => ?_) rfl
  show (if r = i'.1 ∧ j = i'.2.1 ∧ c = i'.2.2 then g else if r = i.1 ∧ j = i.2.1 ∧ c = i.2.2 then f else M.1 r j c) = (if r = i.1 ∧ j = i.2.1 ∧ c = i.2.2 then f else if r = i'.1 ∧ j = i'.2.1 ∧ c = i'.2.2 then g else M.1 r j c)
  by_cases h : r = i.1 ∧ j = i.2.1 ∧ c = i.2.2
  · rw [if_pos h, if_pos h, if_neg (fun g => hn (Prod.ext (g.1.symm.trans h.1) (Prod.ext (g.2.1.symm.trans h.2.1) (g.2.2.symm.trans h.2.2))))]
  · rw [if_neg h, if_neg h]
theorem q_si_sa (M : Q_M) (i : Q_Id) (k : Nat) (x : Int32) : q_si M i k x = q_sa M i (upd (M.1 i.1 i.2.1 i.2.2) k x) := by
  refine Prod.ext (funext fun r => funext fun j => funext fun c => ?_) rfl
  show (fun k' => if r = i.1 ∧ j = i.2.1 ∧ c = i.2.2 ∧ k' = k then x else M.1 r j c k') = (if r = i.1 ∧ j = i.2.1 ∧ c = i.2.2 then upd (M.1 i.1 i.2.1 i.2.2) k x else M.1 r j c)
  by_cases h : r = i.1 ∧ j = i.2.1 ∧ c = i.2.2
  · rw [if_pos h, h.1, h.2.1, h.2.2]
    funext k'
    simp [upd]
  · rw [if_neg h]
    funext k'
    rw [if_neg (fun g => h ⟨g.1, g.2.1, g.2.2.1⟩)]
-- the reference's rows
