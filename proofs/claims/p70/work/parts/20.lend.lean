-- LENDING, AND THE QUEUE
def s_lb : Nat → (Nat → Int32) → Option Nat × (Nat → Int32)
  | 0, S => (s_nx S, S)
  | f + 1, S => match s_nx S with
    | none => (none, S)
    | some p => if S (4 + 12 * p) = nI 1 then s_lb f (s_cl S p 2) else (some p, S)
def s_fl (S : Nat → Int32) : Option Nat × (Nat → Int32) := match s_lb (s_n S) S with
  | (some p, S') => (some p, S')
  | (none, S') => if S' 0 < S' 207 then (some (s_n S'), s_op S') else (none, S')
def s_le (S : Nat → Int32) (x : Int32) : Bool × (Nat → Int32) := match s_fl S with
  | (some p, S') => (true, s_ld S' p x)
  | (none, S') => (false, S')
theorem s_nx_lt {S : Nat → Int32} {p : Nat} (h : s_nx S = some p) : p < s_n S := s_fo_lt h
theorem s_n_op {S : Nat → Int32} (h0 : S 0 = nI (s_n S)) (h : s_n S < 12) : s_n (s_op S) = s_n S + 1 := s_of (s_op_n h0) (by omega)
theorem s_n_cl {S : Nat → Int32} (w : s_wf S) {p c : Nat} (hp : p < s_n S) : s_n (s_cl S p c) = s_n S - 1 := s_of (s_cl_n w.1.1 w.1.2 hp) (by have := w.1.2; omega)
theorem s_wf_lb : ∀ (f : Nat) (S : Nat → Int32), s_wf S → s_wf (s_lb f S).2 ∧ (s_n S ≤ f → (∀ p, (s_lb f S).1 = some p → p < s_n (s_lb f S).2 ∧ ¬ (s_lb f S).2 (4 + 12 * p) = nI 1)) ∧ s_n (s_lb f S).2 ≤ s_n S
  | 0, S, w => ⟨w, fun h p hp => by
      have h1 := s_nx_lt hp
      omega, Nat.le_refl _⟩
  | f + 1, S, w => by
    unfold s_lb
    cases h : s_nx S with
    | none => exact ⟨w, fun _ p hp => (by cases hp), Nat.le_refl _⟩
    | some p =>
      have hp := s_nx_lt h
      dsimp only
      by_cases hb : S (4 + 12 * p) = nI 1
      · rw [if_pos hb]
        obtain ⟨h1, h2, h3⟩ := s_wf_lb f (s_cl S p 2) (s_wf_cl w hp (by decide))
        rw [s_n_cl w hp] at h2 h3
        exact ⟨h1, fun h => h2 (by omega), by omega⟩
      · rw [if_neg hb]
        exact ⟨w, fun _ p' hp' => by cases hp'; exact ⟨hp, hb⟩, Nat.le_refl _⟩
/-- the last of the first k that waits as squirrel x -/
def s_qd (S : Nat → Int32) (x : Int32) : Nat → Option Nat
  | 0 => none
  | k + 1 => if S (146 + 3 * k) = x then some k else s_qd S x k
def s_uq (S : Nat → Int32) (k : Nat) : Nat → Int32 := fun i => if i = 145 then S 145 - nI 1 else if 146 + 3 * k ≤ i ∧ i < 146 + 3 * (s_q S - 1) then S (i + 3) else S i
/-- where one of urgency u goes among the first k -/
def s_qp (S : Nat → Int32) (u : Int32) : Nat → Nat
  | 0 => 0
  | k + 1 => if S (147 + 3 * k) < u then s_qp S u k else k + 1
theorem s_qp_le {S : Nat → Int32} {u : Int32} : ∀ k, s_qp S u k ≤ k
  | 0 => Nat.le_refl _
  | k + 1 => by
    unfold s_qp
    have := s_qp_le (S := S) (u := u) k
    split <;> omega
def s_qs (S : Nat → Int32) (x u : Int32) : Nat → Int32 :=
  let p := s_qp S u (s_q S)
  let S1 : Nat → Int32 := fun i => if 149 + 3 * p ≤ i ∧ i < 149 + 3 * s_q S then S (i - 3) else S i
  let S2 := upd S1 145 (S1 145 + nI 1)
  let S3 := upd S2 (146 + 3 * p) x
  let S4 := upd S3 (147 + 3 * p) u
  upd S4 (148 + 3 * p) (S4 206)
