-- THE REFERENCE'S CONNECTIONS: COUNTING, SEARCHING, CLOSING, OPENING
def s_lt (S : Nat → Int32) (f : Option Nat) (k : Nat) : Bool := match f with
  | none => false
  | some q => decide (S (6 + 12 * q) < S (6 + 12 * k))
/-- the idle one of the first k that became so first, or last -/
def s_fo (S : Nat → Int32) (last : Bool) : Nat → Option Nat
  | 0 => none
  | k + 1 => if S (3 + 12 * k) < 0 ∧ (s_fo S last k = none ∨ s_lt S (s_fo S last k) k = last) then some k else s_fo S last k
theorem s_fo_lt {S : Nat → Int32} {last : Bool} : ∀ {k p : Nat}, s_fo S last k = some p → p < k
  | 0, p, h => by cases h
  | k + 1, p, h => by
    unfold s_fo at h
    split at h
    · cases h; omega
    · have := s_fo_lt h; omega
def s_nx (S : Nat → Int32) : Option Nat := s_fo S (decide (S 213 = nI 1)) (s_n S)
def s_cl (S : Nat → Int32) (p c : Nat) : Nat → Int32 := fun i => if i = 0 then S 0 - nI 1 else if 1 + 12 * p ≤ i ∧ i < 1 + 12 * (s_n S - 1) then S (i + 12) else if i = 215 + c then S i + nI 1 else S i
def s_op (S : Nat → Int32) : Nat → Int32 :=
  let n := s_n S
  let S1 := upd S 0 (S 0 + nI 1)
  let S2 := upd S1 214 (S1 214 + nI 1)
  let S3 : Nat → Int32 := fun i => if 1 + 12 * n ≤ i ∧ i < 1 + 12 * n + 12 then nI 0 else S2 i
  let S4 := upd S3 (1 + 12 * n) (S3 214)
  let S5 := upd S4 (2 + 12 * n) (S4 206)
  s_fr S5 n
