-- ASKING, GIVING BACK, USING
theorem s_lk_lt {S : Nat → Int32} {x : Int32} : ∀ {k p : Nat}, s_lk S x k = some p → p < k ∧ S (3 + 12 * p) = x
  | 0, p, h => by cases h
  | k + 1, p, h => by
    unfold s_lk at h
    split at h
    · rename_i hx
      cases h
      exact ⟨by omega, hx⟩
    · have := s_lk_lt h
      exact ⟨by omega, this.2⟩
theorem s_qd_lt {S : Nat → Int32} {x : Int32} : ∀ {k p : Nat}, s_qd S x k = some p → p < k ∧ S (146 + 3 * p) = x
  | 0, p, h => by cases h
  | k + 1, p, h => by
    unfold s_qd at h
    split at h
    · rename_i hx
      cases h
      exact ⟨by omega, hx⟩
    · have := s_qd_lt h
      exact ⟨by omega, this.2⟩
def s_as (S : Nat → Int32) (x u : Int32) : Bool × (Nat → Int32) := if s_q S = 0 then (match s_le S x with
    | (true, S') => (true, S')
    | (false, S') => (false, s_qs S' x u)) else (false, s_qs S x u)
def s_gb (S : Nat → Int32) (p : Nat) : Nat → Int32 := if S (4 + 12 * p) = nI 1 then s_cl S p 2 else if S 209 ≤ S 206 - S (2 + 12 * p) then s_cl S p 0 else s_fr S p
theorem s_wf_gb {S : Nat → Int32} (w : s_wf S) {p : Nat} (hp : p < s_n S) : s_wf (s_gb S p) := by
  unfold s_gb
  split
  · exact s_wf_cl w hp (by decide)
  · split
    · exact s_wf_cl w hp (by decide)
    · exact s_wf_fr w hp
def s_gv (S : Nat → Int32) (p : Nat) : Nat × (Nat → Int32) := s_sv (s_q (s_gb S p)) (s_gb S p)
def s_nu (S : Nat → Int32) (p : Nat) (y : Int32) : Nat → Bool
  | 0 => false
  | k + 1 => s_nu S p y k || decide (S (9 + 12 * p + k) = y)
def s_fi (S : Nat → Int32) (p : Nat) (y : Int32) : Nat → Nat → Nat
  | 0, k => k
  | d + 1, k => if S (9 + 12 * p + k) = y then k else s_fi S p y d (k + 1)
theorem s_fi_le {S : Nat → Int32} {p : Nat} {y : Int32} : ∀ d k, k ≤ s_fi S p y d k ∧ s_fi S p y d k ≤ k + d
  | 0, k => ⟨Nat.le_refl _, Nat.le_refl _⟩
  | d + 1, k => by
    unfold s_fi
    have := s_fi_le (S := S) (p := p) (y := y) d (k + 1)
    split <;> omega
def s_f1 (h : Bool) (f : Nat) : Nat := if h = true then f else if f < 4 then f else 3
def s_ua (S : Nat → Int32) (p : Nat) (h : Bool) : Nat → Int32 := if h = true then S else upd S (8 + 12 * p) (if S (8 + 12 * p) < nI 4 then S (8 + 12 * p) + nI 1 else nI 4)
def s_ub (S1 : Nat → Int32) (p : Nat) (y : Int32) (h : Bool) (f1 : Nat) : Nat → Int32 := upd (upd (fun j => if 9 + 12 * p < j ∧ j < 10 + 12 * p + f1 then S1 (j - 1) else S1 j) (9 + 12 * p) y) (if h = true then 224 else 225) ((upd (fun j => if 9 + 12 * p < j ∧ j < 10 + 12 * p + f1 then S1 (j - 1) else S1 j) (9 + 12 * p) y) (if h = true then 224 else 225) + nI 1)
def s_c (S : Nat → Int32) (p : Nat) : Nat := (S (8 + 12 * p)).toNatClampNeg
def s_us (S : Nat → Int32) (p : Nat) (y : Int32) : Bool × (Nat → Int32) := (s_nu S p y (s_c S p), s_ub (s_ua S p (s_nu S p y (s_c S p))) p y (s_nu S p y (s_c S p)) (s_f1 (s_nu S p y (s_c S p)) (s_fi S p y (s_c S p) 0)))
