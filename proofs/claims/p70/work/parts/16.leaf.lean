-- THE REFERENCE'S LEAVES
def s_n (S : Nat → Int32) : Nat := (S 0).toNatClampNeg
def s_oi : Option Nat → Int32
  | none => -1
  | some p => nI p
/-- how many of the first k are idle -/
def s_cf (S : Nat → Int32) : Nat → Nat
  | 0 => 0
  | k + 1 => s_cf S k + (if S (3 + 12 * k) < 0 then 1 else 0)
/-- the last of the first k that squirrel x has -/
def s_lk (S : Nat → Int32) (x : Int32) : Nat → Option Nat
  | 0 => none
  | k + 1 => if S (3 + 12 * k) = x then some k else s_lk S x k
def s_fr (S : Nat → Int32) (p : Nat) : Nat → Int32 :=
  let S1 := upd S 226 (S 226 + nI 1)
  let S2 := upd S1 (3 + 12 * p) (-1)
  let S3 := upd S2 (5 + 12 * p) (S2 206)
  upd S3 (6 + 12 * p) (S3 226)
