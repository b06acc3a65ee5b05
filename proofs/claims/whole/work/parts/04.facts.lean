def q_in (w : Cond) : Bool := decide (w ∈ lw_tbl) && goodWord w
def q_G : List Cond := lw_tbl.filter goodWord
theorem q_in_G {w : Cond} (h : q_in w = true) : w ∈ q_G := by
  unfold q_in at h
  rw [Bool.and_eq_true, decide_eq_true_eq] at h
  exact List.mem_filter.mpr h
theorem q_G_good {w : Cond} (h : w ∈ q_G) : goodWord w = true := (List.mem_filter.mp h).2
theorem q_G_tbl {w : Cond} (h : w ∈ q_G) : w ∈ lw_tbl := (List.mem_filter.mp h).1
def q_tyc : Nat → FieldType
  | 0 => .int
  | 1 => .boolean
  | _ => .long
def q_FLc (q : Nat × (Nat × (Nat × Nat × Bool × Nat))) : Bool :=
  let own := q.1
  let idx := q.2.1
  let ci := q.2.2.1
  let k := q.2.2.2.1
  let t := (q_cl ci).2.1 k
  q_in (.fieldLink (q_R own) idx t.1 t.2.1 t.2.2.1) && decide (ci < 10) && decide (k < (q_cl ci).2.2) && (t.2.2.2 == q.2.2.2.2.1) && (decide (q.2.2.2.2.2 = 4) || decide (parseFieldDescriptor t.2.2.1 = some (q_tyc q.2.2.2.2.2)))
theorem q_FLok : q_FL.all q_FLc = true := by decide +kernel
theorem q_UWok : (List.range 10).all (fun ci => (u_ws (q_cl ci).1 (q_cl ci).2.1 (q_cl ci).2.2).all q_in) = true := by decide +kernel
