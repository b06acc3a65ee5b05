def q_G : List Cond := lw_tbl.filter goodWord
theorem q_G_good {w : Cond} (h : w ∈ q_G) : goodWord w = true := (List.mem_filter.mp h).2
theorem q_G_tbl {w : Cond} (h : w ∈ q_G) : w ∈ lw_tbl := (List.mem_filter.mp h).1
def q_tyc : Nat → FieldType
  | 0 => .int
  | 1 => .boolean
  | _ => .long
