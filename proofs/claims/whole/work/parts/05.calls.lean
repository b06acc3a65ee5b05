def q_dd : Q_D := (yX0_init, (cX0_init, (0, (none, (0, (0, (0, (0, (0, 0)))))))))
def q_m (j : Nat) : Q_D := q_md.getD j q_dd
def q_y (j : Nat) : MethodName := (q_m j).1
def q_b (j : Nat) : ByteArray := (q_m j).2.1
def q_ml (j : Nat) : Nat := (q_m j).2.2.1
def q_rt (j : Nat) : Option FieldType := (q_m j).2.2.2.1
def q_own (j : Nat) : Nat := (q_m j).2.2.2.2.1
def q_kind (j : Nat) : Nat := (q_m j).2.2.2.2.2.1
def q_na (j : Nat) : Nat := (q_m j).2.2.2.2.2.2.1
def q_bud (j : Nat) : Nat := (q_m j).2.2.2.2.2.2.2.1
def q_fr (j : Nat) : Nat := (q_m j).2.2.2.2.2.2.2.2.1
def q_lo (j : Nat) : Nat := (q_m j).2.2.2.2.2.2.2.2.2
def q_MDc (j : Nat) : Bool :=
  let y := q_y j
  let C := q_R (q_own j)
  q_in (.code y (q_b j) (q_ml j) (q_rt j)) && decide (y.cls = C) && plainName C && decide (C ≠ "java/lang/invoke/MethodHandle") && decide (C ≠ "java/lang/invoke/VarHandle") && decide ((parseMethodDescriptor y.desc).map (fun d => d.parameters.length) = some (q_na j)) && q_in (.initialized C) &&
  (match q_kind j with
    | 0 => q_in (.instanceMethod y) && q_in (.selects C y y)
    | 1 => q_in (.static y)
    | _ => q_in (.instanceMethod y) && decide (y.name = "<init>"))
theorem q_MDok0 : (List.range 70).all q_MDc = true := by decide +kernel
theorem q_MDok1 : (List.range 70).all (fun j => q_MDc (j + 70)) = true := by decide +kernel
theorem q_MDok2 : (List.range 70).all (fun j => q_MDc (j + 140)) = true := by decide +kernel
theorem q_MDok3 : (List.range 54).all (fun j => q_MDc (j + 210)) = true := by decide +kernel
theorem q_MDok {j : Nat} (h : j < 264) : q_MDc j = true := by
  rcases Nat.lt_or_ge j 70 with h0 | h0
  · exact List.all_eq_true.mp q_MDok0 j (List.mem_range.mpr h0)
  rcases Nat.lt_or_ge j 140 with h1 | h1
  · have := List.all_eq_true.mp q_MDok1 (j - 70) (List.mem_range.mpr (by omega))
    rwa [show j - 70 + 70 = j by omega] at this
  rcases Nat.lt_or_ge j 210 with h2 | h2
  · have := List.all_eq_true.mp q_MDok2 (j - 140) (List.mem_range.mpr (by omega))
    rwa [show j - 140 + 140 = j by omega] at this
  · have := List.all_eq_true.mp q_MDok3 (j - 210) (List.mem_range.mpr (by omega))
    rwa [show j - 210 + 210 = j by omega] at this
def q_CLc (q : Nat × (Nat × (Nat × Nat × Nat))) : Bool :=
  let j := q.2.2.1
  q_in (.methodLink (q_R q.1) q.2.1 (q_y j)) && (decide (j < 264) && decide (q.2.2.2.2 = q_bud j)) && decide (q.2.2.2.1 = q_na j + (if q_kind j = 1 then 0 else 1)) && (decide (q_kind j ≠ 1) || decide (q.1 = q_own j))
theorem q_CLok : (q_CL.filter (fun q => decide (q.2.2.1 < 264))).all q_CLc = true := by decide +kernel
