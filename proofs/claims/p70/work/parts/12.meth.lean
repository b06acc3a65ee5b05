-- A METHOD'S CONTRACT OUT OF ITS WALK OVER THE ABSTRACT MEMORY
def q_args : Nat → List Q_V → List (Nat × Q_V)
  | _, [] => []
  | i, v :: vs => (i, v) :: q_args (if q_cat v = 2 then i + 2 else i + 1) vs
theorem q_args_eq (ad : Q_Id → Nat) : ∀ (vs : List Q_V) (i : Nat), lv_args i (vs.map (q_e ad)) = q_lp ad (q_args i vs)
  | [], i => rfl
  | v :: vs, i => by
    simp only [List.map_cons, lv_args, q_args, q_lp, q_e_cat]
    congr 1
    exact q_args_eq ad vs _
theorem q_args_ok {b : Bool} : ∀ (vs : List Q_V) (i : Nat), (∀ v ∈ vs, q_okv b v) → ∀ q ∈ q_args i vs, q_okv b q.2
  | [], _, _, q, hq => by cases hq
  | v :: vs, i, h, q, hq => by
    rcases List.mem_cons.mp hq with rfl | hq
    · exact h v List.mem_cons_self
    · exact q_args_ok vs _ (fun w hw => h w (List.mem_cons_of_mem _ hw)) q hq
theorem q_sl_len (ad : Q_Id → Nat) : ∀ vs : List Q_V, (lg_sl (vs.map (q_e ad))).length = q_sum vs
  | [] => rfl
  | v :: vs => by
    have ih := q_sl_len ad vs
    rcases v with x | i | x | x <;> simp [lg_sl, q_e, q_sum, q_cat, Value.category] at ih ⊢ <;> omega
def q_TSc (q : Nat × (Nat × (Nat × Nat × Nat × Nat × Bool × String))) : Bool :=
  let cc := q_b q.1
  let pc := q.2.1
  let E := q.2.2.1
  let ik := q.2.2.2.1
  let is := q.2.2.2.2.1
  let ic := q.2.2.2.2.2.1
  let w := q.2.2.2.2.2.2.1
  decide (decode cc pc = .ok (.new ik, 3)) && (decide (decode cc (pc + 3) = .ok (.dup, 1)) && ((match w with
    | true => decide (decode cc (pc + 4) = .ok (.ldc_w is, 3)) && (decide (decode cc (pc + 7) = .ok (.invokespecial ic, 3)) && decide (decode cc (pc + 10) = .ok (.athrow, 1)))
    | false => decide (decode cc (pc + 4) = .ok (.ldc is, 2)) && (decide (decode cc (pc + 6) = .ok (.invokespecial ic, 3)) && decide (decode cc (pc + 9) = .ok (.athrow, 1)))) && ((decide (E = 1 ∧ ik = 228 ∧ ic = 232) || (decide (E = 2 ∧ ik = 147 ∧ ic = 151) || decide (E = 3 ∧ ik = 53 ∧ ic = 57))) && (decide (q_own q.1 = 8) && (decide (6 ≤ q_fr q.1) && (decide (90 ≤ q_lo q.1) && decide (q.1 < 149)))))))
theorem q_TSok : q_TS.all q_TSc = true := by decide +kernel
def q_Xc (E ik ic : Nat) : Bool := decide (Cond.classLink RX8 ik (q_en E) ∈ lw_tbl) && (decide (Cond.initialized (q_en E) ∈ lw_tbl) && (((vx_atS RX8 ic (q_en E) q_ne).filter goodWord).all (fun w => decide (w ∈ lw_tbl)) && (((vx_atS RX8 ic (q_en E) q_ne).filter (fun w => !goodWord w)).all (fun w => decide (w ∈ q_UB)) && ((vx_atS RX8 ic (q_en E) q_ne).all vx_ot && Bundle.fit (q_en E)))))
theorem q_Xc1 : q_Xc 1 228 232 = true := by decide +kernel
theorem q_Xc2 : q_Xc 2 147 151 = true := by decide +kernel
theorem q_Xc3 : q_Xc 3 53 57 = true := by decide +kernel
theorem q_nefit : ∀ n ∈ q_ne, Bundle.fit n = true := by decide +kernel
theorem q_CLlaw : q_CL.all (fun q => Nat.ble q.2.2.1 148 || Nat.beq q.1 9) = true := by decide +kernel
theorem q_UB_on : ∀ w ∈ q_UB, w.onTables = true := by
  intro w hw
  unfold q_UB at hw
  simp only [List.mem_cons, List.not_mem_nil, or_false] at hw
  rcases hw with rfl | rfl | rfl | rfl | rfl | rfl <;> rfl
