def q_dd : Q_D := (yX0_init, (cX0_init, (0, (none, (0, (0, (0, (0, (0, 0)))))))))
def q_m (j : Nat) : Q_D := match Nat.ble 149 j with
  | true => q_mdL.getD (j - 149) q_dd
  | false => q_md.getD j q_dd
def q_y (j : Nat) : MethodName := (q_m j).1
def q_b (j : Nat) : ByteArray := (q_m j).2.1
def q_ml (j : Nat) : Nat := (q_m j).2.2.1
def q_rt (j : Nat) : Option FieldType := (q_m j).2.2.2.1
def q_own (j : Nat) : Nat := (q_m j).2.2.2.2.1
def q_kind (j : Nat) : Nat := (q_m j).2.2.2.2.2.1
def q_na (j : Nat) : Nat := (q_m j).2.2.2.2.2.2.1
def q_bud (j : Nat) : Nat := (q_m j).2.2.2.2.2.2.2.1
def q_fr (j : Nat) : Nat := (q_m j).2.2.2.2.2.2.2.2.1
def q_lo (j : Nat) : Nat := (q_m j).2.2.2.2.2.2.2.2.2
def q_tl : Nat → List Cond
  | 0 => k2_sels lw_privs
  | 1 => tables_1_1
  | 2 => tables_1_2
  | 3 => tables_1_3
  | 4 => tables_1_4
  | 5 => tables_1_5
  | _ => []
def q_lk (q : Nat × Nat) : Option Cond := (q_tl q.1)[q.2]?
def q_pF : List (Nat × Nat) := [(1, 158), (1, 155), (1, 161), (1, 164), (1, 167), (1, 170), (1, 173), (1, 176), (1, 47), (1, 61), (1, 38), (1, 41), (1, 44), (1, 50), (1, 53), (1, 55), (1, 58), (2, 8), (2, 9), (2, 10), (2, 11), (1, 235), (1, 233), (1, 92), (1, 95), (1, 96), (1, 89), (1, 113), (1, 116), (1, 119), (1, 122), (1, 125), (1, 128), (1, 131), (1, 201), (1, 203), (1, 205), (1, 207), (1, 196), (1, 198), (1, 200), (1, 48), (1, 54), (1, 132), (1, 126), (1, 51), (1, 97), (1, 156), (1, 39), (1, 42), (1, 46), (1, 56), (1, 59), (1, 159), (1, 115), (1, 162), (1, 90), (1, 93), (1, 168), (1, 171), (1, 121), (1, 174), (1, 177), (1, 130), (1, 165), (1, 118), (1, 124), (2, 35), (2, 36), (2, 37), (2, 38), (2, 39), (2, 40), (1, 202), (1, 45), (1, 206), (1, 114), (1, 117), (1, 120), (1, 123), (1, 127), (1, 129), (1, 133), (1, 199), (1, 234), (1, 208), (1, 157), (1, 40), (1, 197), (1, 43), (1, 49), (1, 52), (1, 57), (1, 60), (1, 62), (1, 204), (1, 91), (1, 94), (1, 160), (1, 163), (1, 166), (1, 169), (1, 172), (1, 175), (1, 178)]
set_option maxRecDepth 100000 in
theorem q_FLw : q_FL.map (fun q => Cond.fieldLink (q_R q.1) q.2.1 ((q_cl q.2.2.1).2.1 q.2.2.2.1).1 ((q_cl q.2.2.1).2.1 q.2.2.2.1).2.1 ((q_cl q.2.2.1).2.1 q.2.2.2.1).2.2.1) = q_pF.filterMap q_lk := by rfl
def q_pU : List (Nat × Nat) := [(1, 179), (1, 181), (1, 183), (1, 185), (1, 187), (1, 189), (1, 191), (1, 193), (1, 63), (1, 65), (1, 67), (1, 69), (1, 71), (1, 73), (1, 75), (1, 77), (1, 79), (2, 12), (2, 14), (2, 16), (2, 18), (2, 20), (2, 22), (2, 24), (2, 26), (2, 28), (2, 30), (2, 32), (1, 179), (1, 181), (1, 183), (1, 185), (1, 187), (1, 189), (1, 191), (1, 193), (1, 236), (1, 238), (1, 98), (1, 100), (1, 102), (1, 104), (1, 134), (1, 136), (1, 138), (1, 140), (1, 142), (1, 144), (1, 146), (1, 209), (1, 211), (1, 213), (1, 215), (1, 217), (1, 219), (1, 221), (2, 41), (2, 43), (2, 45), (2, 47), (2, 49), (2, 51), (1, 179), (1, 181), (1, 183), (1, 185), (1, 187), (1, 189), (1, 191), (1, 193)]
set_option maxRecDepth 100000 in
theorem q_UWw : (List.range 10).flatMap (fun ci => u_ws (q_cl ci).1 (q_cl ci).2.1 (q_cl ci).2.2) = q_pU.filterMap q_lk := by rfl
def q_pC : List (Nat × Nat) := [(1, 153), (2, 165), (4, 150), (5, 23), (1, 36), (2, 149), (3, 12), (3, 140), (5, 15), (3, 136), (2, 6), (1, 153), (1, 153), (1, 153), (1, 153), (1, 153), (1, 153), (1, 153), (1, 153), (1, 153), (1, 153), (1, 153), (1, 153), (1, 153), (1, 153), (1, 229), (2, 195), (2, 199), (2, 213), (1, 87), (2, 156), (3, 116), (4, 15), (3, 89), (1, 111), (2, 161), (1, 29), (2, 145), (3, 39), (4, 4), (3, 229), (3, 64), (3, 69), (4, 192), (4, 118), (4, 226), (3, 85), (3, 77), (3, 52), (3, 48), (3, 73), (3, 159), (3, 60), (3, 81), (4, 11), (3, 56), (3, 44), (3, 121), (3, 132), (3, 209), (3, 213), (3, 217), (3, 221), (3, 225), (3, 233), (1, 153), (1, 21), (4, 0), (3, 27), (3, 108), (3, 128), (3, 148), (3, 205), (3, 155), (3, 166), (3, 173), (3, 180), (3, 187), (3, 194), (3, 198), (1, 153), (1, 153), (1, 153), (1, 153), (2, 70), (2, 175), (2, 208), (2, 57), (2, 220), (4, 146), (4, 85), (4, 177), (2, 228), (4, 99), (3, 19), (4, 92), (4, 113), (4, 207), (4, 106), (4, 214), (4, 163), (4, 154), (4, 159), (4, 184), (4, 125), (4, 200), (4, 222), (4, 132), (5, 3), (4, 139), (3, 93), (3, 100), (4, 54), (4, 58), (4, 62), (4, 66), (4, 70), (4, 74), (4, 78), (4, 236), (1, 153), (1, 153), (5, 11), (4, 22), (4, 26), (4, 170), (4, 30), (4, 50), (4, 34), (4, 38), (4, 42), (4, 46), (5, 19), (1, 153), (1, 153), (1, 153), (1, 153), (1, 153), (1, 153), (3, 34), (2, 73), (2, 232), (3, 31), (3, 112), (4, 188), (2, 60), (2, 216), (4, 18), (4, 142)]
set_option maxRecDepth 100000 in
theorem q_Cw : q_md.map (fun q => Cond.code q.1 q.2.1 q.2.2.1 q.2.2.2.1) = q_pC.filterMap q_lk := by rfl
def q_pI : List (Nat × Nat) := [(1, 6), (1, 3), (1, 8), (1, 6), (1, 7), (1, 4), (1, 5), (1, 2), (1, 1), (1, 0)]
theorem q_Iw : (List.range 10).map (fun n => Cond.initialized (q_R n)) = q_pI.filterMap q_lk := by rfl
def q_pM : List (Nat × Nat) := [(1, 152), (2, 163), (4, 148), (5, 21), (1, 35), (2, 147), (3, 10), (3, 138), (5, 13), (3, 134), (2, 5), (1, 152), (1, 152), (1, 152), (1, 152), (1, 152), (1, 152), (1, 152), (1, 152), (1, 152), (1, 152), (1, 152), (1, 152), (1, 152), (1, 152), (1, 228), (2, 193), (2, 197), (2, 211), (1, 86), (2, 154), (3, 114), (4, 13), (3, 87), (1, 110), (2, 159), (1, 28), (2, 143), (3, 37), (4, 2), (3, 227), (3, 62), (3, 67), (4, 190), (4, 116), (4, 224), (3, 83), (3, 75), (3, 50), (3, 46), (3, 71), (3, 157), (3, 58), (3, 79), (4, 9), (3, 54), (3, 42), (3, 119), (3, 130), (3, 207), (3, 211), (3, 215), (3, 219), (3, 223), (3, 231), (1, 152), (1, 20), (3, 238), (3, 25), (3, 106), (3, 126), (3, 146), (3, 203), (3, 153), (3, 164), (3, 171), (3, 178), (3, 185), (3, 192), (3, 196), (1, 152), (1, 152), (1, 152), (1, 152), (2, 68), (2, 173), (2, 206), (2, 55), (2, 218), (4, 144), (4, 83), (4, 175), (2, 226), (4, 97), (3, 17), (4, 90), (4, 111), (4, 205), (4, 104), (4, 212), (4, 161), (4, 152), (4, 157), (4, 182), (4, 123), (4, 198), (4, 220), (4, 130), (5, 1), (4, 137), (3, 91), (3, 98), (4, 52), (4, 56), (4, 60), (4, 64), (4, 68), (4, 72), (4, 76), (4, 234), (1, 152), (1, 152), (5, 9), (4, 20), (4, 24), (4, 168), (4, 28), (4, 48), (4, 32), (4, 36), (4, 40), (4, 44), (5, 17), (1, 152), (1, 152), (1, 152), (1, 152), (1, 152), (1, 152), (3, 33), (2, 72), (2, 231), (3, 30), (3, 111), (4, 187), (2, 59), (2, 215), (4, 17), (4, 141)]
set_option maxRecDepth 100000 in
theorem q_Mw : q_md.map (fun q => match q.2.2.2.2.2.1 with | 1 => Cond.static q.1 | _ => Cond.instanceMethod q.1) = q_pM.filterMap q_lk := by rfl
def q_pS : List (Nat × Nat) := [(2, 164), (4, 149), (5, 22), (2, 148), (3, 11), (3, 139), (5, 14), (3, 135), (2, 194), (2, 198), (2, 212), (2, 155), (3, 115), (4, 14), (3, 88), (2, 160), (2, 144), (3, 38), (4, 3), (3, 228), (3, 63), (3, 68), (4, 191), (4, 117), (4, 225), (3, 84), (3, 76), (3, 51), (3, 47), (3, 72), (3, 158), (3, 59), (3, 80), (4, 10), (3, 55), (3, 43), (3, 120), (3, 131), (3, 208), (3, 212), (3, 216), (3, 220), (3, 224), (3, 232), (3, 239), (3, 26), (3, 107), (3, 127), (3, 147), (3, 204), (3, 154), (3, 165), (3, 172), (3, 179), (3, 186), (3, 193), (3, 197), (2, 69), (2, 174), (2, 207), (2, 56), (2, 219), (4, 145), (4, 84), (4, 176), (2, 227), (4, 98), (3, 18), (4, 91), (4, 112), (4, 206), (4, 105), (4, 213), (4, 162), (4, 153), (4, 158), (4, 183), (4, 124), (4, 199), (4, 221), (4, 131), (5, 2), (4, 138), (3, 92), (3, 99), (4, 53), (4, 57), (4, 61), (4, 65), (4, 69), (4, 73), (4, 77), (4, 235), (5, 10), (4, 21), (4, 25), (4, 169), (4, 29), (4, 49), (4, 33), (4, 37), (4, 41), (4, 45), (5, 18), (0, 1), (0, 2), (0, 3), (0, 4)]
set_option maxRecDepth 100000 in
theorem q_Sw : (q_md.filter (fun q => Nat.beq q.2.2.2.2.2.1 0)).map (fun q => Cond.selects (q_R q.2.2.2.2.1) q.1 q.1) = q_pS.filterMap q_lk := by rfl
def q_pL : List (Nat × Nat) := [(3, 137), (1, 232), (2, 196), (2, 200), (1, 34), (1, 85), (1, 109), (1, 151), (2, 146), (2, 153), (2, 158), (2, 162), (4, 5), (4, 6), (3, 65), (3, 66), (3, 61), (3, 49), (3, 45), (3, 70), (3, 74), (3, 57), (4, 12), (3, 78), (3, 82), (3, 86), (3, 53), (3, 133), (3, 210), (3, 214), (3, 218), (3, 222), (3, 230), (3, 226), (1, 27), (1, 227), (2, 4), (3, 32), (2, 71), (4, 1), (2, 192), (4, 8), (3, 28), (3, 41), (3, 109), (3, 118), (3, 129), (2, 229), (3, 206), (3, 156), (2, 142), (2, 210), (4, 147), (3, 9), (4, 115), (4, 155), (3, 36), (4, 185), (4, 223), (3, 113), (5, 4), (5, 12), (5, 20), (4, 189), (3, 237), (3, 24), (3, 105), (3, 125), (3, 145), (3, 202), (3, 152), (3, 163), (3, 170), (3, 177), (3, 184), (3, 191), (2, 67), (2, 172), (2, 205), (4, 82), (4, 174), (2, 225), (4, 96), (3, 16), (4, 89), (4, 110), (4, 204), (4, 103), (4, 211), (4, 181), (4, 122), (4, 197), (4, 219), (4, 129), (5, 0), (4, 136), (3, 97), (4, 167), (4, 233), (5, 8), (2, 217), (3, 90), (3, 195), (4, 19), (4, 23), (4, 27), (4, 31), (4, 35), (4, 39), (4, 43), (4, 47), (4, 51), (4, 55), (4, 59), (4, 63), (4, 67), (4, 71), (4, 75), (4, 143), (4, 151), (4, 156), (4, 160), (5, 16), (1, 19), (4, 140), (2, 58), (4, 16), (2, 54), (2, 214)]
def q_CX : List (Nat × (Nat × (Nat × Nat × Nat))) := q_CL.filter (fun q => Nat.ble q.2.2.1 148)
set_option maxRecDepth 100000 in
theorem q_CLw : q_CX.map (fun q => Cond.methodLink (q_R q.1) q.2.1 (q_y q.2.2.1)) = q_pL.filterMap q_lk := by rfl
def q_ds : List (String × Nat) := [("()D", 0), ("()I", 0), ("()V", 0), ("()Z", 0), ("(I)I", 1), ("(I)V", 1), ("(I)Z", 1), ("(II)I", 2), ("(II)V", 2), ("(II)Z", 2), ("(III)V", 3), ("(LSquirrelPool$Accounts;)V", 1), ("(LSquirrelPool$Connection;)V", 1), ("(LSquirrelPool$Queue;)V", 1), ("(LSquirrelPool$Settings;)V", 1), ("(LSquirrelPool$State;)V", 1), ("(LSquirrelPool;)I", 1), ("(LSquirrelPool;)Z", 1), ("(LSquirrelPool;I)I", 2), ("(Z)I", 1), ("([II)I", 2)]
theorem q_dsok : q_ds.all (fun q => decide ((parseMethodDescriptor q.1).map (fun d => d.parameters.length) = some q.2)) = true := by decide +kernel
def q_dx : List Nat := [2, 11, 1, 0, 2, 12, 3, 4, 6, 6, 2, 2, 2, 2, 2, 2, 2, 2, 2, 2, 2, 2, 2, 2, 2, 2, 15, 2, 15, 2, 13, 4, 10, 5, 2, 14, 2, 15, 4, 6, 1, 19, 9, 1, 4, 4, 4, 1, 12, 8, 3, 2, 1, 8, 9, 1, 6, 4, 9, 4, 2, 2, 2, 2, 2, 2, 2, 9, 6, 4, 9, 6, 4, 4, 4, 4, 4, 4, 4, 3, 2, 2, 2, 2, 5, 5, 2, 1, 1, 1, 4, 4, 6, 6, 4, 4, 4, 4, 4, 7, 1, 1, 1, 1, 6, 4, 4, 6, 4, 4, 1, 4, 1, 1, 1, 1, 1, 1, 3, 4, 2, 2, 4, 1, 1, 4, 1, 1, 1, 1, 1, 1, 0, 2, 2, 2, 2, 2, 2, 5, 10, 5, 4, 4, 1, 20, 18, 16, 17]
set_option maxRecDepth 100000 in
theorem q_dsw : q_md.map (fun q => (q.1.desc, q.2.2.2.2.2.2.1)) = q_dx.filterMap (fun i => q_ds[i]?) := by rfl
set_option maxRecDepth 100000 in
theorem q_clsw : q_md.map (fun q => q.1.cls) = q_md.map (fun q => q_R q.2.2.2.2.1) := by rfl
theorem q_plain : (List.range 10).all (fun n => plainName (q_R n)) = true := by decide +kernel
theorem q_nums : (q_md.all (fun q => Nat.ble q.2.2.2.2.1 9) && q_CX.all (fun q => Nat.beq q.2.2.2.2 (q_bud q.2.2.1) && (Nat.beq q.2.2.2.1 (q_na q.2.2.1 + (match q_kind q.2.2.1 with | 1 => 0 | _ => 1)) && (match q_kind q.2.2.1 with | 1 => Nat.beq q.1 (q_own q.2.2.1) | _ => true)))) = true := by decide +kernel
/-- the class's own methods -/
theorem q_own8 : (List.range 145).all (fun j => Nat.ble (q_own j) 8) = true := by decide +kernel
theorem q_mem_lk {w : Cond} {ps : List (Nat × Nat)} (h : w ∈ ps.filterMap q_lk) : w ∈ lw_tbl := by
  obtain ⟨q, -, hq⟩ := List.mem_filterMap.mp h
  have hm : w ∈ q_tl q.1 := List.mem_of_getElem? hq
  unfold lw_tbl tables_1
  simp only [List.mem_append]
  unfold q_tl at hm
  split at hm <;> first | exact Or.inl hm | exact Or.inr (Or.inl hm) | exact Or.inr (Or.inr (Or.inl hm)) | exact Or.inr (Or.inr (Or.inr (Or.inl hm))) | exact Or.inr (Or.inr (Or.inr (Or.inr (Or.inl hm)))) | exact Or.inr (Or.inr (Or.inr (Or.inr (Or.inr hm)))) | cases hm
theorem q_memG {w : Cond} {ps : List (Nat × Nat)} (h : w ∈ ps.filterMap q_lk) (hg : goodWord w = true) : w ∈ q_G := List.mem_filter.mpr ⟨q_mem_lk h, hg⟩
theorem q_FLg {q : Nat × (Nat × (Nat × Nat × Bool × Nat))} (h : q ∈ q_FL) : Cond.fieldLink (q_R q.1) q.2.1 ((q_cl q.2.2.1).2.1 q.2.2.2.1).1 ((q_cl q.2.2.1).2.1 q.2.2.2.1).2.1 ((q_cl q.2.2.1).2.1 q.2.2.2.1).2.2.1 ∈ q_G := by
  refine q_memG (ps := q_pF) ?_ rfl
  rw [← q_FLw]
  exact List.mem_map.mpr ⟨q, h, rfl⟩
theorem q_lay_good {C : String} {T : u_T} {k : Nat} : goodWord (u_lay C T k) = true := by
  unfold u_lay
  split <;> rfl
theorem q_UWg {ci : Nat} (h : ci < 10) : ∀ w ∈ u_ws (q_cl ci).1 (q_cl ci).2.1 (q_cl ci).2.2, w ∈ q_G := by
  intro w hw
  have h1 : w ∈ (List.range 10).flatMap (fun ci => u_ws (q_cl ci).1 (q_cl ci).2.1 (q_cl ci).2.2) := List.mem_flatMap.mpr ⟨ci, List.mem_range.mpr h, hw⟩
  rw [q_UWw] at h1
  refine q_memG h1 ?_
  unfold u_ws at hw
  obtain ⟨k, -, rfl⟩ := List.mem_map.mp hw
  exact q_lay_good
theorem q_mdlen : q_md.length = 149 := by decide +kernel
theorem q_mm {j : Nat} (h : j < 149) : q_m j ∈ q_md := by
  unfold q_m
  have h1 : Nat.ble 149 j = false := by
    cases hh : Nat.ble 149 j with
    | false => rfl
    | true => exact absurd (Nat.le_of_ble_eq_true hh) (by omega)
  rw [h1]
  show q_md.getD j q_dd ∈ q_md
  rw [List.getD_eq_getElem?_getD, List.getElem?_eq_getElem (by rw [q_mdlen]; exact h)]
  exact List.getElem_mem _
theorem q_Cg {j : Nat} (h : j < 149) : Cond.code (q_y j) (q_b j) (q_ml j) (q_rt j) ∈ q_G := by
  refine q_memG (ps := q_pC) ?_ rfl
  rw [← q_Cw]
  exact List.mem_map.mpr ⟨q_m j, q_mm h, rfl⟩
theorem q_Ig {n : Nat} (h : n < 10) : Cond.initialized (q_R n) ∈ q_G := by
  refine q_memG (ps := q_pI) ?_ rfl
  rw [← q_Iw]
  exact List.mem_map.mpr ⟨n, List.mem_range.mpr h, rfl⟩
theorem q_Mgs {j : Nat} (h : j < 149) (hk : q_kind j = 1) : Cond.static (q_y j) ∈ q_G := by
  refine q_memG (ps := q_pM) ?_ rfl
  rw [← q_Mw]
  refine List.mem_map.mpr ⟨q_m j, q_mm h, ?_⟩
  have hk : (q_m j).2.2.2.2.2.1 = 1 := hk
  rw [hk]
  rfl
theorem q_Mgi {j : Nat} (h : j < 149) (hk : ¬ q_kind j = 1) : Cond.instanceMethod (q_y j) ∈ q_G := by
  refine q_memG (ps := q_pM) ?_ rfl
  rw [← q_Mw]
  refine List.mem_map.mpr ⟨q_m j, q_mm h, ?_⟩
  have hk : ¬ (q_m j).2.2.2.2.2.1 = 1 := hk
  split
  · rename_i hh
    exact absurd hh hk
  · rfl
theorem q_Sg {j : Nat} (h : j < 149) (hk : q_kind j = 0) : Cond.selects (q_R (q_own j)) (q_y j) (q_y j) ∈ q_G := by
  refine q_memG (ps := q_pS) ?_ rfl
  rw [← q_Sw]
  refine List.mem_map.mpr ⟨q_m j, List.mem_filter.mpr ⟨q_mm h, ?_⟩, rfl⟩
  have hk : (q_m j).2.2.2.2.2.1 = 0 := hk
  rw [hk]
  rfl
theorem q_CLg {q : Nat × (Nat × (Nat × Nat × Nat))} (h : q ∈ q_CL) (hj : q.2.2.1 < 149) : Cond.methodLink (q_R q.1) q.2.1 (q_y q.2.2.1) ∈ q_G := by
  refine q_memG (ps := q_pL) ?_ rfl
  rw [← q_CLw]
  exact List.mem_map.mpr ⟨q, List.mem_filter.mpr ⟨h, Nat.ble_eq_true_of_le (by omega)⟩, rfl⟩
theorem q_desc {j : Nat} (h : j < 149) : (parseMethodDescriptor (q_y j).desc).map (fun d => d.parameters.length) = some (q_na j) := by
  have h1 : ((q_y j).desc, q_na j) ∈ q_md.map (fun q => (q.1.desc, q.2.2.2.2.2.2.1)) := List.mem_map.mpr ⟨q_m j, q_mm h, rfl⟩
  rw [q_dsw] at h1
  obtain ⟨i, -, hi⟩ := List.mem_filterMap.mp h1
  exact of_decide_eq_true (List.all_eq_true.mp q_dsok _ (List.mem_of_getElem? hi))
theorem q_ycls {j : Nat} (h : j < 149) : (q_y j).cls = q_R (q_own j) := by
  have key : ∀ q ∈ q_md, q.1.cls = q_R q.2.2.2.2.1 := by
    have := List.map_inj_left.mp q_clsw
    exact this
  exact key _ (q_mm h)
theorem q_own_lt {j : Nat} (h : j < 149) : q_own j < 10 := by
  have h1 := q_nums
  rw [Bool.and_eq_true] at h1
  have := List.all_eq_true.mp h1.1 _ (q_mm h)
  exact Nat.lt_of_le_of_lt (Nat.le_of_ble_eq_true this) (by omega)
theorem q_yplain {j : Nat} (h : j < 149) : plainName (q_y j).cls = true := by
  rw [q_ycls h]
  exact List.all_eq_true.mp q_plain _ (List.mem_range.mpr (q_own_lt h))
theorem q_nothandle : (List.range 10).all (fun n => decide (q_R n ≠ "java/lang/invoke/MethodHandle") && decide (q_R n ≠ "java/lang/invoke/VarHandle")) = true := by decide +kernel
theorem q_ynh {j : Nat} (h : j < 149) : (q_y j).cls ≠ "java/lang/invoke/MethodHandle" ∧ (q_y j).cls ≠ "java/lang/invoke/VarHandle" := by
  rw [q_ycls h]
  have h1 := List.all_eq_true.mp q_nothandle _ (List.mem_range.mpr (q_own_lt h))
  rw [Bool.and_eq_true] at h1
  exact ⟨of_decide_eq_true h1.1, of_decide_eq_true h1.2⟩
def q_FLc (q : Nat × (Nat × (Nat × Nat × Bool × Nat))) : Bool :=
  let ci := q.2.2.1
  let k := q.2.2.2.1
  let t := (q_cl ci).2.1 k
  decide (ci < 10) && (decide (k < (q_cl ci).2.2) && ((t.2.2.2 == q.2.2.2.2.1) && (decide (q.2.2.2.2.2 = 4) || decide (parseFieldDescriptor t.2.2.1 = some (q_tyc q.2.2.2.2.2)))))
theorem q_FLn : q_FL.all q_FLc = true := by decide +kernel
theorem q_FLi {own idx ci k ty : Nat} {fin : Bool} (h : (own, idx, ci, k, fin, ty) ∈ q_FL) : ci < 10 ∧ k < (q_cl ci).2.2 ∧ ((q_cl ci).2.1 k).2.2.2 = fin ∧ (ty = 4 ∨ parseFieldDescriptor ((q_cl ci).2.1 k).2.2.1 = some (q_tyc ty)) := by
  have h1 := List.all_eq_true.mp q_FLn _ h
  unfold q_FLc at h1
  simp only [Bool.and_eq_true, Bool.or_eq_true, decide_eq_true_eq, beq_iff_eq] at h1
  exact h1
theorem q_tyok : (List.range 10).all (fun ci => (List.range (q_cl ci).2.2).all fun k => (parseFieldDescriptor ((q_cl ci).2.1 k).2.2.1).isSome) = true := by decide +kernel
def q_ty0 (ci k : Nat) : FieldType := (parseFieldDescriptor ((q_cl ci).2.1 k).2.2.1).getD .int
theorem q_ty0_ok {ci : Nat} (h : ci < 10) : ∀ k, k < (q_cl ci).2.2 → parseFieldDescriptor ((q_cl ci).2.1 k).2.2.1 = some (q_ty0 ci k) := by
  intro k hk
  have h1 := List.all_eq_true.mp (List.all_eq_true.mp q_tyok ci (List.mem_range.mpr h)) k (List.mem_range.mpr hk)
  unfold q_ty0
  cases hp : parseFieldDescriptor ((q_cl ci).2.1 k).2.2.1 with
  | none => rw [hp] at h1; cases h1
  | some t => rfl
theorem q_nm {ci : Nat} (h : ci < 10) : ∀ a, a < (q_cl ci).2.2 → ∀ b, b < (q_cl ci).2.2 → a ≠ b → ((q_cl ci).2.1 a).2.1 ≠ ((q_cl ci).2.1 b).2.1 := by
  match ci, h with
  | 0, _ => exact nmX0
  | 1, _ => exact nmX1
  | 2, _ => exact nmX2
  | 3, _ => exact nmX0
  | 4, _ => exact nmX4
  | 5, _ => exact nmX5
  | 6, _ => exact nmX6
  | 7, _ => exact nmX7
  | 8, _ => exact nmX8
  | 9, _ => exact nmX0
  | n + 10, h => omega
theorem q_clat {ci : Nat} (h : ci < 10) : vwCl[ci]? = some ((q_cl ci).1, (q_cl ci).2.1, (q_cl ci).2.2) := by
  match ci, h with
  | 0, _ => rfl
  | 1, _ => rfl
  | 2, _ => rfl
  | 3, _ => rfl
  | 4, _ => rfl
  | 5, _ => rfl
  | 6, _ => rfl
  | 7, _ => rfl
  | 8, _ => rfl
  | 9, _ => rfl
  | n + 10, h => omega
theorem q_own_lt8 {j : Nat} (h : j < 145) : q_own j < 9 := Nat.lt_succ_of_le (Nat.le_of_ble_eq_true (List.all_eq_true.mp q_own8 j (List.mem_range.mpr h)))
