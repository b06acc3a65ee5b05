-- CONSTRUCTORS: THEIR CONTRACTS
def k_run (own rfr rlo rz rsl : Nat) (res : Nat → Option (List K_E × (Nat × Nat))) (T : Q_T) (R : List K_E) : Nat → Nat → Nat → Nat → List (Nat × K_V) → List K_V → List K_E → Bool
  | 0, _, _, _, _, _, _ => false
  | n + 1, z, sl, pc, ls, st, E => match q_at T pc with
    | some (ins, nx, tg) => match ins with
      | .return_ => st.isEmpty && (k_leq k_eeq E R && (Nat.ble z rz && Nat.ble sl rsl))
      | ins => k_stp own rfr rlo rz rsl true res ins nx tg z sl ls st E (k_run own rfr rlo rz rsl res T R n)
    | none => false
def k_good (l : Launch) (res : Nat → Option (List K_E × (Nat × Nat))) : Prop := ∀ j r, res j = some r → k_Ct l j r ∧ j < 149 ∧ q_kind j = 2 ∧ q_na j = 0 ∧ q_rt j = none ∧ (q_y j).name = "<init>"
theorem k_meth {l : Launch} {j mc ms : Nat} {T : Q_T} {R : List K_E} {res : Nat → Option (List K_E × (Nat × Nat))} {n : Nat} (hj : j < 149) (hrt : q_rt j = none) (hname : (q_y j).name = "<init>") (hml1 : 1 ≤ q_ml j) (hT : q_chk (q_own j) (q_ml j) (q_fr j) (q_lo j) (q_b j) T = true) (hres : k_good l res) (hrun : k_run (q_own j) (q_fr j) (q_lo j) mc ms res T R n 0 0 0 [(0, .inr (.inl (some 0)))] [] [.inl (q_own j, k_df (q_own j))] = true) : k_Ct l j (R, (mc, ms)) := by
  intro D cs h0 sz
  refine Met.ofW (cc := q_b j) (maxL := q_ml j) (ret := none) (q_yplain hj) (by show q_ws j = _; unfold q_ws; rw [hrt]) ?_
  intro p e s m args below meth c s₁ B hml hv
  obtain ⟨rfl, hsz, hP, hK, hD0, hAO⟩ := hv
  have hx := B.exec
  have hb := B.bytes
  have hr := B.returns
  have hlocks := B.notSynchronized
  have hts0 := atoms_spec (ws := q_ws j) B.pre
  have hts : ∀ w ∈ q_G, w.before ([Value.ref h0].toArray) s = true := fun w hw => hts0 w (List.mem_cons_of_mem _ hw)
  have hown : s.vm.findClass (q_R (q_own j)) = some m.cls := by
    rw [← q_ycls hj]
    exact findClass_of_methodNamed B.named
  have hin : meth.name = "<init>" := (name_of_methodNamed B.named B.method).1.trans hname
  subst hsz
  have hD := hD0.self (sz := s.heap.size)
  have hA : ∀ q : Nat, s.heap.size ≤ q → va_A (k_W0 cs (q_own j) h0) s.heap.size q := fun q h => Or.inr h
  have hS : va_S (va_A (k_W0 cs (q_own j) h0) s.heap.size) s.heap s.heap [] := va_S.rf
  have hl := lv_entry ([.ref h0]) (n := q_ml j) hml1
  rw [lg_entry_eq]
  generalize (lg_sl ([.ref h0]) ++ List.replicate (q_ml j - (lg_sl ([.ref h0])).length) Slot.unset).toArray = lsA at hl ⊢
  have key : ∀ (n z sl pc : Nat) (ls : List (Nat × K_V)) (st : List K_V) (E : List K_E), k_run (q_own j) (q_fr j) (q_lo j) mc ms res T R n z sl pc ls st E = true → k_Zd p l e { frames := q_fr j, cells := mc, slots := ms, locals := q_lo j } s m [Value.ref h0].toArray below meth c (MQ below (va_Qv (fun ads : Nat → Nat => ads 0 = h0) (fun ads t => va_P D vwCl (k_W cs ads R) t.heap ∧ va_D (va_A (k_W0 cs (q_own j) h0) s.heap.size) (k_W cs ads R)) (va_A (k_W0 cs (q_own j) h0) s.heap.size)) [Value.ref h0].toArray s mc ms (va_A (k_W0 cs (q_own j) h0) s.heap.size)) (q_ml j) D cs (va_A (k_W0 cs (q_own j) h0) s.heap.size) (some h0) [] z sl pc ls st E := by
    intro n
    induction n with
    | zero =>
      intro z sl pc ls st E h
      cases h
    | succ n ih =>
      intro z sl pc ls st E h
      unfold k_run at h
      split at h
      · rename_i ins nx tg hat
        have hq := List.all_eq_true.mp hT _ (q_at_mem hat)
        simp only [Bool.and_eq_true, decide_eq_true_eq] at hq
        obtain ⟨hd1, hd2, hd3⟩ := hq
        split at h
        · simp only [Bool.and_eq_true] at h
          obtain ⟨f1, f2, f3, f4⟩ := h
          have f2 := k_leq_ok (fun _ _ => k_eeq_ok) f2
          subst f2
          have f3 := Nat.le_of_ble_eq_true f3
          have f4 := Nat.le_of_ble_eq_true f4
          have f1 : st = [] := List.isEmpty_iff.mp f1
          subst f1
          intro ads H locs lsA g1 g2 g3 g4 hl
          refine W.widen f3 f4 ?_
          exact W.vret hx hb (by rw [hr]) (fun t ht hW => ⟨⟨ads, rfl, (g1 h0 rfl).1, by rw [ht]; exact g2, g3⟩, g4.F ht⟩) g4.2.2 hd1 hlocks
        · exact k_step (xl := []) (fun _ h => absurd h List.not_mem_nil) hx hb hml hown hts hK hA hAO (ini := true) (fun _ => hin) hres hd1 (Nat.eq_of_beq_eq_true hd2) hd3 (fun z sl pc ls st E g => ih z sl pc ls st E g) h
      · cases h
  exact key n 0 0 0 _ _ _ hrun (fun _ => h0) s.heap [] lsA (fun a ha => ⟨by cases ha; rfl, Nat.zero_lt_one⟩) hP hD hS hl
def k_r0 : Nat → Option (List K_E × (Nat × Nat)) := fun _ => none
theorem k_g0 {l : Launch} : k_good l k_r0 := fun _ _ h => nomatch h
theorem kX0_init : q_chk (q_own 0) (q_ml 0) (q_fr 0) (q_lo 0) (q_b 0) TX0_init = true := by decide +kernel
def k_R0 : List K_E := [
  .inl (0, [.inl 0, .inr (.inl (some 1)), .inl 0, .inl 0, .inl 0, .inl 0, .inl 0, .inl 0]),
  .inr ((1, 5), .inl [])]
set_option maxRecDepth 100000 in
theorem k_C0 {l : Launch} : k_Ct l 0 (k_R0, (1, 5)) := k_meth (n := 12) (T := TX0_init) (res := k_r0) (by decide) rfl rfl (by decide) kX0_init k_g0 (by decide +kernel)
def k_r1 : Nat → Option (List K_E × (Nat × Nat)) := fun j => if j = 0 then some (k_R0, (1, 5)) else k_r0 j
theorem k_g1 {l : Launch} : k_good l k_r1 := by
  intro j r h
  unfold k_r1 at h
  split at h
  · rename_i e
    subst e
    cases h
    exact ⟨k_C0, by decide, rfl, rfl, rfl, rfl⟩
  · exact k_g0 j r h
theorem kX1_init : q_chk (q_own 4) (q_ml 4) (q_fr 4) (q_lo 4) (q_b 4) TX1_init = true := by decide +kernel
def k_R1 : List K_E := [
  .inl (1, [.inl 0, .inl 0, .inl 0, .inl (-1), .inl 0, .inl 0, .inl 0, .inl 0, .inr (.inl (some 1))]),
  .inr ((1, 4), .inl [])]
set_option maxRecDepth 100000 in
theorem k_C1 {l : Launch} : k_Ct l 4 (k_R1, (1, 4)) := k_meth (n := 15) (T := TX1_init) (res := k_r1) (by decide) rfl rfl (by decide) kX1_init k_g1 (by decide +kernel)
def k_r2 : Nat → Option (List K_E × (Nat × Nat)) := fun j => if j = 4 then some (k_R1, (1, 4)) else k_r1 j
theorem k_g2 {l : Launch} : k_good l k_r2 := by
  intro j r h
  unfold k_r2 at h
  split at h
  · rename_i e
    subst e
    cases h
    exact ⟨k_C1, by decide, rfl, rfl, rfl, rfl⟩
  · exact k_g1 j r h
theorem kX2_init : q_chk (q_own 10) (q_ml 10) (q_fr 10) (q_lo 10) (q_b 10) TX2_init = true := by decide +kernel
def k_R2 : List K_E := [
  .inl (2, [.inl 0, .inr (.inl (some 1)), .inl 0, .inr (.inl (some 2)), .inr (.inl (some 3)), .inr (.inl (some 4)), .inl 0, .inl 0, .inl 0, .inl 0, .inl 0]),
  .inr ((1, 60), .inl []),
  .inr ((1, 60), .inl []),
  .inr ((1, 60), .inl []),
  .inr ((1, 60), .inl [])]
set_option maxRecDepth 100000 in
theorem k_C2 {l : Launch} : k_Ct l 10 (k_R2, (4, 240)) := k_meth (n := 24) (T := TX2_init) (res := k_r2) (by decide) rfl rfl (by decide) kX2_init k_g2 (by decide +kernel)
def k_r3 : Nat → Option (List K_E × (Nat × Nat)) := fun j => if j = 10 then some (k_R2, (4, 240)) else k_r2 j
theorem k_g3 {l : Launch} : k_good l k_r3 := by
  intro j r h
  unfold k_r3 at h
  split at h
  · rename_i e
    subst e
    cases h
    exact ⟨k_C2, by decide, rfl, rfl, rfl, rfl⟩
  · exact k_g2 j r h
theorem kX5_init : q_chk (q_own 29) (q_ml 29) (q_fr 29) (q_lo 29) (q_b 29) TX5_init = true := by decide +kernel
def k_R5 : List K_E := [
  .inl (5, [.inl 0, .inr (.inl (some 1)), .inr (.inl (some 2)), .inr (.inl (some 3))]),
  .inr ((1, 20), .inl []),
  .inr ((1, 20), .inl []),
  .inr ((1, 20), .inl [])]
set_option maxRecDepth 100000 in
theorem k_C5 {l : Launch} : k_Ct l 29 (k_R5, (3, 60)) := k_meth (n := 20) (T := TX5_init) (res := k_r3) (by decide) rfl rfl (by decide) kX5_init k_g3 (by decide +kernel)
def k_r4 : Nat → Option (List K_E × (Nat × Nat)) := fun j => if j = 29 then some (k_R5, (3, 60)) else k_r3 j
theorem k_g4 {l : Launch} : k_good l k_r4 := by
  intro j r h
  unfold k_r4 at h
  split at h
  · rename_i e
    subst e
    cases h
    exact ⟨k_C5, by decide, rfl, rfl, rfl, rfl⟩
  · exact k_g3 j r h
theorem kX6_init : q_chk (q_own 34) (q_ml 34) (q_fr 34) (q_lo 34) (q_b 34) TX6_init = true := by decide +kernel
def k_R6 : List K_E := [
  .inl (6, [.inl 8, .inl 0, .inl 200, .inl 60, .inl 40, .inl 20, .inl 1])]
set_option maxRecDepth 100000 in
theorem k_C6 {l : Launch} : k_Ct l 34 (k_R6, (0, 0)) := k_meth (n := 29) (T := TX6_init) (res := k_r4) (by decide) rfl rfl (by decide) kX6_init k_g4 (by decide +kernel)
def k_r5 : Nat → Option (List K_E × (Nat × Nat)) := fun j => if j = 34 then some (k_R6, (0, 0)) else k_r4 j
theorem k_g5 {l : Launch} : k_good l k_r5 := by
  intro j r h
  unfold k_r5 at h
  split at h
  · rename_i e
    subst e
    cases h
    exact ⟨k_C6, by decide, rfl, rfl, rfl, rfl⟩
  · exact k_g4 j r h
theorem kX7_init : q_chk (q_own 36) (q_ml 36) (q_fr 36) (q_lo 36) (q_b 36) TX7_init = true := by decide +kernel
def k_R7 : List K_E := [
  .inl (7, [.inl 0, .inl 0, .inl 0, .inr (.inl (some 1)), .inr (.inl (some 26)), .inr (.inl (some 30)), .inr (.inl (some 31))]),
  .inr ((3, 12), .inr (.inl [(11, 24), (10, 22), (9, 20), (8, 18), (7, 16), (6, 14), (5, 12), (4, 10), (3, 8), (2, 6), (1, 4), (0, 2)])),
  .inl (1, [.inl 0, .inl 0, .inl 0, .inl (-1), .inl 0, .inl 0, .inl 0, .inl 0, .inr (.inl (some 3))]),
  .inr ((1, 4), .inl []),
  .inl (1, [.inl 0, .inl 0, .inl 0, .inl (-1), .inl 0, .inl 0, .inl 0, .inl 0, .inr (.inl (some 5))]),
  .inr ((1, 4), .inl []),
  .inl (1, [.inl 0, .inl 0, .inl 0, .inl (-1), .inl 0, .inl 0, .inl 0, .inl 0, .inr (.inl (some 7))]),
  .inr ((1, 4), .inl []),
  .inl (1, [.inl 0, .inl 0, .inl 0, .inl (-1), .inl 0, .inl 0, .inl 0, .inl 0, .inr (.inl (some 9))]),
  .inr ((1, 4), .inl []),
  .inl (1, [.inl 0, .inl 0, .inl 0, .inl (-1), .inl 0, .inl 0, .inl 0, .inl 0, .inr (.inl (some 11))]),
  .inr ((1, 4), .inl []),
  .inl (1, [.inl 0, .inl 0, .inl 0, .inl (-1), .inl 0, .inl 0, .inl 0, .inl 0, .inr (.inl (some 13))]),
  .inr ((1, 4), .inl []),
  .inl (1, [.inl 0, .inl 0, .inl 0, .inl (-1), .inl 0, .inl 0, .inl 0, .inl 0, .inr (.inl (some 15))]),
  .inr ((1, 4), .inl []),
  .inl (1, [.inl 0, .inl 0, .inl 0, .inl (-1), .inl 0, .inl 0, .inl 0, .inl 0, .inr (.inl (some 17))]),
  .inr ((1, 4), .inl []),
  .inl (1, [.inl 0, .inl 0, .inl 0, .inl (-1), .inl 0, .inl 0, .inl 0, .inl 0, .inr (.inl (some 19))]),
  .inr ((1, 4), .inl []),
  .inl (1, [.inl 0, .inl 0, .inl 0, .inl (-1), .inl 0, .inl 0, .inl 0, .inl 0, .inr (.inl (some 21))]),
  .inr ((1, 4), .inl []),
  .inl (1, [.inl 0, .inl 0, .inl 0, .inl (-1), .inl 0, .inl 0, .inl 0, .inl 0, .inr (.inl (some 23))]),
  .inr ((1, 4), .inl []),
  .inl (1, [.inl 0, .inl 0, .inl 0, .inl (-1), .inl 0, .inl 0, .inl 0, .inl 0, .inr (.inl (some 25))]),
  .inr ((1, 4), .inl []),
  .inl (5, [.inl 0, .inr (.inl (some 27)), .inr (.inl (some 28)), .inr (.inl (some 29))]),
  .inr ((1, 20), .inl []),
  .inr ((1, 20), .inl []),
  .inr ((1, 20), .inl []),
  .inl (6, [.inl 8, .inl 0, .inl 200, .inl 60, .inl 40, .inl 20, .inl 1]),
  .inl (0, [.inl 0, .inr (.inl (some 32)), .inl 0, .inl 0, .inl 0, .inl 0, .inl 0, .inl 0]),
  .inr ((1, 5), .inl [])]
set_option maxRecDepth 100000 in
theorem k_C7 {l : Launch} : k_Ct l 36 (k_R7, (32, 252)) := k_meth (n := 176) (T := TX7_init) (res := k_r5) (by decide) rfl rfl (by decide) kX7_init k_g5 (by decide +kernel)
def k_r6 : Nat → Option (List K_E × (Nat × Nat)) := fun j => if j = 36 then some (k_R7, (32, 252)) else k_r5 j
theorem k_g6 {l : Launch} : k_good l k_r6 := by
  intro j r h
  unfold k_r6 at h
  split at h
  · rename_i e
    subst e
    cases h
    exact ⟨k_C7, by decide, rfl, rfl, rfl, rfl⟩
  · exact k_g5 j r h
theorem kX4_init : q_chk (q_own 25) (q_ml 25) (q_fr 25) (q_lo 25) (q_b 25) TX4_init = true := by decide +kernel
def k_R4 : List K_E := [
  .inl (4, [.inl 0, .inr (.inl (some 1))]),
  .inr ((4, 6), .inr (.inl [(5, 167), (4, 134), (3, 101), (2, 68), (1, 35), (0, 2)])),
  .inl (7, [.inl 0, .inl 0, .inl 0, .inr (.inl (some 3)), .inr (.inl (some 28)), .inr (.inl (some 32)), .inr (.inl (some 33))]),
  .inr ((3, 12), .inr (.inl [(11, 26), (10, 24), (9, 22), (8, 20), (7, 18), (6, 16), (5, 14), (4, 12), (3, 10), (2, 8), (1, 6), (0, 4)])),
  .inl (1, [.inl 0, .inl 0, .inl 0, .inl (-1), .inl 0, .inl 0, .inl 0, .inl 0, .inr (.inl (some 5))]),
  .inr ((1, 4), .inl []),
  .inl (1, [.inl 0, .inl 0, .inl 0, .inl (-1), .inl 0, .inl 0, .inl 0, .inl 0, .inr (.inl (some 7))]),
  .inr ((1, 4), .inl []),
  .inl (1, [.inl 0, .inl 0, .inl 0, .inl (-1), .inl 0, .inl 0, .inl 0, .inl 0, .inr (.inl (some 9))]),
  .inr ((1, 4), .inl []),
  .inl (1, [.inl 0, .inl 0, .inl 0, .inl (-1), .inl 0, .inl 0, .inl 0, .inl 0, .inr (.inl (some 11))]),
  .inr ((1, 4), .inl []),
  .inl (1, [.inl 0, .inl 0, .inl 0, .inl (-1), .inl 0, .inl 0, .inl 0, .inl 0, .inr (.inl (some 13))]),
  .inr ((1, 4), .inl []),
  .inl (1, [.inl 0, .inl 0, .inl 0, .inl (-1), .inl 0, .inl 0, .inl 0, .inl 0, .inr (.inl (some 15))]),
  .inr ((1, 4), .inl []),
  .inl (1, [.inl 0, .inl 0, .inl 0, .inl (-1), .inl 0, .inl 0, .inl 0, .inl 0, .inr (.inl (some 17))]),
  .inr ((1, 4), .inl []),
  .inl (1, [.inl 0, .inl 0, .inl 0, .inl (-1), .inl 0, .inl 0, .inl 0, .inl 0, .inr (.inl (some 19))]),
  .inr ((1, 4), .inl []),
  .inl (1, [.inl 0, .inl 0, .inl 0, .inl (-1), .inl 0, .inl 0, .inl 0, .inl 0, .inr (.inl (some 21))]),
  .inr ((1, 4), .inl []),
  .inl (1, [.inl 0, .inl 0, .inl 0, .inl (-1), .inl 0, .inl 0, .inl 0, .inl 0, .inr (.inl (some 23))]),
  .inr ((1, 4), .inl []),
  .inl (1, [.inl 0, .inl 0, .inl 0, .inl (-1), .inl 0, .inl 0, .inl 0, .inl 0, .inr (.inl (some 25))]),
  .inr ((1, 4), .inl []),
  .inl (1, [.inl 0, .inl 0, .inl 0, .inl (-1), .inl 0, .inl 0, .inl 0, .inl 0, .inr (.inl (some 27))]),
  .inr ((1, 4), .inl []),
  .inl (5, [.inl 0, .inr (.inl (some 29)), .inr (.inl (some 30)), .inr (.inl (some 31))]),
  .inr ((1, 20), .inl []),
  .inr ((1, 20), .inl []),
  .inr ((1, 20), .inl []),
  .inl (6, [.inl 8, .inl 0, .inl 200, .inl 60, .inl 40, .inl 20, .inl 1]),
  .inl (0, [.inl 0, .inr (.inl (some 34)), .inl 0, .inl 0, .inl 0, .inl 0, .inl 0, .inl 0]),
  .inr ((1, 5), .inl []),
  .inl (7, [.inl 0, .inl 0, .inl 0, .inr (.inl (some 36)), .inr (.inl (some 61)), .inr (.inl (some 65)), .inr (.inl (some 66))]),
  .inr ((3, 12), .inr (.inl [(11, 59), (10, 57), (9, 55), (8, 53), (7, 51), (6, 49), (5, 47), (4, 45), (3, 43), (2, 41), (1, 39), (0, 37)])),
  .inl (1, [.inl 0, .inl 0, .inl 0, .inl (-1), .inl 0, .inl 0, .inl 0, .inl 0, .inr (.inl (some 38))]),
  .inr ((1, 4), .inl []),
  .inl (1, [.inl 0, .inl 0, .inl 0, .inl (-1), .inl 0, .inl 0, .inl 0, .inl 0, .inr (.inl (some 40))]),
  .inr ((1, 4), .inl []),
  .inl (1, [.inl 0, .inl 0, .inl 0, .inl (-1), .inl 0, .inl 0, .inl 0, .inl 0, .inr (.inl (some 42))]),
  .inr ((1, 4), .inl []),
  .inl (1, [.inl 0, .inl 0, .inl 0, .inl (-1), .inl 0, .inl 0, .inl 0, .inl 0, .inr (.inl (some 44))]),
  .inr ((1, 4), .inl []),
  .inl (1, [.inl 0, .inl 0, .inl 0, .inl (-1), .inl 0, .inl 0, .inl 0, .inl 0, .inr (.inl (some 46))]),
  .inr ((1, 4), .inl []),
  .inl (1, [.inl 0, .inl 0, .inl 0, .inl (-1), .inl 0, .inl 0, .inl 0, .inl 0, .inr (.inl (some 48))]),
  .inr ((1, 4), .inl []),
  .inl (1, [.inl 0, .inl 0, .inl 0, .inl (-1), .inl 0, .inl 0, .inl 0, .inl 0, .inr (.inl (some 50))]),
  .inr ((1, 4), .inl []),
  .inl (1, [.inl 0, .inl 0, .inl 0, .inl (-1), .inl 0, .inl 0, .inl 0, .inl 0, .inr (.inl (some 52))]),
  .inr ((1, 4), .inl []),
  .inl (1, [.inl 0, .inl 0, .inl 0, .inl (-1), .inl 0, .inl 0, .inl 0, .inl 0, .inr (.inl (some 54))]),
  .inr ((1, 4), .inl []),
  .inl (1, [.inl 0, .inl 0, .inl 0, .inl (-1), .inl 0, .inl 0, .inl 0, .inl 0, .inr (.inl (some 56))]),
  .inr ((1, 4), .inl []),
  .inl (1, [.inl 0, .inl 0, .inl 0, .inl (-1), .inl 0, .inl 0, .inl 0, .inl 0, .inr (.inl (some 58))]),
  .inr ((1, 4), .inl []),
  .inl (1, [.inl 0, .inl 0, .inl 0, .inl (-1), .inl 0, .inl 0, .inl 0, .inl 0, .inr (.inl (some 60))]),
  .inr ((1, 4), .inl []),
  .inl (5, [.inl 0, .inr (.inl (some 62)), .inr (.inl (some 63)), .inr (.inl (some 64))]),
  .inr ((1, 20), .inl []),
  .inr ((1, 20), .inl []),
  .inr ((1, 20), .inl []),
  .inl (6, [.inl 8, .inl 0, .inl 200, .inl 60, .inl 40, .inl 20, .inl 1]),
  .inl (0, [.inl 0, .inr (.inl (some 67)), .inl 0, .inl 0, .inl 0, .inl 0, .inl 0, .inl 0]),
  .inr ((1, 5), .inl []),
  .inl (7, [.inl 0, .inl 0, .inl 0, .inr (.inl (some 69)), .inr (.inl (some 94)), .inr (.inl (some 98)), .inr (.inl (some 99))]),
  .inr ((3, 12), .inr (.inl [(11, 92), (10, 90), (9, 88), (8, 86), (7, 84), (6, 82), (5, 80), (4, 78), (3, 76), (2, 74), (1, 72), (0, 70)])),
  .inl (1, [.inl 0, .inl 0, .inl 0, .inl (-1), .inl 0, .inl 0, .inl 0, .inl 0, .inr (.inl (some 71))]),
  .inr ((1, 4), .inl []),
  .inl (1, [.inl 0, .inl 0, .inl 0, .inl (-1), .inl 0, .inl 0, .inl 0, .inl 0, .inr (.inl (some 73))]),
  .inr ((1, 4), .inl []),
  .inl (1, [.inl 0, .inl 0, .inl 0, .inl (-1), .inl 0, .inl 0, .inl 0, .inl 0, .inr (.inl (some 75))]),
  .inr ((1, 4), .inl []),
  .inl (1, [.inl 0, .inl 0, .inl 0, .inl (-1), .inl 0, .inl 0, .inl 0, .inl 0, .inr (.inl (some 77))]),
  .inr ((1, 4), .inl []),
  .inl (1, [.inl 0, .inl 0, .inl 0, .inl (-1), .inl 0, .inl 0, .inl 0, .inl 0, .inr (.inl (some 79))]),
  .inr ((1, 4), .inl []),
  .inl (1, [.inl 0, .inl 0, .inl 0, .inl (-1), .inl 0, .inl 0, .inl 0, .inl 0, .inr (.inl (some 81))]),
  .inr ((1, 4), .inl []),
  .inl (1, [.inl 0, .inl 0, .inl 0, .inl (-1), .inl 0, .inl 0, .inl 0, .inl 0, .inr (.inl (some 83))]),
  .inr ((1, 4), .inl []),
  .inl (1, [.inl 0, .inl 0, .inl 0, .inl (-1), .inl 0, .inl 0, .inl 0, .inl 0, .inr (.inl (some 85))]),
  .inr ((1, 4), .inl []),
  .inl (1, [.inl 0, .inl 0, .inl 0, .inl (-1), .inl 0, .inl 0, .inl 0, .inl 0, .inr (.inl (some 87))]),
  .inr ((1, 4), .inl []),
  .inl (1, [.inl 0, .inl 0, .inl 0, .inl (-1), .inl 0, .inl 0, .inl 0, .inl 0, .inr (.inl (some 89))]),
  .inr ((1, 4), .inl []),
  .inl (1, [.inl 0, .inl 0, .inl 0, .inl (-1), .inl 0, .inl 0, .inl 0, .inl 0, .inr (.inl (some 91))]),
  .inr ((1, 4), .inl []),
  .inl (1, [.inl 0, .inl 0, .inl 0, .inl (-1), .inl 0, .inl 0, .inl 0, .inl 0, .inr (.inl (some 93))]),
  .inr ((1, 4), .inl []),
  .inl (5, [.inl 0, .inr (.inl (some 95)), .inr (.inl (some 96)), .inr (.inl (some 97))]),
  .inr ((1, 20), .inl []),
  .inr ((1, 20), .inl []),
  .inr ((1, 20), .inl []),
  .inl (6, [.inl 8, .inl 0, .inl 200, .inl 60, .inl 40, .inl 20, .inl 1]),
  .inl (0, [.inl 0, .inr (.inl (some 100)), .inl 0, .inl 0, .inl 0, .inl 0, .inl 0, .inl 0]),
  .inr ((1, 5), .inl []),
  .inl (7, [.inl 0, .inl 0, .inl 0, .inr (.inl (some 102)), .inr (.inl (some 127)), .inr (.inl (some 131)), .inr (.inl (some 132))]),
  .inr ((3, 12), .inr (.inl [(11, 125), (10, 123), (9, 121), (8, 119), (7, 117), (6, 115), (5, 113), (4, 111), (3, 109), (2, 107), (1, 105), (0, 103)])),
  .inl (1, [.inl 0, .inl 0, .inl 0, .inl (-1), .inl 0, .inl 0, .inl 0, .inl 0, .inr (.inl (some 104))]),
  .inr ((1, 4), .inl []),
  .inl (1, [.inl 0, .inl 0, .inl 0, .inl (-1), .inl 0, .inl 0, .inl 0, .inl 0, .inr (.inl (some 106))]),
  .inr ((1, 4), .inl []),
  .inl (1, [.inl 0, .inl 0, .inl 0, .inl (-1), .inl 0, .inl 0, .inl 0, .inl 0, .inr (.inl (some 108))]),
  .inr ((1, 4), .inl []),
  .inl (1, [.inl 0, .inl 0, .inl 0, .inl (-1), .inl 0, .inl 0, .inl 0, .inl 0, .inr (.inl (some 110))]),
  .inr ((1, 4), .inl []),
  .inl (1, [.inl 0, .inl 0, .inl 0, .inl (-1), .inl 0, .inl 0, .inl 0, .inl 0, .inr (.inl (some 112))]),
  .inr ((1, 4), .inl []),
  .inl (1, [.inl 0, .inl 0, .inl 0, .inl (-1), .inl 0, .inl 0, .inl 0, .inl 0, .inr (.inl (some 114))]),
  .inr ((1, 4), .inl []),
  .inl (1, [.inl 0, .inl 0, .inl 0, .inl (-1), .inl 0, .inl 0, .inl 0, .inl 0, .inr (.inl (some 116))]),
  .inr ((1, 4), .inl []),
  .inl (1, [.inl 0, .inl 0, .inl 0, .inl (-1), .inl 0, .inl 0, .inl 0, .inl 0, .inr (.inl (some 118))]),
  .inr ((1, 4), .inl []),
  .inl (1, [.inl 0, .inl 0, .inl 0, .inl (-1), .inl 0, .inl 0, .inl 0, .inl 0, .inr (.inl (some 120))]),
  .inr ((1, 4), .inl []),
  .inl (1, [.inl 0, .inl 0, .inl 0, .inl (-1), .inl 0, .inl 0, .inl 0, .inl 0, .inr (.inl (some 122))]),
  .inr ((1, 4), .inl []),
  .inl (1, [.inl 0, .inl 0, .inl 0, .inl (-1), .inl 0, .inl 0, .inl 0, .inl 0, .inr (.inl (some 124))]),
  .inr ((1, 4), .inl []),
  .inl (1, [.inl 0, .inl 0, .inl 0, .inl (-1), .inl 0, .inl 0, .inl 0, .inl 0, .inr (.inl (some 126))]),
  .inr ((1, 4), .inl []),
  .inl (5, [.inl 0, .inr (.inl (some 128)), .inr (.inl (some 129)), .inr (.inl (some 130))]),
  .inr ((1, 20), .inl []),
  .inr ((1, 20), .inl []),
  .inr ((1, 20), .inl []),
  .inl (6, [.inl 8, .inl 0, .inl 200, .inl 60, .inl 40, .inl 20, .inl 1]),
  .inl (0, [.inl 0, .inr (.inl (some 133)), .inl 0, .inl 0, .inl 0, .inl 0, .inl 0, .inl 0]),
  .inr ((1, 5), .inl []),
  .inl (7, [.inl 0, .inl 0, .inl 0, .inr (.inl (some 135)), .inr (.inl (some 160)), .inr (.inl (some 164)), .inr (.inl (some 165))]),
  .inr ((3, 12), .inr (.inl [(11, 158), (10, 156), (9, 154), (8, 152), (7, 150), (6, 148), (5, 146), (4, 144), (3, 142), (2, 140), (1, 138), (0, 136)])),
  .inl (1, [.inl 0, .inl 0, .inl 0, .inl (-1), .inl 0, .inl 0, .inl 0, .inl 0, .inr (.inl (some 137))]),
  .inr ((1, 4), .inl []),
  .inl (1, [.inl 0, .inl 0, .inl 0, .inl (-1), .inl 0, .inl 0, .inl 0, .inl 0, .inr (.inl (some 139))]),
  .inr ((1, 4), .inl []),
  .inl (1, [.inl 0, .inl 0, .inl 0, .inl (-1), .inl 0, .inl 0, .inl 0, .inl 0, .inr (.inl (some 141))]),
  .inr ((1, 4), .inl []),
  .inl (1, [.inl 0, .inl 0, .inl 0, .inl (-1), .inl 0, .inl 0, .inl 0, .inl 0, .inr (.inl (some 143))]),
  .inr ((1, 4), .inl []),
  .inl (1, [.inl 0, .inl 0, .inl 0, .inl (-1), .inl 0, .inl 0, .inl 0, .inl 0, .inr (.inl (some 145))]),
  .inr ((1, 4), .inl []),
  .inl (1, [.inl 0, .inl 0, .inl 0, .inl (-1), .inl 0, .inl 0, .inl 0, .inl 0, .inr (.inl (some 147))]),
  .inr ((1, 4), .inl []),
  .inl (1, [.inl 0, .inl 0, .inl 0, .inl (-1), .inl 0, .inl 0, .inl 0, .inl 0, .inr (.inl (some 149))]),
  .inr ((1, 4), .inl []),
  .inl (1, [.inl 0, .inl 0, .inl 0, .inl (-1), .inl 0, .inl 0, .inl 0, .inl 0, .inr (.inl (some 151))]),
  .inr ((1, 4), .inl []),
  .inl (1, [.inl 0, .inl 0, .inl 0, .inl (-1), .inl 0, .inl 0, .inl 0, .inl 0, .inr (.inl (some 153))]),
  .inr ((1, 4), .inl []),
  .inl (1, [.inl 0, .inl 0, .inl 0, .inl (-1), .inl 0, .inl 0, .inl 0, .inl 0, .inr (.inl (some 155))]),
  .inr ((1, 4), .inl []),
  .inl (1, [.inl 0, .inl 0, .inl 0, .inl (-1), .inl 0, .inl 0, .inl 0, .inl 0, .inr (.inl (some 157))]),
  .inr ((1, 4), .inl []),
  .inl (1, [.inl 0, .inl 0, .inl 0, .inl (-1), .inl 0, .inl 0, .inl 0, .inl 0, .inr (.inl (some 159))]),
  .inr ((1, 4), .inl []),
  .inl (5, [.inl 0, .inr (.inl (some 161)), .inr (.inl (some 162)), .inr (.inl (some 163))]),
  .inr ((1, 20), .inl []),
  .inr ((1, 20), .inl []),
  .inr ((1, 20), .inl []),
  .inl (6, [.inl 8, .inl 0, .inl 200, .inl 60, .inl 40, .inl 20, .inl 1]),
  .inl (0, [.inl 0, .inr (.inl (some 166)), .inl 0, .inl 0, .inl 0, .inl 0, .inl 0, .inl 0]),
  .inr ((1, 5), .inl []),
  .inl (7, [.inl 0, .inl 0, .inl 0, .inr (.inl (some 168)), .inr (.inl (some 193)), .inr (.inl (some 197)), .inr (.inl (some 198))]),
  .inr ((3, 12), .inr (.inl [(11, 191), (10, 189), (9, 187), (8, 185), (7, 183), (6, 181), (5, 179), (4, 177), (3, 175), (2, 173), (1, 171), (0, 169)])),
  .inl (1, [.inl 0, .inl 0, .inl 0, .inl (-1), .inl 0, .inl 0, .inl 0, .inl 0, .inr (.inl (some 170))]),
  .inr ((1, 4), .inl []),
  .inl (1, [.inl 0, .inl 0, .inl 0, .inl (-1), .inl 0, .inl 0, .inl 0, .inl 0, .inr (.inl (some 172))]),
  .inr ((1, 4), .inl []),
  .inl (1, [.inl 0, .inl 0, .inl 0, .inl (-1), .inl 0, .inl 0, .inl 0, .inl 0, .inr (.inl (some 174))]),
  .inr ((1, 4), .inl []),
  .inl (1, [.inl 0, .inl 0, .inl 0, .inl (-1), .inl 0, .inl 0, .inl 0, .inl 0, .inr (.inl (some 176))]),
  .inr ((1, 4), .inl []),
  .inl (1, [.inl 0, .inl 0, .inl 0, .inl (-1), .inl 0, .inl 0, .inl 0, .inl 0, .inr (.inl (some 178))]),
  .inr ((1, 4), .inl []),
  .inl (1, [.inl 0, .inl 0, .inl 0, .inl (-1), .inl 0, .inl 0, .inl 0, .inl 0, .inr (.inl (some 180))]),
  .inr ((1, 4), .inl []),
  .inl (1, [.inl 0, .inl 0, .inl 0, .inl (-1), .inl 0, .inl 0, .inl 0, .inl 0, .inr (.inl (some 182))]),
  .inr ((1, 4), .inl []),
  .inl (1, [.inl 0, .inl 0, .inl 0, .inl (-1), .inl 0, .inl 0, .inl 0, .inl 0, .inr (.inl (some 184))]),
  .inr ((1, 4), .inl []),
  .inl (1, [.inl 0, .inl 0, .inl 0, .inl (-1), .inl 0, .inl 0, .inl 0, .inl 0, .inr (.inl (some 186))]),
  .inr ((1, 4), .inl []),
  .inl (1, [.inl 0, .inl 0, .inl 0, .inl (-1), .inl 0, .inl 0, .inl 0, .inl 0, .inr (.inl (some 188))]),
  .inr ((1, 4), .inl []),
  .inl (1, [.inl 0, .inl 0, .inl 0, .inl (-1), .inl 0, .inl 0, .inl 0, .inl 0, .inr (.inl (some 190))]),
  .inr ((1, 4), .inl []),
  .inl (1, [.inl 0, .inl 0, .inl 0, .inl (-1), .inl 0, .inl 0, .inl 0, .inl 0, .inr (.inl (some 192))]),
  .inr ((1, 4), .inl []),
  .inl (5, [.inl 0, .inr (.inl (some 194)), .inr (.inl (some 195)), .inr (.inl (some 196))]),
  .inr ((1, 20), .inl []),
  .inr ((1, 20), .inl []),
  .inr ((1, 20), .inl []),
  .inl (6, [.inl 8, .inl 0, .inl 200, .inl 60, .inl 40, .inl 20, .inl 1]),
  .inl (0, [.inl 0, .inr (.inl (some 199)), .inl 0, .inl 0, .inl 0, .inl 0, .inl 0, .inl 0]),
  .inr ((1, 5), .inl [])]
set_option maxRecDepth 100000 in
theorem k_C4 {l : Launch} : k_Ct l 25 (k_R4, (199, 1560)) := k_meth (n := 89) (T := TX4_init) (res := k_r6) (by decide) rfl rfl (by decide) kX4_init k_g6 (by decide +kernel)
def k_r7 : Nat → Option (List K_E × (Nat × Nat)) := fun j => if j = 25 then some (k_R4, (199, 1560)) else k_r6 j
theorem k_g7 {l : Launch} : k_good l k_r7 := by
  intro j r h
  unfold k_r7 at h
  split at h
  · rename_i e
    subst e
    cases h
    exact ⟨k_C4, by decide, rfl, rfl, rfl, rfl⟩
  · exact k_g6 j r h
theorem kX8_init : q_chk (q_own 66) (q_ml 66) (q_fr 66) (q_lo 66) (q_b 66) TX8_init = true := by decide +kernel
def k_R8 : List K_E := [
  .inl (8, [.inr (.inl (some 1)), .inr (.inl (some 34)), .inr (.inl (some 67)), .inr (.inl (some 134)), .inr (.inl (some 135)), .inr (.inl (some 335))]),
  .inl (7, [.inl 0, .inl 0, .inl 0, .inr (.inl (some 2)), .inr (.inl (some 27)), .inr (.inl (some 31)), .inr (.inl (some 32))]),
  .inr ((3, 12), .inr (.inl [(11, 25), (10, 23), (9, 21), (8, 19), (7, 17), (6, 15), (5, 13), (4, 11), (3, 9), (2, 7), (1, 5), (0, 3)])),
  .inl (1, [.inl 0, .inl 0, .inl 0, .inl (-1), .inl 0, .inl 0, .inl 0, .inl 0, .inr (.inl (some 4))]),
  .inr ((1, 4), .inl []),
  .inl (1, [.inl 0, .inl 0, .inl 0, .inl (-1), .inl 0, .inl 0, .inl 0, .inl 0, .inr (.inl (some 6))]),
  .inr ((1, 4), .inl []),
  .inl (1, [.inl 0, .inl 0, .inl 0, .inl (-1), .inl 0, .inl 0, .inl 0, .inl 0, .inr (.inl (some 8))]),
  .inr ((1, 4), .inl []),
  .inl (1, [.inl 0, .inl 0, .inl 0, .inl (-1), .inl 0, .inl 0, .inl 0, .inl 0, .inr (.inl (some 10))]),
  .inr ((1, 4), .inl []),
  .inl (1, [.inl 0, .inl 0, .inl 0, .inl (-1), .inl 0, .inl 0, .inl 0, .inl 0, .inr (.inl (some 12))]),
  .inr ((1, 4), .inl []),
  .inl (1, [.inl 0, .inl 0, .inl 0, .inl (-1), .inl 0, .inl 0, .inl 0, .inl 0, .inr (.inl (some 14))]),
  .inr ((1, 4), .inl []),
  .inl (1, [.inl 0, .inl 0, .inl 0, .inl (-1), .inl 0, .inl 0, .inl 0, .inl 0, .inr (.inl (some 16))]),
  .inr ((1, 4), .inl []),
  .inl (1, [.inl 0, .inl 0, .inl 0, .inl (-1), .inl 0, .inl 0, .inl 0, .inl 0, .inr (.inl (some 18))]),
  .inr ((1, 4), .inl []),
  .inl (1, [.inl 0, .inl 0, .inl 0, .inl (-1), .inl 0, .inl 0, .inl 0, .inl 0, .inr (.inl (some 20))]),
  .inr ((1, 4), .inl []),
  .inl (1, [.inl 0, .inl 0, .inl 0, .inl (-1), .inl 0, .inl 0, .inl 0, .inl 0, .inr (.inl (some 22))]),
  .inr ((1, 4), .inl []),
  .inl (1, [.inl 0, .inl 0, .inl 0, .inl (-1), .inl 0, .inl 0, .inl 0, .inl 0, .inr (.inl (some 24))]),
  .inr ((1, 4), .inl []),
  .inl (1, [.inl 0, .inl 0, .inl 0, .inl (-1), .inl 0, .inl 0, .inl 0, .inl 0, .inr (.inl (some 26))]),
  .inr ((1, 4), .inl []),
  .inl (5, [.inl 0, .inr (.inl (some 28)), .inr (.inl (some 29)), .inr (.inl (some 30))]),
  .inr ((1, 20), .inl []),
  .inr ((1, 20), .inl []),
  .inr ((1, 20), .inl []),
  .inl (6, [.inl 8, .inl 0, .inl 200, .inl 60, .inl 40, .inl 20, .inl 1]),
  .inl (0, [.inl 0, .inr (.inl (some 33)), .inl 0, .inl 0, .inl 0, .inl 0, .inl 0, .inl 0]),
  .inr ((1, 5), .inl []),
  .inl (7, [.inl 0, .inl 0, .inl 0, .inr (.inl (some 35)), .inr (.inl (some 60)), .inr (.inl (some 64)), .inr (.inl (some 65))]),
  .inr ((3, 12), .inr (.inl [(11, 58), (10, 56), (9, 54), (8, 52), (7, 50), (6, 48), (5, 46), (4, 44), (3, 42), (2, 40), (1, 38), (0, 36)])),
  .inl (1, [.inl 0, .inl 0, .inl 0, .inl (-1), .inl 0, .inl 0, .inl 0, .inl 0, .inr (.inl (some 37))]),
  .inr ((1, 4), .inl []),
  .inl (1, [.inl 0, .inl 0, .inl 0, .inl (-1), .inl 0, .inl 0, .inl 0, .inl 0, .inr (.inl (some 39))]),
  .inr ((1, 4), .inl []),
  .inl (1, [.inl 0, .inl 0, .inl 0, .inl (-1), .inl 0, .inl 0, .inl 0, .inl 0, .inr (.inl (some 41))]),
  .inr ((1, 4), .inl []),
  .inl (1, [.inl 0, .inl 0, .inl 0, .inl (-1), .inl 0, .inl 0, .inl 0, .inl 0, .inr (.inl (some 43))]),
  .inr ((1, 4), .inl []),
  .inl (1, [.inl 0, .inl 0, .inl 0, .inl (-1), .inl 0, .inl 0, .inl 0, .inl 0, .inr (.inl (some 45))]),
  .inr ((1, 4), .inl []),
  .inl (1, [.inl 0, .inl 0, .inl 0, .inl (-1), .inl 0, .inl 0, .inl 0, .inl 0, .inr (.inl (some 47))]),
  .inr ((1, 4), .inl []),
  .inl (1, [.inl 0, .inl 0, .inl 0, .inl (-1), .inl 0, .inl 0, .inl 0, .inl 0, .inr (.inl (some 49))]),
  .inr ((1, 4), .inl []),
  .inl (1, [.inl 0, .inl 0, .inl 0, .inl (-1), .inl 0, .inl 0, .inl 0, .inl 0, .inr (.inl (some 51))]),
  .inr ((1, 4), .inl []),
  .inl (1, [.inl 0, .inl 0, .inl 0, .inl (-1), .inl 0, .inl 0, .inl 0, .inl 0, .inr (.inl (some 53))]),
  .inr ((1, 4), .inl []),
  .inl (1, [.inl 0, .inl 0, .inl 0, .inl (-1), .inl 0, .inl 0, .inl 0, .inl 0, .inr (.inl (some 55))]),
  .inr ((1, 4), .inl []),
  .inl (1, [.inl 0, .inl 0, .inl 0, .inl (-1), .inl 0, .inl 0, .inl 0, .inl 0, .inr (.inl (some 57))]),
  .inr ((1, 4), .inl []),
  .inl (1, [.inl 0, .inl 0, .inl 0, .inl (-1), .inl 0, .inl 0, .inl 0, .inl 0, .inr (.inl (some 59))]),
  .inr ((1, 4), .inl []),
  .inl (5, [.inl 0, .inr (.inl (some 61)), .inr (.inl (some 62)), .inr (.inl (some 63))]),
  .inr ((1, 20), .inl []),
  .inr ((1, 20), .inl []),
  .inr ((1, 20), .inl []),
  .inl (6, [.inl 8, .inl 0, .inl 200, .inl 60, .inl 40, .inl 20, .inl 1]),
  .inl (0, [.inl 0, .inr (.inl (some 66)), .inl 0, .inl 0, .inl 0, .inl 0, .inl 0, .inl 0]),
  .inr ((1, 5), .inl []),
  .inr ((4, 2), .inr (.inl [(1, 101), (0, 68)])),
  .inl (7, [.inl 0, .inl 0, .inl 0, .inr (.inl (some 69)), .inr (.inl (some 94)), .inr (.inl (some 98)), .inr (.inl (some 99))]),
  .inr ((3, 12), .inr (.inl [(11, 92), (10, 90), (9, 88), (8, 86), (7, 84), (6, 82), (5, 80), (4, 78), (3, 76), (2, 74), (1, 72), (0, 70)])),
  .inl (1, [.inl 0, .inl 0, .inl 0, .inl (-1), .inl 0, .inl 0, .inl 0, .inl 0, .inr (.inl (some 71))]),
  .inr ((1, 4), .inl []),
  .inl (1, [.inl 0, .inl 0, .inl 0, .inl (-1), .inl 0, .inl 0, .inl 0, .inl 0, .inr (.inl (some 73))]),
  .inr ((1, 4), .inl []),
  .inl (1, [.inl 0, .inl 0, .inl 0, .inl (-1), .inl 0, .inl 0, .inl 0, .inl 0, .inr (.inl (some 75))]),
  .inr ((1, 4), .inl []),
  .inl (1, [.inl 0, .inl 0, .inl 0, .inl (-1), .inl 0, .inl 0, .inl 0, .inl 0, .inr (.inl (some 77))]),
  .inr ((1, 4), .inl []),
  .inl (1, [.inl 0, .inl 0, .inl 0, .inl (-1), .inl 0, .inl 0, .inl 0, .inl 0, .inr (.inl (some 79))]),
  .inr ((1, 4), .inl []),
  .inl (1, [.inl 0, .inl 0, .inl 0, .inl (-1), .inl 0, .inl 0, .inl 0, .inl 0, .inr (.inl (some 81))]),
  .inr ((1, 4), .inl []),
  .inl (1, [.inl 0, .inl 0, .inl 0, .inl (-1), .inl 0, .inl 0, .inl 0, .inl 0, .inr (.inl (some 83))]),
  .inr ((1, 4), .inl []),
  .inl (1, [.inl 0, .inl 0, .inl 0, .inl (-1), .inl 0, .inl 0, .inl 0, .inl 0, .inr (.inl (some 85))]),
  .inr ((1, 4), .inl []),
  .inl (1, [.inl 0, .inl 0, .inl 0, .inl (-1), .inl 0, .inl 0, .inl 0, .inl 0, .inr (.inl (some 87))]),
  .inr ((1, 4), .inl []),
  .inl (1, [.inl 0, .inl 0, .inl 0, .inl (-1), .inl 0, .inl 0, .inl 0, .inl 0, .inr (.inl (some 89))]),
  .inr ((1, 4), .inl []),
  .inl (1, [.inl 0, .inl 0, .inl 0, .inl (-1), .inl 0, .inl 0, .inl 0, .inl 0, .inr (.inl (some 91))]),
  .inr ((1, 4), .inl []),
  .inl (1, [.inl 0, .inl 0, .inl 0, .inl (-1), .inl 0, .inl 0, .inl 0, .inl 0, .inr (.inl (some 93))]),
  .inr ((1, 4), .inl []),
  .inl (5, [.inl 0, .inr (.inl (some 95)), .inr (.inl (some 96)), .inr (.inl (some 97))]),
  .inr ((1, 20), .inl []),
  .inr ((1, 20), .inl []),
  .inr ((1, 20), .inl []),
  .inl (6, [.inl 8, .inl 0, .inl 200, .inl 60, .inl 40, .inl 20, .inl 1]),
  .inl (0, [.inl 0, .inr (.inl (some 100)), .inl 0, .inl 0, .inl 0, .inl 0, .inl 0, .inl 0]),
  .inr ((1, 5), .inl []),
  .inl (7, [.inl 0, .inl 0, .inl 0, .inr (.inl (some 102)), .inr (.inl (some 127)), .inr (.inl (some 131)), .inr (.inl (some 132))]),
  .inr ((3, 12), .inr (.inl [(11, 125), (10, 123), (9, 121), (8, 119), (7, 117), (6, 115), (5, 113), (4, 111), (3, 109), (2, 107), (1, 105), (0, 103)])),
  .inl (1, [.inl 0, .inl 0, .inl 0, .inl (-1), .inl 0, .inl 0, .inl 0, .inl 0, .inr (.inl (some 104))]),
  .inr ((1, 4), .inl []),
  .inl (1, [.inl 0, .inl 0, .inl 0, .inl (-1), .inl 0, .inl 0, .inl 0, .inl 0, .inr (.inl (some 106))]),
  .inr ((1, 4), .inl []),
  .inl (1, [.inl 0, .inl 0, .inl 0, .inl (-1), .inl 0, .inl 0, .inl 0, .inl 0, .inr (.inl (some 108))]),
  .inr ((1, 4), .inl []),
  .inl (1, [.inl 0, .inl 0, .inl 0, .inl (-1), .inl 0, .inl 0, .inl 0, .inl 0, .inr (.inl (some 110))]),
  .inr ((1, 4), .inl []),
  .inl (1, [.inl 0, .inl 0, .inl 0, .inl (-1), .inl 0, .inl 0, .inl 0, .inl 0, .inr (.inl (some 112))]),
  .inr ((1, 4), .inl []),
  .inl (1, [.inl 0, .inl 0, .inl 0, .inl (-1), .inl 0, .inl 0, .inl 0, .inl 0, .inr (.inl (some 114))]),
  .inr ((1, 4), .inl []),
  .inl (1, [.inl 0, .inl 0, .inl 0, .inl (-1), .inl 0, .inl 0, .inl 0, .inl 0, .inr (.inl (some 116))]),
  .inr ((1, 4), .inl []),
  .inl (1, [.inl 0, .inl 0, .inl 0, .inl (-1), .inl 0, .inl 0, .inl 0, .inl 0, .inr (.inl (some 118))]),
  .inr ((1, 4), .inl []),
  .inl (1, [.inl 0, .inl 0, .inl 0, .inl (-1), .inl 0, .inl 0, .inl 0, .inl 0, .inr (.inl (some 120))]),
  .inr ((1, 4), .inl []),
  .inl (1, [.inl 0, .inl 0, .inl 0, .inl (-1), .inl 0, .inl 0, .inl 0, .inl 0, .inr (.inl (some 122))]),
  .inr ((1, 4), .inl []),
  .inl (1, [.inl 0, .inl 0, .inl 0, .inl (-1), .inl 0, .inl 0, .inl 0, .inl 0, .inr (.inl (some 124))]),
  .inr ((1, 4), .inl []),
  .inl (1, [.inl 0, .inl 0, .inl 0, .inl (-1), .inl 0, .inl 0, .inl 0, .inl 0, .inr (.inl (some 126))]),
  .inr ((1, 4), .inl []),
  .inl (5, [.inl 0, .inr (.inl (some 128)), .inr (.inl (some 129)), .inr (.inl (some 130))]),
  .inr ((1, 20), .inl []),
  .inr ((1, 20), .inl []),
  .inr ((1, 20), .inl []),
  .inl (6, [.inl 8, .inl 0, .inl 200, .inl 60, .inl 40, .inl 20, .inl 1]),
  .inl (0, [.inl 0, .inr (.inl (some 133)), .inl 0, .inl 0, .inl 0, .inl 0, .inl 0, .inl 0]),
  .inr ((1, 5), .inl []),
  .inr ((2, 2), .inl []),
  .inl (4, [.inl 0, .inr (.inl (some 136))]),
  .inr ((4, 6), .inr (.inl [(5, 302), (4, 269), (3, 236), (2, 203), (1, 170), (0, 137)])),
  .inl (7, [.inl 0, .inl 0, .inl 0, .inr (.inl (some 138)), .inr (.inl (some 163)), .inr (.inl (some 167)), .inr (.inl (some 168))]),
  .inr ((3, 12), .inr (.inl [(11, 161), (10, 159), (9, 157), (8, 155), (7, 153), (6, 151), (5, 149), (4, 147), (3, 145), (2, 143), (1, 141), (0, 139)])),
  .inl (1, [.inl 0, .inl 0, .inl 0, .inl (-1), .inl 0, .inl 0, .inl 0, .inl 0, .inr (.inl (some 140))]),
  .inr ((1, 4), .inl []),
  .inl (1, [.inl 0, .inl 0, .inl 0, .inl (-1), .inl 0, .inl 0, .inl 0, .inl 0, .inr (.inl (some 142))]),
  .inr ((1, 4), .inl []),
  .inl (1, [.inl 0, .inl 0, .inl 0, .inl (-1), .inl 0, .inl 0, .inl 0, .inl 0, .inr (.inl (some 144))]),
  .inr ((1, 4), .inl []),
  .inl (1, [.inl 0, .inl 0, .inl 0, .inl (-1), .inl 0, .inl 0, .inl 0, .inl 0, .inr (.inl (some 146))]),
  .inr ((1, 4), .inl []),
  .inl (1, [.inl 0, .inl 0, .inl 0, .inl (-1), .inl 0, .inl 0, .inl 0, .inl 0, .inr (.inl (some 148))]),
  .inr ((1, 4), .inl []),
  .inl (1, [.inl 0, .inl 0, .inl 0, .inl (-1), .inl 0, .inl 0, .inl 0, .inl 0, .inr (.inl (some 150))]),
  .inr ((1, 4), .inl []),
  .inl (1, [.inl 0, .inl 0, .inl 0, .inl (-1), .inl 0, .inl 0, .inl 0, .inl 0, .inr (.inl (some 152))]),
  .inr ((1, 4), .inl []),
  .inl (1, [.inl 0, .inl 0, .inl 0, .inl (-1), .inl 0, .inl 0, .inl 0, .inl 0, .inr (.inl (some 154))]),
  .inr ((1, 4), .inl []),
  .inl (1, [.inl 0, .inl 0, .inl 0, .inl (-1), .inl 0, .inl 0, .inl 0, .inl 0, .inr (.inl (some 156))]),
  .inr ((1, 4), .inl []),
  .inl (1, [.inl 0, .inl 0, .inl 0, .inl (-1), .inl 0, .inl 0, .inl 0, .inl 0, .inr (.inl (some 158))]),
  .inr ((1, 4), .inl []),
  .inl (1, [.inl 0, .inl 0, .inl 0, .inl (-1), .inl 0, .inl 0, .inl 0, .inl 0, .inr (.inl (some 160))]),
  .inr ((1, 4), .inl []),
  .inl (1, [.inl 0, .inl 0, .inl 0, .inl (-1), .inl 0, .inl 0, .inl 0, .inl 0, .inr (.inl (some 162))]),
  .inr ((1, 4), .inl []),
  .inl (5, [.inl 0, .inr (.inl (some 164)), .inr (.inl (some 165)), .inr (.inl (some 166))]),
  .inr ((1, 20), .inl []),
  .inr ((1, 20), .inl []),
  .inr ((1, 20), .inl []),
  .inl (6, [.inl 8, .inl 0, .inl 200, .inl 60, .inl 40, .inl 20, .inl 1]),
  .inl (0, [.inl 0, .inr (.inl (some 169)), .inl 0, .inl 0, .inl 0, .inl 0, .inl 0, .inl 0]),
  .inr ((1, 5), .inl []),
  .inl (7, [.inl 0, .inl 0, .inl 0, .inr (.inl (some 171)), .inr (.inl (some 196)), .inr (.inl (some 200)), .inr (.inl (some 201))]),
  .inr ((3, 12), .inr (.inl [(11, 194), (10, 192), (9, 190), (8, 188), (7, 186), (6, 184), (5, 182), (4, 180), (3, 178), (2, 176), (1, 174), (0, 172)])),
  .inl (1, [.inl 0, .inl 0, .inl 0, .inl (-1), .inl 0, .inl 0, .inl 0, .inl 0, .inr (.inl (some 173))]),
  .inr ((1, 4), .inl []),
  .inl (1, [.inl 0, .inl 0, .inl 0, .inl (-1), .inl 0, .inl 0, .inl 0, .inl 0, .inr (.inl (some 175))]),
  .inr ((1, 4), .inl []),
  .inl (1, [.inl 0, .inl 0, .inl 0, .inl (-1), .inl 0, .inl 0, .inl 0, .inl 0, .inr (.inl (some 177))]),
  .inr ((1, 4), .inl []),
  .inl (1, [.inl 0, .inl 0, .inl 0, .inl (-1), .inl 0, .inl 0, .inl 0, .inl 0, .inr (.inl (some 179))]),
  .inr ((1, 4), .inl []),
  .inl (1, [.inl 0, .inl 0, .inl 0, .inl (-1), .inl 0, .inl 0, .inl 0, .inl 0, .inr (.inl (some 181))]),
  .inr ((1, 4), .inl []),
  .inl (1, [.inl 0, .inl 0, .inl 0, .inl (-1), .inl 0, .inl 0, .inl 0, .inl 0, .inr (.inl (some 183))]),
  .inr ((1, 4), .inl []),
  .inl (1, [.inl 0, .inl 0, .inl 0, .inl (-1), .inl 0, .inl 0, .inl 0, .inl 0, .inr (.inl (some 185))]),
  .inr ((1, 4), .inl []),
  .inl (1, [.inl 0, .inl 0, .inl 0, .inl (-1), .inl 0, .inl 0, .inl 0, .inl 0, .inr (.inl (some 187))]),
  .inr ((1, 4), .inl []),
  .inl (1, [.inl 0, .inl 0, .inl 0, .inl (-1), .inl 0, .inl 0, .inl 0, .inl 0, .inr (.inl (some 189))]),
  .inr ((1, 4), .inl []),
  .inl (1, [.inl 0, .inl 0, .inl 0, .inl (-1), .inl 0, .inl 0, .inl 0, .inl 0, .inr (.inl (some 191))]),
  .inr ((1, 4), .inl []),
  .inl (1, [.inl 0, .inl 0, .inl 0, .inl (-1), .inl 0, .inl 0, .inl 0, .inl 0, .inr (.inl (some 193))]),
  .inr ((1, 4), .inl []),
  .inl (1, [.inl 0, .inl 0, .inl 0, .inl (-1), .inl 0, .inl 0, .inl 0, .inl 0, .inr (.inl (some 195))]),
  .inr ((1, 4), .inl []),
  .inl (5, [.inl 0, .inr (.inl (some 197)), .inr (.inl (some 198)), .inr (.inl (some 199))]),
  .inr ((1, 20), .inl []),
  .inr ((1, 20), .inl []),
  .inr ((1, 20), .inl []),
  .inl (6, [.inl 8, .inl 0, .inl 200, .inl 60, .inl 40, .inl 20, .inl 1]),
  .inl (0, [.inl 0, .inr (.inl (some 202)), .inl 0, .inl 0, .inl 0, .inl 0, .inl 0, .inl 0]),
  .inr ((1, 5), .inl []),
  .inl (7, [.inl 0, .inl 0, .inl 0, .inr (.inl (some 204)), .inr (.inl (some 229)), .inr (.inl (some 233)), .inr (.inl (some 234))]),
  .inr ((3, 12), .inr (.inl [(11, 227), (10, 225), (9, 223), (8, 221), (7, 219), (6, 217), (5, 215), (4, 213), (3, 211), (2, 209), (1, 207), (0, 205)])),
  .inl (1, [.inl 0, .inl 0, .inl 0, .inl (-1), .inl 0, .inl 0, .inl 0, .inl 0, .inr (.inl (some 206))]),
  .inr ((1, 4), .inl []),
  .inl (1, [.inl 0, .inl 0, .inl 0, .inl (-1), .inl 0, .inl 0, .inl 0, .inl 0, .inr (.inl (some 208))]),
  .inr ((1, 4), .inl []),
  .inl (1, [.inl 0, .inl 0, .inl 0, .inl (-1), .inl 0, .inl 0, .inl 0, .inl 0, .inr (.inl (some 210))]),
  .inr ((1, 4), .inl []),
  .inl (1, [.inl 0, .inl 0, .inl 0, .inl (-1), .inl 0, .inl 0, .inl 0, .inl 0, .inr (.inl (some 212))]),
  .inr ((1, 4), .inl []),
  .inl (1, [.inl 0, .inl 0, .inl 0, .inl (-1), .inl 0, .inl 0, .inl 0, .inl 0, .inr (.inl (some 214))]),
  .inr ((1, 4), .inl []),
  .inl (1, [.inl 0, .inl 0, .inl 0, .inl (-1), .inl 0, .inl 0, .inl 0, .inl 0, .inr (.inl (some 216))]),
  .inr ((1, 4), .inl []),
  .inl (1, [.inl 0, .inl 0, .inl 0, .inl (-1), .inl 0, .inl 0, .inl 0, .inl 0, .inr (.inl (some 218))]),
  .inr ((1, 4), .inl []),
  .inl (1, [.inl 0, .inl 0, .inl 0, .inl (-1), .inl 0, .inl 0, .inl 0, .inl 0, .inr (.inl (some 220))]),
  .inr ((1, 4), .inl []),
  .inl (1, [.inl 0, .inl 0, .inl 0, .inl (-1), .inl 0, .inl 0, .inl 0, .inl 0, .inr (.inl (some 222))]),
  .inr ((1, 4), .inl []),
  .inl (1, [.inl 0, .inl 0, .inl 0, .inl (-1), .inl 0, .inl 0, .inl 0, .inl 0, .inr (.inl (some 224))]),
  .inr ((1, 4), .inl []),
  .inl (1, [.inl 0, .inl 0, .inl 0, .inl (-1), .inl 0, .inl 0, .inl 0, .inl 0, .inr (.inl (some 226))]),
  .inr ((1, 4), .inl []),
  .inl (1, [.inl 0, .inl 0, .inl 0, .inl (-1), .inl 0, .inl 0, .inl 0, .inl 0, .inr (.inl (some 228))]),
  .inr ((1, 4), .inl []),
  .inl (5, [.inl 0, .inr (.inl (some 230)), .inr (.inl (some 231)), .inr (.inl (some 232))]),
  .inr ((1, 20), .inl []),
  .inr ((1, 20), .inl []),
  .inr ((1, 20), .inl []),
  .inl (6, [.inl 8, .inl 0, .inl 200, .inl 60, .inl 40, .inl 20, .inl 1]),
  .inl (0, [.inl 0, .inr (.inl (some 235)), .inl 0, .inl 0, .inl 0, .inl 0, .inl 0, .inl 0]),
  .inr ((1, 5), .inl []),
  .inl (7, [.inl 0, .inl 0, .inl 0, .inr (.inl (some 237)), .inr (.inl (some 262)), .inr (.inl (some 266)), .inr (.inl (some 267))]),
  .inr ((3, 12), .inr (.inl [(11, 260), (10, 258), (9, 256), (8, 254), (7, 252), (6, 250), (5, 248), (4, 246), (3, 244), (2, 242), (1, 240), (0, 238)])),
  .inl (1, [.inl 0, .inl 0, .inl 0, .inl (-1), .inl 0, .inl 0, .inl 0, .inl 0, .inr (.inl (some 239))]),
  .inr ((1, 4), .inl []),
  .inl (1, [.inl 0, .inl 0, .inl 0, .inl (-1), .inl 0, .inl 0, .inl 0, .inl 0, .inr (.inl (some 241))]),
  .inr ((1, 4), .inl []),
  .inl (1, [.inl 0, .inl 0, .inl 0, .inl (-1), .inl 0, .inl 0, .inl 0, .inl 0, .inr (.inl (some 243))]),
  .inr ((1, 4), .inl []),
  .inl (1, [.inl 0, .inl 0, .inl 0, .inl (-1), .inl 0, .inl 0, .inl 0, .inl 0, .inr (.inl (some 245))]),
  .inr ((1, 4), .inl []),
  .inl (1, [.inl 0, .inl 0, .inl 0, .inl (-1), .inl 0, .inl 0, .inl 0, .inl 0, .inr (.inl (some 247))]),
  .inr ((1, 4), .inl []),
  .inl (1, [.inl 0, .inl 0, .inl 0, .inl (-1), .inl 0, .inl 0, .inl 0, .inl 0, .inr (.inl (some 249))]),
  .inr ((1, 4), .inl []),
  .inl (1, [.inl 0, .inl 0, .inl 0, .inl (-1), .inl 0, .inl 0, .inl 0, .inl 0, .inr (.inl (some 251))]),
  .inr ((1, 4), .inl []),
  .inl (1, [.inl 0, .inl 0, .inl 0, .inl (-1), .inl 0, .inl 0, .inl 0, .inl 0, .inr (.inl (some 253))]),
  .inr ((1, 4), .inl []),
  .inl (1, [.inl 0, .inl 0, .inl 0, .inl (-1), .inl 0, .inl 0, .inl 0, .inl 0, .inr (.inl (some 255))]),
  .inr ((1, 4), .inl []),
  .inl (1, [.inl 0, .inl 0, .inl 0, .inl (-1), .inl 0, .inl 0, .inl 0, .inl 0, .inr (.inl (some 257))]),
  .inr ((1, 4), .inl []),
  .inl (1, [.inl 0, .inl 0, .inl 0, .inl (-1), .inl 0, .inl 0, .inl 0, .inl 0, .inr (.inl (some 259))]),
  .inr ((1, 4), .inl []),
  .inl (1, [.inl 0, .inl 0, .inl 0, .inl (-1), .inl 0, .inl 0, .inl 0, .inl 0, .inr (.inl (some 261))]),
  .inr ((1, 4), .inl []),
  .inl (5, [.inl 0, .inr (.inl (some 263)), .inr (.inl (some 264)), .inr (.inl (some 265))]),
  .inr ((1, 20), .inl []),
  .inr ((1, 20), .inl []),
  .inr ((1, 20), .inl []),
  .inl (6, [.inl 8, .inl 0, .inl 200, .inl 60, .inl 40, .inl 20, .inl 1]),
  .inl (0, [.inl 0, .inr (.inl (some 268)), .inl 0, .inl 0, .inl 0, .inl 0, .inl 0, .inl 0]),
  .inr ((1, 5), .inl []),
  .inl (7, [.inl 0, .inl 0, .inl 0, .inr (.inl (some 270)), .inr (.inl (some 295)), .inr (.inl (some 299)), .inr (.inl (some 300))]),
  .inr ((3, 12), .inr (.inl [(11, 293), (10, 291), (9, 289), (8, 287), (7, 285), (6, 283), (5, 281), (4, 279), (3, 277), (2, 275), (1, 273), (0, 271)])),
  .inl (1, [.inl 0, .inl 0, .inl 0, .inl (-1), .inl 0, .inl 0, .inl 0, .inl 0, .inr (.inl (some 272))]),
  .inr ((1, 4), .inl []),
  .inl (1, [.inl 0, .inl 0, .inl 0, .inl (-1), .inl 0, .inl 0, .inl 0, .inl 0, .inr (.inl (some 274))]),
  .inr ((1, 4), .inl []),
  .inl (1, [.inl 0, .inl 0, .inl 0, .inl (-1), .inl 0, .inl 0, .inl 0, .inl 0, .inr (.inl (some 276))]),
  .inr ((1, 4), .inl []),
  .inl (1, [.inl 0, .inl 0, .inl 0, .inl (-1), .inl 0, .inl 0, .inl 0, .inl 0, .inr (.inl (some 278))]),
  .inr ((1, 4), .inl []),
  .inl (1, [.inl 0, .inl 0, .inl 0, .inl (-1), .inl 0, .inl 0, .inl 0, .inl 0, .inr (.inl (some 280))]),
  .inr ((1, 4), .inl []),
  .inl (1, [.inl 0, .inl 0, .inl 0, .inl (-1), .inl 0, .inl 0, .inl 0, .inl 0, .inr (.inl (some 282))]),
  .inr ((1, 4), .inl []),
  .inl (1, [.inl 0, .inl 0, .inl 0, .inl (-1), .inl 0, .inl 0, .inl 0, .inl 0, .inr (.inl (some 284))]),
  .inr ((1, 4), .inl []),
  .inl (1, [.inl 0, .inl 0, .inl 0, .inl (-1), .inl 0, .inl 0, .inl 0, .inl 0, .inr (.inl (some 286))]),
  .inr ((1, 4), .inl []),
  .inl (1, [.inl 0, .inl 0, .inl 0, .inl (-1), .inl 0, .inl 0, .inl 0, .inl 0, .inr (.inl (some 288))]),
  .inr ((1, 4), .inl []),
  .inl (1, [.inl 0, .inl 0, .inl 0, .inl (-1), .inl 0, .inl 0, .inl 0, .inl 0, .inr (.inl (some 290))]),
  .inr ((1, 4), .inl []),
  .inl (1, [.inl 0, .inl 0, .inl 0, .inl (-1), .inl 0, .inl 0, .inl 0, .inl 0, .inr (.inl (some 292))]),
  .inr ((1, 4), .inl []),
  .inl (1, [.inl 0, .inl 0, .inl 0, .inl (-1), .inl 0, .inl 0, .inl 0, .inl 0, .inr (.inl (some 294))]),
  .inr ((1, 4), .inl []),
  .inl (5, [.inl 0, .inr (.inl (some 296)), .inr (.inl (some 297)), .inr (.inl (some 298))]),
  .inr ((1, 20), .inl []),
  .inr ((1, 20), .inl []),
  .inr ((1, 20), .inl []),
  .inl (6, [.inl 8, .inl 0, .inl 200, .inl 60, .inl 40, .inl 20, .inl 1]),
  .inl (0, [.inl 0, .inr (.inl (some 301)), .inl 0, .inl 0, .inl 0, .inl 0, .inl 0, .inl 0]),
  .inr ((1, 5), .inl []),
  .inl (7, [.inl 0, .inl 0, .inl 0, .inr (.inl (some 303)), .inr (.inl (some 328)), .inr (.inl (some 332)), .inr (.inl (some 333))]),
  .inr ((3, 12), .inr (.inl [(11, 326), (10, 324), (9, 322), (8, 320), (7, 318), (6, 316), (5, 314), (4, 312), (3, 310), (2, 308), (1, 306), (0, 304)])),
  .inl (1, [.inl 0, .inl 0, .inl 0, .inl (-1), .inl 0, .inl 0, .inl 0, .inl 0, .inr (.inl (some 305))]),
  .inr ((1, 4), .inl []),
  .inl (1, [.inl 0, .inl 0, .inl 0, .inl (-1), .inl 0, .inl 0, .inl 0, .inl 0, .inr (.inl (some 307))]),
  .inr ((1, 4), .inl []),
  .inl (1, [.inl 0, .inl 0, .inl 0, .inl (-1), .inl 0, .inl 0, .inl 0, .inl 0, .inr (.inl (some 309))]),
  .inr ((1, 4), .inl []),
  .inl (1, [.inl 0, .inl 0, .inl 0, .inl (-1), .inl 0, .inl 0, .inl 0, .inl 0, .inr (.inl (some 311))]),
  .inr ((1, 4), .inl []),
  .inl (1, [.inl 0, .inl 0, .inl 0, .inl (-1), .inl 0, .inl 0, .inl 0, .inl 0, .inr (.inl (some 313))]),
  .inr ((1, 4), .inl []),
  .inl (1, [.inl 0, .inl 0, .inl 0, .inl (-1), .inl 0, .inl 0, .inl 0, .inl 0, .inr (.inl (some 315))]),
  .inr ((1, 4), .inl []),
  .inl (1, [.inl 0, .inl 0, .inl 0, .inl (-1), .inl 0, .inl 0, .inl 0, .inl 0, .inr (.inl (some 317))]),
  .inr ((1, 4), .inl []),
  .inl (1, [.inl 0, .inl 0, .inl 0, .inl (-1), .inl 0, .inl 0, .inl 0, .inl 0, .inr (.inl (some 319))]),
  .inr ((1, 4), .inl []),
  .inl (1, [.inl 0, .inl 0, .inl 0, .inl (-1), .inl 0, .inl 0, .inl 0, .inl 0, .inr (.inl (some 321))]),
  .inr ((1, 4), .inl []),
  .inl (1, [.inl 0, .inl 0, .inl 0, .inl (-1), .inl 0, .inl 0, .inl 0, .inl 0, .inr (.inl (some 323))]),
  .inr ((1, 4), .inl []),
  .inl (1, [.inl 0, .inl 0, .inl 0, .inl (-1), .inl 0, .inl 0, .inl 0, .inl 0, .inr (.inl (some 325))]),
  .inr ((1, 4), .inl []),
  .inl (1, [.inl 0, .inl 0, .inl 0, .inl (-1), .inl 0, .inl 0, .inl 0, .inl 0, .inr (.inl (some 327))]),
  .inr ((1, 4), .inl []),
  .inl (5, [.inl 0, .inr (.inl (some 329)), .inr (.inl (some 330)), .inr (.inl (some 331))]),
  .inr ((1, 20), .inl []),
  .inr ((1, 20), .inl []),
  .inr ((1, 20), .inl []),
  .inl (6, [.inl 8, .inl 0, .inl 200, .inl 60, .inl 40, .inl 20, .inl 1]),
  .inl (0, [.inl 0, .inr (.inl (some 334)), .inl 0, .inl 0, .inl 0, .inl 0, .inl 0, .inl 0]),
  .inr ((1, 5), .inl []),
  .inl (2, [.inl 0, .inr (.inl (some 336)), .inl 0, .inr (.inl (some 337)), .inr (.inl (some 338)), .inr (.inl (some 339)), .inl 0, .inl 0, .inl 0, .inl 0, .inl 0]),
  .inr ((1, 60), .inl []),
  .inr ((1, 60), .inl []),
  .inr ((1, 60), .inl []),
  .inr ((1, 60), .inl [])]
set_option maxRecDepth 100000 in
theorem k_C8 {l : Launch} : k_Ct l 66 (k_R8, (339, 2853)) := k_meth (n := 65) (T := TX8_init) (res := k_r7) (by decide) rfl rfl (by decide) kX8_init k_g7 (by decide +kernel)
def k_r8 : Nat → Option (List K_E × (Nat × Nat)) := fun j => if j = 66 then some (k_R8, (339, 2853)) else k_r7 j
theorem k_g8 {l : Launch} : k_good l k_r8 := by
  intro j r h
  unfold k_r8 at h
  split at h
  · rename_i e
    subst e
    cases h
    exact ⟨k_C8, by decide, rfl, rfl, rfl, rfl⟩
  · exact k_g7 j r h
