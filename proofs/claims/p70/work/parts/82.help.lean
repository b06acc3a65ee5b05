-- THE LAW'S HELPERS: STATIC METHODS OF ITS OWN WITHOUT TABLES; ROOM THAT IS A VARIABLE
theorem q_Lfit2 : ([146, 147, 148].all fun mi => (List.range 36).all fun i => Nat.ble (q_fr (149 + i) + 1) (q_fr mi) && Nat.ble (8 + (q_ml (149 + i) + 11) + q_lo (149 + i)) (q_lo mi)) = true := by decide +kernel
theorem q_Lfit2' {mi j : Nat} (hm : mi = 146 ∨ mi = 147 ∨ mi = 148) (h1 : 149 ≤ j) (h2 : j < 185) : q_fit (q_rm mi) j := by
  have h := List.all_eq_true.mp q_Lfit2 mi (by rcases hm with rfl | rfl | rfl <;> decide)
  have h := List.all_eq_true.mp h (j - 149) (List.mem_range.mpr (by omega))
  rw [show 149 + (j - 149) = j by omega, Bool.and_eq_true] at h
  exact ⟨Nat.le_of_ble_eq_true h.1, Nat.le_of_ble_eq_true h.2⟩
theorem q_LfitR : ((List.range 36).all fun i => Nat.ble (q_fr (149 + i) + 1) 13 && Nat.ble (8 + (q_ml (149 + i) + 11) + q_lo (149 + i)) 478) = true := by decide +kernel
theorem q_LfitR' {j : Nat} (h1 : 149 ≤ j) (h2 : j < 185) : q_fit room_1 j := by
  have h := List.all_eq_true.mp q_LfitR (j - 149) (List.mem_range.mpr (by omega))
  rw [show 149 + (j - 149) = j by omega, Bool.and_eq_true] at h
  exact ⟨Nat.le_of_ble_eq_true h.1, Nat.le_of_ble_eq_true h.2⟩
section QI
variable {p : Program} {l : Launch} {e : Env} {R : Room} {s : State} {m : MethodId} {args : Array Value} {below : List Frame} {meth : Method} {c : Code} {Q : State → Prop}
variable {cc : ByteArray} {nL own bi : Nat} {D : va_G} {cs : Nat → ClassId} {ad : Q_Id → Nat} {dm : List Q_Id} {base : Nat} {b : Bool}
theorem q_invSL (hx : p.tables.exec = Jvm.exec) (hb : c.code = cc) (hml : c.maxLocals = nL) (hown : s.vm.findClass (q_R 9) = some m.cls) (hts : ∀ w ∈ q_G, w.before args s = true) (hK : va_K D vwCl (q_tys cs) s) (hbase : base ≤ s.heap.size) (hU : q_U base s) (hdm : ∀ i, q_ok b i → i ∈ dm) (h28 : ∀ q : Nat, ad (28, q, 0) = q) (hRb : bi ≤ R.cells ∧ 6 * bi ≤ R.slots) {pc nx z j na bj idx : Nat} {ls : List (Nat × Q_V)} {st r : List Q_V} {M : Q_M} {As : List Q_V} {P : Q_P} {K : Option Q_V → Q_M → Prop}
    (hdg : decode cc pc = .ok (.invokestatic idx, 3)) (hnx : pc + 3 = nx) (hcal : q_cal 9 idx = some (j, na, bj)) (hj1 : 149 ≤ j) (hfit : q_fit R j) (ht : q_take na [] st = some (As, r)) (hzb : z + bj ≤ bi) (hsum : q_sum r ≤ 8) (hC : q_CtL l b j P) (hP : P As M K (fun _ _ => False))
    (hk : ∀ v M', q_nr v → K v M' → q_Zd p l e R s m args below meth c Q nL D cs ad dm base b bi (z + bj) nx ls (q_psh v r) M') :
    q_Zd p l e R s m args below meth c Q nL D cs ad dm base b bi z pc ls st M := by
  subst hnx
  intro hz h1 h2 H locs lsA hH hl
  have hg := List.all_eq_true.mp q_LCl (9, (idx, (j, (na, bj)))) (List.mem_filter.mpr ⟨q_find_mem hcal, Nat.ble_eq_true_of_le hj1⟩)
  simp only [Bool.and_eq_true, decide_eq_true_eq] at hg
  obtain ⟨g1, g2, g3, g4, g5⟩ := hg
  have hbj : bj = q_bud j := Nat.eq_of_beq_eq_true g2
  have hna : na = q_na j := Nat.eq_of_beq_eq_true g3
  have hj2 : j < 185 := Nat.lt_succ_of_le (Nat.le_of_ble_eq_true g5)
  subst hbj
  obtain ⟨xs, e1, e2, e3⟩ := q_take_spec na [] st _ r ht
  rw [List.append_nil] at e3
  have hrok : ∀ v ∈ r, q_okv b v := fun v hv => h1 v (by rw [e2]; exact List.mem_append_right _ hv)
  have havok : ∀ v ∈ As, q_okv b v := fun v hv => h1 v (by rw [e2]; rw [e3] at hv; exact List.mem_append_left _ (List.mem_reverse.mp hv))
  have hlen : As.length = q_na j := by
    rw [e3, List.length_reverse, e1]
    exact hna
  have hst : st.map (q_e ad) = (As.map (q_e ad)).reverse ++ r.map (q_e ad) := by
    have h6 : xs = As.reverse := by rw [e3, List.reverse_reverse]
    rw [e2, h6]
    simp
  obtain ⟨f1, f2, f3, f4⟩ := q_Lf hj1 hj2
  have hM := hC D cs ad dm base hdm h28 As M K havok hH.2.2.2 hP
  refine q_after hl hzb hrok h2 hH.2.2.1 (vx_runSX (hh := q_hh j) (As := As.map (q_e ad)) (rest := r.map (q_e ad)) ⟨hx, hb, hml, hown, hts⟩ hM (vx_cwSW (q_na j) hts (q_GoodIn ?_) rfl rfl rfl ⟨?_, ?_, f4⟩ hfit) ⟨q_Pc_blind, q_pre hK hbase hU hH⟩ rfl (by rw [List.length_map]; exact hlen) hl.1 hst (lv_room (by rw [q_sum_eq]; exact hsum)) hdg ?_) hk (fun x M' H1 locs1 q ce g1 => g1.elim)
  · intro w hw
    unfold va_wsS at hw
    rcases List.mem_append.mp hw with hw | hw
    · simp only [List.mem_cons, List.not_mem_nil, or_false] at hw
      rcases hw with rfl | rfl | rfl
      · exact q_LLg g1
      · exact q_LSg hj1 hj2
      · rw [f1]; exact q_LXg.1
    · rcases List.mem_cons.mp hw with rfl | hw
      · exact q_LCg hj1 hj2
      · exact hw
  · rw [f1]; exact q_Lpl.2.1
  · rw [f1]; exact q_Lpl.2.2
  · exact ⟨Nat.le_trans hzb hRb.1, Nat.le_trans (by omega) hRb.2⟩
/-- a static call of a method with a start of its own -/
theorem q_invSP (hx : p.tables.exec = Jvm.exec) (hb : c.code = cc) (hml : c.maxLocals = nL) (hown : s.vm.findClass (q_R own) = some m.cls) (hts : ∀ w ∈ q_G, w.before args s = true) (hRb : bi ≤ R.cells ∧ 6 * bi ≤ R.slots) {pc nx z j na bj idx : Nat} {ls : List (Nat × Q_V)} {st r : List Q_V} {M : Q_M} {As : List Q_V} {K : Option Q_V → Q_M → Prop} {PX : Array Value → State → Prop}
    (hdg : decode cc pc = .ok (.invokestatic idx, 3)) (hnx : pc + 3 = nx) (hcal : q_cal own idx = some (j, na, bj)) (hj : j < 149) (hkind : q_kind j = 1) (hfit : q_fit R j) (ht : q_take na [] st = some (As, r)) (hzb : z + bj ≤ bi) (hsum : q_sum r ≤ 8) (hbl : FrameBlind PX)
    (hpre : ∀ H locs, q_Hp D cs ad dm base s M H locs → ∀ U : State, U.heap = H → s.WarmedH U.vm → PX (As.map (q_e ad)).toArray U)
    (hM : q_wf M → vx_Met l (q_y j) (q_ws j) (q_rm j) PX (q_Qc D cs ad dm base K) (q_XC D cs ad dm base (fun _ _ => False)) (q_bud j) (6 * q_bud j) (fun q => base ≤ q))
    (hk : ∀ v M', q_nr v → K v M' → q_Zd p l e R s m args below meth c Q nL D cs ad dm base b bi (z + bj) nx ls (q_psh v r) M') :
    q_Zd p l e R s m args below meth c Q nL D cs ad dm base b bi z pc ls st M := by
  subst hnx
  intro hz h1 h2 H locs lsA hH hl
  obtain ⟨hmem, hbj, hna, hso⟩ := q_cal_i hcal hj
  have hso := hso hkind
  subst hbj
  obtain ⟨xs, e1, e2, e3⟩ := q_take_spec na [] st _ r ht
  rw [List.append_nil] at e3
  have hrok : ∀ v ∈ r, q_okv b v := fun v hv => h1 v (by rw [e2]; exact List.mem_append_right _ hv)
  have hlen : As.length = q_na j := by
    rw [hkind] at hna
    rw [e3, List.length_reverse, e1]
    exact hna
  have hst : st.map (q_e ad) = (As.map (q_e ad)).reverse ++ r.map (q_e ad) := by
    have h6 : xs = As.reverse := by rw [e3, List.reverse_reverse]
    rw [e2, h6]
    simp
  have hco := q_own_lt hj
  refine q_after hl hzb hrok h2 hH.2.2.1 (vx_runS (As := As.map (q_e ad)) (rest := r.map (q_e ad)) ⟨hx, hb, hml, hown, hts⟩ (hM hH.2.2.2) (cwS (q_na j) hts (q_GoodIn ?_) rfl rfl rfl ⟨by rw [q_ycls hj, hso], (q_ynh hj).1, (q_ynh hj).2, q_desc hj⟩ hfit) ⟨hbl, hpre H locs hH⟩ rfl (by rw [List.length_map]; exact hlen) hl.1 hst (lv_room (by rw [q_sum_eq]; exact hsum)) hdg ?_) hk (fun x M' H1 locs1 q ce g1 => g1.elim)
  · intro w hw
    unfold wsS at hw
    rcases List.mem_append.mp hw with hw | hw
    · simp only [List.mem_cons, List.not_mem_nil, or_false] at hw
      rcases hw with rfl | rfl | rfl
      · exact q_CLg hmem hj
      · exact q_Mgs hj hkind
      · rw [hso]; exact q_Ig hco
    · rcases List.mem_cons.mp hw with rfl | hw
      · exact q_Cg hj
      · exact hw
  · exact ⟨Nat.le_trans hzb hRb.1, Nat.le_trans (by omega) hRb.2⟩
end QI
/-- a step, where the room that is left is a claim, not a test; nothing is thrown -/
def q_stp2 (own mi bi : Nat) (rt : Option FieldType) (sc : Option (Nat × (Nat → Int32))) (Cc : Nat → Q_P → Prop) (K : Option Q_V → Q_M → Prop) (ins : Instr) (pc nx tg z : Nat) (ls : List (Nat × Q_V)) (st : List Q_V) (M : Q_M) (k : Q_Z) : Prop := match ins with
  | .invokevirtual idx => match q_cal own idx with
    | some (j, na, bj) => match q_take na [] st with
      | some (av, r) => match q_rcv j av && Nat.ble (q_sum r) 8 with
        | true => z + bj ≤ bi ∧ ∃ P : Q_P, Cc j P ∧ P av M (fun v M' => k (z + bj) nx ls (q_psh v r) M') (fun _ _ => False)
        | false => False
      | none => False
    | none => False
  | .invokestatic idx => match q_cal own idx with
    | some (j, na, bj) => match q_take na [] st with
      | some (av, r) => match (Nat.ble 149 j || Nat.beq (q_kind j) 1) && Nat.ble (q_sum r) 8 with
        | true => z + bj ≤ bi ∧ ∃ P : Q_P, Cc j P ∧ P av M (fun v M' => k (z + bj) nx ls (q_psh v r) M') (fun _ _ => False)
        | false => False
      | none => False
    | none => False
  | ins => q_stp own mi bi rt sc (fun _ _ => none) Cc K (fun _ _ => False) ins pc nx tg z ls st M k
theorem q_stp2_1 {own mi bi : Nat} {rt : Option FieldType} {sc : Option (Nat × (Nat → Int32))} {Cc : Nat → Q_P → Prop} {K : Option Q_V → Q_M → Prop} {ins : Instr} {pc nx tg z : Nat} {ls : List (Nat × Q_V)} {st : List Q_V} {M : Q_M} {k : Q_Z} (h : q_stp2 own mi bi rt sc Cc K ins pc nx tg z ls st M k) : q_stp own mi bi rt sc (fun _ _ => none) Cc K (fun _ _ => False) ins pc nx tg z ls st M k := by
  unfold q_stp2 at h
  split at h
  · split at h
    · rename_i hcal
      split at h
      · rename_i ht
        split at h
        · rename_i hb
          rw [Bool.and_eq_true] at hb
          unfold q_stp
          dsimp only
          rw [hcal]
          dsimp only
          rw [ht]
          dsimp only
          rw [hb.1, hb.2, Nat.ble_eq_true_of_le h.1]
          exact h.2
        · exact h.elim
      · exact h.elim
    · exact h.elim
  · split at h
    · rename_i hcal
      split at h
      · rename_i ht
        split at h
        · rename_i hb
          rw [Bool.and_eq_true] at hb
          unfold q_stp
          dsimp only
          rw [hcal]
          dsimp only
          rw [ht]
          dsimp only
          rw [hb.1, hb.2, Nat.ble_eq_true_of_le h.1]
          exact h.2
        · exact h.elim
      · exact h.elim
    · exact h.elim
  · exact h
def q_vc2 (own mi bi : Nat) (rt : Option FieldType) (sc : Option (Nat × (Nat → Int32))) (Cc : Nat → Q_P → Prop) (K : Option Q_V → Q_M → Prop) (T : Q_T) (Z : Q_Z) (stops : List Nat) : Nat → Nat → Nat → List (Nat × Q_V) → List Q_V → Q_M → Prop
  | 0, z, pc, ls, st, M => Z z pc ls st M
  | n + 1, z, pc, ls, st, M => match q_at T pc with
    | some (ins, nx, tg) => q_stp2 own mi bi rt sc Cc K ins pc nx tg z ls st M (fun z' pc' ls' st' M' => match q_stop pc' stops with
      | true => Z z' pc' ls' st' M'
      | false => q_vc2 own mi bi rt sc Cc K T Z stops n z' pc' ls' st' M')
    | none => False
/-- what a method's start asks where it reads the script -/
def q_PcX (D : va_G) (cs : Nat → ClassId) (ad : Q_Id → Nat) (dm : List Q_Id) (base : Nat) (L : Nat) (xs : Nat → Int32) (av : List Q_V) (M : Q_M) : Array Value → State → Prop := va_Pc (av.map (q_e ad)) (fun U => base ≤ U.heap.size ∧ va_P D vwCl (q_W cs ad dm M) U.heap ∧ va_K D vwCl (q_tys cs) U ∧ va_D (fun q => base ≤ q) (q_W cs ad dm M) ∧ q_U base U ∧ va_X (ad (26, 0, 0)) L xs U U.heap ∧ ad (26, 0, 0) < U.heap.size ∧ ¬ base ≤ ad (26, 0, 0))
theorem q_PcX_blind {D : va_G} {cs : Nat → ClassId} {ad : Q_Id → Nat} {dm : List Q_Id} {base L : Nat} {xs : Nat → Int32} {av : List Q_V} {M : Q_M} : FrameBlind (q_PcX D cs ad dm base L xs av M) := by
  intro a U g mk h
  obtain ⟨h0, h1, h2, h3, h4, h5, h6, h7⟩ := h
  exact ⟨h0, h1, h2, va_K.moved (u := U) (U := U.calling g mk a) (Vm.Alike.refl U.vm) h3, h4, q_U_calling g mk a h5, va_X.moved (u := U) (U := U.calling g mk a) (Vm.Alike.refl U.vm) h6, h7⟩
/-- a helper's contract, out of its walk -/
theorem q_methS {l : Launch} {b : Bool} {mi : Nat} {P : Q_P} (hm : mi = 146 ∨ mi = 147 ∨ mi = 148) (T : Q_T) (hT : q_chk (q_own mi) (q_ml mi) (q_fr mi) (q_lo mi) (q_b mi) T = true)
    (hP : ∀ (av : List Q_V) (M : Q_M) (K : Option Q_V → Q_M → Prop) (KX : Nat → Q_M → Prop), q_wf M → P av M K KX → q_sum av ≤ q_ml mi ∧ ∀ Z : Q_Z, (∀ (stops : List Nat) n z pc ls st M, q_vc2 (q_own mi) mi (q_bud mi) (q_rt mi) none (q_C2 l b) K T Z stops n z pc ls st M → Z z pc ls st M) → (∀ (ls' : List (Nat × Q_V)) z pc ls st M, Z z pc ls' st M → (∀ q ∈ ls', q ∈ ls) → Z z pc ls st M) → Z 0 0 (q_args 0 av) [] M) : q_Ct l b mi P := by
  have hmi : mi < 149 := by omega
  have hown9 : q_own mi = 9 := by rcases hm with rfl | rfl | rfl <;> rfl
  intro D cs ad dm base hdm h28 av M K KX hav hwf hPa
  obtain ⟨hlen, hwalk⟩ := hP av M K KX hwf hPa
  refine vx_ofW (cc := q_b mi) (maxL := q_ml mi) (ret := q_rt mi) (q_yplain hmi) rfl ?_
  intro p e s m args below meth c s₁ B hml hex hv
  obtain ⟨rfl, hbase, hP, hK, hD, hU⟩ := hv
  have hx := B.exec
  have hb := B.bytes
  have hr := B.returns
  have hlocks := B.notSynchronized
  have hts0 := atoms_spec (ws := q_ws mi) B.pre
  have hts : ∀ w ∈ q_G, w.before ((av.map (q_e ad)).toArray) s = true := fun w hw => hts0 w (List.mem_cons_of_mem _ hw)
  have hown : s.vm.findClass (q_R (q_own mi)) = some m.cls := by
    rw [← q_ycls hmi]
    exact findClass_of_methodNamed B.named
  rw [lg_entry_eq]
  have hl := lv_entry (av.map (q_e ad)) (n := q_ml mi) (by rw [q_sl_len]; exact hlen)
  rw [q_args_eq] at hl
  generalize (lg_sl (av.map (q_e ad)) ++ List.replicate (q_ml mi - (lg_sl (av.map (q_e ad))).length) Slot.unset).toArray = lsA at hl ⊢
  have key : ∀ (stops : List Nat) n z pc ls st M, q_vc2 (q_own mi) mi (q_bud mi) (q_rt mi) none (q_C2 l b) K T (q_Zd p l e (q_rm mi) s m (av.map (q_e ad)).toArray below meth c (vx_MQ below (q_Qc D cs ad dm base K) (q_XC D cs ad dm base KX) (av.map (q_e ad)).toArray s (q_bud mi) (6 * q_bud mi) (fun q => base ≤ q)) (q_ml mi) D cs ad dm base b (q_bud mi)) stops n z pc ls st M → q_Zd p l e (q_rm mi) s m (av.map (q_e ad)).toArray below meth c (vx_MQ below (q_Qc D cs ad dm base K) (q_XC D cs ad dm base KX) (av.map (q_e ad)).toArray s (q_bud mi) (6 * q_bud mi) (fun q => base ≤ q)) (q_ml mi) D cs ad dm base b (q_bud mi) z pc ls st M := by
    intro stops n
    induction n with
    | zero => exact fun z pc ls st M h => h
    | succ n ih =>
      intro z pc ls st M h
      unfold q_vc2 at h
      split at h
      · rename_i ins nx tg hat
        have hq := List.all_eq_true.mp hT _ (q_at_mem hat)
        simp only [Bool.and_eq_true, decide_eq_true_eq] at hq
        obtain ⟨hd1, hd2, hd3⟩ := hq
        refine q_step hx hb hml hown hts hK hbase hU hdm h28 ⟨Nat.le_refl _, Nat.le_refl _⟩ q_C2c (fun x g => by cases g) (fun ins z pc ls st M g1 g2 => q_ends hx hb hr hlocks ins z pc ls st M g1 g2) ?_ ?_ ?_ hd1 (Nat.eq_of_beq_eq_true hd2) hd3 (fun z1 pc1 ls1 st1 M1 g => ?_) (q_stp2_1 h)
        · intro idx pc z E x ls st M g1 g2 g3 _ g4
          exact g4.elim
        · intro pc z x ls r M' g1
          exact g1.elim
        · intro idx j na bj pc z ls st av r M P K1 KX1 g1 g2 g3 g4 g5 g6 g7 g8 g9 g10
          have hkx : KX1 = fun _ _ => False := funext fun x => funext fun M' => propext ⟨fun g => g10 x M' g, fun g => g.elim⟩
          rw [hkx] at g8
          rw [hown9] at g2 hown
          rcases g7 with g7 | g7
          · exact absurd g7.1 (Nat.not_lt.mpr g1)
          · exact q_invSL hx hb hml hown hts hK hbase hU hdm h28 ⟨Nat.le_refl _, Nat.le_refl _⟩ g3 rfl g2 g1 (q_Lfit2' hm g1 g7.2.1) g4 g5 g6 g7.2.2 g8 (fun v M' _ g => g9 v M' g)
        · cases hst : q_stop pc1 stops with
          | true => rw [hst] at g; exact g
          | false => rw [hst] at g; exact ih z1 pc1 ls1 st1 M1 g
      · exact h.elim
  refine hwalk _ key (fun ls' z pc ls st M h hsub hz h1 h2 H locs lsA hH hl => h hz h1 (fun q hq => h2 q (hsub q hq)) H locs lsA hH ⟨hl.1, hl.2.1, fun q hq => ?_⟩) (Nat.zero_le _) (fun v hv => nomatch hv) (q_args_ok av 0 hav) s.heap [] lsA ⟨hP, hD, va_S.rf, hwf⟩ hl
  obtain ⟨x, hx, rfl⟩ := List.mem_map.mp hq
  exact hl.2.2 _ (List.mem_map.mpr ⟨x, hsub x hx, rfl⟩)
/-- the script's cells are read by a method of their own: it answers some number -/
theorem cL_cell_met {l : Launch} {b : Bool} {D : va_G} {cs : Nat → ClassId} {ad : Q_Id → Nat} {dm : List Q_Id} {base L : Nat} {xs : Nat → Int32} (hdm : ∀ i, q_ok b i → i ∈ dm) (h28 : ∀ q : Nat, ad (28, q, 0) = q) (hL : L < 2 ^ 31) {M : Q_M} (hwf : q_wf M) {k : Nat} (hk : k < 60) {K : Option Q_V → Q_M → Prop} (hK : ∀ v : Int32, K (some (.inl v)) M) : vx_Met l (q_y 145) (q_ws 145) (q_rm 145) (q_PcX D cs ad dm base L xs [.inr (.inl (26, 0, 0)), .inl (nI k)] M) (q_Qc D cs ad dm base K) (q_XC D cs ad dm base (fun _ _ => False)) (q_bud 145) (6 * q_bud 145) (fun q => base ≤ q) := by
  have hmi : 145 < 149 := by decide
  refine vx_ofW (cc := q_b 145) (maxL := q_ml 145) (ret := q_rt 145) (q_yplain hmi) rfl ?_
  intro p e s m args below meth c s₁ B hml hex hv
  obtain ⟨rfl, hbase, hP, hKK, hD, hU, hX⟩ := hv
  have hx := B.exec
  have hb := B.bytes
  have hr := B.returns
  have hlocks := B.notSynchronized
  have hts0 := atoms_spec (ws := q_ws 145) B.pre
  have hts : ∀ w ∈ q_G, w.before (([.inr (.inl (26, 0, 0)), .inl (nI k)] : List Q_V).map (q_e ad)).toArray s = true := fun w hw => hts0 w (List.mem_cons_of_mem _ hw)
  have hown : s.vm.findClass (q_R (q_own 145)) = some m.cls := by
    rw [← q_ycls hmi]
    exact findClass_of_methodNamed B.named
  rw [lg_entry_eq]
  have hl := lv_entry (([.inr (.inl (26, 0, 0)), .inl (nI k)] : List Q_V).map (q_e ad)) (n := q_ml 145) (by rw [q_sl_len]; exact Nat.le_of_ble_eq_true rfl)
  rw [q_args_eq] at hl
  generalize (lg_sl (([.inr (.inl (26, 0, 0)), .inl (nI k)] : List Q_V).map (q_e ad)) ++ List.replicate (q_ml 145 - (lg_sl (([.inr (.inl (26, 0, 0)), .inl (nI k)] : List Q_V).map (q_e ad))).length) Slot.unset).toArray = lsA at hl ⊢
  have key : ∀ (stops : List Nat) n z pc ls st M, q_vc2 (q_own 145) 145 (q_bud 145) (q_rt 145) (some (L, xs)) (fun _ _ => False) K TL_cell (q_Zd p l e (q_rm 145) s m (([.inr (.inl (26, 0, 0)), .inl (nI k)] : List Q_V).map (q_e ad)).toArray below meth c (vx_MQ below (q_Qc D cs ad dm base K) (q_XC D cs ad dm base (fun _ _ => False)) (([.inr (.inl (26, 0, 0)), .inl (nI k)] : List Q_V).map (q_e ad)).toArray s (q_bud 145) (6 * q_bud 145) (fun q => base ≤ q)) (q_ml 145) D cs ad dm base b (q_bud 145)) stops n z pc ls st M → q_Zd p l e (q_rm 145) s m (([.inr (.inl (26, 0, 0)), .inl (nI k)] : List Q_V).map (q_e ad)).toArray below meth c (vx_MQ below (q_Qc D cs ad dm base K) (q_XC D cs ad dm base (fun _ _ => False)) (([.inr (.inl (26, 0, 0)), .inl (nI k)] : List Q_V).map (q_e ad)).toArray s (q_bud 145) (6 * q_bud 145) (fun q => base ≤ q)) (q_ml 145) D cs ad dm base b (q_bud 145) z pc ls st M := by
    intro stops n
    induction n with
    | zero => exact fun z pc ls st M h => h
    | succ n ih =>
      intro z pc ls st M h
      unfold q_vc2 at h
      split at h
      · rename_i ins nx tg hat
        have hq := List.all_eq_true.mp kL_cell _ (q_at_mem hat)
        simp only [Bool.and_eq_true, decide_eq_true_eq] at hq
        obtain ⟨hd1, hd2, hd3⟩ := hq
        refine q_step hx hb hml hown hts hKK hbase hU hdm h28 ⟨Nat.le_refl _, Nat.le_refl _⟩ (fun _ _ _ h => h.elim) (fun x g => ?_) (fun ins z pc ls st M g1 g2 => q_ends hx hb hr hlocks ins z pc ls st M g1 g2) ?_ ?_ ?_ hd1 (Nat.eq_of_beq_eq_true hd2) hd3 (fun z1 pc1 ls1 st1 M1 g => ?_) (q_stp2_1 h)
        · cases g
          exact ⟨hL, hX⟩
        · intro idx pc z E x ls st M g1 g2 g3 _ g4
          exact g4.elim
        · intro pc z x ls r M' g1
          exact g1.elim
        · intro idx j na bj pc z ls st av r M P K1 KX1 g1 g2 g3 g4 g5 g6 g7
          exact g7.elim
        · cases hst : q_stop pc1 stops with
          | true => rw [hst] at g; exact g
          | false => rw [hst] at g; exact ih z1 pc1 ls1 st1 M1 g
      · exact h.elim
  have walk : q_vc2 (q_own 145) 145 (q_bud 145) (q_rt 145) (some (L, xs)) (fun _ _ => False) K TL_cell (q_Zd p l e (q_rm 145) s m (([.inr (.inl (26, 0, 0)), .inl (nI k)] : List Q_V).map (q_e ad)).toArray below meth c (vx_MQ below (q_Qc D cs ad dm base K) (q_XC D cs ad dm base (fun _ _ => False)) (([.inr (.inl (26, 0, 0)), .inl (nI k)] : List Q_V).map (q_e ad)).toArray s (q_bud 145) (6 * q_bud 145) (fun q => base ≤ q)) (q_ml 145) D cs ad dm base b (q_bud 145)) [] 30 0 0 (q_args 0 [.inr (.inl (26, 0, 0)), .inl (nI k)]) [] M := by
    refine ⟨rfl, ?_⟩
    refine And.intro (fun _ => ?_) (fun g => ?_)
    · exact ⟨by decide, hK _⟩
    · refine ⟨k, rfl, rfl, ?_, hK _⟩
      exact Nat.lt_of_not_le (fun h => g (nI_le h (by omega)))
  exact key [] 30 0 0 (q_args 0 [.inr (.inl (26, 0, 0)), .inl (nI k)]) [] M walk (Nat.zero_le _) (fun v hv => by cases hv) (q_args_ok _ 0 (fun v hv => by
    simp only [List.mem_cons, List.not_mem_nil, or_false] at hv
    rcases hv with rfl | rfl
    · exact Or.inr (Or.inl rfl)
    · trivial)) s.heap [] lsA ⟨hP, hD, va_S.rf, hwf⟩ hl
