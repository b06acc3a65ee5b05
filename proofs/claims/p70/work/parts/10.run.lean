-- CALLS OF METHODS BY THEIR NUMBERS; ENDS
theorem q_cal_i {own idx j na bj : Nat} (h : q_cal own idx = some (j, na, bj)) (hj : j < 149) : (own, (idx, (j, (na, bj)))) ∈ q_CL ∧ bj = q_bud j ∧ na = q_na j + (match q_kind j with | 1 => 0 | _ => 1) ∧ (q_kind j = 1 → own = q_own j) := by
  have hm := q_find_mem h
  have h1 := q_nums
  rw [Bool.and_eq_true] at h1
  have h2 := List.all_eq_true.mp h1.2 (own, (idx, (j, (na, bj)))) (List.mem_filter.mpr ⟨hm, Nat.ble_eq_true_of_le (by show j ≤ 148; omega)⟩)
  simp only [Bool.and_eq_true] at h2
  refine ⟨hm, Nat.eq_of_beq_eq_true h2.1, Nat.eq_of_beq_eq_true h2.2.1, fun hk => ?_⟩
  have h3 := h2.2.2
  rw [hk] at h3
  exact Nat.eq_of_beq_eq_true h3
section QC
variable {p : Program} {l : Launch} {e : Env} {R : Room} {s : State} {m : MethodId} {args : Array Value} {below : List Frame} {meth : Method} {c : Code} {Q : State → Prop}
variable {cc : ByteArray} {nL own bi : Nat} {D : va_G} {cs : Nat → ClassId} {ad : Q_Id → Nat} {dm : List Q_Id} {base : Nat} {b : Bool}
theorem q_pre {H : Heap} {locs : List Loc} {M : Q_M} {av : List Q_V} (hK : va_K D vwCl (q_tys cs) s) (hbase : base ≤ s.heap.size) (hU : q_U base s) (hH : q_Hp D cs ad dm base s M H locs) : ∀ U : State, U.heap = H → s.WarmedH U.vm → q_Pc D cs ad dm base av M (av.map (q_e ad)).toArray U := by
  intro U hU2 hW
  refine ⟨rfl, ?_, by rw [hU2]; exact hH.1, va_K.moved hW.alike hK, hH.2.1, q_U_warm hW (by rw [hU2]; exact hH.2.2.1.1) (fun a h1 h2 => by rw [hU2]; exact hH.2.2.1.2.1 a h1 h2) hU⟩
  rw [hU2]
  exact Nat.le_trans hbase hH.2.2.1.1
theorem q_invV (hx : p.tables.exec = Jvm.exec) (hb : c.code = cc) (hml : c.maxLocals = nL) (hown : s.vm.findClass (q_R own) = some m.cls) (hts : ∀ w ∈ q_G, w.before args s = true) (hK : va_K D vwCl (q_tys cs) s) (hbase : base ≤ s.heap.size) (hU : q_U base s) (hdm : ∀ i, q_ok b i → i ∈ dm) (h28 : ∀ q : Nat, ad (28, q, 0) = q) (hRb : bi ≤ R.cells ∧ 6 * bi ≤ R.slots) {pc nx z j na bj idx : Nat} {ls : List (Nat × Q_V)} {st r : List Q_V} {M : Q_M} {i0 : Q_Id} {As : List Q_V} {L : List Q_S} {P : Q_P} {K : Option Q_V → Q_M → Prop} {KX : Nat → Q_M → Prop}
    (hdg : decode cc pc = .ok (.invokevirtual idx, 3)) (hnx : pc + 3 = nx) (hcal : q_cal own idx = some (j, na, bj)) (hj : j < 149) (hkind : q_kind j = 0) (hfit : q_fit R j) (ht : q_take na [] st = some (.inr (.inl i0) :: As, r)) (hL : q_lay i0.1 = some (q_own j, L)) (hzb : z + bj ≤ bi) (hsum : q_sum r ≤ 8) (hC : q_Ct l b j P) (hP : P (.inr (.inl i0) :: As) M K KX)
    (hk : ∀ v M', q_nr v → K v M' → q_Zd p l e R s m args below meth c Q nL D cs ad dm base b bi (z + bj) nx ls (q_psh v r) M')
    (hthr : ∀ (x : Nat) (M' : Q_M) (H1 : Heap) (locs1 : List Loc) (lsA : Array Slot) (q : Nat) (ce : Cell), KX x M' → q_Hp D cs ad dm base s M' H1 locs1 → lv_has lsA nL (q_lp ad ls) → H1[q]? = some ce → ce.vm = .none → s.vm.findClass (q_en x) = some ce.cls → vx_W p l e R s m args below meth c H1 locs1 (z + bj) (6 * (z + bj)) Q (F0 m pc lsA (r.map (q_e ad))) q) :
    q_Zd p l e R s m args below meth c Q nL D cs ad dm base b bi z pc ls st M := by
  subst hnx
  intro hz h1 h2 H locs lsA hH hl
  obtain ⟨hmem, hbj, hna, -⟩ := q_cal_i hcal hj
  subst hbj
  obtain ⟨xs, e1, e2, e3⟩ := q_take_spec na [] st _ r ht
  rw [List.append_nil] at e3
  have hrok : ∀ v ∈ r, q_okv b v := fun v hv => h1 v (by rw [e2]; exact List.mem_append_right _ hv)
  have havok : ∀ v ∈ (.inr (.inl i0) :: As : List Q_V), q_okv b v := fun v hv => h1 v (by rw [e2]; rw [e3] at hv; exact List.mem_append_left _ (List.mem_reverse.mp hv))
  have hlen : As.length = q_na j := by
    have h5 : (Sum.inr (Sum.inl i0) :: As : List Q_V).length = na := by rw [e3, List.length_reverse, e1]
    rw [hkind] at hna
    have hna : na = q_na j + 1 := hna
    simp only [List.length_cons] at h5
    omega
  have hst : st.map (q_e ad) = (As.map (q_e ad)).reverse ++ .ref (ad i0) :: r.map (q_e ad) := by
    have h6 : xs = (Sum.inr (Sum.inl i0) :: As : List Q_V).reverse := by rw [e3, List.reverse_reverse]
    rw [e2, h6]
    simp [q_e]
  have hi0 := q_okdm hdm (havok _ List.mem_cons_self) (q_lay_ne hL).1 (q_lay_ne hL).2
  obtain ⟨q0, -, hq⟩ := q_Wget (cs := cs) (ad := ad) (M := M) hi0
  rw [q_enc_obj hL] at hq
  have hco := q_own_lt hj
  have hM := hC D cs ad dm base hdm h28 (.inr (.inl i0) :: As) M K KX havok hH.2.2.2 hP
  refine q_after hl hzb hrok h2 hH.2.2.1 (vx_runV (As := As.map (q_e ad)) (rest := r.map (q_e ad)) (b := ad i0) (C := q_R (q_own j)) ⟨hx, hb, hml, hown, hts⟩ hM (cwV (q_na j) hts (q_GoodIn ?_) rfl rfl rfl ⟨q_ycls hj, (q_ynh hj).1, (q_ynh hj).2, q_desc hj⟩ hfit) ⟨q_Pc_blind, ?_, q_pre hK hbase hU hH⟩ rfl (by rw [List.length_map]; exact hlen) hl.1 hst (lv_room (by rw [q_sum_eq]; exact hsum)) hdg ?_) hk (fun x M' H1 locs1 q ce g1 g2 => hthr x M' H1 locs1 lsA q ce g1 g2 hl)
  · intro w hw
    unfold wsV at hw
    rcases List.mem_append.mp hw with hw | hw
    · simp only [List.mem_cons, List.not_mem_nil, or_false] at hw
      rcases hw with rfl | rfl | rfl | rfl
      · exact q_CLg hmem hj
      · exact q_Mgi hj (by rw [hkind]; decide)
      · exact q_Sg hj hkind
      · exact q_Ig hco
    · rcases List.mem_cons.mp hw with rfl | hw
      · exact q_Cg hj
      · exact hw
  · have hcl : (q_R (q_own j)) = (q_cl (q_own j)).1 := by
      have h9 := q_lay_lt hL
      have key : ∀ n, n < 9 → q_R n = (q_cl n).1 := by
        intro n hn
        match n, hn with
        | 0, _ => rfl
        | 1, _ => rfl
        | 2, _ => rfl
        | 3, _ => rfl
        | 4, _ => rfl
        | 5, _ => rfl
        | 6, _ => rfl
        | 7, _ => rfl
        | 8, _ => rfl
        | n + 9, h => omega
      exact key _ h9
    rw [hcl]
    exact va_recv hK hH.1 (q_clat hco) hq
  · exact ⟨Nat.le_trans hzb hRb.1, Nat.le_trans (by omega) hRb.2⟩
theorem q_invS (hx : p.tables.exec = Jvm.exec) (hb : c.code = cc) (hml : c.maxLocals = nL) (hown : s.vm.findClass (q_R own) = some m.cls) (hts : ∀ w ∈ q_G, w.before args s = true) (hK : va_K D vwCl (q_tys cs) s) (hbase : base ≤ s.heap.size) (hU : q_U base s) (hdm : ∀ i, q_ok b i → i ∈ dm) (h28 : ∀ q : Nat, ad (28, q, 0) = q) (hRb : bi ≤ R.cells ∧ 6 * bi ≤ R.slots) {pc nx z j na bj idx : Nat} {ls : List (Nat × Q_V)} {st r : List Q_V} {M : Q_M} {As : List Q_V} {P : Q_P} {K : Option Q_V → Q_M → Prop} {KX : Nat → Q_M → Prop}
    (hdg : decode cc pc = .ok (.invokestatic idx, 3)) (hnx : pc + 3 = nx) (hcal : q_cal own idx = some (j, na, bj)) (hj : j < 149) (hkind : q_kind j = 1) (hfit : q_fit R j) (ht : q_take na [] st = some (As, r)) (hzb : z + bj ≤ bi) (hsum : q_sum r ≤ 8) (hC : q_Ct l b j P) (hP : P As M K KX)
    (hk : ∀ v M', q_nr v → K v M' → q_Zd p l e R s m args below meth c Q nL D cs ad dm base b bi (z + bj) nx ls (q_psh v r) M')
    (hthr : ∀ (x : Nat) (M' : Q_M) (H1 : Heap) (locs1 : List Loc) (lsA : Array Slot) (q : Nat) (ce : Cell), KX x M' → q_Hp D cs ad dm base s M' H1 locs1 → lv_has lsA nL (q_lp ad ls) → H1[q]? = some ce → ce.vm = .none → s.vm.findClass (q_en x) = some ce.cls → vx_W p l e R s m args below meth c H1 locs1 (z + bj) (6 * (z + bj)) Q (F0 m pc lsA (r.map (q_e ad))) q) :
    q_Zd p l e R s m args below meth c Q nL D cs ad dm base b bi z pc ls st M := by
  subst hnx
  intro hz h1 h2 H locs lsA hH hl
  obtain ⟨hmem, hbj, hna, hso⟩ := q_cal_i hcal hj
  have hso := hso hkind
  subst hbj
  obtain ⟨xs, e1, e2, e3⟩ := q_take_spec na [] st _ r ht
  rw [List.append_nil] at e3
  have hrok : ∀ v ∈ r, q_okv b v := fun v hv => h1 v (by rw [e2]; exact List.mem_append_right _ hv)
  have havok : ∀ v ∈ As, q_okv b v := fun v hv => h1 v (by rw [e2]; rw [e3] at hv; exact List.mem_append_left _ (List.mem_reverse.mp hv))
  have hlen : As.length = q_na j := by
    rw [hkind] at hna
    rw [e3, List.length_reverse, e1]
    exact hna
  have hst : st.map (q_e ad) = (As.map (q_e ad)).reverse ++ r.map (q_e ad) := by
    have h6 : xs = As.reverse := by rw [e3, List.reverse_reverse]
    rw [e2, h6]
    simp
  have hco := q_own_lt hj
  have hM := hC D cs ad dm base hdm h28 As M K KX havok hH.2.2.2 hP
  refine q_after hl hzb hrok h2 hH.2.2.1 (vx_runS (As := As.map (q_e ad)) (rest := r.map (q_e ad)) ⟨hx, hb, hml, hown, hts⟩ hM (cwS (q_na j) hts (q_GoodIn ?_) rfl rfl rfl ⟨by rw [q_ycls hj, hso], (q_ynh hj).1, (q_ynh hj).2, q_desc hj⟩ hfit) ⟨q_Pc_blind, q_pre hK hbase hU hH⟩ rfl (by rw [List.length_map]; exact hlen) hl.1 hst (lv_room (by rw [q_sum_eq]; exact hsum)) hdg ?_) hk (fun x M' H1 locs1 q ce g1 g2 => hthr x M' H1 locs1 lsA q ce g1 g2 hl)
  · intro w hw
    unfold wsS at hw
    rcases List.mem_append.mp hw with hw | hw
    · simp only [List.mem_cons, List.not_mem_nil, or_false] at hw
      rcases hw with rfl | rfl | rfl
      · exact q_CLg hmem hj
      · exact q_Mgs hj hkind
      · rw [hso]; exact q_Ig hco
    · rcases List.mem_cons.mp hw with rfl | hw
      · exact q_Cg hj
      · exact hw
  · exact ⟨Nat.le_trans hzb hRb.1, Nat.le_trans (by omega) hRb.2⟩
/-- the ends -/
theorem q_fin {K : Option Q_V → Q_M → Prop} {XC : String → State → State → Prop} {pc z : Nat} {ls : List (Nat × Q_V)} {st : List Q_V} {M : Q_M} {v : Option Q_V} (hq : K v M) (hnr : q_nr v)
    (hw : ∀ (H : Heap) (locs : List Loc) (lsA : Array Slot), (∀ t : State, t.heap = H → s.WarmedH t.vm → q_Qc D cs ad dm base K args s (.returned (v.map (q_e ad))) t) → (∀ q ∈ locs, base ≤ q.base) → W p l e R s m args below meth c H locs bi (6 * bi) (MQ below (q_Qc D cs ad dm base K) args s bi (6 * bi) (fun q => base ≤ q)) (F0 m pc lsA (st.map (q_e ad)))) :
    q_Zd p l e R s m args below meth c (vx_MQ below (q_Qc D cs ad dm base K) XC args s bi (6 * bi) (fun q => base ≤ q)) nL D cs ad dm base b bi z pc ls st M := by
  intro hz h1 h2 H locs lsA hH hl
  refine W.widen hz (Nat.mul_le_mul_left 6 hz) (vx_ret ?_)
  exact hw H locs lsA (fun t ht hW => ⟨v, M, rfl, hq, hnr, hH.2.2.2, by rw [ht]; exact hH.1, hH.2.1, hH.2.2.1.F ht⟩) hH.2.2.1.2.2
end QC
