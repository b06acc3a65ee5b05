-- THE LAW: ITS STEPS, SOUND
theorem q_Lfit : (List.range 39).all (fun i => Nat.ble (q_fr (264 + i) + 1) 13 && Nat.ble (8 + (q_ml (264 + i) + 11) + q_lo (264 + i)) 474) = true := by decide +kernel
theorem q_Lfit' {j : Nat} (h1 : 264 ≤ j) (h2 : j < 303) : q_fit room_1 j := by
  have h := List.all_eq_true.mp q_Lfit (j - 264) (List.mem_range.mpr (by omega))
  rw [show 264 + (j - 264) = j by omega, Bool.and_eq_true] at h
  exact ⟨Nat.le_of_ble_eq_true h.1, Nat.le_of_ble_eq_true h.2⟩
section QI
variable {p : Program} {l : Launch} {e : Env} {R : Room} {s : State} {m : MethodId} {args : Array Value} {below : List Frame} {meth : Method} {c : Code} {Q : State → Prop}
variable {cc : ByteArray} {nL own bi : Nat} {D : va_G} {cs : Nat → ClassId} {ad : Q_Id → Nat} {dm : List Q_Id} {base : Nat} {b : Bool}
theorem q_invSL (hx : p.tables.exec = Jvm.exec) (hb : c.code = cc) (hml : c.maxLocals = nL) (hown : s.vm.findClass (q_R 10) = some m.cls) (hts : ∀ w ∈ q_G, w.before args s = true) (hK : va_K D vwCl (q_tys cs) s) (hbase : base ≤ s.heap.size) (hU : q_U base s) (hdm : ∀ i, q_ok b i → i ∈ dm) (h28 : ∀ q : Nat, ad (28, q, 0) = q) (hRb : bi ≤ R.cells ∧ 6 * bi ≤ R.slots) {pc nx z j na bj idx : Nat} {ls : List (Nat × Q_V)} {st r : List Q_V} {M : Q_M} {As : List Q_V} {P : Q_P} {K : Option Q_V → Q_M → Prop}
    (hdg : decode cc pc = .ok (.invokestatic idx, 3)) (hnx : pc + 3 = nx) (hcal : q_cal 10 idx = some (j, na, bj)) (hj1 : 264 ≤ j) (hfit : q_fit R j) (ht : q_take na [] st = some (As, r)) (hzb : z + bj ≤ bi) (hsum : q_sum r ≤ 8) (hC : q_CtL l b j P) (hP : P As M K (fun _ _ => False))
    (hk : ∀ v M', q_nr v → K v M' → q_Zd p l e R s m args below meth c Q nL D cs ad dm base b bi (z + bj) nx ls (q_psh v r) M') :
    q_Zd p l e R s m args below meth c Q nL D cs ad dm base b bi z pc ls st M := by
  subst hnx
  intro hz h1 h2 H locs lsA hH hl
  have hg := List.all_eq_true.mp q_LCl (10, (idx, (j, (na, bj)))) (List.mem_filter.mpr ⟨q_find_mem hcal, Nat.ble_eq_true_of_le hj1⟩)
  simp only [Bool.and_eq_true, decide_eq_true_eq] at hg
  obtain ⟨g1, g2, g3, g4, g5⟩ := hg
  have hbj : bj = q_bud j := Nat.eq_of_beq_eq_true g2
  have hna : na = q_na j := Nat.eq_of_beq_eq_true g3
  have hj2 : j < 303 := Nat.lt_succ_of_le (Nat.le_of_ble_eq_true g5)
  subst hbj
  obtain ⟨xs, e1, e2, e3⟩ := q_take_spec na [] st _ r ht
  rw [List.append_nil] at e3
  have hrok : ∀ v ∈ r, q_okv b v := fun v hv => h1 v (by rw [e2]; exact List.mem_append_right _ hv)
  have havok : ∀ v ∈ As, q_okv b v := fun v hv => h1 v (by rw [e2]; rw [e3] at hv; exact List.mem_append_left _ (List.mem_reverse.mp hv))
  have hlen : As.length = q_na j := by
    rw [e3, List.length_reverse, e1]
    exact hna
  have hst : st.map (q_e ad) = (As.map (q_e ad)).reverse ++ r.map (q_e ad) := by
    have h6 : xs = As.reverse := by rw [e3, List.reverse_reverse]
    rw [e2, h6]
    simp
  obtain ⟨f1, f2, f3, f4⟩ := q_Lf hj1 hj2
  have hM := hC D cs ad dm base hdm h28 As M K havok hH.2.2.2 hP
  refine q_after hl hzb hrok h2 hH.2.2.1 (vx_runSX (hh := q_hh j) (As := As.map (q_e ad)) (rest := r.map (q_e ad)) ⟨hx, hb, hml, hown, hts⟩ hM (vx_cwSW (q_na j) hts (q_GoodIn ?_) rfl rfl rfl ⟨?_, ?_, f4⟩ hfit) ⟨q_Pc_blind, q_pre hK hbase hU hH⟩ rfl (by rw [List.length_map]; exact hlen) hl.1 hst (lv_room (by rw [q_sum_eq]; exact hsum)) hdg ?_) hk (fun x M' H1 locs1 q ce g1 => g1.elim)
  · intro w hw
    unfold va_wsS at hw
    rcases List.mem_append.mp hw with hw | hw
    · simp only [List.mem_cons, List.not_mem_nil, or_false] at hw
      rcases hw with rfl | rfl | rfl
      · exact q_LLg g1
      · exact q_LSg hj1 hj2
      · rw [f1]; exact q_LXg.1
    · rcases List.mem_cons.mp hw with rfl | hw
      · exact q_LCg hj1 hj2
      · exact hw
  · rw [f1]; exact q_Lpl.2.1
  · rw [f1]; exact q_Lpl.2.2
  · exact ⟨Nat.le_trans hzb hRb.1, Nat.le_trans (by omega) hRb.2⟩
theorem q_invM (hx : p.tables.exec = Jvm.exec) (hb : c.code = cc) (hml : c.maxLocals = nL) (hown : s.vm.findClass (q_R own) = some m.cls) (hts : ∀ w ∈ q_G, w.before args s = true) (hK : va_K D vwCl (q_tys cs) s) (hdm : ∀ i, q_ok b i → i ∈ dm) (hRb : bi ≤ R.cells ∧ 6 * bi ≤ R.slots) {pc nx z j na bj idx : Nat} {ls : List (Nat × Q_V)} {st r : List Q_V} {M : Q_M} {i0 : Q_Id} {As : List Q_V} {L : List Q_S} {K : Option Q_V → Q_M → Prop} {PX : Array Value → State → Prop}
    (hdg : decode cc pc = .ok (.invokevirtual idx, 3)) (hnx : pc + 3 = nx) (hcal : q_cal own idx = some (j, na, bj)) (hj : j < 264) (hkind : q_kind j = 0) (hfit : q_fit R j) (ht : q_take na [] st = some (.inr (.inl i0) :: As, r)) (hL : q_lay i0.1 = some (q_own j, L)) (hzb : z + bj ≤ bi) (hsum : q_sum r ≤ 8) (hbl : FrameBlind PX)
    (hpre : ∀ H locs, q_Hp D cs ad dm base s M H locs → ∀ U : State, U.heap = H → s.WarmedH U.vm → PX ((Sum.inr (Sum.inl i0) :: As : List Q_V).map (q_e ad)).toArray U)
    (hM : q_wf M → vx_Met l (q_y j) (q_ws j) (q_rm j) PX (q_Qc D cs ad dm base K) (q_XC D cs ad dm base (fun _ _ => False)) (q_bud j) (6 * q_bud j) (fun q => base ≤ q))
    (hk : ∀ v M', q_nr v → K v M' → q_Zd p l e R s m args below meth c Q nL D cs ad dm base b bi (z + bj) nx ls (q_psh v r) M') :
    q_Zd p l e R s m args below meth c Q nL D cs ad dm base b bi z pc ls st M := by
  subst hnx
  intro hz h1 h2 H locs lsA hH hl
  obtain ⟨hmem, hbj, hna, -⟩ := q_cal_i hcal hj
  subst hbj
  obtain ⟨xs, e1, e2, e3⟩ := q_take_spec na [] st _ r ht
  rw [List.append_nil] at e3
  have hrok : ∀ v ∈ r, q_okv b v := fun v hv => h1 v (by rw [e2]; exact List.mem_append_right _ hv)
  have havok : ∀ v ∈ (.inr (.inl i0) :: As : List Q_V), q_okv b v := fun v hv => h1 v (by rw [e2]; rw [e3] at hv; exact List.mem_append_left _ (List.mem_reverse.mp hv))
  have hlen : As.length = q_na j := by
    have h5 : (Sum.inr (Sum.inl i0) :: As : List Q_V).length = na := by rw [e3, List.length_reverse, e1]
    rw [hkind] at hna
    have hna : na = q_na j + 1 := hna
    simp only [List.length_cons] at h5
    omega
  have hst : st.map (q_e ad) = (As.map (q_e ad)).reverse ++ .ref (ad i0) :: r.map (q_e ad) := by
    have h6 : xs = (Sum.inr (Sum.inl i0) :: As : List Q_V).reverse := by rw [e3, List.reverse_reverse]
    rw [e2, h6]
    simp [q_e]
  have hi0 := q_okdm hdm (havok _ List.mem_cons_self) (q_lay_ne hL).1 (q_lay_ne hL).2
  obtain ⟨q0, -, hq⟩ := q_Wget (cs := cs) (ad := ad) (M := M) hi0
  rw [q_enc_obj hL] at hq
  have hco := q_own_lt hj
  refine q_after hl hzb hrok h2 hH.2.2.1 (vx_runV (As := As.map (q_e ad)) (rest := r.map (q_e ad)) (b := ad i0) (C := q_R (q_own j)) ⟨hx, hb, hml, hown, hts⟩ (hM hH.2.2.2) (cwV (q_na j) hts (q_GoodIn ?_) rfl rfl rfl ⟨q_ycls hj, (q_ynh hj).1, (q_ynh hj).2, q_desc hj⟩ hfit) ⟨hbl, ?_, hpre H locs hH⟩ rfl (by rw [List.length_map]; exact hlen) hl.1 hst (lv_room (by rw [q_sum_eq]; exact hsum)) hdg ?_) hk (fun x M' H1 locs1 q ce g1 => g1.elim)
  · intro w hw
    unfold wsV at hw
    rcases List.mem_append.mp hw with hw | hw
    · simp only [List.mem_cons, List.not_mem_nil, or_false] at hw
      rcases hw with rfl | rfl | rfl | rfl
      · exact q_CLg hmem hj
      · exact q_Mgi hj (by rw [hkind]; decide)
      · exact q_Sg hj hkind
      · exact q_Ig hco
    · rcases List.mem_cons.mp hw with rfl | hw
      · exact q_Cg hj
      · exact hw
  · have hcl : (q_R (q_own j)) = (q_cl (q_own j)).1 := by
      have key : ∀ n, n < 10 → q_R n = (q_cl n).1 := by
        intro n hn
        match n, hn with
        | 0, _ => rfl
        | 1, _ => rfl
        | 2, _ => rfl
        | 3, _ => rfl
        | 4, _ => rfl
        | 5, _ => rfl
        | 6, _ => rfl
        | 7, _ => rfl
        | 8, _ => rfl
        | 9, _ => rfl
        | n + 10, h => omega
      exact key _ hco
    rw [hcl]
    exact va_recv hK hH.1 (q_clat hco) hq
  · exact ⟨Nat.le_trans hzb hRb.1, Nat.le_trans (by omega) hRb.2⟩
end QI
def lw_K : Option Q_V → Q_M → Prop := fun v _ => v = some (.inl (nI 1))
/-- the law, from this point on -/
abbrev lw_D (p : Program) (l : Launch) (e : Env) (s : State) (m : MethodId) (args : Array Value) (below : List Frame) (meth : Method) (c : Code) (Q : State → Prop) (D : va_G) (cs : Nat → ClassId) (ad : Q_Id → Nat) (dm : List Q_Id) : Q_Z := q_Zd p l e room_1 s m args below meth c Q 9 D cs ad dm s.heap.size false 601024
section QK
variable {p : Program} {l : Launch} {e : Env} {s : State} {m : MethodId} {args : Array Value} {below : List Frame} {meth : Method} {c : Code} {Q : State → Prop}
variable {D : va_G} {cs : Nat → ClassId} {ad : Q_Id → Nat} {dm : List Q_Id} {L : Nat} {xs : Nat → Int32}
theorem lw_key (hx : p.tables.exec = Jvm.exec) (hb : c.code = code) (hml : c.maxLocals = 9) (hown : s.vm.findClass (q_R 10) = some m.cls) (hts : ∀ w ∈ q_G, w.before args s = true) (hK : va_K D vwCl (q_tys cs) s) (hU : q_U s.heap.size s) (hdm : ∀ i, q_ok false i → i ∈ dm) (h28 : ∀ q : Nat, ad (28, q, 0) = q) (hX : va_X (ad (26, 0, 0)) L xs s s.heap) (hbl : ad (26, 0, 0) < s.heap.size) (hL : L ≤ 1536)
    (hEnd : ∀ (pc z : Nat) (ls : List (Nat × Q_V)) (M : Q_M), decode code pc = .ok (.ireturn, 1) → lw_D p l e s m args below meth c Q D cs ad dm z pc ls [.inl (nI 1)] M) {T : Q_T} (hT : q_chk 10 9 13 474 code T = true) : ∀ (stops : List Nat) n z pc ls st M, q_vc 10 303 601024 (some .boolean) (some (L, xs)) (fun _ _ => none) (q_C2 l false) lw_K (fun _ _ => False) T (lw_D p l e s m args below meth c Q D cs ad dm) stops n z pc ls st M → lw_D p l e s m args below meth c Q D cs ad dm z pc ls st M := by
  intro stops n
  induction n with
  | zero => exact fun z pc ls st M h => h
  | succ n ih =>
    intro z pc ls st M h
    unfold q_vc at h
    split at h
    · rename_i ins nx tg hat
      have hq := List.all_eq_true.mp hT _ (q_at_mem hat)
      simp only [Bool.and_eq_true, decide_eq_true_eq] at hq
      obtain ⟨hd1, hd2, hd3⟩ := hq
      refine q_step (R := room_1) (base := s.heap.size) hx hb hml hown hts hK (Nat.le_refl _) hU hdm h28 ⟨Nat.le_of_ble_eq_true rfl, Nat.le_of_ble_eq_true rfl⟩ q_C2c (fun x g => ?_) (fun ins z pc ls st M g1 g2 => ?_) ?_ ?_ ?_ hd1 (Nat.eq_of_beq_eq_true hd2) hd3 (fun z1 pc1 ls1 st1 M1 g => ?_) h
      · cases g
        exact ⟨by show L < 2 ^ 31; omega, hX, hbl, Nat.not_le.mpr hbl⟩
      · unfold q_end at g2
        split at g2
        · split at g2
          · have g3 : q_bit _ ∧ lw_K (some (.inl _)) M := g2
            have g4 := g3.2
            unfold lw_K at g4
            cases g4
            exact hEnd pc z ls M g1
          · exact g2.elim
        · split at g2
          · exact g2.elim
          · exact g2.elim
        · split at g2
          · exact g2.elim
          · exact g2.elim
        · split at g2
          · exact g2.elim
          · exact g2.elim
        · exact g2.elim
      · intro idx pc z E x ls st M g1 g2 g3 _ g4
        exact g4.elim
      · intro pc z x ls r M' g1
        exact g1.elim
      · intro idx j na bj pc z ls st av r M P K1 KX1 g1 g2 g3 g4 g5 g6 g7 g8 g9 g10
        have hkx : KX1 = fun _ _ => False := funext fun x => funext fun M' => propext ⟨fun g => g10 x M' g, fun g => g.elim⟩
        rw [hkx] at g8
        rcases g7 with g7 | g7
        · exact absurd g7.1 (Nat.not_lt.mpr g1)
        · exact q_invSL hx hb hml hown hts hK (Nat.le_refl _) hU hdm h28 ⟨Nat.le_of_ble_eq_true rfl, Nat.le_of_ble_eq_true rfl⟩ g3 rfl g2 g1 (q_Lfit' g1 g7.2.1) g4 g5 g6 g7.2.2 g8 (fun v M' _ g => g9 v M' g)
      · cases hst : q_stop pc1 stops with
        | true => rw [hst] at g; exact g
        | false => rw [hst] at g; exact ih z1 pc1 ls1 st1 M1 g
    · exact h.elim
set_option maxRecDepth 100000 in
theorem lw_dig (hl0 : l.stackTraces = false) (hx : p.tables.exec = Jvm.exec) (hb : c.code = code) (hml : c.maxLocals = 9) (hown : s.vm.findClass (q_R 10) = some m.cls) (hts : ∀ w ∈ q_G, w.before args s = true) (hK : va_K D vwCl (q_tys cs) s) (hU : q_U s.heap.size s) (hAO : k_AO s) (hdm : ∀ i, q_ok false i → i ∈ dm) (hno : ∀ i ∈ dm, i.1 ≠ 27) (h28 : ∀ q : Nat, ad (28, q, 0) = q) {z : Nat} {ls : List (Nat × Q_V)} {M : Q_M} {S : Nat → Int32} {h : Nat} {G : Nat → Nat → Int32} {kb : Nat → Int32} {T : Nat → Nat → Int32} {n : Nat} {tx : Nat → Nat} {a b' : Nat} (hz : z + 1 ≤ 601024) (hc : CV M S h G kb T n tx) (ha : S 224 = nI a) (hbb : S 225 = nI b') (hab : a + b' ≤ 1024) (hk : ∀ C : Nat → Nat → Nat → Nat → Int64, lw_D p l e s m args below meth c Q D cs ad dm (z + 1) 2890 ls [.inr (.inr (.inl (h_dg S h a b' kb n tx)))] (M.1, M.2.1, C)) : lw_D p l e s m args below meth c Q D cs ad dm z 2887 ls [.inr (.inl (0, 0, 0))] M := by
  have hat : q_at TL_law 2887 = some (.invokevirtual 379, 2890, 0) := by rfl
  have hq := List.all_eq_true.mp k_chL _ (q_at_mem hat)
  simp only [Bool.and_eq_true, decide_eq_true_eq] at hq
  refine q_invM (R := room_1) (own := 10) (j := 133) (na := 1) (bj := 1) (idx := 379) (i0 := (0, 0, 0)) (As := []) (r := []) (base := s.heap.size) (PX := q_PcD D cs ad dm s.heap.size [.inr (.inl (0, 0, 0))] M) (K := fun v M' => ∃ C, v = some (.inr (.inr (.inl (h_dg S h a b' kb n tx)))) ∧ M' = (M.1, M.2.1, C)) hx hb hml hown hts hK hdm ⟨Nat.le_of_ble_eq_true rfl, Nat.le_of_ble_eq_true rfl⟩ hq.1 rfl rfl (by decide) rfl ⟨Nat.le_of_ble_eq_true rfl, Nat.le_of_ble_eq_true rfl⟩ rfl rfl hz (Nat.zero_le _) q_PcD_blind ?_ ?_ ?_
  · intro H locs hH U hU2 hW
    refine ⟨rfl, ?_, by rw [hU2]; exact hH.1, va_K.moved hW.alike hK, hH.2.1, q_U_warm hW (by rw [hU2]; exact hH.2.2.1.1) (fun a h1 h2 => by rw [hU2]; exact hH.2.2.1.2.1 a h1 h2) hU, k_AO_moved hW.alike hAO⟩
    rw [hU2]
    exact hH.2.2.1.1
  · intro hwf
    exact cX8_digest_met hl0 hno hdm h28 hwf hc ha hbb hab (fun C => ⟨C, rfl, rfl⟩)
  · rintro v M' - ⟨C, rfl, rfl⟩
    exact hk C
end QK
