theorem q_xwords {E ik ic : Nat} (h : (E = 1 ∧ ik = 228 ∧ ic = 232) ∨ (E = 2 ∧ ik = 147 ∧ ic = 151) ∨ (E = 3 ∧ ik = 53 ∧ ic = 57)) : q_Xc E ik ic = true := by
  rcases h with ⟨rfl, rfl, rfl⟩ | ⟨rfl, rfl, rfl⟩ | ⟨rfl, rfl, rfl⟩
  · exact q_Xc1
  · exact q_Xc2
  · exact q_Xc3
section QD
variable {p : Program} {l : Launch} {e : Env} {s : State} {m : MethodId} {args : Array Value} {below : List Frame} {meth : Method} {c : Code}
variable {D : va_G} {cs : Nat → ClassId} {ad : Q_Id → Nat} {dm : List Q_Id} {base : Nat} {b : Bool}
theorem q_throw {mi : Nat} (hx : p.tables.exec = Jvm.exec) (hb : c.code = q_b mi) (hml : c.maxLocals = q_ml mi) (hl0 : l.stackTraces = false) (hown : s.vm.findClass (q_R (q_own mi)) = some m.cls) (hts : ∀ w ∈ q_G, w.before args s = true) (hU : q_U base s) (hex : ∀ x ∈ c.exceptionTable.toList, False) (hlocks : meth.locks = false) {K : Option Q_V → Q_M → Prop} {KX : Nat → Q_M → Prop} {pc z E : Nat} {x : Nat × Nat × Nat × Bool × String} {ls : List (Nat × Q_V)} {st : List Q_V} {M : Q_M} (ht : q_thr mi pc = some (E, x)) (hz1 : z + 1 ≤ q_bud mi) (hst : q_sum st ≤ 8) (hK : KX E M) :
    q_Zd p l e (q_rm mi) s m args below meth c (vx_MQ below (q_Qc D cs ad dm base K) (q_XC D cs ad dm base KX) args s (q_bud mi) (6 * q_bud mi) (fun q => base ≤ q)) (q_ml mi) D cs ad dm base b (q_bud mi) z pc ls st M := by
  intro hz h1 h2 H locs lsA hH hl
  obtain ⟨ik, is, ic, w, text⟩ := x
  have hm := q_find_mem ht
  have hc := List.all_eq_true.mp q_TSok _ hm
  unfold q_TSc at hc
  simp only [Bool.and_eq_true, Bool.or_eq_true, decide_eq_true_eq] at hc
  obtain ⟨d0, d3, dw, hE, ho, hfr, hlo, hj⟩ := hc
  have hX := q_xwords hE
  unfold q_Xc at hX
  simp only [Bool.and_eq_true, decide_eq_true_eq, List.all_eq_true] at hX
  obtain ⟨x1, x2, x3, x4, x5, x6⟩ := hX
  have tw : ∀ w, w ∈ lw_tbl → goodWord w = true → w.before args s = true := fun w h1 h2 => hts w (List.mem_filter.mpr ⟨h1, h2⟩)
  have hat : ∀ w ∈ vx_atS RX8 ic (q_en E) q_ne, w.before args s = true := by
    refine vx_hat (B := q_UB) (fun w hw => tw w (x3 w hw) (List.mem_filter.mp hw).2) (fun w hw => x4 w hw) (fun w hw => ?_)
    exact va_Nw.use (q_UB_on w hw) (hU.2.2.2.1 w hw)
  have hgood : ∀ w ∈ Cond.classLink RX8 ik (q_en E) :: Cond.initialized (q_en E) :: vx_atS RX8 ic (q_en E) q_ne, vx_ot w = true := by
    intro w hw
    rcases List.mem_cons.mp hw with rfl | hw
    · rfl
    · rcases List.mem_cons.mp hw with rfl | hw
      · rfl
      · exact x5 w hw
  obtain ⟨sa, hsa⟩ := hU.2.2.1 _ hm
  have hown8 : s.vm.findClass RX8 = some m.cls := by rw [ho] at hown; exact hown
  have hxc : ∀ t : State, s.vm.Alike t.vm → H.size ≤ t.heap.size → (∀ q : Nat, q < H.size → t.heap[q]? = H[q]?) → q_XC D cs ad dm base KX (q_en E) s t := by
    intro t _ g1 g2
    refine ⟨E, M, rfl, hK, hH.2.2.2, hH.1.kept (fun k q hk => g2 q.1 ((hH.1 k q hk).lt)), hH.2.1, Nat.le_trans hH.2.2.1.1 g1, fun q g3 g4 => ?_⟩
    rw [g2 q (Nat.lt_of_lt_of_le g3 hH.2.2.1.1)]
    exact hH.2.2.1.2.1 q g3 g4
  have hlocs := hH.2.2.1.2.2
  have hRf : q_ne.length + 3 < (q_rm mi).frames := by
    show 5 < q_fr mi
    omega
  have hRl : ((st.map (q_e ad)).map fun v => v.category).sum + (13 * (q_ne.length + 1) + 43) ≤ (q_rm mi).locals := by
    rw [q_sum_eq]
    show q_sum st + 82 ≤ q_lo mi
    omega
  have hRc : z + 1 ≤ (q_rm mi).cells := hz1
  have hRs : 6 * z + 6 ≤ (q_rm mi).slots := by
    show 6 * z + 6 ≤ 6 * q_bud mi
    omega
  cases w with
  | false =>
    simp only [Bool.and_eq_true, decide_eq_true_eq] at dw
    exact vx_throwS (A := fun q => base ≤ q) (names := q_ne) hx hb hl0 hown8 x6 q_nefit (tw _ x1 rfl) (tw _ x2 rfl) hsa hat hgood hU.1 hU.2.1 hH.2.2.1 (by rw [hl.1, hml]) d0 d3 dw.1 dw.2.1 dw.2.2 (fun x hx => (hex x hx).elim) hRf hRl hRc hRs hlocks hxc hlocs hz1 (by omega)
  | true =>
    simp only [Bool.and_eq_true, decide_eq_true_eq] at dw
    exact vx_throwSW (A := fun q => base ≤ q) (names := q_ne) hx hb hl0 hown8 x6 q_nefit (tw _ x1 rfl) (tw _ x2 rfl) hsa hat hgood hU.1 hU.2.1 hH.2.2.1 (by rw [hl.1, hml]) d0 d3 dw.1 dw.2.1 dw.2.2 (fun x hx => (hex x hx).elim) hRf hRl hRc hRs hlocks hxc hlocs hz1 (by omega)
theorem q_ends {mi : Nat} (hx : p.tables.exec = Jvm.exec) (hb : c.code = q_b mi) (hr : meth.sig.returnType = q_rt mi) (hlocks : meth.locks = false) {K : Option Q_V → Q_M → Prop} {XC : String → State → State → Prop} {R : Room} {nL : Nat} (ins : Instr) (z pc : Nat) (ls : List (Nat × Q_V)) (st : List Q_V) (M : Q_M) (hdg : decode (q_b mi) pc = .ok (ins, 1)) (h : q_end (q_rt mi) K ins st M) :
    q_Zd p l e R s m args below meth c (vx_MQ below (q_Qc D cs ad dm base K) XC args s (q_bud mi) (6 * q_bud mi) (fun q => base ≤ q)) nL D cs ad dm base b (q_bud mi) z pc ls st M := by
  unfold q_end at h
  split at h
  · split at h
    · split at h
      · rename_i x _ hrt
        exact q_fin (v := some (.inl x)) h trivial (fun H locs lsA g1 g2 => W.iret (v := x) hx hb (by rw [hr, hrt]) g1 g2 hdg hlocks)
      · rename_i x _ hrt
        exact q_fin (v := some (.inl x)) h.2 trivial (fun H locs lsA g1 g2 => W.zret (v := x) (ty := .boolean) hx hb (by rw [hr, hrt]) (by rcases h.1 with rfl | rfl <;> decide) g1 g2 hdg hlocks)
      · rename_i x _ hrt
        obtain ⟨⟨j, rfl, hj⟩, h⟩ := h
        exact q_fin (v := some (.inl (nI j))) h trivial (fun H locs lsA g1 g2 => W.zret (v := nI j) (ty := .char) hx hb (by rw [hr, hrt]) (pk_charN hj).1 g1 g2 hdg hlocks)
      · exact h.elim
    · exact h.elim
  · split at h
    · split at h
      · rename_i x _ hrt
        exact q_fin (v := some (.inr (.inr (.inl x)))) h trivial (fun H locs lsA g1 g2 => W.lret (v := x) hx hb (by rw [hr, hrt]) g1 g2 hdg hlocks)
      · exact h.elim
    · exact h.elim
  · split at h
    · split at h
      · rename_i x _ hrt
        exact q_fin (v := some (.inr (.inr (.inr x)))) h trivial (fun H locs lsA g1 g2 => W.dret (v := x) hx hb (by rw [hr, hrt]) g1 g2 hdg hlocks)
      · exact h.elim
    · exact h.elim
  · split at h
    · split at h
      · rename_i hrt
        exact q_fin (v := none) h trivial (fun H locs lsA g1 g2 => W.vret hx hb (by rw [hr, hrt]) g1 g2 hdg hlocks)
      · exact h.elim
    · exact h.elim
  · exact h.elim
end QD
/-- the contract of method mi, out of its walk: Z is any property that the step lets one show -/
theorem q_meth {l : Launch} {b : Bool} {mi : Nat} {P : Q_P} (hmi8 : mi < 145) (hl0 : l.stackTraces = false) (T : Q_T) (hT : q_chk (q_own mi) (q_ml mi) (q_fr mi) (q_lo mi) (q_b mi) T = true)
    (hP : ∀ (av : List Q_V) (M : Q_M) (K : Option Q_V → Q_M → Prop) (KX : Nat → Q_M → Prop), q_wf M → P av M K KX → q_sum av ≤ q_ml mi ∧ ∀ Z : Q_Z, (∀ (stops : List Nat) n z pc ls st M, q_vc (q_own mi) mi (q_bud mi) (q_rt mi) none (fun _ _ => none) (q_Ct l b) K KX T Z stops n z pc ls st M → Z z pc ls st M) → (∀ (ls' : List (Nat × Q_V)) z pc ls st M, Z z pc ls' st M → (∀ q ∈ ls', q ∈ ls) → Z z pc ls st M) → Z 0 0 (q_args 0 av) [] M) : q_Ct l b mi P := by
  have hmi : mi < 149 := by omega
  intro D cs ad dm base hdm h28 av M K KX hav hwf hPa
  obtain ⟨hlen, hwalk⟩ := hP av M K KX hwf hPa
  refine vx_ofW (cc := q_b mi) (maxL := q_ml mi) (ret := q_rt mi) (q_yplain hmi) rfl ?_
  intro p e s m args below meth c s₁ B hml hex hv
  obtain ⟨rfl, hbase, hP, hK, hD, hU⟩ := hv
  have hx := B.exec
  have hb := B.bytes
  have hr := B.returns
  have hlocks := B.notSynchronized
  have hts0 := atoms_spec (ws := q_ws mi) B.pre
  have hts : ∀ w ∈ q_G, w.before ((av.map (q_e ad)).toArray) s = true := fun w hw => hts0 w (List.mem_cons_of_mem _ hw)
  have hown : s.vm.findClass (q_R (q_own mi)) = some m.cls := by
    rw [← q_ycls hmi]
    exact findClass_of_methodNamed B.named
  rw [lg_entry_eq]
  have hl := lv_entry (av.map (q_e ad)) (n := q_ml mi) (by rw [q_sl_len]; exact hlen)
  rw [q_args_eq] at hl
  generalize (lg_sl (av.map (q_e ad)) ++ List.replicate (q_ml mi - (lg_sl (av.map (q_e ad))).length) Slot.unset).toArray = lsA at hl ⊢
  have key : ∀ (stops : List Nat) n z pc ls st M, q_vc (q_own mi) mi (q_bud mi) (q_rt mi) none (fun _ _ => none) (q_Ct l b) K KX T (q_Zd p l e (q_rm mi) s m (av.map (q_e ad)).toArray below meth c (vx_MQ below (q_Qc D cs ad dm base K) (q_XC D cs ad dm base KX) (av.map (q_e ad)).toArray s (q_bud mi) (6 * q_bud mi) (fun q => base ≤ q)) (q_ml mi) D cs ad dm base b (q_bud mi)) stops n z pc ls st M → q_Zd p l e (q_rm mi) s m (av.map (q_e ad)).toArray below meth c (vx_MQ below (q_Qc D cs ad dm base K) (q_XC D cs ad dm base KX) (av.map (q_e ad)).toArray s (q_bud mi) (6 * q_bud mi) (fun q => base ≤ q)) (q_ml mi) D cs ad dm base b (q_bud mi) z pc ls st M := by
    intro stops n
    induction n with
    | zero => exact fun z pc ls st M h => h
    | succ n ih =>
      intro z pc ls st M h
      unfold q_vc at h
      split at h
      · rename_i ins nx tg hat
        have hq := List.all_eq_true.mp hT _ (q_at_mem hat)
        simp only [Bool.and_eq_true, decide_eq_true_eq] at hq
        obtain ⟨hd1, hd2, hd3⟩ := hq
        refine q_step hx hb hml hown hts hK hbase hU hdm h28 ⟨Nat.le_refl _, Nat.le_refl _⟩ (fun _ _ _ h => h) (fun x g => by cases g) (fun ins z pc ls st M g1 g2 => q_ends hx hb hr hlocks ins z pc ls st M g1 g2) ?_ ?_ ?_ hd1 (Nat.eq_of_beq_eq_true hd2) hd3 (fun z1 pc1 ls1 st1 M1 g => ?_) h
        · intro idx pc z E x ls st M g1 g2 g3 _ g4
          exact q_throw hx hb hml hl0 hown hts hU hex hlocks g1 g2 g3 g4
        · intro pc z x ls r M' g1 g2 g3 H1 locs1 lsA q ce g4 g5 g6 g7 g8
          exact vx_out (fun x hx => (hex x hx).elim) hlocks g6 g7 g8 (fun t ht hW => ⟨x, M', rfl, g1, g4.2.2.2, by rw [ht]; exact g4.1, g4.2.1, g4.2.2.1.F ht⟩) g4.2.2.1.2.2 g2 (Nat.mul_le_mul_left 6 g2)
        · intro idx j na bj pc z ls st av r M P K1 KX1 g1 g2
          have g3 := List.all_eq_true.mp q_CLlaw _ (q_find_mem g2)
          simp only [Bool.or_eq_true] at g3
          rcases g3 with g3 | g3
          · have := Nat.le_of_ble_eq_true g3
            exact absurd this (by show ¬ j ≤ 148; omega)
          · have h1 := Nat.eq_of_beq_eq_true g3
            have h2 := q_own_lt8 hmi8
            exact absurd h1 (by show ¬ q_own mi = 9; omega)
        · cases hst : q_stop pc1 stops with
          | true => rw [hst] at g; exact g
          | false => rw [hst] at g; exact ih z1 pc1 ls1 st1 M1 g
      · exact h.elim
  refine hwalk _ key (fun ls' z pc ls st M h hsub hz h1 h2 H locs lsA hH hl => h hz h1 (fun q hq => h2 q (hsub q hq)) H locs lsA hH ⟨hl.1, hl.2.1, fun q hq => ?_⟩) (Nat.zero_le _) (fun v hv => nomatch hv) (q_args_ok av 0 hav) s.heap [] lsA ⟨hP, hD, va_S.rf, hwf⟩ hl
  obtain ⟨x, hx, rfl⟩ := List.mem_map.mp hq
  exact hl.2.2 _ (List.mem_map.mpr ⟨x, hsub x hx, rfl⟩)
