-- THE LAW: ITS END AND ITS START
theorem k_IV0 : IV k_S0 0 0 := by
  have n0 := k_n0
  refine ⟨⟨⟨by decide +kernel, by decide +kernel⟩, ⟨by decide +kernel, by decide +kernel⟩, ⟨by decide +kernel, by decide +kernel⟩, by decide +kernel, by decide +kernel, by decide +kernel⟩, fun p hp => ?_, fun p p' h hp => ?_, fun p p' h hp => ?_, fun p hp => ?_, by decide +kernel, by decide +kernel, by decide +kernel, by decide +kernel, by decide +kernel⟩
  · omega
  · omega
  · omega
  · omega
theorem k_GS0 : GS k_S0 0 := ⟨k_swf0, k_XV0, k_ZV0, k_IV0⟩
theorem k_LV0 : LV k_M0 k_S0 0 (fun _ => k_S0) (fun _ => nI 0) (fun _ => k_S0) 0 := ⟨k_CV0 _ _ _, k_GS0, fun i hi => absurd hi (Nat.not_lt_zero _), fun k _ e => absurd (show nI 0 = nI 1 from e) (by decide)⟩
set_option maxRecDepth 100000 in
theorem lw_loop {l : Launch} (hl0 : l.stackTraces = false) {Z : Q_Z} (hZ : LW_z l Z) : ∀ (d c z : Nat) (M : Q_M) (S : Nat → Int32) (h : Nat) (G : Nat → Nat → Int32) (kb : Nat → Int32) (T : Nat → Nat → Int32), c + d = 60 → z ≤ 2500 + 2100 * c → LV M S h G kb T c → Z z 52 (v_0 c) [] M := by
  intro d
  induction d with
  | zero =>
    intro c z M S h G kb T hcd hzz hv
    obtain rfl : c = 60 := by omega
    obtain ⟨hc, g, -, -⟩ := hv
    apply hZ.1 [] 60
    refine And.intro (fun _ => ?_) (fun g => absurd (show nI 60 ≤ nI 60 from nI_le (by omega) (by omega)) g)
    refine And.intro (fun g => absurd g (by decide)) (fun _ => ?_)
    refine ⟨by omega, _, q_C2i rfl (cL_hangs_ct hl0), S, h, G, kb, T, 0, fun _ => 0, 60, hc, g, by omega, rfl, fun M'' hc'' => ?_⟩
    exact And.intro (fun g => absurd g q_n1) (fun _ => ⟨Or.inr rfl, rfl⟩)
  | succ d ih =>
    intro c z M S h G kb T hcd hzz hv
    exact lw_once hl0 hZ hv (by omega) hzz (fun z' M' S' h' G' kb' T' hz' hv' => ih (c + 1) z' M' S' h' G' kb' T' (by omega) hz' hv')
set_option maxRecDepth 100000 in
theorem lw_pro {l : Launch} (hl0 : l.stackTraces = false) {Z : Q_Z} (hZ : LW_z l Z) : Z 1000 8 [(1, w_x), (0, w_s)] [] k_M0 := by
  obtain ⟨hc, g, -, -⟩ := k_LV0
  obtain ⟨hz, hw, -⟩ := id hZ
  apply hz [52] 60
  refine ⟨by omega, _, C2L (by decide) (by decide) (cL_undo_ct hl0), k_S0, 0, fun _ => k_S0, fun _ => nI 0, fun _ => k_S0, 0, fun _ => 0, hc, rfl, fun h => absurd h (Nat.lt_irrefl 0), fun _ => ?_⟩
  refine And.intro (fun _ => ?_) (fun g => absurd rfl g)
  refine ⟨by omega, _, C2L (by decide) (by decide) (cL_back_ct hl0), k_S0, 0, fun _ => k_S0, fun _ => nI 0, fun _ => k_S0, 0, fun _ => 0, nI 1, hc, rfl, fun k _ _ e => absurd (show nI 0 = nI 1 from e) (by decide), fun g => absurd ⟨nI_le (by omega) (by omega), nI_le (by omega) (by omega)⟩ g, fun _ _ _ _ => ?_⟩
  refine And.intro (fun _ => ?_) (fun g => absurd rfl g)
  refine ⟨by omega, _, C2L (by decide) (by decide) (cL_keep_ct hl0), k_S0, 0, fun _ => k_S0, fun _ => nI 0, fun _ => k_S0, 0, fun _ => 0, -1, hc, rfl, fun k hk e => absurd e (q_m1n (by omega)), fun _ => ?_⟩
  refine And.intro (fun _ => ?_) (fun g => absurd rfl g)
  refine ⟨by omega, _, q_C2i rfl (cL_hangs_ct hl0), k_S0, 0, fun _ => k_S0, fun _ => nI 0, fun _ => k_S0, 0, fun _ => 0, 0, hc, g, by omega, rfl, fun M'' hc'' => ?_⟩
  refine And.intro (fun g => absurd g q_n1) (fun _ => ?_)
  refine hw _ _ _ _ _ _ (lw_loop hl0 hZ 60 0 _ M'' k_S0 0 _ _ _ (by omega) (show 1000 + 1 + 2 + 1 + 1000 ≤ 2500 + 2100 * 0 by omega) ⟨hc'', g, fun i hi => absurd hi (Nat.not_lt_zero _), fun k _ e => absurd (show nI 0 = nI 1 from e) (by decide)⟩) (fun q hq => ?_)
  simp only [List.mem_cons, List.not_mem_nil, or_false] at hq
  rcases hq with rfl | rfl | rfl | rfl
  all_goals first | exact List.Mem.head _ | exact List.Mem.tail _ (List.Mem.head _) | exact List.Mem.tail _ (List.Mem.tail _ (List.Mem.head _)) | exact List.Mem.tail _ (List.Mem.tail _ (List.Mem.tail _ (List.Mem.head _)))
-- THE LAW'S STEPS, SOUND
/-- the law, from this point on -/
abbrev lw_D (p : Program) (l : Launch) (e : Env) (s : State) (m : MethodId) (args : Array Value) (below : List Frame) (meth : Method) (c : Code) (Q : State → Prop) (D : va_G) (cs : Nat → ClassId) (ad : Q_Id → Nat) (dm : List Q_Id) : Q_Z := q_Zd p l e room_1 s m args below meth c Q 9 D cs ad dm s.heap.size false 615177
section QK
variable {p : Program} {l : Launch} {e : Env} {s : State} {m : MethodId} {args : Array Value} {below : List Frame} {meth : Method} {c : Code} {Q : State → Prop}
variable {D : va_G} {cs : Nat → ClassId} {ad : Q_Id → Nat} {dm : List Q_Id} {L : Nat} {xs : Nat → Int32}
theorem lw_key (hx : p.tables.exec = Jvm.exec) (hb : c.code = code) (hml : c.maxLocals = 9) (hown : s.vm.findClass (q_R 9) = some m.cls) (hts : ∀ w ∈ q_G, w.before args s = true) (hK : va_K D vwCl (q_tys cs) s) (hU : q_U s.heap.size s) (hdm : ∀ i, q_ok false i → i ∈ dm) (h28 : ∀ q : Nat, ad (28, q, 0) = q)
    (hEnd : ∀ (pc z : Nat) (ls : List (Nat × Q_V)) (M : Q_M), decode code pc = .ok (.ireturn, 1) → lw_D p l e s m args below meth c Q D cs ad dm z pc ls [.inl (nI 1)] M) : ∀ (stops : List Nat) n z pc ls st M, q_vc2 9 185 615177 (some .boolean) none (q_C2 l false) lw_K TL_law (lw_D p l e s m args below meth c Q D cs ad dm) stops n z pc ls st M → lw_D p l e s m args below meth c Q D cs ad dm z pc ls st M := by
  intro stops n
  induction n with
  | zero => exact fun z pc ls st M h => h
  | succ n ih =>
    intro z pc ls st M h
    unfold q_vc2 at h
    split at h
    · rename_i ins nx tg hat
      have hq := List.all_eq_true.mp k_chL _ (q_at_mem hat)
      simp only [Bool.and_eq_true, decide_eq_true_eq] at hq
      obtain ⟨hd1, hd2, hd3⟩ := hq
      refine q_step (R := room_1) (base := s.heap.size) hx hb hml hown hts hK (Nat.le_refl _) hU hdm h28 ⟨Nat.le_of_ble_eq_true rfl, Nat.le_of_ble_eq_true rfl⟩ q_C2c (fun x g => by cases g) (fun ins z pc ls st M g1 g2 => ?_) ?_ ?_ ?_ hd1 (Nat.eq_of_beq_eq_true hd2) hd3 (fun z1 pc1 ls1 st1 M1 g => ?_) (q_stp2_1 h)
      · unfold q_end at g2
        split at g2
        · split at g2
          · have g3 : q_bit _ ∧ lw_K (some (.inl _)) M := g2
            have g4 := g3.2
            unfold lw_K at g4
            cases g4
            exact hEnd pc z ls M g1
          · exact g2.elim
        · split at g2
          · exact g2.elim
          · exact g2.elim
        · split at g2
          · exact g2.elim
          · exact g2.elim
        · split at g2
          · exact g2.elim
          · exact g2.elim
        · exact g2.elim
      · intro idx pc z E x ls st M g1 g2 g3 _ g4
        exact g4.elim
      · intro pc z x ls r M' g1
        exact g1.elim
      · intro idx j na bj pc z ls st av r M P K1 KX1 g1 g2 g3 g4 g5 g6 g7 g8 g9 g10
        have hkx : KX1 = fun _ _ => False := funext fun x => funext fun M' => propext ⟨fun g => g10 x M' g, fun g => g.elim⟩
        rw [hkx] at g8
        rcases g7 with g7 | g7
        · exact absurd g7.1 (Nat.not_lt.mpr g1)
        · exact q_invSL hx hb hml hown hts hK (Nat.le_refl _) hU hdm h28 ⟨Nat.le_of_ble_eq_true rfl, Nat.le_of_ble_eq_true rfl⟩ g3 rfl g2 g1 (q_LfitR' g1 g7.2.1) g4 g5 g6 g7.2.2 g8 (fun v M' _ g => g9 v M' g)
      · cases hst : q_stop pc1 stops with
        | true => rw [hst] at g; exact g
        | false => rw [hst] at g; exact ih z1 pc1 ls1 st1 M1 g
    · exact h.elim
theorem lw_cell (hx : p.tables.exec = Jvm.exec) (hb : c.code = code) (hml : c.maxLocals = 9) (hown : s.vm.findClass (q_R 9) = some m.cls) (hts : ∀ w ∈ q_G, w.before args s = true) (hK : va_K D vwCl (q_tys cs) s) (hU : q_U s.heap.size s) (hdm : ∀ i, q_ok false i → i ∈ dm) (h28 : ∀ q : Nat, ad (28, q, 0) = q) (hX : va_X (ad (26, 0, 0)) L xs s s.heap) (hbl : ad (26, 0, 0) < s.heap.size) (hL : L ≤ 260) {z pc k : Nat} {ls : List (Nat × Q_V)} {M : Q_M} (hpc : pc = 69 ∨ pc = 83) (hk : k < 60) (hz : z ≤ 615177) (kk : ∀ v : Int32, lw_D p l e s m args below meth c Q D cs ad dm z (pc + 3) ls [.inl v] M) : lw_D p l e s m args below meth c Q D cs ad dm z pc ls [.inl (nI k), .inr (.inl (26, 0, 0))] M := by
  have hat : ∃ tg, q_at TL_law pc = some (.invokestatic 313, pc + 3, tg) := by
    rcases hpc with rfl | rfl
    · exact ⟨0, rfl⟩
    · exact ⟨0, rfl⟩
  obtain ⟨tg, hat⟩ := hat
  have hq := List.all_eq_true.mp k_chL _ (q_at_mem hat)
  simp only [Bool.and_eq_true, decide_eq_true_eq] at hq
  have e3 : pc + 3 - pc = 3 := by omega
  have hdg : decode code pc = .ok (.invokestatic 313, 3) := hq.1
  refine q_invSP (R := room_1) (own := 9) (j := 145) (na := 2) (bj := 0) (idx := 313) (As := [.inr (.inl (26, 0, 0)), .inl (nI k)]) (r := []) (base := s.heap.size) (PX := q_PcX D cs ad dm s.heap.size L xs [.inr (.inl (26, 0, 0)), .inl (nI k)] M) (K := fun v M' => ∃ v0 : Int32, v = some (.inl v0) ∧ M' = M) hx hb hml hown hts ⟨Nat.le_of_ble_eq_true rfl, Nat.le_of_ble_eq_true rfl⟩ hdg rfl rfl (by decide) rfl ⟨Nat.le_of_ble_eq_true rfl, Nat.le_of_ble_eq_true rfl⟩ rfl hz (Nat.zero_le _) q_PcX_blind ?_ ?_ ?_
  · intro H locs hH U hU2 hW
    refine ⟨rfl, ?_, by rw [hU2]; exact hH.1, va_K.moved hW.alike hK, hH.2.1, q_U_warm hW (by rw [hU2]; exact hH.2.2.1.1) (fun a h1 h2 => by rw [hU2]; exact hH.2.2.1.2.1 a h1 h2) hU, ?_, ?_, Nat.not_le.mpr hbl⟩
    · rw [hU2]
      exact hH.2.2.1.1
    · exact va_X.kept (va_X.moved hW.alike hX) (by rw [hU2]; exact hH.2.2.1.2.1 _ hbl (Nat.not_le.mpr hbl))
    · rw [hU2]
      exact Nat.lt_of_lt_of_le hbl hH.2.2.1.1
  · intro hwf
    exact cL_cell_met hdm h28 (by omega) hwf hk (fun v => ⟨v, rfl, rfl⟩)
  · rintro v M' - ⟨v0, rfl, rfl⟩
    exact kk v0
end QK
theorem k_inst : (List.range 10).all (fun ci => k_in (Cond.instantiable (q_cl ci).1 (q_cl ci).2.2)) = true := by decide +kernel
theorem k_clen : vwCl.length = 10 := by decide
theorem k_wt : (decide (Cond.arrayOver (.object RX1) ∈ lw_tbl) && (decide (Cond.arrayOver (.object RX7) ∈ lw_tbl) && (decide (Cond.laysStatic Bundle.tN "UNASSIGNED_STACK" Bundle.steD ∈ lw_tbl) && (decide (Cond.laysStatic Bundle.tN "SUPPRESSED_SENTINEL" Bundle.listD ∈ lw_tbl) && (decide (Cond.initialized Bundle.tN ∈ lw_tbl) && (q_UB.all (fun w => decide (w ∈ lw_tbl)) && q_TS.all (fun q => decide (Cond.stringRef RX8 q.2.2.2.2.1 q.2.2.2.2.2.2.2 ∈ lw_tbl)))))))) = true := by decide +kernel
theorem k_Kc {s : State} {args : Array Value} (hts : ∀ w ∈ q_G, w.before args s = true) : ∃ D : va_G, ∀ (c : Nat) (q : vw_C), vwCl[c]? = some q → u_Kn s q.1 q.2.1 q.2.2 (D.1 c) (D.2 c) := by
  have h : ∀ ci, ∃ (cC : ClassId) (iS : Nat → Nat), ci < 10 → u_Kn s (q_cl ci).1 (q_cl ci).2.1 (q_cl ci).2.2 cC iS := by
    intro ci
    by_cases hc : ci < 10
    · obtain ⟨cC, iS, g⟩ := u_known (C := (q_cl ci).1) (T := (q_cl ci).2.1) (N := (q_cl ci).2.2) (n := (q_cl ci).2.2) hts (q_UWg hc) (hts _ (k_inG (List.all_eq_true.mp k_inst ci (List.mem_range.mpr hc))))
      exact ⟨cC, iS, fun _ => g⟩
    · exact ⟨0, fun _ => 0, fun g => absurd g hc⟩
  refine ⟨(fun ci => Classical.choose (h ci), fun ci => Classical.choose (Classical.choose_spec (h ci))), fun c q hq => ?_⟩
  have hc : c < 10 := by
    have := (List.getElem?_eq_some_iff.mp hq).1
    rw [k_clen] at this
    exact this
  rw [q_clat hc] at hq
  cases hq
  exact Classical.choose_spec (Classical.choose_spec (h c)) hc
theorem k_arr {s : State} {args : Array Value} {ty : FieldType} (h : (Cond.arrayClass ty).before args s = true) : ∃ cA : ClassId, ArrOfT s cA ty ∧ s.vm.findClass ("[" ++ ty.toString) = some cA := by
  obtain ⟨cA, kA, comp, h1, h2, h3⟩ := Cond.arrayClass_spec h
  exact ⟨cA, fun n z => ⟨fun k h => (by cases h), kA, h2, comp, h3⟩, h1⟩
theorem k_arq {s : State} {C : String} (h : va_AO C s) : ∃ cA : ClassId, ArrOfT s cA (.object C) ∧ va_RA s cA (.object C) := by
  obtain ⟨comp, cA, kA, h1, h2, h3, h4, h5⟩ := Cond.arrayOver_spec h
  exact ⟨cA, fun n z => ⟨fun k h => (by cases h), kA, h3, comp, h4⟩, kA, comp, h3, h4, h1, h5⟩
theorem k_Kall {s : State} {args : Array Value} (hts : ∀ w ∈ q_G, w.before args s = true) (hAO : k_AO s) : ∃ (D : va_G) (cs : Nat → ClassId), va_K D vwCl (q_tys cs) s := by
  obtain ⟨D, hD⟩ := k_Kc hts
  obtain ⟨c1, a1, b1⟩ := k_arr (hts _ (k_inG k_ATok.1))
  obtain ⟨c2, a2, b2⟩ := k_arr (hts _ (k_inG k_ATok.2))
  obtain ⟨c3, a3, b3⟩ := k_arq hAO.1
  obtain ⟨c4, a4, b4⟩ := k_arq hAO.2
  refine ⟨D, fun k => match k with | 0 => c1 | 1 => c1 | 2 => c2 | 3 => c3 | 4 => c4 | _ => c1, hD, fun k q hq => ?_⟩
  match k, hq with
  | 0, hq => cases hq; exact ⟨a1, b1⟩
  | 1, hq => cases hq; exact ⟨a1, b1⟩
  | 2, hq => cases hq; exact ⟨a2, b2⟩
  | 3, hq => cases hq; exact ⟨a3, b3⟩
  | 4, hq => cases hq; exact ⟨a4, b4⟩
  | 5, hq => cases hq; exact ⟨a1, b1⟩
  | k + 6, hq =>
    have := (List.getElem?_eq_some_iff.mp hq).1
    have h6 : (q_tys (fun k => match k with | 0 => c1 | 1 => c1 | 2 => c2 | 3 => c3 | 4 => c4 | _ => c1)).length = 6 := rfl
    omega
theorem k_ncw : (decide (Cond.not (.castable (q_en 1) (q_en 2)) ∈ flatC (Jvm.Cond.and given_1 narrow_1)) && (decide (Cond.not (.castable (q_en 1) (q_en 3)) ∈ flatC (Jvm.Cond.and given_1 narrow_1)) && (decide (Cond.not (.castable (q_en 2) (q_en 1)) ∈ flatC (Jvm.Cond.and given_1 narrow_1)) && (decide (Cond.not (.castable (q_en 2) (q_en 3)) ∈ flatC (Jvm.Cond.and given_1 narrow_1)) && (decide (Cond.not (.castable (q_en 3) (q_en 1)) ∈ flatC (Jvm.Cond.and given_1 narrow_1)) && (decide (Cond.not (.castable (q_en 3) (q_en 2)) ∈ flatC (Jvm.Cond.and given_1 narrow_1)) && (decide (Cond.isRef (.static Bundle.tN "UNASSIGNED_STACK" Bundle.steD) ∈ flatC (Jvm.Cond.and given_1 narrow_1)) && decide (Cond.isRef (.static Bundle.tN "SUPPRESSED_SENTINEL" Bundle.listD) ∈ flatC (Jvm.Cond.and given_1 narrow_1))))))))) = true := by decide +kernel
theorem k_str {s : State} {args : Array Value} {k : Nat} {tx : String} (h : (Cond.stringRef RX8 k tx).before args s = true) : ∃ sa : Nat, vk_R RX8 k tx sa s := by
  cases hc : s.vm.findClass RX8 with
  | none => simp [Cond.before, Cond.holds, Cond.value, hc] at h
  | some cc =>
    obtain ⟨k1, cf, i, a, hk, hcf, hp, -, hr, he⟩ := Cond.stringRef_spec hc h
    exact ⟨a, vk_R.of h he⟩
theorem k_Uall {s : State} {args : Array Value} (hts : ∀ w ∈ lw_tbl, w.before args s = true) (hgv : (Jvm.Cond.and given_1 narrow_1).before args s = true) : q_U s.heap.size s ∧ k_AO s := by
  have hw := k_wt
  simp only [Bool.and_eq_true, decide_eq_true_eq, List.all_eq_true] at hw
  obtain ⟨w1, w2, w3, w4, w5, w6, w7⟩ := hw
  have hn := k_ncw
  simp only [Bool.and_eq_true, decide_eq_true_eq] at hn
  obtain ⟨n12, n13, n21, n23, n31, n32, r1, r2⟩ := hn
  have hf := flat_of_before _ hgv
  have hA : ∀ a : Nat, a < s.heap.size → ¬ (fun q => s.heap.size ≤ q) a := fun a h => Nat.not_le.mpr h
  refine ⟨⟨vx_Zqof (hts _ w3) (hts _ w5) (hf _ r1) hA, vx_Zqof (hts _ w4) (hts _ w5) (hf _ r2) hA, fun q hq => k_str (hts _ (w7 q hq)), fun w hw => va_Nw.of (q_UB_on w hw) (hts _ (w6 w hw)), ?_⟩, va_AO.of (hts _ w1), va_AO.of (hts _ w2)⟩
  intro x y x1 x3 y1 y3 hxy
  have hx : x = 1 ∨ x = 2 ∨ x = 3 := by omega
  have hy : y = 1 ∨ y = 2 ∨ y = 3 := by omega
  rcases hx with rfl | rfl | rfl <;> rcases hy with rfl | rfl | rfl
  · exact absurd rfl hxy
  · exact va_Nc.of (hf _ n12)
  · exact va_Nc.of (hf _ n13)
  · exact va_Nc.of (hf _ n21)
  · exact absurd rfl hxy
  · exact va_Nc.of (hf _ n23)
  · exact va_Nc.of (hf _ n31)
  · exact va_Nc.of (hf _ n32)
  · exact absurd rfl hxy
theorem k_nt {l : Launch} (h : l.flags = flags0) : l.stackTraces = false := by
  unfold Launch.stackTraces
  rw [h]
  decide
