theorem q_ALok : q_AL.all (fun q => decide (Cond.methodLink (q_R q.1) q.2.1 arraycopyName ∈ lw_tbl)) = true := by decide +kernel
theorem q_ALn : (decide (Cond.native arraycopyName ∈ lw_tbl) && (decide (Cond.static arraycopyName ∈ lw_tbl) && decide (Cond.initialized "java/lang/System" ∈ lw_tbl))) = true := by decide +kernel
theorem q_MXok : (decide (Cond.methodLink (q_R 7) 97 Lib.Math.max.name ∈ lw_tbl) && (decide (Cond.static Lib.Math.max.name ∈ lw_tbl) && (decide (Cond.initialized "java/lang/Math" ∈ lw_tbl) && decide (Cond.code Lib.Math.max.name Lib.Math.max.code 2 (some .int) ∈ lw_tbl)))) = true := by decide +kernel
theorem q_LLok : q_LL.all (fun q => decide (Cond.constantLong (q_R q.1) q.2.1 q.2.2 ∈ lw_tbl)) = true := by decide +kernel
theorem q_LDok : q_LD.all (fun q => decide (Cond.constantDouble (q_R q.1) q.2.1 q.2.2 ∈ lw_tbl)) = true := by decide +kernel
theorem q_LTok : q_LT.all (fun q => decide (Cond.constant (q_R q.1) q.2.1 q.2.2 ∈ lw_tbl)) = true := by decide +kernel
theorem q_br_mono {cd : ClassFile.Cond} {x y : Int32} {A B A' B' : Prop} (hA : A → A') (hB : B → B') (h : q_br cd x y A B) : q_br cd x y A' B' := by
  cases cd
  · exact ⟨fun g => hA (h.1 g), fun g => hB (h.2 g)⟩
  · exact ⟨fun g => hB (h.1 g), fun g => hA (h.2 g)⟩
  all_goals exact ⟨fun g => hA (h.1 g), fun g => hB (h.2 g)⟩
theorem q_sw_mono {pc d : Int} {x : Int32} {k k' : Nat → Prop} (hk : ∀ t, k t → k' t) : ∀ L : List (Int × Int), q_sw pc d x k L → q_sw pc d x k' L
  | [], h => h.imp fun t g => ⟨g.1, hk t g.2⟩
  | _ :: L, h => ⟨fun g => (h.1 g).imp fun t g => ⟨g.1, hk t g.2⟩, fun g => q_sw_mono hk L (h.2 g)⟩
theorem q_LLm {own idx : Nat} {v : Int64} (h : q_find own idx q_LL = some v) : Cond.constantLong (q_R own) idx v ∈ lw_tbl := by
  have h1 := List.all_eq_true.mp q_LLok _ (q_find_mem h)
  simp only [decide_eq_true_eq] at h1
  exact h1
theorem q_LTm {own idx : Nat} {v : Int32} (h : q_find own idx q_LT = some v) : Cond.constant (q_R own) idx v ∈ lw_tbl := by
  have h1 := List.all_eq_true.mp q_LTok _ (q_find_mem h)
  simp only [decide_eq_true_eq] at h1
  exact h1
theorem q_LDm {own idx : Nat} {v : UInt64} (h : q_find own idx q_LD = some v) : Cond.constantDouble (q_R own) idx v ∈ lw_tbl := by
  have h1 := List.all_eq_true.mp q_LDok _ (q_find_mem h)
  simp only [decide_eq_true_eq] at h1
  exact h1
section QS
variable {p : Program} {l : Launch} {e : Env} {R : Room} {s : State} {m : MethodId} {args : Array Value} {below : List Frame} {meth : Method} {c : Code} {Q : State → Prop}
variable {cc : ByteArray} {nL own bi : Nat} {D : va_G} {cs : Nat → ClassId} {ad : Q_Id → Nat} {dm : List Q_Id} {base : Nat} {b : Bool} {sc : Option (Nat × (Nat → Int32))}
theorem q_copy (hx : p.tables.exec = Jvm.exec) (hb : c.code = cc) (hml : c.maxLocals = nL) (hown : s.vm.findClass (q_R own) = some m.cls) (hts : ∀ w ∈ q_G, w.before args s = true) (hK : va_K D vwCl (q_tys cs) s) (hdm : ∀ i, q_ok b i → i ∈ dm) (hR : 1 ≤ R.frames ∧ 18 ≤ R.locals) {pc nx z idx n1 n0 N : Nat} {ls : List (Nat × Q_V)} {st : List Q_V} {M : Q_M} {a a0 : Q_Id} (hf : q_find own idx q_AL = some ()) (ha : q_arr a.1 = some (1, n1)) (ha0 : q_arr a0.1 = some (1, n0)) (hn0 : N ≤ n0) (hn1 : N ≤ n1) (hsum : q_sum st = 0) (hdg : decode cc pc = .ok (.invokestatic idx, 3)) (hnx : pc + 3 = nx)
    (kk : q_Zd p l e R s m args below meth c Q nL D cs ad dm base b bi z nx ls st (q_sa M a (fun q => if q < N then M.1 a0.1 a0.2.1 a0.2.2 q else M.1 a.1 a.2.1 a.2.2 q))) : q_Zd p l e R s m args below meth c Q nL D cs ad dm base b bi z pc ls (.inl (nI N) :: .inl (nI 0) :: .inr (.inl a) :: .inl (nI 0) :: .inr (.inl a0) :: st) M := by
  subst hnx
  intro hz h1 h2 H locs lsA hH hl
  have g1 := q_tail (q_tail h1)
  have g2 := q_tail (q_tail g1)
  have hi := q_okdm hdm (q_hd g1) (q_arr_ne ha).1 (q_arr_ne ha).2
  have hi0 := q_okdm hdm (q_hd g2) (q_arr_ne ha0).1 (q_arr_ne ha0).2
  obtain ⟨q1, hq1, hq⟩ := q_Wget (cs := cs) (ad := ad) (M := M) hi
  obtain ⟨q0, -, hq0⟩ := q_Wget (cs := cs) (ad := ad) (M := M) hi0
  rw [q_enc_arr ha] at hq
  rw [q_enc_arr ha0] at hq0
  have hlt := q_arr_lt ha
  have hN : N < 2 ^ 31 := by omega
  have c0 : (nI 0).toNatClampNeg = 0 := nI_clamp (by decide)
  have cN : (nI N).toNatClampNeg = N := nI_clamp hN
  have hw := List.all_eq_true.mp q_ALok _ (q_find_mem hf)
  have hwn := q_ALn
  simp only [Bool.and_eq_true, decide_eq_true_eq] at hw hwn
  have tw : ∀ w, w ∈ lw_tbl → goodWord w = true → w.before args s = true := fun w h1 h2 => hts w (List.mem_filter.mpr ⟨h1, h2⟩)
  refine va_copyi (D := D) (ty := .int) hx hb (by rw [hml, hl.1]) hown (tw _ hw rfl) (tw _ hwn.1 rfl) (tw _ hwn.2.1 rfl) (tw _ hwn.2.2 rfl) hK hH.1 hH.2.1 hH.2.2.1 q0 q1 1 1 hq0 hq rfl rfl rfl (by rw [nI_0]; decide) (by rw [nI_0]; decide) (nI_pos hN) (by rw [c0, cN]; omega) (by rw [c0, cN]; omega) (fun i _ => rfl) hR.1 (by rw [q_sum_eq, hsum]; exact hR.2) hdg (fun H1 locs1 hP1 hD1 hS1 => ?_)
  have hcp : va_cpy (M.1 a0.1 a0.2.1 a0.2.2) (M.1 a.1 a.2.1 a.2.2) (nI 0).toNatClampNeg (nI 0).toNatClampNeg (nI N).toNatClampNeg = (q_sa M a (fun q => if q < N then M.1 a0.1 a0.2.1 a0.2.2 q else M.1 a.1 a.2.1 a.2.2 q)).1 a.1 a.2.1 a.2.2 := by
    rw [c0, cN]
    funext k
    simp [q_sa, va_cpy]
  rw [hcp, q_Wset (M' := q_sa M a (fun q => if q < N then M.1 a0.1 a0.2.1 a0.2.2 q else M.1 a.1 a.2.1 a.2.2 q)) hH.2.1 hq1 (q_enc_arr ha) (fun i' hi' => q_enc_sa hi')] at hP1 hD1
  exact kk hz (q_tail g2) h2 H1 locs1 lsA ⟨hP1, hD1, hS1, hH.2.2.2⟩ hl

theorem q_mmax (hx : p.tables.exec = Jvm.exec) (hb : c.code = cc) (hml : c.maxLocals = nL) (hown : s.vm.findClass (q_R 7) = some m.cls) (hts : ∀ w ∈ q_G, w.before args s = true) (hR : 1 ≤ R.frames ∧ 18 ≤ R.locals) (hRb : bi ≤ R.cells ∧ 6 * bi ≤ R.slots) {pc nx z : Nat} {ls : List (Nat × Q_V)} {st : List Q_V} {M : Q_M} {x y : Int32} (hsum : q_sum st ≤ 5) (hdg : decode cc pc = .ok (.invokestatic 97, 3)) (hnx : pc + 3 = nx)
    (kk : q_Zd p l e R s m args below meth c Q nL D cs ad dm base b bi z nx ls (.inl (if x < y then y else x) :: st) M) : q_Zd p l e R s m args below meth c Q nL D cs ad dm base b bi z pc ls (.inl y :: .inl x :: st) M := by
  subst hnx
  intro hz h1 h2 H locs lsA hH hl
  have g2 := q_tail (q_tail h1)
  have hwn := q_MXok
  simp only [Bool.and_eq_true, decide_eq_true_eq] at hwn
  have tw : ∀ w, w ∈ lw_tbl → goodWord w = true → w.before args s = true := fun w h1 h2 => hts w (List.mem_filter.mpr ⟨h1, h2⟩)
  refine va_mmax hx hb (by rw [hml, hl.1]) hown (tw _ hwn.1 rfl) (tw _ hwn.2.1 rfl) (tw _ hwn.2.2.1 rfl) (tw _ hwn.2.2.2 rfl) hR.1 (by rw [q_sum_eq]; omega) (Nat.le_trans hz hRb.1) (Nat.le_trans (by omega) hRb.2) hdg ?_
  exact kk hz (q_push trivial g2) h2 H locs lsA hH hl

theorem q_step (hx : p.tables.exec = Jvm.exec) (hb : c.code = cc) (hml : c.maxLocals = nL) (hown : s.vm.findClass (q_R own) = some m.cls) (hts : ∀ w ∈ q_G, w.before args s = true) (hK : va_K D vwCl (q_tys cs) s) (hbase : base ≤ s.heap.size) (hU : q_U base s) (hdm : ∀ i, q_ok b i → i ∈ dm) (h28 : ∀ q : Nat, ad (28, q, 0) = q) (hRb : bi ≤ R.cells ∧ 6 * bi ≤ R.slots) {Cc : Nat → Q_P → Prop} (hCc : ∀ j P, j < 149 → Cc j P → q_Ct l b j P)
    (hX : ∀ x : Nat × (Nat → Int32), sc = some x → x.1 < 2 ^ 31 ∧ va_X (ad (26, 0, 0)) x.1 x.2 s s.heap ∧ ad (26, 0, 0) < s.heap.size ∧ ¬ base ≤ ad (26, 0, 0)) {mi : Nat} {rt : Option FieldType} {hd : Nat → Nat → Option Nat} {K : Option Q_V → Q_M → Prop} {KX : Nat → Q_M → Prop}
    (hEnd : ∀ (ins : Instr) (z pc : Nat) (ls : List (Nat × Q_V)) (st : List Q_V) (M : Q_M), decode cc pc = .ok (ins, 1) → q_end rt K ins st M → q_Zd p l e R s m args below meth c Q nL D cs ad dm base b bi z pc ls st M)
    (hNew : ∀ (idx pc z E : Nat) (x : Nat × Nat × Nat × Bool × String) (ls : List (Nat × Q_V)) (st : List Q_V) (M : Q_M), q_thr mi pc = some (E, x) → z + 1 ≤ bi → q_sum st ≤ 8 → hd pc E = none → KX E M → q_Zd p l e R s m args below meth c Q nL D cs ad dm base b bi z pc ls st M)
    (hThr : ∀ (pc z x : Nat) (ls : List (Nat × Q_V)) (r : List Q_V) (M' : Q_M), (match hd pc x with | some h => ∀ q : Nat, q_Zd p l e R s m args below meth c Q nL D cs ad dm base b bi z h ls [.inr (.inl (28, q, 0))] M' | none => KX x M') → z ≤ bi → (∀ q ∈ ls, q_okv b q.2) → ∀ (H1 : Heap) (locs1 : List Loc) (lsA : Array Slot) (q : Nat) (ce : Cell), q_Hp D cs ad dm base s M' H1 locs1 → lv_has lsA nL (q_lp ad ls) → H1[q]? = some ce → ce.vm = .none → s.vm.findClass (q_en x) = some ce.cls → vx_W p l e R s m args below meth c H1 locs1 z (6 * z) Q (F0 m pc lsA (r.map (q_e ad))) q)
    (hLaw : ∀ (idx j na bj pc z : Nat) (ls : List (Nat × Q_V)) (st av r : List Q_V) (M : Q_M) (P : Q_P) (K1 : Option Q_V → Q_M → Prop) (KX1 : Nat → Q_M → Prop), 149 ≤ j → q_cal own idx = some (j, na, bj) → decode cc pc = .ok (.invokestatic idx, 3) → q_take na [] st = some (av, r) → z + bj ≤ bi → q_sum r ≤ 8 → Cc j P → P av M K1 KX1 → (∀ v M', K1 v M' → q_Zd p l e R s m args below meth c Q nL D cs ad dm base b bi (z + bj) (pc + 3) ls (q_psh v r) M') → (∀ x M', KX1 x M' → match hd pc x with | some h => ∀ q : Nat, q_Zd p l e R s m args below meth c Q nL D cs ad dm base b bi (z + bj) h ls [.inr (.inl (28, q, 0))] M' | none => KX x M') → q_Zd p l e R s m args below meth c Q nL D cs ad dm base b bi z pc ls st M)
    {ins : Instr} {pc nx tg z : Nat} {ls : List (Nat × Q_V)} {st : List Q_V} {M : Q_M} (hdec : decode cc pc = .ok (ins, q_len ins (nx - pc))) (hnx : pc + q_len ins (nx - pc) = nx) (hck : q_chk1 own nL R.frames R.locals ins pc tg = true)
    {k : Q_Z} (hk : ∀ z pc ls st M, k z pc ls st M → q_Zd p l e R s m args below meth c Q nL D cs ad dm base b bi z pc ls st M) (h : q_stp own mi bi rt sc hd Cc K KX ins pc nx tg z ls st M k) : q_Zd p l e R s m args below meth c Q nL D cs ad dm base b bi z pc ls st M := by
  have hXk : ∀ (x z' pc' : Nat) (ls' : List (Nat × Q_V)) (M' : Q_M), (match hd pc' x with | some h => ∀ q : Nat, k z' h ls' [.inr (.inl (28, q, 0))] M' | none => KX x M') → (match hd pc' x with | some h => ∀ q : Nat, q_Zd p l e R s m args below meth c Q nL D cs ad dm base b bi z' h ls' [.inr (.inl (28, q, 0))] M' | none => KX x M') := by
    intro x z' pc' ls' M' g
    split
    · rename_i hh
      rw [hh] at g
      exact fun q => hk _ _ _ _ _ (g q)
    · rename_i hh
      rw [hh] at g
      exact g
  have cl : ∀ w, w ∈ lw_tbl → goodWord w = true → w.before args s = true := fun w h1 h2 => hts w (List.mem_filter.mpr ⟨h1, h2⟩)
  unfold q_stp at h
  cases ins
  case iload_n i =>
    dsimp only at h
    split at h
    · rename_i hv
      exact q_iload_n hx hb hv hdec hnx (hk _ _ _ _ _ h)
    · exact h.elim
  case iload i =>
    dsimp only at h
    split at h
    · rename_i hv
      exact q_iload hx hb hv hdec hnx (hk _ _ _ _ _ h)
    · exact h.elim
  case aload_n i =>
    dsimp only at h
    split at h
    · rename_i hv
      exact q_aload_n hx hb hv hdec hnx (hk _ _ _ _ _ h)
    · exact h.elim
  case aload i =>
    dsimp only at h
    split at h
    · rename_i hv
      exact q_aload hx hb hv hdec hnx (hk _ _ _ _ _ h)
    · exact h.elim
  case lload_n i =>
    dsimp only at h
    split at h
    · rename_i hv
      exact q_lload_n hx hb hv hdec hnx (hk _ _ _ _ _ h)
    · exact h.elim
  case lload i =>
    dsimp only at h
    split at h
    · rename_i hv
      exact q_lload hx hb hv hdec hnx (hk _ _ _ _ _ h)
    · exact h.elim
  case dload_n i =>
    dsimp only at h
    split at h
    · rename_i hv
      exact q_dload_n hx hb hv hdec hnx (hk _ _ _ _ _ h)
    · exact h.elim
  case dload i =>
    dsimp only at h
    split at h
    · rename_i hv
      exact q_dload hx hb hv hdec hnx (hk _ _ _ _ _ h)
    · exact h.elim
  case istore_n i =>
    dsimp only at h
    split at h
    · exact q_istore_n hx hb (Nat.le_of_ble_eq_true hck) hdec hnx (hk _ _ _ _ _ h)
    · exact h.elim
  case istore i =>
    dsimp only at h
    split at h
    · exact q_istore hx hb (Nat.le_of_ble_eq_true hck) hdec hnx (hk _ _ _ _ _ h)
    · exact h.elim
  case astore_n i =>
    dsimp only at h
    split at h
    · exact q_astore_n hx hb (Nat.le_of_ble_eq_true hck) hdec hnx (hk _ _ _ _ _ h)
    · exact h.elim
  case astore i =>
    dsimp only at h
    split at h
    · exact q_astore hx hb (Nat.le_of_ble_eq_true hck) hdec hnx (hk _ _ _ _ _ h)
    · exact h.elim
  case lstore_n i =>
    dsimp only at h
    split at h
    · exact q_lstore_n hx hb (Nat.le_of_ble_eq_true hck) hdec hnx (hk _ _ _ _ _ h)
    · exact h.elim
  case lstore i =>
    dsimp only at h
    split at h
    · exact q_lstore hx hb (Nat.le_of_ble_eq_true hck) hdec hnx (hk _ _ _ _ _ h)
    · exact h.elim
  case dstore_n i =>
    dsimp only at h
    split at h
    · exact q_dstore_n hx hb (Nat.le_of_ble_eq_true hck) hdec hnx (hk _ _ _ _ _ h)
    · exact h.elim
  case dstore i =>
    dsimp only at h
    split at h
    · exact q_dstore hx hb (Nat.le_of_ble_eq_true hck) hdec hnx (hk _ _ _ _ _ h)
    · exact h.elim
  case iinc i n =>
    dsimp only at h
    split at h
    · rename_i hv
      have hck := Bool.and_eq_true_iff.mp hck
      exact q_iinc hx hb hv (of_decide_eq_true hck.1) (Nat.le_of_ble_eq_true hck.2) hdec hnx (hk _ _ _ _ _ h)
    · exact h.elim
  case iconst n =>
    exact q_iconst hx hb (of_decide_eq_true hck) hdec hnx (hk _ _ _ _ _ h)
  case bipush n =>
    exact q_bipush hx hb (of_decide_eq_true hck) hdec hnx (hk _ _ _ _ _ h)
  case sipush n =>
    exact q_sipush hx hb (of_decide_eq_true hck) hdec hnx (hk _ _ _ _ _ h)
  case lconst n =>
    exact q_lconst hx hb hdec hnx (hk _ _ _ _ _ h)
  case dconst n =>
    rcases (show n = 0 ∨ n = 1 by
      rcases n with ⟨_ | _ | k, hk⟩
      · exact Or.inl rfl
      · exact Or.inr rfl
      · omega) with rfl | rfl
    · exact q_dconst0 hx hb hdec hnx (hk _ _ _ _ _ h)
    · exact q_dconst1 hx hb hdec hnx (hk _ _ _ _ _ h)
  case ldc2_w idx =>
    dsimp only at h
    split at h
    · rename_i hv
      exact q_ldc2 hx hb hown (cl _ (q_LLm hv) rfl) hdec hnx (hk _ _ _ _ _ h)
    · split at h
      · rename_i hv
        exact q_ldc2d hx hb hown (cl _ (q_LDm hv) rfl) hdec hnx (hk _ _ _ _ _ h)
      · exact h.elim
  case iadd =>
    dsimp only at h
    split at h
    · exact q_iadd hx hb hdec hnx (hk _ _ _ _ _ h)
    · exact h.elim
  case isub =>
    dsimp only at h
    split at h
    · exact q_isub hx hb hdec hnx (hk _ _ _ _ _ h)
    · exact h.elim
  case imul =>
    dsimp only at h
    split at h
    · exact q_imul hx hb hdec hnx (hk _ _ _ _ _ h)
    · exact h.elim
  case iand =>
    dsimp only at h
    split at h
    · exact q_iand hx hb hdec hnx (hk _ _ _ _ _ h)
    · exact h.elim
  case ladd =>
    dsimp only at h
    split at h
    · exact q_ladd hx hb hdec hnx (hk _ _ _ _ _ h)
    · exact h.elim
  case lsub =>
    dsimp only at h
    split at h
    · exact q_lsub hx hb hdec hnx (hk _ _ _ _ _ h)
    · exact h.elim
  case lmul =>
    dsimp only at h
    split at h
    · exact q_lmul hx hb hdec hnx (hk _ _ _ _ _ h)
    · exact h.elim
  case lshl =>
    dsimp only at h
    split at h
    · exact q_lshl hx hb hdec hnx (hk _ _ _ _ _ h)
    · exact h.elim
  case lcmp =>
    dsimp only at h
    split at h
    · exact q_lcmp hx hb hdec hnx (hk _ _ _ _ _ h)
    · exact h.elim
  case i2l =>
    dsimp only at h
    split at h
    · exact q_i2l hx hb hdec hnx (hk _ _ _ _ _ h)
    · exact h.elim
  case i2c =>
    dsimp only at h
    split at h
    · exact q_i2c hx hb hdec hnx (hk _ _ _ _ _ h)
    · exact h.elim
  case i2d =>
    dsimp only at h
    split at h
    · exact q_i2d hx hb hdec hnx (hk _ _ _ _ _ h)
    · exact h.elim
  case d2l =>
    dsimp only at h
    split at h
    · exact q_d2l hx hb hdec hnx (hk _ _ _ _ _ h)
    · exact h.elim
  case dcmp op =>
    dsimp only at h
    split at h
    · exact q_dcmp hx hb hdec hnx (hk _ _ _ _ _ h)
    · exact h.elim
  case idiv =>
    dsimp only at h
    split at h
    · exact q_idiv hx hb h.1 hdec hnx (hk _ _ _ _ _ h.2)
    · exact h.elim
  case irem =>
    dsimp only at h
    split at h
    · exact q_irem hx hb h.1 hdec hnx (hk _ _ _ _ _ h.2)
    · exact h.elim
  case ldc idx =>
    dsimp only at h
    split at h
    · rename_i hv
      exact q_ldc hx hb hown (cl _ (q_LTm hv) rfl) hdec hnx (hk _ _ _ _ _ h)
    · exact h.elim
  case ldiv =>
    dsimp only at h
    split at h
    · exact q_ldiv hx hb h.1 hdec hnx (hk _ _ _ _ _ h.2)
    · exact h.elim
  case lrem =>
    dsimp only at h
    split at h
    · exact q_lrem hx hb h.1 hdec hnx (hk _ _ _ _ _ h.2)
    · exact h.elim
  case dmul =>
    dsimp only at h
    split at h
    · exact q_dmul hx hb h.1 hdec hnx (hk _ _ _ _ _ h.2)
    · exact h.elim
  case dsub =>
    dsimp only at h
    split at h
    · exact q_dsub hx hb h.1 hdec hnx (hk _ _ _ _ _ h.2)
    · exact h.elim
  case ddiv =>
    dsimp only at h
    split at h
    · exact q_ddiv hx hb h.1 hdec hnx (hk _ _ _ _ _ h.2)
    · exact h.elim
  case dup =>
    dsimp only at h
    split at h
    · split at h
      · rename_i hv
        exact q_dup hx hb (Nat.eq_of_beq_eq_true hv) hdec hnx (hk _ _ _ _ _ h)
      · exact h.elim
    · exact h.elim
  case pop =>
    dsimp only at h
    split at h
    · split at h
      · rename_i hv
        exact q_pop hx hb (Nat.eq_of_beq_eq_true hv) hdec hnx (hk _ _ _ _ _ h)
      · exact h.elim
    · exact h.elim
  case dup2 =>
    dsimp only at h
    split at h
    · split at h
      · rename_i hv
        have hv := Bool.and_eq_true_iff.mp hv
        exact q_dup2 hx hb (Nat.eq_of_beq_eq_true hv.1) (Nat.eq_of_beq_eq_true hv.2) hdec hnx (hk _ _ _ _ _ h)
      · exact h.elim
    · exact h.elim
  case getfield idx =>
    dsimp only at h
    split at h
    · rename_i hf
      split at h
      · split at h
        · rename_i hL
          split at h
          · rename_i hc
            have hc := Nat.eq_of_beq_eq_true hc
            subst hc
            split at h
            · rename_i hs
              exact q_getfield hx hb hown hts hK hdm hf hL hs hdec hnx (hk _ _ _ _ _ h)
            · exact h.elim
          · exact h.elim
        · exact h.elim
      · exact h.elim
    · exact h.elim
  case putfield idx =>
    dsimp only at h
    split at h
    · rename_i hf
      split at h
      · split at h
        · rename_i hL
          split at h
          · rename_i hc
            have hc := Nat.eq_of_beq_eq_true hc
            subst hc
            split at h
            · rename_i hs
              split at h
              · exact q_putI hx hb hown hts hK hdm hf hL hs (Or.inl rfl) hdec hnx (hk _ _ _ _ _ h)
              · exact q_putI hx hb hown hts hK hdm hf hL hs (Or.inr ⟨rfl, h.1⟩) hdec hnx (hk _ _ _ _ _ h.2)
              · exact h.elim
            · exact h.elim
          · exact h.elim
        · exact h.elim
      · split at h
        · rename_i hL
          split at h
          · rename_i hc
            have hc := Nat.eq_of_beq_eq_true hc
            subst hc
            split at h
            · rename_i hs
              split at h
              · exact q_putL hx hb hown hts hK hdm hf hL hs rfl hdec hnx (hk _ _ _ _ _ h)
              · exact h.elim
            · exact h.elim
          · exact h.elim
        · exact h.elim
      · exact h.elim
    · exact h.elim
  case iaload =>
    dsimp only at h
    split at h
    · split at h
      · rename_i ha
        obtain ⟨j, h1, h2, h3⟩ := h
        exact q_iaload hx hb hK hdm ha h1 h2 hdec hnx (hk _ _ _ _ _ h3)
      · exact h.elim
      · split at h
        · split at h
          · obtain ⟨j, h0, h1, h2, h3⟩ := h
            subst h0
            exact q_script hx hb (hX _ rfl).2 h1 h2 (hX _ rfl).1 hdec hnx (hk _ _ _ _ _ h3)
          · exact h.elim
        · exact h.elim
    · exact h.elim
  case arraylength =>
    dsimp only at h
    split at h
    · split at h
      · split at h
        · obtain ⟨h0, h2⟩ := h
          subst h0
          exact q_scriptlen hx hb (hX _ rfl).2 hdec hnx (hk _ _ _ _ _ h2)
        · exact h.elim
      · exact h.elim
    · exact h.elim
  case baload =>
    dsimp only at h
    split at h
    · split at h
      · rename_i ha
        obtain ⟨j, h1, h2, h3⟩ := h
        exact q_baload hx hb hK hdm ha h1 h2 hdec hnx (hk _ _ _ _ _ h3)
      · exact h.elim
    · exact h.elim
  case iastore =>
    dsimp only at h
    split at h
    · split at h
      · rename_i ha
        obtain ⟨j, h1, h2, h3⟩ := h
        exact q_iastore hx hb hK hdm ha h1 h2 hdec hnx (hk _ _ _ _ _ h3)
      · exact h.elim
    · exact h.elim
  case bastore =>
    dsimp only at h
    split at h
    · split at h
      · rename_i ha
        obtain ⟨j, h1, h2, h3, h4⟩ := h
        exact q_bastore hx hb hK hdm ha h1 h2 (by rcases h3 with rfl | rfl <;> decide) hdec hnx (hk _ _ _ _ _ h4)
      · exact h.elim
    · exact h.elim
  case aaload =>
    dsimp only at h
    split at h
    · split at h
      · rename_i ha
        obtain ⟨j, h1, h2, h3⟩ := h
        exact q_aaload hx hb hK hdm ha h1 h2 hdec hnx (hk _ _ _ _ _ h3)
      · exact h.elim
    · exact h.elim
  case aastore =>
    dsimp only at h
    split at h
    · split at h
      · rename_i ha
        obtain ⟨j, y, h1, h2, h3, h4⟩ := h
        exact q_aastore hx hb hK hdm ha h1 h2 h3 hdec hnx (hk _ _ _ _ _ h4)
      · exact h.elim
    · exact h.elim
  case goto off =>
    exact q_goto (nx := nx) hx hb hdec (of_decide_eq_true hck) (hk _ _ _ _ _ h)
  case ifCond cd off =>
    dsimp only at h
    split at h
    · exact q_if hx hb hdec (of_decide_eq_true hck) hnx (q_br_mono (hk _ _ _ _ _) (hk _ _ _ _ _) h)
    · exact h.elim
  case if_icmp cd off =>
    dsimp only at h
    split at h
    · exact q_icmp hx hb hdec (of_decide_eq_true hck) hnx (q_br_mono (hk _ _ _ _ _) (hk _ _ _ _ _) h)
    · exact h.elim
  case lookupswitch d ps =>
    dsimp only at h
    split at h
    · exact q_lookup (nx := nx) hx hb hdec hck (q_sw_mono (fun t g => hk _ _ _ _ _ g) _ h)
    · exact h.elim
  case tableswitch d lo hi offs =>
    dsimp only at h
    split at h
    · exact q_table (nx := nx) hx hb hdec (fun g => (h.1 g).imp fun t g => ⟨g.1, hk _ _ _ _ _ g.2⟩) (fun g1 g2 => (h.2 g1 g2).imp fun off g => g.imp fun t g => ⟨g.1, g.2.1, hk _ _ _ _ _ g.2.2⟩)
    · exact h.elim
  case ireturn =>
    exact hEnd _ z pc ls st M hdec h
  case lreturn =>
    exact hEnd _ z pc ls st M hdec h
  case dreturn =>
    exact hEnd _ z pc ls st M hdec h
  case return_ =>
    exact hEnd _ z pc ls st M hdec h
  case invokevirtual idx =>
    dsimp only at h
    split at h
    · rename_i j na bj hcal
      split at h
      · rename_i ht
        split at h
        · rename_i hq
          simp only [Bool.and_eq_true] at hq
          obtain ⟨⟨hq1, hq2⟩, hq3⟩ := hq
          obtain ⟨P, hC, hP⟩ := h
          unfold q_rcv at hq1
          split at hq1
          · split at hq1
            · rename_i hL
              simp only [Bool.and_eq_true] at hq1
              obtain ⟨⟨g1, g2⟩, g3⟩ := hq1
              have g2 := Nat.eq_of_beq_eq_true g2
              subst g2
              have hj := Nat.lt_succ_of_le (Nat.le_of_ble_eq_true g1)
              have hfit : q_fit R j := by
                have hck2 := hck
                unfold q_chk1 at hck2
                simp only [hcal, Bool.and_eq_true] at hck2
                exact ⟨Nat.le_of_ble_eq_true hck2.1, Nat.le_of_ble_eq_true hck2.2⟩
              intro hz h1 h2 H locs lsA hH hl
              exact q_invV hx hb hml hown hts hK hbase hU hdm h28 hRb hdec hnx hcal hj (Nat.eq_of_beq_eq_true g3) hfit ht hL (Nat.le_of_ble_eq_true hq2) (Nat.le_of_ble_eq_true hq3) (hCc _ _ hj hC) hP (fun v M' _ g => hk _ _ _ _ _ g) (fun x M' H1 locs1 lsA q ce gk g1 g2 g3 g4 g5 => hThr pc _ x ls _ M' (hXk _ _ _ _ _ gk) (Nat.le_of_ble_eq_true hq2) h2 H1 locs1 lsA q ce g1 g2 g3 g4 g5) hz h1 h2 H locs lsA hH hl
            · cases hq1
          · cases hq1
        · exact h.elim
      · exact h.elim
    · exact h.elim
  case invokestatic idx =>
    dsimp only at h
    split at h
    · rename_i j na bj hcal
      split at h
      · rename_i ht
        split at h
        · rename_i hq
          simp only [Bool.and_eq_true, Bool.or_eq_true] at hq
          obtain ⟨⟨hq1, hq2⟩, hq3⟩ := hq
          obtain ⟨P, hC, hP⟩ := h
          by_cases hj : 149 ≤ j
          · have hn3 : pc + 3 = nx := hnx
            subst hn3
            exact hLaw idx _ _ _ pc z ls st _ _ M P _ _ hj hcal hdec ht (Nat.le_of_ble_eq_true hq2) (Nat.le_of_ble_eq_true hq3) hC hP (fun v M' g => hk _ _ _ _ _ g) (fun x M' g => hXk _ _ _ _ _ g)
          · have hkind : q_kind j = 1 := by
              rcases hq1 with g | g
              · exact absurd (Nat.le_of_ble_eq_true g) hj
              · exact Nat.eq_of_beq_eq_true g
            have hfit : q_fit R j := by
              have hck2 := hck
              unfold q_chk1 at hck2
              simp only [hcal, Bool.and_eq_true, Bool.or_eq_true] at hck2
              rcases hck2 with g | g
              · exact absurd (Nat.le_of_ble_eq_true g) hj
              · exact ⟨Nat.le_of_ble_eq_true g.1, Nat.le_of_ble_eq_true g.2⟩
            intro hz h1 h2 H locs lsA hH hl
            exact q_invS hx hb hml hown hts hK hbase hU hdm h28 hRb hdec hnx hcal (Nat.lt_of_not_le hj) hkind hfit ht (Nat.le_of_ble_eq_true hq2) (Nat.le_of_ble_eq_true hq3) (hCc _ _ (Nat.lt_of_not_le hj) hC) hP (fun v M' _ g => hk _ _ _ _ _ g) (fun x M' H1 locs1 lsA q ce gk g1 g2 g3 g4 g5 => hThr pc _ x ls _ M' (hXk _ _ _ _ _ gk) (Nat.le_of_ble_eq_true hq2) h2 H1 locs1 lsA q ce g1 g2 g3 g4 g5) hz h1 h2 H locs lsA hH hl
        · exact h.elim
      · exact h.elim
    · rename_i hcal
      split at h
      · rename_i hf
        split at h
        · split at h
          · rename_i ha ha0
            obtain ⟨N, e1, e2, e3, e4, e5, e6, h⟩ := h
            subst e1; subst e2; subst e3
            have hck2 := hck
            unfold q_chk1 at hck2
            simp only [hcal, Bool.and_eq_true] at hck2
            exact q_copy hx hb hml hown hts hK hdm ⟨Nat.le_of_ble_eq_true hck2.1, Nat.le_of_ble_eq_true hck2.2⟩ hf ha ha0 e4 e5 e6 hdec hnx (hk _ _ _ _ _ h)
          · exact h.elim
        · exact h.elim
      · split at h
        · rename_i hf
          have hf := Bool.and_eq_true_iff.mp hf
          have e1 := Nat.eq_of_beq_eq_true hf.1
          have e2 := Nat.eq_of_beq_eq_true hf.2
          split at h
          · split at h
            · rename_i hq
              have hck2 := hck
              unfold q_chk1 at hck2
              simp only [hcal, Bool.and_eq_true] at hck2
              rw [e2] at hdec
              exact q_mmax hx hb hml (by rw [← e1]; exact hown) hts ⟨Nat.le_of_ble_eq_true hck2.1, Nat.le_of_ble_eq_true hck2.2⟩ hRb (Nat.le_of_ble_eq_true hq) hdec hnx (hk _ _ _ _ _ h)
            · exact h.elim
          · exact h.elim
        · exact h.elim
  case new idx =>
    dsimp only at h
    split at h
    · rename_i ht
      split at h
      · rename_i hq
        have hq := Bool.and_eq_true_iff.mp hq
        split at h
        · exact h.elim
        · rename_i hh
          exact hNew idx pc z _ _ ls st M ht (Nat.le_of_ble_eq_true hq.1) (Nat.le_of_ble_eq_true hq.2) hh h
      · exact h.elim
    · exact h.elim
  all_goals exact h.elim
theorem q_at_mem {T : Q_T} {pc : Nat} {x : Instr × (Nat × Nat)} (h : q_at T pc = some x) : (pc, x) ∈ T := by
  induction T with
  | nil => cases h
  | cons q T ih =>
    unfold q_at at h
    split at h
    · rename_i hb
      have h1 := Nat.eq_of_beq_eq_true hb
      cases h
      rw [← h1]
      exact List.mem_cons_self
    · exact List.mem_cons_of_mem _ (ih h)
end QS
