-- THE CLASS'S DIGEST: ITS HASH IS MADE
def k_finD (z sl : Nat) (ls : List (Nat × K_V)) (st : List K_V) (E : List K_E) : Bool := Nat.beq z 1 && (Nat.beq sl 1 && (decide (ls = [(1, .inr (.inl (some 0)))]) && (decide (st = []) && k_leq k_eeq E [.inl (3, [.inr (.inr 4363)])])))
theorem k_runD : k_run2 (q_own 133) (q_rm 133).frames (q_rm 133).locals (q_rm 133).cells (q_rm 133).slots k_r10 TX8_digest 8 k_finD 8 0 0 0 [] [] [] = true := by decide +kernel
def k_sl27 (sl : Q_S) : Prop := ∀ f : Nat → Nat → Q_Id, sl = .inr f → ∀ j c : Nat, (f j c).1 ≠ 27
theorem k_sl27_l (n : Nat) : k_sl27 (.inl n) := fun f h => by cases h
theorem k_sl27_r {f : Nat → Nat → Q_Id} (h : ∀ j c : Nat, Nat.beq (f j c).1 27 = false) : k_sl27 (.inr f) := fun g e j c => by
  cases e
  exact Nat.ne_of_beq_eq_false (h j c)
theorem k_lay27 {r : Nat} {x : Nat × List Q_S} (h : q_lay r = some x) : ∀ sl ∈ x.2, k_sl27 sl := by
  unfold q_lay at h
  split at h
  all_goals first
    | (cases h
       done)
    | (cases h
       repeat' (first | exact k_sl27_l _ | exact k_sl27_r (fun j c => rfl) | exact fun _ h => absurd h List.not_mem_nil | refine List.forall_mem_cons.mpr ⟨?_, ?_⟩))
theorem q_enc_27 {cs : Nat → ClassId} {ad ad' : Q_Id → Nat} {M M' : Q_M} {i : Q_Id} (h : ∀ i' : Q_Id, i'.1 ≠ 27 → ad' i' = ad i') (h1 : M'.1 = M.1) (h2 : M'.2.1 = M.2.1) (h3 : M'.2.2 i.1 = M.2.2 i.1) : q_enc cs ad' M' i = q_enc cs ad M i := by
  unfold q_enc
  cases hl : q_lay i.1 with
  | some r =>
    have e : (r.2.mapIdx fun k sl => q_e ad' (q_gv M' i k sl)) = r.2.mapIdx fun k sl => q_e ad (q_gv M i k sl) := by
      apply List.ext_getElem?
      intro k
      rw [List.getElem?_mapIdx, List.getElem?_mapIdx]
      cases hk : r.2[k]? with
      | none => rfl
      | some sl =>
        have hs := k_lay27 hl sl (List.mem_of_getElem? hk)
        show some (q_e ad' (q_gv M' i k sl)) = some (q_e ad (q_gv M i k sl))
        congr 1
        rcases sl with n | f
        · cases n with
          | zero =>
            show Value.int (M'.1 i.1 i.2.1 i.2.2 k) = Value.int (M.1 i.1 i.2.1 i.2.2 k)
            rw [h1]
          | succ n =>
            show Value.long (M'.2.2 i.1 i.2.1 i.2.2 k) = Value.long (M.2.2 i.1 i.2.1 i.2.2 k)
            rw [h3]
        · show Value.ref (ad' (f i.2.1 i.2.2)) = Value.ref (ad (f i.2.1 i.2.2))
          rw [h _ (hs f rfl _ _)]
    show (Sum.inr (r.1, r.2.mapIdx fun k sl => q_e ad' (q_gv M' i k sl)) : va_E) = Sum.inr (r.1, r.2.mapIdx fun k sl => q_e ad (q_gv M i k sl))
    rw [e]
  | none =>
    cases ha : q_arr i.1 with
    | some r =>
      show (Sum.inl (cs r.1, r.2, .inl (M'.1 i.1 i.2.1 i.2.2)) : va_E) = Sum.inl (cs r.1, r.2, .inl (M.1 i.1 i.2.1 i.2.2))
      rw [h1]
    | none =>
      cases hr : q_rar i.1 with
      | some r =>
        have e : (fun k => some (ad' (q_tg M' i r.1 k))) = fun k => some (ad (q_tg M i r.1 k)) := by
          funext k
          have e1 : q_tg M' i r.1 k = q_tg M i r.1 k := by
            unfold q_tg
            rw [h2]
          rw [e1, h]
          unfold q_tg q_tgi
          split
          · exact Nat.ne_of_beq_eq_false rfl
          · exact Nat.ne_of_beq_eq_false rfl
        show (Sum.inl (cs r.1, r.2, .inr (.inr (.inr (.inr fun k => some (ad' (q_tg M' i r.1 k)))))) : va_E) = Sum.inl (cs r.1, r.2, .inr (.inr (.inr (.inr fun k => some (ad (q_tg M i r.1 k))))))
        rw [e]
      | none =>
        show (Sum.inl (cs 5, 1, .inr (.inl (M'.2.2 i.1 i.2.1 i.2.2))) : va_E) = Sum.inl (cs 5, 1, .inr (.inl (M.2.2 i.1 i.2.1 i.2.2)))
        rw [h3]
theorem q_W_27 {cs : Nat → ClassId} {ad ad' : Q_Id → Nat} {M M' : Q_M} {dm : List Q_Id} (hno : ∀ i ∈ dm, i.1 ≠ 27) (h : ∀ i' : Q_Id, i'.1 ≠ 27 → ad' i' = ad i') (h1 : M'.1 = M.1) (h2 : M'.2.1 = M.2.1) (h3 : ∀ r, r ≠ 27 → M'.2.2 r = M.2.2 r) : q_W cs ad' dm M' = q_W cs ad dm M := List.map_congr_left fun i hi => by rw [h i (hno i hi), q_enc_27 h h1 h2 (h3 _ (hno i hi))]
theorem W_mono {p : Program} {l : Launch} {e : Env} {R : Room} {s : State} {m : MethodId} {args : Array Value} {below : List Frame} {meth : Method} {c : Code} {H : Heap} {locs : List Loc} {cells slots : Nat} {Q Q' : State → Prop} {g : JFrame} (h : ∀ t, Q' t → Q t) (k : W p l e R s m args below meth c H locs cells slots Q' g) : W p l e R s m args below meth c H locs cells slots Q g := fun T hT X => (k T hT X).imp fun t q => ⟨q.1, h t q.2⟩
theorem q_Zd_mono {p : Program} {l : Launch} {e : Env} {R : Room} {s : State} {m : MethodId} {args : Array Value} {below : List Frame} {meth : Method} {c : Code} {Q Q' : State → Prop} {nL : Nat} {D : va_G} {cs : Nat → ClassId} {ad : Q_Id → Nat} {dm : List Q_Id} {base : Nat} {b : Bool} {bi z pc : Nat} {ls : List (Nat × Q_V)} {st : List Q_V} {M : Q_M} (h : ∀ t, Q' t → Q t) (k : q_Zd p l e R s m args below meth c Q' nL D cs ad dm base b bi z pc ls st M) : q_Zd p l e R s m args below meth c Q nL D cs ad dm base b bi z pc ls st M := fun hz h1 h2 H locs lsA hH hl => W_mono h (k hz h1 h2 H locs lsA hH hl)
theorem vx_MQ_mono {below : List Frame} {Qc Qc' : Array Value → State → Outcome → State → Prop} {XC : String → State → State → Prop} {a : Array Value} {s : State} {mc ms : Nat} {free : Addr → Prop} (h : ∀ o t, Qc' a s o t → Qc a s o t) : ∀ t, vx_MQ below Qc' XC a s mc ms free t → vx_MQ below Qc XC a s mc ms free t := by
  rintro t ⟨o, h1, h2, h3⟩
  refine ⟨o, h1, h2, ?_⟩
  rcases h3 with ⟨g1, g2⟩ | g
  · exact Or.inl ⟨h o t g1, g2⟩
  · exact Or.inr g
def q_PcD (D : va_G) (cs : Nat → ClassId) (ad : Q_Id → Nat) (dm : List Q_Id) (base : Nat) (av : List Q_V) (M : Q_M) : Array Value → State → Prop := va_Pc (av.map (q_e ad)) (fun U => base ≤ U.heap.size ∧ va_P D vwCl (q_W cs ad dm M) U.heap ∧ va_K D vwCl (q_tys cs) U ∧ va_D (fun q => base ≤ q) (q_W cs ad dm M) ∧ q_U base U ∧ k_AO U)
theorem q_PcD_blind {D : va_G} {cs : Nat → ClassId} {ad : Q_Id → Nat} {dm : List Q_Id} {base : Nat} {av : List Q_V} {M : Q_M} : FrameBlind (q_PcD D cs ad dm base av M) := by
  intro a U g mk h
  obtain ⟨h0, h1, h2, h3, h4, h5, h6⟩ := h
  exact ⟨h0, h1, h2, va_K.moved (u := U) (U := U.calling g mk a) (Vm.Alike.refl U.vm) h3, h4, q_U_calling g mk a h5, k_AO_moved (u := U) (U := U.calling g mk a) (Vm.Alike.refl U.vm) h6⟩
section DG
variable {p : Program} {l : Launch} {e : Env} {s : State} {m : MethodId} {args : Array Value} {below : List Frame} {meth : Method} {c : Code} {Q : State → Prop}
variable {D : va_G} {cs : Nat → ClassId} {ad : Q_Id → Nat} {dm : List Q_Id} {base : Nat}
theorem dg_key (hx : p.tables.exec = Jvm.exec) (hb : c.code = q_b 133) (hml : c.maxLocals = q_ml 133) (hr : meth.sig.returnType = q_rt 133) (hlocks : meth.locks = false) (hown : s.vm.findClass (q_R (q_own 133)) = some m.cls) (hts : ∀ w ∈ q_G, w.before args s = true) (hK : va_K D vwCl (q_tys cs) s) (hbase : base ≤ s.heap.size) (hU : q_U base s) (hdm : ∀ i, q_ok true i → i ∈ dm) (h28 : ∀ q : Nat, ad (28, q, 0) = q) {K1 : Option Q_V → Q_M → Prop} {XC : String → State → State → Prop} (hQ : ∀ t, vx_MQ below (q_Qc D cs ad dm base K1) XC args s (q_bud 133) (6 * q_bud 133) (fun q => base ≤ q) t → Q t) : ∀ (stops : List Nat) n z pc ls st M, q_vc (q_own 133) 133 (q_bud 133) (q_rt 133) none (fun _ _ => none) (q_Ct l true) K1 (fun _ _ => False) TX8_digest (q_Zd p l e (q_rm 133) s m args below meth c Q (q_ml 133) D cs ad dm base true (q_bud 133)) stops n z pc ls st M → q_Zd p l e (q_rm 133) s m args below meth c Q (q_ml 133) D cs ad dm base true (q_bud 133) z pc ls st M := by
  intro stops n
  induction n with
  | zero => exact fun z pc ls st M h => h
  | succ n ih =>
    intro z pc ls st M h
    unfold q_vc at h
    split at h
    · rename_i ins nx tg hat
      have hq := List.all_eq_true.mp kX8_digest _ (q_at_mem hat)
      simp only [Bool.and_eq_true, decide_eq_true_eq] at hq
      obtain ⟨hd1, hd2, hd3⟩ := hq
      refine q_step hx hb hml hown hts hK hbase hU hdm h28 ⟨Nat.le_refl _, Nat.le_refl _⟩ (fun _ _ _ h => h) (fun x g => by cases g) (fun ins z pc ls st M g1 g2 => q_Zd_mono hQ (q_ends hx hb hr hlocks ins z pc ls st M g1 g2)) ?_ ?_ ?_ hd1 (Nat.eq_of_beq_eq_true hd2) hd3 (fun z1 pc1 ls1 st1 M1 g => ?_) h
      · intro idx pc z E x ls st M g1 g2 g3 _ g4
        exact g4.elim
      · intro pc z x ls r M' g1
        exact g1.elim
      · intro idx j na bj pc z ls st av r M P K1 KX1 g1 g2
        have g3 := List.all_eq_true.mp q_CLlaw _ (q_find_mem g2)
        simp only [Bool.or_eq_true] at g3
        rcases g3 with g3 | g3
        · have := Nat.le_of_ble_eq_true g3
          exact absurd this (by show ¬ j ≤ 263; omega)
        · have h1 := Nat.eq_of_beq_eq_true g3
          exact absurd h1 (by decide)
      · cases hst : q_stop pc1 stops with
        | true => rw [hst] at g; exact g
        | false => rw [hst] at g; exact ih z1 pc1 ls1 st1 M1 g
    · exact h.elim
end DG
theorem cX8_digest_met {l : Launch} (hl0 : l.stackTraces = false) {D : va_G} {cs : Nat → ClassId} {ad : Q_Id → Nat} {dm : List Q_Id} {base : Nat} (hno : ∀ i ∈ dm, i.1 ≠ 27) (hdm : ∀ i, q_ok false i → i ∈ dm) (h28 : ∀ q : Nat, ad (28, q, 0) = q) {M : Q_M} {S : Nat → Int32} {h : Nat} {G : Nat → Nat → Int32} {kb : Nat → Int32} {T : Nat → Nat → Int32} {n : Nat} {tx : Nat → Nat} {a b' : Nat} {K : Option Q_V → Q_M → Prop} {KX : Nat → Q_M → Prop} (hwf : q_wf M) (hc : CV M S h G kb T n tx) (ha : S 224 = nI a) (hb : S 225 = nI b') (hab : a + b' ≤ 1024) (hK : ∀ C : Nat → Nat → Nat → Nat → Int64, K (some (.inr (.inr (.inl (h_dg S h a b' kb n tx))))) (M.1, M.2.1, C)) : vx_Met l (q_y 133) (q_ws 133) (q_rm 133) (q_PcD D cs ad dm base [.inr (.inl (0, 0, 0))] M) (q_Qc D cs ad dm base K) (q_XC D cs ad dm base KX) (q_bud 133) (6 * q_bud 133) (fun q => base ≤ q) := by
  refine vx_ofW (cc := q_b 133) (maxL := q_ml 133) (ret := q_rt 133) (q_yplain (by decide)) rfl ?_
  intro p e s m args below meth c s₁ B hml hex hv
  obtain ⟨rfl, hbase, hP, hKK, hD, hU, hAO⟩ := hv
  have hx := B.exec
  have hbb := B.bytes
  have hr := B.returns
  have hlocks := B.notSynchronized
  have hts0 := atoms_spec (ws := q_ws 133) B.pre
  have hts : ∀ w ∈ q_G, w.before ((([.inr (.inl (0, 0, 0))] : List Q_V).map (q_e ad)).toArray) s = true := fun w hw => hts0 w (List.mem_cons_of_mem _ hw)
  have hown : s.vm.findClass (q_R (q_own 133)) = some m.cls := by
    rw [← q_ycls (j := 133) (by decide)]
    exact findClass_of_methodNamed B.named
  rw [lg_entry_eq]
  have hl := lv_entry (([.inr (.inl (0, 0, 0))] : List Q_V).map (q_e ad)) (n := q_ml 133) (by rw [q_sl_len]; exact Nat.le_of_ble_eq_true rfl)
  generalize (lg_sl (([.inr (.inl (0, 0, 0))] : List Q_V).map (q_e ad)) ++ List.replicate (q_ml 133 - (lg_sl (([.inr (.inl (0, 0, 0))] : List Q_V).map (q_e ad))).length) Slot.unset).toArray = lsA at hl ⊢
  generalize ((([.inr (.inl (0, 0, 0))] : List Q_V).map (q_e ad)).toArray) = args at hts ⊢
  have hl : lv_has lsA (q_ml 133) [(0, .ref (ad (0, 0, 0)))] := hl
  have hfin : ∀ (z sl : Nat) (ls : List (Nat × K_V)) (st : List K_V) (E : List K_E), k_finD z sl ls st E = true → k_Zd p l e (q_rm 133) s m args below meth c (vx_MQ below (q_Qc D cs ad dm base K) (q_XC D cs ad dm base KX) args s (q_bud 133) (6 * q_bud 133) (fun q => base ≤ q)) (q_ml 133) D cs (fun q => s.heap.size ≤ q) none [(0, .ref (ad (0, 0, 0)))] z sl 8 ls st E := by
    intro z sl ls st E hf
    unfold k_finD at hf
    simp only [Bool.and_eq_true, decide_eq_true_eq] at hf
    obtain ⟨f1, f2, f3, f4, f5⟩ := hf
    have f1 := Nat.eq_of_beq_eq_true f1
    have f2 := Nat.eq_of_beq_eq_true f2
    have f5 := k_leq_ok (fun _ _ => k_eeq_ok) f5
    subst f1 f2 f3 f4 f5
    intro ads H locs lsA g1 hP1 hD1 hS1 hl1
    obtain ⟨ad', had⟩ : ∃ ad' : Q_Id → Nat, ad' = fun i => if i.1 = 27 then ads 0 else ad i := ⟨_, rfl⟩
    have e27 : ∀ j c, ad' (27, j, c) = ads 0 := fun j c => by rw [had]; exact if_pos rfl
    have eno : ∀ i : Q_Id, i.1 ≠ 27 → ad' i = ad i := fun i hi => by rw [had]; exact if_neg hi
    obtain ⟨M', hM'⟩ : ∃ M' : Q_M, M' = (M.1, M.2.1, fun r j c k => if r = 27 then lN 4363 else M.2.2 r j c k) := ⟨_, rfl⟩
    have m1 : M'.1 = M.1 := by rw [hM']
    have m2 : M'.2.1 = M.2.1 := by rw [hM']
    have m3 : ∀ r, r ≠ 27 → M'.2.2 r = M.2.2 r := fun r hr => by
      rw [hM']
      funext j c k
      exact if_neg hr
    have m27 : M'.2.2 27 0 0 0 = lN 4363 := by
      rw [hM']
      show (if (27 : Nat) = 27 then lN 4363 else M.2.2 27 0 0 0) = lN 4363
      exact if_pos rfl
    have hPH : va_P D vwCl (q_W cs ad dm M) H := hP.kept (fun k q hk => hS1.2.1 q.1 ((hP k q hk).lt) (fun g => absurd ((hP k q hk).lt) (Nat.not_lt.mpr g)))
    have eW : q_W cs ad' ((27, 0, 0) :: dm) M' = (ads 0, .inr (3, [.long (lN 4363)])) :: q_W cs ad dm M := by
      have e1 : q_enc cs ad' M' (27, 0, 0) = .inr (3, [.long (lN 4363)]) := by
        rw [q_enc_obj (ci := 3) (L := [.inl 1]) rfl]
        show (Sum.inr (3, [Value.long (M'.2.2 27 0 0 0)]) : va_E) = _
        rw [m27]
      show (ad' (27, 0, 0), q_enc cs ad' M' (27, 0, 0)) :: q_W cs ad' dm M' = _
      rw [e27, e1, q_W_27 hno eno m1 m2 m3]
    have hq0 : (k_W cs ads [.inl (3, [.inr (.inr 4363)])])[0]? = some (ads 0, .inr (3, [.long (lN 4363)])) := rfl
    have hPW : va_P D vwCl (q_W cs ad' ((27, 0, 0) :: dm) M') H := by
      rw [eW]
      intro k q hk
      cases k with
      | zero => exact hP1 0 q (by rw [hq0]; exact hk)
      | succ k => exact hPH k q hk
    have hA0 : s.heap.size ≤ ads 0 := hD1.2 0 _ hq0
    have hDW : va_D (fun q => base ≤ q) (q_W cs ad' ((27, 0, 0) :: dm) M') := by
      rw [eW]
      refine ⟨fun i j q r hi hj he => ?_, fun k q hk => ?_⟩
      · cases i with
        | zero =>
          cases j with
          | zero => rfl
          | succ j =>
            cases hi
            have := (hP j r hj).lt
            have he : ads 0 = r.1 := he
            omega
        | succ i =>
          cases j with
          | zero =>
            cases hj
            have := (hP i q hi).lt
            have he : q.1 = ads 0 := he
            omega
          | succ j =>
            rw [hD.1 i j q r hi hj he]
      · cases k with
        | zero =>
          cases hk
          exact Nat.le_trans hbase hA0
        | succ k => exact hD.2 k q hk
    have hSW : va_S (fun q => base ≤ q) s.heap H locs := ⟨hS1.1, fun q h1 h2 => hS1.2.1 q h1 (fun g => h2 (Nat.le_trans hbase g)), fun q hq => Nat.le_trans hbase (hS1.2.2 q hq)⟩
    have hdm' : ∀ i, q_ok true i → i ∈ (27, 0, 0) :: dm := by
      intro i hi
      by_cases h27 : i.1 = 27
      · obtain ⟨r, j, c⟩ := i
        have h27 : r = 27 := h27
        subst h27
        obtain ⟨a1, a2⟩ := hi
        have a1 : j < 1 := a1
        have a2 : c < 1 := a2
        have : j = 0 := by omega
        subst this
        have : c = 0 := by omega
        subst this
        exact List.mem_cons_self
      · refine List.mem_cons_of_mem _ (hdm i ?_)
        have e : q_lim false i.1 = q_lim true i.1 := by
          unfold q_lim
          split <;> first
            | rfl
            | exact absurd rfl h27
            | (rename_i g _; exact absurd g h27)
            | (rename_i g; exact absurd g h27)
        unfold q_ok at hi ⊢
        rw [e]
        exact hi
    have hwf' : q_wf M' := by
      intro j c k
      rw [m2]
      exact hwf j c k
    have hQ : ∀ t, vx_MQ below (q_Qc D cs ad' ((27, 0, 0) :: dm) base (fun v M2 => v = some (.inr (.inr (.inl (h_dg S h a b' kb n tx)))) ∧ M2.1 = M.1 ∧ M2.2.1 = M.2.1)) (q_XC D cs ad dm base KX) args s (q_bud 133) (6 * q_bud 133) (fun q => base ≤ q) t → vx_MQ below (q_Qc D cs ad dm base K) (q_XC D cs ad dm base KX) args s (q_bud 133) (6 * q_bud 133) (fun q => base ≤ q) t := by
      refine vx_MQ_mono ?_
      rintro o t ⟨v, M2, ho, ⟨hv1, hv2, hv3⟩, hnr, hw2, hP2, hD2, hF2⟩
      have e2 : q_W cs ad' ((27, 0, 0) :: dm) M2 = (ad' (27, 0, 0), q_enc cs ad' M2 (27, 0, 0)) :: q_W cs ad dm (M.1, M.2.1, M2.2.2) := by
        show (ad' (27, 0, 0), q_enc cs ad' M2 (27, 0, 0)) :: q_W cs ad' dm M2 = _
        rw [q_W_27 (M := (M.1, M.2.1, M2.2.2)) hno eno hv2 hv3 (fun r _ => rfl)]
      rw [e2] at hP2 hD2
      subst hv1
      refine ⟨some (.inr (.inr (.inl (h_dg S h a b' kb n tx)))), (M.1, M.2.1, M2.2.2), ho, hK M2.2.2, hnr, fun j c k => hwf j c k, fun k q hk => hP2 (k + 1) q hk, ⟨fun i j q r hi hj he => ?_, fun k q hk => hD2.2 (k + 1) q hk⟩, hF2⟩
      have := hD2.1 (i + 1) (j + 1) q r hi hj he
      omega
    have hz := dg_key (p := p) (l := l) (e := e) (m := m) (below := below) (meth := meth) (c := c) (ad := ad') (dm := (27, 0, 0) :: dm) hx hbb hml hr hlocks hown hts hKK hbase hU hdm' (fun q => by rw [eno _ (by decide : (28 : Nat) ≠ 27)]; exact h28 q) hQ
    have hcM : CV M' S h G kb T n tx := by
      have e : M' = (M.1, M.2.1, M'.2.2) := Prod.ext m1 (Prod.ext m2 rfl)
      rw [e]
      exact hc
    have w := dg_walk hl0 hz hcM ha hb hab m27 (fun C => ⟨rfl, m1, m2⟩)
    refine W.widen (k := 1) (n := 6 * 1) (Nat.le_refl _) (by omega) ?_
    refine w (Nat.le_refl _) (fun v hv => nomatch hv) (fun q hq => ?_) H locs lsA ⟨hPW, hDW, hSW, hwf'⟩ ?_
    · simp only [List.mem_cons, List.not_mem_nil, or_false] at hq
      rcases hq with rfl | rfl
      · exact Or.inl ⟨Nat.zero_lt_one, Nat.zero_lt_one⟩
      · exact Or.inl ⟨Nat.zero_lt_one, Nat.zero_lt_one⟩
    · show lv_has lsA (q_ml 133) [(1, .ref (ad' (27, 0, 0))), (0, .ref (ad' (0, 0, 0)))]
      rw [e27, eno _ (by decide : (0 : Nat) ≠ 27)]
      exact hl1
  have hxl : ∀ q ∈ [((0 : Nat), Value.ref (ad (0, 0, 0)))], q.1 = 0 ∧ q.2.category = 1 := by
    intro q hq
    rw [List.mem_singleton.mp hq]
    exact ⟨rfl, rfl⟩
  exact (k_pro (R := q_rm 133) (A := fun q => s.heap.size ≤ q) hxl hx hbb hml hown hts hKK (fun q h => h) hAO k_g10 kX8_digest hfin _ 0 0 0 [] [] [] k_runD) (fun _ => 0) s.heap [] lsA (fun a h => by cases h) (fun k q h => by cases h) ⟨fun i j p q h => (by cases h), fun k q h => (by cases h)⟩ va_S.rf hl
