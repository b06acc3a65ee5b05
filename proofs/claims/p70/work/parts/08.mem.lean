section QM
variable {p : Program} {l : Launch} {e : Env} {R : Room} {s : State} {m : MethodId} {args : Array Value} {below : List Frame} {meth : Method} {c : Code} {Q : State → Prop}
variable {cc : ByteArray} {nL own bi : Nat} {D : va_G} {cs : Nat → ClassId} {ad : Q_Id → Nat} {dm : List Q_Id} {base : Nat} {b : Bool} {sc : Nat × (Nat → Int32)}
theorem q_okdm (hdm : ∀ i, q_ok b i → i ∈ dm) {i : Q_Id} (h : q_okv b (.inr (.inl i))) (h1 : i.1 ≠ 26) (h2 : i.1 ≠ 28) : i ∈ dm := by
  rcases h with h | h | h
  · exact hdm i h
  · exact absurd h h1
  · exact absurd h h2
theorem q_okok {i : Q_Id} (h : q_okv b (.inr (.inl i))) (h1 : i.1 ≠ 26) (h2 : i.1 ≠ 28) : q_ok b i := by
  rcases h with h | h | h
  · exact h
  · exact absurd h h1
  · exact absurd h h2
theorem q_lay_ne {r : Nat} {x : Nat × List Q_S} (h : q_lay r = some x) : r ≠ 26 ∧ r ≠ 28 := by
  refine ⟨fun g => ?_, fun g => ?_⟩ <;> rw [g] at h <;> cases h
theorem q_lay_lt {r : Nat} {x : Nat × List Q_S} (h : q_lay r = some x) : x.1 < 9 := by
  unfold q_lay at h
  split at h <;> cases h <;> decide
theorem q_arr_ne {r : Nat} {x : Nat × Nat} (h : q_arr r = some x) : r ≠ 26 ∧ r ≠ 28 := by
  refine ⟨fun g => ?_, fun g => ?_⟩ <;> rw [g] at h <;> cases h
theorem q_rar_ne {r : Nat} {x : Nat × Nat} (h : q_rar r = some x) : r ≠ 26 ∧ r ≠ 28 := by
  refine ⟨fun g => ?_, fun g => ?_⟩ <;> rw [g] at h <;> cases h
theorem q_arr_lt {r tc n : Nat} (h : q_arr r = some (tc, n)) : n < 2 ^ 31 := by
  unfold q_arr at h
  split at h <;> cases h <;> decide
theorem q_rar_lt {r tc n : Nat} (h : q_rar r = some (tc, n)) : n < 2 ^ 31 ∧ (tc = 3 ∨ tc = 4) := by
  unfold q_rar at h
  split at h <;> cases h <;> decide
theorem q_wf_si {M : Q_M} {i : Q_Id} {k : Nat} {x : Int32} (h : q_wf M) : q_wf (q_si M i k x) := h
theorem q_wf_sl {M : Q_M} {i : Q_Id} {k : Nat} {x : Int64} (h : q_wf M) : q_wf (q_sl M i k x) := h
theorem q_wf_sa {M : Q_M} {i : Q_Id} {f : Nat → Int32} (h : q_wf M) : q_wf (q_sa M i f) := h

theorem q_getfield (hx : p.tables.exec = Jvm.exec) (hb : c.code = cc) {pc nx z : Nat} {ls : List (Nat × Q_V)} {st : List Q_V} {M : Q_M} (hown : s.vm.findClass (q_R own) = some m.cls) (hts : ∀ w ∈ q_G, w.before args s = true) (hK : va_K D vwCl (q_tys cs) s) (hdm : ∀ i, q_ok b i → i ∈ dm) {idx ci k ty : Nat} {fin : Bool} {i : Q_Id} {L : List Q_S} {sl : Q_S} (hf : q_fld own idx = some (ci, k, fin, ty)) (hL : q_lay i.1 = some (ci, L)) (hs : q_nth L k = some sl) (hdg : decode cc pc = .ok (.getfield idx, 3)) (hnx : pc + 3 = nx) (kk : q_Zd p l e R s m args below meth c Q nL D cs ad dm base b bi z nx ls (q_gv M i k sl :: st) M) : q_Zd p l e R s m args below meth c Q nL D cs ad dm base b bi z pc ls (.inr (.inl i) :: st) M := by
  subst hnx
  intro hz h1 h2 H locs lsA hH hl
  have hm := q_find_mem hf
  obtain ⟨hc, hk, -, -⟩ := q_FLi hm
  have hi := q_okdm hdm (q_hd h1) (q_lay_ne hL).1 (q_lay_ne hL).2
  have hio := q_okok (q_hd h1) (q_lay_ne hL).1 (q_lay_ne hL).2
  obtain ⟨q0, -, hq⟩ := q_Wget (cs := cs) (ad := ad) (M := M) hi
  rw [q_enc_obj hL] at hq
  rw [q_nth_eq] at hs
  refine va_get (D := D) (ci := ci) (v := q_e ad (q_gv M i k sl)) hx hb hts (q_UWg hc) hown hK hH.1 q0 hq (q_clat hc) k hk (hts _ (q_FLg hm)) (fun _ g => g) ?_ hdg (kk hz (q_push ?_ (q_tail h1)) h2 H locs lsA hH hl)
  · rw [List.getElem?_mapIdx, hs]; rfl
  · rcases sl with n | f
    · cases n <;> trivial
    · exact Or.inl (q_lay_ok (r := i.1) hL hs hio)
theorem q_putI (hx : p.tables.exec = Jvm.exec) (hb : c.code = cc) {pc nx z : Nat} {ls : List (Nat × Q_V)} {st : List Q_V} {M : Q_M} (hown : s.vm.findClass (q_R own) = some m.cls) (hts : ∀ w ∈ q_G, w.before args s = true) (hK : va_K D vwCl (q_tys cs) s) (hdm : ∀ i, q_ok b i → i ∈ dm) {idx ci k ty : Nat} {i : Q_Id} {L : List Q_S} {x : Int32} (hf : q_fld own idx = some (ci, k, false, ty)) (hL : q_lay i.1 = some (ci, L)) (hs : q_nth L k = some (.inl 0)) (hx0 : ty = 0 ∨ (ty = 1 ∧ q_bit x)) (hdg : decode cc pc = .ok (.putfield idx, 3)) (hnx : pc + 3 = nx) (kk : q_Zd p l e R s m args below meth c Q nL D cs ad dm base b bi z nx ls st (q_si M i k x)) : q_Zd p l e R s m args below meth c Q nL D cs ad dm base b bi z pc ls (.inl x :: .inr (.inl i) :: st) M := by
  subst hnx
  intro hz h1 h2 H locs lsA hH hl
  have hm := q_find_mem hf
  obtain ⟨hc, hk, hfin, hty⟩ := q_FLi hm
  have hi := q_okdm hdm (q_hd (q_tail h1)) (q_lay_ne hL).1 (q_lay_ne hL).2
  obtain ⟨q0, hq0, hq⟩ := q_Wget (cs := cs) (ad := ad) (M := M) hi
  rw [q_enc_obj hL] at hq
  rw [q_nth_eq] at hs
  have hlt := (List.getElem?_eq_some_iff.mp hs).1
  have hnf : ∃ ft : FieldType, parseFieldDescriptor ((q_cl ci).2.1 k).2.2.1 = some ft ∧ narrow ft (.int x) = .int x ∧ fits ft (.int x) = true := by
    rcases hty with h4 | hty
    · rcases hx0 with rfl | ⟨rfl, -⟩ <;> cases h4
    · rcases hx0 with rfl | ⟨rfl, hb⟩
      · exact ⟨_, hty, rfl, rfl⟩
      · refine ⟨_, hty, ?_⟩
        rcases hb with rfl | rfl <;> exact ⟨by decide, by decide⟩
  obtain ⟨ft, hp1, hp2, hp3⟩ := hnf
  refine va_put (D := D) (ci := ci) (v := (.int x)) (ty := ft) hx hb hts (q_UWg hc) (q_ty0 ci) (q_ty0_ok hc) (q_nm hc) hown hK hH.1 hH.2.1 hH.2.2.1 q0 hq (q_clat hc) k hk (hts _ (q_FLg hm)) (fun _ g => g) hfin hp1 hp2 hp3 (by rw [List.length_mapIdx]; exact hlt) hdg (fun H1 locs1 hP1 hD1 hS1 => ?_)
  rw [← q_fs_si hs, q_Wset (M' := q_si M i k x) hH.2.1 hq0 (q_enc_obj hL) (fun i' hi' => q_enc_si hi')] at hP1 hD1
  exact kk hz (q_tail (q_tail h1)) h2 H1 locs1 lsA ⟨hP1, hD1, hS1, hH.2.2.2⟩ hl
theorem q_putL (hx : p.tables.exec = Jvm.exec) (hb : c.code = cc) {pc nx z : Nat} {ls : List (Nat × Q_V)} {st : List Q_V} {M : Q_M} (hown : s.vm.findClass (q_R own) = some m.cls) (hts : ∀ w ∈ q_G, w.before args s = true) (hK : va_K D vwCl (q_tys cs) s) (hdm : ∀ i, q_ok b i → i ∈ dm) {idx ci k ty : Nat} {i : Q_Id} {L : List Q_S} {x : Int64} (hf : q_fld own idx = some (ci, k, false, ty)) (hL : q_lay i.1 = some (ci, L)) (hs : q_nth L k = some (.inl 1)) (hx0 : ty = 3) (hdg : decode cc pc = .ok (.putfield idx, 3)) (hnx : pc + 3 = nx) (kk : q_Zd p l e R s m args below meth c Q nL D cs ad dm base b bi z nx ls st (q_sl M i k x)) : q_Zd p l e R s m args below meth c Q nL D cs ad dm base b bi z pc ls (.inr (.inr (.inl x)) :: .inr (.inl i) :: st) M := by
  subst hnx
  intro hz h1 h2 H locs lsA hH hl
  have hm := q_find_mem hf
  obtain ⟨hc, hk, hfin, hty⟩ := q_FLi hm
  have hi := q_okdm hdm (q_hd (q_tail h1)) (q_lay_ne hL).1 (q_lay_ne hL).2
  obtain ⟨q0, hq0, hq⟩ := q_Wget (cs := cs) (ad := ad) (M := M) hi
  rw [q_enc_obj hL] at hq
  rw [q_nth_eq] at hs
  have hlt := (List.getElem?_eq_some_iff.mp hs).1
  have hnf : ∃ ft : FieldType, parseFieldDescriptor ((q_cl ci).2.1 k).2.2.1 = some ft ∧ narrow ft (.long x) = .long x ∧ fits ft (.long x) = true := by
    rcases hty with h4 | hty
    · rw [hx0] at h4; cases h4
    · rw [hx0] at hty
      exact ⟨_, hty, rfl, rfl⟩
  obtain ⟨ft, hp1, hp2, hp3⟩ := hnf
  refine va_put (D := D) (ci := ci) (v := (.long x)) (ty := ft) hx hb hts (q_UWg hc) (q_ty0 ci) (q_ty0_ok hc) (q_nm hc) hown hK hH.1 hH.2.1 hH.2.2.1 q0 hq (q_clat hc) k hk (hts _ (q_FLg hm)) (fun _ g => g) hfin hp1 hp2 hp3 (by rw [List.length_mapIdx]; exact hlt) hdg (fun H1 locs1 hP1 hD1 hS1 => ?_)
  rw [← q_fs_sl hs, q_Wset (M' := q_sl M i k x) hH.2.1 hq0 (q_enc_obj hL) (fun i' hi' => q_enc_sl hi')] at hP1 hD1
  exact kk hz (q_tail (q_tail h1)) h2 H1 locs1 lsA ⟨hP1, hD1, hS1, hH.2.2.2⟩ hl
theorem q_iaload (hx : p.tables.exec = Jvm.exec) (hb : c.code = cc) {pc nx z : Nat} {ls : List (Nat × Q_V)} {st : List Q_V} {M : Q_M} (hK : va_K D vwCl (q_tys cs) s) (hdm : ∀ i, q_ok b i → i ∈ dm) {i : Q_Id} {n j : Nat} {x : Int32} (ha : q_arr i.1 = some (1, n)) (hx1 : x = nI j) (hj : j < n) (hdg : decode cc pc = .ok (.iaload, 1)) (hnx : pc + 1 = nx) (kk : q_Zd p l e R s m args below meth c Q nL D cs ad dm base b bi z nx ls (.inl (M.1 i.1 i.2.1 i.2.2 j) :: st) M) : q_Zd p l e R s m args below meth c Q nL D cs ad dm base b bi z pc ls (.inl x :: .inr (.inl i) :: st) M := by
  subst hnx; subst hx1
  intro hz h1 h2 H locs lsA hH hl
  have hi := q_okdm hdm (q_hd (q_tail h1)) (q_arr_ne ha).1 (q_arr_ne ha).2
  obtain ⟨q0, -, hq⟩ := q_Wget (cs := cs) (ad := ad) (M := M) hi
  rw [q_enc_arr ha] at hq
  have hn := q_arr_lt ha
  refine va_iald (D := D) hx hb hK hH.1 q0 1 hq rfl (vp_in_nI hj hn) hdg ?_
  rw [nI_clamp (Nat.lt_trans hj hn)]
  exact kk hz (q_push trivial (q_tail (q_tail h1))) h2 H locs lsA hH hl
theorem q_baload (hx : p.tables.exec = Jvm.exec) (hb : c.code = cc) {pc nx z : Nat} {ls : List (Nat × Q_V)} {st : List Q_V} {M : Q_M} (hK : va_K D vwCl (q_tys cs) s) (hdm : ∀ i, q_ok b i → i ∈ dm) {i : Q_Id} {n j : Nat} {x : Int32} (ha : q_arr i.1 = some (2, n)) (hx1 : x = nI j) (hj : j < n) (hdg : decode cc pc = .ok (.baload, 1)) (hnx : pc + 1 = nx) (kk : q_Zd p l e R s m args below meth c Q nL D cs ad dm base b bi z nx ls (.inl (M.1 i.1 i.2.1 i.2.2 j) :: st) M) : q_Zd p l e R s m args below meth c Q nL D cs ad dm base b bi z pc ls (.inl x :: .inr (.inl i) :: st) M := by
  subst hnx; subst hx1
  intro hz h1 h2 H locs lsA hH hl
  have hi := q_okdm hdm (q_hd (q_tail h1)) (q_arr_ne ha).1 (q_arr_ne ha).2
  obtain ⟨q0, -, hq⟩ := q_Wget (cs := cs) (ad := ad) (M := M) hi
  rw [q_enc_arr ha] at hq
  have hn := q_arr_lt ha
  refine va_zald (D := D) hx hb hK hH.1 q0 2 hq rfl (vp_in_nI hj hn) hdg ?_
  rw [nI_clamp (Nat.lt_trans hj hn)]
  exact kk hz (q_push trivial (q_tail (q_tail h1))) h2 H locs lsA hH hl
theorem q_iastore (hx : p.tables.exec = Jvm.exec) (hb : c.code = cc) {pc nx z : Nat} {ls : List (Nat × Q_V)} {st : List Q_V} {M : Q_M} (hK : va_K D vwCl (q_tys cs) s) (hdm : ∀ i, q_ok b i → i ∈ dm) {i : Q_Id} {n j : Nat} {x v : Int32} (ha : q_arr i.1 = some (1, n)) (hx1 : x = nI j) (hj : j < n)  (hdg : decode cc pc = .ok (.iastore, 1)) (hnx : pc + 1 = nx) (kk : q_Zd p l e R s m args below meth c Q nL D cs ad dm base b bi z nx ls st (q_si M i j v)) : q_Zd p l e R s m args below meth c Q nL D cs ad dm base b bi z pc ls (.inl v :: .inl x :: .inr (.inl i) :: st) M := by
  subst hnx; subst hx1
  intro hz h1 h2 H locs lsA hH hl
  have hi := q_okdm hdm (q_hd (q_tail (q_tail h1))) (q_arr_ne ha).1 (q_arr_ne ha).2
  obtain ⟨q0, hq0, hq⟩ := q_Wget (cs := cs) (ad := ad) (M := M) hi
  rw [q_enc_arr ha] at hq
  have hn := q_arr_lt ha
  refine va_iast (D := D) hx hb hK hH.1 hH.2.1 hH.2.2.1 q0 1 hq rfl (vp_in_nI hj hn) hdg (fun H1 locs1 hP1 hD1 hS1 => ?_)
  rw [nI_clamp (Nat.lt_trans hj hn), ← q_si_at, q_Wset (M' := q_si M i j v) hH.2.1 hq0 (q_enc_arr ha) (fun i' hi' => q_enc_si hi')] at hP1 hD1
  exact kk hz (q_tail (q_tail (q_tail h1))) h2 H1 locs1 lsA ⟨hP1, hD1, hS1, hH.2.2.2⟩ hl
theorem q_bastore (hx : p.tables.exec = Jvm.exec) (hb : c.code = cc) {pc nx z : Nat} {ls : List (Nat × Q_V)} {st : List Q_V} {M : Q_M} (hK : va_K D vwCl (q_tys cs) s) (hdm : ∀ i, q_ok b i → i ∈ dm) {i : Q_Id} {n j : Nat} {x v : Int32} (ha : q_arr i.1 = some (2, n)) (hx1 : x = nI j) (hj : j < n) (hv : vp_nar .boolean v = v) (hdg : decode cc pc = .ok (.bastore, 1)) (hnx : pc + 1 = nx) (kk : q_Zd p l e R s m args below meth c Q nL D cs ad dm base b bi z nx ls st (q_si M i j v)) : q_Zd p l e R s m args below meth c Q nL D cs ad dm base b bi z pc ls (.inl v :: .inl x :: .inr (.inl i) :: st) M := by
  subst hnx; subst hx1
  intro hz h1 h2 H locs lsA hH hl
  have hi := q_okdm hdm (q_hd (q_tail (q_tail h1))) (q_arr_ne ha).1 (q_arr_ne ha).2
  obtain ⟨q0, hq0, hq⟩ := q_Wget (cs := cs) (ad := ad) (M := M) hi
  rw [q_enc_arr ha] at hq
  have hn := q_arr_lt ha
  refine va_zast (D := D) hx hb hK hH.1 hH.2.1 hH.2.2.1 q0 2 hq rfl (vp_in_nI hj hn) hdg (fun H1 locs1 hP1 hD1 hS1 => ?_)
  rw [nI_clamp (Nat.lt_trans hj hn), hv, ← q_si_at, q_Wset (M' := q_si M i j v) hH.2.1 hq0 (q_enc_arr ha) (fun i' hi' => q_enc_si hi')] at hP1 hD1
  exact kk hz (q_tail (q_tail (q_tail h1))) h2 H1 locs1 lsA ⟨hP1, hD1, hS1, hH.2.2.2⟩ hl
theorem q_tg_ok {M : Q_M} {i : Q_Id} {tc n k : Nat} (h : q_rar i.1 = some (tc, n)) (hi : q_ok b i) (hw : q_wf M) : q_ok b (q_tg M i tc k) := by
  obtain ⟨r, j, c⟩ := i
  have hw := hw j c k
  unfold q_ok at hi ⊢
  unfold q_rar at h
  split at h <;> cases h <;> simp_all [q_tg, q_tgi, q_lim]
theorem q_aaload (hx : p.tables.exec = Jvm.exec) (hb : c.code = cc) {pc nx z : Nat} {ls : List (Nat × Q_V)} {st : List Q_V} {M : Q_M} (hK : va_K D vwCl (q_tys cs) s) (hdm : ∀ i, q_ok b i → i ∈ dm) {i : Q_Id} {tc n j : Nat} {x : Int32} (ha : q_rar i.1 = some (tc, n)) (hx1 : x = nI j) (hj : j < n) (hdg : decode cc pc = .ok (.aaload, 1)) (hnx : pc + 1 = nx) (kk : q_Zd p l e R s m args below meth c Q nL D cs ad dm base b bi z nx ls (.inr (.inl (q_tg M i tc j)) :: st) M) : q_Zd p l e R s m args below meth c Q nL D cs ad dm base b bi z pc ls (.inl x :: .inr (.inl i) :: st) M := by
  subst hnx; subst hx1
  intro hz h1 h2 H locs lsA hH hl
  have hi := q_okdm hdm (q_hd (q_tail h1)) (q_rar_ne ha).1 (q_rar_ne ha).2
  have hio := q_okok (q_hd (q_tail h1)) (q_rar_ne ha).1 (q_rar_ne ha).2
  obtain ⟨q0, -, hq⟩ := q_Wget (cs := cs) (ad := ad) (M := M) hi
  rw [q_enc_rar ha] at hq
  obtain ⟨hn, htc⟩ := q_rar_lt ha
  have kk2 := kk hz (q_push (Or.inl (q_tg_ok ha hio hH.2.2.2)) (q_tail (q_tail h1))) h2 H locs lsA hH hl
  rcases htc with rfl | rfl
  · refine va_aldq (D := D) hx hb hK hH.1 q0 3 hq rfl (vp_in_nI hj hn) hdg ?_
    rw [nI_clamp (Nat.lt_trans hj hn)]
    exact kk2
  · refine va_aldq (D := D) hx hb hK hH.1 q0 4 hq rfl (vp_in_nI hj hn) hdg ?_
    rw [nI_clamp (Nat.lt_trans hj hn)]
    exact kk2
theorem q_wf_sr {M : Q_M} {i : Q_Id} {tc n k y : Nat} (h : q_rar i.1 = some (tc, n)) (hv : q_ok b (q_tgi i tc y)) (hw : q_wf M) : q_wf (q_sr M i k y) := by
  intro j c k'
  have hw := hw j c k'
  obtain ⟨r, j0, c0⟩ := i
  unfold q_ok at hv
  unfold q_rar at h
  unfold q_sr
  simp only at h hv ⊢
  split at h <;> cases h <;> simp [q_tgi, q_lim] at hv ⊢ <;> refine ⟨?_, ?_, ?_⟩ <;> (try split) <;> omega
theorem q_aastore (hx : p.tables.exec = Jvm.exec) (hb : c.code = cc) {pc nx z : Nat} {ls : List (Nat × Q_V)} {st : List Q_V} {M : Q_M} (hK : va_K D vwCl (q_tys cs) s) (hdm : ∀ i, q_ok b i → i ∈ dm) {i v : Q_Id} {tc n j y : Nat} {x : Int32} (ha : q_rar i.1 = some (tc, n)) (hx1 : x = nI j) (hj : j < n) (hv : v = q_tgi i tc y) (hdg : decode cc pc = .ok (.aastore, 1)) (hnx : pc + 1 = nx) (kk : q_Zd p l e R s m args below meth c Q nL D cs ad dm base b bi z nx ls st (q_sr M i j y)) : q_Zd p l e R s m args below meth c Q nL D cs ad dm base b bi z pc ls (.inr (.inl v) :: .inl x :: .inr (.inl i) :: st) M := by
  subst hnx; subst hx1
  intro hz h1 h2 H locs lsA hH hl
  have hi := q_okdm hdm (q_hd (q_tail (q_tail h1))) (q_rar_ne ha).1 (q_rar_ne ha).2
  obtain ⟨hn, htc⟩ := q_rar_lt ha
  have hv1 : v.1 = 19 ∨ v.1 = 10 := by rcases htc with rfl | rfl <;> rw [hv] <;> simp [q_tgi]
  have hvm := q_okdm hdm (q_hd h1) (by omega) (by omega)
  have hvo := q_okok (q_hd h1) (by omega) (by omega)
  obtain ⟨q0, hq0, hq⟩ := q_Wget (cs := cs) (ad := ad) (M := M) hi
  obtain ⟨qv, -, hqv⟩ := q_Wget (cs := cs) (ad := ad) (M := M) hvm
  rw [q_enc_rar ha] at hq
  have hwf : q_wf (q_sr M i j y) := q_wf_sr (b := b) ha (by rw [← hv]; exact hvo) hH.2.2.2
  rcases htc with rfl | rfl
  · rw [q_enc_obj (ci := 1) (by rw [hv]; rfl)] at hqv
    refine va_astq (D := D) (r := (RX1, TX1, 9)) hx hb hK hH.1 hH.2.1 hH.2.2.1 q0 3 qv 1 hq rfl hqv rfl (vp_in_nI hj hn) hdg (fun H1 locs1 hP1 hD1 hS1 => ?_)
    rw [nI_clamp (Nat.lt_trans hj hn), q_Wset (M' := q_sr M i j y) hH.2.1 hq0 (q_sr_at ha (by rw [hv])) (fun i' hi' => q_enc_sr hi')] at hP1 hD1
    exact kk hz (q_tail (q_tail (q_tail h1))) h2 H1 locs1 lsA ⟨hP1, hD1, hS1, hwf⟩ hl
  · rw [q_enc_obj (ci := 7) (by rw [hv]; rfl)] at hqv
    refine va_astq (D := D) (r := (RX7, TX7, 7)) hx hb hK hH.1 hH.2.1 hH.2.2.1 q0 4 qv 7 hq rfl hqv rfl (vp_in_nI hj hn) hdg (fun H1 locs1 hP1 hD1 hS1 => ?_)
    rw [nI_clamp (Nat.lt_trans hj hn), q_Wset (M' := q_sr M i j y) hH.2.1 hq0 (q_sr_at ha (by rw [hv])) (fun i' hi' => q_enc_sr hi')] at hP1 hD1
    exact kk hz (q_tail (q_tail (q_tail h1))) h2 H1 locs1 lsA ⟨hP1, hD1, hS1, hwf⟩ hl
theorem q_script (hx : p.tables.exec = Jvm.exec) (hb : c.code = cc) {pc nx z : Nat} {ls : List (Nat × Q_V)} {st : List Q_V} {M : Q_M} (hX : va_X (ad (26, 0, 0)) sc.1 sc.2 s s.heap ∧ ad (26, 0, 0) < s.heap.size ∧ ¬ base ≤ ad (26, 0, 0)) {j : Nat} {x : Int32} (hx1 : x = nI j) (hj : j < sc.1) (hn : sc.1 < 2 ^ 31) (hdg : decode cc pc = .ok (.iaload, 1)) (hnx : pc + 1 = nx) (kk : q_Zd p l e R s m args below meth c Q nL D cs ad dm base b bi z nx ls (.inl (sc.2 j) :: st) M) : q_Zd p l e R s m args below meth c Q nL D cs ad dm base b bi z pc ls (.inl x :: .inr (.inl (26, 0, 0)) :: st) M := by
  subst hnx; subst hx1
  intro hz h1 h2 H locs lsA hH hl
  refine va_sld hx hb hX.1 hX.2.1 hX.2.2 hH.2.2.1 (vp_in_nI hj hn) hdg ?_
  rw [nI_clamp (Nat.lt_trans hj hn)]
  exact kk hz (q_push trivial (q_tail (q_tail h1))) h2 H locs lsA hH hl
theorem q_scriptlen (hx : p.tables.exec = Jvm.exec) (hb : c.code = cc) {pc nx z : Nat} {ls : List (Nat × Q_V)} {st : List Q_V} {M : Q_M} (hX : va_X (ad (26, 0, 0)) sc.1 sc.2 s s.heap ∧ ad (26, 0, 0) < s.heap.size ∧ ¬ base ≤ ad (26, 0, 0)) (hdg : decode cc pc = .ok (.arraylength, 1)) (hnx : pc + 1 = nx) (kk : q_Zd p l e R s m args below meth c Q nL D cs ad dm base b bi z nx ls (.inl (nI sc.1) :: st) M) : q_Zd p l e R s m args below meth c Q nL D cs ad dm base b bi z pc ls (.inr (.inl (26, 0, 0)) :: st) M := by
  subst hnx
  intro hz h1 h2 H locs lsA hH hl
  exact va_slen hx hb hX.1 hX.2.1 hX.2.2 hH.2.2.1 hdg (kk hz (q_push trivial (q_tail h1)) h2 H locs lsA hH hl)
end QM
