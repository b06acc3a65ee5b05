-- CONSTRUCTORS: CELLS BY THEIR PLACES IN A LIST, WHICH GROWS
abbrev K_V : Type := Int32 ⊕ (Option Nat ⊕ Int64)
abbrev K_E : Type := (Nat × List K_V) ⊕ ((Nat × Nat) × (List (Nat × Int32) ⊕ (List (Nat × Nat) ⊕ Unit)))
def k_li : List (Nat × Int32) → Nat → Int32
  | [], _ => 0
  | q :: L, j => if q.1 = j then q.2 else k_li L j
def k_lr : List (Nat × Nat) → Nat → Option Nat
  | [], _ => none
  | q :: L, j => if q.1 = j then some q.2 else k_lr L j
def k_e (ads : Nat → Nat) : K_V → Value
  | .inl x => .int x
  | .inr (.inl none) => .null
  | .inr (.inl (some i)) => .ref (ads i)
  | .inr (.inr x) => .long x
def k_cat : K_V → Nat
  | .inl _ => 1
  | .inr (.inl _) => 1
  | .inr (.inr _) => 2
theorem k_e_cat {ads : Nat → Nat} (v : K_V) : (k_e ads v).category = k_cat v := by
  rcases v with x | ⟨_ | i⟩ | x <;> rfl
def k_enc (cs : Nat → ClassId) (ads : Nat → Nat) : K_E → va_E
  | .inl o => .inr (o.1, o.2.map (k_e ads))
  | .inr (t, .inl L) => .inl (cs t.1, t.2, .inl (k_li L))
  | .inr (t, .inr (.inl L)) => .inl (cs t.1, t.2, .inr (.inr (.inr (.inr (fun j => (k_lr L j).map ads)))))
  | .inr (t, .inr (.inr _)) => .inl (cs t.1, t.2, .inr (.inl (fun _ => 0)))
def k_W (cs : Nat → ClassId) (ads : Nat → Nat) (E : List K_E) : va_W := E.mapIdx fun i e => (ads i, k_enc cs ads e)
def k_lv (n : Nat) : K_V → Bool
  | .inr (.inl (some i)) => Nat.blt i n
  | _ => true
def k_le (n : Nat) : K_E → Bool
  | .inl o => o.2.all (k_lv n)
  | .inr (_, .inr (.inl L)) => L.all fun q => Nat.blt q.2 n
  | _ => true
theorem k_blt {i n : Nat} (h : Nat.blt i n = true) : i < n := Nat.le_of_ble_eq_true h
theorem k_e_ext {a a' : Nat → Nat} {n : Nat} (h : ∀ i, i < n → a' i = a i) {v : K_V} (hv : k_lv n v = true) : k_e a' v = k_e a v := by
  rcases v with x | ⟨_ | i⟩ | x
  · rfl
  · rfl
  · show Value.ref (a' i) = Value.ref (a i)
    rw [h i (k_blt hv)]
  · rfl
theorem k_map_ext {a a' : Nat → Nat} {n : Nat} (h : ∀ i, i < n → a' i = a i) {L : List K_V} (hv : L.all (k_lv n) = true) : L.map (k_e a') = L.map (k_e a) := List.map_congr_left fun v hm => k_e_ext h (List.all_eq_true.mp hv v hm)
theorem k_lr_lt {n : Nat} : ∀ {L : List (Nat × Nat)} {j i : Nat}, (L.all fun q => Nat.blt q.2 n) = true → k_lr L j = some i → i < n
  | [], _, _, _, h => by cases h
  | q :: L, j, i, ha, h => by
    rw [List.all_cons, Bool.and_eq_true] at ha
    unfold k_lr at h
    split at h
    · cases h
      exact k_blt ha.1
    · exact k_lr_lt ha.2 h
theorem k_enc_ext {cs : Nat → ClassId} {a a' : Nat → Nat} {n : Nat} (h : ∀ i, i < n → a' i = a i) {e : K_E} (he : k_le n e = true) : k_enc cs a' e = k_enc cs a e := by
  rcases e with o | ⟨t, L | L | L⟩
  · show (Sum.inr (o.1, o.2.map (k_e a')) : va_E) = _
    rw [k_map_ext h he]
    rfl
  · rfl
  · have e : (fun j => (k_lr L j).map a') = (fun j => (k_lr L j).map a) := by
      funext j
      cases hj : k_lr L j with
      | none => rfl
      | some i => exact congrArg some (h i (k_lr_lt he hj))
    show (Sum.inl (cs t.1, t.2, .inr (.inr (.inr (.inr (fun j => (k_lr L j).map a'))))) : va_E) = Sum.inl (cs t.1, t.2, .inr (.inr (.inr (.inr (fun j => (k_lr L j).map a)))))
    rw [e]
  · rfl
theorem k_W_at {cs : Nat → ClassId} {ads : Nat → Nat} {E : List K_E} {i : Nat} {e : K_E} (h : E[i]? = some e) : (k_W cs ads E)[i]? = some (ads i, k_enc cs ads e) := by
  unfold k_W
  rw [List.getElem?_mapIdx, h]
  rfl
theorem k_W_len {cs : Nat → ClassId} {ads : Nat → Nat} {E : List K_E} : (k_W cs ads E).length = E.length := by
  unfold k_W
  rw [List.length_mapIdx]
theorem k_W_set {cs : Nat → ClassId} {ads : Nat → Nat} {E : List K_E} {i : Nat} {e : K_E} : (k_W cs ads E).set i (ads i, k_enc cs ads e) = k_W cs ads (E.set i e) := by
  apply List.ext_getElem?
  intro j
  rw [List.getElem?_set, k_W_len]
  unfold k_W
  rw [List.getElem?_mapIdx, List.getElem?_mapIdx, List.getElem?_set]
  by_cases c : i = j
  · subst c
    rw [if_pos rfl, if_pos rfl]
    by_cases g : i < E.length
    · rw [if_pos g, if_pos g]
      rfl
    · rw [if_neg g, if_neg g]
      rfl
  · rw [if_neg c, if_neg c]
/-- a cell more -/
theorem k_W_app {cs : Nat → ClassId} {ads : Nat → Nat} {E : List K_E} {q : Nat} {e : K_E} (hE : (E.all (k_le E.length)) = true) : k_W cs (fun i => if i = E.length then q else ads i) (E ++ [e]) = k_W cs ads E ++ [(q, k_enc cs (fun i => if i = E.length then q else ads i) e)] := by
  have hx : ∀ i, i < E.length → (fun i => if i = E.length then q else ads i) i = ads i := fun i hi => if_neg (by omega)
  unfold k_W
  rw [List.mapIdx_append]
  congr 1
  · apply List.ext_getElem?
    intro j
    rw [List.getElem?_mapIdx, List.getElem?_mapIdx]
    cases hj : E[j]? with
    | none => rfl
    | some x =>
      have hlt := (List.getElem?_eq_some_iff.mp hj).1
      have hm := List.all_eq_true.mp hE x (List.mem_of_getElem? hj)
      show some ((if j = E.length then q else ads j), k_enc cs (fun i => if i = E.length then q else ads i) x) = some (ads j, k_enc cs ads x)
      rw [if_neg (by omega), k_enc_ext hx hm]
  · simp
def k_lp (ads : Nat → Nat) (ls : List (Nat × K_V)) : List (Nat × Value) := ls.map fun q => (q.1, k_e ads q.2)
def k_ld : List (Nat × K_V) → Nat → Option K_V
  | [], _ => none
  | q :: ls, k => if q.1 = k then some q.2 else k_ld ls k
theorem k_ld_mem : ∀ {ls : List (Nat × K_V)} {k : Nat} {v : K_V}, k_ld ls k = some v → (k, v) ∈ ls
  | [], _, _, h => by cases h
  | q :: ls, k, v, h => by
    unfold k_ld at h
    split at h
    · rename_i e
      cases h
      rw [← e]
      exact List.mem_cons_self
    · exact List.mem_cons_of_mem _ (k_ld_mem h)
def k_s1 (ls : List (Nat × K_V)) (k : Nat) (v : K_V) : List (Nat × K_V) := (k, v) :: ls.filter (fun q => decide (q.1 ≠ k) && (decide (q.1 + 1 ≠ k) || Nat.beq (k_cat q.2) 1))
/-- all places are there -/
def k_ok (n : Nat) (ls : List (Nat × K_V)) (st : List K_V) (E : List K_E) : Bool := E.all (k_le n) && (ls.all (fun q => k_lv n q.2) && st.all (k_lv n))
def k_Zd (p : Program) (l : Launch) (e : Env) (R : Room) (s : State) (m : MethodId) (args : Array Value) (below : List Frame) (meth : Method) (c : Code) (Q : State → Prop) (nL : Nat) (D : va_G) (cs : Nat → ClassId) (A : Nat → Prop) (h0 : Option Nat) (xl : List (Nat × Value)) (z sl pc : Nat) (ls : List (Nat × K_V)) (st : List K_V) (E : List K_E) : Prop :=
  ∀ (ads : Nat → Nat) (H : Heap) (locs : List Loc) (lsA : Array Slot), (∀ a, h0 = some a → ads 0 = a ∧ 0 < E.length) → va_P D vwCl (k_W cs ads E) H → va_D A (k_W cs ads E) → va_S A s.heap H locs → lv_has lsA nL (k_lp ads ls ++ xl) → W p l e R s m args below meth c H locs z sl Q (F0 m pc lsA (st.map (k_e ads)))
def k_dv : FieldType → K_V
  | .object _ => .inr (.inl none)
  | .array _ => .inr (.inl none)
  | .long => .inr (.inr 0)
  | _ => .inl 0
def k_dt : FieldType → Bool
  | .float => false
  | .double => false
  | _ => true
theorem k_dv_ok {ads : Nat → Nat} {ty : FieldType} (h : k_dt ty = true) : defaultValue ty = k_e ads (k_dv ty) := by
  cases ty <;> first | rfl | cases h
def k_df (ci : Nat) : List K_V := (List.range (q_cl ci).2.2).map fun j => k_dv (q_ty0 ci j)
theorem k_df_ok : (List.range 10).all (fun ci => (List.range (q_cl ci).2.2).all fun j => k_dt (q_ty0 ci j)) = true := by decide +kernel
theorem k_df_lv (ci : Nat) : (k_df ci).all (k_lv 0) = true := by
  unfold k_df
  rw [List.all_map, List.all_eq_true]
  intro j _
  show k_lv 0 (k_dv (q_ty0 ci j)) = true
  generalize q_ty0 ci j = t
  cases t <;> rfl
section KZ
variable {p : Program} {l : Launch} {e : Env} {R : Room} {s : State} {m : MethodId} {args : Array Value} {below : List Frame} {meth : Method} {c : Code} {Q : State → Prop}
variable {cc : ByteArray} {nL own : Nat} {D : va_G} {cs : Nat → ClassId} {A : Nat → Prop} {h0 : Option Nat} {xl : List (Nat × Value)} {z sl pc : Nat} {ls : List (Nat × K_V)} {st : List K_V} {E : List K_E}
/-- a cell that is made -/
theorem k_grow {e9 : K_E} {pc' z' sl' : Nat} (hok : k_ok E.length ls st E = true) (he : k_le 0 e9 = true) (kk : k_Zd p l e R s m args below meth c Q nL D cs A h0 xl z' sl' pc' ls (.inr (.inl (some E.length)) :: st) (E ++ [e9])) {ads : Nat → Nat} {H1 : Heap} {locs : List Loc} {lsA : Array Slot} {q : Nat} (h0' : ∀ a, h0 = some a → ads 0 = a ∧ 0 < E.length) (hP : va_P D vwCl (k_W cs ads E ++ [(q, k_enc cs ads e9)]) H1) (hD : va_D A (k_W cs ads E ++ [(q, k_enc cs ads e9)])) (hS : va_S A s.heap H1 locs) (hl : lv_has lsA nL (k_lp ads ls ++ xl)) : W p l e R s m args below meth c H1 locs z' sl' Q (F0 m pc' lsA (.ref q :: st.map (k_e ads))) := by
  unfold k_ok at hok
  rw [Bool.and_eq_true, Bool.and_eq_true] at hok
  obtain ⟨o1, o2, o3⟩ := hok
  have hx : ∀ i, i < E.length → (fun i => if i = E.length then q else ads i) i = ads i := fun i hi => if_neg (by omega)
  have hx0 : ∀ i, i < 0 → (fun i => if i = E.length then q else ads i) i = ads i := fun i hi => absurd hi (by omega)
  have hk := kk (fun i => if i = E.length then q else ads i) H1 locs lsA (fun a ha => by
    obtain ⟨g1, g2⟩ := h0' a ha
    refine ⟨?_, by rw [List.length_append]; omega⟩
    show (if 0 = E.length then q else ads 0) = a
    rw [if_neg (by omega)]
    exact g1) (by rw [k_W_app o1, k_enc_ext hx0 he]; exact hP) (by rw [k_W_app o1, k_enc_ext hx0 he]; exact hD) hS (by
      have e2 : k_lp (fun i => if i = E.length then q else ads i) ls = k_lp ads ls := List.map_congr_left fun v hm => by rw [k_e_ext hx (List.all_eq_true.mp o2 v hm)]
      rw [e2]
      exact hl)
  rw [List.map_cons, k_map_ext hx o3] at hk
  have e3 : k_e (fun i => if i = E.length then q else ads i) (.inr (.inl (some E.length))) = .ref q := by
    show Value.ref (if E.length = E.length then q else ads E.length) = _
    rw [if_pos rfl]
  rw [e3] at hk
  exact hk
theorem k_new (hx : p.tables.exec = Jvm.exec) (hb : c.code = cc) (hown : s.vm.findClass (q_R own) = some m.cls) (hts : ∀ w ∈ q_G, w.before args s = true) (hK : va_K D vwCl (q_tys cs) s) (hA : ∀ q, s.heap.size ≤ q → A q) {idx ci : Nat} (hci : ci < 10) (hw : Cond.classLink (q_R own) idx (q_cl ci).1 ∈ q_G ∧ Cond.instantiable (q_cl ci).1 (q_cl ci).2.2 ∈ q_G ∧ Cond.initialized (q_cl ci).1 ∈ q_G) (hok : k_ok E.length ls st E = true) (hz : z + 1 ≤ R.cells) (hsl : sl + (q_cl ci).2.2 ≤ R.slots) (hdg : decode cc pc = .ok (.new idx, 3)) (kk : k_Zd p l e R s m args below meth c Q nL D cs A h0 xl (z + 1) (sl + (q_cl ci).2.2) (pc + 3) ls (.inr (.inl (some E.length)) :: st) (E ++ [.inl (ci, k_df ci)])) : k_Zd p l e R s m args below meth c Q nL D cs A h0 xl z sl pc ls st E := by
  intro ads H locs lsA h0' hP hD hS hl
  refine va_new (ci := ci) (fs := (k_df ci).map (k_e ads)) hx hb hts (q_UWg hci) (q_ty0 ci) (q_ty0_ok hci) hown (hts _ hw.1) (hts _ hw.2.1) (hts _ hw.2.2) hK hP hD hS hA (q_clat hci) (fun j hj => ?_) hz hsl hdg (fun q H1 hP1 hD1 hS1 => k_grow (e9 := .inl (ci, k_df ci)) hok (k_df_lv ci) kk h0' hP1 hD1 hS1 hl)
  have ht := List.all_eq_true.mp (List.all_eq_true.mp k_df_ok ci (List.mem_range.mpr hci)) j (List.mem_range.mpr hj)
  rw [k_dv_ok (ads := ads) ht]
  unfold vp_V k_df
  rw [List.map_map, List.getD_eq_getElem?_getD, List.getElem?_map, List.getElem?_range hj]
  rfl
theorem k_ra {s : State} {a b : ClassId} {ty : FieldType} (h : va_RA s a ty) (h2 : va_RA s b ty) : a = b := by
  cases ty <;> first
    | exact Option.some.inj (Eq.trans (Eq.symm h) h2)
    | (obtain ⟨_, _, _, _, _, g⟩ := h
       obtain ⟨_, _, _, _, _, g2⟩ := h2
       exact Option.some.inj (g.symm.trans g2))
theorem k_newa (hx : p.tables.exec = Jvm.exec) (hb : c.code = cc) (hts : ∀ w ∈ q_G, w.before args s = true) (hK : va_K D vwCl (q_tys cs) s) (hA : ∀ q, s.heap.size ≤ q → A q) {at9 : ArrayType} {ty : FieldType} {tc N : Nat} {a0 : vp_A} {e9 : K_E} (hty : newarray.typeOf at9 = ty) (htc : (q_tys cs)[tc]? = some (cs tc, ty)) (harr : Cond.arrayClass (newarray.typeOf at9) ∈ q_G) (ha : ∀ cA : ClassId, vp_cell cA a0 = arrV cA N (fun _ => defaultValue ty)) (he9 : ∀ ads, k_enc cs ads e9 = .inl (cs tc, a0)) (hle : k_le 0 e9 = true) (hN : N ≤ 4000) (hcb : componentBytes ty ≤ 8) (hok : k_ok E.length ls st E = true) (hz : z + 1 ≤ R.cells) (hsl : sl + N ≤ R.slots) (hdg : decode cc pc = .ok (.newarray at9, 2)) (kk : k_Zd p l e R s m args below meth c Q nL D cs A h0 xl (z + 1) (sl + N) (pc + 2) ls (.inr (.inl (some E.length)) :: st) (E ++ [e9])) : k_Zd p l e R s m args below meth c Q nL D cs A h0 xl z sl pc ls (.inl (nI N) :: st) E := by
  intro ads H locs lsA h0' hP hD hS hl
  refine va_newa (atype := at9) hx hb (hts _ harr) hty hK hP hD hS hA (n := nI N) (N' := N) ha (nI_pos (by omega)) (nI_clamp (by omega)) (Nat.le_trans (Nat.mul_le_mul hN hcb) (by omega)) hz hsl hdg (fun q cA H1 hK1 hP1 hD1 hS1 => ?_)
  have hc1 := (hK1.2 (q_tys cs).length (cA, ty) (by rw [List.getElem?_append_right (Nat.le_refl _), Nat.sub_self]; rfl)).2
  have hc2 := (hK.2 tc _ htc).2
  have hcc : cA = cs tc := k_ra hc1 hc2
  rw [hcc] at hP1 hD1
  exact k_grow hok hle kk h0' (by rw [he9]; exact hP1) (by rw [he9]; exact hD1) hS1 hl
theorem k_newq (hx : p.tables.exec = Jvm.exec) (hb : c.code = cc) (hown : s.vm.findClass (q_R own) = some m.cls) (hts : ∀ w ∈ q_G, w.before args s = true) (hK : va_K D vwCl (q_tys cs) s) (hA : ∀ q, s.heap.size ≤ q → A q) {idx tc N : Nat} {C : String} (htc : (q_tys cs)[tc]? = some (cs tc, .object C)) (hcl : Cond.classLink (q_R own) idx C ∈ q_G) (hov : va_AO C s) (hN : N ≤ 4000) (hok : k_ok E.length ls st E = true) (hz : z + 1 ≤ R.cells) (hsl : sl + N ≤ R.slots) (hdg : decode cc pc = .ok (.anewarray idx, 3)) (kk : k_Zd p l e R s m args below meth c Q nL D cs A h0 xl (z + 1) (sl + N) (pc + 3) ls (.inr (.inl (some E.length)) :: st) (E ++ [.inr ((tc, N), .inr (.inl []))])) : k_Zd p l e R s m args below meth c Q nL D cs A h0 xl z sl pc ls (.inl (nI N) :: st) E := by
  intro ads H locs lsA h0' hP hD hS hl
  refine va_newq hx hb hown (hts _ hcl) hov hK hP hD hS hA (n := nI N) (N' := N) (nI_pos (by omega)) (nI_clamp (by omega)) (by omega) hz hsl hdg (fun q cA H1 hK1 hP1 hD1 hS1 => ?_)
  have hc1 := (hK1.2 (q_tys cs).length (cA, .object C) (by rw [List.getElem?_append_right (Nat.le_refl _), Nat.sub_self]; rfl)).2
  have hc2 := (hK.2 tc _ htc).2
  have hcc : cA = cs tc := k_ra hc1 hc2
  rw [hcc] at hP1 hD1
  exact k_grow (e9 := .inr ((tc, N), .inr (.inl []))) hok rfl kk h0' hP1 hD1 hS1 hl
theorem k_put (hx : p.tables.exec = Jvm.exec) (hb : c.code = cc) (hown : s.vm.findClass (q_R own) = some m.cls) (hts : ∀ w ∈ q_G, w.before args s = true) (hK : va_K D vwCl (q_tys cs) s) {idx ci k ty i : Nat} {fin : Bool} {fs : List K_V} {v : K_V} (hf : q_fld own idx = some (ci, k, fin, ty)) (he : E[i]? = some (.inl (ci, fs))) (hlt : k < fs.length) (hin : fin = true → meth.name = "<init>" ∧ ((q_cl ci).2.1 k).1 = q_R own) (hft : ∃ ft : FieldType, parseFieldDescriptor ((q_cl ci).2.1 k).2.2.1 = some ft ∧ ∀ ads : Nat → Nat, narrow ft (k_e ads v) = k_e ads v ∧ fits ft (k_e ads v) = true) (hdg : decode cc pc = .ok (.putfield idx, 3)) (kk : k_Zd p l e R s m args below meth c Q nL D cs A h0 xl z sl (pc + 3) ls st (E.set i (.inl (ci, fs.set k v)))) : k_Zd p l e R s m args below meth c Q nL D cs A h0 xl z sl pc ls (v :: .inr (.inl (some i)) :: st) E := by
  intro ads H locs lsA h0' hP hD hS hl
  have hm := q_find_mem hf
  obtain ⟨hc, hk, hfin, -⟩ := q_FLi hm
  obtain ⟨ft, hp1, hp2⟩ := hft
  obtain ⟨hp2, hp3⟩ := hp2 ads
  have hq := k_W_at (cs := cs) (ads := ads) he
  have es : (fs.map (k_e ads)).set k (k_e ads v) = (fs.set k v).map (k_e ads) := (List.map_set).symm
  have h0'' : ∀ a, h0 = some a → ads 0 = a ∧ 0 < (E.set i (.inl (ci, fs.set k v))).length := fun a ha => by rw [List.length_set]; exact h0' a ha
  have ew := k_W_set (cs := cs) (ads := ads) (E := E) (i := i) (e := .inl (ci, fs.set k v))
  cases fin with
  | false =>
    refine va_put (D := D) (ci := ci) (v := k_e ads v) (ty := ft) hx hb hts (q_UWg hc) (q_ty0 ci) (q_ty0_ok hc) (q_nm hc) hown hK hP hD hS i hq (q_clat hc) k hk (hts _ (q_FLg hm)) (fun _ g => g) hfin hp1 hp2 hp3 (by rw [List.length_map]; exact hlt) hdg (fun H1 locs1 hP1 hD1 hS1 => ?_)
    rw [es] at hP1 hD1
    exact kk ads H1 locs1 lsA h0'' (by rw [← ew]; exact hP1) (by rw [← ew]; exact hD1) hS1 hl
  | true =>
    obtain ⟨hn1, hn2⟩ := hin rfl
    refine va_putF (D := D) (ci := ci) (v := k_e ads v) (ty := ft) hx hb hts (q_UWg hc) (q_ty0 ci) (q_ty0_ok hc) (q_nm hc) hown hK hP hD hS i hq (q_clat hc) k hk (hts _ (q_FLg hm)) (fun _ g => g) hfin hn1 hn2 hp1 hp2 hp3 (by rw [List.length_map]; exact hlt) hdg (fun H1 locs1 hP1 hD1 hS1 => ?_)
    rw [es] at hP1 hD1
    exact kk ads H1 locs1 lsA h0'' (by rw [← ew]; exact hP1) (by rw [← ew]; exact hD1) hS1 hl
theorem k_get (hx : p.tables.exec = Jvm.exec) (hb : c.code = cc) (hown : s.vm.findClass (q_R own) = some m.cls) (hts : ∀ w ∈ q_G, w.before args s = true) (hK : va_K D vwCl (q_tys cs) s) {idx ci k ty i : Nat} {fin : Bool} {fs : List K_V} {v : K_V} (hf : q_fld own idx = some (ci, k, fin, ty)) (he : E[i]? = some (.inl (ci, fs))) (hv : fs[k]? = some v) (hdg : decode cc pc = .ok (.getfield idx, 3)) (kk : k_Zd p l e R s m args below meth c Q nL D cs A h0 xl z sl (pc + 3) ls (v :: st) E) : k_Zd p l e R s m args below meth c Q nL D cs A h0 xl z sl pc ls (.inr (.inl (some i)) :: st) E := by
  intro ads H locs lsA h0' hP hD hS hl
  have hm := q_find_mem hf
  obtain ⟨hc, hk, hfin, -⟩ := q_FLi hm
  have hq := k_W_at (cs := cs) (ads := ads) he
  exact va_get (D := D) (ci := ci) (v := k_e ads v) hx hb hts (q_UWg hc) hown hK hP i hq (q_clat hc) k hk (hts _ (q_FLg hm)) (fun _ g => g) (by rw [List.getElem?_map, hv]; rfl) hdg (kk ads H locs lsA h0' hP hD hS hl)
theorem k_iast (hx : p.tables.exec = Jvm.exec) (hb : c.code = cc) (hK : va_K D vwCl (q_tys cs) s) {i N j : Nat} {L : List (Nat × Int32)} {x : Int32} (he : E[i]? = some (.inr ((1, N), .inl L))) (hj : j < N) (hN : N ≤ 4000) (hdg : decode cc pc = .ok (.iastore, 1)) (kk : k_Zd p l e R s m args below meth c Q nL D cs A h0 xl z sl (pc + 1) ls st (E.set i (.inr ((1, N), .inl ((j, x) :: L))))) : k_Zd p l e R s m args below meth c Q nL D cs A h0 xl z sl pc ls (.inl x :: .inl (nI j) :: .inr (.inl (some i)) :: st) E := by
  intro ads H locs lsA h0' hP hD hS hl
  have hq := k_W_at (cs := cs) (ads := ads) he
  refine va_iast hx hb hK hP hD hS i 1 hq rfl (vp_in_nI hj (by omega)) hdg (fun H1 locs1 hP1 hD1 hS1 => ?_)
  rw [nI_clamp (by omega)] at hP1 hD1
  have ef : upd (k_li L) j x = k_li ((j, x) :: L) := by
    funext t
    show upd (k_li L) j x t = if j = t then x else k_li L t
    unfold upd
    by_cases g : t = j
    · rw [if_pos g, if_pos g.symm]
    · rw [if_neg g, if_neg (fun h => g h.symm)]
  rw [ef] at hP1 hD1
  have ew := k_W_set (cs := cs) (ads := ads) (E := E) (i := i) (e := .inr ((1, N), .inl ((j, x) :: L)))
  exact kk ads H1 locs1 lsA (fun a ha => by rw [List.length_set]; exact h0' a ha) (by rw [← ew]; exact hP1) (by rw [← ew]; exact hD1) hS1 hl
theorem k_aast (hx : p.tables.exec = Jvm.exec) (hb : c.code = cc) (hK : va_K D vwCl (q_tys cs) s) {i N j v tc ci : Nat} {L : List (Nat × Nat)} {fs : List K_V} (he : E[i]? = some (.inr ((tc, N), .inr (.inl L)))) (hv : E[v]? = some (.inl (ci, fs))) (hci : ci < 10) (htc : (q_tys cs)[tc]? = some (cs tc, .object (q_cl ci).1)) (hj : j < N) (hN : N ≤ 4000) (hdg : decode cc pc = .ok (.aastore, 1)) (kk : k_Zd p l e R s m args below meth c Q nL D cs A h0 xl z sl (pc + 1) ls st (E.set i (.inr ((tc, N), .inr (.inl ((j, v) :: L)))))) : k_Zd p l e R s m args below meth c Q nL D cs A h0 xl z sl pc ls (.inr (.inl (some v)) :: .inl (nI j) :: .inr (.inl (some i)) :: st) E := by
  intro ads H locs lsA h0' hP hD hS hl
  have hq := k_W_at (cs := cs) (ads := ads) he
  have hqv := k_W_at (cs := cs) (ads := ads) hv
  refine va_astq (r := ((q_cl ci).1, (q_cl ci).2.1, (q_cl ci).2.2)) hx hb hK hP hD hS i tc v ci hq htc hqv (q_clat hci) (vp_in_nI hj (by omega)) hdg (fun H1 locs1 hP1 hD1 hS1 => ?_)
  rw [nI_clamp (by omega)] at hP1 hD1
  have ef : va_up (fun t => (k_lr L t).map ads) j (some (ads v)) = (fun t => (k_lr ((j, v) :: L) t).map ads) := by
    funext t
    show va_up (fun t => (k_lr L t).map ads) j (some (ads v)) t = (if j = t then some v else k_lr L t).map ads
    unfold va_up
    by_cases g : t = j
    · rw [if_pos g, if_pos g.symm]
      rfl
    · rw [if_neg g, if_neg (fun h => g h.symm)]
  rw [ef] at hP1 hD1
  have ew := k_W_set (cs := cs) (ads := ads) (E := E) (i := i) (e := .inr ((tc, N), .inr (.inl ((j, v) :: L))))
  exact kk ads H1 locs1 lsA (fun a ha => by rw [List.length_set]; exact h0' a ha) (by rw [← ew]; exact hP1) (by rw [← ew]; exact hD1) hS1 hl
end KZ
