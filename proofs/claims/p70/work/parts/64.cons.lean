-- CONSTRUCTORS: CALLS OF ONE BY ANOTHER
def k_AO (U : State) : Prop := va_AO RX1 U ∧ va_AO RX7 U
def k_W0 (cs : Nat → ClassId) (ci h0 : Nat) : va_W := k_W cs (fun _ => h0) [.inl (ci, k_df ci)]
/-- what a constructor makes of its object: the cells (the object's first), how many are new, with how many fields -/
def k_Ct (l : Launch) (j : Nat) (r : List K_E × (Nat × Nat)) : Prop := ∀ (D : va_G) (cs : Nat → ClassId) (h0 sz : Nat), Met l (q_y j) (q_ws j) { frames := q_fr j, cells := r.2.1, slots := r.2.2, locals := q_lo j } (va_Pc [.ref h0] (fun U => U.heap.size = sz ∧ va_P D vwCl (k_W0 cs (q_own j) h0) U.heap ∧ va_K D vwCl (q_tys cs) U ∧ va_D (fun _ => True) (k_W0 cs (q_own j) h0) ∧ k_AO U)) (va_Qv (fun ads : Nat → Nat => ads 0 = h0) (fun ads t => va_P D vwCl (k_W cs ads r.1) t.heap ∧ va_D (va_A (k_W0 cs (q_own j) h0) sz) (k_W cs ads r.1)) (va_A (k_W0 cs (q_own j) h0) sz)) r.2.1 r.2.2 (va_A (k_W0 cs (q_own j) h0) sz)
def k_sp (i n : Nat) : Nat → Nat
  | 0 => i
  | k + 1 => n + k
def k_sv (i n : Nat) : K_V → K_V
  | .inr (.inl (some k)) => .inr (.inl (some (k_sp i n k)))
  | v => v
def k_se (i n : Nat) : K_E → K_E
  | .inl o => .inl (o.1, o.2.map (k_sv i n))
  | .inr (t, .inr (.inl L)) => .inr (t, .inr (.inl (L.map fun q => (q.1, k_sp i n q.2))))
  | e => e
def k_jn (i : Nat) (E : List K_E) (R0 : K_E) (Rt : List K_E) : List K_E := E.set i (k_se i E.length R0) ++ Rt.map (k_se i E.length)
def k_aj (n : Nat) (ads adsR : Nat → Nat) : Nat → Nat := fun k => if k < n then ads k else adsR (k - n + 1)
theorem k_aj_sp {i n : Nat} {ads adsR : Nat → Nat} (hi : i < n) (h0 : adsR 0 = ads i) (k : Nat) : k_aj n ads adsR (k_sp i n k) = adsR k := by
  cases k with
  | zero =>
    show (if i < n then ads i else _) = _
    rw [if_pos hi, h0]
  | succ k =>
    show (if n + k < n then _ else adsR (n + k - n + 1)) = _
    rw [if_neg (by omega), show n + k - n + 1 = k + 1 by omega]
theorem k_sv_e {i n : Nat} {ads adsR : Nat → Nat} (hi : i < n) (h0 : adsR 0 = ads i) (v : K_V) : k_e (k_aj n ads adsR) (k_sv i n v) = k_e adsR v := by
  rcases v with x | ⟨_ | k⟩ | x
  · rfl
  · rfl
  · show Value.ref (k_aj n ads adsR (k_sp i n k)) = Value.ref (adsR k)
    rw [k_aj_sp hi h0]
  · rfl
theorem k_lr_map {i n : Nat} {ads adsR : Nat → Nat} (hi : i < n) (h0 : adsR 0 = ads i) (j : Nat) : ∀ L : List (Nat × Nat), (k_lr (L.map fun q => (q.1, k_sp i n q.2)) j).map (k_aj n ads adsR) = (k_lr L j).map adsR
  | [] => rfl
  | q :: L => by
    show (if q.1 = j then some (k_sp i n q.2) else k_lr (L.map fun q => (q.1, k_sp i n q.2)) j).map (k_aj n ads adsR) = (if q.1 = j then some q.2 else k_lr L j).map adsR
    by_cases c : q.1 = j
    · rw [if_pos c, if_pos c]
      exact congrArg some (k_aj_sp hi h0 _)
    · rw [if_neg c, if_neg c]
      exact k_lr_map hi h0 j L
theorem k_se_enc {cs : Nat → ClassId} {i n : Nat} {ads adsR : Nat → Nat} (hi : i < n) (h0 : adsR 0 = ads i) (e : K_E) : k_enc cs (k_aj n ads adsR) (k_se i n e) = k_enc cs adsR e := by
  rcases e with o | ⟨t, L | L | L⟩
  · show (Sum.inr (o.1, (o.2.map (k_sv i n)).map (k_e (k_aj n ads adsR))) : va_E) = Sum.inr (o.1, o.2.map (k_e adsR))
    rw [List.map_map]
    congr 2
    exact List.map_congr_left fun v _ => k_sv_e hi h0 v
  · rfl
  · have e : (fun j => (k_lr (L.map fun q => (q.1, k_sp i n q.2)) j).map (k_aj n ads adsR)) = (fun j => (k_lr L j).map adsR) := funext fun j => k_lr_map hi h0 j L
    show (Sum.inl (cs t.1, t.2, .inr (.inr (.inr (.inr (fun j => (k_lr (L.map fun q => (q.1, k_sp i n q.2)) j).map (k_aj n ads adsR)))))) : va_E) = Sum.inl (cs t.1, t.2, .inr (.inr (.inr (.inr (fun j => (k_lr L j).map adsR)))))
    rw [e]
  · rfl
theorem k_join {D : va_G} {cs : Nat → ClassId} {A : Nat → Prop} {ads adsR : Nat → Nat} {E Rt : List K_E} {R0 e0 : K_E} {H H1 : Heap} {i : Nat} {W0 : va_W} (he : E[i]? = some e0) (hokE : E.all (k_le E.length) = true) (hP : va_P D vwCl (k_W cs ads E) H) (hD : va_D A (k_W cs ads E)) (hW0 : ∀ q, va_A W0 H.size q ↔ q = ads i ∨ H.size ≤ q) (hk : ∀ q : Nat, q < H.size → ¬ va_A W0 H.size q → H1[q]? = H[q]?) (hF : ∀ q, va_A W0 H.size q → A q) (h0 : adsR 0 = ads i) (hP1 : va_P D vwCl (k_W cs adsR (R0 :: Rt)) H1) (hD1 : va_D (va_A W0 H.size) (k_W cs adsR (R0 :: Rt))) : va_P D vwCl (k_W cs (k_aj E.length ads adsR) (k_jn i E R0 Rt)) H1 ∧ va_D A (k_W cs (k_aj E.length ads adsR) (k_jn i E R0 Rt)) := by
  have hi : i < E.length := (List.getElem?_eq_some_iff.mp he).1
  have hx : ∀ k, k < E.length → k_aj E.length ads adsR k = ads k := fun k h => if_pos h
  -- each cell is one of the elder, or one of the constructor's
  have cell : ∀ (k : Nat) (e : K_E), (k_jn i E R0 Rt)[k]? = some e → (k < E.length ∧ k ≠ i ∧ E[k]? = some e ∧ k_aj E.length ads adsR k = ads k ∧ k_enc cs (k_aj E.length ads adsR) e = k_enc cs ads e) ∨ ∃ (t : Nat) (f : K_E), (R0 :: Rt)[t]? = some f ∧ k = k_sp i E.length t ∧ k_aj E.length ads adsR k = adsR t ∧ k_enc cs (k_aj E.length ads adsR) e = k_enc cs adsR f := by
    intro k e hk
    unfold k_jn at hk
    by_cases c : k < E.length
    · rw [List.getElem?_append_left (by rw [List.length_set]; exact c), List.getElem?_set] at hk
      by_cases g : i = k
      · rw [if_pos g, if_pos hi] at hk
        cases hk
        refine Or.inr ⟨0, R0, rfl, g.symm, ?_, k_se_enc hi h0 R0⟩
        rw [← g, hx i hi, h0]
      · rw [if_neg g] at hk
        exact Or.inl ⟨c, fun h => g h.symm, hk, hx k c, k_enc_ext hx (List.all_eq_true.mp hokE e (List.mem_of_getElem? hk))⟩
    · rw [List.getElem?_append_right (by rw [List.length_set]; omega), List.length_set, List.getElem?_map] at hk
      cases hr : Rt[k - E.length]? with
      | none => rw [hr] at hk; cases hk
      | some f =>
        rw [hr] at hk
        cases hk
        refine Or.inr ⟨k - E.length + 1, f, hr, by show k = E.length + (k - E.length); omega, if_neg c, k_se_enc hi h0 f⟩
  have old : ∀ (k : Nat) (e : K_E), k ≠ i → E[k]? = some e → ads k < H.size ∧ ads k ≠ ads i := by
    intro k e hki hke
    refine ⟨(hP k _ (k_W_at hke)).lt, fun g => hki (hD.1 k i _ _ (k_W_at hke) (k_W_at he) g)⟩
  have wat : ∀ (k : Nat) (q : Nat × va_E), (k_W cs (k_aj E.length ads adsR) (k_jn i E R0 Rt))[k]? = some q → ∃ e, (k_jn i E R0 Rt)[k]? = some e ∧ q = (k_aj E.length ads adsR k, k_enc cs (k_aj E.length ads adsR) e) := by
    intro k q hq
    unfold k_W at hq
    rw [List.getElem?_mapIdx] at hq
    cases hj : (k_jn i E R0 Rt)[k]? with
    | none => rw [hj] at hq; cases hq
    | some e =>
      rw [hj] at hq
      cases hq
      exact ⟨e, rfl, rfl⟩
  refine ⟨fun k q hq => ?_, fun k k' q q' hq hq' h => ?_, fun k q hq => ?_⟩
  · obtain ⟨e, h1, rfl⟩ := wat k q hq
    rcases cell k e h1 with ⟨c1, c2, c3, c4, c5⟩ | ⟨t, f, c1, c2, c3, c4⟩
    · rw [c4, c5]
      obtain ⟨o1, o2⟩ := old k e c2 c3
      refine (hP k _ (k_W_at c3)).kept (hk _ o1 (fun g => ?_))
      rcases (hW0 _).mp g with g | g
      · exact o2 g
      · omega
    · rw [c3, c4]
      exact hP1 t _ (k_W_at c1)
  · obtain ⟨e, h1, rfl⟩ := wat k q hq
    obtain ⟨e', h1', rfl⟩ := wat k' q' hq'
    have h : k_aj E.length ads adsR k = k_aj E.length ads adsR k' := h
    rcases cell k e h1 with ⟨c1, c2, c3, c4, c5⟩ | ⟨t, f, c1, c2, c3, c4⟩
    · rcases cell k' e' h1' with ⟨d1, d2, d3, d4, d5⟩ | ⟨t', f', d1, d2, d3, d4⟩
      · rw [c4, d4] at h
        exact hD.1 k k' _ _ (k_W_at c3) (k_W_at d3) h
      · rw [c4, d3] at h
        obtain ⟨o1, o2⟩ := old k e c2 c3
        have := hD1.2 t' _ (k_W_at d1)
        rcases (hW0 _).mp this with g | g
        · exact absurd (h.trans g) o2
        · have g : H.size ≤ adsR t' := g
          omega
    · rcases cell k' e' h1' with ⟨d1, d2, d3, d4, d5⟩ | ⟨t', f', d1, d2, d3, d4⟩
      · rw [c3, d4] at h
        obtain ⟨o1, o2⟩ := old k' e' d2 d3
        have := hD1.2 t _ (k_W_at c1)
        rcases (hW0 _).mp this with g | g
        · exact absurd (h.symm.trans g) o2
        · have g : H.size ≤ adsR t := g
          omega
      · rw [c3, d3] at h
        have := hD1.1 t t' _ _ (k_W_at c1) (k_W_at d1) h
        rw [c2, d2, this]
  · obtain ⟨e, h1, rfl⟩ := wat k q hq
    rcases cell k e h1 with ⟨c1, c2, c3, c4, c5⟩ | ⟨t, f, c1, c2, c3, c4⟩
    · show A (k_aj E.length ads adsR k)
      rw [c4]
      exact hD.2 k _ (k_W_at c3)
    · show A (k_aj E.length ads adsR k)
      rw [c3]
      exact hF _ (hD1.2 t _ (k_W_at c1))
theorem k_AO_moved {u U : State} (hvm : u.vm.Alike U.vm) (h : k_AO u) : k_AO U := ⟨va_AO.moved hvm h.1, va_AO.moved hvm h.2⟩
theorem k_W0_at {cs : Nat → ClassId} {ads : Nat → Nat} {ci h0 : Nat} : k_W0 cs ci h0 = [(h0, k_enc cs ads (.inl (ci, k_df ci)))] := by
  show [(h0, k_enc cs (fun _ => h0) (.inl (ci, k_df ci)))] = _
  rw [k_enc_ext (a := ads) (a' := fun _ => h0) (n := 0) (fun i hi => absurd hi (by omega)) (e := .inl (ci, k_df ci)) (k_df_lv ci)]
theorem k_W0_A {cs : Nat → ClassId} {ci h0 sz q : Nat} : va_A (k_W0 cs ci h0) sz q ↔ q = h0 ∨ sz ≤ q := by
  rw [k_W0_at (ads := fun _ => h0)]
  constructor
  · rintro (⟨k, e, h⟩ | h)
    · have hk : k < 1 := (List.getElem?_eq_some_iff.mp h).1
      have : k = 0 := by omega
      subst this
      have h : some (h0, k_enc cs (fun _ => h0) (.inl (ci, k_df ci))) = some (q, e) := h
      cases h
      exact Or.inl rfl
    · exact Or.inr h
  · rintro (h | h)
    · exact Or.inl ⟨0, _, by rw [h]; rfl⟩
    · exact Or.inr h
section KC
variable {p : Program} {l : Launch} {e : Env} {R : Room} {s : State} {m : MethodId} {args : Array Value} {below : List Frame} {meth : Method} {c : Code} {Q : State → Prop}
variable {cc : ByteArray} {nL own : Nat} {D : va_G} {cs : Nat → ClassId} {A : Nat → Prop} {h0 : Option Nat} {xl : List (Nat × Value)} {z sl pc : Nat} {ls : List (Nat × K_V)} {st : List K_V} {E : List K_E}
theorem k_call (hx : p.tables.exec = Jvm.exec) (hb : c.code = cc) (hml : c.maxLocals = nL) (hown : s.vm.findClass (q_R own) = some m.cls) (hts : ∀ w ∈ q_G, w.before args s = true) (hK : va_K D vwCl (q_tys cs) s) (hA : ∀ q, s.heap.size ≤ q → A q) (hAO : k_AO s) {idx j na bj i mc ms : Nat} {R0 : K_E} {Rt : List K_E} (hC : k_Ct l j (R0 :: Rt, (mc, ms))) (hcal : q_cal own idx = some (j, na, bj)) (hj : j < 149) (hkind : q_kind j = 2) (hna : q_na j = 0) (hrt : q_rt j = none) (hname : (q_y j).name = "<init>") (he : E[i]? = some (.inl (q_own j, k_df (q_own j)))) (hok : k_ok E.length ls st E = true) (hfr : q_fr j + 1 ≤ R.frames ∧ 8 + (q_ml j + 11) + q_lo j ≤ R.locals) (hz : z + mc ≤ R.cells) (hsl : sl + ms ≤ R.slots) (hsum : (st.map k_cat).sum ≤ 8) (hdg : decode cc pc = .ok (.invokespecial idx, 3)) (kk : k_Zd p l e R s m args below meth c Q nL D cs A h0 xl (z + mc) (sl + ms) (pc + 3) ls st (k_jn i E R0 Rt)) : k_Zd p l e R s m args below meth c Q nL D cs A h0 xl z sl pc ls (.inr (.inl (some i)) :: st) E := by
  intro ads H locs lsA h0' hP hD hS hl
  have hokk := hok
  unfold k_ok at hokk
  rw [Bool.and_eq_true, Bool.and_eq_true] at hokk
  obtain ⟨o1, o2, o3⟩ := hokk
  have hi : i < E.length := (List.getElem?_eq_some_iff.mp he).1
  have hm := (q_cal_i hcal hj).1
  have hco := q_own_lt hj
  have e0 := k_W0_at (cs := cs) (ads := ads) (ci := q_own j) (h0 := ads i)
  have hq := k_W_at (cs := cs) (ads := ads) he
  have hPc : va_P D vwCl (k_W0 cs (q_own j) (ads i)) H := hP.sub [i] (by rw [e0, List.filterMap_cons, hq]; rfl)
  have hmp : [i].map (fun i => (k_W cs ads E)[i]?) = (k_W0 cs (q_own j) (ads i)).map some := by
    rw [e0]
    show [(k_W cs ads E)[i]?] = _
    rw [hq]
    rfl
  have hDc : va_D A (k_W0 cs (q_own j) (ads i)) := hD.sub [i] rfl hmp
  have hFc := va_free (wc := k_W0 cs (q_own j) (ads i)) hD hS hA [i] hmp
  have hsum' : ((st.map (k_e ads)).map fun v => v.category).sum ≤ 8 := by
    rw [List.map_map, show (fun v : Value => v.category) ∘ k_e ads = k_cat from funext fun v => k_e_cat v]
    exact hsum
  refine va_callv (va_runI (As := []) (rest := st.map (k_e ads)) ⟨hx, hb, hml, hown, hts⟩ (hC D cs (ads i) H.size) (cwI 0 hts (q_GoodIn ?_) (by show q_ws j = _; unfold q_ws; rw [hrt]) rfl rfl (by rw [q_ycls hj]; exact hts _ (q_Ig hco)) (hts _ (q_CLg hm hj)) (hts _ (q_Mgi hj (by rw [hkind]; decide))) hname ⟨(q_ynh hj).1, (q_ynh hj).2, by rw [q_desc hj, hna]⟩ hfr) ⟨fun a U g mk q => ?_, fun U hU hW => ?_⟩ rfl rfl hl.1 rfl (lv_room hsum') hdg ⟨hz, hsl⟩) hS (fun q _ h => hFc q h) hFc (fun adsR t H1 locs1 ht hvm hw hB hz1 hk1 hS1 => ?_)
  · intro w hw
    rcases List.mem_cons.mp hw with rfl | hw
    · exact q_Cg hj
    · exact hw
  · obtain ⟨q0, q1, qP, qK, qD, qA⟩ := q
    exact ⟨q0, q1, qP, va_K.moved (u := U) (U := U.calling g mk a) (Vm.Alike.refl U.vm) qK, qD, k_AO_moved (u := U) (U := U.calling g mk a) (Vm.Alike.refl U.vm) qA⟩
  · exact ⟨rfl, by rw [hU], by rw [hU]; exact hPc, va_K.moved hW.alike hK, hDc.weaken (fun _ _ _ _ => trivial), k_AO_moved hW.alike hAO⟩
  · obtain ⟨hP1, hD1⟩ := hB
    rw [ht] at hP1
    obtain ⟨hP2, hD2⟩ := k_join he o1 hP hD (fun q => k_W0_A) hk1 hFc hw hP1 hD1
    have hx2 : ∀ k, k < E.length → k_aj E.length ads adsR k = ads k := fun k h => if_pos h
    have hk2 := kk (k_aj E.length ads adsR) H1 locs1 lsA (fun a ha => by
      obtain ⟨g1, g2⟩ := h0' a ha
      refine ⟨(hx2 0 g2).trans g1, ?_⟩
      unfold k_jn
      rw [List.length_append, List.length_set]
      omega) hP2 hD2 hS1 (by
        have e2 : k_lp (k_aj E.length ads adsR) ls = k_lp ads ls := List.map_congr_left fun v hm => by rw [k_e_ext hx2 (List.all_eq_true.mp o2 v hm)]
        rw [e2]
        exact hl)
    rw [k_map_ext hx2 o3] at hk2
    exact hk2
end KC
