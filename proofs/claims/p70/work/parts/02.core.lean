-- THE ABSTRACT MEMORY: cells by their kind and two numbers; what they hold as numbers
abbrev Q_Id : Type := Nat × (Nat × Nat)
abbrev Q_V : Type := Int32 ⊕ (Q_Id ⊕ (Int64 ⊕ UInt64))
abbrev Q_M : Type := (Nat → Nat → Nat → Nat → Int32) × ((Nat → Nat → Nat → Nat → Nat) × (Nat → Nat → Nat → Nat → Int64))
abbrev Q_S : Type := Nat ⊕ (Nat → Nat → Q_Id)
def q_e (ad : Q_Id → Nat) : Q_V → Value
  | .inl x => .int x
  | .inr (.inl i) => .ref (ad i)
  | .inr (.inr (.inl x)) => .long x
  | .inr (.inr (.inr x)) => .double x
def q_cat : Q_V → Nat
  | .inl _ => 1
  | .inr (.inl _) => 1
  | .inr (.inr (.inl _)) => 2
  | .inr (.inr (.inr _)) => 2
theorem q_e_cat (ad : Q_Id → Nat) (v : Q_V) : (q_e ad v).category = q_cat v := by
  rcases v with x | i | x | x <;> rfl
def q_rf (r : Nat) : Q_S := .inr fun _ _ => (r, 0, 0)
def q_rj (r : Nat) : Q_S := .inr fun j _ => (r, j, 0)
def q_lay : Nat → Option (Nat × List Q_S)
  | 0 => some (8, [.inr fun _ _ => (10, 0, 0), .inr fun _ _ => (10, 1, 0), q_rf 1, q_rf 2, q_rf 3, q_rf 5])
  | 3 => some (4, [.inl 0, q_rf 4])
  | 5 => some (2, [.inl 0, q_rf 6, .inl 0, q_rf 7, q_rf 8, q_rf 9, .inl 0, .inl 0, .inl 0, .inl 0, .inl 0])
  | 10 => some (7, [.inl 0, .inl 0, .inl 0, q_rj 11, q_rj 12, q_rj 16, q_rj 17])
  | 12 => some (5, [.inl 0, q_rj 13, q_rj 14, q_rj 15])
  | 16 => some (6, [.inl 0, .inl 0, .inl 0, .inl 0, .inl 0, .inl 0, .inl 0])
  | 17 => some (0, [.inl 0, q_rj 18, .inl 0, .inl 0, .inl 0, .inl 0, .inl 0, .inl 0])
  | 19 => some (1, [.inl 0, .inl 0, .inl 0, .inl 0, .inl 0, .inl 0, .inl 0, .inl 0, .inr fun j c => (20, j, c)])
  | _ => none
def q_arr : Nat → Option (Nat × Nat)
  | 2 => some (2, 2)
  | 6 => some (1, 60)
  | 7 => some (1, 60)
  | 8 => some (1, 60)
  | 9 => some (1, 60)
  | 13 => some (1, 20)
  | 14 => some (1, 20)
  | 15 => some (1, 20)
  | 18 => some (1, 5)
  | 20 => some (1, 4)
  | _ => none
def q_rar : Nat → Option (Nat × Nat)
  | 1 => some (4, 2)
  | 4 => some (4, 6)
  | 11 => some (3, 12)
  | _ => none
/-- how many there are of a kind; b: whether there is the hash object -/
def q_lim (b : Bool) : Nat → Nat × Nat
  | 10 => (10, 1)
  | 11 => (10, 1)
  | 12 => (10, 1)
  | 13 => (10, 1)
  | 14 => (10, 1)
  | 15 => (10, 1)
  | 16 => (10, 1)
  | 17 => (10, 1)
  | 18 => (10, 1)
  | 19 => (10, 12)
  | 20 => (10, 12)
  | 26 => (0, 0)
  | 27 => if b then (0, 0) else (0, 0)
  | r => if r < 21 then (1, 1) else (0, 0)
def q_ok (b : Bool) (i : Q_Id) : Prop := i.2.1 < (q_lim b i.1).1 ∧ i.2.2 < (q_lim b i.1).2
def q_okv (b : Bool) : Q_V → Prop
  | .inr (.inl i) => q_ok b i ∨ i.1 = 26 ∨ i.1 = 28
  | _ => True
def q_wf (M : Q_M) : Prop := ∀ j c k : Nat, M.2.1 11 j c k < 12 ∧ M.2.1 4 j c k < 10 ∧ M.2.1 1 j c k < 10
def q_gv (M : Q_M) (i : Q_Id) (k : Nat) : Q_S → Q_V
  | .inl 0 => .inl (M.1 i.1 i.2.1 i.2.2 k)
  | .inl (_ + 1) => .inr (.inr (.inl (M.2.2 i.1 i.2.1 i.2.2 k)))
  | .inr f => .inr (.inl (f i.2.1 i.2.2))
def q_tgi (i : Q_Id) (tc x : Nat) : Q_Id := match tc with
  | 3 => (19, i.2.1, x)
  | _ => (10, x, 0)
def q_tg (M : Q_M) (i : Q_Id) (tc k : Nat) : Q_Id := q_tgi i tc (M.2.1 i.1 i.2.1 i.2.2 k)
def q_enc (cs : Nat → ClassId) (ad : Q_Id → Nat) (M : Q_M) (i : Q_Id) : va_E := match q_lay i.1 with
  | some r => .inr (r.1, r.2.mapIdx fun k sl => q_e ad (q_gv M i k sl))
  | none => match q_arr i.1 with
    | some r => .inl (cs r.1, r.2, .inl (M.1 i.1 i.2.1 i.2.2))
    | none => match q_rar i.1 with
      | some r => .inl (cs r.1, r.2, .inr (.inr (.inr (.inr fun k => some (ad (q_tg M i r.1 k))))))
      | none => .inl (cs 5, 1, .inr (.inl (M.2.2 i.1 i.2.1 i.2.2)))
def q_W (cs : Nat → ClassId) (ad : Q_Id → Nat) (dm : List Q_Id) (M : Q_M) : va_W := dm.map fun i => (ad i, q_enc cs ad M i)
def q_si (M : Q_M) (i : Q_Id) (k : Nat) (x : Int32) : Q_M := (fun r j c k' => if r = i.1 ∧ j = i.2.1 ∧ c = i.2.2 ∧ k' = k then x else M.1 r j c k', M.2)
def q_sr (M : Q_M) (i : Q_Id) (k : Nat) (x : Nat) : Q_M := (M.1, fun r j c k' => if r = i.1 ∧ j = i.2.1 ∧ c = i.2.2 ∧ k' = k then x else M.2.1 r j c k', M.2.2)
def q_sl (M : Q_M) (i : Q_Id) (k : Nat) (x : Int64) : Q_M := (M.1, M.2.1, fun r j c k' => if r = i.1 ∧ j = i.2.1 ∧ c = i.2.2 ∧ k' = k then x else M.2.2 r j c k')
/-- a whole row of ints -/
def q_sa (M : Q_M) (i : Q_Id) (f : Nat → Int32) : Q_M := (fun r j c => if r = i.1 ∧ j = i.2.1 ∧ c = i.2.2 then f else M.1 r j c, M.2)
theorem q_neq {i i' : Q_Id} (h : i' ≠ i) : ¬ (i'.1 = i.1 ∧ i'.2.1 = i.2.1 ∧ i'.2.2 = i.2.2) := fun g => h (Prod.ext g.1 (Prod.ext g.2.1 g.2.2))
theorem q_enc_congr {cs : Nat → ClassId} {ad : Q_Id → Nat} {M M' : Q_M} {i : Q_Id} (h1 : M'.1 i.1 i.2.1 i.2.2 = M.1 i.1 i.2.1 i.2.2) (h2 : M'.2.1 i.1 i.2.1 i.2.2 = M.2.1 i.1 i.2.1 i.2.2) (h3 : M'.2.2 i.1 i.2.1 i.2.2 = M.2.2 i.1 i.2.1 i.2.2) : q_enc cs ad M' i = q_enc cs ad M i := by
  have hg : ∀ k sl, q_gv M' i k sl = q_gv M i k sl := by
    intro k sl
    rcases sl with n | f
    · cases n with
      | zero => simp only [q_gv, h1]
      | succ n => simp only [q_gv, h3]
    · rfl
  have ht : ∀ tc k, q_tg M' i tc k = q_tg M i tc k := by
    intro tc k
    unfold q_tg
    rw [h2]
  unfold q_enc
  simp only [hg, ht, h1, h3]
theorem q_enc_si {cs : Nat → ClassId} {ad : Q_Id → Nat} {M : Q_M} {i i' : Q_Id} {k : Nat} {x : Int32} (h : i' ≠ i) : q_enc cs ad (q_si M i k x) i' = q_enc cs ad M i' := by
  have hn := q_neq h
  refine q_enc_congr (funext fun k' => ?_) rfl rfl
  exact if_neg (fun g => hn ⟨g.1, g.2.1, g.2.2.1⟩)
theorem q_enc_sr {cs : Nat → ClassId} {ad : Q_Id → Nat} {M : Q_M} {i i' : Q_Id} {k x : Nat} (h : i' ≠ i) : q_enc cs ad (q_sr M i k x) i' = q_enc cs ad M i' := by
  have hn := q_neq h
  refine q_enc_congr rfl (funext fun k' => ?_) rfl
  exact if_neg (fun g => hn ⟨g.1, g.2.1, g.2.2.1⟩)
theorem q_enc_sl {cs : Nat → ClassId} {ad : Q_Id → Nat} {M : Q_M} {i i' : Q_Id} {k : Nat} {x : Int64} (h : i' ≠ i) : q_enc cs ad (q_sl M i k x) i' = q_enc cs ad M i' := by
  have hn := q_neq h
  refine q_enc_congr rfl rfl (funext fun k' => ?_)
  exact if_neg (fun g => hn ⟨g.1, g.2.1, g.2.2.1⟩)
theorem q_enc_sa {cs : Nat → ClassId} {ad : Q_Id → Nat} {M : Q_M} {i i' : Q_Id} {f : Nat → Int32} (h : i' ≠ i) : q_enc cs ad (q_sa M i f) i' = q_enc cs ad M i' := by
  have hn := q_neq h
  refine q_enc_congr ?_ rfl rfl
  exact if_neg (fun g => hn ⟨g.1, g.2.1, g.2.2⟩)
theorem q_enc_obj {cs : Nat → ClassId} {ad : Q_Id → Nat} {M : Q_M} {i : Q_Id} {ci : Nat} {L : List Q_S} (h : q_lay i.1 = some (ci, L)) : q_enc cs ad M i = .inr (ci, L.mapIdx fun k sl => q_e ad (q_gv M i k sl)) := by
  unfold q_enc
  rw [h]
/-- kinds of rows are no kinds of objects -/
theorem q_arr_lay {r : Nat} {x : Nat × Nat} (h : q_arr r = some x) : q_lay r = none := by
  unfold q_arr at h
  split at h <;> first | rfl | cases h
theorem q_rar_lay {r : Nat} {x : Nat × Nat} (h : q_rar r = some x) : q_lay r = none ∧ q_arr r = none := by
  unfold q_rar at h
  split at h <;> first | exact ⟨rfl, rfl⟩ | cases h
theorem q_enc_arr {cs : Nat → ClassId} {ad : Q_Id → Nat} {M : Q_M} {i : Q_Id} {tc n : Nat} (h : q_arr i.1 = some (tc, n)) : q_enc cs ad M i = .inl (cs tc, n, .inl (M.1 i.1 i.2.1 i.2.2)) := by
  unfold q_enc
  rw [q_arr_lay h, h]
theorem q_enc_rar {cs : Nat → ClassId} {ad : Q_Id → Nat} {M : Q_M} {i : Q_Id} {tc n : Nat} (h : q_rar i.1 = some (tc, n)) : q_enc cs ad M i = .inl (cs tc, n, .inr (.inr (.inr (.inr fun k => some (ad (q_tg M i tc k)))))) := by
  unfold q_enc
  rw [(q_rar_lay h).1, (q_rar_lay h).2, h]
theorem q_si_at {M : Q_M} {i : Q_Id} {k : Nat} {x : Int32} : (q_si M i k x).1 i.1 i.2.1 i.2.2 = upd (M.1 i.1 i.2.1 i.2.2) k x := by
  funext k'
  simp [q_si, upd]
/-- writing an int of an object -/
theorem q_fs_si {ad : Q_Id → Nat} {M : Q_M} {i : Q_Id} {L : List Q_S} {k : Nat} {x : Int32} (hk : L[k]? = some (.inl 0)) : (L.mapIdx fun k' sl => q_e ad (q_gv (q_si M i k x) i k' sl)) = (L.mapIdx fun k' sl => q_e ad (q_gv M i k' sl)).set k (.int x) := by
  have hlt := (List.getElem?_eq_some_iff.mp hk).1
  apply List.ext_getElem?
  intro j
  rw [List.getElem?_set]
  by_cases hj : k = j
  · subst hj
    rw [if_pos rfl, List.getElem?_mapIdx, hk, List.length_mapIdx, if_pos hlt]
    simp [q_gv, q_si, q_e]
  · rw [if_neg hj, List.getElem?_mapIdx, List.getElem?_mapIdx]
    congr 1
    funext sl
    congr 1
    rcases sl with n | f
    · cases n with
      | zero => simp only [q_gv, q_si]; rw [if_neg (fun g => hj g.2.2.2.symm)]
      | succ n => rfl
    · rfl
theorem q_fs_sl {ad : Q_Id → Nat} {M : Q_M} {i : Q_Id} {L : List Q_S} {k : Nat} {x : Int64} (hk : L[k]? = some (.inl 1)) : (L.mapIdx fun k' sl => q_e ad (q_gv (q_sl M i k x) i k' sl)) = (L.mapIdx fun k' sl => q_e ad (q_gv M i k' sl)).set k (.long x) := by
  have hlt := (List.getElem?_eq_some_iff.mp hk).1
  apply List.ext_getElem?
  intro j
  rw [List.getElem?_set]
  by_cases hj : k = j
  · subst hj
    rw [if_pos rfl, List.getElem?_mapIdx, hk, List.length_mapIdx, if_pos hlt]
    simp [q_gv, q_sl, q_e]
  · rw [if_neg hj, List.getElem?_mapIdx, List.getElem?_mapIdx]
    congr 1
    funext sl
    congr 1
    rcases sl with n | f
    · cases n with
      | zero => rfl
      | succ n => simp only [q_gv, q_sl]; rw [if_neg (fun g => hj g.2.2.2.symm)]
    · rfl
theorem q_sr_at {cs : Nat → ClassId} {ad : Q_Id → Nat} {M : Q_M} {i : Q_Id} {tc n k x : Nat} (h : q_rar i.1 = some (tc, n)) {v : Nat} (hv : v = ad (q_tgi i tc x)) : q_enc cs ad (q_sr M i k x) i = .inl (cs tc, n, .inr (.inr (.inr (.inr (va_up (fun k => some (ad (q_tg M i tc k))) k (some v)))))) := by
  have hf : (fun k' => some (ad (q_tg (q_sr M i k x) i tc k'))) = va_up (fun k => some (ad (q_tg M i tc k))) k (some v) := by
    funext k'
    unfold va_up
    by_cases hk : k' = k
    · subst hk
      rw [if_pos rfl, hv]
      unfold q_tg q_sr
      simp
    · rw [if_neg hk]
      unfold q_tg q_sr
      simp [hk]
  rw [q_enc_rar h, hf]
theorem q_Wget {cs : Nat → ClassId} {ad : Q_Id → Nat} {dm : List Q_Id} {M : Q_M} {i : Q_Id} (h : i ∈ dm) : ∃ k : Nat, dm[k]? = some i ∧ (q_W cs ad dm M)[k]? = some (ad i, q_enc cs ad M i) := by
  obtain ⟨k, hk⟩ := List.getElem?_of_mem h
  exact ⟨k, hk, by unfold q_W; rw [List.getElem?_map, hk]; rfl⟩
theorem q_Wset {cs : Nat → ClassId} {ad : Q_Id → Nat} {dm : List Q_Id} {M M' : Q_M} {A : Nat → Prop} {i : Q_Id} {k : Nat} {e : va_E} (hD : va_D A (q_W cs ad dm M)) (hk : dm[k]? = some i) (he : q_enc cs ad M' i = e) (ho : ∀ i', i' ≠ i → q_enc cs ad M' i' = q_enc cs ad M i') : (q_W cs ad dm M).set k (ad i, e) = q_W cs ad dm M' := by
  have hlt := (List.getElem?_eq_some_iff.mp hk).1
  have hlen : (q_W cs ad dm M).length = dm.length := by unfold q_W; exact List.length_map _
  apply List.ext_getElem?
  intro j
  rw [List.getElem?_set]
  by_cases hj : k = j
  · subst hj
    rw [if_pos rfl, hlen, if_pos hlt]
    unfold q_W
    rw [List.getElem?_map, hk]
    simp [he]
  · rw [if_neg hj]
    unfold q_W
    rw [List.getElem?_map, List.getElem?_map]
    cases hi : dm[j]? with
    | none => rfl
    | some i' =>
      have hne : i' ≠ i := by
        intro g
        subst g
        exact hj (hD.1 k j (ad i', q_enc cs ad M i') (ad i', q_enc cs ad M i') (by unfold q_W; rw [List.getElem?_map, hk]; rfl) (by unfold q_W; rw [List.getElem?_map, hi]; rfl) rfl)
      simp [ho i' hne]
def q_tys (cs : Nat → ClassId) : List (ClassId × FieldType) := [(cs 0, .int), (cs 1, .int), (cs 2, .boolean), (cs 3, .object RX1), (cs 4, .object RX7), (cs 5, .int)]
