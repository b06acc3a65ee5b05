theorem q_nth_eq : ∀ (L : List Q_S) (k : Nat), q_nth L k = L[k]?
  | [], k => by simp [q_nth]
  | s :: L, 0 => by simp [q_nth]
  | s :: L, k + 1 => by simp [q_nth, q_nth_eq L k]
theorem q_find_mem {α : Type} {own idx : Nat} {x : α} : ∀ {L : List (Nat × (Nat × α))}, q_find own idx L = some x → (own, (idx, x)) ∈ L
  | [], h => by cases h
  | q :: L, h => by
    unfold q_find at h
    split at h
    · rename_i hb
      rw [Bool.and_eq_true] at hb
      have h1 := Nat.eq_of_beq_eq_true hb.1
      have h2 := Nat.eq_of_beq_eq_true hb.2
      cases h
      rw [← h1, ← h2]
      exact List.mem_cons_self
    · exact List.mem_cons_of_mem _ (q_find_mem h)
theorem q_ld_mem {k : Nat} {v : Q_V} : ∀ {ls : List (Nat × Q_V)}, q_ld ls k = some v → (k, v) ∈ ls
  | [], h => by cases h
  | q :: ls, h => by
    unfold q_ld at h
    split at h
    · rename_i hb
      have h1 := Nat.eq_of_beq_eq_true hb
      cases h
      rw [← h1]
      exact List.mem_cons_self
    · exact List.mem_cons_of_mem _ (q_ld_mem h)
def q_lp (ad : Q_Id → Nat) (ls : List (Nat × Q_V)) : List (Nat × Value) := ls.map fun q => (q.1, q_e ad q.2)
theorem q_lp_at {ad : Q_Id → Nat} {ls : List (Nat × Q_V)} {lsA : Array Slot} {nL k : Nat} {v : Q_V} (hl : lv_has lsA nL (q_lp ad ls)) (h : q_ld ls k = some v) : lsA[k]? = some (.val (q_e ad v)) := hl.2.2 (k, q_e ad v) (List.mem_map.mpr ⟨(k, v), q_ld_mem h, rfl⟩)
theorem q_lp_ix {ad : Q_Id → Nat} {ls : List (Nat × Q_V)} {k : Nat} {v : Q_V} (h : q_ld ls k = some v) : ∃ i : Nat, (q_lp ad ls)[i]? = some (k, q_e ad v) := List.getElem?_of_mem (List.mem_map.mpr ⟨(k, v), q_ld_mem h, rfl⟩)
theorem q_cat2 (v : Q_V) : Nat.beq (q_cat v) 1 = !(q_cat v == 2) := by
  rcases v with x | i | x | x <;> rfl
theorem q_beq (a b : Nat) : Nat.beq a b = (a == b) := by
  cases h : Nat.beq a b with
  | true =>
    have h1 := Nat.eq_of_beq_eq_true h
    subst h1
    simp
  | false =>
    have h1 := Nat.ne_of_beq_eq_false h
    simp [h1]
theorem q_f1_eq (ad : Q_Id → Nat) (k : Nat) (q : Nat × Q_V) : q_f1 k q = (!((q.1, q_e ad q.2).1 == k) && !((q.1, q_e ad q.2).1 + 1 == k && (q.1, q_e ad q.2).2.category == 2)) := by
  unfold q_f1
  rw [q_e_cat, q_cat2]
  have e1 : Nat.beq q.1 k = (q.1 == k) := q_beq _ _
  have e2 : Nat.beq (q.1 + 1) k = (q.1 + 1 == k) := q_beq _ _
  rw [e1, e2]
  cases (q.1 == k) <;> cases (q.1 + 1 == k) <;> simp
theorem q_f2_eq (ad : Q_Id → Nat) (k : Nat) (q : Nat × Q_V) : q_f2 k q = (!((q.1, q_e ad q.2).1 == k) && (!((q.1, q_e ad q.2).1 == k + 1) && !((q.1, q_e ad q.2).1 + 1 == k && (q.1, q_e ad q.2).2.category == 2))) := by
  unfold q_f2
  rw [q_e_cat, q_cat2]
  have e1 : Nat.beq q.1 k = (q.1 == k) := q_beq _ _
  have e2 : Nat.beq (q.1 + 1) k = (q.1 + 1 == k) := q_beq _ _
  have e3 : Nat.beq q.1 (k + 1) = (q.1 == k + 1) := q_beq _ _
  rw [e1, e2, e3]
  cases (q.1 == k) <;> cases (q.1 + 1 == k) <;> cases (q.1 == k + 1) <;> simp
theorem q_lp_s1 (ad : Q_Id → Nat) (ls : List (Nat × Q_V)) (k : Nat) (v : Q_V) : (k, q_e ad v) :: (q_lp ad ls).filter (fun q => !(q.1 == k) && !(q.1 + 1 == k && q.2.category == 2)) = q_lp ad (q_s1 ls k v) := by
  unfold q_s1 q_lp
  rw [List.map_cons, List.filter_map]
  congr 2
  exact List.filter_congr fun q _ => (q_f1_eq ad k q).symm
theorem q_lp_s2 (ad : Q_Id → Nat) (ls : List (Nat × Q_V)) (k : Nat) (v : Q_V) : (k, q_e ad v) :: (q_lp ad ls).filter (fun q => !(q.1 == k) && (!(q.1 == k + 1) && !(q.1 + 1 == k && q.2.category == 2))) = q_lp ad (q_s2 ls k v) := by
  unfold q_s2 q_lp
  rw [List.map_cons, List.filter_map]
  congr 2
  exact List.filter_congr fun q _ => (q_f2_eq ad k q).symm
theorem q_s1_ok {b : Bool} {ls : List (Nat × Q_V)} {k : Nat} {v : Q_V} (h : ∀ q ∈ ls, q_okv b q.2) (hv : q_okv b v) : ∀ q ∈ q_s1 ls k v, q_okv b q.2 := by
  intro q hq
  unfold q_s1 at hq
  rcases List.mem_cons.mp hq with rfl | hq
  · exact hv
  · exact h q (List.mem_filter.mp hq).1
theorem q_s2_ok {b : Bool} {ls : List (Nat × Q_V)} {k : Nat} {v : Q_V} (h : ∀ q ∈ ls, q_okv b q.2) (hv : q_okv b v) : ∀ q ∈ q_s2 ls k v, q_okv b q.2 := by
  intro q hq
  unfold q_s2 at hq
  rcases List.mem_cons.mp hq with rfl | hq
  · exact hv
  · exact h q (List.mem_filter.mp hq).1
theorem q_lay_ok {b : Bool} {r ci k j c : Nat} {L : List Q_S} {f : Nat → Nat → Q_Id} (h : q_lay r = some (ci, L)) (hk : L[k]? = some (.inr f)) (hi : q_ok b (r, j, c)) : q_ok b (f j c) := by
  have hm := List.mem_of_getElem? hk
  unfold q_ok at hi ⊢
  unfold q_lay at h
  split at h <;> cases h <;> simp [q_rf, q_rj] at hm <;> (try rcases hm with hm | hm | hm | hm | hm | hm) <;> (try subst hm) <;> simp [q_lim] at hi ⊢ <;> omega
section QZ
variable {p : Program} {l : Launch} {e : Env} {R : Room} {s : State} {m : MethodId} {args : Array Value} {below : List Frame} {meth : Method} {c : Code} {Q : State → Prop}
variable {cc : ByteArray} {nL own bi : Nat} {D : va_G} {cs : Nat → ClassId} {ad : Q_Id → Nat} {dm : List Q_Id} {base : Nat} {b : Bool} {sc : Nat × (Nat → Int32)}
def q_Hp (D : va_G) (cs : Nat → ClassId) (ad : Q_Id → Nat) (dm : List Q_Id) (base : Nat) (s : State) (M : Q_M) (H : Heap) (locs : List Loc) : Prop := va_P D vwCl (q_W cs ad dm M) H ∧ va_D (fun q => base ≤ q) (q_W cs ad dm M) ∧ va_S (fun q => base ≤ q) s.heap H locs ∧ q_wf M
/-- from this point, with this memory, the method comes to its end as Q says -/
def q_Zd (p : Program) (l : Launch) (e : Env) (R : Room) (s : State) (m : MethodId) (args : Array Value) (below : List Frame) (meth : Method) (c : Code) (Q : State → Prop) (nL : Nat) (D : va_G) (cs : Nat → ClassId) (ad : Q_Id → Nat) (dm : List Q_Id) (base : Nat) (b : Bool) (bi : Nat) (z pc : Nat) (ls : List (Nat × Q_V)) (st : List Q_V) (M : Q_M) : Prop :=
  z ≤ bi → (∀ v ∈ st, q_okv b v) → (∀ q ∈ ls, q_okv b q.2) → ∀ (H : Heap) (locs : List Loc) (lsA : Array Slot), q_Hp D cs ad dm base s M H locs → lv_has lsA nL (q_lp ad ls) → W p l e R s m args below meth c H locs z (6 * z) Q (F0 m pc lsA (st.map (q_e ad)))
theorem q_tail {b : Bool} {v : Q_V} {st : List Q_V} (h : ∀ w ∈ v :: st, q_okv b w) : ∀ w ∈ st, q_okv b w := fun w hw => h w (List.mem_cons_of_mem _ hw)
theorem q_hd {b : Bool} {v : Q_V} {st : List Q_V} (h : ∀ w ∈ v :: st, q_okv b w) : q_okv b v := h v List.mem_cons_self
theorem q_push {b : Bool} {v : Q_V} {st : List Q_V} (hv : q_okv b v) (h : ∀ w ∈ st, q_okv b w) : ∀ w ∈ v :: st, q_okv b w := fun w hw => (List.mem_cons.mp hw).elim (fun g => by rw [g]; exact hv) (h w)
theorem q_ldok {b : Bool} {ls : List (Nat × Q_V)} {k : Nat} {v : Q_V} (h : ∀ q ∈ ls, q_okv b q.2) (hv : q_ld ls k = some v) : q_okv b v := h (k, v) (q_ld_mem hv)

theorem q_iload_n (hx : p.tables.exec = Jvm.exec) (hb : c.code = cc) {pc nx z : Nat} {ls : List (Nat × Q_V)} {st : List Q_V} {M : Q_M} {i : Fin 4} {x : Int32} (h : q_ld ls i.val = some (.inl x)) (hdg : decode cc pc = .ok (.iload_n i, 1)) (hnx : pc + 1 = nx) (k : q_Zd p l e R s m args below meth c Q nL D cs ad dm base b bi z nx ls ((.inl x) :: st) M) : q_Zd p l e R s m args below meth c Q nL D cs ad dm base b bi z pc ls st M := by
  subst hnx
  intro hz h1 h2 H locs lsA hH hl
  exact lv_iload_n hx hb hdg rfl (q_lp_at hl h) (k hz (q_push (q_ldok h2 h) h1) h2 H locs lsA hH hl)
theorem q_iload (hx : p.tables.exec = Jvm.exec) (hb : c.code = cc) {pc nx z : Nat} {ls : List (Nat × Q_V)} {st : List Q_V} {M : Q_M} {i : Nat} {x : Int32} (h : q_ld ls i = some (.inl x)) (hdg : decode cc pc = .ok (.iload i, 2)) (hnx : pc + 2 = nx) (k : q_Zd p l e R s m args below meth c Q nL D cs ad dm base b bi z nx ls ((.inl x) :: st) M) : q_Zd p l e R s m args below meth c Q nL D cs ad dm base b bi z pc ls st M := by
  subst hnx
  intro hz h1 h2 H locs lsA hH hl
  exact lv_iload hx hb hdg (q_lp_at hl h) (k hz (q_push (q_ldok h2 h) h1) h2 H locs lsA hH hl)
theorem q_aload_n (hx : p.tables.exec = Jvm.exec) (hb : c.code = cc) {pc nx z : Nat} {ls : List (Nat × Q_V)} {st : List Q_V} {M : Q_M} {i : Fin 4} {x : Q_Id} (h : q_ld ls i.val = some (.inr (.inl x))) (hdg : decode cc pc = .ok (.aload_n i, 1)) (hnx : pc + 1 = nx) (k : q_Zd p l e R s m args below meth c Q nL D cs ad dm base b bi z nx ls ((.inr (.inl x)) :: st) M) : q_Zd p l e R s m args below meth c Q nL D cs ad dm base b bi z pc ls st M := by
  subst hnx
  intro hz h1 h2 H locs lsA hH hl
  exact lv_aload_n hx hb hdg rfl (q_lp_at hl h) (k hz (q_push (q_ldok h2 h) h1) h2 H locs lsA hH hl)
theorem q_aload (hx : p.tables.exec = Jvm.exec) (hb : c.code = cc) {pc nx z : Nat} {ls : List (Nat × Q_V)} {st : List Q_V} {M : Q_M} {i : Nat} {x : Q_Id} (h : q_ld ls i = some (.inr (.inl x))) (hdg : decode cc pc = .ok (.aload i, 2)) (hnx : pc + 2 = nx) (k : q_Zd p l e R s m args below meth c Q nL D cs ad dm base b bi z nx ls ((.inr (.inl x)) :: st) M) : q_Zd p l e R s m args below meth c Q nL D cs ad dm base b bi z pc ls st M := by
  subst hnx
  intro hz h1 h2 H locs lsA hH hl
  exact lv_aload hx hb hdg (q_lp_at hl h) (k hz (q_push (q_ldok h2 h) h1) h2 H locs lsA hH hl)
theorem q_lload_n (hx : p.tables.exec = Jvm.exec) (hb : c.code = cc) {pc nx z : Nat} {ls : List (Nat × Q_V)} {st : List Q_V} {M : Q_M} {i : Fin 4} {x : Int64} (h : q_ld ls i.val = some (.inr (.inr (.inl x)))) (hdg : decode cc pc = .ok (.lload_n i, 1)) (hnx : pc + 1 = nx) (k : q_Zd p l e R s m args below meth c Q nL D cs ad dm base b bi z nx ls ((.inr (.inr (.inl x))) :: st) M) : q_Zd p l e R s m args below meth c Q nL D cs ad dm base b bi z pc ls st M := by
  subst hnx
  intro hz h1 h2 H locs lsA hH hl
  exact lv_lload_n hx hb hdg rfl (q_lp_at hl h) (k hz (q_push (q_ldok h2 h) h1) h2 H locs lsA hH hl)
theorem q_lload (hx : p.tables.exec = Jvm.exec) (hb : c.code = cc) {pc nx z : Nat} {ls : List (Nat × Q_V)} {st : List Q_V} {M : Q_M} {i : Nat} {x : Int64} (h : q_ld ls i = some (.inr (.inr (.inl x)))) (hdg : decode cc pc = .ok (.lload i, 2)) (hnx : pc + 2 = nx) (k : q_Zd p l e R s m args below meth c Q nL D cs ad dm base b bi z nx ls ((.inr (.inr (.inl x))) :: st) M) : q_Zd p l e R s m args below meth c Q nL D cs ad dm base b bi z pc ls st M := by
  subst hnx
  intro hz h1 h2 H locs lsA hH hl
  exact lv_lload hx hb hdg (q_lp_at hl h) (k hz (q_push (q_ldok h2 h) h1) h2 H locs lsA hH hl)
theorem q_dload_n (hx : p.tables.exec = Jvm.exec) (hb : c.code = cc) {pc nx z : Nat} {ls : List (Nat × Q_V)} {st : List Q_V} {M : Q_M} {i : Fin 4} {x : UInt64} (h : q_ld ls i.val = some (.inr (.inr (.inr x)))) (hdg : decode cc pc = .ok (.dload_n i, 1)) (hnx : pc + 1 = nx) (k : q_Zd p l e R s m args below meth c Q nL D cs ad dm base b bi z nx ls ((.inr (.inr (.inr x))) :: st) M) : q_Zd p l e R s m args below meth c Q nL D cs ad dm base b bi z pc ls st M := by
  subst hnx
  intro hz h1 h2 H locs lsA hH hl
  exact lv_dload_n hx hb hdg rfl (q_lp_at hl h) (k hz (q_push (q_ldok h2 h) h1) h2 H locs lsA hH hl)
theorem q_dload (hx : p.tables.exec = Jvm.exec) (hb : c.code = cc) {pc nx z : Nat} {ls : List (Nat × Q_V)} {st : List Q_V} {M : Q_M} {i : Nat} {x : UInt64} (h : q_ld ls i = some (.inr (.inr (.inr x)))) (hdg : decode cc pc = .ok (.dload i, 2)) (hnx : pc + 2 = nx) (k : q_Zd p l e R s m args below meth c Q nL D cs ad dm base b bi z nx ls ((.inr (.inr (.inr x))) :: st) M) : q_Zd p l e R s m args below meth c Q nL D cs ad dm base b bi z pc ls st M := by
  subst hnx
  intro hz h1 h2 H locs lsA hH hl
  exact lv_dload hx hb hdg (q_lp_at hl h) (k hz (q_push (q_ldok h2 h) h1) h2 H locs lsA hH hl)
theorem q_istore_n (hx : p.tables.exec = Jvm.exec) (hb : c.code = cc) {pc nx z : Nat} {ls : List (Nat × Q_V)} {st : List Q_V} {M : Q_M} {i : Fin 4} {x : Int32} (hn : i.val < nL) (hdg : decode cc pc = .ok (.istore_n i, 1)) (hnx : pc + 1 = nx) (k : q_Zd p l e R s m args below meth c Q nL D cs ad dm base b bi z nx (q_s1 ls i.val (.inl x)) st M) : q_Zd p l e R s m args below meth c Q nL D cs ad dm base b bi z pc ls ((.inl x) :: st) M := by
  subst hnx
  intro hz h1 h2 H locs lsA hH hl
  exact lv_istore_n hx hb hdg rfl hl hn (q_lp_s1 ad ls i.val (.inl x)) (fun lsA hl => k hz (q_tail h1) (q_s1_ok h2 (q_hd h1)) H locs lsA hH hl)
theorem q_istore (hx : p.tables.exec = Jvm.exec) (hb : c.code = cc) {pc nx z : Nat} {ls : List (Nat × Q_V)} {st : List Q_V} {M : Q_M} {i : Nat} {x : Int32} (hn : i < nL) (hdg : decode cc pc = .ok (.istore i, 2)) (hnx : pc + 2 = nx) (k : q_Zd p l e R s m args below meth c Q nL D cs ad dm base b bi z nx (q_s1 ls i (.inl x)) st M) : q_Zd p l e R s m args below meth c Q nL D cs ad dm base b bi z pc ls ((.inl x) :: st) M := by
  subst hnx
  intro hz h1 h2 H locs lsA hH hl
  exact lv_istore hx hb hdg hl hn (q_lp_s1 ad ls i (.inl x)) (fun lsA hl => k hz (q_tail h1) (q_s1_ok h2 (q_hd h1)) H locs lsA hH hl)
theorem q_astore_n (hx : p.tables.exec = Jvm.exec) (hb : c.code = cc) {pc nx z : Nat} {ls : List (Nat × Q_V)} {st : List Q_V} {M : Q_M} {i : Fin 4} {x : Q_Id} (hn : i.val < nL) (hdg : decode cc pc = .ok (.astore_n i, 1)) (hnx : pc + 1 = nx) (k : q_Zd p l e R s m args below meth c Q nL D cs ad dm base b bi z nx (q_s1 ls i.val (.inr (.inl x))) st M) : q_Zd p l e R s m args below meth c Q nL D cs ad dm base b bi z pc ls ((.inr (.inl x)) :: st) M := by
  subst hnx
  intro hz h1 h2 H locs lsA hH hl
  exact lv_astore_n hx hb hdg rfl hl hn (q_lp_s1 ad ls i.val (.inr (.inl x))) (fun lsA hl => k hz (q_tail h1) (q_s1_ok h2 (q_hd h1)) H locs lsA hH hl)
theorem q_astore (hx : p.tables.exec = Jvm.exec) (hb : c.code = cc) {pc nx z : Nat} {ls : List (Nat × Q_V)} {st : List Q_V} {M : Q_M} {i : Nat} {x : Q_Id} (hn : i < nL) (hdg : decode cc pc = .ok (.astore i, 2)) (hnx : pc + 2 = nx) (k : q_Zd p l e R s m args below meth c Q nL D cs ad dm base b bi z nx (q_s1 ls i (.inr (.inl x))) st M) : q_Zd p l e R s m args below meth c Q nL D cs ad dm base b bi z pc ls ((.inr (.inl x)) :: st) M := by
  subst hnx
  intro hz h1 h2 H locs lsA hH hl
  exact lv_astore hx hb hdg hl hn (q_lp_s1 ad ls i (.inr (.inl x))) (fun lsA hl => k hz (q_tail h1) (q_s1_ok h2 (q_hd h1)) H locs lsA hH hl)
theorem q_lstore_n (hx : p.tables.exec = Jvm.exec) (hb : c.code = cc) {pc nx z : Nat} {ls : List (Nat × Q_V)} {st : List Q_V} {M : Q_M} {i : Fin 4} {x : Int64} (hn : i.val + 1 < nL) (hdg : decode cc pc = .ok (.lstore_n i, 1)) (hnx : pc + 1 = nx) (k : q_Zd p l e R s m args below meth c Q nL D cs ad dm base b bi z nx (q_s2 ls i.val (.inr (.inr (.inl x)))) st M) : q_Zd p l e R s m args below meth c Q nL D cs ad dm base b bi z pc ls ((.inr (.inr (.inl x))) :: st) M := by
  subst hnx
  intro hz h1 h2 H locs lsA hH hl
  exact lv_lstore_n hx hb hdg rfl hl hn (q_lp_s2 ad ls i.val (.inr (.inr (.inl x)))) (fun lsA hl => k hz (q_tail h1) (q_s2_ok h2 (q_hd h1)) H locs lsA hH hl)
theorem q_lstore (hx : p.tables.exec = Jvm.exec) (hb : c.code = cc) {pc nx z : Nat} {ls : List (Nat × Q_V)} {st : List Q_V} {M : Q_M} {i : Nat} {x : Int64} (hn : i + 1 < nL) (hdg : decode cc pc = .ok (.lstore i, 2)) (hnx : pc + 2 = nx) (k : q_Zd p l e R s m args below meth c Q nL D cs ad dm base b bi z nx (q_s2 ls i (.inr (.inr (.inl x)))) st M) : q_Zd p l e R s m args below meth c Q nL D cs ad dm base b bi z pc ls ((.inr (.inr (.inl x))) :: st) M := by
  subst hnx
  intro hz h1 h2 H locs lsA hH hl
  exact lv_lstore hx hb hdg hl hn (q_lp_s2 ad ls i (.inr (.inr (.inl x)))) (fun lsA hl => k hz (q_tail h1) (q_s2_ok h2 (q_hd h1)) H locs lsA hH hl)
theorem q_dstore_n (hx : p.tables.exec = Jvm.exec) (hb : c.code = cc) {pc nx z : Nat} {ls : List (Nat × Q_V)} {st : List Q_V} {M : Q_M} {i : Fin 4} {x : UInt64} (hn : i.val + 1 < nL) (hdg : decode cc pc = .ok (.dstore_n i, 1)) (hnx : pc + 1 = nx) (k : q_Zd p l e R s m args below meth c Q nL D cs ad dm base b bi z nx (q_s2 ls i.val (.inr (.inr (.inr x)))) st M) : q_Zd p l e R s m args below meth c Q nL D cs ad dm base b bi z pc ls ((.inr (.inr (.inr x))) :: st) M := by
  subst hnx
  intro hz h1 h2 H locs lsA hH hl
  exact lv_dstore_n hx hb hdg rfl hl hn (q_lp_s2 ad ls i.val (.inr (.inr (.inr x)))) (fun lsA hl => k hz (q_tail h1) (q_s2_ok h2 (q_hd h1)) H locs lsA hH hl)
theorem q_dstore (hx : p.tables.exec = Jvm.exec) (hb : c.code = cc) {pc nx z : Nat} {ls : List (Nat × Q_V)} {st : List Q_V} {M : Q_M} {i : Nat} {x : UInt64} (hn : i + 1 < nL) (hdg : decode cc pc = .ok (.dstore i, 2)) (hnx : pc + 2 = nx) (k : q_Zd p l e R s m args below meth c Q nL D cs ad dm base b bi z nx (q_s2 ls i (.inr (.inr (.inr x)))) st M) : q_Zd p l e R s m args below meth c Q nL D cs ad dm base b bi z pc ls ((.inr (.inr (.inr x))) :: st) M := by
  subst hnx
  intro hz h1 h2 H locs lsA hH hl
  exact lv_dstore hx hb hdg hl hn (q_lp_s2 ad ls i (.inr (.inr (.inr x)))) (fun lsA hl => k hz (q_tail h1) (q_s2_ok h2 (q_hd h1)) H locs lsA hH hl)
theorem q_iinc (hx : p.tables.exec = Jvm.exec) (hb : c.code = cc) {pc nx z : Nat} {ls : List (Nat × Q_V)} {st : List Q_V} {M : Q_M} {i : Nat} {n : Int} {x : Int32} (h : q_ld ls i = some (.inl x)) (hc : Int32.ofInt n = q_i n) (hn : i < nL) (hdg : decode cc pc = .ok (.iinc i n, 3)) (hnx : pc + 3 = nx) (k : q_Zd p l e R s m args below meth c Q nL D cs ad dm base b bi z nx (q_s1 ls i (.inl (x + q_i n))) st M) : q_Zd p l e R s m args below meth c Q nL D cs ad dm base b bi z pc ls st M := by
  subst hnx
  intro hz h1 h2 H locs lsA hH hl
  obtain ⟨q, hq⟩ := q_lp_ix (ad := ad) h
  exact lv_iinc (v := x + q_i n) hx hb hdg hl hq (by rw [hc]) hn (q_lp_s1 ad ls i (.inl (x + q_i n))) (fun lsA hl => k hz h1 (q_s1_ok h2 trivial) H locs lsA hH hl)
theorem q_iconst (hx : p.tables.exec = Jvm.exec) (hb : c.code = cc) {pc nx z : Nat} {ls : List (Nat × Q_V)} {st : List Q_V} {M : Q_M} {n : Int} (hc : Int32.ofInt n = q_i n) (hdg : decode cc pc = .ok (.iconst n, 1)) (hnx : pc + 1 = nx) (k : q_Zd p l e R s m args below meth c Q nL D cs ad dm base b bi z nx ls (.inl (q_i n) :: st) M) : q_Zd p l e R s m args below meth c Q nL D cs ad dm base b bi z pc ls st M := by
  subst hnx
  intro hz h1 h2 H locs lsA hH hl
  exact lv_iconst (v := q_i n) hx hb hdg hc (k hz (q_push trivial h1) h2 H locs lsA hH hl)
theorem q_bipush (hx : p.tables.exec = Jvm.exec) (hb : c.code = cc) {pc nx z : Nat} {ls : List (Nat × Q_V)} {st : List Q_V} {M : Q_M} {n : Int} (hc : (Int8.ofInt n).toInt32 = q_i n) (hdg : decode cc pc = .ok (.bipush n, 2)) (hnx : pc + 2 = nx) (k : q_Zd p l e R s m args below meth c Q nL D cs ad dm base b bi z nx ls (.inl (q_i n) :: st) M) : q_Zd p l e R s m args below meth c Q nL D cs ad dm base b bi z pc ls st M := by
  subst hnx
  intro hz h1 h2 H locs lsA hH hl
  exact lv_bipush (v := q_i n) hx hb hdg hc (k hz (q_push trivial h1) h2 H locs lsA hH hl)
theorem q_sipush (hx : p.tables.exec = Jvm.exec) (hb : c.code = cc) {pc nx z : Nat} {ls : List (Nat × Q_V)} {st : List Q_V} {M : Q_M} {n : Int} (hc : (Int16.ofInt n).toInt32 = q_i n) (hdg : decode cc pc = .ok (.sipush n, 3)) (hnx : pc + 3 = nx) (k : q_Zd p l e R s m args below meth c Q nL D cs ad dm base b bi z nx ls (.inl (q_i n) :: st) M) : q_Zd p l e R s m args below meth c Q nL D cs ad dm base b bi z pc ls st M := by
  subst hnx
  intro hz h1 h2 H locs lsA hH hl
  exact lv_sipush (v := q_i n) hx hb hdg hc (k hz (q_push trivial h1) h2 H locs lsA hH hl)
theorem q_lconst (hx : p.tables.exec = Jvm.exec) (hb : c.code = cc) {pc nx z : Nat} {ls : List (Nat × Q_V)} {st : List Q_V} {M : Q_M} {n : Fin 2} (hdg : decode cc pc = .ok (.lconst n, 1)) (hnx : pc + 1 = nx) (k : q_Zd p l e R s m args below meth c Q nL D cs ad dm base b bi z nx ls ((.inr (.inr (.inl (lN n.val)))) :: st) M) : q_Zd p l e R s m args below meth c Q nL D cs ad dm base b bi z pc ls st M := by
  subst hnx
  intro hz h1 h2 H locs lsA hH hl
  exact lv_lconst (v := lN n.val) hx hb hdg rfl (k hz (q_push trivial h1) h2 H locs lsA hH hl)
theorem q_dconst0 (hx : p.tables.exec = Jvm.exec) (hb : c.code = cc) {pc nx z : Nat} {ls : List (Nat × Q_V)} {st : List Q_V} {M : Q_M}  (hdg : decode cc pc = .ok (.dconst 0, 1)) (hnx : pc + 1 = nx) (k : q_Zd p l e R s m args below meth c Q nL D cs ad dm base b bi z nx ls ((.inr (.inr (.inr 0))) :: st) M) : q_Zd p l e R s m args below meth c Q nL D cs ad dm base b bi z pc ls st M := by
  subst hnx
  intro hz h1 h2 H locs lsA hH hl
  exact lv_dconst0 hx hb hdg (k hz (q_push trivial h1) h2 H locs lsA hH hl)
theorem q_dconst1 (hx : p.tables.exec = Jvm.exec) (hb : c.code = cc) {pc nx z : Nat} {ls : List (Nat × Q_V)} {st : List Q_V} {M : Q_M}  (hdg : decode cc pc = .ok (.dconst 1, 1)) (hnx : pc + 1 = nx) (k : q_Zd p l e R s m args below meth c Q nL D cs ad dm base b bi z nx ls ((.inr (.inr (.inr 0x3ff0000000000000))) :: st) M) : q_Zd p l e R s m args below meth c Q nL D cs ad dm base b bi z pc ls st M := by
  subst hnx
  intro hz h1 h2 H locs lsA hH hl
  exact lv_dconst1 hx hb hdg (k hz (q_push trivial h1) h2 H locs lsA hH hl)
theorem q_ldc2 (hx : p.tables.exec = Jvm.exec) (hb : c.code = cc) {pc nx z : Nat} {ls : List (Nat × Q_V)} {st : List Q_V} {M : Q_M} {idx : Nat} {v : Int64} (hown : s.vm.findClass (q_R own) = some m.cls) (hw : (Cond.constantLong (q_R own) idx v).before args s = true) (hdg : decode cc pc = .ok (.ldc2_w idx, 3)) (hnx : pc + 3 = nx) (k : q_Zd p l e R s m args below meth c Q nL D cs ad dm base b bi z nx ls ((.inr (.inr (.inl v))) :: st) M) : q_Zd p l e R s m args below meth c Q nL D cs ad dm base b bi z pc ls st M := by
  subst hnx
  intro hz h1 h2 H locs lsA hH hl
  exact lv_ldc2 hx hb hown hw hdg (k hz (q_push trivial h1) h2 H locs lsA hH hl)
theorem q_ldc2d (hx : p.tables.exec = Jvm.exec) (hb : c.code = cc) {pc nx z : Nat} {ls : List (Nat × Q_V)} {st : List Q_V} {M : Q_M} {idx : Nat} {v : UInt64} (hown : s.vm.findClass (q_R own) = some m.cls) (hw : (Cond.constantDouble (q_R own) idx v).before args s = true) (hdg : decode cc pc = .ok (.ldc2_w idx, 3)) (hnx : pc + 3 = nx) (k : q_Zd p l e R s m args below meth c Q nL D cs ad dm base b bi z nx ls ((.inr (.inr (.inr v))) :: st) M) : q_Zd p l e R s m args below meth c Q nL D cs ad dm base b bi z pc ls st M := by
  subst hnx
  intro hz h1 h2 H locs lsA hH hl
  exact lv_ldc2d hx hb hown hw hdg (k hz (q_push trivial h1) h2 H locs lsA hH hl)
theorem q_iadd (hx : p.tables.exec = Jvm.exec) (hb : c.code = cc) {pc nx z : Nat} {ls : List (Nat × Q_V)} {st : List Q_V} {M : Q_M} {x y : Int32}  (hdg : decode cc pc = .ok (.iadd, 1)) (hnx : pc + 1 = nx) (k : q_Zd p l e R s m args below meth c Q nL D cs ad dm base b bi z nx ls ((.inl (x + y)) :: st) M) : q_Zd p l e R s m args below meth c Q nL D cs ad dm base b bi z pc ls ((.inl y) :: (.inl x) :: st) M := by
  subst hnx
  intro hz h1 h2 H locs lsA hH hl
  exact lv_iadd hx hb hdg (k hz (q_push trivial (q_tail (q_tail h1))) h2 H locs lsA hH hl)
theorem q_isub (hx : p.tables.exec = Jvm.exec) (hb : c.code = cc) {pc nx z : Nat} {ls : List (Nat × Q_V)} {st : List Q_V} {M : Q_M} {x y : Int32}  (hdg : decode cc pc = .ok (.isub, 1)) (hnx : pc + 1 = nx) (k : q_Zd p l e R s m args below meth c Q nL D cs ad dm base b bi z nx ls ((.inl (x - y)) :: st) M) : q_Zd p l e R s m args below meth c Q nL D cs ad dm base b bi z pc ls ((.inl y) :: (.inl x) :: st) M := by
  subst hnx
  intro hz h1 h2 H locs lsA hH hl
  exact lv_isub hx hb hdg (k hz (q_push trivial (q_tail (q_tail h1))) h2 H locs lsA hH hl)
theorem q_imul (hx : p.tables.exec = Jvm.exec) (hb : c.code = cc) {pc nx z : Nat} {ls : List (Nat × Q_V)} {st : List Q_V} {M : Q_M} {x y : Int32}  (hdg : decode cc pc = .ok (.imul, 1)) (hnx : pc + 1 = nx) (k : q_Zd p l e R s m args below meth c Q nL D cs ad dm base b bi z nx ls ((.inl (x * y)) :: st) M) : q_Zd p l e R s m args below meth c Q nL D cs ad dm base b bi z pc ls ((.inl y) :: (.inl x) :: st) M := by
  subst hnx
  intro hz h1 h2 H locs lsA hH hl
  exact lv_imul hx hb hdg (k hz (q_push trivial (q_tail (q_tail h1))) h2 H locs lsA hH hl)
theorem q_iand (hx : p.tables.exec = Jvm.exec) (hb : c.code = cc) {pc nx z : Nat} {ls : List (Nat × Q_V)} {st : List Q_V} {M : Q_M} {x y : Int32}  (hdg : decode cc pc = .ok (.iand, 1)) (hnx : pc + 1 = nx) (k : q_Zd p l e R s m args below meth c Q nL D cs ad dm base b bi z nx ls ((.inl (x &&& y)) :: st) M) : q_Zd p l e R s m args below meth c Q nL D cs ad dm base b bi z pc ls ((.inl y) :: (.inl x) :: st) M := by
  subst hnx
  intro hz h1 h2 H locs lsA hH hl
  exact lv_iand hx hb hdg (k hz (q_push trivial (q_tail (q_tail h1))) h2 H locs lsA hH hl)
theorem q_ladd (hx : p.tables.exec = Jvm.exec) (hb : c.code = cc) {pc nx z : Nat} {ls : List (Nat × Q_V)} {st : List Q_V} {M : Q_M} {x y : Int64}  (hdg : decode cc pc = .ok (.ladd, 1)) (hnx : pc + 1 = nx) (k : q_Zd p l e R s m args below meth c Q nL D cs ad dm base b bi z nx ls ((.inr (.inr (.inl (x + y)))) :: st) M) : q_Zd p l e R s m args below meth c Q nL D cs ad dm base b bi z pc ls ((.inr (.inr (.inl y))) :: (.inr (.inr (.inl x))) :: st) M := by
  subst hnx
  intro hz h1 h2 H locs lsA hH hl
  exact lv_ladd hx hb hdg (k hz (q_push trivial (q_tail (q_tail h1))) h2 H locs lsA hH hl)
theorem q_lsub (hx : p.tables.exec = Jvm.exec) (hb : c.code = cc) {pc nx z : Nat} {ls : List (Nat × Q_V)} {st : List Q_V} {M : Q_M} {x y : Int64}  (hdg : decode cc pc = .ok (.lsub, 1)) (hnx : pc + 1 = nx) (k : q_Zd p l e R s m args below meth c Q nL D cs ad dm base b bi z nx ls ((.inr (.inr (.inl (x - y)))) :: st) M) : q_Zd p l e R s m args below meth c Q nL D cs ad dm base b bi z pc ls ((.inr (.inr (.inl y))) :: (.inr (.inr (.inl x))) :: st) M := by
  subst hnx
  intro hz h1 h2 H locs lsA hH hl
  exact lv_lsub hx hb hdg (k hz (q_push trivial (q_tail (q_tail h1))) h2 H locs lsA hH hl)
theorem q_lmul (hx : p.tables.exec = Jvm.exec) (hb : c.code = cc) {pc nx z : Nat} {ls : List (Nat × Q_V)} {st : List Q_V} {M : Q_M} {x y : Int64}  (hdg : decode cc pc = .ok (.lmul, 1)) (hnx : pc + 1 = nx) (k : q_Zd p l e R s m args below meth c Q nL D cs ad dm base b bi z nx ls ((.inr (.inr (.inl (x * y)))) :: st) M) : q_Zd p l e R s m args below meth c Q nL D cs ad dm base b bi z pc ls ((.inr (.inr (.inl y))) :: (.inr (.inr (.inl x))) :: st) M := by
  subst hnx
  intro hz h1 h2 H locs lsA hH hl
  exact lv_lmul hx hb hdg (k hz (q_push trivial (q_tail (q_tail h1))) h2 H locs lsA hH hl)
theorem q_idiv (hx : p.tables.exec = Jvm.exec) (hb : c.code = cc) {pc nx z : Nat} {ls : List (Nat × Q_V)} {st : List Q_V} {M : Q_M} {x y : Int32} (hne : ¬ y = 0) (hdg : decode cc pc = .ok (.idiv, 1)) (hnx : pc + 1 = nx) (k : q_Zd p l e R s m args below meth c Q nL D cs ad dm base b bi z nx ls ((.inl (x / y)) :: st) M) : q_Zd p l e R s m args below meth c Q nL D cs ad dm base b bi z pc ls ((.inl y) :: (.inl x) :: st) M := by
  subst hnx
  intro hz h1 h2 H locs lsA hH hl
  exact lv_idiv hx hb hdg hne (k hz (q_push trivial (q_tail (q_tail h1))) h2 H locs lsA hH hl)
theorem q_irem (hx : p.tables.exec = Jvm.exec) (hb : c.code = cc) {pc nx z : Nat} {ls : List (Nat × Q_V)} {st : List Q_V} {M : Q_M} {x y : Int32} (hne : ¬ y = 0) (hdg : decode cc pc = .ok (.irem, 1)) (hnx : pc + 1 = nx) (k : q_Zd p l e R s m args below meth c Q nL D cs ad dm base b bi z nx ls ((.inl (x - x / y * y)) :: st) M) : q_Zd p l e R s m args below meth c Q nL D cs ad dm base b bi z pc ls ((.inl y) :: (.inl x) :: st) M := by
  subst hnx
  intro hz h1 h2 H locs lsA hH hl
  exact lv_irem hx hb hdg hne (k hz (q_push trivial (q_tail (q_tail h1))) h2 H locs lsA hH hl)
theorem q_ldc (hx : p.tables.exec = Jvm.exec) (hb : c.code = cc) {pc nx z : Nat} {ls : List (Nat × Q_V)} {st : List Q_V} {M : Q_M} {idx : Nat} {v : Int32} (hown : s.vm.findClass (q_R own) = some m.cls) (hw : (Cond.constant (q_R own) idx v).before args s = true) (hdg : decode cc pc = .ok (.ldc idx, 2)) (hnx : pc + 2 = nx) (k : q_Zd p l e R s m args below meth c Q nL D cs ad dm base b bi z nx ls ((.inl v) :: st) M) : q_Zd p l e R s m args below meth c Q nL D cs ad dm base b bi z pc ls st M := by
  subst hnx
  intro hz h1 h2 H locs lsA hH hl
  exact lv_ldc hx hb hown hw hdg (k hz (q_push trivial h1) h2 H locs lsA hH hl)
theorem q_ldiv (hx : p.tables.exec = Jvm.exec) (hb : c.code = cc) {pc nx z : Nat} {ls : List (Nat × Q_V)} {st : List Q_V} {M : Q_M} {x y : Int64} (hne : ¬ y = 0) (hdg : decode cc pc = .ok (.ldiv, 1)) (hnx : pc + 1 = nx) (k : q_Zd p l e R s m args below meth c Q nL D cs ad dm base b bi z nx ls ((.inr (.inr (.inl (x / y)))) :: st) M) : q_Zd p l e R s m args below meth c Q nL D cs ad dm base b bi z pc ls ((.inr (.inr (.inl y))) :: (.inr (.inr (.inl x))) :: st) M := by
  subst hnx
  intro hz h1 h2 H locs lsA hH hl
  exact lv_ldiv hx hb hdg hne (k hz (q_push trivial (q_tail (q_tail h1))) h2 H locs lsA hH hl)
theorem q_lrem (hx : p.tables.exec = Jvm.exec) (hb : c.code = cc) {pc nx z : Nat} {ls : List (Nat × Q_V)} {st : List Q_V} {M : Q_M} {x y : Int64} (hne : ¬ y = 0) (hdg : decode cc pc = .ok (.lrem, 1)) (hnx : pc + 1 = nx) (k : q_Zd p l e R s m args below meth c Q nL D cs ad dm base b bi z nx ls ((.inr (.inr (.inl (x - x / y * y)))) :: st) M) : q_Zd p l e R s m args below meth c Q nL D cs ad dm base b bi z pc ls ((.inr (.inr (.inl y))) :: (.inr (.inr (.inl x))) :: st) M := by
  subst hnx
  intro hz h1 h2 H locs lsA hH hl
  exact lv_lrem hx hb hdg hne (k hz (q_push trivial (q_tail (q_tail h1))) h2 H locs lsA hH hl)
theorem q_dmul (hx : p.tables.exec = Jvm.exec) (hb : c.code = cc) {pc nx z : Nat} {ls : List (Nat × Q_V)} {st : List Q_V} {M : Q_M} {x y : UInt64} (hne : vf_n64 (FP.dmul x y)) (hdg : decode cc pc = .ok (.dmul, 1)) (hnx : pc + 1 = nx) (k : q_Zd p l e R s m args below meth c Q nL D cs ad dm base b bi z nx ls ((.inr (.inr (.inr (FP.dmul x y)))) :: st) M) : q_Zd p l e R s m args below meth c Q nL D cs ad dm base b bi z pc ls ((.inr (.inr (.inr y))) :: (.inr (.inr (.inr x))) :: st) M := by
  subst hnx
  intro hz h1 h2 H locs lsA hH hl
  exact lv_dmul hx hb hdg hne (k hz (q_push trivial (q_tail (q_tail h1))) h2 H locs lsA hH hl)
theorem q_dsub (hx : p.tables.exec = Jvm.exec) (hb : c.code = cc) {pc nx z : Nat} {ls : List (Nat × Q_V)} {st : List Q_V} {M : Q_M} {x y : UInt64} (hne : vf_n64 (FP.dsub x y)) (hdg : decode cc pc = .ok (.dsub, 1)) (hnx : pc + 1 = nx) (k : q_Zd p l e R s m args below meth c Q nL D cs ad dm base b bi z nx ls ((.inr (.inr (.inr (FP.dsub x y)))) :: st) M) : q_Zd p l e R s m args below meth c Q nL D cs ad dm base b bi z pc ls ((.inr (.inr (.inr y))) :: (.inr (.inr (.inr x))) :: st) M := by
  subst hnx
  intro hz h1 h2 H locs lsA hH hl
  exact lv_dsub hx hb hdg hne (k hz (q_push trivial (q_tail (q_tail h1))) h2 H locs lsA hH hl)
theorem q_ddiv (hx : p.tables.exec = Jvm.exec) (hb : c.code = cc) {pc nx z : Nat} {ls : List (Nat × Q_V)} {st : List Q_V} {M : Q_M} {x y : UInt64} (hne : vf_n64 (FP.ddiv x y)) (hdg : decode cc pc = .ok (.ddiv, 1)) (hnx : pc + 1 = nx) (k : q_Zd p l e R s m args below meth c Q nL D cs ad dm base b bi z nx ls ((.inr (.inr (.inr (FP.ddiv x y)))) :: st) M) : q_Zd p l e R s m args below meth c Q nL D cs ad dm base b bi z pc ls ((.inr (.inr (.inr y))) :: (.inr (.inr (.inr x))) :: st) M := by
  subst hnx
  intro hz h1 h2 H locs lsA hH hl
  exact lv_ddiv hx hb hdg hne (k hz (q_push trivial (q_tail (q_tail h1))) h2 H locs lsA hH hl)
theorem q_lshl (hx : p.tables.exec = Jvm.exec) (hb : c.code = cc) {pc nx z : Nat} {ls : List (Nat × Q_V)} {st : List Q_V} {M : Q_M} {x : Int64} {y : Int32} (hdg : decode cc pc = .ok (.lshl, 1)) (hnx : pc + 1 = nx) (k : q_Zd p l e R s m args below meth c Q nL D cs ad dm base b bi z nx ls ((.inr (.inr (.inl (x <<< (y.toInt64 &&& 63))))) :: st) M) : q_Zd p l e R s m args below meth c Q nL D cs ad dm base b bi z pc ls (.inl y :: (.inr (.inr (.inl x))) :: st) M := by
  subst hnx
  intro hz h1 h2 H locs lsA hH hl
  exact lv_lshl (v := x <<< (y.toInt64 &&& 63)) hx hb hdg rfl (k hz (q_push trivial (q_tail (q_tail h1))) h2 H locs lsA hH hl)
theorem q_lcmp (hx : p.tables.exec = Jvm.exec) (hb : c.code = cc) {pc nx z : Nat} {ls : List (Nat × Q_V)} {st : List Q_V} {M : Q_M} {x y : Int64} (hdg : decode cc pc = .ok (.lcmp, 1)) (hnx : pc + 1 = nx) (k : q_Zd p l e R s m args below meth c Q nL D cs ad dm base b bi z nx ls (.inl (lg_cmp x y) :: st) M) : q_Zd p l e R s m args below meth c Q nL D cs ad dm base b bi z pc ls ((.inr (.inr (.inl y))) :: (.inr (.inr (.inl x))) :: st) M := by
  subst hnx
  intro hz h1 h2 H locs lsA hH hl
  exact W.lcmp hx hb hdg (k hz (q_push trivial (q_tail (q_tail h1))) h2 H locs lsA hH hl)
theorem q_dcmp (hx : p.tables.exec = Jvm.exec) (hb : c.code = cc) {pc nx z : Nat} {ls : List (Nat × Q_V)} {st : List Q_V} {M : Q_M} {x y : UInt64} {op : CmpOp} (hdg : decode cc pc = .ok (.dcmp op, 1)) (hnx : pc + 1 = nx) (k : q_Zd p l e R s m args below meth c Q nL D cs ad dm base b bi z nx ls (.inl (Op.cmpValue (FP.dcmp x y) op) :: st) M) : q_Zd p l e R s m args below meth c Q nL D cs ad dm base b bi z pc ls ((.inr (.inr (.inr y))) :: (.inr (.inr (.inr x))) :: st) M := by
  subst hnx
  intro hz h1 h2 H locs lsA hH hl
  exact lv_dcmp hx hb hdg (k hz (q_push trivial (q_tail (q_tail h1))) h2 H locs lsA hH hl)
theorem q_i2l (hx : p.tables.exec = Jvm.exec) (hb : c.code = cc) {pc nx z : Nat} {ls : List (Nat × Q_V)} {st : List Q_V} {M : Q_M} {x : Int32} (hdg : decode cc pc = .ok (.i2l, 1)) (hnx : pc + 1 = nx) (k : q_Zd p l e R s m args below meth c Q nL D cs ad dm base b bi z nx ls ((.inr (.inr (.inl x.toInt64))) :: st) M) : q_Zd p l e R s m args below meth c Q nL D cs ad dm base b bi z pc ls (.inl x :: st) M := by
  subst hnx
  intro hz h1 h2 H locs lsA hH hl
  exact lv_i2l (v := x.toInt64) hx hb hdg rfl (k hz (q_push trivial (q_tail h1)) h2 H locs lsA hH hl)
theorem q_i2c (hx : p.tables.exec = Jvm.exec) (hb : c.code = cc) {pc nx z : Nat} {ls : List (Nat × Q_V)} {st : List Q_V} {M : Q_M} {x : Int32} (hdg : decode cc pc = .ok (.i2c, 1)) (hnx : pc + 1 = nx) (k : q_Zd p l e R s m args below meth c Q nL D cs ad dm base b bi z nx ls (.inl (x.toUInt32 % 65536).toInt32 :: st) M) : q_Zd p l e R s m args below meth c Q nL D cs ad dm base b bi z pc ls (.inl x :: st) M := by
  subst hnx
  intro hz h1 h2 H locs lsA hH hl
  exact lv_i2c (v := (x.toUInt32 % 65536).toInt32) hx hb hdg rfl (k hz (q_push trivial (q_tail h1)) h2 H locs lsA hH hl)
theorem q_i2d (hx : p.tables.exec = Jvm.exec) (hb : c.code = cc) {pc nx z : Nat} {ls : List (Nat × Q_V)} {st : List Q_V} {M : Q_M} {x : Int32} (hdg : decode cc pc = .ok (.i2d, 1)) (hnx : pc + 1 = nx) (k : q_Zd p l e R s m args below meth c Q nL D cs ad dm base b bi z nx ls ((.inr (.inr (.inr (FP.i2d x)))) :: st) M) : q_Zd p l e R s m args below meth c Q nL D cs ad dm base b bi z pc ls (.inl x :: st) M := by
  subst hnx
  intro hz h1 h2 H locs lsA hH hl
  exact lv_i2d hx hb hdg (k hz (q_push trivial (q_tail h1)) h2 H locs lsA hH hl)
theorem q_d2l (hx : p.tables.exec = Jvm.exec) (hb : c.code = cc) {pc nx z : Nat} {ls : List (Nat × Q_V)} {st : List Q_V} {M : Q_M} {x : UInt64} (hdg : decode cc pc = .ok (.d2l, 1)) (hnx : pc + 1 = nx) (k : q_Zd p l e R s m args below meth c Q nL D cs ad dm base b bi z nx ls ((.inr (.inr (.inl (FP.d2l x)))) :: st) M) : q_Zd p l e R s m args below meth c Q nL D cs ad dm base b bi z pc ls ((.inr (.inr (.inr x))) :: st) M := by
  subst hnx
  intro hz h1 h2 H locs lsA hH hl
  exact lv_d2l hx hb hdg (k hz (q_push trivial (q_tail h1)) h2 H locs lsA hH hl)
theorem q_dup (hx : p.tables.exec = Jvm.exec) (hb : c.code = cc) {pc nx z : Nat} {ls : List (Nat × Q_V)} {st : List Q_V} {M : Q_M} {v : Q_V} (hv : q_cat v = 1) (hdg : decode cc pc = .ok (.dup, 1)) (hnx : pc + 1 = nx) (k : q_Zd p l e R s m args below meth c Q nL D cs ad dm base b bi z nx ls (v :: v :: st) M) : q_Zd p l e R s m args below meth c Q nL D cs ad dm base b bi z pc ls (v :: st) M := by
  subst hnx
  intro hz h1 h2 H locs lsA hH hl
  exact lv_dup hx hb hdg (by rw [q_e_cat]; exact hv) (k hz (q_push (q_hd h1) h1) h2 H locs lsA hH hl)
theorem q_dup2 (hx : p.tables.exec = Jvm.exec) (hb : c.code = cc) {pc nx z : Nat} {ls : List (Nat × Q_V)} {st : List Q_V} {M : Q_M} {v w : Q_V} (hv : q_cat v = 1) (hw : q_cat w = 1) (hdg : decode cc pc = .ok (.dup2, 1)) (hnx : pc + 1 = nx) (k : q_Zd p l e R s m args below meth c Q nL D cs ad dm base b bi z nx ls (v :: w :: v :: w :: st) M) : q_Zd p l e R s m args below meth c Q nL D cs ad dm base b bi z pc ls (v :: w :: st) M := by
  subst hnx
  intro hz h1 h2 H locs lsA hH hl
  exact lv_dup2_11 hx hb hdg (by rw [q_e_cat]; exact hv) (by rw [q_e_cat]; exact hw) (k hz (q_push (q_hd h1) (q_push (q_hd (q_tail h1)) h1)) h2 H locs lsA hH hl)
theorem q_pop (hx : p.tables.exec = Jvm.exec) (hb : c.code = cc) {pc nx z : Nat} {ls : List (Nat × Q_V)} {st : List Q_V} {M : Q_M} {v : Q_V} (hv : q_cat v = 1) (hdg : decode cc pc = .ok (.pop, 1)) (hnx : pc + 1 = nx) (k : q_Zd p l e R s m args below meth c Q nL D cs ad dm base b bi z nx ls st M) : q_Zd p l e R s m args below meth c Q nL D cs ad dm base b bi z pc ls (v :: st) M := by
  subst hnx
  intro hz h1 h2 H locs lsA hH hl
  exact lv_pop hx hb hdg (by rw [q_e_cat]; exact hv) (k hz (q_tail h1) h2 H locs lsA hH hl)
theorem q_goto (hx : p.tables.exec = Jvm.exec) (hb : c.code = cc) {pc nx z : Nat} {ls : List (Nat × Q_V)} {st : List Q_V} {M : Q_M} {off : Int} {tg : Nat} (hdg : decode cc pc = .ok (.goto off, 3)) (ht : (pc : Int) + off = (tg : Int)) (k : q_Zd p l e R s m args below meth c Q nL D cs ad dm base b bi z tg ls st M) : q_Zd p l e R s m args below meth c Q nL D cs ad dm base b bi z pc ls st M := by
  intro hz h1 h2 H locs lsA hH hl
  exact lv_goto hx hb hdg ht (k hz h1 h2 H locs lsA hH hl)
theorem q_if (hx : p.tables.exec = Jvm.exec) (hb : c.code = cc) {pc nx z : Nat} {ls : List (Nat × Q_V)} {st : List Q_V} {M : Q_M} {cd : ClassFile.Cond} {off : Int} {tg : Nat} {x : Int32} (hdg : decode cc pc = .ok (.ifCond cd off, 3)) (ht : (pc : Int) + off = (tg : Int)) (hnx : pc + 3 = nx) (k : q_br cd x 0 (q_Zd p l e R s m args below meth c Q nL D cs ad dm base b bi z tg ls st M) (q_Zd p l e R s m args below meth c Q nL D cs ad dm base b bi z nx ls st M)) : q_Zd p l e R s m args below meth c Q nL D cs ad dm base b bi z pc ls (.inl x :: st) M := by
  subst hnx
  intro hz h1 h2 H locs lsA hH hl
  cases cd with
  | eq => exact lv_if_eq hx hb hdg ht (fun q => k.1 q hz (q_tail h1) h2 H locs lsA hH hl) (fun q => k.2 q hz (q_tail h1) h2 H locs lsA hH hl)
  | ne => exact lv_if_ne hx hb hdg ht (fun q => k.2 q hz (q_tail h1) h2 H locs lsA hH hl) (fun q => k.1 q hz (q_tail h1) h2 H locs lsA hH hl)
  | lt => exact lv_if_lt hx hb hdg ht (fun q => k.1 q hz (q_tail h1) h2 H locs lsA hH hl) (fun q => k.2 q hz (q_tail h1) h2 H locs lsA hH hl)
  | ge => exact lv_if_ge hx hb hdg ht (fun q => k.1 q hz (q_tail h1) h2 H locs lsA hH hl) (fun q => k.2 q hz (q_tail h1) h2 H locs lsA hH hl)
  | gt => exact lv_if_gt hx hb hdg ht (fun q => k.1 q hz (q_tail h1) h2 H locs lsA hH hl) (fun q => k.2 q hz (q_tail h1) h2 H locs lsA hH hl)
  | le => exact lv_if_le hx hb hdg ht (fun q => k.1 q hz (q_tail h1) h2 H locs lsA hH hl) (fun q => k.2 q hz (q_tail h1) h2 H locs lsA hH hl)
theorem q_icmp (hx : p.tables.exec = Jvm.exec) (hb : c.code = cc) {pc nx z : Nat} {ls : List (Nat × Q_V)} {st : List Q_V} {M : Q_M} {cd : ClassFile.Cond} {off : Int} {tg : Nat} {x y : Int32} (hdg : decode cc pc = .ok (.if_icmp cd off, 3)) (ht : (pc : Int) + off = (tg : Int)) (hnx : pc + 3 = nx) (k : q_br cd x y (q_Zd p l e R s m args below meth c Q nL D cs ad dm base b bi z tg ls st M) (q_Zd p l e R s m args below meth c Q nL D cs ad dm base b bi z nx ls st M)) : q_Zd p l e R s m args below meth c Q nL D cs ad dm base b bi z pc ls (.inl y :: .inl x :: st) M := by
  subst hnx
  intro hz h1 h2 H locs lsA hH hl
  have h1 := q_tail (q_tail h1)
  cases cd with
  | eq => exact lv_icmp_eq hx hb hdg ht (fun q => k.1 q hz h1 h2 H locs lsA hH hl) (fun q => k.2 q hz h1 h2 H locs lsA hH hl)
  | ne => exact lv_icmp_ne hx hb hdg ht (fun q => k.2 q hz h1 h2 H locs lsA hH hl) (fun q => k.1 q hz h1 h2 H locs lsA hH hl)
  | lt => exact lv_icmp_lt hx hb hdg ht (fun q => k.1 q hz h1 h2 H locs lsA hH hl) (fun q => k.2 q hz h1 h2 H locs lsA hH hl)
  | ge => exact lv_icmp_ge hx hb hdg ht (fun q => k.1 q hz h1 h2 H locs lsA hH hl) (fun q => k.2 q hz h1 h2 H locs lsA hH hl)
  | gt => exact lv_icmp_gt hx hb hdg ht (fun q => k.1 q hz h1 h2 H locs lsA hH hl) (fun q => k.2 q hz h1 h2 H locs lsA hH hl)
  | le => exact lv_icmp_le hx hb hdg ht (fun q => k.1 q hz h1 h2 H locs lsA hH hl) (fun q => k.2 q hz h1 h2 H locs lsA hH hl)
theorem q_lookup (hx : p.tables.exec = Jvm.exec) (hb : c.code = cc) {pc nx z : Nat} {ls : List (Nat × Q_V)} {st : List Q_V} {M : Q_M} {d : Int} {ps : Array (Int × Int)} {len : Nat} {x : Int32} (hdg : decode cc pc = .ok (.lookupswitch d ps, len)) (hp : (ps.toList.zip (ps.toList.drop 1)).all (fun (a, next) => a.1 < next.1) = true) (k : q_sw pc d x (fun t => q_Zd p l e R s m args below meth c Q nL D cs ad dm base b bi z t ls st M) ps.toList) : q_Zd p l e R s m args below meth c Q nL D cs ad dm base b bi z pc ls (.inl x :: st) M := by
  intro hz h1 h2 H locs lsA hH hl
  have key : ∀ L : List (Int × Int), q_sw pc d x (fun t => q_Zd p l e R s m args below meth c Q nL D cs ad dm base b bi z t ls st M) L → ∃ t : Nat, (pc : Int) + Op.lookupswitch.offset L d x.toInt = (t : Int) ∧ q_Zd p l e R s m args below meth c Q nL D cs ad dm base b bi z t ls st M := by
    intro L
    induction L with
    | nil => exact fun h => h
    | cons q L ih =>
      obtain ⟨a, o⟩ := q
      intro h
      by_cases hq : x.toInt = a
      · obtain ⟨t, ht, hk⟩ := h.1 hq
        refine ⟨t, ?_, hk⟩
        rw [← ht, show Op.lookupswitch.offset ((a, o) :: L) d x.toInt = o by simp [Op.lookupswitch.offset, hq]]
      · obtain ⟨t, ht, hk⟩ := ih (h.2 hq)
        refine ⟨t, ?_, hk⟩
        rw [← ht, show Op.lookupswitch.offset ((a, o) :: L) d x.toInt = Op.lookupswitch.offset L d x.toInt by simp [Op.lookupswitch.offset, show ¬ a = x.toInt from fun g => hq g.symm]]
  obtain ⟨t, ht, hk⟩ := key ps.toList k
  exact lv_lookup hx hb hdg hp rfl ht (hk hz (q_tail h1) h2 H locs lsA hH hl)
theorem q_table (hx : p.tables.exec = Jvm.exec) (hb : c.code = cc) {pc nx z : Nat} {ls : List (Nat × Q_V)} {st : List Q_V} {M : Q_M} {d lo hi : Int} {offs : Array Int} {len : Nat} {x : Int32} (hdg : decode cc pc = .ok (.tableswitch d lo hi offs, len)) (k1 : x.toInt < lo ∨ hi < x.toInt → ∃ t : Nat, (pc : Int) + d = (t : Int) ∧ q_Zd p l e R s m args below meth c Q nL D cs ad dm base b bi z t ls st M) (k2 : ¬ x.toInt < lo → ¬ hi < x.toInt → ∃ (off : Int) (t : Nat), offs[(x.toInt - lo).toNat]? = some off ∧ (pc : Int) + off = (t : Int) ∧ q_Zd p l e R s m args below meth c Q nL D cs ad dm base b bi z t ls st M) : q_Zd p l e R s m args below meth c Q nL D cs ad dm base b bi z pc ls (.inl x :: st) M := by
  intro hz h1 h2 H locs lsA hH hl
  by_cases hq : x.toInt < lo ∨ hi < x.toInt
  · obtain ⟨t, ht, hk⟩ := k1 hq
    exact lv_tableOut hx hb hdg hq ht (hk hz (q_tail h1) h2 H locs lsA hH hl)
  · obtain ⟨off, t, ho, ht, hk⟩ := k2 (fun g => hq (Or.inl g)) (fun g => hq (Or.inr g))
    exact lv_tableIn hx hb hdg (fun g => hq (Or.inl g)) (fun g => hq (Or.inr g)) ho ht (hk hz (q_tail h1) h2 H locs lsA hH hl)
end QZ
