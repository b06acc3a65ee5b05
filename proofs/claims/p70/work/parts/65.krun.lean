-- CONSTRUCTORS: RUN BY THE KERNEL
def k_NW : List (Nat × (Nat × Nat)) := [(4, 9, 7), (7, 9, 1), (7, 18, 5), (7, 25, 6), (7, 32, 0), (8, 7, 7), (8, 27, 4), (8, 34, 2), (9, 10, 8)]
def k_AN : List (Nat × (Nat × (Nat × Nat))) := [(4, 9, 4, 7), (7, 9, 3, 1), (8, 7, 4, 7)]
def k_OI : List (Nat × (Nat × Unit)) := [(0, 3, ()), (1, 3, ()), (2, 3, ()), (4, 3, ()), (5, 3, ()), (6, 1, ()), (7, 3, ()), (8, 1, ())]
def k_in (w : Cond) : Bool := decide (w ∈ lw_tbl) && goodWord w
theorem k_inG {w : Cond} (h : k_in w = true) : w ∈ q_G := by
  unfold k_in at h
  rw [Bool.and_eq_true, decide_eq_true_eq] at h
  exact List.mem_filter.mpr h
theorem k_NWok : k_NW.all (fun q => decide (q.2.2 < 10) && (k_in (Cond.classLink (q_R q.1) q.2.1 (q_cl q.2.2).1) && (k_in (Cond.instantiable (q_cl q.2.2).1 (q_cl q.2.2).2.2) && k_in (Cond.initialized (q_cl q.2.2).1)))) = true := by decide +kernel
theorem k_ANok : k_AN.all (fun q => k_in (Cond.classLink (q_R q.1) q.2.1 (q_cl q.2.2.2).1) && ((decide (q.2.2.1 = 3) && decide (q.2.2.2 = 1)) || (decide (q.2.2.1 = 4) && decide (q.2.2.2 = 7)))) = true := by decide +kernel
theorem k_OIok : k_OI.all (fun q => k_in (Cond.methodLink (q_R q.1) q.2.1 Lib.objectInit)) = true := by decide +kernel
theorem k_OIok2 : k_in (Cond.instanceMethod Lib.objectInit) = true ∧ k_in (Cond.code Lib.objectInit ⟨#[0xb1]⟩ 1 none) = true := by decide +kernel
theorem k_ATok : k_in (Cond.arrayClass (newarray.typeOf .int)) = true ∧ k_in (Cond.arrayClass (newarray.typeOf .boolean)) = true  := by decide +kernel
def k_br (cd : ClassFile.Cond) (x y : Int32) : Bool := match cd with
  | .eq => decide (x = y)
  | .ne => decide (¬ x = y)
  | .lt => decide (x < y)
  | .ge => decide (y ≤ x)
  | .gt => decide (y < x)
  | .le => decide (x ≤ y)
def k_fv : FieldType → K_V → Bool
  | .int, .inl _ => true
  | .boolean, .inl x => decide (x = nI 0) || decide (x = nI 1)
  | .object _, .inr (.inl (some _)) => true
  | .array _, .inr (.inl (some _)) => true
  | .long, .inr (.inr _) => true
  | _, _ => false
theorem k_fv_ok {ty : FieldType} {v : K_V} (h : k_fv ty v = true) (ads : Nat → Nat) : narrow ty (k_e ads v) = k_e ads v ∧ fits ty (k_e ads v) = true := by
  unfold k_fv at h
  split at h
  · exact ⟨rfl, rfl⟩
  · rw [Bool.or_eq_true, decide_eq_true_eq, decide_eq_true_eq] at h
    rcases h with rfl | rfl
    · exact ⟨show narrow .boolean (.int (nI 0)) = .int (nI 0) by decide, show fits .boolean (.int (nI 0)) = true by decide⟩
    · exact ⟨show narrow .boolean (.int (nI 1)) = .int (nI 1) by decide, show fits .boolean (.int (nI 1)) = true by decide⟩
  · exact ⟨rfl, rfl⟩
  · exact ⟨rfl, rfl⟩
  · exact ⟨rfl, rfl⟩
  · cases h
def k_veq : K_V → K_V → Bool
  | .inl x, .inl y => decide (x = y)
  | .inr (.inl none), .inr (.inl none) => true
  | .inr (.inl (some a)), .inr (.inl (some b)) => Nat.beq a b
  | .inr (.inr x), .inr (.inr y) => decide (x = y)
  | _, _ => false
theorem k_veq_ok {a b : K_V} (h : k_veq a b = true) : a = b := by
  unfold k_veq at h
  split at h
  · rw [of_decide_eq_true h]
  · rfl
  · rw [Nat.eq_of_beq_eq_true h]
  · rw [of_decide_eq_true h]
  · cases h
def k_leq {α : Type} (f : α → α → Bool) : List α → List α → Bool
  | [], [] => true
  | a :: L, b :: L' => f a b && k_leq f L L'
  | _, _ => false
theorem k_leq_ok {α : Type} {f : α → α → Bool} (hf : ∀ a b, f a b = true → a = b) : ∀ {L L' : List α}, k_leq f L L' = true → L = L'
  | [], [], _ => rfl
  | [], _ :: _, h => by cases h
  | _ :: _, [], h => by cases h
  | a :: L, b :: L', h => by
    have h : (f a b && k_leq f L L') = true := h
    rw [Bool.and_eq_true] at h
    rw [hf a b h.1, k_leq_ok hf h.2]
def k_eeq : K_E → K_E → Bool
  | .inl o, .inl o' => Nat.beq o.1 o'.1 && k_leq k_veq o.2 o'.2
  | .inr (t, .inl L), .inr (t', .inl L') => (Nat.beq t.1 t'.1 && Nat.beq t.2 t'.2) && k_leq (fun a b => Nat.beq a.1 b.1 && decide (a.2 = b.2)) L L'
  | .inr (t, .inr (.inl L)), .inr (t', .inr (.inl L')) => (Nat.beq t.1 t'.1 && Nat.beq t.2 t'.2) && k_leq (fun a b => Nat.beq a.1 b.1 && Nat.beq a.2 b.2) L L'
  | .inr (t, .inr (.inr _)), .inr (t', .inr (.inr _)) => Nat.beq t.1 t'.1 && Nat.beq t.2 t'.2
  | _, _ => false
theorem k_eeq_ok {a b : K_E} (h : k_eeq a b = true) : a = b := by
  unfold k_eeq at h
  split at h
  · rename_i o o'
    rw [Bool.and_eq_true] at h
    rw [show o = o' from Prod.ext (Nat.eq_of_beq_eq_true h.1) (k_leq_ok (fun _ _ => k_veq_ok) h.2)]
  · rename_i t L t' L'
    rw [Bool.and_eq_true, Bool.and_eq_true] at h
    rw [show t = t' from Prod.ext (Nat.eq_of_beq_eq_true h.1.1) (Nat.eq_of_beq_eq_true h.1.2), k_leq_ok (fun a b g => by rw [Bool.and_eq_true] at g; exact Prod.ext (Nat.eq_of_beq_eq_true g.1) (of_decide_eq_true g.2)) h.2]
  · rename_i t L t' L'
    rw [Bool.and_eq_true, Bool.and_eq_true] at h
    rw [show t = t' from Prod.ext (Nat.eq_of_beq_eq_true h.1.1) (Nat.eq_of_beq_eq_true h.1.2), k_leq_ok (fun a b g => by rw [Bool.and_eq_true] at g; exact Prod.ext (Nat.eq_of_beq_eq_true g.1) (Nat.eq_of_beq_eq_true g.2)) h.2]
  · rename_i t _ t' _
    rw [Bool.and_eq_true] at h
    rw [show t = t' from Prod.ext (Nat.eq_of_beq_eq_true h.1) (Nat.eq_of_beq_eq_true h.2)]
  · cases h
abbrev K_K : Type := Nat → Nat → Nat → List (Nat × K_V) → List K_V → List K_E → Bool
/-- own class, frames, locals, cells, fields that there is room for; whether a constructor; the constructors' results -/
def k_stp (own rfr rlo rz rsl : Nat) (ini : Bool) (res : Nat → Option (List K_E × (Nat × Nat))) (ins : Instr) (nx tg z sl : Nat) (ls : List (Nat × K_V)) (st : List K_V) (E : List K_E) (k : K_K) : Bool := match ins with
  | .aload_n i => match k_ld ls i.val with
    | some (.inr (.inl (some a))) => k z sl nx ls (.inr (.inl (some a)) :: st) E
    | _ => false
  | .iload_n i => match k_ld ls i.val with
    | some (.inl x) => k z sl nx ls (.inl x :: st) E
    | _ => false
  | .istore_n i => match st with
    | .inl x :: r => Nat.blt 0 i.val && k z sl nx (k_s1 ls i.val (.inl x)) r E
    | _ => false
  | .astore_n i => match st with
    | .inr (.inl (some a)) :: r => Nat.blt 0 i.val && k z sl nx (k_s1 ls i.val (.inr (.inl (some a)))) r E
    | _ => false
  | .iinc i n => match k_ld ls i with
    | some (.inl x) => Nat.blt 0 i && k z sl nx (k_s1 ls i (.inl (x + q_i n))) st E
    | _ => false
  | .iconst n => k z sl nx ls (.inl (q_i n) :: st) E
  | .bipush n => k z sl nx ls (.inl (q_i n) :: st) E
  | .sipush n => k z sl nx ls (.inl (q_i n) :: st) E
  | .ldc2_w idx => match q_find own idx q_LL with
    | some v => k z sl nx ls (.inr (.inr v) :: st) E
    | none => false
  | .dup => match st with
    | .inr (.inl (some a)) :: r => k z sl nx ls (.inr (.inl (some a)) :: .inr (.inl (some a)) :: r) E
    | _ => false
  | .goto _ => k z sl tg ls st E
  | .if_icmp cd _ => match st with
    | .inl y :: .inl x :: r => match k_br cd x y with
      | true => k z sl tg ls r E
      | false => k z sl nx ls r E
    | _ => false
  | .newarray at9 => match st with
    | .inl x :: r => decide (x = nI x.toNatClampNeg) && (Nat.ble x.toNatClampNeg 4000 && (k_ok E.length ls r E && (Nat.ble (z + 1) rz && (Nat.ble (sl + x.toNatClampNeg) rsl && (match at9 with
      | .int => k (z + 1) (sl + x.toNatClampNeg) nx ls (.inr (.inl (some E.length)) :: r) (E ++ [.inr ((1, x.toNatClampNeg), .inl [])])
      | .boolean => k (z + 1) (sl + x.toNatClampNeg) nx ls (.inr (.inl (some E.length)) :: r) (E ++ [.inr ((2, x.toNatClampNeg), .inl [])])
      | _ => false)))))
    | _ => false
  | .anewarray idx => match q_find own idx k_AN with
    | some (tc, _) => match st with
      | .inl x :: r => decide (x = nI x.toNatClampNeg) && (Nat.ble x.toNatClampNeg 4000 && (k_ok E.length ls r E && (Nat.ble (z + 1) rz && (Nat.ble (sl + x.toNatClampNeg) rsl && k (z + 1) (sl + x.toNatClampNeg) nx ls (.inr (.inl (some E.length)) :: r) (E ++ [.inr ((tc, x.toNatClampNeg), .inr (.inl []))])))))
      | _ => false
    | none => false
  | .new idx => match q_find own idx k_NW with
    | some ci => k_ok E.length ls st E && (Nat.ble (z + 1) rz && (Nat.ble (sl + (q_cl ci).2.2) rsl && k (z + 1) (sl + (q_cl ci).2.2) nx ls (.inr (.inl (some E.length)) :: st) (E ++ [.inl (ci, k_df ci)])))
    | none => false
  | .invokespecial idx => match st with
    | .inr (.inl (some i)) :: r => match q_find own idx k_OI with
      | some _ => decide (r = []) && (Nat.ble 1 rfr && (Nat.ble 12 rlo && k z sl nx ls r E))
      | none => match q_cal own idx with
        | some (j, _, _) => match res j with
          | some (R0 :: Rt, (mc, ms)) => (match E[i]? with | some e => k_eeq e (.inl (q_own j, k_df (q_own j))) | none => false) && (k_ok E.length ls r E && (Nat.ble (q_fr j + 1) rfr && (Nat.ble (8 + (q_ml j + 11) + q_lo j) rlo && (Nat.ble (z + mc) rz && (Nat.ble (sl + ms) rsl && (Nat.ble (r.map k_cat).sum 8 && k (z + mc) (sl + ms) nx ls r (k_jn i E R0 Rt)))))))
          | _ => false
        | none => false
    | _ => false
  | .putfield idx => match q_fld own idx with
    | some (ci, kk, fin, _) => match st with
      | v :: .inr (.inl (some i)) :: r => match E[i]? with
        | some (.inl (ci', fs)) => Nat.beq ci' ci && (Nat.blt kk fs.length && (k_fv (q_ty0 ci kk) v && ((!fin || (ini && decide (((q_cl ci).2.1 kk).1 = q_R own))) && k z sl nx ls r (E.set i (.inl (ci, fs.set kk v))))))
        | _ => false
      | _ => false
    | none => false
  | .getfield idx => match q_fld own idx with
    | some (ci, kk, _, _) => match st with
      | .inr (.inl (some i)) :: r => match E[i]? with
        | some (.inl (ci', fs)) => Nat.beq ci' ci && (match fs[kk]? with
          | some v => k z sl nx ls (v :: r) E
          | none => false)
        | _ => false
      | _ => false
    | none => false
  | .iastore => match st with
    | .inl x :: .inl y :: .inr (.inl (some i)) :: r => match E[i]? with
      | some (.inr ((1, N), .inl L)) => decide (y = nI y.toNatClampNeg) && (Nat.blt y.toNatClampNeg N && (Nat.ble N 4000 && k z sl nx ls r (E.set i (.inr ((1, N), .inl ((y.toNatClampNeg, x) :: L))))))
      | _ => false
    | _ => false
  | .aastore => match st with
    | .inr (.inl (some v)) :: .inl y :: .inr (.inl (some i)) :: r => match E[i]?, E[v]? with
      | some (.inr ((tc, N), .inr (.inl L))), some (.inl (ci, _)) => decide (y = nI y.toNatClampNeg) && (Nat.blt y.toNatClampNeg N && (Nat.ble N 4000 && (((decide (tc = 3) && decide (ci = 1)) || (decide (tc = 4) && decide (ci = 7))) && k z sl nx ls r (E.set i (.inr ((tc, N), .inr (.inl ((y.toNatClampNeg, v) :: L))))))))
      | _, _ => false
    | _ => false
  | _ => false
theorem k_find_mem {α : Type} {own idx : Nat} {T : List (Nat × (Nat × α))} {v : α} (h : q_find own idx T = some v) : (own, (idx, v)) ∈ T := q_find_mem h
section KS
variable {p : Program} {l : Launch} {e : Env} {R : Room} {s : State} {m : MethodId} {args : Array Value} {below : List Frame} {meth : Method} {c : Code} {Q : State → Prop}
variable {cc : ByteArray} {nL own : Nat} {D : va_G} {cs : Nat → ClassId} {A : Nat → Prop} {h0 : Option Nat} {xl : List (Nat × Value)}
theorem k_lp_at {ads : Nat → Nat} {ls : List (Nat × K_V)} {lsA : Array Slot} {k : Nat} {v : K_V} (hl : lv_has lsA nL (k_lp ads ls ++ xl)) (h : k_ld ls k = some v) : lsA[k]? = some (.val (k_e ads v)) := hl.2.2 (k, k_e ads v) (List.mem_append_left _ (List.mem_map.mpr ⟨(k, v), k_ld_mem h, rfl⟩))
theorem k_lp_s1 (ads : Nat → Nat) (ls : List (Nat × K_V)) (k : Nat) (v : K_V) : (k, k_e ads v) :: (k_lp ads ls).filter (fun q => !(q.1 == k) && !(q.1 + 1 == k && q.2.category == 2)) = k_lp ads (k_s1 ls k v) := by
  unfold k_s1 k_lp
  rw [List.map_cons, List.filter_map]
  congr 2
  refine List.filter_congr fun q _ => ?_
  show (!(q.1 == k) && !(q.1 + 1 == k && (k_e ads q.2).category == 2)) = (decide (q.1 ≠ k) && (decide (q.1 + 1 ≠ k) || Nat.beq (k_cat q.2) 1))
  rw [k_e_cat]
  have hc : Nat.beq (k_cat q.2) 1 = !(k_cat q.2 == 2) := by
    rcases q.2 with x | ⟨_ | i⟩ | x <;> rfl
  rw [hc]
  by_cases c1 : q.1 = k <;> by_cases c2 : q.1 + 1 = k <;> simp [c1, c2]
theorem k_lp_x {xl : List (Nat × Value)} (hxl : ∀ q ∈ xl, q.1 = 0 ∧ q.2.category = 1) (ads : Nat → Nat) (ls : List (Nat × K_V)) (k : Nat) (hk : 0 < k) (v : K_V) : (k, k_e ads v) :: (k_lp ads ls ++ xl).filter (fun q => !(q.1 == k) && !(q.1 + 1 == k && q.2.category == 2)) = k_lp ads (k_s1 ls k v) ++ xl := by
  rw [List.filter_append, ← List.cons_append, k_lp_s1]
  congr 1
  refine List.filter_eq_self.mpr fun q hq => ?_
  obtain ⟨h1, h2⟩ := hxl q hq
  rw [h1, h2]
  have : (0 == k) = false := by simp; omega
  rw [this]
  simp
set_option maxHeartbeats 2000000 in
theorem k_step (hxl : ∀ q ∈ xl, q.1 = 0 ∧ q.2.category = 1) (hx : p.tables.exec = Jvm.exec) (hb : c.code = cc) (hml : c.maxLocals = nL) (hown : s.vm.findClass (q_R own) = some m.cls) (hts : ∀ w ∈ q_G, w.before args s = true) (hK : va_K D vwCl (q_tys cs) s) (hA : ∀ q, s.heap.size ≤ q → A q) (hAO : k_AO s) {ini : Bool} (hini : ini = true → meth.name = "<init>") {res : Nat → Option (List K_E × (Nat × Nat))} (hres : ∀ j r, res j = some r → k_Ct l j r ∧ j < 149 ∧ q_kind j = 2 ∧ q_na j = 0 ∧ q_rt j = none ∧ (q_y j).name = "<init>")
    {ins : Instr} {pc nx tg z sl : Nat} {ls : List (Nat × K_V)} {st : List K_V} {E : List K_E} {k : K_K} (hdec : decode cc pc = .ok (ins, q_len ins (nx - pc))) (hnx : pc + q_len ins (nx - pc) = nx) (hck : q_chk1 own nL R.frames R.locals ins pc tg = true) (hk : ∀ z sl pc ls st E, k z sl pc ls st E = true → k_Zd p l e R s m args below meth c Q nL D cs A h0 xl z sl pc ls st E) (h : k_stp own R.frames R.locals R.cells R.slots ini res ins nx tg z sl ls st E k = true) : k_Zd p l e R s m args below meth c Q nL D cs A h0 xl z sl pc ls st E := by
  unfold k_stp at h
  cases ins
  case aload_n i =>
    dsimp only at h
    split at h
    · rename_i hl0
      have hnx : pc + 1 = nx := hnx
      subst hnx
      intro ads H locs lsA g1 g2 g3 g4 hl
      exact lv_aload_n hx hb hdec rfl (k_lp_at hl hl0) (hk _ _ _ _ _ _ h ads H locs lsA g1 g2 g3 g4 hl)
    · cases h
  case iload_n i =>
    dsimp only at h
    split at h
    · rename_i hl0
      have hnx : pc + 1 = nx := hnx
      subst hnx
      intro ads H locs lsA g1 g2 g3 g4 hl
      exact lv_iload_n hx hb hdec rfl (k_lp_at hl hl0) (hk _ _ _ _ _ _ h ads H locs lsA g1 g2 g3 g4 hl)
    · cases h
  case istore_n i =>
    dsimp only at h
    split at h
    · rename_i x r
      obtain ⟨h9, h⟩ := Bool.and_eq_true_iff.mp h
      have hnx : pc + 1 = nx := hnx
      subst hnx
      intro ads H locs lsA g1 g2 g3 g4 hl
      exact lv_istore_n hx hb hdec rfl hl (k_blt hck) (k_lp_x hxl ads ls i.val (k_blt h9) (.inl x)) (fun lsA hl => hk _ _ _ _ _ _ h ads H locs lsA g1 g2 g3 g4 hl)
    · cases h
  case astore_n i =>
    dsimp only at h
    split at h
    · rename_i a r
      obtain ⟨h9, h⟩ := Bool.and_eq_true_iff.mp h
      have hnx : pc + 1 = nx := hnx
      subst hnx
      intro ads H locs lsA g1 g2 g3 g4 hl
      exact lv_astore_n hx hb hdec rfl hl (k_blt hck) (k_lp_x hxl ads ls i.val (k_blt h9) (.inr (.inl (some a)))) (fun lsA hl => hk _ _ _ _ _ _ h ads H locs lsA g1 g2 g3 g4 hl)
    · cases h
  case iinc i n =>
    dsimp only at h
    split at h
    · rename_i x hl0
      obtain ⟨h9, h⟩ := Bool.and_eq_true_iff.mp h
      have hnx : pc + 3 = nx := hnx
      subst hnx
      have hck := Bool.and_eq_true_iff.mp hck
      intro ads H locs lsA g1 g2 g3 g4 hl
      obtain ⟨q, hq⟩ := List.getElem?_of_mem (List.mem_append_left xl (List.mem_map.mpr ⟨(i, Sum.inl x), k_ld_mem hl0, rfl⟩ : (i, k_e ads (.inl x)) ∈ k_lp ads ls))
      exact lv_iinc (v := x + q_i n) hx hb hdec hl hq (by rw [of_decide_eq_true hck.1]) (k_blt hck.2) (k_lp_x hxl ads ls i (k_blt h9) (.inl (x + q_i n))) (fun lsA hl => hk _ _ _ _ _ _ h ads H locs lsA g1 g2 g3 g4 hl)
    · cases h
  case iconst n =>
    have hnx : pc + 1 = nx := hnx
    subst hnx
    intro ads H locs lsA g1 g2 g3 g4 hl
    exact lv_iconst (v := q_i n) hx hb hdec (of_decide_eq_true hck) (hk _ _ _ _ _ _ h ads H locs lsA g1 g2 g3 g4 hl)
  case bipush n =>
    have hnx : pc + 2 = nx := hnx
    subst hnx
    intro ads H locs lsA g1 g2 g3 g4 hl
    exact lv_bipush (v := q_i n) hx hb hdec (of_decide_eq_true hck) (hk _ _ _ _ _ _ h ads H locs lsA g1 g2 g3 g4 hl)
  case sipush n =>
    have hnx : pc + 3 = nx := hnx
    subst hnx
    intro ads H locs lsA g1 g2 g3 g4 hl
    exact lv_sipush (v := q_i n) hx hb hdec (of_decide_eq_true hck) (hk _ _ _ _ _ _ h ads H locs lsA g1 g2 g3 g4 hl)
  case ldc2_w idx =>
    dsimp only at h
    split at h
    · rename_i v hv
      have hnx : pc + 3 = nx := hnx
      subst hnx
      intro ads H locs lsA g1 g2 g3 g4 hl
      exact lv_ldc2 hx hb hown (hts _ (List.mem_filter.mpr ⟨q_LLm hv, rfl⟩)) hdec (hk _ _ _ _ _ _ h ads H locs lsA g1 g2 g3 g4 hl)
    · cases h
  case dup =>
    dsimp only at h
    split at h
    · have hnx : pc + 1 = nx := hnx
      subst hnx
      intro ads H locs lsA g1 g2 g3 g4 hl
      exact lv_dup hx hb hdec rfl (hk _ _ _ _ _ _ h ads H locs lsA g1 g2 g3 g4 hl)
    · cases h
  case goto off =>
    intro ads H locs lsA g1 g2 g3 g4 hl
    exact lv_goto hx hb hdec (of_decide_eq_true hck) (hk _ _ _ _ _ _ h ads H locs lsA g1 g2 g3 g4 hl)
  case if_icmp cd off =>
    dsimp only at h
    split at h
    · rename_i y x r
      have hnx : pc + 3 = nx := hnx
      subst hnx
      have ht := of_decide_eq_true hck
      intro ads H locs lsA g1 g2 g3 g4 hl
      have yes : k_br cd x y = true → W p l e R s m args below meth c H locs z sl Q (F0 m tg lsA (r.map (k_e ads))) := fun q => by
        rw [q] at h
        exact hk _ _ _ _ _ _ h ads H locs lsA g1 g2 g3 g4 hl
      have no : k_br cd x y = false → W p l e R s m args below meth c H locs z sl Q (F0 m (pc + 3) lsA (r.map (k_e ads))) := fun q => by
        rw [q] at h
        exact hk _ _ _ _ _ _ h ads H locs lsA g1 g2 g3 g4 hl
      cases cd with
      | eq => exact lv_icmp_eq hx hb hdec ht (fun q => yes (decide_eq_true q)) (fun q => no (decide_eq_false q))
      | ne => exact lv_icmp_ne hx hb hdec ht (fun q => yes (decide_eq_true q)) (fun q => no (decide_eq_false (fun g => g q)))
      | lt => exact lv_icmp_lt hx hb hdec ht (fun q => yes (decide_eq_true q)) (fun q => no (decide_eq_false q))
      | ge => exact lv_icmp_ge hx hb hdec ht (fun q => yes (decide_eq_true q)) (fun q => no (decide_eq_false q))
      | gt => exact lv_icmp_gt hx hb hdec ht (fun q => yes (decide_eq_true q)) (fun q => no (decide_eq_false q))
      | le => exact lv_icmp_le hx hb hdec ht (fun q => yes (decide_eq_true q)) (fun q => no (decide_eq_false q))
    · cases h
  case newarray at9 =>
    dsimp only at h
    split at h
    · rename_i x r
      simp only [Bool.and_eq_true, decide_eq_true_eq] at h
      obtain ⟨f1, f2, f3, f4, f5, h⟩ := h
      have hnx : pc + 2 = nx := hnx
      subst hnx
      obtain ⟨N, hN⟩ : ∃ N, N = x.toNatClampNeg := ⟨_, rfl⟩
      rw [← hN] at f1 f2 f5 h
      subst f1
      replace f2 := Nat.le_of_ble_eq_true f2
      replace f4 := Nat.le_of_ble_eq_true f4
      replace f5 := Nat.le_of_ble_eq_true f5
      split at h
      · exact k_newa (tc := 1) (ty := .int) (a0 := (N, .inl (k_li []))) hx hb hts hK hA rfl rfl (k_inG k_ATok.1) (fun _ => rfl) (fun _ => rfl) rfl f2 (by decide) f3 f4 f5 hdec (hk _ _ _ _ _ _ h)
      · exact k_newa (tc := 2) (ty := .boolean) (a0 := (N, .inl (k_li []))) hx hb hts hK hA rfl rfl (k_inG k_ATok.2) (fun _ => rfl) (fun _ => rfl) rfl f2 (by decide) f3 f4 f5 hdec (hk _ _ _ _ _ _ h)
      · cases h
    · cases h
  case anewarray idx =>
    dsimp only at h
    split at h
    · rename_i tc ci hf
      have hm := List.all_eq_true.mp k_ANok _ (k_find_mem hf)
      simp only [Bool.and_eq_true, Bool.or_eq_true, decide_eq_true_eq] at hm
      obtain ⟨m1, m2⟩ := hm
      split at h
      · rename_i x r
        simp only [Bool.and_eq_true, decide_eq_true_eq] at h
        obtain ⟨f1, f2, f3, f4, f5, h⟩ := h
        have hnx : pc + 3 = nx := hnx
        subst hnx
        obtain ⟨N, hN⟩ : ∃ N, N = x.toNatClampNeg := ⟨_, rfl⟩
        rw [← hN] at f1 f2 f5 h
        subst f1
        replace f2 := Nat.le_of_ble_eq_true f2
        replace f4 := Nat.le_of_ble_eq_true f4
        replace f5 := Nat.le_of_ble_eq_true f5
        rcases m2 with ⟨rfl, rfl⟩ | ⟨rfl, rfl⟩
        · exact k_newq (C := RX1) hx hb hown hts hK hA rfl (k_inG m1) hAO.1 f2 f3 f4 f5 hdec (hk _ _ _ _ _ _ h)
        · exact k_newq (C := RX7) hx hb hown hts hK hA rfl (k_inG m1) hAO.2 f2 f3 f4 f5 hdec (hk _ _ _ _ _ _ h)
      · cases h
    · cases h
  case new idx =>
    dsimp only at h
    split at h
    · rename_i ci hf
      have hm := List.all_eq_true.mp k_NWok _ (k_find_mem hf)
      simp only [Bool.and_eq_true, decide_eq_true_eq] at hm
      obtain ⟨m0, m1, m2, m3⟩ := hm
      simp only [Bool.and_eq_true] at h
      obtain ⟨f3, f4, f5, h⟩ := h
      have hnx : pc + 3 = nx := hnx
      subst hnx
      exact k_new hx hb hown hts hK hA m0 ⟨k_inG m1, k_inG m2, k_inG m3⟩ f3 (Nat.le_of_ble_eq_true f4) (Nat.le_of_ble_eq_true f5) hdec (hk _ _ _ _ _ _ h)
    · cases h
  case invokespecial idx =>
    dsimp only at h
    split at h
    · rename_i i r
      have hnx : pc + 3 = nx := hnx
      subst hnx
      split at h
      · rename_i hf
        have hm := List.all_eq_true.mp k_OIok _ (k_find_mem hf)
        simp only [Bool.and_eq_true, decide_eq_true_eq] at h
        obtain ⟨rfl, f1, f2, h⟩ := h
        have f2 := Nat.le_of_ble_eq_true f2
        intro ads H locs lsA g1 g2 g3 g4 hl
        refine W.objInit hx hb hown (hts _ (k_inG hm)) (hts _ (k_inG k_OIok2.1)) (hts _ (k_inG k_OIok2.2)) rfl (by rw [hml]; exact hl.1) rfl hdec (Nat.le_of_ble_eq_true f1) (by show 2 * 0 + 0 + 12 ≤ R.locals; omega) ?_
        exact hk _ _ _ _ _ _ h ads H locs lsA g1 g2 g3 g4 hl
      · split at h
        · rename_i j na bj hcal
          split at h
          · rename_i R0 Rt mc ms hr
            simp only [Bool.and_eq_true, decide_eq_true_eq] at h
            obtain ⟨f1, f2, f3, f4, f5, f6, f7, h⟩ := h
            obtain ⟨hC, hj, hkind, hna, hrt, hname⟩ := hres j _ hr
            have he : E[i]? = some (.inl (q_own j, k_df (q_own j))) := by
              cases hE : E[i]? with
              | none => rw [hE] at f1; cases f1
              | some e9 =>
                rw [hE] at f1
                rw [k_eeq_ok f1]
            exact k_call hx hb hml hown hts hK hA hAO hC hcal hj hkind hna hrt hname he f2 ⟨Nat.le_of_ble_eq_true f3, Nat.le_of_ble_eq_true f4⟩ (Nat.le_of_ble_eq_true f5) (Nat.le_of_ble_eq_true f6) (Nat.le_of_ble_eq_true f7) hdec (hk _ _ _ _ _ _ h)
          · cases h
        · cases h
    · cases h
  case putfield idx =>
    dsimp only at h
    split at h
    · rename_i ci kk fin ty hf
      split at h
      · rename_i v i r
        split at h
        · rename_i ci' fs he
          simp only [Bool.and_eq_true, Bool.or_eq_true, decide_eq_true_eq] at h
          obtain ⟨f1, f2, f3, f4, h⟩ := h
          have f1 := Nat.eq_of_beq_eq_true f1
          subst f1
          have hnx : pc + 3 = nx := hnx
          subst hnx
          obtain ⟨hc, hkN, -, -⟩ := q_FLi (q_find_mem hf)
          refine k_put hx hb hown hts hK hf he (k_blt f2) (fun hfin => ?_) ⟨_, q_ty0_ok hc kk hkN, fun ads => k_fv_ok f3 ads⟩ hdec (hk _ _ _ _ _ _ h)
          rcases f4 with g | ⟨g1, g2⟩
          · rw [hfin] at g
            cases g
          · exact ⟨hini g1, g2⟩
        · cases h
      · cases h
    · cases h
  case getfield idx =>
    dsimp only at h
    split at h
    · rename_i ci kk fin ty hf
      split at h
      · rename_i i r
        split at h
        · rename_i ci' fs he
          simp only [Bool.and_eq_true] at h
          obtain ⟨f1, h⟩ := h
          have f1 := Nat.eq_of_beq_eq_true f1
          subst f1
          have hnx : pc + 3 = nx := hnx
          subst hnx
          split at h
          · rename_i v hv
            exact k_get hx hb hown hts hK hf he hv hdec (hk _ _ _ _ _ _ h)
          · cases h
        · cases h
      · cases h
    · cases h
  case iastore =>
    dsimp only at h
    split at h
    · rename_i x y i r
      split at h
      · rename_i N L he
        simp only [Bool.and_eq_true, decide_eq_true_eq] at h
        obtain ⟨f1, f2, f3, h⟩ := h
        have hnx : pc + 1 = nx := hnx
        subst hnx
        obtain ⟨j, hj⟩ : ∃ j, j = y.toNatClampNeg := ⟨_, rfl⟩
        rw [← hj] at f1 f2 h
        subst f1
        exact k_iast hx hb hK he (k_blt f2) (Nat.le_of_ble_eq_true f3) hdec (hk _ _ _ _ _ _ h)
      · cases h
    · cases h
  case aastore =>
    dsimp only at h
    split at h
    · rename_i v y i r
      split at h
      · rename_i tc N L ci fs he hv
        simp only [Bool.and_eq_true, Bool.or_eq_true, decide_eq_true_eq] at h
        obtain ⟨f1, f2, f3, f4, h⟩ := h
        have hnx : pc + 1 = nx := hnx
        subst hnx
        obtain ⟨j, hj⟩ : ∃ j, j = y.toNatClampNeg := ⟨_, rfl⟩
        rw [← hj] at f1 f2 h
        subst f1
        rcases f4 with ⟨rfl, rfl⟩ | ⟨rfl, rfl⟩
        · exact k_aast hx hb hK he hv (by decide) rfl (k_blt f2) (Nat.le_of_ble_eq_true f3) hdec (hk _ _ _ _ _ _ h)
        · exact k_aast hx hb hK he hv (by decide) rfl (k_blt f2) (Nat.le_of_ble_eq_true f3) hdec (hk _ _ _ _ _ _ h)
      · cases h
    · cases h
  all_goals exact absurd (show false = true from h) (by decide)
end KS
