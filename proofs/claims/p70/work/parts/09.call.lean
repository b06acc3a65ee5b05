-- RETURNS, CALLS, THROWS
def q_nr : Option Q_V → Prop
  | some (.inr (.inl _)) => False
  | _ => True
def q_en : Nat → String
  | 1 => "java/lang/IndexOutOfBoundsException"
  | 2 => "java/lang/IllegalArgumentException"
  | _ => "java/lang/IllegalStateException"
def q_ne : List String := ["java/lang/RuntimeException", "java/lang/Exception"]
def q_UB : List Cond := [.castable "java/lang/IndexOutOfBoundsException" "java/lang/IndexOutOfBoundsException", .castable "java/lang/IllegalArgumentException" "java/lang/IllegalArgumentException", .castable "java/lang/IllegalStateException" "java/lang/IllegalStateException", .declares (Bundle.initS "java/lang/RuntimeException"), .declares (Bundle.initS "java/lang/Exception"), .declares (Bundle.initS Bundle.tN)]
/-- what throwing asks of a state beside the tables' words -/
def q_U (base : Nat) (U : State) : Prop := vx_Zq Bundle.tN "UNASSIGNED_STACK" Bundle.steD (fun q => base ≤ q) U U.heap ∧ vx_Zq Bundle.tN "SUPPRESSED_SENTINEL" Bundle.listD (fun q => base ≤ q) U U.heap ∧ (∀ q ∈ q_TS, ∃ sa : Nat, vk_R RX8 q.2.2.2.2.1 q.2.2.2.2.2.2.2 sa U) ∧ (∀ w ∈ q_UB, va_Nw w U) ∧ ∀ x y : Nat, 1 ≤ x → x ≤ 3 → 1 ≤ y → y ≤ 3 → x ≠ y → va_Nc (q_en x) (q_en y) U
theorem q_U_warm {base : Nat} {s U : State} (hW : s.WarmedH U.vm) (hsz : s.heap.size ≤ U.heap.size) (hk : ∀ a : Nat, a < s.heap.size → ¬ base ≤ a → U.heap[a]? = s.heap[a]?) (h : q_U base s) : q_U base U := by
  obtain ⟨h1, h2, h3, h4, h5⟩ := h
  refine ⟨(h1.moved hW.alike).kept hk, (h2.moved hW.alike).kept hk, fun q hq => ?_, fun w hw => ?_, fun x y a b c d e => va_Nc.moved hW.alike (h5 x y a b c d e)⟩
  · obtain ⟨sa, hs⟩ := h3 q hq
    exact ⟨sa, hs.warm hW⟩
  · have h4 := h4 w hw
    unfold q_UB at hw
    simp only [List.mem_cons, List.not_mem_nil, or_false] at hw
    rcases hw with rfl | rfl | rfl | rfl | rfl | rfl
    · exact va_Nw.warmC hW h4
    · exact va_Nw.warmC hW h4
    · exact va_Nw.warmC hW h4
    · exact va_Nw.warmD hW h4
    · exact va_Nw.warmD hW h4
    · exact va_Nw.warmD hW h4
theorem q_U_calling {base : Nat} {U : State} (g : JFrame) (mk : MethodId) (a : Array Value) (h : q_U base U) : q_U base (U.calling g mk a) := by
  obtain ⟨h1, h2, h3, h4, h5⟩ := h
  refine ⟨vx_Zq.moved (u := U) (U := U.calling g mk a) (Vm.Alike.refl U.vm) h1, vx_Zq.moved (u := U) (U := U.calling g mk a) (Vm.Alike.refl U.vm) h2, fun q hq => ?_, fun w hw => ?_, fun x y c1 c2 c3 c4 c5 => va_Nc.moved (u := U) (U := U.calling g mk a) (Vm.Alike.refl U.vm) (h5 x y c1 c2 c3 c4 c5)⟩
  · obtain ⟨sa, hs⟩ := h3 q hq
    exact ⟨sa, vk_R.same (u := U) (U := U.calling g mk a) rfl hs⟩
  · have h4 := h4 w hw
    unfold q_UB at hw
    simp only [List.mem_cons, List.not_mem_nil, or_false] at hw
    rcases hw with rfl | rfl | rfl | rfl | rfl | rfl <;> exact va_Nw.same (u := U) (U := U.calling g mk a) rfl rfl h4
def q_Qc (D : va_G) (cs : Nat → ClassId) (ad : Q_Id → Nat) (dm : List Q_Id) (base : Nat) (K : Option Q_V → Q_M → Prop) : Array Value → State → Outcome → State → Prop := fun _ st o t => ∃ (v : Option Q_V) (M' : Q_M), o = .returned (v.map (q_e ad)) ∧ K v M' ∧ q_nr v ∧ q_wf M' ∧ va_P D vwCl (q_W cs ad dm M') t.heap ∧ va_D (fun q => base ≤ q) (q_W cs ad dm M') ∧ va_F (fun q => base ≤ q) st t
def q_XC (D : va_G) (cs : Nat → ClassId) (ad : Q_Id → Nat) (dm : List Q_Id) (base : Nat) (KX : Nat → Q_M → Prop) : String → State → State → Prop := fun E st t => ∃ (x : Nat) (M' : Q_M), E = q_en x ∧ KX x M' ∧ q_wf M' ∧ va_P D vwCl (q_W cs ad dm M') t.heap ∧ va_D (fun q => base ≤ q) (q_W cs ad dm M') ∧ va_F (fun q => base ≤ q) st t
def q_Pc (D : va_G) (cs : Nat → ClassId) (ad : Q_Id → Nat) (dm : List Q_Id) (base : Nat) (av : List Q_V) (M : Q_M) : Array Value → State → Prop := va_Pc (av.map (q_e ad)) (fun U => base ≤ U.heap.size ∧ va_P D vwCl (q_W cs ad dm M) U.heap ∧ va_K D vwCl (q_tys cs) U ∧ va_D (fun q => base ≤ q) (q_W cs ad dm M) ∧ q_U base U)
theorem q_Pc_blind {D : va_G} {cs : Nat → ClassId} {ad : Q_Id → Nat} {dm : List Q_Id} {base : Nat} {av : List Q_V} {M : Q_M} : FrameBlind (q_Pc D cs ad dm base av M) := by
  intro a U g mk h
  obtain ⟨h0, h1, h2, h3, h4, h5⟩ := h
  exact ⟨h0, h1, h2, va_K.moved (u := U) (U := U.calling g mk a) (Vm.Alike.refl U.vm) h3, h4, q_U_calling g mk a h5⟩
def q_ws (j : Nat) : List Cond := .code (q_y j) (q_b j) (q_ml j) (q_rt j) :: q_G
def q_rm (j : Nat) : Room := { frames := q_fr j, cells := q_bud j, slots := 6 * q_bud j, locals := q_lo j }
/-- the contract of a method: what P asks at its start for K at its return, and KX at its throw -/
def q_Ct (l : Launch) (b : Bool) (j : Nat) (P : Q_P) : Prop := ∀ (D : va_G) (cs : Nat → ClassId) (ad : Q_Id → Nat) (dm : List Q_Id) (base : Nat), (∀ i, q_ok b i → i ∈ dm) → (∀ q : Nat, ad (28, q, 0) = q) → ∀ (av : List Q_V) (M : Q_M) (K : Option Q_V → Q_M → Prop) (KX : Nat → Q_M → Prop), (∀ v ∈ av, q_okv b v) → q_wf M → P av M K KX → vx_Met l (q_y j) (q_ws j) (q_rm j) (q_Pc D cs ad dm base av M) (q_Qc D cs ad dm base K) (q_XC D cs ad dm base KX) (q_bud j) (6 * q_bud j) (fun q => base ≤ q)
theorem q_GoodIn {ws : List Cond} (h : ∀ w ∈ ws, w ∈ q_G) : GoodIn q_G ws := fun w hw => ⟨h w hw, good_of_word (q_G_good (h w hw))⟩
theorem q_take_spec : ∀ (n : Nat) (acc st : List Q_V) (av r : List Q_V), q_take n acc st = some (av, r) → ∃ xs : List Q_V, xs.length = n ∧ st = xs ++ r ∧ av = xs.reverse ++ acc
  | 0, acc, st, av, r, h => by cases h; exact ⟨[], rfl, rfl, rfl⟩
  | n + 1, acc, [], av, r, h => by cases h
  | n + 1, acc, v :: st, av, r, h => by
    obtain ⟨xs, h1, h2, h3⟩ := q_take_spec n (v :: acc) st av r h
    exact ⟨v :: xs, by simp [h1], by simp [h2], by simp [h3]⟩
theorem q_sum_eq (ad : Q_Id → Nat) : ∀ r : List Q_V, ((r.map (q_e ad)).map fun v => v.category).sum = q_sum r
  | [] => rfl
  | v :: r => by simp [q_sum, q_e_cat, ← q_sum_eq ad r]
def q_fit (R : Room) (j : Nat) : Prop := q_fr j + 1 ≤ R.frames ∧ 8 + (q_ml j + 11) + q_lo j ≤ R.locals
section QC
variable {p : Program} {l : Launch} {e : Env} {R : Room} {s : State} {m : MethodId} {args : Array Value} {below : List Frame} {meth : Method} {c : Code} {Q : State → Prop}
variable {cc : ByteArray} {nL own bi : Nat} {D : va_G} {cs : Nat → ClassId} {ad : Q_Id → Nat} {dm : List Q_Id} {base : Nat} {b : Bool}
/-- behind a call: it came back, or it threw -/
theorem q_after {r : List Q_V} {K : Option Q_V → Q_M → Prop} {KX : Nat → Q_M → Prop} {pc z bj : Nat} {ls : List (Nat × Q_V)} {H : Heap} {locs : List Loc} {lsA : Array Slot} {st0 : List Value} {a : Array Value} (hl : lv_has lsA nL (q_lp ad ls)) (hz : z + bj ≤ bi) (h1 : ∀ v ∈ r, q_okv b v) (h2 : ∀ q ∈ ls, q_okv b q.2) (hS : va_S (fun q => base ≤ q) s.heap H locs)
    (hr : vx_Run p l e R s m args below meth c H locs z (6 * z) bj (6 * bj) (F0 m pc lsA st0) (r.map (q_e ad)) (q_Qc D cs ad dm base K a) (q_XC D cs ad dm base KX) (fun q => base ≤ q))
    (hk : ∀ v M', q_nr v → K v M' → q_Zd p l e R s m args below meth c Q nL D cs ad dm base b bi (z + bj) (pc + 3) ls (q_psh v r) M')
    (hx : ∀ (x : Nat) (M' : Q_M) (H1 : Heap) (locs1 : List Loc) (q : Nat) (ce : Cell), KX x M' → q_Hp D cs ad dm base s M' H1 locs1 → H1[q]? = some ce → ce.vm = .none → s.vm.findClass (q_en x) = some ce.cls → vx_W p l e R s m args below meth c H1 locs1 (z + bj) (6 * (z + bj)) Q (F0 m pc lsA (r.map (q_e ad))) q) :
    W p l e R s m args below meth c H locs z (6 * z) Q (F0 m pc lsA st0) := by
  intro T hT X
  have hSk : ∀ (st₀ t T' : State) (L : List Loc), st₀.heap = H → T'.heap = t.heap → (∀ q ∈ L, base ≤ q.base) → va_F (fun q => base ≤ q) st₀ t → va_S (fun q => base ≤ q) s.heap T'.heap (locs ++ L) := by
    intro st₀ t T' L h0 e1 hL hF
    have hF1 := hF.1
    have hF2 := hF.2
    rw [h0] at hF1 hF2
    refine ⟨Nat.le_trans hS.1 (by rw [e1]; exact hF1), fun q g1 g2 => ?_, fun q hq => ?_⟩
    · rw [e1, hF2 q (Nat.lt_of_lt_of_le g1 hS.1) g2]
      exact hS.2.1 q g1 g2
    · rcases List.mem_append.mp hq with h | h
      · exact hS.2.2 q h
      · exact hL q h
  have e6 : 6 * z + 6 * bj = 6 * (z + bj) := by omega
  rcases hr T hT X with ⟨v, st₀, t, T', L, h0, X', hL, e1, e2, ⟨v', M', hv, hK, hnr, hwf, hP, hD, hF⟩, st⟩ | ⟨q, st₀, t, T', L, E, ce, h0, X', hL, e1, e2, ⟨x, M', hE, hKX, hwf, hP, hD, hF⟩, hcell, hvm, hcls, st⟩
  · cases hv
    rw [e6] at X'
    obtain ⟨t2, a1, b1⟩ := hk v' M' hnr hK hz (by
      intro w hw
      cases v' with
      | none => exact h1 w hw
      | some y =>
        rcases List.mem_cons.mp hw with rfl | hw
        · rcases w with x | i | x
          · trivial
          · exact hnr.elim
          · trivial
        · exact h1 w hw) h2 T'.heap (locs ++ L) lsA ⟨by rw [e1]; exact hP, hD, hSk st₀ t T' L h0 e1 hL hF, hwf⟩ hl T' rfl X'
    refine ⟨t2, st t2 ?_, b1⟩
    cases v' with
    | none => exact a1
    | some y => exact a1
  · rw [e6] at X'
    obtain ⟨t2, a1, b1⟩ := hx x M' T'.heap (locs ++ L) q ce hKX ⟨by rw [e1]; exact hP, hD, hSk st₀ t T' L h0 e1 hL hF, hwf⟩ (by rw [e1]; exact hcell) hvm (by rw [← hE]; exact hcls) T' rfl X'
    exact ⟨t2, st.trans a1, b1⟩
end QC
