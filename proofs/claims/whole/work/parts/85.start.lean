-- THE LAW'S START: WHAT THE TABLES GIVE
theorem k_inst : (List.range 10).all (fun ci => k_in (Cond.instantiable (q_cl ci).1 (q_cl ci).2.2)) = true := by decide +kernel
theorem k_clen : vwCl.length = 10 := by decide
theorem k_wt : (decide (Cond.arrayOver (.object RX1) ∈ lw_tbl) && (decide (Cond.arrayOver (.object RX7) ∈ lw_tbl) && (decide (Cond.laysStatic Bundle.tN "UNASSIGNED_STACK" Bundle.steD ∈ lw_tbl) && (decide (Cond.laysStatic Bundle.tN "SUPPRESSED_SENTINEL" Bundle.listD ∈ lw_tbl) && (decide (Cond.initialized Bundle.tN ∈ lw_tbl) && (q_UB.all (fun w => decide (w ∈ lw_tbl)) && q_TS.all (fun q => decide (Cond.stringRef RX8 q.2.2.2.2.1 q.2.2.2.2.2.2.2 ∈ lw_tbl)))))))) = true := by decide +kernel
theorem k_Kc {s : State} {args : Array Value} (hts : ∀ w ∈ q_G, w.before args s = true) : ∃ D : va_G, ∀ (c : Nat) (q : vw_C), vwCl[c]? = some q → u_Kn s q.1 q.2.1 q.2.2 (D.1 c) (D.2 c) := by
  have h : ∀ ci, ∃ (cC : ClassId) (iS : Nat → Nat), ci < 10 → u_Kn s (q_cl ci).1 (q_cl ci).2.1 (q_cl ci).2.2 cC iS := by
    intro ci
    by_cases hc : ci < 10
    · obtain ⟨cC, iS, g⟩ := u_known (C := (q_cl ci).1) (T := (q_cl ci).2.1) (N := (q_cl ci).2.2) (n := (q_cl ci).2.2) hts (q_UWg hc) (hts _ (k_inG (List.all_eq_true.mp k_inst ci (List.mem_range.mpr hc))))
      exact ⟨cC, iS, fun _ => g⟩
    · exact ⟨0, fun _ => 0, fun g => absurd g hc⟩
  refine ⟨(fun ci => Classical.choose (h ci), fun ci => Classical.choose (Classical.choose_spec (h ci))), fun c q hq => ?_⟩
  have hc : c < 10 := by
    have := (List.getElem?_eq_some_iff.mp hq).1
    rw [k_clen] at this
    exact this
  rw [q_clat hc] at hq
  cases hq
  exact Classical.choose_spec (Classical.choose_spec (h c)) hc
theorem k_arr {s : State} {args : Array Value} {ty : FieldType} (h : (Cond.arrayClass ty).before args s = true) : ∃ cA : ClassId, ArrOfT s cA ty ∧ s.vm.findClass ("[" ++ ty.toString) = some cA := by
  obtain ⟨cA, kA, comp, h1, h2, h3⟩ := Cond.arrayClass_spec h
  exact ⟨cA, fun n z => ⟨fun k h => (by cases h), kA, h2, comp, h3⟩, h1⟩
theorem k_arq {s : State} {C : String} (h : va_AO C s) : ∃ cA : ClassId, ArrOfT s cA (.object C) ∧ va_RA s cA (.object C) := by
  obtain ⟨comp, cA, kA, h1, h2, h3, h4, h5⟩ := Cond.arrayOver_spec h
  exact ⟨cA, fun n z => ⟨fun k h => (by cases h), kA, h3, comp, h4⟩, kA, comp, h3, h4, h1, h5⟩
theorem k_Kall {s : State} {args : Array Value} (hts : ∀ w ∈ q_G, w.before args s = true) (hAO : k_AO s) : ∃ (D : va_G) (cs : Nat → ClassId), va_K D vwCl (q_tys cs) s := by
  obtain ⟨D, hD⟩ := k_Kc hts
  obtain ⟨c0, a0, b0⟩ := k_arr (hts _ (k_inG k_ATok.2.2.1))
  obtain ⟨c1, a1, b1⟩ := k_arr (hts _ (k_inG k_ATok.1))
  obtain ⟨c2, a2, b2⟩ := k_arr (hts _ (k_inG k_ATok.2.1))
  obtain ⟨c5, a5, b5⟩ := k_arr (hts _ (k_inG k_ATok.2.2.2))
  obtain ⟨c3, a3, b3⟩ := k_arq hAO.1
  obtain ⟨c4, a4, b4⟩ := k_arq hAO.2
  refine ⟨D, fun k => match k with | 0 => c0 | 1 => c1 | 2 => c2 | 3 => c3 | 4 => c4 | _ => c5, hD, fun k q hq => ?_⟩
  match k, hq with
  | 0, hq => cases hq; exact ⟨a0, b0⟩
  | 1, hq => cases hq; exact ⟨a1, b1⟩
  | 2, hq => cases hq; exact ⟨a2, b2⟩
  | 3, hq => cases hq; exact ⟨a3, b3⟩
  | 4, hq => cases hq; exact ⟨a4, b4⟩
  | 5, hq => cases hq; exact ⟨a5, b5⟩
  | k + 6, hq =>
    have := (List.getElem?_eq_some_iff.mp hq).1
    have h6 : (q_tys (fun k => match k with | 0 => c0 | 1 => c1 | 2 => c2 | 3 => c3 | 4 => c4 | _ => c5)).length = 6 := rfl
    omega
theorem k_ncw : (decide (Cond.not (.castable (q_en 1) (q_en 2)) ∈ flatC (Jvm.Cond.and given_1 narrow_1)) && (decide (Cond.not (.castable (q_en 1) (q_en 3)) ∈ flatC (Jvm.Cond.and given_1 narrow_1)) && (decide (Cond.not (.castable (q_en 2) (q_en 1)) ∈ flatC (Jvm.Cond.and given_1 narrow_1)) && (decide (Cond.not (.castable (q_en 2) (q_en 3)) ∈ flatC (Jvm.Cond.and given_1 narrow_1)) && (decide (Cond.not (.castable (q_en 3) (q_en 1)) ∈ flatC (Jvm.Cond.and given_1 narrow_1)) && (decide (Cond.not (.castable (q_en 3) (q_en 2)) ∈ flatC (Jvm.Cond.and given_1 narrow_1)) && (decide (Cond.isRef (.static Bundle.tN "UNASSIGNED_STACK" Bundle.steD) ∈ flatC (Jvm.Cond.and given_1 narrow_1)) && decide (Cond.isRef (.static Bundle.tN "SUPPRESSED_SENTINEL" Bundle.listD) ∈ flatC (Jvm.Cond.and given_1 narrow_1))))))))) = true := by decide +kernel
theorem k_str {s : State} {args : Array Value} {k : Nat} {tx : String} (h : (Cond.stringRef RX8 k tx).before args s = true) : ∃ sa : Nat, vk_R RX8 k tx sa s := by
  cases hc : s.vm.findClass RX8 with
  | none => simp [Cond.before, Cond.holds, Cond.value, hc] at h
  | some cc =>
    obtain ⟨k1, cf, i, a, hk, hcf, hp, -, hr, he⟩ := Cond.stringRef_spec hc h
    exact ⟨a, vk_R.of h he⟩
theorem k_Uall {s : State} {args : Array Value} (hts : ∀ w ∈ lw_tbl, w.before args s = true) (hgv : (Jvm.Cond.and given_1 narrow_1).before args s = true) : q_U s.heap.size s ∧ k_AO s := by
  have hw := k_wt
  simp only [Bool.and_eq_true, decide_eq_true_eq, List.all_eq_true] at hw
  obtain ⟨w1, w2, w3, w4, w5, w6, w7⟩ := hw
  have hn := k_ncw
  simp only [Bool.and_eq_true, decide_eq_true_eq] at hn
  obtain ⟨n12, n13, n21, n23, n31, n32, r1, r2⟩ := hn
  have hf := flat_of_before _ hgv
  have hA : ∀ a : Nat, a < s.heap.size → ¬ (fun q => s.heap.size ≤ q) a := fun a h => Nat.not_le.mpr h
  refine ⟨⟨vx_Zqof (hts _ w3) (hts _ w5) (hf _ r1) hA, vx_Zqof (hts _ w4) (hts _ w5) (hf _ r2) hA, fun q hq => k_str (hts _ (w7 q hq)), fun w hw => va_Nw.of (q_UB_on w hw) (hts _ (w6 w hw)), ?_⟩, va_AO.of (hts _ w1), va_AO.of (hts _ w2)⟩
  intro x y x1 x3 y1 y3 hxy
  have hx : x = 1 ∨ x = 2 ∨ x = 3 := by omega
  have hy : y = 1 ∨ y = 2 ∨ y = 3 := by omega
  rcases hx with rfl | rfl | rfl <;> rcases hy with rfl | rfl | rfl
  · exact absurd rfl hxy
  · exact va_Nc.of (hf _ n12)
  · exact va_Nc.of (hf _ n13)
  · exact va_Nc.of (hf _ n21)
  · exact absurd rfl hxy
  · exact va_Nc.of (hf _ n23)
  · exact va_Nc.of (hf _ n31)
  · exact va_Nc.of (hf _ n32)
  · exact absurd rfl hxy
theorem k_dm27 : ∀ i ∈ k_dm, i.1 ≠ 27 := by
  have h : k_dm.all (fun i => !Nat.beq i.1 27) = true := by decide +kernel
  intro i hi e
  have g := List.all_eq_true.mp h i hi
  rw [e] at g
  cases g
theorem k_nt {l : Launch} (h : l.flags = flags0) : l.stackTraces = false := by
  unfold Launch.stackTraces
  rw [h]
  decide
