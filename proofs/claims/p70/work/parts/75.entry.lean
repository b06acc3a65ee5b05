-- THE LAW'S ENTRY: TO PC 8
theorem k_rk0 : k_rk (0, 0, 0) 0 = true := by decide +kernel
theorem k_entry {p : Program} {l : Launch} {e : Env} {s : State} {m : MethodId} {below : List Frame} {meth : Method} {c : Code} {Q : State → Prop} {b : Nat} {D : va_G} {cs : Nat → ClassId} (hx : p.tables.exec = Jvm.exec) (hb : c.code = code) (hml : c.maxLocals = 9) (hown : s.vm.findClass (q_R 9) = some m.cls) (hts : ∀ w ∈ q_G, w.before #[Value.ref b] s = true) (hK : va_K D vwCl (q_tys cs) s) (hAO : k_AO s) (kk : ∀ ads : Nat → Nat, q_Zd p l e room_1 s m #[Value.ref b] below meth c Q 9 D cs (k_ad b ads) k_dm s.heap.size false 615177 1000 8 [(1, .inr (.inl (0, 0, 0))), (0, .inr (.inl (26, 0, 0)))] [] k_M0) : W p l e room_1 s m #[Value.ref b] below meth c s.heap [] 0 0 Q (entryFrame m ([Value.ref b] : List Value).toArray 9) := by
  rw [lg_entry_eq]
  have hl := lv_entry ([.ref b]) (n := 9) (by show 1 ≤ 9; decide)
  generalize (lg_sl ([.ref b]) ++ List.replicate (9 - (lg_sl ([.ref b])).length) Slot.unset).toArray = lsA at hl ⊢
  have hfin : ∀ (z sl : Nat) (ls : List (Nat × K_V)) (st : List K_V) (E : List K_E), k_finL z sl ls st E = true → k_Zd p l e room_1 s m #[Value.ref b] below meth c Q 9 D cs (fun q => s.heap.size ≤ q) none [(0, .ref b)] z sl 8 ls st E := by
    intro z sl ls st E hf
    unfold k_finL at hf
    simp only [Bool.and_eq_true, decide_eq_true_eq] at hf
    obtain ⟨f1, f2, f3, f4, f5⟩ := hf
    have f1 := Nat.eq_of_beq_eq_true f1
    have f2 := Nat.eq_of_beq_eq_true f2
    have f5 := k_leq_ok (fun _ _ => k_eeq_ok) f5
    subst f1 f2 f3 f4 f5
    intro ads H locs lsA g1 hP hD hS hl
    obtain ⟨hP2, hD2⟩ := k_WP (b := b) hP hD
    refine W.widen (show 340 ≤ 1000 by decide) (show 2859 ≤ 6 * 1000 by decide) ?_
    refine kk ads (show 1000 ≤ 615177 by decide) (fun v hv => ?_) (fun q hq => ?_) H locs lsA ⟨hP2, hD2, hS, k_wf0⟩ ?_
    · cases hv
    · simp only [List.mem_cons, List.not_mem_nil, or_false] at hq
      rcases hq with rfl | rfl
      · exact Or.inl ⟨Nat.zero_lt_one, Nat.zero_lt_one⟩
      · exact Or.inr (Or.inl rfl)
    · have h1 := k_ad_rk (b := b) (ads := ads) k_rk0
      show lv_has lsA 9 [(1, .ref (k_ad b ads (0, 0, 0))), (0, .ref b)]
      rw [h1]
      exact hl
  have hxl : ∀ q ∈ [((0 : Nat), Value.ref b)], q.1 = 0 ∧ q.2.category = 1 := by
    intro q hq
    rw [List.mem_singleton.mp hq]
    exact ⟨rfl, rfl⟩
  exact (k_pro (R := room_1) (A := fun q => s.heap.size ≤ q) hxl hx hb hml hown hts hK (fun q h => h) hAO k_g8 k_chL hfin _ 0 0 0 [] [] [] k_runL) (fun _ => 0) s.heap [] lsA (fun a h => by cases h) (fun k q h => by cases h) ⟨fun i j p q h => (by cases h), fun k q h => (by cases h)⟩ va_S.rf hl
