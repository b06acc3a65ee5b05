-- COURSES PLAYED: THE REFERENCE
def q_p2 (M M' : Q_M) : Prop := (∀ r, r ≠ 21 → r ≠ 22 → M'.1 r = M.1 r) ∧ M'.2 = M.2 ∧ ∀ k, k < 6 → M'.1 21 0 0 k = M.1 21 0 0 k
theorem q_p2_rfl {M : Q_M} : q_p2 M M := ⟨fun _ _ _ => rfl, rfl, fun _ _ => rfl⟩
theorem q_p2_tr {M M1 M2 : Q_M} (h : q_p2 M M1) (h2 : q_p2 M1 M2) : q_p2 M M2 := ⟨fun r a b => (h2.1 r a b).trans (h.1 r a b), h2.2.1.trans h.2.1, fun k a => (h2.2.2 k a).trans (h.2.2 k a)⟩
theorem q_p2_pf {M M1 : Q_M} (h : q_pf M M1) : q_p2 M M1 := ⟨fun r a _ => h.1 r a, h.2.1, h.2.2⟩
theorem q_p2_sa {M : Q_M} {f : Nat → Int32} : q_p2 M (q_sa M (22, 0, 0) f) := ⟨fun r _ b => funext fun j => funext fun c => if_neg (fun g => b g.1), rfl, fun _ _ => rfl⟩
theorem TV_p2 {M M' : Q_M} {n : Nat} {tx : Nat → Nat} (h : TV M n tx) (hf : q_p2 M M') : TV M' n tx := by
  unfold TV
  rw [hf.2.2 5 (by decide), hf.1 24 (by decide) (by decide)]
  exact h
theorem q_bi_tt : q_bi (true = true) = nI 1 := by decide
theorem q_bi_ff : q_bi (false = true) = nI 0 := by decide
theorem g_wh_ext {tx : Nat → Nat} {n : Nat} : ∀ (f at0 : Nat) (L : List Q_P3), ∃ X, (g_wh tx n f at0 L).2.2 = L ++ X
  | 0, at0, L => ⟨[], (List.append_nil _).symm⟩
  | f + 1, at0, L => by
    have e : g_wh tx n (f + 1) at0 L = (match g_pt tx n at0 with
      | (none, a) => (false, a, L)
      | (some p, a) => if a < n ∧ tx a = 59 then g_wh tx n f (a + 1) (L ++ [p]) else (true, a, L ++ [p])) := rfl
    rw [e]
    rcases g_pt tx n at0 with ⟨_ | p, a⟩
    · exact ⟨[], (List.append_nil _).symm⟩
    · dsimp only
      split
      · obtain ⟨X, hX⟩ := g_wh_ext f (a + 1) (L ++ [p])
        exact ⟨p :: X, by rw [hX, List.append_assoc]; rfl⟩
      · exact ⟨[p], rfl⟩
theorem g_wh_vp {tx : Nat → Nat} {n : Nat} : ∀ (f at0 : Nat) (L : List Q_P3), at0 ≤ n → s_vL L → s_vL (g_wh tx n f at0 L).2.2
  | 0, at0, L, _, h => h
  | f + 1, at0, L, hat, h => by
    have e : g_wh tx n (f + 1) at0 L = (match g_pt tx n at0 with
      | (none, a) => (false, a, L)
      | (some p, a) => if a < n ∧ tx a = 59 then g_wh tx n f (a + 1) (L ++ [p]) else (true, a, L ++ [p])) := rfl
    rw [e]
    obtain ⟨h1, h2⟩ := g_pt_rn (tx := tx) (n := n) (k0 := 0) (f0 := 0) (s0 := 0) (d0 := 0) (L := L) hat
    rcases hp : g_pt tx n at0 with ⟨_ | ⟨w, v, s⟩, a⟩
    · exact h
    · rw [hp] at h2
      obtain ⟨g0, g1, g2, -⟩ := h2 w v s rfl
      have hL : s_vL (L ++ [(w, v, s)]) := by
        intro q hq
        rcases List.mem_append.mp hq with hq | hq
        · exact h q hq
        · have : q = (w, v, s) := by simpa using hq
          rw [this]
          exact g0
      dsimp only
      split
      · rename_i g
        exact g_wh_vp f (a + 1) _ (by omega) hL
      · exact hL
theorem s_q20' {S : Nat → Int32} {x : Nat} (w : s_wf S) (hx : x < 20) (h : s_lk S (nI x) (s_n S) = none ∧ s_qd S (nI x) (s_q S) = none) : s_q S < 20 := s_q20 w hx h.2
abbrev pX9_does : Q_P := fun av M K KX => ∃ k x y : Nat, s_wf (M.1 22 0 0) ∧ s_vp k x y ∧ M.1 21 0 0 7 = nI x ∧ M.1 21 0 0 8 = nI y ∧ av = [.inr (.inl (21, 0, 0)), .inl (nI k)] ∧ K (some (.inl (q_bi ((s_do (M.1 22 0 0) k x y).1 = true)))) (q_sa M (22, 0, 0) (s_do (M.1 22 0 0) k x y).2)
theorem cX9_does_ct {l : Launch} {b : Bool} (hl0 : l.stackTraces = false) : q_Ct l b 202 pX9_does := by
  refine q_meth (by decide +kernel) hl0 TX9_does kX9_does ?_
  intro av M K KX hwf
  rintro ⟨k, x, y, w, hv, h7, h8, rfl, hK⟩
  refine ⟨Nat.le_of_ble_eq_true rfl, fun Z hz hw => ?_⟩
  obtain ⟨⟨w0, wn⟩, ⟨wq, wq2⟩, -⟩ := id w
  have lo : s_oi none < nI 0 := by decide
  have hav : ([.inr (.inl (21, 0, 0)), .inl (M.1 21 0 0 7)] : List Q_V) = [.inr (.inl (21, 0, 0)), .inl (nI x)] := by rw [h7]
  have hav2 : ([.inr (.inl (21, 0, 0)), .inl (M.1 21 0 0 7), .inl (M.1 21 0 0 8)] : List Q_V) = [.inr (.inl (21, 0, 0)), .inl (nI x), .inl (nI y)] := by rw [h7, h8]
  have no : K (some (.inl (nI 0))) (q_sa M (22, 0, 0) (M.1 22 0 0)) → Z 0 61 [(0, .inr (.inl (21, 0, 0))), (1, .inl (nI k))] [] M := by
    intro h
    rw [q_e22] at h
    apply hz [] 60
    refine And.intro (fun _ => ?_) (fun g => absurd nI_0 g)
    refine And.intro (fun _ => ?_) (fun g => absurd nI_0 g)
    refine And.intro (fun _ => ?_) (fun g => absurd nI_0 g)
    refine And.intro (fun _ => ?_) (fun g => absurd nI_0 g)
    refine And.intro (fun _ => ?_) (fun g => absurd nI_0 g)
    exact And.intro (Or.inl rfl) h
  unfold s_do at hK
  rcases hv with ⟨hk, hx⟩ | ⟨hk, hx, hy⟩
  · subst hk
    rw [if_pos rfl, q_bi_tt] at hK
    apply hz [] 60
    refine And.intro (fun _ => ?_) (fun g => absurd rfl g)
    refine And.intro (fun g => absurd g q_n1) (fun _ => ?_)
    refine And.intro (fun _ => ?_) (fun g => absurd rfl g)
    refine Exists.intro _ ⟨cX9_passes_ct hl0, x, by omega, w, hav, ?_⟩
    exact And.intro (Or.inr rfl) hK
  · rcases hk with hk | hk | hk | hk
    · subst hk
      rw [if_neg (by decide), if_pos rfl] at hK
      apply hz [61] 60
      refine And.intro (fun g => absurd g (by decide)) (fun _ => ?_)
      refine And.intro (fun _ => ?_) (fun g => absurd rfl g)
      refine Exists.intro _ ⟨cX9_canAsk_ct hl0, nI x, w, hav, ?_⟩
      by_cases c : s_lk (M.1 22 0 0) (nI x) (s_n (M.1 22 0 0)) = none ∧ s_qd (M.1 22 0 0) (nI x) (s_q (M.1 22 0 0)) = none
      · rw [if_pos c, q_bi_tt] at hK
        rw [q_bi_t c]
        refine And.intro (fun g => absurd g q_n1) (fun _ => ?_)
        refine And.intro (fun g => absurd g q_n1) (fun _ => ?_)
        refine And.intro (fun g => absurd g (by decide)) (fun _ => ?_)
        refine And.intro (fun g => absurd g q_n1) (fun _ => ?_)
        refine And.intro (fun _ => ?_) (fun g => absurd rfl g)
        refine Exists.intro _ ⟨cX9_asks_ct hl0, nI x, nI y, w, s_q20' w hx c, hav2, ?_⟩
        exact And.intro (Or.inr rfl) hK
      · rw [if_neg c, q_bi_ff] at hK
        rw [q_bi_f c]
        exact And.intro (fun _ => no hK) (fun g => absurd nI_0 g)
    · subst hk
      rw [if_neg (by decide), if_neg (by decide), if_pos rfl] at hK
      apply hz [61] 60
      refine And.intro (fun g => absurd g (by decide)) (fun _ => ?_)
      refine And.intro (fun g => absurd g (by decide)) (fun _ => ?_)
      refine And.intro (fun _ => ?_) (fun g => absurd rfl g)
      refine Exists.intro _ ⟨cX9_queued_ct hl0, s_q (M.1 22 0 0), nI x, wq2, wq, hav, ?_⟩
      cases hl : s_qd (M.1 22 0 0) (nI x) (s_q (M.1 22 0 0)) with
      | none =>
        rw [hl] at hK
        exact And.intro (fun _ => no hK) (fun g => absurd lo g)
      | some m =>
        have hm := (s_qd_lt hl).1
        rw [hl] at hK
        refine And.intro (fun g => absurd g (nI_pos (by omega))) (fun _ => ?_)
        refine And.intro (fun g => absurd g q_n1) (fun _ => ?_)
        refine And.intro (fun g => absurd g (by decide)) (fun _ => ?_)
        refine And.intro (fun g => absurd g q_n1) (fun _ => ?_)
        refine And.intro (fun g => absurd g (by decide)) (fun _ => ?_)
        refine And.intro (fun g => absurd g q_n1) (fun _ => ?_)
        refine And.intro (fun g => absurd g (by decide)) (fun _ => ?_)
        refine And.intro (fun g => absurd g q_n1) (fun _ => ?_)
        refine And.intro (fun _ => ?_) (fun g => absurd rfl g)
        refine Exists.intro _ ⟨cX9_queued_ct hl0, s_q (M.1 22 0 0), nI x, wq2, wq, hav, ?_⟩
        rw [hl]
        refine Exists.intro _ ⟨cX9_unqueues_ct hl0, s_q (M.1 22 0 0), m, wq2, hm, wq, rfl, ?_⟩
        exact And.intro (Or.inr rfl) hK
    · subst hk
      rw [if_neg (by decide), if_neg (by decide), if_neg (by decide), if_pos rfl] at hK
      apply hz [61] 60
      refine And.intro (fun g => absurd g (by decide)) (fun _ => ?_)
      refine And.intro (fun g => absurd g (by decide)) (fun _ => ?_)
      refine And.intro (fun g => absurd g (by decide)) (fun _ => ?_)
      refine Exists.intro _ ⟨cX9_linkOf_ct hl0, s_n (M.1 22 0 0), nI x, wn, w0, hav, ?_⟩
      cases hl : s_lk (M.1 22 0 0) (nI x) (s_n (M.1 22 0 0)) with
      | none =>
        rw [hl] at hK
        exact And.intro (fun _ => no hK) (fun g => absurd lo g)
      | some m =>
        have hm := (s_lk_lt hl).1
        rw [hl] at hK
        refine And.intro (fun g => absurd g (nI_pos (by omega))) (fun _ => ?_)
        refine And.intro (fun g => absurd g q_n1) (fun _ => ?_)
        refine And.intro (fun g => absurd g (by decide)) (fun _ => ?_)
        refine And.intro (fun g => absurd g q_n1) (fun _ => ?_)
        refine And.intro (fun g => absurd g (by decide)) (fun _ => ?_)
        refine And.intro (fun g => absurd g q_n1) (fun _ => ?_)
        refine And.intro (fun _ => ?_) (fun g => absurd rfl g)
        refine Exists.intro _ ⟨cX9_givesBack_ct hl0, nI x, m, w, hl, hav, ?_⟩
        exact And.intro (Or.inr rfl) hK
    · subst hk
      rw [if_neg (by decide), if_neg (by decide), if_neg (by decide), if_neg (by decide)] at hK
      apply hz [61] 60
      refine And.intro (fun g => absurd g (by decide)) (fun _ => ?_)
      refine And.intro (fun g => absurd g (by decide)) (fun _ => ?_)
      refine And.intro (fun g => absurd g (by decide)) (fun _ => ?_)
      refine Exists.intro _ ⟨cX9_linkOf_ct hl0, s_n (M.1 22 0 0), nI x, wn, w0, hav, ?_⟩
      cases hl : s_lk (M.1 22 0 0) (nI x) (s_n (M.1 22 0 0)) with
      | none =>
        rw [hl] at hK
        exact And.intro (fun _ => no hK) (fun g => absurd lo g)
      | some m =>
        have hm := (s_lk_lt hl).1
        rw [hl] at hK
        refine And.intro (fun g => absurd g (nI_pos (by omega))) (fun _ => ?_)
        refine And.intro (fun g => absurd g q_n1) (fun _ => ?_)
        refine And.intro (fun g => absurd g (by decide)) (fun _ => ?_)
        refine And.intro (fun g => absurd g q_n1) (fun _ => ?_)
        refine And.intro (fun g => absurd g (by decide)) (fun _ => ?_)
        refine And.intro (fun g => absurd g q_n1) (fun _ => ?_)
        refine And.intro (fun g => absurd g (by decide)) (fun _ => ?_)
        refine And.intro (fun g => absurd g q_n1) (fun _ => ?_)
        refine And.intro (fun g => absurd g (by decide)) (fun _ => ?_)
        refine And.intro (fun g => absurd g q_n1) (fun _ => ?_)
        refine Exists.intro _ ⟨cX9_uses_ct hl0, nI x, nI y, m, w, hl, hav2, ?_⟩
        exact And.intro (Or.inr rfl) hK
abbrev pX9_plays : Q_P := fun av M K KX => ∃ (n : Nat) (tx : Nat → Nat) (Ps : List Q_P3) (B : Nat), TV M n tx ∧ s_wf (M.1 22 0 0) ∧ XV (M.1 22 0 0) B ∧ g_wh tx n (n + 1) 0 [] = (true, n, Ps) ∧ av = [.inr (.inl (21, 0, 0))] ∧ ∀ M', q_p2 M M' → M'.1 22 0 0 = (s_pl Ps (M.1 22 0 0)).2 → K (some (.inl (q_bi ((s_pl Ps (M.1 22 0 0)).1 = true)))) M'
theorem cX9_plays_ct {l : Launch} {b : Bool} (hl0 : l.stackTraces = false) : q_Ct l b 203 pX9_plays := by
  refine q_meth (by decide +kernel) hl0 TX9_plays kX9_plays ?_
  intro av M K KX hwf
  rintro ⟨n, tx, Ps, B, hT, w, v, hW, rfl, hK⟩
  refine ⟨Nat.le_of_ble_eq_true rfl, fun Z hz hw => ?_⟩
  obtain ⟨hn, h5, ht⟩ := id hT
  have last : ∀ (M1 : Q_M), q_p2 M M1 → M1.1 21 0 0 6 = nI (n + 1) → K (some (.inl (nI 1))) M1 → Z 0 7 [(1, .inl (nI 1)), (0, .inr (.inl (21, 0, 0)))] [] M1 := by
    intro M1 hp h6 hk
    have h51 : M1.1 21 0 0 5 = nI n := (hp.2.2 5 (by decide)).trans h5
    apply hz [7] 60
    refine And.intro (fun g => absurd g q_n1) (fun _ => ?_)
    refine And.intro (fun _ => ?_) (fun (g : ¬ M1.1 21 0 0 5 ≤ M1.1 21 0 0 6) => absurd (by rw [h6, h51]; exact nI_le (by omega) (by omega)) g)
    exact And.intro (Or.inr rfl) hk
  have none' : ∀ (M1 : Q_M), K (some (.inl (nI 0))) M1 → Z 0 7 [(1, .inl (nI 0)), (0, .inr (.inl (21, 0, 0)))] [] M1 := by
    intro M1 hk
    apply hz [7] 60
    refine And.intro (fun _ => ?_) (fun g => absurd nI_0 g)
    exact And.intro (Or.inl rfl) hk
  have loop : ∀ (f at0 : Nat) (L0 Ps : List Q_P3) (M1 : Q_M) (B : Nat), g_wh tx n f at0 L0 = (true, n, L0 ++ Ps) → at0 ≤ n → q_p2 M M1 → M1.1 21 0 0 6 = nI at0 → s_wf (M1.1 22 0 0) → XV (M1.1 22 0 0) B → (∀ M', q_p2 M M' → M'.1 22 0 0 = (s_pl Ps (M1.1 22 0 0)).2 → K (some (.inl (q_bi ((s_pl Ps (M1.1 22 0 0)).1 = true)))) M') → Z 0 7 [(1, .inl (nI 1)), (0, .inr (.inl (21, 0, 0)))] [] M1 := by
    intro f
    induction f with
    | zero =>
      intro at0 L0 Ps M1 B he
      cases he
    | succ f ih =>
      intro at0 L0 Ps M1 B he hat hp h6 w v hk
      have e : g_wh tx n (f + 1) at0 L0 = (match g_pt tx n at0 with
        | (none, a) => (false, a, L0)
        | (some p, a) => if a < n ∧ tx a = 59 then g_wh tx n f (a + 1) (L0 ++ [p]) else (true, a, L0 ++ [p])) := rfl
      rw [e] at he
      obtain ⟨-, hok⟩ := g_pt_rn (tx := tx) (n := n) (k0 := 0) (f0 := 0) (s0 := 0) (d0 := 0) (L := []) hat
      rcases hg : g_pt tx n at0 with ⟨_ | ⟨k, x, y⟩, a⟩
      · rw [hg] at he
        cases he
      · rw [hg] at he hok
        obtain ⟨hv, g1, g2, -⟩ := hok k x y rfl
        have g1 : at0 < a := g1
        have g2 : a ≤ n := g2
        have he : (if a < n ∧ tx a = 59 then g_wh tx n f (a + 1) (L0 ++ [(k, x, y)]) else (true, a, L0 ++ [(k, x, y)])) = (true, n, L0 ++ Ps) := he
        have h51 : M1.1 21 0 0 5 = nI n := (hp.2.2 5 (by decide)).trans h5
        apply hz [7] 60
        refine And.intro (fun g => absurd g q_n1) (fun _ => ?_)
        refine And.intro (fun (g : M1.1 21 0 0 5 ≤ M1.1 21 0 0 6) => absurd g (by rw [h6, h51, nI_leI (by omega) (by omega)]; omega)) (fun _ => ?_)
        refine Exists.intro _ ⟨cX9_part_ct hl0, n, tx, at0, TV_p2 hT hp, h6, by omega, rfl, fun k' x' y' b hb M2 hp2 h62 h72 h82 => ?_, fun b hb => absurd hb (by rw [hg]; simp)⟩
        rw [hg] at hb
        cases hb
        have e22 : M2.1 22 0 0 = M1.1 22 0 0 := by rw [hp2.1 22 (by decide)]
        have hp2' := q_p2_tr hp (q_p2_pf hp2)
        have hd := XV_do (k := k) (x := x) (y := y) w hv v
        refine Exists.intro _ ⟨cX9_does_ct hl0, k, x, y, by rw [e22]; exact w, hv, h72, h82, rfl, ?_⟩
        rw [e22]
        have hp3 : ∀ T : Nat → Int32, q_p2 M (q_si (q_sa M2 (22, 0, 0) T) (21, 0, 0) 6 (M2.1 21 0 0 6 + nI 1)) := fun T => q_p2_tr (q_p2_tr hp2' q_p2_sa) (q_p2_pf (q_pf_si (by decide)))
        have h63 : ∀ T : Nat → Int32, (q_si (q_sa M2 (22, 0, 0) T) (21, 0, 0) 6 (M2.1 21 0 0 6 + nI 1)).1 21 0 0 6 = nI (a + 1) := fun T => by rw [q_i_e, q_upd_eq, h62, nI_add]
        have h22 : ∀ T : Nat → Int32, (q_si (q_sa M2 (22, 0, 0) T) (21, 0, 0) 6 (M2.1 21 0 0 6 + nI 1)).1 22 0 0 = T := fun T => by rw [q_i_r (show 22 ≠ 21 by decide)]; rfl
        have epl : ∀ (R : List Q_P3) (T : Nat → Int32), s_pl ((k, x, y) :: R) T = if (s_do T k x y).1 = true then s_pl R (s_do T k x y).2 else (false, (s_do T k x y).2) := fun _ _ => rfl
        by_cases cd : (s_do (M1.1 22 0 0) k x y).1 = true
        · rw [q_bi_t cd]
          by_cases cc : a < n ∧ tx a = 59
          · rw [if_pos cc] at he
            obtain ⟨X, hX⟩ := g_wh_ext (tx := tx) (n := n) f (a + 1) (L0 ++ [(k, x, y)])
            rw [he] at hX
            have hX : L0 ++ Ps = L0 ++ [(k, x, y)] ++ X := hX
            rw [List.append_assoc] at hX
            have hPs : Ps = (k, x, y) :: X := List.append_cancel_left hX
            rw [hPs, epl, if_pos cd] at hk
            refine ih (a + 1) (L0 ++ [(k, x, y)]) X (q_si (q_sa M2 (22, 0, 0) (s_do (M1.1 22 0 0) k x y).2) (21, 0, 0) 6 (M2.1 21 0 0 6 + nI 1)) _ ?_ (by omega) (hp3 _) (h63 _) (by rw [h22]; exact hd.2.2) (by rw [h22]; exact hd.1) ?_
            · rw [he, hPs, List.append_assoc]
              rfl
            · rw [h22]
              exact hk
          · rw [if_neg cc] at he
            have ha : a = n := by
              have := congrArg (fun z => z.2.1) he
              exact this
            have hPs : Ps = [(k, x, y)] := by
              have := congrArg (fun z => z.2.2) he
              exact (List.append_cancel_left this).symm
            rw [hPs, epl, if_pos cd] at hk
            refine last _ (hp3 _) ((h63 _).trans (by rw [ha])) ?_
            exact hk _ (hp3 _) (h22 _)
        · rw [q_bi_f cd]
          have hX : ∃ X, Ps = (k, x, y) :: X := by
            by_cases cc : a < n ∧ tx a = 59
            · rw [if_pos cc] at he
              obtain ⟨X, hX⟩ := g_wh_ext (tx := tx) (n := n) f (a + 1) (L0 ++ [(k, x, y)])
              rw [he] at hX
              have hX : L0 ++ Ps = L0 ++ [(k, x, y)] ++ X := hX
              rw [List.append_assoc] at hX
              exact ⟨X, List.append_cancel_left hX⟩
            · rw [if_neg cc] at he
              have := congrArg (fun z => z.2.2) he
              exact ⟨[], (List.append_cancel_left this).symm⟩
          obtain ⟨X, hPs⟩ := hX
          rw [hPs, epl, if_neg cd] at hk
          exact none' _ (hk _ (hp3 _) (h22 _))
  apply hz [7] 60
  refine loop (n + 1) 0 [] Ps _ B hW (Nat.zero_le _) (q_p2_pf (q_pf_si (by decide))) ?_ w v hK
  rw [q_i_e, q_upd_eq]
  rfl
