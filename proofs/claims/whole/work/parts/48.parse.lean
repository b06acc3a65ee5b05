-- COURSES: THE CLASS READS SIGN BY SIGN, THE REFERENCE PART BY PART
/-- step, kind, first, second, digits -/
abbrev Q_D5 : Type := Nat × (Nat × (Nat × (Nat × Nat)))
abbrev Q_P3 : Type := Nat × (Nat × Nat)
def g_hs (k : Nat) : Bool := k == 97 || k == 117
def g_pm (q : Q_D5) : Bool := decide (q.1 ≠ 0) && (decide (0 < q.2.2.2.2) && (g_hs q.2.1 == decide (q.1 = 2)))
def g_gr (q : Q_D5) : Nat := if q.1 = 1 then (if q.2.1 = 116 then 100 else 19) else (if q.2.1 = 97 then 2 else 29)
def g_bf (q : Q_D5) : Nat := if q.1 = 1 then q.2.2.1 else q.2.2.2.1
def g_ac (q : Q_D5) (c : Nat) : Option (Q_D5 × List Q_P3) :=
  if q.1 = 0 then (if c = 97 ∨ c = 103 ∨ c = 108 ∨ c = 117 ∨ c = 116 then some ((1, c, 0, 0, 0), []) else none)
  else if 48 ≤ c ∧ c ≤ 57 then
    (if 0 < q.2.2.2.2 ∧ g_bf q = 0 then none
    else if 10 * g_bf q + (c - 48) < (if q.2.1 = 116 then 1 else 0) ∨ g_gr q < 10 * g_bf q + (c - 48) then none
    else some ((q.1, q.2.1, (if q.1 = 1 then 10 * g_bf q + (c - 48) else q.2.2.1), (if q.1 = 1 then q.2.2.2.1 else 10 * g_bf q + (c - 48)), q.2.2.2.2 + 1), []))
  else if c = 59 ∧ g_pm q = true then some ((0, q.2), [(q.2.1, q.2.2.1, q.2.2.2.1)])
  else if q.1 = 1 ∧ q.2.2.2.2 ≠ 0 ∧ g_hs q.2.1 = true ∧ c = (if q.2.1 = 97 then 33 else 58) then some ((2, q.2.1, q.2.2.1, q.2.2.2.1, 0), [])
  else none
def g_rn (tx : Nat → Nat) : Nat → Nat → Q_D5 → List Q_P3 → Nat × (Q_D5 × List Q_P3)
  | 0, at0, q, L => (at0, q, L)
  | f + 1, at0, q, L => match g_ac q (tx at0) with
    | none => (at0, q, L)
    | some (q', o) => g_rn tx f (at0 + 1) q' (L ++ o)
def g_nd (tx : Nat → Nat) (gr : Nat) : Nat → Nat → Nat → Nat × Nat
  | 0, v, at0 => (v, at0)
  | f + 1, v, at0 => if 0 < v ∧ (48 ≤ tx at0 ∧ tx at0 ≤ 57) ∧ 10 * v + tx at0 - 48 ≤ gr then g_nd tx gr f (10 * v + tx at0 - 48) (at0 + 1) else (v, at0)
/-- a number: its value where there is one, and the place behind -/
def g_nm (tx : Nat → Nat) (n lo gr at0 : Nat) : Option Nat × Nat := if at0 < n ∧ 48 + lo ≤ tx at0 ∧ tx at0 ≤ 57 then (some (g_nd tx gr (n - (at0 + 1)) (tx at0 - 48) (at0 + 1)).1, (g_nd tx gr (n - (at0 + 1)) (tx at0 - 48) (at0 + 1)).2) else (none, at0)
/-- a part, where there is one, and the place behind -/
def g_pt (tx : Nat → Nat) (n at0 : Nat) : Option Q_P3 × Nat :=
  if at0 < n ∧ tx at0 = 116 then ((g_nm tx n 1 100 (at0 + 1)).1.map (fun v => (116, v, 0)), (g_nm tx n 1 100 (at0 + 1)).2)
  else if at0 < n ∧ (tx at0 = 103 ∨ tx at0 = 108) then ((g_nm tx n 0 19 (at0 + 1)).1.map (fun v => (tx at0, v, 0)), (g_nm tx n 0 19 (at0 + 1)).2)
  else if at0 < n ∧ (tx at0 = 97 ∨ tx at0 = 117) then
    (match g_nm tx n 0 19 (at0 + 1) with
    | (none, a) => (none, a)
    | (some v, a) => if a < n ∧ tx a = (if tx at0 = 97 then 33 else 58) then
        (if tx at0 = 117 then ((g_nm tx n 0 29 (a + 1)).1.map (fun u => (117, v, u)), (g_nm tx n 0 29 (a + 1)).2)
        else if a + 1 < n ∧ 48 ≤ tx (a + 1) ∧ tx (a + 1) ≤ 50 then (some (97, v, tx (a + 1) - 48), a + 2) else (none, a + 1))
      else (none, a))
  else (none, at0)
theorem g_ac2 (k f s d c : Nat) : g_ac (2, k, f, s, d) c = if 48 ≤ c ∧ c ≤ 57 then (if 0 < d ∧ s = 0 then none else if 10 * s + (c - 48) < (if k = 116 then 1 else 0) ∨ (if k = 97 then 2 else 29) < 10 * s + (c - 48) then none else some ((2, k, f, 10 * s + (c - 48), d + 1), [])) else if c = 59 ∧ g_pm (2, k, f, s, d) = true then some ((0, k, f, s, d), [(k, f, s)]) else none := rfl
theorem g_nd_le {tx : Nat → Nat} {gr : Nat} : ∀ f v at0, at0 ≤ (g_nd tx gr f v at0).2 ∧ (g_nd tx gr f v at0).2 ≤ at0 + f
  | 0, v, at0 => ⟨Nat.le_refl _, Nat.le_refl _⟩
  | f + 1, v, at0 => by
    unfold g_nd
    split
    · have := g_nd_le (tx := tx) (gr := gr) f (10 * v + tx at0 - 48) (at0 + 1)
      omega
    · exact ⟨Nat.le_refl _, by omega⟩
theorem g_nd_gr {tx : Nat → Nat} {gr : Nat} : ∀ f v at0, v ≤ gr → (g_nd tx gr f v at0).1 ≤ gr
  | 0, v, at0, h => h
  | f + 1, v, at0, h => by
    unfold g_nd
    split
    · rename_i c
      exact g_nd_gr f _ _ c.2.2
    · exact h
theorem g_nd_pos {tx : Nat → Nat} {gr : Nat} : ∀ f v at0, 0 < v → 0 < (g_nd tx gr f v at0).1
  | 0, v, at0, h => h
  | f + 1, v, at0, h => by
    unfold g_nd
    split
    · rename_i c
      exact g_nd_pos f _ _ (by omega)
    · exact h
/-- the rest of a number: the sign reader takes the same digits, and stops at the same place -/
theorem g_nd_rn {tx : Nat → Nat} {n gr : Nat} (st k f0 s0 : Nat) (hst : st = 1 ∨ st = 2) (hgr : g_gr (st, k, f0, s0, 0) = gr) (L : List Q_P3) : ∀ (f v at0 d : Nat), at0 + f = n → 1 ≤ d → ∃ d', 1 ≤ d' ∧
    g_rn tx f at0 (st, k, (if st = 1 then v else f0), (if st = 1 then s0 else v), d) L = g_rn tx (n - (g_nd tx gr f v at0).2) (g_nd tx gr f v at0).2 (st, k, (if st = 1 then (g_nd tx gr f v at0).1 else f0), (if st = 1 then s0 else (g_nd tx gr f v at0).1), d') L ∧
    ((g_nd tx gr f v at0).2 < n → 48 ≤ tx (g_nd tx gr f v at0).2 → tx (g_nd tx gr f v at0).2 ≤ 57 → g_ac (st, k, (if st = 1 then (g_nd tx gr f v at0).1 else f0), (if st = 1 then s0 else (g_nd tx gr f v at0).1), d') (tx (g_nd tx gr f v at0).2) = none)
  | 0, v, at0, d, h, hd => by
    refine ⟨d, hd, ?_, fun g => absurd g (by show ¬ at0 < n; omega)⟩
    show g_rn tx 0 at0 _ L = g_rn tx (n - at0) at0 _ L
    rw [show n - at0 = 0 by omega]
    rfl
  | f + 1, v, at0, d, h, hd => by
    have hb : g_bf (st, k, (if st = 1 then v else f0), (if st = 1 then s0 else v), d) = v := by
      unfold g_bf
      show (if st = 1 then (if st = 1 then v else f0) else (if st = 1 then s0 else v)) = v
      by_cases c : st = 1
      · rw [if_pos c, if_pos c]
      · rw [if_neg c, if_neg c]
    have hg : g_gr (st, k, (if st = 1 then v else f0), (if st = 1 then s0 else v), d) = gr := by
      rw [← hgr]
      rfl
    have h0 : ¬ st = 0 := by omega
    have hac : ∀ c : Nat, 48 ≤ c → c ≤ 57 → g_ac (st, k, (if st = 1 then v else f0), (if st = 1 then s0 else v), d) c = if 0 < v ∧ 10 * v + c - 48 ≤ gr then some ((st, k, (if st = 1 then 10 * v + c - 48 else f0), (if st = 1 then s0 else 10 * v + c - 48), d + 1), []) else none := by
      intro c h1 h2
      unfold g_ac
      rw [hb, hg]
      rw [if_neg h0, if_pos ⟨h1, h2⟩]
      dsimp only
      by_cases cv : v = 0
      · rw [if_pos ⟨by omega, cv⟩, if_neg (show ¬ (0 < v ∧ 10 * v + c - 48 ≤ gr) by omega)]
      · rw [if_neg (fun g => cv g.2)]
        by_cases cg : gr < 10 * v + (c - 48)
        · rw [if_pos (Or.inr cg), if_neg (show ¬ (0 < v ∧ 10 * v + c - 48 ≤ gr) by omega)]
        · rw [if_neg (show ¬ (10 * v + (c - 48) < (if k = 116 then 1 else 0) ∨ gr < 10 * v + (c - 48)) by split <;> omega), if_pos (show 0 < v ∧ 10 * v + c - 48 ≤ gr by omega)]
          have e : 10 * v + (c - 48) = 10 * v + c - 48 := by omega
          rw [e]
          by_cases c1 : st = 1
          · simp only [if_pos c1]
          · simp only [if_neg c1]
    unfold g_nd
    by_cases c : 0 < v ∧ (48 ≤ tx at0 ∧ tx at0 ≤ 57) ∧ 10 * v + tx at0 - 48 ≤ gr
    · rw [if_pos c]
      obtain ⟨d', h1, h2, h3⟩ := g_nd_rn (tx := tx) (n := n) (gr := gr) st k f0 s0 hst hgr L f (10 * v + tx at0 - 48) (at0 + 1) (d + 1) (by omega) (by omega)
      refine ⟨d', h1, ?_, h3⟩
      rw [← h2]
      show (match g_ac _ (tx at0) with
        | none => (at0, _, L)
        | some (q', o) => g_rn tx f (at0 + 1) q' (L ++ o)) = _
      rw [hac (tx at0) c.2.1.1 c.2.1.2, if_pos ⟨c.1, c.2.2⟩]
      show g_rn tx f (at0 + 1) _ (L ++ []) = _
      rw [List.append_nil]
    · rw [if_neg c]
      refine ⟨d, hd, ?_, fun g1 g2 g3 => ?_⟩
      · show g_rn tx (f + 1) at0 _ L = g_rn tx (n - at0) at0 _ L
        rw [show n - at0 = f + 1 by omega]
      · show g_ac _ (tx at0) = none
        rw [hac (tx at0) g2 g3, if_neg (fun e => c ⟨e.1, ⟨g2, g3⟩, e.2⟩)]
/-- the reader stands still at a sign that it refuses -/
theorem g_rn_no {tx : Nat → Nat} {f at0 : Nat} {q : Q_D5} {L : List Q_P3} (h : 0 < f → g_ac q (tx at0) = none) : g_rn tx f at0 q L = (at0, q, L) := by
  cases f with
  | zero => rfl
  | succ f =>
    show (match g_ac q (tx at0) with
        | none => (at0, q, L)
        | some (q', o) => g_rn tx f (at0 + 1) q' (L ++ o)) = _
    rw [h (by omega)]
theorem g_rn_s {tx : Nat → Nat} {f at0 : Nat} {q q' : Q_D5} {L o : List Q_P3} (h : g_ac q (tx at0) = some (q', o)) : g_rn tx (f + 1) at0 q L = g_rn tx f (at0 + 1) q' (L ++ o) := by
  show (match g_ac q (tx at0) with
        | none => (at0, q, L)
        | some (q', o) => g_rn tx f (at0 + 1) q' (L ++ o)) = _
  rw [h]
/-- a number from its start: taken, or refused where it starts -/
theorem g_nm_rn {tx : Nat → Nat} {n lo gr : Nat} (st k f0 s0 : Nat) (hst : st = 1 ∨ st = 2) (hgr : g_gr (st, k, f0, s0, 0) = gr) (hlo : lo = if k = 116 then 1 else 0) (h9 : 9 ≤ gr) (hz : (if st = 1 then f0 else s0) = 0) (hm : st = 2 ∨ g_pm (st, k, f0, s0, 0) = false) (L : List Q_P3) (at0 : Nat) (ha : at0 ≤ n) :
    ((g_nm tx n lo gr at0).1 = none → (g_nm tx n lo gr at0).2 = at0 ∧ g_rn tx (n - at0) at0 (st, k, f0, s0, 0) L = (at0, (st, k, f0, s0, 0), L)) ∧
    (∀ v, (g_nm tx n lo gr at0).1 = some v → v ≤ gr ∧ lo ≤ v ∧ at0 < (g_nm tx n lo gr at0).2 ∧ (g_nm tx n lo gr at0).2 ≤ n ∧ ∃ d, 1 ≤ d ∧ g_rn tx (n - at0) at0 (st, k, f0, s0, 0) L = g_rn tx (n - (g_nm tx n lo gr at0).2) (g_nm tx n lo gr at0).2 (st, k, (if st = 1 then v else f0), (if st = 1 then s0 else v), d) L ∧
      ((g_nm tx n lo gr at0).2 < n → 48 ≤ tx (g_nm tx n lo gr at0).2 → tx (g_nm tx n lo gr at0).2 ≤ 57 → g_ac (st, k, (if st = 1 then v else f0), (if st = 1 then s0 else v), d) (tx (g_nm tx n lo gr at0).2) = none)) := by
  have hb : g_bf (st, k, f0, s0, 0) = 0 := hz
  have h0 : ¬ st = 0 := by omega
  have hdig : ∀ c : Nat, 48 ≤ c → c ≤ 57 → g_ac (st, k, f0, s0, 0) c = if c - 48 < lo then none else some ((st, k, (if st = 1 then c - 48 else f0), (if st = 1 then s0 else c - 48), 1), []) := by
    intro c h1 h2
    unfold g_ac
    rw [hb, hgr, ← hlo]
    rw [if_neg h0, if_pos ⟨h1, h2⟩]
    dsimp only
    rw [if_neg (by omega), Nat.mul_zero, Nat.zero_add]
    by_cases g : c - 48 < lo
    · rw [if_pos (Or.inl g), if_pos g]
    · rw [if_neg (by omega), if_neg g]
  have hno : ∀ c : Nat, ¬ (48 ≤ c ∧ c ≤ 57) → g_ac (st, k, f0, s0, 0) c = none := by
    intro c h1
    unfold g_ac
    rw [if_neg h0, if_neg h1]
    dsimp only
    have hpm : g_pm (st, k, f0, s0, 0) = false := by
      unfold g_pm
      simp
    rw [if_neg (fun g => by rw [hpm] at g; cases g.2), if_neg (fun g => g.2.1 rfl)]
  unfold g_nm
  by_cases c : at0 < n ∧ 48 + lo ≤ tx at0 ∧ tx at0 ≤ 57
  · rw [if_pos c]
    refine ⟨fun g => (by cases g), fun v hv => ?_⟩
    cases hv
    have hle := g_nd_le (tx := tx) (gr := gr) (n - (at0 + 1)) (tx at0 - 48) (at0 + 1)
    obtain ⟨d, h1, h2, h3⟩ := g_nd_rn (tx := tx) (n := n) (gr := gr) st k f0 s0 hst hgr L (n - (at0 + 1)) (tx at0 - 48) (at0 + 1) 1 (by omega) (Nat.le_refl _)
    refine ⟨g_nd_gr _ _ _ (by omega), ?_, by show at0 < (g_nd tx gr _ _ _).2; omega, by show (g_nd tx gr _ _ _).2 ≤ n; omega, d, h1, ?_, h3⟩
    · have l1 : lo ≤ 1 := by rw [hlo]; split <;> omega
      by_cases l0 : lo = 0
      · omega
      · have := g_nd_pos (tx := tx) (gr := gr) (n - (at0 + 1)) (tx at0 - 48) (at0 + 1) (by omega)
        show lo ≤ (g_nd tx gr _ _ _).1
        omega
    · rw [← h2, show n - at0 = (n - (at0 + 1)) + 1 by omega]
      have e := hdig (tx at0) (by omega) c.2.2
      rw [if_neg (by omega)] at e
      rw [g_rn_s e, List.append_nil]
  · rw [if_neg c]
    refine ⟨fun _ => ⟨rfl, ?_⟩, fun v hv => (by cases hv)⟩
    refine g_rn_no (fun hf => ?_)
    by_cases g : 48 ≤ tx at0 ∧ tx at0 ≤ 57
    · rw [hdig (tx at0) g.1 g.2, if_pos (by omega)]
    · exact hno _ g
/-- how the sign reader goes through a part -/
def g_ok (tx : Nat → Nat) (n at0 : Nat) (q0 : Q_D5) (L : List Q_P3) : Prop :=
  ((g_pt tx n at0).1 = none → (g_pt tx n at0).2 ≤ n ∧ ∃ q, g_rn tx (n - at0) at0 q0 L = ((g_pt tx n at0).2, q, L) ∧ g_pm q = false) ∧
  ∀ w f s, (g_pt tx n at0).1 = some (w, f, s) → s_vp w f s ∧ at0 < (g_pt tx n at0).2 ∧ (g_pt tx n at0).2 ≤ n ∧ ∃ st d, g_pm (st, w, f, s, d) = true ∧ g_rn tx (n - at0) at0 q0 L = g_rn tx (n - (g_pt tx n at0).2) (g_pt tx n at0).2 (st, w, f, s, d) L ∧ ((g_pt tx n at0).2 < n → g_ac (st, w, f, s, d) (tx (g_pt tx n at0).2) = if tx (g_pt tx n at0).2 = 59 then some ((0, w, f, s, d), [(w, f, s)]) else none)
theorem g_end {k f s d st : Nat} (hst : st = 1 ∨ st = 2) (hpm : g_pm (st, k, f, s, d) = true) {c : Nat} (hno : 48 ≤ c → c ≤ 57 → g_ac (st, k, f, s, d) c = none) : g_ac (st, k, f, s, d) c = if c = 59 then some ((0, k, f, s, d), [(k, f, s)]) else none := by
  by_cases g : 48 ≤ c ∧ c ≤ 57
  · rw [hno g.1 g.2, if_neg (by omega)]
  · unfold g_ac
    rw [if_neg (by show ¬ st = 0; omega), if_neg g]
    dsimp only
    by_cases c9 : c = 59
    · rw [if_pos ⟨c9, hpm⟩, if_pos c9]
    · rw [if_neg (fun h => c9 h.1), if_neg c9]
      refine if_neg (fun h => ?_)
      unfold g_pm at hpm
      obtain ⟨h1, h2, h3, h4⟩ := h
      rw [h1, h3] at hpm
      simp at hpm
theorem g_pt_rn {tx : Nat → Nat} {n : Nat} {k0 f0 s0 d0 : Nat} {L : List Q_P3} {at0 : Nat} (ha : at0 ≤ n) : g_ok tx n at0 (0, k0, f0, s0, d0) L := by
  have start : ∀ k, at0 < n → tx at0 = k → (k = 97 ∨ k = 103 ∨ k = 108 ∨ k = 117 ∨ k = 116) → g_rn tx (n - at0) at0 (0, k0, f0, s0, d0) L = g_rn tx (n - (at0 + 1)) (at0 + 1) (1, k, 0, 0, 0) L := by
    intro k h1 h2 h3
    rw [show n - at0 = (n - (at0 + 1)) + 1 by omega]
    have e : g_ac (0, k0, f0, s0, d0) (tx at0) = some ((1, k, 0, 0, 0), []) := by
      unfold g_ac
      rw [if_pos rfl, h2, if_pos h3]
    rw [g_rn_s e, List.append_nil]
  have pm0 : ∀ k, g_pm (1, k, 0, 0, 0) = false := fun k => by
    unfold g_pm
    simp
  unfold g_ok
  by_cases c : at0 < n ∧ (tx at0 = 97 ∨ tx at0 = 103 ∨ tx at0 = 108 ∨ tx at0 = 117 ∨ tx at0 = 116)
  · obtain ⟨c1, c2⟩ := c
    have hs := start (tx at0) c1 rfl c2
    rw [hs]
    -- kinds with one number
    have one : ∀ k lo gr, tx at0 = k → g_hs k = false → lo = (if k = 116 then 1 else 0) → gr = (if k = 116 then 100 else 19) → g_pt tx n at0 = ((g_nm tx n lo gr (at0 + 1)).1.map (fun v => (k, v, 0)), (g_nm tx n lo gr (at0 + 1)).2) → (∀ v, v ≤ gr → lo ≤ v → s_vp k v 0) → ((g_pt tx n at0).1 = none → (g_pt tx n at0).2 ≤ n ∧ ∃ q, g_rn tx (n - (at0 + 1)) (at0 + 1) (1, tx at0, 0, 0, 0) L = ((g_pt tx n at0).2, q, L) ∧ g_pm q = false) ∧
        ∀ w f s, (g_pt tx n at0).1 = some (w, f, s) → s_vp w f s ∧ at0 < (g_pt tx n at0).2 ∧ (g_pt tx n at0).2 ≤ n ∧ ∃ st d, g_pm (st, w, f, s, d) = true ∧ g_rn tx (n - (at0 + 1)) (at0 + 1) (1, tx at0, 0, 0, 0) L = g_rn tx (n - (g_pt tx n at0).2) (g_pt tx n at0).2 (st, w, f, s, d) L ∧ ((g_pt tx n at0).2 < n → g_ac (st, w, f, s, d) (tx (g_pt tx n at0).2) = if tx (g_pt tx n at0).2 = 59 then some ((0, w, f, s, d), [(w, f, s)]) else none) := by
      intro k lo gr hk hhs hlo hgr hpt hvp
      obtain ⟨h1, h2⟩ := g_nm_rn (tx := tx) (n := n) (lo := lo) (gr := gr) 1 k 0 0 (Or.inl rfl) (by unfold g_gr; rw [if_pos rfl]; exact hgr.symm) hlo (by rw [hgr]; split <;> omega) rfl (Or.inr (pm0 k)) L (at0 + 1) (by omega)
      rw [hpt, hk]
      cases hn : (g_nm tx n lo gr (at0 + 1)).1 with
      | none =>
        obtain ⟨g1, g2⟩ := h1 hn
        refine ⟨fun _ => ⟨by show (g_nm tx n lo gr (at0 + 1)).2 ≤ n; rw [g1]; omega, (1, k, 0, 0, 0), ?_, pm0 k⟩, fun w f s h => (by cases h)⟩
        show _ = ((g_nm tx n lo gr (at0 + 1)).2, _, L)
        rw [g1]
        exact g2
      | some v =>
        obtain ⟨v1, v2, v3, v4, d, v5, v6, v7⟩ := h2 v hn
        refine ⟨fun h => (by cases h), fun w f s h => ?_⟩
        have h : (k, v, 0) = (w, f, s) := Option.some.inj h
        cases h
        have hpm : g_pm (1, k, v, 0, d) = true := by
          unfold g_pm
          rw [hhs]
          simp
          omega
        refine ⟨hvp v v1 v2, by show at0 < (g_nm tx n lo gr (at0 + 1)).2; omega, v4, 1, d, hpm, v6, fun hl => ?_⟩
        exact g_end (Or.inl rfl) hpm (fun a b => v7 hl a b)
    by_cases k1 : tx at0 = 116
    · refine one 116 1 100 k1 rfl rfl rfl ?_ (fun v h1 h2 => Or.inl ⟨rfl, h1⟩)
      unfold g_pt
      rw [if_pos ⟨c1, k1⟩]
    · by_cases k2 : tx at0 = 103 ∨ tx at0 = 108
      · refine one (tx at0) 0 19 rfl ?_ (by rw [if_neg k1]) (by rw [if_neg k1]) ?_ (fun v h1 h2 => Or.inr ⟨by omega, by omega, by omega⟩)
        · rcases k2 with e | e <;> rw [e] <;> rfl
        · unfold g_pt
          rw [if_neg (fun g => k1 g.2), if_pos ⟨c1, k2⟩]
      · have k3 : tx at0 = 97 ∨ tx at0 = 117 := by omega
        have hhs : g_hs (tx at0) = true := by rcases k3 with e | e <;> rw [e] <;> rfl
        have hpt : g_pt tx n at0 = (match g_nm tx n 0 19 (at0 + 1) with
            | (none, a) => (none, a)
            | (some v, a) => if a < n ∧ tx a = (if tx at0 = 97 then 33 else 58) then
                (if tx at0 = 117 then ((g_nm tx n 0 29 (a + 1)).1.map (fun u => (117, v, u)), (g_nm tx n 0 29 (a + 1)).2)
                else if a + 1 < n ∧ 48 ≤ tx (a + 1) ∧ tx (a + 1) ≤ 50 then (some (97, v, tx (a + 1) - 48), a + 2) else (none, a + 1))
              else (none, a)) := by
          unfold g_pt
          rw [if_neg (fun g => k1 g.2), if_neg (fun g => k2 g.2), if_pos ⟨c1, k3⟩]
        obtain ⟨h1, h2⟩ := g_nm_rn (tx := tx) (n := n) (lo := 0) (gr := 19) 1 (tx at0) 0 0 (Or.inl rfl) (by unfold g_gr; rw [if_pos rfl]; exact if_neg k1) (by rw [if_neg k1]) (by omega) rfl (Or.inr (pm0 _)) L (at0 + 1) (by omega)
        rcases hn : g_nm tx n 0 19 (at0 + 1) with ⟨_ | v, a⟩
        · have hp' : g_pt tx n at0 = (none, a) := by rw [hpt, hn]
          rw [hp']
          rw [hn] at h1
          obtain ⟨g1, g2⟩ := h1 rfl
          have g1 : a = at0 + 1 := g1
          refine ⟨fun _ => ⟨by show a ≤ n; omega, (1, tx at0, 0, 0, 0), ?_, pm0 _⟩, fun w f s h => (by cases h)⟩
          rw [g2, g1]
        · rw [hn] at h2
          obtain ⟨v1, v2, v3, v4, d, v5, v6, v7⟩ := h2 v rfl
          have v3 : at0 + 1 < a := v3
          have v4 : a ≤ n := v4
          have v6 : g_rn tx (n - (at0 + 1)) (at0 + 1) (1, tx at0, 0, 0, 0) L = g_rn tx (n - a) a (1, tx at0, v, 0, d) L := v6
          have v7 : a < n → 48 ≤ tx a → tx a ≤ 57 → g_ac (1, tx at0, v, 0, d) (tx a) = none := v7
          rw [v6]
          have pm1 : g_pm (1, tx at0, v, 0, d) = false := by
            unfold g_pm
            rw [hhs]
            simp
          have mk : ∀ c : Nat, ¬ (48 ≤ c ∧ c ≤ 57) → g_ac (1, tx at0, v, 0, d) c = if c = (if tx at0 = 97 then 33 else 58) then some ((2, tx at0, v, 0, 0), []) else none := by
            intro c hc
            unfold g_ac
            rw [if_neg (by show ¬ 1 = 0; omega), if_neg hc]
            dsimp only
            rw [if_neg (fun g => by rw [pm1] at g; cases g.2)]
            by_cases g : c = (if tx at0 = 97 then 33 else 58)
            · rw [if_pos ⟨rfl, by omega, hhs, g⟩, if_pos g]
            · rw [if_neg (fun h => g h.2.2.2), if_neg g]
          have nd : ¬ (48 ≤ (if tx at0 = 97 then 33 else 58) ∧ (if tx at0 = 97 then 33 else 58) ≤ 57) := by split <;> omega
          by_cases cm : a < n ∧ tx a = (if tx at0 = 97 then 33 else 58)
          · have em := mk (tx a) (by rw [cm.2]; exact nd)
            rw [if_pos cm.2] at em
            have e2 : g_rn tx (n - a) a (1, tx at0, v, 0, d) L = g_rn tx (n - (a + 1)) (a + 1) (2, tx at0, v, 0, 0) L := by
              rw [show n - a = (n - (a + 1)) + 1 by omega, g_rn_s em, List.append_nil]
            rw [e2]
            have pm2 : g_pm (2, tx at0, v, 0, 0) = false := by
              unfold g_pm
              simp
            by_cases ku : tx at0 = 117
            · have hp' : g_pt tx n at0 = ((g_nm tx n 0 29 (a + 1)).1.map (fun u => (117, v, u)), (g_nm tx n 0 29 (a + 1)).2) := by
                rw [hpt, hn]
                dsimp only
                rw [if_pos cm, if_pos ku]
              rw [hp']
              obtain ⟨f1, f2⟩ := g_nm_rn (tx := tx) (n := n) (lo := 0) (gr := 29) 2 (tx at0) v 0 (Or.inr rfl) (show (if tx at0 = 97 then 2 else 29) = 29 from if_neg (by rw [ku]; decide)) (by rw [if_neg k1]) (by omega) rfl (Or.inl rfl) L (a + 1) (by omega)
              cases hn2 : (g_nm tx n 0 29 (a + 1)).1 with
              | none =>
                obtain ⟨g1, g2⟩ := f1 hn2
                refine ⟨fun _ => ⟨by show (g_nm tx n 0 29 (a + 1)).2 ≤ n; omega, (2, tx at0, v, 0, 0), ?_, pm2⟩, fun w f s h => (by cases h)⟩
                show _ = ((g_nm tx n 0 29 (a + 1)).2, _, L)
                rw [g1]
                exact g2
              | some u =>
                obtain ⟨u1, u2, u3, u4, d2, u5, u6, u7⟩ := f2 u hn2
                refine ⟨fun h => (by cases h), fun w f s h => ?_⟩
                have h : (117, v, u) = (w, f, s) := Option.some.inj h
                cases h
                rw [ku] at u6 u7 ⊢
                have hpm : g_pm (2, 117, v, u, d2) = true := by
                  unfold g_pm
                  simp [g_hs]
                  omega
                refine ⟨Or.inr ⟨by omega, by omega, by omega⟩, by show at0 < (g_nm tx n 0 29 (a + 1)).2; omega, u4, 2, d2, hpm, u6, fun hl => ?_⟩
                exact g_end (Or.inr rfl) hpm (fun x y => u7 hl x y)
            · have ka : tx at0 = 97 := by omega
              rw [ka]
              have dg : ∀ c : Nat, 48 ≤ c → c ≤ 57 → g_ac (2, 97, v, 0, 0) c = if c ≤ 50 then some ((2, 97, v, c - 48, 1), []) else none := by
                intro c q1 q2
                rw [g_ac2, if_pos ⟨q1, q2⟩, if_neg (show ¬ (0 < 0 ∧ (0 : Nat) = 0) by omega)]
                by_cases q3 : c ≤ 50
                · rw [if_neg (show ¬ (10 * 0 + (c - 48) < (if 97 = 116 then 1 else 0) ∨ (if 97 = 97 then 2 else 29) < 10 * 0 + (c - 48)) by rw [if_neg (by decide), if_pos rfl]; omega), if_pos q3, Nat.mul_zero, Nat.zero_add, Nat.zero_add]
                · rw [if_pos (show 10 * 0 + (c - 48) < (if 97 = 116 then 1 else 0) ∨ (if 97 = 97 then 2 else 29) < 10 * 0 + (c - 48) by rw [if_neg (by decide), if_pos rfl]; omega), if_neg q3]
              have ndg : ∀ c : Nat, ¬ (48 ≤ c ∧ c ≤ 57) → g_ac (2, 97, v, 0, 0) c = none := by
                intro c q1
                rw [ka] at pm2
                rw [g_ac2, if_neg q1, if_neg (fun g => by rw [pm2] at g; cases g.2)]
              by_cases cd : a + 1 < n ∧ 48 ≤ tx (a + 1) ∧ tx (a + 1) ≤ 50
              · have hp' : g_pt tx n at0 = (some (97, v, tx (a + 1) - 48), a + 2) := by
                  rw [hpt, hn]
                  dsimp only
                  rw [if_pos cm, if_neg ku, if_pos cd]
                rw [hp']
                refine ⟨fun h => (by cases h), fun w f s h => ?_⟩
                have h : (97, v, tx (a + 1) - 48) = (w, f, s) := Option.some.inj h
                cases h
                have hpm : g_pm (2, 97, v, tx (a + 1) - 48, 1) = true := by
                  unfold g_pm
                  simp [g_hs]
                have ed := dg (tx (a + 1)) cd.2.1 (by omega)
                rw [if_pos cd.2.2] at ed
                refine ⟨Or.inr ⟨by omega, by omega, by omega⟩, by show at0 < a + 2; omega, by show a + 2 ≤ n; omega, 2, 1, hpm, ?_, fun hl => ?_⟩
                · show g_rn tx (n - (a + 1)) (a + 1) _ L = g_rn tx (n - (a + 2)) (a + 2) _ L
                  rw [show n - (a + 1) = (n - (a + 2)) + 1 by omega, g_rn_s ed, List.append_nil]
                · refine g_end (Or.inr rfl) hpm (fun x y => ?_)
                  rw [g_ac2, if_pos ⟨x, y⟩]
                  by_cases z : tx (a + 1) - 48 = 0
                  · rw [if_pos ⟨by decide, z⟩]
                  · rw [if_neg (fun g => z g.2), if_pos (Or.inr (by rw [if_pos rfl]; omega))]
              · have hp' : g_pt tx n at0 = (none, a + 1) := by
                  rw [hpt, hn]
                  dsimp only
                  rw [if_pos cm, if_neg ku, if_neg cd]
                rw [hp']
                rw [ka] at pm2
                refine ⟨fun _ => ⟨by show a + 1 ≤ n; omega, (2, 97, v, 0, 0), ?_, pm2⟩, fun w f s h => (by cases h)⟩
                refine g_rn_no (fun hf => ?_)
                by_cases q : 48 ≤ tx (a + 1) ∧ tx (a + 1) ≤ 57
                · rw [dg _ q.1 q.2, if_neg (by omega)]
                · exact ndg _ q
          · have hp' : g_pt tx n at0 = (none, a) := by
              rw [hpt, hn]
              dsimp only
              rw [if_neg cm]
            rw [hp']
            refine ⟨fun _ => ⟨v4, (1, tx at0, v, 0, d), ?_, pm1⟩, fun w f s h => (by cases h)⟩
            refine g_rn_no (fun hf => ?_)
            by_cases q : 48 ≤ tx a ∧ tx a ≤ 57
            · exact v7 (by omega) q.1 q.2
            · rw [mk _ q, if_neg (fun e => cm ⟨by omega, e⟩)]
  · have hpt : g_pt tx n at0 = (none, at0) := by
      unfold g_pt
      rw [if_neg (by omega), if_neg (by omega), if_neg (by omega)]
    rw [hpt]
    refine ⟨fun _ => ⟨ha, (0, k0, f0, s0, d0), ?_, by unfold g_pm; simp⟩, fun w f s h => (by cases h)⟩
    refine g_rn_no (fun hf => ?_)
    unfold g_ac
    rw [if_pos rfl, if_neg (by omega)]
/-- the whole, part by part: is it one, where it ends, its parts -/
def g_wh (tx : Nat → Nat) (n : Nat) : Nat → Nat → List Q_P3 → Bool × (Nat × List Q_P3)
  | 0, at0, L => (false, at0, L)
  | f + 1, at0, L => match g_pt tx n at0 with
    | (none, a) => (false, a, L)
    | (some p, a) => if a < n ∧ tx a = 59 then g_wh tx n f (a + 1) (L ++ [p]) else (true, a, L ++ [p])
theorem g_wh_rn {tx : Nat → Nat} {n : Nat} : ∀ (f at0 k0 f0 s0 d0 : Nat) (L : List Q_P3), at0 ≤ n → n < at0 + f →
    (g_wh tx n f at0 L).2.1 ≤ n ∧ ∃ q L', g_rn tx (n - at0) at0 (0, k0, f0, s0, d0) L = ((g_wh tx n f at0 L).2.1, q, L') ∧ ((g_wh tx n f at0 L).1 = true → g_pm q = true ∧ (g_wh tx n f at0 L).2.2 = L' ++ [(q.2.1, q.2.2.1, q.2.2.2.1)]) ∧ ((g_wh tx n f at0 L).1 = false → g_pm q = false)
  | 0, at0, _, _, _, _, L, h, hf => absurd hf (by omega)
  | f + 1, at0, k0, f0, s0, d0, L, h, hf => by
    obtain ⟨h1, h2⟩ := g_pt_rn (tx := tx) (n := n) (k0 := k0) (f0 := f0) (s0 := s0) (d0 := d0) (L := L) h
    have e : g_wh tx n (f + 1) at0 L = (match g_pt tx n at0 with
      | (none, a) => (false, a, L)
      | (some p, a) => if a < n ∧ tx a = 59 then g_wh tx n f (a + 1) (L ++ [p]) else (true, a, L ++ [p])) := rfl
    rw [e]
    rcases hp : g_pt tx n at0 with ⟨_ | ⟨w, v, s⟩, a⟩
    · rw [hp] at h1
      obtain ⟨g1, q, g2, g3⟩ := h1 rfl
      exact ⟨g1, q, L, g2, fun g => (by cases g), fun _ => g3⟩
    · rw [hp] at h2
      obtain ⟨-, g1, g2, st, d, g3, g4, g5⟩ := h2 w v s rfl
      have g1 : at0 < a := g1
      have g2 : a ≤ n := g2
      have g4 : g_rn tx (n - at0) at0 (0, k0, f0, s0, d0) L = g_rn tx (n - a) a (st, w, v, s, d) L := g4
      have g5 : a < n → g_ac (st, w, v, s, d) (tx a) = if tx a = 59 then some ((0, w, v, s, d), [(w, v, s)]) else none := g5
      dsimp only
      rw [g4]
      by_cases c : a < n ∧ tx a = 59
      · rw [if_pos c]
        have e5 := g5 c.1
        rw [if_pos c.2] at e5
        rw [show n - a = (n - (a + 1)) + 1 by omega, g_rn_s e5]
        exact g_wh_rn f (a + 1) w v s d (L ++ [(w, v, s)]) (by omega) (by omega)
      · rw [if_neg c]
        refine ⟨g2, (st, w, v, s, d), L, ?_, fun _ => ⟨g3, rfl⟩, fun g => (by cases g)⟩
        refine g_rn_no (fun hf => ?_)
        rw [g5 (by omega), if_neg (fun g => c ⟨by omega, g⟩)]
