-- THE REFERENCE'S PARTS
/-- within a part: second is blank, the place known -/
def q_pp (M M' : Q_M) (a : Nat) : Prop := q_pf M M' ∧ M'.1 21 0 0 6 = nI a ∧ M'.1 21 0 0 8 = nI 0
theorem q_pp_tr {M M1 M2 : Q_M} {a b : Nat} (h : q_pp M M1 a) (h2 : q_pa M1 M2 b) : q_pp M M2 b := ⟨q_pf_tr h.1 h2.1, h2.2.1, h2.2.2.2.trans h.2.2⟩
theorem g_pt_t {tx : Nat → Nat} {n a : Nat} (h : a < n) (e : tx a = 116) : g_pt tx n a = ((g_nm tx n 1 100 (a + 1)).1.map (fun v => (116, v, 0)), (g_nm tx n 1 100 (a + 1)).2) := by
  unfold g_pt
  rw [if_pos ⟨h, e⟩]
theorem g_pt_gl {tx : Nat → Nat} {n a : Nat} (h : a < n) (e : tx a = 103 ∨ tx a = 108) : g_pt tx n a = ((g_nm tx n 0 19 (a + 1)).1.map (fun v => (tx a, v, 0)), (g_nm tx n 0 19 (a + 1)).2) := by
  unfold g_pt
  rw [if_neg (by omega), if_pos ⟨h, e⟩]
theorem g_pt_au {tx : Nat → Nat} {n a0 : Nat} (h : a0 < n) (e : tx a0 = 97 ∨ tx a0 = 117) : g_pt tx n a0 = (match g_nm tx n 0 19 (a0 + 1) with
    | (none, a) => (none, a)
    | (some v, a) => if a < n ∧ tx a = (if tx a0 = 97 then 33 else 58) then
        (if tx a0 = 117 then ((g_nm tx n 0 29 (a + 1)).1.map (fun u => (117, v, u)), (g_nm tx n 0 29 (a + 1)).2)
        else if a + 1 < n ∧ 48 ≤ tx (a + 1) ∧ tx (a + 1) ≤ 50 then (some (97, v, tx (a + 1) - 48), a + 2) else (none, a + 1))
      else (none, a)) := by
  conv => lhs; unfold g_pt
  rw [if_neg (by omega), if_neg (by omega), if_pos ⟨h, e⟩]
  rfl
theorem g_pt_no {tx : Nat → Nat} {n a : Nat} (h : ¬ (a < n ∧ (tx a = 116 ∨ tx a = 103 ∨ tx a = 108 ∨ tx a = 97 ∨ tx a = 117))) : g_pt tx n a = (none, a) := by
  unfold g_pt
  rw [if_neg (by omega), if_neg (by omega), if_neg (by omega)]
abbrev pX9_part : Q_P := fun av M K KX => ∃ (n : Nat) (tx : Nat → Nat) (a : Nat), TV M n tx ∧ M.1 21 0 0 6 = nI a ∧ a ≤ 100 ∧ av = [.inr (.inl (21, 0, 0))] ∧ (∀ w f s b, g_pt tx n a = (some (w, f, s), b) → ∀ M', q_pf M M' → M'.1 21 0 0 6 = nI b → M'.1 21 0 0 7 = nI f → M'.1 21 0 0 8 = nI s → K (some (.inl (nI w))) M') ∧ (∀ b, g_pt tx n a = (none, b) → ∀ M', q_pf M M' → M'.1 21 0 0 6 = nI b → K (some (.inl (nI 32))) M')
theorem cX9_part_ct {l : Launch} {b : Bool} (hl0 : l.stackTraces = false) : q_Ct l b 199 pX9_part := by
  refine q_meth (by decide +kernel) hl0 TX9_part kX9_part ?_
  intro av M K KX hwf
  rintro ⟨n, tx, a, hT, h6, ha, rfl, hY, hN⟩
  refine ⟨Nat.le_of_ble_eq_true rfl, fun Z hz hw => ?_⟩
  obtain ⟨hn, h5, ht⟩ := id hT
  have w32 : ∃ j : Nat, nI 32 = nI j ∧ j < 65536 := ⟨32, rfl, by decide⟩
  have one : ∀ (lo gr : Nat) (w : Nat) (M1 : Q_M), 9 ≤ gr → gr ≤ 100 → g_pt tx n a = ((g_nm tx n lo gr (a + 1)).1.map (fun v => (w, v, 0)), (g_nm tx n lo gr (a + 1)).2) → q_pp M M1 (g_nm tx n lo gr (a + 1)).2 → (s_oi (g_nm tx n lo gr (a + 1)).1 < nI 0 → K (some (.inl (nI 32))) (q_si M1 (21, 0, 0) 7 (s_oi (g_nm tx n lo gr (a + 1)).1))) ∧ (¬ s_oi (g_nm tx n lo gr (a + 1)).1 < nI 0 → K (some (.inl (nI w))) (q_si M1 (21, 0, 0) 7 (s_oi (g_nm tx n lo gr (a + 1)).1))) := by
    intro lo gr w M1 hg9 hgr he hp
    have h6' : ∀ x : Int32, (q_si M1 (21, 0, 0) 7 x).1 21 0 0 6 = nI (g_nm tx n lo gr (a + 1)).2 := fun x => by rw [q_i_e, q_upd_ne (by decide)]; exact hp.2.1
    have h8' : ∀ x : Int32, (q_si M1 (21, 0, 0) 7 x).1 21 0 0 8 = nI 0 := fun x => by rw [q_i_e, q_upd_ne (by decide)]; exact hp.2.2
    have h7' : ∀ x : Int32, (q_si M1 (21, 0, 0) 7 x).1 21 0 0 7 = x := fun x => by rw [q_i_e, q_upd_eq]
    have hpf : ∀ x : Int32, q_pf M (q_si M1 (21, 0, 0) 7 x) := fun x => q_pf_tr hp.1 (q_pf_si (by decide))
    cases hg : (g_nm tx n lo gr (a + 1)).1 with
    | none =>
      rw [hg] at he
      exact ⟨fun _ => hN _ he _ (hpf _) (h6' _), fun g => absurd (show s_oi none < nI 0 by decide) g⟩
    | some v =>
      rw [hg] at he
      have hv := g_nm_gr hg9 hg
      exact ⟨fun g => absurd g (nI_pos (by omega)), fun _ => hY w v 0 _ he _ (hpf _) (h6' _) (h7' _) (h8' _)⟩
  have hwt : ∃ wt : Nat, wt = (if a < n then tx a else 32) := ⟨_, rfl⟩
  obtain ⟨wt, hwt⟩ := hwt
  have hwb : wt ≤ 126 := by
    rw [hwt]
    split
    · rename_i c
      exact (ht a c).2.2
    · decide
  have wok : ∃ j : Nat, nI wt = nI j ∧ j < 65536 := ⟨wt, rfl, by omega⟩
  have wta : a < n → wt = tx a := fun h => by rw [hwt, if_pos h]
  have bad : ∀ (x : Int32) (M4 : Q_M) (b : Nat), q_pf M M4 → M4.1 21 0 0 6 = nI b → g_pt tx n a = (none, b) → Z 0 199 [(2, .inl x), (1, .inl (nI wt)), (0, .inr (.inl (21, 0, 0)))] [.inl (nI 0)] M4 := by
    intro x M4 b hp hb he
    apply hz [] 100
    refine And.intro (fun _ => ?_) (fun g => absurd nI_0 g)
    refine And.intro (fun _ => ?_) (fun g => absurd nI_0 g)
    have key : ∀ y : Int32, y = -1 → q_pf M (q_si (q_si M4 (21, 0, 0) 8 y) (21, 0, 0) 6 ((q_si M4 (21, 0, 0) 8 y).1 21 0 0 6 + nI 0)) ∧ (q_si (q_si M4 (21, 0, 0) 8 y) (21, 0, 0) 6 ((q_si M4 (21, 0, 0) 8 y).1 21 0 0 6 + nI 0)).1 21 0 0 6 = nI b ∧ (q_si (q_si M4 (21, 0, 0) 8 y) (21, 0, 0) 6 ((q_si M4 (21, 0, 0) 8 y).1 21 0 0 6 + nI 0)).1 21 0 0 8 < nI 0 := by
      intro y hy
      refine ⟨q_pf_tr (q_pf_tr hp (q_pf_si (by decide))) (q_pf_si (by decide)), ?_, ?_⟩
      · rw [q_i_e, q_upd_eq, q_i_e, q_upd_ne (by decide), hb, nI_add, Nat.add_zero]
      · rw [q_i_e, q_upd_ne (by decide), q_i_e, q_upd_eq, hy]
        decide
    obtain ⟨k1, k2, k3⟩ := key (q_i (-1)) q_im1
    exact And.intro (fun _ => And.intro w32 (hN b he _ k1 k2)) (fun g => absurd k3 g)
  have s129 : ∀ M1 : Q_M, q_pp M M1 (a + 1) → a < n → (tx a = 97 ∨ tx a = 117) → Z 0 129 [(1, .inl (nI wt)), (0, .inr (.inl (21, 0, 0)))] [] M1 := by
    intro M1 hp hlt hk
    have hT1 := TV_pf hT hp.1
    have ew := wta hlt
    have ept := g_pt_au hlt hk
    apply hz [161, 199] 100
    refine Exists.intro _ ⟨cX9_number_ct hl0, n, tx, a + 1, 0, 19, hT1, hp.2.1, by omega, by omega, by omega, by omega, rfl, fun M2 hp2 => ?_⟩
    have hp2 := q_pp_tr hp hp2
    have hle := g_nm_le (tx := tx) (lo := 0) (gr := 19) (show a + 1 ≤ n by omega)
    rcases hg : g_nm tx n 0 19 (a + 1) with ⟨_ | v, a2⟩
    · rw [hg] at ept hp2
      refine And.intro (fun _ => ?_) (fun (g : ¬ (q_si M2 (21, 0, 0) 7 (s_oi none)).1 21 0 0 7 < nI 0) => absurd (by rw [q_i_e, q_upd_eq]; decide) g)
      refine And.intro (fun _ => ?_) (fun g => absurd nI_0 g)
      refine bad _ _ a2 (q_pf_tr hp2.1 (q_pf_si (by decide))) ?_ ept
      rw [q_i_e, q_upd_ne (by decide)]
      exact hp2.2.1
    · have hv : v ≤ 19 := g_nm_gr (tx := tx) (n := n) (lo := 0) (gr := 19) (a := a + 1) (by omega) (by rw [hg])
      rw [hg] at ept hp2 hle
      have hle : a + 1 ≤ a2 ∧ a2 ≤ n := hle
      have hp3 : q_pf M (q_si M2 (21, 0, 0) 7 (nI v)) := q_pf_tr hp2.1 (q_pf_si (by decide))
      have h63 : (q_si M2 (21, 0, 0) 7 (nI v)).1 21 0 0 6 = nI a2 := by rw [q_i_e, q_upd_ne (by decide)]; exact hp2.2.1
      have h73 : (q_si M2 (21, 0, 0) 7 (nI v)).1 21 0 0 7 = nI v := by rw [q_i_e, q_upd_eq]
      refine And.intro (fun (g : (q_si M2 (21, 0, 0) 7 (nI v)).1 21 0 0 7 < nI 0) => absurd g (by rw [h73]; exact nI_pos (by omega))) (fun _ => ?_)
      have ept : g_pt tx n a = (if a2 < n ∧ tx a2 = (if tx a = 97 then 33 else 58) then
          (if tx a = 117 then ((g_nm tx n 0 29 (a2 + 1)).1.map (fun u => (117, v, u)), (g_nm tx n 0 29 (a2 + 1)).2)
          else if a2 + 1 < n ∧ 48 ≤ tx (a2 + 1) ∧ tx (a2 + 1) ≤ 50 then (some (97, v, tx (a2 + 1) - 48), a2 + 2) else (none, a2 + 1))
        else (none, a2)) := ept
      have tail : ∀ M3 : Q_M, q_pf M M3 → M3.1 21 0 0 6 = nI a2 → M3.1 21 0 0 7 = nI v → ∀ c : Nat, c = (if tx a = 97 then 33 else 58) → Z 0 161 [(1, .inl (nI wt)), (0, .inr (.inl (21, 0, 0)))] [.inl (nI c), .inr (.inl (21, 0, 0))] M3 := by
        intro M3 hp3 h63 h73
        have hT3 := TV_pf hT hp3
        -- behind the second sign
        have low : ∀ M4 : Q_M, q_pa M3 M4 (a2 + 1) → a2 < n → tx a2 = (if tx a = 97 then 33 else 58) → (tx a = 117 ∨ (a2 + 1 < n ∧ 48 ≤ tx (a2 + 1) ∧ tx (a2 + 1) ≤ 50)) → Z 0 199 [(2, .inl (nI 1)), (1, .inl (nI wt)), (0, .inr (.inl (21, 0, 0)))] [.inl (nI 1)] M4 := by
          intro M4 hp4 hlt2 hs2 hor
          rw [if_pos ⟨hlt2, hs2⟩] at ept
          have hpf4 := q_pf_tr hp3 hp4.1
          have hT4 := TV_pf hT hpf4
          have h74 : M4.1 21 0 0 7 = nI v := hp4.2.2.1.trans h73
          apply hz [] 100
          refine And.intro (fun g => absurd g q_n1) (fun _ => ?_)
          refine And.intro (fun (g : nI wt = nI 97) => ?_) (fun (g : ¬ nI wt = nI 97) => ?_)
          · rw [nI_eq (by omega) (by omega)] at g
            rw [if_neg (by omega), if_pos (by omega)] at ept
            refine Exists.intro (a2 + 1) ⟨hp4.2.1, by omega, ?_⟩
            refine And.intro (fun g => absurd g q_n1) (fun _ => ?_)
            refine And.intro (fun _ => ?_) (fun g2 => absurd (by rw [g]; rfl) g2)
            have e24 : M4.1 24 0 0 (a2 + 1) - nI 48 = nI (tx (a2 + 1) - 48) := by rw [(hT4.2.2 (a2 + 1) (by omega)).1, pk_sub (by omega)]
            have key : ∀ y : Int32, y = nI (tx (a2 + 1) - 48) → q_pf M (q_si (q_si M4 (21, 0, 0) 8 y) (21, 0, 0) 6 ((q_si M4 (21, 0, 0) 8 y).1 21 0 0 6 + nI 1)) ∧ (q_si (q_si M4 (21, 0, 0) 8 y) (21, 0, 0) 6 ((q_si M4 (21, 0, 0) 8 y).1 21 0 0 6 + nI 1)).1 21 0 0 6 = nI (a2 + 2) ∧ (q_si (q_si M4 (21, 0, 0) 8 y) (21, 0, 0) 6 ((q_si M4 (21, 0, 0) 8 y).1 21 0 0 6 + nI 1)).1 21 0 0 7 = nI v ∧ (q_si (q_si M4 (21, 0, 0) 8 y) (21, 0, 0) 6 ((q_si M4 (21, 0, 0) 8 y).1 21 0 0 6 + nI 1)).1 21 0 0 8 = nI (tx (a2 + 1) - 48) := by
              intro y hy
              refine ⟨q_pf_tr (q_pf_tr hpf4 (q_pf_si (by decide))) (q_pf_si (by decide)), ?_, ?_, ?_⟩
              · rw [q_i_e, q_upd_eq, q_i_e, q_upd_ne (by decide), hp4.2.1, nI_add]
              · rw [q_i_e, q_upd_ne (by decide), q_i_e, q_upd_ne (by decide)]
                exact h74
              · rw [q_i_e, q_upd_ne (by decide), q_i_e, q_upd_eq, hy]
            obtain ⟨k1, k2, k3, k4⟩ := key _ e24
            refine And.intro (fun g2 => absurd g2 (by show ¬ (q_si (q_si M4 (21, 0, 0) 8 (M4.1 24 0 0 (a2 + 1) - nI 48)) (21, 0, 0) 6 ((q_si M4 (21, 0, 0) 8 (M4.1 24 0 0 (a2 + 1) - nI 48)).1 21 0 0 6 + nI 1)).1 21 0 0 8 < nI 0; rw [k4]; exact nI_pos (by omega))) (fun _ => And.intro wok ?_)
            have hh := hY 97 v (tx (a2 + 1) - 48) (a2 + 2) ept _ k1 k2 k3 k4
            rw [g]
            exact hh
          · rw [nI_eq (by omega) (by omega)] at g
            have e117 : tx a = 117 := by omega
            rw [if_pos e117] at ept
            refine Exists.intro _ ⟨cX9_number_ct hl0, n, tx, a2 + 1, 0, 29, hT4, hp4.2.1, by omega, by omega, by omega, by omega, rfl, fun M5 hp5 => ?_⟩
            refine And.intro (fun g => absurd g q_n1) (fun _ => ?_)
            refine And.intro (fun (g2 : nI wt = nI 97) => absurd ((nI_eq (by omega) (by omega)).mp g2) g) (fun _ => ?_)
            have key : ∀ y : Int32, q_pf M (q_si (q_si M5 (21, 0, 0) 8 y) (21, 0, 0) 6 ((q_si M5 (21, 0, 0) 8 y).1 21 0 0 6 + nI 0)) ∧ (q_si (q_si M5 (21, 0, 0) 8 y) (21, 0, 0) 6 ((q_si M5 (21, 0, 0) 8 y).1 21 0 0 6 + nI 0)).1 21 0 0 6 = nI (g_nm tx n 0 29 (a2 + 1)).2 ∧ (q_si (q_si M5 (21, 0, 0) 8 y) (21, 0, 0) 6 ((q_si M5 (21, 0, 0) 8 y).1 21 0 0 6 + nI 0)).1 21 0 0 7 = nI v ∧ (q_si (q_si M5 (21, 0, 0) 8 y) (21, 0, 0) 6 ((q_si M5 (21, 0, 0) 8 y).1 21 0 0 6 + nI 0)).1 21 0 0 8 = y := by
              intro y
              refine ⟨q_pf_tr (q_pf_tr (q_pf_tr hpf4 hp5.1) (q_pf_si (by decide))) (q_pf_si (by decide)), ?_, ?_, ?_⟩
              · rw [q_i_e, q_upd_eq, q_i_e, q_upd_ne (by decide), hp5.2.1, nI_add, Nat.add_zero]
              · rw [q_i_e, q_upd_ne (by decide), q_i_e, q_upd_ne (by decide)]
                exact hp5.2.2.1.trans h74
              · rw [q_i_e, q_upd_ne (by decide), q_i_e, q_upd_eq]
            obtain ⟨k1, k2, k3, k4⟩ := key (s_oi (g_nm tx n 0 29 (a2 + 1)).1)
            refine And.intro (fun g2 => ?_) (fun g2 => ?_)
            · have g2 : (q_si (q_si M5 (21, 0, 0) 8 (s_oi (g_nm tx n 0 29 (a2 + 1)).1)) (21, 0, 0) 6 ((q_si M5 (21, 0, 0) 8 (s_oi (g_nm tx n 0 29 (a2 + 1)).1)).1 21 0 0 6 + nI 0)).1 21 0 0 8 < nI 0 := g2
              rw [k4] at g2
              cases hg2 : (g_nm tx n 0 29 (a2 + 1)).1 with
              | none =>
                rw [hg2] at ept k1 k2
                exact And.intro w32 (hN _ ept _ k1 k2)
              | some u =>
                have hu := g_nm_gr (by omega) hg2
                rw [hg2] at g2
                exact absurd g2 (nI_pos (by omega))
            · have g2 : ¬ (q_si (q_si M5 (21, 0, 0) 8 (s_oi (g_nm tx n 0 29 (a2 + 1)).1)) (21, 0, 0) 6 ((q_si M5 (21, 0, 0) 8 (s_oi (g_nm tx n 0 29 (a2 + 1)).1)).1 21 0 0 6 + nI 0)).1 21 0 0 8 < nI 0 := g2
              rw [k4] at g2
              cases hg2 : (g_nm tx n 0 29 (a2 + 1)).1 with
              | none =>
                rw [hg2] at g2
                exact absurd (show s_oi none < nI 0 by decide) g2
              | some u =>
                rw [hg2] at ept k1 k2 k3 k4
                have hh := hY 117 v u _ ept _ k1 k2 k3 k4
                refine And.intro wok ?_
                rw [show wt = 117 by omega]
                exact hh
        intro c hc
        have hcb : c ≤ 100 := by
          rw [hc]
          split <;> omega
        apply hz [199] 100
        refine Exists.intro _ ⟨cX9_sign_ct hl0, n, tx, a2, c, hT3, h63, by omega, by omega, rfl, fun g1 g2 M4 hp4 => ?_, fun g M4 hp4 => ?_⟩
        · refine And.intro (fun g => absurd g q_n1) (fun _ => ?_)
          refine And.intro (fun g => absurd g q_n1) (fun _ => ?_)
          have hs2 := g2.trans hc
          refine And.intro (fun (g : nI wt = nI 117) => ?_) (fun (g : ¬ nI wt = nI 117) => ?_)
          · rw [nI_eq (by omega) (by omega)] at g
            exact low M4 hp4 g1 hs2 (Or.inl (by omega))
          · rw [nI_eq (by omega) (by omega)] at g
            refine Exists.intro _ ⟨cX9_isAt_ct hl0, n, tx, a2 + 1, 48, 50, TV_pf hT3 hp4.1, hp4.2.1, by omega, by omega, by omega, rfl, ?_⟩
            by_cases cc : a2 + 1 < n ∧ 48 ≤ tx (a2 + 1) ∧ tx (a2 + 1) ≤ 50
            · rw [q_bi_t cc]
              exact And.intro (fun g => absurd g q_n1) (fun _ => low M4 hp4 g1 hs2 (Or.inr cc))
            · rw [q_bi_f cc]
              refine And.intro (fun _ => ?_) (fun g => absurd nI_0 g)
              refine bad _ M4 (a2 + 1) (q_pf_tr hp3 hp4.1) hp4.2.1 ?_
              rw [ept, if_pos ⟨g1, hs2⟩, if_neg (by omega), if_neg cc]
        · refine And.intro (fun _ => ?_) (fun g => absurd nI_0 g)
          refine And.intro (fun _ => ?_) (fun g => absurd nI_0 g)
          refine bad _ M4 a2 (q_pf_tr hp3 hp4.1) hp4.2.1 ?_
          rw [ept, if_neg (by rw [← hc]; exact g)]
      refine And.intro (fun (g : nI wt = nI 97) => ?_) (fun (g : ¬ nI wt = nI 97) => ?_)
      · rw [nI_eq (by omega) (by omega)] at g
        exact tail _ hp3 h63 h73 33 (by rw [if_pos (by omega)])
      · rw [nI_eq (by omega) (by omega)] at g
        exact tail _ hp3 h63 h73 58 (by rw [if_neg (by omega)])
  have s108 : ∀ M1 : Q_M, q_pp M M1 a → ¬ (a < n ∧ (tx a = 116 ∨ tx a = 103 ∨ tx a = 108)) → Z 0 108 [(1, .inl (nI wt)), (0, .inr (.inl (21, 0, 0)))] [] M1 := by
    intro M1 hp hno
    apply hz [129] 100
    refine Exists.intro _ ⟨cX9_sign_ct hl0, n, tx, a, 97, TV_pf hT hp.1, hp.2.1, by omega, by omega, rfl, fun g1 g2 M2 hp2 => ?_, fun g M2 hp2 => ?_⟩
    · exact And.intro (fun g => absurd g q_n1) (fun _ => s129 M2 (q_pp_tr hp hp2) g1 (Or.inl g2))
    · refine And.intro (fun _ => ?_) (fun g => absurd nI_0 g)
      have hp2 := q_pp_tr hp hp2
      refine Exists.intro _ ⟨cX9_sign_ct hl0, n, tx, a, 117, TV_pf hT hp2.1, hp2.2.1, by omega, by omega, rfl, fun g1 g2 M3 hp3 => ?_, fun g3 M3 hp3 => ?_⟩
      · exact And.intro (fun g => absurd g q_n1) (fun _ => s129 M3 (q_pp_tr hp2 hp3) g1 (Or.inr g2))
      · refine And.intro (fun _ => ?_) (fun g => absurd nI_0 g)
        have hp3 := q_pp_tr hp2 hp3
        exact And.intro w32 (hN a (g_pt_no (by omega)) M3 hp3.1 hp3.2.1)
  have s83 : ∀ M1 : Q_M, q_pp M M1 (a + 1) → a < n → (tx a = 103 ∨ tx a = 108) → Z 0 83 [(1, .inl (nI wt)), (0, .inr (.inl (21, 0, 0)))] [] M1 := by
    intro M1 hp hlt hk
    have ept := g_pt_gl hlt hk
    rw [← wta hlt] at ept
    apply hz [] 100
    refine Exists.intro _ ⟨cX9_number_ct hl0, n, tx, a + 1, 0, 19, TV_pf hT hp.1, hp.2.1, by omega, by omega, by omega, by omega, rfl, fun M2 hp2 => ?_⟩
    obtain ⟨o1, o2⟩ := one 0 19 wt M2 (by omega) (by omega) ept (q_pp_tr hp hp2)
    refine And.intro (fun g => ?_) (fun g => ?_)
    · have g : (q_si M2 (21, 0, 0) 7 (s_oi (g_nm tx n 0 19 (a + 1)).1)).1 21 0 0 7 < nI 0 := g
      rw [q_i_e, q_upd_eq] at g
      exact And.intro w32 (o1 g)
    · have g : ¬ (q_si M2 (21, 0, 0) 7 (s_oi (g_nm tx n 0 19 (a + 1)).1)).1 21 0 0 7 < nI 0 := g
      rw [q_i_e, q_upd_eq] at g
      exact And.intro wok (o2 g)
  have s65 : ∀ M1 : Q_M, q_pp M M1 a → ¬ (a < n ∧ tx a = 116) → Z 0 65 [(1, .inl (nI wt)), (0, .inr (.inl (21, 0, 0)))] [] M1 := by
    intro M1 hp hno
    apply hz [83, 108] 100
    refine Exists.intro _ ⟨cX9_sign_ct hl0, n, tx, a, 103, TV_pf hT hp.1, hp.2.1, by omega, by omega, rfl, fun g1 g2 M2 hp2 => ?_, fun g M2 hp2 => ?_⟩
    · exact And.intro (fun g => absurd g q_n1) (fun _ => s83 M2 (q_pp_tr hp hp2) g1 (Or.inl g2))
    · refine And.intro (fun _ => ?_) (fun g => absurd nI_0 g)
      have hp2 := q_pp_tr hp hp2
      refine Exists.intro _ ⟨cX9_sign_ct hl0, n, tx, a, 108, TV_pf hT hp2.1, hp2.2.1, by omega, by omega, rfl, fun g1 g2 M3 hp3 => ?_, fun g3 M3 hp3 => ?_⟩
      · exact And.intro (fun g => absurd g q_n1) (fun _ => s83 M3 (q_pp_tr hp2 hp3) g1 (Or.inr g2))
      · exact And.intro (fun _ => s108 M3 (q_pp_tr hp2 hp3) (by omega)) (fun g => absurd nI_0 g)
  have s25 : Z 0 25 [(0, .inr (.inl (21, 0, 0)))] [.inl (nI wt)] M := by
    have hp : q_pp M (q_si M (21, 0, 0) 8 (nI 0)) a := ⟨q_pf_si (by decide), by rw [q_i_e, q_upd_ne (by decide)]; exact h6, by rw [q_i_e, q_upd_eq]⟩
    apply hz [65] 100
    refine Exists.intro _ ⟨cX9_sign_ct hl0, n, tx, a, 116, TV_pf hT hp.1, hp.2.1, by omega, by omega, rfl, fun g1 g2 M2 hp2 => ?_, fun g M2 hp2 => ?_⟩
    · refine And.intro (fun g => absurd g q_n1) (fun _ => ?_)
      have hp2 := q_pp_tr hp hp2
      have ept := g_pt_t g1 g2
      have e116 : wt = 116 := (wta g1).trans g2
      refine Exists.intro _ ⟨cX9_number_ct hl0, n, tx, a + 1, 1, 100, TV_pf hT hp2.1, hp2.2.1, by omega, by omega, by omega, by omega, rfl, fun M3 hp3 => ?_⟩
      obtain ⟨o1, o2⟩ := one 1 100 116 M3 (by omega) (by omega) ept (q_pp_tr hp2 hp3)
      refine And.intro (fun g => ?_) (fun g => ?_)
      · have g : (q_si M3 (21, 0, 0) 7 (s_oi (g_nm tx n 1 100 (a + 1)).1)).1 21 0 0 7 < nI 0 := g
        rw [q_i_e, q_upd_eq] at g
        exact And.intro w32 (o1 g)
      · have g : ¬ (q_si M3 (21, 0, 0) 7 (s_oi (g_nm tx n 1 100 (a + 1)).1)).1 21 0 0 7 < nI 0 := g
        rw [q_i_e, q_upd_eq] at g
        refine And.intro wok ?_
        rw [e116]
        exact o2 g
    · exact And.intro (fun _ => s65 M2 (q_pp_tr hp hp2) g) (fun g => absurd nI_0 g)
  apply hz [25] 100
  refine And.intro (fun (g : M.1 21 0 0 5 ≤ M.1 21 0 0 6) => ?_) (fun (g : ¬ M.1 21 0 0 5 ≤ M.1 21 0 0 6) => ?_)
  · rw [h5, h6, nI_leI (by omega) (by omega)] at g
    rw [show wt = 32 by rw [hwt, if_neg (by omega)]] at s25
    exact s25
  · rw [h5, h6, nI_leI (by omega) (by omega)] at g
    refine Exists.intro a ⟨h6, by omega, ?_⟩
    rw [wta (by omega), ← (ht a (by omega)).1] at s25
    exact s25
abbrev pX9_isWhole : Q_P := fun av M K KX => ∃ (n : Nat) (tx : Nat → Nat), TV M n tx ∧ av = [.inr (.inl (21, 0, 0))] ∧ ∀ M', q_pf M M' → M'.1 21 0 0 6 = nI (g_wh tx n (n + 1) 0 []).2.1 → K (some (.inl (q_bi ((g_wh tx n (n + 1) 0 []).1 = true ∧ (g_wh tx n (n + 1) 0 []).2.1 = n)))) M'
theorem cX9_isWhole_ct {l : Launch} {b : Bool} (hl0 : l.stackTraces = false) : q_Ct l b 200 pX9_isWhole := by
  refine q_meth (by decide +kernel) hl0 TX9_isWhole kX9_isWhole ?_
  intro av M K KX hwf
  rintro ⟨n, tx, hT, rfl, hK⟩
  refine ⟨Nat.le_of_ble_eq_true rfl, fun Z hz hw => ?_⟩
  obtain ⟨hn, h5, ht⟩ := id hT
  generalize hW : g_wh tx n (n + 1) 0 [] = W at hK
  have sno : ∀ M1 : Q_M, q_pf M M1 → M1.1 21 0 0 6 = nI W.2.1 → W.1 = false → Z 0 9 [(1, .inl (nI 0)), (2, .inl (nI 0)), (0, .inr (.inl (21, 0, 0)))] [] M1 := by
    intro M1 hp h6 hw1
    have hh := hK M1 hp h6
    rw [q_bi_f (by rw [hw1]; simp)] at hh
    apply hz [] 100
    refine And.intro (fun _ => ?_) (fun g => absurd nI_0 g)
    refine And.intro (fun _ => ?_) (fun g => absurd nI_0 g)
    exact And.intro (Or.inl rfl) hh
  have syes : ∀ M1 : Q_M, q_pf M M1 → M1.1 21 0 0 6 = nI W.2.1 → W.1 = true → W.2.1 ≤ n → Z 0 9 [(1, .inl (nI 0)), (2, .inl (nI 1)), (0, .inr (.inl (21, 0, 0)))] [] M1 := by
    intro M1 hp h6 hw1 hle
    have hh := hK M1 hp h6
    have h51 : M1.1 21 0 0 5 = nI n := (hp.2.2 5 (by decide)).trans h5
    apply hz [] 100
    refine And.intro (fun _ => ?_) (fun g => absurd nI_0 g)
    refine And.intro (fun g => absurd g q_n1) (fun _ => ?_)
    refine And.intro (fun (g : M1.1 21 0 0 6 = M1.1 21 0 0 5) => ?_) (fun (g : ¬ M1.1 21 0 0 6 = M1.1 21 0 0 5) => ?_)
    · rw [h6, h51, nI_eq (by omega) (by omega)] at g
      rw [q_bi_t ⟨hw1, g⟩] at hh
      exact And.intro (Or.inr rfl) hh
    · rw [h6, h51, nI_eq (by omega) (by omega)] at g
      rw [q_bi_f (fun h => g h.2)] at hh
      exact And.intro (Or.inl rfl) hh
  have loop : ∀ (f at0 : Nat) (L : List Q_P3) (M1 : Q_M), at0 ≤ n → n < at0 + f → q_pf M M1 → M1.1 21 0 0 6 = nI at0 → g_wh tx n f at0 L = W → Z 0 9 [(1, .inl (nI 1)), (2, .inl (nI 1)), (0, .inr (.inl (21, 0, 0)))] [] M1 := by
    intro f
    induction f with
    | zero => intro at0 L M1 h1 h2; omega
    | succ f ih =>
      intro at0 L M1 h1 h2 hp h6 he
      have e : g_wh tx n (f + 1) at0 L = (match g_pt tx n at0 with
        | (none, a) => (false, a, L)
        | (some p, a) => if a < n ∧ tx a = 59 then g_wh tx n f (a + 1) (L ++ [p]) else (true, a, L ++ [p])) := rfl
      rw [e] at he
      have hok := g_pt_rn (tx := tx) (n := n) (k0 := 0) (f0 := 0) (s0 := 0) (d0 := 0) (L := []) h1
      apply hz [9] 100
      refine And.intro (fun g => absurd g q_n1) (fun _ => ?_)
      refine Exists.intro _ ⟨cX9_part_ct hl0, n, tx, at0, TV_pf hT hp, h6, by omega, rfl, fun w x y b hb M2 hp2 h62 h72 h82 => ?_, fun b hb M2 hp2 h62 => ?_⟩
      · rw [hb] at he
        have hok := hok.2 w x y (by rw [hb])
        rw [hb] at hok
        obtain ⟨hv, g1, g2, -⟩ := hok
        have g1 : at0 < b := g1
        have g2 : b ≤ n := g2
        have he : (if b < n ∧ tx b = 59 then g_wh tx n f (b + 1) (L ++ [(w, x, y)]) else (true, b, L ++ [(w, x, y)])) = W := he
        unfold s_vp at hv
        have wne : nI w ≠ nI 32 := by
          intro g
          rw [nI_eq (by omega) (by omega)] at g
          omega
        refine And.intro (fun g => absurd g wne) (fun _ => ?_)
        refine And.intro (fun g => absurd g q_n1) (fun _ => ?_)
        have hp2 := q_pf_tr hp hp2
        refine Exists.intro _ ⟨cX9_sign_ct hl0, n, tx, b, 59, TV_pf hT hp2, h62, by omega, by omega, rfl, fun g3 g4 M3 hp3 => ?_, fun g M3 hp3 => ?_⟩
        · refine And.intro (fun g => absurd g q_n1) (fun _ => ?_)
          rw [if_pos ⟨g3, g4⟩] at he
          exact ih (b + 1) _ M3 (by omega) (by omega) (q_pf_tr hp2 hp3.1) hp3.2.1 he
        · refine And.intro (fun _ => ?_) (fun g => absurd nI_0 g)
          rw [if_neg g] at he
          exact syes M3 (q_pf_tr hp2 hp3.1) (by rw [← he]; exact hp3.2.1) (by rw [← he]) (by rw [← he]; exact g2)
      · rw [hb] at he
        have he : (false, b, L) = W := he
        refine And.intro (fun _ => ?_) (fun g => absurd rfl g)
        refine And.intro (fun _ => ?_) (fun g => absurd nI_0 g)
        exact sno M2 (q_pf_tr hp hp2) (by rw [← he]; exact h62) (by rw [← he])
  apply hz [9] 100
  refine hw _ _ _ _ _ _ (loop (n + 1) 0 [] (q_si M (21, 0, 0) 6 (nI 0)) (by omega) (by omega) (q_pf_si (by decide)) (by rw [q_i_e, q_upd_eq]) hW) (fun q hq => ?_)
  simp only [List.mem_cons] at hq
  rcases hq with rfl | rfl | rfl | hq
  · exact List.mem_cons_of_mem _ List.mem_cons_self
  · exact List.mem_cons_self
  · exact List.mem_cons_of_mem _ (List.mem_cons_of_mem _ List.mem_cons_self)
  · exact absurd hq (List.not_mem_nil)
abbrev pX9_firstError : Q_P := fun av M K KX => ∃ (n : Nat) (tx : Nat → Nat), TV M n tx ∧ av = [.inr (.inl (21, 0, 0))] ∧ ∀ M', q_pf (q_si M (21, 0, 0) 3 (nI 0)) M' → K (some (.inl (nI (g_wh tx n (n + 1) 0 []).2.1))) M'
theorem cX9_firstError_ct {l : Launch} {b : Bool} (hl0 : l.stackTraces = false) : q_Ct l b 201 pX9_firstError := by
  refine q_meth (by decide +kernel) hl0 TX9_firstError kX9_firstError ?_
  intro av M K KX hwf
  rintro ⟨n, tx, hT, rfl, hK⟩
  refine ⟨Nat.le_of_ble_eq_true rfl, fun Z hz hw => ?_⟩
  have hT0 : TV (q_si M (21, 0, 0) 3 (nI 0)) n tx := by
    unfold TV
    rw [q_i_e, q_upd_ne (by decide), q_i_r (show 24 ≠ 21 by decide)]
    exact hT
  apply hz [] 100
  refine Exists.intro _ ⟨cX9_isWhole_ct hl0, n, tx, hT0, rfl, fun M1 hp h6 => ?_⟩
  have hh := hK M1 hp
  rw [← h6] at hh
  exact hh
