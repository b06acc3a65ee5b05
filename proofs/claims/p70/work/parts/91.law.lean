-- THE LAW: ITS LOOP, OVER ANY WALK
def lw_K : Option Q_V → Q_M → Prop := fun v _ => v = some (.inl (nI 1))
def LW_z (l : Launch) (Z : Q_Z) : Prop := (∀ (stops : List Nat) (n z pc : Nat) (ls : List (Nat × Q_V)) (st : List Q_V) (M : Q_M), q_vc2 9 185 615177 (some .boolean) none (q_C2 l false) lw_K TL_law Z stops n z pc ls st M → Z z pc ls st M) ∧ (∀ (ls' : List (Nat × Q_V)) (z pc : Nat) (ls : List (Nat × Q_V)) (st : List Q_V) (M : Q_M), Z z pc ls' st M → (∀ q ∈ ls', q ∈ ls) → Z z pc ls st M) ∧ ∀ (z pc k : Nat) (ls : List (Nat × Q_V)) (M : Q_M), (pc = 69 ∨ pc = 83) → k < 60 → z ≤ 615177 → (∀ v : Int32, Z z (pc + 3) ls [.inl v] M) → Z z pc ls [.inl (nI k), .inr (.inl (26, 0, 0))] M
/-- behind c rounds of the law's loop -/
def LV (M : Q_M) (S : Nat → Int32) (h : Nat) (G : Nat → Nat → Int32) (kb : Nat → Int32) (T : Nat → Nat → Int32) (c : Nat) : Prop := CV M S h G kb T 0 (fun _ => 0) ∧ GS S c ∧ (∀ i, i < h → GS (G i) c) ∧ ∀ k, k < 2 → kb k = nI 1 → GS (T k) c
theorem hG_last {h : Nat} {G : Nat → Nat → Int32} {S : Nat → Int32} (h6 : h ≤ 6) : s_hG h G S (s_h1 h - 1) = S := by
  unfold s_hG s_h1
  by_cases c : h = 6
  · rw [if_pos c, if_pos c, if_neg (by omega)]
  · rw [if_neg c, if_neg c, if_pos (by omega)]
theorem hG_all {h : Nat} {G : Nat → Nat → Int32} {S : Nat → Int32} {P : (Nat → Int32) → Prop} (h6 : h ≤ 6) (hG : ∀ i, i < h → P (G i)) (hS : P S) : ∀ i, i < s_h1 h → P (s_hG h G S i) := by
  intro i hi
  unfold s_h1 at hi
  unfold s_hG
  by_cases c : h = 6
  · rw [if_pos c] at hi ⊢
    by_cases c5 : i < 5
    · rw [if_pos c5]
      exact hG (i + 1) (by omega)
    · rw [if_neg c5]
      exact hS
  · rw [if_neg c] at hi ⊢
    by_cases c2 : i = h
    · rw [if_pos c2]
      exact hS
    · rw [if_neg c2]
      exact hG i (by omega)
abbrev w_s : Q_V := .inr (.inl (26, 0, 0))
abbrev v_0 (i : Nat) : List (Nat × Q_V) := [(3, .inl (nI i)), (2, .inl (nI 1)), (1, w_x), (0, w_s)]
abbrev v_4 (i : Nat) (y : Int32) : List (Nat × Q_V) := [(4, .inl y), (3, .inl (nI i)), (2, .inl (nI 1)), (1, w_x), (0, w_s)]
abbrev v_6 (i : Nat) (y nb : Int32) (h : Nat) : List (Nat × Q_V) := [(6, .inl (nI h)), (5, .inl nb), (4, .inl y), (3, .inl (nI i)), (2, .inl (nI 1)), (1, w_x), (0, w_s)]
theorem t_undo {M : Q_M} {S : Nat → Int32} {h : Nat} {G : Nat → Nat → Int32} {kb : Nat → Int32} {T : Nat → Nat → Int32} {n : Nat} {tx : Nat → Nat} {K : Option Q_V → Q_M → Prop} (hc : CV M S h G kb T n tx) (hh : 0 < h) (hK : ∀ M', CV M' (G (h - 1)) (h - 1) G kb T n tx → K (some (.inl (nI 0))) M') : pL_undo [w_x] M K (fun _ _ => False) := ⟨S, h, G, kb, T, n, tx, hc, rfl, fun _ M' hc' _ => hK M' hc', fun e => absurd e (by omega)⟩
theorem t_keep {M : Q_M} {S : Nat → Int32} {h : Nat} {G : Nat → Nat → Int32} {kb : Nat → Int32} {T : Nat → Nat → Int32} {n : Nat} {tx : Nat → Nat} {K : Option Q_V → Q_M → Prop} (hc : CV M S h G kb T n tx) (hK : ∀ M', CV M' S h G (upd kb 1 (nI 1)) (fun i => if i = 1 then S else T i) n tx → K (some (.inl (nI 0))) M') : pL_keep [w_x, .inl (nI 1)] M K (fun _ _ => False) := by
  refine ⟨S, h, G, kb, T, n, tx, nI 1, hc, rfl, fun k hk e M' hc' _ => ?_, fun g => absurd ⟨nI_le (by omega) (by omega), nI_le (by omega) (by omega)⟩ g⟩
  have e1 : k = 1 := ((nI_eq (by omega) (by omega)).mp e).symm
  subst e1
  exact hK M' hc'
theorem t_back {M : Q_M} {S : Nat → Int32} {h : Nat} {G : Nat → Nat → Int32} {kb : Nat → Int32} {T : Nat → Nat → Int32} {n : Nat} {tx : Nat → Nat} {K : Option Q_V → Q_M → Prop} (hc : CV M S h G kb T n tx) (h1 : kb 1 = nI 1) (hK : ∀ M', CV M' (T 1) (s_h1 h) (s_hG h G S) kb T n tx → K (some (.inl (nI 0))) M') : pL_back [w_x, .inl (nI 1)] M K (fun _ _ => False) := by
  refine ⟨S, h, G, kb, T, n, tx, nI 1, hc, rfl, fun k hk e hb M' hc' _ => ?_, fun g => absurd ⟨nI_le (by omega) (by omega), nI_le (by omega) (by omega)⟩ g, fun k hk e hb => ?_⟩
  · have e1 : k = 1 := ((nI_eq (by omega) (by omega)).mp e).symm
    subst e1
    exact hK M' hc'
  · have e1 : k = 1 := ((nI_eq (by omega) (by omega)).mp e).symm
    subst e1
    exact absurd h1 hb
set_option maxRecDepth 100000 in
theorem lw_once {l : Launch} (hl0 : l.stackTraces = false) {Z : Q_Z} (hZ : LW_z l Z) {c z : Nat} {M : Q_M} {S : Nat → Int32} {h : Nat} {G : Nat → Nat → Int32} {kb : Nat → Int32} {T : Nat → Nat → Int32} (hv : LV M S h G kb T c) (h60 : c < 60) (hzz : z ≤ 2500 + 2100 * c) (ih : ∀ (z' : Nat) (M' : Q_M) (S' : Nat → Int32) (h' : Nat) (G' : Nat → Nat → Int32) (kb' : Nat → Int32) (T' : Nat → Nat → Int32), z' ≤ 2500 + 2100 * (c + 1) → LV M' S' h' G' kb' T' (c + 1) → Z z' 52 (v_0 (c + 1)) [] M') : Z z 52 (v_0 c) [] M := by
  obtain ⟨hz, hw, hcell⟩ := hZ
  obtain ⟨hc, g, hgG, hgT⟩ := hv
  have h6 : h ≤ 6 := hc.2.2.1.1
  have hh : M.1 3 0 0 0 = nI h := hc.2.2.1.2.1
  have hR : RC 0 M S := hc.1
  -- the round's end
  have e270 : ∀ (z' : Nat) (ls : List (Nat × Q_V)) (M' : Q_M) (S' : Nat → Int32) (h' : Nat) (G' : Nat → Nat → Int32) (kb' : Nat → Int32) (T' : Nat → Nat → Int32), z' ≤ 2500 + 2100 * (c + 1) → LV M' S' h' G' kb' T' (c + 1) → (∀ q ∈ v_0 c, q ∈ ls) → Z z' 270 ls [] M' := by
    intro z' ls M' S' h' G' kb' T' hz' hv' hsub
    refine hw (v_0 c) _ _ _ _ _ ?_ hsub
    apply hz [52] 10
    have hh := ih z' M' S' h' G' kb' T' hz' hv'
    unfold v_0 at hh
    rw [← nI_add c 1] at hh
    exact hh
  have up : ∀ {X : Nat → Int32}, GS X c → GS X (c + 1) := fun q => GS_up q (by omega)
  -- behind a change
  have e140 : ∀ (y v : Int32) (z' : Nat) (M' : Q_M) (S' : Nat → Int32), z' ≤ z + 300 → CV M' S' (s_h1 h) (s_hG h G S) kb T 0 (fun _ => 0) → GS S' (c + 1) → Z z' 140 ((7, .inl v) :: v_6 c y (nbv S) h) [] M' := by
    intro y v z' M' S' hz' hc' g'
    have hgG' : ∀ i, i < s_h1 h → GS (s_hG h G S i) (c + 1) := hG_all (P := fun X => GS X (c + 1)) h6 (fun i hi => up (hgG i hi)) (up g)
    have hgT' : ∀ k, k < 2 → kb k = nI 1 → GS (T k) (c + 1) := fun k hk e => up (hgT k hk e)
    -- kept, undone, gone back
    have e187 : ∀ (z' : Nat) (M' : Q_M), z' ≤ z + 1310 → CV M' S' (s_h1 h) (s_hG h G S) kb T 0 (fun _ => 0) → Z z' 187 ((7, .inl v) :: v_6 c y (nbv S) h) [] M' := by
      intro z' M' hz' hc'
      have hR' : RC 0 M' S' := hc'.1
      have h1p : 0 < s_h1 h := by unfold s_h1; split <;> omega
      apply hz [235, 270] 60
      refine ⟨by decide, by decide, And.intro (fun _ => ?_) (fun _ => ?_)⟩
      · refine ⟨by omega, _, q_C2i rfl (cL_numbers_ct hl0), S', hR', rfl, ?_⟩
        refine ⟨by omega, _, C2L (by decide) (by decide) (cL_keep_ct hl0), t_keep hc' (fun M1 hc1 => ?_)⟩
        refine And.intro (fun _ => ?_) (fun g => absurd nI_0 g)
        refine ⟨by omega, _, C2L (by decide) (by decide) (cL_undo_ct hl0), t_undo hc1 h1p (fun M2 hc2 => ?_)⟩
        rw [hG_last h6] at hc2
        refine And.intro (fun _ => ?_) (fun g => absurd nI_0 g)
        refine ⟨by omega, _, q_C2i rfl (cX8_savedStates_ct hl0), s_h1 h - 1, hc2.2.2.1.2.1, rfl, ?_⟩
        have e235 : ∀ (z' : Nat) (w9 : Int32) , z' ≤ z + 1565 → w9 = nI (s_h1 h - 1) → Z z' 235 ((8, .inl (nbv S')) :: (7, .inl v) :: v_6 c y (nbv S) h) [.inl w9, .inl (nI (s_h1 h - 1))] M2 := by
          intro z' w9 hz' e9
          subst e9
          have hR2 : RC 0 M2 S := hc2.1
          apply hz [270] 60
          refine And.intro (fun _ => ?_) (fun g => absurd rfl g)
          refine ⟨by omega, _, q_C2i rfl (cL_numbers_ct hl0), S, hR2, rfl, ?_⟩
          refine And.intro (fun _ => ?_) (fun g => absurd rfl g)
          refine ⟨by omega, _, C2L (by decide) (by decide) (cL_back_ct hl0), t_back hc2 q_upd_eq (fun M3 hc3 => ?_)⟩
          have hc3 : CV M3 S' (s_h1 (s_h1 h - 1)) (s_hG (s_h1 h - 1) (s_hG h G S) S) (upd kb 1 (nI 1)) (fun i => if i = 1 then S' else T i) 0 (fun _ => 0) := hc3
          have hR3 : RC 0 M3 S' := hc3.1
          refine And.intro (fun _ => ?_) (fun g => absurd nI_0 g)
          refine ⟨by omega, _, q_C2i rfl (cL_numbers_ct hl0), S', hR3, rfl, ?_⟩
          refine And.intro (fun _ => ?_) (fun g => absurd rfl g)
          have h16 : s_h1 h - 1 ≤ 6 := by unfold s_h1; split <;> omega
          refine e270 _ _ _ _ _ _ _ _ (by omega) ⟨hc3, g', hG_all (P := fun X => GS X (c + 1)) h16 (fun i hi => hgG' i (by omega)) (up g), fun k hk e => ?_⟩ (fun q hq => ?_)
          · by_cases ck : k = 1
            · rw [if_pos ck]
              exact g'
            · rw [if_neg ck]
              rw [q_upd_ne ck] at e
              exact hgT' k hk e
          · simp only [List.mem_cons, List.not_mem_nil, or_false] at hq
            rcases hq with rfl | rfl | rfl | rfl
            all_goals first | exact List.Mem.head _ | exact List.Mem.tail _ (List.Mem.head _) | exact List.Mem.tail _ (List.Mem.tail _ (List.Mem.head _)) | exact List.Mem.tail _ (List.Mem.tail _ (List.Mem.tail _ (List.Mem.head _))) | exact List.Mem.tail _ (List.Mem.tail _ (List.Mem.tail _ (List.Mem.tail _ (List.Mem.head _)))) | exact List.Mem.tail _ (List.Mem.tail _ (List.Mem.tail _ (List.Mem.tail _ (List.Mem.tail _ (List.Mem.head _))))) | exact List.Mem.tail _ (List.Mem.tail _ (List.Mem.tail _ (List.Mem.tail _ (List.Mem.tail _ (List.Mem.tail _ (List.Mem.head _)))))) | exact List.Mem.tail _ (List.Mem.tail _ (List.Mem.tail _ (List.Mem.tail _ (List.Mem.tail _ (List.Mem.tail _ (List.Mem.tail _ (List.Mem.head _))))))) | exact List.Mem.tail _ (List.Mem.tail _ (List.Mem.tail _ (List.Mem.tail _ (List.Mem.tail _ (List.Mem.tail _ (List.Mem.tail _ (List.Mem.tail _ (List.Mem.head _)))))))) | exact List.Mem.tail _ (List.Mem.tail _ (List.Mem.tail _ (List.Mem.tail _ (List.Mem.tail _ (List.Mem.tail _ (List.Mem.tail _ (List.Mem.tail _ (List.Mem.tail _ (List.Mem.head _)))))))))
        have hne : ∀ a : Nat, a ≤ 6 → (nI a = nI 6 ↔ a = 6) := fun a ha => nI_eq (by omega) (by omega)
        refine And.intro (fun g6 => ?_) (fun g6 => ?_)
        · have e6 := (hne h h6).mp g6
          exact e235 _ _ (by omega) (by unfold s_h1; rw [if_pos e6]; rfl)
        · have e6 : ¬ h = 6 := fun e => g6 ((hne h h6).mpr e)
          exact e235 _ _ (by omega) (by unfold s_h1; rw [if_neg e6]; rfl)
      · refine e270 _ _ _ _ _ _ _ _ (by omega) ⟨hc', g', hgG', hgT'⟩ (fun q hq => ?_)
        simp only [List.mem_cons, List.not_mem_nil, or_false] at hq
        rcases hq with rfl | rfl | rfl | rfl
        all_goals first | exact List.Mem.head _ | exact List.Mem.tail _ (List.Mem.head _) | exact List.Mem.tail _ (List.Mem.tail _ (List.Mem.head _)) | exact List.Mem.tail _ (List.Mem.tail _ (List.Mem.tail _ (List.Mem.head _))) | exact List.Mem.tail _ (List.Mem.tail _ (List.Mem.tail _ (List.Mem.tail _ (List.Mem.head _)))) | exact List.Mem.tail _ (List.Mem.tail _ (List.Mem.tail _ (List.Mem.tail _ (List.Mem.tail _ (List.Mem.head _))))) | exact List.Mem.tail _ (List.Mem.tail _ (List.Mem.tail _ (List.Mem.tail _ (List.Mem.tail _ (List.Mem.tail _ (List.Mem.head _)))))) | exact List.Mem.tail _ (List.Mem.tail _ (List.Mem.tail _ (List.Mem.tail _ (List.Mem.tail _ (List.Mem.tail _ (List.Mem.tail _ (List.Mem.head _))))))) | exact List.Mem.tail _ (List.Mem.tail _ (List.Mem.tail _ (List.Mem.tail _ (List.Mem.tail _ (List.Mem.tail _ (List.Mem.tail _ (List.Mem.tail _ (List.Mem.head _)))))))) | exact List.Mem.tail _ (List.Mem.tail _ (List.Mem.tail _ (List.Mem.tail _ (List.Mem.tail _ (List.Mem.tail _ (List.Mem.tail _ (List.Mem.tail _ (List.Mem.tail _ (List.Mem.head _)))))))))
    have e182 : ∀ (z' : Nat) (M' : Q_M), z' ≤ z + 1310 → CV M' S' (s_h1 h) (s_hG h G S) kb T 0 (fun _ => 0) → Z z' 182 ((7, .inl v) :: v_6 c y (nbv S) h) [.inl (nI 1)] M' := by
      intro z' M' hz' hc'
      apply hz [187] 10
      refine And.intro (fun g => absurd g (by decide)) (fun _ => ?_)
      refine hw _ _ _ _ _ _ (e187 z' M' hz' hc') (fun q hq => ?_)
      simp only [List.mem_cons, List.not_mem_nil, or_false] at hq
      rcases hq with rfl | rfl | rfl | rfl | rfl | rfl | rfl | rfl
      all_goals first | exact List.Mem.head _ | exact List.Mem.tail _ (List.Mem.head _) | exact List.Mem.tail _ (List.Mem.tail _ (List.Mem.head _)) | exact List.Mem.tail _ (List.Mem.tail _ (List.Mem.tail _ (List.Mem.head _))) | exact List.Mem.tail _ (List.Mem.tail _ (List.Mem.tail _ (List.Mem.tail _ (List.Mem.head _)))) | exact List.Mem.tail _ (List.Mem.tail _ (List.Mem.tail _ (List.Mem.tail _ (List.Mem.tail _ (List.Mem.head _))))) | exact List.Mem.tail _ (List.Mem.tail _ (List.Mem.tail _ (List.Mem.tail _ (List.Mem.tail _ (List.Mem.tail _ (List.Mem.head _)))))) | exact List.Mem.tail _ (List.Mem.tail _ (List.Mem.tail _ (List.Mem.tail _ (List.Mem.tail _ (List.Mem.tail _ (List.Mem.tail _ (List.Mem.head _))))))) | exact List.Mem.tail _ (List.Mem.tail _ (List.Mem.tail _ (List.Mem.tail _ (List.Mem.tail _ (List.Mem.tail _ (List.Mem.tail _ (List.Mem.tail _ (List.Mem.head _)))))))) | exact List.Mem.tail _ (List.Mem.tail _ (List.Mem.tail _ (List.Mem.tail _ (List.Mem.tail _ (List.Mem.tail _ (List.Mem.tail _ (List.Mem.tail _ (List.Mem.tail _ (List.Mem.head _)))))))))
    have e160 : ∀ (z' : Nat) (w9 : Int32), z' ≤ z + 300 → w9 = nI (s_h1 h) → Z z' 160 ((7, .inl v) :: v_6 c y (nbv S) h) [.inl w9, .inl (nI (s_h1 h))] M' := by
      intro z' w9 hz' e9
      subst e9
      apply hz [182] 40
      refine And.intro (fun _ => ?_) (fun g => absurd rfl g)
      refine ⟨by decide, And.intro (fun _ => ?_) (fun _ => ?_)⟩
      · exact e182 _ _ (by omega) hc'
      · refine ⟨by omega, _, q_C2i rfl (cL_hangs_ct hl0), S', s_h1 h, s_hG h G S, kb, T, 0, fun _ => 0, c + 1, hc', g', by omega, rfl, fun M'' hc'' => ?_⟩
        exact And.intro (fun g => absurd g q_n1) (fun _ => e182 _ _ (by omega) hc'')
    apply hz [160] 20
    refine ⟨by omega, _, q_C2i rfl (cX8_savedStates_ct hl0), s_h1 h, hc'.2.2.1.2.1, rfl, ?_⟩
    have hne : ∀ a : Nat, a ≤ 6 → (nI a = nI 6 ↔ a = 6) := fun a ha => nI_eq (by omega) (by omega)
    refine And.intro (fun g6 => ?_) (fun g6 => ?_)
    · have e6 := (hne h h6).mp g6
      exact e160 _ _ (by omega) (by unfold s_h1; rw [if_pos e6]; rfl)
    · have e6 : ¬ h = 6 := fun e => g6 ((hne h h6).mpr e)
      exact e160 _ _ (by omega) (by unfold s_h1; rw [if_neg e6, ← nI_add]; rfl)
  -- the change
  have e86 : ∀ y : Int32, Z z 86 (v_0 c) [.inl y] M := by
    intro y
    apply hz [140, 270] 60
    refine ⟨by omega, _, q_C2i rfl (cL_numbers_ct hl0), S, hR, rfl, ?_⟩
    refine ⟨by omega, _, q_C2i rfl (cX8_savedStates_ct hl0), h, hh, rfl, ?_⟩
    refine ⟨by omega, _, q_C2i rfl (cL_acts_ct hl0), S, h, G, kb, T, 0, fun _ => 0, c, y, hc, g, h60, rfl, fun v hv => ?_, fun v M' S' hv hc' g' => ?_⟩
    · refine And.intro (fun g => absurd hv (Int32.not_lt.mpr g)) (fun _ => ?_)
      refine ⟨by omega, _, q_C2i rfl (cL_numbers_ct hl0), S, hR, rfl, ?_⟩
      refine And.intro (fun _ => ?_) (fun g => absurd rfl g)
      refine ⟨by omega, _, q_C2i rfl (cX8_savedStates_ct hl0), h, hh, rfl, ?_⟩
      refine And.intro (fun _ => ?_) (fun g => absurd rfl g)
      refine e270 _ _ _ _ _ _ _ _ (by omega) ⟨hc, up g, fun i hi => up (hgG i hi), fun k hk e => up (hgT k hk e)⟩ (fun q hq => ?_)
      simp only [List.mem_cons, List.not_mem_nil, or_false] at hq
      rcases hq with rfl | rfl | rfl | rfl
      all_goals first | exact List.Mem.head _ | exact List.Mem.tail _ (List.Mem.head _) | exact List.Mem.tail _ (List.Mem.tail _ (List.Mem.head _)) | exact List.Mem.tail _ (List.Mem.tail _ (List.Mem.tail _ (List.Mem.head _))) | exact List.Mem.tail _ (List.Mem.tail _ (List.Mem.tail _ (List.Mem.tail _ (List.Mem.head _)))) | exact List.Mem.tail _ (List.Mem.tail _ (List.Mem.tail _ (List.Mem.tail _ (List.Mem.tail _ (List.Mem.head _))))) | exact List.Mem.tail _ (List.Mem.tail _ (List.Mem.tail _ (List.Mem.tail _ (List.Mem.tail _ (List.Mem.tail _ (List.Mem.head _)))))) | exact List.Mem.tail _ (List.Mem.tail _ (List.Mem.tail _ (List.Mem.tail _ (List.Mem.tail _ (List.Mem.tail _ (List.Mem.tail _ (List.Mem.head _))))))) | exact List.Mem.tail _ (List.Mem.tail _ (List.Mem.tail _ (List.Mem.tail _ (List.Mem.tail _ (List.Mem.tail _ (List.Mem.tail _ (List.Mem.tail _ (List.Mem.head _)))))))) | exact List.Mem.tail _ (List.Mem.tail _ (List.Mem.tail _ (List.Mem.tail _ (List.Mem.tail _ (List.Mem.tail _ (List.Mem.tail _ (List.Mem.tail _ (List.Mem.tail _ (List.Mem.head _)))))))))
    · refine And.intro (fun _ => ?_) (fun g => absurd (Int32.not_lt.mp hv) g)
      refine hw _ _ _ _ _ _ (e140 y v _ _ _ (by omega) hc' g') (fun q hq => ?_)
      simp only [List.mem_cons, List.not_mem_nil, or_false] at hq
      rcases hq with rfl | rfl | rfl | rfl | rfl | rfl | rfl | rfl
      all_goals first | exact List.Mem.head _ | exact List.Mem.tail _ (List.Mem.head _) | exact List.Mem.tail _ (List.Mem.tail _ (List.Mem.head _)) | exact List.Mem.tail _ (List.Mem.tail _ (List.Mem.tail _ (List.Mem.head _))) | exact List.Mem.tail _ (List.Mem.tail _ (List.Mem.tail _ (List.Mem.tail _ (List.Mem.head _)))) | exact List.Mem.tail _ (List.Mem.tail _ (List.Mem.tail _ (List.Mem.tail _ (List.Mem.tail _ (List.Mem.head _))))) | exact List.Mem.tail _ (List.Mem.tail _ (List.Mem.tail _ (List.Mem.tail _ (List.Mem.tail _ (List.Mem.tail _ (List.Mem.head _)))))) | exact List.Mem.tail _ (List.Mem.tail _ (List.Mem.tail _ (List.Mem.tail _ (List.Mem.tail _ (List.Mem.tail _ (List.Mem.tail _ (List.Mem.head _))))))) | exact List.Mem.tail _ (List.Mem.tail _ (List.Mem.tail _ (List.Mem.tail _ (List.Mem.tail _ (List.Mem.tail _ (List.Mem.tail _ (List.Mem.tail _ (List.Mem.head _)))))))) | exact List.Mem.tail _ (List.Mem.tail _ (List.Mem.tail _ (List.Mem.tail _ (List.Mem.tail _ (List.Mem.tail _ (List.Mem.tail _ (List.Mem.tail _ (List.Mem.tail _ (List.Mem.head _)))))))))
  apply hz [69, 83] 20
  refine And.intro (fun (g : nI 60 ≤ nI c) => absurd ((nI_leI (by omega) (by omega)).mp g) (by omega)) (fun _ => ?_)
  refine And.intro (fun g => absurd g (by decide)) (fun _ => ?_)
  refine And.intro (fun _ => ?_) (fun _ => ?_)
  · exact hcell _ 83 c _ _ (Or.inr rfl) h60 (by omega) (fun v => e86 v)
  · refine hcell _ 69 c _ _ (Or.inl rfl) h60 (by omega) (fun v => ?_)
    apply hz [86] 10
    exact ⟨by decide, e86 _⟩
