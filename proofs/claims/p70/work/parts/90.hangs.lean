-- THE LAW'S LOOK AT THE WHOLE
abbrev pL_hangs : Q_P := fun av M K KX => ∃ (S : Nat → Int32) (h : Nat) (G : Nat → Nat → Int32) (kb : Nat → Int32) (T : Nat → Nat → Int32) (n : Nat) (tx : Nat → Nat) (c : Nat), CV M S h G kb T n tx ∧ GS S c ∧ c ≤ 60 ∧ av = [w_x] ∧ ∀ M', CV M' S h G kb T n tx → K (some (.inl (nI 1))) M'
abbrev h_A (S : Nat → Int32) (k : Nat) : List (Nat × Q_V) := [(5, .inl (nI k)), (4, .inl (nI 1)), (3, .inl (nI 0)), (2, .inl (l_gk S k)), (1, .inl (nI 0)), (0, w_x)]
abbrev h_B (S : Nat → Int32) (v : Int32) (k : Nat) : List (Nat × Q_V) := [(5, .inl (nI k)), (4, .inl (nI 1)), (3, .inl (nI 0)), (2, .inl (s_cs S)), (1, .inl v), (0, w_x)]
abbrev h_B6 (S : Nat → Int32) (v s6 : Int32) (k : Nat) : List (Nat × Q_V) := [(6, .inl s6), (5, .inl (nI k)), (4, .inl (nI 1)), (3, .inl (nI 0)), (2, .inl (s_cs S)), (1, .inl v), (0, w_x)]
abbrev h_B7 (S : Nat → Int32) (v : Int32) (k j : Nat) : List (Nat × Q_V) := [(7, .inl (nI j)), (5, .inl (nI k)), (4, .inl (nI 1)), (3, .inl (nI 0)), (2, .inl (s_cs S)), (1, .inl v), (0, w_x)]
abbrev h_B8 (S : Nat → Int32) (v : Int32) (k j i : Nat) : List (Nat × Q_V) := [(8, .inl (nI i)), (7, .inl (nI j)), (5, .inl (nI k)), (4, .inl (nI 1)), (3, .inl (nI 0)), (2, .inl (s_cs S)), (1, .inl v), (0, w_x)]
abbrev h_C (S : Nat → Int32) (v : Int32) (k : Nat) : List (Nat × Q_V) := [(5, .inl (nI k)), (4, .inl (nI 1)), (3, .inl v), (2, .inl (s_cs S)), (1, .inl (nI (s_cf S (s_n S)))), (0, w_x)]
abbrev h_T (S : Nat → Int32) : List (Nat × Q_V) := [(4, .inl (nI 1)), (3, .inl (nI (s_hv S 20))), (2, .inl (s_cs S)), (1, .inl (nI (s_cf S (s_n S)))), (0, w_x)]
/-- what the walk may use -/
def H_z (l : Launch) (b : Bool) (K : Option Q_V → Q_M → Prop) (Z : Q_Z) : Prop := (∀ stops n z pc ls st M, q_vc2 9 148 1000 (some .boolean) none (q_C2 l b) K TL_hangs Z stops n z pc ls st M → Z z pc ls st M) ∧ ∀ (ls' : List (Nat × Q_V)) z pc ls st M, Z z pc ls' st M → (∀ q ∈ ls', q ∈ ls) → Z z pc ls st M
section HW
variable {l : Launch} {b : Bool} {K : Option Q_V → Q_M → Prop} {Z : Q_Z} {M : Q_M} {S : Nat → Int32} {c : Nat}
set_option maxRecDepth 100000 in
theorem h_tail2 (hl0 : l.stackTraces = false) (hZ : H_z l b K Z) (hR : RC 0 M S) (g : GS S c) (h60 : c ≤ 60) (hK : K (some (.inl (nI 1))) M) {z : Nat} (hz0 : z ≤ 900) : Z z 624 (h_T S) [] M := by
  obtain ⟨hz, hw⟩ := hZ
  obtain ⟨w, x, zv, i⟩ := g
  obtain ⟨-, -, a, bb, ea, eb, hab⟩ := zv
  have wn := w.1.2
  have h1 := l_iw (S := S) (y := nI 3) (s_n S)
  have h2 := s_cf_le (S := S) (s_n S)
  apply hz [] 80
  refine And.intro (fun g => absurd g (by decide)) (fun _ => ?_)
  refine ⟨by omega, _, C2L (by decide) (by decide) (cL_idleWith_ct hl0), t_idleWith hR (k := 3) (by decide) ?_⟩
  refine ⟨by omega, _, q_C2i rfl (cX8_idle_ct hl0), S, hR, rfl, ?_⟩
  refine And.intro (fun g => absurd ((nI_ltI (by omega) (by omega)).mp g) (by omega)) (fun _ => ?_)
  refine ⟨by omega, _, q_C2i rfl (cX8_hitShare_ct hl0), S, a, bb, hR, ea, eb, by omega, rfl, ?_⟩
  refine And.intro (fun g => absurd g (f_share1 (by omega) (by omega))) (fun _ => ?_)
  exact ⟨Or.inr rfl, hK⟩
set_option maxRecDepth 100000 in
theorem h_tail (hl0 : l.stackTraces = false) (hZ : H_z l b K Z) {h : Nat} {G : Nat → Nat → Int32} {kb : Nat → Int32} {T : Nat → Nat → Int32} {n : Nat} {tx : Nat → Nat} (hc : CV M S h G kb T n tx) (g : GS S c) (h60 : c ≤ 60) (hK : ∀ M', CV M' S h G kb T n tx → K (some (.inl (nI 1))) M') {z : Nat} (hz0 : z ≤ 880) : Z z 513 (h_T S) [] M := by
  obtain ⟨hz, hw⟩ := id hZ
  obtain ⟨w, x, zv, i⟩ := id g
  have hR : RC 0 M S := hc.1
  have wn := w.1.2
  have h2 := s_cf_le (S := S) (s_n S)
  have e570 : ∀ z : Nat, z ≤ 885 → Z z 570 (h_T S) [] M := by
    intro z hz0
    apply hz [621, 622, 624] 60
    refine And.intro (fun g => absurd g (by decide)) (fun _ => ?_)
    refine ⟨by omega, _, q_C2i rfl (cX8_waiting_ct hl0), S, hR, rfl, ?_⟩
    by_cases cq : s_q S = 0
    · have e0 : S 145 = 0 := by rw [w.2.1.1, cq]; exact nI_0
      rw [e0]
      exact And.intro (fun _ => h_tail2 hl0 hZ hR g h60 (hK M hc) (by omega)) (fun g => absurd (Int32.le_refl 0) g)
    · have hq0 : 0 < s_q S := by omega
      obtain ⟨y, hy, ey⟩ := w.2.2.2.2.2.2.1 0 hq0
      have ey : S 146 = nI y := ey
      have hqd : s_qd S (nI y) (s_q S) = some 0 := s_qd_at hq0 ey (fun k hk hne e => w.2.2.2.2.2.2.2.2.1 k 0 hk hq0 hne (e.trans ey.symm))
      obtain ⟨v, hv, ev⟩ := x.2.1 0 hq0
      have ev : S 206 - S 148 = nI v := ev
      have hts := l_ts (x := y) 99 0 S
      have hq20 := w.2.1.2
      refine And.intro (fun g => absurd (by rw [w.2.1.1] at g; exact (nI_leI (show s_q S < 2 ^ 31 by omega) (show 0 < 2 ^ 31 by omega)).mp g) (show ¬ s_q S ≤ 0 by omega)) (fun _ => ?_)
      refine ⟨by omega, _, C2L (by decide) (by decide) (cL_waiter_ct hl0), t_waiter hR (k := 0) hq0 ?_⟩
      rw [show S (146 + 3 * 0) = nI y from ey]
      refine ⟨by omega, _, C2L (by decide) (by decide) (cL_toServe_ct hl0), t_toServe hc hy hqd (fun M' hc' => ?_)⟩
      have hR' : RC 0 M' S := hc'.1
      refine And.intro (fun g => absurd g (i_nI (by omega))) (fun _ => ?_)
      refine And.intro (fun (g : nI 99 < nI (s_ts y 99 0 S)) => absurd ((nI_ltI (by omega) (by omega)).mp g) (by omega)) (fun _ => ?_)
      refine ⟨by omega, _, C2L (by decide) (by decide) (cL_waiter_ct hl0), t_waiter hR' (k := 0) hq0 ?_⟩
      rw [show S (146 + 3 * 0) = nI y from ey]
      refine ⟨by omega, _, C2L (by decide) (by decide) (cL_waitOf_ct hl0), t_waitOf hR' hy hqd ?_⟩
      rw [show S 206 - S (148 + 3 * 0) = nI v from ev]
      refine And.intro (fun g => absurd g (i_nI (by omega))) (fun _ => ?_)
      apply hz [624] 10
      refine hw _ _ _ _ _ _ (h_tail2 (z := z + 0 + 1 + 2 + 1 + 2) hl0 hZ hR' g h60 (hK M' hc') (by omega)) (fun q hq => by
          simp only [List.mem_cons, List.not_mem_nil, or_false] at hq
          rcases hq with rfl | rfl | rfl | rfl | rfl
          all_goals first | exact List.Mem.head _ | exact List.Mem.tail _ (List.Mem.head _) | exact List.Mem.tail _ (List.Mem.tail _ (List.Mem.head _)) | exact List.Mem.tail _ (List.Mem.tail _ (List.Mem.tail _ (List.Mem.head _))) | exact List.Mem.tail _ (List.Mem.tail _ (List.Mem.tail _ (List.Mem.tail _ (List.Mem.head _)))) | exact List.Mem.tail _ (List.Mem.tail _ (List.Mem.tail _ (List.Mem.tail _ (List.Mem.tail _ (List.Mem.head _))))) | exact List.Mem.tail _ (List.Mem.tail _ (List.Mem.tail _ (List.Mem.tail _ (List.Mem.tail _ (List.Mem.tail _ (List.Mem.head _)))))) | exact List.Mem.tail _ (List.Mem.tail _ (List.Mem.tail _ (List.Mem.tail _ (List.Mem.tail _ (List.Mem.tail _ (List.Mem.tail _ (List.Mem.head _))))))) | exact List.Mem.tail _ (List.Mem.tail _ (List.Mem.tail _ (List.Mem.tail _ (List.Mem.tail _ (List.Mem.tail _ (List.Mem.tail _ (List.Mem.tail _ (List.Mem.head _)))))))) | exact List.Mem.tail _ (List.Mem.tail _ (List.Mem.tail _ (List.Mem.tail _ (List.Mem.tail _ (List.Mem.tail _ (List.Mem.tail _ (List.Mem.tail _ (List.Mem.tail _ (List.Mem.head _))))))))))
  have e563 : ∀ z : Nat, z ≤ 885 → Z z 563 (h_T S) [] M := by
    intro z hz0
    apply hz [570] 20
    refine hw _ _ _ _ _ _ (e570 z hz0) (fun q hq => by
          simp only [List.mem_cons, List.not_mem_nil, or_false] at hq
          rcases hq with rfl | rfl | rfl | rfl | rfl
          all_goals first | exact List.Mem.head _ | exact List.Mem.tail _ (List.Mem.head _) | exact List.Mem.tail _ (List.Mem.tail _ (List.Mem.head _)) | exact List.Mem.tail _ (List.Mem.tail _ (List.Mem.tail _ (List.Mem.head _))) | exact List.Mem.tail _ (List.Mem.tail _ (List.Mem.tail _ (List.Mem.tail _ (List.Mem.head _)))) | exact List.Mem.tail _ (List.Mem.tail _ (List.Mem.tail _ (List.Mem.tail _ (List.Mem.tail _ (List.Mem.head _))))) | exact List.Mem.tail _ (List.Mem.tail _ (List.Mem.tail _ (List.Mem.tail _ (List.Mem.tail _ (List.Mem.tail _ (List.Mem.head _)))))) | exact List.Mem.tail _ (List.Mem.tail _ (List.Mem.tail _ (List.Mem.tail _ (List.Mem.tail _ (List.Mem.tail _ (List.Mem.tail _ (List.Mem.head _))))))) | exact List.Mem.tail _ (List.Mem.tail _ (List.Mem.tail _ (List.Mem.tail _ (List.Mem.tail _ (List.Mem.tail _ (List.Mem.tail _ (List.Mem.tail _ (List.Mem.head _)))))))) | exact List.Mem.tail _ (List.Mem.tail _ (List.Mem.tail _ (List.Mem.tail _ (List.Mem.tail _ (List.Mem.tail _ (List.Mem.tail _ (List.Mem.tail _ (List.Mem.tail _ (List.Mem.head _))))))))))
  apply hz [563, 567] 60
  refine And.intro (fun g => absurd g (by decide)) (fun _ => ?_)
  refine ⟨by omega, _, q_C2i rfl (cX8_idle_ct hl0), S, hR, rfl, ?_⟩
  refine And.intro (fun _ => ?_) (fun g => absurd rfl g)
  refine ⟨by omega, _, q_C2i rfl (cX8_opened_ct hl0), S, hR, rfl, ?_⟩
  refine ⟨by omega, _, q_C2i rfl (cX8_livingByGoing_ct hl0), S, hR, rfl, ?_⟩
  refine And.intro (fun _ => ?_) (fun g => absurd (l_gone w x) g)
  refine ⟨by omega, _, q_C2i rfl (cX8_leasedBySquirrels_ct hl0), S, hR, rfl, ?_⟩
  refine And.intro (fun _ => ?_) (fun g => absurd rfl g)
  refine ⟨by omega, _, q_C2i rfl (cX8_idle_ct hl0), S, hR, rfl, ?_⟩
  refine And.intro (fun _ => e563 _ (by omega)) (fun g => ?_)
  have c0 : s_cf S (s_n S) = 0 := by
    by_cases cc : s_cf S (s_n S) = 0
    · exact cc
    · exact absurd ((nI_ltI (show 0 < 2 ^ 31 by omega) (show s_cf S (s_n S) < 2 ^ 31 by omega)).mpr (show 0 < s_cf S (s_n S) by omega)) g
  refine ⟨by omega, _, C2L (by decide) (by decide) (cL_nextLent_ct hl0), t_nextLentX hR (l_none c0) ?_⟩
  exact And.intro (fun _ => e563 _ (by omega)) (fun g => absurd rfl g)
set_option maxRecDepth 100000 in
theorem h_loopC (hl0 : l.stackTraces = false) (hZ : H_z l b K Z) {h : Nat} {G : Nat → Nat → Int32} {kb : Nat → Int32} {T : Nat → Nat → Int32} {n : Nat} {tx : Nat → Nat} (hc : CV M S h G kb T n tx) (g : GS S c) (h60 : c ≤ 60) (hK : ∀ M', CV M' S h G kb T n tx → K (some (.inl (nI 1))) M') : ∀ (d k z : Nat), k + d = 20 → z ≤ 610 + 13 * k → Z z 406 (h_C S (nI (s_hv S k)) k) [] M := by
  obtain ⟨hz, hw⟩ := id hZ
  obtain ⟨w, x, zv, i⟩ := id g
  have hR : RC 0 M S := hc.1
  intro d
  induction d with
  | zero =>
    intro k z hk hzz
    obtain rfl : k = 20 := by omega
    apply hz [513] 20
    refine And.intro (fun _ => ?_) (fun g => absurd (show nI 20 ≤ nI 20 from nI_le (by omega) (by omega)) g)
    refine hw _ _ _ _ _ _ (h_tail (z := z) hl0 hZ hc g h60 hK (by omega)) (fun q hq => by
          simp only [List.mem_cons, List.not_mem_nil, or_false] at hq
          rcases hq with rfl | rfl | rfl | rfl | rfl
          all_goals first | exact List.Mem.head _ | exact List.Mem.tail _ (List.Mem.head _) | exact List.Mem.tail _ (List.Mem.tail _ (List.Mem.head _)) | exact List.Mem.tail _ (List.Mem.tail _ (List.Mem.tail _ (List.Mem.head _))) | exact List.Mem.tail _ (List.Mem.tail _ (List.Mem.tail _ (List.Mem.tail _ (List.Mem.head _)))) | exact List.Mem.tail _ (List.Mem.tail _ (List.Mem.tail _ (List.Mem.tail _ (List.Mem.tail _ (List.Mem.head _))))) | exact List.Mem.tail _ (List.Mem.tail _ (List.Mem.tail _ (List.Mem.tail _ (List.Mem.tail _ (List.Mem.tail _ (List.Mem.head _)))))) | exact List.Mem.tail _ (List.Mem.tail _ (List.Mem.tail _ (List.Mem.tail _ (List.Mem.tail _ (List.Mem.tail _ (List.Mem.tail _ (List.Mem.head _))))))) | exact List.Mem.tail _ (List.Mem.tail _ (List.Mem.tail _ (List.Mem.tail _ (List.Mem.tail _ (List.Mem.tail _ (List.Mem.tail _ (List.Mem.tail _ (List.Mem.head _)))))))) | exact List.Mem.tail _ (List.Mem.tail _ (List.Mem.tail _ (List.Mem.tail _ (List.Mem.tail _ (List.Mem.tail _ (List.Mem.tail _ (List.Mem.tail _ (List.Mem.tail _ (List.Mem.head _))))))))))
  | succ d ih =>
    intro k z hk hzz
    have hk20 : k < 20 := by omega
    have e500 : ∀ z : Nat, z ≤ 610 + 13 * (k + 1) → Z z 500 (h_C S (nI (s_hv S (k + 1))) k) [] M := by
      intro z hzz
      apply hz [406] 20
      have h := ih (k + 1) z (by omega) hzz
      unfold h_C at h
      rw [← nI_add k 1] at h
      refine hw _ _ _ _ _ _ h (fun q hq => by
          simp only [List.mem_cons, List.not_mem_nil, or_false] at hq
          rcases hq with rfl | rfl | rfl | rfl | rfl | rfl
          all_goals first | exact List.Mem.head _ | exact List.Mem.tail _ (List.Mem.head _) | exact List.Mem.tail _ (List.Mem.tail _ (List.Mem.head _)) | exact List.Mem.tail _ (List.Mem.tail _ (List.Mem.tail _ (List.Mem.head _))) | exact List.Mem.tail _ (List.Mem.tail _ (List.Mem.tail _ (List.Mem.tail _ (List.Mem.head _)))) | exact List.Mem.tail _ (List.Mem.tail _ (List.Mem.tail _ (List.Mem.tail _ (List.Mem.tail _ (List.Mem.head _))))) | exact List.Mem.tail _ (List.Mem.tail _ (List.Mem.tail _ (List.Mem.tail _ (List.Mem.tail _ (List.Mem.tail _ (List.Mem.head _)))))) | exact List.Mem.tail _ (List.Mem.tail _ (List.Mem.tail _ (List.Mem.tail _ (List.Mem.tail _ (List.Mem.tail _ (List.Mem.tail _ (List.Mem.head _))))))) | exact List.Mem.tail _ (List.Mem.tail _ (List.Mem.tail _ (List.Mem.tail _ (List.Mem.tail _ (List.Mem.tail _ (List.Mem.tail _ (List.Mem.tail _ (List.Mem.head _)))))))) | exact List.Mem.tail _ (List.Mem.tail _ (List.Mem.tail _ (List.Mem.tail _ (List.Mem.tail _ (List.Mem.tail _ (List.Mem.tail _ (List.Mem.tail _ (List.Mem.tail _ (List.Mem.head _))))))))))
    have e469 : ∀ z : Nat, z ≤ 617 + 13 * k → Z z 469 (h_C S (nI (s_hv S (k + 1))) k) [] M := by
      intro z hzz
      apply hz [500] 30
      refine ⟨by omega, _, C2L (by decide) (by decide) (cL_has_ct hl0), t_has hR hk20 ?_⟩
      cases hl : s_lk S (nI k) (s_n S) with
      | none =>
        refine And.intro (fun _ => e500 _ (by omega)) (fun g => ?_)
        exact absurd (show q_bi (¬ (none : Option Nat) = none) = 0 by decide) g
      | some p =>
        refine And.intro (fun g => ?_) (fun _ => ?_)
        · exact absurd g (show ¬ q_bi (¬ (some p : Option Nat) = none) = 0 by rw [q_bi_t (fun g => nomatch g)]; decide)
        · have hp := (s_lk_lt hl).1
          have hll := l_left i (show 10000 * c < 1000000000 by omega) hp
          refine ⟨by omega, _, C2L (by decide) (by decide) (cL_leaseLeft_ct hl0), t_leaseLeft hR hk20 hl ?_⟩
          refine And.intro (fun (g : s_ll S p < nI 1) => ?_) (fun _ => ?_)
          · rw [Int32.lt_iff_toInt_lt, nI_toInt (by omega)] at g
            omega
          · refine ⟨by omega, _, C2L (by decide) (by decide) (cL_leaseLeft_ct hl0), t_leaseLeft hR hk20 hl ?_⟩
            refine And.intro (fun (g : nI 999 < s_ll S p) => ?_) (fun _ => e500 _ (by omega))
            rw [Int32.lt_iff_toInt_lt, nI_toInt (by omega)] at g
            omega
    have e445 : ∀ z : Nat, z ≤ 613 + 13 * k → Z z 445 (h_C S (nI (s_hv S (k + 1))) k) [] M := by
      intro z hzz
      apply hz [469] 30
      refine ⟨by omega, _, C2L (by decide) (by decide) (cL_waiting_ct hl0), t_waiting hR hk20 ?_⟩
      cases hj : s_qd S (nI k) (s_q S) with
      | none =>
        refine And.intro (fun _ => e469 _ (by omega)) (fun g => ?_)
        exact absurd (show q_bi (¬ (none : Option Nat) = none) = 0 by decide) g
      | some j =>
        refine And.intro (fun g => ?_) (fun _ => ?_)
        · exact absurd g (show ¬ q_bi (¬ (some j : Option Nat) = none) = 0 by rw [q_bi_t (fun g => nomatch g)]; decide)
        · obtain ⟨j1, j2⟩ := s_qd_lt hj
          refine ⟨by omega, _, C2L (by decide) (by decide) (cL_queueOf_ct hl0), t_queueOf hR hk20 hj ?_⟩
          refine ⟨by omega, _, C2L (by decide) (by decide) (cL_waiter_ct hl0), t_waiter hR j1 ?_⟩
          exact And.intro (fun _ => e469 _ (by omega)) (fun g => absurd j2 g)
    have e427 : ∀ z : Nat, z ≤ 611 + 13 * k → Z z 427 (h_C S (nI (s_hv S (k + 1))) k) [] M := by
      intro z hzz
      apply hz [445] 30
      refine ⟨by omega, _, C2L (by decide) (by decide) (cL_has_ct hl0), t_has hR hk20 ?_⟩
      cases hl : s_lk S (nI k) (s_n S) with
      | none =>
        refine And.intro (fun _ => e445 _ (by omega)) (fun g => ?_)
        exact absurd (show q_bi (¬ (none : Option Nat) = none) = 0 by decide) g
      | some p =>
        refine And.intro (fun g => ?_) (fun _ => ?_)
        · exact absurd g (show ¬ q_bi (¬ (some p : Option Nat) = none) = 0 by rw [q_bi_t (fun g => nomatch g)]; decide)
        · refine ⟨by omega, _, C2L (by decide) (by decide) (cL_waiting_ct hl0), t_waiting hR hk20 ?_⟩
          cases hj : s_qd S (nI k) (s_q S) with
          | none => exact And.intro (fun _ => e445 _ (by omega)) (fun g => absurd (show q_bi (¬ (none : Option Nat) = none) = 0 by decide) g)
          | some j => exact absurd (u_both w hl hj) (fun g => g)
    apply hz [427] 40
    refine And.intro (fun (g : nI 20 ≤ nI k) => absurd ((nI_leI (by omega) (by omega)).mp g) (by omega)) (fun _ => ?_)
    refine And.intro (fun g => absurd g (by decide)) (fun _ => ?_)
    refine ⟨by omega, _, C2L (by decide) (by decide) (cL_has_ct hl0), t_has hR hk20 ?_⟩
    have ev : nI (s_hv S (k + 1)) = nI (s_hv S k) + q_bi (¬ s_lk S (nI k) (s_n S) = none) := by
      by_cases hl : s_lk S (nI k) (s_n S) = none
      · rw [u_hv_n hl, q_bi_f (fun g => g hl), nI_0, Int32.add_zero]
      · rw [u_hv_s hl, q_bi_t hl, nI_add]
    have h := e427 (z + 1) (by omega)
    unfold h_C at h
    rw [ev] at h
    refine hw _ _ _ _ _ _ h (fun q hq => by
          simp only [List.mem_cons, List.not_mem_nil, or_false] at hq
          rcases hq with rfl | rfl | rfl | rfl | rfl | rfl
          all_goals first | exact List.Mem.head _ | exact List.Mem.tail _ (List.Mem.head _) | exact List.Mem.tail _ (List.Mem.tail _ (List.Mem.head _)) | exact List.Mem.tail _ (List.Mem.tail _ (List.Mem.tail _ (List.Mem.head _))) | exact List.Mem.tail _ (List.Mem.tail _ (List.Mem.tail _ (List.Mem.tail _ (List.Mem.head _)))) | exact List.Mem.tail _ (List.Mem.tail _ (List.Mem.tail _ (List.Mem.tail _ (List.Mem.tail _ (List.Mem.head _))))) | exact List.Mem.tail _ (List.Mem.tail _ (List.Mem.tail _ (List.Mem.tail _ (List.Mem.tail _ (List.Mem.tail _ (List.Mem.head _)))))) | exact List.Mem.tail _ (List.Mem.tail _ (List.Mem.tail _ (List.Mem.tail _ (List.Mem.tail _ (List.Mem.tail _ (List.Mem.tail _ (List.Mem.head _))))))) | exact List.Mem.tail _ (List.Mem.tail _ (List.Mem.tail _ (List.Mem.tail _ (List.Mem.tail _ (List.Mem.tail _ (List.Mem.tail _ (List.Mem.tail _ (List.Mem.head _)))))))) | exact List.Mem.tail _ (List.Mem.tail _ (List.Mem.tail _ (List.Mem.tail _ (List.Mem.tail _ (List.Mem.tail _ (List.Mem.tail _ (List.Mem.tail _ (List.Mem.tail _ (List.Mem.head _))))))))))
set_option maxRecDepth 100000 in
theorem h_nuts (hl0 : l.stackTraces = false) (hZ : H_z l b K Z) (hR : RC 0 M S) (g : GS S c) {v : Int32} {k zB : Nat} (hkn : k < s_n S) (hzB : zB ≤ 580) (hE : ∀ z, z ≤ zB + 30 → Z z 397 (h_B S v k) [] M) : ∀ (d j z : Nat), j + d = s_c S k → z ≤ zB + j + 4 * (j * (j - 1) / 2) → Z z 328 (h_B7 S v k j) [] M := by
  obtain ⟨hz, hw⟩ := id hZ
  obtain ⟨w, x, zv, i⟩ := id g
  obtain ⟨e8, c4⟩ := t_c (w := w) hkn
  have hnn := i.2.2.2.2.1 k hkn
  intro d
  induction d with
  | zero =>
    intro j z hj hzz
    obtain rfl : j = s_c S k := by omega
    have hb : s_c S k = 0 ∨ s_c S k = 1 ∨ s_c S k = 2 ∨ s_c S k = 3 ∨ s_c S k = 4 := by omega
    have hz2 : z + 1 ≤ zB + 30 := by rcases hb with e | e | e | e | e <;> rw [e] at hzz <;> omega
    apply hz [397] 20
    refine ⟨by omega, _, C2L (by decide) (by decide) (cL_nuts_ct hl0), t_nuts hR hkn ?_⟩
    rw [e8]
    refine And.intro (fun _ => ?_) (fun g => absurd (nI_le (Nat.le_refl _) (by omega)) g)
    refine hw _ _ _ _ _ _ (hE (z + 1) hz2) (fun q hq => by
          simp only [List.mem_cons, List.not_mem_nil, or_false] at hq
          rcases hq with rfl | rfl | rfl | rfl | rfl | rfl
          all_goals first | exact List.Mem.head _ | exact List.Mem.tail _ (List.Mem.head _) | exact List.Mem.tail _ (List.Mem.tail _ (List.Mem.head _)) | exact List.Mem.tail _ (List.Mem.tail _ (List.Mem.tail _ (List.Mem.head _))) | exact List.Mem.tail _ (List.Mem.tail _ (List.Mem.tail _ (List.Mem.tail _ (List.Mem.head _)))) | exact List.Mem.tail _ (List.Mem.tail _ (List.Mem.tail _ (List.Mem.tail _ (List.Mem.tail _ (List.Mem.head _))))) | exact List.Mem.tail _ (List.Mem.tail _ (List.Mem.tail _ (List.Mem.tail _ (List.Mem.tail _ (List.Mem.tail _ (List.Mem.head _)))))) | exact List.Mem.tail _ (List.Mem.tail _ (List.Mem.tail _ (List.Mem.tail _ (List.Mem.tail _ (List.Mem.tail _ (List.Mem.tail _ (List.Mem.head _))))))) | exact List.Mem.tail _ (List.Mem.tail _ (List.Mem.tail _ (List.Mem.tail _ (List.Mem.tail _ (List.Mem.tail _ (List.Mem.tail _ (List.Mem.tail _ (List.Mem.head _)))))))) | exact List.Mem.tail _ (List.Mem.tail _ (List.Mem.tail _ (List.Mem.tail _ (List.Mem.tail _ (List.Mem.tail _ (List.Mem.tail _ (List.Mem.tail _ (List.Mem.tail _ (List.Mem.head _))))))))))
  | succ d ih =>
    intro j z hj hzz
    have hjc : j < s_c S k := by omega
    have hb : j = 0 ∨ j = 1 ∨ j = 2 ∨ j = 3 := by omega
    have inner : ∀ (d i z : Nat), i + d = j → z ≤ zB + j + 4 * (j * (j - 1) / 2) + 1 + 4 * i → Z z 347 (h_B8 S v k j i) [] M := by
      intro d
      induction d with
      | zero =>
        intro i z hi hzz
        obtain rfl : i = j := by omega
        apply hz [328] 20
        refine And.intro (fun _ => ?_) (fun g => absurd (nI_le (Nat.le_refl _) (by omega)) g)
        have h := ih (i + 1) z (by omega) (by rcases hb with e | e | e | e <;> subst e <;> omega)
        unfold h_B7 at h
        rw [← nI_add i 1] at h
        refine hw _ _ _ _ _ _ h (fun q hq => by
          simp only [List.mem_cons, List.not_mem_nil, or_false] at hq
          rcases hq with rfl | rfl | rfl | rfl | rfl | rfl | rfl
          all_goals first | exact List.Mem.head _ | exact List.Mem.tail _ (List.Mem.head _) | exact List.Mem.tail _ (List.Mem.tail _ (List.Mem.head _)) | exact List.Mem.tail _ (List.Mem.tail _ (List.Mem.tail _ (List.Mem.head _))) | exact List.Mem.tail _ (List.Mem.tail _ (List.Mem.tail _ (List.Mem.tail _ (List.Mem.head _)))) | exact List.Mem.tail _ (List.Mem.tail _ (List.Mem.tail _ (List.Mem.tail _ (List.Mem.tail _ (List.Mem.head _))))) | exact List.Mem.tail _ (List.Mem.tail _ (List.Mem.tail _ (List.Mem.tail _ (List.Mem.tail _ (List.Mem.tail _ (List.Mem.head _)))))) | exact List.Mem.tail _ (List.Mem.tail _ (List.Mem.tail _ (List.Mem.tail _ (List.Mem.tail _ (List.Mem.tail _ (List.Mem.tail _ (List.Mem.head _))))))) | exact List.Mem.tail _ (List.Mem.tail _ (List.Mem.tail _ (List.Mem.tail _ (List.Mem.tail _ (List.Mem.tail _ (List.Mem.tail _ (List.Mem.tail _ (List.Mem.head _)))))))) | exact List.Mem.tail _ (List.Mem.tail _ (List.Mem.tail _ (List.Mem.tail _ (List.Mem.tail _ (List.Mem.tail _ (List.Mem.tail _ (List.Mem.tail _ (List.Mem.tail _ (List.Mem.head _))))))))))
      | succ d ih2 =>
        intro i z hi hzz
        have hij : i < j := by omega
        apply hz [347] 40
        refine And.intro (fun g => absurd ((nI_leI (show j < 2 ^ 31 by omega) (show i < 2 ^ 31 by omega)).mp g) (by omega)) (fun _ => ?_)
        refine And.intro (fun g => absurd g (by decide)) (fun _ => ?_)
        refine ⟨by rcases hb with e | e | e | e <;> subst e <;> omega, _, C2L (by decide) (by decide) (cL_nut_ct hl0), t_nut hR hkn (show i < s_c S k by omega) ?_⟩
        refine ⟨by rcases hb with e | e | e | e <;> subst e <;> omega, _, C2L (by decide) (by decide) (cL_nut_ct hl0), t_nut hR hkn hjc ?_⟩
        refine And.intro (fun g => absurd g (hnn i j hij hjc)) (fun _ => ?_)
        have h := ih2 (i + 1) (z + 2 + 2) (by omega) (by omega)
        unfold h_B8 at h
        rw [← nI_add i 1] at h
        refine hw _ _ _ _ _ _ h (fun q hq => by
          simp only [List.mem_cons, List.not_mem_nil, or_false] at hq
          rcases hq with rfl | rfl | rfl | rfl | rfl | rfl | rfl | rfl
          all_goals first | exact List.Mem.head _ | exact List.Mem.tail _ (List.Mem.head _) | exact List.Mem.tail _ (List.Mem.tail _ (List.Mem.head _)) | exact List.Mem.tail _ (List.Mem.tail _ (List.Mem.tail _ (List.Mem.head _))) | exact List.Mem.tail _ (List.Mem.tail _ (List.Mem.tail _ (List.Mem.tail _ (List.Mem.head _)))) | exact List.Mem.tail _ (List.Mem.tail _ (List.Mem.tail _ (List.Mem.tail _ (List.Mem.tail _ (List.Mem.head _))))) | exact List.Mem.tail _ (List.Mem.tail _ (List.Mem.tail _ (List.Mem.tail _ (List.Mem.tail _ (List.Mem.tail _ (List.Mem.head _)))))) | exact List.Mem.tail _ (List.Mem.tail _ (List.Mem.tail _ (List.Mem.tail _ (List.Mem.tail _ (List.Mem.tail _ (List.Mem.tail _ (List.Mem.head _))))))) | exact List.Mem.tail _ (List.Mem.tail _ (List.Mem.tail _ (List.Mem.tail _ (List.Mem.tail _ (List.Mem.tail _ (List.Mem.tail _ (List.Mem.tail _ (List.Mem.head _)))))))) | exact List.Mem.tail _ (List.Mem.tail _ (List.Mem.tail _ (List.Mem.tail _ (List.Mem.tail _ (List.Mem.tail _ (List.Mem.tail _ (List.Mem.tail _ (List.Mem.tail _ (List.Mem.head _))))))))))
    apply hz [347] 30
    refine ⟨by rcases hb with e | e | e | e <;> subst e <;> omega, _, C2L (by decide) (by decide) (cL_nuts_ct hl0), t_nuts hR hkn ?_⟩
    rw [e8]
    refine And.intro (fun g => absurd ((nI_leI (show s_c S k < 2 ^ 31 by omega) (show j < 2 ^ 31 by omega)).mp g) (by omega)) (fun _ => ?_)
    refine And.intro (fun g => absurd g (by decide)) (fun _ => ?_)
    refine hw _ _ _ _ _ _ (inner j 0 (z + 1) (by omega) (by omega)) (fun q hq => by
          simp only [List.mem_cons, List.not_mem_nil, or_false] at hq
          rcases hq with rfl | rfl | rfl | rfl | rfl | rfl | rfl | rfl
          all_goals first | exact List.Mem.head _ | exact List.Mem.tail _ (List.Mem.head _) | exact List.Mem.tail _ (List.Mem.tail _ (List.Mem.head _)) | exact List.Mem.tail _ (List.Mem.tail _ (List.Mem.tail _ (List.Mem.head _))) | exact List.Mem.tail _ (List.Mem.tail _ (List.Mem.tail _ (List.Mem.tail _ (List.Mem.head _)))) | exact List.Mem.tail _ (List.Mem.tail _ (List.Mem.tail _ (List.Mem.tail _ (List.Mem.tail _ (List.Mem.head _))))) | exact List.Mem.tail _ (List.Mem.tail _ (List.Mem.tail _ (List.Mem.tail _ (List.Mem.tail _ (List.Mem.tail _ (List.Mem.head _)))))) | exact List.Mem.tail _ (List.Mem.tail _ (List.Mem.tail _ (List.Mem.tail _ (List.Mem.tail _ (List.Mem.tail _ (List.Mem.tail _ (List.Mem.head _))))))) | exact List.Mem.tail _ (List.Mem.tail _ (List.Mem.tail _ (List.Mem.tail _ (List.Mem.tail _ (List.Mem.tail _ (List.Mem.tail _ (List.Mem.tail _ (List.Mem.head _)))))))) | exact List.Mem.tail _ (List.Mem.tail _ (List.Mem.tail _ (List.Mem.tail _ (List.Mem.tail _ (List.Mem.tail _ (List.Mem.tail _ (List.Mem.tail _ (List.Mem.tail _ (List.Mem.head _))))))))))
set_option maxRecDepth 100000 in
theorem h_one (hl0 : l.stackTraces = false) (hZ : H_z l b K Z) (hR : RC 0 M S) (g : GS S c) (h60 : c ≤ 60) {v : Int32} {k zB : Nat} (hkn : k < s_n S) (hzB : zB ≤ 560) (hE : ∀ z, z ≤ zB + 17 → Z z 318 (h_B S v k) [] M) {s6 : Int32} (h6 : s6 = q_bi (S (3 + 12 * k) < 0)) : Z zB 142 (h_B6 S v s6 k) [] M := by
  obtain ⟨hz, hw⟩ := id hZ
  obtain ⟨w, x, zv, i⟩ := id g
  have wn := w.1.2
  obtain ⟨e8, c4⟩ := t_c (w := w) hkn
  have hB : 10000 * c < 1000000000 := by omega
  have e164 : ∀ z, z ≤ zB + 2 → Z z 164 (h_B6 S v s6 k) [] M := by
    intro z hzz
    have e318 : ∀ z, z ≤ zB + 17 → Z z 318 (h_B6 S v s6 k) [] M := by
      intro z hzz
      refine hw _ _ _ _ _ _ (hE z hzz) (fun q hq => by
          simp only [List.mem_cons, List.not_mem_nil, or_false] at hq
          rcases hq with rfl | rfl | rfl | rfl | rfl | rfl
          all_goals first | exact List.Mem.head _ | exact List.Mem.tail _ (List.Mem.head _) | exact List.Mem.tail _ (List.Mem.tail _ (List.Mem.head _)) | exact List.Mem.tail _ (List.Mem.tail _ (List.Mem.tail _ (List.Mem.head _))) | exact List.Mem.tail _ (List.Mem.tail _ (List.Mem.tail _ (List.Mem.tail _ (List.Mem.head _)))) | exact List.Mem.tail _ (List.Mem.tail _ (List.Mem.tail _ (List.Mem.tail _ (List.Mem.tail _ (List.Mem.head _))))) | exact List.Mem.tail _ (List.Mem.tail _ (List.Mem.tail _ (List.Mem.tail _ (List.Mem.tail _ (List.Mem.tail _ (List.Mem.head _)))))) | exact List.Mem.tail _ (List.Mem.tail _ (List.Mem.tail _ (List.Mem.tail _ (List.Mem.tail _ (List.Mem.tail _ (List.Mem.tail _ (List.Mem.head _))))))) | exact List.Mem.tail _ (List.Mem.tail _ (List.Mem.tail _ (List.Mem.tail _ (List.Mem.tail _ (List.Mem.tail _ (List.Mem.tail _ (List.Mem.tail _ (List.Mem.head _)))))))) | exact List.Mem.tail _ (List.Mem.tail _ (List.Mem.tail _ (List.Mem.tail _ (List.Mem.tail _ (List.Mem.tail _ (List.Mem.tail _ (List.Mem.tail _ (List.Mem.tail _ (List.Mem.head _))))))))))
    apply hz [318] 60
    refine ⟨by omega, _, C2L (by decide) (by decide) (cL_numberAt_ct hl0), t_numberAt hR hkn ?_⟩
    refine ⟨by omega, _, q_C2i rfl (cX8_opened_ct hl0), S, hR, rfl, ?_⟩
    refine And.intro (fun g => absurd g (u_opened i hkn)) (fun _ => ?_)
    refine ⟨by omega, _, C2L (by decide) (by decide) (cL_ageAt_ct hl0), t_ageAt hR hkn ?_⟩
    refine ⟨by omega, _, C2L (by decide) (by decide) (cL_since_ct hl0), t_since hR hkn ?_⟩
    refine And.intro (fun g => absurd g (u_age i hB hkn)) (fun _ => ?_)
    refine ⟨by omega, _, C2L (by decide) (by decide) (cL_since_ct hl0), t_since hR hkn ?_⟩
    refine And.intro (fun g => absurd g (u_since i hB hkn)) (fun _ => ?_)
    refine ⟨by omega, _, C2L (by decide) (by decide) (cL_nuts_ct hl0), t_nuts hR hkn ?_⟩
    rw [e8]
    refine And.intro (fun (g : nI 4 < nI (s_c S k)) => absurd ((nI_ltI (by omega) (by omega)).mp g) (by omega)) (fun _ => ?_)
    by_cases hi : S (3 + 12 * k) < 0
    · rw [q_bi_t hi] at h6
      subst h6
      have htn := l_tn_lt hi (s_n S)
      rw [if_pos hkn] at htn
      have hcf := s_cf_le (S := S) (s_n S)
      have hnx := l_next w i hkn hi
      refine And.intro (fun g => absurd g q_n1) (fun _ => ?_)
      refine ⟨by omega, _, C2L (by decide) (by decide) (cL_who_ct hl0), t_whoX hR hkn hi ?_⟩
      refine And.intro (fun _ => ?_) (fun g => absurd rfl g)
      refine ⟨by omega, _, C2L (by decide) (by decide) (cL_turn_ct hl0), t_turn hR hkn hi ?_⟩
      refine And.intro (fun g => absurd g (i_nI (by omega))) (fun _ => ?_)
      refine ⟨by omega, _, C2L (by decide) (by decide) (cL_turn_ct hl0), t_turn hR hkn hi ?_⟩
      refine ⟨by omega, _, q_C2i rfl (cX8_idle_ct hl0), S, hR, rfl, ?_⟩
      refine And.intro (fun (g : nI (s_cf S (s_n S)) ≤ nI (s_tn S k (s_n S))) => absurd ((nI_leI (by omega) (by omega)).mp g) (by omega)) (fun _ => ?_)
      refine ⟨by omega, _, C2L (by decide) (by decide) (cL_turn_ct hl0), t_turn hR hkn hi ?_⟩
      refine And.intro (fun g => ?_) (fun g => ?_)
      · have ht0 : s_tn S k (s_n S) = 0 := (nI_eq (by omega) (by omega)).mp (g.trans nI_0.symm)
        refine ⟨by omega, _, C2L (by decide) (by decide) (cL_nextLent_ct hl0), t_nextLent hR (hnx.mp ht0) ?_⟩
        refine And.intro (fun _ => ?_) (fun g => absurd rfl g)
        exact And.intro (fun _ => e318 _ (by omega)) (fun g => absurd rfl g)
      · have ht0 : ¬ s_tn S k (s_n S) = 0 := fun e => g (by rw [e]; exact nI_0)
        cases hx : s_nx S with
        | none =>
          unfold s_nx at hx
          exact absurd hi (l_fo_none hx k hkn)
        | some q =>
          have hq := s_nx_lt hx
          have hne : ¬ q = k := fun e => ht0 (hnx.mpr (by rw [hx, e]))
          refine ⟨by omega, _, C2L (by decide) (by decide) (cL_nextLent_ct hl0), t_nextLent hR hx ?_⟩
          refine And.intro (fun g => absurd ((nI_eq (show q < 2 ^ 31 by omega) (show k < 2 ^ 31 by omega)).mp g) hne) (fun _ => ?_)
          exact And.intro (fun _ => e318 _ (by omega)) (fun g => absurd rfl g)
    · rw [q_bi_f hi] at h6
      subst h6
      obtain ⟨y, hy, ey, hlk⟩ := l_place w hkn hi
      refine And.intro (fun _ => ?_) (fun g => absurd nI_0 g)
      refine ⟨by omega, _, C2L (by decide) (by decide) (cL_turn_ct hl0), t_turnX hR hkn hi ?_⟩
      refine And.intro (fun _ => ?_) (fun g => absurd rfl g)
      refine ⟨by omega, _, C2L (by decide) (by decide) (cL_who_ct hl0), t_who hR hkn hi ?_⟩
      rw [ey]
      refine ⟨by omega, _, C2L (by decide) (by decide) (cL_place_ct hl0), t_place hR hy hlk ?_⟩
      refine And.intro (fun _ => ?_) (fun g => absurd rfl g)
      refine ⟨by omega, _, C2L (by decide) (by decide) (cL_lent_ct hl0), t_lent hR hkn ?_⟩
      exact And.intro (fun g => absurd g (u_lent i hkn (fun e => hi ((l_idle w hkn).mpr e)))) (fun _ => e318 _ (by omega))
  apply hz [164] 30
  refine And.intro (fun _ => e164 _ (by omega)) (fun g => ?_)
  have hk0 : 0 < k := by
    by_cases ck : k = 0
    · exact absurd (by rw [ck]; exact nI_0) g
    · omega
  refine ⟨by omega, _, C2L (by decide) (by decide) (cL_numberAt_ct hl0), t_numberAt hR hkn ?_⟩
  refine ⟨by omega, _, C2L (by decide) (by decide) (cL_numberAt_ct hl0), t_numberAt' hR (k := k - 1) (by omega) (pk_sub (b := 1) (by omega)) ?_⟩
  exact And.intro (fun g => absurd g (u_num i hkn hk0)) (fun _ => e164 _ (by omega))
set_option maxRecDepth 100000 in
theorem h_loopB (hl0 : l.stackTraces = false) (hZ : H_z l b K Z) {h : Nat} {G : Nat → Nat → Int32} {kb : Nat → Int32} {T : Nat → Nat → Int32} {n : Nat} {tx : Nat → Nat} (hc : CV M S h G kb T n tx) (g : GS S c) (h60 : c ≤ 60) (hK : ∀ M', CV M' S h G kb T n tx → K (some (.inl (nI 1))) M') : ∀ (d k z : Nat), k + d = s_n S → z ≤ 5 + 50 * k → Z z 98 (h_B S (nI (s_cf S k)) k) [] M := by
  obtain ⟨hz, hw⟩ := id hZ
  obtain ⟨w, x, zv, i⟩ := id g
  have hR : RC 0 M S := hc.1
  have wn := w.1.2
  intro d
  induction d with
  | zero =>
    intro k z hk hzz
    obtain rfl : k = s_n S := by omega
    apply hz [406] 20
    refine ⟨by omega, _, q_C2i rfl (cX8_livingByGoing_ct hl0), S, hR, rfl, ?_⟩
    refine And.intro (fun _ => ?_) (fun g => absurd (by rw [w.1.1]; exact nI_le (by omega) (by omega)) g)
    refine hw _ _ _ _ _ _ (h_loopC hl0 hZ hc g h60 hK 20 0 z (by omega) (by omega)) (fun q hq => by
          simp only [List.mem_cons, List.not_mem_nil, or_false] at hq
          rcases hq with rfl | rfl | rfl | rfl | rfl | rfl
          all_goals first | exact List.Mem.head _ | exact List.Mem.tail _ (List.Mem.head _) | exact List.Mem.tail _ (List.Mem.tail _ (List.Mem.head _)) | exact List.Mem.tail _ (List.Mem.tail _ (List.Mem.tail _ (List.Mem.head _))) | exact List.Mem.tail _ (List.Mem.tail _ (List.Mem.tail _ (List.Mem.tail _ (List.Mem.head _)))) | exact List.Mem.tail _ (List.Mem.tail _ (List.Mem.tail _ (List.Mem.tail _ (List.Mem.tail _ (List.Mem.head _))))) | exact List.Mem.tail _ (List.Mem.tail _ (List.Mem.tail _ (List.Mem.tail _ (List.Mem.tail _ (List.Mem.tail _ (List.Mem.head _)))))) | exact List.Mem.tail _ (List.Mem.tail _ (List.Mem.tail _ (List.Mem.tail _ (List.Mem.tail _ (List.Mem.tail _ (List.Mem.tail _ (List.Mem.head _))))))) | exact List.Mem.tail _ (List.Mem.tail _ (List.Mem.tail _ (List.Mem.tail _ (List.Mem.tail _ (List.Mem.tail _ (List.Mem.tail _ (List.Mem.tail _ (List.Mem.head _)))))))) | exact List.Mem.tail _ (List.Mem.tail _ (List.Mem.tail _ (List.Mem.tail _ (List.Mem.tail _ (List.Mem.tail _ (List.Mem.tail _ (List.Mem.tail _ (List.Mem.tail _ (List.Mem.head _))))))))))
  | succ d ih =>
    intro k z hk hzz
    have hkn : k < s_n S := by omega
    have e397 : ∀ z, z ≤ 5 + 50 * (k + 1) → Z z 397 (h_B S (nI (s_cf S (k + 1))) k) [] M := by
      intro z hzz
      apply hz [98] 10
      have h := ih (k + 1) z (by omega) hzz
      unfold h_B at h
      rw [← nI_add k 1] at h
      refine hw _ _ _ _ _ _ h (fun q hq => by
          simp only [List.mem_cons, List.not_mem_nil, or_false] at hq
          rcases hq with rfl | rfl | rfl | rfl | rfl | rfl
          all_goals first | exact List.Mem.head _ | exact List.Mem.tail _ (List.Mem.head _) | exact List.Mem.tail _ (List.Mem.tail _ (List.Mem.head _)) | exact List.Mem.tail _ (List.Mem.tail _ (List.Mem.tail _ (List.Mem.head _))) | exact List.Mem.tail _ (List.Mem.tail _ (List.Mem.tail _ (List.Mem.tail _ (List.Mem.head _)))) | exact List.Mem.tail _ (List.Mem.tail _ (List.Mem.tail _ (List.Mem.tail _ (List.Mem.tail _ (List.Mem.head _))))) | exact List.Mem.tail _ (List.Mem.tail _ (List.Mem.tail _ (List.Mem.tail _ (List.Mem.tail _ (List.Mem.tail _ (List.Mem.head _)))))) | exact List.Mem.tail _ (List.Mem.tail _ (List.Mem.tail _ (List.Mem.tail _ (List.Mem.tail _ (List.Mem.tail _ (List.Mem.tail _ (List.Mem.head _))))))) | exact List.Mem.tail _ (List.Mem.tail _ (List.Mem.tail _ (List.Mem.tail _ (List.Mem.tail _ (List.Mem.tail _ (List.Mem.tail _ (List.Mem.tail _ (List.Mem.head _)))))))) | exact List.Mem.tail _ (List.Mem.tail _ (List.Mem.tail _ (List.Mem.tail _ (List.Mem.tail _ (List.Mem.tail _ (List.Mem.tail _ (List.Mem.tail _ (List.Mem.tail _ (List.Mem.head _))))))))))
    have e318 : ∀ z, z ≤ 5 + 50 * k + 1 + 17 → Z z 318 (h_B S (nI (s_cf S (k + 1))) k) [] M := by
      intro z hzz
      apply hz [328] 20
      refine hw _ _ _ _ _ _ (h_nuts hl0 hZ hR g (v := nI (s_cf S (k + 1))) (zB := z) hkn (by omega) (fun z' hz' => e397 z' (by omega)) (s_c S k) 0 z (by omega) (by omega)) (fun q hq => by
          simp only [List.mem_cons, List.not_mem_nil, or_false] at hq
          rcases hq with rfl | rfl | rfl | rfl | rfl | rfl | rfl
          all_goals first | exact List.Mem.head _ | exact List.Mem.tail _ (List.Mem.head _) | exact List.Mem.tail _ (List.Mem.tail _ (List.Mem.head _)) | exact List.Mem.tail _ (List.Mem.tail _ (List.Mem.tail _ (List.Mem.head _))) | exact List.Mem.tail _ (List.Mem.tail _ (List.Mem.tail _ (List.Mem.tail _ (List.Mem.head _)))) | exact List.Mem.tail _ (List.Mem.tail _ (List.Mem.tail _ (List.Mem.tail _ (List.Mem.tail _ (List.Mem.head _))))) | exact List.Mem.tail _ (List.Mem.tail _ (List.Mem.tail _ (List.Mem.tail _ (List.Mem.tail _ (List.Mem.tail _ (List.Mem.head _)))))) | exact List.Mem.tail _ (List.Mem.tail _ (List.Mem.tail _ (List.Mem.tail _ (List.Mem.tail _ (List.Mem.tail _ (List.Mem.tail _ (List.Mem.head _))))))) | exact List.Mem.tail _ (List.Mem.tail _ (List.Mem.tail _ (List.Mem.tail _ (List.Mem.tail _ (List.Mem.tail _ (List.Mem.tail _ (List.Mem.tail _ (List.Mem.head _)))))))) | exact List.Mem.tail _ (List.Mem.tail _ (List.Mem.tail _ (List.Mem.tail _ (List.Mem.tail _ (List.Mem.tail _ (List.Mem.tail _ (List.Mem.tail _ (List.Mem.tail _ (List.Mem.head _))))))))))
    apply hz [142] 60
    refine ⟨by omega, _, q_C2i rfl (cX8_livingByGoing_ct hl0), S, hR, rfl, ?_⟩
    refine And.intro (fun g => absurd (by rw [w.1.1] at g; exact (nI_leI (by omega) (by omega)).mp g) (show ¬ s_n S ≤ k by omega)) (fun _ => ?_)
    refine And.intro (fun g => absurd g (by decide)) (fun _ => ?_)
    refine ⟨by omega, _, C2L (by decide) (by decide) (cL_isIdle_ct hl0), t_isIdle hR hkn ?_⟩
    by_cases hi : S (3 + 12 * k) < 0
    · refine And.intro (fun _ => ?_) (fun g => absurd (q_bi_1.mpr hi) g)
      refine And.intro (fun g => absurd g (by decide)) (fun _ => ?_)
      have h := h_one hl0 hZ hR g h60 (v := nI (s_cf S (k + 1))) (zB := z + 0 + 1) hkn (by omega) (fun z' hz' => e318 z' (by omega)) (s6 := nI 1) (by rw [q_bi_t hi])
      unfold h_B6 at h
      rw [u_cf_s hi, ← nI_add] at h
      refine hw _ _ _ _ _ _ h (fun q hq => by
          simp only [List.mem_cons, List.not_mem_nil, or_false] at hq
          rcases hq with rfl | rfl | rfl | rfl | rfl | rfl | rfl
          all_goals first | exact List.Mem.head _ | exact List.Mem.tail _ (List.Mem.head _) | exact List.Mem.tail _ (List.Mem.tail _ (List.Mem.head _)) | exact List.Mem.tail _ (List.Mem.tail _ (List.Mem.tail _ (List.Mem.head _))) | exact List.Mem.tail _ (List.Mem.tail _ (List.Mem.tail _ (List.Mem.tail _ (List.Mem.head _)))) | exact List.Mem.tail _ (List.Mem.tail _ (List.Mem.tail _ (List.Mem.tail _ (List.Mem.tail _ (List.Mem.head _))))) | exact List.Mem.tail _ (List.Mem.tail _ (List.Mem.tail _ (List.Mem.tail _ (List.Mem.tail _ (List.Mem.tail _ (List.Mem.head _)))))) | exact List.Mem.tail _ (List.Mem.tail _ (List.Mem.tail _ (List.Mem.tail _ (List.Mem.tail _ (List.Mem.tail _ (List.Mem.tail _ (List.Mem.head _))))))) | exact List.Mem.tail _ (List.Mem.tail _ (List.Mem.tail _ (List.Mem.tail _ (List.Mem.tail _ (List.Mem.tail _ (List.Mem.tail _ (List.Mem.tail _ (List.Mem.head _)))))))) | exact List.Mem.tail _ (List.Mem.tail _ (List.Mem.tail _ (List.Mem.tail _ (List.Mem.tail _ (List.Mem.tail _ (List.Mem.tail _ (List.Mem.tail _ (List.Mem.tail _ (List.Mem.head _))))))))))
    · refine And.intro (fun g => absurd (q_bi_1.mp g) hi) (fun _ => ?_)
      refine And.intro (fun _ => ?_) (fun g => absurd (show q_i 0 = 0 by decide) g)
      have h := h_one hl0 hZ hR g h60 (v := nI (s_cf S (k + 1))) (zB := z + 0 + 1) hkn (by omega) (fun z' hz' => e318 z' (by omega)) (s6 := nI 0) (by rw [q_bi_f hi])
      unfold h_B6 at h
      rw [u_cf_n hi, show nI (s_cf S k) = nI (s_cf S k) + nI 0 by rw [nI_0, Int32.add_zero]] at h
      refine hw _ _ _ _ _ _ h (fun q hq => by
          simp only [List.mem_cons, List.not_mem_nil, or_false] at hq
          rcases hq with rfl | rfl | rfl | rfl | rfl | rfl | rfl
          all_goals first | exact List.Mem.head _ | exact List.Mem.tail _ (List.Mem.head _) | exact List.Mem.tail _ (List.Mem.tail _ (List.Mem.head _)) | exact List.Mem.tail _ (List.Mem.tail _ (List.Mem.tail _ (List.Mem.head _))) | exact List.Mem.tail _ (List.Mem.tail _ (List.Mem.tail _ (List.Mem.tail _ (List.Mem.head _)))) | exact List.Mem.tail _ (List.Mem.tail _ (List.Mem.tail _ (List.Mem.tail _ (List.Mem.tail _ (List.Mem.head _))))) | exact List.Mem.tail _ (List.Mem.tail _ (List.Mem.tail _ (List.Mem.tail _ (List.Mem.tail _ (List.Mem.tail _ (List.Mem.head _)))))) | exact List.Mem.tail _ (List.Mem.tail _ (List.Mem.tail _ (List.Mem.tail _ (List.Mem.tail _ (List.Mem.tail _ (List.Mem.tail _ (List.Mem.head _))))))) | exact List.Mem.tail _ (List.Mem.tail _ (List.Mem.tail _ (List.Mem.tail _ (List.Mem.tail _ (List.Mem.tail _ (List.Mem.tail _ (List.Mem.tail _ (List.Mem.head _)))))))) | exact List.Mem.tail _ (List.Mem.tail _ (List.Mem.tail _ (List.Mem.tail _ (List.Mem.tail _ (List.Mem.tail _ (List.Mem.tail _ (List.Mem.tail _ (List.Mem.tail _ (List.Mem.head _))))))))))
end HW
set_option maxRecDepth 100000 in
theorem cL_hangs_ct {l : Launch} {b : Bool} (hl0 : l.stackTraces = false) : q_Ct l b 148 pL_hangs := by
  refine q_methS (Or.inr (Or.inr rfl)) TL_hangs kL_hangs ?_
  intro av M K KX hwf
  rintro ⟨S, h, G, kb, T, n, tx, c, hc, g, h60, rfl, hK⟩
  refine ⟨Nat.le_of_ble_eq_true rfl, fun Z hz hw => ?_⟩
  have hZ : H_z l b K Z := ⟨hz, hw⟩
  have hz : ∀ stops n z pc ls st M, q_vc2 9 148 1000 (some .boolean) none (q_C2 l b) K TL_hangs Z stops n z pc ls st M → Z z pc ls st M := hz
  have hR : RC 0 M S := hc.1
  obtain ⟨w, x, zv, i⟩ := id g
  have wn := w.1.2
  have loopA : ∀ (d k z : Nat), k + d = 5 → z ≤ k → Z z 74 (h_A S k) [] M := by
    intro d
    induction d with
    | zero =>
      intro k z hk hzz
      obtain rfl : k = 5 := by omega
      apply hz [98] 20
      refine And.intro (fun _ => ?_) (fun g => absurd (show nI 5 ≤ nI 5 from nI_le (by omega) (by omega)) g)
      have h := h_loopB hl0 hZ hc g h60 hK (s_n S) 0 z (by omega) (by omega)
      refine hw _ _ _ _ _ _ h (fun q hq => by
          simp only [List.mem_cons, List.not_mem_nil, or_false] at hq
          rcases hq with rfl | rfl | rfl | rfl | rfl | rfl
          all_goals first | exact List.Mem.head _ | exact List.Mem.tail _ (List.Mem.head _) | exact List.Mem.tail _ (List.Mem.tail _ (List.Mem.head _)) | exact List.Mem.tail _ (List.Mem.tail _ (List.Mem.tail _ (List.Mem.head _))) | exact List.Mem.tail _ (List.Mem.tail _ (List.Mem.tail _ (List.Mem.tail _ (List.Mem.head _)))) | exact List.Mem.tail _ (List.Mem.tail _ (List.Mem.tail _ (List.Mem.tail _ (List.Mem.tail _ (List.Mem.head _))))) | exact List.Mem.tail _ (List.Mem.tail _ (List.Mem.tail _ (List.Mem.tail _ (List.Mem.tail _ (List.Mem.tail _ (List.Mem.head _)))))) | exact List.Mem.tail _ (List.Mem.tail _ (List.Mem.tail _ (List.Mem.tail _ (List.Mem.tail _ (List.Mem.tail _ (List.Mem.tail _ (List.Mem.head _))))))) | exact List.Mem.tail _ (List.Mem.tail _ (List.Mem.tail _ (List.Mem.tail _ (List.Mem.tail _ (List.Mem.tail _ (List.Mem.tail _ (List.Mem.tail _ (List.Mem.head _)))))))) | exact List.Mem.tail _ (List.Mem.tail _ (List.Mem.tail _ (List.Mem.tail _ (List.Mem.tail _ (List.Mem.tail _ (List.Mem.tail _ (List.Mem.tail _ (List.Mem.tail _ (List.Mem.head _))))))))))
    | succ d ih =>
      intro k z hk hzz
      apply hz [74] 20
      refine And.intro (fun (g : nI 5 ≤ nI k) => absurd ((nI_leI (by omega) (by omega)).mp g) (by omega)) (fun _ => ?_)
      refine ⟨by omega, _, C2L (by decide) (by decide) (cL_closedFor_ct hl0), t_closedFor hR (by omega) ?_⟩
      have h := ih (k + 1) (z + 1) (by omega) (by omega)
      unfold h_A at h
      rw [← nI_add k 1] at h
      refine hw _ _ _ _ _ _ h (fun q hq => by
          simp only [List.mem_cons, List.not_mem_nil, or_false] at hq
          rcases hq with rfl | rfl | rfl | rfl | rfl | rfl
          all_goals first | exact List.Mem.head _ | exact List.Mem.tail _ (List.Mem.head _) | exact List.Mem.tail _ (List.Mem.tail _ (List.Mem.head _)) | exact List.Mem.tail _ (List.Mem.tail _ (List.Mem.tail _ (List.Mem.head _))) | exact List.Mem.tail _ (List.Mem.tail _ (List.Mem.tail _ (List.Mem.tail _ (List.Mem.head _)))) | exact List.Mem.tail _ (List.Mem.tail _ (List.Mem.tail _ (List.Mem.tail _ (List.Mem.tail _ (List.Mem.head _))))) | exact List.Mem.tail _ (List.Mem.tail _ (List.Mem.tail _ (List.Mem.tail _ (List.Mem.tail _ (List.Mem.tail _ (List.Mem.head _)))))) | exact List.Mem.tail _ (List.Mem.tail _ (List.Mem.tail _ (List.Mem.tail _ (List.Mem.tail _ (List.Mem.tail _ (List.Mem.tail _ (List.Mem.head _))))))) | exact List.Mem.tail _ (List.Mem.tail _ (List.Mem.tail _ (List.Mem.tail _ (List.Mem.tail _ (List.Mem.tail _ (List.Mem.tail _ (List.Mem.tail _ (List.Mem.head _)))))))) | exact List.Mem.tail _ (List.Mem.tail _ (List.Mem.tail _ (List.Mem.tail _ (List.Mem.tail _ (List.Mem.tail _ (List.Mem.tail _ (List.Mem.tail _ (List.Mem.tail _ (List.Mem.head _))))))))))
  have h2 := s_cf_le (S := S) (s_n S)
  apply hz [74] 80
  refine ⟨by omega, _, q_C2i rfl (cX8_livingByGoing_ct hl0), S, hR, rfl, ?_⟩
  refine ⟨by omega, _, q_C2i rfl (cX8_livingByAccount_ct hl0), S, hR, rfl, ?_⟩
  refine And.intro (fun _ => ?_) (fun g => absurd (l_ct w x (by omega)).symm g)
  refine ⟨by omega, _, q_C2i rfl (cX8_livingByGoing_ct hl0), S, hR, rfl, ?_⟩
  rw [w.1.1]
  refine And.intro (fun (g : nI 12 < nI (s_n S)) => absurd ((nI_ltI (by omega) (by omega)).mp g) (by omega)) (fun _ => ?_)
  refine ⟨by omega, _, q_C2i rfl (cX8_leasedByConnections_ct hl0), S, hR, rfl, ?_⟩
  refine ⟨by omega, _, q_C2i rfl (cX8_leasedBySquirrels_ct hl0), S, hR, rfl, ?_⟩
  refine And.intro (fun _ => ?_) (fun g => absurd (l_leased w) g)
  refine ⟨by omega, _, q_C2i rfl (cX8_idle_ct hl0), S, hR, rfl, ?_⟩
  refine ⟨by omega, _, q_C2i rfl (cX8_leasedByConnections_ct hl0), S, hR, rfl, ?_⟩
  refine ⟨by omega, _, q_C2i rfl (cX8_livingByGoing_ct hl0), S, hR, rfl, ?_⟩
  refine And.intro (fun _ => ?_) (fun g => absurd l_all g)
  refine ⟨by omega, _, q_C2i rfl (cX8_served_ct hl0), S, hR, rfl, ?_⟩
  refine ⟨by omega, _, q_C2i rfl (cX8_lendings_ct hl0), S, hR, rfl, ?_⟩
  refine And.intro (fun g => absurd g (u_served i)) (fun _ => ?_)
  refine hw _ _ _ _ _ _ (loopA 5 0 0 (by omega) (by omega)) (fun q hq => by
          simp only [List.mem_cons, List.not_mem_nil, or_false] at hq
          rcases hq with rfl | rfl | rfl | rfl | rfl | rfl
          all_goals first | exact List.Mem.head _ | exact List.Mem.tail _ (List.Mem.head _) | exact List.Mem.tail _ (List.Mem.tail _ (List.Mem.head _)) | exact List.Mem.tail _ (List.Mem.tail _ (List.Mem.tail _ (List.Mem.head _))) | exact List.Mem.tail _ (List.Mem.tail _ (List.Mem.tail _ (List.Mem.tail _ (List.Mem.head _)))) | exact List.Mem.tail _ (List.Mem.tail _ (List.Mem.tail _ (List.Mem.tail _ (List.Mem.tail _ (List.Mem.head _))))) | exact List.Mem.tail _ (List.Mem.tail _ (List.Mem.tail _ (List.Mem.tail _ (List.Mem.tail _ (List.Mem.tail _ (List.Mem.head _)))))) | exact List.Mem.tail _ (List.Mem.tail _ (List.Mem.tail _ (List.Mem.tail _ (List.Mem.tail _ (List.Mem.tail _ (List.Mem.tail _ (List.Mem.head _))))))) | exact List.Mem.tail _ (List.Mem.tail _ (List.Mem.tail _ (List.Mem.tail _ (List.Mem.tail _ (List.Mem.tail _ (List.Mem.tail _ (List.Mem.tail _ (List.Mem.head _)))))))) | exact List.Mem.tail _ (List.Mem.tail _ (List.Mem.tail _ (List.Mem.tail _ (List.Mem.tail _ (List.Mem.tail _ (List.Mem.tail _ (List.Mem.tail _ (List.Mem.tail _ (List.Mem.head _))))))))))
