-- THE LAW'S LOOP: ALL OF IT
def TW_h : Q_T := [(21, .istore 4, 23, 0), (23, .iload 4, 25, 0), (25, .aload_n 0, 26, 0), (26, .arraylength, 27, 0), (27, .iconst 3, 28, 0), (28, .isub, 29, 0), (29, .if_icmp .gt 2877, 32, 2906), (32, .aload_n 0, 33, 0), (33, .iload 4, 35, 0), (35, .iaload, 36, 0), (36, .bipush 127, 38, 0), (38, .iand, 39, 0), (39, .tableswitch 2861 0 66 #[281, 356, 419, 475, 550, 613, 669, 725, 781, 837, 893, 949, 1005, 1018, 1074, 1087, 1100, 1144, 1180, 1216, 1240, 1253, 1266, 1279, 1335, 1391, 1454, 1517, 1573, 1629, 1685, 1741, 1797, 1865, 1878, 1891, 1904, 1948, 2011, 2067, 2123, 2186, 2242, 2298, 2311, 2367, 2380, 2393, 2406, 2419, 2432, 2445, 2458, 2514, 2527, 2590, 2646, 2659, 2672, 2728, 2741, 2754, 2767, 2780, 2793, 2806, 2847], 320, 0), (2906, .iconst 1, 2907, 0), (2907, .ireturn, 2908, 0)]
def TW_e : Q_T := [(2900, .iinc 4 3, 2903, 0), (2903, .goto (-2880), 2906, 23)]
def TW_h1 : Q_T := [(21, .istore 4, 23, 0), (23, .iload 4, 25, 0), (25, .aload_n 0, 26, 0), (26, .arraylength, 27, 0), (27, .iconst 3, 28, 0), (28, .isub, 29, 0), (29, .if_icmp .gt 2877, 32, 2906), (32, .aload_n 0, 33, 0), (33, .iload 4, 35, 0), (35, .iaload, 36, 0), (36, .bipush 127, 38, 0), (38, .iand, 39, 0), (39, .tableswitch 2861 0 66 #[281, 356, 419, 475, 550, 613, 669, 725, 781, 837, 893, 949, 1005, 1018, 1074, 1087, 1100, 1144, 1180, 1216, 1240, 1253, 1266, 1279, 1335, 1391, 1454, 1517, 1573, 1629, 1685, 1741, 1797, 1865, 1878, 1891, 1904, 1948, 2011, 2067, 2123, 2186, 2242, 2298, 2311, 2367, 2380, 2393, 2406, 2419, 2432, 2445, 2458, 2514, 2527, 2590, 2646, 2659, 2672, 2728, 2741, 2754, 2767, 2780, 2793, 2806, 2847], 320, 0)]
def TW_h2 : Q_T := [(2906, .iconst 1, 2907, 0), (2907, .ireturn, 2908, 0)]
set_option maxRecDepth 100000 in
theorem hW_h1 : q_chk 10 9 13 474 code TW_h1 = true := lw_sub 12 13 rfl
set_option maxRecDepth 100000 in
theorem hW_h2 : q_chk 10 9 13 474 code TW_h2 = true := lw_sub 1591 2 rfl
theorem hW_h : q_chk 10 9 13 474 code TW_h = true := by
  have e : TW_h = TW_h1 ++ TW_h2 := rfl
  have h1 := hW_h1
  have h2 := hW_h2
  rw [e]
  unfold q_chk at h1 h2 ⊢
  rw [List.all_append, h1, h2]
  rfl
set_option maxRecDepth 100000 in
theorem hW_e : q_chk 10 9 13 474 code TW_e = true := lw_sub 1589 2 rfl
def lw_offs : Array Int := #[281, 356, 419, 475, 550, 613, 669, 725, 781, 837, 893, 949, 1005, 1018, 1074, 1087, 1100, 1144, 1180, 1216, 1240, 1253, 1266, 1279, 1335, 1391, 1454, 1517, 1573, 1629, 1685, 1741, 1797, 1865, 1878, 1891, 1904, 1948, 2011, 2067, 2123, 2186, 2242, 2298, 2311, 2367, 2380, 2393, 2406, 2419, 2432, 2445, 2458, 2514, 2527, 2590, 2646, 2659, 2672, 2728, 2741, 2754, 2767, 2780, 2793, 2806, 2847]
theorem lw_case {l : Launch} (hl0 : l.stackTraces = false) {L : Nat} {xs : Nat → Int32} {Z : Q_Z} (hz : LW_hz l L xs Z) {c z i : Nat} {M : Q_M} (hi : LI c M) (hiL : i + 2 < L) (hzz : z + 4 ≤ 601024) (h512 : c ≤ 512) (hE : LW_E c z i Z) (hdig : LW_dig Z) : ∀ v : Nat, v < 67 → ∃ (off : Int) (t : Nat), lw_offs[v]? = some off ∧ (39 : Int) + off = (t : Int) ∧ Z z t (lw_l i) [] M := by
  intro v hv
  match v, hv with
  | 0, _ => exact ⟨281, 320, rfl, rfl, wk_0 hl0 hz hi hiL hzz h512 hE⟩
  | 1, _ => exact ⟨356, 395, rfl, rfl, wk_1 hl0 hz hi hiL hzz h512 hE⟩
  | 2, _ => exact ⟨419, 458, rfl, rfl, wk_2 hl0 hz hi hiL hzz h512 hE⟩
  | 3, _ => exact ⟨475, 514, rfl, rfl, wk_3 hl0 hz hi hiL hzz h512 hE⟩
  | 4, _ => exact ⟨550, 589, rfl, rfl, wk_4 hl0 hz hi hiL hzz h512 hE⟩
  | 5, _ => exact ⟨613, 652, rfl, rfl, wk_5 hl0 hz hi hiL hzz h512 hE⟩
  | 6, _ => exact ⟨669, 708, rfl, rfl, wk_6 hl0 hz hi hiL hzz h512 hE⟩
  | 7, _ => exact ⟨725, 764, rfl, rfl, wk_7 hl0 hz hi hiL hzz h512 hE⟩
  | 8, _ => exact ⟨781, 820, rfl, rfl, wk_8 hl0 hz hi hiL hzz h512 hE⟩
  | 9, _ => exact ⟨837, 876, rfl, rfl, wk_9 hl0 hz hi hiL hzz h512 hE⟩
  | 10, _ => exact ⟨893, 932, rfl, rfl, wk_10 hl0 hz hi hiL hzz h512 hE⟩
  | 11, _ => exact ⟨949, 988, rfl, rfl, wk_11 hl0 hz hi hiL hzz h512 hE⟩
  | 12, _ => exact ⟨1005, 1044, rfl, rfl, wk_12 hl0 hz hi hiL hzz h512 hE⟩
  | 13, _ => exact ⟨1018, 1057, rfl, rfl, wk_13 hl0 hz hi hiL hzz h512 hE⟩
  | 14, _ => exact ⟨1074, 1113, rfl, rfl, wk_14 hl0 hz hi hiL hzz h512 hE⟩
  | 15, _ => exact ⟨1087, 1126, rfl, rfl, wk_15 hl0 hz hi hiL hzz h512 hE⟩
  | 16, _ => exact ⟨1100, 1139, rfl, rfl, wk_16 hl0 hz hi hiL hzz h512 hE⟩
  | 17, _ => exact ⟨1144, 1183, rfl, rfl, wk_17 hl0 hz hi hiL hzz h512 hE⟩
  | 18, _ => exact ⟨1180, 1219, rfl, rfl, wk_18 hl0 hz hi hiL hzz h512 hE⟩
  | 19, _ => exact ⟨1216, 1255, rfl, rfl, wk_19 hl0 hz hi hiL hzz h512 hE⟩
  | 20, _ => exact ⟨1240, 1279, rfl, rfl, wk_20 hl0 hz hi hiL hzz h512 hE⟩
  | 21, _ => exact ⟨1253, 1292, rfl, rfl, wk_21 hl0 hz hi hiL hzz h512 hE⟩
  | 22, _ => exact ⟨1266, 1305, rfl, rfl, wk_22 hl0 hz hi hiL hzz h512 hE⟩
  | 23, _ => exact ⟨1279, 1318, rfl, rfl, wk_23 hl0 hz hi hiL hzz h512 hE⟩
  | 24, _ => exact ⟨1335, 1374, rfl, rfl, wk_24 hl0 hz hi hiL hzz h512 hE⟩
  | 25, _ => exact ⟨1391, 1430, rfl, rfl, wk_25 hl0 hz hi hiL hzz h512 hE⟩
  | 26, _ => exact ⟨1454, 1493, rfl, rfl, wk_26 hl0 hz hi hiL hzz h512 hE⟩
  | 27, _ => exact ⟨1517, 1556, rfl, rfl, wk_27 hl0 hz hi hiL hzz h512 hE⟩
  | 28, _ => exact ⟨1573, 1612, rfl, rfl, wk_28 hl0 hz hi hiL hzz h512 hE⟩
  | 29, _ => exact ⟨1629, 1668, rfl, rfl, wk_29 hl0 hz hi hiL hzz h512 hE⟩
  | 30, _ => exact ⟨1685, 1724, rfl, rfl, wk_30 hl0 hz hi hiL hzz h512 hE⟩
  | 31, _ => exact ⟨1741, 1780, rfl, rfl, wk_31 hl0 hz hi hiL hzz h512 hE⟩
  | 32, _ => exact ⟨1797, 1836, rfl, rfl, wk_32 hl0 hz hi hiL hzz h512 hE⟩
  | 33, _ => exact ⟨1865, 1904, rfl, rfl, wk_33 hl0 hz hi hiL hzz h512 hE⟩
  | 34, _ => exact ⟨1878, 1917, rfl, rfl, wk_34 hl0 hz hi hiL hzz h512 hE⟩
  | 35, _ => exact ⟨1891, 1930, rfl, rfl, wk_35 hl0 hz hi hiL hzz h512 hE⟩
  | 36, _ => exact ⟨1904, 1943, rfl, rfl, wk_36 hl0 hz hi hiL hzz h512 hE⟩
  | 37, _ => exact ⟨1948, 1987, rfl, rfl, wk_37 hl0 hz hi hiL hzz h512 hE⟩
  | 38, _ => exact ⟨2011, 2050, rfl, rfl, wk_38 hl0 hz hi hiL hzz h512 hE⟩
  | 39, _ => exact ⟨2067, 2106, rfl, rfl, wk_39 hl0 hz hi hiL hzz h512 hE⟩
  | 40, _ => exact ⟨2123, 2162, rfl, rfl, wk_40 hl0 hz hi hiL hzz h512 hE⟩
  | 41, _ => exact ⟨2186, 2225, rfl, rfl, wk_41 hl0 hz hi hiL hzz h512 hE⟩
  | 42, _ => exact ⟨2242, 2281, rfl, rfl, wk_42 hl0 hz hi hiL hzz h512 hE⟩
  | 43, _ => exact ⟨2298, 2337, rfl, rfl, wk_43 hl0 hz hi hiL hzz h512 hE⟩
  | 44, _ => exact ⟨2311, 2350, rfl, rfl, wk_44 hl0 hz hi hiL hzz h512 hE⟩
  | 45, _ => exact ⟨2367, 2406, rfl, rfl, wk_45 hl0 hz hi hiL hzz h512 hE⟩
  | 46, _ => exact ⟨2380, 2419, rfl, rfl, wk_46 hl0 hz hi hiL hzz h512 hE⟩
  | 47, _ => exact ⟨2393, 2432, rfl, rfl, wk_47 hl0 hz hi hiL hzz h512 hE⟩
  | 48, _ => exact ⟨2406, 2445, rfl, rfl, wk_48 hl0 hz hi hiL hzz h512 hE⟩
  | 49, _ => exact ⟨2419, 2458, rfl, rfl, wk_49 hl0 hz hi hiL hzz h512 hE⟩
  | 50, _ => exact ⟨2432, 2471, rfl, rfl, wk_50 hl0 hz hi hiL hzz h512 hE⟩
  | 51, _ => exact ⟨2445, 2484, rfl, rfl, wk_51 hl0 hz hi hiL hzz h512 hE⟩
  | 52, _ => exact ⟨2458, 2497, rfl, rfl, wk_52 hl0 hz hi hiL hzz h512 hE⟩
  | 53, _ => exact ⟨2514, 2553, rfl, rfl, wk_53 hl0 hz hi hiL hzz h512 hE⟩
  | 54, _ => exact ⟨2527, 2566, rfl, rfl, wk_54 hl0 hz hi hiL hzz h512 hE⟩
  | 55, _ => exact ⟨2590, 2629, rfl, rfl, wk_55 hl0 hz hi hiL hzz h512 hE⟩
  | 56, _ => exact ⟨2646, 2685, rfl, rfl, wk_56 hl0 hz hi hiL hzz h512 hE⟩
  | 57, _ => exact ⟨2659, 2698, rfl, rfl, wk_57 hl0 hz hi hiL hzz h512 hE⟩
  | 58, _ => exact ⟨2672, 2711, rfl, rfl, wk_58 hl0 hz hi hiL hzz h512 hE⟩
  | 59, _ => exact ⟨2728, 2767, rfl, rfl, wk_59 hl0 hz hi hiL hzz h512 hE⟩
  | 60, _ => exact ⟨2741, 2780, rfl, rfl, wk_60 hl0 hz hi hiL hzz h512 hE⟩
  | 61, _ => exact ⟨2754, 2793, rfl, rfl, wk_61 hl0 hz hi hiL hzz h512 hE⟩
  | 62, _ => exact ⟨2767, 2806, rfl, rfl, wk_62 hl0 hz hi hiL hzz h512 hE⟩
  | 63, _ => exact ⟨2780, 2819, rfl, rfl, wk_63 hl0 hz hi hiL hzz h512 hE⟩
  | 64, _ => exact ⟨2793, 2832, rfl, rfl, wk_64 hl0 hz hi hiL hzz h512 hE⟩
  | 65, _ => exact ⟨2806, 2845, rfl, rfl, wk_65 hl0 hz hi hiL hzz h512 hE⟩
  | 66, _ => exact ⟨2847, 2886, rfl, rfl, wk_66 hl0 hz hi hiL hzz h512 hE hdig⟩
  | n + 67, h => exact absurd h (by omega)
theorem w_in {L i : Nat} (hL : L ≤ 1536) (hi : i ≤ 1600) (h : ¬ nI L - nI 3 < nI i) : i + 2 < L := by
  rw [Int32.lt_iff_toInt_lt, pk_sub_toInt (by omega) (by omega), nI_toInt (by omega)] at h
  omega
theorem lw_once {l : Launch} (hl0 : l.stackTraces = false) {L : Nat} {xs : Nat → Int32} {Z : Q_Z} (hz : LW_hz l L xs Z) (hw : ∀ (ls' ls : List (Nat × Q_V)) (z pc : Nat) (st : List Q_V) (M : Q_M), Z z pc ls' st M → (∀ q ∈ ls', q ∈ ls) → Z z pc ls st M) (hdig : LW_dig Z) (hL : L ≤ 1536) {c z : Nat} {M : Q_M} (hc : c ≤ 512) (hzz : z ≤ 1000 + 4 * c) (hi : LI c M) (ih : 3 * c + 2 < L → ∀ (z' : Nat) (M' : Q_M), z' ≤ 1000 + 4 * (c + 1) → LI (c + 1) M' → Z z' 23 (lw_l (3 * (c + 1))) [] M') : Z z 23 (lw_l (3 * c)) [] M := by
  apply hz TW_h hW_h [] 12
  refine And.intro rfl ?_
  refine And.intro (fun _ => ?_) (fun g => ?_)
  · exact ⟨Or.inr rfl, rfl⟩
  · have hlt : 3 * c + 2 < L := w_in hL (by omega) g
    have hE : LW_E c z (3 * c) Z := by
      intro z' ls M' hz' hsub hLI
      refine hw (lw_l (3 * c)) ls z' 2900 [] M' ?_ hsub
      have hh := ih hlt z' M' (by omega) hLI
      rw [show 3 * (c + 1) = 3 * c + 3 by omega] at hh
      unfold lw_l at hh
      rw [← nI_add (3 * c) 3] at hh
      apply hz TW_e hW_e [23] 60
      exact hh
    refine Exists.intro (3 * c) ⟨rfl, rfl, (show 3 * c < L by omega), ?_⟩
    refine And.intro (fun _ => Exists.intro 2900 ⟨rfl, ?_⟩) (fun h1 h2 => ?_)
    · exact hE z (lw_l (3 * c)) M (by omega) w_l0 (LI_up hi)
    · have h1 : ¬ (xs (3 * c) &&& nI 127).toInt < 0 := h1
      have h2 : ¬ 66 < (xs (3 * c) &&& nI 127).toInt := h2
      obtain ⟨off, t, k1, k2, k3⟩ := lw_case hl0 hz hi hlt (by omega) hc hE hdig ((xs (3 * c) &&& nI 127).toInt - 0).toNat (by omega)
      exact ⟨off, t, k1, k2, k3⟩
theorem lw_loop {l : Launch} (hl0 : l.stackTraces = false) {L : Nat} {xs : Nat → Int32} {Z : Q_Z} (hz : LW_hz l L xs Z) (hw : ∀ (ls' ls : List (Nat × Q_V)) (z pc : Nat) (st : List Q_V) (M : Q_M), Z z pc ls' st M → (∀ q ∈ ls', q ∈ ls) → Z z pc ls st M) (hdig : LW_dig Z) (hL : L ≤ 1536) : ∀ (d c z : Nat) (M : Q_M), L ≤ 3 * c + d → c ≤ 512 → z ≤ 1000 + 4 * c → LI c M → Z z 23 (lw_l (3 * c)) [] M := by
  intro d
  induction d with
  | zero =>
    intro c z M hd hc hzz hi
    exact lw_once hl0 hz hw hdig hL hc hzz hi (fun g => absurd g (by omega))
  | succ d ih =>
    intro c z M hd hc hzz hi
    exact lw_once hl0 hz hw hdig hL hc hzz hi (fun g z' M' h1 h2 => ih (c + 1) z' M' (by omega) (by omega) h1 h2)
theorem k_LI0 : LI 0 k_M0 := by
  have e23 : ∀ k, k < 2 → k_M0.1 23 0 0 k = nI 0 := by
    intro k hk
    have g := List.all_eq_true.mp k_k1 k (List.mem_range.mpr hk)
    simp only [Bool.and_eq_true, decide_eq_true_eq] at g
    exact g.2.2
  obtain ⟨c1, c2, c3, c4, c5⟩ := k_CV0 (fun i => w_sl (k_M0.1 22 0 0) (i + 1)) (fun k => w_sl (k_M0.1 22 0 0) (7 + k)) (fun _ => 0)
  refine ⟨0, 0, fun _ => 0, 0, 0, 0, ⟨⟨c1, c2, c3, fun k hk => ?_, c5⟩, k_m21.1, k_TV0 _, ⟨k_swf0, k_XV0, k_ZV0⟩, fun i hi => absurd hi (Nat.not_lt_zero _), fun k hk e => ?_⟩, Nat.le_refl _, Nat.le_refl _, Nat.le_refl _⟩
  · obtain ⟨a1, a2, a3, a4⟩ := c4 k hk
    rw [e23 k hk]
    exact ⟨a1, a2, a3, a4⟩
  · rw [e23 k hk] at e
    exact absurd e (by decide)
