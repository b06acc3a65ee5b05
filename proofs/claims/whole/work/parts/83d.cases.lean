-- THE LAW'S LOOP: CASES
def TW_52 : Q_T := [(2497, .aload_n 1, 2498, 0), (2498, .aload_n 0, 2499, 0), (2499, .iload 4, 2501, 0), (2501, .iconst 1, 2502, 0), (2502, .iadd, 2503, 0), (2503, .iaload, 2504, 0), (2504, .aload_n 3, 2505, 0), (2505, .invokestatic 326, 2508, 0), (2508, .istore 5, 2510, 0), (2510, .aload_n 2, 2511, 0), (2511, .aload_n 0, 2512, 0), (2512, .iload 4, 2514, 0), (2514, .iconst 1, 2515, 0), (2515, .iadd, 2516, 0), (2516, .iaload, 2517, 0), (2517, .invokevirtual 328, 2520, 0), (2520, .istore 6, 2522, 0), (2522, .aload_n 2, 2523, 0), (2523, .invokevirtual 148, 2526, 0), (2526, .iload 5, 2528, 0), (2528, .if_icmp .eq 5, 2531, 2533), (2531, .iconst 0, 2532, 0), (2532, .ireturn, 2533, 0), (2533, .iload 5, 2535, 0), (2535, .ifCond .ne 15, 2538, 2550), (2538, .aload_n 3, 2539, 0), (2539, .iconst 0, 2540, 0), (2540, .laload, 2541, 0), (2541, .iload 6, 2543, 0), (2543, .i2l, 2544, 0), (2544, .lcmp, 2545, 0), (2545, .ifCond .eq 5, 2548, 2550), (2548, .iconst 0, 2549, 0), (2549, .ireturn, 2550, 0), (2550, .goto 350, 2553, 2900)]
set_option maxRecDepth 100000 in
theorem hW_52 : q_chk 10 9 13 474 code TW_52 = true := lw_sub 1354 35 rfl
set_option maxRecDepth 100000 in
theorem wk_52 {l : Launch} (hl0 : l.stackTraces = false) {L : Nat} {xs : Nat → Int32} {Z : Q_Z} (hz : LW_hz l L xs Z) {c z i : Nat} {M : Q_M} (hi : LI c M) (hiL : i + 2 < L) (hzz : z + 4 ≤ 601024) (h512 : c ≤ 512) (hE : LW_E c z i Z) : Z z 2497 (lw_l i) [] M := by
  apply hz TW_52 hW_52 [2505] 60
  refine Exists.intro (i + 1) ⟨rfl, nI_add i 1, (show i + 1 < L by omega), ?_⟩
  refine lw_cS hz (T := TW_52) hW_52 (pc := 2505) (idx := 326) (j := 299) (na := 3) (bj := 2) rfl rfl rfl rfl rfl (by omega) (Or.inr ⟨by decide, by decide, cL_ticksToServe_ct hl0⟩) ?_
  refine jw_ticksToServe hi _ _ _ (fun k M1 hk hR => ?_)
  apply hz TW_52 hW_52 [2517] 60
  refine Exists.intro (i + 1) ⟨rfl, nI_add i 1, (show i + 1 < L by omega), ?_⟩
  refine lw_cV hz (T := TW_52) hW_52 (pc := 2517) (idx := 328) (j := 247) (na := 2) (bj := 0) rfl rfl rfl rfl rfl (by omega) (q_C2i rfl (cX9_ticksToServe_ct hl0)) ?_
  refine hR _ _ (fun b M2 h3 hzb ho hLI => ?_)
  apply hz TW_52 hW_52 [2523] 60
  refine lw_cV hz (T := TW_52) hW_52 (pc := 2523) (idx := 148) (j := 146) (na := 1) (bj := 0) rfl rfl rfl rfl rfl (by omega) (q_C2i rfl (cX9_thrown_ct hl0)) ⟨rfl, ?_⟩
  apply hz TW_52 hW_52 [2900] 60
  refine And.intro (fun _ => ?_) (fun g => absurd h3 g)
  refine And.intro (fun g0 => ?_) (fun _ => hE _ _ _ (by omega) w_l2 hLI)
  refine Exists.intro 0 ⟨rfl, by decide, ?_⟩
  exact And.intro (fun _ => hE _ _ _ (by omega) w_l2 hLI) (fun g => absurd (w_cmp (ho (w_k0 hk g0))) g)
def TW_53 : Q_T := [(2553, .aload_n 1, 2554, 0), (2554, .invokevirtual 329, 2557, 0), (2557, .aload_n 2, 2558, 0), (2558, .invokevirtual 332, 2561, 0), (2561, .if_icmp .eq 339, 2564, 2900), (2564, .iconst 0, 2565, 0), (2565, .ireturn, 2566, 0)]
set_option maxRecDepth 100000 in
theorem hW_53 : q_chk 10 9 13 474 code TW_53 = true := lw_sub 1389 7 rfl
set_option maxRecDepth 100000 in
theorem wk_53 {l : Launch} (hl0 : l.stackTraces = false) {L : Nat} {xs : Nat → Int32} {Z : Q_Z} (hz : LW_hz l L xs Z) {c z i : Nat} {M : Q_M} (hi : LI c M) (hiL : i + 2 < L) (hzz : z + 4 ≤ 601024) (h512 : c ≤ 512) (hE : LW_E c z i Z) : Z z 2553 (lw_l i) [] M := by
  apply hz TW_53 hW_53 [2554] 60
  refine lw_cV hz (T := TW_53) hW_53 (pc := 2554) (idx := 329) (j := 120) (na := 1) (bj := 0) rfl rfl rfl rfl rfl (by omega) (q_C2i rfl (cX8_ticksToClose_ct hl0)) ?_
  refine jd_ticksToClose hi h512 _ _ (fun v M1 hR => ?_)
  apply hz TW_53 hW_53 [2558] 60
  refine lw_cV hz (T := TW_53) hW_53 (pc := 2558) (idx := 332) (j := 248) (na := 1) (bj := 0) rfl rfl rfl rfl rfl (by omega) (q_C2i rfl (cX9_ticksToClose_ct hl0)) ?_
  refine hR _ _ (fun M2 hLI => ?_)
  apply hz TW_53 hW_53 [2900] 60
  exact And.intro (fun _ => hE _ _ _ (by omega) w_l0 hLI) (fun g => absurd rfl g)
def TW_54 : Q_T := [(2566, .aload_n 1, 2567, 0), (2567, .aload_n 0, 2568, 0), (2568, .iload 4, 2570, 0), (2570, .iconst 1, 2571, 0), (2571, .iadd, 2572, 0), (2572, .iaload, 2573, 0), (2573, .aload_n 3, 2574, 0), (2574, .invokestatic 333, 2577, 0), (2577, .istore 5, 2579, 0), (2579, .aload_n 2, 2580, 0), (2580, .aload_n 0, 2581, 0), (2581, .iload 4, 2583, 0), (2583, .iconst 1, 2584, 0), (2584, .iadd, 2585, 0), (2585, .iaload, 2586, 0), (2586, .invokevirtual 335, 2589, 0), (2589, .istore 6, 2591, 0), (2591, .aload_n 2, 2592, 0), (2592, .invokevirtual 148, 2595, 0), (2595, .iload 5, 2597, 0), (2597, .if_icmp .eq 5, 2600, 2602), (2600, .iconst 0, 2601, 0), (2601, .ireturn, 2602, 0), (2602, .iload 5, 2604, 0), (2604, .ifCond .ne 22, 2607, 2626), (2607, .aload_n 3, 2608, 0), (2608, .iconst 0, 2609, 0), (2609, .laload, 2610, 0), (2610, .iload 6, 2612, 0), (2612, .ifCond .eq 7, 2615, 2619), (2615, .lconst 1, 2616, 0), (2616, .goto 4, 2619, 2620), (2619, .lconst 0, 2620, 0), (2620, .lcmp, 2621, 0), (2621, .ifCond .eq 5, 2624, 2626), (2624, .iconst 0, 2625, 0), (2625, .ireturn, 2626, 0), (2626, .goto 274, 2629, 2900)]
set_option maxRecDepth 100000 in
theorem hW_54 : q_chk 10 9 13 474 code TW_54 = true := lw_sub 1396 38 rfl
set_option maxRecDepth 100000 in
theorem wk_54 {l : Launch} (hl0 : l.stackTraces = false) {L : Nat} {xs : Nat → Int32} {Z : Q_Z} (hz : LW_hz l L xs Z) {c z i : Nat} {M : Q_M} (hi : LI c M) (hiL : i + 2 < L) (hzz : z + 4 ≤ 601024) (h512 : c ≤ 512) (hE : LW_E c z i Z) : Z z 2566 (lw_l i) [] M := by
  apply hz TW_54 hW_54 [2574] 60
  refine Exists.intro (i + 1) ⟨rfl, nI_add i 1, (show i + 1 < L by omega), ?_⟩
  refine lw_cS hz (T := TW_54) hW_54 (pc := 2574) (idx := 333) (j := 300) (na := 3) (bj := 2) rfl rfl rfl rfl rfl (by omega) (Or.inr ⟨by decide, by decide, cL_wouldHit_ct hl0⟩) ?_
  refine jw_wouldHit hi _ _ _ (fun k M1 hk hR => ?_)
  apply hz TW_54 hW_54 [2586] 60
  refine Exists.intro (i + 1) ⟨rfl, nI_add i 1, (show i + 1 < L by omega), ?_⟩
  refine lw_cV hz (T := TW_54) hW_54 (pc := 2586) (idx := 335) (j := 249) (na := 2) (bj := 0) rfl rfl rfl rfl rfl (by omega) (q_C2i rfl (cX9_wouldHit_ct hl0)) ?_
  refine hR _ _ (fun b M2 h3 hzb ho hLI => ?_)
  apply hz TW_54 hW_54 [2592] 60
  refine lw_cV hz (T := TW_54) hW_54 (pc := 2592) (idx := 148) (j := 146) (na := 1) (bj := 0) rfl rfl rfl rfl rfl (by omega) (q_C2i rfl (cX9_thrown_ct hl0)) ⟨rfl, ?_⟩
  apply hz TW_54 hW_54 [2900] 60
  refine And.intro (fun _ => ?_) (fun g => absurd h3 g)
  refine And.intro (fun g0 => ?_) (fun _ => hE _ _ _ (by omega) w_l2 hLI)
  refine Exists.intro 0 ⟨rfl, by decide, ?_⟩
  refine And.intro (fun gb => ?_) (fun gb => ?_)
  · exact And.intro (fun _ => hE _ _ _ (by omega) w_l2 hLI) (fun g => absurd (w_cmp ((ho (w_k0 hk g0)).trans (w_b0 (hzb rfl) gb))) g)
  · exact And.intro (fun _ => hE _ _ _ (by omega) w_l2 hLI) (fun g => absurd (w_cmp ((ho (w_k0 hk g0)).trans (w_b1 (hzb rfl) gb))) g)
def TW_55 : Q_T := [(2629, .aload_n 1, 2630, 0), (2630, .aload_n 0, 2631, 0), (2631, .iload 4, 2633, 0), (2633, .iconst 1, 2634, 0), (2634, .iadd, 2635, 0), (2635, .iaload, 2636, 0), (2636, .aload_n 3, 2637, 0), (2637, .invokestatic 336, 2640, 0), (2640, .istore 5, 2642, 0), (2642, .aload_n 2, 2643, 0), (2643, .aload_n 0, 2644, 0), (2644, .iload 4, 2646, 0), (2646, .iconst 1, 2647, 0), (2647, .iadd, 2648, 0), (2648, .iaload, 2649, 0), (2649, .invokevirtual 338, 2652, 0), (2652, .istore 6, 2654, 0), (2654, .aload_n 2, 2655, 0), (2655, .invokevirtual 148, 2658, 0), (2658, .iload 5, 2660, 0), (2660, .if_icmp .eq 5, 2663, 2665), (2663, .iconst 0, 2664, 0), (2664, .ireturn, 2665, 0), (2665, .iload 5, 2667, 0), (2667, .ifCond .ne 15, 2670, 2682), (2670, .aload_n 3, 2671, 0), (2671, .iconst 0, 2672, 0), (2672, .laload, 2673, 0), (2673, .iload 6, 2675, 0), (2675, .i2l, 2676, 0), (2676, .lcmp, 2677, 0), (2677, .ifCond .eq 5, 2680, 2682), (2680, .iconst 0, 2681, 0), (2681, .ireturn, 2682, 0), (2682, .goto 218, 2685, 2900)]
set_option maxRecDepth 100000 in
theorem hW_55 : q_chk 10 9 13 474 code TW_55 = true := lw_sub 1434 35 rfl
set_option maxRecDepth 100000 in
theorem wk_55 {l : Launch} (hl0 : l.stackTraces = false) {L : Nat} {xs : Nat → Int32} {Z : Q_Z} (hz : LW_hz l L xs Z) {c z i : Nat} {M : Q_M} (hi : LI c M) (hiL : i + 2 < L) (hzz : z + 4 ≤ 601024) (h512 : c ≤ 512) (hE : LW_E c z i Z) : Z z 2629 (lw_l i) [] M := by
  apply hz TW_55 hW_55 [2637] 60
  refine Exists.intro (i + 1) ⟨rfl, nI_add i 1, (show i + 1 < L by omega), ?_⟩
  refine lw_cS hz (T := TW_55) hW_55 (pc := 2637) (idx := 336) (j := 301) (na := 3) (bj := 1) rfl rfl rfl rfl rfl (by omega) (Or.inr ⟨by decide, by decide, cL_idleWith_ct hl0⟩) ?_
  refine jw_idleWith hi _ _ _ (fun k M1 hk hR => ?_)
  apply hz TW_55 hW_55 [2649] 60
  refine Exists.intro (i + 1) ⟨rfl, nI_add i 1, (show i + 1 < L by omega), ?_⟩
  refine lw_cV hz (T := TW_55) hW_55 (pc := 2649) (idx := 338) (j := 250) (na := 2) (bj := 0) rfl rfl rfl rfl rfl (by omega) (q_C2i rfl (cX9_idleWith_ct hl0)) ?_
  refine hR _ _ (fun b M2 h3 hzb ho hLI => ?_)
  apply hz TW_55 hW_55 [2655] 60
  refine lw_cV hz (T := TW_55) hW_55 (pc := 2655) (idx := 148) (j := 146) (na := 1) (bj := 0) rfl rfl rfl rfl rfl (by omega) (q_C2i rfl (cX9_thrown_ct hl0)) ⟨rfl, ?_⟩
  apply hz TW_55 hW_55 [2900] 60
  refine And.intro (fun _ => ?_) (fun g => absurd h3 g)
  refine And.intro (fun g0 => ?_) (fun _ => hE _ _ _ (by omega) w_l2 hLI)
  refine Exists.intro 0 ⟨rfl, by decide, ?_⟩
  exact And.intro (fun _ => hE _ _ _ (by omega) w_l2 hLI) (fun g => absurd (w_cmp (ho (w_k0 hk g0))) g)
def TW_56 : Q_T := [(2685, .aload_n 1, 2686, 0), (2686, .invokevirtual 339, 2689, 0), (2689, .aload_n 2, 2690, 0), (2690, .invokevirtual 342, 2693, 0), (2693, .if_icmp .eq 207, 2696, 2900), (2696, .iconst 0, 2697, 0), (2697, .ireturn, 2698, 0)]
set_option maxRecDepth 100000 in
theorem hW_56 : q_chk 10 9 13 474 code TW_56 = true := lw_sub 1469 7 rfl
set_option maxRecDepth 100000 in
theorem wk_56 {l : Launch} (hl0 : l.stackTraces = false) {L : Nat} {xs : Nat → Int32} {Z : Q_Z} (hz : LW_hz l L xs Z) {c z i : Nat} {M : Q_M} (hi : LI c M) (hiL : i + 2 < L) (hzz : z + 4 ≤ 601024) (h512 : c ≤ 512) (hE : LW_E c z i Z) : Z z 2685 (lw_l i) [] M := by
  apply hz TW_56 hW_56 [2686] 60
  refine lw_cV hz (T := TW_56) hW_56 (pc := 2686) (idx := 339) (j := 123) (na := 1) (bj := 0) rfl rfl rfl rfl rfl (by omega) (q_C2i rfl (cX8_time_ct hl0)) ?_
  refine jd_time hi _ _ (fun v M1 hR => ?_)
  apply hz TW_56 hW_56 [2690] 60
  refine lw_cV hz (T := TW_56) hW_56 (pc := 2690) (idx := 342) (j := 251) (na := 1) (bj := 0) rfl rfl rfl rfl rfl (by omega) (q_C2i rfl (cX9_time_ct hl0)) ?_
  refine hR _ _ (fun M2 hLI => ?_)
  apply hz TW_56 hW_56 [2900] 60
  exact And.intro (fun _ => hE _ _ _ (by omega) w_l0 hLI) (fun g => absurd rfl g)
def TW_57 : Q_T := [(2698, .aload_n 1, 2699, 0), (2699, .invokevirtual 343, 2702, 0), (2702, .aload_n 2, 2703, 0), (2703, .invokevirtual 346, 2706, 0), (2706, .if_icmp .eq 194, 2709, 2900), (2709, .iconst 0, 2710, 0), (2710, .ireturn, 2711, 0)]
set_option maxRecDepth 100000 in
theorem hW_57 : q_chk 10 9 13 474 code TW_57 = true := lw_sub 1476 7 rfl
set_option maxRecDepth 100000 in
theorem wk_57 {l : Launch} (hl0 : l.stackTraces = false) {L : Nat} {xs : Nat → Int32} {Z : Q_Z} (hz : LW_hz l L xs Z) {c z i : Nat} {M : Q_M} (hi : LI c M) (hiL : i + 2 < L) (hzz : z + 4 ≤ 601024) (h512 : c ≤ 512) (hE : LW_E c z i Z) : Z z 2698 (lw_l i) [] M := by
  apply hz TW_57 hW_57 [2699] 60
  refine lw_cV hz (T := TW_57) hW_57 (pc := 2699) (idx := 343) (j := 124) (na := 1) (bj := 0) rfl rfl rfl rfl rfl (by omega) (q_C2i rfl (cX8_opened_ct hl0)) ?_
  refine jd_opened hi _ _ (fun v M1 hR => ?_)
  apply hz TW_57 hW_57 [2703] 60
  refine lw_cV hz (T := TW_57) hW_57 (pc := 2703) (idx := 346) (j := 252) (na := 1) (bj := 0) rfl rfl rfl rfl rfl (by omega) (q_C2i rfl (cX9_opened_ct hl0)) ?_
  refine hR _ _ (fun M2 hLI => ?_)
  apply hz TW_57 hW_57 [2900] 60
  exact And.intro (fun _ => hE _ _ _ (by omega) w_l0 hLI) (fun g => absurd rfl g)
def TW_58 : Q_T := [(2711, .aload_n 1, 2712, 0), (2712, .aload_n 0, 2713, 0), (2713, .iload 4, 2715, 0), (2715, .iconst 1, 2716, 0), (2716, .iadd, 2717, 0), (2717, .iaload, 2718, 0), (2718, .aload_n 3, 2719, 0), (2719, .invokestatic 347, 2722, 0), (2722, .istore 5, 2724, 0), (2724, .aload_n 2, 2725, 0), (2725, .aload_n 0, 2726, 0), (2726, .iload 4, 2728, 0), (2728, .iconst 1, 2729, 0), (2729, .iadd, 2730, 0), (2730, .iaload, 2731, 0), (2731, .invokevirtual 349, 2734, 0), (2734, .istore 6, 2736, 0), (2736, .aload_n 2, 2737, 0), (2737, .invokevirtual 148, 2740, 0), (2740, .iload 5, 2742, 0), (2742, .if_icmp .eq 5, 2745, 2747), (2745, .iconst 0, 2746, 0), (2746, .ireturn, 2747, 0), (2747, .iload 5, 2749, 0), (2749, .ifCond .ne 15, 2752, 2764), (2752, .aload_n 3, 2753, 0), (2753, .iconst 0, 2754, 0), (2754, .laload, 2755, 0), (2755, .iload 6, 2757, 0), (2757, .i2l, 2758, 0), (2758, .lcmp, 2759, 0), (2759, .ifCond .eq 5, 2762, 2764), (2762, .iconst 0, 2763, 0), (2763, .ireturn, 2764, 0), (2764, .goto 136, 2767, 2900)]
set_option maxRecDepth 100000 in
theorem hW_58 : q_chk 10 9 13 474 code TW_58 = true := lw_sub 1483 35 rfl
set_option maxRecDepth 100000 in
theorem wk_58 {l : Launch} (hl0 : l.stackTraces = false) {L : Nat} {xs : Nat → Int32} {Z : Q_Z} (hz : LW_hz l L xs Z) {c z i : Nat} {M : Q_M} (hi : LI c M) (hiL : i + 2 < L) (hzz : z + 4 ≤ 601024) (h512 : c ≤ 512) (hE : LW_E c z i Z) : Z z 2711 (lw_l i) [] M := by
  apply hz TW_58 hW_58 [2719] 60
  refine Exists.intro (i + 1) ⟨rfl, nI_add i 1, (show i + 1 < L by omega), ?_⟩
  refine lw_cS hz (T := TW_58) hW_58 (pc := 2719) (idx := 347) (j := 302) (na := 3) (bj := 1) rfl rfl rfl rfl rfl (by omega) (Or.inr ⟨by decide, by decide, cL_closedFor_ct hl0⟩) ?_
  refine jw_closedFor hi _ _ _ (fun k M1 hk hR => ?_)
  apply hz TW_58 hW_58 [2731] 60
  refine Exists.intro (i + 1) ⟨rfl, nI_add i 1, (show i + 1 < L by omega), ?_⟩
  refine lw_cV hz (T := TW_58) hW_58 (pc := 2731) (idx := 349) (j := 253) (na := 2) (bj := 0) rfl rfl rfl rfl rfl (by omega) (q_C2i rfl (cX9_closedFor_ct hl0)) ?_
  refine hR _ _ (fun b M2 h3 hzb ho hLI => ?_)
  apply hz TW_58 hW_58 [2737] 60
  refine lw_cV hz (T := TW_58) hW_58 (pc := 2737) (idx := 148) (j := 146) (na := 1) (bj := 0) rfl rfl rfl rfl rfl (by omega) (q_C2i rfl (cX9_thrown_ct hl0)) ⟨rfl, ?_⟩
  apply hz TW_58 hW_58 [2900] 60
  refine And.intro (fun _ => ?_) (fun g => absurd h3 g)
  refine And.intro (fun g0 => ?_) (fun _ => hE _ _ _ (by omega) w_l2 hLI)
  refine Exists.intro 0 ⟨rfl, by decide, ?_⟩
  exact And.intro (fun _ => hE _ _ _ (by omega) w_l2 hLI) (fun g => absurd (w_cmp (ho (w_k0 hk g0))) g)
def TW_59 : Q_T := [(2767, .aload_n 1, 2768, 0), (2768, .invokevirtual 350, 2771, 0), (2771, .aload_n 2, 2772, 0), (2772, .invokevirtual 353, 2775, 0), (2775, .if_icmp .eq 125, 2778, 2900), (2778, .iconst 0, 2779, 0), (2779, .ireturn, 2780, 0)]
set_option maxRecDepth 100000 in
theorem hW_59 : q_chk 10 9 13 474 code TW_59 = true := lw_sub 1518 7 rfl
set_option maxRecDepth 100000 in
theorem wk_59 {l : Launch} (hl0 : l.stackTraces = false) {L : Nat} {xs : Nat → Int32} {Z : Q_Z} (hz : LW_hz l L xs Z) {c z i : Nat} {M : Q_M} (hi : LI c M) (hiL : i + 2 < L) (hzz : z + 4 ≤ 601024) (h512 : c ≤ 512) (hE : LW_E c z i Z) : Z z 2767 (lw_l i) [] M := by
  apply hz TW_59 hW_59 [2768] 60
  refine lw_cV hz (T := TW_59) hW_59 (pc := 2768) (idx := 350) (j := 126) (na := 1) (bj := 0) rfl rfl rfl rfl rfl (by omega) (q_C2i rfl (cX8_lendings_ct hl0)) ?_
  refine jd_lendings hi _ _ (fun v M1 hR => ?_)
  apply hz TW_59 hW_59 [2772] 60
  refine lw_cV hz (T := TW_59) hW_59 (pc := 2772) (idx := 353) (j := 254) (na := 1) (bj := 0) rfl rfl rfl rfl rfl (by omega) (q_C2i rfl (cX9_lendings_ct hl0)) ?_
  refine hR _ _ (fun M2 hLI => ?_)
  apply hz TW_59 hW_59 [2900] 60
  exact And.intro (fun _ => hE _ _ _ (by omega) w_l0 hLI) (fun g => absurd rfl g)
def TW_60 : Q_T := [(2780, .aload_n 1, 2781, 0), (2781, .invokevirtual 354, 2784, 0), (2784, .aload_n 2, 2785, 0), (2785, .invokevirtual 357, 2788, 0), (2788, .if_icmp .eq 112, 2791, 2900), (2791, .iconst 0, 2792, 0), (2792, .ireturn, 2793, 0)]
set_option maxRecDepth 100000 in
theorem hW_60 : q_chk 10 9 13 474 code TW_60 = true := lw_sub 1525 7 rfl
set_option maxRecDepth 100000 in
theorem wk_60 {l : Launch} (hl0 : l.stackTraces = false) {L : Nat} {xs : Nat → Int32} {Z : Q_Z} (hz : LW_hz l L xs Z) {c z i : Nat} {M : Q_M} (hi : LI c M) (hiL : i + 2 < L) (hzz : z + 4 ≤ 601024) (h512 : c ≤ 512) (hE : LW_E c z i Z) : Z z 2780 (lw_l i) [] M := by
  apply hz TW_60 hW_60 [2781] 60
  refine lw_cV hz (T := TW_60) hW_60 (pc := 2781) (idx := 354) (j := 127) (na := 1) (bj := 0) rfl rfl rfl rfl rfl (by omega) (q_C2i rfl (cX8_impatient_ct hl0)) ?_
  refine jd_impatient hi _ _ (fun v M1 hR => ?_)
  apply hz TW_60 hW_60 [2785] 60
  refine lw_cV hz (T := TW_60) hW_60 (pc := 2785) (idx := 357) (j := 255) (na := 1) (bj := 0) rfl rfl rfl rfl rfl (by omega) (q_C2i rfl (cX9_impatient_ct hl0)) ?_
  refine hR _ _ (fun M2 hLI => ?_)
  apply hz TW_60 hW_60 [2900] 60
  exact And.intro (fun _ => hE _ _ _ (by omega) w_l0 hLI) (fun g => absurd rfl g)
def TW_61 : Q_T := [(2793, .aload_n 1, 2794, 0), (2794, .invokevirtual 358, 2797, 0), (2797, .aload_n 2, 2798, 0), (2798, .invokevirtual 361, 2801, 0), (2801, .if_icmp .eq 99, 2804, 2900), (2804, .iconst 0, 2805, 0), (2805, .ireturn, 2806, 0)]
set_option maxRecDepth 100000 in
theorem hW_61 : q_chk 10 9 13 474 code TW_61 = true := lw_sub 1532 7 rfl
set_option maxRecDepth 100000 in
theorem wk_61 {l : Launch} (hl0 : l.stackTraces = false) {L : Nat} {xs : Nat → Int32} {Z : Q_Z} (hz : LW_hz l L xs Z) {c z i : Nat} {M : Q_M} (hi : LI c M) (hiL : i + 2 < L) (hzz : z + 4 ≤ 601024) (h512 : c ≤ 512) (hE : LW_E c z i Z) : Z z 2793 (lw_l i) [] M := by
  apply hz TW_61 hW_61 [2794] 60
  refine lw_cV hz (T := TW_61) hW_61 (pc := 2794) (idx := 358) (j := 128) (na := 1) (bj := 0) rfl rfl rfl rfl rfl (by omega) (q_C2i rfl (cX8_served_ct hl0)) ?_
  refine jd_served hi _ _ (fun v M1 hR => ?_)
  apply hz TW_61 hW_61 [2798] 60
  refine lw_cV hz (T := TW_61) hW_61 (pc := 2798) (idx := 361) (j := 256) (na := 1) (bj := 0) rfl rfl rfl rfl rfl (by omega) (q_C2i rfl (cX9_served_ct hl0)) ?_
  refine hR _ _ (fun M2 hLI => ?_)
  apply hz TW_61 hW_61 [2900] 60
  exact And.intro (fun _ => hE _ _ _ (by omega) w_l0 hLI) (fun g => absurd rfl g)
def TW_62 : Q_T := [(2806, .aload_n 1, 2807, 0), (2807, .invokevirtual 362, 2810, 0), (2810, .aload_n 2, 2811, 0), (2811, .invokevirtual 365, 2814, 0), (2814, .if_icmp .eq 86, 2817, 2900), (2817, .iconst 0, 2818, 0), (2818, .ireturn, 2819, 0)]
set_option maxRecDepth 100000 in
theorem hW_62 : q_chk 10 9 13 474 code TW_62 = true := lw_sub 1539 7 rfl
set_option maxRecDepth 100000 in
theorem wk_62 {l : Launch} (hl0 : l.stackTraces = false) {L : Nat} {xs : Nat → Int32} {Z : Q_Z} (hz : LW_hz l L xs Z) {c z i : Nat} {M : Q_M} (hi : LI c M) (hiL : i + 2 < L) (hzz : z + 4 ≤ 601024) (h512 : c ≤ 512) (hE : LW_E c z i Z) : Z z 2806 (lw_l i) [] M := by
  apply hz TW_62 hW_62 [2807] 60
  refine lw_cV hz (T := TW_62) hW_62 (pc := 2807) (idx := 362) (j := 129) (na := 1) (bj := 0) rfl rfl rfl rfl rfl (by omega) (q_C2i rfl (cX8_waited_ct hl0)) ?_
  refine jd_waited hi _ _ (fun v M1 hR => ?_)
  apply hz TW_62 hW_62 [2811] 60
  refine lw_cV hz (T := TW_62) hW_62 (pc := 2811) (idx := 365) (j := 257) (na := 1) (bj := 0) rfl rfl rfl rfl rfl (by omega) (q_C2i rfl (cX9_waited_ct hl0)) ?_
  refine hR _ _ (fun M2 hLI => ?_)
  apply hz TW_62 hW_62 [2900] 60
  exact And.intro (fun _ => hE _ _ _ (by omega) w_l0 hLI) (fun g => absurd rfl g)
def TW_63 : Q_T := [(2819, .aload_n 1, 2820, 0), (2820, .invokevirtual 366, 2823, 0), (2823, .aload_n 2, 2824, 0), (2824, .invokevirtual 369, 2827, 0), (2827, .if_icmp .eq 73, 2830, 2900), (2830, .iconst 0, 2831, 0), (2831, .ireturn, 2832, 0)]
set_option maxRecDepth 100000 in
theorem hW_63 : q_chk 10 9 13 474 code TW_63 = true := lw_sub 1546 7 rfl
set_option maxRecDepth 100000 in
theorem wk_63 {l : Launch} (hl0 : l.stackTraces = false) {L : Nat} {xs : Nat → Int32} {Z : Q_Z} (hz : LW_hz l L xs Z) {c z i : Nat} {M : Q_M} (hi : LI c M) (hiL : i + 2 < L) (hzz : z + 4 ≤ 601024) (h512 : c ≤ 512) (hE : LW_E c z i Z) : Z z 2819 (lw_l i) [] M := by
  apply hz TW_63 hW_63 [2820] 60
  refine lw_cV hz (T := TW_63) hW_63 (pc := 2820) (idx := 366) (j := 130) (na := 1) (bj := 0) rfl rfl rfl rfl rfl (by omega) (q_C2i rfl (cX8_hits_ct hl0)) ?_
  refine jd_hits hi _ _ (fun v M1 hR => ?_)
  apply hz TW_63 hW_63 [2824] 60
  refine lw_cV hz (T := TW_63) hW_63 (pc := 2824) (idx := 369) (j := 258) (na := 1) (bj := 0) rfl rfl rfl rfl rfl (by omega) (q_C2i rfl (cX9_hits_ct hl0)) ?_
  refine hR _ _ (fun M2 hLI => ?_)
  apply hz TW_63 hW_63 [2900] 60
  exact And.intro (fun _ => hE _ _ _ (by omega) w_l0 hLI) (fun g => absurd rfl g)
def TW_64 : Q_T := [(2832, .aload_n 1, 2833, 0), (2833, .invokevirtual 370, 2836, 0), (2836, .aload_n 2, 2837, 0), (2837, .invokevirtual 373, 2840, 0), (2840, .if_icmp .eq 60, 2843, 2900), (2843, .iconst 0, 2844, 0), (2844, .ireturn, 2845, 0)]
set_option maxRecDepth 100000 in
theorem hW_64 : q_chk 10 9 13 474 code TW_64 = true := lw_sub 1553 7 rfl
set_option maxRecDepth 100000 in
theorem wk_64 {l : Launch} (hl0 : l.stackTraces = false) {L : Nat} {xs : Nat → Int32} {Z : Q_Z} (hz : LW_hz l L xs Z) {c z i : Nat} {M : Q_M} (hi : LI c M) (hiL : i + 2 < L) (hzz : z + 4 ≤ 601024) (h512 : c ≤ 512) (hE : LW_E c z i Z) : Z z 2832 (lw_l i) [] M := by
  apply hz TW_64 hW_64 [2833] 60
  refine lw_cV hz (T := TW_64) hW_64 (pc := 2833) (idx := 370) (j := 131) (na := 1) (bj := 0) rfl rfl rfl rfl rfl (by omega) (q_C2i rfl (cX8_misses_ct hl0)) ?_
  refine jd_misses hi _ _ (fun v M1 hR => ?_)
  apply hz TW_64 hW_64 [2837] 60
  refine lw_cV hz (T := TW_64) hW_64 (pc := 2837) (idx := 373) (j := 259) (na := 1) (bj := 0) rfl rfl rfl rfl rfl (by omega) (q_C2i rfl (cX9_misses_ct hl0)) ?_
  refine hR _ _ (fun M2 hLI => ?_)
  apply hz TW_64 hW_64 [2900] 60
  exact And.intro (fun _ => hE _ _ _ (by omega) w_l0 hLI) (fun g => absurd rfl g)
