-- THE LAW'S LOOP: CASES
def TW_1 : Q_T := [(395, .aload_n 1, 396, 0), (396, .aload_n 0, 397, 0), (397, .iload 4, 399, 0), (399, .iconst 1, 400, 0), (400, .iadd, 401, 0), (401, .iaload, 402, 0), (402, .aload_n 3, 403, 0), (403, .invokestatic 151, 406, 0), (406, .istore 5, 408, 0), (408, .aload_n 2, 409, 0), (409, .aload_n 0, 410, 0), (410, .iload 4, 412, 0), (412, .iconst 1, 413, 0), (413, .iadd, 414, 0), (414, .iaload, 415, 0), (415, .invokevirtual 154, 418, 0), (418, .istore 6, 420, 0), (420, .aload_n 2, 421, 0), (421, .invokevirtual 148, 424, 0), (424, .iload 5, 426, 0), (426, .if_icmp .eq 5, 429, 431), (429, .iconst 0, 430, 0), (430, .ireturn, 431, 0), (431, .iload 5, 433, 0), (433, .ifCond .ne 22, 436, 455), (436, .aload_n 3, 437, 0), (437, .iconst 0, 438, 0), (438, .laload, 439, 0), (439, .iload 6, 441, 0), (441, .ifCond .eq 7, 444, 448), (444, .lconst 1, 445, 0), (445, .goto 4, 448, 449), (448, .lconst 0, 449, 0), (449, .lcmp, 450, 0), (450, .ifCond .eq 5, 453, 455), (453, .iconst 0, 454, 0), (454, .ireturn, 455, 0), (455, .goto 2445, 458, 2900)]
set_option maxRecDepth 100000 in
theorem hW_1 : q_chk 10 9 13 474 code TW_1 = true := lw_sub 73 38 rfl
set_option maxRecDepth 100000 in
theorem wk_1 {l : Launch} (hl0 : l.stackTraces = false) {L : Nat} {xs : Nat → Int32} {Z : Q_Z} (hz : LW_hz l L xs Z) {c z i : Nat} {M : Q_M} (hi : LI c M) (hiL : i + 2 < L) (hzz : z + 4 ≤ 601024) (h512 : c ≤ 512) (hE : LW_E c z i Z) : Z z 395 (lw_l i) [] M := by
  apply hz TW_1 hW_1 [403] 60
  refine Exists.intro (i + 1) ⟨rfl, nI_add i 1, (show i + 1 < L by omega), ?_⟩
  refine lw_cS hz (T := TW_1) hW_1 (pc := 403) (idx := 151) (j := 265) (na := 3) (bj := 2) rfl rfl rfl rfl rfl (by omega) (Or.inr ⟨by decide, by decide, cL_giveBack_ct hl0⟩) ?_
  refine jw_giveBack hi _ _ _ (fun k M1 hk hR => ?_)
  apply hz TW_1 hW_1 [415] 60
  refine Exists.intro (i + 1) ⟨rfl, nI_add i 1, (show i + 1 < L by omega), ?_⟩
  refine lw_cV hz (T := TW_1) hW_1 (pc := 415) (idx := 154) (j := 181) (na := 2) (bj := 0) rfl rfl rfl rfl rfl (by omega) (q_C2i rfl (cX9_giveBack_ct hl0)) ?_
  refine hR _ _ (fun b M2 h3 hzb ho hLI => ?_)
  apply hz TW_1 hW_1 [421] 60
  refine lw_cV hz (T := TW_1) hW_1 (pc := 421) (idx := 148) (j := 146) (na := 1) (bj := 0) rfl rfl rfl rfl rfl (by omega) (q_C2i rfl (cX9_thrown_ct hl0)) ⟨rfl, ?_⟩
  apply hz TW_1 hW_1 [2900] 60
  refine And.intro (fun _ => ?_) (fun g => absurd h3 g)
  refine And.intro (fun g0 => ?_) (fun _ => hE _ _ _ (by omega) w_l2 hLI)
  refine Exists.intro 0 ⟨rfl, by decide, ?_⟩
  refine And.intro (fun gb => ?_) (fun gb => ?_)
  · exact And.intro (fun _ => hE _ _ _ (by omega) w_l2 hLI) (fun g => absurd (w_cmp ((ho (w_k0 hk g0)).trans (w_b0 (hzb rfl) gb))) g)
  · exact And.intro (fun _ => hE _ _ _ (by omega) w_l2 hLI) (fun g => absurd (w_cmp ((ho (w_k0 hk g0)).trans (w_b1 (hzb rfl) gb))) g)
def TW_3 : Q_T := [(514, .aload_n 1, 515, 0), (515, .aload_n 0, 516, 0), (516, .iload 4, 518, 0), (518, .iconst 1, 519, 0), (519, .iadd, 520, 0), (520, .iaload, 521, 0), (521, .aload_n 0, 522, 0), (522, .iload 4, 524, 0), (524, .iconst 2, 525, 0), (525, .iadd, 526, 0), (526, .iaload, 527, 0), (527, .aload_n 3, 528, 0), (528, .invokestatic 158, 531, 0), (531, .istore 5, 533, 0), (533, .aload_n 2, 534, 0), (534, .aload_n 0, 535, 0), (535, .iload 4, 537, 0), (537, .iconst 1, 538, 0), (538, .iadd, 539, 0), (539, .iaload, 540, 0), (540, .aload_n 0, 541, 0), (541, .iload 4, 543, 0), (543, .iconst 2, 544, 0), (544, .iadd, 545, 0), (545, .iaload, 546, 0), (546, .invokevirtual 160, 549, 0), (549, .istore 6, 551, 0), (551, .aload_n 2, 552, 0), (552, .invokevirtual 148, 555, 0), (555, .iload 5, 557, 0), (557, .if_icmp .eq 5, 560, 562), (560, .iconst 0, 561, 0), (561, .ireturn, 562, 0), (562, .iload 5, 564, 0), (564, .ifCond .ne 22, 567, 586), (567, .aload_n 3, 568, 0), (568, .iconst 0, 569, 0), (569, .laload, 570, 0), (570, .iload 6, 572, 0), (572, .ifCond .eq 7, 575, 579), (575, .lconst 1, 576, 0), (576, .goto 4, 579, 580), (579, .lconst 0, 580, 0), (580, .lcmp, 581, 0), (581, .ifCond .eq 5, 584, 586), (584, .iconst 0, 585, 0), (585, .ireturn, 586, 0), (586, .goto 2314, 589, 2900)]
set_option maxRecDepth 100000 in
theorem hW_3 : q_chk 10 9 13 474 code TW_3 = true := lw_sub 146 48 rfl
set_option maxRecDepth 100000 in
theorem wk_3 {l : Launch} (hl0 : l.stackTraces = false) {L : Nat} {xs : Nat → Int32} {Z : Q_Z} (hz : LW_hz l L xs Z) {c z i : Nat} {M : Q_M} (hi : LI c M) (hiL : i + 2 < L) (hzz : z + 4 ≤ 601024) (h512 : c ≤ 512) (hE : LW_E c z i Z) : Z z 514 (lw_l i) [] M := by
  apply hz TW_3 hW_3 [528] 60
  refine Exists.intro (i + 1) ⟨rfl, nI_add i 1, (show i + 1 < L by omega), ?_⟩
  refine Exists.intro (i + 2) ⟨rfl, nI_add i 2, (show i + 2 < L by omega), ?_⟩
  refine lw_cS hz (T := TW_3) hW_3 (pc := 528) (idx := 158) (j := 267) (na := 4) (bj := 4) rfl rfl rfl rfl rfl (by omega) (Or.inr ⟨by decide, by decide, cL_use_ct hl0⟩) ?_
  refine jw_use hi _ _ _ _ (fun k M1 hk hR => ?_)
  apply hz TW_3 hW_3 [546] 60
  refine Exists.intro (i + 1) ⟨rfl, nI_add i 1, (show i + 1 < L by omega), ?_⟩
  refine Exists.intro (i + 2) ⟨rfl, nI_add i 2, (show i + 2 < L by omega), ?_⟩
  refine lw_cV hz (T := TW_3) hW_3 (pc := 546) (idx := 160) (j := 183) (na := 3) (bj := 0) rfl rfl rfl rfl rfl (by omega) (q_C2i rfl (cX9_use_ct hl0)) ?_
  refine hR _ _ (fun b M2 h3 hzb ho hLI => ?_)
  apply hz TW_3 hW_3 [552] 60
  refine lw_cV hz (T := TW_3) hW_3 (pc := 552) (idx := 148) (j := 146) (na := 1) (bj := 0) rfl rfl rfl rfl rfl (by omega) (q_C2i rfl (cX9_thrown_ct hl0)) ⟨rfl, ?_⟩
  apply hz TW_3 hW_3 [2900] 60
  refine And.intro (fun _ => ?_) (fun g => absurd h3 g)
  refine And.intro (fun g0 => ?_) (fun _ => hE _ _ _ (by omega) w_l2 hLI)
  refine Exists.intro 0 ⟨rfl, by decide, ?_⟩
  refine And.intro (fun gb => ?_) (fun gb => ?_)
  · exact And.intro (fun _ => hE _ _ _ (by omega) w_l2 hLI) (fun g => absurd (w_cmp ((ho (w_k0 hk g0)).trans (w_b0 (hzb rfl) gb))) g)
  · exact And.intro (fun _ => hE _ _ _ (by omega) w_l2 hLI) (fun g => absurd (w_cmp ((ho (w_k0 hk g0)).trans (w_b1 (hzb rfl) gb))) g)
def TW_4 : Q_T := [(589, .aload_n 1, 590, 0), (590, .aload_n 0, 591, 0), (591, .iload 4, 593, 0), (593, .iconst 1, 594, 0), (594, .iadd, 595, 0), (595, .iaload, 596, 0), (596, .aload_n 3, 597, 0), (597, .invokestatic 161, 600, 0), (600, .istore 5, 602, 0), (602, .aload_n 2, 603, 0), (603, .aload_n 0, 604, 0), (604, .iload 4, 606, 0), (606, .iconst 1, 607, 0), (607, .iadd, 608, 0), (608, .iaload, 609, 0), (609, .invokevirtual 163, 612, 0), (612, .istore 6, 614, 0), (614, .aload_n 2, 615, 0), (615, .invokevirtual 148, 618, 0), (618, .iload 5, 620, 0), (620, .if_icmp .eq 5, 623, 625), (623, .iconst 0, 624, 0), (624, .ireturn, 625, 0), (625, .iload 5, 627, 0), (627, .ifCond .ne 22, 630, 649), (630, .aload_n 3, 631, 0), (631, .iconst 0, 632, 0), (632, .laload, 633, 0), (633, .iload 6, 635, 0), (635, .ifCond .eq 7, 638, 642), (638, .lconst 1, 639, 0), (639, .goto 4, 642, 643), (642, .lconst 0, 643, 0), (643, .lcmp, 644, 0), (644, .ifCond .eq 5, 647, 649), (647, .iconst 0, 648, 0), (648, .ireturn, 649, 0), (649, .goto 2251, 652, 2900)]
set_option maxRecDepth 100000 in
theorem hW_4 : q_chk 10 9 13 474 code TW_4 = true := lw_sub 194 38 rfl
set_option maxRecDepth 100000 in
theorem wk_4 {l : Launch} (hl0 : l.stackTraces = false) {L : Nat} {xs : Nat → Int32} {Z : Q_Z} (hz : LW_hz l L xs Z) {c z i : Nat} {M : Q_M} (hi : LI c M) (hiL : i + 2 < L) (hzz : z + 4 ≤ 601024) (h512 : c ≤ 512) (hE : LW_E c z i Z) : Z z 589 (lw_l i) [] M := by
  apply hz TW_4 hW_4 [597] 60
  refine Exists.intro (i + 1) ⟨rfl, nI_add i 1, (show i + 1 < L by omega), ?_⟩
  refine lw_cS hz (T := TW_4) hW_4 (pc := 597) (idx := 161) (j := 268) (na := 3) (bj := 1) rfl rfl rfl rfl rfl (by omega) (Or.inr ⟨by decide, by decide, cL_breakOff_ct hl0⟩) ?_
  refine jw_breakOff hi _ _ _ (fun k M1 hk hR => ?_)
  apply hz TW_4 hW_4 [609] 60
  refine Exists.intro (i + 1) ⟨rfl, nI_add i 1, (show i + 1 < L by omega), ?_⟩
  refine lw_cV hz (T := TW_4) hW_4 (pc := 609) (idx := 163) (j := 184) (na := 2) (bj := 0) rfl rfl rfl rfl rfl (by omega) (q_C2i rfl (cX9_breakOff_ct hl0)) ?_
  refine hR _ _ (fun b M2 h3 hzb ho hLI => ?_)
  apply hz TW_4 hW_4 [615] 60
  refine lw_cV hz (T := TW_4) hW_4 (pc := 615) (idx := 148) (j := 146) (na := 1) (bj := 0) rfl rfl rfl rfl rfl (by omega) (q_C2i rfl (cX9_thrown_ct hl0)) ⟨rfl, ?_⟩
  apply hz TW_4 hW_4 [2900] 60
  refine And.intro (fun _ => ?_) (fun g => absurd h3 g)
  refine And.intro (fun g0 => ?_) (fun _ => hE _ _ _ (by omega) w_l2 hLI)
  refine Exists.intro 0 ⟨rfl, by decide, ?_⟩
  refine And.intro (fun gb => ?_) (fun gb => ?_)
  · exact And.intro (fun _ => hE _ _ _ (by omega) w_l2 hLI) (fun g => absurd (w_cmp ((ho (w_k0 hk g0)).trans (w_b0 (hzb rfl) gb))) g)
  · exact And.intro (fun _ => hE _ _ _ (by omega) w_l2 hLI) (fun g => absurd (w_cmp ((ho (w_k0 hk g0)).trans (w_b1 (hzb rfl) gb))) g)
def TW_5 : Q_T := [(652, .aload_n 1, 653, 0), (653, .aload_n 0, 654, 0), (654, .iload 4, 656, 0), (656, .iconst 1, 657, 0), (657, .iadd, 658, 0), (658, .iaload, 659, 0), (659, .aload_n 3, 660, 0), (660, .invokestatic 164, 663, 0), (663, .istore 5, 665, 0), (665, .aload_n 2, 666, 0), (666, .aload_n 0, 667, 0), (667, .iload 4, 669, 0), (669, .iconst 1, 670, 0), (670, .iadd, 671, 0), (671, .iaload, 672, 0), (672, .invokevirtual 166, 675, 0), (675, .istore 6, 677, 0), (677, .aload_n 2, 678, 0), (678, .invokevirtual 148, 681, 0), (681, .iload 5, 683, 0), (683, .if_icmp .eq 5, 686, 688), (686, .iconst 0, 687, 0), (687, .ireturn, 688, 0), (688, .iload 5, 690, 0), (690, .ifCond .ne 15, 693, 705), (693, .aload_n 3, 694, 0), (694, .iconst 0, 695, 0), (695, .laload, 696, 0), (696, .iload 6, 698, 0), (698, .i2l, 699, 0), (699, .lcmp, 700, 0), (700, .ifCond .eq 5, 703, 705), (703, .iconst 0, 704, 0), (704, .ireturn, 705, 0), (705, .goto 2195, 708, 2900)]
set_option maxRecDepth 100000 in
theorem hW_5 : q_chk 10 9 13 474 code TW_5 = true := lw_sub 232 35 rfl
set_option maxRecDepth 100000 in
theorem wk_5 {l : Launch} (hl0 : l.stackTraces = false) {L : Nat} {xs : Nat → Int32} {Z : Q_Z} (hz : LW_hz l L xs Z) {c z i : Nat} {M : Q_M} (hi : LI c M) (hiL : i + 2 < L) (hzz : z + 4 ≤ 601024) (h512 : c ≤ 512) (hE : LW_E c z i Z) : Z z 652 (lw_l i) [] M := by
  apply hz TW_5 hW_5 [660] 60
  refine Exists.intro (i + 1) ⟨rfl, nI_add i 1, (show i + 1 < L by omega), ?_⟩
  refine lw_cS hz (T := TW_5) hW_5 (pc := 660) (idx := 164) (j := 269) (na := 3) (bj := 1) rfl rfl rfl rfl rfl (by omega) (Or.inr ⟨by decide, by decide, cL_tick_ct hl0⟩) ?_
  refine jw_tick hi _ _ _ (fun k M1 hk hR => ?_)
  apply hz TW_5 hW_5 [672] 60
  refine Exists.intro (i + 1) ⟨rfl, nI_add i 1, (show i + 1 < L by omega), ?_⟩
  refine lw_cV hz (T := TW_5) hW_5 (pc := 672) (idx := 166) (j := 185) (na := 2) (bj := 0) rfl rfl rfl rfl rfl (by omega) (q_C2i rfl (cX9_tick_ct hl0)) ?_
  refine hR _ _ (fun b M2 h3 hzb ho hLI => ?_)
  apply hz TW_5 hW_5 [678] 60
  refine lw_cV hz (T := TW_5) hW_5 (pc := 678) (idx := 148) (j := 146) (na := 1) (bj := 0) rfl rfl rfl rfl rfl (by omega) (q_C2i rfl (cX9_thrown_ct hl0)) ⟨rfl, ?_⟩
  apply hz TW_5 hW_5 [2900] 60
  refine And.intro (fun _ => ?_) (fun g => absurd h3 g)
  refine And.intro (fun g0 => ?_) (fun _ => hE _ _ _ (by omega) w_l2 hLI)
  refine Exists.intro 0 ⟨rfl, by decide, ?_⟩
  exact And.intro (fun _ => hE _ _ _ (by omega) w_l2 hLI) (fun g => absurd (w_cmp (ho (w_k0 hk g0))) g)
def TW_6 : Q_T := [(708, .aload_n 1, 709, 0), (709, .aload_n 0, 710, 0), (710, .iload 4, 712, 0), (712, .iconst 1, 713, 0), (713, .iadd, 714, 0), (714, .iaload, 715, 0), (715, .aload_n 3, 716, 0), (716, .invokestatic 167, 719, 0), (719, .istore 5, 721, 0), (721, .aload_n 2, 722, 0), (722, .aload_n 0, 723, 0), (723, .iload 4, 725, 0), (725, .iconst 1, 726, 0), (726, .iadd, 727, 0), (727, .iaload, 728, 0), (728, .invokevirtual 169, 731, 0), (731, .istore 6, 733, 0), (733, .aload_n 2, 734, 0), (734, .invokevirtual 148, 737, 0), (737, .iload 5, 739, 0), (739, .if_icmp .eq 5, 742, 744), (742, .iconst 0, 743, 0), (743, .ireturn, 744, 0), (744, .iload 5, 746, 0), (746, .ifCond .ne 15, 749, 761), (749, .aload_n 3, 750, 0), (750, .iconst 0, 751, 0), (751, .laload, 752, 0), (752, .iload 6, 754, 0), (754, .i2l, 755, 0), (755, .lcmp, 756, 0), (756, .ifCond .eq 5, 759, 761), (759, .iconst 0, 760, 0), (760, .ireturn, 761, 0), (761, .goto 2139, 764, 2900)]
set_option maxRecDepth 100000 in
theorem hW_6 : q_chk 10 9 13 474 code TW_6 = true := lw_sub 267 35 rfl
set_option maxRecDepth 100000 in
theorem wk_6 {l : Launch} (hl0 : l.stackTraces = false) {L : Nat} {xs : Nat → Int32} {Z : Q_Z} (hz : LW_hz l L xs Z) {c z i : Nat} {M : Q_M} (hi : LI c M) (hiL : i + 2 < L) (hzz : z + 4 ≤ 601024) (h512 : c ≤ 512) (hE : LW_E c z i Z) : Z z 708 (lw_l i) [] M := by
  apply hz TW_6 hW_6 [716] 60
  refine Exists.intro (i + 1) ⟨rfl, nI_add i 1, (show i + 1 < L by omega), ?_⟩
  refine lw_cS hz (T := TW_6) hW_6 (pc := 716) (idx := 167) (j := 270) (na := 3) (bj := 1) rfl rfl rfl rfl rfl (by omega) (Or.inr ⟨by decide, by decide, cL_changeMost_ct hl0⟩) ?_
  refine jw_changeMost hi _ _ _ (fun k M1 hk hR => ?_)
  apply hz TW_6 hW_6 [728] 60
  refine Exists.intro (i + 1) ⟨rfl, nI_add i 1, (show i + 1 < L by omega), ?_⟩
  refine lw_cV hz (T := TW_6) hW_6 (pc := 728) (idx := 169) (j := 187) (na := 2) (bj := 0) rfl rfl rfl rfl rfl (by omega) (q_C2i rfl (cX9_changeMost_ct hl0)) ?_
  refine hR _ _ (fun b M2 h3 hzb ho hLI => ?_)
  apply hz TW_6 hW_6 [734] 60
  refine lw_cV hz (T := TW_6) hW_6 (pc := 734) (idx := 148) (j := 146) (na := 1) (bj := 0) rfl rfl rfl rfl rfl (by omega) (q_C2i rfl (cX9_thrown_ct hl0)) ⟨rfl, ?_⟩
  apply hz TW_6 hW_6 [2900] 60
  refine And.intro (fun _ => ?_) (fun g => absurd h3 g)
  refine And.intro (fun g0 => ?_) (fun _ => hE _ _ _ (by omega) w_l2 hLI)
  refine Exists.intro 0 ⟨rfl, by decide, ?_⟩
  exact And.intro (fun _ => hE _ _ _ (by omega) w_l2 hLI) (fun g => absurd (w_cmp (ho (w_k0 hk g0))) g)
def TW_7 : Q_T := [(764, .aload_n 1, 765, 0), (765, .aload_n 0, 766, 0), (766, .iload 4, 768, 0), (768, .iconst 1, 769, 0), (769, .iadd, 770, 0), (770, .iaload, 771, 0), (771, .aload_n 3, 772, 0), (772, .invokestatic 170, 775, 0), (775, .istore 5, 777, 0), (777, .aload_n 2, 778, 0), (778, .aload_n 0, 779, 0), (779, .iload 4, 781, 0), (781, .iconst 1, 782, 0), (782, .iadd, 783, 0), (783, .iaload, 784, 0), (784, .invokevirtual 172, 787, 0), (787, .istore 6, 789, 0), (789, .aload_n 2, 790, 0), (790, .invokevirtual 148, 793, 0), (793, .iload 5, 795, 0), (795, .if_icmp .eq 5, 798, 800), (798, .iconst 0, 799, 0), (799, .ireturn, 800, 0), (800, .iload 5, 802, 0), (802, .ifCond .ne 15, 805, 817), (805, .aload_n 3, 806, 0), (806, .iconst 0, 807, 0), (807, .laload, 808, 0), (808, .iload 6, 810, 0), (810, .i2l, 811, 0), (811, .lcmp, 812, 0), (812, .ifCond .eq 5, 815, 817), (815, .iconst 0, 816, 0), (816, .ireturn, 817, 0), (817, .goto 2083, 820, 2900)]
set_option maxRecDepth 100000 in
theorem hW_7 : q_chk 10 9 13 474 code TW_7 = true := lw_sub 302 35 rfl
set_option maxRecDepth 100000 in
theorem wk_7 {l : Launch} (hl0 : l.stackTraces = false) {L : Nat} {xs : Nat → Int32} {Z : Q_Z} (hz : LW_hz l L xs Z) {c z i : Nat} {M : Q_M} (hi : LI c M) (hiL : i + 2 < L) (hzz : z + 4 ≤ 601024) (h512 : c ≤ 512) (hE : LW_E c z i Z) : Z z 764 (lw_l i) [] M := by
  apply hz TW_7 hW_7 [772] 60
  refine Exists.intro (i + 1) ⟨rfl, nI_add i 1, (show i + 1 < L by omega), ?_⟩
  refine lw_cS hz (T := TW_7) hW_7 (pc := 772) (idx := 170) (j := 271) (na := 3) (bj := 1) rfl rfl rfl rfl rfl (by omega) (Or.inr ⟨by decide, by decide, cL_changeIdle_ct hl0⟩) ?_
  refine jw_changeIdle hi _ _ _ (fun k M1 hk hR => ?_)
  apply hz TW_7 hW_7 [784] 60
  refine Exists.intro (i + 1) ⟨rfl, nI_add i 1, (show i + 1 < L by omega), ?_⟩
  refine lw_cV hz (T := TW_7) hW_7 (pc := 784) (idx := 172) (j := 188) (na := 2) (bj := 0) rfl rfl rfl rfl rfl (by omega) (q_C2i rfl (cX9_changeIdle_ct hl0)) ?_
  refine hR _ _ (fun b M2 h3 hzb ho hLI => ?_)
  apply hz TW_7 hW_7 [790] 60
  refine lw_cV hz (T := TW_7) hW_7 (pc := 790) (idx := 148) (j := 146) (na := 1) (bj := 0) rfl rfl rfl rfl rfl (by omega) (q_C2i rfl (cX9_thrown_ct hl0)) ⟨rfl, ?_⟩
  apply hz TW_7 hW_7 [2900] 60
  refine And.intro (fun _ => ?_) (fun g => absurd h3 g)
  refine And.intro (fun g0 => ?_) (fun _ => hE _ _ _ (by omega) w_l2 hLI)
  refine Exists.intro 0 ⟨rfl, by decide, ?_⟩
  exact And.intro (fun _ => hE _ _ _ (by omega) w_l2 hLI) (fun g => absurd (w_cmp (ho (w_k0 hk g0))) g)
def TW_8 : Q_T := [(820, .aload_n 1, 821, 0), (821, .aload_n 0, 822, 0), (822, .iload 4, 824, 0), (824, .iconst 1, 825, 0), (825, .iadd, 826, 0), (826, .iaload, 827, 0), (827, .aload_n 3, 828, 0), (828, .invokestatic 173, 831, 0), (831, .istore 5, 833, 0), (833, .aload_n 2, 834, 0), (834, .aload_n 0, 835, 0), (835, .iload 4, 837, 0), (837, .iconst 1, 838, 0), (838, .iadd, 839, 0), (839, .iaload, 840, 0), (840, .invokevirtual 175, 843, 0), (843, .istore 6, 845, 0), (845, .aload_n 2, 846, 0), (846, .invokevirtual 148, 849, 0), (849, .iload 5, 851, 0), (851, .if_icmp .eq 5, 854, 856), (854, .iconst 0, 855, 0), (855, .ireturn, 856, 0), (856, .iload 5, 858, 0), (858, .ifCond .ne 15, 861, 873), (861, .aload_n 3, 862, 0), (862, .iconst 0, 863, 0), (863, .laload, 864, 0), (864, .iload 6, 866, 0), (866, .i2l, 867, 0), (867, .lcmp, 868, 0), (868, .ifCond .eq 5, 871, 873), (871, .iconst 0, 872, 0), (872, .ireturn, 873, 0), (873, .goto 2027, 876, 2900)]
set_option maxRecDepth 100000 in
theorem hW_8 : q_chk 10 9 13 474 code TW_8 = true := lw_sub 337 35 rfl
set_option maxRecDepth 100000 in
theorem wk_8 {l : Launch} (hl0 : l.stackTraces = false) {L : Nat} {xs : Nat → Int32} {Z : Q_Z} (hz : LW_hz l L xs Z) {c z i : Nat} {M : Q_M} (hi : LI c M) (hiL : i + 2 < L) (hzz : z + 4 ≤ 601024) (h512 : c ≤ 512) (hE : LW_E c z i Z) : Z z 820 (lw_l i) [] M := by
  apply hz TW_8 hW_8 [828] 60
  refine Exists.intro (i + 1) ⟨rfl, nI_add i 1, (show i + 1 < L by omega), ?_⟩
  refine lw_cS hz (T := TW_8) hW_8 (pc := 828) (idx := 173) (j := 272) (na := 3) (bj := 1) rfl rfl rfl rfl rfl (by omega) (Or.inr ⟨by decide, by decide, cL_changeAge_ct hl0⟩) ?_
  refine jw_changeAge hi _ _ _ (fun k M1 hk hR => ?_)
  apply hz TW_8 hW_8 [840] 60
  refine Exists.intro (i + 1) ⟨rfl, nI_add i 1, (show i + 1 < L by omega), ?_⟩
  refine lw_cV hz (T := TW_8) hW_8 (pc := 840) (idx := 175) (j := 189) (na := 2) (bj := 0) rfl rfl rfl rfl rfl (by omega) (q_C2i rfl (cX9_changeAge_ct hl0)) ?_
  refine hR _ _ (fun b M2 h3 hzb ho hLI => ?_)
  apply hz TW_8 hW_8 [846] 60
  refine lw_cV hz (T := TW_8) hW_8 (pc := 846) (idx := 148) (j := 146) (na := 1) (bj := 0) rfl rfl rfl rfl rfl (by omega) (q_C2i rfl (cX9_thrown_ct hl0)) ⟨rfl, ?_⟩
  apply hz TW_8 hW_8 [2900] 60
  refine And.intro (fun _ => ?_) (fun g => absurd h3 g)
  refine And.intro (fun g0 => ?_) (fun _ => hE _ _ _ (by omega) w_l2 hLI)
  refine Exists.intro 0 ⟨rfl, by decide, ?_⟩
  exact And.intro (fun _ => hE _ _ _ (by omega) w_l2 hLI) (fun g => absurd (w_cmp (ho (w_k0 hk g0))) g)
def TW_9 : Q_T := [(876, .aload_n 1, 877, 0), (877, .aload_n 0, 878, 0), (878, .iload 4, 880, 0), (880, .iconst 1, 881, 0), (881, .iadd, 882, 0), (882, .iaload, 883, 0), (883, .aload_n 3, 884, 0), (884, .invokestatic 176, 887, 0), (887, .istore 5, 889, 0), (889, .aload_n 2, 890, 0), (890, .aload_n 0, 891, 0), (891, .iload 4, 893, 0), (893, .iconst 1, 894, 0), (894, .iadd, 895, 0), (895, .iaload, 896, 0), (896, .invokevirtual 178, 899, 0), (899, .istore 6, 901, 0), (901, .aload_n 2, 902, 0), (902, .invokevirtual 148, 905, 0), (905, .iload 5, 907, 0), (907, .if_icmp .eq 5, 910, 912), (910, .iconst 0, 911, 0), (911, .ireturn, 912, 0), (912, .iload 5, 914, 0), (914, .ifCond .ne 15, 917, 929), (917, .aload_n 3, 918, 0), (918, .iconst 0, 919, 0), (919, .laload, 920, 0), (920, .iload 6, 922, 0), (922, .i2l, 923, 0), (923, .lcmp, 924, 0), (924, .ifCond .eq 5, 927, 929), (927, .iconst 0, 928, 0), (928, .ireturn, 929, 0), (929, .goto 1971, 932, 2900)]
set_option maxRecDepth 100000 in
theorem hW_9 : q_chk 10 9 13 474 code TW_9 = true := lw_sub 372 35 rfl
set_option maxRecDepth 100000 in
theorem wk_9 {l : Launch} (hl0 : l.stackTraces = false) {L : Nat} {xs : Nat → Int32} {Z : Q_Z} (hz : LW_hz l L xs Z) {c z i : Nat} {M : Q_M} (hi : LI c M) (hiL : i + 2 < L) (hzz : z + 4 ≤ 601024) (h512 : c ≤ 512) (hE : LW_E c z i Z) : Z z 876 (lw_l i) [] M := by
  apply hz TW_9 hW_9 [884] 60
  refine Exists.intro (i + 1) ⟨rfl, nI_add i 1, (show i + 1 < L by omega), ?_⟩
  refine lw_cS hz (T := TW_9) hW_9 (pc := 884) (idx := 176) (j := 273) (na := 3) (bj := 1) rfl rfl rfl rfl rfl (by omega) (Or.inr ⟨by decide, by decide, cL_changeRest_ct hl0⟩) ?_
  refine jw_changeRest hi _ _ _ (fun k M1 hk hR => ?_)
  apply hz TW_9 hW_9 [896] 60
  refine Exists.intro (i + 1) ⟨rfl, nI_add i 1, (show i + 1 < L by omega), ?_⟩
  refine lw_cV hz (T := TW_9) hW_9 (pc := 896) (idx := 178) (j := 190) (na := 2) (bj := 0) rfl rfl rfl rfl rfl (by omega) (q_C2i rfl (cX9_changeRest_ct hl0)) ?_
  refine hR _ _ (fun b M2 h3 hzb ho hLI => ?_)
  apply hz TW_9 hW_9 [902] 60
  refine lw_cV hz (T := TW_9) hW_9 (pc := 902) (idx := 148) (j := 146) (na := 1) (bj := 0) rfl rfl rfl rfl rfl (by omega) (q_C2i rfl (cX9_thrown_ct hl0)) ⟨rfl, ?_⟩
  apply hz TW_9 hW_9 [2900] 60
  refine And.intro (fun _ => ?_) (fun g => absurd h3 g)
  refine And.intro (fun g0 => ?_) (fun _ => hE _ _ _ (by omega) w_l2 hLI)
  refine Exists.intro 0 ⟨rfl, by decide, ?_⟩
  exact And.intro (fun _ => hE _ _ _ (by omega) w_l2 hLI) (fun g => absurd (w_cmp (ho (w_k0 hk g0))) g)
def TW_10 : Q_T := [(932, .aload_n 1, 933, 0), (933, .aload_n 0, 934, 0), (934, .iload 4, 936, 0), (936, .iconst 1, 937, 0), (937, .iadd, 938, 0), (938, .iaload, 939, 0), (939, .aload_n 3, 940, 0), (940, .invokestatic 179, 943, 0), (943, .istore 5, 945, 0), (945, .aload_n 2, 946, 0), (946, .aload_n 0, 947, 0), (947, .iload 4, 949, 0), (949, .iconst 1, 950, 0), (950, .iadd, 951, 0), (951, .iaload, 952, 0), (952, .invokevirtual 181, 955, 0), (955, .istore 6, 957, 0), (957, .aload_n 2, 958, 0), (958, .invokevirtual 148, 961, 0), (961, .iload 5, 963, 0), (963, .if_icmp .eq 5, 966, 968), (966, .iconst 0, 967, 0), (967, .ireturn, 968, 0), (968, .iload 5, 970, 0), (970, .ifCond .ne 15, 973, 985), (973, .aload_n 3, 974, 0), (974, .iconst 0, 975, 0), (975, .laload, 976, 0), (976, .iload 6, 978, 0), (978, .i2l, 979, 0), (979, .lcmp, 980, 0), (980, .ifCond .eq 5, 983, 985), (983, .iconst 0, 984, 0), (984, .ireturn, 985, 0), (985, .goto 1915, 988, 2900)]
set_option maxRecDepth 100000 in
theorem hW_10 : q_chk 10 9 13 474 code TW_10 = true := lw_sub 407 35 rfl
set_option maxRecDepth 100000 in
theorem wk_10 {l : Launch} (hl0 : l.stackTraces = false) {L : Nat} {xs : Nat → Int32} {Z : Q_Z} (hz : LW_hz l L xs Z) {c z i : Nat} {M : Q_M} (hi : LI c M) (hiL : i + 2 < L) (hzz : z + 4 ≤ 601024) (h512 : c ≤ 512) (hE : LW_E c z i Z) : Z z 932 (lw_l i) [] M := by
  apply hz TW_10 hW_10 [940] 60
  refine Exists.intro (i + 1) ⟨rfl, nI_add i 1, (show i + 1 < L by omega), ?_⟩
  refine lw_cS hz (T := TW_10) hW_10 (pc := 940) (idx := 179) (j := 274) (na := 3) (bj := 1) rfl rfl rfl rfl rfl (by omega) (Or.inr ⟨by decide, by decide, cL_changeLease_ct hl0⟩) ?_
  refine jw_changeLease hi _ _ _ (fun k M1 hk hR => ?_)
  apply hz TW_10 hW_10 [952] 60
  refine Exists.intro (i + 1) ⟨rfl, nI_add i 1, (show i + 1 < L by omega), ?_⟩
  refine lw_cV hz (T := TW_10) hW_10 (pc := 952) (idx := 181) (j := 191) (na := 2) (bj := 0) rfl rfl rfl rfl rfl (by omega) (q_C2i rfl (cX9_changeLease_ct hl0)) ?_
  refine hR _ _ (fun b M2 h3 hzb ho hLI => ?_)
  apply hz TW_10 hW_10 [958] 60
  refine lw_cV hz (T := TW_10) hW_10 (pc := 958) (idx := 148) (j := 146) (na := 1) (bj := 0) rfl rfl rfl rfl rfl (by omega) (q_C2i rfl (cX9_thrown_ct hl0)) ⟨rfl, ?_⟩
  apply hz TW_10 hW_10 [2900] 60
  refine And.intro (fun _ => ?_) (fun g => absurd h3 g)
  refine And.intro (fun g0 => ?_) (fun _ => hE _ _ _ (by omega) w_l2 hLI)
  refine Exists.intro 0 ⟨rfl, by decide, ?_⟩
  exact And.intro (fun _ => hE _ _ _ (by omega) w_l2 hLI) (fun g => absurd (w_cmp (ho (w_k0 hk g0))) g)
def TW_11 : Q_T := [(988, .aload_n 1, 989, 0), (989, .aload_n 0, 990, 0), (990, .iload 4, 992, 0), (992, .iconst 1, 993, 0), (993, .iadd, 994, 0), (994, .iaload, 995, 0), (995, .aload_n 3, 996, 0), (996, .invokestatic 182, 999, 0), (999, .istore 5, 1001, 0), (1001, .aload_n 2, 1002, 0), (1002, .aload_n 0, 1003, 0), (1003, .iload 4, 1005, 0), (1005, .iconst 1, 1006, 0), (1006, .iadd, 1007, 0), (1007, .iaload, 1008, 0), (1008, .invokevirtual 184, 1011, 0), (1011, .istore 6, 1013, 0), (1013, .aload_n 2, 1014, 0), (1014, .invokevirtual 148, 1017, 0), (1017, .iload 5, 1019, 0), (1019, .if_icmp .eq 5, 1022, 1024), (1022, .iconst 0, 1023, 0), (1023, .ireturn, 1024, 0), (1024, .iload 5, 1026, 0), (1026, .ifCond .ne 15, 1029, 1041), (1029, .aload_n 3, 1030, 0), (1030, .iconst 0, 1031, 0), (1031, .laload, 1032, 0), (1032, .iload 6, 1034, 0), (1034, .i2l, 1035, 0), (1035, .lcmp, 1036, 0), (1036, .ifCond .eq 5, 1039, 1041), (1039, .iconst 0, 1040, 0), (1040, .ireturn, 1041, 0), (1041, .goto 1859, 1044, 2900)]
set_option maxRecDepth 100000 in
theorem hW_11 : q_chk 10 9 13 474 code TW_11 = true := lw_sub 442 35 rfl
set_option maxRecDepth 100000 in
theorem wk_11 {l : Launch} (hl0 : l.stackTraces = false) {L : Nat} {xs : Nat → Int32} {Z : Q_Z} (hz : LW_hz l L xs Z) {c z i : Nat} {M : Q_M} (hi : LI c M) (hiL : i + 2 < L) (hzz : z + 4 ≤ 601024) (h512 : c ≤ 512) (hE : LW_E c z i Z) : Z z 988 (lw_l i) [] M := by
  apply hz TW_11 hW_11 [996] 60
  refine Exists.intro (i + 1) ⟨rfl, nI_add i 1, (show i + 1 < L by omega), ?_⟩
  refine lw_cS hz (T := TW_11) hW_11 (pc := 996) (idx := 182) (j := 275) (na := 3) (bj := 1) rfl rfl rfl rfl rfl (by omega) (Or.inr ⟨by decide, by decide, cL_changePatience_ct hl0⟩) ?_
  refine jw_changePatience hi _ _ _ (fun k M1 hk hR => ?_)
  apply hz TW_11 hW_11 [1008] 60
  refine Exists.intro (i + 1) ⟨rfl, nI_add i 1, (show i + 1 < L by omega), ?_⟩
  refine lw_cV hz (T := TW_11) hW_11 (pc := 1008) (idx := 184) (j := 192) (na := 2) (bj := 0) rfl rfl rfl rfl rfl (by omega) (q_C2i rfl (cX9_changePatience_ct hl0)) ?_
  refine hR _ _ (fun b M2 h3 hzb ho hLI => ?_)
  apply hz TW_11 hW_11 [1014] 60
  refine lw_cV hz (T := TW_11) hW_11 (pc := 1014) (idx := 148) (j := 146) (na := 1) (bj := 0) rfl rfl rfl rfl rfl (by omega) (q_C2i rfl (cX9_thrown_ct hl0)) ⟨rfl, ?_⟩
  apply hz TW_11 hW_11 [2900] 60
  refine And.intro (fun _ => ?_) (fun g => absurd h3 g)
  refine And.intro (fun g0 => ?_) (fun _ => hE _ _ _ (by omega) w_l2 hLI)
  refine Exists.intro 0 ⟨rfl, by decide, ?_⟩
  exact And.intro (fun _ => hE _ _ _ (by omega) w_l2 hLI) (fun g => absurd (w_cmp (ho (w_k0 hk g0))) g)
def TW_13 : Q_T := [(1057, .aload_n 1, 1058, 0), (1058, .aload_n 0, 1059, 0), (1059, .iload 4, 1061, 0), (1061, .iconst 1, 1062, 0), (1062, .iadd, 1063, 0), (1063, .iaload, 1064, 0), (1064, .aload_n 3, 1065, 0), (1065, .invokestatic 190, 1068, 0), (1068, .istore 5, 1070, 0), (1070, .aload_n 2, 1071, 0), (1071, .aload_n 0, 1072, 0), (1072, .iload 4, 1074, 0), (1074, .iconst 1, 1075, 0), (1075, .iadd, 1076, 0), (1076, .iaload, 1077, 0), (1077, .invokevirtual 192, 1080, 0), (1080, .istore 6, 1082, 0), (1082, .aload_n 2, 1083, 0), (1083, .invokevirtual 148, 1086, 0), (1086, .iload 5, 1088, 0), (1088, .if_icmp .eq 5, 1091, 1093), (1091, .iconst 0, 1092, 0), (1092, .ireturn, 1093, 0), (1093, .iload 5, 1095, 0), (1095, .ifCond .ne 15, 1098, 1110), (1098, .aload_n 3, 1099, 0), (1099, .iconst 0, 1100, 0), (1100, .laload, 1101, 0), (1101, .iload 6, 1103, 0), (1103, .i2l, 1104, 0), (1104, .lcmp, 1105, 0), (1105, .ifCond .eq 5, 1108, 1110), (1108, .iconst 0, 1109, 0), (1109, .ireturn, 1110, 0), (1110, .goto 1790, 1113, 2900)]
set_option maxRecDepth 100000 in
theorem hW_13 : q_chk 10 9 13 474 code TW_13 = true := lw_sub 484 35 rfl
set_option maxRecDepth 100000 in
theorem wk_13 {l : Launch} (hl0 : l.stackTraces = false) {L : Nat} {xs : Nat → Int32} {Z : Q_Z} (hz : LW_hz l L xs Z) {c z i : Nat} {M : Q_M} (hi : LI c M) (hiL : i + 2 < L) (hzz : z + 4 ≤ 601024) (h512 : c ≤ 512) (hE : LW_E c z i Z) : Z z 1057 (lw_l i) [] M := by
  apply hz TW_13 hW_13 [1065] 60
  refine Exists.intro (i + 1) ⟨rfl, nI_add i 1, (show i + 1 < L by omega), ?_⟩
  refine lw_cS hz (T := TW_13) hW_13 (pc := 1065) (idx := 190) (j := 276) (na := 3) (bj := 2) rfl rfl rfl rfl rfl (by omega) (Or.inr ⟨by decide, by decide, cL_append_ct hl0⟩) ?_
  refine jw_append hi _ _ _ (fun k M1 hk hR => ?_)
  apply hz TW_13 hW_13 [1077] 60
  refine Exists.intro (i + 1) ⟨rfl, nI_add i 1, (show i + 1 < L by omega), ?_⟩
  refine lw_cV hz (T := TW_13) hW_13 (pc := 1077) (idx := 192) (j := 194) (na := 2) (bj := 0) rfl rfl rfl rfl rfl (by omega) (q_C2i rfl (cX9_append_ct hl0)) ?_
  refine hR _ _ (fun b M2 h3 hzb ho hLI => ?_)
  apply hz TW_13 hW_13 [1083] 60
  refine lw_cV hz (T := TW_13) hW_13 (pc := 1083) (idx := 148) (j := 146) (na := 1) (bj := 0) rfl rfl rfl rfl rfl (by omega) (q_C2i rfl (cX9_thrown_ct hl0)) ⟨rfl, ?_⟩
  apply hz TW_13 hW_13 [2900] 60
  refine And.intro (fun _ => ?_) (fun g => absurd h3 g)
  refine And.intro (fun g0 => ?_) (fun _ => hE _ _ _ (by omega) w_l2 hLI)
  refine Exists.intro 0 ⟨rfl, by decide, ?_⟩
  exact And.intro (fun _ => hE _ _ _ (by omega) w_l2 hLI) (fun g => absurd (w_cmp (ho (w_k0 hk g0))) g)
def TW_14 : Q_T := [(1113, .aload_n 1, 1114, 0), (1114, .invokevirtual 193, 1117, 0), (1117, .aload_n 2, 1118, 0), (1118, .invokevirtual 196, 1121, 0), (1121, .if_icmp .eq 1779, 1124, 2900), (1124, .iconst 0, 1125, 0), (1125, .ireturn, 1126, 0)]
set_option maxRecDepth 100000 in
theorem hW_14 : q_chk 10 9 13 474 code TW_14 = true := lw_sub 519 7 rfl
set_option maxRecDepth 100000 in
theorem wk_14 {l : Launch} (hl0 : l.stackTraces = false) {L : Nat} {xs : Nat → Int32} {Z : Q_Z} (hz : LW_hz l L xs Z) {c z i : Nat} {M : Q_M} (hi : LI c M) (hiL : i + 2 < L) (hzz : z + 4 ≤ 601024) (h512 : c ≤ 512) (hE : LW_E c z i Z) : Z z 1113 (lw_l i) [] M := by
  apply hz TW_14 hW_14 [1114] 60
  refine lw_cV hz (T := TW_14) hW_14 (pc := 1114) (idx := 193) (j := 81) (na := 1) (bj := 0) rfl rfl rfl rfl rfl (by omega) (q_C2i rfl (cX8_clearBuffer_ct hl0)) ?_
  refine jd_clearBuffer hi _ _ (fun v M1 hR => ?_)
  apply hz TW_14 hW_14 [1118] 60
  refine lw_cV hz (T := TW_14) hW_14 (pc := 1118) (idx := 196) (j := 195) (na := 1) (bj := 0) rfl rfl rfl rfl rfl (by omega) (q_C2i rfl (cX9_clearBuffer_ct hl0)) ?_
  refine hR _ _ (fun M2 hLI => ?_)
  apply hz TW_14 hW_14 [2900] 60
  exact And.intro (fun _ => hE _ _ _ (by omega) w_l0 hLI) (fun g => absurd rfl g)
def TW_15 : Q_T := [(1126, .aload_n 1, 1127, 0), (1127, .invokevirtual 197, 1130, 0), (1130, .aload_n 2, 1131, 0), (1131, .invokevirtual 200, 1134, 0), (1134, .if_icmp .eq 1766, 1137, 2900), (1137, .iconst 0, 1138, 0), (1138, .ireturn, 1139, 0)]
set_option maxRecDepth 100000 in
theorem hW_15 : q_chk 10 9 13 474 code TW_15 = true := lw_sub 526 7 rfl
set_option maxRecDepth 100000 in
theorem wk_15 {l : Launch} (hl0 : l.stackTraces = false) {L : Nat} {xs : Nat → Int32} {Z : Q_Z} (hz : LW_hz l L xs Z) {c z i : Nat} {M : Q_M} (hi : LI c M) (hiL : i + 2 < L) (hzz : z + 4 ≤ 601024) (h512 : c ≤ 512) (hE : LW_E c z i Z) : Z z 1126 (lw_l i) [] M := by
  apply hz TW_15 hW_15 [1127] 60
  refine lw_cV hz (T := TW_15) hW_15 (pc := 1127) (idx := 197) (j := 82) (na := 1) (bj := 0) rfl rfl rfl rfl rfl (by omega) (q_C2i rfl (cX8_firstError_ct hl0)) ?_
  refine jd_firstError hi _ _ (fun v M1 hR => ?_)
  apply hz TW_15 hW_15 [1131] 60
  refine lw_cV hz (T := TW_15) hW_15 (pc := 1131) (idx := 200) (j := 201) (na := 1) (bj := 0) rfl rfl rfl rfl rfl (by omega) (q_C2i rfl (cX9_firstError_ct hl0)) ?_
  refine hR _ _ (fun M2 hLI => ?_)
  apply hz TW_15 hW_15 [2900] 60
  exact And.intro (fun _ => hE _ _ _ (by omega) w_l0 hLI) (fun g => absurd rfl g)
def TW_16 : Q_T := [(1139, .aload_n 1, 1140, 0), (1140, .aload_n 3, 1141, 0), (1141, .invokestatic 201, 1144, 0), (1144, .istore 5, 1146, 0), (1146, .aload_n 2, 1147, 0), (1147, .invokevirtual 204, 1150, 0), (1150, .istore 6, 1152, 0), (1152, .aload_n 2, 1153, 0), (1153, .invokevirtual 148, 1156, 0), (1156, .iload 5, 1158, 0), (1158, .if_icmp .eq 5, 1161, 1163), (1161, .iconst 0, 1162, 0), (1162, .ireturn, 1163, 0), (1163, .iload 5, 1165, 0), (1165, .ifCond .ne 15, 1168, 1180), (1168, .aload_n 3, 1169, 0), (1169, .iconst 0, 1170, 0), (1170, .laload, 1171, 0), (1171, .iload 6, 1173, 0), (1173, .i2l, 1174, 0), (1174, .lcmp, 1175, 0), (1175, .ifCond .eq 5, 1178, 1180), (1178, .iconst 0, 1179, 0), (1179, .ireturn, 1180, 0), (1180, .goto 1720, 1183, 2900)]
set_option maxRecDepth 100000 in
theorem hW_16 : q_chk 10 9 13 474 code TW_16 = true := lw_sub 533 25 rfl
set_option maxRecDepth 100000 in
theorem wk_16 {l : Launch} (hl0 : l.stackTraces = false) {L : Nat} {xs : Nat → Int32} {Z : Q_Z} (hz : LW_hz l L xs Z) {c z i : Nat} {M : Q_M} (hi : LI c M) (hiL : i + 2 < L) (hzz : z + 4 ≤ 601024) (h512 : c ≤ 512) (hE : LW_E c z i Z) : Z z 1139 (lw_l i) [] M := by
  apply hz TW_16 hW_16 [1141] 60
  refine lw_cS hz (T := TW_16) hW_16 (pc := 1141) (idx := 201) (j := 277) (na := 2) (bj := 2) rfl rfl rfl rfl rfl (by omega) (Or.inr ⟨by decide, by decide, cL_play_ct hl0⟩) ?_
  refine jw_play hi _ _ (fun k M1 hk hR => ?_)
  apply hz TW_16 hW_16 [1147] 60
  refine lw_cV hz (T := TW_16) hW_16 (pc := 1147) (idx := 204) (j := 204) (na := 1) (bj := 0) rfl rfl rfl rfl rfl (by omega) (q_C2i rfl (cX9_play_ct hl0)) ?_
  refine hR _ _ (fun b M2 h3 hzb ho hLI => ?_)
  apply hz TW_16 hW_16 [1153] 60
  refine lw_cV hz (T := TW_16) hW_16 (pc := 1153) (idx := 148) (j := 146) (na := 1) (bj := 0) rfl rfl rfl rfl rfl (by omega) (q_C2i rfl (cX9_thrown_ct hl0)) ⟨rfl, ?_⟩
  apply hz TW_16 hW_16 [2900] 60
  refine And.intro (fun _ => ?_) (fun g => absurd h3 g)
  refine And.intro (fun g0 => ?_) (fun _ => hE _ _ _ (by omega) w_l2 hLI)
  refine Exists.intro 0 ⟨rfl, by decide, ?_⟩
  exact And.intro (fun _ => hE _ _ _ (by omega) w_l2 hLI) (fun g => absurd (w_cmp (ho (w_k0 hk g0))) g)
def TW_18 : Q_T := [(1219, .aload_n 1, 1220, 0), (1220, .aload_n 0, 1221, 0), (1221, .iload 4, 1223, 0), (1223, .iconst 1, 1224, 0), (1224, .iadd, 1225, 0), (1225, .iaload, 1226, 0), (1226, .invokestatic 209, 1229, 0), (1229, .istore 5, 1231, 0), (1231, .aload_n 2, 1232, 0), (1232, .aload_n 0, 1233, 0), (1233, .iload 4, 1235, 0), (1235, .iconst 1, 1236, 0), (1236, .iadd, 1237, 0), (1237, .iaload, 1238, 0), (1238, .invokevirtual 211, 1241, 0), (1241, .aload_n 2, 1242, 0), (1242, .invokevirtual 148, 1245, 0), (1245, .iload 5, 1247, 0), (1247, .if_icmp .eq 5, 1250, 1252), (1250, .iconst 0, 1251, 0), (1251, .ireturn, 1252, 0), (1252, .goto 1648, 1255, 2900)]
set_option maxRecDepth 100000 in
theorem hW_18 : q_chk 10 9 13 474 code TW_18 = true := lw_sub 580 22 rfl
set_option maxRecDepth 100000 in
theorem wk_18 {l : Launch} (hl0 : l.stackTraces = false) {L : Nat} {xs : Nat → Int32} {Z : Q_Z} (hz : LW_hz l L xs Z) {c z i : Nat} {M : Q_M} (hi : LI c M) (hiL : i + 2 < L) (hzz : z + 4 ≤ 601024) (h512 : c ≤ 512) (hE : LW_E c z i Z) : Z z 1219 (lw_l i) [] M := by
  apply hz TW_18 hW_18 [1226] 60
  refine Exists.intro (i + 1) ⟨rfl, nI_add i 1, (show i + 1 < L by omega), ?_⟩
  refine lw_cS hz (T := TW_18) hW_18 (pc := 1226) (idx := 209) (j := 279) (na := 2) (bj := 2) rfl rfl rfl rfl rfl (by omega) (Or.inr ⟨by decide, by decide, cL_goBack_ct hl0⟩) ?_
  refine jv_goBack hi _ _ _ (fun k M1 hR => ?_)
  apply hz TW_18 hW_18 [1238] 60
  refine Exists.intro (i + 1) ⟨rfl, nI_add i 1, (show i + 1 < L by omega), ?_⟩
  refine lw_cV hz (T := TW_18) hW_18 (pc := 1238) (idx := 211) (j := 206) (na := 2) (bj := 0) rfl rfl rfl rfl rfl (by omega) (q_C2i rfl (cX9_goBack_ct hl0)) ?_
  refine hR _ _ (fun M2 h3 hLI => ?_)
  apply hz TW_18 hW_18 [1242] 60
  refine lw_cV hz (T := TW_18) hW_18 (pc := 1242) (idx := 148) (j := 146) (na := 1) (bj := 0) rfl rfl rfl rfl rfl (by omega) (q_C2i rfl (cX9_thrown_ct hl0)) ⟨rfl, ?_⟩
  apply hz TW_18 hW_18 [2900] 60
  exact And.intro (fun _ => hE _ _ _ (by omega) w_l1 hLI) (fun g => absurd h3 g)
def TW_19 : Q_T := [(1255, .aload_n 1, 1256, 0), (1256, .invokestatic 212, 1259, 0), (1259, .istore 5, 1261, 0), (1261, .aload_n 2, 1262, 0), (1262, .invokevirtual 215, 1265, 0), (1265, .aload_n 2, 1266, 0), (1266, .invokevirtual 148, 1269, 0), (1269, .iload 5, 1271, 0), (1271, .if_icmp .eq 5, 1274, 1276), (1274, .iconst 0, 1275, 0), (1275, .ireturn, 1276, 0), (1276, .goto 1624, 1279, 2900)]
set_option maxRecDepth 100000 in
theorem hW_19 : q_chk 10 9 13 474 code TW_19 = true := lw_sub 602 12 rfl
set_option maxRecDepth 100000 in
theorem wk_19 {l : Launch} (hl0 : l.stackTraces = false) {L : Nat} {xs : Nat → Int32} {Z : Q_Z} (hz : LW_hz l L xs Z) {c z i : Nat} {M : Q_M} (hi : LI c M) (hiL : i + 2 < L) (hzz : z + 4 ≤ 601024) (h512 : c ≤ 512) (hE : LW_E c z i Z) : Z z 1255 (lw_l i) [] M := by
  apply hz TW_19 hW_19 [1256] 60
  refine lw_cS hz (T := TW_19) hW_19 (pc := 1256) (idx := 212) (j := 280) (na := 1) (bj := 1) rfl rfl rfl rfl rfl (by omega) (Or.inr ⟨by decide, by decide, cL_undo_ct hl0⟩) ?_
  refine jv_undo hi _ _ (fun k M1 hR => ?_)
  apply hz TW_19 hW_19 [1262] 60
  refine lw_cV hz (T := TW_19) hW_19 (pc := 1262) (idx := 215) (j := 207) (na := 1) (bj := 0) rfl rfl rfl rfl rfl (by omega) (q_C2i rfl (cX9_undo_ct hl0)) ?_
  refine hR _ _ (fun M2 h3 hLI => ?_)
  apply hz TW_19 hW_19 [1266] 60
  refine lw_cV hz (T := TW_19) hW_19 (pc := 1266) (idx := 148) (j := 146) (na := 1) (bj := 0) rfl rfl rfl rfl rfl (by omega) (q_C2i rfl (cX9_thrown_ct hl0)) ⟨rfl, ?_⟩
  apply hz TW_19 hW_19 [2900] 60
  exact And.intro (fun _ => hE _ _ _ (by omega) w_l1 hLI) (fun g => absurd h3 g)
