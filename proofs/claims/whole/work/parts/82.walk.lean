-- THE LAW'S LOOP: ITS WALK
def LW_hz (l : Launch) (L : Nat) (xs : Nat → Int32) (Z : Q_Z) : Prop := ∀ T : Q_T, q_chk 10 9 13 474 code T = true → ∀ (stops : List Nat) (n z pc : Nat) (ls : List (Nat × Q_V)) (st : List Q_V) (M : Q_M), q_vc 10 303 601024 (some .boolean) (some (L, xs)) (fun _ _ => none) (q_C2 l false) lw_K (fun _ _ => False) T Z stops n z pc ls st M → Z z pc ls st M
abbrev lw_l (i : Nat) : List (Nat × Q_V) := [(4, .inl (nI i)), (3, .inr (.inl (25, 0, 0))), (2, .inr (.inl (21, 0, 0))), (1, .inr (.inl (0, 0, 0))), (0, .inr (.inl (26, 0, 0)))]
def LW_E (c z i : Nat) (Z : Q_Z) : Prop := ∀ (z' : Nat) (ls : List (Nat × Q_V)) (M : Q_M), z' ≤ z + 4 → (∀ q ∈ lw_l i, q ∈ ls) → LI (c + 1) M → Z z' 2900 ls [] M
theorem lw_cS {l : Launch} {L : Nat} {xs : Nat → Int32} {Z : Q_Z} (hz : LW_hz l L xs Z) {T : Q_T} (hT : q_chk 10 9 13 474 code T = true) {pc idx nx tg j na bj z : Nat} {ls : List (Nat × Q_V)} {st av r : List Q_V} {M : Q_M} {P : Q_P} (hat : q_at T pc = some (.invokestatic idx, nx, tg)) (hcal : q_cal 10 idx = some (j, na, bj)) (ht : q_take na [] st = some (av, r)) (hj : Nat.ble 264 j = true) (hs : Nat.ble (q_sum r) 8 = true) (hb : z + bj ≤ 601024) (hC : q_C2 l false j P) (hP : P av M (fun v M' => Z (z + bj) nx ls (q_psh v r) M') (fun _ _ => False)) : Z z pc ls st M := by
  refine hz T hT [] 1 z pc ls st M ?_
  unfold q_vc
  rw [hat]
  unfold q_stp
  dsimp only
  rw [hcal]
  dsimp only
  rw [ht]
  dsimp only
  rw [hj, hs, Nat.ble_eq_true_of_le hb]
  exact ⟨P, hC, hP⟩
theorem lw_cV {l : Launch} {L : Nat} {xs : Nat → Int32} {Z : Q_Z} (hz : LW_hz l L xs Z) {T : Q_T} (hT : q_chk 10 9 13 474 code T = true) {pc idx nx tg j na bj z : Nat} {ls : List (Nat × Q_V)} {st av r : List Q_V} {M : Q_M} {P : Q_P} (hat : q_at T pc = some (.invokevirtual idx, nx, tg)) (hcal : q_cal 10 idx = some (j, na, bj)) (ht : q_take na [] st = some (av, r)) (hj : q_rcv j av = true) (hs : Nat.ble (q_sum r) 8 = true) (hb : z + bj ≤ 601024) (hC : q_C2 l false j P) (hP : P av M (fun v M' => Z (z + bj) nx ls (q_psh v r) M') (fun _ _ => False)) : Z z pc ls st M := by
  refine hz T hT [] 1 z pc ls st M ?_
  unfold q_vc
  rw [hat]
  unfold q_stp
  dsimp only
  rw [hcal]
  dsimp only
  rw [ht]
  dsimp only
  rw [hj, hs, Nat.ble_eq_true_of_le hb]
  exact ⟨P, hC, hP⟩
theorem lw_sub {T : Q_T} (a n : Nat) (e : (TL_law.drop a).take n = T) : q_chk 10 9 13 474 code T = true := by
  rw [← e]
  unfold q_chk
  rw [List.all_eq_true]
  intro q hq
  exact List.all_eq_true.mp k_chL q (List.mem_of_mem_drop (List.mem_of_mem_take hq))
theorem w_l0 {i : Nat} : ∀ q ∈ lw_l i, q ∈ lw_l i := fun _ h => h
theorem w_l1 {i : Nat} {x : Nat × Q_V} : ∀ q ∈ lw_l i, q ∈ x :: lw_l i := fun _ h => List.mem_cons_of_mem _ h
theorem w_l2 {i : Nat} {x y : Nat × Q_V} : ∀ q ∈ lw_l i, q ∈ x :: y :: lw_l i := fun _ h => List.mem_cons_of_mem _ (List.mem_cons_of_mem _ h)
theorem w_k0 {k : Nat} (hk : k ≤ 3) (h : nI k = 0) : k = 0 := (nI_eq (by omega) (by decide)).mp (h.trans nI_0.symm)
theorem w_cmp {x y : Int64} (h : x = y) : lg_cmp x y = 0 := by
  rw [h]
  unfold lg_cmp
  rw [if_neg (show ¬ y > y from Int64.lt_irrefl), if_pos rfl]
theorem w_b0 {b : Int32} (hb : q_bit b) (h : b = 0) : b.toInt64 = lN 0 := (q_bit_l hb).2 h
theorem w_b1 {b : Int32} (hb : q_bit b) (h : ¬ b = 0) : b.toInt64 = lN 1 := (q_bit_l hb).1 h
def LW_dig (Z : Q_Z) : Prop := ∀ (z : Nat) (ls : List (Nat × Q_V)) (M : Q_M) (S : Nat → Int32) (h : Nat) (G : Nat → Nat → Int32) (kb : Nat → Int32) (T : Nat → Nat → Int32) (n : Nat) (tx : Nat → Nat) (a b' : Nat), z + 1 ≤ 601024 → CV M S h G kb T n tx → S 224 = nI a → S 225 = nI b' → a + b' ≤ 1024 → (∀ C : Nat → Nat → Nat → Nat → Int64, Z (z + 1) 2890 ls [.inr (.inr (.inl (h_dg S h a b' kb n tx)))] (M.1, M.2.1, C)) → Z z 2887 ls [.inr (.inl (0, 0, 0))] M
def TW_0 : Q_T := [(320, .aload_n 1, 321, 0), (321, .aload_n 0, 322, 0), (322, .iload 4, 324, 0), (324, .iconst 1, 325, 0), (325, .iadd, 326, 0), (326, .iaload, 327, 0), (327, .aload_n 0, 328, 0), (328, .iload 4, 330, 0), (330, .iconst 2, 331, 0), (331, .iadd, 332, 0), (332, .iaload, 333, 0), (333, .aload_n 3, 334, 0), (334, .invokestatic 142, 337, 0), (337, .istore 5, 339, 0), (339, .aload_n 2, 340, 0), (340, .aload_n 0, 341, 0), (341, .iload 4, 343, 0), (343, .iconst 1, 344, 0), (344, .iadd, 345, 0), (345, .iaload, 346, 0), (346, .aload_n 0, 347, 0), (347, .iload 4, 349, 0), (349, .iconst 2, 350, 0), (350, .iadd, 351, 0), (351, .iaload, 352, 0), (352, .invokevirtual 147, 355, 0), (355, .istore 6, 357, 0), (357, .aload_n 2, 358, 0), (358, .invokevirtual 148, 361, 0), (361, .iload 5, 363, 0), (363, .if_icmp .eq 5, 366, 368), (366, .iconst 0, 367, 0), (367, .ireturn, 368, 0), (368, .iload 5, 370, 0), (370, .ifCond .ne 22, 373, 392), (373, .aload_n 3, 374, 0), (374, .iconst 0, 375, 0), (375, .laload, 376, 0), (376, .iload 6, 378, 0), (378, .ifCond .eq 7, 381, 385), (381, .lconst 1, 382, 0), (382, .goto 4, 385, 386), (385, .lconst 0, 386, 0), (386, .lcmp, 387, 0), (387, .ifCond .eq 5, 390, 392), (390, .iconst 0, 391, 0), (391, .ireturn, 392, 0), (392, .goto 2508, 395, 2900)]
set_option maxRecDepth 100000 in
theorem hW_0 : q_chk 10 9 13 474 code TW_0 = true := lw_sub 25 48 rfl
set_option maxRecDepth 100000 in
theorem wk_0 {l : Launch} (hl0 : l.stackTraces = false) {L : Nat} {xs : Nat → Int32} {Z : Q_Z} (hz : LW_hz l L xs Z) {c z i : Nat} {M : Q_M} (hi : LI c M) (hiL : i + 2 < L) (hzz : z + 4 ≤ 601024) (h512 : c ≤ 512) (hE : LW_E c z i Z) : Z z 320 (lw_l i) [] M := by
  apply hz TW_0 hW_0 [334] 60
  refine Exists.intro (i + 1) ⟨rfl, nI_add i 1, (show i + 1 < L by omega), ?_⟩
  refine Exists.intro (i + 2) ⟨rfl, nI_add i 2, (show i + 2 < L by omega), ?_⟩
  refine lw_cS hz (T := TW_0) hW_0 (pc := 334) (idx := 142) (j := 264) (na := 4) (bj := 3) rfl rfl rfl rfl rfl (by omega) (Or.inr ⟨by decide, by decide, cL_ask_ct hl0⟩) ?_
  refine jw_ask hi _ _ _ _ (fun k M1 hk hR => ?_)
  apply hz TW_0 hW_0 [352] 60
  refine Exists.intro (i + 1) ⟨rfl, nI_add i 1, (show i + 1 < L by omega), ?_⟩
  refine Exists.intro (i + 2) ⟨rfl, nI_add i 2, (show i + 2 < L by omega), ?_⟩
  refine lw_cV hz (T := TW_0) hW_0 (pc := 352) (idx := 147) (j := 180) (na := 3) (bj := 0) rfl rfl rfl rfl rfl (by omega) (q_C2i rfl (cX9_ask_ct hl0)) ?_
  refine hR _ _ (fun b M2 h3 hzb ho hLI => ?_)
  apply hz TW_0 hW_0 [358] 60
  refine lw_cV hz (T := TW_0) hW_0 (pc := 358) (idx := 148) (j := 146) (na := 1) (bj := 0) rfl rfl rfl rfl rfl (by omega) (q_C2i rfl (cX9_thrown_ct hl0)) ⟨rfl, ?_⟩
  apply hz TW_0 hW_0 [2900] 60
  refine And.intro (fun _ => ?_) (fun g => absurd h3 g)
  refine And.intro (fun g0 => ?_) (fun _ => hE _ _ _ (by omega) w_l2 hLI)
  refine Exists.intro 0 ⟨rfl, by decide, ?_⟩
  refine And.intro (fun gb => ?_) (fun gb => ?_)
  · exact And.intro (fun _ => hE _ _ _ (by omega) w_l2 hLI) (fun g => absurd (w_cmp ((ho (w_k0 hk g0)).trans (w_b0 (hzb rfl) gb))) g)
  · exact And.intro (fun _ => hE _ _ _ (by omega) w_l2 hLI) (fun g => absurd (w_cmp ((ho (w_k0 hk g0)).trans (w_b1 (hzb rfl) gb))) g)
def TW_2 : Q_T := [(458, .aload_n 1, 459, 0), (459, .aload_n 0, 460, 0), (460, .iload 4, 462, 0), (462, .iconst 1, 463, 0), (463, .iadd, 464, 0), (464, .iaload, 465, 0), (465, .aload_n 3, 466, 0), (466, .invokestatic 155, 469, 0), (469, .istore 5, 471, 0), (471, .aload_n 2, 472, 0), (472, .aload_n 0, 473, 0), (473, .iload 4, 475, 0), (475, .iconst 1, 476, 0), (476, .iadd, 477, 0), (477, .iaload, 478, 0), (478, .invokevirtual 157, 481, 0), (481, .istore 6, 483, 0), (483, .aload_n 2, 484, 0), (484, .invokevirtual 148, 487, 0), (487, .iload 5, 489, 0), (489, .if_icmp .eq 5, 492, 494), (492, .iconst 0, 493, 0), (493, .ireturn, 494, 0), (494, .iload 5, 496, 0), (496, .ifCond .ne 15, 499, 511), (499, .aload_n 3, 500, 0), (500, .iconst 0, 501, 0), (501, .laload, 502, 0), (502, .iload 6, 504, 0), (504, .i2l, 505, 0), (505, .lcmp, 506, 0), (506, .ifCond .eq 5, 509, 511), (509, .iconst 0, 510, 0), (510, .ireturn, 511, 0), (511, .goto 2389, 514, 2900)]
set_option maxRecDepth 100000 in
theorem hW_2 : q_chk 10 9 13 474 code TW_2 = true := lw_sub 111 35 rfl
set_option maxRecDepth 100000 in
theorem wk_2 {l : Launch} (hl0 : l.stackTraces = false) {L : Nat} {xs : Nat → Int32} {Z : Q_Z} (hz : LW_hz l L xs Z) {c z i : Nat} {M : Q_M} (hi : LI c M) (hiL : i + 2 < L) (hzz : z + 4 ≤ 601024) (h512 : c ≤ 512) (hE : LW_E c z i Z) : Z z 458 (lw_l i) [] M := by
  apply hz TW_2 hW_2 [466] 60
  refine Exists.intro (i + 1) ⟨rfl, nI_add i 1, (show i + 1 < L by omega), ?_⟩
  refine lw_cS hz (T := TW_2) hW_2 (pc := 466) (idx := 155) (j := 266) (na := 3) (bj := 2) rfl rfl rfl rfl rfl (by omega) (Or.inr ⟨by decide, by decide, cL_leave_ct hl0⟩) ?_
  refine jw_leave hi _ _ _ (fun k M1 hk hR => ?_)
  apply hz TW_2 hW_2 [478] 60
  refine Exists.intro (i + 1) ⟨rfl, nI_add i 1, (show i + 1 < L by omega), ?_⟩
  refine lw_cV hz (T := TW_2) hW_2 (pc := 478) (idx := 157) (j := 182) (na := 2) (bj := 0) rfl rfl rfl rfl rfl (by omega) (q_C2i rfl (cX9_leave_ct hl0)) ?_
  refine hR _ _ (fun b M2 h3 hzb ho hLI => ?_)
  apply hz TW_2 hW_2 [484] 60
  refine lw_cV hz (T := TW_2) hW_2 (pc := 484) (idx := 148) (j := 146) (na := 1) (bj := 0) rfl rfl rfl rfl rfl (by omega) (q_C2i rfl (cX9_thrown_ct hl0)) ⟨rfl, ?_⟩
  apply hz TW_2 hW_2 [2900] 60
  refine And.intro (fun _ => ?_) (fun g => absurd h3 g)
  refine And.intro (fun g0 => ?_) (fun _ => hE _ _ _ (by omega) w_l2 hLI)
  refine Exists.intro 0 ⟨rfl, by decide, ?_⟩
  exact And.intro (fun _ => hE _ _ _ (by omega) w_l2 hLI) (fun g => absurd (w_cmp (ho (w_k0 hk g0))) g)
def TW_12 : Q_T := [(1044, .aload_n 1, 1045, 0), (1045, .invokevirtual 185, 1048, 0), (1048, .aload_n 2, 1049, 0), (1049, .invokevirtual 189, 1052, 0), (1052, .if_icmp .eq 1848, 1055, 2900), (1055, .iconst 0, 1056, 0), (1056, .ireturn, 1057, 0)]
set_option maxRecDepth 100000 in
theorem hW_12 : q_chk 10 9 13 474 code TW_12 = true := lw_sub 477 7 rfl
set_option maxRecDepth 100000 in
theorem wk_12 {l : Launch} (hl0 : l.stackTraces = false) {L : Nat} {xs : Nat → Int32} {Z : Q_Z} (hz : LW_hz l L xs Z) {c z i : Nat} {M : Q_M} (hi : LI c M) (hiL : i + 2 < L) (hzz : z + 4 ≤ 601024) (h512 : c ≤ 512) (hE : LW_E c z i Z) : Z z 1044 (lw_l i) [] M := by
  apply hz TW_12 hW_12 [1045] 60
  refine lw_cV hz (T := TW_12) hW_12 (pc := 1045) (idx := 185) (j := 79) (na := 1) (bj := 0) rfl rfl rfl rfl rfl (by omega) (q_C2i rfl (cX8_turnOrder_ct hl0)) ?_
  refine jd_turnOrder hi _ _ (fun v M1 hR => ?_)
  apply hz TW_12 hW_12 [1049] 60
  refine lw_cV hz (T := TW_12) hW_12 (pc := 1049) (idx := 189) (j := 193) (na := 1) (bj := 0) rfl rfl rfl rfl rfl (by omega) (q_C2i rfl (cX9_turnOrder_ct hl0)) ?_
  refine hR _ _ (fun M2 hLI => ?_)
  apply hz TW_12 hW_12 [2900] 60
  exact And.intro (fun _ => hE _ _ _ (by omega) w_l0 hLI) (fun g => absurd rfl g)
def TW_17 : Q_T := [(1183, .aload_n 1, 1184, 0), (1184, .aload_n 0, 1185, 0), (1185, .iload 4, 1187, 0), (1187, .iconst 1, 1188, 0), (1188, .iadd, 1189, 0), (1189, .iaload, 1190, 0), (1190, .invokestatic 205, 1193, 0), (1193, .istore 5, 1195, 0), (1195, .aload_n 2, 1196, 0), (1196, .aload_n 0, 1197, 0), (1197, .iload 4, 1199, 0), (1199, .iconst 1, 1200, 0), (1200, .iadd, 1201, 0), (1201, .iaload, 1202, 0), (1202, .invokevirtual 208, 1205, 0), (1205, .aload_n 2, 1206, 0), (1206, .invokevirtual 148, 1209, 0), (1209, .iload 5, 1211, 0), (1211, .if_icmp .eq 5, 1214, 1216), (1214, .iconst 0, 1215, 0), (1215, .ireturn, 1216, 0), (1216, .goto 1684, 1219, 2900)]
set_option maxRecDepth 100000 in
theorem hW_17 : q_chk 10 9 13 474 code TW_17 = true := lw_sub 558 22 rfl
set_option maxRecDepth 100000 in
theorem wk_17 {l : Launch} (hl0 : l.stackTraces = false) {L : Nat} {xs : Nat → Int32} {Z : Q_Z} (hz : LW_hz l L xs Z) {c z i : Nat} {M : Q_M} (hi : LI c M) (hiL : i + 2 < L) (hzz : z + 4 ≤ 601024) (h512 : c ≤ 512) (hE : LW_E c z i Z) : Z z 1183 (lw_l i) [] M := by
  apply hz TW_17 hW_17 [1190] 60
  refine Exists.intro (i + 1) ⟨rfl, nI_add i 1, (show i + 1 < L by omega), ?_⟩
  refine lw_cS hz (T := TW_17) hW_17 (pc := 1190) (idx := 205) (j := 278) (na := 2) (bj := 1) rfl rfl rfl rfl rfl (by omega) (Or.inr ⟨by decide, by decide, cL_keep_ct hl0⟩) ?_
  refine jv_keep hi _ _ _ (fun k M1 hR => ?_)
  apply hz TW_17 hW_17 [1202] 60
  refine Exists.intro (i + 1) ⟨rfl, nI_add i 1, (show i + 1 < L by omega), ?_⟩
  refine lw_cV hz (T := TW_17) hW_17 (pc := 1202) (idx := 208) (j := 205) (na := 2) (bj := 0) rfl rfl rfl rfl rfl (by omega) (q_C2i rfl (cX9_keep_ct hl0)) ?_
  refine hR _ _ (fun M2 h3 hLI => ?_)
  apply hz TW_17 hW_17 [1206] 60
  refine lw_cV hz (T := TW_17) hW_17 (pc := 1206) (idx := 148) (j := 146) (na := 1) (bj := 0) rfl rfl rfl rfl rfl (by omega) (q_C2i rfl (cX9_thrown_ct hl0)) ⟨rfl, ?_⟩
  apply hz TW_17 hW_17 [2900] 60
  exact And.intro (fun _ => hE _ _ _ (by omega) w_l1 hLI) (fun g => absurd h3 g)
def TW_65 : Q_T := [(2845, .aload_n 1, 2846, 0), (2846, .invokevirtual 374, 2849, 0), (2849, .dstore 5, 2851, 0), (2851, .aload_n 2, 2852, 0), (2852, .invokevirtual 378, 2855, 0), (2855, .dstore 7, 2857, 0), (2857, .dload 5, 2859, 0), (2859, .dload 7, 2861, 0), (2861, .dcmp .l, 2862, 0), (2862, .ifCond .eq 21, 2865, 2883), (2865, .dload 5, 2867, 0), (2867, .dload 5, 2869, 0), (2869, .dcmp .l, 2870, 0), (2870, .ifCond .eq 11, 2873, 2881), (2873, .dload 7, 2875, 0), (2875, .dload 7, 2877, 0), (2877, .dcmp .l, 2878, 0), (2878, .ifCond .ne 5, 2881, 2883), (2881, .iconst 0, 2882, 0), (2882, .ireturn, 2883, 0), (2883, .goto 17, 2886, 2900)]
set_option maxRecDepth 100000 in
theorem hW_65 : q_chk 10 9 13 474 code TW_65 = true := lw_sub 1560 21 rfl
set_option maxRecDepth 100000 in
theorem wk_65 {l : Launch} (hl0 : l.stackTraces = false) {L : Nat} {xs : Nat → Int32} {Z : Q_Z} (hz : LW_hz l L xs Z) {c z i : Nat} {M : Q_M} (hi : LI c M) (hiL : i + 2 < L) (hzz : z + 4 ≤ 601024) (h512 : c ≤ 512) (hE : LW_E c z i Z) : Z z 2845 (lw_l i) [] M := by
  apply hz TW_65 hW_65 [2846] 60
  refine lw_cV hz (T := TW_65) hW_65 (pc := 2846) (idx := 374) (j := 132) (na := 1) (bj := 0) rfl rfl rfl rfl rfl (by omega) (q_C2i rfl (cX8_hitShare_ct hl0)) ?_
  refine jd_hitShare hi h512 _ _ (fun v M1 hR => ?_)
  apply hz TW_65 hW_65 [2852] 60
  refine lw_cV hz (T := TW_65) hW_65 (pc := 2852) (idx := 378) (j := 260) (na := 1) (bj := 0) rfl rfl rfl rfl rfl (by omega) (q_C2i rfl (cX9_hitShare_ct hl0)) ?_
  refine hR _ _ (fun M2 hLI => ?_)
  apply hz TW_65 hW_65 [2900] 60
  exact And.intro (fun _ => hE _ _ _ (by omega) w_l2 hLI) (fun g => And.intro (fun g2 => absurd g2 g) (fun _ => And.intro (fun g3 => absurd g3 g) (fun _ => hE _ _ _ (by omega) w_l2 hLI)))
def TW_66 : Q_T := [(2886, .aload_n 1, 2887, 0), (2887, .invokevirtual 379, 2890, 0), (2890, .aload_n 2, 2891, 0), (2891, .invokevirtual 383, 2894, 0), (2894, .lcmp, 2895, 0), (2895, .ifCond .eq 5, 2898, 2900), (2898, .iconst 0, 2899, 0), (2899, .ireturn, 2900, 0)]
set_option maxRecDepth 100000 in
theorem hW_66 : q_chk 10 9 13 474 code TW_66 = true := lw_sub 1581 8 rfl
set_option maxRecDepth 100000 in
theorem wk_66 {l : Launch} (hl0 : l.stackTraces = false) {L : Nat} {xs : Nat → Int32} {Z : Q_Z} (hz : LW_hz l L xs Z) {c z i : Nat} {M : Q_M} (hi : LI c M) (hiL : i + 2 < L) (hzz : z + 4 ≤ 601024) (h512 : c ≤ 512) (hE : LW_E c z i Z) (hdig : LW_dig Z) : Z z 2886 (lw_l i) [] M := by
  obtain ⟨h, n, tx, B, C, U, hd, hu, hB, hC⟩ := id hi
  have hs := hd.2.2.2
  obtain ⟨-, -, a, b, ea, eb, hab⟩ := hs.1.2.2
  apply hz TW_66 hW_66 [2887] 60
  refine hdig _ _ _ _ _ _ _ _ _ _ _ _ (by omega) hd.1 ea eb (by omega) (fun C1 => ?_)
  apply hz TW_66 hW_66 [2891] 60
  refine lw_cV hz (T := TW_66) hW_66 (pc := 2891) (idx := 383) (j := 263) (na := 1) (bj := 0) rfl rfl rfl rfl rfl (by omega) (q_C2i rfl (cX9_digest_ct hl0)) ⟨h, a, b, C, U, n, tx, hs.1.1, hs.1.2.2, by omega, hd.2.1, ea, eb, by omega, ⟨hd.2.2.1.1, hd.2.2.1.2.1, hd.2.2.1.2.2⟩, fun k hk => (hd.1.2.2.2.1 k hk).2.2.1, rfl, ?_⟩
  apply hz TW_66 hW_66 [2900] 60
  exact And.intro (fun _ => hE _ _ _ (by omega) w_l0 (LI_o hi rfl rfl)) (fun g => absurd (w_cmp rfl) g)
