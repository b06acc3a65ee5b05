-- THE LAW'S LOOP: CASES
def TW_36 : Q_T := [(1943, .aload_n 1, 1944, 0), (1944, .aload_n 3, 1945, 0), (1945, .invokestatic 270, 1948, 0), (1948, .istore 5, 1950, 0), (1950, .aload_n 2, 1951, 0), (1951, .invokevirtual 272, 1954, 0), (1954, .istore 6, 1956, 0), (1956, .aload_n 2, 1957, 0), (1957, .invokevirtual 148, 1960, 0), (1960, .iload 5, 1962, 0), (1962, .if_icmp .eq 5, 1965, 1967), (1965, .iconst 0, 1966, 0), (1966, .ireturn, 1967, 0), (1967, .iload 5, 1969, 0), (1969, .ifCond .ne 15, 1972, 1984), (1972, .aload_n 3, 1973, 0), (1973, .iconst 0, 1974, 0), (1974, .laload, 1975, 0), (1975, .iload 6, 1977, 0), (1977, .i2l, 1978, 0), (1978, .lcmp, 1979, 0), (1979, .ifCond .eq 5, 1982, 1984), (1982, .iconst 0, 1983, 0), (1983, .ireturn, 1984, 0), (1984, .goto 916, 1987, 2900)]
set_option maxRecDepth 100000 in
theorem hW_36 : q_chk 10 9 13 474 code TW_36 = true := lw_sub 1022 25 rfl
set_option maxRecDepth 100000 in
theorem wk_36 {l : Launch} (hl0 : l.stackTraces = false) {L : Nat} {xs : Nat → Int32} {Z : Q_Z} (hz : LW_hz l L xs Z) {c z i : Nat} {M : Q_M} (hi : LI c M) (hiL : i + 2 < L) (hzz : z + 4 ≤ 601024) (h512 : c ≤ 512) (hE : LW_E c z i Z) : Z z 1943 (lw_l i) [] M := by
  apply hz TW_36 hW_36 [1945] 60
  refine lw_cS hz (T := TW_36) hW_36 (pc := 1945) (idx := 270) (j := 291) (na := 2) (bj := 1) rfl rfl rfl rfl rfl (by omega) (Or.inr ⟨by decide, by decide, cL_nextLent_ct hl0⟩) ?_
  refine jw_nextLent hi _ _ (fun k M1 hk hR => ?_)
  apply hz TW_36 hW_36 [1951] 60
  refine lw_cV hz (T := TW_36) hW_36 (pc := 1951) (idx := 272) (j := 229) (na := 1) (bj := 0) rfl rfl rfl rfl rfl (by omega) (q_C2i rfl (cX9_nextLent_ct hl0)) ?_
  refine hR _ _ (fun b M2 h3 hzb ho hLI => ?_)
  apply hz TW_36 hW_36 [1957] 60
  refine lw_cV hz (T := TW_36) hW_36 (pc := 1957) (idx := 148) (j := 146) (na := 1) (bj := 0) rfl rfl rfl rfl rfl (by omega) (q_C2i rfl (cX9_thrown_ct hl0)) ⟨rfl, ?_⟩
  apply hz TW_36 hW_36 [2900] 60
  refine And.intro (fun _ => ?_) (fun g => absurd h3 g)
  refine And.intro (fun g0 => ?_) (fun _ => hE _ _ _ (by omega) w_l2 hLI)
  refine Exists.intro 0 ⟨rfl, by decide, ?_⟩
  exact And.intro (fun _ => hE _ _ _ (by omega) w_l2 hLI) (fun g => absurd (w_cmp (ho (w_k0 hk g0))) g)
def TW_37 : Q_T := [(1987, .aload_n 1, 1988, 0), (1988, .aload_n 0, 1989, 0), (1989, .iload 4, 1991, 0), (1991, .iconst 1, 1992, 0), (1992, .iadd, 1993, 0), (1993, .iaload, 1994, 0), (1994, .aload_n 3, 1995, 0), (1995, .invokestatic 273, 1998, 0), (1998, .istore 5, 2000, 0), (2000, .aload_n 2, 2001, 0), (2001, .aload_n 0, 2002, 0), (2002, .iload 4, 2004, 0), (2004, .iconst 1, 2005, 0), (2005, .iadd, 2006, 0), (2006, .iaload, 2007, 0), (2007, .invokevirtual 275, 2010, 0), (2010, .istore 6, 2012, 0), (2012, .aload_n 2, 2013, 0), (2013, .invokevirtual 148, 2016, 0), (2016, .iload 5, 2018, 0), (2018, .if_icmp .eq 5, 2021, 2023), (2021, .iconst 0, 2022, 0), (2022, .ireturn, 2023, 0), (2023, .iload 5, 2025, 0), (2025, .ifCond .ne 22, 2028, 2047), (2028, .aload_n 3, 2029, 0), (2029, .iconst 0, 2030, 0), (2030, .laload, 2031, 0), (2031, .iload 6, 2033, 0), (2033, .ifCond .eq 7, 2036, 2040), (2036, .lconst 1, 2037, 0), (2037, .goto 4, 2040, 2041), (2040, .lconst 0, 2041, 0), (2041, .lcmp, 2042, 0), (2042, .ifCond .eq 5, 2045, 2047), (2045, .iconst 0, 2046, 0), (2046, .ireturn, 2047, 0), (2047, .goto 853, 2050, 2900)]
set_option maxRecDepth 100000 in
theorem hW_37 : q_chk 10 9 13 474 code TW_37 = true := lw_sub 1047 38 rfl
set_option maxRecDepth 100000 in
theorem wk_37 {l : Launch} (hl0 : l.stackTraces = false) {L : Nat} {xs : Nat → Int32} {Z : Q_Z} (hz : LW_hz l L xs Z) {c z i : Nat} {M : Q_M} (hi : LI c M) (hiL : i + 2 < L) (hzz : z + 4 ≤ 601024) (h512 : c ≤ 512) (hE : LW_E c z i Z) : Z z 1987 (lw_l i) [] M := by
  apply hz TW_37 hW_37 [1995] 60
  refine Exists.intro (i + 1) ⟨rfl, nI_add i 1, (show i + 1 < L by omega), ?_⟩
  refine lw_cS hz (T := TW_37) hW_37 (pc := 1995) (idx := 273) (j := 292) (na := 3) (bj := 1) rfl rfl rfl rfl rfl (by omega) (Or.inr ⟨by decide, by decide, cL_has_ct hl0⟩) ?_
  refine jw_has hi _ _ _ (fun k M1 hk hR => ?_)
  apply hz TW_37 hW_37 [2007] 60
  refine Exists.intro (i + 1) ⟨rfl, nI_add i 1, (show i + 1 < L by omega), ?_⟩
  refine lw_cV hz (T := TW_37) hW_37 (pc := 2007) (idx := 275) (j := 230) (na := 2) (bj := 0) rfl rfl rfl rfl rfl (by omega) (q_C2i rfl (cX9_has_ct hl0)) ?_
  refine hR _ _ (fun b M2 h3 hzb ho hLI => ?_)
  apply hz TW_37 hW_37 [2013] 60
  refine lw_cV hz (T := TW_37) hW_37 (pc := 2013) (idx := 148) (j := 146) (na := 1) (bj := 0) rfl rfl rfl rfl rfl (by omega) (q_C2i rfl (cX9_thrown_ct hl0)) ⟨rfl, ?_⟩
  apply hz TW_37 hW_37 [2900] 60
  refine And.intro (fun _ => ?_) (fun g => absurd h3 g)
  refine And.intro (fun g0 => ?_) (fun _ => hE _ _ _ (by omega) w_l2 hLI)
  refine Exists.intro 0 ⟨rfl, by decide, ?_⟩
  refine And.intro (fun gb => ?_) (fun gb => ?_)
  · exact And.intro (fun _ => hE _ _ _ (by omega) w_l2 hLI) (fun g => absurd (w_cmp ((ho (w_k0 hk g0)).trans (w_b0 (hzb rfl) gb))) g)
  · exact And.intro (fun _ => hE _ _ _ (by omega) w_l2 hLI) (fun g => absurd (w_cmp ((ho (w_k0 hk g0)).trans (w_b1 (hzb rfl) gb))) g)
def TW_38 : Q_T := [(2050, .aload_n 1, 2051, 0), (2051, .aload_n 0, 2052, 0), (2052, .iload 4, 2054, 0), (2054, .iconst 1, 2055, 0), (2055, .iadd, 2056, 0), (2056, .iaload, 2057, 0), (2057, .aload_n 3, 2058, 0), (2058, .invokestatic 276, 2061, 0), (2061, .istore 5, 2063, 0), (2063, .aload_n 2, 2064, 0), (2064, .aload_n 0, 2065, 0), (2065, .iload 4, 2067, 0), (2067, .iconst 1, 2068, 0), (2068, .iadd, 2069, 0), (2069, .iaload, 2070, 0), (2070, .invokevirtual 278, 2073, 0), (2073, .istore 6, 2075, 0), (2075, .aload_n 2, 2076, 0), (2076, .invokevirtual 148, 2079, 0), (2079, .iload 5, 2081, 0), (2081, .if_icmp .eq 5, 2084, 2086), (2084, .iconst 0, 2085, 0), (2085, .ireturn, 2086, 0), (2086, .iload 5, 2088, 0), (2088, .ifCond .ne 15, 2091, 2103), (2091, .aload_n 3, 2092, 0), (2092, .iconst 0, 2093, 0), (2093, .laload, 2094, 0), (2094, .iload 6, 2096, 0), (2096, .i2l, 2097, 0), (2097, .lcmp, 2098, 0), (2098, .ifCond .eq 5, 2101, 2103), (2101, .iconst 0, 2102, 0), (2102, .ireturn, 2103, 0), (2103, .goto 797, 2106, 2900)]
set_option maxRecDepth 100000 in
theorem hW_38 : q_chk 10 9 13 474 code TW_38 = true := lw_sub 1085 35 rfl
set_option maxRecDepth 100000 in
theorem wk_38 {l : Launch} (hl0 : l.stackTraces = false) {L : Nat} {xs : Nat → Int32} {Z : Q_Z} (hz : LW_hz l L xs Z) {c z i : Nat} {M : Q_M} (hi : LI c M) (hiL : i + 2 < L) (hzz : z + 4 ≤ 601024) (h512 : c ≤ 512) (hE : LW_E c z i Z) : Z z 2050 (lw_l i) [] M := by
  apply hz TW_38 hW_38 [2058] 60
  refine Exists.intro (i + 1) ⟨rfl, nI_add i 1, (show i + 1 < L by omega), ?_⟩
  refine lw_cS hz (T := TW_38) hW_38 (pc := 2058) (idx := 276) (j := 293) (na := 3) (bj := 2) rfl rfl rfl rfl rfl (by omega) (Or.inr ⟨by decide, by decide, cL_placeOf_ct hl0⟩) ?_
  refine jw_placeOf hi _ _ _ (fun k M1 hk hR => ?_)
  apply hz TW_38 hW_38 [2070] 60
  refine Exists.intro (i + 1) ⟨rfl, nI_add i 1, (show i + 1 < L by omega), ?_⟩
  refine lw_cV hz (T := TW_38) hW_38 (pc := 2070) (idx := 278) (j := 231) (na := 2) (bj := 0) rfl rfl rfl rfl rfl (by omega) (q_C2i rfl (cX9_placeOf_ct hl0)) ?_
  refine hR _ _ (fun b M2 h3 hzb ho hLI => ?_)
  apply hz TW_38 hW_38 [2076] 60
  refine lw_cV hz (T := TW_38) hW_38 (pc := 2076) (idx := 148) (j := 146) (na := 1) (bj := 0) rfl rfl rfl rfl rfl (by omega) (q_C2i rfl (cX9_thrown_ct hl0)) ⟨rfl, ?_⟩
  apply hz TW_38 hW_38 [2900] 60
  refine And.intro (fun _ => ?_) (fun g => absurd h3 g)
  refine And.intro (fun g0 => ?_) (fun _ => hE _ _ _ (by omega) w_l2 hLI)
  refine Exists.intro 0 ⟨rfl, by decide, ?_⟩
  exact And.intro (fun _ => hE _ _ _ (by omega) w_l2 hLI) (fun g => absurd (w_cmp (ho (w_k0 hk g0))) g)
def TW_39 : Q_T := [(2106, .aload_n 1, 2107, 0), (2107, .aload_n 0, 2108, 0), (2108, .iload 4, 2110, 0), (2110, .iconst 1, 2111, 0), (2111, .iadd, 2112, 0), (2112, .iaload, 2113, 0), (2113, .aload_n 3, 2114, 0), (2114, .invokestatic 279, 2117, 0), (2117, .istore 5, 2119, 0), (2119, .aload_n 2, 2120, 0), (2120, .aload_n 0, 2121, 0), (2121, .iload 4, 2123, 0), (2123, .iconst 1, 2124, 0), (2124, .iadd, 2125, 0), (2125, .iaload, 2126, 0), (2126, .invokevirtual 281, 2129, 0), (2129, .istore 6, 2131, 0), (2131, .aload_n 2, 2132, 0), (2132, .invokevirtual 148, 2135, 0), (2135, .iload 5, 2137, 0), (2137, .if_icmp .eq 5, 2140, 2142), (2140, .iconst 0, 2141, 0), (2141, .ireturn, 2142, 0), (2142, .iload 5, 2144, 0), (2144, .ifCond .ne 15, 2147, 2159), (2147, .aload_n 3, 2148, 0), (2148, .iconst 0, 2149, 0), (2149, .laload, 2150, 0), (2150, .iload 6, 2152, 0), (2152, .i2l, 2153, 0), (2153, .lcmp, 2154, 0), (2154, .ifCond .eq 5, 2157, 2159), (2157, .iconst 0, 2158, 0), (2158, .ireturn, 2159, 0), (2159, .goto 741, 2162, 2900)]
set_option maxRecDepth 100000 in
theorem hW_39 : q_chk 10 9 13 474 code TW_39 = true := lw_sub 1120 35 rfl
set_option maxRecDepth 100000 in
theorem wk_39 {l : Launch} (hl0 : l.stackTraces = false) {L : Nat} {xs : Nat → Int32} {Z : Q_Z} (hz : LW_hz l L xs Z) {c z i : Nat} {M : Q_M} (hi : LI c M) (hiL : i + 2 < L) (hzz : z + 4 ≤ 601024) (h512 : c ≤ 512) (hE : LW_E c z i Z) : Z z 2106 (lw_l i) [] M := by
  apply hz TW_39 hW_39 [2114] 60
  refine Exists.intro (i + 1) ⟨rfl, nI_add i 1, (show i + 1 < L by omega), ?_⟩
  refine lw_cS hz (T := TW_39) hW_39 (pc := 2114) (idx := 279) (j := 294) (na := 3) (bj := 2) rfl rfl rfl rfl rfl (by omega) (Or.inr ⟨by decide, by decide, cL_leaseLeft_ct hl0⟩) ?_
  refine jw_leaseLeft hi _ _ _ (fun k M1 hk hR => ?_)
  apply hz TW_39 hW_39 [2126] 60
  refine Exists.intro (i + 1) ⟨rfl, nI_add i 1, (show i + 1 < L by omega), ?_⟩
  refine lw_cV hz (T := TW_39) hW_39 (pc := 2126) (idx := 281) (j := 233) (na := 2) (bj := 0) rfl rfl rfl rfl rfl (by omega) (q_C2i rfl (cX9_leaseLeft_ct hl0)) ?_
  refine hR _ _ (fun b M2 h3 hzb ho hLI => ?_)
  apply hz TW_39 hW_39 [2132] 60
  refine lw_cV hz (T := TW_39) hW_39 (pc := 2132) (idx := 148) (j := 146) (na := 1) (bj := 0) rfl rfl rfl rfl rfl (by omega) (q_C2i rfl (cX9_thrown_ct hl0)) ⟨rfl, ?_⟩
  apply hz TW_39 hW_39 [2900] 60
  refine And.intro (fun _ => ?_) (fun g => absurd h3 g)
  refine And.intro (fun g0 => ?_) (fun _ => hE _ _ _ (by omega) w_l2 hLI)
  refine Exists.intro 0 ⟨rfl, by decide, ?_⟩
  exact And.intro (fun _ => hE _ _ _ (by omega) w_l2 hLI) (fun g => absurd (w_cmp (ho (w_k0 hk g0))) g)
def TW_40 : Q_T := [(2162, .aload_n 1, 2163, 0), (2163, .aload_n 0, 2164, 0), (2164, .iload 4, 2166, 0), (2166, .iconst 1, 2167, 0), (2167, .iadd, 2168, 0), (2168, .iaload, 2169, 0), (2169, .aload_n 3, 2170, 0), (2170, .invokestatic 282, 2173, 0), (2173, .istore 5, 2175, 0), (2175, .aload_n 2, 2176, 0), (2176, .aload_n 0, 2177, 0), (2177, .iload 4, 2179, 0), (2179, .iconst 1, 2180, 0), (2180, .iadd, 2181, 0), (2181, .iaload, 2182, 0), (2182, .invokevirtual 284, 2185, 0), (2185, .istore 6, 2187, 0), (2187, .aload_n 2, 2188, 0), (2188, .invokevirtual 148, 2191, 0), (2191, .iload 5, 2193, 0), (2193, .if_icmp .eq 5, 2196, 2198), (2196, .iconst 0, 2197, 0), (2197, .ireturn, 2198, 0), (2198, .iload 5, 2200, 0), (2200, .ifCond .ne 22, 2203, 2222), (2203, .aload_n 3, 2204, 0), (2204, .iconst 0, 2205, 0), (2205, .laload, 2206, 0), (2206, .iload 6, 2208, 0), (2208, .ifCond .eq 7, 2211, 2215), (2211, .lconst 1, 2212, 0), (2212, .goto 4, 2215, 2216), (2215, .lconst 0, 2216, 0), (2216, .lcmp, 2217, 0), (2217, .ifCond .eq 5, 2220, 2222), (2220, .iconst 0, 2221, 0), (2221, .ireturn, 2222, 0), (2222, .goto 678, 2225, 2900)]
set_option maxRecDepth 100000 in
theorem hW_40 : q_chk 10 9 13 474 code TW_40 = true := lw_sub 1155 38 rfl
set_option maxRecDepth 100000 in
theorem wk_40 {l : Launch} (hl0 : l.stackTraces = false) {L : Nat} {xs : Nat → Int32} {Z : Q_Z} (hz : LW_hz l L xs Z) {c z i : Nat} {M : Q_M} (hi : LI c M) (hiL : i + 2 < L) (hzz : z + 4 ≤ 601024) (h512 : c ≤ 512) (hE : LW_E c z i Z) : Z z 2162 (lw_l i) [] M := by
  apply hz TW_40 hW_40 [2170] 60
  refine Exists.intro (i + 1) ⟨rfl, nI_add i 1, (show i + 1 < L by omega), ?_⟩
  refine lw_cS hz (T := TW_40) hW_40 (pc := 2170) (idx := 282) (j := 295) (na := 3) (bj := 1) rfl rfl rfl rfl rfl (by omega) (Or.inr ⟨by decide, by decide, cL_isWaiting_ct hl0⟩) ?_
  refine jw_isWaiting hi _ _ _ (fun k M1 hk hR => ?_)
  apply hz TW_40 hW_40 [2182] 60
  refine Exists.intro (i + 1) ⟨rfl, nI_add i 1, (show i + 1 < L by omega), ?_⟩
  refine lw_cV hz (T := TW_40) hW_40 (pc := 2182) (idx := 284) (j := 234) (na := 2) (bj := 0) rfl rfl rfl rfl rfl (by omega) (q_C2i rfl (cX9_isWaiting_ct hl0)) ?_
  refine hR _ _ (fun b M2 h3 hzb ho hLI => ?_)
  apply hz TW_40 hW_40 [2188] 60
  refine lw_cV hz (T := TW_40) hW_40 (pc := 2188) (idx := 148) (j := 146) (na := 1) (bj := 0) rfl rfl rfl rfl rfl (by omega) (q_C2i rfl (cX9_thrown_ct hl0)) ⟨rfl, ?_⟩
  apply hz TW_40 hW_40 [2900] 60
  refine And.intro (fun _ => ?_) (fun g => absurd h3 g)
  refine And.intro (fun g0 => ?_) (fun _ => hE _ _ _ (by omega) w_l2 hLI)
  refine Exists.intro 0 ⟨rfl, by decide, ?_⟩
  refine And.intro (fun gb => ?_) (fun gb => ?_)
  · exact And.intro (fun _ => hE _ _ _ (by omega) w_l2 hLI) (fun g => absurd (w_cmp ((ho (w_k0 hk g0)).trans (w_b0 (hzb rfl) gb))) g)
  · exact And.intro (fun _ => hE _ _ _ (by omega) w_l2 hLI) (fun g => absurd (w_cmp ((ho (w_k0 hk g0)).trans (w_b1 (hzb rfl) gb))) g)
def TW_41 : Q_T := [(2225, .aload_n 1, 2226, 0), (2226, .aload_n 0, 2227, 0), (2227, .iload 4, 2229, 0), (2229, .iconst 1, 2230, 0), (2230, .iadd, 2231, 0), (2231, .iaload, 2232, 0), (2232, .aload_n 3, 2233, 0), (2233, .invokestatic 285, 2236, 0), (2236, .istore 5, 2238, 0), (2238, .aload_n 2, 2239, 0), (2239, .aload_n 0, 2240, 0), (2240, .iload 4, 2242, 0), (2242, .iconst 1, 2243, 0), (2243, .iadd, 2244, 0), (2244, .iaload, 2245, 0), (2245, .invokevirtual 287, 2248, 0), (2248, .istore 6, 2250, 0), (2250, .aload_n 2, 2251, 0), (2251, .invokevirtual 148, 2254, 0), (2254, .iload 5, 2256, 0), (2256, .if_icmp .eq 5, 2259, 2261), (2259, .iconst 0, 2260, 0), (2260, .ireturn, 2261, 0), (2261, .iload 5, 2263, 0), (2263, .ifCond .ne 15, 2266, 2278), (2266, .aload_n 3, 2267, 0), (2267, .iconst 0, 2268, 0), (2268, .laload, 2269, 0), (2269, .iload 6, 2271, 0), (2271, .i2l, 2272, 0), (2272, .lcmp, 2273, 0), (2273, .ifCond .eq 5, 2276, 2278), (2276, .iconst 0, 2277, 0), (2277, .ireturn, 2278, 0), (2278, .goto 622, 2281, 2900)]
set_option maxRecDepth 100000 in
theorem hW_41 : q_chk 10 9 13 474 code TW_41 = true := lw_sub 1193 35 rfl
set_option maxRecDepth 100000 in
theorem wk_41 {l : Launch} (hl0 : l.stackTraces = false) {L : Nat} {xs : Nat → Int32} {Z : Q_Z} (hz : LW_hz l L xs Z) {c z i : Nat} {M : Q_M} (hi : LI c M) (hiL : i + 2 < L) (hzz : z + 4 ≤ 601024) (h512 : c ≤ 512) (hE : LW_E c z i Z) : Z z 2225 (lw_l i) [] M := by
  apply hz TW_41 hW_41 [2233] 60
  refine Exists.intro (i + 1) ⟨rfl, nI_add i 1, (show i + 1 < L by omega), ?_⟩
  refine lw_cS hz (T := TW_41) hW_41 (pc := 2233) (idx := 285) (j := 296) (na := 3) (bj := 2) rfl rfl rfl rfl rfl (by omega) (Or.inr ⟨by decide, by decide, cL_waitOf_ct hl0⟩) ?_
  refine jw_waitOf hi _ _ _ (fun k M1 hk hR => ?_)
  apply hz TW_41 hW_41 [2245] 60
  refine Exists.intro (i + 1) ⟨rfl, nI_add i 1, (show i + 1 < L by omega), ?_⟩
  refine lw_cV hz (T := TW_41) hW_41 (pc := 2245) (idx := 287) (j := 235) (na := 2) (bj := 0) rfl rfl rfl rfl rfl (by omega) (q_C2i rfl (cX9_waitOf_ct hl0)) ?_
  refine hR _ _ (fun b M2 h3 hzb ho hLI => ?_)
  apply hz TW_41 hW_41 [2251] 60
  refine lw_cV hz (T := TW_41) hW_41 (pc := 2251) (idx := 148) (j := 146) (na := 1) (bj := 0) rfl rfl rfl rfl rfl (by omega) (q_C2i rfl (cX9_thrown_ct hl0)) ⟨rfl, ?_⟩
  apply hz TW_41 hW_41 [2900] 60
  refine And.intro (fun _ => ?_) (fun g => absurd h3 g)
  refine And.intro (fun g0 => ?_) (fun _ => hE _ _ _ (by omega) w_l2 hLI)
  refine Exists.intro 0 ⟨rfl, by decide, ?_⟩
  exact And.intro (fun _ => hE _ _ _ (by omega) w_l2 hLI) (fun g => absurd (w_cmp (ho (w_k0 hk g0))) g)
def TW_42 : Q_T := [(2281, .aload_n 1, 2282, 0), (2282, .aload_n 0, 2283, 0), (2283, .iload 4, 2285, 0), (2285, .iconst 1, 2286, 0), (2286, .iadd, 2287, 0), (2287, .iaload, 2288, 0), (2288, .aload_n 3, 2289, 0), (2289, .invokestatic 288, 2292, 0), (2292, .istore 5, 2294, 0), (2294, .aload_n 2, 2295, 0), (2295, .aload_n 0, 2296, 0), (2296, .iload 4, 2298, 0), (2298, .iconst 1, 2299, 0), (2299, .iadd, 2300, 0), (2300, .iaload, 2301, 0), (2301, .invokevirtual 290, 2304, 0), (2304, .istore 6, 2306, 0), (2306, .aload_n 2, 2307, 0), (2307, .invokevirtual 148, 2310, 0), (2310, .iload 5, 2312, 0), (2312, .if_icmp .eq 5, 2315, 2317), (2315, .iconst 0, 2316, 0), (2316, .ireturn, 2317, 0), (2317, .iload 5, 2319, 0), (2319, .ifCond .ne 15, 2322, 2334), (2322, .aload_n 3, 2323, 0), (2323, .iconst 0, 2324, 0), (2324, .laload, 2325, 0), (2325, .iload 6, 2327, 0), (2327, .i2l, 2328, 0), (2328, .lcmp, 2329, 0), (2329, .ifCond .eq 5, 2332, 2334), (2332, .iconst 0, 2333, 0), (2333, .ireturn, 2334, 0), (2334, .goto 566, 2337, 2900)]
set_option maxRecDepth 100000 in
theorem hW_42 : q_chk 10 9 13 474 code TW_42 = true := lw_sub 1228 35 rfl
set_option maxRecDepth 100000 in
theorem wk_42 {l : Launch} (hl0 : l.stackTraces = false) {L : Nat} {xs : Nat → Int32} {Z : Q_Z} (hz : LW_hz l L xs Z) {c z i : Nat} {M : Q_M} (hi : LI c M) (hiL : i + 2 < L) (hzz : z + 4 ≤ 601024) (h512 : c ≤ 512) (hE : LW_E c z i Z) : Z z 2281 (lw_l i) [] M := by
  apply hz TW_42 hW_42 [2289] 60
  refine Exists.intro (i + 1) ⟨rfl, nI_add i 1, (show i + 1 < L by omega), ?_⟩
  refine lw_cS hz (T := TW_42) hW_42 (pc := 2289) (idx := 288) (j := 297) (na := 3) (bj := 2) rfl rfl rfl rfl rfl (by omega) (Or.inr ⟨by decide, by decide, cL_queueOf_ct hl0⟩) ?_
  refine jw_queueOf hi _ _ _ (fun k M1 hk hR => ?_)
  apply hz TW_42 hW_42 [2301] 60
  refine Exists.intro (i + 1) ⟨rfl, nI_add i 1, (show i + 1 < L by omega), ?_⟩
  refine lw_cV hz (T := TW_42) hW_42 (pc := 2301) (idx := 290) (j := 236) (na := 2) (bj := 0) rfl rfl rfl rfl rfl (by omega) (q_C2i rfl (cX9_queueOf_ct hl0)) ?_
  refine hR _ _ (fun b M2 h3 hzb ho hLI => ?_)
  apply hz TW_42 hW_42 [2307] 60
  refine lw_cV hz (T := TW_42) hW_42 (pc := 2307) (idx := 148) (j := 146) (na := 1) (bj := 0) rfl rfl rfl rfl rfl (by omega) (q_C2i rfl (cX9_thrown_ct hl0)) ⟨rfl, ?_⟩
  apply hz TW_42 hW_42 [2900] 60
  refine And.intro (fun _ => ?_) (fun g => absurd h3 g)
  refine And.intro (fun g0 => ?_) (fun _ => hE _ _ _ (by omega) w_l2 hLI)
  refine Exists.intro 0 ⟨rfl, by decide, ?_⟩
  exact And.intro (fun _ => hE _ _ _ (by omega) w_l2 hLI) (fun g => absurd (w_cmp (ho (w_k0 hk g0))) g)
def TW_43 : Q_T := [(2337, .aload_n 1, 2338, 0), (2338, .invokevirtual 291, 2341, 0), (2341, .aload_n 2, 2342, 0), (2342, .invokevirtual 294, 2345, 0), (2345, .if_icmp .eq 555, 2348, 2900), (2348, .iconst 0, 2349, 0), (2349, .ireturn, 2350, 0)]
set_option maxRecDepth 100000 in
theorem hW_43 : q_chk 10 9 13 474 code TW_43 = true := lw_sub 1263 7 rfl
set_option maxRecDepth 100000 in
theorem wk_43 {l : Launch} (hl0 : l.stackTraces = false) {L : Nat} {xs : Nat → Int32} {Z : Q_Z} (hz : LW_hz l L xs Z) {c z i : Nat} {M : Q_M} (hi : LI c M) (hiL : i + 2 < L) (hzz : z + 4 ≤ 601024) (h512 : c ≤ 512) (hE : LW_E c z i Z) : Z z 2337 (lw_l i) [] M := by
  apply hz TW_43 hW_43 [2338] 60
  refine lw_cV hz (T := TW_43) hW_43 (pc := 2338) (idx := 291) (j := 110) (na := 1) (bj := 0) rfl rfl rfl rfl rfl (by omega) (q_C2i rfl (cX8_waiting_ct hl0)) ?_
  refine jd_waiting hi _ _ (fun v M1 hR => ?_)
  apply hz TW_43 hW_43 [2342] 60
  refine lw_cV hz (T := TW_43) hW_43 (pc := 2342) (idx := 294) (j := 237) (na := 1) (bj := 0) rfl rfl rfl rfl rfl (by omega) (q_C2i rfl (cX9_waiting_ct hl0)) ?_
  refine hR _ _ (fun M2 hLI => ?_)
  apply hz TW_43 hW_43 [2900] 60
  exact And.intro (fun _ => hE _ _ _ (by omega) w_l0 hLI) (fun g => absurd rfl g)
def TW_44 : Q_T := [(2350, .aload_n 1, 2351, 0), (2351, .aload_n 0, 2352, 0), (2352, .iload 4, 2354, 0), (2354, .iconst 1, 2355, 0), (2355, .iadd, 2356, 0), (2356, .iaload, 2357, 0), (2357, .aload_n 3, 2358, 0), (2358, .invokestatic 295, 2361, 0), (2361, .istore 5, 2363, 0), (2363, .aload_n 2, 2364, 0), (2364, .aload_n 0, 2365, 0), (2365, .iload 4, 2367, 0), (2367, .iconst 1, 2368, 0), (2368, .iadd, 2369, 0), (2369, .iaload, 2370, 0), (2370, .invokevirtual 297, 2373, 0), (2373, .istore 6, 2375, 0), (2375, .aload_n 2, 2376, 0), (2376, .invokevirtual 148, 2379, 0), (2379, .iload 5, 2381, 0), (2381, .if_icmp .eq 5, 2384, 2386), (2384, .iconst 0, 2385, 0), (2385, .ireturn, 2386, 0), (2386, .iload 5, 2388, 0), (2388, .ifCond .ne 15, 2391, 2403), (2391, .aload_n 3, 2392, 0), (2392, .iconst 0, 2393, 0), (2393, .laload, 2394, 0), (2394, .iload 6, 2396, 0), (2396, .i2l, 2397, 0), (2397, .lcmp, 2398, 0), (2398, .ifCond .eq 5, 2401, 2403), (2401, .iconst 0, 2402, 0), (2402, .ireturn, 2403, 0), (2403, .goto 497, 2406, 2900)]
set_option maxRecDepth 100000 in
theorem hW_44 : q_chk 10 9 13 474 code TW_44 = true := lw_sub 1270 35 rfl
set_option maxRecDepth 100000 in
theorem wk_44 {l : Launch} (hl0 : l.stackTraces = false) {L : Nat} {xs : Nat → Int32} {Z : Q_Z} (hz : LW_hz l L xs Z) {c z i : Nat} {M : Q_M} (hi : LI c M) (hiL : i + 2 < L) (hzz : z + 4 ≤ 601024) (h512 : c ≤ 512) (hE : LW_E c z i Z) : Z z 2350 (lw_l i) [] M := by
  apply hz TW_44 hW_44 [2358] 60
  refine Exists.intro (i + 1) ⟨rfl, nI_add i 1, (show i + 1 < L by omega), ?_⟩
  refine lw_cS hz (T := TW_44) hW_44 (pc := 2358) (idx := 295) (j := 298) (na := 3) (bj := 1) rfl rfl rfl rfl rfl (by omega) (Or.inr ⟨by decide, by decide, cL_waiterAt_ct hl0⟩) ?_
  refine jw_waiterAt hi _ _ _ (fun k M1 hk hR => ?_)
  apply hz TW_44 hW_44 [2370] 60
  refine Exists.intro (i + 1) ⟨rfl, nI_add i 1, (show i + 1 < L by omega), ?_⟩
  refine lw_cV hz (T := TW_44) hW_44 (pc := 2370) (idx := 297) (j := 238) (na := 2) (bj := 0) rfl rfl rfl rfl rfl (by omega) (q_C2i rfl (cX9_waiterAt_ct hl0)) ?_
  refine hR _ _ (fun b M2 h3 hzb ho hLI => ?_)
  apply hz TW_44 hW_44 [2376] 60
  refine lw_cV hz (T := TW_44) hW_44 (pc := 2376) (idx := 148) (j := 146) (na := 1) (bj := 0) rfl rfl rfl rfl rfl (by omega) (q_C2i rfl (cX9_thrown_ct hl0)) ⟨rfl, ?_⟩
  apply hz TW_44 hW_44 [2900] 60
  refine And.intro (fun _ => ?_) (fun g => absurd h3 g)
  refine And.intro (fun g0 => ?_) (fun _ => hE _ _ _ (by omega) w_l2 hLI)
  refine Exists.intro 0 ⟨rfl, by decide, ?_⟩
  exact And.intro (fun _ => hE _ _ _ (by omega) w_l2 hLI) (fun g => absurd (w_cmp (ho (w_k0 hk g0))) g)
def TW_45 : Q_T := [(2406, .aload_n 1, 2407, 0), (2407, .invokevirtual 298, 2410, 0), (2410, .aload_n 2, 2411, 0), (2411, .invokevirtual 301, 2414, 0), (2414, .if_icmp .eq 486, 2417, 2900), (2417, .iconst 0, 2418, 0), (2418, .ireturn, 2419, 0)]
set_option maxRecDepth 100000 in
theorem hW_45 : q_chk 10 9 13 474 code TW_45 = true := lw_sub 1305 7 rfl
set_option maxRecDepth 100000 in
theorem wk_45 {l : Launch} (hl0 : l.stackTraces = false) {L : Nat} {xs : Nat → Int32} {Z : Q_Z} (hz : LW_hz l L xs Z) {c z i : Nat} {M : Q_M} (hi : LI c M) (hiL : i + 2 < L) (hzz : z + 4 ≤ 601024) (h512 : c ≤ 512) (hE : LW_E c z i Z) : Z z 2406 (lw_l i) [] M := by
  apply hz TW_45 hW_45 [2407] 60
  refine lw_cV hz (T := TW_45) hW_45 (pc := 2407) (idx := 298) (j := 112) (na := 1) (bj := 0) rfl rfl rfl rfl rfl (by omega) (q_C2i rfl (cX8_most_ct hl0)) ?_
  refine jd_most hi _ _ (fun v M1 hR => ?_)
  apply hz TW_45 hW_45 [2411] 60
  refine lw_cV hz (T := TW_45) hW_45 (pc := 2411) (idx := 301) (j := 239) (na := 1) (bj := 0) rfl rfl rfl rfl rfl (by omega) (q_C2i rfl (cX9_most_ct hl0)) ?_
  refine hR _ _ (fun M2 hLI => ?_)
  apply hz TW_45 hW_45 [2900] 60
  exact And.intro (fun _ => hE _ _ _ (by omega) w_l0 hLI) (fun g => absurd rfl g)
def TW_46 : Q_T := [(2419, .aload_n 1, 2420, 0), (2420, .invokevirtual 302, 2423, 0), (2423, .aload_n 2, 2424, 0), (2424, .invokevirtual 305, 2427, 0), (2427, .if_icmp .eq 473, 2430, 2900), (2430, .iconst 0, 2431, 0), (2431, .ireturn, 2432, 0)]
set_option maxRecDepth 100000 in
theorem hW_46 : q_chk 10 9 13 474 code TW_46 = true := lw_sub 1312 7 rfl
set_option maxRecDepth 100000 in
theorem wk_46 {l : Launch} (hl0 : l.stackTraces = false) {L : Nat} {xs : Nat → Int32} {Z : Q_Z} (hz : LW_hz l L xs Z) {c z i : Nat} {M : Q_M} (hi : LI c M) (hiL : i + 2 < L) (hzz : z + 4 ≤ 601024) (h512 : c ≤ 512) (hE : LW_E c z i Z) : Z z 2419 (lw_l i) [] M := by
  apply hz TW_46 hW_46 [2420] 60
  refine lw_cV hz (T := TW_46) hW_46 (pc := 2420) (idx := 302) (j := 113) (na := 1) (bj := 0) rfl rfl rfl rfl rfl (by omega) (q_C2i rfl (cX8_leastIdle_ct hl0)) ?_
  refine jd_leastIdle hi _ _ (fun v M1 hR => ?_)
  apply hz TW_46 hW_46 [2424] 60
  refine lw_cV hz (T := TW_46) hW_46 (pc := 2424) (idx := 305) (j := 240) (na := 1) (bj := 0) rfl rfl rfl rfl rfl (by omega) (q_C2i rfl (cX9_leastIdle_ct hl0)) ?_
  refine hR _ _ (fun M2 hLI => ?_)
  apply hz TW_46 hW_46 [2900] 60
  exact And.intro (fun _ => hE _ _ _ (by omega) w_l0 hLI) (fun g => absurd rfl g)
def TW_47 : Q_T := [(2432, .aload_n 1, 2433, 0), (2433, .invokevirtual 306, 2436, 0), (2436, .aload_n 2, 2437, 0), (2437, .invokevirtual 309, 2440, 0), (2440, .if_icmp .eq 460, 2443, 2900), (2443, .iconst 0, 2444, 0), (2444, .ireturn, 2445, 0)]
set_option maxRecDepth 100000 in
theorem hW_47 : q_chk 10 9 13 474 code TW_47 = true := lw_sub 1319 7 rfl
set_option maxRecDepth 100000 in
theorem wk_47 {l : Launch} (hl0 : l.stackTraces = false) {L : Nat} {xs : Nat → Int32} {Z : Q_Z} (hz : LW_hz l L xs Z) {c z i : Nat} {M : Q_M} (hi : LI c M) (hiL : i + 2 < L) (hzz : z + 4 ≤ 601024) (h512 : c ≤ 512) (hE : LW_E c z i Z) : Z z 2432 (lw_l i) [] M := by
  apply hz TW_47 hW_47 [2433] 60
  refine lw_cV hz (T := TW_47) hW_47 (pc := 2433) (idx := 306) (j := 114) (na := 1) (bj := 0) rfl rfl rfl rfl rfl (by omega) (q_C2i rfl (cX8_ageLimit_ct hl0)) ?_
  refine jd_ageLimit hi _ _ (fun v M1 hR => ?_)
  apply hz TW_47 hW_47 [2437] 60
  refine lw_cV hz (T := TW_47) hW_47 (pc := 2437) (idx := 309) (j := 241) (na := 1) (bj := 0) rfl rfl rfl rfl rfl (by omega) (q_C2i rfl (cX9_ageLimit_ct hl0)) ?_
  refine hR _ _ (fun M2 hLI => ?_)
  apply hz TW_47 hW_47 [2900] 60
  exact And.intro (fun _ => hE _ _ _ (by omega) w_l0 hLI) (fun g => absurd rfl g)
def TW_48 : Q_T := [(2445, .aload_n 1, 2446, 0), (2446, .invokevirtual 310, 2449, 0), (2449, .aload_n 2, 2450, 0), (2450, .invokevirtual 313, 2453, 0), (2453, .if_icmp .eq 447, 2456, 2900), (2456, .iconst 0, 2457, 0), (2457, .ireturn, 2458, 0)]
set_option maxRecDepth 100000 in
theorem hW_48 : q_chk 10 9 13 474 code TW_48 = true := lw_sub 1326 7 rfl
set_option maxRecDepth 100000 in
theorem wk_48 {l : Launch} (hl0 : l.stackTraces = false) {L : Nat} {xs : Nat → Int32} {Z : Q_Z} (hz : LW_hz l L xs Z) {c z i : Nat} {M : Q_M} (hi : LI c M) (hiL : i + 2 < L) (hzz : z + 4 ≤ 601024) (h512 : c ≤ 512) (hE : LW_E c z i Z) : Z z 2445 (lw_l i) [] M := by
  apply hz TW_48 hW_48 [2446] 60
  refine lw_cV hz (T := TW_48) hW_48 (pc := 2446) (idx := 310) (j := 115) (na := 1) (bj := 0) rfl rfl rfl rfl rfl (by omega) (q_C2i rfl (cX8_restLimit_ct hl0)) ?_
  refine jd_restLimit hi _ _ (fun v M1 hR => ?_)
  apply hz TW_48 hW_48 [2450] 60
  refine lw_cV hz (T := TW_48) hW_48 (pc := 2450) (idx := 313) (j := 242) (na := 1) (bj := 0) rfl rfl rfl rfl rfl (by omega) (q_C2i rfl (cX9_restLimit_ct hl0)) ?_
  refine hR _ _ (fun M2 hLI => ?_)
  apply hz TW_48 hW_48 [2900] 60
  exact And.intro (fun _ => hE _ _ _ (by omega) w_l0 hLI) (fun g => absurd rfl g)
def TW_49 : Q_T := [(2458, .aload_n 1, 2459, 0), (2459, .invokevirtual 314, 2462, 0), (2462, .aload_n 2, 2463, 0), (2463, .invokevirtual 317, 2466, 0), (2466, .if_icmp .eq 434, 2469, 2900), (2469, .iconst 0, 2470, 0), (2470, .ireturn, 2471, 0)]
set_option maxRecDepth 100000 in
theorem hW_49 : q_chk 10 9 13 474 code TW_49 = true := lw_sub 1333 7 rfl
set_option maxRecDepth 100000 in
theorem wk_49 {l : Launch} (hl0 : l.stackTraces = false) {L : Nat} {xs : Nat → Int32} {Z : Q_Z} (hz : LW_hz l L xs Z) {c z i : Nat} {M : Q_M} (hi : LI c M) (hiL : i + 2 < L) (hzz : z + 4 ≤ 601024) (h512 : c ≤ 512) (hE : LW_E c z i Z) : Z z 2458 (lw_l i) [] M := by
  apply hz TW_49 hW_49 [2459] 60
  refine lw_cV hz (T := TW_49) hW_49 (pc := 2459) (idx := 314) (j := 116) (na := 1) (bj := 0) rfl rfl rfl rfl rfl (by omega) (q_C2i rfl (cX8_leaseLimit_ct hl0)) ?_
  refine jd_leaseLimit hi _ _ (fun v M1 hR => ?_)
  apply hz TW_49 hW_49 [2463] 60
  refine lw_cV hz (T := TW_49) hW_49 (pc := 2463) (idx := 317) (j := 243) (na := 1) (bj := 0) rfl rfl rfl rfl rfl (by omega) (q_C2i rfl (cX9_leaseLimit_ct hl0)) ?_
  refine hR _ _ (fun M2 hLI => ?_)
  apply hz TW_49 hW_49 [2900] 60
  exact And.intro (fun _ => hE _ _ _ (by omega) w_l0 hLI) (fun g => absurd rfl g)
def TW_50 : Q_T := [(2471, .aload_n 1, 2472, 0), (2472, .invokevirtual 318, 2475, 0), (2475, .aload_n 2, 2476, 0), (2476, .invokevirtual 321, 2479, 0), (2479, .if_icmp .eq 421, 2482, 2900), (2482, .iconst 0, 2483, 0), (2483, .ireturn, 2484, 0)]
set_option maxRecDepth 100000 in
theorem hW_50 : q_chk 10 9 13 474 code TW_50 = true := lw_sub 1340 7 rfl
set_option maxRecDepth 100000 in
theorem wk_50 {l : Launch} (hl0 : l.stackTraces = false) {L : Nat} {xs : Nat → Int32} {Z : Q_Z} (hz : LW_hz l L xs Z) {c z i : Nat} {M : Q_M} (hi : LI c M) (hiL : i + 2 < L) (hzz : z + 4 ≤ 601024) (h512 : c ≤ 512) (hE : LW_E c z i Z) : Z z 2471 (lw_l i) [] M := by
  apply hz TW_50 hW_50 [2472] 60
  refine lw_cV hz (T := TW_50) hW_50 (pc := 2472) (idx := 318) (j := 117) (na := 1) (bj := 0) rfl rfl rfl rfl rfl (by omega) (q_C2i rfl (cX8_patience_ct hl0)) ?_
  refine jd_patience hi _ _ (fun v M1 hR => ?_)
  apply hz TW_50 hW_50 [2476] 60
  refine lw_cV hz (T := TW_50) hW_50 (pc := 2476) (idx := 321) (j := 244) (na := 1) (bj := 0) rfl rfl rfl rfl rfl (by omega) (q_C2i rfl (cX9_patience_ct hl0)) ?_
  refine hR _ _ (fun M2 hLI => ?_)
  apply hz TW_50 hW_50 [2900] 60
  exact And.intro (fun _ => hE _ _ _ (by omega) w_l0 hLI) (fun g => absurd rfl g)
def TW_51 : Q_T := [(2484, .aload_n 1, 2485, 0), (2485, .invokevirtual 322, 2488, 0), (2488, .aload_n 2, 2489, 0), (2489, .invokevirtual 325, 2492, 0), (2492, .if_icmp .eq 408, 2495, 2900), (2495, .iconst 0, 2496, 0), (2496, .ireturn, 2497, 0)]
set_option maxRecDepth 100000 in
theorem hW_51 : q_chk 10 9 13 474 code TW_51 = true := lw_sub 1347 7 rfl
set_option maxRecDepth 100000 in
theorem wk_51 {l : Launch} (hl0 : l.stackTraces = false) {L : Nat} {xs : Nat → Int32} {Z : Q_Z} (hz : LW_hz l L xs Z) {c z i : Nat} {M : Q_M} (hi : LI c M) (hiL : i + 2 < L) (hzz : z + 4 ≤ 601024) (h512 : c ≤ 512) (hE : LW_E c z i Z) : Z z 2484 (lw_l i) [] M := by
  apply hz TW_51 hW_51 [2485] 60
  refine lw_cV hz (T := TW_51) hW_51 (pc := 2485) (idx := 322) (j := 118) (na := 1) (bj := 0) rfl rfl rfl rfl rfl (by omega) (q_C2i rfl (cX8_isLastFirst_ct hl0)) ?_
  refine jd_isLastFirst hi _ _ (fun v M1 hR => ?_)
  apply hz TW_51 hW_51 [2489] 60
  refine lw_cV hz (T := TW_51) hW_51 (pc := 2489) (idx := 325) (j := 245) (na := 1) (bj := 0) rfl rfl rfl rfl rfl (by omega) (q_C2i rfl (cX9_isLastFirst_ct hl0)) ?_
  refine hR _ _ (fun M2 hLI => ?_)
  apply hz TW_51 hW_51 [2900] 60
  exact And.intro (fun _ => hE _ _ _ (by omega) w_l0 hLI) (fun g => absurd rfl g)
