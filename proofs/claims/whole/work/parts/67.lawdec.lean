-- THE LAW'S OWN CODE, DECODED
theorem k_cut {T : Q_T} {n : Nat} (h1 : q_chk 10 9 13 474 code (T.take n) = true) (h2 : q_chk 10 9 13 474 code (T.drop n) = true) : q_chk 10 9 13 474 code T = true := by
  rw [← List.take_append_drop n T]
  unfold q_chk at h1 h2 ⊢
  rw [List.all_append, h1, h2]
  rfl
theorem k_h0 : q_chk 10 9 13 474 code (TL_law.take 60) = true := by decide +kernel
def k_T1 : Q_T := TL_law.drop 60
theorem k_h1 : q_chk 10 9 13 474 code (k_T1.take 60) = true := by decide +kernel
def k_T2 : Q_T := k_T1.drop 60
theorem k_h2 : q_chk 10 9 13 474 code (k_T2.take 60) = true := by decide +kernel
def k_T3 : Q_T := k_T2.drop 60
theorem k_h3 : q_chk 10 9 13 474 code (k_T3.take 30) = true := by decide +kernel
def k_T4 : Q_T := k_T3.drop 30
theorem k_h4 : q_chk 10 9 13 474 code (k_T4.take 30) = true := by decide +kernel
def k_T5 : Q_T := k_T4.drop 30
theorem k_h5 : q_chk 10 9 13 474 code (k_T5.take 30) = true := by decide +kernel
def k_T6 : Q_T := k_T5.drop 30
theorem k_h6 : q_chk 10 9 13 474 code (k_T6.take 30) = true := by decide +kernel
def k_T7 : Q_T := k_T6.drop 30
theorem k_h7 : q_chk 10 9 13 474 code (k_T7.take 30) = true := by decide +kernel
def k_T8 : Q_T := k_T7.drop 30
theorem k_h8 : q_chk 10 9 13 474 code (k_T8.take 30) = true := by decide +kernel
def k_T9 : Q_T := k_T8.drop 30
theorem k_h9 : q_chk 10 9 13 474 code (k_T9.take 30) = true := by decide +kernel
def k_T10 : Q_T := k_T9.drop 30
theorem k_h10 : q_chk 10 9 13 474 code (k_T10.take 30) = true := by decide +kernel
def k_T11 : Q_T := k_T10.drop 30
theorem k_h11 : q_chk 10 9 13 474 code (k_T11.take 30) = true := by decide +kernel
def k_T12 : Q_T := k_T11.drop 30
theorem k_h12 : q_chk 10 9 13 474 code (k_T12.take 30) = true := by decide +kernel
def k_T13 : Q_T := k_T12.drop 30
theorem k_h13 : q_chk 10 9 13 474 code (k_T13.take 30) = true := by decide +kernel
def k_T14 : Q_T := k_T13.drop 30
theorem k_h14 : q_chk 10 9 13 474 code (k_T14.take 30) = true := by decide +kernel
def k_T15 : Q_T := k_T14.drop 30
theorem k_h15 : q_chk 10 9 13 474 code (k_T15.take 30) = true := by decide +kernel
def k_T16 : Q_T := k_T15.drop 30
theorem k_h16 : q_chk 10 9 13 474 code (k_T16.take 30) = true := by decide +kernel
def k_T17 : Q_T := k_T16.drop 30
theorem k_h17 : q_chk 10 9 13 474 code (k_T17.take 30) = true := by decide +kernel
def k_T18 : Q_T := k_T17.drop 30
theorem k_h18 : q_chk 10 9 13 474 code (k_T18.take 20) = true := by decide +kernel
def k_T19 : Q_T := k_T18.drop 20
theorem k_h19 : q_chk 10 9 13 474 code (k_T19.take 20) = true := by decide +kernel
def k_T20 : Q_T := k_T19.drop 20
theorem k_h20 : q_chk 10 9 13 474 code (k_T20.take 20) = true := by decide +kernel
def k_T21 : Q_T := k_T20.drop 20
theorem k_h21 : q_chk 10 9 13 474 code (k_T21.take 20) = true := by decide +kernel
def k_T22 : Q_T := k_T21.drop 20
theorem k_h22 : q_chk 10 9 13 474 code (k_T22.take 20) = true := by decide +kernel
def k_T23 : Q_T := k_T22.drop 20
theorem k_h23 : q_chk 10 9 13 474 code (k_T23.take 20) = true := by decide +kernel
def k_T24 : Q_T := k_T23.drop 20
theorem k_h24 : q_chk 10 9 13 474 code (k_T24.take 20) = true := by decide +kernel
def k_T25 : Q_T := k_T24.drop 20
theorem k_h25 : q_chk 10 9 13 474 code (k_T25.take 20) = true := by decide +kernel
def k_T26 : Q_T := k_T25.drop 20
theorem k_h26 : q_chk 10 9 13 474 code (k_T26.take 20) = true := by decide +kernel
def k_T27 : Q_T := k_T26.drop 20
theorem k_h27 : q_chk 10 9 13 474 code (k_T27.take 20) = true := by decide +kernel
def k_T28 : Q_T := k_T27.drop 20
theorem k_h28 : q_chk 10 9 13 474 code (k_T28.take 20) = true := by decide +kernel
def k_T29 : Q_T := k_T28.drop 20
theorem k_h29 : q_chk 10 9 13 474 code (k_T29.take 20) = true := by decide +kernel
def k_T30 : Q_T := k_T29.drop 20
theorem k_h30 : q_chk 10 9 13 474 code (k_T30.take 20) = true := by decide +kernel
def k_T31 : Q_T := k_T30.drop 20
theorem k_h31 : q_chk 10 9 13 474 code (k_T31.take 20) = true := by decide +kernel
def k_T32 : Q_T := k_T31.drop 20
theorem k_h32 : q_chk 10 9 13 474 code (k_T32.take 20) = true := by decide +kernel
def k_T33 : Q_T := k_T32.drop 20
theorem k_h33 : q_chk 10 9 13 474 code (k_T33.take 20) = true := by decide +kernel
def k_T34 : Q_T := k_T33.drop 20
theorem k_h34 : q_chk 10 9 13 474 code (k_T34.take 20) = true := by decide +kernel
def k_T35 : Q_T := k_T34.drop 20
theorem k_h35 : q_chk 10 9 13 474 code (k_T35.take 20) = true := by decide +kernel
def k_T36 : Q_T := k_T35.drop 20
theorem k_h36 : q_chk 10 9 13 474 code (k_T36.take 20) = true := by decide +kernel
def k_T37 : Q_T := k_T36.drop 20
theorem k_h37 : q_chk 10 9 13 474 code (k_T37.take 20) = true := by decide +kernel
def k_T38 : Q_T := k_T37.drop 20
theorem k_h38 : q_chk 10 9 13 474 code (k_T38.take 20) = true := by decide +kernel
def k_T39 : Q_T := k_T38.drop 20
theorem k_h39 : q_chk 10 9 13 474 code (k_T39.take 20) = true := by decide +kernel
def k_T40 : Q_T := k_T39.drop 20
theorem k_h40 : q_chk 10 9 13 474 code (k_T40.take 20) = true := by decide +kernel
def k_T41 : Q_T := k_T40.drop 20
theorem k_h41 : q_chk 10 9 13 474 code (k_T41.take 20) = true := by decide +kernel
def k_T42 : Q_T := k_T41.drop 20
theorem k_h42 : q_chk 10 9 13 474 code (k_T42.take 20) = true := by decide +kernel
def k_T43 : Q_T := k_T42.drop 20
theorem k_h43 : q_chk 10 9 13 474 code (k_T43.take 15) = true := by decide +kernel
def k_T44 : Q_T := k_T43.drop 15
theorem k_h44 : q_chk 10 9 13 474 code (k_T44.take 15) = true := by decide +kernel
def k_T45 : Q_T := k_T44.drop 15
theorem k_h45 : q_chk 10 9 13 474 code (k_T45.take 15) = true := by decide +kernel
def k_T46 : Q_T := k_T45.drop 15
theorem k_h46 : q_chk 10 9 13 474 code (k_T46.take 15) = true := by decide +kernel
def k_T47 : Q_T := k_T46.drop 15
theorem k_h47 : q_chk 10 9 13 474 code (k_T47.take 15) = true := by decide +kernel
def k_T48 : Q_T := k_T47.drop 15
theorem k_h48 : q_chk 10 9 13 474 code (k_T48.take 15) = true := by decide +kernel
def k_T49 : Q_T := k_T48.drop 15
theorem k_h49 : q_chk 10 9 13 474 code (k_T49.take 15) = true := by decide +kernel
def k_T50 : Q_T := k_T49.drop 15
theorem k_h50 : q_chk 10 9 13 474 code (k_T50.take 15) = true := by decide +kernel
def k_T51 : Q_T := k_T50.drop 15
theorem k_h51 : q_chk 10 9 13 474 code (k_T51.take 15) = true := by decide +kernel
def k_T52 : Q_T := k_T51.drop 15
theorem k_h52 : q_chk 10 9 13 474 code (k_T52.take 15) = true := by decide +kernel
def k_T53 : Q_T := k_T52.drop 15
theorem k_h53 : q_chk 10 9 13 474 code (k_T53.take 15) = true := by decide +kernel
def k_T54 : Q_T := k_T53.drop 15
theorem k_h54 : q_chk 10 9 13 474 code (k_T54.take 15) = true := by decide +kernel
def k_T55 : Q_T := k_T54.drop 15
theorem k_h55 : q_chk 10 9 13 474 code (k_T55.take 15) = true := by decide +kernel
def k_T56 : Q_T := k_T55.drop 15
theorem k_h56 : q_chk 10 9 13 474 code (k_T56.take 15) = true := by decide +kernel
def k_T57 : Q_T := k_T56.drop 15
theorem k_h57 : q_chk 10 9 13 474 code (k_T57.take 15) = true := by decide +kernel
def k_T58 : Q_T := k_T57.drop 15
theorem k_h58 : q_chk 10 9 13 474 code (k_T58.take 15) = true := by decide +kernel
def k_T59 : Q_T := k_T58.drop 15
theorem k_h59 : q_chk 10 9 13 474 code (k_T59.take 15) = true := by decide +kernel
def k_T60 : Q_T := k_T59.drop 15
theorem k_h60 : q_chk 10 9 13 474 code (k_T60.take 15) = true := by decide +kernel
def k_T61 : Q_T := k_T60.drop 15
theorem k_h61 : q_chk 10 9 13 474 code (k_T61.take 15) = true := by decide +kernel
def k_T62 : Q_T := k_T61.drop 15
theorem k_h62 : q_chk 10 9 13 474 code (k_T62.take 15) = true := by decide +kernel
def k_T63 : Q_T := k_T62.drop 15
theorem k_h63 : q_chk 10 9 13 474 code (k_T63.take 15) = true := by decide +kernel
def k_T64 : Q_T := k_T63.drop 15
theorem k_h64 : q_chk 10 9 13 474 code (k_T64.take 15) = true := by decide +kernel
def k_T65 : Q_T := k_T64.drop 15
theorem k_h65 : q_chk 10 9 13 474 code (k_T65.take 15) = true := by decide +kernel
def k_T66 : Q_T := k_T65.drop 15
theorem k_h66 : q_chk 10 9 13 474 code (k_T66.take 15) = true := by decide +kernel
def k_T67 : Q_T := k_T66.drop 15
theorem k_h67 : q_chk 10 9 13 474 code (k_T67.take 15) = true := by decide +kernel
def k_T68 : Q_T := k_T67.drop 15
theorem k_h68 : q_chk 10 9 13 474 code (k_T68.take 15) = true := by decide +kernel
def k_T69 : Q_T := k_T68.drop 15
theorem k_h69 : q_chk 10 9 13 474 code (k_T69.take 15) = true := by decide +kernel
def k_T70 : Q_T := k_T69.drop 15
theorem k_h70 : q_chk 10 9 13 474 code (k_T70.take 15) = true := by decide +kernel
def k_T71 : Q_T := k_T70.drop 15
theorem k_h71 : q_chk 10 9 13 474 code (k_T71.take 15) = true := by decide +kernel
def k_T72 : Q_T := k_T71.drop 15
theorem k_h72 : q_chk 10 9 13 474 code (k_T72.take 15) = true := by decide +kernel
def k_T73 : Q_T := k_T72.drop 15
theorem k_h73 : q_chk 10 9 13 474 code (k_T73.take 15) = true := by decide +kernel
def k_T74 : Q_T := k_T73.drop 15
theorem k_hz : q_chk 10 9 13 474 code k_T74 = true := by decide +kernel
theorem k_chL : q_chk 10 9 13 474 code TL_law = true := k_cut k_h0 (k_cut k_h1 (k_cut k_h2 (k_cut k_h3 (k_cut k_h4 (k_cut k_h5 (k_cut k_h6 (k_cut k_h7 (k_cut k_h8 (k_cut k_h9 (k_cut k_h10 (k_cut k_h11 (k_cut k_h12 (k_cut k_h13 (k_cut k_h14 (k_cut k_h15 (k_cut k_h16 (k_cut k_h17 (k_cut k_h18 (k_cut k_h19 (k_cut k_h20 (k_cut k_h21 (k_cut k_h22 (k_cut k_h23 (k_cut k_h24 (k_cut k_h25 (k_cut k_h26 (k_cut k_h27 (k_cut k_h28 (k_cut k_h29 (k_cut k_h30 (k_cut k_h31 (k_cut k_h32 (k_cut k_h33 (k_cut k_h34 (k_cut k_h35 (k_cut k_h36 (k_cut k_h37 (k_cut k_h38 (k_cut k_h39 (k_cut k_h40 (k_cut k_h41 (k_cut k_h42 (k_cut k_h43 (k_cut k_h44 (k_cut k_h45 (k_cut k_h46 (k_cut k_h47 (k_cut k_h48 (k_cut k_h49 (k_cut k_h50 (k_cut k_h51 (k_cut k_h52 (k_cut k_h53 (k_cut k_h54 (k_cut k_h55 (k_cut k_h56 (k_cut k_h57 (k_cut k_h58 (k_cut k_h59 (k_cut k_h60 (k_cut k_h61 (k_cut k_h62 (k_cut k_h63 (k_cut k_h64 (k_cut k_h65 (k_cut k_h66 (k_cut k_h67 (k_cut k_h68 (k_cut k_h69 (k_cut k_h70 (k_cut k_h71 (k_cut k_h72 (k_cut k_h73 (k_hz))))))))))))))))))))))))))))))))))))))))))))))))))))))))))))))))))))))))))
