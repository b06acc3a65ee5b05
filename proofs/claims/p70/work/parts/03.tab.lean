-- TABLES, printed by wip/p70/print70.py out of the names
def q_R : Nat → String := fun n => match n with
  | 0 => RX0
  | 1 => RX1
  | 2 => RX2
  | 3 => RX0
  | 4 => RX4
  | 5 => RX5
  | 6 => RX6
  | 7 => RX7
  | 8 => RX8
  | _ => RL
def q_cl (ci : Nat) : vw_C := vwCl.getD ci (RX0, TX0, 8)
def q_find {α : Type} (own idx : Nat) : List (Nat × (Nat × α)) → Option α
  | [] => none
  | q :: L => match Nat.beq q.1 own && Nat.beq q.2.1 idx with
    | true => some q.2.2
    | false => q_find own idx L
/-- fields: own class, index; class, slot, final, type -/
def q_FL : List (Nat × (Nat × (Nat × Nat × Bool × Nat))) := [(0, 9, 0, 1, true, 4), (0, 15, 0, 0, false, 0), (0, 25, 0, 2, false, 0), (0, 28, 0, 3, false, 0), (0, 31, 0, 4, false, 0), (0, 34, 0, 5, false, 0), (0, 37, 0, 6, false, 0), (0, 40, 0, 7, false, 0), (1, 9, 1, 3, false, 0), (1, 15, 1, 8, true, 4), (1, 19, 1, 0, false, 0), (1, 22, 1, 1, false, 0), (1, 25, 1, 2, false, 1), (1, 29, 1, 4, false, 0), (1, 32, 1, 5, false, 0), (1, 35, 1, 6, false, 0), (1, 38, 1, 7, false, 0), (2, 9, 2, 1, true, 4), (2, 15, 2, 3, true, 4), (2, 18, 2, 4, true, 4), (2, 21, 2, 5, true, 4), (4, 11, 4, 1, true, 4), (4, 18, 4, 0, false, 0), (5, 9, 5, 1, true, 4), (5, 15, 5, 2, true, 4), (5, 18, 5, 3, true, 4), (5, 21, 5, 0, false, 0), (6, 7, 6, 0, false, 0), (6, 13, 6, 1, false, 0), (6, 16, 6, 2, false, 0), (6, 19, 6, 3, false, 0), (6, 22, 6, 4, false, 0), (6, 25, 6, 5, false, 0), (6, 28, 6, 6, false, 1), (7, 11, 7, 3, true, 4), (7, 21, 7, 4, true, 4), (7, 28, 7, 5, true, 4), (7, 35, 7, 6, true, 4), (7, 39, 7, 0, false, 0), (7, 43, 7, 1, false, 0), (7, 46, 7, 2, false, 0), (7, 62, 1, 3, false, 0), (7, 80, 1, 5, false, 0), (7, 83, 6, 6, false, 1), (7, 91, 6, 4, false, 0), (7, 94, 1, 4, false, 0), (7, 103, 5, 3, true, 4), (7, 106, 0, 0, false, 0), (7, 109, 1, 0, false, 0), (7, 112, 1, 1, false, 0), (7, 115, 1, 2, false, 1), (7, 118, 1, 6, false, 0), (7, 121, 1, 7, false, 0), (7, 127, 0, 1, true, 4), (7, 130, 6, 0, false, 0), (7, 144, 0, 2, false, 0), (7, 147, 5, 0, false, 0), (7, 160, 5, 1, true, 4), (7, 163, 0, 4, false, 0), (7, 166, 0, 5, false, 0), (7, 176, 6, 2, false, 0), (7, 186, 0, 6, false, 0), (7, 189, 0, 7, false, 0), (7, 207, 6, 5, false, 0), (7, 210, 0, 3, false, 0), (7, 216, 6, 1, false, 0), (7, 219, 6, 3, false, 0), (8, 10, 8, 0, true, 4), (8, 16, 8, 1, true, 4), (8, 19, 8, 2, true, 4), (8, 23, 8, 3, true, 4), (8, 30, 8, 4, true, 4), (8, 37, 8, 5, true, 4), (8, 87, 7, 3, true, 4), (8, 91, 1, 2, false, 1), (8, 100, 7, 5, true, 4), (8, 104, 6, 0, false, 0), (8, 113, 6, 1, false, 0), (8, 116, 6, 2, false, 0), (8, 119, 6, 3, false, 0), (8, 122, 6, 4, false, 0), (8, 125, 6, 5, false, 0), (8, 128, 6, 6, false, 1), (8, 174, 7, 1, false, 0), (8, 179, 4, 0, false, 0), (8, 185, 7, 6, true, 4), (8, 189, 0, 0, false, 0), (8, 197, 1, 0, false, 0), (8, 200, 7, 0, false, 0), (8, 203, 1, 1, false, 0), (8, 211, 1, 3, false, 0), (8, 214, 1, 4, false, 0), (8, 222, 1, 6, false, 0), (8, 225, 1, 7, false, 0), (8, 233, 1, 8, true, 4), (8, 248, 7, 4, true, 4), (8, 260, 5, 0, false, 0), (8, 263, 5, 1, true, 4), (8, 269, 0, 1, true, 4), (8, 272, 0, 2, false, 0), (8, 275, 0, 3, false, 0), (8, 278, 0, 4, false, 0), (8, 281, 0, 5, false, 0), (8, 284, 0, 6, false, 0), (8, 287, 0, 7, false, 0)]
/-- methods: name, code, locals, answer, class, kind (0 virtual, 1 static, 2 init), arguments, objects it may make, frames, words -/
abbrev Q_D : Type := MethodName × (ByteArray × (Nat × (Option FieldType × (Nat × (Nat × (Nat × (Nat × (Nat × Nat))))))))
def q_md0 : List Q_D := [
  (yX0_init, cX0_init, 1, none, 0, 2, 0, 0, 1, 12),
  (yX0_copyFrom, cX0_copyFrom, 2, none, 0, 0, 1, 0, 1, 18),
  (yX0_closedInAll, cX0_closedInAll, 3, (some .int), 0, 0, 0, 0, 0, 0),
  (yX0_shareOfHits, cX0_shareOfHits, 2, (some .double), 0, 0, 0, 0, 0, 0),
  (yX1_init, cX1_init, 1, none, 1, 2, 0, 0, 1, 12),
  (yX1_copyFrom, cX1_copyFrom, 2, none, 1, 0, 1, 0, 1, 18),
  (yX1_rests, cX1_rests, 1, (some .boolean), 1, 0, 0, 0, 0, 0),
  (yX1_agoOf, cX1_agoOf, 3, (some .int), 1, 0, 1, 0, 0, 0),
  (yX1_holds, cX1_holds, 2, (some .boolean), 1, 0, 1, 0, 1, 22),
  (yX1_take, cX1_take, 5, (some .boolean), 1, 0, 1, 0, 1, 22),
  (yX2_init, cX2_init, 1, none, 2, 2, 0, 0, 1, 12),
  (yX0_init, cX0_init, 1, none, 0, 2, 0, 0, 1, 12),
  (yX0_init, cX0_init, 1, none, 0, 2, 0, 0, 1, 12),
  (yX0_init, cX0_init, 1, none, 0, 2, 0, 0, 1, 12),
  (yX0_init, cX0_init, 1, none, 0, 2, 0, 0, 1, 12),
  (yX0_init, cX0_init, 1, none, 0, 2, 0, 0, 1, 12),
  (yX0_init, cX0_init, 1, none, 0, 2, 0, 0, 1, 12),
  (yX0_init, cX0_init, 1, none, 0, 2, 0, 0, 1, 12),
  (yX0_init, cX0_init, 1, none, 0, 2, 0, 0, 1, 12),
  (yX0_init, cX0_init, 1, none, 0, 2, 0, 0, 1, 12),
  (yX0_init, cX0_init, 1, none, 0, 2, 0, 0, 1, 12),
  (yX0_init, cX0_init, 1, none, 0, 2, 0, 0, 1, 12),
  (yX0_init, cX0_init, 1, none, 0, 2, 0, 0, 1, 12),
  (yX0_init, cX0_init, 1, none, 0, 2, 0, 0, 1, 12),
  (yX0_init, cX0_init, 1, none, 0, 2, 0, 0, 1, 12),
  (yX4_init, cX4_init, 2, none, 4, 2, 0, 0, 3, 53),
  (yX4_save, cX4_save, 2, none, 4, 0, 1, 0, 3, 61),
  (yX4_dropOldest, cX4_dropOldest, 3, none, 4, 0, 0, 0, 0, 0),
  (yX4_restore, cX4_restore, 2, none, 4, 0, 1, 0, 3, 61),
  (yX5_init, cX5_init, 1, none, 5, 2, 0, 0, 1, 12),
  (yX5_copyFrom, cX5_copyFrom, 2, none, 5, 0, 1, 0, 1, 18),
  (yX5_placeIn, cX5_placeIn, 3, (some .int), 5, 0, 1, 0, 0, 0),
  (yX5_enter, cX5_enter, 5, none, 5, 0, 3, 0, 0, 0),
  (yX5_removeAt, cX5_removeAt, 3, none, 5, 0, 1, 0, 0, 0),
  (yX6_init, cX6_init, 1, none, 6, 2, 0, 0, 1, 12),
  (yX6_copyFrom, cX6_copyFrom, 2, none, 6, 0, 1, 0, 0, 0),
  (yX7_init, cX7_init, 2, none, 7, 2, 0, 0, 2, 32),
  (yX7_copyFrom, cX7_copyFrom, 3, none, 7, 0, 1, 0, 2, 39),
  (yX7_placeWith, cX7_placeWith, 3, (some .int), 7, 0, 1, 0, 0, 0),
  (yX7_isBusy, cX7_isBusy, 2, (some .boolean), 7, 0, 1, 0, 1, 22)]
def q_md1 : List Q_D := [
  (yX7_countIdle, cX7_countIdle, 3, (some .int), 7, 0, 0, 0, 1, 20),
  (yX7_placeOfIdle, cX7_placeOfIdle, 4, (some .int), 7, 0, 1, 0, 1, 22),
  (yX7_becameIdleBehind, cX7_becameIdleBehind, 3, (some .boolean), 7, 0, 2, 0, 0, 0),
  (yX7_placeOfNext, cX7_placeOfNext, 1, (some .int), 7, 0, 0, 0, 2, 45),
  (yX7_turnInIdle, cX7_turnInIdle, 4, (some .int), 7, 0, 1, 0, 1, 22),
  (yX7_leaseRest, cX7_leaseRest, 2, (some .int), 7, 0, 1, 0, 1, 18),
  (yX7_waitAt, cX7_waitAt, 2, (some .int), 7, 0, 1, 0, 0, 0),
  (yX7_openOne, cX7_openOne, 3, (some .int), 7, 0, 0, 0, 1, 21),
  (yX7_becomeIdle, cX7_becomeIdle, 2, none, 7, 0, 1, 0, 0, 0),
  (yX7_closeAt, cX7_closeAt, 5, none, 7, 0, 2, 0, 0, 0),
  (yX7_hasRoom, cX7_hasRoom, 1, (some .boolean), 7, 0, 0, 0, 0, 0),
  (yX7_closeTooMany, cX7_closeTooMany, 3, none, 7, 0, 0, 0, 2, 45),
  (yX7_findToLend, cX7_findToLend, 3, (some .int), 7, 0, 0, 0, 2, 45),
  (yX7_lendTo, cX7_lendTo, 4, none, 7, 0, 2, 0, 0, 0),
  (yX7_letAsk, cX7_letAsk, 4, (some .boolean), 7, 0, 2, 0, 3, 67),
  (yX7_serve, cX7_serve, 4, (some .int), 7, 0, 0, 0, 3, 67),
  (yX7_takeBack, cX7_takeBack, 3, (some .boolean), 7, 0, 1, 0, 4, 90),
  (yX7_letLeave, cX7_letLeave, 3, (some .int), 7, 0, 1, 0, 1, 22),
  (yX7_letUse, cX7_letUse, 4, (some .boolean), 7, 0, 2, 0, 2, 46),
  (yX7_passTicks, cX7_passTicks, 4, (some .int), 7, 0, 1, 0, 4, 90),
  (yX7_losePatience, cX7_losePatience, 2, none, 7, 0, 0, 0, 1, 22),
  (yX7_takeLeasesAway, cX7_takeLeasesAway, 3, none, 7, 0, 0, 0, 1, 24),
  (yX7_closeOldOnes, cX7_closeOldOnes, 3, none, 7, 0, 0, 0, 1, 24),
  (yX7_closeRestedOnes, cX7_closeRestedOnes, 3, none, 7, 0, 0, 0, 2, 45),
  (yX7_openToLeastIdle, cX7_openToLeastIdle, 2, none, 7, 0, 0, 0, 2, 43),
  (yX0_init, cX0_init, 1, none, 0, 2, 0, 0, 1, 12),
  (yX8_init, cX8_init, 2, none, 8, 2, 0, 0, 4, 74),
  (yX8_ask, cX8_ask, 3, (some .boolean), 8, 0, 2, 3, 7, 112),
  (yX8_giveBack, cX8_giveBack, 3, (some .boolean), 8, 0, 1, 2, 8, 132),
  (yX8_leave, cX8_leave, 3, (some .int), 8, 0, 1, 2, 8, 132),
  (yX8_use, cX8_use, 4, (some .boolean), 8, 0, 2, 4, 8, 132),
  (yX8_breakOff, cX8_breakOff, 4, (some .boolean), 8, 0, 1, 1, 7, 111),
  (yX8_tick, cX8_tick, 2, (some .int), 8, 0, 1, 1, 7, 113),
  (yX8_changeMost, cX8_changeMost, 3, (some .int), 8, 0, 1, 1, 7, 112),
  (yX8_changeIdle, cX8_changeIdle, 3, (some .int), 8, 0, 1, 1, 7, 112),
  (yX8_changeAge, cX8_changeAge, 3, (some .int), 8, 0, 1, 1, 7, 112),
  (yX8_changeRest, cX8_changeRest, 3, (some .int), 8, 0, 1, 1, 7, 112),
  (yX8_changeLease, cX8_changeLease, 3, (some .int), 8, 0, 1, 1, 7, 112),
  (yX8_changePatience, cX8_changePatience, 3, (some .int), 8, 0, 1, 1, 7, 112),
  (yX8_turnOrder, cX8_turnOrder, 1, (some .boolean), 8, 0, 0, 0, 4, 82)]
def q_md2 : List Q_D := [
  (yX0_init, cX0_init, 1, none, 0, 2, 0, 0, 1, 12),
  (yX0_init, cX0_init, 1, none, 0, 2, 0, 0, 1, 12),
  (yX0_init, cX0_init, 1, none, 0, 2, 0, 0, 1, 12),
  (yX0_init, cX0_init, 1, none, 0, 2, 0, 0, 1, 12),
  (yX8_keep, cX8_keep, 2, none, 8, 0, 1, 1, 7, 112),
  (yX8_goBack, cX8_goBack, 2, none, 8, 0, 1, 2, 7, 112),
  (yX8_undo, cX8_undo, 1, none, 8, 0, 0, 1, 6, 90),
  (yX8_savedStates, cX8_savedStates, 1, (some .int), 8, 0, 0, 0, 0, 0),
  (yX8_livingByGoing, cX8_livingByGoing, 1, (some .int), 8, 0, 0, 0, 0, 0),
  (yX8_livingByAccount, cX8_livingByAccount, 1, (some .int), 8, 0, 0, 0, 1, 22),
  (yX8_numberAt, cX8_numberAt, 2, (some .int), 8, 0, 1, 1, 7, 111),
  (yX8_ageAt, cX8_ageAt, 2, (some .int), 8, 0, 1, 1, 7, 111),
  (yX8_isIdle, cX8_isIdle, 2, (some .boolean), 8, 0, 1, 1, 7, 111),
  (yX8_isBroken, cX8_isBroken, 2, (some .boolean), 8, 0, 1, 1, 7, 111),
  (yX8_squirrelAt, cX8_squirrelAt, 2, (some .int), 8, 0, 1, 2, 7, 111),
  (yX8_sinceAt, cX8_sinceAt, 2, (some .int), 8, 0, 1, 1, 7, 111),
  (yX8_turnOf, cX8_turnOf, 2, (some .int), 8, 0, 1, 2, 7, 111),
  (yX8_lendingsOf, cX8_lendingsOf, 2, (some .int), 8, 0, 1, 1, 7, 111),
  (yX8_nutsIn, cX8_nutsIn, 2, (some .int), 8, 0, 1, 1, 7, 111),
  (yX8_nutAt, cX8_nutAt, 3, (some .int), 8, 0, 2, 2, 7, 111),
  (yX8_idle, cX8_idle, 1, (some .int), 8, 0, 0, 0, 2, 42),
  (yX8_leasedByConnections, cX8_leasedByConnections, 1, (some .int), 8, 0, 0, 0, 2, 42),
  (yX8_leasedBySquirrels, cX8_leasedBySquirrels, 3, (some .int), 8, 0, 0, 0, 1, 22),
  (yX8_nextLent, cX8_nextLent, 1, (some .int), 8, 0, 0, 1, 7, 111),
  (yX8_has, cX8_has, 2, (some .boolean), 8, 0, 1, 1, 7, 110),
  (yX8_placeOf, cX8_placeOf, 2, (some .int), 8, 0, 1, 2, 8, 132),
  (yX8_leaseLeft, cX8_leaseLeft, 2, (some .int), 8, 0, 1, 2, 8, 132),
  (yX8_isWaiting, cX8_isWaiting, 2, (some .boolean), 8, 0, 1, 1, 7, 110),
  (yX8_waitOf, cX8_waitOf, 2, (some .int), 8, 0, 1, 2, 8, 132),
  (yX8_queueOf, cX8_queueOf, 2, (some .int), 8, 0, 1, 2, 8, 132),
  (yX8_waiting, cX8_waiting, 1, (some .int), 8, 0, 0, 0, 0, 0),
  (yX8_waiterAt, cX8_waiterAt, 2, (some .int), 8, 0, 1, 1, 6, 90),
  (yX8_most, cX8_most, 1, (some .int), 8, 0, 0, 0, 0, 0),
  (yX8_leastIdle, cX8_leastIdle, 1, (some .int), 8, 0, 0, 0, 0, 0),
  (yX8_ageLimit, cX8_ageLimit, 1, (some .int), 8, 0, 0, 0, 0, 0),
  (yX8_restLimit, cX8_restLimit, 1, (some .int), 8, 0, 0, 0, 0, 0),
  (yX8_leaseLimit, cX8_leaseLimit, 1, (some .int), 8, 0, 0, 0, 0, 0),
  (yX8_patience, cX8_patience, 1, (some .int), 8, 0, 0, 0, 0, 0),
  (yX8_isLastFirst, cX8_isLastFirst, 1, (some .boolean), 8, 0, 0, 0, 0, 0),
  (yX8_ticksToServe, cX8_ticksToServe, 3, (some .int), 8, 0, 1, 2, 8, 132)]
def q_md3 : List Q_D := [
  (yX0_init, cX0_init, 1, none, 0, 2, 0, 0, 1, 12),
  (yX0_init, cX0_init, 1, none, 0, 2, 0, 0, 1, 12),
  (yX8_idleWith, cX8_idleWith, 4, (some .int), 8, 0, 1, 1, 7, 112),
  (yX8_time, cX8_time, 1, (some .int), 8, 0, 0, 0, 0, 0),
  (yX8_opened, cX8_opened, 1, (some .int), 8, 0, 0, 0, 0, 0),
  (yX8_closedFor, cX8_closedFor, 2, (some .int), 8, 0, 1, 1, 7, 112),
  (yX8_lendings, cX8_lendings, 1, (some .int), 8, 0, 0, 0, 0, 0),
  (yX8_impatient, cX8_impatient, 1, (some .int), 8, 0, 0, 0, 0, 0),
  (yX8_served, cX8_served, 1, (some .int), 8, 0, 0, 0, 0, 0),
  (yX8_waited, cX8_waited, 1, (some .int), 8, 0, 0, 0, 0, 0),
  (yX8_hits, cX8_hits, 1, (some .int), 8, 0, 0, 0, 0, 0),
  (yX8_misses, cX8_misses, 1, (some .int), 8, 0, 0, 0, 0, 0),
  (yX8_hitShare, cX8_hitShare, 1, (some .double), 8, 0, 0, 0, 1, 21),
  (yX0_init, cX0_init, 1, none, 0, 2, 0, 0, 1, 12),
  (yX0_init, cX0_init, 1, none, 0, 2, 0, 0, 1, 12),
  (yX0_init, cX0_init, 1, none, 0, 2, 0, 0, 1, 12),
  (yX0_init, cX0_init, 1, none, 0, 2, 0, 0, 1, 12),
  (yX0_init, cX0_init, 1, none, 0, 2, 0, 0, 1, 12),
  (yX0_init, cX0_init, 1, none, 0, 2, 0, 0, 1, 12),
  (yX8_checkSquirrel, cX8_checkSquirrel, 1, none, 8, 1, 1, 1, 6, 90),
  (yX8_checkRange, cX8_checkRange, 3, none, 8, 1, 3, 1, 6, 90),
  (yX8_checkPlace, cX8_checkPlace, 2, none, 8, 0, 1, 1, 6, 90),
  (yX8_placeWanted, cX8_placeWanted, 3, (some .int), 8, 0, 1, 2, 7, 110),
  (yX8_queuePlaceWanted, cX8_queuePlaceWanted, 3, (some .int), 8, 0, 1, 2, 7, 110),
  (yX8_nextWanted, cX8_nextWanted, 2, (some .int), 8, 0, 0, 1, 6, 90),
  (yL_cell, cL_cell, 2, (some .int), 9, 1, 2, 0, 0, 0),
  (yL_acts, cL_acts, 5, (some .int), 9, 1, 2, 23, 10, 178),
  (yL_numbers, cL_numbers, 3, (some .int), 9, 1, 1, 250, 10, 178),
  (yL_hangs, cL_hangs, 9, (some .boolean), 9, 1, 1, 1000, 10, 178)]
def q_md : List Q_D := q_md0 ++ (q_md1 ++ (q_md2 ++ (q_md3)))
def q_mdL : List Q_D := [
  (yL_ask, cL_ask, 4, (some .int), 9, 1, 3, 3, 8, 134),
  (yL_give, cL_give, 3, (some .int), 9, 1, 2, 2, 9, 154),
  (yL_leave, cL_leave, 3, (some .int), 9, 1, 2, 2, 9, 154),
  (yL_use, cL_use, 4, (some .int), 9, 1, 3, 4, 9, 155),
  (yL_breaks, cL_breaks, 3, (some .int), 9, 1, 2, 1, 8, 134),
  (yL_tick, cL_tick, 3, (some .int), 9, 1, 2, 1, 8, 134),
  (yL_most, cL_most, 3, (some .int), 9, 1, 2, 1, 8, 134),
  (yL_idles, cL_idles, 3, (some .int), 9, 1, 2, 1, 8, 134),
  (yL_ages, cL_ages, 3, (some .int), 9, 1, 2, 1, 8, 134),
  (yL_rests, cL_rests, 3, (some .int), 9, 1, 2, 1, 8, 134),
  (yL_leases, cL_leases, 3, (some .int), 9, 1, 2, 1, 8, 134),
  (yL_waits, cL_waits, 3, (some .int), 9, 1, 2, 1, 8, 134),
  (yL_keep, cL_keep, 3, (some .int), 9, 1, 2, 1, 8, 133),
  (yL_back, cL_back, 3, (some .int), 9, 1, 2, 2, 8, 133),
  (yL_undo, cL_undo, 2, (some .int), 9, 1, 1, 1, 7, 110),
  (yL_numberAt, cL_numberAt, 3, (some .int), 9, 1, 2, 1, 8, 132),
  (yL_ageAt, cL_ageAt, 3, (some .int), 9, 1, 2, 1, 8, 132),
  (yL_isIdle, cL_isIdle, 3, (some .int), 9, 1, 2, 1, 8, 132),
  (yL_isBroken, cL_isBroken, 3, (some .int), 9, 1, 2, 1, 8, 132),
  (yL_who, cL_who, 3, (some .int), 9, 1, 2, 2, 8, 132),
  (yL_since, cL_since, 3, (some .int), 9, 1, 2, 1, 8, 132),
  (yL_turn, cL_turn, 3, (some .int), 9, 1, 2, 2, 8, 132),
  (yL_lent, cL_lent, 3, (some .int), 9, 1, 2, 1, 8, 132),
  (yL_nuts, cL_nuts, 3, (some .int), 9, 1, 2, 1, 8, 132),
  (yL_nut, cL_nut, 4, (some .int), 9, 1, 3, 2, 8, 133),
  (yL_nextLent, cL_nextLent, 2, (some .int), 9, 1, 1, 1, 8, 131),
  (yL_has, cL_has, 3, (some .int), 9, 1, 2, 1, 8, 131),
  (yL_place, cL_place, 3, (some .int), 9, 1, 2, 2, 9, 153),
  (yL_leaseLeft, cL_leaseLeft, 3, (some .int), 9, 1, 2, 2, 9, 153),
  (yL_waiting, cL_waiting, 3, (some .int), 9, 1, 2, 1, 8, 131),
  (yL_waitOf, cL_waitOf, 3, (some .int), 9, 1, 2, 2, 9, 153),
  (yL_queueOf, cL_queueOf, 3, (some .int), 9, 1, 2, 2, 9, 153),
  (yL_waiter, cL_waiter, 3, (some .int), 9, 1, 2, 1, 7, 111),
  (yL_closedFor, cL_closedFor, 3, (some .int), 9, 1, 2, 1, 8, 133),
  (yL_toServe, cL_toServe, 3, (some .int), 9, 1, 2, 2, 9, 154),
  (yL_idleWith, cL_idleWith, 3, (some .int), 9, 1, 2, 1, 8, 135)]
/-- calls: own class, index; method, values taken, objects it may make -/
def q_CL : List (Nat × (Nat × (Nat × Nat × Nat))) := [(1, 47, 7, 2, 0), (4, 17, 36, 1, 0), (4, 22, 27, 1, 0), (4, 25, 37, 2, 0), (7, 17, 4, 1, 0), (7, 20, 29, 1, 0), (7, 27, 34, 1, 0), (7, 34, 0, 1, 0), (7, 49, 5, 2, 0), (7, 53, 30, 2, 0), (7, 56, 35, 2, 0), (7, 59, 1, 2, 0), (7, 65, 38, 2, 0), (7, 69, 31, 2, 0), (7, 72, 6, 1, 0), (7, 76, 42, 3, 0), (7, 87, 41, 2, 0), (7, 124, 48, 2, 0), (7, 133, 49, 3, 0), (7, 137, 50, 1, 0), (7, 140, 47, 1, 0), (7, 150, 52, 1, 0), (7, 153, 32, 4, 0), (7, 157, 53, 3, 0), (7, 169, 46, 2, 0), (7, 172, 33, 2, 0), (7, 179, 55, 1, 0), (7, 182, 9, 2, 0), (7, 192, 60, 1, 0), (7, 195, 61, 1, 0), (7, 198, 62, 1, 0), (7, 201, 63, 1, 0), (7, 204, 64, 1, 0), (7, 213, 40, 1, 0), (8, 9, 36, 1, 0), (8, 29, 25, 1, 0), (8, 36, 10, 1, 0), (8, 41, 139, 1, 1), (8, 45, 140, 3, 1), (8, 49, 39, 2, 0), (8, 60, 26, 2, 0), (8, 64, 54, 3, 0), (8, 68, 142, 2, 2), (8, 72, 56, 2, 0), (8, 75, 143, 2, 2), (8, 78, 57, 2, 0), (8, 81, 58, 3, 0), (8, 84, 141, 2, 1), (8, 97, 59, 2, 0), (8, 110, 51, 1, 0), (8, 152, 37, 2, 0), (8, 182, 28, 2, 0), (8, 194, 2, 1, 0), (8, 206, 6, 1, 0), (8, 219, 44, 2, 0), (8, 236, 40, 1, 0), (8, 239, 38, 2, 0), (8, 242, 144, 1, 1), (8, 245, 45, 2, 0), (8, 252, 31, 2, 0), (8, 257, 46, 2, 0), (8, 266, 8, 2, 0), (8, 290, 3, 1, 0), (8, 319, 43, 1, 0), (9, 9, 67, 3, 3), (9, 24, 68, 2, 2), (9, 28, 69, 2, 2), (9, 32, 70, 3, 4), (9, 35, 71, 2, 1), (9, 38, 72, 2, 1), (9, 41, 73, 2, 1), (9, 44, 74, 2, 1), (9, 47, 75, 2, 1), (9, 50, 76, 2, 1), (9, 53, 77, 2, 1), (9, 56, 78, 2, 1), (9, 66, 84, 2, 1), (9, 70, 85, 2, 2), (9, 73, 86, 1, 1), (9, 76, 90, 2, 1), (9, 79, 91, 2, 1), (9, 82, 92, 2, 1), (9, 85, 93, 2, 1), (9, 88, 94, 2, 2), (9, 91, 95, 2, 1), (9, 94, 96, 2, 2), (9, 97, 97, 2, 1), (9, 100, 98, 2, 1), (9, 103, 99, 3, 2), (9, 107, 103, 1, 1), (9, 110, 104, 2, 1), (9, 113, 105, 2, 2), (9, 116, 106, 2, 2), (9, 119, 107, 2, 1), (9, 122, 108, 2, 2), (9, 125, 109, 2, 2), (9, 128, 111, 2, 1), (9, 131, 125, 2, 1), (9, 134, 119, 2, 2), (9, 140, 122, 2, 1), (9, 143, 88, 1, 0), (9, 146, 166, 2, 1), (9, 151, 168, 2, 2), (9, 154, 150, 2, 2), (9, 157, 110, 1, 0), (9, 160, 181, 2, 1), (9, 163, 151, 2, 2), (9, 165, 152, 3, 4), (9, 168, 153, 2, 1), (9, 171, 155, 2, 1), (9, 174, 156, 2, 1), (9, 177, 157, 2, 1), (9, 180, 158, 2, 1), (9, 183, 159, 2, 1), (9, 186, 160, 2, 1), (9, 189, 79, 1, 0), (9, 193, 154, 2, 1), (9, 195, 149, 3, 3), (9, 197, 123, 1, 0), (9, 200, 124, 1, 0), (9, 203, 126, 1, 0), (9, 206, 128, 1, 0), (9, 209, 129, 1, 0), (9, 212, 130, 1, 0), (9, 215, 131, 1, 0), (9, 218, 127, 1, 0), (9, 221, 112, 1, 0), (9, 223, 113, 1, 0), (9, 226, 114, 1, 0), (9, 229, 115, 1, 0), (9, 232, 116, 1, 0), (9, 235, 117, 1, 0), (9, 238, 118, 1, 0), (9, 241, 164, 2, 1), (9, 243, 169, 2, 1), (9, 246, 167, 2, 1), (9, 248, 172, 2, 1), (9, 251, 170, 2, 2), (9, 254, 175, 2, 1), (9, 256, 178, 2, 1), (9, 258, 180, 2, 2), (9, 260, 89, 1, 0), (9, 263, 101, 1, 0), (9, 266, 102, 1, 0), (9, 269, 100, 1, 0), (9, 272, 182, 2, 1), (9, 274, 165, 2, 1), (9, 276, 174, 1, 1), (9, 279, 176, 2, 2), (9, 282, 171, 2, 1), (9, 285, 173, 3, 2), (9, 288, 177, 2, 2), (9, 290, 183, 2, 2), (9, 293, 179, 2, 2), (9, 295, 184, 2, 1), (9, 297, 132, 1, 0), (9, 301, 66, 1, 0), (9, 302, 163, 1, 1), (9, 304, 162, 2, 2), (9, 307, 161, 2, 1), (9, 309, 148, 1, 1000), (9, 313, 145, 2, 0), (9, 317, 147, 1, 250), (9, 320, 87, 1, 0), (9, 323, 146, 2, 23)]
/-- throws: method, place; the exception (1 index, 2 argument, 3 state), class index, text index, init index, wide, text -/
def q_TS : List (Nat × (Nat × (Nat × Nat × Nat × Nat × Bool × String))) := [(67, 21, 3, 53, 55, 57, false, "the squirrel has a connection, or waits for one"), (85, 15, 3, 53, 177, 57, false, "there is no snapshot in the slot"), (86, 10, 3, 53, 180, 57, false, "no state is saved"), (94, 20, 3, 53, 209, 57, false, "the connection is idle"), (96, 20, 3, 53, 217, 57, false, "the connection is not idle"), (99, 25, 1, 228, 230, 232, false, "no such nut"), (111, 18, 1, 228, 261, 232, true, "not so many squirrels wait"), (139, 10, 1, 228, 349, 232, true, "no such squirrel"), (140, 10, 2, 147, 351, 151, true, "out of range"), (141, 15, 1, 228, 353, 232, true, "not so many connections"), (142, 18, 3, 53, 355, 57, true, "the squirrel has no connection"), (143, 21, 3, 53, 357, 57, true, "the squirrel does not wait"), (144, 13, 3, 53, 359, 57, true, "no connection is idle")]
def q_LL : List (Nat × (Nat × Int64)) := []
def q_LD : List (Nat × (Nat × UInt64)) := []
def q_LT : List (Nat × (Nat × Int32)) := [(9, 7, (48397)), (9, 8, (2147483647)), (9, 17, (-2000001)), (9, 20, (-2000002)), (9, 23, (-2000003))]
abbrev Q_T : Type := List (Nat × (Instr × (Nat × Nat)))
def TX0_init : Q_T := [(0, .aload_n 0, 1, 0), (1, .invokespecial 3, 4, 0), (4, .aload_n 0, 5, 0), (5, .iconst 5, 6, 0), (6, .newarray .int, 8, 0), (8, .putfield 9, 11, 0), (11, .return_, 12, 0)]
def TX0_copyFrom : Q_T := [(0, .aload_n 0, 1, 0), (1, .aload_n 1, 2, 0), (2, .getfield 15, 5, 0), (5, .putfield 15, 8, 0), (8, .aload_n 1, 9, 0), (9, .getfield 9, 12, 0), (12, .iconst 0, 13, 0), (13, .aload_n 0, 14, 0),
  (14, .getfield 9, 17, 0), (17, .iconst 0, 18, 0), (18, .iconst 5, 19, 0), (19, .invokestatic 19, 22, 0), (22, .aload_n 0, 23, 0), (23, .aload_n 1, 24, 0), (24, .getfield 25, 27, 0), (27, .putfield 25, 30, 0),
  (30, .aload_n 0, 31, 0), (31, .aload_n 1, 32, 0), (32, .getfield 28, 35, 0), (35, .putfield 28, 38, 0), (38, .aload_n 0, 39, 0), (39, .aload_n 1, 40, 0), (40, .getfield 31, 43, 0), (43, .putfield 31, 46, 0),
  (46, .aload_n 0, 47, 0), (47, .aload_n 1, 48, 0), (48, .getfield 34, 51, 0), (51, .putfield 34, 54, 0), (54, .aload_n 0, 55, 0), (55, .aload_n 1, 56, 0), (56, .getfield 37, 59, 0), (59, .putfield 37, 62, 0),
  (62, .aload_n 0, 63, 0), (63, .aload_n 1, 64, 0), (64, .getfield 40, 67, 0), (67, .putfield 40, 70, 0), (70, .return_, 71, 0)]
def TX0_closedInAll : Q_T := [(0, .iconst 0, 1, 0), (1, .istore_n 1, 2, 0), (2, .iconst 0, 3, 0), (3, .istore_n 2, 4, 0), (4, .iload_n 2, 5, 0), (5, .iconst 5, 6, 0), (6, .if_icmp .ge 18, 9, 24), (9, .iload_n 1, 10, 0),
  (10, .aload_n 0, 11, 0), (11, .getfield 9, 14, 0), (14, .iload_n 2, 15, 0), (15, .iaload, 16, 0), (16, .iadd, 17, 0), (17, .istore_n 1, 18, 0), (18, .iinc 2 1, 21, 0), (21, .goto (-17), 24, 4),
  (24, .iload_n 1, 25, 0), (25, .ireturn, 26, 0)]
def TX0_shareOfHits : Q_T := [(0, .aload_n 0, 1, 0), (1, .getfield 37, 4, 0), (4, .aload_n 0, 5, 0), (5, .getfield 40, 8, 0), (8, .iadd, 9, 0), (9, .istore_n 1, 10, 0), (10, .iload_n 1, 11, 0), (11, .ifCond .ne 7, 14, 18),
  (14, .dconst 0, 15, 0), (15, .goto 11, 18, 26), (18, .aload_n 0, 19, 0), (19, .getfield 37, 22, 0), (22, .i2d, 23, 0), (23, .iload_n 1, 24, 0), (24, .i2d, 25, 0), (25, .ddiv, 26, 0),
  (26, .dreturn, 27, 0)]
def TX1_init : Q_T := [(0, .aload_n 0, 1, 0), (1, .invokespecial 3, 4, 0), (4, .aload_n 0, 5, 0), (5, .iconst (-1), 6, 0), (6, .putfield 9, 9, 0), (9, .aload_n 0, 10, 0), (10, .iconst 4, 11, 0), (11, .newarray .int, 13, 0),
  (13, .putfield 15, 16, 0), (16, .return_, 17, 0)]
def TX1_copyFrom : Q_T := [(0, .aload_n 0, 1, 0), (1, .aload_n 1, 2, 0), (2, .getfield 19, 5, 0), (5, .putfield 19, 8, 0), (8, .aload_n 0, 9, 0), (9, .aload_n 1, 10, 0), (10, .getfield 22, 13, 0), (13, .putfield 22, 16, 0),
  (16, .aload_n 0, 17, 0), (17, .aload_n 1, 18, 0), (18, .getfield 25, 21, 0), (21, .putfield 25, 24, 0), (24, .aload_n 0, 25, 0), (25, .aload_n 1, 26, 0), (26, .getfield 9, 29, 0), (29, .putfield 9, 32, 0),
  (32, .aload_n 0, 33, 0), (33, .aload_n 1, 34, 0), (34, .getfield 29, 37, 0), (37, .putfield 29, 40, 0), (40, .aload_n 0, 41, 0), (41, .aload_n 1, 42, 0), (42, .getfield 32, 45, 0), (45, .putfield 32, 48, 0),
  (48, .aload_n 0, 49, 0), (49, .aload_n 1, 50, 0), (50, .getfield 35, 53, 0), (53, .putfield 35, 56, 0), (56, .aload_n 0, 57, 0), (57, .aload_n 1, 58, 0), (58, .getfield 38, 61, 0), (61, .putfield 38, 64, 0),
  (64, .aload_n 1, 65, 0), (65, .getfield 15, 68, 0), (68, .iconst 0, 69, 0), (69, .aload_n 0, 70, 0), (70, .getfield 15, 73, 0), (73, .iconst 0, 74, 0), (74, .iconst 4, 75, 0), (75, .invokestatic 41, 78, 0),
  (78, .return_, 79, 0)]
def TX1_rests : Q_T := [(0, .aload_n 0, 1, 0), (1, .getfield 9, 4, 0), (4, .iconst (-1), 5, 0), (5, .if_icmp .ne 7, 8, 12), (8, .iconst 1, 9, 0), (9, .goto 4, 12, 13), (12, .iconst 0, 13, 0), (13, .ireturn, 14, 0)]
def TX1_agoOf : Q_T := [(0, .iconst 0, 1, 0), (1, .istore_n 2, 2, 0), (2, .iload_n 2, 3, 0), (3, .aload_n 0, 4, 0), (4, .getfield 38, 7, 0), (7, .if_icmp .ge 21, 10, 28), (10, .aload_n 0, 11, 0), (11, .getfield 15, 14, 0),
  (14, .iload_n 2, 15, 0), (15, .iaload, 16, 0), (16, .iload_n 1, 17, 0), (17, .if_icmp .ne 5, 20, 22), (20, .iload_n 2, 21, 0), (21, .ireturn, 22, 0), (22, .iinc 2 1, 25, 0), (25, .goto (-23), 28, 2),
  (28, .iconst (-1), 29, 0), (29, .ireturn, 30, 0)]
def TX1_holds : Q_T := [(0, .aload_n 0, 1, 0), (1, .iload_n 1, 2, 0), (2, .invokevirtual 47, 5, 0), (5, .iconst (-1), 6, 0), (6, .if_icmp .eq 7, 9, 13), (9, .iconst 1, 10, 0), (10, .goto 4, 13, 14), (13, .iconst 0, 14, 0),
  (14, .ireturn, 15, 0)]
def TX1_take : Q_T := [(0, .aload_n 0, 1, 0), (1, .iload_n 1, 2, 0), (2, .invokevirtual 47, 5, 0), (5, .istore_n 2, 6, 0), (6, .iload_n 2, 7, 0), (7, .iconst (-1), 8, 0), (8, .if_icmp .eq 7, 11, 15), (11, .iconst 1, 12, 0),
  (12, .goto 4, 15, 16), (15, .iconst 0, 16, 0), (16, .istore_n 3, 17, 0), (17, .iload_n 3, 18, 0), (18, .ifCond .ne 28, 21, 46), (21, .aload_n 0, 22, 0), (22, .getfield 38, 25, 0), (25, .iconst 4, 26, 0),
  (26, .if_icmp .ge 13, 29, 39), (29, .aload_n 0, 30, 0), (30, .dup, 31, 0), (31, .getfield 38, 34, 0), (34, .iconst 1, 35, 0), (35, .iadd, 36, 0), (36, .putfield 38, 39, 0), (39, .aload_n 0, 40, 0),
  (40, .getfield 38, 43, 0), (43, .iconst 1, 44, 0), (44, .isub, 45, 0), (45, .istore_n 2, 46, 0), (46, .iload_n 2, 47, 0), (47, .istore 4, 49, 0), (49, .iload 4, 51, 0), (51, .ifCond .le 25, 54, 76),
  (54, .aload_n 0, 55, 0), (55, .getfield 15, 58, 0), (58, .iload 4, 60, 0), (60, .aload_n 0, 61, 0), (61, .getfield 15, 64, 0), (64, .iload 4, 66, 0), (66, .iconst 1, 67, 0), (67, .isub, 68, 0),
  (68, .iaload, 69, 0), (69, .iastore, 70, 0), (70, .iinc 4 (-1), 73, 0), (73, .goto (-24), 76, 49), (76, .aload_n 0, 77, 0), (77, .getfield 15, 80, 0), (80, .iconst 0, 81, 0), (81, .iload_n 1, 82, 0),
  (82, .iastore, 83, 0), (83, .iload_n 3, 84, 0), (84, .ireturn, 85, 0)]
def TX2_init : Q_T := [(0, .aload_n 0, 1, 0), (1, .invokespecial 3, 4, 0), (4, .aload_n 0, 5, 0), (5, .bipush 60, 7, 0), (7, .newarray .int, 9, 0), (9, .putfield 9, 12, 0), (12, .aload_n 0, 13, 0), (13, .bipush 60, 15, 0),
  (15, .newarray .int, 17, 0), (17, .putfield 15, 20, 0), (20, .aload_n 0, 21, 0), (21, .bipush 60, 23, 0), (23, .newarray .int, 25, 0), (25, .putfield 18, 28, 0), (28, .aload_n 0, 29, 0), (29, .bipush 60, 31, 0),
  (31, .newarray .int, 33, 0), (33, .putfield 21, 36, 0), (36, .return_, 37, 0)]
def TX4_init : Q_T := [(0, .aload_n 0, 1, 0), (1, .invokespecial 3, 4, 0), (4, .aload_n 0, 5, 0), (5, .bipush 6, 7, 0), (7, .anewarray 9, 10, 0), (10, .putfield 11, 13, 0), (13, .iconst 0, 14, 0), (14, .istore_n 1, 15, 0),
  (15, .iload_n 1, 16, 0), (16, .bipush 6, 18, 0), (18, .if_icmp .ge 22, 21, 40), (21, .aload_n 0, 22, 0), (22, .getfield 11, 25, 0), (25, .iload_n 1, 26, 0), (26, .new 9, 29, 0), (29, .dup, 30, 0),
  (30, .invokespecial 17, 33, 0), (33, .aastore, 34, 0), (34, .iinc 1 1, 37, 0), (37, .goto (-22), 40, 15), (40, .return_, 41, 0)]
def TX4_save : Q_T := [(0, .aload_n 0, 1, 0), (1, .getfield 18, 4, 0), (4, .bipush 6, 6, 0), (6, .if_icmp .lt 7, 9, 13), (9, .aload_n 0, 10, 0), (10, .invokevirtual 22, 13, 0), (13, .aload_n 0, 14, 0), (14, .getfield 11, 17, 0),
  (17, .aload_n 0, 18, 0), (18, .getfield 18, 21, 0), (21, .aaload, 22, 0), (22, .aload_n 1, 23, 0), (23, .invokevirtual 25, 26, 0), (26, .aload_n 0, 27, 0), (27, .dup, 28, 0), (28, .getfield 18, 31, 0),
  (31, .iconst 1, 32, 0), (32, .iadd, 33, 0), (33, .putfield 18, 36, 0), (36, .return_, 37, 0)]
def TX4_dropOldest : Q_T := [(0, .aload_n 0, 1, 0), (1, .getfield 11, 4, 0), (4, .iconst 0, 5, 0), (5, .aaload, 6, 0), (6, .astore_n 1, 7, 0), (7, .iconst 1, 8, 0), (8, .istore_n 2, 9, 0), (9, .iload_n 2, 10, 0),
  (10, .bipush 6, 12, 0), (12, .if_icmp .ge 23, 15, 35), (15, .aload_n 0, 16, 0), (16, .getfield 11, 19, 0), (19, .iload_n 2, 20, 0), (20, .iconst 1, 21, 0), (21, .isub, 22, 0), (22, .aload_n 0, 23, 0),
  (23, .getfield 11, 26, 0), (26, .iload_n 2, 27, 0), (27, .aaload, 28, 0), (28, .aastore, 29, 0), (29, .iinc 2 1, 32, 0), (32, .goto (-23), 35, 9), (35, .aload_n 0, 36, 0), (36, .getfield 11, 39, 0),
  (39, .iconst 5, 40, 0), (40, .aload_n 1, 41, 0), (41, .aastore, 42, 0), (42, .aload_n 0, 43, 0), (43, .iconst 5, 44, 0), (44, .putfield 18, 47, 0), (47, .return_, 48, 0)]
def TX4_restore : Q_T := [(0, .aload_n 0, 1, 0), (1, .getfield 18, 4, 0), (4, .ifCond .le 26, 7, 30), (7, .aload_n 0, 8, 0), (8, .dup, 9, 0), (9, .getfield 18, 12, 0), (12, .iconst 1, 13, 0), (13, .isub, 14, 0),
  (14, .putfield 18, 17, 0), (17, .aload_n 1, 18, 0), (18, .aload_n 0, 19, 0), (19, .getfield 11, 22, 0), (22, .aload_n 0, 23, 0), (23, .getfield 18, 26, 0), (26, .aaload, 27, 0), (27, .invokevirtual 25, 30, 0),
  (30, .return_, 31, 0)]
def TX5_init : Q_T := [(0, .aload_n 0, 1, 0), (1, .invokespecial 3, 4, 0), (4, .aload_n 0, 5, 0), (5, .bipush 20, 7, 0), (7, .newarray .int, 9, 0), (9, .putfield 9, 12, 0), (12, .aload_n 0, 13, 0), (13, .bipush 20, 15, 0),
  (15, .newarray .int, 17, 0), (17, .putfield 15, 20, 0), (20, .aload_n 0, 21, 0), (21, .bipush 20, 23, 0), (23, .newarray .int, 25, 0), (25, .putfield 18, 28, 0), (28, .return_, 29, 0)]
def TX5_copyFrom : Q_T := [(0, .aload_n 0, 1, 0), (1, .aload_n 1, 2, 0), (2, .getfield 21, 5, 0), (5, .putfield 21, 8, 0), (8, .aload_n 1, 9, 0), (9, .getfield 9, 12, 0), (12, .iconst 0, 13, 0), (13, .aload_n 0, 14, 0),
  (14, .getfield 9, 17, 0), (17, .iconst 0, 18, 0), (18, .bipush 20, 20, 0), (20, .invokestatic 25, 23, 0), (23, .aload_n 1, 24, 0), (24, .getfield 15, 27, 0), (27, .iconst 0, 28, 0), (28, .aload_n 0, 29, 0),
  (29, .getfield 15, 32, 0), (32, .iconst 0, 33, 0), (33, .bipush 20, 35, 0), (35, .invokestatic 25, 38, 0), (38, .aload_n 1, 39, 0), (39, .getfield 18, 42, 0), (42, .iconst 0, 43, 0), (43, .aload_n 0, 44, 0),
  (44, .getfield 18, 47, 0), (47, .iconst 0, 48, 0), (48, .bipush 20, 50, 0), (50, .invokestatic 25, 53, 0), (53, .return_, 54, 0)]
def TX5_placeIn : Q_T := [(0, .iconst 0, 1, 0), (1, .istore_n 2, 2, 0), (2, .iload_n 2, 3, 0), (3, .aload_n 0, 4, 0), (4, .getfield 21, 7, 0), (7, .if_icmp .ge 21, 10, 28), (10, .aload_n 0, 11, 0), (11, .getfield 9, 14, 0),
  (14, .iload_n 2, 15, 0), (15, .iaload, 16, 0), (16, .iload_n 1, 17, 0), (17, .if_icmp .ne 5, 20, 22), (20, .iload_n 2, 21, 0), (21, .ireturn, 22, 0), (22, .iinc 2 1, 25, 0), (25, .goto (-23), 28, 2),
  (28, .iconst (-1), 29, 0), (29, .ireturn, 30, 0)]
def TX5_enter : Q_T := [(0, .aload_n 0, 1, 0), (1, .getfield 21, 4, 0), (4, .bipush 20, 6, 0), (6, .if_icmp .lt 4, 9, 10), (9, .return_, 10, 0), (10, .aload_n 0, 11, 0), (11, .getfield 21, 14, 0), (14, .istore 4, 16, 0),
  (16, .iload 4, 18, 0), (18, .ifCond .le 70, 21, 88), (21, .aload_n 0, 22, 0), (22, .getfield 15, 25, 0), (25, .iload 4, 27, 0), (27, .iconst 1, 28, 0), (28, .isub, 29, 0), (29, .iaload, 30, 0),
  (30, .iload_n 2, 31, 0), (31, .if_icmp .ge 57, 34, 88), (34, .aload_n 0, 35, 0), (35, .getfield 9, 38, 0), (38, .iload 4, 40, 0), (40, .aload_n 0, 41, 0), (41, .getfield 9, 44, 0), (44, .iload 4, 46, 0),
  (46, .iconst 1, 47, 0), (47, .isub, 48, 0), (48, .iaload, 49, 0), (49, .iastore, 50, 0), (50, .aload_n 0, 51, 0), (51, .getfield 15, 54, 0), (54, .iload 4, 56, 0), (56, .aload_n 0, 57, 0),
  (57, .getfield 15, 60, 0), (60, .iload 4, 62, 0), (62, .iconst 1, 63, 0), (63, .isub, 64, 0), (64, .iaload, 65, 0), (65, .iastore, 66, 0), (66, .aload_n 0, 67, 0), (67, .getfield 18, 70, 0),
  (70, .iload 4, 72, 0), (72, .aload_n 0, 73, 0), (73, .getfield 18, 76, 0), (76, .iload 4, 78, 0), (78, .iconst 1, 79, 0), (79, .isub, 80, 0), (80, .iaload, 81, 0), (81, .iastore, 82, 0),
  (82, .iinc 4 (-1), 85, 0), (85, .goto (-69), 88, 16), (88, .aload_n 0, 89, 0), (89, .getfield 9, 92, 0), (92, .iload 4, 94, 0), (94, .iload_n 1, 95, 0), (95, .iastore, 96, 0), (96, .aload_n 0, 97, 0),
  (97, .getfield 15, 100, 0), (100, .iload 4, 102, 0), (102, .iload_n 2, 103, 0), (103, .iastore, 104, 0), (104, .aload_n 0, 105, 0), (105, .getfield 18, 108, 0), (108, .iload 4, 110, 0), (110, .iload_n 3, 111, 0),
  (111, .iastore, 112, 0), (112, .aload_n 0, 113, 0), (113, .dup, 114, 0), (114, .getfield 21, 117, 0), (117, .iconst 1, 118, 0), (118, .iadd, 119, 0), (119, .putfield 21, 122, 0), (122, .return_, 123, 0)]
def TX5_removeAt : Q_T := [(0, .iload_n 1, 1, 0), (1, .iconst 1, 2, 0), (2, .iadd, 3, 0), (3, .istore_n 2, 4, 0), (4, .iload_n 2, 5, 0), (5, .aload_n 0, 6, 0), (6, .getfield 21, 9, 0), (9, .if_icmp .ge 51, 12, 60),
  (12, .aload_n 0, 13, 0), (13, .getfield 9, 16, 0), (16, .iload_n 2, 17, 0), (17, .iconst 1, 18, 0), (18, .isub, 19, 0), (19, .aload_n 0, 20, 0), (20, .getfield 9, 23, 0), (23, .iload_n 2, 24, 0),
  (24, .iaload, 25, 0), (25, .iastore, 26, 0), (26, .aload_n 0, 27, 0), (27, .getfield 15, 30, 0), (30, .iload_n 2, 31, 0), (31, .iconst 1, 32, 0), (32, .isub, 33, 0), (33, .aload_n 0, 34, 0),
  (34, .getfield 15, 37, 0), (37, .iload_n 2, 38, 0), (38, .iaload, 39, 0), (39, .iastore, 40, 0), (40, .aload_n 0, 41, 0), (41, .getfield 18, 44, 0), (44, .iload_n 2, 45, 0), (45, .iconst 1, 46, 0),
  (46, .isub, 47, 0), (47, .aload_n 0, 48, 0), (48, .getfield 18, 51, 0), (51, .iload_n 2, 52, 0), (52, .iaload, 53, 0), (53, .iastore, 54, 0), (54, .iinc 2 1, 57, 0), (57, .goto (-53), 60, 4),
  (60, .aload_n 0, 61, 0), (61, .dup, 62, 0), (62, .getfield 21, 65, 0), (65, .iconst 1, 66, 0), (66, .isub, 67, 0), (67, .putfield 21, 70, 0), (70, .return_, 71, 0)]
def TX6_init : Q_T := [(0, .aload_n 0, 1, 0), (1, .invokespecial 1, 4, 0), (4, .aload_n 0, 5, 0), (5, .bipush 8, 7, 0), (7, .putfield 7, 10, 0), (10, .aload_n 0, 11, 0), (11, .iconst 0, 12, 0), (12, .putfield 13, 15, 0),
  (15, .aload_n 0, 16, 0), (16, .sipush 200, 19, 0), (19, .putfield 16, 22, 0), (22, .aload_n 0, 23, 0), (23, .bipush 60, 25, 0), (25, .putfield 19, 28, 0), (28, .aload_n 0, 29, 0), (29, .bipush 40, 31, 0),
  (31, .putfield 22, 34, 0), (34, .aload_n 0, 35, 0), (35, .bipush 20, 37, 0), (37, .putfield 25, 40, 0), (40, .aload_n 0, 41, 0), (41, .iconst 1, 42, 0), (42, .putfield 28, 45, 0), (45, .return_, 46, 0)]
def TX6_copyFrom : Q_T := [(0, .aload_n 0, 1, 0), (1, .aload_n 1, 2, 0), (2, .getfield 7, 5, 0), (5, .putfield 7, 8, 0), (8, .aload_n 0, 9, 0), (9, .aload_n 1, 10, 0), (10, .getfield 13, 13, 0), (13, .putfield 13, 16, 0),
  (16, .aload_n 0, 17, 0), (17, .aload_n 1, 18, 0), (18, .getfield 16, 21, 0), (21, .putfield 16, 24, 0), (24, .aload_n 0, 25, 0), (25, .aload_n 1, 26, 0), (26, .getfield 19, 29, 0), (29, .putfield 19, 32, 0),
  (32, .aload_n 0, 33, 0), (33, .aload_n 1, 34, 0), (34, .getfield 22, 37, 0), (37, .putfield 22, 40, 0), (40, .aload_n 0, 41, 0), (41, .aload_n 1, 42, 0), (42, .getfield 25, 45, 0), (45, .putfield 25, 48, 0),
  (48, .aload_n 0, 49, 0), (49, .aload_n 1, 50, 0), (50, .getfield 28, 53, 0), (53, .putfield 28, 56, 0), (56, .return_, 57, 0)]
def TX7_init : Q_T := [(0, .aload_n 0, 1, 0), (1, .invokespecial 3, 4, 0), (4, .aload_n 0, 5, 0), (5, .bipush 12, 7, 0), (7, .anewarray 9, 10, 0), (10, .putfield 11, 13, 0), (13, .iconst 0, 14, 0), (14, .istore_n 1, 15, 0),
  (15, .iload_n 1, 16, 0), (16, .bipush 12, 18, 0), (18, .if_icmp .ge 22, 21, 40), (21, .aload_n 0, 22, 0), (22, .getfield 11, 25, 0), (25, .iload_n 1, 26, 0), (26, .new 9, 29, 0), (29, .dup, 30, 0),
  (30, .invokespecial 17, 33, 0), (33, .aastore, 34, 0), (34, .iinc 1 1, 37, 0), (37, .goto (-22), 40, 15), (40, .aload_n 0, 41, 0), (41, .new 18, 44, 0), (44, .dup, 45, 0), (45, .invokespecial 20, 48, 0),
  (48, .putfield 21, 51, 0), (51, .aload_n 0, 52, 0), (52, .new 25, 55, 0), (55, .dup, 56, 0), (56, .invokespecial 27, 59, 0), (59, .putfield 28, 62, 0), (62, .aload_n 0, 63, 0), (63, .new 32, 66, 0),
  (66, .dup, 67, 0), (67, .invokespecial 34, 70, 0), (70, .putfield 35, 73, 0), (73, .return_, 74, 0)]
def TX7_copyFrom : Q_T := [(0, .aload_n 0, 1, 0), (1, .aload_n 1, 2, 0), (2, .getfield 39, 5, 0), (5, .putfield 39, 8, 0), (8, .aload_n 0, 9, 0), (9, .aload_n 1, 10, 0), (10, .getfield 43, 13, 0), (13, .putfield 43, 16, 0),
  (16, .aload_n 0, 17, 0), (17, .aload_n 1, 18, 0), (18, .getfield 46, 21, 0), (21, .putfield 46, 24, 0), (24, .iconst 0, 25, 0), (25, .istore_n 2, 26, 0), (26, .iload_n 2, 27, 0), (27, .aload_n 0, 28, 0),
  (28, .getfield 43, 31, 0), (31, .if_icmp .ge 24, 34, 55), (34, .aload_n 0, 35, 0), (35, .getfield 11, 38, 0), (38, .iload_n 2, 39, 0), (39, .aaload, 40, 0), (40, .aload_n 1, 41, 0), (41, .getfield 11, 44, 0),
  (44, .iload_n 2, 45, 0), (45, .aaload, 46, 0), (46, .invokevirtual 49, 49, 0), (49, .iinc 2 1, 52, 0), (52, .goto (-26), 55, 26), (55, .aload_n 0, 56, 0), (56, .getfield 21, 59, 0), (59, .aload_n 1, 60, 0),
  (60, .getfield 21, 63, 0), (63, .invokevirtual 53, 66, 0), (66, .aload_n 0, 67, 0), (67, .getfield 28, 70, 0), (70, .aload_n 1, 71, 0), (71, .getfield 28, 74, 0), (74, .invokevirtual 56, 77, 0), (77, .aload_n 0, 78, 0),
  (78, .getfield 35, 81, 0), (81, .aload_n 1, 82, 0), (82, .getfield 35, 85, 0), (85, .invokevirtual 59, 88, 0), (88, .return_, 89, 0)]
def TX7_placeWith : Q_T := [(0, .iconst 0, 1, 0), (1, .istore_n 2, 2, 0), (2, .iload_n 2, 3, 0), (3, .aload_n 0, 4, 0), (4, .getfield 43, 7, 0), (7, .if_icmp .ge 24, 10, 31), (10, .aload_n 0, 11, 0), (11, .getfield 11, 14, 0),
  (14, .iload_n 2, 15, 0), (15, .aaload, 16, 0), (16, .getfield 62, 19, 0), (19, .iload_n 1, 20, 0), (20, .if_icmp .ne 5, 23, 25), (23, .iload_n 2, 24, 0), (24, .ireturn, 25, 0), (25, .iinc 2 1, 28, 0),
  (28, .goto (-26), 31, 2), (31, .iconst (-1), 32, 0), (32, .ireturn, 33, 0)]
def TX7_isBusy : Q_T := [(0, .aload_n 0, 1, 0), (1, .iload_n 1, 2, 0), (2, .invokevirtual 65, 5, 0), (5, .iconst (-1), 6, 0), (6, .if_icmp .ne 15, 9, 21), (9, .aload_n 0, 10, 0), (10, .getfield 21, 13, 0), (13, .iload_n 1, 14, 0),
  (14, .invokevirtual 69, 17, 0), (17, .iconst (-1), 18, 0), (18, .if_icmp .eq 7, 21, 25), (21, .iconst 1, 22, 0), (22, .goto 4, 25, 26), (25, .iconst 0, 26, 0), (26, .ireturn, 27, 0)]
def TX7_countIdle : Q_T := [(0, .iconst 0, 1, 0), (1, .istore_n 1, 2, 0), (2, .iconst 0, 3, 0), (3, .istore_n 2, 4, 0), (4, .iload_n 2, 5, 0), (5, .aload_n 0, 6, 0), (6, .getfield 43, 9, 0), (9, .if_icmp .ge 24, 12, 33),
  (12, .aload_n 0, 13, 0), (13, .getfield 11, 16, 0), (16, .iload_n 2, 17, 0), (17, .aaload, 18, 0), (18, .invokevirtual 72, 21, 0), (21, .ifCond .eq 6, 24, 27), (24, .iinc 1 1, 27, 0), (27, .iinc 2 1, 30, 0),
  (30, .goto (-26), 33, 4), (33, .iload_n 1, 34, 0), (34, .ireturn, 35, 0)]
def TX7_placeOfIdle : Q_T := [(0, .iconst (-1), 1, 0), (1, .istore_n 2, 2, 0), (2, .iconst 0, 3, 0), (3, .istore_n 3, 4, 0), (4, .iload_n 3, 5, 0), (5, .aload_n 0, 6, 0), (6, .getfield 43, 9, 0), (9, .if_icmp .ge 38, 12, 47),
  (12, .aload_n 0, 13, 0), (13, .getfield 11, 16, 0), (16, .iload_n 3, 17, 0), (17, .aaload, 18, 0), (18, .invokevirtual 72, 21, 0), (21, .ifCond .eq 20, 24, 41), (24, .iload_n 2, 25, 0), (25, .iconst (-1), 26, 0),
  (26, .if_icmp .eq 13, 29, 39), (29, .iload_n 1, 30, 0), (30, .aload_n 0, 31, 0), (31, .iload_n 3, 32, 0), (32, .iload_n 2, 33, 0), (33, .invokevirtual 76, 36, 0), (36, .if_icmp .ne 5, 39, 41), (39, .iload_n 3, 40, 0),
  (40, .istore_n 2, 41, 0), (41, .iinc 3 1, 44, 0), (44, .goto (-40), 47, 4), (47, .iload_n 2, 48, 0), (48, .ireturn, 49, 0)]
def TX7_becameIdleBehind : Q_T := [(0, .aload_n 0, 1, 0), (1, .getfield 11, 4, 0), (4, .iload_n 1, 5, 0), (5, .aaload, 6, 0), (6, .getfield 80, 9, 0), (9, .aload_n 0, 10, 0), (10, .getfield 11, 13, 0), (13, .iload_n 2, 14, 0),
  (14, .aaload, 15, 0), (15, .getfield 80, 18, 0), (18, .if_icmp .le 7, 21, 25), (21, .iconst 1, 22, 0), (22, .goto 4, 25, 26), (25, .iconst 0, 26, 0), (26, .ireturn, 27, 0)]
def TX7_placeOfNext : Q_T := [(0, .aload_n 0, 1, 0), (1, .aload_n 0, 2, 0), (2, .getfield 28, 5, 0), (5, .getfield 83, 8, 0), (8, .invokevirtual 87, 11, 0), (11, .ireturn, 12, 0)]
def TX7_turnInIdle : Q_T := [(0, .iconst 0, 1, 0), (1, .istore_n 2, 2, 0), (2, .iconst 0, 3, 0), (3, .istore_n 3, 4, 0), (4, .iload_n 3, 5, 0), (5, .aload_n 0, 6, 0), (6, .getfield 43, 9, 0), (9, .if_icmp .ge 45, 12, 54),
  (12, .iload_n 3, 13, 0), (13, .iload_n 1, 14, 0), (14, .if_icmp .eq 34, 17, 48), (17, .aload_n 0, 18, 0), (18, .getfield 11, 21, 0), (21, .iload_n 3, 22, 0), (22, .aaload, 23, 0), (23, .invokevirtual 72, 26, 0),
  (26, .ifCond .eq 22, 29, 48), (29, .aload_n 0, 30, 0), (30, .getfield 28, 33, 0), (33, .getfield 83, 36, 0), (36, .aload_n 0, 37, 0), (37, .iload_n 3, 38, 0), (38, .iload_n 1, 39, 0), (39, .invokevirtual 76, 42, 0),
  (42, .if_icmp .ne 6, 45, 48), (45, .iinc 2 1, 48, 0), (48, .iinc 3 1, 51, 0), (51, .goto (-47), 54, 4), (54, .iload_n 2, 55, 0), (55, .ireturn, 56, 0)]
def TX7_leaseRest : Q_T := [(0, .iconst 1, 1, 0), (1, .aload_n 0, 2, 0), (2, .getfield 28, 5, 0), (5, .getfield 91, 8, 0), (8, .aload_n 0, 9, 0), (9, .getfield 39, 12, 0), (12, .aload_n 0, 13, 0), (13, .getfield 11, 16, 0),
  (16, .iload_n 1, 17, 0), (17, .aaload, 18, 0), (18, .getfield 94, 21, 0), (21, .isub, 22, 0), (22, .isub, 23, 0), (23, .invokestatic 97, 26, 0), (26, .ireturn, 27, 0)]
def TX7_waitAt : Q_T := [(0, .aload_n 0, 1, 0), (1, .getfield 39, 4, 0), (4, .aload_n 0, 5, 0), (5, .getfield 21, 8, 0), (8, .getfield 103, 11, 0), (11, .iload_n 1, 12, 0), (12, .iaload, 13, 0), (13, .isub, 14, 0),
  (14, .ireturn, 15, 0)]
def TX7_openOne : Q_T := [(0, .aload_n 0, 1, 0), (1, .getfield 43, 4, 0), (4, .istore_n 1, 5, 0), (5, .aload_n 0, 6, 0), (6, .dup, 7, 0), (7, .getfield 43, 10, 0), (10, .iconst 1, 11, 0), (11, .iadd, 12, 0),
  (12, .putfield 43, 15, 0), (15, .aload_n 0, 16, 0), (16, .getfield 35, 19, 0), (19, .dup, 20, 0), (20, .getfield 106, 23, 0), (23, .iconst 1, 24, 0), (24, .iadd, 25, 0), (25, .putfield 106, 28, 0),
  (28, .aload_n 0, 29, 0), (29, .getfield 11, 32, 0), (32, .iload_n 1, 33, 0), (33, .aaload, 34, 0), (34, .astore_n 2, 35, 0), (35, .aload_n 2, 36, 0), (36, .aload_n 0, 37, 0), (37, .getfield 35, 40, 0),
  (40, .getfield 106, 43, 0), (43, .putfield 109, 46, 0), (46, .aload_n 2, 47, 0), (47, .aload_n 0, 48, 0), (48, .getfield 39, 51, 0), (51, .putfield 112, 54, 0), (54, .aload_n 2, 55, 0), (55, .iconst 0, 56, 0),
  (56, .putfield 115, 59, 0), (59, .aload_n 2, 60, 0), (60, .iconst 0, 61, 0), (61, .putfield 118, 64, 0), (64, .aload_n 2, 65, 0), (65, .iconst 0, 66, 0), (66, .putfield 121, 69, 0), (69, .aload_n 0, 70, 0),
  (70, .aload_n 2, 71, 0), (71, .invokevirtual 124, 74, 0), (74, .iload_n 1, 75, 0), (75, .ireturn, 76, 0)]
def TX7_becomeIdle : Q_T := [(0, .aload_n 0, 1, 0), (1, .dup, 2, 0), (2, .getfield 46, 5, 0), (5, .iconst 1, 6, 0), (6, .iadd, 7, 0), (7, .putfield 46, 10, 0), (10, .aload_n 1, 11, 0), (11, .iconst (-1), 12, 0),
  (12, .putfield 62, 15, 0), (15, .aload_n 1, 16, 0), (16, .aload_n 0, 17, 0), (17, .getfield 39, 20, 0), (20, .putfield 94, 23, 0), (23, .aload_n 1, 24, 0), (24, .aload_n 0, 25, 0), (25, .getfield 46, 28, 0),
  (28, .putfield 80, 31, 0), (31, .return_, 32, 0)]
def TX7_closeAt : Q_T := [(0, .aload_n 0, 1, 0), (1, .getfield 11, 4, 0), (4, .iload_n 1, 5, 0), (5, .aaload, 6, 0), (6, .astore_n 3, 7, 0), (7, .iload_n 1, 8, 0), (8, .iconst 1, 9, 0), (9, .iadd, 10, 0),
  (10, .istore 4, 12, 0), (12, .iload 4, 14, 0), (14, .aload_n 0, 15, 0), (15, .getfield 43, 18, 0), (18, .if_icmp .ge 25, 21, 43), (21, .aload_n 0, 22, 0), (22, .getfield 11, 25, 0), (25, .iload 4, 27, 0),
  (27, .iconst 1, 28, 0), (28, .isub, 29, 0), (29, .aload_n 0, 30, 0), (30, .getfield 11, 33, 0), (33, .iload 4, 35, 0), (35, .aaload, 36, 0), (36, .aastore, 37, 0), (37, .iinc 4 1, 40, 0),
  (40, .goto (-28), 43, 12), (43, .aload_n 0, 44, 0), (44, .dup, 45, 0), (45, .getfield 43, 48, 0), (48, .iconst 1, 49, 0), (49, .isub, 50, 0), (50, .putfield 43, 53, 0), (53, .aload_n 0, 54, 0),
  (54, .getfield 11, 57, 0), (57, .aload_n 0, 58, 0), (58, .getfield 43, 61, 0), (61, .aload_n 3, 62, 0), (62, .aastore, 63, 0), (63, .aload_n 0, 64, 0), (64, .getfield 35, 67, 0), (67, .getfield 127, 70, 0),
  (70, .iload_n 2, 71, 0), (71, .dup2, 72, 0), (72, .iaload, 73, 0), (73, .iconst 1, 74, 0), (74, .iadd, 75, 0), (75, .iastore, 76, 0), (76, .return_, 77, 0)]
def TX7_hasRoom : Q_T := [(0, .aload_n 0, 1, 0), (1, .getfield 43, 4, 0), (4, .aload_n 0, 5, 0), (5, .getfield 28, 8, 0), (8, .getfield 130, 11, 0), (11, .if_icmp .ge 16, 14, 27), (14, .aload_n 0, 15, 0), (15, .getfield 43, 18, 0),
  (18, .bipush 12, 20, 0), (20, .if_icmp .ge 7, 23, 27), (23, .iconst 1, 24, 0), (24, .goto 4, 27, 28), (27, .iconst 0, 28, 0), (28, .ireturn, 29, 0)]
def TX7_closeTooMany : Q_T := [(0, .iconst 0, 1, 0), (1, .istore_n 1, 2, 0), (2, .iload_n 1, 3, 0), (3, .bipush 12, 5, 0), (5, .if_icmp .ge 41, 8, 46), (8, .aload_n 0, 9, 0), (9, .getfield 43, 12, 0), (12, .aload_n 0, 13, 0),
  (13, .getfield 28, 16, 0), (16, .getfield 130, 19, 0), (19, .if_icmp .le 27, 22, 46), (22, .aload_n 0, 23, 0), (23, .iconst 0, 24, 0), (24, .invokevirtual 87, 27, 0), (27, .istore_n 2, 28, 0), (28, .iload_n 2, 29, 0),
  (29, .iconst (-1), 30, 0), (30, .if_icmp .ne 4, 33, 34), (33, .return_, 34, 0), (34, .aload_n 0, 35, 0), (35, .iload_n 2, 36, 0), (36, .iconst 4, 37, 0), (37, .invokevirtual 133, 40, 0), (40, .iinc 1 1, 43, 0),
  (43, .goto (-41), 46, 2), (46, .return_, 47, 0)]
def TX7_findToLend : Q_T := [(0, .iconst 0, 1, 0), (1, .istore_n 1, 2, 0), (2, .iload_n 1, 3, 0), (3, .bipush 12, 5, 0), (5, .if_icmp .ge 49, 8, 54), (8, .aload_n 0, 9, 0), (9, .aload_n 0, 10, 0), (10, .getfield 28, 13, 0),
  (13, .getfield 83, 16, 0), (16, .invokevirtual 87, 19, 0), (19, .istore_n 2, 20, 0), (20, .iload_n 2, 21, 0), (21, .iconst (-1), 22, 0), (22, .if_icmp .ne 6, 25, 28), (25, .goto 29, 28, 54), (28, .aload_n 0, 29, 0),
  (29, .getfield 11, 32, 0), (32, .iload_n 2, 33, 0), (33, .aaload, 34, 0), (34, .getfield 115, 37, 0), (37, .ifCond .ne 5, 40, 42), (40, .iload_n 2, 41, 0), (41, .ireturn, 42, 0), (42, .aload_n 0, 43, 0),
  (43, .iload_n 2, 44, 0), (44, .iconst 2, 45, 0), (45, .invokevirtual 133, 48, 0), (48, .iinc 1 1, 51, 0), (51, .goto (-49), 54, 2), (54, .aload_n 0, 55, 0), (55, .invokevirtual 137, 58, 0), (58, .ifCond .eq 10, 61, 68),
  (61, .aload_n 0, 62, 0), (62, .invokevirtual 140, 65, 0), (65, .goto 4, 68, 69), (68, .iconst (-1), 69, 0), (69, .ireturn, 70, 0)]
def TX7_lendTo : Q_T := [(0, .aload_n 0, 1, 0), (1, .getfield 11, 4, 0), (4, .iload_n 1, 5, 0), (5, .aaload, 6, 0), (6, .astore_n 3, 7, 0), (7, .aload_n 3, 8, 0), (8, .iload_n 2, 9, 0), (9, .putfield 62, 12, 0),
  (12, .aload_n 3, 13, 0), (13, .aload_n 0, 14, 0), (14, .getfield 39, 17, 0), (17, .putfield 94, 20, 0), (20, .aload_n 3, 21, 0), (21, .dup, 22, 0), (22, .getfield 118, 25, 0), (25, .iconst 1, 26, 0),
  (26, .iadd, 27, 0), (27, .putfield 118, 30, 0), (30, .aload_n 0, 31, 0), (31, .getfield 35, 34, 0), (34, .dup, 35, 0), (35, .getfield 144, 38, 0), (38, .iconst 1, 39, 0), (39, .iadd, 40, 0),
  (40, .putfield 144, 43, 0), (43, .return_, 44, 0)]
def TX7_letAsk : Q_T := [(0, .aload_n 0, 1, 0), (1, .getfield 21, 4, 0), (4, .getfield 147, 7, 0), (7, .ifCond .le 7, 10, 14), (10, .iconst (-1), 11, 0), (11, .goto 7, 14, 18), (14, .aload_n 0, 15, 0), (15, .invokevirtual 150, 18, 0),
  (18, .istore_n 3, 19, 0), (19, .iload_n 3, 20, 0), (20, .iconst (-1), 21, 0), (21, .if_icmp .ne 18, 24, 39), (24, .aload_n 0, 25, 0), (25, .getfield 21, 28, 0), (28, .iload_n 1, 29, 0), (29, .iload_n 2, 30, 0),
  (30, .aload_n 0, 31, 0), (31, .getfield 39, 34, 0), (34, .invokevirtual 153, 37, 0), (37, .iconst 0, 38, 0), (38, .ireturn, 39, 0), (39, .aload_n 0, 40, 0), (40, .iload_n 3, 41, 0), (41, .iload_n 1, 42, 0),
  (42, .invokevirtual 157, 45, 0), (45, .iconst 1, 46, 0), (46, .ireturn, 47, 0)]
def TX7_serve : Q_T := [(0, .iconst 0, 1, 0), (1, .istore_n 1, 2, 0), (2, .iconst 0, 3, 0), (3, .istore_n 2, 4, 0), (4, .iload_n 2, 5, 0), (5, .bipush 20, 7, 0), (7, .if_icmp .ge 87, 10, 94), (10, .aload_n 0, 11, 0),
  (11, .getfield 21, 14, 0), (14, .getfield 147, 17, 0), (17, .ifCond .le 77, 20, 94), (20, .aload_n 0, 21, 0), (21, .invokevirtual 150, 24, 0), (24, .istore_n 3, 25, 0), (25, .iload_n 3, 26, 0), (26, .iconst (-1), 27, 0),
  (27, .if_icmp .ne 6, 30, 33), (30, .goto 64, 33, 94), (33, .aload_n 0, 34, 0), (34, .iload_n 3, 35, 0), (35, .aload_n 0, 36, 0), (36, .getfield 21, 39, 0), (39, .getfield 160, 42, 0), (42, .iconst 0, 43, 0),
  (43, .iaload, 44, 0), (44, .invokevirtual 157, 47, 0), (47, .aload_n 0, 48, 0), (48, .getfield 35, 51, 0), (51, .dup, 52, 0), (52, .getfield 163, 55, 0), (55, .iconst 1, 56, 0), (56, .iadd, 57, 0),
  (57, .putfield 163, 60, 0), (60, .aload_n 0, 61, 0), (61, .getfield 35, 64, 0), (64, .dup, 65, 0), (65, .getfield 166, 68, 0), (68, .aload_n 0, 69, 0), (69, .iconst 0, 70, 0), (70, .invokevirtual 169, 73, 0),
  (73, .iadd, 74, 0), (74, .putfield 166, 77, 0), (77, .aload_n 0, 78, 0), (78, .getfield 21, 81, 0), (81, .iconst 0, 82, 0), (82, .invokevirtual 172, 85, 0), (85, .iinc 1 1, 88, 0), (88, .iinc 2 1, 91, 0),
  (91, .goto (-87), 94, 4), (94, .iload_n 1, 95, 0), (95, .ireturn, 96, 0)]
def TX7_takeBack : Q_T := [(0, .aload_n 0, 1, 0), (1, .getfield 11, 4, 0), (4, .iload_n 1, 5, 0), (5, .aaload, 6, 0), (6, .astore_n 2, 7, 0), (7, .aload_n 2, 8, 0), (8, .getfield 115, 11, 0), (11, .ifCond .eq 12, 14, 23),
  (14, .aload_n 0, 15, 0), (15, .iload_n 1, 16, 0), (16, .iconst 2, 17, 0), (17, .invokevirtual 133, 20, 0), (20, .goto 36, 23, 56), (23, .aload_n 0, 24, 0), (24, .getfield 39, 27, 0), (27, .aload_n 2, 28, 0),
  (28, .getfield 112, 31, 0), (31, .isub, 32, 0), (32, .aload_n 0, 33, 0), (33, .getfield 28, 36, 0), (36, .getfield 176, 39, 0), (39, .if_icmp .lt 12, 42, 51), (42, .aload_n 0, 43, 0), (43, .iload_n 1, 44, 0),
  (44, .iconst 0, 45, 0), (45, .invokevirtual 133, 48, 0), (48, .goto 8, 51, 56), (51, .aload_n 0, 52, 0), (52, .aload_n 2, 53, 0), (53, .invokevirtual 124, 56, 0), (56, .aload_n 0, 57, 0), (57, .invokevirtual 179, 60, 0),
  (60, .ifCond .le 7, 63, 67), (63, .iconst 1, 64, 0), (64, .goto 4, 67, 68), (67, .iconst 0, 68, 0), (68, .ireturn, 69, 0)]
def TX7_letLeave : Q_T := [(0, .aload_n 0, 1, 0), (1, .iload_n 1, 2, 0), (2, .invokevirtual 169, 5, 0), (5, .istore_n 2, 6, 0), (6, .aload_n 0, 7, 0), (7, .getfield 21, 10, 0), (10, .iload_n 1, 11, 0), (11, .invokevirtual 172, 14, 0),
  (14, .iload_n 2, 15, 0), (15, .ireturn, 16, 0)]
def TX7_letUse : Q_T := [(0, .aload_n 0, 1, 0), (1, .getfield 11, 4, 0), (4, .iload_n 1, 5, 0), (5, .aaload, 6, 0), (6, .iload_n 2, 7, 0), (7, .invokevirtual 182, 10, 0), (10, .istore_n 3, 11, 0), (11, .iload_n 3, 12, 0),
  (12, .ifCond .eq 19, 15, 31), (15, .aload_n 0, 16, 0), (16, .getfield 35, 19, 0), (19, .dup, 20, 0), (20, .getfield 186, 23, 0), (23, .iconst 1, 24, 0), (24, .iadd, 25, 0), (25, .putfield 186, 28, 0),
  (28, .goto 16, 31, 44), (31, .aload_n 0, 32, 0), (32, .getfield 35, 35, 0), (35, .dup, 36, 0), (36, .getfield 189, 39, 0), (39, .iconst 1, 40, 0), (40, .iadd, 41, 0), (41, .putfield 189, 44, 0),
  (44, .iload_n 3, 45, 0), (45, .ireturn, 46, 0)]
def TX7_passTicks : Q_T := [(0, .iconst 0, 1, 0), (1, .istore_n 2, 2, 0), (2, .iconst 0, 3, 0), (3, .istore_n 3, 4, 0), (4, .iload_n 3, 5, 0), (5, .iload_n 1, 6, 0), (6, .if_icmp .ge 46, 9, 52), (9, .aload_n 0, 10, 0),
  (10, .dup, 11, 0), (11, .getfield 39, 14, 0), (14, .iconst 1, 15, 0), (15, .iadd, 16, 0), (16, .putfield 39, 19, 0), (19, .aload_n 0, 20, 0), (20, .invokevirtual 192, 23, 0), (23, .aload_n 0, 24, 0),
  (24, .invokevirtual 195, 27, 0), (27, .aload_n 0, 28, 0), (28, .invokevirtual 198, 31, 0), (31, .aload_n 0, 32, 0), (32, .invokevirtual 201, 35, 0), (35, .iload_n 2, 36, 0), (36, .aload_n 0, 37, 0), (37, .invokevirtual 179, 40, 0),
  (40, .iadd, 41, 0), (41, .istore_n 2, 42, 0), (42, .aload_n 0, 43, 0), (43, .invokevirtual 204, 46, 0), (46, .iinc 3 1, 49, 0), (49, .goto (-45), 52, 4), (52, .iload_n 2, 53, 0), (53, .ireturn, 54, 0)]
def TX7_losePatience : Q_T := [(0, .aload_n 0, 1, 0), (1, .getfield 21, 4, 0), (4, .getfield 147, 7, 0), (7, .iconst 1, 8, 0), (8, .isub, 9, 0), (9, .istore_n 1, 10, 0), (10, .iload_n 1, 11, 0), (11, .ifCond .lt 45, 14, 56),
  (14, .aload_n 0, 15, 0), (15, .iload_n 1, 16, 0), (16, .invokevirtual 169, 19, 0), (19, .aload_n 0, 20, 0), (20, .getfield 28, 23, 0), (23, .getfield 207, 26, 0), (26, .if_icmp .lt 24, 29, 50), (29, .aload_n 0, 30, 0),
  (30, .getfield 21, 33, 0), (33, .iload_n 1, 34, 0), (34, .invokevirtual 172, 37, 0), (37, .aload_n 0, 38, 0), (38, .getfield 35, 41, 0), (41, .dup, 42, 0), (42, .getfield 210, 45, 0), (45, .iconst 1, 46, 0),
  (46, .iadd, 47, 0), (47, .putfield 210, 50, 0), (50, .iinc 1 (-1), 53, 0), (53, .goto (-43), 56, 10), (56, .return_, 57, 0)]
def TX7_takeLeasesAway : Q_T := [(0, .aload_n 0, 1, 0), (1, .getfield 43, 4, 0), (4, .iconst 1, 5, 0), (5, .isub, 6, 0), (6, .istore_n 1, 7, 0), (7, .iload_n 1, 8, 0), (8, .ifCond .lt 48, 11, 56), (11, .aload_n 0, 12, 0),
  (12, .getfield 11, 15, 0), (15, .iload_n 1, 16, 0), (16, .aaload, 17, 0), (17, .astore_n 2, 18, 0), (18, .aload_n 2, 19, 0), (19, .invokevirtual 72, 22, 0), (22, .ifCond .ne 28, 25, 50), (25, .aload_n 0, 26, 0),
  (26, .getfield 39, 29, 0), (29, .aload_n 2, 30, 0), (30, .getfield 94, 33, 0), (33, .isub, 34, 0), (34, .aload_n 0, 35, 0), (35, .getfield 28, 38, 0), (38, .getfield 91, 41, 0), (41, .if_icmp .lt 9, 44, 50),
  (44, .aload_n 0, 45, 0), (45, .iload_n 1, 46, 0), (46, .iconst 3, 47, 0), (47, .invokevirtual 133, 50, 0), (50, .iinc 1 (-1), 53, 0), (53, .goto (-46), 56, 7), (56, .return_, 57, 0)]
def TX7_closeOldOnes : Q_T := [(0, .aload_n 0, 1, 0), (1, .getfield 43, 4, 0), (4, .iconst 1, 5, 0), (5, .isub, 6, 0), (6, .istore_n 1, 7, 0), (7, .iload_n 1, 8, 0), (8, .ifCond .lt 48, 11, 56), (11, .aload_n 0, 12, 0),
  (12, .getfield 11, 15, 0), (15, .iload_n 1, 16, 0), (16, .aaload, 17, 0), (17, .astore_n 2, 18, 0), (18, .aload_n 2, 19, 0), (19, .invokevirtual 72, 22, 0), (22, .ifCond .eq 28, 25, 50), (25, .aload_n 0, 26, 0),
  (26, .getfield 39, 29, 0), (29, .aload_n 2, 30, 0), (30, .getfield 112, 33, 0), (33, .isub, 34, 0), (34, .aload_n 0, 35, 0), (35, .getfield 28, 38, 0), (38, .getfield 176, 41, 0), (41, .if_icmp .lt 9, 44, 50),
  (44, .aload_n 0, 45, 0), (45, .iload_n 1, 46, 0), (46, .iconst 0, 47, 0), (47, .invokevirtual 133, 50, 0), (50, .iinc 1 (-1), 53, 0), (53, .goto (-46), 56, 7), (56, .return_, 57, 0)]
def TX7_closeRestedOnes : Q_T := [(0, .aload_n 0, 1, 0), (1, .invokevirtual 213, 4, 0), (4, .aload_n 0, 5, 0), (5, .getfield 28, 8, 0), (8, .getfield 216, 11, 0), (11, .isub, 12, 0), (12, .istore_n 1, 13, 0), (13, .iload_n 1, 14, 0),
  (14, .ifCond .le 51, 17, 65), (17, .aload_n 0, 18, 0), (18, .iconst 0, 19, 0), (19, .invokevirtual 87, 22, 0), (22, .istore_n 2, 23, 0), (23, .iload_n 2, 24, 0), (24, .iconst (-1), 25, 0), (25, .if_icmp .eq 27, 28, 52),
  (28, .aload_n 0, 29, 0), (29, .getfield 39, 32, 0), (32, .aload_n 0, 33, 0), (33, .getfield 11, 36, 0), (36, .iload_n 2, 37, 0), (37, .aaload, 38, 0), (38, .getfield 94, 41, 0), (41, .isub, 42, 0),
  (42, .aload_n 0, 43, 0), (43, .getfield 28, 46, 0), (46, .getfield 219, 49, 0), (49, .if_icmp .ge 4, 52, 53), (52, .return_, 53, 0), (53, .aload_n 0, 54, 0), (54, .iload_n 2, 55, 0), (55, .iconst 1, 56, 0),
  (56, .invokevirtual 133, 59, 0), (59, .iinc 1 (-1), 62, 0), (62, .goto (-49), 65, 13), (65, .return_, 66, 0)]
def TX7_openToLeastIdle : Q_T := [(0, .aload_n 0, 1, 0), (1, .getfield 28, 4, 0), (4, .getfield 216, 7, 0), (7, .aload_n 0, 8, 0), (8, .invokevirtual 213, 11, 0), (11, .isub, 12, 0), (12, .istore_n 1, 13, 0), (13, .iload_n 1, 14, 0),
  (14, .ifCond .le 21, 17, 35), (17, .aload_n 0, 18, 0), (18, .invokevirtual 137, 21, 0), (21, .ifCond .eq 14, 24, 35), (24, .aload_n 0, 25, 0), (25, .invokevirtual 140, 28, 0), (28, .pop, 29, 0), (29, .iinc 1 (-1), 32, 0),
  (32, .goto (-19), 35, 13), (35, .return_, 36, 0)]
def TX8_init : Q_T := [(0, .aload_n 0, 1, 0), (1, .invokespecial 1, 4, 0), (4, .aload_n 0, 5, 0), (5, .new 7, 8, 0), (8, .dup, 9, 0), (9, .invokespecial 9, 12, 0), (12, .putfield 10, 15, 0), (15, .aload_n 0, 16, 0),
  (16, .new 7, 19, 0), (19, .dup, 20, 0), (20, .invokespecial 9, 23, 0), (23, .putfield 16, 26, 0), (26, .aload_n 0, 27, 0), (27, .iconst 2, 28, 0), (28, .anewarray 7, 31, 0), (31, .putfield 19, 34, 0),
  (34, .iconst 0, 35, 0), (35, .istore_n 1, 36, 0), (36, .iload_n 1, 37, 0), (37, .iconst 2, 38, 0), (38, .if_icmp .ge 22, 41, 60), (41, .aload_n 0, 42, 0), (42, .getfield 19, 45, 0), (45, .iload_n 1, 46, 0),
  (46, .new 7, 49, 0), (49, .dup, 50, 0), (50, .invokespecial 9, 53, 0), (53, .aastore, 54, 0), (54, .iinc 1 1, 57, 0), (57, .goto (-21), 60, 36), (60, .aload_n 0, 61, 0), (61, .iconst 2, 62, 0),
  (62, .newarray .boolean, 64, 0), (64, .putfield 23, 67, 0), (67, .aload_n 0, 68, 0), (68, .new 27, 71, 0), (71, .dup, 72, 0), (72, .invokespecial 29, 75, 0), (75, .putfield 30, 78, 0), (78, .aload_n 0, 79, 0),
  (79, .new 34, 82, 0), (82, .dup, 83, 0), (83, .invokespecial 36, 86, 0), (86, .putfield 37, 89, 0), (89, .return_, 90, 0)]
def TX8_ask : Q_T := [(0, .iload_n 1, 1, 0), (1, .invokestatic 41, 4, 0), (4, .iload_n 2, 5, 0), (5, .iconst 0, 6, 0), (6, .iconst 2, 7, 0), (7, .invokestatic 45, 10, 0), (10, .aload_n 0, 11, 0), (11, .getfield 10, 14, 0),
  (14, .iload_n 1, 15, 0), (15, .invokevirtual 49, 18, 0), (18, .ifCond .eq 13, 21, 31), (21, .new 53, 24, 0), (24, .dup, 25, 0), (25, .ldc 55, 27, 0), (27, .invokespecial 57, 30, 0), (30, .athrow, 31, 0),
  (31, .aload_n 0, 32, 0), (32, .getfield 30, 35, 0), (35, .aload_n 0, 36, 0), (36, .getfield 10, 39, 0), (39, .invokevirtual 60, 42, 0), (42, .aload_n 0, 43, 0), (43, .getfield 10, 46, 0), (46, .iload_n 1, 47, 0),
  (47, .iload_n 2, 48, 0), (48, .invokevirtual 64, 51, 0), (51, .ireturn, 52, 0)]
def TX8_giveBack : Q_T := [(0, .aload_n 0, 1, 0), (1, .iload_n 1, 2, 0), (2, .invokevirtual 68, 5, 0), (5, .istore_n 2, 6, 0), (6, .aload_n 0, 7, 0), (7, .getfield 30, 10, 0), (10, .aload_n 0, 11, 0), (11, .getfield 10, 14, 0),
  (14, .invokevirtual 60, 17, 0), (17, .aload_n 0, 18, 0), (18, .getfield 10, 21, 0), (21, .iload_n 2, 22, 0), (22, .invokevirtual 72, 25, 0), (25, .ireturn, 26, 0)]
def TX8_leave : Q_T := [(0, .aload_n 0, 1, 0), (1, .iload_n 1, 2, 0), (2, .invokevirtual 75, 5, 0), (5, .istore_n 2, 6, 0), (6, .aload_n 0, 7, 0), (7, .getfield 30, 10, 0), (10, .aload_n 0, 11, 0), (11, .getfield 10, 14, 0),
  (14, .invokevirtual 60, 17, 0), (17, .aload_n 0, 18, 0), (18, .getfield 10, 21, 0), (21, .iload_n 2, 22, 0), (22, .invokevirtual 78, 25, 0), (25, .ireturn, 26, 0)]
def TX8_use : Q_T := [(0, .iload_n 1, 1, 0), (1, .invokestatic 41, 4, 0), (4, .iload_n 2, 5, 0), (5, .iconst 0, 6, 0), (6, .bipush 29, 8, 0), (8, .invokestatic 45, 11, 0), (11, .aload_n 0, 12, 0), (12, .iload_n 1, 13, 0),
  (13, .invokevirtual 68, 16, 0), (16, .istore_n 3, 17, 0), (17, .aload_n 0, 18, 0), (18, .getfield 30, 21, 0), (21, .aload_n 0, 22, 0), (22, .getfield 10, 25, 0), (25, .invokevirtual 60, 28, 0), (28, .aload_n 0, 29, 0),
  (29, .getfield 10, 32, 0), (32, .iload_n 3, 33, 0), (33, .iload_n 2, 34, 0), (34, .invokevirtual 81, 37, 0), (37, .ireturn, 38, 0)]
def TX8_breakOff : Q_T := [(0, .aload_n 0, 1, 0), (1, .iload_n 1, 2, 0), (2, .invokevirtual 84, 5, 0), (5, .aload_n 0, 6, 0), (6, .getfield 30, 9, 0), (9, .aload_n 0, 10, 0), (10, .getfield 10, 13, 0), (13, .invokevirtual 60, 16, 0),
  (16, .aload_n 0, 17, 0), (17, .getfield 10, 20, 0), (20, .getfield 87, 23, 0), (23, .iload_n 1, 24, 0), (24, .aaload, 25, 0), (25, .astore_n 2, 26, 0), (26, .aload_n 2, 27, 0), (27, .getfield 91, 30, 0),
  (30, .ifCond .ne 7, 33, 37), (33, .iconst 1, 34, 0), (34, .goto 4, 37, 38), (37, .iconst 0, 38, 0), (38, .istore_n 3, 39, 0), (39, .aload_n 2, 40, 0), (40, .iconst 1, 41, 0), (41, .putfield 91, 44, 0),
  (44, .iload_n 3, 45, 0), (45, .ireturn, 46, 0)]
def TX8_tick : Q_T := [(0, .iload_n 1, 1, 0), (1, .iconst 1, 2, 0), (2, .bipush 100, 4, 0), (4, .invokestatic 45, 7, 0), (7, .aload_n 0, 8, 0), (8, .getfield 30, 11, 0), (11, .aload_n 0, 12, 0), (12, .getfield 10, 15, 0),
  (15, .invokevirtual 60, 18, 0), (18, .aload_n 0, 19, 0), (19, .getfield 10, 22, 0), (22, .iload_n 1, 23, 0), (23, .invokevirtual 97, 26, 0), (26, .ireturn, 27, 0)]
def TX8_changeMost : Q_T := [(0, .iload_n 1, 1, 0), (1, .iconst 1, 2, 0), (2, .bipush 12, 4, 0), (4, .invokestatic 45, 7, 0), (7, .aload_n 0, 8, 0), (8, .getfield 30, 11, 0), (11, .aload_n 0, 12, 0), (12, .getfield 10, 15, 0),
  (15, .invokevirtual 60, 18, 0), (18, .aload_n 0, 19, 0), (19, .getfield 10, 22, 0), (22, .getfield 100, 25, 0), (25, .getfield 104, 28, 0), (28, .istore_n 2, 29, 0), (29, .aload_n 0, 30, 0), (30, .getfield 10, 33, 0),
  (33, .getfield 100, 36, 0), (36, .iload_n 1, 37, 0), (37, .putfield 104, 40, 0), (40, .aload_n 0, 41, 0), (41, .getfield 10, 44, 0), (44, .invokevirtual 110, 47, 0), (47, .iload_n 2, 48, 0), (48, .ireturn, 49, 0)]
def TX8_changeIdle : Q_T := [(0, .iload_n 1, 1, 0), (1, .iconst 0, 2, 0), (2, .bipush 6, 4, 0), (4, .invokestatic 45, 7, 0), (7, .aload_n 0, 8, 0), (8, .getfield 30, 11, 0), (11, .aload_n 0, 12, 0), (12, .getfield 10, 15, 0),
  (15, .invokevirtual 60, 18, 0), (18, .aload_n 0, 19, 0), (19, .getfield 10, 22, 0), (22, .getfield 100, 25, 0), (25, .getfield 113, 28, 0), (28, .istore_n 2, 29, 0), (29, .aload_n 0, 30, 0), (30, .getfield 10, 33, 0),
  (33, .getfield 100, 36, 0), (36, .iload_n 1, 37, 0), (37, .putfield 113, 40, 0), (40, .iload_n 2, 41, 0), (41, .ireturn, 42, 0)]
def TX8_changeAge : Q_T := [(0, .iload_n 1, 1, 0), (1, .iconst 5, 2, 0), (2, .sipush 999, 5, 0), (5, .invokestatic 45, 8, 0), (8, .aload_n 0, 9, 0), (9, .getfield 30, 12, 0), (12, .aload_n 0, 13, 0), (13, .getfield 10, 16, 0),
  (16, .invokevirtual 60, 19, 0), (19, .aload_n 0, 20, 0), (20, .getfield 10, 23, 0), (23, .getfield 100, 26, 0), (26, .getfield 116, 29, 0), (29, .istore_n 2, 30, 0), (30, .aload_n 0, 31, 0), (31, .getfield 10, 34, 0),
  (34, .getfield 100, 37, 0), (37, .iload_n 1, 38, 0), (38, .putfield 116, 41, 0), (41, .iload_n 2, 42, 0), (42, .ireturn, 43, 0)]
def TX8_changeRest : Q_T := [(0, .iload_n 1, 1, 0), (1, .iconst 1, 2, 0), (2, .sipush 999, 5, 0), (5, .invokestatic 45, 8, 0), (8, .aload_n 0, 9, 0), (9, .getfield 30, 12, 0), (12, .aload_n 0, 13, 0), (13, .getfield 10, 16, 0),
  (16, .invokevirtual 60, 19, 0), (19, .aload_n 0, 20, 0), (20, .getfield 10, 23, 0), (23, .getfield 100, 26, 0), (26, .getfield 119, 29, 0), (29, .istore_n 2, 30, 0), (30, .aload_n 0, 31, 0), (31, .getfield 10, 34, 0),
  (34, .getfield 100, 37, 0), (37, .iload_n 1, 38, 0), (38, .putfield 119, 41, 0), (41, .iload_n 2, 42, 0), (42, .ireturn, 43, 0)]
def TX8_changeLease : Q_T := [(0, .iload_n 1, 1, 0), (1, .iconst 1, 2, 0), (2, .sipush 999, 5, 0), (5, .invokestatic 45, 8, 0), (8, .aload_n 0, 9, 0), (9, .getfield 30, 12, 0), (12, .aload_n 0, 13, 0), (13, .getfield 10, 16, 0),
  (16, .invokevirtual 60, 19, 0), (19, .aload_n 0, 20, 0), (20, .getfield 10, 23, 0), (23, .getfield 100, 26, 0), (26, .getfield 122, 29, 0), (29, .istore_n 2, 30, 0), (30, .aload_n 0, 31, 0), (31, .getfield 10, 34, 0),
  (34, .getfield 100, 37, 0), (37, .iload_n 1, 38, 0), (38, .putfield 122, 41, 0), (41, .iload_n 2, 42, 0), (42, .ireturn, 43, 0)]
def TX8_changePatience : Q_T := [(0, .iload_n 1, 1, 0), (1, .iconst 1, 2, 0), (2, .bipush 99, 4, 0), (4, .invokestatic 45, 7, 0), (7, .aload_n 0, 8, 0), (8, .getfield 30, 11, 0), (11, .aload_n 0, 12, 0), (12, .getfield 10, 15, 0),
  (15, .invokevirtual 60, 18, 0), (18, .aload_n 0, 19, 0), (19, .getfield 10, 22, 0), (22, .getfield 100, 25, 0), (25, .getfield 125, 28, 0), (28, .istore_n 2, 29, 0), (29, .aload_n 0, 30, 0), (30, .getfield 10, 33, 0),
  (33, .getfield 100, 36, 0), (36, .iload_n 1, 37, 0), (37, .putfield 125, 40, 0), (40, .iload_n 2, 41, 0), (41, .ireturn, 42, 0)]
def TX8_turnOrder : Q_T := [(0, .aload_n 0, 1, 0), (1, .getfield 30, 4, 0), (4, .aload_n 0, 5, 0), (5, .getfield 10, 8, 0), (8, .invokevirtual 60, 11, 0), (11, .aload_n 0, 12, 0), (12, .getfield 10, 15, 0), (15, .getfield 100, 18, 0),
  (18, .aload_n 0, 19, 0), (19, .getfield 10, 22, 0), (22, .getfield 100, 25, 0), (25, .getfield 128, 28, 0), (28, .ifCond .ne 7, 31, 35), (31, .iconst 1, 32, 0), (32, .goto 4, 35, 36), (35, .iconst 0, 36, 0),
  (36, .putfield 128, 39, 0), (39, .aload_n 0, 40, 0), (40, .getfield 10, 43, 0), (43, .getfield 100, 46, 0), (46, .getfield 128, 49, 0), (49, .ireturn, 50, 0)]
def TX8_keep : Q_T := [(0, .iload_n 1, 1, 0), (1, .iconst 0, 2, 0), (2, .iconst 1, 3, 0), (3, .invokestatic 45, 6, 0), (6, .aload_n 0, 7, 0), (7, .getfield 19, 10, 0), (10, .iload_n 1, 11, 0), (11, .aaload, 12, 0),
  (12, .aload_n 0, 13, 0), (13, .getfield 10, 16, 0), (16, .invokevirtual 152, 19, 0), (19, .aload_n 0, 20, 0), (20, .getfield 23, 23, 0), (23, .iload_n 1, 24, 0), (24, .iconst 1, 25, 0), (25, .bastore, 26, 0),
  (26, .return_, 27, 0)]
def TX8_goBack : Q_T := [(0, .iload_n 1, 1, 0), (1, .iconst 0, 2, 0), (2, .iconst 1, 3, 0), (3, .invokestatic 45, 6, 0), (6, .aload_n 0, 7, 0), (7, .getfield 23, 10, 0), (10, .iload_n 1, 11, 0), (11, .baload, 12, 0),
  (12, .ifCond .ne 13, 15, 25), (15, .new 53, 18, 0), (18, .dup, 19, 0), (19, .ldc 177, 21, 0), (21, .invokespecial 57, 24, 0), (24, .athrow, 25, 0), (25, .aload_n 0, 26, 0), (26, .getfield 30, 29, 0),
  (29, .aload_n 0, 30, 0), (30, .getfield 10, 33, 0), (33, .invokevirtual 60, 36, 0), (36, .aload_n 0, 37, 0), (37, .getfield 10, 40, 0), (40, .aload_n 0, 41, 0), (41, .getfield 19, 44, 0), (44, .iload_n 1, 45, 0),
  (45, .aaload, 46, 0), (46, .invokevirtual 152, 49, 0), (49, .return_, 50, 0)]
def TX8_undo : Q_T := [(0, .aload_n 0, 1, 0), (1, .getfield 30, 4, 0), (4, .getfield 179, 7, 0), (7, .ifCond .ne 13, 10, 20), (10, .new 53, 13, 0), (13, .dup, 14, 0), (14, .ldc 180, 16, 0), (16, .invokespecial 57, 19, 0),
  (19, .athrow, 20, 0), (20, .aload_n 0, 21, 0), (21, .getfield 30, 24, 0), (24, .aload_n 0, 25, 0), (25, .getfield 10, 28, 0), (28, .invokevirtual 182, 31, 0), (31, .return_, 32, 0)]
def TX8_savedStates : Q_T := [(0, .aload_n 0, 1, 0), (1, .getfield 30, 4, 0), (4, .getfield 179, 7, 0), (7, .ireturn, 8, 0)]
def TX8_livingByGoing : Q_T := [(0, .aload_n 0, 1, 0), (1, .getfield 10, 4, 0), (4, .getfield 174, 7, 0), (7, .ireturn, 8, 0)]
def TX8_livingByAccount : Q_T := [(0, .aload_n 0, 1, 0), (1, .getfield 10, 4, 0), (4, .getfield 185, 7, 0), (7, .getfield 189, 10, 0), (10, .aload_n 0, 11, 0), (11, .getfield 10, 14, 0), (14, .getfield 185, 17, 0), (17, .invokevirtual 194, 20, 0),
  (20, .isub, 21, 0), (21, .ireturn, 22, 0)]
def TX8_numberAt : Q_T := [(0, .aload_n 0, 1, 0), (1, .iload_n 1, 2, 0), (2, .invokevirtual 84, 5, 0), (5, .aload_n 0, 6, 0), (6, .getfield 10, 9, 0), (9, .getfield 87, 12, 0), (12, .iload_n 1, 13, 0), (13, .aaload, 14, 0),
  (14, .getfield 197, 17, 0), (17, .ireturn, 18, 0)]
def TX8_ageAt : Q_T := [(0, .aload_n 0, 1, 0), (1, .iload_n 1, 2, 0), (2, .invokevirtual 84, 5, 0), (5, .aload_n 0, 6, 0), (6, .getfield 10, 9, 0), (9, .getfield 200, 12, 0), (12, .aload_n 0, 13, 0), (13, .getfield 10, 16, 0),
  (16, .getfield 87, 19, 0), (19, .iload_n 1, 20, 0), (20, .aaload, 21, 0), (21, .getfield 203, 24, 0), (24, .isub, 25, 0), (25, .ireturn, 26, 0)]
def TX8_isIdle : Q_T := [(0, .aload_n 0, 1, 0), (1, .iload_n 1, 2, 0), (2, .invokevirtual 84, 5, 0), (5, .aload_n 0, 6, 0), (6, .getfield 10, 9, 0), (9, .getfield 87, 12, 0), (12, .iload_n 1, 13, 0), (13, .aaload, 14, 0),
  (14, .invokevirtual 206, 17, 0), (17, .ireturn, 18, 0)]
def TX8_isBroken : Q_T := [(0, .aload_n 0, 1, 0), (1, .iload_n 1, 2, 0), (2, .invokevirtual 84, 5, 0), (5, .aload_n 0, 6, 0), (6, .getfield 10, 9, 0), (9, .getfield 87, 12, 0), (12, .iload_n 1, 13, 0), (13, .aaload, 14, 0),
  (14, .getfield 91, 17, 0), (17, .ireturn, 18, 0)]
def TX8_squirrelAt : Q_T := [(0, .aload_n 0, 1, 0), (1, .iload_n 1, 2, 0), (2, .invokevirtual 84, 5, 0), (5, .aload_n 0, 6, 0), (6, .getfield 10, 9, 0), (9, .getfield 87, 12, 0), (12, .iload_n 1, 13, 0), (13, .aaload, 14, 0),
  (14, .invokevirtual 206, 17, 0), (17, .ifCond .eq 13, 20, 30), (20, .new 53, 23, 0), (23, .dup, 24, 0), (24, .ldc 209, 26, 0), (26, .invokespecial 57, 29, 0), (29, .athrow, 30, 0), (30, .aload_n 0, 31, 0),
  (31, .getfield 10, 34, 0), (34, .getfield 87, 37, 0), (37, .iload_n 1, 38, 0), (38, .aaload, 39, 0), (39, .getfield 211, 42, 0), (42, .ireturn, 43, 0)]
def TX8_sinceAt : Q_T := [(0, .aload_n 0, 1, 0), (1, .iload_n 1, 2, 0), (2, .invokevirtual 84, 5, 0), (5, .aload_n 0, 6, 0), (6, .getfield 10, 9, 0), (9, .getfield 200, 12, 0), (12, .aload_n 0, 13, 0), (13, .getfield 10, 16, 0),
  (16, .getfield 87, 19, 0), (19, .iload_n 1, 20, 0), (20, .aaload, 21, 0), (21, .getfield 214, 24, 0), (24, .isub, 25, 0), (25, .ireturn, 26, 0)]
def TX8_turnOf : Q_T := [(0, .aload_n 0, 1, 0), (1, .iload_n 1, 2, 0), (2, .invokevirtual 84, 5, 0), (5, .aload_n 0, 6, 0), (6, .getfield 10, 9, 0), (9, .getfield 87, 12, 0), (12, .iload_n 1, 13, 0), (13, .aaload, 14, 0),
  (14, .invokevirtual 206, 17, 0), (17, .ifCond .ne 13, 20, 30), (20, .new 53, 23, 0), (23, .dup, 24, 0), (24, .ldc 217, 26, 0), (26, .invokespecial 57, 29, 0), (29, .athrow, 30, 0), (30, .aload_n 0, 31, 0),
  (31, .getfield 10, 34, 0), (34, .iload_n 1, 35, 0), (35, .invokevirtual 219, 38, 0), (38, .ireturn, 39, 0)]
def TX8_lendingsOf : Q_T := [(0, .aload_n 0, 1, 0), (1, .iload_n 1, 2, 0), (2, .invokevirtual 84, 5, 0), (5, .aload_n 0, 6, 0), (6, .getfield 10, 9, 0), (9, .getfield 87, 12, 0), (12, .iload_n 1, 13, 0), (13, .aaload, 14, 0),
  (14, .getfield 222, 17, 0), (17, .ireturn, 18, 0)]
def TX8_nutsIn : Q_T := [(0, .aload_n 0, 1, 0), (1, .iload_n 1, 2, 0), (2, .invokevirtual 84, 5, 0), (5, .aload_n 0, 6, 0), (6, .getfield 10, 9, 0), (9, .getfield 87, 12, 0), (12, .iload_n 1, 13, 0), (13, .aaload, 14, 0),
  (14, .getfield 225, 17, 0), (17, .ireturn, 18, 0)]
def TX8_nutAt : Q_T := [(0, .aload_n 0, 1, 0), (1, .iload_n 1, 2, 0), (2, .invokevirtual 84, 5, 0), (5, .iload_n 2, 6, 0), (6, .ifCond .lt 19, 9, 25), (9, .iload_n 2, 10, 0), (10, .aload_n 0, 11, 0), (11, .getfield 10, 14, 0),
  (14, .getfield 87, 17, 0), (17, .iload_n 1, 18, 0), (18, .aaload, 19, 0), (19, .getfield 225, 22, 0), (22, .if_icmp .lt 13, 25, 35), (25, .new 228, 28, 0), (28, .dup, 29, 0), (29, .ldc 230, 31, 0),
  (31, .invokespecial 232, 34, 0), (34, .athrow, 35, 0), (35, .aload_n 0, 36, 0), (36, .getfield 10, 39, 0), (39, .getfield 87, 42, 0), (42, .iload_n 1, 43, 0), (43, .aaload, 44, 0), (44, .getfield 233, 47, 0),
  (47, .iload_n 2, 48, 0), (48, .iaload, 49, 0), (49, .ireturn, 50, 0)]
def TX8_idle : Q_T := [(0, .aload_n 0, 1, 0), (1, .getfield 10, 4, 0), (4, .invokevirtual 236, 7, 0), (7, .ireturn, 8, 0)]
def TX8_leasedByConnections : Q_T := [(0, .aload_n 0, 1, 0), (1, .getfield 10, 4, 0), (4, .getfield 174, 7, 0), (7, .aload_n 0, 8, 0), (8, .getfield 10, 11, 0), (11, .invokevirtual 236, 14, 0), (14, .isub, 15, 0), (15, .ireturn, 16, 0)]
def TX8_leasedBySquirrels : Q_T := [(0, .iconst 0, 1, 0), (1, .istore_n 1, 2, 0), (2, .iconst 0, 3, 0), (3, .istore_n 2, 4, 0), (4, .iload_n 2, 5, 0), (5, .bipush 20, 7, 0), (7, .if_icmp .ge 24, 10, 31), (10, .aload_n 0, 11, 0),
  (11, .getfield 10, 14, 0), (14, .iload_n 2, 15, 0), (15, .invokevirtual 239, 18, 0), (18, .iconst (-1), 19, 0), (19, .if_icmp .eq 6, 22, 25), (22, .iinc 1 1, 25, 0), (25, .iinc 2 1, 28, 0), (28, .goto (-24), 31, 4),
  (31, .iload_n 1, 32, 0), (32, .ireturn, 33, 0)]
def TX8_nextLent : Q_T := [(0, .aload_n 0, 1, 0), (1, .invokevirtual 242, 4, 0), (4, .ireturn, 5, 0)]
def TX8_has : Q_T := [(0, .iload_n 1, 1, 0), (1, .invokestatic 41, 4, 0), (4, .aload_n 0, 5, 0), (5, .getfield 10, 8, 0), (8, .iload_n 1, 9, 0), (9, .invokevirtual 239, 12, 0), (12, .iconst (-1), 13, 0), (13, .if_icmp .eq 7, 16, 20),
  (16, .iconst 1, 17, 0), (17, .goto 4, 20, 21), (20, .iconst 0, 21, 0), (21, .ireturn, 22, 0)]
def TX8_placeOf : Q_T := [(0, .aload_n 0, 1, 0), (1, .iload_n 1, 2, 0), (2, .invokevirtual 68, 5, 0), (5, .ireturn, 6, 0)]
def TX8_leaseLeft : Q_T := [(0, .aload_n 0, 1, 0), (1, .getfield 10, 4, 0), (4, .aload_n 0, 5, 0), (5, .iload_n 1, 6, 0), (6, .invokevirtual 68, 9, 0), (9, .invokevirtual 245, 12, 0), (12, .ireturn, 13, 0)]
def TX8_isWaiting : Q_T := [(0, .iload_n 1, 1, 0), (1, .invokestatic 41, 4, 0), (4, .aload_n 0, 5, 0), (5, .getfield 10, 8, 0), (8, .getfield 248, 11, 0), (11, .iload_n 1, 12, 0), (12, .invokevirtual 252, 15, 0), (15, .iconst (-1), 16, 0),
  (16, .if_icmp .eq 7, 19, 23), (19, .iconst 1, 20, 0), (20, .goto 4, 23, 24), (23, .iconst 0, 24, 0), (24, .ireturn, 25, 0)]
def TX8_waitOf : Q_T := [(0, .aload_n 0, 1, 0), (1, .getfield 10, 4, 0), (4, .aload_n 0, 5, 0), (5, .iload_n 1, 6, 0), (6, .invokevirtual 75, 9, 0), (9, .invokevirtual 257, 12, 0), (12, .ireturn, 13, 0)]
def TX8_queueOf : Q_T := [(0, .aload_n 0, 1, 0), (1, .iload_n 1, 2, 0), (2, .invokevirtual 75, 5, 0), (5, .ireturn, 6, 0)]
def TX8_waiting : Q_T := [(0, .aload_n 0, 1, 0), (1, .getfield 10, 4, 0), (4, .getfield 248, 7, 0), (7, .getfield 260, 10, 0), (10, .ireturn, 11, 0)]
def TX8_waiterAt : Q_T := [(0, .iload_n 1, 1, 0), (1, .ifCond .lt 17, 4, 18), (4, .iload_n 1, 5, 0), (5, .aload_n 0, 6, 0), (6, .getfield 10, 9, 0), (9, .getfield 248, 12, 0), (12, .getfield 260, 15, 0), (15, .if_icmp .lt 14, 18, 29),
  (18, .new 228, 21, 0), (21, .dup, 22, 0), (22, .ldc_w 261, 25, 0), (25, .invokespecial 232, 28, 0), (28, .athrow, 29, 0), (29, .aload_n 0, 30, 0), (30, .getfield 10, 33, 0), (33, .getfield 248, 36, 0),
  (36, .getfield 263, 39, 0), (39, .iload_n 1, 40, 0), (40, .iaload, 41, 0), (41, .ireturn, 42, 0)]
def TX8_most : Q_T := [(0, .aload_n 0, 1, 0), (1, .getfield 10, 4, 0), (4, .getfield 100, 7, 0), (7, .getfield 104, 10, 0), (10, .ireturn, 11, 0)]
def TX8_leastIdle : Q_T := [(0, .aload_n 0, 1, 0), (1, .getfield 10, 4, 0), (4, .getfield 100, 7, 0), (7, .getfield 113, 10, 0), (10, .ireturn, 11, 0)]
def TX8_ageLimit : Q_T := [(0, .aload_n 0, 1, 0), (1, .getfield 10, 4, 0), (4, .getfield 100, 7, 0), (7, .getfield 116, 10, 0), (10, .ireturn, 11, 0)]
def TX8_restLimit : Q_T := [(0, .aload_n 0, 1, 0), (1, .getfield 10, 4, 0), (4, .getfield 100, 7, 0), (7, .getfield 119, 10, 0), (10, .ireturn, 11, 0)]
def TX8_leaseLimit : Q_T := [(0, .aload_n 0, 1, 0), (1, .getfield 10, 4, 0), (4, .getfield 100, 7, 0), (7, .getfield 122, 10, 0), (10, .ireturn, 11, 0)]
def TX8_patience : Q_T := [(0, .aload_n 0, 1, 0), (1, .getfield 10, 4, 0), (4, .getfield 100, 7, 0), (7, .getfield 125, 10, 0), (10, .ireturn, 11, 0)]
def TX8_isLastFirst : Q_T := [(0, .aload_n 0, 1, 0), (1, .getfield 10, 4, 0), (4, .getfield 100, 7, 0), (7, .getfield 128, 10, 0), (10, .ireturn, 11, 0)]
def TX8_ticksToServe : Q_T := [(0, .aload_n 0, 1, 0), (1, .iload_n 1, 2, 0), (2, .invokevirtual 75, 5, 0), (5, .pop, 6, 0), (6, .aload_n 0, 7, 0), (7, .getfield 16, 10, 0), (10, .aload_n 0, 11, 0), (11, .getfield 10, 14, 0),
  (14, .invokevirtual 152, 17, 0), (17, .iconst 1, 18, 0), (18, .istore_n 2, 19, 0), (19, .iload_n 2, 20, 0), (20, .bipush 99, 22, 0), (22, .if_icmp .gt 49, 25, 71), (25, .aload_n 0, 26, 0), (26, .getfield 16, 29, 0),
  (29, .iconst 1, 30, 0), (30, .invokevirtual 97, 33, 0), (33, .pop, 34, 0), (34, .aload_n 0, 35, 0), (35, .getfield 16, 38, 0), (38, .iload_n 1, 39, 0), (39, .invokevirtual 239, 42, 0), (42, .iconst (-1), 43, 0),
  (43, .if_icmp .eq 5, 46, 48), (46, .iload_n 2, 47, 0), (47, .ireturn, 48, 0), (48, .aload_n 0, 49, 0), (49, .getfield 16, 52, 0), (52, .getfield 248, 55, 0), (55, .iload_n 1, 56, 0), (56, .invokevirtual 252, 59, 0),
  (59, .iconst (-1), 60, 0), (60, .if_icmp .ne 5, 63, 65), (63, .iconst 0, 64, 0), (64, .ireturn, 65, 0), (65, .iinc 2 1, 68, 0), (68, .goto (-49), 71, 19), (71, .iconst 0, 72, 0), (72, .ireturn, 73, 0)]
def TX8_idleWith : Q_T := [(0, .iload_n 1, 1, 0), (1, .iconst 0, 2, 0), (2, .bipush 29, 4, 0), (4, .invokestatic 45, 7, 0), (7, .iconst 0, 8, 0), (8, .istore_n 2, 9, 0), (9, .iconst 0, 10, 0), (10, .istore_n 3, 11, 0),
  (11, .iload_n 3, 12, 0), (12, .aload_n 0, 13, 0), (13, .getfield 10, 16, 0), (16, .getfield 174, 19, 0), (19, .if_icmp .ge 43, 22, 62), (22, .aload_n 0, 23, 0), (23, .getfield 10, 26, 0), (26, .getfield 87, 29, 0),
  (29, .iload_n 3, 30, 0), (30, .aaload, 31, 0), (31, .invokevirtual 206, 34, 0), (34, .ifCond .eq 22, 37, 56), (37, .aload_n 0, 38, 0), (38, .getfield 10, 41, 0), (41, .getfield 87, 44, 0), (44, .iload_n 3, 45, 0),
  (45, .aaload, 46, 0), (46, .iload_n 1, 47, 0), (47, .invokevirtual 266, 50, 0), (50, .ifCond .eq 6, 53, 56), (53, .iinc 2 1, 56, 0), (56, .iinc 3 1, 59, 0), (59, .goto (-48), 62, 11), (62, .iload_n 2, 63, 0),
  (63, .ireturn, 64, 0)]
def TX8_time : Q_T := [(0, .aload_n 0, 1, 0), (1, .getfield 10, 4, 0), (4, .getfield 200, 7, 0), (7, .ireturn, 8, 0)]
def TX8_opened : Q_T := [(0, .aload_n 0, 1, 0), (1, .getfield 10, 4, 0), (4, .getfield 185, 7, 0), (7, .getfield 189, 10, 0), (10, .ireturn, 11, 0)]
def TX8_closedFor : Q_T := [(0, .iload_n 1, 1, 0), (1, .iconst 0, 2, 0), (2, .iconst 4, 3, 0), (3, .invokestatic 45, 6, 0), (6, .aload_n 0, 7, 0), (7, .getfield 10, 10, 0), (10, .getfield 185, 13, 0), (13, .getfield 269, 16, 0),
  (16, .iload_n 1, 17, 0), (17, .iaload, 18, 0), (18, .ireturn, 19, 0)]
def TX8_lendings : Q_T := [(0, .aload_n 0, 1, 0), (1, .getfield 10, 4, 0), (4, .getfield 185, 7, 0), (7, .getfield 272, 10, 0), (10, .ireturn, 11, 0)]
def TX8_impatient : Q_T := [(0, .aload_n 0, 1, 0), (1, .getfield 10, 4, 0), (4, .getfield 185, 7, 0), (7, .getfield 275, 10, 0), (10, .ireturn, 11, 0)]
def TX8_served : Q_T := [(0, .aload_n 0, 1, 0), (1, .getfield 10, 4, 0), (4, .getfield 185, 7, 0), (7, .getfield 278, 10, 0), (10, .ireturn, 11, 0)]
def TX8_waited : Q_T := [(0, .aload_n 0, 1, 0), (1, .getfield 10, 4, 0), (4, .getfield 185, 7, 0), (7, .getfield 281, 10, 0), (10, .ireturn, 11, 0)]
def TX8_hits : Q_T := [(0, .aload_n 0, 1, 0), (1, .getfield 10, 4, 0), (4, .getfield 185, 7, 0), (7, .getfield 284, 10, 0), (10, .ireturn, 11, 0)]
def TX8_misses : Q_T := [(0, .aload_n 0, 1, 0), (1, .getfield 10, 4, 0), (4, .getfield 185, 7, 0), (7, .getfield 287, 10, 0), (10, .ireturn, 11, 0)]
def TX8_hitShare : Q_T := [(0, .aload_n 0, 1, 0), (1, .getfield 10, 4, 0), (4, .getfield 185, 7, 0), (7, .invokevirtual 290, 10, 0), (10, .dreturn, 11, 0)]
def TX8_checkSquirrel : Q_T := [(0, .iload_n 0, 1, 0), (1, .ifCond .lt 9, 4, 10), (4, .iload_n 0, 5, 0), (5, .bipush 20, 7, 0), (7, .if_icmp .lt 14, 10, 21), (10, .new 228, 13, 0), (13, .dup, 14, 0), (14, .ldc_w 349, 17, 0),
  (17, .invokespecial 232, 20, 0), (20, .athrow, 21, 0), (21, .return_, 22, 0)]
def TX8_checkRange : Q_T := [(0, .iload_n 0, 1, 0), (1, .iload_n 1, 2, 0), (2, .if_icmp .lt 8, 5, 10), (5, .iload_n 0, 6, 0), (6, .iload_n 2, 7, 0), (7, .if_icmp .le 14, 10, 21), (10, .new 147, 13, 0), (13, .dup, 14, 0),
  (14, .ldc_w 351, 17, 0), (17, .invokespecial 151, 20, 0), (20, .athrow, 21, 0), (21, .return_, 22, 0)]
def TX8_checkPlace : Q_T := [(0, .iload_n 1, 1, 0), (1, .ifCond .lt 14, 4, 15), (4, .iload_n 1, 5, 0), (5, .aload_n 0, 6, 0), (6, .getfield 10, 9, 0), (9, .getfield 174, 12, 0), (12, .if_icmp .lt 14, 15, 26), (15, .new 228, 18, 0),
  (18, .dup, 19, 0), (19, .ldc_w 353, 22, 0), (22, .invokespecial 232, 25, 0), (25, .athrow, 26, 0), (26, .return_, 27, 0)]
def TX8_placeWanted : Q_T := [(0, .iload_n 1, 1, 0), (1, .invokestatic 41, 4, 0), (4, .aload_n 0, 5, 0), (5, .getfield 10, 8, 0), (8, .iload_n 1, 9, 0), (9, .invokevirtual 239, 12, 0), (12, .istore_n 2, 13, 0), (13, .iload_n 2, 14, 0),
  (14, .iconst (-1), 15, 0), (15, .if_icmp .ne 14, 18, 29), (18, .new 53, 21, 0), (21, .dup, 22, 0), (22, .ldc_w 355, 25, 0), (25, .invokespecial 57, 28, 0), (28, .athrow, 29, 0), (29, .iload_n 2, 30, 0),
  (30, .ireturn, 31, 0)]
def TX8_queuePlaceWanted : Q_T := [(0, .iload_n 1, 1, 0), (1, .invokestatic 41, 4, 0), (4, .aload_n 0, 5, 0), (5, .getfield 10, 8, 0), (8, .getfield 248, 11, 0), (11, .iload_n 1, 12, 0), (12, .invokevirtual 252, 15, 0), (15, .istore_n 2, 16, 0),
  (16, .iload_n 2, 17, 0), (17, .iconst (-1), 18, 0), (18, .if_icmp .ne 14, 21, 32), (21, .new 53, 24, 0), (24, .dup, 25, 0), (25, .ldc_w 357, 28, 0), (28, .invokespecial 57, 31, 0), (31, .athrow, 32, 0),
  (32, .iload_n 2, 33, 0), (33, .ireturn, 34, 0)]
def TX8_nextWanted : Q_T := [(0, .aload_n 0, 1, 0), (1, .getfield 10, 4, 0), (4, .invokevirtual 319, 7, 0), (7, .istore_n 1, 8, 0), (8, .iload_n 1, 9, 0), (9, .iconst (-1), 10, 0), (10, .if_icmp .ne 14, 13, 24), (13, .new 53, 16, 0),
  (16, .dup, 17, 0), (17, .ldc_w 359, 20, 0), (20, .invokespecial 57, 23, 0), (23, .athrow, 24, 0), (24, .iload_n 1, 25, 0), (25, .ireturn, 26, 0)]
def TL_cell : Q_T := [(0, .iload_n 1, 1, 0), (1, .aload_n 0, 2, 0), (2, .arraylength, 3, 0), (3, .if_icmp .ge 9, 6, 12), (6, .aload_n 0, 7, 0), (7, .iload_n 1, 8, 0), (8, .iaload, 9, 0), (9, .goto 15, 12, 24),
  (12, .ldc 7, 14, 0), (14, .iload_n 1, 15, 0), (15, .sipush 4096, 18, 0), (18, .irem, 19, 0), (19, .imul, 20, 0), (20, .sipush 337, 23, 0), (23, .iadd, 24, 0), (24, .ldc 8, 26, 0),
  (26, .iand, 27, 0), (27, .ireturn, 28, 0)]
def TL_acts : Q_T := [(0, .iload_n 1, 1, 0), (1, .bipush 32, 3, 0), (3, .idiv, 4, 0), (4, .istore_n 2, 5, 0), (5, .aload_n 0, 6, 0), (6, .invokevirtual 143, 9, 0), (9, .ifCond .ne 7, 12, 16), (12, .iconst 0, 13, 0),
  (13, .goto 9, 16, 22), (16, .iload_n 2, 17, 0), (17, .aload_n 0, 18, 0), (18, .invokevirtual 143, 21, 0), (21, .irem, 22, 0), (22, .istore_n 3, 23, 0), (23, .aload_n 0, 24, 0), (24, .iload_n 3, 25, 0),
  (25, .invokestatic 146, 28, 0), (28, .ifCond .ne 11, 31, 39), (31, .aload_n 0, 32, 0), (32, .iload_n 3, 33, 0), (33, .invokestatic 151, 36, 0), (36, .goto 7, 39, 43), (39, .iload_n 2, 40, 0), (40, .bipush 20, 42, 0),
  (42, .irem, 43, 0), (43, .istore 4, 45, 0), (45, .iload_n 1, 46, 0), (46, .bipush 32, 48, 0), (48, .irem, 49, 0), (49, .tableswitch 263 8 29 #[103, 103, 103, 103, 110, 145, 145, 145, 145, 159, 168, 177, 186, 197, 206, 215, 224, 237, 237, 237, 237, 237], 152, 0), (152, .aload_n 0, 153, 0), (153, .iload 4, 155, 0),
  (155, .invokestatic 154, 158, 0), (158, .ireturn, 159, 0), (159, .aload_n 0, 160, 0), (160, .aload_n 0, 161, 0), (161, .invokevirtual 157, 164, 0), (164, .ifCond .le 22, 167, 186), (167, .iload_n 2, 168, 0), (168, .iconst 3, 169, 0),
  (169, .irem, 170, 0), (170, .ifCond .le 16, 173, 186), (173, .aload_n 0, 174, 0), (174, .iload_n 2, 175, 0), (175, .aload_n 0, 176, 0), (176, .invokevirtual 157, 179, 0), (179, .irem, 180, 0), (180, .invokestatic 160, 183, 0),
  (183, .goto 7, 186, 190), (186, .iload_n 2, 187, 0), (187, .bipush 21, 189, 0), (189, .irem, 190, 0), (190, .invokestatic 163, 193, 0), (193, .ireturn, 194, 0), (194, .aload_n 0, 195, 0), (195, .iload 4, 197, 0),
  (197, .iload_n 2, 198, 0), (198, .bipush 20, 200, 0), (200, .idiv, 201, 0), (201, .bipush 12, 203, 0), (203, .irem, 204, 0), (204, .invokestatic 165, 207, 0), (207, .ireturn, 208, 0), (208, .aload_n 0, 209, 0),
  (209, .iload_n 2, 210, 0), (210, .bipush 13, 212, 0), (212, .irem, 213, 0), (213, .invokestatic 168, 216, 0), (216, .ireturn, 217, 0), (217, .aload_n 0, 218, 0), (218, .iload_n 2, 219, 0), (219, .bipush 13, 221, 0),
  (221, .irem, 222, 0), (222, .invokestatic 171, 225, 0), (225, .ireturn, 226, 0), (226, .aload_n 0, 227, 0), (227, .iload_n 2, 228, 0), (228, .bipush 8, 230, 0), (230, .irem, 231, 0), (231, .invokestatic 174, 234, 0),
  (234, .ireturn, 235, 0), (235, .aload_n 0, 236, 0), (236, .iconst 4, 237, 0), (237, .iload_n 2, 238, 0), (238, .bipush 60, 240, 0), (240, .irem, 241, 0), (241, .iadd, 242, 0), (242, .invokestatic 177, 245, 0),
  (245, .ireturn, 246, 0), (246, .aload_n 0, 247, 0), (247, .iload_n 2, 248, 0), (248, .bipush 40, 250, 0), (250, .irem, 251, 0), (251, .invokestatic 180, 254, 0), (254, .ireturn, 255, 0), (255, .aload_n 0, 256, 0),
  (256, .iload_n 2, 257, 0), (257, .bipush 60, 259, 0), (259, .irem, 260, 0), (260, .invokestatic 183, 263, 0), (263, .ireturn, 264, 0), (264, .aload_n 0, 265, 0), (265, .iload_n 2, 266, 0), (266, .bipush 40, 268, 0),
  (268, .irem, 269, 0), (269, .invokestatic 186, 272, 0), (272, .ireturn, 273, 0), (273, .aload_n 0, 274, 0), (274, .invokevirtual 189, 277, 0), (277, .ifCond .eq 7, 280, 284), (280, .iconst 1, 281, 0), (281, .goto 4, 284, 285),
  (284, .iconst 0, 285, 0), (285, .ireturn, 286, 0), (286, .aload_n 0, 287, 0), (287, .iload_n 2, 288, 0), (288, .iconst 4, 289, 0), (289, .irem, 290, 0), (290, .ifCond .ne 12, 293, 302), (293, .iload_n 2, 294, 0),
  (294, .iconst 4, 295, 0), (295, .idiv, 296, 0), (296, .bipush 101, 298, 0), (298, .irem, 299, 0), (299, .goto 9, 302, 308), (302, .iload_n 2, 303, 0), (303, .iconst 4, 304, 0), (304, .idiv, 305, 0),
  (305, .bipush 9, 307, 0), (307, .irem, 308, 0), (308, .invokestatic 193, 311, 0), (311, .ireturn, 312, 0), (312, .aload_n 0, 313, 0), (313, .iload_n 2, 314, 0), (314, .bipush 21, 316, 0), (316, .irem, 317, 0),
  (317, .iload_n 2, 318, 0), (318, .bipush 21, 320, 0), (320, .idiv, 321, 0), (321, .iconst 4, 322, 0), (322, .irem, 323, 0), (323, .invokestatic 195, 326, 0), (326, .ireturn, 327, 0)]
def TL_numbers : Q_T := [(0, .bipush 127, 2, 0), (2, .istore_n 1, 3, 0), (3, .bipush 31, 5, 0), (5, .iload_n 1, 6, 0), (6, .imul, 7, 0), (7, .aload_n 0, 8, 0), (8, .invokevirtual 197, 11, 0), (11, .iadd, 12, 0),
  (12, .bipush 7, 14, 0), (14, .aload_n 0, 15, 0), (15, .invokevirtual 200, 18, 0), (18, .imul, 19, 0), (19, .iadd, 20, 0), (20, .bipush 101, 22, 0), (22, .aload_n 0, 23, 0), (23, .invokevirtual 203, 26, 0),
  (26, .imul, 27, 0), (27, .iadd, 28, 0), (28, .istore_n 1, 29, 0), (29, .bipush 31, 31, 0), (31, .iload_n 1, 32, 0), (32, .imul, 33, 0), (33, .aload_n 0, 34, 0), (34, .invokevirtual 206, 37, 0),
  (37, .iadd, 38, 0), (38, .bipush 11, 40, 0), (40, .aload_n 0, 41, 0), (41, .invokevirtual 209, 44, 0), (44, .imul, 45, 0), (45, .iadd, 46, 0), (46, .iconst 5, 47, 0), (47, .aload_n 0, 48, 0),
  (48, .invokevirtual 212, 51, 0), (51, .imul, 52, 0), (52, .iadd, 53, 0), (53, .iconst 3, 54, 0), (54, .aload_n 0, 55, 0), (55, .invokevirtual 215, 58, 0), (58, .imul, 59, 0), (59, .iadd, 60, 0),
  (60, .aload_n 0, 61, 0), (61, .invokevirtual 218, 64, 0), (64, .iadd, 65, 0), (65, .istore_n 1, 66, 0), (66, .bipush 31, 68, 0), (68, .iload_n 1, 69, 0), (69, .imul, 70, 0), (70, .aload_n 0, 71, 0),
  (71, .invokevirtual 221, 74, 0), (74, .iadd, 75, 0), (75, .bipush 13, 77, 0), (77, .aload_n 0, 78, 0), (78, .invokevirtual 223, 81, 0), (81, .imul, 82, 0), (82, .iadd, 83, 0), (83, .bipush 97, 85, 0),
  (85, .aload_n 0, 86, 0), (86, .invokevirtual 226, 89, 0), (89, .imul, 90, 0), (90, .iadd, 91, 0), (91, .bipush 7, 93, 0), (93, .aload_n 0, 94, 0), (94, .invokevirtual 229, 97, 0), (97, .imul, 98, 0),
  (98, .iadd, 99, 0), (99, .bipush 19, 101, 0), (101, .aload_n 0, 102, 0), (102, .invokevirtual 232, 105, 0), (105, .imul, 106, 0), (106, .iadd, 107, 0), (107, .aload_n 0, 108, 0), (108, .invokevirtual 235, 111, 0),
  (111, .iadd, 112, 0), (112, .aload_n 0, 113, 0), (113, .invokevirtual 238, 116, 0), (116, .ifCond .eq 9, 119, 125), (119, .sipush 1000, 122, 0), (122, .goto 4, 125, 126), (125, .iconst 0, 126, 0), (126, .iadd, 127, 0),
  (127, .istore_n 1, 128, 0), (128, .iconst 0, 129, 0), (129, .istore_n 2, 130, 0), (130, .iload_n 2, 131, 0), (131, .aload_n 0, 132, 0), (132, .invokevirtual 143, 135, 0), (135, .if_icmp .ge 79, 138, 214), (138, .iload_n 2, 139, 0),
  (139, .bipush 12, 141, 0), (141, .if_icmp .ge 73, 144, 214), (144, .bipush 31, 146, 0), (146, .iload_n 1, 147, 0), (147, .imul, 148, 0), (148, .aload_n 0, 149, 0), (149, .iload_n 2, 150, 0), (150, .invokestatic 241, 153, 0),
  (153, .iadd, 154, 0), (154, .bipush 13, 156, 0), (156, .aload_n 0, 157, 0), (157, .iload_n 2, 158, 0), (158, .invokestatic 243, 161, 0), (161, .imul, 162, 0), (162, .iadd, 163, 0), (163, .iconst 2, 164, 0),
  (164, .aload_n 0, 165, 0), (165, .iload_n 2, 166, 0), (166, .invokestatic 146, 169, 0), (169, .imul, 170, 0), (170, .iadd, 171, 0), (171, .aload_n 0, 172, 0), (172, .iload_n 2, 173, 0), (173, .invokestatic 246, 176, 0),
  (176, .iadd, 177, 0), (177, .iconst 5, 178, 0), (178, .aload_n 0, 179, 0), (179, .iload_n 2, 180, 0), (180, .invokestatic 248, 183, 0), (183, .imul, 184, 0), (184, .iadd, 185, 0), (185, .aload_n 0, 186, 0),
  (186, .iload_n 2, 187, 0), (187, .invokestatic 146, 190, 0), (190, .iconst 1, 191, 0), (191, .if_icmp .ne 14, 194, 205), (194, .bipush 17, 196, 0), (196, .aload_n 0, 197, 0), (197, .iload_n 2, 198, 0), (198, .invokestatic 251, 201, 0),
  (201, .imul, 202, 0), (202, .goto 4, 205, 206), (205, .iconst 0, 206, 0), (206, .iadd, 207, 0), (207, .istore_n 1, 208, 0), (208, .iinc 2 1, 211, 0), (211, .goto (-81), 214, 130), (214, .iconst 0, 215, 0),
  (215, .istore_n 2, 216, 0), (216, .iload_n 2, 217, 0), (217, .bipush 20, 219, 0), (219, .if_icmp .ge 49, 222, 268), (222, .bipush 31, 224, 0), (224, .iload_n 1, 225, 0), (225, .imul, 226, 0), (226, .aload_n 0, 227, 0),
  (227, .iload_n 2, 228, 0), (228, .invokestatic 254, 231, 0), (231, .iadd, 232, 0), (232, .iconst 2, 233, 0), (233, .aload_n 0, 234, 0), (234, .iload_n 2, 235, 0), (235, .invokestatic 256, 238, 0), (238, .imul, 239, 0),
  (239, .iadd, 240, 0), (240, .aload_n 0, 241, 0), (241, .iload_n 2, 242, 0), (242, .invokestatic 256, 245, 0), (245, .iconst 1, 246, 0), (246, .if_icmp .ne 13, 249, 259), (249, .iconst 4, 250, 0), (250, .aload_n 0, 251, 0),
  (251, .iload_n 2, 252, 0), (252, .invokestatic 258, 255, 0), (255, .imul, 256, 0), (256, .goto 4, 259, 260), (259, .iconst 0, 260, 0), (260, .iadd, 261, 0), (261, .istore_n 1, 262, 0), (262, .iinc 2 1, 265, 0),
  (265, .goto (-49), 268, 216), (268, .iload_n 1, 269, 0), (269, .ireturn, 270, 0)]
def TL_hangs_0 : Q_T := [(0, .iconst 0, 1, 0), (1, .istore_n 1, 2, 0), (2, .iconst 0, 3, 0), (3, .istore_n 2, 4, 0), (4, .iconst 0, 5, 0), (5, .istore_n 3, 6, 0), (6, .aload_n 0, 7, 0), (7, .invokevirtual 143, 10, 0),
  (10, .aload_n 0, 11, 0), (11, .invokevirtual 260, 14, 0), (14, .if_icmp .ne 54, 17, 68), (17, .aload_n 0, 18, 0), (18, .invokevirtual 143, 21, 0), (21, .bipush 12, 23, 0), (23, .if_icmp .gt 45, 26, 68), (26, .aload_n 0, 27, 0),
  (27, .invokevirtual 263, 30, 0), (30, .aload_n 0, 31, 0), (31, .invokevirtual 266, 34, 0), (34, .if_icmp .ne 34, 37, 68), (37, .aload_n 0, 38, 0), (38, .invokevirtual 269, 41, 0), (41, .aload_n 0, 42, 0), (42, .invokevirtual 263, 45, 0),
  (45, .iadd, 46, 0), (46, .aload_n 0, 47, 0), (47, .invokevirtual 143, 50, 0), (50, .if_icmp .ne 18, 53, 68), (53, .aload_n 0, 54, 0), (54, .invokevirtual 206, 57, 0), (57, .aload_n 0, 58, 0), (58, .invokevirtual 203, 61, 0),
  (61, .if_icmp .gt 7, 64, 68), (64, .iconst 1, 65, 0), (65, .goto 4, 68, 69), (68, .iconst 0, 69, 0), (69, .istore 4, 71, 0), (71, .iconst 0, 72, 0), (72, .istore 5, 74, 0), (74, .iload 5, 76, 0),
  (76, .iconst 5, 77, 0), (77, .if_icmp .ge 18, 80, 95), (80, .iload_n 2, 81, 0), (81, .aload_n 0, 82, 0), (82, .iload 5, 84, 0), (84, .invokestatic 272, 87, 0), (87, .iadd, 88, 0), (88, .istore_n 2, 89, 0),
  (89, .iinc 5 1, 92, 0), (92, .goto (-18), 95, 74), (95, .iconst 0, 96, 0), (96, .istore 5, 98, 0), (98, .iload 5, 100, 0), (100, .aload_n 0, 101, 0), (101, .invokevirtual 143, 104, 0), (104, .if_icmp .ge 299, 107, 403),
  (107, .iload 4, 109, 0), (109, .ifCond .eq 294, 112, 403), (112, .aload_n 0, 113, 0), (113, .iload 5, 115, 0), (115, .invokestatic 146, 118, 0), (118, .iconst 1, 119, 0), (119, .if_icmp .ne 7, 122, 126), (122, .iconst 1, 123, 0),
  (123, .goto 4, 126, 127), (126, .iconst 0, 127, 0), (127, .istore 6, 129, 0), (129, .iload_n 1, 130, 0), (130, .iload 6, 132, 0), (132, .ifCond .eq 7, 135, 139), (135, .iconst 1, 136, 0), (136, .goto 4, 139, 140),
  (139, .iconst 0, 140, 0), (140, .iadd, 141, 0), (141, .istore_n 1, 142, 0), (142, .iload 5, 144, 0), (144, .ifCond .eq 20, 147, 164), (147, .aload_n 0, 148, 0), (148, .iload 5, 150, 0), (150, .invokestatic 241, 153, 0),
  (153, .aload_n 0, 154, 0), (154, .iload 5, 156, 0), (156, .iconst 1, 157, 0), (157, .isub, 158, 0), (158, .invokestatic 241, 161, 0), (161, .if_icmp .le 161, 164, 322), (164, .aload_n 0, 165, 0), (165, .iload 5, 167, 0),
  (167, .invokestatic 241, 170, 0), (170, .aload_n 0, 171, 0), (171, .invokevirtual 200, 174, 0), (174, .if_icmp .gt 148, 177, 322), (177, .aload_n 0, 178, 0), (178, .iload 5, 180, 0), (180, .invokestatic 274, 183, 0), (183, .aload_n 0, 184, 0),
  (184, .iload 5, 186, 0), (186, .invokestatic 243, 189, 0), (189, .if_icmp .lt 133, 192, 322), (192, .aload_n 0, 193, 0), (193, .iload 5, 195, 0), (195, .invokestatic 243, 198, 0), (198, .ifCond .lt 124, 201, 322), (201, .aload_n 0, 202, 0),
  (202, .iload 5, 204, 0), (204, .invokestatic 248, 207, 0), (207, .iconst 4, 208, 0), (208, .if_icmp .gt 114, 211, 322), (211, .iload 6, 213, 0), (213, .ifCond .eq 70, 216, 283), (216, .aload_n 0, 217, 0), (217, .iload 5, 219, 0),
  (219, .invokestatic 151, 222, 0), (222, .ldc 20, 224, 0), (224, .if_icmp .ne 98, 227, 322), (227, .aload_n 0, 228, 0), (228, .iload 5, 230, 0), (230, .invokestatic 251, 233, 0), (233, .ifCond .lt 89, 236, 322), (236, .aload_n 0, 237, 0),
  (237, .iload 5, 239, 0), (239, .invokestatic 251, 242, 0), (242, .aload_n 0, 243, 0), (243, .invokevirtual 269, 246, 0), (246, .if_icmp .ge 76, 249, 322), (249, .aload_n 0, 250, 0), (250, .iload 5, 252, 0), (252, .invokestatic 251, 255, 0),
  (255, .ifCond .ne 7, 258, 262), (258, .iconst 1, 259, 0), (259, .goto 4, 262, 263), (262, .iconst 0, 263, 0), (263, .aload_n 0, 264, 0), (264, .invokestatic 276, 267, 0), (267, .iload 5, 269, 0), (269, .if_icmp .ne 7, 272, 276),
  (272, .iconst 1, 273, 0), (273, .goto 4, 276, 277), (276, .iconst 0, 277, 0), (277, .if_icmp .ne 45, 280, 322), (280, .goto 38, 283, 318), (283, .aload_n 0, 284, 0), (284, .iload 5, 286, 0), (286, .invokestatic 251, 289, 0),
  (289, .ldc 20, 291, 0), (291, .if_icmp .ne 31, 294, 322), (294, .aload_n 0, 295, 0), (295, .aload_n 0, 296, 0), (296, .iload 5, 298, 0), (298, .invokestatic 151, 301, 0), (301, .invokestatic 279, 304, 0), (304, .iload 5, 306, 0),
  (306, .if_icmp .ne 16, 309, 322), (309, .aload_n 0, 310, 0), (310, .iload 5, 312, 0), (312, .invokestatic 282, 315, 0), (315, .ifCond .le 7, 318, 322), (318, .iconst 1, 319, 0), (319, .goto 4, 322, 323), (322, .iconst 0, 323, 0),
  (323, .istore 4, 325, 0), (325, .iconst 0, 326, 0), (326, .istore 7, 328, 0), (328, .iload 7, 330, 0), (330, .aload_n 0, 331, 0), (331, .iload 5, 333, 0), (333, .invokestatic 248, 336, 0), (336, .if_icmp .ge 61, 339, 397),
  (339, .iload 4, 341, 0), (341, .ifCond .eq 56, 344, 397), (344, .iconst 0, 345, 0), (345, .istore 8, 347, 0), (347, .iload 8, 349, 0), (349, .iload 7, 351, 0), (351, .if_icmp .ge 40, 354, 391), (354, .iload 4, 356, 0),
  (356, .ifCond .eq 26, 359, 382), (359, .aload_n 0, 360, 0), (360, .iload 5, 362, 0), (362, .iload 8, 364, 0), (364, .invokestatic 285, 367, 0), (367, .aload_n 0, 368, 0), (368, .iload 5, 370, 0), (370, .iload 7, 372, 0),
  (372, .invokestatic 285, 375, 0), (375, .if_icmp .eq 7, 378, 382), (378, .iconst 1, 379, 0), (379, .goto 4, 382, 383), (382, .iconst 0, 383, 0), (383, .istore 4, 385, 0), (385, .iinc 8 1, 388, 0), (388, .goto (-41), 391, 347),
  (391, .iinc 7 1, 394, 0), (394, .goto (-66), 397, 328), (397, .iinc 5 1, 400, 0), (400, .goto (-302), 403, 98), (403, .iconst 0, 404, 0), (404, .istore 5, 406, 0), (406, .iload 5, 408, 0), (408, .bipush 20, 410, 0)]
def TL_hangs_1 : Q_T := [(410, .if_icmp .ge 103, 413, 513), (413, .iload 4, 415, 0), (415, .ifCond .eq 98, 418, 513), (418, .iload_n 3, 419, 0), (419, .aload_n 0, 420, 0), (420, .iload 5, 422, 0), (422, .invokestatic 254, 425, 0), (425, .iadd, 426, 0),
  (426, .istore_n 3, 427, 0), (427, .aload_n 0, 428, 0), (428, .iload 5, 430, 0), (430, .invokestatic 254, 433, 0), (433, .ifCond .eq 12, 436, 445), (436, .aload_n 0, 437, 0), (437, .iload 5, 439, 0), (439, .invokestatic 256, 442, 0),
  (442, .ifCond .ne 62, 445, 504), (445, .aload_n 0, 446, 0), (446, .iload 5, 448, 0), (448, .invokestatic 256, 451, 0), (451, .ifCond .eq 18, 454, 469), (454, .aload_n 0, 455, 0), (455, .aload_n 0, 456, 0), (456, .iload 5, 458, 0),
  (458, .invokestatic 258, 461, 0), (461, .invokestatic 160, 464, 0), (464, .iload 5, 466, 0), (466, .if_icmp .ne 38, 469, 504), (469, .aload_n 0, 470, 0), (470, .iload 5, 472, 0), (472, .invokestatic 254, 475, 0), (475, .ifCond .eq 25, 478, 500),
  (478, .aload_n 0, 479, 0), (479, .iload 5, 481, 0), (481, .invokestatic 288, 484, 0), (484, .iconst 1, 485, 0), (485, .if_icmp .lt 19, 488, 504), (488, .aload_n 0, 489, 0), (489, .iload 5, 491, 0), (491, .invokestatic 288, 494, 0),
  (494, .sipush 999, 497, 0), (497, .if_icmp .gt 7, 500, 504), (500, .iconst 1, 501, 0), (501, .goto 4, 504, 505), (504, .iconst 0, 505, 0), (505, .istore 4, 507, 0), (507, .iinc 5 1, 510, 0), (510, .goto (-104), 513, 406),
  (513, .iload 4, 515, 0), (515, .ifCond .eq 52, 518, 567), (518, .iload_n 1, 519, 0), (519, .aload_n 0, 520, 0), (520, .invokevirtual 269, 523, 0), (523, .if_icmp .ne 44, 526, 567), (526, .iload_n 2, 527, 0), (527, .aload_n 0, 528, 0),
  (528, .invokevirtual 200, 531, 0), (531, .aload_n 0, 532, 0), (532, .invokevirtual 143, 535, 0), (535, .isub, 536, 0), (536, .if_icmp .ne 31, 539, 567), (539, .iload_n 3, 540, 0), (540, .aload_n 0, 541, 0), (541, .invokevirtual 266, 544, 0),
  (544, .if_icmp .ne 23, 547, 567), (547, .aload_n 0, 548, 0), (548, .invokevirtual 269, 551, 0), (551, .ifCond .gt 12, 554, 563), (554, .aload_n 0, 555, 0), (555, .invokestatic 276, 558, 0), (558, .ldc 17, 560, 0), (560, .if_icmp .ne 7, 563, 567),
  (563, .iconst 1, 564, 0), (564, .goto 4, 567, 568), (567, .iconst 0, 568, 0), (568, .istore 4, 570, 0), (570, .iload 4, 572, 0), (572, .ifCond .eq 52, 575, 624), (575, .aload_n 0, 576, 0), (576, .invokevirtual 157, 579, 0),
  (579, .ifCond .le 45, 582, 624), (582, .aload_n 0, 583, 0), (583, .aload_n 0, 584, 0), (584, .iconst 0, 585, 0), (585, .invokestatic 160, 588, 0), (588, .invokestatic 290, 591, 0), (591, .istore 5, 593, 0), (593, .iload 5, 595, 0),
  (595, .ifCond .lt 26, 598, 621), (598, .iload 5, 600, 0), (600, .bipush 99, 602, 0), (602, .if_icmp .gt 19, 605, 621), (605, .aload_n 0, 606, 0), (606, .aload_n 0, 607, 0), (607, .iconst 0, 608, 0), (608, .invokestatic 160, 611, 0),
  (611, .invokestatic 293, 614, 0), (614, .ifCond .lt 7, 617, 621), (617, .iconst 1, 618, 0), (618, .goto 4, 621, 622), (621, .iconst 0, 622, 0), (622, .istore 4, 624, 0), (624, .iload 4, 626, 0), (626, .ifCond .eq 28, 629, 654),
  (629, .aload_n 0, 630, 0), (630, .iconst 3, 631, 0), (631, .invokestatic 295, 634, 0), (634, .aload_n 0, 635, 0), (635, .invokevirtual 269, 638, 0), (638, .if_icmp .gt 16, 641, 654), (641, .aload_n 0, 642, 0), (642, .invokevirtual 297, 645, 0),
  (645, .dconst 1, 646, 0), (646, .dcmp .g, 647, 0), (647, .ifCond .gt 7, 650, 654), (650, .iconst 1, 651, 0), (651, .goto 4, 654, 655), (654, .iconst 0, 655, 0), (655, .ireturn, 656, 0)]
def TL_hangs : Q_T := TL_hangs_0 ++ (TL_hangs_1)
def TL_ask : Q_T := [(0, .aload_n 0, 1, 0), (1, .iload_n 1, 2, 0), (2, .iload_n 2, 3, 0), (3, .invokevirtual 9, 6, 0), (6, .ifCond .eq 7, 9, 13), (9, .iconst 1, 10, 0), (10, .goto 4, 13, 14), (13, .iconst 0, 14, 0),
  (14, .ireturn, 15, 0), (15, .astore_n 3, 16, 0), (16, .ldc 17, 18, 0), (18, .ireturn, 19, 0), (19, .astore_n 3, 20, 0), (20, .ldc 20, 22, 0), (22, .ireturn, 23, 0), (23, .astore_n 3, 24, 0),
  (24, .ldc 23, 26, 0), (26, .ireturn, 27, 0)]
def TL_give : Q_T := [(0, .aload_n 0, 1, 0), (1, .iload_n 1, 2, 0), (2, .invokevirtual 24, 5, 0), (5, .ifCond .eq 7, 8, 12), (8, .iconst 1, 9, 0), (9, .goto 4, 12, 13), (12, .iconst 0, 13, 0), (13, .ireturn, 14, 0),
  (14, .astore_n 2, 15, 0), (15, .ldc 17, 17, 0), (17, .ireturn, 18, 0), (18, .astore_n 2, 19, 0), (19, .ldc 20, 21, 0), (21, .ireturn, 22, 0)]
def TL_leave : Q_T := [(0, .aload_n 0, 1, 0), (1, .iload_n 1, 2, 0), (2, .invokevirtual 28, 5, 0), (5, .ireturn, 6, 0), (6, .astore_n 2, 7, 0), (7, .ldc 17, 9, 0), (9, .ireturn, 10, 0), (10, .astore_n 2, 11, 0),
  (11, .ldc 20, 13, 0), (13, .ireturn, 14, 0)]
def TL_use : Q_T := [(0, .aload_n 0, 1, 0), (1, .iload_n 1, 2, 0), (2, .iload_n 2, 3, 0), (3, .invokevirtual 32, 6, 0), (6, .ifCond .eq 7, 9, 13), (9, .iconst 1, 10, 0), (10, .goto 4, 13, 14), (13, .iconst 0, 14, 0),
  (14, .ireturn, 15, 0), (15, .astore_n 3, 16, 0), (16, .ldc 17, 18, 0), (18, .ireturn, 19, 0), (19, .astore_n 3, 20, 0), (20, .ldc 20, 22, 0), (22, .ireturn, 23, 0), (23, .astore_n 3, 24, 0),
  (24, .ldc 23, 26, 0), (26, .ireturn, 27, 0)]
def TL_breaks : Q_T := [(0, .aload_n 0, 1, 0), (1, .iload_n 1, 2, 0), (2, .invokevirtual 35, 5, 0), (5, .ifCond .eq 7, 8, 12), (8, .iconst 1, 9, 0), (9, .goto 4, 12, 13), (12, .iconst 0, 13, 0), (13, .ireturn, 14, 0),
  (14, .astore_n 2, 15, 0), (15, .ldc 17, 17, 0), (17, .ireturn, 18, 0)]
def TL_tick : Q_T := [(0, .aload_n 0, 1, 0), (1, .iload_n 1, 2, 0), (2, .invokevirtual 38, 5, 0), (5, .ireturn, 6, 0), (6, .astore_n 2, 7, 0), (7, .ldc 17, 9, 0), (9, .ireturn, 10, 0)]
def TL_most : Q_T := [(0, .aload_n 0, 1, 0), (1, .iload_n 1, 2, 0), (2, .invokevirtual 41, 5, 0), (5, .ireturn, 6, 0), (6, .astore_n 2, 7, 0), (7, .ldc 17, 9, 0), (9, .ireturn, 10, 0)]
def TL_idles : Q_T := [(0, .aload_n 0, 1, 0), (1, .iload_n 1, 2, 0), (2, .invokevirtual 44, 5, 0), (5, .ireturn, 6, 0), (6, .astore_n 2, 7, 0), (7, .ldc 17, 9, 0), (9, .ireturn, 10, 0)]
def TL_ages : Q_T := [(0, .aload_n 0, 1, 0), (1, .iload_n 1, 2, 0), (2, .invokevirtual 47, 5, 0), (5, .ireturn, 6, 0), (6, .astore_n 2, 7, 0), (7, .ldc 17, 9, 0), (9, .ireturn, 10, 0)]
def TL_rests : Q_T := [(0, .aload_n 0, 1, 0), (1, .iload_n 1, 2, 0), (2, .invokevirtual 50, 5, 0), (5, .ireturn, 6, 0), (6, .astore_n 2, 7, 0), (7, .ldc 17, 9, 0), (9, .ireturn, 10, 0)]
def TL_leases : Q_T := [(0, .aload_n 0, 1, 0), (1, .iload_n 1, 2, 0), (2, .invokevirtual 53, 5, 0), (5, .ireturn, 6, 0), (6, .astore_n 2, 7, 0), (7, .ldc 17, 9, 0), (9, .ireturn, 10, 0)]
def TL_waits : Q_T := [(0, .aload_n 0, 1, 0), (1, .iload_n 1, 2, 0), (2, .invokevirtual 56, 5, 0), (5, .ireturn, 6, 0), (6, .astore_n 2, 7, 0), (7, .ldc 17, 9, 0), (9, .ireturn, 10, 0)]
def TL_keep : Q_T := [(0, .aload_n 0, 1, 0), (1, .iload_n 1, 2, 0), (2, .invokevirtual 66, 5, 0), (5, .iconst 0, 6, 0), (6, .ireturn, 7, 0), (7, .astore_n 2, 8, 0), (8, .ldc 17, 10, 0), (10, .ireturn, 11, 0)]
def TL_back : Q_T := [(0, .aload_n 0, 1, 0), (1, .iload_n 1, 2, 0), (2, .invokevirtual 70, 5, 0), (5, .iconst 0, 6, 0), (6, .ireturn, 7, 0), (7, .astore_n 2, 8, 0), (8, .ldc 17, 10, 0), (10, .ireturn, 11, 0),
  (11, .astore_n 2, 12, 0), (12, .ldc 20, 14, 0), (14, .ireturn, 15, 0)]
def TL_undo : Q_T := [(0, .aload_n 0, 1, 0), (1, .invokevirtual 73, 4, 0), (4, .iconst 0, 5, 0), (5, .ireturn, 6, 0), (6, .astore_n 1, 7, 0), (7, .ldc 17, 9, 0), (9, .ireturn, 10, 0)]
def TL_numberAt : Q_T := [(0, .aload_n 0, 1, 0), (1, .iload_n 1, 2, 0), (2, .invokevirtual 76, 5, 0), (5, .ireturn, 6, 0), (6, .astore_n 2, 7, 0), (7, .ldc 17, 9, 0), (9, .ireturn, 10, 0)]
def TL_ageAt : Q_T := [(0, .aload_n 0, 1, 0), (1, .iload_n 1, 2, 0), (2, .invokevirtual 79, 5, 0), (5, .ireturn, 6, 0), (6, .astore_n 2, 7, 0), (7, .ldc 17, 9, 0), (9, .ireturn, 10, 0)]
def TL_isIdle : Q_T := [(0, .aload_n 0, 1, 0), (1, .iload_n 1, 2, 0), (2, .invokevirtual 82, 5, 0), (5, .ifCond .eq 7, 8, 12), (8, .iconst 1, 9, 0), (9, .goto 4, 12, 13), (12, .iconst 0, 13, 0), (13, .ireturn, 14, 0),
  (14, .astore_n 2, 15, 0), (15, .ldc 17, 17, 0), (17, .ireturn, 18, 0)]
def TL_isBroken : Q_T := [(0, .aload_n 0, 1, 0), (1, .iload_n 1, 2, 0), (2, .invokevirtual 85, 5, 0), (5, .ifCond .eq 7, 8, 12), (8, .iconst 1, 9, 0), (9, .goto 4, 12, 13), (12, .iconst 0, 13, 0), (13, .ireturn, 14, 0),
  (14, .astore_n 2, 15, 0), (15, .ldc 17, 17, 0), (17, .ireturn, 18, 0)]
def TL_who : Q_T := [(0, .aload_n 0, 1, 0), (1, .iload_n 1, 2, 0), (2, .invokevirtual 88, 5, 0), (5, .ireturn, 6, 0), (6, .astore_n 2, 7, 0), (7, .ldc 17, 9, 0), (9, .ireturn, 10, 0), (10, .astore_n 2, 11, 0),
  (11, .ldc 20, 13, 0), (13, .ireturn, 14, 0)]
def TL_since : Q_T := [(0, .aload_n 0, 1, 0), (1, .iload_n 1, 2, 0), (2, .invokevirtual 91, 5, 0), (5, .ireturn, 6, 0), (6, .astore_n 2, 7, 0), (7, .ldc 17, 9, 0), (9, .ireturn, 10, 0)]
def TL_turn : Q_T := [(0, .aload_n 0, 1, 0), (1, .iload_n 1, 2, 0), (2, .invokevirtual 94, 5, 0), (5, .ireturn, 6, 0), (6, .astore_n 2, 7, 0), (7, .ldc 17, 9, 0), (9, .ireturn, 10, 0), (10, .astore_n 2, 11, 0),
  (11, .ldc 20, 13, 0), (13, .ireturn, 14, 0)]
def TL_lent : Q_T := [(0, .aload_n 0, 1, 0), (1, .iload_n 1, 2, 0), (2, .invokevirtual 97, 5, 0), (5, .ireturn, 6, 0), (6, .astore_n 2, 7, 0), (7, .ldc 17, 9, 0), (9, .ireturn, 10, 0)]
def TL_nuts : Q_T := [(0, .aload_n 0, 1, 0), (1, .iload_n 1, 2, 0), (2, .invokevirtual 100, 5, 0), (5, .ireturn, 6, 0), (6, .astore_n 2, 7, 0), (7, .ldc 17, 9, 0), (9, .ireturn, 10, 0)]
def TL_nut : Q_T := [(0, .aload_n 0, 1, 0), (1, .iload_n 1, 2, 0), (2, .iload_n 2, 3, 0), (3, .invokevirtual 103, 6, 0), (6, .ireturn, 7, 0), (7, .astore_n 3, 8, 0), (8, .ldc 17, 10, 0), (10, .ireturn, 11, 0)]
def TL_nextLent : Q_T := [(0, .aload_n 0, 1, 0), (1, .invokevirtual 107, 4, 0), (4, .ireturn, 5, 0), (5, .astore_n 1, 6, 0), (6, .ldc 17, 8, 0), (8, .ireturn, 9, 0)]
def TL_has : Q_T := [(0, .aload_n 0, 1, 0), (1, .iload_n 1, 2, 0), (2, .invokevirtual 110, 5, 0), (5, .ifCond .eq 7, 8, 12), (8, .iconst 1, 9, 0), (9, .goto 4, 12, 13), (12, .iconst 0, 13, 0), (13, .ireturn, 14, 0),
  (14, .astore_n 2, 15, 0), (15, .ldc 17, 17, 0), (17, .ireturn, 18, 0)]
def TL_place : Q_T := [(0, .aload_n 0, 1, 0), (1, .iload_n 1, 2, 0), (2, .invokevirtual 113, 5, 0), (5, .ireturn, 6, 0), (6, .astore_n 2, 7, 0), (7, .ldc 17, 9, 0), (9, .ireturn, 10, 0), (10, .astore_n 2, 11, 0),
  (11, .ldc 20, 13, 0), (13, .ireturn, 14, 0)]
def TL_leaseLeft : Q_T := [(0, .aload_n 0, 1, 0), (1, .iload_n 1, 2, 0), (2, .invokevirtual 116, 5, 0), (5, .ireturn, 6, 0), (6, .astore_n 2, 7, 0), (7, .ldc 17, 9, 0), (9, .ireturn, 10, 0), (10, .astore_n 2, 11, 0),
  (11, .ldc 20, 13, 0), (13, .ireturn, 14, 0)]
def TL_waiting : Q_T := [(0, .aload_n 0, 1, 0), (1, .iload_n 1, 2, 0), (2, .invokevirtual 119, 5, 0), (5, .ifCond .eq 7, 8, 12), (8, .iconst 1, 9, 0), (9, .goto 4, 12, 13), (12, .iconst 0, 13, 0), (13, .ireturn, 14, 0),
  (14, .astore_n 2, 15, 0), (15, .ldc 17, 17, 0), (17, .ireturn, 18, 0)]
def TL_waitOf : Q_T := [(0, .aload_n 0, 1, 0), (1, .iload_n 1, 2, 0), (2, .invokevirtual 122, 5, 0), (5, .ireturn, 6, 0), (6, .astore_n 2, 7, 0), (7, .ldc 17, 9, 0), (9, .ireturn, 10, 0), (10, .astore_n 2, 11, 0),
  (11, .ldc 20, 13, 0), (13, .ireturn, 14, 0)]
def TL_queueOf : Q_T := [(0, .aload_n 0, 1, 0), (1, .iload_n 1, 2, 0), (2, .invokevirtual 125, 5, 0), (5, .ireturn, 6, 0), (6, .astore_n 2, 7, 0), (7, .ldc 17, 9, 0), (9, .ireturn, 10, 0), (10, .astore_n 2, 11, 0),
  (11, .ldc 20, 13, 0), (13, .ireturn, 14, 0)]
def TL_waiter : Q_T := [(0, .aload_n 0, 1, 0), (1, .iload_n 1, 2, 0), (2, .invokevirtual 128, 5, 0), (5, .ireturn, 6, 0), (6, .astore_n 2, 7, 0), (7, .ldc 17, 9, 0), (9, .ireturn, 10, 0)]
def TL_closedFor : Q_T := [(0, .aload_n 0, 1, 0), (1, .iload_n 1, 2, 0), (2, .invokevirtual 131, 5, 0), (5, .ireturn, 6, 0), (6, .astore_n 2, 7, 0), (7, .ldc 17, 9, 0), (9, .ireturn, 10, 0)]
def TL_toServe : Q_T := [(0, .aload_n 0, 1, 0), (1, .iload_n 1, 2, 0), (2, .invokevirtual 134, 5, 0), (5, .ireturn, 6, 0), (6, .astore_n 2, 7, 0), (7, .ldc 17, 9, 0), (9, .ireturn, 10, 0), (10, .astore_n 2, 11, 0),
  (11, .ldc 20, 13, 0), (13, .ireturn, 14, 0)]
def TL_idleWith : Q_T := [(0, .aload_n 0, 1, 0), (1, .iload_n 1, 2, 0), (2, .invokevirtual 140, 5, 0), (5, .ireturn, 6, 0), (6, .astore_n 2, 7, 0), (7, .ldc 17, 9, 0), (9, .ireturn, 10, 0)]
def TL_law : Q_T := [(0, .new 10, 3, 0), (3, .dup, 4, 0), (4, .invokespecial 301, 7, 0), (7, .astore_n 1, 8, 0), (8, .aload_n 1, 9, 0), (9, .invokestatic 302, 12, 0), (12, .ldc 17, 14, 0), (14, .if_icmp .ne 34, 17, 48),
  (17, .aload_n 1, 18, 0), (18, .iconst 1, 19, 0), (19, .invokestatic 304, 22, 0), (22, .ldc 20, 24, 0), (24, .if_icmp .ne 24, 27, 48), (27, .aload_n 1, 28, 0), (28, .iconst (-1), 29, 0), (29, .invokestatic 307, 32, 0),
  (32, .ldc 17, 34, 0), (34, .if_icmp .ne 14, 37, 48), (37, .aload_n 1, 38, 0), (38, .invokestatic 309, 41, 0), (41, .ifCond .eq 7, 44, 48), (44, .iconst 1, 45, 0), (45, .goto 4, 48, 49), (48, .iconst 0, 49, 0),
  (49, .istore_n 2, 50, 0), (50, .iconst 0, 51, 0), (51, .istore_n 3, 52, 0), (52, .iload_n 3, 53, 0), (53, .bipush 60, 55, 0), (55, .if_icmp .ge 221, 58, 276), (58, .iload_n 2, 59, 0), (59, .ifCond .eq 217, 62, 276),
  (62, .iload_n 3, 63, 0), (63, .iconst 5, 64, 0), (64, .if_icmp .ge 17, 67, 81), (67, .aload_n 0, 68, 0), (68, .iload_n 3, 69, 0), (69, .invokestatic 313, 72, 0), (72, .bipush 32, 74, 0), (74, .idiv, 75, 0),
  (75, .bipush 32, 77, 0), (77, .imul, 78, 0), (78, .goto 8, 81, 86), (81, .aload_n 0, 82, 0), (82, .iload_n 3, 83, 0), (83, .invokestatic 313, 86, 0), (86, .istore 4, 88, 0), (88, .aload_n 1, 89, 0),
  (89, .invokestatic 317, 92, 0), (92, .istore 5, 94, 0), (94, .aload_n 1, 95, 0), (95, .invokevirtual 320, 98, 0), (98, .istore 6, 100, 0), (100, .aload_n 1, 101, 0), (101, .iload 4, 103, 0), (103, .invokestatic 323, 106, 0),
  (106, .istore 7, 108, 0), (108, .iload 7, 110, 0), (110, .ifCond .ge 30, 113, 140), (113, .aload_n 1, 114, 0), (114, .invokestatic 317, 117, 0), (117, .iload 5, 119, 0), (119, .if_icmp .ne 16, 122, 135), (122, .aload_n 1, 123, 0),
  (123, .invokevirtual 320, 126, 0), (126, .iload 6, 128, 0), (128, .if_icmp .ne 7, 131, 135), (131, .iconst 1, 132, 0), (132, .goto 4, 135, 136), (135, .iconst 0, 136, 0), (136, .istore_n 2, 137, 0), (137, .goto 133, 140, 270),
  (140, .aload_n 1, 141, 0), (141, .invokevirtual 320, 144, 0), (144, .iload 6, 146, 0), (146, .bipush 6, 148, 0), (148, .if_icmp .ne 8, 151, 156), (151, .bipush 6, 153, 0), (153, .goto 7, 156, 160), (156, .iload 6, 158, 0),
  (158, .iconst 1, 159, 0), (159, .iadd, 160, 0), (160, .if_icmp .ne 21, 163, 181), (163, .iload 4, 165, 0), (165, .iconst 3, 166, 0), (166, .irem, 167, 0), (167, .ifCond .gt 10, 170, 177), (170, .aload_n 1, 171, 0),
  (171, .invokestatic 309, 174, 0), (174, .ifCond .eq 7, 177, 181), (177, .iconst 1, 178, 0), (178, .goto 4, 181, 182), (181, .iconst 0, 182, 0), (182, .istore_n 2, 183, 0), (183, .iload_n 2, 184, 0), (184, .ifCond .eq 86, 187, 270),
  (187, .iload 4, 189, 0), (189, .bipush 7, 191, 0), (191, .idiv, 192, 0), (192, .iconst 4, 193, 0), (193, .irem, 194, 0), (194, .ifCond .ne 76, 197, 270), (197, .aload_n 1, 198, 0), (198, .invokestatic 317, 201, 0),
  (201, .istore 8, 203, 0), (203, .aload_n 1, 204, 0), (204, .iconst 1, 205, 0), (205, .invokestatic 307, 208, 0), (208, .ifCond .ne 60, 211, 268), (211, .aload_n 1, 212, 0), (212, .invokestatic 302, 215, 0), (215, .ifCond .ne 53, 218, 268),
  (218, .aload_n 1, 219, 0), (219, .invokevirtual 320, 222, 0), (222, .iload 6, 224, 0), (224, .bipush 6, 226, 0), (226, .if_icmp .ne 7, 229, 233), (229, .iconst 5, 230, 0), (230, .goto 5, 233, 235), (233, .iload 6, 235, 0),
  (235, .if_icmp .ne 33, 238, 268), (238, .aload_n 1, 239, 0), (239, .invokestatic 317, 242, 0), (242, .iload 5, 244, 0), (244, .if_icmp .ne 24, 247, 268), (247, .aload_n 1, 248, 0), (248, .iconst 1, 249, 0), (249, .invokestatic 304, 252, 0),
  (252, .ifCond .ne 16, 255, 268), (255, .aload_n 1, 256, 0), (256, .invokestatic 317, 259, 0), (259, .iload 8, 261, 0), (261, .if_icmp .ne 7, 264, 268), (264, .iconst 1, 265, 0), (265, .goto 4, 268, 269), (268, .iconst 0, 269, 0),
  (269, .istore_n 2, 270, 0), (270, .iinc 3 1, 273, 0), (273, .goto (-221), 276, 52), (276, .iload_n 2, 277, 0), (277, .ifCond .eq 14, 280, 291), (280, .aload_n 1, 281, 0), (281, .invokestatic 309, 284, 0), (284, .ifCond .eq 7, 287, 291),
  (287, .iconst 1, 288, 0), (288, .goto 4, 291, 292), (291, .iconst 0, 292, 0), (292, .ireturn, 293, 0)]
