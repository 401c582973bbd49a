/-! PV: the typed state (printed by wip/whole/blocks.py) -/
def pv_X0 (L : Nat) (xs : Nat → Int32) : pv_X := (pv_CD, pv_MI, pv_FD, L, xs)
/-- ints, longs, rows of ints, rows of longs, by their numbers -/
abbrev pv_U : Type := (Nat → Int32) × (Nat → Int64) × (Nat → Nat → Int32) × (Nat → Nat → Int64)
def gI (u : pv_U) (i : Nat) : Int32 := u.1 i
def gJ (u : pv_U) (i : Nat) : Int64 := u.2.1 i
def gA (u : pv_U) (k j : Nat) : Int32 := u.2.2.1 k j
def gB (u : pv_U) (k j : Nat) : Int64 := u.2.2.2 k j
def uI (u : pv_U) (i : Nat) (v : Int32) : pv_U := (fun k => bif Nat.beq k i then v else u.1 k, u.2)
def uJ (u : pv_U) (i : Nat) (v : Int64) : pv_U := (u.1, fun k => bif Nat.beq k i then v else u.2.1 k, u.2.2)
def uA (u : pv_U) (i j : Nat) (v : Int32) : pv_U := (u.1, u.2.1, fun k => bif Nat.beq k i then upd (u.2.2.1 k) j v else u.2.2.1 k, u.2.2.2)
def uB (u : pv_U) (i j : Nat) (v : Int64) : pv_U := (u.1, u.2.1, u.2.2.1, fun k => bif Nat.beq k i then vp_updL (u.2.2.2 k) j v else u.2.2.2 k)
/- I0 ScheduleDesk@0.isKept; I1 ScheduleDesk$Ledger@1.teamCount; I2 ScheduleDesk$Ledger@1.gameCount; I3 ScheduleDesk$Ledger@1.fixtureCount; J0 ScheduleDesk$Ledger@1.capNow; I4 ScheduleDesk$Ledger@1.guessed; I5 ScheduleDesk$Ledger@11.teamCount; I6 ScheduleDesk$Ledger@11.gameCount; I7 ScheduleDesk$Ledger@11.fixtureCount; J1 ScheduleDesk$Ledger@11.capNow; I8 ScheduleDesk$Ledger@11.guessed; J2 ScheduleDesk$Tally@21.sum; I9 ScheduleDesk$Tally@21.isOver; I10 ScheduleDesk$Equations@22.n; J3 ScheduleDesk$Equations@22.below; I11 ScheduleDesk$Tape@44.length; I12 ScheduleDesk$Tape@44.at; I13 ScheduleDesk$Tape@44.fault; I14 ScheduleDesk$Sheet@46.length; I15 ScheduleDeskModel@55.n; I16 ScheduleDeskModel@55.games; I17 ScheduleDeskModel@55.fixtures; I18 ScheduleDeskModel@55.isGuessed; J4 ScheduleDeskModel@55.cap; I19 ScheduleDeskModel@55.isOver; J5 ScheduleDeskModel@55.det; J6 ScheduleDeskModel@55.below; I20 ScheduleDeskModel@55.fed; I21 ScheduleDeskModel@55.at; I22 ScheduleDeskModel@55.fault; I23 ScheduleDeskModel@55.papered; I24 ScheduleDeskModel@55.readGames; I25 ScheduleDeskModel@55.isKept; A0 ScheduleDesk$Ledger@1.homes #31; A1 ScheduleDesk$Ledger@1.aways #31; B0 ScheduleDesk$Ledger@1.scored #31; B1 ScheduleDesk$Ledger@1.conceded #31; A2 ScheduleDesk$Ledger@1.days #31; A3 ScheduleDesk$Ledger@1.weights #31; A4 ScheduleDesk$Ledger@1.voided #31; A5 ScheduleDesk$Ledger@1.fixtureHomes #12; A6 ScheduleDesk$Ledger@1.fixtureAways #12; A7 ScheduleDesk$Ledger@11.homes #31; A8 ScheduleDesk$Ledger@11.aways #31; B2 ScheduleDesk$Ledger@11.scored #31; B3 ScheduleDesk$Ledger@11.conceded #31; A9 ScheduleDesk$Ledger@11.days #31; A10 ScheduleDesk$Ledger@11.weights #31; A11 ScheduleDesk$Ledger@11.voided #31; A12 ScheduleDesk$Ledger@11.fixtureHomes #12; A13 ScheduleDesk$Ledger@11.fixtureAways #12; B4 ScheduleDesk$Equations@22.cells[0] #6; B5 ScheduleDesk$Equations@22.cells[1] #6; B6 ScheduleDesk$Equations@22.cells[2] #6; B7 ScheduleDesk$Equations@22.cells[3] #6; B8 ScheduleDesk$Equations@22.cells[4] #6; B9 ScheduleDesk$Equations@22.cells[5] #6; B10 ScheduleDesk$Equations@22.rights #6; A14 ScheduleDesk$Equations@22.met[0] #6; A15 ScheduleDesk$Equations@22.met[1] #6; A16 ScheduleDesk$Equations@22.met[2] #6; A17 ScheduleDesk$Equations@22.met[3] #6; A18 ScheduleDesk$Equations@22.met[4] #6; A19 ScheduleDesk$Equations@22.met[5] #6; A20 ScheduleDesk$Equations@22.played #6; B11 ScheduleDesk$Equations@22.tops #6; B12 ScheduleDesk$Equations@22.minors #64; A21 ScheduleDesk$Standings@41.order #6; A22 ScheduleDesk$Standings@41.scores #6; A23 ScheduleDesk$Tape@44.bytes #120; A24 ScheduleDesk$Sheet@46.bytes #570; B13 ScheduleDesk$Shelf@48.held[0] #20; B14 ScheduleDesk$Shelf@48.held[1] #20; B15 ScheduleDesk$Shelf@48.held[2] #20; B16 ScheduleDesk$Shelf@48.held[3] #20; A25 ScheduleDesk$Shelf@48.sizes #4; A26 ScheduleDeskModel@55.homes #31; A27 ScheduleDeskModel@55.aways #31; A28 ScheduleDeskModel@55.days #31; A29 ScheduleDeskModel@55.weights #31; A30 ScheduleDeskModel@55.voids #31; A31 ScheduleDeskModel@55.fixed #24; B17 ScheduleDeskModel@55.fors #31; B18 ScheduleDeskModel@55.againsts #31; B19 ScheduleDeskModel@55.matrix #36; B20 ScheduleDeskModel@55.right #6; B21 ScheduleDeskModel@55.between #36; B22 ScheduleDeskModel@55.minors #64; B23 ScheduleDeskModel@55.tops #6; A32 ScheduleDeskModel@55.areOver #6; A33 ScheduleDeskModel@55.tape #120; A34 ScheduleDeskModel@55.paper #700; A35 ScheduleDeskModel@55.sizes #4; B24 ScheduleDeskModel@55.items #80; A36 ScheduleDeskModel@55.keptInts #183; B25 ScheduleDeskModel@55.keptLongs #63 -/
def enc (u : pv_U) : pv_W := (3075, [
  .inr (7, [.ref 1, .ref 11, .int (gI u 0), .ref 21, .ref 22, .ref 41, .ref 44, .ref 46, .ref 48]),
  .inr (1, [.int (gI u 1), .int (gI u 2), .int (gI u 3), .long (gJ u 0), .int (gI u 4), .ref 2, .ref 3, .ref 4, .ref 5, .ref 6, .ref 7, .ref 8, .ref 9, .ref 10]),
  .inl (0, 31, .inl (gA u 0)),
  .inl (0, 31, .inl (gA u 1)),
  .inl (1, 31, .inr (.inl (gB u 0))),
  .inl (1, 31, .inr (.inl (gB u 1))),
  .inl (0, 31, .inl (gA u 2)),
  .inl (0, 31, .inl (gA u 3)),
  .inl (3, 31, .inl (gA u 4)),
  .inl (0, 12, .inl (gA u 5)),
  .inl (0, 12, .inl (gA u 6)),
  .inr (1, [.int (gI u 5), .int (gI u 6), .int (gI u 7), .long (gJ u 1), .int (gI u 8), .ref 12, .ref 13, .ref 14, .ref 15, .ref 16, .ref 17, .ref 18, .ref 19, .ref 20]),
  .inl (0, 31, .inl (gA u 7)),
  .inl (0, 31, .inl (gA u 8)),
  .inl (1, 31, .inr (.inl (gB u 2))),
  .inl (1, 31, .inr (.inl (gB u 3))),
  .inl (0, 31, .inl (gA u 9)),
  .inl (0, 31, .inl (gA u 10)),
  .inl (3, 31, .inl (gA u 11)),
  .inl (0, 12, .inl (gA u 12)),
  .inl (0, 12, .inl (gA u 13)),
  .inr (5, [.long (gJ u 2), .int (gI u 9)]),
  .inr (0, [.ref 21, .int (gI u 10), .long (gJ u 3), .ref 23, .ref 30, .ref 31, .ref 38, .ref 39, .ref 40]),
  .inl (5, 6, .inr (.inr (.inr (.inr fun i => if i < 6 then some (24 + i) else none)))),
  .inl (1, 6, .inr (.inl (gB u 4))),
  .inl (1, 6, .inr (.inl (gB u 5))),
  .inl (1, 6, .inr (.inl (gB u 6))),
  .inl (1, 6, .inr (.inl (gB u 7))),
  .inl (1, 6, .inr (.inl (gB u 8))),
  .inl (1, 6, .inr (.inl (gB u 9))),
  .inl (1, 6, .inr (.inl (gB u 10))),
  .inl (4, 6, .inr (.inr (.inr (.inr fun i => if i < 6 then some (32 + i) else none)))),
  .inl (0, 6, .inl (gA u 14)),
  .inl (0, 6, .inl (gA u 15)),
  .inl (0, 6, .inl (gA u 16)),
  .inl (0, 6, .inl (gA u 17)),
  .inl (0, 6, .inl (gA u 18)),
  .inl (0, 6, .inl (gA u 19)),
  .inl (0, 6, .inl (gA u 20)),
  .inl (1, 6, .inr (.inl (gB u 11))),
  .inl (1, 64, .inr (.inl (gB u 12))),
  .inr (4, [.ref 42, .ref 43]),
  .inl (0, 6, .inl (gA u 21)),
  .inl (0, 6, .inl (gA u 22)),
  .inr (6, [.ref 45, .int (gI u 11), .int (gI u 12), .int (gI u 13)]),
  .inl (2, 120, .inl (gA u 23)),
  .inr (2, [.ref 47, .int (gI u 14)]),
  .inl (2, 570, .inl (gA u 24)),
  .inr (3, [.ref 49, .ref 54]),
  .inl (5, 4, .inr (.inr (.inr (.inr fun i => if i < 4 then some (50 + i) else none)))),
  .inl (1, 20, .inr (.inl (gB u 13))),
  .inl (1, 20, .inr (.inl (gB u 14))),
  .inl (1, 20, .inr (.inl (gB u 15))),
  .inl (1, 20, .inr (.inl (gB u 16))),
  .inl (0, 4, .inl (gA u 25)),
  .inr (8, [.int (gI u 15), .int (gI u 16), .int (gI u 17), .int (gI u 18), .long (gJ u 4), .ref 56, .ref 57, .ref 58, .ref 59, .ref 60, .ref 61, .ref 62, .ref 63, .int (gI u 19), .ref 64, .ref 65, .ref 66, .ref 67, .ref 68, .ref 69, .long (gJ u 5), .long (gJ u 6), .ref 70, .int (gI u 20), .int (gI u 21), .int (gI u 22), .ref 71, .int (gI u 23), .int (gI u 24), .ref 72, .ref 73, .int (gI u 25), .ref 74, .ref 75]),
  .inl (0, 31, .inl (gA u 26)),
  .inl (0, 31, .inl (gA u 27)),
  .inl (0, 31, .inl (gA u 28)),
  .inl (0, 31, .inl (gA u 29)),
  .inl (0, 31, .inl (gA u 30)),
  .inl (0, 24, .inl (gA u 31)),
  .inl (1, 31, .inr (.inl (gB u 17))),
  .inl (1, 31, .inr (.inl (gB u 18))),
  .inl (1, 36, .inr (.inl (gB u 19))),
  .inl (1, 6, .inr (.inl (gB u 20))),
  .inl (1, 36, .inr (.inl (gB u 21))),
  .inl (1, 64, .inr (.inl (gB u 22))),
  .inl (1, 6, .inr (.inl (gB u 23))),
  .inl (3, 6, .inl (gA u 32)),
  .inl (0, 120, .inl (gA u 33)),
  .inl (0, 700, .inl (gA u 34)),
  .inl (0, 4, .inl (gA u 35)),
  .inl (1, 80, .inr (.inl (gB u 24))),
  .inl (0, 183, .inl (gA u 36)),
  .inl (1, 63, .inr (.inl (gB u 25)))])
def pv_bd (r : pv_R) (K : Option Value → pv_W → pv_R) : pv_R := match r with
  | some (v, w1) => K v w1
  | none => none
theorem pv_bd_some {v : Option Value} {w : pv_W} {K : Option Value → pv_W → pv_R} : pv_bd (some (v, w)) K = K v w := rfl
def pv_inl : List Nat → Nat → Bool
  | [], _ => false
  | a :: r, q => Nat.beq a q || pv_inl r q
theorem pv_use {X : pv_X} {cut : Nat → Nat → Bool} {n d k pc : Nat} {lo : pv_L} {st : pv_S} {w : pv_W} {r : pv_R} (h : pv_blk X (RR X) cut n d k pc lo st w = r) : RR X d k pc lo st w = r := by
  rw [pv_blk_eq X cut n] at h
  exact h
theorem pv_sw_out {X : pv_X} {d k pc : Nat} {lo : pv_L} {st : pv_S} {w : pv_W} {dflt l1 h1 : Int} {offs : Array Int} {len : Nat} {aux : Nat × Nat × Nat} {x : Int32} {t : Nat} (hc : X.1 k pc = some (.tableswitch dflt l1 h1 offs, len, aux)) (h : x.toInt < l1 ∨ h1 < x.toInt) (ht : (pc : Int) + dflt = (t : Int)) : RR X d k pc lo (.int x :: st) w = RR X d k t lo st w := by
  rw [congrFun (congrFun (congrFun (congrFun (congrFun (congrFun (RR_fix X) d) k) pc) lo) (.int x :: st)) w]
  unfold pv_step
  rw [hc]
  simp only [pv_op, pv_sw]
  rw [if_pos h, if_pos (by omega), show ((pc : Int) + dflt).toNat = t by omega]
