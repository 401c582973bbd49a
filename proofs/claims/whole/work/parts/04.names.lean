/-! PV: this claim's classes, methods (printed by wip/whole/gen.py) -/
def pv_GW : List Jvm.Cond := lw_tbl.filter goodWord
def pv_NW : List Jvm.Cond := tables_1.filter pv_isN
theorem pv_GW_good : ∀ x ∈ pv_GW, goodWord x = true := fun x h => (List.mem_filter.mp h).2
theorem pv_NW_n : ∀ x ∈ pv_NW, pv_isN x = true := fun x h => (List.mem_filter.mp h).2
theorem pv_gw {n : Nat} {x : Jvm.Cond} (h : tables_1[n]? = some x) (hg : goodWord x = true) : x ∈ pv_GW := List.mem_filter.mpr ⟨List.mem_append_right _ (List.mem_of_getElem? h), hg⟩
theorem pv_gs {n : Nat} {x : MethodName × Nat} (h : lw_privs[n]? = some x) : Cond.selects x.1.cls x.1 x.1 ∈ pv_GW := List.mem_filter.mpr ⟨List.mem_append_left _ (List.mem_map.mpr ⟨x, List.mem_of_getElem? h, rfl⟩), rfl⟩
theorem pv_nw {n : Nat} {x : Jvm.Cond} (h : tables_1[n]? = some x) (hg : pv_isN x = true) : x ∈ pv_NW := List.mem_filter.mpr ⟨List.mem_of_getElem? h, hg⟩
def pv_R0 : String := "ScheduleDesk$Equations"
def pv_T0 : u_T := fun k => match k with
  | 0 => (pv_R0, "tally", "LScheduleDesk$Tally;", true)
  | 1 => (pv_R0, "n", "I", false)
  | 2 => (pv_R0, "below", "J", false)
  | 3 => (pv_R0, "cells", "[[J", true)
  | 4 => (pv_R0, "rights", "[J", true)
  | 5 => (pv_R0, "met", "[[I", true)
  | 6 => (pv_R0, "played", "[I", true)
  | 7 => (pv_R0, "tops", "[J", true)
  | _ => (pv_R0, "minors", "[J", true)
def pv_F0 : List FieldType := [.object "ScheduleDesk$Tally", .int, .long, .array (.array .long), .array .long, .array (.array .int), .array .int, .array .long, .array .long]
def pv_R1 : String := "ScheduleDesk$Ledger"
def pv_T1 : u_T := fun k => match k with
  | 0 => (pv_R1, "teamCount", "I", false)
  | 1 => (pv_R1, "gameCount", "I", false)
  | 2 => (pv_R1, "fixtureCount", "I", false)
  | 3 => (pv_R1, "capNow", "J", false)
  | 4 => (pv_R1, "guessed", "Z", false)
  | 5 => (pv_R1, "homes", "[I", true)
  | 6 => (pv_R1, "aways", "[I", true)
  | 7 => (pv_R1, "scored", "[J", true)
  | 8 => (pv_R1, "conceded", "[J", true)
  | 9 => (pv_R1, "days", "[I", true)
  | 10 => (pv_R1, "weights", "[I", true)
  | 11 => (pv_R1, "voided", "[Z", true)
  | 12 => (pv_R1, "fixtureHomes", "[I", true)
  | _ => (pv_R1, "fixtureAways", "[I", true)
def pv_F1 : List FieldType := [.int, .int, .int, .long, .boolean, .array .int, .array .int, .array .long, .array .long, .array .int, .array .int, .array .boolean, .array .int, .array .int]
def pv_R2 : String := "ScheduleDesk$Sheet"
def pv_T2 : u_T := fun k => match k with
  | 0 => (pv_R2, "bytes", "[B", true)
  | _ => (pv_R2, "length", "I", false)
def pv_F2 : List FieldType := [.array .byte, .int]
def pv_R3 : String := "ScheduleDesk$Shelf"
def pv_T3 : u_T := fun k => match k with
  | 0 => (pv_R3, "held", "[[J", true)
  | _ => (pv_R3, "sizes", "[I", true)
def pv_F3 : List FieldType := [.array (.array .long), .array .int]
def pv_R4 : String := "ScheduleDesk$Standings"
def pv_T4 : u_T := fun k => match k with
  | 0 => (pv_R4, "order", "[I", true)
  | _ => (pv_R4, "scores", "[I", true)
def pv_F4 : List FieldType := [.array .int, .array .int]
def pv_R5 : String := "ScheduleDesk$Tally"
def pv_T5 : u_T := fun k => match k with
  | 0 => (pv_R5, "sum", "J", false)
  | _ => (pv_R5, "isOver", "Z", false)
def pv_F5 : List FieldType := [.long, .boolean]
def pv_R6 : String := "ScheduleDesk$Tape"
def pv_T6 : u_T := fun k => match k with
  | 0 => (pv_R6, "bytes", "[B", true)
  | 1 => (pv_R6, "length", "I", false)
  | 2 => (pv_R6, "at", "I", false)
  | _ => (pv_R6, "fault", "I", false)
def pv_F6 : List FieldType := [.array .byte, .int, .int, .int]
def pv_R7 : String := "ScheduleDesk"
def pv_T7 : u_T := fun k => match k with
  | 0 => (pv_R7, "book", "LScheduleDesk$Ledger;", true)
  | 1 => (pv_R7, "kept", "LScheduleDesk$Ledger;", true)
  | 2 => (pv_R7, "isKept", "Z", false)
  | 3 => (pv_R7, "tally", "LScheduleDesk$Tally;", true)
  | 4 => (pv_R7, "rows", "LScheduleDesk$Equations;", true)
  | 5 => (pv_R7, "standings", "LScheduleDesk$Standings;", true)
  | 6 => (pv_R7, "tape", "LScheduleDesk$Tape;", true)
  | 7 => (pv_R7, "sheet", "LScheduleDesk$Sheet;", true)
  | _ => (pv_R7, "shelf", "LScheduleDesk$Shelf;", true)
def pv_F7 : List FieldType := [.object "ScheduleDesk$Ledger", .object "ScheduleDesk$Ledger", .boolean, .object "ScheduleDesk$Tally", .object "ScheduleDesk$Equations", .object "ScheduleDesk$Standings", .object "ScheduleDesk$Tape", .object "ScheduleDesk$Sheet", .object "ScheduleDesk$Shelf"]
def pv_R8 : String := "ScheduleDeskModel"
def pv_T8 : u_T := fun k => match k with
  | 0 => (pv_R8, "n", "I", false)
  | 1 => (pv_R8, "games", "I", false)
  | 2 => (pv_R8, "fixtures", "I", false)
  | 3 => (pv_R8, "isGuessed", "Z", false)
  | 4 => (pv_R8, "cap", "J", false)
  | 5 => (pv_R8, "homes", "[I", true)
  | 6 => (pv_R8, "aways", "[I", true)
  | 7 => (pv_R8, "days", "[I", true)
  | 8 => (pv_R8, "weights", "[I", true)
  | 9 => (pv_R8, "voids", "[I", true)
  | 10 => (pv_R8, "fixed", "[I", true)
  | 11 => (pv_R8, "fors", "[J", true)
  | 12 => (pv_R8, "againsts", "[J", true)
  | 13 => (pv_R8, "isOver", "Z", false)
  | 14 => (pv_R8, "matrix", "[J", true)
  | 15 => (pv_R8, "right", "[J", true)
  | 16 => (pv_R8, "between", "[J", true)
  | 17 => (pv_R8, "minors", "[J", true)
  | 18 => (pv_R8, "tops", "[J", true)
  | 19 => (pv_R8, "areOver", "[Z", true)
  | 20 => (pv_R8, "det", "J", false)
  | 21 => (pv_R8, "below", "J", false)
  | 22 => (pv_R8, "tape", "[I", true)
  | 23 => (pv_R8, "fed", "I", false)
  | 24 => (pv_R8, "at", "I", false)
  | 25 => (pv_R8, "fault", "I", false)
  | 26 => (pv_R8, "paper", "[I", true)
  | 27 => (pv_R8, "papered", "I", false)
  | 28 => (pv_R8, "readGames", "I", false)
  | 29 => (pv_R8, "sizes", "[I", true)
  | 30 => (pv_R8, "items", "[J", true)
  | 31 => (pv_R8, "isKept", "Z", false)
  | 32 => (pv_R8, "keptInts", "[I", true)
  | _ => (pv_R8, "keptLongs", "[J", true)
def pv_F8 : List FieldType := [.int, .int, .int, .boolean, .long, .array .int, .array .int, .array .int, .array .int, .array .int, .array .int, .array .long, .array .long, .boolean, .array .long, .array .long, .array .long, .array .long, .array .long, .array .boolean, .long, .long, .array .int, .int, .int, .int, .array .int, .int, .int, .array .int, .array .long, .boolean, .array .int, .array .long]
def pv_cl : List vw_C := [(pv_R0, pv_T0, 9), (pv_R1, pv_T1, 14), (pv_R2, pv_T2, 2), (pv_R3, pv_T3, 2), (pv_R4, pv_T4, 2), (pv_R5, pv_T5, 2), (pv_R6, pv_T6, 4), (pv_R7, pv_T7, 9), (pv_R8, pv_T8, 34)]
def pv_FD : Nat → List FieldType := fun k => match k with
  | 0 => pv_F0
  | 1 => pv_F1
  | 2 => pv_F2
  | 3 => pv_F3
  | 4 => pv_F4
  | 5 => pv_F5
  | 6 => pv_F6
  | 7 => pv_F7
  | 8 => pv_F8
  | _ => []
def pv_SK : List (String × Nat × String) := [("ScheduleDesk$Tape", 48, "home"), ("ScheduleDesk$Tape", 54, "away"), ("ScheduleDesk$Tape", 56, "for"), ("ScheduleDesk$Tape", 58, "against"), ("ScheduleDesk$Tape", 60, "day"), ("ScheduleDesk$Tape", 62, "weight"), ("ScheduleDesk$Tape", 64, "void"), ("ScheduleDesk$Tape", 66, "margin"), ("ScheduleDesk$Tape", 68, "won"), ("ScheduleDeskModel", 279, "home   away   for    againstday    weight margin void   won    ")]
theorem pv_u0 : ∀ w ∈ u_ws pv_R0 pv_T0 9, w ∈ pv_GW := by
  have h : u_ws pv_R0 pv_T0 9 = [144, 146, 148, 150, 152, 154, 156, 158, 160].filterMap (fun i => tables_1[i]?) := by decide +kernel
  have hg : (u_ws pv_R0 pv_T0 9).all goodWord = true := by decide +kernel
  intro w hw
  have h1 := List.all_eq_true.mp hg w hw
  rw [h] at hw
  obtain ⟨j, -, hj⟩ := List.mem_filterMap.mp hw
  exact pv_gw hj h1
theorem pv_u1 : ∀ w ∈ u_ws pv_R1 pv_T1 14, w ∈ pv_GW := by
  have h : u_ws pv_R1 pv_T1 14 = [74, 76, 78, 80, 82, 84, 86, 88, 90, 92, 94, 96, 98, 100].filterMap (fun i => tables_1[i]?) := by decide +kernel
  have hg : (u_ws pv_R1 pv_T1 14).all goodWord = true := by decide +kernel
  intro w hw
  have h1 := List.all_eq_true.mp hg w hw
  rw [h] at hw
  obtain ⟨j, -, hj⟩ := List.mem_filterMap.mp hw
  exact pv_gw hj h1
theorem pv_u2 : ∀ w ∈ u_ws pv_R2 pv_T2 2, w ∈ pv_GW := by
  have h : u_ws pv_R2 pv_T2 2 = [212, 214].filterMap (fun i => tables_1[i]?) := by decide +kernel
  have hg : (u_ws pv_R2 pv_T2 2).all goodWord = true := by decide +kernel
  intro w hw
  have h1 := List.all_eq_true.mp hg w hw
  rw [h] at hw
  obtain ⟨j, -, hj⟩ := List.mem_filterMap.mp hw
  exact pv_gw hj h1
theorem pv_u3 : ∀ w ∈ u_ws pv_R3 pv_T3 2, w ∈ pv_GW := by
  have h : u_ws pv_R3 pv_T3 2 = [228, 230].filterMap (fun i => tables_1[i]?) := by decide +kernel
  have hg : (u_ws pv_R3 pv_T3 2).all goodWord = true := by decide +kernel
  intro w hw
  have h1 := List.all_eq_true.mp hg w hw
  rw [h] at hw
  obtain ⟨j, -, hj⟩ := List.mem_filterMap.mp hw
  exact pv_gw hj h1
theorem pv_u4 : ∀ w ∈ u_ws pv_R4 pv_T4 2, w ∈ pv_GW := by
  have h : u_ws pv_R4 pv_T4 2 = [173, 175].filterMap (fun i => tables_1[i]?) := by decide +kernel
  have hg : (u_ws pv_R4 pv_T4 2).all goodWord = true := by decide +kernel
  intro w hw
  have h1 := List.all_eq_true.mp hg w hw
  rw [h] at hw
  obtain ⟨j, -, hj⟩ := List.mem_filterMap.mp hw
  exact pv_gw hj h1
theorem pv_u5 : ∀ w ∈ u_ws pv_R5 pv_T5 2, w ∈ pv_GW := by
  have h : u_ws pv_R5 pv_T5 2 = [116, 118].filterMap (fun i => tables_1[i]?) := by decide +kernel
  have hg : (u_ws pv_R5 pv_T5 2).all goodWord = true := by decide +kernel
  intro w hw
  have h1 := List.all_eq_true.mp hg w hw
  rw [h] at hw
  obtain ⟨j, -, hj⟩ := List.mem_filterMap.mp hw
  exact pv_gw hj h1
theorem pv_u6 : ∀ w ∈ u_ws pv_R6 pv_T6 4, w ∈ pv_GW := by
  have h : u_ws pv_R6 pv_T6 4 = [192, 194, 196, 198].filterMap (fun i => tables_1[i]?) := by decide +kernel
  have hg : (u_ws pv_R6 pv_T6 4).all goodWord = true := by decide +kernel
  intro w hw
  have h1 := List.all_eq_true.mp hg w hw
  rw [h] at hw
  obtain ⟨j, -, hj⟩ := List.mem_filterMap.mp hw
  exact pv_gw hj h1
theorem pv_u7 : ∀ w ∈ u_ws pv_R7 pv_T7 9, w ∈ pv_GW := by
  have h : u_ws pv_R7 pv_T7 9 = [247, 249, 251, 253, 255, 257, 259, 261, 263].filterMap (fun i => tables_1[i]?) := by decide +kernel
  have hg : (u_ws pv_R7 pv_T7 9).all goodWord = true := by decide +kernel
  intro w hw
  have h1 := List.all_eq_true.mp hg w hw
  rw [h] at hw
  obtain ⟨j, -, hj⟩ := List.mem_filterMap.mp hw
  exact pv_gw hj h1
theorem pv_u8 : ∀ w ∈ u_ws pv_R8 pv_T8 34, w ∈ pv_GW := by
  have h : u_ws pv_R8 pv_T8 34 = [851, 853, 855, 857, 859, 861, 863, 865, 867, 869, 871, 873, 875, 877, 879, 881, 883, 885, 887, 889, 891, 893, 895, 897, 899, 901, 903, 905, 907, 909, 911, 913, 915, 917].filterMap (fun i => tables_1[i]?) := by decide +kernel
  have hg : (u_ws pv_R8 pv_T8 34).all goodWord = true := by decide +kernel
  intro w hw
  have h1 := List.all_eq_true.mp hg w hw
  rw [h] at hw
  obtain ⟨j, -, hj⟩ := List.mem_filterMap.mp hw
  exact pv_gw hj h1
theorem pv_cls_ok : pv_clsOk pv_GW pv_cl pv_FD := by
  intro ci C T N h
  match ci, h with
  | 0, h =>
    cases h
    exact ⟨pv_u0, rfl, by decide +kernel, by decide +kernel, by decide +kernel⟩
  | 1, h =>
    cases h
    exact ⟨pv_u1, rfl, by decide +kernel, by decide +kernel, by decide +kernel⟩
  | 2, h =>
    cases h
    exact ⟨pv_u2, rfl, by decide +kernel, by decide +kernel, by decide +kernel⟩
  | 3, h =>
    cases h
    exact ⟨pv_u3, rfl, by decide +kernel, by decide +kernel, by decide +kernel⟩
  | 4, h =>
    cases h
    exact ⟨pv_u4, rfl, by decide +kernel, by decide +kernel, by decide +kernel⟩
  | 5, h =>
    cases h
    exact ⟨pv_u5, rfl, by decide +kernel, by decide +kernel, by decide +kernel⟩
  | 6, h =>
    cases h
    exact ⟨pv_u6, rfl, by decide +kernel, by decide +kernel, by decide +kernel⟩
  | 7, h =>
    cases h
    exact ⟨pv_u7, rfl, by decide +kernel, by decide +kernel, by decide +kernel⟩
  | 8, h =>
    cases h
    exact ⟨pv_u8, rfl, by decide +kernel, by decide +kernel, by decide +kernel⟩
  | n + 9, h => cases h
