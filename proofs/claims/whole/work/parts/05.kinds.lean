/-! names, field tables and kinds of cells, by wip/whole/pkinds.py -/
def zR_Main : String := "ScanPacker"
def zF_Main : u_T := fun k => match k with
  | 0 => ("ScanPacker", "parser", "LScanPacker$Parser;", true)
  | 1 => ("ScanPacker", "wired", "LScanPacker$Net;", false)
  | 2 => ("ScanPacker", "faultPlace", "I", false)
  | 3 => ("ScanPacker", "catalog", "LScanPacker$Catalog;", true)
  | 4 => ("ScanPacker", "plan", "LScanPacker$Program;", true)
  | 5 => ("ScanPacker", "packs", "LScanPacker$Packs;", true)
  | 6 => ("ScanPacker", "diagnosis", "LScanPacker$Diagnosis;", true)
  | 7 => ("ScanPacker", "now", "LScanPacker$Session;", true)
  | 8 => ("ScanPacker", "kept", "LScanPacker$Session;", true)
  | 9 => ("ScanPacker", "hasImage", "Z", false)
  | _ => ("ScanPacker", "trial", "LScanPacker$State;", true)
def zT_Main : Nat → FieldType := fun k => match k with
  | 0 => .object "ScanPacker$Parser"
  | 1 => .object "ScanPacker$Net"
  | 2 => .int
  | 3 => .object "ScanPacker$Catalog"
  | 4 => .object "ScanPacker$Program"
  | 5 => .object "ScanPacker$Packs"
  | 6 => .object "ScanPacker$Diagnosis"
  | 7 => .object "ScanPacker$Session"
  | 8 => .object "ScanPacker$Session"
  | 9 => .boolean
  | _ => .object "ScanPacker$State"
def zR_Catalog : String := "ScanPacker$Catalog"
def zF_Catalog : u_T := fun k => match k with
  | 0 => ("ScanPacker$Catalog", "faults", "I", false)
  | 1 => ("ScanPacker$Catalog", "rows", "I", false)
  | 2 => ("ScanPacker$Catalog", "cubeRows", "I", false)
  | 3 => ("ScanPacker$Catalog", "found", "J", false)
  | 4 => ("ScanPacker$Catalog", "told", "[[J", true)
  | 5 => ("ScanPacker$Catalog", "tests", "[J", true)
  | 6 => ("ScanPacker$Catalog", "cubeSet", "[I", true)
  | 7 => ("ScanPacker$Catalog", "cubeOnes", "[I", true)
  | 8 => ("ScanPacker$Catalog", "cubeSizes", "[I", true)
  | 9 => ("ScanPacker$Catalog", "rowSet", "[I", true)
  | 10 => ("ScanPacker$Catalog", "rowOnes", "[I", true)
  | 11 => ("ScanPacker$Catalog", "sound", "LScanPacker$Waves;", true)
  | _ => ("ScanPacker$Catalog", "stuck", "LScanPacker$Waves;", true)
def zT_Catalog : Nat → FieldType := fun k => match k with
  | 0 => .int
  | 1 => .int
  | 2 => .int
  | 3 => .long
  | 4 => .array (.array .long)
  | 5 => .array .long
  | 6 => .array .int
  | 7 => .array .int
  | 8 => .array .int
  | 9 => .array .int
  | 10 => .array .int
  | 11 => .object "ScanPacker$Waves"
  | _ => .object "ScanPacker$Waves"
def zR_Diagnosis : String := "ScanPacker$Diagnosis"
def zF_Diagnosis : u_T := fun k => match k with
  | 0 => ("ScanPacker$Diagnosis", "suspects", "[I", true)
  | 1 => ("ScanPacker$Diagnosis", "fitting", "I", false)
  | 2 => ("ScanPacker$Diagnosis", "soundFits", "Z", false)
  | 3 => ("ScanPacker$Diagnosis", "row", "I", false)
  | 4 => ("ScanPacker$Diagnosis", "unlike", "I", false)
  | _ => ("ScanPacker$Diagnosis", "counts", "[I", true)
def zT_Diagnosis : Nat → FieldType := fun k => match k with
  | 0 => .array .int
  | 1 => .int
  | 2 => .boolean
  | 3 => .int
  | 4 => .int
  | _ => .array .int
def zR_Net : String := "ScanPacker$Net"
def zF_Net : u_T := fun k => match k with
  | 0 => ("ScanPacker$Net", "inputs", "I", false)
  | 1 => ("ScanPacker$Net", "gates", "I", false)
  | 2 => ("ScanPacker$Net", "chains", "I", false)
  | 3 => ("ScanPacker$Net", "filling", "I", false)
  | 4 => ("ScanPacker$Net", "fillTold", "Z", false)
  | 5 => ("ScanPacker$Net", "toldSeen", "I", false)
  | 6 => ("ScanPacker$Net", "taken", "I", false)
  | 7 => ("ScanPacker$Net", "names", "[I", true)
  | 8 => ("ScanPacker$Net", "letters", "[I", true)
  | 9 => ("ScanPacker$Net", "kinds", "[I", true)
  | 10 => ("ScanPacker$Net", "sizes", "[I", true)
  | 11 => ("ScanPacker$Net", "from", "[[I", true)
  | 12 => ("ScanPacker$Net", "chainOf", "[I", true)
  | 13 => ("ScanPacker$Net", "takes", "[I", true)
  | 14 => ("ScanPacker$Net", "cells", "[[I", true)
  | _ => ("ScanPacker$Net", "cellCounts", "[I", true)
def zT_Net : Nat → FieldType := fun k => match k with
  | 0 => .int
  | 1 => .int
  | 2 => .int
  | 3 => .int
  | 4 => .boolean
  | 5 => .int
  | 6 => .int
  | 7 => .array .int
  | 8 => .array .int
  | 9 => .array .int
  | 10 => .array .int
  | 11 => .array (.array .int)
  | 12 => .array .int
  | 13 => .array .int
  | 14 => .array (.array .int)
  | _ => .array .int
def zR_Packs : String := "ScanPacker$Packs"
def zF_Packs : u_T := fun k => match k with
  | _ => ("ScanPacker$Packs", "groups", "[I", true)
def zT_Packs : Nat → FieldType := fun k => match k with
  | _ => .array .int
def zR_Parser : String := "ScanPacker$Parser"
def zF_Parser : u_T := fun k => match k with
  | 0 => ("ScanPacker$Parser", "tape", "LScanPacker$Tape;", true)
  | 1 => ("ScanPacker$Parser", "draft", "LScanPacker$Net;", false)
  | 2 => ("ScanPacker$Parser", "fault", "I", false)
  | _ => ("ScanPacker$Parser", "place", "I", false)
def zT_Parser : Nat → FieldType := fun k => match k with
  | 0 => .object "ScanPacker$Tape"
  | 1 => .object "ScanPacker$Net"
  | 2 => .int
  | _ => .int
def zR_Program : String := "ScanPacker$Program"
def zF_Program : u_T := fun k => match k with
  | 0 => ("ScanPacker$Program", "patterns", "[I", true)
  | 1 => ("ScanPacker$Program", "catches", "[I", true)
  | 2 => ("ScanPacker$Program", "merged", "[I", true)
  | 3 => ("ScanPacker$Program", "size", "I", false)
  | 4 => ("ScanPacker$Program", "built", "Z", false)
  | 5 => ("ScanPacker$Program", "builtForDone", "J", false)
  | 6 => ("ScanPacker$Program", "builtForFilling", "I", false)
  | 7 => ("ScanPacker$Program", "mergedSet", "I", false)
  | 8 => ("ScanPacker$Program", "mergedOnes", "I", false)
  | 9 => ("ScanPacker$Program", "best", "[I", true)
  | 10 => ("ScanPacker$Program", "tried", "[I", true)
  | _ => ("ScanPacker$Program", "apart", "[[I", true)
def zT_Program : Nat → FieldType := fun k => match k with
  | 0 => .array .int
  | 1 => .array .int
  | 2 => .array .int
  | 3 => .int
  | 4 => .boolean
  | 5 => .long
  | 6 => .int
  | 7 => .int
  | 8 => .int
  | 9 => .array .int
  | 10 => .array .int
  | _ => .array (.array .int)
def zR_Session : String := "ScanPacker$Session"
def zF_Session : u_T := fun k => match k with
  | 0 => ("ScanPacker$Session", "state", "LScanPacker$State;", true)
  | 1 => ("ScanPacker$Session", "earlier", "[LScanPacker$State;", true)
  | 2 => ("ScanPacker$Session", "oldest", "I", false)
  | 3 => ("ScanPacker$Session", "acts", "I", false)
  | 4 => ("ScanPacker$Session", "noteRows", "[I", true)
  | 5 => ("ScanPacker$Session", "noteLines", "[I", true)
  | 6 => ("ScanPacker$Session", "noteValues", "[I", true)
  | 7 => ("ScanPacker$Session", "notes", "I", false)
  | _ => ("ScanPacker$Session", "refused", "[I", true)
def zT_Session : Nat → FieldType := fun k => match k with
  | 0 => .object "ScanPacker$State"
  | 1 => .array (.object "ScanPacker$State")
  | 2 => .int
  | 3 => .int
  | 4 => .array .int
  | 5 => .array .int
  | 6 => .array .int
  | 7 => .int
  | _ => .array .int
def zR_State : String := "ScanPacker$State"
def zF_State : u_T := fun k => match k with
  | 0 => ("ScanPacker$State", "inputs", "I", false)
  | 1 => ("ScanPacker$State", "cycles", "I", false)
  | 2 => ("ScanPacker$State", "defect", "I", false)
  | 3 => ("ScanPacker$State", "filling", "I", false)
  | 4 => ("ScanPacker$State", "done", "J", false)
  | 5 => ("ScanPacker$State", "picks", "I", false)
  | _ => ("ScanPacker$State", "picked", "[I", true)
def zT_State : Nat → FieldType := fun k => match k with
  | 0 => .int
  | 1 => .int
  | 2 => .int
  | 3 => .int
  | 4 => .long
  | 5 => .int
  | _ => .array .int
def zR_Tape : String := "ScanPacker$Tape"
def zF_Tape : u_T := fun k => match k with
  | 0 => ("ScanPacker$Tape", "bytes", "[B", true)
  | 1 => ("ScanPacker$Tape", "length", "I", false)
  | 2 => ("ScanPacker$Tape", "end", "I", false)
  | 3 => ("ScanPacker$Tape", "at", "I", false)
  | 4 => ("ScanPacker$Tape", "token", "I", false)
  | 5 => ("ScanPacker$Tape", "start", "I", false)
  | 6 => ("ScanPacker$Tape", "size", "I", false)
  | _ => ("ScanPacker$Tape", "value", "I", false)
def zT_Tape : Nat → FieldType := fun k => match k with
  | 0 => .array .byte
  | 1 => .int
  | 2 => .int
  | 3 => .int
  | 4 => .int
  | 5 => .int
  | 6 => .int
  | _ => .int
def zR_Waves : String := "ScanPacker$Waves"
def zF_Waves : u_T := fun k => match k with
  | 0 => ("ScanPacker$Waves", "inOnes", "[J", true)
  | 1 => ("ScanPacker$Waves", "inZeros", "[J", true)
  | 2 => ("ScanPacker$Waves", "ones", "[J", true)
  | _ => ("ScanPacker$Waves", "zeros", "[J", true)
def zT_Waves : Nat → FieldType := fun k => match k with
  | 0 => .array .long
  | 1 => .array .long
  | 2 => .array .long
  | _ => .array .long
def zR_Model : String := "ScanPackerModel"
def zF_Model : u_T := fun k => match k with
  | 0 => ("ScanPackerModel", "kinds", "[Ljava/lang/String;", true)
  | 1 => ("ScanPackerModel", "others", "[Ljava/lang/String;", true)
  | 2 => ("ScanPackerModel", "code", "I", false)
  | 3 => ("ScanPackerModel", "told", "[I", true)
  | 4 => ("ScanPackerModel", "kind", "[I", true)
  | 5 => ("ScanPackerModel", "many", "[I", true)
  | 6 => ("ScanPackerModel", "of", "[I", true)
  | 7 => ("ScanPackerModel", "seen", "[I", true)
  | 8 => ("ScanPackerModel", "chainOf", "[I", true)
  | 9 => ("ScanPackerModel", "takes", "[I", true)
  | 10 => ("ScanPackerModel", "cells", "[I", true)
  | 11 => ("ScanPackerModel", "cell", "[I", true)
  | 12 => ("ScanPackerModel", "nameLong", "[I", true)
  | 13 => ("ScanPackerModel", "name", "[I", true)
  | 14 => ("ScanPackerModel", "now", "[I", true)
  | 15 => ("ScanPackerModel", "status", "[I", true)
  | 16 => ("ScanPackerModel", "tape", "[I", true)
  | 17 => ("ScanPackerModel", "taped", "I", false)
  | 18 => ("ScanPackerModel", "at", "I", false)
  | 19 => ("ScanPackerModel", "textSize", "I", false)
  | 20 => ("ScanPackerModel", "token", "I", false)
  | 21 => ("ScanPackerModel", "number", "I", false)
  | 22 => ("ScanPackerModel", "begins", "I", false)
  | 23 => ("ScanPackerModel", "stops", "I", false)
  | 24 => ("ScanPackerModel", "bad", "I", false)
  | 25 => ("ScanPackerModel", "badPlace", "I", false)
  | 26 => ("ScanPackerModel", "faultPlace", "I", false)
  | 27 => ("ScanPackerModel", "input", "[I", true)
  | 28 => ("ScanPackerModel", "value", "[I", true)
  | 29 => ("ScanPackerModel", "plain", "[I", true)
  | 30 => ("ScanPackerModel", "isTest", "[Z", true)
  | 31 => ("ScanPackerModel", "tests", "[I", true)
  | 32 => ("ScanPackerModel", "cube", "[I", true)
  | 33 => ("ScanPackerModel", "sets", "[I", true)
  | 34 => ("ScanPackerModel", "lost", "[I", true)
  | 35 => ("ScanPackerModel", "merged", "[I", true)
  | 36 => ("ScanPackerModel", "pattern", "[I", true)
  | 37 => ("ScanPackerModel", "caught", "[I", true)
  | 38 => ("ScanPackerModel", "mergedMany", "[I", true)
  | 39 => ("ScanPackerModel", "isOpen", "[Z", true)
  | 40 => ("ScanPackerModel", "patterns", "I", false)
  | 41 => ("ScanPackerModel", "apart", "[I", true)
  | 42 => ("ScanPackerModel", "order", "[I", true)
  | 43 => ("ScanPackerModel", "best", "[I", true)
  | 44 => ("ScanPackerModel", "group", "[I", true)
  | 45 => ("ScanPackerModel", "acts", "I", false)
  | 46 => ("ScanPackerModel", "past", "[I", true)
  | 47 => ("ScanPackerModel", "noted", "I", false)
  | 48 => ("ScanPackerModel", "notedRow", "[I", true)
  | 49 => ("ScanPackerModel", "notedLine", "[I", true)
  | 50 => ("ScanPackerModel", "notedValue", "[I", true)
  | 51 => ("ScanPackerModel", "shown", "[I", true)
  | 52 => ("ScanPackerModel", "fitting", "[Z", true)
  | 53 => ("ScanPackerModel", "seedNow", "I", false)
  | 54 => ("ScanPackerModel", "rowThen", "[I", true)
  | 55 => ("ScanPackerModel", "hasImage", "Z", false)
  | 56 => ("ScanPackerModel", "actsThen", "I", false)
  | 57 => ("ScanPackerModel", "notedThen", "I", false)
  | 58 => ("ScanPackerModel", "imageRow", "[I", true)
  | 59 => ("ScanPackerModel", "pastThen", "[I", true)
  | 60 => ("ScanPackerModel", "notedRowThen", "[I", true)
  | 61 => ("ScanPackerModel", "notedLineThen", "[I", true)
  | 62 => ("ScanPackerModel", "notedValueThen", "[I", true)
  | _ => ("ScanPackerModel", "statusThen", "[I", true)
def zT_Model : Nat → FieldType := fun k => match k with
  | 0 => .array (.object "java/lang/String")
  | 1 => .array (.object "java/lang/String")
  | 2 => .int
  | 3 => .array .int
  | 4 => .array .int
  | 5 => .array .int
  | 6 => .array .int
  | 7 => .array .int
  | 8 => .array .int
  | 9 => .array .int
  | 10 => .array .int
  | 11 => .array .int
  | 12 => .array .int
  | 13 => .array .int
  | 14 => .array .int
  | 15 => .array .int
  | 16 => .array .int
  | 17 => .int
  | 18 => .int
  | 19 => .int
  | 20 => .int
  | 21 => .int
  | 22 => .int
  | 23 => .int
  | 24 => .int
  | 25 => .int
  | 26 => .int
  | 27 => .array .int
  | 28 => .array .int
  | 29 => .array .int
  | 30 => .array .boolean
  | 31 => .array .int
  | 32 => .array .int
  | 33 => .array .int
  | 34 => .array .int
  | 35 => .array .int
  | 36 => .array .int
  | 37 => .array .int
  | 38 => .array .int
  | 39 => .array .boolean
  | 40 => .int
  | 41 => .array .int
  | 42 => .array .int
  | 43 => .array .int
  | 44 => .array .int
  | 45 => .int
  | 46 => .array .int
  | 47 => .int
  | 48 => .array .int
  | 49 => .array .int
  | 50 => .array .int
  | 51 => .array .int
  | 52 => .array .boolean
  | 53 => .int
  | 54 => .array .int
  | 55 => .boolean
  | 56 => .int
  | 57 => .int
  | 58 => .array .int
  | 59 => .array .int
  | 60 => .array .int
  | 61 => .array .int
  | 62 => .array .int
  | _ => .array .int
def zF_X : u_T := fun _ => ("", "", "", false)
/-- the classes whose objects the worlds hold -/
abbrev classes : List vw_C := [("ScanPacker", zF_Main, 11), ("ScanPacker$Catalog", zF_Catalog, 13), ("ScanPacker$Diagnosis", zF_Diagnosis, 6), ("ScanPacker$Net", zF_Net, 16), ("ScanPacker$Packs", zF_Packs, 1), ("ScanPacker$Parser", zF_Parser, 4), ("ScanPacker$Program", zF_Program, 12), ("ScanPacker$Session", zF_Session, 9), ("ScanPacker$State", zF_State, 7), ("ScanPacker$Tape", zF_Tape, 8), ("ScanPacker$Waves", zF_Waves, 4), ("ScanPackerModel", zF_Model, 64), ("java/lang/IllegalArgumentException", zF_X, 0), ("java/util/NoSuchElementException", zF_X, 0)]
/-- the kinds of cells: how many places, types of places (0 int, 1 long, 2 reference, 3 boolean, 4 byte), where a final reference points to (kind, how far behind) -/
def zKO : List (Nat × List Nat × List (Option (Nat × Nat))) := [
  (11, [2, 2, 0, 2, 2, 2, 2, 2, 2, 3, 2], [some (5, 1), none, none, some (1, 74), some (6, 137), some (4, 150), some (2, 152), some (7, 155), some (7, 243), none, some (8, 331)]),
  (13, [0, 0, 0, 1, 2, 2, 2, 2, 2, 2, 2, 2, 2], [none, none, none, none, some (32, 1), some (34, 47), some (35, 48), some (36, 49), some (37, 50), some (38, 51), some (39, 52), some (10, 53), some (10, 58)]),
  (6, [2, 0, 3, 0, 0, 2], [some (52, 1), none, none, none, none, some (53, 2)]),
  (16, [0, 0, 0, 0, 3, 0, 0, 2, 2, 2, 2, 2, 2, 2, 2, 2], [none, none, none, none, none, none, none, some (21, 1), some (22, 2), some (23, 3), some (24, 4), some (25, 5), some (27, 28), some (28, 29), some (29, 30), some (31, 34)]),
  (1, [2], [some (51, 1)]),
  (4, [2, 2, 0, 0], [some (9, 1), none, none, none]),
  (12, [2, 2, 2, 0, 3, 1, 0, 0, 0, 2, 2, 2], [some (44, 1), some (45, 2), some (46, 3), none, none, none, none, none, none, some (47, 4), some (48, 5), some (49, 6)]),
  (9, [2, 2, 0, 0, 2, 2, 2, 0, 2], [some (8, 1), some (55, 3), none, none, some (56, 4), some (57, 5), some (58, 6), none, some (59, 7)]),
  (7, [0, 0, 0, 0, 1, 0, 2], [none, none, none, none, none, none, some (54, 1)]),
  (8, [2, 0, 0, 0, 0, 0, 0, 0], [some (20, 1), none, none, none, none, none, none, none]),
  (4, [2, 2, 2, 2], [some (40, 1), some (41, 2), some (42, 3), some (43, 4)]),
  (64, [2, 2, 0, 2, 2, 2, 2, 2, 2, 2, 2, 2, 2, 2, 2, 2, 2, 0, 0, 0, 0, 0, 0, 0, 0, 0, 0, 2, 2, 2, 2, 2, 2, 2, 2, 2, 2, 2, 2, 2, 0, 2, 2, 2, 2, 0, 2, 0, 2, 2, 2, 2, 2, 0, 2, 3, 0, 0, 2, 2, 2, 2, 2, 2], [some (60, 1), some (61, 2), none, some (62, 3), some (63, 4), some (64, 5), some (65, 6), some (66, 7), some (67, 8), some (68, 9), some (69, 10), some (70, 11), some (71, 12), some (72, 13), some (73, 14), some (74, 15), some (75, 16), none, none, none, none, none, none, none, none, none, none, some (76, 17), some (77, 18), some (78, 19), some (79, 20), some (80, 21), some (81, 22), some (82, 23), some (83, 24), some (84, 25), some (85, 26), some (86, 27), some (87, 28), some (88, 29), none, some (89, 30), some (90, 31), some (91, 32), some (92, 33), none, some (93, 34), none, some (94, 35), some (95, 36), some (96, 37), some (97, 38), some (98, 39), none, some (99, 40), none, none, none, some (100, 41), some (101, 42), some (102, 43), some (103, 44), some (104, 45), some (105, 46)]),
  (0, [], []), (0, [], [])]
/-- the rows: length, type of elements, where element k points to (kind, base, stride) -/
def zKA : List (Nat × Nat × FieldType × Option (Nat × Nat × Nat)) := [
  (900, 4, .byte, none),
  (22, 0, .int, none),
  (22, 0, .int, none),
  (22, 0, .int, none),
  (22, 0, .int, none),
  (22, 2, .array .int, some (26, 1, 1)),
  (3, 0, .int, none),
  (6, 0, .int, none),
  (6, 0, .int, none),
  (3, 2, .array .int, some (30, 1, 1)),
  (6, 0, .int, none),
  (3, 0, .int, none),
  (45, 2, .array .long, some (33, 1, 1)),
  (22, 1, .long, none),
  (44, 1, .long, none),
  (44, 0, .int, none),
  (44, 0, .int, none),
  (44, 0, .int, none),
  (729, 0, .int, none),
  (729, 0, .int, none),
  (6, 1, .long, none),
  (6, 1, .long, none),
  (22, 1, .long, none),
  (22, 1, .long, none),
  (44, 0, .int, none),
  (44, 0, .int, none),
  (44, 0, .int, none),
  (6, 0, .int, none),
  (6, 0, .int, none),
  (6, 2, .array .int, some (50, 1, 1)),
  (6, 0, .int, none),
  (8, 0, .int, none),
  (45, 0, .int, none),
  (64, 0, .int, none),
  (8, 0, .int, none),
  (40, 2, .object "ScanPacker$State", some (8, 5, 2)),
  (10, 0, .int, none),
  (10, 0, .int, none),
  (10, 0, .int, none),
  (3, 0, .int, none),
  (6, 2, .object "java/lang/String", none),
  (5, 2, .object "java/lang/String", none),
  (10, 0, .int, none),
  (44, 0, .int, none),
  (44, 0, .int, none),
  (132, 0, .int, none),
  (44, 0, .int, none),
  (12, 0, .int, none),
  (12, 0, .int, none),
  (6, 0, .int, none),
  (36, 0, .int, none),
  (44, 0, .int, none),
  (264, 0, .int, none),
  (57, 0, .int, none),
  (3, 0, .int, none),
  (900, 0, .int, none),
  (6, 0, .int, none),
  (22, 0, .int, none),
  (22, 0, .int, none),
  (2816, 3, .boolean, none),
  (44, 0, .int, none),
  (264, 0, .int, none),
  (44, 0, .int, none),
  (44, 0, .int, none),
  (6, 0, .int, none),
  (44, 0, .int, none),
  (44, 0, .int, none),
  (44, 0, .int, none),
  (44, 3, .boolean, none),
  (36, 0, .int, none),
  (6, 0, .int, none),
  (6, 0, .int, none),
  (8, 0, .int, none),
  (2280, 0, .int, none),
  (10, 0, .int, none),
  (10, 0, .int, none),
  (10, 0, .int, none),
  (45, 0, .int, none),
  (45, 3, .boolean, none),
  (57, 0, .int, none),
  (57, 0, .int, none),
  (2280, 0, .int, none),
  (10, 0, .int, none),
  (10, 0, .int, none),
  (10, 0, .int, none),
  (3, 0, .int, none),
  (1, 1, .long, none)]
def zSO : Nat := 1000000
def zobj (c : Nat) : Bool := Nat.blt c 14
def zN (c : Nat) : Nat := match zobj c with
  | true => (zKO.getD c (0, [], [])).1
  | false => (zKA.getD (c - 20) (0, 0, .int, none)).1
def zty (c k : Nat) : Nat := match zobj c with
  | true => (zKO.getD c (0, [], [])).2.1.getD k 0
  | false => (zKA.getD (c - 20) (0, 0, .int, none)).2.1
def zel (c : Nat) : FieldType := (zKA.getD (c - 20) (0, 0, .int, none)).2.2.1
/-- the kinds that are rows -/
def zrow (c : Nat) : Bool := Nat.ble 20 c && Nat.blt c 107
/-- where a final reference points to, when all is made -/
def zst (c o k : Nat) : Option (Nat × Nat) := match zobj c with
  | true => match (zKO.getD c (0, [], [])).2.2.getD k none with
    | some q => some (q.1, o + q.2)
    | none => none
  | false => match c with
    | 60 => some (202, 1000010 + k)
    | 61 => some (202, 1000016 + k)
    | _ => match (zKA.getD (c - 20) (0, 0, .int, none)).2.2.2 with
      | some q => some (q.1, o + (q.2.1 + q.2.2 * k))
      | none => none
def zcn (c : Nat) : String := (classes.getD c ("", zF_X, 0)).1
def zcF (c : Nat) : u_T := (classes.getD c ("", zF_X, 0)).2.1
def zcT (c : Nat) : Nat → FieldType := match c with
  | 0 => zT_Main
  | 1 => zT_Catalog
  | 2 => zT_Diagnosis
  | 3 => zT_Net
  | 4 => zT_Packs
  | 5 => zT_Parser
  | 6 => zT_Program
  | 7 => zT_Session
  | 8 => zT_State
  | 9 => zT_Tape
  | 10 => zT_Waves
  | 11 => zT_Model
  | _ => fun _ => .int
/-- which class is thrown: 1 NoSuchElement, 2 IllegalArgument -/
def zexn (k : Nat) : String := match k with | 1 => "java/util/NoSuchElementException" | _ => "java/lang/IllegalArgumentException"
/-- the words that every method takes with it -/
def zW : List Cond := lw_tbl.filter goodWord
theorem zW_of {w : Cond} (i : Nat) (h : lw_tbl[i]? = some w) (hg : goodWord w = true) : w ∈ zW := List.mem_filter.mpr ⟨List.mem_of_getElem? h, hg⟩
theorem zw_Main : ∀ w ∈ u_ws "ScanPacker" zF_Main 11, w ∈ zW := by
  intro w hw
  obtain ⟨k, hk, rfl⟩ := List.mem_map.mp hw
  have hk := List.mem_range.mp hk
  have hp : ∀ k, k < 11 → lw_tbl[([679, 681, 683, 685, 687, 689, 691, 693, 695, 697, 699] : List Nat).getD k 0]? = some (u_lay "ScanPacker" zF_Main k) ∧ goodWord (u_lay "ScanPacker" zF_Main k) = true := by decide +kernel
  exact zW_of _ (hp k hk).1 (hp k hk).2
theorem zw_Catalog : ∀ w ∈ u_ws "ScanPacker$Catalog" zF_Catalog 13, w ∈ zW := by
  intro w hw
  obtain ⟨k, hk, rfl⟩ := List.mem_map.mp hw
  have hk := List.mem_range.mp hk
  have hp : ∀ k, k < 13 → lw_tbl[([369, 371, 373, 375, 377, 379, 381, 383, 385, 387, 389, 391, 393] : List Nat).getD k 0]? = some (u_lay "ScanPacker$Catalog" zF_Catalog k) ∧ goodWord (u_lay "ScanPacker$Catalog" zF_Catalog k) = true := by decide +kernel
  exact zW_of _ (hp k hk).1 (hp k hk).2
theorem zw_Diagnosis : ∀ w ∈ u_ws "ScanPacker$Diagnosis" zF_Diagnosis 6, w ∈ zW := by
  intro w hw
  obtain ⟨k, hk, rfl⟩ := List.mem_map.mp hw
  have hk := List.mem_range.mp hk
  have hp : ∀ k, k < 6 → lw_tbl[([474, 476, 478, 480, 482, 484] : List Nat).getD k 0]? = some (u_lay "ScanPacker$Diagnosis" zF_Diagnosis k) ∧ goodWord (u_lay "ScanPacker$Diagnosis" zF_Diagnosis k) = true := by decide +kernel
  exact zW_of _ (hp k hk).1 (hp k hk).2
theorem zw_Net : ∀ w ∈ u_ws "ScanPacker$Net" zF_Net 16, w ∈ zW := by
  intro w hw
  obtain ⟨k, hk, rfl⟩ := List.mem_map.mp hw
  have hk := List.mem_range.mp hk
  have hp : ∀ k, k < 16 → lw_tbl[([260, 262, 264, 266, 268, 270, 272, 274, 276, 278, 280, 282, 284, 286, 288, 290] : List Nat).getD k 0]? = some (u_lay "ScanPacker$Net" zF_Net k) ∧ goodWord (u_lay "ScanPacker$Net" zF_Net k) = true := by decide +kernel
  exact zW_of _ (hp k hk).1 (hp k hk).2
theorem zw_Packs : ∀ w ∈ u_ws "ScanPacker$Packs" zF_Packs 1, w ∈ zW := by
  intro w hw
  obtain ⟨k, hk, rfl⟩ := List.mem_map.mp hw
  have hk := List.mem_range.mp hk
  have hp : ∀ k, k < 1 → lw_tbl[([454] : List Nat).getD k 0]? = some (u_lay "ScanPacker$Packs" zF_Packs k) ∧ goodWord (u_lay "ScanPacker$Packs" zF_Packs k) = true := by decide +kernel
  exact zW_of _ (hp k hk).1 (hp k hk).2
theorem zw_Parser : ∀ w ∈ u_ws "ScanPacker$Parser" zF_Parser 4, w ∈ zW := by
  intro w hw
  obtain ⟨k, hk, rfl⟩ := List.mem_map.mp hw
  have hk := List.mem_range.mp hk
  have hp : ∀ k, k < 4 → lw_tbl[([300, 302, 304, 306] : List Nat).getD k 0]? = some (u_lay "ScanPacker$Parser" zF_Parser k) ∧ goodWord (u_lay "ScanPacker$Parser" zF_Parser k) = true := by decide +kernel
  exact zW_of _ (hp k hk).1 (hp k hk).2
theorem zw_Program : ∀ w ∈ u_ws "ScanPacker$Program" zF_Program 12, w ∈ zW := by
  intro w hw
  obtain ⟨k, hk, rfl⟩ := List.mem_map.mp hw
  have hk := List.mem_range.mp hk
  have hp : ∀ k, k < 12 → lw_tbl[([421, 423, 425, 427, 429, 431, 433, 435, 437, 439, 441, 443] : List Nat).getD k 0]? = some (u_lay "ScanPacker$Program" zF_Program k) ∧ goodWord (u_lay "ScanPacker$Program" zF_Program k) = true := by decide +kernel
  exact zW_of _ (hp k hk).1 (hp k hk).2
theorem zw_Session : ∀ w ∈ u_ws "ScanPacker$Session" zF_Session 9, w ∈ zW := by
  intro w hw
  obtain ⟨k, hk, rfl⟩ := List.mem_map.mp hw
  have hk := List.mem_range.mp hk
  have hp : ∀ k, k < 9 → lw_tbl[([547, 549, 551, 553, 555, 557, 559, 561, 563] : List Nat).getD k 0]? = some (u_lay "ScanPacker$Session" zF_Session k) ∧ goodWord (u_lay "ScanPacker$Session" zF_Session k) = true := by decide +kernel
  exact zW_of _ (hp k hk).1 (hp k hk).2
theorem zw_State : ∀ w ∈ u_ws "ScanPacker$State" zF_State 7, w ∈ zW := by
  intro w hw
  obtain ⟨k, hk, rfl⟩ := List.mem_map.mp hw
  have hk := List.mem_range.mp hk
  have hp : ∀ k, k < 7 → lw_tbl[([514, 516, 518, 520, 522, 524, 526] : List Nat).getD k 0]? = some (u_lay "ScanPacker$State" zF_State k) ∧ goodWord (u_lay "ScanPacker$State" zF_State k) = true := by decide +kernel
  exact zW_of _ (hp k hk).1 (hp k hk).2
theorem zw_Tape : ∀ w ∈ u_ws "ScanPacker$Tape" zF_Tape 8, w ∈ zW := by
  intro w hw
  obtain ⟨k, hk, rfl⟩ := List.mem_map.mp hw
  have hk := List.mem_range.mp hk
  have hp : ∀ k, k < 8 → lw_tbl[([179, 181, 183, 185, 187, 189, 191, 193] : List Nat).getD k 0]? = some (u_lay "ScanPacker$Tape" zF_Tape k) ∧ goodWord (u_lay "ScanPacker$Tape" zF_Tape k) = true := by decide +kernel
  exact zW_of _ (hp k hk).1 (hp k hk).2
theorem zw_Waves : ∀ w ∈ u_ws "ScanPacker$Waves" zF_Waves 4, w ∈ zW := by
  intro w hw
  obtain ⟨k, hk, rfl⟩ := List.mem_map.mp hw
  have hk := List.mem_range.mp hk
  have hp : ∀ k, k < 4 → lw_tbl[([331, 333, 335, 337] : List Nat).getD k 0]? = some (u_lay "ScanPacker$Waves" zF_Waves k) ∧ goodWord (u_lay "ScanPacker$Waves" zF_Waves k) = true := by decide +kernel
  exact zW_of _ (hp k hk).1 (hp k hk).2
theorem zw_Model : ∀ w ∈ u_ws "ScanPackerModel" zF_Model 64, w ∈ zW := by
  intro w hw
  obtain ⟨k, hk, rfl⟩ := List.mem_map.mp hw
  have hk := List.mem_range.mp hk
  have hp : ∀ k, k < 64 → lw_tbl[([1501, 1503, 1505, 1507, 1509, 1511, 1513, 1515, 1517, 1519, 1521, 1523, 1525, 1527, 1529, 1531, 1533, 1535, 1537, 1539, 1541, 1543, 1545, 1547, 1549, 1551, 1553, 1555, 1557, 1559, 1561, 1563, 1565, 1567, 1569, 1571, 1573, 1575, 1577, 1579, 1581, 1583, 1585, 1587, 1589, 1591, 1593, 1595, 1597, 1599, 1601, 1603, 1605, 1607, 1609, 1611, 1613, 1615, 1617, 1619, 1621, 1623, 1625, 1627] : List Nat).getD k 0]? = some (u_lay "ScanPackerModel" zF_Model k) ∧ goodWord (u_lay "ScanPackerModel" zF_Model k) = true := by decide +kernel
  exact zW_of _ (hp k hk).1 (hp k hk).2
