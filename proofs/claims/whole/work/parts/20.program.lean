/-! the program as MM reads it, laid by wip/whole/gentab.py out of the printed Statement -/
def mt_T0 : u_T := fun k => match k with
  | 0 => ("PondHouse", "tokens", "LPondHouse$Tokens;", true)
  | 1 => ("PondHouse", "reader", "LPondHouse$Reader;", true)
  | 2 => ("PondHouse", "creatures", "[LPondHouse$Creature;", true)
  | 3 => ("PondHouse", "outcomes", "[I", true)
  | 4 => ("PondHouse", "longActs", "[LPondHouse$LongAct;", true)
  | 5 => ("PondHouse", "runner", "LPondHouse$Runner;", true)
  | 6 => ("PondHouse", "patcher", "LPondHouse$Patcher;", true)
  | 7 => ("PondHouse", "pond", "LPondHouse$Pond;", false)
  | 8 => ("PondHouse", "made", "I", false)
  | 9 => ("PondHouse", "beats", "I", false)
  | 10 => ("PondHouse", "woken", "I", false)
  | 11 => ("PondHouse", "gaveLast", "I", false)
  | 12 => ("PondHouse", "failedLast", "I", false)
  | _ => ("PondHouse", "statementsLast", "I", false)
def mt_r0 : vw_C := ("PondHouse", mt_T0, 14)
def mt_T1 : u_T := fun k => match k with
  | 0 => ("PondHouse$Tokens", "tape", "[I", true)
  | 1 => ("PondHouse$Tokens", "length", "I", false)
  | 2 => ("PondHouse$Tokens", "sorts", "[I", true)
  | 3 => ("PondHouse$Tokens", "places", "[I", true)
  | 4 => ("PondHouse$Tokens", "values", "[I", true)
  | 5 => ("PondHouse$Tokens", "count", "I", false)
  | _ => ("PondHouse$Tokens", "wordKeys", "[I", true)
def mt_r1 : vw_C := ("PondHouse$Tokens", mt_T1, 7)
def mt_T2 : u_T := fun k => match k with
  | 0 => ("PondHouse$Reader", "tokens", "LPondHouse$Tokens;", true)
  | 1 => ("PondHouse$Reader", "nameKeys", "[I", true)
  | 2 => ("PondHouse$Reader", "nameCount", "I", false)
  | 3 => ("PondHouse$Reader", "next", "I", false)
  | 4 => ("PondHouse$Reader", "faultSort", "I", false)
  | 5 => ("PondHouse$Reader", "faultPlace", "I", false)
  | 6 => ("PondHouse$Reader", "code", "[I", true)
  | 7 => ("PondHouse$Reader", "codeSize", "I", false)
  | 8 => ("PondHouse$Reader", "statements", "I", false)
  | 9 => ("PondHouse$Reader", "change", "I", false)
  | 10 => ("PondHouse$Reader", "firstValue", "I", false)
  | 11 => ("PondHouse$Reader", "building", "LPondHouse$Pond;", false)
  | _ => ("PondHouse$Reader", "steps", "Ljava/util/ArrayList;", false)
def mt_r2 : vw_C := ("PondHouse$Reader", mt_T2, 13)
def mt_T3 : u_T := fun k => match k with
  | 0 => ("java/util/ArrayList", "elementData", "[Ljava/lang/Object;", false)
  | 1 => ("java/util/ArrayList", "size", "I", false)
  | _ => ("java/util/AbstractList", "modCount", "I", false)
def mt_r3 : vw_C := ("java/util/ArrayList", mt_T3, 3)
def mt_T4 : u_T := fun k => match k with
  | 0 => ("PondHouse$Runner", "creatures", "[LPondHouse$Creature;", true)
  | 1 => ("PondHouse$Runner", "frames", "[LPondHouse$Frame;", true)
  | 2 => ("PondHouse$Runner", "base", "LPondHouse$Frame;", true)
  | 3 => ("PondHouse$Runner", "open", "I", false)
  | 4 => ("PondHouse$Runner", "waiting", "[I", true)
  | 5 => ("PondHouse$Runner", "waitingCount", "I", false)
  | 6 => ("PondHouse$Runner", "mayRest", "Z", false)
  | 7 => ("PondHouse$Runner", "outcomeNow", "I", false)
  | 8 => ("PondHouse$Runner", "gave", "I", false)
  | 9 => ("PondHouse$Runner", "failedWith", "I", false)
  | 10 => ("PondHouse$Runner", "statements", "I", false)
  | 11 => ("PondHouse$Runner", "notes", "Z", false)
  | 12 => ("PondHouse$Runner", "ranParts", "[I", true)
  | _ => ("PondHouse$Runner", "ranCount", "I", false)
def mt_r4 : vw_C := ("PondHouse$Runner", mt_T4, 14)
def mt_T5 : u_T := fun k => match k with
  | 0 => ("PondHouse$Frame", "creature", "LPondHouse$Creature;", false)
  | 1 => ("PondHouse$Frame", "at", "LPondHouse$Kind;", false)
  | 2 => ("PondHouse$Frame", "act", "I", false)
  | 3 => ("PondHouse$Frame", "code", "[I", false)
  | 4 => ("PondHouse$Frame", "place", "I", false)
  | 5 => ("PondHouse$Frame", "last", "I", false)
  | _ => ("PondHouse$Frame", "v", "I", false)
def mt_r5 : vw_C := ("PondHouse$Frame", mt_T5, 7)
def mt_T6 : u_T := fun k => match k with
  | 0 => ("PondHouse$Patcher", "creatures", "[LPondHouse$Creature;", true)
  | 1 => ("PondHouse$Patcher", "runner", "LPondHouse$Runner;", true)
  | 2 => ("PondHouse$Patcher", "carried", "[LPondHouse$Creature;", true)
  | 3 => ("PondHouse$Patcher", "patches", "[LPondHouse$Patch;", true)
  | 4 => ("PondHouse$Patcher", "kept", "I", false)
  | 5 => ("PondHouse$Patcher", "waiting", "LPondHouse$Patch;", false)
  | 6 => ("PondHouse$Patcher", "waited", "I", false)
  | 7 => ("PondHouse$Patcher", "latest", "LPondHouse$Patch;", false)
  | 8 => ("PondHouse$Patcher", "before", "LPondHouse$Pond;", false)
  | 9 => ("PondHouse$Patcher", "generation", "I", false)
  | 10 => ("PondHouse$Patcher", "why", "I", false)
  | 11 => ("PondHouse$Patcher", "whichChange", "I", false)
  | 12 => ("PondHouse$Patcher", "whichCreature", "I", false)
  | 13 => ("PondHouse$Patcher", "chain", "[LPondHouse$Kind;", true)
  | _ => ("PondHouse$Patcher", "goesTo", "[I", true)
def mt_r6 : vw_C := ("PondHouse$Patcher", mt_T6, 15)
def mt_T7 : u_T := fun k => match k with
  | 0 => ("PondHouse$Creature", "number", "I", true)
  | 1 => ("PondHouse$Creature", "living", "Z", false)
  | 2 => ("PondHouse$Creature", "kind", "LPondHouse$Kind;", false)
  | 3 => ("PondHouse$Creature", "values", "[I", true)
  | 4 => ("PondHouse$Creature", "isLost", "[Z", true)
  | _ => ("PondHouse$Creature", "lost", "[I", true)
def mt_r7 : vw_C := ("PondHouse$Creature", mt_T7, 6)
def mt_T8 : u_T := fun k => match k with
  | 0 => ("PondHouse$Pond", "kinds", "[LPondHouse$Kind;", true)
  | _ => ("PondHouse$Pond", "count", "I", false)
def mt_r8 : vw_C := ("PondHouse$Pond", mt_T8, 2)
def mt_T9 : u_T := fun k => match k with
  | 0 => ("PondHouse$LongAct", "frame", "LPondHouse$Frame;", true)
  | 1 => ("PondHouse$LongAct", "known", "Z", false)
  | 2 => ("PondHouse$LongAct", "underWay", "Z", false)
  | 3 => ("PondHouse$LongAct", "forbids", "Z", false)
  | 4 => ("PondHouse$LongAct", "runs", "I", false)
  | 5 => ("PondHouse$LongAct", "result", "I", false)
  | _ => ("PondHouse$LongAct", "gaveAtEnd", "I", false)
def mt_r9 : vw_C := ("PondHouse$LongAct", mt_T9, 7)
def mt_T10 : u_T := fun k => match k with
  | 0 => ("PondHouse$Step", "sort", "I", true)
  | 1 => ("PondHouse$Step", "change", "I", true)
  | 2 => ("PondHouse$Step", "kind", "I", true)
  | 3 => ("PondHouse$Step", "name", "I", true)
  | 4 => ("PondHouse$Step", "other", "I", true)
  | _ => ("PondHouse$Step", "code", "[I", true)
def mt_r10 : vw_C := ("PondHouse$Step", mt_T10, 6)
def mt_T11 : u_T := fun k => match k with
  | 0 => ("PondHouse$Kind", "name", "I", true)
  | 1 => ("PondHouse$Kind", "above", "LPondHouse$Kind;", false)
  | 2 => ("PondHouse$Kind", "generation", "I", false)
  | 3 => ("PondHouse$Kind", "touched", "Z", false)
  | 4 => ("PondHouse$Kind", "fields", "I", false)
  | 5 => ("PondHouse$Kind", "fieldName", "[I", true)
  | 6 => ("PondHouse$Kind", "fieldFirst", "[I", true)
  | 7 => ("PondHouse$Kind", "fieldFrom", "[I", true)
  | 8 => ("PondHouse$Kind", "statics", "I", false)
  | 9 => ("PondHouse$Kind", "staticName", "[I", true)
  | 10 => ("PondHouse$Kind", "staticValue", "[I", true)
  | 11 => ("PondHouse$Kind", "acts", "I", false)
  | 12 => ("PondHouse$Kind", "actName", "[I", true)
  | 13 => ("PondHouse$Kind", "actCode", "[[I", true)
  | 14 => ("PondHouse$Kind", "isField", "[Z", true)
  | 15 => ("PondHouse$Kind", "staticHolder", "[LPondHouse$Kind;", true)
  | 16 => ("PondHouse$Kind", "staticPlace", "[I", true)
  | 17 => ("PondHouse$Kind", "actHolder", "[LPondHouse$Kind;", true)
  | _ => ("PondHouse$Kind", "actPlace", "[I", true)
def mt_r11 : vw_C := ("PondHouse$Kind", mt_T11, 19)
def mt_T12 : u_T := fun k => match k with
  | 0 => ("PondHouse$Patch", "steps", "Ljava/util/ArrayList;", true)
  | _ => ("PondHouse$Patch", "state", "I", false)
def mt_r12 : vw_C := ("PondHouse$Patch", mt_T12, 2)
def mt_T13 : u_T := fun k => match k with
  | 0 => ("PondHouseModel", "tape", "[I", true)
  | 1 => ("PondHouseModel", "taped", "I", false)
  | 2 => ("PondHouseModel", "at", "I", false)
  | 3 => ("PondHouseModel", "token", "I", false)
  | 4 => ("PondHouseModel", "tokenAt", "I", false)
  | 5 => ("PondHouseModel", "number", "I", false)
  | 6 => ("PondHouseModel", "names", "[J", true)
  | 7 => ("PondHouseModel", "nameMany", "I", false)
  | 8 => ("PondHouseModel", "words", "[J", true)
  | 9 => ("PondHouseModel", "knows", "Z", false)
  | 10 => ("PondHouseModel", "read", "J", false)
  | 11 => ("PondHouseModel", "wrong", "I", false)
  | 12 => ("PondHouseModel", "wrongAt", "I", false)
  | 13 => ("PondHouseModel", "faultKind", "I", false)
  | 14 => ("PondHouseModel", "faultPlace", "I", false)
  | 15 => ("PondHouseModel", "nodes", "[I", true)
  | 16 => ("PondHouseModel", "made", "I", false)
  | 17 => ("PondHouseModel", "name", "I", false)
  | 18 => ("PondHouseModel", "nest", "I", false)
  | 19 => ("PondHouseModel", "term", "I", false)
  | 20 => ("PondHouseModel", "statements", "I", false)
  | 21 => ("PondHouseModel", "first", "I", false)
  | 22 => ("PondHouseModel", "one", "I", false)
  | 23 => ("PondHouseModel", "worlds", "[I", true)
  | 24 => ("PondHouseModel", "told", "I", false)
  | 25 => ("PondHouseModel", "patches", "I", false)
  | 26 => ("PondHouseModel", "waited", "I", false)
  | 27 => ("PondHouseModel", "greatest", "I", false)
  | 28 => ("PondHouseModel", "waits", "I", false)
  | 29 => ("PondHouseModel", "latest", "I", false)
  | 30 => ("PondHouseModel", "wakes", "I", false)
  | 31 => ("PondHouseModel", "heads", "[I", true)
  | 32 => ("PondHouseModel", "states", "[I", true)
  | 33 => ("PondHouseModel", "creatures", "I", false)
  | 34 => ("PondHouseModel", "lives", "[Z", true)
  | 35 => ("PondHouseModel", "kindAt", "[I", true)
  | 36 => ("PondHouseModel", "values", "[I", true)
  | 37 => ("PondHouseModel", "losts", "[I", true)
  | 38 => ("PondHouseModel", "hasLost", "[Z", true)
  | 39 => ("PondHouseModel", "failed", "I", false)
  | 40 => ("PondHouseModel", "gave", "I", false)
  | 41 => ("PondHouseModel", "taken", "I", false)
  | 42 => ("PondHouseModel", "spent", "Z", false)
  | 43 => ("PondHouseModel", "rC", "[I", true)
  | 44 => ("PondHouseModel", "rV", "[I", true)
  | 45 => ("PondHouseModel", "rLast", "[I", true)
  | 46 => ("PondHouseModel", "rMany", "[I", true)
  | 47 => ("PondHouseModel", "rPlace", "[I", true)
  | 48 => ("PondHouseModel", "rAct", "[I", true)
  | 49 => ("PondHouseModel", "rBody", "[I", true)
  | 50 => ("PondHouseModel", "rKind", "[I", true)
  | 51 => ("PondHouseModel", "rGen", "[I", true)
  | 52 => ("PondHouseModel", "worth", "I", false)
  | 53 => ("PondHouseModel", "chain", "[I", true)
  | 54 => ("PondHouseModel", "chained", "I", false)
  | 55 => ("PondHouseModel", "restsAt", "I", false)
  | 56 => ("PondHouseModel", "tGave", "I", false)
  | 57 => ("PondHouseModel", "tFailed", "I", false)
  | 58 => ("PondHouseModel", "tTaken", "I", false)
  | 59 => ("PondHouseModel", "beats", "I", false)
  | 60 => ("PondHouseModel", "inBeat", "Z", false)
  | 61 => ("PondHouseModel", "outcomes", "[I", true)
  | 62 => ("PondHouseModel", "ranC", "[I", true)
  | 63 => ("PondHouseModel", "ranAct", "[I", true)
  | 64 => ("PondHouseModel", "ranKind", "[I", true)
  | 65 => ("PondHouseModel", "ranGen", "[I", true)
  | 66 => ("PondHouseModel", "ranMany", "I", false)
  | 67 => ("PondHouseModel", "lUnder", "[Z", true)
  | 68 => ("PondHouseModel", "lWas", "[Z", true)
  | 69 => ("PondHouseModel", "lForbids", "[Z", true)
  | 70 => ("PondHouseModel", "lC", "[I", true)
  | 71 => ("PondHouseModel", "lV", "[I", true)
  | 72 => ("PondHouseModel", "lLast", "[I", true)
  | 73 => ("PondHouseModel", "lAt", "[I", true)
  | 74 => ("PondHouseModel", "lRuns", "[I", true)
  | 75 => ("PondHouseModel", "lOutcome", "[I", true)
  | 76 => ("PondHouseModel", "lGave", "[I", true)
  | 77 => ("PondHouseModel", "lMany", "[I", true)
  | 78 => ("PondHouseModel", "lAct", "[I", true)
  | 79 => ("PondHouseModel", "lBody", "[I", true)
  | 80 => ("PondHouseModel", "lKind", "[I", true)
  | 81 => ("PondHouseModel", "lGen", "[I", true)
  | 82 => ("PondHouseModel", "why", "I", false)
  | 83 => ("PondHouseModel", "whyChange", "I", false)
  | 84 => ("PondHouseModel", "whyCreature", "I", false)
  | 85 => ("PondHouseModel", "wasValues", "[I", true)
  | 86 => ("PondHouseModel", "wasLosts", "[I", true)
  | 87 => ("PondHouseModel", "freshValues", "[I", true)
  | 88 => ("PondHouseModel", "wasHasLost", "[Z", true)
  | 89 => ("PondHouseModel", "freshHas", "[Z", true)
  | 90 => ("PondHouseModel", "wasKind", "[I", true)
  | 91 => ("PondHouseModel", "rules", "[I", true)
  | 92 => ("PondHouseModel", "ruleChange", "[I", true)
  | 93 => ("PondHouseModel", "to", "[I", true)
  | _ => ("PondHouseModel", "aside", "[I", true)
def mt_r13 : vw_C := ("PondHouseModel", mt_T13, 95)
def mt_TS : u_T := fun k => match k with
  | 0 => ("java/lang/String", "coder", "B", false)
  | _ => ("java/lang/String", "value", "[B", false)
def mt_rS : vw_C := ("java/lang/String", mt_TS, 2)
def mt_cl : List vw_C := [mt_r0, mt_r1, mt_r2, mt_r3, mt_r4, mt_r5, mt_r6, mt_r7, mt_r8, mt_r9, mt_r10, mt_r11, mt_r12, mt_r13]
def mt_ocl : Nat → Option vw_C := fun a => if a = 1000 then some mt_rS else none
def mt_news : List (List Value) := [[.null, .null, .null, .null, .null, .null, .null, .null, .int 0, .int 0, .int 0, .int 0, .int 0, .int 0],
  [.null, .int 0, .null, .null, .null, .int 0, .null],
  [.null, .null, .int 0, .int 0, .int 0, .int 0, .null, .int 0, .int 0, .int 0, .int 0, .null, .null],
  [.null, .int 0, .int 0],
  [.null, .null, .null, .int 0, .null, .int 0, .int 0, .int 0, .int 0, .int 0, .int 0, .int 0, .null, .int 0],
  [.null, .null, .int 0, .null, .int 0, .int 0, .int 0],
  [.null, .null, .null, .null, .int 0, .null, .int 0, .null, .null, .int 0, .int 0, .int 0, .int 0, .null, .null],
  [.int 0, .int 0, .null, .null, .null, .null],
  [.null, .int 0],
  [.null, .int 0, .int 0, .int 0, .int 0, .int 0, .int 0],
  [.int 0, .int 0, .int 0, .int 0, .int 0, .null],
  [.int 0, .null, .int 0, .int 0, .int 0, .null, .null, .null, .int 0, .null, .null, .int 0, .null, .null, .null, .null, .null, .null, .null],
  [.null, .int 0],
  [.null, .int 0, .int 0, .int 0, .int 0, .int 0, .null, .int 0, .null, .int 0, .long 0, .int 0, .int 0, .int 0, .int 0, .null, .int 0, .int 0, .int 0, .int 0, .int 0, .int 0, .int 0, .null, .int 0, .int 0, .int 0, .int 0, .int 0, .int 0, .int 0, .null, .null, .int 0, .null, .null, .null, .null, .null, .int 0, .int 0, .int 0, .int 0, .null, .null, .null, .null, .null, .null, .null, .null, .null, .int 0, .null, .int 0, .int 0, .int 0, .int 0, .int 0, .int 0, .int 0, .null, .null, .null, .null, .null, .int 0, .null, .null, .null, .null, .null, .null, .null, .null, .null, .null, .null, .null, .null, .null, .null, .int 0, .int 0, .int 0, .null, .null, .null, .null, .null, .null, .null, .null, .null, .null]]
def mt_nw (a : Nat) : Option (List Value) := mt_news[a]?
def mt_sb0 : List Int32 := [107, 105, 110, 100, 32, 117, 110, 100, 101, 114, 32, 102, 105, 101, 108, 100, 32, 108, 105, 110, 107, 32, 115, 116, 97, 116, 105, 99, 32, 97, 99, 116, 32, 103, 105, 118, 101, 32, 102, 97, 105, 108, 32, 97, 98, 111, 118, 101, 32, 100, 111, 32, 115, 101, 110, 100, 32, 114, 101, 115, 116, 32, 105, 102, 32, 101, 108, 115, 101, 32, 118, 32, 108, 97, 115, 116, 32, 99, 104, 97, 110, 103, 101, 32, 100, 114, 111, 112, 32, 109, 111, 118, 101, 32, 114, 101, 110, 97, 109, 101, 32, 99, 97, 114, 114, 121, 32, 99, 104, 101, 99, 107, 32]
def mt_sb1 : List Int32 := [123, 125, 40, 41, 59, 61, 43, 45, 42, 47, 60]
def mt_tx0 : String := "kind under field link static act give fail above do send rest if else v last change drop move rename carry check "
def mt_tx1 : String := "{}();=+-*/<"
def mt_old (xs : List Int32) : Nat → Option mmC
  | 0 => some (.inl 0, xs.map .int)
  | 1 => some (.inr 1000, [.int 0, .retAddr 2])
  | 2 => some (.inl 2, mt_sb0.map .int)
  | 3 => some (.inr 1000, [.int 0, .retAddr 4])
  | 4 => some (.inl 2, mt_sb1.map .int)
  | 5 => some (.inl 9, [])
  | _ => none
def mt_elT : Nat → FieldType
  | 4 => .object "PondHouse$Creature"
  | 5 => .object "PondHouse$LongAct"
  | 6 => .object "PondHouse$Frame"
  | 7 => .object "PondHouse$Patch"
  | 8 => .object "PondHouse$Kind"
  | 9 => .object "java/lang/Object"
  | 10 => .array .int
  | _ => .object "java/lang/Object"
def mt_el : Nat → (Nat ⊕ Nat) → Bool
  | 4, .inr 7 => true
  | 5, .inr 9 => true
  | 6, .inr 5 => true
  | 7, .inr 12 => true
  | 8, .inr 11 => true
  | 9, .inr 10 => true
  | 10, .inl 0 => true
  | _, _ => false
def mt_c0 : List (Nat × mmE) := [(0, .aload_n 0, 0, 0, 0), (1, .invokespecial 1, 0, 0, 1003), (4, .aload_n 0, 0, 0, 0), (5, .new 7, 1, 0, 0), (8, .dup, 0, 0, 0), (9, .invokespecial 9, 1, 1, 1), (12, .putfield 10, 0, 0, 2), (15, .aload_n 0, 0, 0, 0),
  (16, .new 16, 2, 0, 0), (19, .dup, 0, 0, 0), (20, .aload_n 0, 0, 0, 0), (21, .getfield 10, 0, 0, 0), (24, .invokespecial 18, 10, 2, 1), (27, .putfield 21, 0, 1, 2), (30, .aload_n 0, 0, 0, 0), (31, .bipush 40, 0, 0, 0),
  (33, .anewarray 25, 4, 0, 0), (36, .putfield 27, 0, 2, 2), (39, .aload_n 0, 0, 0, 0), (40, .bipush 40, 0, 0, 0), (42, .newarray .int, 0, 0, 0), (44, .putfield 31, 0, 3, 2), (47, .aload_n 0, 0, 0, 0), (48, .bipush 10, 0, 0, 0),
  (50, .anewarray 35, 5, 0, 0), (53, .putfield 37, 0, 4, 2), (56, .aload_n 0, 0, 0, 0), (57, .new 41, 4, 0, 0), (60, .dup, 0, 0, 0), (61, .aload_n 0, 0, 0, 0), (62, .getfield 27, 0, 2, 0), (65, .invokespecial 43, 14, 2, 1),
  (68, .putfield 46, 0, 5, 2), (71, .aload_n 0, 0, 0, 0), (72, .new 50, 6, 0, 0), (75, .dup, 0, 0, 0), (76, .aload_n 0, 0, 0, 0), (77, .getfield 27, 0, 2, 0), (80, .aload_n 0, 0, 0, 0), (81, .getfield 46, 0, 5, 0),
  (84, .invokespecial 52, 16, 3, 1), (87, .putfield 55, 0, 6, 2), (90, .aload_n 0, 0, 0, 0), (91, .new 59, 8, 0, 0), (94, .dup, 0, 0, 0), (95, .invokespecial 61, 18, 1, 1), (98, .putfield 62, 0, 7, 2), (101, .aload_n 0, 0, 0, 0),
  (102, .iconst (-1), 0, 0, 0), (103, .putfield 66, 0, 10, 0), (106, .iconst 0, 0, 0, 0), (107, .istore_n 1, 0, 0, 0), (108, .iload_n 1, 0, 0, 0), (109, .bipush 40, 0, 0, 0), (111, .if_icmp .ge 23, 0, 0, 0), (114, .aload_n 0, 0, 0, 0),
  (115, .getfield 27, 0, 2, 0), (118, .iload_n 1, 0, 0, 0), (119, .new 25, 7, 0, 0), (122, .dup, 0, 0, 0), (123, .iload_n 1, 0, 0, 0), (124, .invokespecial 70, 17, 2, 1), (127, .aastore, 0, 0, 0), (128, .iinc 1 1, 0, 0, 0),
  (131, .goto (-23), 0, 0, 0), (134, .iconst 0, 0, 0, 0), (135, .istore_n 1, 0, 0, 0), (136, .iload_n 1, 0, 0, 0), (137, .bipush 10, 0, 0, 0), (139, .if_icmp .ge 22, 0, 0, 0), (142, .aload_n 0, 0, 0, 0), (143, .getfield 37, 0, 4, 0),
  (146, .iload_n 1, 0, 0, 0), (147, .new 35, 9, 0, 0), (150, .dup, 0, 0, 0), (151, .invokespecial 73, 19, 1, 1), (154, .aastore, 0, 0, 0), (155, .iinc 1 1, 0, 0, 0), (158, .goto (-22), 0, 0, 0), (161, .return_, 0, 0, 0)]
def mt_c1 : List (Nat × mmE) := [(0, .aload_n 0, 0, 0, 0), (1, .invokespecial 3, 0, 0, 1003), (4, .aload_n 0, 0, 0, 0), (5, .sipush 1000, 0, 0, 0), (8, .newarray .int, 0, 0, 0), (10, .putfield 9, 1, 0, 2), (13, .aload_n 0, 0, 0, 0), (14, .sipush 1001, 0, 0, 0),
  (17, .newarray .int, 0, 0, 0), (19, .putfield 15, 1, 2, 2), (22, .aload_n 0, 0, 0, 0), (23, .sipush 1001, 0, 0, 0), (26, .newarray .int, 0, 0, 0), (28, .putfield 18, 1, 3, 2), (31, .aload_n 0, 0, 0, 0), (32, .sipush 1001, 0, 0, 0),
  (35, .newarray .int, 0, 0, 0), (37, .putfield 21, 1, 4, 2), (40, .aload_n 0, 0, 0, 0), (41, .bipush 22, 0, 0, 0), (43, .newarray .int, 0, 0, 0), (45, .putfield 24, 1, 6, 2), (48, .iconst 0, 0, 0, 0), (49, .istore_n 1, 0, 0, 0),
  (50, .iconst 0, 0, 0, 0), (51, .istore_n 2, 0, 0, 0), (52, .iconst 0, 0, 0, 0), (53, .istore_n 3, 0, 0, 0), (54, .iload_n 3, 0, 0, 0), (55, .ldc 27, 1, 1, 0), (57, .invokevirtual 29, 2, 1, 1002), (60, .if_icmp .ge 52, 0, 0, 0),
  (63, .iload_n 1, 0, 0, 0), (64, .bipush 22, 0, 0, 0), (66, .if_icmp .ge 46, 0, 0, 0), (69, .ldc 27, 1, 1, 0), (71, .iload_n 3, 0, 0, 0), (72, .invokevirtual 35, 4, 2, 1002), (75, .istore 4, 0, 0, 0), (77, .iload 4, 0, 0, 0),
  (79, .bipush 32, 0, 0, 0), (81, .if_icmp .ne 18, 0, 0, 0), (84, .aload_n 0, 0, 0, 0), (85, .getfield 24, 1, 6, 0), (88, .iload_n 1, 0, 0, 0), (89, .iload_n 2, 0, 0, 0), (90, .iastore, 0, 0, 0), (91, .iinc 1 1, 0, 0, 0),
  (94, .iconst 0, 0, 0, 0), (95, .istore_n 2, 0, 0, 0), (96, .goto 10, 0, 0, 0), (99, .iload_n 2, 0, 0, 0), (100, .iload 4, 0, 0, 0), (102, .invokestatic 39, 9, 2, 0), (105, .istore_n 2, 0, 0, 0), (106, .iinc 3 1, 0, 0, 0),
  (109, .goto (-55), 0, 0, 0), (112, .return_, 0, 0, 0)]
def mt_c2 : List (Nat × mmE) := [(0, .aload_n 0, 0, 0, 0), (1, .getfield 9, 1000, 1, 0), (4, .arraylength, 0, 0, 0), (5, .aload_n 0, 0, 0, 0), (6, .invokevirtual 335, 3, 1, 1002), (9, .ishr, 0, 0, 0), (10, .ireturn, 0, 0, 0)]
def mt_c3 : List (Nat × mmE) := [(0, .getstatic 38, 0, 1, 0), (3, .ifCond .eq 10, 0, 0, 0), (6, .aload_n 0, 0, 0, 0), (7, .getfield 15, 1000, 0, 0), (10, .goto 4, 0, 0, 0), (13, .iconst 1, 0, 0, 0), (14, .ireturn, 3, 0, 0)]
def mt_c4 : List (Nat × mmE) := [(0, .aload_n 0, 0, 0, 0), (1, .invokevirtual 492, 5, 1, 1002), (4, .ifCond .eq 12, 0, 0, 0), (7, .aload_n 0, 0, 0, 0), (8, .getfield 9, 1000, 1, 0), (11, .iload_n 1, 0, 0, 0), (12, .invokestatic 495, 6, 2, 0), (15, .ireturn, 2, 0, 0),
  (16, .aload_n 0, 0, 0, 0), (17, .getfield 9, 1000, 1, 0), (20, .iload_n 1, 0, 0, 0), (24, .ireturn, 2, 0, 0)]
def mt_c5 : List (Nat × mmE) := [(0, .getstatic 38, 0, 1, 0), (3, .ifCond .eq 14, 0, 0, 0), (6, .aload_n 0, 0, 0, 0), (7, .getfield 15, 1000, 0, 0), (10, .ifCond .ne 7, 0, 0, 0), (13, .iconst 1, 0, 0, 0), (14, .goto 4, 0, 0, 0), (17, .iconst 0, 0, 0, 0),
  (18, .ireturn, 1, 0, 0)]
def mt_c6 : List (Nat × mmE) := [(0, .iload_n 1, 0, 0, 0), (1, .aload_n 0, 0, 0, 0), (2, .arraylength, 0, 0, 0), (3, .invokestatic 9, 7, 2, 0), (6, .aload_n 0, 0, 0, 0), (7, .iload_n 1, 0, 0, 0), (8, .baload, 0, 0, 0), (9, .sipush 255, 0, 0, 0),
  (12, .iand, 0, 0, 0), (13, .i2c, 0, 0, 0), (14, .ireturn, 2, 0, 0)]
def mt_c7 : List (Nat × mmE) := [(0, .iload_n 0, 0, 0, 0), (1, .iload_n 1, 0, 0, 0), (2, .getstatic 1053, 2, 0, 0), (5, .invokestatic 1059, 8, 3, 0), (8, .pop, 0, 0, 0), (9, .return_, 0, 0, 0)]
def mt_c8 : List (Nat × mmE) := [(0, .iload_n 0, 0, 0, 0), (1, .ifCond .lt 8, 0, 0, 0), (4, .iload_n 0, 0, 0, 0), (5, .iload_n 1, 0, 0, 0), (6, .if_icmp .lt 10, 0, 0, 0), (9, .aload_n 2, 0, 0, 0), (10, .iload_n 0, 0, 0, 0), (11, .iload_n 1, 0, 0, 0),
  (16, .iload_n 0, 0, 0, 0), (17, .ireturn, 0, 0, 0)]
def mt_c9 : List (Nat × mmE) := [(0, .iload_n 0, 0, 0, 0), (1, .bipush 27, 0, 0, 0), (3, .imul, 0, 0, 0), (4, .iload_n 1, 0, 0, 0), (5, .iadd, 0, 0, 0), (6, .bipush 97, 0, 0, 0), (8, .isub, 0, 0, 0), (9, .iconst 1, 0, 0, 0),
  (10, .iadd, 0, 0, 0), (11, .ireturn, 0, 0, 0)]
def mt_c10 : List (Nat × mmE) := [(0, .aload_n 0, 0, 0, 0), (1, .invokespecial 3, 0, 0, 1003), (4, .aload_n 0, 0, 0, 0), (5, .bipush 40, 0, 0, 0), (7, .newarray .int, 0, 0, 0), (9, .putfield 9, 2, 1, 2), (12, .aload_n 0, 0, 0, 0), (13, .iconst (-1), 0, 0, 0),
  (14, .putfield 15, 2, 5, 0), (17, .aload_n 0, 0, 0, 0), (18, .sipush 4000, 0, 0, 0), (21, .newarray .int, 0, 0, 0), (23, .putfield 19, 2, 6, 2), (26, .aload_n 0, 0, 0, 0), (27, .new 22, 3, 0, 0), (30, .dup, 0, 0, 0),
  (31, .invokespecial 24, 11, 1, 1), (34, .putfield 25, 2, 12, 2), (37, .aload_n 0, 0, 0, 0), (38, .aload_n 1, 0, 0, 0), (39, .putfield 29, 2, 0, 2), (42, .return_, 0, 0, 0)]
def mt_c11 : List (Nat × mmE) := [(0, .aload_n 0, 0, 0, 0), (1, .invokespecial 1, 12, 1, 1), (4, .aload_n 0, 0, 0, 0), (5, .getstatic 39, 1, 5, 0), (8, .putfield 9, 3, 0, 2), (11, .return_, 0, 0, 0)]
def mt_c12 : List (Nat × mmE) := [(0, .aload_n 0, 0, 0, 0), (1, .invokespecial 1, 13, 1, 1), (4, .aload_n 0, 0, 0, 0), (5, .iconst 0, 0, 0, 0), (6, .putfield 7, 3, 2, 0), (9, .return_, 0, 0, 0)]
def mt_c13 : List (Nat × mmE) := [(0, .aload_n 0, 0, 0, 0), (1, .invokespecial 1, 0, 0, 1003), (4, .return_, 0, 0, 0)]
def mt_c14 : List (Nat × mmE) := [(0, .aload_n 0, 0, 0, 0), (1, .invokespecial 3, 0, 0, 1003), (4, .aload_n 0, 0, 0, 0), (5, .bipush 21, 0, 0, 0), (7, .anewarray 9, 6, 0, 0), (10, .putfield 11, 4, 1, 2), (13, .aload_n 0, 0, 0, 0), (14, .new 9, 5, 0, 0),
  (17, .dup, 0, 0, 0), (18, .invokespecial 17, 15, 1, 1), (21, .putfield 18, 4, 2, 2), (24, .aload_n 0, 0, 0, 0), (25, .bipush 64, 0, 0, 0), (27, .newarray .int, 0, 0, 0), (29, .putfield 22, 4, 4, 2), (32, .aload_n 0, 0, 0, 0),
  (33, .sipush 200, 0, 0, 0), (36, .newarray .int, 0, 0, 0), (38, .putfield 26, 4, 12, 2), (41, .aload_n 0, 0, 0, 0), (42, .aload_n 1, 0, 0, 0), (43, .putfield 29, 4, 0, 2), (46, .iconst 0, 0, 0, 0), (47, .istore_n 2, 0, 0, 0),
  (48, .iload_n 2, 0, 0, 0), (49, .aload_n 0, 0, 0, 0), (50, .getfield 11, 4, 1, 0), (53, .arraylength, 0, 0, 0), (54, .if_icmp .ge 22, 0, 0, 0), (57, .aload_n 0, 0, 0, 0), (58, .getfield 11, 4, 1, 0), (61, .iload_n 2, 0, 0, 0),
  (62, .new 9, 5, 0, 0), (65, .dup, 0, 0, 0), (66, .invokespecial 17, 15, 1, 1), (69, .aastore, 0, 0, 0), (70, .iinc 2 1, 0, 0, 0), (73, .goto (-25), 0, 0, 0), (76, .return_, 0, 0, 0)]
def mt_c15 : List (Nat × mmE) := [(0, .aload_n 0, 0, 0, 0), (1, .invokespecial 3, 0, 0, 1003), (4, .return_, 0, 0, 0)]
def mt_c16 : List (Nat × mmE) := [(0, .aload_n 0, 0, 0, 0), (1, .invokespecial 3, 0, 0, 1003), (4, .aload_n 0, 0, 0, 0), (5, .bipush 40, 0, 0, 0), (7, .anewarray 9, 4, 0, 0), (10, .putfield 11, 6, 2, 2), (13, .aload_n 0, 0, 0, 0), (14, .bipush 6, 0, 0, 0),
  (16, .anewarray 17, 7, 0, 0), (19, .putfield 19, 6, 3, 2), (22, .aload_n 0, 0, 0, 0), (23, .iconst (-1), 0, 0, 0), (24, .putfield 23, 6, 11, 0), (27, .aload_n 0, 0, 0, 0), (28, .iconst (-1), 0, 0, 0), (29, .putfield 27, 6, 12, 0),
  (32, .aload_n 0, 0, 0, 0), (33, .bipush 12, 0, 0, 0), (35, .anewarray 30, 8, 0, 0), (38, .putfield 32, 6, 13, 2), (41, .aload_n 0, 0, 0, 0), (42, .bipush 40, 0, 0, 0), (44, .newarray .int, 0, 0, 0), (46, .putfield 36, 6, 14, 2),
  (49, .aload_n 0, 0, 0, 0), (50, .aload_n 1, 0, 0, 0), (51, .putfield 40, 6, 0, 2), (54, .aload_n 0, 0, 0, 0), (55, .aload_n 2, 0, 0, 0), (56, .putfield 43, 6, 1, 2), (59, .iconst 0, 0, 0, 0), (60, .istore_n 3, 0, 0, 0),
  (61, .iload_n 3, 0, 0, 0), (62, .bipush 40, 0, 0, 0), (64, .if_icmp .ge 23, 0, 0, 0), (67, .aload_n 0, 0, 0, 0), (68, .getfield 11, 6, 2, 0), (71, .iload_n 3, 0, 0, 0), (72, .new 9, 7, 0, 0), (75, .dup, 0, 0, 0),
  (76, .iload_n 3, 0, 0, 0), (77, .invokespecial 47, 17, 2, 1), (80, .aastore, 0, 0, 0), (81, .iinc 3 1, 0, 0, 0), (84, .goto (-23), 0, 0, 0), (87, .return_, 0, 0, 0)]
def mt_c17 : List (Nat × mmE) := [(0, .aload_n 0, 0, 0, 0), (1, .invokespecial 3, 0, 0, 1003), (4, .aload_n 0, 0, 0, 0), (5, .bipush 40, 0, 0, 0), (7, .newarray .int, 0, 0, 0), (9, .putfield 9, 7, 3, 2), (12, .aload_n 0, 0, 0, 0), (13, .bipush 40, 0, 0, 0),
  (15, .newarray .boolean, 1, 0, 0), (17, .putfield 15, 7, 4, 2), (20, .aload_n 0, 0, 0, 0), (21, .bipush 40, 0, 0, 0), (23, .newarray .int, 0, 0, 0), (25, .putfield 19, 7, 5, 2), (28, .aload_n 0, 0, 0, 0), (29, .iload_n 1, 0, 0, 0),
  (30, .putfield 22, 7, 0, 0), (33, .return_, 0, 0, 0)]
def mt_c18 : List (Nat × mmE) := [(0, .aload_n 0, 0, 0, 0), (1, .invokespecial 3, 0, 0, 1003), (4, .aload_n 0, 0, 0, 0), (5, .bipush 12, 0, 0, 0), (7, .anewarray 9, 8, 0, 0), (10, .putfield 11, 8, 0, 2), (13, .return_, 0, 0, 0)]
def mt_c19 : List (Nat × mmE) := [(0, .aload_n 0, 0, 0, 0), (1, .invokespecial 3, 0, 0, 1003), (4, .aload_n 0, 0, 0, 0), (5, .new 9, 5, 0, 0), (8, .dup, 0, 0, 0), (9, .invokespecial 11, 15, 1, 1), (12, .putfield 12, 9, 0, 2), (15, .return_, 0, 0, 0)]
def mt_c20 : List (Nat × mmE) := [(0, .aload_n 0, 0, 0, 0), (1, .getfield 10, 0, 0, 0), (4, .getfield 74, 1, 1, 0), (7, .bipush 20, 0, 0, 0), (9, .iadd, 0, 0, 0), (10, .sipush 1000, 0, 0, 0), (13, .if_icmp .le 5, 0, 0, 0), (16, .iconst (-1), 0, 0, 0),
  (17, .ireturn, 0, 0, 0), (18, .aload_n 0, 0, 0, 0), (19, .getfield 10, 0, 0, 0), (22, .iload_n 1, 0, 0, 0), (23, .invokevirtual 77, 21, 2, 3), (26, .aload_n 0, 0, 0, 0), (27, .getfield 10, 0, 0, 0), (30, .iload_n 2, 0, 0, 0),
  (31, .invokevirtual 77, 21, 2, 3), (34, .aload_n 0, 0, 0, 0), (35, .getfield 10, 0, 0, 0), (38, .iload_n 3, 0, 0, 0), (39, .invokevirtual 77, 21, 2, 3), (42, .aload_n 0, 0, 0, 0), (43, .getfield 10, 0, 0, 0), (46, .iload 4, 0, 0, 0),
  (48, .invokevirtual 77, 21, 2, 3), (51, .aload_n 0, 0, 0, 0), (52, .getfield 10, 0, 0, 0), (55, .iload 5, 0, 0, 0), (57, .invokevirtual 77, 21, 2, 3), (60, .aload_n 0, 0, 0, 0), (61, .getfield 10, 0, 0, 0), (64, .getfield 74, 1, 1, 0),
  (67, .ireturn, 0, 0, 0)]
def mt_c21 : List (Nat × mmE) := [(0, .bipush 24, 0, 0, 0), (2, .istore_n 2, 0, 0, 0), (3, .iload_n 2, 0, 0, 0), (4, .ifCond .lt 45, 0, 0, 0), (7, .aload_n 0, 0, 0, 0), (8, .getfield 43, 1, 1, 0), (11, .sipush 1000, 0, 0, 0), (14, .if_icmp .ge 35, 0, 0, 0),
  (17, .aload_n 0, 0, 0, 0), (18, .getfield 9, 1, 0, 0), (21, .aload_n 0, 0, 0, 0), (22, .getfield 43, 1, 1, 0), (25, .iload_n 1, 0, 0, 0), (26, .iload_n 2, 0, 0, 0), (27, .iushr, 0, 0, 0), (28, .sipush 255, 0, 0, 0),
  (31, .iand, 0, 0, 0), (32, .iastore, 0, 0, 0), (33, .aload_n 0, 0, 0, 0), (34, .dup, 0, 0, 0), (35, .getfield 43, 1, 1, 0), (38, .iconst 1, 0, 0, 0), (39, .iadd, 0, 0, 0), (40, .putfield 43, 1, 1, 0),
  (43, .iinc 2 (-8), 0, 0, 0), (46, .goto (-43), 0, 0, 0), (49, .return_, 0, 0, 0)]
def mt_c22 : List (Nat × mmE) := [(0, .iload_n 1, 0, 0, 0), (1, .ifCond .lt 14, 0, 0, 0), (4, .iload_n 1, 0, 0, 0), (5, .aload_n 0, 0, 0, 0), (6, .getfield 10, 0, 0, 0), (9, .getfield 74, 1, 1, 0), (12, .if_icmp .le 5, 0, 0, 0), (15, .iconst 0, 0, 0, 0),
  (16, .ireturn, 1, 0, 0), (17, .aload_n 0, 0, 0, 0), (18, .getfield 10, 0, 0, 0), (21, .iload_n 1, 0, 0, 0), (22, .putfield 74, 1, 1, 0), (25, .iconst 1, 0, 0, 0), (26, .ireturn, 1, 0, 0)]
def mt_c23 : List (Nat × mmE) := [(0, .aload_n 0, 0, 0, 0), (1, .getfield 21, 0, 1, 0), (4, .invokevirtual 80, 24, 1, 4), (7, .ireturn, 0, 0, 0)]
def mt_c24 : List (Nat × mmE) := [(0, .aload_n 0, 0, 0, 0), (1, .getfield 29, 2, 0, 0), (4, .invokevirtual 33, 25, 1, 3), (7, .aload_n 0, 0, 0, 0), (8, .iconst 0, 0, 0, 0), (9, .putfield 38, 2, 3, 0), (12, .aload_n 0, 0, 0, 0), (13, .invokevirtual 41, 39, 1, 4),
  (16, .iconst 1, 0, 0, 0), (17, .if_icmp .eq 5, 0, 0, 0), (20, .iconst (-1), 0, 0, 0), (21, .ireturn, 0, 0, 0), (22, .aload_n 0, 0, 0, 0), (23, .aload_n 0, 0, 0, 0), (24, .getfield 29, 2, 0, 0), (27, .getfield 45, 1, 4, 0),
  (30, .aload_n 0, 0, 0, 0), (31, .getfield 38, 2, 3, 0), (34, .iaload, 0, 0, 0), (35, .invokevirtual 48, 40, 2, 4), (38, .istore_n 1, 0, 0, 0), (39, .aload_n 0, 0, 0, 0), (40, .dup, 0, 0, 0), (41, .getfield 38, 2, 3, 0),
  (44, .iconst 1, 0, 0, 0), (45, .iadd, 0, 0, 0), (46, .putfield 38, 2, 3, 0), (49, .aload_n 0, 0, 0, 0), (50, .invokevirtual 41, 39, 1, 4), (53, .iconst 4, 0, 0, 0), (54, .if_icmp .ne 7, 0, 0, 0), (57, .iload_n 1, 0, 0, 0),
  (58, .goto 4, 0, 0, 0), (61, .iconst (-1), 0, 0, 0), (62, .ireturn, 0, 0, 0)]
def mt_c25 : List (Nat × mmE) := [(0, .aload_n 0, 0, 0, 0), (1, .iconst 0, 0, 0, 0), (2, .putfield 46, 1, 5, 0), (5, .iconst 0, 0, 0, 0), (6, .istore_n 1, 0, 0, 0), (7, .iload_n 1, 0, 0, 0), (8, .aload_n 0, 0, 0, 0), (9, .getfield 43, 1, 1, 0),
  (12, .if_icmp .ge 18, 0, 0, 0), (15, .iload_n 1, 0, 0, 0), (16, .iconst 1, 0, 0, 0), (17, .aload_n 0, 0, 0, 0), (18, .iload_n 1, 0, 0, 0), (19, .invokevirtual 49, 26, 2, 3), (22, .invokestatic 53, 0, 0, 1004), (25, .iadd, 0, 0, 0),
  (26, .istore_n 1, 0, 0, 0), (27, .goto (-20), 0, 0, 0), (30, .aload_n 0, 0, 0, 0), (31, .iconst 4, 0, 0, 0), (32, .aload_n 0, 0, 0, 0), (33, .getfield 43, 1, 1, 0), (36, .iconst 0, 0, 0, 0), (37, .invokevirtual 58, 30, 4, 3),
  (40, .aload_n 0, 0, 0, 0), (41, .iconst 0, 0, 0, 0), (42, .putfield 43, 1, 1, 0), (45, .return_, 0, 0, 0)]
def mt_c26 : List (Nat × mmE) := [(0, .aload_n 0, 0, 0, 0), (1, .getfield 9, 1, 0, 0), (4, .iload_n 1, 0, 0, 0), (5, .iaload, 0, 0, 0), (6, .istore_n 2, 0, 0, 0), (7, .iload_n 2, 0, 0, 0), (8, .bipush 32, 0, 0, 0), (10, .if_icmp .eq 9, 0, 0, 0),
  (13, .iload_n 2, 0, 0, 0), (14, .bipush 10, 0, 0, 0), (16, .if_icmp .ne 5, 0, 0, 0), (19, .iconst 1, 0, 0, 0), (20, .ireturn, 0, 0, 0), (21, .iload_n 2, 0, 0, 0), (22, .invokestatic 62, 27, 1, 0), (25, .ifCond .eq 9, 0, 0, 0),
  (28, .aload_n 0, 0, 0, 0), (29, .iload_n 1, 0, 0, 0), (30, .invokevirtual 66, 28, 2, 3), (33, .ireturn, 0, 0, 0), (34, .iload_n 2, 0, 0, 0), (35, .invokestatic 69, 31, 1, 0), (38, .ifCond .eq 9, 0, 0, 0), (41, .aload_n 0, 0, 0, 0),
  (42, .iload_n 1, 0, 0, 0), (43, .invokevirtual 72, 32, 2, 3), (46, .ireturn, 0, 0, 0), (47, .iload_n 2, 0, 0, 0), (48, .bipush 61, 0, 0, 0), (50, .if_icmp .ne 37, 0, 0, 0), (53, .iload_n 1, 0, 0, 0), (54, .iconst 1, 0, 0, 0),
  (55, .iadd, 0, 0, 0), (56, .aload_n 0, 0, 0, 0), (57, .getfield 43, 1, 1, 0), (60, .if_icmp .ge 27, 0, 0, 0), (63, .aload_n 0, 0, 0, 0), (64, .getfield 9, 1, 0, 0), (67, .iload_n 1, 0, 0, 0), (68, .iconst 1, 0, 0, 0),
  (69, .iadd, 0, 0, 0), (70, .iaload, 0, 0, 0), (71, .bipush 61, 0, 0, 0), (73, .if_icmp .ne 14, 0, 0, 0), (76, .aload_n 0, 0, 0, 0), (77, .sipush 250, 0, 0, 0), (80, .iload_n 1, 0, 0, 0), (81, .iconst 0, 0, 0, 0),
  (82, .invokevirtual 58, 30, 4, 3), (85, .iconst 2, 0, 0, 0), (86, .ireturn, 0, 0, 0), (87, .aload_n 0, 0, 0, 0), (88, .ldc 75, 1, 3, 0), (90, .iload_n 2, 0, 0, 0), (91, .i2c, 0, 0, 0), (92, .invokevirtual 77, 34, 2, 1002),
  (95, .ifCond .lt 7, 0, 0, 0), (98, .iload_n 2, 0, 0, 0), (99, .goto 4, 0, 0, 0), (102, .iconst 3, 0, 0, 0), (103, .iload_n 1, 0, 0, 0), (104, .iconst 0, 0, 0, 0), (105, .invokevirtual 58, 30, 4, 3), (108, .iconst 1, 0, 0, 0),
  (109, .ireturn, 0, 0, 0)]
def mt_c27 : List (Nat × mmE) := [(0, .iload_n 0, 0, 0, 0), (1, .bipush 97, 0, 0, 0), (3, .if_icmp .lt 13, 0, 0, 0), (6, .iload_n 0, 0, 0, 0), (7, .bipush 122, 0, 0, 0), (9, .if_icmp .gt 7, 0, 0, 0), (12, .iconst 1, 0, 0, 0), (13, .goto 4, 0, 0, 0),
  (16, .iconst 0, 0, 0, 0), (17, .ireturn, 1, 0, 0)]
def mt_c28 : List (Nat × mmE) := [(0, .iload_n 1, 0, 0, 0), (1, .istore_n 2, 0, 0, 0), (2, .iconst 0, 0, 0, 0), (3, .istore_n 3, 0, 0, 0), (4, .iload_n 2, 0, 0, 0), (5, .aload_n 0, 0, 0, 0), (6, .getfield 43, 1, 1, 0), (9, .if_icmp .ge 40, 0, 0, 0),
  (12, .aload_n 0, 0, 0, 0), (13, .getfield 9, 1, 0, 0), (16, .iload_n 2, 0, 0, 0), (17, .iaload, 0, 0, 0), (18, .invokestatic 62, 27, 1, 0), (21, .ifCond .eq 28, 0, 0, 0), (24, .iload_n 2, 0, 0, 0), (25, .iload_n 1, 0, 0, 0),
  (26, .isub, 0, 0, 0), (27, .bipush 6, 0, 0, 0), (29, .if_icmp .ge 14, 0, 0, 0), (32, .iload_n 3, 0, 0, 0), (33, .aload_n 0, 0, 0, 0), (34, .getfield 9, 1, 0, 0), (37, .iload_n 2, 0, 0, 0), (38, .iaload, 0, 0, 0),
  (39, .invokestatic 39, 9, 2, 0), (42, .istore_n 3, 0, 0, 0), (43, .iinc 2 1, 0, 0, 0), (46, .goto (-42), 0, 0, 0), (49, .aload_n 0, 0, 0, 0), (50, .getfield 24, 1, 6, 0), (53, .bipush 22, 0, 0, 0), (55, .iload_n 3, 0, 0, 0),
  (56, .invokestatic 80, 29, 3, 0), (59, .istore 4, 0, 0, 0), (61, .iload_n 2, 0, 0, 0), (62, .iload_n 1, 0, 0, 0), (63, .isub, 0, 0, 0), (64, .bipush 6, 0, 0, 0), (66, .if_icmp .le 13, 0, 0, 0), (69, .aload_n 0, 0, 0, 0),
  (70, .iconst 3, 0, 0, 0), (71, .iload_n 1, 0, 0, 0), (72, .iconst 0, 0, 0, 0), (73, .invokevirtual 58, 30, 4, 3), (76, .goto 31, 0, 0, 0), (79, .iload 4, 0, 0, 0), (81, .iconst (-1), 0, 0, 0), (82, .if_icmp .eq 18, 0, 0, 0),
  (85, .aload_n 0, 0, 0, 0), (86, .sipush 200, 0, 0, 0), (89, .iload 4, 0, 0, 0), (91, .iadd, 0, 0, 0), (92, .iload_n 1, 0, 0, 0), (93, .iload_n 3, 0, 0, 0), (94, .invokevirtual 58, 30, 4, 3), (97, .goto 10, 0, 0, 0),
  (100, .aload_n 0, 0, 0, 0), (101, .iconst 1, 0, 0, 0), (102, .iload_n 1, 0, 0, 0), (103, .iload_n 3, 0, 0, 0), (104, .invokevirtual 58, 30, 4, 3), (107, .iload_n 2, 0, 0, 0), (108, .iload_n 1, 0, 0, 0), (109, .isub, 0, 0, 0),
  (110, .ireturn, 0, 0, 0)]
def mt_c29 : List (Nat × mmE) := [(0, .iconst 0, 0, 0, 0), (1, .istore_n 3, 0, 0, 0), (2, .iload_n 3, 0, 0, 0), (3, .iload_n 1, 0, 0, 0), (4, .if_icmp .ge 24, 0, 0, 0), (7, .iload_n 3, 0, 0, 0), (8, .aload_n 0, 0, 0, 0), (9, .arraylength, 0, 0, 0),
  (10, .if_icmp .ge 18, 0, 0, 0), (13, .aload_n 0, 0, 0, 0), (14, .iload_n 3, 0, 0, 0), (15, .iaload, 0, 0, 0), (16, .iload_n 2, 0, 0, 0), (17, .if_icmp .ne 5, 0, 0, 0), (20, .iload_n 3, 0, 0, 0), (21, .ireturn, 0, 0, 0),
  (22, .iinc 3 1, 0, 0, 0), (25, .goto (-23), 0, 0, 0), (28, .iconst (-1), 0, 0, 0), (29, .ireturn, 0, 0, 0)]
def mt_c30 : List (Nat × mmE) := [(0, .aload_n 0, 0, 0, 0), (1, .getfield 46, 1, 5, 0), (4, .aload_n 0, 0, 0, 0), (5, .getfield 15, 1, 2, 0), (8, .arraylength, 0, 0, 0), (9, .if_icmp .ge 43, 0, 0, 0), (12, .aload_n 0, 0, 0, 0), (13, .getfield 15, 1, 2, 0),
  (16, .aload_n 0, 0, 0, 0), (17, .getfield 46, 1, 5, 0), (20, .iload_n 1, 0, 0, 0), (21, .iastore, 0, 0, 0), (22, .aload_n 0, 0, 0, 0), (23, .getfield 18, 1, 3, 0), (26, .aload_n 0, 0, 0, 0), (27, .getfield 46, 1, 5, 0),
  (30, .iload_n 2, 0, 0, 0), (31, .iastore, 0, 0, 0), (32, .aload_n 0, 0, 0, 0), (33, .getfield 21, 1, 4, 0), (36, .aload_n 0, 0, 0, 0), (37, .getfield 46, 1, 5, 0), (40, .iload_n 3, 0, 0, 0), (41, .iastore, 0, 0, 0),
  (42, .aload_n 0, 0, 0, 0), (43, .dup, 0, 0, 0), (44, .getfield 46, 1, 5, 0), (47, .iconst 1, 0, 0, 0), (48, .iadd, 0, 0, 0), (49, .putfield 46, 1, 5, 0), (52, .return_, 0, 0, 0)]
def mt_c31 : List (Nat × mmE) := [(0, .iload_n 0, 0, 0, 0), (1, .bipush 48, 0, 0, 0), (3, .if_icmp .lt 13, 0, 0, 0), (6, .iload_n 0, 0, 0, 0), (7, .bipush 57, 0, 0, 0), (9, .if_icmp .gt 7, 0, 0, 0), (12, .iconst 1, 0, 0, 0), (13, .goto 4, 0, 0, 0),
  (16, .iconst 0, 0, 0, 0), (17, .ireturn, 1, 0, 0)]
def mt_c32 : List (Nat × mmE) := [(0, .iload_n 1, 0, 0, 0), (1, .istore_n 2, 0, 0, 0), (2, .iconst 0, 0, 0, 0), (3, .istore_n 3, 0, 0, 0), (4, .iload_n 2, 0, 0, 0), (5, .aload_n 0, 0, 0, 0), (6, .getfield 43, 1, 1, 0), (9, .if_icmp .ge 44, 0, 0, 0),
  (12, .aload_n 0, 0, 0, 0), (13, .getfield 9, 1, 0, 0), (16, .iload_n 2, 0, 0, 0), (17, .iaload, 0, 0, 0), (18, .invokestatic 69, 31, 1, 0), (21, .ifCond .eq 32, 0, 0, 0), (24, .iload_n 2, 0, 0, 0), (25, .iload_n 1, 0, 0, 0),
  (26, .isub, 0, 0, 0), (27, .bipush 6, 0, 0, 0), (29, .if_icmp .ge 18, 0, 0, 0), (32, .iload_n 3, 0, 0, 0), (33, .bipush 10, 0, 0, 0), (35, .imul, 0, 0, 0), (36, .aload_n 0, 0, 0, 0), (37, .getfield 9, 1, 0, 0),
  (40, .iload_n 2, 0, 0, 0), (41, .iaload, 0, 0, 0), (42, .iadd, 0, 0, 0), (43, .bipush 48, 0, 0, 0), (45, .isub, 0, 0, 0), (46, .istore_n 3, 0, 0, 0), (47, .iinc 2 1, 0, 0, 0), (50, .goto (-46), 0, 0, 0),
  (53, .iload_n 2, 0, 0, 0), (54, .aload_n 0, 0, 0, 0), (55, .getfield 43, 1, 1, 0), (58, .if_icmp .ge 19, 0, 0, 0), (61, .aload_n 0, 0, 0, 0), (62, .getfield 9, 1, 0, 0), (65, .iload_n 2, 0, 0, 0), (66, .iaload, 0, 0, 0),
  (67, .invokestatic 84, 33, 1, 0), (70, .ifCond .eq 7, 0, 0, 0), (73, .iconst 1, 0, 0, 0), (74, .goto 4, 0, 0, 0), (77, .iconst 0, 0, 0, 0), (78, .istore 4, 0, 0, 0), (80, .iload_n 2, 0, 0, 0), (81, .iload_n 1, 0, 0, 0),
  (82, .isub, 0, 0, 0), (83, .bipush 6, 0, 0, 0), (85, .if_icmp .gt 12, 0, 0, 0), (88, .iload 4, 0, 0, 0), (90, .ifCond .ne 7, 0, 0, 0), (93, .iconst 1, 0, 0, 0), (94, .goto 4, 0, 0, 0), (97, .iconst 0, 0, 0, 0),
  (98, .istore 5, 0, 0, 0), (100, .aload_n 0, 0, 0, 0), (101, .iload 5, 0, 0, 0), (103, .ifCond .eq 7, 0, 0, 0), (106, .iconst 2, 0, 0, 0), (107, .goto 4, 0, 0, 0), (110, .iconst 3, 0, 0, 0), (111, .iload_n 1, 0, 0, 0),
  (112, .iload_n 3, 0, 0, 0), (113, .invokevirtual 58, 30, 4, 3), (116, .iload_n 2, 0, 0, 0), (117, .iload_n 1, 0, 0, 0), (118, .isub, 0, 0, 0), (119, .ireturn, 0, 0, 0)]
def mt_c33 : List (Nat × mmE) := [(0, .iload_n 0, 0, 0, 0), (1, .invokestatic 62, 27, 1, 0), (4, .ifCond .ne 15, 0, 0, 0), (7, .iload_n 0, 0, 0, 0), (8, .bipush 65, 0, 0, 0), (10, .if_icmp .lt 13, 0, 0, 0), (13, .iload_n 0, 0, 0, 0), (14, .bipush 90, 0, 0, 0),
  (16, .if_icmp .gt 7, 0, 0, 0), (19, .iconst 1, 0, 0, 0), (20, .goto 4, 0, 0, 0), (23, .iconst 0, 0, 0, 0), (24, .ireturn, 1, 0, 0)]
def mt_c34 : List (Nat × mmE) := [(0, .aload_n 0, 0, 0, 0), (1, .iload_n 1, 0, 0, 0), (2, .iconst 0, 0, 0, 0), (3, .invokevirtual 633, 35, 3, 1002), (6, .ireturn, 0, 0, 0)]
def mt_c35 : List (Nat × mmE) := [(0, .aload_n 0, 0, 0, 0), (1, .invokevirtual 492, 5, 1, 1002), (4, .ifCond .eq 19, 0, 0, 0), (7, .aload_n 0, 0, 0, 0), (8, .getfield 9, 1000, 1, 0), (11, .iload_n 1, 0, 0, 0), (12, .iload_n 2, 0, 0, 0), (13, .aload_n 0, 0, 0, 0),
  (14, .invokevirtual 505, 2, 1, 1002), (17, .invokestatic 637, 36, 4, 0), (20, .goto 16, 0, 0, 0), (23, .aload_n 0, 0, 0, 0), (24, .getfield 9, 1000, 1, 0), (27, .iload_n 1, 0, 0, 0), (28, .iload_n 2, 0, 0, 0), (29, .aload_n 0, 0, 0, 0),
  (30, .invokevirtual 505, 2, 1, 1002), (36, .ireturn, 0, 0, 0)]
def mt_c36 : List (Nat × mmE) := [(0, .iload_n 1, 0, 0, 0), (1, .invokestatic 88, 37, 1, 0), (4, .ifCond .ne 5, 0, 0, 0), (7, .iconst (-1), 0, 0, 0), (8, .ireturn, 0, 0, 0), (9, .iload_n 2, 0, 0, 0), (10, .iconst 0, 0, 0, 0), (11, .invokestatic 92, 0, 0, 1004),
  (14, .istore_n 2, 0, 0, 0), (15, .iload_n 3, 0, 0, 0), (16, .aload_n 0, 0, 0, 0), (17, .arraylength, 0, 0, 0), (18, .invokestatic 38, 0, 0, 1005), (21, .istore_n 3, 0, 0, 0), (22, .iload_n 2, 0, 0, 0), (23, .iload_n 3, 0, 0, 0),
  (24, .if_icmp .lt 5, 0, 0, 0), (27, .iconst (-1), 0, 0, 0), (28, .ireturn, 0, 0, 0), (29, .aload_n 0, 0, 0, 0), (30, .iload_n 1, 0, 0, 0), (31, .iload_n 2, 0, 0, 0), (32, .iload_n 3, 0, 0, 0), (33, .invokestatic 95, 38, 4, 0),
  (36, .ireturn, 0, 0, 0)]
def mt_c37 : List (Nat × mmE) := [(0, .iload_n 0, 0, 0, 0), (1, .ifCond .lt 14, 0, 0, 0), (4, .iload_n 0, 0, 0, 0), (5, .sipush 255, 0, 0, 0), (8, .if_icmp .gt 7, 0, 0, 0), (11, .iconst 1, 0, 0, 0), (12, .goto 4, 0, 0, 0), (15, .iconst 0, 0, 0, 0),
  (16, .ireturn, 1, 0, 0)]
def mt_c38 : List (Nat × mmE) := [(0, .iload_n 1, 0, 0, 0), (1, .i2b, 0, 0, 0), (2, .istore 4, 0, 0, 0), (4, .iload_n 2, 0, 0, 0), (5, .istore 5, 0, 0, 0), (7, .iload 5, 0, 0, 0), (9, .iload_n 3, 0, 0, 0), (10, .if_icmp .ge 21, 0, 0, 0),
  (13, .aload_n 0, 0, 0, 0), (14, .iload 5, 0, 0, 0), (16, .baload, 0, 0, 0), (17, .iload 4, 0, 0, 0), (19, .if_icmp .ne 6, 0, 0, 0), (22, .iload 5, 0, 0, 0), (24, .ireturn, 0, 0, 0), (25, .iinc 5 1, 0, 0, 0),
  (28, .goto (-21), 0, 0, 0), (31, .iconst (-1), 0, 0, 0), (32, .ireturn, 0, 0, 0)]
def mt_c39 : List (Nat × mmE) := [(0, .aload_n 0, 0, 0, 0), (1, .getfield 38, 2, 3, 0), (4, .ifCond .lt 32, 0, 0, 0), (7, .aload_n 0, 0, 0, 0), (8, .getfield 38, 2, 3, 0), (11, .aload_n 0, 0, 0, 0), (12, .getfield 29, 2, 0, 0), (15, .getfield 184, 1, 5, 0),
  (18, .if_icmp .ge 18, 0, 0, 0), (21, .aload_n 0, 0, 0, 0), (22, .getfield 29, 2, 0, 0), (25, .getfield 185, 1, 2, 0), (28, .aload_n 0, 0, 0, 0), (29, .getfield 38, 2, 3, 0), (32, .iaload, 0, 0, 0), (33, .goto 4, 0, 0, 0),
  (36, .iconst 4, 0, 0, 0), (37, .ireturn, 0, 0, 0)]
def mt_c40 : List (Nat × mmE) := [(0, .iconst 0, 0, 0, 0), (1, .istore_n 2, 0, 0, 0), (2, .iload_n 2, 0, 0, 0), (3, .aload_n 0, 0, 0, 0), (4, .getfield 181, 2, 2, 0), (7, .if_icmp .ge 21, 0, 0, 0), (10, .aload_n 0, 0, 0, 0), (11, .getfield 9, 2, 1, 0),
  (14, .iload_n 2, 0, 0, 0), (15, .iaload, 0, 0, 0), (16, .iload_n 1, 0, 0, 0), (17, .if_icmp .ne 5, 0, 0, 0), (20, .iload_n 2, 0, 0, 0), (21, .ireturn, 0, 0, 0), (22, .iinc 2 1, 0, 0, 0), (25, .goto (-23), 0, 0, 0),
  (28, .aload_n 0, 0, 0, 0), (29, .getfield 181, 2, 2, 0), (32, .bipush 40, 0, 0, 0), (34, .if_icmp .lt 5, 0, 0, 0), (37, .iconst (-1), 0, 0, 0), (38, .ireturn, 0, 0, 0), (39, .aload_n 0, 0, 0, 0), (40, .getfield 9, 2, 1, 0),
  (43, .aload_n 0, 0, 0, 0), (44, .getfield 181, 2, 2, 0), (47, .iload_n 1, 0, 0, 0), (48, .iastore, 0, 0, 0), (49, .aload_n 0, 0, 0, 0), (50, .dup, 0, 0, 0), (51, .getfield 181, 2, 2, 0), (54, .iconst 1, 0, 0, 0),
  (55, .iadd, 0, 0, 0), (56, .putfield 181, 2, 2, 0), (59, .aload_n 0, 0, 0, 0), (60, .getfield 181, 2, 2, 0), (63, .iconst 1, 0, 0, 0), (64, .isub, 0, 0, 0), (65, .ireturn, 0, 0, 0)]
def mt_c41 : List (Nat × mmE) := [(0, .new 59, 8, 0, 0), (3, .dup, 0, 0, 0), (4, .invokespecial 61, 18, 1, 1), (7, .astore_n 1, 0, 0, 0), (8, .aload_n 0, 0, 0, 0), (9, .getfield 21, 0, 1, 0), (12, .aload_n 1, 0, 0, 0), (13, .invokevirtual 84, 42, 2, 4),
  (16, .ifCond .ne 5, 0, 0, 0), (19, .iconst (-1), 0, 0, 0), (20, .ireturn, 0, 0, 0), (21, .aload_n 1, 0, 0, 0), (22, .aconst_null, 0, 0, 0), (23, .iconst 0, 0, 0, 0), (24, .invokevirtual 88, 88, 3, 10), (27, .aload_n 0, 0, 0, 0),
  (28, .aload_n 1, 0, 0, 0), (29, .putfield 62, 0, 7, 2), (32, .iconst 0, 0, 0, 0), (33, .istore_n 2, 0, 0, 0), (34, .iload_n 2, 0, 0, 0), (35, .bipush 40, 0, 0, 0), (37, .if_icmp .ge 19, 0, 0, 0), (40, .aload_n 0, 0, 0, 0),
  (41, .getfield 27, 0, 2, 0), (44, .iload_n 2, 0, 0, 0), (45, .aaload, 0, 0, 0), (46, .iconst 0, 0, 0, 0), (47, .putfield 92, 7, 1, 1), (50, .iinc 2 1, 0, 0, 0), (53, .goto (-19), 0, 0, 0), (56, .iconst 0, 0, 0, 0),
  (57, .istore_n 2, 0, 0, 0), (58, .iload_n 2, 0, 0, 0), (59, .bipush 10, 0, 0, 0), (61, .if_icmp .ge 29, 0, 0, 0), (64, .aload_n 0, 0, 0, 0), (65, .getfield 37, 0, 4, 0), (68, .iload_n 2, 0, 0, 0), (69, .aaload, 0, 0, 0),
  (70, .iconst 0, 0, 0, 0), (71, .putfield 96, 9, 1, 1), (74, .aload_n 0, 0, 0, 0), (75, .getfield 37, 0, 4, 0), (78, .iload_n 2, 0, 0, 0), (79, .aaload, 0, 0, 0), (80, .iconst 0, 0, 0, 0), (81, .putfield 99, 9, 2, 1),
  (84, .iinc 2 1, 0, 0, 0), (87, .goto (-29), 0, 0, 0), (90, .aload_n 0, 0, 0, 0), (91, .iconst 0, 0, 0, 0), (92, .putfield 102, 0, 8, 0), (95, .aload_n 0, 0, 0, 0), (96, .iconst (-1), 0, 0, 0), (97, .putfield 66, 0, 10, 0),
  (100, .aload_n 0, 0, 0, 0), (101, .getfield 55, 0, 6, 0), (104, .invokevirtual 105, 91, 1, 8), (107, .aload_n 0, 0, 0, 0), (108, .getfield 62, 0, 7, 0), (111, .getfield 108, 8, 1, 0), (114, .ireturn, 0, 0, 0)]
def mt_c42 : List (Nat × mmE) := [(0, .aload_n 0, 0, 0, 0), (1, .getfield 29, 2, 0, 0), (4, .invokevirtual 33, 25, 1, 3), (7, .aload_n 0, 0, 0, 0), (8, .aload_n 1, 0, 0, 0), (9, .putfield 61, 2, 11, 2), (12, .aload_n 0, 0, 0, 0), (13, .new 22, 3, 0, 0),
  (16, .dup, 0, 0, 0), (17, .invokespecial 24, 11, 1, 1), (20, .putfield 25, 2, 12, 2), (23, .aload_n 0, 0, 0, 0), (24, .iconst 0, 0, 0, 0), (25, .putfield 38, 2, 3, 0), (28, .aload_n 0, 0, 0, 0), (29, .invokevirtual 55, 43, 1, 4),
  (32, .iconst 1, 0, 0, 0), (33, .istore_n 2, 0, 0, 0), (34, .aload_n 0, 0, 0, 0), (35, .iconst 0, 0, 0, 0), (36, .putfield 65, 2, 9, 0), (39, .iload_n 2, 0, 0, 0), (40, .ifCond .eq 139, 0, 0, 0), (43, .aload_n 0, 0, 0, 0),
  (44, .getfield 65, 2, 9, 0), (47, .sipush 1000, 0, 0, 0), (50, .if_icmp .ge 129, 0, 0, 0), (53, .aload_n 0, 0, 0, 0), (54, .invokevirtual 41, 39, 1, 4), (57, .istore_n 3, 0, 0, 0), (58, .aload_n 0, 0, 0, 0), (59, .getfield 61, 2, 11, 0),
  (62, .ifnonnull 7, 0, 0, 0), (65, .iconst 1, 0, 0, 0), (66, .goto 4, 0, 0, 0), (69, .iconst 0, 0, 0, 0), (70, .istore 4, 0, 0, 0), (72, .iload_n 3, 0, 0, 0), (73, .sipush 200, 0, 0, 0), (76, .if_icmp .ne 11, 0, 0, 0),
  (79, .aload_n 0, 0, 0, 0), (80, .invokevirtual 68, 44, 1, 4), (83, .istore_n 2, 0, 0, 0), (84, .goto 82, 0, 0, 0), (87, .iload 4, 0, 0, 0), (89, .ifCond .eq 18, 0, 0, 0), (92, .iload_n 3, 0, 0, 0), (93, .sipush 216, 0, 0, 0),
  (96, .if_icmp .ne 11, 0, 0, 0), (99, .aload_n 0, 0, 0, 0), (100, .invokevirtual 72, 84, 1, 4), (103, .istore_n 2, 0, 0, 0), (104, .goto 62, 0, 0, 0), (107, .iload 4, 0, 0, 0), (109, .ifCond .eq 33, 0, 0, 0), (112, .iload_n 3, 0, 0, 0),
  (113, .sipush 217, 0, 0, 0), (116, .if_icmp .eq 17, 0, 0, 0), (119, .iload_n 3, 0, 0, 0), (120, .sipush 218, 0, 0, 0), (123, .if_icmp .eq 10, 0, 0, 0), (126, .iload_n 3, 0, 0, 0), (127, .sipush 221, 0, 0, 0), (130, .if_icmp .ne 12, 0, 0, 0),
  (133, .aload_n 0, 0, 0, 0), (134, .iload_n 3, 0, 0, 0), (135, .invokevirtual 75, 87, 2, 4), (138, .istore_n 2, 0, 0, 0), (139, .goto 27, 0, 0, 0), (142, .aload_n 0, 0, 0, 0), (143, .getfield 65, 2, 9, 0), (146, .ifCond .le 10, 0, 0, 0),
  (149, .iload_n 3, 0, 0, 0), (150, .iconst 4, 0, 0, 0), (151, .if_icmp .ne 5, 0, 0, 0), (154, .iconst 1, 0, 0, 0), (155, .ireturn, 1, 0, 0), (156, .aload_n 0, 0, 0, 0), (157, .iconst 1, 0, 0, 0), (158, .aload_n 0, 0, 0, 0),
  (159, .getfield 38, 2, 3, 0), (162, .invokevirtual 79, 46, 3, 4), (165, .istore_n 2, 0, 0, 0), (166, .aload_n 0, 0, 0, 0), (167, .dup, 0, 0, 0), (168, .getfield 65, 2, 9, 0), (171, .iconst 1, 0, 0, 0), (172, .iadd, 0, 0, 0),
  (173, .putfield 65, 2, 9, 0), (176, .goto (-137), 0, 0, 0), (179, .iload_n 2, 0, 0, 0), (180, .ireturn, 1, 0, 0)]
def mt_c43 : List (Nat × mmE) := [(0, .aload_n 0, 0, 0, 0), (1, .iconst 0, 0, 0, 0), (2, .putfield 58, 2, 4, 0), (5, .aload_n 0, 0, 0, 0), (6, .iconst (-1), 0, 0, 0), (7, .putfield 15, 2, 5, 0), (10, .return_, 0, 0, 0)]
def mt_c44 : List (Nat × mmE) := [(0, .aload_n 0, 0, 0, 0), (1, .dup, 0, 0, 0), (2, .getfield 38, 2, 3, 0), (5, .iconst 1, 0, 0, 0), (6, .iadd, 0, 0, 0), (7, .putfield 38, 2, 3, 0), (10, .aload_n 0, 0, 0, 0), (11, .getfield 38, 2, 3, 0),
  (14, .istore_n 1, 0, 0, 0), (15, .aload_n 0, 0, 0, 0), (16, .invokevirtual 83, 45, 1, 4), (19, .istore_n 2, 0, 0, 0), (20, .iload_n 2, 0, 0, 0), (21, .iconst (-1), 0, 0, 0), (22, .if_icmp .ne 5, 0, 0, 0), (25, .iconst 0, 0, 0, 0),
  (26, .ireturn, 1, 0, 0), (27, .aload_n 0, 0, 0, 0), (28, .getfield 61, 2, 11, 0), (31, .ifnull 21, 0, 0, 0), (34, .aload_n 0, 0, 0, 0), (35, .getfield 61, 2, 11, 0), (38, .iload_n 2, 0, 0, 0), (39, .invokevirtual 86, 47, 2, 10),
  (42, .ifnull 10, 0, 0, 0), (45, .aload_n 0, 0, 0, 0), (46, .iconst 4, 0, 0, 0), (47, .iload_n 1, 0, 0, 0), (48, .invokevirtual 79, 46, 3, 4), (51, .ireturn, 1, 0, 0), (52, .aload_n 0, 0, 0, 0), (53, .getfield 61, 2, 11, 0),
  (56, .ifnull 22, 0, 0, 0), (59, .aload_n 0, 0, 0, 0), (60, .getfield 61, 2, 11, 0), (63, .getfield 92, 8, 1, 0), (66, .bipush 12, 0, 0, 0), (68, .if_icmp .lt 10, 0, 0, 0), (71, .aload_n 0, 0, 0, 0), (72, .iconst 5, 0, 0, 0),
  (73, .iload_n 1, 0, 0, 0), (74, .invokevirtual 79, 46, 3, 4), (77, .ireturn, 1, 0, 0), (78, .iconst (-1), 0, 0, 0), (79, .istore_n 3, 0, 0, 0), (80, .aload_n 0, 0, 0, 0), (81, .invokevirtual 41, 39, 1, 4), (84, .sipush 201, 0, 0, 0),
  (87, .if_icmp .ne 55, 0, 0, 0), (90, .aload_n 0, 0, 0, 0), (91, .dup, 0, 0, 0), (92, .getfield 38, 2, 3, 0), (95, .iconst 1, 0, 0, 0), (96, .iadd, 0, 0, 0), (97, .putfield 38, 2, 3, 0), (100, .aload_n 0, 0, 0, 0),
  (101, .getfield 38, 2, 3, 0), (104, .istore_n 1, 0, 0, 0), (105, .aload_n 0, 0, 0, 0), (106, .invokevirtual 83, 45, 1, 4), (109, .istore_n 3, 0, 0, 0), (110, .iload_n 3, 0, 0, 0), (111, .iconst (-1), 0, 0, 0), (112, .if_icmp .ne 5, 0, 0, 0),
  (115, .iconst 0, 0, 0, 0), (116, .ireturn, 1, 0, 0), (117, .aload_n 0, 0, 0, 0), (118, .getfield 61, 2, 11, 0), (121, .ifnull 21, 0, 0, 0), (124, .aload_n 0, 0, 0, 0), (125, .getfield 61, 2, 11, 0), (128, .iload_n 3, 0, 0, 0),
  (129, .invokevirtual 86, 47, 2, 10), (132, .ifnonnull 10, 0, 0, 0), (135, .aload_n 0, 0, 0, 0), (136, .iconst 4, 0, 0, 0), (137, .iload_n 1, 0, 0, 0), (138, .invokevirtual 79, 46, 3, 4), (141, .ireturn, 1, 0, 0), (142, .new 95, 10, 0, 0),
  (145, .dup, 0, 0, 0), (146, .sipush 200, 0, 0, 0), (149, .aload_n 0, 0, 0, 0), (150, .getfield 65, 2, 9, 0), (153, .iload_n 2, 0, 0, 0), (154, .iconst (-1), 0, 0, 0), (155, .iload_n 3, 0, 0, 0), (156, .aconst_null, 0, 0, 0),
  (157, .invokespecial 97, 48, 7, 1), (160, .astore 4, 0, 0, 0), (162, .aconst_null, 0, 0, 0), (163, .astore 5, 0, 0, 0), (165, .aload_n 0, 0, 0, 0), (166, .getfield 61, 2, 11, 0), (169, .ifnonnull 16, 0, 0, 0), (172, .aload_n 0, 0, 0, 0),
  (173, .getfield 25, 2, 12, 0), (176, .aload 4, 0, 0, 0), (178, .invokevirtual 100, 49, 2, 5), (181, .pop, 0, 0, 0), (182, .goto 23, 0, 0, 0), (185, .aload_n 0, 0, 0, 0), (186, .getfield 61, 2, 11, 0), (189, .aload 4, 0, 0, 0),
  (191, .invokevirtual 104, 56, 2, 10), (194, .pop, 0, 0, 0), (195, .aload_n 0, 0, 0, 0), (196, .getfield 61, 2, 11, 0), (199, .iload_n 2, 0, 0, 0), (200, .invokevirtual 86, 47, 2, 10), (203, .astore 5, 0, 0, 0), (205, .aload_n 0, 0, 0, 0),
  (206, .bipush 123, 0, 0, 0), (208, .invokevirtual 108, 58, 2, 4), (211, .ifCond .ne 5, 0, 0, 0), (214, .iconst 0, 0, 0, 0), (215, .ireturn, 1, 0, 0), (216, .iconst 0, 0, 0, 0), (217, .istore 6, 0, 0, 0), (219, .iload 6, 0, 0, 0),
  (221, .sipush 1000, 0, 0, 0), (224, .if_icmp .ge 30, 0, 0, 0), (227, .aload_n 0, 0, 0, 0), (228, .invokevirtual 41, 39, 1, 4), (231, .bipush 125, 0, 0, 0), (233, .if_icmp .eq 21, 0, 0, 0), (236, .aload_n 0, 0, 0, 0), (237, .iload_n 2, 0, 0, 0),
  (238, .aload 5, 0, 0, 0), (240, .invokevirtual 111, 59, 3, 4), (243, .ifCond .ne 5, 0, 0, 0), (246, .iconst 0, 0, 0, 0), (247, .ireturn, 1, 0, 0), (248, .iinc 6 1, 0, 0, 0), (251, .goto (-32), 0, 0, 0), (254, .aload_n 0, 0, 0, 0),
  (255, .bipush 125, 0, 0, 0), (257, .invokevirtual 108, 58, 2, 4), (260, .ireturn, 1, 0, 0)]
def mt_c45 : List (Nat × mmE) := [(0, .aload_n 0, 0, 0, 0), (1, .invokevirtual 41, 39, 1, 4), (4, .iconst 1, 0, 0, 0), (5, .if_icmp .eq 15, 0, 0, 0), (8, .aload_n 0, 0, 0, 0), (9, .iconst 1, 0, 0, 0), (10, .aload_n 0, 0, 0, 0), (11, .getfield 38, 2, 3, 0),
  (14, .invokevirtual 79, 46, 3, 4), (17, .pop, 0, 0, 0), (18, .iconst (-1), 0, 0, 0), (19, .ireturn, 0, 0, 0), (20, .aload_n 0, 0, 0, 0), (21, .aload_n 0, 0, 0, 0), (22, .getfield 29, 2, 0, 0), (25, .getfield 45, 1, 4, 0),
  (28, .aload_n 0, 0, 0, 0), (29, .getfield 38, 2, 3, 0), (32, .iaload, 0, 0, 0), (33, .invokevirtual 48, 40, 2, 4), (36, .istore_n 1, 0, 0, 0), (37, .iload_n 1, 0, 0, 0), (38, .iconst (-1), 0, 0, 0), (39, .if_icmp .ne 15, 0, 0, 0),
  (42, .aload_n 0, 0, 0, 0), (43, .iconst 3, 0, 0, 0), (44, .aload_n 0, 0, 0, 0), (45, .getfield 38, 2, 3, 0), (48, .invokevirtual 79, 46, 3, 4), (51, .pop, 0, 0, 0), (52, .iconst (-1), 0, 0, 0), (53, .ireturn, 0, 0, 0),
  (54, .aload_n 0, 0, 0, 0), (55, .dup, 0, 0, 0), (56, .getfield 38, 2, 3, 0), (59, .iconst 1, 0, 0, 0), (60, .iadd, 0, 0, 0), (61, .putfield 38, 2, 3, 0), (64, .iload_n 1, 0, 0, 0), (65, .ireturn, 0, 0, 0)]
def mt_c46 : List (Nat × mmE) := [(0, .aload_n 0, 0, 0, 0), (1, .iload_n 1, 0, 0, 0), (2, .putfield 58, 2, 4, 0), (5, .aload_n 0, 0, 0, 0), (6, .iload_n 2, 0, 0, 0), (7, .ifCond .lt 26, 0, 0, 0), (10, .iload_n 2, 0, 0, 0), (11, .aload_n 0, 0, 0, 0),
  (12, .getfield 29, 2, 0, 0), (15, .getfield 184, 1, 5, 0), (18, .if_icmp .ge 15, 0, 0, 0), (21, .aload_n 0, 0, 0, 0), (22, .getfield 29, 2, 0, 0), (25, .getfield 188, 1, 3, 0), (28, .iload_n 2, 0, 0, 0), (29, .iaload, 0, 0, 0),
  (30, .goto 4, 0, 0, 0), (33, .iconst (-1), 0, 0, 0), (34, .putfield 15, 2, 5, 0), (37, .iconst 0, 0, 0, 0), (38, .ireturn, 1, 0, 0)]
def mt_c47 : List (Nat × mmE) := [(0, .iconst 0, 0, 0, 0), (1, .istore_n 2, 0, 0, 0), (2, .iload_n 2, 0, 0, 0), (3, .aload_n 0, 0, 0, 0), (4, .getfield 17, 8, 1, 0), (7, .if_icmp .ge 29, 0, 0, 0), (10, .aload_n 0, 0, 0, 0), (11, .getfield 11, 8, 0, 0),
  (14, .iload_n 2, 0, 0, 0), (15, .aaload, 0, 0, 0), (16, .getfield 21, 11, 0, 0), (19, .iload_n 1, 0, 0, 0), (20, .if_icmp .ne 10, 0, 0, 0), (23, .aload_n 0, 0, 0, 0), (24, .getfield 11, 8, 0, 0), (27, .iload_n 2, 0, 0, 0),
  (28, .aaload, 0, 0, 0), (29, .areturn, 0, 0, 0), (30, .iinc 2 1, 0, 0, 0), (33, .goto (-31), 0, 0, 0), (36, .aconst_null, 0, 0, 0), (37, .areturn, 0, 0, 0)]
def mt_c48 : List (Nat × mmE) := [(0, .aload_n 0, 0, 0, 0), (1, .invokespecial 1, 0, 0, 1003), (4, .aload_n 0, 0, 0, 0), (5, .iload_n 1, 0, 0, 0), (6, .putfield 7, 10, 0, 0), (9, .aload_n 0, 0, 0, 0), (10, .iload_n 2, 0, 0, 0), (11, .putfield 13, 10, 1, 0),
  (14, .aload_n 0, 0, 0, 0), (15, .iload_n 3, 0, 0, 0), (16, .putfield 16, 10, 2, 0), (19, .aload_n 0, 0, 0, 0), (20, .iload 4, 0, 0, 0), (22, .putfield 19, 10, 3, 0), (25, .aload_n 0, 0, 0, 0), (26, .iload 5, 0, 0, 0),
  (28, .putfield 22, 10, 4, 0), (31, .aload_n 0, 0, 0, 0), (32, .aload 6, 0, 0, 0), (34, .putfield 25, 10, 5, 2), (37, .return_, 0, 0, 0)]
def mt_c49 : List (Nat × mmE) := [(0, .aload_n 0, 0, 0, 0), (1, .dup, 0, 0, 0), (2, .getfield 63, 3, 2, 0), (5, .iconst 1, 0, 0, 0), (6, .iadd, 0, 0, 0), (7, .putfield 63, 3, 2, 0), (10, .aload_n 0, 0, 0, 0), (11, .aload_n 1, 0, 0, 0),
  (12, .aload_n 0, 0, 0, 0), (13, .getfield 9, 3, 0, 0), (16, .aload_n 0, 0, 0, 0), (17, .getfield 48, 3, 1, 0), (20, .invokevirtual 131, 50, 4, 5), (23, .iconst 1, 0, 0, 0), (24, .ireturn, 1, 0, 0)]
def mt_c50 : List (Nat × mmE) := [(0, .iload_n 3, 0, 0, 0), (1, .aload_n 2, 0, 0, 0), (2, .arraylength, 0, 0, 0), (3, .if_icmp .ne 8, 0, 0, 0), (6, .aload_n 0, 0, 0, 0), (7, .invokevirtual 129, 51, 1, 5), (10, .astore_n 2, 0, 0, 0), (11, .aload_n 2, 0, 0, 0),
  (12, .iload_n 3, 0, 0, 0), (13, .aload_n 1, 0, 0, 0), (14, .aastore, 0, 0, 0), (15, .aload_n 0, 0, 0, 0), (16, .iload_n 3, 0, 0, 0), (17, .iconst 1, 0, 0, 0), (18, .iadd, 0, 0, 0), (19, .putfield 48, 3, 1, 0),
  (22, .return_, 0, 0, 0)]
def mt_c51 : List (Nat × mmE) := [(0, .aload_n 0, 0, 0, 0), (1, .aload_n 0, 0, 0, 0), (2, .getfield 48, 3, 1, 0), (5, .iconst 1, 0, 0, 0), (6, .iadd, 0, 0, 0), (7, .invokevirtual 69, 52, 2, 5), (10, .areturn, 0, 0, 0)]
def mt_c52 : List (Nat × mmE) := [(0, .aload_n 0, 0, 0, 0), (1, .getfield 9, 3, 0, 0), (4, .arraylength, 0, 0, 0), (5, .istore_n 2, 0, 0, 0), (6, .iload_n 2, 0, 0, 0), (7, .ifCond .gt 13, 0, 0, 0), (10, .aload_n 0, 0, 0, 0), (11, .getfield 9, 3, 0, 0),
  (14, .getstatic 39, 1, 5, 0), (17, .if_acmp .eq 28, 0, 0, 0), (20, .iload_n 2, 0, 0, 0), (21, .iload_n 1, 0, 0, 0), (22, .iload_n 2, 0, 0, 0), (23, .isub, 0, 0, 0), (24, .iload_n 2, 0, 0, 0), (25, .iconst 1, 0, 0, 0),
  (26, .ishr, 0, 0, 0), (27, .invokestatic 73, 53, 3, 0), (30, .istore_n 3, 0, 0, 0), (31, .aload_n 0, 0, 0, 0), (32, .aload_n 0, 0, 0, 0), (33, .getfield 9, 3, 0, 0), (36, .iload_n 3, 0, 0, 0), (37, .invokestatic 66, 54, 2, 0),
  (40, .dup_x1, 0, 0, 0), (41, .putfield 9, 3, 0, 2), (44, .areturn, 0, 0, 0), (45, .aload_n 0, 0, 0, 0), (46, .bipush 10, 0, 0, 0), (48, .iload_n 1, 0, 0, 0), (49, .invokestatic 79, 0, 0, 1004), (52, .anewarray 7, 9, 0, 0),
  (55, .dup_x1, 0, 0, 0), (56, .putfield 9, 3, 0, 2), (59, .areturn, 0, 0, 0)]
def mt_c53 : List (Nat × mmE) := [(0, .iload_n 0, 0, 0, 0), (1, .iload_n 1, 0, 0, 0), (2, .iload_n 2, 0, 0, 0), (3, .invokestatic 194, 0, 0, 1004), (6, .iadd, 0, 0, 0), (7, .istore_n 3, 0, 0, 0), (8, .iconst 0, 0, 0, 0), (9, .iload_n 3, 0, 0, 0),
  (10, .if_icmp .ge 11, 0, 0, 0), (13, .iload_n 3, 0, 0, 0), (14, .ldc 200, 0, 2147483639, 0), (16, .if_icmp .gt 5, 0, 0, 0), (19, .iload_n 3, 0, 0, 0), (20, .ireturn, 0, 0, 0), (21, .iload_n 0, 0, 0, 0), (22, .iload_n 1, 0, 0, 0),
  (26, .ireturn, 0, 0, 0)]
def mt_c54 : List (Nat × mmE) := [(0, .aload_n 0, 0, 0, 0), (1, .iload_n 1, 0, 0, 0), (2, .aload_n 0, 0, 0, 0), (3, .invokevirtual 86, 6, 9, 1001), (6, .invokestatic 300, 55, 3, 0), (9, .areturn, 0, 0, 0)]
def mt_c55 : List (Nat × mmE) := [(0, .aload_n 2, 0, 0, 0), (1, .ldc 110, 1, 6, 0), (3, .if_acmp .ne 10, 0, 0, 0), (6, .iload_n 1, 0, 0, 0), (7, .anewarray 2, 9, 0, 0), (10, .goto 14, 0, 0, 0), (13, .aload_n 2, 0, 0, 0), (17, .iload_n 1, 0, 0, 0),
  (24, .astore_n 3, 0, 0, 0), (25, .aload_n 0, 0, 0, 0), (26, .iconst 0, 0, 0, 0), (27, .aload_n 3, 0, 0, 0), (28, .iconst 0, 0, 0, 0), (29, .aload_n 0, 0, 0, 0), (30, .arraylength, 0, 0, 0), (31, .iload_n 1, 0, 0, 0),
  (32, .invokestatic 304, 0, 0, 1005), (35, .invokestatic 150, 0, 0, 1000), (38, .aload_n 3, 0, 0, 0), (39, .areturn, 0, 0, 0)]
def mt_c56 : List (Nat × mmE) := [(0, .aload_n 0, 0, 0, 0), (1, .aload_n 1, 0, 0, 0), (2, .getfield 46, 10, 2, 0), (5, .invokevirtual 33, 47, 2, 10), (8, .ifnull 5, 0, 0, 0), (11, .iconst 2, 0, 0, 0), (12, .ireturn, 0, 0, 0), (13, .aload_n 0, 0, 0, 0),
  (14, .getfield 17, 8, 1, 0), (17, .bipush 12, 0, 0, 0), (19, .if_icmp .lt 6, 0, 0, 0), (22, .bipush 7, 0, 0, 0), (24, .ireturn, 0, 0, 0), (25, .aload_n 0, 0, 0, 0), (26, .aload_n 1, 0, 0, 0), (27, .getfield 57, 10, 4, 0),
  (30, .invokevirtual 33, 47, 2, 10), (33, .astore_n 2, 0, 0, 0), (34, .aload_n 1, 0, 0, 0), (35, .getfield 57, 10, 4, 0), (38, .iconst (-1), 0, 0, 0), (39, .if_icmp .eq 9, 0, 0, 0), (42, .aload_n 2, 0, 0, 0), (43, .ifnonnull 5, 0, 0, 0),
  (46, .iconst 1, 0, 0, 0), (47, .ireturn, 0, 0, 0), (48, .new 9, 11, 0, 0), (51, .dup, 0, 0, 0), (52, .aload_n 1, 0, 0, 0), (53, .getfield 46, 10, 2, 0), (56, .invokespecial 67, 57, 2, 1), (59, .astore_n 3, 0, 0, 0),
  (60, .aload_n 3, 0, 0, 0), (61, .aload_n 2, 0, 0, 0), (62, .putfield 29, 11, 1, 2), (65, .aload_n 3, 0, 0, 0), (66, .iconst 1, 0, 0, 0), (67, .putfield 49, 11, 3, 1), (70, .aload_n 0, 0, 0, 0), (71, .getfield 11, 8, 0, 0),
  (74, .aload_n 0, 0, 0, 0), (75, .getfield 17, 8, 1, 0), (78, .aload_n 3, 0, 0, 0), (79, .aastore, 0, 0, 0), (80, .aload_n 0, 0, 0, 0), (81, .dup, 0, 0, 0), (82, .getfield 17, 8, 1, 0), (85, .iconst 1, 0, 0, 0),
  (86, .iadd, 0, 0, 0), (87, .putfield 17, 8, 1, 0), (90, .iconst 0, 0, 0, 0), (91, .ireturn, 0, 0, 0)]
def mt_c57 : List (Nat × mmE) := [(0, .aload_n 0, 0, 0, 0), (1, .invokespecial 3, 0, 0, 1003), (4, .aload_n 0, 0, 0, 0), (5, .bipush 8, 0, 0, 0), (7, .newarray .int, 0, 0, 0), (9, .putfield 9, 11, 5, 2), (12, .aload_n 0, 0, 0, 0), (13, .bipush 8, 0, 0, 0),
  (15, .newarray .int, 0, 0, 0), (17, .putfield 15, 11, 6, 2), (20, .aload_n 0, 0, 0, 0), (21, .bipush 8, 0, 0, 0), (23, .newarray .int, 0, 0, 0), (25, .putfield 18, 11, 7, 2), (28, .aload_n 0, 0, 0, 0), (29, .iconst 4, 0, 0, 0),
  (30, .newarray .int, 0, 0, 0), (32, .putfield 21, 11, 9, 2), (35, .aload_n 0, 0, 0, 0), (36, .iconst 4, 0, 0, 0), (37, .newarray .int, 0, 0, 0), (39, .putfield 24, 11, 10, 2), (42, .aload_n 0, 0, 0, 0), (43, .bipush 8, 0, 0, 0),
  (45, .newarray .int, 0, 0, 0), (47, .putfield 27, 11, 12, 2), (50, .aload_n 0, 0, 0, 0), (51, .bipush 8, 0, 0, 0), (53, .anewarray 30, 10, 0, 0), (56, .putfield 31, 11, 13, 2), (59, .aload_n 0, 0, 0, 0), (60, .bipush 40, 0, 0, 0),
  (62, .newarray .boolean, 1, 0, 0), (64, .putfield 35, 11, 14, 2), (67, .aload_n 0, 0, 0, 0), (68, .bipush 40, 0, 0, 0), (70, .anewarray 10, 8, 0, 0), (73, .putfield 39, 11, 15, 2), (76, .aload_n 0, 0, 0, 0), (77, .bipush 40, 0, 0, 0),
  (79, .newarray .int, 0, 0, 0), (81, .putfield 43, 11, 16, 2), (84, .aload_n 0, 0, 0, 0), (85, .bipush 40, 0, 0, 0), (87, .anewarray 10, 8, 0, 0), (90, .putfield 46, 11, 17, 2), (93, .aload_n 0, 0, 0, 0), (94, .bipush 40, 0, 0, 0),
  (96, .newarray .int, 0, 0, 0), (98, .putfield 49, 11, 18, 2), (101, .aload_n 0, 0, 0, 0), (102, .iload_n 1, 0, 0, 0), (103, .putfield 52, 11, 0, 0), (106, .return_, 0, 0, 0)]
def mt_c58 : List (Nat × mmE) := [(0, .aload_n 0, 0, 0, 0), (1, .invokevirtual 41, 39, 1, 4), (4, .iload_n 1, 0, 0, 0), (5, .if_icmp .eq 13, 0, 0, 0), (8, .aload_n 0, 0, 0, 0), (9, .iconst 1, 0, 0, 0), (10, .aload_n 0, 0, 0, 0), (11, .getfield 38, 2, 3, 0),
  (14, .invokevirtual 79, 46, 3, 4), (17, .ireturn, 1, 0, 0), (18, .aload_n 0, 0, 0, 0), (19, .dup, 0, 0, 0), (20, .getfield 38, 2, 3, 0), (23, .iconst 1, 0, 0, 0), (24, .iadd, 0, 0, 0), (25, .putfield 38, 2, 3, 0),
  (28, .iconst 1, 0, 0, 0), (29, .ireturn, 1, 0, 0)]
def mt_c59 : List (Nat × mmE) := [(0, .aload_n 0, 0, 0, 0), (1, .invokevirtual 41, 39, 1, 4), (4, .istore_n 3, 0, 0, 0), (5, .iload_n 3, 0, 0, 0), (6, .sipush 202, 0, 0, 0), (9, .if_icmp .eq 34, 0, 0, 0), (12, .iload_n 3, 0, 0, 0), (13, .sipush 203, 0, 0, 0),
  (16, .if_icmp .eq 27, 0, 0, 0), (19, .iload_n 3, 0, 0, 0), (20, .sipush 204, 0, 0, 0), (23, .if_icmp .eq 20, 0, 0, 0), (26, .iload_n 3, 0, 0, 0), (27, .sipush 205, 0, 0, 0), (30, .if_icmp .eq 13, 0, 0, 0), (33, .aload_n 0, 0, 0, 0),
  (34, .iconst 1, 0, 0, 0), (35, .aload_n 0, 0, 0, 0), (36, .getfield 38, 2, 3, 0), (39, .invokevirtual 79, 46, 3, 4), (42, .ireturn, 1, 0, 0), (43, .aload_n 0, 0, 0, 0), (44, .dup, 0, 0, 0), (45, .getfield 38, 2, 3, 0),
  (48, .iconst 1, 0, 0, 0), (49, .iadd, 0, 0, 0), (50, .putfield 38, 2, 3, 0), (53, .aload_n 0, 0, 0, 0), (54, .getfield 38, 2, 3, 0), (57, .istore 4, 0, 0, 0), (59, .aload_n 0, 0, 0, 0), (60, .invokevirtual 83, 45, 1, 4),
  (63, .istore 5, 0, 0, 0), (65, .iload 5, 0, 0, 0), (67, .iconst (-1), 0, 0, 0), (68, .if_icmp .ne 5, 0, 0, 0), (71, .iconst 0, 0, 0, 0), (72, .ireturn, 1, 0, 0), (73, .aload_n 2, 0, 0, 0), (74, .ifnonnull 7, 0, 0, 0),
  (77, .iconst 0, 0, 0, 0), (78, .goto 10, 0, 0, 0), (81, .aload_n 2, 0, 0, 0), (82, .iload_n 3, 0, 0, 0), (83, .iload 5, 0, 0, 0), (85, .invokevirtual 115, 60, 3, 13), (88, .istore 6, 0, 0, 0), (90, .iload 6, 0, 0, 0),
  (92, .ifCond .eq 12, 0, 0, 0), (95, .aload_n 0, 0, 0, 0), (96, .iload 6, 0, 0, 0), (98, .iload 4, 0, 0, 0), (100, .invokevirtual 79, 46, 3, 4), (103, .ireturn, 1, 0, 0), (104, .aconst_null, 0, 0, 0), (105, .astore 7, 0, 0, 0),
  (107, .aload_n 0, 0, 0, 0), (108, .iconst (-1), 0, 0, 0), (109, .putfield 121, 2, 10, 0), (112, .iload_n 3, 0, 0, 0), (113, .sipush 205, 0, 0, 0), (116, .if_icmp .eq 13, 0, 0, 0), (119, .aload_n 0, 0, 0, 0), (120, .iload_n 3, 0, 0, 0),
  (121, .invokevirtual 124, 62, 2, 4), (124, .ifCond .ne 5, 0, 0, 0), (127, .iconst 0, 0, 0, 0), (128, .ireturn, 1, 0, 0), (129, .iload_n 3, 0, 0, 0), (130, .sipush 205, 0, 0, 0), (133, .if_icmp .ne 41, 0, 0, 0), (136, .aload_n 0, 0, 0, 0),
  (137, .iconst 0, 0, 0, 0), (138, .putfield 127, 2, 7, 0), (141, .aload_n 0, 0, 0, 0), (142, .iconst 0, 0, 0, 0), (143, .putfield 130, 2, 8, 0), (146, .aload_n 0, 0, 0, 0), (147, .iconst 0, 0, 0, 0), (148, .invokevirtual 133, 63, 2, 4),
  (151, .ifCond .ne 5, 0, 0, 0), (154, .iconst 0, 0, 0, 0), (155, .ireturn, 1, 0, 0), (156, .aload_n 0, 0, 0, 0), (157, .iconst 0, 0, 0, 0), (158, .invokevirtual 136, 65, 2, 4), (161, .aload_n 0, 0, 0, 0), (162, .getfield 19, 2, 6, 0),
  (165, .aload_n 0, 0, 0, 0), (166, .getfield 127, 2, 7, 0), (169, .invokestatic 140, 74, 2, 0), (172, .astore 7, 0, 0, 0), (174, .new 95, 10, 0, 0), (177, .dup, 0, 0, 0), (178, .iload_n 3, 0, 0, 0), (179, .aload_n 0, 0, 0, 0),
  (180, .getfield 65, 2, 9, 0), (183, .iload_n 1, 0, 0, 0), (184, .iload 5, 0, 0, 0), (186, .aload_n 0, 0, 0, 0), (187, .getfield 121, 2, 10, 0), (190, .aload 7, 0, 0, 0), (192, .invokespecial 97, 48, 7, 1), (195, .astore 8, 0, 0, 0),
  (197, .aload_n 2, 0, 0, 0), (198, .ifnonnull 16, 0, 0, 0), (201, .aload_n 0, 0, 0, 0), (202, .getfield 25, 2, 12, 0), (205, .aload 8, 0, 0, 0), (207, .invokevirtual 100, 49, 2, 5), (210, .pop, 0, 0, 0), (211, .goto 10, 0, 0, 0),
  (214, .aload_n 2, 0, 0, 0), (215, .aload 8, 0, 0, 0), (217, .invokevirtual 146, 75, 2, 13), (220, .pop, 0, 0, 0), (221, .iconst 1, 0, 0, 0), (222, .ireturn, 1, 0, 0)]
def mt_c60 : List (Nat × mmE) := [(0, .iload_n 1, 0, 0, 0), (1, .sipush 205, 0, 0, 0), (4, .if_icmp .ne 36, 0, 0, 0), (7, .aload_n 0, 0, 0, 0), (8, .getfield 27, 11, 12, 0), (11, .aload_n 0, 0, 0, 0), (12, .getfield 74, 11, 11, 0), (15, .iload_n 2, 0, 0, 0),
  (16, .invokestatic 77, 29, 3, 0), (19, .iconst (-1), 0, 0, 0), (20, .if_icmp .eq 5, 0, 0, 0), (23, .iconst 4, 0, 0, 0), (24, .ireturn, 0, 0, 0), (25, .aload_n 0, 0, 0, 0), (26, .getfield 74, 11, 11, 0), (29, .bipush 8, 0, 0, 0),
  (31, .if_icmp .lt 7, 0, 0, 0), (34, .iconst 5, 0, 0, 0), (35, .goto 4, 0, 0, 0), (38, .iconst 0, 0, 0, 0), (39, .ireturn, 0, 0, 0), (40, .aload_n 0, 0, 0, 0), (41, .astore_n 3, 0, 0, 0), (42, .aload_n 3, 0, 0, 0),
  (43, .ifnull 21, 0, 0, 0), (46, .aload_n 3, 0, 0, 0), (47, .iload_n 2, 0, 0, 0), (48, .invokevirtual 85, 61, 2, 13), (51, .ifCond .eq 5, 0, 0, 0), (54, .iconst 4, 0, 0, 0), (55, .ireturn, 0, 0, 0), (56, .aload_n 3, 0, 0, 0),
  (57, .getfield 81, 11, 1, 0), (60, .astore_n 3, 0, 0, 0), (61, .goto (-19), 0, 0, 0), (64, .iload_n 1, 0, 0, 0), (65, .sipush 204, 0, 0, 0), (68, .if_icmp .ne 19, 0, 0, 0), (71, .aload_n 0, 0, 0, 0), (72, .getfield 71, 11, 8, 0),
  (75, .iconst 4, 0, 0, 0), (76, .if_icmp .lt 7, 0, 0, 0), (79, .iconst 1, 0, 0, 0), (80, .goto 21, 0, 0, 0), (83, .iconst 0, 0, 0, 0), (84, .goto 17, 0, 0, 0), (87, .aload_n 0, 0, 0, 0), (88, .getfield 62, 11, 4, 0),
  (91, .bipush 8, 0, 0, 0), (93, .if_icmp .lt 7, 0, 0, 0), (96, .iconst 1, 0, 0, 0), (97, .goto 4, 0, 0, 0), (100, .iconst 0, 0, 0, 0), (101, .istore_n 3, 0, 0, 0), (102, .iload_n 3, 0, 0, 0), (103, .ifCond .eq 7, 0, 0, 0),
  (106, .iconst 5, 0, 0, 0), (107, .goto 4, 0, 0, 0), (110, .iconst 0, 0, 0, 0), (111, .ireturn, 0, 0, 0)]
def mt_c61 : List (Nat × mmE) := [(0, .aload_n 0, 0, 0, 0), (1, .getfield 9, 11, 5, 0), (4, .aload_n 0, 0, 0, 0), (5, .getfield 62, 11, 4, 0), (8, .iload_n 1, 0, 0, 0), (9, .invokestatic 77, 29, 3, 0), (12, .iconst (-1), 0, 0, 0), (13, .if_icmp .ne 19, 0, 0, 0),
  (16, .aload_n 0, 0, 0, 0), (17, .getfield 21, 11, 9, 0), (20, .aload_n 0, 0, 0, 0), (21, .getfield 71, 11, 8, 0), (24, .iload_n 1, 0, 0, 0), (25, .invokestatic 77, 29, 3, 0), (28, .iconst (-1), 0, 0, 0), (29, .if_icmp .eq 7, 0, 0, 0),
  (32, .iconst 1, 0, 0, 0), (33, .goto 4, 0, 0, 0), (36, .iconst 0, 0, 0, 0), (37, .ireturn, 1, 0, 0)]
def mt_c62 : List (Nat × mmE) := [(0, .iload_n 1, 0, 0, 0), (1, .sipush 203, 0, 0, 0), (4, .if_icmp .ne 10, 0, 0, 0), (7, .aload_n 0, 0, 0, 0), (8, .bipush 59, 0, 0, 0), (10, .invokevirtual 108, 58, 2, 4), (13, .ireturn, 1, 0, 0), (14, .aload_n 0, 0, 0, 0),
  (15, .bipush 61, 0, 0, 0), (17, .invokevirtual 108, 58, 2, 4), (20, .ifCond .ne 5, 0, 0, 0), (23, .iconst 0, 0, 0, 0), (24, .ireturn, 1, 0, 0), (25, .aload_n 0, 0, 0, 0), (26, .invokevirtual 41, 39, 1, 4), (29, .bipush 45, 0, 0, 0),
  (31, .if_icmp .ne 7, 0, 0, 0), (34, .iconst 1, 0, 0, 0), (35, .goto 4, 0, 0, 0), (38, .iconst 0, 0, 0, 0), (39, .istore_n 2, 0, 0, 0), (40, .iload_n 2, 0, 0, 0), (41, .ifCond .eq 13, 0, 0, 0), (44, .aload_n 0, 0, 0, 0),
  (45, .dup, 0, 0, 0), (46, .getfield 38, 2, 3, 0), (49, .iconst 1, 0, 0, 0), (50, .iadd, 0, 0, 0), (51, .putfield 38, 2, 3, 0), (54, .aload_n 0, 0, 0, 0), (55, .invokevirtual 41, 39, 1, 4), (58, .iconst 2, 0, 0, 0),
  (59, .if_icmp .eq 13, 0, 0, 0), (62, .aload_n 0, 0, 0, 0), (63, .iconst 1, 0, 0, 0), (64, .aload_n 0, 0, 0, 0), (65, .getfield 38, 2, 3, 0), (68, .invokevirtual 79, 46, 3, 4), (71, .ireturn, 1, 0, 0), (72, .aload_n 0, 0, 0, 0),
  (73, .iload_n 2, 0, 0, 0), (74, .ifCond .eq 19, 0, 0, 0), (77, .aload_n 0, 0, 0, 0), (78, .getfield 29, 2, 0, 0), (81, .getfield 45, 1, 4, 0), (84, .aload_n 0, 0, 0, 0), (85, .getfield 38, 2, 3, 0), (88, .iaload, 0, 0, 0),
  (89, .ineg, 0, 0, 0), (90, .goto 15, 0, 0, 0), (93, .aload_n 0, 0, 0, 0), (94, .getfield 29, 2, 0, 0), (97, .getfield 45, 1, 4, 0), (100, .aload_n 0, 0, 0, 0), (101, .getfield 38, 2, 3, 0), (104, .iaload, 0, 0, 0),
  (105, .putfield 121, 2, 10, 0), (108, .aload_n 0, 0, 0, 0), (109, .dup, 0, 0, 0), (110, .getfield 38, 2, 3, 0), (113, .iconst 1, 0, 0, 0), (114, .iadd, 0, 0, 0), (115, .putfield 38, 2, 3, 0), (118, .aload_n 0, 0, 0, 0),
  (119, .bipush 59, 0, 0, 0), (121, .invokevirtual 108, 58, 2, 4), (124, .ireturn, 1, 0, 0)]
def mt_c63 : List (Nat × mmE) := [(0, .aload_n 0, 0, 0, 0), (1, .bipush 123, 0, 0, 0), (3, .invokevirtual 108, 58, 2, 4), (6, .ifCond .ne 5, 0, 0, 0), (9, .iconst 0, 0, 0, 0), (10, .ireturn, 1, 0, 0), (11, .iconst 0, 0, 0, 0), (12, .istore_n 2, 0, 0, 0),
  (13, .iload_n 2, 0, 0, 0), (14, .bipush 60, 0, 0, 0), (16, .if_icmp .gt 28, 0, 0, 0), (19, .aload_n 0, 0, 0, 0), (20, .invokevirtual 41, 39, 1, 4), (23, .bipush 125, 0, 0, 0), (25, .if_icmp .eq 19, 0, 0, 0), (28, .aload_n 0, 0, 0, 0),
  (29, .iload_n 1, 0, 0, 0), (30, .invokevirtual 159, 64, 2, 4), (33, .ifCond .ne 5, 0, 0, 0), (36, .iconst 0, 0, 0, 0), (37, .ireturn, 1, 0, 0), (38, .iinc 2 1, 0, 0, 0), (41, .goto (-28), 0, 0, 0), (44, .aload_n 0, 0, 0, 0),
  (45, .bipush 125, 0, 0, 0), (47, .invokevirtual 108, 58, 2, 4), (50, .ireturn, 1, 0, 0)]
def mt_c64 : List (Nat × mmE) := [(0, .aload_n 0, 0, 0, 0), (1, .invokevirtual 41, 39, 1, 4), (4, .istore_n 2, 0, 0, 0), (5, .iload_n 2, 0, 0, 0), (6, .iconst 1, 0, 0, 0), (7, .if_icmp .eq 27, 0, 0, 0), (10, .iload_n 2, 0, 0, 0), (11, .sipush 206, 0, 0, 0),
  (14, .if_icmp .lt 10, 0, 0, 0), (17, .iload_n 2, 0, 0, 0), (18, .sipush 212, 0, 0, 0), (21, .if_icmp .le 13, 0, 0, 0), (24, .aload_n 0, 0, 0, 0), (25, .iconst 1, 0, 0, 0), (26, .aload_n 0, 0, 0, 0), (27, .getfield 38, 2, 3, 0),
  (30, .invokevirtual 79, 46, 3, 4), (33, .ireturn, 1, 0, 0), (34, .iload_n 2, 0, 0, 0), (35, .sipush 211, 0, 0, 0), (38, .if_icmp .ne 17, 0, 0, 0), (41, .iload_n 1, 0, 0, 0), (42, .ifCond .le 13, 0, 0, 0), (45, .aload_n 0, 0, 0, 0),
  (46, .iconst 2, 0, 0, 0), (47, .aload_n 0, 0, 0, 0), (48, .getfield 38, 2, 3, 0), (51, .invokevirtual 79, 46, 3, 4), (54, .ireturn, 1, 0, 0), (55, .aload_n 0, 0, 0, 0), (56, .getfield 130, 2, 8, 0), (59, .bipush 60, 0, 0, 0),
  (61, .if_icmp .lt 13, 0, 0, 0), (64, .aload_n 0, 0, 0, 0), (65, .iconst 3, 0, 0, 0), (66, .aload_n 0, 0, 0, 0), (67, .getfield 38, 2, 3, 0), (70, .invokevirtual 79, 46, 3, 4), (73, .ireturn, 1, 0, 0), (74, .aload_n 0, 0, 0, 0),
  (75, .dup, 0, 0, 0), (76, .getfield 130, 2, 8, 0), (79, .iconst 1, 0, 0, 0), (80, .iadd, 0, 0, 0), (81, .putfield 130, 2, 8, 0), (84, .aload_n 0, 0, 0, 0), (85, .sipush 253, 0, 0, 0), (88, .invokevirtual 136, 65, 2, 4),
  (91, .iload_n 2, 0, 0, 0), (92, .lookupswitch 131 #[(1, 50), (206, 98), (207, 98), (212, 44)], 0, 0, 0), (136, .aload_n 0, 0, 0, 0), (137, .iload_n 1, 0, 0, 0), (138, .invokevirtual 162, 66, 2, 4), (141, .ireturn, 1, 0, 0), (142, .aload_n 0, 0, 0, 0), (143, .invokevirtual 83, 45, 1, 4),
  (146, .istore_n 3, 0, 0, 0), (147, .iload_n 3, 0, 0, 0), (148, .iconst (-1), 0, 0, 0), (149, .if_icmp .eq 21, 0, 0, 0), (152, .aload_n 0, 0, 0, 0), (153, .bipush 61, 0, 0, 0), (155, .invokevirtual 108, 58, 2, 4), (158, .ifCond .eq 12, 0, 0, 0),
  (161, .aload_n 0, 0, 0, 0), (162, .iconst 0, 0, 0, 0), (163, .iload_n 1, 0, 0, 0), (164, .invokevirtual 156, 67, 3, 4), (167, .ifCond .ne 5, 0, 0, 0), (170, .iconst 0, 0, 0, 0), (171, .ireturn, 1, 0, 0), (172, .aload_n 0, 0, 0, 0),
  (173, .bipush 61, 0, 0, 0), (175, .invokevirtual 136, 65, 2, 4), (178, .aload_n 0, 0, 0, 0), (179, .iload_n 3, 0, 0, 0), (180, .invokevirtual 136, 65, 2, 4), (183, .aload_n 0, 0, 0, 0), (184, .bipush 59, 0, 0, 0), (186, .invokevirtual 108, 58, 2, 4),
  (189, .ireturn, 1, 0, 0), (190, .aload_n 0, 0, 0, 0), (191, .dup, 0, 0, 0), (192, .getfield 38, 2, 3, 0), (195, .iconst 1, 0, 0, 0), (196, .iadd, 0, 0, 0), (197, .putfield 38, 2, 3, 0), (200, .aload_n 0, 0, 0, 0),
  (201, .iconst 0, 0, 0, 0), (202, .iload_n 1, 0, 0, 0), (203, .invokevirtual 156, 67, 3, 4), (206, .ifCond .ne 5, 0, 0, 0), (209, .iconst 0, 0, 0, 0), (210, .ireturn, 1, 0, 0), (211, .aload_n 0, 0, 0, 0), (212, .iload_n 2, 0, 0, 0),
  (213, .invokevirtual 136, 65, 2, 4), (216, .aload_n 0, 0, 0, 0), (217, .bipush 59, 0, 0, 0), (219, .invokevirtual 108, 58, 2, 4), (222, .ireturn, 1, 0, 0), (223, .aload_n 0, 0, 0, 0), (224, .iload_n 2, 0, 0, 0), (225, .invokevirtual 165, 73, 2, 4),
  (228, .ifCond .eq 16, 0, 0, 0), (231, .aload_n 0, 0, 0, 0), (232, .bipush 59, 0, 0, 0), (234, .invokevirtual 108, 58, 2, 4), (237, .ifCond .eq 7, 0, 0, 0), (240, .iconst 1, 0, 0, 0), (241, .goto 4, 0, 0, 0), (244, .iconst 0, 0, 0, 0),
  (245, .ireturn, 1, 0, 0)]
def mt_c65 : List (Nat × mmE) := [(0, .aload_n 0, 0, 0, 0), (1, .getfield 127, 2, 7, 0), (4, .aload_n 0, 0, 0, 0), (5, .getfield 19, 2, 6, 0), (8, .arraylength, 0, 0, 0), (9, .if_icmp .ge 23, 0, 0, 0), (12, .aload_n 0, 0, 0, 0), (13, .getfield 19, 2, 6, 0),
  (16, .aload_n 0, 0, 0, 0), (17, .getfield 127, 2, 7, 0), (20, .iload_n 1, 0, 0, 0), (21, .iastore, 0, 0, 0), (22, .aload_n 0, 0, 0, 0), (23, .dup, 0, 0, 0), (24, .getfield 127, 2, 7, 0), (27, .iconst 1, 0, 0, 0),
  (28, .iadd, 0, 0, 0), (29, .putfield 127, 2, 7, 0), (32, .return_, 0, 0, 0)]
def mt_c66 : List (Nat × mmE) := [(0, .iload_n 1, 0, 0, 0), (1, .bipush 12, 0, 0, 0), (3, .if_icmp .lt 13, 0, 0, 0), (6, .aload_n 0, 0, 0, 0), (7, .iconst 3, 0, 0, 0), (8, .aload_n 0, 0, 0, 0), (9, .getfield 38, 2, 3, 0), (12, .invokevirtual 79, 46, 3, 4),
  (15, .ireturn, 1, 0, 0), (16, .aload_n 0, 0, 0, 0), (17, .dup, 0, 0, 0), (18, .getfield 38, 2, 3, 0), (21, .iconst 1, 0, 0, 0), (22, .iadd, 0, 0, 0), (23, .putfield 38, 2, 3, 0), (26, .aload_n 0, 0, 0, 0),
  (27, .iconst 0, 0, 0, 0), (28, .iload_n 1, 0, 0, 0), (29, .iconst 1, 0, 0, 0), (30, .iadd, 0, 0, 0), (31, .invokevirtual 156, 67, 3, 4), (34, .ifCond .ne 5, 0, 0, 0), (37, .iconst 0, 0, 0, 0), (38, .ireturn, 1, 0, 0),
  (39, .aload_n 0, 0, 0, 0), (40, .sipush 212, 0, 0, 0), (43, .invokevirtual 136, 65, 2, 4), (46, .aload_n 0, 0, 0, 0), (47, .getfield 127, 2, 7, 0), (50, .istore_n 2, 0, 0, 0), (51, .aload_n 0, 0, 0, 0), (52, .iconst 0, 0, 0, 0),
  (53, .invokevirtual 136, 65, 2, 4), (56, .aload_n 0, 0, 0, 0), (57, .iload_n 1, 0, 0, 0), (58, .iconst 1, 0, 0, 0), (59, .iadd, 0, 0, 0), (60, .invokevirtual 133, 63, 2, 4), (63, .ifCond .ne 5, 0, 0, 0), (66, .iconst 0, 0, 0, 0),
  (67, .ireturn, 1, 0, 0), (68, .aload_n 0, 0, 0, 0), (69, .invokevirtual 41, 39, 1, 4), (72, .sipush 213, 0, 0, 0), (75, .if_icmp .eq 14, 0, 0, 0), (78, .aload_n 0, 0, 0, 0), (79, .iload_n 2, 0, 0, 0), (80, .aload_n 0, 0, 0, 0),
  (81, .getfield 127, 2, 7, 0), (84, .invokevirtual 168, 71, 3, 4), (87, .iconst 1, 0, 0, 0), (88, .ireturn, 1, 0, 0), (89, .aload_n 0, 0, 0, 0), (90, .dup, 0, 0, 0), (91, .getfield 38, 2, 3, 0), (94, .iconst 1, 0, 0, 0),
  (95, .iadd, 0, 0, 0), (96, .putfield 38, 2, 3, 0), (99, .aload_n 0, 0, 0, 0), (100, .sipush 213, 0, 0, 0), (103, .invokevirtual 136, 65, 2, 4), (106, .aload_n 0, 0, 0, 0), (107, .getfield 127, 2, 7, 0), (110, .istore_n 3, 0, 0, 0),
  (111, .aload_n 0, 0, 0, 0), (112, .iconst 0, 0, 0, 0), (113, .invokevirtual 136, 65, 2, 4), (116, .aload_n 0, 0, 0, 0), (117, .iload_n 2, 0, 0, 0), (118, .aload_n 0, 0, 0, 0), (119, .getfield 127, 2, 7, 0), (122, .invokevirtual 168, 71, 3, 4),
  (125, .aload_n 0, 0, 0, 0), (126, .iload_n 1, 0, 0, 0), (127, .iconst 1, 0, 0, 0), (128, .iadd, 0, 0, 0), (129, .invokevirtual 133, 63, 2, 4), (132, .ifCond .ne 5, 0, 0, 0), (135, .iconst 0, 0, 0, 0), (136, .ireturn, 1, 0, 0),
  (137, .aload_n 0, 0, 0, 0), (138, .iload_n 3, 0, 0, 0), (139, .aload_n 0, 0, 0, 0), (140, .getfield 127, 2, 7, 0), (143, .invokevirtual 168, 71, 3, 4), (146, .iconst 1, 0, 0, 0), (147, .ireturn, 1, 0, 0)]
def mt_c67 : List (Nat × mmE) := [(0, .iload_n 1, 0, 0, 0), (1, .iconst 3, 0, 0, 0), (2, .if_icmp .lt 9, 0, 0, 0), (5, .aload_n 0, 0, 0, 0), (6, .iload_n 2, 0, 0, 0), (7, .invokevirtual 172, 68, 2, 4), (10, .ireturn, 1, 0, 0), (11, .aload_n 0, 0, 0, 0),
  (12, .iload_n 1, 0, 0, 0), (13, .iconst 1, 0, 0, 0), (14, .iadd, 0, 0, 0), (15, .iload_n 2, 0, 0, 0), (16, .invokevirtual 156, 67, 3, 4), (19, .ifCond .ne 5, 0, 0, 0), (22, .iconst 0, 0, 0, 0), (23, .ireturn, 1, 0, 0),
  (24, .iload_n 1, 0, 0, 0), (25, .ifCond .ne 7, 0, 0, 0), (28, .iconst 1, 0, 0, 0), (29, .goto 6, 0, 0, 0), (32, .sipush 1000, 0, 0, 0), (35, .istore_n 3, 0, 0, 0), (36, .iconst 0, 0, 0, 0), (37, .istore 4, 0, 0, 0),
  (39, .iload 4, 0, 0, 0), (41, .iload_n 3, 0, 0, 0), (42, .if_icmp .ge 55, 0, 0, 0), (45, .iload_n 1, 0, 0, 0), (46, .aload_n 0, 0, 0, 0), (47, .invokevirtual 41, 39, 1, 4), (50, .invokestatic 175, 70, 2, 0), (53, .ifCond .eq 44, 0, 0, 0),
  (56, .aload_n 0, 0, 0, 0), (57, .invokevirtual 41, 39, 1, 4), (60, .istore 5, 0, 0, 0), (62, .aload_n 0, 0, 0, 0), (63, .dup, 0, 0, 0), (64, .getfield 38, 2, 3, 0), (67, .iconst 1, 0, 0, 0), (68, .iadd, 0, 0, 0),
  (69, .putfield 38, 2, 3, 0), (72, .aload_n 0, 0, 0, 0), (73, .iload_n 1, 0, 0, 0), (74, .iconst 1, 0, 0, 0), (75, .iadd, 0, 0, 0), (76, .iload_n 2, 0, 0, 0), (77, .invokevirtual 156, 67, 3, 4), (80, .ifCond .ne 5, 0, 0, 0),
  (83, .iconst 0, 0, 0, 0), (84, .ireturn, 1, 0, 0), (85, .aload_n 0, 0, 0, 0), (86, .iload 5, 0, 0, 0), (88, .invokevirtual 136, 65, 2, 4), (91, .iinc 4 1, 0, 0, 0), (94, .goto (-55), 0, 0, 0), (97, .iconst 1, 0, 0, 0),
  (98, .ireturn, 1, 0, 0)]
def mt_c68 : List (Nat × mmE) := [(0, .aload_n 0, 0, 0, 0), (1, .invokevirtual 41, 39, 1, 4), (4, .istore_n 2, 0, 0, 0), (5, .iload_n 2, 0, 0, 0), (6, .lookupswitch 141 #[(1, 91), (2, 58), (40, 134), (45, 134), (214, 117), (215, 117)], 0, 0, 0), (64, .aload_n 0, 0, 0, 0), (65, .iconst 2, 0, 0, 0), (66, .invokevirtual 136, 65, 2, 4),
  (69, .aload_n 0, 0, 0, 0), (70, .aload_n 0, 0, 0, 0), (71, .getfield 29, 2, 0, 0), (74, .getfield 45, 1, 4, 0), (77, .aload_n 0, 0, 0, 0), (78, .getfield 38, 2, 3, 0), (81, .iaload, 0, 0, 0), (82, .invokevirtual 136, 65, 2, 4),
  (85, .aload_n 0, 0, 0, 0), (86, .dup, 0, 0, 0), (87, .getfield 38, 2, 3, 0), (90, .iconst 1, 0, 0, 0), (91, .iadd, 0, 0, 0), (92, .putfield 38, 2, 3, 0), (95, .iconst 1, 0, 0, 0), (96, .ireturn, 1, 0, 0),
  (97, .aload_n 0, 0, 0, 0), (98, .invokevirtual 83, 45, 1, 4), (101, .istore_n 3, 0, 0, 0), (102, .aload_n 0, 0, 0, 0), (103, .iconst 1, 0, 0, 0), (104, .invokevirtual 136, 65, 2, 4), (107, .aload_n 0, 0, 0, 0), (108, .iload_n 3, 0, 0, 0),
  (109, .invokevirtual 136, 65, 2, 4), (112, .iload_n 3, 0, 0, 0), (113, .iconst (-1), 0, 0, 0), (114, .if_icmp .eq 7, 0, 0, 0), (117, .iconst 1, 0, 0, 0), (118, .goto 4, 0, 0, 0), (121, .iconst 0, 0, 0, 0), (122, .ireturn, 1, 0, 0),
  (123, .aload_n 0, 0, 0, 0), (124, .iload_n 2, 0, 0, 0), (125, .invokevirtual 136, 65, 2, 4), (128, .aload_n 0, 0, 0, 0), (129, .dup, 0, 0, 0), (130, .getfield 38, 2, 3, 0), (133, .iconst 1, 0, 0, 0), (134, .iadd, 0, 0, 0),
  (135, .putfield 38, 2, 3, 0), (138, .iconst 1, 0, 0, 0), (139, .ireturn, 1, 0, 0), (140, .aload_n 0, 0, 0, 0), (141, .iload_n 2, 0, 0, 0), (142, .iload_n 1, 0, 0, 0), (143, .invokevirtual 178, 69, 3, 4), (146, .ireturn, 1, 0, 0),
  (147, .aload_n 0, 0, 0, 0), (148, .iconst 1, 0, 0, 0), (149, .aload_n 0, 0, 0, 0), (150, .getfield 38, 2, 3, 0), (153, .invokevirtual 79, 46, 3, 4), (156, .ireturn, 1, 0, 0)]
def mt_c69 : List (Nat × mmE) := [(0, .iload_n 2, 0, 0, 0), (1, .bipush 12, 0, 0, 0), (3, .if_icmp .lt 13, 0, 0, 0), (6, .aload_n 0, 0, 0, 0), (7, .iconst 3, 0, 0, 0), (8, .aload_n 0, 0, 0, 0), (9, .getfield 38, 2, 3, 0), (12, .invokevirtual 79, 46, 3, 4),
  (15, .ireturn, 1, 0, 0), (16, .aload_n 0, 0, 0, 0), (17, .dup, 0, 0, 0), (18, .getfield 38, 2, 3, 0), (21, .iconst 1, 0, 0, 0), (22, .iadd, 0, 0, 0), (23, .putfield 38, 2, 3, 0), (26, .iload_n 1, 0, 0, 0),
  (27, .bipush 40, 0, 0, 0), (29, .if_icmp .ne 29, 0, 0, 0), (32, .aload_n 0, 0, 0, 0), (33, .iconst 0, 0, 0, 0), (34, .iload_n 2, 0, 0, 0), (35, .iconst 1, 0, 0, 0), (36, .iadd, 0, 0, 0), (37, .invokevirtual 156, 67, 3, 4),
  (40, .ifCond .eq 16, 0, 0, 0), (43, .aload_n 0, 0, 0, 0), (44, .bipush 41, 0, 0, 0), (46, .invokevirtual 108, 58, 2, 4), (49, .ifCond .eq 7, 0, 0, 0), (52, .iconst 1, 0, 0, 0), (53, .goto 4, 0, 0, 0), (56, .iconst 0, 0, 0, 0),
  (57, .ireturn, 1, 0, 0), (58, .aload_n 0, 0, 0, 0), (59, .iconst 3, 0, 0, 0), (60, .iload_n 2, 0, 0, 0), (61, .iconst 1, 0, 0, 0), (62, .iadd, 0, 0, 0), (63, .invokevirtual 156, 67, 3, 4), (66, .ifCond .ne 5, 0, 0, 0),
  (69, .iconst 0, 0, 0, 0), (70, .ireturn, 1, 0, 0), (71, .aload_n 0, 0, 0, 0), (72, .sipush 252, 0, 0, 0), (75, .invokevirtual 136, 65, 2, 4), (78, .iconst 1, 0, 0, 0), (79, .ireturn, 1, 0, 0)]
def mt_c70 : List (Nat × mmE) := [(0, .iload_n 0, 0, 0, 0), (1, .lookupswitch 64 #[(0, 27), (1, 46)], 0, 0, 0), (28, .iload_n 1, 0, 0, 0), (29, .bipush 60, 0, 0, 0), (31, .if_icmp .eq 10, 0, 0, 0), (34, .iload_n 1, 0, 0, 0), (35, .sipush 250, 0, 0, 0), (38, .if_icmp .ne 7, 0, 0, 0),
  (41, .iconst 1, 0, 0, 0), (42, .goto 4, 0, 0, 0), (45, .iconst 0, 0, 0, 0), (46, .ireturn, 1, 0, 0), (47, .iload_n 1, 0, 0, 0), (48, .bipush 43, 0, 0, 0), (50, .if_icmp .eq 9, 0, 0, 0), (53, .iload_n 1, 0, 0, 0),
  (54, .bipush 45, 0, 0, 0), (56, .if_icmp .ne 7, 0, 0, 0), (59, .iconst 1, 0, 0, 0), (60, .goto 4, 0, 0, 0), (63, .iconst 0, 0, 0, 0), (64, .ireturn, 1, 0, 0), (65, .iload_n 1, 0, 0, 0), (66, .bipush 42, 0, 0, 0),
  (68, .if_icmp .eq 9, 0, 0, 0), (71, .iload_n 1, 0, 0, 0), (72, .bipush 47, 0, 0, 0), (74, .if_icmp .ne 7, 0, 0, 0), (77, .iconst 1, 0, 0, 0), (78, .goto 4, 0, 0, 0), (81, .iconst 0, 0, 0, 0), (82, .ireturn, 1, 0, 0)]
def mt_c71 : List (Nat × mmE) := [(0, .iload_n 1, 0, 0, 0), (1, .ifCond .lt 18, 0, 0, 0), (4, .iload_n 1, 0, 0, 0), (5, .aload_n 0, 0, 0, 0), (6, .getfield 127, 2, 7, 0), (9, .if_icmp .ge 10, 0, 0, 0), (12, .aload_n 0, 0, 0, 0), (13, .getfield 19, 2, 6, 0),
  (16, .iload_n 1, 0, 0, 0), (17, .iload_n 2, 0, 0, 0), (18, .iastore, 0, 0, 0), (19, .return_, 0, 0, 0)]
def mt_c72 : List (Nat × mmE) := [(0, .aload_n 0, 0, 0, 0), (1, .getfield 38, 2, 3, 0), (4, .ifCond .lt 32, 0, 0, 0), (7, .aload_n 0, 0, 0, 0), (8, .getfield 38, 2, 3, 0), (11, .aload_n 0, 0, 0, 0), (12, .getfield 29, 2, 0, 0), (15, .getfield 184, 1, 5, 0),
  (18, .if_icmp .ge 18, 0, 0, 0), (21, .aload_n 0, 0, 0, 0), (22, .getfield 29, 2, 0, 0), (25, .getfield 185, 1, 2, 0), (28, .aload_n 0, 0, 0, 0), (29, .getfield 38, 2, 3, 0), (32, .iaload, 0, 0, 0), (33, .goto 4, 0, 0, 0),
  (36, .iconst 4, 0, 0, 0), (37, .ireturn, 0, 0, 0)]
def mt_c73 : List (Nat × mmE) := [(0, .aload_n 0, 0, 0, 0), (1, .dup, 0, 0, 0), (2, .getfield 38, 2, 3, 0), (5, .iconst 1, 0, 0, 0), (6, .iadd, 0, 0, 0), (7, .putfield 38, 2, 3, 0), (10, .iload_n 1, 0, 0, 0), (11, .sipush 210, 0, 0, 0),
  (14, .if_icmp .ne 25, 0, 0, 0), (17, .aload_n 0, 0, 0, 0), (18, .invokevirtual 83, 45, 1, 4), (21, .istore_n 2, 0, 0, 0), (22, .iload_n 2, 0, 0, 0), (23, .iconst (-1), 0, 0, 0), (24, .if_icmp .ne 5, 0, 0, 0), (27, .iconst 0, 0, 0, 0),
  (28, .ireturn, 1, 0, 0), (29, .aload_n 0, 0, 0, 0), (30, .iconst 1, 0, 0, 0), (31, .invokevirtual 136, 65, 2, 4), (34, .aload_n 0, 0, 0, 0), (35, .iload_n 2, 0, 0, 0), (36, .invokevirtual 136, 65, 2, 4), (39, .aload_n 0, 0, 0, 0),
  (40, .iload_n 1, 0, 0, 0), (41, .invokevirtual 136, 65, 2, 4), (44, .iload_n 1, 0, 0, 0), (45, .sipush 209, 0, 0, 0), (48, .if_icmp .eq 10, 0, 0, 0), (51, .iload_n 1, 0, 0, 0), (52, .sipush 210, 0, 0, 0), (55, .if_icmp .ne 24, 0, 0, 0),
  (58, .aload_n 0, 0, 0, 0), (59, .invokevirtual 83, 45, 1, 4), (62, .istore_n 2, 0, 0, 0), (63, .aload_n 0, 0, 0, 0), (64, .iload_n 2, 0, 0, 0), (65, .invokevirtual 136, 65, 2, 4), (68, .iload_n 2, 0, 0, 0), (69, .iconst (-1), 0, 0, 0),
  (70, .if_icmp .eq 7, 0, 0, 0), (73, .iconst 1, 0, 0, 0), (74, .goto 4, 0, 0, 0), (77, .iconst 0, 0, 0, 0), (78, .ireturn, 1, 0, 0), (79, .iconst 1, 0, 0, 0), (80, .ireturn, 1, 0, 0)]
def mt_c74 : List (Nat × mmE) := [(0, .iload_n 1, 0, 0, 0), (1, .aload_n 0, 0, 0, 0), (2, .arraylength, 0, 0, 0), (3, .if_icmp .ne 11, 0, 0, 0), (6, .aload_n 0, 0, 0, 0), (13, .areturn, 0, 0, 0), (14, .iload_n 1, 0, 0, 0), (15, .newarray .int, 0, 0, 0),
  (17, .astore_n 2, 0, 0, 0), (18, .aload_n 0, 0, 0, 0), (19, .iconst 0, 0, 0, 0), (20, .aload_n 2, 0, 0, 0), (21, .iconst 0, 0, 0, 0), (22, .aload_n 0, 0, 0, 0), (23, .arraylength, 0, 0, 0), (24, .iload_n 1, 0, 0, 0),
  (25, .invokestatic 304, 0, 0, 1005), (28, .invokestatic 150, 0, 0, 1000), (31, .aload_n 2, 0, 0, 0), (32, .areturn, 0, 0, 0)]
def mt_c75 : List (Nat × mmE) := [(0, .aload_n 1, 0, 0, 0), (1, .getfield 89, 10, 0, 0), (4, .lookupswitch 93 #[(202, 60), (203, 60), (204, 66), (205, 72), (219, 87), (251, 78)], 0, 0, 0), (64, .aload_n 0, 0, 0, 0), (65, .aload_n 1, 0, 0, 0), (66, .invokevirtual 94, 76, 2, 13), (69, .ireturn, 0, 0, 0), (70, .aload_n 0, 0, 0, 0),
  (71, .aload_n 1, 0, 0, 0), (72, .invokevirtual 98, 77, 2, 13), (75, .ireturn, 0, 0, 0), (76, .aload_n 0, 0, 0, 0), (77, .aload_n 1, 0, 0, 0), (78, .invokevirtual 101, 78, 2, 13), (81, .ireturn, 0, 0, 0), (82, .aload_n 0, 0, 0, 0),
  (83, .aload_n 1, 0, 0, 0), (84, .getfield 104, 10, 3, 0), (87, .invokevirtual 105, 79, 2, 13), (90, .ireturn, 0, 0, 0), (91, .aload_n 0, 0, 0, 0), (92, .aload_n 1, 0, 0, 0), (93, .invokevirtual 109, 83, 2, 13), (96, .ireturn, 0, 0, 0),
  (97, .iconst 0, 0, 0, 0), (98, .ireturn, 0, 0, 0)]
def mt_c76 : List (Nat × mmE) := [(0, .aload_n 0, 0, 0, 0), (1, .aload_n 1, 0, 0, 0), (2, .getfield 104, 10, 3, 0), (5, .invokevirtual 85, 61, 2, 13), (8, .ifCond .eq 5, 0, 0, 0), (11, .iconst 3, 0, 0, 0), (12, .ireturn, 0, 0, 0), (13, .aload_n 0, 0, 0, 0),
  (14, .getfield 62, 11, 4, 0), (17, .bipush 8, 0, 0, 0), (19, .if_icmp .lt 6, 0, 0, 0), (22, .bipush 7, 0, 0, 0), (24, .ireturn, 0, 0, 0), (25, .aload_n 0, 0, 0, 0), (26, .getfield 9, 11, 5, 0), (29, .aload_n 0, 0, 0, 0),
  (30, .getfield 62, 11, 4, 0), (33, .aload_n 1, 0, 0, 0), (34, .getfield 104, 10, 3, 0), (37, .iastore, 0, 0, 0), (38, .aload_n 0, 0, 0, 0), (39, .getfield 15, 11, 6, 0), (42, .aload_n 0, 0, 0, 0), (43, .getfield 62, 11, 4, 0),
  (46, .aload_n 1, 0, 0, 0), (47, .getfield 112, 10, 4, 0), (50, .iastore, 0, 0, 0), (51, .aload_n 0, 0, 0, 0), (52, .getfield 18, 11, 7, 0), (55, .aload_n 0, 0, 0, 0), (56, .getfield 62, 11, 4, 0), (59, .iconst (-1), 0, 0, 0),
  (60, .iastore, 0, 0, 0), (61, .aload_n 0, 0, 0, 0), (62, .dup, 0, 0, 0), (63, .getfield 62, 11, 4, 0), (66, .iconst 1, 0, 0, 0), (67, .iadd, 0, 0, 0), (68, .putfield 62, 11, 4, 0), (71, .iconst 0, 0, 0, 0),
  (72, .ireturn, 0, 0, 0)]
def mt_c77 : List (Nat × mmE) := [(0, .aload_n 0, 0, 0, 0), (1, .aload_n 1, 0, 0, 0), (2, .getfield 104, 10, 3, 0), (5, .invokevirtual 85, 61, 2, 13), (8, .ifCond .eq 5, 0, 0, 0), (11, .iconst 3, 0, 0, 0), (12, .ireturn, 0, 0, 0), (13, .aload_n 0, 0, 0, 0),
  (14, .getfield 71, 11, 8, 0), (17, .iconst 4, 0, 0, 0), (18, .if_icmp .lt 6, 0, 0, 0), (21, .bipush 7, 0, 0, 0), (23, .ireturn, 0, 0, 0), (24, .aload_n 0, 0, 0, 0), (25, .getfield 21, 11, 9, 0), (28, .aload_n 0, 0, 0, 0),
  (29, .getfield 71, 11, 8, 0), (32, .aload_n 1, 0, 0, 0), (33, .getfield 104, 10, 3, 0), (36, .iastore, 0, 0, 0), (37, .aload_n 0, 0, 0, 0), (38, .getfield 24, 11, 10, 0), (41, .aload_n 0, 0, 0, 0), (42, .getfield 71, 11, 8, 0),
  (45, .aload_n 1, 0, 0, 0), (46, .getfield 112, 10, 4, 0), (49, .iastore, 0, 0, 0), (50, .aload_n 0, 0, 0, 0), (51, .dup, 0, 0, 0), (52, .getfield 71, 11, 8, 0), (55, .iconst 1, 0, 0, 0), (56, .iadd, 0, 0, 0),
  (57, .putfield 71, 11, 8, 0), (60, .iconst 0, 0, 0, 0), (61, .ireturn, 0, 0, 0)]
def mt_c78 : List (Nat × mmE) := [(0, .aload_n 0, 0, 0, 0), (1, .getfield 27, 11, 12, 0), (4, .aload_n 0, 0, 0, 0), (5, .getfield 74, 11, 11, 0), (8, .aload_n 1, 0, 0, 0), (9, .getfield 104, 10, 3, 0), (12, .invokestatic 77, 29, 3, 0), (15, .istore_n 2, 0, 0, 0),
  (16, .iload_n 2, 0, 0, 0), (17, .iconst (-1), 0, 0, 0), (18, .if_icmp .ne 30, 0, 0, 0), (21, .aload_n 0, 0, 0, 0), (22, .getfield 74, 11, 11, 0), (25, .bipush 8, 0, 0, 0), (27, .if_icmp .lt 6, 0, 0, 0), (30, .bipush 7, 0, 0, 0),
  (32, .ireturn, 0, 0, 0), (33, .aload_n 0, 0, 0, 0), (34, .getfield 74, 11, 11, 0), (37, .istore_n 2, 0, 0, 0), (38, .aload_n 0, 0, 0, 0), (39, .dup, 0, 0, 0), (40, .getfield 74, 11, 11, 0), (43, .iconst 1, 0, 0, 0),
  (44, .iadd, 0, 0, 0), (45, .putfield 74, 11, 11, 0), (48, .aload_n 0, 0, 0, 0), (49, .getfield 27, 11, 12, 0), (52, .iload_n 2, 0, 0, 0), (53, .aload_n 1, 0, 0, 0), (54, .getfield 104, 10, 3, 0), (57, .iastore, 0, 0, 0),
  (58, .aload_n 0, 0, 0, 0), (59, .getfield 31, 11, 13, 0), (62, .iload_n 2, 0, 0, 0), (63, .aload_n 1, 0, 0, 0), (64, .getfield 115, 10, 5, 0), (67, .aastore, 0, 0, 0), (68, .iconst 0, 0, 0, 0), (69, .ireturn, 0, 0, 0)]
def mt_c79 : List (Nat × mmE) := [(0, .aload_n 0, 0, 0, 0), (1, .iload_n 1, 0, 0, 0), (2, .invokevirtual 118, 80, 2, 13), (5, .istore_n 2, 0, 0, 0), (6, .aload_n 0, 0, 0, 0), (7, .iload_n 1, 0, 0, 0), (8, .invokevirtual 121, 81, 2, 13), (11, .istore_n 3, 0, 0, 0),
  (12, .aload_n 0, 0, 0, 0), (13, .getfield 27, 11, 12, 0), (16, .aload_n 0, 0, 0, 0), (17, .getfield 74, 11, 11, 0), (20, .iload_n 1, 0, 0, 0), (21, .invokestatic 77, 29, 3, 0), (24, .istore 4, 0, 0, 0), (26, .iload_n 2, 0, 0, 0),
  (27, .iconst (-1), 0, 0, 0), (28, .if_icmp .eq 52, 0, 0, 0), (31, .aload_n 0, 0, 0, 0), (32, .getfield 9, 11, 5, 0), (35, .aload_n 0, 0, 0, 0), (36, .getfield 62, 11, 4, 0), (39, .iload_n 2, 0, 0, 0), (40, .invokestatic 124, 82, 3, 0),
  (43, .aload_n 0, 0, 0, 0), (44, .getfield 15, 11, 6, 0), (47, .aload_n 0, 0, 0, 0), (48, .getfield 62, 11, 4, 0), (51, .iload_n 2, 0, 0, 0), (52, .invokestatic 124, 82, 3, 0), (55, .aload_n 0, 0, 0, 0), (56, .getfield 18, 11, 7, 0),
  (59, .aload_n 0, 0, 0, 0), (60, .getfield 62, 11, 4, 0), (63, .iload_n 2, 0, 0, 0), (64, .invokestatic 124, 82, 3, 0), (67, .aload_n 0, 0, 0, 0), (68, .dup, 0, 0, 0), (69, .getfield 62, 11, 4, 0), (72, .iconst 1, 0, 0, 0),
  (73, .isub, 0, 0, 0), (74, .putfield 62, 11, 4, 0), (77, .goto 105, 0, 0, 0), (80, .iload_n 3, 0, 0, 0), (81, .iconst (-1), 0, 0, 0), (82, .if_icmp .eq 40, 0, 0, 0), (85, .aload_n 0, 0, 0, 0), (86, .getfield 21, 11, 9, 0),
  (89, .aload_n 0, 0, 0, 0), (90, .getfield 71, 11, 8, 0), (93, .iload_n 3, 0, 0, 0), (94, .invokestatic 124, 82, 3, 0), (97, .aload_n 0, 0, 0, 0), (98, .getfield 24, 11, 10, 0), (101, .aload_n 0, 0, 0, 0), (102, .getfield 71, 11, 8, 0),
  (105, .iload_n 3, 0, 0, 0), (106, .invokestatic 124, 82, 3, 0), (109, .aload_n 0, 0, 0, 0), (110, .dup, 0, 0, 0), (111, .getfield 71, 11, 8, 0), (114, .iconst 1, 0, 0, 0), (115, .isub, 0, 0, 0), (116, .putfield 71, 11, 8, 0),
  (119, .goto 63, 0, 0, 0), (122, .iload 4, 0, 0, 0), (124, .iconst (-1), 0, 0, 0), (125, .if_icmp .eq 55, 0, 0, 0), (128, .aload_n 0, 0, 0, 0), (129, .getfield 27, 11, 12, 0), (132, .aload_n 0, 0, 0, 0), (133, .getfield 74, 11, 11, 0),
  (136, .iload 4, 0, 0, 0), (138, .invokestatic 124, 82, 3, 0), (141, .aload_n 0, 0, 0, 0), (142, .getfield 31, 11, 13, 0), (145, .iload 4, 0, 0, 0), (147, .iconst 1, 0, 0, 0), (148, .iadd, 0, 0, 0), (149, .aload_n 0, 0, 0, 0),
  (150, .getfield 31, 11, 13, 0), (153, .iload 4, 0, 0, 0), (155, .aload_n 0, 0, 0, 0), (156, .getfield 74, 11, 11, 0), (159, .iconst 1, 0, 0, 0), (160, .isub, 0, 0, 0), (161, .iload 4, 0, 0, 0), (163, .isub, 0, 0, 0),
  (164, .invokestatic 65, 0, 0, 1000), (167, .aload_n 0, 0, 0, 0), (168, .dup, 0, 0, 0), (169, .getfield 74, 11, 11, 0), (172, .iconst 1, 0, 0, 0), (173, .isub, 0, 0, 0), (174, .putfield 74, 11, 11, 0), (177, .goto 5, 0, 0, 0),
  (180, .iconst 4, 0, 0, 0), (181, .ireturn, 0, 0, 0), (182, .iconst 0, 0, 0, 0), (183, .ireturn, 0, 0, 0)]
def mt_c80 : List (Nat × mmE) := [(0, .aload_n 0, 0, 0, 0), (1, .getfield 9, 11, 5, 0), (4, .aload_n 0, 0, 0, 0), (5, .getfield 62, 11, 4, 0), (8, .iload_n 1, 0, 0, 0), (9, .invokestatic 77, 29, 3, 0), (12, .ireturn, 0, 0, 0)]
def mt_c81 : List (Nat × mmE) := [(0, .aload_n 0, 0, 0, 0), (1, .getfield 21, 11, 9, 0), (4, .aload_n 0, 0, 0, 0), (5, .getfield 71, 11, 8, 0), (8, .iload_n 1, 0, 0, 0), (9, .invokestatic 77, 29, 3, 0), (12, .ireturn, 0, 0, 0)]
def mt_c82 : List (Nat × mmE) := [(0, .aload_n 0, 0, 0, 0), (1, .iload_n 2, 0, 0, 0), (2, .iconst 1, 0, 0, 0), (3, .iadd, 0, 0, 0), (4, .aload_n 0, 0, 0, 0), (5, .iload_n 2, 0, 0, 0), (6, .iload_n 1, 0, 0, 0), (7, .iconst 1, 0, 0, 0),
  (8, .isub, 0, 0, 0), (9, .iload_n 2, 0, 0, 0), (10, .isub, 0, 0, 0), (11, .invokestatic 304, 0, 0, 1000), (14, .return_, 0, 0, 0)]
def mt_c83 : List (Nat × mmE) := [(0, .aload_n 0, 0, 0, 0), (1, .aload_n 1, 0, 0, 0), (2, .getfield 104, 10, 3, 0), (5, .invokevirtual 118, 80, 2, 13), (8, .istore_n 2, 0, 0, 0), (9, .iload_n 2, 0, 0, 0), (10, .iconst (-1), 0, 0, 0), (11, .if_icmp .ne 5, 0, 0, 0),
  (14, .iconst 4, 0, 0, 0), (15, .ireturn, 0, 0, 0), (16, .aload_n 0, 0, 0, 0), (17, .aload_n 1, 0, 0, 0), (18, .getfield 112, 10, 4, 0), (21, .invokevirtual 85, 61, 2, 13), (24, .ifCond .eq 5, 0, 0, 0), (27, .iconst 3, 0, 0, 0),
  (28, .ireturn, 0, 0, 0), (29, .aload_n 0, 0, 0, 0), (30, .getfield 9, 11, 5, 0), (33, .iload_n 2, 0, 0, 0), (34, .aload_n 1, 0, 0, 0), (35, .getfield 112, 10, 4, 0), (38, .iastore, 0, 0, 0), (39, .iconst 0, 0, 0, 0),
  (40, .ireturn, 0, 0, 0)]
def mt_c84 : List (Nat × mmE) := [(0, .aload_n 0, 0, 0, 0), (1, .dup, 0, 0, 0), (2, .getfield 38, 2, 3, 0), (5, .iconst 1, 0, 0, 0), (6, .iadd, 0, 0, 0), (7, .putfield 38, 2, 3, 0), (10, .aload_n 0, 0, 0, 0), (11, .invokevirtual 83, 45, 1, 4),
  (14, .istore_n 1, 0, 0, 0), (15, .iload_n 1, 0, 0, 0), (16, .iconst (-1), 0, 0, 0), (17, .if_icmp .eq 12, 0, 0, 0), (20, .aload_n 0, 0, 0, 0), (21, .bipush 123, 0, 0, 0), (23, .invokevirtual 108, 58, 2, 4), (26, .ifCond .ne 5, 0, 0, 0),
  (29, .iconst 0, 0, 0, 0), (30, .ireturn, 1, 0, 0), (31, .aload_n 0, 0, 0, 0), (32, .getfield 25, 2, 12, 0), (35, .new 95, 10, 0, 0), (38, .dup, 0, 0, 0), (39, .sipush 216, 0, 0, 0), (42, .aload_n 0, 0, 0, 0),
  (43, .getfield 65, 2, 9, 0), (46, .iload_n 1, 0, 0, 0), (47, .iconst (-1), 0, 0, 0), (48, .iconst (-1), 0, 0, 0), (49, .aconst_null, 0, 0, 0), (50, .invokespecial 97, 48, 7, 1), (53, .invokevirtual 100, 49, 2, 5), (56, .pop, 0, 0, 0),
  (57, .iconst 0, 0, 0, 0), (58, .istore_n 2, 0, 0, 0), (59, .iload_n 2, 0, 0, 0), (60, .sipush 1000, 0, 0, 0), (63, .if_icmp .ge 79, 0, 0, 0), (66, .aload_n 0, 0, 0, 0), (67, .invokevirtual 41, 39, 1, 4), (70, .bipush 125, 0, 0, 0),
  (72, .if_icmp .eq 70, 0, 0, 0), (75, .aload_n 0, 0, 0, 0), (76, .invokevirtual 41, 39, 1, 4), (79, .istore_n 3, 0, 0, 0), (80, .iload_n 3, 0, 0, 0), (81, .sipush 217, 0, 0, 0), (84, .if_icmp .eq 17, 0, 0, 0), (87, .iload_n 3, 0, 0, 0),
  (88, .sipush 219, 0, 0, 0), (91, .if_icmp .eq 10, 0, 0, 0), (94, .iload_n 3, 0, 0, 0), (95, .sipush 220, 0, 0, 0), (98, .if_icmp .ne 7, 0, 0, 0), (101, .iconst 1, 0, 0, 0), (102, .goto 4, 0, 0, 0), (105, .iconst 0, 0, 0, 0),
  (106, .istore 4, 0, 0, 0), (108, .iload 4, 0, 0, 0), (110, .ifCond .eq 15, 0, 0, 0), (113, .aload_n 0, 0, 0, 0), (114, .iload_n 1, 0, 0, 0), (115, .iload_n 3, 0, 0, 0), (116, .invokevirtual 149, 85, 3, 4), (119, .ifCond .eq 15, 0, 0, 0),
  (122, .goto 14, 0, 0, 0), (125, .aload_n 0, 0, 0, 0), (126, .iload_n 1, 0, 0, 0), (127, .aconst_null, 0, 0, 0), (128, .invokevirtual 111, 59, 3, 4), (131, .ifCond .ne 5, 0, 0, 0), (134, .iconst 0, 0, 0, 0), (135, .ireturn, 1, 0, 0),
  (136, .iinc 2 1, 0, 0, 0), (139, .goto (-80), 0, 0, 0), (142, .aload_n 0, 0, 0, 0), (143, .bipush 125, 0, 0, 0), (145, .invokevirtual 108, 58, 2, 4), (148, .ireturn, 1, 0, 0)]
def mt_c85 : List (Nat × mmE) := [(0, .aload_n 0, 0, 0, 0), (1, .dup, 0, 0, 0), (2, .getfield 38, 2, 3, 0), (5, .iconst 1, 0, 0, 0), (6, .iadd, 0, 0, 0), (7, .putfield 38, 2, 3, 0), (10, .aload_n 0, 0, 0, 0), (11, .invokevirtual 83, 45, 1, 4),
  (14, .istore_n 3, 0, 0, 0), (15, .iload_n 3, 0, 0, 0), (16, .iconst (-1), 0, 0, 0), (17, .if_icmp .ne 5, 0, 0, 0), (20, .iconst 0, 0, 0, 0), (21, .ireturn, 1, 0, 0), (22, .iconst (-1), 0, 0, 0), (23, .istore 4, 0, 0, 0),
  (25, .aconst_null, 0, 0, 0), (26, .astore 5, 0, 0, 0), (28, .iload_n 2, 0, 0, 0), (29, .sipush 219, 0, 0, 0), (32, .if_icmp .ne 17, 0, 0, 0), (35, .aload_n 0, 0, 0, 0), (36, .invokevirtual 83, 45, 1, 4), (39, .istore 4, 0, 0, 0),
  (41, .iload 4, 0, 0, 0), (43, .iconst (-1), 0, 0, 0), (44, .if_icmp .ne 5, 0, 0, 0), (47, .iconst 0, 0, 0, 0), (48, .ireturn, 1, 0, 0), (49, .iload_n 2, 0, 0, 0), (50, .sipush 220, 0, 0, 0), (53, .if_icmp .ne 16, 0, 0, 0),
  (56, .aload_n 0, 0, 0, 0), (57, .invokevirtual 152, 86, 1, 4), (60, .astore 5, 0, 0, 0), (62, .aload 5, 0, 0, 0), (64, .ifnonnull 5, 0, 0, 0), (67, .iconst 0, 0, 0, 0), (68, .ireturn, 1, 0, 0), (69, .aload_n 0, 0, 0, 0),
  (70, .getfield 25, 2, 12, 0), (73, .new 95, 10, 0, 0), (76, .dup, 0, 0, 0), (77, .iload_n 2, 0, 0, 0), (78, .sipush 217, 0, 0, 0), (81, .if_icmp .ne 9, 0, 0, 0), (84, .sipush 251, 0, 0, 0), (87, .goto 4, 0, 0, 0),
  (90, .iload_n 2, 0, 0, 0), (91, .aload_n 0, 0, 0, 0), (92, .getfield 65, 2, 9, 0), (95, .iload_n 1, 0, 0, 0), (96, .iload_n 3, 0, 0, 0), (97, .iload 4, 0, 0, 0), (99, .aload 5, 0, 0, 0), (101, .invokespecial 97, 48, 7, 1),
  (104, .invokevirtual 100, 49, 2, 5), (107, .pop, 0, 0, 0), (108, .aload_n 0, 0, 0, 0), (109, .bipush 59, 0, 0, 0), (111, .invokevirtual 108, 58, 2, 4), (114, .ireturn, 1, 0, 0)]
def mt_c86 : List (Nat × mmE) := [(0, .aload_n 0, 0, 0, 0), (1, .iconst 0, 0, 0, 0), (2, .putfield 127, 2, 7, 0), (5, .aload_n 0, 0, 0, 0), (6, .iconst 0, 0, 0, 0), (7, .iconst 0, 0, 0, 0), (8, .invokevirtual 156, 67, 3, 4), (11, .ifCond .ne 5, 0, 0, 0),
  (14, .aconst_null, 0, 0, 0), (15, .areturn, 0, 0, 0), (16, .aload_n 0, 0, 0, 0), (17, .sipush 206, 0, 0, 0), (20, .invokevirtual 136, 65, 2, 4), (23, .aload_n 0, 0, 0, 0), (24, .getfield 19, 2, 6, 0), (27, .aload_n 0, 0, 0, 0),
  (28, .getfield 127, 2, 7, 0), (31, .invokestatic 140, 74, 2, 0), (34, .areturn, 0, 0, 0)]
def mt_c87 : List (Nat × mmE) := [(0, .aload_n 0, 0, 0, 0), (1, .dup, 0, 0, 0), (2, .getfield 38, 2, 3, 0), (5, .iconst 1, 0, 0, 0), (6, .iadd, 0, 0, 0), (7, .putfield 38, 2, 3, 0), (10, .aload_n 0, 0, 0, 0), (11, .invokevirtual 83, 45, 1, 4),
  (14, .istore_n 2, 0, 0, 0), (15, .iload_n 2, 0, 0, 0), (16, .iconst (-1), 0, 0, 0), (17, .if_icmp .ne 5, 0, 0, 0), (20, .iconst 0, 0, 0, 0), (21, .ireturn, 1, 0, 0), (22, .iconst (-1), 0, 0, 0), (23, .istore_n 3, 0, 0, 0),
  (24, .aconst_null, 0, 0, 0), (25, .astore 4, 0, 0, 0), (27, .iload_n 1, 0, 0, 0), (28, .sipush 218, 0, 0, 0), (31, .if_icmp .ne 35, 0, 0, 0), (34, .aload_n 0, 0, 0, 0), (35, .invokevirtual 41, 39, 1, 4), (38, .sipush 201, 0, 0, 0),
  (41, .if_icmp .ne 25, 0, 0, 0), (44, .aload_n 0, 0, 0, 0), (45, .dup, 0, 0, 0), (46, .getfield 38, 2, 3, 0), (49, .iconst 1, 0, 0, 0), (50, .iadd, 0, 0, 0), (51, .putfield 38, 2, 3, 0), (54, .aload_n 0, 0, 0, 0),
  (55, .invokevirtual 83, 45, 1, 4), (58, .istore_n 3, 0, 0, 0), (59, .iload_n 3, 0, 0, 0), (60, .iconst (-1), 0, 0, 0), (61, .if_icmp .ne 5, 0, 0, 0), (64, .iconst 0, 0, 0, 0), (65, .ireturn, 1, 0, 0), (66, .iload_n 1, 0, 0, 0),
  (67, .sipush 221, 0, 0, 0), (70, .if_icmp .ne 16, 0, 0, 0), (73, .aload_n 0, 0, 0, 0), (74, .invokevirtual 152, 86, 1, 4), (77, .astore 4, 0, 0, 0), (79, .aload 4, 0, 0, 0), (81, .ifnonnull 5, 0, 0, 0), (84, .iconst 0, 0, 0, 0),
  (85, .ireturn, 1, 0, 0), (86, .aload_n 0, 0, 0, 0), (87, .getfield 25, 2, 12, 0), (90, .new 95, 10, 0, 0), (93, .dup, 0, 0, 0), (94, .iload_n 1, 0, 0, 0), (95, .aload_n 0, 0, 0, 0), (96, .getfield 65, 2, 9, 0),
  (99, .iload_n 2, 0, 0, 0), (100, .iconst (-1), 0, 0, 0), (101, .iload_n 3, 0, 0, 0), (102, .aload 4, 0, 0, 0), (104, .invokespecial 97, 48, 7, 1), (107, .invokevirtual 100, 49, 2, 5), (110, .pop, 0, 0, 0), (111, .aload_n 0, 0, 0, 0),
  (112, .bipush 59, 0, 0, 0), (114, .invokevirtual 108, 58, 2, 4), (117, .ireturn, 1, 0, 0)]
def mt_c88 : List (Nat × mmE) := [(0, .iconst 0, 0, 0, 0), (1, .istore_n 3, 0, 0, 0), (2, .iload_n 3, 0, 0, 0), (3, .aload_n 0, 0, 0, 0), (4, .getfield 17, 8, 1, 0), (7, .if_icmp .ge 59, 0, 0, 0), (10, .aload_n 0, 0, 0, 0), (11, .getfield 11, 8, 0, 0),
  (14, .iload_n 3, 0, 0, 0), (15, .aaload, 0, 0, 0), (16, .astore 4, 0, 0, 0), (18, .aload 4, 0, 0, 0), (20, .ifnull 31, 0, 0, 0), (23, .aload 4, 0, 0, 0), (25, .getfield 49, 11, 3, 0), (28, .ifCond .eq 13, 0, 0, 0),
  (31, .aload_n 0, 0, 0, 0), (32, .getfield 11, 8, 0, 0), (35, .iload_n 3, 0, 0, 0), (36, .aaload, 0, 0, 0), (37, .iload_n 2, 0, 0, 0), (38, .putfield 96, 11, 2, 0), (41, .aload 4, 0, 0, 0), (43, .getfield 29, 11, 1, 0),
  (46, .astore 4, 0, 0, 0), (48, .goto (-30), 0, 0, 0), (51, .aload_n 0, 0, 0, 0), (52, .getfield 11, 8, 0, 0), (55, .iload_n 3, 0, 0, 0), (56, .aaload, 0, 0, 0), (57, .invokevirtual 99, 89, 1, 13), (60, .iinc 3 1, 0, 0, 0),
  (63, .goto (-61), 0, 0, 0), (66, .aload_n 1, 0, 0, 0), (67, .ifnull 8, 0, 0, 0), (70, .aload_n 0, 0, 0, 0), (71, .aload_n 1, 0, 0, 0), (72, .invokevirtual 102, 90, 2, 10), (75, .return_, 0, 0, 0)]
def mt_c89 : List (Nat × mmE) := [(0, .aload_n 0, 0, 0, 0), (1, .astore_n 1, 0, 0, 0), (2, .aload_n 1, 0, 0, 0), (3, .ifnull 133, 0, 0, 0), (6, .iconst 0, 0, 0, 0), (7, .istore_n 2, 0, 0, 0), (8, .iload_n 2, 0, 0, 0), (9, .aload_n 1, 0, 0, 0),
  (10, .getfield 62, 11, 4, 0), (13, .if_icmp .ge 21, 0, 0, 0), (16, .aload_n 0, 0, 0, 0), (17, .getfield 35, 11, 14, 0), (20, .aload_n 1, 0, 0, 0), (21, .getfield 9, 11, 5, 0), (24, .iload_n 2, 0, 0, 0), (25, .iaload, 0, 0, 0),
  (26, .iconst 1, 0, 0, 0), (27, .bastore, 0, 0, 0), (28, .iinc 2 1, 0, 0, 0), (31, .goto (-23), 0, 0, 0), (34, .iconst 0, 0, 0, 0), (35, .istore_n 2, 0, 0, 0), (36, .iload_n 2, 0, 0, 0), (37, .aload_n 1, 0, 0, 0),
  (38, .getfield 71, 11, 8, 0), (41, .if_icmp .ge 33, 0, 0, 0), (44, .aload_n 0, 0, 0, 0), (45, .getfield 39, 11, 15, 0), (48, .aload_n 1, 0, 0, 0), (49, .getfield 21, 11, 9, 0), (52, .iload_n 2, 0, 0, 0), (53, .iaload, 0, 0, 0),
  (54, .aload_n 1, 0, 0, 0), (55, .aastore, 0, 0, 0), (56, .aload_n 0, 0, 0, 0), (57, .getfield 43, 11, 16, 0), (60, .aload_n 1, 0, 0, 0), (61, .getfield 21, 11, 9, 0), (64, .iload_n 2, 0, 0, 0), (65, .iaload, 0, 0, 0),
  (66, .iload_n 2, 0, 0, 0), (67, .iastore, 0, 0, 0), (68, .iinc 2 1, 0, 0, 0), (71, .goto (-35), 0, 0, 0), (74, .iconst 0, 0, 0, 0), (75, .istore_n 2, 0, 0, 0), (76, .iload_n 2, 0, 0, 0), (77, .aload_n 1, 0, 0, 0),
  (78, .getfield 74, 11, 11, 0), (81, .if_icmp .ge 47, 0, 0, 0), (84, .aload_n 0, 0, 0, 0), (85, .getfield 46, 11, 17, 0), (88, .aload_n 1, 0, 0, 0), (89, .getfield 27, 11, 12, 0), (92, .iload_n 2, 0, 0, 0), (93, .iaload, 0, 0, 0),
  (94, .aaload, 0, 0, 0), (95, .ifnonnull 27, 0, 0, 0), (98, .aload_n 0, 0, 0, 0), (99, .getfield 46, 11, 17, 0), (102, .aload_n 1, 0, 0, 0), (103, .getfield 27, 11, 12, 0), (106, .iload_n 2, 0, 0, 0), (107, .iaload, 0, 0, 0),
  (108, .aload_n 1, 0, 0, 0), (109, .aastore, 0, 0, 0), (110, .aload_n 0, 0, 0, 0), (111, .getfield 49, 11, 18, 0), (114, .aload_n 1, 0, 0, 0), (115, .getfield 27, 11, 12, 0), (118, .iload_n 2, 0, 0, 0), (119, .iaload, 0, 0, 0),
  (120, .iload_n 2, 0, 0, 0), (121, .iastore, 0, 0, 0), (122, .iinc 2 1, 0, 0, 0), (125, .goto (-49), 0, 0, 0), (128, .aload_n 1, 0, 0, 0), (129, .getfield 81, 11, 1, 0), (132, .astore_n 1, 0, 0, 0), (133, .goto (-131), 0, 0, 0),
  (136, .return_, 0, 0, 0)]
def mt_c90 : List (Nat × mmE) := [(0, .iconst 0, 0, 0, 0), (1, .istore_n 2, 0, 0, 0), (2, .iload_n 2, 0, 0, 0), (3, .aload_n 0, 0, 0, 0), (4, .getfield 17, 8, 1, 0), (7, .if_icmp .ge 84, 0, 0, 0), (10, .aload_n 0, 0, 0, 0), (11, .getfield 11, 8, 0, 0),
  (14, .iload_n 2, 0, 0, 0), (15, .aaload, 0, 0, 0), (16, .astore_n 3, 0, 0, 0), (17, .aload_n 1, 0, 0, 0), (18, .aload_n 3, 0, 0, 0), (19, .getfield 21, 11, 0, 0), (22, .invokevirtual 33, 47, 2, 10), (25, .astore 4, 0, 0, 0),
  (27, .iconst 0, 0, 0, 0), (28, .istore 5, 0, 0, 0), (30, .aload 4, 0, 0, 0), (32, .ifnull 53, 0, 0, 0), (35, .iload 5, 0, 0, 0), (37, .aload_n 3, 0, 0, 0), (38, .getfield 90, 11, 8, 0), (41, .if_icmp .ge 44, 0, 0, 0),
  (44, .aload 4, 0, 0, 0), (46, .aload_n 3, 0, 0, 0), (47, .getfield 93, 11, 9, 0), (50, .iload 5, 0, 0, 0), (52, .iaload, 0, 0, 0), (53, .invokevirtual 106, 81, 2, 13), (56, .istore 6, 0, 0, 0), (58, .iload 6, 0, 0, 0),
  (60, .iconst (-1), 0, 0, 0), (61, .if_icmp .eq 18, 0, 0, 0), (64, .aload_n 3, 0, 0, 0), (65, .getfield 110, 11, 10, 0), (68, .iload 5, 0, 0, 0), (70, .aload 4, 0, 0, 0), (72, .getfield 110, 11, 10, 0), (75, .iload 6, 0, 0, 0),
  (77, .iaload, 0, 0, 0), (78, .iastore, 0, 0, 0), (79, .iinc 5 1, 0, 0, 0), (82, .goto (-52), 0, 0, 0), (85, .iinc 2 1, 0, 0, 0), (88, .goto (-86), 0, 0, 0), (91, .return_, 0, 0, 0)]
def mt_c91 : List (Nat × mmE) := [(0, .aload_n 0, 0, 0, 0), (1, .iconst 0, 0, 0, 0), (2, .putfield 50, 6, 4, 0), (5, .aload_n 0, 0, 0, 0), (6, .aconst_null, 0, 0, 0), (7, .putfield 53, 6, 5, 2), (10, .aload_n 0, 0, 0, 0), (11, .aconst_null, 0, 0, 0),
  (12, .putfield 57, 6, 7, 2), (15, .aload_n 0, 0, 0, 0), (16, .aconst_null, 0, 0, 0), (17, .putfield 60, 6, 8, 2), (20, .aload_n 0, 0, 0, 0), (21, .iconst 0, 0, 0, 0), (22, .putfield 64, 6, 9, 0), (25, .return_, 0, 0, 0)]
def mt_c92 : List (Nat × mmE) := [(0, .aload_n 0, 0, 0, 0), (1, .getfield 55, 0, 6, 0), (4, .invokevirtual 111, 93, 1, 8), (7, .ifCond .eq 12, 0, 0, 0), (10, .aload_n 0, 0, 0, 0), (11, .getfield 21, 0, 1, 0), (14, .invokevirtual 115, 94, 1, 4), (17, .iconst (-1), 0, 0, 0),
  (18, .ireturn, 0, 0, 0), (19, .aload_n 0, 0, 0, 0), (20, .getfield 21, 0, 1, 0), (23, .aconst_null, 0, 0, 0), (24, .invokevirtual 84, 42, 2, 4), (27, .ifCond .ne 5, 0, 0, 0), (30, .iconst (-1), 0, 0, 0), (31, .ireturn, 0, 0, 0),
  (32, .aload_n 0, 0, 0, 0), (33, .getfield 55, 0, 6, 0), (36, .aload_n 0, 0, 0, 0), (37, .getfield 21, 0, 1, 0), (40, .getfield 118, 2, 12, 0), (43, .invokevirtual 122, 95, 2, 8), (46, .ireturn, 0, 0, 0)]
def mt_c93 : List (Nat × mmE) := [(0, .aload_n 0, 0, 0, 0), (1, .getfield 50, 6, 4, 0), (4, .bipush 6, 0, 0, 0), (6, .if_icmp .lt 7, 0, 0, 0), (9, .iconst 1, 0, 0, 0), (10, .goto 4, 0, 0, 0), (13, .iconst 0, 0, 0, 0), (14, .ireturn, 1, 0, 0)]
def mt_c94 : List (Nat × mmE) := [(0, .aload_n 0, 0, 0, 0), (1, .getfield 29, 2, 0, 0), (4, .iconst 0, 0, 0, 0), (5, .putfield 52, 1, 1, 0), (8, .aload_n 0, 0, 0, 0), (9, .invokevirtual 55, 43, 1, 4), (12, .return_, 0, 0, 0)]
def mt_c95 : List (Nat × mmE) := [(0, .aload_n 0, 0, 0, 0), (1, .invokevirtual 67, 93, 1, 8), (4, .ifCond .eq 5, 0, 0, 0), (7, .iconst (-1), 0, 0, 0), (8, .ireturn, 0, 0, 0), (9, .aload_n 0, 0, 0, 0), (10, .getfield 19, 6, 3, 0), (13, .aload_n 0, 0, 0, 0),
  (14, .getfield 50, 6, 4, 0), (17, .new 17, 12, 0, 0), (20, .dup, 0, 0, 0), (21, .aload_n 1, 0, 0, 0), (22, .invokespecial 71, 96, 2, 1), (25, .aastore, 0, 0, 0), (26, .aload_n 0, 0, 0, 0), (27, .dup, 0, 0, 0),
  (28, .getfield 50, 6, 4, 0), (31, .iconst 1, 0, 0, 0), (32, .iadd, 0, 0, 0), (33, .putfield 50, 6, 4, 0), (36, .aload_n 0, 0, 0, 0), (37, .getfield 50, 6, 4, 0), (40, .iconst 1, 0, 0, 0), (41, .isub, 0, 0, 0),
  (42, .ireturn, 0, 0, 0)]
def mt_c96 : List (Nat × mmE) := [(0, .aload_n 0, 0, 0, 0), (1, .invokespecial 3, 0, 0, 1003), (4, .aload_n 0, 0, 0, 0), (5, .iconst 0, 0, 0, 0), (6, .putfield 9, 12, 1, 0), (9, .aload_n 0, 0, 0, 0), (10, .aload_n 1, 0, 0, 0), (11, .putfield 15, 12, 0, 2),
  (14, .return_, 0, 0, 0)]
def mt_c97 : List (Nat × mmE) := [(0, .iload_n 1, 0, 0, 0), (1, .lookupswitch 43 #[(0, 27), (1, 35)], 0, 0, 0), (28, .aload_n 0, 0, 0, 0), (29, .getfield 21, 0, 1, 0), (32, .getfield 126, 2, 4, 0), (35, .ireturn, 0, 0, 0), (36, .aload_n 0, 0, 0, 0), (37, .getfield 21, 0, 1, 0),
  (40, .getfield 129, 2, 5, 0), (43, .ireturn, 0, 0, 0), (44, .iconst (-1), 0, 0, 0), (45, .ireturn, 0, 0, 0)]
def mt_c98 : List (Nat × mmE) := [(0, .aload_n 0, 0, 0, 0), (1, .getfield 62, 0, 7, 0), (4, .getfield 108, 8, 1, 0), (7, .ireturn, 0, 0, 0)]
def mt_c99 : List (Nat × mmE) := [(0, .iload_n 1, 0, 0, 0), (1, .ifCond .lt 14, 0, 0, 0), (4, .iload_n 1, 0, 0, 0), (5, .aload_n 0, 0, 0, 0), (6, .getfield 62, 0, 7, 0), (9, .getfield 108, 8, 1, 0), (12, .if_icmp .lt 5, 0, 0, 0), (15, .iconst (-1), 0, 0, 0),
  (16, .ireturn, 0, 0, 0), (17, .aload_n 0, 0, 0, 0), (18, .getfield 62, 0, 7, 0), (21, .getfield 132, 8, 0, 0), (24, .iload_n 1, 0, 0, 0), (25, .aaload, 0, 0, 0), (26, .astore_n 3, 0, 0, 0), (27, .iload_n 2, 0, 0, 0),
  (28, .tableswitch 84 0 5 #[40, 45, 64, 69, 74, 79], 0, 0, 0), (68, .aload_n 3, 0, 0, 0), (69, .getfield 136, 11, 0, 0), (72, .ireturn, 0, 0, 0), (73, .aload_n 3, 0, 0, 0), (74, .getfield 141, 11, 1, 0), (77, .ifnonnull 7, 0, 0, 0), (80, .iconst (-1), 0, 0, 0),
  (81, .goto 10, 0, 0, 0), (84, .aload_n 3, 0, 0, 0), (85, .getfield 141, 11, 1, 0), (88, .getfield 136, 11, 0, 0), (91, .ireturn, 0, 0, 0), (92, .aload_n 3, 0, 0, 0), (93, .getfield 145, 11, 2, 0), (96, .ireturn, 0, 0, 0),
  (97, .aload_n 3, 0, 0, 0), (98, .getfield 148, 11, 4, 0), (101, .ireturn, 0, 0, 0), (102, .aload_n 3, 0, 0, 0), (103, .getfield 151, 11, 8, 0), (106, .ireturn, 0, 0, 0), (107, .aload_n 3, 0, 0, 0), (108, .getfield 154, 11, 11, 0),
  (111, .ireturn, 0, 0, 0), (112, .iconst (-1), 0, 0, 0), (113, .ireturn, 0, 0, 0)]
def mt_c100 : List (Nat × mmE) := [(0, .aload_n 0, 0, 0, 0), (1, .getfield 62, 0, 7, 0), (4, .iload_n 1, 0, 0, 0), (5, .invokevirtual 157, 47, 2, 10), (8, .astore_n 2, 0, 0, 0), (9, .aload_n 2, 0, 0, 0), (10, .ifnull 12, 0, 0, 0), (13, .aload_n 0, 0, 0, 0),
  (14, .getfield 102, 0, 8, 0), (17, .bipush 40, 0, 0, 0), (19, .if_icmp .lt 5, 0, 0, 0), (22, .iconst (-1), 0, 0, 0), (23, .ireturn, 0, 0, 0), (24, .aload_n 0, 0, 0, 0), (25, .getfield 27, 0, 2, 0), (28, .aload_n 0, 0, 0, 0),
  (29, .getfield 102, 0, 8, 0), (32, .aaload, 0, 0, 0), (33, .aload_n 2, 0, 0, 0), (34, .invokevirtual 161, 101, 2, 9), (37, .aload_n 0, 0, 0, 0), (38, .getfield 31, 0, 3, 0), (41, .aload_n 0, 0, 0, 0), (42, .getfield 102, 0, 8, 0),
  (45, .iconst 3, 0, 0, 0), (46, .iastore, 0, 0, 0), (47, .aload_n 0, 0, 0, 0), (48, .dup, 0, 0, 0), (49, .getfield 102, 0, 8, 0), (52, .iconst 1, 0, 0, 0), (53, .iadd, 0, 0, 0), (54, .putfield 102, 0, 8, 0),
  (57, .aload_n 0, 0, 0, 0), (58, .getfield 102, 0, 8, 0), (61, .iconst 1, 0, 0, 0), (62, .isub, 0, 0, 0), (63, .ireturn, 0, 0, 0)]
def mt_c101 : List (Nat × mmE) := [(0, .aload_n 0, 0, 0, 0), (1, .iconst 1, 0, 0, 0), (2, .putfield 26, 7, 1, 1), (5, .aload_n 0, 0, 0, 0), (6, .aload_n 1, 0, 0, 0), (7, .putfield 30, 7, 2, 2), (10, .iconst 0, 0, 0, 0), (11, .istore_n 2, 0, 0, 0),
  (12, .iload_n 2, 0, 0, 0), (13, .bipush 40, 0, 0, 0), (15, .if_icmp .ge 16, 0, 0, 0), (18, .aload_n 0, 0, 0, 0), (19, .getfield 15, 7, 4, 0), (22, .iload_n 2, 0, 0, 0), (23, .iconst 0, 0, 0, 0), (24, .bastore, 0, 0, 0),
  (25, .iinc 2 1, 0, 0, 0), (28, .goto (-16), 0, 0, 0), (31, .aload_n 1, 0, 0, 0), (32, .astore_n 2, 0, 0, 0), (33, .aload_n 2, 0, 0, 0), (34, .ifnull 44, 0, 0, 0), (37, .iconst 0, 0, 0, 0), (38, .istore_n 3, 0, 0, 0),
  (39, .iload_n 3, 0, 0, 0), (40, .aload_n 2, 0, 0, 0), (41, .getfield 34, 11, 4, 0), (44, .if_icmp .ge 26, 0, 0, 0), (47, .aload_n 0, 0, 0, 0), (48, .getfield 9, 7, 3, 0), (51, .aload_n 2, 0, 0, 0), (52, .getfield 39, 11, 5, 0),
  (55, .iload_n 3, 0, 0, 0), (56, .iaload, 0, 0, 0), (57, .aload_n 2, 0, 0, 0), (58, .getfield 42, 11, 6, 0), (61, .iload_n 3, 0, 0, 0), (62, .iaload, 0, 0, 0), (63, .iastore, 0, 0, 0), (64, .iinc 3 1, 0, 0, 0),
  (67, .goto (-28), 0, 0, 0), (70, .aload_n 2, 0, 0, 0), (71, .getfield 45, 11, 1, 0), (74, .astore_n 2, 0, 0, 0), (75, .goto (-42), 0, 0, 0), (78, .return_, 0, 0, 0)]
def mt_c102 : List (Nat × mmE) := [(0, .aload_n 0, 0, 0, 0), (1, .iload_n 1, 0, 0, 0), (2, .invokevirtual 165, 103, 2, 2), (5, .ifCond .eq 18, 0, 0, 0), (8, .aload_n 0, 0, 0, 0), (9, .getfield 27, 0, 2, 0), (12, .iload_n 1, 0, 0, 0), (13, .aaload, 0, 0, 0),
  (14, .getfield 169, 7, 2, 0), (17, .getfield 136, 11, 0, 0), (20, .goto 4, 0, 0, 0), (23, .iconst (-1), 0, 0, 0), (24, .ireturn, 0, 0, 0)]
def mt_c103 : List (Nat × mmE) := [(0, .iload_n 1, 0, 0, 0), (1, .ifCond .lt 25, 0, 0, 0), (4, .iload_n 1, 0, 0, 0), (5, .bipush 40, 0, 0, 0), (7, .if_icmp .ge 19, 0, 0, 0), (10, .aload_n 0, 0, 0, 0), (11, .getfield 27, 0, 2, 0), (14, .iload_n 1, 0, 0, 0),
  (15, .aaload, 0, 0, 0), (16, .getfield 92, 7, 1, 0), (19, .ifCond .eq 7, 0, 0, 0), (22, .iconst 1, 0, 0, 0), (23, .goto 4, 0, 0, 0), (26, .iconst 0, 0, 0, 0), (27, .ireturn, 1, 0, 0)]
def mt_c104 : List (Nat × mmE) := [(0, .aload_n 0, 0, 0, 0), (1, .iload_n 1, 0, 0, 0), (2, .invokevirtual 165, 103, 2, 2), (5, .ifCond .eq 18, 0, 0, 0), (8, .aload_n 0, 0, 0, 0), (9, .getfield 27, 0, 2, 0), (12, .iload_n 1, 0, 0, 0), (13, .aaload, 0, 0, 0),
  (14, .getfield 169, 7, 2, 0), (17, .getfield 145, 11, 2, 0), (20, .goto 4, 0, 0, 0), (23, .iconst (-1), 0, 0, 0), (24, .ireturn, 0, 0, 0)]
def mt_c105 : List (Nat × mmE) := [(0, .aload_n 0, 0, 0, 0), (1, .iload_n 1, 0, 0, 0), (2, .invokevirtual 165, 103, 2, 2), (5, .ifCond .eq 23, 0, 0, 0), (8, .aload_n 0, 0, 0, 0), (9, .getfield 27, 0, 2, 0), (12, .iload_n 1, 0, 0, 0), (13, .aaload, 0, 0, 0),
  (14, .getfield 169, 7, 2, 0), (17, .iload_n 2, 0, 0, 0), (18, .invokevirtual 172, 106, 2, 13), (21, .ifCond .eq 7, 0, 0, 0), (24, .iconst 1, 0, 0, 0), (25, .goto 4, 0, 0, 0), (28, .iconst 0, 0, 0, 0), (29, .ireturn, 1, 0, 0)]
def mt_c106 : List (Nat × mmE) := [(0, .iload_n 1, 0, 0, 0), (1, .ifCond .lt 22, 0, 0, 0), (4, .iload_n 1, 0, 0, 0), (5, .bipush 40, 0, 0, 0), (7, .if_icmp .ge 16, 0, 0, 0), (10, .aload_n 0, 0, 0, 0), (11, .getfield 35, 11, 14, 0), (14, .iload_n 1, 0, 0, 0),
  (15, .baload, 0, 0, 0), (16, .ifCond .eq 7, 0, 0, 0), (19, .iconst 1, 0, 0, 0), (20, .goto 4, 0, 0, 0), (23, .iconst 0, 0, 0, 0), (24, .ireturn, 1, 0, 0)]
def mt_c107 : List (Nat × mmE) := [(0, .aload_n 0, 0, 0, 0), (1, .iload_n 1, 0, 0, 0), (2, .invokevirtual 165, 103, 2, 2), (5, .ifCond .eq 10, 0, 0, 0), (8, .iload_n 2, 0, 0, 0), (9, .invokestatic 175, 108, 1, 0), (12, .ifCond .ne 5, 0, 0, 0), (15, .iconst 0, 0, 0, 0),
  (16, .ireturn, 0, 0, 0), (17, .aload_n 0, 0, 0, 0), (18, .getfield 27, 0, 2, 0), (21, .iload_n 1, 0, 0, 0), (22, .aaload, 0, 0, 0), (23, .astore_n 3, 0, 0, 0), (24, .aload_n 3, 0, 0, 0), (25, .getfield 169, 7, 2, 0),
  (28, .iload_n 2, 0, 0, 0), (29, .invokevirtual 172, 106, 2, 13), (32, .ifCond .eq 10, 0, 0, 0), (35, .aload_n 3, 0, 0, 0), (36, .getfield 178, 7, 3, 0), (39, .iload_n 2, 0, 0, 0), (40, .iaload, 0, 0, 0), (41, .ireturn, 0, 0, 0),
  (42, .aload_n 3, 0, 0, 0), (43, .getfield 181, 7, 4, 0), (46, .iload_n 2, 0, 0, 0), (47, .baload, 0, 0, 0), (48, .ifCond .eq 12, 0, 0, 0), (51, .aload_n 3, 0, 0, 0), (52, .getfield 185, 7, 5, 0), (55, .iload_n 2, 0, 0, 0),
  (56, .iaload, 0, 0, 0), (57, .goto 4, 0, 0, 0), (60, .iconst 0, 0, 0, 0), (61, .ireturn, 0, 0, 0)]
def mt_c108 : List (Nat × mmE) := [(0, .iload_n 0, 0, 0, 0), (1, .ifCond .lt 13, 0, 0, 0), (4, .iload_n 0, 0, 0, 0), (5, .bipush 40, 0, 0, 0), (7, .if_icmp .ge 7, 0, 0, 0), (10, .iconst 1, 0, 0, 0), (11, .goto 4, 0, 0, 0), (14, .iconst 0, 0, 0, 0),
  (15, .ireturn, 1, 0, 0)]
def mt_c109 : List (Nat × mmE) := [(0, .aload_n 0, 0, 0, 0), (1, .iload_n 1, 0, 0, 0), (2, .invokevirtual 165, 103, 2, 2), (5, .ifCond .eq 19, 0, 0, 0), (8, .aload_n 0, 0, 0, 0), (9, .getfield 27, 0, 2, 0), (12, .iload_n 1, 0, 0, 0), (13, .aaload, 0, 0, 0),
  (14, .getfield 169, 7, 2, 0), (17, .iload_n 2, 0, 0, 0), (18, .invokevirtual 172, 106, 2, 13), (21, .ifCond .ne 5, 0, 0, 0), (24, .iconst 0, 0, 0, 0), (25, .ireturn, 1, 0, 0), (26, .aload_n 0, 0, 0, 0), (27, .getfield 27, 0, 2, 0),
  (30, .iload_n 1, 0, 0, 0), (31, .aaload, 0, 0, 0), (32, .getfield 178, 7, 3, 0), (35, .iload_n 2, 0, 0, 0), (36, .iload_n 3, 0, 0, 0), (37, .iastore, 0, 0, 0), (38, .iconst 1, 0, 0, 0), (39, .ireturn, 1, 0, 0)]
def mt_c110 : List (Nat × mmE) := [(0, .aload_n 0, 0, 0, 0), (1, .getfield 62, 0, 7, 0), (4, .iload_n 1, 0, 0, 0), (5, .invokevirtual 157, 47, 2, 10), (8, .astore_n 3, 0, 0, 0), (9, .aload_n 3, 0, 0, 0), (10, .ifnonnull 7, 0, 0, 0), (13, .aconst_null, 0, 0, 0),
  (14, .goto 8, 0, 0, 0), (17, .aload_n 3, 0, 0, 0), (18, .iload_n 2, 0, 0, 0), (19, .invokevirtual 188, 111, 2, 13), (22, .astore 4, 0, 0, 0), (24, .aload 4, 0, 0, 0), (26, .ifnonnull 7, 0, 0, 0), (29, .iconst 0, 0, 0, 0),
  (30, .goto 15, 0, 0, 0), (33, .aload 4, 0, 0, 0), (35, .getfield 191, 11, 10, 0), (38, .aload_n 3, 0, 0, 0), (39, .getfield 194, 11, 16, 0), (42, .iload_n 2, 0, 0, 0), (43, .iaload, 0, 0, 0), (44, .iaload, 0, 0, 0),
  (45, .ireturn, 0, 0, 0)]
def mt_c111 : List (Nat × mmE) := [(0, .iload_n 1, 0, 0, 0), (1, .ifCond .lt 18, 0, 0, 0), (4, .iload_n 1, 0, 0, 0), (5, .bipush 40, 0, 0, 0), (7, .if_icmp .ge 12, 0, 0, 0), (10, .aload_n 0, 0, 0, 0), (11, .getfield 39, 11, 15, 0), (14, .iload_n 1, 0, 0, 0),
  (15, .aaload, 0, 0, 0), (16, .goto 4, 0, 0, 0), (19, .aconst_null, 0, 0, 0), (20, .areturn, 0, 0, 0)]
def mt_c112 : List (Nat × mmE) := [(0, .iconst 3, 0, 0, 0), (1, .istore 4, 0, 0, 0), (3, .aload_n 0, 0, 0, 0), (4, .iconst 0, 0, 0, 0), (5, .putfield 197, 0, 11, 0), (8, .aload_n 0, 0, 0, 0), (9, .iconst 0, 0, 0, 0), (10, .putfield 200, 0, 12, 0),
  (13, .aload_n 0, 0, 0, 0), (14, .iconst 0, 0, 0, 0), (15, .putfield 203, 0, 13, 0), (18, .aload_n 0, 0, 0, 0), (19, .iload_n 1, 0, 0, 0), (20, .invokevirtual 165, 103, 2, 2), (23, .ifCond .eq 53, 0, 0, 0), (26, .aload_n 0, 0, 0, 0),
  (27, .getfield 46, 0, 5, 0), (30, .aload_n 0, 0, 0, 0), (31, .getfield 27, 0, 2, 0), (34, .iload_n 1, 0, 0, 0), (35, .aaload, 0, 0, 0), (36, .iload_n 2, 0, 0, 0), (37, .iload_n 3, 0, 0, 0), (38, .invokevirtual 206, 113, 4, 6),
  (41, .istore 4, 0, 0, 0), (43, .aload_n 0, 0, 0, 0), (44, .aload_n 0, 0, 0, 0), (45, .getfield 46, 0, 5, 0), (48, .getfield 210, 4, 8, 0), (51, .putfield 197, 0, 11, 0), (54, .aload_n 0, 0, 0, 0), (55, .aload_n 0, 0, 0, 0),
  (56, .getfield 46, 0, 5, 0), (59, .getfield 213, 4, 9, 0), (62, .putfield 200, 0, 12, 0), (65, .aload_n 0, 0, 0, 0), (66, .aload_n 0, 0, 0, 0), (67, .getfield 46, 0, 5, 0), (70, .getfield 216, 4, 10, 0), (73, .putfield 203, 0, 13, 0),
  (76, .iload 4, 0, 0, 0), (78, .ireturn, 0, 0, 0)]
def mt_c113 : List (Nat × mmE) := [(0, .aload_n 0, 0, 0, 0), (1, .invokevirtual 33, 114, 1, 6), (4, .aload_n 1, 0, 0, 0), (5, .getfield 36, 7, 2, 0), (8, .iload_n 2, 0, 0, 0), (9, .invokevirtual 42, 115, 2, 13), (12, .astore 4, 0, 0, 0), (14, .aload 4, 0, 0, 0),
  (16, .ifnonnull 5, 0, 0, 0), (19, .iconst 2, 0, 0, 0), (20, .ireturn, 0, 0, 0), (21, .aload_n 0, 0, 0, 0), (22, .getfield 18, 4, 2, 0), (25, .aload_n 1, 0, 0, 0), (26, .aload 4, 0, 0, 0), (28, .iload_n 2, 0, 0, 0),
  (29, .iload_n 3, 0, 0, 0), (30, .invokevirtual 48, 116, 5, 7), (33, .aload_n 0, 0, 0, 0), (34, .aload_n 0, 0, 0, 0), (35, .getfield 18, 4, 2, 0), (38, .invokevirtual 52, 117, 2, 6), (41, .aload_n 0, 0, 0, 0), (42, .aload_n 0, 0, 0, 0),
  (43, .getfield 18, 4, 2, 0), (46, .iconst 0, 0, 0, 0), (47, .invokevirtual 56, 118, 3, 6), (50, .ireturn, 0, 0, 0)]
def mt_c114 : List (Nat × mmE) := [(0, .aload_n 0, 0, 0, 0), (1, .iconst 0, 0, 0, 0), (2, .putfield 60, 4, 8, 0), (5, .aload_n 0, 0, 0, 0), (6, .iconst 0, 0, 0, 0), (7, .putfield 64, 4, 9, 0), (10, .aload_n 0, 0, 0, 0), (11, .iconst 0, 0, 0, 0),
  (12, .putfield 67, 4, 10, 0), (15, .return_, 0, 0, 0)]
def mt_c115 : List (Nat × mmE) := [(0, .iload_n 1, 0, 0, 0), (1, .ifCond .lt 18, 0, 0, 0), (4, .iload_n 1, 0, 0, 0), (5, .bipush 40, 0, 0, 0), (7, .if_icmp .ge 12, 0, 0, 0), (10, .aload_n 0, 0, 0, 0), (11, .getfield 46, 11, 17, 0), (14, .iload_n 1, 0, 0, 0),
  (15, .aaload, 0, 0, 0), (16, .goto 4, 0, 0, 0), (19, .aconst_null, 0, 0, 0), (20, .areturn, 0, 0, 0)]
def mt_c116 : List (Nat × mmE) := [(0, .aload_n 0, 0, 0, 0), (1, .aload_n 1, 0, 0, 0), (2, .putfield 9, 5, 0, 2), (5, .aload_n 0, 0, 0, 0), (6, .aload_n 2, 0, 0, 0), (7, .putfield 15, 5, 1, 2), (10, .aload_n 0, 0, 0, 0), (11, .iload_n 3, 0, 0, 0),
  (12, .putfield 19, 5, 2, 0), (15, .aload_n 0, 0, 0, 0), (16, .aload_n 2, 0, 0, 0), (17, .getfield 23, 11, 13, 0), (20, .aload_n 2, 0, 0, 0), (21, .getfield 29, 11, 18, 0), (24, .iload_n 3, 0, 0, 0), (25, .iaload, 0, 0, 0),
  (26, .aaload, 0, 0, 0), (27, .putfield 33, 5, 3, 2), (30, .aload_n 0, 0, 0, 0), (31, .iconst 0, 0, 0, 0), (32, .putfield 36, 5, 4, 0), (35, .aload_n 0, 0, 0, 0), (36, .iconst 0, 0, 0, 0), (37, .putfield 39, 5, 5, 0),
  (40, .aload_n 0, 0, 0, 0), (41, .iload 4, 0, 0, 0), (43, .putfield 42, 5, 6, 0), (46, .return_, 0, 0, 0)]
def mt_c117 : List (Nat × mmE) := [(0, .aload_n 0, 0, 0, 0), (1, .getfield 164, 4, 11, 0), (4, .ifCond .eq 12, 0, 0, 0), (7, .aload_n 0, 0, 0, 0), (8, .getfield 167, 4, 13, 0), (11, .bipush 50, 0, 0, 0), (13, .if_icmp .lt 4, 0, 0, 0), (16, .return_, 0, 0, 0),
  (17, .aload_n 0, 0, 0, 0), (18, .getfield 167, 4, 13, 0), (21, .iconst 4, 0, 0, 0), (22, .imul, 0, 0, 0), (23, .istore_n 2, 0, 0, 0), (24, .aload_n 0, 0, 0, 0), (25, .getfield 26, 4, 12, 0), (28, .iload_n 2, 0, 0, 0),
  (29, .aload_n 1, 0, 0, 0), (30, .getfield 106, 5, 0, 0), (33, .getfield 170, 7, 0, 0), (36, .iastore, 0, 0, 0), (37, .aload_n 0, 0, 0, 0), (38, .getfield 26, 4, 12, 0), (41, .iload_n 2, 0, 0, 0), (42, .iconst 1, 0, 0, 0),
  (43, .iadd, 0, 0, 0), (44, .aload_n 1, 0, 0, 0), (45, .getfield 155, 5, 2, 0), (48, .iastore, 0, 0, 0), (49, .aload_n 0, 0, 0, 0), (50, .getfield 26, 4, 12, 0), (53, .iload_n 2, 0, 0, 0), (54, .iconst 2, 0, 0, 0),
  (55, .iadd, 0, 0, 0), (56, .aload_n 1, 0, 0, 0), (57, .getfield 149, 5, 1, 0), (60, .getfield 173, 11, 0, 0), (63, .iastore, 0, 0, 0), (64, .aload_n 0, 0, 0, 0), (65, .getfield 26, 4, 12, 0), (68, .iload_n 2, 0, 0, 0),
  (69, .iconst 3, 0, 0, 0), (70, .iadd, 0, 0, 0), (71, .aload_n 1, 0, 0, 0), (72, .getfield 149, 5, 1, 0), (75, .getfield 176, 11, 2, 0), (78, .iastore, 0, 0, 0), (79, .aload_n 0, 0, 0, 0), (80, .dup, 0, 0, 0),
  (81, .getfield 167, 4, 13, 0), (84, .iconst 1, 0, 0, 0), (85, .iadd, 0, 0, 0), (86, .putfield 167, 4, 13, 0), (89, .return_, 0, 0, 0)]
def mt_c118 : List (Nat × mmE) := [(0, .aload_n 0, 0, 0, 0), (1, .getfield 11, 4, 1, 0), (4, .iconst 0, 0, 0, 0), (5, .aload_n 1, 0, 0, 0), (6, .aastore, 0, 0, 0), (7, .aload_n 0, 0, 0, 0), (8, .iconst 0, 0, 0, 0), (9, .putfield 91, 4, 3, 0),
  (12, .aload_n 0, 0, 0, 0), (13, .iconst 0, 0, 0, 0), (14, .putfield 74, 4, 5, 0), (17, .aload_n 0, 0, 0, 0), (18, .iload_n 2, 0, 0, 0), (19, .putfield 93, 4, 6, 1), (22, .aload_n 0, 0, 0, 0), (23, .iconst (-1), 0, 0, 0),
  (24, .putfield 77, 4, 7, 0), (27, .iconst 0, 0, 0, 0), (28, .istore_n 3, 0, 0, 0), (29, .iload_n 3, 0, 0, 0), (30, .ldc 97, 0, 1000000, 0), (32, .if_icmp .ge 54, 0, 0, 0), (35, .aload_n 0, 0, 0, 0), (36, .getfield 77, 4, 7, 0),
  (39, .iconst (-1), 0, 0, 0), (40, .if_icmp .ne 46, 0, 0, 0), (43, .aload_n 0, 0, 0, 0), (44, .getfield 11, 4, 1, 0), (47, .aload_n 0, 0, 0, 0), (48, .getfield 91, 4, 3, 0), (51, .aaload, 0, 0, 0), (52, .astore 4, 0, 0, 0),
  (54, .aload 4, 0, 0, 0), (56, .invokevirtual 80, 119, 1, 7), (59, .istore 5, 0, 0, 0), (61, .aload_n 0, 0, 0, 0), (62, .aload 4, 0, 0, 0), (64, .iload 5, 0, 0, 0), (66, .invokevirtual 84, 120, 3, 6), (69, .ifCond .ne 11, 0, 0, 0),
  (72, .aload_n 0, 0, 0, 0), (73, .aload 4, 0, 0, 0), (75, .iload 5, 0, 0, 0), (77, .invokevirtual 98, 127, 3, 6), (80, .iinc 3 1, 0, 0, 0), (83, .goto (-54), 0, 0, 0), (86, .aload_n 0, 0, 0, 0), (87, .getfield 77, 4, 7, 0),
  (90, .iconst (-1), 0, 0, 0), (91, .if_icmp .ne 7, 0, 0, 0), (94, .iconst 4, 0, 0, 0), (95, .goto 7, 0, 0, 0), (98, .aload_n 0, 0, 0, 0), (99, .getfield 77, 4, 7, 0), (102, .ireturn, 0, 0, 0)]
def mt_c119 : List (Nat × mmE) := [(0, .aload_n 0, 0, 0, 0), (1, .getfield 33, 5, 3, 0), (4, .ifnull 22, 0, 0, 0), (7, .aload_n 0, 0, 0, 0), (8, .getfield 36, 5, 4, 0), (11, .ifCond .lt 15, 0, 0, 0), (14, .aload_n 0, 0, 0, 0), (15, .getfield 36, 5, 4, 0),
  (18, .aload_n 0, 0, 0, 0), (19, .getfield 33, 5, 3, 0), (22, .arraylength, 0, 0, 0), (23, .if_icmp .lt 5, 0, 0, 0), (26, .iconst 0, 0, 0, 0), (27, .ireturn, 0, 0, 0), (28, .aload_n 0, 0, 0, 0), (29, .dup, 0, 0, 0),
  (30, .getfield 36, 5, 4, 0), (33, .iconst 1, 0, 0, 0), (34, .iadd, 0, 0, 0), (35, .putfield 36, 5, 4, 0), (38, .aload_n 0, 0, 0, 0), (39, .getfield 33, 5, 3, 0), (42, .aload_n 0, 0, 0, 0), (43, .getfield 36, 5, 4, 0),
  (46, .iconst 1, 0, 0, 0), (47, .isub, 0, 0, 0), (48, .iaload, 0, 0, 0), (49, .ireturn, 0, 0, 0)]
def mt_c120 : List (Nat × mmE) := [(0, .iload_n 2, 0, 0, 0), (1, .lookupswitch 187 #[(1, 117), (2, 107), (42, 180), (43, 180), (45, 180), (47, 180), (60, 180), (61, 162), (214, 131), (215, 141), (250, 180), (252, 151)], 0, 0, 0), (108, .aload_n 0, 0, 0, 0), (109, .aload_n 1, 0, 0, 0), (110, .invokevirtual 80, 119, 1, 7), (113, .invokevirtual 102, 121, 2, 6), (116, .iconst 1, 0, 0, 0), (117, .ireturn, 1, 0, 0),
  (118, .aload_n 0, 0, 0, 0), (119, .aload_n 1, 0, 0, 0), (120, .getfield 106, 5, 0, 0), (123, .aload_n 1, 0, 0, 0), (124, .invokevirtual 80, 119, 1, 7), (127, .invokevirtual 110, 122, 3, 6), (130, .iconst 1, 0, 0, 0), (131, .ireturn, 1, 0, 0),
  (132, .aload_n 0, 0, 0, 0), (133, .aload_n 1, 0, 0, 0), (134, .getfield 114, 5, 6, 0), (137, .invokevirtual 102, 121, 2, 6), (140, .iconst 1, 0, 0, 0), (141, .ireturn, 1, 0, 0), (142, .aload_n 0, 0, 0, 0), (143, .aload_n 1, 0, 0, 0),
  (144, .getfield 117, 5, 5, 0), (147, .invokevirtual 102, 121, 2, 6), (150, .iconst 1, 0, 0, 0), (151, .ireturn, 1, 0, 0), (152, .aload_n 0, 0, 0, 0), (153, .aload_n 0, 0, 0, 0), (154, .invokevirtual 88, 124, 1, 6), (157, .ineg, 0, 0, 0),
  (158, .invokevirtual 102, 121, 2, 6), (161, .iconst 1, 0, 0, 0), (162, .ireturn, 1, 0, 0), (163, .aload_n 0, 0, 0, 0), (164, .aload_n 1, 0, 0, 0), (165, .getfield 106, 5, 0, 0), (168, .aload_n 1, 0, 0, 0), (169, .invokevirtual 80, 119, 1, 7),
  (172, .aload_n 0, 0, 0, 0), (173, .invokevirtual 88, 124, 1, 6), (176, .invokevirtual 120, 125, 4, 6), (179, .iconst 1, 0, 0, 0), (180, .ireturn, 1, 0, 0), (181, .aload_n 0, 0, 0, 0), (182, .iload_n 2, 0, 0, 0), (183, .invokevirtual 124, 126, 2, 6),
  (186, .iconst 1, 0, 0, 0), (187, .ireturn, 1, 0, 0), (188, .iconst 0, 0, 0, 0), (189, .ireturn, 1, 0, 0)]
def mt_c121 : List (Nat × mmE) := [(0, .aload_n 0, 0, 0, 0), (1, .getfield 74, 4, 5, 0), (4, .aload_n 0, 0, 0, 0), (5, .getfield 22, 4, 4, 0), (8, .arraylength, 0, 0, 0), (9, .if_icmp .ge 23, 0, 0, 0), (12, .aload_n 0, 0, 0, 0), (13, .getfield 22, 4, 4, 0),
  (16, .aload_n 0, 0, 0, 0), (17, .getfield 74, 4, 5, 0), (20, .iload_n 1, 0, 0, 0), (21, .iastore, 0, 0, 0), (22, .aload_n 0, 0, 0, 0), (23, .dup, 0, 0, 0), (24, .getfield 74, 4, 5, 0), (27, .iconst 1, 0, 0, 0),
  (28, .iadd, 0, 0, 0), (29, .putfield 74, 4, 5, 0), (32, .return_, 0, 0, 0)]
def mt_c122 : List (Nat × mmE) := [(0, .aload_n 1, 0, 0, 0), (1, .getfield 36, 7, 2, 0), (4, .astore_n 3, 0, 0, 0), (5, .aload_n 3, 0, 0, 0), (6, .iload_n 2, 0, 0, 0), (7, .invokevirtual 179, 111, 2, 13), (10, .astore 4, 0, 0, 0), (12, .aload_n 3, 0, 0, 0),
  (13, .iload_n 2, 0, 0, 0), (14, .invokevirtual 182, 106, 2, 13), (17, .ifCond .eq 16, 0, 0, 0), (20, .aload_n 0, 0, 0, 0), (21, .aload_n 1, 0, 0, 0), (22, .getfield 186, 7, 3, 0), (25, .iload_n 2, 0, 0, 0), (26, .iaload, 0, 0, 0),
  (27, .invokevirtual 102, 121, 2, 6), (30, .goto 63, 0, 0, 0), (33, .aload 4, 0, 0, 0), (35, .ifnull 22, 0, 0, 0), (38, .aload_n 0, 0, 0, 0), (39, .aload 4, 0, 0, 0), (41, .getfield 189, 11, 10, 0), (44, .aload_n 3, 0, 0, 0),
  (45, .getfield 192, 11, 16, 0), (48, .iload_n 2, 0, 0, 0), (49, .iaload, 0, 0, 0), (50, .iaload, 0, 0, 0), (51, .invokevirtual 102, 121, 2, 6), (54, .goto 39, 0, 0, 0), (57, .iload_n 2, 0, 0, 0), (58, .invokestatic 195, 108, 1, 0),
  (61, .ifCond .eq 25, 0, 0, 0), (64, .aload_n 1, 0, 0, 0), (65, .getfield 198, 7, 4, 0), (68, .iload_n 2, 0, 0, 0), (69, .baload, 0, 0, 0), (70, .ifCond .eq 16, 0, 0, 0), (73, .aload_n 0, 0, 0, 0), (74, .aload_n 1, 0, 0, 0),
  (75, .getfield 202, 7, 5, 0), (78, .iload_n 2, 0, 0, 0), (79, .iaload, 0, 0, 0), (80, .invokevirtual 102, 121, 2, 6), (83, .goto 10, 0, 0, 0), (86, .aload_n 0, 0, 0, 0), (87, .sipush 1001, 0, 0, 0), (90, .invokevirtual 136, 123, 2, 6),
  (93, .return_, 0, 0, 0)]
def mt_c123 : List (Nat × mmE) := [(0, .aload_n 0, 0, 0, 0), (1, .iload_n 1, 0, 0, 0), (2, .putfield 64, 4, 9, 0), (5, .aload_n 0, 0, 0, 0), (6, .iconst 1, 0, 0, 0), (7, .putfield 77, 4, 7, 0), (10, .return_, 0, 0, 0)]
def mt_c124 : List (Nat × mmE) := [(0, .aload_n 0, 0, 0, 0), (1, .getfield 74, 4, 5, 0), (4, .ifCond .gt 5, 0, 0, 0), (7, .iconst 0, 0, 0, 0), (8, .ireturn, 0, 0, 0), (9, .aload_n 0, 0, 0, 0), (10, .dup, 0, 0, 0), (11, .getfield 74, 4, 5, 0),
  (14, .iconst 1, 0, 0, 0), (15, .isub, 0, 0, 0), (16, .putfield 74, 4, 5, 0), (19, .aload_n 0, 0, 0, 0), (20, .getfield 22, 4, 4, 0), (23, .aload_n 0, 0, 0, 0), (24, .getfield 74, 4, 5, 0), (27, .iaload, 0, 0, 0),
  (28, .ireturn, 0, 0, 0)]
def mt_c125 : List (Nat × mmE) := [(0, .aload_n 1, 0, 0, 0), (1, .getfield 36, 7, 2, 0), (4, .astore 4, 0, 0, 0), (6, .aload 4, 0, 0, 0), (8, .iload_n 2, 0, 0, 0), (9, .invokevirtual 179, 111, 2, 13), (12, .astore 5, 0, 0, 0), (14, .aload 4, 0, 0, 0),
  (16, .iload_n 2, 0, 0, 0), (17, .invokevirtual 182, 106, 2, 13), (20, .ifCond .eq 13, 0, 0, 0), (23, .aload_n 1, 0, 0, 0), (24, .getfield 186, 7, 3, 0), (27, .iload_n 2, 0, 0, 0), (28, .iload_n 3, 0, 0, 0), (29, .iastore, 0, 0, 0),
  (30, .goto 58, 0, 0, 0), (33, .aload 5, 0, 0, 0), (35, .ifnull 20, 0, 0, 0), (38, .aload 5, 0, 0, 0), (40, .getfield 189, 11, 10, 0), (43, .aload 4, 0, 0, 0), (45, .getfield 192, 11, 16, 0), (48, .iload_n 2, 0, 0, 0),
  (49, .iaload, 0, 0, 0), (50, .iload_n 3, 0, 0, 0), (51, .iastore, 0, 0, 0), (52, .goto 36, 0, 0, 0), (55, .iload_n 2, 0, 0, 0), (56, .invokestatic 195, 108, 1, 0), (59, .ifCond .eq 22, 0, 0, 0), (62, .aload_n 1, 0, 0, 0),
  (63, .getfield 198, 7, 4, 0), (66, .iload_n 2, 0, 0, 0), (67, .baload, 0, 0, 0), (68, .ifCond .eq 13, 0, 0, 0), (71, .aload_n 1, 0, 0, 0), (72, .getfield 202, 7, 5, 0), (75, .iload_n 2, 0, 0, 0), (76, .iload_n 3, 0, 0, 0),
  (77, .iastore, 0, 0, 0), (78, .goto 10, 0, 0, 0), (81, .aload_n 0, 0, 0, 0), (82, .sipush 1001, 0, 0, 0), (85, .invokevirtual 136, 123, 2, 6), (88, .return_, 0, 0, 0)]
def mt_c126 : List (Nat × mmE) := [(0, .aload_n 0, 0, 0, 0), (1, .invokevirtual 88, 124, 1, 6), (4, .istore_n 2, 0, 0, 0), (5, .aload_n 0, 0, 0, 0), (6, .invokevirtual 88, 124, 1, 6), (9, .istore_n 3, 0, 0, 0), (10, .iload_n 1, 0, 0, 0), (11, .lookupswitch 120 #[(42, 69), (43, 49), (45, 59), (47, 79), (60, 103)], 0, 0, 0),
  (60, .aload_n 0, 0, 0, 0), (61, .iload_n 3, 0, 0, 0), (62, .iload_n 2, 0, 0, 0), (63, .iadd, 0, 0, 0), (64, .invokevirtual 102, 121, 2, 6), (67, .goto 78, 0, 0, 0), (70, .aload_n 0, 0, 0, 0), (71, .iload_n 3, 0, 0, 0),
  (72, .iload_n 2, 0, 0, 0), (73, .isub, 0, 0, 0), (74, .invokevirtual 102, 121, 2, 6), (77, .goto 68, 0, 0, 0), (80, .aload_n 0, 0, 0, 0), (81, .iload_n 3, 0, 0, 0), (82, .iload_n 2, 0, 0, 0), (83, .imul, 0, 0, 0),
  (84, .invokevirtual 102, 121, 2, 6), (87, .goto 58, 0, 0, 0), (90, .iload_n 2, 0, 0, 0), (91, .ifCond .ne 13, 0, 0, 0), (94, .aload_n 0, 0, 0, 0), (95, .sipush 1002, 0, 0, 0), (98, .invokevirtual 136, 123, 2, 6), (101, .goto 44, 0, 0, 0),
  (104, .aload_n 0, 0, 0, 0), (105, .iload_n 3, 0, 0, 0), (106, .iload_n 2, 0, 0, 0), (107, .idiv, 0, 0, 0), (108, .invokevirtual 102, 121, 2, 6), (111, .goto 34, 0, 0, 0), (114, .aload_n 0, 0, 0, 0), (115, .iload_n 3, 0, 0, 0),
  (116, .iload_n 2, 0, 0, 0), (117, .if_icmp .ge 7, 0, 0, 0), (120, .iconst 1, 0, 0, 0), (121, .goto 4, 0, 0, 0), (124, .iconst 0, 0, 0, 0), (125, .invokevirtual 102, 121, 2, 6), (128, .goto 17, 0, 0, 0), (131, .aload_n 0, 0, 0, 0),
  (132, .iload_n 3, 0, 0, 0), (133, .iload_n 2, 0, 0, 0), (134, .if_icmp .ne 7, 0, 0, 0), (137, .iconst 1, 0, 0, 0), (138, .goto 4, 0, 0, 0), (141, .iconst 0, 0, 0, 0), (142, .invokevirtual 102, 121, 2, 6), (145, .return_, 0, 0, 0)]
def mt_c127 : List (Nat × mmE) := [(0, .iload_n 2, 0, 0, 0), (1, .lookupswitch 210 #[(206, 128), (207, 139), (208, 150), (209, 158), (210, 173), (211, 188), (212, 90), (213, 117), (253, 83)], 0, 0, 0), (84, .aload_n 0, 0, 0, 0), (85, .invokevirtual 127, 128, 1, 6), (88, .goto 128, 0, 0, 0), (91, .aload_n 1, 0, 0, 0), (92, .invokevirtual 80, 119, 1, 7), (95, .istore_n 3, 0, 0, 0),
  (96, .aload_n 1, 0, 0, 0), (97, .aload_n 0, 0, 0, 0), (98, .invokevirtual 88, 124, 1, 6), (101, .ifCond .ne 7, 0, 0, 0), (104, .iload_n 3, 0, 0, 0), (105, .goto 7, 0, 0, 0), (108, .aload_n 1, 0, 0, 0), (109, .getfield 130, 5, 4, 0),
  (112, .putfield 130, 5, 4, 0), (115, .goto 101, 0, 0, 0), (118, .aload_n 1, 0, 0, 0), (119, .aload_n 1, 0, 0, 0), (120, .invokevirtual 80, 119, 1, 7), (123, .putfield 130, 5, 4, 0), (126, .goto 90, 0, 0, 0), (129, .aload_n 0, 0, 0, 0),
  (130, .aload_n 0, 0, 0, 0), (131, .invokevirtual 88, 124, 1, 6), (134, .invokevirtual 133, 129, 2, 6), (137, .goto 79, 0, 0, 0), (140, .aload_n 0, 0, 0, 0), (141, .aload_n 0, 0, 0, 0), (142, .invokevirtual 88, 124, 1, 6), (145, .invokevirtual 136, 123, 2, 6),
  (148, .goto 68, 0, 0, 0), (151, .aload_n 0, 0, 0, 0), (152, .aload_n 1, 0, 0, 0), (153, .invokevirtual 139, 130, 2, 6), (156, .goto 60, 0, 0, 0), (159, .aload_n 0, 0, 0, 0), (160, .aload_n 1, 0, 0, 0), (161, .getfield 106, 5, 0, 0),
  (164, .aload_n 1, 0, 0, 0), (165, .invokevirtual 80, 119, 1, 7), (168, .invokevirtual 142, 132, 3, 6), (171, .goto 45, 0, 0, 0), (174, .aload_n 0, 0, 0, 0), (175, .aload_n 0, 0, 0, 0), (176, .invokevirtual 88, 124, 1, 6), (179, .aload_n 1, 0, 0, 0),
  (180, .invokevirtual 80, 119, 1, 7), (183, .invokevirtual 145, 133, 3, 6), (186, .goto 30, 0, 0, 0), (189, .aload_n 0, 0, 0, 0), (190, .getfield 93, 4, 6, 0), (193, .ifCond .eq 23, 0, 0, 0), (196, .aload_n 0, 0, 0, 0), (197, .getfield 91, 4, 3, 0),
  (200, .ifCond .ne 16, 0, 0, 0), (203, .aload_n 0, 0, 0, 0), (204, .iconst 5, 0, 0, 0), (205, .putfield 77, 4, 7, 0), (208, .goto 8, 0, 0, 0), (211, .aload_n 0, 0, 0, 0), (212, .iconst 0, 0, 0, 0), (213, .invokevirtual 133, 129, 2, 6),
  (216, .return_, 0, 0, 0)]
def mt_c128 : List (Nat × mmE) := [(0, .aload_n 0, 0, 0, 0), (1, .getfield 67, 4, 10, 0), (4, .sipush 500, 0, 0, 0), (7, .if_icmp .lt 11, 0, 0, 0), (10, .aload_n 0, 0, 0, 0), (11, .iconst 4, 0, 0, 0), (12, .putfield 77, 4, 7, 0), (15, .goto 13, 0, 0, 0),
  (18, .aload_n 0, 0, 0, 0), (19, .dup, 0, 0, 0), (20, .getfield 67, 4, 10, 0), (23, .iconst 1, 0, 0, 0), (24, .iadd, 0, 0, 0), (25, .putfield 67, 4, 10, 0), (28, .return_, 0, 0, 0)]
def mt_c129 : List (Nat × mmE) := [(0, .aload_n 0, 0, 0, 0), (1, .getfield 91, 4, 3, 0), (4, .ifCond .ne 16, 0, 0, 0), (7, .aload_n 0, 0, 0, 0), (8, .iload_n 1, 0, 0, 0), (9, .putfield 60, 4, 8, 0), (12, .aload_n 0, 0, 0, 0), (13, .iconst 0, 0, 0, 0),
  (14, .putfield 77, 4, 7, 0), (17, .goto 26, 0, 0, 0), (20, .aload_n 0, 0, 0, 0), (21, .dup, 0, 0, 0), (22, .getfield 91, 4, 3, 0), (25, .iconst 1, 0, 0, 0), (26, .isub, 0, 0, 0), (27, .putfield 91, 4, 3, 0),
  (30, .aload_n 0, 0, 0, 0), (31, .getfield 11, 4, 1, 0), (34, .aload_n 0, 0, 0, 0), (35, .getfield 91, 4, 3, 0), (38, .aaload, 0, 0, 0), (39, .iload_n 1, 0, 0, 0), (40, .putfield 117, 5, 5, 0), (43, .return_, 0, 0, 0)]
def mt_c130 : List (Nat × mmE) := [(0, .aload_n 1, 0, 0, 0), (1, .getfield 149, 5, 1, 0), (4, .getfield 152, 11, 1, 0), (7, .astore_n 2, 0, 0, 0), (8, .aload_n 2, 0, 0, 0), (9, .ifnonnull 7, 0, 0, 0), (12, .aconst_null, 0, 0, 0), (13, .goto 11, 0, 0, 0),
  (16, .aload_n 2, 0, 0, 0), (17, .aload_n 1, 0, 0, 0), (18, .getfield 155, 5, 2, 0), (21, .invokevirtual 42, 115, 2, 13), (24, .astore_n 3, 0, 0, 0), (25, .aload_n 3, 0, 0, 0), (26, .ifnonnull 11, 0, 0, 0), (29, .aload_n 1, 0, 0, 0),
  (30, .iconst 0, 0, 0, 0), (31, .putfield 117, 5, 5, 0), (34, .goto 20, 0, 0, 0), (37, .aload_n 0, 0, 0, 0), (38, .aload_n 1, 0, 0, 0), (39, .getfield 106, 5, 0, 0), (42, .aload_n 3, 0, 0, 0), (43, .aload_n 1, 0, 0, 0),
  (44, .getfield 155, 5, 2, 0), (47, .aload_n 1, 0, 0, 0), (48, .getfield 114, 5, 6, 0), (51, .invokevirtual 158, 131, 5, 6), (54, .return_, 0, 0, 0)]
def mt_c131 : List (Nat × mmE) := [(0, .aload_n 0, 0, 0, 0), (1, .getfield 91, 4, 3, 0), (4, .bipush 20, 0, 0, 0), (6, .if_icmp .lt 11, 0, 0, 0), (9, .aload_n 0, 0, 0, 0), (10, .sipush 1005, 0, 0, 0), (13, .invokevirtual 136, 123, 2, 6), (16, .return_, 0, 0, 0),
  (17, .aload_n 0, 0, 0, 0), (18, .dup, 0, 0, 0), (19, .getfield 91, 4, 3, 0), (22, .iconst 1, 0, 0, 0), (23, .iadd, 0, 0, 0), (24, .putfield 91, 4, 3, 0), (27, .aload_n 0, 0, 0, 0), (28, .getfield 11, 4, 1, 0),
  (31, .aload_n 0, 0, 0, 0), (32, .getfield 91, 4, 3, 0), (35, .aaload, 0, 0, 0), (36, .aload_n 1, 0, 0, 0), (37, .aload_n 2, 0, 0, 0), (38, .iload_n 3, 0, 0, 0), (39, .iload 4, 0, 0, 0), (41, .invokevirtual 48, 116, 5, 7),
  (44, .aload_n 0, 0, 0, 0), (45, .aload_n 0, 0, 0, 0), (46, .getfield 11, 4, 1, 0), (49, .aload_n 0, 0, 0, 0), (50, .getfield 91, 4, 3, 0), (53, .aaload, 0, 0, 0), (54, .invokevirtual 52, 117, 2, 6), (57, .return_, 0, 0, 0)]
def mt_c132 : List (Nat × mmE) := [(0, .aload_n 1, 0, 0, 0), (1, .getfield 36, 7, 2, 0), (4, .iload_n 2, 0, 0, 0), (5, .invokevirtual 42, 115, 2, 13), (8, .astore_n 3, 0, 0, 0), (9, .aload_n 3, 0, 0, 0), (10, .ifnonnull 13, 0, 0, 0), (13, .aload_n 0, 0, 0, 0),
  (14, .sipush 1004, 0, 0, 0), (17, .invokevirtual 136, 123, 2, 6), (20, .goto 11, 0, 0, 0), (23, .aload_n 0, 0, 0, 0), (24, .aload_n 1, 0, 0, 0), (25, .aload_n 3, 0, 0, 0), (26, .iload_n 2, 0, 0, 0), (27, .iconst 0, 0, 0, 0),
  (28, .invokevirtual 158, 131, 5, 6), (31, .return_, 0, 0, 0)]
def mt_c133 : List (Nat × mmE) := [(0, .iload_n 1, 0, 0, 0), (1, .ifCond .lt 24, 0, 0, 0), (4, .iload_n 1, 0, 0, 0), (5, .aload_n 0, 0, 0, 0), (6, .getfield 29, 4, 0, 0), (9, .arraylength, 0, 0, 0), (10, .if_icmp .ge 15, 0, 0, 0), (13, .aload_n 0, 0, 0, 0),
  (14, .getfield 29, 4, 0, 0), (17, .iload_n 1, 0, 0, 0), (18, .aaload, 0, 0, 0), (19, .getfield 161, 7, 1, 0), (22, .ifCond .ne 13, 0, 0, 0), (25, .aload_n 0, 0, 0, 0), (26, .sipush 1003, 0, 0, 0), (29, .invokevirtual 136, 123, 2, 6),
  (32, .goto 14, 0, 0, 0), (35, .aload_n 0, 0, 0, 0), (36, .aload_n 0, 0, 0, 0), (37, .getfield 29, 4, 0, 0), (40, .iload_n 1, 0, 0, 0), (41, .aaload, 0, 0, 0), (42, .iload_n 2, 0, 0, 0), (43, .invokevirtual 142, 132, 3, 6),
  (46, .return_, 0, 0, 0)]
def mt_c134 : List (Nat × mmE) := [(0, .iload_n 1, 0, 0, 0), (1, .tableswitch 42 0 2 #[27, 32, 37], 0, 0, 0), (28, .aload_n 0, 0, 0, 0), (29, .getfield 197, 0, 11, 0), (32, .ireturn, 0, 0, 0), (33, .aload_n 0, 0, 0, 0), (34, .getfield 200, 0, 12, 0), (37, .ireturn, 0, 0, 0),
  (38, .aload_n 0, 0, 0, 0), (39, .getfield 203, 0, 13, 0), (42, .ireturn, 0, 0, 0), (43, .iconst (-1), 0, 0, 0), (44, .ireturn, 0, 0, 0)]
def mt_c135 : List (Nat × mmE) := [(0, .iload_n 1, 0, 0, 0), (1, .iconst (-1), 0, 0, 0), (2, .if_icmp .eq 20, 0, 0, 0), (5, .iload_n 1, 0, 0, 0), (6, .ifCond .lt 14, 0, 0, 0), (9, .iload_n 1, 0, 0, 0), (10, .aload_n 0, 0, 0, 0), (11, .getfield 21, 0, 1, 0),
  (14, .getfield 219, 2, 2, 0), (17, .if_icmp .lt 5, 0, 0, 0), (20, .iconst 0, 0, 0, 0), (21, .ireturn, 1, 0, 0), (22, .aload_n 0, 0, 0, 0), (23, .iload_n 1, 0, 0, 0), (24, .putfield 66, 0, 10, 0), (27, .iconst 1, 0, 0, 0),
  (28, .ireturn, 1, 0, 0)]
def mt_c136 : List (Nat × mmE) := [(0, .aload_n 0, 0, 0, 0), (1, .getfield 222, 0, 9, 0), (4, .sipush 1000, 0, 0, 0), (7, .if_icmp .lt 5, 0, 0, 0), (10, .iconst (-1), 0, 0, 0), (11, .ireturn, 0, 0, 0), (12, .aload_n 0, 0, 0, 0), (13, .dup, 0, 0, 0),
  (14, .getfield 222, 0, 9, 0), (17, .iconst 1, 0, 0, 0), (18, .iadd, 0, 0, 0), (19, .putfield 222, 0, 9, 0), (22, .aload_n 0, 0, 0, 0), (23, .getfield 46, 0, 5, 0), (26, .iconst 0, 0, 0, 0), (27, .putfield 225, 4, 13, 0),
  (30, .aload_n 0, 0, 0, 0), (31, .getfield 46, 0, 5, 0), (34, .iconst 1, 0, 0, 0), (35, .putfield 228, 4, 11, 1), (38, .iconst 0, 0, 0, 0), (39, .istore_n 1, 0, 0, 0), (40, .iload_n 1, 0, 0, 0), (41, .bipush 40, 0, 0, 0),
  (43, .if_icmp .ge 48, 0, 0, 0), (46, .aload_n 0, 0, 0, 0), (47, .getfield 31, 0, 3, 0), (50, .iload_n 1, 0, 0, 0), (51, .aload_n 0, 0, 0, 0), (52, .iload_n 1, 0, 0, 0), (53, .invokevirtual 165, 103, 2, 2), (56, .ifCond .eq 27, 0, 0, 0),
  (59, .aload_n 0, 0, 0, 0), (60, .getfield 46, 0, 5, 0), (63, .aload_n 0, 0, 0, 0), (64, .getfield 27, 0, 2, 0), (67, .iload_n 1, 0, 0, 0), (68, .aaload, 0, 0, 0), (69, .aload_n 0, 0, 0, 0), (70, .getfield 66, 0, 10, 0),
  (73, .aload_n 0, 0, 0, 0), (74, .getfield 222, 0, 9, 0), (77, .invokevirtual 206, 113, 4, 6), (80, .goto 4, 0, 0, 0), (83, .iconst 3, 0, 0, 0), (84, .iastore, 0, 0, 0), (85, .iinc 1 1, 0, 0, 0), (88, .goto (-48), 0, 0, 0),
  (91, .iconst 0, 0, 0, 0), (92, .istore_n 1, 0, 0, 0), (93, .iconst 0, 0, 0, 0), (94, .istore_n 2, 0, 0, 0), (95, .iload_n 2, 0, 0, 0), (96, .bipush 10, 0, 0, 0), (98, .if_icmp .ge 67, 0, 0, 0), (101, .aload_n 0, 0, 0, 0),
  (102, .getfield 37, 0, 4, 0), (105, .iload_n 2, 0, 0, 0), (106, .aaload, 0, 0, 0), (107, .astore_n 3, 0, 0, 0), (108, .aload_n 3, 0, 0, 0), (109, .getfield 99, 9, 2, 0), (112, .ifCond .eq 25, 0, 0, 0), (115, .aload_n 3, 0, 0, 0),
  (116, .aload_n 0, 0, 0, 0), (117, .getfield 46, 0, 5, 0), (120, .aload_n 3, 0, 0, 0), (121, .getfield 231, 9, 0, 0), (124, .invokevirtual 235, 137, 2, 6), (127, .aload_n 0, 0, 0, 0), (128, .getfield 46, 0, 5, 0), (131, .getfield 210, 4, 8, 0),
  (134, .invokevirtual 239, 138, 3, 11), (137, .iload_n 1, 0, 0, 0), (138, .aload_n 3, 0, 0, 0), (139, .getfield 99, 9, 2, 0), (142, .ifCond .eq 14, 0, 0, 0), (145, .aload_n 3, 0, 0, 0), (146, .getfield 243, 9, 3, 0), (149, .ifCond .eq 7, 0, 0, 0),
  (152, .iconst 1, 0, 0, 0), (153, .goto 4, 0, 0, 0), (156, .iconst 0, 0, 0, 0), (157, .ior, 0, 0, 0), (158, .istore_n 1, 0, 0, 0), (159, .iinc 2 1, 0, 0, 0), (162, .goto (-67), 0, 0, 0), (165, .aload_n 0, 0, 0, 0),
  (166, .getfield 46, 0, 5, 0), (169, .iconst 0, 0, 0, 0), (170, .putfield 228, 4, 11, 1), (173, .aload_n 0, 0, 0, 0), (174, .aload_n 0, 0, 0, 0), (175, .getfield 55, 0, 6, 0), (178, .aload_n 0, 0, 0, 0), (179, .getfield 62, 0, 7, 0),
  (182, .iload_n 1, 0, 0, 0), (183, .invokevirtual 246, 139, 3, 8), (186, .putfield 62, 0, 7, 2), (189, .aload_n 0, 0, 0, 0), (190, .invokevirtual 250, 165, 1, 2), (193, .aload_n 0, 0, 0, 0), (194, .getfield 222, 0, 9, 0), (197, .ireturn, 0, 0, 0)]
def mt_c137 : List (Nat × mmE) := [(0, .aload_n 0, 0, 0, 0), (1, .invokevirtual 33, 114, 1, 6), (4, .aload_n 0, 0, 0, 0), (5, .aload_n 1, 0, 0, 0), (6, .iconst 1, 0, 0, 0), (7, .invokevirtual 56, 118, 3, 6), (10, .ireturn, 0, 0, 0)]
def mt_c138 : List (Nat × mmE) := [(0, .iload_n 1, 0, 0, 0), (1, .iconst 3, 0, 0, 0), (2, .if_icmp .eq 13, 0, 0, 0), (5, .aload_n 0, 0, 0, 0), (6, .dup, 0, 0, 0), (7, .getfield 32, 9, 4, 0), (10, .iconst 1, 0, 0, 0), (11, .iadd, 0, 0, 0),
  (12, .putfield 32, 9, 4, 0), (15, .iload_n 1, 0, 0, 0), (16, .iconst 5, 0, 0, 0), (17, .if_icmp .eq 26, 0, 0, 0), (20, .aload_n 0, 0, 0, 0), (21, .iconst 0, 0, 0, 0), (22, .putfield 26, 9, 2, 1), (25, .aload_n 0, 0, 0, 0),
  (26, .iload_n 1, 0, 0, 0), (27, .putfield 36, 9, 5, 0), (30, .aload_n 0, 0, 0, 0), (31, .iload_n 1, 0, 0, 0), (32, .ifCond .ne 7, 0, 0, 0), (35, .iload_n 2, 0, 0, 0), (36, .goto 4, 0, 0, 0), (39, .iconst 0, 0, 0, 0),
  (40, .putfield 39, 9, 6, 0), (43, .return_, 0, 0, 0)]
def mt_c139 : List (Nat × mmE) := [(0, .aload_n 0, 0, 0, 0), (1, .getfield 53, 6, 5, 0), (4, .astore_n 3, 0, 0, 0), (5, .aload_n 3, 0, 0, 0), (6, .ifnonnull 5, 0, 0, 0), (9, .aload_n 1, 0, 0, 0), (10, .areturn, 0, 0, 0), (11, .iload_n 2, 0, 0, 0),
  (12, .ifCond .eq 34, 0, 0, 0), (15, .aload_n 0, 0, 0, 0), (16, .dup, 0, 0, 0), (17, .getfield 77, 6, 6, 0), (20, .iconst 1, 0, 0, 0), (21, .iadd, 0, 0, 0), (22, .putfield 77, 6, 6, 0), (25, .aload_n 0, 0, 0, 0),
  (26, .getfield 77, 6, 6, 0), (29, .bipush 8, 0, 0, 0), (31, .if_icmp .lt 13, 0, 0, 0), (34, .aload_n 3, 0, 0, 0), (35, .iconst 3, 0, 0, 0), (36, .putfield 74, 12, 1, 0), (39, .aload_n 0, 0, 0, 0), (40, .aconst_null, 0, 0, 0),
  (41, .putfield 53, 6, 5, 2), (44, .aload_n 1, 0, 0, 0), (45, .areturn, 0, 0, 0), (46, .aload_n 0, 0, 0, 0), (47, .aconst_null, 0, 0, 0), (48, .putfield 53, 6, 5, 2), (51, .aload_n 1, 0, 0, 0), (52, .invokevirtual 80, 140, 1, 10),
  (55, .astore 4, 0, 0, 0), (57, .aload_n 0, 0, 0, 0), (58, .aload_n 3, 0, 0, 0), (59, .aload_n 1, 0, 0, 0), (60, .aload 4, 0, 0, 0), (62, .invokevirtual 86, 142, 4, 8), (65, .ifCond .eq 21, 0, 0, 0), (68, .aload_n 0, 0, 0, 0),
  (69, .aload_n 3, 0, 0, 0), (70, .aload 4, 0, 0, 0), (72, .invokevirtual 90, 153, 3, 8), (75, .ifCond .eq 11, 0, 0, 0), (78, .aload_n 0, 0, 0, 0), (79, .aload_n 3, 0, 0, 0), (80, .invokevirtual 94, 164, 2, 8), (83, .ifCond .ne 10, 0, 0, 0),
  (86, .aload_n 3, 0, 0, 0), (87, .iconst 4, 0, 0, 0), (88, .putfield 74, 12, 1, 0), (91, .aload_n 1, 0, 0, 0), (92, .areturn, 0, 0, 0), (93, .iconst 0, 0, 0, 0), (94, .istore 5, 0, 0, 0), (96, .iload 5, 0, 0, 0),
  (98, .bipush 40, 0, 0, 0), (100, .if_icmp .ge 26, 0, 0, 0), (103, .aload_n 0, 0, 0, 0), (104, .getfield 40, 6, 0, 0), (107, .iload 5, 0, 0, 0), (109, .aaload, 0, 0, 0), (110, .aload_n 0, 0, 0, 0), (111, .getfield 11, 6, 2, 0),
  (114, .iload 5, 0, 0, 0), (116, .aaload, 0, 0, 0), (117, .invokevirtual 98, 154, 2, 9), (120, .iinc 5 1, 0, 0, 0), (123, .goto (-27), 0, 0, 0), (126, .aload_n 0, 0, 0, 0), (127, .dup, 0, 0, 0), (128, .getfield 64, 6, 9, 0),
  (131, .iconst 1, 0, 0, 0), (132, .iadd, 0, 0, 0), (133, .putfield 64, 6, 9, 0), (136, .aload_n 3, 0, 0, 0), (137, .iconst 2, 0, 0, 0), (138, .putfield 74, 12, 1, 0), (141, .aload_n 0, 0, 0, 0), (142, .aload_n 3, 0, 0, 0),
  (143, .putfield 57, 6, 7, 2), (146, .aload_n 0, 0, 0, 0), (147, .aload_n 1, 0, 0, 0), (148, .putfield 60, 6, 8, 2), (151, .aload 4, 0, 0, 0), (153, .areturn, 0, 0, 0)]
def mt_c140 : List (Nat × mmE) := [(0, .new 12, 8, 0, 0), (3, .dup, 0, 0, 0), (4, .invokespecial 24, 18, 1, 1), (7, .astore_n 1, 0, 0, 0), (8, .aload_n 1, 0, 0, 0), (9, .aload_n 0, 0, 0, 0), (10, .getfield 17, 8, 1, 0), (13, .putfield 17, 8, 1, 0),
  (16, .iconst 0, 0, 0, 0), (17, .istore_n 2, 0, 0, 0), (18, .iload_n 2, 0, 0, 0), (19, .aload_n 0, 0, 0, 0), (20, .getfield 17, 8, 1, 0), (23, .if_icmp .ge 24, 0, 0, 0), (26, .aload_n 1, 0, 0, 0), (27, .getfield 11, 8, 0, 0),
  (30, .iload_n 2, 0, 0, 0), (31, .aload_n 0, 0, 0, 0), (32, .getfield 11, 8, 0, 0), (35, .iload_n 2, 0, 0, 0), (36, .aaload, 0, 0, 0), (37, .invokevirtual 25, 141, 1, 13), (40, .aastore, 0, 0, 0), (41, .iinc 2 1, 0, 0, 0),
  (44, .goto (-26), 0, 0, 0), (47, .iconst 0, 0, 0, 0), (48, .istore_n 2, 0, 0, 0), (49, .iload_n 2, 0, 0, 0), (50, .aload_n 0, 0, 0, 0), (51, .getfield 17, 8, 1, 0), (54, .if_icmp .ge 44, 0, 0, 0), (57, .aload_n 0, 0, 0, 0),
  (58, .getfield 11, 8, 0, 0), (61, .iload_n 2, 0, 0, 0), (62, .aaload, 0, 0, 0), (63, .getfield 29, 11, 1, 0), (66, .astore_n 3, 0, 0, 0), (67, .aload_n 1, 0, 0, 0), (68, .getfield 11, 8, 0, 0), (71, .iload_n 2, 0, 0, 0),
  (72, .aaload, 0, 0, 0), (73, .aload_n 3, 0, 0, 0), (74, .ifnonnull 7, 0, 0, 0), (77, .aconst_null, 0, 0, 0), (78, .goto 11, 0, 0, 0), (81, .aload_n 1, 0, 0, 0), (82, .aload_n 3, 0, 0, 0), (83, .getfield 21, 11, 0, 0),
  (86, .invokevirtual 33, 47, 2, 10), (89, .putfield 29, 11, 1, 2), (92, .iinc 2 1, 0, 0, 0), (95, .goto (-46), 0, 0, 0), (98, .aload_n 1, 0, 0, 0), (99, .areturn, 0, 0, 0)]
def mt_c141 : List (Nat × mmE) := [(0, .new 10, 11, 0, 0), (3, .dup, 0, 0, 0), (4, .aload_n 0, 0, 0, 0), (5, .getfield 52, 11, 0, 0), (8, .invokespecial 56, 57, 2, 1), (11, .astore_n 1, 0, 0, 0), (12, .aload_n 1, 0, 0, 0), (13, .aload_n 0, 0, 0, 0),
  (14, .getfield 59, 11, 2, 0), (17, .putfield 59, 11, 2, 0), (20, .aload_n 1, 0, 0, 0), (21, .aload_n 0, 0, 0, 0), (22, .getfield 62, 11, 4, 0), (25, .putfield 62, 11, 4, 0), (28, .aload_n 0, 0, 0, 0), (29, .getfield 9, 11, 5, 0),
  (32, .iconst 0, 0, 0, 0), (33, .aload_n 1, 0, 0, 0), (34, .getfield 9, 11, 5, 0), (37, .iconst 0, 0, 0, 0), (38, .aload_n 0, 0, 0, 0), (39, .getfield 62, 11, 4, 0), (42, .invokestatic 65, 0, 0, 1000), (45, .aload_n 0, 0, 0, 0),
  (46, .getfield 15, 11, 6, 0), (49, .iconst 0, 0, 0, 0), (50, .aload_n 1, 0, 0, 0), (51, .getfield 15, 11, 6, 0), (54, .iconst 0, 0, 0, 0), (55, .aload_n 0, 0, 0, 0), (56, .getfield 62, 11, 4, 0), (59, .invokestatic 65, 0, 0, 1000),
  (62, .aload_n 0, 0, 0, 0), (63, .getfield 9, 11, 5, 0), (66, .iconst 0, 0, 0, 0), (67, .aload_n 1, 0, 0, 0), (68, .getfield 18, 11, 7, 0), (71, .iconst 0, 0, 0, 0), (72, .aload_n 0, 0, 0, 0), (73, .getfield 62, 11, 4, 0),
  (76, .invokestatic 65, 0, 0, 1000), (79, .aload_n 1, 0, 0, 0), (80, .aload_n 0, 0, 0, 0), (81, .getfield 71, 11, 8, 0), (84, .putfield 71, 11, 8, 0), (87, .aload_n 0, 0, 0, 0), (88, .getfield 21, 11, 9, 0), (91, .iconst 0, 0, 0, 0),
  (92, .aload_n 1, 0, 0, 0), (93, .getfield 21, 11, 9, 0), (96, .iconst 0, 0, 0, 0), (97, .aload_n 0, 0, 0, 0), (98, .getfield 71, 11, 8, 0), (101, .invokestatic 65, 0, 0, 1000), (104, .aload_n 0, 0, 0, 0), (105, .getfield 24, 11, 10, 0),
  (108, .iconst 0, 0, 0, 0), (109, .aload_n 1, 0, 0, 0), (110, .getfield 24, 11, 10, 0), (113, .iconst 0, 0, 0, 0), (114, .aload_n 0, 0, 0, 0), (115, .getfield 71, 11, 8, 0), (118, .invokestatic 65, 0, 0, 1000), (121, .aload_n 1, 0, 0, 0),
  (122, .aload_n 0, 0, 0, 0), (123, .getfield 74, 11, 11, 0), (126, .putfield 74, 11, 11, 0), (129, .aload_n 0, 0, 0, 0), (130, .getfield 27, 11, 12, 0), (133, .iconst 0, 0, 0, 0), (134, .aload_n 1, 0, 0, 0), (135, .getfield 27, 11, 12, 0),
  (138, .iconst 0, 0, 0, 0), (139, .aload_n 0, 0, 0, 0), (140, .getfield 74, 11, 11, 0), (143, .invokestatic 65, 0, 0, 1000), (146, .aload_n 0, 0, 0, 0), (147, .getfield 31, 11, 13, 0), (150, .iconst 0, 0, 0, 0), (151, .aload_n 1, 0, 0, 0),
  (152, .getfield 31, 11, 13, 0), (155, .iconst 0, 0, 0, 0), (156, .aload_n 0, 0, 0, 0), (157, .getfield 74, 11, 11, 0), (160, .invokestatic 65, 0, 0, 1000), (163, .aload_n 1, 0, 0, 0), (164, .areturn, 0, 0, 0)]
def mt_c142 : List (Nat × mmE) := [(0, .iconst 0, 0, 0, 0), (1, .istore 4, 0, 0, 0), (3, .iload 4, 0, 0, 0), (5, .aload_n 1, 0, 0, 0), (6, .getfield 102, 12, 0, 0), (9, .invokevirtual 106, 143, 1, 5), (12, .if_icmp .ge 49, 0, 0, 0), (15, .aload_n 1, 0, 0, 0),
  (16, .getfield 102, 12, 0, 0), (19, .iload 4, 0, 0, 0), (21, .invokevirtual 112, 144, 2, 5), (24, .checkcast 116, 10, 0, 0), (27, .astore 5, 0, 0, 0), (29, .aload_n 3, 0, 0, 0), (30, .aload 5, 0, 0, 0), (32, .invokevirtual 118, 147, 2, 10),
  (35, .istore 6, 0, 0, 0), (37, .iload 6, 0, 0, 0), (39, .ifCond .eq 16, 0, 0, 0), (42, .aload_n 0, 0, 0, 0), (43, .iload 6, 0, 0, 0), (45, .aload 5, 0, 0, 0), (47, .getfield 122, 10, 1, 0), (50, .iconst (-1), 0, 0, 0),
  (51, .invokevirtual 125, 151, 4, 8), (54, .ireturn, 1, 0, 0), (55, .iinc 4 1, 0, 0, 0), (58, .goto (-55), 0, 0, 0), (61, .aload_n 3, 0, 0, 0), (62, .invokevirtual 129, 152, 1, 10), (65, .ifCond .eq 12, 0, 0, 0), (68, .aload_n 0, 0, 0, 0),
  (69, .bipush 8, 0, 0, 0), (71, .iconst (-1), 0, 0, 0), (72, .iconst (-1), 0, 0, 0), (73, .invokevirtual 125, 151, 4, 8), (76, .ireturn, 1, 0, 0), (77, .aload_n 3, 0, 0, 0), (78, .aload_n 2, 0, 0, 0), (79, .aload_n 0, 0, 0, 0),
  (80, .getfield 64, 6, 9, 0), (83, .iconst 1, 0, 0, 0), (84, .iadd, 0, 0, 0), (85, .invokevirtual 132, 88, 3, 10), (88, .iconst 1, 0, 0, 0), (89, .ireturn, 1, 0, 0)]
def mt_c143 : List (Nat × mmE) := [(0, .aload_n 0, 0, 0, 0), (1, .getfield 48, 3, 1, 0), (4, .ireturn, 0, 0, 0)]
def mt_c144 : List (Nat × mmE) := [(0, .iload_n 1, 0, 0, 0), (1, .aload_n 0, 0, 0, 0), (2, .getfield 48, 3, 1, 0), (5, .invokestatic 118, 145, 2, 0), (8, .pop, 0, 0, 0), (9, .aload_n 0, 0, 0, 0), (10, .iload_n 1, 0, 0, 0), (11, .invokevirtual 123, 146, 2, 5),
  (14, .areturn, 0, 0, 0)]
def mt_c145 : List (Nat × mmE) := [(0, .iload_n 0, 0, 0, 0), (1, .iload_n 1, 0, 0, 0), (2, .aconst_null, 0, 0, 0), (3, .invokestatic 105, 8, 3, 0), (6, .ireturn, 0, 0, 0)]
def mt_c146 : List (Nat × mmE) := [(0, .aload_n 0, 0, 0, 0), (1, .getfield 9, 3, 0, 0), (4, .iload_n 1, 0, 0, 0), (5, .aaload, 0, 0, 0), (6, .areturn, 0, 0, 0)]
def mt_c147 : List (Nat × mmE) := [(0, .aload_n 1, 0, 0, 0), (1, .getfield 37, 10, 0, 0), (4, .sipush 200, 0, 0, 0), (7, .if_icmp .ne 9, 0, 0, 0), (10, .aload_n 0, 0, 0, 0), (11, .aload_n 1, 0, 0, 0), (12, .invokevirtual 42, 56, 2, 10), (15, .ireturn, 0, 0, 0),
  (16, .aload_n 0, 0, 0, 0), (17, .aload_n 1, 0, 0, 0), (18, .getfield 46, 10, 2, 0), (21, .invokevirtual 33, 47, 2, 10), (24, .astore_n 2, 0, 0, 0), (25, .aload_n 2, 0, 0, 0), (26, .ifnonnull 5, 0, 0, 0), (29, .iconst 1, 0, 0, 0),
  (30, .ireturn, 0, 0, 0), (31, .aload_n 1, 0, 0, 0), (32, .getfield 37, 10, 0, 0), (35, .tableswitch 62 216 221 #[37, 44, 50, 62, 62, 60], 0, 0, 0), (72, .aload_n 2, 0, 0, 0), (73, .iconst 1, 0, 0, 0), (74, .putfield 49, 11, 3, 1), (77, .iconst 0, 0, 0, 0),
  (78, .ireturn, 0, 0, 0), (79, .aload_n 0, 0, 0, 0), (80, .aload_n 2, 0, 0, 0), (81, .invokevirtual 53, 148, 2, 10), (84, .ireturn, 0, 0, 0), (85, .aload_n 0, 0, 0, 0), (86, .aload_n 2, 0, 0, 0), (87, .aload_n 1, 0, 0, 0),
  (88, .getfield 57, 10, 4, 0), (91, .invokevirtual 60, 149, 3, 10), (94, .ireturn, 0, 0, 0), (95, .iconst 0, 0, 0, 0), (96, .ireturn, 0, 0, 0), (97, .aload_n 2, 0, 0, 0), (98, .aload_n 1, 0, 0, 0), (99, .invokevirtual 64, 75, 2, 13),
  (102, .ireturn, 0, 0, 0)]
def mt_c148 : List (Nat × mmE) := [(0, .iconst (-1), 0, 0, 0), (1, .istore_n 2, 0, 0, 0), (2, .iconst 0, 0, 0, 0), (3, .istore_n 3, 0, 0, 0), (4, .iload_n 3, 0, 0, 0), (5, .aload_n 0, 0, 0, 0), (6, .getfield 17, 8, 1, 0), (9, .if_icmp .ge 37, 0, 0, 0),
  (12, .aload_n 0, 0, 0, 0), (13, .getfield 11, 8, 0, 0), (16, .iload_n 3, 0, 0, 0), (17, .aaload, 0, 0, 0), (18, .getfield 29, 11, 1, 0), (21, .aload_n 1, 0, 0, 0), (22, .if_acmp .ne 6, 0, 0, 0), (25, .bipush 6, 0, 0, 0),
  (27, .ireturn, 0, 0, 0), (28, .aload_n 0, 0, 0, 0), (29, .getfield 11, 8, 0, 0), (32, .iload_n 3, 0, 0, 0), (33, .aaload, 0, 0, 0), (34, .aload_n 1, 0, 0, 0), (35, .if_acmp .ne 5, 0, 0, 0), (38, .iload_n 3, 0, 0, 0),
  (39, .istore_n 2, 0, 0, 0), (40, .iinc 3 1, 0, 0, 0), (43, .goto (-39), 0, 0, 0), (46, .iload_n 2, 0, 0, 0), (47, .iconst (-1), 0, 0, 0), (48, .if_icmp .eq 46, 0, 0, 0), (51, .aload_n 0, 0, 0, 0), (52, .getfield 11, 8, 0, 0),
  (55, .iload_n 2, 0, 0, 0), (56, .iconst 1, 0, 0, 0), (57, .iadd, 0, 0, 0), (58, .aload_n 0, 0, 0, 0), (59, .getfield 11, 8, 0, 0), (62, .iload_n 2, 0, 0, 0), (63, .aload_n 0, 0, 0, 0), (64, .getfield 17, 8, 1, 0),
  (67, .iconst 1, 0, 0, 0), (68, .isub, 0, 0, 0), (69, .iload_n 2, 0, 0, 0), (70, .isub, 0, 0, 0), (71, .invokestatic 70, 0, 0, 1000), (74, .aload_n 0, 0, 0, 0), (75, .dup, 0, 0, 0), (76, .getfield 17, 8, 1, 0),
  (79, .iconst 1, 0, 0, 0), (80, .isub, 0, 0, 0), (81, .putfield 17, 8, 1, 0), (84, .aload_n 0, 0, 0, 0), (85, .getfield 11, 8, 0, 0), (88, .aload_n 0, 0, 0, 0), (89, .getfield 17, 8, 1, 0), (92, .aconst_null, 0, 0, 0),
  (93, .aastore, 0, 0, 0), (94, .iconst 0, 0, 0, 0), (95, .ireturn, 0, 0, 0)]
def mt_c149 : List (Nat × mmE) := [(0, .aload_n 0, 0, 0, 0), (1, .iload_n 2, 0, 0, 0), (2, .invokevirtual 33, 47, 2, 10), (5, .astore_n 3, 0, 0, 0), (6, .iload_n 2, 0, 0, 0), (7, .iconst (-1), 0, 0, 0), (8, .if_icmp .eq 9, 0, 0, 0), (11, .aload_n 3, 0, 0, 0),
  (12, .ifnonnull 5, 0, 0, 0), (15, .iconst 1, 0, 0, 0), (16, .ireturn, 0, 0, 0), (17, .aload_n 3, 0, 0, 0), (18, .ifnull 16, 0, 0, 0), (21, .aload_n 3, 0, 0, 0), (22, .aload_n 1, 0, 0, 0), (23, .getfield 21, 11, 0, 0),
  (26, .invokevirtual 76, 150, 2, 13), (29, .ifCond .eq 5, 0, 0, 0), (32, .iconst 5, 0, 0, 0), (33, .ireturn, 0, 0, 0), (34, .aload_n 1, 0, 0, 0), (35, .aload_n 3, 0, 0, 0), (36, .putfield 29, 11, 1, 2), (39, .aload_n 1, 0, 0, 0),
  (40, .iconst 1, 0, 0, 0), (41, .putfield 49, 11, 3, 1), (44, .iconst 0, 0, 0, 0), (45, .ireturn, 0, 0, 0)]
def mt_c150 : List (Nat × mmE) := [(0, .aload_n 0, 0, 0, 0), (1, .astore_n 2, 0, 0, 0), (2, .aload_n 2, 0, 0, 0), (3, .ifnull 21, 0, 0, 0), (6, .aload_n 2, 0, 0, 0), (7, .getfield 52, 11, 0, 0), (10, .iload_n 1, 0, 0, 0), (11, .if_icmp .ne 5, 0, 0, 0),
  (14, .iconst 1, 0, 0, 0), (15, .ireturn, 1, 0, 0), (16, .aload_n 2, 0, 0, 0), (17, .getfield 81, 11, 1, 0), (20, .astore_n 2, 0, 0, 0), (21, .goto (-19), 0, 0, 0), (24, .iconst 0, 0, 0, 0), (25, .ireturn, 1, 0, 0)]
def mt_c151 : List (Nat × mmE) := [(0, .aload_n 0, 0, 0, 0), (1, .iload_n 1, 0, 0, 0), (2, .putfield 136, 6, 10, 0), (5, .aload_n 0, 0, 0, 0), (6, .iload_n 2, 0, 0, 0), (7, .putfield 23, 6, 11, 0), (10, .aload_n 0, 0, 0, 0), (11, .iload_n 3, 0, 0, 0),
  (12, .putfield 27, 6, 12, 0), (15, .iconst 0, 0, 0, 0), (16, .ireturn, 1, 0, 0)]
def mt_c152 : List (Nat × mmE) := [(0, .iconst 0, 0, 0, 0), (1, .istore_n 1, 0, 0, 0), (2, .iload_n 1, 0, 0, 0), (3, .aload_n 0, 0, 0, 0), (4, .getfield 17, 8, 1, 0), (7, .if_icmp .ge 101, 0, 0, 0), (10, .aload_n 0, 0, 0, 0), (11, .getfield 11, 8, 0, 0),
  (14, .iload_n 1, 0, 0, 0), (15, .aaload, 0, 0, 0), (16, .astore_n 2, 0, 0, 0), (17, .aload_n 2, 0, 0, 0), (18, .getfield 29, 11, 1, 0), (21, .astore_n 3, 0, 0, 0), (22, .aload_n 3, 0, 0, 0), (23, .ifnull 79, 0, 0, 0),
  (26, .iconst 0, 0, 0, 0), (27, .istore 4, 0, 0, 0), (29, .iload 4, 0, 0, 0), (31, .aload_n 2, 0, 0, 0), (32, .getfield 80, 11, 4, 0), (35, .if_icmp .ge 25, 0, 0, 0), (38, .aload_n 3, 0, 0, 0), (39, .aload_n 2, 0, 0, 0),
  (40, .getfield 83, 11, 5, 0), (43, .iload 4, 0, 0, 0), (45, .iaload, 0, 0, 0), (46, .invokevirtual 87, 61, 2, 13), (49, .ifCond .eq 5, 0, 0, 0), (52, .iconst 1, 0, 0, 0), (53, .ireturn, 1, 0, 0), (54, .iinc 4 1, 0, 0, 0),
  (57, .goto (-28), 0, 0, 0), (60, .iconst 0, 0, 0, 0), (61, .istore 4, 0, 0, 0), (63, .iload 4, 0, 0, 0), (65, .aload_n 2, 0, 0, 0), (66, .getfield 90, 11, 8, 0), (69, .if_icmp .ge 25, 0, 0, 0), (72, .aload_n 3, 0, 0, 0),
  (73, .aload_n 2, 0, 0, 0), (74, .getfield 93, 11, 9, 0), (77, .iload 4, 0, 0, 0), (79, .iaload, 0, 0, 0), (80, .invokevirtual 87, 61, 2, 13), (83, .ifCond .eq 5, 0, 0, 0), (86, .iconst 1, 0, 0, 0), (87, .ireturn, 1, 0, 0),
  (88, .iinc 4 1, 0, 0, 0), (91, .goto (-28), 0, 0, 0), (94, .aload_n 3, 0, 0, 0), (95, .getfield 29, 11, 1, 0), (98, .astore_n 3, 0, 0, 0), (99, .goto (-77), 0, 0, 0), (102, .iinc 1 1, 0, 0, 0), (105, .goto (-103), 0, 0, 0),
  (108, .iconst 0, 0, 0, 0), (109, .ireturn, 1, 0, 0)]
def mt_c153 : List (Nat × mmE) := [(0, .iconst 0, 0, 0, 0), (1, .istore_n 3, 0, 0, 0), (2, .iload_n 3, 0, 0, 0), (3, .bipush 40, 0, 0, 0), (5, .if_icmp .ge 107, 0, 0, 0), (8, .aload_n 0, 0, 0, 0), (9, .getfield 40, 6, 0, 0), (12, .iload_n 3, 0, 0, 0),
  (13, .aaload, 0, 0, 0), (14, .astore 4, 0, 0, 0), (16, .aload_n 0, 0, 0, 0), (17, .getfield 11, 6, 2, 0), (20, .iload_n 3, 0, 0, 0), (21, .aaload, 0, 0, 0), (22, .astore 5, 0, 0, 0), (24, .aload 5, 0, 0, 0),
  (26, .aload 4, 0, 0, 0), (28, .invokevirtual 98, 154, 2, 9), (31, .aload 4, 0, 0, 0), (33, .getfield 139, 7, 1, 0), (36, .ifCond .ne 6, 0, 0, 0), (39, .goto 67, 0, 0, 0), (42, .aload_n 2, 0, 0, 0), (43, .aload 4, 0, 0, 0),
  (45, .getfield 143, 7, 2, 0), (48, .getfield 147, 11, 0, 0), (51, .invokevirtual 150, 47, 2, 10), (54, .astore 6, 0, 0, 0), (56, .aload 6, 0, 0, 0), (58, .ifnonnull 12, 0, 0, 0), (61, .aload 5, 0, 0, 0), (63, .iconst 0, 0, 0, 0),
  (64, .putfield 139, 7, 1, 1), (67, .goto 39, 0, 0, 0), (70, .aload 5, 0, 0, 0), (72, .aload 6, 0, 0, 0), (74, .putfield 143, 7, 2, 2), (77, .aload 6, 0, 0, 0), (79, .getfield 154, 11, 2, 0), (82, .aload_n 0, 0, 0, 0),
  (83, .getfield 64, 6, 9, 0), (86, .iconst 1, 0, 0, 0), (87, .iadd, 0, 0, 0), (88, .if_icmp .ne 18, 0, 0, 0), (91, .aload_n 0, 0, 0, 0), (92, .aload_n 1, 0, 0, 0), (93, .aload_n 2, 0, 0, 0), (94, .aload 4, 0, 0, 0),
  (96, .aload 5, 0, 0, 0), (98, .invokevirtual 155, 155, 5, 8), (101, .ifCond .ne 5, 0, 0, 0), (104, .iconst 0, 0, 0, 0), (105, .ireturn, 1, 0, 0), (106, .iinc 3 1, 0, 0, 0), (109, .goto (-107), 0, 0, 0), (112, .iconst 1, 0, 0, 0),
  (113, .ireturn, 1, 0, 0)]
def mt_c154 : List (Nat × mmE) := [(0, .aload_n 0, 0, 0, 0), (1, .aload_n 1, 0, 0, 0), (2, .getfield 26, 7, 1, 0), (5, .putfield 26, 7, 1, 1), (8, .aload_n 0, 0, 0, 0), (9, .aload_n 1, 0, 0, 0), (10, .getfield 30, 7, 2, 0), (13, .putfield 30, 7, 2, 2),
  (16, .aload_n 1, 0, 0, 0), (17, .getfield 9, 7, 3, 0), (20, .iconst 0, 0, 0, 0), (21, .aload_n 0, 0, 0, 0), (22, .getfield 9, 7, 3, 0), (25, .iconst 0, 0, 0, 0), (26, .bipush 40, 0, 0, 0), (28, .invokestatic 48, 0, 0, 1000),
  (31, .aload_n 1, 0, 0, 0), (32, .getfield 15, 7, 4, 0), (35, .iconst 0, 0, 0, 0), (36, .aload_n 0, 0, 0, 0), (37, .getfield 15, 7, 4, 0), (40, .iconst 0, 0, 0, 0), (41, .bipush 40, 0, 0, 0), (43, .invokestatic 48, 0, 0, 1000),
  (46, .aload_n 1, 0, 0, 0), (47, .getfield 19, 7, 5, 0), (50, .iconst 0, 0, 0, 0), (51, .aload_n 0, 0, 0, 0), (52, .getfield 19, 7, 5, 0), (55, .iconst 0, 0, 0, 0), (56, .bipush 40, 0, 0, 0), (58, .invokestatic 48, 0, 0, 1000),
  (61, .return_, 0, 0, 0)]
def mt_c155 : List (Nat × mmE) := [(0, .aload_n 0, 0, 0, 0), (1, .getfield 36, 6, 14, 0), (4, .iconst (-1), 0, 0, 0), (5, .invokestatic 159, 156, 2, 0), (8, .aload_n 0, 0, 0, 0), (9, .aload 4, 0, 0, 0), (11, .getfield 143, 7, 2, 0), (14, .invokevirtual 165, 157, 2, 8),
  (17, .iconst 1, 0, 0, 0), (18, .isub, 0, 0, 0), (19, .istore 5, 0, 0, 0), (21, .iload 5, 0, 0, 0), (23, .ifCond .lt 173, 0, 0, 0), (26, .aload_n 0, 0, 0, 0), (27, .getfield 32, 6, 13, 0), (30, .iload 5, 0, 0, 0),
  (32, .aaload, 0, 0, 0), (33, .astore 6, 0, 0, 0), (35, .iconst 0, 0, 0, 0), (36, .istore 7, 0, 0, 0), (38, .iload 7, 0, 0, 0), (40, .aload 6, 0, 0, 0), (42, .getfield 169, 11, 4, 0), (45, .if_icmp .ge 145, 0, 0, 0),
  (48, .aload 6, 0, 0, 0), (50, .getfield 172, 11, 5, 0), (53, .iload 7, 0, 0, 0), (55, .iaload, 0, 0, 0), (56, .istore 8, 0, 0, 0), (58, .aload_n 2, 0, 0, 0), (59, .aload 6, 0, 0, 0), (61, .iload 7, 0, 0, 0),
  (63, .aload_n 3, 0, 0, 0), (64, .getfield 143, 7, 2, 0), (67, .invokevirtual 175, 158, 4, 10), (70, .istore 9, 0, 0, 0), (72, .aload 4, 0, 0, 0), (74, .getfield 179, 7, 3, 0), (77, .iload 8, 0, 0, 0), (79, .iload 9, 0, 0, 0),
  (81, .iconst (-1), 0, 0, 0), (82, .if_icmp .ne 14, 0, 0, 0), (85, .aload 6, 0, 0, 0), (87, .getfield 182, 11, 6, 0), (90, .iload 7, 0, 0, 0), (92, .iaload, 0, 0, 0), (93, .goto 10, 0, 0, 0), (96, .aload_n 3, 0, 0, 0),
  (97, .getfield 179, 7, 3, 0), (100, .iload 9, 0, 0, 0), (102, .iaload, 0, 0, 0), (103, .iastore, 0, 0, 0), (104, .iload 9, 0, 0, 0), (106, .iconst (-1), 0, 0, 0), (107, .if_icmp .eq 12, 0, 0, 0), (110, .aload_n 0, 0, 0, 0),
  (111, .getfield 36, 6, 14, 0), (114, .iload 9, 0, 0, 0), (116, .iload 8, 0, 0, 0), (118, .iastore, 0, 0, 0), (119, .aload_n 1, 0, 0, 0), (120, .aload 4, 0, 0, 0), (122, .getfield 143, 7, 2, 0), (125, .iload 8, 0, 0, 0),
  (127, .invokevirtual 185, 160, 3, 14), (130, .astore 10, 0, 0, 0), (132, .aload 10, 0, 0, 0), (134, .ifnull 50, 0, 0, 0), (137, .aload_n 0, 0, 0, 0), (138, .getfield 43, 6, 1, 0), (141, .aload_n 3, 0, 0, 0), (142, .aload 10, 0, 0, 0),
  (144, .getfield 189, 10, 5, 0), (147, .invokevirtual 192, 161, 3, 6), (150, .ifCond .ne 19, 0, 0, 0), (153, .aload_n 0, 0, 0, 0), (154, .bipush 9, 0, 0, 0), (156, .aload 10, 0, 0, 0), (158, .getfield 122, 10, 1, 0), (161, .aload_n 3, 0, 0, 0),
  (162, .getfield 198, 7, 0, 0), (165, .invokevirtual 125, 151, 4, 8), (168, .ireturn, 1, 0, 0), (169, .aload 4, 0, 0, 0), (171, .getfield 179, 7, 3, 0), (174, .iload 8, 0, 0, 0), (176, .aload_n 0, 0, 0, 0), (177, .getfield 43, 6, 1, 0),
  (180, .getfield 201, 4, 8, 0), (183, .iastore, 0, 0, 0), (184, .iinc 7 1, 0, 0, 0), (187, .goto (-149), 0, 0, 0), (190, .iinc 5 (-1), 0, 0, 0), (193, .goto (-172), 0, 0, 0), (196, .aload_n 0, 0, 0, 0), (197, .aload_n 3, 0, 0, 0),
  (198, .aload 4, 0, 0, 0), (200, .invokevirtual 204, 163, 3, 8), (203, .iconst 1, 0, 0, 0), (204, .ireturn, 1, 0, 0)]
def mt_c156 : List (Nat × mmE) := [(0, .iconst 0, 0, 0, 0), (1, .istore_n 2, 0, 0, 0), (2, .aload_n 0, 0, 0, 0), (3, .arraylength, 0, 0, 0), (4, .istore_n 3, 0, 0, 0), (5, .iload_n 2, 0, 0, 0), (6, .iload_n 3, 0, 0, 0), (7, .if_icmp .ge 13, 0, 0, 0),
  (10, .aload_n 0, 0, 0, 0), (11, .iload_n 2, 0, 0, 0), (12, .iload_n 1, 0, 0, 0), (13, .iastore, 0, 0, 0), (14, .iinc 2 1, 0, 0, 0), (17, .goto (-12), 0, 0, 0), (20, .return_, 0, 0, 0)]
def mt_c157 : List (Nat × mmE) := [(0, .iconst 0, 0, 0, 0), (1, .istore_n 2, 0, 0, 0), (2, .aload_n 1, 0, 0, 0), (3, .astore_n 3, 0, 0, 0), (4, .aload_n 3, 0, 0, 0), (5, .ifnull 27, 0, 0, 0), (8, .iload_n 2, 0, 0, 0), (9, .bipush 12, 0, 0, 0),
  (11, .if_icmp .ge 21, 0, 0, 0), (14, .aload_n 0, 0, 0, 0), (15, .getfield 32, 6, 13, 0), (18, .iload_n 2, 0, 0, 0), (19, .aload_n 3, 0, 0, 0), (20, .aastore, 0, 0, 0), (21, .iinc 2 1, 0, 0, 0), (24, .aload_n 3, 0, 0, 0),
  (25, .getfield 215, 11, 1, 0), (28, .astore_n 3, 0, 0, 0), (29, .goto (-25), 0, 0, 0), (32, .iload_n 2, 0, 0, 0), (33, .ireturn, 0, 0, 0)]
def mt_c158 : List (Nat × mmE) := [(0, .aload_n 1, 0, 0, 0), (1, .getfield 113, 11, 7, 0), (4, .iload_n 2, 0, 0, 0), (5, .iaload, 0, 0, 0), (6, .istore 4, 0, 0, 0), (8, .iload 4, 0, 0, 0), (10, .iconst (-1), 0, 0, 0), (11, .if_icmp .eq 17, 0, 0, 0),
  (14, .aload_n 3, 0, 0, 0), (15, .aload_n 1, 0, 0, 0), (16, .getfield 21, 11, 0, 0), (19, .invokevirtual 76, 150, 2, 13), (22, .ifCond .eq 6, 0, 0, 0), (25, .iload 4, 0, 0, 0), (27, .ireturn, 0, 0, 0), (28, .aload_n 1, 0, 0, 0),
  (29, .getfield 83, 11, 5, 0), (32, .iload_n 2, 0, 0, 0), (33, .iaload, 0, 0, 0), (34, .istore 5, 0, 0, 0), (36, .aload_n 3, 0, 0, 0), (37, .iload 5, 0, 0, 0), (39, .invokevirtual 116, 159, 2, 13), (42, .astore 6, 0, 0, 0),
  (44, .aload 6, 0, 0, 0), (46, .ifnull 15, 0, 0, 0), (49, .aload 6, 0, 0, 0), (51, .getfield 21, 11, 0, 0), (54, .aload_n 1, 0, 0, 0), (55, .getfield 21, 11, 0, 0), (58, .if_icmp .ne 5, 0, 0, 0), (61, .iconst (-1), 0, 0, 0),
  (62, .ireturn, 0, 0, 0), (63, .aload_n 0, 0, 0, 0), (64, .aload 6, 0, 0, 0), (66, .getfield 21, 11, 0, 0), (69, .invokevirtual 33, 47, 2, 10), (72, .astore 7, 0, 0, 0), (74, .aload 7, 0, 0, 0), (76, .ifnonnull 7, 0, 0, 0),
  (79, .iconst (-1), 0, 0, 0), (80, .goto 10, 0, 0, 0), (83, .aload 7, 0, 0, 0), (85, .iload 5, 0, 0, 0), (87, .invokevirtual 119, 80, 2, 13), (90, .istore 8, 0, 0, 0), (92, .iload 8, 0, 0, 0), (94, .iconst (-1), 0, 0, 0),
  (95, .if_icmp .eq 21, 0, 0, 0), (98, .aload 7, 0, 0, 0), (100, .getfield 113, 11, 7, 0), (103, .iload 8, 0, 0, 0), (105, .iaload, 0, 0, 0), (106, .iload 5, 0, 0, 0), (108, .if_icmp .ne 8, 0, 0, 0), (111, .iload 5, 0, 0, 0),
  (113, .goto 4, 0, 0, 0), (116, .iconst (-1), 0, 0, 0), (117, .ireturn, 0, 0, 0)]
def mt_c159 : List (Nat × mmE) := [(0, .aload_n 0, 0, 0, 0), (1, .astore_n 2, 0, 0, 0), (2, .aload_n 2, 0, 0, 0), (3, .ifnull 29, 0, 0, 0), (6, .aload_n 2, 0, 0, 0), (7, .getfield 9, 11, 5, 0), (10, .aload_n 2, 0, 0, 0), (11, .getfield 62, 11, 4, 0),
  (14, .iload_n 1, 0, 0, 0), (15, .invokestatic 77, 29, 3, 0), (18, .iconst (-1), 0, 0, 0), (19, .if_icmp .eq 5, 0, 0, 0), (22, .aload_n 2, 0, 0, 0), (23, .areturn, 0, 0, 0), (24, .aload_n 2, 0, 0, 0), (25, .getfield 81, 11, 1, 0),
  (28, .astore_n 2, 0, 0, 0), (29, .goto (-27), 0, 0, 0), (32, .aconst_null, 0, 0, 0), (33, .areturn, 0, 0, 0)]
def mt_c160 : List (Nat × mmE) := [(0, .aload_n 0, 0, 0, 0), (1, .getfield 15, 12, 0, 0), (4, .invokevirtual 19, 143, 1, 5), (7, .iconst 1, 0, 0, 0), (8, .isub, 0, 0, 0), (9, .istore_n 3, 0, 0, 0), (10, .iload_n 3, 0, 0, 0), (11, .ifCond .lt 57, 0, 0, 0),
  (14, .aload_n 0, 0, 0, 0), (15, .getfield 15, 12, 0, 0), (18, .iload_n 3, 0, 0, 0), (19, .invokevirtual 25, 144, 2, 5), (22, .checkcast 29, 10, 0, 0), (25, .astore 4, 0, 0, 0), (27, .aload 4, 0, 0, 0), (29, .getfield 31, 10, 0, 0),
  (32, .sipush 220, 0, 0, 0), (35, .if_icmp .ne 27, 0, 0, 0), (38, .aload 4, 0, 0, 0), (40, .getfield 34, 10, 3, 0), (43, .iload_n 2, 0, 0, 0), (44, .if_icmp .ne 18, 0, 0, 0), (47, .aload_n 1, 0, 0, 0), (48, .aload 4, 0, 0, 0),
  (50, .getfield 37, 10, 2, 0), (53, .invokevirtual 40, 150, 2, 13), (56, .ifCond .eq 6, 0, 0, 0), (59, .aload 4, 0, 0, 0), (61, .areturn, 0, 0, 0), (62, .iinc 3 (-1), 0, 0, 0), (65, .goto (-55), 0, 0, 0), (68, .aconst_null, 0, 0, 0),
  (69, .areturn, 0, 0, 0)]
def mt_c161 : List (Nat × mmE) := [(0, .aload_n 0, 0, 0, 0), (1, .getfield 18, 4, 2, 0), (4, .aload_n 1, 0, 0, 0), (5, .aload_n 2, 0, 0, 0), (6, .invokevirtual 70, 162, 3, 7), (9, .aload_n 0, 0, 0, 0), (10, .iconst 0, 0, 0, 0), (11, .putfield 74, 4, 5, 0),
  (14, .aload_n 0, 0, 0, 0), (15, .iconst (-1), 0, 0, 0), (16, .putfield 77, 4, 7, 0), (19, .iconst 1, 0, 0, 0), (20, .istore_n 3, 0, 0, 0), (21, .iconst 0, 0, 0, 0), (22, .istore 4, 0, 0, 0), (24, .iload 4, 0, 0, 0),
  (26, .sipush 4000, 0, 0, 0), (29, .if_icmp .ge 45, 0, 0, 0), (32, .iload_n 3, 0, 0, 0), (33, .ifCond .eq 41, 0, 0, 0), (36, .aload_n 0, 0, 0, 0), (37, .aload_n 0, 0, 0, 0), (38, .getfield 18, 4, 2, 0), (41, .aload_n 0, 0, 0, 0),
  (42, .getfield 18, 4, 2, 0), (45, .invokevirtual 80, 119, 1, 7), (48, .invokevirtual 84, 120, 3, 6), (51, .ifCond .eq 15, 0, 0, 0), (54, .aload_n 0, 0, 0, 0), (55, .getfield 77, 4, 7, 0), (58, .iconst (-1), 0, 0, 0), (59, .if_icmp .ne 7, 0, 0, 0),
  (62, .iconst 1, 0, 0, 0), (63, .goto 4, 0, 0, 0), (66, .iconst 0, 0, 0, 0), (67, .istore_n 3, 0, 0, 0), (68, .iinc 4 1, 0, 0, 0), (71, .goto (-47), 0, 0, 0), (74, .aload_n 0, 0, 0, 0), (75, .aload_n 0, 0, 0, 0),
  (76, .invokevirtual 88, 124, 1, 6), (79, .putfield 60, 4, 8, 0), (82, .aload_n 0, 0, 0, 0), (83, .getfield 77, 4, 7, 0), (86, .iconst (-1), 0, 0, 0), (87, .if_icmp .ne 7, 0, 0, 0), (90, .iconst 1, 0, 0, 0), (91, .goto 4, 0, 0, 0),
  (94, .iconst 0, 0, 0, 0), (95, .ireturn, 1, 0, 0)]
def mt_c162 : List (Nat × mmE) := [(0, .aload_n 0, 0, 0, 0), (1, .aload_n 1, 0, 0, 0), (2, .putfield 9, 5, 0, 2), (5, .aload_n 0, 0, 0, 0), (6, .aload_n 2, 0, 0, 0), (7, .putfield 33, 5, 3, 2), (10, .aload_n 0, 0, 0, 0), (11, .iconst 0, 0, 0, 0),
  (12, .putfield 36, 5, 4, 0), (15, .aload_n 0, 0, 0, 0), (16, .iconst 0, 0, 0, 0), (17, .putfield 39, 5, 5, 0), (20, .aload_n 0, 0, 0, 0), (21, .iconst 0, 0, 0, 0), (22, .putfield 42, 5, 6, 0), (25, .return_, 0, 0, 0)]
def mt_c163 : List (Nat × mmE) := [(0, .aload_n 1, 0, 0, 0), (1, .getfield 143, 7, 2, 0), (4, .astore_n 3, 0, 0, 0), (5, .aload_n 3, 0, 0, 0), (6, .ifnull 71, 0, 0, 0), (9, .iconst 0, 0, 0, 0), (10, .istore 4, 0, 0, 0), (12, .iload 4, 0, 0, 0),
  (14, .aload_n 3, 0, 0, 0), (15, .getfield 169, 11, 4, 0), (18, .if_icmp .ge 51, 0, 0, 0), (21, .aload_n 3, 0, 0, 0), (22, .getfield 172, 11, 5, 0), (25, .iload 4, 0, 0, 0), (27, .iaload, 0, 0, 0), (28, .istore 5, 0, 0, 0),
  (30, .aload_n 0, 0, 0, 0), (31, .getfield 36, 6, 14, 0), (34, .iload 5, 0, 0, 0), (36, .iaload, 0, 0, 0), (37, .iconst (-1), 0, 0, 0), (38, .if_icmp .ne 25, 0, 0, 0), (41, .aload_n 2, 0, 0, 0), (42, .getfield 208, 7, 4, 0),
  (45, .iload 5, 0, 0, 0), (47, .iconst 1, 0, 0, 0), (48, .bastore, 0, 0, 0), (49, .aload_n 2, 0, 0, 0), (50, .getfield 212, 7, 5, 0), (53, .iload 5, 0, 0, 0), (55, .aload_n 1, 0, 0, 0), (56, .getfield 179, 7, 3, 0),
  (59, .iload 5, 0, 0, 0), (61, .iaload, 0, 0, 0), (62, .iastore, 0, 0, 0), (63, .iinc 4 1, 0, 0, 0), (66, .goto (-54), 0, 0, 0), (69, .aload_n 3, 0, 0, 0), (70, .getfield 215, 11, 1, 0), (73, .astore_n 3, 0, 0, 0),
  (74, .goto (-69), 0, 0, 0), (77, .return_, 0, 0, 0)]
def mt_c164 : List (Nat × mmE) := [(0, .iconst 0, 0, 0, 0), (1, .istore_n 2, 0, 0, 0), (2, .iload_n 2, 0, 0, 0), (3, .aload_n 1, 0, 0, 0), (4, .getfield 102, 12, 0, 0), (7, .invokevirtual 106, 143, 1, 5), (10, .if_icmp .ge 130, 0, 0, 0), (13, .aload_n 1, 0, 0, 0),
  (14, .getfield 102, 12, 0, 0), (17, .iload_n 2, 0, 0, 0), (18, .invokevirtual 112, 144, 2, 5), (21, .checkcast 116, 10, 0, 0), (24, .astore_n 3, 0, 0, 0), (25, .iconst 0, 0, 0, 0), (26, .istore 4, 0, 0, 0), (28, .aload_n 3, 0, 0, 0),
  (29, .getfield 218, 10, 0, 0), (32, .sipush 221, 0, 0, 0), (35, .if_icmp .ne 99, 0, 0, 0), (38, .iload 4, 0, 0, 0), (40, .bipush 40, 0, 0, 0), (42, .if_icmp .ge 92, 0, 0, 0), (45, .aload_n 0, 0, 0, 0), (46, .getfield 11, 6, 2, 0),
  (49, .iload 4, 0, 0, 0), (51, .aaload, 0, 0, 0), (52, .astore 5, 0, 0, 0), (54, .aload 5, 0, 0, 0), (56, .getfield 139, 7, 1, 0), (59, .ifCond .eq 22, 0, 0, 0), (62, .aload 5, 0, 0, 0), (64, .getfield 143, 7, 2, 0),
  (67, .aload_n 3, 0, 0, 0), (68, .getfield 221, 10, 2, 0), (71, .invokevirtual 223, 150, 2, 13), (74, .ifCond .eq 7, 0, 0, 0), (77, .iconst 1, 0, 0, 0), (78, .goto 4, 0, 0, 0), (81, .iconst 0, 0, 0, 0), (82, .istore 6, 0, 0, 0),
  (84, .iload 6, 0, 0, 0), (86, .ifCond .eq 42, 0, 0, 0), (89, .aload_n 0, 0, 0, 0), (90, .getfield 43, 6, 1, 0), (93, .aload 5, 0, 0, 0), (95, .aload_n 3, 0, 0, 0), (96, .getfield 189, 10, 5, 0), (99, .invokevirtual 192, 161, 3, 6),
  (102, .ifCond .eq 13, 0, 0, 0), (105, .aload_n 0, 0, 0, 0), (106, .getfield 43, 6, 1, 0), (109, .getfield 201, 4, 8, 0), (112, .ifCond .ne 16, 0, 0, 0), (115, .aload_n 0, 0, 0, 0), (116, .bipush 10, 0, 0, 0), (118, .aload_n 3, 0, 0, 0),
  (119, .getfield 122, 10, 1, 0), (122, .iload 4, 0, 0, 0), (124, .invokevirtual 125, 151, 4, 8), (127, .ireturn, 1, 0, 0), (128, .iinc 4 1, 0, 0, 0), (131, .goto (-103), 0, 0, 0), (134, .iinc 2 1, 0, 0, 0), (137, .goto (-135), 0, 0, 0),
  (140, .iconst 1, 0, 0, 0), (141, .ireturn, 1, 0, 0)]
def mt_c165 : List (Nat × mmE) := [(0, .iconst 0, 0, 0, 0), (1, .istore_n 1, 0, 0, 0), (2, .iload_n 1, 0, 0, 0), (3, .bipush 10, 0, 0, 0), (5, .if_icmp .ge 42, 0, 0, 0), (8, .aload_n 0, 0, 0, 0), (9, .getfield 37, 0, 4, 0), (12, .iload_n 1, 0, 0, 0),
  (13, .aaload, 0, 0, 0), (14, .astore_n 2, 0, 0, 0), (15, .aload_n 2, 0, 0, 0), (16, .getfield 99, 9, 2, 0), (19, .ifCond .eq 22, 0, 0, 0), (22, .aload_n 2, 0, 0, 0), (23, .getfield 231, 9, 0, 0), (26, .getfield 298, 5, 0, 0),
  (29, .getfield 92, 7, 1, 0), (32, .ifCond .ne 9, 0, 0, 0), (35, .aload_n 2, 0, 0, 0), (36, .iconst 3, 0, 0, 0), (37, .iconst 0, 0, 0, 0), (38, .invokevirtual 239, 138, 3, 11), (41, .iinc 1 1, 0, 0, 0), (44, .goto (-42), 0, 0, 0),
  (47, .return_, 0, 0, 0)]
def mt_c166 : List (Nat × mmE) := [(0, .aload_n 0, 0, 0, 0), (1, .getfield 222, 0, 9, 0), (4, .ifCond .eq 15, 0, 0, 0), (7, .iload_n 1, 0, 0, 0), (8, .ifCond .lt 11, 0, 0, 0), (11, .iload_n 1, 0, 0, 0), (12, .aload_n 0, 0, 0, 0), (13, .getfield 102, 0, 8, 0),
  (16, .if_icmp .lt 7, 0, 0, 0), (19, .iconst (-1), 0, 0, 0), (20, .goto 9, 0, 0, 0), (23, .aload_n 0, 0, 0, 0), (24, .getfield 31, 0, 3, 0), (27, .iload_n 1, 0, 0, 0), (28, .iaload, 0, 0, 0), (29, .ireturn, 0, 0, 0)]
def mt_c167 : List (Nat × mmE) := [(0, .iload_n 1, 0, 0, 0), (1, .ifCond .lt 23, 0, 0, 0), (4, .iload_n 1, 0, 0, 0), (5, .aload_n 0, 0, 0, 0), (6, .getfield 46, 0, 5, 0), (9, .getfield 225, 4, 13, 0), (12, .if_icmp .ge 12, 0, 0, 0), (15, .iload_n 2, 0, 0, 0),
  (16, .ifCond .lt 8, 0, 0, 0), (19, .iload_n 2, 0, 0, 0), (20, .iconst 4, 0, 0, 0), (21, .if_icmp .lt 5, 0, 0, 0), (24, .iconst (-1), 0, 0, 0), (25, .ireturn, 0, 0, 0), (26, .aload_n 0, 0, 0, 0), (27, .getfield 46, 0, 5, 0),
  (30, .getfield 253, 4, 12, 0), (33, .iload_n 1, 0, 0, 0), (34, .iconst 4, 0, 0, 0), (35, .imul, 0, 0, 0), (36, .iload_n 2, 0, 0, 0), (37, .iadd, 0, 0, 0), (38, .iaload, 0, 0, 0), (39, .ireturn, 0, 0, 0)]
def mt_c168 : List (Nat × mmE) := [(0, .aload_n 0, 0, 0, 0), (1, .iload_n 1, 0, 0, 0), (2, .invokevirtual 165, 103, 2, 2), (5, .ifCond .eq 19, 0, 0, 0), (8, .aload_n 0, 0, 0, 0), (9, .getfield 27, 0, 2, 0), (12, .iload_n 1, 0, 0, 0), (13, .aaload, 0, 0, 0),
  (14, .getfield 169, 7, 2, 0), (17, .iload_n 2, 0, 0, 0), (18, .invokevirtual 256, 115, 2, 13), (21, .goto 4, 0, 0, 0), (24, .aconst_null, 0, 0, 0), (25, .astore 4, 0, 0, 0), (27, .aload 4, 0, 0, 0), (29, .ifnonnull 5, 0, 0, 0),
  (32, .iconst (-1), 0, 0, 0), (33, .ireturn, 0, 0, 0), (34, .iconst 0, 0, 0, 0), (35, .istore 5, 0, 0, 0), (37, .iload 5, 0, 0, 0), (39, .bipush 10, 0, 0, 0), (41, .if_icmp .ge 45, 0, 0, 0), (44, .aload_n 0, 0, 0, 0),
  (45, .getfield 37, 0, 4, 0), (48, .iload 5, 0, 0, 0), (50, .aaload, 0, 0, 0), (51, .getfield 99, 9, 2, 0), (54, .ifCond .ne 26, 0, 0, 0), (57, .aload_n 0, 0, 0, 0), (58, .getfield 37, 0, 4, 0), (61, .iload 5, 0, 0, 0),
  (63, .aaload, 0, 0, 0), (64, .aload_n 0, 0, 0, 0), (65, .getfield 27, 0, 2, 0), (68, .iload_n 1, 0, 0, 0), (69, .aaload, 0, 0, 0), (70, .aload 4, 0, 0, 0), (72, .iload_n 2, 0, 0, 0), (73, .iload_n 3, 0, 0, 0),
  (74, .invokevirtual 259, 169, 5, 11), (77, .iload 5, 0, 0, 0), (79, .ireturn, 0, 0, 0), (80, .iinc 5 1, 0, 0, 0), (83, .goto (-46), 0, 0, 0), (86, .iconst (-1), 0, 0, 0), (87, .ireturn, 0, 0, 0)]
def mt_c169 : List (Nat × mmE) := [(0, .aload_n 0, 0, 0, 0), (1, .getfield 12, 9, 0, 0), (4, .aload_n 1, 0, 0, 0), (5, .aload_n 2, 0, 0, 0), (6, .iload_n 3, 0, 0, 0), (7, .iload 4, 0, 0, 0), (9, .invokevirtual 18, 116, 5, 7), (12, .aload_n 0, 0, 0, 0),
  (13, .iconst 1, 0, 0, 0), (14, .putfield 22, 9, 1, 1), (17, .aload_n 0, 0, 0, 0), (18, .iconst 1, 0, 0, 0), (19, .putfield 26, 9, 2, 1), (22, .aload_n 0, 0, 0, 0), (23, .iconst 0, 0, 0, 0), (24, .putfield 29, 9, 3, 1),
  (27, .aload_n 0, 0, 0, 0), (28, .iconst 0, 0, 0, 0), (29, .putfield 32, 9, 4, 0), (32, .aload_n 0, 0, 0, 0), (33, .iconst 0, 0, 0, 0), (34, .putfield 36, 9, 5, 0), (37, .aload_n 0, 0, 0, 0), (38, .iconst 0, 0, 0, 0),
  (39, .putfield 39, 9, 6, 0), (42, .return_, 0, 0, 0)]
def mt_c170 : List (Nat × mmE) := [(0, .iload_n 1, 0, 0, 0), (1, .ifCond .lt 21, 0, 0, 0), (4, .iload_n 1, 0, 0, 0), (5, .bipush 10, 0, 0, 0), (7, .if_icmp .ge 15, 0, 0, 0), (10, .aload_n 0, 0, 0, 0), (11, .getfield 37, 0, 4, 0), (14, .iload_n 1, 0, 0, 0),
  (15, .aaload, 0, 0, 0), (16, .getfield 96, 9, 1, 0), (19, .ifCond .ne 5, 0, 0, 0), (22, .iconst (-1), 0, 0, 0), (23, .ireturn, 0, 0, 0), (24, .aload_n 0, 0, 0, 0), (25, .getfield 37, 0, 4, 0), (28, .iload_n 1, 0, 0, 0),
  (29, .aaload, 0, 0, 0), (30, .iload_n 2, 0, 0, 0), (31, .invokevirtual 263, 171, 2, 11), (34, .ireturn, 0, 0, 0)]
def mt_c171 : List (Nat × mmE) := [(0, .iload_n 1, 0, 0, 0), (1, .tableswitch 91 0 5 #[39, 52, 57, 62, 73, 86], 0, 0, 0), (40, .aload_n 0, 0, 0, 0), (41, .getfield 26, 9, 2, 0), (44, .ifCond .eq 7, 0, 0, 0), (47, .iconst 1, 0, 0, 0), (48, .goto 4, 0, 0, 0), (51, .iconst 0, 0, 0, 0),
  (52, .ireturn, 0, 0, 0), (53, .aload_n 0, 0, 0, 0), (54, .getfield 32, 9, 4, 0), (57, .ireturn, 0, 0, 0), (58, .aload_n 0, 0, 0, 0), (59, .getfield 36, 9, 5, 0), (62, .ireturn, 0, 0, 0), (63, .aload_n 0, 0, 0, 0),
  (64, .getfield 12, 9, 0, 0), (67, .getfield 42, 5, 1, 0), (70, .getfield 46, 11, 2, 0), (73, .ireturn, 0, 0, 0), (74, .aload_n 0, 0, 0, 0), (75, .getfield 29, 9, 3, 0), (78, .ifCond .eq 7, 0, 0, 0), (81, .iconst 1, 0, 0, 0),
  (82, .goto 4, 0, 0, 0), (85, .iconst 0, 0, 0, 0), (86, .ireturn, 0, 0, 0), (87, .aload_n 0, 0, 0, 0), (88, .getfield 39, 9, 6, 0), (91, .ireturn, 0, 0, 0), (92, .iconst (-1), 0, 0, 0), (93, .ireturn, 0, 0, 0)]
def mt_c172 : List (Nat × mmE) := [(0, .iload_n 1, 0, 0, 0), (1, .ifCond .lt 21, 0, 0, 0), (4, .iload_n 1, 0, 0, 0), (5, .bipush 10, 0, 0, 0), (7, .if_icmp .ge 15, 0, 0, 0), (10, .aload_n 0, 0, 0, 0), (11, .getfield 37, 0, 4, 0), (14, .iload_n 1, 0, 0, 0),
  (15, .aaload, 0, 0, 0), (16, .getfield 99, 9, 2, 0), (19, .ifCond .ne 5, 0, 0, 0), (22, .iconst 0, 0, 0, 0), (23, .ireturn, 1, 0, 0), (24, .aload_n 0, 0, 0, 0), (25, .getfield 37, 0, 4, 0), (28, .iload_n 1, 0, 0, 0),
  (29, .aaload, 0, 0, 0), (30, .iload_n 2, 0, 0, 0), (31, .putfield 243, 9, 3, 1), (34, .iconst 1, 0, 0, 0), (35, .ireturn, 1, 0, 0)]
def mt_c173 : List (Nat × mmE) := [(0, .aload_n 0, 0, 0, 0), (1, .getfield 55, 0, 6, 0), (4, .iload_n 1, 0, 0, 0), (5, .invokevirtual 267, 174, 2, 8), (8, .ireturn, 1, 0, 0)]
def mt_c174 : List (Nat × mmE) := [(0, .iload_n 1, 0, 0, 0), (1, .ifCond .lt 18, 0, 0, 0), (4, .iload_n 1, 0, 0, 0), (5, .aload_n 0, 0, 0, 0), (6, .getfield 50, 6, 4, 0), (9, .if_icmp .ge 10, 0, 0, 0), (12, .aload_n 0, 0, 0, 0), (13, .getfield 53, 6, 5, 0),
  (16, .ifnull 5, 0, 0, 0), (19, .iconst 0, 0, 0, 0), (20, .ireturn, 1, 0, 0), (21, .aload_n 0, 0, 0, 0), (22, .aload_n 0, 0, 0, 0), (23, .getfield 19, 6, 3, 0), (26, .iload_n 1, 0, 0, 0), (27, .aaload, 0, 0, 0),
  (28, .putfield 53, 6, 5, 2), (31, .aload_n 0, 0, 0, 0), (32, .getfield 53, 6, 5, 0), (35, .iconst 1, 0, 0, 0), (36, .putfield 74, 12, 1, 0), (39, .aload_n 0, 0, 0, 0), (40, .iconst 0, 0, 0, 0), (41, .putfield 77, 6, 6, 0),
  (44, .iconst 1, 0, 0, 0), (45, .ireturn, 1, 0, 0)]
def mt_c175 : List (Nat × mmE) := [(0, .iload_n 1, 0, 0, 0), (1, .ifCond .lt 14, 0, 0, 0), (4, .iload_n 1, 0, 0, 0), (5, .aload_n 0, 0, 0, 0), (6, .getfield 55, 0, 6, 0), (9, .getfield 270, 6, 4, 0), (12, .if_icmp .lt 7, 0, 0, 0), (15, .iconst (-1), 0, 0, 0),
  (16, .goto 15, 0, 0, 0), (19, .aload_n 0, 0, 0, 0), (20, .getfield 55, 0, 6, 0), (23, .getfield 273, 6, 3, 0), (26, .iload_n 1, 0, 0, 0), (27, .aaload, 0, 0, 0), (28, .getfield 277, 12, 1, 0), (31, .ireturn, 0, 0, 0)]
def mt_c176 : List (Nat × mmE) := [(0, .iload_n 1, 0, 0, 0), (1, .tableswitch 51 0 2 #[27, 35, 43], 0, 0, 0), (28, .aload_n 0, 0, 0, 0), (29, .getfield 55, 0, 6, 0), (32, .getfield 282, 6, 10, 0), (35, .ireturn, 0, 0, 0), (36, .aload_n 0, 0, 0, 0), (37, .getfield 55, 0, 6, 0),
  (40, .getfield 285, 6, 11, 0), (43, .ireturn, 0, 0, 0), (44, .aload_n 0, 0, 0, 0), (45, .getfield 55, 0, 6, 0), (48, .getfield 288, 6, 12, 0), (51, .ireturn, 0, 0, 0), (52, .iconst (-1), 0, 0, 0), (53, .ireturn, 0, 0, 0)]
def mt_c177 : List (Nat × mmE) := [(0, .aload_n 0, 0, 0, 0), (1, .getfield 55, 0, 6, 0), (4, .invokevirtual 291, 178, 1, 8), (7, .ifCond .ne 5, 0, 0, 0), (10, .iconst 0, 0, 0, 0), (11, .ireturn, 1, 0, 0), (12, .aload_n 0, 0, 0, 0), (13, .aload_n 0, 0, 0, 0),
  (14, .getfield 55, 0, 6, 0), (17, .aload_n 0, 0, 0, 0), (18, .getfield 62, 0, 7, 0), (21, .invokevirtual 294, 179, 2, 8), (24, .putfield 62, 0, 7, 2), (27, .aload_n 0, 0, 0, 0), (28, .invokevirtual 250, 165, 1, 2), (31, .iconst 1, 0, 0, 0),
  (32, .ireturn, 1, 0, 0)]
def mt_c178 : List (Nat × mmE) := [(0, .aload_n 0, 0, 0, 0), (1, .getfield 57, 6, 7, 0), (4, .ifnull 21, 0, 0, 0), (7, .aload_n 0, 0, 0, 0), (8, .getfield 60, 6, 8, 0), (11, .ifnull 14, 0, 0, 0), (14, .aload_n 0, 0, 0, 0), (15, .getfield 53, 6, 5, 0),
  (18, .ifnonnull 7, 0, 0, 0), (21, .iconst 1, 0, 0, 0), (22, .goto 4, 0, 0, 0), (25, .iconst 0, 0, 0, 0), (26, .ireturn, 1, 0, 0)]
def mt_c179 : List (Nat × mmE) := [(0, .aload_n 0, 0, 0, 0), (1, .getfield 60, 6, 8, 0), (4, .astore_n 2, 0, 0, 0), (5, .aload_n 2, 0, 0, 0), (6, .aload_n 1, 0, 0, 0), (7, .invokevirtual 227, 90, 2, 10), (10, .iconst 0, 0, 0, 0), (11, .istore_n 3, 0, 0, 0),
  (12, .iload_n 3, 0, 0, 0), (13, .bipush 40, 0, 0, 0), (15, .if_icmp .ge 97, 0, 0, 0), (18, .aload_n 0, 0, 0, 0), (19, .getfield 40, 6, 0, 0), (22, .iload_n 3, 0, 0, 0), (23, .aaload, 0, 0, 0), (24, .astore 4, 0, 0, 0),
  (26, .aload 4, 0, 0, 0), (28, .getfield 139, 7, 1, 0), (31, .ifCond .eq 18, 0, 0, 0), (34, .aload_n 2, 0, 0, 0), (35, .aload 4, 0, 0, 0), (37, .getfield 143, 7, 2, 0), (40, .getfield 147, 11, 0, 0), (43, .invokevirtual 150, 47, 2, 10),
  (46, .goto 4, 0, 0, 0), (49, .aconst_null, 0, 0, 0), (50, .astore 5, 0, 0, 0), (52, .aload 5, 0, 0, 0), (54, .ifnonnull 12, 0, 0, 0), (57, .aload 4, 0, 0, 0), (59, .iconst 0, 0, 0, 0), (60, .putfield 139, 7, 1, 1),
  (63, .goto 43, 0, 0, 0), (66, .aload 4, 0, 0, 0), (68, .getfield 143, 7, 2, 0), (71, .getfield 154, 11, 2, 0), (74, .aload_n 0, 0, 0, 0), (75, .getfield 64, 6, 9, 0), (78, .if_icmp .ne 21, 0, 0, 0), (81, .aload_n 0, 0, 0, 0),
  (82, .aload 4, 0, 0, 0), (84, .aload_n 0, 0, 0, 0), (85, .getfield 11, 6, 2, 0), (88, .iload_n 3, 0, 0, 0), (89, .aaload, 0, 0, 0), (90, .aload 5, 0, 0, 0), (92, .aload_n 1, 0, 0, 0), (93, .invokevirtual 231, 180, 5, 8),
  (96, .goto 10, 0, 0, 0), (99, .aload 4, 0, 0, 0), (101, .aload 5, 0, 0, 0), (103, .putfield 143, 7, 2, 2), (106, .iinc 3 1, 0, 0, 0), (109, .goto (-97), 0, 0, 0), (112, .aload_n 0, 0, 0, 0), (113, .getfield 57, 6, 7, 0),
  (116, .iconst 5, 0, 0, 0), (117, .putfield 74, 12, 1, 0), (120, .aload_n 0, 0, 0, 0), (121, .aconst_null, 0, 0, 0), (122, .putfield 57, 6, 7, 2), (125, .aload_n 0, 0, 0, 0), (126, .aconst_null, 0, 0, 0), (127, .putfield 60, 6, 8, 2),
  (130, .aload_n 2, 0, 0, 0), (131, .areturn, 0, 0, 0)]
def mt_c180 : List (Nat × mmE) := [(0, .aload_n 2, 0, 0, 0), (1, .aload_n 1, 0, 0, 0), (2, .invokevirtual 98, 154, 2, 9), (5, .aload_n 2, 0, 0, 0), (6, .aload_n 3, 0, 0, 0), (7, .putfield 143, 7, 2, 2), (10, .aload_n 0, 0, 0, 0), (11, .getfield 36, 6, 14, 0),
  (14, .iconst (-1), 0, 0, 0), (15, .invokestatic 159, 156, 2, 0), (18, .aload_n 1, 0, 0, 0), (19, .getfield 143, 7, 2, 0), (22, .astore 5, 0, 0, 0), (24, .aload 5, 0, 0, 0), (26, .ifnull 65, 0, 0, 0), (29, .iconst 0, 0, 0, 0),
  (30, .istore 6, 0, 0, 0), (32, .iload 6, 0, 0, 0), (34, .aload 5, 0, 0, 0), (36, .getfield 169, 11, 4, 0), (39, .if_icmp .ge 42, 0, 0, 0), (42, .aload 4, 0, 0, 0), (44, .aload 5, 0, 0, 0), (46, .iload 6, 0, 0, 0),
  (48, .aload_n 3, 0, 0, 0), (49, .invokevirtual 175, 158, 4, 10), (52, .istore 7, 0, 0, 0), (54, .iload 7, 0, 0, 0), (56, .iconst (-1), 0, 0, 0), (57, .if_icmp .eq 18, 0, 0, 0), (60, .aload_n 0, 0, 0, 0), (61, .getfield 36, 6, 14, 0),
  (64, .iload 7, 0, 0, 0), (66, .aload 5, 0, 0, 0), (68, .getfield 172, 11, 5, 0), (71, .iload 6, 0, 0, 0), (73, .iaload, 0, 0, 0), (74, .iastore, 0, 0, 0), (75, .iinc 6 1, 0, 0, 0), (78, .goto (-46), 0, 0, 0),
  (81, .aload 5, 0, 0, 0), (83, .getfield 215, 11, 1, 0), (86, .astore 5, 0, 0, 0), (88, .goto (-64), 0, 0, 0), (91, .aload_n 3, 0, 0, 0), (92, .astore 5, 0, 0, 0), (94, .aload 5, 0, 0, 0), (96, .ifnull 110, 0, 0, 0),
  (99, .iconst 0, 0, 0, 0), (100, .istore 6, 0, 0, 0), (102, .iload 6, 0, 0, 0), (104, .aload 5, 0, 0, 0), (106, .getfield 169, 11, 4, 0), (109, .if_icmp .ge 87, 0, 0, 0), (112, .aload 5, 0, 0, 0), (114, .getfield 172, 11, 5, 0),
  (117, .iload 6, 0, 0, 0), (119, .iaload, 0, 0, 0), (120, .istore 7, 0, 0, 0), (122, .aload_n 0, 0, 0, 0), (123, .getfield 36, 6, 14, 0), (126, .iload 7, 0, 0, 0), (128, .iaload, 0, 0, 0), (129, .iconst (-1), 0, 0, 0),
  (130, .if_icmp .eq 25, 0, 0, 0), (133, .aload_n 2, 0, 0, 0), (134, .getfield 179, 7, 3, 0), (137, .iload 7, 0, 0, 0), (139, .aload_n 1, 0, 0, 0), (140, .getfield 179, 7, 3, 0), (143, .aload_n 0, 0, 0, 0), (144, .getfield 36, 6, 14, 0),
  (147, .iload 7, 0, 0, 0), (149, .iaload, 0, 0, 0), (150, .iaload, 0, 0, 0), (151, .iastore, 0, 0, 0), (152, .goto 38, 0, 0, 0), (155, .aload_n 2, 0, 0, 0), (156, .getfield 179, 7, 3, 0), (159, .iload 7, 0, 0, 0),
  (161, .aload_n 1, 0, 0, 0), (162, .getfield 208, 7, 4, 0), (165, .iload 7, 0, 0, 0), (167, .baload, 0, 0, 0), (168, .ifCond .eq 13, 0, 0, 0), (171, .aload_n 1, 0, 0, 0), (172, .getfield 212, 7, 5, 0), (175, .iload 7, 0, 0, 0),
  (177, .iaload, 0, 0, 0), (178, .goto 11, 0, 0, 0), (181, .aload 5, 0, 0, 0), (183, .getfield 182, 11, 6, 0), (186, .iload 6, 0, 0, 0), (188, .iaload, 0, 0, 0), (189, .iastore, 0, 0, 0), (190, .iinc 6 1, 0, 0, 0),
  (193, .goto (-91), 0, 0, 0), (196, .aload 5, 0, 0, 0), (198, .getfield 215, 11, 1, 0), (201, .astore 5, 0, 0, 0), (203, .goto (-109), 0, 0, 0), (206, .aload_n 1, 0, 0, 0), (207, .aload_n 2, 0, 0, 0), (208, .invokevirtual 98, 154, 2, 9),
  (211, .return_, 0, 0, 0)]
def mt_c181 : List (Nat × mmE) := [(0, .lconst 0, 0, 0, 0), (1, .lstore_n 2, 0, 0, 0), (2, .iconst 0, 0, 0, 0), (3, .istore 4, 0, 0, 0), (5, .iload 4, 0, 0, 0), (7, .aload_n 0, 0, 0, 0), (8, .getfield 102, 0, 8, 0), (11, .if_icmp .ge 51, 0, 0, 0),
  (14, .aload_n 0, 0, 0, 0), (15, .iload 4, 0, 0, 0), (17, .invokevirtual 165, 103, 2, 2), (20, .ifCond .eq 36, 0, 0, 0), (23, .aload_n 0, 0, 0, 0), (24, .getfield 27, 0, 2, 0), (27, .iload 4, 0, 0, 0), (29, .aaload, 0, 0, 0),
  (30, .getfield 169, 7, 2, 0), (33, .iload_n 1, 0, 0, 0), (34, .invokevirtual 172, 106, 2, 13), (37, .ifCond .eq 19, 0, 0, 0), (40, .lload_n 2, 0, 0, 0), (41, .aload_n 0, 0, 0, 0), (42, .getfield 27, 0, 2, 0), (45, .iload 4, 0, 0, 0),
  (47, .aaload, 0, 0, 0), (48, .getfield 178, 7, 3, 0), (51, .iload_n 1, 0, 0, 0), (52, .iaload, 0, 0, 0), (53, .i2l, 0, 0, 0), (54, .ladd, 0, 0, 0), (55, .lstore_n 2, 0, 0, 0), (56, .iinc 4 1, 0, 0, 0),
  (59, .goto (-54), 0, 0, 0), (62, .lload_n 2, 0, 0, 0), (63, .lreturn, 0, 0, 0)]
def mt_c182 : List (Nat × mmE) := [(0, .aload_n 0, 0, 0, 0), (1, .invokespecial 1, 0, 0, 1003), (4, .aload_n 0, 0, 0, 0), (5, .sipush 1000, 0, 0, 0), (8, .newarray .int, 0, 0, 0), (10, .putfield 7, 13, 0, 2), (13, .aload_n 0, 0, 0, 0), (14, .bipush 40, 0, 0, 0),
  (16, .newarray .long, 3, 0, 0), (18, .putfield 13, 13, 6, 2), (21, .aload_n 0, 0, 0, 0), (22, .bipush 22, 0, 0, 0), (24, .newarray .long, 3, 0, 0), (26, .putfield 17, 13, 8, 2), (29, .aload_n 0, 0, 0, 0), (30, .iconst (-1), 0, 0, 0),
  (31, .putfield 20, 13, 14, 0), (34, .aload_n 0, 0, 0, 0), (35, .ldc 24, 0, 48000, 0), (37, .newarray .int, 0, 0, 0), (39, .putfield 25, 13, 15, 2), (42, .aload_n 0, 0, 0, 0), (43, .sipush 2307, 0, 0, 0), (46, .newarray .int, 0, 0, 0),
  (48, .putfield 28, 13, 23, 2), (51, .aload_n 0, 0, 0, 0), (52, .iconst (-1), 0, 0, 0), (53, .putfield 31, 13, 28, 0), (56, .aload_n 0, 0, 0, 0), (57, .iconst (-1), 0, 0, 0), (58, .putfield 34, 13, 29, 0), (61, .aload_n 0, 0, 0, 0),
  (62, .iconst (-1), 0, 0, 0), (63, .putfield 37, 13, 30, 0), (66, .aload_n 0, 0, 0, 0), (67, .bipush 6, 0, 0, 0), (69, .newarray .int, 0, 0, 0), (71, .putfield 40, 13, 31, 2), (74, .aload_n 0, 0, 0, 0), (75, .bipush 6, 0, 0, 0),
  (77, .newarray .int, 0, 0, 0), (79, .putfield 43, 13, 32, 2), (82, .aload_n 0, 0, 0, 0), (83, .bipush 40, 0, 0, 0), (85, .newarray .boolean, 1, 0, 0), (87, .putfield 46, 13, 34, 2), (90, .aload_n 0, 0, 0, 0), (91, .bipush 40, 0, 0, 0),
  (93, .newarray .int, 0, 0, 0), (95, .putfield 50, 13, 35, 2), (98, .aload_n 0, 0, 0, 0), (99, .sipush 1600, 0, 0, 0), (102, .newarray .int, 0, 0, 0), (104, .putfield 53, 13, 36, 2), (107, .aload_n 0, 0, 0, 0), (108, .sipush 1600, 0, 0, 0),
  (111, .newarray .int, 0, 0, 0), (113, .putfield 56, 13, 37, 2), (116, .aload_n 0, 0, 0, 0), (117, .sipush 1600, 0, 0, 0), (120, .newarray .boolean, 1, 0, 0), (122, .putfield 59, 13, 38, 2), (125, .aload_n 0, 0, 0, 0), (126, .bipush 21, 0, 0, 0),
  (128, .newarray .int, 0, 0, 0), (130, .putfield 62, 13, 43, 2), (133, .aload_n 0, 0, 0, 0), (134, .bipush 21, 0, 0, 0), (136, .newarray .int, 0, 0, 0), (138, .putfield 65, 13, 44, 2), (141, .aload_n 0, 0, 0, 0), (142, .bipush 21, 0, 0, 0),
  (144, .newarray .int, 0, 0, 0), (146, .putfield 68, 13, 45, 2), (149, .aload_n 0, 0, 0, 0), (150, .bipush 21, 0, 0, 0), (152, .newarray .int, 0, 0, 0), (154, .putfield 71, 13, 46, 2), (157, .aload_n 0, 0, 0, 0), (158, .bipush 21, 0, 0, 0),
  (160, .newarray .int, 0, 0, 0), (162, .putfield 74, 13, 47, 2), (165, .aload_n 0, 0, 0, 0), (166, .bipush 21, 0, 0, 0), (168, .newarray .int, 0, 0, 0), (170, .putfield 77, 13, 48, 2), (173, .aload_n 0, 0, 0, 0), (174, .sipush 252, 0, 0, 0),
  (177, .newarray .int, 0, 0, 0), (179, .putfield 80, 13, 49, 2), (182, .aload_n 0, 0, 0, 0), (183, .sipush 252, 0, 0, 0), (186, .newarray .int, 0, 0, 0), (188, .putfield 83, 13, 50, 2), (191, .aload_n 0, 0, 0, 0), (192, .sipush 252, 0, 0, 0),
  (195, .newarray .int, 0, 0, 0), (197, .putfield 86, 13, 51, 2), (200, .aload_n 0, 0, 0, 0), (201, .sipush 1200, 0, 0, 0), (204, .newarray .int, 0, 0, 0), (206, .putfield 89, 13, 53, 2), (209, .aload_n 0, 0, 0, 0), (210, .bipush 40, 0, 0, 0),
  (212, .newarray .int, 0, 0, 0), (214, .putfield 92, 13, 61, 2), (217, .aload_n 0, 0, 0, 0), (218, .bipush 50, 0, 0, 0), (220, .newarray .int, 0, 0, 0), (222, .putfield 95, 13, 62, 2), (225, .aload_n 0, 0, 0, 0), (226, .bipush 50, 0, 0, 0),
  (228, .newarray .int, 0, 0, 0), (230, .putfield 98, 13, 63, 2), (233, .aload_n 0, 0, 0, 0), (234, .bipush 50, 0, 0, 0), (236, .newarray .int, 0, 0, 0), (238, .putfield 101, 13, 64, 2), (241, .aload_n 0, 0, 0, 0), (242, .bipush 50, 0, 0, 0),
  (244, .newarray .int, 0, 0, 0), (246, .putfield 104, 13, 65, 2), (249, .aload_n 0, 0, 0, 0), (250, .bipush 10, 0, 0, 0), (252, .newarray .boolean, 1, 0, 0), (254, .putfield 107, 13, 67, 2), (257, .aload_n 0, 0, 0, 0), (258, .bipush 10, 0, 0, 0),
  (260, .newarray .boolean, 1, 0, 0), (262, .putfield 110, 13, 68, 2), (265, .aload_n 0, 0, 0, 0), (266, .bipush 10, 0, 0, 0), (268, .newarray .boolean, 1, 0, 0), (270, .putfield 113, 13, 69, 2), (273, .aload_n 0, 0, 0, 0), (274, .bipush 10, 0, 0, 0),
  (276, .newarray .int, 0, 0, 0), (278, .putfield 116, 13, 70, 2), (281, .aload_n 0, 0, 0, 0), (282, .bipush 10, 0, 0, 0), (284, .newarray .int, 0, 0, 0), (286, .putfield 119, 13, 71, 2), (289, .aload_n 0, 0, 0, 0), (290, .bipush 10, 0, 0, 0),
  (292, .newarray .int, 0, 0, 0), (294, .putfield 122, 13, 72, 2), (297, .aload_n 0, 0, 0, 0), (298, .bipush 10, 0, 0, 0), (300, .newarray .int, 0, 0, 0), (302, .putfield 125, 13, 73, 2), (305, .aload_n 0, 0, 0, 0), (306, .bipush 10, 0, 0, 0),
  (308, .newarray .int, 0, 0, 0), (310, .putfield 128, 13, 74, 2), (313, .aload_n 0, 0, 0, 0), (314, .bipush 10, 0, 0, 0), (316, .newarray .int, 0, 0, 0), (318, .putfield 131, 13, 75, 2), (321, .aload_n 0, 0, 0, 0), (322, .bipush 10, 0, 0, 0),
  (324, .newarray .int, 0, 0, 0), (326, .putfield 134, 13, 76, 2), (329, .aload_n 0, 0, 0, 0), (330, .bipush 10, 0, 0, 0), (332, .newarray .int, 0, 0, 0), (334, .putfield 137, 13, 77, 2), (337, .aload_n 0, 0, 0, 0), (338, .bipush 10, 0, 0, 0),
  (340, .newarray .int, 0, 0, 0), (342, .putfield 140, 13, 78, 2), (345, .aload_n 0, 0, 0, 0), (346, .bipush 120, 0, 0, 0), (348, .newarray .int, 0, 0, 0), (350, .putfield 143, 13, 79, 2), (353, .aload_n 0, 0, 0, 0), (354, .bipush 120, 0, 0, 0),
  (356, .newarray .int, 0, 0, 0), (358, .putfield 146, 13, 80, 2), (361, .aload_n 0, 0, 0, 0), (362, .bipush 120, 0, 0, 0), (364, .newarray .int, 0, 0, 0), (366, .putfield 149, 13, 81, 2), (369, .aload_n 0, 0, 0, 0), (370, .iconst (-1), 0, 0, 0),
  (371, .putfield 152, 13, 83, 0), (374, .aload_n 0, 0, 0, 0), (375, .iconst (-1), 0, 0, 0), (376, .putfield 155, 13, 84, 0), (379, .aload_n 0, 0, 0, 0), (380, .sipush 1600, 0, 0, 0), (383, .newarray .int, 0, 0, 0), (385, .putfield 158, 13, 85, 2),
  (388, .aload_n 0, 0, 0, 0), (389, .sipush 1600, 0, 0, 0), (392, .newarray .int, 0, 0, 0), (394, .putfield 161, 13, 86, 2), (397, .aload_n 0, 0, 0, 0), (398, .sipush 1600, 0, 0, 0), (401, .newarray .int, 0, 0, 0), (403, .putfield 164, 13, 87, 2),
  (406, .aload_n 0, 0, 0, 0), (407, .sipush 1600, 0, 0, 0), (410, .newarray .boolean, 1, 0, 0), (412, .putfield 167, 13, 88, 2), (415, .aload_n 0, 0, 0, 0), (416, .sipush 1600, 0, 0, 0), (419, .newarray .boolean, 1, 0, 0), (421, .putfield 170, 13, 89, 2),
  (424, .aload_n 0, 0, 0, 0), (425, .bipush 40, 0, 0, 0), (427, .newarray .int, 0, 0, 0), (429, .putfield 173, 13, 90, 2), (432, .aload_n 0, 0, 0, 0), (433, .bipush 40, 0, 0, 0), (435, .newarray .int, 0, 0, 0), (437, .putfield 176, 13, 91, 2),
  (440, .aload_n 0, 0, 0, 0), (441, .bipush 40, 0, 0, 0), (443, .newarray .int, 0, 0, 0), (445, .putfield 179, 13, 92, 2), (448, .aload_n 0, 0, 0, 0), (449, .bipush 40, 0, 0, 0), (451, .newarray .int, 0, 0, 0), (453, .putfield 182, 13, 93, 2),
  (456, .aload_n 0, 0, 0, 0), (457, .sipush 769, 0, 0, 0), (460, .newarray .int, 0, 0, 0), (462, .putfield 185, 13, 94, 2), (465, .return_, 0, 0, 0)]
def mt_c183 : List (Nat × mmE) := [(0, .aload_n 0, 0, 0, 0), (1, .invokevirtual 378, 184, 1, 15), (4, .aload_n 0, 0, 0, 0), (5, .getfield 28, 13, 23, 0), (8, .sipush 769, 0, 0, 0), (11, .iconst 0, 0, 0, 0), (12, .iastore, 0, 0, 0), (13, .aload_n 0, 0, 0, 0),
  (14, .invokevirtual 381, 193, 1, 15), (17, .istore_n 1, 0, 0, 0), (18, .iload_n 1, 0, 0, 0), (19, .ifCond .eq 18, 0, 0, 0), (22, .aload_n 0, 0, 0, 0), (23, .getfield 217, 13, 3, 0), (26, .ifCond .eq 11, 0, 0, 0), (29, .aload_n 0, 0, 0, 0),
  (30, .invokevirtual 381, 193, 1, 15), (33, .istore_n 1, 0, 0, 0), (34, .goto (-16), 0, 0, 0), (37, .aload_n 0, 0, 0, 0), (38, .invokevirtual 384, 224, 1, 15), (41, .iload_n 1, 0, 0, 0), (42, .ifCond .ne 5, 0, 0, 0), (45, .iconst (-1), 0, 0, 0),
  (46, .ireturn, 0, 0, 0), (47, .aload_n 0, 0, 0, 0), (48, .iconst 0, 0, 0, 0), (49, .invokevirtual 387, 225, 2, 15), (52, .aload_n 0, 0, 0, 0), (53, .iconst 1, 0, 0, 0), (54, .iconst 0, 0, 0, 0), (55, .invokevirtual 391, 226, 3, 15),
  (58, .aload_n 0, 0, 0, 0), (59, .iconst 0, 0, 0, 0), (60, .putfield 394, 13, 33, 0), (63, .aload_n 0, 0, 0, 0), (64, .iconst 0, 0, 0, 0), (65, .putfield 397, 13, 25, 0), (68, .aload_n 0, 0, 0, 0), (69, .iconst (-1), 0, 0, 0),
  (70, .putfield 31, 13, 28, 0), (73, .aload_n 0, 0, 0, 0), (74, .iconst (-1), 0, 0, 0), (75, .putfield 34, 13, 29, 0), (78, .aload_n 0, 0, 0, 0), (79, .iconst (-1), 0, 0, 0), (80, .putfield 37, 13, 30, 0), (83, .aload_n 0, 0, 0, 0),
  (84, .iconst 0, 0, 0, 0), (85, .putfield 400, 13, 27, 0), (88, .iconst 0, 0, 0, 0), (89, .istore_n 2, 0, 0, 0), (90, .iload_n 2, 0, 0, 0), (91, .bipush 10, 0, 0, 0), (93, .if_icmp .ge 23, 0, 0, 0), (96, .aload_n 0, 0, 0, 0),
  (97, .getfield 107, 13, 67, 0), (100, .iload_n 2, 0, 0, 0), (101, .iconst 0, 0, 0, 0), (102, .bastore, 0, 0, 0), (103, .aload_n 0, 0, 0, 0), (104, .getfield 110, 13, 68, 0), (107, .iload_n 2, 0, 0, 0), (108, .iconst 0, 0, 0, 0),
  (109, .bastore, 0, 0, 0), (110, .iinc 2 1, 0, 0, 0), (113, .goto (-23), 0, 0, 0), (116, .aload_n 0, 0, 0, 0), (117, .iconst 0, 0, 0, 0), (118, .invokevirtual 321, 198, 2, 15), (121, .ireturn, 0, 0, 0)]
def mt_c184 : List (Nat × mmE) := [(0, .aload_n 0, 0, 0, 0), (1, .invokevirtual 371, 185, 1, 15), (4, .aload_n 0, 0, 0, 0), (5, .iconst 0, 0, 0, 0), (6, .putfield 238, 13, 11, 0), (9, .aload_n 0, 0, 0, 0), (10, .iconst (-1), 0, 0, 0), (11, .putfield 241, 13, 12, 0),
  (14, .aload_n 0, 0, 0, 0), (15, .iconst 0, 0, 0, 0), (16, .putfield 207, 13, 2, 0), (19, .aload_n 0, 0, 0, 0), (20, .iconst 0, 0, 0, 0), (21, .putfield 244, 13, 16, 0), (24, .aload_n 0, 0, 0, 0), (25, .iconst 0, 0, 0, 0),
  (26, .putfield 266, 13, 18, 0), (29, .aload_n 0, 0, 0, 0), (30, .iconst 0, 0, 0, 0), (31, .putfield 312, 13, 20, 0), (34, .aload_n 0, 0, 0, 0), (35, .invokevirtual 257, 188, 1, 15), (38, .return_, 0, 0, 0)]
def mt_c185 : List (Nat × mmE) := [(0, .aload_n 0, 0, 0, 0), (1, .getfield 199, 13, 9, 0), (4, .ifCond .eq 4, 0, 0, 0), (7, .return_, 0, 0, 0), (8, .aload_n 0, 0, 0, 0), (9, .iconst 1, 0, 0, 0), (10, .putfield 199, 13, 9, 1), (13, .aload_n 0, 0, 0, 0),
  (14, .bipush 100, 0, 0, 0), (16, .bipush 107, 0, 0, 0), (18, .bipush 105, 0, 0, 0), (20, .bipush 110, 0, 0, 0), (22, .bipush 100, 0, 0, 0), (24, .iconst 0, 0, 0, 0), (25, .iconst 0, 0, 0, 0), (26, .invokevirtual 203, 186, 8, 15),
  (29, .aload_n 0, 0, 0, 0), (30, .bipush 101, 0, 0, 0), (32, .bipush 117, 0, 0, 0), (34, .bipush 110, 0, 0, 0), (36, .bipush 100, 0, 0, 0), (38, .bipush 101, 0, 0, 0), (40, .bipush 114, 0, 0, 0), (42, .iconst 0, 0, 0, 0),
  (43, .invokevirtual 203, 186, 8, 15), (46, .aload_n 0, 0, 0, 0), (47, .bipush 102, 0, 0, 0), (49, .bipush 102, 0, 0, 0), (51, .bipush 105, 0, 0, 0), (53, .bipush 101, 0, 0, 0), (55, .bipush 108, 0, 0, 0), (57, .bipush 100, 0, 0, 0),
  (59, .iconst 0, 0, 0, 0), (60, .invokevirtual 203, 186, 8, 15), (63, .aload_n 0, 0, 0, 0), (64, .bipush 103, 0, 0, 0), (66, .bipush 108, 0, 0, 0), (68, .bipush 105, 0, 0, 0), (70, .bipush 110, 0, 0, 0), (72, .bipush 107, 0, 0, 0),
  (74, .iconst 0, 0, 0, 0), (75, .iconst 0, 0, 0, 0), (76, .invokevirtual 203, 186, 8, 15), (79, .aload_n 0, 0, 0, 0), (80, .bipush 104, 0, 0, 0), (82, .bipush 115, 0, 0, 0), (84, .bipush 116, 0, 0, 0), (86, .bipush 97, 0, 0, 0),
  (88, .bipush 116, 0, 0, 0), (90, .bipush 105, 0, 0, 0), (92, .bipush 99, 0, 0, 0), (94, .invokevirtual 203, 186, 8, 15), (97, .aload_n 0, 0, 0, 0), (98, .bipush 105, 0, 0, 0), (100, .bipush 97, 0, 0, 0), (102, .bipush 99, 0, 0, 0),
  (104, .bipush 116, 0, 0, 0), (106, .iconst 0, 0, 0, 0), (107, .iconst 0, 0, 0, 0), (108, .iconst 0, 0, 0, 0), (109, .invokevirtual 203, 186, 8, 15), (112, .aload_n 0, 0, 0, 0), (113, .bipush 106, 0, 0, 0), (115, .bipush 103, 0, 0, 0),
  (117, .bipush 105, 0, 0, 0), (119, .bipush 118, 0, 0, 0), (121, .bipush 101, 0, 0, 0), (123, .iconst 0, 0, 0, 0), (124, .iconst 0, 0, 0, 0), (125, .invokevirtual 203, 186, 8, 15), (128, .aload_n 0, 0, 0, 0), (129, .bipush 107, 0, 0, 0),
  (131, .bipush 102, 0, 0, 0), (133, .bipush 97, 0, 0, 0), (135, .bipush 105, 0, 0, 0), (137, .bipush 108, 0, 0, 0), (139, .iconst 0, 0, 0, 0), (140, .iconst 0, 0, 0, 0), (141, .invokevirtual 203, 186, 8, 15), (144, .aload_n 0, 0, 0, 0),
  (145, .bipush 108, 0, 0, 0), (147, .bipush 97, 0, 0, 0), (149, .bipush 98, 0, 0, 0), (151, .bipush 111, 0, 0, 0), (153, .bipush 118, 0, 0, 0), (155, .bipush 101, 0, 0, 0), (157, .iconst 0, 0, 0, 0), (158, .invokevirtual 203, 186, 8, 15),
  (161, .aload_n 0, 0, 0, 0), (162, .bipush 109, 0, 0, 0), (164, .bipush 100, 0, 0, 0), (166, .bipush 111, 0, 0, 0), (168, .iconst 0, 0, 0, 0), (169, .iconst 0, 0, 0, 0), (170, .iconst 0, 0, 0, 0), (171, .iconst 0, 0, 0, 0),
  (172, .invokevirtual 203, 186, 8, 15), (175, .aload_n 0, 0, 0, 0), (176, .bipush 110, 0, 0, 0), (178, .bipush 115, 0, 0, 0), (180, .bipush 101, 0, 0, 0), (182, .bipush 110, 0, 0, 0), (184, .bipush 100, 0, 0, 0), (186, .iconst 0, 0, 0, 0),
  (187, .iconst 0, 0, 0, 0), (188, .invokevirtual 203, 186, 8, 15), (191, .aload_n 0, 0, 0, 0), (192, .bipush 111, 0, 0, 0), (194, .bipush 114, 0, 0, 0), (196, .bipush 101, 0, 0, 0), (198, .bipush 115, 0, 0, 0), (200, .bipush 116, 0, 0, 0),
  (202, .iconst 0, 0, 0, 0), (203, .iconst 0, 0, 0, 0), (204, .invokevirtual 203, 186, 8, 15), (207, .aload_n 0, 0, 0, 0), (208, .bipush 112, 0, 0, 0), (210, .bipush 105, 0, 0, 0), (212, .bipush 102, 0, 0, 0), (214, .iconst 0, 0, 0, 0),
  (215, .iconst 0, 0, 0, 0), (216, .iconst 0, 0, 0, 0), (217, .iconst 0, 0, 0, 0), (218, .invokevirtual 203, 186, 8, 15), (221, .aload_n 0, 0, 0, 0), (222, .bipush 113, 0, 0, 0), (224, .bipush 101, 0, 0, 0), (226, .bipush 108, 0, 0, 0),
  (228, .bipush 115, 0, 0, 0), (230, .bipush 101, 0, 0, 0), (232, .iconst 0, 0, 0, 0), (233, .iconst 0, 0, 0, 0), (234, .invokevirtual 203, 186, 8, 15), (237, .aload_n 0, 0, 0, 0), (238, .bipush 114, 0, 0, 0), (240, .bipush 118, 0, 0, 0),
  (242, .iconst 0, 0, 0, 0), (243, .iconst 0, 0, 0, 0), (244, .iconst 0, 0, 0, 0), (245, .iconst 0, 0, 0, 0), (246, .iconst 0, 0, 0, 0), (247, .invokevirtual 203, 186, 8, 15), (250, .aload_n 0, 0, 0, 0), (251, .bipush 115, 0, 0, 0),
  (253, .bipush 108, 0, 0, 0), (255, .bipush 97, 0, 0, 0), (257, .bipush 115, 0, 0, 0), (259, .bipush 116, 0, 0, 0), (261, .iconst 0, 0, 0, 0), (262, .iconst 0, 0, 0, 0), (263, .invokevirtual 203, 186, 8, 15), (266, .aload_n 0, 0, 0, 0),
  (267, .bipush 116, 0, 0, 0), (269, .bipush 99, 0, 0, 0), (271, .bipush 104, 0, 0, 0), (273, .bipush 97, 0, 0, 0), (275, .bipush 110, 0, 0, 0), (277, .bipush 103, 0, 0, 0), (279, .bipush 101, 0, 0, 0), (281, .invokevirtual 203, 186, 8, 15),
  (284, .aload_n 0, 0, 0, 0), (285, .bipush 117, 0, 0, 0), (287, .bipush 100, 0, 0, 0), (289, .bipush 114, 0, 0, 0), (291, .bipush 111, 0, 0, 0), (293, .bipush 112, 0, 0, 0), (295, .iconst 0, 0, 0, 0), (296, .iconst 0, 0, 0, 0),
  (297, .invokevirtual 203, 186, 8, 15), (300, .aload_n 0, 0, 0, 0), (301, .bipush 118, 0, 0, 0), (303, .bipush 109, 0, 0, 0), (305, .bipush 111, 0, 0, 0), (307, .bipush 118, 0, 0, 0), (309, .bipush 101, 0, 0, 0), (311, .iconst 0, 0, 0, 0),
  (312, .iconst 0, 0, 0, 0), (313, .invokevirtual 203, 186, 8, 15), (316, .aload_n 0, 0, 0, 0), (317, .bipush 119, 0, 0, 0), (319, .bipush 114, 0, 0, 0), (321, .bipush 101, 0, 0, 0), (323, .bipush 110, 0, 0, 0), (325, .bipush 97, 0, 0, 0),
  (327, .bipush 109, 0, 0, 0), (329, .bipush 101, 0, 0, 0), (331, .invokevirtual 203, 186, 8, 15), (334, .aload_n 0, 0, 0, 0), (335, .bipush 120, 0, 0, 0), (337, .bipush 99, 0, 0, 0), (339, .bipush 97, 0, 0, 0), (341, .bipush 114, 0, 0, 0),
  (343, .bipush 114, 0, 0, 0), (345, .bipush 121, 0, 0, 0), (347, .iconst 0, 0, 0, 0), (348, .invokevirtual 203, 186, 8, 15), (351, .aload_n 0, 0, 0, 0), (352, .bipush 121, 0, 0, 0), (354, .bipush 99, 0, 0, 0), (356, .bipush 104, 0, 0, 0),
  (358, .bipush 101, 0, 0, 0), (360, .bipush 99, 0, 0, 0), (362, .bipush 107, 0, 0, 0), (364, .iconst 0, 0, 0, 0), (365, .invokevirtual 203, 186, 8, 15), (368, .return_, 0, 0, 0)]
def mt_c186 : List (Nat × mmE) := [(0, .aload_n 0, 0, 0, 0), (1, .getfield 17, 13, 8, 0), (4, .iload_n 1, 0, 0, 0), (5, .bipush 100, 0, 0, 0), (7, .isub, 0, 0, 0), (8, .lconst 0, 0, 0, 0), (9, .iload_n 2, 0, 0, 0), (10, .invokestatic 195, 187, 2, 0),
  (13, .iload_n 3, 0, 0, 0), (14, .invokestatic 195, 187, 2, 0), (17, .iload 4, 0, 0, 0), (19, .invokestatic 195, 187, 2, 0), (22, .iload 5, 0, 0, 0), (24, .invokestatic 195, 187, 2, 0), (27, .iload 6, 0, 0, 0), (29, .invokestatic 195, 187, 2, 0),
  (32, .iload 7, 0, 0, 0), (34, .invokestatic 195, 187, 2, 0), (37, .lastore, 0, 0, 0), (38, .return_, 0, 0, 0)]
def mt_c187 : List (Nat × mmE) := [(0, .iload_n 2, 0, 0, 0), (1, .ifCond .ne 7, 0, 0, 0), (4, .lload_n 0, 0, 0, 0), (5, .goto 13, 0, 0, 0), (8, .lload_n 0, 0, 0, 0), (9, .bipush 6, 0, 0, 0), (11, .lshl, 0, 0, 0), (12, .iload_n 2, 0, 0, 0),
  (13, .bipush 96, 0, 0, 0), (15, .isub, 0, 0, 0), (16, .i2l, 0, 0, 0), (17, .lor, 0, 0, 0), (18, .lreturn, 0, 0, 0)]
def mt_c188 : List (Nat × mmE) := [(0, .aload_n 0, 0, 0, 0), (1, .aload_n 0, 0, 0, 0), (2, .getfield 207, 13, 2, 0), (5, .invokevirtual 210, 189, 2, 15), (8, .bipush 32, 0, 0, 0), (10, .if_icmp .eq 16, 0, 0, 0), (13, .aload_n 0, 0, 0, 0), (14, .aload_n 0, 0, 0, 0),
  (15, .getfield 207, 13, 2, 0), (18, .invokevirtual 210, 189, 2, 15), (21, .bipush 10, 0, 0, 0), (23, .if_icmp .ne 16, 0, 0, 0), (26, .aload_n 0, 0, 0, 0), (27, .dup, 0, 0, 0), (28, .getfield 207, 13, 2, 0), (31, .iconst 1, 0, 0, 0),
  (32, .iadd, 0, 0, 0), (33, .putfield 207, 13, 2, 0), (36, .goto (-36), 0, 0, 0), (39, .aload_n 0, 0, 0, 0), (40, .aload_n 0, 0, 0, 0), (41, .getfield 207, 13, 2, 0), (44, .putfield 214, 13, 4, 0), (47, .aload_n 0, 0, 0, 0),
  (48, .aload_n 0, 0, 0, 0), (49, .getfield 207, 13, 2, 0), (52, .invokevirtual 210, 189, 2, 15), (55, .istore_n 1, 0, 0, 0), (56, .aload_n 0, 0, 0, 0), (57, .iconst 1, 0, 0, 0), (58, .putfield 217, 13, 3, 0), (61, .iload_n 1, 0, 0, 0),
  (62, .iconst (-1), 0, 0, 0), (63, .if_icmp .ne 11, 0, 0, 0), (66, .aload_n 0, 0, 0, 0), (67, .iconst 0, 0, 0, 0), (68, .putfield 217, 13, 3, 0), (71, .goto 370, 0, 0, 0), (74, .iload_n 1, 0, 0, 0), (75, .invokestatic 220, 190, 1, 0),
  (78, .ifCond .eq 123, 0, 0, 0), (81, .iconst 0, 0, 0, 0), (82, .istore_n 2, 0, 0, 0), (83, .aload_n 0, 0, 0, 0), (84, .lconst 0, 0, 0, 0), (85, .putfield 224, 13, 10, 3), (88, .aload_n 0, 0, 0, 0), (89, .aload_n 0, 0, 0, 0),
  (90, .getfield 207, 13, 2, 0), (93, .invokevirtual 210, 189, 2, 15), (96, .invokestatic 220, 190, 1, 0), (99, .ifCond .eq 44, 0, 0, 0), (102, .iload_n 2, 0, 0, 0), (103, .bipush 7, 0, 0, 0), (105, .if_icmp .ge 22, 0, 0, 0), (108, .aload_n 0, 0, 0, 0),
  (109, .aload_n 0, 0, 0, 0), (110, .getfield 224, 13, 10, 0), (113, .aload_n 0, 0, 0, 0), (114, .aload_n 0, 0, 0, 0), (115, .getfield 207, 13, 2, 0), (118, .invokevirtual 210, 189, 2, 15), (121, .invokestatic 195, 187, 2, 0), (124, .putfield 224, 13, 10, 3),
  (127, .iinc 2 1, 0, 0, 0), (130, .aload_n 0, 0, 0, 0), (131, .dup, 0, 0, 0), (132, .getfield 207, 13, 2, 0), (135, .iconst 1, 0, 0, 0), (136, .iadd, 0, 0, 0), (137, .putfield 207, 13, 2, 0), (140, .goto (-52), 0, 0, 0),
  (143, .iload_n 2, 0, 0, 0), (144, .bipush 6, 0, 0, 0), (146, .if_icmp .le 4, 0, 0, 0), (149, .return_, 0, 0, 0), (150, .aload_n 0, 0, 0, 0), (151, .iconst 2, 0, 0, 0), (152, .putfield 217, 13, 3, 0), (155, .iconst 0, 0, 0, 0),
  (156, .istore_n 3, 0, 0, 0), (157, .iload_n 3, 0, 0, 0), (158, .bipush 22, 0, 0, 0), (160, .if_icmp .ge 38, 0, 0, 0), (163, .aload_n 0, 0, 0, 0), (164, .aload_n 0, 0, 0, 0), (165, .getfield 17, 13, 8, 0), (168, .iload_n 3, 0, 0, 0),
  (169, .laload, 0, 0, 0), (170, .aload_n 0, 0, 0, 0), (171, .getfield 224, 13, 10, 0), (174, .lcmp, 0, 0, 0), (175, .ifCond .ne 10, 0, 0, 0), (178, .bipush 100, 0, 0, 0), (180, .iload_n 3, 0, 0, 0), (181, .iadd, 0, 0, 0),
  (182, .goto 7, 0, 0, 0), (185, .aload_n 0, 0, 0, 0), (186, .getfield 217, 13, 3, 0), (189, .putfield 217, 13, 3, 0), (192, .iinc 3 1, 0, 0, 0), (195, .goto (-38), 0, 0, 0), (198, .goto 243, 0, 0, 0), (201, .iload_n 1, 0, 0, 0),
  (202, .bipush 48, 0, 0, 0), (204, .bipush 57, 0, 0, 0), (206, .invokestatic 191, 191, 3, 0), (209, .ifCond .eq 101, 0, 0, 0), (212, .iconst 0, 0, 0, 0), (213, .istore_n 2, 0, 0, 0), (214, .aload_n 0, 0, 0, 0), (215, .iconst 0, 0, 0, 0),
  (216, .putfield 228, 13, 5, 0), (219, .aload_n 0, 0, 0, 0), (220, .aload_n 0, 0, 0, 0), (221, .getfield 207, 13, 2, 0), (224, .invokevirtual 210, 189, 2, 15), (227, .bipush 48, 0, 0, 0), (229, .bipush 57, 0, 0, 0), (231, .invokestatic 191, 191, 3, 0),
  (234, .ifCond .eq 48, 0, 0, 0), (237, .iload_n 2, 0, 0, 0), (238, .bipush 6, 0, 0, 0), (240, .if_icmp .ge 26, 0, 0, 0), (243, .aload_n 0, 0, 0, 0), (244, .bipush 10, 0, 0, 0), (246, .aload_n 0, 0, 0, 0), (247, .getfield 228, 13, 5, 0),
  (250, .imul, 0, 0, 0), (251, .aload_n 0, 0, 0, 0), (252, .aload_n 0, 0, 0, 0), (253, .getfield 207, 13, 2, 0), (256, .invokevirtual 210, 189, 2, 15), (259, .iadd, 0, 0, 0), (260, .bipush 48, 0, 0, 0), (262, .isub, 0, 0, 0),
  (263, .putfield 228, 13, 5, 0), (266, .iinc 2 1, 0, 0, 0), (269, .aload_n 0, 0, 0, 0), (270, .dup, 0, 0, 0), (271, .getfield 207, 13, 2, 0), (274, .iconst 1, 0, 0, 0), (275, .iadd, 0, 0, 0), (276, .putfield 207, 13, 2, 0),
  (279, .goto (-60), 0, 0, 0), (282, .iload_n 2, 0, 0, 0), (283, .bipush 6, 0, 0, 0), (285, .if_icmp .gt 22, 0, 0, 0), (288, .aload_n 0, 0, 0, 0), (289, .aload_n 0, 0, 0, 0), (290, .getfield 207, 13, 2, 0), (293, .invokevirtual 210, 189, 2, 15),
  (296, .invokestatic 231, 192, 1, 0), (299, .ifCond .ne 8, 0, 0, 0), (302, .aload_n 0, 0, 0, 0), (303, .iconst 3, 0, 0, 0), (304, .putfield 217, 13, 3, 0), (307, .goto 134, 0, 0, 0), (310, .iload_n 1, 0, 0, 0), (311, .bipush 123, 0, 0, 0),
  (313, .if_icmp .eq 63, 0, 0, 0), (316, .iload_n 1, 0, 0, 0), (317, .bipush 125, 0, 0, 0), (319, .if_icmp .eq 57, 0, 0, 0), (322, .iload_n 1, 0, 0, 0), (323, .bipush 40, 0, 0, 0), (325, .if_icmp .eq 51, 0, 0, 0), (328, .iload_n 1, 0, 0, 0),
  (329, .bipush 41, 0, 0, 0), (331, .if_icmp .eq 45, 0, 0, 0), (334, .iload_n 1, 0, 0, 0), (335, .bipush 59, 0, 0, 0), (337, .if_icmp .eq 39, 0, 0, 0), (340, .iload_n 1, 0, 0, 0), (341, .bipush 61, 0, 0, 0), (343, .if_icmp .eq 33, 0, 0, 0),
  (346, .iload_n 1, 0, 0, 0), (347, .bipush 43, 0, 0, 0), (349, .if_icmp .eq 27, 0, 0, 0), (352, .iload_n 1, 0, 0, 0), (353, .bipush 45, 0, 0, 0), (355, .if_icmp .eq 21, 0, 0, 0), (358, .iload_n 1, 0, 0, 0), (359, .bipush 42, 0, 0, 0),
  (361, .if_icmp .eq 15, 0, 0, 0), (364, .iload_n 1, 0, 0, 0), (365, .bipush 47, 0, 0, 0), (367, .if_icmp .eq 9, 0, 0, 0), (370, .iload_n 1, 0, 0, 0), (371, .bipush 60, 0, 0, 0), (373, .if_icmp .ne 7, 0, 0, 0), (376, .iconst 1, 0, 0, 0),
  (377, .goto 4, 0, 0, 0), (380, .iconst 0, 0, 0, 0), (381, .istore_n 2, 0, 0, 0), (382, .iload_n 2, 0, 0, 0), (383, .ifCond .eq 12, 0, 0, 0), (386, .aload_n 0, 0, 0, 0), (387, .sipush 200, 0, 0, 0), (390, .iload_n 1, 0, 0, 0),
  (391, .iadd, 0, 0, 0), (392, .putfield 217, 13, 3, 0), (395, .aload_n 0, 0, 0, 0), (396, .dup, 0, 0, 0), (397, .getfield 207, 13, 2, 0), (400, .iconst 1, 0, 0, 0), (401, .iadd, 0, 0, 0), (402, .putfield 207, 13, 2, 0),
  (405, .iload_n 1, 0, 0, 0), (406, .bipush 61, 0, 0, 0), (408, .if_icmp .ne 33, 0, 0, 0), (411, .aload_n 0, 0, 0, 0), (412, .aload_n 0, 0, 0, 0), (413, .getfield 207, 13, 2, 0), (416, .invokevirtual 210, 189, 2, 15), (419, .bipush 61, 0, 0, 0),
  (421, .if_icmp .ne 20, 0, 0, 0), (424, .aload_n 0, 0, 0, 0), (425, .sipush 201, 0, 0, 0), (428, .putfield 217, 13, 3, 0), (431, .aload_n 0, 0, 0, 0), (432, .dup, 0, 0, 0), (433, .getfield 207, 13, 2, 0), (436, .iconst 1, 0, 0, 0),
  (437, .iadd, 0, 0, 0), (438, .putfield 207, 13, 2, 0), (441, .return_, 0, 0, 0)]
def mt_c189 : List (Nat × mmE) := [(0, .iload_n 1, 0, 0, 0), (1, .aload_n 0, 0, 0, 0), (2, .getfield 188, 13, 1, 0), (5, .if_icmp .ge 12, 0, 0, 0), (8, .aload_n 0, 0, 0, 0), (9, .getfield 7, 13, 0, 0), (12, .iload_n 1, 0, 0, 0), (13, .iaload, 0, 0, 0),
  (14, .goto 4, 0, 0, 0), (17, .iconst (-1), 0, 0, 0), (18, .ireturn, 0, 0, 0)]
def mt_c190 : List (Nat × mmE) := [(0, .iload_n 0, 0, 0, 0), (1, .bipush 97, 0, 0, 0), (3, .bipush 122, 0, 0, 0), (5, .invokestatic 191, 191, 3, 0), (8, .ireturn, 1, 0, 0)]
def mt_c191 : List (Nat × mmE) := [(0, .iload_n 0, 0, 0, 0), (1, .iload_n 1, 0, 0, 0), (2, .if_icmp .lt 12, 0, 0, 0), (5, .iload_n 0, 0, 0, 0), (6, .iload_n 2, 0, 0, 0), (7, .if_icmp .gt 7, 0, 0, 0), (10, .iconst 1, 0, 0, 0), (11, .goto 4, 0, 0, 0),
  (14, .iconst 0, 0, 0, 0), (15, .ireturn, 1, 0, 0)]
def mt_c192 : List (Nat × mmE) := [(0, .iload_n 0, 0, 0, 0), (1, .bipush 97, 0, 0, 0), (3, .bipush 122, 0, 0, 0), (5, .invokestatic 191, 191, 3, 0), (8, .ifCond .ne 14, 0, 0, 0), (11, .iload_n 0, 0, 0, 0), (12, .bipush 65, 0, 0, 0), (14, .bipush 90, 0, 0, 0),
  (16, .invokestatic 191, 191, 3, 0), (19, .ifCond .eq 7, 0, 0, 0), (22, .iconst 1, 0, 0, 0), (23, .goto 4, 0, 0, 0), (26, .iconst 0, 0, 0, 0), (27, .ireturn, 1, 0, 0)]
def mt_c193 : List (Nat × mmE) := [(0, .aload_n 0, 0, 0, 0), (1, .getfield 217, 13, 3, 0), (4, .bipush 100, 0, 0, 0), (6, .if_icmp .eq 9, 0, 0, 0), (9, .aload_n 0, 0, 0, 0), (10, .iconst 1, 0, 0, 0), (11, .invokevirtual 254, 194, 2, 15), (14, .ireturn, 1, 0, 0),
  (15, .aload_n 0, 0, 0, 0), (16, .invokevirtual 257, 188, 1, 15), (19, .aload_n 0, 0, 0, 0), (20, .getfield 214, 13, 4, 0), (23, .istore_n 1, 0, 0, 0), (24, .aload_n 0, 0, 0, 0), (25, .invokevirtual 276, 196, 1, 15), (28, .ifCond .ne 5, 0, 0, 0),
  (31, .iconst 0, 0, 0, 0), (32, .ireturn, 1, 0, 0), (33, .aload_n 0, 0, 0, 0), (34, .iconst 1, 0, 0, 0), (35, .aload_n 0, 0, 0, 0), (36, .getfield 263, 13, 17, 0), (39, .invokevirtual 362, 197, 3, 15), (42, .iconst (-1), 0, 0, 0),
  (43, .if_icmp .eq 10, 0, 0, 0), (46, .aload_n 0, 0, 0, 0), (47, .iconst 4, 0, 0, 0), (48, .iload_n 1, 0, 0, 0), (49, .invokevirtual 234, 195, 3, 15), (52, .ireturn, 1, 0, 0), (53, .aload_n 0, 0, 0, 0), (54, .iconst 1, 0, 0, 0),
  (55, .invokevirtual 321, 198, 2, 15), (58, .bipush 12, 0, 0, 0), (60, .if_icmp .ne 10, 0, 0, 0), (63, .aload_n 0, 0, 0, 0), (64, .iconst 5, 0, 0, 0), (65, .iload_n 1, 0, 0, 0), (66, .invokevirtual 234, 195, 3, 15), (69, .ireturn, 1, 0, 0),
  (70, .aload_n 0, 0, 0, 0), (71, .getfield 263, 13, 17, 0), (74, .istore_n 2, 0, 0, 0), (75, .iconst (-1), 0, 0, 0), (76, .istore_n 3, 0, 0, 0), (77, .aload_n 0, 0, 0, 0), (78, .getfield 217, 13, 3, 0), (81, .bipush 101, 0, 0, 0),
  (83, .if_icmp .ne 43, 0, 0, 0), (86, .aload_n 0, 0, 0, 0), (87, .invokevirtual 257, 188, 1, 15), (90, .aload_n 0, 0, 0, 0), (91, .getfield 214, 13, 4, 0), (94, .istore_n 1, 0, 0, 0), (95, .aload_n 0, 0, 0, 0), (96, .invokevirtual 276, 196, 1, 15),
  (99, .ifCond .ne 5, 0, 0, 0), (102, .iconst 0, 0, 0, 0), (103, .ireturn, 1, 0, 0), (104, .aload_n 0, 0, 0, 0), (105, .iconst 1, 0, 0, 0), (106, .aload_n 0, 0, 0, 0), (107, .getfield 263, 13, 17, 0), (110, .invokevirtual 362, 197, 3, 15),
  (113, .istore_n 3, 0, 0, 0), (114, .iload_n 3, 0, 0, 0), (115, .iconst (-1), 0, 0, 0), (116, .if_icmp .ne 10, 0, 0, 0), (119, .aload_n 0, 0, 0, 0), (120, .iconst 4, 0, 0, 0), (121, .iload_n 1, 0, 0, 0), (122, .invokevirtual 234, 195, 3, 15),
  (125, .ireturn, 1, 0, 0), (126, .aload_n 0, 0, 0, 0), (127, .iconst 1, 0, 0, 0), (128, .iload_n 2, 0, 0, 0), (129, .invokevirtual 365, 200, 3, 15), (132, .istore 4, 0, 0, 0), (134, .aload_n 0, 0, 0, 0), (135, .iconst 1, 0, 0, 0),
  (136, .iload 4, 0, 0, 0), (138, .iconst 1, 0, 0, 0), (139, .iload_n 3, 0, 0, 0), (140, .invokevirtual 337, 201, 5, 15), (143, .aload_n 0, 0, 0, 0), (144, .bipush 123, 0, 0, 0), (146, .invokevirtual 289, 202, 2, 15), (149, .ifCond .ne 5, 0, 0, 0),
  (152, .iconst 0, 0, 0, 0), (153, .ireturn, 1, 0, 0), (154, .aload_n 0, 0, 0, 0), (155, .bipush 125, 0, 0, 0), (157, .invokevirtual 251, 203, 2, 15), (160, .ifCond .ne 14, 0, 0, 0), (163, .aload_n 0, 0, 0, 0), (164, .iload 4, 0, 0, 0),
  (166, .invokevirtual 368, 204, 2, 15), (169, .ifCond .ne (-15), 0, 0, 0), (172, .iconst 0, 0, 0, 0), (173, .ireturn, 1, 0, 0), (174, .aload_n 0, 0, 0, 0), (175, .invokevirtual 257, 188, 1, 15), (178, .iconst 1, 0, 0, 0), (179, .ireturn, 1, 0, 0)]
def mt_c194 : List (Nat × mmE) := [(0, .aload_n 0, 0, 0, 0), (1, .iload_n 1, 0, 0, 0), (2, .aload_n 0, 0, 0, 0), (3, .getfield 214, 13, 4, 0), (6, .invokevirtual 234, 195, 3, 15), (9, .ireturn, 1, 0, 0)]
def mt_c195 : List (Nat × mmE) := [(0, .aload_n 0, 0, 0, 0), (1, .getfield 238, 13, 11, 0), (4, .ifCond .ne 13, 0, 0, 0), (7, .aload_n 0, 0, 0, 0), (8, .iload_n 1, 0, 0, 0), (9, .putfield 238, 13, 11, 0), (12, .aload_n 0, 0, 0, 0), (13, .iload_n 2, 0, 0, 0),
  (14, .putfield 241, 13, 12, 0), (17, .iconst 0, 0, 0, 0), (18, .ireturn, 1, 0, 0)]
def mt_c196 : List (Nat × mmE) := [(0, .aload_n 0, 0, 0, 0), (1, .getfield 217, 13, 3, 0), (4, .iconst 2, 0, 0, 0), (5, .if_icmp .eq 9, 0, 0, 0), (8, .aload_n 0, 0, 0, 0), (9, .iconst 1, 0, 0, 0), (10, .invokevirtual 254, 194, 2, 15), (13, .ireturn, 1, 0, 0),
  (14, .iconst 0, 0, 0, 0), (15, .istore_n 1, 0, 0, 0), (16, .iload_n 1, 0, 0, 0), (17, .aload_n 0, 0, 0, 0), (18, .getfield 260, 13, 7, 0), (21, .if_icmp .ge 23, 0, 0, 0), (24, .aload_n 0, 0, 0, 0), (25, .getfield 13, 13, 6, 0),
  (28, .iload_n 1, 0, 0, 0), (29, .laload, 0, 0, 0), (30, .aload_n 0, 0, 0, 0), (31, .getfield 224, 13, 10, 0), (34, .lcmp, 0, 0, 0), (35, .ifCond .eq 9, 0, 0, 0), (38, .iinc 1 1, 0, 0, 0), (41, .goto (-25), 0, 0, 0),
  (44, .iload_n 1, 0, 0, 0), (45, .bipush 40, 0, 0, 0), (47, .if_icmp .ne 9, 0, 0, 0), (50, .aload_n 0, 0, 0, 0), (51, .iconst 3, 0, 0, 0), (52, .invokevirtual 254, 194, 2, 15), (55, .ireturn, 1, 0, 0), (56, .iload_n 1, 0, 0, 0),
  (57, .aload_n 0, 0, 0, 0), (58, .getfield 260, 13, 7, 0), (61, .if_icmp .ne 23, 0, 0, 0), (64, .aload_n 0, 0, 0, 0), (65, .getfield 13, 13, 6, 0), (68, .iload_n 1, 0, 0, 0), (69, .aload_n 0, 0, 0, 0), (70, .getfield 224, 13, 10, 0),
  (73, .lastore, 0, 0, 0), (74, .aload_n 0, 0, 0, 0), (75, .dup, 0, 0, 0), (76, .getfield 260, 13, 7, 0), (79, .iconst 1, 0, 0, 0), (80, .iadd, 0, 0, 0), (81, .putfield 260, 13, 7, 0), (84, .aload_n 0, 0, 0, 0),
  (85, .iload_n 1, 0, 0, 0), (86, .putfield 263, 13, 17, 0), (89, .aload_n 0, 0, 0, 0), (90, .invokevirtual 257, 188, 1, 15), (93, .iconst 1, 0, 0, 0), (94, .ireturn, 1, 0, 0)]
def mt_c197 : List (Nat × mmE) := [(0, .iconst 0, 0, 0, 0), (1, .istore_n 3, 0, 0, 0), (2, .iload_n 3, 0, 0, 0), (3, .aload_n 0, 0, 0, 0), (4, .iload_n 1, 0, 0, 0), (5, .invokevirtual 321, 198, 2, 15), (8, .if_icmp .ge 22, 0, 0, 0), (11, .aload_n 0, 0, 0, 0),
  (12, .iload_n 1, 0, 0, 0), (13, .iload_n 3, 0, 0, 0), (14, .iconst 0, 0, 0, 0), (15, .invokevirtual 324, 199, 4, 15), (18, .iload_n 2, 0, 0, 0), (19, .if_icmp .ne 5, 0, 0, 0), (22, .iload_n 3, 0, 0, 0), (23, .ireturn, 0, 0, 0),
  (24, .iinc 3 1, 0, 0, 0), (27, .goto (-25), 0, 0, 0), (30, .iconst (-1), 0, 0, 0), (31, .ireturn, 0, 0, 0)]
def mt_c198 : List (Nat × mmE) := [(0, .aload_n 0, 0, 0, 0), (1, .getfield 28, 13, 23, 0), (4, .sipush 769, 0, 0, 0), (7, .iload_n 1, 0, 0, 0), (8, .imul, 0, 0, 0), (9, .iaload, 0, 0, 0), (10, .ireturn, 0, 0, 0)]
def mt_c199 : List (Nat × mmE) := [(0, .aload_n 0, 0, 0, 0), (1, .getfield 28, 13, 23, 0), (4, .sipush 769, 0, 0, 0), (7, .iload_n 1, 0, 0, 0), (8, .imul, 0, 0, 0), (9, .iconst 1, 0, 0, 0), (10, .iadd, 0, 0, 0), (11, .bipush 64, 0, 0, 0),
  (13, .iload_n 2, 0, 0, 0), (14, .imul, 0, 0, 0), (15, .iadd, 0, 0, 0), (16, .iload_n 3, 0, 0, 0), (17, .iadd, 0, 0, 0), (18, .iaload, 0, 0, 0), (19, .ireturn, 0, 0, 0)]
def mt_c200 : List (Nat × mmE) := [(0, .aload_n 0, 0, 0, 0), (1, .iload_n 1, 0, 0, 0), (2, .invokevirtual 321, 198, 2, 15), (5, .istore_n 3, 0, 0, 0), (6, .aload_n 0, 0, 0, 0), (7, .getfield 28, 13, 23, 0), (10, .sipush 769, 0, 0, 0), (13, .iload_n 1, 0, 0, 0),
  (14, .imul, 0, 0, 0), (15, .dup2, 0, 0, 0), (16, .iaload, 0, 0, 0), (17, .iconst 1, 0, 0, 0), (18, .iadd, 0, 0, 0), (19, .iastore, 0, 0, 0), (20, .iconst 0, 0, 0, 0), (21, .istore 4, 0, 0, 0),
  (23, .iload 4, 0, 0, 0), (25, .bipush 64, 0, 0, 0), (27, .if_icmp .ge 18, 0, 0, 0), (30, .aload_n 0, 0, 0, 0), (31, .iload_n 1, 0, 0, 0), (32, .iload_n 3, 0, 0, 0), (33, .iload 4, 0, 0, 0), (35, .iconst 0, 0, 0, 0),
  (36, .invokevirtual 337, 201, 5, 15), (39, .iinc 4 1, 0, 0, 0), (42, .goto (-19), 0, 0, 0), (45, .aload_n 0, 0, 0, 0), (46, .iload_n 1, 0, 0, 0), (47, .iload_n 3, 0, 0, 0), (48, .iconst 0, 0, 0, 0), (49, .iload_n 2, 0, 0, 0),
  (50, .invokevirtual 337, 201, 5, 15), (53, .aload_n 0, 0, 0, 0), (54, .iload_n 1, 0, 0, 0), (55, .iload_n 3, 0, 0, 0), (56, .iconst 1, 0, 0, 0), (57, .iconst (-1), 0, 0, 0), (58, .invokevirtual 337, 201, 5, 15), (61, .aload_n 0, 0, 0, 0),
  (62, .iload_n 1, 0, 0, 0), (63, .iload_n 3, 0, 0, 0), (64, .iconst 4, 0, 0, 0), (65, .iconst (-1), 0, 0, 0), (66, .invokevirtual 337, 201, 5, 15), (69, .aload_n 0, 0, 0, 0), (70, .iload_n 1, 0, 0, 0), (71, .iload_n 3, 0, 0, 0),
  (72, .iconst 3, 0, 0, 0), (73, .iconst 1, 0, 0, 0), (74, .invokevirtual 337, 201, 5, 15), (77, .iload_n 3, 0, 0, 0), (78, .ireturn, 0, 0, 0)]
def mt_c201 : List (Nat × mmE) := [(0, .aload_n 0, 0, 0, 0), (1, .getfield 28, 13, 23, 0), (4, .sipush 769, 0, 0, 0), (7, .iload_n 1, 0, 0, 0), (8, .imul, 0, 0, 0), (9, .iconst 1, 0, 0, 0), (10, .iadd, 0, 0, 0), (11, .bipush 64, 0, 0, 0),
  (13, .iload_n 2, 0, 0, 0), (14, .imul, 0, 0, 0), (15, .iadd, 0, 0, 0), (16, .iload_n 3, 0, 0, 0), (17, .iadd, 0, 0, 0), (18, .iload 4, 0, 0, 0), (20, .iastore, 0, 0, 0), (21, .return_, 0, 0, 0)]
def mt_c202 : List (Nat × mmE) := [(0, .aload_n 0, 0, 0, 0), (1, .iload_n 1, 0, 0, 0), (2, .invokevirtual 251, 203, 2, 15), (5, .ifCond .ne 9, 0, 0, 0), (8, .aload_n 0, 0, 0, 0), (9, .iconst 1, 0, 0, 0), (10, .invokevirtual 254, 194, 2, 15), (13, .ireturn, 1, 0, 0),
  (14, .aload_n 0, 0, 0, 0), (15, .invokevirtual 257, 188, 1, 15), (18, .iconst 1, 0, 0, 0), (19, .ireturn, 1, 0, 0)]
def mt_c203 : List (Nat × mmE) := [(0, .aload_n 0, 0, 0, 0), (1, .getfield 217, 13, 3, 0), (4, .sipush 200, 0, 0, 0), (7, .iload_n 1, 0, 0, 0), (8, .iadd, 0, 0, 0), (9, .if_icmp .ne 7, 0, 0, 0), (12, .iconst 1, 0, 0, 0), (13, .goto 4, 0, 0, 0),
  (16, .iconst 0, 0, 0, 0), (17, .ireturn, 1, 0, 0)]
def mt_c204 : List (Nat × mmE) := [(0, .aload_n 0, 0, 0, 0), (1, .getfield 217, 13, 3, 0), (4, .istore_n 2, 0, 0, 0), (5, .iload_n 2, 0, 0, 0), (6, .bipush 102, 0, 0, 0), (8, .bipush 105, 0, 0, 0), (10, .invokestatic 191, 191, 3, 0), (13, .ifCond .ne 9, 0, 0, 0),
  (16, .aload_n 0, 0, 0, 0), (17, .iconst 1, 0, 0, 0), (18, .invokevirtual 254, 194, 2, 15), (21, .ireturn, 1, 0, 0), (22, .aload_n 0, 0, 0, 0), (23, .invokevirtual 257, 188, 1, 15), (26, .aload_n 0, 0, 0, 0), (27, .getfield 214, 13, 4, 0),
  (30, .istore_n 3, 0, 0, 0), (31, .aload_n 0, 0, 0, 0), (32, .invokevirtual 276, 196, 1, 15), (35, .ifCond .ne 5, 0, 0, 0), (38, .iconst 0, 0, 0, 0), (39, .ireturn, 1, 0, 0), (40, .aload_n 0, 0, 0, 0), (41, .getfield 263, 13, 17, 0),
  (44, .istore 4, 0, 0, 0), (46, .iload_n 1, 0, 0, 0), (47, .iconst (-1), 0, 0, 0), (48, .if_icmp .eq 132, 0, 0, 0), (51, .iload_n 2, 0, 0, 0), (52, .bipush 105, 0, 0, 0), (54, .if_icmp .ne 23, 0, 0, 0), (57, .aload_n 0, 0, 0, 0),
  (58, .iconst 1, 0, 0, 0), (59, .iload_n 1, 0, 0, 0), (60, .iload 4, 0, 0, 0), (62, .invokevirtual 341, 205, 4, 15), (65, .iconst (-1), 0, 0, 0), (66, .if_icmp .eq 7, 0, 0, 0), (69, .iconst 1, 0, 0, 0), (70, .goto 34, 0, 0, 0),
  (73, .iconst 0, 0, 0, 0), (74, .goto 30, 0, 0, 0), (77, .aload_n 0, 0, 0, 0), (78, .iconst 1, 0, 0, 0), (79, .iload_n 1, 0, 0, 0), (80, .iload 4, 0, 0, 0), (82, .invokevirtual 334, 206, 4, 15), (85, .ifCond .ne 14, 0, 0, 0),
  (88, .aload_n 0, 0, 0, 0), (89, .iconst 1, 0, 0, 0), (90, .iload_n 1, 0, 0, 0), (91, .iload 4, 0, 0, 0), (93, .invokevirtual 347, 209, 4, 15), (96, .ifCond .eq 7, 0, 0, 0), (99, .iconst 1, 0, 0, 0), (100, .goto 4, 0, 0, 0),
  (103, .iconst 0, 0, 0, 0), (104, .istore 5, 0, 0, 0), (106, .iload 5, 0, 0, 0), (108, .ifCond .eq 10, 0, 0, 0), (111, .aload_n 0, 0, 0, 0), (112, .iconst 4, 0, 0, 0), (113, .iload_n 3, 0, 0, 0), (114, .invokevirtual 234, 195, 3, 15),
  (117, .ireturn, 1, 0, 0), (118, .iload_n 2, 0, 0, 0), (119, .bipush 105, 0, 0, 0), (121, .if_icmp .ne 19, 0, 0, 0), (124, .aload_n 0, 0, 0, 0), (125, .iconst 1, 0, 0, 0), (126, .iload_n 1, 0, 0, 0), (127, .bipush 39, 0, 0, 0),
  (129, .invokevirtual 324, 199, 4, 15), (132, .bipush 8, 0, 0, 0), (134, .if_icmp .ne 46, 0, 0, 0), (137, .goto 36, 0, 0, 0), (140, .iload_n 2, 0, 0, 0), (141, .bipush 104, 0, 0, 0), (143, .if_icmp .ne 18, 0, 0, 0), (146, .aload_n 0, 0, 0, 0),
  (147, .iconst 1, 0, 0, 0), (148, .iload_n 1, 0, 0, 0), (149, .bipush 30, 0, 0, 0), (151, .invokevirtual 324, 199, 4, 15), (154, .iconst 4, 0, 0, 0), (155, .if_icmp .ne 25, 0, 0, 0), (158, .goto 15, 0, 0, 0), (161, .aload_n 0, 0, 0, 0),
  (162, .iconst 1, 0, 0, 0), (163, .iload_n 1, 0, 0, 0), (164, .iconst 5, 0, 0, 0), (165, .invokevirtual 324, 199, 4, 15), (168, .bipush 8, 0, 0, 0), (170, .if_icmp .ne 10, 0, 0, 0), (173, .aload_n 0, 0, 0, 0), (174, .iconst 5, 0, 0, 0),
  (175, .iload_n 3, 0, 0, 0), (176, .invokevirtual 234, 195, 3, 15), (179, .ireturn, 1, 0, 0), (180, .iload_n 2, 0, 0, 0), (181, .bipush 105, 0, 0, 0), (183, .if_icmp .ne 59, 0, 0, 0), (186, .aload_n 0, 0, 0, 0), (187, .iconst 0, 0, 0, 0),
  (188, .putfield 312, 13, 20, 0), (191, .aload_n 0, 0, 0, 0), (192, .iconst 0, 0, 0, 0), (193, .putfield 266, 13, 18, 0), (196, .aload_n 0, 0, 0, 0), (197, .iconst 1, 0, 0, 0), (198, .invokevirtual 318, 210, 2, 15), (201, .ifCond .ne 5, 0, 0, 0),
  (204, .iconst 0, 0, 0, 0), (205, .ireturn, 1, 0, 0), (206, .iload_n 1, 0, 0, 0), (207, .iconst (-1), 0, 0, 0), (208, .if_icmp .eq 15, 0, 0, 0), (211, .aload_n 0, 0, 0, 0), (212, .iconst 1, 0, 0, 0), (213, .iload_n 1, 0, 0, 0),
  (214, .iload 4, 0, 0, 0), (216, .aload_n 0, 0, 0, 0), (217, .getfield 309, 13, 21, 0), (220, .invokevirtual 350, 220, 5, 15), (223, .aload_n 0, 0, 0, 0), (224, .aload_n 0, 0, 0, 0), (225, .bipush 32, 0, 0, 0), (227, .iload 4, 0, 0, 0),
  (229, .aload_n 0, 0, 0, 0), (230, .getfield 309, 13, 21, 0), (233, .iconst 0, 0, 0, 0), (234, .invokevirtual 269, 218, 5, 15), (237, .putfield 302, 13, 22, 0), (240, .iconst 1, 0, 0, 0), (241, .ireturn, 1, 0, 0), (242, .aload_n 0, 0, 0, 0),
  (243, .iconst (-1), 0, 0, 0), (244, .putfield 344, 13, 24, 0), (247, .iload_n 2, 0, 0, 0), (248, .bipush 103, 0, 0, 0), (250, .if_icmp .eq 21, 0, 0, 0), (253, .aload_n 0, 0, 0, 0), (254, .bipush 61, 0, 0, 0), (256, .invokevirtual 289, 202, 2, 15),
  (259, .ifCond .eq 10, 0, 0, 0), (262, .aload_n 0, 0, 0, 0), (263, .invokevirtual 353, 221, 1, 15), (266, .ifCond .ne 5, 0, 0, 0), (269, .iconst 0, 0, 0, 0), (270, .ireturn, 1, 0, 0), (271, .iload_n 1, 0, 0, 0), (272, .iconst (-1), 0, 0, 0),
  (273, .if_icmp .eq 21, 0, 0, 0), (276, .iload_n 2, 0, 0, 0), (277, .bipush 104, 0, 0, 0), (279, .if_icmp .ne 15, 0, 0, 0), (282, .aload_n 0, 0, 0, 0), (283, .iconst 1, 0, 0, 0), (284, .iload_n 1, 0, 0, 0), (285, .iload 4, 0, 0, 0),
  (287, .aload_n 0, 0, 0, 0), (288, .getfield 344, 13, 24, 0), (291, .invokevirtual 356, 222, 5, 15), (294, .iload_n 1, 0, 0, 0), (295, .iconst (-1), 0, 0, 0), (296, .if_icmp .eq 21, 0, 0, 0), (299, .iload_n 2, 0, 0, 0), (300, .bipush 104, 0, 0, 0),
  (302, .if_icmp .eq 15, 0, 0, 0), (305, .aload_n 0, 0, 0, 0), (306, .iconst 1, 0, 0, 0), (307, .iload_n 1, 0, 0, 0), (308, .iload 4, 0, 0, 0), (310, .aload_n 0, 0, 0, 0), (311, .getfield 344, 13, 24, 0), (314, .invokevirtual 359, 223, 5, 15),
  (317, .aload_n 0, 0, 0, 0), (318, .aload_n 0, 0, 0, 0), (319, .iload_n 2, 0, 0, 0), (320, .bipush 104, 0, 0, 0), (322, .if_icmp .ne 8, 0, 0, 0), (325, .bipush 31, 0, 0, 0), (327, .goto 5, 0, 0, 0), (330, .bipush 30, 0, 0, 0),
  (332, .iload 4, 0, 0, 0), (334, .aload_n 0, 0, 0, 0), (335, .getfield 344, 13, 24, 0), (338, .iconst 0, 0, 0, 0), (339, .invokevirtual 269, 218, 5, 15), (342, .putfield 302, 13, 22, 0), (345, .aload_n 0, 0, 0, 0), (346, .bipush 59, 0, 0, 0),
  (348, .invokevirtual 289, 202, 2, 15), (351, .ireturn, 1, 0, 0)]
def mt_c205 : List (Nat × mmE) := [(0, .iconst 0, 0, 0, 0), (1, .istore 4, 0, 0, 0), (3, .iload 4, 0, 0, 0), (5, .aload_n 0, 0, 0, 0), (6, .iload_n 1, 0, 0, 0), (7, .iload_n 2, 0, 0, 0), (8, .bipush 39, 0, 0, 0), (10, .invokevirtual 324, 199, 4, 15),
  (13, .if_icmp .ge 27, 0, 0, 0), (16, .aload_n 0, 0, 0, 0), (17, .iload_n 1, 0, 0, 0), (18, .iload_n 2, 0, 0, 0), (19, .bipush 40, 0, 0, 0), (21, .iload 4, 0, 0, 0), (23, .iadd, 0, 0, 0), (24, .invokevirtual 324, 199, 4, 15),
  (27, .iload_n 3, 0, 0, 0), (28, .if_icmp .ne 6, 0, 0, 0), (31, .iload 4, 0, 0, 0), (33, .ireturn, 0, 0, 0), (34, .iinc 4 1, 0, 0, 0), (37, .goto (-34), 0, 0, 0), (40, .iconst (-1), 0, 0, 0), (41, .ireturn, 0, 0, 0)]
def mt_c206 : List (Nat × mmE) := [(0, .aload_n 0, 0, 0, 0), (1, .iload_n 1, 0, 0, 0), (2, .iload_n 2, 0, 0, 0), (3, .iload_n 3, 0, 0, 0), (4, .invokevirtual 328, 207, 4, 15), (7, .iconst (-1), 0, 0, 0), (8, .if_icmp .ne 14, 0, 0, 0), (11, .aload_n 0, 0, 0, 0),
  (12, .iload_n 1, 0, 0, 0), (13, .iload_n 2, 0, 0, 0), (14, .iload_n 3, 0, 0, 0), (15, .invokevirtual 331, 208, 4, 15), (18, .iconst (-1), 0, 0, 0), (19, .if_icmp .eq 7, 0, 0, 0), (22, .iconst 1, 0, 0, 0), (23, .goto 4, 0, 0, 0),
  (26, .iconst 0, 0, 0, 0), (27, .ireturn, 1, 0, 0)]
def mt_c207 : List (Nat × mmE) := [(0, .iconst 0, 0, 0, 0), (1, .istore 4, 0, 0, 0), (3, .iload 4, 0, 0, 0), (5, .aload_n 0, 0, 0, 0), (6, .iload_n 1, 0, 0, 0), (7, .iload_n 2, 0, 0, 0), (8, .iconst 5, 0, 0, 0), (9, .invokevirtual 324, 199, 4, 15),
  (12, .if_icmp .ge 27, 0, 0, 0), (15, .aload_n 0, 0, 0, 0), (16, .iload_n 1, 0, 0, 0), (17, .iload_n 2, 0, 0, 0), (18, .bipush 6, 0, 0, 0), (20, .iload 4, 0, 0, 0), (22, .iadd, 0, 0, 0), (23, .invokevirtual 324, 199, 4, 15),
  (26, .iload_n 3, 0, 0, 0), (27, .if_icmp .ne 6, 0, 0, 0), (30, .iload 4, 0, 0, 0), (32, .ireturn, 0, 0, 0), (33, .iinc 4 1, 0, 0, 0), (36, .goto (-33), 0, 0, 0), (39, .iconst (-1), 0, 0, 0), (40, .ireturn, 0, 0, 0)]
def mt_c208 : List (Nat × mmE) := [(0, .iconst 0, 0, 0, 0), (1, .istore 4, 0, 0, 0), (3, .iload 4, 0, 0, 0), (5, .aload_n 0, 0, 0, 0), (6, .iload_n 1, 0, 0, 0), (7, .iload_n 2, 0, 0, 0), (8, .bipush 30, 0, 0, 0), (10, .invokevirtual 324, 199, 4, 15),
  (13, .if_icmp .ge 27, 0, 0, 0), (16, .aload_n 0, 0, 0, 0), (17, .iload_n 1, 0, 0, 0), (18, .iload_n 2, 0, 0, 0), (19, .bipush 31, 0, 0, 0), (21, .iload 4, 0, 0, 0), (23, .iadd, 0, 0, 0), (24, .invokevirtual 324, 199, 4, 15),
  (27, .iload_n 3, 0, 0, 0), (28, .if_icmp .ne 6, 0, 0, 0), (31, .iload 4, 0, 0, 0), (33, .ireturn, 0, 0, 0), (34, .iinc 4 1, 0, 0, 0), (37, .goto (-34), 0, 0, 0), (40, .iconst (-1), 0, 0, 0), (41, .ireturn, 0, 0, 0)]
def mt_c209 : List (Nat × mmE) := [(0, .aload_n 0, 0, 0, 0), (1, .iload_n 1, 0, 0, 0), (2, .iload_n 2, 0, 0, 0), (3, .iconst 1, 0, 0, 0), (4, .invokevirtual 324, 199, 4, 15), (7, .istore 4, 0, 0, 0), (9, .iload 4, 0, 0, 0), (11, .iconst (-1), 0, 0, 0),
  (12, .if_icmp .eq 29, 0, 0, 0), (15, .aload_n 0, 0, 0, 0), (16, .iload_n 1, 0, 0, 0), (17, .iload 4, 0, 0, 0), (19, .iload_n 3, 0, 0, 0), (20, .invokevirtual 334, 206, 4, 15), (23, .ifCond .eq 5, 0, 0, 0), (26, .iconst 1, 0, 0, 0),
  (27, .ireturn, 1, 0, 0), (28, .aload_n 0, 0, 0, 0), (29, .iload_n 1, 0, 0, 0), (30, .iload 4, 0, 0, 0), (32, .iconst 1, 0, 0, 0), (33, .invokevirtual 324, 199, 4, 15), (36, .istore 4, 0, 0, 0), (38, .goto (-29), 0, 0, 0),
  (41, .iconst 0, 0, 0, 0), (42, .ireturn, 1, 0, 0)]
def mt_c210 : List (Nat × mmE) := [(0, .aload_n 0, 0, 0, 0), (1, .bipush 123, 0, 0, 0), (3, .invokevirtual 289, 202, 2, 15), (6, .ifCond .ne 5, 0, 0, 0), (9, .iconst 0, 0, 0, 0), (10, .ireturn, 1, 0, 0), (11, .iconst (-1), 0, 0, 0), (12, .istore_n 2, 0, 0, 0),
  (13, .iconst (-1), 0, 0, 0), (14, .istore_n 3, 0, 0, 0), (15, .aload_n 0, 0, 0, 0), (16, .bipush 125, 0, 0, 0), (18, .invokevirtual 251, 203, 2, 15), (21, .ifCond .ne 43, 0, 0, 0), (24, .aload_n 0, 0, 0, 0), (25, .iload_n 1, 0, 0, 0),
  (26, .invokevirtual 298, 211, 2, 15), (29, .ifCond .ne 5, 0, 0, 0), (32, .iconst 0, 0, 0, 0), (33, .ireturn, 1, 0, 0), (34, .iload_n 2, 0, 0, 0), (35, .iconst (-1), 0, 0, 0), (36, .if_icmp .ne 11, 0, 0, 0), (39, .aload_n 0, 0, 0, 0),
  (40, .getfield 302, 13, 22, 0), (43, .istore_n 2, 0, 0, 0), (44, .goto 12, 0, 0, 0), (47, .aload_n 0, 0, 0, 0), (48, .iload_n 3, 0, 0, 0), (49, .aload_n 0, 0, 0, 0), (50, .getfield 302, 13, 22, 0), (53, .invokevirtual 305, 219, 3, 15),
  (56, .aload_n 0, 0, 0, 0), (57, .getfield 302, 13, 22, 0), (60, .istore_n 3, 0, 0, 0), (61, .goto (-46), 0, 0, 0), (64, .aload_n 0, 0, 0, 0), (65, .invokevirtual 257, 188, 1, 15), (68, .aload_n 0, 0, 0, 0), (69, .iload_n 2, 0, 0, 0),
  (70, .putfield 309, 13, 21, 0), (73, .iconst 1, 0, 0, 0), (74, .ireturn, 1, 0, 0)]
def mt_c211 : List (Nat × mmE) := [(0, .aload_n 0, 0, 0, 0), (1, .getfield 217, 13, 3, 0), (4, .istore_n 2, 0, 0, 0), (5, .iload_n 2, 0, 0, 0), (6, .iconst 2, 0, 0, 0), (7, .if_icmp .eq 14, 0, 0, 0), (10, .iload_n 2, 0, 0, 0), (11, .bipush 106, 0, 0, 0),
  (13, .bipush 112, 0, 0, 0), (15, .invokestatic 191, 191, 3, 0), (18, .ifCond .eq 7, 0, 0, 0), (21, .iconst 1, 0, 0, 0), (22, .goto 4, 0, 0, 0), (25, .iconst 0, 0, 0, 0), (26, .istore_n 3, 0, 0, 0), (27, .iload_n 3, 0, 0, 0),
  (28, .ifCond .ne 9, 0, 0, 0), (31, .aload_n 0, 0, 0, 0), (32, .iconst 1, 0, 0, 0), (33, .invokevirtual 254, 194, 2, 15), (36, .ireturn, 1, 0, 0), (37, .iload_n 2, 0, 0, 0), (38, .bipush 111, 0, 0, 0), (40, .if_icmp .ne 13, 0, 0, 0),
  (43, .iload_n 1, 0, 0, 0), (44, .ifCond .ne 9, 0, 0, 0), (47, .aload_n 0, 0, 0, 0), (48, .iconst 2, 0, 0, 0), (49, .invokevirtual 254, 194, 2, 15), (52, .ireturn, 1, 0, 0), (53, .aload_n 0, 0, 0, 0), (54, .getfield 312, 13, 20, 0),
  (57, .bipush 60, 0, 0, 0), (59, .if_icmp .ne 9, 0, 0, 0), (62, .aload_n 0, 0, 0, 0), (63, .iconst 3, 0, 0, 0), (64, .invokevirtual 254, 194, 2, 15), (67, .ireturn, 1, 0, 0), (68, .aload_n 0, 0, 0, 0), (69, .dup, 0, 0, 0),
  (70, .getfield 312, 13, 20, 0), (73, .iconst 1, 0, 0, 0), (74, .iadd, 0, 0, 0), (75, .putfield 312, 13, 20, 0), (78, .iload_n 2, 0, 0, 0), (79, .bipush 112, 0, 0, 0), (81, .if_icmp .ne 8, 0, 0, 0), (84, .aload_n 0, 0, 0, 0),
  (85, .invokevirtual 315, 212, 1, 15), (88, .ireturn, 1, 0, 0), (89, .iload_n 2, 0, 0, 0), (90, .iconst 2, 0, 0, 0), (91, .if_icmp .ne 60, 0, 0, 0), (94, .aload_n 0, 0, 0, 0), (95, .invokevirtual 276, 196, 1, 15), (98, .ifCond .ne 5, 0, 0, 0),
  (101, .iconst 0, 0, 0, 0), (102, .ireturn, 1, 0, 0), (103, .aload_n 0, 0, 0, 0), (104, .getfield 263, 13, 17, 0), (107, .istore 4, 0, 0, 0), (109, .aload_n 0, 0, 0, 0), (110, .bipush 61, 0, 0, 0), (112, .invokevirtual 289, 202, 2, 15),
  (115, .ifCond .eq 10, 0, 0, 0), (118, .aload_n 0, 0, 0, 0), (119, .invokevirtual 286, 214, 1, 15), (122, .ifCond .ne 5, 0, 0, 0), (125, .iconst 0, 0, 0, 0), (126, .ireturn, 1, 0, 0), (127, .aload_n 0, 0, 0, 0), (128, .aload_n 0, 0, 0, 0),
  (129, .bipush 20, 0, 0, 0), (131, .iload 4, 0, 0, 0), (133, .aload_n 0, 0, 0, 0), (134, .getfield 273, 13, 19, 0), (137, .iconst 0, 0, 0, 0), (138, .invokevirtual 269, 218, 5, 15), (141, .putfield 302, 13, 22, 0), (144, .aload_n 0, 0, 0, 0),
  (145, .bipush 59, 0, 0, 0), (147, .invokevirtual 289, 202, 2, 15), (150, .ireturn, 1, 0, 0), (151, .aload_n 0, 0, 0, 0), (152, .invokevirtual 257, 188, 1, 15), (155, .iload_n 2, 0, 0, 0), (156, .bipush 106, 0, 0, 0), (158, .if_icmp .eq 9, 0, 0, 0),
  (161, .iload_n 2, 0, 0, 0), (162, .bipush 107, 0, 0, 0), (164, .if_icmp .ne 42, 0, 0, 0), (167, .aload_n 0, 0, 0, 0), (168, .invokevirtual 286, 214, 1, 15), (171, .ifCond .ne 5, 0, 0, 0), (174, .iconst 0, 0, 0, 0), (175, .ireturn, 1, 0, 0),
  (176, .aload_n 0, 0, 0, 0), (177, .aload_n 0, 0, 0, 0), (178, .iload_n 2, 0, 0, 0), (179, .bipush 106, 0, 0, 0), (181, .if_icmp .ne 8, 0, 0, 0), (184, .bipush 21, 0, 0, 0), (186, .goto 5, 0, 0, 0), (189, .bipush 22, 0, 0, 0),
  (191, .aload_n 0, 0, 0, 0), (192, .getfield 273, 13, 19, 0), (195, .iconst 0, 0, 0, 0), (196, .iconst 0, 0, 0, 0), (197, .invokevirtual 269, 218, 5, 15), (200, .putfield 302, 13, 22, 0), (203, .goto 100, 0, 0, 0), (206, .iload_n 2, 0, 0, 0),
  (207, .bipush 109, 0, 0, 0), (209, .if_icmp .eq 9, 0, 0, 0), (212, .iload_n 2, 0, 0, 0), (213, .bipush 110, 0, 0, 0), (215, .if_icmp .ne 64, 0, 0, 0), (218, .aload_n 0, 0, 0, 0), (219, .invokevirtual 276, 196, 1, 15), (222, .ifCond .ne 5, 0, 0, 0),
  (225, .iconst 0, 0, 0, 0), (226, .ireturn, 1, 0, 0), (227, .aload_n 0, 0, 0, 0), (228, .getfield 263, 13, 17, 0), (231, .istore 4, 0, 0, 0), (233, .iload_n 2, 0, 0, 0), (234, .bipush 110, 0, 0, 0), (236, .if_icmp .ne 12, 0, 0, 0),
  (239, .aload_n 0, 0, 0, 0), (240, .invokevirtual 276, 196, 1, 15), (243, .ifCond .ne 5, 0, 0, 0), (246, .iconst 0, 0, 0, 0), (247, .ireturn, 1, 0, 0), (248, .aload_n 0, 0, 0, 0), (249, .aload_n 0, 0, 0, 0), (250, .iload_n 2, 0, 0, 0),
  (251, .bipush 109, 0, 0, 0), (253, .if_icmp .ne 8, 0, 0, 0), (256, .bipush 24, 0, 0, 0), (258, .goto 5, 0, 0, 0), (261, .bipush 25, 0, 0, 0), (263, .iload 4, 0, 0, 0), (265, .aload_n 0, 0, 0, 0), (266, .getfield 263, 13, 17, 0),
  (269, .iconst 0, 0, 0, 0), (270, .invokevirtual 269, 218, 5, 15), (273, .putfield 302, 13, 22, 0), (276, .goto 27, 0, 0, 0), (279, .aload_n 0, 0, 0, 0), (280, .aload_n 0, 0, 0, 0), (281, .iload_n 2, 0, 0, 0), (282, .bipush 108, 0, 0, 0),
  (284, .if_icmp .ne 8, 0, 0, 0), (287, .bipush 23, 0, 0, 0), (289, .goto 5, 0, 0, 0), (292, .bipush 26, 0, 0, 0), (294, .iconst 0, 0, 0, 0), (295, .iconst 0, 0, 0, 0), (296, .iconst 0, 0, 0, 0), (297, .invokevirtual 269, 218, 5, 15),
  (300, .putfield 302, 13, 22, 0), (303, .aload_n 0, 0, 0, 0), (304, .bipush 59, 0, 0, 0), (306, .invokevirtual 289, 202, 2, 15), (309, .ireturn, 1, 0, 0)]
def mt_c212 : List (Nat × mmE) := [(0, .aload_n 0, 0, 0, 0), (1, .invokevirtual 280, 213, 1, 15), (4, .ifCond .eq 10, 0, 0, 0), (7, .aload_n 0, 0, 0, 0), (8, .invokevirtual 286, 214, 1, 15), (11, .ifCond .ne 5, 0, 0, 0), (14, .iconst 0, 0, 0, 0), (15, .ireturn, 1, 0, 0),
  (16, .aload_n 0, 0, 0, 0), (17, .getfield 273, 13, 19, 0), (20, .istore_n 1, 0, 0, 0), (21, .aload_n 0, 0, 0, 0), (22, .iconst 0, 0, 0, 0), (23, .invokevirtual 318, 210, 2, 15), (26, .ifCond .ne 5, 0, 0, 0), (29, .iconst 0, 0, 0, 0),
  (30, .ireturn, 1, 0, 0), (31, .aload_n 0, 0, 0, 0), (32, .getfield 309, 13, 21, 0), (35, .istore_n 2, 0, 0, 0), (36, .iconst (-1), 0, 0, 0), (37, .istore_n 3, 0, 0, 0), (38, .aload_n 0, 0, 0, 0), (39, .getfield 217, 13, 3, 0),
  (42, .bipush 113, 0, 0, 0), (44, .if_icmp .ne 22, 0, 0, 0), (47, .aload_n 0, 0, 0, 0), (48, .invokevirtual 257, 188, 1, 15), (51, .aload_n 0, 0, 0, 0), (52, .iconst 0, 0, 0, 0), (53, .invokevirtual 318, 210, 2, 15), (56, .ifCond .ne 5, 0, 0, 0),
  (59, .iconst 0, 0, 0, 0), (60, .ireturn, 1, 0, 0), (61, .aload_n 0, 0, 0, 0), (62, .getfield 309, 13, 21, 0), (65, .istore_n 3, 0, 0, 0), (66, .aload_n 0, 0, 0, 0), (67, .dup, 0, 0, 0), (68, .getfield 266, 13, 18, 0),
  (71, .iconst 1, 0, 0, 0), (72, .isub, 0, 0, 0), (73, .putfield 266, 13, 18, 0), (76, .aload_n 0, 0, 0, 0), (77, .aload_n 0, 0, 0, 0), (78, .bipush 27, 0, 0, 0), (80, .iload_n 1, 0, 0, 0), (81, .iload_n 2, 0, 0, 0),
  (82, .iload_n 3, 0, 0, 0), (83, .invokevirtual 269, 218, 5, 15), (86, .putfield 302, 13, 22, 0), (89, .iconst 1, 0, 0, 0), (90, .ireturn, 1, 0, 0)]
def mt_c213 : List (Nat × mmE) := [(0, .aload_n 0, 0, 0, 0), (1, .getfield 266, 13, 18, 0), (4, .bipush 12, 0, 0, 0), (6, .if_icmp .ne 9, 0, 0, 0), (9, .aload_n 0, 0, 0, 0), (10, .iconst 3, 0, 0, 0), (11, .invokevirtual 254, 194, 2, 15), (14, .ireturn, 1, 0, 0),
  (15, .aload_n 0, 0, 0, 0), (16, .dup, 0, 0, 0), (17, .getfield 266, 13, 18, 0), (20, .iconst 1, 0, 0, 0), (21, .iadd, 0, 0, 0), (22, .putfield 266, 13, 18, 0), (25, .aload_n 0, 0, 0, 0), (26, .invokevirtual 257, 188, 1, 15),
  (29, .iconst 1, 0, 0, 0), (30, .ireturn, 1, 0, 0)]
def mt_c214 : List (Nat × mmE) := [(0, .aload_n 0, 0, 0, 0), (1, .invokevirtual 295, 215, 1, 15), (4, .ifCond .ne 5, 0, 0, 0), (7, .iconst 0, 0, 0, 0), (8, .ireturn, 1, 0, 0), (9, .aload_n 0, 0, 0, 0), (10, .bipush 60, 0, 0, 0), (12, .invokevirtual 251, 203, 2, 15),
  (15, .ifCond .ne 15, 0, 0, 0), (18, .aload_n 0, 0, 0, 0), (19, .getfield 217, 13, 3, 0), (22, .sipush 201, 0, 0, 0), (25, .if_icmp .eq 5, 0, 0, 0), (28, .iconst 1, 0, 0, 0), (29, .ireturn, 1, 0, 0), (30, .aload_n 0, 0, 0, 0),
  (31, .getfield 217, 13, 3, 0), (34, .sipush 201, 0, 0, 0), (37, .if_icmp .ne 8, 0, 0, 0), (40, .bipush 15, 0, 0, 0), (42, .goto 5, 0, 0, 0), (45, .bipush 14, 0, 0, 0), (47, .istore_n 1, 0, 0, 0), (48, .aload_n 0, 0, 0, 0),
  (49, .getfield 273, 13, 19, 0), (52, .istore_n 2, 0, 0, 0), (53, .aload_n 0, 0, 0, 0), (54, .invokevirtual 257, 188, 1, 15), (57, .aload_n 0, 0, 0, 0), (58, .invokevirtual 295, 215, 1, 15), (61, .ifCond .ne 5, 0, 0, 0), (64, .iconst 0, 0, 0, 0),
  (65, .ireturn, 1, 0, 0), (66, .aload_n 0, 0, 0, 0), (67, .aload_n 0, 0, 0, 0), (68, .iload_n 1, 0, 0, 0), (69, .iload_n 2, 0, 0, 0), (70, .aload_n 0, 0, 0, 0), (71, .getfield 273, 13, 19, 0), (74, .iconst 0, 0, 0, 0),
  (75, .invokevirtual 269, 218, 5, 15), (78, .putfield 273, 13, 19, 0), (81, .iconst 1, 0, 0, 0), (82, .ireturn, 1, 0, 0)]
def mt_c215 : List (Nat × mmE) := [(0, .aload_n 0, 0, 0, 0), (1, .invokevirtual 292, 216, 1, 15), (4, .ifCond .ne 5, 0, 0, 0), (7, .iconst 0, 0, 0, 0), (8, .ireturn, 1, 0, 0), (9, .aload_n 0, 0, 0, 0), (10, .bipush 43, 0, 0, 0), (12, .invokevirtual 251, 203, 2, 15),
  (15, .ifCond .ne 12, 0, 0, 0), (18, .aload_n 0, 0, 0, 0), (19, .bipush 45, 0, 0, 0), (21, .invokevirtual 251, 203, 2, 15), (24, .ifCond .eq 56, 0, 0, 0), (27, .aload_n 0, 0, 0, 0), (28, .bipush 43, 0, 0, 0), (30, .invokevirtual 251, 203, 2, 15),
  (33, .ifCond .eq 8, 0, 0, 0), (36, .bipush 10, 0, 0, 0), (38, .goto 5, 0, 0, 0), (41, .bipush 11, 0, 0, 0), (43, .istore_n 1, 0, 0, 0), (44, .aload_n 0, 0, 0, 0), (45, .getfield 273, 13, 19, 0), (48, .istore_n 2, 0, 0, 0),
  (49, .aload_n 0, 0, 0, 0), (50, .invokevirtual 257, 188, 1, 15), (53, .aload_n 0, 0, 0, 0), (54, .invokevirtual 292, 216, 1, 15), (57, .ifCond .ne 5, 0, 0, 0), (60, .iconst 0, 0, 0, 0), (61, .ireturn, 1, 0, 0), (62, .aload_n 0, 0, 0, 0),
  (63, .aload_n 0, 0, 0, 0), (64, .iload_n 1, 0, 0, 0), (65, .iload_n 2, 0, 0, 0), (66, .aload_n 0, 0, 0, 0), (67, .getfield 273, 13, 19, 0), (70, .iconst 0, 0, 0, 0), (71, .invokevirtual 269, 218, 5, 15), (74, .putfield 273, 13, 19, 0),
  (77, .goto (-68), 0, 0, 0), (80, .iconst 1, 0, 0, 0), (81, .ireturn, 1, 0, 0)]
def mt_c216 : List (Nat × mmE) := [(0, .aload_n 0, 0, 0, 0), (1, .invokevirtual 283, 217, 1, 15), (4, .ifCond .ne 5, 0, 0, 0), (7, .iconst 0, 0, 0, 0), (8, .ireturn, 1, 0, 0), (9, .aload_n 0, 0, 0, 0), (10, .bipush 42, 0, 0, 0), (12, .invokevirtual 251, 203, 2, 15),
  (15, .ifCond .ne 12, 0, 0, 0), (18, .aload_n 0, 0, 0, 0), (19, .bipush 47, 0, 0, 0), (21, .invokevirtual 251, 203, 2, 15), (24, .ifCond .eq 56, 0, 0, 0), (27, .aload_n 0, 0, 0, 0), (28, .bipush 42, 0, 0, 0), (30, .invokevirtual 251, 203, 2, 15),
  (33, .ifCond .eq 8, 0, 0, 0), (36, .bipush 12, 0, 0, 0), (38, .goto 5, 0, 0, 0), (41, .bipush 13, 0, 0, 0), (43, .istore_n 1, 0, 0, 0), (44, .aload_n 0, 0, 0, 0), (45, .getfield 273, 13, 19, 0), (48, .istore_n 2, 0, 0, 0),
  (49, .aload_n 0, 0, 0, 0), (50, .invokevirtual 257, 188, 1, 15), (53, .aload_n 0, 0, 0, 0), (54, .invokevirtual 283, 217, 1, 15), (57, .ifCond .ne 5, 0, 0, 0), (60, .iconst 0, 0, 0, 0), (61, .ireturn, 1, 0, 0), (62, .aload_n 0, 0, 0, 0),
  (63, .aload_n 0, 0, 0, 0), (64, .iload_n 1, 0, 0, 0), (65, .iload_n 2, 0, 0, 0), (66, .aload_n 0, 0, 0, 0), (67, .getfield 273, 13, 19, 0), (70, .iconst 0, 0, 0, 0), (71, .invokevirtual 269, 218, 5, 15), (74, .putfield 273, 13, 19, 0),
  (77, .goto (-68), 0, 0, 0), (80, .iconst 1, 0, 0, 0), (81, .ireturn, 1, 0, 0)]
def mt_c217 : List (Nat × mmE) := [(0, .aload_n 0, 0, 0, 0), (1, .getfield 217, 13, 3, 0), (4, .iconst 3, 0, 0, 0), (5, .if_icmp .ne 24, 0, 0, 0), (8, .aload_n 0, 0, 0, 0), (9, .aload_n 0, 0, 0, 0), (10, .iconst 1, 0, 0, 0), (11, .aload_n 0, 0, 0, 0),
  (12, .getfield 228, 13, 5, 0), (15, .iconst 0, 0, 0, 0), (16, .iconst 0, 0, 0, 0), (17, .invokevirtual 269, 218, 5, 15), (20, .putfield 273, 13, 19, 0), (23, .aload_n 0, 0, 0, 0), (24, .invokevirtual 257, 188, 1, 15), (27, .iconst 1, 0, 0, 0),
  (28, .ireturn, 1, 0, 0), (29, .aload_n 0, 0, 0, 0), (30, .getfield 217, 13, 3, 0), (33, .iconst 2, 0, 0, 0), (34, .if_icmp .ne 29, 0, 0, 0), (37, .aload_n 0, 0, 0, 0), (38, .invokevirtual 276, 196, 1, 15), (41, .ifCond .ne 5, 0, 0, 0),
  (44, .iconst 0, 0, 0, 0), (45, .ireturn, 1, 0, 0), (46, .aload_n 0, 0, 0, 0), (47, .aload_n 0, 0, 0, 0), (48, .iconst 2, 0, 0, 0), (49, .aload_n 0, 0, 0, 0), (50, .getfield 263, 13, 17, 0), (53, .iconst 0, 0, 0, 0),
  (54, .iconst 0, 0, 0, 0), (55, .invokevirtual 269, 218, 5, 15), (58, .putfield 273, 13, 19, 0), (61, .iconst 1, 0, 0, 0), (62, .ireturn, 1, 0, 0), (63, .aload_n 0, 0, 0, 0), (64, .getfield 217, 13, 3, 0), (67, .bipush 114, 0, 0, 0),
  (69, .if_icmp .eq 12, 0, 0, 0), (72, .aload_n 0, 0, 0, 0), (73, .getfield 217, 13, 3, 0), (76, .bipush 115, 0, 0, 0), (78, .if_icmp .ne 34, 0, 0, 0), (81, .aload_n 0, 0, 0, 0), (82, .aload_n 0, 0, 0, 0), (83, .aload_n 0, 0, 0, 0),
  (84, .getfield 217, 13, 3, 0), (87, .bipush 114, 0, 0, 0), (89, .if_icmp .ne 7, 0, 0, 0), (92, .iconst 3, 0, 0, 0), (93, .goto 4, 0, 0, 0), (96, .iconst 4, 0, 0, 0), (97, .iconst 0, 0, 0, 0), (98, .iconst 0, 0, 0, 0),
  (99, .iconst 0, 0, 0, 0), (100, .invokevirtual 269, 218, 5, 15), (103, .putfield 273, 13, 19, 0), (106, .aload_n 0, 0, 0, 0), (107, .invokevirtual 257, 188, 1, 15), (110, .iconst 1, 0, 0, 0), (111, .ireturn, 1, 0, 0), (112, .aload_n 0, 0, 0, 0),
  (113, .bipush 45, 0, 0, 0), (115, .invokevirtual 251, 203, 2, 15), (118, .ifCond .eq 46, 0, 0, 0), (121, .aload_n 0, 0, 0, 0), (122, .invokevirtual 280, 213, 1, 15), (125, .ifCond .eq 10, 0, 0, 0), (128, .aload_n 0, 0, 0, 0), (129, .invokevirtual 283, 217, 1, 15),
  (132, .ifCond .ne 5, 0, 0, 0), (135, .iconst 0, 0, 0, 0), (136, .ireturn, 1, 0, 0), (137, .aload_n 0, 0, 0, 0), (138, .dup, 0, 0, 0), (139, .getfield 266, 13, 18, 0), (142, .iconst 1, 0, 0, 0), (143, .isub, 0, 0, 0),
  (144, .putfield 266, 13, 18, 0), (147, .aload_n 0, 0, 0, 0), (148, .aload_n 0, 0, 0, 0), (149, .iconst 5, 0, 0, 0), (150, .aload_n 0, 0, 0, 0), (151, .getfield 273, 13, 19, 0), (154, .iconst 0, 0, 0, 0), (155, .iconst 0, 0, 0, 0),
  (156, .invokevirtual 269, 218, 5, 15), (159, .putfield 273, 13, 19, 0), (162, .iconst 1, 0, 0, 0), (163, .ireturn, 1, 0, 0), (164, .aload_n 0, 0, 0, 0), (165, .bipush 40, 0, 0, 0), (167, .invokevirtual 251, 203, 2, 15), (170, .ifCond .ne 9, 0, 0, 0),
  (173, .aload_n 0, 0, 0, 0), (174, .iconst 1, 0, 0, 0), (175, .invokevirtual 254, 194, 2, 15), (178, .ireturn, 1, 0, 0), (179, .aload_n 0, 0, 0, 0), (180, .invokevirtual 280, 213, 1, 15), (183, .ifCond .eq 19, 0, 0, 0), (186, .aload_n 0, 0, 0, 0),
  (187, .invokevirtual 286, 214, 1, 15), (190, .ifCond .eq 12, 0, 0, 0), (193, .aload_n 0, 0, 0, 0), (194, .bipush 41, 0, 0, 0), (196, .invokevirtual 289, 202, 2, 15), (199, .ifCond .ne 5, 0, 0, 0), (202, .iconst 0, 0, 0, 0), (203, .ireturn, 1, 0, 0),
  (204, .aload_n 0, 0, 0, 0), (205, .dup, 0, 0, 0), (206, .getfield 266, 13, 18, 0), (209, .iconst 1, 0, 0, 0), (210, .isub, 0, 0, 0), (211, .putfield 266, 13, 18, 0), (214, .iconst 1, 0, 0, 0), (215, .ireturn, 1, 0, 0)]
def mt_c218 : List (Nat × mmE) := [(0, .aload_n 0, 0, 0, 0), (1, .getfield 244, 13, 16, 0), (4, .istore 5, 0, 0, 0), (6, .aload_n 0, 0, 0, 0), (7, .dup, 0, 0, 0), (8, .getfield 244, 13, 16, 0), (11, .iconst 1, 0, 0, 0), (12, .iadd, 0, 0, 0),
  (13, .putfield 244, 13, 16, 0), (16, .iconst 5, 0, 0, 0), (17, .sipush 8400, 0, 0, 0), (20, .iload 5, 0, 0, 0), (22, .iadd, 0, 0, 0), (23, .imul, 0, 0, 0), (24, .istore 6, 0, 0, 0), (26, .aload_n 0, 0, 0, 0),
  (27, .getfield 25, 13, 15, 0), (30, .iload 6, 0, 0, 0), (32, .iload_n 1, 0, 0, 0), (33, .iastore, 0, 0, 0), (34, .aload_n 0, 0, 0, 0), (35, .getfield 25, 13, 15, 0), (38, .iload 6, 0, 0, 0), (40, .iconst 1, 0, 0, 0),
  (41, .iadd, 0, 0, 0), (42, .iload_n 2, 0, 0, 0), (43, .iastore, 0, 0, 0), (44, .aload_n 0, 0, 0, 0), (45, .getfield 25, 13, 15, 0), (48, .iload 6, 0, 0, 0), (50, .iconst 2, 0, 0, 0), (51, .iadd, 0, 0, 0),
  (52, .iload_n 3, 0, 0, 0), (53, .iastore, 0, 0, 0), (54, .aload_n 0, 0, 0, 0), (55, .getfield 25, 13, 15, 0), (58, .iload 6, 0, 0, 0), (60, .iconst 3, 0, 0, 0), (61, .iadd, 0, 0, 0), (62, .iload 4, 0, 0, 0),
  (64, .iastore, 0, 0, 0), (65, .aload_n 0, 0, 0, 0), (66, .getfield 25, 13, 15, 0), (69, .iload 6, 0, 0, 0), (71, .iconst 4, 0, 0, 0), (72, .iadd, 0, 0, 0), (73, .iconst (-1), 0, 0, 0), (74, .iastore, 0, 0, 0),
  (75, .iload 5, 0, 0, 0), (77, .ireturn, 0, 0, 0)]
def mt_c219 : List (Nat × mmE) := [(0, .aload_n 0, 0, 0, 0), (1, .getfield 25, 13, 15, 0), (4, .iconst 5, 0, 0, 0), (5, .sipush 8400, 0, 0, 0), (8, .iload_n 1, 0, 0, 0), (9, .iadd, 0, 0, 0), (10, .imul, 0, 0, 0), (11, .iconst 4, 0, 0, 0),
  (12, .iadd, 0, 0, 0), (13, .iload_n 2, 0, 0, 0), (14, .iastore, 0, 0, 0), (15, .return_, 0, 0, 0)]
def mt_c220 : List (Nat × mmE) := [(0, .aload_n 0, 0, 0, 0), (1, .iload_n 1, 0, 0, 0), (2, .iload_n 2, 0, 0, 0), (3, .iload_n 3, 0, 0, 0), (4, .invokevirtual 341, 205, 4, 15), (7, .istore 5, 0, 0, 0), (9, .iload 5, 0, 0, 0), (11, .iconst (-1), 0, 0, 0),
  (12, .if_icmp .ne 25, 0, 0, 0), (15, .aload_n 0, 0, 0, 0), (16, .iload_n 1, 0, 0, 0), (17, .iload_n 2, 0, 0, 0), (18, .bipush 39, 0, 0, 0), (20, .invokevirtual 324, 199, 4, 15), (23, .istore 5, 0, 0, 0), (25, .aload_n 0, 0, 0, 0),
  (26, .iload_n 1, 0, 0, 0), (27, .iload_n 2, 0, 0, 0), (28, .bipush 39, 0, 0, 0), (30, .iload 5, 0, 0, 0), (32, .iconst 1, 0, 0, 0), (33, .iadd, 0, 0, 0), (34, .invokevirtual 337, 201, 5, 15), (37, .aload_n 0, 0, 0, 0),
  (38, .iload_n 1, 0, 0, 0), (39, .iload_n 2, 0, 0, 0), (40, .bipush 40, 0, 0, 0), (42, .iload 5, 0, 0, 0), (44, .iadd, 0, 0, 0), (45, .iload_n 3, 0, 0, 0), (46, .invokevirtual 337, 201, 5, 15), (49, .aload_n 0, 0, 0, 0),
  (50, .iload_n 1, 0, 0, 0), (51, .iload_n 2, 0, 0, 0), (52, .bipush 48, 0, 0, 0), (54, .iload 5, 0, 0, 0), (56, .iadd, 0, 0, 0), (57, .iload 4, 0, 0, 0), (59, .invokevirtual 337, 201, 5, 15), (62, .return_, 0, 0, 0)]
def mt_c221 : List (Nat × mmE) := [(0, .aload_n 0, 0, 0, 0), (1, .bipush 45, 0, 0, 0), (3, .invokevirtual 251, 203, 2, 15), (6, .istore_n 1, 0, 0, 0), (7, .iload_n 1, 0, 0, 0), (8, .ifCond .eq 7, 0, 0, 0), (11, .aload_n 0, 0, 0, 0), (12, .invokevirtual 257, 188, 1, 15),
  (15, .aload_n 0, 0, 0, 0), (16, .getfield 217, 13, 3, 0), (19, .iconst 3, 0, 0, 0), (20, .if_icmp .eq 9, 0, 0, 0), (23, .aload_n 0, 0, 0, 0), (24, .iconst 1, 0, 0, 0), (25, .invokevirtual 254, 194, 2, 15), (28, .ireturn, 1, 0, 0),
  (29, .aload_n 0, 0, 0, 0), (30, .iload_n 1, 0, 0, 0), (31, .ifCond .eq 11, 0, 0, 0), (34, .aload_n 0, 0, 0, 0), (35, .getfield 228, 13, 5, 0), (38, .ineg, 0, 0, 0), (39, .goto 7, 0, 0, 0), (42, .aload_n 0, 0, 0, 0),
  (43, .getfield 228, 13, 5, 0), (46, .putfield 344, 13, 24, 0), (49, .aload_n 0, 0, 0, 0), (50, .invokevirtual 257, 188, 1, 15), (53, .iconst 1, 0, 0, 0), (54, .ireturn, 1, 0, 0)]
def mt_c222 : List (Nat × mmE) := [(0, .aload_n 0, 0, 0, 0), (1, .iload_n 1, 0, 0, 0), (2, .iload_n 2, 0, 0, 0), (3, .bipush 30, 0, 0, 0), (5, .invokevirtual 324, 199, 4, 15), (8, .istore 5, 0, 0, 0), (10, .aload_n 0, 0, 0, 0), (11, .iload_n 1, 0, 0, 0),
  (12, .iload_n 2, 0, 0, 0), (13, .bipush 30, 0, 0, 0), (15, .iload 5, 0, 0, 0), (17, .iconst 1, 0, 0, 0), (18, .iadd, 0, 0, 0), (19, .invokevirtual 337, 201, 5, 15), (22, .aload_n 0, 0, 0, 0), (23, .iload_n 1, 0, 0, 0),
  (24, .iload_n 2, 0, 0, 0), (25, .bipush 31, 0, 0, 0), (27, .iload 5, 0, 0, 0), (29, .iadd, 0, 0, 0), (30, .iload_n 3, 0, 0, 0), (31, .invokevirtual 337, 201, 5, 15), (34, .aload_n 0, 0, 0, 0), (35, .iload_n 1, 0, 0, 0),
  (36, .iload_n 2, 0, 0, 0), (37, .bipush 35, 0, 0, 0), (39, .iload 5, 0, 0, 0), (41, .iadd, 0, 0, 0), (42, .iload 4, 0, 0, 0), (44, .invokevirtual 337, 201, 5, 15), (47, .return_, 0, 0, 0)]
def mt_c223 : List (Nat × mmE) := [(0, .aload_n 0, 0, 0, 0), (1, .iload_n 1, 0, 0, 0), (2, .iload_n 2, 0, 0, 0), (3, .iconst 5, 0, 0, 0), (4, .invokevirtual 324, 199, 4, 15), (7, .istore 5, 0, 0, 0), (9, .aload_n 0, 0, 0, 0), (10, .iload_n 1, 0, 0, 0),
  (11, .iload_n 2, 0, 0, 0), (12, .iconst 5, 0, 0, 0), (13, .iload 5, 0, 0, 0), (15, .iconst 1, 0, 0, 0), (16, .iadd, 0, 0, 0), (17, .invokevirtual 337, 201, 5, 15), (20, .aload_n 0, 0, 0, 0), (21, .iload_n 1, 0, 0, 0),
  (22, .iload_n 2, 0, 0, 0), (23, .bipush 6, 0, 0, 0), (25, .iload 5, 0, 0, 0), (27, .iadd, 0, 0, 0), (28, .iload_n 3, 0, 0, 0), (29, .invokevirtual 337, 201, 5, 15), (32, .aload_n 0, 0, 0, 0), (33, .iload_n 1, 0, 0, 0),
  (34, .iload_n 2, 0, 0, 0), (35, .bipush 14, 0, 0, 0), (37, .iload 5, 0, 0, 0), (39, .iadd, 0, 0, 0), (40, .iload 4, 0, 0, 0), (42, .invokevirtual 337, 201, 5, 15), (45, .aload_n 0, 0, 0, 0), (46, .iload_n 1, 0, 0, 0),
  (47, .iload_n 2, 0, 0, 0), (48, .bipush 22, 0, 0, 0), (50, .iload 5, 0, 0, 0), (52, .iadd, 0, 0, 0), (53, .iconst (-1), 0, 0, 0), (54, .invokevirtual 337, 201, 5, 15), (57, .return_, 0, 0, 0)]
def mt_c224 : List (Nat × mmE) := [(0, .aload_n 0, 0, 0, 0), (1, .aload_n 0, 0, 0, 0), (2, .getfield 238, 13, 11, 0), (5, .putfield 374, 13, 13, 0), (8, .aload_n 0, 0, 0, 0), (9, .aload_n 0, 0, 0, 0), (10, .getfield 238, 13, 11, 0), (13, .ifCond .ne 7, 0, 0, 0),
  (16, .iconst (-1), 0, 0, 0), (17, .goto 7, 0, 0, 0), (20, .aload_n 0, 0, 0, 0), (21, .getfield 241, 13, 12, 0), (24, .putfield 20, 13, 14, 0), (27, .aload_n 0, 0, 0, 0), (28, .iconst 0, 0, 0, 0), (29, .putfield 188, 13, 1, 0),
  (32, .return_, 0, 0, 0)]
def mt_c225 : List (Nat × mmE) := [(0, .iconst 0, 0, 0, 0), (1, .istore_n 2, 0, 0, 0), (2, .iload_n 2, 0, 0, 0), (3, .iconst 5, 0, 0, 0), (4, .aload_n 0, 0, 0, 0), (5, .getfield 244, 13, 16, 0), (8, .imul, 0, 0, 0), (9, .if_icmp .ge 31, 0, 0, 0),
  (12, .aload_n 0, 0, 0, 0), (13, .getfield 25, 13, 15, 0), (16, .sipush 6000, 0, 0, 0), (19, .iload_n 1, 0, 0, 0), (20, .imul, 0, 0, 0), (21, .iload_n 2, 0, 0, 0), (22, .iadd, 0, 0, 0), (23, .aload_n 0, 0, 0, 0),
  (24, .getfield 25, 13, 15, 0), (27, .ldc_w 377, 0, 42000, 0), (30, .iload_n 2, 0, 0, 0), (31, .iadd, 0, 0, 0), (32, .iaload, 0, 0, 0), (33, .iastore, 0, 0, 0), (34, .iinc 2 1, 0, 0, 0), (37, .goto (-35), 0, 0, 0),
  (40, .return_, 0, 0, 0)]
def mt_c226 : List (Nat × mmE) := [(0, .iconst 0, 0, 0, 0), (1, .istore_n 3, 0, 0, 0), (2, .iload_n 3, 0, 0, 0), (3, .sipush 769, 0, 0, 0), (6, .if_icmp .ge 33, 0, 0, 0), (9, .aload_n 0, 0, 0, 0), (10, .getfield 28, 13, 23, 0), (13, .sipush 769, 0, 0, 0),
  (16, .iload_n 2, 0, 0, 0), (17, .imul, 0, 0, 0), (18, .iload_n 3, 0, 0, 0), (19, .iadd, 0, 0, 0), (20, .aload_n 0, 0, 0, 0), (21, .getfield 28, 13, 23, 0), (24, .sipush 769, 0, 0, 0), (27, .iload_n 1, 0, 0, 0),
  (28, .imul, 0, 0, 0), (29, .iload_n 3, 0, 0, 0), (30, .iadd, 0, 0, 0), (31, .iaload, 0, 0, 0), (32, .iastore, 0, 0, 0), (33, .iinc 3 1, 0, 0, 0), (36, .goto (-34), 0, 0, 0), (39, .return_, 0, 0, 0)]
def mt_c227 : List (Nat × mmE) := [(0, .aload_n 0, 0, 0, 0), (1, .getfield 397, 13, 25, 0), (4, .bipush 6, 0, 0, 0), (6, .if_icmp .ne 14, 0, 0, 0), (9, .aload_n 0, 0, 0, 0), (10, .iconst 0, 0, 0, 0), (11, .putfield 238, 13, 11, 0), (14, .aload_n 0, 0, 0, 0),
  (15, .invokevirtual 384, 224, 1, 15), (18, .iconst (-1), 0, 0, 0), (19, .ireturn, 0, 0, 0), (20, .aload_n 0, 0, 0, 0), (21, .invokevirtual 378, 184, 1, 15), (24, .aload_n 0, 0, 0, 0), (25, .invokevirtual 412, 228, 1, 15), (28, .istore_n 1, 0, 0, 0),
  (29, .aload_n 0, 0, 0, 0), (30, .getfield 302, 13, 22, 0), (33, .istore_n 2, 0, 0, 0), (34, .aload_n 0, 0, 0, 0), (35, .getfield 302, 13, 22, 0), (38, .istore_n 3, 0, 0, 0), (39, .iload_n 1, 0, 0, 0), (40, .ifCond .eq 39, 0, 0, 0),
  (43, .aload_n 0, 0, 0, 0), (44, .getfield 217, 13, 3, 0), (47, .ifCond .eq 32, 0, 0, 0), (50, .aload_n 0, 0, 0, 0), (51, .invokevirtual 412, 228, 1, 15), (54, .istore_n 1, 0, 0, 0), (55, .iload_n 1, 0, 0, 0), (56, .ifCond .ne 6, 0, 0, 0),
  (59, .goto (-20), 0, 0, 0), (62, .aload_n 0, 0, 0, 0), (63, .iload_n 3, 0, 0, 0), (64, .aload_n 0, 0, 0, 0), (65, .getfield 302, 13, 22, 0), (68, .invokevirtual 305, 219, 3, 15), (71, .aload_n 0, 0, 0, 0), (72, .getfield 302, 13, 22, 0),
  (75, .istore_n 3, 0, 0, 0), (76, .goto (-37), 0, 0, 0), (79, .aload_n 0, 0, 0, 0), (80, .invokevirtual 384, 224, 1, 15), (83, .iload_n 1, 0, 0, 0), (84, .ifCond .ne 5, 0, 0, 0), (87, .iconst (-1), 0, 0, 0), (88, .ireturn, 0, 0, 0),
  (89, .aload_n 0, 0, 0, 0), (90, .aload_n 0, 0, 0, 0), (91, .getfield 397, 13, 25, 0), (94, .iconst 1, 0, 0, 0), (95, .iadd, 0, 0, 0), (96, .invokevirtual 387, 225, 2, 15), (99, .aload_n 0, 0, 0, 0), (100, .getfield 40, 13, 31, 0),
  (103, .aload_n 0, 0, 0, 0), (104, .getfield 397, 13, 25, 0), (107, .sipush 1200, 0, 0, 0), (110, .aload_n 0, 0, 0, 0), (111, .getfield 397, 13, 25, 0), (114, .iconst 1, 0, 0, 0), (115, .iadd, 0, 0, 0), (116, .imul, 0, 0, 0),
  (117, .iload_n 2, 0, 0, 0), (118, .iadd, 0, 0, 0), (119, .iastore, 0, 0, 0), (120, .aload_n 0, 0, 0, 0), (121, .getfield 43, 13, 32, 0), (124, .aload_n 0, 0, 0, 0), (125, .getfield 397, 13, 25, 0), (128, .iconst 0, 0, 0, 0),
  (129, .iastore, 0, 0, 0), (130, .aload_n 0, 0, 0, 0), (131, .dup, 0, 0, 0), (132, .getfield 397, 13, 25, 0), (135, .iconst 1, 0, 0, 0), (136, .iadd, 0, 0, 0), (137, .putfield 397, 13, 25, 0), (140, .aload_n 0, 0, 0, 0),
  (141, .getfield 397, 13, 25, 0), (144, .iconst 1, 0, 0, 0), (145, .isub, 0, 0, 0), (146, .ireturn, 0, 0, 0)]
def mt_c228 : List (Nat × mmE) := [(0, .aload_n 0, 0, 0, 0), (1, .getfield 217, 13, 3, 0), (4, .istore_n 1, 0, 0, 0), (5, .iload_n 1, 0, 0, 0), (6, .bipush 100, 0, 0, 0), (8, .if_icmp .eq 26, 0, 0, 0), (11, .iload_n 1, 0, 0, 0), (12, .bipush 116, 0, 0, 0),
  (14, .bipush 118, 0, 0, 0), (16, .invokestatic 191, 191, 3, 0), (19, .ifCond .ne 15, 0, 0, 0), (22, .iload_n 1, 0, 0, 0), (23, .bipush 121, 0, 0, 0), (25, .if_icmp .eq 9, 0, 0, 0), (28, .aload_n 0, 0, 0, 0), (29, .iconst 1, 0, 0, 0),
  (30, .invokevirtual 254, 194, 2, 15), (33, .ireturn, 1, 0, 0), (34, .aload_n 0, 0, 0, 0), (35, .invokevirtual 257, 188, 1, 15), (38, .aload_n 0, 0, 0, 0), (39, .invokevirtual 276, 196, 1, 15), (42, .ifCond .ne 5, 0, 0, 0), (45, .iconst 0, 0, 0, 0),
  (46, .ireturn, 1, 0, 0), (47, .aload_n 0, 0, 0, 0), (48, .getfield 263, 13, 17, 0), (51, .istore_n 2, 0, 0, 0), (52, .iload_n 1, 0, 0, 0), (53, .bipush 100, 0, 0, 0), (55, .if_icmp .ne 45, 0, 0, 0), (58, .aload_n 0, 0, 0, 0),
  (59, .invokevirtual 406, 229, 1, 15), (62, .ifCond .ne 5, 0, 0, 0), (65, .iconst 0, 0, 0, 0), (66, .ireturn, 1, 0, 0), (67, .aload_n 0, 0, 0, 0), (68, .getfield 344, 13, 24, 0), (71, .istore_n 3, 0, 0, 0), (72, .aload_n 0, 0, 0, 0),
  (73, .iconst 0, 0, 0, 0), (74, .invokevirtual 409, 230, 2, 15), (77, .ifCond .ne 5, 0, 0, 0), (80, .iconst 0, 0, 0, 0), (81, .ireturn, 1, 0, 0), (82, .aload_n 0, 0, 0, 0), (83, .aload_n 0, 0, 0, 0), (84, .bipush 40, 0, 0, 0),
  (86, .iload_n 2, 0, 0, 0), (87, .iload_n 3, 0, 0, 0), (88, .aload_n 0, 0, 0, 0), (89, .getfield 309, 13, 21, 0), (92, .invokevirtual 269, 218, 5, 15), (95, .putfield 302, 13, 22, 0), (98, .iconst 1, 0, 0, 0), (99, .ireturn, 1, 0, 0),
  (100, .iload_n 1, 0, 0, 0), (101, .bipush 116, 0, 0, 0), (103, .if_icmp .ne 31, 0, 0, 0), (106, .aload_n 0, 0, 0, 0), (107, .iconst 1, 0, 0, 0), (108, .invokevirtual 409, 230, 2, 15), (111, .ifCond .ne 5, 0, 0, 0), (114, .iconst 0, 0, 0, 0),
  (115, .ireturn, 1, 0, 0), (116, .aload_n 0, 0, 0, 0), (117, .aload_n 0, 0, 0, 0), (118, .bipush 41, 0, 0, 0), (120, .iload_n 2, 0, 0, 0), (121, .iconst 0, 0, 0, 0), (122, .aload_n 0, 0, 0, 0), (123, .getfield 309, 13, 21, 0),
  (126, .invokevirtual 269, 218, 5, 15), (129, .putfield 302, 13, 22, 0), (132, .iconst 1, 0, 0, 0), (133, .ireturn, 1, 0, 0), (134, .iload_n 1, 0, 0, 0), (135, .bipush 121, 0, 0, 0), (137, .if_icmp .ne 40, 0, 0, 0), (140, .aload_n 0, 0, 0, 0),
  (141, .iconst 0, 0, 0, 0), (142, .putfield 266, 13, 18, 0), (145, .aload_n 0, 0, 0, 0), (146, .invokevirtual 286, 214, 1, 15), (149, .ifCond .ne 5, 0, 0, 0), (152, .iconst 0, 0, 0, 0), (153, .ireturn, 1, 0, 0), (154, .aload_n 0, 0, 0, 0),
  (155, .aload_n 0, 0, 0, 0), (156, .bipush 44, 0, 0, 0), (158, .iload_n 2, 0, 0, 0), (159, .aload_n 0, 0, 0, 0), (160, .getfield 273, 13, 19, 0), (163, .iconst 0, 0, 0, 0), (164, .invokevirtual 269, 218, 5, 15), (167, .putfield 302, 13, 22, 0),
  (170, .aload_n 0, 0, 0, 0), (171, .bipush 59, 0, 0, 0), (173, .invokevirtual 289, 202, 2, 15), (176, .ireturn, 1, 0, 0), (177, .iload_n 1, 0, 0, 0), (178, .bipush 118, 0, 0, 0), (180, .if_icmp .ne 12, 0, 0, 0), (183, .aload_n 0, 0, 0, 0),
  (184, .invokevirtual 406, 229, 1, 15), (187, .ifCond .ne 5, 0, 0, 0), (190, .iconst 0, 0, 0, 0), (191, .ireturn, 1, 0, 0), (192, .aload_n 0, 0, 0, 0), (193, .aload_n 0, 0, 0, 0), (194, .iload_n 1, 0, 0, 0), (195, .bipush 117, 0, 0, 0),
  (197, .if_icmp .ne 8, 0, 0, 0), (200, .bipush 42, 0, 0, 0), (202, .goto 5, 0, 0, 0), (205, .bipush 43, 0, 0, 0), (207, .iload_n 2, 0, 0, 0), (208, .aload_n 0, 0, 0, 0), (209, .getfield 344, 13, 24, 0), (212, .iconst 0, 0, 0, 0),
  (213, .invokevirtual 269, 218, 5, 15), (216, .putfield 302, 13, 22, 0), (219, .aload_n 0, 0, 0, 0), (220, .bipush 59, 0, 0, 0), (222, .invokevirtual 289, 202, 2, 15), (225, .ireturn, 1, 0, 0)]
def mt_c229 : List (Nat × mmE) := [(0, .aload_n 0, 0, 0, 0), (1, .iconst (-1), 0, 0, 0), (2, .putfield 344, 13, 24, 0), (5, .aload_n 0, 0, 0, 0), (6, .getfield 217, 13, 3, 0), (9, .bipush 101, 0, 0, 0), (11, .if_icmp .eq 5, 0, 0, 0), (14, .iconst 1, 0, 0, 0),
  (15, .ireturn, 1, 0, 0), (16, .aload_n 0, 0, 0, 0), (17, .invokevirtual 257, 188, 1, 15), (20, .aload_n 0, 0, 0, 0), (21, .invokevirtual 276, 196, 1, 15), (24, .ifCond .ne 5, 0, 0, 0), (27, .iconst 0, 0, 0, 0), (28, .ireturn, 1, 0, 0),
  (29, .aload_n 0, 0, 0, 0), (30, .aload_n 0, 0, 0, 0), (31, .getfield 263, 13, 17, 0), (34, .putfield 344, 13, 24, 0), (37, .iconst 1, 0, 0, 0), (38, .ireturn, 1, 0, 0)]
def mt_c230 : List (Nat × mmE) := [(0, .aload_n 0, 0, 0, 0), (1, .bipush 123, 0, 0, 0), (3, .invokevirtual 289, 202, 2, 15), (6, .ifCond .ne 5, 0, 0, 0), (9, .iconst 0, 0, 0, 0), (10, .ireturn, 1, 0, 0), (11, .iconst (-1), 0, 0, 0), (12, .istore_n 2, 0, 0, 0),
  (13, .iconst (-1), 0, 0, 0), (14, .istore_n 3, 0, 0, 0), (15, .aload_n 0, 0, 0, 0), (16, .bipush 125, 0, 0, 0), (18, .invokevirtual 251, 203, 2, 15), (21, .ifCond .ne 57, 0, 0, 0), (24, .iload_n 1, 0, 0, 0), (25, .ifCond .eq 13, 0, 0, 0),
  (28, .aload_n 0, 0, 0, 0), (29, .invokevirtual 403, 231, 1, 15), (32, .ifCond .ne 16, 0, 0, 0), (35, .goto 11, 0, 0, 0), (38, .aload_n 0, 0, 0, 0), (39, .iconst (-1), 0, 0, 0), (40, .invokevirtual 368, 204, 2, 15), (43, .ifCond .ne 5, 0, 0, 0),
  (46, .iconst 0, 0, 0, 0), (47, .ireturn, 1, 0, 0), (48, .iload_n 2, 0, 0, 0), (49, .iconst (-1), 0, 0, 0), (50, .if_icmp .ne 11, 0, 0, 0), (53, .aload_n 0, 0, 0, 0), (54, .getfield 302, 13, 22, 0), (57, .istore_n 2, 0, 0, 0),
  (58, .goto 12, 0, 0, 0), (61, .aload_n 0, 0, 0, 0), (62, .iload_n 3, 0, 0, 0), (63, .aload_n 0, 0, 0, 0), (64, .getfield 302, 13, 22, 0), (67, .invokevirtual 305, 219, 3, 15), (70, .aload_n 0, 0, 0, 0), (71, .getfield 302, 13, 22, 0),
  (74, .istore_n 3, 0, 0, 0), (75, .goto (-60), 0, 0, 0), (78, .aload_n 0, 0, 0, 0), (79, .invokevirtual 257, 188, 1, 15), (82, .aload_n 0, 0, 0, 0), (83, .iload_n 2, 0, 0, 0), (84, .putfield 309, 13, 21, 0), (87, .iconst 1, 0, 0, 0),
  (88, .ireturn, 1, 0, 0)]
def mt_c231 : List (Nat × mmE) := [(0, .aload_n 0, 0, 0, 0), (1, .getfield 217, 13, 3, 0), (4, .bipush 117, 0, 0, 0), (6, .if_icmp .ne 39, 0, 0, 0), (9, .aload_n 0, 0, 0, 0), (10, .invokevirtual 257, 188, 1, 15), (13, .aload_n 0, 0, 0, 0), (14, .invokevirtual 276, 196, 1, 15),
  (17, .ifCond .ne 5, 0, 0, 0), (20, .iconst 0, 0, 0, 0), (21, .ireturn, 1, 0, 0), (22, .aload_n 0, 0, 0, 0), (23, .aload_n 0, 0, 0, 0), (24, .bipush 33, 0, 0, 0), (26, .aload_n 0, 0, 0, 0), (27, .getfield 263, 13, 17, 0),
  (30, .iconst 0, 0, 0, 0), (31, .iconst 0, 0, 0, 0), (32, .invokevirtual 269, 218, 5, 15), (35, .putfield 302, 13, 22, 0), (38, .aload_n 0, 0, 0, 0), (39, .bipush 59, 0, 0, 0), (41, .invokevirtual 289, 202, 2, 15), (44, .ireturn, 1, 0, 0),
  (45, .aload_n 0, 0, 0, 0), (46, .getfield 217, 13, 3, 0), (49, .bipush 119, 0, 0, 0), (51, .if_icmp .ne 53, 0, 0, 0), (54, .aload_n 0, 0, 0, 0), (55, .invokevirtual 257, 188, 1, 15), (58, .aload_n 0, 0, 0, 0), (59, .invokevirtual 276, 196, 1, 15),
  (62, .ifCond .ne 5, 0, 0, 0), (65, .iconst 0, 0, 0, 0), (66, .ireturn, 1, 0, 0), (67, .aload_n 0, 0, 0, 0), (68, .getfield 263, 13, 17, 0), (71, .istore_n 1, 0, 0, 0), (72, .aload_n 0, 0, 0, 0), (73, .invokevirtual 276, 196, 1, 15),
  (76, .ifCond .ne 5, 0, 0, 0), (79, .iconst 0, 0, 0, 0), (80, .ireturn, 1, 0, 0), (81, .aload_n 0, 0, 0, 0), (82, .aload_n 0, 0, 0, 0), (83, .bipush 34, 0, 0, 0), (85, .iload_n 1, 0, 0, 0), (86, .aload_n 0, 0, 0, 0),
  (87, .getfield 263, 13, 17, 0), (90, .iconst 0, 0, 0, 0), (91, .invokevirtual 269, 218, 5, 15), (94, .putfield 302, 13, 22, 0), (97, .aload_n 0, 0, 0, 0), (98, .bipush 59, 0, 0, 0), (100, .invokevirtual 289, 202, 2, 15), (103, .ireturn, 1, 0, 0),
  (104, .aload_n 0, 0, 0, 0), (105, .getfield 217, 13, 3, 0), (108, .bipush 120, 0, 0, 0), (110, .if_icmp .eq 9, 0, 0, 0), (113, .aload_n 0, 0, 0, 0), (114, .iconst (-1), 0, 0, 0), (115, .invokevirtual 368, 204, 2, 15), (118, .ireturn, 1, 0, 0),
  (119, .aload_n 0, 0, 0, 0), (120, .invokevirtual 257, 188, 1, 15), (123, .aload_n 0, 0, 0, 0), (124, .invokevirtual 276, 196, 1, 15), (127, .ifCond .ne 5, 0, 0, 0), (130, .iconst 0, 0, 0, 0), (131, .ireturn, 1, 0, 0), (132, .aload_n 0, 0, 0, 0),
  (133, .getfield 263, 13, 17, 0), (136, .istore_n 1, 0, 0, 0), (137, .aload_n 0, 0, 0, 0), (138, .iconst 0, 0, 0, 0), (139, .putfield 266, 13, 18, 0), (142, .aload_n 0, 0, 0, 0), (143, .invokevirtual 286, 214, 1, 15), (146, .ifCond .ne 5, 0, 0, 0),
  (149, .iconst 0, 0, 0, 0), (150, .ireturn, 1, 0, 0), (151, .aload_n 0, 0, 0, 0), (152, .aload_n 0, 0, 0, 0), (153, .bipush 35, 0, 0, 0), (155, .iload_n 1, 0, 0, 0), (156, .aload_n 0, 0, 0, 0), (157, .getfield 273, 13, 19, 0),
  (160, .iconst 0, 0, 0, 0), (161, .invokevirtual 269, 218, 5, 15), (164, .putfield 302, 13, 22, 0), (167, .aload_n 0, 0, 0, 0), (168, .bipush 59, 0, 0, 0), (170, .invokevirtual 289, 202, 2, 15), (173, .ireturn, 1, 0, 0)]
def mt_c232 : List (Nat × mmE) := [(0, .iload_n 1, 0, 0, 0), (1, .ifCond .ne 10, 0, 0, 0), (4, .aload_n 0, 0, 0, 0), (5, .getfield 374, 13, 13, 0), (8, .goto 16, 0, 0, 0), (11, .iload_n 1, 0, 0, 0), (12, .iconst 1, 0, 0, 0), (13, .if_icmp .ne 10, 0, 0, 0),
  (16, .aload_n 0, 0, 0, 0), (17, .getfield 20, 13, 14, 0), (20, .goto 4, 0, 0, 0), (23, .iconst (-1), 0, 0, 0), (24, .ireturn, 0, 0, 0)]
def mt_c233 : List (Nat × mmE) := [(0, .aload_n 0, 0, 0, 0), (1, .getfield 188, 13, 1, 0), (4, .bipush 20, 0, 0, 0), (6, .iadd, 0, 0, 0), (7, .sipush 1000, 0, 0, 0), (10, .if_icmp .le 5, 0, 0, 0), (13, .iconst (-1), 0, 0, 0), (14, .ireturn, 0, 0, 0),
  (15, .iconst 0, 0, 0, 0), (16, .istore 6, 0, 0, 0), (18, .iload 6, 0, 0, 0), (20, .bipush 20, 0, 0, 0), (22, .if_icmp .ge 93, 0, 0, 0), (25, .iload 6, 0, 0, 0), (27, .iconst 4, 0, 0, 0), (28, .if_icmp .ge 7, 0, 0, 0),
  (31, .iload_n 1, 0, 0, 0), (32, .goto 39, 0, 0, 0), (35, .iload 6, 0, 0, 0), (37, .bipush 8, 0, 0, 0), (39, .if_icmp .ge 7, 0, 0, 0), (42, .iload_n 2, 0, 0, 0), (43, .goto 28, 0, 0, 0), (46, .iload 6, 0, 0, 0),
  (48, .bipush 12, 0, 0, 0), (50, .if_icmp .ge 7, 0, 0, 0), (53, .iload_n 3, 0, 0, 0), (54, .goto 17, 0, 0, 0), (57, .iload 6, 0, 0, 0), (59, .bipush 16, 0, 0, 0), (61, .if_icmp .ge 8, 0, 0, 0), (64, .iload 4, 0, 0, 0),
  (66, .goto 5, 0, 0, 0), (69, .iload 5, 0, 0, 0), (71, .istore 7, 0, 0, 0), (73, .aload_n 0, 0, 0, 0), (74, .getfield 7, 13, 0, 0), (77, .aload_n 0, 0, 0, 0), (78, .getfield 188, 13, 1, 0), (81, .iload 7, 0, 0, 0),
  (83, .bipush 24, 0, 0, 0), (85, .bipush 8, 0, 0, 0), (87, .iload 6, 0, 0, 0), (89, .iconst 4, 0, 0, 0), (90, .irem, 0, 0, 0), (91, .imul, 0, 0, 0), (92, .isub, 0, 0, 0), (93, .ishr, 0, 0, 0),
  (94, .sipush 255, 0, 0, 0), (97, .iand, 0, 0, 0), (98, .iastore, 0, 0, 0), (99, .aload_n 0, 0, 0, 0), (100, .dup, 0, 0, 0), (101, .getfield 188, 13, 1, 0), (104, .iconst 1, 0, 0, 0), (105, .iadd, 0, 0, 0),
  (106, .putfield 188, 13, 1, 0), (109, .iinc 6 1, 0, 0, 0), (112, .goto (-94), 0, 0, 0), (115, .aload_n 0, 0, 0, 0), (116, .getfield 188, 13, 1, 0), (119, .ireturn, 0, 0, 0)]
def mt_c234 : List (Nat × mmE) := [(0, .iload_n 1, 0, 0, 0), (1, .iconst 0, 0, 0, 0), (2, .aload_n 0, 0, 0, 0), (3, .getfield 188, 13, 1, 0), (6, .invokestatic 191, 191, 3, 0), (9, .ifCond .ne 5, 0, 0, 0), (12, .iconst 0, 0, 0, 0), (13, .ireturn, 1, 0, 0),
  (14, .aload_n 0, 0, 0, 0), (15, .iload_n 1, 0, 0, 0), (16, .putfield 188, 13, 1, 0), (19, .iconst 1, 0, 0, 0), (20, .ireturn, 1, 0, 0)]
def mt_c235 : List (Nat × mmE) := [(0, .aload_n 0, 0, 0, 0), (1, .getfield 374, 13, 13, 0), (4, .istore_n 1, 0, 0, 0), (5, .aload_n 0, 0, 0, 0), (6, .getfield 20, 13, 14, 0), (9, .istore_n 2, 0, 0, 0), (10, .aload_n 0, 0, 0, 0), (11, .invokevirtual 378, 184, 1, 15),
  (14, .aload_n 0, 0, 0, 0), (15, .getfield 217, 13, 3, 0), (18, .iconst 2, 0, 0, 0), (19, .if_icmp .ne 21, 0, 0, 0), (22, .aload_n 0, 0, 0, 0), (23, .invokevirtual 276, 196, 1, 15), (26, .ifCond .eq 14, 0, 0, 0), (29, .aload_n 0, 0, 0, 0),
  (30, .getfield 217, 13, 3, 0), (33, .ifCond .ne 7, 0, 0, 0), (36, .iconst 1, 0, 0, 0), (37, .goto 4, 0, 0, 0), (40, .iconst 0, 0, 0, 0), (41, .istore_n 3, 0, 0, 0), (42, .aload_n 0, 0, 0, 0), (43, .iconst 0, 0, 0, 0),
  (44, .putfield 238, 13, 11, 0), (47, .aload_n 0, 0, 0, 0), (48, .iconst 0, 0, 0, 0), (49, .putfield 188, 13, 1, 0), (52, .aload_n 0, 0, 0, 0), (53, .iload_n 1, 0, 0, 0), (54, .putfield 374, 13, 13, 0), (57, .aload_n 0, 0, 0, 0),
  (58, .iload_n 2, 0, 0, 0), (59, .putfield 20, 13, 14, 0), (62, .iload_n 3, 0, 0, 0), (63, .ifCond .eq 10, 0, 0, 0), (66, .aload_n 0, 0, 0, 0), (67, .getfield 263, 13, 17, 0), (70, .goto 4, 0, 0, 0), (73, .iconst (-1), 0, 0, 0),
  (74, .ireturn, 0, 0, 0)]
def mt_c236 : List (Nat × mmE) := [(0, .aload_n 0, 0, 0, 0), (1, .iconst 0, 0, 0, 0), (2, .iload_n 1, 0, 0, 0), (3, .invokevirtual 362, 197, 3, 15), (6, .istore_n 2, 0, 0, 0), (7, .iload_n 2, 0, 0, 0), (8, .iconst (-1), 0, 0, 0), (9, .if_icmp .eq 12, 0, 0, 0),
  (12, .aload_n 0, 0, 0, 0), (13, .getfield 394, 13, 33, 0), (16, .bipush 40, 0, 0, 0), (18, .if_icmp .ne 5, 0, 0, 0), (21, .iconst (-1), 0, 0, 0), (22, .ireturn, 0, 0, 0), (23, .aload_n 0, 0, 0, 0), (24, .getfield 394, 13, 33, 0),
  (27, .istore_n 3, 0, 0, 0), (28, .aload_n 0, 0, 0, 0), (29, .dup, 0, 0, 0), (30, .getfield 394, 13, 33, 0), (33, .iconst 1, 0, 0, 0), (34, .iadd, 0, 0, 0), (35, .putfield 394, 13, 33, 0), (38, .aload_n 0, 0, 0, 0),
  (39, .getfield 46, 13, 34, 0), (42, .iload_n 3, 0, 0, 0), (43, .iconst 1, 0, 0, 0), (44, .bastore, 0, 0, 0), (45, .aload_n 0, 0, 0, 0), (46, .getfield 50, 13, 35, 0), (49, .iload_n 3, 0, 0, 0), (50, .iload_n 2, 0, 0, 0),
  (51, .iastore, 0, 0, 0), (52, .iconst 0, 0, 0, 0), (53, .istore 4, 0, 0, 0), (55, .iload 4, 0, 0, 0), (57, .bipush 40, 0, 0, 0), (59, .if_icmp .ge 73, 0, 0, 0), (62, .aload_n 0, 0, 0, 0), (63, .iconst 0, 0, 0, 0),
  (64, .iload_n 2, 0, 0, 0), (65, .iload 4, 0, 0, 0), (67, .invokevirtual 415, 237, 4, 15), (70, .istore 5, 0, 0, 0), (72, .aload_n 0, 0, 0, 0), (73, .getfield 53, 13, 36, 0), (76, .bipush 40, 0, 0, 0), (78, .iload_n 3, 0, 0, 0),
  (79, .imul, 0, 0, 0), (80, .iload 4, 0, 0, 0), (82, .iadd, 0, 0, 0), (83, .iload 5, 0, 0, 0), (85, .iconst (-1), 0, 0, 0), (86, .if_icmp .ne 7, 0, 0, 0), (89, .iconst 0, 0, 0, 0), (90, .goto 22, 0, 0, 0),
  (93, .aload_n 0, 0, 0, 0), (94, .iconst 0, 0, 0, 0), (95, .iload 5, 0, 0, 0), (97, .bipush 14, 0, 0, 0), (99, .aload_n 0, 0, 0, 0), (100, .iconst 0, 0, 0, 0), (101, .iload 5, 0, 0, 0), (103, .iload 4, 0, 0, 0),
  (105, .invokevirtual 328, 207, 4, 15), (108, .iadd, 0, 0, 0), (109, .invokevirtual 324, 199, 4, 15), (112, .iastore, 0, 0, 0), (113, .aload_n 0, 0, 0, 0), (114, .getfield 59, 13, 38, 0), (117, .bipush 40, 0, 0, 0), (119, .iload_n 3, 0, 0, 0),
  (120, .imul, 0, 0, 0), (121, .iload 4, 0, 0, 0), (123, .iadd, 0, 0, 0), (124, .iconst 0, 0, 0, 0), (125, .bastore, 0, 0, 0), (126, .iinc 4 1, 0, 0, 0), (129, .goto (-74), 0, 0, 0), (132, .aload_n 0, 0, 0, 0),
  (133, .getfield 92, 13, 61, 0), (136, .iload_n 3, 0, 0, 0), (137, .iconst 3, 0, 0, 0), (138, .iastore, 0, 0, 0), (139, .iload_n 3, 0, 0, 0), (140, .ireturn, 0, 0, 0)]
def mt_c237 : List (Nat × mmE) := [(0, .iload_n 2, 0, 0, 0), (1, .istore 4, 0, 0, 0), (3, .iload 4, 0, 0, 0), (5, .iconst (-1), 0, 0, 0), (6, .if_icmp .eq 28, 0, 0, 0), (9, .aload_n 0, 0, 0, 0), (10, .iload_n 1, 0, 0, 0), (11, .iload 4, 0, 0, 0),
  (13, .iload_n 3, 0, 0, 0), (14, .invokevirtual 328, 207, 4, 15), (17, .iconst (-1), 0, 0, 0), (18, .if_icmp .ne 16, 0, 0, 0), (21, .aload_n 0, 0, 0, 0), (22, .iload_n 1, 0, 0, 0), (23, .iload 4, 0, 0, 0), (25, .iconst 1, 0, 0, 0),
  (26, .invokevirtual 324, 199, 4, 15), (29, .istore 4, 0, 0, 0), (31, .goto (-28), 0, 0, 0), (34, .iload 4, 0, 0, 0), (36, .ireturn, 0, 0, 0)]
def mt_c238 : List (Nat × mmE) := [(0, .aload_n 0, 0, 0, 0), (1, .iconst 0, 0, 0, 0), (2, .invokevirtual 321, 198, 2, 15), (5, .ireturn, 0, 0, 0)]
def mt_c239 : List (Nat × mmE) := [(0, .iload_n 1, 0, 0, 0), (1, .iconst 0, 0, 0, 0), (2, .aload_n 0, 0, 0, 0), (3, .iconst 0, 0, 0, 0), (4, .invokevirtual 321, 198, 2, 15), (7, .iconst 1, 0, 0, 0), (8, .isub, 0, 0, 0), (9, .invokestatic 191, 191, 3, 0),
  (12, .ifCond .ne 5, 0, 0, 0), (15, .iconst (-1), 0, 0, 0), (16, .ireturn, 0, 0, 0), (17, .iload_n 2, 0, 0, 0), (18, .tableswitch 109 0 5 #[38, 46, 75, 83, 91, 100], 0, 0, 0), (56, .aload_n 0, 0, 0, 0), (57, .iconst 0, 0, 0, 0), (58, .iload_n 1, 0, 0, 0),
  (59, .iconst 0, 0, 0, 0), (60, .invokevirtual 324, 199, 4, 15), (63, .ireturn, 0, 0, 0), (64, .aload_n 0, 0, 0, 0), (65, .iconst 0, 0, 0, 0), (66, .iload_n 1, 0, 0, 0), (67, .iconst 1, 0, 0, 0), (68, .invokevirtual 324, 199, 4, 15),
  (71, .iconst (-1), 0, 0, 0), (72, .if_icmp .ne 7, 0, 0, 0), (75, .iconst (-1), 0, 0, 0), (76, .goto 16, 0, 0, 0), (79, .aload_n 0, 0, 0, 0), (80, .iconst 0, 0, 0, 0), (81, .aload_n 0, 0, 0, 0), (82, .iconst 0, 0, 0, 0),
  (83, .iload_n 1, 0, 0, 0), (84, .iconst 1, 0, 0, 0), (85, .invokevirtual 324, 199, 4, 15), (88, .iconst 0, 0, 0, 0), (89, .invokevirtual 324, 199, 4, 15), (92, .ireturn, 0, 0, 0), (93, .aload_n 0, 0, 0, 0), (94, .iconst 0, 0, 0, 0),
  (95, .iload_n 1, 0, 0, 0), (96, .iconst 2, 0, 0, 0), (97, .invokevirtual 324, 199, 4, 15), (100, .ireturn, 0, 0, 0), (101, .aload_n 0, 0, 0, 0), (102, .iconst 0, 0, 0, 0), (103, .iload_n 1, 0, 0, 0), (104, .iconst 5, 0, 0, 0),
  (105, .invokevirtual 324, 199, 4, 15), (108, .ireturn, 0, 0, 0), (109, .aload_n 0, 0, 0, 0), (110, .iconst 0, 0, 0, 0), (111, .iload_n 1, 0, 0, 0), (112, .bipush 30, 0, 0, 0), (114, .invokevirtual 324, 199, 4, 15), (117, .ireturn, 0, 0, 0),
  (118, .aload_n 0, 0, 0, 0), (119, .iconst 0, 0, 0, 0), (120, .iload_n 1, 0, 0, 0), (121, .bipush 39, 0, 0, 0), (123, .invokevirtual 324, 199, 4, 15), (126, .ireturn, 0, 0, 0), (127, .iconst (-1), 0, 0, 0), (128, .ireturn, 0, 0, 0)]
def mt_c240 : List (Nat × mmE) := [(0, .aload_n 0, 0, 0, 0), (1, .iload_n 1, 0, 0, 0), (2, .invokevirtual 418, 241, 2, 15), (5, .ifCond .eq 18, 0, 0, 0), (8, .aload_n 0, 0, 0, 0), (9, .iconst 0, 0, 0, 0), (10, .aload_n 0, 0, 0, 0), (11, .getfield 50, 13, 35, 0),
  (14, .iload_n 1, 0, 0, 0), (15, .iaload, 0, 0, 0), (16, .iconst 0, 0, 0, 0), (17, .invokevirtual 324, 199, 4, 15), (20, .goto 4, 0, 0, 0), (23, .iconst (-1), 0, 0, 0), (24, .ireturn, 0, 0, 0)]
def mt_c241 : List (Nat × mmE) := [(0, .iload_n 1, 0, 0, 0), (1, .iconst 0, 0, 0, 0), (2, .aload_n 0, 0, 0, 0), (3, .getfield 394, 13, 33, 0), (6, .iconst 1, 0, 0, 0), (7, .isub, 0, 0, 0), (8, .invokestatic 191, 191, 3, 0), (11, .ifCond .eq 16, 0, 0, 0),
  (14, .aload_n 0, 0, 0, 0), (15, .getfield 46, 13, 34, 0), (18, .iload_n 1, 0, 0, 0), (19, .baload, 0, 0, 0), (20, .ifCond .eq 7, 0, 0, 0), (23, .iconst 1, 0, 0, 0), (24, .goto 4, 0, 0, 0), (27, .iconst 0, 0, 0, 0),
  (28, .ireturn, 1, 0, 0)]
def mt_c242 : List (Nat × mmE) := [(0, .aload_n 0, 0, 0, 0), (1, .iload_n 1, 0, 0, 0), (2, .invokevirtual 418, 241, 2, 15), (5, .ifCond .eq 18, 0, 0, 0), (8, .aload_n 0, 0, 0, 0), (9, .iconst 0, 0, 0, 0), (10, .aload_n 0, 0, 0, 0), (11, .getfield 50, 13, 35, 0),
  (14, .iload_n 1, 0, 0, 0), (15, .iaload, 0, 0, 0), (16, .iconst 2, 0, 0, 0), (17, .invokevirtual 324, 199, 4, 15), (20, .goto 4, 0, 0, 0), (23, .iconst (-1), 0, 0, 0), (24, .ireturn, 0, 0, 0)]
def mt_c243 : List (Nat × mmE) := [(0, .aload_n 0, 0, 0, 0), (1, .iload_n 1, 0, 0, 0), (2, .invokevirtual 418, 241, 2, 15), (5, .ifCond .eq 30, 0, 0, 0), (8, .iload_n 2, 0, 0, 0), (9, .invokestatic 421, 244, 1, 0), (12, .ifCond .eq 23, 0, 0, 0), (15, .aload_n 0, 0, 0, 0),
  (16, .iconst 0, 0, 0, 0), (17, .aload_n 0, 0, 0, 0), (18, .getfield 50, 13, 35, 0), (21, .iload_n 1, 0, 0, 0), (22, .iaload, 0, 0, 0), (23, .iload_n 2, 0, 0, 0), (24, .invokevirtual 415, 237, 4, 15), (27, .iconst (-1), 0, 0, 0),
  (28, .if_icmp .eq 7, 0, 0, 0), (31, .iconst 1, 0, 0, 0), (32, .goto 4, 0, 0, 0), (35, .iconst 0, 0, 0, 0), (36, .ireturn, 1, 0, 0)]
def mt_c244 : List (Nat × mmE) := [(0, .iload_n 0, 0, 0, 0), (1, .iconst 0, 0, 0, 0), (2, .bipush 39, 0, 0, 0), (4, .invokestatic 191, 191, 3, 0), (7, .ireturn, 1, 0, 0)]
def mt_c245 : List (Nat × mmE) := [(0, .aload_n 0, 0, 0, 0), (1, .iload_n 1, 0, 0, 0), (2, .iload_n 2, 0, 0, 0), (3, .invokevirtual 424, 243, 3, 15), (6, .ifCond .eq 15, 0, 0, 0), (9, .aload_n 0, 0, 0, 0), (10, .getfield 53, 13, 36, 0), (13, .bipush 40, 0, 0, 0),
  (15, .iload_n 1, 0, 0, 0), (16, .imul, 0, 0, 0), (17, .iload_n 2, 0, 0, 0), (18, .iadd, 0, 0, 0), (19, .iaload, 0, 0, 0), (20, .ireturn, 0, 0, 0), (21, .aload_n 0, 0, 0, 0), (22, .iload_n 1, 0, 0, 0),
  (23, .invokevirtual 418, 241, 2, 15), (26, .ifCond .eq 38, 0, 0, 0), (29, .iload_n 2, 0, 0, 0), (30, .invokestatic 421, 244, 1, 0), (33, .ifCond .eq 31, 0, 0, 0), (36, .aload_n 0, 0, 0, 0), (37, .getfield 59, 13, 38, 0), (40, .bipush 40, 0, 0, 0),
  (42, .iload_n 1, 0, 0, 0), (43, .imul, 0, 0, 0), (44, .iload_n 2, 0, 0, 0), (45, .iadd, 0, 0, 0), (46, .baload, 0, 0, 0), (47, .ifCond .eq 17, 0, 0, 0), (50, .aload_n 0, 0, 0, 0), (51, .getfield 56, 13, 37, 0),
  (54, .bipush 40, 0, 0, 0), (56, .iload_n 1, 0, 0, 0), (57, .imul, 0, 0, 0), (58, .iload_n 2, 0, 0, 0), (59, .iadd, 0, 0, 0), (60, .iaload, 0, 0, 0), (61, .goto 4, 0, 0, 0), (64, .iconst 0, 0, 0, 0),
  (65, .ireturn, 0, 0, 0)]
def mt_c246 : List (Nat × mmE) := [(0, .aload_n 0, 0, 0, 0), (1, .iload_n 1, 0, 0, 0), (2, .iload_n 2, 0, 0, 0), (3, .invokevirtual 424, 243, 3, 15), (6, .ifCond .ne 5, 0, 0, 0), (9, .iconst 0, 0, 0, 0), (10, .ireturn, 1, 0, 0), (11, .aload_n 0, 0, 0, 0),
  (12, .getfield 53, 13, 36, 0), (15, .bipush 40, 0, 0, 0), (17, .iload_n 1, 0, 0, 0), (18, .imul, 0, 0, 0), (19, .iload_n 2, 0, 0, 0), (20, .iadd, 0, 0, 0), (21, .iload_n 3, 0, 0, 0), (22, .iastore, 0, 0, 0),
  (23, .iconst 1, 0, 0, 0), (24, .ireturn, 1, 0, 0)]
def mt_c247 : List (Nat × mmE) := [(0, .aload_n 0, 0, 0, 0), (1, .iconst 0, 0, 0, 0), (2, .iload_n 1, 0, 0, 0), (3, .invokevirtual 362, 197, 3, 15), (6, .istore_n 3, 0, 0, 0), (7, .iload_n 3, 0, 0, 0), (8, .iconst (-1), 0, 0, 0), (9, .if_icmp .eq 10, 0, 0, 0),
  (12, .iload_n 2, 0, 0, 0), (13, .invokestatic 421, 244, 1, 0), (16, .ifCond .ne 7, 0, 0, 0), (19, .iconst (-1), 0, 0, 0), (20, .goto 10, 0, 0, 0), (23, .aload_n 0, 0, 0, 0), (24, .iconst 0, 0, 0, 0), (25, .iload_n 3, 0, 0, 0),
  (26, .iload_n 2, 0, 0, 0), (27, .invokevirtual 427, 248, 4, 15), (30, .istore 4, 0, 0, 0), (32, .iload 4, 0, 0, 0), (34, .iconst (-1), 0, 0, 0), (35, .if_icmp .ne 7, 0, 0, 0), (38, .iconst 0, 0, 0, 0), (39, .goto 21, 0, 0, 0),
  (42, .aload_n 0, 0, 0, 0), (43, .iconst 0, 0, 0, 0), (44, .iload 4, 0, 0, 0), (46, .bipush 35, 0, 0, 0), (48, .aload_n 0, 0, 0, 0), (49, .iconst 0, 0, 0, 0), (50, .iload 4, 0, 0, 0), (52, .iload_n 2, 0, 0, 0),
  (53, .invokevirtual 331, 208, 4, 15), (56, .iadd, 0, 0, 0), (57, .invokevirtual 324, 199, 4, 15), (60, .ireturn, 0, 0, 0)]
def mt_c248 : List (Nat × mmE) := [(0, .iload_n 2, 0, 0, 0), (1, .istore 4, 0, 0, 0), (3, .iload 4, 0, 0, 0), (5, .iconst (-1), 0, 0, 0), (6, .if_icmp .eq 28, 0, 0, 0), (9, .aload_n 0, 0, 0, 0), (10, .iload_n 1, 0, 0, 0), (11, .iload 4, 0, 0, 0),
  (13, .iload_n 3, 0, 0, 0), (14, .invokevirtual 331, 208, 4, 15), (17, .iconst (-1), 0, 0, 0), (18, .if_icmp .ne 16, 0, 0, 0), (21, .aload_n 0, 0, 0, 0), (22, .iload_n 1, 0, 0, 0), (23, .iload 4, 0, 0, 0), (25, .iconst 1, 0, 0, 0),
  (26, .invokevirtual 324, 199, 4, 15), (29, .istore 4, 0, 0, 0), (31, .goto (-28), 0, 0, 0), (34, .iload 4, 0, 0, 0), (36, .ireturn, 0, 0, 0)]
def mt_c249 : List (Nat × mmE) := [(0, .lconst 0, 0, 0, 0), (1, .lstore_n 2, 0, 0, 0), (2, .iconst 0, 0, 0, 0), (3, .istore 4, 0, 0, 0), (5, .iload 4, 0, 0, 0), (7, .aload_n 0, 0, 0, 0), (8, .getfield 394, 13, 33, 0), (11, .if_icmp .ge 39, 0, 0, 0),
  (14, .lload_n 2, 0, 0, 0), (15, .aload_n 0, 0, 0, 0), (16, .iload 4, 0, 0, 0), (18, .iload_n 1, 0, 0, 0), (19, .invokevirtual 424, 243, 3, 15), (22, .ifCond .eq 19, 0, 0, 0), (25, .aload_n 0, 0, 0, 0), (26, .getfield 53, 13, 36, 0),
  (29, .bipush 40, 0, 0, 0), (31, .iload 4, 0, 0, 0), (33, .imul, 0, 0, 0), (34, .iload_n 1, 0, 0, 0), (35, .iadd, 0, 0, 0), (36, .iaload, 0, 0, 0), (37, .i2l, 0, 0, 0), (38, .goto 4, 0, 0, 0),
  (41, .lconst 0, 0, 0, 0), (42, .ladd, 0, 0, 0), (43, .lstore_n 2, 0, 0, 0), (44, .iinc 4 1, 0, 0, 0), (47, .goto (-42), 0, 0, 0), (50, .lload_n 2, 0, 0, 0), (51, .lreturn, 0, 0, 0)]
def mt_c250 : List (Nat × mmE) := [(0, .aload_n 0, 0, 0, 0), (1, .invokevirtual 497, 251, 1, 15), (4, .iconst 3, 0, 0, 0), (5, .istore 4, 0, 0, 0), (7, .aload_n 0, 0, 0, 0), (8, .iload_n 1, 0, 0, 0), (9, .invokevirtual 418, 241, 2, 15), (12, .ifCond .eq 35, 0, 0, 0),
  (15, .iconst 2, 0, 0, 0), (16, .istore 4, 0, 0, 0), (18, .aload_n 0, 0, 0, 0), (19, .iconst 0, 0, 0, 0), (20, .iload_n 1, 0, 0, 0), (21, .iload_n 2, 0, 0, 0), (22, .iload_n 3, 0, 0, 0), (23, .invokevirtual 491, 252, 5, 15),
  (26, .ifCond .eq 21, 0, 0, 0), (29, .aload_n 0, 0, 0, 0), (30, .aload_n 0, 0, 0, 0), (31, .aload_n 0, 0, 0, 0), (32, .getfield 80, 13, 49, 0), (35, .iconst 0, 0, 0, 0), (36, .iaload, 0, 0, 0), (37, .iconst 0, 0, 0, 0),
  (38, .iconst 0, 0, 0, 0), (39, .invokevirtual 482, 254, 4, 15), (42, .invokevirtual 500, 268, 2, 15), (45, .istore 4, 0, 0, 0), (47, .aload_n 0, 0, 0, 0), (48, .iload 4, 0, 0, 0), (50, .ifCond .ne 10, 0, 0, 0), (53, .aload_n 0, 0, 0, 0),
  (54, .getfield 473, 13, 40, 0), (57, .goto 4, 0, 0, 0), (60, .iconst 0, 0, 0, 0), (61, .putfield 503, 13, 56, 0), (64, .aload_n 0, 0, 0, 0), (65, .iload 4, 0, 0, 0), (67, .iconst 1, 0, 0, 0), (68, .if_icmp .ne 10, 0, 0, 0),
  (71, .aload_n 0, 0, 0, 0), (72, .getfield 430, 13, 39, 0), (75, .goto 4, 0, 0, 0), (78, .iconst 0, 0, 0, 0), (79, .putfield 506, 13, 57, 0), (82, .aload_n 0, 0, 0, 0), (83, .aload_n 0, 0, 0, 0), (84, .getfield 457, 13, 41, 0),
  (87, .putfield 509, 13, 58, 0), (90, .iload 4, 0, 0, 0), (92, .ireturn, 0, 0, 0)]
def mt_c251 : List (Nat × mmE) := [(0, .aload_n 0, 0, 0, 0), (1, .iconst 0, 0, 0, 0), (2, .putfield 457, 13, 41, 0), (5, .aload_n 0, 0, 0, 0), (6, .iconst 0, 0, 0, 0), (7, .putfield 430, 13, 39, 0), (10, .aload_n 0, 0, 0, 0), (11, .iconst 0, 0, 0, 0),
  (12, .putfield 473, 13, 40, 0), (15, .aload_n 0, 0, 0, 0), (16, .iconst 0, 0, 0, 0), (17, .putfield 460, 13, 42, 1), (20, .return_, 0, 0, 0)]
def mt_c252 : List (Nat × mmE) := [(0, .aload_n 0, 0, 0, 0), (1, .getfield 71, 13, 46, 0), (4, .iload_n 1, 0, 0, 0), (5, .aload_n 0, 0, 0, 0), (6, .iload_n 1, 0, 0, 0), (7, .aload_n 0, 0, 0, 0), (8, .getfield 50, 13, 35, 0), (11, .iload_n 2, 0, 0, 0),
  (12, .iaload, 0, 0, 0), (13, .iload_n 3, 0, 0, 0), (14, .invokevirtual 494, 253, 4, 15), (17, .iastore, 0, 0, 0), (18, .aload_n 0, 0, 0, 0), (19, .getfield 74, 13, 47, 0), (22, .iload_n 1, 0, 0, 0), (23, .iconst 0, 0, 0, 0),
  (24, .iastore, 0, 0, 0), (25, .aload_n 0, 0, 0, 0), (26, .getfield 62, 13, 43, 0), (29, .iload_n 1, 0, 0, 0), (30, .iload_n 2, 0, 0, 0), (31, .iastore, 0, 0, 0), (32, .aload_n 0, 0, 0, 0), (33, .getfield 65, 13, 44, 0),
  (36, .iload_n 1, 0, 0, 0), (37, .iload 4, 0, 0, 0), (39, .iastore, 0, 0, 0), (40, .aload_n 0, 0, 0, 0), (41, .getfield 68, 13, 45, 0), (44, .iload_n 1, 0, 0, 0), (45, .iconst 0, 0, 0, 0), (46, .iastore, 0, 0, 0),
  (47, .aload_n 0, 0, 0, 0), (48, .getfield 77, 13, 48, 0), (51, .iload_n 1, 0, 0, 0), (52, .iload_n 3, 0, 0, 0), (53, .iastore, 0, 0, 0), (54, .aload_n 0, 0, 0, 0), (55, .getfield 71, 13, 46, 0), (58, .iload_n 1, 0, 0, 0),
  (59, .iaload, 0, 0, 0), (60, .ifCond .le 7, 0, 0, 0), (63, .iconst 1, 0, 0, 0), (64, .goto 4, 0, 0, 0), (67, .iconst 0, 0, 0, 0), (68, .ireturn, 1, 0, 0)]
def mt_c253 : List (Nat × mmE) := [(0, .iconst 0, 0, 0, 0), (1, .istore 4, 0, 0, 0), (3, .iload_n 2, 0, 0, 0), (4, .istore 5, 0, 0, 0), (6, .iload 5, 0, 0, 0), (8, .iconst (-1), 0, 0, 0), (9, .if_icmp .eq 102, 0, 0, 0), (12, .aload_n 0, 0, 0, 0),
  (13, .iconst 0, 0, 0, 0), (14, .iload 5, 0, 0, 0), (16, .iload_n 3, 0, 0, 0), (17, .invokevirtual 341, 205, 4, 15), (20, .istore 6, 0, 0, 0), (22, .iload 6, 0, 0, 0), (24, .iconst (-1), 0, 0, 0), (25, .if_icmp .ne 6, 0, 0, 0),
  (28, .goto 70, 0, 0, 0), (31, .aload_n 0, 0, 0, 0), (32, .getfield 80, 13, 49, 0), (35, .bipush 12, 0, 0, 0), (37, .iload_n 1, 0, 0, 0), (38, .imul, 0, 0, 0), (39, .iload 4, 0, 0, 0), (41, .iadd, 0, 0, 0),
  (42, .aload_n 0, 0, 0, 0), (43, .iconst 0, 0, 0, 0), (44, .iload 5, 0, 0, 0), (46, .bipush 48, 0, 0, 0), (48, .iload 6, 0, 0, 0), (50, .iadd, 0, 0, 0), (51, .invokevirtual 324, 199, 4, 15), (54, .iastore, 0, 0, 0),
  (55, .aload_n 0, 0, 0, 0), (56, .getfield 83, 13, 50, 0), (59, .bipush 12, 0, 0, 0), (61, .iload_n 1, 0, 0, 0), (62, .imul, 0, 0, 0), (63, .iload 4, 0, 0, 0), (65, .iadd, 0, 0, 0), (66, .aload_n 0, 0, 0, 0),
  (67, .iconst 0, 0, 0, 0), (68, .iload 5, 0, 0, 0), (70, .iconst 0, 0, 0, 0), (71, .invokevirtual 324, 199, 4, 15), (74, .iastore, 0, 0, 0), (75, .aload_n 0, 0, 0, 0), (76, .getfield 86, 13, 51, 0), (79, .bipush 12, 0, 0, 0),
  (81, .iload_n 1, 0, 0, 0), (82, .imul, 0, 0, 0), (83, .iload 4, 0, 0, 0), (85, .iadd, 0, 0, 0), (86, .aload_n 0, 0, 0, 0), (87, .iconst 0, 0, 0, 0), (88, .iload 5, 0, 0, 0), (90, .iconst 2, 0, 0, 0),
  (91, .invokevirtual 324, 199, 4, 15), (94, .iastore, 0, 0, 0), (95, .iinc 4 1, 0, 0, 0), (98, .aload_n 0, 0, 0, 0), (99, .iconst 0, 0, 0, 0), (100, .iload 5, 0, 0, 0), (102, .iconst 1, 0, 0, 0), (103, .invokevirtual 324, 199, 4, 15),
  (106, .istore 5, 0, 0, 0), (108, .goto (-102), 0, 0, 0), (111, .iload 4, 0, 0, 0), (113, .ireturn, 0, 0, 0)]
def mt_c254 : List (Nat × mmE) := [(0, .iload_n 1, 0, 0, 0), (1, .istore 4, 0, 0, 0), (3, .iload 4, 0, 0, 0), (5, .iconst (-1), 0, 0, 0), (6, .if_icmp .eq 77, 0, 0, 0), (9, .aload_n 0, 0, 0, 0), (10, .getfield 457, 13, 41, 0), (13, .sipush 500, 0, 0, 0),
  (16, .if_icmp .ne 10, 0, 0, 0), (19, .aload_n 0, 0, 0, 0), (20, .iconst 1, 0, 0, 0), (21, .putfield 460, 13, 42, 1), (24, .iconst 2, 0, 0, 0), (25, .ireturn, 0, 0, 0), (26, .aload_n 0, 0, 0, 0), (27, .dup, 0, 0, 0),
  (28, .getfield 457, 13, 41, 0), (31, .iconst 1, 0, 0, 0), (32, .iadd, 0, 0, 0), (33, .putfield 457, 13, 41, 0), (36, .aload_n 0, 0, 0, 0), (37, .iload 4, 0, 0, 0), (39, .iload_n 2, 0, 0, 0), (40, .iload_n 3, 0, 0, 0),
  (41, .invokevirtual 463, 255, 4, 15), (44, .istore 5, 0, 0, 0), (46, .iload 5, 0, 0, 0), (48, .iconst 3, 0, 0, 0), (49, .if_icmp .ne 14, 0, 0, 0), (52, .aload_n 0, 0, 0, 0), (53, .aload_n 0, 0, 0, 0), (54, .iload 4, 0, 0, 0),
  (56, .iconst 4, 0, 0, 0), (57, .invokevirtual 436, 257, 3, 15), (60, .putfield 467, 13, 55, 0), (63, .iload 5, 0, 0, 0), (65, .ifCond .eq 6, 0, 0, 0), (68, .iload 5, 0, 0, 0), (70, .ireturn, 0, 0, 0), (71, .aload_n 0, 0, 0, 0),
  (72, .iload 4, 0, 0, 0), (74, .iconst 4, 0, 0, 0), (75, .invokevirtual 436, 257, 3, 15), (78, .istore 4, 0, 0, 0), (80, .goto (-77), 0, 0, 0), (83, .iconst 0, 0, 0, 0), (84, .ireturn, 0, 0, 0)]
def mt_c255 : List (Nat × mmE) := [(0, .aload_n 0, 0, 0, 0), (1, .iload_n 1, 0, 0, 0), (2, .iconst 0, 0, 0, 0), (3, .invokevirtual 247, 256, 3, 15), (6, .istore 4, 0, 0, 0), (8, .iload 4, 0, 0, 0), (10, .tableswitch 172 20 26 #[42, 81, 81, 133, 147, 147, 162], 0, 0, 0), (52, .aload_n 0, 0, 0, 0),
  (53, .aload_n 0, 0, 0, 0), (54, .iload_n 1, 0, 0, 0), (55, .iconst 2, 0, 0, 0), (56, .invokevirtual 436, 257, 3, 15), (59, .iload_n 2, 0, 0, 0), (60, .invokevirtual 445, 258, 3, 15), (63, .ifCond .eq 26, 0, 0, 0), (66, .aload_n 0, 0, 0, 0),
  (67, .aload_n 0, 0, 0, 0), (68, .getfield 62, 13, 43, 0), (71, .iload_n 2, 0, 0, 0), (72, .iaload, 0, 0, 0), (73, .aload_n 0, 0, 0, 0), (74, .iload_n 1, 0, 0, 0), (75, .iconst 1, 0, 0, 0), (76, .invokevirtual 247, 256, 3, 15),
  (79, .invokevirtual 470, 263, 3, 15), (82, .ifCond .eq 7, 0, 0, 0), (85, .iconst 0, 0, 0, 0), (86, .goto 4, 0, 0, 0), (89, .iconst 2, 0, 0, 0), (90, .ireturn, 0, 0, 0), (91, .aload_n 0, 0, 0, 0), (92, .aload_n 0, 0, 0, 0),
  (93, .iload_n 1, 0, 0, 0), (94, .iconst 1, 0, 0, 0), (95, .invokevirtual 436, 257, 3, 15), (98, .iload_n 2, 0, 0, 0), (99, .invokevirtual 445, 258, 3, 15), (102, .ifCond .ne 5, 0, 0, 0), (105, .iconst 2, 0, 0, 0), (106, .ireturn, 0, 0, 0),
  (107, .iload 4, 0, 0, 0), (109, .bipush 22, 0, 0, 0), (111, .if_icmp .ne 11, 0, 0, 0), (114, .aload_n 0, 0, 0, 0), (115, .aload_n 0, 0, 0, 0), (116, .getfield 442, 13, 52, 0), (119, .putfield 430, 13, 39, 0), (122, .aload_n 0, 0, 0, 0),
  (123, .aload_n 0, 0, 0, 0), (124, .getfield 442, 13, 52, 0), (127, .putfield 473, 13, 40, 0), (130, .iload 4, 0, 0, 0), (132, .bipush 21, 0, 0, 0), (134, .if_icmp .ne 7, 0, 0, 0), (137, .iconst 1, 0, 0, 0), (138, .goto 4, 0, 0, 0),
  (141, .iconst 2, 0, 0, 0), (142, .ireturn, 0, 0, 0), (143, .aload_n 0, 0, 0, 0), (144, .iload_n 2, 0, 0, 0), (145, .invokevirtual 476, 264, 2, 15), (148, .ifCond .eq 7, 0, 0, 0), (151, .iconst 0, 0, 0, 0), (152, .goto 4, 0, 0, 0),
  (155, .iconst 2, 0, 0, 0), (156, .ireturn, 0, 0, 0), (157, .aload_n 0, 0, 0, 0), (158, .iload_n 1, 0, 0, 0), (159, .iload_n 2, 0, 0, 0), (160, .invokevirtual 479, 267, 3, 15), (163, .ifCond .eq 7, 0, 0, 0), (166, .iconst 0, 0, 0, 0),
  (167, .goto 4, 0, 0, 0), (170, .iconst 2, 0, 0, 0), (171, .ireturn, 0, 0, 0), (172, .iload_n 3, 0, 0, 0), (173, .ifCond .eq 7, 0, 0, 0), (176, .iconst 3, 0, 0, 0), (177, .goto 4, 0, 0, 0), (180, .iconst 0, 0, 0, 0),
  (181, .ireturn, 0, 0, 0), (182, .aload_n 0, 0, 0, 0), (183, .aload_n 0, 0, 0, 0), (184, .iload_n 1, 0, 0, 0), (185, .iconst 1, 0, 0, 0), (186, .invokevirtual 436, 257, 3, 15), (189, .iload_n 2, 0, 0, 0), (190, .invokevirtual 445, 258, 3, 15),
  (193, .ifCond .ne 5, 0, 0, 0), (196, .iconst 2, 0, 0, 0), (197, .ireturn, 0, 0, 0), (198, .aload_n 0, 0, 0, 0), (199, .aload_n 0, 0, 0, 0), (200, .getfield 442, 13, 52, 0), (203, .ifCond .eq 12, 0, 0, 0), (206, .aload_n 0, 0, 0, 0),
  (207, .iload_n 1, 0, 0, 0), (208, .iconst 2, 0, 0, 0), (209, .invokevirtual 436, 257, 3, 15), (212, .goto 9, 0, 0, 0), (215, .aload_n 0, 0, 0, 0), (216, .iload_n 1, 0, 0, 0), (217, .iconst 3, 0, 0, 0), (218, .invokevirtual 436, 257, 3, 15),
  (221, .iload_n 2, 0, 0, 0), (222, .iconst 0, 0, 0, 0), (223, .invokevirtual 482, 254, 4, 15), (226, .ireturn, 0, 0, 0)]
def mt_c256 : List (Nat × mmE) := [(0, .aload_n 0, 0, 0, 0), (1, .getfield 25, 13, 15, 0), (4, .iconst 5, 0, 0, 0), (5, .iload_n 1, 0, 0, 0), (6, .imul, 0, 0, 0), (7, .iload_n 2, 0, 0, 0), (8, .iadd, 0, 0, 0), (9, .iaload, 0, 0, 0),
  (10, .ireturn, 0, 0, 0)]
def mt_c257 : List (Nat × mmE) := [(0, .aload_n 0, 0, 0, 0), (1, .iload_n 1, 0, 0, 0), (2, .iload_n 2, 0, 0, 0), (3, .invokevirtual 247, 256, 3, 15), (6, .istore_n 3, 0, 0, 0), (7, .iload_n 3, 0, 0, 0), (8, .iconst (-1), 0, 0, 0), (9, .if_icmp .ne 7, 0, 0, 0),
  (12, .iconst (-1), 0, 0, 0), (13, .goto 14, 0, 0, 0), (16, .iload_n 1, 0, 0, 0), (17, .sipush 1200, 0, 0, 0), (20, .idiv, 0, 0, 0), (21, .sipush 1200, 0, 0, 0), (24, .imul, 0, 0, 0), (25, .iload_n 3, 0, 0, 0),
  (26, .iadd, 0, 0, 0), (27, .ireturn, 0, 0, 0)]
def mt_c258 : List (Nat × mmE) := [(0, .aload_n 0, 0, 0, 0), (1, .getfield 433, 13, 54, 0), (4, .istore_n 3, 0, 0, 0), (5, .iload_n 1, 0, 0, 0), (6, .istore 4, 0, 0, 0), (8, .aload_n 0, 0, 0, 0), (9, .iload 4, 0, 0, 0), (11, .iconst 0, 0, 0, 0),
  (12, .invokevirtual 247, 256, 3, 15), (15, .bipush 10, 0, 0, 0), (17, .if_icmp .lt 36, 0, 0, 0), (20, .aload_n 0, 0, 0, 0), (21, .getfield 89, 13, 53, 0), (24, .aload_n 0, 0, 0, 0), (25, .getfield 433, 13, 54, 0), (28, .iload 4, 0, 0, 0),
  (30, .iastore, 0, 0, 0), (31, .aload_n 0, 0, 0, 0), (32, .dup, 0, 0, 0), (33, .getfield 433, 13, 54, 0), (36, .iconst 1, 0, 0, 0), (37, .iadd, 0, 0, 0), (38, .putfield 433, 13, 54, 0), (41, .aload_n 0, 0, 0, 0),
  (42, .iload 4, 0, 0, 0), (44, .iconst 1, 0, 0, 0), (45, .invokevirtual 436, 257, 3, 15), (48, .istore 4, 0, 0, 0), (50, .goto (-42), 0, 0, 0), (53, .aload_n 0, 0, 0, 0), (54, .iload 4, 0, 0, 0), (56, .iload_n 2, 0, 0, 0),
  (57, .invokevirtual 439, 259, 3, 15), (60, .istore 5, 0, 0, 0), (62, .iload 5, 0, 0, 0), (64, .ifCond .eq 115, 0, 0, 0), (67, .aload_n 0, 0, 0, 0), (68, .getfield 433, 13, 54, 0), (71, .iload_n 3, 0, 0, 0), (72, .if_icmp .le 107, 0, 0, 0),
  (75, .aload_n 0, 0, 0, 0), (76, .getfield 442, 13, 52, 0), (79, .istore 6, 0, 0, 0), (81, .aload_n 0, 0, 0, 0), (82, .getfield 89, 13, 53, 0), (85, .aload_n 0, 0, 0, 0), (86, .getfield 433, 13, 54, 0), (89, .iconst 1, 0, 0, 0),
  (90, .isub, 0, 0, 0), (91, .iaload, 0, 0, 0), (92, .istore 7, 0, 0, 0), (94, .aload_n 0, 0, 0, 0), (95, .aload_n 0, 0, 0, 0), (96, .iload 7, 0, 0, 0), (98, .iconst 2, 0, 0, 0), (99, .invokevirtual 436, 257, 3, 15),
  (102, .iload_n 2, 0, 0, 0), (103, .invokevirtual 445, 258, 3, 15), (106, .istore 5, 0, 0, 0), (108, .iload 5, 0, 0, 0), (110, .ifCond .eq 31, 0, 0, 0), (113, .aload_n 0, 0, 0, 0), (114, .iload 7, 0, 0, 0), (116, .iconst 0, 0, 0, 0),
  (117, .invokevirtual 247, 256, 3, 15), (120, .bipush 13, 0, 0, 0), (122, .if_icmp .ne 19, 0, 0, 0), (125, .aload_n 0, 0, 0, 0), (126, .getfield 442, 13, 52, 0), (129, .ifCond .ne 12, 0, 0, 0), (132, .aload_n 0, 0, 0, 0), (133, .sipush 1002, 0, 0, 0),
  (136, .invokevirtual 448, 261, 2, 15), (139, .istore 5, 0, 0, 0), (141, .iload 5, 0, 0, 0), (143, .ifCond .eq 23, 0, 0, 0), (146, .aload_n 0, 0, 0, 0), (147, .aload_n 0, 0, 0, 0), (148, .iload 7, 0, 0, 0), (150, .iconst 0, 0, 0, 0),
  (151, .invokevirtual 247, 256, 3, 15), (154, .iload 6, 0, 0, 0), (156, .aload_n 0, 0, 0, 0), (157, .getfield 442, 13, 52, 0), (160, .invokestatic 451, 262, 3, 0), (163, .putfield 442, 13, 52, 0), (166, .aload_n 0, 0, 0, 0), (167, .dup, 0, 0, 0),
  (168, .getfield 433, 13, 54, 0), (171, .iconst 1, 0, 0, 0), (172, .isub, 0, 0, 0), (173, .putfield 433, 13, 54, 0), (176, .goto (-114), 0, 0, 0), (179, .aload_n 0, 0, 0, 0), (180, .iload_n 3, 0, 0, 0), (181, .putfield 433, 13, 54, 0),
  (184, .iload 5, 0, 0, 0), (186, .ireturn, 1, 0, 0)]
def mt_c259 : List (Nat × mmE) := [(0, .aload_n 0, 0, 0, 0), (1, .iload_n 1, 0, 0, 0), (2, .iconst 0, 0, 0, 0), (3, .invokevirtual 247, 256, 3, 15), (6, .istore_n 3, 0, 0, 0), (7, .aload_n 0, 0, 0, 0), (8, .getfield 62, 13, 43, 0), (11, .iload_n 2, 0, 0, 0),
  (12, .iaload, 0, 0, 0), (13, .istore 4, 0, 0, 0), (15, .iload_n 3, 0, 0, 0), (16, .iconst 1, 0, 0, 0), (17, .if_icmp .ne 15, 0, 0, 0), (20, .aload_n 0, 0, 0, 0), (21, .aload_n 0, 0, 0, 0), (22, .iload_n 1, 0, 0, 0),
  (23, .iconst 1, 0, 0, 0), (24, .invokevirtual 247, 256, 3, 15), (27, .putfield 442, 13, 52, 0), (30, .iconst 1, 0, 0, 0), (31, .ireturn, 1, 0, 0), (32, .iload_n 3, 0, 0, 0), (33, .iconst 3, 0, 0, 0), (34, .if_icmp .eq 8, 0, 0, 0),
  (37, .iload_n 3, 0, 0, 0), (38, .iconst 4, 0, 0, 0), (39, .if_icmp .ne 29, 0, 0, 0), (42, .aload_n 0, 0, 0, 0), (43, .iload_n 3, 0, 0, 0), (44, .iconst 3, 0, 0, 0), (45, .if_icmp .ne 12, 0, 0, 0), (48, .aload_n 0, 0, 0, 0),
  (49, .getfield 65, 13, 44, 0), (52, .iload_n 2, 0, 0, 0), (53, .iaload, 0, 0, 0), (54, .goto 9, 0, 0, 0), (57, .aload_n 0, 0, 0, 0), (58, .getfield 68, 13, 45, 0), (61, .iload_n 2, 0, 0, 0), (62, .iaload, 0, 0, 0),
  (63, .putfield 442, 13, 52, 0), (66, .iconst 1, 0, 0, 0), (67, .ireturn, 1, 0, 0), (68, .iload_n 3, 0, 0, 0), (69, .iconst 2, 0, 0, 0), (70, .if_icmp .ne 127, 0, 0, 0), (73, .aload_n 0, 0, 0, 0), (74, .iload_n 1, 0, 0, 0),
  (75, .iconst 1, 0, 0, 0), (76, .invokevirtual 247, 256, 3, 15), (79, .istore 5, 0, 0, 0), (81, .aload_n 0, 0, 0, 0), (82, .iload 4, 0, 0, 0), (84, .iload 5, 0, 0, 0), (86, .invokevirtual 454, 260, 3, 15), (89, .istore 6, 0, 0, 0),
  (91, .iload 6, 0, 0, 0), (93, .iconst (-1), 0, 0, 0), (94, .if_icmp .ne 11, 0, 0, 0), (97, .aload_n 0, 0, 0, 0), (98, .sipush 1001, 0, 0, 0), (101, .invokevirtual 448, 261, 2, 15), (104, .ireturn, 1, 0, 0), (105, .aload_n 0, 0, 0, 0),
  (106, .iload 6, 0, 0, 0), (108, .ifCond .ne 19, 0, 0, 0), (111, .aload_n 0, 0, 0, 0), (112, .getfield 53, 13, 36, 0), (115, .bipush 40, 0, 0, 0), (117, .iload 4, 0, 0, 0), (119, .imul, 0, 0, 0), (120, .iload 5, 0, 0, 0),
  (122, .iadd, 0, 0, 0), (123, .iaload, 0, 0, 0), (124, .goto 68, 0, 0, 0), (127, .iload 6, 0, 0, 0), (129, .iconst 2, 0, 0, 0), (130, .if_icmp .ne 19, 0, 0, 0), (133, .aload_n 0, 0, 0, 0), (134, .getfield 56, 13, 37, 0),
  (137, .bipush 40, 0, 0, 0), (139, .iload 4, 0, 0, 0), (141, .imul, 0, 0, 0), (142, .iload 5, 0, 0, 0), (144, .iadd, 0, 0, 0), (145, .iaload, 0, 0, 0), (146, .goto 46, 0, 0, 0), (149, .aload_n 0, 0, 0, 0),
  (150, .iconst 0, 0, 0, 0), (151, .aload_n 0, 0, 0, 0), (152, .iconst 0, 0, 0, 0), (153, .aload_n 0, 0, 0, 0), (154, .getfield 50, 13, 35, 0), (157, .iload 4, 0, 0, 0), (159, .iaload, 0, 0, 0), (160, .iload 5, 0, 0, 0),
  (162, .invokevirtual 427, 248, 4, 15), (165, .bipush 35, 0, 0, 0), (167, .aload_n 0, 0, 0, 0), (168, .iconst 0, 0, 0, 0), (169, .aload_n 0, 0, 0, 0), (170, .iconst 0, 0, 0, 0), (171, .aload_n 0, 0, 0, 0), (172, .getfield 50, 13, 35, 0),
  (175, .iload 4, 0, 0, 0), (177, .iaload, 0, 0, 0), (178, .iload 5, 0, 0, 0), (180, .invokevirtual 427, 248, 4, 15), (183, .iload 5, 0, 0, 0), (185, .invokevirtual 331, 208, 4, 15), (188, .iadd, 0, 0, 0), (189, .invokevirtual 324, 199, 4, 15),
  (192, .putfield 442, 13, 52, 0), (195, .iconst 1, 0, 0, 0), (196, .ireturn, 1, 0, 0), (197, .aload_n 0, 0, 0, 0), (198, .aload_n 0, 0, 0, 0), (199, .iload_n 1, 0, 0, 0), (200, .iconst 1, 0, 0, 0), (201, .invokevirtual 436, 257, 3, 15),
  (204, .iload_n 2, 0, 0, 0), (205, .invokevirtual 445, 258, 3, 15), (208, .ifCond .ne 5, 0, 0, 0), (211, .iconst 0, 0, 0, 0), (212, .ireturn, 1, 0, 0), (213, .aload_n 0, 0, 0, 0), (214, .aload_n 0, 0, 0, 0), (215, .getfield 442, 13, 52, 0),
  (218, .ineg, 0, 0, 0), (219, .putfield 442, 13, 52, 0), (222, .iconst 1, 0, 0, 0), (223, .ireturn, 1, 0, 0)]
def mt_c260 : List (Nat × mmE) := [(0, .aload_n 0, 0, 0, 0), (1, .iconst 0, 0, 0, 0), (2, .aload_n 0, 0, 0, 0), (3, .getfield 50, 13, 35, 0), (6, .iload_n 1, 0, 0, 0), (7, .iaload, 0, 0, 0), (8, .iload_n 2, 0, 0, 0), (9, .invokevirtual 415, 237, 4, 15),
  (12, .iconst (-1), 0, 0, 0), (13, .if_icmp .eq 5, 0, 0, 0), (16, .iconst 0, 0, 0, 0), (17, .ireturn, 0, 0, 0), (18, .aload_n 0, 0, 0, 0), (19, .iconst 0, 0, 0, 0), (20, .aload_n 0, 0, 0, 0), (21, .getfield 50, 13, 35, 0),
  (24, .iload_n 1, 0, 0, 0), (25, .iaload, 0, 0, 0), (26, .iload_n 2, 0, 0, 0), (27, .invokevirtual 427, 248, 4, 15), (30, .iconst (-1), 0, 0, 0), (31, .if_icmp .eq 5, 0, 0, 0), (34, .iconst 1, 0, 0, 0), (35, .ireturn, 0, 0, 0),
  (36, .aload_n 0, 0, 0, 0), (37, .getfield 59, 13, 38, 0), (40, .bipush 40, 0, 0, 0), (42, .iload_n 1, 0, 0, 0), (43, .imul, 0, 0, 0), (44, .iload_n 2, 0, 0, 0), (45, .iadd, 0, 0, 0), (46, .baload, 0, 0, 0),
  (47, .ifCond .eq 7, 0, 0, 0), (50, .iconst 2, 0, 0, 0), (51, .goto 4, 0, 0, 0), (54, .iconst (-1), 0, 0, 0), (55, .ireturn, 0, 0, 0)]
def mt_c261 : List (Nat × mmE) := [(0, .aload_n 0, 0, 0, 0), (1, .iload_n 1, 0, 0, 0), (2, .putfield 430, 13, 39, 0), (5, .iconst 0, 0, 0, 0), (6, .ireturn, 1, 0, 0)]
def mt_c262 : List (Nat × mmE) := [(0, .iload_n 0, 0, 0, 0), (1, .tableswitch 62 10 14 #[35, 39, 43, 47, 51], 0, 0, 0), (36, .iload_n 1, 0, 0, 0), (37, .iload_n 2, 0, 0, 0), (38, .iadd, 0, 0, 0), (39, .ireturn, 0, 0, 0), (40, .iload_n 1, 0, 0, 0), (41, .iload_n 2, 0, 0, 0),
  (42, .isub, 0, 0, 0), (43, .ireturn, 0, 0, 0), (44, .iload_n 1, 0, 0, 0), (45, .iload_n 2, 0, 0, 0), (46, .imul, 0, 0, 0), (47, .ireturn, 0, 0, 0), (48, .iload_n 1, 0, 0, 0), (49, .iload_n 2, 0, 0, 0),
  (50, .idiv, 0, 0, 0), (51, .ireturn, 0, 0, 0), (52, .iload_n 1, 0, 0, 0), (53, .iload_n 2, 0, 0, 0), (54, .if_icmp .ge 7, 0, 0, 0), (57, .iconst 1, 0, 0, 0), (58, .goto 4, 0, 0, 0), (61, .iconst 0, 0, 0, 0),
  (62, .ireturn, 0, 0, 0), (63, .iload_n 1, 0, 0, 0), (64, .iload_n 2, 0, 0, 0), (65, .if_icmp .ne 7, 0, 0, 0), (68, .iconst 1, 0, 0, 0), (69, .goto 4, 0, 0, 0), (72, .iconst 0, 0, 0, 0), (73, .ireturn, 0, 0, 0)]
def mt_c263 : List (Nat × mmE) := [(0, .aload_n 0, 0, 0, 0), (1, .iload_n 1, 0, 0, 0), (2, .iload_n 2, 0, 0, 0), (3, .invokevirtual 454, 260, 3, 15), (6, .istore_n 3, 0, 0, 0), (7, .iload_n 3, 0, 0, 0), (8, .iconst (-1), 0, 0, 0), (9, .if_icmp .ne 11, 0, 0, 0),
  (12, .aload_n 0, 0, 0, 0), (13, .sipush 1001, 0, 0, 0), (16, .invokevirtual 448, 261, 2, 15), (19, .ireturn, 1, 0, 0), (20, .iload_n 3, 0, 0, 0), (21, .ifCond .ne 21, 0, 0, 0), (24, .aload_n 0, 0, 0, 0), (25, .getfield 53, 13, 36, 0),
  (28, .bipush 40, 0, 0, 0), (30, .iload_n 1, 0, 0, 0), (31, .imul, 0, 0, 0), (32, .iload_n 2, 0, 0, 0), (33, .iadd, 0, 0, 0), (34, .aload_n 0, 0, 0, 0), (35, .getfield 442, 13, 52, 0), (38, .iastore, 0, 0, 0),
  (39, .goto 68, 0, 0, 0), (42, .iload_n 3, 0, 0, 0), (43, .iconst 2, 0, 0, 0), (44, .if_icmp .ne 21, 0, 0, 0), (47, .aload_n 0, 0, 0, 0), (48, .getfield 56, 13, 37, 0), (51, .bipush 40, 0, 0, 0), (53, .iload_n 1, 0, 0, 0),
  (54, .imul, 0, 0, 0), (55, .iload_n 2, 0, 0, 0), (56, .iadd, 0, 0, 0), (57, .aload_n 0, 0, 0, 0), (58, .getfield 442, 13, 52, 0), (61, .iastore, 0, 0, 0), (62, .goto 45, 0, 0, 0), (65, .aload_n 0, 0, 0, 0),
  (66, .iconst 0, 0, 0, 0), (67, .aload_n 0, 0, 0, 0), (68, .iconst 0, 0, 0, 0), (69, .aload_n 0, 0, 0, 0), (70, .getfield 50, 13, 35, 0), (73, .iload_n 1, 0, 0, 0), (74, .iaload, 0, 0, 0), (75, .iload_n 2, 0, 0, 0),
  (76, .invokevirtual 427, 248, 4, 15), (79, .bipush 35, 0, 0, 0), (81, .aload_n 0, 0, 0, 0), (82, .iconst 0, 0, 0, 0), (83, .aload_n 0, 0, 0, 0), (84, .iconst 0, 0, 0, 0), (85, .aload_n 0, 0, 0, 0), (86, .getfield 50, 13, 35, 0),
  (89, .iload_n 1, 0, 0, 0), (90, .iaload, 0, 0, 0), (91, .iload_n 2, 0, 0, 0), (92, .invokevirtual 427, 248, 4, 15), (95, .iload_n 2, 0, 0, 0), (96, .invokevirtual 331, 208, 4, 15), (99, .iadd, 0, 0, 0), (100, .aload_n 0, 0, 0, 0),
  (101, .getfield 442, 13, 52, 0), (104, .invokevirtual 337, 201, 5, 15), (107, .iconst 1, 0, 0, 0), (108, .ireturn, 1, 0, 0)]
def mt_c264 : List (Nat × mmE) := [(0, .aload_n 0, 0, 0, 0), (1, .getfield 74, 13, 47, 0), (4, .iload_n 1, 0, 0, 0), (5, .iaload, 0, 0, 0), (6, .iconst 1, 0, 0, 0), (7, .iadd, 0, 0, 0), (8, .aload_n 0, 0, 0, 0), (9, .getfield 71, 13, 46, 0),
  (12, .iload_n 1, 0, 0, 0), (13, .iaload, 0, 0, 0), (14, .if_icmp .ne 12, 0, 0, 0), (17, .aload_n 0, 0, 0, 0), (18, .getfield 68, 13, 45, 0), (21, .iload_n 1, 0, 0, 0), (22, .iconst 0, 0, 0, 0), (23, .iastore, 0, 0, 0),
  (24, .iconst 1, 0, 0, 0), (25, .ireturn, 1, 0, 0), (26, .iload_n 1, 0, 0, 0), (27, .bipush 20, 0, 0, 0), (29, .if_icmp .ne 11, 0, 0, 0), (32, .aload_n 0, 0, 0, 0), (33, .sipush 1005, 0, 0, 0), (36, .invokevirtual 448, 261, 2, 15),
  (39, .ireturn, 1, 0, 0), (40, .iload_n 1, 0, 0, 0), (41, .iconst 1, 0, 0, 0), (42, .iadd, 0, 0, 0), (43, .istore_n 2, 0, 0, 0), (44, .iconst 0, 0, 0, 0), (45, .istore_n 3, 0, 0, 0), (46, .iload_n 3, 0, 0, 0),
  (47, .aload_n 0, 0, 0, 0), (48, .getfield 71, 13, 46, 0), (51, .iload_n 1, 0, 0, 0), (52, .iaload, 0, 0, 0), (53, .if_icmp .ge 75, 0, 0, 0), (56, .aload_n 0, 0, 0, 0), (57, .getfield 80, 13, 49, 0), (60, .bipush 12, 0, 0, 0),
  (62, .iload_n 2, 0, 0, 0), (63, .imul, 0, 0, 0), (64, .iload_n 3, 0, 0, 0), (65, .iadd, 0, 0, 0), (66, .aload_n 0, 0, 0, 0), (67, .getfield 80, 13, 49, 0), (70, .bipush 12, 0, 0, 0), (72, .iload_n 1, 0, 0, 0),
  (73, .imul, 0, 0, 0), (74, .iload_n 3, 0, 0, 0), (75, .iadd, 0, 0, 0), (76, .iaload, 0, 0, 0), (77, .iastore, 0, 0, 0), (78, .aload_n 0, 0, 0, 0), (79, .getfield 83, 13, 50, 0), (82, .bipush 12, 0, 0, 0),
  (84, .iload_n 2, 0, 0, 0), (85, .imul, 0, 0, 0), (86, .iload_n 3, 0, 0, 0), (87, .iadd, 0, 0, 0), (88, .aload_n 0, 0, 0, 0), (89, .getfield 83, 13, 50, 0), (92, .bipush 12, 0, 0, 0), (94, .iload_n 1, 0, 0, 0),
  (95, .imul, 0, 0, 0), (96, .iload_n 3, 0, 0, 0), (97, .iadd, 0, 0, 0), (98, .iaload, 0, 0, 0), (99, .iastore, 0, 0, 0), (100, .aload_n 0, 0, 0, 0), (101, .getfield 86, 13, 51, 0), (104, .bipush 12, 0, 0, 0),
  (106, .iload_n 2, 0, 0, 0), (107, .imul, 0, 0, 0), (108, .iload_n 3, 0, 0, 0), (109, .iadd, 0, 0, 0), (110, .aload_n 0, 0, 0, 0), (111, .getfield 86, 13, 51, 0), (114, .bipush 12, 0, 0, 0), (116, .iload_n 1, 0, 0, 0),
  (117, .imul, 0, 0, 0), (118, .iload_n 3, 0, 0, 0), (119, .iadd, 0, 0, 0), (120, .iaload, 0, 0, 0), (121, .iastore, 0, 0, 0), (122, .iinc 3 1, 0, 0, 0), (125, .goto (-79), 0, 0, 0), (128, .aload_n 0, 0, 0, 0),
  (129, .getfield 71, 13, 46, 0), (132, .iload_n 2, 0, 0, 0), (133, .aload_n 0, 0, 0, 0), (134, .getfield 71, 13, 46, 0), (137, .iload_n 1, 0, 0, 0), (138, .iaload, 0, 0, 0), (139, .iastore, 0, 0, 0), (140, .aload_n 0, 0, 0, 0),
  (141, .getfield 74, 13, 47, 0), (144, .iload_n 2, 0, 0, 0), (145, .aload_n 0, 0, 0, 0), (146, .getfield 74, 13, 47, 0), (149, .iload_n 1, 0, 0, 0), (150, .iaload, 0, 0, 0), (151, .iconst 1, 0, 0, 0), (152, .iadd, 0, 0, 0),
  (153, .iastore, 0, 0, 0), (154, .aload_n 0, 0, 0, 0), (155, .getfield 62, 13, 43, 0), (158, .iload_n 2, 0, 0, 0), (159, .aload_n 0, 0, 0, 0), (160, .getfield 62, 13, 43, 0), (163, .iload_n 1, 0, 0, 0), (164, .iaload, 0, 0, 0),
  (165, .iastore, 0, 0, 0), (166, .aload_n 0, 0, 0, 0), (167, .getfield 65, 13, 44, 0), (170, .iload_n 2, 0, 0, 0), (171, .aload_n 0, 0, 0, 0), (172, .getfield 65, 13, 44, 0), (175, .iload_n 1, 0, 0, 0), (176, .iaload, 0, 0, 0),
  (177, .iastore, 0, 0, 0), (178, .aload_n 0, 0, 0, 0), (179, .getfield 68, 13, 45, 0), (182, .iload_n 2, 0, 0, 0), (183, .iconst 0, 0, 0, 0), (184, .iastore, 0, 0, 0), (185, .aload_n 0, 0, 0, 0), (186, .getfield 77, 13, 48, 0),
  (189, .iload_n 2, 0, 0, 0), (190, .aload_n 0, 0, 0, 0), (191, .getfield 77, 13, 48, 0), (194, .iload_n 1, 0, 0, 0), (195, .iaload, 0, 0, 0), (196, .iastore, 0, 0, 0), (197, .aload_n 0, 0, 0, 0), (198, .iload_n 2, 0, 0, 0),
  (199, .invokevirtual 488, 265, 2, 15), (202, .ireturn, 1, 0, 0)]
def mt_c265 : List (Nat × mmE) := [(0, .aload_n 0, 0, 0, 0), (1, .iload_n 1, 0, 0, 0), (2, .invokevirtual 485, 266, 2, 15), (5, .aload_n 0, 0, 0, 0), (6, .iconst 0, 0, 0, 0), (7, .putfield 473, 13, 40, 0), (10, .aload_n 0, 0, 0, 0), (11, .aload_n 0, 0, 0, 0),
  (12, .getfield 80, 13, 49, 0), (15, .bipush 12, 0, 0, 0), (17, .iload_n 1, 0, 0, 0), (18, .imul, 0, 0, 0), (19, .aload_n 0, 0, 0, 0), (20, .getfield 74, 13, 47, 0), (23, .iload_n 1, 0, 0, 0), (24, .iaload, 0, 0, 0),
  (25, .iadd, 0, 0, 0), (26, .iaload, 0, 0, 0), (27, .iload_n 1, 0, 0, 0), (28, .iconst 0, 0, 0, 0), (29, .invokevirtual 482, 254, 4, 15), (32, .istore_n 2, 0, 0, 0), (33, .iload_n 2, 0, 0, 0), (34, .iconst 2, 0, 0, 0),
  (35, .if_icmp .ne 5, 0, 0, 0), (38, .iconst 0, 0, 0, 0), (39, .ireturn, 1, 0, 0), (40, .aload_n 0, 0, 0, 0), (41, .getfield 68, 13, 45, 0), (44, .iload_n 1, 0, 0, 0), (45, .iconst 1, 0, 0, 0), (46, .isub, 0, 0, 0),
  (47, .iload_n 2, 0, 0, 0), (48, .iconst 1, 0, 0, 0), (49, .if_icmp .ne 10, 0, 0, 0), (52, .aload_n 0, 0, 0, 0), (53, .getfield 473, 13, 40, 0), (56, .goto 4, 0, 0, 0), (59, .iconst 0, 0, 0, 0), (60, .iastore, 0, 0, 0),
  (61, .iconst 1, 0, 0, 0), (62, .ireturn, 1, 0, 0)]
def mt_c266 : List (Nat × mmE) := [(0, .aload_n 0, 0, 0, 0), (1, .getfield 512, 13, 60, 0), (4, .ifCond .eq 12, 0, 0, 0), (7, .aload_n 0, 0, 0, 0), (8, .getfield 515, 13, 66, 0), (11, .bipush 50, 0, 0, 0), (13, .if_icmp .ne 4, 0, 0, 0), (16, .return_, 0, 0, 0),
  (17, .bipush 12, 0, 0, 0), (19, .iload_n 1, 0, 0, 0), (20, .imul, 0, 0, 0), (21, .aload_n 0, 0, 0, 0), (22, .getfield 74, 13, 47, 0), (25, .iload_n 1, 0, 0, 0), (26, .iaload, 0, 0, 0), (27, .iadd, 0, 0, 0),
  (28, .istore_n 2, 0, 0, 0), (29, .aload_n 0, 0, 0, 0), (30, .getfield 95, 13, 62, 0), (33, .aload_n 0, 0, 0, 0), (34, .getfield 515, 13, 66, 0), (37, .aload_n 0, 0, 0, 0), (38, .getfield 62, 13, 43, 0), (41, .iload_n 1, 0, 0, 0),
  (42, .iaload, 0, 0, 0), (43, .iastore, 0, 0, 0), (44, .aload_n 0, 0, 0, 0), (45, .getfield 98, 13, 63, 0), (48, .aload_n 0, 0, 0, 0), (49, .getfield 515, 13, 66, 0), (52, .aload_n 0, 0, 0, 0), (53, .getfield 77, 13, 48, 0),
  (56, .iload_n 1, 0, 0, 0), (57, .iaload, 0, 0, 0), (58, .iastore, 0, 0, 0), (59, .aload_n 0, 0, 0, 0), (60, .getfield 101, 13, 64, 0), (63, .aload_n 0, 0, 0, 0), (64, .getfield 515, 13, 66, 0), (67, .aload_n 0, 0, 0, 0),
  (68, .getfield 83, 13, 50, 0), (71, .iload_n 2, 0, 0, 0), (72, .iaload, 0, 0, 0), (73, .iastore, 0, 0, 0), (74, .aload_n 0, 0, 0, 0), (75, .getfield 104, 13, 65, 0), (78, .aload_n 0, 0, 0, 0), (79, .getfield 515, 13, 66, 0),
  (82, .aload_n 0, 0, 0, 0), (83, .getfield 86, 13, 51, 0), (86, .iload_n 2, 0, 0, 0), (87, .iaload, 0, 0, 0), (88, .iastore, 0, 0, 0), (89, .aload_n 0, 0, 0, 0), (90, .dup, 0, 0, 0), (91, .getfield 515, 13, 66, 0),
  (94, .iconst 1, 0, 0, 0), (95, .iadd, 0, 0, 0), (96, .putfield 515, 13, 66, 0), (99, .return_, 0, 0, 0)]
def mt_c267 : List (Nat × mmE) := [(0, .aload_n 0, 0, 0, 0), (1, .getfield 62, 13, 43, 0), (4, .iload_n 2, 0, 0, 0), (5, .iaload, 0, 0, 0), (6, .istore_n 3, 0, 0, 0), (7, .aload_n 0, 0, 0, 0), (8, .iload_n 1, 0, 0, 0), (9, .iconst 1, 0, 0, 0),
  (10, .invokevirtual 247, 256, 3, 15), (13, .istore 4, 0, 0, 0), (15, .aload_n 0, 0, 0, 0), (16, .iload_n 1, 0, 0, 0), (17, .iconst 0, 0, 0, 0), (18, .invokevirtual 247, 256, 3, 15), (21, .bipush 25, 0, 0, 0), (23, .if_icmp .ne 138, 0, 0, 0),
  (26, .aload_n 0, 0, 0, 0), (27, .iload_n 3, 0, 0, 0), (28, .iload 4, 0, 0, 0), (30, .invokevirtual 454, 260, 3, 15), (33, .istore 5, 0, 0, 0), (35, .iload 5, 0, 0, 0), (37, .iconst (-1), 0, 0, 0), (38, .if_icmp .ne 11, 0, 0, 0),
  (41, .aload_n 0, 0, 0, 0), (42, .sipush 1001, 0, 0, 0), (45, .invokevirtual 448, 261, 2, 15), (48, .ireturn, 1, 0, 0), (49, .iload 5, 0, 0, 0), (51, .ifCond .ne 18, 0, 0, 0), (54, .aload_n 0, 0, 0, 0), (55, .getfield 53, 13, 36, 0),
  (58, .bipush 40, 0, 0, 0), (60, .iload_n 3, 0, 0, 0), (61, .imul, 0, 0, 0), (62, .iload 4, 0, 0, 0), (64, .iadd, 0, 0, 0), (65, .iaload, 0, 0, 0), (66, .goto 65, 0, 0, 0), (69, .iload 5, 0, 0, 0),
  (71, .iconst 2, 0, 0, 0), (72, .if_icmp .ne 18, 0, 0, 0), (75, .aload_n 0, 0, 0, 0), (76, .getfield 56, 13, 37, 0), (79, .bipush 40, 0, 0, 0), (81, .iload_n 3, 0, 0, 0), (82, .imul, 0, 0, 0), (83, .iload 4, 0, 0, 0),
  (85, .iadd, 0, 0, 0), (86, .iaload, 0, 0, 0), (87, .goto 44, 0, 0, 0), (90, .aload_n 0, 0, 0, 0), (91, .iconst 0, 0, 0, 0), (92, .aload_n 0, 0, 0, 0), (93, .iconst 0, 0, 0, 0), (94, .aload_n 0, 0, 0, 0),
  (95, .getfield 50, 13, 35, 0), (98, .iload_n 3, 0, 0, 0), (99, .iaload, 0, 0, 0), (100, .iload 4, 0, 0, 0), (102, .invokevirtual 427, 248, 4, 15), (105, .bipush 35, 0, 0, 0), (107, .aload_n 0, 0, 0, 0), (108, .iconst 0, 0, 0, 0),
  (109, .aload_n 0, 0, 0, 0), (110, .iconst 0, 0, 0, 0), (111, .aload_n 0, 0, 0, 0), (112, .getfield 50, 13, 35, 0), (115, .iload_n 3, 0, 0, 0), (116, .iaload, 0, 0, 0), (117, .iload 4, 0, 0, 0), (119, .invokevirtual 427, 248, 4, 15),
  (122, .iload 4, 0, 0, 0), (124, .invokevirtual 331, 208, 4, 15), (127, .iadd, 0, 0, 0), (128, .invokevirtual 324, 199, 4, 15), (131, .istore 6, 0, 0, 0), (133, .aload_n 0, 0, 0, 0), (134, .iload 6, 0, 0, 0), (136, .invokevirtual 418, 241, 2, 15),
  (139, .ifCond .ne 11, 0, 0, 0), (142, .aload_n 0, 0, 0, 0), (143, .sipush 1003, 0, 0, 0), (146, .invokevirtual 448, 261, 2, 15), (149, .ireturn, 1, 0, 0), (150, .iload 6, 0, 0, 0), (152, .istore_n 3, 0, 0, 0), (153, .aload_n 0, 0, 0, 0),
  (154, .iload_n 1, 0, 0, 0), (155, .iconst 2, 0, 0, 0), (156, .invokevirtual 247, 256, 3, 15), (159, .istore 4, 0, 0, 0), (161, .iconst 0, 0, 0, 0), (162, .istore 5, 0, 0, 0), (164, .aload_n 0, 0, 0, 0), (165, .getfield 50, 13, 35, 0),
  (168, .iload_n 3, 0, 0, 0), (169, .iaload, 0, 0, 0), (170, .istore 6, 0, 0, 0), (172, .iload 6, 0, 0, 0), (174, .iconst (-1), 0, 0, 0), (175, .if_icmp .eq 41, 0, 0, 0), (178, .iload 5, 0, 0, 0), (180, .ifCond .ne 16, 0, 0, 0),
  (183, .aload_n 0, 0, 0, 0), (184, .iconst 0, 0, 0, 0), (185, .iload 6, 0, 0, 0), (187, .iload 4, 0, 0, 0), (189, .invokevirtual 341, 205, 4, 15), (192, .iconst (-1), 0, 0, 0), (193, .if_icmp .eq 7, 0, 0, 0), (196, .iconst 1, 0, 0, 0),
  (197, .goto 4, 0, 0, 0), (200, .iconst 0, 0, 0, 0), (201, .istore 5, 0, 0, 0), (203, .aload_n 0, 0, 0, 0), (204, .iconst 0, 0, 0, 0), (205, .iload 6, 0, 0, 0), (207, .iconst 1, 0, 0, 0), (208, .invokevirtual 324, 199, 4, 15),
  (211, .istore 6, 0, 0, 0), (213, .goto (-41), 0, 0, 0), (216, .iload 5, 0, 0, 0), (218, .ifCond .ne 11, 0, 0, 0), (221, .aload_n 0, 0, 0, 0), (222, .sipush 1004, 0, 0, 0), (225, .invokevirtual 448, 261, 2, 15), (228, .ireturn, 1, 0, 0),
  (229, .iload_n 2, 0, 0, 0), (230, .bipush 20, 0, 0, 0), (232, .if_icmp .ne 11, 0, 0, 0), (235, .aload_n 0, 0, 0, 0), (236, .sipush 1005, 0, 0, 0), (239, .invokevirtual 448, 261, 2, 15), (242, .ireturn, 1, 0, 0), (243, .aload_n 0, 0, 0, 0),
  (244, .iload_n 2, 0, 0, 0), (245, .iconst 1, 0, 0, 0), (246, .iadd, 0, 0, 0), (247, .iload_n 3, 0, 0, 0), (248, .iload 4, 0, 0, 0), (250, .iconst 0, 0, 0, 0), (251, .invokevirtual 491, 252, 5, 15), (254, .pop, 0, 0, 0),
  (255, .aload_n 0, 0, 0, 0), (256, .iload_n 2, 0, 0, 0), (257, .iconst 1, 0, 0, 0), (258, .iadd, 0, 0, 0), (259, .invokevirtual 488, 265, 2, 15), (262, .ireturn, 1, 0, 0)]
def mt_c268 : List (Nat × mmE) := [(0, .iload_n 1, 0, 0, 0), (1, .iconst 1, 0, 0, 0), (2, .if_icmp .eq 8, 0, 0, 0), (5, .aload_n 0, 0, 0, 0), (6, .iconst 0, 0, 0, 0), (7, .putfield 473, 13, 40, 0), (10, .iload_n 1, 0, 0, 0), (11, .iconst 2, 0, 0, 0),
  (12, .if_icmp .eq 5, 0, 0, 0), (15, .iconst 0, 0, 0, 0), (16, .ireturn, 0, 0, 0), (17, .aload_n 0, 0, 0, 0), (18, .getfield 460, 13, 42, 0), (21, .ifCond .eq 7, 0, 0, 0), (24, .iconst 4, 0, 0, 0), (25, .goto 4, 0, 0, 0),
  (28, .iconst 1, 0, 0, 0), (29, .ireturn, 0, 0, 0)]
def mt_c269 : List (Nat × mmE) := [(0, .iload_n 1, 0, 0, 0), (1, .ifCond .ne 10, 0, 0, 0), (4, .aload_n 0, 0, 0, 0), (5, .getfield 503, 13, 56, 0), (8, .goto 28, 0, 0, 0), (11, .iload_n 1, 0, 0, 0), (12, .iconst 1, 0, 0, 0), (13, .if_icmp .ne 10, 0, 0, 0),
  (16, .aload_n 0, 0, 0, 0), (17, .getfield 506, 13, 57, 0), (20, .goto 16, 0, 0, 0), (23, .iload_n 1, 0, 0, 0), (24, .iconst 2, 0, 0, 0), (25, .if_icmp .ne 10, 0, 0, 0), (28, .aload_n 0, 0, 0, 0), (29, .getfield 509, 13, 58, 0),
  (32, .goto 4, 0, 0, 0), (35, .iconst (-1), 0, 0, 0), (36, .ireturn, 0, 0, 0)]
def mt_c270 : List (Nat × mmE) := [(0, .iload_n 1, 0, 0, 0), (1, .iconst (-1), 0, 0, 0), (2, .if_icmp .eq 19, 0, 0, 0), (5, .iload_n 1, 0, 0, 0), (6, .iconst 0, 0, 0, 0), (7, .aload_n 0, 0, 0, 0), (8, .getfield 260, 13, 7, 0), (11, .iconst 1, 0, 0, 0),
  (12, .isub, 0, 0, 0), (13, .invokestatic 191, 191, 3, 0), (16, .ifCond .ne 5, 0, 0, 0), (19, .iconst 0, 0, 0, 0), (20, .ireturn, 1, 0, 0), (21, .aload_n 0, 0, 0, 0), (22, .iload_n 1, 0, 0, 0), (23, .putfield 37, 13, 30, 0),
  (26, .iconst 1, 0, 0, 0), (27, .ireturn, 1, 0, 0)]
def mt_c271 : List (Nat × mmE) := [(0, .aload_n 0, 0, 0, 0), (1, .getfield 518, 13, 59, 0), (4, .sipush 1000, 0, 0, 0), (7, .if_icmp .ne 5, 0, 0, 0), (10, .iconst (-1), 0, 0, 0), (11, .ireturn, 0, 0, 0), (12, .aload_n 0, 0, 0, 0), (13, .dup, 0, 0, 0),
  (14, .getfield 518, 13, 59, 0), (17, .iconst 1, 0, 0, 0), (18, .iadd, 0, 0, 0), (19, .putfield 518, 13, 59, 0), (22, .aload_n 0, 0, 0, 0), (23, .iconst 0, 0, 0, 0), (24, .putfield 515, 13, 66, 0), (27, .aload_n 0, 0, 0, 0),
  (28, .iconst 1, 0, 0, 0), (29, .putfield 512, 13, 60, 1), (32, .iconst 0, 0, 0, 0), (33, .istore_n 1, 0, 0, 0), (34, .iload_n 1, 0, 0, 0), (35, .bipush 40, 0, 0, 0), (37, .if_icmp .ge 96, 0, 0, 0), (40, .aload_n 0, 0, 0, 0),
  (41, .getfield 92, 13, 61, 0), (44, .iload_n 1, 0, 0, 0), (45, .iconst 3, 0, 0, 0), (46, .iastore, 0, 0, 0), (47, .aload_n 0, 0, 0, 0), (48, .iload_n 1, 0, 0, 0), (49, .invokevirtual 418, 241, 2, 15), (52, .ifCond .ne 6, 0, 0, 0),
  (55, .goto 72, 0, 0, 0), (58, .aload_n 0, 0, 0, 0), (59, .getfield 92, 13, 61, 0), (62, .iload_n 1, 0, 0, 0), (63, .iconst 2, 0, 0, 0), (64, .iastore, 0, 0, 0), (65, .aload_n 0, 0, 0, 0), (66, .getfield 37, 13, 30, 0),
  (69, .iconst (-1), 0, 0, 0), (70, .if_icmp .ne 6, 0, 0, 0), (73, .goto 54, 0, 0, 0), (76, .aload_n 0, 0, 0, 0), (77, .invokevirtual 497, 251, 1, 15), (80, .aload_n 0, 0, 0, 0), (81, .iconst 0, 0, 0, 0), (82, .iload_n 1, 0, 0, 0),
  (83, .aload_n 0, 0, 0, 0), (84, .getfield 37, 13, 30, 0), (87, .aload_n 0, 0, 0, 0), (88, .getfield 518, 13, 59, 0), (91, .invokevirtual 491, 252, 5, 15), (94, .ifCond .ne 6, 0, 0, 0), (97, .goto 30, 0, 0, 0), (100, .aload_n 0, 0, 0, 0),
  (101, .iconst 0, 0, 0, 0), (102, .invokevirtual 485, 266, 2, 15), (105, .aload_n 0, 0, 0, 0), (106, .getfield 92, 13, 61, 0), (109, .iload_n 1, 0, 0, 0), (110, .aload_n 0, 0, 0, 0), (111, .aload_n 0, 0, 0, 0), (112, .aload_n 0, 0, 0, 0),
  (113, .getfield 80, 13, 49, 0), (116, .iconst 0, 0, 0, 0), (117, .iaload, 0, 0, 0), (118, .iconst 0, 0, 0, 0), (119, .iconst 0, 0, 0, 0), (120, .invokevirtual 482, 254, 4, 15), (123, .invokevirtual 500, 268, 2, 15), (126, .iastore, 0, 0, 0),
  (127, .iinc 1 1, 0, 0, 0), (130, .goto (-96), 0, 0, 0), (133, .iconst 0, 0, 0, 0), (134, .istore_n 1, 0, 0, 0), (135, .iload_n 1, 0, 0, 0), (136, .bipush 10, 0, 0, 0), (138, .if_icmp .ge 23, 0, 0, 0), (141, .aload_n 0, 0, 0, 0),
  (142, .getfield 107, 13, 67, 0), (145, .iload_n 1, 0, 0, 0), (146, .baload, 0, 0, 0), (147, .ifCond .eq 8, 0, 0, 0), (150, .aload_n 0, 0, 0, 0), (151, .iload_n 1, 0, 0, 0), (152, .invokevirtual 521, 272, 2, 15), (155, .iinc 1 1, 0, 0, 0),
  (158, .goto (-23), 0, 0, 0), (161, .aload_n 0, 0, 0, 0), (162, .iconst 0, 0, 0, 0), (163, .putfield 512, 13, 60, 1), (166, .aload_n 0, 0, 0, 0), (167, .invokevirtual 524, 273, 1, 15), (170, .aload_n 0, 0, 0, 0), (171, .getfield 518, 13, 59, 0),
  (174, .ireturn, 0, 0, 0)]
def mt_c272 : List (Nat × mmE) := [(0, .aload_n 0, 0, 0, 0), (1, .invokevirtual 497, 251, 1, 15), (4, .aload_n 0, 0, 0, 0), (5, .getfield 128, 13, 74, 0), (8, .iload_n 1, 0, 0, 0), (9, .dup2, 0, 0, 0), (10, .iaload, 0, 0, 0), (11, .iconst 1, 0, 0, 0),
  (12, .iadd, 0, 0, 0), (13, .iastore, 0, 0, 0), (14, .aload_n 0, 0, 0, 0), (15, .getfield 62, 13, 43, 0), (18, .iconst 0, 0, 0, 0), (19, .aload_n 0, 0, 0, 0), (20, .getfield 116, 13, 70, 0), (23, .iload_n 1, 0, 0, 0),
  (24, .iaload, 0, 0, 0), (25, .iastore, 0, 0, 0), (26, .aload_n 0, 0, 0, 0), (27, .getfield 65, 13, 44, 0), (30, .iconst 0, 0, 0, 0), (31, .aload_n 0, 0, 0, 0), (32, .getfield 119, 13, 71, 0), (35, .iload_n 1, 0, 0, 0),
  (36, .iaload, 0, 0, 0), (37, .iastore, 0, 0, 0), (38, .aload_n 0, 0, 0, 0), (39, .getfield 68, 13, 45, 0), (42, .iconst 0, 0, 0, 0), (43, .aload_n 0, 0, 0, 0), (44, .getfield 122, 13, 72, 0), (47, .iload_n 1, 0, 0, 0),
  (48, .iaload, 0, 0, 0), (49, .iastore, 0, 0, 0), (50, .aload_n 0, 0, 0, 0), (51, .getfield 71, 13, 46, 0), (54, .iconst 0, 0, 0, 0), (55, .aload_n 0, 0, 0, 0), (56, .getfield 137, 13, 77, 0), (59, .iload_n 1, 0, 0, 0),
  (60, .iaload, 0, 0, 0), (61, .iastore, 0, 0, 0), (62, .aload_n 0, 0, 0, 0), (63, .getfield 74, 13, 47, 0), (66, .iconst 0, 0, 0, 0), (67, .iconst 0, 0, 0, 0), (68, .iastore, 0, 0, 0), (69, .aload_n 0, 0, 0, 0),
  (70, .getfield 77, 13, 48, 0), (73, .iconst 0, 0, 0, 0), (74, .aload_n 0, 0, 0, 0), (75, .getfield 140, 13, 78, 0), (78, .iload_n 1, 0, 0, 0), (79, .iaload, 0, 0, 0), (80, .iastore, 0, 0, 0), (81, .iconst 0, 0, 0, 0),
  (82, .istore_n 2, 0, 0, 0), (83, .iload_n 2, 0, 0, 0), (84, .bipush 12, 0, 0, 0), (86, .if_icmp .ge 60, 0, 0, 0), (89, .aload_n 0, 0, 0, 0), (90, .getfield 80, 13, 49, 0), (93, .iload_n 2, 0, 0, 0), (94, .aload_n 0, 0, 0, 0),
  (95, .getfield 143, 13, 79, 0), (98, .bipush 12, 0, 0, 0), (100, .iload_n 1, 0, 0, 0), (101, .imul, 0, 0, 0), (102, .iload_n 2, 0, 0, 0), (103, .iadd, 0, 0, 0), (104, .iaload, 0, 0, 0), (105, .iastore, 0, 0, 0),
  (106, .aload_n 0, 0, 0, 0), (107, .getfield 83, 13, 50, 0), (110, .iload_n 2, 0, 0, 0), (111, .aload_n 0, 0, 0, 0), (112, .getfield 146, 13, 80, 0), (115, .bipush 12, 0, 0, 0), (117, .iload_n 1, 0, 0, 0), (118, .imul, 0, 0, 0),
  (119, .iload_n 2, 0, 0, 0), (120, .iadd, 0, 0, 0), (121, .iaload, 0, 0, 0), (122, .iastore, 0, 0, 0), (123, .aload_n 0, 0, 0, 0), (124, .getfield 86, 13, 51, 0), (127, .iload_n 2, 0, 0, 0), (128, .aload_n 0, 0, 0, 0),
  (129, .getfield 149, 13, 81, 0), (132, .bipush 12, 0, 0, 0), (134, .iload_n 1, 0, 0, 0), (135, .imul, 0, 0, 0), (136, .iload_n 2, 0, 0, 0), (137, .iadd, 0, 0, 0), (138, .iaload, 0, 0, 0), (139, .iastore, 0, 0, 0),
  (140, .iinc 2 1, 0, 0, 0), (143, .goto (-60), 0, 0, 0), (146, .aload_n 0, 0, 0, 0), (147, .aload_n 0, 0, 0, 0), (148, .getfield 125, 13, 73, 0), (151, .iload_n 1, 0, 0, 0), (152, .iaload, 0, 0, 0), (153, .iconst 0, 0, 0, 0),
  (154, .iconst 1, 0, 0, 0), (155, .invokevirtual 482, 254, 4, 15), (158, .istore_n 2, 0, 0, 0), (159, .aload_n 0, 0, 0, 0), (160, .getfield 122, 13, 72, 0), (163, .iload_n 1, 0, 0, 0), (164, .aload_n 0, 0, 0, 0), (165, .getfield 68, 13, 45, 0),
  (168, .iconst 0, 0, 0, 0), (169, .iaload, 0, 0, 0), (170, .iastore, 0, 0, 0), (171, .iload_n 2, 0, 0, 0), (172, .iconst 3, 0, 0, 0), (173, .if_icmp .ne 14, 0, 0, 0), (176, .aload_n 0, 0, 0, 0), (177, .getfield 125, 13, 73, 0),
  (180, .iload_n 1, 0, 0, 0), (181, .aload_n 0, 0, 0, 0), (182, .getfield 467, 13, 55, 0), (185, .iastore, 0, 0, 0), (186, .return_, 0, 0, 0), (187, .aload_n 0, 0, 0, 0), (188, .getfield 107, 13, 67, 0), (191, .iload_n 1, 0, 0, 0),
  (192, .iconst 0, 0, 0, 0), (193, .bastore, 0, 0, 0), (194, .aload_n 0, 0, 0, 0), (195, .getfield 131, 13, 75, 0), (198, .iload_n 1, 0, 0, 0), (199, .aload_n 0, 0, 0, 0), (200, .iload_n 2, 0, 0, 0), (201, .invokevirtual 500, 268, 2, 15),
  (204, .iastore, 0, 0, 0), (205, .aload_n 0, 0, 0, 0), (206, .getfield 134, 13, 76, 0), (209, .iload_n 1, 0, 0, 0), (210, .aload_n 0, 0, 0, 0), (211, .getfield 131, 13, 75, 0), (214, .iload_n 1, 0, 0, 0), (215, .iaload, 0, 0, 0),
  (216, .ifCond .ne 10, 0, 0, 0), (219, .aload_n 0, 0, 0, 0), (220, .getfield 473, 13, 40, 0), (223, .goto 4, 0, 0, 0), (226, .iconst 0, 0, 0, 0), (227, .iastore, 0, 0, 0), (228, .return_, 0, 0, 0)]
def mt_c273 : List (Nat × mmE) := [(0, .aload_n 0, 0, 0, 0), (1, .getfield 31, 13, 28, 0), (4, .iconst (-1), 0, 0, 0), (5, .if_icmp .ne 4, 0, 0, 0), (8, .return_, 0, 0, 0), (9, .iconst 0, 0, 0, 0), (10, .istore_n 1, 0, 0, 0), (11, .iconst 0, 0, 0, 0),
  (12, .istore_n 2, 0, 0, 0), (13, .iload_n 2, 0, 0, 0), (14, .bipush 10, 0, 0, 0), (16, .if_icmp .ge 37, 0, 0, 0), (19, .iload_n 1, 0, 0, 0), (20, .ifCond .ne 21, 0, 0, 0), (23, .aload_n 0, 0, 0, 0), (24, .getfield 107, 13, 67, 0),
  (27, .iload_n 2, 0, 0, 0), (28, .baload, 0, 0, 0), (29, .ifCond .eq 16, 0, 0, 0), (32, .aload_n 0, 0, 0, 0), (33, .getfield 113, 13, 69, 0), (36, .iload_n 2, 0, 0, 0), (37, .baload, 0, 0, 0), (38, .ifCond .eq 7, 0, 0, 0),
  (41, .iconst 1, 0, 0, 0), (42, .goto 4, 0, 0, 0), (45, .iconst 0, 0, 0, 0), (46, .istore_n 1, 0, 0, 0), (47, .iinc 2 1, 0, 0, 0), (50, .goto (-37), 0, 0, 0), (53, .aload_n 0, 0, 0, 0), (54, .getfield 31, 13, 28, 0),
  (57, .istore_n 2, 0, 0, 0), (58, .iload_n 1, 0, 0, 0), (59, .ifCond .eq 33, 0, 0, 0), (62, .aload_n 0, 0, 0, 0), (63, .dup, 0, 0, 0), (64, .getfield 526, 13, 26, 0), (67, .iconst 1, 0, 0, 0), (68, .iadd, 0, 0, 0),
  (69, .putfield 526, 13, 26, 0), (72, .aload_n 0, 0, 0, 0), (73, .getfield 526, 13, 26, 0), (76, .bipush 8, 0, 0, 0), (78, .if_icmp .ge 4, 0, 0, 0), (81, .return_, 0, 0, 0), (82, .aload_n 0, 0, 0, 0), (83, .getfield 43, 13, 32, 0),
  (86, .iload_n 2, 0, 0, 0), (87, .iconst 3, 0, 0, 0), (88, .iastore, 0, 0, 0), (89, .goto 22, 0, 0, 0), (92, .aload_n 0, 0, 0, 0), (93, .getfield 43, 13, 32, 0), (96, .iload_n 2, 0, 0, 0), (97, .aload_n 0, 0, 0, 0),
  (98, .iload_n 2, 0, 0, 0), (99, .invokevirtual 532, 274, 2, 15), (102, .ifCond .eq 7, 0, 0, 0), (105, .iconst 2, 0, 0, 0), (106, .goto 4, 0, 0, 0), (109, .iconst 4, 0, 0, 0), (110, .iastore, 0, 0, 0), (111, .aload_n 0, 0, 0, 0),
  (112, .iconst (-1), 0, 0, 0), (113, .putfield 31, 13, 28, 0), (116, .return_, 0, 0, 0)]
def mt_c274 : List (Nat × mmE) := [(0, .aload_n 0, 0, 0, 0), (1, .iconst 0, 0, 0, 0), (2, .iconst 1, 0, 0, 0), (3, .invokevirtual 391, 226, 3, 15), (6, .iconst 0, 0, 0, 0), (7, .istore_n 2, 0, 0, 0), (8, .iload_n 2, 0, 0, 0), (9, .aload_n 0, 0, 0, 0),
  (10, .iconst 1, 0, 0, 0), (11, .invokevirtual 321, 198, 2, 15), (14, .if_icmp .ge 59, 0, 0, 0), (17, .aload_n 0, 0, 0, 0), (18, .iconst 1, 0, 0, 0), (19, .iload_n 2, 0, 0, 0), (20, .iconst 3, 0, 0, 0), (21, .iconst 0, 0, 0, 0),
  (22, .invokevirtual 337, 201, 5, 15), (25, .aload_n 0, 0, 0, 0), (26, .iconst 1, 0, 0, 0), (27, .iload_n 2, 0, 0, 0), (28, .iconst 4, 0, 0, 0), (29, .iload_n 2, 0, 0, 0), (30, .invokevirtual 337, 201, 5, 15), (33, .iconst 0, 0, 0, 0),
  (34, .istore_n 3, 0, 0, 0), (35, .iload_n 3, 0, 0, 0), (36, .bipush 8, 0, 0, 0), (38, .if_icmp .ge 29, 0, 0, 0), (41, .aload_n 0, 0, 0, 0), (42, .iconst 1, 0, 0, 0), (43, .iload_n 2, 0, 0, 0), (44, .bipush 22, 0, 0, 0),
  (46, .iload_n 3, 0, 0, 0), (47, .iadd, 0, 0, 0), (48, .aload_n 0, 0, 0, 0), (49, .iconst 1, 0, 0, 0), (50, .iload_n 2, 0, 0, 0), (51, .bipush 6, 0, 0, 0), (53, .iload_n 3, 0, 0, 0), (54, .iadd, 0, 0, 0),
  (55, .invokevirtual 324, 199, 4, 15), (58, .invokevirtual 337, 201, 5, 15), (61, .iinc 3 1, 0, 0, 0), (64, .goto (-29), 0, 0, 0), (67, .iinc 2 1, 0, 0, 0), (70, .goto (-62), 0, 0, 0), (73, .iconst 0, 0, 0, 0), (74, .istore_n 2, 0, 0, 0),
  (75, .aload_n 0, 0, 0, 0), (76, .getfield 40, 13, 31, 0), (79, .iload_n 1, 0, 0, 0), (80, .iaload, 0, 0, 0), (81, .istore_n 3, 0, 0, 0), (82, .iload_n 3, 0, 0, 0), (83, .iconst (-1), 0, 0, 0), (84, .if_icmp .eq 27, 0, 0, 0),
  (87, .aload_n 0, 0, 0, 0), (88, .iload_n 3, 0, 0, 0), (89, .iload_n 2, 0, 0, 0), (90, .invokevirtual 561, 275, 3, 15), (93, .ifCond .ne 5, 0, 0, 0), (96, .iconst 0, 0, 0, 0), (97, .ireturn, 1, 0, 0), (98, .iinc 2 1, 0, 0, 0),
  (101, .aload_n 0, 0, 0, 0), (102, .iload_n 3, 0, 0, 0), (103, .iconst 4, 0, 0, 0), (104, .invokevirtual 436, 257, 3, 15), (107, .istore_n 3, 0, 0, 0), (108, .goto (-26), 0, 0, 0), (111, .aload_n 0, 0, 0, 0), (112, .invokevirtual 564, 282, 1, 15),
  (115, .ifCond .ne 5, 0, 0, 0), (118, .iconst 0, 0, 0, 0), (119, .ireturn, 1, 0, 0), (120, .iconst 0, 0, 0, 0), (121, .istore_n 3, 0, 0, 0), (122, .iload_n 3, 0, 0, 0), (123, .bipush 12, 0, 0, 0), (125, .if_icmp .ge 67, 0, 0, 0),
  (128, .iconst 0, 0, 0, 0), (129, .istore 4, 0, 0, 0), (131, .iload 4, 0, 0, 0), (133, .aload_n 0, 0, 0, 0), (134, .iconst 1, 0, 0, 0), (135, .invokevirtual 321, 198, 2, 15), (138, .if_icmp .ge 48, 0, 0, 0), (141, .aload_n 0, 0, 0, 0),
  (142, .iconst 1, 0, 0, 0), (143, .iload 4, 0, 0, 0), (145, .iconst 1, 0, 0, 0), (146, .invokevirtual 324, 199, 4, 15), (149, .iconst (-1), 0, 0, 0), (150, .if_icmp .eq 30, 0, 0, 0), (153, .aload_n 0, 0, 0, 0), (154, .iconst 1, 0, 0, 0),
  (155, .aload_n 0, 0, 0, 0), (156, .iconst 1, 0, 0, 0), (157, .iload 4, 0, 0, 0), (159, .iconst 1, 0, 0, 0), (160, .invokevirtual 324, 199, 4, 15), (163, .iconst 3, 0, 0, 0), (164, .invokevirtual 324, 199, 4, 15), (167, .iconst 1, 0, 0, 0),
  (168, .if_icmp .ne 12, 0, 0, 0), (171, .aload_n 0, 0, 0, 0), (172, .iconst 1, 0, 0, 0), (173, .iload 4, 0, 0, 0), (175, .iconst 3, 0, 0, 0), (176, .iconst 1, 0, 0, 0), (177, .invokevirtual 337, 201, 5, 15), (180, .iinc 4 1, 0, 0, 0),
  (183, .goto (-52), 0, 0, 0), (186, .iinc 3 1, 0, 0, 0), (189, .goto (-67), 0, 0, 0), (192, .iconst 0, 0, 0, 0), (193, .istore_n 3, 0, 0, 0), (194, .iload_n 3, 0, 0, 0), (195, .aload_n 0, 0, 0, 0), (196, .iconst 1, 0, 0, 0),
  (197, .invokevirtual 321, 198, 2, 15), (200, .if_icmp .ge 119, 0, 0, 0), (203, .aload_n 0, 0, 0, 0), (204, .iconst 1, 0, 0, 0), (205, .iload_n 3, 0, 0, 0), (206, .iconst 3, 0, 0, 0), (207, .invokevirtual 324, 199, 4, 15), (210, .iconst 1, 0, 0, 0),
  (211, .if_icmp .ne 16, 0, 0, 0), (214, .aload_n 0, 0, 0, 0), (215, .iconst 1, 0, 0, 0), (216, .iload_n 3, 0, 0, 0), (217, .iconst 2, 0, 0, 0), (218, .aload_n 0, 0, 0, 0), (219, .getfield 400, 13, 27, 0), (222, .iconst 1, 0, 0, 0),
  (223, .iadd, 0, 0, 0), (224, .invokevirtual 337, 201, 5, 15), (227, .aload_n 0, 0, 0, 0), (228, .iconst 1, 0, 0, 0), (229, .iload_n 3, 0, 0, 0), (230, .iconst 4, 0, 0, 0), (231, .invokevirtual 324, 199, 4, 15), (234, .istore 4, 0, 0, 0),
  (236, .iconst 0, 0, 0, 0), (237, .istore 5, 0, 0, 0), (239, .iload 5, 0, 0, 0), (241, .aload_n 0, 0, 0, 0), (242, .iconst 1, 0, 0, 0), (243, .iload_n 3, 0, 0, 0), (244, .bipush 30, 0, 0, 0), (246, .invokevirtual 324, 199, 4, 15),
  (249, .if_icmp .ge 64, 0, 0, 0), (252, .iload 4, 0, 0, 0), (254, .iconst (-1), 0, 0, 0), (255, .if_icmp .eq 58, 0, 0, 0), (258, .aload_n 0, 0, 0, 0), (259, .iconst 0, 0, 0, 0), (260, .iload 4, 0, 0, 0), (262, .aload_n 0, 0, 0, 0),
  (263, .iconst 1, 0, 0, 0), (264, .iload_n 3, 0, 0, 0), (265, .bipush 31, 0, 0, 0), (267, .iload 5, 0, 0, 0), (269, .iadd, 0, 0, 0), (270, .invokevirtual 324, 199, 4, 15), (273, .invokevirtual 331, 208, 4, 15), (276, .istore 6, 0, 0, 0),
  (278, .iload 6, 0, 0, 0), (280, .iconst (-1), 0, 0, 0), (281, .if_icmp .eq 26, 0, 0, 0), (284, .aload_n 0, 0, 0, 0), (285, .iconst 1, 0, 0, 0), (286, .iload_n 3, 0, 0, 0), (287, .bipush 35, 0, 0, 0), (289, .iload 5, 0, 0, 0),
  (291, .iadd, 0, 0, 0), (292, .aload_n 0, 0, 0, 0), (293, .iconst 0, 0, 0, 0), (294, .iload 4, 0, 0, 0), (296, .bipush 35, 0, 0, 0), (298, .iload 6, 0, 0, 0), (300, .iadd, 0, 0, 0), (301, .invokevirtual 324, 199, 4, 15),
  (304, .invokevirtual 337, 201, 5, 15), (307, .iinc 5 1, 0, 0, 0), (310, .goto (-71), 0, 0, 0), (313, .iinc 3 1, 0, 0, 0), (316, .goto (-122), 0, 0, 0), (319, .aload_n 0, 0, 0, 0), (320, .iload_n 1, 0, 0, 0), (321, .invokevirtual 567, 283, 2, 15),
  (324, .ireturn, 1, 0, 0)]
def mt_c275 : List (Nat × mmE) := [(0, .aload_n 0, 0, 0, 0), (1, .iload_n 1, 0, 0, 0), (2, .iconst 0, 0, 0, 0), (3, .invokevirtual 247, 256, 3, 15), (6, .istore_n 3, 0, 0, 0), (7, .aload_n 0, 0, 0, 0), (8, .iload_n 1, 0, 0, 0), (9, .iconst 1, 0, 0, 0),
  (10, .invokevirtual 247, 256, 3, 15), (13, .istore 4, 0, 0, 0), (15, .aload_n 0, 0, 0, 0), (16, .iconst 1, 0, 0, 0), (17, .iload 4, 0, 0, 0), (19, .invokevirtual 362, 197, 3, 15), (22, .istore 5, 0, 0, 0), (24, .iload_n 3, 0, 0, 0),
  (25, .bipush 40, 0, 0, 0), (27, .if_icmp .ne 163, 0, 0, 0), (30, .iload 5, 0, 0, 0), (32, .iconst (-1), 0, 0, 0), (33, .if_icmp .eq 11, 0, 0, 0), (36, .aload_n 0, 0, 0, 0), (37, .iconst 2, 0, 0, 0), (38, .iload_n 2, 0, 0, 0),
  (39, .iconst (-1), 0, 0, 0), (40, .invokevirtual 535, 276, 4, 15), (43, .ireturn, 1, 0, 0), (44, .aload_n 0, 0, 0, 0), (45, .iconst 1, 0, 0, 0), (46, .invokevirtual 321, 198, 2, 15), (49, .bipush 12, 0, 0, 0), (51, .if_icmp .ne 12, 0, 0, 0),
  (54, .aload_n 0, 0, 0, 0), (55, .bipush 7, 0, 0, 0), (57, .iload_n 2, 0, 0, 0), (58, .iconst (-1), 0, 0, 0), (59, .invokevirtual 535, 276, 4, 15), (62, .ireturn, 1, 0, 0), (63, .aload_n 0, 0, 0, 0), (64, .iload_n 1, 0, 0, 0),
  (65, .iconst 2, 0, 0, 0), (66, .invokevirtual 247, 256, 3, 15), (69, .iconst (-1), 0, 0, 0), (70, .if_icmp .ne 7, 0, 0, 0), (73, .iconst (-1), 0, 0, 0), (74, .goto 14, 0, 0, 0), (77, .aload_n 0, 0, 0, 0), (78, .iconst 1, 0, 0, 0),
  (79, .aload_n 0, 0, 0, 0), (80, .iload_n 1, 0, 0, 0), (81, .iconst 2, 0, 0, 0), (82, .invokevirtual 247, 256, 3, 15), (85, .invokevirtual 362, 197, 3, 15), (88, .istore 6, 0, 0, 0), (90, .aload_n 0, 0, 0, 0), (91, .iload_n 1, 0, 0, 0),
  (92, .iconst 2, 0, 0, 0), (93, .invokevirtual 247, 256, 3, 15), (96, .iconst (-1), 0, 0, 0), (97, .if_icmp .eq 17, 0, 0, 0), (100, .iload 6, 0, 0, 0), (102, .iconst (-1), 0, 0, 0), (103, .if_icmp .ne 11, 0, 0, 0), (106, .aload_n 0, 0, 0, 0),
  (107, .iconst 1, 0, 0, 0), (108, .iload_n 2, 0, 0, 0), (109, .iconst (-1), 0, 0, 0), (110, .invokevirtual 535, 276, 4, 15), (113, .ireturn, 1, 0, 0), (114, .aload_n 0, 0, 0, 0), (115, .iconst 1, 0, 0, 0), (116, .iload 4, 0, 0, 0),
  (118, .invokevirtual 365, 200, 3, 15), (121, .istore 5, 0, 0, 0), (123, .aload_n 0, 0, 0, 0), (124, .iconst 1, 0, 0, 0), (125, .iload 5, 0, 0, 0), (127, .iconst 1, 0, 0, 0), (128, .iload 6, 0, 0, 0), (130, .invokevirtual 337, 201, 5, 15),
  (133, .aload_n 0, 0, 0, 0), (134, .iconst 1, 0, 0, 0), (135, .iload 5, 0, 0, 0), (137, .iconst 4, 0, 0, 0), (138, .aload_n 0, 0, 0, 0), (139, .iconst 0, 0, 0, 0), (140, .iload 4, 0, 0, 0), (142, .invokevirtual 362, 197, 3, 15),
  (145, .invokevirtual 337, 201, 5, 15), (148, .aload_n 0, 0, 0, 0), (149, .iload_n 1, 0, 0, 0), (150, .iconst 3, 0, 0, 0), (151, .invokevirtual 436, 257, 3, 15), (154, .istore 7, 0, 0, 0), (156, .iload 7, 0, 0, 0), (158, .iconst (-1), 0, 0, 0),
  (159, .if_icmp .eq 29, 0, 0, 0), (162, .aload_n 0, 0, 0, 0), (163, .iload 7, 0, 0, 0), (165, .iload 5, 0, 0, 0), (167, .iload_n 2, 0, 0, 0), (168, .invokevirtual 538, 277, 4, 15), (171, .ifCond .ne 5, 0, 0, 0), (174, .iconst 0, 0, 0, 0),
  (175, .ireturn, 1, 0, 0), (176, .aload_n 0, 0, 0, 0), (177, .iload 7, 0, 0, 0), (179, .iconst 4, 0, 0, 0), (180, .invokevirtual 436, 257, 3, 15), (183, .istore 7, 0, 0, 0), (185, .goto (-29), 0, 0, 0), (188, .iconst 1, 0, 0, 0),
  (189, .ireturn, 1, 0, 0), (190, .iload 5, 0, 0, 0), (192, .iconst (-1), 0, 0, 0), (193, .if_icmp .ne 11, 0, 0, 0), (196, .aload_n 0, 0, 0, 0), (197, .iconst 1, 0, 0, 0), (198, .iload_n 2, 0, 0, 0), (199, .iconst (-1), 0, 0, 0),
  (200, .invokevirtual 535, 276, 4, 15), (203, .ireturn, 1, 0, 0), (204, .iload_n 3, 0, 0, 0), (205, .bipush 44, 0, 0, 0), (207, .if_icmp .ne 5, 0, 0, 0), (210, .iconst 1, 0, 0, 0), (211, .ireturn, 1, 0, 0), (212, .iload_n 3, 0, 0, 0),
  (213, .bipush 42, 0, 0, 0), (215, .if_icmp .ne 52, 0, 0, 0), (218, .iconst 0, 0, 0, 0), (219, .istore 6, 0, 0, 0), (221, .iload 6, 0, 0, 0), (223, .aload_n 0, 0, 0, 0), (224, .iconst 1, 0, 0, 0), (225, .invokevirtual 321, 198, 2, 15),
  (228, .if_icmp .ge 31, 0, 0, 0), (231, .aload_n 0, 0, 0, 0), (232, .iconst 1, 0, 0, 0), (233, .iload 6, 0, 0, 0), (235, .iconst 1, 0, 0, 0), (236, .invokevirtual 324, 199, 4, 15), (239, .iload 5, 0, 0, 0), (241, .if_icmp .ne 12, 0, 0, 0),
  (244, .aload_n 0, 0, 0, 0), (245, .bipush 6, 0, 0, 0), (247, .iload_n 2, 0, 0, 0), (248, .iconst (-1), 0, 0, 0), (249, .invokevirtual 535, 276, 4, 15), (252, .ireturn, 1, 0, 0), (253, .iinc 6 1, 0, 0, 0), (256, .goto (-35), 0, 0, 0),
  (259, .aload_n 0, 0, 0, 0), (260, .iload 5, 0, 0, 0), (262, .invokevirtual 545, 278, 2, 15), (265, .iconst 1, 0, 0, 0), (266, .ireturn, 1, 0, 0), (267, .aload_n 0, 0, 0, 0), (268, .iconst 1, 0, 0, 0), (269, .iload 5, 0, 0, 0),
  (271, .iconst 3, 0, 0, 0), (272, .iconst 1, 0, 0, 0), (273, .invokevirtual 337, 201, 5, 15), (276, .iload_n 3, 0, 0, 0), (277, .bipush 43, 0, 0, 0), (279, .if_icmp .ne 92, 0, 0, 0), (282, .aload_n 0, 0, 0, 0), (283, .iload_n 1, 0, 0, 0),
  (284, .iconst 2, 0, 0, 0), (285, .invokevirtual 247, 256, 3, 15), (288, .iconst (-1), 0, 0, 0), (289, .if_icmp .ne 7, 0, 0, 0), (292, .iconst (-1), 0, 0, 0), (293, .goto 14, 0, 0, 0), (296, .aload_n 0, 0, 0, 0), (297, .iconst 1, 0, 0, 0),
  (298, .aload_n 0, 0, 0, 0), (299, .iload_n 1, 0, 0, 0), (300, .iconst 2, 0, 0, 0), (301, .invokevirtual 247, 256, 3, 15), (304, .invokevirtual 362, 197, 3, 15), (307, .istore 6, 0, 0, 0), (309, .aload_n 0, 0, 0, 0), (310, .iload_n 1, 0, 0, 0),
  (311, .iconst 2, 0, 0, 0), (312, .invokevirtual 247, 256, 3, 15), (315, .iconst (-1), 0, 0, 0), (316, .if_icmp .eq 17, 0, 0, 0), (319, .iload 6, 0, 0, 0), (321, .iconst (-1), 0, 0, 0), (322, .if_icmp .ne 11, 0, 0, 0), (325, .aload_n 0, 0, 0, 0),
  (326, .iconst 1, 0, 0, 0), (327, .iload_n 2, 0, 0, 0), (328, .iconst (-1), 0, 0, 0), (329, .invokevirtual 535, 276, 4, 15), (332, .ireturn, 1, 0, 0), (333, .iload 6, 0, 0, 0), (335, .iconst (-1), 0, 0, 0), (336, .if_icmp .eq 23, 0, 0, 0),
  (339, .aload_n 0, 0, 0, 0), (340, .iconst 1, 0, 0, 0), (341, .iload 6, 0, 0, 0), (343, .iload 5, 0, 0, 0), (345, .invokevirtual 548, 279, 4, 15), (348, .ifCond .eq 11, 0, 0, 0), (351, .aload_n 0, 0, 0, 0), (352, .iconst 5, 0, 0, 0),
  (353, .iload_n 2, 0, 0, 0), (354, .iconst (-1), 0, 0, 0), (355, .invokevirtual 535, 276, 4, 15), (358, .ireturn, 1, 0, 0), (359, .aload_n 0, 0, 0, 0), (360, .iconst 1, 0, 0, 0), (361, .iload 5, 0, 0, 0), (363, .iconst 1, 0, 0, 0),
  (364, .iload 6, 0, 0, 0), (366, .invokevirtual 337, 201, 5, 15), (369, .iconst 1, 0, 0, 0), (370, .ireturn, 1, 0, 0), (371, .aload_n 0, 0, 0, 0), (372, .iload_n 1, 0, 0, 0), (373, .iconst 3, 0, 0, 0), (374, .invokevirtual 436, 257, 3, 15),
  (377, .istore 6, 0, 0, 0), (379, .iload 6, 0, 0, 0), (381, .iconst (-1), 0, 0, 0), (382, .if_icmp .eq 29, 0, 0, 0), (385, .aload_n 0, 0, 0, 0), (386, .iload 6, 0, 0, 0), (388, .iload 5, 0, 0, 0), (390, .iload_n 2, 0, 0, 0),
  (391, .invokevirtual 551, 280, 4, 15), (394, .ifCond .ne 5, 0, 0, 0), (397, .iconst 0, 0, 0, 0), (398, .ireturn, 1, 0, 0), (399, .aload_n 0, 0, 0, 0), (400, .iload 6, 0, 0, 0), (402, .iconst 4, 0, 0, 0), (403, .invokevirtual 436, 257, 3, 15),
  (406, .istore 6, 0, 0, 0), (408, .goto (-29), 0, 0, 0), (411, .iconst 1, 0, 0, 0), (412, .ireturn, 1, 0, 0)]
def mt_c276 : List (Nat × mmE) := [(0, .aload_n 0, 0, 0, 0), (1, .iload_n 1, 0, 0, 0), (2, .putfield 529, 13, 82, 0), (5, .aload_n 0, 0, 0, 0), (6, .iload_n 2, 0, 0, 0), (7, .putfield 152, 13, 83, 0), (10, .aload_n 0, 0, 0, 0), (11, .iload_n 3, 0, 0, 0),
  (12, .putfield 155, 13, 84, 0), (15, .iconst 0, 0, 0, 0), (16, .ireturn, 1, 0, 0)]
def mt_c277 : List (Nat × mmE) := [(0, .aload_n 0, 0, 0, 0), (1, .iload_n 1, 0, 0, 0), (2, .iconst 0, 0, 0, 0), (3, .invokevirtual 247, 256, 3, 15), (6, .istore 4, 0, 0, 0), (8, .aload_n 0, 0, 0, 0), (9, .iload_n 1, 0, 0, 0), (10, .iconst 1, 0, 0, 0),
  (11, .invokevirtual 247, 256, 3, 15), (14, .istore 5, 0, 0, 0), (16, .iload 4, 0, 0, 0), (18, .bipush 32, 0, 0, 0), (20, .if_icmp .ne 53, 0, 0, 0), (23, .aload_n 0, 0, 0, 0), (24, .iconst 1, 0, 0, 0), (25, .iload_n 2, 0, 0, 0),
  (26, .iload 5, 0, 0, 0), (28, .invokevirtual 341, 205, 4, 15), (31, .iconst (-1), 0, 0, 0), (32, .if_icmp .ne 25, 0, 0, 0), (35, .aload_n 0, 0, 0, 0), (36, .iconst 1, 0, 0, 0), (37, .iload_n 2, 0, 0, 0), (38, .bipush 39, 0, 0, 0),
  (40, .invokevirtual 324, 199, 4, 15), (43, .bipush 8, 0, 0, 0), (45, .if_icmp .ne 12, 0, 0, 0), (48, .aload_n 0, 0, 0, 0), (49, .bipush 7, 0, 0, 0), (51, .iload_n 3, 0, 0, 0), (52, .iconst (-1), 0, 0, 0), (53, .invokevirtual 535, 276, 4, 15),
  (56, .ireturn, 1, 0, 0), (57, .aload_n 0, 0, 0, 0), (58, .iconst 1, 0, 0, 0), (59, .iload_n 2, 0, 0, 0), (60, .iload 5, 0, 0, 0), (62, .aload_n 0, 0, 0, 0), (63, .iload_n 1, 0, 0, 0), (64, .iconst 2, 0, 0, 0),
  (65, .invokevirtual 436, 257, 3, 15), (68, .invokevirtual 350, 220, 5, 15), (71, .iconst 1, 0, 0, 0), (72, .ireturn, 1, 0, 0), (73, .aload_n 0, 0, 0, 0), (74, .iconst 1, 0, 0, 0), (75, .iload_n 2, 0, 0, 0), (76, .iload 5, 0, 0, 0),
  (78, .invokevirtual 334, 206, 4, 15), (81, .ifCond .eq 11, 0, 0, 0), (84, .aload_n 0, 0, 0, 0), (85, .iconst 3, 0, 0, 0), (86, .iload_n 3, 0, 0, 0), (87, .iconst (-1), 0, 0, 0), (88, .invokevirtual 535, 276, 4, 15), (91, .ireturn, 1, 0, 0),
  (92, .iload 4, 0, 0, 0), (94, .bipush 31, 0, 0, 0), (96, .if_icmp .ne 18, 0, 0, 0), (99, .aload_n 0, 0, 0, 0), (100, .iconst 1, 0, 0, 0), (101, .iload_n 2, 0, 0, 0), (102, .bipush 30, 0, 0, 0), (104, .invokevirtual 324, 199, 4, 15),
  (107, .iconst 4, 0, 0, 0), (108, .if_icmp .ne 27, 0, 0, 0), (111, .goto 15, 0, 0, 0), (114, .aload_n 0, 0, 0, 0), (115, .iconst 1, 0, 0, 0), (116, .iload_n 2, 0, 0, 0), (117, .iconst 5, 0, 0, 0), (118, .invokevirtual 324, 199, 4, 15),
  (121, .bipush 8, 0, 0, 0), (123, .if_icmp .ne 12, 0, 0, 0), (126, .aload_n 0, 0, 0, 0), (127, .bipush 7, 0, 0, 0), (129, .iload_n 3, 0, 0, 0), (130, .iconst (-1), 0, 0, 0), (131, .invokevirtual 535, 276, 4, 15), (134, .ireturn, 1, 0, 0),
  (135, .iload 4, 0, 0, 0), (137, .bipush 31, 0, 0, 0), (139, .if_icmp .ne 20, 0, 0, 0), (142, .aload_n 0, 0, 0, 0), (143, .iconst 1, 0, 0, 0), (144, .iload_n 2, 0, 0, 0), (145, .iload 5, 0, 0, 0), (147, .aload_n 0, 0, 0, 0),
  (148, .iload_n 1, 0, 0, 0), (149, .iconst 2, 0, 0, 0), (150, .invokevirtual 247, 256, 3, 15), (153, .invokevirtual 356, 222, 5, 15), (156, .goto 17, 0, 0, 0), (159, .aload_n 0, 0, 0, 0), (160, .iconst 1, 0, 0, 0), (161, .iload_n 2, 0, 0, 0),
  (162, .iload 5, 0, 0, 0), (164, .aload_n 0, 0, 0, 0), (165, .iload_n 1, 0, 0, 0), (166, .iconst 2, 0, 0, 0), (167, .invokevirtual 247, 256, 3, 15), (170, .invokevirtual 359, 223, 5, 15), (173, .iconst 1, 0, 0, 0), (174, .ireturn, 1, 0, 0)]
def mt_c278 : List (Nat × mmE) := [(0, .aload_n 0, 0, 0, 0), (1, .iconst 1, 0, 0, 0), (2, .invokevirtual 321, 198, 2, 15), (5, .istore_n 2, 0, 0, 0), (6, .iload_n 1, 0, 0, 0), (7, .istore_n 3, 0, 0, 0), (8, .iload_n 3, 0, 0, 0), (9, .iconst 1, 0, 0, 0),
  (10, .iadd, 0, 0, 0), (11, .iload_n 2, 0, 0, 0), (12, .if_icmp .ge 43, 0, 0, 0), (15, .iconst 0, 0, 0, 0), (16, .istore 4, 0, 0, 0), (18, .iload 4, 0, 0, 0), (20, .bipush 64, 0, 0, 0), (22, .if_icmp .ge 27, 0, 0, 0),
  (25, .aload_n 0, 0, 0, 0), (26, .iconst 1, 0, 0, 0), (27, .iload_n 3, 0, 0, 0), (28, .iload 4, 0, 0, 0), (30, .aload_n 0, 0, 0, 0), (31, .iconst 1, 0, 0, 0), (32, .iload_n 3, 0, 0, 0), (33, .iconst 1, 0, 0, 0),
  (34, .iadd, 0, 0, 0), (35, .iload 4, 0, 0, 0), (37, .invokevirtual 324, 199, 4, 15), (40, .invokevirtual 337, 201, 5, 15), (43, .iinc 4 1, 0, 0, 0), (46, .goto (-28), 0, 0, 0), (49, .iinc 3 1, 0, 0, 0), (52, .goto (-44), 0, 0, 0),
  (55, .aload_n 0, 0, 0, 0), (56, .getfield 28, 13, 23, 0), (59, .sipush 769, 0, 0, 0), (62, .iload_n 2, 0, 0, 0), (63, .iconst 1, 0, 0, 0), (64, .isub, 0, 0, 0), (65, .iastore, 0, 0, 0), (66, .iconst 0, 0, 0, 0),
  (67, .istore_n 3, 0, 0, 0), (68, .iload_n 3, 0, 0, 0), (69, .iload_n 2, 0, 0, 0), (70, .iconst 1, 0, 0, 0), (71, .isub, 0, 0, 0), (72, .if_icmp .ge 36, 0, 0, 0), (75, .aload_n 0, 0, 0, 0), (76, .iconst 1, 0, 0, 0),
  (77, .iload_n 3, 0, 0, 0), (78, .iconst 1, 0, 0, 0), (79, .invokevirtual 324, 199, 4, 15), (82, .iload_n 1, 0, 0, 0), (83, .if_icmp .le 19, 0, 0, 0), (86, .aload_n 0, 0, 0, 0), (87, .iconst 1, 0, 0, 0), (88, .iload_n 3, 0, 0, 0),
  (89, .iconst 1, 0, 0, 0), (90, .aload_n 0, 0, 0, 0), (91, .iconst 1, 0, 0, 0), (92, .iload_n 3, 0, 0, 0), (93, .iconst 1, 0, 0, 0), (94, .invokevirtual 324, 199, 4, 15), (97, .iconst 1, 0, 0, 0), (98, .isub, 0, 0, 0),
  (99, .invokevirtual 337, 201, 5, 15), (102, .iinc 3 1, 0, 0, 0), (105, .goto (-37), 0, 0, 0), (108, .return_, 0, 0, 0)]
def mt_c279 : List (Nat × mmE) := [(0, .iload_n 2, 0, 0, 0), (1, .istore 4, 0, 0, 0), (3, .iload 4, 0, 0, 0), (5, .iconst (-1), 0, 0, 0), (6, .if_icmp .eq 22, 0, 0, 0), (9, .iload 4, 0, 0, 0), (11, .iload_n 3, 0, 0, 0), (12, .if_icmp .eq 16, 0, 0, 0),
  (15, .aload_n 0, 0, 0, 0), (16, .iload_n 1, 0, 0, 0), (17, .iload 4, 0, 0, 0), (19, .iconst 1, 0, 0, 0), (20, .invokevirtual 324, 199, 4, 15), (23, .istore 4, 0, 0, 0), (25, .goto (-22), 0, 0, 0), (28, .iload 4, 0, 0, 0),
  (30, .iload_n 3, 0, 0, 0), (31, .if_icmp .ne 7, 0, 0, 0), (34, .iconst 1, 0, 0, 0), (35, .goto 4, 0, 0, 0), (38, .iconst 0, 0, 0, 0), (39, .ireturn, 1, 0, 0)]
def mt_c280 : List (Nat × mmE) := [(0, .aload_n 0, 0, 0, 0), (1, .iload_n 1, 0, 0, 0), (2, .iconst 0, 0, 0, 0), (3, .invokevirtual 247, 256, 3, 15), (6, .istore 4, 0, 0, 0), (8, .aload_n 0, 0, 0, 0), (9, .iload_n 1, 0, 0, 0), (10, .iconst 1, 0, 0, 0),
  (11, .invokevirtual 247, 256, 3, 15), (14, .istore 5, 0, 0, 0), (16, .iload 4, 0, 0, 0), (18, .bipush 35, 0, 0, 0), (20, .if_icmp .ne 5, 0, 0, 0), (23, .iconst 1, 0, 0, 0), (24, .ireturn, 1, 0, 0), (25, .iload 4, 0, 0, 0),
  (27, .bipush 34, 0, 0, 0), (29, .if_icmp .ne 69, 0, 0, 0), (32, .aload_n 0, 0, 0, 0), (33, .iconst 1, 0, 0, 0), (34, .iload_n 2, 0, 0, 0), (35, .iload 5, 0, 0, 0), (37, .invokevirtual 328, 207, 4, 15), (40, .istore 6, 0, 0, 0),
  (42, .iload 6, 0, 0, 0), (44, .iconst (-1), 0, 0, 0), (45, .if_icmp .ne 11, 0, 0, 0), (48, .aload_n 0, 0, 0, 0), (49, .iconst 4, 0, 0, 0), (50, .iload_n 3, 0, 0, 0), (51, .iconst (-1), 0, 0, 0), (52, .invokevirtual 535, 276, 4, 15),
  (55, .ireturn, 1, 0, 0), (56, .aload_n 0, 0, 0, 0), (57, .iconst 1, 0, 0, 0), (58, .iload_n 2, 0, 0, 0), (59, .aload_n 0, 0, 0, 0), (60, .iload_n 1, 0, 0, 0), (61, .iconst 2, 0, 0, 0), (62, .invokevirtual 247, 256, 3, 15),
  (65, .invokevirtual 334, 206, 4, 15), (68, .ifCond .eq 11, 0, 0, 0), (71, .aload_n 0, 0, 0, 0), (72, .iconst 3, 0, 0, 0), (73, .iload_n 3, 0, 0, 0), (74, .iconst (-1), 0, 0, 0), (75, .invokevirtual 535, 276, 4, 15), (78, .ireturn, 1, 0, 0),
  (79, .aload_n 0, 0, 0, 0), (80, .iconst 1, 0, 0, 0), (81, .iload_n 2, 0, 0, 0), (82, .bipush 6, 0, 0, 0), (84, .iload 6, 0, 0, 0), (86, .iadd, 0, 0, 0), (87, .aload_n 0, 0, 0, 0), (88, .iload_n 1, 0, 0, 0),
  (89, .iconst 2, 0, 0, 0), (90, .invokevirtual 247, 256, 3, 15), (93, .invokevirtual 337, 201, 5, 15), (96, .iconst 1, 0, 0, 0), (97, .ireturn, 1, 0, 0), (98, .iload 4, 0, 0, 0), (100, .bipush 33, 0, 0, 0), (102, .if_icmp .eq 11, 0, 0, 0),
  (105, .aload_n 0, 0, 0, 0), (106, .iload_n 1, 0, 0, 0), (107, .iload_n 2, 0, 0, 0), (108, .iload_n 3, 0, 0, 0), (109, .invokevirtual 538, 277, 4, 15), (112, .ireturn, 1, 0, 0), (113, .aload_n 0, 0, 0, 0), (114, .iconst 1, 0, 0, 0),
  (115, .iload_n 2, 0, 0, 0), (116, .iload 5, 0, 0, 0), (118, .invokevirtual 328, 207, 4, 15), (121, .iconst (-1), 0, 0, 0), (122, .if_icmp .eq 23, 0, 0, 0), (125, .aload_n 0, 0, 0, 0), (126, .iload_n 2, 0, 0, 0), (127, .bipush 6, 0, 0, 0),
  (129, .aload_n 0, 0, 0, 0), (130, .iconst 1, 0, 0, 0), (131, .iload_n 2, 0, 0, 0), (132, .iload 5, 0, 0, 0), (134, .invokevirtual 328, 207, 4, 15), (137, .iconst 5, 0, 0, 0), (138, .iconst 3, 0, 0, 0), (139, .invokevirtual 541, 281, 6, 15),
  (142, .goto 77, 0, 0, 0), (145, .aload_n 0, 0, 0, 0), (146, .iconst 1, 0, 0, 0), (147, .iload_n 2, 0, 0, 0), (148, .iload 5, 0, 0, 0), (150, .invokevirtual 331, 208, 4, 15), (153, .iconst (-1), 0, 0, 0), (154, .if_icmp .eq 24, 0, 0, 0),
  (157, .aload_n 0, 0, 0, 0), (158, .iload_n 2, 0, 0, 0), (159, .bipush 31, 0, 0, 0), (161, .aload_n 0, 0, 0, 0), (162, .iconst 1, 0, 0, 0), (163, .iload_n 2, 0, 0, 0), (164, .iload 5, 0, 0, 0), (166, .invokevirtual 331, 208, 4, 15),
  (169, .bipush 30, 0, 0, 0), (171, .iconst 2, 0, 0, 0), (172, .invokevirtual 541, 281, 6, 15), (175, .goto 44, 0, 0, 0), (178, .aload_n 0, 0, 0, 0), (179, .iconst 1, 0, 0, 0), (180, .iload_n 2, 0, 0, 0), (181, .iload 5, 0, 0, 0),
  (183, .invokevirtual 341, 205, 4, 15), (186, .iconst (-1), 0, 0, 0), (187, .if_icmp .eq 24, 0, 0, 0), (190, .aload_n 0, 0, 0, 0), (191, .iload_n 2, 0, 0, 0), (192, .bipush 40, 0, 0, 0), (194, .aload_n 0, 0, 0, 0), (195, .iconst 1, 0, 0, 0),
  (196, .iload_n 2, 0, 0, 0), (197, .iload 5, 0, 0, 0), (199, .invokevirtual 341, 205, 4, 15), (202, .bipush 39, 0, 0, 0), (204, .iconst 2, 0, 0, 0), (205, .invokevirtual 541, 281, 6, 15), (208, .goto 11, 0, 0, 0), (211, .aload_n 0, 0, 0, 0),
  (212, .iconst 4, 0, 0, 0), (213, .iload_n 3, 0, 0, 0), (214, .iconst (-1), 0, 0, 0), (215, .invokevirtual 535, 276, 4, 15), (218, .ireturn, 1, 0, 0), (219, .iconst 1, 0, 0, 0), (220, .ireturn, 1, 0, 0)]
def mt_c281 : List (Nat × mmE) := [(0, .aload_n 0, 0, 0, 0), (1, .iconst 1, 0, 0, 0), (2, .iload_n 1, 0, 0, 0), (3, .iload 4, 0, 0, 0), (5, .invokevirtual 324, 199, 4, 15), (8, .istore 6, 0, 0, 0), (10, .iconst 0, 0, 0, 0), (11, .istore 7, 0, 0, 0),
  (13, .iload 7, 0, 0, 0), (15, .iload 5, 0, 0, 0), (17, .if_icmp .ge 75, 0, 0, 0), (20, .iload_n 2, 0, 0, 0), (21, .bipush 31, 0, 0, 0), (23, .if_icmp .ne 7, 0, 0, 0), (26, .iconst 4, 0, 0, 0), (27, .goto 5, 0, 0, 0),
  (30, .bipush 8, 0, 0, 0), (32, .istore 8, 0, 0, 0), (34, .iload_n 3, 0, 0, 0), (35, .istore 9, 0, 0, 0), (37, .iload 9, 0, 0, 0), (39, .iconst 1, 0, 0, 0), (40, .iadd, 0, 0, 0), (41, .iload 6, 0, 0, 0),
  (43, .if_icmp .ge 43, 0, 0, 0), (46, .aload_n 0, 0, 0, 0), (47, .iconst 1, 0, 0, 0), (48, .iload_n 1, 0, 0, 0), (49, .iload_n 2, 0, 0, 0), (50, .iload 8, 0, 0, 0), (52, .iload 7, 0, 0, 0), (54, .imul, 0, 0, 0),
  (55, .iadd, 0, 0, 0), (56, .iload 9, 0, 0, 0), (58, .iadd, 0, 0, 0), (59, .aload_n 0, 0, 0, 0), (60, .iconst 1, 0, 0, 0), (61, .iload_n 1, 0, 0, 0), (62, .iload_n 2, 0, 0, 0), (63, .iload 8, 0, 0, 0),
  (65, .iload 7, 0, 0, 0), (67, .imul, 0, 0, 0), (68, .iadd, 0, 0, 0), (69, .iload 9, 0, 0, 0), (71, .iadd, 0, 0, 0), (72, .iconst 1, 0, 0, 0), (73, .iadd, 0, 0, 0), (74, .invokevirtual 324, 199, 4, 15),
  (77, .invokevirtual 337, 201, 5, 15), (80, .iinc 9 1, 0, 0, 0), (83, .goto (-46), 0, 0, 0), (86, .iinc 7 1, 0, 0, 0), (89, .goto (-76), 0, 0, 0), (92, .aload_n 0, 0, 0, 0), (93, .iconst 1, 0, 0, 0), (94, .iload_n 1, 0, 0, 0),
  (95, .iload 4, 0, 0, 0), (97, .iload 6, 0, 0, 0), (99, .iconst 1, 0, 0, 0), (100, .isub, 0, 0, 0), (101, .invokevirtual 337, 201, 5, 15), (104, .return_, 0, 0, 0)]
def mt_c282 : List (Nat × mmE) := [(0, .iconst 0, 0, 0, 0), (1, .istore_n 1, 0, 0, 0), (2, .iload_n 1, 0, 0, 0), (3, .aload_n 0, 0, 0, 0), (4, .iconst 1, 0, 0, 0), (5, .invokevirtual 321, 198, 2, 15), (8, .if_icmp .ge 104, 0, 0, 0), (11, .iconst 0, 0, 0, 0),
  (12, .istore_n 2, 0, 0, 0), (13, .iload_n 2, 0, 0, 0), (14, .aload_n 0, 0, 0, 0), (15, .iconst 1, 0, 0, 0), (16, .iload_n 1, 0, 0, 0), (17, .iconst 5, 0, 0, 0), (18, .invokevirtual 324, 199, 4, 15), (21, .if_icmp .ge 37, 0, 0, 0),
  (24, .aload_n 0, 0, 0, 0), (25, .iconst 1, 0, 0, 0), (26, .iload_n 1, 0, 0, 0), (27, .aload_n 0, 0, 0, 0), (28, .iconst 1, 0, 0, 0), (29, .iload_n 1, 0, 0, 0), (30, .bipush 6, 0, 0, 0), (32, .iload_n 2, 0, 0, 0),
  (33, .iadd, 0, 0, 0), (34, .invokevirtual 324, 199, 4, 15), (37, .invokevirtual 347, 209, 4, 15), (40, .ifCond .eq 12, 0, 0, 0), (43, .aload_n 0, 0, 0, 0), (44, .bipush 8, 0, 0, 0), (46, .iconst (-1), 0, 0, 0), (47, .iconst (-1), 0, 0, 0),
  (48, .invokevirtual 535, 276, 4, 15), (51, .ireturn, 1, 0, 0), (52, .iinc 2 1, 0, 0, 0), (55, .goto (-42), 0, 0, 0), (58, .iconst 0, 0, 0, 0), (59, .istore_n 2, 0, 0, 0), (60, .iload_n 2, 0, 0, 0), (61, .aload_n 0, 0, 0, 0),
  (62, .iconst 1, 0, 0, 0), (63, .iload_n 1, 0, 0, 0), (64, .bipush 30, 0, 0, 0), (66, .invokevirtual 324, 199, 4, 15), (69, .if_icmp .ge 37, 0, 0, 0), (72, .aload_n 0, 0, 0, 0), (73, .iconst 1, 0, 0, 0), (74, .iload_n 1, 0, 0, 0),
  (75, .aload_n 0, 0, 0, 0), (76, .iconst 1, 0, 0, 0), (77, .iload_n 1, 0, 0, 0), (78, .bipush 31, 0, 0, 0), (80, .iload_n 2, 0, 0, 0), (81, .iadd, 0, 0, 0), (82, .invokevirtual 324, 199, 4, 15), (85, .invokevirtual 347, 209, 4, 15),
  (88, .ifCond .eq 12, 0, 0, 0), (91, .aload_n 0, 0, 0, 0), (92, .bipush 8, 0, 0, 0), (94, .iconst (-1), 0, 0, 0), (95, .iconst (-1), 0, 0, 0), (96, .invokevirtual 535, 276, 4, 15), (99, .ireturn, 1, 0, 0), (100, .iinc 2 1, 0, 0, 0),
  (103, .goto (-43), 0, 0, 0), (106, .iinc 1 1, 0, 0, 0), (109, .goto (-107), 0, 0, 0), (112, .iconst 1, 0, 0, 0), (113, .ireturn, 1, 0, 0)]
def mt_c283 : List (Nat × mmE) := [(0, .iconst 0, 0, 0, 0), (1, .istore_n 2, 0, 0, 0), (2, .iload_n 2, 0, 0, 0), (3, .sipush 1600, 0, 0, 0), (6, .if_icmp .ge 16, 0, 0, 0), (9, .aload_n 0, 0, 0, 0), (10, .getfield 170, 13, 89, 0), (13, .iload_n 2, 0, 0, 0),
  (14, .iconst 0, 0, 0, 0), (15, .bastore, 0, 0, 0), (16, .iinc 2 1, 0, 0, 0), (19, .goto (-17), 0, 0, 0), (22, .aload_n 0, 0, 0, 0), (23, .iconst 0, 0, 0, 0), (24, .putfield 430, 13, 39, 0), (27, .iconst 0, 0, 0, 0),
  (28, .istore_n 2, 0, 0, 0), (29, .iload_n 2, 0, 0, 0), (30, .aload_n 0, 0, 0, 0), (31, .getfield 394, 13, 33, 0), (34, .if_icmp .ge 76, 0, 0, 0), (37, .aload_n 0, 0, 0, 0), (38, .getfield 182, 13, 93, 0), (41, .iload_n 2, 0, 0, 0),
  (42, .aload_n 0, 0, 0, 0), (43, .getfield 46, 13, 34, 0), (46, .iload_n 2, 0, 0, 0), (47, .baload, 0, 0, 0), (48, .ifCond .eq 11, 0, 0, 0), (51, .aload_n 0, 0, 0, 0), (52, .iload_n 2, 0, 0, 0), (53, .invokevirtual 570, 284, 2, 15),
  (56, .goto 4, 0, 0, 0), (59, .iconst (-1), 0, 0, 0), (60, .iastore, 0, 0, 0), (61, .aload_n 0, 0, 0, 0), (62, .getfield 182, 13, 93, 0), (65, .iload_n 2, 0, 0, 0), (66, .iaload, 0, 0, 0), (67, .iconst (-1), 0, 0, 0),
  (68, .if_icmp .eq 36, 0, 0, 0), (71, .aload_n 0, 0, 0, 0), (72, .iconst 1, 0, 0, 0), (73, .aload_n 0, 0, 0, 0), (74, .getfield 182, 13, 93, 0), (77, .iload_n 2, 0, 0, 0), (78, .iaload, 0, 0, 0), (79, .iconst 3, 0, 0, 0),
  (80, .invokevirtual 324, 199, 4, 15), (83, .iconst 1, 0, 0, 0), (84, .if_icmp .ne 20, 0, 0, 0), (87, .aload_n 0, 0, 0, 0), (88, .iload_n 1, 0, 0, 0), (89, .iload_n 2, 0, 0, 0), (90, .aload_n 0, 0, 0, 0), (91, .getfield 182, 13, 93, 0),
  (94, .iload_n 2, 0, 0, 0), (95, .iaload, 0, 0, 0), (96, .invokevirtual 573, 285, 4, 15), (99, .ifCond .ne 5, 0, 0, 0), (102, .iconst 0, 0, 0, 0), (103, .ireturn, 1, 0, 0), (104, .iinc 2 1, 0, 0, 0), (107, .goto (-78), 0, 0, 0),
  (110, .iconst 0, 0, 0, 0), (111, .istore_n 2, 0, 0, 0), (112, .iload_n 2, 0, 0, 0), (113, .sipush 1600, 0, 0, 0), (116, .if_icmp .ge 45, 0, 0, 0), (119, .aload_n 0, 0, 0, 0), (120, .getfield 158, 13, 85, 0), (123, .iload_n 2, 0, 0, 0),
  (124, .aload_n 0, 0, 0, 0), (125, .getfield 53, 13, 36, 0), (128, .iload_n 2, 0, 0, 0), (129, .iaload, 0, 0, 0), (130, .iastore, 0, 0, 0), (131, .aload_n 0, 0, 0, 0), (132, .getfield 161, 13, 86, 0), (135, .iload_n 2, 0, 0, 0),
  (136, .aload_n 0, 0, 0, 0), (137, .getfield 56, 13, 37, 0), (140, .iload_n 2, 0, 0, 0), (141, .iaload, 0, 0, 0), (142, .iastore, 0, 0, 0), (143, .aload_n 0, 0, 0, 0), (144, .getfield 167, 13, 88, 0), (147, .iload_n 2, 0, 0, 0),
  (148, .aload_n 0, 0, 0, 0), (149, .getfield 59, 13, 38, 0), (152, .iload_n 2, 0, 0, 0), (153, .baload, 0, 0, 0), (154, .bastore, 0, 0, 0), (155, .iinc 2 1, 0, 0, 0), (158, .goto (-46), 0, 0, 0), (161, .iconst 0, 0, 0, 0),
  (162, .istore_n 2, 0, 0, 0), (163, .iload_n 2, 0, 0, 0), (164, .aload_n 0, 0, 0, 0), (165, .getfield 394, 13, 33, 0), (168, .if_icmp .ge 111, 0, 0, 0), (171, .aload_n 0, 0, 0, 0), (172, .getfield 173, 13, 90, 0), (175, .iload_n 2, 0, 0, 0),
  (176, .aload_n 0, 0, 0, 0), (177, .getfield 50, 13, 35, 0), (180, .iload_n 2, 0, 0, 0), (181, .iaload, 0, 0, 0), (182, .iastore, 0, 0, 0), (183, .aload_n 0, 0, 0, 0), (184, .getfield 182, 13, 93, 0), (187, .iload_n 2, 0, 0, 0),
  (188, .iaload, 0, 0, 0), (189, .iconst (-1), 0, 0, 0), (190, .if_icmp .ne 6, 0, 0, 0), (193, .goto 80, 0, 0, 0), (196, .aload_n 0, 0, 0, 0), (197, .iconst 1, 0, 0, 0), (198, .aload_n 0, 0, 0, 0), (199, .getfield 182, 13, 93, 0),
  (202, .iload_n 2, 0, 0, 0), (203, .iaload, 0, 0, 0), (204, .iconst 3, 0, 0, 0), (205, .invokevirtual 324, 199, 4, 15), (208, .iconst 1, 0, 0, 0), (209, .if_icmp .ne 64, 0, 0, 0), (212, .aload_n 0, 0, 0, 0), (213, .iload_n 2, 0, 0, 0),
  (214, .aload_n 0, 0, 0, 0), (215, .getfield 182, 13, 93, 0), (218, .iload_n 2, 0, 0, 0), (219, .iaload, 0, 0, 0), (220, .invokevirtual 576, 288, 3, 15), (223, .iconst 0, 0, 0, 0), (224, .istore_n 3, 0, 0, 0), (225, .iload_n 3, 0, 0, 0),
  (226, .bipush 40, 0, 0, 0), (228, .if_icmp .ge 45, 0, 0, 0), (231, .aload_n 0, 0, 0, 0), (232, .getfield 170, 13, 89, 0), (235, .bipush 40, 0, 0, 0), (237, .iload_n 2, 0, 0, 0), (238, .imul, 0, 0, 0), (239, .iload_n 3, 0, 0, 0),
  (240, .iadd, 0, 0, 0), (241, .baload, 0, 0, 0), (242, .ifCond .eq 25, 0, 0, 0), (245, .aload_n 0, 0, 0, 0), (246, .getfield 53, 13, 36, 0), (249, .bipush 40, 0, 0, 0), (251, .iload_n 2, 0, 0, 0), (252, .imul, 0, 0, 0),
  (253, .iload_n 3, 0, 0, 0), (254, .iadd, 0, 0, 0), (255, .aload_n 0, 0, 0, 0), (256, .getfield 164, 13, 87, 0), (259, .bipush 40, 0, 0, 0), (261, .iload_n 2, 0, 0, 0), (262, .imul, 0, 0, 0), (263, .iload_n 3, 0, 0, 0),
  (264, .iadd, 0, 0, 0), (265, .iaload, 0, 0, 0), (266, .iastore, 0, 0, 0), (267, .iinc 3 1, 0, 0, 0), (270, .goto (-45), 0, 0, 0), (273, .iinc 2 1, 0, 0, 0), (276, .goto (-113), 0, 0, 0), (279, .iconst 0, 0, 0, 0),
  (280, .istore_n 2, 0, 0, 0), (281, .iload_n 2, 0, 0, 0), (282, .sipush 769, 0, 0, 0), (285, .if_icmp .ge 43, 0, 0, 0), (288, .aload_n 0, 0, 0, 0), (289, .getfield 28, 13, 23, 0), (292, .iload_n 2, 0, 0, 0), (293, .iaload, 0, 0, 0),
  (294, .istore_n 3, 0, 0, 0), (295, .aload_n 0, 0, 0, 0), (296, .getfield 185, 13, 94, 0), (299, .iload_n 2, 0, 0, 0), (300, .aload_n 0, 0, 0, 0), (301, .getfield 28, 13, 23, 0), (304, .sipush 1538, 0, 0, 0), (307, .iload_n 2, 0, 0, 0),
  (308, .iadd, 0, 0, 0), (309, .iaload, 0, 0, 0), (310, .iastore, 0, 0, 0), (311, .aload_n 0, 0, 0, 0), (312, .getfield 28, 13, 23, 0), (315, .sipush 1538, 0, 0, 0), (318, .iload_n 2, 0, 0, 0), (319, .iadd, 0, 0, 0),
  (320, .iload_n 3, 0, 0, 0), (321, .iastore, 0, 0, 0), (322, .iinc 2 1, 0, 0, 0), (325, .goto (-44), 0, 0, 0), (328, .aload_n 0, 0, 0, 0), (329, .iconst 1, 0, 0, 0), (330, .iconst 0, 0, 0, 0), (331, .invokevirtual 391, 226, 3, 15),
  (334, .iconst 0, 0, 0, 0), (335, .istore_n 2, 0, 0, 0), (336, .iload_n 2, 0, 0, 0), (337, .aload_n 0, 0, 0, 0), (338, .getfield 394, 13, 33, 0), (341, .if_icmp .ge 31, 0, 0, 0), (344, .aload_n 0, 0, 0, 0), (345, .getfield 182, 13, 93, 0),
  (348, .iload_n 2, 0, 0, 0), (349, .iaload, 0, 0, 0), (350, .iconst (-1), 0, 0, 0), (351, .if_icmp .eq 15, 0, 0, 0), (354, .aload_n 0, 0, 0, 0), (355, .getfield 50, 13, 35, 0), (358, .iload_n 2, 0, 0, 0), (359, .aload_n 0, 0, 0, 0),
  (360, .getfield 182, 13, 93, 0), (363, .iload_n 2, 0, 0, 0), (364, .iaload, 0, 0, 0), (365, .iastore, 0, 0, 0), (366, .iinc 2 1, 0, 0, 0), (369, .goto (-33), 0, 0, 0), (372, .aload_n 0, 0, 0, 0), (373, .iload_n 1, 0, 0, 0),
  (374, .invokevirtual 579, 289, 2, 15), (377, .ifCond .ne 121, 0, 0, 0), (380, .aload_n 0, 0, 0, 0), (381, .iconst 2, 0, 0, 0), (382, .iconst 0, 0, 0, 0), (383, .invokevirtual 391, 226, 3, 15), (386, .iconst 0, 0, 0, 0), (387, .istore_n 2, 0, 0, 0),
  (388, .iload_n 2, 0, 0, 0), (389, .sipush 769, 0, 0, 0), (392, .if_icmp .ge 25, 0, 0, 0), (395, .aload_n 0, 0, 0, 0), (396, .getfield 28, 13, 23, 0), (399, .sipush 1538, 0, 0, 0), (402, .iload_n 2, 0, 0, 0), (403, .iadd, 0, 0, 0),
  (404, .aload_n 0, 0, 0, 0), (405, .getfield 185, 13, 94, 0), (408, .iload_n 2, 0, 0, 0), (409, .iaload, 0, 0, 0), (410, .iastore, 0, 0, 0), (411, .iinc 2 1, 0, 0, 0), (414, .goto (-26), 0, 0, 0), (417, .iconst 0, 0, 0, 0),
  (418, .istore_n 2, 0, 0, 0), (419, .iload_n 2, 0, 0, 0), (420, .sipush 1600, 0, 0, 0), (423, .if_icmp .ge 45, 0, 0, 0), (426, .aload_n 0, 0, 0, 0), (427, .getfield 53, 13, 36, 0), (430, .iload_n 2, 0, 0, 0), (431, .aload_n 0, 0, 0, 0),
  (432, .getfield 158, 13, 85, 0), (435, .iload_n 2, 0, 0, 0), (436, .iaload, 0, 0, 0), (437, .iastore, 0, 0, 0), (438, .aload_n 0, 0, 0, 0), (439, .getfield 56, 13, 37, 0), (442, .iload_n 2, 0, 0, 0), (443, .aload_n 0, 0, 0, 0),
  (444, .getfield 161, 13, 86, 0), (447, .iload_n 2, 0, 0, 0), (448, .iaload, 0, 0, 0), (449, .iastore, 0, 0, 0), (450, .aload_n 0, 0, 0, 0), (451, .getfield 59, 13, 38, 0), (454, .iload_n 2, 0, 0, 0), (455, .aload_n 0, 0, 0, 0),
  (456, .getfield 167, 13, 88, 0), (459, .iload_n 2, 0, 0, 0), (460, .baload, 0, 0, 0), (461, .bastore, 0, 0, 0), (462, .iinc 2 1, 0, 0, 0), (465, .goto (-46), 0, 0, 0), (468, .iconst 0, 0, 0, 0), (469, .istore_n 2, 0, 0, 0),
  (470, .iload_n 2, 0, 0, 0), (471, .aload_n 0, 0, 0, 0), (472, .getfield 394, 13, 33, 0), (475, .if_icmp .ge 21, 0, 0, 0), (478, .aload_n 0, 0, 0, 0), (479, .getfield 50, 13, 35, 0), (482, .iload_n 2, 0, 0, 0), (483, .aload_n 0, 0, 0, 0),
  (484, .getfield 173, 13, 90, 0), (487, .iload_n 2, 0, 0, 0), (488, .iaload, 0, 0, 0), (489, .iastore, 0, 0, 0), (490, .iinc 2 1, 0, 0, 0), (493, .goto (-23), 0, 0, 0), (496, .iconst 0, 0, 0, 0), (497, .ireturn, 1, 0, 0),
  (498, .aload_n 0, 0, 0, 0), (499, .dup, 0, 0, 0), (500, .getfield 400, 13, 27, 0), (503, .iconst 1, 0, 0, 0), (504, .iadd, 0, 0, 0), (505, .putfield 400, 13, 27, 0), (508, .aload_n 0, 0, 0, 0), (509, .iload_n 1, 0, 0, 0),
  (510, .putfield 34, 13, 29, 0), (513, .iconst 0, 0, 0, 0), (514, .istore_n 2, 0, 0, 0), (515, .iload_n 2, 0, 0, 0), (516, .aload_n 0, 0, 0, 0), (517, .getfield 394, 13, 33, 0), (520, .if_icmp .ge 33, 0, 0, 0), (523, .aload_n 0, 0, 0, 0),
  (524, .getfield 46, 13, 34, 0), (527, .iload_n 2, 0, 0, 0), (528, .baload, 0, 0, 0), (529, .ifCond .eq 18, 0, 0, 0), (532, .aload_n 0, 0, 0, 0), (533, .getfield 182, 13, 93, 0), (536, .iload_n 2, 0, 0, 0), (537, .iaload, 0, 0, 0),
  (538, .iconst (-1), 0, 0, 0), (539, .if_icmp .ne 8, 0, 0, 0), (542, .aload_n 0, 0, 0, 0), (543, .iload_n 2, 0, 0, 0), (544, .invokevirtual 582, 290, 2, 15), (547, .iinc 2 1, 0, 0, 0), (550, .goto (-35), 0, 0, 0), (553, .iconst 1, 0, 0, 0),
  (554, .ireturn, 1, 0, 0)]
def mt_c284 : List (Nat × mmE) := [(0, .iconst 0, 0, 0, 0), (1, .istore_n 2, 0, 0, 0), (2, .iload_n 2, 0, 0, 0), (3, .aload_n 0, 0, 0, 0), (4, .iconst 1, 0, 0, 0), (5, .invokevirtual 321, 198, 2, 15), (8, .if_icmp .ge 27, 0, 0, 0), (11, .aload_n 0, 0, 0, 0),
  (12, .iconst 1, 0, 0, 0), (13, .iload_n 2, 0, 0, 0), (14, .iconst 4, 0, 0, 0), (15, .invokevirtual 324, 199, 4, 15), (18, .aload_n 0, 0, 0, 0), (19, .getfield 50, 13, 35, 0), (22, .iload_n 1, 0, 0, 0), (23, .iaload, 0, 0, 0),
  (24, .if_icmp .ne 5, 0, 0, 0), (27, .iload_n 2, 0, 0, 0), (28, .ireturn, 0, 0, 0), (29, .iinc 2 1, 0, 0, 0), (32, .goto (-30), 0, 0, 0), (35, .iconst (-1), 0, 0, 0), (36, .ireturn, 0, 0, 0)]
def mt_c285 : List (Nat × mmE) := [(0, .aload_n 0, 0, 0, 0), (1, .iload_n 1, 0, 0, 0), (2, .iload_n 3, 0, 0, 0), (3, .invokevirtual 554, 286, 3, 15), (6, .aload_n 0, 0, 0, 0), (7, .getfield 62, 13, 43, 0), (10, .iconst 0, 0, 0, 0), (11, .iload_n 2, 0, 0, 0),
  (12, .iastore, 0, 0, 0), (13, .aload_n 0, 0, 0, 0), (14, .getfield 65, 13, 44, 0), (17, .iconst 0, 0, 0, 0), (18, .iconst 0, 0, 0, 0), (19, .iastore, 0, 0, 0), (20, .aload_n 0, 0, 0, 0), (21, .getfield 68, 13, 45, 0),
  (24, .iconst 0, 0, 0, 0), (25, .iconst 0, 0, 0, 0), (26, .iastore, 0, 0, 0), (27, .iconst 0, 0, 0, 0), (28, .istore 4, 0, 0, 0), (30, .iload_n 3, 0, 0, 0), (31, .istore 5, 0, 0, 0), (33, .iload 5, 0, 0, 0),
  (35, .iconst (-1), 0, 0, 0), (36, .if_icmp .eq 19, 0, 0, 0), (39, .iinc 4 1, 0, 0, 0), (42, .aload_n 0, 0, 0, 0), (43, .iconst 1, 0, 0, 0), (44, .iload 5, 0, 0, 0), (46, .iconst 1, 0, 0, 0), (47, .invokevirtual 324, 199, 4, 15),
  (50, .istore 5, 0, 0, 0), (52, .goto (-19), 0, 0, 0), (55, .iload 4, 0, 0, 0), (57, .ifCond .le 209, 0, 0, 0), (60, .iload_n 3, 0, 0, 0), (61, .istore 5, 0, 0, 0), (63, .iconst 1, 0, 0, 0), (64, .istore 6, 0, 0, 0),
  (66, .iload 6, 0, 0, 0), (68, .iload 4, 0, 0, 0), (70, .if_icmp .ge 19, 0, 0, 0), (73, .aload_n 0, 0, 0, 0), (74, .iconst 1, 0, 0, 0), (75, .iload 5, 0, 0, 0), (77, .iconst 1, 0, 0, 0), (78, .invokevirtual 324, 199, 4, 15),
  (81, .istore 5, 0, 0, 0), (83, .iinc 6 1, 0, 0, 0), (86, .goto (-20), 0, 0, 0), (89, .iconst 0, 0, 0, 0), (90, .istore 6, 0, 0, 0), (92, .iload 6, 0, 0, 0), (94, .aload_n 0, 0, 0, 0), (95, .iconst 1, 0, 0, 0),
  (96, .iload 5, 0, 0, 0), (98, .iconst 5, 0, 0, 0), (99, .invokevirtual 324, 199, 4, 15), (102, .if_icmp .ge 158, 0, 0, 0), (105, .aload_n 0, 0, 0, 0), (106, .iconst 1, 0, 0, 0), (107, .iload 5, 0, 0, 0), (109, .bipush 6, 0, 0, 0),
  (111, .iload 6, 0, 0, 0), (113, .iadd, 0, 0, 0), (114, .invokevirtual 324, 199, 4, 15), (117, .istore 7, 0, 0, 0), (119, .aload_n 0, 0, 0, 0), (120, .getfield 170, 13, 89, 0), (123, .bipush 40, 0, 0, 0), (125, .iload_n 2, 0, 0, 0),
  (126, .imul, 0, 0, 0), (127, .iload 7, 0, 0, 0), (129, .iadd, 0, 0, 0), (130, .iconst 1, 0, 0, 0), (131, .bastore, 0, 0, 0), (132, .aload_n 0, 0, 0, 0), (133, .getfield 176, 13, 91, 0), (136, .iload 7, 0, 0, 0),
  (138, .iaload, 0, 0, 0), (139, .iconst (-1), 0, 0, 0), (140, .if_icmp .eq 52, 0, 0, 0), (143, .aload_n 0, 0, 0, 0), (144, .aload_n 0, 0, 0, 0), (145, .getfield 176, 13, 91, 0), (148, .iload 7, 0, 0, 0), (150, .iaload, 0, 0, 0),
  (151, .iconst 0, 0, 0, 0), (152, .invokevirtual 445, 258, 3, 15), (155, .ifCond .ne 18, 0, 0, 0), (158, .aload_n 0, 0, 0, 0), (159, .bipush 9, 0, 0, 0), (161, .aload_n 0, 0, 0, 0), (162, .getfield 179, 13, 92, 0), (165, .iload 7, 0, 0, 0),
  (167, .iaload, 0, 0, 0), (168, .iload_n 2, 0, 0, 0), (169, .invokevirtual 535, 276, 4, 15), (172, .ireturn, 1, 0, 0), (173, .aload_n 0, 0, 0, 0), (174, .getfield 164, 13, 87, 0), (177, .bipush 40, 0, 0, 0), (179, .iload_n 2, 0, 0, 0),
  (180, .imul, 0, 0, 0), (181, .iload 7, 0, 0, 0), (183, .iadd, 0, 0, 0), (184, .aload_n 0, 0, 0, 0), (185, .getfield 442, 13, 52, 0), (188, .iastore, 0, 0, 0), (189, .goto 65, 0, 0, 0), (192, .aload_n 0, 0, 0, 0),
  (193, .iconst 0, 0, 0, 0), (194, .aload_n 0, 0, 0, 0), (195, .getfield 50, 13, 35, 0), (198, .iload_n 2, 0, 0, 0), (199, .iaload, 0, 0, 0), (200, .iconst 1, 0, 0, 0), (201, .iload_n 3, 0, 0, 0), (202, .iload 7, 0, 0, 0),
  (204, .invokevirtual 557, 287, 6, 15), (207, .istore 8, 0, 0, 0), (209, .aload_n 0, 0, 0, 0), (210, .getfield 164, 13, 87, 0), (213, .bipush 40, 0, 0, 0), (215, .iload_n 2, 0, 0, 0), (216, .imul, 0, 0, 0), (217, .iload 7, 0, 0, 0),
  (219, .iadd, 0, 0, 0), (220, .iload 8, 0, 0, 0), (222, .iconst (-1), 0, 0, 0), (223, .if_icmp .ne 18, 0, 0, 0), (226, .aload_n 0, 0, 0, 0), (227, .iconst 1, 0, 0, 0), (228, .iload 5, 0, 0, 0), (230, .bipush 14, 0, 0, 0),
  (232, .iload 6, 0, 0, 0), (234, .iadd, 0, 0, 0), (235, .invokevirtual 324, 199, 4, 15), (238, .goto 15, 0, 0, 0), (241, .aload_n 0, 0, 0, 0), (242, .getfield 53, 13, 36, 0), (245, .bipush 40, 0, 0, 0), (247, .iload_n 2, 0, 0, 0),
  (248, .imul, 0, 0, 0), (249, .iload 8, 0, 0, 0), (251, .iadd, 0, 0, 0), (252, .iaload, 0, 0, 0), (253, .iastore, 0, 0, 0), (254, .iinc 6 1, 0, 0, 0), (257, .goto (-165), 0, 0, 0), (260, .iinc 4 (-1), 0, 0, 0),
  (263, .goto (-208), 0, 0, 0), (266, .iconst 1, 0, 0, 0), (267, .ireturn, 1, 0, 0)]
def mt_c286 : List (Nat × mmE) := [(0, .iconst 0, 0, 0, 0), (1, .istore_n 3, 0, 0, 0), (2, .iload_n 3, 0, 0, 0), (3, .bipush 40, 0, 0, 0), (5, .if_icmp .ge 16, 0, 0, 0), (8, .aload_n 0, 0, 0, 0), (9, .getfield 176, 13, 91, 0), (12, .iload_n 3, 0, 0, 0),
  (13, .iconst (-1), 0, 0, 0), (14, .iastore, 0, 0, 0), (15, .iinc 3 1, 0, 0, 0), (18, .goto (-16), 0, 0, 0), (21, .iconst 0, 0, 0, 0), (22, .istore_n 3, 0, 0, 0), (23, .aload_n 0, 0, 0, 0), (24, .getfield 40, 13, 31, 0),
  (27, .iload_n 1, 0, 0, 0), (28, .iaload, 0, 0, 0), (29, .istore 4, 0, 0, 0), (31, .iload 4, 0, 0, 0), (33, .iconst (-1), 0, 0, 0), (34, .if_icmp .eq 143, 0, 0, 0), (37, .aload_n 0, 0, 0, 0), (38, .iload 4, 0, 0, 0),
  (40, .iconst 0, 0, 0, 0), (41, .invokevirtual 247, 256, 3, 15), (44, .bipush 41, 0, 0, 0), (46, .if_icmp .ne 18, 0, 0, 0), (49, .aload_n 0, 0, 0, 0), (50, .iconst 1, 0, 0, 0), (51, .aload_n 0, 0, 0, 0), (52, .iload 4, 0, 0, 0),
  (54, .iconst 1, 0, 0, 0), (55, .invokevirtual 247, 256, 3, 15), (58, .invokevirtual 362, 197, 3, 15), (61, .goto 4, 0, 0, 0), (64, .iconst (-1), 0, 0, 0), (65, .istore 5, 0, 0, 0), (67, .iload 5, 0, 0, 0), (69, .iconst (-1), 0, 0, 0),
  (70, .if_icmp .ne 7, 0, 0, 0), (73, .iconst (-1), 0, 0, 0), (74, .goto 10, 0, 0, 0), (77, .aload_n 0, 0, 0, 0), (78, .iload 4, 0, 0, 0), (80, .iconst 3, 0, 0, 0), (81, .invokevirtual 436, 257, 3, 15), (84, .istore 6, 0, 0, 0),
  (86, .iload 6, 0, 0, 0), (88, .iconst (-1), 0, 0, 0), (89, .if_icmp .eq 73, 0, 0, 0), (92, .aload_n 0, 0, 0, 0), (93, .iload 6, 0, 0, 0), (95, .iconst 0, 0, 0, 0), (96, .invokevirtual 247, 256, 3, 15), (99, .bipush 35, 0, 0, 0),
  (101, .if_icmp .ne 49, 0, 0, 0), (104, .aload_n 0, 0, 0, 0), (105, .iconst 1, 0, 0, 0), (106, .iload_n 2, 0, 0, 0), (107, .iload 5, 0, 0, 0), (109, .invokevirtual 548, 279, 4, 15), (112, .ifCond .ne 6, 0, 0, 0), (115, .goto 35, 0, 0, 0),
  (118, .aload_n 0, 0, 0, 0), (119, .getfield 176, 13, 91, 0), (122, .aload_n 0, 0, 0, 0), (123, .iload 6, 0, 0, 0), (125, .iconst 1, 0, 0, 0), (126, .invokevirtual 247, 256, 3, 15), (129, .aload_n 0, 0, 0, 0), (130, .iload 6, 0, 0, 0),
  (132, .iconst 2, 0, 0, 0), (133, .invokevirtual 436, 257, 3, 15), (136, .iastore, 0, 0, 0), (137, .aload_n 0, 0, 0, 0), (138, .getfield 179, 13, 92, 0), (141, .aload_n 0, 0, 0, 0), (142, .iload 6, 0, 0, 0), (144, .iconst 1, 0, 0, 0),
  (145, .invokevirtual 247, 256, 3, 15), (148, .iload_n 3, 0, 0, 0), (149, .iastore, 0, 0, 0), (150, .aload_n 0, 0, 0, 0), (151, .iload 6, 0, 0, 0), (153, .iconst 4, 0, 0, 0), (154, .invokevirtual 436, 257, 3, 15), (157, .istore 6, 0, 0, 0),
  (159, .goto (-73), 0, 0, 0), (162, .iinc 3 1, 0, 0, 0), (165, .aload_n 0, 0, 0, 0), (166, .iload 4, 0, 0, 0), (168, .iconst 4, 0, 0, 0), (169, .invokevirtual 436, 257, 3, 15), (172, .istore 4, 0, 0, 0), (174, .goto (-143), 0, 0, 0),
  (177, .return_, 0, 0, 0)]
def mt_c287 : List (Nat × mmE) := [(0, .aload_n 0, 0, 0, 0), (1, .iload_n 3, 0, 0, 0), (2, .iload 4, 0, 0, 0), (4, .iload 5, 0, 0, 0), (6, .invokevirtual 415, 237, 4, 15), (9, .istore 6, 0, 0, 0), (11, .aload_n 0, 0, 0, 0), (12, .iload_n 3, 0, 0, 0),
  (13, .iload 6, 0, 0, 0), (15, .iconst 4, 0, 0, 0), (16, .invokevirtual 324, 199, 4, 15), (19, .istore 7, 0, 0, 0), (21, .aload_n 0, 0, 0, 0), (22, .iload_n 3, 0, 0, 0), (23, .iload 6, 0, 0, 0), (25, .bipush 22, 0, 0, 0),
  (27, .aload_n 0, 0, 0, 0), (28, .iload_n 3, 0, 0, 0), (29, .iload 6, 0, 0, 0), (31, .iload 5, 0, 0, 0), (33, .invokevirtual 328, 207, 4, 15), (36, .iadd, 0, 0, 0), (37, .invokevirtual 324, 199, 4, 15), (40, .istore 8, 0, 0, 0),
  (42, .iload 8, 0, 0, 0), (44, .iconst (-1), 0, 0, 0), (45, .if_icmp .eq 25, 0, 0, 0), (48, .iload 7, 0, 0, 0), (50, .iconst (-1), 0, 0, 0), (51, .if_icmp .eq 19, 0, 0, 0), (54, .aload_n 0, 0, 0, 0), (55, .iload_n 1, 0, 0, 0),
  (56, .iload_n 2, 0, 0, 0), (57, .iload 8, 0, 0, 0), (59, .invokevirtual 415, 237, 4, 15), (62, .iload 7, 0, 0, 0), (64, .if_icmp .ne 6, 0, 0, 0), (67, .iload 8, 0, 0, 0), (69, .ireturn, 0, 0, 0), (70, .aload_n 0, 0, 0, 0),
  (71, .iload_n 1, 0, 0, 0), (72, .iload_n 2, 0, 0, 0), (73, .iload 5, 0, 0, 0), (75, .invokevirtual 415, 237, 4, 15), (78, .istore 9, 0, 0, 0), (80, .iload 9, 0, 0, 0), (82, .iconst (-1), 0, 0, 0), (83, .if_icmp .eq 10, 0, 0, 0),
  (86, .iload 9, 0, 0, 0), (88, .iload 7, 0, 0, 0), (90, .if_icmp .ne 5, 0, 0, 0), (93, .iconst (-1), 0, 0, 0), (94, .ireturn, 0, 0, 0), (95, .iconst 0, 0, 0, 0), (96, .istore 10, 0, 0, 0), (98, .iload 10, 0, 0, 0),
  (100, .aload_n 0, 0, 0, 0), (101, .iload_n 3, 0, 0, 0), (102, .invokevirtual 321, 198, 2, 15), (105, .if_icmp .ge 63, 0, 0, 0), (108, .aload_n 0, 0, 0, 0), (109, .iload_n 3, 0, 0, 0), (110, .iload 10, 0, 0, 0), (112, .iconst 4, 0, 0, 0),
  (113, .invokevirtual 324, 199, 4, 15), (116, .iload 9, 0, 0, 0), (118, .if_icmp .ne 15, 0, 0, 0), (121, .aload_n 0, 0, 0, 0), (122, .iload_n 3, 0, 0, 0), (123, .iload 10, 0, 0, 0), (125, .iload 5, 0, 0, 0), (127, .invokevirtual 328, 207, 4, 15),
  (130, .goto 4, 0, 0, 0), (133, .iconst (-1), 0, 0, 0), (134, .istore 11, 0, 0, 0), (136, .iload 11, 0, 0, 0), (138, .iconst (-1), 0, 0, 0), (139, .if_icmp .eq 23, 0, 0, 0), (142, .aload_n 0, 0, 0, 0), (143, .iload_n 3, 0, 0, 0),
  (144, .iload 10, 0, 0, 0), (146, .bipush 22, 0, 0, 0), (148, .iload 11, 0, 0, 0), (150, .iadd, 0, 0, 0), (151, .invokevirtual 324, 199, 4, 15), (154, .iload 5, 0, 0, 0), (156, .if_icmp .ne 6, 0, 0, 0), (159, .iload 5, 0, 0, 0),
  (161, .ireturn, 0, 0, 0), (162, .iinc 10 1, 0, 0, 0), (165, .goto (-67), 0, 0, 0), (168, .iconst (-1), 0, 0, 0), (169, .ireturn, 0, 0, 0)]
def mt_c288 : List (Nat × mmE) := [(0, .iconst 0, 0, 0, 0), (1, .istore_n 3, 0, 0, 0), (2, .iload_n 3, 0, 0, 0), (3, .bipush 40, 0, 0, 0), (5, .if_icmp .ge 132, 0, 0, 0), (8, .aload_n 0, 0, 0, 0), (9, .iconst 0, 0, 0, 0), (10, .aload_n 0, 0, 0, 0),
  (11, .getfield 50, 13, 35, 0), (14, .iload_n 1, 0, 0, 0), (15, .iaload, 0, 0, 0), (16, .iload_n 3, 0, 0, 0), (17, .invokevirtual 415, 237, 4, 15), (20, .iconst (-1), 0, 0, 0), (21, .if_icmp .ne 6, 0, 0, 0), (24, .goto 107, 0, 0, 0),
  (27, .iconst 0, 0, 0, 0), (28, .istore 4, 0, 0, 0), (30, .iconst 0, 0, 0, 0), (31, .istore 5, 0, 0, 0), (33, .iload 5, 0, 0, 0), (35, .bipush 40, 0, 0, 0), (37, .if_icmp .ge 52, 0, 0, 0), (40, .iload 4, 0, 0, 0),
  (42, .ifCond .ne 34, 0, 0, 0), (45, .aload_n 0, 0, 0, 0), (46, .iconst 1, 0, 0, 0), (47, .iload_n 2, 0, 0, 0), (48, .iload 5, 0, 0, 0), (50, .invokevirtual 415, 237, 4, 15), (53, .iconst (-1), 0, 0, 0), (54, .if_icmp .eq 26, 0, 0, 0),
  (57, .aload_n 0, 0, 0, 0), (58, .iconst 0, 0, 0, 0), (59, .aload_n 0, 0, 0, 0), (60, .getfield 50, 13, 35, 0), (63, .iload_n 1, 0, 0, 0), (64, .iaload, 0, 0, 0), (65, .iconst 1, 0, 0, 0), (66, .iload_n 2, 0, 0, 0),
  (67, .iload 5, 0, 0, 0), (69, .invokevirtual 557, 287, 6, 15), (72, .iload_n 3, 0, 0, 0), (73, .if_icmp .ne 7, 0, 0, 0), (76, .iconst 1, 0, 0, 0), (77, .goto 4, 0, 0, 0), (80, .iconst 0, 0, 0, 0), (81, .istore 4, 0, 0, 0),
  (83, .iinc 5 1, 0, 0, 0), (86, .goto (-53), 0, 0, 0), (89, .iload 4, 0, 0, 0), (91, .ifCond .eq 6, 0, 0, 0), (94, .goto 37, 0, 0, 0), (97, .aload_n 0, 0, 0, 0), (98, .getfield 59, 13, 38, 0), (101, .bipush 40, 0, 0, 0),
  (103, .iload_n 1, 0, 0, 0), (104, .imul, 0, 0, 0), (105, .iload_n 3, 0, 0, 0), (106, .iadd, 0, 0, 0), (107, .iconst 1, 0, 0, 0), (108, .bastore, 0, 0, 0), (109, .aload_n 0, 0, 0, 0), (110, .getfield 56, 13, 37, 0),
  (113, .bipush 40, 0, 0, 0), (115, .iload_n 1, 0, 0, 0), (116, .imul, 0, 0, 0), (117, .iload_n 3, 0, 0, 0), (118, .iadd, 0, 0, 0), (119, .aload_n 0, 0, 0, 0), (120, .getfield 53, 13, 36, 0), (123, .bipush 40, 0, 0, 0),
  (125, .iload_n 1, 0, 0, 0), (126, .imul, 0, 0, 0), (127, .iload_n 3, 0, 0, 0), (128, .iadd, 0, 0, 0), (129, .iaload, 0, 0, 0), (130, .iastore, 0, 0, 0), (131, .iinc 3 1, 0, 0, 0), (134, .goto (-132), 0, 0, 0),
  (137, .return_, 0, 0, 0)]
def mt_c289 : List (Nat × mmE) := [(0, .iconst 0, 0, 0, 0), (1, .istore_n 2, 0, 0, 0), (2, .aload_n 0, 0, 0, 0), (3, .getfield 40, 13, 31, 0), (6, .iload_n 1, 0, 0, 0), (7, .iaload, 0, 0, 0), (8, .istore_n 3, 0, 0, 0), (9, .iload_n 3, 0, 0, 0),
  (10, .iconst (-1), 0, 0, 0), (11, .if_icmp .eq 162, 0, 0, 0), (14, .aload_n 0, 0, 0, 0), (15, .iload_n 3, 0, 0, 0), (16, .iconst 0, 0, 0, 0), (17, .invokevirtual 247, 256, 3, 15), (20, .bipush 44, 0, 0, 0), (22, .if_icmp .ne 17, 0, 0, 0),
  (25, .aload_n 0, 0, 0, 0), (26, .iconst 0, 0, 0, 0), (27, .aload_n 0, 0, 0, 0), (28, .iload_n 3, 0, 0, 0), (29, .iconst 1, 0, 0, 0), (30, .invokevirtual 247, 256, 3, 15), (33, .invokevirtual 362, 197, 3, 15), (36, .goto 4, 0, 0, 0),
  (39, .iconst (-1), 0, 0, 0), (40, .istore 4, 0, 0, 0), (42, .iconst 0, 0, 0, 0), (43, .istore 5, 0, 0, 0), (45, .iload 5, 0, 0, 0), (47, .aload_n 0, 0, 0, 0), (48, .getfield 394, 13, 33, 0), (51, .if_icmp .ge 109, 0, 0, 0),
  (54, .iload 4, 0, 0, 0), (56, .iconst (-1), 0, 0, 0), (57, .if_icmp .eq 103, 0, 0, 0), (60, .aload_n 0, 0, 0, 0), (61, .getfield 46, 13, 34, 0), (64, .iload 5, 0, 0, 0), (66, .baload, 0, 0, 0), (67, .ifCond .eq 87, 0, 0, 0),
  (70, .aload_n 0, 0, 0, 0), (71, .getfield 182, 13, 93, 0), (74, .iload 5, 0, 0, 0), (76, .iaload, 0, 0, 0), (77, .iconst (-1), 0, 0, 0), (78, .if_icmp .eq 76, 0, 0, 0), (81, .aload_n 0, 0, 0, 0), (82, .iconst 0, 0, 0, 0),
  (83, .aload_n 0, 0, 0, 0), (84, .getfield 50, 13, 35, 0), (87, .iload 5, 0, 0, 0), (89, .iaload, 0, 0, 0), (90, .iload 4, 0, 0, 0), (92, .invokevirtual 548, 279, 4, 15), (95, .ifCond .ne 6, 0, 0, 0), (98, .goto 56, 0, 0, 0),
  (101, .aload_n 0, 0, 0, 0), (102, .getfield 62, 13, 43, 0), (105, .iconst 0, 0, 0, 0), (106, .iload 5, 0, 0, 0), (108, .iastore, 0, 0, 0), (109, .aload_n 0, 0, 0, 0), (110, .getfield 65, 13, 44, 0), (113, .iconst 0, 0, 0, 0),
  (114, .iconst 0, 0, 0, 0), (115, .iastore, 0, 0, 0), (116, .aload_n 0, 0, 0, 0), (117, .getfield 68, 13, 45, 0), (120, .iconst 0, 0, 0, 0), (121, .iconst 0, 0, 0, 0), (122, .iastore, 0, 0, 0), (123, .aload_n 0, 0, 0, 0),
  (124, .aload_n 0, 0, 0, 0), (125, .iload_n 3, 0, 0, 0), (126, .iconst 2, 0, 0, 0), (127, .invokevirtual 436, 257, 3, 15), (130, .iconst 0, 0, 0, 0), (131, .invokevirtual 445, 258, 3, 15), (134, .ifCond .eq 10, 0, 0, 0), (137, .aload_n 0, 0, 0, 0),
  (138, .getfield 442, 13, 52, 0), (141, .ifCond .ne 13, 0, 0, 0), (144, .aload_n 0, 0, 0, 0), (145, .bipush 10, 0, 0, 0), (147, .iload_n 2, 0, 0, 0), (148, .iload 5, 0, 0, 0), (150, .invokevirtual 535, 276, 4, 15), (153, .ireturn, 1, 0, 0),
  (154, .iinc 5 1, 0, 0, 0), (157, .goto (-112), 0, 0, 0), (160, .iinc 2 1, 0, 0, 0), (163, .aload_n 0, 0, 0, 0), (164, .iload_n 3, 0, 0, 0), (165, .iconst 4, 0, 0, 0), (166, .invokevirtual 436, 257, 3, 15), (169, .istore_n 3, 0, 0, 0),
  (170, .goto (-161), 0, 0, 0), (173, .iconst 1, 0, 0, 0), (174, .ireturn, 1, 0, 0)]
def mt_c290 : List (Nat × mmE) := [(0, .aload_n 0, 0, 0, 0), (1, .getfield 46, 13, 34, 0), (4, .iload_n 1, 0, 0, 0), (5, .iconst 0, 0, 0, 0), (6, .bastore, 0, 0, 0), (7, .iconst 0, 0, 0, 0), (8, .istore_n 2, 0, 0, 0), (9, .iload_n 2, 0, 0, 0),
  (10, .bipush 10, 0, 0, 0), (12, .if_icmp .ge 45, 0, 0, 0), (15, .aload_n 0, 0, 0, 0), (16, .getfield 107, 13, 67, 0), (19, .iload_n 2, 0, 0, 0), (20, .baload, 0, 0, 0), (21, .ifCond .eq 30, 0, 0, 0), (24, .aload_n 0, 0, 0, 0),
  (25, .getfield 116, 13, 70, 0), (28, .iload_n 2, 0, 0, 0), (29, .iaload, 0, 0, 0), (30, .iload_n 1, 0, 0, 0), (31, .if_icmp .eq 6, 0, 0, 0), (34, .goto 17, 0, 0, 0), (37, .aload_n 0, 0, 0, 0), (38, .getfield 107, 13, 67, 0),
  (41, .iload_n 2, 0, 0, 0), (42, .iconst 0, 0, 0, 0), (43, .bastore, 0, 0, 0), (44, .aload_n 0, 0, 0, 0), (45, .getfield 131, 13, 75, 0), (48, .iload_n 2, 0, 0, 0), (49, .iconst 3, 0, 0, 0), (50, .iastore, 0, 0, 0),
  (51, .iinc 2 1, 0, 0, 0), (54, .goto (-45), 0, 0, 0), (57, .return_, 0, 0, 0)]
def mt_c291 : List (Nat × mmE) := [(0, .aload_n 0, 0, 0, 0), (1, .getfield 518, 13, 59, 0), (4, .ifCond .eq 17, 0, 0, 0), (7, .iload_n 1, 0, 0, 0), (8, .iconst 0, 0, 0, 0), (9, .aload_n 0, 0, 0, 0), (10, .getfield 394, 13, 33, 0), (13, .iconst 1, 0, 0, 0),
  (14, .isub, 0, 0, 0), (15, .invokestatic 191, 191, 3, 0), (18, .ifCond .ne 7, 0, 0, 0), (21, .iconst (-1), 0, 0, 0), (22, .goto 9, 0, 0, 0), (25, .aload_n 0, 0, 0, 0), (26, .getfield 92, 13, 61, 0), (29, .iload_n 1, 0, 0, 0),
  (30, .iaload, 0, 0, 0), (31, .ireturn, 0, 0, 0)]
def mt_c292 : List (Nat × mmE) := [(0, .iload_n 1, 0, 0, 0), (1, .iconst 0, 0, 0, 0), (2, .aload_n 0, 0, 0, 0), (3, .getfield 515, 13, 66, 0), (6, .iconst 1, 0, 0, 0), (7, .isub, 0, 0, 0), (8, .invokestatic 191, 191, 3, 0), (11, .ifCond .ne 5, 0, 0, 0),
  (14, .iconst (-1), 0, 0, 0), (15, .ireturn, 0, 0, 0), (16, .iload_n 2, 0, 0, 0), (17, .ifCond .ne 12, 0, 0, 0), (20, .aload_n 0, 0, 0, 0), (21, .getfield 95, 13, 62, 0), (24, .iload_n 1, 0, 0, 0), (25, .iaload, 0, 0, 0),
  (26, .goto 46, 0, 0, 0), (29, .iload_n 2, 0, 0, 0), (30, .iconst 1, 0, 0, 0), (31, .if_icmp .ne 12, 0, 0, 0), (34, .aload_n 0, 0, 0, 0), (35, .getfield 98, 13, 63, 0), (38, .iload_n 1, 0, 0, 0), (39, .iaload, 0, 0, 0),
  (40, .goto 32, 0, 0, 0), (43, .iload_n 2, 0, 0, 0), (44, .iconst 2, 0, 0, 0), (45, .if_icmp .ne 12, 0, 0, 0), (48, .aload_n 0, 0, 0, 0), (49, .getfield 101, 13, 64, 0), (52, .iload_n 1, 0, 0, 0), (53, .iaload, 0, 0, 0),
  (54, .goto 18, 0, 0, 0), (57, .iload_n 2, 0, 0, 0), (58, .iconst 3, 0, 0, 0), (59, .if_icmp .ne 12, 0, 0, 0), (62, .aload_n 0, 0, 0, 0), (63, .getfield 104, 13, 65, 0), (66, .iload_n 1, 0, 0, 0), (67, .iaload, 0, 0, 0),
  (68, .goto 4, 0, 0, 0), (71, .iconst (-1), 0, 0, 0), (72, .ireturn, 0, 0, 0)]
def mt_c293 : List (Nat × mmE) := [(0, .iconst 0, 0, 0, 0), (1, .istore 4, 0, 0, 0), (3, .iload 4, 0, 0, 0), (5, .bipush 10, 0, 0, 0), (7, .if_icmp .ge 19, 0, 0, 0), (10, .aload_n 0, 0, 0, 0), (11, .getfield 107, 13, 67, 0), (14, .iload 4, 0, 0, 0),
  (16, .baload, 0, 0, 0), (17, .ifCond .eq 9, 0, 0, 0), (20, .iinc 4 1, 0, 0, 0), (23, .goto (-20), 0, 0, 0), (26, .iload 4, 0, 0, 0), (28, .bipush 10, 0, 0, 0), (30, .if_icmp .eq 22, 0, 0, 0), (33, .aload_n 0, 0, 0, 0),
  (34, .iload_n 1, 0, 0, 0), (35, .invokevirtual 418, 241, 2, 15), (38, .ifCond .eq 14, 0, 0, 0), (41, .aload_n 0, 0, 0, 0), (42, .iconst 0, 0, 0, 0), (43, .iload_n 1, 0, 0, 0), (44, .iload_n 2, 0, 0, 0), (45, .iload_n 3, 0, 0, 0),
  (46, .invokevirtual 491, 252, 5, 15), (49, .ifCond .ne 5, 0, 0, 0), (52, .iconst (-1), 0, 0, 0), (53, .ireturn, 0, 0, 0), (54, .aload_n 0, 0, 0, 0), (55, .getfield 107, 13, 67, 0), (58, .iload 4, 0, 0, 0), (60, .iconst 1, 0, 0, 0),
  (61, .bastore, 0, 0, 0), (62, .aload_n 0, 0, 0, 0), (63, .getfield 110, 13, 68, 0), (66, .iload 4, 0, 0, 0), (68, .iconst 1, 0, 0, 0), (69, .bastore, 0, 0, 0), (70, .aload_n 0, 0, 0, 0), (71, .getfield 113, 13, 69, 0),
  (74, .iload 4, 0, 0, 0), (76, .iconst 0, 0, 0, 0), (77, .bastore, 0, 0, 0), (78, .aload_n 0, 0, 0, 0), (79, .getfield 116, 13, 70, 0), (82, .iload 4, 0, 0, 0), (84, .iload_n 1, 0, 0, 0), (85, .iastore, 0, 0, 0),
  (86, .aload_n 0, 0, 0, 0), (87, .getfield 119, 13, 71, 0), (90, .iload 4, 0, 0, 0), (92, .iload_n 3, 0, 0, 0), (93, .iastore, 0, 0, 0), (94, .aload_n 0, 0, 0, 0), (95, .getfield 122, 13, 72, 0), (98, .iload 4, 0, 0, 0),
  (100, .iconst 0, 0, 0, 0), (101, .iastore, 0, 0, 0), (102, .aload_n 0, 0, 0, 0), (103, .getfield 125, 13, 73, 0), (106, .iload 4, 0, 0, 0), (108, .aload_n 0, 0, 0, 0), (109, .getfield 80, 13, 49, 0), (112, .iconst 0, 0, 0, 0),
  (113, .iaload, 0, 0, 0), (114, .iastore, 0, 0, 0), (115, .aload_n 0, 0, 0, 0), (116, .getfield 128, 13, 74, 0), (119, .iload 4, 0, 0, 0), (121, .iconst 0, 0, 0, 0), (122, .iastore, 0, 0, 0), (123, .aload_n 0, 0, 0, 0),
  (124, .getfield 131, 13, 75, 0), (127, .iload 4, 0, 0, 0), (129, .iconst 0, 0, 0, 0), (130, .iastore, 0, 0, 0), (131, .aload_n 0, 0, 0, 0), (132, .getfield 134, 13, 76, 0), (135, .iload 4, 0, 0, 0), (137, .iconst 0, 0, 0, 0),
  (138, .iastore, 0, 0, 0), (139, .aload_n 0, 0, 0, 0), (140, .getfield 137, 13, 77, 0), (143, .iload 4, 0, 0, 0), (145, .aload_n 0, 0, 0, 0), (146, .getfield 71, 13, 46, 0), (149, .iconst 0, 0, 0, 0), (150, .iaload, 0, 0, 0),
  (151, .iastore, 0, 0, 0), (152, .aload_n 0, 0, 0, 0), (153, .getfield 140, 13, 78, 0), (156, .iload 4, 0, 0, 0), (158, .iload_n 2, 0, 0, 0), (159, .iastore, 0, 0, 0), (160, .iconst 0, 0, 0, 0), (161, .istore 5, 0, 0, 0),
  (163, .iload 5, 0, 0, 0), (165, .bipush 12, 0, 0, 0), (167, .if_icmp .ge 69, 0, 0, 0), (170, .aload_n 0, 0, 0, 0), (171, .getfield 143, 13, 79, 0), (174, .bipush 12, 0, 0, 0), (176, .iload 4, 0, 0, 0), (178, .imul, 0, 0, 0),
  (179, .iload 5, 0, 0, 0), (181, .iadd, 0, 0, 0), (182, .aload_n 0, 0, 0, 0), (183, .getfield 80, 13, 49, 0), (186, .iload 5, 0, 0, 0), (188, .iaload, 0, 0, 0), (189, .iastore, 0, 0, 0), (190, .aload_n 0, 0, 0, 0),
  (191, .getfield 146, 13, 80, 0), (194, .bipush 12, 0, 0, 0), (196, .iload 4, 0, 0, 0), (198, .imul, 0, 0, 0), (199, .iload 5, 0, 0, 0), (201, .iadd, 0, 0, 0), (202, .aload_n 0, 0, 0, 0), (203, .getfield 83, 13, 50, 0),
  (206, .iload 5, 0, 0, 0), (208, .iaload, 0, 0, 0), (209, .iastore, 0, 0, 0), (210, .aload_n 0, 0, 0, 0), (211, .getfield 149, 13, 81, 0), (214, .bipush 12, 0, 0, 0), (216, .iload 4, 0, 0, 0), (218, .imul, 0, 0, 0),
  (219, .iload 5, 0, 0, 0), (221, .iadd, 0, 0, 0), (222, .aload_n 0, 0, 0, 0), (223, .getfield 86, 13, 51, 0), (226, .iload 5, 0, 0, 0), (228, .iaload, 0, 0, 0), (229, .iastore, 0, 0, 0), (230, .iinc 5 1, 0, 0, 0),
  (233, .goto (-70), 0, 0, 0), (236, .iload 4, 0, 0, 0), (238, .ireturn, 0, 0, 0)]
def mt_c294 : List (Nat × mmE) := [(0, .iload_n 1, 0, 0, 0), (1, .iconst 0, 0, 0, 0), (2, .bipush 9, 0, 0, 0), (4, .invokestatic 191, 191, 3, 0), (7, .ifCond .eq 12, 0, 0, 0), (10, .aload_n 0, 0, 0, 0), (11, .getfield 110, 13, 68, 0), (14, .iload_n 1, 0, 0, 0),
  (15, .baload, 0, 0, 0), (16, .ifCond .ne 5, 0, 0, 0), (19, .iconst (-1), 0, 0, 0), (20, .ireturn, 0, 0, 0), (21, .iload_n 2, 0, 0, 0), (22, .tableswitch 112 0 5 #[38, 53, 60, 80, 90, 105], 0, 0, 0), (60, .aload_n 0, 0, 0, 0), (61, .getfield 107, 13, 67, 0),
  (64, .iload_n 1, 0, 0, 0), (65, .baload, 0, 0, 0), (66, .ifCond .eq 7, 0, 0, 0), (69, .iconst 1, 0, 0, 0), (70, .goto 4, 0, 0, 0), (73, .iconst 0, 0, 0, 0), (74, .ireturn, 0, 0, 0), (75, .aload_n 0, 0, 0, 0),
  (76, .getfield 128, 13, 74, 0), (79, .iload_n 1, 0, 0, 0), (80, .iaload, 0, 0, 0), (81, .ireturn, 0, 0, 0), (82, .aload_n 0, 0, 0, 0), (83, .getfield 107, 13, 67, 0), (86, .iload_n 1, 0, 0, 0), (87, .baload, 0, 0, 0),
  (88, .ifCond .eq 7, 0, 0, 0), (91, .iconst 0, 0, 0, 0), (92, .goto 9, 0, 0, 0), (95, .aload_n 0, 0, 0, 0), (96, .getfield 131, 13, 75, 0), (99, .iload_n 1, 0, 0, 0), (100, .iaload, 0, 0, 0), (101, .ireturn, 0, 0, 0),
  (102, .aload_n 0, 0, 0, 0), (103, .getfield 149, 13, 81, 0), (106, .bipush 12, 0, 0, 0), (108, .iload_n 1, 0, 0, 0), (109, .imul, 0, 0, 0), (110, .iaload, 0, 0, 0), (111, .ireturn, 0, 0, 0), (112, .aload_n 0, 0, 0, 0),
  (113, .getfield 113, 13, 69, 0), (116, .iload_n 1, 0, 0, 0), (117, .baload, 0, 0, 0), (118, .ifCond .eq 7, 0, 0, 0), (121, .iconst 1, 0, 0, 0), (122, .goto 4, 0, 0, 0), (125, .iconst 0, 0, 0, 0), (126, .ireturn, 0, 0, 0),
  (127, .aload_n 0, 0, 0, 0), (128, .getfield 134, 13, 76, 0), (131, .iload_n 1, 0, 0, 0), (132, .iaload, 0, 0, 0), (133, .ireturn, 0, 0, 0), (134, .iconst (-1), 0, 0, 0), (135, .ireturn, 0, 0, 0)]
def mt_c295 : List (Nat × mmE) := [(0, .iload_n 1, 0, 0, 0), (1, .iconst 0, 0, 0, 0), (2, .bipush 9, 0, 0, 0), (4, .invokestatic 191, 191, 3, 0), (7, .ifCond .eq 12, 0, 0, 0), (10, .aload_n 0, 0, 0, 0), (11, .getfield 107, 13, 67, 0), (14, .iload_n 1, 0, 0, 0),
  (15, .baload, 0, 0, 0), (16, .ifCond .ne 5, 0, 0, 0), (19, .iconst 0, 0, 0, 0), (20, .ireturn, 1, 0, 0), (21, .aload_n 0, 0, 0, 0), (22, .getfield 113, 13, 69, 0), (25, .iload_n 1, 0, 0, 0), (26, .iload_n 2, 0, 0, 0),
  (27, .bastore, 0, 0, 0), (28, .iconst 1, 0, 0, 0), (29, .ireturn, 1, 0, 0)]
def mt_c296 : List (Nat × mmE) := [(0, .iload_n 1, 0, 0, 0), (1, .iconst 0, 0, 0, 0), (2, .aload_n 0, 0, 0, 0), (3, .getfield 397, 13, 25, 0), (6, .iconst 1, 0, 0, 0), (7, .isub, 0, 0, 0), (8, .invokestatic 191, 191, 3, 0), (11, .ifCond .eq 11, 0, 0, 0),
  (14, .aload_n 0, 0, 0, 0), (15, .getfield 31, 13, 28, 0), (18, .iconst (-1), 0, 0, 0), (19, .if_icmp .eq 5, 0, 0, 0), (22, .iconst 0, 0, 0, 0), (23, .ireturn, 1, 0, 0), (24, .aload_n 0, 0, 0, 0), (25, .iload_n 1, 0, 0, 0),
  (26, .putfield 31, 13, 28, 0), (29, .aload_n 0, 0, 0, 0), (30, .iconst 0, 0, 0, 0), (31, .putfield 526, 13, 26, 0), (34, .aload_n 0, 0, 0, 0), (35, .getfield 43, 13, 32, 0), (38, .iload_n 1, 0, 0, 0), (39, .iconst 1, 0, 0, 0),
  (40, .iastore, 0, 0, 0), (41, .iconst 1, 0, 0, 0), (42, .ireturn, 1, 0, 0)]
def mt_c297 : List (Nat × mmE) := [(0, .iload_n 1, 0, 0, 0), (1, .iconst 0, 0, 0, 0), (2, .aload_n 0, 0, 0, 0), (3, .getfield 397, 13, 25, 0), (6, .iconst 1, 0, 0, 0), (7, .isub, 0, 0, 0), (8, .invokestatic 191, 191, 3, 0), (11, .ifCond .eq 12, 0, 0, 0),
  (14, .aload_n 0, 0, 0, 0), (15, .getfield 43, 13, 32, 0), (18, .iload_n 1, 0, 0, 0), (19, .iaload, 0, 0, 0), (20, .goto 4, 0, 0, 0), (23, .iconst (-1), 0, 0, 0), (24, .ireturn, 0, 0, 0)]
def mt_c298 : List (Nat × mmE) := [(0, .iload_n 1, 0, 0, 0), (1, .ifCond .ne 10, 0, 0, 0), (4, .aload_n 0, 0, 0, 0), (5, .getfield 529, 13, 82, 0), (8, .goto 28, 0, 0, 0), (11, .iload_n 1, 0, 0, 0), (12, .iconst 1, 0, 0, 0), (13, .if_icmp .ne 10, 0, 0, 0),
  (16, .aload_n 0, 0, 0, 0), (17, .getfield 152, 13, 83, 0), (20, .goto 16, 0, 0, 0), (23, .iload_n 1, 0, 0, 0), (24, .iconst 2, 0, 0, 0), (25, .if_icmp .ne 10, 0, 0, 0), (28, .aload_n 0, 0, 0, 0), (29, .getfield 155, 13, 84, 0),
  (32, .goto 4, 0, 0, 0), (35, .iconst (-1), 0, 0, 0), (36, .ireturn, 0, 0, 0)]
def mt_c299 : List (Nat × mmE) := [(0, .aload_n 0, 0, 0, 0), (1, .getfield 34, 13, 29, 0), (4, .iconst (-1), 0, 0, 0), (5, .if_icmp .eq 11, 0, 0, 0), (8, .aload_n 0, 0, 0, 0), (9, .getfield 31, 13, 28, 0), (12, .iconst (-1), 0, 0, 0), (13, .if_icmp .eq 5, 0, 0, 0),
  (16, .iconst 0, 0, 0, 0), (17, .ireturn, 1, 0, 0), (18, .aload_n 0, 0, 0, 0), (19, .iconst 2, 0, 0, 0), (20, .iconst 1, 0, 0, 0), (21, .invokevirtual 391, 226, 3, 15), (24, .iconst 0, 0, 0, 0), (25, .istore_n 1, 0, 0, 0),
  (26, .iload_n 1, 0, 0, 0), (27, .aload_n 0, 0, 0, 0), (28, .iconst 1, 0, 0, 0), (29, .invokevirtual 321, 198, 2, 15), (32, .if_icmp .ge 92, 0, 0, 0), (35, .aload_n 0, 0, 0, 0), (36, .iconst 0, 0, 0, 0), (37, .aload_n 0, 0, 0, 0),
  (38, .iconst 1, 0, 0, 0), (39, .iload_n 1, 0, 0, 0), (40, .iconst 0, 0, 0, 0), (41, .invokevirtual 324, 199, 4, 15), (44, .invokevirtual 362, 197, 3, 15), (47, .istore_n 2, 0, 0, 0), (48, .iconst 0, 0, 0, 0), (49, .istore_n 3, 0, 0, 0),
  (50, .iload_n 3, 0, 0, 0), (51, .aload_n 0, 0, 0, 0), (52, .iconst 1, 0, 0, 0), (53, .iload_n 1, 0, 0, 0), (54, .bipush 30, 0, 0, 0), (56, .invokevirtual 324, 199, 4, 15), (59, .if_icmp .ge 59, 0, 0, 0), (62, .iload_n 2, 0, 0, 0),
  (63, .iconst (-1), 0, 0, 0), (64, .if_icmp .eq 54, 0, 0, 0), (67, .aload_n 0, 0, 0, 0), (68, .iconst 0, 0, 0, 0), (69, .iload_n 2, 0, 0, 0), (70, .aload_n 0, 0, 0, 0), (71, .iconst 1, 0, 0, 0), (72, .iload_n 1, 0, 0, 0),
  (73, .bipush 31, 0, 0, 0), (75, .iload_n 3, 0, 0, 0), (76, .iadd, 0, 0, 0), (77, .invokevirtual 324, 199, 4, 15), (80, .invokevirtual 331, 208, 4, 15), (83, .istore 4, 0, 0, 0), (85, .iload 4, 0, 0, 0), (87, .iconst (-1), 0, 0, 0),
  (88, .if_icmp .eq 24, 0, 0, 0), (91, .aload_n 0, 0, 0, 0), (92, .iconst 1, 0, 0, 0), (93, .iload_n 1, 0, 0, 0), (94, .bipush 35, 0, 0, 0), (96, .iload_n 3, 0, 0, 0), (97, .iadd, 0, 0, 0), (98, .aload_n 0, 0, 0, 0),
  (99, .iconst 0, 0, 0, 0), (100, .iload_n 2, 0, 0, 0), (101, .bipush 35, 0, 0, 0), (103, .iload 4, 0, 0, 0), (105, .iadd, 0, 0, 0), (106, .invokevirtual 324, 199, 4, 15), (109, .invokevirtual 337, 201, 5, 15), (112, .iinc 3 1, 0, 0, 0),
  (115, .goto (-65), 0, 0, 0), (118, .iinc 1 1, 0, 0, 0), (121, .goto (-95), 0, 0, 0), (124, .iconst 0, 0, 0, 0), (125, .istore_n 1, 0, 0, 0), (126, .iload_n 1, 0, 0, 0), (127, .aload_n 0, 0, 0, 0), (128, .getfield 394, 13, 33, 0),
  (131, .if_icmp .ge 74, 0, 0, 0), (134, .aload_n 0, 0, 0, 0), (135, .getfield 46, 13, 34, 0), (138, .iload_n 1, 0, 0, 0), (139, .baload, 0, 0, 0), (140, .ifCond .ne 6, 0, 0, 0), (143, .goto 56, 0, 0, 0), (146, .aload_n 0, 0, 0, 0),
  (147, .getfield 50, 13, 35, 0), (150, .iload_n 1, 0, 0, 0), (151, .iaload, 0, 0, 0), (152, .istore_n 2, 0, 0, 0), (153, .aload_n 0, 0, 0, 0), (154, .iconst 0, 0, 0, 0), (155, .iload_n 2, 0, 0, 0), (156, .iconst 4, 0, 0, 0),
  (157, .invokevirtual 324, 199, 4, 15), (160, .istore_n 3, 0, 0, 0), (161, .iload_n 3, 0, 0, 0), (162, .iconst (-1), 0, 0, 0), (163, .if_icmp .ne 11, 0, 0, 0), (166, .aload_n 0, 0, 0, 0), (167, .iload_n 1, 0, 0, 0), (168, .invokevirtual 582, 290, 2, 15),
  (171, .goto 28, 0, 0, 0), (174, .aload_n 0, 0, 0, 0), (175, .iconst 0, 0, 0, 0), (176, .iload_n 2, 0, 0, 0), (177, .iconst 3, 0, 0, 0), (178, .invokevirtual 324, 199, 4, 15), (181, .iconst 1, 0, 0, 0), (182, .if_icmp .ne 10, 0, 0, 0),
  (185, .aload_n 0, 0, 0, 0), (186, .iload_n 1, 0, 0, 0), (187, .iload_n 2, 0, 0, 0), (188, .iload_n 3, 0, 0, 0), (189, .invokevirtual 585, 300, 4, 15), (192, .aload_n 0, 0, 0, 0), (193, .getfield 50, 13, 35, 0), (196, .iload_n 1, 0, 0, 0),
  (197, .iload_n 3, 0, 0, 0), (198, .iastore, 0, 0, 0), (199, .iinc 1 1, 0, 0, 0), (202, .goto (-76), 0, 0, 0), (205, .aload_n 0, 0, 0, 0), (206, .iconst 1, 0, 0, 0), (207, .iconst 0, 0, 0, 0), (208, .invokevirtual 391, 226, 3, 15),
  (211, .aload_n 0, 0, 0, 0), (212, .getfield 43, 13, 32, 0), (215, .aload_n 0, 0, 0, 0), (216, .getfield 34, 13, 29, 0), (219, .iconst 5, 0, 0, 0), (220, .iastore, 0, 0, 0), (221, .aload_n 0, 0, 0, 0), (222, .iconst (-1), 0, 0, 0),
  (223, .putfield 34, 13, 29, 0), (226, .iconst 1, 0, 0, 0), (227, .ireturn, 1, 0, 0)]
def mt_c300 : List (Nat × mmE) := [(0, .iconst 0, 0, 0, 0), (1, .istore 4, 0, 0, 0), (3, .iload 4, 0, 0, 0), (5, .bipush 40, 0, 0, 0), (7, .if_icmp .ge 183, 0, 0, 0), (10, .aload_n 0, 0, 0, 0), (11, .getfield 170, 13, 89, 0), (14, .iload 4, 0, 0, 0),
  (16, .aload_n 0, 0, 0, 0), (17, .iconst 2, 0, 0, 0), (18, .iload_n 3, 0, 0, 0), (19, .iload 4, 0, 0, 0), (21, .invokevirtual 415, 237, 4, 15), (24, .iconst (-1), 0, 0, 0), (25, .if_icmp .eq 7, 0, 0, 0), (28, .iconst 1, 0, 0, 0),
  (29, .goto 4, 0, 0, 0), (32, .iconst 0, 0, 0, 0), (33, .bastore, 0, 0, 0), (34, .aload_n 0, 0, 0, 0), (35, .getfield 170, 13, 89, 0), (38, .iload 4, 0, 0, 0), (40, .baload, 0, 0, 0), (41, .ifCond .ne 6, 0, 0, 0),
  (44, .goto 140, 0, 0, 0), (47, .iconst (-1), 0, 0, 0), (48, .istore 5, 0, 0, 0), (50, .iconst 0, 0, 0, 0), (51, .istore 6, 0, 0, 0), (53, .iload 6, 0, 0, 0), (55, .bipush 40, 0, 0, 0), (57, .if_icmp .ge 40, 0, 0, 0),
  (60, .aload_n 0, 0, 0, 0), (61, .iconst 0, 0, 0, 0), (62, .iload_n 2, 0, 0, 0), (63, .iload 6, 0, 0, 0), (65, .invokevirtual 415, 237, 4, 15), (68, .iconst (-1), 0, 0, 0), (69, .if_icmp .eq 22, 0, 0, 0), (72, .aload_n 0, 0, 0, 0),
  (73, .iconst 2, 0, 0, 0), (74, .iload_n 3, 0, 0, 0), (75, .iconst 0, 0, 0, 0), (76, .iload_n 2, 0, 0, 0), (77, .iload 6, 0, 0, 0), (79, .invokevirtual 557, 287, 6, 15), (82, .iload 4, 0, 0, 0), (84, .if_icmp .ne 7, 0, 0, 0),
  (87, .iload 6, 0, 0, 0), (89, .istore 5, 0, 0, 0), (91, .iinc 6 1, 0, 0, 0), (94, .goto (-41), 0, 0, 0), (97, .aload_n 0, 0, 0, 0), (98, .iconst 2, 0, 0, 0), (99, .iload_n 3, 0, 0, 0), (100, .iload 4, 0, 0, 0),
  (102, .invokevirtual 415, 237, 4, 15), (105, .istore 6, 0, 0, 0), (107, .aload_n 0, 0, 0, 0), (108, .getfield 164, 13, 87, 0), (111, .iload 4, 0, 0, 0), (113, .iload 5, 0, 0, 0), (115, .iconst (-1), 0, 0, 0), (116, .if_icmp .eq 18, 0, 0, 0),
  (119, .aload_n 0, 0, 0, 0), (120, .getfield 53, 13, 36, 0), (123, .bipush 40, 0, 0, 0), (125, .iload_n 1, 0, 0, 0), (126, .imul, 0, 0, 0), (127, .iload 5, 0, 0, 0), (129, .iadd, 0, 0, 0), (130, .iaload, 0, 0, 0),
  (131, .goto 52, 0, 0, 0), (134, .aload_n 0, 0, 0, 0), (135, .getfield 59, 13, 38, 0), (138, .bipush 40, 0, 0, 0), (140, .iload_n 1, 0, 0, 0), (141, .imul, 0, 0, 0), (142, .iload 4, 0, 0, 0), (144, .iadd, 0, 0, 0),
  (145, .baload, 0, 0, 0), (146, .ifCond .eq 18, 0, 0, 0), (149, .aload_n 0, 0, 0, 0), (150, .getfield 56, 13, 37, 0), (153, .bipush 40, 0, 0, 0), (155, .iload_n 1, 0, 0, 0), (156, .imul, 0, 0, 0), (157, .iload 4, 0, 0, 0),
  (159, .iadd, 0, 0, 0), (160, .iaload, 0, 0, 0), (161, .goto 22, 0, 0, 0), (164, .aload_n 0, 0, 0, 0), (165, .iconst 2, 0, 0, 0), (166, .iload 6, 0, 0, 0), (168, .bipush 14, 0, 0, 0), (170, .aload_n 0, 0, 0, 0),
  (171, .iconst 2, 0, 0, 0), (172, .iload 6, 0, 0, 0), (174, .iload 4, 0, 0, 0), (176, .invokevirtual 328, 207, 4, 15), (179, .iadd, 0, 0, 0), (180, .invokevirtual 324, 199, 4, 15), (183, .iastore, 0, 0, 0), (184, .iinc 4 1, 0, 0, 0),
  (187, .goto (-184), 0, 0, 0), (190, .iconst 0, 0, 0, 0), (191, .istore 4, 0, 0, 0), (193, .iload 4, 0, 0, 0), (195, .bipush 40, 0, 0, 0), (197, .if_icmp .ge 38, 0, 0, 0), (200, .aload_n 0, 0, 0, 0), (201, .getfield 170, 13, 89, 0),
  (204, .iload 4, 0, 0, 0), (206, .baload, 0, 0, 0), (207, .ifCond .eq 22, 0, 0, 0), (210, .aload_n 0, 0, 0, 0), (211, .getfield 53, 13, 36, 0), (214, .bipush 40, 0, 0, 0), (216, .iload_n 1, 0, 0, 0), (217, .imul, 0, 0, 0),
  (218, .iload 4, 0, 0, 0), (220, .iadd, 0, 0, 0), (221, .aload_n 0, 0, 0, 0), (222, .getfield 164, 13, 87, 0), (225, .iload 4, 0, 0, 0), (227, .iaload, 0, 0, 0), (228, .iastore, 0, 0, 0), (229, .iinc 4 1, 0, 0, 0),
  (232, .goto (-39), 0, 0, 0), (235, .return_, 0, 0, 0)]
def mt_c301 : List (Nat × mmE) := [(0, .new 7, 0, 0, 0), (3, .dup, 0, 0, 0), (4, .invokespecial 9, 0, 1, 1), (7, .astore_n 1, 0, 0, 0), (8, .new 10, 13, 0, 0), (11, .dup, 0, 0, 0), (12, .invokespecial 12, 182, 1, 1), (15, .astore_n 2, 0, 0, 0),
  (16, .iconst 0, 0, 0, 0), (17, .istore_n 3, 0, 0, 0), (18, .iload_n 3, 0, 0, 0), (19, .aload_n 0, 0, 0, 0), (20, .arraylength, 0, 0, 0), (21, .bipush 6, 0, 0, 0), (23, .isub, 0, 0, 0), (24, .if_icmp .gt 940, 0, 0, 0),
  (27, .aload_n 0, 0, 0, 0), (28, .iload_n 3, 0, 0, 0), (29, .iaload, 0, 0, 0), (30, .bipush 31, 0, 0, 0), (32, .iand, 0, 0, 0), (33, .tableswitch 925 0 28 #[131, 194, 217, 230, 243, 256, 279, 292, 325, 348, 371, 394, 427, 460, 503, 536, 579, 602, 625, 638, 661, 694, 737, 770, 819, 842, 865, 888, 901], 0, 0, 0), (164, .aload_n 1, 0, 0, 0), (165, .aload_n 0, 0, 0, 0),
  (166, .iload_n 3, 0, 0, 0), (167, .iconst 1, 0, 0, 0), (168, .iadd, 0, 0, 0), (169, .iaload, 0, 0, 0), (170, .aload_n 0, 0, 0, 0), (171, .iload_n 3, 0, 0, 0), (172, .iconst 2, 0, 0, 0), (173, .iadd, 0, 0, 0),
  (174, .iaload, 0, 0, 0), (175, .aload_n 0, 0, 0, 0), (176, .iload_n 3, 0, 0, 0), (177, .iconst 3, 0, 0, 0), (178, .iadd, 0, 0, 0), (179, .iaload, 0, 0, 0), (180, .aload_n 0, 0, 0, 0), (181, .iload_n 3, 0, 0, 0),
  (182, .iconst 4, 0, 0, 0), (183, .iadd, 0, 0, 0), (184, .iaload, 0, 0, 0), (185, .aload_n 0, 0, 0, 0), (186, .iload_n 3, 0, 0, 0), (187, .iconst 5, 0, 0, 0), (188, .iadd, 0, 0, 0), (189, .iaload, 0, 0, 0),
  (190, .invokevirtual 13, 20, 6, 2), (193, .aload_n 2, 0, 0, 0), (194, .aload_n 0, 0, 0, 0), (195, .iload_n 3, 0, 0, 0), (196, .iconst 1, 0, 0, 0), (197, .iadd, 0, 0, 0), (198, .iaload, 0, 0, 0), (199, .aload_n 0, 0, 0, 0),
  (200, .iload_n 3, 0, 0, 0), (201, .iconst 2, 0, 0, 0), (202, .iadd, 0, 0, 0), (203, .iaload, 0, 0, 0), (204, .aload_n 0, 0, 0, 0), (205, .iload_n 3, 0, 0, 0), (206, .iconst 3, 0, 0, 0), (207, .iadd, 0, 0, 0),
  (208, .iaload, 0, 0, 0), (209, .aload_n 0, 0, 0, 0), (210, .iload_n 3, 0, 0, 0), (211, .iconst 4, 0, 0, 0), (212, .iadd, 0, 0, 0), (213, .iaload, 0, 0, 0), (214, .aload_n 0, 0, 0, 0), (215, .iload_n 3, 0, 0, 0),
  (216, .iconst 5, 0, 0, 0), (217, .iadd, 0, 0, 0), (218, .iaload, 0, 0, 0), (219, .invokevirtual 17, 233, 6, 15), (222, .if_icmp .eq 736, 0, 0, 0), (225, .iconst 0, 0, 0, 0), (226, .ireturn, 1, 0, 0), (227, .aload_n 1, 0, 0, 0),
  (228, .aload_n 0, 0, 0, 0), (229, .iload_n 3, 0, 0, 0), (230, .iconst 1, 0, 0, 0), (231, .iadd, 0, 0, 0), (232, .iaload, 0, 0, 0), (233, .invokevirtual 18, 22, 2, 2), (236, .aload_n 2, 0, 0, 0), (237, .aload_n 0, 0, 0, 0),
  (238, .iload_n 3, 0, 0, 0), (239, .iconst 1, 0, 0, 0), (240, .iadd, 0, 0, 0), (241, .iaload, 0, 0, 0), (242, .invokevirtual 22, 234, 2, 15), (245, .if_icmp .eq 713, 0, 0, 0), (248, .iconst 0, 0, 0, 0), (249, .ireturn, 1, 0, 0),
  (250, .aload_n 1, 0, 0, 0), (251, .invokevirtual 23, 23, 1, 2), (254, .aload_n 2, 0, 0, 0), (255, .invokevirtual 27, 235, 1, 15), (258, .if_icmp .eq 700, 0, 0, 0), (261, .iconst 0, 0, 0, 0), (262, .ireturn, 1, 0, 0), (263, .aload_n 1, 0, 0, 0),
  (264, .invokevirtual 28, 41, 1, 2), (267, .aload_n 2, 0, 0, 0), (268, .invokevirtual 31, 183, 1, 15), (271, .if_icmp .eq 687, 0, 0, 0), (274, .iconst 0, 0, 0, 0), (275, .ireturn, 1, 0, 0), (276, .aload_n 1, 0, 0, 0), (277, .invokevirtual 32, 92, 1, 2),
  (280, .aload_n 2, 0, 0, 0), (281, .invokevirtual 35, 227, 1, 15), (284, .if_icmp .eq 674, 0, 0, 0), (287, .iconst 0, 0, 0, 0), (288, .ireturn, 1, 0, 0), (289, .aload_n 1, 0, 0, 0), (290, .aload_n 0, 0, 0, 0), (291, .iload_n 3, 0, 0, 0),
  (292, .iconst 1, 0, 0, 0), (293, .iadd, 0, 0, 0), (294, .iaload, 0, 0, 0), (295, .invokevirtual 36, 97, 2, 2), (298, .aload_n 2, 0, 0, 0), (299, .aload_n 0, 0, 0, 0), (300, .iload_n 3, 0, 0, 0), (301, .iconst 1, 0, 0, 0),
  (302, .iadd, 0, 0, 0), (303, .iaload, 0, 0, 0), (304, .invokevirtual 40, 232, 2, 15), (307, .if_icmp .eq 651, 0, 0, 0), (310, .iconst 0, 0, 0, 0), (311, .ireturn, 1, 0, 0), (312, .aload_n 1, 0, 0, 0), (313, .invokevirtual 41, 98, 1, 2),
  (316, .aload_n 2, 0, 0, 0), (317, .invokevirtual 44, 238, 1, 15), (320, .if_icmp .eq 638, 0, 0, 0), (323, .iconst 0, 0, 0, 0), (324, .ireturn, 1, 0, 0), (325, .aload_n 1, 0, 0, 0), (326, .aload_n 0, 0, 0, 0), (327, .iload_n 3, 0, 0, 0),
  (328, .iconst 1, 0, 0, 0), (329, .iadd, 0, 0, 0), (330, .iaload, 0, 0, 0), (331, .aload_n 0, 0, 0, 0), (332, .iload_n 3, 0, 0, 0), (333, .iconst 2, 0, 0, 0), (334, .iadd, 0, 0, 0), (335, .iaload, 0, 0, 0),
  (336, .invokevirtual 45, 99, 3, 2), (339, .aload_n 2, 0, 0, 0), (340, .aload_n 0, 0, 0, 0), (341, .iload_n 3, 0, 0, 0), (342, .iconst 1, 0, 0, 0), (343, .iadd, 0, 0, 0), (344, .iaload, 0, 0, 0), (345, .aload_n 0, 0, 0, 0),
  (346, .iload_n 3, 0, 0, 0), (347, .iconst 2, 0, 0, 0), (348, .iadd, 0, 0, 0), (349, .iaload, 0, 0, 0), (350, .invokevirtual 49, 239, 3, 15), (353, .if_icmp .eq 605, 0, 0, 0), (356, .iconst 0, 0, 0, 0), (357, .ireturn, 1, 0, 0),
  (358, .aload_n 1, 0, 0, 0), (359, .aload_n 0, 0, 0, 0), (360, .iload_n 3, 0, 0, 0), (361, .iconst 1, 0, 0, 0), (362, .iadd, 0, 0, 0), (363, .iaload, 0, 0, 0), (364, .invokevirtual 50, 100, 2, 2), (367, .aload_n 2, 0, 0, 0),
  (368, .aload_n 0, 0, 0, 0), (369, .iload_n 3, 0, 0, 0), (370, .iconst 1, 0, 0, 0), (371, .iadd, 0, 0, 0), (372, .iaload, 0, 0, 0), (373, .invokevirtual 53, 236, 2, 15), (376, .if_icmp .eq 582, 0, 0, 0), (379, .iconst 0, 0, 0, 0),
  (380, .ireturn, 1, 0, 0), (381, .aload_n 1, 0, 0, 0), (382, .aload_n 0, 0, 0, 0), (383, .iload_n 3, 0, 0, 0), (384, .iconst 1, 0, 0, 0), (385, .iadd, 0, 0, 0), (386, .iaload, 0, 0, 0), (387, .invokevirtual 54, 102, 2, 2),
  (390, .aload_n 2, 0, 0, 0), (391, .aload_n 0, 0, 0, 0), (392, .iload_n 3, 0, 0, 0), (393, .iconst 1, 0, 0, 0), (394, .iadd, 0, 0, 0), (395, .iaload, 0, 0, 0), (396, .invokevirtual 57, 240, 2, 15), (399, .if_icmp .eq 559, 0, 0, 0),
  (402, .iconst 0, 0, 0, 0), (403, .ireturn, 1, 0, 0), (404, .aload_n 1, 0, 0, 0), (405, .aload_n 0, 0, 0, 0), (406, .iload_n 3, 0, 0, 0), (407, .iconst 1, 0, 0, 0), (408, .iadd, 0, 0, 0), (409, .iaload, 0, 0, 0),
  (410, .invokevirtual 58, 104, 2, 2), (413, .aload_n 2, 0, 0, 0), (414, .aload_n 0, 0, 0, 0), (415, .iload_n 3, 0, 0, 0), (416, .iconst 1, 0, 0, 0), (417, .iadd, 0, 0, 0), (418, .iaload, 0, 0, 0), (419, .invokevirtual 61, 242, 2, 15),
  (422, .if_icmp .eq 536, 0, 0, 0), (425, .iconst 0, 0, 0, 0), (426, .ireturn, 1, 0, 0), (427, .aload_n 1, 0, 0, 0), (428, .aload_n 0, 0, 0, 0), (429, .iload_n 3, 0, 0, 0), (430, .iconst 1, 0, 0, 0), (431, .iadd, 0, 0, 0),
  (432, .iaload, 0, 0, 0), (433, .aload_n 0, 0, 0, 0), (434, .iload_n 3, 0, 0, 0), (435, .iconst 2, 0, 0, 0), (436, .iadd, 0, 0, 0), (437, .iaload, 0, 0, 0), (438, .invokevirtual 62, 105, 3, 2), (441, .aload_n 2, 0, 0, 0),
  (442, .aload_n 0, 0, 0, 0), (443, .iload_n 3, 0, 0, 0), (444, .iconst 1, 0, 0, 0), (445, .iadd, 0, 0, 0), (446, .iaload, 0, 0, 0), (447, .aload_n 0, 0, 0, 0), (448, .iload_n 3, 0, 0, 0), (449, .iconst 2, 0, 0, 0),
  (450, .iadd, 0, 0, 0), (451, .iaload, 0, 0, 0), (452, .invokevirtual 66, 243, 3, 15), (455, .if_icmp .eq 503, 0, 0, 0), (458, .iconst 0, 0, 0, 0), (459, .ireturn, 1, 0, 0), (460, .aload_n 1, 0, 0, 0), (461, .aload_n 0, 0, 0, 0),
  (462, .iload_n 3, 0, 0, 0), (463, .iconst 1, 0, 0, 0), (464, .iadd, 0, 0, 0), (465, .iaload, 0, 0, 0), (466, .aload_n 0, 0, 0, 0), (467, .iload_n 3, 0, 0, 0), (468, .iconst 2, 0, 0, 0), (469, .iadd, 0, 0, 0),
  (470, .iaload, 0, 0, 0), (471, .invokevirtual 67, 107, 3, 2), (474, .aload_n 2, 0, 0, 0), (475, .aload_n 0, 0, 0, 0), (476, .iload_n 3, 0, 0, 0), (477, .iconst 1, 0, 0, 0), (478, .iadd, 0, 0, 0), (479, .iaload, 0, 0, 0),
  (480, .aload_n 0, 0, 0, 0), (481, .iload_n 3, 0, 0, 0), (482, .iconst 2, 0, 0, 0), (483, .iadd, 0, 0, 0), (484, .iaload, 0, 0, 0), (485, .invokevirtual 70, 245, 3, 15), (488, .if_icmp .eq 470, 0, 0, 0), (491, .iconst 0, 0, 0, 0),
  (492, .ireturn, 1, 0, 0), (493, .aload_n 1, 0, 0, 0), (494, .aload_n 0, 0, 0, 0), (495, .iload_n 3, 0, 0, 0), (496, .iconst 1, 0, 0, 0), (497, .iadd, 0, 0, 0), (498, .iaload, 0, 0, 0), (499, .aload_n 0, 0, 0, 0),
  (500, .iload_n 3, 0, 0, 0), (501, .iconst 2, 0, 0, 0), (502, .iadd, 0, 0, 0), (503, .iaload, 0, 0, 0), (504, .aload_n 0, 0, 0, 0), (505, .iload_n 3, 0, 0, 0), (506, .iconst 3, 0, 0, 0), (507, .iadd, 0, 0, 0),
  (508, .iaload, 0, 0, 0), (509, .invokevirtual 71, 109, 4, 2), (512, .aload_n 2, 0, 0, 0), (513, .aload_n 0, 0, 0, 0), (514, .iload_n 3, 0, 0, 0), (515, .iconst 1, 0, 0, 0), (516, .iadd, 0, 0, 0), (517, .iaload, 0, 0, 0),
  (518, .aload_n 0, 0, 0, 0), (519, .iload_n 3, 0, 0, 0), (520, .iconst 2, 0, 0, 0), (521, .iadd, 0, 0, 0), (522, .iaload, 0, 0, 0), (523, .aload_n 0, 0, 0, 0), (524, .iload_n 3, 0, 0, 0), (525, .iconst 3, 0, 0, 0),
  (526, .iadd, 0, 0, 0), (527, .iaload, 0, 0, 0), (528, .invokevirtual 75, 246, 4, 15), (531, .if_icmp .eq 427, 0, 0, 0), (534, .iconst 0, 0, 0, 0), (535, .ireturn, 1, 0, 0), (536, .aload_n 1, 0, 0, 0), (537, .aload_n 0, 0, 0, 0),
  (538, .iload_n 3, 0, 0, 0), (539, .iconst 1, 0, 0, 0), (540, .iadd, 0, 0, 0), (541, .iaload, 0, 0, 0), (542, .aload_n 0, 0, 0, 0), (543, .iload_n 3, 0, 0, 0), (544, .iconst 2, 0, 0, 0), (545, .iadd, 0, 0, 0),
  (546, .iaload, 0, 0, 0), (547, .invokevirtual 76, 110, 3, 2), (550, .aload_n 2, 0, 0, 0), (551, .aload_n 0, 0, 0, 0), (552, .iload_n 3, 0, 0, 0), (553, .iconst 1, 0, 0, 0), (554, .iadd, 0, 0, 0), (555, .iaload, 0, 0, 0),
  (556, .aload_n 0, 0, 0, 0), (557, .iload_n 3, 0, 0, 0), (558, .iconst 2, 0, 0, 0), (559, .iadd, 0, 0, 0), (560, .iaload, 0, 0, 0), (561, .invokevirtual 79, 247, 3, 15), (564, .if_icmp .eq 394, 0, 0, 0), (567, .iconst 0, 0, 0, 0),
  (568, .ireturn, 1, 0, 0), (569, .aload_n 1, 0, 0, 0), (570, .aload_n 0, 0, 0, 0), (571, .iload_n 3, 0, 0, 0), (572, .iconst 1, 0, 0, 0), (573, .iadd, 0, 0, 0), (574, .iaload, 0, 0, 0), (575, .aload_n 0, 0, 0, 0),
  (576, .iload_n 3, 0, 0, 0), (577, .iconst 2, 0, 0, 0), (578, .iadd, 0, 0, 0), (579, .iaload, 0, 0, 0), (580, .aload_n 0, 0, 0, 0), (581, .iload_n 3, 0, 0, 0), (582, .iconst 3, 0, 0, 0), (583, .iadd, 0, 0, 0),
  (584, .iaload, 0, 0, 0), (585, .invokevirtual 80, 112, 4, 2), (588, .aload_n 2, 0, 0, 0), (589, .aload_n 0, 0, 0, 0), (590, .iload_n 3, 0, 0, 0), (591, .iconst 1, 0, 0, 0), (592, .iadd, 0, 0, 0), (593, .iaload, 0, 0, 0),
  (594, .aload_n 0, 0, 0, 0), (595, .iload_n 3, 0, 0, 0), (596, .iconst 2, 0, 0, 0), (597, .iadd, 0, 0, 0), (598, .iaload, 0, 0, 0), (599, .aload_n 0, 0, 0, 0), (600, .iload_n 3, 0, 0, 0), (601, .iconst 3, 0, 0, 0),
  (602, .iadd, 0, 0, 0), (603, .iaload, 0, 0, 0), (604, .invokevirtual 84, 250, 4, 15), (607, .if_icmp .eq 351, 0, 0, 0), (610, .iconst 0, 0, 0, 0), (611, .ireturn, 1, 0, 0), (612, .aload_n 1, 0, 0, 0), (613, .aload_n 0, 0, 0, 0),
  (614, .iload_n 3, 0, 0, 0), (615, .iconst 1, 0, 0, 0), (616, .iadd, 0, 0, 0), (617, .iaload, 0, 0, 0), (618, .invokevirtual 85, 134, 2, 2), (621, .aload_n 2, 0, 0, 0), (622, .aload_n 0, 0, 0, 0), (623, .iload_n 3, 0, 0, 0),
  (624, .iconst 1, 0, 0, 0), (625, .iadd, 0, 0, 0), (626, .iaload, 0, 0, 0), (627, .invokevirtual 88, 269, 2, 15), (630, .if_icmp .eq 328, 0, 0, 0), (633, .iconst 0, 0, 0, 0), (634, .ireturn, 1, 0, 0), (635, .aload_n 1, 0, 0, 0),
  (636, .aload_n 0, 0, 0, 0), (637, .iload_n 3, 0, 0, 0), (638, .iconst 1, 0, 0, 0), (639, .iadd, 0, 0, 0), (640, .iaload, 0, 0, 0), (641, .invokevirtual 89, 135, 2, 2), (644, .aload_n 2, 0, 0, 0), (645, .aload_n 0, 0, 0, 0),
  (646, .iload_n 3, 0, 0, 0), (647, .iconst 1, 0, 0, 0), (648, .iadd, 0, 0, 0), (649, .iaload, 0, 0, 0), (650, .invokevirtual 92, 270, 2, 15), (653, .if_icmp .eq 305, 0, 0, 0), (656, .iconst 0, 0, 0, 0), (657, .ireturn, 1, 0, 0),
  (658, .aload_n 1, 0, 0, 0), (659, .invokevirtual 93, 136, 1, 2), (662, .aload_n 2, 0, 0, 0), (663, .invokevirtual 96, 271, 1, 15), (666, .if_icmp .eq 292, 0, 0, 0), (669, .iconst 0, 0, 0, 0), (670, .ireturn, 1, 0, 0), (671, .aload_n 1, 0, 0, 0),
  (672, .aload_n 0, 0, 0, 0), (673, .iload_n 3, 0, 0, 0), (674, .iconst 1, 0, 0, 0), (675, .iadd, 0, 0, 0), (676, .iaload, 0, 0, 0), (677, .invokevirtual 97, 166, 2, 2), (680, .aload_n 2, 0, 0, 0), (681, .aload_n 0, 0, 0, 0),
  (682, .iload_n 3, 0, 0, 0), (683, .iconst 1, 0, 0, 0), (684, .iadd, 0, 0, 0), (685, .iaload, 0, 0, 0), (686, .invokevirtual 100, 291, 2, 15), (689, .if_icmp .eq 269, 0, 0, 0), (692, .iconst 0, 0, 0, 0), (693, .ireturn, 1, 0, 0),
  (694, .aload_n 1, 0, 0, 0), (695, .aload_n 0, 0, 0, 0), (696, .iload_n 3, 0, 0, 0), (697, .iconst 1, 0, 0, 0), (698, .iadd, 0, 0, 0), (699, .iaload, 0, 0, 0), (700, .aload_n 0, 0, 0, 0), (701, .iload_n 3, 0, 0, 0),
  (702, .iconst 2, 0, 0, 0), (703, .iadd, 0, 0, 0), (704, .iaload, 0, 0, 0), (705, .invokevirtual 101, 167, 3, 2), (708, .aload_n 2, 0, 0, 0), (709, .aload_n 0, 0, 0, 0), (710, .iload_n 3, 0, 0, 0), (711, .iconst 1, 0, 0, 0),
  (712, .iadd, 0, 0, 0), (713, .iaload, 0, 0, 0), (714, .aload_n 0, 0, 0, 0), (715, .iload_n 3, 0, 0, 0), (716, .iconst 2, 0, 0, 0), (717, .iadd, 0, 0, 0), (718, .iaload, 0, 0, 0), (719, .invokevirtual 104, 292, 3, 15),
  (722, .if_icmp .eq 236, 0, 0, 0), (725, .iconst 0, 0, 0, 0), (726, .ireturn, 1, 0, 0), (727, .aload_n 1, 0, 0, 0), (728, .aload_n 0, 0, 0, 0), (729, .iload_n 3, 0, 0, 0), (730, .iconst 1, 0, 0, 0), (731, .iadd, 0, 0, 0),
  (732, .iaload, 0, 0, 0), (733, .aload_n 0, 0, 0, 0), (734, .iload_n 3, 0, 0, 0), (735, .iconst 2, 0, 0, 0), (736, .iadd, 0, 0, 0), (737, .iaload, 0, 0, 0), (738, .aload_n 0, 0, 0, 0), (739, .iload_n 3, 0, 0, 0),
  (740, .iconst 3, 0, 0, 0), (741, .iadd, 0, 0, 0), (742, .iaload, 0, 0, 0), (743, .invokevirtual 105, 168, 4, 2), (746, .aload_n 2, 0, 0, 0), (747, .aload_n 0, 0, 0, 0), (748, .iload_n 3, 0, 0, 0), (749, .iconst 1, 0, 0, 0),
  (750, .iadd, 0, 0, 0), (751, .iaload, 0, 0, 0), (752, .aload_n 0, 0, 0, 0), (753, .iload_n 3, 0, 0, 0), (754, .iconst 2, 0, 0, 0), (755, .iadd, 0, 0, 0), (756, .iaload, 0, 0, 0), (757, .aload_n 0, 0, 0, 0),
  (758, .iload_n 3, 0, 0, 0), (759, .iconst 3, 0, 0, 0), (760, .iadd, 0, 0, 0), (761, .iaload, 0, 0, 0), (762, .invokevirtual 108, 293, 4, 15), (765, .if_icmp .eq 193, 0, 0, 0), (768, .iconst 0, 0, 0, 0), (769, .ireturn, 1, 0, 0),
  (770, .aload_n 1, 0, 0, 0), (771, .aload_n 0, 0, 0, 0), (772, .iload_n 3, 0, 0, 0), (773, .iconst 1, 0, 0, 0), (774, .iadd, 0, 0, 0), (775, .iaload, 0, 0, 0), (776, .aload_n 0, 0, 0, 0), (777, .iload_n 3, 0, 0, 0),
  (778, .iconst 2, 0, 0, 0), (779, .iadd, 0, 0, 0), (780, .iaload, 0, 0, 0), (781, .invokevirtual 109, 170, 3, 2), (784, .aload_n 2, 0, 0, 0), (785, .aload_n 0, 0, 0, 0), (786, .iload_n 3, 0, 0, 0), (787, .iconst 1, 0, 0, 0),
  (788, .iadd, 0, 0, 0), (789, .iaload, 0, 0, 0), (790, .aload_n 0, 0, 0, 0), (791, .iload_n 3, 0, 0, 0), (792, .iconst 2, 0, 0, 0), (793, .iadd, 0, 0, 0), (794, .iaload, 0, 0, 0), (795, .invokevirtual 112, 294, 3, 15),
  (798, .if_icmp .eq 160, 0, 0, 0), (801, .iconst 0, 0, 0, 0), (802, .ireturn, 1, 0, 0), (803, .aload_n 1, 0, 0, 0), (804, .aload_n 0, 0, 0, 0), (805, .iload_n 3, 0, 0, 0), (806, .iconst 1, 0, 0, 0), (807, .iadd, 0, 0, 0),
  (808, .iaload, 0, 0, 0), (809, .aload_n 0, 0, 0, 0), (810, .iload_n 3, 0, 0, 0), (811, .iconst 2, 0, 0, 0), (812, .iadd, 0, 0, 0), (813, .iaload, 0, 0, 0), (814, .ifCond .eq 7, 0, 0, 0), (817, .iconst 1, 0, 0, 0),
  (818, .goto 4, 0, 0, 0), (821, .iconst 0, 0, 0, 0), (822, .invokevirtual 113, 172, 3, 2), (825, .aload_n 2, 0, 0, 0), (826, .aload_n 0, 0, 0, 0), (827, .iload_n 3, 0, 0, 0), (828, .iconst 1, 0, 0, 0), (829, .iadd, 0, 0, 0),
  (830, .iaload, 0, 0, 0), (831, .aload_n 0, 0, 0, 0), (832, .iload_n 3, 0, 0, 0), (833, .iconst 2, 0, 0, 0), (834, .iadd, 0, 0, 0), (835, .iaload, 0, 0, 0), (836, .ifCond .eq 7, 0, 0, 0), (839, .iconst 1, 0, 0, 0),
  (840, .goto 4, 0, 0, 0), (843, .iconst 0, 0, 0, 0), (844, .invokevirtual 117, 295, 3, 15), (847, .if_icmp .eq 111, 0, 0, 0), (850, .iconst 0, 0, 0, 0), (851, .ireturn, 1, 0, 0), (852, .aload_n 1, 0, 0, 0), (853, .aload_n 0, 0, 0, 0),
  (854, .iload_n 3, 0, 0, 0), (855, .iconst 1, 0, 0, 0), (856, .iadd, 0, 0, 0), (857, .iaload, 0, 0, 0), (858, .invokevirtual 118, 173, 2, 2), (861, .aload_n 2, 0, 0, 0), (862, .aload_n 0, 0, 0, 0), (863, .iload_n 3, 0, 0, 0),
  (864, .iconst 1, 0, 0, 0), (865, .iadd, 0, 0, 0), (866, .iaload, 0, 0, 0), (867, .invokevirtual 121, 296, 2, 15), (870, .if_icmp .eq 88, 0, 0, 0), (873, .iconst 0, 0, 0, 0), (874, .ireturn, 1, 0, 0), (875, .aload_n 1, 0, 0, 0),
  (876, .aload_n 0, 0, 0, 0), (877, .iload_n 3, 0, 0, 0), (878, .iconst 1, 0, 0, 0), (879, .iadd, 0, 0, 0), (880, .iaload, 0, 0, 0), (881, .invokevirtual 122, 175, 2, 2), (884, .aload_n 2, 0, 0, 0), (885, .aload_n 0, 0, 0, 0),
  (886, .iload_n 3, 0, 0, 0), (887, .iconst 1, 0, 0, 0), (888, .iadd, 0, 0, 0), (889, .iaload, 0, 0, 0), (890, .invokevirtual 125, 297, 2, 15), (893, .if_icmp .eq 65, 0, 0, 0), (896, .iconst 0, 0, 0, 0), (897, .ireturn, 1, 0, 0),
  (898, .aload_n 1, 0, 0, 0), (899, .aload_n 0, 0, 0, 0), (900, .iload_n 3, 0, 0, 0), (901, .iconst 1, 0, 0, 0), (902, .iadd, 0, 0, 0), (903, .iaload, 0, 0, 0), (904, .invokevirtual 126, 176, 2, 2), (907, .aload_n 2, 0, 0, 0),
  (908, .aload_n 0, 0, 0, 0), (909, .iload_n 3, 0, 0, 0), (910, .iconst 1, 0, 0, 0), (911, .iadd, 0, 0, 0), (912, .iaload, 0, 0, 0), (913, .invokevirtual 129, 298, 2, 15), (916, .if_icmp .eq 42, 0, 0, 0), (919, .iconst 0, 0, 0, 0),
  (920, .ireturn, 1, 0, 0), (921, .aload_n 1, 0, 0, 0), (922, .invokevirtual 130, 177, 1, 2), (925, .aload_n 2, 0, 0, 0), (926, .invokevirtual 134, 299, 1, 15), (929, .if_icmp .eq 29, 0, 0, 0), (932, .iconst 0, 0, 0, 0), (933, .ireturn, 1, 0, 0),
  (934, .aload_n 1, 0, 0, 0), (935, .aload_n 0, 0, 0, 0), (936, .iload_n 3, 0, 0, 0), (937, .iconst 1, 0, 0, 0), (938, .iadd, 0, 0, 0), (939, .iaload, 0, 0, 0), (940, .invokevirtual 135, 181, 2, 2), (943, .aload_n 2, 0, 0, 0),
  (944, .aload_n 0, 0, 0, 0), (945, .iload_n 3, 0, 0, 0), (946, .iconst 1, 0, 0, 0), (947, .iadd, 0, 0, 0), (948, .iaload, 0, 0, 0), (949, .invokevirtual 139, 249, 2, 15), (952, .lcmp, 0, 0, 0), (953, .ifCond .eq 5, 0, 0, 0),
  (956, .iconst 0, 0, 0, 0), (957, .ireturn, 1, 0, 0), (958, .iinc 3 6, 0, 0, 0), (961, .goto (-943), 0, 0, 0), (964, .iconst 1, 0, 0, 0), (965, .ireturn, 1, 0, 0)]
def mt_codes : List (List (List (Nat × mmE))) := [[mt_c0, mt_c1, mt_c2, mt_c3, mt_c4, mt_c5, mt_c6, mt_c7, mt_c8, mt_c9, mt_c10, mt_c11, mt_c12, mt_c13, mt_c14, mt_c15],
  [mt_c16, mt_c17, mt_c18, mt_c19, mt_c20, mt_c21, mt_c22, mt_c23, mt_c24, mt_c25, mt_c26, mt_c27, mt_c28, mt_c29, mt_c30, mt_c31],
  [mt_c32, mt_c33, mt_c34, mt_c35, mt_c36, mt_c37, mt_c38, mt_c39, mt_c40, mt_c41, mt_c42, mt_c43, mt_c44, mt_c45, mt_c46, mt_c47],
  [mt_c48, mt_c49, mt_c50, mt_c51, mt_c52, mt_c53, mt_c54, mt_c55, mt_c56, mt_c57, mt_c58, mt_c59, mt_c60, mt_c61, mt_c62, mt_c63],
  [mt_c64, mt_c65, mt_c66, mt_c67, mt_c68, mt_c69, mt_c70, mt_c71, mt_c72, mt_c73, mt_c74, mt_c75, mt_c76, mt_c77, mt_c78, mt_c79],
  [mt_c80, mt_c81, mt_c82, mt_c83, mt_c84, mt_c85, mt_c86, mt_c87, mt_c88, mt_c89, mt_c90, mt_c91, mt_c92, mt_c93, mt_c94, mt_c95],
  [mt_c96, mt_c97, mt_c98, mt_c99, mt_c100, mt_c101, mt_c102, mt_c103, mt_c104, mt_c105, mt_c106, mt_c107, mt_c108, mt_c109, mt_c110, mt_c111],
  [mt_c112, mt_c113, mt_c114, mt_c115, mt_c116, mt_c117, mt_c118, mt_c119, mt_c120, mt_c121, mt_c122, mt_c123, mt_c124, mt_c125, mt_c126, mt_c127],
  [mt_c128, mt_c129, mt_c130, mt_c131, mt_c132, mt_c133, mt_c134, mt_c135, mt_c136, mt_c137, mt_c138, mt_c139, mt_c140, mt_c141, mt_c142, mt_c143],
  [mt_c144, mt_c145, mt_c146, mt_c147, mt_c148, mt_c149, mt_c150, mt_c151, mt_c152, mt_c153, mt_c154, mt_c155, mt_c156, mt_c157, mt_c158, mt_c159],
  [mt_c160, mt_c161, mt_c162, mt_c163, mt_c164, mt_c165, mt_c166, mt_c167, mt_c168, mt_c169, mt_c170, mt_c171, mt_c172, mt_c173, mt_c174, mt_c175],
  [mt_c176, mt_c177, mt_c178, mt_c179, mt_c180, mt_c181, mt_c182, mt_c183, mt_c184, mt_c185, mt_c186, mt_c187, mt_c188, mt_c189, mt_c190, mt_c191],
  [mt_c192, mt_c193, mt_c194, mt_c195, mt_c196, mt_c197, mt_c198, mt_c199, mt_c200, mt_c201, mt_c202, mt_c203, mt_c204, mt_c205, mt_c206, mt_c207],
  [mt_c208, mt_c209, mt_c210, mt_c211, mt_c212, mt_c213, mt_c214, mt_c215, mt_c216, mt_c217, mt_c218, mt_c219, mt_c220, mt_c221, mt_c222, mt_c223],
  [mt_c224, mt_c225, mt_c226, mt_c227, mt_c228, mt_c229, mt_c230, mt_c231, mt_c232, mt_c233, mt_c234, mt_c235, mt_c236, mt_c237, mt_c238, mt_c239],
  [mt_c240, mt_c241, mt_c242, mt_c243, mt_c244, mt_c245, mt_c246, mt_c247, mt_c248, mt_c249, mt_c250, mt_c251, mt_c252, mt_c253, mt_c254, mt_c255],
  [mt_c256, mt_c257, mt_c258, mt_c259, mt_c260, mt_c261, mt_c262, mt_c263, mt_c264, mt_c265, mt_c266, mt_c267, mt_c268, mt_c269, mt_c270, mt_c271],
  [mt_c272, mt_c273, mt_c274, mt_c275, mt_c276, mt_c277, mt_c278, mt_c279, mt_c280, mt_c281, mt_c282, mt_c283, mt_c284, mt_c285, mt_c286, mt_c287],
  [mt_c288, mt_c289, mt_c290, mt_c291, mt_c292, mt_c293, mt_c294, mt_c295, mt_c296, mt_c297, mt_c298, mt_c299, mt_c300, mt_c301]]
def mt_nls : List (List Nat) := [[2, 5, 1, 1, 2, 1, 2, 2, 3, 2, 2, 1, 1, 1, 3, 1], [4, 2, 1, 1, 6, 3, 2, 1, 2, 2, 3, 1, 5, 4, 4, 1], [6, 1, 2, 3, 4, 1, 6, 1, 3, 3, 5, 1, 7, 2, 3, 3], [7, 2, 4, 1, 4, 4, 2, 4, 4, 2, 2, 9, 4, 2, 3, 3], [4, 2, 4, 6, 4, 3, 2, 3, 1, 3, 3, 2, 2, 2, 3, 5], [2, 2, 3, 3, 5, 6, 1, 5, 5, 3, 7, 1, 1, 1, 1, 2], [2, 2, 1, 4, 3, 4, 2, 2, 2, 3, 2, 4, 1, 4, 5, 2], [5, 5, 1, 2, 5, 3, 6, 1, 3, 2, 5, 2, 1, 6, 4, 4], [1, 2, 4, 5, 4, 3, 2, 2, 4, 2, 3, 6, 4, 2, 7, 1], [2, 2, 2, 3, 4, 4, 3, 4, 5, 7, 2, 11, 4, 4, 9, 3], [5, 5, 3, 6, 7, 3, 2, 3, 6, 5, 3, 2, 3, 2, 2, 2], [2, 1, 1, 6, 8, 5, 1, 3, 1, 1, 8, 3, 4, 2, 1, 3], [1, 5, 2, 3, 2, 4, 2, 4, 5, 5, 2, 2, 6, 5, 4, 5], [5, 5, 4, 5, 4, 1, 3, 3, 3, 1, 7, 3, 6, 2, 6, 6], [1, 3, 4, 4, 4, 1, 4, 2, 2, 8, 2, 4, 6, 5, 1, 3], [2, 2, 2, 3, 1, 3, 4, 5, 5, 5, 5, 1, 5, 7, 6, 5], [3, 4, 8, 7, 3, 2, 3, 4, 4, 3, 3, 7, 2, 2, 2, 2], [3, 3, 7, 8, 4, 6, 5, 5, 7, 10, 3, 4, 3, 9, 7, 12], [6, 6, 3, 2, 3, 6, 3, 3, 2, 2, 2, 5, 7, 4]]
def mt_at : List (Nat × mmE) → Nat → Option mmE
  | [], _ => none
  | (a, e) :: r, pc => bif Nat.beq a pc then some e else mt_at r pc
def mt_code (k pc : Nat) : Option mmE := mt_at ((mt_codes.getD (k / 16) []).getD (k % 16) []) pc
def mt_nl (k : Nat) : Nat := (mt_nls.getD (k / 16) []).getD (k % 16) 0
def mt_P (xs : List Int32) : mmP := (mt_code, mt_nw, mt_old xs, mt_el, mt_nl)
def mt_tys (dA : Nat → ClassId) : List (ClassId × FieldType) := [(dA 0, .int), (dA 1, .boolean), (dA 3, .long), (dA 4, .object "PondHouse$Creature"), (dA 5, .object "PondHouse$LongAct"), (dA 6, .object "PondHouse$Frame"), (dA 7, .object "PondHouse$Patch"), (dA 8, .object "PondHouse$Kind"), (dA 9, .object "java/lang/Object"), (dA 10, .array .int)]
def mt_G (oA : Nat → Nat) (dA : Nat → ClassId) : mmG := (oA, dA, mt_elT, mt_tys dA)
def mt_y0 : MethodName := ⟨"PondHouse", "<init>", "()V"⟩
abbrev mt_b0 : ByteArray := prog_1_method_1_code
abbrev mt_t0 : Option FieldType := none
def mt_y1 : MethodName := ⟨"PondHouse$Tokens", "<init>", "()V"⟩
abbrev mt_b1 : ByteArray := prog_12_method_1_code
abbrev mt_t1 : Option FieldType := none
def mt_y2 : MethodName := ⟨"java/lang/String", "length", "()I"⟩
abbrev mt_b2 : ByteArray := prog_22_method_54_code
abbrev mt_t2 : Option FieldType := some (.int)
def mt_y3 : MethodName := ⟨"java/lang/String", "coder", "()B"⟩
abbrev mt_b3 : ByteArray := prog_22_method_152_code
abbrev mt_t3 : Option FieldType := some (.byte)
def mt_y4 : MethodName := ⟨"java/lang/String", "charAt", "(I)C"⟩
abbrev mt_b4 : ByteArray := prog_22_method_56_code
abbrev mt_t4 : Option FieldType := some (.char)
def mt_y5 : MethodName := ⟨"java/lang/String", "isLatin1", "()Z"⟩
abbrev mt_b5 : ByteArray := prog_22_method_154_code
abbrev mt_t5 : Option FieldType := some (.boolean)
def mt_y6 : MethodName := ⟨"java/lang/StringLatin1", "charAt", "([BI)C"⟩
abbrev mt_b6 : ByteArray := prog_23_method_2_code
abbrev mt_t6 : Option FieldType := some (.char)
def mt_y7 : MethodName := ⟨"java/lang/String", "checkIndex", "(II)V"⟩
abbrev mt_b7 : ByteArray := prog_22_method_155_code
abbrev mt_t7 : Option FieldType := none
def mt_y8 : MethodName := ⟨"jdk/internal/util/Preconditions", "checkIndex", "(IILjava/util/function/BiFunction;)I"⟩
abbrev mt_b8 : ByteArray := prog_38_method_11_code
abbrev mt_t8 : Option FieldType := some (.int)
def mt_y9 : MethodName := ⟨"PondHouse$Tokens", "withLetter", "(II)I"⟩
abbrev mt_b9 : ByteArray := prog_12_method_8_code
abbrev mt_t9 : Option FieldType := some (.int)
def mt_y10 : MethodName := ⟨"PondHouse$Reader", "<init>", "(LPondHouse$Tokens;)V"⟩
abbrev mt_b10 : ByteArray := prog_9_method_1_code
abbrev mt_t10 : Option FieldType := none
def mt_y11 : MethodName := ⟨"java/util/ArrayList", "<init>", "()V"⟩
abbrev mt_b11 : ByteArray := prog_30_method_2_code
abbrev mt_t11 : Option FieldType := none
def mt_y12 : MethodName := ⟨"java/util/AbstractList", "<init>", "()V"⟩
abbrev mt_b12 : ByteArray := prog_29_method_1_code
abbrev mt_t12 : Option FieldType := none
def mt_y13 : MethodName := ⟨"java/util/AbstractCollection", "<init>", "()V"⟩
abbrev mt_b13 : ByteArray := prog_28_method_1_code
abbrev mt_t13 : Option FieldType := none
def mt_y14 : MethodName := ⟨"PondHouse$Runner", "<init>", "([LPondHouse$Creature;)V"⟩
abbrev mt_b14 : ByteArray := prog_10_method_1_code
abbrev mt_t14 : Option FieldType := none
def mt_y15 : MethodName := ⟨"PondHouse$Frame", "<init>", "()V"⟩
abbrev mt_b15 : ByteArray := prog_3_method_1_code
abbrev mt_t15 : Option FieldType := none
def mt_y16 : MethodName := ⟨"PondHouse$Patcher", "<init>", "([LPondHouse$Creature;LPondHouse$Runner;)V"⟩
abbrev mt_b16 : ByteArray := prog_7_method_1_code
abbrev mt_t16 : Option FieldType := none
def mt_y17 : MethodName := ⟨"PondHouse$Creature", "<init>", "(I)V"⟩
abbrev mt_b17 : ByteArray := prog_2_method_1_code
abbrev mt_t17 : Option FieldType := none
def mt_y18 : MethodName := ⟨"PondHouse$Pond", "<init>", "()V"⟩
abbrev mt_b18 : ByteArray := prog_8_method_1_code
abbrev mt_t18 : Option FieldType := none
def mt_y19 : MethodName := ⟨"PondHouse$LongAct", "<init>", "()V"⟩
abbrev mt_b19 : ByteArray := prog_5_method_1_code
abbrev mt_t19 : Option FieldType := none
def mt_y20 : MethodName := ⟨"PondHouse", "feed", "(IIIII)I"⟩
abbrev mt_b20 : ByteArray := prog_1_method_2_code
abbrev mt_t20 : Option FieldType := some (.int)
def mt_y21 : MethodName := ⟨"PondHouse$Tokens", "addBytes", "(I)V"⟩
abbrev mt_b21 : ByteArray := prog_12_method_2_code
abbrev mt_t21 : Option FieldType := none
def mt_y22 : MethodName := ⟨"PondHouse", "end", "(I)Z"⟩
abbrev mt_b22 : ByteArray := prog_1_method_3_code
abbrev mt_t22 : Option FieldType := some (.boolean)
def mt_y23 : MethodName := ⟨"PondHouse", "word", "()I"⟩
abbrev mt_b23 : ByteArray := prog_1_method_4_code
abbrev mt_t23 : Option FieldType := some (.int)
def mt_y24 : MethodName := ⟨"PondHouse$Reader", "readOneName", "()I"⟩
abbrev mt_b24 : ByteArray := prog_9_method_2_code
abbrev mt_t24 : Option FieldType := some (.int)
def mt_y25 : MethodName := ⟨"PondHouse$Tokens", "cut", "()V"⟩
abbrev mt_b25 : ByteArray := prog_12_method_3_code
abbrev mt_t25 : Option FieldType := none
def mt_y26 : MethodName := ⟨"PondHouse$Tokens", "cutOne", "(I)I"⟩
abbrev mt_b26 : ByteArray := prog_12_method_4_code
abbrev mt_t26 : Option FieldType := some (.int)
def mt_y27 : MethodName := ⟨"PondHouse$Tokens", "isSmallLetter", "(I)Z"⟩
abbrev mt_b27 : ByteArray := prog_12_method_9_code
abbrev mt_t27 : Option FieldType := some (.boolean)
def mt_y28 : MethodName := ⟨"PondHouse$Tokens", "cutName", "(I)I"⟩
abbrev mt_b28 : ByteArray := prog_12_method_5_code
abbrev mt_t28 : Option FieldType := some (.int)
def mt_y29 : MethodName := ⟨"PondHouse", "placeIn", "([III)I"⟩
abbrev mt_b29 : ByteArray := prog_1_method_34_code
abbrev mt_t29 : Option FieldType := some (.int)
def mt_y30 : MethodName := ⟨"PondHouse$Tokens", "addToken", "(III)V"⟩
abbrev mt_b30 : ByteArray := prog_12_method_7_code
abbrev mt_t30 : Option FieldType := none
def mt_y31 : MethodName := ⟨"PondHouse$Tokens", "isDigit", "(I)Z"⟩
abbrev mt_b31 : ByteArray := prog_12_method_11_code
abbrev mt_t31 : Option FieldType := some (.boolean)
def mt_y32 : MethodName := ⟨"PondHouse$Tokens", "cutNumber", "(I)I"⟩
abbrev mt_b32 : ByteArray := prog_12_method_6_code
abbrev mt_t32 : Option FieldType := some (.int)
def mt_y33 : MethodName := ⟨"PondHouse$Tokens", "isAnyLetter", "(I)Z"⟩
abbrev mt_b33 : ByteArray := prog_12_method_10_code
abbrev mt_t33 : Option FieldType := some (.boolean)
def mt_y34 : MethodName := ⟨"java/lang/String", "indexOf", "(I)I"⟩
abbrev mt_b34 : ByteArray := prog_22_method_79_code
abbrev mt_t34 : Option FieldType := some (.int)
def mt_y35 : MethodName := ⟨"java/lang/String", "indexOf", "(II)I"⟩
abbrev mt_b35 : ByteArray := prog_22_method_80_code
abbrev mt_t35 : Option FieldType := some (.int)
def mt_y36 : MethodName := ⟨"java/lang/StringLatin1", "indexOf", "([BIII)I"⟩
abbrev mt_b36 : ByteArray := prog_23_method_22_code
abbrev mt_t36 : Option FieldType := some (.int)
def mt_y37 : MethodName := ⟨"java/lang/StringLatin1", "canEncode", "(I)Z"⟩
abbrev mt_b37 : ByteArray := prog_23_method_4_code
abbrev mt_t37 : Option FieldType := some (.boolean)
def mt_y38 : MethodName := ⟨"java/lang/StringLatin1", "indexOfChar", "([BIII)I"⟩
abbrev mt_b38 : ByteArray := prog_23_method_23_code
abbrev mt_t38 : Option FieldType := some (.int)
def mt_y39 : MethodName := ⟨"PondHouse$Reader", "sortNow", "()I"⟩
abbrev mt_b39 : ByteArray := prog_9_method_23_code
abbrev mt_t39 : Option FieldType := some (.int)
def mt_y40 : MethodName := ⟨"PondHouse$Reader", "numberOf", "(I)I"⟩
abbrev mt_b40 : ByteArray := prog_9_method_22_code
abbrev mt_t40 : Option FieldType := some (.int)
def mt_y41 : MethodName := ⟨"PondHouse", "pond", "()I"⟩
abbrev mt_b41 : ByteArray := prog_1_method_5_code
abbrev mt_t41 : Option FieldType := some (.int)
def mt_y42 : MethodName := ⟨"PondHouse$Reader", "readText", "(LPondHouse$Pond;)Z"⟩
abbrev mt_b42 : ByteArray := prog_9_method_5_code
abbrev mt_t42 : Option FieldType := some (.boolean)
def mt_y43 : MethodName := ⟨"PondHouse$Reader", "forgetFault", "()V"⟩
abbrev mt_b43 : ByteArray := prog_9_method_4_code
abbrev mt_t43 : Option FieldType := none
def mt_y44 : MethodName := ⟨"PondHouse$Reader", "readKind", "()Z"⟩
abbrev mt_b44 : ByteArray := prog_9_method_6_code
abbrev mt_t44 : Option FieldType := some (.boolean)
def mt_y45 : MethodName := ⟨"PondHouse$Reader", "readName", "()I"⟩
abbrev mt_b45 : ByteArray := prog_9_method_21_code
abbrev mt_t45 : Option FieldType := some (.int)
def mt_y46 : MethodName := ⟨"PondHouse$Reader", "stopAt", "(II)Z"⟩
abbrev mt_b46 : ByteArray := prog_9_method_25_code
abbrev mt_t46 : Option FieldType := some (.boolean)
def mt_y47 : MethodName := ⟨"PondHouse$Pond", "find", "(I)LPondHouse$Kind;"⟩
abbrev mt_b47 : ByteArray := prog_8_method_2_code
abbrev mt_t47 : Option FieldType := some (.object "PondHouse$Kind")
def mt_y48 : MethodName := ⟨"PondHouse$Step", "<init>", "(IIIII[I)V"⟩
abbrev mt_b48 : ByteArray := prog_11_method_1_code
abbrev mt_t48 : Option FieldType := none
def mt_y49 : MethodName := ⟨"java/util/ArrayList", "add", "(Ljava/lang/Object;)Z"⟩
abbrev mt_b49 : ByteArray := prog_30_method_25_code
abbrev mt_t49 : Option FieldType := some (.boolean)
def mt_y50 : MethodName := ⟨"java/util/ArrayList", "add", "(Ljava/lang/Object;[Ljava/lang/Object;I)V"⟩
abbrev mt_b50 : ByteArray := prog_30_method_24_code
abbrev mt_t50 : Option FieldType := none
def mt_y51 : MethodName := ⟨"java/util/ArrayList", "grow", "()[Ljava/lang/Object;"⟩
abbrev mt_b51 : ByteArray := prog_30_method_7_code
abbrev mt_t51 : Option FieldType := some (.array (.object "java/lang/Object"))
def mt_y52 : MethodName := ⟨"java/util/ArrayList", "grow", "(I)[Ljava/lang/Object;"⟩
abbrev mt_b52 : ByteArray := prog_30_method_6_code
abbrev mt_t52 : Option FieldType := some (.array (.object "java/lang/Object"))
def mt_y53 : MethodName := ⟨"jdk/internal/util/ArraysSupport", "newLength", "(III)I"⟩
abbrev mt_b53 : ByteArray := prog_37_method_27_code
abbrev mt_t53 : Option FieldType := some (.int)
def mt_y54 : MethodName := ⟨"java/util/Arrays", "copyOf", "([Ljava/lang/Object;I)[Ljava/lang/Object;"⟩
abbrev mt_b54 : ByteArray := prog_31_method_119_code
abbrev mt_t54 : Option FieldType := some (.array (.object "java/lang/Object"))
def mt_y55 : MethodName := ⟨"java/util/Arrays", "copyOf", "([Ljava/lang/Object;ILjava/lang/Class;)[Ljava/lang/Object;"⟩
abbrev mt_b55 : ByteArray := prog_31_method_120_code
abbrev mt_t55 : Option FieldType := some (.array (.object "java/lang/Object"))
def mt_y56 : MethodName := ⟨"PondHouse$Pond", "takeKind", "(LPondHouse$Step;)I"⟩
abbrev mt_b56 : ByteArray := prog_8_method_5_code
abbrev mt_t56 : Option FieldType := some (.int)
def mt_y57 : MethodName := ⟨"PondHouse$Kind", "<init>", "(I)V"⟩
abbrev mt_b57 : ByteArray := prog_4_method_1_code
abbrev mt_t57 : Option FieldType := none
def mt_y58 : MethodName := ⟨"PondHouse$Reader", "pass", "(I)Z"⟩
abbrev mt_b58 : ByteArray := prog_9_method_24_code
abbrev mt_t58 : Option FieldType := some (.boolean)
def mt_y59 : MethodName := ⟨"PondHouse$Reader", "readMember", "(ILPondHouse$Kind;)Z"⟩
abbrev mt_b59 : ByteArray := prog_9_method_7_code
abbrev mt_t59 : Option FieldType := some (.boolean)
def mt_y60 : MethodName := ⟨"PondHouse$Kind", "faultOfNew", "(II)I"⟩
abbrev mt_b60 : ByteArray := prog_4_method_12_code
abbrev mt_t60 : Option FieldType := some (.int)
def mt_y61 : MethodName := ⟨"PondHouse$Kind", "hasOwnValue", "(I)Z"⟩
abbrev mt_b61 : ByteArray := prog_4_method_5_code
abbrev mt_t61 : Option FieldType := some (.boolean)
def mt_y62 : MethodName := ⟨"PondHouse$Reader", "readRestOfValue", "(I)Z"⟩
abbrev mt_b62 : ByteArray := prog_9_method_8_code
abbrev mt_t62 : Option FieldType := some (.boolean)
def mt_y63 : MethodName := ⟨"PondHouse$Reader", "readBlock", "(I)Z"⟩
abbrev mt_b63 : ByteArray := prog_9_method_13_code
abbrev mt_t63 : Option FieldType := some (.boolean)
def mt_y64 : MethodName := ⟨"PondHouse$Reader", "readStatement", "(I)Z"⟩
abbrev mt_b64 : ByteArray := prog_9_method_14_code
abbrev mt_t64 : Option FieldType := some (.boolean)
def mt_y65 : MethodName := ⟨"PondHouse$Reader", "write", "(I)V"⟩
abbrev mt_b65 : ByteArray := prog_9_method_26_code
abbrev mt_t65 : Option FieldType := none
def mt_y66 : MethodName := ⟨"PondHouse$Reader", "readIf", "(I)Z"⟩
abbrev mt_b66 : ByteArray := prog_9_method_16_code
abbrev mt_t66 : Option FieldType := some (.boolean)
def mt_y67 : MethodName := ⟨"PondHouse$Reader", "readE", "(II)Z"⟩
abbrev mt_b67 : ByteArray := prog_9_method_17_code
abbrev mt_t67 : Option FieldType := some (.boolean)
def mt_y68 : MethodName := ⟨"PondHouse$Reader", "readU", "(I)Z"⟩
abbrev mt_b68 : ByteArray := prog_9_method_19_code
abbrev mt_t68 : Option FieldType := some (.boolean)
def mt_y69 : MethodName := ⟨"PondHouse$Reader", "readOpening", "(II)Z"⟩
abbrev mt_b69 : ByteArray := prog_9_method_20_code
abbrev mt_t69 : Option FieldType := some (.boolean)
def mt_y70 : MethodName := ⟨"PondHouse$Reader", "joinsAt", "(II)Z"⟩
abbrev mt_b70 : ByteArray := prog_9_method_18_code
abbrev mt_t70 : Option FieldType := some (.boolean)
def mt_y71 : MethodName := ⟨"PondHouse$Reader", "writeAt", "(II)V"⟩
abbrev mt_b71 : ByteArray := prog_9_method_27_code
abbrev mt_t71 : Option FieldType := none
def mt_y72 : MethodName := ⟨"PondHouse$Reader", "sortNow", "()I"⟩
abbrev mt_b72 : ByteArray := prog_9_method_23_code
abbrev mt_t72 : Option FieldType := some (.int)
def mt_y73 : MethodName := ⟨"PondHouse$Reader", "readPlain", "(I)Z"⟩
abbrev mt_b73 : ByteArray := prog_9_method_15_code
abbrev mt_t73 : Option FieldType := some (.boolean)
def mt_y74 : MethodName := ⟨"java/util/Arrays", "copyOf", "([II)[I"⟩
abbrev mt_b74 : ByteArray := prog_31_method_123_code
abbrev mt_t74 : Option FieldType := some (.array .int)
def mt_y75 : MethodName := ⟨"PondHouse$Kind", "takeMember", "(LPondHouse$Step;)I"⟩
abbrev mt_b75 : ByteArray := prog_4_method_13_code
abbrev mt_t75 : Option FieldType := some (.int)
def mt_y76 : MethodName := ⟨"PondHouse$Kind", "addField", "(LPondHouse$Step;)I"⟩
abbrev mt_b76 : ByteArray := prog_4_method_14_code
abbrev mt_t76 : Option FieldType := some (.int)
def mt_y77 : MethodName := ⟨"PondHouse$Kind", "addStatic", "(LPondHouse$Step;)I"⟩
abbrev mt_b77 : ByteArray := prog_4_method_15_code
abbrev mt_t77 : Option FieldType := some (.int)
def mt_y78 : MethodName := ⟨"PondHouse$Kind", "setAct", "(LPondHouse$Step;)I"⟩
abbrev mt_b78 : ByteArray := prog_4_method_16_code
abbrev mt_t78 : Option FieldType := some (.int)
def mt_y79 : MethodName := ⟨"PondHouse$Kind", "removeMember", "(I)I"⟩
abbrev mt_b79 : ByteArray := prog_4_method_17_code
abbrev mt_t79 : Option FieldType := some (.int)
def mt_y80 : MethodName := ⟨"PondHouse$Kind", "fieldAt", "(I)I"⟩
abbrev mt_b80 : ByteArray := prog_4_method_3_code
abbrev mt_t80 : Option FieldType := some (.int)
def mt_y81 : MethodName := ⟨"PondHouse$Kind", "staticAt", "(I)I"⟩
abbrev mt_b81 : ByteArray := prog_4_method_4_code
abbrev mt_t81 : Option FieldType := some (.int)
def mt_y82 : MethodName := ⟨"PondHouse", "closeGap", "([III)V"⟩
abbrev mt_b82 : ByteArray := prog_1_method_35_code
abbrev mt_t82 : Option FieldType := none
def mt_y83 : MethodName := ⟨"PondHouse$Kind", "renameField", "(LPondHouse$Step;)I"⟩
abbrev mt_b83 : ByteArray := prog_4_method_18_code
abbrev mt_t83 : Option FieldType := some (.int)
def mt_y84 : MethodName := ⟨"PondHouse$Reader", "readEdits", "()Z"⟩
abbrev mt_b84 : ByteArray := prog_9_method_9_code
abbrev mt_t84 : Option FieldType := some (.boolean)
def mt_y85 : MethodName := ⟨"PondHouse$Reader", "readEdit", "(II)Z"⟩
abbrev mt_b85 : ByteArray := prog_9_method_10_code
abbrev mt_t85 : Option FieldType := some (.boolean)
def mt_y86 : MethodName := ⟨"PondHouse$Reader", "readRule", "()[I"⟩
abbrev mt_b86 : ByteArray := prog_9_method_12_code
abbrev mt_t86 : Option FieldType := some (.array .int)
def mt_y87 : MethodName := ⟨"PondHouse$Reader", "readShortChange", "(I)Z"⟩
abbrev mt_b87 : ByteArray := prog_9_method_11_code
abbrev mt_t87 : Option FieldType := some (.boolean)
def mt_y88 : MethodName := ⟨"PondHouse$Pond", "settle", "(LPondHouse$Pond;I)V"⟩
abbrev mt_b88 : ByteArray := prog_8_method_9_code
abbrev mt_t88 : Option FieldType := none
def mt_y89 : MethodName := ⟨"PondHouse$Kind", "settleNames", "()V"⟩
abbrev mt_b89 : ByteArray := prog_4_method_11_code
abbrev mt_t89 : Option FieldType := none
def mt_y90 : MethodName := ⟨"PondHouse$Pond", "keepStatics", "(LPondHouse$Pond;)V"⟩
abbrev mt_b90 : ByteArray := prog_8_method_10_code
abbrev mt_t90 : Option FieldType := none
def mt_y91 : MethodName := ⟨"PondHouse$Patcher", "forgetAll", "()V"⟩
abbrev mt_b91 : ByteArray := prog_7_method_2_code
abbrev mt_t91 : Option FieldType := none
def mt_y92 : MethodName := ⟨"PondHouse", "patch", "()I"⟩
abbrev mt_b92 : ByteArray := prog_1_method_6_code
abbrev mt_t92 : Option FieldType := some (.int)
def mt_y93 : MethodName := ⟨"PondHouse$Patcher", "isFull", "()Z"⟩
abbrev mt_b93 : ByteArray := prog_7_method_3_code
abbrev mt_t93 : Option FieldType := some (.boolean)
def mt_y94 : MethodName := ⟨"PondHouse$Reader", "passOver", "()V"⟩
abbrev mt_b94 : ByteArray := prog_9_method_3_code
abbrev mt_t94 : Option FieldType := none
def mt_y95 : MethodName := ⟨"PondHouse$Patcher", "keep", "(Ljava/util/ArrayList;)I"⟩
abbrev mt_b95 : ByteArray := prog_7_method_4_code
abbrev mt_t95 : Option FieldType := some (.int)
def mt_y96 : MethodName := ⟨"PondHouse$Patch", "<init>", "(Ljava/util/ArrayList;)V"⟩
abbrev mt_b96 : ByteArray := prog_6_method_1_code
abbrev mt_t96 : Option FieldType := none
def mt_y97 : MethodName := ⟨"PondHouse", "fault", "(I)I"⟩
abbrev mt_b97 : ByteArray := prog_1_method_7_code
abbrev mt_t97 : Option FieldType := some (.int)
def mt_y98 : MethodName := ⟨"PondHouse", "kinds", "()I"⟩
abbrev mt_b98 : ByteArray := prog_1_method_8_code
abbrev mt_t98 : Option FieldType := some (.int)
def mt_y99 : MethodName := ⟨"PondHouse", "kind", "(II)I"⟩
abbrev mt_b99 : ByteArray := prog_1_method_9_code
abbrev mt_t99 : Option FieldType := some (.int)
def mt_y100 : MethodName := ⟨"PondHouse", "create", "(I)I"⟩
abbrev mt_b100 : ByteArray := prog_1_method_10_code
abbrev mt_t100 : Option FieldType := some (.int)
def mt_y101 : MethodName := ⟨"PondHouse$Creature", "comeToLife", "(LPondHouse$Kind;)V"⟩
abbrev mt_b101 : ByteArray := prog_2_method_2_code
abbrev mt_t101 : Option FieldType := none
def mt_y102 : MethodName := ⟨"PondHouse", "kindOf", "(I)I"⟩
abbrev mt_b102 : ByteArray := prog_1_method_11_code
abbrev mt_t102 : Option FieldType := some (.int)
def mt_y103 : MethodName := ⟨"PondHouse", "lives", "(I)Z"⟩
abbrev mt_b103 : ByteArray := prog_1_method_31_code
abbrev mt_t103 : Option FieldType := some (.boolean)
def mt_y104 : MethodName := ⟨"PondHouse", "generation", "(I)I"⟩
abbrev mt_b104 : ByteArray := prog_1_method_12_code
abbrev mt_t104 : Option FieldType := some (.int)
def mt_y105 : MethodName := ⟨"PondHouse", "has", "(II)Z"⟩
abbrev mt_b105 : ByteArray := prog_1_method_13_code
abbrev mt_t105 : Option FieldType := some (.boolean)
def mt_y106 : MethodName := ⟨"PondHouse$Kind", "hasField", "(I)Z"⟩
abbrev mt_b106 : ByteArray := prog_4_method_8_code
abbrev mt_t106 : Option FieldType := some (.boolean)
def mt_y107 : MethodName := ⟨"PondHouse", "value", "(II)I"⟩
abbrev mt_b107 : ByteArray := prog_1_method_14_code
abbrev mt_t107 : Option FieldType := some (.int)
def mt_y108 : MethodName := ⟨"PondHouse", "isName", "(I)Z"⟩
abbrev mt_b108 : ByteArray := prog_1_method_32_code
abbrev mt_t108 : Option FieldType := some (.boolean)
def mt_y109 : MethodName := ⟨"PondHouse", "put", "(III)Z"⟩
abbrev mt_b109 : ByteArray := prog_1_method_15_code
abbrev mt_t109 : Option FieldType := some (.boolean)
def mt_y110 : MethodName := ⟨"PondHouse", "fixed", "(II)I"⟩
abbrev mt_b110 : ByteArray := prog_1_method_16_code
abbrev mt_t110 : Option FieldType := some (.int)
def mt_y111 : MethodName := ⟨"PondHouse$Kind", "holderOfStatic", "(I)LPondHouse$Kind;"⟩
abbrev mt_b111 : ByteArray := prog_4_method_9_code
abbrev mt_t111 : Option FieldType := some (.object "PondHouse$Kind")
def mt_y112 : MethodName := ⟨"PondHouse", "act", "(III)I"⟩
abbrev mt_b112 : ByteArray := prog_1_method_17_code
abbrev mt_t112 : Option FieldType := some (.int)
def mt_y113 : MethodName := ⟨"PondHouse$Runner", "runAct", "(LPondHouse$Creature;II)I"⟩
abbrev mt_b113 : ByteArray := prog_10_method_2_code
abbrev mt_t113 : Option FieldType := some (.int)
def mt_y114 : MethodName := ⟨"PondHouse$Runner", "forgetResults", "()V"⟩
abbrev mt_b114 : ByteArray := prog_10_method_4_code
abbrev mt_t114 : Option FieldType := none
def mt_y115 : MethodName := ⟨"PondHouse$Kind", "holderOfAct", "(I)LPondHouse$Kind;"⟩
abbrev mt_b115 : ByteArray := prog_4_method_10_code
abbrev mt_t115 : Option FieldType := some (.object "PondHouse$Kind")
def mt_y116 : MethodName := ⟨"PondHouse$Frame", "open", "(LPondHouse$Creature;LPondHouse$Kind;II)V"⟩
abbrev mt_b116 : ByteArray := prog_3_method_2_code
abbrev mt_t116 : Option FieldType := none
def mt_y117 : MethodName := ⟨"PondHouse$Runner", "noteBegun", "(LPondHouse$Frame;)V"⟩
abbrev mt_b117 : ByteArray := prog_10_method_16_code
abbrev mt_t117 : Option FieldType := none
def mt_y118 : MethodName := ⟨"PondHouse$Runner", "go", "(LPondHouse$Frame;Z)I"⟩
abbrev mt_b118 : ByteArray := prog_10_method_6_code
abbrev mt_t118 : Option FieldType := some (.int)
def mt_y119 : MethodName := ⟨"PondHouse$Frame", "nextPart", "()I"⟩
abbrev mt_b119 : ByteArray := prog_3_method_4_code
abbrev mt_t119 : Option FieldType := some (.int)
def mt_y120 : MethodName := ⟨"PondHouse$Runner", "reckon", "(LPondHouse$Frame;I)Z"⟩
abbrev mt_b120 : ByteArray := prog_10_method_7_code
abbrev mt_t120 : Option FieldType := some (.boolean)
def mt_y121 : MethodName := ⟨"PondHouse$Runner", "push", "(I)V"⟩
abbrev mt_b121 : ByteArray := prog_10_method_20_code
abbrev mt_t121 : Option FieldType := none
def mt_y122 : MethodName := ⟨"PondHouse$Runner", "load", "(LPondHouse$Creature;I)V"⟩
abbrev mt_b122 : ByteArray := prog_10_method_17_code
abbrev mt_t122 : Option FieldType := none
def mt_y123 : MethodName := ⟨"PondHouse$Runner", "failWith", "(I)V"⟩
abbrev mt_b123 : ByteArray := prog_10_method_11_code
abbrev mt_t123 : Option FieldType := none
def mt_y124 : MethodName := ⟨"PondHouse$Runner", "pop", "()I"⟩
abbrev mt_b124 : ByteArray := prog_10_method_21_code
abbrev mt_t124 : Option FieldType := some (.int)
def mt_y125 : MethodName := ⟨"PondHouse$Runner", "store", "(LPondHouse$Creature;II)V"⟩
abbrev mt_b125 : ByteArray := prog_10_method_18_code
abbrev mt_t125 : Option FieldType := none
def mt_y126 : MethodName := ⟨"PondHouse$Runner", "join", "(I)V"⟩
abbrev mt_b126 : ByteArray := prog_10_method_19_code
abbrev mt_t126 : Option FieldType := none
def mt_y127 : MethodName := ⟨"PondHouse$Runner", "steer", "(LPondHouse$Frame;I)V"⟩
abbrev mt_b127 : ByteArray := prog_10_method_8_code
abbrev mt_t127 : Option FieldType := none
def mt_y128 : MethodName := ⟨"PondHouse$Runner", "burn", "()V"⟩
abbrev mt_b128 : ByteArray := prog_10_method_9_code
abbrev mt_t128 : Option FieldType := none
def mt_y129 : MethodName := ⟨"PondHouse$Runner", "finish", "(I)V"⟩
abbrev mt_b129 : ByteArray := prog_10_method_10_code
abbrev mt_t129 : Option FieldType := none
def mt_y130 : MethodName := ⟨"PondHouse$Runner", "callAbove", "(LPondHouse$Frame;)V"⟩
abbrev mt_b130 : ByteArray := prog_10_method_12_code
abbrev mt_t130 : Option FieldType := none
def mt_y131 : MethodName := ⟨"PondHouse$Runner", "openAct", "(LPondHouse$Creature;LPondHouse$Kind;II)V"⟩
abbrev mt_b131 : ByteArray := prog_10_method_15_code
abbrev mt_t131 : Option FieldType := none
def mt_y132 : MethodName := ⟨"PondHouse$Runner", "call", "(LPondHouse$Creature;I)V"⟩
abbrev mt_b132 : ByteArray := prog_10_method_14_code
abbrev mt_t132 : Option FieldType := none
def mt_y133 : MethodName := ⟨"PondHouse$Runner", "send", "(II)V"⟩
abbrev mt_b133 : ByteArray := prog_10_method_13_code
abbrev mt_t133 : Option FieldType := none
def mt_y134 : MethodName := ⟨"PondHouse", "told", "(I)I"⟩
abbrev mt_b134 : ByteArray := prog_1_method_18_code
abbrev mt_t134 : Option FieldType := some (.int)
def mt_y135 : MethodName := ⟨"PondHouse", "wake", "(I)Z"⟩
abbrev mt_b135 : ByteArray := prog_1_method_19_code
abbrev mt_t135 : Option FieldType := some (.boolean)
def mt_y136 : MethodName := ⟨"PondHouse", "beat", "()I"⟩
abbrev mt_b136 : ByteArray := prog_1_method_20_code
abbrev mt_t136 : Option FieldType := some (.int)
def mt_y137 : MethodName := ⟨"PondHouse$Runner", "goOn", "(LPondHouse$Frame;)I"⟩
abbrev mt_b137 : ByteArray := prog_10_method_3_code
abbrev mt_t137 : Option FieldType := some (.int)
def mt_y138 : MethodName := ⟨"PondHouse$LongAct", "takeResult", "(II)V"⟩
abbrev mt_b138 : ByteArray := prog_5_method_3_code
abbrev mt_t138 : Option FieldType := none
def mt_y139 : MethodName := ⟨"PondHouse$Patcher", "quietPoint", "(LPondHouse$Pond;Z)LPondHouse$Pond;"⟩
abbrev mt_b139 : ByteArray := prog_7_method_6_code
abbrev mt_t139 : Option FieldType := some (.object "PondHouse$Pond")
def mt_y140 : MethodName := ⟨"PondHouse$Pond", "copyOfAll", "()LPondHouse$Pond;"⟩
abbrev mt_b140 : ByteArray := prog_8_method_3_code
abbrev mt_t140 : Option FieldType := some (.object "PondHouse$Pond")
def mt_y141 : MethodName := ⟨"PondHouse$Kind", "copyOfOwn", "()LPondHouse$Kind;"⟩
abbrev mt_b141 : ByteArray := prog_4_method_2_code
abbrev mt_t141 : Option FieldType := some (.object "PondHouse$Kind")
def mt_y142 : MethodName := ⟨"PondHouse$Patcher", "takeSteps", "(LPondHouse$Patch;LPondHouse$Pond;LPondHouse$Pond;)Z"⟩
abbrev mt_b142 : ByteArray := prog_7_method_7_code
abbrev mt_t142 : Option FieldType := some (.boolean)
def mt_y143 : MethodName := ⟨"java/util/ArrayList", "size", "()I"⟩
abbrev mt_b143 : ByteArray := prog_30_method_8_code
abbrev mt_t143 : Option FieldType := some (.int)
def mt_y144 : MethodName := ⟨"java/util/ArrayList", "get", "(I)Ljava/lang/Object;"⟩
abbrev mt_b144 : ByteArray := prog_30_method_20_code
abbrev mt_t144 : Option FieldType := some (.object "java/lang/Object")
def mt_y145 : MethodName := ⟨"java/util/Objects", "checkIndex", "(II)I"⟩
abbrev mt_b145 : ByteArray := prog_34_method_17_code
abbrev mt_t145 : Option FieldType := some (.int)
def mt_y146 : MethodName := ⟨"java/util/ArrayList", "elementData", "(I)Ljava/lang/Object;"⟩
abbrev mt_b146 : ByteArray := prog_30_method_18_code
abbrev mt_t146 : Option FieldType := some (.object "java/lang/Object")
def mt_y147 : MethodName := ⟨"PondHouse$Pond", "takeStep", "(LPondHouse$Step;)I"⟩
abbrev mt_b147 : ByteArray := prog_8_method_4_code
abbrev mt_t147 : Option FieldType := some (.int)
def mt_y148 : MethodName := ⟨"PondHouse$Pond", "removeKind", "(LPondHouse$Kind;)I"⟩
abbrev mt_b148 : ByteArray := prog_8_method_6_code
abbrev mt_t148 : Option FieldType := some (.int)
def mt_y149 : MethodName := ⟨"PondHouse$Pond", "moveKind", "(LPondHouse$Kind;I)I"⟩
abbrev mt_b149 : ByteArray := prog_8_method_7_code
abbrev mt_t149 : Option FieldType := some (.int)
def mt_y150 : MethodName := ⟨"PondHouse$Kind", "isOrIsUnder", "(I)Z"⟩
abbrev mt_b150 : ByteArray := prog_4_method_7_code
abbrev mt_t150 : Option FieldType := some (.boolean)
def mt_y151 : MethodName := ⟨"PondHouse$Patcher", "refuse", "(III)Z"⟩
abbrev mt_b151 : ByteArray := prog_7_method_8_code
abbrev mt_t151 : Option FieldType := some (.boolean)
def mt_y152 : MethodName := ⟨"PondHouse$Pond", "hasMemberTwice", "()Z"⟩
abbrev mt_b152 : ByteArray := prog_8_method_8_code
abbrev mt_t152 : Option FieldType := some (.boolean)
def mt_y153 : MethodName := ⟨"PondHouse$Patcher", "carryAll", "(LPondHouse$Patch;LPondHouse$Pond;)Z"⟩
abbrev mt_b153 : ByteArray := prog_7_method_9_code
abbrev mt_t153 : Option FieldType := some (.boolean)
def mt_y154 : MethodName := ⟨"PondHouse$Creature", "becomeLike", "(LPondHouse$Creature;)V"⟩
abbrev mt_b154 : ByteArray := prog_2_method_3_code
abbrev mt_t154 : Option FieldType := none
def mt_y155 : MethodName := ⟨"PondHouse$Patcher", "carry", "(LPondHouse$Patch;LPondHouse$Pond;LPondHouse$Creature;LPondHouse$Creature;)Z"⟩
abbrev mt_b155 : ByteArray := prog_7_method_10_code
abbrev mt_t155 : Option FieldType := some (.boolean)
def mt_y156 : MethodName := ⟨"java/util/Arrays", "fill", "([II)V"⟩
abbrev mt_b156 : ByteArray := prog_31_method_103_code
abbrev mt_t156 : Option FieldType := none
def mt_y157 : MethodName := ⟨"PondHouse$Patcher", "chainOf", "(LPondHouse$Kind;)I"⟩
abbrev mt_b157 : ByteArray := prog_7_method_12_code
abbrev mt_t157 : Option FieldType := some (.int)
def mt_y158 : MethodName := ⟨"PondHouse$Pond", "sourceOf", "(LPondHouse$Kind;ILPondHouse$Kind;)I"⟩
abbrev mt_b158 : ByteArray := prog_8_method_11_code
abbrev mt_t158 : Option FieldType := some (.int)
def mt_y159 : MethodName := ⟨"PondHouse$Kind", "holderOfField", "(I)LPondHouse$Kind;"⟩
abbrev mt_b159 : ByteArray := prog_4_method_6_code
abbrev mt_t159 : Option FieldType := some (.object "PondHouse$Kind")
def mt_y160 : MethodName := ⟨"PondHouse$Patch", "ruleFor", "(LPondHouse$Kind;I)LPondHouse$Step;"⟩
abbrev mt_b160 : ByteArray := prog_6_method_2_code
abbrev mt_t160 : Option FieldType := some (.object "PondHouse$Step")
def mt_y161 : MethodName := ⟨"PondHouse$Runner", "workOut", "(LPondHouse$Creature;[I)Z"⟩
abbrev mt_b161 : ByteArray := prog_10_method_5_code
abbrev mt_t161 : Option FieldType := some (.boolean)
def mt_y162 : MethodName := ⟨"PondHouse$Frame", "openRule", "(LPondHouse$Creature;[I)V"⟩
abbrev mt_b162 : ByteArray := prog_3_method_3_code
abbrev mt_t162 : Option FieldType := none
def mt_y163 : MethodName := ⟨"PondHouse$Patcher", "loseTheRest", "(LPondHouse$Creature;LPondHouse$Creature;)V"⟩
abbrev mt_b163 : ByteArray := prog_7_method_11_code
abbrev mt_t163 : Option FieldType := none
def mt_y164 : MethodName := ⟨"PondHouse$Patcher", "checkAll", "(LPondHouse$Patch;)Z"⟩
abbrev mt_b164 : ByteArray := prog_7_method_13_code
abbrev mt_t164 : Option FieldType := some (.boolean)
def mt_y165 : MethodName := ⟨"PondHouse", "endLongActsOfEnded", "()V"⟩
abbrev mt_b165 : ByteArray := prog_1_method_33_code
abbrev mt_t165 : Option FieldType := none
def mt_y166 : MethodName := ⟨"PondHouse", "outcome", "(I)I"⟩
abbrev mt_b166 : ByteArray := prog_1_method_21_code
abbrev mt_t166 : Option FieldType := some (.int)
def mt_y167 : MethodName := ⟨"PondHouse", "ran", "(II)I"⟩
abbrev mt_b167 : ByteArray := prog_1_method_22_code
abbrev mt_t167 : Option FieldType := some (.int)
def mt_y168 : MethodName := ⟨"PondHouse", "begin", "(III)I"⟩
abbrev mt_b168 : ByteArray := prog_1_method_23_code
abbrev mt_t168 : Option FieldType := some (.int)
def mt_y169 : MethodName := ⟨"PondHouse$LongAct", "startFor", "(LPondHouse$Creature;LPondHouse$Kind;II)V"⟩
abbrev mt_b169 : ByteArray := prog_5_method_2_code
abbrev mt_t169 : Option FieldType := none
def mt_y170 : MethodName := ⟨"PondHouse", "under", "(II)I"⟩
abbrev mt_b170 : ByteArray := prog_1_method_24_code
abbrev mt_t170 : Option FieldType := some (.int)
def mt_y171 : MethodName := ⟨"PondHouse$LongAct", "tell", "(I)I"⟩
abbrev mt_b171 : ByteArray := prog_5_method_4_code
abbrev mt_t171 : Option FieldType := some (.int)
def mt_y172 : MethodName := ⟨"PondHouse", "forbid", "(IZ)Z"⟩
abbrev mt_b172 : ByteArray := prog_1_method_25_code
abbrev mt_t172 : Option FieldType := some (.boolean)
def mt_y173 : MethodName := ⟨"PondHouse", "apply", "(I)Z"⟩
abbrev mt_b173 : ByteArray := prog_1_method_26_code
abbrev mt_t173 : Option FieldType := some (.boolean)
def mt_y174 : MethodName := ⟨"PondHouse$Patcher", "callFor", "(I)Z"⟩
abbrev mt_b174 : ByteArray := prog_7_method_5_code
abbrev mt_t174 : Option FieldType := some (.boolean)
def mt_y175 : MethodName := ⟨"PondHouse", "applied", "(I)I"⟩
abbrev mt_b175 : ByteArray := prog_1_method_27_code
abbrev mt_t175 : Option FieldType := some (.int)
def mt_y176 : MethodName := ⟨"PondHouse", "refusal", "(I)I"⟩
abbrev mt_b176 : ByteArray := prog_1_method_28_code
abbrev mt_t176 : Option FieldType := some (.int)
def mt_y177 : MethodName := ⟨"PondHouse", "back", "()Z"⟩
abbrev mt_b177 : ByteArray := prog_1_method_29_code
abbrev mt_t177 : Option FieldType := some (.boolean)
def mt_y178 : MethodName := ⟨"PondHouse$Patcher", "canTakeBack", "()Z"⟩
abbrev mt_b178 : ByteArray := prog_7_method_14_code
abbrev mt_t178 : Option FieldType := some (.boolean)
def mt_y179 : MethodName := ⟨"PondHouse$Patcher", "takeBack", "(LPondHouse$Pond;)LPondHouse$Pond;"⟩
abbrev mt_b179 : ByteArray := prog_7_method_15_code
abbrev mt_t179 : Option FieldType := some (.object "PondHouse$Pond")
def mt_y180 : MethodName := ⟨"PondHouse$Patcher", "bringBack", "(LPondHouse$Creature;LPondHouse$Creature;LPondHouse$Kind;LPondHouse$Pond;)V"⟩
abbrev mt_b180 : ByteArray := prog_7_method_16_code
abbrev mt_t180 : Option FieldType := none
def mt_y181 : MethodName := ⟨"PondHouse", "sum", "(I)J"⟩
abbrev mt_b181 : ByteArray := prog_1_method_30_code
abbrev mt_t181 : Option FieldType := some (.long)
def mt_y182 : MethodName := ⟨"PondHouseModel", "<init>", "()V"⟩
abbrev mt_b182 : ByteArray := prog_14_method_1_code
abbrev mt_t182 : Option FieldType := none
def mt_y183 : MethodName := ⟨"PondHouseModel", "pond", "()I"⟩
abbrev mt_b183 : ByteArray := prog_14_method_49_code
abbrev mt_t183 : Option FieldType := some (.int)
def mt_y184 : MethodName := ⟨"PondHouseModel", "begin", "()V"⟩
abbrev mt_b184 : ByteArray := prog_14_method_46_code
abbrev mt_t184 : Option FieldType := none
def mt_y185 : MethodName := ⟨"PondHouseModel", "learn", "()V"⟩
abbrev mt_b185 : ByteArray := prog_14_method_8_code
abbrev mt_t185 : Option FieldType := none
def mt_y186 : MethodName := ⟨"PondHouseModel", "word", "(IIIIIII)V"⟩
abbrev mt_b186 : ByteArray := prog_14_method_7_code
abbrev mt_t186 : Option FieldType := none
def mt_y187 : MethodName := ⟨"PondHouseModel", "more", "(JI)J"⟩
abbrev mt_b187 : ByteArray := prog_14_method_6_code
abbrev mt_t187 : Option FieldType := some (.long)
def mt_y188 : MethodName := ⟨"PondHouseModel", "look0", "()V"⟩
abbrev mt_b188 : ByteArray := prog_14_method_9_code
abbrev mt_t188 : Option FieldType := none
def mt_y189 : MethodName := ⟨"PondHouseModel", "see", "(I)I"⟩
abbrev mt_b189 : ByteArray := prog_14_method_3_code
abbrev mt_t189 : Option FieldType := some (.int)
def mt_y190 : MethodName := ⟨"PondHouseModel", "isSmall", "(I)Z"⟩
abbrev mt_b190 : ByteArray := prog_14_method_4_code
abbrev mt_t190 : Option FieldType := some (.boolean)
def mt_y191 : MethodName := ⟨"PondHouseModel", "isIn", "(III)Z"⟩
abbrev mt_b191 : ByteArray := prog_14_method_2_code
abbrev mt_t191 : Option FieldType := some (.boolean)
def mt_y192 : MethodName := ⟨"PondHouseModel", "isLetter", "(I)Z"⟩
abbrev mt_b192 : ByteArray := prog_14_method_5_code
abbrev mt_t192 : Option FieldType := some (.boolean)
def mt_y193 : MethodName := ⟨"PondHouseModel", "kindOfPond", "()Z"⟩
abbrev mt_b193 : ByteArray := prog_14_method_45_code
abbrev mt_t193 : Option FieldType := some (.boolean)
def mt_y194 : MethodName := ⟨"PondHouseModel", "bad", "(I)Z"⟩
abbrev mt_b194 : ByteArray := prog_14_method_11_code
abbrev mt_t194 : Option FieldType := some (.boolean)
def mt_y195 : MethodName := ⟨"PondHouseModel", "badAt", "(II)Z"⟩
abbrev mt_b195 : ByteArray := prog_14_method_12_code
abbrev mt_t195 : Option FieldType := some (.boolean)
def mt_y196 : MethodName := ⟨"PondHouseModel", "named", "()Z"⟩
abbrev mt_b196 : ByteArray := prog_14_method_18_code
abbrev mt_t196 : Option FieldType := some (.boolean)
def mt_y197 : MethodName := ⟨"PondHouseModel", "find", "(II)I"⟩
abbrev mt_b197 : ByteArray := prog_14_method_31_code
abbrev mt_t197 : Option FieldType := some (.int)
def mt_y198 : MethodName := ⟨"PondHouseModel", "many", "(I)I"⟩
abbrev mt_b198 : ByteArray := prog_14_method_27_code
abbrev mt_t198 : Option FieldType := some (.int)
def mt_y199 : MethodName := ⟨"PondHouseModel", "get", "(III)I"⟩
abbrev mt_b199 : ByteArray := prog_14_method_28_code
abbrev mt_t199 : Option FieldType := some (.int)
def mt_y200 : MethodName := ⟨"PondHouseModel", "newKind", "(II)I"⟩
abbrev mt_b200 : ByteArray := prog_14_method_39_code
abbrev mt_t200 : Option FieldType := some (.int)
def mt_y201 : MethodName := ⟨"PondHouseModel", "set", "(IIII)V"⟩
abbrev mt_b201 : ByteArray := prog_14_method_29_code
abbrev mt_t201 : Option FieldType := none
def mt_y202 : MethodName := ⟨"PondHouseModel", "need", "(I)Z"⟩
abbrev mt_b202 : ByteArray := prog_14_method_17_code
abbrev mt_t202 : Option FieldType := some (.boolean)
def mt_y203 : MethodName := ⟨"PondHouseModel", "isSign", "(I)Z"⟩
abbrev mt_b203 : ByteArray := prog_14_method_10_code
abbrev mt_t203 : Option FieldType := some (.boolean)
def mt_y204 : MethodName := ⟨"PondHouseModel", "member", "(I)Z"⟩
abbrev mt_b204 : ByteArray := prog_14_method_44_code
abbrev mt_t204 : Option FieldType := some (.boolean)
def mt_y205 : MethodName := ⟨"PondHouseModel", "actOf", "(III)I"⟩
abbrev mt_b205 : ByteArray := prog_14_method_34_code
abbrev mt_t205 : Option FieldType := some (.int)
def mt_y206 : MethodName := ⟨"PondHouseModel", "hasOwn", "(III)Z"⟩
abbrev mt_b206 : ByteArray := prog_14_method_35_code
abbrev mt_t206 : Option FieldType := some (.boolean)
def mt_y207 : MethodName := ⟨"PondHouseModel", "field", "(III)I"⟩
abbrev mt_b207 : ByteArray := prog_14_method_32_code
abbrev mt_t207 : Option FieldType := some (.int)
def mt_y208 : MethodName := ⟨"PondHouseModel", "fixedOf", "(III)I"⟩
abbrev mt_b208 : ByteArray := prog_14_method_33_code
abbrev mt_t208 : Option FieldType := some (.int)
def mt_y209 : MethodName := ⟨"PondHouseModel", "isAbove", "(III)Z"⟩
abbrev mt_b209 : ByteArray := prog_14_method_36_code
abbrev mt_t209 : Option FieldType := some (.boolean)
def mt_y210 : MethodName := ⟨"PondHouseModel", "block", "(Z)Z"⟩
abbrev mt_b210 : ByteArray := prog_14_method_24_code
abbrev mt_t210 : Option FieldType := some (.boolean)
def mt_y211 : MethodName := ⟨"PondHouseModel", "statement", "(Z)Z"⟩
abbrev mt_b211 : ByteArray := prog_14_method_25_code
abbrev mt_t211 : Option FieldType := some (.boolean)
def mt_y212 : MethodName := ⟨"PondHouseModel", "asks", "()Z"⟩
abbrev mt_b212 : ByteArray := prog_14_method_26_code
abbrev mt_t212 : Option FieldType := some (.boolean)
def mt_y213 : MethodName := ⟨"PondHouseModel", "opens", "()Z"⟩
abbrev mt_b213 : ByteArray := prog_14_method_19_code
abbrev mt_t213 : Option FieldType := some (.boolean)
def mt_y214 : MethodName := ⟨"PondHouseModel", "expression", "()Z"⟩
abbrev mt_b214 : ByteArray := prog_14_method_23_code
abbrev mt_t214 : Option FieldType := some (.boolean)
def mt_y215 : MethodName := ⟨"PondHouseModel", "sum", "()Z"⟩
abbrev mt_b215 : ByteArray := prog_14_method_22_code
abbrev mt_t215 : Option FieldType := some (.boolean)
def mt_y216 : MethodName := ⟨"PondHouseModel", "product", "()Z"⟩
abbrev mt_b216 : ByteArray := prog_14_method_21_code
abbrev mt_t216 : Option FieldType := some (.boolean)
def mt_y217 : MethodName := ⟨"PondHouseModel", "unit", "()Z"⟩
abbrev mt_b217 : ByteArray := prog_14_method_20_code
abbrev mt_t217 : Option FieldType := some (.boolean)
def mt_y218 : MethodName := ⟨"PondHouseModel", "node", "(IIII)I"⟩
abbrev mt_b218 : ByteArray := prog_14_method_13_code
abbrev mt_t218 : Option FieldType := some (.int)
def mt_y219 : MethodName := ⟨"PondHouseModel", "link", "(II)V"⟩
abbrev mt_b219 : ByteArray := prog_14_method_14_code
abbrev mt_t219 : Option FieldType := none
def mt_y220 : MethodName := ⟨"PondHouseModel", "addAct", "(IIII)V"⟩
abbrev mt_b220 : ByteArray := prog_14_method_42_code
abbrev mt_t220 : Option FieldType := none
def mt_y221 : MethodName := ⟨"PondHouseModel", "num", "()Z"⟩
abbrev mt_b221 : ByteArray := prog_14_method_43_code
abbrev mt_t221 : Option FieldType := some (.boolean)
def mt_y222 : MethodName := ⟨"PondHouseModel", "addFixed", "(IIII)V"⟩
abbrev mt_b222 : ByteArray := prog_14_method_41_code
abbrev mt_t222 : Option FieldType := none
def mt_y223 : MethodName := ⟨"PondHouseModel", "addField", "(IIII)V"⟩
abbrev mt_b223 : ByteArray := prog_14_method_40_code
abbrev mt_t223 : Option FieldType := none
def mt_y224 : MethodName := ⟨"PondHouseModel", "tells", "()V"⟩
abbrev mt_b224 : ByteArray := prog_14_method_47_code
abbrev mt_t224 : Option FieldType := none
def mt_y225 : MethodName := ⟨"PondHouseModel", "keep", "(I)V"⟩
abbrev mt_b225 : ByteArray := prog_14_method_48_code
abbrev mt_t225 : Option FieldType := none
def mt_y226 : MethodName := ⟨"PondHouseModel", "copy", "(II)V"⟩
abbrev mt_b226 : ByteArray := prog_14_method_30_code
abbrev mt_t226 : Option FieldType := none
def mt_y227 : MethodName := ⟨"PondHouseModel", "patch", "()I"⟩
abbrev mt_b227 : ByteArray := prog_14_method_54_code
abbrev mt_t227 : Option FieldType := some (.int)
def mt_y228 : MethodName := ⟨"PondHouseModel", "change", "()Z"⟩
abbrev mt_b228 : ByteArray := prog_14_method_53_code
abbrev mt_t228 : Option FieldType := some (.boolean)
def mt_y229 : MethodName := ⟨"PondHouseModel", "underOne", "()Z"⟩
abbrev mt_b229 : ByteArray := prog_14_method_52_code
abbrev mt_t229 : Option FieldType := some (.boolean)
def mt_y230 : MethodName := ⟨"PondHouseModel", "several", "(Z)Z"⟩
abbrev mt_b230 : ByteArray := prog_14_method_51_code
abbrev mt_t230 : Option FieldType := some (.boolean)
def mt_y231 : MethodName := ⟨"PondHouseModel", "editOf", "()Z"⟩
abbrev mt_b231 : ByteArray := prog_14_method_50_code
abbrev mt_t231 : Option FieldType := some (.boolean)
def mt_y232 : MethodName := ⟨"PondHouseModel", "fault", "(I)I"⟩
abbrev mt_b232 : ByteArray := prog_14_method_55_code
abbrev mt_t232 : Option FieldType := some (.int)
def mt_y233 : MethodName := ⟨"PondHouseModel", "feed", "(IIIII)I"⟩
abbrev mt_b233 : ByteArray := prog_14_method_56_code
abbrev mt_t233 : Option FieldType := some (.int)
def mt_y234 : MethodName := ⟨"PondHouseModel", "end", "(I)Z"⟩
abbrev mt_b234 : ByteArray := prog_14_method_57_code
abbrev mt_t234 : Option FieldType := some (.boolean)
def mt_y235 : MethodName := ⟨"PondHouseModel", "word", "()I"⟩
abbrev mt_b235 : ByteArray := prog_14_method_58_code
abbrev mt_t235 : Option FieldType := some (.int)
def mt_y236 : MethodName := ⟨"PondHouseModel", "create", "(I)I"⟩
abbrev mt_b236 : ByteArray := prog_14_method_60_code
abbrev mt_t236 : Option FieldType := some (.int)
def mt_y237 : MethodName := ⟨"PondHouseModel", "fieldAt", "(III)I"⟩
abbrev mt_b237 : ByteArray := prog_14_method_37_code
abbrev mt_t237 : Option FieldType := some (.int)
def mt_y238 : MethodName := ⟨"PondHouseModel", "kinds", "()I"⟩
abbrev mt_b238 : ByteArray := prog_14_method_61_code
abbrev mt_t238 : Option FieldType := some (.int)
def mt_y239 : MethodName := ⟨"PondHouseModel", "kind", "(II)I"⟩
abbrev mt_b239 : ByteArray := prog_14_method_62_code
abbrev mt_t239 : Option FieldType := some (.int)
def mt_y240 : MethodName := ⟨"PondHouseModel", "kindOf", "(I)I"⟩
abbrev mt_b240 : ByteArray := prog_14_method_63_code
abbrev mt_t240 : Option FieldType := some (.int)
def mt_y241 : MethodName := ⟨"PondHouseModel", "isLiving", "(I)Z"⟩
abbrev mt_b241 : ByteArray := prog_14_method_59_code
abbrev mt_t241 : Option FieldType := some (.boolean)
def mt_y242 : MethodName := ⟨"PondHouseModel", "generation", "(I)I"⟩
abbrev mt_b242 : ByteArray := prog_14_method_64_code
abbrev mt_t242 : Option FieldType := some (.int)
def mt_y243 : MethodName := ⟨"PondHouseModel", "has", "(II)Z"⟩
abbrev mt_b243 : ByteArray := prog_14_method_66_code
abbrev mt_t243 : Option FieldType := some (.boolean)
def mt_y244 : MethodName := ⟨"PondHouseModel", "isName", "(I)Z"⟩
abbrev mt_b244 : ByteArray := prog_14_method_65_code
abbrev mt_t244 : Option FieldType := some (.boolean)
def mt_y245 : MethodName := ⟨"PondHouseModel", "value", "(II)I"⟩
abbrev mt_b245 : ByteArray := prog_14_method_67_code
abbrev mt_t245 : Option FieldType := some (.int)
def mt_y246 : MethodName := ⟨"PondHouseModel", "put", "(III)Z"⟩
abbrev mt_b246 : ByteArray := prog_14_method_68_code
abbrev mt_t246 : Option FieldType := some (.boolean)
def mt_y247 : MethodName := ⟨"PondHouseModel", "fixed", "(II)I"⟩
abbrev mt_b247 : ByteArray := prog_14_method_69_code
abbrev mt_t247 : Option FieldType := some (.int)
def mt_y248 : MethodName := ⟨"PondHouseModel", "fixedAt", "(III)I"⟩
abbrev mt_b248 : ByteArray := prog_14_method_38_code
abbrev mt_t248 : Option FieldType := some (.int)
def mt_y249 : MethodName := ⟨"PondHouseModel", "sum", "(I)J"⟩
abbrev mt_b249 : ByteArray := prog_14_method_70_code
abbrev mt_t249 : Option FieldType := some (.long)
def mt_y250 : MethodName := ⟨"PondHouseModel", "act", "(III)I"⟩
abbrev mt_b250 : ByteArray := prog_14_method_86_code
abbrev mt_t250 : Option FieldType := some (.int)
def mt_y251 : MethodName := ⟨"PondHouseModel", "clear", "()V"⟩
abbrev mt_b251 : ByteArray := prog_14_method_84_code
abbrev mt_t251 : Option FieldType := none
def mt_y252 : MethodName := ⟨"PondHouseModel", "opens", "(IIII)Z"⟩
abbrev mt_b252 : ByteArray := prog_14_method_83_code
abbrev mt_t252 : Option FieldType := some (.boolean)
def mt_y253 : MethodName := ⟨"PondHouseModel", "acts", "(III)I"⟩
abbrev mt_b253 : ByteArray := prog_14_method_71_code
abbrev mt_t253 : Option FieldType := some (.int)
def mt_y254 : MethodName := ⟨"PondHouseModel", "goes", "(IIZ)I"⟩
abbrev mt_b254 : ByteArray := prog_14_method_77_code
abbrev mt_t254 : Option FieldType := some (.int)
def mt_y255 : MethodName := ⟨"PondHouseModel", "does", "(IIZ)I"⟩
abbrev mt_b255 : ByteArray := prog_14_method_78_code
abbrev mt_t255 : Option FieldType := some (.int)
def mt_y256 : MethodName := ⟨"PondHouseModel", "of", "(II)I"⟩
abbrev mt_b256 : ByteArray := prog_14_method_15_code
abbrev mt_t256 : Option FieldType := some (.int)
def mt_y257 : MethodName := ⟨"PondHouseModel", "in", "(II)I"⟩
abbrev mt_b257 : ByteArray := prog_14_method_16_code
abbrev mt_t257 : Option FieldType := some (.int)
def mt_y258 : MethodName := ⟨"PondHouseModel", "eval", "(II)Z"⟩
abbrev mt_b258 : ByteArray := prog_14_method_74_code
abbrev mt_t258 : Option FieldType := some (.boolean)
def mt_y259 : MethodName := ⟨"PondHouseModel", "single", "(II)Z"⟩
abbrev mt_b259 : ByteArray := prog_14_method_76_code
abbrev mt_t259 : Option FieldType := some (.boolean)
def mt_y260 : MethodName := ⟨"PondHouseModel", "sort", "(II)I"⟩
abbrev mt_b260 : ByteArray := prog_14_method_73_code
abbrev mt_t260 : Option FieldType := some (.int)
def mt_y261 : MethodName := ⟨"PondHouseModel", "fails", "(I)Z"⟩
abbrev mt_b261 : ByteArray := prog_14_method_72_code
abbrev mt_t261 : Option FieldType := some (.boolean)
def mt_y262 : MethodName := ⟨"PondHouseModel", "both", "(III)I"⟩
abbrev mt_b262 : ByteArray := prog_14_method_75_code
abbrev mt_t262 : Option FieldType := some (.int)
def mt_y263 : MethodName := ⟨"PondHouseModel", "sets", "(II)Z"⟩
abbrev mt_b263 : ByteArray := prog_14_method_79_code
abbrev mt_t263 : Option FieldType := some (.boolean)
def mt_y264 : MethodName := ⟨"PondHouseModel", "up", "(I)Z"⟩
abbrev mt_b264 : ByteArray := prog_14_method_81_code
abbrev mt_t264 : Option FieldType := some (.boolean)
def mt_y265 : MethodName := ⟨"PondHouseModel", "body", "(I)Z"⟩
abbrev mt_b265 : ByteArray := prog_14_method_80_code
abbrev mt_t265 : Option FieldType := some (.boolean)
def mt_y266 : MethodName := ⟨"PondHouseModel", "ran", "(I)V"⟩
abbrev mt_b266 : ByteArray := prog_14_method_89_code
abbrev mt_t266 : Option FieldType := none
def mt_y267 : MethodName := ⟨"PondHouseModel", "calls", "(II)Z"⟩
abbrev mt_b267 : ByteArray := prog_14_method_82_code
abbrev mt_t267 : Option FieldType := some (.boolean)
def mt_y268 : MethodName := ⟨"PondHouseModel", "came", "(I)I"⟩
abbrev mt_b268 : ByteArray := prog_14_method_85_code
abbrev mt_t268 : Option FieldType := some (.int)
def mt_y269 : MethodName := ⟨"PondHouseModel", "told", "(I)I"⟩
abbrev mt_b269 : ByteArray := prog_14_method_87_code
abbrev mt_t269 : Option FieldType := some (.int)
def mt_y270 : MethodName := ⟨"PondHouseModel", "wake", "(I)Z"⟩
abbrev mt_b270 : ByteArray := prog_14_method_88_code
abbrev mt_t270 : Option FieldType := some (.boolean)
def mt_y271 : MethodName := ⟨"PondHouseModel", "beat", "()I"⟩
abbrev mt_b271 : ByteArray := prog_14_method_90_code
abbrev mt_t271 : Option FieldType := some (.int)
def mt_y272 : MethodName := ⟨"PondHouseModel", "goesOn", "(I)V"⟩
abbrev mt_b272 : ByteArray := prog_14_method_94_code
abbrev mt_t272 : Option FieldType := none
def mt_y273 : MethodName := ⟨"PondHouseModel", "patches", "()V"⟩
abbrev mt_b273 : ByteArray := prog_14_method_101_code
abbrev mt_t273 : Option FieldType := none
def mt_y274 : MethodName := ⟨"PondHouseModel", "makes", "(I)Z"⟩
abbrev mt_b274 : ByteArray := prog_14_method_115_code
abbrev mt_t274 : Option FieldType := some (.boolean)
def mt_y275 : MethodName := ⟨"PondHouseModel", "changes", "(II)Z"⟩
abbrev mt_b275 : ByteArray := prog_14_method_108_code
abbrev mt_t275 : Option FieldType := some (.boolean)
def mt_y276 : MethodName := ⟨"PondHouseModel", "refuses", "(III)Z"⟩
abbrev mt_b276 : ByteArray := prog_14_method_102_code
abbrev mt_t276 : Option FieldType := some (.boolean)
def mt_y277 : MethodName := ⟨"PondHouseModel", "comes", "(III)Z"⟩
abbrev mt_b277 : ByteArray := prog_14_method_103_code
abbrev mt_t277 : Option FieldType := some (.boolean)
def mt_y278 : MethodName := ⟨"PondHouseModel", "drops", "(I)V"⟩
abbrev mt_b278 : ByteArray := prog_14_method_107_code
abbrev mt_t278 : Option FieldType := none
def mt_y279 : MethodName := ⟨"PondHouseModel", "isUnder", "(III)Z"⟩
abbrev mt_b279 : ByteArray := prog_14_method_106_code
abbrev mt_t279 : Option FieldType := some (.boolean)
def mt_y280 : MethodName := ⟨"PondHouseModel", "edit", "(III)Z"⟩
abbrev mt_b280 : ByteArray := prog_14_method_105_code
abbrev mt_t280 : Option FieldType := some (.boolean)
def mt_y281 : MethodName := ⟨"PondHouseModel", "close", "(IIIII)V"⟩
abbrev mt_b281 : ByteArray := prog_14_method_104_code
abbrev mt_t281 : Option FieldType := none
def mt_y282 : MethodName := ⟨"PondHouseModel", "isClear", "()Z"⟩
abbrev mt_b282 : ByteArray := prog_14_method_109_code
abbrev mt_t282 : Option FieldType := some (.boolean)
def mt_y283 : MethodName := ⟨"PondHouseModel", "carried", "(I)Z"⟩
abbrev mt_b283 : ByteArray := prog_14_method_116_code
abbrev mt_t283 : Option FieldType := some (.boolean)
def mt_y284 : MethodName := ⟨"PondHouseModel", "behind", "(I)I"⟩
abbrev mt_b284 : ByteArray := prog_14_method_114_code
abbrev mt_t284 : Option FieldType := some (.int)
def mt_y285 : MethodName := ⟨"PondHouseModel", "carries", "(III)Z"⟩
abbrev mt_b285 : ByteArray := prog_14_method_112_code
abbrev mt_t285 : Option FieldType := some (.boolean)
def mt_y286 : MethodName := ⟨"PondHouseModel", "ruled", "(II)V"⟩
abbrev mt_b286 : ByteArray := prog_14_method_111_code
abbrev mt_t286 : Option FieldType := none
def mt_y287 : MethodName := ⟨"PondHouseModel", "source", "(IIIII)I"⟩
abbrev mt_b287 : ByteArray := prog_14_method_110_code
abbrev mt_t287 : Option FieldType := some (.int)
def mt_y288 : MethodName := ⟨"PondHouseModel", "loses", "(II)V"⟩
abbrev mt_b288 : ByteArray := prog_14_method_113_code
abbrev mt_t288 : Option FieldType := none
def mt_y289 : MethodName := ⟨"PondHouseModel", "checked", "(I)Z"⟩
abbrev mt_b289 : ByteArray := prog_14_method_117_code
abbrev mt_t289 : Option FieldType := some (.boolean)
def mt_y290 : MethodName := ⟨"PondHouseModel", "ends", "(I)V"⟩
abbrev mt_b290 : ByteArray := prog_14_method_97_code
abbrev mt_t290 : Option FieldType := none
def mt_y291 : MethodName := ⟨"PondHouseModel", "outcome", "(I)I"⟩
abbrev mt_b291 : ByteArray := prog_14_method_91_code
abbrev mt_t291 : Option FieldType := some (.int)
def mt_y292 : MethodName := ⟨"PondHouseModel", "ran", "(II)I"⟩
abbrev mt_b292 : ByteArray := prog_14_method_92_code
abbrev mt_t292 : Option FieldType := some (.int)
def mt_y293 : MethodName := ⟨"PondHouseModel", "begin", "(III)I"⟩
abbrev mt_b293 : ByteArray := prog_14_method_93_code
abbrev mt_t293 : Option FieldType := some (.int)
def mt_y294 : MethodName := ⟨"PondHouseModel", "under", "(II)I"⟩
abbrev mt_b294 : ByteArray := prog_14_method_95_code
abbrev mt_t294 : Option FieldType := some (.int)
def mt_y295 : MethodName := ⟨"PondHouseModel", "forbid", "(IZ)Z"⟩
abbrev mt_b295 : ByteArray := prog_14_method_96_code
abbrev mt_t295 : Option FieldType := some (.boolean)
def mt_y296 : MethodName := ⟨"PondHouseModel", "apply", "(I)Z"⟩
abbrev mt_b296 : ByteArray := prog_14_method_98_code
abbrev mt_t296 : Option FieldType := some (.boolean)
def mt_y297 : MethodName := ⟨"PondHouseModel", "applied", "(I)I"⟩
abbrev mt_b297 : ByteArray := prog_14_method_99_code
abbrev mt_t297 : Option FieldType := some (.int)
def mt_y298 : MethodName := ⟨"PondHouseModel", "refusal", "(I)I"⟩
abbrev mt_b298 : ByteArray := prog_14_method_100_code
abbrev mt_t298 : Option FieldType := some (.int)
def mt_y299 : MethodName := ⟨"PondHouseModel", "back", "()Z"⟩
abbrev mt_b299 : ByteArray := prog_14_method_118_code
abbrev mt_t299 : Option FieldType := some (.boolean)
def mt_y300 : MethodName := ⟨"PondHouseModel", "returns", "(III)V"⟩
abbrev mt_b300 : ByteArray := prog_14_method_119_code
abbrev mt_t300 : Option FieldType := none
def mt_Ms : List (List (MethodName × ByteArray × Option FieldType)) := [[(mt_y0, mt_b0, mt_t0), (mt_y1, mt_b1, mt_t1), (mt_y2, mt_b2, mt_t2), (mt_y3, mt_b3, mt_t3), (mt_y4, mt_b4, mt_t4), (mt_y5, mt_b5, mt_t5), (mt_y6, mt_b6, mt_t6), (mt_y7, mt_b7, mt_t7), (mt_y8, mt_b8, mt_t8), (mt_y9, mt_b9, mt_t9), (mt_y10, mt_b10, mt_t10), (mt_y11, mt_b11, mt_t11), (mt_y12, mt_b12, mt_t12), (mt_y13, mt_b13, mt_t13), (mt_y14, mt_b14, mt_t14), (mt_y15, mt_b15, mt_t15)],
  [(mt_y16, mt_b16, mt_t16), (mt_y17, mt_b17, mt_t17), (mt_y18, mt_b18, mt_t18), (mt_y19, mt_b19, mt_t19), (mt_y20, mt_b20, mt_t20), (mt_y21, mt_b21, mt_t21), (mt_y22, mt_b22, mt_t22), (mt_y23, mt_b23, mt_t23), (mt_y24, mt_b24, mt_t24), (mt_y25, mt_b25, mt_t25), (mt_y26, mt_b26, mt_t26), (mt_y27, mt_b27, mt_t27), (mt_y28, mt_b28, mt_t28), (mt_y29, mt_b29, mt_t29), (mt_y30, mt_b30, mt_t30), (mt_y31, mt_b31, mt_t31)],
  [(mt_y32, mt_b32, mt_t32), (mt_y33, mt_b33, mt_t33), (mt_y34, mt_b34, mt_t34), (mt_y35, mt_b35, mt_t35), (mt_y36, mt_b36, mt_t36), (mt_y37, mt_b37, mt_t37), (mt_y38, mt_b38, mt_t38), (mt_y39, mt_b39, mt_t39), (mt_y40, mt_b40, mt_t40), (mt_y41, mt_b41, mt_t41), (mt_y42, mt_b42, mt_t42), (mt_y43, mt_b43, mt_t43), (mt_y44, mt_b44, mt_t44), (mt_y45, mt_b45, mt_t45), (mt_y46, mt_b46, mt_t46), (mt_y47, mt_b47, mt_t47)],
  [(mt_y48, mt_b48, mt_t48), (mt_y49, mt_b49, mt_t49), (mt_y50, mt_b50, mt_t50), (mt_y51, mt_b51, mt_t51), (mt_y52, mt_b52, mt_t52), (mt_y53, mt_b53, mt_t53), (mt_y54, mt_b54, mt_t54), (mt_y55, mt_b55, mt_t55), (mt_y56, mt_b56, mt_t56), (mt_y57, mt_b57, mt_t57), (mt_y58, mt_b58, mt_t58), (mt_y59, mt_b59, mt_t59), (mt_y60, mt_b60, mt_t60), (mt_y61, mt_b61, mt_t61), (mt_y62, mt_b62, mt_t62), (mt_y63, mt_b63, mt_t63)],
  [(mt_y64, mt_b64, mt_t64), (mt_y65, mt_b65, mt_t65), (mt_y66, mt_b66, mt_t66), (mt_y67, mt_b67, mt_t67), (mt_y68, mt_b68, mt_t68), (mt_y69, mt_b69, mt_t69), (mt_y70, mt_b70, mt_t70), (mt_y71, mt_b71, mt_t71), (mt_y72, mt_b72, mt_t72), (mt_y73, mt_b73, mt_t73), (mt_y74, mt_b74, mt_t74), (mt_y75, mt_b75, mt_t75), (mt_y76, mt_b76, mt_t76), (mt_y77, mt_b77, mt_t77), (mt_y78, mt_b78, mt_t78), (mt_y79, mt_b79, mt_t79)],
  [(mt_y80, mt_b80, mt_t80), (mt_y81, mt_b81, mt_t81), (mt_y82, mt_b82, mt_t82), (mt_y83, mt_b83, mt_t83), (mt_y84, mt_b84, mt_t84), (mt_y85, mt_b85, mt_t85), (mt_y86, mt_b86, mt_t86), (mt_y87, mt_b87, mt_t87), (mt_y88, mt_b88, mt_t88), (mt_y89, mt_b89, mt_t89), (mt_y90, mt_b90, mt_t90), (mt_y91, mt_b91, mt_t91), (mt_y92, mt_b92, mt_t92), (mt_y93, mt_b93, mt_t93), (mt_y94, mt_b94, mt_t94), (mt_y95, mt_b95, mt_t95)],
  [(mt_y96, mt_b96, mt_t96), (mt_y97, mt_b97, mt_t97), (mt_y98, mt_b98, mt_t98), (mt_y99, mt_b99, mt_t99), (mt_y100, mt_b100, mt_t100), (mt_y101, mt_b101, mt_t101), (mt_y102, mt_b102, mt_t102), (mt_y103, mt_b103, mt_t103), (mt_y104, mt_b104, mt_t104), (mt_y105, mt_b105, mt_t105), (mt_y106, mt_b106, mt_t106), (mt_y107, mt_b107, mt_t107), (mt_y108, mt_b108, mt_t108), (mt_y109, mt_b109, mt_t109), (mt_y110, mt_b110, mt_t110), (mt_y111, mt_b111, mt_t111)],
  [(mt_y112, mt_b112, mt_t112), (mt_y113, mt_b113, mt_t113), (mt_y114, mt_b114, mt_t114), (mt_y115, mt_b115, mt_t115), (mt_y116, mt_b116, mt_t116), (mt_y117, mt_b117, mt_t117), (mt_y118, mt_b118, mt_t118), (mt_y119, mt_b119, mt_t119), (mt_y120, mt_b120, mt_t120), (mt_y121, mt_b121, mt_t121), (mt_y122, mt_b122, mt_t122), (mt_y123, mt_b123, mt_t123), (mt_y124, mt_b124, mt_t124), (mt_y125, mt_b125, mt_t125), (mt_y126, mt_b126, mt_t126), (mt_y127, mt_b127, mt_t127)],
  [(mt_y128, mt_b128, mt_t128), (mt_y129, mt_b129, mt_t129), (mt_y130, mt_b130, mt_t130), (mt_y131, mt_b131, mt_t131), (mt_y132, mt_b132, mt_t132), (mt_y133, mt_b133, mt_t133), (mt_y134, mt_b134, mt_t134), (mt_y135, mt_b135, mt_t135), (mt_y136, mt_b136, mt_t136), (mt_y137, mt_b137, mt_t137), (mt_y138, mt_b138, mt_t138), (mt_y139, mt_b139, mt_t139), (mt_y140, mt_b140, mt_t140), (mt_y141, mt_b141, mt_t141), (mt_y142, mt_b142, mt_t142), (mt_y143, mt_b143, mt_t143)],
  [(mt_y144, mt_b144, mt_t144), (mt_y145, mt_b145, mt_t145), (mt_y146, mt_b146, mt_t146), (mt_y147, mt_b147, mt_t147), (mt_y148, mt_b148, mt_t148), (mt_y149, mt_b149, mt_t149), (mt_y150, mt_b150, mt_t150), (mt_y151, mt_b151, mt_t151), (mt_y152, mt_b152, mt_t152), (mt_y153, mt_b153, mt_t153), (mt_y154, mt_b154, mt_t154), (mt_y155, mt_b155, mt_t155), (mt_y156, mt_b156, mt_t156), (mt_y157, mt_b157, mt_t157), (mt_y158, mt_b158, mt_t158), (mt_y159, mt_b159, mt_t159)],
  [(mt_y160, mt_b160, mt_t160), (mt_y161, mt_b161, mt_t161), (mt_y162, mt_b162, mt_t162), (mt_y163, mt_b163, mt_t163), (mt_y164, mt_b164, mt_t164), (mt_y165, mt_b165, mt_t165), (mt_y166, mt_b166, mt_t166), (mt_y167, mt_b167, mt_t167), (mt_y168, mt_b168, mt_t168), (mt_y169, mt_b169, mt_t169), (mt_y170, mt_b170, mt_t170), (mt_y171, mt_b171, mt_t171), (mt_y172, mt_b172, mt_t172), (mt_y173, mt_b173, mt_t173), (mt_y174, mt_b174, mt_t174), (mt_y175, mt_b175, mt_t175)],
  [(mt_y176, mt_b176, mt_t176), (mt_y177, mt_b177, mt_t177), (mt_y178, mt_b178, mt_t178), (mt_y179, mt_b179, mt_t179), (mt_y180, mt_b180, mt_t180), (mt_y181, mt_b181, mt_t181), (mt_y182, mt_b182, mt_t182), (mt_y183, mt_b183, mt_t183), (mt_y184, mt_b184, mt_t184), (mt_y185, mt_b185, mt_t185), (mt_y186, mt_b186, mt_t186), (mt_y187, mt_b187, mt_t187), (mt_y188, mt_b188, mt_t188), (mt_y189, mt_b189, mt_t189), (mt_y190, mt_b190, mt_t190), (mt_y191, mt_b191, mt_t191)],
  [(mt_y192, mt_b192, mt_t192), (mt_y193, mt_b193, mt_t193), (mt_y194, mt_b194, mt_t194), (mt_y195, mt_b195, mt_t195), (mt_y196, mt_b196, mt_t196), (mt_y197, mt_b197, mt_t197), (mt_y198, mt_b198, mt_t198), (mt_y199, mt_b199, mt_t199), (mt_y200, mt_b200, mt_t200), (mt_y201, mt_b201, mt_t201), (mt_y202, mt_b202, mt_t202), (mt_y203, mt_b203, mt_t203), (mt_y204, mt_b204, mt_t204), (mt_y205, mt_b205, mt_t205), (mt_y206, mt_b206, mt_t206), (mt_y207, mt_b207, mt_t207)],
  [(mt_y208, mt_b208, mt_t208), (mt_y209, mt_b209, mt_t209), (mt_y210, mt_b210, mt_t210), (mt_y211, mt_b211, mt_t211), (mt_y212, mt_b212, mt_t212), (mt_y213, mt_b213, mt_t213), (mt_y214, mt_b214, mt_t214), (mt_y215, mt_b215, mt_t215), (mt_y216, mt_b216, mt_t216), (mt_y217, mt_b217, mt_t217), (mt_y218, mt_b218, mt_t218), (mt_y219, mt_b219, mt_t219), (mt_y220, mt_b220, mt_t220), (mt_y221, mt_b221, mt_t221), (mt_y222, mt_b222, mt_t222), (mt_y223, mt_b223, mt_t223)],
  [(mt_y224, mt_b224, mt_t224), (mt_y225, mt_b225, mt_t225), (mt_y226, mt_b226, mt_t226), (mt_y227, mt_b227, mt_t227), (mt_y228, mt_b228, mt_t228), (mt_y229, mt_b229, mt_t229), (mt_y230, mt_b230, mt_t230), (mt_y231, mt_b231, mt_t231), (mt_y232, mt_b232, mt_t232), (mt_y233, mt_b233, mt_t233), (mt_y234, mt_b234, mt_t234), (mt_y235, mt_b235, mt_t235), (mt_y236, mt_b236, mt_t236), (mt_y237, mt_b237, mt_t237), (mt_y238, mt_b238, mt_t238), (mt_y239, mt_b239, mt_t239)],
  [(mt_y240, mt_b240, mt_t240), (mt_y241, mt_b241, mt_t241), (mt_y242, mt_b242, mt_t242), (mt_y243, mt_b243, mt_t243), (mt_y244, mt_b244, mt_t244), (mt_y245, mt_b245, mt_t245), (mt_y246, mt_b246, mt_t246), (mt_y247, mt_b247, mt_t247), (mt_y248, mt_b248, mt_t248), (mt_y249, mt_b249, mt_t249), (mt_y250, mt_b250, mt_t250), (mt_y251, mt_b251, mt_t251), (mt_y252, mt_b252, mt_t252), (mt_y253, mt_b253, mt_t253), (mt_y254, mt_b254, mt_t254), (mt_y255, mt_b255, mt_t255)],
  [(mt_y256, mt_b256, mt_t256), (mt_y257, mt_b257, mt_t257), (mt_y258, mt_b258, mt_t258), (mt_y259, mt_b259, mt_t259), (mt_y260, mt_b260, mt_t260), (mt_y261, mt_b261, mt_t261), (mt_y262, mt_b262, mt_t262), (mt_y263, mt_b263, mt_t263), (mt_y264, mt_b264, mt_t264), (mt_y265, mt_b265, mt_t265), (mt_y266, mt_b266, mt_t266), (mt_y267, mt_b267, mt_t267), (mt_y268, mt_b268, mt_t268), (mt_y269, mt_b269, mt_t269), (mt_y270, mt_b270, mt_t270), (mt_y271, mt_b271, mt_t271)],
  [(mt_y272, mt_b272, mt_t272), (mt_y273, mt_b273, mt_t273), (mt_y274, mt_b274, mt_t274), (mt_y275, mt_b275, mt_t275), (mt_y276, mt_b276, mt_t276), (mt_y277, mt_b277, mt_t277), (mt_y278, mt_b278, mt_t278), (mt_y279, mt_b279, mt_t279), (mt_y280, mt_b280, mt_t280), (mt_y281, mt_b281, mt_t281), (mt_y282, mt_b282, mt_t282), (mt_y283, mt_b283, mt_t283), (mt_y284, mt_b284, mt_t284), (mt_y285, mt_b285, mt_t285), (mt_y286, mt_b286, mt_t286), (mt_y287, mt_b287, mt_t287)],
  [(mt_y288, mt_b288, mt_t288), (mt_y289, mt_b289, mt_t289), (mt_y290, mt_b290, mt_t290), (mt_y291, mt_b291, mt_t291), (mt_y292, mt_b292, mt_t292), (mt_y293, mt_b293, mt_t293), (mt_y294, mt_b294, mt_t294), (mt_y295, mt_b295, mt_t295), (mt_y296, mt_b296, mt_t296), (mt_y297, mt_b297, mt_t297), (mt_y298, mt_b298, mt_t298), (mt_y299, mt_b299, mt_t299), (mt_y300, mt_b300, mt_t300)]]
def mt_Mt : mmM := fun k => (mt_Ms.getD (k / 16) [])[k % 16]?
def mt_X : mmX := ([("PondHouse$Tokens", 27, mt_tx0, 1), ("PondHouse$Tokens", 75, mt_tx1, 3)], [("[Ljava/lang/Object;", 6)], [("java/lang/String", "COMPACT_STRINGS", "Z", 0, 1), ("java/util/ArrayList", "DEFAULTCAPACITY_EMPTY_ELEMENTDATA", "[Ljava/lang/Object;", 1, 5), ("jdk/internal/util/Preconditions", "SIOOBE_FORMATTER", "Ljava/util/function/BiFunction;", 2, 0)], mt_ocl)
/-! the words by their places -/
def mt_Ts : List Cond := lw_tbl.filter mm_good
theorem mt_in1 {i : Nat} {w : Cond} (h : tables_1_1[i]? = some w) (hg : mm_good w = true := by rfl) : w ∈ mt_Ts := List.mem_filter.mpr ⟨List.mem_append_right _ (List.mem_append_left _ (List.mem_of_getElem? h)), hg⟩
theorem mt_il1 {i : Nat} {w : Cond} (h : tables_1_1[i]? = some w) : w ∈ lw_tbl := List.mem_append_right _ (List.mem_append_left _ (List.mem_of_getElem? h))
theorem mt_in2 {i : Nat} {w : Cond} (h : tables_1_2[i]? = some w) (hg : mm_good w = true := by rfl) : w ∈ mt_Ts := List.mem_filter.mpr ⟨List.mem_append_right _ (List.mem_append_right _ (List.mem_append_left _ (List.mem_of_getElem? h))), hg⟩
theorem mt_il2 {i : Nat} {w : Cond} (h : tables_1_2[i]? = some w) : w ∈ lw_tbl := List.mem_append_right _ (List.mem_append_right _ (List.mem_append_left _ (List.mem_of_getElem? h)))
theorem mt_in3 {i : Nat} {w : Cond} (h : tables_1_3[i]? = some w) (hg : mm_good w = true := by rfl) : w ∈ mt_Ts := List.mem_filter.mpr ⟨List.mem_append_right _ (List.mem_append_right _ (List.mem_append_right _ (List.mem_append_left _ (List.mem_of_getElem? h)))), hg⟩
theorem mt_il3 {i : Nat} {w : Cond} (h : tables_1_3[i]? = some w) : w ∈ lw_tbl := List.mem_append_right _ (List.mem_append_right _ (List.mem_append_right _ (List.mem_append_left _ (List.mem_of_getElem? h))))
theorem mt_in4 {i : Nat} {w : Cond} (h : tables_1_4[i]? = some w) (hg : mm_good w = true := by rfl) : w ∈ mt_Ts := List.mem_filter.mpr ⟨List.mem_append_right _ (List.mem_append_right _ (List.mem_append_right _ (List.mem_append_right _ (List.mem_append_left _ (List.mem_of_getElem? h))))), hg⟩
theorem mt_il4 {i : Nat} {w : Cond} (h : tables_1_4[i]? = some w) : w ∈ lw_tbl := List.mem_append_right _ (List.mem_append_right _ (List.mem_append_right _ (List.mem_append_right _ (List.mem_append_left _ (List.mem_of_getElem? h)))))
theorem mt_in5 {i : Nat} {w : Cond} (h : tables_1_5[i]? = some w) (hg : mm_good w = true := by rfl) : w ∈ mt_Ts := List.mem_filter.mpr ⟨List.mem_append_right _ (List.mem_append_right _ (List.mem_append_right _ (List.mem_append_right _ (List.mem_append_right _ (List.mem_append_left _ (List.mem_of_getElem? h)))))), hg⟩
theorem mt_il5 {i : Nat} {w : Cond} (h : tables_1_5[i]? = some w) : w ∈ lw_tbl := List.mem_append_right _ (List.mem_append_right _ (List.mem_append_right _ (List.mem_append_right _ (List.mem_append_right _ (List.mem_append_left _ (List.mem_of_getElem? h))))))
theorem mt_in6 {i : Nat} {w : Cond} (h : tables_1_6[i]? = some w) (hg : mm_good w = true := by rfl) : w ∈ mt_Ts := List.mem_filter.mpr ⟨List.mem_append_right _ (List.mem_append_right _ (List.mem_append_right _ (List.mem_append_right _ (List.mem_append_right _ (List.mem_append_right _ (List.mem_append_left _ (List.mem_of_getElem? h))))))), hg⟩
theorem mt_il6 {i : Nat} {w : Cond} (h : tables_1_6[i]? = some w) : w ∈ lw_tbl := List.mem_append_right _ (List.mem_append_right _ (List.mem_append_right _ (List.mem_append_right _ (List.mem_append_right _ (List.mem_append_right _ (List.mem_append_left _ (List.mem_of_getElem? h)))))))
theorem mt_in7 {i : Nat} {w : Cond} (h : tables_1_7[i]? = some w) (hg : mm_good w = true := by rfl) : w ∈ mt_Ts := List.mem_filter.mpr ⟨List.mem_append_right _ (List.mem_append_right _ (List.mem_append_right _ (List.mem_append_right _ (List.mem_append_right _ (List.mem_append_right _ (List.mem_append_right _ (List.mem_append_left _ (List.mem_of_getElem? h)))))))), hg⟩
theorem mt_il7 {i : Nat} {w : Cond} (h : tables_1_7[i]? = some w) : w ∈ lw_tbl := List.mem_append_right _ (List.mem_append_right _ (List.mem_append_right _ (List.mem_append_right _ (List.mem_append_right _ (List.mem_append_right _ (List.mem_append_right _ (List.mem_append_left _ (List.mem_of_getElem? h))))))))
theorem mt_in8 {i : Nat} {w : Cond} (h : tables_1_8[i]? = some w) (hg : mm_good w = true := by rfl) : w ∈ mt_Ts := List.mem_filter.mpr ⟨List.mem_append_right _ (List.mem_append_right _ (List.mem_append_right _ (List.mem_append_right _ (List.mem_append_right _ (List.mem_append_right _ (List.mem_append_right _ (List.mem_append_right _ (List.mem_append_left _ (List.mem_of_getElem? h))))))))), hg⟩
theorem mt_il8 {i : Nat} {w : Cond} (h : tables_1_8[i]? = some w) : w ∈ lw_tbl := List.mem_append_right _ (List.mem_append_right _ (List.mem_append_right _ (List.mem_append_right _ (List.mem_append_right _ (List.mem_append_right _ (List.mem_append_right _ (List.mem_append_right _ (List.mem_append_left _ (List.mem_of_getElem? h)))))))))
theorem mt_in9 {i : Nat} {w : Cond} (h : tables_1_9[i]? = some w) (hg : mm_good w = true := by rfl) : w ∈ mt_Ts := List.mem_filter.mpr ⟨List.mem_append_right _ (List.mem_append_right _ (List.mem_append_right _ (List.mem_append_right _ (List.mem_append_right _ (List.mem_append_right _ (List.mem_append_right _ (List.mem_append_right _ (List.mem_append_right _ (List.mem_append_left _ (List.mem_of_getElem? h)))))))))), hg⟩
theorem mt_il9 {i : Nat} {w : Cond} (h : tables_1_9[i]? = some w) : w ∈ lw_tbl := List.mem_append_right _ (List.mem_append_right _ (List.mem_append_right _ (List.mem_append_right _ (List.mem_append_right _ (List.mem_append_right _ (List.mem_append_right _ (List.mem_append_right _ (List.mem_append_right _ (List.mem_append_left _ (List.mem_of_getElem? h))))))))))
theorem mt_in10 {i : Nat} {w : Cond} (h : tables_1_10[i]? = some w) (hg : mm_good w = true := by rfl) : w ∈ mt_Ts := List.mem_filter.mpr ⟨List.mem_append_right _ (List.mem_append_right _ (List.mem_append_right _ (List.mem_append_right _ (List.mem_append_right _ (List.mem_append_right _ (List.mem_append_right _ (List.mem_append_right _ (List.mem_append_right _ (List.mem_append_right _ (List.mem_of_getElem? h)))))))))), hg⟩
theorem mt_il10 {i : Nat} {w : Cond} (h : tables_1_10[i]? = some w) : w ∈ lw_tbl := List.mem_append_right _ (List.mem_append_right _ (List.mem_append_right _ (List.mem_append_right _ (List.mem_append_right _ (List.mem_append_right _ (List.mem_append_right _ (List.mem_append_right _ (List.mem_append_right _ (List.mem_append_right _ (List.mem_of_getElem? h))))))))))
theorem mt_inP1 {i : Nat} {q : MethodName × Nat} (h : lw_privs_1[i]? = some q) : Cond.selects q.1.cls q.1 q.1 ∈ mt_Ts := List.mem_filter.mpr ⟨List.mem_append_left _ (List.mem_map.mpr ⟨q, List.mem_append_left _ (List.mem_of_getElem? h), rfl⟩), rfl⟩
theorem mt_inP2 {i : Nat} {q : MethodName × Nat} (h : lw_privs_2[i]? = some q) : Cond.selects q.1.cls q.1 q.1 ∈ mt_Ts := List.mem_filter.mpr ⟨List.mem_append_left _ (List.mem_map.mpr ⟨q, List.mem_append_right _ (List.mem_append_left _ (List.mem_of_getElem? h)), rfl⟩), rfl⟩
theorem mt_inP3 {i : Nat} {q : MethodName × Nat} (h : lw_privs_3[i]? = some q) : Cond.selects q.1.cls q.1 q.1 ∈ mt_Ts := List.mem_filter.mpr ⟨List.mem_append_left _ (List.mem_map.mpr ⟨q, List.mem_append_right _ (List.mem_append_right _ (List.mem_append_left _ (List.mem_of_getElem? h))), rfl⟩), rfl⟩
theorem mt_inP4 {i : Nat} {q : MethodName × Nat} (h : lw_privs_4[i]? = some q) : Cond.selects q.1.cls q.1 q.1 ∈ mt_Ts := List.mem_filter.mpr ⟨List.mem_append_left _ (List.mem_map.mpr ⟨q, List.mem_append_right _ (List.mem_append_right _ (List.mem_append_right _ (List.mem_append_left _ (List.mem_of_getElem? h)))), rfl⟩), rfl⟩
theorem mt_inP5 {i : Nat} {q : MethodName × Nat} (h : lw_privs_5[i]? = some q) : Cond.selects q.1.cls q.1 q.1 ∈ mt_Ts := List.mem_filter.mpr ⟨List.mem_append_left _ (List.mem_map.mpr ⟨q, List.mem_append_right _ (List.mem_append_right _ (List.mem_append_right _ (List.mem_append_right _ (List.mem_append_left _ (List.mem_of_getElem? h))))), rfl⟩), rfl⟩
theorem mt_inP6 {i : Nat} {q : MethodName × Nat} (h : lw_privs_6[i]? = some q) : Cond.selects q.1.cls q.1 q.1 ∈ mt_Ts := List.mem_filter.mpr ⟨List.mem_append_left _ (List.mem_map.mpr ⟨q, List.mem_append_right _ (List.mem_append_right _ (List.mem_append_right _ (List.mem_append_right _ (List.mem_append_right _ (List.mem_append_left _ (List.mem_of_getElem? h)))))), rfl⟩), rfl⟩
theorem mt_inP7 {i : Nat} {q : MethodName × Nat} (h : lw_privs_7[i]? = some q) : Cond.selects q.1.cls q.1 q.1 ∈ mt_Ts := List.mem_filter.mpr ⟨List.mem_append_left _ (List.mem_map.mpr ⟨q, List.mem_append_right _ (List.mem_append_right _ (List.mem_append_right _ (List.mem_append_right _ (List.mem_append_right _ (List.mem_append_right _ (List.mem_append_left _ (List.mem_of_getElem? h))))))), rfl⟩), rfl⟩
theorem mt_inP8 {i : Nat} {q : MethodName × Nat} (h : lw_privs_8[i]? = some q) : Cond.selects q.1.cls q.1 q.1 ∈ mt_Ts := List.mem_filter.mpr ⟨List.mem_append_left _ (List.mem_map.mpr ⟨q, List.mem_append_right _ (List.mem_append_right _ (List.mem_append_right _ (List.mem_append_right _ (List.mem_append_right _ (List.mem_append_right _ (List.mem_append_right _ (List.mem_append_left _ (List.mem_of_getElem? h)))))))), rfl⟩), rfl⟩
theorem mt_inP9 {i : Nat} {q : MethodName × Nat} (h : lw_privs_9[i]? = some q) : Cond.selects q.1.cls q.1 q.1 ∈ mt_Ts := List.mem_filter.mpr ⟨List.mem_append_left _ (List.mem_map.mpr ⟨q, List.mem_append_right _ (List.mem_append_right _ (List.mem_append_right _ (List.mem_append_right _ (List.mem_append_right _ (List.mem_append_right _ (List.mem_append_right _ (List.mem_append_right _ (List.mem_append_left _ (List.mem_of_getElem? h))))))))), rfl⟩), rfl⟩
theorem mt_inP10 {i : Nat} {q : MethodName × Nat} (h : lw_privs_10[i]? = some q) : Cond.selects q.1.cls q.1 q.1 ∈ mt_Ts := List.mem_filter.mpr ⟨List.mem_append_left _ (List.mem_map.mpr ⟨q, List.mem_append_right _ (List.mem_append_right _ (List.mem_append_right _ (List.mem_append_right _ (List.mem_append_right _ (List.mem_append_right _ (List.mem_append_right _ (List.mem_append_right _ (List.mem_append_right _ (List.mem_append_left _ (List.mem_of_getElem? h)))))))))), rfl⟩), rfl⟩
theorem mt_inP11 {i : Nat} {q : MethodName × Nat} (h : lw_privs_11[i]? = some q) : Cond.selects q.1.cls q.1 q.1 ∈ mt_Ts := List.mem_filter.mpr ⟨List.mem_append_left _ (List.mem_map.mpr ⟨q, List.mem_append_right _ (List.mem_append_right _ (List.mem_append_right _ (List.mem_append_right _ (List.mem_append_right _ (List.mem_append_right _ (List.mem_append_right _ (List.mem_append_right _ (List.mem_append_right _ (List.mem_append_right _ (List.mem_append_left _ (List.mem_of_getElem? h))))))))))), rfl⟩), rfl⟩
theorem mt_inP12 {i : Nat} {q : MethodName × Nat} (h : lw_privs_12[i]? = some q) : Cond.selects q.1.cls q.1 q.1 ∈ mt_Ts := List.mem_filter.mpr ⟨List.mem_append_left _ (List.mem_map.mpr ⟨q, List.mem_append_right _ (List.mem_append_right _ (List.mem_append_right _ (List.mem_append_right _ (List.mem_append_right _ (List.mem_append_right _ (List.mem_append_right _ (List.mem_append_right _ (List.mem_append_right _ (List.mem_append_right _ (List.mem_append_right _ (List.mem_of_getElem? h))))))))))), rfl⟩), rfl⟩
