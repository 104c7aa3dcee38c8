/-! ===== the classes, their fields, the names of the methods; links as numbers ===== -/
def lw_g : List Cond := lw_tbl.filter goodWord
def jx_T0 : u_T := fun k => match k with
  | 0 => ("OfDifferentMinds$Atlas", "land", "LOfDifferentMinds$Land;", true)
  | 1 => ("OfDifferentMinds$Atlas", "ride", "LOfDifferentMinds$Ride;", true)
  | 2 => ("OfDifferentMinds$Atlas", "ends", "[I", true)
  | _ => ("OfDifferentMinds$Atlas", "far", "[I", true)
def jx_T1 : u_T := fun k => match k with
  | _ => ("java/util/NoSuchElementException", "", "I", false)
def jx_T2 : u_T := fun k => match k with
  | 0 => ("OfDifferentMinds$History", "past", "[LOfDifferentMinds$Standing;", true)
  | 1 => ("OfDifferentMinds$History", "kept", "[LOfDifferentMinds$Standing;", true)
  | 2 => ("OfDifferentMinds$History", "next", "I", false)
  | 3 => ("OfDifferentMinds$History", "size", "I", false)
  | _ => ("OfDifferentMinds$History", "keptOnes", "I", false)
def jx_T3 : u_T := fun k => match k with
  | 0 => ("OfDifferentMinds$Land", "ways", "[I", true)
  | 1 => ("OfDifferentMinds$Land", "leads", "[I", true)
  | 2 => ("OfDifferentMinds$Land", "minds", "[I", true)
  | 3 => ("OfDifferentMinds$Land", "places", "I", false)
  | 4 => ("OfDifferentMinds$Land", "inns", "I", false)
  | _ => ("OfDifferentMinds$Land", "riders", "I", false)
def jx_T4 : u_T := fun k => match k with
  | 0 => ("OfDifferentMinds$Matching", "steps", "[I", true)
  | 1 => ("OfDifferentMinds$Matching", "with", "[I", true)
  | 2 => ("OfDifferentMinds$Matching", "bestWith", "[I", true)
  | _ => ("OfDifferentMinds$Matching", "most", "I", false)
def jx_T5 : u_T := fun k => match k with
  | 0 => ("OfDifferentMinds$Ride", "land", "LOfDifferentMinds$Land;", true)
  | 1 => ("OfDifferentMinds$Ride", "rule", "LOfDifferentMinds$Rule;", true)
  | 2 => ("OfDifferentMinds$Ride", "now", "LOfDifferentMinds$Standing;", true)
  | 3 => ("OfDifferentMinds$Ride", "who", "[I", true)
  | 4 => ("OfDifferentMinds$Ride", "left", "[I", true)
  | 5 => ("OfDifferentMinds$Ride", "by", "[I", true)
  | 6 => ("OfDifferentMinds$Ride", "own", "[I", true)
  | 7 => ("OfDifferentMinds$Ride", "map", "[I", true)
  | 8 => ("OfDifferentMinds$Ride", "place", "I", false)
  | 9 => ("OfDifferentMinds$Ride", "begun", "I", false)
  | 10 => ("OfDifferentMinds$Ride", "taken", "I", false)
  | 11 => ("OfDifferentMinds$Ride", "latest", "I", false)
  | _ => ("OfDifferentMinds$Ride", "stopped", "Z", false)
def jx_T6 : u_T := fun k => match k with
  | 0 => ("OfDifferentMinds$Row", "numbers", "[I", true)
  | _ => ("OfDifferentMinds$Row", "size", "I", false)
def jx_T7 : u_T := fun k => match k with
  | 0 => ("OfDifferentMinds$Rule", "code", "[I", true)
  | 1 => ("OfDifferentMinds$Rule", "draft", "[I", true)
  | 2 => ("OfDifferentMinds$Rule", "stack", "[I", true)
  | 3 => ("OfDifferentMinds$Rule", "things", "[I", true)
  | 4 => ("OfDifferentMinds$Rule", "length", "I", false)
  | _ => ("OfDifferentMinds$Rule", "drafted", "I", false)
def jx_T8 : u_T := fun k => match k with
  | _ => ("OfDifferentMinds$Standing", "numbers", "[I", true)
def jx_T9 : u_T := fun k => match k with
  | 0 => ("OfDifferentMinds$Text", "signs", "[I", true)
  | 1 => ("OfDifferentMinds$Text", "length", "I", false)
  | 2 => ("OfDifferentMinds$Text", "most", "I", false)
  | _ => ("OfDifferentMinds$Text", "next", "I", false)
def jx_T10 : u_T := fun k => match k with
  | 0 => ("OfDifferentMinds", "text", "LOfDifferentMinds$Text;", true)
  | 1 => ("OfDifferentMinds", "land", "LOfDifferentMinds$Land;", true)
  | 2 => ("OfDifferentMinds", "rule", "LOfDifferentMinds$Rule;", true)
  | 3 => ("OfDifferentMinds", "now", "LOfDifferentMinds$Standing;", true)
  | 4 => ("OfDifferentMinds", "history", "LOfDifferentMinds$History;", true)
  | 5 => ("OfDifferentMinds", "told", "LOfDifferentMinds$Row;", true)
  | 6 => ("OfDifferentMinds", "trial", "LOfDifferentMinds$Ride;", true)
  | 7 => ("OfDifferentMinds", "atlas", "LOfDifferentMinds$Atlas;", true)
  | 8 => ("OfDifferentMinds", "matching", "LOfDifferentMinds$Matching;", true)
  | 9 => ("OfDifferentMinds", "print", "[I", true)
  | 10 => ("OfDifferentMinds", "ridden", "[I", true)
  | 11 => ("OfDifferentMinds", "visits", "[I", true)
  | 12 => ("OfDifferentMinds", "printed", "I", false)
  | _ => ("OfDifferentMinds", "drawn", "I", false)
def jx_T11 : u_T := fun k => match k with
  | 0 => ("OfDifferentMindsModel", "now", "[I", true)
  | 1 => ("OfDifferentMindsModel", "places", "I", false)
  | 2 => ("OfDifferentMindsModel", "ways", "[I", true)
  | 3 => ("OfDifferentMindsModel", "leads", "[I", true)
  | 4 => ("OfDifferentMindsModel", "inns", "I", false)
  | 5 => ("OfDifferentMindsModel", "riders", "I", false)
  | 6 => ("OfDifferentMindsModel", "minds", "[I", true)
  | 7 => ("OfDifferentMindsModel", "digits", "[I", true)
  | 8 => ("OfDifferentMindsModel", "text", "[B", true)
  | 9 => ("OfDifferentMindsModel", "typed", "I", false)
  | 10 => ("OfDifferentMindsModel", "row", "[I", true)
  | 11 => ("OfDifferentMindsModel", "rowMany", "I", false)
  | 12 => ("OfDifferentMindsModel", "thrown", "I", false)
  | 13 => ("OfDifferentMindsModel", "read", "[B", false)
  | 14 => ("OfDifferentMindsModel", "length", "I", false)
  | 15 => ("OfDifferentMindsModel", "top", "I", false)
  | 16 => ("OfDifferentMindsModel", "at", "I", false)
  | 17 => ("OfDifferentMindsModel", "wrong", "I", false)
  | 18 => ("OfDifferentMindsModel", "newWays", "[I", true)
  | 19 => ("OfDifferentMindsModel", "newLeads", "[I", true)
  | 20 => ("OfDifferentMindsModel", "letterAt", "[I", true)
  | 21 => ("OfDifferentMindsModel", "newInns", "I", false)
  | 22 => ("OfDifferentMindsModel", "fresh", "[I", true)
  | 23 => ("OfDifferentMindsModel", "rule", "[B", true)
  | 24 => ("OfDifferentMindsModel", "ruleSize", "I", false)
  | 25 => ("OfDifferentMindsModel", "isAsked", "Z", false)
  | 26 => ("OfDifferentMindsModel", "asked", "[I", true)
  | 27 => ("OfDifferentMindsModel", "convinced", "I", false)
  | 28 => ("OfDifferentMindsModel", "undos", "[I", true)
  | 29 => ("OfDifferentMindsModel", "undoMany", "I", false)
  | 30 => ("OfDifferentMindsModel", "aside", "[I", true)
  | 31 => ("OfDifferentMindsModel", "lastConvinced", "I", false)
  | 32 => ("OfDifferentMindsModel", "acts", "[I", true)
  | 33 => ("OfDifferentMindsModel", "allSteps", "I", false)
  | 34 => ("OfDifferentMindsModel", "then", "[I", true)
  | 35 => ("OfDifferentMindsModel", "visits", "[I", true)
  | 36 => ("OfDifferentMindsModel", "stopSteps", "I", false)
  | 37 => ("OfDifferentMindsModel", "freshStop", "[I", true)
  | 38 => ("OfDifferentMindsModel", "rides", "[I", true)
  | 39 => ("OfDifferentMindsModel", "with", "[I", true)
  | 40 => ("OfDifferentMindsModel", "bestWith", "[I", true)
  | 41 => ("OfDifferentMindsModel", "mostSteps", "I", false)
  | 42 => ("OfDifferentMindsModel", "prints", "[I", true)
  | 43 => ("OfDifferentMindsModel", "printMany", "I", false)
  | 44 => ("OfDifferentMindsModel", "edition", "[I", true)
  | 45 => ("OfDifferentMindsModel", "many", "[I", true)
  | 46 => ("OfDifferentMindsModel", "drawn", "I", false)
  | 47 => ("OfDifferentMindsModel", "rode", "[I", true)
  | 48 => ("OfDifferentMindsModel", "came", "I", false)
  | 49 => ("OfDifferentMindsModel", "kept", "[I", true)
  | 50 => ("OfDifferentMindsModel", "isKept", "[Z", true)
  | _ => ("OfDifferentMindsModel", "keptCame", "[I", true)
def jx_cl : List vw_C := [("OfDifferentMinds$Atlas", jx_T0, 4), ("java/util/NoSuchElementException", jx_T1, 0), ("OfDifferentMinds$History", jx_T2, 5), ("OfDifferentMinds$Land", jx_T3, 6), ("OfDifferentMinds$Matching", jx_T4, 4), ("OfDifferentMinds$Ride", jx_T5, 13), ("OfDifferentMinds$Row", jx_T6, 2), ("OfDifferentMinds$Rule", jx_T7, 6), ("OfDifferentMinds$Standing", jx_T8, 1), ("OfDifferentMinds$Text", jx_T9, 4), ("OfDifferentMinds", jx_T10, 14), ("OfDifferentMindsModel", jx_T11, 52)]
def jx_tl : List (List FieldType) := [[.object "OfDifferentMinds$Land", .object "OfDifferentMinds$Ride", .array .int, .array .int],
  [],
  [.array (.object "OfDifferentMinds$Standing"), .array (.object "OfDifferentMinds$Standing"), .int, .int, .int],
  [.array .int, .array .int, .array .int, .int, .int, .int],
  [.array .int, .array .int, .array .int, .int],
  [.object "OfDifferentMinds$Land", .object "OfDifferentMinds$Rule", .object "OfDifferentMinds$Standing", .array .int, .array .int, .array .int, .array .int, .array .int, .int, .int, .int, .int, .boolean],
  [.array .int, .int],
  [.array .int, .array .int, .array .int, .array .int, .int, .int],
  [.array .int],
  [.array .int, .int, .int, .int],
  [.object "OfDifferentMinds$Text", .object "OfDifferentMinds$Land", .object "OfDifferentMinds$Rule", .object "OfDifferentMinds$Standing", .object "OfDifferentMinds$History", .object "OfDifferentMinds$Row", .object "OfDifferentMinds$Ride", .object "OfDifferentMinds$Atlas", .object "OfDifferentMinds$Matching", .array .int, .array .int, .array .int, .int, .int],
  [.array .int, .int, .array .int, .array .int, .int, .int, .array .int, .array .int, .array .byte, .int, .array .int, .int, .int, .array .byte, .int, .int, .int, .int, .array .int, .array .int, .array .int, .int, .array .int, .array .byte, .int, .boolean, .array .int, .int, .array .int, .int, .array .int, .int, .array .int, .int, .array .int, .array .int, .int, .array .int, .array .int, .array .int, .array .int, .int, .array .int, .int, .array .int, .array .int, .int, .array .int, .int, .array .int, .array .boolean, .array .int]]
def jx_ty (c k : Nat) : FieldType := (jx_tl.getD c []).getD k .int
def jx_nm (c : Nat) : String := match c with
  | 0 => "OfDifferentMinds$Atlas"
  | 1 => "java/util/NoSuchElementException"
  | 2 => "OfDifferentMinds$History"
  | 3 => "OfDifferentMinds$Land"
  | 4 => "OfDifferentMinds$Matching"
  | 5 => "OfDifferentMinds$Ride"
  | 6 => "OfDifferentMinds$Row"
  | 7 => "OfDifferentMinds$Rule"
  | 8 => "OfDifferentMinds$Standing"
  | 9 => "OfDifferentMinds$Text"
  | 10 => "OfDifferentMinds"
  | 11 => "OfDifferentMindsModel"
  | 12 => "OfDifferentMinds$Grammar"
  | 13 => "java/lang/Integer"
  | _ => "java/lang/Math"
/-- a method's name as the table's own row i (a code row) has it -/
def jx_cn (i : Nat) : String := match lw_tbl[i]? with
  | some (Cond.code y _ _ _) => y.name
  | _ => ""
def jx_ys : List MethodName := [
  ⟨"OfDifferentMinds$Atlas", "<init>", "(LOfDifferentMinds$Land;LOfDifferentMinds$Ride;)V"⟩,
  ⟨"OfDifferentMinds$Atlas", "survey", "(I)I"⟩,
  ⟨"OfDifferentMinds$Atlas", "surveyFrom", "(I)I"⟩,
  ⟨"OfDifferentMinds$Atlas", "beginAt", "(I)V"⟩,
  ⟨"OfDifferentMinds$Atlas", "farOf", "(I)I"⟩,
  ⟨"OfDifferentMinds$Atlas", "fewest", "(IIZ)I"⟩,
  ⟨"OfDifferentMinds$Atlas", "pairTo", "(II)I"⟩,
  ⟨"OfDifferentMinds$Atlas", "tellRides", "(ILOfDifferentMinds$Row;)V"⟩,
  ⟨"OfDifferentMinds$Atlas", "wayTo", "(II)I"⟩,
  ⟨"OfDifferentMinds$Atlas", "tellWays", "(ILOfDifferentMinds$Row;)V"⟩,
  ⟨"OfDifferentMinds$Grammar", "inRoads", "(LOfDifferentMinds$Text;)I"⟩,
  ⟨"OfDifferentMinds$Grammar", "inRoadLines", "(LOfDifferentMinds$Text;)I"⟩,
  ⟨"OfDifferentMinds$Grammar", "takeRoadLine", "(LOfDifferentMinds$Text;)Z"⟩,
  ⟨"OfDifferentMinds$Grammar", "inRiders", "(LOfDifferentMinds$Text;II)I"⟩,
  ⟨"OfDifferentMinds$Grammar", "inRiderLine", "(LOfDifferentMinds$Text;I)I"⟩,
  ⟨"OfDifferentMinds$Grammar", "inJourney", "(LOfDifferentMinds$Text;)I"⟩,
  ⟨"OfDifferentMinds$Grammar", "takeAct", "(LOfDifferentMinds$Text;)Z"⟩,
  ⟨"OfDifferentMinds$Grammar", "inPrints", "(LOfDifferentMinds$Text;I)I"⟩,
  ⟨"OfDifferentMinds$History", "<init>", "()V"⟩,
  ⟨"OfDifferentMinds$History", "size", "()I"⟩,
  ⟨"OfDifferentMinds$History", "forgetAll", "()V"⟩,
  ⟨"OfDifferentMinds$History", "note", "(LOfDifferentMinds$Standing;)V"⟩,
  ⟨"OfDifferentMinds$History", "push", "()V"⟩,
  ⟨"OfDifferentMinds$History", "back", "(LOfDifferentMinds$Standing;)Z"⟩,
  ⟨"OfDifferentMinds$History", "keepUnder", "(ILOfDifferentMinds$Standing;)Z"⟩,
  ⟨"OfDifferentMinds$History", "bringBack", "(ILOfDifferentMinds$Standing;)Z"⟩,
  ⟨"OfDifferentMinds$Land", "<init>", "()V"⟩,
  ⟨"OfDifferentMinds$Land", "places", "()I"⟩,
  ⟨"OfDifferentMinds$Land", "riderCount", "()I"⟩,
  ⟨"OfDifferentMinds$Land", "inns", "()I"⟩,
  ⟨"OfDifferentMinds$Land", "hasPlace", "(I)Z"⟩,
  ⟨"OfDifferentMinds$Land", "hasRider", "(I)Z"⟩,
  ⟨"OfDifferentMinds$Land", "hasRiders", "(I)Z"⟩,
  ⟨"OfDifferentMinds$Land", "waysAt", "(I)I"⟩,
  ⟨"OfDifferentMinds$Land", "isInn", "(I)Z"⟩,
  ⟨"OfDifferentMinds$Land", "leadsTo", "(II)I"⟩,
  ⟨"OfDifferentMinds$Land", "viewOf", "(II)I"⟩,
  ⟨"OfDifferentMinds$Land", "mindOf", "(I)I"⟩,
  ⟨"OfDifferentMinds$Land", "setMind", "(II)V"⟩,
  ⟨"OfDifferentMinds$Land", jx_cn 522, "(I)V"⟩,
  ⟨"OfDifferentMinds$Land", "lay", "(LOfDifferentMinds$Text;)V"⟩,
  ⟨"OfDifferentMinds$Land", "addPlace", "()V"⟩,
  ⟨"OfDifferentMinds$Land", "addWay", "(I)V"⟩,
  ⟨"OfDifferentMinds$Matching", "<init>", "()V"⟩,
  ⟨"OfDifferentMinds$Matching", "setSteps", "(III)V"⟩,
  ⟨"OfDifferentMinds$Matching", "best", "(I)I"⟩,
  ⟨"OfDifferentMinds$Matching", "part", "(IIIZ)V"⟩,
  ⟨"OfDifferentMinds$Matching", "tell", "(ILOfDifferentMinds$Row;)V"⟩,
  ⟨"OfDifferentMinds$Ride", "<init>", "(LOfDifferentMinds$Land;LOfDifferentMinds$Rule;LOfDifferentMinds$Standing;)V"⟩,
  ⟨"OfDifferentMinds$Ride", "beginFresh", "(III)V"⟩,
  ⟨"OfDifferentMinds$Ride", "begin", "(III)V"⟩,
  ⟨"OfDifferentMinds$Ride", "resume", "()V"⟩,
  ⟨"OfDifferentMinds$Ride", "settle", "()V"⟩,
  ⟨"OfDifferentMinds$Ride", "spot", "()I"⟩,
  ⟨"OfDifferentMinds$Ride", "taken", "()I"⟩,
  ⟨"OfDifferentMinds$Ride", "latest", "()I"⟩,
  ⟨"OfDifferentMinds$Ride", "hasStopped", "()Z"⟩,
  ⟨"OfDifferentMinds$Ride", "leftBeside", "(I)I"⟩,
  ⟨"OfDifferentMinds$Ride", "wayBy", "(II)I"⟩,
  ⟨"OfDifferentMinds$Ride", "wayClaiming", "(II)I"⟩,
  ⟨"OfDifferentMinds$Ride", "stepClaiming", "(II)Z"⟩,
  ⟨"OfDifferentMinds$Ride", "step", "()Z"⟩,
  ⟨"OfDifferentMinds$Ride", "goBy", "(I)Z"⟩,
  ⟨"OfDifferentMinds$Ride", "wear", "()V"⟩,
  ⟨"OfDifferentMinds$Ride", "go", "(I)V"⟩,
  ⟨"OfDifferentMinds$Ride", "goOut", "()V"⟩,
  ⟨"OfDifferentMinds$Ride", "comesTo", "(I)Z"⟩,
  ⟨"OfDifferentMinds$Row", "<init>", "()V"⟩,
  ⟨"OfDifferentMinds$Row", "clear", "()V"⟩,
  ⟨"OfDifferentMinds$Row", "put", "(I)V"⟩,
  ⟨"OfDifferentMinds$Row", "tell", "(I)V"⟩,
  ⟨"OfDifferentMinds$Row", "tell", "(II)V"⟩,
  ⟨"OfDifferentMinds$Row", "tell", "(III)V"⟩,
  ⟨"OfDifferentMinds$Row", "size", "()I"⟩,
  ⟨"OfDifferentMinds$Row", "at", "(I)I"⟩,
  ⟨"OfDifferentMinds$Rule", "<init>", "()V"⟩,
  ⟨"OfDifferentMinds$Rule", "setFacts", "(IIIII)V"⟩,
  ⟨"OfDifferentMinds$Rule", "tells", "(II)I"⟩,
  ⟨"OfDifferentMinds$Rule", "joined", "(III)I"⟩,
  ⟨"OfDifferentMinds$Rule", "read", "(LOfDifferentMinds$Text;)I"⟩,
  ⟨"OfDifferentMinds$Rule", "write", "(I)V"⟩,
  ⟨"OfDifferentMinds$Rule", "takeJoined", "(LOfDifferentMinds$Text;II)Z"⟩,
  ⟨"OfDifferentMinds$Rule", "rankOf", "(I)I"⟩,
  ⟨"OfDifferentMinds$Rule", "takeSigned", "(LOfDifferentMinds$Text;I)Z"⟩,
  ⟨"OfDifferentMinds$Rule", "takeInner", "(LOfDifferentMinds$Text;I)Z"⟩,
  ⟨"OfDifferentMinds$Rule", "takeThing", "(LOfDifferentMinds$Text;)Z"⟩,
  ⟨"OfDifferentMinds$Rule", "thingOf", "(I)I"⟩,
  ⟨"OfDifferentMinds$Standing", "<init>", "()V"⟩,
  ⟨"OfDifferentMinds$Standing", "clear", "()V"⟩,
  ⟨"OfDifferentMinds$Standing", "copy", "(LOfDifferentMinds$Standing;)V"⟩,
  ⟨"OfDifferentMinds$Standing", "get", "(II)I"⟩,
  ⟨"OfDifferentMinds$Standing", "set", "(III)V"⟩,
  ⟨"OfDifferentMinds$Standing", jx_cn 514, "(II)V"⟩,
  ⟨"OfDifferentMinds$Standing", "spentOf", "(I)I"⟩,
  ⟨"OfDifferentMinds$Standing", "setSpent", "(II)V"⟩,
  ⟨"OfDifferentMinds$Standing", "placeOf", "(I)I"⟩,
  ⟨"OfDifferentMinds$Standing", "setPlace", "(II)V"⟩,
  ⟨"OfDifferentMinds$Standing", "convincerOf", "(I)I"⟩,
  ⟨"OfDifferentMinds$Standing", "setConvincer", "(II)V"⟩,
  ⟨"OfDifferentMinds$Standing", "mapOf", "(I)I"⟩,
  ⟨"OfDifferentMinds$Standing", "guidingMap", "(I)I"⟩,
  ⟨"OfDifferentMinds$Standing", "digit", "(II)I"⟩,
  ⟨"OfDifferentMinds$Standing", "changeMaps", "(II)V"⟩,
  ⟨"OfDifferentMinds$Standing", "horse", "()I"⟩,
  ⟨"OfDifferentMinds$Standing", "setHorse", "(I)V"⟩,
  ⟨"OfDifferentMinds$Standing", "first", "()I"⟩,
  ⟨"OfDifferentMinds$Standing", "second", "()I"⟩,
  ⟨"OfDifferentMinds$Standing", "steps", "()I"⟩,
  ⟨"OfDifferentMinds$Standing", "setSteps", "(I)V"⟩,
  ⟨"OfDifferentMinds$Standing", "isMounted", "()Z"⟩,
  ⟨"OfDifferentMinds$Standing", "isUp", "(I)Z"⟩,
  ⟨"OfDifferentMinds$Standing", "seat", "(II)V"⟩,
  ⟨"OfDifferentMinds$Text", "<init>", "()V"⟩,
  ⟨"OfDifferentMinds$Text", "length", "()I"⟩,
  ⟨"OfDifferentMinds$Text", "at", "(I)I"⟩,
  ⟨"OfDifferentMinds$Text", "add", "(I)I"⟩,
  ⟨"OfDifferentMinds$Text", "cut", "(I)Z"⟩,
  ⟨"OfDifferentMinds$Text", "clear", "()V"⟩,
  ⟨"OfDifferentMinds$Text", "open", "(I)V"⟩,
  ⟨"OfDifferentMinds$Text", "position", "()I"⟩,
  ⟨"OfDifferentMinds$Text", "peek", "()I"⟩,
  ⟨"OfDifferentMinds$Text", "isOver", "()Z"⟩,
  ⟨"OfDifferentMinds$Text", "isCutShort", "()Z"⟩,
  ⟨"OfDifferentMinds$Text", "next", "()I"⟩,
  ⟨"OfDifferentMinds$Text", "take", "(I)Z"⟩,
  ⟨"OfDifferentMinds$Text", "takeOf", "(II)Z"⟩,
  ⟨"OfDifferentMinds$Text", "number", "(I)I"⟩,
  ⟨"OfDifferentMinds$Text", "goesOn", "()I"⟩,
  ⟨"OfDifferentMinds", "<init>", "()V"⟩,
  ⟨"OfDifferentMinds", "sign", "(I)I"⟩,
  ⟨"OfDifferentMinds", "end", "(I)Z"⟩,
  ⟨"OfDifferentMinds", "roads", "()I"⟩,
  ⟨"OfDifferentMinds", "riders", "()I"⟩,
  ⟨"OfDifferentMinds", "admitAll", "()I"⟩,
  ⟨"OfDifferentMinds", "rule", "()I"⟩,
  ⟨"OfDifferentMinds", "place", "(II)I"⟩,
  ⟨"OfDifferentMinds", "ridersAt", "(I)I"⟩,
  ⟨"OfDifferentMinds", "rider", "(II)I"⟩,
  ⟨"OfDifferentMinds", "viewAt", "(II)I"⟩,
  ⟨"OfDifferentMinds", "view", "(II)I"⟩,
  ⟨"OfDifferentMinds", "sheet", "(IIII)I"⟩,
  ⟨"OfDifferentMinds", "entryMind", "(II)I"⟩,
  ⟨"OfDifferentMinds", "limitSpent", "()V"⟩,
  ⟨"OfDifferentMinds", "mount", "(II)I"⟩,
  ⟨"OfDifferentMinds", "dismount", "()I"⟩,
  ⟨"OfDifferentMinds", "ride", "(I)I"⟩,
  ⟨"OfDifferentMinds", "walk", "(II)I"⟩,
  ⟨"OfDifferentMinds", "lead", "(II)I"⟩,
  ⟨"OfDifferentMinds", "rest", "(I)I"⟩,
  ⟨"OfDifferentMinds", "deal", "(II)I"⟩,
  ⟨"OfDifferentMinds", "noted", "(I)I"⟩,
  ⟨"OfDifferentMinds", "areTwo", "(II)Z"⟩,
  ⟨"OfDifferentMinds", "getOn", "(II)I"⟩,
  ⟨"OfDifferentMinds", "getOff", "()I"⟩,
  ⟨"OfDifferentMinds", "goOn", "(I)I"⟩,
  ⟨"OfDifferentMinds", "goAfoot", "(II)I"⟩,
  ⟨"OfDifferentMinds", "goLeading", "(II)I"⟩,
  ⟨"OfDifferentMinds", "sleep", "(I)I"⟩,
  ⟨"OfDifferentMinds", "changeMaps", "(II)I"⟩,
  ⟨"OfDifferentMinds", "journey", "()I"⟩,
  ⟨"OfDifferentMinds", "act", "(III)I"⟩,
  ⟨"OfDifferentMinds", "undo", "()I"⟩,
  ⟨"OfDifferentMinds", "where", "(I)I"⟩,
  ⟨"OfDifferentMinds", "canRide", "(III)Z"⟩,
  ⟨"OfDifferentMinds", "stops", "(III)I"⟩,
  ⟨"OfDifferentMinds", "trail", "(III)I"⟩,
  ⟨"OfDifferentMinds", "tellVisits", "()I"⟩,
  ⟨"OfDifferentMinds", "reaches", "(IIII)I"⟩,
  ⟨"OfDifferentMinds", "pairs", "(II)I"⟩,
  ⟨"OfDifferentMinds", "stopsAt", "(IIII)Z"⟩,
  ⟨"OfDifferentMinds", "changes", "(II)I"⟩,
  ⟨"OfDifferentMinds", "stations", "(I)I"⟩,
  ⟨"OfDifferentMinds", "foot", "(II)I"⟩,
  ⟨"OfDifferentMinds", "stepsOf", "(III)I"⟩,
  ⟨"OfDifferentMinds", "record", "(I)I"⟩,
  ⟨"OfDifferentMinds", "matches", "(II)I"⟩,
  ⟨"OfDifferentMinds", "partner", "(II)I"⟩,
  ⟨"OfDifferentMinds", "agree", "(II)I"⟩,
  ⟨"OfDifferentMinds", "convinces", "(III)I"⟩,
  ⟨"OfDifferentMinds", "claim", "(II)I"⟩,
  ⟨"OfDifferentMinds", "lie", "(II)I"⟩,
  ⟨"OfDifferentMinds", "prints", "()I"⟩,
  ⟨"OfDifferentMinds", "fits", "()I"⟩,
  ⟨"OfDifferentMinds", "leavesPrints", "(II)Z"⟩,
  ⟨"OfDifferentMinds", "views", "()I"⟩,
  ⟨"OfDifferentMinds", "viewsBetween", "(III)I"⟩,
  ⟨"OfDifferentMinds", "editions", "(I)I"⟩,
  ⟨"OfDifferentMinds", "editionSeen", "(II)I"⟩,
  ⟨"OfDifferentMinds", "kinds", "(II)I"⟩,
  ⟨"OfDifferentMinds", "holdersOf", "(III)I"⟩,
  ⟨"OfDifferentMinds", "county", "(II)I"⟩,
  ⟨"OfDifferentMinds", "rideInCounty", "(I)I"⟩,
  ⟨"OfDifferentMinds", "draw", "(I)I"⟩,
  ⟨"OfDifferentMinds", "farthestRidden", "()I"⟩,
  ⟨"OfDifferentMinds", "keep", "(I)Z"⟩,
  ⟨"OfDifferentMinds", "again", "(I)Z"⟩,
  ⟨"OfDifferentMinds", "count", "(I)I"⟩,
  ⟨"OfDifferentMinds", "convincedOnes", "()I"⟩,
  ⟨"OfDifferentMinds", "row", "(I)I"⟩,
  ⟨"OfDifferentMindsModel", "<init>", "()V"⟩,
  ⟨"OfDifferentMindsModel", "empty", "()V"⟩,
  ⟨"OfDifferentMindsModel", "thrown", "()I"⟩,
  ⟨"OfDifferentMindsModel", "in", "(III)Z"⟩,
  ⟨"OfDifferentMindsModel", "has", "(II)Z"⟩,
  ⟨"OfDifferentMindsModel", "lost", "()I"⟩,
  ⟨"OfDifferentMindsModel", "tell", "(I)V"⟩,
  ⟨"OfDifferentMindsModel", "isPlace", "(I)Z"⟩,
  ⟨"OfDifferentMindsModel", "isRider", "(I)Z"⟩,
  ⟨"OfDifferentMindsModel", "areTwo", "(II)Z"⟩,
  ⟨"OfDifferentMindsModel", "isOn", "([II)Z"⟩,
  ⟨"OfDifferentMindsModel", "isRidden", "()Z"⟩,
  ⟨"OfDifferentMindsModel", "sign", "(I)I"⟩,
  ⟨"OfDifferentMindsModel", "end", "(I)Z"⟩,
  ⟨"OfDifferentMindsModel", "begin", "([BII)V"⟩,
  ⟨"OfDifferentMindsModel", "here", "()I"⟩,
  ⟨"OfDifferentMindsModel", "fine", "()Z"⟩,
  ⟨"OfDifferentMindsModel", "fault", "(I)V"⟩,
  ⟨"OfDifferentMindsModel", "passes", "(C)Z"⟩,
  ⟨"OfDifferentMindsModel", "need", "(C)V"⟩,
  ⟨"OfDifferentMindsModel", "digit", "(II)I"⟩,
  ⟨"OfDifferentMindsModel", "number", "(I)I"⟩,
  ⟨"OfDifferentMindsModel", "readPlace", "(I)V"⟩,
  ⟨"OfDifferentMindsModel", "roads", "()I"⟩,
  ⟨"OfDifferentMindsModel", "readRider", "(I)V"⟩,
  ⟨"OfDifferentMindsModel", "riders", "()I"⟩,
  ⟨"OfDifferentMindsModel", "held", "(I)I"⟩,
  ⟨"OfDifferentMindsModel", "sum", "(I)I"⟩,
  ⟨"OfDifferentMindsModel", "product", "(I)I"⟩,
  ⟨"OfDifferentMindsModel", "letterOf", "(I)I"⟩,
  ⟨"OfDifferentMindsModel", "thing", "(I)I"⟩,
  ⟨"OfDifferentMindsModel", "rule", "()I"⟩,
  ⟨"OfDifferentMindsModel", "wayBy", "(IIIIII)I"⟩,
  ⟨"OfDifferentMindsModel", "viewOf", "([III)I"⟩,
  ⟨"OfDifferentMindsModel", "leftOf", "([II)I"⟩,
  ⟨"OfDifferentMindsModel", "goesOn", "([I)Z"⟩,
  ⟨"OfDifferentMindsModel", "goStep", "([III)V"⟩,
  ⟨"OfDifferentMindsModel", "step", "([I)Z"⟩,
  ⟨"OfDifferentMindsModel", "place", "(II)I"⟩,
  ⟨"OfDifferentMindsModel", "rider", "(II)I"⟩,
  ⟨"OfDifferentMindsModel", "view", "(II)I"⟩,
  ⟨"OfDifferentMindsModel", "sheet", "(IIII)I"⟩,
  ⟨"OfDifferentMindsModel", "lay", "([I[II)V"⟩,
  ⟨"OfDifferentMindsModel", "remember", "([I)V"⟩,
  ⟨"OfDifferentMindsModel", "refusesMount", "(II)I"⟩,
  ⟨"OfDifferentMindsModel", "goMount", "(II)V"⟩,
  ⟨"OfDifferentMindsModel", "mount", "(II)I"⟩,
  ⟨"OfDifferentMindsModel", "goDown", "()V"⟩,
  ⟨"OfDifferentMindsModel", "dismount", "()I"⟩,
  ⟨"OfDifferentMindsModel", "goRide", "([II)I"⟩,
  ⟨"OfDifferentMindsModel", "ride", "(I)I"⟩,
  ⟨"OfDifferentMindsModel", "isWay", "(II)Z"⟩,
  ⟨"OfDifferentMindsModel", "refusesWalk", "(II)I"⟩,
  ⟨"OfDifferentMindsModel", "goWalk", "(II)I"⟩,
  ⟨"OfDifferentMindsModel", "walk", "(II)I"⟩,
  ⟨"OfDifferentMindsModel", "refusesLead", "(II)I"⟩,
  ⟨"OfDifferentMindsModel", "goLead", "(II)I"⟩,
  ⟨"OfDifferentMindsModel", "lead", "(II)I"⟩,
  ⟨"OfDifferentMindsModel", "isAtInn", "(I)Z"⟩,
  ⟨"OfDifferentMindsModel", "refusesRest", "(I)I"⟩,
  ⟨"OfDifferentMindsModel", "goRest", "(I)I"⟩,
  ⟨"OfDifferentMindsModel", "rest", "(I)I"⟩,
  ⟨"OfDifferentMindsModel", "refusesDeal", "(II)I"⟩,
  ⟨"OfDifferentMindsModel", "goDeal", "(II)I"⟩,
  ⟨"OfDifferentMindsModel", "deal", "(II)I"⟩,
  ⟨"OfDifferentMindsModel", "journey", "()I"⟩,
  ⟨"OfDifferentMindsModel", "readAct", "(I)V"⟩,
  ⟨"OfDifferentMindsModel", "act", "(III)Z"⟩,
  ⟨"OfDifferentMindsModel", "undo", "()I"⟩,
  ⟨"OfDifferentMindsModel", "capSpent", "()V"⟩,
  ⟨"OfDifferentMindsModel", "where", "(I)I"⟩,
  ⟨"OfDifferentMindsModel", "mountThen", "(IIIZ)V"⟩,
  ⟨"OfDifferentMindsModel", "freshen", "()V"⟩,
  ⟨"OfDifferentMindsModel", "canRide", "(III)Z"⟩,
  ⟨"OfDifferentMindsModel", "stops", "(III)I"⟩,
  ⟨"OfDifferentMindsModel", "trail", "(III)I"⟩,
  ⟨"OfDifferentMindsModel", "reaches", "(IIII)I"⟩,
  ⟨"OfDifferentMindsModel", "stopOf", "(IIIZ)I"⟩,
  ⟨"OfDifferentMindsModel", "pairs", "(II)I"⟩,
  ⟨"OfDifferentMindsModel", "stopAt", "(III)I"⟩,
  ⟨"OfDifferentMindsModel", "layStops", "()V"⟩,
  ⟨"OfDifferentMindsModel", "ridesBy", "(IIIII)I"⟩,
  ⟨"OfDifferentMindsModel", "changes", "(II)I"⟩,
  ⟨"OfDifferentMindsModel", "stations", "(I)I"⟩,
  ⟨"OfDifferentMindsModel", "foot", "(II)I"⟩,
  ⟨"OfDifferentMindsModel", "stepsOf", "(III)I"⟩,
  ⟨"OfDifferentMindsModel", "record", "(I)I"⟩,
  ⟨"OfDifferentMindsModel", "goMatches", "(IIIII)V"⟩,
  ⟨"OfDifferentMindsModel", "areThose", "(I)Z"⟩,
  ⟨"OfDifferentMindsModel", "matches", "(II)I"⟩,
  ⟨"OfDifferentMindsModel", "partner", "(II)I"⟩,
  ⟨"OfDifferentMindsModel", "agree", "(II)I"⟩,
  ⟨"OfDifferentMindsModel", "convinces", "(III)I"⟩,
  ⟨"OfDifferentMindsModel", "claims", "(II)Z"⟩,
  ⟨"OfDifferentMindsModel", "wayOfClaim", "(II)I"⟩,
  ⟨"OfDifferentMindsModel", "claim", "(II)I"⟩,
  ⟨"OfDifferentMindsModel", "lie", "(II)I"⟩,
  ⟨"OfDifferentMindsModel", "prints", "()I"⟩,
  ⟨"OfDifferentMindsModel", "isPrinted", "(II)Z"⟩,
  ⟨"OfDifferentMindsModel", "fits", "()I"⟩,
  ⟨"OfDifferentMindsModel", "views", "()I"⟩,
  ⟨"OfDifferentMindsModel", "areLike", "(II)Z"⟩,
  ⟨"OfDifferentMindsModel", "editions", "(I)I"⟩,
  ⟨"OfDifferentMindsModel", "kinds", "(II)I"⟩,
  ⟨"OfDifferentMindsModel", "draw", "(I)I"⟩,
  ⟨"OfDifferentMindsModel", "county", "(II)I"⟩,
  ⟨"OfDifferentMindsModel", "keep", "(I)Z"⟩,
  ⟨"OfDifferentMindsModel", "again", "(I)Z"⟩,
  ⟨"OfDifferentMindsModel", "count", "(I)I"⟩,
  ⟨"OfDifferentMindsModel", "row", "(I)I"⟩,
  ⟨"java/lang/Integer", "bitCount", "(I)I"⟩,
  ⟨"java/lang/Math", "max", "(II)I"⟩,
  ⟨"java/lang/Math", "min", "(II)I"⟩]
/-- kind (0 virtual, 1 constructor, 2 static) and class of each method -/
def jx_kc : List (Nat × Nat) := [(1, 0), (0, 0), (0, 0), (0, 0), (0, 0), (0, 0), (0, 0), (0, 0), (0, 0), (0, 0), (2, 12), (2, 12), (2, 12), (2, 12), (2, 12), (2, 12), (2, 12), (2, 12), (1, 2), (0, 2), (0, 2), (0, 2), (0, 2), (0, 2), (0, 2), (0, 2), (1, 3), (0, 3), (0, 3), (0, 3), (0, 3), (0, 3), (0, 3), (0, 3), (0, 3), (0, 3), (0, 3), (0, 3), (0, 3), (0, 3), (0, 3), (0, 3), (0, 3), (1, 4), (0, 4), (0, 4), (0, 4), (0, 4), (1, 5), (0, 5), (0, 5), (0, 5), (0, 5), (0, 5), (0, 5), (0, 5), (0, 5), (0, 5), (0, 5), (0, 5), (0, 5), (0, 5), (0, 5), (0, 5), (0, 5), (0, 5), (0, 5), (1, 6), (0, 6), (0, 6), (0, 6), (0, 6), (0, 6), (0, 6), (0, 6), (1, 7), (0, 7), (0, 7), (2, 7), (0, 7), (0, 7), (0, 7), (2, 7), (0, 7), (0, 7), (0, 7), (2, 7), (1, 8), (0, 8), (0, 8), (0, 8), (0, 8), (0, 8), (0, 8), (0, 8), (0, 8), (0, 8), (0, 8), (0, 8), (0, 8), (0, 8), (0, 8), (0, 8), (0, 8), (0, 8), (0, 8), (0, 8), (0, 8), (0, 8), (0, 8), (0, 8), (0, 8), (1, 9), (0, 9), (0, 9), (0, 9), (0, 9), (0, 9), (0, 9), (0, 9), (0, 9), (0, 9), (0, 9), (0, 9), (0, 9), (0, 9), (0, 9), (0, 9), (1, 10), (0, 10), (0, 10), (0, 10), (0, 10), (0, 10), (0, 10), (0, 10), (0, 10), (0, 10), (0, 10), (0, 10), (0, 10), (2, 10), (0, 10), (0, 10), (0, 10), (0, 10), (0, 10), (0, 10), (0, 10), (0, 10), (0, 10), (0, 10), (0, 10), (0, 10), (0, 10), (0, 10), (0, 10), (0, 10), (0, 10), (0, 10), (0, 10), (0, 10), (0, 10), (0, 10), (0, 10), (0, 10), (0, 10), (0, 10), (0, 10), (0, 10), (0, 10), (0, 10), (0, 10), (0, 10), (0, 10), (0, 10), (0, 10), (0, 10), (0, 10), (0, 10), (0, 10), (0, 10), (0, 10), (0, 10), (0, 10), (0, 10), (0, 10), (0, 10), (0, 10), (0, 10), (0, 10), (0, 10), (0, 10), (0, 10), (0, 10), (0, 10), (0, 10), (0, 10), (0, 10), (1, 11), (0, 11), (0, 11), (2, 11), (2, 11), (0, 11), (0, 11), (0, 11), (0, 11), (0, 11), (2, 11), (0, 11), (0, 11), (0, 11), (0, 11), (0, 11), (0, 11), (0, 11), (0, 11), (0, 11), (0, 11), (0, 11), (0, 11), (0, 11), (0, 11), (0, 11), (0, 11), (0, 11), (0, 11), (2, 11), (0, 11), (0, 11), (0, 11), (0, 11), (0, 11), (0, 11), (0, 11), (0, 11), (0, 11), (0, 11), (0, 11), (0, 11), (2, 11), (0, 11), (0, 11), (0, 11), (0, 11), (0, 11), (0, 11), (0, 11), (0, 11), (0, 11), (0, 11), (0, 11), (0, 11), (0, 11), (0, 11), (0, 11), (0, 11), (0, 11), (0, 11), (0, 11), (0, 11), (0, 11), (0, 11), (0, 11), (0, 11), (0, 11), (0, 11), (0, 11), (0, 11), (0, 11), (0, 11), (0, 11), (0, 11), (0, 11), (0, 11), (0, 11), (0, 11), (0, 11), (0, 11), (0, 11), (0, 11), (0, 11), (0, 11), (0, 11), (0, 11), (0, 11), (0, 11), (0, 11), (0, 11), (0, 11), (0, 11), (0, 11), (0, 11), (0, 11), (0, 11), (0, 11), (0, 11), (0, 11), (0, 11), (0, 11), (0, 11), (0, 11), (0, 11), (0, 11), (0, 11), (0, 11), (0, 11), (0, 11), (2, 13), (2, 14), (2, 14)]
/-- owner, index, class, field, place -/
def jx_FL : List (Nat × Nat × Nat × Nat × Nat) := [
  (0, 9, 0, 0, 303),
  (0, 15, 0, 1, 304),
  (0, 19, 0, 2, 305),
  (0, 23, 0, 3, 306),
  (2, 13, 2, 0, 222),
  (2, 18, 2, 1, 223),
  (2, 21, 2, 3, 225),
  (2, 25, 2, 4, 226),
  (2, 28, 2, 2, 224),
  (3, 9, 3, 0, 159),
  (3, 15, 3, 1, 160),
  (3, 18, 3, 2, 161),
  (3, 21, 3, 3, 162),
  (3, 25, 3, 5, 164),
  (3, 28, 3, 4, 163),
  (4, 9, 4, 0, 322),
  (4, 15, 4, 1, 323),
  (4, 18, 4, 2, 324),
  (4, 21, 4, 3, 325),
  (5, 9, 5, 0, 257),
  (5, 15, 5, 1, 258),
  (5, 19, 5, 2, 259),
  (5, 23, 5, 3, 260),
  (5, 27, 5, 4, 261),
  (5, 30, 5, 5, 262),
  (5, 33, 5, 6, 263),
  (5, 36, 5, 7, 264),
  (5, 50, 5, 8, 265),
  (5, 54, 5, 9, 266),
  (5, 57, 5, 10, 267),
  (5, 60, 5, 11, 268),
  (5, 63, 5, 12, 269),
  (6, 11, 6, 0, 244),
  (6, 15, 6, 1, 245),
  (7, 9, 7, 0, 184),
  (7, 15, 7, 1, 185),
  (7, 18, 7, 2, 186),
  (7, 21, 7, 3, 187),
  (7, 24, 7, 4, 188),
  (7, 32, 7, 5, 189),
  (8, 11, 8, 0, 209),
  (9, 9, 9, 0, 139),
  (9, 15, 9, 1, 140),
  (9, 19, 9, 2, 141),
  (9, 22, 9, 3, 142),
  (10, 10, 10, 0, 335),
  (10, 19, 10, 1, 336),
  (10, 26, 10, 2, 337),
  (10, 33, 10, 3, 338),
  (10, 40, 10, 4, 339),
  (10, 47, 10, 5, 340),
  (10, 56, 10, 6, 341),
  (10, 65, 10, 7, 342),
  (10, 72, 10, 8, 343),
  (10, 76, 10, 9, 344),
  (10, 80, 10, 10, 345),
  (10, 83, 10, 11, 346),
  (10, 110, 10, 12, 347),
  (10, 433, 10, 13, 348),
  (11, 9, 11, 0, 1293),
  (11, 13, 11, 2, 1295),
  (11, 16, 11, 3, 1296),
  (11, 19, 11, 6, 1299),
  (11, 22, 11, 7, 1300),
  (11, 25, 11, 8, 1301),
  (11, 29, 11, 10, 1303),
  (11, 32, 11, 18, 1311),
  (11, 35, 11, 19, 1312),
  (11, 38, 11, 20, 1313),
  (11, 41, 11, 22, 1315),
  (11, 44, 11, 23, 1316),
  (11, 47, 11, 26, 1319),
  (11, 50, 11, 28, 1321),
  (11, 53, 11, 30, 1323),
  (11, 56, 11, 32, 1325),
  (11, 59, 11, 34, 1327),
  (11, 62, 11, 35, 1328),
  (11, 65, 11, 37, 1330),
  (11, 68, 11, 38, 1331),
  (11, 71, 11, 39, 1332),
  (11, 74, 11, 40, 1333),
  (11, 77, 11, 42, 1335),
  (11, 80, 11, 44, 1337),
  (11, 83, 11, 45, 1338),
  (11, 86, 11, 47, 1340),
  (11, 89, 11, 49, 1342),
  (11, 92, 11, 50, 1343),
  (11, 96, 11, 51, 1344),
  (11, 102, 11, 12, 1305),
  (11, 106, 11, 11, 1304),
  (11, 109, 11, 1, 1294),
  (11, 116, 11, 5, 1298),
  (11, 123, 11, 9, 1302),
  (11, 126, 11, 13, 1306),
  (11, 129, 11, 14, 1307),
  (11, 132, 11, 15, 1308),
  (11, 135, 11, 16, 1309),
  (11, 138, 11, 17, 1310),
  (11, 161, 11, 21, 1314),
  (11, 171, 11, 4, 1297),
  (11, 174, 11, 43, 1336),
  (11, 177, 11, 29, 1322),
  (11, 191, 11, 48, 1341),
  (11, 209, 11, 25, 1318),
  (11, 213, 11, 24, 1317),
  (11, 228, 11, 27, 1320),
  (11, 282, 11, 31, 1324),
  (11, 330, 11, 33, 1326),
  (11, 349, 11, 36, 1329),
  (11, 371, 11, 41, 1334),
  (11, 398, 11, 46, 1339)]
/-- owner, index, method, place -/
def jx_ML : List (Nat × Nat × Nat × Nat) := [
  (0, 26, 29, 959),
  (0, 32, 27, 963),
  (0, 35, 2, 964),
  (0, 39, 28, 968),
  (0, 42, 49, 969),
  (0, 48, 65, 970),
  (0, 51, 56, 971),
  (0, 55, 53, 972),
  (0, 58, 30, 991),
  (0, 62, 3, 977),
  (0, 66, 8, 981),
  (0, 70, 6, 992),
  (0, 73, 4, 987),
  (0, 76, 68, 1000),
  (0, 81, 311, 1001),
  (0, 86, 69, 1002),
  (0, 89, 33, 985),
  (0, 92, 35, 986),
  (2, 17, 87, 221),
  (2, 31, 89, 651),
  (2, 35, 311, 685),
  (3, 31, 30, 587),
  (3, 35, 31, 626),
  (3, 38, 41, 451),
  (3, 41, 113, 455),
  (3, 47, 114, 456),
  (3, 51, 42, 457),
  (4, 25, 309, 1040),
  (4, 31, 46, 1046),
  (4, 41, 68, 1055),
  (4, 46, 69, 1056),
  (5, 39, 37, 723),
  (5, 45, 99, 724),
  (5, 67, 49, 719),
  (5, 71, 93, 725),
  (5, 74, 97, 726),
  (5, 77, 100, 727),
  (5, 80, 105, 706),
  (5, 84, 106, 710),
  (5, 87, 103, 714),
  (5, 90, 50, 715),
  (5, 93, 107, 728),
  (5, 96, 104, 774),
  (5, 100, 108, 778),
  (5, 103, 96, 782),
  (5, 107, 94, 786),
  (5, 110, 98, 787),
  (5, 113, 33, 745),
  (5, 116, 76, 746),
  (5, 122, 77, 750),
  (5, 126, 36, 740),
  (5, 129, 58, 741),
  (5, 132, 59, 1090),
  (5, 135, 62, 757),
  (5, 139, 35, 761),
  (5, 142, 63, 765),
  (5, 145, 310, 769),
  (5, 150, 61, 736),
  (6, 19, 68, 811),
  (6, 22, 69, 815),
  (7, 28, 78, 754),
  (7, 35, 118, 531),
  (7, 41, 113, 532),
  (7, 44, 81, 533),
  (7, 48, 119, 566),
  (7, 51, 127, 567),
  (7, 60, 83, 537),
  (7, 64, 120, 542),
  (7, 67, 82, 563),
  (7, 71, 123, 547),
  (7, 74, 80, 556),
  (7, 77, 124, 541),
  (7, 81, 84, 543),
  (7, 84, 85, 551),
  (7, 88, 126, 555),
  (7, 91, 86, 560),
  (8, 15, 111, 465),
  (8, 25, 91, 515),
  (8, 29, 90, 600),
  (8, 33, 97, 596),
  (8, 37, 99, 604),
  (9, 25, 120, 415),
  (9, 29, 121, 431),
  (9, 33, 122, 435),
  (10, 9, 112, 135),
  (10, 18, 26, 155),
  (10, 25, 75, 180),
  (10, 32, 87, 205),
  (10, 39, 18, 215),
  (10, 46, 67, 240),
  (10, 53, 48, 253),
  (10, 62, 0, 299),
  (10, 71, 43, 318),
  (10, 86, 115, 382),
  (10, 90, 116, 390),
  (10, 94, 10, 398),
  (10, 100, 40, 447),
  (10, 104, 88, 461),
  (10, 107, 20, 469),
  (10, 114, 117, 473),
  (10, 115, 27, 477),
  (10, 119, 113, 485),
  (10, 122, 28, 486),
  (10, 125, 13, 490),
  (10, 129, 133, 500),
  (10, 132, 118, 504),
  (10, 136, 121, 505),
  (10, 140, 126, 506),
  (10, 143, 124, 507),
  (10, 146, 310, 508),
  (10, 152, 92, 511),
  (10, 156, 39, 519),
  (10, 158, 79, 527),
  (10, 161, 30, 579),
  (10, 171, 33, 583),
  (10, 174, 34, 850),
  (10, 177, 136, 1263),
  (10, 180, 35, 831),
  (10, 183, 95, 672),
  (10, 186, 31, 575),
  (10, 191, 37, 635),
  (10, 194, 93, 631),
  (10, 197, 97, 1184),
  (10, 200, 138, 588),
  (10, 203, 110, 827),
  (10, 206, 100, 592),
  (10, 209, 36, 608),
  (10, 212, 141, 616),
  (10, 215, 38, 622),
  (10, 218, 142, 627),
  (10, 221, 311, 619),
  (10, 224, 94, 639),
  (10, 227, 21, 647),
  (10, 231, 152, 656),
  (10, 234, 150, 677),
  (10, 237, 153, 690),
  (10, 240, 154, 698),
  (10, 243, 22, 681),
  (10, 246, 53, 795),
  (10, 249, 56, 799),
  (10, 252, 55, 803),
  (10, 255, 72, 807),
  (10, 259, 155, 823),
  (10, 262, 156, 837),
  (10, 265, 157, 846),
  (10, 268, 158, 859),
  (10, 271, 151, 660),
  (10, 275, 109, 664),
  (10, 278, 103, 668),
  (10, 281, 111, 676),
  (10, 284, 51, 702),
  (10, 287, 64, 732),
  (10, 290, 52, 770),
  (10, 293, 54, 791),
  (10, 296, 96, 832),
  (10, 299, 104, 841),
  (10, 302, 98, 854),
  (10, 305, 101, 863),
  (10, 308, 102, 867),
  (10, 310, 15, 875),
  (10, 313, 123, 883),
  (10, 316, 160, 884),
  (10, 320, 71, 888),
  (10, 322, 23, 896),
  (10, 326, 19, 900),
  (10, 329, 163, 912),
  (10, 333, 50, 916),
  (10, 336, 65, 917),
  (10, 339, 70, 921),
  (10, 341, 61, 929),
  (10, 344, 166, 930),
  (10, 347, 66, 938),
  (10, 350, 68, 946),
  (10, 351, 169, 947),
  (10, 355, 1, 955),
  (10, 358, 5, 973),
  (10, 362, 7, 996),
  (10, 366, 29, 1007),
  (10, 369, 9, 1012),
  (10, 372, 173, 1020),
  (10, 375, 32, 1028),
  (10, 378, 44, 1032),
  (10, 381, 45, 1036),
  (10, 384, 47, 1051),
  (10, 386, 309, 1065),
  (10, 391, 57, 1070),
  (10, 394, 59, 1078),
  (10, 397, 60, 1086),
  (10, 400, 17, 1095),
  (10, 404, 114, 1098),
  (10, 407, 183, 1103),
  (10, 410, 185, 1111),
  (10, 413, 69, 1117),
  (10, 416, 76, 1115),
  (10, 420, 77, 1116),
  (10, 423, 187, 1122),
  (10, 426, 99, 1126),
  (10, 429, 74, 1127),
  (10, 430, 189, 1135),
  (10, 436, 191, 1143),
  (10, 439, 193, 1153),
  (10, 442, 192, 1147),
  (10, 445, 49, 1152),
  (10, 449, 24, 1161),
  (10, 453, 25, 1169),
  (10, 456, 105, 1177),
  (10, 459, 106, 1178),
  (10, 462, 107, 1179),
  (10, 465, 197, 1180),
  (10, 468, 73, 1185),
  (11, 99, 200, 1289),
  (11, 112, 202, 1463),
  (11, 119, 207, 1553),
  (11, 141, 215, 1474),
  (11, 145, 214, 1490),
  (11, 149, 217, 1486),
  (11, 153, 216, 1478),
  (11, 157, 219, 1506),
  (11, 164, 213, 1470),
  (11, 168, 221, 1482),
  (11, 180, 220, 1502),
  (11, 184, 218, 1510),
  (11, 188, 223, 1498),
  (11, 194, 226, 1522),
  (11, 197, 227, 1526),
  (11, 200, 229, 1530),
  (11, 203, 225, 1518),
  (11, 206, 228, 1534),
  (11, 216, 232, 1557),
  (11, 220, 233, 1629),
  (11, 224, 231, 1633),
  (11, 231, 311, 1572),
  (11, 236, 234, 1621),
  (11, 240, 235, 1625),
  (11, 244, 206, 1541),
  (11, 247, 204, 1545),
  (11, 250, 209, 1561),
  (11, 254, 310, 1573),
  (11, 257, 241, 1594),
  (11, 261, 208, 1582),
  (11, 265, 210, 1586),
  (11, 268, 243, 1578),
  (11, 271, 242, 1590),
  (11, 275, 244, 1597),
  (11, 279, 246, 1605),
  (11, 285, 236, 1617),
  (11, 288, 248, 1613),
  (11, 291, 205, 1637),
  (11, 294, 250, 1649),
  (11, 297, 251, 1645),
  (11, 300, 252, 1653),
  (11, 303, 254, 1661),
  (11, 306, 255, 1665),
  (11, 309, 203, 1681),
  (11, 312, 257, 1677),
  (11, 315, 258, 1673),
  (11, 318, 259, 1684),
  (11, 321, 261, 1692),
  (11, 324, 262, 1696),
  (11, 327, 265, 1704),
  (11, 333, 266, 1708),
  (11, 336, 268, 1716),
  (11, 339, 271, 1736),
  (11, 342, 272, 1728),
  (11, 345, 270, 1732),
  (11, 353, 276, 1753),
  (11, 357, 278, 1769),
  (11, 361, 279, 1761),
  (11, 364, 280, 1765),
  (11, 368, 284, 1785),
  (11, 374, 286, 1798),
  (11, 378, 287, 1793),
  (11, 381, 309, 1797),
  (11, 386, 293, 1818),
  (11, 389, 292, 1826),
  (11, 392, 297, 1838),
  (11, 395, 300, 1850),
  (11, 402, 303, 1862),
  (12, 9, 11, 401),
  (12, 15, 113, 439),
  (12, 21, 114, 443),
  (12, 25, 118, 404),
  (12, 29, 12, 408),
  (12, 33, 119, 423),
  (12, 36, 124, 411),
  (12, 40, 127, 427),
  (12, 43, 125, 419),
  (12, 47, 14, 493),
  (12, 51, 126, 496),
  (12, 54, 16, 878),
  (12, 57, 120, 881),
  (12, 60, 123, 882)]
def jx_KL : List (Nat × Nat × Nat × Nat) := [(2, 11, 8, 219), (10, 7, 9, 133), (10, 16, 3, 153), (10, 23, 7, 178), (10, 30, 8, 203), (10, 37, 2, 213), (10, 44, 6, 238), (10, 51, 5, 251), (10, 60, 0, 297), (10, 69, 4, 316)]
def jx_CL : List (Nat × Nat × Int32 × Nat) := [(10, 448, 1103515245, 1151), (11, 352, 1000000, 1752), (11, 401, 1103515245, 1866), (13, 265, 1431655765, 1043), (13, 266, 858993459, 1044), (13, 267, 252645135, 1045)]
def jx_OL : List (Nat × Nat × Nat) := [(0, 3, 302), (2, 3, 218), (3, 3, 158), (4, 3, 321), (5, 3, 256), (6, 3, 243), (7, 3, 183), (8, 5, 208), (9, 3, 138), (10, 1, 130), (11, 3, 1288)]
def jx_AL : List (Nat × Nat × Nat) := [(4, 35, 1050), (7, 54, 568), (8, 19, 655)]
theorem jx_mem {w : Cond} {i : Nat} (h : lw_tbl[i]? = some w) (hg : goodWord w = true) : w ∈ lw_g := List.mem_filter.mpr ⟨List.mem_of_getElem? h, hg⟩
theorem jx_FL_ok : ∀ q ∈ jx_FL, Cond.fieldLink (jx_nm q.1) q.2.1 (jx_nm q.2.2.1) ((jx_cl.getD q.2.2.1 ("", jx_T0, 0)).2.1 q.2.2.2.1).2.1 ((jx_cl.getD q.2.2.1 ("", jx_T0, 0)).2.1 q.2.2.2.1).2.2.1 ∈ lw_g := by
  have h : jx_FL.all (fun q => decide (lw_tbl[q.2.2.2.2]? = some (Cond.fieldLink (jx_nm q.1) q.2.1 (jx_nm q.2.2.1) ((jx_cl.getD q.2.2.1 ("", jx_T0, 0)).2.1 q.2.2.2.1).2.1 ((jx_cl.getD q.2.2.1 ("", jx_T0, 0)).2.1 q.2.2.2.1).2.2.1))) = true := by decide +kernel
  intro q hq
  exact jx_mem (of_decide_eq_true (List.all_eq_true.mp h q hq)) rfl
theorem jx_ML_ok : ∀ q ∈ jx_ML, Cond.methodLink (jx_nm q.1) q.2.1 (jx_ys.getD q.2.2.1 ⟨"", "", ""⟩) ∈ lw_g := by
  have h : jx_ML.all (fun q => decide (lw_tbl[q.2.2.2]? = some (Cond.methodLink (jx_nm q.1) q.2.1 (jx_ys.getD q.2.2.1 ⟨"", "", ""⟩)))) = true := by decide +kernel
  intro q hq
  exact jx_mem (of_decide_eq_true (List.all_eq_true.mp h q hq)) rfl
theorem jx_KL_ok : ∀ q ∈ jx_KL, Cond.classLink (jx_nm q.1) q.2.1 (jx_nm q.2.2.1) ∈ lw_g := by
  have h : jx_KL.all (fun q => decide (lw_tbl[q.2.2.2]? = some (Cond.classLink (jx_nm q.1) q.2.1 (jx_nm q.2.2.1)))) = true := by decide +kernel
  intro q hq
  exact jx_mem (of_decide_eq_true (List.all_eq_true.mp h q hq)) rfl
theorem jx_CL_ok : ∀ q ∈ jx_CL, Cond.constant (jx_nm q.1) q.2.1 q.2.2.1 ∈ lw_g := by
  have h : jx_CL.all (fun q => decide (lw_tbl[q.2.2.2]? = some (Cond.constant (jx_nm q.1) q.2.1 q.2.2.1))) = true := by decide +kernel
  intro q hq
  exact jx_mem (of_decide_eq_true (List.all_eq_true.mp h q hq)) rfl
theorem jx_OL_ok : ∀ q ∈ jx_OL, Cond.methodLink (jx_nm q.1) q.2.1 Lib.objectInit ∈ lw_g := by
  have h : jx_OL.all (fun q => decide (lw_tbl[q.2.2]? = some (Cond.methodLink (jx_nm q.1) q.2.1 Lib.objectInit))) = true := by decide +kernel
  intro q hq
  exact jx_mem (of_decide_eq_true (List.all_eq_true.mp h q hq)) rfl
theorem jx_AL_ok : ∀ q ∈ jx_AL, Cond.methodLink (jx_nm q.1) q.2.1 arraycopyName ∈ lw_g := by
  have h : jx_AL.all (fun q => decide (lw_tbl[q.2.2]? = some (Cond.methodLink (jx_nm q.1) q.2.1 arraycopyName))) = true := by decide +kernel
  intro q hq
  exact jx_mem (of_decide_eq_true (List.all_eq_true.mp h q hq)) rfl
theorem jx_lay0 : ∀ w ∈ u_ws "OfDifferentMinds$Atlas" jx_T0 4, w ∈ lw_g := by
  have h : ((u_ws "OfDifferentMinds$Atlas" jx_T0 4).zip ([307, 309, 311, 313] : List Nat)).all (fun q => decide (lw_tbl[q.2]? = some q.1) && goodWord q.1) = true := by decide +kernel
  intro w hw
  obtain ⟨k, hk⟩ := List.getElem?_of_mem hw
  have hl : k < 4 := by
    have := (List.getElem?_eq_some_iff.mp hk).1
    simpa [u_ws] using this
  have hz := List.all_eq_true.mp h (w, ([307, 309, 311, 313] : List Nat).getD k 0) (by
    refine List.mem_of_getElem? (i := k) ?_
    rw [List.getElem?_zip_eq_some]
    refine ⟨hk, ?_⟩
    rw [List.getD_eq_getElem?_getD, List.getElem?_eq_getElem (by simpa using hl)]
    rfl)
  simp only [Bool.and_eq_true, decide_eq_true_eq] at hz
  exact jx_mem hz.1 hz.2
theorem jx_nd0 : ∀ a, a < 4 → ∀ b, b < 4 → a ≠ b → (jx_T0 a).2.1 ≠ (jx_T0 b).2.1 := by decide +kernel
theorem jx_tk0 : ∀ k, k < 4 → parseFieldDescriptor (jx_T0 k).2.2.1 = some (jx_ty 0 k) := by decide +kernel
theorem jx_lay1 : ∀ w ∈ u_ws "java/util/NoSuchElementException" jx_T1 0, w ∈ lw_g := by
  have h : ((u_ws "java/util/NoSuchElementException" jx_T1 0).zip ([] : List Nat)).all (fun q => decide (lw_tbl[q.2]? = some q.1) && goodWord q.1) = true := by decide +kernel
  intro w hw
  obtain ⟨k, hk⟩ := List.getElem?_of_mem hw
  have hl : k < 0 := by
    have := (List.getElem?_eq_some_iff.mp hk).1
    simpa [u_ws] using this
  have hz := List.all_eq_true.mp h (w, ([] : List Nat).getD k 0) (by
    refine List.mem_of_getElem? (i := k) ?_
    rw [List.getElem?_zip_eq_some]
    refine ⟨hk, ?_⟩
    rw [List.getD_eq_getElem?_getD, List.getElem?_eq_getElem (by simpa using hl)]
    rfl)
  simp only [Bool.and_eq_true, decide_eq_true_eq] at hz
  exact jx_mem hz.1 hz.2
theorem jx_nd1 : ∀ a, a < 0 → ∀ b, b < 0 → a ≠ b → (jx_T1 a).2.1 ≠ (jx_T1 b).2.1 := by decide +kernel
theorem jx_tk1 : ∀ k, k < 0 → parseFieldDescriptor (jx_T1 k).2.2.1 = some (jx_ty 1 k) := by decide +kernel
theorem jx_lay2 : ∀ w ∈ u_ws "OfDifferentMinds$History" jx_T2 5, w ∈ lw_g := by
  have h : ((u_ws "OfDifferentMinds$History" jx_T2 5).zip ([227, 229, 231, 233, 235] : List Nat)).all (fun q => decide (lw_tbl[q.2]? = some q.1) && goodWord q.1) = true := by decide +kernel
  intro w hw
  obtain ⟨k, hk⟩ := List.getElem?_of_mem hw
  have hl : k < 5 := by
    have := (List.getElem?_eq_some_iff.mp hk).1
    simpa [u_ws] using this
  have hz := List.all_eq_true.mp h (w, ([227, 229, 231, 233, 235] : List Nat).getD k 0) (by
    refine List.mem_of_getElem? (i := k) ?_
    rw [List.getElem?_zip_eq_some]
    refine ⟨hk, ?_⟩
    rw [List.getD_eq_getElem?_getD, List.getElem?_eq_getElem (by simpa using hl)]
    rfl)
  simp only [Bool.and_eq_true, decide_eq_true_eq] at hz
  exact jx_mem hz.1 hz.2
theorem jx_nd2 : ∀ a, a < 5 → ∀ b, b < 5 → a ≠ b → (jx_T2 a).2.1 ≠ (jx_T2 b).2.1 := by decide +kernel
theorem jx_tk2 : ∀ k, k < 5 → parseFieldDescriptor (jx_T2 k).2.2.1 = some (jx_ty 2 k) := by decide +kernel
theorem jx_lay3 : ∀ w ∈ u_ws "OfDifferentMinds$Land" jx_T3 6, w ∈ lw_g := by
  have h : ((u_ws "OfDifferentMinds$Land" jx_T3 6).zip ([165, 167, 169, 171, 173, 175] : List Nat)).all (fun q => decide (lw_tbl[q.2]? = some q.1) && goodWord q.1) = true := by decide +kernel
  intro w hw
  obtain ⟨k, hk⟩ := List.getElem?_of_mem hw
  have hl : k < 6 := by
    have := (List.getElem?_eq_some_iff.mp hk).1
    simpa [u_ws] using this
  have hz := List.all_eq_true.mp h (w, ([165, 167, 169, 171, 173, 175] : List Nat).getD k 0) (by
    refine List.mem_of_getElem? (i := k) ?_
    rw [List.getElem?_zip_eq_some]
    refine ⟨hk, ?_⟩
    rw [List.getD_eq_getElem?_getD, List.getElem?_eq_getElem (by simpa using hl)]
    rfl)
  simp only [Bool.and_eq_true, decide_eq_true_eq] at hz
  exact jx_mem hz.1 hz.2
theorem jx_nd3 : ∀ a, a < 6 → ∀ b, b < 6 → a ≠ b → (jx_T3 a).2.1 ≠ (jx_T3 b).2.1 := by decide +kernel
theorem jx_tk3 : ∀ k, k < 6 → parseFieldDescriptor (jx_T3 k).2.2.1 = some (jx_ty 3 k) := by decide +kernel
theorem jx_lay4 : ∀ w ∈ u_ws "OfDifferentMinds$Matching" jx_T4 4, w ∈ lw_g := by
  have h : ((u_ws "OfDifferentMinds$Matching" jx_T4 4).zip ([326, 328, 330, 332] : List Nat)).all (fun q => decide (lw_tbl[q.2]? = some q.1) && goodWord q.1) = true := by decide +kernel
  intro w hw
  obtain ⟨k, hk⟩ := List.getElem?_of_mem hw
  have hl : k < 4 := by
    have := (List.getElem?_eq_some_iff.mp hk).1
    simpa [u_ws] using this
  have hz := List.all_eq_true.mp h (w, ([326, 328, 330, 332] : List Nat).getD k 0) (by
    refine List.mem_of_getElem? (i := k) ?_
    rw [List.getElem?_zip_eq_some]
    refine ⟨hk, ?_⟩
    rw [List.getD_eq_getElem?_getD, List.getElem?_eq_getElem (by simpa using hl)]
    rfl)
  simp only [Bool.and_eq_true, decide_eq_true_eq] at hz
  exact jx_mem hz.1 hz.2
theorem jx_nd4 : ∀ a, a < 4 → ∀ b, b < 4 → a ≠ b → (jx_T4 a).2.1 ≠ (jx_T4 b).2.1 := by decide +kernel
theorem jx_tk4 : ∀ k, k < 4 → parseFieldDescriptor (jx_T4 k).2.2.1 = some (jx_ty 4 k) := by decide +kernel
theorem jx_lay5 : ∀ w ∈ u_ws "OfDifferentMinds$Ride" jx_T5 13, w ∈ lw_g := by
  have h : ((u_ws "OfDifferentMinds$Ride" jx_T5 13).zip ([270, 272, 274, 276, 278, 280, 282, 284, 286, 288, 290, 292, 294] : List Nat)).all (fun q => decide (lw_tbl[q.2]? = some q.1) && goodWord q.1) = true := by decide +kernel
  intro w hw
  obtain ⟨k, hk⟩ := List.getElem?_of_mem hw
  have hl : k < 13 := by
    have := (List.getElem?_eq_some_iff.mp hk).1
    simpa [u_ws] using this
  have hz := List.all_eq_true.mp h (w, ([270, 272, 274, 276, 278, 280, 282, 284, 286, 288, 290, 292, 294] : List Nat).getD k 0) (by
    refine List.mem_of_getElem? (i := k) ?_
    rw [List.getElem?_zip_eq_some]
    refine ⟨hk, ?_⟩
    rw [List.getD_eq_getElem?_getD, List.getElem?_eq_getElem (by simpa using hl)]
    rfl)
  simp only [Bool.and_eq_true, decide_eq_true_eq] at hz
  exact jx_mem hz.1 hz.2
theorem jx_nd5 : ∀ a, a < 13 → ∀ b, b < 13 → a ≠ b → (jx_T5 a).2.1 ≠ (jx_T5 b).2.1 := by decide +kernel
theorem jx_tk5 : ∀ k, k < 13 → parseFieldDescriptor (jx_T5 k).2.2.1 = some (jx_ty 5 k) := by decide +kernel
theorem jx_lay6 : ∀ w ∈ u_ws "OfDifferentMinds$Row" jx_T6 2, w ∈ lw_g := by
  have h : ((u_ws "OfDifferentMinds$Row" jx_T6 2).zip ([246, 248] : List Nat)).all (fun q => decide (lw_tbl[q.2]? = some q.1) && goodWord q.1) = true := by decide +kernel
  intro w hw
  obtain ⟨k, hk⟩ := List.getElem?_of_mem hw
  have hl : k < 2 := by
    have := (List.getElem?_eq_some_iff.mp hk).1
    simpa [u_ws] using this
  have hz := List.all_eq_true.mp h (w, ([246, 248] : List Nat).getD k 0) (by
    refine List.mem_of_getElem? (i := k) ?_
    rw [List.getElem?_zip_eq_some]
    refine ⟨hk, ?_⟩
    rw [List.getD_eq_getElem?_getD, List.getElem?_eq_getElem (by simpa using hl)]
    rfl)
  simp only [Bool.and_eq_true, decide_eq_true_eq] at hz
  exact jx_mem hz.1 hz.2
theorem jx_nd6 : ∀ a, a < 2 → ∀ b, b < 2 → a ≠ b → (jx_T6 a).2.1 ≠ (jx_T6 b).2.1 := by decide +kernel
theorem jx_tk6 : ∀ k, k < 2 → parseFieldDescriptor (jx_T6 k).2.2.1 = some (jx_ty 6 k) := by decide +kernel
theorem jx_lay7 : ∀ w ∈ u_ws "OfDifferentMinds$Rule" jx_T7 6, w ∈ lw_g := by
  have h : ((u_ws "OfDifferentMinds$Rule" jx_T7 6).zip ([190, 192, 194, 196, 198, 200] : List Nat)).all (fun q => decide (lw_tbl[q.2]? = some q.1) && goodWord q.1) = true := by decide +kernel
  intro w hw
  obtain ⟨k, hk⟩ := List.getElem?_of_mem hw
  have hl : k < 6 := by
    have := (List.getElem?_eq_some_iff.mp hk).1
    simpa [u_ws] using this
  have hz := List.all_eq_true.mp h (w, ([190, 192, 194, 196, 198, 200] : List Nat).getD k 0) (by
    refine List.mem_of_getElem? (i := k) ?_
    rw [List.getElem?_zip_eq_some]
    refine ⟨hk, ?_⟩
    rw [List.getD_eq_getElem?_getD, List.getElem?_eq_getElem (by simpa using hl)]
    rfl)
  simp only [Bool.and_eq_true, decide_eq_true_eq] at hz
  exact jx_mem hz.1 hz.2
theorem jx_nd7 : ∀ a, a < 6 → ∀ b, b < 6 → a ≠ b → (jx_T7 a).2.1 ≠ (jx_T7 b).2.1 := by decide +kernel
theorem jx_tk7 : ∀ k, k < 6 → parseFieldDescriptor (jx_T7 k).2.2.1 = some (jx_ty 7 k) := by decide +kernel
theorem jx_lay8 : ∀ w ∈ u_ws "OfDifferentMinds$Standing" jx_T8 1, w ∈ lw_g := by
  have h : ((u_ws "OfDifferentMinds$Standing" jx_T8 1).zip ([210] : List Nat)).all (fun q => decide (lw_tbl[q.2]? = some q.1) && goodWord q.1) = true := by decide +kernel
  intro w hw
  obtain ⟨k, hk⟩ := List.getElem?_of_mem hw
  have hl : k < 1 := by
    have := (List.getElem?_eq_some_iff.mp hk).1
    simpa [u_ws] using this
  have hz := List.all_eq_true.mp h (w, ([210] : List Nat).getD k 0) (by
    refine List.mem_of_getElem? (i := k) ?_
    rw [List.getElem?_zip_eq_some]
    refine ⟨hk, ?_⟩
    rw [List.getD_eq_getElem?_getD, List.getElem?_eq_getElem (by simpa using hl)]
    rfl)
  simp only [Bool.and_eq_true, decide_eq_true_eq] at hz
  exact jx_mem hz.1 hz.2
theorem jx_nd8 : ∀ a, a < 1 → ∀ b, b < 1 → a ≠ b → (jx_T8 a).2.1 ≠ (jx_T8 b).2.1 := by decide +kernel
theorem jx_tk8 : ∀ k, k < 1 → parseFieldDescriptor (jx_T8 k).2.2.1 = some (jx_ty 8 k) := by decide +kernel
theorem jx_lay9 : ∀ w ∈ u_ws "OfDifferentMinds$Text" jx_T9 4, w ∈ lw_g := by
  have h : ((u_ws "OfDifferentMinds$Text" jx_T9 4).zip ([143, 145, 147, 149] : List Nat)).all (fun q => decide (lw_tbl[q.2]? = some q.1) && goodWord q.1) = true := by decide +kernel
  intro w hw
  obtain ⟨k, hk⟩ := List.getElem?_of_mem hw
  have hl : k < 4 := by
    have := (List.getElem?_eq_some_iff.mp hk).1
    simpa [u_ws] using this
  have hz := List.all_eq_true.mp h (w, ([143, 145, 147, 149] : List Nat).getD k 0) (by
    refine List.mem_of_getElem? (i := k) ?_
    rw [List.getElem?_zip_eq_some]
    refine ⟨hk, ?_⟩
    rw [List.getD_eq_getElem?_getD, List.getElem?_eq_getElem (by simpa using hl)]
    rfl)
  simp only [Bool.and_eq_true, decide_eq_true_eq] at hz
  exact jx_mem hz.1 hz.2
theorem jx_nd9 : ∀ a, a < 4 → ∀ b, b < 4 → a ≠ b → (jx_T9 a).2.1 ≠ (jx_T9 b).2.1 := by decide +kernel
theorem jx_tk9 : ∀ k, k < 4 → parseFieldDescriptor (jx_T9 k).2.2.1 = some (jx_ty 9 k) := by decide +kernel
theorem jx_lay10 : ∀ w ∈ u_ws "OfDifferentMinds" jx_T10 14, w ∈ lw_g := by
  have h : ((u_ws "OfDifferentMinds" jx_T10 14).zip ([349, 351, 353, 355, 357, 359, 361, 363, 365, 367, 369, 371, 373, 375] : List Nat)).all (fun q => decide (lw_tbl[q.2]? = some q.1) && goodWord q.1) = true := by decide +kernel
  intro w hw
  obtain ⟨k, hk⟩ := List.getElem?_of_mem hw
  have hl : k < 14 := by
    have := (List.getElem?_eq_some_iff.mp hk).1
    simpa [u_ws] using this
  have hz := List.all_eq_true.mp h (w, ([349, 351, 353, 355, 357, 359, 361, 363, 365, 367, 369, 371, 373, 375] : List Nat).getD k 0) (by
    refine List.mem_of_getElem? (i := k) ?_
    rw [List.getElem?_zip_eq_some]
    refine ⟨hk, ?_⟩
    rw [List.getD_eq_getElem?_getD, List.getElem?_eq_getElem (by simpa using hl)]
    rfl)
  simp only [Bool.and_eq_true, decide_eq_true_eq] at hz
  exact jx_mem hz.1 hz.2
theorem jx_nd10 : ∀ a, a < 14 → ∀ b, b < 14 → a ≠ b → (jx_T10 a).2.1 ≠ (jx_T10 b).2.1 := by decide +kernel
theorem jx_tk10 : ∀ k, k < 14 → parseFieldDescriptor (jx_T10 k).2.2.1 = some (jx_ty 10 k) := by decide +kernel
theorem jx_lay11 : ∀ w ∈ u_ws "OfDifferentMindsModel" jx_T11 52, w ∈ lw_g := by
  have h : ((u_ws "OfDifferentMindsModel" jx_T11 52).zip ([1345, 1347, 1349, 1351, 1353, 1355, 1357, 1359, 1361, 1363, 1365, 1367, 1369, 1371, 1373, 1375, 1377, 1379, 1381, 1383, 1385, 1387, 1389, 1391, 1393, 1395, 1397, 1399, 1401, 1403, 1405, 1407, 1409, 1411, 1413, 1415, 1417, 1419, 1421, 1423, 1425, 1427, 1429, 1431, 1433, 1435, 1437, 1439, 1441, 1443, 1445, 1447] : List Nat)).all (fun q => decide (lw_tbl[q.2]? = some q.1) && goodWord q.1) = true := by decide +kernel
  intro w hw
  obtain ⟨k, hk⟩ := List.getElem?_of_mem hw
  have hl : k < 52 := by
    have := (List.getElem?_eq_some_iff.mp hk).1
    simpa [u_ws] using this
  have hz := List.all_eq_true.mp h (w, ([1345, 1347, 1349, 1351, 1353, 1355, 1357, 1359, 1361, 1363, 1365, 1367, 1369, 1371, 1373, 1375, 1377, 1379, 1381, 1383, 1385, 1387, 1389, 1391, 1393, 1395, 1397, 1399, 1401, 1403, 1405, 1407, 1409, 1411, 1413, 1415, 1417, 1419, 1421, 1423, 1425, 1427, 1429, 1431, 1433, 1435, 1437, 1439, 1441, 1443, 1445, 1447] : List Nat).getD k 0) (by
    refine List.mem_of_getElem? (i := k) ?_
    rw [List.getElem?_zip_eq_some]
    refine ⟨hk, ?_⟩
    rw [List.getD_eq_getElem?_getD, List.getElem?_eq_getElem (by simpa using hl)]
    rfl)
  simp only [Bool.and_eq_true, decide_eq_true_eq] at hz
  exact jx_mem hz.1 hz.2
theorem jx_nd11 : ∀ a, a < 52 → ∀ b, b < 52 → a ≠ b → (jx_T11 a).2.1 ≠ (jx_T11 b).2.1 := by decide +kernel
theorem jx_tk11 : ∀ k, k < 52 → parseFieldDescriptor (jx_T11 k).2.2.1 = some (jx_ty 11 k) := by decide +kernel
/-- what is known of a class of the worlds -/
def jx_okC (c : Nat) (q : vw_C) : Prop := q.1 = jx_nm c ∧ q.2.2 ≤ 64 ∧ (∀ w ∈ u_ws q.1 q.2.1 q.2.2, w ∈ lw_g) ∧ (∀ a, a < q.2.2 → ∀ b, b < q.2.2 → a ≠ b → (q.2.1 a).2.1 ≠ (q.2.1 b).2.1) ∧ (∀ k, k < q.2.2 → parseFieldDescriptor (q.2.1 k).2.2.1 = some (jx_ty c k)) ∧ (∀ k, k < q.2.2 → (q.2.1 k).1 = q.1)
theorem jx_cl_ok : ∀ (c : Nat) (q : vw_C), jx_cl[c]? = some q → jx_okC c q := by
  intro c q h
  match c, h with
  | 0, h => cases h; exact ⟨rfl, by decide, jx_lay0, jx_nd0, jx_tk0, by decide +kernel⟩
  | 1, h => cases h; exact ⟨rfl, by decide, jx_lay1, jx_nd1, jx_tk1, by decide +kernel⟩
  | 2, h => cases h; exact ⟨rfl, by decide, jx_lay2, jx_nd2, jx_tk2, by decide +kernel⟩
  | 3, h => cases h; exact ⟨rfl, by decide, jx_lay3, jx_nd3, jx_tk3, by decide +kernel⟩
  | 4, h => cases h; exact ⟨rfl, by decide, jx_lay4, jx_nd4, jx_tk4, by decide +kernel⟩
  | 5, h => cases h; exact ⟨rfl, by decide, jx_lay5, jx_nd5, jx_tk5, by decide +kernel⟩
  | 6, h => cases h; exact ⟨rfl, by decide, jx_lay6, jx_nd6, jx_tk6, by decide +kernel⟩
  | 7, h => cases h; exact ⟨rfl, by decide, jx_lay7, jx_nd7, jx_tk7, by decide +kernel⟩
  | 8, h => cases h; exact ⟨rfl, by decide, jx_lay8, jx_nd8, jx_tk8, by decide +kernel⟩
  | 9, h => cases h; exact ⟨rfl, by decide, jx_lay9, jx_nd9, jx_tk9, by decide +kernel⟩
  | 10, h => cases h; exact ⟨rfl, by decide, jx_lay10, jx_nd10, jx_tk10, by decide +kernel⟩
  | 11, h => cases h; exact ⟨rfl, by decide, jx_lay11, jx_nd11, jx_tk11, by decide +kernel⟩
  | k + 12, h => simp [jx_cl] at h
theorem jx_new_ok : ∀ (c : Nat) (q : vw_C), jx_cl[c]? = some q → c ≠ 1 → c < 12 → Cond.instantiable q.1 q.2.2 ∈ lw_g ∧ Cond.initialized q.1 ∈ lw_g := by
  intro c q h h1 h12
  match c, h, h1, h12 with
  | 0, h, h1, h12 => cases h; exact ⟨jx_mem (i := 298) (by decide +kernel) rfl, jx_mem (i := 114) (by decide +kernel) rfl⟩
  | 1, h, h1, h12 => exact absurd rfl h1
  | 2, h, h1, h12 => cases h; exact ⟨jx_mem (i := 214) (by decide +kernel) rfl, jx_mem (i := 111) (by decide +kernel) rfl⟩
  | 3, h, h1, h12 => cases h; exact ⟨jx_mem (i := 154) (by decide +kernel) rfl, jx_mem (i := 108) (by decide +kernel) rfl⟩
  | 4, h, h1, h12 => cases h; exact ⟨jx_mem (i := 317) (by decide +kernel) rfl, jx_mem (i := 115) (by decide +kernel) rfl⟩
  | 5, h, h1, h12 => cases h; exact ⟨jx_mem (i := 252) (by decide +kernel) rfl, jx_mem (i := 113) (by decide +kernel) rfl⟩
  | 6, h, h1, h12 => cases h; exact ⟨jx_mem (i := 239) (by decide +kernel) rfl, jx_mem (i := 112) (by decide +kernel) rfl⟩
  | 7, h, h1, h12 => cases h; exact ⟨jx_mem (i := 179) (by decide +kernel) rfl, jx_mem (i := 109) (by decide +kernel) rfl⟩
  | 8, h, h1, h12 => cases h; exact ⟨jx_mem (i := 204) (by decide +kernel) rfl, jx_mem (i := 110) (by decide +kernel) rfl⟩
  | 9, h, h1, h12 => cases h; exact ⟨jx_mem (i := 134) (by decide +kernel) rfl, jx_mem (i := 107) (by decide +kernel) rfl⟩
  | 10, h, h1, h12 => cases h; exact ⟨jx_mem (i := 126) (by decide +kernel) rfl, jx_mem (i := 106) (by decide +kernel) rfl⟩
  | 11, h, h1, h12 => cases h; exact ⟨jx_mem (i := 1284) (by decide +kernel) rfl, jx_mem (i := 116) (by decide +kernel) rfl⟩
  | k + 12, h, h1, h12 => omega
theorem jx_wo1 : Cond.instanceMethod Lib.objectInit ∈ lw_g := jx_mem (i := 131) (by decide +kernel) rfl
theorem jx_wo2 : Cond.code Lib.objectInit ⟨#[0xb1]⟩ 1 none ∈ lw_g := jx_mem (i := 132) (by first | decide +kernel | rfl) rfl
theorem jx_wa3 : Cond.initialized "java/lang/System" ∈ lw_g := jx_mem (i := 119) (by decide +kernel) rfl
theorem jx_wa2 : Cond.static arraycopyName ∈ lw_g := jx_mem (i := 569) (by decide +kernel) rfl
theorem jx_wa1 : Cond.native arraycopyName ∈ lw_g := jx_mem (i := 570) (by decide +kernel) rfl
theorem jx_wm0 : Cond.initialized "java/lang/Math" ∈ lw_g := jx_mem (i := 118) (by decide +kernel) rfl
theorem jx_wmax1 : Cond.static Lib.Math.max.name ∈ lw_g := jx_mem (i := 509) (by decide +kernel) rfl
theorem jx_wmax2 : Cond.code Lib.Math.max.name Lib.Math.max.code 2 (some .int) ∈ lw_g := jx_mem (i := 510) (by decide +kernel) rfl
theorem jx_wmin1 : Cond.static Lib.Math.min.name ∈ lw_g := jx_mem (i := 620) (by decide +kernel) rfl
theorem jx_wmin2 : Cond.code Lib.Math.min.name Lib.Math.min.code 2 (some .int) ∈ lw_g := jx_mem (i := 621) (by decide +kernel) rfl
theorem jx_wi : Cond.arrayClass .int ∈ lw_g := jx_mem (i := 152) (by decide +kernel) rfl
theorem jx_wb : Cond.arrayClass .byte ∈ lw_g := jx_mem (i := 1262) (by decide +kernel) rfl
theorem jx_wz : Cond.arrayClass .boolean ∈ lw_g := jx_mem (i := 1450) (by decide +kernel) rfl
