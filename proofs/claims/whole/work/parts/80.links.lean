/-! classes, methods and links of the claim, by their places in its tables; printed by wip/whole/gen2.py -/
def am_T0 : u_T := fun k => match k with
  | 0 => ("WhoIsWho", "told", "LWhoIsWho$Told;", true)
  | 1 => ("WhoIsWho", "keeper", "LWhoIsWho$Keeper;", true)
  | _ => ("WhoIsWho", "measured", "LWhoIsWho$Level;", true)
def am_Y0 : Nat → FieldType := fun k => match k with
  | 0 => .object "WhoIsWho$Told"
  | 1 => .object "WhoIsWho$Keeper"
  | _ => .object "WhoIsWho$Level"
def am_T1 : u_T := fun k => match k with
  | 0 => ("WhoIsWho$Told", "changed", "Z", false)
  | 1 => ("WhoIsWho$Told", "watchers", "I", false)
  | 2 => ("WhoIsWho$Told", "scanCount", "I", false)
  | 3 => ("WhoIsWho$Told", "shiftX", "[I", true)
  | 4 => ("WhoIsWho$Told", "shiftY", "[I", true)
  | 5 => ("WhoIsWho$Told", "scans", "[LWhoIsWho$Scan;", true)
  | 6 => ("WhoIsWho$Told", "order", "[I", true)
  | 7 => ("WhoIsWho$Told", "rules", "[I", true)
  | _ => ("WhoIsWho$Told", "kinds", "[I", true)
def am_Y1 : Nat → FieldType := fun k => match k with
  | 0 => .boolean
  | 1 => .int
  | 2 => .int
  | 3 => .array .int
  | 4 => .array .int
  | 5 => .array (.object "WhoIsWho$Scan")
  | 6 => .array .int
  | 7 => .array .int
  | _ => .array .int
def am_T2 : u_T := fun k => match k with
  | 0 => ("WhoIsWho$Keeper", "kept", "[LWhoIsWho$World;", false)
  | 1 => ("WhoIsWho$Keeper", "keptCount", "I", false)
  | 2 => ("WhoIsWho$Keeper", "spare", "[LWhoIsWho$World;", false)
  | _ => ("WhoIsWho$Keeper", "dealer", "LWhoIsWho$Dealer;", true)
def am_Y2 : Nat → FieldType := fun k => match k with
  | 0 => .array (.object "WhoIsWho$World")
  | 1 => .int
  | 2 => .array (.object "WhoIsWho$World")
  | _ => .object "WhoIsWho$Dealer"
def am_T3 : u_T := fun k => match k with
  | 0 => ("WhoIsWho$Dealer", "shortlist", "LWhoIsWho$Shortlist;", true)
  | 1 => ("WhoIsWho$Dealer", "miss", "I", false)
  | 2 => ("WhoIsWho$Dealer", "birth", "I", false)
  | 3 => ("WhoIsWho$Dealer", "falsely", "I", false)
  | 4 => ("WhoIsWho$Dealer", "gateSquare", "J", false)
  | 5 => ("WhoIsWho$Dealer", "parent", "I", false)
  | 6 => ("WhoIsWho$Dealer", "trackCount", "I", false)
  | 7 => ("WhoIsWho$Dealer", "dots", "I", false)
  | 8 => ("WhoIsWho$Dealer", "tolls", "[I", true)
  | 9 => ("WhoIsWho$Dealer", "leastFrom", "[I", true)
  | 10 => ("WhoIsWho$Dealer", "picks", "[I", true)
  | _ => ("WhoIsWho$Dealer", "taken", "[Z", true)
def am_Y3 : Nat → FieldType := fun k => match k with
  | 0 => .object "WhoIsWho$Shortlist"
  | 1 => .int
  | 2 => .int
  | 3 => .int
  | 4 => .long
  | 5 => .int
  | 6 => .int
  | 7 => .int
  | 8 => .array .int
  | 9 => .array .int
  | 10 => .array .int
  | _ => .array .boolean
def am_T4 : u_T := fun k => match k with
  | 0 => ("WhoIsWho$Shortlist", "length", "I", false)
  | 1 => ("WhoIsWho$Shortlist", "most", "I", false)
  | _ => ("WhoIsWho$Shortlist", "joins", "[LWhoIsWho$Join;", true)
def am_Y4 : Nat → FieldType := fun k => match k with
  | 0 => .int
  | 1 => .int
  | _ => .array (.object "WhoIsWho$Join")
def am_T5 : u_T := fun k => match k with
  | 0 => ("WhoIsWho$Level", "pairCount", "I", false)
  | 1 => ("WhoIsWho$Level", "sumX", "I", false)
  | _ => ("WhoIsWho$Level", "sumY", "I", false)
def am_Y5 : Nat → FieldType := fun k => match k with
  | 0 => .int
  | 1 => .int
  | _ => .int
def am_T6 : u_T := fun k => match k with
  | 0 => ("WhoIsWho$Scan", "watcher", "I", false)
  | 1 => ("WhoIsWho$Scan", "moment", "I", false)
  | 2 => ("WhoIsWho$Scan", "dots", "I", false)
  | 3 => ("WhoIsWho$Scan", "x", "[I", true)
  | 4 => ("WhoIsWho$Scan", "y", "[I", true)
  | _ => ("WhoIsWho$Scan", "mark", "[I", true)
def am_Y6 : Nat → FieldType := fun k => match k with
  | 0 => .int
  | 1 => .int
  | 2 => .int
  | 3 => .array .int
  | 4 => .array .int
  | _ => .array .int
def am_T7 : u_T := fun k => match k with
  | 0 => ("WhoIsWho$Join", "parent", "I", false)
  | 1 => ("WhoIsWho$Join", "total", "I", false)
  | _ => ("WhoIsWho$Join", "picks", "[I", true)
def am_Y7 : Nat → FieldType := fun k => match k with
  | 0 => .int
  | 1 => .int
  | _ => .array .int
def am_T8 : u_T := fun k => match k with
  | 0 => ("WhoIsWho$World", "total", "I", false)
  | 1 => ("WhoIsWho$World", "trackCount", "I", false)
  | 2 => ("WhoIsWho$World", "tracks", "[LWhoIsWho$Track;", true)
  | _ => ("WhoIsWho$World", "accounts", "[I", true)
def am_Y8 : Nat → FieldType := fun k => match k with
  | 0 => .int
  | 1 => .int
  | 2 => .array (.object "WhoIsWho$Track")
  | _ => .array .int
def am_T9 : u_T := fun k => match k with
  | 0 => ("WhoIsWho$Track", "x", "I", false)
  | 1 => ("WhoIsWho$Track", "y", "I", false)
  | 2 => ("WhoIsWho$Track", "u", "I", false)
  | 3 => ("WhoIsWho$Track", "v", "I", false)
  | 4 => ("WhoIsWho$Track", "latest", "I", false)
  | 5 => ("WhoIsWho$Track", "hits", "I", false)
  | 6 => ("WhoIsWho$Track", "missed", "I", false)
  | 7 => ("WhoIsWho$Track", "mark", "I", false)
  | _ => ("WhoIsWho$Track", "ended", "Z", false)
def am_Y9 : Nat → FieldType := fun k => match k with
  | 0 => .int
  | 1 => .int
  | 2 => .int
  | 3 => .int
  | 4 => .int
  | 5 => .int
  | 6 => .int
  | 7 => .int
  | _ => .boolean
def am_T10 : u_T := fun k => match k with
  | 0 => ("WhoIsWhoModel", "watchers", "I", false)
  | 1 => ("WhoIsWhoModel", "scans", "I", false)
  | 2 => ("WhoIsWhoModel", "waiting", "I", false)
  | 3 => ("WhoIsWhoModel", "shiftA", "[I", true)
  | 4 => ("WhoIsWhoModel", "shiftB", "[I", true)
  | 5 => ("WhoIsWhoModel", "watcherOf", "[I", true)
  | 6 => ("WhoIsWhoModel", "momentOf", "[I", true)
  | 7 => ("WhoIsWhoModel", "dots", "[I", true)
  | 8 => ("WhoIsWhoModel", "dotX", "[I", true)
  | 9 => ("WhoIsWhoModel", "dotY", "[I", true)
  | 10 => ("WhoIsWhoModel", "dotMark", "[I", true)
  | 11 => ("WhoIsWhoModel", "waitX", "[I", true)
  | 12 => ("WhoIsWhoModel", "waitY", "[I", true)
  | 13 => ("WhoIsWhoModel", "waitMark", "[I", true)
  | 14 => ("WhoIsWhoModel", "kinds", "[I", true)
  | 15 => ("WhoIsWhoModel", "rules", "[I", true)
  | 16 => ("WhoIsWhoModel", "isOld", "Z", false)
  | 17 => ("WhoIsWhoModel", "order", "[I", true)
  | 18 => ("WhoIsWhoModel", "kept", "I", false)
  | 19 => ("WhoIsWhoModel", "base", "I", false)
  | 20 => ("WhoIsWhoModel", "costs", "[I", true)
  | 21 => ("WhoIsWhoModel", "tracks", "[I", true)
  | 22 => ("WhoIsWhoModel", "accounts", "[I", true)
  | 23 => ("WhoIsWhoModel", "x", "[I", true)
  | 24 => ("WhoIsWhoModel", "y", "[I", true)
  | 25 => ("WhoIsWhoModel", "u", "[I", true)
  | 26 => ("WhoIsWhoModel", "v", "[I", true)
  | 27 => ("WhoIsWhoModel", "at", "[I", true)
  | 28 => ("WhoIsWhoModel", "hits", "[I", true)
  | 29 => ("WhoIsWhoModel", "missed", "[I", true)
  | 30 => ("WhoIsWhoModel", "mark", "[I", true)
  | 31 => ("WhoIsWhoModel", "ended", "[Z", true)
  | 32 => ("WhoIsWhoModel", "joins", "[I", true)
  | 33 => ("WhoIsWhoModel", "best", "I", false)
  | 34 => ("WhoIsWhoModel", "bestCost", "[I", true)
  | 35 => ("WhoIsWhoModel", "bestWorld", "[I", true)
  | 36 => ("WhoIsWhoModel", "bestJoin", "[I", true)
  | 37 => ("WhoIsWhoModel", "sumX", "I", false)
  | _ => ("WhoIsWhoModel", "sumY", "I", false)
def am_Y10 : Nat → FieldType := fun k => match k with
  | 0 => .int
  | 1 => .int
  | 2 => .int
  | 3 => .array .int
  | 4 => .array .int
  | 5 => .array .int
  | 6 => .array .int
  | 7 => .array .int
  | 8 => .array .int
  | 9 => .array .int
  | 10 => .array .int
  | 11 => .array .int
  | 12 => .array .int
  | 13 => .array .int
  | 14 => .array .int
  | 15 => .array .int
  | 16 => .boolean
  | 17 => .array .int
  | 18 => .int
  | 19 => .int
  | 20 => .array .int
  | 21 => .array .int
  | 22 => .array .int
  | 23 => .array .int
  | 24 => .array .int
  | 25 => .array .int
  | 26 => .array .int
  | 27 => .array .int
  | 28 => .array .int
  | 29 => .array .int
  | 30 => .array .int
  | 31 => .array .boolean
  | 32 => .array .int
  | 33 => .int
  | 34 => .array .int
  | 35 => .array .int
  | 36 => .array .int
  | 37 => .int
  | _ => .int
def am_on (c : Nat) : String := am_nth ["WhoIsWho", "WhoIsWho$Told", "WhoIsWho$Keeper", "WhoIsWho$Dealer", "WhoIsWho$Shortlist", "WhoIsWho$Level", "WhoIsWho$Scan", "WhoIsWho$Join", "WhoIsWho$World", "WhoIsWho$Track", "WhoIsWhoModel", "java/lang/Math", "WhoIsWhoLaw"] c ""
def am_cl : List vw_C := [("WhoIsWho", am_T0, 3), ("WhoIsWho$Told", am_T1, 9), ("WhoIsWho$Keeper", am_T2, 4), ("WhoIsWho$Dealer", am_T3, 12), ("WhoIsWho$Shortlist", am_T4, 3), ("WhoIsWho$Level", am_T5, 3), ("WhoIsWho$Scan", am_T6, 6), ("WhoIsWho$Join", am_T7, 3), ("WhoIsWho$World", am_T8, 4), ("WhoIsWho$Track", am_T9, 9), ("WhoIsWhoModel", am_T10, 39)]
def am_Tc (c : Nat) : u_T := am_nth [am_T0, am_T1, am_T2, am_T3, am_T4, am_T5, am_T6, am_T7, am_T8, am_T9, am_T10] c am_T0
def am_Yc (c : Nat) : Nat → FieldType := am_nth [am_Y0, am_Y1, am_Y2, am_Y3, am_Y4, am_Y5, am_Y6, am_Y7, am_Y8, am_Y9, am_Y10] c am_Y0
def am_Nc (c : Nat) : Nat := am_nth [3, 9, 4, 12, 3, 3, 6, 3, 4, 9, 39] c 0
def am_lp : List (List Nat) := [[353, 355, 357], [141, 143, 145, 147, 149, 151, 153, 155, 157], [324, 326, 328, 330], [226, 228, 230, 232, 234, 236, 238, 240, 242, 244, 246, 248], [206, 208, 210], [343, 345, 347], [95, 97, 99, 101, 103, 105], [194, 196, 198], [309, 311, 313, 315], [279, 281, 283, 285, 287, 289, 291, 293, 295], [764, 766, 768, 770, 772, 774, 776, 778, 780, 782, 784, 786, 788, 790, 792, 794, 796, 798, 800, 802, 804, 806, 808, 810, 812, 814, 816, 818, 820, 822, 824, 826, 828, 830, 832, 834, 836, 838, 840]]
def am_mnL : List MethodName := [⟨"WhoIsWho", "watcher", "()I"⟩, ⟨"WhoIsWho", "shift", "(III)I"⟩, ⟨"WhoIsWho", "dot", "(III)I"⟩, ⟨"WhoIsWho", "scan", "(II)I"⟩, ⟨"WhoIsWho", "drop", "(I)I"⟩, ⟨"WhoIsWho", "kind", "(II)I"⟩, ⟨"WhoIsWho", "rule", "(II)I"⟩, ⟨"WhoIsWho", "worlds", "()I"⟩, ⟨"WhoIsWho", "cost", "(I)I"⟩, ⟨"WhoIsWho", "gap", "(I)I"⟩, ⟨"WhoIsWho", "tracks", "(I)I"⟩, ⟨"WhoIsWho", "track", "(III)I"⟩, ⟨"WhoIsWho", "account", "(III)I"⟩, ⟨"WhoIsWho", "foretell", "(IIII)I"⟩, ⟨"WhoIsWho", "ordered", "(I)I"⟩, ⟨"WhoIsWho", "name", "(I)I"⟩, ⟨"WhoIsWho", "sure", "(II)I"⟩, ⟨"WhoIsWho", "alive", "(I)I"⟩, ⟨"WhoIsWho", "path", "(II)I"⟩, ⟨"WhoIsWho", "apart", "(III)I"⟩, ⟨"WhoIsWho", "near", "(III)I"⟩, ⟨"WhoIsWho", "pairs", "(II)I"⟩, ⟨"WhoIsWho", "level", "(III)I"⟩, ⟨"WhoIsWho", "right", "(II)I"⟩, ⟨"WhoIsWho", "count", "(I)I"⟩, ⟨"WhoIsWho", "within", "(III)Z"⟩, ⟨"WhoIsWho", "keptWithin", "(I)I"⟩, ⟨"WhoIsWho", "dotOfTrack", "(II)I"⟩, ⟨"WhoIsWho", "latestDot", "(II)I"⟩, ⟨"WhoIsWho", "squareApart", "(III)I"⟩, ⟨"WhoIsWho", "countFalse", "()I"⟩, ⟨"WhoIsWho", "countUnsure", "()I"⟩, ⟨"WhoIsWho$Told", "isWatcher", "(I)Z"⟩, ⟨"WhoIsWho$Told", "isScan", "(I)Z"⟩, ⟨"WhoIsWho$Told", "isDot", "(II)Z"⟩, ⟨"WhoIsWho$Told", "waiting", "()LWhoIsWho$Scan;"⟩, ⟨"WhoIsWho$Told", "closeWaiting", "(II)V"⟩, ⟨"WhoIsWho$Told", "remove", "(I)V"⟩, ⟨"WhoIsWho$Told", "sortOrder", "()V"⟩, ⟨"WhoIsWho$Told", "rightX", "(II)I"⟩, ⟨"WhoIsWho$Told", "rightY", "(II)I"⟩, ⟨"WhoIsWho$Told", "countDots", "()I"⟩, ⟨"WhoIsWho$Keeper", "refresh", "(LWhoIsWho$Told;)V"⟩, ⟨"WhoIsWho$Keeper", "takeIn", "(LWhoIsWho$Told;I)V"⟩, ⟨"WhoIsWho$Keeper", "isWorld", "(I)Z"⟩, ⟨"WhoIsWho$Keeper", "isTrack", "(II)Z"⟩, ⟨"WhoIsWho$Keeper", "allMark", "(II)Z"⟩, ⟨"WhoIsWho$Keeper", "allAgree", "(II)Z"⟩, ⟨"WhoIsWho$Dealer", "goBy", "([I)V"⟩, ⟨"WhoIsWho$Dealer", "deal", "(ILWhoIsWho$World;LWhoIsWho$Told;I)V"⟩, ⟨"WhoIsWho$Dealer", "setTolls", "(LWhoIsWho$World;LWhoIsWho$Told;I)V"⟩, ⟨"WhoIsWho$Dealer", "toll", "(JJ)I"⟩, ⟨"WhoIsWho$Dealer", "setLeast", "()V"⟩, ⟨"WhoIsWho$Dealer", "mayServe", "(III)Z"⟩, ⟨"WhoIsWho$Dealer", "dealFrom", "(LWhoIsWho$Dealer;IIII)V"⟩, ⟨"WhoIsWho$Shortlist", "open", "(I)V"⟩, ⟨"WhoIsWho$Shortlist", "takes", "(I)Z"⟩, ⟨"WhoIsWho$Shortlist", "offer", "(II[I)V"⟩, ⟨"WhoIsWho$Level", "measure", "(LWhoIsWho$Told;II)V"⟩, ⟨"WhoIsWho$Level", "addPairs", "(LWhoIsWho$Scan;LWhoIsWho$Scan;)V"⟩, ⟨"WhoIsWho$Level", "meanX", "()I"⟩, ⟨"WhoIsWho$Level", "meanY", "()I"⟩, ⟨"WhoIsWho$Scan", "add", "(III)V"⟩, ⟨"WhoIsWho$Join", "dotPickedFor", "(II)I"⟩, ⟨"WhoIsWho$World", "clear", "()V"⟩, ⟨"WhoIsWho$World", "copyFrom", "(LWhoIsWho$World;)V"⟩, ⟨"WhoIsWho$World", "accountOf", "(II)I"⟩, ⟨"WhoIsWho$World", "addTrack", "(IIII)I"⟩, ⟨"WhoIsWho$World", "countLookedFor", "()I"⟩, ⟨"WhoIsWho$World", "countAlive", "()I"⟩, ⟨"WhoIsWho$World", "hasMarked", "(II)Z"⟩, ⟨"WhoIsWho$World", "apply", "(LWhoIsWho$Join;LWhoIsWho$Told;I)V"⟩, ⟨"WhoIsWho$Track", "copyFrom", "(LWhoIsWho$Track;)V"⟩, ⟨"WhoIsWho$Track", "begin", "(IIII)V"⟩, ⟨"WhoIsWho$Track", "hit", "(IIII)V"⟩, ⟨"WhoIsWho$Track", "miss", "(I)V"⟩, ⟨"WhoIsWho$Track", "isConfirmed", "()Z"⟩, ⟨"WhoIsWho$Track", "mayBear", "(I)Z"⟩, ⟨"WhoIsWho$Track", "foretoldX", "(II)I"⟩, ⟨"WhoIsWho$Track", "foretoldY", "(II)I"⟩, ⟨"WhoIsWho$Track", "ahead", "(II)I"⟩, ⟨"WhoIsWho$Track", "read", "(I)I"⟩, ⟨"WhoIsWhoModel", "in", "(III)Z"⟩, ⟨"WhoIsWhoModel", "isWatcher", "(I)Z"⟩, ⟨"WhoIsWhoModel", "isScan", "(I)Z"⟩, ⟨"WhoIsWhoModel", "isDot", "(II)Z"⟩, ⟨"WhoIsWhoModel", "watcher", "()I"⟩, ⟨"WhoIsWhoModel", "shift", "(III)I"⟩, ⟨"WhoIsWhoModel", "dot", "(III)I"⟩, ⟨"WhoIsWhoModel", "scan", "(II)I"⟩, ⟨"WhoIsWhoModel", "drop", "(I)I"⟩, ⟨"WhoIsWhoModel", "kind", "(II)I"⟩, ⟨"WhoIsWhoModel", "rule", "(II)I"⟩, ⟨"WhoIsWhoModel", "sort", "()V"⟩, ⟨"WhoIsWhoModel", "rightX", "(II)I"⟩, ⟨"WhoIsWhoModel", "rightY", "(II)I"⟩, ⟨"WhoIsWhoModel", "foretold", "(IIZ)J"⟩, ⟨"WhoIsWhoModel", "findJoins", "(II)V"⟩, ⟨"WhoIsWhoModel", "digit", "(III)I"⟩, ⟨"WhoIsWhoModel", "costOf", "(III)I"⟩, ⟨"WhoIsWhoModel", "offer", "(III)V"⟩, ⟨"WhoIsWhoModel", "copyWorld", "(II)V"⟩, ⟨"WhoIsWhoModel", "cut", "(II)I"⟩, ⟨"WhoIsWhoModel", "begin", "(III)V"⟩, ⟨"WhoIsWhoModel", "goOn", "(III)V"⟩, ⟨"WhoIsWhoModel", "apply", "(III)V"⟩, ⟨"WhoIsWhoModel", "takeScan", "(I)V"⟩, ⟨"WhoIsWhoModel", "renew", "()V"⟩, ⟨"WhoIsWhoModel", "isWorld", "(I)Z"⟩, ⟨"WhoIsWhoModel", "isTrack", "(II)Z"⟩, ⟨"WhoIsWhoModel", "worlds", "()I"⟩, ⟨"WhoIsWhoModel", "cost", "(I)I"⟩, ⟨"WhoIsWhoModel", "gap", "(I)I"⟩, ⟨"WhoIsWhoModel", "tracks", "(I)I"⟩, ⟨"WhoIsWhoModel", "track", "(III)I"⟩, ⟨"WhoIsWhoModel", "accountOf", "(III)I"⟩, ⟨"WhoIsWhoModel", "account", "(III)I"⟩, ⟨"WhoIsWhoModel", "foretell", "(IIII)I"⟩, ⟨"WhoIsWhoModel", "ordered", "(I)I"⟩, ⟨"WhoIsWhoModel", "name", "(I)I"⟩, ⟨"WhoIsWhoModel", "isSure", "(II)Z"⟩, ⟨"WhoIsWhoModel", "sure", "(II)I"⟩, ⟨"WhoIsWhoModel", "alive", "(I)I"⟩, ⟨"WhoIsWhoModel", "path", "(II)I"⟩, ⟨"WhoIsWhoModel", "latest", "(II)I"⟩, ⟨"WhoIsWhoModel", "apartAt", "(III)I"⟩, ⟨"WhoIsWhoModel", "apart", "(III)I"⟩, ⟨"WhoIsWhoModel", "near", "(III)I"⟩, ⟨"WhoIsWhoModel", "pairsOf", "(II)I"⟩, ⟨"WhoIsWhoModel", "pairs", "(II)I"⟩, ⟨"WhoIsWhoModel", "level", "(III)I"⟩, ⟨"WhoIsWhoModel", "kept50", "(I)I"⟩, ⟨"WhoIsWhoModel", "right", "(II)I"⟩, ⟨"WhoIsWhoModel", "count", "(I)I"⟩, ⟨"java/lang/Math", "floorDiv", "(II)I"⟩, ⟨"java/lang/Math", "max", "(II)I"⟩, ⟨"java/lang/Math", "min", "(II)I"⟩, ⟨"WhoIsWhoLaw", "law", "([I)Z"⟩]
def am_mn (y : Nat) : MethodName := am_nth am_mnL y ⟨"", "", ""⟩
def am_bt (y : Nat) : ByteArray := (bif Nat.blt y 69 then (bif Nat.blt y 34 then (bif Nat.blt y 17 then (bif Nat.blt y 8 then (bif Nat.blt y 4 then (bif Nat.blt y 2 then (bif Nat.blt y 1 then prog_1_method_2_code else prog_1_method_3_code) else (bif Nat.blt y 3 then prog_1_method_4_code else prog_1_method_5_code)) else (bif Nat.blt y 6 then (bif Nat.blt y 5 then prog_1_method_6_code else prog_1_method_7_code) else (bif Nat.blt y 7 then prog_1_method_8_code else prog_1_method_9_code))) else (bif Nat.blt y 12 then (bif Nat.blt y 10 then (bif Nat.blt y 9 then prog_1_method_10_code else prog_1_method_11_code) else (bif Nat.blt y 11 then prog_1_method_12_code else prog_1_method_13_code)) else (bif Nat.blt y 14 then (bif Nat.blt y 13 then prog_1_method_14_code else prog_1_method_15_code) else (bif Nat.blt y 15 then prog_1_method_16_code else (bif Nat.blt y 16 then prog_1_method_17_code else prog_1_method_18_code))))) else (bif Nat.blt y 25 then (bif Nat.blt y 21 then (bif Nat.blt y 19 then (bif Nat.blt y 18 then prog_1_method_19_code else prog_1_method_20_code) else (bif Nat.blt y 20 then prog_1_method_21_code else prog_1_method_22_code)) else (bif Nat.blt y 23 then (bif Nat.blt y 22 then prog_1_method_23_code else prog_1_method_24_code) else (bif Nat.blt y 24 then prog_1_method_25_code else prog_1_method_26_code))) else (bif Nat.blt y 29 then (bif Nat.blt y 27 then (bif Nat.blt y 26 then prog_1_method_27_code else prog_1_method_28_code) else (bif Nat.blt y 28 then prog_1_method_29_code else prog_1_method_30_code)) else (bif Nat.blt y 31 then (bif Nat.blt y 30 then prog_1_method_31_code else prog_1_method_32_code) else (bif Nat.blt y 32 then prog_1_method_33_code else (bif Nat.blt y 33 then prog_8_method_2_code else prog_8_method_3_code)))))) else (bif Nat.blt y 51 then (bif Nat.blt y 42 then (bif Nat.blt y 38 then (bif Nat.blt y 36 then (bif Nat.blt y 35 then prog_8_method_4_code else prog_8_method_5_code) else (bif Nat.blt y 37 then prog_8_method_6_code else prog_8_method_7_code)) else (bif Nat.blt y 40 then (bif Nat.blt y 39 then prog_8_method_8_code else prog_8_method_9_code) else (bif Nat.blt y 41 then prog_8_method_10_code else prog_8_method_11_code))) else (bif Nat.blt y 46 then (bif Nat.blt y 44 then (bif Nat.blt y 43 then prog_4_method_2_code else prog_4_method_3_code) else (bif Nat.blt y 45 then prog_4_method_4_code else prog_4_method_5_code)) else (bif Nat.blt y 48 then (bif Nat.blt y 47 then prog_4_method_6_code else prog_4_method_7_code) else (bif Nat.blt y 49 then prog_2_method_2_code else (bif Nat.blt y 50 then prog_2_method_3_code else prog_2_method_4_code))))) else (bif Nat.blt y 60 then (bif Nat.blt y 55 then (bif Nat.blt y 53 then (bif Nat.blt y 52 then prog_2_method_5_code else prog_2_method_6_code) else (bif Nat.blt y 54 then prog_2_method_7_code else prog_2_method_8_code)) else (bif Nat.blt y 57 then (bif Nat.blt y 56 then prog_7_method_2_code else prog_7_method_3_code) else (bif Nat.blt y 58 then prog_7_method_4_code else (bif Nat.blt y 59 then prog_5_method_2_code else prog_5_method_3_code)))) else (bif Nat.blt y 64 then (bif Nat.blt y 62 then (bif Nat.blt y 61 then prog_5_method_4_code else prog_5_method_5_code) else (bif Nat.blt y 63 then prog_6_method_2_code else prog_3_method_2_code)) else (bif Nat.blt y 66 then (bif Nat.blt y 65 then prog_10_method_2_code else prog_10_method_3_code) else (bif Nat.blt y 67 then prog_10_method_4_code else (bif Nat.blt y 68 then prog_10_method_5_code else prog_10_method_6_code))))))) else (bif Nat.blt y 103 then (bif Nat.blt y 86 then (bif Nat.blt y 77 then (bif Nat.blt y 73 then (bif Nat.blt y 71 then (bif Nat.blt y 70 then prog_10_method_7_code else prog_10_method_8_code) else (bif Nat.blt y 72 then prog_10_method_9_code else prog_9_method_2_code)) else (bif Nat.blt y 75 then (bif Nat.blt y 74 then prog_9_method_3_code else prog_9_method_4_code) else (bif Nat.blt y 76 then prog_9_method_5_code else prog_9_method_6_code))) else (bif Nat.blt y 81 then (bif Nat.blt y 79 then (bif Nat.blt y 78 then prog_9_method_7_code else prog_9_method_8_code) else (bif Nat.blt y 80 then prog_9_method_9_code else prog_9_method_10_code)) else (bif Nat.blt y 83 then (bif Nat.blt y 82 then prog_9_method_11_code else prog_12_method_2_code) else (bif Nat.blt y 84 then prog_12_method_3_code else (bif Nat.blt y 85 then prog_12_method_4_code else prog_12_method_5_code))))) else (bif Nat.blt y 94 then (bif Nat.blt y 90 then (bif Nat.blt y 88 then (bif Nat.blt y 87 then prog_12_method_6_code else prog_12_method_7_code) else (bif Nat.blt y 89 then prog_12_method_8_code else prog_12_method_9_code)) else (bif Nat.blt y 92 then (bif Nat.blt y 91 then prog_12_method_10_code else prog_12_method_11_code) else (bif Nat.blt y 93 then prog_12_method_12_code else prog_12_method_13_code))) else (bif Nat.blt y 98 then (bif Nat.blt y 96 then (bif Nat.blt y 95 then prog_12_method_14_code else prog_12_method_15_code) else (bif Nat.blt y 97 then prog_12_method_16_code else prog_12_method_17_code)) else (bif Nat.blt y 100 then (bif Nat.blt y 99 then prog_12_method_18_code else prog_12_method_19_code) else (bif Nat.blt y 101 then prog_12_method_20_code else (bif Nat.blt y 102 then prog_12_method_21_code else prog_12_method_22_code)))))) else (bif Nat.blt y 120 then (bif Nat.blt y 111 then (bif Nat.blt y 107 then (bif Nat.blt y 105 then (bif Nat.blt y 104 then prog_12_method_23_code else prog_12_method_24_code) else (bif Nat.blt y 106 then prog_12_method_25_code else prog_12_method_26_code)) else (bif Nat.blt y 109 then (bif Nat.blt y 108 then prog_12_method_27_code else prog_12_method_28_code) else (bif Nat.blt y 110 then prog_12_method_29_code else prog_12_method_30_code))) else (bif Nat.blt y 115 then (bif Nat.blt y 113 then (bif Nat.blt y 112 then prog_12_method_31_code else prog_12_method_32_code) else (bif Nat.blt y 114 then prog_12_method_33_code else prog_12_method_34_code)) else (bif Nat.blt y 117 then (bif Nat.blt y 116 then prog_12_method_35_code else prog_12_method_36_code) else (bif Nat.blt y 118 then prog_12_method_37_code else (bif Nat.blt y 119 then prog_12_method_38_code else prog_12_method_39_code))))) else (bif Nat.blt y 129 then (bif Nat.blt y 124 then (bif Nat.blt y 122 then (bif Nat.blt y 121 then prog_12_method_40_code else prog_12_method_41_code) else (bif Nat.blt y 123 then prog_12_method_42_code else prog_12_method_43_code)) else (bif Nat.blt y 126 then (bif Nat.blt y 125 then prog_12_method_44_code else prog_12_method_45_code) else (bif Nat.blt y 127 then prog_12_method_46_code else (bif Nat.blt y 128 then prog_12_method_47_code else prog_12_method_48_code)))) else (bif Nat.blt y 133 then (bif Nat.blt y 131 then (bif Nat.blt y 130 then prog_12_method_49_code else prog_12_method_50_code) else (bif Nat.blt y 132 then prog_12_method_51_code else prog_12_method_52_code)) else (bif Nat.blt y 135 then (bif Nat.blt y 134 then prog_12_method_53_code else prog_13_method_47_code) else (bif Nat.blt y 136 then prog_13_method_65_code else (bif Nat.blt y 137 then prog_13_method_69_code else code))))))))
def am_rtL : List (Option FieldType) := [some .int, some .int, some .int, some .int, some .int, some .int, some .int, some .int, some .int, some .int, some .int, some .int, some .int, some .int, some .int, some .int, some .int, some .int, some .int, some .int, some .int, some .int, some .int, some .int, some .int, some .boolean, some .int, some .int, some .int, some .int, some .int, some .int, some .boolean, some .boolean, some .boolean, some (.object "WhoIsWho$Scan"), none, none, none, some .int, some .int, some .int, none, none, some .boolean, some .boolean, some .boolean, some .boolean, none, none, none, some .int, none, some .boolean, none, none, some .boolean, none, none, none, some .int, some .int, none, some .int, none, none, some .int, some .int, some .int, some .int, some .boolean, none, none, none, none, none, some .boolean, some .boolean, some .int, some .int, some .int, some .int, some .boolean, some .boolean, some .boolean, some .boolean, some .int, some .int, some .int, some .int, some .int, some .int, some .int, none, some .int, some .int, some .long, none, some .int, some .int, none, none, some .int, none, none, none, none, none, some .boolean, some .boolean, some .int, some .int, some .int, some .int, some .int, some .int, some .int, some .int, some .int, some .int, some .boolean, some .int, some .int, some .int, some .int, some .int, some .int, some .int, some .int, some .int, some .int, some .int, some .int, some .int, some .int, some .int, some .int, some .boolean]
def am_rtT (y : Nat) : Option FieldType := am_nth am_rtL y none
def am_np (y : Nat) : Nat := am_nth [0, 3, 3, 2, 1, 2, 2, 0, 1, 1, 1, 3, 3, 4, 1, 1, 2, 1, 2, 3, 3, 2, 3, 2, 1, 3, 1, 2, 2, 3, 0, 0, 1, 1, 2, 0, 2, 1, 0, 2, 2, 0, 1, 2, 1, 2, 2, 2, 1, 4, 3, 2, 0, 3, 5, 1, 1, 3, 3, 2, 0, 0, 3, 2, 0, 1, 2, 4, 0, 0, 2, 3, 1, 4, 4, 1, 0, 1, 2, 2, 2, 1, 3, 1, 1, 2, 0, 3, 3, 2, 1, 2, 2, 0, 2, 2, 3, 2, 3, 3, 3, 2, 2, 3, 3, 3, 1, 0, 1, 2, 0, 1, 1, 1, 3, 3, 3, 4, 1, 1, 2, 2, 1, 2, 2, 3, 3, 3, 2, 2, 3, 1, 2, 1, 2, 2, 2, 1] y 0
def am_mw : List (Nat × Nat × Nat × Nat) := [(363, 361, 362, 38), (367, 365, 366, 38), (378, 376, 377, 38), (390, 388, 389, 38), (398, 396, 397, 38), (411, 409, 410, 38), (415, 413, 414, 38), (423, 421, 422, 38), (558, 556, 557, 38), (567, 565, 566, 38), (571, 569, 570, 38), (575, 573, 574, 38), (593, 591, 592, 38), (605, 603, 604, 38), (611, 609, 610, 38), (615, 613, 614, 38), (627, 625, 626, 38), (636, 634, 635, 38), (645, 643, 644, 38), (653, 651, 652, 38), (667, 665, 666, 38), (671, 669, 670, 38), (683, 681, 682, 38), (697, 695, 696, 38), (706, 704, 705, 38), (374, 373, 0, 38), (700, 699, 0, 38), (649, 648, 5, 38), (661, 660, 7, 38), (657, 656, 6, 38), (714, 713, 8, 38), (718, 717, 9, 38), (371, 369, 370, 39), (402, 400, 401, 39), (597, 595, 596, 39), (382, 380, 381, 39), (394, 392, 393, 39), (406, 404, 405, 39), (431, 429, 430, 39), (481, 479, 480, 39), (485, 483, 484, 39), (710, 708, 709, 39), (427, 425, 426, 42), (443, 442, 0, 42), (562, 560, 561, 42), (579, 577, 578, 42), (619, 617, 618, 42), (631, 629, 630, 42), (435, 433, 434, 43), (457, 455, 456, 43), (461, 460, 1, 43), (489, 488, 2, 43), (493, 492, 3, 43), (514, 513, 4, 43), (501, 500, 0, 43), (447, 445, 446, 44), (509, 507, 508, 44), (505, 503, 504, 44), (675, 673, 674, 48), (679, 677, 678, 48), (687, 685, 686, 48), (693, 691, 692, 48), (386, 384, 385, 40), (533, 531, 532, 45), (439, 437, 438, 46), (520, 518, 519, 46), (601, 599, 600, 46), (550, 548, 549, 46), (498, 496, 497, 46), (640, 638, 639, 46), (623, 621, 622, 46), (529, 527, 528, 46), (524, 522, 523, 47), (554, 552, 553, 47), (539, 537, 538, 47), (546, 544, 545, 47), (588, 586, 587, 47), (477, 475, 476, 47), (465, 463, 464, 47), (473, 471, 472, 47), (469, 467, 468, 47), (584, 582, 583, 47), (858, 857, 11, 49), (854, 853, 10, 49), (874, 873, 12, 49), (980, 979, 30, 49), (846, 844, 845, 49), (850, 848, 849, 49), (862, 860, 861, 49), (866, 864, 865, 49), (870, 868, 869, 49), (878, 876, 877, 49), (882, 880, 881, 49), (895, 894, 14, 49), (907, 906, 17, 49), (915, 914, 19, 49), (911, 910, 18, 49), (903, 902, 16, 49), (923, 922, 21, 49), (919, 918, 20, 49), (927, 926, 22, 49), (931, 930, 23, 49), (947, 946, 27, 49), (939, 938, 25, 49), (943, 942, 26, 49), (935, 934, 24, 49), (899, 898, 15, 49), (891, 890, 13, 49), (955, 954, 28, 49), (972, 971, 29, 49), (887, 885, 886, 49), (951, 949, 950, 49), (960, 958, 959, 49), (964, 962, 963, 49), (968, 966, 967, 49), (984, 983, 31, 49), (976, 974, 975, 49), (988, 986, 987, 49), (992, 990, 991, 49), (996, 994, 995, 49), (1004, 1003, 32, 49), (1000, 998, 999, 49), (1008, 1006, 1007, 49), (1012, 1010, 1011, 49), (1024, 1023, 34, 49), (1020, 1019, 33, 49), (1016, 1014, 1015, 49), (1028, 1026, 1027, 49), (1036, 1035, 35, 49), (1032, 1030, 1031, 49), (1040, 1038, 1039, 49), (1048, 1047, 36, 49), (1044, 1042, 1043, 49), (1052, 1050, 1051, 49), (542, 541, 0, 50), (453, 452, 0, 50), (450, 449, 0, 50)]
def am_mp (y : Nat) : Nat × Nat × Nat × Nat := am_nth am_mw y (0, 0, 0, 0)
/-- links of fields: own class, index, class, field, place -/
def am_fl : List (Nat × Nat × Nat × Nat × Nat) := [(5, 30, 6, 0, 72), (1, 57, 6, 0, 73), (5, 35, 6, 1, 74), (3, 97, 6, 1, 75), (1, 60, 6, 1, 76), (8, 77, 6, 1, 77), (0, 174, 6, 1, 78), (6, 21, 6, 2, 79), (5, 42, 6, 2, 80), (3, 61, 6, 2, 81), (1, 54, 6, 2, 82), (0, 59, 6, 2, 83), (8, 60, 6, 2, 84), (6, 9, 6, 3, 85), (5, 49, 6, 3, 86), (1, 63, 6, 3, 87), (6, 15, 6, 4, 88), (5, 52, 6, 4, 89), (1, 66, 6, 4, 90), (6, 18, 6, 5, 91), (5, 45, 6, 5, 92), (3, 111, 6, 5, 93), (8, 80, 6, 5, 94), (2, 32, 1, 0, 114), (0, 51, 1, 0, 115), (0, 32, 1, 1, 116), (1, 43, 1, 1, 117), (5, 21, 1, 2, 118), (2, 52, 1, 2, 119), (1, 47, 1, 2, 120), (0, 68, 1, 2, 121), (1, 9, 1, 3, 122), (0, 44, 1, 3, 123), (1, 15, 1, 4, 124), (0, 48, 1, 4, 125), (1, 20, 1, 5, 126), (5, 26, 1, 5, 127), (3, 55, 1, 5, 128), (8, 54, 1, 5, 129), (0, 170, 1, 5, 130), (1, 24, 1, 6, 131), (2, 55, 1, 6, 132), (0, 150, 1, 6, 133), (1, 27, 1, 7, 134), (2, 41, 1, 7, 135), (0, 91, 1, 7, 136), (8, 85, 1, 7, 137), (1, 30, 1, 8, 138), (3, 89, 1, 8, 139), (0, 82, 1, 8, 140), (2, 83, 7, 0, 187), (4, 41, 7, 0, 188), (4, 34, 7, 1, 189), (8, 99, 7, 1, 190), (7, 9, 7, 2, 191), (4, 44, 7, 2, 192), (8, 92, 7, 2, 193), (4, 18, 4, 0, 201), (2, 76, 4, 0, 202), (4, 31, 4, 1, 203), (4, 11, 4, 2, 204), (2, 79, 4, 2, 205), (3, 12, 3, 0, 213), (2, 62, 3, 0, 214), (3, 32, 3, 1, 215), (3, 36, 3, 2, 216), (3, 39, 3, 3, 217), (3, 42, 3, 4, 218), (3, 46, 3, 5, 219), (3, 54, 3, 6, 220), (3, 66, 3, 7, 221), (3, 18, 3, 8, 222), (3, 22, 3, 9, 223), (3, 25, 3, 10, 224), (3, 28, 3, 11, 225), (9, 9, 9, 0, 264), (9, 15, 9, 1, 265), (9, 18, 9, 2, 266), (9, 21, 9, 3, 267), (9, 24, 9, 4, 268), (0, 138, 9, 4, 269), (9, 27, 9, 5, 270), (9, 30, 9, 6, 271), (9, 33, 9, 7, 272), (3, 92, 9, 7, 273), (8, 51, 9, 7, 274), (0, 141, 9, 7, 275), (9, 36, 9, 8, 276), (3, 107, 9, 8, 277), (8, 43, 9, 8, 278), (8, 22, 8, 0, 298), (3, 74, 8, 0, 299), (0, 108, 8, 0, 300), (8, 26, 8, 1, 301), (3, 49, 8, 1, 302), (2, 100, 8, 1, 303), (0, 114, 8, 1, 304), (8, 11, 8, 2, 305), (3, 85, 8, 2, 306), (0, 121, 8, 2, 307), (8, 17, 8, 3, 308), (2, 11, 2, 0, 318), (0, 104, 2, 0, 319), (2, 28, 2, 1, 320), (0, 98, 2, 1, 321), (2, 17, 2, 2, 322), (2, 23, 2, 3, 323), (5, 9, 5, 0, 339), (0, 181, 5, 0, 340), (5, 15, 5, 1, 341), (5, 18, 5, 2, 342), (0, 12, 0, 0, 350), (0, 21, 0, 1, 351), (0, 28, 0, 2, 352), (10, 7, 10, 0, 725), (10, 13, 10, 1, 726), (10, 16, 10, 2, 727), (10, 19, 10, 3, 728), (10, 23, 10, 4, 729), (10, 26, 10, 5, 730), (10, 29, 10, 6, 731), (10, 32, 10, 7, 732), (10, 35, 10, 8, 733), (10, 38, 10, 9, 734), (10, 41, 10, 10, 735), (10, 44, 10, 11, 736), (10, 47, 10, 12, 737), (10, 50, 10, 13, 738), (10, 53, 10, 14, 739), (10, 56, 10, 15, 740), (10, 59, 10, 16, 741), (10, 63, 10, 17, 742), (10, 66, 10, 18, 743), (10, 69, 10, 19, 744), (10, 72, 10, 20, 745), (10, 75, 10, 21, 746), (10, 78, 10, 22, 747), (10, 81, 10, 23, 748), (10, 84, 10, 24, 749), (10, 87, 10, 25, 750), (10, 90, 10, 26, 751), (10, 93, 10, 27, 752), (10, 96, 10, 28, 753), (10, 99, 10, 29, 754), (10, 102, 10, 30, 755), (10, 105, 10, 31, 756), (10, 109, 10, 32, 757), (10, 112, 10, 33, 758), (10, 115, 10, 34, 759), (10, 118, 10, 35, 760), (10, 121, 10, 36, 761), (10, 124, 10, 37, 762), (10, 127, 10, 38, 763)]
def am_mk : List (Nat × Nat × Nat × Nat) := [(12, 13, 0, 360), (12, 18, 1, 364), (0, 36, 32, 368), (0, 40, 25, 372), (12, 23, 2, 375), (0, 55, 35, 379), (0, 64, 62, 383), (12, 27, 3, 387), (0, 71, 36, 391), (12, 32, 4, 395), (0, 75, 33, 399), (0, 78, 37, 403), (1, 50, 33, 407), (12, 37, 5, 408), (12, 41, 6, 412), (12, 45, 7, 420), (0, 94, 42, 424), (2, 38, 38, 428), (2, 45, 48, 432), (2, 49, 64, 436), (2, 58, 43, 440), (2, 66, 55, 444), (4, 22, 136, 448), (4, 28, 135, 451), (2, 72, 49, 454), (3, 67, 50, 458), (3, 100, 78, 462), (9, 46, 80, 466), (3, 104, 79, 470), (3, 113, 77, 474), (3, 117, 39, 478), (3, 120, 40, 482), (3, 123, 51, 486), (3, 71, 52, 490), (3, 127, 136, 494), (3, 77, 68, 495), (3, 81, 54, 499), (3, 138, 57, 502), (4, 37, 56, 506), (3, 142, 53, 511), (3, 132, 135, 515), (3, 135, 56, 516), (2, 88, 65, 517), (8, 29, 72, 521), (2, 92, 71, 526), (8, 65, 63, 530), (8, 71, 39, 534), (8, 74, 40, 535), (8, 82, 74, 536), (9, 40, 134, 540), (8, 88, 75, 543), (8, 95, 67, 547), (8, 39, 73, 551), (12, 49, 8, 555), (0, 101, 44, 559), (12, 53, 9, 564), (12, 57, 10, 568), (12, 61, 11, 572), (0, 117, 45, 576), (2, 96, 44, 580), (0, 125, 81, 581), (9, 49, 76, 585), (12, 65, 12, 590), (0, 131, 34, 594), (0, 134, 66, 598), (12, 69, 13, 602), (0, 144, 78, 606), (0, 147, 79, 607), (12, 74, 14, 608), (12, 78, 15, 612), (0, 153, 46, 616), (2, 103, 70, 620), (12, 82, 16, 624), (0, 156, 47, 628), (2, 107, 66, 632), (12, 86, 17, 633), (0, 159, 69, 637), (8, 47, 76, 641), (12, 90, 18, 642), (0, 163, 27, 646), (12, 94, 19, 650), (0, 166, 29, 654), (0, 210, 28, 658), (0, 213, 39, 662), (0, 216, 40, 663), (12, 98, 20, 664), (12, 102, 21, 668), (0, 177, 58, 672), (5, 38, 59, 676), (12, 106, 22, 680), (0, 184, 60, 684), (5, 55, 134, 688), (0, 187, 61, 690), (12, 110, 23, 694), (0, 190, 26, 698), (0, 202, 136, 701), (0, 207, 135, 702), (12, 114, 24, 703), (0, 193, 41, 707), (0, 196, 30, 711), (0, 199, 31, 715), (12, 17, 86, 843), (12, 22, 87, 847), (10, 138, 83, 851), (10, 130, 82, 855), (12, 26, 88, 859), (12, 31, 89, 863), (12, 36, 90, 867), (10, 134, 84, 871), (12, 40, 91, 875), (12, 44, 92, 879), (12, 48, 110, 884), (10, 190, 107, 888), (10, 183, 93, 892), (10, 186, 106, 896), (10, 167, 97, 900), (10, 142, 94, 904), (10, 146, 96, 908), (10, 150, 95, 912), (10, 171, 99, 916), (10, 153, 98, 920), (10, 174, 100, 924), (10, 177, 101, 928), (10, 180, 105, 932), (10, 160, 103, 936), (10, 164, 104, 940), (10, 157, 102, 944), (12, 52, 111, 948), (10, 193, 108, 952), (12, 56, 112, 957), (12, 60, 113, 961), (12, 64, 114, 965), (10, 197, 109, 969), (12, 68, 116, 973), (10, 201, 85, 977), (10, 204, 115, 981), (12, 73, 117, 985), (12, 77, 118, 989), (12, 81, 119, 993), (12, 85, 121, 997), (10, 207, 120, 1001), (12, 89, 122, 1005), (12, 93, 123, 1009), (12, 97, 126, 1013), (10, 213, 125, 1017), (10, 210, 124, 1021), (12, 101, 127, 1025), (12, 105, 129, 1029), (10, 216, 128, 1033), (12, 109, 130, 1037), (12, 113, 132, 1041), (10, 219, 131, 1045), (12, 117, 133, 1049)]
def am_ak : List (Nat × Nat × Nat) := [(1, 37, 111), (4, 48, 510), (8, 33, 525)]
def am_sk : List (Nat × Nat × Nat × Nat) := [(0, 85, 59, 416), (0, 88, 60, 418)]
def am_kk : List (Nat × Nat × Int32 × Nat) := [(0, 113, (-2147483648), 563), (9, 53, (-2147483648), 589), (5, 61, (-2147483648), 689), (10, 141, 100000, 883), (10, 196, (-2147483648), 956)]
def am_nw : Nat × Nat × Nat := (113, 112, 41)
def am_rnm (f : Nat) : String := bif Nat.beq f 59 then "RULE_LEAST" else "RULE_MOST"
