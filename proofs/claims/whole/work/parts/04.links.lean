/-! ===== names, links, and the words of the tables that they stand on (written by a program out of the Statement) ===== -/
def zT0 : u_T := fun k => match k with
  | 0 => ("ThroneSale$Auction", "dare", "[I", true)
  | 1 => ("ThroneSale$Auction", "winner", "I", false)
  | 2 => ("ThroneSale$Auction", "price", "I", false)
  | 3 => ("ThroneSale$Auction", "asked", "I", false)
  | 4 => ("ThroneSale$Auction", "outs", "I", false)
  | 5 => ("ThroneSale$Auction", "jump", "I", false)
  | 6 => ("ThroneSale$Auction", "men", "I", false)
  | 7 => ("ThroneSale$Auction", "treasury", "I", false)
  | 8 => ("ThroneSale$Auction", "day", "I", false)
  | 9 => ("ThroneSale$Auction", "out", "[Z", true)
  | 10 => ("ThroneSale$Auction", "purse", "[I", true)
  | _ => ("ThroneSale$Auction", "stack", "[J", true)
def zT1 : u_T := fun k => match k with
  | 0 => ("ThroneSale$Empire", "count", "[I", true)
  | 1 => ("ThroneSale$Empire", "told", "[[I", true)
  | _ => ("ThroneSale$Empire", "ways", "[[I", true)
def zT2 : u_T := fun k => match k with
  | 0 => ("ThroneSale$EmpireReader", "tape", "LThroneSale$Tape;", true)
  | _ => ("ThroneSale$EmpireReader", "draft", "LThroneSale$Empire;", true)
def zT3 : u_T := fun k => match k with
  | 0 => ("ThroneSale$Forecast", "trial", "LThroneSale$State;", true)
  | 1 => ("ThroneSale$Forecast", "bought", "LThroneSale$State;", true)
  | 2 => ("ThroneSale$Forecast", "auction", "LThroneSale$Auction;", true)
  | 3 => ("ThroneSale$Forecast", "choice", "I", false)
  | 4 => ("ThroneSale$Forecast", "days", "I", false)
  | 5 => ("ThroneSale$Forecast", "wins", "I", false)
  | _ => ("ThroneSale$Forecast", "difference", "I", false)
def zT4 : u_T := fun k => match k with
  | 0 => ("ThroneSale$Inquiry", "rulers", "[[I", true)
  | 1 => ("ThroneSale$Inquiry", "agrees", "[Z", true)
  | 2 => ("ThroneSale$Inquiry", "tried", "I", false)
  | 3 => ("ThroneSale$Inquiry", "trial", "LThroneSale$State;", true)
  | 4 => ("ThroneSale$Inquiry", "auction", "LThroneSale$Auction;", true)
  | 5 => ("ThroneSale$Inquiry", "agreeing", "I", false)
  | 6 => ("ThroneSale$Inquiry", "first", "I", false)
  | 7 => ("ThroneSale$Inquiry", "day", "I", false)
  | _ => ("ThroneSale$Inquiry", "alike", "I", false)
def zT5 : u_T := fun k => match k with
  | 0 => ("ThroneSale$March", "order", "[I", true)
  | 1 => ("ThroneSale$March", "size", "I", false)
  | 2 => ("ThroneSale$March", "sets", "I", false)
  | 3 => ("ThroneSale$March", "leastSet", "I", false)
  | 4 => ("ThroneSale$March", "army", "[I", true)
  | 5 => ("ThroneSale$March", "days", "[I", true)
  | _ => ("ThroneSale$March", "guards", "I", false)
def zT6 : u_T := fun k => match k with
  | 0 => ("ThroneSale$Realm", "empire", "LThroneSale$Empire;", true)
  | 1 => ("ThroneSale$Realm", "state", "LThroneSale$State;", true)
  | 2 => ("ThroneSale$Realm", "inForce", "I", false)
  | 3 => ("ThroneSale$Realm", "x", "I", false)
  | 4 => ("ThroneSale$Realm", "past", "[LThroneSale$State;", true)
  | 5 => ("ThroneSale$Realm", "pastCount", "I", false)
  | 6 => ("ThroneSale$Realm", "logDay", "[I", true)
  | 7 => ("ThroneSale$Realm", "logRuler", "[I", true)
  | _ => ("ThroneSale$Realm", "logCount", "I", false)
def zT7 : u_T := fun k => match k with
  | 0 => ("ThroneSale$Rule", "steps", "[I", true)
  | 1 => ("ThroneSale$Rule", "values", "[I", true)
  | _ => ("ThroneSale$Rule", "size", "I", false)
def zT8 : u_T := fun k => match k with
  | 0 => ("ThroneSale$RuleReader", "tape", "LThroneSale$Tape;", true)
  | 1 => ("ThroneSale$RuleReader", "draft", "LThroneSale$Rule;", true)
  | _ => ("ThroneSale$RuleReader", "parts", "I", false)
def zT9 : u_T := fun k => match k with
  | 0 => ("ThroneSale$State", "treasury", "I", false)
  | 1 => ("ThroneSale$State", "fine", "I", false)
  | 2 => ("ThroneSale$State", "day", "I", false)
  | 3 => ("ThroneSale$State", "ruler", "I", false)
  | 4 => ("ThroneSale$State", "paid", "I", false)
  | 5 => ("ThroneSale$State", "sold", "I", false)
  | 6 => ("ThroneSale$State", "bid", "I", false)
  | 7 => ("ThroneSale$State", "left", "I", false)
  | 8 => ("ThroneSale$State", "bribed", "I", false)
  | 9 => ("ThroneSale$State", "beaten", "I", false)
  | _ => ("ThroneSale$State", "purse", "[I", true)
def zT10 : u_T := fun k => match k with
  | 0 => ("ThroneSale$Tape", "bytes", "[I", true)
  | 1 => ("ThroneSale$Tape", "length", "I", false)
  | 2 => ("ThroneSale$Tape", "kinds", "[I", true)
  | 3 => ("ThroneSale$Tape", "numbers", "[I", true)
  | 4 => ("ThroneSale$Tape", "places", "[I", true)
  | 5 => ("ThroneSale$Tape", "pieces", "I", false)
  | 6 => ("ThroneSale$Tape", "at", "I", false)
  | 7 => ("ThroneSale$Tape", "kind", "I", false)
  | 8 => ("ThroneSale$Tape", "number", "I", false)
  | _ => ("ThroneSale$Tape", "fault", "I", false)
def zT11 : u_T := fun k => match k with
  | 0 => ("ThroneSale", "tape", "LThroneSale$Tape;", true)
  | 1 => ("ThroneSale", "empireReader", "LThroneSale$EmpireReader;", true)
  | 2 => ("ThroneSale", "ruleReader", "LThroneSale$RuleReader;", true)
  | 3 => ("ThroneSale", "rules", "[LThroneSale$Rule;", true)
  | 4 => ("ThroneSale", "ruleCount", "I", false)
  | 5 => ("ThroneSale", "realm", "LThroneSale$Realm;", true)
  | 6 => ("ThroneSale", "images", "[LThroneSale$Realm;", true)
  | 7 => ("ThroneSale", "imageMade", "[Z", true)
  | 8 => ("ThroneSale", "auction", "LThroneSale$Auction;", true)
  | 9 => ("ThroneSale", "forecast", "LThroneSale$Forecast;", true)
  | 10 => ("ThroneSale", "inquiry", "LThroneSale$Inquiry;", true)
  | _ => ("ThroneSale", "march", "LThroneSale$March;", true)
def zT12 : u_T := fun k => match k with
  | 0 => ("ThroneSaleModel", "thrown", "I", false)
  | 1 => ("ThroneSaleModel", "scalar", "[I", true)
  | 2 => ("ThroneSaleModel", "purse", "[I", true)
  | 3 => ("ThroneSaleModel", "men", "[I", true)
  | 4 => ("ThroneSaleModel", "leastOf", "[I", true)
  | 5 => ("ThroneSaleModel", "patience", "[I", true)
  | 6 => ("ThroneSaleModel", "dare", "[I", true)
  | 7 => ("ThroneSaleModel", "city", "[I", true)
  | 8 => ("ThroneSaleModel", "army", "[I", true)
  | 9 => ("ThroneSaleModel", "price", "[I", true)
  | 10 => ("ThroneSaleModel", "far", "[I", true)
  | 11 => ("ThroneSaleModel", "logDay", "[I", true)
  | 12 => ("ThroneSaleModel", "logWho", "[I", true)
  | 13 => ("ThroneSaleModel", "toldPurse", "[I", true)
  | 14 => ("ThroneSaleModel", "toldTreasury", "[I", true)
  | 15 => ("ThroneSaleModel", "newScalar", "[I", true)
  | 16 => ("ThroneSaleModel", "newMen", "[I", true)
  | 17 => ("ThroneSaleModel", "newLeast", "[I", true)
  | 18 => ("ThroneSaleModel", "newPatience", "[I", true)
  | 19 => ("ThroneSaleModel", "newPurse", "[I", true)
  | 20 => ("ThroneSaleModel", "newDare", "[I", true)
  | 21 => ("ThroneSaleModel", "newCity", "[I", true)
  | 22 => ("ThroneSaleModel", "newArmy", "[I", true)
  | 23 => ("ThroneSaleModel", "newPrice", "[I", true)
  | 24 => ("ThroneSaleModel", "newRoad", "[I", true)
  | 25 => ("ThroneSaleModel", "isThere", "Z", false)
  | 26 => ("ThroneSaleModel", "taped", "I", false)
  | 27 => ("ThroneSaleModel", "p", "I", false)
  | 28 => ("ThroneSaleModel", "fault", "I", false)
  | 29 => ("ThroneSaleModel", "slot", "I", false)
  | 30 => ("ThroneSaleModel", "rules", "I", false)
  | 31 => ("ThroneSaleModel", "entries", "I", false)
  | 32 => ("ThroneSaleModel", "deep", "I", false)
  | 33 => ("ThroneSaleModel", "counted", "I", false)
  | 34 => ("ThroneSaleModel", "opened", "I", false)
  | 35 => ("ThroneSaleModel", "words", "I", false)
  | 36 => ("ThroneSaleModel", "tape", "[B", true)
  | 37 => ("ThroneSaleModel", "sort", "[I", true)
  | 38 => ("ThroneSaleModel", "number", "[I", true)
  | 39 => ("ThroneSaleModel", "clauses", "[I", true)
  | 40 => ("ThroneSaleModel", "sumAt", "[I", true)
  | 41 => ("ThroneSaleModel", "testAt", "[I", true)
  | 42 => ("ThroneSaleModel", "endAt", "[I", true)
  | 43 => ("ThroneSaleModel", "open", "[I", true)
  | 44 => ("ThroneSaleModel", "road", "[I", true)
  | 45 => ("ThroneSaleModel", "asked", "[J", true)
  | 46 => ("ThroneSaleModel", "stack", "[J", true)
  | 47 => ("ThroneSaleModel", "high", "I", false)
  | 48 => ("ThroneSaleModel", "holder", "I", false)
  | 49 => ("ThroneSaleModel", "turn", "I", false)
  | 50 => ("ThroneSaleModel", "out", "I", false)
  | 51 => ("ThroneSaleModel", "isPlain", "Z", false)
  | 52 => ("ThroneSaleModel", "dares", "[I", true)
  | 53 => ("ThroneSaleModel", "past", "[I", true)
  | 54 => ("ThroneSaleModel", "ring", "[I", true)
  | 55 => ("ThroneSaleModel", "pastMany", "I", false)
  | 56 => ("ThroneSaleModel", "pastAt", "I", false)
  | 57 => ("ThroneSaleModel", "takesBack", "Z", false)
  | 58 => ("ThroneSaleModel", "gains", "[I", true)
  | 59 => ("ThroneSaleModel", "course", "[I", true)
  | 60 => ("ThroneSaleModel", "courses", "[I", true)
  | 61 => ("ThroneSaleModel", "images", "[I", true)
  | 62 => ("ThroneSaleModel", "isMade", "[Z", true)
  | 63 => ("ThroneSaleModel", "wasThere", "[Z", true)
  | 64 => ("ThroneSaleModel", "imageAt", "I", false)
  | _ => ("ThroneSaleModel", "goesBack", "Z", false)
def zcnL : List String := ["ThroneSale$Auction", "ThroneSale$Empire", "ThroneSale$EmpireReader", "ThroneSale$Forecast", "ThroneSale$Inquiry", "ThroneSale$March", "ThroneSale$Realm", "ThroneSale$Rule", "ThroneSale$RuleReader", "ThroneSale$State", "ThroneSale$Tape", "ThroneSale", "ThroneSaleModel", "ThroneSaleLaw", "java/lang/String", "java/lang/StringLatin1", "jdk/internal/util/Preconditions"]
def zcn (k : Nat) : String := zcnL.getD k ""
def zcT (k : Nat) : u_T := ([zT0, zT1, zT2, zT3, zT4, zT5, zT6, zT7, zT8, zT9, zT10, zT11, zT12] : List u_T).getD k zT0
def zcl : List vw_C := (List.range 13).map fun k => (zcn k, zcT k, znf k)
def zfyL : List (List FieldType) := [[.array (.int), .int, .int, .int, .int, .int, .int, .int, .int, .array (.boolean), .array (.int), .array (.long)],
  [.array (.int), .array (.array (.int)), .array (.array (.int))],
  [.object "ThroneSale$Tape", .object "ThroneSale$Empire"],
  [.object "ThroneSale$State", .object "ThroneSale$State", .object "ThroneSale$Auction", .int, .int, .int, .int],
  [.array (.array (.int)), .array (.boolean), .int, .object "ThroneSale$State", .object "ThroneSale$Auction", .int, .int, .int, .int],
  [.array (.int), .int, .int, .int, .array (.int), .array (.int), .int],
  [.object "ThroneSale$Empire", .object "ThroneSale$State", .int, .int, .array (.object "ThroneSale$State"), .int, .array (.int), .array (.int), .int],
  [.array (.int), .array (.int), .int],
  [.object "ThroneSale$Tape", .object "ThroneSale$Rule", .int],
  [.int, .int, .int, .int, .int, .int, .int, .int, .int, .int, .array (.int)],
  [.array (.int), .int, .array (.int), .array (.int), .array (.int), .int, .int, .int, .int, .int],
  [.object "ThroneSale$Tape", .object "ThroneSale$EmpireReader", .object "ThroneSale$RuleReader", .array (.object "ThroneSale$Rule"), .int, .object "ThroneSale$Realm", .array (.object "ThroneSale$Realm"), .array (.boolean), .object "ThroneSale$Auction", .object "ThroneSale$Forecast", .object "ThroneSale$Inquiry", .object "ThroneSale$March"],
  [.int, .array (.int), .array (.int), .array (.int), .array (.int), .array (.int), .array (.int), .array (.int), .array (.int), .array (.int), .array (.int), .array (.int), .array (.int), .array (.int), .array (.int), .array (.int), .array (.int), .array (.int), .array (.int), .array (.int), .array (.int), .array (.int), .array (.int), .array (.int), .array (.int), .boolean, .int, .int, .int, .int, .int, .int, .int, .int, .int, .int, .array (.byte), .array (.int), .array (.int), .array (.int), .array (.int), .array (.int), .array (.int), .array (.int), .array (.int), .array (.long), .array (.long), .int, .int, .int, .int, .boolean, .array (.int), .array (.int), .array (.int), .int, .int, .boolean, .array (.int), .array (.int), .array (.int), .array (.int), .array (.boolean), .array (.boolean), .int, .boolean]]
def zfy (c k : Nat) : FieldType := (zfyL.getD c []).getD k .int
def zyL : List (MethodName × Nat × Option FieldType × Nat) := [
  (⟨"ThroneSaleLaw", "law", "([I)Z"⟩, 0, some .boolean, 13),
  (⟨"ThroneSale$Auction", "<init>", "()V"⟩, 371, none, 0),
  (⟨"ThroneSale$Auction", "takeDares", "(LThroneSale$Empire;)V"⟩, 876, none, 0),
  (⟨"ThroneSale$Auction", "hold", "(LThroneSale$Empire;LThroneSale$State;LThroneSale$Rule;)V"⟩, 881, none, 0),
  (⟨"ThroneSale$Auction", "open", "(LThroneSale$Empire;LThroneSale$State;)V"⟩, 885, none, 0),
  (⟨"ThroneSale$Auction", "take", "(IJ)V"⟩, 905, none, 0),
  (⟨"ThroneSale$Auction", "bidByDare", "(I)J"⟩, 890, some .long, 0),
  (⟨"ThroneSale$Auction", "bidByRule", "(ILThroneSale$Rule;)J"⟩, 894, some .long, 0),
  (⟨"ThroneSale$Auction", "wordOf", "(II)J"⟩, 898, some .long, 0),
  (⟨"ThroneSale$Auction", "join", "(IJJ)J"⟩, 901, some .long, 0),
  (⟨"ThroneSale$Empire", "<init>", "()V"⟩, 185, none, 1),
  (⟨"ThroneSale$Empire", "isTold", "()Z"⟩, 818, some .boolean, 1),
  (⟨"ThroneSale$Empire", "has", "(II)Z"⟩, 794, some .boolean, 1),
  (⟨"ThroneSale$Empire", "isCity", "(I)Z"⟩, 713, some .boolean, 1),
  (⟨"ThroneSale$Empire", "clear", "()V"⟩, 592, none, 1),
  (⟨"ThroneSale$Empire", "copyFrom", "(LThroneSale$Empire;)V"⟩, 724, none, 1),
  (⟨"ThroneSale$Empire", "findWays", "()V"⟩, 710, none, 1),
  (⟨"ThroneSale$Empire", "wayDays", "(II)I"⟩, 1008, some .int, 1),
  (⟨"ThroneSale$Empire", "nextCity", "(II)I"⟩, 1012, some .int, 1),
  (⟨"ThroneSale$Empire", "otherEnd", "(II)I"⟩, 1016, some .int, 1),
  (⟨"ThroneSale$Empire", "marchDays", "(I)I"⟩, 810, some .int, 1),
  (⟨"ThroneSale$EmpireReader", "<init>", "(LThroneSale$Tape;)V"⟩, 179, none, 2),
  (⟨"ThroneSale$EmpireReader", "read", "()I"⟩, 588, some .int, 2),
  (⟨"ThroneSale$EmpireReader", "readClause", "(I)Z"⟩, 684, some .boolean, 2),
  (⟨"ThroneSale$EmpireReader", "readNumber", "(II)Z"⟩, 697, some .boolean, 2),
  (⟨"ThroneSale$Forecast", "<init>", "()V"⟩, 424, none, 3),
  (⟨"ThroneSale$Forecast", "after", "(LThroneSale$Empire;LThroneSale$State;I)LThroneSale$State;"⟩, 956, some (.object "ThroneSale$State"), 3),
  (⟨"ThroneSale$Forecast", "daysHeld", "(LThroneSale$Empire;LThroneSale$State;I)I"⟩, 967, some .int, 3),
  (⟨"ThroneSale$Forecast", "lastRuler", "()I"⟩, 971, some .int, 3),
  (⟨"ThroneSale$Forecast", "chooseDare", "(LThroneSale$Empire;LThroneSale$State;I)V"⟩, 979, none, 3),
  (⟨"ThroneSale$Forecast", "daysBought", "(LThroneSale$Empire;LThroneSale$State;)I"⟩, 985, some .int, 3),
  (⟨"ThroneSale$Forecast", "chooseBribes", "(LThroneSale$Empire;LThroneSale$State;)V"⟩, 995, none, 3),
  (⟨"ThroneSale$Forecast", "priceOf", "(LThroneSale$Empire;LThroneSale$State;I)I"⟩, 998, some .int, 3),
  (⟨"ThroneSale$Forecast", "leastTreasury", "(LThroneSale$Empire;LThroneSale$State;I)I"⟩, 1061, some .int, 3),
  (⟨"ThroneSale$Forecast", "mostThinnings", "(LThroneSale$Empire;LThroneSale$State;I)I"⟩, 1083, some .int, 3),
  (⟨"ThroneSale$Forecast", "drawReigns", "(LThroneSale$Realm;II)V"⟩, 1141, none, 3),
  (⟨"ThroneSale$Forecast", "halveGuards", "(LThroneSale$Empire;LThroneSale$State;)V"⟩, 1069, none, 3),
  (⟨"ThroneSale$Forecast", "menOfSet", "(LThroneSale$Empire;I)I"⟩, 1072, some .int, 3),
  (⟨"ThroneSale$Inquiry", "<init>", "()V"⟩, 460, none, 4),
  (⟨"ThroneSale$Inquiry", "followAll", "(LThroneSale$Realm;[LThroneSale$Rule;I)V"⟩, 1103, none, 4),
  (⟨"ThroneSale$Inquiry", "follow", "(LThroneSale$Empire;LThroneSale$Rule;[I)V"⟩, 1108, none, 4),
  (⟨"ThroneSale$Inquiry", "fits", "(LThroneSale$Realm;[I)Z"⟩, 1116, some .boolean, 4),
  (⟨"ThroneSale$Inquiry", "chooseDay", "()V"⟩, 1124, none, 4),
  (⟨"ThroneSale$Inquiry", "mostAlike", "(I)I"⟩, 1128, some .int, 4),
  (⟨"ThroneSale$March", "<init>", "()V"⟩, 503, none, 5),
  (⟨"ThroneSale$March", "gather", "(LThroneSale$Empire;LThroneSale$State;)V"⟩, 1024, none, 5),
  (⟨"ThroneSale$March", "insert", "(I)V"⟩, 1031, none, 5),
  (⟨"ThroneSale$March", "countRests", "()V"⟩, 1041, none, 5),
  (⟨"ThroneSale$March", "isAtRest", "(I)Z"⟩, 1045, some .boolean, 5),
  (⟨"ThroneSale$March", "gainOf", "(II)I"⟩, 1049, some .int, 5),
  (⟨"ThroneSale$March", "lastHolder", "(I)I"⟩, 1053, some .int, 5),
  (⟨"ThroneSale$Realm", "<init>", "()V"⟩, 262, none, 6),
  (⟨"ThroneSale$Realm", "begin", "(LThroneSale$Empire;)V"⟩, 720, none, 6),
  (⟨"ThroneSale$Realm", "copyFrom", "(LThroneSale$Realm;)V"⟩, 1158, none, 6),
  (⟨"ThroneSale$Realm", "remember", "()V"⟩, 822, none, 6),
  (⟨"ThroneSale$Realm", "takeBack", "()Z"⟩, 944, some .boolean, 6),
  (⟨"ThroneSale$Realm", "addLog", "(II)Z"⟩, 1093, some .boolean, 6),
  (⟨"ThroneSale$Rule", "<init>", "()V"⟩, 229, none, 7),
  (⟨"ThroneSale$Rule", "add", "(II)V"⟩, 764, none, 7),
  (⟨"ThroneSale$Rule", "copyFrom", "(LThroneSale$Rule;)V"⟩, 781, none, 7),
  (⟨"ThroneSale$RuleReader", "<init>", "(LThroneSale$Tape;)V"⟩, 223, none, 8),
  (⟨"ThroneSale$RuleReader", "read", "()I"⟩, 741, some .int, 8),
  (⟨"ThroneSale$RuleReader", "openClause", "(I)Z"⟩, 746, some .boolean, 8),
  (⟨"ThroneSale$RuleReader", "readTest", "(I)Z"⟩, 768, some .boolean, 8),
  (⟨"ThroneSale$RuleReader", "readFact", "(I)Z"⟩, 772, some .boolean, 8),
  (⟨"ThroneSale$RuleReader", "readComparison", "()Z"⟩, 776, some .boolean, 8),
  (⟨"ThroneSale$RuleReader", "readSum", "()Z"⟩, 756, some .boolean, 8),
  (⟨"ThroneSale$RuleReader", "readValue", "()Z"⟩, 760, some .boolean, 8),
  (⟨"ThroneSale$State", "<init>", "()V"⟩, 270, none, 9),
  (⟨"ThroneSale$State", "begin", "(LThroneSale$Empire;)V"⟩, 731, none, 9),
  (⟨"ThroneSale$State", "copyFrom", "(LThroneSale$State;)V"⟩, 826, none, 9),
  (⟨"ThroneSale$State", "menOf", "(LThroneSale$Empire;)I"⟩, 842, some .int, 9),
  (⟨"ThroneSale$State", "crown", "(II)V"⟩, 910, none, 9),
  (⟨"ThroneSale$State", "killRuler", "()V"⟩, 936, none, 9),
  (⟨"ThroneSale$State", "canThin", "()Z"⟩, 923, some .boolean, 9),
  (⟨"ThroneSale$State", "thinCoin", "()V"⟩, 927, none, 9),
  (⟨"ThroneSale$State", "isFree", "(I)Z"⟩, 851, some .boolean, 9),
  (⟨"ThroneSale$State", "comesOn", "(LThroneSale$Empire;I)I"⟩, 806, some .int, 9),
  (⟨"ThroneSale$State", "passDay", "(LThroneSale$Empire;)V"⟩, 830, none, 9),
  (⟨"ThroneSale$State", "rulesBySale", "()Z"⟩, 834, some .boolean, 9),
  (⟨"ThroneSale$State", "rulesByArms", "()Z"⟩, 860, some .boolean, 9),
  (⟨"ThroneSale$State", "payGuards", "(LThroneSale$Empire;)V"⟩, 838, none, 9),
  (⟨"ThroneSale$State", "loseGuards", "(LThroneSale$Empire;)V"⟩, 847, none, 9),
  (⟨"ThroneSale$State", "meet", "(LThroneSale$Empire;II)V"⟩, 864, none, 9),
  (⟨"ThroneSale$State", "menThere", "(LThroneSale$Empire;)I"⟩, 856, some .int, 9),
  (⟨"ThroneSale$Tape", "<init>", "()V"⟩, 134, none, 10),
  (⟨"ThroneSale$Tape", "add", "(I)V"⟩, 576, none, 10),
  (⟨"ThroneSale$Tape", "open", "()V"⟩, 596, none, 10),
  (⟨"ThroneSale$Tape", "isIn", "(ICC)Z"⟩, 600, some .boolean, 10),
  (⟨"ThroneSale$Tape", "isOpenAngle", "(I)Z"⟩, 673, some .boolean, 10),
  (⟨"ThroneSale$Tape", "runEnd", "(ICC)I"⟩, 604, some .int, 10),
  (⟨"ThroneSale$Tape", "put", "(III)V"⟩, 665, none, 10),
  (⟨"ThroneSale$Tape", "numberAt", "(II)I"⟩, 669, some .int, 10),
  (⟨"ThroneSale$Tape", "wordAt", "(II)I"⟩, 608, some .int, 10),
  (⟨"ThroneSale$Tape", "equalsPart", "(III)Z"⟩, 661, some .boolean, 10),
  (⟨"ThroneSale$Tape", "advance", "()V"⟩, 680, none, 10),
  (⟨"ThroneSale$Tape", "isWord", "(I)Z"⟩, 750, some .boolean, 10),
  (⟨"ThroneSale$Tape", "fail", "(I)Z"⟩, 688, some .boolean, 10),
  (⟨"ThroneSale$Tape", "nextClause", "()Z"⟩, 705, some .boolean, 10),
  (⟨"ThroneSale", "<init>", "()V"⟩, 126, none, 11),
  (⟨"ThroneSale", "feed", "(IIIII)I"⟩, 572, some .int, 11),
  (⟨"ThroneSale", "end", "(I)I"⟩, 580, some .int, 11),
  (⟨"ThroneSale", "empire", "()I"⟩, 584, some .int, 11),
  (⟨"ThroneSale", "rule", "()I"⟩, 737, some .int, 11),
  (⟨"ThroneSale", "force", "(I)I"⟩, 786, some .int, 11),
  (⟨"ThroneSale", "band", "(II)I"⟩, 790, some .int, 11),
  (⟨"ThroneSale", "bidder", "(II)I"⟩, 798, some .int, 11),
  (⟨"ThroneSale", "general", "(II)I"⟩, 802, some .int, 11),
  (⟨"ThroneSale", "day", "()I"⟩, 814, some .int, 11),
  (⟨"ThroneSale", "sell", "()I"⟩, 868, some .int, 11),
  (⟨"ThroneSale", "bribe", "(I)I"⟩, 914, some .int, 11),
  (⟨"ThroneSale", "thin", "()I"⟩, 919, some .int, 11),
  (⟨"ThroneSale", "kill", "()I"⟩, 932, some .int, 11),
  (⟨"ThroneSale", "undo", "()I"⟩, 940, some .int, 11),
  (⟨"ThroneSale", "sale", "(I)I"⟩, 948, some .int, 11),
  (⟨"ThroneSale", "ahead", "(II)I"⟩, 952, some .int, 11),
  (⟨"ThroneSale", "fall", "(I)I"⟩, 963, some .int, 11),
  (⟨"ThroneSale", "reign", "(II)I"⟩, 975, some .int, 11),
  (⟨"ThroneSale", "bribes", "(I)I"⟩, 991, some .int, 11),
  (⟨"ThroneSale", "way", "(III)I"⟩, 1003, some .int, 11),
  (⟨"ThroneSale", "first", "(I)I"⟩, 1020, some .int, 11),
  (⟨"ThroneSale", "rests", "(I)I"⟩, 1037, some .int, 11),
  (⟨"ThroneSale", "holds", "(I)I"⟩, 1057, some .int, 11),
  (⟨"ThroneSale", "halves", "(I)I"⟩, 1065, some .int, 11),
  (⟨"ThroneSale", "thinnest", "(I)I"⟩, 1079, some .int, 11),
  (⟨"ThroneSale", "log", "(II)I"⟩, 1089, some .int, 11),
  (⟨"ThroneSale", "ruled", "(I)I"⟩, 1099, some .int, 11),
  (⟨"ThroneSale", "look", "(I)I"⟩, 1120, some .int, 11),
  (⟨"ThroneSale", "seed", "(I)I"⟩, 1133, some .int, 11),
  (⟨"ThroneSale", "reigns", "(III)I"⟩, 1137, some .int, 11),
  (⟨"ThroneSale", "count", "(I)I"⟩, 1150, some .int, 11),
  (⟨"ThroneSale", "image", "(I)I"⟩, 1154, some .int, 11),
  (⟨"ThroneSale", "back", "(I)I"⟩, 1163, some .int, 11),
  (⟨"ThroneSale", "holdSale", "()V"⟩, 872, none, 11),
  (⟨"ThroneSaleModel", "<init>", "()V"⟩, 1168, none, 12),
  (⟨"ThroneSaleModel", "in", "(JJJ)Z"⟩, 1448, some .boolean, 12),
  (⟨"ThroneSaleModel", "has", "(II)Z"⟩, 1553, some .boolean, 12),
  (⟨"ThroneSaleModel", "isBidder", "(I)Z"⟩, 1561, some .boolean, 12),
  (⟨"ThroneSaleModel", "isGeneral", "(I)Z"⟩, 1569, some .boolean, 12),
  (⟨"ThroneSaleModel", "feed", "(IIIII)I"⟩, 1371, some .int, 12),
  (⟨"ThroneSaleModel", "put", "(I)V"⟩, 1375, none, 12),
  (⟨"ThroneSaleModel", "end", "(I)I"⟩, 1379, some .int, 12),
  (⟨"ThroneSaleModel", "wordOf", "(I)Ljava/lang/String;"⟩, 1499, some (.object "java/lang/String"), 12),
  (⟨"ThroneSaleModel", "fails", "(II)V"⟩, 1422, none, 12),
  (⟨"ThroneSaleModel", "sign", "()I"⟩, 1404, some .int, 12),
  (⟨"ThroneSaleModel", "blanks", "()V"⟩, 1400, none, 12),
  (⟨"ThroneSaleModel", "isDigit", "()Z"⟩, 1443, some .boolean, 12),
  (⟨"ThroneSaleModel", "stood", "(Ljava/lang/String;)Z"⟩, 1416, some .boolean, 12),
  (⟨"ThroneSaleModel", "takes", "(Ljava/lang/String;)Z"⟩, 1514, some .boolean, 12),
  (⟨"ThroneSaleModel", "entry", "(II)V"⟩, 1496, none, 12),
  (⟨"ThroneSaleModel", "isCounted", "(I)V"⟩, 1492, none, 12),
  (⟨"ThroneSaleModel", "digits", "(I)I"⟩, 1439, some .int, 12),
  (⟨"ThroneSaleModel", "value", "()V"⟩, 1488, none, 12),
  (⟨"ThroneSaleModel", "term", "()V"⟩, 1484, none, 12),
  (⟨"ThroneSaleModel", "sum", "()V"⟩, 1480, none, 12),
  (⟨"ThroneSaleModel", "compared", "()V"⟩, 1531, none, 12),
  (⟨"ThroneSaleModel", "top", "()I"⟩, 1539, some .int, 12),
  (⟨"ThroneSaleModel", "opens", "(I)V"⟩, 1527, none, 12),
  (⟨"ThroneSaleModel", "answers", "(I)V"⟩, 1535, none, 12),
  (⟨"ThroneSaleModel", "fact", "()Z"⟩, 1522, some .boolean, 12),
  (⟨"ThroneSaleModel", "test", "()V"⟩, 1518, none, 12),
  (⟨"ThroneSaleModel", "amount", "(II)I"⟩, 1434, some .int, 12),
  (⟨"ThroneSaleModel", "empireWord", "(I)Ljava/lang/String;"⟩, 1407, some (.object "java/lang/String"), 12),
  (⟨"ThroneSaleModel", "readsRoad", "()V"⟩, 1452, none, 12),
  (⟨"ThroneSaleModel", "empirePart", "(I)V"⟩, 1430, none, 12),
  (⟨"ThroneSaleModel", "isFull", "(II)Z"⟩, 1426, some .boolean, 12),
  (⟨"ThroneSaleModel", "empireClause", "(I)V"⟩, 1396, none, 12),
  (⟨"ThroneSaleModel", "copies", "([I[I)V"⟩, 1459, none, 12),
  (⟨"ThroneSaleModel", "goesOn", "()Z"⟩, 1456, some .boolean, 12),
  (⟨"ThroneSaleModel", "starts", "()V"⟩, 1391, none, 12),
  (⟨"ThroneSaleModel", "readsAll", "()V"⟩, 1387, none, 12),
  (⟨"ThroneSaleModel", "begins", "()V"⟩, 1467, none, 12),
  (⟨"ThroneSaleModel", "laysFar", "()V"⟩, 1463, none, 12),
  (⟨"ThroneSaleModel", "empire", "()I"⟩, 1383, some .int, 12),
  (⟨"ThroneSaleModel", "ruleClause", "(I)V"⟩, 1475, none, 12),
  (⟨"ThroneSaleModel", "rule", "()I"⟩, 1471, some .int, 12),
  (⟨"ThroneSaleModel", "force", "(I)I"⟩, 1545, some .int, 12),
  (⟨"ThroneSaleModel", "told", "()J"⟩, 1658, some .long, 12),
  (⟨"ThroneSaleModel", "truth", "(Z)J"⟩, 1668, some .long, 12),
  (⟨"ThroneSaleModel", "both", "(IJJ)J"⟩, 1665, some .long, 12),
  (⟨"ThroneSaleModel", "answer", "(III)J"⟩, 1662, some .long, 12),
  (⟨"ThroneSaleModel", "menLeft", "()I"⟩, 1609, some .int, 12),
  (⟨"ThroneSaleModel", "isBidderReigning", "()Z"⟩, 1613, some .boolean, 12),
  (⟨"ThroneSaleModel", "marchOf", "(I)I"⟩, 1577, some .int, 12),
  (⟨"ThroneSaleModel", "comesOn", "(I)I"⟩, 1573, some .int, 12),
  (⟨"ThroneSaleModel", "band", "(II)I"⟩, 1550, some .int, 12),
  (⟨"ThroneSaleModel", "bidder", "(II)I"⟩, 1557, some .int, 12),
  (⟨"ThroneSaleModel", "general", "(II)I"⟩, 1565, some .int, 12),
  (⟨"ThroneSaleModel", "bidOf", "(I)J"⟩, 1654, some .long, 12),
  (⟨"ThroneSaleModel", "manyOut", "()I"⟩, 1650, some .int, 12),
  (⟨"ThroneSaleModel", "sells", "()I"⟩, 1646, some .int, 12),
  (⟨"ThroneSaleModel", "sellsNow", "(Z)I"⟩, 1642, some .int, 12),
  (⟨"ThroneSaleModel", "asTold", "()V"⟩, 1638, none, 12),
  (⟨"ThroneSaleModel", "crowns", "(I)V"⟩, 1673, none, 12),
  (⟨"ThroneSaleModel", "pays", "()V"⟩, 1605, none, 12),
  (⟨"ThroneSaleModel", "leave", "()V"⟩, 1618, none, 12),
  (⟨"ThroneSaleModel", "strength", "()I"⟩, 1630, some .int, 12),
  (⟨"ThroneSaleModel", "isFree", "(I)Z"⟩, 1626, some .boolean, 12),
  (⟨"ThroneSaleModel", "come", "()V"⟩, 1622, none, 12),
  (⟨"ThroneSaleModel", "goes", "()V"⟩, 1601, none, 12),
  (⟨"ThroneSaleModel", "goFor", "(I)V"⟩, 1715, none, 12),
  (⟨"ThroneSaleModel", "moves", "(I)I"⟩, 1589, some .int, 12),
  (⟨"ThroneSaleModel", "movesAll", "(IZ)V"⟩, 1585, none, 12),
  (⟨"ThroneSaleModel", "keepsAct", "()V"⟩, 1597, none, 12),
  (⟨"ThroneSaleModel", "undo", "()I"⟩, 1581, some .int, 12),
  (⟨"ThroneSaleModel", "day", "()I"⟩, 1593, some .int, 12),
  (⟨"ThroneSaleModel", "sell", "()I"⟩, 1634, some .int, 12),
  (⟨"ThroneSaleModel", "bribe", "(I)I"⟩, 1677, some .int, 12),
  (⟨"ThroneSaleModel", "thins", "()V"⟩, 1685, none, 12),
  (⟨"ThroneSaleModel", "thin", "()I"⟩, 1681, some .int, 12),
  (⟨"ThroneSaleModel", "kill", "()I"⟩, 1689, some .int, 12),
  (⟨"ThroneSaleModel", "keepsAll", "()V"⟩, 1703, none, 12),
  (⟨"ThroneSaleModel", "laysBack", "()V"⟩, 1719, none, 12),
  (⟨"ThroneSaleModel", "sale", "(I)I"⟩, 1693, some .int, 12),
  (⟨"ThroneSaleModel", "ahead", "(II)I"⟩, 1698, some .int, 12),
  (⟨"ThroneSaleModel", "daysOf", "(I)I"⟩, 1727, some .int, 12),
  (⟨"ThroneSaleModel", "fall", "(I)I"⟩, 1723, some .int, 12),
  (⟨"ThroneSaleModel", "reign", "(II)I"⟩, 1731, some .int, 12),
  (⟨"ThroneSaleModel", "bribes", "(I)I"⟩, 1735, some .int, 12),
  (⟨"ThroneSaleModel", "way", "(III)I"⟩, 1739, some .int, 12),
  (⟨"ThroneSaleModel", "couldMarch", "(I)Z"⟩, 1748, some .boolean, 12),
  (⟨"ThroneSaleModel", "first", "(I)I"⟩, 1744, some .int, 12),
  (⟨"ThroneSaleModel", "laysGains", "(I)V"⟩, 1760, none, 12),
  (⟨"ThroneSaleModel", "isRest", "(II)Z"⟩, 1756, some .boolean, 12),
  (⟨"ThroneSaleModel", "rests", "(I)I"⟩, 1752, some .int, 12),
  (⟨"ThroneSaleModel", "holds", "(I)I"⟩, 1764, some .int, 12),
  (⟨"ThroneSaleModel", "thinnest", "(I)I"⟩, 1769, some .int, 12),
  (⟨"ThroneSaleModel", "menOf", "(I)I"⟩, 1777, some .int, 12),
  (⟨"ThroneSaleModel", "halves", "(I)I"⟩, 1773, some .int, 12),
  (⟨"ThroneSaleModel", "log", "(II)I"⟩, 1781, some .int, 12),
  (⟨"ThroneSaleModel", "couldRule", "(I)Z"⟩, 1789, some .boolean, 12),
  (⟨"ThroneSaleModel", "ruled", "(I)I"⟩, 1785, some .int, 12),
  (⟨"ThroneSaleModel", "mostAlike", "(II)I"⟩, 1797, some .int, 12),
  (⟨"ThroneSaleModel", "look", "(I)I"⟩, 1793, some .int, 12),
  (⟨"ThroneSaleModel", "seed", "(I)I"⟩, 1801, some .int, 12),
  (⟨"ThroneSaleModel", "draws", "(I)I"⟩, 1810, some .int, 12),
  (⟨"ThroneSaleModel", "reigns", "(III)I"⟩, 1805, some .int, 12),
  (⟨"ThroneSaleModel", "count", "(I)I"⟩, 1818, some .int, 12),
  (⟨"ThroneSaleModel", "carryRow", "([I)V"⟩, 1711, none, 12),
  (⟨"ThroneSaleModel", "carriesAll", "(IZ)V"⟩, 1707, none, 12),
  (⟨"ThroneSaleModel", "image", "(I)I"⟩, 1822, some .int, 12),
  (⟨"ThroneSaleModel", "back", "(I)I"⟩, 1826, some .int, 12),
  (⟨"java/lang/String", "length", "()I"⟩, 613, some .int, 14),
  (⟨"java/lang/String", "coder", "()B"⟩, 617, some .byte, 14),
  (⟨"java/lang/String", "charAt", "(I)C"⟩, 623, some .char, 14),
  (⟨"java/lang/String", "isLatin1", "()Z"⟩, 627, some .boolean, 14),
  (⟨"java/lang/StringLatin1", "charAt", "([BI)C"⟩, 630, some .char, 15),
  (⟨"java/lang/String", "checkIndex", "(II)V"⟩, 633, none, 14),
  (⟨"jdk/internal/util/Preconditions", "checkIndex", "(IILjava/util/function/BiFunction;)I"⟩, 638, some .int, 16)]
abbrev zNY : Nat := 249
def zy0 : MethodName × Nat × Option FieldType × Nat := (⟨"", "", ""⟩, 0, none, 99)
def zyn (y : Nat) : MethodName := (zyL.getD y zy0).1
def zgc (w : Option Cond) : ByteArray := match w with | some (.code _ b _ _) => b | _ => .mk #[]
def zcd (y : Nat) : ByteArray := match y with | 0 => code | k + 1 => zgc lw_tbl[(zyL.getD (k + 1) zy0).2.1]?
def zrt (y : Nat) : Option FieldType := (zyL.getD y zy0).2.2.1
def zoc (y : Nat) : Nat := (zyL.getD y zy0).2.2.2
def zna (y : Nat) : Nat := (zmL.getD y (0, 0, 0)).2.2
def zstt (y : Nat) : Bool := [0, 9, 13, 32, 37, 41, 135, 136, 142, 162, 167, 178, 179, 246, 247, 248].contains y
/-- class, entry, what it is linked to, the word's place -/
def zFL : List (Nat × Nat × Nat × Nat) := [(0, 13, 0, 373), (0, 17, 9, 390), (0, 21, 10, 391), (0, 24, 11, 392), (0, 28, 101, 197), (0, 38, 100, 191), (0, 45, 4, 385), (0, 49, 1, 375), (0, 64, 2, 380), (0, 67, 3, 383), (0, 70, 5, 386), (0, 79, 6, 387), (0, 82, 900, 273), (0, 85, 7, 388), (0, 86, 902, 279), (0, 89, 8, 389), (0, 90, 910, 299), (0, 93, 702, 237), (0, 98, 700, 232), (0, 101, 701, 234), (1, 11, 100, 189), (1, 17, 101, 196), (1, 20, 102, 203), (2, 12, 201, 212), (2, 18, 200, 211), (2, 38, 1009, 150), (2, 45, 1007, 144), (2, 48, 1008, 147), (2, 54, 100, 192), (2, 71, 101, 200), (3, 12, 300, 430), (3, 18, 301, 431), (3, 24, 302, 432), (3, 36, 903, 282), (3, 40, 303, 433), (3, 43, 304, 435), (3, 49, 0, 374), (3, 57, 1, 377), (3, 60, 2, 381), (3, 75, 100, 195), (3, 83, 900, 274), (3, 86, 908, 294), (3, 93, 101, 202), (3, 104, 305, 437), (3, 107, 603, 335), (3, 112, 600, 328), (3, 126, 601, 331), (3, 129, 907, 292), (3, 136, 306, 439), (4, 13, 400, 467), (4, 16, 401, 468), (4, 23, 403, 470), (4, 30, 404, 471), (4, 40, 402, 469), (4, 44, 405, 472), (4, 47, 406, 474), (4, 50, 600, 326), (4, 75, 1, 376), (4, 78, 2, 379), (4, 88, 903, 283), (4, 91, 608, 345), (4, 94, 606, 341), (4, 98, 607, 343), (4, 101, 407, 476), (4, 104, 408, 478), (5, 11, 500, 505), (5, 17, 504, 513), (5, 20, 505, 514), (5, 23, 501, 507), (5, 33, 506, 515), (5, 36, 100, 190), (5, 39, 101, 199), (5, 61, 502, 509), (5, 64, 503, 511), (6, 12, 600, 325), (6, 21, 601, 329), (6, 25, 602, 332), (6, 29, 604, 337), (6, 33, 606, 340), (6, 37, 607, 342), (6, 47, 605, 338), (6, 50, 608, 344), (6, 56, 603, 334), (7, 11, 700, 231), (7, 15, 701, 233), (7, 18, 702, 235), (8, 12, 801, 246), (8, 18, 800, 245), (8, 22, 702, 236), (8, 26, 802, 248), (8, 58, 1009, 151), (8, 67, 1007, 145), (8, 76, 1008, 148), (9, 11, 901, 276), (9, 15, 903, 281), (9, 18, 905, 287), (9, 23, 910, 298), (9, 27, 101, 198), (9, 31, 900, 272), (9, 34, 902, 278), (9, 37, 904, 285), (9, 40, 906, 289), (9, 43, 907, 290), (9, 46, 908, 293), (9, 49, 909, 296), (9, 58, 100, 193), (10, 11, 1000, 136), (10, 15, 1002, 139), (10, 18, 1003, 140), (10, 21, 1004, 141), (10, 24, 1001, 138), (10, 28, 1009, 152), (10, 31, 1005, 142), (10, 62, 1006, 143), (10, 83, 1007, 146), (10, 86, 1008, 149), (11, 10, 1100, 532), (11, 21, 1101, 533), (11, 28, 1102, 534), (11, 34, 1103, 535), (11, 41, 1105, 537), (11, 45, 1106, 538), (11, 49, 1107, 539), (11, 56, 1108, 540), (11, 63, 1109, 541), (11, 70, 1110, 542), (11, 77, 1111, 543), (11, 82, 1001, 137), (11, 94, 201, 213), (11, 102, 600, 327), (11, 105, 100, 194), (11, 111, 1104, 536), (11, 115, 801, 247), (11, 122, 602, 333), (11, 129, 101, 201), (11, 133, 601, 330), (11, 137, 907, 291), (11, 142, 910, 300), (11, 145, 903, 284), (11, 148, 908, 295), (11, 151, 909, 297), (11, 162, 902, 280), (11, 174, 1, 378), (11, 177, 2, 382), (11, 188, 900, 275), (11, 203, 605, 339), (11, 206, 3, 384), (11, 217, 904, 286), (11, 231, 303, 434), (11, 234, 304, 436), (11, 254, 501, 508), (11, 257, 500, 506), (11, 267, 502, 510), (11, 270, 503, 512), (11, 279, 306, 440), (11, 285, 608, 346), (11, 295, 405, 473), (11, 298, 406, 475), (11, 304, 407, 477), (11, 305, 408, 479), (11, 308, 603, 336), (11, 315, 305, 438), (11, 318, 901, 277), (11, 321, 905, 288), (12, 9, 1201, 1170), (12, 13, 1202, 1171), (12, 16, 1203, 1172), (12, 19, 1204, 1173), (12, 22, 1205, 1174), (12, 25, 1206, 1175), (12, 28, 1207, 1176), (12, 31, 1208, 1177), (12, 34, 1209, 1178), (12, 37, 1210, 1179), (12, 40, 1211, 1180), (12, 43, 1212, 1181), (12, 46, 1213, 1182), (12, 49, 1214, 1183), (12, 52, 1215, 1184), (12, 55, 1216, 1185), (12, 58, 1217, 1186), (12, 61, 1218, 1187), (12, 64, 1219, 1188), (12, 67, 1220, 1189), (12, 70, 1221, 1190), (12, 73, 1222, 1191), (12, 76, 1223, 1192), (12, 79, 1224, 1193), (12, 82, 1235, 1204), (12, 86, 1236, 1205), (12, 90, 1237, 1206), (12, 93, 1238, 1207), (12, 96, 1239, 1208), (12, 99, 1240, 1209), (12, 102, 1241, 1210), (12, 105, 1242, 1211), (12, 108, 1243, 1212), (12, 111, 1244, 1213), (12, 114, 1245, 1214), (12, 118, 1246, 1215), (12, 121, 1252, 1221), (12, 124, 1253, 1222), (12, 127, 1254, 1223), (12, 130, 1258, 1227), (12, 133, 1259, 1228), (12, 136, 1260, 1229), (12, 139, 1261, 1230), (12, 142, 1262, 1231), (12, 146, 1263, 1232), (12, 156, 1226, 1195), (12, 182, 1228, 1197), (12, 185, 1227, 1196), (12, 212, 1229, 1198), (12, 215, 1231, 1200), (12, 218, 1233, 1202), (12, 253, 1234, 1203), (12, 256, 1232, 1201), (12, 327, 1225, 1194), (12, 331, 1255, 1224), (12, 344, 1230, 1199), (12, 382, 1251, 1220), (12, 385, 1247, 1216), (12, 387, 1248, 1217), (12, 392, 1249, 1218), (12, 401, 1250, 1219), (12, 433, 1257, 1226), (12, 436, 1256, 1225), (12, 515, 1265, 1234), (12, 518, 1264, 1233), (14, 9, 100000, 1827), (14, 15, 100001, 1828)]
def zFw (q : Nat × Nat × Nat × Nat) : Cond := if q.2.2.1 = 100000 then .fieldLink (zcn q.1) q.2.1 "java/lang/String" "value" "[B" else if q.2.2.1 = 100001 then .fieldLink (zcn q.1) q.2.1 "java/lang/String" "coder" "B" else .fieldLink (zcn q.1) q.2.1 (zcn (q.2.2.1 / 100)) (zcT (q.2.2.1 / 100) (q.2.2.1 % 100)).2.1 (zcT (q.2.2.1 / 100) (q.2.2.1 % 100)).2.2.1
def zGL : List (Nat × Nat × Nat × Nat) := [(2, 58, 2, 689), (2, 64, 1, 692), (2, 75, 3, 698), (2, 78, 4, 700), (14, 38, 0, 618), (14, 1053, 12, 634)]
/-- the statics that are read: class, name, type -/
def zgs (a : Nat) : String × String × String := match a with | 0 => ("java/lang/String", "COMPACT_STRINGS", "Z") | 1 => ("ThroneSale$EmpireReader", "NUMBERS", "[I") | 2 => ("ThroneSale$EmpireReader", "MOST", "[I") | 3 => ("ThroneSale$EmpireReader", "LOW", "[I") | 4 => ("ThroneSale$EmpireReader", "HIGH", "[I") | _ => ("jdk/internal/util/Preconditions", "SIOOBE_FORMATTER", "Ljava/util/function/BiFunction;")
def zGw (q : Nat × Nat × Nat × Nat) : Cond := .fieldLink (zcn q.1) q.2.1 (zgs q.2.2.1).1 (zgs q.2.2.1).2.1 (zgs q.2.2.1).2.2
def zML : List (Nat × Nat × Nat × Nat) := [(0, 5, 9999, 372), (0, 32, 9998, 877), (0, 41, 43, 882), (0, 52, 62, 887), (0, 56, 73, 891), (0, 60, 53, 902), (0, 73, 712, 886), (0, 104, 83, 895), (0, 108, 93, 899), (1, 3, 9999, 186), (1, 23, 9998, 725), (1, 29, 131, 711), (1, 33, 9990, 714), (1, 39, 193, 1013), (2, 3, 9999, 180), (2, 22, 141, 589), (2, 25, 871, 593), (2, 30, 232, 681), (2, 34, 981, 702), (2, 42, 161, 707), (2, 51, 972, 685), (2, 61, 951, 691), (2, 67, 243, 694), (3, 3, 9999, 425), (3, 28, 702, 957), (3, 32, 782, 958), (3, 46, 22, 980), (3, 53, 34, 981), (3, 63, 303, 982), (3, 67, 723, 986), (3, 71, 274, 987), (3, 80, 323, 996), (3, 89, 762, 999), (3, 97, 741, 1084), (3, 101, 751, 1085), (3, 132, 372, 1070), (3, 139, 9992, 1073), (4, 3, 9999, 461), (4, 34, 9990, 1104), (4, 56, 404, 1105), (4, 60, 412, 1114), (4, 64, 692, 1109), (4, 68, 22, 1110), (4, 71, 34, 1111), (4, 81, 723, 1112), (4, 85, 782, 1113), (4, 107, 432, 1125), (4, 111, 9991, 1129), (5, 3, 9999, 504), (5, 27, 712, 1025), (5, 43, 202, 1026), (5, 47, 762, 1027), (5, 51, 462, 1028), (5, 55, 9990, 1032), (5, 67, 482, 1042), (5, 70, 493, 1046), (5, 73, 502, 1050), (6, 3, 9999, 263), (6, 40, 152, 721), (6, 44, 692, 728), (6, 53, 702, 823), (6, 59, 9998, 1159), (6, 65, 123, 1094), (6, 69, 111, 1095), (7, 3, 9999, 230), (7, 22, 9998, 782), (8, 3, 9999, 224), (8, 29, 871, 742), (8, 34, 622, 743), (8, 38, 661, 753), (8, 42, 962, 747), (8, 45, 951, 752), (8, 48, 632, 765), (8, 51, 583, 761), (8, 55, 981, 777), (8, 61, 972, 751), (8, 64, 642, 769), (8, 70, 651, 773), (8, 73, 671, 757), (9, 3, 9999, 271), (9, 52, 9998, 732), (9, 61, 791, 831), (9, 65, 801, 857), (9, 69, 9990, 843), (9, 75, 202, 807), (9, 79, 812, 835), (9, 83, 822, 844), (9, 86, 762, 848), (9, 90, 773, 852), (9, 94, 842, 853), (9, 98, 834, 861), (9, 102, 712, 839), (10, 3, 9999, 135), (10, 34, 884, 597), (10, 38, 904, 601), (10, 42, 933, 605), (10, 46, 914, 662), (10, 50, 923, 666), (10, 53, 892, 670), (10, 57, 9991, 674), (10, 65, 951, 677), (10, 70, 2421, 610), (10, 75, 2442, 620), (10, 79, 944, 658), (10, 89, 972, 706), (11, 1, 9999, 127), (11, 18, 212, 177), (11, 27, 602, 221), (11, 40, 511, 260), (11, 86, 862, 573), (11, 90, 221, 585), (11, 98, 522, 717), (11, 114, 611, 738), (11, 118, 592, 778), (11, 125, 123, 791), (11, 154, 773, 803), (11, 158, 111, 815), (11, 165, 541, 819), (11, 168, 782, 827), (11, 171, 1331, 869), (11, 180, 723, 907), (11, 184, 762, 915), (11, 191, 741, 920), (11, 194, 751, 924), (11, 197, 731, 933), (11, 200, 551, 941), (11, 209, 264, 953), (11, 213, 712, 959), (11, 220, 274, 964), (11, 224, 281, 968), (11, 227, 294, 976), (11, 237, 313, 992), (11, 241, 131, 1004), (11, 244, 173, 1005), (11, 248, 183, 1009), (11, 251, 453, 1021), (11, 260, 202, 1033), (11, 264, 471, 1038), (11, 273, 334, 1058), (11, 276, 363, 1066), (11, 282, 344, 1080), (11, 288, 563, 1090), (11, 291, 394, 1100), (11, 301, 421, 1121), (11, 311, 354, 1138), (11, 324, 532, 1155), (11, 327, 22, 873), (11, 330, 34, 878), (12, 3, 9999, 1169), (12, 152, 1353, 1446), (12, 159, 1402, 1372), (12, 188, 1441, 1401), (12, 196, 2421, 1417), (12, 201, 2442, 1418), (12, 205, 1451, 1397), (12, 208, 1472, 1413), (12, 221, 1433, 1419), (12, 225, 1461, 1440), (12, 230, 1512, 1436), (12, 234, 1502, 1489), (12, 237, 1493, 1493), (12, 240, 1421, 1497), (12, 244, 1521, 1485), (12, 247, 1531, 1481), (12, 250, 1541, 1477), (12, 259, 1561, 1536), (12, 264, 1572, 1524), (12, 267, 1551, 1528), (12, 270, 1591, 1519), (12, 273, 1582, 1532), (12, 287, 1613, 1431), (12, 291, 1631, 1449), (12, 294, 1621, 1405), (12, 297, 1653, 1423), (12, 301, 1642, 1427), (12, 304, 1691, 1388), (12, 308, 1662, 1393), (12, 311, 1681, 1453), (12, 314, 1672, 1457), (12, 318, 1701, 1384), (12, 321, 1721, 1460), (12, 324, 1711, 1464), (12, 338, 1482, 1511), (12, 341, 1601, 1515), (12, 347, 1742, 1472), (12, 352, 1804, 1659), (12, 356, 1781, 1666), (12, 360, 1793, 1663), (12, 364, 1362, 1551), (12, 369, 1832, 1574), (12, 372, 1372, 1558), (12, 376, 1382, 1566), (12, 379, 1842, 1570), (12, 389, 1811, 1606), (12, 394, 1891, 1647), (12, 397, 1771, 1655), (12, 403, 1882, 1651), (12, 409, 1901, 1643), (12, 412, 1821, 1610), (12, 415, 1972, 1623), (12, 418, 1961, 1627), (12, 421, 1941, 1602), (12, 424, 1951, 1615), (12, 427, 1981, 1619), (12, 430, 1991, 1598), (12, 439, 2012, 1586), (12, 442, 2023, 1582), (12, 446, 2031, 1594), (12, 449, 1921, 1635), (12, 452, 1912, 1639), (12, 456, 1932, 1670), (12, 459, 2081, 1682), (12, 462, 2393, 1704), (12, 469, 2111, 1700), (12, 472, 2002, 1712), (12, 475, 2121, 1716), (12, 478, 2152, 1724), (12, 483, 2202, 1745), (12, 486, 2222, 1757), (12, 489, 2233, 1753), (12, 494, 2272, 1774), (12, 497, 2302, 1786), (12, 500, 2323, 1794), (12, 512, 2352, 1807), (12, 521, 2382, 1708), (13, 9, 991, 124), (13, 12, 1341, 1166), (13, 13, 1006, 569), (13, 17, 1396, 1368), (13, 18, 1012, 577), (13, 22, 1412, 1376), (13, 23, 1021, 581), (13, 27, 1731, 1380), (13, 28, 1031, 734), (13, 31, 1751, 1468), (13, 32, 1042, 783), (13, 35, 1762, 1542), (13, 36, 1053, 787), (13, 40, 1853, 1547), (13, 41, 1063, 795), (13, 44, 1863, 1554), (13, 45, 1073, 799), (13, 48, 1873, 1562), (13, 49, 1081, 811), (13, 52, 2051, 1590), (13, 53, 1091, 865), (13, 56, 2061, 1631), (13, 57, 1102, 911), (13, 60, 2072, 1674), (13, 61, 1111, 916), (13, 64, 2091, 1678), (13, 65, 1121, 929), (13, 68, 2101, 1686), (13, 69, 1131, 937), (13, 72, 2041, 1578), (13, 73, 1142, 945), (13, 76, 2132, 1690), (13, 77, 1153, 949), (13, 80, 2143, 1695), (13, 81, 1162, 960), (13, 84, 2162, 1720), (13, 85, 1173, 972), (13, 88, 2173, 1728), (13, 89, 1182, 988), (13, 92, 2182, 1732), (13, 93, 1194, 1000), (13, 97, 2194, 1736), (13, 98, 1202, 1017), (13, 101, 2212, 1741), (13, 102, 1212, 1034), (13, 105, 2242, 1749), (13, 106, 1222, 1054), (13, 109, 2252, 1761), (13, 110, 1232, 1062), (13, 113, 2282, 1770), (13, 114, 1242, 1076), (13, 117, 2262, 1766), (13, 118, 1253, 1086), (13, 121, 2293, 1778), (13, 122, 1262, 1096), (13, 125, 2312, 1782), (13, 126, 1272, 1117), (13, 129, 2332, 1790), (13, 130, 1282, 1130), (13, 133, 2342, 1798), (13, 134, 1294, 1134), (13, 137, 2364, 1802), (13, 138, 1302, 1147), (13, 141, 2372, 1815), (13, 142, 1312, 1151), (13, 145, 2402, 1819), (13, 146, 1322, 1160), (13, 149, 2412, 1823), (14, 335, 2431, 614), (14, 492, 2451, 624), (14, 495, 2462, 628), (14, 1059, 2483, 636), (15, 9, 2472, 631)]
/-- the same, of a nest mate's private method -/
def zNM : List (Nat × Nat × Nat × Nat) := [(2, 11, 101, 183), (3, 11, 681, 427), (3, 23, 11, 429), (4, 22, 681, 464), (4, 29, 11, 466), (6, 11, 101, 265), (6, 20, 681, 268), (8, 11, 571, 227), (11, 9, 851, 132), (11, 55, 11, 369), (11, 62, 251, 422), (11, 69, 381, 458), (11, 76, 441, 501), (11, 81, 571, 531)]
def zNw (q : Nat × Nat × Nat × Nat) : Cond := .methodLinkNest (zcn q.1) q.2.1 (zyn (q.2.2.1 / 10)) "ThroneSale"
def zMn (a : Nat) : MethodName := if a = 9999 then Lib.objectInit else if a = 9998 then arraycopyName else if a = 9990 then Lib.Math.min.name else if a = 9991 then Lib.Math.max.name else if a = 9992 then Lib.Math.abs.name else zyn (a / 10)
def zMw (q : Nat × Nat × Nat × Nat) : Cond := .methodLink (zcn q.1) q.2.1 (zMn q.2.2.1)
def zIL : List (Nat × Nat × Nat × Nat) := [(9, 68, 100000, 928), (12, 229, 100000, 1435), (12, 307, 100001, 1392), (12, 509, 65537, 1814)]
def zIw (q : Nat × Nat × Nat × Nat) : Cond := .constant (zcn q.1) q.2.1 (Int32.ofNat (q.2.2.1 - 1))
def zLL : List (Nat × Nat × Nat × Nat) := [(0, 91, 12, 906), (3, 116, 15, 1142), (3, 118, 13, 1143), (3, 120, 16, 1144), (3, 122, 14, 1145), (3, 124, 10, 1146), (12, 192, 7, 1444), (12, 194, 8, 1445), (12, 350, 0, 1546), (12, 367, 4, 1614), (12, 407, 12, 1669), (12, 465, 3, 1694), (12, 467, 11, 1699), (12, 481, 5, 1740), (12, 492, 9, 1765), (12, 503, 15, 1811), (12, 505, 13, 1812), (12, 507, 17, 1813), (12, 510, 6, 1806)]
def zLw (q : Nat × Nat × Nat × Nat) : Cond := .constantLong (zcn q.1) q.2.1 (zlc q.2.2.1)
def zSL : List (Nat × Nat × Nat × Nat) := [(10, 68, 1, 609), (12, 163, 4, 1410), (12, 165, 8, 1500), (12, 166, 9, 1501), (12, 167, 10, 1502), (12, 169, 11, 1503), (12, 171, 12, 1504), (12, 173, 13, 1505), (12, 174, 14, 1506), (12, 176, 15, 1507), (12, 178, 16, 1508), (12, 180, 17, 1509), (12, 262, 19, 1523), (12, 276, 20, 1540), (12, 278, 21, 1541), (12, 280, 2, 1408), (12, 282, 3, 1409), (12, 284, 5, 1411), (12, 286, 6, 1412), (12, 334, 7, 1476), (12, 336, 18, 1510)]
def ztxL : List String := ["empire guard general road bidder purse dare high holder jump men treasury turn out day bid if or and not", "empire", "guard", "bidder", "general", "road", "bid", "purse", "dare", "high", "holder", "jump", "men", "treasury", "turn", "out", "day", "if", "not", "and", "or"]
def zCL : List (Nat × Nat × Nat × Nat) := [(1, 15, 124, 187), (2, 9, 1, 181), (3, 9, 9, 426), (3, 21, 0, 428), (4, 11, 124, 462), (4, 20, 9, 463), (4, 27, 0, 465), (6, 9, 1, 264), (6, 18, 9, 266), (8, 9, 7, 225), (11, 7, 10, 130), (11, 16, 2, 175), (11, 25, 8, 219), (11, 32, 7, 256), (11, 38, 6, 258), (11, 53, 0, 367), (11, 60, 3, 420), (11, 67, 4, 456), (11, 74, 5, 499), (13, 7, 11, 122), (13, 10, 12, 1164)]
def zCw (q : Nat × Nat × Nat × Nat) : Cond := .classLink (zcn q.1) q.2.1 (if q.2.2.1 = 124 then "[[I" else zcn q.2.2.1)
/-- method, places of its code word, of instanceMethod or static, of selects -/
def zYL0 : List (Nat × Nat × Nat × Nat) := [(1, 371, 370, 0), (2, 876, 874, 875), (3, 881, 879, 880), (4, 885, 884, 22), (5, 905, 904, 26), (6, 890, 889, 23), (7, 894, 893, 24), (8, 898, 897, 25), (9, 901, 900, 0), (10, 185, 184, 0), (11, 818, 816, 817), (12, 794, 792, 793), (13, 713, 712, 0), (14, 592, 590, 591), (15, 724, 722, 723), (16, 710, 708, 709)]
def zYL1 : List (Nat × Nat × Nat × Nat) := [(17, 1008, 1006, 1007), (18, 1012, 1010, 1011), (19, 1016, 1015, 28), (20, 810, 808, 809), (21, 179, 178, 0), (22, 588, 586, 587), (23, 684, 683, 7), (24, 697, 696, 8), (25, 424, 423, 0), (26, 956, 954, 955), (27, 967, 965, 966), (28, 971, 969, 970), (29, 979, 977, 978), (30, 985, 984, 27), (31, 995, 993, 994), (32, 998, 997, 0)]
def zYL2 : List (Nat × Nat × Nat × Nat) := [(33, 1061, 1059, 1060), (34, 1083, 1081, 1082), (35, 1141, 1139, 1140), (36, 1069, 1067, 1068), (37, 1072, 1071, 0), (38, 460, 459, 0), (39, 1103, 1101, 1102), (40, 1108, 1107, 33), (41, 1116, 1115, 0), (42, 1124, 1122, 1123), (43, 1128, 1127, 34), (44, 503, 502, 0), (45, 1024, 1022, 1023), (46, 1031, 1030, 29), (47, 1041, 1039, 1040), (48, 1045, 1044, 30)]
def zYL3 : List (Nat × Nat × Nat × Nat) := [(49, 1049, 1048, 31), (50, 1053, 1052, 32), (51, 262, 261, 0), (52, 720, 718, 719), (53, 1158, 1156, 1157), (54, 822, 820, 821), (55, 944, 942, 943), (56, 1093, 1091, 1092), (57, 229, 228, 0), (58, 764, 762, 763), (59, 781, 779, 780), (60, 223, 222, 0), (61, 741, 739, 740), (62, 746, 745, 9), (63, 768, 767, 12), (64, 772, 771, 13)]
def zYL4 : List (Nat × Nat × Nat × Nat) := [(65, 776, 775, 14), (66, 756, 755, 10), (67, 760, 759, 11), (68, 270, 269, 0), (69, 731, 729, 730), (70, 826, 824, 825), (71, 842, 840, 841), (72, 910, 908, 909), (73, 936, 934, 935), (74, 923, 921, 922), (75, 927, 925, 926), (76, 851, 849, 850), (77, 806, 804, 805), (78, 830, 828, 829), (79, 834, 833, 15), (80, 860, 859, 19)]
def zYL5 : List (Nat × Nat × Nat × Nat) := [(81, 838, 837, 16), (82, 847, 846, 17), (83, 864, 863, 20), (84, 856, 855, 18), (85, 134, 133, 0), (86, 576, 574, 575), (87, 596, 594, 595), (88, 600, 599, 0), (89, 673, 672, 6), (90, 604, 603, 1), (91, 665, 664, 4), (92, 669, 668, 5), (93, 608, 607, 2), (94, 661, 660, 3), (95, 680, 678, 679), (96, 750, 748, 749)]
def zYL6 : List (Nat × Nat × Nat × Nat) := [(97, 688, 686, 687), (98, 705, 703, 704), (99, 126, 125, 0), (100, 572, 570, 571), (101, 580, 578, 579), (102, 584, 582, 583), (103, 737, 735, 736), (104, 786, 784, 785), (105, 790, 788, 789), (106, 798, 796, 797), (107, 802, 800, 801), (108, 814, 812, 813), (109, 868, 866, 867), (110, 914, 912, 913), (111, 919, 917, 918), (112, 932, 930, 931)]
def zYL7 : List (Nat × Nat × Nat × Nat) := [(113, 940, 938, 939), (114, 948, 946, 947), (115, 952, 950, 951), (116, 963, 961, 962), (117, 975, 973, 974), (118, 991, 989, 990), (119, 1003, 1001, 1002), (120, 1020, 1018, 1019), (121, 1037, 1035, 1036), (122, 1057, 1055, 1056), (123, 1065, 1063, 1064), (124, 1079, 1077, 1078), (125, 1089, 1087, 1088), (126, 1099, 1097, 1098), (127, 1120, 1118, 1119), (128, 1133, 1131, 1132)]
def zYL8 : List (Nat × Nat × Nat × Nat) := [(129, 1137, 1135, 1136), (130, 1150, 1148, 1149), (131, 1154, 1152, 1153), (132, 1163, 1161, 1162), (133, 872, 871, 21), (134, 1168, 1167, 0), (135, 1448, 1447, 0), (136, 1553, 1552, 0), (137, 1561, 1560, 65), (138, 1569, 1568, 66), (139, 1371, 1369, 1370), (140, 1375, 1374, 35), (141, 1379, 1377, 1378), (142, 1499, 1498, 0), (143, 1422, 1421, 42), (144, 1404, 1403, 40)]
def zYL9 : List (Nat × Nat × Nat × Nat) := [(145, 1400, 1399, 39), (146, 1443, 1442, 47), (147, 1416, 1415, 41), (148, 1514, 1513, 58), (149, 1496, 1495, 57), (150, 1492, 1491, 56), (151, 1439, 1438, 46), (152, 1488, 1487, 55), (153, 1484, 1483, 54), (154, 1480, 1479, 53), (155, 1531, 1530, 62), (156, 1539, 1538, 64), (157, 1527, 1526, 61), (158, 1535, 1534, 63), (159, 1522, 1521, 60), (160, 1518, 1517, 59)]
def zYL10 : List (Nat × Nat × Nat × Nat) := [(161, 1434, 1433, 45), (162, 1407, 1406, 0), (163, 1452, 1451, 48), (164, 1430, 1429, 44), (165, 1426, 1425, 43), (166, 1396, 1395, 38), (167, 1459, 1458, 0), (168, 1456, 1455, 49), (169, 1391, 1390, 37), (170, 1387, 1386, 36), (171, 1467, 1466, 51), (172, 1463, 1462, 50), (173, 1383, 1381, 1382), (174, 1475, 1474, 52), (175, 1471, 1469, 1470), (176, 1545, 1543, 1544)]
def zYL11 : List (Nat × Nat × Nat × Nat) := [(177, 1658, 1657, 85), (178, 1668, 1667, 0), (179, 1665, 1664, 0), (180, 1662, 1661, 86), (181, 1609, 1608, 74), (182, 1613, 1612, 75), (183, 1577, 1576, 68), (184, 1573, 1572, 67), (185, 1550, 1548, 1549), (186, 1557, 1555, 1556), (187, 1565, 1563, 1564), (188, 1654, 1653, 84), (189, 1650, 1649, 83), (190, 1646, 1645, 82), (191, 1642, 1641, 81), (192, 1638, 1637, 80)]
def zYL12 : List (Nat × Nat × Nat × Nat) := [(193, 1673, 1672, 87), (194, 1605, 1604, 73), (195, 1618, 1617, 76), (196, 1630, 1629, 79), (197, 1626, 1625, 78), (198, 1622, 1621, 77), (199, 1601, 1600, 72), (200, 1715, 1714, 92), (201, 1589, 1588, 70), (202, 1585, 1584, 69), (203, 1597, 1596, 71), (204, 1581, 1579, 1580), (205, 1593, 1591, 1592), (206, 1634, 1632, 1633), (207, 1677, 1675, 1676), (208, 1685, 1684, 88)]
def zYL13 : List (Nat × Nat × Nat × Nat) := [(209, 1681, 1679, 1680), (210, 1689, 1687, 1688), (211, 1703, 1702, 89), (212, 1719, 1718, 93), (213, 1693, 1691, 1692), (214, 1698, 1696, 1697), (215, 1727, 1726, 94), (216, 1723, 1721, 1722), (217, 1731, 1729, 1730), (218, 1735, 1733, 1734), (219, 1739, 1737, 1738), (220, 1748, 1747, 95), (221, 1744, 1742, 1743), (222, 1760, 1759, 97), (223, 1756, 1755, 96), (224, 1752, 1750, 1751)]
def zYL14 : List (Nat × Nat × Nat × Nat) := [(225, 1764, 1762, 1763), (226, 1769, 1767, 1768), (227, 1777, 1776, 98), (228, 1773, 1771, 1772), (229, 1781, 1779, 1780), (230, 1789, 1788, 99), (231, 1785, 1783, 1784), (232, 1797, 1796, 100), (233, 1793, 1791, 1792), (234, 1801, 1799, 1800), (235, 1810, 1809, 101), (236, 1805, 1803, 1804), (237, 1818, 1816, 1817), (238, 1711, 1710, 91), (239, 1707, 1706, 90), (240, 1822, 1820, 1821)]
def zYL15 : List (Nat × Nat × Nat × Nat) := [(241, 1826, 1824, 1825), (242, 613, 611, 612), (243, 617, 615, 616), (244, 623, 621, 622), (245, 627, 625, 626), (246, 630, 629, 0), (247, 633, 632, 0), (248, 638, 637, 0)]
def zYL : List (Nat × Nat × Nat × Nat) := zYL0 ++ (zYL1 ++ (zYL2 ++ (zYL3 ++ (zYL4 ++ (zYL5 ++ (zYL6 ++ (zYL7 ++ (zYL8 ++ (zYL9 ++ (zYL10 ++ (zYL11 ++ (zYL12 ++ (zYL13 ++ (zYL14 ++ (zYL15)))))))))))))))
def zNL : List (Nat × Nat) := [(0, 111), (1, 106), (2, 105), (3, 112), (4, 113), (5, 114), (6, 109), (7, 108), (8, 107), (9, 110), (10, 104), (11, 103), (12, 115), (13, 102), (14, 116), (15, 117), (16, 118)]
def zKL : List (Nat × Nat) := [(0, 368), (1, 182), (2, 176), (3, 421), (4, 457), (5, 500), (6, 259), (7, 226), (8, 220), (9, 267), (10, 131), (11, 123), (12, 1165)]
/-- places of the words that lay the fields out -/
def zPL : List (List Nat) := [[393, 395, 397, 399, 401, 403, 405, 407, 409, 411, 413, 415], [204, 206, 208], [214, 216], [441, 443, 445, 447, 449, 451, 453], [480, 482, 484, 486, 488, 490, 492, 494, 496], [516, 518, 520, 522, 524, 526, 528], [347, 349, 351, 353, 355, 357, 359, 361, 363], [238, 240, 242], [249, 251, 253], [301, 303, 305, 307, 309, 311, 313, 315, 317, 319, 321], [153, 155, 157, 159, 161, 163, 165, 167, 169, 171], [544, 546, 548, 550, 552, 554, 556, 558, 560, 562, 564, 566], [1235, 1237, 1239, 1241, 1243, 1245, 1247, 1249, 1251, 1253, 1255, 1257, 1259, 1261, 1263, 1265, 1267, 1269, 1271, 1273, 1275, 1277, 1279, 1281, 1283, 1285, 1287, 1289, 1291, 1293, 1295, 1297, 1299, 1301, 1303, 1305, 1307, 1309, 1311, 1313, 1315, 1317, 1319, 1321, 1323, 1325, 1327, 1329, 1331, 1333, 1335, 1337, 1339, 1341, 1343, 1345, 1347, 1349, 1351, 1353, 1355, 1357, 1359, 1361, 1363, 1365]]
