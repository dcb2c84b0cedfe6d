/-! ===== names, links, and the words of the tables that they stand on (written by a program out of the Statement) ===== -/
def zT0 : u_T := fun k => match k with
  | 0 => ("ThroneSale$Auction", "dare", "[I", true)
  | 1 => ("ThroneSale$Auction", "winner", "I", false)
  | 2 => ("ThroneSale$Auction", "price", "I", false)
  | 3 => ("ThroneSale$Auction", "asked", "I", false)
  | 4 => ("ThroneSale$Auction", "outs", "I", false)
  | 5 => ("ThroneSale$Auction", "jump", "I", false)
  | 6 => ("ThroneSale$Auction", "men", "I", false)
  | 7 => ("ThroneSale$Auction", "treasury", "I", false)
  | 8 => ("ThroneSale$Auction", "day", "I", false)
  | 9 => ("ThroneSale$Auction", "out", "[Z", true)
  | 10 => ("ThroneSale$Auction", "purse", "[I", true)
  | _ => ("ThroneSale$Auction", "stack", "[J", true)
def zT1 : u_T := fun k => match k with
  | 0 => ("ThroneSale$Empire", "count", "[I", true)
  | 1 => ("ThroneSale$Empire", "told", "[[I", true)
  | _ => ("ThroneSale$Empire", "ways", "[[I", true)
def zT2 : u_T := fun k => match k with
  | 0 => ("ThroneSale$EmpireReader", "tape", "LThroneSale$Tape;", true)
  | _ => ("ThroneSale$EmpireReader", "draft", "LThroneSale$Empire;", true)
def zT3 : u_T := fun k => match k with
  | 0 => ("ThroneSale$Forecast", "trial", "LThroneSale$State;", true)
  | 1 => ("ThroneSale$Forecast", "bought", "LThroneSale$State;", true)
  | 2 => ("ThroneSale$Forecast", "auction", "LThroneSale$Auction;", true)
  | 3 => ("ThroneSale$Forecast", "choice", "I", false)
  | 4 => ("ThroneSale$Forecast", "days", "I", false)
  | 5 => ("ThroneSale$Forecast", "wins", "I", false)
  | _ => ("ThroneSale$Forecast", "difference", "I", false)
def zT4 : u_T := fun k => match k with
  | 0 => ("ThroneSale$Inquiry", "rulers", "[[I", true)
  | 1 => ("ThroneSale$Inquiry", "agrees", "[Z", true)
  | 2 => ("ThroneSale$Inquiry", "tried", "I", false)
  | 3 => ("ThroneSale$Inquiry", "trial", "LThroneSale$State;", true)
  | 4 => ("ThroneSale$Inquiry", "auction", "LThroneSale$Auction;", true)
  | 5 => ("ThroneSale$Inquiry", "agreeing", "I", false)
  | 6 => ("ThroneSale$Inquiry", "first", "I", false)
  | 7 => ("ThroneSale$Inquiry", "day", "I", false)
  | _ => ("ThroneSale$Inquiry", "alike", "I", false)
def zT5 : u_T := fun k => match k with
  | 0 => ("ThroneSale$March", "order", "[I", true)
  | 1 => ("ThroneSale$March", "size", "I", false)
  | 2 => ("ThroneSale$March", "sets", "I", false)
  | 3 => ("ThroneSale$March", "leastSet", "I", false)
  | 4 => ("ThroneSale$March", "army", "[I", true)
  | 5 => ("ThroneSale$March", "days", "[I", true)
  | _ => ("ThroneSale$March", "guards", "I", false)
def zT6 : u_T := fun k => match k with
  | 0 => ("ThroneSale$Realm", "empire", "LThroneSale$Empire;", true)
  | 1 => ("ThroneSale$Realm", "state", "LThroneSale$State;", true)
  | 2 => ("ThroneSale$Realm", "inForce", "I", false)
  | 3 => ("ThroneSale$Realm", "x", "I", false)
  | 4 => ("ThroneSale$Realm", "past", "[LThroneSale$State;", true)
  | 5 => ("ThroneSale$Realm", "pastCount", "I", false)
  | 6 => ("ThroneSale$Realm", "logDay", "[I", true)
  | 7 => ("ThroneSale$Realm", "logRuler", "[I", true)
  | _ => ("ThroneSale$Realm", "logCount", "I", false)
def zT7 : u_T := fun k => match k with
  | 0 => ("ThroneSale$Rule", "steps", "[I", true)
  | 1 => ("ThroneSale$Rule", "values", "[I", true)
  | _ => ("ThroneSale$Rule", "size", "I", false)
def zT8 : u_T := fun k => match k with
  | 0 => ("ThroneSale$RuleReader", "tape", "LThroneSale$Tape;", true)
  | 1 => ("ThroneSale$RuleReader", "draft", "LThroneSale$Rule;", true)
  | _ => ("ThroneSale$RuleReader", "parts", "I", false)
def zT9 : u_T := fun k => match k with
  | 0 => ("ThroneSale$State", "treasury", "I", false)
  | 1 => ("ThroneSale$State", "fine", "I", false)
  | 2 => ("ThroneSale$State", "day", "I", false)
  | 3 => ("ThroneSale$State", "ruler", "I", false)
  | 4 => ("ThroneSale$State", "paid", "I", false)
  | 5 => ("ThroneSale$State", "sold", "I", false)
  | 6 => ("ThroneSale$State", "bid", "I", false)
  | 7 => ("ThroneSale$State", "left", "I", false)
  | 8 => ("ThroneSale$State", "bribed", "I", false)
  | 9 => ("ThroneSale$State", "beaten", "I", false)
  | _ => ("ThroneSale$State", "purse", "[I", true)
def zT10 : u_T := fun k => match k with
  | 0 => ("ThroneSale$Tape", "bytes", "[I", true)
  | 1 => ("ThroneSale$Tape", "length", "I", false)
  | 2 => ("ThroneSale$Tape", "kinds", "[I", true)
  | 3 => ("ThroneSale$Tape", "numbers", "[I", true)
  | 4 => ("ThroneSale$Tape", "places", "[I", true)
  | 5 => ("ThroneSale$Tape", "pieces", "I", false)
  | 6 => ("ThroneSale$Tape", "at", "I", false)
  | 7 => ("ThroneSale$Tape", "kind", "I", false)
  | 8 => ("ThroneSale$Tape", "number", "I", false)
  | _ => ("ThroneSale$Tape", "fault", "I", false)
def zT11 : u_T := fun k => match k with
  | 0 => ("ThroneSale", "tape", "LThroneSale$Tape;", true)
  | 1 => ("ThroneSale", "empireReader", "LThroneSale$EmpireReader;", true)
  | 2 => ("ThroneSale", "ruleReader", "LThroneSale$RuleReader;", true)
  | 3 => ("ThroneSale", "rules", "[LThroneSale$Rule;", true)
  | 4 => ("ThroneSale", "ruleCount", "I", false)
  | 5 => ("ThroneSale", "realm", "LThroneSale$Realm;", true)
  | 6 => ("ThroneSale", "images", "[LThroneSale$Realm;", true)
  | 7 => ("ThroneSale", "imageMade", "[Z", true)
  | 8 => ("ThroneSale", "auction", "LThroneSale$Auction;", true)
  | 9 => ("ThroneSale", "forecast", "LThroneSale$Forecast;", true)
  | 10 => ("ThroneSale", "inquiry", "LThroneSale$Inquiry;", true)
  | _ => ("ThroneSale", "march", "LThroneSale$March;", true)
def zT12 : u_T := fun k => match k with
  | 0 => ("ThroneSaleModel", "thrown", "I", false)
  | 1 => ("ThroneSaleModel", "scalar", "[I", true)
  | 2 => ("ThroneSaleModel", "purse", "[I", true)
  | 3 => ("ThroneSaleModel", "men", "[I", true)
  | 4 => ("ThroneSaleModel", "leastOf", "[I", true)
  | 5 => ("ThroneSaleModel", "patience", "[I", true)
  | 6 => ("ThroneSaleModel", "dare", "[I", true)
  | 7 => ("ThroneSaleModel", "city", "[I", true)
  | 8 => ("ThroneSaleModel", "army", "[I", true)
  | 9 => ("ThroneSaleModel", "price", "[I", true)
  | 10 => ("ThroneSaleModel", "far", "[I", true)
  | 11 => ("ThroneSaleModel", "logDay", "[I", true)
  | 12 => ("ThroneSaleModel", "logWho", "[I", true)
  | 13 => ("ThroneSaleModel", "toldPurse", "[I", true)
  | 14 => ("ThroneSaleModel", "toldTreasury", "[I", true)
  | 15 => ("ThroneSaleModel", "newScalar", "[I", true)
  | 16 => ("ThroneSaleModel", "newMen", "[I", true)
  | 17 => ("ThroneSaleModel", "newLeast", "[I", true)
  | 18 => ("ThroneSaleModel", "newPatience", "[I", true)
  | 19 => ("ThroneSaleModel", "newPurse", "[I", true)
  | 20 => ("ThroneSaleModel", "newDare", "[I", true)
  | 21 => ("ThroneSaleModel", "newCity", "[I", true)
  | 22 => ("ThroneSaleModel", "newArmy", "[I", true)
  | 23 => ("ThroneSaleModel", "newPrice", "[I", true)
  | 24 => ("ThroneSaleModel", "newRoad", "[I", true)
  | 25 => ("ThroneSaleModel", "isThere", "Z", false)
  | 26 => ("ThroneSaleModel", "taped", "I", false)
  | 27 => ("ThroneSaleModel", "p", "I", false)
  | 28 => ("ThroneSaleModel", "fault", "I", false)
  | 29 => ("ThroneSaleModel", "slot", "I", false)
  | 30 => ("ThroneSaleModel", "rules", "I", false)
  | 31 => ("ThroneSaleModel", "entries", "I", false)
  | 32 => ("ThroneSaleModel", "deep", "I", false)
  | 33 => ("ThroneSaleModel", "counted", "I", false)
  | 34 => ("ThroneSaleModel", "opened", "I", false)
  | 35 => ("ThroneSaleModel", "words", "I", false)
  | 36 => ("ThroneSaleModel", "tape", "[B", true)
  | 37 => ("ThroneSaleModel", "sort", "[I", true)
  | 38 => ("ThroneSaleModel", "number", "[I", true)
  | 39 => ("ThroneSaleModel", "clauses", "[I", true)
  | 40 => ("ThroneSaleModel", "sumAt", "[I", true)
  | 41 => ("ThroneSaleModel", "testAt", "[I", true)
  | 42 => ("ThroneSaleModel", "endAt", "[I", true)
  | 43 => ("ThroneSaleModel", "open", "[I", true)
  | 44 => ("ThroneSaleModel", "road", "[I", true)
  | 45 => ("ThroneSaleModel", "asked", "[J", true)
  | 46 => ("ThroneSaleModel", "stack", "[J", true)
  | 47 => ("ThroneSaleModel", "high", "I", false)
  | 48 => ("ThroneSaleModel", "holder", "I", false)
  | 49 => ("ThroneSaleModel", "turn", "I", false)
  | 50 => ("ThroneSaleModel", "out", "I", false)
  | 51 => ("ThroneSaleModel", "isPlain", "Z", false)
  | 52 => ("ThroneSaleModel", "dares", "[I", true)
  | 53 => ("ThroneSaleModel", "past", "[I", true)
  | 54 => ("ThroneSaleModel", "ring", "[I", true)
  | 55 => ("ThroneSaleModel", "pastMany", "I", false)
  | 56 => ("ThroneSaleModel", "pastAt", "I", false)
  | 57 => ("ThroneSaleModel", "takesBack", "Z", false)
  | 58 => ("ThroneSaleModel", "gains", "[I", true)
  | 59 => ("ThroneSaleModel", "course", "[I", true)
  | 60 => ("ThroneSaleModel", "courses", "[I", true)
  | 61 => ("ThroneSaleModel", "images", "[I", true)
  | 62 => ("ThroneSaleModel", "isMade", "[Z", true)
  | 63 => ("ThroneSaleModel", "wasThere", "[Z", true)
  | 64 => ("ThroneSaleModel", "imageAt", "I", false)
  | _ => ("ThroneSaleModel", "goesBack", "Z", false)
def zcnL : List String := ["ThroneSale$Auction", "ThroneSale$Empire", "ThroneSale$EmpireReader", "ThroneSale$Forecast", "ThroneSale$Inquiry", "ThroneSale$March", "ThroneSale$Realm", "ThroneSale$Rule", "ThroneSale$RuleReader", "ThroneSale$State", "ThroneSale$Tape", "ThroneSale", "ThroneSaleModel", "ThroneSaleLaw", "java/lang/String", "java/lang/StringLatin1", "jdk/internal/util/Preconditions"]
def zcn (k : Nat) : String := zcnL.getD k ""
def zcT (k : Nat) : u_T := ([zT0, zT1, zT2, zT3, zT4, zT5, zT6, zT7, zT8, zT9, zT10, zT11, zT12] : List u_T).getD k zT0
def zcl : List vw_C := (List.range 13).map fun k => (zcn k, zcT k, znf k)
def zfyL : List (List FieldType) := [[.array (.int), .int, .int, .int, .int, .int, .int, .int, .int, .array (.boolean), .array (.int), .array (.long)],
  [.array (.int), .array (.array (.int)), .array (.array (.int))],
  [.object "ThroneSale$Tape", .object "ThroneSale$Empire"],
  [.object "ThroneSale$State", .object "ThroneSale$State", .object "ThroneSale$Auction", .int, .int, .int, .int],
  [.array (.array (.int)), .array (.boolean), .int, .object "ThroneSale$State", .object "ThroneSale$Auction", .int, .int, .int, .int],
  [.array (.int), .int, .int, .int, .array (.int), .array (.int), .int],
  [.object "ThroneSale$Empire", .object "ThroneSale$State", .int, .int, .array (.object "ThroneSale$State"), .int, .array (.int), .array (.int), .int],
  [.array (.int), .array (.int), .int],
  [.object "ThroneSale$Tape", .object "ThroneSale$Rule", .int],
  [.int, .int, .int, .int, .int, .int, .int, .int, .int, .int, .array (.int)],
  [.array (.int), .int, .array (.int), .array (.int), .array (.int), .int, .int, .int, .int, .int],
  [.object "ThroneSale$Tape", .object "ThroneSale$EmpireReader", .object "ThroneSale$RuleReader", .array (.object "ThroneSale$Rule"), .int, .object "ThroneSale$Realm", .array (.object "ThroneSale$Realm"), .array (.boolean), .object "ThroneSale$Auction", .object "ThroneSale$Forecast", .object "ThroneSale$Inquiry", .object "ThroneSale$March"],
  [.int, .array (.int), .array (.int), .array (.int), .array (.int), .array (.int), .array (.int), .array (.int), .array (.int), .array (.int), .array (.int), .array (.int), .array (.int), .array (.int), .array (.int), .array (.int), .array (.int), .array (.int), .array (.int), .array (.int), .array (.int), .array (.int), .array (.int), .array (.int), .array (.int), .boolean, .int, .int, .int, .int, .int, .int, .int, .int, .int, .int, .array (.byte), .array (.int), .array (.int), .array (.int), .array (.int), .array (.int), .array (.int), .array (.int), .array (.int), .array (.long), .array (.long), .int, .int, .int, .int, .boolean, .array (.int), .array (.int), .array (.int), .int, .int, .boolean, .array (.int), .array (.int), .array (.int), .array (.int), .array (.boolean), .array (.boolean), .int, .boolean]]
def zfy (c k : Nat) : FieldType := (zfyL.getD c []).getD k .int
def zyL : List (MethodName × Nat × Option FieldType × Nat) := [
  (⟨"ThroneSaleLaw", "law", "([I)Z"⟩, 0, some .boolean, 13),
  (⟨"ThroneSale$Auction", "<init>", "()V"⟩, 371, none, 0),
  (⟨"ThroneSale$Auction", "takeDares", "(LThroneSale$Empire;)V"⟩, 873, none, 0),
  (⟨"ThroneSale$Auction", "hold", "(LThroneSale$Empire;LThroneSale$State;LThroneSale$Rule;)V"⟩, 878, none, 0),
  (⟨"ThroneSale$Auction", "open", "(LThroneSale$Empire;LThroneSale$State;)V"⟩, 882, none, 0),
  (⟨"ThroneSale$Auction", "take", "(IJ)V"⟩, 902, none, 0),
  (⟨"ThroneSale$Auction", "bidByDare", "(I)J"⟩, 887, some .long, 0),
  (⟨"ThroneSale$Auction", "bidByRule", "(ILThroneSale$Rule;)J"⟩, 891, some .long, 0),
  (⟨"ThroneSale$Auction", "wordOf", "(II)J"⟩, 895, some .long, 0),
  (⟨"ThroneSale$Auction", "join", "(IJJ)J"⟩, 898, some .long, 0),
  (⟨"ThroneSale$Empire", "<init>", "()V"⟩, 185, none, 1),
  (⟨"ThroneSale$Empire", "isTold", "()Z"⟩, 815, some .boolean, 1),
  (⟨"ThroneSale$Empire", "has", "(II)Z"⟩, 791, some .boolean, 1),
  (⟨"ThroneSale$Empire", "isCity", "(I)Z"⟩, 710, some .boolean, 1),
  (⟨"ThroneSale$Empire", "clear", "()V"⟩, 592, none, 1),
  (⟨"ThroneSale$Empire", "copyFrom", "(LThroneSale$Empire;)V"⟩, 721, none, 1),
  (⟨"ThroneSale$Empire", "findWays", "()V"⟩, 707, none, 1),
  (⟨"ThroneSale$Empire", "wayDays", "(II)I"⟩, 1005, some .int, 1),
  (⟨"ThroneSale$Empire", "nextCity", "(II)I"⟩, 1009, some .int, 1),
  (⟨"ThroneSale$Empire", "otherEnd", "(II)I"⟩, 1013, some .int, 1),
  (⟨"ThroneSale$Empire", "marchDays", "(I)I"⟩, 807, some .int, 1),
  (⟨"ThroneSale$EmpireReader", "<init>", "(LThroneSale$Tape;)V"⟩, 179, none, 2),
  (⟨"ThroneSale$EmpireReader", "read", "()I"⟩, 588, some .int, 2),
  (⟨"ThroneSale$EmpireReader", "readClause", "(I)Z"⟩, 681, some .boolean, 2),
  (⟨"ThroneSale$EmpireReader", "readNumber", "(II)Z"⟩, 694, some .boolean, 2),
  (⟨"ThroneSale$Forecast", "<init>", "()V"⟩, 424, none, 3),
  (⟨"ThroneSale$Forecast", "after", "(LThroneSale$Empire;LThroneSale$State;I)LThroneSale$State;"⟩, 953, some (.object "ThroneSale$State"), 3),
  (⟨"ThroneSale$Forecast", "daysHeld", "(LThroneSale$Empire;LThroneSale$State;I)I"⟩, 964, some .int, 3),
  (⟨"ThroneSale$Forecast", "lastRuler", "()I"⟩, 968, some .int, 3),
  (⟨"ThroneSale$Forecast", "chooseDare", "(LThroneSale$Empire;LThroneSale$State;I)V"⟩, 976, none, 3),
  (⟨"ThroneSale$Forecast", "daysBought", "(LThroneSale$Empire;LThroneSale$State;)I"⟩, 982, some .int, 3),
  (⟨"ThroneSale$Forecast", "chooseBribes", "(LThroneSale$Empire;LThroneSale$State;)V"⟩, 992, none, 3),
  (⟨"ThroneSale$Forecast", "priceOf", "(LThroneSale$Empire;LThroneSale$State;I)I"⟩, 995, some .int, 3),
  (⟨"ThroneSale$Forecast", "leastTreasury", "(LThroneSale$Empire;LThroneSale$State;I)I"⟩, 1058, some .int, 3),
  (⟨"ThroneSale$Forecast", "mostThinnings", "(LThroneSale$Empire;LThroneSale$State;I)I"⟩, 1080, some .int, 3),
  (⟨"ThroneSale$Forecast", "drawReigns", "(LThroneSale$Realm;II)V"⟩, 1140, none, 3),
  (⟨"ThroneSale$Forecast", "halveGuards", "(LThroneSale$Empire;LThroneSale$State;)V"⟩, 1066, none, 3),
  (⟨"ThroneSale$Forecast", "menOfSet", "(LThroneSale$Empire;I)I"⟩, 1069, some .int, 3),
  (⟨"ThroneSale$Inquiry", "<init>", "()V"⟩, 460, none, 4),
  (⟨"ThroneSale$Inquiry", "followAll", "(LThroneSale$Realm;[LThroneSale$Rule;I)V"⟩, 1100, none, 4),
  (⟨"ThroneSale$Inquiry", "follow", "(LThroneSale$Empire;LThroneSale$Rule;[I)V"⟩, 1105, none, 4),
  (⟨"ThroneSale$Inquiry", "fits", "(LThroneSale$Realm;[I)Z"⟩, 1113, some .boolean, 4),
  (⟨"ThroneSale$Inquiry", "chooseDay", "()V"⟩, 1121, none, 4),
  (⟨"ThroneSale$Inquiry", "mostAlike", "(I)I"⟩, 1125, some .int, 4),
  (⟨"ThroneSale$March", "<init>", "()V"⟩, 503, none, 5),
  (⟨"ThroneSale$March", "gather", "(LThroneSale$Empire;LThroneSale$State;)V"⟩, 1021, none, 5),
  (⟨"ThroneSale$March", "insert", "(I)V"⟩, 1028, none, 5),
  (⟨"ThroneSale$March", "countRests", "()V"⟩, 1038, none, 5),
  (⟨"ThroneSale$March", "isAtRest", "(I)Z"⟩, 1042, some .boolean, 5),
  (⟨"ThroneSale$March", "gainOf", "(II)I"⟩, 1046, some .int, 5),
  (⟨"ThroneSale$March", "lastHolder", "(I)I"⟩, 1050, some .int, 5),
  (⟨"ThroneSale$Realm", "<init>", "()V"⟩, 262, none, 6),
  (⟨"ThroneSale$Realm", "begin", "(LThroneSale$Empire;)V"⟩, 717, none, 6),
  (⟨"ThroneSale$Realm", "copyFrom", "(LThroneSale$Realm;)V"⟩, 1157, none, 6),
  (⟨"ThroneSale$Realm", "remember", "()V"⟩, 819, none, 6),
  (⟨"ThroneSale$Realm", "takeBack", "()Z"⟩, 941, some .boolean, 6),
  (⟨"ThroneSale$Realm", "addLog", "(II)Z"⟩, 1090, some .boolean, 6),
  (⟨"ThroneSale$Rule", "<init>", "()V"⟩, 229, none, 7),
  (⟨"ThroneSale$Rule", "add", "(II)V"⟩, 761, none, 7),
  (⟨"ThroneSale$Rule", "copyFrom", "(LThroneSale$Rule;)V"⟩, 778, none, 7),
  (⟨"ThroneSale$RuleReader", "<init>", "(LThroneSale$Tape;)V"⟩, 223, none, 8),
  (⟨"ThroneSale$RuleReader", "read", "()I"⟩, 738, some .int, 8),
  (⟨"ThroneSale$RuleReader", "openClause", "(I)Z"⟩, 743, some .boolean, 8),
  (⟨"ThroneSale$RuleReader", "readTest", "(I)Z"⟩, 765, some .boolean, 8),
  (⟨"ThroneSale$RuleReader", "readFact", "(I)Z"⟩, 769, some .boolean, 8),
  (⟨"ThroneSale$RuleReader", "readComparison", "()Z"⟩, 773, some .boolean, 8),
  (⟨"ThroneSale$RuleReader", "readSum", "()Z"⟩, 753, some .boolean, 8),
  (⟨"ThroneSale$RuleReader", "readValue", "()Z"⟩, 757, some .boolean, 8),
  (⟨"ThroneSale$State", "<init>", "()V"⟩, 270, none, 9),
  (⟨"ThroneSale$State", "begin", "(LThroneSale$Empire;)V"⟩, 728, none, 9),
  (⟨"ThroneSale$State", "copyFrom", "(LThroneSale$State;)V"⟩, 823, none, 9),
  (⟨"ThroneSale$State", "menOf", "(LThroneSale$Empire;)I"⟩, 839, some .int, 9),
  (⟨"ThroneSale$State", "crown", "(II)V"⟩, 907, none, 9),
  (⟨"ThroneSale$State", "killRuler", "()V"⟩, 933, none, 9),
  (⟨"ThroneSale$State", "canThin", "()Z"⟩, 920, some .boolean, 9),
  (⟨"ThroneSale$State", "thinCoin", "()V"⟩, 924, none, 9),
  (⟨"ThroneSale$State", "isFree", "(I)Z"⟩, 848, some .boolean, 9),
  (⟨"ThroneSale$State", "comesOn", "(LThroneSale$Empire;I)I"⟩, 803, some .int, 9),
  (⟨"ThroneSale$State", "passDay", "(LThroneSale$Empire;)V"⟩, 827, none, 9),
  (⟨"ThroneSale$State", "rulesBySale", "()Z"⟩, 831, some .boolean, 9),
  (⟨"ThroneSale$State", "rulesByArms", "()Z"⟩, 857, some .boolean, 9),
  (⟨"ThroneSale$State", "payGuards", "(LThroneSale$Empire;)V"⟩, 835, none, 9),
  (⟨"ThroneSale$State", "loseGuards", "(LThroneSale$Empire;)V"⟩, 844, none, 9),
  (⟨"ThroneSale$State", "meet", "(LThroneSale$Empire;II)V"⟩, 861, none, 9),
  (⟨"ThroneSale$State", "menThere", "(LThroneSale$Empire;)I"⟩, 853, some .int, 9),
  (⟨"ThroneSale$Tape", "<init>", "()V"⟩, 134, none, 10),
  (⟨"ThroneSale$Tape", "add", "(I)V"⟩, 576, none, 10),
  (⟨"ThroneSale$Tape", "open", "()V"⟩, 596, none, 10),
  (⟨"ThroneSale$Tape", "isIn", "(ICC)Z"⟩, 600, some .boolean, 10),
  (⟨"ThroneSale$Tape", "isOpenAngle", "(I)Z"⟩, 673, some .boolean, 10),
  (⟨"ThroneSale$Tape", "runEnd", "(ICC)I"⟩, 604, some .int, 10),
  (⟨"ThroneSale$Tape", "put", "(III)V"⟩, 665, none, 10),
  (⟨"ThroneSale$Tape", "numberAt", "(II)I"⟩, 669, some .int, 10),
  (⟨"ThroneSale$Tape", "wordAt", "(II)I"⟩, 608, some .int, 10),
  (⟨"ThroneSale$Tape", "equalsPart", "(III)Z"⟩, 661, some .boolean, 10),
  (⟨"ThroneSale$Tape", "advance", "()V"⟩, 677, none, 10),
  (⟨"ThroneSale$Tape", "isWord", "(I)Z"⟩, 747, some .boolean, 10),
  (⟨"ThroneSale$Tape", "fail", "(I)Z"⟩, 685, some .boolean, 10),
  (⟨"ThroneSale$Tape", "nextClause", "()Z"⟩, 702, some .boolean, 10),
  (⟨"ThroneSale", "<init>", "()V"⟩, 126, none, 11),
  (⟨"ThroneSale", "feed", "(IIIII)I"⟩, 572, some .int, 11),
  (⟨"ThroneSale", "end", "(I)I"⟩, 580, some .int, 11),
  (⟨"ThroneSale", "empire", "()I"⟩, 584, some .int, 11),
  (⟨"ThroneSale", "rule", "()I"⟩, 734, some .int, 11),
  (⟨"ThroneSale", "force", "(I)I"⟩, 783, some .int, 11),
  (⟨"ThroneSale", "band", "(II)I"⟩, 787, some .int, 11),
  (⟨"ThroneSale", "bidder", "(II)I"⟩, 795, some .int, 11),
  (⟨"ThroneSale", "general", "(II)I"⟩, 799, some .int, 11),
  (⟨"ThroneSale", "day", "()I"⟩, 811, some .int, 11),
  (⟨"ThroneSale", "sell", "()I"⟩, 865, some .int, 11),
  (⟨"ThroneSale", "bribe", "(I)I"⟩, 911, some .int, 11),
  (⟨"ThroneSale", "thin", "()I"⟩, 916, some .int, 11),
  (⟨"ThroneSale", "kill", "()I"⟩, 929, some .int, 11),
  (⟨"ThroneSale", "undo", "()I"⟩, 937, some .int, 11),
  (⟨"ThroneSale", "sale", "(I)I"⟩, 945, some .int, 11),
  (⟨"ThroneSale", "ahead", "(II)I"⟩, 949, some .int, 11),
  (⟨"ThroneSale", "fall", "(I)I"⟩, 960, some .int, 11),
  (⟨"ThroneSale", "reign", "(II)I"⟩, 972, some .int, 11),
  (⟨"ThroneSale", "bribes", "(I)I"⟩, 988, some .int, 11),
  (⟨"ThroneSale", "way", "(III)I"⟩, 1000, some .int, 11),
  (⟨"ThroneSale", "first", "(I)I"⟩, 1017, some .int, 11),
  (⟨"ThroneSale", "rests", "(I)I"⟩, 1034, some .int, 11),
  (⟨"ThroneSale", "holds", "(I)I"⟩, 1054, some .int, 11),
  (⟨"ThroneSale", "halves", "(I)I"⟩, 1062, some .int, 11),
  (⟨"ThroneSale", "thinnest", "(I)I"⟩, 1076, some .int, 11),
  (⟨"ThroneSale", "log", "(II)I"⟩, 1086, some .int, 11),
  (⟨"ThroneSale", "ruled", "(I)I"⟩, 1096, some .int, 11),
  (⟨"ThroneSale", "look", "(I)I"⟩, 1117, some .int, 11),
  (⟨"ThroneSale", "seed", "(I)I"⟩, 1132, some .int, 11),
  (⟨"ThroneSale", "reigns", "(III)I"⟩, 1136, some .int, 11),
  (⟨"ThroneSale", "count", "(I)I"⟩, 1149, some .int, 11),
  (⟨"ThroneSale", "image", "(I)I"⟩, 1153, some .int, 11),
  (⟨"ThroneSale", "back", "(I)I"⟩, 1162, some .int, 11),
  (⟨"ThroneSale", "holdSale", "()V"⟩, 869, none, 11),
  (⟨"ThroneSaleModel", "<init>", "()V"⟩, 1167, none, 12),
  (⟨"ThroneSaleModel", "in", "(JJJ)Z"⟩, 1447, some .boolean, 12),
  (⟨"ThroneSaleModel", "has", "(II)Z"⟩, 1552, some .boolean, 12),
  (⟨"ThroneSaleModel", "isBidder", "(I)Z"⟩, 1560, some .boolean, 12),
  (⟨"ThroneSaleModel", "isGeneral", "(I)Z"⟩, 1568, some .boolean, 12),
  (⟨"ThroneSaleModel", "feed", "(IIIII)I"⟩, 1370, some .int, 12),
  (⟨"ThroneSaleModel", "put", "(I)V"⟩, 1374, none, 12),
  (⟨"ThroneSaleModel", "end", "(I)I"⟩, 1378, some .int, 12),
  (⟨"ThroneSaleModel", "wordOf", "(I)Ljava/lang/String;"⟩, 1498, some (.object "java/lang/String"), 12),
  (⟨"ThroneSaleModel", "fails", "(II)V"⟩, 1421, none, 12),
  (⟨"ThroneSaleModel", "sign", "()I"⟩, 1403, some .int, 12),
  (⟨"ThroneSaleModel", "blanks", "()V"⟩, 1399, none, 12),
  (⟨"ThroneSaleModel", "isDigit", "()Z"⟩, 1442, some .boolean, 12),
  (⟨"ThroneSaleModel", "stood", "(Ljava/lang/String;)Z"⟩, 1415, some .boolean, 12),
  (⟨"ThroneSaleModel", "takes", "(Ljava/lang/String;)Z"⟩, 1513, some .boolean, 12),
  (⟨"ThroneSaleModel", "entry", "(II)V"⟩, 1495, none, 12),
  (⟨"ThroneSaleModel", "isCounted", "(I)V"⟩, 1491, none, 12),
  (⟨"ThroneSaleModel", "digits", "(I)I"⟩, 1438, some .int, 12),
  (⟨"ThroneSaleModel", "value", "()V"⟩, 1487, none, 12),
  (⟨"ThroneSaleModel", "term", "()V"⟩, 1483, none, 12),
  (⟨"ThroneSaleModel", "sum", "()V"⟩, 1479, none, 12),
  (⟨"ThroneSaleModel", "compared", "()V"⟩, 1530, none, 12),
  (⟨"ThroneSaleModel", "top", "()I"⟩, 1538, some .int, 12),
  (⟨"ThroneSaleModel", "opens", "(I)V"⟩, 1526, none, 12),
  (⟨"ThroneSaleModel", "answers", "(I)V"⟩, 1534, none, 12),
  (⟨"ThroneSaleModel", "fact", "()Z"⟩, 1521, some .boolean, 12),
  (⟨"ThroneSaleModel", "test", "()V"⟩, 1517, none, 12),
  (⟨"ThroneSaleModel", "amount", "(II)I"⟩, 1433, some .int, 12),
  (⟨"ThroneSaleModel", "empireWord", "(I)Ljava/lang/String;"⟩, 1406, some (.object "java/lang/String"), 12),
  (⟨"ThroneSaleModel", "readsRoad", "()V"⟩, 1451, none, 12),
  (⟨"ThroneSaleModel", "empirePart", "(I)V"⟩, 1429, none, 12),
  (⟨"ThroneSaleModel", "isFull", "(II)Z"⟩, 1425, some .boolean, 12),
  (⟨"ThroneSaleModel", "empireClause", "(I)V"⟩, 1395, none, 12),
  (⟨"ThroneSaleModel", "copies", "([I[I)V"⟩, 1458, none, 12),
  (⟨"ThroneSaleModel", "goesOn", "()Z"⟩, 1455, some .boolean, 12),
  (⟨"ThroneSaleModel", "starts", "()V"⟩, 1390, none, 12),
  (⟨"ThroneSaleModel", "readsAll", "()V"⟩, 1386, none, 12),
  (⟨"ThroneSaleModel", "begins", "()V"⟩, 1466, none, 12),
  (⟨"ThroneSaleModel", "laysFar", "()V"⟩, 1462, none, 12),
  (⟨"ThroneSaleModel", "empire", "()I"⟩, 1382, some .int, 12),
  (⟨"ThroneSaleModel", "ruleClause", "(I)V"⟩, 1474, none, 12),
  (⟨"ThroneSaleModel", "rule", "()I"⟩, 1470, some .int, 12),
  (⟨"ThroneSaleModel", "force", "(I)I"⟩, 1544, some .int, 12),
  (⟨"ThroneSaleModel", "told", "()J"⟩, 1657, some .long, 12),
  (⟨"ThroneSaleModel", "truth", "(Z)J"⟩, 1667, some .long, 12),
  (⟨"ThroneSaleModel", "both", "(IJJ)J"⟩, 1664, some .long, 12),
  (⟨"ThroneSaleModel", "answer", "(III)J"⟩, 1661, some .long, 12),
  (⟨"ThroneSaleModel", "menLeft", "()I"⟩, 1608, some .int, 12),
  (⟨"ThroneSaleModel", "isBidderReigning", "()Z"⟩, 1612, some .boolean, 12),
  (⟨"ThroneSaleModel", "marchOf", "(I)I"⟩, 1576, some .int, 12),
  (⟨"ThroneSaleModel", "comesOn", "(I)I"⟩, 1572, some .int, 12),
  (⟨"ThroneSaleModel", "band", "(II)I"⟩, 1549, some .int, 12),
  (⟨"ThroneSaleModel", "bidder", "(II)I"⟩, 1556, some .int, 12),
  (⟨"ThroneSaleModel", "general", "(II)I"⟩, 1564, some .int, 12),
  (⟨"ThroneSaleModel", "bidOf", "(I)J"⟩, 1653, some .long, 12),
  (⟨"ThroneSaleModel", "manyOut", "()I"⟩, 1649, some .int, 12),
  (⟨"ThroneSaleModel", "sells", "()I"⟩, 1645, some .int, 12),
  (⟨"ThroneSaleModel", "sellsNow", "(Z)I"⟩, 1641, some .int, 12),
  (⟨"ThroneSaleModel", "asTold", "()V"⟩, 1637, none, 12),
  (⟨"ThroneSaleModel", "crowns", "(I)V"⟩, 1672, none, 12),
  (⟨"ThroneSaleModel", "pays", "()V"⟩, 1604, none, 12),
  (⟨"ThroneSaleModel", "leave", "()V"⟩, 1617, none, 12),
  (⟨"ThroneSaleModel", "strength", "()I"⟩, 1629, some .int, 12),
  (⟨"ThroneSaleModel", "isFree", "(I)Z"⟩, 1625, some .boolean, 12),
  (⟨"ThroneSaleModel", "come", "()V"⟩, 1621, none, 12),
  (⟨"ThroneSaleModel", "goes", "()V"⟩, 1600, none, 12),
  (⟨"ThroneSaleModel", "goFor", "(I)V"⟩, 1714, none, 12),
  (⟨"ThroneSaleModel", "moves", "(I)I"⟩, 1588, some .int, 12),
  (⟨"ThroneSaleModel", "movesAll", "(IZ)V"⟩, 1584, none, 12),
  (⟨"ThroneSaleModel", "keepsAct", "()V"⟩, 1596, none, 12),
  (⟨"ThroneSaleModel", "undo", "()I"⟩, 1580, some .int, 12),
  (⟨"ThroneSaleModel", "day", "()I"⟩, 1592, some .int, 12),
  (⟨"ThroneSaleModel", "sell", "()I"⟩, 1633, some .int, 12),
  (⟨"ThroneSaleModel", "bribe", "(I)I"⟩, 1676, some .int, 12),
  (⟨"ThroneSaleModel", "thins", "()V"⟩, 1684, none, 12),
  (⟨"ThroneSaleModel", "thin", "()I"⟩, 1680, some .int, 12),
  (⟨"ThroneSaleModel", "kill", "()I"⟩, 1688, some .int, 12),
  (⟨"ThroneSaleModel", "keepsAll", "()V"⟩, 1702, none, 12),
  (⟨"ThroneSaleModel", "laysBack", "()V"⟩, 1718, none, 12),
  (⟨"ThroneSaleModel", "sale", "(I)I"⟩, 1692, some .int, 12),
  (⟨"ThroneSaleModel", "ahead", "(II)I"⟩, 1697, some .int, 12),
  (⟨"ThroneSaleModel", "daysOf", "(I)I"⟩, 1726, some .int, 12),
  (⟨"ThroneSaleModel", "fall", "(I)I"⟩, 1722, some .int, 12),
  (⟨"ThroneSaleModel", "reign", "(II)I"⟩, 1730, some .int, 12),
  (⟨"ThroneSaleModel", "bribes", "(I)I"⟩, 1734, some .int, 12),
  (⟨"ThroneSaleModel", "way", "(III)I"⟩, 1738, some .int, 12),
  (⟨"ThroneSaleModel", "couldMarch", "(I)Z"⟩, 1747, some .boolean, 12),
  (⟨"ThroneSaleModel", "first", "(I)I"⟩, 1743, some .int, 12),
  (⟨"ThroneSaleModel", "laysGains", "(I)V"⟩, 1759, none, 12),
  (⟨"ThroneSaleModel", "isRest", "(II)Z"⟩, 1755, some .boolean, 12),
  (⟨"ThroneSaleModel", "rests", "(I)I"⟩, 1751, some .int, 12),
  (⟨"ThroneSaleModel", "holds", "(I)I"⟩, 1763, some .int, 12),
  (⟨"ThroneSaleModel", "thinnest", "(I)I"⟩, 1768, some .int, 12),
  (⟨"ThroneSaleModel", "menOf", "(I)I"⟩, 1776, some .int, 12),
  (⟨"ThroneSaleModel", "halves", "(I)I"⟩, 1772, some .int, 12),
  (⟨"ThroneSaleModel", "log", "(II)I"⟩, 1780, some .int, 12),
  (⟨"ThroneSaleModel", "couldRule", "(I)Z"⟩, 1788, some .boolean, 12),
  (⟨"ThroneSaleModel", "ruled", "(I)I"⟩, 1784, some .int, 12),
  (⟨"ThroneSaleModel", "mostAlike", "(II)I"⟩, 1796, some .int, 12),
  (⟨"ThroneSaleModel", "look", "(I)I"⟩, 1792, some .int, 12),
  (⟨"ThroneSaleModel", "seed", "(I)I"⟩, 1800, some .int, 12),
  (⟨"ThroneSaleModel", "draws", "(I)I"⟩, 1809, some .int, 12),
  (⟨"ThroneSaleModel", "reigns", "(III)I"⟩, 1804, some .int, 12),
  (⟨"ThroneSaleModel", "count", "(I)I"⟩, 1817, some .int, 12),
  (⟨"ThroneSaleModel", "carryRow", "([I)V"⟩, 1710, none, 12),
  (⟨"ThroneSaleModel", "carriesAll", "(IZ)V"⟩, 1706, none, 12),
  (⟨"ThroneSaleModel", "image", "(I)I"⟩, 1821, some .int, 12),
  (⟨"ThroneSaleModel", "back", "(I)I"⟩, 1825, some .int, 12),
  (⟨"java/lang/String", "length", "()I"⟩, 613, some .int, 14),
  (⟨"java/lang/String", "coder", "()B"⟩, 617, some .byte, 14),
  (⟨"java/lang/String", "charAt", "(I)C"⟩, 623, some .char, 14),
  (⟨"java/lang/String", "isLatin1", "()Z"⟩, 627, some .boolean, 14),
  (⟨"java/lang/StringLatin1", "charAt", "([BI)C"⟩, 630, some .char, 15),
  (⟨"java/lang/String", "checkIndex", "(II)V"⟩, 633, none, 14),
  (⟨"jdk/internal/util/Preconditions", "checkIndex", "(IILjava/util/function/BiFunction;)I"⟩, 638, some .int, 16)]
abbrev zNY : Nat := 249
def zy0 : MethodName × Nat × Option FieldType × Nat := (⟨"", "", ""⟩, 0, none, 99)
def zyn (y : Nat) : MethodName := (zyL.getD y zy0).1
def zgc (w : Option Cond) : ByteArray := match w with | some (.code _ b _ _) => b | _ => .mk #[]
def zcd (y : Nat) : ByteArray := match y with | 0 => code | k + 1 => zgc lw_tbl[(zyL.getD (k + 1) zy0).2.1]?
def zrt (y : Nat) : Option FieldType := (zyL.getD y zy0).2.2.1
def zoc (y : Nat) : Nat := (zyL.getD y zy0).2.2.2
def zna (y : Nat) : Nat := (zmL.getD y (0, 0, 0)).2.2
def zstt (y : Nat) : Bool := [0, 9, 13, 32, 37, 41, 135, 136, 142, 162, 167, 178, 179, 246, 247, 248].contains y
/-- class, entry, what it is linked to, the word's place -/
def zFL : List (Nat × Nat × Nat × Nat) := [(0, 13, 0, 373), (0, 17, 9, 390), (0, 21, 10, 391), (0, 24, 11, 392), (0, 28, 101, 197), (0, 38, 100, 191), (0, 45, 4, 385), (0, 49, 1, 375), (0, 64, 2, 380), (0, 67, 3, 383), (0, 70, 5, 386), (0, 79, 6, 387), (0, 82, 900, 273), (0, 85, 7, 388), (0, 86, 902, 279), (0, 89, 8, 389), (0, 90, 910, 299), (0, 93, 702, 237), (0, 98, 700, 232), (0, 101, 701, 234), (1, 11, 100, 189), (1, 17, 101, 196), (1, 20, 102, 203), (2, 12, 201, 212), (2, 18, 200, 211), (2, 38, 1009, 150), (2, 45, 1007, 144), (2, 48, 1008, 147), (2, 54, 100, 192), (2, 71, 101, 200), (3, 12, 300, 430), (3, 18, 301, 431), (3, 24, 302, 432), (3, 36, 903, 282), (3, 40, 303, 433), (3, 43, 304, 435), (3, 49, 0, 374), (3, 57, 1, 377), (3, 60, 2, 381), (3, 75, 100, 195), (3, 83, 900, 274), (3, 86, 908, 294), (3, 93, 101, 202), (3, 104, 305, 437), (3, 107, 603, 335), (3, 112, 600, 328), (3, 126, 601, 331), (3, 129, 907, 292), (3, 136, 306, 439), (4, 13, 400, 467), (4, 16, 401, 468), (4, 23, 403, 470), (4, 30, 404, 471), (4, 40, 402, 469), (4, 44, 405, 472), (4, 47, 406, 474), (4, 50, 600, 326), (4, 75, 1, 376), (4, 78, 2, 379), (4, 88, 903, 283), (4, 91, 608, 345), (4, 94, 606, 341), (4, 98, 607, 343), (4, 101, 407, 476), (4, 104, 408, 478), (5, 11, 500, 505), (5, 17, 504, 513), (5, 20, 505, 514), (5, 23, 501, 507), (5, 33, 506, 515), (5, 36, 100, 190), (5, 39, 101, 199), (5, 61, 502, 509), (5, 64, 503, 511), (6, 12, 600, 325), (6, 21, 601, 329), (6, 25, 602, 332), (6, 29, 604, 337), (6, 33, 606, 340), (6, 37, 607, 342), (6, 47, 605, 338), (6, 50, 608, 344), (6, 56, 603, 334), (7, 11, 700, 231), (7, 15, 701, 233), (7, 18, 702, 235), (8, 12, 801, 246), (8, 18, 800, 245), (8, 22, 702, 236), (8, 26, 802, 248), (8, 58, 1009, 151), (8, 67, 1007, 145), (8, 76, 1008, 148), (9, 11, 901, 276), (9, 15, 903, 281), (9, 18, 905, 287), (9, 23, 910, 298), (9, 27, 101, 198), (9, 31, 900, 272), (9, 34, 902, 278), (9, 37, 904, 285), (9, 40, 906, 289), (9, 43, 907, 290), (9, 46, 908, 293), (9, 49, 909, 296), (9, 58, 100, 193), (10, 11, 1000, 136), (10, 15, 1002, 139), (10, 18, 1003, 140), (10, 21, 1004, 141), (10, 24, 1001, 138), (10, 28, 1009, 152), (10, 31, 1005, 142), (10, 57, 1006, 143), (10, 78, 1007, 146), (10, 81, 1008, 149), (11, 10, 1100, 532), (11, 21, 1101, 533), (11, 28, 1102, 534), (11, 34, 1103, 535), (11, 41, 1105, 537), (11, 45, 1106, 538), (11, 49, 1107, 539), (11, 56, 1108, 540), (11, 63, 1109, 541), (11, 70, 1110, 542), (11, 77, 1111, 543), (11, 82, 1001, 137), (11, 94, 201, 213), (11, 102, 600, 327), (11, 105, 100, 194), (11, 111, 1104, 536), (11, 115, 801, 247), (11, 122, 602, 333), (11, 129, 101, 201), (11, 133, 601, 330), (11, 137, 907, 291), (11, 142, 910, 300), (11, 145, 903, 284), (11, 148, 908, 295), (11, 151, 909, 297), (11, 162, 902, 280), (11, 174, 1, 378), (11, 177, 2, 382), (11, 188, 900, 275), (11, 203, 605, 339), (11, 206, 3, 384), (11, 217, 904, 286), (11, 231, 303, 434), (11, 234, 304, 436), (11, 254, 501, 508), (11, 257, 500, 506), (11, 267, 502, 510), (11, 270, 503, 512), (11, 279, 306, 440), (11, 285, 608, 346), (11, 295, 405, 473), (11, 298, 406, 475), (11, 304, 407, 477), (11, 305, 408, 479), (11, 308, 603, 336), (11, 315, 305, 438), (11, 318, 901, 277), (11, 321, 905, 288), (12, 9, 1201, 1169), (12, 13, 1202, 1170), (12, 16, 1203, 1171), (12, 19, 1204, 1172), (12, 22, 1205, 1173), (12, 25, 1206, 1174), (12, 28, 1207, 1175), (12, 31, 1208, 1176), (12, 34, 1209, 1177), (12, 37, 1210, 1178), (12, 40, 1211, 1179), (12, 43, 1212, 1180), (12, 46, 1213, 1181), (12, 49, 1214, 1182), (12, 52, 1215, 1183), (12, 55, 1216, 1184), (12, 58, 1217, 1185), (12, 61, 1218, 1186), (12, 64, 1219, 1187), (12, 67, 1220, 1188), (12, 70, 1221, 1189), (12, 73, 1222, 1190), (12, 76, 1223, 1191), (12, 79, 1224, 1192), (12, 82, 1235, 1203), (12, 86, 1236, 1204), (12, 90, 1237, 1205), (12, 93, 1238, 1206), (12, 96, 1239, 1207), (12, 99, 1240, 1208), (12, 102, 1241, 1209), (12, 105, 1242, 1210), (12, 108, 1243, 1211), (12, 111, 1244, 1212), (12, 114, 1245, 1213), (12, 118, 1246, 1214), (12, 121, 1252, 1220), (12, 124, 1253, 1221), (12, 127, 1254, 1222), (12, 130, 1258, 1226), (12, 133, 1259, 1227), (12, 136, 1260, 1228), (12, 139, 1261, 1229), (12, 142, 1262, 1230), (12, 146, 1263, 1231), (12, 156, 1226, 1194), (12, 182, 1228, 1196), (12, 185, 1227, 1195), (12, 212, 1229, 1197), (12, 215, 1231, 1199), (12, 218, 1233, 1201), (12, 253, 1234, 1202), (12, 256, 1232, 1200), (12, 327, 1225, 1193), (12, 331, 1255, 1223), (12, 344, 1230, 1198), (12, 382, 1251, 1219), (12, 385, 1247, 1215), (12, 387, 1248, 1216), (12, 392, 1249, 1217), (12, 401, 1250, 1218), (12, 433, 1257, 1225), (12, 436, 1256, 1224), (12, 515, 1265, 1233), (12, 518, 1264, 1232), (14, 9, 100000, 1826), (14, 15, 100001, 1827)]
def zFw (q : Nat × Nat × Nat × Nat) : Cond := if q.2.2.1 = 100000 then .fieldLink (zcn q.1) q.2.1 "java/lang/String" "value" "[B" else if q.2.2.1 = 100001 then .fieldLink (zcn q.1) q.2.1 "java/lang/String" "coder" "B" else .fieldLink (zcn q.1) q.2.1 (zcn (q.2.2.1 / 100)) (zcT (q.2.2.1 / 100) (q.2.2.1 % 100)).2.1 (zcT (q.2.2.1 / 100) (q.2.2.1 % 100)).2.2.1
def zGL : List (Nat × Nat × Nat × Nat) := [(2, 58, 2, 686), (2, 64, 1, 689), (2, 75, 3, 695), (2, 78, 4, 697), (14, 38, 0, 618), (14, 1053, 12, 634)]
/-- the statics that are read: class, name, type -/
def zgs (a : Nat) : String × String × String := match a with | 0 => ("java/lang/String", "COMPACT_STRINGS", "Z") | 1 => ("ThroneSale$EmpireReader", "NUMBERS", "[I") | 2 => ("ThroneSale$EmpireReader", "MOST", "[I") | 3 => ("ThroneSale$EmpireReader", "LOW", "[I") | 4 => ("ThroneSale$EmpireReader", "HIGH", "[I") | _ => ("jdk/internal/util/Preconditions", "SIOOBE_FORMATTER", "Ljava/util/function/BiFunction;")
def zGw (q : Nat × Nat × Nat × Nat) : Cond := .fieldLink (zcn q.1) q.2.1 (zgs q.2.2.1).1 (zgs q.2.2.1).2.1 (zgs q.2.2.1).2.2
def zML : List (Nat × Nat × Nat × Nat) := [(0, 5, 9999, 372), (0, 32, 9998, 874), (0, 41, 43, 879), (0, 52, 62, 884), (0, 56, 73, 888), (0, 60, 53, 899), (0, 73, 712, 883), (0, 104, 83, 892), (0, 108, 93, 896), (1, 3, 9999, 186), (1, 23, 9998, 722), (1, 29, 131, 708), (1, 33, 9990, 711), (1, 39, 193, 1010), (2, 3, 9999, 180), (2, 22, 141, 589), (2, 25, 871, 593), (2, 30, 232, 678), (2, 34, 981, 699), (2, 42, 161, 704), (2, 51, 972, 682), (2, 61, 951, 688), (2, 67, 243, 691), (3, 3, 9999, 425), (3, 28, 702, 954), (3, 32, 782, 955), (3, 46, 22, 977), (3, 53, 34, 978), (3, 63, 303, 979), (3, 67, 723, 983), (3, 71, 274, 984), (3, 80, 323, 993), (3, 89, 762, 996), (3, 97, 741, 1081), (3, 101, 751, 1082), (3, 132, 372, 1067), (3, 139, 9992, 1070), (4, 3, 9999, 461), (4, 34, 9990, 1101), (4, 56, 404, 1102), (4, 60, 412, 1111), (4, 64, 692, 1106), (4, 68, 22, 1107), (4, 71, 34, 1108), (4, 81, 723, 1109), (4, 85, 782, 1110), (4, 107, 432, 1122), (4, 111, 9991, 1126), (5, 3, 9999, 504), (5, 27, 712, 1022), (5, 43, 202, 1023), (5, 47, 762, 1024), (5, 51, 462, 1025), (5, 55, 9990, 1029), (5, 67, 482, 1039), (5, 70, 493, 1043), (5, 73, 502, 1047), (6, 3, 9999, 263), (6, 40, 152, 718), (6, 44, 692, 725), (6, 53, 702, 820), (6, 59, 9998, 1158), (6, 65, 123, 1091), (6, 69, 111, 1092), (7, 3, 9999, 230), (7, 22, 9998, 779), (8, 3, 9999, 224), (8, 29, 871, 739), (8, 34, 622, 740), (8, 38, 661, 750), (8, 42, 962, 744), (8, 45, 951, 749), (8, 48, 632, 762), (8, 51, 583, 758), (8, 55, 981, 774), (8, 61, 972, 748), (8, 64, 642, 766), (8, 70, 651, 770), (8, 73, 671, 754), (9, 3, 9999, 271), (9, 52, 9998, 729), (9, 61, 791, 828), (9, 65, 801, 854), (9, 69, 9990, 840), (9, 75, 202, 804), (9, 79, 812, 832), (9, 83, 822, 841), (9, 86, 762, 845), (9, 90, 773, 849), (9, 94, 842, 850), (9, 98, 834, 858), (9, 102, 712, 836), (10, 3, 9999, 135), (10, 34, 884, 597), (10, 38, 904, 601), (10, 42, 933, 605), (10, 46, 914, 662), (10, 50, 923, 666), (10, 53, 892, 670), (10, 60, 951, 674), (10, 65, 2421, 610), (10, 70, 2442, 620), (10, 74, 944, 658), (10, 84, 972, 703), (11, 1, 9999, 127), (11, 18, 212, 177), (11, 27, 602, 221), (11, 40, 511, 260), (11, 86, 862, 573), (11, 90, 221, 585), (11, 98, 522, 714), (11, 114, 611, 735), (11, 118, 592, 775), (11, 125, 123, 788), (11, 154, 773, 800), (11, 158, 111, 812), (11, 165, 541, 816), (11, 168, 782, 824), (11, 171, 1331, 866), (11, 180, 723, 904), (11, 184, 762, 912), (11, 191, 741, 917), (11, 194, 751, 921), (11, 197, 731, 930), (11, 200, 551, 938), (11, 209, 264, 950), (11, 213, 712, 956), (11, 220, 274, 961), (11, 224, 281, 965), (11, 227, 294, 973), (11, 237, 313, 989), (11, 241, 131, 1001), (11, 244, 173, 1002), (11, 248, 183, 1006), (11, 251, 453, 1018), (11, 260, 202, 1030), (11, 264, 471, 1035), (11, 273, 334, 1055), (11, 276, 363, 1063), (11, 282, 344, 1077), (11, 288, 563, 1087), (11, 291, 394, 1097), (11, 301, 421, 1118), (11, 311, 354, 1137), (11, 324, 532, 1154), (11, 327, 22, 870), (11, 330, 34, 875), (12, 3, 9999, 1168), (12, 152, 1353, 1445), (12, 159, 1402, 1371), (12, 188, 1441, 1400), (12, 196, 2421, 1416), (12, 201, 2442, 1417), (12, 205, 1451, 1396), (12, 208, 1472, 1412), (12, 221, 1433, 1418), (12, 225, 1461, 1439), (12, 230, 1512, 1435), (12, 234, 1502, 1488), (12, 237, 1493, 1492), (12, 240, 1421, 1496), (12, 244, 1521, 1484), (12, 247, 1531, 1480), (12, 250, 1541, 1476), (12, 259, 1561, 1535), (12, 264, 1572, 1523), (12, 267, 1551, 1527), (12, 270, 1591, 1518), (12, 273, 1582, 1531), (12, 287, 1613, 1430), (12, 291, 1631, 1448), (12, 294, 1621, 1404), (12, 297, 1653, 1422), (12, 301, 1642, 1426), (12, 304, 1691, 1387), (12, 308, 1662, 1392), (12, 311, 1681, 1452), (12, 314, 1672, 1456), (12, 318, 1701, 1383), (12, 321, 1721, 1459), (12, 324, 1711, 1463), (12, 338, 1482, 1510), (12, 341, 1601, 1514), (12, 347, 1742, 1471), (12, 352, 1804, 1658), (12, 356, 1781, 1665), (12, 360, 1793, 1662), (12, 364, 1362, 1550), (12, 369, 1832, 1573), (12, 372, 1372, 1557), (12, 376, 1382, 1565), (12, 379, 1842, 1569), (12, 389, 1811, 1605), (12, 394, 1891, 1646), (12, 397, 1771, 1654), (12, 403, 1882, 1650), (12, 409, 1901, 1642), (12, 412, 1821, 1609), (12, 415, 1972, 1622), (12, 418, 1961, 1626), (12, 421, 1941, 1601), (12, 424, 1951, 1614), (12, 427, 1981, 1618), (12, 430, 1991, 1597), (12, 439, 2012, 1585), (12, 442, 2023, 1581), (12, 446, 2031, 1593), (12, 449, 1921, 1634), (12, 452, 1912, 1638), (12, 456, 1932, 1669), (12, 459, 2081, 1681), (12, 462, 2393, 1703), (12, 469, 2111, 1699), (12, 472, 2002, 1711), (12, 475, 2121, 1715), (12, 478, 2152, 1723), (12, 483, 2202, 1744), (12, 486, 2222, 1756), (12, 489, 2233, 1752), (12, 494, 2272, 1773), (12, 497, 2302, 1785), (12, 500, 2323, 1793), (12, 512, 2352, 1806), (12, 521, 2382, 1707), (13, 9, 991, 124), (13, 12, 1341, 1165), (13, 13, 1006, 569), (13, 17, 1396, 1367), (13, 18, 1012, 577), (13, 22, 1412, 1375), (13, 23, 1021, 581), (13, 27, 1731, 1379), (13, 28, 1031, 731), (13, 31, 1751, 1467), (13, 32, 1042, 780), (13, 35, 1762, 1541), (13, 36, 1053, 784), (13, 40, 1853, 1546), (13, 41, 1063, 792), (13, 44, 1863, 1553), (13, 45, 1073, 796), (13, 48, 1873, 1561), (13, 49, 1081, 808), (13, 52, 2051, 1589), (13, 53, 1091, 862), (13, 56, 2061, 1630), (13, 57, 1102, 908), (13, 60, 2072, 1673), (13, 61, 1111, 913), (13, 64, 2091, 1677), (13, 65, 1121, 926), (13, 68, 2101, 1685), (13, 69, 1131, 934), (13, 72, 2041, 1577), (13, 73, 1142, 942), (13, 76, 2132, 1689), (13, 77, 1153, 946), (13, 80, 2143, 1694), (13, 81, 1162, 957), (13, 84, 2162, 1719), (13, 85, 1173, 969), (13, 88, 2173, 1727), (13, 89, 1182, 985), (13, 92, 2182, 1731), (13, 93, 1194, 997), (13, 97, 2194, 1735), (13, 98, 1202, 1014), (13, 101, 2212, 1740), (13, 102, 1212, 1031), (13, 105, 2242, 1748), (13, 106, 1222, 1051), (13, 109, 2252, 1760), (13, 110, 1232, 1059), (13, 113, 2282, 1769), (13, 114, 1242, 1073), (13, 117, 2262, 1765), (13, 118, 1253, 1083), (13, 121, 2293, 1777), (13, 122, 1262, 1093), (13, 125, 2312, 1781), (13, 126, 1272, 1114), (13, 129, 2332, 1789), (13, 130, 1282, 1129), (13, 133, 2342, 1797), (13, 134, 1294, 1133), (13, 137, 2364, 1801), (13, 138, 1302, 1146), (13, 141, 2372, 1814), (13, 142, 1312, 1150), (13, 145, 2402, 1818), (13, 146, 1322, 1159), (13, 149, 2412, 1822), (14, 335, 2431, 614), (14, 492, 2451, 624), (14, 495, 2462, 628), (14, 1059, 2483, 636), (15, 9, 2472, 631)]
/-- the same, of a nest mate's private method -/
def zNM : List (Nat × Nat × Nat × Nat) := [(2, 11, 101, 183), (3, 11, 681, 427), (3, 23, 11, 429), (4, 22, 681, 464), (4, 29, 11, 466), (6, 11, 101, 265), (6, 20, 681, 268), (8, 11, 571, 227), (11, 9, 851, 132), (11, 55, 11, 369), (11, 62, 251, 422), (11, 69, 381, 458), (11, 76, 441, 501), (11, 81, 571, 531)]
def zNw (q : Nat × Nat × Nat × Nat) : Cond := .methodLinkNest (zcn q.1) q.2.1 (zyn (q.2.2.1 / 10)) "ThroneSale"
def zMn (a : Nat) : MethodName := if a = 9999 then Lib.objectInit else if a = 9998 then arraycopyName else if a = 9990 then Lib.Math.min.name else if a = 9991 then Lib.Math.max.name else if a = 9992 then Lib.Math.abs.name else zyn (a / 10)
def zMw (q : Nat × Nat × Nat × Nat) : Cond := .methodLink (zcn q.1) q.2.1 (zMn q.2.2.1)
def zIL : List (Nat × Nat × Nat × Nat) := [(9, 68, 100000, 925), (12, 229, 100000, 1434), (12, 307, 100001, 1391), (12, 509, 65537, 1813)]
def zIw (q : Nat × Nat × Nat × Nat) : Cond := .constant (zcn q.1) q.2.1 (Int32.ofNat (q.2.2.1 - 1))
def zLL : List (Nat × Nat × Nat × Nat) := [(0, 91, 12, 903), (3, 116, 15, 1141), (3, 118, 13, 1142), (3, 120, 16, 1143), (3, 122, 14, 1144), (3, 124, 10, 1145), (12, 192, 7, 1443), (12, 194, 8, 1444), (12, 350, 0, 1545), (12, 367, 4, 1613), (12, 407, 12, 1668), (12, 465, 3, 1693), (12, 467, 11, 1698), (12, 481, 5, 1739), (12, 492, 9, 1764), (12, 503, 15, 1810), (12, 505, 13, 1811), (12, 507, 17, 1812), (12, 510, 6, 1805)]
def zLw (q : Nat × Nat × Nat × Nat) : Cond := .constantLong (zcn q.1) q.2.1 (zlc q.2.2.1)
def zSL : List (Nat × Nat × Nat × Nat) := [(10, 63, 1, 609), (12, 163, 4, 1409), (12, 165, 8, 1499), (12, 166, 9, 1500), (12, 167, 10, 1501), (12, 169, 11, 1502), (12, 171, 12, 1503), (12, 173, 13, 1504), (12, 174, 14, 1505), (12, 176, 15, 1506), (12, 178, 16, 1507), (12, 180, 17, 1508), (12, 262, 19, 1522), (12, 276, 20, 1539), (12, 278, 21, 1540), (12, 280, 2, 1407), (12, 282, 3, 1408), (12, 284, 5, 1410), (12, 286, 6, 1411), (12, 334, 7, 1475), (12, 336, 18, 1509)]
def ztxL : List String := ["empire guard general road bidder purse dare high holder jump men treasury turn out day bid if or and not", "empire", "guard", "bidder", "general", "road", "bid", "purse", "dare", "high", "holder", "jump", "men", "treasury", "turn", "out", "day", "if", "not", "and", "or"]
def zCL : List (Nat × Nat × Nat × Nat) := [(1, 15, 124, 187), (2, 9, 1, 181), (3, 9, 9, 426), (3, 21, 0, 428), (4, 11, 124, 462), (4, 20, 9, 463), (4, 27, 0, 465), (6, 9, 1, 264), (6, 18, 9, 266), (8, 9, 7, 225), (11, 7, 10, 130), (11, 16, 2, 175), (11, 25, 8, 219), (11, 32, 7, 256), (11, 38, 6, 258), (11, 53, 0, 367), (11, 60, 3, 420), (11, 67, 4, 456), (11, 74, 5, 499), (13, 7, 11, 122), (13, 10, 12, 1163)]
def zCw (q : Nat × Nat × Nat × Nat) : Cond := .classLink (zcn q.1) q.2.1 (if q.2.2.1 = 124 then "[[I" else zcn q.2.2.1)
/-- method, places of its code word, of instanceMethod or static, of selects -/
def zYL0 : List (Nat × Nat × Nat × Nat) := [(1, 371, 370, 0), (2, 873, 871, 872), (3, 878, 876, 877), (4, 882, 881, 22), (5, 902, 901, 26), (6, 887, 886, 23), (7, 891, 890, 24), (8, 895, 894, 25), (9, 898, 897, 0), (10, 185, 184, 0), (11, 815, 813, 814), (12, 791, 789, 790), (13, 710, 709, 0), (14, 592, 590, 591), (15, 721, 719, 720), (16, 707, 705, 706)]
def zYL1 : List (Nat × Nat × Nat × Nat) := [(17, 1005, 1003, 1004), (18, 1009, 1007, 1008), (19, 1013, 1012, 28), (20, 807, 805, 806), (21, 179, 178, 0), (22, 588, 586, 587), (23, 681, 680, 7), (24, 694, 693, 8), (25, 424, 423, 0), (26, 953, 951, 952), (27, 964, 962, 963), (28, 968, 966, 967), (29, 976, 974, 975), (30, 982, 981, 27), (31, 992, 990, 991), (32, 995, 994, 0)]
def zYL2 : List (Nat × Nat × Nat × Nat) := [(33, 1058, 1056, 1057), (34, 1080, 1078, 1079), (35, 1140, 1138, 1139), (36, 1066, 1064, 1065), (37, 1069, 1068, 0), (38, 460, 459, 0), (39, 1100, 1098, 1099), (40, 1105, 1104, 33), (41, 1113, 1112, 0), (42, 1121, 1119, 1120), (43, 1125, 1124, 34), (44, 503, 502, 0), (45, 1021, 1019, 1020), (46, 1028, 1027, 29), (47, 1038, 1036, 1037), (48, 1042, 1041, 30)]
def zYL3 : List (Nat × Nat × Nat × Nat) := [(49, 1046, 1045, 31), (50, 1050, 1049, 32), (51, 262, 261, 0), (52, 717, 715, 716), (53, 1157, 1155, 1156), (54, 819, 817, 818), (55, 941, 939, 940), (56, 1090, 1088, 1089), (57, 229, 228, 0), (58, 761, 759, 760), (59, 778, 776, 777), (60, 223, 222, 0), (61, 738, 736, 737), (62, 743, 742, 9), (63, 765, 764, 12), (64, 769, 768, 13)]
def zYL4 : List (Nat × Nat × Nat × Nat) := [(65, 773, 772, 14), (66, 753, 752, 10), (67, 757, 756, 11), (68, 270, 269, 0), (69, 728, 726, 727), (70, 823, 821, 822), (71, 839, 837, 838), (72, 907, 905, 906), (73, 933, 931, 932), (74, 920, 918, 919), (75, 924, 922, 923), (76, 848, 846, 847), (77, 803, 801, 802), (78, 827, 825, 826), (79, 831, 830, 15), (80, 857, 856, 19)]
def zYL5 : List (Nat × Nat × Nat × Nat) := [(81, 835, 834, 16), (82, 844, 843, 17), (83, 861, 860, 20), (84, 853, 852, 18), (85, 134, 133, 0), (86, 576, 574, 575), (87, 596, 594, 595), (88, 600, 599, 0), (89, 673, 672, 6), (90, 604, 603, 1), (91, 665, 664, 4), (92, 669, 668, 5), (93, 608, 607, 2), (94, 661, 660, 3), (95, 677, 675, 676), (96, 747, 745, 746)]
def zYL6 : List (Nat × Nat × Nat × Nat) := [(97, 685, 683, 684), (98, 702, 700, 701), (99, 126, 125, 0), (100, 572, 570, 571), (101, 580, 578, 579), (102, 584, 582, 583), (103, 734, 732, 733), (104, 783, 781, 782), (105, 787, 785, 786), (106, 795, 793, 794), (107, 799, 797, 798), (108, 811, 809, 810), (109, 865, 863, 864), (110, 911, 909, 910), (111, 916, 914, 915), (112, 929, 927, 928)]
def zYL7 : List (Nat × Nat × Nat × Nat) := [(113, 937, 935, 936), (114, 945, 943, 944), (115, 949, 947, 948), (116, 960, 958, 959), (117, 972, 970, 971), (118, 988, 986, 987), (119, 1000, 998, 999), (120, 1017, 1015, 1016), (121, 1034, 1032, 1033), (122, 1054, 1052, 1053), (123, 1062, 1060, 1061), (124, 1076, 1074, 1075), (125, 1086, 1084, 1085), (126, 1096, 1094, 1095), (127, 1117, 1115, 1116), (128, 1132, 1130, 1131)]
def zYL8 : List (Nat × Nat × Nat × Nat) := [(129, 1136, 1134, 1135), (130, 1149, 1147, 1148), (131, 1153, 1151, 1152), (132, 1162, 1160, 1161), (133, 869, 868, 21), (134, 1167, 1166, 0), (135, 1447, 1446, 0), (136, 1552, 1551, 0), (137, 1560, 1559, 65), (138, 1568, 1567, 66), (139, 1370, 1368, 1369), (140, 1374, 1373, 35), (141, 1378, 1376, 1377), (142, 1498, 1497, 0), (143, 1421, 1420, 42), (144, 1403, 1402, 40)]
def zYL9 : List (Nat × Nat × Nat × Nat) := [(145, 1399, 1398, 39), (146, 1442, 1441, 47), (147, 1415, 1414, 41), (148, 1513, 1512, 58), (149, 1495, 1494, 57), (150, 1491, 1490, 56), (151, 1438, 1437, 46), (152, 1487, 1486, 55), (153, 1483, 1482, 54), (154, 1479, 1478, 53), (155, 1530, 1529, 62), (156, 1538, 1537, 64), (157, 1526, 1525, 61), (158, 1534, 1533, 63), (159, 1521, 1520, 60), (160, 1517, 1516, 59)]
def zYL10 : List (Nat × Nat × Nat × Nat) := [(161, 1433, 1432, 45), (162, 1406, 1405, 0), (163, 1451, 1450, 48), (164, 1429, 1428, 44), (165, 1425, 1424, 43), (166, 1395, 1394, 38), (167, 1458, 1457, 0), (168, 1455, 1454, 49), (169, 1390, 1389, 37), (170, 1386, 1385, 36), (171, 1466, 1465, 51), (172, 1462, 1461, 50), (173, 1382, 1380, 1381), (174, 1474, 1473, 52), (175, 1470, 1468, 1469), (176, 1544, 1542, 1543)]
def zYL11 : List (Nat × Nat × Nat × Nat) := [(177, 1657, 1656, 85), (178, 1667, 1666, 0), (179, 1664, 1663, 0), (180, 1661, 1660, 86), (181, 1608, 1607, 74), (182, 1612, 1611, 75), (183, 1576, 1575, 68), (184, 1572, 1571, 67), (185, 1549, 1547, 1548), (186, 1556, 1554, 1555), (187, 1564, 1562, 1563), (188, 1653, 1652, 84), (189, 1649, 1648, 83), (190, 1645, 1644, 82), (191, 1641, 1640, 81), (192, 1637, 1636, 80)]
def zYL12 : List (Nat × Nat × Nat × Nat) := [(193, 1672, 1671, 87), (194, 1604, 1603, 73), (195, 1617, 1616, 76), (196, 1629, 1628, 79), (197, 1625, 1624, 78), (198, 1621, 1620, 77), (199, 1600, 1599, 72), (200, 1714, 1713, 92), (201, 1588, 1587, 70), (202, 1584, 1583, 69), (203, 1596, 1595, 71), (204, 1580, 1578, 1579), (205, 1592, 1590, 1591), (206, 1633, 1631, 1632), (207, 1676, 1674, 1675), (208, 1684, 1683, 88)]
def zYL13 : List (Nat × Nat × Nat × Nat) := [(209, 1680, 1678, 1679), (210, 1688, 1686, 1687), (211, 1702, 1701, 89), (212, 1718, 1717, 93), (213, 1692, 1690, 1691), (214, 1697, 1695, 1696), (215, 1726, 1725, 94), (216, 1722, 1720, 1721), (217, 1730, 1728, 1729), (218, 1734, 1732, 1733), (219, 1738, 1736, 1737), (220, 1747, 1746, 95), (221, 1743, 1741, 1742), (222, 1759, 1758, 97), (223, 1755, 1754, 96), (224, 1751, 1749, 1750)]
def zYL14 : List (Nat × Nat × Nat × Nat) := [(225, 1763, 1761, 1762), (226, 1768, 1766, 1767), (227, 1776, 1775, 98), (228, 1772, 1770, 1771), (229, 1780, 1778, 1779), (230, 1788, 1787, 99), (231, 1784, 1782, 1783), (232, 1796, 1795, 100), (233, 1792, 1790, 1791), (234, 1800, 1798, 1799), (235, 1809, 1808, 101), (236, 1804, 1802, 1803), (237, 1817, 1815, 1816), (238, 1710, 1709, 91), (239, 1706, 1705, 90), (240, 1821, 1819, 1820)]
def zYL15 : List (Nat × Nat × Nat × Nat) := [(241, 1825, 1823, 1824), (242, 613, 611, 612), (243, 617, 615, 616), (244, 623, 621, 622), (245, 627, 625, 626), (246, 630, 629, 0), (247, 633, 632, 0), (248, 638, 637, 0)]
def zYL : List (Nat × Nat × Nat × Nat) := zYL0 ++ (zYL1 ++ (zYL2 ++ (zYL3 ++ (zYL4 ++ (zYL5 ++ (zYL6 ++ (zYL7 ++ (zYL8 ++ (zYL9 ++ (zYL10 ++ (zYL11 ++ (zYL12 ++ (zYL13 ++ (zYL14 ++ (zYL15)))))))))))))))
def zNL : List (Nat × Nat) := [(0, 111), (1, 106), (2, 105), (3, 112), (4, 113), (5, 114), (6, 109), (7, 108), (8, 107), (9, 110), (10, 104), (11, 103), (12, 115), (13, 102), (14, 116), (15, 117), (16, 118)]
def zKL : List (Nat × Nat) := [(0, 368), (1, 182), (2, 176), (3, 421), (4, 457), (5, 500), (6, 259), (7, 226), (8, 220), (9, 267), (10, 131), (11, 123), (12, 1164)]
/-- places of the words that lay the fields out -/
def zPL : List (List Nat) := [[393, 395, 397, 399, 401, 403, 405, 407, 409, 411, 413, 415], [204, 206, 208], [214, 216], [441, 443, 445, 447, 449, 451, 453], [480, 482, 484, 486, 488, 490, 492, 494, 496], [516, 518, 520, 522, 524, 526, 528], [347, 349, 351, 353, 355, 357, 359, 361, 363], [238, 240, 242], [249, 251, 253], [301, 303, 305, 307, 309, 311, 313, 315, 317, 319, 321], [153, 155, 157, 159, 161, 163, 165, 167, 169, 171], [544, 546, 548, 550, 552, 554, 556, 558, 560, 562, 564, 566], [1234, 1236, 1238, 1240, 1242, 1244, 1246, 1248, 1250, 1252, 1254, 1256, 1258, 1260, 1262, 1264, 1266, 1268, 1270, 1272, 1274, 1276, 1278, 1280, 1282, 1284, 1286, 1288, 1290, 1292, 1294, 1296, 1298, 1300, 1302, 1304, 1306, 1308, 1310, 1312, 1314, 1316, 1318, 1320, 1322, 1324, 1326, 1328, 1330, 1332, 1334, 1336, 1338, 1340, 1342, 1344, 1346, 1348, 1350, 1352, 1354, 1356, 1358, 1360, 1362, 1364]]
