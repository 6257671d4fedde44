/-! PRINTED by wip/whole/gen.py out of claim/Statement.lean: the classes, their fields, the methods, their code with resolved operands -/
def kT_0 : u_T := fun k => match k with
  | 0 => ("KnotTown$Bows", "bows", "I", false)
  | 1 => ("KnotTown$Bows", "of", "[I", true)
  | 2 => ("KnotTown$Bows", "cell", "[J", true)
  | _ => ("KnotTown$Bows", "rows", "I", false)
def kty_0 : Nat → FieldType := fun k => match k with
  | 0 => .int
  | 1 => .array .int
  | 2 => .array .long
  | _ => .int
def kT_1 : u_T := fun k => match k with
  | 0 => ("KnotTown$Bracket", "known", "Z", false)
  | 1 => ("KnotTown$Bracket", "number", "[I", true)
  | 2 => ("KnotTown$Bracket", "choices", "[I", true)
  | _ => ("KnotTown$Bracket", "other", "[I", true)
def kty_1 : Nat → FieldType := fun k => match k with
  | 0 => .boolean
  | 1 => .array .int
  | 2 => .array .int
  | _ => .array .int
def kT_2 : u_T := fun k => match k with
  | 0 => ("KnotTown$Gossip", "words", "[J", true)
  | 1 => ("KnotTown$Gossip", "stack", "[J", true)
  | _ => ("KnotTown$Gossip", "have", "I", false)
def kty_2 : Nat → FieldType := fun k => match k with
  | 0 => .array .long
  | 1 => .array .long
  | _ => .int
def kT_3 : u_T := fun k => match k with
  | 0 => ("KnotTown$Land", "pieces", "I", false)
  | 1 => ("KnotTown$Land", "most", "I", false)
  | 2 => ("KnotTown$Land", "twos", "I", false)
  | 3 => ("KnotTown$Land", "threes", "I", false)
  | 4 => ("KnotTown$Land", "move", "[I", true)
  | 5 => ("KnotTown$Land", "start", "[I", true)
  | 6 => ("KnotTown$Land", "moves", "I", false)
  | _ => ("KnotTown$Land", "turn", "[I", true)
def kty_3 : Nat → FieldType := fun k => match k with
  | 0 => .int
  | 1 => .int
  | 2 => .int
  | 3 => .int
  | 4 => .array .int
  | 5 => .array .int
  | 6 => .int
  | _ => .array .int
def kT_4 : u_T := fun k => match k with
  | 0 => ("KnotTown$Rule", "code", "[I", true)
  | _ => ("KnotTown$Rule", "timed", "Z", true)
def kty_4 : Nat → FieldType := fun k => match k with
  | 0 => .array .int
  | _ => .boolean
def kT_5 : u_T := fun k => match k with
  | 0 => ("KnotTown$RuleText", "code", "[I", true)
  | 1 => ("KnotTown$RuleText", "length", "I", false)
  | 2 => ("KnotTown$RuleText", "counted", "I", false)
  | _ => ("KnotTown$RuleText", "timed", "Z", false)
def kty_5 : Nat → FieldType := fun k => match k with
  | 0 => .array .int
  | 1 => .int
  | 2 => .int
  | _ => .boolean
def kT_6 : u_T := fun k => match k with
  | 0 => ("KnotTown$Search", "low", "[J", true)
  | 1 => ("KnotTown$Search", "high", "[J", true)
  | 2 => ("KnotTown$Search", "firstRoad", "[S", true)
  | 3 => ("KnotTown$Search", "cameFrom", "[S", true)
  | 4 => ("KnotTown$Search", "cameBy", "[S", true)
  | 5 => ("KnotTown$Search", "slot", "[S", true)
  | 6 => ("KnotTown$Search", "work", "LKnotTown$Town;", true)
  | 7 => ("KnotTown$Search", "trial", "LKnotTown$Town;", true)
  | 8 => ("KnotTown$Search", "land", "LKnotTown$Land;", true)
  | 9 => ("KnotTown$Search", "size", "I", false)
  | 10 => ("KnotTown$Search", "packedLow", "J", false)
  | 11 => ("KnotTown$Search", "packedHigh", "J", false)
  | 12 => ("KnotTown$Search", "packedFirst", "I", false)
  | 13 => ("KnotTown$Search", "lastFrom", "I", false)
  | 14 => ("KnotTown$Search", "lastBy", "I", false)
  | 15 => ("KnotTown$Search", "moves", "I", false)
  | 16 => ("KnotTown$Search", "movesKnown", "Z", false)
  | 17 => ("KnotTown$Search", "changeSet", "I", false)
  | _ => ("KnotTown$Search", "changesKnown", "Z", false)
def kty_6 : Nat → FieldType := fun k => match k with
  | 0 => .array .long
  | 1 => .array .long
  | 2 => .array .short
  | 3 => .array .short
  | 4 => .array .short
  | 5 => .array .short
  | 6 => .object "KnotTown$Town"
  | 7 => .object "KnotTown$Town"
  | 8 => .object "KnotTown$Land"
  | 9 => .int
  | 10 => .long
  | 11 => .long
  | 12 => .int
  | 13 => .int
  | 14 => .int
  | 15 => .int
  | 16 => .boolean
  | 17 => .int
  | _ => .boolean
def kT_7 : u_T := fun k => match k with
  | 0 => ("KnotTown$Stand", "town", "LKnotTown$Town;", true)
  | 1 => ("KnotTown$Stand", "moves", "I", false)
  | 2 => ("KnotTown$Stand", "inForce", "I", false)
  | 3 => ("KnotTown$Stand", "x", "I", false)
  | _ => ("KnotTown$Stand", "made", "Z", false)
def kty_7 : Nat → FieldType := fun k => match k with
  | 0 => .object "KnotTown$Town"
  | 1 => .int
  | 2 => .int
  | 3 => .int
  | _ => .boolean
def kT_8 : u_T := fun k => match k with
  | 0 => ("KnotTown$Tape", "bytes", "[B", true)
  | 1 => ("KnotTown$Tape", "length", "I", false)
  | 2 => ("KnotTown$Tape", "at", "I", false)
  | _ => ("KnotTown$Tape", "fault", "I", false)
def kty_8 : Nat → FieldType := fun k => match k with
  | 0 => .array .byte
  | 1 => .int
  | 2 => .int
  | _ => .int
def kT_9 : u_T := fun k => match k with
  | 0 => ("KnotTown$Town", "roads", "I", false)
  | 1 => ("KnotTown$Town", "first", "I", false)
  | 2 => ("KnotTown$Town", "total", "I", false)
  | 3 => ("KnotTown$Town", "present", "I", false)
  | 4 => ("KnotTown$Town", "pass", "[I", true)
  | 5 => ("KnotTown$Town", "hand", "[I", true)
  | 6 => ("KnotTown$Town", "next", "[I", true)
  | 7 => ("KnotTown$Town", "prev", "[I", true)
  | _ => ("KnotTown$Town", "at", "[I", true)
def kty_9 : Nat → FieldType := fun k => match k with
  | 0 => .int
  | 1 => .int
  | 2 => .int
  | 3 => .int
  | 4 => .array .int
  | 5 => .array .int
  | 6 => .array .int
  | 7 => .array .int
  | _ => .array .int
def kT_10 : u_T := fun k => match k with
  | 0 => ("KnotTown", "tape", "LKnotTown$Tape;", true)
  | 1 => ("KnotTown", "now", "LKnotTown$Stand;", true)
  | 2 => ("KnotTown", "images", "[LKnotTown$Stand;", true)
  | 3 => ("KnotTown", "told", "LKnotTown$Town;", true)
  | 4 => ("KnotTown", "ground", "LKnotTown$Land;", true)
  | 5 => ("KnotTown", "search", "LKnotTown$Search;", true)
  | 6 => ("KnotTown", "bracket", "LKnotTown$Bracket;", true)
  | 7 => ("KnotTown", "bows", "LKnotTown$Bows;", true)
  | 8 => ("KnotTown", "talk", "LKnotTown$Gossip;", true)
  | 9 => ("KnotTown", "ruleText", "LKnotTown$RuleText;", true)
  | 10 => ("KnotTown", "rules", "[LKnotTown$Rule;", true)
  | _ => ("KnotTown", "ruleCount", "I", false)
def kty_10 : Nat → FieldType := fun k => match k with
  | 0 => .object "KnotTown$Tape"
  | 1 => .object "KnotTown$Stand"
  | 2 => .array (.object "KnotTown$Stand")
  | 3 => .object "KnotTown$Town"
  | 4 => .object "KnotTown$Land"
  | 5 => .object "KnotTown$Search"
  | 6 => .object "KnotTown$Bracket"
  | 7 => .object "KnotTown$Bows"
  | 8 => .object "KnotTown$Gossip"
  | 9 => .object "KnotTown$RuleText"
  | 10 => .array (.object "KnotTown$Rule")
  | _ => .int
def kT_11 : u_T := fun k => match k with
  | 0 => ("KnotTownModel", "thrown", "I", false)
  | 1 => ("KnotTownModel", "scalar", "[I", true)
  | 2 => ("KnotTownModel", "passBridge", "[I", true)
  | 3 => ("KnotTownModel", "passOver", "[I", true)
  | 4 => ("KnotTownModel", "hand", "[I", true)
  | 5 => ("KnotTownModel", "newScalar", "[I", true)
  | 6 => ("KnotTownModel", "newBridge", "[I", true)
  | 7 => ("KnotTownModel", "newOver", "[I", true)
  | 8 => ("KnotTownModel", "newHand", "[I", true)
  | 9 => ("KnotTownModel", "keptScalar", "[I", true)
  | 10 => ("KnotTownModel", "keptBridge", "[I", true)
  | 11 => ("KnotTownModel", "keptOver", "[I", true)
  | 12 => ("KnotTownModel", "keptHand", "[I", true)
  | 13 => ("KnotTownModel", "overAt", "[I", true)
  | 14 => ("KnotTownModel", "underAt", "[I", true)
  | 15 => ("KnotTownModel", "nextEnd", "[I", true)
  | 16 => ("KnotTownModel", "landOf", "[I", true)
  | 17 => ("KnotTownModel", "landSize", "[I", true)
  | 18 => ("KnotTownModel", "landFirst", "[I", true)
  | 19 => ("KnotTownModel", "group", "[I", true)
  | 20 => ("KnotTownModel", "lands", "I", false)
  | 21 => ("KnotTownModel", "taped", "I", false)
  | 22 => ("KnotTownModel", "p", "I", false)
  | 23 => ("KnotTownModel", "fault", "I", false)
  | 24 => ("KnotTownModel", "slot", "I", false)
  | 25 => ("KnotTownModel", "rules", "I", false)
  | 26 => ("KnotTownModel", "entries", "I", false)
  | 27 => ("KnotTownModel", "deep", "I", false)
  | 28 => ("KnotTownModel", "counted", "I", false)
  | 29 => ("KnotTownModel", "opened", "I", false)
  | 30 => ("KnotTownModel", "words", "I", false)
  | 31 => ("KnotTownModel", "overTold", "I", false)
  | 32 => ("KnotTownModel", "underTold", "I", false)
  | 33 => ("KnotTownModel", "tape", "[B", true)
  | 34 => ("KnotTownModel", "sort", "[I", true)
  | 35 => ("KnotTownModel", "number", "[I", true)
  | 36 => ("KnotTownModel", "clauses", "[I", true)
  | 37 => ("KnotTownModel", "testAt", "[I", true)
  | 38 => ("KnotTownModel", "endAt", "[I", true)
  | 39 => ("KnotTownModel", "open", "[I", true)
  | 40 => ("KnotTownModel", "asked", "[J", true)
  | 41 => ("KnotTownModel", "stack", "[J", true)
  | 42 => ("KnotTownModel", "bowAt", "[I", true)
  | 43 => ("KnotTownModel", "beginsAt", "[I", true)
  | 44 => ("KnotTownModel", "bows", "I", false)
  | 45 => ("KnotTownModel", "slidePiece", "[I", true)
  | 46 => ("KnotTownModel", "matrix", "[J", true)
  | 47 => ("KnotTownModel", "bracket", "[I", true)
  | 48 => ("KnotTownModel", "joined", "[I", true)
  | 49 => ("KnotTownModel", "situation", "[I", true)
  | 50 => ("KnotTownModel", "from", "[I", true)
  | 51 => ("KnotTownModel", "byMove", "[I", true)
  | 52 => ("KnotTownModel", "lookedMany", "I", false)
  | 53 => ("KnotTownModel", "foundAt", "I", false)
  | 54 => ("KnotTownModel", "changedSet", "I", false)
  | 55 => ("KnotTownModel", "images", "[I", true)
  | 56 => ("KnotTownModel", "isMade", "[Z", true)
  | 57 => ("KnotTownModel", "imageAt", "I", false)
  | _ => ("KnotTownModel", "goesBack", "Z", false)
def kty_11 : Nat → FieldType := fun k => match k with
  | 0 => .int
  | 1 => .array .int
  | 2 => .array .int
  | 3 => .array .int
  | 4 => .array .int
  | 5 => .array .int
  | 6 => .array .int
  | 7 => .array .int
  | 8 => .array .int
  | 9 => .array .int
  | 10 => .array .int
  | 11 => .array .int
  | 12 => .array .int
  | 13 => .array .int
  | 14 => .array .int
  | 15 => .array .int
  | 16 => .array .int
  | 17 => .array .int
  | 18 => .array .int
  | 19 => .array .int
  | 20 => .int
  | 21 => .int
  | 22 => .int
  | 23 => .int
  | 24 => .int
  | 25 => .int
  | 26 => .int
  | 27 => .int
  | 28 => .int
  | 29 => .int
  | 30 => .int
  | 31 => .int
  | 32 => .int
  | 33 => .array .byte
  | 34 => .array .int
  | 35 => .array .int
  | 36 => .array .int
  | 37 => .array .int
  | 38 => .array .int
  | 39 => .array .int
  | 40 => .array .long
  | 41 => .array .long
  | 42 => .array .int
  | 43 => .array .int
  | 44 => .int
  | 45 => .array .int
  | 46 => .array .long
  | 47 => .array .int
  | 48 => .array .int
  | 49 => .array .int
  | 50 => .array .int
  | 51 => .array .int
  | 52 => .int
  | 53 => .int
  | 54 => .int
  | 55 => .array .int
  | 56 => .array .boolean
  | 57 => .int
  | _ => .boolean
abbrev kCl : List vw_C := [("KnotTown$Bows", kT_0, 4), ("KnotTown$Bracket", kT_1, 4), ("KnotTown$Gossip", kT_2, 3), ("KnotTown$Land", kT_3, 8), ("KnotTown$Rule", kT_4, 2), ("KnotTown$RuleText", kT_5, 4), ("KnotTown$Search", kT_6, 19), ("KnotTown$Stand", kT_7, 5), ("KnotTown$Tape", kT_8, 4), ("KnotTown$Town", kT_9, 9), ("KnotTown", kT_10, 12), ("KnotTownModel", kT_11, 59)]
def kfkL : List (List Nat) := [[0, 5, 5, 0], [4, 5, 5, 5], [5, 5, 0], [0, 0, 0, 0, 5, 5, 0, 5], [5, 4], [5, 0, 0, 4], [5, 5, 5, 5, 5, 5, 5, 5, 5, 0, 3, 3, 0, 0, 0, 0, 4, 0, 4], [5, 0, 0, 0, 4], [5, 0, 0, 0], [0, 0, 0, 0, 5, 5, 5, 5, 5], [5, 5, 5, 5, 5, 5, 5, 5, 5, 5, 5, 0], [0, 5, 5, 5, 5, 5, 5, 5, 5, 5, 5, 5, 5, 5, 5, 5, 5, 5, 5, 5, 0, 0, 0, 0, 0, 0, 0, 0, 0, 0, 0, 0, 0, 5, 5, 5, 5, 5, 5, 5, 5, 5, 5, 5, 0, 5, 5, 5, 5, 5, 5, 5, 0, 0, 0, 5, 5, 0, 4]]
def kfk (ci : Nat) : List Nat := kfkL.getD ci []
def kstrs : List (List Int) := [[114, 111, 97, 100], [111], [117], [98, 97, 114], [110, 111, 116], [98, 114, 105, 100, 103, 101], [104, 97, 110, 100], [102, 114, 111, 109], [116, 111], [116, 104, 114, 111, 117, 103, 104], [111, 118, 101, 114], [109, 105, 110, 117, 116, 101], [98, 114, 105, 100, 103, 101, 115], [111, 114], [97, 110, 100], [114, 111, 97, 100], [111], [117], [98, 97, 114], [110, 111, 116], [98, 114, 105, 100, 103, 101], [104, 97, 110, 100], [102, 114, 111, 109], [116, 111], [116, 104, 114, 111, 117, 103, 104], [111, 118, 101, 114], [109, 105, 110, 117, 116, 101], [98, 114, 105, 100, 103, 101, 115], [97, 110, 100], [111, 114]]
/-- the text constants, and the script -/
def ksx (sc : List Int) (j : Nat) : List Int := if j = 99 then sc else kstrs.getD j []
def kc_Law_law : List Instr := [.new 10, .dup, .invokespecial 1, .astore 1, .new 11, .dup, .invokespecial 171, .astore 2, .iconst 0, .istore 3, .iload 3, .aload 0, .arraylength, .iconst 6, .isub, .if_icmp .gt 679, .aload 0, .iload 3, .iaload, .iconst 31, .iand, .tableswitch 677 0 30 #[22, 79, 96, 103, 110, 127, 154, 181, 198, 215, 242, 279, 296, 349, 356, 373, 390, 397, 404, 422, 430, 457, 464, 491, 508, 535, 562, 579, 626, 643, 660], .aload 1, .aload 0, .iload 3, .iconst 1, .iadd, .iaload, .aload 0, .iload 3, .iconst 2, .iadd, .iaload, .aload 0, .iload 3, .iconst 3, .iadd, .iaload, .aload 0, .iload 3, .iconst 4, .iadd, .iaload, .aload 0, .iload 3, .iconst 5, .iadd, .iaload, .invokevirtual 12, .aload 2, .aload 0, .iload 3, .iconst 1, .iadd, .iaload, .aload 0, .iload 3, .iconst 2, .iadd, .iaload, .aload 0, .iload 3, .iconst 3, .iadd, .iaload, .aload 0, .iload 3, .iconst 4, .iadd, .iaload, .aload 0, .iload 3, .iconst 5, .iadd, .iaload, .invokevirtual 174, .if_icmp .eq 677, .iconst 0, .ireturn, .aload 1, .aload 0, .iload 3, .iconst 1, .iadd, .iaload, .invokevirtual 14, .aload 2, .aload 0, .iload 3, .iconst 1, .iadd, .iaload, .invokevirtual 176, .if_icmp .eq 677, .iconst 0, .ireturn, .aload 1, .invokevirtual 15, .aload 2, .invokevirtual 177, .if_icmp .eq 677, .iconst 0, .ireturn, .aload 1, .invokevirtual 64, .aload 2, .invokevirtual 205, .if_icmp .eq 677, .iconst 0, .ireturn, .aload 1, .aload 0, .iload 3, .iconst 1, .iadd, .iaload, .invokevirtual 78, .aload 2, .aload 0, .iload 3, .iconst 1, .iadd, .iaload, .invokevirtual 219, .if_icmp .eq 677, .iconst 0, .ireturn, .aload 1, .aload 0, .iload 3, .iconst 1, .iadd, .iaload, .aload 0, .iload 3, .iconst 2, .iadd, .iaload, .invokevirtual 79, .aload 2, .aload 0, .iload 3, .iconst 1, .iadd, .iaload, .aload 0, .iload 3, .iconst 2, .iadd, .iaload, .invokevirtual 220, .if_icmp .eq 677, .iconst 0, .ireturn, .aload 1, .aload 0, .iload 3, .iconst 1, .iadd, .iaload, .aload 0, .iload 3, .iconst 2, .iadd, .iaload, .invokevirtual 84, .aload 2, .aload 0, .iload 3, .iconst 1, .iadd, .iaload, .aload 0, .iload 3, .iconst 2, .iadd, .iaload, .invokevirtual 224, .if_icmp .eq 677, .iconst 0, .ireturn, .aload 1, .aload 0, .iload 3, .iconst 1, .iadd, .iaload, .invokevirtual 85, .aload 2, .aload 0, .iload 3, .iconst 1, .iadd, .iaload, .invokevirtual 225, .if_icmp .eq 677, .iconst 0, .ireturn, .aload 1, .aload 0, .iload 3, .iconst 1, .iadd, .iaload, .invokevirtual 86, .aload 2, .aload 0, .iload 3, .iconst 1, .iadd, .iaload, .invokevirtual 227, .if_icmp .eq 677, .iconst 0, .ireturn, .aload 1, .aload 0, .iload 3, .iconst 1, .iadd, .iaload, .aload 0, .iload 3, .iconst 2, .iadd, .iaload, .invokevirtual 93, .aload 2, .aload 0, .iload 3, .iconst 1, .iadd, .iaload, .aload 0, .iload 3, .iconst 2, .iadd, .iaload, .invokevirtual 230, .if_icmp .eq 677, .iconst 0, .ireturn, .aload 1, .aload 0, .iload 3, .iconst 1, .iadd, .iaload, .aload 0, .iload 3, .iconst 2, .iadd, .iaload, .aload 0, .iload 3, .iconst 3, .iadd, .iaload, .invokevirtual 94, .aload 2, .aload 0, .iload 3, .iconst 1, .iadd, .iaload, .aload 0, .iload 3, .iconst 2, .iadd, .iaload, .aload 0, .iload 3, .iconst 3, .iadd, .iaload, .invokevirtual 234, .if_icmp .eq 677, .iconst 0, .ireturn, .aload 1, .aload 0, .iload 3, .iconst 1, .iadd, .iaload, .invokevirtual 95, .aload 2, .aload 0, .iload 3, .iconst 1, .iadd, .iaload, .invokevirtual 239, .if_icmp .eq 677, .iconst 0, .ireturn, .aload 1, .aload 0, .iload 3, .iconst 1, .iadd, .iaload, .aload 0, .iload 3, .iconst 2, .iadd, .iaload, .ifCond .eq 310, .iconst 1, .goto 311, .iconst 0, .aload 0, .iload 3, .iconst 3, .iadd, .iaload, .ifCond .eq 319, .iconst 1, .goto 320, .iconst 0, .invokevirtual 97, .aload 2, .aload 0, .iload 3, .iconst 1, .iadd, .iaload, .aload 0, .iload 3, .iconst 2, .iadd, .iaload, .ifCond .eq 335, .iconst 1, .goto 336, .iconst 0, .aload 0, .iload 3, .iconst 3, .iadd, .iaload, .ifCond .eq 344, .iconst 1, .goto 345, .iconst 0, .invokevirtual 241, .if_icmp .eq 677, .iconst 0, .ireturn, .aload 1, .invokevirtual 101, .aload 2, .invokevirtual 242, .if_icmp .eq 677, .iconst 0, .ireturn, .aload 1, .aload 0, .iload 3, .iconst 1, .iadd, .iaload, .invokevirtual 102, .aload 2, .aload 0, .iload 3, .iconst 1, .iadd, .iaload, .invokevirtual 243, .if_icmp .eq 677, .iconst 0, .ireturn, .aload 1, .aload 0, .iload 3, .iconst 1, .iadd, .iaload, .invokevirtual 104, .aload 2, .aload 0, .iload 3, .iconst 1, .iadd, .iaload, .invokevirtual 245, .if_icmp .eq 677, .iconst 0, .ireturn, .aload 1, .invokevirtual 106, .aload 2, .invokevirtual 249, .if_icmp .eq 677, .iconst 0, .ireturn, .aload 1, .invokevirtual 110, .aload 2, .invokevirtual 251, .if_icmp .eq 677, .iconst 0, .ireturn, .aload 1, .aload 0, .iload 3, .iconst 1, .iadd, .iaload, .invokevirtual 112, .aload 2, .aload 0, .iload 3, .iconst 1, .iadd, .iaload, .invokevirtual 252, .lcmp, .ifCond .eq 677, .iconst 0, .ireturn, .aload 1, .invokevirtual 121, .aload 2, .invokevirtual 257, .lcmp, .ifCond .eq 677, .iconst 0, .ireturn, .aload 1, .aload 0, .iload 3, .iconst 1, .iadd, .iaload, .aload 0, .iload 3, .iconst 2, .iadd, .iaload, .invokevirtual 125, .aload 2, .aload 0, .iload 3, .iconst 1, .iadd, .iaload, .aload 0, .iload 3, .iconst 2, .iadd, .iaload, .invokevirtual 258, .if_icmp .eq 677, .iconst 0, .ireturn, .aload 1, .invokevirtual 134, .aload 2, .invokevirtual 265, .if_icmp .eq 677, .iconst 0, .ireturn, .aload 1, .aload 0, .iload 3, .iconst 1, .iadd, .iaload, .aload 0, .iload 3, .iconst 2, .iadd, .iaload, .invokevirtual 145, .aload 2, .aload 0, .iload 3, .iconst 1, .iadd, .iaload, .aload 0, .iload 3, .iconst 2, .iadd, .iaload, .invokevirtual 272, .if_icmp .eq 677, .iconst 0, .ireturn, .aload 1, .aload 0, .iload 3, .iconst 1, .iadd, .iaload, .invokevirtual 147, .aload 2, .aload 0, .iload 3, .iconst 1, .iadd, .iaload, .invokevirtual 273, .if_icmp .eq 677, .iconst 0, .ireturn, .aload 1, .aload 0, .iload 3, .iconst 1, .iadd, .iaload, .aload 0, .iload 3, .iconst 2, .iadd, .iaload, .invokevirtual 150, .aload 2, .aload 0, .iload 3, .iconst 1, .iadd, .iaload, .aload 0, .iload 3, .iconst 2, .iadd, .iaload, .invokevirtual 276, .if_icmp .eq 677, .iconst 0, .ireturn, .aload 1, .aload 0, .iload 3, .iconst 1, .iadd, .iaload, .aload 0, .iload 3, .iconst 2, .iadd, .iaload, .invokevirtual 161, .aload 2, .aload 0, .iload 3, .iconst 1, .iadd, .iaload, .aload 0, .iload 3, .iconst 2, .iadd, .iaload, .invokevirtual 284, .if_icmp .eq 677, .iconst 0, .ireturn, .aload 1, .aload 0, .iload 3, .iconst 1, .iadd, .iaload, .invokevirtual 163, .aload 2, .aload 0, .iload 3, .iconst 1, .iadd, .iaload, .invokevirtual 285, .if_icmp .eq 677, .iconst 0, .ireturn, .aload 1, .aload 0, .iload 3, .iconst 1, .iadd, .iaload, .aload 0, .iload 3, .iconst 2, .iadd, .iaload, .aload 0, .iload 3, .iconst 3, .iadd, .iaload, .aload 0, .iload 3, .iconst 4, .iadd, .iaload, .invokevirtual 164, .aload 2, .aload 0, .iload 3, .iconst 1, .iadd, .iaload, .aload 0, .iload 3, .iconst 2, .iadd, .iaload, .aload 0, .iload 3, .iconst 3, .iadd, .iaload, .aload 0, .iload 3, .iconst 4, .iadd, .iaload, .invokevirtual 286, .if_icmp .eq 677, .iconst 0, .ireturn, .aload 1, .aload 0, .iload 3, .iconst 1, .iadd, .iaload, .invokevirtual 167, .aload 2, .aload 0, .iload 3, .iconst 1, .iadd, .iaload, .invokevirtual 290, .if_icmp .eq 677, .iconst 0, .ireturn, .aload 1, .aload 0, .iload 3, .iconst 1, .iadd, .iaload, .invokevirtual 168, .aload 2, .aload 0, .iload 3, .iconst 1, .iadd, .iaload, .invokevirtual 291, .if_icmp .eq 677, .iconst 0, .ireturn, .aload 1, .aload 0, .iload 3, .iconst 1, .iadd, .iaload, .invokevirtual 170, .aload 2, .aload 0, .iload 3, .iconst 1, .iadd, .iaload, .invokevirtual 294, .if_icmp .eq 677, .iconst 0, .ireturn, .iinc 3 6, .goto 10, .iconst 1, .ireturn]
def kc_KT_init : List Instr := [.aload 0, .fneg, .aload 0, .new 8, .dup, .invokespecial 2, .putfield 1000, .aload 0, .new 7, .dup, .invokespecial 3, .putfield 1001, .aload 0, .iconst 4, .anewarray 7, .putfield 1002, .aload 0, .new 9, .dup, .invokespecial 4, .putfield 1003, .aload 0, .new 3, .dup, .invokespecial 6, .putfield 1004, .aload 0, .new 6, .dup, .invokespecial 7, .putfield 1005, .aload 0, .new 1, .dup, .invokespecial 8, .putfield 1006, .aload 0, .new 0, .dup, .invokespecial 9, .putfield 1007, .aload 0, .new 2, .dup, .invokespecial 10, .putfield 1008, .aload 0, .new 5, .dup, .invokespecial 11, .putfield 1009, .aload 0, .iconst 6, .anewarray 4, .putfield 1010, .iconst 0, .istore 1, .iload 1, .iconst 4, .if_icmp .ge 69, .aload 0, .getfield 1002, .iload 1, .new 7, .dup, .invokespecial 3, .aastore, .iinc 1 1, .goto 57, .return_]
def kc_Tape_init : List Instr := [.aload 0, .fneg, .aload 0, .iconst 400, .newarray .byte, .putfield 800, .return_]
def kc_Stand_init : List Instr := [.aload 0, .fneg, .aload 0, .new 9, .dup, .invokespecial 4, .putfield 700, .aload 0, .iconst (-1), .putfield 702, .return_]
def kc_Town_init : List Instr := [.aload 0, .fneg, .aload 0, .iconst 22, .newarray .int, .putfield 904, .aload 0, .iconst 11, .newarray .int, .putfield 905, .aload 0, .iconst 22, .newarray .int, .putfield 906, .aload 0, .iconst 22, .newarray .int, .putfield 907, .aload 0, .iconst 22, .newarray .int, .putfield 908, .aload 0, .getfield 908, .iconst (-1), .invokestatic 5, .return_]
def kc_Arrays_fill_II : List Instr := [.iconst 0, .istore 2, .aload 0, .arraylength, .istore 3, .iload 2, .iload 3, .if_icmp .ge 14, .aload 0, .iload 2, .iload 1, .iastore, .iinc 2 1, .goto 5, .return_]
def kc_Land_init : List Instr := [.aload 0, .fneg, .aload 0, .iconst 48, .newarray .int, .putfield 304, .aload 0, .iconst 48, .newarray .int, .putfield 305, .aload 0, .iconst 44, .newarray .int, .putfield 307, .return_]
def kc_Search_init : List Instr := [.aload 0, .fneg, .aload 0, .iconst 300, .newarray .long, .putfield 600, .aload 0, .iconst 300, .newarray .long, .putfield 601, .aload 0, .iconst 300, .newarray .short, .putfield 602, .aload 0, .iconst 300, .newarray .short, .putfield 603, .aload 0, .iconst 300, .newarray .short, .putfield 604, .aload 0, .iconst 1024, .newarray .short, .putfield 605, .aload 0, .new 9, .dup, .invokespecial 4, .putfield 606, .aload 0, .new 9, .dup, .invokespecial 4, .putfield 607, .aload 0, .new 3, .dup, .invokespecial 6, .putfield 608, .return_]
def kc_Bracket_init : List Instr := [.aload 0, .fneg, .aload 0, .iconst 199, .newarray .int, .putfield 101, .aload 0, .iconst 192, .newarray .int, .putfield 102, .aload 0, .iconst 44, .newarray .int, .putfield 103, .return_]
def kc_Bows_init : List Instr := [.aload 0, .fneg, .aload 0, .iconst 22, .newarray .int, .putfield 1, .aload 0, .iconst 143, .newarray .long, .putfield 2, .return_]
def kc_Gossip_init : List Instr := [.aload 0, .fneg, .aload 0, .iconst 8, .newarray .long, .putfield 200, .aload 0, .iconst 64, .newarray .long, .putfield 201, .return_]
def kc_RuleText_init : List Instr := [.aload 0, .fneg, .aload 0, .iconst 400, .newarray .int, .putfield 500, .return_]
def kc_KT_feed : List Instr := [.aload 0, .getfield 1000, .getfield 801, .iconst 20, .iadd, .iconst 400, .if_icmp .le 9, .iconst (-1), .ireturn, .aload 0, .getfield 1000, .iload 1, .invokevirtual 13, .aload 0, .getfield 1000, .iload 2, .invokevirtual 13, .aload 0, .getfield 1000, .iload 3, .invokevirtual 13, .aload 0, .getfield 1000, .iload 4, .invokevirtual 13, .aload 0, .getfield 1000, .iload 5, .invokevirtual 13, .aload 0, .getfield 1000, .getfield 801, .ireturn]
def kc_Tape_put : List Instr := [.iconst 24, .istore 2, .iload 2, .ifCond .lt 25, .aload 0, .getfield 801, .iconst 400, .if_icmp .ge 23, .aload 0, .getfield 800, .aload 0, .getfield 801, .iload 1, .iload 2, .ishr, .i2b, .bastore, .aload 0, .dup, .getfield 801, .iconst 1, .iadd, .putfield 801, .iinc 2 (-8), .goto 2, .return_]
def kc_KT_end : List Instr := [.iload 1, .ifCond .lt 7, .iload 1, .aload 0, .getfield 1000, .getfield 801, .if_icmp .le 9, .iconst (-1), .ireturn, .aload 0, .getfield 1000, .iload 1, .putfield 801, .iload 1, .ireturn]
def kc_KT_town : List Instr := [.aload 0, .getfield 1000, .aload 0, .getfield 1003, .aload 0, .getfield 1004, .invokestatic 16, .aload 0, .getfield 1000, .iconst 0, .putfield 801, .aload 0, .getfield 1000, .getfield 803, .ifCond .eq 21, .iconst (-2), .aload 0, .getfield 1000, .getfield 803, .isub, .ireturn, .aload 0, .getfield 1001, .getfield 700, .aload 0, .getfield 1003, .invokevirtual 61, .aload 0, .getfield 1001, .iconst 0, .putfield 701, .aload 0, .invokevirtual 62, .aload 0, .getfield 1001, .getfield 700, .invokevirtual 36, .ireturn]
def kc_TownText_read : List Instr := [.aload 1, .invokevirtual 17, .aload 0, .invokevirtual 20, .iconst 1, .istore 3, .iconst 0, .istore 4, .iload 4, .iconst 2, .if_icmp .gt 29, .iload 3, .ifCond .eq 29, .aload 0, .aload 1, .invokestatic 21, .aload 0, .getfield 803, .ifCond .ne 25, .aload 0, .iconst 59, .invokevirtual 34, .ifCond .eq 25, .iconst 1, .goto 26, .iconst 0, .istore 3, .iinc 4 1, .goto 8, .aload 0, .invokevirtual 35, .ifCond .ne 35, .aload 0, .iconst 0, .invokevirtual 24, .aload 0, .getfield 803, .ifCond .eq 39, .return_, .aload 1, .invokevirtual 18, .aload 1, .getfield 902, .iconst 2, .aload 1, .invokevirtual 36, .imul, .if_icmp .eq 52, .aload 0, .iconst 6, .invokevirtual 24, .return_, .aload 2, .aload 1, .invokevirtual 38, .aload 2, .getfield 300, .aload 1, .invokevirtual 36, .iconst 2, .aload 1, .invokevirtual 57, .imul, .iadd, .if_icmp .eq 68, .aload 0, .iconst 7, .invokevirtual 24, .return_]
def kc_Town_clear : List Instr := [.aload 0, .iconst 0, .putfield 900, .aload 0, .iconst 0, .putfield 901, .aload 0, .iconst 0, .putfield 902, .aload 0, .invokevirtual 18, .return_]
def kc_Town_settle : List Instr := [.aload 0, .getfield 908, .iconst (-1), .invokestatic 5, .aload 0, .iconst 0, .putfield 903, .iconst 0, .istore 1, .iload 1, .aload 0, .getfield 902, .if_icmp .ge 50, .aload 0, .getfield 908, .aload 0, .getfield 904, .iload 1, .iaload, .iload 1, .iastore, .aload 0, .dup, .getfield 903, .iconst 1, .aload 0, .getfield 904, .iload 1, .iaload, .iconst 1, .ishr, .ishl, .ior, .putfield 903, .aload 0, .getfield 906, .iload 1, .iload 1, .iconst 1, .iadd, .iastore, .aload 0, .getfield 907, .iload 1, .iload 1, .iconst 1, .isub, .iastore, .iinc 1 1, .goto 9, .aload 0, .iconst 0, .aload 0, .getfield 901, .invokevirtual 19, .aload 0, .aload 0, .getfield 901, .aload 0, .getfield 902, .invokevirtual 19, .return_]
def kc_Town_comeHome : List Instr := [.iload 1, .iload 2, .if_icmp .ge 17, .aload 0, .getfield 906, .iload 2, .iconst 1, .isub, .iload 1, .iastore, .aload 0, .getfield 907, .iload 1, .iload 2, .iconst 1, .isub, .iastore, .return_]
def kc_Tape_rewind : List Instr := [.aload 0, .iconst 0, .putfield 802, .aload 0, .iconst 0, .putfield 803, .return_]
def kc_TownText_readRoad : List Instr := [.aload 0, .ldc 0, .invokevirtual 22, .ifCond .ne 8, .aload 0, .iconst 0, .invokevirtual 24, .return_, .aload 1, .getfield 900, .iconst 2, .if_icmp .ne 16, .aload 0, .iconst 4, .invokevirtual 24, .return_, .aload 0, .ldc 0, .invokevirtual 25, .pop, .aload 1, .dup, .getfield 900, .iconst 1, .iadd, .putfield 900, .iconst 1, .istore 2, .iconst 0, .istore 3, .iload 3, .iconst 22, .if_icmp .gt 48, .iload 2, .ifCond .eq 48, .aload 0, .aload 1, .invokestatic 26, .ifCond .eq 44, .aload 0, .getfield 803, .ifCond .ne 44, .iconst 1, .goto 45, .iconst 0, .istore 2, .iinc 3 1, .goto 30, .aload 1, .getfield 900, .iconst 1, .if_icmp .ne 56, .aload 1, .aload 1, .getfield 902, .putfield 901, .return_]
def kc_Tape_seesWord : List Instr := [.aload 0, .invokevirtual 23, .pop, .iconst 0, .istore 2, .iconst 1, .istore 3, .aload 0, .getfield 802, .iload 2, .iadd, .aload 0, .getfield 801, .if_icmp .ge 55, .aload 0, .getfield 800, .aload 0, .getfield 802, .iload 2, .iadd, .baload, .iconst 97, .if_icmp .lt 55, .aload 0, .getfield 800, .aload 0, .getfield 802, .iload 2, .iadd, .baload, .iconst 122, .if_icmp .gt 55, .iload 3, .ifCond .eq 51, .iload 2, .aload 1, .fsub, .if_icmp .ge 51, .aload 0, .getfield 800, .aload 0, .getfield 802, .iload 2, .iadd, .baload, .aload 1, .iload 2, .fmul, .if_icmp .ne 51, .iconst 1, .goto 52, .iconst 0, .istore 3, .iinc 2 1, .goto 7, .iload 3, .ifCond .eq 63, .iload 2, .aload 1, .fsub, .if_icmp .ne 63, .iconst 1, .goto 64, .iconst 0, .ireturn]
def kc_Tape_look : List Instr := [.aload 0, .getfield 802, .aload 0, .getfield 801, .if_icmp .ge 19, .aload 0, .getfield 800, .aload 0, .getfield 802, .baload, .iconst 32, .if_icmp .ne 19, .aload 0, .dup, .getfield 802, .iconst 1, .iadd, .putfield 802, .goto 0, .aload 0, .getfield 802, .aload 0, .getfield 801, .if_icmp .ge 32, .aload 0, .getfield 800, .aload 0, .getfield 802, .baload, .iconst 255, .iand, .goto 33, .iconst (-1), .ireturn]
def kc_Tape_fail : List Instr := [.aload 0, .getfield 803, .ifCond .ne 13, .aload 0, .iconst 1, .iconst 8, .aload 0, .getfield 802, .imul, .iadd, .iload 1, .iadd, .putfield 803, .return_]
def kc_Tape_takeWord : List Instr := [.aload 0, .aload 1, .invokevirtual 22, .ifCond .ne 6, .iconst 0, .ireturn, .aload 0, .dup, .getfield 802, .aload 1, .fsub, .iadd, .putfield 802, .iconst 1, .ireturn]
def kc_TownText_readPass : List Instr := [.aload 0, .ldc 1, .invokevirtual 25, .istore 2, .iload 2, .ifCond .ne 12, .aload 0, .ldc 2, .invokevirtual 25, .ifCond .ne 12, .iconst 0, .ireturn, .aload 0, .iconst 10, .invokevirtual 27, .istore 3, .iload 3, .ifCond .ge 20, .iconst 1, .ireturn, .iconst 2, .iload 3, .imul, .iload 2, .ifCond .eq 27, .iconst 1, .goto 28, .iconst 0, .iadd, .istore 4, .aload 1, .iload 4, .invokestatic 30, .ifCond .eq 39, .aload 0, .iconst 5, .invokevirtual 24, .iconst 1, .ireturn, .aload 0, .invokevirtual 31, .aload 1, .iload 4, .invokevirtual 32, .iload 2, .ifCond .eq 50, .aload 0, .aload 1, .iload 3, .invokestatic 33, .iconst 1, .ireturn]
def kc_Tape_seenNumber : List Instr := [.aload 0, .invokevirtual 28, .ifCond .ne 8, .aload 0, .iconst 0, .invokevirtual 24, .iconst (-1), .ireturn, .aload 0, .invokevirtual 29, .istore 2, .iconst 0, .istore 3, .aload 0, .getfield 802, .istore 4, .iload 4, .aload 0, .getfield 802, .iload 2, .iadd, .if_icmp .ge 45, .iload 4, .aload 0, .getfield 802, .iconst 5, .iadd, .if_icmp .ge 45, .iload 4, .aload 0, .getfield 801, .if_icmp .ge 45, .iconst 10, .iload 3, .imul, .aload 0, .getfield 800, .iload 4, .baload, .iadd, .iconst 48, .isub, .istore 3, .iinc 4 1, .goto 16, .iload 2, .iconst 5, .if_icmp .gt 51, .iload 3, .iload 1, .if_icmp .le 56, .aload 0, .iconst 1, .invokevirtual 24, .iconst (-1), .ireturn, .iload 3, .ireturn]
def kc_Tape_seesNumber : List Instr := [.aload 0, .invokevirtual 23, .istore 1, .iload 1, .iconst 48, .if_icmp .lt 11, .iload 1, .iconst 57, .if_icmp .gt 11, .iconst 1, .goto 12, .iconst 0, .ireturn]
def kc_Tape_digitsHere : List Instr := [.iconst 0, .istore 1, .aload 0, .getfield 802, .iload 1, .iadd, .aload 0, .getfield 801, .if_icmp .ge 29, .aload 0, .getfield 800, .aload 0, .getfield 802, .iload 1, .iadd, .baload, .iconst 48, .if_icmp .lt 29, .aload 0, .getfield 800, .aload 0, .getfield 802, .iload 1, .iadd, .baload, .iconst 57, .if_icmp .gt 29, .iinc 1 1, .goto 2, .iload 1, .ireturn]
def kc_TownText_isTold : List Instr := [.iconst 0, .istore 2, .iload 2, .aload 0, .getfield 902, .if_icmp .ge 16, .aload 0, .getfield 904, .iload 2, .iaload, .iload 1, .if_icmp .ne 14, .iconst 1, .ireturn, .iinc 2 1, .goto 2, .iconst 0, .ireturn]
def kc_Tape_skipNumber : List Instr := [.aload 0, .dup, .getfield 802, .aload 0, .invokevirtual 29, .iadd, .putfield 802, .return_]
def kc_Town_append : List Instr := [.aload 0, .getfield 902, .iconst 22, .if_icmp .ge 16, .aload 0, .getfield 904, .aload 0, .getfield 902, .iload 1, .iastore, .aload 0, .dup, .getfield 902, .iconst 1, .iadd, .putfield 902, .return_]
def kc_TownText_readHand : List Instr := [.aload 0, .iconst 43, .invokevirtual 34, .ifCond .eq 10, .aload 1, .getfield 905, .iload 2, .iconst 1, .iastore, .goto 23, .aload 0, .iconst 45, .invokevirtual 34, .ifCond .eq 20, .aload 1, .getfield 905, .iload 2, .iconst 0, .iastore, .goto 23, .aload 0, .iconst 0, .invokevirtual 24, .return_]
def kc_Tape_takeSign : List Instr := [.aload 0, .invokevirtual 23, .iload 1, .if_icmp .eq 6, .iconst 0, .ireturn, .aload 0, .dup, .getfield 802, .iconst 1, .iadd, .putfield 802, .iconst 1, .ireturn]
def kc_Tape_atEnd : List Instr := [.aload 0, .getfield 802, .aload 0, .getfield 801, .if_icmp .lt 7, .iconst 1, .goto 8, .iconst 0, .ireturn]
def kc_Town_bridges : List Instr := [.aload 0, .getfield 903, .invokestatic 37, .ireturn]
def kc_Integer_bitCount : List Instr := [.iload 0, .iload 0, .iconst 1, .iushr, .iconst 1431655765, .iand, .isub, .istore 0, .iload 0, .iconst 858993459, .iand, .iload 0, .iconst 2, .iushr, .iconst 858993459, .iand, .iadd, .istore 0, .iload 0, .iload 0, .iconst 4, .iushr, .iadd, .iconst 252645135, .iand, .istore 0, .iload 0, .iload 0, .iconst 8, .iushr, .iadd, .istore 0, .iload 0, .iload 0, .iconst 16, .iushr, .iadd, .istore 0, .iload 0, .iconst 63, .iand, .ireturn]
def kc_Land_survey : List Instr := [.aload 0, .iconst 0, .putfield 300, .aload 0, .iconst 0, .putfield 301, .aload 0, .iconst 0, .putfield 302, .aload 0, .iconst 0, .putfield 303, .aload 0, .iconst 0, .putfield 306, .iconst 0, .istore 2, .iload 2, .iconst 11, .if_icmp .ge 30, .aload 1, .iload 2, .invokevirtual 39, .ifCond .eq 28, .aload 0, .aload 1, .iload 2, .invokevirtual 40, .iinc 2 1, .goto 17, .sipush 0, .lstore 2, .iconst 0, .istore 4, .iload 4, .iconst 2, .aload 1, .getfield 902, .imul, .if_icmp .ge 100, .lload 2, .iload 4, .lshr, .sipush 1, .land, .sipush 0, .lcmp, .ifCond .ne 98, .aload 0, .iload 4, .invokevirtual 46, .lstore 5, .lload 5, .invokestatic 47, .istore 7, .lload 2, .lload 5, .lor, .lstore 2, .aload 0, .dup, .getfield 300, .iconst 1, .iadd, .putfield 300, .aload 0, .aload 0, .getfield 301, .iload 7, .invokestatic 48, .putfield 301, .iload 7, .iconst 2, .if_icmp .ne 85, .aload 0, .dup, .getfield 302, .iconst 1, .iadd, .putfield 302, .aload 0, .aload 1, .iload 4, .invokevirtual 49, .goto 98, .iload 7, .iconst 3, .if_icmp .ne 98, .aload 0, .dup, .getfield 303, .iconst 1, .iadd, .putfield 303, .aload 0, .aload 1, .iload 4, .invokevirtual 55, .iinc 4 1, .goto 34, .return_]
def kc_Town_has : List Instr := [.iload 1, .ifCond .lt 23, .iload 1, .iconst 11, .if_icmp .ge 23, .aload 0, .getfield 908, .iconst 2, .iload 1, .imul, .iaload, .ifCond .lt 23, .aload 0, .getfield 908, .iconst 2, .iload 1, .imul, .iconst 1, .iadd, .iaload, .ifCond .lt 23, .iconst 1, .goto 24, .iconst 0, .ireturn]
def kc_Land_lookRound : List Instr := [.aload 1, .iload 2, .invokevirtual 41, .istore 3, .aload 1, .iload 2, .invokevirtual 42, .istore 4, .iconst 2, .aload 1, .getfield 907, .iload 3, .iaload, .imul, .iconst 1, .iadd, .istore 5, .iconst 2, .aload 1, .getfield 907, .iload 4, .iaload, .imul, .iconst 1, .iadd, .istore 6, .aload 1, .getfield 905, .iload 2, .iaload, .iconst 1, .if_icmp .ne 34, .iconst 1, .goto 35, .iconst 0, .istore 7, .iload 7, .ifCond .eq 42, .iconst 2, .iload 4, .imul, .goto 43, .iload 6, .istore 8, .iload 7, .ifCond .eq 48, .iload 6, .goto 51, .iconst 2, .iload 4, .imul, .istore 9, .aload 0, .getfield 307, .iconst 2, .iload 3, .imul, .iload 8, .iastore, .aload 0, .getfield 307, .iload 8, .iload 5, .iastore, .aload 0, .getfield 307, .iload 5, .iload 9, .iastore, .aload 0, .getfield 307, .iload 9, .iconst 2, .iload 3, .imul, .iastore, .aload 1, .getfield 906, .iload 3, .iaload, .iload 4, .if_icmp .eq 88, .aload 1, .getfield 906, .iload 4, .iaload, .iload 3, .if_icmp .ne 93, .aload 0, .iload 2, .invokestatic 43, .iconst 0, .invokevirtual 44, .return_]
def kc_Town_overAt : List Instr := [.aload 0, .getfield 908, .iconst 2, .iload 1, .imul, .iconst 1, .iadd, .iaload, .ireturn]
def kc_Town_underAt : List Instr := [.aload 0, .getfield 908, .iconst 2, .iload 1, .imul, .iaload, .ireturn]
def kc_Land_offKey : List Instr := [.iconst 4096, .iload 0, .iconst 8, .ishl, .ior, .iconst 240, .ior, .iconst 15, .ior, .ireturn]
def kc_Land_list : List Instr := [.aload 0, .getfield 306, .iconst 48, .if_icmp .ge 8, .aload 0, .iload 1, .invokevirtual 45, .ifCond .lt 9, .return_, .aload 0, .getfield 306, .istore 3, .iload 3, .ifCond .le 44, .aload 0, .getfield 304, .iload 3, .iconst 1, .isub, .iaload, .iload 1, .if_icmp .le 44, .aload 0, .getfield 304, .iload 3, .aload 0, .getfield 304, .iload 3, .iconst 1, .isub, .iaload, .iastore, .aload 0, .getfield 305, .iload 3, .aload 0, .getfield 305, .iload 3, .iconst 1, .isub, .iaload, .iastore, .iinc 3 (-1), .goto 12, .aload 0, .getfield 304, .iload 3, .iload 1, .iastore, .aload 0, .getfield 305, .iload 3, .iload 2, .iastore, .aload 0, .dup, .getfield 306, .iconst 1, .iadd, .putfield 306, .return_]
def kc_Land_indexOfMove : List Instr := [.iconst 0, .istore 2, .iload 2, .aload 0, .getfield 306, .if_icmp .ge 16, .aload 0, .getfield 304, .iload 2, .iaload, .iload 1, .if_icmp .ne 14, .iload 2, .ireturn, .iinc 2 1, .goto 2, .iconst (-1), .ireturn]
def kc_Land_roundFrom : List Instr := [.sipush 0, .lstore 2, .iload 1, .istore 4, .iconst 0, .istore 5, .iload 5, .iconst 44, .if_icmp .ge 32, .lload 2, .iload 4, .lshr, .sipush 1, .land, .sipush 0, .lcmp, .ifCond .ne 32, .lload 2, .sipush 1, .iload 4, .lshl, .lor, .lstore 2, .aload 0, .getfield 307, .iload 4, .iconst 1, .ixor, .iaload, .istore 4, .iinc 5 1, .goto 6, .lload 2, .lreturn]
def kc_Long_bitCount : List Instr := [.lload 0, .lload 0, .iconst 1, .lushr, .sipush 6148914691236517205, .land, .lsub, .lstore 0, .lload 0, .sipush 3689348814741910323, .land, .lload 0, .iconst 2, .lushr, .sipush 3689348814741910323, .land, .ladd, .lstore 0, .lload 0, .lload 0, .iconst 4, .lushr, .ladd, .sipush 1085102592571150095, .land, .lstore 0, .lload 0, .lload 0, .iconst 8, .lushr, .ladd, .lstore 0, .lload 0, .lload 0, .iconst 16, .lushr, .ladd, .lstore 0, .lload 0, .lload 0, .iconst 32, .lushr, .ladd, .lstore 0, .lload 0, .l2i, .iconst 127, .iand, .ireturn]
def kc_Math_max : List Instr := [.iload 0, .iload 1, .if_icmp .lt 5, .iload 0, .goto 6, .iload 1, .ireturn]
def kc_Land_listApart : List Instr := [.aload 1, .iload 2, .invokestatic 50, .istore 3, .aload 1, .iload 2, .iconst 1, .ixor, .invokestatic 50, .istore 4, .iconst 1, .aload 1, .iload 2, .invokestatic 51, .ishl, .iconst 1, .aload 1, .aload 0, .iload 2, .invokevirtual 52, .invokestatic 51, .ishl, .ior, .istore 5, .iload 3, .iload 4, .if_icmp .eq 36, .iload 5, .iconst 5, .if_icmp .ne 36, .aload 0, .iload 3, .iload 4, .invokestatic 53, .iload 2, .invokevirtual 44, .return_]
def kc_Land_bridgeAtEnd : List Instr := [.iload 1, .iconst 1, .ishr, .istore 2, .iload 1, .iconst 1, .iand, .ifCond .ne 10, .iload 2, .goto 14, .aload 0, .getfield 906, .iload 2, .iaload, .istore 3, .aload 0, .getfield 904, .iload 3, .iaload, .iconst 1, .ishr, .ireturn]
def kc_Land_timesOver : List Instr := [.iload 1, .iconst 1, .ishr, .istore 2, .aload 0, .getfield 904, .iload 2, .iaload, .iconst 1, .iand, .aload 0, .getfield 904, .aload 0, .getfield 906, .iload 2, .iaload, .iaload, .iconst 1, .iand, .iadd, .ireturn]
def kc_Land_stepFrom : List Instr := [.aload 0, .getfield 307, .iload 1, .iconst 1, .ixor, .iaload, .ireturn]
def kc_Land_apartKey : List Instr := [.iconst 8192, .iload 0, .iload 1, .invokestatic 54, .iconst 8, .ishl, .ior, .iload 0, .iload 1, .invokestatic 48, .iconst 4, .ishl, .ior, .iconst 15, .ior, .ireturn]
def kc_Math_min : List Instr := [.iload 0, .iload 1, .if_icmp .gt 5, .iload 0, .goto 6, .iload 1, .ireturn]
def kc_Land_listSlide : List Instr := [.aload 0, .iload 2, .invokevirtual 52, .istore 3, .aload 0, .iload 3, .invokevirtual 52, .istore 4, .aload 1, .iload 2, .invokestatic 50, .istore 5, .aload 1, .iload 3, .invokestatic 50, .istore 6, .aload 1, .iload 4, .invokestatic 50, .istore 7, .iconst 1, .aload 1, .iload 2, .invokestatic 51, .ishl, .iconst 1, .aload 1, .iload 3, .invokestatic 51, .ishl, .ior, .iconst 1, .aload 1, .iload 4, .invokestatic 51, .ishl, .ior, .istore 8, .iload 5, .iload 6, .if_icmp .eq 57, .iload 6, .iload 7, .if_icmp .eq 57, .iload 5, .iload 7, .if_icmp .eq 57, .iload 8, .iconst 7, .if_icmp .ne 57, .aload 0, .iload 5, .iload 6, .iload 7, .invokestatic 56, .iload 2, .invokevirtual 44, .return_]
def kc_Land_slideKey : List Instr := [.iload 0, .iload 1, .iload 2, .invokestatic 54, .invokestatic 54, .istore 3, .iload 0, .iload 1, .iload 2, .invokestatic 48, .invokestatic 48, .istore 4, .iload 0, .iload 1, .iadd, .iload 2, .iadd, .iload 3, .isub, .iload 4, .isub, .istore 5, .iconst 12288, .iload 3, .iconst 8, .ishl, .ior, .iload 5, .iconst 4, .ishl, .ior, .iload 4, .ior, .ireturn]
def kc_Town_groups : List Instr := [.aload 0, .iconst 0, .invokevirtual 58, .istore 1, .aload 0, .iconst 1, .invokevirtual 58, .istore 2, .iload 1, .ifCond .eq 12, .iload 2, .ifCond .ne 19, .iload 1, .iload 2, .if_icmp .ne 17, .iconst 0, .goto 18, .iconst 1, .ireturn, .iload 1, .iload 2, .iand, .ifCond .ne 25, .iconst 2, .goto 26, .iconst 1, .ireturn]
def kc_Town_met : List Instr := [.iconst 0, .istore 2, .aload 0, .iload 1, .invokevirtual 59, .istore 3, .iload 3, .aload 0, .iload 1, .invokevirtual 60, .if_icmp .ge 24, .iload 2, .iconst 1, .aload 0, .getfield 904, .iload 3, .iaload, .iconst 1, .ishr, .ishl, .ior, .istore 2, .iinc 3 1, .goto 6, .iload 2, .ireturn]
def kc_Town_roadStart : List Instr := [.iload 1, .ifCond .ne 4, .iconst 0, .goto 6, .aload 0, .getfield 901, .ireturn]
def kc_Town_roadEnd : List Instr := [.iload 1, .ifCond .ne 5, .aload 0, .getfield 901, .goto 7, .aload 0, .getfield 902, .ireturn]
def kc_Town_copyFrom : List Instr := [.aload 0, .aload 1, .getfield 900, .putfield 900, .aload 0, .aload 1, .getfield 901, .putfield 901, .aload 0, .aload 1, .getfield 902, .putfield 902, .aload 1, .getfield 904, .iconst 0, .aload 0, .getfield 904, .iconst 0, .iconst 22, .fadd, .aload 1, .getfield 905, .iconst 0, .aload 0, .getfield 905, .iconst 0, .iconst 11, .fadd, .aload 0, .invokevirtual 18, .return_]
def kc_KT_forget : List Instr := [.aload 0, .getfield 1005, .invokevirtual 63, .aload 0, .getfield 1006, .iconst 0, .putfield 100, .return_]
def kc_Search_forget : List Instr := [.aload 0, .iconst 0, .putfield 616, .aload 0, .iconst 0, .putfield 618, .return_]
def kc_KT_rule : List Instr := [.aload 0, .getfield 1011, .iconst 6, .if_icmp .lt 6, .iconst (-1), .ireturn, .aload 0, .getfield 1009, .aload 0, .getfield 1000, .invokevirtual 65, .astore 1, .aload 0, .getfield 1000, .iconst 0, .putfield 801, .aload 1, .ifnonnull 24, .iconst (-2), .aload 0, .getfield 1000, .getfield 803, .isub, .ireturn, .aload 0, .getfield 1010, .aload 0, .getfield 1011, .aload 1, .aastore, .aload 0, .dup, .getfield 1011, .iconst 1, .iadd, .putfield 1011, .aload 0, .getfield 1011, .iconst 1, .isub, .ireturn]
def kc_RuleText_read : List Instr := [.aload 0, .iconst 0, .putfield 501, .aload 0, .iconst 0, .putfield 502, .aload 0, .iconst 0, .putfield 503, .aload 1, .invokevirtual 20, .iconst 1, .istore 2, .iconst 0, .istore 3, .iload 3, .iconst 12, .if_icmp .gt 37, .iload 2, .ifCond .eq 37, .aload 0, .aload 1, .iload 3, .invokevirtual 66, .aload 1, .getfield 803, .ifCond .ne 33, .aload 1, .iconst 59, .invokevirtual 34, .ifCond .eq 33, .iconst 1, .goto 34, .iconst 0, .istore 2, .iinc 3 1, .goto 15, .aload 1, .invokevirtual 35, .ifCond .ne 43, .aload 1, .iconst 0, .invokevirtual 24, .aload 1, .getfield 803, .ifCond .ne 57, .new 4, .dup, .aload 0, .getfield 500, .aload 0, .getfield 501, .invokestatic 76, .aload 0, .getfield 503, .invokespecial 77, .goto 58, .aconst_null, .areturn]
def kc_RuleText_readClause : List Instr := [.aload 1, .ldc 3, .invokevirtual 22, .ifCond .ne 8, .aload 1, .iconst 0, .invokevirtual 24, .return_, .iload 2, .iconst 12, .if_icmp .ne 15, .aload 1, .iconst 4, .invokevirtual 24, .return_, .aload 1, .ldc 3, .invokevirtual 25, .pop, .aload 0, .aload 1, .iconst 0, .iconst 0, .invokevirtual 67, .iload 2, .ifCond .le 29, .aload 0, .iconst (-21), .invokevirtual 71, .return_]
def kc_RuleText_readLevel : List Instr := [.iload 2, .iconst 2, .if_icmp .ne 8, .aload 0, .aload 1, .iload 3, .invokevirtual 68, .return_, .iload 2, .iconst 5, .if_icmp .ne 15, .aload 0, .aload 1, .invokevirtual 72, .return_, .aload 0, .aload 1, .iload 2, .iconst 1, .iadd, .iload 3, .invokevirtual 67, .aload 1, .iload 2, .invokestatic 75, .istore 4, .iconst 0, .istore 5, .iload 5, .iconst 400, .if_icmp .ge 49, .iload 4, .ifCond .eq 49, .aload 0, .aload 1, .iload 2, .iconst 1, .iadd, .iload 3, .invokevirtual 67, .aload 0, .iload 4, .invokevirtual 71, .aload 1, .iload 2, .invokestatic 75, .istore 4, .iinc 5 1, .goto 28, .return_]
def kc_RuleText_readFact : List Instr := [.aload 1, .ldc 4, .invokevirtual 22, .istore 3, .iload 3, .ifCond .ne 15, .aload 1, .invokevirtual 23, .iconst 91, .if_icmp .eq 15, .aload 0, .aload 1, .iload 2, .invokevirtual 69, .return_, .iload 2, .iconst 10, .if_icmp .lt 22, .aload 1, .iconst 2, .invokevirtual 24, .return_, .iload 3, .ifCond .eq 38, .aload 1, .ldc 4, .invokevirtual 25, .pop, .aload 0, .aload 1, .iload 2, .iconst 1, .iadd, .invokevirtual 68, .aload 0, .iconst (-22), .invokevirtual 71, .return_, .aload 1, .iconst 91, .invokevirtual 34, .pop, .aload 0, .aload 1, .iconst 0, .iload 2, .iconst 1, .iadd, .invokevirtual 67, .aload 1, .getfield 803, .ifCond .ne 59, .aload 1, .iconst 93, .invokevirtual 34, .ifCond .ne 59, .aload 1, .iconst 0, .invokevirtual 24, .return_]
def kc_RuleText_readComparison : List Instr := [.aload 0, .aload 1, .iconst 3, .iload 2, .invokevirtual 67, .aload 1, .getfield 803, .ifCond .eq 9, .return_, .aload 1, .invokestatic 70, .istore 3, .iload 3, .ifCond .ne 18, .aload 1, .iconst 0, .invokevirtual 24, .return_, .aload 0, .getfield 502, .iconst 60, .if_icmp .lt 26, .aload 1, .iconst 3, .invokevirtual 24, .return_, .aload 0, .dup, .getfield 502, .iconst 1, .iadd, .putfield 502, .aload 1, .dup, .getfield 802, .iload 3, .iconst (-16), .if_icmp .eq 41, .iload 3, .iconst (-18), .if_icmp .ne 43, .iconst 2, .goto 44, .iconst 1, .iadd, .putfield 802, .aload 0, .aload 1, .iconst 3, .iload 2, .invokevirtual 67, .aload 0, .iload 3, .invokevirtual 71, .return_]
def kc_RuleText_seenSign : List Instr := [.aload 0, .invokevirtual 23, .istore 1, .aload 0, .getfield 802, .iconst 1, .iadd, .aload 0, .getfield 801, .if_icmp .ge 21, .aload 0, .getfield 800, .aload 0, .getfield 802, .iconst 1, .iadd, .baload, .iconst 61, .if_icmp .ne 21, .iconst 1, .goto 22, .iconst 0, .istore 2, .iload 1, .tableswitch 39 60 62 #[27, 25, 33], .iconst (-17), .ireturn, .iload 2, .ifCond .eq 31, .iconst (-16), .goto 32, .iconst (-15), .ireturn, .iload 2, .ifCond .eq 37, .iconst (-18), .goto 38, .iconst (-19), .ireturn, .iconst 0, .ireturn]
def kc_RuleText_emit : List Instr := [.aload 0, .getfield 501, .aload 0, .getfield 500, .arraylength, .if_icmp .ge 18, .aload 0, .getfield 500, .aload 0, .getfield 501, .iload 1, .iastore, .aload 0, .dup, .getfield 501, .iconst 1, .iadd, .putfield 501, .return_]
def kc_RuleText_readValue : List Instr := [.aload 1, .invokevirtual 28, .istore 2, .iload 2, .ifCond .eq 7, .iconst (-1), .goto 9, .aload 1, .invokestatic 73, .istore 3, .iload 2, .ifCond .eq 16, .aload 1, .iconst 99999, .invokevirtual 27, .goto 19, .iconst (-1), .iload 3, .isub, .istore 4, .iload 2, .ifCond .ne 27, .iload 3, .ifCond .ge 27, .aload 1, .iconst 0, .invokevirtual 24, .aload 1, .getfield 803, .ifCond .ne 37, .aload 0, .getfield 502, .iconst 60, .if_icmp .lt 37, .aload 1, .iconst 3, .invokevirtual 24, .aload 1, .getfield 803, .ifCond .eq 41, .return_, .aload 0, .dup, .getfield 502, .iconst 1, .iadd, .putfield 502, .aload 0, .iload 4, .invokevirtual 71, .iload 2, .ifCond .eq 55, .aload 1, .invokevirtual 31, .goto 71, .aload 1, .iload 3, .invokestatic 74, .invokevirtual 25, .pop, .aload 0, .dup, .getfield 503, .iload 3, .iconst 6, .if_icmp .ne 68, .iconst 1, .goto 69, .iconst 0, .ior, .putfield 503, .return_]
def kc_RuleText_seenWord : List Instr := [.iconst 0, .istore 1, .iload 1, .iconst 8, .if_icmp .ge 14, .aload 0, .iload 1, .invokestatic 74, .invokevirtual 22, .ifCond .eq 12, .iload 1, .ireturn, .iinc 1 1, .goto 2, .iconst (-1), .ireturn]
def kc_RuleText_wordNamed : List Instr := [.iload 0, .tableswitch 16 0 6 #[2, 4, 6, 8, 10, 12, 14], .ldc 5, .areturn, .ldc 6, .areturn, .ldc 7, .areturn, .ldc 8, .areturn, .ldc 9, .areturn, .ldc 10, .areturn, .ldc 11, .areturn, .ldc 12, .areturn]
def kc_RuleText_takenJoint : List Instr := [.aload 0, .getfield 803, .ifCond .eq 5, .iconst 0, .ireturn, .iload 1, .tableswitch 37 0 3 #[7, 15, 37, 23], .aload 0, .ldc 13, .invokevirtual 25, .ifCond .eq 13, .iconst (-21), .goto 14, .iconst 0, .ireturn, .aload 0, .ldc 14, .invokevirtual 25, .ifCond .eq 21, .iconst (-20), .goto 22, .iconst 0, .ireturn, .aload 0, .iconst 43, .invokevirtual 34, .ifCond .eq 29, .iconst (-10), .goto 36, .aload 0, .iconst 45, .invokevirtual 34, .ifCond .eq 35, .iconst (-11), .goto 36, .iconst 0, .ireturn, .aload 0, .iconst 42, .invokevirtual 34, .ifCond .eq 43, .iconst (-12), .goto 56, .aload 0, .iconst 47, .invokevirtual 34, .ifCond .eq 49, .iconst (-13), .goto 56, .aload 0, .iconst 37, .invokevirtual 34, .ifCond .eq 55, .iconst (-14), .goto 56, .iconst 0, .ireturn]
def kc_Arrays_copyOf : List Instr := [.iload 1, .aload 0, .arraylength, .if_icmp .ne 8, .aload 0, .nop, .nop, .areturn, .iload 1, .newarray .int, .astore 2, .aload 0, .iconst 0, .aload 2, .iconst 0, .aload 0, .arraylength, .iload 1, .invokestatic 54, .fadd, .aload 2, .areturn]
def kc_Rule_init : List Instr := [.aload 0, .fneg, .aload 0, .aload 1, .putfield 400, .aload 0, .iload 2, .putfield 401, .return_]
def kc_KT_force : List Instr := [.iload 1, .iconst (-1), .if_icmp .lt 7, .iload 1, .aload 0, .getfield 1011, .if_icmp .lt 9, .iconst (-2), .ireturn, .aload 0, .getfield 1001, .getfield 702, .istore 2, .aload 0, .getfield 1001, .iload 1, .putfield 702, .iload 2, .ireturn]
def kc_KT_place : List Instr := [.aload 0, .getfield 1001, .getfield 700, .astore 3, .aload 3, .iload 1, .invokevirtual 80, .ifCond .ne 10, .iconst (-1), .ireturn, .iload 2, .tableswitch 45 0 4 #[12, 19, 26, 30, 35], .aload 3, .getfield 904, .iload 1, .iaload, .iconst 1, .ishr, .ireturn, .aload 3, .getfield 904, .iload 1, .iaload, .iconst 1, .iand, .ireturn, .aload 3, .iload 1, .invokevirtual 81, .ireturn, .aload 3, .getfield 906, .iload 1, .iaload, .ireturn, .aload 0, .getfield 1007, .aload 3, .invokevirtual 82, .aload 0, .getfield 1007, .getfield 1, .iload 1, .iaload, .ireturn, .iconst (-1), .ireturn]
def kc_Town_hasPlace : List Instr := [.iload 1, .ifCond .lt 8, .iload 1, .aload 0, .getfield 902, .if_icmp .ge 8, .iconst 1, .goto 9, .iconst 0, .ireturn]
def kc_Town_roadOf : List Instr := [.iload 1, .aload 0, .getfield 901, .if_icmp .ge 6, .iconst 0, .goto 7, .iconst 1, .ireturn]
def kc_Bows_find : List Instr := [.aload 0, .iconst 0, .putfield 0, .iconst 0, .istore 2, .iconst 0, .istore 3, .iload 3, .aload 1, .getfield 900, .if_icmp .ge 35, .iload 2, .aload 1, .iload 3, .invokevirtual 59, .aload 1, .iload 3, .invokevirtual 60, .if_icmp .ne 21, .iconst 1, .goto 22, .iconst 0, .iadd, .istore 2, .aload 0, .aload 1, .aload 1, .iload 3, .invokevirtual 59, .aload 1, .iload 3, .invokevirtual 60, .invokevirtual 83, .iinc 3 1, .goto 7, .aload 0, .dup, .getfield 0, .iload 2, .iadd, .putfield 0, .return_]
def kc_Bows_findOnRoad : List Instr := [.aload 0, .getfield 0, .istore 4, .iload 2, .istore 5, .iload 5, .iload 3, .if_icmp .ge 33, .aload 0, .dup, .getfield 0, .aload 1, .getfield 904, .iload 5, .iaload, .iconst 1, .iand, .ifCond .ne 20, .iconst 1, .goto 21, .iconst 0, .iadd, .putfield 0, .aload 0, .getfield 1, .iload 5, .aload 0, .getfield 0, .iconst 1, .isub, .iastore, .iinc 5 1, .goto 5, .aload 0, .getfield 0, .iload 4, .if_icmp .ne 46, .iload 2, .iload 3, .if_icmp .ge 46, .aload 0, .dup, .getfield 0, .iconst 1, .iadd, .putfield 0, .iload 2, .istore 5, .iload 5, .iload 3, .if_icmp .ge 67, .aload 0, .getfield 1, .iload 5, .iaload, .iload 4, .if_icmp .ge 67, .aload 0, .getfield 1, .iload 5, .aload 0, .getfield 0, .iconst 1, .isub, .iastore, .iinc 5 1, .goto 48, .return_]
def kc_KT_bridge : List Instr := [.aload 0, .getfield 1001, .getfield 700, .astore 3, .aload 3, .iload 1, .invokevirtual 39, .ifCond .ne 10, .iconst (-1), .ireturn, .iload 2, .tableswitch 25 0 2 #[12, 17, 21], .aload 3, .getfield 905, .iload 1, .iaload, .ireturn, .aload 3, .iload 1, .invokevirtual 41, .ireturn, .aload 3, .iload 1, .invokevirtual 42, .ireturn, .iconst (-1), .ireturn]
def kc_KT_land : List Instr := [.aload 0, .getfield 1001, .getfield 700, .getfield 900, .ifCond .ne 7, .iconst (-1), .ireturn, .aload 0, .getfield 1004, .aload 0, .getfield 1001, .getfield 700, .invokevirtual 38, .iload 1, .tableswitch 31 0 3 #[15, 19, 23, 27], .aload 0, .getfield 1004, .getfield 300, .ireturn, .aload 0, .getfield 1004, .getfield 301, .ireturn, .aload 0, .getfield 1004, .getfield 302, .ireturn, .aload 0, .getfield 1004, .getfield 303, .ireturn, .iconst (-1), .ireturn]
def kc_KT_off : List Instr := [.aload 0, .getfield 1001, .getfield 700, .iload 1, .invokevirtual 39, .ifCond .eq 13, .aload 0, .iload 1, .invokestatic 43, .invokevirtual 87, .ifCond .eq 13, .iconst 1, .goto 14, .iconst 0, .ireturn]
def kc_KT_moveBy : List Instr := [.aload 0, .getfield 1004, .aload 0, .getfield 1001, .getfield 700, .invokevirtual 38, .aload 0, .getfield 1004, .iload 1, .invokevirtual 45, .istore 2, .iload 2, .ifCond .ge 15, .iconst 0, .ireturn, .aload 0, .getfield 1004, .aload 0, .getfield 1001, .getfield 700, .iload 2, .invokevirtual 88, .aload 0, .getfield 1001, .getfield 700, .invokevirtual 18, .aload 0, .getfield 1001, .dup, .getfield 701, .iconst 1, .iadd, .putfield 701, .aload 0, .invokevirtual 62, .iconst 1, .ireturn]
def kc_Land_perform : List Instr := [.iload 2, .ifCond .lt 6, .iload 2, .aload 0, .getfield 306, .if_icmp .lt 7, .return_, .aload 0, .getfield 304, .iload 2, .iaload, .iconst 0, .invokestatic 89, .iconst 3, .if_icmp .eq 21, .aload 1, .aload 0, .iload 2, .invokevirtual 90, .invokevirtual 91, .return_, .aload 0, .aload 0, .getfield 305, .iload 2, .iaload, .invokevirtual 52, .istore 3, .aload 1, .aload 0, .getfield 305, .iload 2, .iaload, .iconst 1, .ishr, .invokevirtual 92, .aload 1, .iload 3, .iconst 1, .ishr, .invokevirtual 92, .aload 1, .aload 0, .iload 3, .invokevirtual 52, .iconst 1, .ishr, .invokevirtual 92, .return_]
def kc_Land_partOfMove : List Instr := [.iload 0, .iconst 4, .iconst 3, .iload 1, .isub, .imul, .ishr, .iconst 15, .iand, .istore 2, .iload 1, .ifCond .le 17, .iload 2, .iconst 15, .if_icmp .ne 17, .iconst (-1), .goto 18, .iload 2, .ireturn]
def kc_Land_gone : List Instr := [.iconst 0, .istore 2, .iload 1, .ifCond .lt 16, .iload 1, .aload 0, .getfield 306, .if_icmp .ge 16, .aload 0, .getfield 304, .iload 1, .iaload, .iconst 0, .invokestatic 89, .iconst 3, .if_icmp .ne 18, .iload 2, .ireturn, .iconst 1, .istore 3, .iload 3, .iconst 2, .if_icmp .gt 42, .aload 0, .getfield 304, .iload 1, .iaload, .iload 3, .invokestatic 89, .istore 4, .iload 2, .iload 4, .ifCond .ge 35, .iconst 0, .goto 38, .iconst 1, .iload 4, .ishl, .ior, .istore 2, .iinc 3 1, .goto 20, .iload 2, .ireturn]
def kc_Town_drop : List Instr := [.iconst 0, .istore 2, .iconst 0, .istore 3, .iconst 0, .istore 4, .iload 4, .aload 0, .getfield 902, .if_icmp .ge 42, .iload 1, .aload 0, .getfield 904, .iload 4, .iaload, .iconst 1, .ishr, .ishr, .iconst 1, .iand, .ifCond .ne 40, .aload 0, .getfield 904, .iload 2, .aload 0, .getfield 904, .iload 4, .iaload, .iastore, .iinc 2 1, .iload 3, .iload 4, .aload 0, .getfield 901, .if_icmp .ge 37, .iconst 1, .goto 38, .iconst 0, .iadd, .istore 3, .iinc 4 1, .goto 6, .aload 0, .iload 3, .putfield 901, .aload 0, .iload 2, .putfield 902, .return_]
def kc_Town_swapAlong : List Instr := [.aload 0, .iload 1, .invokevirtual 80, .ifCond .ne 5, .return_, .aload 0, .getfield 906, .iload 1, .iaload, .istore 2, .aload 0, .getfield 904, .iload 1, .iaload, .istore 3, .aload 0, .getfield 904, .iload 1, .aload 0, .getfield 904, .iload 2, .iaload, .iastore, .aload 0, .getfield 904, .iload 2, .iload 3, .iastore, .return_]
def kc_KT_apart : List Instr := [.aload 0, .getfield 1001, .getfield 700, .iload 1, .invokevirtual 39, .ifCond .eq 20, .aload 0, .getfield 1001, .getfield 700, .iload 2, .invokevirtual 39, .ifCond .eq 20, .aload 0, .iload 1, .iload 2, .invokestatic 53, .invokevirtual 87, .ifCond .eq 20, .iconst 1, .goto 21, .iconst 0, .ireturn]
def kc_KT_slide : List Instr := [.aload 0, .getfield 1001, .getfield 700, .iload 1, .invokevirtual 39, .ifCond .eq 27, .aload 0, .getfield 1001, .getfield 700, .iload 2, .invokevirtual 39, .ifCond .eq 27, .aload 0, .getfield 1001, .getfield 700, .iload 3, .invokevirtual 39, .ifCond .eq 27, .aload 0, .iload 1, .iload 2, .iload 3, .invokestatic 56, .invokevirtual 87, .ifCond .eq 27, .iconst 1, .goto 28, .iconst 0, .ireturn]
def kc_KT_change : List Instr := [.aload 0, .getfield 1001, .getfield 700, .astore 2, .aload 2, .iload 1, .invokevirtual 39, .ifCond .ne 10, .iconst (-1), .ireturn, .aload 2, .iload 1, .invokevirtual 96, .aload 2, .invokevirtual 18, .aload 0, .invokevirtual 62, .aload 2, .getfield 905, .iload 1, .iaload, .ireturn]
def kc_Town_flip : List Instr := [.aload 0, .iload 1, .invokevirtual 39, .ifCond .eq 54, .aload 0, .iload 1, .invokevirtual 41, .istore 2, .aload 0, .iload 1, .invokevirtual 42, .istore 3, .aload 0, .getfield 904, .iload 2, .iconst 2, .iload 1, .imul, .iastore, .aload 0, .getfield 904, .iload 3, .iconst 2, .iload 1, .imul, .iconst 1, .iadd, .iastore, .aload 0, .getfield 908, .iconst 2, .iload 1, .imul, .iload 2, .iastore, .aload 0, .getfield 908, .iconst 2, .iload 1, .imul, .iconst 1, .iadd, .iload 3, .iastore, .aload 0, .getfield 905, .iload 1, .iconst 1, .aload 0, .getfield 905, .iload 1, .iaload, .isub, .iastore, .return_]
def kc_KT_twist : List Instr := [.aload 0, .getfield 1001, .getfield 700, .astore 4, .aload 4, .invokevirtual 98, .istore 5, .aload 4, .iload 1, .invokevirtual 80, .ifCond .eq 14, .iload 5, .iconst 11, .if_icmp .lt 16, .iconst (-1), .ireturn, .aload 4, .getfield 905, .iload 5, .iload 3, .ifCond .eq 23, .iconst 1, .goto 24, .iconst 0, .iastore, .aload 4, .iload 1, .iconst 2, .iload 5, .imul, .iload 2, .ifCond .eq 34, .iconst 1, .goto 35, .iconst 0, .iadd, .invokevirtual 100, .aload 4, .invokevirtual 18, .aload 0, .invokevirtual 62, .iload 5, .ireturn]
def kc_Town_leastFree : List Instr := [.aload 0, .getfield 903, .iconst (-1), .ixor, .invokestatic 99, .ireturn]
def kc_Integer_numberOfTrailingZeros : List Instr := [.iload 0, .iconst (-1), .ixor, .iload 0, .iconst 1, .isub, .iand, .istore 0, .iload 0, .ifCond .gt 14, .iload 0, .iconst 32, .iand, .ireturn, .iconst 1, .istore 1, .iload 0, .iconst 65536, .if_icmp .le 24, .iinc 1 16, .iload 0, .iconst 16, .iushr, .istore 0, .iload 0, .iconst 256, .if_icmp .le 32, .iinc 1 8, .iload 0, .iconst 8, .iushr, .istore 0, .iload 0, .iconst 16, .if_icmp .le 40, .iinc 1 4, .iload 0, .iconst 4, .iushr, .istore 0, .iload 0, .iconst 4, .if_icmp .le 48, .iinc 1 2, .iload 0, .iconst 2, .iushr, .istore 0, .iload 1, .iload 0, .iconst 1, .iushr, .iadd, .ireturn]
def kc_Town_insert : List Instr := [.aload 0, .getfield 902, .iconst 2, .iadd, .iconst 22, .if_icmp .le 7, .return_, .aload 0, .getfield 902, .iconst 1, .isub, .istore 3, .iload 3, .iload 1, .if_icmp .le 27, .aload 0, .getfield 904, .iload 3, .iconst 2, .iadd, .aload 0, .getfield 904, .iload 3, .iaload, .iastore, .iinc 3 (-1), .goto 12, .aload 0, .getfield 904, .iload 1, .iconst 1, .iadd, .iload 2, .iastore, .aload 0, .getfield 904, .iload 1, .iconst 2, .iadd, .iload 2, .iconst 1, .ixor, .iastore, .aload 0, .dup, .getfield 901, .aload 0, .iload 1, .invokevirtual 81, .ifCond .ne 52, .iconst 2, .goto 53, .iconst 0, .iadd, .putfield 901, .aload 0, .dup, .getfield 902, .iconst 2, .iadd, .putfield 902, .return_]
def kc_KT_mirror : List Instr := [.aload 0, .getfield 1001, .getfield 700, .astore 1, .aload 1, .getfield 900, .ifCond .ne 9, .iconst (-1), .ireturn, .iconst 0, .istore 2, .iload 2, .iconst 11, .if_icmp .ge 23, .aload 1, .iload 2, .invokevirtual 39, .ifCond .eq 21, .aload 1, .iload 2, .invokevirtual 96, .iinc 2 1, .goto 11, .aload 1, .invokevirtual 18, .aload 0, .invokevirtual 62, .aload 1, .invokevirtual 36, .ireturn]
def kc_KT_backToFront : List Instr := [.aload 0, .getfield 1001, .getfield 700, .astore 2, .iload 1, .ifCond .lt 10, .iload 1, .aload 2, .getfield 900, .if_icmp .lt 12, .iconst (-1), .ireturn, .aload 2, .iload 1, .invokevirtual 103, .aload 2, .invokevirtual 18, .aload 0, .invokevirtual 62, .aload 2, .iload 1, .invokevirtual 60, .aload 2, .iload 1, .invokevirtual 59, .isub, .ireturn]
def kc_Town_reverse : List Instr := [.aload 0, .iconst 0, .invokevirtual 58, .aload 0, .iconst 1, .invokevirtual 58, .iand, .istore 2, .aload 0, .iload 1, .invokevirtual 59, .istore 3, .aload 0, .iload 1, .invokevirtual 60, .iconst 1, .isub, .istore 4, .iload 3, .iload 4, .if_icmp .ge 42, .aload 0, .getfield 904, .iload 3, .iaload, .istore 5, .aload 0, .getfield 904, .iload 3, .aload 0, .getfield 904, .iload 4, .iaload, .iastore, .aload 0, .getfield 904, .iload 4, .iload 5, .iastore, .iinc 3 1, .iinc 4 (-1), .goto 18, .iconst 0, .istore 3, .iload 3, .iconst 11, .if_icmp .ge 66, .iload 2, .iload 3, .ishr, .iconst 1, .iand, .iconst 1, .if_icmp .ne 64, .aload 0, .getfield 905, .iload 3, .iconst 1, .aload 0, .getfield 905, .iload 3, .iaload, .isub, .iastore, .iinc 3 1, .goto 44, .return_]
def kc_KT_can : List Instr := [.aload 0, .getfield 1001, .getfield 700, .getfield 900, .ifCond .eq 11, .iload 1, .iconst 1, .if_icmp .lt 11, .iload 1, .iconst 3, .if_icmp .le 13, .iconst (-1), .ireturn, .aload 0, .getfield 1004, .aload 0, .getfield 1001, .getfield 700, .invokevirtual 38, .aload 0, .getfield 1004, .iload 1, .invokevirtual 105, .ireturn]
def kc_Land_movesOfKind : List Instr := [.iconst 0, .istore 2, .iconst 0, .istore 3, .iload 3, .aload 0, .getfield 306, .if_icmp .ge 24, .iload 2, .aload 0, .getfield 304, .iload 3, .iaload, .iconst 0, .invokestatic 89, .iload 1, .if_icmp .ne 19, .iconst 1, .goto 20, .iconst 0, .iadd, .istore 2, .iinc 3 1, .goto 4, .iload 2, .ireturn]
def kc_KT_writhe : List Instr := [.aload 0, .getfield 1001, .getfield 700, .getfield 900, .ifCond .ne 7, .iconst (-1000), .goto 11, .aload 0, .getfield 1001, .getfield 700, .invokevirtual 107, .ireturn]
def kc_Town_handsTogether : List Instr := [.iconst 2, .aload 0, .invokevirtual 108, .imul, .aload 0, .invokevirtual 36, .isub, .ireturn]
def kc_Town_plusHands : List Instr := [.aload 0, .aload 0, .getfield 903, .invokevirtual 109, .ireturn]
def kc_Town_handsOf : List Instr := [.iconst 0, .istore 2, .iconst 0, .istore 3, .iload 3, .iconst 11, .if_icmp .ge 25, .iload 2, .iload 1, .iload 3, .ishr, .iconst 1, .iand, .iconst 1, .if_icmp .ne 20, .aload 0, .getfield 905, .iload 3, .iaload, .goto 21, .iconst 0, .iadd, .istore 2, .iinc 3 1, .goto 4, .iload 2, .ireturn]
def kc_KT_linked : List Instr := [.aload 0, .getfield 1001, .getfield 700, .getfield 900, .iconst 2, .if_icmp .ge 8, .iconst (-1000), .goto 14, .aload 0, .getfield 1001, .getfield 700, .invokevirtual 111, .iconst 2, .idiv, .ireturn]
def kc_Town_sharedHands : List Instr := [.aload 0, .iconst 0, .invokevirtual 58, .aload 0, .iconst 1, .invokevirtual 58, .iand, .istore 1, .iconst 2, .aload 0, .iload 1, .invokevirtual 109, .imul, .iload 1, .invokestatic 37, .isub, .ireturn]
def kc_KT_colours : List Instr := [.iload 1, .iconst 3, .if_icmp .eq 15, .iload 1, .iconst 5, .if_icmp .eq 15, .iload 1, .iconst 7, .if_icmp .eq 15, .iload 1, .iconst 11, .if_icmp .eq 15, .iload 1, .iconst 13, .if_icmp .ne 17, .iconst 1, .goto 18, .iconst 0, .istore 2, .iload 2, .ifCond .eq 26, .aload 0, .getfield 1001, .getfield 700, .getfield 900, .ifCond .ne 28, .sipush (-1), .lreturn, .aload 0, .getfield 1007, .aload 0, .getfield 1001, .getfield 700, .iload 1, .invokevirtual 113, .lreturn]
def kc_Bows_ways : List Instr := [.aload 0, .aload 1, .invokevirtual 114, .iconst 0, .istore 3, .iload 3, .aload 0, .getfield 3, .iconst 13, .imul, .if_icmp .ge 24, .aload 0, .getfield 2, .iload 3, .aload 0, .getfield 2, .iload 3, .laload, .iload 2, .i2l, .invokestatic 117, .lastore, .iinc 3 1, .goto 5, .iconst 0, .istore 3, .iconst 0, .istore 4, .iconst 0, .istore 5, .iload 5, .aload 0, .getfield 0, .if_icmp .ge 60, .iload 5, .iconst 13, .if_icmp .ge 60, .aload 0, .iload 4, .aload 0, .getfield 3, .iload 5, .invokevirtual 118, .istore 6, .iload 6, .ifCond .ge 48, .iinc 3 1, .goto 58, .aload 0, .iload 6, .iload 4, .invokevirtual 119, .aload 0, .iload 4, .iload 5, .iload 2, .invokevirtual 120, .iinc 4 1, .iinc 5 1, .goto 30, .sipush 1, .lstore 5, .iconst 0, .istore 7, .iload 7, .iload 3, .if_icmp .ge 74, .lload 5, .iload 2, .i2l, .lmul, .lstore 5, .iinc 7 1, .goto 64, .lload 5, .lreturn]
def kc_Bows_fill : List Instr := [.aload 0, .aload 1, .invokevirtual 82, .aload 0, .getfield 2, .sipush 0, .invokestatic 115, .aload 0, .iconst 0, .putfield 3, .iconst 0, .istore 2, .iload 2, .iconst 11, .if_icmp .ge 57, .aload 1, .iload 2, .invokevirtual 39, .ifCond .eq 55, .aload 1, .iload 2, .invokevirtual 42, .istore 3, .aload 0, .aload 0, .getfield 1, .aload 1, .iload 2, .invokevirtual 41, .iaload, .sipush 2, .invokevirtual 116, .aload 0, .aload 0, .getfield 1, .iload 3, .iaload, .sipush (-1), .invokevirtual 116, .aload 0, .aload 0, .getfield 1, .aload 1, .getfield 907, .iload 3, .iaload, .iaload, .sipush (-1), .invokevirtual 116, .aload 0, .dup, .getfield 3, .iconst 1, .iadd, .putfield 3, .iinc 2 1, .goto 12, .return_]
def kc_Arrays_fill_JJ : List Instr := [.iconst 0, .istore 3, .aload 0, .arraylength, .istore 4, .iload 3, .iload 4, .if_icmp .ge 14, .aload 0, .iload 3, .lload 1, .lastore, .iinc 3 1, .goto 5, .return_]
def kc_Bows_addTo : List Instr := [.iload 1, .ifCond .lt 18, .iload 1, .iconst 13, .if_icmp .ge 18, .aload 0, .getfield 2, .aload 0, .getfield 3, .iconst 13, .imul, .iload 1, .iadd, .dup2, .laload, .lload 2, .ladd, .lastore, .return_]
def kc_Math_floorMod : List Instr := [.lload 0, .lload 2, .lrem, .lstore 4, .lload 0, .lload 2, .lxor, .sipush 0, .lcmp, .ifCond .ge 18, .lload 4, .sipush 0, .lcmp, .ifCond .eq 18, .lload 4, .lload 2, .ladd, .lreturn, .lload 4, .lreturn]
def kc_Bows_pivot : List Instr := [.iload 1, .istore 4, .iload 4, .iload 2, .if_icmp .ge 20, .aload 0, .getfield 2, .iload 4, .iconst 13, .imul, .iload 3, .iadd, .laload, .sipush 0, .lcmp, .ifCond .eq 18, .iload 4, .ireturn, .iinc 4 1, .goto 2, .iconst (-1), .ireturn]
def kc_Bows_swapRows : List Instr := [.iconst 0, .istore 3, .iload 3, .iconst 13, .if_icmp .ge 41, .aload 0, .getfield 2, .iload 1, .iconst 13, .imul, .iload 3, .iadd, .laload, .lstore 4, .aload 0, .getfield 2, .iload 1, .iconst 13, .imul, .iload 3, .iadd, .aload 0, .getfield 2, .iload 2, .iconst 13, .imul, .iload 3, .iadd, .laload, .lastore, .aload 0, .getfield 2, .iload 2, .iconst 13, .imul, .iload 3, .iadd, .lload 4, .lastore, .iinc 3 1, .goto 2, .return_]
def kc_Bows_clearBelow : List Instr := [.aload 0, .getfield 2, .iload 1, .iconst 13, .imul, .iload 2, .iadd, .laload, .lstore 4, .iload 1, .iconst 1, .iadd, .istore 6, .iload 6, .aload 0, .getfield 3, .if_icmp .ge 73, .aload 0, .getfield 2, .iload 6, .iconst 13, .imul, .iload 2, .iadd, .laload, .lstore 7, .iconst 0, .istore 9, .iload 9, .iconst 13, .if_icmp .ge 71, .lload 7, .sipush 0, .lcmp, .ifCond .eq 71, .lload 4, .aload 0, .getfield 2, .iload 6, .iconst 13, .imul, .iload 9, .iadd, .laload, .lmul, .lload 7, .aload 0, .getfield 2, .iload 1, .iconst 13, .imul, .iload 9, .iadd, .laload, .lmul, .lsub, .lstore 10, .aload 0, .getfield 2, .iload 6, .iconst 13, .imul, .iload 9, .iadd, .lload 10, .iload 3, .i2l, .invokestatic 117, .lastore, .iinc 9 1, .goto 28, .iinc 6 1, .goto 13, .return_]
def kc_KT_determinant : List Instr := [.aload 0, .getfield 1001, .getfield 700, .getfield 900, .ifCond .ne 7, .sipush (-1), .goto 13, .aload 0, .getfield 1007, .aload 0, .getfield 1001, .getfield 700, .invokevirtual 122, .lreturn]
def kc_Bows_minor : List Instr := [.aload 0, .aload 1, .invokevirtual 114, .aload 0, .getfield 0, .aload 0, .getfield 3, .iconst 2, .iadd, .if_icmp .lt 12, .sipush 0, .lreturn, .aload 0, .getfield 0, .iconst 1, .isub, .istore 2, .iload 2, .ifCond .gt 21, .sipush 1, .lreturn, .sipush 1, .lstore 3, .iconst 0, .istore 5, .iload 5, .iload 2, .iconst 1, .isub, .if_icmp .ge 64, .aload 0, .iload 5, .iload 2, .iload 5, .invokevirtual 118, .istore 6, .iload 6, .ifCond .lt 42, .lload 3, .sipush 0, .lcmp, .ifCond .ne 44, .sipush 0, .lreturn, .aload 0, .iload 6, .iload 5, .invokevirtual 119, .aload 0, .iload 5, .iload 2, .lload 3, .invokevirtual 123, .aload 0, .getfield 2, .iload 5, .iconst 13, .imul, .iload 5, .iadd, .laload, .lstore 3, .iinc 5 1, .goto 25, .aload 0, .getfield 2, .iload 2, .iconst 1, .isub, .iconst 13, .imul, .iload 2, .iadd, .iconst 1, .isub, .laload, .invokestatic 124, .lreturn]
def kc_Bows_reduceBelow : List Instr := [.iload 1, .iconst 1, .iadd, .istore 5, .iload 5, .iload 2, .if_icmp .ge 69, .lload 3, .sipush 0, .lcmp, .ifCond .eq 69, .iload 1, .iconst 1, .iadd, .istore 6, .iload 6, .iload 2, .if_icmp .ge 67, .aload 0, .getfield 2, .iload 5, .iconst 13, .imul, .iload 6, .iadd, .laload, .aload 0, .getfield 2, .iload 1, .iconst 13, .imul, .iload 1, .iadd, .laload, .lmul, .aload 0, .getfield 2, .iload 5, .iconst 13, .imul, .iload 1, .iadd, .laload, .aload 0, .getfield 2, .iload 1, .iconst 13, .imul, .iload 6, .iadd, .laload, .lmul, .lsub, .lstore 7, .aload 0, .getfield 2, .iload 5, .iconst 13, .imul, .iload 6, .iadd, .lload 7, .lload 3, .ldiv, .lastore, .iinc 6 1, .goto 15, .iinc 5 1, .goto 4, .return_]
def kc_Math_abs : List Instr := [.lload 0, .sipush 0, .lcmp, .ifCond .ge 7, .lload 0, .lneg, .goto 8, .lload 0, .lreturn]
def kc_KT_polynomial : List Instr := [.aload 0, .getfield 1001, .getfield 700, .getfield 900, .ifCond .eq 10, .iload 1, .ifCond .lt 10, .iload 1, .iconst 1, .if_icmp .le 12, .iconst 0, .ireturn, .aload 0, .getfield 1006, .aload 0, .getfield 1001, .getfield 700, .invokevirtual 126, .iload 1, .ifCond .ne 25, .aload 0, .getfield 1006, .iload 2, .invokevirtual 132, .goto 33, .aload 0, .getfield 1006, .iload 2, .aload 0, .getfield 1001, .getfield 700, .invokevirtual 107, .invokevirtual 133, .ireturn]
def kc_Bracket_prepare : List Instr := [.aload 0, .getfield 100, .ifCond .eq 4, .return_, .aload 0, .getfield 101, .iconst 0, .invokestatic 5, .aload 0, .getfield 102, .iconst 0, .invokestatic 5, .iconst 0, .istore 2, .iload 2, .iconst 44, .if_icmp .ge 26, .aload 0, .getfield 103, .iload 2, .iload 2, .iconst 1, .ixor, .iastore, .iinc 2 1, .goto 14, .aload 0, .aload 1, .iconst 0, .iconst 0, .aload 1, .iconst 0, .invokestatic 127, .aload 1, .iconst 1, .invokestatic 127, .iadd, .invokestatic 128, .iconst 0, .istore 2, .iload 2, .aload 1, .invokevirtual 36, .if_icmp .gt 72, .iconst 1, .istore 3, .iload 3, .iconst 16, .if_icmp .ge 70, .aload 0, .iconst 2, .iload 2, .imul, .aload 1, .invokevirtual 36, .isub, .iload 3, .iconst 1, .isub, .aload 0, .getfield 102, .iload 2, .iconst 16, .imul, .iload 3, .iadd, .iaload, .invokevirtual 131, .iinc 3 1, .goto 46, .iinc 2 1, .goto 40, .aload 0, .iconst 1, .putfield 100, .return_]
def kc_Bracket_alone : List Instr := [.iload 1, .aload 0, .getfield 900, .if_icmp .ge 13, .aload 0, .iload 1, .invokevirtual 59, .aload 0, .iload 1, .invokevirtual 60, .if_icmp .ne 13, .iconst 1, .goto 14, .iconst 0, .ireturn]
def kc_Bracket_cut : List Instr := [.iload 2, .iconst 11, .if_icmp .lt 19, .iload 4, .iconst 16, .if_icmp .ge 18, .aload 0, .getfield 102, .iload 3, .iconst 16, .imul, .iload 4, .iadd, .dup2, .iaload, .iconst 1, .iadd, .iastore, .return_, .aload 1, .iload 2, .invokevirtual 39, .ifCond .ne 32, .aload 0, .aload 1, .iload 2, .iconst 1, .iadd, .iload 3, .iload 4, .invokestatic 128, .return_, .aload 1, .getfield 905, .iload 2, .iaload, .istore 5, .iconst 2, .aload 1, .iload 2, .invokevirtual 41, .imul, .istore 6, .iconst 2, .aload 1, .iload 2, .invokevirtual 42, .imul, .istore 7, .iconst 2, .aload 1, .getfield 907, .iload 6, .iconst 1, .ishr, .iaload, .imul, .iconst 1, .iadd, .istore 8, .iconst 2, .aload 1, .getfield 907, .iload 7, .iconst 1, .ishr, .iaload, .imul, .iconst 1, .iadd, .istore 9, .aload 0, .iload 8, .iload 7, .invokevirtual 129, .aload 0, .iload 9, .iload 6, .invokevirtual 129, .iadd, .istore 10, .aload 0, .aload 1, .iload 2, .iconst 1, .iadd, .iload 3, .iload 5, .iadd, .iload 4, .iload 10, .iadd, .invokestatic 128, .aload 0, .iload 9, .iload 6, .invokevirtual 130, .aload 0, .iload 8, .iload 7, .invokevirtual 130, .aload 0, .iload 8, .iload 9, .invokevirtual 129, .aload 0, .iload 6, .iload 7, .invokevirtual 129, .iadd, .istore 10, .aload 0, .aload 1, .iload 2, .iconst 1, .iadd, .iload 3, .iconst 1, .iadd, .iload 5, .isub, .iload 4, .iload 10, .iadd, .invokestatic 128, .aload 0, .iload 6, .iload 7, .invokevirtual 130, .aload 0, .iload 8, .iload 9, .invokevirtual 130, .return_]
def kc_Bracket_tie : List Instr := [.aload 0, .getfield 103, .iload 1, .iaload, .istore 3, .aload 0, .getfield 103, .iload 2, .iaload, .istore 4, .iload 3, .iload 2, .if_icmp .ne 15, .iconst 1, .ireturn, .aload 0, .getfield 103, .iload 3, .iload 4, .iastore, .aload 0, .getfield 103, .iload 4, .iload 3, .iastore, .iconst 0, .ireturn]
def kc_Bracket_untie : List Instr := [.aload 0, .getfield 103, .iload 1, .iaload, .istore 3, .aload 0, .getfield 103, .iload 2, .iaload, .istore 4, .aload 0, .getfield 103, .iload 3, .iload 1, .iastore, .aload 0, .getfield 103, .iload 4, .iload 2, .iastore, .return_]
def kc_Bracket_addUp : List Instr := [.iload 2, .iconst 1, .iand, .ifCond .ne 6, .iload 3, .goto 8, .iload 3, .ineg, .istore 4, .iconst 0, .istore 5, .iload 5, .iload 2, .if_icmp .gt 55, .iload 4, .ifCond .eq 55, .iload 1, .iconst 2, .iload 2, .imul, .iadd, .iconst 4, .iload 5, .imul, .isub, .iconst 99, .iadd, .istore 6, .iload 6, .ifCond .lt 43, .iload 6, .aload 0, .getfield 101, .arraylength, .if_icmp .ge 43, .aload 0, .getfield 101, .iload 6, .dup2, .iaload, .iload 4, .iadd, .iastore, .iload 4, .iload 2, .iload 5, .isub, .imul, .iload 5, .iconst 1, .iadd, .idiv, .istore 4, .iinc 5 1, .goto 11, .return_]
def kc_Bracket_numberAt : List Instr := [.iload 1, .iconst (-99), .if_icmp .lt 6, .iload 1, .iconst 99, .if_icmp .le 8, .iconst 0, .goto 14, .aload 0, .getfield 101, .iload 1, .iconst 99, .iadd, .iaload, .ireturn]
def kc_Bracket_jonesAt : List Instr := [.iload 1, .iconst (-99), .if_icmp .lt 6, .iload 1, .iconst 99, .if_icmp .le 8, .iconst 0, .ireturn, .aload 0, .iload 1, .iconst 3, .iload 2, .imul, .iadd, .invokevirtual 132, .istore 3, .iload 2, .iconst 1, .iand, .ifCond .ne 22, .iload 3, .goto 24, .iload 3, .ineg, .ireturn]
def kc_KT_shaken : List Instr := [.aload 0, .getfield 1001, .getfield 700, .getfield 900, .ifCond .ne 7, .iconst (-1), .goto 13, .aload 0, .getfield 1005, .aload 0, .getfield 1001, .getfield 700, .invokevirtual 135, .ireturn]
def kc_Search_fewestMoves : List Instr := [.aload 0, .getfield 616, .ifCond .ne 11, .aload 0, .aload 0, .aload 1, .invokevirtual 136, .putfield 615, .aload 0, .iconst 1, .putfield 616, .aload 0, .getfield 615, .ireturn]
def kc_Search_shake : List Instr := [.aload 1, .getfield 902, .ifCond .ne 5, .iconst 0, .ireturn, .aload 0, .getfield 605, .iconst 0, .invokestatic 137, .aload 0, .getfield 606, .aload 1, .invokevirtual 61, .aload 0, .iconst 0, .putfield 609, .aload 0, .iconst 0, .invokevirtual 138, .aload 0, .aload 0, .invokevirtual 139, .iconst (-1), .iconst 0, .invokevirtual 140, .iconst 0, .istore 2, .iload 2, .aload 0, .getfield 609, .if_icmp .ge 55, .iload 2, .iconst 300, .if_icmp .ge 55, .aload 0, .iload 2, .invokevirtual 141, .istore 3, .iload 3, .iconst (-2), .if_icmp .eq 53, .iload 3, .iconst (-3), .if_icmp .ne 46, .iconst (-3), .goto 52, .aload 0, .aload 0, .getfield 613, .invokevirtual 144, .iconst 1, .iadd, .ireturn, .iinc 2 1, .goto 27, .iconst (-2), .ireturn]
def kc_Arrays_fill_SS : List Instr := [.iconst 0, .istore 2, .aload 0, .arraylength, .istore 3, .iload 2, .iload 3, .if_icmp .ge 14, .aload 0, .iload 2, .iload 1, .sastore, .iinc 2 1, .goto 5, .return_]
def kc_Search_pack : List Instr := [.aload 0, .sipush 0, .putfield 610, .aload 0, .sipush 0, .putfield 611, .aload 0, .iconst 0, .putfield 612, .iconst 0, .istore 2, .iconst 0, .istore 3, .iload 3, .aload 0, .getfield 606, .getfield 902, .if_icmp .ge 80, .aload 0, .getfield 606, .getfield 904, .iload 3, .iaload, .istore 4, .iload 1, .iload 4, .iconst 1, .ishr, .ishr, .iconst 1, .iand, .ifCond .ne 78, .iload 2, .iconst 12, .if_icmp .ge 49, .aload 0, .dup, .getfield 610, .iload 4, .i2l, .sipush 1, .ladd, .iconst 5, .iload 2, .imul, .lshl, .lor, .putfield 610, .goto 64, .aload 0, .dup, .getfield 611, .iload 4, .i2l, .sipush 1, .ladd, .iconst 5, .iload 2, .iconst 12, .isub, .imul, .lshl, .lor, .putfield 611, .iinc 2 1, .aload 0, .dup, .getfield 612, .iload 3, .aload 0, .getfield 606, .getfield 901, .if_icmp .ge 75, .iconst 1, .goto 76, .iconst 0, .iadd, .putfield 612, .iinc 3 1, .goto 13, .return_]
def kc_Search_freeSlot : List Instr := [.aload 0, .getfield 610, .sipush 31, .lmul, .aload 0, .getfield 611, .ladd, .sipush (-7046029254386353131), .lmul, .lstore 1, .lload 1, .iconst 54, .lushr, .l2i, .iconst 1023, .iand, .istore 3, .iconst 0, .istore 4, .iload 4, .iconst 1024, .if_icmp .ge 64, .aload 0, .getfield 605, .iload 3, .saload, .ifCond .le 64, .aload 0, .getfield 605, .iload 3, .saload, .iconst 1, .isub, .istore 5, .iload 5, .aload 0, .getfield 609, .if_icmp .ge 56, .aload 0, .getfield 600, .iload 5, .laload, .aload 0, .getfield 610, .lcmp, .ifCond .ne 56, .aload 0, .getfield 601, .iload 5, .laload, .aload 0, .getfield 611, .lcmp, .ifCond .ne 56, .iconst (-1), .ireturn, .iload 3, .iconst 1, .iadd, .iconst 1023, .iand, .istore 3, .iinc 4 1, .goto 19, .iload 3, .ireturn]
def kc_Search_add : List Instr := [.iload 1, .ifCond .lt 6, .aload 0, .getfield 609, .iconst 300, .if_icmp .lt 7, .return_, .aload 0, .getfield 600, .aload 0, .getfield 609, .aload 0, .getfield 610, .lastore, .aload 0, .getfield 601, .aload 0, .getfield 609, .aload 0, .getfield 611, .lastore, .aload 0, .getfield 602, .aload 0, .getfield 609, .aload 0, .getfield 612, .i2s, .sastore, .aload 0, .getfield 603, .aload 0, .getfield 609, .iload 2, .i2s, .sastore, .aload 0, .getfield 604, .aload 0, .getfield 609, .iload 3, .i2s, .sastore, .aload 0, .dup, .getfield 609, .iconst 1, .iadd, .putfield 609, .aload 0, .getfield 605, .iload 1, .aload 0, .getfield 609, .i2s, .sastore, .return_]
def kc_Search_goOnFrom : List Instr := [.aload 0, .iload 1, .invokevirtual 142, .aload 0, .getfield 608, .aload 0, .getfield 606, .invokevirtual 38, .iconst 0, .istore 2, .iload 2, .aload 0, .getfield 608, .getfield 306, .if_icmp .ge 59, .aload 0, .iload 2, .invokevirtual 143, .aload 0, .getfield 610, .sipush 0, .lcmp, .ifCond .ne 35, .aload 0, .iload 1, .putfield 613, .aload 0, .aload 0, .getfield 608, .getfield 304, .iload 2, .iaload, .putfield 614, .iconst 0, .ireturn, .aload 0, .invokevirtual 139, .istore 3, .iload 3, .ifCond .lt 46, .aload 0, .getfield 609, .iconst 300, .if_icmp .lt 46, .iconst (-3), .ireturn, .iload 3, .ifCond .lt 57, .aload 0, .iload 3, .iload 1, .aload 0, .getfield 608, .getfield 304, .iload 2, .iaload, .invokevirtual 140, .iinc 2 1, .goto 10, .iconst (-2), .ireturn]
def kc_Search_unpack : List Instr := [.aload 0, .getfield 606, .iconst 0, .putfield 902, .iconst 0, .istore 2, .iload 2, .iconst 22, .if_icmp .ge 50, .iload 2, .iconst 12, .if_icmp .ge 21, .aload 0, .getfield 600, .iload 1, .laload, .iconst 5, .iload 2, .imul, .lshr, .goto 31, .aload 0, .getfield 601, .iload 1, .laload, .iconst 5, .iload 2, .iconst 12, .isub, .imul, .lshr, .lstore 3, .lload 3, .sipush 31, .land, .l2i, .iconst 1, .isub, .istore 5, .iload 5, .ifCond .lt 48, .iload 5, .iconst 22, .if_icmp .ge 48, .aload 0, .getfield 606, .iload 5, .invokevirtual 32, .iinc 2 1, .goto 6, .aload 0, .getfield 606, .aload 0, .getfield 602, .iload 1, .saload, .putfield 901, .aload 0, .getfield 606, .invokevirtual 18, .return_]
def kc_Search_packBehind : List Instr := [.aload 0, .getfield 608, .iload 1, .invokevirtual 90, .istore 2, .iload 2, .ifCond .eq 11, .aload 0, .iload 2, .invokevirtual 138, .return_, .aload 0, .getfield 608, .aload 0, .getfield 606, .iload 1, .invokevirtual 88, .aload 0, .iconst 0, .invokevirtual 138, .aload 0, .getfield 608, .aload 0, .getfield 606, .iload 1, .invokevirtual 88, .return_]
def kc_Search_depthOf : List Instr := [.iconst 0, .istore 2, .iload 1, .istore 3, .iconst 0, .istore 4, .iload 4, .iconst 300, .if_icmp .ge 23, .iload 3, .ifCond .le 23, .iload 3, .aload 0, .getfield 609, .if_icmp .ge 23, .aload 0, .getfield 603, .iload 3, .saload, .istore 3, .iinc 2 1, .iinc 4 1, .goto 6, .iload 2, .ireturn]
def kc_KT_row : List Instr := [.aload 0, .getfield 1001, .getfield 700, .getfield 900, .ifCond .eq 12, .iload 1, .ifCond .lt 12, .iload 2, .ifCond .lt 12, .iload 2, .iconst 3, .if_icmp .le 14, .iconst (-1), .ireturn, .aload 0, .getfield 1005, .aload 0, .getfield 1001, .getfield 700, .invokevirtual 135, .istore 3, .iload 3, .ifCond .ge 25, .iload 3, .ireturn, .iload 1, .iload 3, .if_icmp .lt 30, .iconst (-2), .goto 36, .aload 0, .getfield 1005, .iload 1, .invokevirtual 146, .iload 2, .invokestatic 89, .ireturn]
def kc_Search_moveOfRow : List Instr := [.aload 0, .getfield 614, .istore 2, .aload 0, .getfield 613, .istore 3, .aload 0, .getfield 615, .iconst 1, .isub, .istore 4, .iload 4, .iload 1, .if_icmp .le 32, .iload 3, .ifCond .lt 32, .iload 3, .aload 0, .getfield 609, .if_icmp .ge 32, .aload 0, .getfield 604, .iload 3, .saload, .istore 2, .aload 0, .getfield 603, .iload 3, .saload, .istore 3, .iinc 4 (-1), .goto 11, .iload 2, .ireturn]
def kc_KT_changes : List Instr := [.aload 0, .getfield 1001, .getfield 700, .astore 2, .aload 2, .getfield 900, .ifCond .eq 16, .iload 1, .ifCond .lt 16, .iload 1, .iconst 1, .if_icmp .gt 16, .aload 2, .invokevirtual 36, .iconst 6, .if_icmp .le 18, .iconst (-1), .ireturn, .aload 0, .getfield 1005, .aload 2, .invokevirtual 148, .istore 3, .iload 3, .ifCond .ge 27, .iconst (-2), .ireturn, .iload 1, .ifCond .ne 32, .iload 3, .invokestatic 37, .goto 33, .iload 3, .ireturn]
def kc_Search_fewestChanges : List Instr := [.iconst 1, .aload 1, .invokevirtual 36, .iconst 6, .invokestatic 54, .ishl, .istore 2, .aload 0, .aload 0, .getfield 616, .ifCond .eq 16, .aload 0, .getfield 618, .ifCond .eq 16, .iconst 1, .goto 17, .iconst 0, .putfield 616, .iconst 0, .istore 3, .iload 3, .iconst 6, .if_icmp .gt 68, .aload 0, .getfield 618, .ifCond .ne 68, .iconst 0, .istore 4, .iconst 0, .istore 5, .iload 5, .iload 2, .if_icmp .ge 66, .aload 0, .getfield 618, .ifCond .ne 66, .iload 4, .invokestatic 37, .iload 3, .if_icmp .ne 56, .aload 0, .aload 1, .iload 4, .invokevirtual 149, .ifCond .eq 56, .aload 0, .aload 0, .getfield 607, .invokevirtual 136, .ifCond .lt 56, .aload 0, .iload 4, .putfield 617, .aload 0, .iconst 1, .putfield 618, .iload 4, .aload 1, .getfield 903, .isub, .aload 1, .getfield 903, .iand, .istore 4, .iinc 5 1, .goto 30, .iinc 3 1, .goto 20, .aload 0, .getfield 618, .ifCond .ne 77, .aload 0, .iconst (-1), .putfield 617, .aload 0, .iconst 1, .putfield 618, .aload 0, .getfield 617, .ireturn]
def kc_Search_tryOut : List Instr := [.aload 0, .getfield 607, .aload 1, .invokevirtual 61, .iconst 0, .istore 3, .iload 3, .iconst 11, .if_icmp .ge 22, .iload 2, .iload 3, .ishr, .iconst 1, .iand, .iconst 1, .if_icmp .ne 20, .aload 0, .getfield 607, .iload 3, .invokevirtual 96, .iinc 3 1, .goto 6, .aload 0, .getfield 607, .invokevirtual 111, .ifCond .ne 28, .iconst 1, .goto 29, .iconst 0, .ireturn]
def kc_KT_gossip : List Instr := [.aload 0, .getfield 1001, .getfield 700, .iload 1, .invokevirtual 80, .ifCond .eq 11, .iload 2, .ifCond .lt 11, .iload 2, .iconst 60, .if_icmp .le 13, .iconst (-1), .ireturn, .aload 0, .getfield 1008, .aload 0, .getfield 1001, .getfield 700, .aload 0, .invokevirtual 151, .iload 1, .iload 2, .invokevirtual 152, .ireturn]
def kc_KT_ruleInForce : List Instr := [.aload 0, .getfield 1001, .getfield 702, .istore 1, .iload 1, .ifCond .lt 15, .iload 1, .aload 0, .getfield 1011, .if_icmp .ge 15, .aload 0, .getfield 1010, .iload 1, .aaload, .goto 16, .aconst_null, .areturn]
def kc_Gossip_spread : List Instr := [.aload 0, .aload 1, .iload 3, .invokevirtual 153, .iconst 1, .istore 5, .iload 5, .iload 4, .if_icmp .gt 20, .aload 0, .aload 1, .aload 2, .iload 5, .invokevirtual 154, .ifCond .ne 18, .aload 0, .getfield 202, .ireturn, .iinc 5 1, .goto 6, .aload 0, .getfield 202, .ireturn]
def kc_Gossip_begin : List Instr := [.aload 0, .iconst 1, .iload 2, .ishl, .putfield 202, .aload 0, .getfield 200, .iconst 7, .aload 1, .invokevirtual 36, .i2l, .lastore, .return_]
def kc_Gossip_passOn : List Instr := [.aload 0, .getfield 202, .istore 4, .aload 0, .getfield 200, .iconst 6, .iload 3, .i2l, .lastore, .iconst 0, .istore 5, .iload 5, .aload 1, .getfield 902, .if_icmp .ge 51, .iload 4, .iload 5, .ishr, .iconst 1, .iand, .iconst 1, .if_icmp .ne 49, .aload 0, .getfield 200, .iconst 2, .iload 5, .i2l, .lastore, .aload 0, .aload 1, .aload 2, .aload 1, .getfield 906, .iload 5, .iaload, .aload 1, .getfield 906, .iload 5, .iaload, .invokevirtual 155, .aload 0, .aload 1, .aload 2, .iload 5, .aload 1, .getfield 907, .iload 5, .iaload, .invokevirtual 155, .iinc 5 1, .goto 11, .aload 2, .ifnull 58, .aload 2, .getfield 401, .ifCond .eq 58, .iconst 1, .goto 59, .iconst 0, .istore 5, .aload 0, .getfield 202, .iconst 1, .aload 1, .getfield 902, .ishl, .iconst 1, .isub, .if_icmp .eq 77, .aload 0, .getfield 202, .iload 4, .if_icmp .ne 75, .iload 5, .ifCond .eq 77, .iconst 1, .goto 78, .iconst 0, .ireturn]
def kc_Gossip_meet : List Instr := [.aload 1, .getfield 904, .iload 3, .iaload, .istore 5, .aload 1, .getfield 908, .iload 5, .iconst 1, .ixor, .iaload, .istore 6, .aload 1, .iload 6, .invokevirtual 80, .ifCond .ne 17, .return_, .aload 0, .getfield 200, .iconst 0, .iload 5, .iconst 1, .ishr, .i2l, .lastore, .aload 0, .getfield 200, .iconst 1, .aload 1, .getfield 905, .iload 5, .iconst 1, .ishr, .iaload, .i2l, .lastore, .aload 0, .getfield 200, .iconst 5, .iload 5, .iconst 1, .iand, .i2l, .lastore, .aload 0, .getfield 200, .iconst 4, .sipush 0, .lastore, .aload 0, .aload 2, .iload 4, .invokevirtual 156, .aload 0, .getfield 200, .iconst 4, .sipush 1, .lastore, .aload 0, .aload 2, .iload 6, .invokevirtual 156, .aload 0, .aload 2, .aload 1, .getfield 907, .iload 6, .iaload, .invokevirtual 156, .return_]
def kc_Gossip_tell : List Instr := [.aload 0, .getfield 202, .iload 2, .ishr, .iconst 1, .iand, .iconst 1, .if_icmp .ne 9, .return_, .aload 0, .getfield 200, .iconst 3, .iload 2, .i2l, .lastore, .aload 1, .ifnull 24, .aload 1, .aload 0, .getfield 200, .aload 0, .getfield 201, .invokevirtual 157, .ifCond .ne 32, .aload 0, .dup, .getfield 202, .iconst 1, .iload 2, .ishl, .ior, .putfield 202, .return_]
def kc_Rule_bars : List Instr := [.iconst 0, .istore 3, .iconst 0, .istore 4, .iload 4, .aload 0, .getfield 400, .arraylength, .if_icmp .ge 73, .aload 0, .getfield 400, .iload 4, .iaload, .istore 5, .iload 5, .iconst (-10), .if_icmp .le 34, .iload 3, .aload 2, .arraylength, .if_icmp .ge 71, .aload 2, .iload 3, .iload 5, .ifCond .lt 28, .iload 5, .i2l, .goto 31, .aload 1, .iload 5, .invokestatic 158, .lastore, .iinc 3 1, .goto 71, .iload 5, .iconst (-22), .if_icmp .ne 52, .iload 3, .ifCond .le 71, .aload 2, .iload 3, .iconst 1, .isub, .sipush 1, .aload 2, .iload 3, .iconst 1, .isub, .laload, .lsub, .lastore, .goto 71, .iload 3, .iconst 1, .if_icmp .le 71, .iinc 3 (-1), .aload 2, .iload 3, .iconst 1, .isub, .iload 5, .aload 2, .iload 3, .iconst 1, .isub, .laload, .aload 2, .iload 3, .laload, .invokestatic 159, .lastore, .iinc 4 1, .goto 4, .iload 3, .ifCond .le 83, .aload 2, .iconst 0, .laload, .sipush 0, .lcmp, .ifCond .eq 83, .iconst 1, .goto 84, .iconst 0, .ireturn]
def kc_Rule_wordOf : List Instr := [.iconst (-1), .iload 1, .isub, .istore 2, .iload 2, .ifCond .lt 14, .iload 2, .aload 0, .arraylength, .if_icmp .ge 14, .aload 0, .iload 2, .laload, .goto 15, .sipush 0, .lreturn]
def kc_Rule_reckon : List Instr := [.iload 0, .tableswitch 42 (-21) (-10) #[38, 34, 42, 42, 42, 42, 42, 24, 14, 10, 6, 2], .lload 1, .lload 3, .ladd, .lreturn, .lload 1, .lload 3, .lsub, .lreturn, .lload 1, .lload 3, .lmul, .lreturn, .lload 3, .sipush 0, .lcmp, .ifCond .ne 20, .sipush 0, .goto 23, .lload 1, .lload 3, .ldiv, .lreturn, .lload 3, .sipush 0, .lcmp, .ifCond .ne 30, .sipush 0, .goto 33, .lload 1, .lload 3, .lrem, .lreturn, .lload 1, .lload 3, .land, .lreturn, .lload 1, .lload 3, .lor, .lreturn, .iload 0, .lload 1, .lload 3, .invokestatic 160, .ifCond .eq 49, .sipush 1, .goto 50, .sipush 0, .lreturn]
def kc_Rule_compare : List Instr := [.iload 0, .tableswitch 34 (-18) (-15) #[26, 18, 10, 2], .lload 1, .lload 3, .lcmp, .ifCond .ge 8, .iconst 1, .goto 9, .iconst 0, .ireturn, .lload 1, .lload 3, .lcmp, .ifCond .gt 16, .iconst 1, .goto 17, .iconst 0, .ireturn, .lload 1, .lload 3, .lcmp, .ifCond .ne 24, .iconst 1, .goto 25, .iconst 0, .ireturn, .lload 1, .lload 3, .lcmp, .ifCond .lt 32, .iconst 1, .goto 33, .iconst 0, .ireturn, .lload 1, .lload 3, .lcmp, .ifCond .le 40, .iconst 1, .goto 41, .iconst 0, .ireturn]
def kc_KT_heard : List Instr := [.aload 0, .getfield 1001, .getfield 700, .iload 1, .invokevirtual 80, .ifCond .eq 12, .aload 0, .getfield 1001, .getfield 700, .iload 2, .invokevirtual 80, .ifCond .ne 14, .iconst (-1), .ireturn, .aload 0, .getfield 1008, .aload 0, .getfield 1001, .getfield 700, .aload 0, .invokevirtual 151, .iload 1, .iload 2, .invokevirtual 162, .ireturn]
def kc_Gossip_minuteOf : List Instr := [.aload 0, .aload 1, .iload 3, .invokevirtual 153, .iconst 0, .istore 5, .iconst 1, .istore 6, .iconst 0, .istore 7, .iload 7, .iconst 60, .if_icmp .ge 36, .iload 6, .ifCond .eq 36, .aload 0, .getfield 202, .iload 4, .ishr, .iconst 1, .iand, .ifCond .ne 36, .aload 0, .aload 1, .aload 2, .iload 7, .iconst 1, .iadd, .invokevirtual 154, .istore 6, .iload 7, .iconst 1, .iadd, .istore 5, .iinc 7 1, .goto 10, .aload 0, .getfield 202, .iload 4, .ishr, .iconst 1, .iand, .iconst 1, .if_icmp .ne 46, .iload 5, .goto 47, .iconst (-2), .ireturn]
def kc_KT_seed : List Instr := [.iload 1, .ifCond .ge 4, .iconst (-1), .ireturn, .aload 0, .getfield 1001, .getfield 703, .istore 2, .aload 0, .getfield 1001, .iload 1, .putfield 703, .iload 2, .ireturn]
def kc_KT_floods : List Instr := [.aload 0, .getfield 1001, .getfield 700, .astore 5, .iload 1, .iconst 1, .if_icmp .lt 23, .iload 1, .iconst 20, .if_icmp .gt 23, .iload 2, .ifCond .lt 23, .iload 2, .iconst 100, .if_icmp .gt 23, .aload 5, .iload 3, .invokevirtual 80, .ifCond .eq 23, .aload 5, .iload 4, .invokevirtual 80, .ifCond .ne 25, .iconst (-1), .ireturn, .aload 5, .iload 3, .invokevirtual 81, .aload 5, .iload 4, .invokevirtual 81, .if_icmp .eq 34, .iconst (-1), .ireturn, .aload 0, .getfield 1001, .getfield 703, .istore 6, .iconst 0, .istore 7, .iconst 0, .istore 8, .iload 8, .iload 1, .if_icmp .ge 96, .iconst 0, .istore 9, .iconst 0, .istore 10, .iload 10, .iconst 11, .if_icmp .ge 76, .aload 5, .iload 10, .invokevirtual 39, .ifCond .eq 74, .iload 6, .invokestatic 165, .istore 6, .iload 9, .iload 6, .iconst 65536, .idiv, .iconst 100, .irem, .iload 2, .if_icmp .ge 71, .iconst 1, .iload 10, .ishl, .goto 72, .iconst 0, .ior, .istore 9, .iinc 10 1, .goto 49, .iload 7, .aload 5, .iload 3, .iload 4, .iload 9, .invokevirtual 166, .ifCond .ne 89, .aload 5, .iload 4, .iload 3, .iload 9, .invokevirtual 166, .ifCond .eq 91, .iconst 1, .goto 92, .iconst 0, .iadd, .istore 7, .iinc 8 1, .goto 42, .iload 7, .ireturn]
def kc_KT_drawnAfter : List Instr := [.iload 0, .i2l, .sipush 1103515245, .lmul, .sipush 12345, .ladd, .sipush 2147483647, .land, .l2i, .ireturn]
def kc_Town_getsAlong : List Instr := [.iload 1, .istore 4, .iconst 0, .istore 5, .iload 5, .iconst 22, .if_icmp .ge 40, .iload 4, .iload 2, .if_icmp .eq 40, .aload 0, .getfield 904, .aload 0, .getfield 906, .iload 4, .iaload, .iaload, .istore 6, .iload 6, .iconst 1, .iand, .ifCond .ne 33, .iload 3, .iload 6, .iconst 1, .ishr, .ishr, .iconst 1, .iand, .iconst 1, .if_icmp .ne 33, .iconst 0, .ireturn, .aload 0, .getfield 906, .iload 4, .iaload, .istore 4, .iinc 5 1, .goto 4, .iload 4, .iload 2, .if_icmp .ne 45, .iconst 1, .goto 46, .iconst 0, .ireturn]
def kc_KT_count : List Instr := [.aload 0, .getfield 1001, .getfield 700, .astore 2, .iload 1, .tableswitch 48 0 10 #[6, 9, 12, 15, 18, 22, 30, 33, 37, 41, 45], .aload 2, .getfield 900, .ireturn, .aload 2, .invokevirtual 36, .ireturn, .aload 2, .getfield 902, .ireturn, .aload 2, .invokevirtual 108, .ireturn, .aload 0, .getfield 1001, .getfield 701, .ireturn, .aload 0, .getfield 1007, .aload 2, .invokevirtual 82, .aload 0, .getfield 1007, .getfield 0, .ireturn, .aload 0, .getfield 1011, .ireturn, .aload 0, .getfield 1001, .getfield 702, .ireturn, .aload 0, .getfield 1001, .getfield 703, .ireturn, .aload 0, .getfield 1000, .getfield 801, .ireturn, .aload 2, .invokevirtual 57, .ireturn, .iconst (-1), .ireturn]
def kc_KT_image : List Instr := [.iload 1, .ifCond .lt 5, .iload 1, .iconst 4, .if_icmp .lt 7, .iconst (-1), .ireturn, .aload 0, .getfield 1002, .iload 1, .aaload, .aload 0, .getfield 1001, .invokevirtual 169, .aload 0, .getfield 1002, .iload 1, .aaload, .iconst 1, .putfield 704, .aload 0, .getfield 1001, .getfield 701, .ireturn]
def kc_Stand_copyFrom : List Instr := [.aload 0, .getfield 700, .aload 1, .getfield 700, .invokevirtual 61, .aload 0, .aload 1, .getfield 701, .putfield 701, .aload 0, .aload 1, .getfield 702, .putfield 702, .aload 0, .aload 1, .getfield 703, .putfield 703, .return_]
def kc_KT_back : List Instr := [.iload 1, .ifCond .lt 11, .iload 1, .iconst 4, .if_icmp .ge 11, .aload 0, .getfield 1002, .iload 1, .aaload, .getfield 704, .ifCond .ne 13, .iconst (-1), .ireturn, .aload 0, .getfield 1001, .aload 0, .getfield 1002, .iload 1, .aaload, .invokevirtual 169, .aload 0, .invokevirtual 62, .aload 0, .getfield 1001, .getfield 701, .ireturn]
def kc_M_init : List Instr := [.aload 0, .fneg, .aload 0, .iconst 6, .newarray .int, .dup, .iconst 0, .iconst 0, .iastore, .dup, .iconst 1, .iconst 0, .iastore, .dup, .iconst 2, .iconst 0, .iastore, .dup, .iconst 3, .iconst 0, .iastore, .dup, .iconst 4, .iconst 0, .iastore, .dup, .iconst 5, .iconst (-1), .iastore, .putfield 1101, .aload 0, .iconst 22, .newarray .int, .putfield 1102, .aload 0, .iconst 22, .newarray .int, .putfield 1103, .aload 0, .iconst 11, .newarray .int, .putfield 1104, .aload 0, .iconst 3, .newarray .int, .putfield 1105, .aload 0, .iconst 22, .newarray .int, .putfield 1106, .aload 0, .iconst 22, .newarray .int, .putfield 1107, .aload 0, .iconst 11, .newarray .int, .putfield 1108, .aload 0, .iconst 6, .newarray .int, .putfield 1109, .aload 0, .iconst 22, .newarray .int, .putfield 1110, .aload 0, .iconst 22, .newarray .int, .putfield 1111, .aload 0, .iconst 11, .newarray .int, .putfield 1112, .aload 0, .iconst 11, .newarray .int, .putfield 1113, .aload 0, .iconst 11, .newarray .int, .putfield 1114, .aload 0, .iconst 44, .newarray .int, .putfield 1115, .aload 0, .iconst 44, .newarray .int, .putfield 1116, .aload 0, .iconst 44, .newarray .int, .putfield 1117, .aload 0, .iconst 44, .newarray .int, .putfield 1118, .aload 0, .iconst 11, .newarray .int, .putfield 1119, .aload 0, .iconst 8, .putfield 1130, .aload 0, .iconst 400, .newarray .byte, .putfield 1133, .aload 0, .iconst 1800, .newarray .int, .putfield 1134, .aload 0, .iconst 1800, .newarray .int, .putfield 1135, .aload 0, .iconst 6, .newarray .int, .putfield 1136, .aload 0, .iconst 72, .newarray .int, .putfield 1137, .aload 0, .iconst 72, .newarray .int, .putfield 1138, .aload 0, .iconst 402, .newarray .int, .putfield 1139, .aload 0, .iconst 8, .newarray .long, .putfield 1140, .aload 0, .iconst 300, .newarray .long, .putfield 1141, .aload 0, .iconst 22, .newarray .int, .putfield 1142, .aload 0, .iconst 23, .newarray .int, .putfield 1143, .aload 0, .iconst 3, .newarray .int, .putfield 1145, .aload 0, .iconst 143, .newarray .long, .putfield 1146, .aload 0, .iconst 199, .newarray .int, .putfield 1147, .aload 0, .iconst 22, .newarray .int, .putfield 1148, .aload 0, .iconst 7224, .newarray .int, .putfield 1149, .aload 0, .iconst 301, .newarray .int, .putfield 1150, .aload 0, .iconst 301, .newarray .int, .putfield 1151, .aload 0, .iconst 280, .newarray .int, .putfield 1155, .aload 0, .iconst 4, .newarray .boolean, .putfield 1156, .aload 0, .invokevirtual 172, .return_]
def kc_M_refresh : List Instr := [.iconst 0, .istore 1, .iload 1, .iconst 11, .if_icmp .ge 17, .aload 0, .getfield 1113, .iload 1, .iconst (-1), .iastore, .aload 0, .getfield 1114, .iload 1, .iconst (-1), .iastore, .iinc 1 1, .goto 2, .iconst 0, .istore 1, .iload 1, .aload 0, .invokevirtual 173, .if_icmp .ge 48, .aload 0, .getfield 1103, .iload 1, .iaload, .iconst 1, .if_icmp .ne 38, .aload 0, .getfield 1113, .aload 0, .getfield 1102, .iload 1, .iaload, .iload 1, .iastore, .goto 46, .aload 0, .getfield 1114, .aload 0, .getfield 1102, .iload 1, .iaload, .iload 1, .iastore, .iinc 1 1, .goto 19, .return_]
def kc_M_places : List Instr := [.aload 0, .getfield 1101, .iconst 1, .iaload, .aload 0, .getfield 1101, .iconst 2, .iaload, .iadd, .ireturn]
def kc_M_feed : List Instr := [.aload 0, .getfield 1121, .iconst 20, .iadd, .iconst 400, .if_icmp .le 8, .iconst (-1), .ireturn, .aload 0, .iload 1, .invokevirtual 175, .aload 0, .iload 2, .invokevirtual 175, .aload 0, .iload 3, .invokevirtual 175, .aload 0, .iload 4, .invokevirtual 175, .aload 0, .iload 5, .invokevirtual 175, .aload 0, .getfield 1121, .ireturn]
def kc_M_put : List Instr := [.iconst 24, .istore 2, .iload 2, .ifCond .lt 21, .aload 0, .getfield 1133, .aload 0, .getfield 1121, .iload 1, .iload 2, .ishr, .i2b, .bastore, .aload 0, .dup, .getfield 1121, .iconst 1, .iadd, .putfield 1121, .iinc 2 (-8), .goto 2, .return_]
def kc_M_end : List Instr := [.iload 1, .ifCond .lt 6, .iload 1, .aload 0, .getfield 1121, .if_icmp .le 8, .iconst (-1), .ireturn, .aload 0, .iload 1, .putfield 1121, .iload 1, .ireturn]
def kc_M_town : List Instr := [.aload 0, .invokevirtual 178, .aload 0, .iconst 0, .putfield 1131, .aload 0, .iconst 0, .putfield 1132, .iconst 0, .istore 1, .iload 1, .iconst 3, .if_icmp .ge 20, .aload 0, .getfield 1105, .iload 1, .iconst 0, .iastore, .iinc 1 1, .goto 10, .iconst 1, .istore 1, .iload 1, .ifCond .eq 30, .aload 0, .invokevirtual 179, .aload 0, .invokevirtual 190, .istore 1, .goto 22, .aload 0, .getfield 1121, .istore 2, .aload 0, .iconst 0, .putfield 1121, .aload 0, .getfield 1123, .ifCond .le 44, .iconst (-2), .aload 0, .getfield 1123, .isub, .ireturn, .aload 0, .invokevirtual 191, .iconst 0, .istore 3, .iload 3, .iconst 3, .if_icmp .ge 61, .aload 0, .getfield 1101, .iload 3, .aload 0, .getfield 1105, .iload 3, .iaload, .iastore, .iinc 3 1, .goto 48, .aload 0, .getfield 1101, .iconst 3, .iconst 0, .iastore, .aload 0, .getfield 1106, .aload 0, .getfield 1102, .invokestatic 192, .aload 0, .getfield 1107, .aload 0, .getfield 1103, .invokestatic 192, .aload 0, .getfield 1108, .aload 0, .getfield 1104, .invokestatic 192, .aload 0, .invokevirtual 172, .aload 0, .invokevirtual 193, .ifCond .ne 91, .aload 0, .iconst 6, .iload 2, .invokevirtual 183, .goto 98, .aload 0, .invokevirtual 194, .ifCond .ne 98, .aload 0, .iconst 7, .iload 2, .invokevirtual 183, .aload 0, .getfield 1123, .ifCond .le 108, .aload 0, .invokevirtual 204, .iconst (-2), .aload 0, .getfield 1123, .isub, .ireturn, .aload 0, .invokevirtual 201, .ireturn]
def kc_M_starts : List Instr := [.aload 0, .iconst 0, .putfield 1122, .aload 0, .iconst 0, .putfield 1123, .aload 0, .iconst 0, .putfield 1126, .aload 0, .iconst 0, .putfield 1127, .aload 0, .iconst 0, .putfield 1128, .return_]
def kc_M_road : List Instr := [.aload 0, .invokevirtual 180, .aload 0, .getfield 1122, .istore 1, .aload 0, .ldc 15, .invokevirtual 182, .ifCond .ne 14, .aload 0, .iconst 0, .iload 1, .invokevirtual 183, .return_, .aload 0, .getfield 1105, .iconst 0, .iaload, .iconst 2, .if_icmp .ne 25, .aload 0, .iconst 4, .iload 1, .invokevirtual 183, .return_, .aload 0, .dup, .getfield 1122, .iconst 4, .iadd, .putfield 1122, .aload 0, .getfield 1105, .iconst 0, .dup2, .iaload, .iconst 1, .iadd, .iastore, .aload 0, .invokevirtual 180, .aload 0, .ldc 16, .invokevirtual 182, .istore 2, .aload 0, .getfield 1123, .ifCond .ne 64, .iload 2, .ifCond .ne 54, .aload 0, .ldc 17, .invokevirtual 182, .ifCond .eq 64, .aload 0, .iload 2, .invokevirtual 184, .aload 0, .invokevirtual 180, .aload 0, .ldc 16, .invokevirtual 182, .istore 2, .goto 45, .return_]
def kc_M_blanks : List Instr := [.aload 0, .invokevirtual 181, .iconst 32, .if_icmp .ne 11, .aload 0, .dup, .getfield 1122, .iconst 1, .iadd, .putfield 1122, .goto 0, .return_]
def kc_M_sign : List Instr := [.aload 0, .getfield 1122, .aload 0, .getfield 1121, .if_icmp .ge 13, .aload 0, .getfield 1133, .aload 0, .getfield 1122, .baload, .iconst 255, .iand, .goto 14, .iconst (-1), .ireturn]
def kc_M_stood : List Instr := [.aload 0, .getfield 1122, .istore 2, .iload 2, .aload 0, .getfield 1121, .if_icmp .ge 21, .aload 0, .getfield 1133, .iload 2, .baload, .iconst 97, .if_icmp .lt 21, .aload 0, .getfield 1133, .iload 2, .baload, .iconst 122, .if_icmp .gt 21, .iinc 2 1, .goto 3, .iload 2, .aload 0, .getfield 1122, .isub, .aload 1, .fsub, .if_icmp .ne 30, .iconst 1, .goto 31, .iconst 0, .istore 3, .iconst 0, .istore 4, .iload 4, .aload 1, .fsub, .if_icmp .ge 57, .iload 3, .ifCond .eq 57, .aload 0, .getfield 1133, .aload 0, .getfield 1122, .iload 4, .iadd, .baload, .aload 1, .iload 4, .fmul, .if_icmp .ne 53, .iconst 1, .goto 54, .iconst 0, .istore 3, .iinc 4 1, .goto 34, .iload 3, .ireturn]
def kc_M_fails : List Instr := [.aload 0, .aload 0, .getfield 1123, .ifCond .ne 12, .iconst 1, .iconst 8, .iload 2, .imul, .iadd, .iload 1, .iadd, .goto 14, .aload 0, .getfield 1123, .putfield 1123, .return_]
def kc_M_pass : List Instr := [.aload 0, .dup, .getfield 1122, .iconst 1, .iadd, .putfield 1122, .aload 0, .invokevirtual 180, .aload 0, .getfield 1122, .istore 2, .aload 0, .iconst 0, .iconst 10, .invokevirtual 185, .istore 3, .aload 0, .getfield 1123, .ifCond .le 20, .return_, .iload 1, .ifCond .eq 25, .aload 0, .getfield 1131, .goto 27, .aload 0, .getfield 1132, .iload 3, .ishr, .iconst 1, .iand, .iconst 1, .if_icmp .ne 38, .aload 0, .iconst 5, .iload 2, .invokevirtual 183, .return_, .aload 0, .getfield 1105, .iconst 1, .iaload, .aload 0, .getfield 1105, .iconst 2, .iaload, .iadd, .istore 4, .aload 0, .getfield 1106, .iload 4, .iload 3, .iastore, .aload 0, .getfield 1107, .iload 4, .iload 1, .ifCond .eq 60, .iconst 1, .goto 61, .iconst 0, .iastore, .aload 0, .getfield 1105, .aload 0, .getfield 1105, .iconst 0, .iaload, .dup2, .iaload, .iconst 1, .iadd, .iastore, .iload 1, .ifCond .eq 87, .aload 0, .dup, .getfield 1131, .iconst 1, .iload 3, .ishl, .ior, .putfield 1131, .aload 0, .iload 3, .invokevirtual 189, .goto 95, .aload 0, .dup, .getfield 1132, .iconst 1, .iload 3, .ishl, .ior, .putfield 1132, .return_]
def kc_M_amount : List Instr := [.aload 0, .invokevirtual 180, .aload 0, .getfield 1122, .istore 3, .aload 0, .getfield 1123, .ifCond .ne 12, .aload 0, .iconst 99999, .invokevirtual 186, .goto 13, .iconst 0, .istore 4, .aload 0, .getfield 1123, .ifCond .ne 29, .iload 4, .i2l, .iload 1, .i2l, .iload 2, .i2l, .invokestatic 188, .ifCond .ne 29, .aload 0, .iconst 1, .iload 3, .invokevirtual 183, .iload 4, .ireturn]
def kc_M_digits : List Instr := [.aload 0, .invokevirtual 187, .ifCond .ne 10, .aload 0, .iconst 0, .aload 0, .getfield 1122, .invokevirtual 183, .iconst 0, .ireturn, .aload 0, .getfield 1122, .istore 2, .iconst 0, .istore 3, .aload 0, .invokevirtual 187, .ifCond .eq 42, .aload 0, .getfield 1122, .iload 2, .isub, .iconst 5, .if_icmp .ge 33, .iconst 10, .iload 3, .imul, .aload 0, .invokevirtual 181, .iadd, .iconst 48, .isub, .goto 34, .iload 3, .istore 3, .aload 0, .dup, .getfield 1122, .iconst 1, .iadd, .putfield 1122, .goto 15, .aload 0, .getfield 1122, .iload 2, .isub, .iconst 5, .if_icmp .gt 51, .iload 3, .iload 1, .if_icmp .le 55, .aload 0, .iconst 1, .iload 2, .invokevirtual 183, .iload 3, .ireturn]
def kc_M_isDigit : List Instr := [.aload 0, .invokevirtual 181, .i2l, .sipush 48, .sipush 57, .invokestatic 188, .ireturn]
def kc_M_in : List Instr := [.lload 0, .lload 2, .lcmp, .ifCond .lt 10, .lload 0, .lload 4, .lcmp, .ifCond .gt 10, .iconst 1, .goto 11, .iconst 0, .ireturn]
def kc_M_signOf : List Instr := [.aload 0, .invokevirtual 180, .aload 0, .getfield 1123, .ifCond .le 6, .return_, .aload 0, .getfield 1122, .aload 0, .getfield 1121, .if_icmp .ge 25, .aload 0, .getfield 1133, .aload 0, .getfield 1122, .baload, .iconst 43, .if_icmp .eq 31, .aload 0, .getfield 1133, .aload 0, .getfield 1122, .baload, .iconst 45, .if_icmp .eq 31, .aload 0, .iconst 0, .aload 0, .getfield 1122, .invokevirtual 183, .return_, .aload 0, .getfield 1108, .iload 1, .aload 0, .getfield 1133, .aload 0, .getfield 1122, .baload, .iconst 43, .if_icmp .ne 43, .iconst 1, .goto 44, .iconst 0, .iastore, .aload 0, .dup, .getfield 1122, .iconst 1, .iadd, .putfield 1122, .return_]
def kc_M_goesOn : List Instr := [.aload 0, .invokevirtual 180, .aload 0, .getfield 1123, .ifCond .ne 19, .aload 0, .getfield 1122, .aload 0, .getfield 1121, .if_icmp .ge 19, .aload 0, .invokevirtual 181, .iconst 59, .if_icmp .eq 19, .aload 0, .iconst 0, .aload 0, .getfield 1122, .invokevirtual 183, .aload 0, .getfield 1123, .ifCond .ne 29, .aload 0, .getfield 1122, .aload 0, .getfield 1121, .if_icmp .ge 29, .iconst 1, .goto 30, .iconst 0, .istore 1, .aload 0, .dup, .getfield 1122, .iconst 1, .iadd, .putfield 1122, .iload 1, .ireturn]
def kc_M_keeps : List Instr := [.aload 0, .getfield 1101, .aload 0, .getfield 1109, .invokestatic 192, .aload 0, .getfield 1102, .aload 0, .getfield 1110, .invokestatic 192, .aload 0, .getfield 1103, .aload 0, .getfield 1111, .invokestatic 192, .aload 0, .getfield 1104, .aload 0, .getfield 1112, .invokestatic 192, .return_]
def kc_M_lay : List Instr := [.iconst 0, .istore 2, .iload 2, .aload 0, .arraylength, .if_icmp .ge 14, .aload 1, .iload 2, .aload 0, .iload 2, .iaload, .iastore, .iinc 2 1, .goto 2, .return_]
def kc_M_areWhole : List Instr := [.iconst 1, .istore 1, .iconst 0, .istore 2, .iload 2, .iconst 11, .if_icmp .ge 34, .iload 1, .ifCond .eq 30, .aload 0, .getfield 1113, .iload 2, .iaload, .iconst (-1), .if_icmp .ne 17, .iconst 1, .goto 18, .iconst 0, .aload 0, .getfield 1114, .iload 2, .iaload, .iconst (-1), .if_icmp .ne 26, .iconst 1, .goto 27, .iconst 0, .if_icmp .ne 30, .iconst 1, .goto 31, .iconst 0, .istore 1, .iinc 2 1, .goto 4, .iload 1, .ireturn]
def kc_M_canBeDrawn : List Instr := [.aload 0, .invokevirtual 195, .aload 0, .getfield 1120, .aload 0, .invokevirtual 201, .iconst 2, .aload 0, .invokevirtual 202, .imul, .iadd, .if_icmp .ne 14, .iconst 1, .goto 15, .iconst 0, .ireturn]
def kc_M_fillsLand : List Instr := [.iconst 0, .istore 1, .iload 1, .iconst 11, .if_icmp .ge 66, .aload 0, .iload 1, .invokevirtual 196, .ifCond .eq 64, .iconst 2, .aload 0, .getfield 1113, .iload 1, .iaload, .imul, .istore 2, .iconst 2, .aload 0, .getfield 1114, .iload 1, .iaload, .imul, .istore 3, .iconst 2, .aload 0, .aload 0, .getfield 1113, .iload 1, .iaload, .invokevirtual 197, .imul, .iconst 1, .iadd, .istore 4, .iconst 2, .aload 0, .aload 0, .getfield 1114, .iload 1, .iaload, .invokevirtual 197, .imul, .iconst 1, .iadd, .istore 5, .aload 0, .getfield 1104, .iload 1, .iaload, .iconst 1, .if_icmp .ne 58, .aload 0, .iload 2, .iload 3, .iload 4, .iload 5, .invokevirtual 200, .goto 64, .aload 0, .iload 2, .iload 5, .iload 4, .iload 3, .invokevirtual 200, .iinc 1 1, .goto 2, .iconst 0, .istore 1, .iload 1, .iconst 44, .if_icmp .ge 78, .aload 0, .getfield 1116, .iload 1, .iconst (-1), .iastore, .iinc 1 1, .goto 68, .aload 0, .iconst 0, .putfield 1120, .iconst 0, .istore 1, .iload 1, .iconst 2, .aload 0, .invokevirtual 173, .imul, .if_icmp .ge 140, .aload 0, .getfield 1116, .iload 1, .iaload, .iconst (-1), .if_icmp .ne 138, .iconst 0, .istore 2, .iload 1, .istore 3, .aload 0, .getfield 1116, .iload 3, .iaload, .iconst (-1), .if_icmp .ne 120, .aload 0, .getfield 1116, .iload 3, .aload 0, .getfield 1120, .iastore, .iinc 2 1, .aload 0, .getfield 1115, .iload 3, .iconst 1, .ixor, .iaload, .istore 3, .goto 99, .aload 0, .getfield 1117, .aload 0, .getfield 1120, .iload 2, .iastore, .aload 0, .getfield 1118, .aload 0, .getfield 1120, .iload 1, .iastore, .aload 0, .dup, .getfield 1120, .iconst 1, .iadd, .putfield 1120, .iinc 1 1, .goto 83, .return_]
def kc_M_isBridge : List Instr := [.iload 1, .i2l, .sipush 0, .sipush 10, .invokestatic 188, .ifCond .eq 14, .aload 0, .getfield 1113, .iload 1, .iaload, .iconst (-1), .if_icmp .eq 14, .iconst 1, .goto 15, .iconst 0, .ireturn]
def kc_M_ahead : List Instr := [.aload 0, .iload 1, .invokevirtual 198, .istore 2, .iload 1, .aload 0, .iload 2, .invokevirtual 199, .if_icmp .ne 20, .iload 1, .aload 0, .getfield 1101, .iconst 1, .iload 2, .iadd, .iaload, .iadd, .iconst 1, .isub, .goto 23, .iload 1, .iconst 1, .isub, .ireturn]
def kc_M_roadOf : List Instr := [.iload 1, .aload 0, .getfield 1101, .iconst 1, .iaload, .if_icmp .ge 8, .iconst 0, .goto 9, .iconst 1, .ireturn]
def kc_M_beginOf : List Instr := [.iload 1, .ifCond .ne 4, .iconst 0, .goto 8, .aload 0, .getfield 1101, .iconst 1, .iaload, .ireturn]
def kc_M_turns : List Instr := [.aload 0, .getfield 1115, .iload 1, .iload 2, .iastore, .aload 0, .getfield 1115, .iload 2, .iload 3, .iastore, .aload 0, .getfield 1115, .iload 3, .iload 4, .iastore, .aload 0, .getfield 1115, .iload 4, .iload 1, .iastore, .return_]
def kc_M_many : List Instr := [.aload 0, .invokevirtual 173, .iconst 2, .idiv, .ireturn]
def kc_M_groups : List Instr := [.iconst 0, .istore 1, .iload 1, .iconst 11, .if_icmp .ge 12, .aload 0, .getfield 1119, .iload 1, .iload 1, .iastore, .iinc 1 1, .goto 2, .iconst 1, .istore 1, .iload 1, .ifCond .eq 83, .iconst 0, .istore 1, .iconst 0, .istore 2, .iload 2, .aload 0, .invokevirtual 173, .if_icmp .ge 82, .aload 0, .getfield 1102, .iload 2, .iaload, .istore 3, .aload 0, .getfield 1102, .aload 0, .iload 2, .invokevirtual 203, .iaload, .istore 4, .aload 0, .getfield 1119, .iload 3, .iaload, .aload 0, .getfield 1119, .iload 4, .iaload, .if_icmp .ge 50, .aload 0, .getfield 1119, .iload 3, .iaload, .goto 54, .aload 0, .getfield 1119, .iload 4, .iaload, .istore 5, .iload 1, .ifCond .ne 66, .aload 0, .getfield 1119, .iload 3, .iaload, .aload 0, .getfield 1119, .iload 4, .iaload, .if_icmp .eq 68, .iconst 1, .goto 69, .iconst 0, .istore 1, .aload 0, .getfield 1119, .iload 3, .iload 5, .iastore, .aload 0, .getfield 1119, .iload 4, .iload 5, .iastore, .iinc 2 1, .goto 20, .goto 14, .iconst 0, .istore 2, .iconst 0, .istore 3, .iload 3, .iconst 11, .if_icmp .ge 108, .iload 2, .aload 0, .iload 3, .invokevirtual 196, .ifCond .eq 103, .aload 0, .getfield 1119, .iload 3, .iaload, .iload 3, .if_icmp .ne 103, .iconst 1, .goto 104, .iconst 0, .iadd, .istore 2, .iinc 3 1, .goto 87, .iload 2, .ireturn]
def kc_M_next : List Instr := [.aload 0, .iload 1, .invokevirtual 198, .istore 2, .iload 1, .iconst 1, .iadd, .aload 0, .iload 2, .invokevirtual 199, .aload 0, .getfield 1101, .iconst 1, .iload 2, .iadd, .iaload, .iadd, .if_icmp .ne 22, .aload 0, .iload 2, .invokevirtual 199, .goto 25, .iload 1, .iconst 1, .iadd, .ireturn]
def kc_M_laysBack : List Instr := [.aload 0, .getfield 1109, .aload 0, .getfield 1101, .invokestatic 192, .aload 0, .getfield 1110, .aload 0, .getfield 1102, .invokestatic 192, .aload 0, .getfield 1111, .aload 0, .getfield 1103, .invokestatic 192, .aload 0, .getfield 1112, .aload 0, .getfield 1104, .invokestatic 192, .aload 0, .invokevirtual 172, .return_]
def kc_M_rule : List Instr := [.aload 0, .getfield 1125, .iconst 6, .if_icmp .ne 6, .iconst (-1), .ireturn, .aload 0, .aload 0, .getfield 1125, .putfield 1124, .aload 0, .invokevirtual 178, .iconst 0, .istore 1, .iconst 1, .istore 2, .iload 2, .ifCond .eq 26, .aload 0, .iload 1, .invokevirtual 206, .iinc 1 1, .aload 0, .invokevirtual 190, .istore 2, .goto 16, .aload 0, .iconst 0, .putfield 1121, .aload 0, .getfield 1136, .aload 0, .getfield 1124, .iload 1, .iastore, .aload 0, .dup, .getfield 1125, .aload 0, .getfield 1123, .ifCond .ne 43, .iconst 1, .goto 44, .iconst 0, .iadd, .putfield 1125, .aload 0, .getfield 1123, .ifCond .le 54, .iconst (-2), .aload 0, .getfield 1123, .isub, .goto 58, .aload 0, .getfield 1125, .iconst 1, .isub, .ireturn]
def kc_M_ruleClause : List Instr := [.aload 0, .invokevirtual 180, .aload 0, .getfield 1122, .istore 2, .aload 0, .ldc 18, .invokevirtual 182, .ifCond .ne 14, .aload 0, .iconst 0, .iload 2, .invokevirtual 183, .return_, .iload 1, .iconst 12, .if_icmp .ne 22, .aload 0, .iconst 4, .iload 2, .invokevirtual 183, .return_, .aload 0, .dup, .getfield 1122, .iconst 3, .iadd, .putfield 1122, .iconst 12, .aload 0, .getfield 1124, .imul, .iload 1, .iadd, .istore 3, .aload 0, .getfield 1137, .iload 3, .aload 0, .getfield 1126, .iastore, .aload 0, .invokevirtual 207, .aload 0, .getfield 1138, .iload 3, .aload 0, .getfield 1126, .iastore, .return_]
def kc_M_test : List Instr := [.aload 0, .iconst 0, .putfield 1129, .iconst 1, .istore 1, .iconst 1, .istore 2, .iload 2, .ifCond .eq 105, .aload 0, .getfield 1123, .ifCond .ne 105, .iload 1, .ifCond .eq 22, .aload 0, .invokevirtual 208, .ifCond .ne 19, .iconst 1, .goto 20, .iconst 0, .istore 1, .goto 7, .aload 0, .iconst 9, .invokevirtual 217, .aload 0, .invokevirtual 180, .aload 0, .ldc 28, .invokevirtual 182, .istore 3, .aload 0, .ldc 29, .invokevirtual 182, .istore 4, .aload 0, .iconst 10, .invokevirtual 217, .iload 3, .ifCond .ne 42, .iload 4, .ifCond .eq 67, .iload 4, .ifCond .eq 47, .aload 0, .iconst 11, .invokevirtual 217, .aload 0, .iload 3, .ifCond .eq 52, .iconst 10, .goto 53, .iconst 11, .invokevirtual 209, .aload 0, .dup, .getfield 1122, .iload 3, .ifCond .eq 61, .iconst 3, .goto 62, .iconst 2, .iadd, .putfield 1122, .iconst 1, .istore 1, .goto 104, .aload 0, .iconst 11, .invokevirtual 217, .aload 0, .invokevirtual 218, .iconst 12, .if_icmp .ne 102, .aload 0, .invokevirtual 181, .iconst 93, .if_icmp .eq 83, .aload 0, .iconst 0, .aload 0, .getfield 1122, .invokevirtual 183, .aload 0, .dup, .getfield 1122, .iconst 1, .iadd, .putfield 1122, .aload 0, .dup, .getfield 1129, .iconst 1, .isub, .putfield 1129, .aload 0, .dup, .getfield 1127, .iconst 1, .isub, .putfield 1127, .goto 104, .iconst 0, .istore 2, .goto 7, .return_]
def kc_M_fact : List Instr := [.aload 0, .invokevirtual 180, .aload 0, .ldc 19, .invokevirtual 182, .ifCond .eq 17, .aload 0, .iconst 9, .invokevirtual 209, .aload 0, .dup, .getfield 1122, .iconst 3, .iadd, .putfield 1122, .iconst 0, .ireturn, .aload 0, .invokevirtual 181, .iconst 91, .if_icmp .ne 32, .aload 0, .iconst 12, .invokevirtual 209, .aload 0, .dup, .getfield 1122, .iconst 1, .iadd, .putfield 1122, .iconst 0, .ireturn, .aload 0, .invokevirtual 210, .iconst 1, .ireturn]
def kc_M_opens : List Instr := [.iload 1, .iconst 9, .if_icmp .eq 6, .iload 1, .iconst 12, .if_icmp .ne 21, .aload 0, .getfield 1127, .iconst 10, .if_icmp .ne 15, .aload 0, .iconst 2, .aload 0, .getfield 1122, .invokevirtual 183, .aload 0, .dup, .getfield 1127, .iconst 1, .iadd, .putfield 1127, .aload 0, .getfield 1139, .aload 0, .getfield 1129, .iload 1, .iastore, .aload 0, .dup, .getfield 1129, .iconst 1, .iadd, .putfield 1129, .return_]
def kc_M_compared : List Instr := [.aload 0, .invokevirtual 211, .aload 0, .invokevirtual 181, .istore 1, .iload 1, .iconst 60, .if_icmp .eq 20, .iload 1, .iconst 61, .if_icmp .eq 20, .iload 1, .iconst 62, .if_icmp .eq 20, .aload 0, .iconst 0, .aload 0, .getfield 1122, .invokevirtual 183, .return_, .aload 0, .aload 0, .getfield 1122, .invokevirtual 214, .aload 0, .dup, .getfield 1122, .iconst 1, .iadd, .putfield 1122, .iload 1, .iconst 61, .if_icmp .eq 39, .aload 0, .invokevirtual 181, .iconst 61, .if_icmp .ne 39, .iconst 1, .goto 40, .iconst 0, .istore 2, .aload 0, .dup, .getfield 1122, .iload 2, .ifCond .eq 48, .iconst 1, .goto 49, .iconst 0, .iadd, .putfield 1122, .aload 0, .invokevirtual 211, .aload 0, .iload 1, .iconst 61, .if_icmp .ne 59, .iconst 6, .goto 73, .iload 1, .iconst 60, .if_icmp .ne 68, .iload 2, .ifCond .eq 66, .iconst 5, .goto 73, .iconst 4, .goto 73, .iload 2, .ifCond .eq 72, .iconst 7, .goto 73, .iconst 8, .iconst 0, .invokevirtual 215, .return_]
def kc_M_sum : List Instr := [.aload 0, .invokevirtual 212, .aload 0, .getfield 1123, .ifCond .ne 34, .aload 0, .invokevirtual 181, .iconst 43, .if_icmp .eq 13, .aload 0, .invokevirtual 181, .iconst 45, .if_icmp .ne 34, .aload 0, .invokevirtual 181, .iconst 43, .if_icmp .ne 19, .iconst 2, .goto 20, .iconst 3, .istore 1, .aload 0, .dup, .getfield 1122, .iconst 1, .iadd, .putfield 1122, .aload 0, .invokevirtual 212, .aload 0, .iload 1, .iconst 0, .invokevirtual 215, .goto 2, .return_]
def kc_M_term : List Instr := [.aload 0, .invokevirtual 213, .aload 0, .invokevirtual 180, .aload 0, .getfield 1123, .ifCond .ne 48, .aload 0, .invokevirtual 181, .iconst 42, .if_icmp .eq 19, .aload 0, .invokevirtual 181, .iconst 47, .if_icmp .eq 19, .aload 0, .invokevirtual 181, .iconst 37, .if_icmp .ne 48, .aload 0, .invokevirtual 181, .iconst 42, .if_icmp .ne 25, .iconst 13, .goto 32, .aload 0, .invokevirtual 181, .iconst 47, .if_icmp .ne 31, .iconst 14, .goto 32, .iconst 15, .istore 1, .aload 0, .dup, .getfield 1122, .iconst 1, .iadd, .putfield 1122, .aload 0, .invokevirtual 213, .aload 0, .iload 1, .iconst 0, .invokevirtual 215, .aload 0, .invokevirtual 180, .goto 4, .return_]
def kc_M_value : List Instr := [.aload 0, .invokevirtual 180, .aload 0, .getfield 1122, .istore 1, .aload 0, .invokevirtual 187, .ifCond .eq 20, .aload 0, .iconst 99999, .invokevirtual 186, .istore 2, .aload 0, .iload 1, .invokevirtual 214, .aload 0, .iconst 0, .iload 2, .invokevirtual 215, .return_, .iconst 0, .istore 2, .iload 2, .aload 0, .getfield 1130, .if_icmp .ge 33, .aload 0, .iload 2, .invokestatic 216, .invokevirtual 182, .ifCond .ne 33, .iinc 2 1, .goto 22, .iload 2, .aload 0, .getfield 1130, .if_icmp .ne 42, .aload 0, .iconst 0, .iload 1, .invokevirtual 183, .return_, .aload 0, .iload 1, .invokevirtual 214, .aload 0, .dup, .getfield 1122, .iload 2, .invokestatic 216, .fsub, .iadd, .putfield 1122, .aload 0, .iconst 1, .iload 2, .invokevirtual 215, .return_]
def kc_M_isCounted : List Instr := [.aload 0, .getfield 1128, .iconst 60, .if_icmp .ne 8, .aload 0, .iconst 3, .iload 1, .invokevirtual 183, .aload 0, .dup, .getfield 1128, .iconst 1, .iadd, .putfield 1128, .return_]
def kc_M_entry : List Instr := [.aload 0, .getfield 1123, .ifCond .ne 31, .aload 0, .getfield 1134, .iconst 300, .aload 0, .getfield 1124, .imul, .aload 0, .getfield 1126, .iadd, .iload 1, .iastore, .aload 0, .getfield 1135, .iconst 300, .aload 0, .getfield 1124, .imul, .aload 0, .getfield 1126, .iadd, .iload 2, .iastore, .aload 0, .dup, .getfield 1126, .iconst 1, .iadd, .putfield 1126, .return_]
def kc_M_wordOf : List Instr := [.iload 0, .tableswitch 16 0 6 #[2, 4, 6, 8, 10, 12, 14], .ldc 20, .areturn, .ldc 21, .areturn, .ldc 22, .areturn, .ldc 23, .areturn, .ldc 24, .areturn, .ldc 25, .areturn, .ldc 26, .areturn, .ldc 27, .areturn]
def kc_M_answers : List Instr := [.aload 0, .invokevirtual 218, .iload 1, .if_icmp .ne 29, .aload 0, .getfield 1123, .ifCond .ne 29, .aload 0, .iload 1, .iconst 0, .invokevirtual 215, .aload 0, .dup, .getfield 1129, .iconst 1, .isub, .putfield 1129, .aload 0, .dup, .getfield 1127, .iload 1, .iconst 9, .if_icmp .ne 25, .iconst 1, .goto 26, .iconst 0, .isub, .putfield 1127, .goto 0, .return_]
def kc_M_top : List Instr := [.aload 0, .getfield 1129, .ifCond .ne 5, .iconst (-1), .goto 12, .aload 0, .getfield 1139, .aload 0, .getfield 1129, .iconst 1, .isub, .iaload, .ireturn]
def kc_M_force : List Instr := [.iload 1, .i2l, .sipush (-1), .aload 0, .getfield 1125, .iconst 1, .isub, .i2l, .invokestatic 188, .ifCond .ne 12, .iconst (-2), .ireturn, .aload 0, .getfield 1101, .iconst 5, .iaload, .istore 2, .aload 0, .getfield 1101, .iconst 5, .iload 1, .iastore, .iload 2, .ireturn]
def kc_M_place : List Instr := [.aload 0, .iload 1, .invokevirtual 221, .ifCond .ne 6, .iconst (-1), .ireturn, .iload 2, .tableswitch 33 0 4 #[8, 13, 18, 22, 26], .aload 0, .getfield 1102, .iload 1, .iaload, .ireturn, .aload 0, .getfield 1103, .iload 1, .iaload, .ireturn, .aload 0, .iload 1, .invokevirtual 198, .ireturn, .aload 0, .iload 1, .invokevirtual 203, .ireturn, .aload 0, .invokevirtual 222, .aload 0, .getfield 1142, .iload 1, .iaload, .ireturn, .iconst (-1), .ireturn]
def kc_M_isPlace : List Instr := [.iload 1, .i2l, .sipush 0, .aload 0, .invokevirtual 173, .iconst 1, .isub, .i2l, .invokestatic 188, .ireturn]
def kc_M_fillsBows : List Instr := [.aload 0, .iconst 0, .putfield 1144, .iconst 0, .istore 1, .iload 1, .aload 0, .invokevirtual 173, .if_icmp .ge 52, .iload 1, .aload 0, .aload 0, .iload 1, .invokevirtual 198, .invokevirtual 199, .if_icmp .ne 18, .iconst 1, .goto 19, .iconst 0, .istore 2, .aload 0, .getfield 1143, .iload 1, .iconst (-1), .iastore, .aload 0, .getfield 1103, .iload 1, .iaload, .ifCond .eq 38, .iload 2, .ifCond .eq 50, .aload 0, .aload 0, .iload 1, .invokevirtual 198, .invokevirtual 223, .ifCond .ne 50, .aload 0, .getfield 1143, .iload 1, .aload 0, .getfield 1144, .iastore, .aload 0, .dup, .getfield 1144, .iconst 1, .iadd, .putfield 1144, .iinc 1 1, .goto 5, .iconst 0, .istore 1, .iload 1, .aload 0, .invokevirtual 173, .if_icmp .ge 81, .iload 1, .istore 2, .aload 0, .getfield 1143, .iload 2, .iaload, .iconst (-1), .if_icmp .ne 71, .aload 0, .iload 2, .invokevirtual 197, .istore 2, .goto 60, .aload 0, .getfield 1142, .iload 1, .aload 0, .getfield 1143, .iload 2, .iaload, .iastore, .iinc 1 1, .goto 54, .aload 0, .dup, .getfield 1144, .aload 0, .getfield 1101, .iconst 0, .iaload, .ifCond .le 96, .aload 0, .getfield 1101, .iconst 1, .iaload, .ifCond .ne 96, .iconst 1, .goto 97, .iconst 0, .iadd, .putfield 1144, .aload 0, .dup, .getfield 1144, .aload 0, .getfield 1101, .iconst 0, .iaload, .iconst 1, .if_icmp .le 115, .aload 0, .getfield 1101, .iconst 2, .iaload, .ifCond .ne 115, .iconst 1, .goto 116, .iconst 0, .iadd, .putfield 1144, .return_]
def kc_M_goesUnder : List Instr := [.iconst 0, .istore 2, .aload 0, .iload 1, .invokevirtual 199, .istore 3, .iload 3, .aload 0, .iload 1, .invokevirtual 199, .aload 0, .getfield 1101, .iconst 1, .iload 1, .iadd, .iaload, .iadd, .if_icmp .ge 31, .iload 2, .ifCond .ne 25, .aload 0, .getfield 1103, .iload 3, .iaload, .ifCond .ne 27, .iconst 1, .goto 28, .iconst 0, .istore 2, .iinc 3 1, .goto 6, .iload 2, .ireturn]
def kc_M_bridge : List Instr := [.aload 0, .iload 1, .invokevirtual 196, .ifCond .ne 6, .iconst (-1), .ireturn, .iload 2, .tableswitch 23 0 2 #[8, 13, 18], .aload 0, .getfield 1104, .iload 1, .iaload, .ireturn, .aload 0, .getfield 1113, .iload 1, .iaload, .ireturn, .aload 0, .getfield 1114, .iload 1, .iaload, .ireturn, .iconst (-1), .ireturn]
def kc_M_land : List Instr := [.aload 0, .invokevirtual 226, .ifCond .eq 9, .iload 1, .i2l, .sipush 0, .sipush 3, .invokestatic 188, .ifCond .ne 11, .iconst (-1), .ireturn, .aload 0, .invokevirtual 195, .iconst 0, .istore 2, .iconst 0, .istore 3, .iconst 0, .istore 4, .iload 4, .aload 0, .getfield 1120, .if_icmp .ge 50, .aload 0, .getfield 1117, .iload 4, .iaload, .iload 2, .if_icmp .le 34, .aload 0, .getfield 1117, .iload 4, .iaload, .goto 35, .iload 2, .istore 2, .iload 3, .aload 0, .getfield 1117, .iload 4, .iaload, .iload 1, .if_icmp .ne 45, .iconst 1, .goto 46, .iconst 0, .iadd, .istore 3, .iinc 4 1, .goto 19, .iload 1, .ifCond .ne 55, .aload 0, .getfield 1120, .goto 61, .iload 1, .iconst 1, .if_icmp .ne 60, .iload 2, .goto 61, .iload 3, .ireturn]
def kc_M_isTown : List Instr := [.aload 0, .getfield 1101, .iconst 0, .iaload, .ifCond .le 7, .iconst 1, .goto 8, .iconst 0, .ireturn]
def kc_M_off : List Instr := [.aload 0, .iload 1, .invokevirtual 228, .istore 2, .iload 2, .ifCond .eq 19, .aload 0, .iconst 1, .iload 1, .ishl, .invokevirtual 229, .aload 0, .getfield 1101, .iconst 3, .dup2, .iaload, .iconst 1, .iadd, .iastore, .iload 2, .ireturn]
def kc_M_isOff : List Instr := [.aload 0, .iload 1, .invokevirtual 196, .ifCond .eq 28, .aload 0, .aload 0, .getfield 1113, .iload 1, .iaload, .invokevirtual 203, .aload 0, .getfield 1114, .iload 1, .iaload, .if_icmp .eq 26, .aload 0, .aload 0, .getfield 1114, .iload 1, .iaload, .invokevirtual 203, .aload 0, .getfield 1113, .iload 1, .iaload, .if_icmp .ne 28, .iconst 1, .goto 29, .iconst 0, .ireturn]
def kc_M_removes : List Instr := [.iconst 0, .istore 2, .iconst 0, .istore 3, .aload 0, .invokevirtual 173, .istore 4, .iconst 0, .istore 5, .iload 5, .iload 4, .if_icmp .ge 52, .iload 1, .aload 0, .getfield 1102, .iload 5, .iaload, .ishr, .iconst 1, .iand, .ifCond .ne 50, .iload 3, .iload 5, .aload 0, .getfield 1101, .iconst 1, .iaload, .if_icmp .ge 30, .iconst 1, .goto 31, .iconst 0, .iadd, .istore 3, .aload 0, .getfield 1102, .iload 2, .aload 0, .getfield 1102, .iload 5, .iaload, .iastore, .aload 0, .getfield 1103, .iload 2, .aload 0, .getfield 1103, .iload 5, .iaload, .iastore, .iinc 2 1, .iinc 5 1, .goto 9, .aload 0, .getfield 1101, .iconst 1, .iload 3, .iastore, .aload 0, .getfield 1101, .iconst 2, .iload 2, .iload 3, .isub, .iastore, .aload 0, .invokevirtual 172, .return_]
def kc_M_apart : List Instr := [.aload 0, .invokevirtual 195, .aload 0, .iload 1, .iload 2, .invokevirtual 231, .istore 3, .iload 3, .ifCond .eq 26, .aload 0, .iconst 1, .iload 1, .ishl, .iconst 1, .iload 2, .ishl, .ior, .invokevirtual 229, .aload 0, .getfield 1101, .iconst 3, .dup2, .iaload, .iconst 1, .iadd, .iastore, .iload 3, .ireturn]
def kc_M_isApart : List Instr := [.aload 0, .iload 1, .invokevirtual 196, .ifCond .eq 11, .aload 0, .iload 2, .invokevirtual 196, .ifCond .eq 11, .iload 1, .iload 2, .if_icmp .ne 13, .iconst 0, .ireturn, .iconst 0, .istore 3, .iload 3, .aload 0, .getfield 1120, .if_icmp .ge 77, .aload 0, .getfield 1117, .iload 3, .iaload, .iconst 2, .if_icmp .ne 75, .aload 0, .getfield 1118, .iload 3, .iaload, .iconst 2, .idiv, .istore 4, .aload 0, .getfield 1115, .aload 0, .getfield 1118, .iload 3, .iaload, .iconst 1, .ixor, .iaload, .iconst 2, .idiv, .istore 5, .iload 4, .iload 5, .if_icmp .eq 75, .aload 0, .iload 4, .iload 1, .iload 2, .invokevirtual 232, .ifCond .eq 75, .aload 0, .iload 5, .iload 1, .iload 2, .invokevirtual 232, .ifCond .eq 75, .aload 0, .iload 4, .invokevirtual 233, .aload 0, .iload 5, .invokevirtual 233, .iadd, .iconst 2, .if_icmp .ne 75, .aload 0, .iload 4, .invokevirtual 233, .iconst 1, .if_icmp .eq 75, .iconst 1, .ireturn, .iinc 3 1, .goto 15, .iconst 0, .ireturn]
def kc_M_isBetween : List Instr := [.aload 0, .getfield 1102, .iload 1, .iaload, .istore 4, .aload 0, .getfield 1102, .aload 0, .iload 1, .invokevirtual 203, .iaload, .istore 5, .iload 4, .iload 2, .if_icmp .ne 18, .iload 5, .iload 3, .if_icmp .eq 24, .iload 4, .iload 3, .if_icmp .ne 26, .iload 5, .iload 2, .if_icmp .ne 26, .iconst 1, .goto 27, .iconst 0, .ireturn]
def kc_M_heightOf : List Instr := [.aload 0, .getfield 1103, .iload 1, .iaload, .aload 0, .getfield 1103, .aload 0, .iload 1, .invokevirtual 203, .iaload, .iadd, .ireturn]
def kc_M_slide : List Instr := [.aload 0, .invokevirtual 195, .aload 0, .iload 1, .iload 2, .iload 3, .invokevirtual 235, .istore 4, .iload 4, .ifCond .eq 20, .aload 0, .invokevirtual 237, .aload 0, .getfield 1101, .iconst 3, .dup2, .iaload, .iconst 1, .iadd, .iastore, .iload 4, .ireturn]
def kc_M_isSlide : List Instr := [.aload 0, .iload 1, .invokevirtual 196, .ifCond .eq 21, .aload 0, .iload 2, .invokevirtual 196, .ifCond .eq 21, .aload 0, .iload 3, .invokevirtual 196, .ifCond .eq 21, .iload 1, .iload 2, .if_icmp .eq 21, .iload 2, .iload 3, .if_icmp .eq 21, .iload 1, .iload 3, .if_icmp .ne 23, .iconst 0, .ireturn, .iconst 0, .istore 4, .iload 4, .aload 0, .getfield 1120, .if_icmp .ge 54, .aload 0, .getfield 1117, .iload 4, .iaload, .iconst 3, .if_icmp .ne 52, .aload 0, .iload 4, .iconst 1, .iload 1, .ishl, .iconst 1, .iload 2, .ishl, .ior, .iconst 1, .iload 3, .ishl, .ior, .invokevirtual 236, .ifCond .eq 52, .iconst 1, .ireturn, .iinc 4 1, .goto 25, .iconst 0, .ireturn]
def kc_M_isSlideLand : List Instr := [.aload 0, .getfield 1118, .iload 1, .iaload, .istore 3, .iconst 0, .istore 4, .iconst 0, .istore 5, .iconst 1, .istore 6, .iconst 0, .istore 7, .iload 7, .iconst 3, .if_icmp .ge 92, .iload 3, .iconst 2, .idiv, .istore 8, .aload 0, .getfield 1145, .iload 7, .iload 8, .iastore, .iconst 1, .aload 0, .getfield 1102, .iload 8, .iaload, .ishl, .iconst 1, .aload 0, .getfield 1102, .aload 0, .iload 8, .invokevirtual 203, .iaload, .ishl, .ior, .istore 9, .iload 6, .ifCond .eq 67, .aload 0, .getfield 1102, .iload 8, .iaload, .aload 0, .getfield 1102, .aload 0, .iload 8, .invokevirtual 203, .iaload, .if_icmp .eq 67, .iload 9, .iload 2, .iand, .iload 9, .if_icmp .ne 67, .iload 4, .iload 2, .iload 9, .ixor, .iand, .ifCond .ne 67, .iconst 1, .goto 68, .iconst 0, .istore 6, .iload 4, .iload 2, .iload 9, .ixor, .ior, .istore 4, .iload 5, .iconst 1, .aload 0, .iload 8, .invokevirtual 233, .ishl, .ior, .istore 5, .aload 0, .getfield 1115, .iload 3, .iconst 1, .ixor, .iaload, .istore 3, .iinc 7 1, .goto 13, .iload 6, .ifCond .eq 99, .iload 5, .iconst 7, .if_icmp .ne 99, .iconst 1, .goto 100, .iconst 0, .ireturn]
def kc_M_slides : List Instr := [.iconst 0, .istore 1, .iload 1, .iconst 3, .if_icmp .ge 13, .aload 0, .aload 0, .getfield 1145, .iload 1, .iaload, .invokevirtual 238, .iinc 1 1, .goto 2, .aload 0, .invokevirtual 172, .return_]
def kc_M_swapsPasses : List Instr := [.aload 0, .iload 1, .invokevirtual 203, .istore 2, .aload 0, .getfield 1102, .iload 1, .iaload, .istore 3, .aload 0, .getfield 1103, .iload 1, .iaload, .istore 4, .aload 0, .getfield 1102, .iload 1, .aload 0, .getfield 1102, .iload 2, .iaload, .iastore, .aload 0, .getfield 1103, .iload 1, .aload 0, .getfield 1103, .iload 2, .iaload, .iastore, .aload 0, .getfield 1102, .iload 2, .iload 3, .iastore, .aload 0, .getfield 1103, .iload 2, .iload 4, .iastore, .return_]
def kc_M_change : List Instr := [.aload 0, .iload 1, .invokevirtual 196, .ifCond .ne 6, .iconst (-1), .ireturn, .aload 0, .iload 1, .invokevirtual 240, .aload 0, .getfield 1104, .iload 1, .iaload, .ireturn]
def kc_M_changes1 : List Instr := [.aload 0, .getfield 1103, .aload 0, .getfield 1113, .iload 1, .iaload, .iconst 0, .iastore, .aload 0, .getfield 1103, .aload 0, .getfield 1114, .iload 1, .iaload, .iconst 1, .iastore, .aload 0, .getfield 1104, .iload 1, .iconst 1, .aload 0, .getfield 1104, .iload 1, .iaload, .isub, .iastore, .aload 0, .invokevirtual 172, .return_]
def kc_M_twist : List Instr := [.aload 0, .iload 1, .invokevirtual 221, .ifCond .eq 8, .aload 0, .invokevirtual 201, .iconst 11, .if_icmp .ne 10, .iconst (-1), .ireturn, .iconst 0, .istore 4, .aload 0, .iload 4, .invokevirtual 196, .ifCond .eq 18, .iinc 4 1, .goto 12, .aload 0, .iload 1, .invokevirtual 198, .istore 5, .aload 0, .invokevirtual 173, .iconst 1, .isub, .istore 6, .iload 6, .iload 1, .if_icmp .le 52, .aload 0, .getfield 1102, .iload 6, .iconst 2, .iadd, .aload 0, .getfield 1102, .iload 6, .iaload, .iastore, .aload 0, .getfield 1103, .iload 6, .iconst 2, .iadd, .aload 0, .getfield 1103, .iload 6, .iaload, .iastore, .iinc 6 (-1), .goto 27, .aload 0, .getfield 1102, .iload 1, .iconst 1, .iadd, .iload 4, .iastore, .aload 0, .getfield 1103, .iload 1, .iconst 1, .iadd, .iload 2, .ifCond .eq 68, .iconst 1, .goto 69, .iconst 0, .iastore, .aload 0, .getfield 1102, .iload 1, .iconst 2, .iadd, .iload 4, .iastore, .aload 0, .getfield 1103, .iload 1, .iconst 2, .iadd, .iload 2, .ifCond .eq 86, .iconst 0, .goto 87, .iconst 1, .iastore, .aload 0, .getfield 1104, .iload 4, .iload 3, .ifCond .eq 95, .iconst 1, .goto 96, .iconst 0, .iastore, .aload 0, .getfield 1101, .iconst 1, .iload 5, .iadd, .dup2, .iaload, .iconst 2, .iadd, .iastore, .aload 0, .invokevirtual 172, .iload 4, .ireturn]
def kc_M_mirror : List Instr := [.aload 0, .invokevirtual 226, .ifCond .ne 5, .iconst (-1), .ireturn, .iconst 0, .istore 1, .iload 1, .iconst 11, .if_icmp .ge 19, .aload 0, .iload 1, .invokevirtual 196, .ifCond .eq 17, .aload 0, .iload 1, .invokevirtual 240, .iinc 1 1, .goto 7, .aload 0, .invokevirtual 201, .ireturn]
def kc_M_backToFront : List Instr := [.iload 1, .i2l, .sipush 0, .aload 0, .getfield 1101, .iconst 0, .iaload, .iconst 1, .isub, .i2l, .invokestatic 188, .ifCond .ne 14, .iconst (-1), .ireturn, .iconst 0, .istore 2, .iload 2, .iconst 11, .if_icmp .ge 39, .aload 0, .iload 2, .invokevirtual 196, .ifCond .eq 37, .aload 0, .iload 2, .invokevirtual 244, .ifCond .eq 37, .aload 0, .getfield 1104, .iload 2, .iconst 1, .aload 0, .getfield 1104, .iload 2, .iaload, .isub, .iastore, .iinc 2 1, .goto 16, .aload 0, .iload 1, .invokevirtual 199, .istore 2, .aload 0, .getfield 1101, .iconst 1, .iload 1, .iadd, .iaload, .istore 3, .iconst 0, .istore 4, .iload 4, .iload 3, .iconst 2, .idiv, .if_icmp .ge 107, .iload 2, .iload 4, .iadd, .istore 5, .iload 2, .iload 3, .iadd, .iconst 1, .isub, .iload 4, .isub, .istore 6, .aload 0, .getfield 1102, .iload 5, .iaload, .istore 7, .aload 0, .getfield 1103, .iload 5, .iaload, .istore 8, .aload 0, .getfield 1102, .iload 5, .aload 0, .getfield 1102, .iload 6, .iaload, .iastore, .aload 0, .getfield 1103, .iload 5, .aload 0, .getfield 1103, .iload 6, .iaload, .iastore, .aload 0, .getfield 1102, .iload 6, .iload 7, .iastore, .aload 0, .getfield 1103, .iload 6, .iload 8, .iastore, .iinc 4 1, .goto 52, .aload 0, .invokevirtual 172, .iload 3, .ireturn]
def kc_M_isOfBoth : List Instr := [.aload 0, .aload 0, .getfield 1113, .iload 1, .iaload, .invokevirtual 198, .aload 0, .aload 0, .getfield 1114, .iload 1, .iaload, .invokevirtual 198, .if_icmp .eq 15, .iconst 1, .goto 16, .iconst 0, .ireturn]
def kc_M_can : List Instr := [.aload 0, .invokevirtual 226, .ifCond .eq 9, .iload 1, .i2l, .sipush 1, .sipush 3, .invokestatic 188, .ifCond .ne 11, .iconst (-1), .ireturn, .aload 0, .invokevirtual 195, .iconst 0, .istore 2, .iconst 0, .istore 3, .iload 3, .iconst 1463, .if_icmp .ge 36, .iload 2, .iload 3, .invokestatic 246, .iload 1, .if_icmp .ne 31, .aload 0, .iload 3, .invokevirtual 247, .ifCond .eq 31, .iconst 1, .goto 32, .iconst 0, .iadd, .istore 2, .iinc 3 1, .goto 17, .iload 2, .ireturn]
def kc_M_kindOf : List Instr := [.iload 0, .iconst 11, .if_icmp .ge 5, .iconst 1, .goto 11, .iload 0, .iconst 132, .if_icmp .ge 10, .iconst 2, .goto 11, .iconst 3, .ireturn]
def kc_M_canMove : List Instr := [.iload 1, .iconst 0, .invokestatic 248, .istore 2, .iload 1, .iconst 1, .invokestatic 248, .istore 3, .iload 1, .iconst 2, .invokestatic 248, .istore 4, .iload 1, .invokestatic 246, .lookupswitch 31 #[(1, 15), (2, 19)], .aload 0, .iload 2, .invokevirtual 228, .ireturn, .iload 2, .iload 3, .if_icmp .ge 29, .aload 0, .iload 2, .iload 3, .invokevirtual 231, .ifCond .eq 29, .iconst 1, .goto 30, .iconst 0, .ireturn, .iload 2, .iload 3, .if_icmp .ge 45, .iload 3, .iload 4, .if_icmp .ge 45, .aload 0, .iload 2, .iload 3, .iload 4, .invokevirtual 235, .ifCond .eq 45, .iconst 1, .goto 46, .iconst 0, .ireturn]
def kc_M_bridgeOf : List Instr := [.iload 0, .invokestatic 246, .istore 2, .iload 1, .iload 2, .if_icmp .lt 8, .iconst (-1), .ireturn, .iload 2, .iconst 1, .if_icmp .ne 13, .iload 0, .goto 25, .iload 2, .iconst 2, .if_icmp .ne 20, .iload 0, .iconst 11, .isub, .goto 25, .iload 0, .iconst 11, .isub, .iconst 121, .isub, .istore 3, .iload 2, .iconst 1, .isub, .istore 4, .iload 4, .iload 1, .if_icmp .le 39, .iload 3, .iconst 11, .idiv, .istore 3, .iinc 4 (-1), .goto 30, .iload 3, .iconst 11, .irem, .ireturn]
def kc_M_writhe : List Instr := [.aload 0, .invokevirtual 226, .ifCond .eq 7, .aload 0, .iconst 0, .invokevirtual 250, .goto 8, .iconst (-1000), .ireturn]
def kc_M_sumOfHands : List Instr := [.iconst 0, .istore 2, .iconst 0, .istore 3, .iload 3, .iconst 11, .if_icmp .ge 31, .aload 0, .iload 3, .invokevirtual 196, .ifCond .eq 29, .iload 1, .ifCond .eq 17, .aload 0, .iload 3, .invokevirtual 244, .ifCond .eq 29, .iload 2, .aload 0, .getfield 1104, .iload 3, .iaload, .iconst 1, .if_icmp .ne 26, .iconst 1, .goto 27, .iconst (-1), .iadd, .istore 2, .iinc 3 1, .goto 4, .iload 2, .ireturn]
def kc_M_linked : List Instr := [.aload 0, .getfield 1101, .iconst 0, .iaload, .iconst 2, .if_icmp .ne 12, .aload 0, .iconst 1, .invokevirtual 250, .iconst 2, .idiv, .goto 13, .iconst (-1000), .ireturn]
def kc_M_colours : List Instr := [.aload 0, .invokevirtual 226, .ifCond .eq 18, .iload 1, .iconst 3, .if_icmp .eq 20, .iload 1, .iconst 5, .if_icmp .eq 20, .iload 1, .iconst 7, .if_icmp .eq 20, .iload 1, .iconst 11, .if_icmp .eq 20, .iload 1, .iconst 13, .if_icmp .eq 20, .sipush (-1), .lreturn, .aload 0, .invokevirtual 253, .istore 2, .iconst 0, .istore 3, .iconst 0, .istore 4, .iload 4, .aload 0, .getfield 1144, .if_icmp .ge 142, .iload 3, .iload 2, .if_icmp .ge 142, .iload 3, .istore 5, .iload 5, .iload 2, .if_icmp .ge 54, .aload 0, .getfield 1146, .iconst 13, .iload 5, .imul, .iload 4, .iadd, .laload, .iload 1, .invokestatic 254, .sipush 0, .lcmp, .ifCond .ne 54, .iinc 5 1, .goto 36, .iload 5, .iload 2, .if_icmp .ge 140, .aload 0, .iload 5, .iload 3, .invokevirtual 255, .aload 0, .getfield 1146, .iconst 13, .iload 3, .imul, .iload 4, .iadd, .laload, .iload 1, .invokestatic 254, .iload 1, .invokestatic 256, .lstore 6, .iconst 0, .istore 8, .iload 8, .iload 2, .if_icmp .ge 139, .aload 0, .getfield 1146, .iconst 13, .iload 8, .imul, .iload 4, .iadd, .laload, .iload 1, .invokestatic 254, .lload 6, .lmul, .iload 1, .i2l, .lrem, .lstore 9, .iconst 0, .istore 11, .iload 11, .aload 0, .getfield 1144, .if_icmp .ge 137, .iload 8, .iload 3, .if_icmp .eq 137, .aload 0, .getfield 1146, .iconst 13, .iload 8, .imul, .iload 11, .iadd, .aload 0, .getfield 1146, .iconst 13, .iload 8, .imul, .iload 11, .iadd, .laload, .lload 9, .aload 0, .getfield 1146, .iconst 13, .iload 3, .imul, .iload 11, .iadd, .laload, .iload 1, .invokestatic 254, .lmul, .lsub, .iload 1, .invokestatic 254, .lastore, .iinc 11 1, .goto 97, .iinc 8 1, .goto 76, .iinc 3 1, .iinc 4 1, .goto 27, .sipush 1, .lstore 4, .iload 3, .istore 6, .iload 6, .aload 0, .getfield 1144, .if_icmp .ge 157, .lload 4, .iload 1, .i2l, .lmul, .lstore 4, .iinc 6 1, .goto 146, .lload 4, .lreturn]
def kc_M_fillsMatrix : List Instr := [.aload 0, .invokevirtual 222, .iconst 0, .istore 1, .iconst 0, .istore 2, .iload 2, .iconst 11, .if_icmp .ge 88, .aload 0, .iload 2, .invokevirtual 196, .ifCond .eq 86, .iconst 0, .istore 3, .iload 3, .iconst 13, .if_icmp .ge 29, .aload 0, .getfield 1146, .iconst 13, .iload 1, .imul, .iload 3, .iadd, .sipush 0, .lastore, .iinc 3 1, .goto 15, .aload 0, .getfield 1146, .iconst 13, .iload 1, .imul, .aload 0, .getfield 1142, .aload 0, .getfield 1113, .iload 2, .iaload, .iaload, .iadd, .dup2, .laload, .sipush 2, .ladd, .lastore, .aload 0, .getfield 1146, .iconst 13, .iload 1, .imul, .aload 0, .getfield 1142, .aload 0, .getfield 1114, .iload 2, .iaload, .iaload, .iadd, .dup2, .laload, .sipush 1, .lsub, .lastore, .aload 0, .getfield 1146, .iconst 13, .iload 1, .imul, .aload 0, .getfield 1142, .aload 0, .aload 0, .getfield 1114, .iload 2, .iaload, .invokevirtual 197, .iaload, .iadd, .dup2, .laload, .sipush 1, .lsub, .lastore, .iinc 1 1, .iinc 2 1, .goto 6, .iload 1, .ireturn]
def kc_M_modulo : List Instr := [.lload 0, .iload 2, .i2l, .lrem, .iload 2, .i2l, .ladd, .iload 2, .i2l, .lrem, .lreturn]
def kc_M_swapsRows : List Instr := [.iconst 0, .istore 3, .iload 3, .iconst 13, .if_icmp .ge 41, .aload 0, .getfield 1146, .iconst 13, .iload 1, .imul, .iload 3, .iadd, .laload, .lstore 4, .aload 0, .getfield 1146, .iconst 13, .iload 1, .imul, .iload 3, .iadd, .aload 0, .getfield 1146, .iconst 13, .iload 2, .imul, .iload 3, .iadd, .laload, .lastore, .aload 0, .getfield 1146, .iconst 13, .iload 2, .imul, .iload 3, .iadd, .lload 4, .lastore, .iinc 3 1, .goto 2, .return_]
def kc_M_inverse : List Instr := [.sipush 1, .lstore 3, .lload 0, .lload 3, .lmul, .iload 2, .i2l, .lrem, .sipush 1, .lcmp, .ifCond .eq 16, .lload 3, .sipush 1, .ladd, .lstore 3, .goto 2, .lload 3, .lreturn]
def kc_M_determinant : List Instr := [.aload 0, .invokevirtual 226, .ifCond .ne 5, .sipush (-1), .lreturn, .aload 0, .invokevirtual 253, .istore 1, .aload 0, .getfield 1144, .iload 1, .iconst 1, .iadd, .if_icmp .le 16, .sipush 0, .lreturn, .aload 0, .getfield 1144, .iconst 1, .isub, .istore 2, .sipush 1, .lstore 3, .iconst 0, .istore 5, .iload 5, .iload 2, .if_icmp .ge 129, .iload 5, .istore 6, .iload 6, .iload 2, .if_icmp .ge 46, .aload 0, .getfield 1146, .iconst 13, .iload 6, .imul, .iload 5, .iadd, .laload, .sipush 0, .lcmp, .ifCond .ne 46, .iinc 6 1, .goto 30, .iload 6, .iload 2, .if_icmp .ne 51, .sipush 0, .lreturn, .aload 0, .iload 6, .iload 5, .invokevirtual 255, .iload 5, .iconst 1, .iadd, .istore 7, .iload 7, .iload 2, .if_icmp .ge 118, .iload 5, .iconst 1, .iadd, .istore 8, .iload 8, .iload 2, .if_icmp .ge 116, .aload 0, .getfield 1146, .iconst 13, .iload 7, .imul, .iload 8, .iadd, .aload 0, .getfield 1146, .iconst 13, .iload 7, .imul, .iload 8, .iadd, .laload, .aload 0, .getfield 1146, .iconst 13, .iload 5, .imul, .iload 5, .iadd, .laload, .lmul, .aload 0, .getfield 1146, .iconst 13, .iload 7, .imul, .iload 5, .iadd, .laload, .aload 0, .getfield 1146, .iconst 13, .iload 5, .imul, .iload 8, .iadd, .laload, .lmul, .lsub, .lload 3, .ldiv, .lastore, .iinc 8 1, .goto 66, .iinc 7 1, .goto 59, .aload 0, .getfield 1146, .iconst 13, .iload 5, .imul, .iload 5, .iadd, .laload, .lstore 3, .iinc 5 1, .goto 25, .lload 3, .sipush 0, .lcmp, .ifCond .ge 136, .lload 3, .lneg, .goto 137, .lload 3, .lreturn]
def kc_M_polynomial : List Instr := [.aload 0, .invokevirtual 226, .ifCond .eq 15, .iload 1, .i2l, .sipush 0, .sipush 1, .invokestatic 188, .ifCond .eq 15, .iload 2, .i2l, .sipush (-99), .sipush 99, .invokestatic 188, .ifCond .ne 17, .iconst 0, .ireturn, .aload 0, .invokevirtual 259, .aload 0, .iconst 0, .invokevirtual 250, .istore 3, .iload 1, .ifCond .ne 27, .iload 2, .goto 32, .iload 2, .iconst 3, .iload 3, .imul, .iadd, .istore 4, .iload 4, .i2l, .sipush (-99), .sipush 99, .invokestatic 188, .ifCond .eq 46, .aload 0, .getfield 1147, .iconst 99, .iload 4, .iadd, .iaload, .goto 47, .iconst 0, .istore 5, .iload 1, .iconst 1, .if_icmp .ne 58, .iload 3, .iconst 2, .irem, .ifCond .eq 58, .iload 5, .ineg, .goto 59, .iload 5, .ireturn]
def kc_M_fillsBracket : List Instr := [.iconst 0, .istore 1, .iload 1, .iconst 199, .if_icmp .ge 12, .aload 0, .getfield 1147, .iload 1, .iconst 0, .iastore, .iinc 1 1, .goto 2, .aload 0, .invokevirtual 260, .istore 1, .iconst 0, .istore 2, .iload 2, .iconst 2048, .if_icmp .ge 41, .iload 2, .iload 1, .iand, .iload 2, .if_icmp .ne 39, .aload 0, .iconst 2, .iload 2, .invokestatic 261, .imul, .aload 0, .invokevirtual 201, .isub, .aload 0, .iload 2, .invokevirtual 262, .iconst 1, .isub, .invokevirtual 264, .iinc 2 1, .goto 17, .return_]
def kc_M_presentSet : List Instr := [.iconst 0, .istore 1, .iconst 0, .istore 2, .iload 2, .iconst 11, .if_icmp .ge 21, .iload 1, .aload 0, .iload 2, .invokevirtual 196, .ifCond .eq 16, .iconst 1, .iload 2, .ishl, .goto 17, .iconst 0, .ior, .istore 1, .iinc 2 1, .goto 4, .iload 1, .ireturn]
def kc_M_ones : List Instr := [.iconst 0, .istore 1, .iconst 0, .istore 2, .iload 2, .iconst 11, .if_icmp .ge 17, .iload 1, .iload 0, .iload 2, .ishr, .iconst 1, .iand, .iadd, .istore 1, .iinc 2 1, .goto 4, .iload 1, .ireturn]
def kc_M_rings : List Instr := [.iconst 0, .istore 2, .iload 2, .aload 0, .invokevirtual 173, .if_icmp .ge 13, .aload 0, .getfield 1148, .iload 2, .iload 2, .iastore, .iinc 2 1, .goto 2, .iconst 0, .istore 2, .iload 2, .iconst 11, .if_icmp .ge 95, .aload 0, .iload 2, .invokevirtual 196, .ifCond .eq 93, .iload 1, .iload 2, .ishr, .iconst 1, .iand, .iconst 1, .if_icmp .ne 31, .iconst 1, .goto 32, .iconst 0, .istore 3, .iload 3, .aload 0, .getfield 1104, .iload 2, .iaload, .iconst 1, .if_icmp .ne 42, .iconst 1, .goto 43, .iconst 0, .if_icmp .ne 69, .aload 0, .aload 0, .aload 0, .getfield 1113, .iload 2, .iaload, .invokevirtual 197, .aload 0, .getfield 1114, .iload 2, .iaload, .invokevirtual 263, .aload 0, .aload 0, .aload 0, .getfield 1114, .iload 2, .iaload, .invokevirtual 197, .aload 0, .getfield 1113, .iload 2, .iaload, .invokevirtual 263, .goto 93, .aload 0, .aload 0, .aload 0, .getfield 1113, .iload 2, .iaload, .invokevirtual 197, .aload 0, .aload 0, .getfield 1114, .iload 2, .iaload, .invokevirtual 197, .invokevirtual 263, .aload 0, .aload 0, .getfield 1113, .iload 2, .iaload, .aload 0, .getfield 1114, .iload 2, .iaload, .invokevirtual 263, .iinc 2 1, .goto 15, .iconst 0, .istore 2, .iconst 0, .istore 3, .iload 3, .aload 0, .invokevirtual 173, .if_icmp .ge 117, .iload 2, .aload 0, .getfield 1148, .iload 3, .iaload, .iload 3, .if_icmp .ne 112, .iconst 1, .goto 113, .iconst 0, .iadd, .istore 2, .iinc 3 1, .goto 99, .iload 2, .aload 0, .getfield 1101, .iconst 1, .iaload, .ifCond .ne 125, .iconst 1, .goto 126, .iconst 0, .iadd, .istore 2, .iload 2, .aload 0, .getfield 1101, .iconst 0, .iaload, .iconst 2, .if_icmp .ne 142, .aload 0, .getfield 1101, .iconst 2, .iaload, .ifCond .ne 142, .iconst 1, .goto 143, .iconst 0, .iadd, .ireturn]
def kc_M_joins : List Instr := [.aload 0, .getfield 1148, .iload 1, .iaload, .istore 3, .aload 0, .getfield 1148, .iload 2, .iaload, .istore 4, .iconst 0, .istore 5, .iload 5, .aload 0, .invokevirtual 173, .if_icmp .ge 34, .aload 0, .getfield 1148, .iload 5, .aload 0, .getfield 1148, .iload 5, .iaload, .iload 4, .if_icmp .ne 27, .iload 3, .goto 31, .aload 0, .getfield 1148, .iload 5, .iaload, .iastore, .iinc 5 1, .goto 12, .return_]
def kc_M_adds : List Instr := [.iload 2, .iconst 2, .irem, .ifCond .ne 6, .iconst 1, .goto 7, .iconst (-1), .istore 3, .iconst 0, .istore 4, .iload 4, .iload 2, .if_icmp .gt 43, .aload 0, .getfield 1147, .iconst 99, .iload 1, .iadd, .iconst 2, .iload 2, .imul, .iadd, .iconst 4, .iload 4, .imul, .isub, .dup2, .iaload, .iload 3, .iadd, .iastore, .iload 3, .iload 2, .iload 4, .isub, .imul, .iload 4, .iconst 1, .iadd, .idiv, .istore 3, .iinc 4 1, .goto 10, .return_]
def kc_M_shaken : List Instr := [.aload 0, .invokevirtual 226, .ifCond .eq 6, .aload 0, .invokevirtual 266, .goto 7, .iconst (-1), .ireturn]
def kc_M_finds : List Instr := [.aload 0, .invokevirtual 191, .aload 0, .iconst 0, .putfield 1152, .aload 0, .iconst (-1), .putfield 1153, .aload 0, .iconst (-1), .iconst (-1), .invokevirtual 267, .istore 1, .iconst 0, .istore 2, .iload 2, .aload 0, .getfield 1152, .if_icmp .ge 63, .iload 2, .iconst 300, .if_icmp .ge 63, .aload 0, .getfield 1153, .iconst (-1), .if_icmp .ne 63, .iload 1, .ifCond .ne 63, .aload 0, .iload 2, .invokevirtual 270, .aload 0, .invokevirtual 195, .iconst 0, .istore 3, .iload 3, .iconst 1463, .if_icmp .ge 61, .aload 0, .getfield 1153, .iconst (-1), .if_icmp .ne 61, .iload 1, .ifCond .ne 61, .aload 0, .iload 3, .invokevirtual 247, .ifCond .eq 59, .aload 0, .iload 3, .invokevirtual 271, .aload 0, .iload 2, .iload 3, .invokevirtual 267, .istore 1, .aload 0, .iload 2, .invokevirtual 270, .iinc 3 1, .goto 35, .iinc 2 1, .goto 15, .aload 0, .invokevirtual 204, .aload 0, .getfield 1153, .iconst (-1), .if_icmp .ne 75, .iload 1, .ifCond .eq 73, .iconst (-3), .goto 74, .iconst (-2), .ireturn, .iconst 0, .istore 2, .aload 0, .getfield 1153, .istore 3, .aload 0, .getfield 1150, .iload 3, .iaload, .iconst (-1), .if_icmp .eq 93, .iinc 2 1, .aload 0, .getfield 1150, .iload 3, .iaload, .istore 3, .goto 80, .iload 2, .ireturn]
def kc_M_comes : List Instr := [.aload 0, .invokevirtual 268, .ifCond .eq 5, .iconst 0, .ireturn, .aload 0, .invokevirtual 173, .ifCond .ne 10, .iconst 1, .goto 11, .iconst 0, .istore 3, .aload 0, .getfield 1152, .iconst 300, .if_icmp .ne 20, .iload 3, .ifCond .ne 20, .iconst 1, .ireturn, .aload 0, .getfield 1150, .aload 0, .getfield 1152, .iload 1, .iastore, .aload 0, .getfield 1151, .aload 0, .getfield 1152, .iload 2, .iastore, .aload 0, .iload 3, .ifCond .eq 38, .aload 0, .getfield 1152, .goto 40, .aload 0, .getfield 1153, .putfield 1153, .aload 0, .dup, .getfield 1152, .iconst 1, .iadd, .putfield 1152, .iconst 0, .ireturn]
def kc_M_isOld : List Instr := [.aload 0, .aload 0, .getfield 1152, .invokevirtual 269, .iconst 0, .istore 1, .iload 1, .aload 0, .getfield 1152, .if_icmp .ge 49, .iconst 1, .istore 2, .iconst 0, .istore 3, .iload 3, .iconst 24, .if_icmp .ge 43, .iload 2, .ifCond .eq 43, .aload 0, .getfield 1149, .iconst 24, .iload 1, .imul, .iload 3, .iadd, .iaload, .aload 0, .getfield 1149, .iconst 24, .aload 0, .getfield 1152, .imul, .iload 3, .iadd, .iaload, .if_icmp .ne 39, .iconst 1, .goto 40, .iconst 0, .istore 2, .iinc 3 1, .goto 14, .iload 2, .ifCond .eq 47, .iconst 1, .ireturn, .iinc 1 1, .goto 6, .iconst 0, .ireturn]
def kc_M_fillsRow : List Instr := [.aload 0, .getfield 1149, .iconst 24, .iload 1, .imul, .aload 0, .getfield 1101, .iconst 1, .iaload, .iastore, .aload 0, .getfield 1149, .iconst 24, .iload 1, .imul, .iconst 1, .iadd, .aload 0, .getfield 1101, .iconst 2, .iaload, .iastore, .iconst 0, .istore 2, .iload 2, .iconst 22, .if_icmp .ge 56, .aload 0, .getfield 1149, .iconst 24, .iload 1, .imul, .iconst 2, .iadd, .iload 2, .iadd, .iload 2, .aload 0, .invokevirtual 173, .if_icmp .ge 52, .iconst 2, .aload 0, .getfield 1102, .iload 2, .iaload, .imul, .aload 0, .getfield 1103, .iload 2, .iaload, .iadd, .goto 53, .iconst (-1), .iastore, .iinc 2 1, .goto 24, .return_]
def kc_M_laysRow : List Instr := [.aload 0, .getfield 1101, .iconst 1, .aload 0, .getfield 1149, .iconst 24, .iload 1, .imul, .iaload, .iastore, .aload 0, .getfield 1101, .iconst 2, .aload 0, .getfield 1149, .iconst 24, .iload 1, .imul, .iconst 1, .iadd, .iaload, .iastore, .iconst 0, .istore 2, .iload 2, .aload 0, .invokevirtual 173, .if_icmp .ge 62, .aload 0, .getfield 1102, .iload 2, .aload 0, .getfield 1149, .iconst 24, .iload 1, .imul, .iconst 2, .iadd, .iload 2, .iadd, .iaload, .iconst 2, .idiv, .iastore, .aload 0, .getfield 1103, .iload 2, .aload 0, .getfield 1149, .iconst 24, .iload 1, .imul, .iconst 2, .iadd, .iload 2, .iadd, .iaload, .iconst 2, .irem, .iastore, .iinc 2 1, .goto 24, .aload 0, .invokevirtual 172, .return_]
def kc_M_does : List Instr := [.iload 1, .iconst 0, .invokestatic 248, .istore 2, .iload 1, .invokestatic 246, .lookupswitch 25 #[(1, 7), (2, 13)], .aload 0, .iconst 1, .iload 2, .ishl, .invokevirtual 229, .goto 27, .aload 0, .iconst 1, .iload 2, .ishl, .iconst 1, .iload 1, .iconst 1, .invokestatic 248, .ishl, .ior, .invokevirtual 229, .goto 27, .aload 0, .invokevirtual 237, .return_]
def kc_M_row : List Instr := [.aload 0, .invokevirtual 226, .ifCond .eq 11, .iload 1, .ifCond .lt 11, .iload 2, .i2l, .sipush 0, .sipush 3, .invokestatic 188, .ifCond .ne 13, .iconst (-1), .ireturn, .aload 0, .invokevirtual 266, .istore 3, .iload 3, .ifCond .lt 21, .iload 1, .iload 3, .if_icmp .lt 27, .iload 3, .ifCond .ge 25, .iload 3, .goto 26, .iconst (-2), .ireturn, .aload 0, .getfield 1153, .istore 4, .iload 3, .iconst 1, .isub, .istore 5, .iload 5, .iload 1, .if_icmp .le 44, .aload 0, .getfield 1150, .iload 4, .iaload, .istore 4, .iinc 5 (-1), .goto 34, .iload 2, .ifCond .ne 52, .aload 0, .getfield 1151, .iload 4, .iaload, .invokestatic 246, .goto 60, .aload 0, .getfield 1151, .iload 4, .iaload, .iload 2, .iconst 1, .isub, .invokestatic 248, .ireturn]
def kc_M_changes : List Instr := [.aload 0, .invokevirtual 226, .ifCond .eq 13, .aload 0, .invokevirtual 201, .iconst 6, .if_icmp .gt 13, .iload 1, .i2l, .sipush 0, .sipush 1, .invokestatic 188, .ifCond .ne 15, .iconst (-1), .ireturn, .aload 0, .invokevirtual 274, .istore 2, .iload 2, .iconst (-2), .if_icmp .eq 23, .iload 1, .ifCond .ne 25, .iload 2, .goto 27, .aload 0, .getfield 1154, .ireturn]
def kc_M_findsChanges : List Instr := [.aload 0, .invokevirtual 260, .istore 1, .iconst (-2), .istore 2, .iconst 0, .istore 3, .iload 3, .iconst 2048, .if_icmp .ge 41, .iload 3, .iload 1, .iand, .iload 3, .if_icmp .ne 39, .iload 2, .iconst (-2), .if_icmp .eq 22, .iload 3, .invokestatic 261, .iload 2, .if_icmp .ge 39, .aload 0, .iload 3, .invokevirtual 275, .aload 0, .invokevirtual 266, .istore 4, .aload 0, .iload 3, .invokevirtual 275, .iload 4, .ifCond .lt 39, .iload 3, .invokestatic 261, .istore 2, .aload 0, .iload 3, .putfield 1154, .iinc 3 1, .goto 7, .iload 2, .ireturn]
def kc_M_changesAll : List Instr := [.iconst 0, .istore 2, .iload 2, .iconst 11, .if_icmp .ge 17, .iload 1, .iload 2, .ishr, .iconst 1, .iand, .iconst 1, .if_icmp .ne 15, .aload 0, .iload 2, .invokevirtual 240, .iinc 2 1, .goto 2, .return_]
def kc_M_gossip : List Instr := [.aload 0, .iload 1, .invokevirtual 221, .ifCond .eq 10, .iload 2, .i2l, .sipush 0, .sipush 60, .invokestatic 188, .ifCond .ne 12, .iconst (-1), .ireturn, .iconst 1, .iload 1, .ishl, .istore 3, .iconst 1, .istore 4, .iload 4, .iload 2, .if_icmp .gt 28, .aload 0, .iload 3, .iload 4, .invokevirtual 277, .istore 3, .iinc 4 1, .goto 18, .iload 3, .ireturn]
def kc_M_minuteOf : List Instr := [.iload 1, .istore 3, .iconst 0, .istore 4, .iload 4, .aload 0, .invokevirtual 173, .if_icmp .ge 41, .iload 1, .iload 4, .ishr, .iconst 1, .iand, .iconst 1, .if_icmp .ne 39, .iload 3, .aload 0, .iload 4, .aload 0, .iload 4, .invokevirtual 203, .aload 0, .iload 4, .invokevirtual 203, .iload 2, .invokevirtual 278, .ior, .istore 3, .iload 3, .aload 0, .iload 4, .iload 4, .aload 0, .iload 4, .invokevirtual 197, .iload 2, .invokevirtual 278, .ior, .istore 3, .iinc 4 1, .goto 4, .iload 3, .ireturn]
def kc_M_tells : List Instr := [.aload 0, .getfield 1102, .iload 2, .iaload, .istore 5, .aload 0, .getfield 1103, .iload 2, .iaload, .iconst 1, .if_icmp .ne 16, .aload 0, .getfield 1114, .iload 5, .iaload, .goto 20, .aload 0, .getfield 1113, .iload 5, .iaload, .istore 6, .aload 0, .iload 1, .iload 3, .iload 2, .iconst 0, .iload 4, .invokevirtual 279, .istore 7, .iload 7, .aload 0, .iload 1, .iload 6, .iload 2, .iconst 1, .iload 4, .invokevirtual 279, .ior, .istore 7, .iload 7, .aload 0, .iload 1, .aload 0, .iload 6, .invokevirtual 197, .iload 2, .iconst 1, .iload 4, .invokevirtual 279, .ior, .ireturn]
def kc_M_passesTo : List Instr := [.aload 0, .iload 1, .iload 2, .iload 3, .iload 4, .iload 5, .invokevirtual 280, .ifCond .eq 10, .iconst 0, .goto 13, .iconst 1, .iload 2, .ishl, .ireturn]
def kc_M_isBarred : List Instr := [.aload 0, .getfield 1101, .iconst 5, .iaload, .istore 6, .iload 6, .iconst (-1), .if_icmp .ne 10, .iconst 0, .ireturn, .aload 0, .getfield 1140, .iconst 0, .aload 0, .getfield 1102, .iload 3, .iaload, .i2l, .lastore, .aload 0, .getfield 1140, .iconst 1, .aload 0, .getfield 1104, .aload 0, .getfield 1102, .iload 3, .iaload, .iaload, .i2l, .lastore, .aload 0, .getfield 1140, .iconst 2, .iload 1, .i2l, .lastore, .aload 0, .getfield 1140, .iconst 3, .iload 2, .i2l, .lastore, .aload 0, .getfield 1140, .iconst 4, .iload 4, .i2l, .lastore, .aload 0, .getfield 1140, .iconst 5, .aload 0, .getfield 1103, .iload 3, .iaload, .i2l, .lastore, .aload 0, .getfield 1140, .iconst 6, .iload 5, .i2l, .lastore, .aload 0, .getfield 1140, .iconst 7, .aload 0, .invokevirtual 201, .i2l, .lastore, .iconst 12, .iload 6, .imul, .istore 7, .iload 7, .iconst 12, .iload 6, .imul, .aload 0, .getfield 1136, .iload 6, .iaload, .iadd, .if_icmp .ge 103, .aload 0, .iload 6, .aload 0, .getfield 1137, .iload 7, .iaload, .aload 0, .getfield 1138, .iload 7, .iaload, .invokevirtual 281, .sipush 1, .lcmp, .ifCond .ne 101, .iconst 1, .ireturn, .iinc 7 1, .goto 75, .iconst 0, .ireturn]
def kc_M_answer : List Instr := [.iconst 0, .istore 4, .iload 2, .istore 5, .iload 5, .iload 3, .if_icmp .ge 84, .aload 0, .getfield 1134, .iconst 300, .iload 1, .imul, .iload 5, .iadd, .iaload, .istore 6, .aload 0, .getfield 1135, .iconst 300, .iload 1, .imul, .iload 5, .iadd, .iaload, .istore 7, .iload 6, .ifCond .eq 30, .iload 6, .iconst 1, .if_icmp .ne 45, .aload 0, .getfield 1141, .iload 4, .iload 6, .ifCond .ne 38, .iload 7, .i2l, .goto 42, .aload 0, .getfield 1140, .iload 7, .laload, .lastore, .iinc 4 1, .goto 82, .iload 6, .iconst 9, .if_icmp .ne 63, .aload 0, .getfield 1141, .iload 4, .iconst 1, .isub, .sipush 1, .aload 0, .getfield 1141, .iload 4, .iconst 1, .isub, .laload, .lsub, .lastore, .goto 82, .iinc 4 (-1), .aload 0, .getfield 1141, .iload 4, .iconst 1, .isub, .iload 6, .aload 0, .getfield 1141, .iload 4, .iconst 1, .isub, .laload, .aload 0, .getfield 1141, .iload 4, .laload, .invokestatic 282, .lastore, .iinc 5 1, .goto 4, .aload 0, .getfield 1141, .iconst 0, .laload, .lreturn]
def kc_M_both : List Instr := [.iload 0, .tableswitch 83 2 15 #[2, 6, 34, 43, 52, 61, 70, 83, 79, 83, 83, 10, 14, 24], .lload 1, .lload 3, .ladd, .lreturn, .lload 1, .lload 3, .lsub, .lreturn, .lload 1, .lload 3, .lmul, .lreturn, .lload 3, .sipush 0, .lcmp, .ifCond .ne 20, .sipush 0, .goto 23, .lload 1, .lload 3, .ldiv, .lreturn, .lload 3, .sipush 0, .lcmp, .ifCond .ne 30, .sipush 0, .goto 33, .lload 1, .lload 3, .lrem, .lreturn, .lload 1, .lload 3, .lcmp, .ifCond .ge 40, .iconst 1, .goto 41, .iconst 0, .invokestatic 283, .lreturn, .lload 1, .lload 3, .lcmp, .ifCond .gt 49, .iconst 1, .goto 50, .iconst 0, .invokestatic 283, .lreturn, .lload 1, .lload 3, .lcmp, .ifCond .ne 58, .iconst 1, .goto 59, .iconst 0, .invokestatic 283, .lreturn, .lload 1, .lload 3, .lcmp, .ifCond .lt 67, .iconst 1, .goto 68, .iconst 0, .invokestatic 283, .lreturn, .lload 1, .lload 3, .lcmp, .ifCond .le 76, .iconst 1, .goto 77, .iconst 0, .invokestatic 283, .lreturn, .lload 1, .lload 3, .land, .lreturn, .lload 1, .lload 3, .lor, .lreturn]
def kc_M_truth : List Instr := [.iload 0, .ifCond .eq 4, .sipush 1, .goto 5, .sipush 0, .lreturn]
def kc_M_heard : List Instr := [.aload 0, .iload 1, .invokevirtual 221, .ifCond .eq 8, .aload 0, .iload 2, .invokevirtual 221, .ifCond .ne 10, .iconst (-1), .ireturn, .iconst 1, .iload 1, .ishl, .istore 3, .iconst 0, .istore 4, .iload 4, .iconst 60, .if_icmp .gt 37, .iload 3, .iload 2, .ishr, .iconst 1, .iand, .iconst 1, .if_icmp .ne 28, .iload 4, .ireturn, .aload 0, .iload 3, .iload 4, .iconst 1, .iadd, .invokevirtual 277, .istore 3, .iinc 4 1, .goto 16, .iconst (-2), .ireturn]
def kc_M_seed : List Instr := [.iload 1, .ifCond .ge 4, .iconst (-1), .ireturn, .aload 0, .getfield 1101, .iconst 4, .iaload, .istore 2, .aload 0, .getfield 1101, .iconst 4, .iload 1, .iastore, .iload 2, .ireturn]
def kc_M_floods : List Instr := [.iload 1, .i2l, .sipush 1, .sipush 20, .invokestatic 188, .ifCond .eq 27, .iload 2, .i2l, .sipush 0, .sipush 100, .invokestatic 188, .ifCond .eq 27, .aload 0, .iload 3, .invokevirtual 221, .ifCond .eq 27, .aload 0, .iload 4, .invokevirtual 221, .ifCond .eq 27, .aload 0, .iload 3, .invokevirtual 198, .aload 0, .iload 4, .invokevirtual 198, .if_icmp .eq 29, .iconst (-1), .ireturn, .aload 0, .getfield 1101, .iconst 4, .iaload, .istore 5, .iconst 0, .istore 6, .iconst 0, .istore 7, .iload 7, .iload 1, .if_icmp .ge 65, .aload 0, .iload 2, .invokevirtual 287, .istore 8, .iload 6, .aload 0, .iload 3, .iload 4, .iload 8, .invokevirtual 289, .ifCond .ne 58, .aload 0, .iload 4, .iload 3, .iload 8, .invokevirtual 289, .ifCond .eq 60, .iconst 1, .goto 61, .iconst 0, .iadd, .istore 6, .iinc 7 1, .goto 38, .aload 0, .getfield 1101, .iconst 4, .iload 5, .iastore, .iload 6, .ireturn]
def kc_M_drawnFlood : List Instr := [.iconst 0, .istore 2, .iconst 0, .istore 3, .iload 3, .iconst 11, .if_icmp .ge 26, .aload 0, .iload 3, .invokevirtual 196, .ifCond .eq 24, .iload 2, .aload 0, .iconst 100, .invokevirtual 288, .iload 1, .if_icmp .ge 21, .iconst 1, .iload 3, .ishl, .goto 22, .iconst 0, .ior, .istore 2, .iinc 3 1, .goto 4, .iload 2, .ireturn]
def kc_M_draws : List Instr := [.aload 0, .getfield 1101, .iconst 4, .aload 0, .getfield 1101, .iconst 4, .iaload, .i2l, .sipush 1103515245, .lmul, .sipush 12345, .ladd, .sipush 2147483648, .lrem, .l2i, .iastore, .aload 0, .getfield 1101, .iconst 4, .iaload, .iconst 65536, .idiv, .iload 1, .irem, .ireturn]
def kc_M_gets : List Instr := [.iload 1, .istore 4, .iload 4, .iload 2, .if_icmp .eq 26, .aload 0, .iload 4, .invokevirtual 203, .istore 4, .aload 0, .getfield 1103, .iload 4, .iaload, .ifCond .ne 2, .iload 3, .aload 0, .getfield 1102, .iload 4, .iaload, .ishr, .iconst 1, .iand, .iconst 1, .if_icmp .ne 2, .iconst 0, .ireturn, .iconst 1, .ireturn]
def kc_M_count : List Instr := [.iconst 0, .istore 2, .iconst 0, .istore 3, .iload 3, .iconst 11, .if_icmp .ge 22, .iload 2, .aload 0, .iload 3, .invokevirtual 196, .ifCond .eq 17, .aload 0, .getfield 1104, .iload 3, .iaload, .goto 18, .iconst 0, .iadd, .istore 2, .iinc 3 1, .goto 4, .aload 0, .invokevirtual 222, .iload 1, .tableswitch 66 0 10 #[26, 31, 34, 37, 39, 44, 47, 50, 55, 60, 63], .aload 0, .getfield 1101, .iconst 0, .iaload, .ireturn, .aload 0, .invokevirtual 201, .ireturn, .aload 0, .invokevirtual 173, .ireturn, .iload 2, .ireturn, .aload 0, .getfield 1101, .iconst 3, .iaload, .ireturn, .aload 0, .getfield 1144, .ireturn, .aload 0, .getfield 1125, .ireturn, .aload 0, .getfield 1101, .iconst 5, .iaload, .ireturn, .aload 0, .getfield 1101, .iconst 4, .iaload, .ireturn, .aload 0, .getfield 1121, .ireturn, .aload 0, .invokevirtual 202, .ireturn, .iconst (-1), .ireturn]
def kc_M_image : List Instr := [.iload 1, .i2l, .sipush 0, .sipush 3, .invokestatic 188, .ifCond .ne 8, .iconst (-1), .ireturn, .aload 0, .getfield 1156, .iload 1, .iconst 1, .bastore, .aload 0, .iload 1, .iconst 0, .invokevirtual 292, .aload 0, .getfield 1101, .iconst 3, .iaload, .ireturn]
def kc_M_carriesAll : List Instr := [.aload 0, .iconst 70, .iload 1, .imul, .putfield 1157, .aload 0, .iload 2, .putfield 1158, .aload 0, .aload 0, .getfield 1101, .invokevirtual 293, .aload 0, .aload 0, .getfield 1102, .invokevirtual 293, .aload 0, .aload 0, .getfield 1103, .invokevirtual 293, .aload 0, .aload 0, .getfield 1104, .invokevirtual 293, .aload 0, .invokevirtual 172, .return_]
def kc_M_carry : List Instr := [.iconst 0, .istore 2, .iload 2, .aload 1, .arraylength, .if_icmp .ge 34, .aload 0, .getfield 1158, .ifCond .eq 18, .aload 1, .iload 2, .aload 0, .getfield 1155, .aload 0, .getfield 1157, .iaload, .iastore, .goto 26, .aload 0, .getfield 1155, .aload 0, .getfield 1157, .aload 1, .iload 2, .iaload, .iastore, .aload 0, .dup, .getfield 1157, .iconst 1, .iadd, .putfield 1157, .iinc 2 1, .goto 2, .return_]
def kc_M_back : List Instr := [.iload 1, .i2l, .sipush 0, .sipush 3, .invokestatic 188, .ifCond .eq 11, .aload 0, .getfield 1156, .iload 1, .baload, .ifCond .ne 13, .iconst (-1), .ireturn, .aload 0, .iload 1, .iconst 1, .invokevirtual 292, .aload 0, .getfield 1101, .iconst 3, .iaload, .ireturn]
def kMl : List (List Instr × Nat × Nat × Nat × Nat) := [(kc_Law_law, 4, 1, 2, 1000),
  (kc_KT_init, 2, 1, 0, 10),
  (kc_Tape_init, 1, 1, 0, 8),
  (kc_Stand_init, 1, 1, 0, 7),
  (kc_Town_init, 1, 1, 0, 9),
  (kc_Arrays_fill_II, 4, 2, 0, 1000),
  (kc_Land_init, 1, 1, 0, 3),
  (kc_Search_init, 1, 1, 0, 6),
  (kc_Bracket_init, 1, 1, 0, 1),
  (kc_Bows_init, 1, 1, 0, 0),
  (kc_Gossip_init, 1, 1, 0, 2),
  (kc_RuleText_init, 1, 1, 0, 5),
  (kc_KT_feed, 6, 6, 1, 10),
  (kc_Tape_put, 3, 2, 0, 8),
  (kc_KT_end, 2, 2, 1, 10),
  (kc_KT_town, 1, 1, 1, 10),
  (kc_TownText_read, 5, 3, 0, 1000),
  (kc_Town_clear, 1, 1, 0, 9),
  (kc_Town_settle, 2, 1, 0, 9),
  (kc_Town_comeHome, 3, 3, 0, 9),
  (kc_Tape_rewind, 1, 1, 0, 8),
  (kc_TownText_readRoad, 4, 2, 0, 1000),
  (kc_Tape_seesWord, 4, 2, 2, 8),
  (kc_Tape_look, 1, 1, 1, 8),
  (kc_Tape_fail, 2, 2, 0, 8),
  (kc_Tape_takeWord, 2, 2, 2, 8),
  (kc_TownText_readPass, 5, 2, 2, 1000),
  (kc_Tape_seenNumber, 5, 2, 1, 8),
  (kc_Tape_seesNumber, 2, 1, 2, 8),
  (kc_Tape_digitsHere, 2, 1, 1, 8),
  (kc_TownText_isTold, 3, 2, 2, 1000),
  (kc_Tape_skipNumber, 1, 1, 0, 8),
  (kc_Town_append, 2, 2, 0, 9),
  (kc_TownText_readHand, 3, 3, 0, 1000),
  (kc_Tape_takeSign, 2, 2, 2, 8),
  (kc_Tape_atEnd, 1, 1, 2, 8),
  (kc_Town_bridges, 1, 1, 1, 9),
  (kc_Integer_bitCount, 1, 1, 1, 1000),
  (kc_Land_survey, 8, 2, 0, 3),
  (kc_Town_has, 2, 2, 2, 9),
  (kc_Land_lookRound, 10, 3, 0, 3),
  (kc_Town_overAt, 2, 2, 1, 9),
  (kc_Town_underAt, 2, 2, 1, 9),
  (kc_Land_offKey, 1, 1, 1, 1000),
  (kc_Land_list, 4, 3, 0, 3),
  (kc_Land_indexOfMove, 3, 2, 1, 3),
  (kc_Land_roundFrom, 6, 2, 3, 3),
  (kc_Long_bitCount, 2, 1, 1, 1000),
  (kc_Math_max, 2, 2, 1, 1000),
  (kc_Land_listApart, 6, 3, 0, 3),
  (kc_Land_bridgeAtEnd, 4, 2, 1, 1000),
  (kc_Land_timesOver, 3, 2, 1, 1000),
  (kc_Land_stepFrom, 2, 2, 1, 3),
  (kc_Land_apartKey, 2, 2, 1, 1000),
  (kc_Math_min, 2, 2, 1, 1000),
  (kc_Land_listSlide, 9, 3, 0, 3),
  (kc_Land_slideKey, 6, 3, 1, 1000),
  (kc_Town_groups, 3, 1, 1, 9),
  (kc_Town_met, 4, 2, 1, 9),
  (kc_Town_roadStart, 2, 2, 1, 9),
  (kc_Town_roadEnd, 2, 2, 1, 9),
  (kc_Town_copyFrom, 2, 2, 0, 9),
  (kc_KT_forget, 1, 1, 0, 10),
  (kc_Search_forget, 1, 1, 0, 6),
  (kc_KT_rule, 2, 1, 1, 10),
  (kc_RuleText_read, 4, 2, 4, 5),
  (kc_RuleText_readClause, 3, 3, 0, 5),
  (kc_RuleText_readLevel, 6, 4, 0, 5),
  (kc_RuleText_readFact, 4, 3, 0, 5),
  (kc_RuleText_readComparison, 4, 3, 0, 5),
  (kc_RuleText_seenSign, 3, 1, 1, 1000),
  (kc_RuleText_emit, 2, 2, 0, 5),
  (kc_RuleText_readValue, 5, 2, 0, 5),
  (kc_RuleText_seenWord, 2, 1, 1, 1000),
  (kc_RuleText_wordNamed, 1, 1, 4, 1000),
  (kc_RuleText_takenJoint, 2, 2, 1, 1000),
  (kc_Arrays_copyOf, 3, 2, 4, 1000),
  (kc_Rule_init, 3, 3, 0, 4),
  (kc_KT_force, 3, 2, 1, 10),
  (kc_KT_place, 4, 3, 1, 10),
  (kc_Town_hasPlace, 2, 2, 2, 9),
  (kc_Town_roadOf, 2, 2, 1, 9),
  (kc_Bows_find, 4, 2, 0, 0),
  (kc_Bows_findOnRoad, 6, 4, 0, 0),
  (kc_KT_bridge, 4, 3, 1, 10),
  (kc_KT_land, 2, 2, 1, 10),
  (kc_KT_off, 2, 2, 2, 10),
  (kc_KT_moveBy, 3, 2, 2, 10),
  (kc_Land_perform, 4, 3, 0, 3),
  (kc_Land_partOfMove, 3, 2, 1, 1000),
  (kc_Land_gone, 5, 2, 1, 3),
  (kc_Town_drop, 5, 2, 0, 9),
  (kc_Town_swapAlong, 4, 2, 0, 9),
  (kc_KT_apart, 3, 3, 2, 10),
  (kc_KT_slide, 4, 4, 2, 10),
  (kc_KT_change, 3, 2, 1, 10),
  (kc_Town_flip, 4, 2, 0, 9),
  (kc_KT_twist, 6, 4, 1, 10),
  (kc_Town_leastFree, 1, 1, 1, 9),
  (kc_Integer_numberOfTrailingZeros, 2, 1, 1, 1000),
  (kc_Town_insert, 4, 3, 0, 9),
  (kc_KT_mirror, 3, 1, 1, 10),
  (kc_KT_backToFront, 3, 2, 1, 10),
  (kc_Town_reverse, 6, 2, 0, 9),
  (kc_KT_can, 2, 2, 1, 10),
  (kc_Land_movesOfKind, 4, 2, 1, 3),
  (kc_KT_writhe, 1, 1, 1, 10),
  (kc_Town_handsTogether, 1, 1, 1, 9),
  (kc_Town_plusHands, 1, 1, 1, 9),
  (kc_Town_handsOf, 4, 2, 1, 9),
  (kc_KT_linked, 1, 1, 1, 10),
  (kc_Town_sharedHands, 2, 1, 1, 9),
  (kc_KT_colours, 3, 2, 3, 10),
  (kc_Bows_ways, 8, 3, 3, 0),
  (kc_Bows_fill, 4, 2, 0, 0),
  (kc_Arrays_fill_JJ, 5, 2, 0, 1000),
  (kc_Bows_addTo, 4, 3, 0, 0),
  (kc_Math_floorMod, 6, 2, 3, 1000),
  (kc_Bows_pivot, 5, 4, 1, 0),
  (kc_Bows_swapRows, 6, 3, 0, 0),
  (kc_Bows_clearBelow, 12, 4, 0, 0),
  (kc_KT_determinant, 1, 1, 3, 10),
  (kc_Bows_minor, 7, 2, 3, 0),
  (kc_Bows_reduceBelow, 9, 4, 0, 0),
  (kc_Math_abs, 2, 1, 3, 1000),
  (kc_KT_polynomial, 3, 3, 1, 10),
  (kc_Bracket_prepare, 4, 2, 0, 1),
  (kc_Bracket_alone, 2, 2, 1, 1000),
  (kc_Bracket_cut, 11, 5, 0, 1000),
  (kc_Bracket_tie, 5, 3, 1, 1),
  (kc_Bracket_untie, 5, 3, 0, 1),
  (kc_Bracket_addUp, 7, 4, 0, 1),
  (kc_Bracket_numberAt, 2, 2, 1, 1),
  (kc_Bracket_jonesAt, 4, 3, 1, 1),
  (kc_KT_shaken, 1, 1, 1, 10),
  (kc_Search_fewestMoves, 2, 2, 1, 6),
  (kc_Search_shake, 4, 2, 1, 6),
  (kc_Arrays_fill_SS, 4, 2, 0, 1000),
  (kc_Search_pack, 5, 2, 0, 6),
  (kc_Search_freeSlot, 6, 1, 1, 6),
  (kc_Search_add, 4, 4, 0, 6),
  (kc_Search_goOnFrom, 4, 2, 1, 6),
  (kc_Search_unpack, 6, 2, 0, 6),
  (kc_Search_packBehind, 3, 2, 0, 6),
  (kc_Search_depthOf, 5, 2, 1, 6),
  (kc_KT_row, 4, 3, 1, 10),
  (kc_Search_moveOfRow, 5, 2, 1, 6),
  (kc_KT_changes, 4, 2, 1, 10),
  (kc_Search_fewestChanges, 6, 2, 1, 6),
  (kc_Search_tryOut, 4, 3, 2, 6),
  (kc_KT_gossip, 3, 3, 1, 10),
  (kc_KT_ruleInForce, 2, 1, 4, 10),
  (kc_Gossip_spread, 6, 5, 1, 2),
  (kc_Gossip_begin, 3, 3, 0, 2),
  (kc_Gossip_passOn, 6, 4, 2, 2),
  (kc_Gossip_meet, 7, 5, 0, 2),
  (kc_Gossip_tell, 3, 3, 0, 2),
  (kc_Rule_bars, 6, 3, 2, 4),
  (kc_Rule_wordOf, 3, 2, 3, 1000),
  (kc_Rule_reckon, 5, 3, 3, 1000),
  (kc_Rule_compare, 5, 3, 2, 1000),
  (kc_KT_heard, 3, 3, 1, 10),
  (kc_Gossip_minuteOf, 8, 5, 1, 2),
  (kc_KT_seed, 3, 2, 1, 10),
  (kc_KT_floods, 11, 5, 1, 10),
  (kc_KT_drawnAfter, 1, 1, 1, 1000),
  (kc_Town_getsAlong, 7, 4, 2, 9),
  (kc_KT_count, 3, 2, 1, 10),
  (kc_KT_image, 2, 2, 1, 10),
  (kc_Stand_copyFrom, 2, 2, 0, 7),
  (kc_KT_back, 2, 2, 1, 10),
  (kc_M_init, 1, 1, 0, 11),
  (kc_M_refresh, 2, 1, 0, 11),
  (kc_M_places, 1, 1, 1, 11),
  (kc_M_feed, 6, 6, 1, 11),
  (kc_M_put, 3, 2, 0, 11),
  (kc_M_end, 2, 2, 1, 11),
  (kc_M_town, 4, 1, 1, 11),
  (kc_M_starts, 1, 1, 0, 11),
  (kc_M_road, 3, 1, 0, 11),
  (kc_M_blanks, 1, 1, 0, 11),
  (kc_M_sign, 1, 1, 1, 11),
  (kc_M_stood, 5, 2, 2, 11),
  (kc_M_fails, 3, 3, 0, 11),
  (kc_M_pass, 5, 2, 0, 11),
  (kc_M_amount, 5, 3, 1, 11),
  (kc_M_digits, 4, 2, 1, 11),
  (kc_M_isDigit, 1, 1, 2, 11),
  (kc_M_in, 6, 3, 2, 1000),
  (kc_M_signOf, 2, 2, 0, 11),
  (kc_M_goesOn, 2, 1, 2, 11),
  (kc_M_keeps, 1, 1, 0, 11),
  (kc_M_lay, 3, 2, 0, 1000),
  (kc_M_areWhole, 3, 1, 2, 11),
  (kc_M_canBeDrawn, 1, 1, 2, 11),
  (kc_M_fillsLand, 6, 1, 0, 11),
  (kc_M_isBridge, 2, 2, 2, 11),
  (kc_M_ahead, 3, 2, 1, 11),
  (kc_M_roadOf, 2, 2, 1, 11),
  (kc_M_beginOf, 2, 2, 1, 11),
  (kc_M_turns, 5, 5, 0, 11),
  (kc_M_many, 1, 1, 1, 11),
  (kc_M_groups, 6, 1, 1, 11),
  (kc_M_next, 3, 2, 1, 11),
  (kc_M_laysBack, 1, 1, 0, 11),
  (kc_M_rule, 3, 1, 1, 11),
  (kc_M_ruleClause, 4, 2, 0, 11),
  (kc_M_test, 5, 1, 0, 11),
  (kc_M_fact, 1, 1, 2, 11),
  (kc_M_opens, 2, 2, 0, 11),
  (kc_M_compared, 3, 1, 0, 11),
  (kc_M_sum, 2, 1, 0, 11),
  (kc_M_term, 2, 1, 0, 11),
  (kc_M_value, 3, 1, 0, 11),
  (kc_M_isCounted, 2, 2, 0, 11),
  (kc_M_entry, 3, 3, 0, 11),
  (kc_M_wordOf, 1, 1, 4, 1000),
  (kc_M_answers, 2, 2, 0, 11),
  (kc_M_top, 1, 1, 1, 11),
  (kc_M_force, 3, 2, 1, 11),
  (kc_M_place, 3, 3, 1, 11),
  (kc_M_isPlace, 2, 2, 2, 11),
  (kc_M_fillsBows, 3, 1, 0, 11),
  (kc_M_goesUnder, 4, 2, 2, 11),
  (kc_M_bridge, 3, 3, 1, 11),
  (kc_M_land, 5, 2, 1, 11),
  (kc_M_isTown, 1, 1, 2, 11),
  (kc_M_off, 3, 2, 2, 11),
  (kc_M_isOff, 2, 2, 2, 11),
  (kc_M_removes, 6, 2, 0, 11),
  (kc_M_apart, 4, 3, 2, 11),
  (kc_M_isApart, 6, 3, 2, 11),
  (kc_M_isBetween, 6, 4, 2, 11),
  (kc_M_heightOf, 2, 2, 1, 11),
  (kc_M_slide, 5, 4, 2, 11),
  (kc_M_isSlide, 5, 4, 2, 11),
  (kc_M_isSlideLand, 10, 3, 2, 11),
  (kc_M_slides, 2, 1, 0, 11),
  (kc_M_swapsPasses, 5, 2, 0, 11),
  (kc_M_change, 2, 2, 1, 11),
  (kc_M_changes1, 2, 2, 0, 11),
  (kc_M_twist, 7, 4, 1, 11),
  (kc_M_mirror, 2, 1, 1, 11),
  (kc_M_backToFront, 9, 2, 1, 11),
  (kc_M_isOfBoth, 2, 2, 2, 11),
  (kc_M_can, 4, 2, 1, 11),
  (kc_M_kindOf, 1, 1, 1, 1000),
  (kc_M_canMove, 5, 2, 2, 11),
  (kc_M_bridgeOf, 5, 2, 1, 1000),
  (kc_M_writhe, 1, 1, 1, 11),
  (kc_M_sumOfHands, 4, 2, 1, 11),
  (kc_M_linked, 1, 1, 1, 11),
  (kc_M_colours, 12, 2, 3, 11),
  (kc_M_fillsMatrix, 4, 1, 1, 11),
  (kc_M_modulo, 3, 2, 3, 1000),
  (kc_M_swapsRows, 6, 3, 0, 11),
  (kc_M_inverse, 5, 2, 3, 1000),
  (kc_M_determinant, 9, 1, 3, 11),
  (kc_M_polynomial, 6, 3, 1, 11),
  (kc_M_fillsBracket, 3, 1, 0, 11),
  (kc_M_presentSet, 3, 1, 1, 11),
  (kc_M_ones, 3, 1, 1, 1000),
  (kc_M_rings, 4, 2, 1, 11),
  (kc_M_joins, 6, 3, 0, 11),
  (kc_M_adds, 5, 3, 0, 11),
  (kc_M_shaken, 1, 1, 1, 11),
  (kc_M_finds, 4, 1, 1, 11),
  (kc_M_comes, 4, 3, 2, 11),
  (kc_M_isOld, 4, 1, 2, 11),
  (kc_M_fillsRow, 3, 2, 0, 11),
  (kc_M_laysRow, 3, 2, 0, 11),
  (kc_M_does, 3, 2, 0, 11),
  (kc_M_row, 6, 3, 1, 11),
  (kc_M_changes, 3, 2, 1, 11),
  (kc_M_findsChanges, 5, 1, 1, 11),
  (kc_M_changesAll, 3, 2, 0, 11),
  (kc_M_gossip, 5, 3, 1, 11),
  (kc_M_minuteOf, 5, 3, 1, 11),
  (kc_M_tells, 8, 5, 1, 11),
  (kc_M_passesTo, 6, 6, 1, 11),
  (kc_M_isBarred, 8, 6, 2, 11),
  (kc_M_answer, 8, 4, 3, 11),
  (kc_M_both, 5, 3, 3, 1000),
  (kc_M_truth, 1, 1, 3, 1000),
  (kc_M_heard, 5, 3, 1, 11),
  (kc_M_seed, 3, 2, 1, 11),
  (kc_M_floods, 9, 5, 1, 11),
  (kc_M_drawnFlood, 4, 2, 1, 11),
  (kc_M_draws, 2, 2, 1, 11),
  (kc_M_gets, 5, 4, 2, 11),
  (kc_M_count, 4, 2, 1, 11),
  (kc_M_image, 2, 2, 1, 11),
  (kc_M_carriesAll, 3, 3, 0, 11),
  (kc_M_carry, 3, 2, 0, 11),
  (kc_M_back, 2, 2, 1, 11)]
def kms (c : Nat) : Option (List Instr × Nat × Nat × Nat × Nat) := kMl[c]?
